/-! ===== by: boxes, their sums and products; the class's own ===== -/
section BYA
abbrev BV : Type := Option (Int × Int)
def b_mk (l h : Int) : BV := if l < -2147483648 ∨ 2147483648 < h then none else some (l, h)
def b_add (a b : BV) : BV := a.bind fun p => b.bind fun q => b_mk (p.1 + q.1) (p.2 + q.2)
def b_sub (a b : BV) : BV := a.bind fun p => b.bind fun q => b_mk (p.1 - q.2) (p.2 - q.1)
def b_neg (a : BV) : BV := a.bind fun p => some (-p.2, -p.1)
abbrev mn4 (p q : Int × Int) : Int := min (min (p.1 * q.1) (p.1 * q.2)) (min (p.2 * q.1) (p.2 * q.2))
abbrev mx4 (p q : Int × Int) : Int := max (max (p.1 * q.1) (p.1 * q.2)) (max (p.2 * q.1) (p.2 * q.2))
def b_mul (a b : BV) : BV := a.bind fun p => b.bind fun q => b_mk (mn4 p q / 65536) (-(-mx4 p q / 65536))
def b_sq (a : BV) : BV := a.bind fun p => b_mk ((if p.1 ≤ 0 ∧ 0 ≤ p.2 then 0 else min (p.1 * p.1) (p.2 * p.2)) / 65536) (-(-max (p.1 * p.1) (p.2 * p.2) / 65536))
def b_whole (n : Int) (a : BV) : BV := a.bind fun p => b_mk (if n < 0 then n * p.2 else n * p.1) (if n < 0 then n * p.1 else n * p.2)
def b_share (n : Int) (a : BV) : BV := a.bind fun p => some (p.1 / n, -(-p.2 / n))
def b_frac (p q : Int) : BV := b_mk (65536 * p / q) (-(-(65536 * p) / q))
/-- of boxes with a divisor above 0 -/
def b_dvp (p q : Int × Int) : BV := b_mk (65536 * p.1 / (if 0 ≤ p.1 then q.2 else q.1)) (-(-(65536 * p.2) / (if 0 ≤ p.2 then q.1 else q.2)))
def b_div (a b : BV) : BV := a.bind fun p => b.bind fun q => if q.1 ≤ 0 ∧ 0 ≤ q.2 then none else if q.2 < 0 then b_dvp (-p.2, -p.1) (-q.2, -q.1) else b_dvp p q
def isq (n : Nat) : Nat → Nat → Nat
  | 0, r => r
  | k + 1, r => isq n k (if (r + 2 ^ k) * (r + 2 ^ k) ≤ n then r + 2 ^ k else r)
/-- the root from below, of 2^16 times a number -/
def rtb (x : Int) : Int := (isq (65536 * x).toNat 24 0 : Nat)
def b_root (a : BV) : BV := a.bind fun p => some (rtb p.1, if rtb p.2 * rtb p.2 < 65536 * p.2 then rtb p.2 + 1 else rtb p.2)
abbrev b_0 : BV := some (0, 0)
abbrev b_1 : BV := some (65536, 65536)
/-! what stands in the machine -/
abbrev rw3 : Type := Int64 × Int64 × Int32
def RB (r : rw3) (v : BV) : Prop := (r.2.2 = 1 ∧ v = none) ∨ (r.2.2 = 0 ∧ v = some (r.1.toInt, r.2.1.toInt) ∧ -2147483648 ≤ r.1.toInt ∧ r.1.toInt ≤ r.2.1.toInt ∧ r.2.1.toInt ≤ 2147483648)
def x_keep (l h : Int64) : rw3 := (l, h, if l < -2147483648 ∨ 2147483648 < h then 1 else 0)
def x_shut : rw3 := (0, 0, 1)
def rd (σ : mx_S) (a : Nat) : rw3 := (mxL σ a 0, mxL σ a 1, mxI σ a 2)
def bs (σ : mx_S) (a : Nat) (r : rw3) : mx_S := mx_setI (mx_setL (mx_setL σ a 0 r.1) a 1 r.2.1) a 2 r.2.2
variable {P : mx_P} {σ : mx_S} {a b t : Nat} {r r' : rw3} {A B T : BV}
theorem A_bs : mxA (bs σ t r) = mxA σ := rfl
theorem R_bs : mxR (bs σ t r) = mxR σ := rfl
theorem z_bs : mxz (bs σ t r) = mxz σ := rfl
theorem u_bs : mxu (bs σ t r) = mxu σ := rfl
theorem I_bs {q j : Nat} (h : q ≠ t) : mxI (bs σ t r) q j = mxI σ q j := if_neg fun e => h e.1
theorem L_bs {q j : Nat} (h : q ≠ t) : mxL (bs σ t r) q j = mxL σ q j := (if_neg fun e => h e.1).trans (if_neg fun e => h e.1)
theorem rd_e : rd (bs σ t r) t = r := by
  obtain ⟨l, h, o⟩ := r
  unfold rd bs
  rw [q_LI, q_LL, q_LL, if_neg (by omega), if_pos ⟨rfl, rfl⟩, q_LL, if_pos ⟨rfl, rfl⟩, q_II, if_pos ⟨rfl, rfl⟩]
theorem rd_n (h : a ≠ t) : rd (bs σ t r) a = rd σ a := by
  unfold rd; rw [I_bs h, L_bs h, L_bs h]
theorem S_ext {σ τ : mx_S} (h1 : mxA σ = mxA τ) (h2 : mxI σ = mxI τ) (h3 : mxL σ = mxL τ) (h4 : mxR σ = mxR τ) (h5 : mxz σ = mxz τ) (h6 : mxu σ = mxu τ) : σ = τ := by
  obtain ⟨a, b, c, d, e, f⟩ := σ
  obtain ⟨a', b', c', d', e', f'⟩ := τ
  obtain rfl : a = a' := h1
  obtain rfl : b = b' := h2
  obtain rfl : c = c' := h3
  obtain rfl : d = d' := h4
  obtain rfl : e = e' := h5
  obtain rfl : f = f' := h6
  rfl
theorem bs_bs : bs (bs σ t r) t r' = bs σ t r' := by
  refine S_ext rfl ?_ ?_ rfl rfl rfl
  · funext q j
    show (if q = t ∧ j = 2 then _ else (if q = t ∧ j = 2 then _ else _)) = (if q = t ∧ j = 2 then _ else _)
    split <;> rfl
  · funext q j
    show (if q = t ∧ j = 1 then _ else (if q = t ∧ j = 0 then _ else (if q = t ∧ j = 1 then _ else (if q = t ∧ j = 0 then _ else _)))) = (if q = t ∧ j = 1 then _ else (if q = t ∧ j = 0 then _ else _))
    split
    · rfl
    · split <;> rfl
theorem RB_shut : RB x_shut none := Or.inl ⟨rfl, rfl⟩
theorem RB_keep {l h : Int64} (hl : l.toInt ≤ h.toInt) : RB (x_keep l h) (b_mk l.toInt h.toInt) := by
  have e1 : (-2147483648 : Int64).toInt = -2147483648 := by decide
  have e2 : (2147483648 : Int64).toInt = 2147483648 := by decide
  unfold x_keep b_mk
  by_cases hc : l.toInt < -2147483648 ∨ 2147483648 < h.toInt
  · rw [if_pos hc, if_pos (by rw [q_llt, q_llt, e1, e2]; exact hc)]; exact Or.inl ⟨rfl, rfl⟩
  · rw [if_neg hc, if_neg (by rw [q_llt, q_llt, e1, e2]; exact hc)]; exact Or.inr ⟨rfl, rfl, by dsimp only; omega, hl, by dsimp only; omega⟩
theorem RB_keep' {l h : Int64} {x y : Int} (h1 : l.toInt = x) (h2 : h.toInt = y) (hl : x ≤ y) : RB (x_keep l h) (b_mk x y) := by
  subst h1; subst h2; exact RB_keep hl
theorem RB_eq (h : RB r A) (e : A = B) : RB r B := e ▸ h
theorem RB_c (h : RB r A) : r.2.2 = 0 ∨ r.2.2 = 1 := h.elim (fun z => Or.inr z.1) fun z => Or.inl z.1
theorem k_kp (h : mxA σ t = some (.inl 0)) (hb : mpb P ≤ t) (x y : Int64) : f_X0_keep P t x y σ = some (bs σ t (x_keep x y)) := k_keep h hb x y
theorem k_sh (h : mxA σ t = some (.inl 0)) (hb : mpb P ≤ t) : f_X0_shut P t σ = some (bs σ t x_shut) := by
  unfold f_X0_shut
  rw [q_pL h hb, Option.bind_some, q_pL (by exact h) hb, Option.bind_some, q_pZ (by exact h) hb (Or.inr rfl)]; rfl
theorem c_keep {x y : Int64} (h : mxA σ t = some (.inl 0)) (hb : mpb P ≤ t) (hl : x.toInt ≤ y.toInt) : ∃ r, f_X0_keep P t x y σ = some (bs σ t r) ∧ RB r (b_mk x.toInt y.toInt) := ⟨_, k_kp h hb x y, RB_keep hl⟩
theorem c_keep0 (h : mxA σ t = some (.inl 0)) (hb : mpb P ≤ t) : ∃ r, f_X0_keep P t 0 0 σ = some (bs σ t r) ∧ RB r b_0 := ⟨_, k_kp h hb 0 0, Or.inr ⟨rfl, rfl, by decide, by decide, by decide⟩⟩
theorem c_keep1 (h : mxA σ t = some (.inl 0)) (hb : mpb P ≤ t) : ∃ r, f_X0_keep P t 65536 65536 σ = some (bs σ t r) ∧ RB r b_1 := ⟨_, k_kp h hb 65536 65536, Or.inr ⟨by decide, by decide, by decide, by decide, by decide⟩⟩
theorem c_shut (h : mxA σ t = some (.inl 0)) (hb : mpb P ≤ t) : ∃ r, f_X0_shut P t σ = some (bs σ t r) ∧ RB r none := ⟨_, k_sh h hb, RB_shut⟩
theorem c_copy (ht : mxA σ t = some (.inl 0)) (ha : mxA σ a = some (.inl 0)) (hb : mpb P ≤ t) (hA : RB (rd σ a) A) : ∃ r, f_X0_copy P t a σ = some (bs σ t r) ∧ RB r A := by
  have hc := RB_c hA
  refine ⟨rd σ a, ?_, hA⟩
  unfold f_X0_copy
  rw [q_gL ha, Option.bind_some, q_pL ht hb, Option.bind_some, q_gL (by exact ha), Option.bind_some, q_pL (by exact ht) hb, Option.bind_some, q_gI (by exact ha), Option.bind_some]
  have e1 : mxL (mx_setL σ t 0 (mxL σ a 0)) a 1 = mxL σ a 1 := if_neg (by omega)
  rw [e1]
  show (mp_Z P _ t 0 2 (mxI σ a 2)).bind _ = _
  rw [q_pZ (by exact ht) hb (by exact hc)]; rfl
/-- a box opens up -/
theorem RB_o (h : RB (rd σ a) A) : (mxI σ a 2 = 0 ∧ A = some ((mxL σ a 0).toInt, (mxL σ a 1).toInt) ∧ -2147483648 ≤ (mxL σ a 0).toInt ∧ (mxL σ a 0).toInt ≤ (mxL σ a 1).toInt ∧ (mxL σ a 1).toInt ≤ 2147483648) ∨ (¬ mxI σ a 2 = 0 ∧ A = none) := by
  rcases h with ⟨h1, h2⟩ | h
  · right
    refine ⟨fun z => ?_, h2⟩
    have h1 : mxI σ a 2 = 1 := h1
    rw [z] at h1; exact absurd h1 (by decide)
  · exact Or.inl h
section OPS
theorem c_plus (ht : mxA σ t = some (.inl 0)) (ha : mxA σ a = some (.inl 0)) (hb : mxA σ b = some (.inl 0)) (hp : mpb P ≤ t) (hA : RB (rd σ a) A) (hB : RB (rd σ b) B) : ∃ r, f_X0_plus P t a b σ = some (bs σ t r) ∧ RB r (b_add A B) := by
  unfold f_X0_plus f_X0_plus_D14
  simp only [q_gI ha, q_gI hb, q_gL ha, q_gL hb, q_is ht, Option.bind_some, k_kp ht hp, k_sh ht hp]
  rcases RB_o hA with ⟨a0, rfl, a1, a2, a3⟩ | ⟨a0, rfl⟩
  · rcases RB_o hB with ⟨b0, rfl, b1, b2, b3⟩ | ⟨b0, rfl⟩
    · rw [if_pos a0, if_pos b0]
      exact ⟨_, rfl, RB_keep' (q_ladd (by omega) (by omega)) (q_ladd (by omega) (by omega)) (by omega)⟩
    · rw [if_pos a0, if_neg b0]; exact ⟨_, rfl, RB_shut⟩
  · rw [if_neg a0]; exact ⟨_, rfl, RB_shut⟩
theorem c_minus (ht : mxA σ t = some (.inl 0)) (ha : mxA σ a = some (.inl 0)) (hb : mxA σ b = some (.inl 0)) (hp : mpb P ≤ t) (hA : RB (rd σ a) A) (hB : RB (rd σ b) B) : ∃ r, f_X0_minus P t a b σ = some (bs σ t r) ∧ RB r (b_sub A B) := by
  unfold f_X0_minus f_X0_minus_D14
  simp only [q_gI ha, q_gI hb, q_gL ha, q_gL hb, q_is ht, Option.bind_some, k_kp ht hp, k_sh ht hp]
  rcases RB_o hA with ⟨a0, rfl, a1, a2, a3⟩ | ⟨a0, rfl⟩
  · rcases RB_o hB with ⟨b0, rfl, b1, b2, b3⟩ | ⟨b0, rfl⟩
    · rw [if_pos a0, if_pos b0]
      exact ⟨_, rfl, RB_keep' (q_lsub (by omega) (by omega)) (q_lsub (by omega) (by omega)) (by omega)⟩
    · rw [if_pos a0, if_neg b0]; exact ⟨_, rfl, RB_shut⟩
  · rw [if_neg a0]; exact ⟨_, rfl, RB_shut⟩
theorem c_neg (ht : mxA σ t = some (.inl 0)) (ha : mxA σ a = some (.inl 0)) (hp : mpb P ≤ t) (hA : RB (rd σ a) A) : ∃ r, f_X0_negative P t a σ = some (bs σ t r) ∧ RB r (b_neg A) := by
  unfold f_X0_negative
  simp only [q_gI ha, q_gL ha, q_is ht, Option.bind_some, k_kp ht hp, k_sh ht hp]
  rcases RB_o hA with ⟨a0, rfl, a1, a2, a3⟩ | ⟨a0, rfl⟩
  · rw [if_pos a0]
    refine ⟨_, rfl, RB_eq (RB_keep' (q_lneg (by omega)) (q_lneg (by omega)) (by omega)) ?_⟩
    unfold b_mk; rw [if_neg (by omega)]; rfl
  · rw [if_neg a0]; exact ⟨_, rfl, RB_shut⟩
end OPS
end BYA
