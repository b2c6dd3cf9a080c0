/-! ===== jh: fractions compared ===== -/
section JHS
variable {P : mx_P} {σ σ1 τ : mx_S} {a b c d e k p q r m : Nat}
theorem dm_e (p q d : Nat) : p * d = p / q * (q * d) + p % q * d := by
  have h := Nat.div_add_mod p q
  generalize p / q = k at *
  generalize p % q = r at *
  subst h
  grind
theorem cmpq (hq : 0 < q) (hd : 0 < d) : c * q < p * d ↔ (if p / q = c / d then c % d * q < p % q * d else c / d < p / q) := by
  have e1 := dm_e p q d
  have e2 := dm_e c d q
  have m1 := Nat.mod_lt p hq
  have m2 := Nat.mod_lt c hd
  generalize p / q = k at *
  generalize p % q = r at *
  generalize c / d = l at *
  generalize c % d = s at *
  have e3 : d * q = q * d := Nat.mul_comm d q
  rw [e3] at e2
  have f1 : r * d < q * d := Nat.mul_lt_mul_of_pos_right m1 hd
  have f2 : s * q < q * d := by rw [← e3]; exact Nat.mul_lt_mul_of_pos_right m2 hq
  generalize q * d = g at *
  by_cases h : k = l
  · rw [if_pos h]; subst h; omega
  · rw [if_neg h]
    rcases Nat.lt_or_ge k l with h1 | h1
    · have h2 : (k + 1) * g ≤ l * g := Nat.mul_le_mul_right g h1
      rw [Nat.add_mul, Nat.one_mul] at h2
      omega
    · have h2 : (l + 1) * g ≤ k * g := Nat.mul_le_mul_right g (by omega)
      rw [Nat.add_mul, Nat.one_mul] at h2
      omega
/-- the class compares -/
theorem c_abv (hA : mxA σ a = some (.inl 3)) (h0 : mxL σ a 0 = l_n p) (h1 : mxL σ a 1 = l_n q) (hq : 0 < q) (hd : 0 < d) (bp : p < 4611686018427387904) (bq : q < 1073741824) (bc : c < 4611686018427387904) (bd' : d < 1073741824) : f_X3_isAbove P a (l_n c) (l_n d) σ = some (bI (decide (c * q < p * d)), σ) := by
  have hz1 : mr_Z 1 σ = some (1, σ) := if_pos (Or.inr rfl)
  have hz0 : mr_Z 0 σ = some (0, σ) := if_pos (Or.inl rfl)
  have hm := cmpq (p := p) (c := c) hq hd
  have m1 := Nat.mod_lt p hq
  have m2 := Nat.mod_lt c hd
  have d1 := Nat.div_le_self p q
  have d2 := Nat.div_le_self c d
  have g1 : p % q * d < 4611686018427387904 := by
    have : p % q * d ≤ 1073741824 * 1073741824 := Nat.mul_le_mul (by omega) (by omega)
    omega
  have g2 : c % d * q < 4611686018427387904 := by
    have : c % d * q ≤ 1073741824 * 1073741824 := Nat.mul_le_mul (by omega) (by omega)
    omega
  have pos : ∀ k, 0 < k → k < 1073741824 → ¬ lg_cmp (l_n k) (0 : Int64) ≤ 0 := fun k a b => by rw [l_np, l_nT (by omega)]; omega
  unfold f_X3_isAbove f_X3_isAbove_D15 f_X3_isAbove_D54 f_X3_isAbove_D83
  rw [if_neg (pos d hd (by omega)), bd (q_gL hA), h1, if_pos (by rw [l_pos, l_nT (by omega)]; omega), bd (q_gL hA), h0, bd (q_gL hA), h1, k_mdL (by omega) hq (by omega), bds, k_mdL (by omega) hd (by omega), bds]
  by_cases c1 : p / q = c / d
  · rw [if_pos c1] at hm
    rw [if_pos (q_cmp0.mpr (by rw [c1])), bd (q_gL hA), h0, bd (q_gL hA), h1, k_mmL (by omega) hq (by omega), bds, k_mmL (by omega) hd (by omega), bds, bd (q_gL hA), h1, l_nM, l_nM]
    by_cases c2 : c % d * q < p % q * d
    · rw [if_neg (by rw [q_cmp_le, q_lle, l_nT (by omega), l_nT (by omega)]; omega), decide_eq_true (hm.mpr c2)]; exact hz1
    · rw [if_pos (by rw [q_cmp_le, q_lle, l_nT (by omega), l_nT (by omega)]; omega), decide_eq_false (fun z => c2 (hm.mp z))]; exact hz0
  · rw [if_neg c1] at hm
    rw [if_neg (fun z => c1 ((l_nI (by omega) (by omega)).mp (q_cmp0.mp z))), bd (q_gL hA), h0, bd (q_gL hA), h1, k_mdL (by omega) hq (by omega), bds, bds]
    by_cases c2 : c / d < p / q
    · rw [if_neg (by rw [q_cmp_le, q_lle, l_nT (by omega), l_nT (by omega)]; omega), decide_eq_true (hm.mpr c2)]; exact hz1
    · rw [if_pos (by rw [q_cmp_le, q_lle, l_nT (by omega), l_nT (by omega)]; omega), decide_eq_false (fun z => c2 (hm.mp z))]; exact hz0
/-! the reference's comparison, by continued fractions -/
def isK (P : mx_P) : (Int32 × Int64 × Int64 × mx_S) ⊕ (Int64 × Int32 × mx_S) ⊕ (Int32 × mx_S) → Option (Int32 × mx_S) := Sum.elim (fun t => (fun y15 y16 y17 σ18 => (if 0 ≤ (lg_cmp y16 y17) then f_X12_isLess_D52 P y15 (0 : Int32) σ18 else f_X12_isLess_D52 P y15 (1 : Int32) σ18)) t.1 t.2.1 t.2.2.1 t.2.2.2) (Sum.elim (fun t => (fun y21 y22 σ23 => (if (lg_cmp y21 (0 : Int64)) = 0 then f_X12_isLess_D100 P  σ23 else (if y22 = 0 then f_X12_isLess_D100 P  σ23 else f_X12_isLess_D101 P (1 : Int32) σ23))) t.1 t.2.1 t.2.2) (fun t => (fun y26 σ27 => (if y26 = 0 then f_X12_isLess_D119 P (1 : Int32) σ27 else f_X12_isLess_D119 P (0 : Int32) σ27)) t.1 t.2))
def lsB (f : Bool) (a b c d : Nat) : Bool := if f then decide (c * b < a * d) else decide (a * d < c * b)
def ELs (P : mx_P) (σ : mx_S) (k : Nat) : Prop := ∀ a b c d (f : Bool) fu, 0 < b → 0 < d → a < 4611686018427387904 → b < 4611686018427387904 → c < 4611686018427387904 → d < 4611686018427387904 → b < fbS k → k ≤ fu → (mx_lp (f_X12_isLess_L17 P) fu (l_n a, l_n b, l_n c, l_n d, bI f, σ)).bind (isK P) = some (bI (lsB f a b c d), σ)
theorem ls_st {fu : Nat} {f : Bool} (hb : 0 < b) (hd : 0 < d) (ha : a < 4611686018427387904) (hb2 : b < 4611686018427387904) (hc : c < 4611686018427387904) (hd2 : d < 4611686018427387904) (next : a % b ≠ 0 → c % d ≠ 0 → a / b = c / d → (mx_lp (f_X12_isLess_L17 P) fu (l_n b, l_n (a % b), l_n d, l_n (c % d), bI (!f), σ)).bind (isK P) = some (bI (lsB (!f) b (a % b) d (c % d)), σ)) : (mx_lp (f_X12_isLess_L17 P) (fu + 1) (l_n a, l_n b, l_n c, l_n d, bI f, σ)).bind (isK P) = some (bI (lsB f a b c d), σ) := by
  have hz1 : mr_Z 1 σ = some (1, σ) := if_pos (Or.inr rfl)
  have hz0 : mr_Z 0 σ = some (0, σ) := if_pos (Or.inl rfl)
  have m1 := Nat.mod_lt a hb
  have m2 := Nat.mod_lt c hd
  have d1 := Nat.div_le_self a b
  have d2 := Nat.div_le_self c d
  have h1 := cmpq (p := a) (q := b) (c := c) (d := d) hb hd
  have h2 := cmpq (p := c) (q := d) (c := a) (d := b) hd hb
  have body : f_X12_isLess_L17 P (l_n a, l_n b, l_n c, l_n d, bI f, σ) = (if a / b = c / d then (if c % d = 0 then some (.inr (.inr (.inl (l_n (a % b), bI f, σ)))) else (if a % b = 0 then some (.inr (.inr (.inr (bI f, σ)))) else some (.inl (l_n b, l_n (a % b), l_n d, l_n (c % d), bI (!f), σ)))) else some (.inr (.inl (bI f, l_n (a / b), l_n (c / d), σ)))) := by
    show f_X12_isLess_B17 P (l_n a) (l_n b) (l_n c) (l_n d) (bI f) σ = _
    unfold f_X12_isLess_B17 f_X12_isLess_D154_17
    rw [k_mdL (by omega) hb (by omega), bds, k_mdL (by omega) hd (by omega), bds]
    by_cases c1 : a / b = c / d
    · rw [if_pos (q_cmp0.mpr (by rw [c1])), if_pos c1, k_mmL (by omega) hb (by omega), bds, k_mmL (by omega) hd (by omega), bds]
      by_cases c2 : c % d = 0
      · rw [if_pos (q_cmp0.mpr (by rw [c2]; rfl)), if_pos c2]
      · rw [if_neg (fun z => l_nne (by omega) (by omega) (q_cmp0.mp z)), if_neg c2]
        by_cases c3 : a % b = 0
        · rw [if_pos (q_cmp0.mpr (by rw [c3]; rfl)), if_pos c3]
        · rw [if_neg (fun z => l_nne (by omega) (by omega) (q_cmp0.mp z)), if_neg c3]
          cases f <;> rfl
    · rw [if_neg (fun z => c1 ((l_nI (by omega) (by omega)).mp (q_cmp0.mp z))), if_neg c1]
  rw [mx_lpS, body]
  by_cases c1 : a / b = c / d
  · rw [if_pos c1]
    rw [if_pos c1] at h1
    rw [if_pos c1.symm] at h2
    by_cases c2 : c % d = 0
    · rw [if_pos c2]
      rw [c2, Nat.zero_mul] at h1 h2
      show isK P (.inr (.inl (l_n (a % b), bI f, σ))) = _
      unfold isK f_X12_isLess_D100 f_X12_isLess_D101 lsB
      show (if lg_cmp (l_n (a % b)) 0 = 0 then mr_Z 0 σ else (if bI f = 0 then mr_Z 0 σ else mr_Z 1 σ)) = _
      by_cases c3 : a % b = 0
      · rw [c3, Nat.zero_mul] at h1
        rw [if_pos (q_cmp0.mpr (by rw [c3]; rfl))]
        cases f with
        | true => rw [if_pos rfl, decide_eq_false (by omega)]; exact hz0
        | false => rw [if_neg (by decide), decide_eq_false (by omega)]; exact hz0
      · have hp : 0 < a % b * d := Nat.mul_pos (by omega) hd
        rw [if_neg (fun z => l_nne (by omega) (by omega) (q_cmp0.mp z))]
        cases f with
        | true => rw [if_neg (show ¬ bI true = 0 by decide), if_pos rfl, decide_eq_true (by omega)]; exact hz1
        | false => rw [if_pos (show bI false = 0 from rfl), if_neg (by decide), decide_eq_false (by omega)]; exact hz0
    · rw [if_neg c2]
      by_cases c3 : a % b = 0
      · rw [if_pos c3]
        rw [c3, Nat.zero_mul] at h1 h2
        have hp : 0 < c % d * b := Nat.mul_pos (by omega) hb
        show isK P (.inr (.inr (bI f, σ))) = _
        unfold isK f_X12_isLess_D119 lsB
        show (if bI f = 0 then mr_Z 1 σ else mr_Z 0 σ) = _
        cases f with
        | true => rw [if_neg (show ¬ bI true = 0 by decide), if_pos rfl, decide_eq_false (by omega)]; exact hz0
        | false => rw [if_pos (show bI false = 0 from rfl), if_neg (by decide), decide_eq_true (by omega)]; exact hz1
      · rw [if_neg c3]
        have e : lsB (!f) b (a % b) d (c % d) = lsB f a b c d := by
          unfold lsB
          have e1 : d * (a % b) = a % b * d := Nat.mul_comm _ _
          have e2 : b * (c % d) = c % d * b := Nat.mul_comm _ _
          cases f with
          | true =>
            show decide (b * (c % d) < d * (a % b)) = decide (c * b < a * d)
            rw [e1, e2]; exact decide_eq_decide.mpr h1.symm
          | false =>
            show decide (d * (a % b) < b * (c % d)) = decide (a * d < c * b)
            rw [e1, e2]; exact decide_eq_decide.mpr h2.symm
        rw [← e]
        exact next c3 c2 c1
  · rw [if_neg c1]
    rw [if_neg c1] at h1
    rw [if_neg (fun z => c1 z.symm)] at h2
    show isK P (.inl (bI f, l_n (a / b), l_n (c / d), σ)) = _
    unfold isK f_X12_isLess_D52 f_X12_isLess_D62 lsB
    show (if 0 ≤ lg_cmp (l_n (a / b)) (l_n (c / d)) then (if (0 : Int32) = bI f then mr_Z 0 σ else mr_Z 1 σ) else (if (1 : Int32) = bI f then mr_Z 0 σ else mr_Z 1 σ)) = _
    by_cases c2 : c / d < a / b
    · rw [if_pos (by rw [q_cmp_ge, q_lle, l_nT (by omega), l_nT (by omega)]; omega)]
      cases f with
      | true => rw [if_neg (by decide), if_pos rfl, decide_eq_true (h1.mpr c2)]; exact hz1
      | false => rw [if_pos (by rfl), if_neg (by decide), decide_eq_false (fun z => by have := h2.mp z; omega)]; exact hz0
    · rw [if_neg (by rw [q_cmp_ge, q_lle, l_nT (by omega), l_nT (by omega)]; omega)]
      cases f with
      | true => rw [if_pos (by rfl), if_pos rfl, decide_eq_false (fun z => c2 (h1.mp z))]; exact hz0
      | false => rw [if_neg (by decide), if_neg (by decide), decide_eq_true (h2.mpr (by omega))]; exact hz1
theorem eLs : ∀ k, ELs P σ k ∧ ELs P σ (k + 1) := by
  intro k
  induction k with
  | zero =>
    constructor
    · intro a b c d f fu h1 h2 h3 h4 h5 h6 h7 h8
      have : fbS 0 = 1 := rfl
      omega
    · intro a b c d f fu h1 h2 h3 h4 h5 h6 h7 h8
      have hb : b < 2 := h7
      obtain ⟨f', rfl⟩ : ∃ f', fu = f' + 1 := ⟨fu - 1, by omega⟩
      refine ls_st h1 h2 h3 h4 h5 h6 (fun z => ?_)
      rw [show b = 1 by omega, Nat.mod_one] at z
      exact absurd rfl z
  | succ k ih =>
    obtain ⟨i1, i2⟩ := ih
    refine ⟨i2, fun a b c d f fu h1 h2 h3 h4 h5 h6 h7 h8 => ?_⟩
    have h7' : b < fbS (k + 1) + fbS k := h7
    obtain ⟨f', rfl⟩ : ∃ f', fu = f' + 1 := ⟨fu - 1, by omega⟩
    have m1 := Nat.mod_lt a h1
    have m2 := Nat.mod_lt c h2
    refine ls_st h1 h2 h3 h4 h5 h6 (fun z1 z2 _ => ?_)
    by_cases c1 : a % b < fbS (k + 1)
    · exact i2 b (a % b) d (c % d) (!f) f' (by omega) (by omega) h4 (by omega) h6 (by omega) c1 (by omega)
    · have hle : b % (a % b) ≤ b - a % b := by
        rw [Nat.mod_eq_sub_mod (show b ≥ a % b by omega)]
        exact Nat.mod_le _ _
      have m3 := Nat.mod_lt b (show 0 < a % b by omega)
      have m4 := Nat.mod_lt d (show 0 < c % d by omega)
      obtain ⟨f'', rfl⟩ : ∃ f'', f' = f'' + 1 := ⟨f' - 1, by omega⟩
      refine ls_st (by omega) (by omega) h4 (by omega) h6 (by omega) (fun z3 z4 _ => ?_)
      exact i1 (a % b) (b % (a % b)) (c % d) (d % (c % d)) (!!f) f'' (by omega) (by omega) (by omega) (by omega) (by omega) (by omega) (by omega) (by omega)
/-- the reference compares -/
theorem r_lss (hf : 100 ≤ mpN P) (hb : 0 < b) (hd : 0 < d) (ha : a < 4611686018427387904) (hb2 : b < 4611686018427387904) (hc : c < 4611686018427387904) (hd2 : d < 4611686018427387904) : f_X12_isLess P (l_n a) (l_n b) (l_n c) (l_n d) σ = some (bI (decide (a * d < c * b)), σ) :=
  (eLs (P := P) (σ := σ) 90).1 a b c d false (mpN P) hb hd ha hb2 hc hd2 (by have := fb_90; omega) (by omega)
end JHS
