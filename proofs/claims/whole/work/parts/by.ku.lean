/-! ===== ku: lift, the class ===== -/
section KUS
variable {P : mx_P} {σ σ1 τ : mx_S} {x n c m k g f a b p q r : Nat} {W K L : Nat → Nat} {T B : Nat → Int} {o : Option (Int × Int)} {u v : Int64}
/-- the lift before statement k -/
def liP (K : Nat → Nat) (T B : Nat → Int) : Nat → Option (Int × Int)
  | 0 => some (0, 1)
  | k + 1 => if K k = 0 then liP K T B k else fadd (liP K T B k) (cmT K T k) (B k)
/-- what is right with each statement -/
def CmP (n : Nat) (W K L : Nat → Nat) (T B : Nat → Int) : Prop := n ≤ 30 ∧ ∀ k, k < n → 1 ≤ W k ∧ W k ≤ 360 ∧ K k ≤ 2 ∧ (K k ≠ 0 → 1 ≤ L k ∧ L k ≤ 4 ∧ 1 ≤ T k ∧ T k ≤ 60 * B k ∧ 1 ≤ B k ∧ B k ≤ 9999 ∧ gcI (T k) (B k) = 1)
theorem CmO.pp (h : CmO n W K L T B) : CmP n W K L T B := ⟨h.1, h.2.1⟩
theorem OKf_lp (ho : CmP n W K L T B) (hk : k ≤ n) : OKf (liP K T B k) := by
  induction k with
  | zero => exact OK1 0 (by decide)
  | succ k ih =>
    unfold liP
    split
    · exact ih (by omega)
    · rename_i z
      exact OKf_a (ih (by omega)) ((ho.2 k (by omega)).2.2.2 z).2.2.2.2.1
/-- the part of a statement, r/q degrees of w behind its beginning -/
def liT (r q w : Nat) : Int × Int := (ftx ((r : Int) / (gcI r q : Int)) ((q : Int) / (gcI r q : Int)) 1 w, ftz ((r : Int) / (gcI r q : Int)) ((q : Int) / (gcI r q : Int)) 1 w)
def liO (W K L : Nat → Nat) (T B : Nat → Int) (p q k : Nat) : Option (Int × Int) := if K k = 0 then liP K T B k else (fmul (lwO (L k) (liT (p - kqs k W * q) q (W k)).1 (liT (p - kqs k W * q) q (W k)).2) (T k) (B k)).bind fun z => fadd (liP K T B k) (if K k = 2 then -z.1 else z.1) z.2
theorem li_X (hq : 1 ≤ q) (hq2 : q ≤ 1000) (hr : r ≤ 360000) : 1 ≤ (q : Int) / (gcI r q : Int) ∧ gcI ((r : Int) / (gcI r q : Int)) ((q : Int) / (gcI r q : Int)) = 1 ∧ ((r : Int) / (gcI r q : Int)).natAbs ≤ 360000 ∧ ((q : Int) / (gcI r q : Int)).natAbs ≤ 1000 := by
  have g := gc_pos (c := (r : Int)) (d := (q : Int)) (by omega)
  have b1 := dvb g (gc_l (c := (r : Int)) (d := (q : Int)))
  have b2 := dvb g (gc_r (c := (r : Int)) (d := (q : Int)))
  exact ⟨dvp g gc_r (by omega), lw_1 (by omega), by omega, by omega⟩
theorem li_t {w : Nat} (hq : 1 ≤ q) (hq2 : q ≤ 1000) (hr : r ≤ 360000) (hw : 1 ≤ w) (hw2 : w ≤ 360) : fmul (some ((r : Int) / (gcI r q : Int), (q : Int) / (gcI r q : Int))) 1 w = some (liT r q w) ∧ 1 ≤ (liT r q w).2 ∧ gcI (liT r q w).1 (liT r q w).2 = 1 ∧ (liT r q w).1.natAbs ≤ 1000000000 ∧ (liT r q w).2.natAbs ≤ 1000000000 := by
  obtain ⟨h1, h2, h3, h4⟩ := li_X hq hq2 hr
  have ok : fto ((r : Int) / (gcI r q : Int)) ((q : Int) / (gcI r q : Int)) 1 (w : Int) := by
    refine fto_s (by omega) (by omega) (by show _ * 1 ≤ _; omega) ?_
    have := Nat.mul_le_mul h4 (show (w : Int).natAbs ≤ 360 by omega)
    omega
  have e : fmul (some ((r : Int) / (gcI r q : Int), (q : Int) / (gcI r q : Int))) 1 w = some (liT r q w) := by
    unfold fmul
    rw [Option.bind_some, if_pos ok]
    rfl
  have okf := OKf_m (c := 1) (d := (w : Int)) (OKs h1 h2 (by omega) (by omega)) (by omega) (gc_1l _)
  obtain ⟨k1, k2, -, -⟩ := okf _ e
  refine ⟨e, k1, k2, ?_, ?_⟩
  · show (ftx _ _ _ _).natAbs ≤ _
    unfold ftx
    rw [Int.natAbs_mul]
    have b1 := dvb (gc_pos (c := (r : Int) / (gcI r q : Int)) (d := (w : Int)) (by omega)) (gc_l (c := (r : Int) / (gcI r q : Int)) (d := (w : Int)))
    have b2 := dvb (gc_pos (c := 1) (d := (q : Int) / (gcI r q : Int)) (by omega)) (gc_l (c := 1) (d := (q : Int) / (gcI r q : Int)))
    have := Nat.mul_le_mul (Nat.le_trans b1 h3) (Nat.le_trans b2 (show (1 : Int).natAbs ≤ 1 by decide))
    omega
  · show (ftz _ _ _ _).natAbs ≤ _
    unfold ftz
    rw [Int.natAbs_mul]
    have b1 := dvb (gc_pos (c := (r : Int) / (gcI r q : Int)) (d := (w : Int)) (by omega)) (gc_r (c := (r : Int) / (gcI r q : Int)) (d := (w : Int)))
    have b2 := dvb (gc_pos (c := 1) (d := (q : Int) / (gcI r q : Int)) (by omega)) (gc_r (c := 1) (d := (q : Int) / (gcI r q : Int)))
    have := Nat.mul_le_mul (Nat.le_trans b2 h4) (Nat.le_trans b1 (show (w : Int).natAbs ≤ 360 by omega))
    omega
/-- the sign of a statement times a number -/
theorem c_sgn {y : Int} (hk : K k ≠ 0) (hk2 : K k ≤ 2) (h : B64 u y 1000000000000000) : B64 ((if K k = 0 then (0 : Int32) else if K k = 1 then 1 else -1).toInt64 * u) (if K k = 2 then -y else y) 1000000000000000 := by
  rw [if_neg hk]
  by_cases k1 : K k = 1
  · rw [if_pos k1, if_neg (by omega)]
    have := b64M (show B64 ((1 : Int32).toInt64) 1 1 from ⟨by decide, by decide⟩) h (by omega)
    rw [Int.one_mul, Nat.one_mul] at this
    exact this
  · rw [if_neg k1, if_pos (by omega)]
    have := b64M (show B64 ((-1 : Int32).toInt64) (-1) 1 from ⟨by decide, by decide⟩) h (by omega)
    rw [Int.neg_mul, Int.one_mul, Nat.one_mul] at this
    exact this
theorem c_wlS (hf : 5000 ≤ mpN P) (hC : LyC (mxA σ) (mxR σ) c) (hA : mxA σ f = some (.inl 3)) (hbf : mpb P ≤ f) (ho : CmP n W K L T B) (h : CmC σ c n W K L T B) (hk : k < n) (hO : FOc σ f o) : ∃ τ, f_X1_addWhole P c (q_n k) f σ = some τ ∧ Fz (fun q j => q = f ∧ j ≤ 2) σ τ ∧ FOc τ f (if K k = 0 then o else fadd o (cmT K T k) (B k)) := by
  have n30 := ho.1
  obtain ⟨w1, w2, k2, oo⟩ := ho.2 k hk
  obtain ⟨h1, h2, h3, h4⟩ := h.2 k hk
  unfold f_X1_addWhole f_X1_addWhole_D33
  rw [bd (ac_r2 hC), bd (ac_g2 hC (by omega)), h2]
  by_cases k0 : K k = 0
  · rw [if_pos k0, if_pos rfl, if_pos k0]
    exact ⟨σ, rfl, Fz.rf, hO⟩
  · obtain ⟨l1, l4, t1, t2, b1, b2, gg⟩ := oo k0
    have bT : B64 (mxL σ (c + 4) k) (T k) 1000000000000000 := ⟨(h4 k0).1, by omega⟩
    have bB : B64 (mxL σ (c + 5) k) (B k) 1000000000000000 := ⟨(h4 k0).2, by omega⟩
    obtain ⟨τ, e, f1, g⟩ := c_addO (P := P) hf hA hbf hO (c_sgn k0 k2 bT) bB b1
    rw [if_neg (show ¬ (if K k = 0 then (0 : Int32) else if K k = 1 then 1 else -1) = 0 by rw [if_neg k0]; split <;> decide), bd (ac_r2 hC), bd (ac_g2 hC (by omega)), h2, bd (ac_r4 hC), bd (ac_g4 hC (by omega)), bd (ac_r5 hC), bd (ac_g5 hC (by omega)), bd (q_is hA), bd e]
    refine ⟨τ, rfl, f1, ?_⟩
    rw [if_neg k0]
    exact g
theorem c_prt (hf : 5000 ≤ mpN P) (hC : LyC (mxA σ) (mxR σ) c) (hb : mpb P ≤ c) (hA : mxA σ f = some (.inl 3)) (hbf : mpb P ≤ f) (hfc : f < c) (ho : CmO n W K L T B) (h : CmC σ c n W K L T B) (hk : k < n) (hO : FOc σ f o) (hq : 1 ≤ q) (hq2 : q ≤ 1000) (hr : r ≤ 360000) : ∃ τ, f_X1_addPart P c (q_n k) (l_n r) (l_n q) f σ = some τ ∧ Fz (fun q j => (q = f ∨ q = c + 6 ∨ q = c + 7) ∧ j ≤ 2) σ τ ∧ FOc τ f (if K k = 0 then o else (fmul (lwO (L k) (liT r q (W k)).1 (liT r q (W k)).2) (T k) (B k)).bind fun z => fadd o (if K k = 2 then -z.1 else z.1) z.2) := by
  have n30 := ho.1
  obtain ⟨w1, w2, k2, oo⟩ := ho.2.1 k hk
  obtain ⟨h1, h2, h3, h4⟩ := h.2 k hk
  unfold f_X1_addPart
  rw [bd (ac_r2 hC), bd (ac_g2 hC (by omega)), h2]
  by_cases k0 : K k = 0
  · rw [if_pos k0, if_pos rfl, if_pos k0]
    exact ⟨σ, rfl, Fz.rf, hO⟩
  · obtain ⟨l1, l4, t1, t2, b1, b2, gg⟩ := oo k0
    rw [if_neg (show ¬ (if K k = 0 then (0 : Int32) else if K k = 1 then 1 else -1) = 0 by rw [if_neg k0]; split <;> decide)]
    obtain ⟨lt, lt1, lt2, lt3, lt4⟩ := li_t (r := r) (q := q) (w := W k) hq hq2 hr w1 w2
    obtain ⟨s1, e1, g1, f1⟩ := c_setO (P := P) (u := l_n r) (v := l_n q) (p := r) (q := q) hf (LyC_a6 hC) (by omega) (l_nB (by omega) (by omega)) (l_nB (by omega) (by omega)) (by omega)
    have C1 := f1.C hC
    obtain ⟨s2, e2, f2, g2⟩ := c_mulO (P := P) (w := 1) (c := 1) (t := l_n (W k)) (d := W k) hf (LyC_a6 C1) (by omega) g1 ⟨rfl, by decide⟩ (l_nB (by omega) (by omega)) (by omega)
    have C2 := f2.C C1
    rw [lt] at g2
    have F2 : Fz (cm67 c) σ s2 := (f1.tr f2).mo n67
    have h67 : ∀ q j, cm67 c q j → q < c ∨ c + 6 ≤ q := fun q j y => by unfold cm67 at y; omega
    have hc1 := (h.fz (f1.mo n67) h67).2 k hk
    have hc2 := (h.fz F2 h67).2 k hk
    rw [bd (ac_r6 hC), bd (q_is (LyC_a6 hC)), bd e1, bd (ac_r6 C1), bd (ac_r1 C1), bd (ac_g1 C1 (by omega)), hc1.1, bd (q_is (LyC_a6 C1)), q_nL (by omega), bd e2, bd (ac_r3 C2), bd (ac_g3 C2 (by omega)), hc2.2.2.1, if_neg k0, if_neg k0]
    -- the rest, behind the law
    have rest : ∀ s, Fz (cm67 c) s2 s → FOc s (c + 7) (lwO (L k) (liT r q (W k)).1 (liT r q (W k)).2) → ∃ τ, f_X1_addPart_D100 P c (q_n k) f s = some τ ∧ Fz (fun q j => (q = f ∨ q = c + 6 ∨ q = c + 7) ∧ j ≤ 2) σ τ ∧ FOc τ f ((fmul (lwO (L k) (liT r q (W k)).1 (liT r q (W k)).2) (T k) (B k)).bind fun z => fadd o (if K k = 2 then -z.1 else z.1) z.2) := fun s Fs gs => by
      have Cs := Fs.C C2
      have hcs := (h.fz (F2.tr Fs) h67).2 k hk
      have As := (F2.tr Fs).A3 hA
      have bT : B64 (mxL s (c + 4) k) (T k) 1000000000000000 := ⟨(hcs.2.2.2 k0).1, by omega⟩
      have bB : B64 (mxL s (c + 5) k) (B k) 1000000000000000 := ⟨(hcs.2.2.2 k0).2, by omega⟩
      obtain ⟨s3, e3, f3, g3⟩ := c_mulO (P := P) hf (LyC_a7 Cs) (by omega) gs bT bB b1
      have C3 := f3.C Cs
      have F3 : Fz (cm67 c) σ s3 := (F2.tr Fs).tr (f3.mo m67)
      have hc3 := (h.fz F3 h67).2 k hk
      have A3 := F3.A3 hA
      have hO3 : FOc s3 f o := hO.fz F3 fun j y => by unfold cm67 at y; omega
      obtain ⟨s4, e4, f4, g4⟩ := c_addO (P := P) hf A3 hbf hO3 (c_sgn k0 k2 g3.1) g3.2.1 g3.2.2.1
      have C4 := f4.C C3
      have y4 : mxI s4 (c + 7) 2 = mxI s3 (c + 7) 2 := f4.gi (by omega)
      have F4 : Fz (fun q j => (q = f ∨ q = c + 6 ∨ q = c + 7) ∧ j ≤ 2) σ s4 := (F3.mo fun q j y => ⟨Or.inr y.1, y.2⟩).tr (f4.mo fun q j y => ⟨Or.inl y.1, y.2⟩)
      unfold f_X1_addPart_D100 f_X1_addPart_D162
      rw [bd (ac_r7 Cs), bd (ac_r4 Cs), bd (ac_g4 Cs (by omega)), bd (ac_r5 Cs), bd (ac_g5 Cs (by omega)), bd (q_is (LyC_a7 Cs)), bd e3, bd (ac_r2 C3), bd (ac_g2 C3 (by omega)), hc3.2.1, bd (ac_r7 C3), bd (q_gL (LyC_a7 C3)), bd (ac_r7 C3), bd (q_gL (LyC_a7 C3)), bd (q_is A3), bd e4, bd (ac_r7 C4), bd (q_gI (LyC_a7 C4)), y4]
      generalize fmul (lwO (L k) (liT r q (W k)).1 (liT r q (W k)).2) (T k) (B k) = y2 at g3 ⊢
      cases y2 with
      | some z =>
        obtain ⟨-, -, -, z0, z1, z2⟩ := g3
        rw [if_pos z0]
        refine ⟨s4, rfl, F4, ?_⟩
        rw [Option.bind_some, ← z1, ← z2]
        exact g4
      | none =>
        obtain ⟨-, -, -, z0⟩ := g3
        rw [if_neg (by rw [z0]; decide), bd (q_pZ (F4.A3 hA) hbf (Or.inr rfl))]
        exact ⟨_, rfl, F4.sI ⟨Or.inl rfl, by omega⟩ _, g4.1, g4.2.1, g4.2.2.1, sI_e⟩
    obtain el | el | el | el : L k = 1 ∨ L k = 2 ∨ L k = 3 ∨ L k = 4 := by omega
    · rw [el, if_neg (by decide), if_neg (by decide), if_neg (by decide)]
      obtain ⟨s3, e3, y0, y1, y2, f3⟩ := c_cpy (P := P) (LyC_a7 C2) (LyC_a6 C2) (by omega) (by omega) (Or.inl g2.2.2.2.1)
      rw [bd (ac_r7 C2), bd (ac_r6 C2), bd (q_is (LyC_a7 C2)), bd e3]
      rw [el] at rest
      refine rest s3 (f3.mo m67) ?_
      unfold lwO FOc
      rw [if_pos rfl, y0, y1, y2]
      exact g2
    · rw [el, if_pos (show q_n 2 = (2 : Int32) from rfl)]
      rw [el] at rest
      obtain ⟨s3, e3, f3, g3⟩ := c_par (P := P) hf C2 hb g2 lt3 lt4
      rw [bd (ac_is C2), bd e3]
      exact rest s3 f3 g3
    · rw [el, if_neg (show ¬ q_n 3 = (2 : Int32) by decide), if_pos (show q_n 3 = (3 : Int32) from rfl)]
      rw [el] at rest
      obtain ⟨s3, e3, f3, g3⟩ := c_fif (P := P) hf C2 hb g2
      rw [bd (ac_is C2), bd e3]
      exact rest s3 f3 g3
    · rw [el, if_neg (show ¬ q_n 4 = (2 : Int32) by decide), if_neg (show ¬ q_n 4 = (3 : Int32) by decide), if_pos (show q_n 4 = (4 : Int32) from rfl)]
      rw [el] at rest
      obtain ⟨s3, e3, f3, g3⟩ := c_sev (P := P) hf C2 hb g2
      rw [bd (ac_is C2), bd e3]
      exact rest s3 f3 g3
/-- which statement p/q degrees fall into -/
theorem li_k (h : p < kqs n W * q) : ∃ k, k < n ∧ p < kqs (k + 1) W * q ∧ kqs k W * q ≤ p ∧ ∀ j, j < k → kqs (j + 1) W * q ≤ p := by
  induction n with
  | zero => unfold kqs at h; omega
  | succ n ih =>
    by_cases z : p < kqs n W * q
    · obtain ⟨k, h1, h2⟩ := ih z
      exact ⟨k, by omega, h2⟩
    · refine ⟨n, by omega, h, by omega, fun j hj => ?_⟩
      apply Classical.byContradiction
      intro y
      have : kqs (j + 1) W ≤ kqs n W := by
        clear h ih z y
        induction n with
        | zero => omega
        | succ n ih =>
          by_cases e : j = n
          · rw [e]; exact Nat.le_refl _
          · have := ih (by omega)
            have e2 : kqs (n + 1) W = kqs n W + W n := rfl
            omega
      have := Nat.mul_le_mul_right q this
      omega
theorem kqs_360 (ho : CmO n W K L T B) (hn : n ≠ 0) (hk : k ≤ n) : kqs k W ≤ 360 := by
  rcases ho.2.2 with z | ⟨z, -⟩
  · exact absurd z hn
  · rw [← z]
    clear z ho
    induction n with
    | zero => omega
    | succ n ih =>
      by_cases e : k = n + 1
      · rw [e]; exact Nat.le_refl _
      · have e2 : kqs (n + 1) W = kqs n W + W n := rfl
        by_cases n0 : n = 0
        · subst n0
          have : k = 0 := by omega
          rw [this]; exact Nat.zero_le _
        · have := ih n0 (by omega)
          omega
theorem c_lif (hf : 5000 ≤ mpN P) (hC : LyC (mxA σ) (mxR σ) c) (hb : mpb P ≤ c) (hA : mxA σ f = some (.inl 3)) (hbf : mpb P ≤ f) (hfc : f < c) (ho : CmO n W K L T B) (h : CmC σ c n W K L T B) (hn : n ≠ 0) (hk : k < n) (hq : 1 ≤ q) (hq2 : q ≤ 1000) (hp : p < 360 * q) (k1 : p < kqs (k + 1) W * q) (k2 : kqs k W * q ≤ p) (k3 : ∀ j, j < k → kqs (j + 1) W * q ≤ p) : ∃ τ, f_X1_reckonLift P c (l_n p) (l_n q) f σ = some τ ∧ Fz (fun q j => (q = f ∨ q = c + 6 ∨ q = c + 7) ∧ j ≤ 2) σ τ ∧ FOc τ f (liO W K L T B p q k) := by
  have hS : ∀ q j, ((q = f ∨ q = c + 6 ∨ q = c + 7) ∧ j ≤ 2) → q < c ∨ c + 6 ≤ q := fun q j y => by omega
  have n30 := ho.1
  obtain ⟨s0, e0, g0, f0⟩ := c_set1 (P := P) (u := 0) (p := 0) hf hA hbf ⟨rfl, by decide⟩
  have m1 : ∀ q j, (q = f ∧ j ≤ 2) → ((q = f ∨ q = c + 6 ∨ q = c + 7) ∧ j ≤ 2) := fun q j y => ⟨Or.inl y.1, y.2⟩
  have wid : ∀ j, j < n → kqs j W ≤ 360 ∧ W j ≤ 360 ∧ kqs (j + 1) W = kqs j W + W j := fun j hj => ⟨kqs_360 ho hn (by omega), (ho.2.1 j hj).2.1, rfl⟩
  have cmp : ∀ j, j < n → (0 ≤ lg_cmp (l_n p) ((l_n (kqs j W) + l_n (W j)) * l_n q) ↔ kqs (j + 1) W * q ≤ p) := fun j hj => by
    obtain ⟨a1, a2, a3⟩ := wid j hj
    have : kqs (j + 1) W * q ≤ 720 * 1000 := Nat.mul_le_mul (by omega) hq2
    rw [l_nA, l_nM, q_cmp_ge, ← a3, l_nLe (by omega) (by omega)]
  obtain ⟨r, e1, ⟨s, er, F, g⟩⟩ := q_for (f_X1_reckonLift_L13 P c (l_n p) (l_n q) f) (fun i t => t.1 = l_n (kqs i W) ∧ t.2.1 = q_n i ∧ Fz (fun q j => (q = f ∨ q = c + 6 ∨ q = c + 7) ∧ j ≤ 2) σ t.2.2 ∧ FOc t.2.2 f (liP K T B i)) (fun r => ∃ s, r = .inl (l_n (kqs k W), q_n k, s) ∧ Fz (fun q j => (q = f ∨ q = c + 6 ∨ q = c + 7) ∧ j ≤ 2) σ s ∧ FOc s f (liP K T B k)) k
    (by
      rintro i ⟨v6, v8, s⟩ hi ⟨i1, i2, F, g⟩
      dsimp only at i1 i2 F g
      subst i1 i2
      left
      have Cs := F.C hC
      have hs := h.fz F hS
      obtain ⟨s1, e1, f1, g1⟩ := c_wlS (P := P) (k := i) hf Cs (F.A3 hA) hbf ho.pp hs (by omega) g
      have C1 := f1.C Cs
      have F1 := F.tr (f1.mo m1)
      have hs1 := h.fz F1 hS
      obtain ⟨a1, a2, a3⟩ := wid i (by omega)
      show ∃ t', f_X1_reckonLift_B13 P c (l_n p) (l_n q) f (l_n (kqs i W)) (q_n i) s = some (.inl t') ∧ _
      unfold f_X1_reckonLift_B13
      rw [bd (ac_gI Cs), hs.1, if_neg (qn_ge (show i < n by omega) (by omega)), bd (ac_r1 Cs), bd (ac_g1 Cs (by omega)), (hs.2 i (by omega)).1, q_nL (by omega), if_pos ((cmp i (by omega)).mpr (k3 i hi)), bd (ac_is Cs), bd e1, bd (ac_r1 C1), bd (ac_g1 C1 (by omega)), (hs1.2 i (by omega)).1, q_nL (by omega), Option.bind_some, Option.bind_some, q_nS, l_nA]
      exact ⟨_, rfl, rfl, rfl, F1, g1⟩)
    (by
      rintro ⟨v6, v8, s⟩ ⟨i1, i2, F, g⟩
      dsimp only at i1 i2 F g
      subst i1 i2
      have Cs := F.C hC
      have hs := h.fz F hS
      obtain ⟨a1, a2, a3⟩ := wid k hk
      show ∃ r, f_X1_reckonLift_B13 P c (l_n p) (l_n q) f (l_n (kqs k W)) (q_n k) s = some (.inr r) ∧ _
      unfold f_X1_reckonLift_B13
      rw [bd (ac_gI Cs), hs.1, if_neg (qn_ge hk (by omega)), bd (ac_r1 Cs), bd (ac_g1 Cs (by omega)), (hs.2 k hk).1, q_nL (by omega), if_neg (fun y => by have := (cmp k hk).mp y; omega)]
      exact ⟨_, rfl, s, rfl, F, g⟩)
    k 0 ((0 : Int64), (0 : Int32), s0) (mpN P) (by omega) ⟨rfl, rfl, f0.mo m1, g0⟩ (by omega)
  have Cs := F.C hC
  have hs := h.fz F hS
  obtain ⟨τ, e2, f2, g2⟩ := c_prt (P := P) (r := p - kqs k W * q) hf Cs hb (F.A3 hA) hbf hfc ho hs hk g hq hq2 (by omega)
  refine ⟨τ, ?_, F.tr f2, g2⟩
  unfold f_X1_reckonLift
  rw [bd (q_is hA), bd e0, bd e1, er]
  show (mx_is s c 1).bind _ = _
  rw [bd (ac_is Cs), l_nM, l_nsub k2, bd e2]
end KUS
