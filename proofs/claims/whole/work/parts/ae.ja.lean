/-! ===== ja: Euclid, both ===== -/
section JAS
variable {P : mx_P} {σ σ1 τ : mx_S} {a b c d k n g : Nat} {x y : Int64}
def fbS : Nat → Nat
  | 0 => 1
  | 1 => 2
  | k + 2 => fbS (k + 1) + fbS k
theorem fb10 (k : Nat) : fbS (k + 10) = 55 * fbS (k + 1) + 34 * fbS k ∧ fbS (k + 11) = 89 * fbS (k + 1) + 55 * fbS k := by
  have e2 : fbS (k + 2) = fbS (k + 1) + fbS k := rfl
  have e3 : fbS (k + 3) = fbS (k + 2) + fbS (k + 1) := rfl
  have e4 : fbS (k + 4) = fbS (k + 3) + fbS (k + 2) := rfl
  have e5 : fbS (k + 5) = fbS (k + 4) + fbS (k + 3) := rfl
  have e6 : fbS (k + 6) = fbS (k + 5) + fbS (k + 4) := rfl
  have e7 : fbS (k + 7) = fbS (k + 6) + fbS (k + 5) := rfl
  have e8 : fbS (k + 8) = fbS (k + 7) + fbS (k + 6) := rfl
  have e9 : fbS (k + 9) = fbS (k + 8) + fbS (k + 7) := rfl
  have e10 : fbS (k + 10) = fbS (k + 9) + fbS (k + 8) := rfl
  have e11 : fbS (k + 11) = fbS (k + 10) + fbS (k + 9) := rfl
  omega
theorem fb_90 : 4611686018427387904 ≤ fbS 90 := by
  have h0 : fbS 0 = 1 := rfl
  have h1 : fbS 1 = 2 := rfl
  have a := fb10 0
  have b := fb10 10
  have c := fb10 20
  have d := fb10 30
  have e := fb10 40
  have f := fb10 50
  have g := fb10 60
  have h := fb10 70
  have i := fb10 80
  simp only [Nat.reduceAdd] at a b c d e f g h i
  omega
theorem fb_le (k : Nat) : fbS k ≤ fbS (k + 1) := by
  cases k with
  | zero => decide
  | succ k => show fbS (k + 1) ≤ fbS (k + 1) + fbS k; omega
theorem c_euS (hb : b ≠ 0) (ha : a < 9223372036854775808) (hb2 : b < 9223372036854775808) (hc : c < 100) : f_X3_gcd_L15 P (l_n a, l_n b, q_n c, σ) = some (.inl (l_n b, l_n (a % b), q_n (c + 1), σ)) := by
  show f_X3_gcd_B15 P (l_n a) (l_n b) (q_n c) σ = _
  unfold f_X3_gcd_B15
  rw [if_neg (by rw [show (100 : Int32) = q_n 100 from rfl, q_nLe (by omega) (by omega)]; omega), if_neg (fun z => l_nne (by omega) (by omega) (q_cmp0.mp z)), k_mmL (by omega) (by omega) (by omega), bds, bds, q_nS]
theorem c_euE : f_X3_gcd_L15 P (l_n a, l_n 0, q_n c, σ) = some (.inr (l_n a, σ)) := by
  show f_X3_gcd_B15 P (l_n a) (l_n 0) (q_n c) σ = _
  unfold f_X3_gcd_B15
  rw [if_pos (show lg_cmp (l_n 0) 0 = 0 from q_cmp0.mpr rfl)]
  split <;> rfl
theorem gc_st (a b : Nat) : Nat.gcd b (a % b) = Nat.gcd a b := by rw [Nat.gcd_comm a b, Nat.gcd_rec b a, Nat.gcd_comm]
def EuC (P : mx_P) (σ : mx_S) (k : Nat) : Prop := ∀ a b c fu, b < a → a < 9223372036854775808 → b < fbS k → c + k ≤ 100 → k < fu → mx_lp (f_X3_gcd_L15 P) fu (l_n a, l_n b, q_n c, σ) = some (l_n (Nat.gcd a b), σ)
theorem euC_0 {fu : Nat} (hf : 0 < fu) : mx_lp (f_X3_gcd_L15 P) fu (l_n a, l_n 0, q_n c, σ) = some (l_n (Nat.gcd a 0), σ) := by
  obtain ⟨f, rfl⟩ : ∃ f, fu = f + 1 := ⟨fu - 1, by omega⟩
  rw [mx_lpS, c_euE, Nat.gcd_zero_right]; rfl
theorem euC_s {fu : Nat} (hb : b ≠ 0) (ha : a < 9223372036854775808) (hb2 : b < 9223372036854775808) (hc : c < 100) : mx_lp (f_X3_gcd_L15 P) (fu + 1) (l_n a, l_n b, q_n c, σ) = mx_lp (f_X3_gcd_L15 P) fu (l_n b, l_n (a % b), q_n (c + 1), σ) := by
  rw [mx_lpS, c_euS hb ha hb2 hc]; rfl
theorem euC : ∀ k, EuC P σ k ∧ EuC P σ (k + 1) := by
  intro k
  induction k with
  | zero =>
    constructor
    · intro a b c fu h1 h2 h3 h4 h5
      have : b = 0 := by have : fbS 0 = 1 := rfl; omega
      subst this
      exact euC_0 (by omega)
    · intro a b c fu h1 h2 h3 h4 h5
      have hb : b < 2 := h3
      by_cases e : b = 0
      · subst e; exact euC_0 (by omega)
      · have : b = 1 := by omega
        subst this
        obtain ⟨f, rfl⟩ : ∃ f, fu = f + 1 := ⟨fu - 1, by omega⟩
        rw [euC_s (by omega) h2 (by omega) (by omega), Nat.mod_one, euC_0 (by omega), Nat.gcd_zero_right, Nat.gcd_one_right]
  | succ k ih =>
    obtain ⟨i1, i2⟩ := ih
    refine ⟨i2, fun a b c fu h1 h2 h3 h4 h5 => ?_⟩
    by_cases e : b = 0
    · subst e; exact euC_0 (by omega)
    obtain ⟨f, rfl⟩ : ∃ f, fu = f + 1 := ⟨fu - 1, by omega⟩
    have hm := Nat.mod_lt a (show 0 < b by omega)
    rw [euC_s e h2 (by omega) (by omega)]
    by_cases c1 : a % b < fbS (k + 1)
    · rw [i2 b (a % b) (c + 1) f hm (by omega) c1 (by omega) (by omega), gc_st]
    · have h3' : b < fbS (k + 1) + fbS k := h3
      have e1 : a % b ≠ 0 := fun z => by
        rw [z] at c1
        have : 0 < fbS (k + 1) := by
          clear h3 h3' h4 h5 i1 i2 c1
          induction k with
          | zero => decide
          | succ k ih => show 0 < fbS (k + 1) + fbS k; omega
        omega
      obtain ⟨f', rfl⟩ : ∃ f', f = f' + 1 := ⟨f - 1, by omega⟩
      have hm2 := Nat.mod_lt b (show 0 < a % b by omega)
      have hle : b % (a % b) ≤ b - a % b := by
        rw [Nat.mod_eq_sub_mod (show b ≥ a % b by omega)]
        exact Nat.mod_le _ _
      rw [euC_s e1 (by omega) (by omega) (by omega), i1 (a % b) (b % (a % b)) (c + 1 + 1) f' hm2 (by omega) (by omega) (by omega) (by omega), gc_st, gc_st]
theorem k_absT64 (h : -9223372036854775808 < x.toInt) : (if 0 ≤ x then x else -x) = l_n x.toInt.natAbs := by
  apply Int64.toInt.inj
  have hx := x.toInt_lt
  rw [l_nT (by omega)]
  by_cases c : 0 ≤ x
  · rw [if_pos c]
    rw [q_lle, q_l0] at c
    omega
  · rw [if_neg c]
    rw [q_lle, q_l0] at c
    rw [q_lneg h]; omega
/-- the class's gcd -/
theorem c_gcd (hf : 5000 ≤ mpN P) (hx : x.toInt.natAbs < 4611686018427387904) (hy : y.toInt.natAbs < 4611686018427387904) : f_X3_gcd P x y σ = some (l_n (Nat.gcd x.toInt.natAbs y.toInt.natAbs), σ) := by
  unfold f_X3_gcd f_X3_gcd_D50
  rw [k_absL, k_absT64 (by omega), bd2 rfl, k_absL, k_absT64 (by omega), bd2 rfl]
  obtain ⟨a, ha⟩ : ∃ a, a = x.toInt.natAbs := ⟨_, rfl⟩
  obtain ⟨b, hb⟩ : ∃ b, b = y.toInt.natAbs := ⟨_, rfl⟩
  rw [← ha] at hx ⊢
  rw [← hb] at hy ⊢
  have h90 := fb_90
  have key : mx_lp (f_X3_gcd_L15 P) (mpN P) (l_n a, l_n b, (0 : Int32), σ) = some (l_n (Nat.gcd a b), σ) := by
    rw [show (0 : Int32) = q_n 0 from rfl]
    by_cases e : b = 0
    · subst e; exact euC_0 (by omega)
    obtain ⟨f, hf'⟩ : ∃ f, mpN P = f + 1 := ⟨mpN P - 1, by omega⟩
    have hm := Nat.mod_lt a (show 0 < b by omega)
    rw [hf', euC_s e (by omega) (by omega) (by omega), (euC 90).1 b (a % b) (0 + 1) f hm (by omega) (by omega) (by omega) (by omega), gc_st]
  rw [bd key]
theorem r_euS (hb : b ≠ 0) (ha : a < 9223372036854775808) (hb2 : b < 9223372036854775808) : f_X12_gcd_L12 P (l_n a, l_n b, σ) = some (.inl (l_n b, l_n (a % b), σ)) := by
  show f_X12_gcd_B12 P (l_n a) (l_n b) σ = _
  unfold f_X12_gcd_B12
  rw [if_neg (fun z => l_nne (by omega) (by omega) (q_cmp0.mp z)), k_mmL (by omega) (by omega) (by omega), bds]
theorem r_euE : f_X12_gcd_L12 P (l_n a, l_n 0, σ) = some (.inr (l_n a, σ)) := by
  show f_X12_gcd_B12 P (l_n a) (l_n 0) σ = _
  unfold f_X12_gcd_B12
  rw [if_pos (show lg_cmp (l_n 0) 0 = 0 from q_cmp0.mpr rfl)]
def EuR (P : mx_P) (σ : mx_S) (k : Nat) : Prop := ∀ a b fu, b < a → a < 9223372036854775808 → b < fbS k → k < fu → mx_lp (f_X12_gcd_L12 P) fu (l_n a, l_n b, σ) = some (l_n (Nat.gcd a b), σ)
theorem euR_0 {fu : Nat} (hf : 0 < fu) : mx_lp (f_X12_gcd_L12 P) fu (l_n a, l_n 0, σ) = some (l_n (Nat.gcd a 0), σ) := by
  obtain ⟨f, rfl⟩ : ∃ f, fu = f + 1 := ⟨fu - 1, by omega⟩
  rw [mx_lpS, r_euE, Nat.gcd_zero_right]; rfl
theorem euR_s {fu : Nat} (hb : b ≠ 0) (ha : a < 9223372036854775808) (hb2 : b < 9223372036854775808) : mx_lp (f_X12_gcd_L12 P) (fu + 1) (l_n a, l_n b, σ) = mx_lp (f_X12_gcd_L12 P) fu (l_n b, l_n (a % b), σ) := by
  rw [mx_lpS, r_euS hb ha hb2]; rfl
theorem fb_p : ∀ k, 0 < fbS k
  | 0 => by decide
  | k + 1 => by have a := fb_p k; have b := fb_le k; omega
theorem euR : ∀ k, EuR P σ k ∧ EuR P σ (k + 1) := by
  intro k
  induction k with
  | zero =>
    constructor
    · intro a b fu h1 h2 h3 h5
      have : b = 0 := by have : fbS 0 = 1 := rfl; omega
      subst this
      exact euR_0 (by omega)
    · intro a b fu h1 h2 h3 h5
      have hb : b < 2 := h3
      by_cases e : b = 0
      · subst e; exact euR_0 (by omega)
      · have : b = 1 := by omega
        subst this
        obtain ⟨f, rfl⟩ : ∃ f, fu = f + 1 := ⟨fu - 1, by omega⟩
        rw [euR_s (by omega) h2 (by omega), Nat.mod_one, euR_0 (by omega), Nat.gcd_zero_right, Nat.gcd_one_right]
  | succ k ih =>
    obtain ⟨i1, i2⟩ := ih
    refine ⟨i2, fun a b fu h1 h2 h3 h5 => ?_⟩
    by_cases e : b = 0
    · subst e; exact euR_0 (by omega)
    obtain ⟨f, rfl⟩ : ∃ f, fu = f + 1 := ⟨fu - 1, by omega⟩
    have hm := Nat.mod_lt a (show 0 < b by omega)
    rw [euR_s e h2 (by omega)]
    by_cases c1 : a % b < fbS (k + 1)
    · rw [i2 b (a % b) f hm (by omega) c1 (by omega), gc_st]
    · have h3' : b < fbS (k + 1) + fbS k := h3
      have hp := fb_p (k + 1)
      obtain ⟨f', rfl⟩ : ∃ f', f = f' + 1 := ⟨f - 1, by omega⟩
      have hm2 := Nat.mod_lt b (show 0 < a % b by omega)
      have hle : b % (a % b) ≤ b - a % b := by
        rw [Nat.mod_eq_sub_mod (show b ≥ a % b by omega)]
        exact Nat.mod_le _ _
      rw [euR_s (by omega) (by omega) (by omega), i1 (a % b) (b % (a % b)) f' hm2 (by omega) (by omega) (by omega), gc_st, gc_st]
theorem k_size64 (h : -9223372036854775808 < x.toInt) : f_X12_size P x σ = some (l_n x.toInt.natAbs, σ) := by
  obtain ⟨r, e, hr⟩ := k_size (P := P) h σ
  rw [e]
  have hx := x.toInt_lt
  have : r = l_n x.toInt.natAbs := by
    apply Int64.toInt.inj
    rw [l_nT (by omega), hr]
    split <;> omega
  rw [this]
/-- the reference's gcd -/
theorem r_gcd (hf : 5000 ≤ mpN P) (hx : x.toInt.natAbs < 4611686018427387904) (hy : y.toInt.natAbs < 4611686018427387904) : f_X12_gcd P x y σ = some (l_n (Nat.gcd x.toInt.natAbs y.toInt.natAbs), σ) := by
  unfold f_X12_gcd
  rw [bd2 (k_size64 (by omega)), bd2 (k_size64 (by omega))]
  obtain ⟨a, ha⟩ : ∃ a, a = x.toInt.natAbs := ⟨_, rfl⟩
  obtain ⟨b, hb⟩ : ∃ b, b = y.toInt.natAbs := ⟨_, rfl⟩
  rw [← ha] at hx ⊢
  rw [← hb] at hy ⊢
  have h90 := fb_90
  have key : mx_lp (f_X12_gcd_L12 P) (mpN P) (l_n a, l_n b, σ) = some (l_n (Nat.gcd a b), σ) := by
    by_cases e : b = 0
    · subst e; exact euR_0 (by omega)
    obtain ⟨f, hf'⟩ : ∃ f, mpN P = f + 1 := ⟨mpN P - 1, by omega⟩
    have hm := Nat.mod_lt a (show 0 < b by omega)
    rw [hf', euR_s e (by omega) (by omega), (euR 90).1 b (a % b) f hm (by omega) (by omega) (by omega), gc_st]
  rw [bd key]
end JAS
