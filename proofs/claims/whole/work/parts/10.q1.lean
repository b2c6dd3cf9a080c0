/-! ===== q1: Nats in the machine's numbers, frames, the JDK's own ===== -/
theorem q_nA (a b : Nat) : q_n a + q_n b = q_n (a + b) := (Int32.ofNat_add a b).symm
theorem q_nM (a b : Nat) : q_n a * q_n b = q_n (a * b) := (Int32.ofNat_mul a b).symm
def l_n (k : Nat) : Int64 := Int64.ofNat k
theorem l_nT {k : Nat} (h : k < 9223372036854775808) : (l_n k).toInt = k := Int64.toInt_ofNat_of_lt h
theorem l_nA (a b : Nat) : l_n a + l_n b = l_n (a + b) := (Int64.ofNat_add a b).symm
theorem l_nM (a b : Nat) : l_n a * l_n b = l_n (a * b) := (Int64.ofNat_mul a b).symm
theorem q_nL {k : Nat} (h : k < 2147483648) : (q_n k).toInt64 = l_n k := by
  rw [q_leq, Int32.toInt_toInt64, q_nT h, l_nT (by omega)]
theorem l_nQ {k : Nat} (h : k < 2147483648) : (l_n k).toInt32 = q_n k := by
  rw [q_eq, Int64.toInt_toInt32, l_nT (by omega), q_nT h, q_bm32 (by omega) (by omega)]
theorem l_nI {k l : Nat} (hk : k < 9223372036854775808) (hl : l < 9223372036854775808) : l_n k = l_n l ↔ k = l := by
  rw [q_leq, l_nT hk, l_nT hl]; omega
theorem l_nLe {k l : Nat} (hk : k < 9223372036854775808) (hl : l < 9223372036854775808) : l_n k ≤ l_n l ↔ k ≤ l := by
  rw [q_lle, l_nT hk, l_nT hl]; omega
theorem l_nLt {k l : Nat} (hk : k < 9223372036854775808) (hl : l < 9223372036854775808) : l_n k < l_n l ↔ k < l := by
  rw [q_llt, l_nT hk, l_nT hl]; omega
theorem q_tdiv {a b : Int} (ha : 0 ≤ a) : a.tdiv b = a / b := Int.tdiv_eq_ediv_of_nonneg ha
theorem q_nne {b : Nat} (hb : 0 < b) (h : b < 2147483648) : ¬ q_n b = 0 := by rw [q_n0, q_nI h (by omega)]; omega
theorem l_nne {b : Nat} (hb : 0 < b) (h : b < 9223372036854775808) : ¬ l_n b = 0 := by
  show ¬ l_n b = l_n 0
  rw [l_nI h (by omega)]; omega
theorem q_ndiv {a b : Nat} (ha : a < 2147483648) (hb : 0 < b) (hb2 : b < 2147483648) : q_n a / q_n b = q_n (a / b) := by
  have h3 : a / b ≤ a := Nat.div_le_self a b
  rw [q_eq, Int32.toInt_div, q_nT ha, q_nT hb2, q_nT (by omega), q_tdiv (by omega), ← Int.natCast_ediv]
  generalize a / b = d at *
  exact q_bm32 (by omega) (by omega)
theorem l_ndiv {a b : Nat} (ha : a < 9223372036854775808) (hb : 0 < b) (hb2 : b < 9223372036854775808) : l_n a / l_n b = l_n (a / b) := by
  have h3 : a / b ≤ a := Nat.div_le_self a b
  rw [q_leq, Int64.toInt_div, l_nT ha, l_nT hb2, l_nT (by omega), q_tdiv (by omega), ← Int.natCast_ediv]
  generalize a / b = d at *
  exact q_bm64 (by omega) (by omega)
theorem q_nsub {a b : Nat} (h : b ≤ a) : q_n a - q_n b = q_n (a - b) := by
  have : q_n a = q_n (a - b) + q_n b := by rw [q_nA]; congr 1; omega
  rw [this, Int32.add_sub_cancel]
theorem l_nsub {a b : Nat} (h : b ≤ a) : l_n a - l_n b = l_n (a - b) := by
  have : l_n a = l_n (a - b) + l_n b := by rw [l_nA]; congr 1; omega
  rw [this, Int64.add_sub_cancel]
theorem q_nmod (a b : Nat) : a - a / b * b = a % b := by
  have := Nat.div_add_mod a b
  have h2 : b * (a / b) = a / b * b := Nat.mul_comm _ _
  omega
theorem k_md {a b : Nat} (ha : a < 2147483648) (hb : 0 < b) (hb2 : b < 2147483648) : md_I (q_n a) (q_n b) = some (q_n (a / b)) := by
  unfold md_I; rw [if_neg (q_nne hb hb2), q_ndiv ha hb hb2]
theorem k_mm {a b : Nat} (ha : a < 2147483648) (hb : 0 < b) (hb2 : b < 2147483648) : mm_I (q_n a) (q_n b) = some (q_n (a % b)) := by
  unfold mm_I; rw [if_neg (q_nne hb hb2), q_ndiv ha hb hb2, q_nM, q_nsub (Nat.div_mul_le_self a b), q_nmod]
theorem k_mdL {a b : Nat} (ha : a < 9223372036854775808) (hb : 0 < b) (hb2 : b < 9223372036854775808) : md_L (l_n a) (l_n b) = some (l_n (a / b)) := by
  unfold md_L; rw [if_neg (l_nne hb hb2), l_ndiv ha hb hb2]
theorem k_mmL {a b : Nat} (ha : a < 9223372036854775808) (hb : 0 < b) (hb2 : b < 9223372036854775808) : mm_L (l_n a) (l_n b) = some (l_n (a % b)) := by
  unfold mm_L; rw [if_neg (l_nne hb hb2), l_ndiv ha hb hb2, l_nM, l_nsub (Nat.div_mul_le_self a b), q_nmod]
theorem k_max (P : mx_P) (x y : Int32) (σ : mx_S) : f_J9_max_7cf53 P x y σ = some (if x < y then y else x, σ) := by
  unfold f_J9_max_7cf53 f_J9_max_7cf53_D10; by_cases h : x < y <;> simp [h]
theorem k_min (P : mx_P) (x y : Int32) (σ : mx_S) : f_J9_min_7cf53 P x y σ = some (if y < x then y else x, σ) := by
  unfold f_J9_min_7cf53 f_J9_min_7cf53_D10; by_cases h : y < x <;> simp [h]
theorem q_cmp_gt {x y : Int64} : 0 < lg_cmp x y ↔ y < x := by
  rw [q_lt, q_cmpT, q_llt, q_i0]; split
  · omega
  · split <;> omega
theorem q_cmp_ge {x y : Int64} : 0 ≤ lg_cmp x y ↔ y ≤ x := by
  rw [q_le, q_cmpT, q_lle, q_i0]; split
  · omega
  · split <;> omega
theorem k_maxL (P : mx_P) (x y : Int64) (σ : mx_S) : f_J9_max_f86c9 P x y σ = some (if x < y then y else x, σ) := by
  unfold f_J9_max_f86c9 f_J9_max_f86c9_D11; simp only [q_cmp_lt]; by_cases h : x < y <;> simp [h]
theorem k_minL (P : mx_P) (x y : Int64) (σ : mx_S) : f_J9_min_f86c9 P x y σ = some (if y < x then y else x, σ) := by
  unfold f_J9_min_f86c9 f_J9_min_f86c9_D11; simp only [q_cmp_gt]; by_cases h : y < x <;> simp [h]
theorem k_abs (P : mx_P) (x : Int32) (σ : mx_S) : f_J9_abs_0f7a4 P x σ = some (if 0 ≤ x then x else -x, σ) := by
  unfold f_J9_abs_0f7a4 f_J9_abs_0f7a4_D10; by_cases h : 0 ≤ x <;> simp [h]
theorem k_absL (P : mx_P) (x : Int64) (σ : mx_S) : f_J9_abs_067f4 P x σ = some (if 0 ≤ x then x else -x, σ) := by
  unfold f_J9_abs_067f4 f_J9_abs_067f4_D12; simp only [q_cmp_ge]; by_cases h : 0 ≤ x <;> simp [h]
theorem k_in (P : mx_P) (x lo hi : Int64) (σ : mx_S) : f_X12_in P x lo hi σ = some (if lo ≤ x ∧ x ≤ hi then 1 else 0, σ) := by
  unfold f_X12_in f_X12_in_D17 f_X12_in_D18
  simp only [q_cmp_lt, q_cmp_gt]
  by_cases h1 : x < lo
  · have : ¬ (lo ≤ x ∧ x ≤ hi) := fun h => by rw [q_llt] at h1; have := h.1; rw [q_lle] at this; omega
    rw [if_pos h1, if_neg this]; rfl
  · by_cases h2 : hi < x
    · have : ¬ (lo ≤ x ∧ x ≤ hi) := fun h => by rw [q_llt] at h2; have := h.2; rw [q_lle] at this; omega
      rw [if_neg h1, if_pos h2, if_neg this]; rfl
    · have : lo ≤ x ∧ x ≤ hi := by rw [q_llt] at h1 h2; rw [q_lle, q_lle]; omega
      rw [if_neg h1, if_neg h2, if_pos this]; rfl
/-! frames: what stays -/
def qf (SI SL : Nat → Nat → Prop) (σ σ' : mx_S) : Prop := mxA σ' = mxA σ ∧ mxR σ' = mxR σ ∧ mxz σ' = mxz σ ∧ mxu σ' = mxu σ ∧ (∀ q j, ¬ SI q j → mxI σ' q j = mxI σ q j) ∧ (∀ q j, ¬ SL q j → mxL σ' q j = mxL σ q j)
section QF
variable {SI SL TI TL : Nat → Nat → Prop} {σ σ1 σ2 : mx_S} {a k : Nat}
theorem qf_rf : qf SI SL σ σ := ⟨rfl, rfl, rfl, rfl, fun _ _ _ => rfl, fun _ _ _ => rfl⟩
theorem qf_tr (h1 : qf SI SL σ σ1) (h2 : qf SI SL σ1 σ2) : qf SI SL σ σ2 :=
  ⟨h2.1.trans h1.1, h2.2.1.trans h1.2.1, h2.2.2.1.trans h1.2.2.1, h2.2.2.2.1.trans h1.2.2.2.1, fun q j h => (h2.2.2.2.2.1 q j h).trans (h1.2.2.2.2.1 q j h), fun q j h => (h2.2.2.2.2.2 q j h).trans (h1.2.2.2.2.2 q j h)⟩
theorem qf_mono (h : qf SI SL σ σ1) (hI : ∀ q j, SI q j → TI q j) (hL : ∀ q j, SL q j → TL q j) : qf TI TL σ σ1 :=
  ⟨h.1, h.2.1, h.2.2.1, h.2.2.2.1, fun q j hn => h.2.2.2.2.1 q j fun hs => hn (hI q j hs), fun q j hn => h.2.2.2.2.2 q j fun hs => hn (hL q j hs)⟩
theorem qf_I (h : SI a k) (x : Int32) : qf SI SL σ (mx_setI σ a k x) := ⟨rfl, rfl, rfl, rfl, fun q j hn => if_neg fun e => hn (by rw [e.1, e.2]; exact h), fun _ _ _ => rfl⟩
theorem qf_L (h : SL a k) (x : Int64) : qf SI SL σ (mx_setL σ a k x) := ⟨rfl, rfl, rfl, rfl, fun _ _ _ => rfl, fun q j hn => if_neg fun e => hn (by rw [e.1, e.2]; exact h)⟩
theorem qf_sI (h : SI a k) (x : Int32) (h1 : qf SI SL σ σ1) : qf SI SL σ (mx_setI σ1 a k x) := qf_tr h1 (qf_I h x)
theorem qf_sL (h : SL a k) (x : Int64) (h1 : qf SI SL σ σ1) : qf SI SL σ (mx_setL σ1 a k x) := qf_tr h1 (qf_L h x)
end QF
section Q2
variable {P : mx_P} {σ : mx_S} {a t n j : Nat}
theorem q_aIn (h : mxA σ a = some (.inr (t, n))) (hn : n ≤ 65536) (hj : j < n) : ma_I σ a t (q_n j) = some (mxI σ a j) := by
  rw [q_aI h (by rw [q_nT (by omega)]; omega) (by rw [q_nT (by omega)]; omega), q_nN (by omega)]
theorem q_aLn (h : mxA σ a = some (.inr (t, n))) (hn : n ≤ 65536) (hj : j < n) : ma_L σ a t (q_n j) = some (mxL σ a j) := by
  rw [q_aL h (by rw [q_nT (by omega)]; omega) (by rw [q_nT (by omega)]; omega), q_nN (by omega)]
theorem q_aRn (h : mxA σ a = some (.inr (t, n))) (hn : n ≤ 65536) (hj : j < n) : ma_R σ a t (q_n j) = mxR σ a j := by
  rw [q_aR h (by rw [q_nT (by omega)]; omega) (by rw [q_nT (by omega)]; omega), q_nN (by omega)]
theorem q_sIn (h : mxA σ a = some (.inr (t, n))) (hn : n ≤ 65536) (hj : j < n) (hb : mpb P ≤ a) (x : Int32) : ms_I P σ a t (q_n j) x = some (mx_setI σ a j x) := by
  rw [q_sI h hb (by rw [q_nT (by omega)]; omega) (by rw [q_nT (by omega)]; omega), q_nN (by omega)]
theorem q_sLn (h : mxA σ a = some (.inr (t, n))) (hn : n ≤ 65536) (hj : j < n) (hb : mpb P ≤ a) (x : Int64) : ms_L P σ a t (q_n j) x = some (mx_setL σ a j x) := by
  rw [q_sL h hb (by rw [q_nT (by omega)]; omega) (by rw [q_nT (by omega)]; omega), q_nN (by omega)]
end Q2
