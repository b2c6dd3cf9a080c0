/-! ===== kf: exact fractions that may be TOO LARGE ===== -/
section KFS
variable {P : mx_P} {σ τ : mx_S} {a m : Nat} {u v : Int64} {c d : Int}
theorem b64P (hu : u.toInt = c) (hv : v.toInt = d) (h : c.natAbs * d.natAbs ≤ 1000000000000000) : B64 (u * v) (c * d) 1000000000000000 := by
  have hm : (c * d).natAbs ≤ 1000000000000000 := by rw [Int.natAbs_mul]; exact h
  exact ⟨by rw [q_lmul (by rw [hu, hv]; omega) (by rw [hu, hv]; omega), hu, hv], hm⟩
theorem l_15 : (1000000000000000 : Int64) = l_n 1000000000000000 := rfl
theorem le_dv {x y : Nat} (hy : 0 < y) : x ≤ 1000000000000000 / y ↔ x * y ≤ 1000000000000000 := Nat.le_div_iff_mul_le hy
theorem c_chk (hA : mxA σ a = some (.inl 3)) (hb : mpb P ≤ a) (hu : B64 u c 1000000000000000) (hv : B64 v d 1000000000000000) : (c.natAbs * d.natAbs ≤ 1000000000000000 ∧ ∃ w, f_X3_checked P a u v σ = some (w, σ) ∧ B64 w (c * d) 1000000000000000) ∨ (1000000000000000 < c.natAbs * d.natAbs ∧ f_X3_checked P a u v σ = some (0, mx_setI σ a 2 1)) := by
  obtain ⟨u1, u2⟩ := hu
  obtain ⟨v1, v2⟩ := hv
  unfold f_X3_checked f_X3_checked_D29
  by_cases z : d = 0
  · left
    subst z
    refine ⟨by simp, u * v, ?_, b64P u1 v1 (by simp)⟩
    rw [if_pos (by rw [q_cmp0]; apply Int64.toInt.inj; rw [v1]; rfl)]
  · have nz : ¬ lg_cmp v (0 : Int64) = 0 := fun y => z (by rw [q_cmp0] at y; rw [← v1, y]; rfl)
    have dp : 0 < d.natAbs := by omega
    have c1 : f_J9_abs_067f4 P u σ = some (l_n c.natAbs, σ) := by rw [k_absL, k_absT64 (by omega), u1]
    have c2 : f_J9_abs_067f4 P v σ = some (l_n d.natAbs, σ) := by rw [k_absL, k_absT64 (by omega), v1]
    have dl : 1000000000000000 / d.natAbs ≤ 1000000000000000 := Nat.div_le_self _ _
    rw [if_neg nz, bd2 c1, bd2 c2, l_15, bd (k_mdL (by omega) dp (by omega))]
    by_cases g : c.natAbs * d.natAbs ≤ 1000000000000000
    · left
      refine ⟨g, u * v, ?_, b64P u1 v1 g⟩
      rw [if_pos (by rw [q_cmp_le, q_lle, l_nT (by omega), l_nT (by omega)]; exact Int.ofNat_le.mpr ((le_dv dp).mpr g))]
    · right
      refine ⟨by omega, ?_⟩
      rw [if_neg (by rw [q_cmp_le, q_lle, l_nT (by omega), l_nT (by omega)]; exact fun y => g ((le_dv dp).mp (Int.ofNat_le.mp y))), bd (q_pZ hA hb (Or.inr rfl))]
theorem r_prd (hM : LyM σ m) (hb : mpb P ≤ m) (hu : B64 u c 1000000000000000) (hv : B64 v d 1000000000000000) : (c.natAbs * d.natAbs ≤ 1000000000000000 ∧ ∃ w, f_X12_product P m u v σ = some (w, σ) ∧ B64 w (c * d) 1000000000000000) ∨ (1000000000000000 < c.natAbs * d.natAbs ∧ f_X12_product P m u v σ = some (0, mx_setI σ m 10 1)) := by
  obtain ⟨u1, u2⟩ := hu
  obtain ⟨v1, v2⟩ := hv
  have z0 : ∀ {x : Int64} {y : Int}, x.toInt = y → (lg_cmp x (0 : Int64) = 0 ↔ y = 0) := fun {x y} h => by
    rw [q_cmp0]
    constructor
    · intro e; rw [← h, e]; rfl
    · intro e; apply Int64.toInt.inj; rw [h, e]; rfl
  unfold f_X12_product f_X12_product_D12
  by_cases y : c = 0
  · left
    subst y
    rw [if_pos ((z0 u1).mpr rfl)]
    exact ⟨by simp, 0, rfl, by simp; exact ⟨rfl, by simp⟩⟩
  · rw [if_neg (fun e => y ((z0 u1).mp e))]
    by_cases z : d = 0
    · left
      subst z
      rw [if_pos ((z0 v1).mpr rfl)]
      exact ⟨by simp, 0, rfl, by simp; exact ⟨rfl, by simp⟩⟩
    · have cpos : 0 < c.natAbs := by omega
      have dl : 1000000000000000 / c.natAbs ≤ 1000000000000000 := Nat.div_le_self _ _
      have c1 : f_X12_size P u σ = some (l_n c.natAbs, σ) := by rw [k_size64 (by omega), u1]
      have c2 : f_X12_size P v σ = some (l_n d.natAbs, σ) := by rw [k_size64 (by omega), v1]
      rw [if_neg (fun e => z ((z0 v1).mp e)), bd2 c2, bd2 c1, l_15, bd (k_mdL (by omega) cpos (by omega))]
      by_cases g : c.natAbs * d.natAbs ≤ 1000000000000000
      · left
        refine ⟨g, u * v, ?_, b64P u1 v1 g⟩
        rw [if_pos (by rw [q_cmp_le, q_lle, l_nT (by omega), l_nT (by omega)]; exact Int.ofNat_le.mpr ((le_dv cpos).mpr (by rw [Nat.mul_comm]; exact g)))]
      · right
        refine ⟨by omega, ?_⟩
        rw [if_neg (by rw [q_cmp_le, q_lle, l_nT (by omega), l_nT (by omega)]; exact fun y => g (by rw [Nat.mul_comm]; exact (le_dv cpos).mp (Int.ofNat_le.mp y))), bd (am_pZ hM hb (Or.inr rfl))]
end KFS
