/-! ===== gn: the reference's spread ===== -/
section GNS
variable {P : mx_P} {σ σ0 τ : mx_S} {m : Nat} {E : Nat → BV} {K : LK} {pl : Nat → Nat} {w p i d : Nat}
theorem r_spr {ax sd : Bool} {F : Nat → BV} (hf : 2000 ≤ mpN P) (hM : LyM σ0 m) (hp : mpb P ≤ m) (hT : kT K) (h : RS m K σ0 pl σ) (hi : i < 4) (hw : w < 256) (hpp : p < kN K) {N : Nat} (hN : N = 1024)
    (hF : F = g_fold b_hull (g_sr K pl w i) (fun k => v_ax ax (s_S K (upl pl i k) w p).2)) :
    Wp (mx_lp (f_X12_spread_L78 P m (q_n w) (q_n i) (q_n p) (bI ax) (bI sd) (q_n (pl i))) (mpN P) ((0 : Int32), (0 : Int64), (0 : Int32), σ)) (fun r => r.1 = bI (F N).isSome ∧ r.2.1.toInt = b_sd sd (F N) ∧ ∃ a, RS m K σ0 (upl pl i a) r.2.2) := by
  have hn := hT.1
  obtain ⟨r, er, hr⟩ := q_for (f_X12_spread_L78 P m (q_n w) (q_n i) (q_n p) (bI ax) (bI sd) (q_n (pl i)))
    (fun k x => x.1 = bI (F k).isSome ∧ x.2.1.toInt = b_sd sd (F k) ∧ x.2.2.1 = q_n k ∧ ∃ a, RS m K σ0 (upl pl i a) x.2.2.2)
    (fun r => r.1 = bI (F N).isSome ∧ r.2.1.toInt = b_sd sd (F N) ∧ ∃ a, RS m K σ0 (upl pl i a) r.2.2) N
    (by
      rintro k ⟨x1, x2, x3, τ1⟩ hk ⟨i1, i2, i3, a, i4⟩
      dsimp only at i1 i2 i3 i4
      subst i1; subst i3
      left
      have hk1 : k < 1024 := by omega
      suffices hww : Wp (f_X12_spread_B78 P m (q_n w) (q_n i) (q_n p) (bI ax) (bI sd) (q_n (pl i)) (bI (F k).isSome) x2 (q_n k) τ1) (fun z => ∃ t', z = .inl t' ∧ t'.1 = bI (F (k + 1)).isSome ∧ t'.2.1.toInt = b_sd sd (F (k + 1)) ∧ t'.2.2.1 = q_n (k + 1) ∧ ∃ a, RS m K σ0 (upl pl i a) t'.2.2.2) by
        obtain ⟨z, ez, t', rfl, hz⟩ := hww
        exact ⟨t', ez, hz⟩
      unfold f_X12_spread_B78 f_X12_spread_D152_78 f_X12_spread_D157_78
      rw [if_neg (by rw [show (1024 : Int32) = q_n 1024 from rfl, q_nLe (by omega) (by omega)]; omega), bd (am_r34 (RS_M i4 hM))]
      obtain ⟨τ3, e3, h3⟩ := rs_set (P := P) hM hp hT i4 hi hk1
      rw [upl_upl] at h3
      rw [bd e3, bd (am_is (RS_M h3 hM))]
      refine Wp_b2 (Wp_mo (rs_work (by omega) hM hp hT h3 hw) ?_)
      rintro ⟨r, τ4⟩ ⟨j1, j2, j3⟩
      dsimp only at j1 j2 j3
      have hwy3 : g_wy K (upl pl i k) w ≤ 2 := by unfold g_wy; split <;> (try split) <;> omega
      subst j1
      dsimp only
      have hM4 := RS_M j2 hM
      by_cases h1 : g_wy K (upl pl i k) w = 1
      · rw [if_pos (by rw [h1]; rfl), bd (am_is hM4)]
        have hs : g_sr K pl w i k = true := by unfold g_sr; rw [h1]; rfl
        obtain ⟨E4, hz4, hall⟩ := j3 (by omega)
        have e2 := hall p hpp
        have hso := (wy1 hT h1 hpp).2
        rw [v_N_id (by rw [← v_N_open, e2]; exact hso)] at e2
        have hval : E4 (2 * p + (if ax then 1 else 0)) = v_ax ax (s_S K (upl pl i k) w p).2 := by
          rw [← e2]; unfold eR v_ax; cases ax <;> rfl
        have hne : v_ax ax (s_S K (upl pl i k) w p).2 ≠ none := v_ax_ne hso
        have hidx : (2 : Int32) * q_n p + bI ax = q_n (2 * p + (if ax then 1 else 0)) := by
          rw [q_m2]; cases ax
          · exact Int32.add_zero _
          · exact q_nS _
        have hF1 : F (k + 1) = b_hull (F k) (v_ax ax (s_S K (upl pl i k) w p).2) := by rw [hF, g_fold, if_pos hs]
        obtain ⟨x, ex, hx⟩ := r_side (P := P) (sd := sd) (d := 2 * p + (if ax then 1 else 0)) hM4 hz4 (by split <;> omega) (by rw [hval]; exact hne)
        rw [hval] at hx
        rw [hidx, bd2 ex]
        cases hFk : F k with
        | none =>
          rw [if_pos (by rfl), bds]
          refine Wp_s ⟨_, rfl, ?_, ?_, q_nS k, k, j2⟩
          · rw [hF1, hFk]; cases hv : v_ax ax (s_S K (upl pl i k) w p).2 with
            | none => exact absurd hv hne
            | some y => rfl
          · rw [hF1, hFk, hx]; rfl
        | some y0 =>
          rw [if_neg (show ¬ bI (some y0).isSome = 0 from (show ¬ bI true = 0 by decide))]
          rw [hFk] at i2
          have hsm : bI (b_hull (some y0) (v_ax ax (s_S K (upl pl i k) w p).2)).isSome = 1 := by
            cases hv : v_ax ax (s_S K (upl pl i k) w p).2 <;> rfl
          have hsd := hull_sd (a := some y0) (by simp) hne sd
          cases sd
          · rw [if_pos (by rfl), bd2 (k_sm _ _ _), bds]
            refine Wp_s ⟨_, rfl, ?_, ?_, q_nS k, k, j2⟩
            · rw [hF1, hFk]; exact hsm.symm
            · rw [hF1, hFk, hsd, ← i2, ← hx]; exact ksmT _ _
          · rw [if_neg (by decide), bd2 (k_mo _ _ _), bds]
            refine Wp_s ⟨_, rfl, ?_, ?_, q_nS k, k, j2⟩
            · rw [hF1, hFk]; exact hsm.symm
            · rw [hF1, hFk, hsd, ← i2, ← hx]; exact kmoT _ _
      · rw [if_neg (fun z => h1 (by rw [show (1 : Int32) = q_n 1 from rfl, q_nI (by omega) (by omega)] at z; exact z)), bds]
        have hs : g_sr K pl w i k = false := by unfold g_sr; exact beq_eq_false_iff_ne.mpr h1
        have hF1 : F (k + 1) = F k := by rw [hF, g_fold, hs]; rfl
        rw [hF1]
        exact Wp_s ⟨_, rfl, rfl, i2, q_nS k, k, j2⟩)
    (by
      rintro ⟨x1, x2, x3, τ1⟩ ⟨i1, i2, i3, a, i4⟩
      dsimp only at i1 i2 i3 i4
      subst i3
      refine ⟨(x1, x2, τ1), ?_, i1, i2, a, i4⟩
      show f_X12_spread_B78 P m (q_n w) (q_n i) (q_n p) _ _ (q_n (pl i)) x1 x2 (q_n N) τ1 = _
      unfold f_X12_spread_B78
      rw [if_pos (by rw [hN]; decide)])
    N 0 ((0 : Int32), (0 : Int64), (0 : Int32), σ) (mpN P) (by omega) ⟨by rw [hF]; rfl, by rw [hF]; rfl, rfl, pl i, by rw [upl_self]; exact h⟩ (by omega)
  exact ⟨r, er, hr⟩
end GNS
