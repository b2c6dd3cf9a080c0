/-! ===== gp: the reference's least ===== -/
section GPS
variable {P : mx_P} {σ σ0 τ : mx_S} {m : Nat} {E : Nat → BV} {K : LK} {pl : Nat → Nat} {w p q i d : Nat}
theorem H_self {fn fd : Bool} (h : HZ m E σ) (h1 : mxI σ m 54 = bI fn) (h2 : mxI σ m 55 = bI fd) : H σ m E fn fd σ := ⟨rfl, rfl, ⟨rfl, rfl⟩, fun _ _ _ _ => rfl, fun _ _ _ _ => rfl, h, h1, h2⟩
theorem uu_bs {fn fd : Bool} {β : Type} {Q : β → Prop} {k : mx_S → Option β} (h : H σ0 m E fn fd σ) (hM : LyM σ0 m) (hp : mpb P ≤ m) (ha : p < 40) (hb : q < 40) (hk : ∀ σ' E', H σ0 m E' fn fd σ' → E' 162 = v_nrm (v_sub (eR E p) (eR E q)) → Wp (k σ') Q) :
    Wp ((mx_is σ m 12).bind fun i27 => (f_X12_between P m (160 : Int32) (q_n p) (q_n q) σ).bind fun σ29 => (mx_is σ29 m 12).bind fun i31 => (f_X12_squares P m (162 : Int32) (160 : Int32) σ29).bind fun σ33 => k σ33) Q := by
  rw [li_162, li_160]
  refine uu_is h hM (uu_between h hM hp (by omega) (by omega) (by omega) (by omega) (by omega) fun σ1 v w hv hw g1 => ?_)
  refine uu_is g1 hM (uu_squares g1 hM hp (by omega) (by omega) fun σ2 x y u hu g2 => hk σ2 _ g2 ?_)
  rw [up_e, hu, up_e, up_n (by omega), up_e, hv, hw]; rfl
theorem r_lst {sd : Bool} {F V : Nat → BV} (hf : 2000 ≤ mpN P) (hM : LyM σ0 m) (hp : mpb P ≤ m) (hT : kT K) (h : RS m K σ0 pl σ) (hi : i < 4) (hw : w < 256) (hpp : p < kN K) (hqq : q < kN K) {N : Nat} (hN : N = 1024)
    (hV : V = fun k => v_nrm (v_sub (s_S K (upl pl i k) w p).2 (s_S K (upl pl i k) w q).2))
    (hF : F = g_fold b_lst (g_sr K pl w i) V) :
    Wp (mx_lp (f_X12_least_L76 P m (q_n w) (q_n i) (q_n p) (q_n q) (bI sd) (q_n (pl i))) (mpN P) ((0 : Int32), (0 : Int64), (0 : Int32), σ)) (fun r => r.1 = bI (F N).isSome ∧ r.2.1.toInt = b_sd sd (F N) ∧ ∃ a, RS m K σ0 (upl pl i a) r.2.2) := by
  have hn := hT.1
  obtain ⟨r, er, hr⟩ := q_for (f_X12_least_L76 P m (q_n w) (q_n i) (q_n p) (q_n q) (bI sd) (q_n (pl i)))
    (fun k x => x.1 = bI (F k).isSome ∧ x.2.1.toInt = b_sd sd (F k) ∧ x.2.2.1 = q_n k ∧ ∃ a, RS m K σ0 (upl pl i a) x.2.2.2)
    (fun r => r.1 = bI (F N).isSome ∧ r.2.1.toInt = b_sd sd (F N) ∧ ∃ a, RS m K σ0 (upl pl i a) r.2.2) N
    (by
      rintro k ⟨x1, x2, x3, τ1⟩ hk ⟨i1, i2, i3, a, i4⟩
      dsimp only at i1 i2 i3 i4
      subst i1; subst i3
      left
      have hk1 : k < 1024 := by omega
      suffices hww : Wp (f_X12_least_B76 P m (q_n w) (q_n i) (q_n p) (q_n q) (bI sd) (q_n (pl i)) (bI (F k).isSome) x2 (q_n k) τ1) (fun z => ∃ t', z = .inl t' ∧ t'.1 = bI (F (k + 1)).isSome ∧ t'.2.1.toInt = b_sd sd (F (k + 1)) ∧ t'.2.2.1 = q_n (k + 1) ∧ ∃ a, RS m K σ0 (upl pl i a) t'.2.2.2) by
        obtain ⟨z, ez, t', rfl, hz⟩ := hww
        exact ⟨t', ez, hz⟩
      unfold f_X12_least_B76 f_X12_least_D166_76 f_X12_least_D171_76
      rw [if_neg (by rw [show (1024 : Int32) = q_n 1024 from rfl, q_nLe (by omega) (by omega)]; omega), bd (am_r34 (RS_M i4 hM))]
      obtain ⟨τ3, e3, h3⟩ := rs_set (P := P) hM hp hT i4 hi hk1
      rw [upl_upl] at h3
      rw [bd e3, bd (am_is (RS_M h3 hM))]
      refine Wp_b2 (Wp_mo (rs_work3 (by omega) hM hp hT h3 hw) ?_)
      rintro ⟨r, τ4⟩ ⟨⟨⟨j1, j2, j3⟩, -⟩, fn, fd, j6, j7⟩
      dsimp only at j1 j2 j3 j6 j7
      have hwy3 : g_wy K (upl pl i k) w ≤ 2 := by unfold g_wy; split <;> (try split) <;> omega
      subst j1
      dsimp only
      have hM4 := RS_M j2 hM
      by_cases h1 : g_wy K (upl pl i k) w = 1
      · rw [if_pos (by rw [h1]; rfl)]
        have hs : g_sr K pl w i k = true := by unfold g_sr; rw [h1]; rfl
        obtain ⟨E4, hz4, hall⟩ := j3 (by omega)
        have hso : ∀ p, p < kN K → eR E4 p = (s_S K (upl pl i k) w p).2 := fun p hpp => by
          have e2 := hall p hpp
          have hso := (wy1 hT h1 hpp).2
          rw [v_N_id (by rw [← v_N_open, e2]; exact hso)] at e2
          exact e2
        have hF1 : F (k + 1) = b_lst (F k) (V k) := by rw [hF, g_fold, if_pos hs]
        have hH4 : H τ4 m E4 fn fd τ4 := H_self hz4 j6 j7
        refine uu_bs hH4 hM4 hp (by omega) (by omega) fun τ6 E6 g6 hv6 => ?_
        rw [hso p hpp, hso q hqq] at hv6
        replace hv6 : E6 162 = V k := by rw [hv6, hV]
        have h6 := RS_H hT j2 g6
        have hM6 := RS_M h6 hM
        have hz6 : HZ m E6 τ6 := g6.2.2.2.2.2.1
        rw [bd (am_r13 hM6), li_162, bd (am_g13 hM6 (by omega))]
        rcases RR_o (hz6 162 (by omega)).1 with ⟨e0, e1, -, -, -⟩ | ⟨e0, e1⟩
        · rw [if_pos e0, bd (am_is hM6)]
          have hne : E6 162 ≠ none := by rw [e1]; simp
          obtain ⟨x, ex, hx⟩ := r_side (P := P) (sd := sd) (d := 162) hM6 hz6 (by omega) hne
          rw [hv6] at hx hne
          rw [bd2 ex]
          cases hFk : F k with
          | none =>
            rw [if_pos (by rfl), bds]
            refine Wp_s ⟨_, rfl, ?_, ?_, q_nS k, k, h6⟩
            · rw [hF1, hFk]; cases hv : V k with
              | none => exact absurd hv hne
              | some y => rfl
            · rw [hF1, hFk, hx]; rfl
          | some y0 =>
            rw [if_neg (show ¬ bI (some y0).isSome = 0 from (show ¬ bI true = 0 by decide))]
            rw [hFk] at i2
            have hsm : bI (b_lst (some y0) (V k)).isSome = 1 := by
              cases hv : V k <;> rfl
            have hsd := lst_sd (a := some y0) (by simp) hne sd
            rw [bd2 (k_sm _ _ _), bds]
            refine Wp_s ⟨_, rfl, ?_, ?_, q_nS k, k, h6⟩
            · rw [hF1, hFk]; exact hsm.symm
            · rw [hF1, hFk, hsd, ← i2, ← hx]; exact ksmT _ _
        · rw [if_neg (by rw [e0]; decide), bds]
          have hF2 : F (k + 1) = F k := by rw [hF1, ← hv6, e1]; cases F k <;> rfl
          rw [hF2]
          exact Wp_s ⟨_, rfl, rfl, i2, q_nS k, k, h6⟩
      · rw [if_neg (fun z => h1 (by rw [show (1 : Int32) = q_n 1 from rfl, q_nI (by omega) (by omega)] at z; exact z)), bds]
        have hs : g_sr K pl w i k = false := by unfold g_sr; exact beq_eq_false_iff_ne.mpr h1
        have hF1 : F (k + 1) = F k := by rw [hF, g_fold, hs]; rfl
        rw [hF1]
        exact Wp_s ⟨_, rfl, rfl, i2, q_nS k, k, j2⟩)
    (by
      rintro ⟨x1, x2, x3, τ1⟩ ⟨i1, i2, i3, a, i4⟩
      dsimp only at i1 i2 i3 i4
      subst i3
      refine ⟨(x1, x2, τ1), ?_, i1, i2, a, i4⟩
      show f_X12_least_B76 P m (q_n w) (q_n i) (q_n p) _ _ (q_n (pl i)) x1 x2 (q_n N) τ1 = _
      unfold f_X12_least_B76
      rw [if_pos (by rw [hN]; decide)])
    N 0 ((0 : Int32), (0 : Int64), (0 : Int32), σ) (mpN P) (by omega) ⟨by rw [hF]; rfl, by rw [hF]; rfl, rfl, pl i, by rw [upl_self]; exact h⟩ (by omega)
  exact ⟨r, er, hr⟩
end GPS
