/-! ===== gl: the class's approach and sweep, whole ===== -/
section GLS
variable {M M' : BV} {P : mx_P} {σ σ0 τ : mx_S} {l a ja jb : Nat} {E E' : Nat → BV} {K : LK} {pl pl0 mk : Nat → Nat} {w wy p i : Nat}
theorem c_appr (hf : 2000 ≤ mpN P) (hL : LyL (mxA σ0) (mxR σ0) l) (hp : mpb P ≤ l) (hT : kT K) (h : CS M l K mk σ0 pl0 pl σ) (hi : i < 4) (hw : w < 256) (ha : ja < kN K) (hb : jb < kN K) {N : Nat} (hN : N = 1024) :
    Wp (f_X7_approach P l (q_n w) (q_n i) (q_n ja) (q_n jb) σ) (CS (g_fold b_lst (g_sr K pl w i) (fun k => v_nrm (v_sub (s_S K (upl pl i k) w ja).2 (s_S K (upl pl i k) w jb).2)) N) l K mk σ0 pl0 pl) := by
  have hn := hT.1
  have hL' := CS_L h hL
  obtain ⟨⟨E0, wy0, hz0⟩, -, -⟩ := id h
  have hpli := hz0.1.2.2.2.1 i hi
  unfold f_X7_approach
  rw [bd (al_r4 hL'), bd (al_g4 hL' hi), hpli.1, bd ((q_gR (LyL_o hL')).trans (LyL_r19 hL')), bd (q_is (LyL_a19 hL'))]
  refine w_shut (LL_G hz0.2.1) hp ⟨by omega, by omega, LyL_a19 hL'⟩ ?_
  intro τ g
  have h0 : CS none l K mk σ0 pl0 pl τ := CS_G hL hT h hz0 g (fun q hq => up_n (by omega)) up_e
  obtain ⟨r, er, a, hr⟩ := q_for (f_X7_approach_L18 P l (q_n w) (q_n i) (q_n ja) (q_n jb) (q_n (pl i)))
    (fun k x => x.1 = q_n k ∧ ∃ a, CS (g_fold b_lst (g_sr K pl w i) (fun k => v_nrm (v_sub (s_S K (upl pl i k) w ja).2 (s_S K (upl pl i k) w jb).2)) k) l K mk σ0 pl0 (upl pl i a) x.2)
    (fun r => ∃ a, CS (g_fold b_lst (g_sr K pl w i) (fun k => v_nrm (v_sub (s_S K (upl pl i k) w ja).2 (s_S K (upl pl i k) w jb).2)) N) l K mk σ0 pl0 (upl pl i a) r) N
    (by
      rintro k ⟨x1, τ1⟩ hk ⟨i1, a, i6⟩
      dsimp only at i1 i6
      subst i1
      left
      suffices hww : Wp (f_X7_approach_B18 P l (q_n w) (q_n i) (q_n ja) (q_n jb) (q_n (pl i)) (q_n k) τ1) (fun z => ∃ t', z = .inl t' ∧ t'.1 = q_n (k + 1) ∧ ∃ a, CS (g_fold b_lst (g_sr K pl w i) (fun k => v_nrm (v_sub (s_S K (upl pl i k) w ja).2 (s_S K (upl pl i k) w jb).2)) (k + 1)) l K mk σ0 pl0 (upl pl i a) t'.2) by
        obtain ⟨z, ez, t', rfl, hz⟩ := hww
        exact ⟨t', ez, hz⟩
      unfold f_X7_approach_B18
      rw [if_neg (by rw [show (1024 : Int32) = q_n 1024 from rfl, q_nLe (by omega) (by omega)]; omega), bd (al_is (CS_L i6 hL))]
      refine Wp_b (Wp_mo (cs_move (by omega) hL hp hT i6 hi (show k < 1024 by omega)) ?_)
      intro τ3 h3
      rw [upl_upl] at h3
      rw [bd (al_is (CS_L h3 hL))]
      refine Wp_b2 (Wp_mo (cs_look true (by omega) hL hp hT h3 hw) ?_)
      rintro ⟨r, τ4⟩ ⟨j1, j2, j3, -, j5⟩
      dsimp only at j1 j2 j3 j5
      by_cases h0 : r = 0
      · rw [if_pos h0]
        have hs : g_sr K pl w i k = true := by unfold g_sr; rw [j3.mp h0]; rfl
        obtain ⟨E4, wy4, hz4, hall⟩ := j5 (Or.inl h0)
        have hv : ∀ p, p < kN K → eA E4 l p = (s_S K (upl pl i k) w p).2 := fun p hpp => by
          obtain ⟨-, e2, -, -⟩ := hall p hpp
          have hso := (wy1 hT (j3.mp h0) hpp).2
          rw [v_N_id (by rw [← v_N_open, e2]; exact hso)] at e2
          exact e2
        refine Wp_mo (c_apb (LL_G hz4.2.1) (CS_L j1 hL) hp (show ja < 40 by omega) (show jb < 40 by omega) _ _ _) ?_
        rintro z ⟨τ5, rfl, E5, g5, hE5, hM5⟩
        refine ⟨_, rfl, q_nS k, k, ?_⟩
        rw [g_fold, if_pos hs]
        refine CS_G hL hT j1 hz4 g5 hE5 ?_
        rw [hM5, hv ja ha, hv jb hb, hz4.2.2.1.1.1]
      · rw [if_neg h0]
        have hs : g_sr K pl w i k = false := by unfold g_sr; exact beq_eq_false_iff_ne.mpr (fun z => h0 (j3.mpr z))
        unfold f_X7_approach_D83_18
        rw [bds]
        refine Wp_s ⟨_, rfl, q_nS k, k, ?_⟩
        rw [g_fold, hs]; exact j1)
    (by
      rintro ⟨x1, τ1⟩ ⟨i1, a, i6⟩
      dsimp only at i1 i6
      subst i1
      refine ⟨τ1, ?_, a, i6⟩
      show f_X7_approach_B18 P l (q_n w) (q_n i) (q_n ja) (q_n jb) (q_n (pl i)) (q_n N) τ1 = _
      unfold f_X7_approach_B18
      rw [if_pos (by rw [hN]; decide)])
    N 0 ((0 : Int32), τ) (mpN P) (by omega) ⟨rfl, pl i, by rw [upl_self]; exact h0⟩ (by omega)
  rw [bd er]
  show Wp ((mx_is r l 7).bind _) _
  rw [bd (al_is (CS_L hr hL))]
  refine Wp_b (Wp_mo (cs_move (by omega) hL hp hT hr hi hpli.2) ?_)
  intro τ3 h3
  rw [upl_back] at h3
  exact Wp_s h3
theorem c_sweep {ax : Bool} (hf : 2000 ≤ mpN P) (hL : LyL (mxA σ0) (mxR σ0) l) (hp : mpb P ≤ l) (hT : kT K) (h : CS M l K mk σ0 pl0 pl σ) (hi : i < 4) (hw : w < 256) (hpp : p < kN K) {N : Nat} (hN : N = 1024) :
    Wp (f_X7_sweep P l (q_n w) (q_n i) (q_n p) (bI ax) σ) (CS (g_fold b_hull (g_sr K pl w i) (fun k => v_ax ax (s_S K (upl pl i k) w p).2) N) l K mk σ0 pl0 pl) := by
  have hn := hT.1
  have hL' := CS_L h hL
  obtain ⟨⟨E0, wy0, hz0⟩, -, -⟩ := id h
  have hpli := hz0.1.2.2.2.1 i hi
  have hp4 : p < 40 := by omega
  obtain ⟨ya, -, -, -, pa, -, -⟩ := jx_of hL' hp4
  have gg := LL_G hz0.2.1
  have hD := c_sweepD (ax := ax) hf hL hp hT h hi hw hpp hpli.2 hN
  unfold f_X7_sweep
  rw [bd (al_r4 hL'), bd (al_g4 hL' hi), hpli.1]
  cases ax
  · rw [if_pos (by rfl)]
    have hL := hL'
    repeat (with_reducible first | refine w_lis (by assumption) hL ?_ | refine w_jis (by assumption) (by assumption) ?_ | refine w_bis (by assumption) (by assumption) ?_ | refine w_pis (by assumption) (by assumption) ?_ | refine w_px (by assumption) (by assumption) ?_ | refine w_py (by assumption) (by assumption) ?_ | refine w_lR (by assumption) hL (by first | exact LyL_r0 hL | exact LyL_r11 hL | exact LyL_r12 hL | exact LyL_r13 hL | exact LyL_r14 hL | exact LyL_r15 hL | exact LyL_r16 hL | exact LyL_r17 hL | exact LyL_r18 hL | exact LyL_r19 hL | exact LyL_r5 hL | exact LyL_r4 hL | exact LyL_r1 hL) ?_ | refine w_jR (by assumption) (by assumption) (by first | exact LyJ_r12 (by assumption) | exact LyJ_r2 (by assumption) | exact LyJ_r9 (by assumption) | exact LyJ_r10 (by assumption) | exact LyJ_r11 (by assumption) | exact LyJ_r13 (by assumption) | exact LyJ_r14 (by assumption)) ?_ | refine w_jo (by assumption) hL (by assumption) ?_ | refine w_on0 (by assumption) (by assumption) (by assumption) ?_ | refine w_on1 (by assumption) (by assumption) (by assumption) ?_ | refine w_on2 (by assumption) (by assumption) (by assumption) ?_ | refine w_on3 (by assumption) (by assumption) (by assumption) ?_ | (refine z_Pminus (by assumption) hp (by assumption) (by assumption) (by assumption) fun _ v w hv hw _ => ?_; (try simp (disch := omega) only [up_e, up_n, v_px, v_py] at hv); (try simp (disch := omega) only [up_e, up_n, v_px, v_py] at hw)) | (refine z_Pcopy (by assumption) hp (by assumption) (by assumption) fun _ v w hv hw _ => ?_; (try simp (disch := omega) only [up_e, up_n, v_px, v_py] at hv); (try simp (disch := omega) only [up_e, up_n, v_px, v_py] at hw)) | (refine z_Padd (by assumption) hp (by assumption) (by assumption) (by assumption) (by omega) fun _ v w hv hw _ => ?_; (try simp (disch := omega) only [up_e, up_n, v_px, v_py] at hv); (try simp (disch := omega) only [up_e, up_n, v_px, v_py] at hw)) | (refine z_norm (by assumption) hp (by assumption) (by assumption) (by omega) (by omega) fun _ v hv _ => ?_; (try simp (disch := omega) only [up_e, up_n, v_px, v_py] at hv)) | (refine z_dot (by assumption) hp (by assumption) (by assumption) (by assumption) (by omega) (by omega) (by omega) (by omega) fun _ v hv _ => ?_; (try simp (disch := omega) only [up_e, up_n, v_px, v_py] at hv)) | (refine z_cross (by assumption) hp (by assumption) (by assumption) (by assumption) (by omega) (by omega) (by omega) (by omega) fun _ v hv _ => ?_; (try simp (disch := omega) only [up_e, up_n, v_px, v_py] at hv)) | (refine z_plus (by assumption) hp (by assumption) (by assumption) (by assumption) fun _ v hv _ => ?_; (try simp (disch := omega) only [up_e, up_n, v_px, v_py] at hv)) | (refine z_minus (by assumption) hp (by assumption) (by assumption) (by assumption) fun _ v hv _ => ?_; (try simp (disch := omega) only [up_e, up_n, v_px, v_py] at hv)) | (refine z_neg (by assumption) hp (by assumption) (by assumption) fun _ v hv _ => ?_; (try simp (disch := omega) only [up_e, up_n, v_px, v_py] at hv)) | (refine z_copy (by assumption) hp (by assumption) (by assumption) fun _ v hv _ => ?_; (try simp (disch := omega) only [up_e, up_n, v_px, v_py] at hv)) | (refine z_p1 (by assumption) hp (by assumption) (by assumption) (by assumption) fun _ v hv _ => ?_; (try simp (disch := omega) only [up_e, up_n, v_px, v_py] at hv)) | (refine z_m1 (by assumption) hp (by assumption) (by assumption) (by assumption) fun _ v hv _ => ?_; (try simp (disch := omega) only [up_e, up_n, v_px, v_py] at hv)) | (refine z_quot (by assumption) hp (by assumption) (by assumption) (by assumption) fun _ v hv _ => ?_; (try simp (disch := omega) only [up_e, up_n, v_px, v_py] at hv)) | (refine z_share2 (by assumption) hp (by assumption) fun _ v hv _ => ?_; (try simp (disch := omega) only [up_e, up_n, v_px, v_py] at hv)) | (refine z_keep0 (by assumption) hp (by assumption) fun _ v hv _ => ?_; (try simp (disch := omega) only [up_e, up_n, v_px, v_py] at hv)) | (refine z_keep1 (by assumption) hp (by assumption) fun _ v hv _ => ?_; (try simp (disch := omega) only [up_e, up_n, v_px, v_py] at hv)) | (refine z_Pturn1 (by assumption) hp (by assumption) (by assumption) (by assumption) (by omega) (by omega) fun _ v w hv hw _ => ?_; (try simp (disch := omega) only [up_e, up_n, v_px, v_py] at hv); (try simp (disch := omega) only [up_e, up_n, v_px, v_py] at hw)) | (refine z_Pturn2 (by assumption) hp (by assumption) (by assumption) (by assumption) (by omega) (by omega) fun _ v w hv hw _ => ?_; (try simp (disch := omega) only [up_e, up_n, v_px, v_py] at hv); (try simp (disch := omega) only [up_e, up_n, v_px, v_py] at hw)) | (refine z_Pprod (by assumption) hp (by assumption) (by assumption) (by assumption) (by omega) (by omega) fun _ v w hv hw _ => ?_; (try simp (disch := omega) only [up_e, up_n, v_px, v_py] at hv); (try simp (disch := omega) only [up_e, up_n, v_px, v_py] at hw)) | (refine z_Pzero (by assumption) hp (by assumption) fun _ v w hv hw _ => ?_; (try simp (disch := omega) only [up_e, up_n, v_px, v_py] at hv); (try simp (disch := omega) only [up_e, up_n, v_px, v_py] at hw)) | (refine z_Pshut (by assumption) hp (by assumption) fun _ v w hv hw _ => ?_; (try simp (disch := omega) only [up_e, up_n, v_px, v_py] at hv); (try simp (disch := omega) only [up_e, up_n, v_px, v_py] at hw)))
    exact hD
  · rw [if_neg (by decide)]
    have hL := hL'
    repeat (with_reducible first | refine w_lis (by assumption) hL ?_ | refine w_jis (by assumption) (by assumption) ?_ | refine w_bis (by assumption) (by assumption) ?_ | refine w_pis (by assumption) (by assumption) ?_ | refine w_px (by assumption) (by assumption) ?_ | refine w_py (by assumption) (by assumption) ?_ | refine w_lR (by assumption) hL (by first | exact LyL_r0 hL | exact LyL_r11 hL | exact LyL_r12 hL | exact LyL_r13 hL | exact LyL_r14 hL | exact LyL_r15 hL | exact LyL_r16 hL | exact LyL_r17 hL | exact LyL_r18 hL | exact LyL_r19 hL | exact LyL_r5 hL | exact LyL_r4 hL | exact LyL_r1 hL) ?_ | refine w_jR (by assumption) (by assumption) (by first | exact LyJ_r12 (by assumption) | exact LyJ_r2 (by assumption) | exact LyJ_r9 (by assumption) | exact LyJ_r10 (by assumption) | exact LyJ_r11 (by assumption) | exact LyJ_r13 (by assumption) | exact LyJ_r14 (by assumption)) ?_ | refine w_jo (by assumption) hL (by assumption) ?_ | refine w_on0 (by assumption) (by assumption) (by assumption) ?_ | refine w_on1 (by assumption) (by assumption) (by assumption) ?_ | refine w_on2 (by assumption) (by assumption) (by assumption) ?_ | refine w_on3 (by assumption) (by assumption) (by assumption) ?_ | (refine z_Pminus (by assumption) hp (by assumption) (by assumption) (by assumption) fun _ v w hv hw _ => ?_; (try simp (disch := omega) only [up_e, up_n, v_px, v_py] at hv); (try simp (disch := omega) only [up_e, up_n, v_px, v_py] at hw)) | (refine z_Pcopy (by assumption) hp (by assumption) (by assumption) fun _ v w hv hw _ => ?_; (try simp (disch := omega) only [up_e, up_n, v_px, v_py] at hv); (try simp (disch := omega) only [up_e, up_n, v_px, v_py] at hw)) | (refine z_Padd (by assumption) hp (by assumption) (by assumption) (by assumption) (by omega) fun _ v w hv hw _ => ?_; (try simp (disch := omega) only [up_e, up_n, v_px, v_py] at hv); (try simp (disch := omega) only [up_e, up_n, v_px, v_py] at hw)) | (refine z_norm (by assumption) hp (by assumption) (by assumption) (by omega) (by omega) fun _ v hv _ => ?_; (try simp (disch := omega) only [up_e, up_n, v_px, v_py] at hv)) | (refine z_dot (by assumption) hp (by assumption) (by assumption) (by assumption) (by omega) (by omega) (by omega) (by omega) fun _ v hv _ => ?_; (try simp (disch := omega) only [up_e, up_n, v_px, v_py] at hv)) | (refine z_cross (by assumption) hp (by assumption) (by assumption) (by assumption) (by omega) (by omega) (by omega) (by omega) fun _ v hv _ => ?_; (try simp (disch := omega) only [up_e, up_n, v_px, v_py] at hv)) | (refine z_plus (by assumption) hp (by assumption) (by assumption) (by assumption) fun _ v hv _ => ?_; (try simp (disch := omega) only [up_e, up_n, v_px, v_py] at hv)) | (refine z_minus (by assumption) hp (by assumption) (by assumption) (by assumption) fun _ v hv _ => ?_; (try simp (disch := omega) only [up_e, up_n, v_px, v_py] at hv)) | (refine z_neg (by assumption) hp (by assumption) (by assumption) fun _ v hv _ => ?_; (try simp (disch := omega) only [up_e, up_n, v_px, v_py] at hv)) | (refine z_copy (by assumption) hp (by assumption) (by assumption) fun _ v hv _ => ?_; (try simp (disch := omega) only [up_e, up_n, v_px, v_py] at hv)) | (refine z_p1 (by assumption) hp (by assumption) (by assumption) (by assumption) fun _ v hv _ => ?_; (try simp (disch := omega) only [up_e, up_n, v_px, v_py] at hv)) | (refine z_m1 (by assumption) hp (by assumption) (by assumption) (by assumption) fun _ v hv _ => ?_; (try simp (disch := omega) only [up_e, up_n, v_px, v_py] at hv)) | (refine z_quot (by assumption) hp (by assumption) (by assumption) (by assumption) fun _ v hv _ => ?_; (try simp (disch := omega) only [up_e, up_n, v_px, v_py] at hv)) | (refine z_share2 (by assumption) hp (by assumption) fun _ v hv _ => ?_; (try simp (disch := omega) only [up_e, up_n, v_px, v_py] at hv)) | (refine z_keep0 (by assumption) hp (by assumption) fun _ v hv _ => ?_; (try simp (disch := omega) only [up_e, up_n, v_px, v_py] at hv)) | (refine z_keep1 (by assumption) hp (by assumption) fun _ v hv _ => ?_; (try simp (disch := omega) only [up_e, up_n, v_px, v_py] at hv)) | (refine z_Pturn1 (by assumption) hp (by assumption) (by assumption) (by assumption) (by omega) (by omega) fun _ v w hv hw _ => ?_; (try simp (disch := omega) only [up_e, up_n, v_px, v_py] at hv); (try simp (disch := omega) only [up_e, up_n, v_px, v_py] at hw)) | (refine z_Pturn2 (by assumption) hp (by assumption) (by assumption) (by assumption) (by omega) (by omega) fun _ v w hv hw _ => ?_; (try simp (disch := omega) only [up_e, up_n, v_px, v_py] at hv); (try simp (disch := omega) only [up_e, up_n, v_px, v_py] at hw)) | (refine z_Pprod (by assumption) hp (by assumption) (by assumption) (by assumption) (by omega) (by omega) fun _ v w hv hw _ => ?_; (try simp (disch := omega) only [up_e, up_n, v_px, v_py] at hv); (try simp (disch := omega) only [up_e, up_n, v_px, v_py] at hw)) | (refine z_Pzero (by assumption) hp (by assumption) fun _ v w hv hw _ => ?_; (try simp (disch := omega) only [up_e, up_n, v_px, v_py] at hv); (try simp (disch := omega) only [up_e, up_n, v_px, v_py] at hw)) | (refine z_Pshut (by assumption) hp (by assumption) fun _ v w hv hw _ => ?_; (try simp (disch := omega) only [up_e, up_n, v_px, v_py] at hv); (try simp (disch := omega) only [up_e, up_n, v_px, v_py] at hw)))
    exact hD
end GLS
