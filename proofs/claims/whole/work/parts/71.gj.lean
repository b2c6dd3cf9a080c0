/-! ===== gj: the class's sweep ===== -/
section GJS
variable {M M' : BV} {P : mx_P} {σ σ0 τ : mx_S} {l a : Nat} {E E' : Nat → BV} {K : LK} {pl pl0 mk : Nat → Nat} {w wy p i : Nat}
def v_ax (ax : Bool) (v : V2) : BV := if ax then v.2 else v.1
theorem v_ax_ne {ax : Bool} {v : V2} (h : v_open v = false) : v_ax ax v ≠ none := by
  obtain ⟨x, y⟩ := v
  cases x <;> cases y <;> cases ax <;> simp_all [v_ax, v_open]
theorem c_sweepD {ax : Bool} (hf : 2000 ≤ mpN P) (hL : LyL (mxA σ0) (mxR σ0) l) (hp : mpb P ≤ l) (hT : kT K) (h : CS M l K mk σ0 pl0 pl σ) (hi : i < 4) (hw : w < 256) (hpp : p < kN K) (hpl : pl i < 1024) {N : Nat} (hN : N = 1024) :
    Wp (f_X7_sweep_D40 P l (q_n w) (q_n i) (q_n (pl i)) (l + 2 + 16 * p + 7 + (if ax then 2 else 1)) σ) (CS (g_fold b_hull (g_sr K pl w i) (fun k => v_ax ax (s_S K (upl pl i k) w p).2) N) l K mk σ0 pl0 pl) := by
  have hn := hT.1
  have hL' := CS_L h hL
  have hp4 : p < 40 := by omega
  unfold f_X7_sweep_D40
  rw [bd ((q_gR (LyL_o hL')).trans (LyL_r19 hL')), bd (q_is (LyL_a19 hL'))]
  obtain ⟨⟨E0, wy0, hz0⟩, -, -⟩ := id h
  refine w_shut (LL_G hz0.2.1) hp ⟨by omega, by omega, LyL_a19 hL'⟩ ?_
  intro τ g
  have h0 : CS none l K mk σ0 pl0 pl τ := CS_G hL hT h hz0 g (fun q hq => up_n (by omega)) up_e
  obtain ⟨r, er, a, hr⟩ := q_for (f_X7_sweep_L52 P l (q_n w) (q_n i) (q_n (pl i)) (l + 2 + 16 * p + 7 + (if ax then 2 else 1)))
    (fun k x => x.1 = q_n k ∧ ∃ a, CS (g_fold b_hull (g_sr K pl w i) (fun k => v_ax ax (s_S K (upl pl i k) w p).2) k) l K mk σ0 pl0 (upl pl i a) x.2)
    (fun r => ∃ a, CS (g_fold b_hull (g_sr K pl w i) (fun k => v_ax ax (s_S K (upl pl i k) w p).2) N) l K mk σ0 pl0 (upl pl i a) r) N
    (by
      rintro k ⟨x1, τ1⟩ hk ⟨i1, a, i6⟩
      dsimp only at i1 i6
      subst i1
      left
      suffices hww : Wp (f_X7_sweep_B52 P l (q_n w) (q_n i) (q_n (pl i)) (l + 2 + 16 * p + 7 + (if ax then 2 else 1)) (q_n k) τ1) (fun z => ∃ t', z = .inl t' ∧ t'.1 = q_n (k + 1) ∧ ∃ a, CS (g_fold b_hull (g_sr K pl w i) (fun k => v_ax ax (s_S K (upl pl i k) w p).2) (k + 1)) l K mk σ0 pl0 (upl pl i a) t'.2) by
        obtain ⟨z, ez, t', rfl, hz⟩ := hww
        exact ⟨t', ez, hz⟩
      unfold f_X7_sweep_B52
      rw [if_neg (by rw [show (1024 : Int32) = q_n 1024 from rfl, q_nLe (by omega) (by omega)]; omega), bd (al_is (CS_L i6 hL))]
      refine Wp_b (Wp_mo (cs_move (by omega) hL hp hT i6 hi (show k < 1024 by omega)) ?_)
      intro τ3 h3
      rw [upl_upl] at h3
      rw [bd (al_is (CS_L h3 hL))]
      refine Wp_b2 (Wp_mo (cs_look true (by omega) hL hp hT h3 hw) ?_)
      rintro ⟨r, τ4⟩ ⟨j1, j2, j3, -, j5⟩
      dsimp only at j1 j2 j3 j5
      by_cases h0 : r = 0
      · rw [if_pos h0]
        have hs : g_sr K pl w i k = true := by unfold g_sr; rw [j3.mp h0]; rfl
        obtain ⟨E4, wy4, hz4, hall⟩ := j5 (Or.inl h0)
        obtain ⟨-, e2, -, -⟩ := hall p hpp
        have hso := (wy1 hT (j3.mp h0) hpp).2
        have hop : v_open (eA E4 l p) = false := by rw [← v_N_open, e2]; exact hso
        rw [v_N_id hop] at e2
        have hval : E4 (l + 2 + 16 * p + 7 + (if ax then 2 else 1)) = v_ax ax (s_S K (upl pl i k) w p).2 := by
          rw [← e2]; unfold eA v_ax; cases ax <;> rfl
        have hL4 := CS_L j1 hL
        have rT : mg_R τ4 l 7 19 = some (l + 675) := (q_gR (LyL_o hL4)).trans (LyL_r19 hL4)
        rw [bd rT, bd (q_gI (LyL_a19 hL4)), bd rT]
        have hbx : bx τ4 l (l + 2 + 16 * p + 7 + (if ax then 2 else 1)) := by
          have := (jx_of hL4 hp4).2.2.2.2.1
          cases ax
          · exact this.2.1
          · exact this.2.2
        refine Wp_mo (c_swb (LL_G hz4.2.1) hL4 hp hbx (by rw [hval]; exact v_ax_ne hso) _ _ _ _ rfl) ?_
        rintro z ⟨τ5, rfl, g5⟩
        refine ⟨_, rfl, q_nS k, k, ?_⟩
        rw [g_fold, if_pos hs]
        refine CS_G hL hT j1 hz4 g5 (fun q hq => up_n (by omega)) ?_
        rw [up_e, hval, hz4.2.2.1.1.1]
      · rw [if_neg h0]
        have hs : g_sr K pl w i k = false := by unfold g_sr; exact beq_eq_false_iff_ne.mpr (fun z => h0 (j3.mpr z))
        unfold f_X7_sweep_D148_52
        rw [bds]
        refine Wp_s ⟨_, rfl, q_nS k, k, ?_⟩
        rw [g_fold, hs]; exact j1)
    (by
      rintro ⟨x1, τ1⟩ ⟨i1, a, i6⟩
      dsimp only at i1 i6
      subst i1
      refine ⟨τ1, ?_, a, i6⟩
      show f_X7_sweep_B52 P l (q_n w) (q_n i) (q_n (pl i)) _ (q_n N) τ1 = _
      unfold f_X7_sweep_B52
      rw [if_pos (by rw [hN]; decide)])
    N 0 ((0 : Int32), τ) (mpN P) (by omega) ⟨rfl, pl i, by rw [upl_self]; exact h0⟩ (by omega)
  rw [bd er]
  show Wp ((mx_is r l 7).bind _) _
  rw [bd (al_is (CS_L hr hL))]
  refine Wp_b (Wp_mo (cs_move (by omega) hL hp hT hr hi hpl) ?_)
  intro τ3 h3
  rw [upl_back] at h3
  exact Wp_s h3
end GJS
