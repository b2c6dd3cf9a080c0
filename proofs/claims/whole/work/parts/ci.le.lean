/-! ===== le: cam, both ===== -/
section LES
variable {P : mx_P} {σ σ0 σ1 σ2 τ τ' : mx_S} {x m n t l p a N i k j u v c f s b q K : Nat} {bl : List Nat} {e : Option Nat} {r r' : Int32}
theorem OutK_m (hC : OutK bl N K e c t r τ) (hR : OutM σ bl N K e m r' τ') : (r = 0 ∧ mxI τ' m 0 = 1 ∧ mxI τ' m 4 = mxI τ t 2 ∧ mxI τ' m 5 = mxI τ t 3 ∧ Fz (ckB m) σ τ') ∨
    (r = 1 ∧ r' = q_n K ∧ (mxI τ t 2 = 0 ∧ mxI τ t 3 = 0) ∧ CmO K (cmW' bl N) (cfF bl N) (cmL' bl N) (cmT' bl N) (cmB' bl N) ∧ CmC τ c K (cmW' bl N) (cfF bl N) (cmL' bl N) (cmT' bl N) (cmB' bl N) ∧ (mxI τ' m 0 = 0 ∧ mxI τ' m 4 = 0 ∧ mxI τ' m 5 = 0) ∧ Fz (ckG m) σ τ' ∧ CmR τ' m K (cmW' bl N) (cfF bl N) (cmL' bl N) (cmT' bl N) (cmB' bl N)) := by
  rcases hC with ⟨q, rfl, c1, c2, c3⟩ | ⟨cq, rfl, hl, c1, c2, c3⟩ | ⟨rfl, hl, c1, c2, c3, c4⟩
  · left
    rcases hR with ⟨q', e', d1, d2, d3, d4, d5⟩ | ⟨cq, e', -⟩ | ⟨e', -⟩ | ⟨e', -⟩
    · cases e'
      exact ⟨c1, d2, d3.trans c2.symm, d4.trans c3.symm, d5⟩
    · cases e'
    · cases e'
    · cases e'
  · left
    rcases hR with ⟨q', e', -⟩ | ⟨cq', -, hl', d1, d2, d3, d4, d5⟩ | ⟨-, hl', -⟩ | ⟨-, hl', -⟩
    · cases e'
    · rw [hl] at hl'
      cases hl'
      exact ⟨c1, d2, d3.trans c2.symm, d4.trans c3.symm, d5⟩
    · rw [hl] at hl'; cases hl'
    · rw [hl] at hl'; cases hl'
  · rcases hR with ⟨q', e', -⟩ | ⟨cq', -, hl', -⟩ | ⟨-, hl', hz, d1, d2, d3, d4, d5⟩ | ⟨-, hl', hz, d1, d2, d3, d4, d5, d6, d7⟩
    · cases e'
    · rw [hl] at hl'; cases hl'
    · left
      rw [if_neg hz] at c1 c3
      exact ⟨c1, d2, d3.trans c2.symm, d4.trans c3.symm, d5⟩
    · right
      rw [if_pos hz] at c1 c3
      rw [hz] at c2
      exact ⟨c1, d1, ⟨c2, c3⟩, CmO_of d6 hz, c4, ⟨d2, d3, d4⟩, d5, d7⟩
theorem cp06 (h : cp x i q j) (h0 : i ≠ 0) (h6 : i ≠ 6) : ¬ (x + 1 ≤ q ∧ q < x + 9) ∧ ¬ (x + 1481 ≤ q ∧ q < x + 1497) ∧ q ≠ x + 1575 ∧ ¬ ckG (x + 1497) q j := by
  unfold ckG ckB
  rcases i with _ | _ | _ | _ | _ | _ | _ | _ | i <;> first | exact absurd rfl h0 | exact absurd rfl h6 | exact h.elim | (simp only [cp] at h; omega)
theorem CmC.cg {W K' L : Nat → Nat} {T B : Nat → Int} (h : CmC σ c n W K' L T B) (e2 : ∀ q j, c ≤ q ∧ q < c + 6 → mxI τ q j = mxI σ q j ∧ mxL τ q j = mxL σ q j) : CmC τ c n W K' L T B := by
  obtain ⟨h7, h8⟩ := h
  refine ⟨(e2 _ _ (by omega)).1.trans h7, fun k hk => ?_⟩
  rw [(e2 (c + 1) k (by omega)).1, (e2 (c + 2) k (by omega)).1, (e2 (c + 3) k (by omega)).1, (e2 (c + 4) k (by omega)).2, (e2 (c + 5) k (by omega)).2]
  exact h8 k hk
theorem CmR.cg {W K' L : Nat → Nat} {T B : Nat → Int} (h : CmR σ m n W K' L T B) (e2 : ∀ q j, (m + 49 ≤ q ∧ q ≤ m + 53) ∨ (q = m ∧ j = 74) → mxI τ q j = mxI σ q j ∧ mxL τ q j = mxL σ q j) : CmR τ m n W K' L T B := by
  obtain ⟨h7, h8⟩ := h
  refine ⟨(e2 _ _ (by omega)).1.trans h7, fun k hk => ?_⟩
  rw [(e2 (m + 49) k (by omega)).1, (e2 (m + 50) k (by omega)).1, (e2 (m + 51) k (by omega)).2, (e2 (m + 52) k (by omega)).2, (e2 (m + 53) k (by omega)).1]
  exact h8 k hk
theorem g_cam (hS : St P σ x) (hT : RT x σ) (hL : RCm x σ) : Qw x σ (f_L_cam P x (x + 1575) σ) (fun τ => f_X12_cam P (x + 1497) τ) (fun q j => q = x ∧ (j = 8 ∨ j = 9)) [0, 6] (fun τ => RT x τ ∧ RCm x τ) := by
  obtain ⟨bl, hC, hR, hf1, hf2⟩ := hT
  obtain ⟨c, c', n, W, Kd, L, T, B, r8, r9, hcc, ho, hcm, hrm'⟩ := hL
  obtain ⟨hH, hb, hN, hrm⟩ := hS
  have hx := LyH_o hH
  have hTt := LyH_t hH
  have hM := LyH_m hH
  have hbt : mpb P ≤ x + 1 := by omega
  have hbm : mpb P ≤ x + 1497 := by omega
  have hc' : LyC (mxA σ) (mxR σ) c' := by
    rcases hcc with ⟨-, rfl⟩ | ⟨-, rfl⟩
    · exact LyH_c2 hH
    · exact LyH_c1 hH
  obtain ⟨K, e, r, τc, hTx, ec, Fc, hO⟩ := c_cmr (P := P) (N := 4000) rfl (by omega) hTt hbt hc' (by omega) hC
  obtain ⟨σ1, e1⟩ : ∃ σ1, σ1 = mx_setI τc (x + 1) 1 0 := ⟨_, rfl⟩
  have F1 : Fz (fun q j => ciF c' (x + 1) q j ∨ (q = x + 1 ∧ j = 1)) σ σ1 := by
    rw [e1]
    exact (Fc.mo fun _ _ z => Or.inl z).sI (Or.inr ⟨rfl, rfl⟩) _
  have out1 : ∀ q j, ¬ (x + 1 ≤ q ∧ q < x + 9) → ¬ (c' ≤ q ∧ q < c' + 8) → mxI σ1 q j = mxI σ q j ∧ mxL σ1 q j = mxL σ q j := fun q j h1 h2 => F1.2.2.2 q j (fun z => by unfold ciF at z; omega)
  have c1c : ∀ q j, c' ≤ q → q < c' + 8 → mxI σ1 q j = mxI τc q j ∧ mxL σ1 q j = mxL τc q j := fun q j h1 h2 => by
    rw [e1]; exact ⟨sI_n (by omega), rfl⟩
  have t1 : mxI σ1 (x + 1) 1 = 0 := by rw [e1]; exact sI_e
  have t2 : mxI σ1 (x + 1) 2 = mxI τc (x + 1) 2 := by rw [e1]; exact sI_n (by omega)
  have t3 : mxI σ1 (x + 1) 3 = mxI τc (x + 1) 3 := by rw [e1]; exact sI_n (by omega)
  have hTR1 : TR σ1 (x + 1497) bl := TR_cg hR (out1 _ _ (by omega) (by omega)).1 (fun k => (out1 _ _ (by omega) (by omega)).1)
  have g9 : mg_R σ x 11 9 = some c' := (q_gR hx).trans r9
  have g0 : mg_R σ x 11 0 = some (x + 1) := (q_gR hx).trans (LyH_r0 hH)
  have gc0 : mg_R τc x 11 0 = some (x + 1) := (q_gR (by rw [Fc.1]; exact hx)).trans (by rw [Fc.2.1]; exact LyH_r0 hH)
  have hcl0 : f_X11_cam P x σ = (if r = 0 then (mx_th P σ1).bind fun σ27 => some (.inl ("java/lang/UnsupportedOperationException", σ27)) else (mg_R σ1 x 11 8).bind fun b15 => (mg_R σ1 x 11 9).bind fun b17 => (mp_R P σ1 x 11 8 b17).bind fun σ19 => (mp_R P σ19 x 11 9 b15).bind fun σ21 => (mg_R σ21 x 11 8).bind fun b23 => (mg_I σ21 b23 1 0).bind fun x25 => some (.inr (x25, σ21))) := by
    unfold f_X11_cam
    rw [bd g9, bd g0, bd (ac_is hc'), bd2 ec, bd gc0, bd (at_pI (Fc.T hTt) hbt _), ← e1]
  by_cases hr0 : r = 0
  · have hrm1 : Rm P σ1 1 6 := by unfold Rm; rw [F1.2.2.1.1, F1.2.2.1.2]; exact hrm
    have hcl : f_X11_cam P x σ = some (.inl ("java/lang/UnsupportedOperationException", th σ1)) := by
      rw [hcl0, if_pos hr0, bd (k_th hrm1)]
    have hMt : LyM (th σ1) (x + 1497) := F1.M hM
    have hTRt : TR (th σ1) (x + 1497) bl := hTR1
    obtain ⟨K', e', r', τ2, hTx', em, z2, hO'⟩ := r_cam (P := P) (N := 4000) rfl (by omega) hbm hMt hTRt
    obtain ⟨rfl, rfl⟩ := Txt_u hTx hTx'
    rcases OutK_m hO hO' with ⟨-, d0, d4, d5, F2⟩ | ⟨h1, -⟩
    · have c2 : ∀ q j, ¬ ckB (x + 1497) q j → mxI τ2 q j = mxI σ1 q j ∧ mxL τ2 q j = mxL σ1 q j := fun q j h => F2.2.2.2 q j h
      refine ⟨1, r', th σ1, τ2, ht_cam1 hx hcl, em, d0, fun z => absurd z zi10, F1.1, ⟨F2.1.trans F1.1, fun q j _ => by rw [F2.2.1]; show mxR σ1 q j = mxR σ q j; rw [F1.2.1], fun i q j hq hi => ?_, ?_, ?_, ?_, ?_⟩, ⟨[], ⟨Nat.zero_le _, ?_, fun k b hk => (by cases hk)⟩, ⟨Nat.zero_le _, z2, fun k b hk => (by cases hk)⟩, ?_, ?_⟩, c, c', n, W, Kd, L, T, B, ?_, ?_, hcc, ho, ?_, ?_⟩
      · have hi' : i ≠ 0 ∧ i ≠ 6 := by simpa using hi
        obtain ⟨a1, a2, a3, a4⟩ := cp06 hq hi'.1 hi'.2
        have b := c2 q j (fun z => a4 (Or.inl z))
        have d := out1 q j a1 (by omega)
        exact ⟨b.1.trans d.1, b.2.trans d.2⟩
      · rw [F2.2.2.1.1]; show mxz σ ≤ mxz σ1 + 1; rw [F1.2.2.1.1]; omega
      · rw [F2.2.2.1.1]; show mxz σ1 + 1 ≤ mxz σ + 1; rw [F1.2.2.1.1]; omega
      · rw [F2.2.2.1.2]; show mxu σ1 + 6 ≤ mxu σ + 6; rw [F1.2.2.1.2]; omega
      · intro z
        rw [F2.2.2.1.1] at z
        have z' : mxz σ1 + 1 = mxz σ := z
        rw [F1.2.2.1.1] at z'
        omega
      · exact (c2 _ _ (by unfold ckB; omega)).1.trans t1
      · exact ((c2 _ _ (by unfold ckB; omega)).1.trans t2).trans d4.symm
      · exact ((c2 _ _ (by unfold ckB; omega)).1.trans t3).trans d5.symm
      · rw [F2.2.1]; show mxR σ1 x 8 = some c; rw [F1.2.1]; exact r8
      · rw [F2.2.1]; show mxR σ1 x 9 = some c'; rw [F1.2.1]; exact r9
      · refine hcm.cg fun q j z => ?_
        have b := c2 q j (by unfold ckB; omega)
        have d := out1 q j (by omega) (by omega)
        exact ⟨b.1.trans d.1, b.2.trans d.2⟩
      · refine hrm'.cg fun q j z => ?_
        have b := c2 q j (by unfold ckB; omega)
        have d := out1 q j (by omega) (by omega)
        exact ⟨b.1.trans d.1, b.2.trans d.2⟩
    · rw [hr0] at h1; exact absurd h1.symm zi10
  · obtain ⟨σ2, e2⟩ : ∃ σ2, σ2 = mx_setR σ1 x 8 c' := ⟨_, rfl⟩
    obtain ⟨σ3, e3⟩ : ∃ σ3, σ3 = mx_setR σ2 x 9 c := ⟨_, rfl⟩
    obtain ⟨v, hv⟩ : ∃ v, v = (mxI σ3 c' 0).toInt64 := ⟨_, rfl⟩
    obtain ⟨σ4, e4⟩ : ∃ σ4, σ4 = mx_setL σ3 (x + 1575) 0 v := ⟨_, rfl⟩
    have A3 : mxA σ3 = mxA σ := by rw [e3, e2]; exact F1.1
    have I3 : ∀ q j, mxI σ3 q j = mxI σ1 q j := fun q j => by rw [e3, e2]; rfl
    have L3 : ∀ q j, mxL σ3 q j = mxL σ1 q j := fun q j => by rw [e3, e2]; rfl
    have I4 : ∀ q j, mxI σ4 q j = mxI σ1 q j := fun q j => by rw [e4]; exact I3 q j
    have L4 : ∀ q j, q ≠ x + 1575 → mxL σ4 q j = mxL σ1 q j := fun q j h => by rw [e4, sL_n (by omega)]; exact L3 q j
    have R3 : ∀ q j, mxR σ3 q j = if q = x ∧ j = 9 then some c else if q = x ∧ j = 8 then some c' else mxR σ q j := fun q j => by
      rw [e3, q_RR, e2, q_RR, F1.2.1]
    have hcl : f_X11_cam P x σ = some (.inr (mxI σ3 c' 0, σ3)) := by
      have hx1 : mxA σ1 x = some (.inl 11) := by rw [F1.1]; exact hx
      have hx2 : mxA σ2 x = some (.inl 11) := by rw [e2]; exact hx1
      have hx3 : mxA σ3 x = some (.inl 11) := by rw [A3]; exact hx
      have hl3 : mxA σ3 c' = some (.inl 1) := by rw [A3]; exact hc'.1
      rw [hcl0, if_neg hr0, bd ((q_gR hx1).trans (by rw [F1.2.1]; exact r8)), bd ((q_gR hx1).trans (by rw [F1.2.1]; exact r9)), bd (q_pR hx1 hb _), ← e2, bd (q_pR hx2 hb _), ← e3, bd ((q_gR hx3).trans (show mxR σ3 x 8 = some c' by rw [R3, if_neg (by omega), if_pos ⟨rfl, rfl⟩])), bd (q_gI hl3)]
    have hlo := hr_cam (o := x + 1575) hx hcl (by rw [A3]; exact LyH_u hH) (by omega)
    rw [← hv, ← e4] at hlo
    have hH4 : LyH (mxA σ4) (mxR σ4) x := by
      rw [show mxA σ4 = mxA σ by rw [e4]; exact A3]
      refine LyH_cg hH (fun q j h => ?_)
      rw [show mxR σ4 q j = mxR σ3 q j by rw [e4]; rfl, R3, if_neg (fun z => h (Or.inl ⟨z.1, by omega, by omega⟩)), if_neg (fun z => h (Or.inl ⟨z.1, by omega, by omega⟩))]
    have hM4 : LyM σ4 (x + 1497) := LyH_m hH4
    have hTR4 : TR σ4 (x + 1497) bl := TR_cg hTR1 (I4 _ _) (fun k => I4 _ _)
    obtain ⟨K', e', r', τ2, hTx', em, z2, hO'⟩ := r_cam (P := P) (N := 4000) rfl (by omega) hbm hM4 hTR4
    obtain ⟨rfl, rfl⟩ := Txt_u hTx hTx'
    rcases OutK_m hO hO' with ⟨h0, -⟩ | ⟨-, hr', ⟨d2, d3⟩, hO2, dC, ⟨m0, m4, m5⟩, F2, dR⟩
    · exact absurd h0 hr0
    · have c2 : ∀ q j, ¬ ckG (x + 1497) q j → mxI τ2 q j = mxI σ4 q j ∧ mxL τ2 q j = mxL σ4 q j := fun q j h => F2.2.2.2 q j h
      have A4 : mxA σ4 = mxA σ := by rw [e4]; exact A3
      have S4 : mxz σ4 = mxz σ ∧ mxu σ4 = mxu σ := by rw [e4, e3, e2]; exact F1.2.2.1
      have v4 : mxL σ4 (x + 1575) 0 = v := by rw [e4]; exact sL_e
      have cA : mxA τ2 = mxA σ := F2.1.trans A4
      have R2 : ∀ q j, mxR τ2 q j = if q = x ∧ j = 9 then some c else if q = x ∧ j = 8 then some c' else mxR σ q j := fun q j => by
        rw [F2.2.1, show mxR σ4 q j = mxR σ3 q j by rw [e4]; rfl, R3]
      have cl : ∀ q j, x + 1481 ≤ q → q < x + 1497 → mxI τ2 q j = mxI σ1 q j ∧ mxL τ2 q j = mxL σ1 q j := fun q j h1 h2 => by
        have b := c2 q j (by unfold ckG ckB; omega)
        exact ⟨b.1.trans (I4 q j), b.2.trans (L4 q j (by omega))⟩
      refine ⟨0, r', σ4, τ2, hlo, em, m0, fun _ => ?_, A4, ⟨cA, fun q j h => ?_, fun i q j hq hi => ?_, by rw [F2.2.2.1.1, S4.1]; exact Nat.le_refl _, by rw [F2.2.2.1.1, S4.1]; omega, by rw [F2.2.2.1.2, S4.2]; omega, fun _ => by rw [F2.2.2.1.2, S4.2]⟩, ⟨[], ⟨Nat.zero_le _, ?_, fun k b hk => (by cases hk)⟩, ⟨Nat.zero_le _, z2, fun k b hk => (by cases hk)⟩, ?_, ?_⟩, c', c, K, cmW' bl 4000, cfF bl 4000, cmL' bl 4000, cmT' bl 4000, cmB' bl 4000, ?_, ?_, by omega, hO2, ?_, dR⟩
      · rw [(c2 _ _ (by unfold ckG ckB; omega)).2, v4, hv, I3, (c1c _ _ (by omega) (by omega)).1, dC.1, hr']
      · rw [R2, if_neg (fun z => h ⟨z.1, Or.inr z.2⟩), if_neg (fun z => h ⟨z.1, Or.inl z.2⟩)]
      · have hi' : i ≠ 0 ∧ i ≠ 6 := by simpa using hi
        obtain ⟨a1, a2, a3, a4⟩ := cp06 hq hi'.1 hi'.2
        have b := c2 q j a4
        have d := out1 q j a1 (by omega)
        exact ⟨(b.1.trans (I4 q j)).trans d.1, (b.2.trans (L4 q j a3)).trans d.2⟩
      · exact ((c2 _ _ (by unfold ckG ckB; omega)).1.trans (I4 _ _)).trans t1
      · rw [(c2 _ _ (by unfold ckG ckB; omega)).1, I4, t2, d2, m4]
      · rw [(c2 _ _ (by unfold ckG ckB; omega)).1, I4, t3, d3, m5]
      · rw [R2, if_neg (by omega), if_pos ⟨rfl, rfl⟩]
      · rw [R2, if_pos ⟨rfl, rfl⟩]
      · refine dC.cg fun q j z => ?_
        have b := cl q j (by omega) (by omega)
        have d := c1c q j (by omega) (by omega)
        exact ⟨b.1.trans d.1, b.2.trans d.2⟩
end LES
