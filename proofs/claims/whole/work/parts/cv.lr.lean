/-! ===== lr: drive ===== -/
section LRS
variable {P : mx_P} {σ σ0 σ1 σ2 τ τ' : mx_S} {x m n t l l' p a N i k j u v c f s b q K nk d : Nat} {bl w : List Nat} {e : Option Nat} {B : LB} {KL : LK} {pl mk : Nat → Nat} {O : OD} {r r' : Int32}
theorem flD_l : ∀ f a k, (flD O n f a k).length ≤ cA O n f a k
  | 0, a, k => Nat.le_refl _
  | f + 1, a, k => by
    unfold flD cA
    split
    · split
      · rw [List.length_append, rep_l, List.length_range']
        have := flD_l f (k + 1) (k + 1)
        have h2 : (O k).2.1 * (k - a) ≤ (O k).2.1 * (k - a + 1) := Nat.mul_le_mul_left _ (by omega)
        omega
      · rw [List.length_cons]
        have := flD_l f a (k + 1)
        omega
    · exact Nat.zero_le _
theorem run_l (hO : DvO n O KL) : (runL KL O (flD O n n 0 0) (pl, 0, [], 0)).1.2.2.1.length < 1000 := by
  have h1 := runH_l (K := KL) (O := O) (flD O n n 0 0) ((pl, 0, [], 0), 0)
  have e : runH KL O (flD O n n 0 0) ((pl, 0, [], 0), 0) = runL KL O (flD O n n 0 0) (pl, 0, [], 0) := by unfold runH; rw [if_pos rfl]
  rw [e] at h1
  have h2 := flD_l (O := O) (n := n) n 0 0
  have h3 := cA_b hO n 0 0 (Nat.le_refl _) (by omega)
  have h4 := hO.1
  have h5 : (((pl, 0, [], 0) : DS), 0).1.2.2.1.length = 0 := rfl
  omega
theorem OutV_m (hC : OutV bl N B (kN KL) K e d t r τ) (hR : OutW σ bl N B KL pl K e m r' τ') : (r = 0 ∧ mxI τ' m 0 = 1 ∧ mxI τ' m 4 = mxI τ t 2 ∧ mxI τ' m 5 = mxI τ t 3 ∧ Fz (vkB m) σ τ') ∨
    (r = 1 ∧ dLs bl N B (kN KL) K = none ∧ (mxI τ t 2 = 0 ∧ mxI τ t 3 = 0) ∧ DvC τ d K (dO bl N B (kN KL)) ∧ (mxI τ' m 0 = 0 ∧ mxI τ' m 4 = 0 ∧ mxI τ' m 5 = 0) ∧ Fz (vkG m) σ τ' ∧ DvO K (dO bl N B (kN KL)) KL ∧ r' = q_n (runL KL (dO bl N B (kN KL)) (flD (dO bl N B (kN KL)) K K 0 0) (pl, 0, [], 0)).2 ∧ ∃ σ9, RD m KL B K (dO bl N B (kN KL)) σ9 (runL KL (dO bl N B (kN KL)) (flD (dO bl N B (kN KL)) K K 0 0) (pl, 0, [], 0)).2 (runL KL (dO bl N B (kN KL)) (flD (dO bl N B (kN KL)) K K 0 0) (pl, 0, [], 0)).1 τ') := by
  rcases hC with ⟨q, rfl, c1, c2, c3⟩ | ⟨cq, rfl, hl, c1, c2, c3⟩ | ⟨rfl, hl, c1, c2, c3⟩
  · left
    rcases hR with ⟨q', e', d1, d2, d3, d4, d5⟩ | ⟨cq, e', -⟩ | ⟨e', -⟩
    · cases e'
      exact ⟨c1, d2, d3.trans c2.symm, d4.trans c3.symm, d5⟩
    · cases e'
    · cases e'
  · left
    rcases hR with ⟨q', e', -⟩ | ⟨cq', -, hl', d1, d2, d3, d4, d5⟩ | ⟨-, hl', -⟩
    · cases e'
    · rw [hl] at hl'
      cases hl'
      exact ⟨c1, d2, d3.trans c2.symm, d4.trans c3.symm, d5⟩
    · rw [hl] at hl'; cases hl'
  · right
    rcases hR with ⟨q', e', -⟩ | ⟨cq', -, hl', -⟩ | ⟨-, hl', d1, d2, d3, d4, d5, d6, d7⟩
    · cases e'
    · rw [hl] at hl'; cases hl'
    · exact ⟨c1, hl, c2, c3, ⟨d1, d2, d3⟩, d4, d5, d6, d7⟩
theorem cp057 (h : cp x i q j) (h0 : i ≠ 0) (h5 : i ≠ 5) (h7 : i ≠ 7) : ¬ (x + 1 ≤ q ∧ q < x + 9) ∧ ¬ (x + 120 ≤ q ∧ q < x + 128) ∧ ¬ (x + 129 ≤ q ∧ q < x + 1481) ∧ q ≠ x + 1575 ∧ ¬ vkG (x + 1497) q j := by
  unfold vkG vkB
  rcases i with _ | _ | _ | _ | _ | _ | _ | _ | i <;> first | exact absurd rfl h0 | exact absurd rfl h5 | exact absurd rfl h7 | exact h.elim | (simp only [cp] at h; omega)
theorem g_drive (hS : St P σ x) (hT : RT x σ) (hL : RL x σ) (hE : RDe x σ) : Q32 x σ (f_L_drive P x (x + 1575) σ) (fun τ => f_X12_drive P (x + 1497) τ) [0, 5, 7] (fun τ => RT x τ ∧ RL x τ ∧ RDe x τ) := by
  obtain ⟨bl, hC, hR, hf1, hf2⟩ := hT
  obtain ⟨l, l', KL, mk, pl, B, hkT, hB, hc, hr⟩ := hL
  obtain ⟨hLl, hbl, hp6⟩ := St_L hS hc
  obtain ⟨hH, hb, hN, hrm⟩ := hS
  have hx := LyH_o hH
  have hTt := LyH_t hH
  have hM := LyH_m hH
  have hD := LyH_d hH
  have hbt : mpb P ≤ x + 1 := by omega
  have hbm : mpb P ≤ x + 1497 := by omega
  have hl := (RLc_l hc).1
  have hn := hkT.1
  have h2l : mxI σ l 2 = q_n (kN KL) := by
    obtain ⟨M, E, wy, hz⟩ := hc.2.1
    exact hz.1.1
  obtain ⟨K, e, r, τc, hTx, ec, Fc, hO⟩ := c_dvr (P := P) (N := 4000) (d := x + 120) (t := x + 1) rfl (by omega) hTt hbt hD (by omega) hLl (by omega) hn h2l hc.2.2.2.1 hB hC
  obtain ⟨σ1, e1⟩ : ∃ σ1, σ1 = mx_setI τc (x + 1) 1 0 := ⟨_, rfl⟩
  have F1 : Fz (fun q j => dvT (x + 120) (x + 1) q j ∨ (q = x + 1 ∧ j = 1)) σ σ1 := by
    rw [e1]
    exact (Fc.mo fun _ _ z => Or.inl z).sI (Or.inr ⟨rfl, rfl⟩) _
  have out1 : ∀ q j, ¬ (x + 1 ≤ q ∧ q < x + 9) → ¬ ((q = x + 120 ∧ j = 3) ∨ (x + 122 ≤ q ∧ q < x + 128)) → mxI σ1 q j = mxI σ q j ∧ mxL σ1 q j = mxL σ q j := fun q j h1 h2 => F1.2.2.2 q j (fun z => by unfold dvT at z; omega)
  have t1 : mxI σ1 (x + 1) 1 = 0 := by rw [e1]; exact sI_e
  have t2 : mxI σ1 (x + 1) 2 = mxI τc (x + 1) 2 := by rw [e1]; exact sI_n (by omega)
  have t3 : mxI σ1 (x + 1) 3 = mxI τc (x + 1) 3 := by rw [e1]; exact sI_n (by omega)
  have hTR1 : TR σ1 (x + 1497) bl := TR_cg hR (out1 _ _ (by omega) (by omega)).1 (fun k => (out1 _ _ (by omega) (by omega)).1)
  have hr1 : RLr (x + 1497) KL pl B σ1 := RLr_rg hkT hr (fun q j h1 h2 => (out1 q j (by omega) (by omega)).1) (fun q j h1 h2 => (out1 q j (by omega) (by omega)).2) (out1 _ _ (by omega) (by omega)).1 (out1 _ _ (by omega) (by omega)).1
  have hc1 : RLc x l l' KL mk pl B σ1 := RLc_rg hkT hc F1.1 F1.2.1 (fun q j z1 z2 => (out1 q j (by omega) (by omega)).1) (fun q j z1 z2 => (out1 q j (by omega) (by omega)).2)
  have g0 : mg_R σ x 11 0 = some (x + 1) := (q_gR hx).trans (LyH_r0 hH)
  have gc0 : mg_R τc x 11 0 = some (x + 1) := (q_gR (by rw [Fc.1]; exact hx)).trans (by rw [Fc.2.1]; exact LyH_r0 hH)
  have hx1 : mxA σ1 x = some (.inl 11) := by rw [F1.1]; exact hx
  have hcl0 : f_X11_drive P x σ = (if r = 0 then (mx_th P σ1).bind fun σ26 => some (.inl ("java/lang/UnsupportedOperationException", σ26)) else (mg_R σ1 x 11 4).bind fun b17 => (mg_R σ1 x 11 6).bind fun b19 => (mx_is σ1 b17 2).bind fun i21 => mx_b2 (f_X2_run P b17 b19 σ1) fun x24 σ23 => some (.inr (x24, σ23))) := by
    unfold f_X11_drive
    rw [bd (ah_r4 hH), bd g0, bd hp6, bd (ad_is hD), bd2 ec, bd gc0, bd (at_pI (Fc.T hTt) hbt _), ← e1]
  obtain ⟨hE0, en, he1, he2, he3, he4⟩ := hE
  by_cases hr0 : r = 0
  · have hrm1 : Rm P σ1 1 6 := by unfold Rm; rw [F1.2.2.1.1, F1.2.2.1.2]; exact hrm
    have hcl : f_X11_drive P x σ = some (.inl ("java/lang/UnsupportedOperationException", th σ1)) := by
      rw [hcl0, if_pos hr0, bd (k_th hrm1)]
    have hMt : LyM (th σ1) (x + 1497) := F1.M hM
    have hTRt : TR (th σ1) (x + 1497) bl := hTR1
    have hrt : RLr (x + 1497) KL pl B (th σ1) := hr1
    obtain ⟨K', e', r', τ2, hTx', em, z2, hO'⟩ := r_drv (P := P) (N := 4000) rfl (by omega) hbm hMt hTRt hkT hrt hB
    obtain ⟨rfl, rfl⟩ := Txt_u hTx hTx'
    rcases OutV_m hO hO' with ⟨-, d0, d4, d5, F2⟩ | ⟨h1, -⟩
    · have c2 : ∀ q j, ¬ vkB (x + 1497) q j → mxI τ2 q j = mxI σ1 q j ∧ mxL τ2 q j = mxL σ1 q j := fun q j h => F2.2.2.2 q j h
      have both : ∀ q j, ¬ vkB (x + 1497) q j → ¬ (x + 1 ≤ q ∧ q < x + 9) → ¬ ((q = x + 120 ∧ j = 3) ∨ (x + 122 ≤ q ∧ q < x + 128)) → mxI τ2 q j = mxI σ q j ∧ mxL τ2 q j = mxL σ q j := fun q j a1 a2 a3 => by
        have b := c2 q j a1
        have d := out1 q j a2 a3
        exact ⟨b.1.trans d.1, b.2.trans d.2⟩
      refine ⟨1, r', th σ1, τ2, ht_drive1 hx hcl, em, d0, fun z => absurd z zi10, F1.1, ⟨F2.1.trans F1.1, F2.2.1.trans F1.2.1, fun i q j hq hi => ?_, ?_, ?_, ?_, ?_⟩, ⟨[], ⟨Nat.zero_le _, ?_, fun k b hk => (by cases hk)⟩, ⟨Nat.zero_le _, z2, fun k b hk => (by cases hk)⟩, ?_, ?_⟩, ⟨l, l', KL, mk, pl, B, hkT, hB, ?_, ?_⟩, ?_, en, he1, ?_, ?_, fun k hk => ?_⟩
      · have hi' : i ≠ 0 ∧ i ≠ 5 ∧ i ≠ 7 := by simpa using hi
        obtain ⟨a1, a2, a3, a4, a5⟩ := cp057 hq hi'.1 hi'.2.1 hi'.2.2
        exact both q j (fun z => a5 (Or.inl z)) a1 (by omega)
      · rw [F2.2.2.1.1]; show mxz σ ≤ mxz σ1 + 1; rw [F1.2.2.1.1]; omega
      · rw [F2.2.2.1.1]; show mxz σ1 + 1 ≤ mxz σ + 1; rw [F1.2.2.1.1]; omega
      · rw [F2.2.2.1.2]; show mxu σ1 + 6 ≤ mxu σ + 6; rw [F1.2.2.1.2]; omega
      · intro z
        rw [F2.2.2.1.1] at z
        have z' : mxz σ1 + 1 = mxz σ := z
        rw [F1.2.2.1.1] at z'
        omega
      · exact (c2 _ _ (by unfold vkB; omega)).1.trans t1
      · exact ((c2 _ _ (by unfold vkB; omega)).1.trans t2).trans d4.symm
      · exact ((c2 _ _ (by unfold vkB; omega)).1.trans t3).trans d5.symm
      · exact RLc_rg hkT hc1 (F2.1) (F2.2.1) (fun q j z1 z2 => (c2 q j (by unfold vkB; omega)).1) (fun q j z1 z2 => (c2 q j (by unfold vkB; omega)).2)
      · exact RLr_rg hkT hr1 (fun q j h1 h2 => (c2 q j (by unfold vkB; omega)).1) (fun q j h1 h2 => (c2 q j (by unfold vkB; omega)).2) (c2 _ _ (by unfold vkB; omega)).1 (c2 _ _ (by unfold vkB; omega)).1
      · rw [(both (x + 120) 0 (by unfold vkB; omega) (by omega) (by omega)).1, (both (x + 1497) 102 (by unfold vkB; omega) (by omega) (by omega)).1]; exact hE0
      · rw [(both (x + 120) 1 (by unfold vkB; omega) (by omega) (by omega)).1]; exact he2
      · rw [(both (x + 1497) 103 (by unfold vkB; omega) (by omega) (by omega)).1]; exact he3
      · rw [(both (x + 120 + 1) k (by unfold vkB; omega) (by omega) (by omega)).1, (both (x + 1497 + 71) k (by unfold vkB; omega) (by omega) (by omega)).1]; exact he4 k hk
    · rw [hr0] at h1; exact absurd h1.symm zi10
  · have hD1 : LyO (mxA σ1) (mxR σ1) 2 al2 (x + 120) := by rw [F1.1, F1.2.1]; exact hD
    have hL1 : LyL (mxA σ1) (mxR σ1) l := by rw [F1.1, F1.2.1]; exact hLl
    have hH1 : LyH (mxA σ1) (mxR σ1) x := by rw [F1.1, F1.2.1]; exact hH
    have p6 : mg_R σ1 x 11 6 = some l := (q_gR hx1).trans hc1.1.1
    -- the class told good orders
    have hgood : e = none ∧ dLs bl 4000 B (kN KL) K = none ∧ DvC τc (x + 120) K (dO bl 4000 B (kN KL)) ∧ (mxI τc (x + 1) 2 = 0 ∧ mxI τc (x + 1) 3 = 0) := by
      rcases hO with ⟨q, -, c1, -⟩ | ⟨cq, -, -, c1, -⟩ | ⟨c0, c1, -, c3, c4⟩
      · exact absurd c1 hr0
      · exact absurd c1 hr0
      · exact ⟨c0, c1, c4, c3⟩
    obtain ⟨he, hls, dC, tz2, tz3⟩ := hgood
    have hP := d_P hTx.1 hls
    have dC1 : DvC σ1 (x + 120) K (dO bl 4000 B (kN KL)) := DvC_cg dC (fun q j hq _ _ => by rw [e1]; exact ⟨sI_n (by omega), rfl⟩)
    obtain ⟨τr, er, hcd⟩ := c_run (P := P) (by omega) hL1 hb hD1 hkT hP hc1 dC1
    have hcl : f_X11_drive P x σ = some (.inr (q_n (runL KL (dO bl 4000 B (kN KL)) (flD (dO bl 4000 B (kN KL)) K K 0 0) (pl, 0, [], 0)).2, τr)) := by
      rw [hcl0, if_neg hr0, bd (ah_r4 hH1), bd p6, bd (ad_is hD1), bd2 er]
    obtain ⟨R, hR'⟩ : ∃ R, R = runL KL (dO bl 4000 B (kN KL)) (flD (dO bl 4000 B (kN KL)) K K 0 0) (pl, 0, [], 0) := ⟨_, rfl⟩
    have hlen : R.1.2.2.1.length < 1000 := by rw [hR']; exact run_l hP
    rw [← hR'] at hcl hcd
    obtain ⟨b1, b2, b3, b4, b5, b6⟩ := hcd
    have hlo := hr_drive (o := x + 1575) hx hcl (by rw [b6.1, F1.1]; exact LyH_u hH) (by omega)
    obtain ⟨σ4, e4⟩ : ∃ σ4, σ4 = mx_setL τr (x + 1575) 0 (q_n R.2).toInt64 := ⟨_, rfl⟩
    rw [← e4] at hlo
    have F4 : Fz (fun q j => dvF x q j ∨ (q = x + 1575 ∧ j = 0)) σ1 σ4 := by rw [e4]; exact (b6.mo fun _ _ z => Or.inl z).sL (Or.inr ⟨rfl, rfl⟩) _
    have out4 : ∀ q j, ¬ dvF x q j → q ≠ x + 1575 → mxI σ4 q j = mxI σ1 q j ∧ mxL σ4 q j = mxL σ1 q j := fun q j h1 h2 => F4.2.2.2 q j (fun z => z.elim h1 (fun y => h2 y.1))
    have hM4 : LyM σ4 (x + 1497) := F4.M (F1.M hM)
    have hTR4 : TR σ4 (x + 1497) bl := TR_cg hTR1 (out4 _ _ (by unfold dvF; omega) (by omega)).1 (fun k => (out4 _ _ (by unfold dvF; omega) (by omega)).1)
    have hr4 : RLr (x + 1497) KL pl B σ4 := RLr_rg hkT hr1 (fun q j h1 h2 => (out4 q j (by unfold dvF; omega) (by omega)).1) (fun q j h1 h2 => (out4 q j (by unfold dvF; omega) (by omega)).2) (out4 _ _ (by unfold dvF; omega) (by omega)).1 (out4 _ _ (by unfold dvF; omega) (by omega)).1
    obtain ⟨K', e', r', τ2, hTx', em, z2, hO'⟩ := r_drv (P := P) (N := 4000) rfl (by omega) hbm hM4 hTR4 hkT hr4 hB
    obtain ⟨rfl, rfl⟩ := Txt_u hTx hTx'
    rcases OutV_m hO hO' with ⟨h0, -⟩ | ⟨-, -, -, -, ⟨m0, m4, m5⟩, F2, -, hr', σ9, hrd⟩
    · exact absurd h0 hr0
    · rw [← hR'] at hr' hrd
      obtain ⟨q1, q2, q3, q4, q5, q6, q7⟩ := hrd
      have c2 : ∀ q j, ¬ vkG (x + 1497) q j → mxI τ2 q j = mxI σ4 q j ∧ mxL τ2 q j = mxL σ4 q j := fun q j h => F2.2.2.2 q j h
      have c24 : ∀ q j, ¬ vkG (x + 1497) q j → q ≠ x + 1575 → mxI τ2 q j = mxI τr q j ∧ mxL τ2 q j = mxL τr q j := fun q j h1 h2 => by
        have b := c2 q j h1
        rw [e4] at b
        exact ⟨b.1, b.2.trans (sL_n (by omega))⟩
      refine ⟨0, r', σ4, τ2, hlo, em, m0, fun _ => ?_, F4.1.trans F1.1, ⟨(F2.1.trans F4.1).trans F1.1, (F2.2.1.trans F4.2.1).trans F1.2.1, fun i q j hq hi => ?_, ?_, ?_, ?_, fun _ => ?_⟩, ⟨[], ⟨Nat.zero_le _, ?_, fun k b hk => (by cases hk)⟩, ⟨Nat.zero_le _, z2, fun k b hk => (by cases hk)⟩, ?_, ?_⟩, ⟨l, l', KL, mk, R.1.1, B, hkT, hB, ?_, q1⟩, ?_, R.1.2.2.1.length, by omega, ?_, q4.1, fun k hk => ?_⟩
      · rw [(c2 _ _ (by unfold vkG vkB; omega)).2, e4, sL_e, hr']
      · have hi' : i ≠ 0 ∧ i ≠ 5 ∧ i ≠ 7 := by simpa using hi
        obtain ⟨a1, a2, a3, a4, a5⟩ := cp057 hq hi'.1 hi'.2.1 hi'.2.2
        have b := c2 q j a5
        have d := out4 q j (by unfold dvF; omega) a4
        have g := out1 q j a1 (by omega)
        exact ⟨(b.1.trans d.1).trans g.1, (b.2.trans d.2).trans g.2⟩
      · rw [F2.2.2.1.1, F4.2.2.1.1, F1.2.2.1.1]; exact Nat.le_refl _
      · rw [F2.2.2.1.1, F4.2.2.1.1, F1.2.2.1.1]; omega
      · rw [F2.2.2.1.2, F4.2.2.1.2, F1.2.2.1.2]; omega
      · rw [F2.2.2.1.2, F4.2.2.1.2, F1.2.2.1.2]
      · rw [(c2 _ _ (by unfold vkG vkB; omega)).1, (out4 _ _ (by unfold dvF; omega) (by omega)).1]; exact t1
      · rw [(c2 _ _ (by unfold vkG vkB; omega)).1, (out4 _ _ (by unfold dvF; omega) (by omega)).1, t2, tz2, m4]
      · rw [(c2 _ _ (by unfold vkG vkB; omega)).1, (out4 _ _ (by unfold dvF; omega) (by omega)).1, t3, tz3, m5]
      · exact RLc_rg hkT b1 (F2.1.trans (by rw [e4]; rfl)) (F2.2.1.trans (by rw [e4]; rfl)) (fun q j z1 z2 => (c24 q j (by unfold vkG vkB; omega) (by omega)).1) (fun q j z1 z2 => (c24 q j (by unfold vkG vkB; omega) (by omega)).2)
      · rw [(c24 (x + 120) 0 (by unfold vkG vkB; omega) (by omega)).1, b3.1, q3.1]
      · rw [(c24 (x + 120) 1 (by unfold vkG vkB; omega) (by omega)).1]; exact b4.1
      · rw [(c24 (x + 120 + 1) k (by unfold vkG vkB; omega) (by omega)).1]
        have hj : k / 3 < R.1.2.2.1.length := by omega
        have hg := List.getElem?_eq_getElem hj
        have u1 := b4.2 (k / 3) _ (by omega) hg
        have u2 := q4.2 (k / 3) _ (by omega) hg
        obtain h3 | h3 | h3 : k = 3 * (k / 3) ∨ k = 3 * (k / 3) + 1 ∨ k = 3 * (k / 3) + 2 := by omega
        · rw [h3, u1.1, u2.1]
        · rw [h3, u1.2.1, u2.2.1]
        · rw [h3, u1.2.2, u2.2.2]
end LRS
