/-! ===== mi: gears told, with what has been worked out ===== -/
section MIS
variable {P : mx_P} {σ σ' τ : mx_S} {x : Nat} {ns : List Nat} {gs gs' : List (Nat × Nat)} {ms : List (Nat × Nat × Bool × Int32)} {sh : Nat → Nat × Int32 × Int32}
def KG (x : Nat) (σ τ : mx_S) : Prop := ∀ q j, (x + 18 ≤ q ∧ q ≤ x + 86) ∨ (q = x + 9 ∧ (j = 13 ∨ j = 14)) → mxI τ q j = mxI σ q j ∧ mxL τ q j = mxL σ q j
theorem KG_t {k : Int32} : KG x σ (mx_setI (th σ) (x + 1497) 0 k) := fun q j h => ⟨q_In (by omega), rfl⟩
theorem g_gear2 (hS : St P σ x) (hG : RG0 σ x gs ms sh) (a b : Int32) : Q32 x σ (f_L_gear P x a b (x + 1575) σ) (fun τ => f_X12_gear P (x + 1497) a b τ) [1] (fun τ => ∃ gs', RG0 τ x (gs ++ gs') ms sh ∧ KG x σ τ) := by
  obtain ⟨hL, hb, hN, hr⟩ := hS
  have hm := LyH_m hL
  have hg := LyH_g hL
  have hbm : mpb P ≤ x + 1497 := by omega
  have hbg : mpb P ≤ x + 9 := by omega
  have hG' := hG
  obtain ⟨⟨a1, a2, a3, a4⟩, ⟨b1, b2, b3, b4⟩, c⟩ := hG'
  have key : ∀ (w : Nat), 0 < w → w < 10 → (f_L_gear P x a b (x + 1575) σ = some (q_n w, th σ)) → f_X12_gear P (x + 1497) a b (th σ) = f_X12_gear_D45 P (x + 1497) a b (q_n w) (x + 1497) (th σ) → Q32 x σ (f_L_gear P x a b (x + 1575) σ) (fun τ => f_X12_gear P (x + 1497) a b τ) [1] (fun τ => ∃ gs', RG0 τ x (gs ++ gs') ms sh ∧ KG x σ τ) := by
    intro w w1 w2 h1 h2
    refine ⟨_, _, _, _, h1, h2.trans (r_gear_t (σ := th σ) hm hbm w1 w2 a b), q_Ie, fun z => ?_, rfl, Fr_throw _, [], ?_, KG_t⟩
    · rw [q_n0, q_nI (by omega) (by omega)] at z; omega
    · rw [List.append_nil]; exact hG.fr (ns := []) (Fr_throw _) (by simp)
  by_cases h1 : 4 ≤ a.toInt ∧ a.toInt ≤ 2000
  · by_cases h2 : 0 ≤ b.toInt ∧ b.toInt ≤ 11
    · have ec : f_X11_gear P x a b σ = if (24 : Int32) ≤ q_n gs.length then f_X11_gear_D32 P x a b 0 σ else f_X11_gear_D32 P x a b 1 σ := by
        unfold f_X11_gear
        simp (disch := first | assumption | omega | (simp only [q_AI, q_AL, q_RI, q_RL, tA, tR, tI, tL]; assumption)) only [Option.bind_some, q_b2, q_bxr, q_bxl, q_bx2r, q_bx2l, q_Ie, q_Le, q_In, q_Ln, q_IL, q_LI, tI, tL, q_nS, q_s2, q_s3, q_s4, q_m2, q_m3, q_m4, q_m24, q_p1, rg_t (l := 4) (u := 2000) h1, rg_t (l := 0) (u := 11) h2, ah_r1, ag_gI, a1]
      have er : ∀ τ, LyO (mxA τ) (mxR τ) 12 al12 (x + 1497) → mxI τ (x + 1497) 57 = q_n gs.length → f_X12_gear P (x + 1497) a b τ = if q_n gs.length = (24 : Int32) then f_X12_gear_D45 P (x + 1497) a b 2 (x + 1497) τ else f_X12_gear_D45 P (x + 1497) a b 0 (x + 1497) τ := by
        intro τ t1 t2
        have z1 : ¬ (1 : Int32) = 0 := by decide
        unfold f_X12_gear
        simp (disch := first | assumption | omega | (simp only [q_AI, q_AL, q_RI, q_RL, tA, tR, tI, tL]; assumption)) only [Option.bind_some, q_b2, q_bxr, q_bxl, q_bx2r, q_bx2l, q_Ie, q_Le, q_In, q_Ln, q_IL, q_LI, tI, tL, q_nS, q_s2, q_s3, q_s4, q_m2, q_m3, q_m4, q_m24, q_p1, in_t (l := 4) (u := 2000) h1, in_t (l := 0) (u := 11) h2, z1, if_false, am_gI, t2]
      by_cases h3 : gs.length = 24
      · refine key 2 (by omega) (by omega) (ht_gear2 (LyH_o hL) ?_) ?_
        · rw [ec, h3, if_pos (by decide)]
          unfold f_X11_gear_D32
          rw [nr_0 hr]; rfl
        · rw [er (th σ) hm a2, h3, if_pos (by decide)]; rfl
      · have h24 : gs.length < 24 := by omega
        have eA := q_ofT (i := a) (by omega)
        have eB := q_ofT (i := b) (by omega)
        have hc : f_X11_gear P x a b σ = some (.inr (q_n gs.length, mx_setI (mx_setI (mx_setI σ (x + 9 + 1) gs.length a) (x + 9 + 2) gs.length b) (x + 9) 0 (q_n (gs.length + 1)))) := by
          rw [ec, if_neg (fun z => by rw [show (24 : Int32) = q_n 24 from rfl, q_nLe (by omega) (by omega)] at z; omega)]
          unfold f_X11_gear_D32
          simp (disch := first | assumption | omega | (simp only [q_AI, q_AL, q_RI, q_RL, tA, tR, tI, tL]; assumption)) only [Option.bind_some, q_b2, q_bxr, q_bxl, q_bx2r, q_bx2l, q_Ie, q_Le, q_In, q_Ln, q_IL, q_LI, tI, tL, q_nS, q_s2, q_s3, q_s4, q_m2, q_m3, q_m4, q_m24, q_p1, nr_1, ah_r1, ag_is, c_addGear hg hbg a1 h24]
        refine ⟨_, _, _, _, hr_gear (LyH_o hL) hc (LyH_u hL) (by omega), (er _ (by exact hm) (by simp (disch := first | assumption | omega | (simp only [q_AI, q_AL, q_RI, q_RL, tA, tR, tI, tL]; assumption)) only [Option.bind_some, q_b2, q_bxr, q_bxl, q_bx2r, q_bx2l, q_Ie, q_Le, q_In, q_Ln, q_IL, q_LI, tI, tL, q_nS, q_s2, q_s3, q_s4, q_m2, q_m3, q_m4, q_m24, q_p1, a2])).trans ((if_neg (fun z => by rw [show (24 : Int32) = q_n 24 from rfl, q_nI (by omega) (by omega)] at z; omega)).trans (r_gear (k := gs.length) (by exact hm) hbm (by simp (disch := first | assumption | omega | (simp only [q_AI, q_AL, q_RI, q_RL, tA, tR, tI, tL]; assumption)) only [Option.bind_some, q_b2, q_bxr, q_bxl, q_bx2r, q_bx2l, q_Ie, q_Le, q_In, q_Ln, q_IL, q_LI, tI, tL, q_nS, q_s2, q_s3, q_s4, q_m2, q_m3, q_m4, q_m24, q_p1, a2]) h24 a b)), ?_, fun _ => ?_, rfl, ?_, [(a.toInt.toNat, b.toInt.toNat)], ?_, ?_⟩
        · simp (disch := first | assumption | omega | (simp only [q_AI, q_AL, q_RI, q_RL, tA, tR, tI, tL]; assumption)) only [Option.bind_some, q_b2, q_bxr, q_bxl, q_bx2r, q_bx2l, q_Ie, q_Le, q_In, q_Ln, q_IL, q_LI, tI, tL, q_nS, q_s2, q_s3, q_s4, q_m2, q_m3, q_m4, q_m24, q_p1]
        · simp (disch := first | assumption | omega | (simp only [q_AI, q_AL, q_RI, q_RL, tA, tR, tI, tL]; assumption)) only [Option.bind_some, q_b2, q_bxr, q_bxl, q_bx2r, q_bx2l, q_Ie, q_Le, q_In, q_Ln, q_IL, q_LI, tI, tL, q_nS, q_s2, q_s3, q_s4, q_m2, q_m3, q_m4, q_m24, q_p1]
        · refine Fr.sI (Fr.sI (Fr.sI (Fr.sI (Fr.sL (Fr.sI (Fr.sI (Fr.sI Fr.rf ?_ _) ?_ _) ?_ _) ?_ _) ?_ _) ?_ _) ?_ _) ?_ _
          · exact Or.inl ⟨1, by simp, (by first | (simp only [cp]; omega) | simp [cp])⟩
          · exact Or.inl ⟨1, by simp, (by first | (simp only [cp]; omega) | simp [cp])⟩
          · exact Or.inl ⟨1, by simp, (by first | (simp only [cp]; omega) | simp [cp])⟩
          · exact Or.inr cp_o
          · exact Or.inr cp_t
          · exact Or.inl ⟨1, by simp, (by first | (simp only [cp]; omega) | simp [cp])⟩
          · exact Or.inl ⟨1, by simp, (by first | (simp only [cp]; omega) | simp [cp])⟩
          · exact Or.inl ⟨1, by simp, (by first | (simp only [cp]; omega) | simp [cp])⟩
        · have hlen : (gs ++ [(a.toInt.toNat, b.toInt.toNat)]).length = gs.length + 1 := by rw [List.length_append]; rfl
          refine ⟨⟨?_, ?_, by omega, fun j w hj => ?_⟩, ⟨?_, ?_, b3, fun j w hj => ?_⟩, fun s hs => ?_⟩
          · rw [hlen]; simp (disch := first | assumption | omega | (simp only [q_AI, q_AL, q_RI, q_RL, tA, tR, tI, tL]; assumption)) only [Option.bind_some, q_b2, q_bxr, q_bxl, q_bx2r, q_bx2l, q_Ie, q_Le, q_In, q_Ln, q_IL, q_LI, tI, tL, q_nS, q_s2, q_s3, q_s4, q_m2, q_m3, q_m4, q_m24, q_p1]
          · rw [hlen]; simp (disch := first | assumption | omega | (simp only [q_AI, q_AL, q_RI, q_RL, tA, tR, tI, tL]; assumption)) only [Option.bind_some, q_b2, q_bxr, q_bxl, q_bx2r, q_bx2l, q_Ie, q_Le, q_In, q_Ln, q_IL, q_LI, tI, tL, q_nS, q_s2, q_s3, q_s4, q_m2, q_m3, q_m4, q_m24, q_p1]
          · rcases ls_snoc hj with ⟨hj, hl⟩ | ⟨rfl, rfl⟩
            · simp (disch := first | assumption | omega | (simp only [q_AI, q_AL, q_RI, q_RL, tA, tR, tI, tL]; assumption)) only [Option.bind_some, q_b2, q_bxr, q_bxl, q_bx2r, q_bx2l, q_Ie, q_Le, q_In, q_Ln, q_IL, q_LI, tI, tL, q_nS, q_s2, q_s3, q_s4, q_m2, q_m3, q_m4, q_m24, q_p1]
              exact a4 j w hj
            · simp (disch := first | assumption | omega | (simp only [q_AI, q_AL, q_RI, q_RL, tA, tR, tI, tL]; assumption)) only [Option.bind_some, q_b2, q_bxr, q_bxl, q_bx2r, q_bx2l, q_Ie, q_Le, q_In, q_Ln, q_IL, q_LI, tI, tL, q_nS, q_s2, q_s3, q_s4, q_m2, q_m3, q_m4, q_m24, q_p1]
              exact ⟨eA, eA, eB, eB, by omega, by omega, by omega⟩
          · simp (disch := first | assumption | omega | (simp only [q_AI, q_AL, q_RI, q_RL, tA, tR, tI, tL]; assumption)) only [Option.bind_some, q_b2, q_bxr, q_bxl, q_bx2r, q_bx2l, q_Ie, q_Le, q_In, q_Ln, q_IL, q_LI, tI, tL, q_nS, q_s2, q_s3, q_s4, q_m2, q_m3, q_m4, q_m24, q_p1]; exact b1
          · simp (disch := first | assumption | omega | (simp only [q_AI, q_AL, q_RI, q_RL, tA, tR, tI, tL]; assumption)) only [Option.bind_some, q_b2, q_bxr, q_bxl, q_bx2r, q_bx2l, q_Ie, q_Le, q_In, q_Ln, q_IL, q_LI, tI, tL, q_nS, q_s2, q_s3, q_s4, q_m2, q_m3, q_m4, q_m24, q_p1]; exact b2
          · have := b4 j w hj
            rw [hlen]
            simp (disch := first | assumption | omega | (simp only [q_AI, q_AL, q_RI, q_RL, tA, tR, tI, tL]; assumption)) only [Option.bind_some, q_b2, q_bxr, q_bxl, q_bx2r, q_bx2l, q_Ie, q_Le, q_In, q_Ln, q_IL, q_LI, tI, tL, q_nS, q_s2, q_s3, q_s4, q_m2, q_m3, q_m4, q_m24, q_p1]
            exact ⟨this.1, this.2.1, by omega, by omega, this.2.2.2.2⟩
          · simp (disch := first | assumption | omega | (simp only [q_AI, q_AL, q_RI, q_RL, tA, tR, tI, tL]; assumption)) only [Option.bind_some, q_b2, q_bxr, q_bxl, q_bx2r, q_bx2l, q_Ie, q_Le, q_In, q_Ln, q_IL, q_LI, tI, tL, q_nS, q_s2, q_s3, q_s4, q_m2, q_m3, q_m4, q_m24, q_p1]; exact c s hs
        · exact fun q j h => ⟨by simp (disch := omega) only [q_In, q_IL], by simp (disch := omega) only [q_Ln, q_LI]⟩
    · refine key 1 (by omega) (by omega) (ht_gear1 (LyH_o hL) ?_) ?_
      · unfold f_X11_gear
        simp (disch := first | assumption | omega | (simp only [q_AI, q_AL, q_RI, q_RL, tA, tR, tI, tL]; assumption)) only [Option.bind_some, q_b2, q_bxr, q_bxl, q_bx2r, q_bx2l, q_Ie, q_Le, q_In, q_Ln, q_IL, q_LI, tI, tL, q_nS, q_s2, q_s3, q_s4, q_m2, q_m3, q_m4, q_m24, q_p1, rg_t (l := 4) (u := 2000) h1, rg_f (l := 0) (u := 11) h2 hr]
      · have z1 : ¬ (1 : Int32) = 0 := by decide
        unfold f_X12_gear f_X12_gear_D27
        simp (disch := first | assumption | omega | (simp only [q_AI, q_AL, q_RI, q_RL, tA, tR, tI, tL]; assumption)) only [Option.bind_some, q_b2, q_bxr, q_bxl, q_bx2r, q_bx2l, q_Ie, q_Le, q_In, q_Ln, q_IL, q_LI, tI, tL, q_nS, q_s2, q_s3, q_s4, q_m2, q_m3, q_m4, q_m24, q_p1, in_t (l := 4) (u := 2000) h1, in_f (l := 0) (u := 11) h2, z1, if_false, if_true]; rfl
  · refine key 1 (by omega) (by omega) (ht_gear1 (LyH_o hL) ?_) ?_
    · unfold f_X11_gear
      simp (disch := first | assumption | omega | (simp only [q_AI, q_AL, q_RI, q_RL, tA, tR, tI, tL]; assumption)) only [Option.bind_some, q_b2, q_bxr, q_bxl, q_bx2r, q_bx2l, q_Ie, q_Le, q_In, q_Ln, q_IL, q_LI, tI, tL, q_nS, q_s2, q_s3, q_s4, q_m2, q_m3, q_m4, q_m24, q_p1, rg_f (l := 4) (u := 2000) h1 hr]
    · unfold f_X12_gear f_X12_gear_D27
      simp (disch := first | assumption | omega | (simp only [q_AI, q_AL, q_RI, q_RL, tA, tR, tI, tL]; assumption)) only [Option.bind_some, q_b2, q_bxr, q_bxl, q_bx2r, q_bx2l, q_Ie, q_Le, q_In, q_Ln, q_IL, q_LI, tI, tL, q_nS, q_s2, q_s3, q_s4, q_m2, q_m3, q_m4, q_m24, q_p1, in_f (l := 4) (u := 2000) h1, if_true]; rfl
theorem g_mesh2 (hS : St P σ x) (hG : RG0 σ x gs ms sh) (a b c d : Int32) (hc : c = 0 ∨ c = 1) : Q32 x σ (f_L_mesh P x a b c d (x + 1575) σ) (fun τ => f_X12_mesh P (x + 1497) a b c d τ) [1] (fun τ => ∃ ms', RG0 τ x gs (ms ++ ms') sh ∧ (ms' ≠ [] → mxI τ (x + 9) 14 = 0) ∧ (ms' = [] → KG x σ τ)) := by
  obtain ⟨hL, hb, hN, hr⟩ := hS
  have hm := LyH_m hL
  have hg := LyH_g hL
  have hbm : mpb P ≤ x + 1497 := by omega
  have hbg : mpb P ≤ x + 9 := by omega
  have hG' := hG
  obtain ⟨⟨a1, a2, a3, a4⟩, ⟨b1, b2, b3, b4⟩, c0⟩ := hG'
  have hp : ∀ w, ∃ ms', RG0 (thr x σ w) x gs (ms ++ ms') sh ∧ (ms' ≠ [] → mxI (thr x σ w) (x + 9) 14 = 0) ∧ (ms' = [] → KG x σ (thr x σ w)) := fun w => ⟨[], by rw [List.append_nil]; exact hG.fr (ns := []) (Fr_throw _) (by simp), fun z => absurd rfl z, fun _ => KG_t⟩
  by_cases h1 : -1 ≤ d.toInt ∧ d.toInt ≤ 11
  · by_cases h2 : (0 ≤ a.toInt ∧ a.toInt < gs.length) ∧ (0 ≤ b.toInt ∧ b.toInt < gs.length)
    · obtain ⟨ha, hb'⟩ := h2
      have eA := q_ofT (i := a) (by omega)
      have eB := q_ofT (i := b) (by omega)
      generalize hna : a.toInt.toNat = na at eA
      generalize hnb : b.toInt.toNat = nb at eB
      have la : na < gs.length := by omega
      have lb : nb < gs.length := by omega
      have ga := a4 na _ (List.getElem?_eq_getElem la)
      have gb := a4 nb _ (List.getElem?_eq_getElem lb)
      generalize hea : gs[na] = ea at ga
      generalize heb : gs[nb] = eb at gb
      have ec : f_X11_mesh P x a b c d σ = if q_n ea.2 = q_n eb.2 then f_X11_mesh_D70 P x a b c d 0 σ else f_X11_mesh_D70 P x a b c d 1 σ := by
        unfold f_X11_mesh f_X11_mesh_D41
        simp (disch := first | assumption | omega | (simp only [q_AI, q_AL, q_RI, q_RL, tA, tR, tI, tL]; assumption)) only [Option.bind_some, q_b2, q_bxr, q_bxl, q_bx2r, q_bx2l, q_Ie, q_Le, q_In, q_Ln, q_IL, q_LI, tI, tL, q_nS, q_s2, q_s3, q_s4, q_m2, q_m3, q_m4, q_m24, q_p1, rg_t (l := -1) (u := 11) h1, ah_r1, ag_gI, a1, wi_t (wg (by omega) ha), wi_t (wg (by omega) hb'), z10, if_false, np_1, ag_r4]
        rw [eA, eB]
        simp (disch := first | assumption | omega | (simp only [q_AI, q_AL, q_RI, q_RL, tA, tR, tI, tL]; assumption)) only [Option.bind_some, q_b2, q_bxr, q_bxl, q_bx2r, q_bx2l, q_Ie, q_Le, q_In, q_Ln, q_IL, q_LI, tI, tL, q_nS, q_s2, q_s3, q_s4, q_m2, q_m3, q_m4, q_m24, q_p1, ag_g4, ga.2.2.1, gb.2.2.1]
      have er : ∀ τ, LyO (mxA τ) (mxR τ) 12 al12 (x + 1497) → mxI τ (x + 1497) 57 = q_n gs.length → mxI τ (x + 1497) 60 = q_n ms.length → mxI τ (x + 1497 + 37) na = q_n ea.2 → mxI τ (x + 1497 + 37) nb = q_n eb.2 → f_X12_mesh P (x + 1497) a b c d τ = if q_n ea.2 = q_n eb.2 then f_X12_mesh_D85 P (x + 1497) a b c d 3 (x + 1497) τ else if q_n ms.length = (20 : Int32) then f_X12_mesh_D85 P (x + 1497) a b c d 4 (x + 1497) τ else f_X12_mesh_D85 P (x + 1497) a b c d 0 (x + 1497) τ := by
        intro τ t1 t2 t3 t4 t5
        unfold f_X12_mesh f_X12_mesh_D21
        simp (disch := first | assumption | omega | (simp only [q_AI, q_AL, q_RI, q_RL, tA, tR, tI, tL]; assumption)) only [Option.bind_some, q_b2, q_bxr, q_bxl, q_bx2r, q_bx2l, q_Ie, q_Le, q_In, q_Ln, q_IL, q_LI, tI, tL, q_nS, q_s2, q_s3, q_s4, q_m2, q_m3, q_m4, q_m24, q_p1, in_t (l := -1) (u := 11) h1, am_is, ig_t t1 t2 a3 ha, ig_t t1 t2 a3 hb', z10, if_false, am_gI, t3, am_r59]
        rw [eA, eB]
        simp (disch := first | assumption | omega | (simp only [q_AI, q_AL, q_RI, q_RL, tA, tR, tI, tL]; assumption)) only [Option.bind_some, q_b2, q_bxr, q_bxl, q_bx2r, q_bx2l, q_Ie, q_Le, q_In, q_Ln, q_IL, q_LI, tI, tL, q_nS, q_s2, q_s3, q_s4, q_m2, q_m3, q_m4, q_m24, q_p1, am_g59, t4, t5]
      by_cases h3 : ea.2 = eb.2
      · refine Q32_t (w := 3) (by omega) (by omega) (ht_mesh3 (LyH_o hL) ?_) ?_ (hp 3)
        · rw [ec, h3, if_pos rfl]
          unfold f_X11_mesh_D70
          rw [nl_0 hr]; rfl
        · show f_X12_mesh P (x + 1497) a b c d (th σ) = _
          rw [er (th σ) hm a2 b2 ga.2.2.2.1 gb.2.2.2.1, h3, if_pos rfl]
          exact rt_mesh_D85 (w := 3) (σ := th σ) hm hbm (by omega) (by omega) a b c d
      · have h3' : ¬ q_n ea.2 = q_n eb.2 := by rw [q_nI (by omega) (by omega)]; exact h3
        have ec2 : f_X11_mesh P x a b c d σ = if (20 : Int32) ≤ q_n ms.length then f_X11_mesh_D90 P x a b c d 0 σ else f_X11_mesh_D90 P x a b c d 1 σ := by
          rw [ec, if_neg h3']
          unfold f_X11_mesh_D70
          simp (disch := first | assumption | omega | (simp only [q_AI, q_AL, q_RI, q_RL, tA, tR, tI, tL]; assumption)) only [Option.bind_some, q_b2, q_bxr, q_bxl, q_bx2r, q_bx2l, q_Ie, q_Le, q_In, q_Ln, q_IL, q_LI, tI, tL, q_nS, q_s2, q_s3, q_s4, q_m2, q_m3, q_m4, q_m24, q_p1, nl_1, ah_r1, ag_gI, b1]
        by_cases h4 : ms.length = 20
        · refine Q32_t (w := 4) (by omega) (by omega) (ht_mesh4 (LyH_o hL) ?_) ?_ (hp 4)
          · rw [ec2, h4, if_pos (by decide)]
            unfold f_X11_mesh_D90
            rw [nr_0 hr]; rfl
          · show f_X12_mesh P (x + 1497) a b c d (th σ) = _
            rw [er (th σ) hm a2 b2 ga.2.2.2.1 gb.2.2.2.1, if_neg h3', h4, if_pos (by decide)]
            exact rt_mesh_D85 (w := 4) (σ := th σ) hm hbm (by omega) (by omega) a b c d
        · have h20 : ms.length < 20 := by omega
          have hcl : f_X11_mesh P x a b c d σ = some (.inr (q_n ms.length, mx_setI (mx_setI (mx_setI (mx_setI (mx_setI (mx_setI σ (x + 9 + 3) (4 * ms.length) a) (x + 9 + 3) (4 * ms.length + 1) b) (x + 9 + 3) (4 * ms.length + 2) (if c = 0 then 1 else -1)) (x + 9 + 3) (4 * ms.length + 3) d) (x + 9) 1 (q_n (ms.length + 1))) (x + 9) 14 0)) := by
            rw [ec2, if_neg (fun z => by rw [show (20 : Int32) = q_n 20 from rfl, q_nLe (by omega) (by omega)] at z; omega)]
            unfold f_X11_mesh_D90
            simp (disch := first | assumption | omega | (simp only [q_AI, q_AL, q_RI, q_RL, tA, tR, tI, tL]; assumption)) only [Option.bind_some, q_b2, q_bxr, q_bxl, q_bx2r, q_bx2l, q_Ie, q_Le, q_In, q_Ln, q_IL, q_LI, tI, tL, q_nS, q_s2, q_s3, q_s4, q_m2, q_m3, q_m4, q_m24, q_p1, nr_1, ah_r1, ag_is, c_addMesh hg hbg b1 h20]
          refine ⟨_, _, _, _, hr_mesh (LyH_o hL) hcl (LyH_u hL) (by omega), (er _ (by exact hm) (by simp (disch := first | assumption | omega | (simp only [q_AI, q_AL, q_RI, q_RL, tA, tR, tI, tL]; assumption)) only [Option.bind_some, q_b2, q_bxr, q_bxl, q_bx2r, q_bx2l, q_Ie, q_Le, q_In, q_Ln, q_IL, q_LI, tI, tL, q_nS, q_s2, q_s3, q_s4, q_m2, q_m3, q_m4, q_m24, q_p1, a2]) (by simp (disch := first | assumption | omega | (simp only [q_AI, q_AL, q_RI, q_RL, tA, tR, tI, tL]; assumption)) only [Option.bind_some, q_b2, q_bxr, q_bxl, q_bx2r, q_bx2l, q_Ie, q_Le, q_In, q_Ln, q_IL, q_LI, tI, tL, q_nS, q_s2, q_s3, q_s4, q_m2, q_m3, q_m4, q_m24, q_p1, b2]) (by simp (disch := first | assumption | omega | (simp only [q_AI, q_AL, q_RI, q_RL, tA, tR, tI, tL]; assumption)) only [Option.bind_some, q_b2, q_bxr, q_bxl, q_bx2r, q_bx2l, q_Ie, q_Le, q_In, q_Ln, q_IL, q_LI, tI, tL, q_nS, q_s2, q_s3, q_s4, q_m2, q_m3, q_m4, q_m24, q_p1, ga.2.2.2.1]) (by simp (disch := first | assumption | omega | (simp only [q_AI, q_AL, q_RI, q_RL, tA, tR, tI, tL]; assumption)) only [Option.bind_some, q_b2, q_bxr, q_bxl, q_bx2r, q_bx2l, q_Ie, q_Le, q_In, q_Ln, q_IL, q_LI, tI, tL, q_nS, q_s2, q_s3, q_s4, q_m2, q_m3, q_m4, q_m24, q_p1, gb.2.2.2.1])).trans ((if_neg h3').trans ((if_neg (fun z => by rw [show (20 : Int32) = q_n 20 from rfl, q_nI (by omega) (by omega)] at z; omega)).trans (r_mesh (k := ms.length) (by exact hm) hbm (by simp (disch := first | assumption | omega | (simp only [q_AI, q_AL, q_RI, q_RL, tA, tR, tI, tL]; assumption)) only [Option.bind_some, q_b2, q_bxr, q_bxl, q_bx2r, q_bx2l, q_Ie, q_Le, q_In, q_Ln, q_IL, q_LI, tI, tL, q_nS, q_s2, q_s3, q_s4, q_m2, q_m3, q_m4, q_m24, q_p1, b2]) h20 a b c d hc))), ?_, fun _ => ?_, rfl, ?_, [(na, nb, decide (c = 1), d)], ?_, fun _ => ?_, fun z => absurd z (by simp)⟩
          · simp (disch := first | assumption | omega | (simp only [q_AI, q_AL, q_RI, q_RL, tA, tR, tI, tL]; assumption)) only [Option.bind_some, q_b2, q_bxr, q_bxl, q_bx2r, q_bx2l, q_Ie, q_Le, q_In, q_Ln, q_IL, q_LI, tI, tL, q_nS, q_s2, q_s3, q_s4, q_m2, q_m3, q_m4, q_m24, q_p1]
          · simp (disch := first | assumption | omega | (simp only [q_AI, q_AL, q_RI, q_RL, tA, tR, tI, tL]; assumption)) only [Option.bind_some, q_b2, q_bxr, q_bxl, q_bx2r, q_bx2l, q_Ie, q_Le, q_In, q_Ln, q_IL, q_LI, tI, tL, q_nS, q_s2, q_s3, q_s4, q_m2, q_m3, q_m4, q_m24, q_p1]
          · refine Fr.sI (Fr.sI (Fr.sI (Fr.sI (Fr.sI (Fr.sI (Fr.sL (Fr.sI (Fr.sI (Fr.sI (Fr.sI (Fr.sI (Fr.sI Fr.rf ?_ _) ?_ _) ?_ _) ?_ _) ?_ _) ?_ _) ?_ _) ?_ _) ?_ _) ?_ _) ?_ _) ?_ _) ?_ _
            all_goals first | exact Or.inr cp_o | exact Or.inr cp_t | exact Or.inl ⟨1, by simp, (by first | (simp only [cp]; omega) | simp [cp])⟩
          · have hlen : (ms ++ [(na, nb, decide (c = 1), d)]).length = ms.length + 1 := by rw [List.length_append]; rfl
            refine ⟨⟨?_, ?_, a3, fun j w hj => ?_⟩, ⟨?_, ?_, by omega, fun j w hj => ?_⟩, fun s hs => ?_⟩
            · simp (disch := first | assumption | omega | (simp only [q_AI, q_AL, q_RI, q_RL, tA, tR, tI, tL]; assumption)) only [Option.bind_some, q_b2, q_bxr, q_bxl, q_bx2r, q_bx2l, q_Ie, q_Le, q_In, q_Ln, q_IL, q_LI, tI, tL, q_nS, q_s2, q_s3, q_s4, q_m2, q_m3, q_m4, q_m24, q_p1]; exact a1
            · simp (disch := first | assumption | omega | (simp only [q_AI, q_AL, q_RI, q_RL, tA, tR, tI, tL]; assumption)) only [Option.bind_some, q_b2, q_bxr, q_bxl, q_bx2r, q_bx2l, q_Ie, q_Le, q_In, q_Ln, q_IL, q_LI, tI, tL, q_nS, q_s2, q_s3, q_s4, q_m2, q_m3, q_m4, q_m24, q_p1]; exact a2
            · simp (disch := first | assumption | omega | (simp only [q_AI, q_AL, q_RI, q_RL, tA, tR, tI, tL]; assumption)) only [Option.bind_some, q_b2, q_bxr, q_bxl, q_bx2r, q_bx2l, q_Ie, q_Le, q_In, q_Ln, q_IL, q_LI, tI, tL, q_nS, q_s2, q_s3, q_s4, q_m2, q_m3, q_m4, q_m24, q_p1]; exact a4 j w hj
            · rw [hlen]; simp (disch := first | assumption | omega | (simp only [q_AI, q_AL, q_RI, q_RL, tA, tR, tI, tL]; assumption)) only [Option.bind_some, q_b2, q_bxr, q_bxl, q_bx2r, q_bx2l, q_Ie, q_Le, q_In, q_Ln, q_IL, q_LI, tI, tL, q_nS, q_s2, q_s3, q_s4, q_m2, q_m3, q_m4, q_m24, q_p1]
            · rw [hlen]; simp (disch := first | assumption | omega | (simp only [q_AI, q_AL, q_RI, q_RL, tA, tR, tI, tL]; assumption)) only [Option.bind_some, q_b2, q_bxr, q_bxl, q_bx2r, q_bx2l, q_Ie, q_Le, q_In, q_Ln, q_IL, q_LI, tI, tL, q_nS, q_s2, q_s3, q_s4, q_m2, q_m3, q_m4, q_m24, q_p1]
            · rcases ls_snoc hj with ⟨hj, hl⟩ | ⟨rfl, rfl⟩
              · simp (disch := first | assumption | omega | (simp only [q_AI, q_AL, q_RI, q_RL, tA, tR, tI, tL]; assumption)) only [Option.bind_some, q_b2, q_bxr, q_bxl, q_bx2r, q_bx2l, q_Ie, q_Le, q_In, q_Ln, q_IL, q_LI, tI, tL, q_nS, q_s2, q_s3, q_s4, q_m2, q_m3, q_m4, q_m24, q_p1]
                exact b4 j w hj
              · simp (disch := first | assumption | omega | (simp only [q_AI, q_AL, q_RI, q_RL, tA, tR, tI, tL]; assumption)) only [Option.bind_some, q_b2, q_bxr, q_bxl, q_bx2r, q_bx2l, q_Ie, q_Le, q_In, q_Ln, q_IL, q_LI, tI, tL, q_nS, q_s2, q_s3, q_s4, q_m2, q_m3, q_m4, q_m24, q_p1]
                refine ⟨⟨eA, eB, ?_, trivial⟩, ⟨eA, eB, trivial, ?_⟩, la, lb, h1⟩
                · rcases hc with rfl | rfl <;> rfl
                · rcases hc with rfl | rfl <;> rfl
            · simp (disch := first | assumption | omega | (simp only [q_AI, q_AL, q_RI, q_RL, tA, tR, tI, tL]; assumption)) only [Option.bind_some, q_b2, q_bxr, q_bxl, q_bx2r, q_bx2l, q_Ie, q_Le, q_In, q_Ln, q_IL, q_LI, tI, tL, q_nS, q_s2, q_s3, q_s4, q_m2, q_m3, q_m4, q_m24, q_p1]; exact c0 s hs
          · simp (disch := first | assumption | omega | (simp only [q_AI, q_AL, q_RI, q_RL, tA, tR, tI, tL]; assumption)) only [Option.bind_some, q_b2, q_bxr, q_bxl, q_bx2r, q_bx2l, q_Ie, q_Le, q_In, q_Ln, q_IL, q_LI, tI, tL, q_nS, q_s2, q_s3, q_s4, q_m2, q_m3, q_m4, q_m24, q_p1]
    · have hcl : f_X11_mesh P x a b c d σ = f_X11_mesh_D41 P x a b c d 0 σ := by
        unfold f_X11_mesh f_X11_mesh_D40
        by_cases ha : 0 ≤ a.toInt ∧ a.toInt < gs.length
        · have hb' : ¬ (0 ≤ b.toInt ∧ b.toInt < gs.length) := fun z => h2 ⟨ha, z⟩
          simp (disch := first | assumption | omega | (simp only [q_AI, q_AL, q_RI, q_RL, tA, tR, tI, tL]; assumption)) only [Option.bind_some, q_b2, q_bxr, q_bxl, q_bx2r, q_bx2l, q_Ie, q_Le, q_In, q_Ln, q_IL, q_LI, tI, tL, q_nS, q_s2, q_s3, q_s4, q_m2, q_m3, q_m4, q_m24, q_p1, rg_t (l := -1) (u := 11) h1, ah_r1, ag_gI, a1, wi_t (wg (by omega) ha), wi_f (wg' (by omega) hb'), z10, if_false, if_true]
        · simp (disch := first | assumption | omega | (simp only [q_AI, q_AL, q_RI, q_RL, tA, tR, tI, tL]; assumption)) only [Option.bind_some, q_b2, q_bxr, q_bxl, q_bx2r, q_bx2l, q_Ie, q_Le, q_In, q_Ln, q_IL, q_LI, tI, tL, q_nS, q_s2, q_s3, q_s4, q_m2, q_m3, q_m4, q_m24, q_p1, rg_t (l := -1) (u := 11) h1, ah_r1, ag_gI, a1, wi_f (wg' (by omega) ha), if_true]
      refine Q32_t (w := 2) (by omega) (by omega) (ht_mesh2 (LyH_o hL) ?_) ?_ (hp 2)
      · rw [hcl]
        unfold f_X11_mesh_D41
        rw [np_0 hr]; rfl
      · show f_X12_mesh P (x + 1497) a b c d (th σ) = _
        have : f_X12_mesh P (x + 1497) a b c d (th σ) = f_X12_mesh_D21 P (x + 1497) a b c d 0 (th σ) := by
          unfold f_X12_mesh f_X12_mesh_D20
          by_cases ha : 0 ≤ a.toInt ∧ a.toInt < gs.length
          · have hb' : ¬ (0 ≤ b.toInt ∧ b.toInt < gs.length) := fun z => h2 ⟨ha, z⟩
            simp (disch := first | assumption | omega | (simp only [q_AI, q_AL, q_RI, q_RL, tA, tR, tI, tL]; assumption)) only [Option.bind_some, q_b2, q_bxr, q_bxl, q_bx2r, q_bx2l, q_Ie, q_Le, q_In, q_Ln, q_IL, q_LI, tI, tL, q_nS, q_s2, q_s3, q_s4, q_m2, q_m3, q_m4, q_m24, q_p1, am_is, ig_t (σ := th σ) hm a2 a3 ha, ig_f (σ := th σ) hm a2 a3 hb', z10, if_false, if_true]
          · simp (disch := first | assumption | omega | (simp only [q_AI, q_AL, q_RI, q_RL, tA, tR, tI, tL]; assumption)) only [Option.bind_some, q_b2, q_bxr, q_bxl, q_bx2r, q_bx2l, q_Ie, q_Le, q_In, q_Ln, q_IL, q_LI, tI, tL, q_nS, q_s2, q_s3, q_s4, q_m2, q_m3, q_m4, q_m24, q_p1, am_is, ig_f (σ := th σ) hm a2 a3 ha, if_true]
        rw [this]
        unfold f_X12_mesh_D21
        simp (disch := first | assumption | omega | (simp only [q_AI, q_AL, q_RI, q_RL, tA, tR, tI, tL]; assumption)) only [Option.bind_some, q_b2, q_bxr, q_bxl, q_bx2r, q_bx2l, q_Ie, q_Le, q_In, q_Ln, q_IL, q_LI, tI, tL, q_nS, q_s2, q_s3, q_s4, q_m2, q_m3, q_m4, q_m24, q_p1, in_t (l := -1) (u := 11) h1, z10, if_false, if_true]
        exact rt_mesh_D85 (w := 2) (σ := th σ) hm hbm (by omega) (by omega) a b c d
  · refine Q32_t (w := 1) (by omega) (by omega) (ht_mesh1 (LyH_o hL) ?_) ?_ (hp 1)
    · unfold f_X11_mesh
      simp (disch := first | assumption | omega | (simp only [q_AI, q_AL, q_RI, q_RL, tA, tR, tI, tL]; assumption)) only [Option.bind_some, q_b2, q_bxr, q_bxl, q_bx2r, q_bx2l, q_Ie, q_Le, q_In, q_Ln, q_IL, q_LI, tI, tL, q_nS, q_s2, q_s3, q_s4, q_m2, q_m3, q_m4, q_m24, q_p1, rg_f (l := -1) (u := 11) h1 hr]
    · show f_X12_mesh P (x + 1497) a b c d (th σ) = _
      have e2 : ∀ w, f_X12_mesh_D21 P (x + 1497) a b c d w (th σ) = some (0, thr x σ 1) := fun w => by
        unfold f_X12_mesh_D21
        simp (disch := first | assumption | omega | (simp only [q_AI, q_AL, q_RI, q_RL, tA, tR, tI, tL]; assumption)) only [Option.bind_some, q_b2, q_bxr, q_bxl, q_bx2r, q_bx2l, q_Ie, q_Le, q_In, q_Ln, q_IL, q_LI, tI, tL, q_nS, q_s2, q_s3, q_s4, q_m2, q_m3, q_m4, q_m24, q_p1, in_f (l := -1) (u := 11) h1, if_true]
        exact rt_mesh_D85 (w := 1) (σ := th σ) hm hbm (by omega) (by omega) a b c d
      unfold f_X12_mesh f_X12_mesh_D20
      by_cases ha : 0 ≤ a.toInt ∧ a.toInt < gs.length
      · by_cases hb' : 0 ≤ b.toInt ∧ b.toInt < gs.length
        · simp (disch := first | assumption | omega | (simp only [q_AI, q_AL, q_RI, q_RL, tA, tR, tI, tL]; assumption)) only [Option.bind_some, q_b2, q_bxr, q_bxl, q_bx2r, q_bx2l, q_Ie, q_Le, q_In, q_Ln, q_IL, q_LI, tI, tL, q_nS, q_s2, q_s3, q_s4, q_m2, q_m3, q_m4, q_m24, q_p1, am_is, ig_t (σ := th σ) hm a2 a3 ha, ig_t (σ := th σ) hm a2 a3 hb', z10, if_false, e2]
        · simp (disch := first | assumption | omega | (simp only [q_AI, q_AL, q_RI, q_RL, tA, tR, tI, tL]; assumption)) only [Option.bind_some, q_b2, q_bxr, q_bxl, q_bx2r, q_bx2l, q_Ie, q_Le, q_In, q_Ln, q_IL, q_LI, tI, tL, q_nS, q_s2, q_s3, q_s4, q_m2, q_m3, q_m4, q_m24, q_p1, am_is, ig_t (σ := th σ) hm a2 a3 ha, ig_f (σ := th σ) hm a2 a3 hb', z10, if_false, if_true, e2]
      · simp (disch := first | assumption | omega | (simp only [q_AI, q_AL, q_RI, q_RL, tA, tR, tI, tL]; assumption)) only [Option.bind_some, q_b2, q_bxr, q_bxl, q_bx2r, q_bx2l, q_Ie, q_Le, q_In, q_Ln, q_IL, q_LI, tI, tL, q_nS, q_s2, q_s3, q_s4, q_m2, q_m3, q_m4, q_m24, q_p1, am_is, ig_f (σ := th σ) hm a2 a3 ha, if_true, e2]
theorem g_shaft2 (hS : St P σ x) (hG : RG0 σ x gs ms sh) (a b c d : Int32) : Q0 x σ (f_L_shaft P x a b c d σ) (fun τ => f_X12_shaft P (x + 1497) a b c d τ) [1] (fun τ => RG0 τ x gs ms sh ∧ KG x σ τ ∨ ∃ sh', RG0 τ x gs ms sh' ∧ mxI τ (x + 9) 14 = 0) := by
  obtain ⟨hL, hb, hN, hr⟩ := hS
  have hm := LyH_m hL
  have hg := LyH_g hL
  have hbm : mpb P ≤ x + 1497 := by omega
  have hbg : mpb P ≤ x + 9 := by omega
  have hp : RG0 (thr x σ 1) x gs ms sh ∧ KG x σ (thr x σ 1) ∨ ∃ sh', RG0 (thr x σ 1) x gs ms sh' ∧ mxI (thr x σ 1) (x + 9) 14 = 0 := Or.inl ⟨hG.fr (ns := []) (Fr_throw _) (by simp), KG_t⟩
  have rt1 : f_X12_shaft_D61 P (x + 1497) a b c d 0 (th σ) = some (thr x σ 1) := by
    unfold f_X12_shaft_D61
    rw [if_pos rfl]
    exact rt_shaft_D74 (w := 1) (σ := th σ) hm hbm (by omega) (by omega) a b c d
  by_cases h1 : 0 ≤ a.toInt ∧ a.toInt ≤ 11
  · by_cases h2 : 0 ≤ b.toInt ∧ b.toInt ≤ 2
    · by_cases h3 : b = 2 → (-1000 ≤ c.toInt ∧ c.toInt ≤ 1000) ∧ (1 ≤ d.toInt ∧ d.toInt ≤ 1000)
      · have eA := q_ofT (i := a) (by omega)
        have eB := q_ofT (i := b) (by omega)
        generalize hna : a.toInt.toNat = na at eA
        generalize hnb : b.toInt.toNat = nb at eB
        have la : na < 12 := by omega
        have hb2 : b = 2 ↔ nb = 2 := by rw [eB]; exact q_nI (l := 2) (by omega) (by omega)
        have hcl : f_X11_shaft P x a b c d σ = some (.inr (mx_setI (mx_setI (mx_setI (mx_setI σ (x + 9 + 4) na b) (x + 9 + 5) na c) (x + 9 + 6) na d) (x + 9) 14 0)) := by
          unfold f_X11_shaft f_X11_shaft_D37
          by_cases hb2 : b = 2
          · obtain ⟨h4, h5⟩ := h3 hb2
            simp (disch := first | assumption | omega | (simp only [q_AI, q_AL, q_RI, q_RL, tA, tR, tI, tL]; assumption)) only [Option.bind_some, q_b2, q_bxr, q_bxl, q_bx2r, q_bx2l, q_Ie, q_Le, q_In, q_Ln, q_IL, q_LI, tI, tL, q_nS, q_s2, q_s3, q_s4, q_m2, q_m3, q_m4, q_m24, q_p1, rg_t (l := 0) (u := 11) h1, rg_t (l := 0) (u := 2) h2, rg_t (l := -1000) (u := 1000) h4, rg_t (l := 1) (u := 1000) h5, eq_true hb2, if_true, ah_r1, ag_is]
            rw [eA]
            simp (disch := first | assumption | omega | (simp only [q_AI, q_AL, q_RI, q_RL, tA, tR, tI, tL]; assumption)) only [Option.bind_some, q_b2, q_bxr, q_bxl, q_bx2r, q_bx2l, q_Ie, q_Le, q_In, q_Ln, q_IL, q_LI, tI, tL, q_nS, q_s2, q_s3, q_s4, q_m2, q_m3, q_m4, q_m24, q_p1, c_setShaft hg hbg la]
          · simp (disch := first | assumption | omega | (simp only [q_AI, q_AL, q_RI, q_RL, tA, tR, tI, tL]; assumption)) only [Option.bind_some, q_b2, q_bxr, q_bxl, q_bx2r, q_bx2l, q_Ie, q_Le, q_In, q_Ln, q_IL, q_LI, tI, tL, q_nS, q_s2, q_s3, q_s4, q_m2, q_m3, q_m4, q_m24, q_p1, rg_t (l := 0) (u := 11) h1, rg_t (l := 0) (u := 2) h2, hb2, if_false, ah_r1, ag_is]
            rw [eA]
            simp (disch := first | assumption | omega | (simp only [q_AI, q_AL, q_RI, q_RL, tA, tR, tI, tL]; assumption)) only [Option.bind_some, q_b2, q_bxr, q_bxl, q_bx2r, q_bx2l, q_Ie, q_Le, q_In, q_Ln, q_IL, q_LI, tI, tL, q_nS, q_s2, q_s3, q_s4, q_m2, q_m3, q_m4, q_m24, q_p1, c_setShaft hg hbg la]
        have hrf : ∀ τ, LyO (mxA τ) (mxR τ) 12 al12 (x + 1497) → f_X12_shaft P (x + 1497) a b c d τ = some (mx_setI (mx_setI (mx_setI (mx_setI τ (x + 1497) 0 0) (x + 1497 + 42) na b) (x + 1497 + 43) na (if b = 2 then c else 0)) (x + 1497 + 44) na (if b = 2 then d else 1)) := by
          intro τ t1
          unfold f_X12_shaft f_X12_shaft_D56 f_X12_shaft_D61
          by_cases hb2 : b = 2
          · obtain ⟨h4, h5⟩ := h3 hb2
            simp (disch := first | assumption | omega | (simp only [q_AI, q_AL, q_RI, q_RL, tA, tR, tI, tL]; assumption)) only [Option.bind_some, q_b2, q_bxr, q_bxl, q_bx2r, q_bx2l, q_Ie, q_Le, q_In, q_Ln, q_IL, q_LI, tI, tL, q_nS, q_s2, q_s3, q_s4, q_m2, q_m3, q_m4, q_m24, q_p1, in_t (l := 0) (u := 11) h1, in_t (l := 0) (u := 2) h2, in_t (l := -1000) (u := 1000) h4, in_t (l := 1) (u := 1000) h5, eq_true hb2, if_true, z10, if_false]
            rw [eA, r_shaft t1 hbm la, if_pos hb2, if_pos hb2]
          · simp (disch := first | assumption | omega | (simp only [q_AI, q_AL, q_RI, q_RL, tA, tR, tI, tL]; assumption)) only [Option.bind_some, q_b2, q_bxr, q_bxl, q_bx2r, q_bx2l, q_Ie, q_Le, q_In, q_Ln, q_IL, q_LI, tI, tL, q_nS, q_s2, q_s3, q_s4, q_m2, q_m3, q_m4, q_m24, q_p1, in_t (l := 0) (u := 11) h1, in_t (l := 0) (u := 2) h2, hb2, if_true, z10, if_false]
            rw [eA, r_shaft t1 hbm la, if_neg hb2, if_neg hb2]
        refine ⟨_, _, _, hr_shaft (LyH_o hL) hcl, hrf _ (by exact hm), ?_, rfl, ?_, Or.inr ⟨fun t => if t = na then (nb, c, d) else sh t, ?_, ?_⟩⟩
        · simp (disch := first | assumption | omega | (simp only [q_AI, q_AL, q_RI, q_RL, tA, tR, tI, tL]; assumption)) only [Option.bind_some, q_b2, q_bxr, q_bxl, q_bx2r, q_bx2l, q_Ie, q_Le, q_In, q_Ln, q_IL, q_LI, tI, tL, q_nS, q_s2, q_s3, q_s4, q_m2, q_m3, q_m4, q_m24, q_p1]
        · refine Fr.sI (Fr.sI (Fr.sI (Fr.sI (Fr.sI (Fr.sI (Fr.sI (Fr.sI Fr.rf ?_ _) ?_ _) ?_ _) ?_ _) ?_ _) ?_ _) ?_ _) ?_ _
          all_goals first | exact Or.inr cp_t | exact Or.inl ⟨1, by simp, (by first | (simp only [cp]; omega) | simp [cp])⟩
        · obtain ⟨⟨a1, a2, a3, a4⟩, ⟨b1, b2, b3, b4⟩, c0⟩ := hG
          refine ⟨⟨?_, ?_, a3, fun j w hj => ?_⟩, ⟨?_, ?_, b3, fun j w hj => ?_⟩, fun s hs => ?_⟩
          · simp (disch := first | assumption | omega | (simp only [q_AI, q_AL, q_RI, q_RL, tA, tR, tI, tL]; assumption)) only [Option.bind_some, q_b2, q_bxr, q_bxl, q_bx2r, q_bx2l, q_Ie, q_Le, q_In, q_Ln, q_IL, q_LI, tI, tL, q_nS, q_s2, q_s3, q_s4, q_m2, q_m3, q_m4, q_m24, q_p1]; exact a1
          · simp (disch := first | assumption | omega | (simp only [q_AI, q_AL, q_RI, q_RL, tA, tR, tI, tL]; assumption)) only [Option.bind_some, q_b2, q_bxr, q_bxl, q_bx2r, q_bx2l, q_Ie, q_Le, q_In, q_Ln, q_IL, q_LI, tI, tL, q_nS, q_s2, q_s3, q_s4, q_m2, q_m3, q_m4, q_m24, q_p1]; exact a2
          · simp (disch := first | assumption | omega | (simp only [q_AI, q_AL, q_RI, q_RL, tA, tR, tI, tL]; assumption)) only [Option.bind_some, q_b2, q_bxr, q_bxl, q_bx2r, q_bx2l, q_Ie, q_Le, q_In, q_Ln, q_IL, q_LI, tI, tL, q_nS, q_s2, q_s3, q_s4, q_m2, q_m3, q_m4, q_m24, q_p1]; exact a4 j w hj
          · simp (disch := first | assumption | omega | (simp only [q_AI, q_AL, q_RI, q_RL, tA, tR, tI, tL]; assumption)) only [Option.bind_some, q_b2, q_bxr, q_bxl, q_bx2r, q_bx2l, q_Ie, q_Le, q_In, q_Ln, q_IL, q_LI, tI, tL, q_nS, q_s2, q_s3, q_s4, q_m2, q_m3, q_m4, q_m24, q_p1]; exact b1
          · simp (disch := first | assumption | omega | (simp only [q_AI, q_AL, q_RI, q_RL, tA, tR, tI, tL]; assumption)) only [Option.bind_some, q_b2, q_bxr, q_bxl, q_bx2r, q_bx2l, q_Ie, q_Le, q_In, q_Ln, q_IL, q_LI, tI, tL, q_nS, q_s2, q_s3, q_s4, q_m2, q_m3, q_m4, q_m24, q_p1]; exact b2
          · simp (disch := first | assumption | omega | (simp only [q_AI, q_AL, q_RI, q_RL, tA, tR, tI, tL]; assumption)) only [Option.bind_some, q_b2, q_bxr, q_bxl, q_bx2r, q_bx2l, q_Ie, q_Le, q_In, q_Ln, q_IL, q_LI, tI, tL, q_nS, q_s2, q_s3, q_s4, q_m2, q_m3, q_m4, q_m24, q_p1]; exact b4 j w hj
          · by_cases hsn : s = na
            · subst hsn
              simp (disch := first | assumption | omega | (simp only [q_AI, q_AL, q_RI, q_RL, tA, tR, tI, tL]; assumption)) only [Option.bind_some, q_b2, q_bxr, q_bxl, q_bx2r, q_bx2l, q_Ie, q_Le, q_In, q_Ln, q_IL, q_LI, tI, tL, q_nS, q_s2, q_s3, q_s4, q_m2, q_m3, q_m4, q_m24, q_p1, if_true]
              refine ⟨eB, eB, by omega, fun z => ?_⟩
              have hb2' := hb2.mpr z
              obtain ⟨h4, h5⟩ := h3 hb2'
              rw [if_pos hb2', if_pos hb2']
              exact ⟨by trivial, by trivial, by trivial, by trivial, h4.1, h4.2, h5⟩
            · simp (disch := first | assumption | omega | (simp only [q_AI, q_AL, q_RI, q_RL, tA, tR, tI, tL]; assumption)) only [Option.bind_some, q_b2, q_bxr, q_bxl, q_bx2r, q_bx2l, q_Ie, q_Le, q_In, q_Ln, q_IL, q_LI, tI, tL, q_nS, q_s2, q_s3, q_s4, q_m2, q_m3, q_m4, q_m24, q_p1, hsn, if_false]; exact c0 s hs
        · simp (disch := first | assumption | omega | (simp only [q_AI, q_AL, q_RI, q_RL, tA, tR, tI, tL]; assumption)) only [Option.bind_some, q_b2, q_bxr, q_bxl, q_bx2r, q_bx2l, q_Ie, q_Le, q_In, q_Ln, q_IL, q_LI, tI, tL, q_nS, q_s2, q_s3, q_s4, q_m2, q_m3, q_m4, q_m24, q_p1]
      · have hb2 : b = 2 := Classical.byContradiction fun z => h3 fun y => absurd y z
        have h3' : ¬ ((-1000 ≤ c.toInt ∧ c.toInt ≤ 1000) ∧ (1 ≤ d.toInt ∧ d.toInt ≤ 1000)) := fun z => h3 fun _ => z
        refine Q0_t (w := 1) (ht_shaft1 (LyH_o hL) ?_) ?_ hp
        · unfold f_X11_shaft
          by_cases h4 : -1000 ≤ c.toInt ∧ c.toInt ≤ 1000
          · have h5 : ¬ (1 ≤ d.toInt ∧ d.toInt ≤ 1000) := fun z => h3' ⟨h4, z⟩
            simp (disch := first | assumption | omega | (simp only [q_AI, q_AL, q_RI, q_RL, tA, tR, tI, tL]; assumption)) only [Option.bind_some, q_b2, q_bxr, q_bxl, q_bx2r, q_bx2l, q_Ie, q_Le, q_In, q_Ln, q_IL, q_LI, tI, tL, q_nS, q_s2, q_s3, q_s4, q_m2, q_m3, q_m4, q_m24, q_p1, rg_t (l := 0) (u := 11) h1, rg_t (l := 0) (u := 2) h2, rg_t (l := -1000) (u := 1000) h4, rg_f (l := 1) (u := 1000) h5 hr, eq_true hb2, if_true]
          · simp (disch := first | assumption | omega | (simp only [q_AI, q_AL, q_RI, q_RL, tA, tR, tI, tL]; assumption)) only [Option.bind_some, q_b2, q_bxr, q_bxl, q_bx2r, q_bx2l, q_Ie, q_Le, q_In, q_Ln, q_IL, q_LI, tI, tL, q_nS, q_s2, q_s3, q_s4, q_m2, q_m3, q_m4, q_m24, q_p1, rg_t (l := 0) (u := 11) h1, rg_t (l := 0) (u := 2) h2, rg_f (l := -1000) (u := 1000) h4 hr, eq_true hb2, if_true]
        · show f_X12_shaft P (x + 1497) a b c d (th σ) = _
          unfold f_X12_shaft f_X12_shaft_D60
          by_cases h4 : -1000 ≤ c.toInt ∧ c.toInt ≤ 1000
          · have h5 : ¬ (1 ≤ d.toInt ∧ d.toInt ≤ 1000) := fun z => h3' ⟨h4, z⟩
            simp (disch := first | assumption | omega | (simp only [q_AI, q_AL, q_RI, q_RL, tA, tR, tI, tL]; assumption)) only [Option.bind_some, q_b2, q_bxr, q_bxl, q_bx2r, q_bx2l, q_Ie, q_Le, q_In, q_Ln, q_IL, q_LI, tI, tL, q_nS, q_s2, q_s3, q_s4, q_m2, q_m3, q_m4, q_m24, q_p1, in_t (l := 0) (u := 11) h1, in_t (l := 0) (u := 2) h2, in_t (l := -1000) (u := 1000) h4, in_f (l := 1) (u := 1000) h5, eq_true hb2, if_true, z10, if_false, rt1]
          · simp (disch := first | assumption | omega | (simp only [q_AI, q_AL, q_RI, q_RL, tA, tR, tI, tL]; assumption)) only [Option.bind_some, q_b2, q_bxr, q_bxl, q_bx2r, q_bx2l, q_Ie, q_Le, q_In, q_Ln, q_IL, q_LI, tI, tL, q_nS, q_s2, q_s3, q_s4, q_m2, q_m3, q_m4, q_m24, q_p1, in_t (l := 0) (u := 11) h1, in_t (l := 0) (u := 2) h2, in_f (l := -1000) (u := 1000) h4, eq_true hb2, if_true, z10, if_false, rt1]
    · refine Q0_t (w := 1) (ht_shaft1 (LyH_o hL) ?_) ?_ hp
      · unfold f_X11_shaft
        simp (disch := first | assumption | omega | (simp only [q_AI, q_AL, q_RI, q_RL, tA, tR, tI, tL]; assumption)) only [Option.bind_some, q_b2, q_bxr, q_bxl, q_bx2r, q_bx2l, q_Ie, q_Le, q_In, q_Ln, q_IL, q_LI, tI, tL, q_nS, q_s2, q_s3, q_s4, q_m2, q_m3, q_m4, q_m24, q_p1, rg_t (l := 0) (u := 11) h1, rg_f (l := 0) (u := 2) h2 hr]
      · show f_X12_shaft P (x + 1497) a b c d (th σ) = _
        unfold f_X12_shaft f_X12_shaft_D60
        simp (disch := first | assumption | omega | (simp only [q_AI, q_AL, q_RI, q_RL, tA, tR, tI, tL]; assumption)) only [Option.bind_some, q_b2, q_bxr, q_bxl, q_bx2r, q_bx2l, q_Ie, q_Le, q_In, q_Ln, q_IL, q_LI, tI, tL, q_nS, q_s2, q_s3, q_s4, q_m2, q_m3, q_m4, q_m24, q_p1, in_t (l := 0) (u := 11) h1, in_f (l := 0) (u := 2) h2, if_true, z10, if_false, rt1]
  · refine Q0_t (w := 1) (ht_shaft1 (LyH_o hL) ?_) ?_ hp
    · unfold f_X11_shaft
      simp (disch := first | assumption | omega | (simp only [q_AI, q_AL, q_RI, q_RL, tA, tR, tI, tL]; assumption)) only [Option.bind_some, q_b2, q_bxr, q_bxl, q_bx2r, q_bx2l, q_Ie, q_Le, q_In, q_Ln, q_IL, q_LI, tI, tL, q_nS, q_s2, q_s3, q_s4, q_m2, q_m3, q_m4, q_m24, q_p1, rg_f (l := 0) (u := 11) h1 hr]
    · show f_X12_shaft P (x + 1497) a b c d (th σ) = _
      unfold f_X12_shaft f_X12_shaft_D60
      simp (disch := first | assumption | omega | (simp only [q_AI, q_AL, q_RI, q_RL, tA, tR, tI, tL]; assumption)) only [Option.bind_some, q_b2, q_bxr, q_bxl, q_bx2r, q_bx2l, q_Ie, q_Le, q_In, q_Ln, q_IL, q_LI, tI, tL, q_nS, q_s2, q_s3, q_s4, q_m2, q_m3, q_m4, q_m24, q_p1, in_f (l := 0) (u := 11) h1, if_true, rt1]
theorem gz_ap {i : Nat} (h : i < gs.length) : gz (gs ++ gs') i = gz gs i := by
  unfold gz
  rw [List.getD_eq_getElem?_getD, List.getD_eq_getElem?_getD, List.getElem?_append_left h]
theorem me_ap (h : ∀ j, j < ms.length → (ms.getD j (0, 0, false, 0)).1 < gs.length ∧ (ms.getD j (0, 0, false, 0)).2.1 < gs.length) : ∀ m, m ≤ ms.length → meM (gs ++ gs') ms m = meM gs ms m
  | 0, _ => rfl
  | m + 1, hm => by
    show rU (meM (gs ++ gs') ms m) m _ = rU (meM gs ms m) m _
    obtain ⟨h1, h2⟩ := h m (by omega)
    rw [me_ap h m (by omega)]
    unfold rowM
    rw [gz_ap h1, gz_ap h2]
theorem mk_ap (h : RG0 σ x gs ms sh) : mkM (gs ++ gs') ms sh = mkM gs ms sh := by
  have := h.c.2.1.2.2
  funext s
  unfold mkM
  rw [me_ap (fun j hj => ⟨(this j hj).2.1, (this j hj).2.2.1⟩) _ (Nat.le_refl _)]
theorem GC_ap (h : RG0 σ x gs ms sh) (hC : GC τ (x + 9) gs ms sh) : GC τ (x + 9) (gs ++ gs') ms sh := by
  unfold GC rdA at *
  rw [mk_ap h]
  exact hC
theorem GC.kg (h : GC σ (x + 9) gs ms sh) (hn : (mkM gs ms sh 12).2 ≤ 32) (f : Fr x ns σ τ) (k : KG x σ τ) : GC τ (x + 9) gs ms sh := h.cg hn f.1 (fun q j _ => by rw [f.2.1]) fun q j y => k q j (by omega)
theorem GC.no {gs1 : List (Nat × Nat)} {ms1 : List (Nat × Nat × Bool × Int32)} {sh1 : Nat → Nat × Int32 × Int32} (h : GC σ (x + 9) gs ms sh) (f : Fr x ns σ τ) (k : mxI τ (x + 9) 14 = 0) : GC τ (x + 9) gs1 ms1 sh1 := by
  obtain ⟨⟨π, hP⟩, -⟩ := h
  exact ⟨⟨π, by unfold Pm; rw [f.2.1]; exact hP⟩, Or.inl k⟩
theorem g_gearS (hS : St P σ x) (h : RGs x σ) (a b : Int32) : Q32 x σ (f_L_gear P x a b (x + 1575) σ) (fun τ => f_X12_gear P (x + 1497) a b τ) [1] (RGs x) := by
  obtain ⟨gs, ms, sh, h0, hC⟩ := h
  obtain ⟨k, v, τ1, τ2, q1, q2, q3, q4, q5, q6, gs', q7, q8⟩ := g_gear2 hS h0 a b
  exact ⟨k, v, τ1, τ2, q1, q2, q3, q4, q5, q6, _, _, _, q7, GC_ap h0 (hC.kg (n32 h0.c) q6 q8)⟩
theorem g_meshS (hS : St P σ x) (h : RGs x σ) (a b c d : Int32) (hc : c = 0 ∨ c = 1) : Q32 x σ (f_L_mesh P x a b c d (x + 1575) σ) (fun τ => f_X12_mesh P (x + 1497) a b c d τ) [1] (RGs x) := by
  obtain ⟨gs, ms, sh, h0, hC⟩ := h
  obtain ⟨k, v, τ1, τ2, q1, q2, q3, q4, q5, q6, ms', q7, q8, q9⟩ := g_mesh2 hS h0 a b c d hc
  refine ⟨k, v, τ1, τ2, q1, q2, q3, q4, q5, q6, _, _, _, q7, ?_⟩
  by_cases y : ms' = []
  · have z := q9 y
    rw [y, List.append_nil]
    exact hC.kg (n32 h0.c) q6 z
  · exact hC.no q6 (q8 y)
theorem g_shaftS (hS : St P σ x) (h : RGs x σ) (a b c d : Int32) : Q0 x σ (f_L_shaft P x a b c d σ) (fun τ => f_X12_shaft P (x + 1497) a b c d τ) [1] (RGs x) := by
  obtain ⟨gs, ms, sh, h0, hC⟩ := h
  obtain ⟨k, τ1, τ2, q1, q2, q3, q4, q6, q7⟩ := g_shaft2 hS h0 a b c d
  rcases q7 with ⟨q7, q8⟩ | ⟨sh', q7, q8⟩
  · exact ⟨k, τ1, τ2, q1, q2, q3, q4, q6, _, _, _, q7, hC.kg (n32 h0.c) q6 q8⟩
  · exact ⟨k, τ1, τ2, q1, q2, q3, q4, q6, _, _, _, q7, hC.no q6 q8⟩
theorem g_clearS (hS : St P σ x) (h : RGs x σ) : ∃ τ1 τ2, f_X11_clear P x σ = some τ1 ∧ f_X12_clear P (x + 1497) τ1 = some τ2 ∧ mxA τ1 = mxA σ ∧ Fr x [1] σ τ2 ∧ RGs x τ2 := by
  obtain ⟨gs, ms, sh, h0, hC⟩ := h
  obtain ⟨τ1, τ2, q1, q2, q3, q4, q5, q6⟩ := g_clear hS
  exact ⟨τ1, τ2, q1, q2, q3, q4, _, _, _, q5, hC.no q4 q6⟩
theorem RGs.fr (h : RGs x σ) (f : Fr x ns σ τ) (hn : 1 ∉ ns) : RGs x τ := by
  obtain ⟨gs, ms, sh, h0, hC⟩ := h
  refine ⟨gs, ms, sh, h0.fr f hn, hC.cg (n32 h0.c) f.1 (fun q j _ => by rw [f.2.1]) fun q j y => f.2.2.1 1 q j ?_ hn⟩
  simp only [cp]
  omega
end MIS
