/-! ===== gears: calls ===== -/
section GB
variable {P : mx_P} {σ σ' : mx_S} {x : Nat} {ns : List Nat} {gs : List (Nat × Nat)} {ms : List (Nat × Nat × Bool × Int32)} {sh : Nat → Nat × Int32 × Int32}
theorem ls_snoc {α : Type} {l : List α} {b e : α} {j : Nat} (h : (l ++ [b])[j]? = some e) : (l[j]? = some e ∧ j < l.length) ∨ (j = l.length ∧ e = b) := by
  by_cases hj : j < l.length
  · rw [List.getElem?_append_left hj] at h
    exact Or.inl ⟨h, hj⟩
  · rw [List.getElem?_append_right (by omega)] at h
    right
    by_cases h0 : j - l.length = 0
    · rw [h0] at h
      cases h
      exact ⟨by omega, rfl⟩
    · obtain ⟨n, hn⟩ : ∃ n, j - l.length = n + 1 := ⟨j - l.length - 1, by omega⟩
      rw [hn] at h
      cases h
theorem ls_lt {α : Type} {l : List α} {e : α} {j : Nat} (h : l[j]? = some e) : j < l.length := (List.getElem?_eq_some_iff.mp h).1
theorem Fr_throw (k : Int32) : Fr x ns σ (mx_setI (th σ) (x + 1497) 0 k) := (Fr.th Fr.rf rfl).sI (Or.inr cp_t) k
theorem RG0.cg (h : RG0 σ x gs ms sh) (e : ∀ q j, cp x 1 q j → mxI σ' q j = mxI σ q j) : RG0 σ' x gs ms sh := by
  obtain ⟨⟨a1, a2, a3, a4⟩, ⟨b1, b2, b3, b4⟩, c⟩ := h
  refine ⟨⟨?_, ?_, a3, fun j w hj => ?_⟩, ⟨?_, ?_, b3, fun j w hj => ?_⟩, fun s hs => ?_⟩
  · rw [e _ _ (by first | (simp only [cp]; omega) | simp [cp])]; exact a1
  · rw [e _ _ (by first | (simp only [cp]; omega) | simp [cp])]; exact a2
  · have := a4 j w hj
    have hl := ls_lt hj
    rw [e _ _ (by first | (simp only [cp]; omega) | simp [cp]), e _ _ (by first | (simp only [cp]; omega) | simp [cp]), e _ _ (by first | (simp only [cp]; omega) | simp [cp]), e _ _ (by first | (simp only [cp]; omega) | simp [cp])]
    exact this
  · rw [e _ _ (by first | (simp only [cp]; omega) | simp [cp])]; exact b1
  · rw [e _ _ (by first | (simp only [cp]; omega) | simp [cp])]; exact b2
  · have := b4 j w hj
    rw [e _ _ (by first | (simp only [cp]; omega) | simp [cp]), e _ _ (by first | (simp only [cp]; omega) | simp [cp]), e _ _ (by first | (simp only [cp]; omega) | simp [cp]), e _ _ (by first | (simp only [cp]; omega) | simp [cp]), e _ _ (by first | (simp only [cp]; omega) | simp [cp]), e _ _ (by first | (simp only [cp]; omega) | simp [cp]), e _ _ (by first | (simp only [cp]; omega) | simp [cp]), e _ _ (by first | (simp only [cp]; omega) | simp [cp])]
    exact this
  · have := c s hs
    rw [e _ _ (by first | (simp only [cp]; omega) | simp [cp]), e _ _ (by first | (simp only [cp]; omega) | simp [cp]), e _ _ (by first | (simp only [cp]; omega) | simp [cp]), e _ _ (by first | (simp only [cp]; omega) | simp [cp]), e _ _ (by first | (simp only [cp]; omega) | simp [cp]), e _ _ (by first | (simp only [cp]; omega) | simp [cp])]
    exact this
theorem RG0.fr (h : RG0 σ x gs ms sh) (f : Fr x ns σ σ') (hn : 1 ∉ ns) : RG0 σ' x gs ms sh := h.cg fun q j hq => (f.2.2.1 1 q j hq hn).1
theorem g_gear (hS : St P σ x) (hG : RG0 σ x gs ms sh) (a b : Int32) : Q32 x σ (f_L_gear P x a b (x + 1575) σ) (fun τ => f_X12_gear P (x + 1497) a b τ) [1] (fun τ => ∃ gs', RG0 τ x (gs ++ gs') ms sh) := by
  obtain ⟨hL, hb, hN, hr⟩ := hS
  have hm := LyH_m hL
  have hg := LyH_g hL
  have hbm : mpb P ≤ x + 1497 := by omega
  have hbg : mpb P ≤ x + 9 := by omega
  have hG' := hG
  obtain ⟨⟨a1, a2, a3, a4⟩, ⟨b1, b2, b3, b4⟩, c⟩ := hG'
  have key : ∀ (w : Nat), 0 < w → w < 10 → (f_L_gear P x a b (x + 1575) σ = some (q_n w, th σ)) → f_X12_gear P (x + 1497) a b (th σ) = f_X12_gear_D45 P (x + 1497) a b (q_n w) (x + 1497) (th σ) → Q32 x σ (f_L_gear P x a b (x + 1575) σ) (fun τ => f_X12_gear P (x + 1497) a b τ) [1] (fun τ => ∃ gs', RG0 τ x (gs ++ gs') ms sh) := by
    intro w w1 w2 h1 h2
    refine ⟨_, _, _, _, h1, h2.trans (r_gear_t (σ := th σ) hm hbm w1 w2 a b), q_Ie, fun z => ?_, rfl, Fr_throw _, [], ?_⟩
    · rw [q_n0, q_nI (by omega) (by omega)] at z; omega
    · rw [List.append_nil]; exact hG.fr (ns := []) (Fr_throw _) (by simp)
  by_cases h1 : 4 ≤ a.toInt ∧ a.toInt ≤ 2000
  · by_cases h2 : 0 ≤ b.toInt ∧ b.toInt ≤ 11
    · have ec : f_X11_gear P x a b σ = if (24 : Int32) ≤ q_n gs.length then f_X11_gear_D32 P x a b 0 σ else f_X11_gear_D32 P x a b 1 σ := by
        unfold f_X11_gear
        simp (disch := first | assumption | omega | (simp only [q_AI, q_AL, q_RI, q_RL, tA, tR, tI, tL]; assumption)) only [Option.bind_some, q_b2, q_bxr, q_bxl, q_bx2r, q_bx2l, q_Ie, q_Le, q_In, q_Ln, q_IL, q_LI, tI, tL, q_nS, q_s2, q_s3, q_s4, q_m2, q_m3, q_m4, q_m24, q_p1, rg_t (l := 4) (u := 2000) h1, rg_t (l := 0) (u := 11) h2, ah_r1, ag_gI, a1]
      have er : ∀ τ, LyO (mxA τ) (mxR τ) 12 al12 (x + 1497) → mxI τ (x + 1497) 57 = q_n gs.length → f_X12_gear P (x + 1497) a b τ = if q_n gs.length = (24 : Int32) then f_X12_gear_D45 P (x + 1497) a b 2 (x + 1497) τ else f_X12_gear_D45 P (x + 1497) a b 0 (x + 1497) τ := by
        intro τ t1 t2
        have z1 : ¬ (1 : Int32) = 0 := by decide
        unfold f_X12_gear
        simp (disch := first | assumption | omega | (simp only [q_AI, q_AL, q_RI, q_RL, tA, tR, tI, tL]; assumption)) only [Option.bind_some, q_b2, q_bxr, q_bxl, q_bx2r, q_bx2l, q_Ie, q_Le, q_In, q_Ln, q_IL, q_LI, tI, tL, q_nS, q_s2, q_s3, q_s4, q_m2, q_m3, q_m4, q_m24, q_p1, in_t (l := 4) (u := 2000) h1, in_t (l := 0) (u := 11) h2, z1, if_false, am_gI, t2]
      by_cases h3 : gs.length = 24
      · refine key 2 (by omega) (by omega) (ht_gear2 (LyH_o hL) ?_) ?_
        · rw [ec, h3, if_pos (by decide)]
          unfold f_X11_gear_D32
          rw [nr_0 hr]; rfl
        · rw [er (th σ) hm a2, h3, if_pos (by decide)]; rfl
      · have h24 : gs.length < 24 := by omega
        have eA := q_ofT (i := a) (by omega)
        have eB := q_ofT (i := b) (by omega)
        have hc : f_X11_gear P x a b σ = some (.inr (q_n gs.length, mx_setI (mx_setI (mx_setI σ (x + 9 + 1) gs.length a) (x + 9 + 2) gs.length b) (x + 9) 0 (q_n (gs.length + 1)))) := by
          rw [ec, if_neg (fun z => by rw [show (24 : Int32) = q_n 24 from rfl, q_nLe (by omega) (by omega)] at z; omega)]
          unfold f_X11_gear_D32
          simp (disch := first | assumption | omega | (simp only [q_AI, q_AL, q_RI, q_RL, tA, tR, tI, tL]; assumption)) only [Option.bind_some, q_b2, q_bxr, q_bxl, q_bx2r, q_bx2l, q_Ie, q_Le, q_In, q_Ln, q_IL, q_LI, tI, tL, q_nS, q_s2, q_s3, q_s4, q_m2, q_m3, q_m4, q_m24, q_p1, nr_1, ah_r1, ag_is, c_addGear hg hbg a1 h24]
        refine ⟨_, _, _, _, hr_gear (LyH_o hL) hc (LyH_u hL) (by omega), (er _ (by exact hm) (by simp (disch := first | assumption | omega | (simp only [q_AI, q_AL, q_RI, q_RL, tA, tR, tI, tL]; assumption)) only [Option.bind_some, q_b2, q_bxr, q_bxl, q_bx2r, q_bx2l, q_Ie, q_Le, q_In, q_Ln, q_IL, q_LI, tI, tL, q_nS, q_s2, q_s3, q_s4, q_m2, q_m3, q_m4, q_m24, q_p1, a2])).trans ((if_neg (fun z => by rw [show (24 : Int32) = q_n 24 from rfl, q_nI (by omega) (by omega)] at z; omega)).trans (r_gear (k := gs.length) (by exact hm) hbm (by simp (disch := first | assumption | omega | (simp only [q_AI, q_AL, q_RI, q_RL, tA, tR, tI, tL]; assumption)) only [Option.bind_some, q_b2, q_bxr, q_bxl, q_bx2r, q_bx2l, q_Ie, q_Le, q_In, q_Ln, q_IL, q_LI, tI, tL, q_nS, q_s2, q_s3, q_s4, q_m2, q_m3, q_m4, q_m24, q_p1, a2]) h24 a b)), ?_, fun _ => ?_, rfl, ?_, [(a.toInt.toNat, b.toInt.toNat)], ?_⟩
        · simp (disch := first | assumption | omega | (simp only [q_AI, q_AL, q_RI, q_RL, tA, tR, tI, tL]; assumption)) only [Option.bind_some, q_b2, q_bxr, q_bxl, q_bx2r, q_bx2l, q_Ie, q_Le, q_In, q_Ln, q_IL, q_LI, tI, tL, q_nS, q_s2, q_s3, q_s4, q_m2, q_m3, q_m4, q_m24, q_p1]
        · simp (disch := first | assumption | omega | (simp only [q_AI, q_AL, q_RI, q_RL, tA, tR, tI, tL]; assumption)) only [Option.bind_some, q_b2, q_bxr, q_bxl, q_bx2r, q_bx2l, q_Ie, q_Le, q_In, q_Ln, q_IL, q_LI, tI, tL, q_nS, q_s2, q_s3, q_s4, q_m2, q_m3, q_m4, q_m24, q_p1]
        · refine Fr.sI (Fr.sI (Fr.sI (Fr.sI (Fr.sL (Fr.sI (Fr.sI (Fr.sI Fr.rf ?_ _) ?_ _) ?_ _) ?_ _) ?_ _) ?_ _) ?_ _) ?_ _
          · exact Or.inl ⟨1, by simp, (by first | (simp only [cp]; omega) | simp [cp])⟩
          · exact Or.inl ⟨1, by simp, (by first | (simp only [cp]; omega) | simp [cp])⟩
          · exact Or.inl ⟨1, by simp, (by first | (simp only [cp]; omega) | simp [cp])⟩
          · exact Or.inr cp_o
          · exact Or.inr cp_t
          · exact Or.inl ⟨1, by simp, (by first | (simp only [cp]; omega) | simp [cp])⟩
          · exact Or.inl ⟨1, by simp, (by first | (simp only [cp]; omega) | simp [cp])⟩
          · exact Or.inl ⟨1, by simp, (by first | (simp only [cp]; omega) | simp [cp])⟩
        · have hlen : (gs ++ [(a.toInt.toNat, b.toInt.toNat)]).length = gs.length + 1 := by rw [List.length_append]; rfl
          refine ⟨⟨?_, ?_, by omega, fun j w hj => ?_⟩, ⟨?_, ?_, b3, fun j w hj => ?_⟩, fun s hs => ?_⟩
          · rw [hlen]; simp (disch := first | assumption | omega | (simp only [q_AI, q_AL, q_RI, q_RL, tA, tR, tI, tL]; assumption)) only [Option.bind_some, q_b2, q_bxr, q_bxl, q_bx2r, q_bx2l, q_Ie, q_Le, q_In, q_Ln, q_IL, q_LI, tI, tL, q_nS, q_s2, q_s3, q_s4, q_m2, q_m3, q_m4, q_m24, q_p1]
          · rw [hlen]; simp (disch := first | assumption | omega | (simp only [q_AI, q_AL, q_RI, q_RL, tA, tR, tI, tL]; assumption)) only [Option.bind_some, q_b2, q_bxr, q_bxl, q_bx2r, q_bx2l, q_Ie, q_Le, q_In, q_Ln, q_IL, q_LI, tI, tL, q_nS, q_s2, q_s3, q_s4, q_m2, q_m3, q_m4, q_m24, q_p1]
          · rcases ls_snoc hj with ⟨hj, hl⟩ | ⟨rfl, rfl⟩
            · simp (disch := first | assumption | omega | (simp only [q_AI, q_AL, q_RI, q_RL, tA, tR, tI, tL]; assumption)) only [Option.bind_some, q_b2, q_bxr, q_bxl, q_bx2r, q_bx2l, q_Ie, q_Le, q_In, q_Ln, q_IL, q_LI, tI, tL, q_nS, q_s2, q_s3, q_s4, q_m2, q_m3, q_m4, q_m24, q_p1]
              exact a4 j w hj
            · simp (disch := first | assumption | omega | (simp only [q_AI, q_AL, q_RI, q_RL, tA, tR, tI, tL]; assumption)) only [Option.bind_some, q_b2, q_bxr, q_bxl, q_bx2r, q_bx2l, q_Ie, q_Le, q_In, q_Ln, q_IL, q_LI, tI, tL, q_nS, q_s2, q_s3, q_s4, q_m2, q_m3, q_m4, q_m24, q_p1]
              exact ⟨eA, eA, eB, eB, by omega, by omega, by omega⟩
          · simp (disch := first | assumption | omega | (simp only [q_AI, q_AL, q_RI, q_RL, tA, tR, tI, tL]; assumption)) only [Option.bind_some, q_b2, q_bxr, q_bxl, q_bx2r, q_bx2l, q_Ie, q_Le, q_In, q_Ln, q_IL, q_LI, tI, tL, q_nS, q_s2, q_s3, q_s4, q_m2, q_m3, q_m4, q_m24, q_p1]; exact b1
          · simp (disch := first | assumption | omega | (simp only [q_AI, q_AL, q_RI, q_RL, tA, tR, tI, tL]; assumption)) only [Option.bind_some, q_b2, q_bxr, q_bxl, q_bx2r, q_bx2l, q_Ie, q_Le, q_In, q_Ln, q_IL, q_LI, tI, tL, q_nS, q_s2, q_s3, q_s4, q_m2, q_m3, q_m4, q_m24, q_p1]; exact b2
          · have := b4 j w hj
            rw [hlen]
            simp (disch := first | assumption | omega | (simp only [q_AI, q_AL, q_RI, q_RL, tA, tR, tI, tL]; assumption)) only [Option.bind_some, q_b2, q_bxr, q_bxl, q_bx2r, q_bx2l, q_Ie, q_Le, q_In, q_Ln, q_IL, q_LI, tI, tL, q_nS, q_s2, q_s3, q_s4, q_m2, q_m3, q_m4, q_m24, q_p1]
            exact ⟨this.1, this.2.1, by omega, by omega, this.2.2.2.2⟩
          · simp (disch := first | assumption | omega | (simp only [q_AI, q_AL, q_RI, q_RL, tA, tR, tI, tL]; assumption)) only [Option.bind_some, q_b2, q_bxr, q_bxl, q_bx2r, q_bx2l, q_Ie, q_Le, q_In, q_Ln, q_IL, q_LI, tI, tL, q_nS, q_s2, q_s3, q_s4, q_m2, q_m3, q_m4, q_m24, q_p1]; exact c s hs
    · refine key 1 (by omega) (by omega) (ht_gear1 (LyH_o hL) ?_) ?_
      · unfold f_X11_gear
        simp (disch := first | assumption | omega | (simp only [q_AI, q_AL, q_RI, q_RL, tA, tR, tI, tL]; assumption)) only [Option.bind_some, q_b2, q_bxr, q_bxl, q_bx2r, q_bx2l, q_Ie, q_Le, q_In, q_Ln, q_IL, q_LI, tI, tL, q_nS, q_s2, q_s3, q_s4, q_m2, q_m3, q_m4, q_m24, q_p1, rg_t (l := 4) (u := 2000) h1, rg_f (l := 0) (u := 11) h2 hr]
      · have z1 : ¬ (1 : Int32) = 0 := by decide
        unfold f_X12_gear f_X12_gear_D27
        simp (disch := first | assumption | omega | (simp only [q_AI, q_AL, q_RI, q_RL, tA, tR, tI, tL]; assumption)) only [Option.bind_some, q_b2, q_bxr, q_bxl, q_bx2r, q_bx2l, q_Ie, q_Le, q_In, q_Ln, q_IL, q_LI, tI, tL, q_nS, q_s2, q_s3, q_s4, q_m2, q_m3, q_m4, q_m24, q_p1, in_t (l := 4) (u := 2000) h1, in_f (l := 0) (u := 11) h2, z1, if_false, if_true]; rfl
  · refine key 1 (by omega) (by omega) (ht_gear1 (LyH_o hL) ?_) ?_
    · unfold f_X11_gear
      simp (disch := first | assumption | omega | (simp only [q_AI, q_AL, q_RI, q_RL, tA, tR, tI, tL]; assumption)) only [Option.bind_some, q_b2, q_bxr, q_bxl, q_bx2r, q_bx2l, q_Ie, q_Le, q_In, q_Ln, q_IL, q_LI, tI, tL, q_nS, q_s2, q_s3, q_s4, q_m2, q_m3, q_m4, q_m24, q_p1, rg_f (l := 4) (u := 2000) h1 hr]
    · unfold f_X12_gear f_X12_gear_D27
      simp (disch := first | assumption | omega | (simp only [q_AI, q_AL, q_RI, q_RL, tA, tR, tI, tL]; assumption)) only [Option.bind_some, q_b2, q_bxr, q_bxl, q_bx2r, q_bx2l, q_Ie, q_Le, q_In, q_Ln, q_IL, q_LI, tI, tL, q_nS, q_s2, q_s3, q_s4, q_m2, q_m3, q_m4, q_m24, q_p1, in_f (l := 4) (u := 2000) h1, if_true]; rfl
end GB
