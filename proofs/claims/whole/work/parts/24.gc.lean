/-! ===== gears: mesh, shaft, clear, interference ===== -/
section GC
variable {P : mx_P} {σ σ' : mx_S} {x : Nat} {ns : List Nat} {gs : List (Nat × Nat)} {ms : List (Nat × Nat × Bool × Int32)} {sh : Nat → Nat × Int32 × Int32}
abbrev thr (x : Nat) (σ : mx_S) (w : Nat) : mx_S := mx_setI (th σ) (x + 1497) 0 (q_n w)
theorem Q32_t {l : Option (Int32 × mx_S)} {f : mx_S → Option (Int32 × mx_S)} {Post : mx_S → Prop} {w : Nat} (hw : 0 < w) (hw2 : w < 10) (hl : l = some (q_n w, th σ)) (hf : f (th σ) = some (0, thr x σ w)) (hp : Post (thr x σ w)) : Q32 x σ l f ns Post :=
  ⟨_, _, _, _, hl, hf, q_Ie, fun z => absurd z (w_1 hw hw2), rfl, Fr_throw _, hp⟩
theorem Q64_t {l : Option (Int32 × mx_S)} {f : mx_S → Option (Int64 × mx_S)} {Post : mx_S → Prop} {w : Nat} (hw : 0 < w) (hw2 : w < 10) (hl : l = some (q_n w, th σ)) (hf : f (th σ) = some (0, thr x σ w)) (hp : Post (thr x σ w)) : Q64 x σ l f ns Post :=
  ⟨_, _, _, _, hl, hf, q_Ie, fun z => absurd z (w_1 hw hw2), rfl, Fr_throw _, hp⟩
theorem Q0_t {l : Option (Int32 × mx_S)} {f : mx_S → Option mx_S} {Post : mx_S → Prop} {w : Nat} (hl : l = some (q_n w, th σ)) (hf : f (th σ) = some (thr x σ w)) (hp : Post (thr x σ w)) : Q0 x σ l f ns Post :=
  ⟨_, _, _, hl, hf, q_Ie, rfl, Fr_throw _, hp⟩
theorem ig_t {m n : Nat} {v : Int32} (h : LyO (mxA σ) (mxR σ) 12 al12 m) (hk : mxI σ m 57 = q_n n) (hn : n ≤ 24) (hv : 0 ≤ v.toInt ∧ v.toInt < n) : f_X12_isGear P m v σ = some (1, σ) := by
  have h1 : ¬ v < 0 := by rw [q_lt, q_i0]; omega
  have h2 : ¬ q_n n ≤ v := by rw [q_le, q_nT (by omega)]; omega
  unfold f_X12_isGear f_X12_isGear_D17
  simp (disch := first | assumption | omega | (simp only [q_AI, q_AL, q_RI, q_RL, tA, tR, tI, tL]; assumption)) only [Option.bind_some, q_b2, q_bxr, q_bxl, q_bx2r, q_bx2l, q_Ie, q_Le, q_In, q_Ln, q_IL, q_LI, tI, tL, q_nS, q_s2, q_s3, q_s4, q_m2, q_m3, q_m4, q_m24, q_p1, h1, h2, am_gI, hk, if_false]; rfl
theorem ig_f {m n : Nat} {v : Int32} (h : LyO (mxA σ) (mxR σ) 12 al12 m) (hk : mxI σ m 57 = q_n n) (hn : n ≤ 24) (hv : ¬ (0 ≤ v.toInt ∧ v.toInt < n)) : f_X12_isGear P m v σ = some (0, σ) := by
  unfold f_X12_isGear f_X12_isGear_D16 f_X12_isGear_D17
  by_cases h1 : v < 0
  · rw [if_pos h1]; rfl
  · have h2 : q_n n ≤ v := by rw [q_lt, q_i0] at h1; rw [q_le, q_nT (by omega)]; omega
    simp (disch := first | assumption | omega | (simp only [q_AI, q_AL, q_RI, q_RL, tA, tR, tI, tL]; assumption)) only [Option.bind_some, q_b2, q_bxr, q_bxl, q_bx2r, q_bx2l, q_Ie, q_Le, q_In, q_Ln, q_IL, q_LI, tI, tL, q_nS, q_s2, q_s3, q_s4, q_m2, q_m3, q_m4, q_m24, q_p1, h1, h2, am_gI, hk, if_false, if_true]; rfl
theorem wg {v : Int32} {n : Nat} (hn : n < 2147483648) (h : 0 ≤ v.toInt ∧ v.toInt < n) : 0 ≤ v.toInt ∧ v.toInt < (q_n n).toInt := by rw [q_nT hn]; exact h
theorem wg' {v : Int32} {n : Nat} (hn : n < 2147483648) (h : ¬ (0 ≤ v.toInt ∧ v.toInt < n)) : ¬ (0 ≤ v.toInt ∧ v.toInt < (q_n n).toInt) := by rw [q_nT hn]; exact h
theorem z10 : ¬ (1 : Int32) = 0 := by decide
theorem z01 : ¬ (0 : Int32) = 1 := by decide
theorem z00 : (0 : Int32) ≤ 0 := by decide
theorem c_addMesh {g k : Nat} (h : LyG (mxA σ) (mxR σ) g) (hb : mpb P ≤ g) (hk : mxI σ g 1 = q_n k) (hk2 : k < 20) (a b c d : Int32) : f_X4_addMesh P g a b c d σ = some (q_n k, mx_setI (mx_setI (mx_setI (mx_setI (mx_setI (mx_setI σ (g + 3) (4 * k) a) (g + 3) (4 * k + 1) b) (g + 3) (4 * k + 2) (if c = 0 then 1 else -1)) (g + 3) (4 * k + 3) d) g 1 (q_n (k + 1))) g 14 0) := by
  have h1 : q_n k < (20 : Int32) := (q_nLt (l := 20) (by omega) (by omega)).mpr hk2
  unfold f_X4_addMesh f_X4_addMesh_D54
  by_cases hc : c = 0 <;> simp (disch := first | assumption | omega | (simp only [q_AI, q_AL, q_RI, q_RL, tA, tR, tI, tL]; assumption)) only [Option.bind_some, q_b2, q_bxr, q_bxl, q_bx2r, q_bx2l, q_Ie, q_Le, q_In, q_Ln, q_IL, q_LI, tI, tL, q_nS, q_s2, q_s3, q_s4, q_m2, q_m3, q_m4, q_m24, q_p1, ag_gI, hk, h1, hc, if_true, if_false, ag_r5, ag_s5, ag_pI]
theorem vb {c : Int32} (h : c = 0 ∨ c = 1) : vp_nar .boolean c = c := by rcases h with rfl | rfl <;> rfl
theorem r_mesh {m k : Nat} (h : LyO (mxA σ) (mxR σ) 12 al12 m) (hb : mpb P ≤ m) (hk : mxI σ m 60 = q_n k) (hk2 : k < 20) (a b c d : Int32) (hc : c = 0 ∨ c = 1) : f_X12_mesh_D85 P m a b c d 0 m σ = some (q_n k, mx_setI (mx_setI (mx_setI (mx_setI (mx_setI (mx_setI σ m 0 0) (m + 38) k a) (m + 39) k b) (m + 40) k d) (m + 41) k c) m 60 (q_n (k + 1))) := by
  unfold f_X12_mesh_D85
  simp (disch := first | assumption | omega | (simp only [q_AI, q_AL, q_RI, q_RL, tA, tR, tI, tL]; assumption)) only [Option.bind_some, q_b2, q_bxr, q_bxl, q_bx2r, q_bx2l, q_Ie, q_Le, q_In, q_Ln, q_IL, q_LI, tI, tL, q_nS, q_s2, q_s3, q_s4, q_m2, q_m3, q_m4, q_m24, q_p1, am_pI, am_gI, z00, if_true, am_r61, am_s61, am_r62, am_s62, am_r63, am_s63, am_r64, am_s64, hk, vb]
theorem g_mesh (hS : St P σ x) (hG : RG0 σ x gs ms sh) (a b c d : Int32) (hc : c = 0 ∨ c = 1) : Q32 x σ (f_L_mesh P x a b c d (x + 1575) σ) (fun τ => f_X12_mesh P (x + 1497) a b c d τ) [1] (fun τ => ∃ ms', RG0 τ x gs (ms ++ ms') sh ∧ (ms' ≠ [] → mxI τ (x + 9) 14 = 0)) := by
  obtain ⟨hL, hb, hN, hr⟩ := hS
  have hm := LyH_m hL
  have hg := LyH_g hL
  have hbm : mpb P ≤ x + 1497 := by omega
  have hbg : mpb P ≤ x + 9 := by omega
  have hG' := hG
  obtain ⟨⟨a1, a2, a3, a4⟩, ⟨b1, b2, b3, b4⟩, c0⟩ := hG'
  have hp : ∀ w, ∃ ms', RG0 (thr x σ w) x gs (ms ++ ms') sh ∧ (ms' ≠ [] → mxI (thr x σ w) (x + 9) 14 = 0) := fun w => ⟨[], by rw [List.append_nil]; exact hG.fr (ns := []) (Fr_throw _) (by simp), fun z => absurd rfl z⟩
  by_cases h1 : -1 ≤ d.toInt ∧ d.toInt ≤ 11
  · by_cases h2 : (0 ≤ a.toInt ∧ a.toInt < gs.length) ∧ (0 ≤ b.toInt ∧ b.toInt < gs.length)
    · obtain ⟨ha, hb'⟩ := h2
      have eA := q_ofT (i := a) (by omega)
      have eB := q_ofT (i := b) (by omega)
      generalize hna : a.toInt.toNat = na at eA
      generalize hnb : b.toInt.toNat = nb at eB
      have la : na < gs.length := by omega
      have lb : nb < gs.length := by omega
      have ga := a4 na _ (List.getElem?_eq_getElem la)
      have gb := a4 nb _ (List.getElem?_eq_getElem lb)
      generalize hea : gs[na] = ea at ga
      generalize heb : gs[nb] = eb at gb
      have ec : f_X11_mesh P x a b c d σ = if q_n ea.2 = q_n eb.2 then f_X11_mesh_D70 P x a b c d 0 σ else f_X11_mesh_D70 P x a b c d 1 σ := by
        unfold f_X11_mesh f_X11_mesh_D41
        simp (disch := first | assumption | omega | (simp only [q_AI, q_AL, q_RI, q_RL, tA, tR, tI, tL]; assumption)) only [Option.bind_some, q_b2, q_bxr, q_bxl, q_bx2r, q_bx2l, q_Ie, q_Le, q_In, q_Ln, q_IL, q_LI, tI, tL, q_nS, q_s2, q_s3, q_s4, q_m2, q_m3, q_m4, q_m24, q_p1, rg_t (l := -1) (u := 11) h1, ah_r1, ag_gI, a1, wi_t (wg (by omega) ha), wi_t (wg (by omega) hb'), z10, if_false, np_1, ag_r4]
        rw [eA, eB]
        simp (disch := first | assumption | omega | (simp only [q_AI, q_AL, q_RI, q_RL, tA, tR, tI, tL]; assumption)) only [Option.bind_some, q_b2, q_bxr, q_bxl, q_bx2r, q_bx2l, q_Ie, q_Le, q_In, q_Ln, q_IL, q_LI, tI, tL, q_nS, q_s2, q_s3, q_s4, q_m2, q_m3, q_m4, q_m24, q_p1, ag_g4, ga.2.2.1, gb.2.2.1]
      have er : ∀ τ, LyO (mxA τ) (mxR τ) 12 al12 (x + 1497) → mxI τ (x + 1497) 57 = q_n gs.length → mxI τ (x + 1497) 60 = q_n ms.length → mxI τ (x + 1497 + 37) na = q_n ea.2 → mxI τ (x + 1497 + 37) nb = q_n eb.2 → f_X12_mesh P (x + 1497) a b c d τ = if q_n ea.2 = q_n eb.2 then f_X12_mesh_D85 P (x + 1497) a b c d 3 (x + 1497) τ else if q_n ms.length = (20 : Int32) then f_X12_mesh_D85 P (x + 1497) a b c d 4 (x + 1497) τ else f_X12_mesh_D85 P (x + 1497) a b c d 0 (x + 1497) τ := by
        intro τ t1 t2 t3 t4 t5
        unfold f_X12_mesh f_X12_mesh_D21
        simp (disch := first | assumption | omega | (simp only [q_AI, q_AL, q_RI, q_RL, tA, tR, tI, tL]; assumption)) only [Option.bind_some, q_b2, q_bxr, q_bxl, q_bx2r, q_bx2l, q_Ie, q_Le, q_In, q_Ln, q_IL, q_LI, tI, tL, q_nS, q_s2, q_s3, q_s4, q_m2, q_m3, q_m4, q_m24, q_p1, in_t (l := -1) (u := 11) h1, am_is, ig_t t1 t2 a3 ha, ig_t t1 t2 a3 hb', z10, if_false, am_gI, t3, am_r59]
        rw [eA, eB]
        simp (disch := first | assumption | omega | (simp only [q_AI, q_AL, q_RI, q_RL, tA, tR, tI, tL]; assumption)) only [Option.bind_some, q_b2, q_bxr, q_bxl, q_bx2r, q_bx2l, q_Ie, q_Le, q_In, q_Ln, q_IL, q_LI, tI, tL, q_nS, q_s2, q_s3, q_s4, q_m2, q_m3, q_m4, q_m24, q_p1, am_g59, t4, t5]
      by_cases h3 : ea.2 = eb.2
      · refine Q32_t (w := 3) (by omega) (by omega) (ht_mesh3 (LyH_o hL) ?_) ?_ (hp 3)
        · rw [ec, h3, if_pos rfl]
          unfold f_X11_mesh_D70
          rw [nl_0 hr]; rfl
        · show f_X12_mesh P (x + 1497) a b c d (th σ) = _
          rw [er (th σ) hm a2 b2 ga.2.2.2.1 gb.2.2.2.1, h3, if_pos rfl]
          exact rt_mesh_D85 (w := 3) (σ := th σ) hm hbm (by omega) (by omega) a b c d
      · have h3' : ¬ q_n ea.2 = q_n eb.2 := by rw [q_nI (by omega) (by omega)]; exact h3
        have ec2 : f_X11_mesh P x a b c d σ = if (20 : Int32) ≤ q_n ms.length then f_X11_mesh_D90 P x a b c d 0 σ else f_X11_mesh_D90 P x a b c d 1 σ := by
          rw [ec, if_neg h3']
          unfold f_X11_mesh_D70
          simp (disch := first | assumption | omega | (simp only [q_AI, q_AL, q_RI, q_RL, tA, tR, tI, tL]; assumption)) only [Option.bind_some, q_b2, q_bxr, q_bxl, q_bx2r, q_bx2l, q_Ie, q_Le, q_In, q_Ln, q_IL, q_LI, tI, tL, q_nS, q_s2, q_s3, q_s4, q_m2, q_m3, q_m4, q_m24, q_p1, nl_1, ah_r1, ag_gI, b1]
        by_cases h4 : ms.length = 20
        · refine Q32_t (w := 4) (by omega) (by omega) (ht_mesh4 (LyH_o hL) ?_) ?_ (hp 4)
          · rw [ec2, h4, if_pos (by decide)]
            unfold f_X11_mesh_D90
            rw [nr_0 hr]; rfl
          · show f_X12_mesh P (x + 1497) a b c d (th σ) = _
            rw [er (th σ) hm a2 b2 ga.2.2.2.1 gb.2.2.2.1, if_neg h3', h4, if_pos (by decide)]
            exact rt_mesh_D85 (w := 4) (σ := th σ) hm hbm (by omega) (by omega) a b c d
        · have h20 : ms.length < 20 := by omega
          have hcl : f_X11_mesh P x a b c d σ = some (.inr (q_n ms.length, mx_setI (mx_setI (mx_setI (mx_setI (mx_setI (mx_setI σ (x + 9 + 3) (4 * ms.length) a) (x + 9 + 3) (4 * ms.length + 1) b) (x + 9 + 3) (4 * ms.length + 2) (if c = 0 then 1 else -1)) (x + 9 + 3) (4 * ms.length + 3) d) (x + 9) 1 (q_n (ms.length + 1))) (x + 9) 14 0)) := by
            rw [ec2, if_neg (fun z => by rw [show (20 : Int32) = q_n 20 from rfl, q_nLe (by omega) (by omega)] at z; omega)]
            unfold f_X11_mesh_D90
            simp (disch := first | assumption | omega | (simp only [q_AI, q_AL, q_RI, q_RL, tA, tR, tI, tL]; assumption)) only [Option.bind_some, q_b2, q_bxr, q_bxl, q_bx2r, q_bx2l, q_Ie, q_Le, q_In, q_Ln, q_IL, q_LI, tI, tL, q_nS, q_s2, q_s3, q_s4, q_m2, q_m3, q_m4, q_m24, q_p1, nr_1, ah_r1, ag_is, c_addMesh hg hbg b1 h20]
          refine ⟨_, _, _, _, hr_mesh (LyH_o hL) hcl (LyH_u hL) (by omega), (er _ (by exact hm) (by simp (disch := first | assumption | omega | (simp only [q_AI, q_AL, q_RI, q_RL, tA, tR, tI, tL]; assumption)) only [Option.bind_some, q_b2, q_bxr, q_bxl, q_bx2r, q_bx2l, q_Ie, q_Le, q_In, q_Ln, q_IL, q_LI, tI, tL, q_nS, q_s2, q_s3, q_s4, q_m2, q_m3, q_m4, q_m24, q_p1, a2]) (by simp (disch := first | assumption | omega | (simp only [q_AI, q_AL, q_RI, q_RL, tA, tR, tI, tL]; assumption)) only [Option.bind_some, q_b2, q_bxr, q_bxl, q_bx2r, q_bx2l, q_Ie, q_Le, q_In, q_Ln, q_IL, q_LI, tI, tL, q_nS, q_s2, q_s3, q_s4, q_m2, q_m3, q_m4, q_m24, q_p1, b2]) (by simp (disch := first | assumption | omega | (simp only [q_AI, q_AL, q_RI, q_RL, tA, tR, tI, tL]; assumption)) only [Option.bind_some, q_b2, q_bxr, q_bxl, q_bx2r, q_bx2l, q_Ie, q_Le, q_In, q_Ln, q_IL, q_LI, tI, tL, q_nS, q_s2, q_s3, q_s4, q_m2, q_m3, q_m4, q_m24, q_p1, ga.2.2.2.1]) (by simp (disch := first | assumption | omega | (simp only [q_AI, q_AL, q_RI, q_RL, tA, tR, tI, tL]; assumption)) only [Option.bind_some, q_b2, q_bxr, q_bxl, q_bx2r, q_bx2l, q_Ie, q_Le, q_In, q_Ln, q_IL, q_LI, tI, tL, q_nS, q_s2, q_s3, q_s4, q_m2, q_m3, q_m4, q_m24, q_p1, gb.2.2.2.1])).trans ((if_neg h3').trans ((if_neg (fun z => by rw [show (20 : Int32) = q_n 20 from rfl, q_nI (by omega) (by omega)] at z; omega)).trans (r_mesh (k := ms.length) (by exact hm) hbm (by simp (disch := first | assumption | omega | (simp only [q_AI, q_AL, q_RI, q_RL, tA, tR, tI, tL]; assumption)) only [Option.bind_some, q_b2, q_bxr, q_bxl, q_bx2r, q_bx2l, q_Ie, q_Le, q_In, q_Ln, q_IL, q_LI, tI, tL, q_nS, q_s2, q_s3, q_s4, q_m2, q_m3, q_m4, q_m24, q_p1, b2]) h20 a b c d hc))), ?_, fun _ => ?_, rfl, ?_, [(na, nb, decide (c = 1), d)], ?_, fun _ => ?_⟩
          · simp (disch := first | assumption | omega | (simp only [q_AI, q_AL, q_RI, q_RL, tA, tR, tI, tL]; assumption)) only [Option.bind_some, q_b2, q_bxr, q_bxl, q_bx2r, q_bx2l, q_Ie, q_Le, q_In, q_Ln, q_IL, q_LI, tI, tL, q_nS, q_s2, q_s3, q_s4, q_m2, q_m3, q_m4, q_m24, q_p1]
          · simp (disch := first | assumption | omega | (simp only [q_AI, q_AL, q_RI, q_RL, tA, tR, tI, tL]; assumption)) only [Option.bind_some, q_b2, q_bxr, q_bxl, q_bx2r, q_bx2l, q_Ie, q_Le, q_In, q_Ln, q_IL, q_LI, tI, tL, q_nS, q_s2, q_s3, q_s4, q_m2, q_m3, q_m4, q_m24, q_p1]
          · refine Fr.sI (Fr.sI (Fr.sI (Fr.sI (Fr.sI (Fr.sI (Fr.sL (Fr.sI (Fr.sI (Fr.sI (Fr.sI (Fr.sI (Fr.sI Fr.rf ?_ _) ?_ _) ?_ _) ?_ _) ?_ _) ?_ _) ?_ _) ?_ _) ?_ _) ?_ _) ?_ _) ?_ _) ?_ _
            all_goals first | exact Or.inr cp_o | exact Or.inr cp_t | exact Or.inl ⟨1, by simp, (by first | (simp only [cp]; omega) | simp [cp])⟩
          · have hlen : (ms ++ [(na, nb, decide (c = 1), d)]).length = ms.length + 1 := by rw [List.length_append]; rfl
            refine ⟨⟨?_, ?_, a3, fun j w hj => ?_⟩, ⟨?_, ?_, by omega, fun j w hj => ?_⟩, fun s hs => ?_⟩
            · simp (disch := first | assumption | omega | (simp only [q_AI, q_AL, q_RI, q_RL, tA, tR, tI, tL]; assumption)) only [Option.bind_some, q_b2, q_bxr, q_bxl, q_bx2r, q_bx2l, q_Ie, q_Le, q_In, q_Ln, q_IL, q_LI, tI, tL, q_nS, q_s2, q_s3, q_s4, q_m2, q_m3, q_m4, q_m24, q_p1]; exact a1
            · simp (disch := first | assumption | omega | (simp only [q_AI, q_AL, q_RI, q_RL, tA, tR, tI, tL]; assumption)) only [Option.bind_some, q_b2, q_bxr, q_bxl, q_bx2r, q_bx2l, q_Ie, q_Le, q_In, q_Ln, q_IL, q_LI, tI, tL, q_nS, q_s2, q_s3, q_s4, q_m2, q_m3, q_m4, q_m24, q_p1]; exact a2
            · simp (disch := first | assumption | omega | (simp only [q_AI, q_AL, q_RI, q_RL, tA, tR, tI, tL]; assumption)) only [Option.bind_some, q_b2, q_bxr, q_bxl, q_bx2r, q_bx2l, q_Ie, q_Le, q_In, q_Ln, q_IL, q_LI, tI, tL, q_nS, q_s2, q_s3, q_s4, q_m2, q_m3, q_m4, q_m24, q_p1]; exact a4 j w hj
            · rw [hlen]; simp (disch := first | assumption | omega | (simp only [q_AI, q_AL, q_RI, q_RL, tA, tR, tI, tL]; assumption)) only [Option.bind_some, q_b2, q_bxr, q_bxl, q_bx2r, q_bx2l, q_Ie, q_Le, q_In, q_Ln, q_IL, q_LI, tI, tL, q_nS, q_s2, q_s3, q_s4, q_m2, q_m3, q_m4, q_m24, q_p1]
            · rw [hlen]; simp (disch := first | assumption | omega | (simp only [q_AI, q_AL, q_RI, q_RL, tA, tR, tI, tL]; assumption)) only [Option.bind_some, q_b2, q_bxr, q_bxl, q_bx2r, q_bx2l, q_Ie, q_Le, q_In, q_Ln, q_IL, q_LI, tI, tL, q_nS, q_s2, q_s3, q_s4, q_m2, q_m3, q_m4, q_m24, q_p1]
            · rcases ls_snoc hj with ⟨hj, hl⟩ | ⟨rfl, rfl⟩
              · simp (disch := first | assumption | omega | (simp only [q_AI, q_AL, q_RI, q_RL, tA, tR, tI, tL]; assumption)) only [Option.bind_some, q_b2, q_bxr, q_bxl, q_bx2r, q_bx2l, q_Ie, q_Le, q_In, q_Ln, q_IL, q_LI, tI, tL, q_nS, q_s2, q_s3, q_s4, q_m2, q_m3, q_m4, q_m24, q_p1]
                exact b4 j w hj
              · simp (disch := first | assumption | omega | (simp only [q_AI, q_AL, q_RI, q_RL, tA, tR, tI, tL]; assumption)) only [Option.bind_some, q_b2, q_bxr, q_bxl, q_bx2r, q_bx2l, q_Ie, q_Le, q_In, q_Ln, q_IL, q_LI, tI, tL, q_nS, q_s2, q_s3, q_s4, q_m2, q_m3, q_m4, q_m24, q_p1]
                refine ⟨⟨eA, eB, ?_, trivial⟩, ⟨eA, eB, trivial, ?_⟩, la, lb, h1⟩
                · rcases hc with rfl | rfl <;> rfl
                · rcases hc with rfl | rfl <;> rfl
            · simp (disch := first | assumption | omega | (simp only [q_AI, q_AL, q_RI, q_RL, tA, tR, tI, tL]; assumption)) only [Option.bind_some, q_b2, q_bxr, q_bxl, q_bx2r, q_bx2l, q_Ie, q_Le, q_In, q_Ln, q_IL, q_LI, tI, tL, q_nS, q_s2, q_s3, q_s4, q_m2, q_m3, q_m4, q_m24, q_p1]; exact c0 s hs
          · simp (disch := first | assumption | omega | (simp only [q_AI, q_AL, q_RI, q_RL, tA, tR, tI, tL]; assumption)) only [Option.bind_some, q_b2, q_bxr, q_bxl, q_bx2r, q_bx2l, q_Ie, q_Le, q_In, q_Ln, q_IL, q_LI, tI, tL, q_nS, q_s2, q_s3, q_s4, q_m2, q_m3, q_m4, q_m24, q_p1]
    · have hcl : f_X11_mesh P x a b c d σ = f_X11_mesh_D41 P x a b c d 0 σ := by
        unfold f_X11_mesh f_X11_mesh_D40
        by_cases ha : 0 ≤ a.toInt ∧ a.toInt < gs.length
        · have hb' : ¬ (0 ≤ b.toInt ∧ b.toInt < gs.length) := fun z => h2 ⟨ha, z⟩
          simp (disch := first | assumption | omega | (simp only [q_AI, q_AL, q_RI, q_RL, tA, tR, tI, tL]; assumption)) only [Option.bind_some, q_b2, q_bxr, q_bxl, q_bx2r, q_bx2l, q_Ie, q_Le, q_In, q_Ln, q_IL, q_LI, tI, tL, q_nS, q_s2, q_s3, q_s4, q_m2, q_m3, q_m4, q_m24, q_p1, rg_t (l := -1) (u := 11) h1, ah_r1, ag_gI, a1, wi_t (wg (by omega) ha), wi_f (wg' (by omega) hb'), z10, if_false, if_true]
        · simp (disch := first | assumption | omega | (simp only [q_AI, q_AL, q_RI, q_RL, tA, tR, tI, tL]; assumption)) only [Option.bind_some, q_b2, q_bxr, q_bxl, q_bx2r, q_bx2l, q_Ie, q_Le, q_In, q_Ln, q_IL, q_LI, tI, tL, q_nS, q_s2, q_s3, q_s4, q_m2, q_m3, q_m4, q_m24, q_p1, rg_t (l := -1) (u := 11) h1, ah_r1, ag_gI, a1, wi_f (wg' (by omega) ha), if_true]
      refine Q32_t (w := 2) (by omega) (by omega) (ht_mesh2 (LyH_o hL) ?_) ?_ (hp 2)
      · rw [hcl]
        unfold f_X11_mesh_D41
        rw [np_0 hr]; rfl
      · show f_X12_mesh P (x + 1497) a b c d (th σ) = _
        have : f_X12_mesh P (x + 1497) a b c d (th σ) = f_X12_mesh_D21 P (x + 1497) a b c d 0 (th σ) := by
          unfold f_X12_mesh f_X12_mesh_D20
          by_cases ha : 0 ≤ a.toInt ∧ a.toInt < gs.length
          · have hb' : ¬ (0 ≤ b.toInt ∧ b.toInt < gs.length) := fun z => h2 ⟨ha, z⟩
            simp (disch := first | assumption | omega | (simp only [q_AI, q_AL, q_RI, q_RL, tA, tR, tI, tL]; assumption)) only [Option.bind_some, q_b2, q_bxr, q_bxl, q_bx2r, q_bx2l, q_Ie, q_Le, q_In, q_Ln, q_IL, q_LI, tI, tL, q_nS, q_s2, q_s3, q_s4, q_m2, q_m3, q_m4, q_m24, q_p1, am_is, ig_t (σ := th σ) hm a2 a3 ha, ig_f (σ := th σ) hm a2 a3 hb', z10, if_false, if_true]
          · simp (disch := first | assumption | omega | (simp only [q_AI, q_AL, q_RI, q_RL, tA, tR, tI, tL]; assumption)) only [Option.bind_some, q_b2, q_bxr, q_bxl, q_bx2r, q_bx2l, q_Ie, q_Le, q_In, q_Ln, q_IL, q_LI, tI, tL, q_nS, q_s2, q_s3, q_s4, q_m2, q_m3, q_m4, q_m24, q_p1, am_is, ig_f (σ := th σ) hm a2 a3 ha, if_true]
        rw [this]
        unfold f_X12_mesh_D21
        simp (disch := first | assumption | omega | (simp only [q_AI, q_AL, q_RI, q_RL, tA, tR, tI, tL]; assumption)) only [Option.bind_some, q_b2, q_bxr, q_bxl, q_bx2r, q_bx2l, q_Ie, q_Le, q_In, q_Ln, q_IL, q_LI, tI, tL, q_nS, q_s2, q_s3, q_s4, q_m2, q_m3, q_m4, q_m24, q_p1, in_t (l := -1) (u := 11) h1, z10, if_false, if_true]
        exact rt_mesh_D85 (w := 2) (σ := th σ) hm hbm (by omega) (by omega) a b c d
  · refine Q32_t (w := 1) (by omega) (by omega) (ht_mesh1 (LyH_o hL) ?_) ?_ (hp 1)
    · unfold f_X11_mesh
      simp (disch := first | assumption | omega | (simp only [q_AI, q_AL, q_RI, q_RL, tA, tR, tI, tL]; assumption)) only [Option.bind_some, q_b2, q_bxr, q_bxl, q_bx2r, q_bx2l, q_Ie, q_Le, q_In, q_Ln, q_IL, q_LI, tI, tL, q_nS, q_s2, q_s3, q_s4, q_m2, q_m3, q_m4, q_m24, q_p1, rg_f (l := -1) (u := 11) h1 hr]
    · show f_X12_mesh P (x + 1497) a b c d (th σ) = _
      have e2 : ∀ w, f_X12_mesh_D21 P (x + 1497) a b c d w (th σ) = some (0, thr x σ 1) := fun w => by
        unfold f_X12_mesh_D21
        simp (disch := first | assumption | omega | (simp only [q_AI, q_AL, q_RI, q_RL, tA, tR, tI, tL]; assumption)) only [Option.bind_some, q_b2, q_bxr, q_bxl, q_bx2r, q_bx2l, q_Ie, q_Le, q_In, q_Ln, q_IL, q_LI, tI, tL, q_nS, q_s2, q_s3, q_s4, q_m2, q_m3, q_m4, q_m24, q_p1, in_f (l := -1) (u := 11) h1, if_true]
        exact rt_mesh_D85 (w := 1) (σ := th σ) hm hbm (by omega) (by omega) a b c d
      unfold f_X12_mesh f_X12_mesh_D20
      by_cases ha : 0 ≤ a.toInt ∧ a.toInt < gs.length
      · by_cases hb' : 0 ≤ b.toInt ∧ b.toInt < gs.length
        · simp (disch := first | assumption | omega | (simp only [q_AI, q_AL, q_RI, q_RL, tA, tR, tI, tL]; assumption)) only [Option.bind_some, q_b2, q_bxr, q_bxl, q_bx2r, q_bx2l, q_Ie, q_Le, q_In, q_Ln, q_IL, q_LI, tI, tL, q_nS, q_s2, q_s3, q_s4, q_m2, q_m3, q_m4, q_m24, q_p1, am_is, ig_t (σ := th σ) hm a2 a3 ha, ig_t (σ := th σ) hm a2 a3 hb', z10, if_false, e2]
        · simp (disch := first | assumption | omega | (simp only [q_AI, q_AL, q_RI, q_RL, tA, tR, tI, tL]; assumption)) only [Option.bind_some, q_b2, q_bxr, q_bxl, q_bx2r, q_bx2l, q_Ie, q_Le, q_In, q_Ln, q_IL, q_LI, tI, tL, q_nS, q_s2, q_s3, q_s4, q_m2, q_m3, q_m4, q_m24, q_p1, am_is, ig_t (σ := th σ) hm a2 a3 ha, ig_f (σ := th σ) hm a2 a3 hb', z10, if_false, if_true, e2]
      · simp (disch := first | assumption | omega | (simp only [q_AI, q_AL, q_RI, q_RL, tA, tR, tI, tL]; assumption)) only [Option.bind_some, q_b2, q_bxr, q_bxl, q_bx2r, q_bx2l, q_Ie, q_Le, q_In, q_Ln, q_IL, q_LI, tI, tL, q_nS, q_s2, q_s3, q_s4, q_m2, q_m3, q_m4, q_m24, q_p1, am_is, ig_f (σ := th σ) hm a2 a3 ha, if_true, e2]
end GC
