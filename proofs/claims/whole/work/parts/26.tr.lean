/-! ===== interference, trains, train ===== -/
section TRN
variable {P : mx_P} {σ σ' : mx_S} {x : Nat} {ns : List Nat} {gs : List (Nat × Nat)} {ms : List (Nat × Nat × Bool × Int32)} {sh : Nat → Nat × Int32 × Int32} {T : List (Nat × Nat × Nat × Nat)}
theorem k_smaller (a b : Int64) (σ : mx_S) : f_X12_smaller P a b σ = some (if a < b then a else b, σ) := by
  unfold f_X12_smaller f_X12_smaller_D11
  by_cases h : a < b
  · rw [if_neg (fun z => by rw [q_cmp_ge, q_lle] at z; rw [q_llt] at h; omega), if_pos h]
  · rw [if_pos (by rw [q_cmp_ge, q_lle]; rw [q_llt] at h; omega), if_neg h]
theorem k_most (a b : Int64) (σ : mx_S) : f_X12_most P a b σ = some (if b < a then a else b, σ) := by
  unfold f_X12_most f_X12_most_D11
  by_cases h : b < a
  · rw [if_neg (fun z => by rw [q_cmp_le, q_lle] at z; rw [q_llt] at h; omega), if_pos h]
  · rw [if_pos (by rw [q_cmp_le, q_lle]; rw [q_llt] at h; omega), if_neg h]
theorem k_clash (c : Int32) (Z Y : Int64) (w : Int32) : ∃ r, (∀ σ, f_X4_clash_D54 P c Z Y w σ = some (r, σ)) ∧ ∀ σ, f_X12_interference_D90 P c Z Y w σ = some (r, σ) := by
  unfold f_X4_clash_D54 f_X4_clash_D84 f_X4_clash_D131 f_X12_interference_D90 f_X12_interference_D122 f_X12_interference_D169
  repeat' split
  all_goals exact ⟨_, fun _ => rfl, fun _ => rfl⟩
theorem l_min {a b : Nat} (ha : a < 2147483648) (hb : b < 2147483648) : (if q_n b < q_n a then q_n b else q_n a).toInt64 = (if (q_n a).toInt64 < (q_n b).toInt64 then (q_n a).toInt64 else (q_n b).toInt64) := by
  rw [q_nL ha, q_nL hb]
  by_cases h : b < a
  · rw [if_pos ((q_nLt hb ha).mpr h), if_neg (by rw [l_nLt (by omega) (by omega)]; omega), q_nL hb]
  · rw [if_neg (by rw [q_nLt hb ha]; exact h), q_nL ha]
    by_cases h2 : a < b
    · rw [if_pos (by rw [l_nLt (by omega) (by omega)]; exact h2)]
    · rw [if_neg (by rw [l_nLt (by omega) (by omega)]; exact h2), show a = b by omega]
theorem l_max {a b : Nat} (ha : a < 2147483648) (hb : b < 2147483648) : (if q_n a < q_n b then q_n b else q_n a).toInt64 = (if (q_n b).toInt64 < (q_n a).toInt64 then (q_n a).toInt64 else (q_n b).toInt64) := by
  rw [q_nL ha, q_nL hb]
  by_cases h : a < b
  · rw [if_pos ((q_nLt ha hb).mpr h), if_neg (by rw [l_nLt (by omega) (by omega)]; omega), q_nL hb]
  · rw [if_neg (by rw [q_nLt ha hb]; exact h), q_nL ha]
    by_cases h2 : b < a
    · rw [if_pos (by rw [l_nLt (by omega) (by omega)]; exact h2)]
    · rw [if_neg (by rw [l_nLt (by omega) (by omega)]; exact h2), show a = b by omega]
theorem g_interference (hS : St P σ x) (hG : RG0 σ x gs ms sh) (a b c : Int32) : Q32 x σ (f_L_interference P x a b c (x + 1575) σ) (fun τ => f_X12_interference P (x + 1497) a b c τ) [] (fun _ => True) := by
  obtain ⟨hL, hb, hN, hr⟩ := hS
  have hm := LyH_m hL
  have hg := LyH_g hL
  have hbm : mpb P ≤ x + 1497 := by omega
  have hbg : mpb P ≤ x + 9 := by omega
  obtain ⟨⟨a1, a2, a3, a4⟩, -, -⟩ := hG
  by_cases h2 : (0 ≤ a.toInt ∧ a.toInt < gs.length) ∧ (0 ≤ b.toInt ∧ b.toInt < gs.length)
  · obtain ⟨ha, hb'⟩ := h2
    have eA := q_ofT (i := a) (by omega)
    have eB := q_ofT (i := b) (by omega)
    generalize hna : a.toInt.toNat = na at eA
    generalize hnb : b.toInt.toNat = nb at eB
    have la : na < gs.length := by omega
    have lb : nb < gs.length := by omega
    have ga := a4 na _ (List.getElem?_eq_getElem la)
    have gb := a4 nb _ (List.getElem?_eq_getElem lb)
    generalize hea : gs[na] = ea at ga
    generalize heb : gs[nb] = eb at gb
    generalize hZ : (if q_n eb.1 < q_n ea.1 then q_n eb.1 else q_n ea.1).toInt64 = Z
    generalize hY : (if q_n ea.1 < q_n eb.1 then q_n eb.1 else q_n ea.1).toInt64 = Y
    have hZ' := (l_min (a := ea.1) (b := eb.1) (by omega) (by omega)).symm.trans hZ
    have hY' := (l_max (a := ea.1) (b := eb.1) (by omega) (by omega)).symm.trans hY
    obtain ⟨r, k1, k2⟩ := k_clash (P := P) c Z Y (if 0 ≤ lg_cmp (Z * 116978) 2000000 then 0 else 1)
    have hcl : f_X11_interference P x a b c σ = some (.inr (r, σ)) := by
      have e4 : f_X4_clash P (x + 9) a b c σ = some (r, σ) := by
        rw [eA, eB]
        unfold f_X4_clash
        simp (disch := first | assumption | omega | (simp only [q_AI, q_AL, q_RI, q_RL, tA, tR, tI, tL]; assumption)) only [Option.bind_some, q_b2, q_bxr, q_bxl, q_bx2r, q_bx2l, q_Ie, q_Le, q_In, q_Ln, q_IL, q_LI, tI, tL, q_nS, q_s2, q_s3, q_s4, q_m2, q_m3, q_m4, q_m24, q_p1, ag_r3, ag_g3, ga.1, gb.1, k_min, k_max, hZ, hY]
        rw [← k1 σ]
        by_cases hc : 0 ≤ lg_cmp (Z * 116978) 2000000
        · rw [if_pos hc, if_pos hc]
        · rw [if_neg hc, if_neg hc]
      unfold f_X11_interference f_X11_interference_D33
      simp (disch := first | assumption | omega | (simp only [q_AI, q_AL, q_RI, q_RL, tA, tR, tI, tL]; assumption)) only [Option.bind_some, q_b2, q_bxr, q_bxl, q_bx2r, q_bx2l, q_Ie, q_Le, q_In, q_Ln, q_IL, q_LI, tI, tL, q_nS, q_s2, q_s3, q_s4, q_m2, q_m3, q_m4, q_m24, q_p1, ah_r1, ag_gI, a1, wi_t (wg (by omega) ha), wi_t (wg (by omega) hb'), z10, if_false, np_1, ag_is, e4]
    have hrf : ∀ τ, LyO (mxA τ) (mxR τ) 12 al12 (x + 1497) → mxI τ (x + 1497) 57 = q_n gs.length → mxI τ (x + 1497 + 36) na = q_n ea.1 → mxI τ (x + 1497 + 36) nb = q_n eb.1 → f_X12_interference P (x + 1497) a b c τ = some (r, mx_setI τ (x + 1497) 0 0) := by
      intro τ t1 t2 t3 t4
      unfold f_X12_interference
      simp (disch := first | assumption | omega | (simp only [q_AI, q_AL, q_RI, q_RL, tA, tR, tI, tL]; assumption)) only [Option.bind_some, q_b2, q_bxr, q_bxl, q_bx2r, q_bx2l, q_Ie, q_Le, q_In, q_Ln, q_IL, q_LI, tI, tL, q_nS, q_s2, q_s3, q_s4, q_m2, q_m3, q_m4, q_m24, q_p1, am_is, ig_t t1 t2 a3 ha, ig_t t1 t2 a3 hb', z10, if_false]
      rw [eA, eB]
      unfold f_X12_interference_D22
      simp (disch := first | assumption | omega | (simp only [q_AI, q_AL, q_RI, q_RL, tA, tR, tI, tL]; assumption)) only [Option.bind_some, q_b2, q_bxr, q_bxl, q_bx2r, q_bx2l, q_Ie, q_Le, q_In, q_Ln, q_IL, q_LI, tI, tL, q_nS, q_s2, q_s3, q_s4, q_m2, q_m3, q_m4, q_m24, q_p1, am_pI, am_gI, z00, if_true, am_r58, am_g58, t3, t4, k_smaller, k_most, hZ', hY']
      rw [← k2 (mx_setI τ (x + 1497) 0 0)]
      by_cases hc : 0 ≤ lg_cmp (Z * 116978) 2000000
      · rw [if_pos hc, if_pos hc]
      · rw [if_neg hc, if_neg hc]
    refine ⟨_, _, _, _, hr_interference (LyH_o hL) hcl (LyH_u hL) (by omega), hrf _ (by exact hm) (by simp (disch := first | assumption | omega | (simp only [q_AI, q_AL, q_RI, q_RL, tA, tR, tI, tL]; assumption)) only [Option.bind_some, q_b2, q_bxr, q_bxl, q_bx2r, q_bx2l, q_Ie, q_Le, q_In, q_Ln, q_IL, q_LI, tI, tL, q_nS, q_s2, q_s3, q_s4, q_m2, q_m3, q_m4, q_m24, q_p1, a2]) (by simp (disch := first | assumption | omega | (simp only [q_AI, q_AL, q_RI, q_RL, tA, tR, tI, tL]; assumption)) only [Option.bind_some, q_b2, q_bxr, q_bxl, q_bx2r, q_bx2l, q_Ie, q_Le, q_In, q_Ln, q_IL, q_LI, tI, tL, q_nS, q_s2, q_s3, q_s4, q_m2, q_m3, q_m4, q_m24, q_p1]; exact ga.2.1) (by simp (disch := first | assumption | omega | (simp only [q_AI, q_AL, q_RI, q_RL, tA, tR, tI, tL]; assumption)) only [Option.bind_some, q_b2, q_bxr, q_bxl, q_bx2r, q_bx2l, q_Ie, q_Le, q_In, q_Ln, q_IL, q_LI, tI, tL, q_nS, q_s2, q_s3, q_s4, q_m2, q_m3, q_m4, q_m24, q_p1]; exact gb.2.1), ?_, fun _ => ?_, rfl, ?_, trivial⟩
    · simp (disch := first | assumption | omega | (simp only [q_AI, q_AL, q_RI, q_RL, tA, tR, tI, tL]; assumption)) only [Option.bind_some, q_b2, q_bxr, q_bxl, q_bx2r, q_bx2l, q_Ie, q_Le, q_In, q_Ln, q_IL, q_LI, tI, tL, q_nS, q_s2, q_s3, q_s4, q_m2, q_m3, q_m4, q_m24, q_p1]
    · simp (disch := first | assumption | omega | (simp only [q_AI, q_AL, q_RI, q_RL, tA, tR, tI, tL]; assumption)) only [Option.bind_some, q_b2, q_bxr, q_bxl, q_bx2r, q_bx2l, q_Ie, q_Le, q_In, q_Ln, q_IL, q_LI, tI, tL, q_nS, q_s2, q_s3, q_s4, q_m2, q_m3, q_m4, q_m24, q_p1]
    · exact Fr.sI (Fr.sL Fr.rf (Or.inr cp_o) _) (Or.inr cp_t) _
  · refine Q32_t (w := 1) (by omega) (by omega) (ht_interference1 (LyH_o hL) ?_) ?_ trivial
    · have hcl : f_X11_interference P x a b c σ = f_X11_interference_D33 P x a b c 0 σ := by
        unfold f_X11_interference f_X11_interference_D32
        by_cases ha : 0 ≤ a.toInt ∧ a.toInt < gs.length
        · have hb' : ¬ (0 ≤ b.toInt ∧ b.toInt < gs.length) := fun z => h2 ⟨ha, z⟩
          simp (disch := first | assumption | omega | (simp only [q_AI, q_AL, q_RI, q_RL, tA, tR, tI, tL]; assumption)) only [Option.bind_some, q_b2, q_bxr, q_bxl, q_bx2r, q_bx2l, q_Ie, q_Le, q_In, q_Ln, q_IL, q_LI, tI, tL, q_nS, q_s2, q_s3, q_s4, q_m2, q_m3, q_m4, q_m24, q_p1, ah_r1, ag_gI, a1, wi_t (wg (by omega) ha), wi_f (wg' (by omega) hb'), z10, if_false, if_true]
        · simp (disch := first | assumption | omega | (simp only [q_AI, q_AL, q_RI, q_RL, tA, tR, tI, tL]; assumption)) only [Option.bind_some, q_b2, q_bxr, q_bxl, q_bx2r, q_bx2l, q_Ie, q_Le, q_In, q_Ln, q_IL, q_LI, tI, tL, q_nS, q_s2, q_s3, q_s4, q_m2, q_m3, q_m4, q_m24, q_p1, ah_r1, ag_gI, a1, wi_f (wg' (by omega) ha), if_true]
      rw [hcl]
      unfold f_X11_interference_D33
      rw [np_0 hr]; rfl
    · show f_X12_interference P (x + 1497) a b c (th σ) = _
      have rt1 : f_X12_interference_D22 P (x + 1497) a b c 1 (x + 1497) (th σ) = some (0, thr x σ 1) := rt_interference_D22 (w := 1) (σ := th σ) hm hbm (by omega) (by omega) a b c
      unfold f_X12_interference f_X12_interference_D21
      by_cases ha : 0 ≤ a.toInt ∧ a.toInt < gs.length
      · have hb' : ¬ (0 ≤ b.toInt ∧ b.toInt < gs.length) := fun z => h2 ⟨ha, z⟩
        simp (disch := first | assumption | omega | (simp only [q_AI, q_AL, q_RI, q_RL, tA, tR, tI, tL]; assumption)) only [Option.bind_some, q_b2, q_bxr, q_bxl, q_bx2r, q_bx2l, q_Ie, q_Le, q_In, q_Ln, q_IL, q_LI, tI, tL, q_nS, q_s2, q_s3, q_s4, q_m2, q_m3, q_m4, q_m24, q_p1, am_is, ig_t (σ := th σ) hm a2 a3 ha, ig_f (σ := th σ) hm a2 a3 hb', z10, if_false, if_true, rt1]
      · simp (disch := first | assumption | omega | (simp only [q_AI, q_AL, q_RI, q_RL, tA, tR, tI, tL]; assumption)) only [Option.bind_some, q_b2, q_bxr, q_bxl, q_bx2r, q_bx2l, q_Ie, q_Le, q_In, q_Ln, q_IL, q_LI, tI, tL, q_nS, q_s2, q_s3, q_s4, q_m2, q_m3, q_m4, q_m24, q_p1, am_is, ig_f (σ := th σ) hm a2 a3 ha, if_true, rt1]
/-- trains that are kept, on both sides -/
def RTr (σ : mx_S) (x : Nat) (T : List (Nat × Nat × Nat × Nat)) : Prop := kt σ (x + 9) 2 (x + 9 + 7) T ∧ kt σ (x + 1497) 72 (x + 1497 + 48) T
theorem kt.cg {a k b : Nat} (h : kt σ a k b T) (e1 : mxI σ' a k = mxI σ a k) (e2 : ∀ j, mxI σ' b j = mxI σ b j) : kt σ' a k b T := by
  refine ⟨by rw [e1]; exact h.1, fun j e hj he => ?_⟩
  rw [e2, e2, e2, e2]; exact h.2 j e hj he
theorem RTr.cg (h : RTr σ x T) (e : ∀ q j, cp x 2 q j → mxI σ' q j = mxI σ q j) : RTr σ' x T :=
  ⟨h.1.cg (e _ _ (by first | (simp only [cp]; omega) | simp [cp])) (fun j => e _ _ (by first | (simp only [cp]; omega) | simp [cp])), h.2.cg (e _ _ (by first | (simp only [cp]; omega) | simp [cp])) (fun j => e _ _ (by first | (simp only [cp]; omega) | simp [cp]))⟩
theorem RTr.fr (h : RTr σ x T) (f : Fr x ns σ σ') (hn : 2 ∉ ns) : RTr σ' x T := h.cg fun q j hq => (f.2.2.1 2 q j hq hn).1
theorem g_trains (hS : St P σ x) (hT : RTr σ x T) (a b c d : Int32) : Q32 x σ (f_L_trains P x a b c d (x + 1575) σ) (fun τ => f_X12_trains P (x + 1497) a b c d τ) [2] (fun τ => ∃ T', RTr τ x T') := by
  obtain ⟨hL, hb, hN, hr⟩ := hS
  have hm := LyH_m hL
  have hg := LyH_g hL
  have hbm : mpb P ≤ x + 1497 := by omega
  have hbg : mpb P ≤ x + 9 := by omega
  have rt1 : f_X12_trains_D64 P (x + 1497) a b c d 0 (th σ) = some (0, thr x σ 1) := by
    unfold f_X12_trains_D64
    rw [if_pos rfl]
    exact rt_trains_D77 (w := 1) (σ := th σ) hm hbm (by omega) (by omega) a b c d
  have hp : ∃ T', RTr (thr x σ 1) x T' := ⟨T, hT.fr (ns := []) (Fr_throw _) (by simp)⟩
  by_cases h1 : 1 ≤ a.toInt ∧ a.toInt ≤ 10000
  · by_cases h2 : 1 ≤ b.toInt ∧ b.toInt ≤ 10000
    · by_cases h3 : 4 ≤ c.toInt ∧ c.toInt ≤ 120
      · by_cases h4 : c.toInt ≤ d.toInt ∧ d.toInt ≤ 120
        · have h5 : 4 ≤ d.toInt ∧ d.toInt ≤ 120 := by omega
          have h6 : ¬ d < c := by rw [q_lt]; omega
          have eA := q_ofT (i := a) (by omega)
          have eB := q_ofT (i := b) (by omega)
          have eC := q_ofT (i := c) (by omega)
          have eD := q_ofT (i := d) (by omega)
          generalize hna : a.toInt.toNat = na at eA
          generalize hnb : b.toInt.toNat = nb at eB
          generalize hnc : c.toInt.toNat = nc at eC
          generalize hnd : d.toInt.toNat = nd at eD
          obtain ⟨τ1, s1, s2, s3⟩ := tr_class (P := P) (σ := σ) (g := x + 9) (p := na) (q := nb) (lo := nc) (hi := nd) (by omega) ⟨LyG_o hg, LyG_r9 hg, LyG_a9 hg⟩ hbg (by omega) (by omega) (by omega) (by omega) (by omega) (by omega)
          have hcl : f_X11_trains P x a b c d σ = some (.inr (q_n (tr_a na nb nc nd (nd + 1)).length, τ1)) := by
            unfold f_X11_trains
            simp (disch := first | assumption | omega | (simp only [q_AI, q_AL, q_RI, q_RL, tA, tR, tI, tL]; assumption)) only [Option.bind_some, q_b2, q_bxr, q_bxl, q_bx2r, q_bx2l, q_Ie, q_Le, q_In, q_Ln, q_IL, q_LI, tI, tL, q_nS, q_s2, q_s3, q_s4, q_m2, q_m3, q_m4, q_m24, q_p1, rg_t (l := 1) (u := 10000) h1, rg_t (l := 1) (u := 10000) h2, rg_t (l := 4) (u := 120) h3, rg_t (l := c) (u := 120) h4, ah_r1, ag_is]
            rw [eA, eB, eC, eD, s1]; rfl
          have hrf : ∀ τ, LyO (mxA τ) (mxR τ) 12 al12 (x + 1497) → ∃ τ2, f_X12_trains P (x + 1497) a b c d τ = some (q_n (tr_a na nb nc nd (nd + 1)).length, τ2) ∧ kt τ2 (x + 1497) 72 (x + 1497 + 48) (tr_a na nb nc nd (nd + 1)) ∧ qf (kt_S (x + 1497) 72 (x + 1497 + 48)) q_no (mx_setI (mx_setI τ (x + 1497) 0 0) (x + 1497) 72 0) τ2 := by
            intro τ t1
            obtain ⟨τ2, u1, u2, u3⟩ := tr_rfinda (P := P) (σ := mx_setI (mx_setI τ (x + 1497) 0 0) (x + 1497) 72 0) (g := x + 1497) (b := x + 1497 + 48) (p := na) (q := nb) (lo := nc) (hi := nd) (by omega) ⟨t1.1, (t1.2 47 73 0 1200 rfl).1, (t1.2 47 73 0 1200 rfl).2, by omega⟩ hbm (by omega) ⟨q_Ie, fun j e _ he => by cases he⟩ (by omega) (by omega) (by omega) (by omega) (by omega) (by omega)
            refine ⟨τ2, ?_, u2, u3⟩
            unfold f_X12_trains f_X12_trains_D64
            simp (disch := first | assumption | omega | (simp only [q_AI, q_AL, q_RI, q_RL, tA, tR, tI, tL]; assumption)) only [Option.bind_some, q_b2, q_bxr, q_bxl, q_bx2r, q_bx2l, q_Ie, q_Le, q_In, q_Ln, q_IL, q_LI, tI, tL, q_nS, q_s2, q_s3, q_s4, q_m2, q_m3, q_m4, q_m24, q_p1, in_t (l := 1) (u := 10000) h1, in_t (l := 1) (u := 10000) h2, in_t (l := 4) (u := 120) h3, in_t (l := 4) (u := 120) h5, h6, z10, if_false]
            unfold f_X12_trains_D77
            simp (disch := first | assumption | omega | (simp only [q_AI, q_AL, q_RI, q_RL, tA, tR, tI, tL]; assumption)) only [Option.bind_some, q_b2, q_bxr, q_bxl, q_bx2r, q_bx2l, q_Ie, q_Le, q_In, q_Ln, q_IL, q_LI, tI, tL, q_nS, q_s2, q_s3, q_s4, q_m2, q_m3, q_m4, q_m24, q_p1, am_pI, am_gI, z00, if_true]
            rw [eA, eB, eC, eD, u1]; rfl
          obtain ⟨τ2, u1, u2, u3⟩ := hrf (mx_setL τ1 (x + 1575) 0 (q_n (tr_a na nb nc nd (nd + 1)).length).toInt64) (by show LyO (mxA τ1) (mxR τ1) 12 al12 (x + 1497); rw [s3.1, s3.2.1]; exact hm)
          refine ⟨_, _, _, _, hr_trains (LyH_o hL) hcl (by rw [s3.1]; exact LyH_u hL) (by omega), u1, ?_, fun _ => ?_, s3.1, ?_, _, ?_, u2⟩
          · rw [u3.2.2.2.2.1 _ _ (by show ¬ (_ ∨ _); omega)]; simp (disch := first | assumption | omega | (simp only [q_AI, q_AL, q_RI, q_RL, tA, tR, tI, tL]; assumption)) only [Option.bind_some, q_b2, q_bxr, q_bxl, q_bx2r, q_bx2l, q_Ie, q_Le, q_In, q_Ln, q_IL, q_LI, tI, tL, q_nS, q_s2, q_s3, q_s4, q_m2, q_m3, q_m4, q_m24, q_p1]
          · rw [u3.2.2.2.2.2 _ _ id]; simp (disch := first | assumption | omega | (simp only [q_AI, q_AL, q_RI, q_RL, tA, tR, tI, tL]; assumption)) only [Option.bind_some, q_b2, q_bxr, q_bxl, q_bx2r, q_bx2l, q_Ie, q_Le, q_In, q_Ln, q_IL, q_LI, tI, tL, q_nS, q_s2, q_s3, q_s4, q_m2, q_m3, q_m4, q_m24, q_p1]
          · refine Fr.qf (Fr.sI (Fr.sI (Fr.sL (Fr.qf Fr.rf s3 ?_ ?_) (Or.inr cp_o) _) (Or.inr cp_t) _) ?_ _) u3 ?_ ?_
            · rintro i q j hc hi h
              have h' : cp x 2 q j := by rcases h with h | h <;> (simp only [cp]; omega)
              exact hi (by rw [cp_dj hc h']; simp)
            · exact fun _ _ _ _ _ => id
            · exact Or.inl ⟨2, by simp, (by first | (simp only [cp]; omega) | simp [cp])⟩
            · rintro i q j hc hi h
              have h' : cp x 2 q j := by rcases h with h | h <;> (simp only [cp]; omega)
              exact hi (by rw [cp_dj hc h']; simp)
            · exact fun _ _ _ _ _ => id
          · refine s2.cg ?_ fun j => ?_
            · rw [u3.2.2.2.2.1 _ _ (by show ¬ (_ ∨ _); omega)]; simp (disch := first | assumption | omega | (simp only [q_AI, q_AL, q_RI, q_RL, tA, tR, tI, tL]; assumption)) only [Option.bind_some, q_b2, q_bxr, q_bxl, q_bx2r, q_bx2l, q_Ie, q_Le, q_In, q_Ln, q_IL, q_LI, tI, tL, q_nS, q_s2, q_s3, q_s4, q_m2, q_m3, q_m4, q_m24, q_p1]
            · rw [u3.2.2.2.2.1 _ _ (by show ¬ (_ ∨ _); omega)]; simp (disch := first | assumption | omega | (simp only [q_AI, q_AL, q_RI, q_RL, tA, tR, tI, tL]; assumption)) only [Option.bind_some, q_b2, q_bxr, q_bxl, q_bx2r, q_bx2l, q_Ie, q_Le, q_In, q_Ln, q_IL, q_LI, tI, tL, q_nS, q_s2, q_s3, q_s4, q_m2, q_m3, q_m4, q_m24, q_p1]
        · refine Q32_t (w := 1) (by omega) (by omega) (ht_trains1 (LyH_o hL) ?_) ?_ hp
          · unfold f_X11_trains
            simp (disch := first | assumption | omega | (simp only [q_AI, q_AL, q_RI, q_RL, tA, tR, tI, tL]; assumption)) only [Option.bind_some, q_b2, q_bxr, q_bxl, q_bx2r, q_bx2l, q_Ie, q_Le, q_In, q_Ln, q_IL, q_LI, tI, tL, q_nS, q_s2, q_s3, q_s4, q_m2, q_m3, q_m4, q_m24, q_p1, rg_t (l := 1) (u := 10000) h1, rg_t (l := 1) (u := 10000) h2, rg_t (l := 4) (u := 120) h3, rg_f (l := c) (u := 120) h4 hr]
          · show f_X12_trains P (x + 1497) a b c d (th σ) = _
            unfold f_X12_trains f_X12_trains_D63
            by_cases h5 : 4 ≤ d.toInt ∧ d.toInt ≤ 120
            · have h6 : d < c := by rw [q_lt]; omega
              simp (disch := first | assumption | omega | (simp only [q_AI, q_AL, q_RI, q_RL, tA, tR, tI, tL]; assumption)) only [Option.bind_some, q_b2, q_bxr, q_bxl, q_bx2r, q_bx2l, q_Ie, q_Le, q_In, q_Ln, q_IL, q_LI, tI, tL, q_nS, q_s2, q_s3, q_s4, q_m2, q_m3, q_m4, q_m24, q_p1, in_t (l := 1) (u := 10000) h1, in_t (l := 1) (u := 10000) h2, in_t (l := 4) (u := 120) h3, in_t (l := 4) (u := 120) h5, h6, z10, if_false, if_true, rt1]
            · simp (disch := first | assumption | omega | (simp only [q_AI, q_AL, q_RI, q_RL, tA, tR, tI, tL]; assumption)) only [Option.bind_some, q_b2, q_bxr, q_bxl, q_bx2r, q_bx2l, q_Ie, q_Le, q_In, q_Ln, q_IL, q_LI, tI, tL, q_nS, q_s2, q_s3, q_s4, q_m2, q_m3, q_m4, q_m24, q_p1, in_t (l := 1) (u := 10000) h1, in_t (l := 1) (u := 10000) h2, in_t (l := 4) (u := 120) h3, in_f (l := 4) (u := 120) h5, z10, if_false, if_true, rt1]
      · refine Q32_t (w := 1) (by omega) (by omega) (ht_trains1 (LyH_o hL) ?_) ?_ hp
        · unfold f_X11_trains
          simp (disch := first | assumption | omega | (simp only [q_AI, q_AL, q_RI, q_RL, tA, tR, tI, tL]; assumption)) only [Option.bind_some, q_b2, q_bxr, q_bxl, q_bx2r, q_bx2l, q_Ie, q_Le, q_In, q_Ln, q_IL, q_LI, tI, tL, q_nS, q_s2, q_s3, q_s4, q_m2, q_m3, q_m4, q_m24, q_p1, rg_t (l := 1) (u := 10000) h1, rg_t (l := 1) (u := 10000) h2, rg_f (l := 4) (u := 120) h3 hr]
        · show f_X12_trains P (x + 1497) a b c d (th σ) = _
          unfold f_X12_trains f_X12_trains_D63
          simp (disch := first | assumption | omega | (simp only [q_AI, q_AL, q_RI, q_RL, tA, tR, tI, tL]; assumption)) only [Option.bind_some, q_b2, q_bxr, q_bxl, q_bx2r, q_bx2l, q_Ie, q_Le, q_In, q_Ln, q_IL, q_LI, tI, tL, q_nS, q_s2, q_s3, q_s4, q_m2, q_m3, q_m4, q_m24, q_p1, in_t (l := 1) (u := 10000) h1, in_t (l := 1) (u := 10000) h2, in_f (l := 4) (u := 120) h3, z10, if_false, if_true, rt1]
    · refine Q32_t (w := 1) (by omega) (by omega) (ht_trains1 (LyH_o hL) ?_) ?_ hp
      · unfold f_X11_trains
        simp (disch := first | assumption | omega | (simp only [q_AI, q_AL, q_RI, q_RL, tA, tR, tI, tL]; assumption)) only [Option.bind_some, q_b2, q_bxr, q_bxl, q_bx2r, q_bx2l, q_Ie, q_Le, q_In, q_Ln, q_IL, q_LI, tI, tL, q_nS, q_s2, q_s3, q_s4, q_m2, q_m3, q_m4, q_m24, q_p1, rg_t (l := 1) (u := 10000) h1, rg_f (l := 1) (u := 10000) h2 hr]
      · show f_X12_trains P (x + 1497) a b c d (th σ) = _
        unfold f_X12_trains f_X12_trains_D63
        simp (disch := first | assumption | omega | (simp only [q_AI, q_AL, q_RI, q_RL, tA, tR, tI, tL]; assumption)) only [Option.bind_some, q_b2, q_bxr, q_bxl, q_bx2r, q_bx2l, q_Ie, q_Le, q_In, q_Ln, q_IL, q_LI, tI, tL, q_nS, q_s2, q_s3, q_s4, q_m2, q_m3, q_m4, q_m24, q_p1, in_t (l := 1) (u := 10000) h1, in_f (l := 1) (u := 10000) h2, z10, if_false, if_true, rt1]
  · refine Q32_t (w := 1) (by omega) (by omega) (ht_trains1 (LyH_o hL) ?_) ?_ hp
    · unfold f_X11_trains
      simp (disch := first | assumption | omega | (simp only [q_AI, q_AL, q_RI, q_RL, tA, tR, tI, tL]; assumption)) only [Option.bind_some, q_b2, q_bxr, q_bxl, q_bx2r, q_bx2l, q_Ie, q_Le, q_In, q_Ln, q_IL, q_LI, tI, tL, q_nS, q_s2, q_s3, q_s4, q_m2, q_m3, q_m4, q_m24, q_p1, rg_f (l := 1) (u := 10000) h1 hr]
    · show f_X12_trains P (x + 1497) a b c d (th σ) = _
      unfold f_X12_trains f_X12_trains_D63
      simp (disch := first | assumption | omega | (simp only [q_AI, q_AL, q_RI, q_RL, tA, tR, tI, tL]; assumption)) only [Option.bind_some, q_b2, q_bxr, q_bxl, q_bx2r, q_bx2l, q_Ie, q_Le, q_In, q_Ln, q_IL, q_LI, tI, tL, q_nS, q_s2, q_s3, q_s4, q_m2, q_m3, q_m4, q_m24, q_p1, in_f (l := 1) (u := 10000) h1, if_true, rt1]
theorem g_train (hS : St P σ x) (hT : RTr σ x T) (a b : Int32) : Q32 x σ (f_L_train P x a b (x + 1575) σ) (fun τ => f_X12_train P (x + 1497) a b τ) [] (fun _ => True) := by
  obtain ⟨hL, hb, hN, hr⟩ := hS
  have hm := LyH_m hL
  have hg := LyH_g hL
  have hbm : mpb P ≤ x + 1497 := by omega
  have hbg : mpb P ≤ x + 9 := by omega
  obtain ⟨⟨t1, t2⟩, ⟨u1, u2⟩⟩ := hT
  generalize hn : min T.length 300 = n at t1 u1
  have hn3 : n ≤ 300 := by omega
  have hsub : (q_n n - 1).toInt = (n : Int) - 1 := by
    rw [q_isub (by rw [q_nT (by omega), q_i1]; omega) (by rw [q_nT (by omega), q_i1]; omega), q_nT (by omega), q_i1]
  by_cases h1 : 0 ≤ b.toInt ∧ b.toInt ≤ 3
  · by_cases h2 : 0 ≤ a.toInt ∧ a.toInt < n
    · have h2' : (0 : Int64).toInt ≤ a.toInt ∧ a.toInt ≤ ((q_n n - 1).toInt64).toInt := by rw [Int32.toInt_toInt64, hsub, q_l0]; omega
      have eA := q_ofT (i := a) (by omega)
      have eB := q_ofT (i := b) (by omega)
      generalize hna : a.toInt.toNat = na at eA
      generalize hnb : b.toInt.toNat = nb at eB
      have la : na < T.length := by omega
      have ga := t2 na _ (by omega) (List.getElem?_eq_getElem la)
      have gb := u2 na _ (by omega) (List.getElem?_eq_getElem la)
      have hv : mxI σ (x + 9 + 7) (4 * na + nb) = mxI σ (x + 1497 + 48) (4 * na + nb) := by
        have : nb = 0 ∨ nb = 1 ∨ nb = 2 ∨ nb = 3 := by omega
        rcases this with rfl | rfl | rfl | rfl
        · exact ga.1.trans gb.1.symm
        · exact ga.2.1.trans gb.2.1.symm
        · exact ga.2.2.1.trans gb.2.2.1.symm
        · exact ga.2.2.2.trans gb.2.2.2.symm
      have hcl : f_X11_train P x a b σ = some (.inr (mxI σ (x + 9 + 7) (4 * na + nb), σ)) := by
        unfold f_X11_train
        simp (disch := first | assumption | omega | (simp only [q_AI, q_AL, q_RI, q_RL, tA, tR, tI, tL]; assumption)) only [Option.bind_some, q_b2, q_bxr, q_bxl, q_bx2r, q_bx2l, q_Ie, q_Le, q_In, q_Ln, q_IL, q_LI, tI, tL, q_nS, q_s2, q_s3, q_s4, q_m2, q_m3, q_m4, q_m24, q_p1, rg_t (l := 0) (u := 3) h1, ah_r1, ag_gI, t1, wi_t (wg (by omega) h2), np_1, ag_r9]
        rw [eA, eB]
        simp (disch := first | assumption | omega | (simp only [q_AI, q_AL, q_RI, q_RL, tA, tR, tI, tL]; assumption)) only [Option.bind_some, q_b2, q_bxr, q_bxl, q_bx2r, q_bx2l, q_Ie, q_Le, q_In, q_Ln, q_IL, q_LI, tI, tL, q_nS, q_s2, q_s3, q_s4, q_m2, q_m3, q_m4, q_m24, q_p1, q_nA, ag_g9]
      have hrf : ∀ τ, LyO (mxA τ) (mxR τ) 12 al12 (x + 1497) → mxI τ (x + 1497) 72 = q_n n → f_X12_train P (x + 1497) a b τ = some (mxI τ (x + 1497 + 48) (4 * na + nb), mx_setI τ (x + 1497) 0 0) := by
        intro τ k1 k2
        unfold f_X12_train
        simp (disch := first | assumption | omega | (simp only [q_AI, q_AL, q_RI, q_RL, tA, tR, tI, tL]; assumption)) only [Option.bind_some, q_b2, q_bxr, q_bxl, q_bx2r, q_bx2l, q_Ie, q_Le, q_In, q_Ln, q_IL, q_LI, tI, tL, q_nS, q_s2, q_s3, q_s4, q_m2, q_m3, q_m4, q_m24, q_p1, in_t (l := 0) (u := 3) h1, z10, if_false, am_gI, k2, in_t h2']
        rw [eA, eB]
        unfold f_X12_train_D38 f_X12_train_D62
        simp (disch := first | assumption | omega | (simp only [q_AI, q_AL, q_RI, q_RL, tA, tR, tI, tL]; assumption)) only [Option.bind_some, q_b2, q_bxr, q_bxl, q_bx2r, q_bx2l, q_Ie, q_Le, q_In, q_Ln, q_IL, q_LI, tI, tL, q_nS, q_s2, q_s3, q_s4, q_m2, q_m3, q_m4, q_m24, q_p1, am_pI, am_gI, z00, if_true, am_r73, q_nA, am_g73]
      refine ⟨_, _, _, _, hr_train (LyH_o hL) hcl (LyH_u hL) (by omega), hrf _ (by exact hm) (by simp (disch := first | assumption | omega | (simp only [q_AI, q_AL, q_RI, q_RL, tA, tR, tI, tL]; assumption)) only [Option.bind_some, q_b2, q_bxr, q_bxl, q_bx2r, q_bx2l, q_Ie, q_Le, q_In, q_Ln, q_IL, q_LI, tI, tL, q_nS, q_s2, q_s3, q_s4, q_m2, q_m3, q_m4, q_m24, q_p1, u1]), ?_, fun _ => ?_, rfl, ?_, trivial⟩
      · simp (disch := first | assumption | omega | (simp only [q_AI, q_AL, q_RI, q_RL, tA, tR, tI, tL]; assumption)) only [Option.bind_some, q_b2, q_bxr, q_bxl, q_bx2r, q_bx2l, q_Ie, q_Le, q_In, q_Ln, q_IL, q_LI, tI, tL, q_nS, q_s2, q_s3, q_s4, q_m2, q_m3, q_m4, q_m24, q_p1]
      · simp (disch := first | assumption | omega | (simp only [q_AI, q_AL, q_RI, q_RL, tA, tR, tI, tL]; assumption)) only [Option.bind_some, q_b2, q_bxr, q_bxl, q_bx2r, q_bx2l, q_Ie, q_Le, q_In, q_Ln, q_IL, q_LI, tI, tL, q_nS, q_s2, q_s3, q_s4, q_m2, q_m3, q_m4, q_m24, q_p1, hv]
      · exact Fr.sI (Fr.sL Fr.rf (Or.inr cp_o) _) (Or.inr cp_t) _
    · have h2' : ¬ ((0 : Int64).toInt ≤ a.toInt ∧ a.toInt ≤ ((q_n n - 1).toInt64).toInt) := by rw [Int32.toInt_toInt64, hsub, q_l0]; omega
      refine Q32_t (w := 2) (by omega) (by omega) (ht_train2 (LyH_o hL) ?_) ?_ trivial
      · unfold f_X11_train
        simp (disch := first | assumption | omega | (simp only [q_AI, q_AL, q_RI, q_RL, tA, tR, tI, tL]; assumption)) only [Option.bind_some, q_b2, q_bxr, q_bxl, q_bx2r, q_bx2l, q_Ie, q_Le, q_In, q_Ln, q_IL, q_LI, tI, tL, q_nS, q_s2, q_s3, q_s4, q_m2, q_m3, q_m4, q_m24, q_p1, rg_t (l := 0) (u := 3) h1, ah_r1, ag_gI, t1, wi_f (wg' (by omega) h2), np_0 hr]
      · show f_X12_train P (x + 1497) a b (th σ) = _
        have rt2 : f_X12_train_D38 P (x + 1497) a b 2 (x + 1497) (th σ) = some (0, thr x σ 2) := rt_train_D38 (w := 2) (σ := th σ) hm hbm (by omega) (by omega) a b
        unfold f_X12_train
        simp (disch := first | assumption | omega | (simp only [q_AI, q_AL, q_RI, q_RL, tA, tR, tI, tL]; assumption)) only [Option.bind_some, q_b2, q_bxr, q_bxl, q_bx2r, q_bx2l, q_Ie, q_Le, q_In, q_Ln, q_IL, q_LI, tI, tL, q_nS, q_s2, q_s3, q_s4, q_m2, q_m3, q_m4, q_m24, q_p1, in_t (l := 0) (u := 3) h1, z10, if_false, am_gI, u1, in_f h2', if_true, rt2]
  · refine Q32_t (w := 1) (by omega) (by omega) (ht_train1 (LyH_o hL) ?_) ?_ trivial
    · unfold f_X11_train
      simp (disch := first | assumption | omega | (simp only [q_AI, q_AL, q_RI, q_RL, tA, tR, tI, tL]; assumption)) only [Option.bind_some, q_b2, q_bxr, q_bxl, q_bx2r, q_bx2l, q_Ie, q_Le, q_In, q_Ln, q_IL, q_LI, tI, tL, q_nS, q_s2, q_s3, q_s4, q_m2, q_m3, q_m4, q_m24, q_p1, rg_f (l := 0) (u := 3) h1 hr]
    · show f_X12_train P (x + 1497) a b (th σ) = _
      have rt1 : f_X12_train_D38 P (x + 1497) a b 1 (x + 1497) (th σ) = some (0, thr x σ 1) := rt_train_D38 (w := 1) (σ := th σ) hm hbm (by omega) (by omega) a b
      unfold f_X12_train
      simp (disch := first | assumption | omega | (simp only [q_AI, q_AL, q_RI, q_RL, tA, tR, tI, tL]; assumption)) only [Option.bind_some, q_b2, q_bxr, q_bxl, q_bx2r, q_bx2l, q_Ie, q_Le, q_In, q_Ln, q_IL, q_LI, tI, tL, q_nS, q_s2, q_s3, q_s4, q_m2, q_m3, q_m4, q_m24, q_p1, in_f (l := 0) (u := 3) h1, if_true, rt1]
end TRN
