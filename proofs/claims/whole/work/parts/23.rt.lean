/-! ===== rt: the reference, when it says that it throws ===== -/
section RT
variable {P : mx_P} {σ : mx_S} {m w : Nat}
theorem w_0 (hw : 0 < w) (hw2 : w < 10) : ¬ q_n w ≤ (0 : Int32) := fun z => by rw [q_n0, q_nLe (by omega) (by omega)] at z; omega
theorem w_1 (hw : 0 < w) (hw2 : w < 10) : ¬ q_n w = (0 : Int32) := fun z => by rw [q_n0, q_nI (by omega) (by omega)] at z; omega
theorem rt_feed_D19 (h : LyO (mxA σ) (mxR σ) 12 al12 m) (hb : mpb P ≤ m) (hw : 0 < w) (hw2 : w < 10) (v1 : Int32) (v2 : Int32) (v3 : Int32) (v4 : Int32) (v5 : Int32) : f_X12_feed_D19 P m v1 v2 v3 v4 v5 (q_n w) m σ = some ((0, mx_setI σ m 0 (q_n w))) := by
  have h1 := w_0 hw hw2
  have h2 := w_1 hw hw2
  unfold f_X12_feed_D19
  simp (disch := first | assumption | omega | (simp only [q_AI, q_AL, q_RI, q_RL, tA, tR, tI, tL]; assumption)) only [Option.bind_some, q_b2, q_bxr, q_bxl, q_bx2r, q_bx2l, q_Ie, q_Le, q_In, q_Ln, q_IL, q_LI, tI, tL, q_nS, q_s2, q_s3, q_s4, q_m2, q_m3, q_m4, q_m24, q_p1, am_pI, am_gI, h1, h2, if_false]
theorem rt_end_D20 (h : LyO (mxA σ) (mxR σ) 12 al12 m) (hb : mpb P ≤ m) (hw : 0 < w) (hw2 : w < 10) (v1 : Int32) : f_X12_end_D20 P m v1 (q_n w) m σ = some ((0, mx_setI σ m 0 (q_n w))) := by
  have h1 := w_0 hw hw2
  have h2 := w_1 hw hw2
  unfold f_X12_end_D20
  simp (disch := first | assumption | omega | (simp only [q_AI, q_AL, q_RI, q_RL, tA, tR, tI, tL]; assumption)) only [Option.bind_some, q_b2, q_bxr, q_bxl, q_bx2r, q_bx2l, q_Ie, q_Le, q_In, q_Ln, q_IL, q_LI, tI, tL, q_nS, q_s2, q_s3, q_s4, q_m2, q_m3, q_m4, q_m24, q_p1, am_pI, am_gI, h1, h2, if_false]
theorem rt_input_D30 (h : LyO (mxA σ) (mxR σ) 12 al12 m) (hb : mpb P ≤ m) (hw : 0 < w) (hw2 : w < 10) (v1 : Int32) (v2 : Int32) : f_X12_input_D30 P m v1 v2 (q_n w) m σ = some (mx_setI σ m 0 (q_n w)) := by
  have h1 := w_0 hw hw2
  have h2 := w_1 hw hw2
  unfold f_X12_input_D30 f_X12_input_D47
  simp (disch := first | assumption | omega | (simp only [q_AI, q_AL, q_RI, q_RL, tA, tR, tI, tL]; assumption)) only [Option.bind_some, q_b2, q_bxr, q_bxl, q_bx2r, q_bx2l, q_Ie, q_Le, q_In, q_Ln, q_IL, q_LI, tI, tL, q_nS, q_s2, q_s3, q_s4, q_m2, q_m3, q_m4, q_m24, q_p1, am_pI, am_gI, h1, h2, if_false]
theorem rt_way_D16 (h : LyO (mxA σ) (mxR σ) 12 al12 m) (hb : mpb P ≤ m) (hw : 0 < w) (hw2 : w < 10) (v1 : Int32) (v2 : Int32) : f_X12_way_D16 P m v1 v2 (q_n w) m σ = some ((0, mx_setI σ m 0 (q_n w))) := by
  have h1 := w_0 hw hw2
  have h2 := w_1 hw hw2
  unfold f_X12_way_D16
  simp (disch := first | assumption | omega | (simp only [q_AI, q_AL, q_RI, q_RL, tA, tR, tI, tL]; assumption)) only [Option.bind_some, q_b2, q_bxr, q_bxl, q_bx2r, q_bx2l, q_Ie, q_Le, q_In, q_Ln, q_IL, q_LI, tI, tL, q_nS, q_s2, q_s3, q_s4, q_m2, q_m3, q_m4, q_m24, q_p1, am_pI, am_gI, h1, h2, if_false]
theorem rt_at_D79 (h : LyO (mxA σ) (mxR σ) 12 al12 m) (hb : mpb P ≤ m) (hw : 0 < w) (hw2 : w < 10) (v2 : Int32) (v3 : Int32) (v4 : Int32) : f_X12_at_D79 P m v2 v3 v4 (q_n w) m σ = some ((0, mx_setI σ m 0 (q_n w))) := by
  have h1 := w_0 hw hw2
  have h2 := w_1 hw hw2
  unfold f_X12_at_D79 f_X12_at_D104
  simp (disch := first | assumption | omega | (simp only [q_AI, q_AL, q_RI, q_RL, tA, tR, tI, tL]; assumption)) only [Option.bind_some, q_b2, q_bxr, q_bxl, q_bx2r, q_bx2l, q_Ie, q_Le, q_In, q_Ln, q_IL, q_LI, tI, tL, q_nS, q_s2, q_s3, q_s4, q_m2, q_m3, q_m4, q_m24, q_p1, am_pI, am_gI, h1, h2, if_false]
theorem rt_step_D42 (h : LyO (mxA σ) (mxR σ) 12 al12 m) (hb : mpb P ≤ m) (hw : 0 < w) (hw2 : w < 10) (v1 : Int32) (v2 : Int32) (v3 : Int32) : f_X12_step_D42 P m v1 v2 v3 (q_n w) m σ = some ((0, mx_setI σ m 0 (q_n w))) := by
  have h1 := w_0 hw hw2
  have h2 := w_1 hw hw2
  unfold f_X12_step_D42
  simp (disch := first | assumption | omega | (simp only [q_AI, q_AL, q_RI, q_RL, tA, tR, tI, tL]; assumption)) only [Option.bind_some, q_b2, q_bxr, q_bxl, q_bx2r, q_bx2l, q_Ie, q_Le, q_In, q_Ln, q_IL, q_LI, tI, tL, q_nS, q_s2, q_s3, q_s4, q_m2, q_m3, q_m4, q_m24, q_p1, am_pI, am_gI, h1, h2, if_false]
theorem rt_range_D27 (h : LyO (mxA σ) (mxR σ) 12 al12 m) (hb : mpb P ≤ m) (hw : 0 < w) (hw2 : w < 10) (v1 : Int32) (v2 : Int32) (v3 : Int32) : f_X12_range_D27 P m v1 v2 v3 (q_n w) m σ = some ((0, mx_setI σ m 0 (q_n w))) := by
  have h1 := w_0 hw hw2
  have h2 := w_1 hw hw2
  unfold f_X12_range_D27
  simp (disch := first | assumption | omega | (simp only [q_AI, q_AL, q_RI, q_RL, tA, tR, tI, tL]; assumption)) only [Option.bind_some, q_b2, q_bxr, q_bxl, q_bx2r, q_bx2l, q_Ie, q_Le, q_In, q_Ln, q_IL, q_LI, tI, tL, q_nS, q_s2, q_s3, q_s4, q_m2, q_m3, q_m4, q_m24, q_p1, am_pI, am_gI, h1, h2, if_false]
theorem rt_spread_D49 (h : LyO (mxA σ) (mxR σ) 12 al12 m) (hb : mpb P ≤ m) (hw : 0 < w) (hw2 : w < 10) (v1 : Int32) (v2 : Int32) (v3 : Int32) (v4 : Int32) (v5 : Int32) : f_X12_spread_D49 P m v1 v2 v3 v4 v5 (q_n w) m σ = some ((0, mx_setI σ m 0 (q_n w))) := by
  have h1 := w_0 hw hw2
  have h2 := w_1 hw hw2
  unfold f_X12_spread_D49
  simp (disch := first | assumption | omega | (simp only [q_AI, q_AL, q_RI, q_RL, tA, tR, tI, tL]; assumption)) only [Option.bind_some, q_b2, q_bxr, q_bxl, q_bx2r, q_bx2l, q_Ie, q_Le, q_In, q_Ln, q_IL, q_LI, tI, tL, q_nS, q_s2, q_s3, q_s4, q_m2, q_m3, q_m4, q_m24, q_p1, am_pI, am_gI, h1, h2, if_false]
theorem rt_least_D47 (h : LyO (mxA σ) (mxR σ) 12 al12 m) (hb : mpb P ≤ m) (hw : 0 < w) (hw2 : w < 10) (v1 : Int32) (v2 : Int32) (v3 : Int32) (v4 : Int32) (v5 : Int32) : f_X12_least_D47 P m v1 v2 v3 v4 v5 (q_n w) m σ = some ((0, mx_setI σ m 0 (q_n w))) := by
  have h1 := w_0 hw hw2
  have h2 := w_1 hw hw2
  unfold f_X12_least_D47
  simp (disch := first | assumption | omega | (simp only [q_AI, q_AL, q_RI, q_RL, tA, tR, tI, tL]; assumption)) only [Option.bind_some, q_b2, q_bxr, q_bxl, q_bx2r, q_bx2l, q_Ie, q_Le, q_In, q_Ln, q_IL, q_LI, tI, tL, q_nS, q_s2, q_s3, q_s4, q_m2, q_m3, q_m4, q_m24, q_p1, am_pI, am_gI, h1, h2, if_false]
theorem rt_speed_D96 (h : LyO (mxA σ) (mxR σ) 12 al12 m) (hb : mpb P ≤ m) (hw : 0 < w) (hw2 : w < 10) (v3 : Int32) (v4 : Int32) (v5 : Int32) : f_X12_speed_D96 P m v3 v4 v5 (q_n w) m σ = some ((0, mx_setI σ m 0 (q_n w))) := by
  have h1 := w_0 hw hw2
  have h2 := w_1 hw hw2
  unfold f_X12_speed_D96 f_X12_speed_D125
  simp (disch := first | assumption | omega | (simp only [q_AI, q_AL, q_RI, q_RL, tA, tR, tI, tL]; assumption)) only [Option.bind_some, q_b2, q_bxr, q_bxl, q_bx2r, q_bx2l, q_Ie, q_Le, q_In, q_Ln, q_IL, q_LI, tI, tL, q_nS, q_s2, q_s3, q_s4, q_m2, q_m3, q_m4, q_m24, q_p1, am_pI, am_gI, h1, h2, if_false]
theorem rt_speed_D49 (h : LyO (mxA σ) (mxR σ) 12 al12 m) (hb : mpb P ≤ m) (hw : 0 < w) (hw2 : w < 10) (v1 : Int32) (v2 : Int32) (v3 : Int32) (v4 : Int32) (v5 : Int32) : f_X12_speed_D49 P m v1 v2 v3 v4 v5 (q_n w) m σ = some ((0, mx_setI σ m 0 (q_n w))) := by
  have h1 := w_0 hw hw2
  have h2 := w_1 hw hw2
  unfold f_X12_speed_D49
  simp (disch := first | assumption | omega | (simp only [q_AI, q_AL, q_RI, q_RL, tA, tR, tI, tL]; assumption)) only [Option.bind_some, q_b2, q_bxr, q_bxl, q_bx2r, q_bx2l, q_Ie, q_Le, q_In, q_Ln, q_IL, q_LI, tI, tL, q_nS, q_s2, q_s3, q_s4, q_m2, q_m3, q_m4, q_m24, q_p1, am_pI, am_gI, h1, h2, if_false]
theorem rt_pole_D179 (h : LyO (mxA σ) (mxR σ) 12 al12 m) (hb : mpb P ≤ m) (hw : 0 < w) (hw2 : w < 10) (v5 : Int32) (v6 : Int32) : f_X12_pole_D179 P m v5 v6 (q_n w) m σ = some ((0, mx_setI σ m 0 (q_n w))) := by
  have h1 := w_0 hw hw2
  have h2 := w_1 hw hw2
  unfold f_X12_pole_D179 f_X12_pole_D205
  simp (disch := first | assumption | omega | (simp only [q_AI, q_AL, q_RI, q_RL, tA, tR, tI, tL]; assumption)) only [Option.bind_some, q_b2, q_bxr, q_bxl, q_bx2r, q_bx2l, q_Ie, q_Le, q_In, q_Ln, q_IL, q_LI, tI, tL, q_nS, q_s2, q_s3, q_s4, q_m2, q_m3, q_m4, q_m24, q_p1, am_pI, am_gI, h1, h2, if_false]
theorem rt_pole_D58 (h : LyO (mxA σ) (mxR σ) 12 al12 m) (hb : mpb P ≤ m) (hw : 0 < w) (hw2 : w < 10) (v1 : Int32) (v2 : Int32) (v3 : Int32) (v4 : Int32) (v5 : Int32) (v6 : Int32) : f_X12_pole_D58 P m v1 v2 v3 v4 v5 v6 (q_n w) m σ = some ((0, mx_setI σ m 0 (q_n w))) := by
  have h1 := w_0 hw hw2
  have h2 := w_1 hw hw2
  unfold f_X12_pole_D58
  simp (disch := first | assumption | omega | (simp only [q_AI, q_AL, q_RI, q_RL, tA, tR, tI, tL]; assumption)) only [Option.bind_some, q_b2, q_bxr, q_bxl, q_bx2r, q_bx2l, q_Ie, q_Le, q_In, q_Ln, q_IL, q_LI, tI, tL, q_nS, q_s2, q_s3, q_s4, q_m2, q_m3, q_m4, q_m24, q_p1, am_pI, am_gI, h1, h2, if_false]
theorem rt_load_D46 (h : LyO (mxA σ) (mxR σ) 12 al12 m) (hb : mpb P ≤ m) (hw : 0 < w) (hw2 : w < 10) (v1 : Int32) (v2 : Int32) (v3 : Int32) : f_X12_load_D46 P m v1 v2 v3 (q_n w) m σ = some (mx_setI σ m 0 (q_n w)) := by
  have h1 := w_0 hw hw2
  have h2 := w_1 hw hw2
  unfold f_X12_load_D46
  simp (disch := first | assumption | omega | (simp only [q_AI, q_AL, q_RI, q_RL, tA, tR, tI, tL]; assumption)) only [Option.bind_some, q_b2, q_bxr, q_bxl, q_bx2r, q_bx2l, q_Ie, q_Le, q_In, q_Ln, q_IL, q_LI, tI, tL, q_nS, q_s2, q_s3, q_s4, q_m2, q_m3, q_m4, q_m24, q_p1, am_pI, am_gI, h1, h2, if_false]
theorem rt_mass_D30 (h : LyO (mxA σ) (mxR σ) 12 al12 m) (hb : mpb P ≤ m) (hw : 0 < w) (hw2 : w < 10) (v1 : Int32) (v2 : Int32) : f_X12_mass_D30 P m v1 v2 (q_n w) m σ = some (mx_setI σ m 0 (q_n w)) := by
  have h1 := w_0 hw hw2
  have h2 := w_1 hw hw2
  unfold f_X12_mass_D30 f_X12_mass_D47
  simp (disch := first | assumption | omega | (simp only [q_AI, q_AL, q_RI, q_RL, tA, tR, tI, tL]; assumption)) only [Option.bind_some, q_b2, q_bxr, q_bxl, q_bx2r, q_bx2l, q_Ie, q_Le, q_In, q_Ln, q_IL, q_LI, tI, tL, q_nS, q_s2, q_s3, q_s4, q_m2, q_m3, q_m4, q_m24, q_p1, am_pI, am_gI, h1, h2, if_false]
theorem rt_moment_D205 (h : LyO (mxA σ) (mxR σ) 12 al12 m) (hb : mpb P ≤ m) (hw : 0 < w) (hw2 : w < 10) (v3 : Int32) : f_X12_moment_D205 P m v3 (q_n w) m σ = some ((0, mx_setI σ m 0 (q_n w))) := by
  have h1 := w_0 hw hw2
  have h2 := w_1 hw hw2
  unfold f_X12_moment_D205 f_X12_moment_D227
  simp (disch := first | assumption | omega | (simp only [q_AI, q_AL, q_RI, q_RL, tA, tR, tI, tL]; assumption)) only [Option.bind_some, q_b2, q_bxr, q_bxl, q_bx2r, q_bx2l, q_Ie, q_Le, q_In, q_Ln, q_IL, q_LI, tI, tL, q_nS, q_s2, q_s3, q_s4, q_m2, q_m3, q_m4, q_m24, q_p1, am_pI, am_gI, h1, h2, if_false]
theorem rt_moment_D38 (h : LyO (mxA σ) (mxR σ) 12 al12 m) (hb : mpb P ≤ m) (hw : 0 < w) (hw2 : w < 10) (v2 : Int32) (v3 : Int32) : f_X12_moment_D38 P m v2 v3 (q_n w) m σ = some ((0, mx_setI σ m 0 (q_n w))) := by
  have h1 := w_0 hw hw2
  have h2 := w_1 hw hw2
  unfold f_X12_moment_D38
  simp (disch := first | assumption | omega | (simp only [q_AI, q_AL, q_RI, q_RL, tA, tR, tI, tL]; assumption)) only [Option.bind_some, q_b2, q_bxr, q_bxl, q_bx2r, q_bx2l, q_Ie, q_Le, q_In, q_Ln, q_IL, q_LI, tI, tL, q_nS, q_s2, q_s3, q_s4, q_m2, q_m3, q_m4, q_m24, q_p1, am_pI, am_gI, h1, h2, if_false]
theorem rt_middle_D210 (h : LyO (mxA σ) (mxR σ) 12 al12 m) (hb : mpb P ≤ m) (hw : 0 < w) (hw2 : w < 10) (v3 : Int32) (v4 : Int64) : f_X12_middle_D210 P m v3 v4 (q_n w) m σ = some ((0, mx_setI σ m 0 (q_n w))) := by
  have h1 := w_0 hw hw2
  have h2 := w_1 hw hw2
  unfold f_X12_middle_D210
  simp (disch := first | assumption | omega | (simp only [q_AI, q_AL, q_RI, q_RL, tA, tR, tI, tL]; assumption)) only [Option.bind_some, q_b2, q_bxr, q_bxl, q_bx2r, q_bx2l, q_Ie, q_Le, q_In, q_Ln, q_IL, q_LI, tI, tL, q_nS, q_s2, q_s3, q_s4, q_m2, q_m3, q_m4, q_m24, q_p1, am_pI, am_gI, h1, h2, if_false]
theorem rt_middle_D38 (h : LyO (mxA σ) (mxR σ) 12 al12 m) (hb : mpb P ≤ m) (hw : 0 < w) (hw2 : w < 10) (v1 : Int32) (v2 : Int32) (v3 : Int32) : f_X12_middle_D38 P m v1 v2 v3 (q_n w) m σ = some ((0, mx_setI σ m 0 (q_n w))) := by
  have h1 := w_0 hw hw2
  have h2 := w_1 hw hw2
  unfold f_X12_middle_D38
  simp (disch := first | assumption | omega | (simp only [q_AI, q_AL, q_RI, q_RL, tA, tR, tI, tL]; assumption)) only [Option.bind_some, q_b2, q_bxr, q_bxl, q_bx2r, q_bx2l, q_Ie, q_Le, q_In, q_Ln, q_IL, q_LI, tI, tL, q_nS, q_s2, q_s3, q_s4, q_m2, q_m3, q_m4, q_m24, q_p1, am_pI, am_gI, h1, h2, if_false]
theorem rt_gear_D45 (h : LyO (mxA σ) (mxR σ) 12 al12 m) (hb : mpb P ≤ m) (hw : 0 < w) (hw2 : w < 10) (v1 : Int32) (v2 : Int32) : f_X12_gear_D45 P m v1 v2 (q_n w) m σ = some ((0, mx_setI σ m 0 (q_n w))) := by
  have h1 := w_0 hw hw2
  have h2 := w_1 hw hw2
  unfold f_X12_gear_D45
  simp (disch := first | assumption | omega | (simp only [q_AI, q_AL, q_RI, q_RL, tA, tR, tI, tL]; assumption)) only [Option.bind_some, q_b2, q_bxr, q_bxl, q_bx2r, q_bx2l, q_Ie, q_Le, q_In, q_Ln, q_IL, q_LI, tI, tL, q_nS, q_s2, q_s3, q_s4, q_m2, q_m3, q_m4, q_m24, q_p1, am_pI, am_gI, h1, h2, if_false]
theorem rt_mesh_D85 (h : LyO (mxA σ) (mxR σ) 12 al12 m) (hb : mpb P ≤ m) (hw : 0 < w) (hw2 : w < 10) (v1 : Int32) (v2 : Int32) (v3 : Int32) (v4 : Int32) : f_X12_mesh_D85 P m v1 v2 v3 v4 (q_n w) m σ = some ((0, mx_setI σ m 0 (q_n w))) := by
  have h1 := w_0 hw hw2
  have h2 := w_1 hw hw2
  unfold f_X12_mesh_D85
  simp (disch := first | assumption | omega | (simp only [q_AI, q_AL, q_RI, q_RL, tA, tR, tI, tL]; assumption)) only [Option.bind_some, q_b2, q_bxr, q_bxl, q_bx2r, q_bx2l, q_Ie, q_Le, q_In, q_Ln, q_IL, q_LI, tI, tL, q_nS, q_s2, q_s3, q_s4, q_m2, q_m3, q_m4, q_m24, q_p1, am_pI, am_gI, h1, h2, if_false]
theorem rt_shaft_D74 (h : LyO (mxA σ) (mxR σ) 12 al12 m) (hb : mpb P ≤ m) (hw : 0 < w) (hw2 : w < 10) (v1 : Int32) (v2 : Int32) (v3 : Int32) (v4 : Int32) : f_X12_shaft_D74 P m v1 v2 v3 v4 (q_n w) m σ = some (mx_setI σ m 0 (q_n w)) := by
  have h1 := w_0 hw hw2
  have h2 := w_1 hw hw2
  unfold f_X12_shaft_D74
  simp (disch := first | assumption | omega | (simp only [q_AI, q_AL, q_RI, q_RL, tA, tR, tI, tL]; assumption)) only [Option.bind_some, q_b2, q_bxr, q_bxl, q_bx2r, q_bx2l, q_Ie, q_Le, q_In, q_Ln, q_IL, q_LI, tI, tL, q_nS, q_s2, q_s3, q_s4, q_m2, q_m3, q_m4, q_m24, q_p1, am_pI, am_gI, h1, h2, if_false]
theorem rt_turns_D126 (h : LyO (mxA σ) (mxR σ) 12 al12 m) (hb : mpb P ≤ m) (hw : 0 < w) (hw2 : w < 10) (v2 : Int32) (v3 : Int32) : f_X12_turns_D126 P m v2 v3 (q_n w) m σ = some ((0, mx_setI σ m 0 (q_n w))) := by
  have h1 := w_0 hw hw2
  have h2 := w_1 hw hw2
  unfold f_X12_turns_D126 f_X12_turns_D171
  simp (disch := first | assumption | omega | (simp only [q_AI, q_AL, q_RI, q_RL, tA, tR, tI, tL]; assumption)) only [Option.bind_some, q_b2, q_bxr, q_bxl, q_bx2r, q_bx2l, q_Ie, q_Le, q_In, q_Ln, q_IL, q_LI, tI, tL, q_nS, q_s2, q_s3, q_s4, q_m2, q_m3, q_m4, q_m24, q_p1, am_pI, am_gI, h1, h2, if_false]
theorem rt_turns_D28 (h : LyO (mxA σ) (mxR σ) 12 al12 m) (hb : mpb P ≤ m) (hw : 0 < w) (hw2 : w < 10) (v1 : Int32) (v2 : Int32) : f_X12_turns_D28 P m v1 v2 (q_n w) m σ = some ((0, mx_setI σ m 0 (q_n w))) := by
  have h1 := w_0 hw hw2
  have h2 := w_1 hw hw2
  unfold f_X12_turns_D28
  simp (disch := first | assumption | omega | (simp only [q_AI, q_AL, q_RI, q_RL, tA, tR, tI, tL]; assumption)) only [Option.bind_some, q_b2, q_bxr, q_bxl, q_bx2r, q_bx2l, q_Ie, q_Le, q_In, q_Ln, q_IL, q_LI, tI, tL, q_nS, q_s2, q_s3, q_s4, q_m2, q_m3, q_m4, q_m24, q_p1, am_pI, am_gI, h1, h2, if_false]
theorem rt_interference_D22 (h : LyO (mxA σ) (mxR σ) 12 al12 m) (hb : mpb P ≤ m) (hw : 0 < w) (hw2 : w < 10) (v1 : Int32) (v2 : Int32) (v3 : Int32) : f_X12_interference_D22 P m v1 v2 v3 (q_n w) m σ = some ((0, mx_setI σ m 0 (q_n w))) := by
  have h1 := w_0 hw hw2
  have h2 := w_1 hw hw2
  unfold f_X12_interference_D22
  simp (disch := first | assumption | omega | (simp only [q_AI, q_AL, q_RI, q_RL, tA, tR, tI, tL]; assumption)) only [Option.bind_some, q_b2, q_bxr, q_bxl, q_bx2r, q_bx2l, q_Ie, q_Le, q_In, q_Ln, q_IL, q_LI, tI, tL, q_nS, q_s2, q_s3, q_s4, q_m2, q_m3, q_m4, q_m24, q_p1, am_pI, am_gI, h1, h2, if_false]
theorem rt_trains_D77 (h : LyO (mxA σ) (mxR σ) 12 al12 m) (hb : mpb P ≤ m) (hw : 0 < w) (hw2 : w < 10) (v1 : Int32) (v2 : Int32) (v3 : Int32) (v4 : Int32) : f_X12_trains_D77 P m v1 v2 v3 v4 (q_n w) m σ = some ((0, mx_setI σ m 0 (q_n w))) := by
  have h1 := w_0 hw hw2
  have h2 := w_1 hw hw2
  unfold f_X12_trains_D77
  simp (disch := first | assumption | omega | (simp only [q_AI, q_AL, q_RI, q_RL, tA, tR, tI, tL]; assumption)) only [Option.bind_some, q_b2, q_bxr, q_bxl, q_bx2r, q_bx2l, q_Ie, q_Le, q_In, q_Ln, q_IL, q_LI, tI, tL, q_nS, q_s2, q_s3, q_s4, q_m2, q_m3, q_m4, q_m24, q_p1, am_pI, am_gI, h1, h2, if_false]
theorem rt_train_D38 (h : LyO (mxA σ) (mxR σ) 12 al12 m) (hb : mpb P ≤ m) (hw : 0 < w) (hw2 : w < 10) (v1 : Int32) (v2 : Int32) : f_X12_train_D38 P m v1 v2 (q_n w) m σ = some ((0, mx_setI σ m 0 (q_n w))) := by
  have h1 := w_0 hw hw2
  have h2 := w_1 hw hw2
  unfold f_X12_train_D38 f_X12_train_D62
  simp (disch := first | assumption | omega | (simp only [q_AI, q_AL, q_RI, q_RL, tA, tR, tI, tL]; assumption)) only [Option.bind_some, q_b2, q_bxr, q_bxl, q_bx2r, q_bx2l, q_Ie, q_Le, q_In, q_Ln, q_IL, q_LI, tI, tL, q_nS, q_s2, q_s3, q_s4, q_m2, q_m3, q_m4, q_m24, q_p1, am_pI, am_gI, h1, h2, if_false]
theorem rt_lift_D354 (h : LyO (mxA σ) (mxR σ) 12 al12 m) (hb : mpb P ≤ m) (hw : 0 < w) (hw2 : w < 10) (v3 : Int32) : f_X12_lift_D354 P m v3 (q_n w) m σ = some ((0, mx_setI σ m 0 (q_n w))) := by
  have h1 := w_0 hw hw2
  have h2 := w_1 hw hw2
  unfold f_X12_lift_D354 f_X12_lift_D383
  simp (disch := first | assumption | omega | (simp only [q_AI, q_AL, q_RI, q_RL, tA, tR, tI, tL]; assumption)) only [Option.bind_some, q_b2, q_bxr, q_bxl, q_bx2r, q_bx2l, q_Ie, q_Le, q_In, q_Ln, q_IL, q_LI, tI, tL, q_nS, q_s2, q_s3, q_s4, q_m2, q_m3, q_m4, q_m24, q_p1, am_pI, am_gI, h1, h2, if_false]
theorem rt_lift_D67 (h : LyO (mxA σ) (mxR σ) 12 al12 m) (hb : mpb P ≤ m) (hw : 0 < w) (hw2 : w < 10) (v1 : Int32) (v2 : Int32) (v3 : Int32) : f_X12_lift_D67 P m v1 v2 v3 (q_n w) m σ = some ((0, mx_setI σ m 0 (q_n w))) := by
  have h1 := w_0 hw hw2
  have h2 := w_1 hw hw2
  unfold f_X12_lift_D67
  simp (disch := first | assumption | omega | (simp only [q_AI, q_AL, q_RI, q_RL, tA, tR, tI, tL]; assumption)) only [Option.bind_some, q_b2, q_bxr, q_bxl, q_bx2r, q_bx2l, q_Ie, q_Le, q_In, q_Ln, q_IL, q_LI, tI, tL, q_nS, q_s2, q_s3, q_s4, q_m2, q_m3, q_m4, q_m24, q_p1, am_pI, am_gI, h1, h2, if_false]
theorem rt_camAbout_D29 (h : LyO (mxA σ) (mxR σ) 12 al12 m) (hb : mpb P ≤ m) (hw : 0 < w) (hw2 : w < 10) (v1 : Int32) : f_X12_camAbout_D29 P m v1 (q_n w) m σ = some ((0, mx_setI σ m 0 (q_n w))) := by
  have h1 := w_0 hw hw2
  have h2 := w_1 hw hw2
  unfold f_X12_camAbout_D29
  simp (disch := first | assumption | omega | (simp only [q_AI, q_AL, q_RI, q_RL, tA, tR, tI, tL]; assumption)) only [Option.bind_some, q_b2, q_bxr, q_bxl, q_bx2r, q_bx2l, q_Ie, q_Le, q_In, q_Ln, q_IL, q_LI, tI, tL, q_nS, q_s2, q_s3, q_s4, q_m2, q_m3, q_m4, q_m24, q_p1, am_pI, am_gI, h1, h2, if_false]
theorem rt_corner_D73 (h : LyO (mxA σ) (mxR σ) 12 al12 m) (hb : mpb P ≤ m) (hw : 0 < w) (hw2 : w < 10) (v1 : Int32) (v2 : Int32) (v3 : Int32) : f_X12_corner_D73 P m v1 v2 v3 (q_n w) m σ = some ((0, mx_setI σ m 0 (q_n w))) := by
  have h1 := w_0 hw hw2
  have h2 := w_1 hw hw2
  unfold f_X12_corner_D73
  simp (disch := first | assumption | omega | (simp only [q_AI, q_AL, q_RI, q_RL, tA, tR, tI, tL]; assumption)) only [Option.bind_some, q_b2, q_bxr, q_bxl, q_bx2r, q_bx2l, q_Ie, q_Le, q_In, q_Ln, q_IL, q_LI, tI, tL, q_nS, q_s2, q_s3, q_s4, q_m2, q_m3, q_m4, q_m24, q_p1, am_pI, am_gI, h1, h2, if_false]
theorem rt_empty_D18 (h : LyO (mxA σ) (mxR σ) 12 al12 m) (hb : mpb P ≤ m) (hw : 0 < w) (hw2 : w < 10) (v1 : Int32) : f_X12_empty_D18 P m v1 (q_n w) m σ = some (mx_setI σ m 0 (q_n w)) := by
  have h1 := w_0 hw hw2
  have h2 := w_1 hw hw2
  unfold f_X12_empty_D18 f_X12_empty_D35
  simp (disch := first | assumption | omega | (simp only [q_AI, q_AL, q_RI, q_RL, tA, tR, tI, tL]; assumption)) only [Option.bind_some, q_b2, q_bxr, q_bxl, q_bx2r, q_bx2l, q_Ie, q_Le, q_In, q_Ln, q_IL, q_LI, tI, tL, q_nS, q_s2, q_s3, q_s4, q_m2, q_m3, q_m4, q_m24, q_p1, am_pI, am_gI, h1, h2, if_false]
theorem rt_plate_D74 (h : LyO (mxA σ) (mxR σ) 12 al12 m) (hb : mpb P ≤ m) (hw : 0 < w) (hw2 : w < 10) (v1 : Int32) (v2 : Int32) : f_X12_plate_D74 P m v1 v2 (q_n w) m σ = some ((0, mx_setI σ m 0 (q_n w))) := by
  have h1 := w_0 hw hw2
  have h2 := w_1 hw hw2
  unfold f_X12_plate_D74
  simp (disch := first | assumption | omega | (simp only [q_AI, q_AL, q_RI, q_RL, tA, tR, tI, tL]; assumption)) only [Option.bind_some, q_b2, q_bxr, q_bxl, q_bx2r, q_bx2l, q_Ie, q_Le, q_In, q_Ln, q_IL, q_LI, tI, tL, q_nS, q_s2, q_s3, q_s4, q_m2, q_m3, q_m4, q_m24, q_p1, am_pI, am_gI, h1, h2, if_false]
theorem rt_inside_D72 (h : LyO (mxA σ) (mxR σ) 12 al12 m) (hb : mpb P ≤ m) (hw : 0 < w) (hw2 : w < 10) (v1 : Int32) (v2 : Int32) (v3 : Int32) : f_X12_inside_D72 P m v1 v2 v3 (q_n w) m σ = some ((0, mx_setI σ m 0 (q_n w))) := by
  have h1 := w_0 hw hw2
  have h2 := w_1 hw hw2
  unfold f_X12_inside_D72 f_X12_inside_D95
  simp (disch := first | assumption | omega | (simp only [q_AI, q_AL, q_RI, q_RL, tA, tR, tI, tL]; assumption)) only [Option.bind_some, q_b2, q_bxr, q_bxl, q_bx2r, q_bx2l, q_Ie, q_Le, q_In, q_Ln, q_IL, q_LI, tI, tL, q_nS, q_s2, q_s3, q_s4, q_m2, q_m3, q_m4, q_m24, q_p1, am_pI, am_gI, h1, h2, if_false]
theorem rt_distance_D76 (h : LyO (mxA σ) (mxR σ) 12 al12 m) (hb : mpb P ≤ m) (hw : 0 < w) (hw2 : w < 10) (v1 : Int32) (v2 : Int32) (v3 : Int32) : f_X12_distance_D76 P m v1 v2 v3 (q_n w) m σ = some ((0, mx_setI σ m 0 (q_n w))) := by
  have h1 := w_0 hw hw2
  have h2 := w_1 hw hw2
  unfold f_X12_distance_D76
  simp (disch := first | assumption | omega | (simp only [q_AI, q_AL, q_RI, q_RL, tA, tR, tI, tL]; assumption)) only [Option.bind_some, q_b2, q_bxr, q_bxl, q_bx2r, q_bx2l, q_Ie, q_Le, q_In, q_Ln, q_IL, q_LI, tI, tL, q_nS, q_s2, q_s3, q_s4, q_m2, q_m3, q_m4, q_m24, q_p1, am_pI, am_gI, h1, h2, if_false]
theorem rt_kinds_D32 (h : LyO (mxA σ) (mxR σ) 12 al12 m) (hb : mpb P ≤ m) (hw : 0 < w) (hw2 : w < 10) (v1 : Int32) (v2 : Int32) : f_X12_kinds_D32 P m v1 v2 (q_n w) m σ = some ((0, mx_setI σ m 0 (q_n w))) := by
  have h1 := w_0 hw hw2
  have h2 := w_1 hw hw2
  unfold f_X12_kinds_D32
  simp (disch := first | assumption | omega | (simp only [q_AI, q_AL, q_RI, q_RL, tA, tR, tI, tL]; assumption)) only [Option.bind_some, q_b2, q_bxr, q_bxl, q_bx2r, q_bx2l, q_Ie, q_Le, q_In, q_Ln, q_IL, q_LI, tI, tL, q_nS, q_s2, q_s3, q_s4, q_m2, q_m3, q_m4, q_m24, q_p1, am_pI, am_gI, h1, h2, if_false]
theorem rt_kind_D22 (h : LyO (mxA σ) (mxR σ) 12 al12 m) (hb : mpb P ≤ m) (hw : 0 < w) (hw2 : w < 10) (v1 : Int32) : f_X12_kind_D22 P m v1 (q_n w) m σ = some ((0, mx_setI σ m 0 (q_n w))) := by
  have h1 := w_0 hw hw2
  have h2 := w_1 hw hw2
  unfold f_X12_kind_D22 f_X12_kind_D42
  simp (disch := first | assumption | omega | (simp only [q_AI, q_AL, q_RI, q_RL, tA, tR, tI, tL]; assumption)) only [Option.bind_some, q_b2, q_bxr, q_bxl, q_bx2r, q_bx2l, q_Ie, q_Le, q_In, q_Ln, q_IL, q_LI, tI, tL, q_nS, q_s2, q_s3, q_s4, q_m2, q_m3, q_m4, q_m24, q_p1, am_pI, am_gI, h1, h2, if_false]
theorem rt_event_D52 (h : LyO (mxA σ) (mxR σ) 12 al12 m) (hb : mpb P ≤ m) (hw : 0 < w) (hw2 : w < 10) (v1 : Int32) (v2 : Int32) : f_X12_event_D52 P m v1 v2 (q_n w) m σ = some ((0, mx_setI σ m 0 (q_n w))) := by
  have h1 := w_0 hw hw2
  have h2 := w_1 hw hw2
  unfold f_X12_event_D52 f_X12_event_D76
  simp (disch := first | assumption | omega | (simp only [q_AI, q_AL, q_RI, q_RL, tA, tR, tI, tL]; assumption)) only [Option.bind_some, q_b2, q_bxr, q_bxl, q_bx2r, q_bx2l, q_Ie, q_Le, q_In, q_Ln, q_IL, q_LI, tI, tL, q_nS, q_s2, q_s3, q_s4, q_m2, q_m3, q_m4, q_m24, q_p1, am_pI, am_gI, h1, h2, if_false]
end RT
