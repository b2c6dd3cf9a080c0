/-! ===== ml: the calls of the law, one by one ===== -/
section MLS
variable {P : mx_P} {σ : mx_S} {x b L : Nat} {xs : Nat → Int32} {v4 y1 y2 y3 y4 y5 y6 : Int32}
theorem cs_0 (hS : St P σ x) (hI : Iv x σ) (hX : Ax L xs v4 y1 y2 y3 y4 y5 y6) : Cs x v4 σ (f_L_law_D220_23 P L xs b x (x + 1497) (x + 1575) v4 σ) := by
  obtain ⟨iT, iG, iR, iP, iK, iD, iC, iL⟩ := hI
  obtain ⟨a1, a2, a3, a4, a5, -⟩ := hX
  obtain ⟨k, v, τ1, τ2, q1, q2, q3, q4, q5, q6, q7⟩ := g_feed hS iT y1 y2 y3 y4 y5
  unfold f_L_law_D220_23
  simp only [↓mtb_r a1, ↓mtb_r a2, ↓mtb_r a3, ↓mtb_r a4, ↓mtb_r a5]
  exact ⟨τ2, co_32 (D := fun τ => f_L_law_D321_23 P L xs b x (x + 1497) (x + 1575) v4 τ) hS.1 q1 q2 q3 q4 q5 q6.1, q6.k, ⟨q7, iG.fr q6 (by decide), iR.fr q6 (by decide), iP.fr q6 (by decide), iK.fr q6 (by decide), iD.fr q6 (by decide), iC.fr q6 (by decide), iL.fr q6 (by decide)⟩⟩
theorem cs_1 (hS : St P σ x) (hI : Iv x σ) (hX : Ax L xs v4 y1 y2 y3 y4 y5 y6) : Cs x v4 σ (f_L_law_D324_23 P L xs b x (x + 1497) (x + 1575) v4 σ) := by
  obtain ⟨iT, iG, iR, iP, iK, iD, iC, iL⟩ := hI
  obtain ⟨a1, -, -, -, -, -⟩ := hX
  obtain ⟨k, v, τ1, τ2, q1, q2, q3, q4, q5, q6, q7⟩ := g_end hS iT y1
  unfold f_L_law_D324_23
  simp only [↓mtb_r a1]
  exact ⟨τ2, co_32 (D := fun τ => f_L_law_D377_23 P L xs b x (x + 1497) (x + 1575) v4 τ) hS.1 q1 q2 q3 q4 q5 q6.1, q6.k, ⟨q7, iG.fr q6 (by decide), iR.fr q6 (by decide), iP.fr q6 (by decide), iK.fr q6 (by decide), iD.fr q6 (by decide), iC.fr q6 (by decide), iL.fr q6 (by decide)⟩⟩
theorem cs_2 (hS : St P σ x) (hI : Iv x σ) (hX : Ax L xs v4 y1 y2 y3 y4 y5 y6) : Cs x v4 σ (f_L_law_D380_23 P L xs b x (x + 1497) (x + 1575) v4 σ) := by
  obtain ⟨iT, iG, iR, iP, iK, iD, iC, iL⟩ := hI
  obtain ⟨a1, -, -, -, -, -⟩ := hX
  obtain ⟨v, τ1, τ2, q1, q2, q5, q6, q7⟩ := g_fault hS iT y1
  unfold f_L_law_D380_23
  simp only [↓mtb_r a1]
  exact ⟨τ2, co_c (D := fun τ => f_L_law_D2910_23 P L xs b x (x + 1497) (x + 1575) v4 τ) hS.1 q1 q2 q5, q6.k, ⟨iT.fr q6 (by decide), iG.fr q6 (by decide), iR.fr q6 (by decide), iP.fr q6 (by decide), iK.fr q6 (by decide), iD.fr q6 (by decide), iC.fr q6 (by decide), iL.fr q6 (by decide)⟩⟩
theorem cs_3 (hS : St P σ x) (hI : Iv x σ) (hX : Ax L xs v4 y1 y2 y3 y4 y5 y6) : Cs x v4 σ (f_L_law_D405_23 P L xs b x (x + 1497) (x + 1575) v4 σ) := by
  obtain ⟨iT, iG, iR, iP, iK, iD, iC, iL⟩ := hI
  obtain ⟨k, v, τ1, τ2, q1, q2, q3, q4, q5, q6, q7⟩ := g_linkage hS iT iL
  unfold f_L_law_D405_23
  exact ⟨τ2, co_32 (D := fun τ => f_L_law_D446_23 P L xs b x (x + 1497) (x + 1575) v4 τ) hS.1 q1 q2 q3 q4 q5 q6.1, q6.k (fun q j z => by unfold rfS; omega), ⟨q7.1, iG.fw q6 (by decide) (fun q j z => z.1), iR.fw q6 (by decide), iP.fw q6 (by decide), iK.fw q6 (by decide), iD.fw q6 (by decide), iC.fw q6 (by decide) (fun j z y => by omega), q7.2⟩⟩
theorem cs_4 (hS : St P σ x) (hI : Iv x σ) (hX : Ax L xs v4 y1 y2 y3 y4 y5 y6) : Cs x v4 σ (f_L_law_D449_23 P L xs b x (x + 1497) (x + 1575) v4 σ) := by
  obtain ⟨iT, iG, iR, iP, iK, iD, iC, iL⟩ := hI
  obtain ⟨v, τ1, τ2, q1, q2, q5, q6, q7⟩ := g_point hS iT iL
  unfold f_L_law_D449_23
  exact ⟨τ2, co_c (D := fun τ => f_L_law_D2910_23 P L xs b x (x + 1497) (x + 1575) v4 τ) hS.1 q1 q2 q5, q6.k, ⟨iT.fr q6 (by decide), iG.fr q6 (by decide), iR.fr q6 (by decide), iP.fr q6 (by decide), iK.fr q6 (by decide), iD.fr q6 (by decide), iC.fr q6 (by decide), iL.fr q6 (by decide)⟩⟩
theorem cs_5 (hS : St P σ x) (hI : Iv x σ) (hX : Ax L xs v4 y1 y2 y3 y4 y5 y6) : Cs x v4 σ (f_L_law_D462_23 P L xs b x (x + 1497) (x + 1575) v4 σ) := by
  obtain ⟨iT, iG, iR, iP, iK, iD, iC, iL⟩ := hI
  obtain ⟨a1, a2, -, -, -, -⟩ := hX
  obtain ⟨k, τ1, τ2, q1, q2, q3, q5, q6, q7⟩ := g_input hS iL y1 y2
  unfold f_L_law_D462_23
  simp only [↓mtb_r a1, ↓mtb_r a2]
  exact ⟨τ2, co_0 (D := fun τ => f_L_law_D2910_23 P L xs b x (x + 1497) (x + 1575) v4 τ) hS.1 q1 q2 q3 q5 q6.1, q6.k, ⟨iT.fr q6 (by decide), iG.fr q6 (by decide), iR.fr q6 (by decide), iP.fr q6 (by decide), iK.fr q6 (by decide), iD.fr q6 (by decide), iC.fr q6 (by decide), q7⟩⟩
theorem cs_6 (hS : St P σ x) (hI : Iv x σ) (hX : Ax L xs v4 y1 y2 y3 y4 y5 y6) : Cs x v4 σ (f_L_law_D510_23 P L xs b x (x + 1497) (x + 1575) v4 σ) := by
  obtain ⟨iT, iG, iR, iP, iK, iD, iC, iL⟩ := hI
  obtain ⟨v, τ1, τ2, q1, q2, q5, q6, q7⟩ := g_ways hS iL
  unfold f_L_law_D510_23
  exact ⟨τ2, co_c (D := fun τ => f_L_law_D2910_23 P L xs b x (x + 1497) (x + 1575) v4 τ) hS.1 q1 q2 q5, q6.k, ⟨iT.fr q6 (by decide), iG.fr q6 (by decide), iR.fr q6 (by decide), iP.fr q6 (by decide), iK.fr q6 (by decide), iD.fr q6 (by decide), iC.fr q6 (by decide), q7⟩⟩
theorem cs_7 (hS : St P σ x) (hI : Iv x σ) (hX : Ax L xs v4 y1 y2 y3 y4 y5 y6) : Cs x v4 σ (f_L_law_D523_23 P L xs b x (x + 1497) (x + 1575) v4 σ) := by
  obtain ⟨iT, iG, iR, iP, iK, iD, iC, iL⟩ := hI
  obtain ⟨a1, a2, -, -, -, -⟩ := hX
  obtain ⟨k, v, τ1, τ2, q1, q2, q3, q4, q5, q6, q7⟩ := g_way hS iL y1 y2
  unfold f_L_law_D523_23
  simp only [↓mtb_r a1, ↓mtb_r a2]
  exact ⟨τ2, co_32 (D := fun τ => f_L_law_D588_23 P L xs b x (x + 1497) (x + 1575) v4 τ) hS.1 q1 q2 q3 q4 q5 q6.1, q6.k, ⟨iT.fr q6 (by decide), iG.fr q6 (by decide), iR.fr q6 (by decide), iP.fr q6 (by decide), iK.fr q6 (by decide), iD.fr q6 (by decide), iC.fr q6 (by decide), q7⟩⟩
theorem cs_8 (hS : St P σ x) (hI : Iv x σ) (hX : Ax L xs v4 y1 y2 y3 y4 y5 y6) : Cs x v4 σ (f_L_law_D591_23 P L xs b x (x + 1497) (x + 1575) v4 σ) := by
  obtain ⟨iT, iG, iR, iP, iK, iD, iC, iL⟩ := hI
  obtain ⟨a1, a2, a3, a4, -, -⟩ := hX
  obtain ⟨k, v, τ1, τ2, q1, q2, q3, q4, q5, q6, q7⟩ := g_at hS iL y1 y2 y3 y4
  unfold f_L_law_D591_23
  simp only [↓mtb_r a1, ↓mtb_r a2, ↓mtb_r a3, ↓mtb_r a4]
  exact ⟨τ2, co_64 (D := fun τ => f_L_law_D679_23 P L xs b x (x + 1497) (x + 1575) v4 τ) hS.1 q1 q2 q3 q4 q5 q6.1, q6.k, ⟨iT.fr q6 (by decide), iG.fr q6 (by decide), iR.fr q6 (by decide), iP.fr q6 (by decide), iK.fr q6 (by decide), iD.fr q6 (by decide), iC.fr q6 (by decide), q7⟩⟩
theorem cs_9 (hS : St P σ x) (hI : Iv x σ) (hX : Ax L xs v4 y1 y2 y3 y4 y5 y6) : Cs x v4 σ (f_L_law_D682_23 P L xs b x (x + 1497) (x + 1575) v4 σ) := by
  obtain ⟨iT, iG, iR, iP, iK, iD, iC, iL⟩ := hI
  obtain ⟨a1, a2, a3, -, -, -⟩ := hX
  obtain ⟨k, v, τ1, τ2, q1, q2, q3, q4, q5, q6, q7⟩ := g_step hS iL y1 y2 y3
  unfold f_L_law_D682_23
  simp only [↓mtb_r a1, ↓mtb_r a2, ↓mtb_r a3]
  exact ⟨τ2, co_32 (D := fun τ => f_L_law_D759_23 P L xs b x (x + 1497) (x + 1575) v4 τ) hS.1 q1 q2 q3 q4 q5 q6.1, q6.k, ⟨iT.fr q6 (by decide), iG.fr q6 (by decide), iR.fr q6 (by decide), iP.fr q6 (by decide), iK.fr q6 (by decide), iD.fr q6 (by decide), iC.fr q6 (by decide), q7⟩⟩
theorem cs_10 (hS : St P σ x) (hI : Iv x σ) (hX : Ax L xs v4 y1 y2 y3 y4 y5 y6) : Cs x v4 σ (f_L_law_D762_23 P L xs b x (x + 1497) (x + 1575) v4 σ) := by
  obtain ⟨iT, iG, iR, iP, iK, iD, iC, iL⟩ := hI
  obtain ⟨a1, a2, a3, -, -, -⟩ := hX
  obtain ⟨k, v, τ1, τ2, q1, q2, q3, q4, q5, q6, q7⟩ := g_range hS iL y1 y2 y3
  unfold f_L_law_D762_23
  simp only [↓mtb_r a1, ↓mtb_r a2, ↓mtb_r a3]
  exact ⟨τ2, co_32 (D := fun τ => f_L_law_D839_23 P L xs b x (x + 1497) (x + 1575) v4 τ) hS.1 q1 q2 q3 q4 q5 q6.1, q6.k, ⟨iT.fr q6 (by decide), iG.fr q6 (by decide), iR.fr q6 (by decide), iP.fr q6 (by decide), iK.fr q6 (by decide), iD.fr q6 (by decide), iC.fr q6 (by decide), q7⟩⟩
theorem cs_11 (hS : St P σ x) (hI : Iv x σ) (hX : Ax L xs v4 y1 y2 y3 y4 y5 y6) : Cs x v4 σ (f_L_law_D842_23 P L xs b x (x + 1497) (x + 1575) v4 σ) := by
  obtain ⟨iT, iG, iR, iP, iK, iD, iC, iL⟩ := hI
  obtain ⟨a1, a2, a3, a4, a5, -⟩ := hX
  obtain ⟨k, v, τ1, τ2, q1, q2, q3, q4, q5, q6, q7⟩ := g_spread hS iL y1 y2 y3 y4 y5
  unfold f_L_law_D842_23
  simp only [↓mtb_r a1, ↓mtb_r a2, ↓mtb_r a3, ↓mtb_r a4, ↓mtb_r a5]
  exact ⟨τ2, co_64 (D := fun τ => f_L_law_D942_23 P L xs b x (x + 1497) (x + 1575) v4 τ) hS.1 q1 q2 q3 q4 q5 q6.1, q6.k, ⟨iT.fr q6 (by decide), iG.fr q6 (by decide), iR.fr q6 (by decide), iP.fr q6 (by decide), iK.fr q6 (by decide), iD.fr q6 (by decide), iC.fr q6 (by decide), q7⟩⟩
theorem cs_12 (hS : St P σ x) (hI : Iv x σ) (hX : Ax L xs v4 y1 y2 y3 y4 y5 y6) : Cs x v4 σ (f_L_law_D945_23 P L xs b x (x + 1497) (x + 1575) v4 σ) := by
  obtain ⟨iT, iG, iR, iP, iK, iD, iC, iL⟩ := hI
  obtain ⟨a1, a2, a3, a4, a5, -⟩ := hX
  obtain ⟨k, v, τ1, τ2, q1, q2, q3, q4, q5, q6, q7⟩ := g_least hS iL y1 y2 y3 y4 y5
  unfold f_L_law_D945_23
  simp only [↓mtb_r a1, ↓mtb_r a2, ↓mtb_r a3, ↓mtb_r a4, ↓mtb_r a5]
  exact ⟨τ2, co_64 (D := fun τ => f_L_law_D1045_23 P L xs b x (x + 1497) (x + 1575) v4 τ) hS.1 q1 q2 q3 q4 q5 q6.1, q6.k, ⟨iT.fr q6 (by decide), iG.fr q6 (by decide), iR.fr q6 (by decide), iP.fr q6 (by decide), iK.fr q6 (by decide), iD.fr q6 (by decide), iC.fr q6 (by decide), q7⟩⟩
theorem cs_13 (hS : St P σ x) (hI : Iv x σ) (hX : Ax L xs v4 y1 y2 y3 y4 y5 y6) : Cs x v4 σ (f_L_law_D1048_23 P L xs b x (x + 1497) (x + 1575) v4 σ) := by
  obtain ⟨iT, iG, iR, iP, iK, iD, iC, iL⟩ := hI
  obtain ⟨a1, a2, a3, a4, a5, -⟩ := hX
  obtain ⟨k, v, τ1, τ2, q1, q2, q3, q4, q5, q6, q7⟩ := g_speed hS iL y1 y2 y3 y4 y5
  unfold f_L_law_D1048_23
  simp only [↓mtb_r a1, ↓mtb_r a2, ↓mtb_r a3, ↓mtb_r a4, ↓mtb_r a5]
  exact ⟨τ2, co_64 (D := fun τ => f_L_law_D1148_23 P L xs b x (x + 1497) (x + 1575) v4 τ) hS.1 q1 q2 q3 q4 q5 q6.1, q6.k, ⟨iT.fr q6 (by decide), iG.fr q6 (by decide), iR.fr q6 (by decide), iP.fr q6 (by decide), iK.fr q6 (by decide), iD.fr q6 (by decide), iC.fr q6 (by decide), q7⟩⟩
theorem cs_14 (hS : St P σ x) (hI : Iv x σ) (hX : Ax L xs v4 y1 y2 y3 y4 y5 y6) : Cs x v4 σ (f_L_law_D1151_23 P L xs b x (x + 1497) (x + 1575) v4 σ) := by
  obtain ⟨iT, iG, iR, iP, iK, iD, iC, iL⟩ := hI
  obtain ⟨a1, a2, a3, a4, a5, a6⟩ := hX
  obtain ⟨k, v, τ1, τ2, q1, q2, q3, q4, q5, q6, q7⟩ := g_pole hS iL y1 y2 y3 y4 y5 y6
  unfold f_L_law_D1151_23
  simp only [↓mtb_r a1, ↓mtb_r a2, ↓mtb_r a3, ↓mtb_r a4, ↓mtb_r a5, ↓mtb_r a6]
  exact ⟨τ2, co_64 (D := fun τ => f_L_law_D1265_23 P L xs b x (x + 1497) (x + 1575) v4 τ) hS.1 q1 q2 q3 q4 q5 q6.1, q6.k, ⟨iT.fr q6 (by decide), iG.fr q6 (by decide), iR.fr q6 (by decide), iP.fr q6 (by decide), iK.fr q6 (by decide), iD.fr q6 (by decide), iC.fr q6 (by decide), q7⟩⟩
theorem cs_15 (hS : St P σ x) (hI : Iv x σ) (hX : Ax L xs v4 y1 y2 y3 y4 y5 y6) : Cs x v4 σ (f_L_law_D1268_23 P L xs b x (x + 1497) (x + 1575) v4 σ) := by
  obtain ⟨iT, iG, iR, iP, iK, iD, iC, iL⟩ := hI
  obtain ⟨a1, a2, a3, -, -, -⟩ := hX
  obtain ⟨k, τ1, τ2, q1, q2, q3, q5, q6, q7⟩ := g_load hS iL y1 y2 y3
  unfold f_L_law_D1268_23
  simp only [↓mtb_r a1, ↓mtb_r a2, ↓mtb_r a3]
  exact ⟨τ2, co_0 (D := fun τ => f_L_law_D2910_23 P L xs b x (x + 1497) (x + 1575) v4 τ) hS.1 q1 q2 q3 q5 q6.1, q6.k, ⟨iT.fr q6 (by decide), iG.fr q6 (by decide), iR.fr q6 (by decide), iP.fr q6 (by decide), iK.fr q6 (by decide), iD.fr q6 (by decide), iC.fr q6 (by decide), q7⟩⟩
theorem cs_16 (hS : St P σ x) (hI : Iv x σ) (hX : Ax L xs v4 y1 y2 y3 y4 y5 y6) : Cs x v4 σ (f_L_law_D1328_23 P L xs b x (x + 1497) (x + 1575) v4 σ) := by
  obtain ⟨iT, iG, iR, iP, iK, iD, iC, iL⟩ := hI
  obtain ⟨a1, a2, -, -, -, -⟩ := hX
  obtain ⟨k, τ1, τ2, q1, q2, q3, q5, q6, q7⟩ := g_mass hS iL y1 y2
  unfold f_L_law_D1328_23
  simp only [↓mtb_r a1, ↓mtb_r a2]
  exact ⟨τ2, co_0 (D := fun τ => f_L_law_D2910_23 P L xs b x (x + 1497) (x + 1575) v4 τ) hS.1 q1 q2 q3 q5 q6.1, q6.k, ⟨iT.fr q6 (by decide), iG.fr q6 (by decide), iR.fr q6 (by decide), iP.fr q6 (by decide), iK.fr q6 (by decide), iD.fr q6 (by decide), iC.fr q6 (by decide), q7⟩⟩
theorem cs_17 (hS : St P σ x) (hI : Iv x σ) (hX : Ax L xs v4 y1 y2 y3 y4 y5 y6) : Cs x v4 σ (f_L_law_D1376_23 P L xs b x (x + 1497) (x + 1575) v4 σ) := by
  obtain ⟨iT, iG, iR, iP, iK, iD, iC, iL⟩ := hI
  obtain ⟨a1, a2, a3, -, -, -⟩ := hX
  obtain ⟨k, v, τ1, τ2, q1, q2, q3, q4, q5, q6, q7⟩ := g_moment hS iL y1 y2 y3
  unfold f_L_law_D1376_23
  simp only [↓mtb_r a1, ↓mtb_r a2, ↓mtb_r a3]
  exact ⟨τ2, co_64 (D := fun τ => f_L_law_D1452_23 P L xs b x (x + 1497) (x + 1575) v4 τ) hS.1 q1 q2 q3 q4 q5 q6.1, q6.k, ⟨iT.fr q6 (by decide), iG.fr q6 (by decide), iR.fr q6 (by decide), iP.fr q6 (by decide), iK.fr q6 (by decide), iD.fr q6 (by decide), iC.fr q6 (by decide), q7⟩⟩
theorem cs_18 (hS : St P σ x) (hI : Iv x σ) (hX : Ax L xs v4 y1 y2 y3 y4 y5 y6) : Cs x v4 σ (f_L_law_D1455_23 P L xs b x (x + 1497) (x + 1575) v4 σ) := by
  obtain ⟨iT, iG, iR, iP, iK, iD, iC, iL⟩ := hI
  obtain ⟨a1, a2, a3, -, -, -⟩ := hX
  obtain ⟨k, v, τ1, τ2, q1, q2, q3, q4, q5, q6, q7⟩ := g_middle hS iL y1 y2 y3
  unfold f_L_law_D1455_23
  simp only [↓mtb_r a1, ↓mtb_r a2, ↓mtb_r a3]
  exact ⟨τ2, co_64 (D := fun τ => f_L_law_D1531_23 P L xs b x (x + 1497) (x + 1575) v4 τ) hS.1 q1 q2 q3 q4 q5 q6.1, q6.k, ⟨iT.fr q6 (by decide), iG.fr q6 (by decide), iR.fr q6 (by decide), iP.fr q6 (by decide), iK.fr q6 (by decide), iD.fr q6 (by decide), iC.fr q6 (by decide), q7⟩⟩
theorem cs_19 (hS : St P σ x) (hI : Iv x σ) (hX : Ax L xs v4 y1 y2 y3 y4 y5 y6) : Cs x v4 σ (f_L_law_D1534_23 P L xs b x (x + 1497) (x + 1575) v4 σ) := by
  obtain ⟨iT, iG, iR, iP, iK, iD, iC, iL⟩ := hI
  obtain ⟨a1, a2, -, -, -, -⟩ := hX
  obtain ⟨k, v, τ1, τ2, q1, q2, q3, q4, q5, q6, q7⟩ := g_gearS hS iG y1 y2
  unfold f_L_law_D1534_23
  simp only [↓mtb_r a1, ↓mtb_r a2]
  exact ⟨τ2, co_32 (D := fun τ => f_L_law_D1599_23 P L xs b x (x + 1497) (x + 1575) v4 τ) hS.1 q1 q2 q3 q4 q5 q6.1, q6.k, ⟨iT.fr q6 (by decide), q7, iR.fr q6 (by decide), iP.fr q6 (by decide), iK.fr q6 (by decide), iD.fr q6 (by decide), iC.fr q6 (by decide), iL.fr q6 (by decide)⟩⟩
theorem cs_21 (hS : St P σ x) (hI : Iv x σ) (hX : Ax L xs v4 y1 y2 y3 y4 y5 y6) : Cs x v4 σ (f_L_law_D1710_23 P L xs b x (x + 1497) (x + 1575) v4 σ) := by
  obtain ⟨iT, iG, iR, iP, iK, iD, iC, iL⟩ := hI
  obtain ⟨a1, a2, a3, a4, -, -⟩ := hX
  obtain ⟨k, τ1, τ2, q1, q2, q3, q5, q6, q7⟩ := g_shaftS hS iG y1 y2 y3 y4
  unfold f_L_law_D1710_23
  simp only [↓mtb_r a1, ↓mtb_r a2, ↓mtb_r a3, ↓mtb_r a4]
  exact ⟨τ2, co_0 (D := fun τ => f_L_law_D2910_23 P L xs b x (x + 1497) (x + 1575) v4 τ) hS.1 q1 q2 q3 q5 q6.1, q6.k, ⟨iT.fr q6 (by decide), q7, iR.fr q6 (by decide), iP.fr q6 (by decide), iK.fr q6 (by decide), iD.fr q6 (by decide), iC.fr q6 (by decide), iL.fr q6 (by decide)⟩⟩
theorem cs_23 (hS : St P σ x) (hI : Iv x σ) (hX : Ax L xs v4 y1 y2 y3 y4 y5 y6) : Cs x v4 σ (f_L_law_D1793_23 P L xs b x (x + 1497) (x + 1575) v4 σ) := by
  obtain ⟨iT, iG, iR, iP, iK, iD, iC, iL⟩ := hI
  obtain ⟨v, τ1, τ2, q1, q2, q5, q6, q7⟩ := g_solved hS iG
  unfold f_L_law_D1793_23
  exact ⟨τ2, co_c (D := fun τ => f_L_law_D2910_23 P L xs b x (x + 1497) (x + 1575) v4 τ) hS.1 q1 q2 q5, q6.k (fun q j z => by unfold tgS at z; unfold rfS; omega), ⟨iT.fw q6 (by decide), q7, iR.fw q6 (by decide), iP.fw q6 (by decide), iK.fw q6 (by decide), iD.fw q6 (by decide), iC.fw q6 (by decide) (fun j z y => by unfold tgS at y; omega), iL.fw q6 (by decide) (fun j z y => by unfold tgS at y; omega)⟩⟩
theorem cs_24 (hS : St P σ x) (hI : Iv x σ) (hX : Ax L xs v4 y1 y2 y3 y4 y5 y6) : Cs x v4 σ (f_L_law_D1806_23 P L xs b x (x + 1497) (x + 1575) v4 σ) := by
  obtain ⟨iT, iG, iR, iP, iK, iD, iC, iL⟩ := hI
  obtain ⟨a1, a2, -, -, -, -⟩ := hX
  obtain ⟨k, v, τ1, τ2, q1, q2, q3, q4, q5, q6, q7⟩ := g_turns hS iG y1 y2
  unfold f_L_law_D1806_23
  simp only [↓mtb_r a1, ↓mtb_r a2]
  exact ⟨τ2, co_64 (D := fun τ => f_L_law_D1870_23 P L xs b x (x + 1497) (x + 1575) v4 τ) hS.1 q1 q2 q3 q4 q5 q6.1, q6.k (fun q j z => by unfold tgS at z; unfold rfS; omega), ⟨iT.fw q6 (by decide), q7, iR.fw q6 (by decide), iP.fw q6 (by decide), iK.fw q6 (by decide), iD.fw q6 (by decide), iC.fw q6 (by decide) (fun j z y => by unfold tgS at y; omega), iL.fw q6 (by decide) (fun j z y => by unfold tgS at y; omega)⟩⟩
theorem cs_26 (hS : St P σ x) (hI : Iv x σ) (hX : Ax L xs v4 y1 y2 y3 y4 y5 y6) : Cs x v4 σ (f_L_law_D1969_23 P L xs b x (x + 1497) (x + 1575) v4 σ) := by
  obtain ⟨iT, iG, iR, iP, iK, iD, iC, iL⟩ := hI
  obtain ⟨a1, a2, a3, a4, -, -⟩ := hX
  have iR1 := iR
  obtain ⟨T0, iR0⟩ := iR1
  obtain ⟨k, v, τ1, τ2, q1, q2, q3, q4, q5, q6, q7⟩ := g_trains hS iR0 y1 y2 y3 y4
  unfold f_L_law_D1969_23
  simp only [↓mtb_r a1, ↓mtb_r a2, ↓mtb_r a3, ↓mtb_r a4]
  exact ⟨τ2, co_32 (D := fun τ => f_L_law_D2058_23 P L xs b x (x + 1497) (x + 1575) v4 τ) hS.1 q1 q2 q3 q4 q5 q6.1, q6.k, ⟨iT.fr q6 (by decide), iG.fr q6 (by decide), q7, iP.fr q6 (by decide), iK.fr q6 (by decide), iD.fr q6 (by decide), iC.fr q6 (by decide), iL.fr q6 (by decide)⟩⟩
theorem cs_27 (hS : St P σ x) (hI : Iv x σ) (hX : Ax L xs v4 y1 y2 y3 y4 y5 y6) : Cs x v4 σ (f_L_law_D2061_23 P L xs b x (x + 1497) (x + 1575) v4 σ) := by
  obtain ⟨iT, iG, iR, iP, iK, iD, iC, iL⟩ := hI
  obtain ⟨a1, a2, -, -, -, -⟩ := hX
  have iR1 := iR
  obtain ⟨T0, iR0⟩ := iR1
  obtain ⟨k, v, τ1, τ2, q1, q2, q3, q4, q5, q6, q7⟩ := g_train hS iR0 y1 y2
  unfold f_L_law_D2061_23
  simp only [↓mtb_r a1, ↓mtb_r a2]
  exact ⟨τ2, co_32 (D := fun τ => f_L_law_D2126_23 P L xs b x (x + 1497) (x + 1575) v4 τ) hS.1 q1 q2 q3 q4 q5 q6.1, q6.k, ⟨iT.fr q6 (by decide), iG.fr q6 (by decide), iR.fr q6 (by decide), iP.fr q6 (by decide), iK.fr q6 (by decide), iD.fr q6 (by decide), iC.fr q6 (by decide), iL.fr q6 (by decide)⟩⟩
theorem cs_28 (hS : St P σ x) (hI : Iv x σ) (hX : Ax L xs v4 y1 y2 y3 y4 y5 y6) : Cs x v4 σ (f_L_law_D2129_23 P L xs b x (x + 1497) (x + 1575) v4 σ) := by
  obtain ⟨iT, iG, iR, iP, iK, iD, iC, iL⟩ := hI
  obtain ⟨k, v, τ1, τ2, q1, q2, q3, q4, q5, q6, q7⟩ := g_cam hS iT iC
  unfold f_L_law_D2129_23
  exact ⟨τ2, co_32 (D := fun τ => f_L_law_D2170_23 P L xs b x (x + 1497) (x + 1575) v4 τ) hS.1 q1 q2 q3 q4 q5 q6.1, q6.k (fun q j z => by unfold rfS; omega), ⟨q7.1, iG.fw q6 (by decide) (fun q j z => z.1), iR.fw q6 (by decide), iP.fw q6 (by decide), iK.fw q6 (by decide), iD.fw q6 (by decide), q7.2, iL.fw q6 (by decide) (fun j z y => by omega)⟩⟩
theorem cs_29 (hS : St P σ x) (hI : Iv x σ) (hX : Ax L xs v4 y1 y2 y3 y4 y5 y6) : Cs x v4 σ (f_L_law_D2173_23 P L xs b x (x + 1497) (x + 1575) v4 σ) := by
  obtain ⟨iT, iG, iR, iP, iK, iD, iC, iL⟩ := hI
  obtain ⟨a1, a2, a3, -, -, -⟩ := hX
  obtain ⟨k, v, τ1, τ2, q1, q2, q3, q4, q5, q6, q7⟩ := g_lift hS iC y1 y2 y3
  unfold f_L_law_D2173_23
  simp only [↓mtb_r a1, ↓mtb_r a2, ↓mtb_r a3]
  exact ⟨τ2, co_64 (D := fun τ => f_L_law_D2249_23 P L xs b x (x + 1497) (x + 1575) v4 τ) hS.1 q1 q2 q3 q4 q5 q6.1, q6.k, ⟨iT.fr q6 (by decide), iG.fr q6 (by decide), iR.fr q6 (by decide), iP.fr q6 (by decide), iK.fr q6 (by decide), iD.fr q6 (by decide), q7, iL.fr q6 (by decide)⟩⟩
theorem cs_30 (hS : St P σ x) (hI : Iv x σ) (hX : Ax L xs v4 y1 y2 y3 y4 y5 y6) : Cs x v4 σ (f_L_law_D2252_23 P L xs b x (x + 1497) (x + 1575) v4 σ) := by
  obtain ⟨iT, iG, iR, iP, iK, iD, iC, iL⟩ := hI
  obtain ⟨a1, -, -, -, -, -⟩ := hX
  obtain ⟨k, v, τ1, τ2, q1, q2, q3, q4, q5, q6, q7⟩ := g_camAbout hS iC y1
  unfold f_L_law_D2252_23
  simp only [↓mtb_r a1]
  exact ⟨τ2, co_64 (D := fun τ => f_L_law_D2304_23 P L xs b x (x + 1497) (x + 1575) v4 τ) hS.1 q1 q2 q3 q4 q5 q6.1, q6.k, ⟨iT.fr q6 (by decide), iG.fr q6 (by decide), iR.fr q6 (by decide), iP.fr q6 (by decide), iK.fr q6 (by decide), iD.fr q6 (by decide), q7, iL.fr q6 (by decide)⟩⟩
theorem cs_31 (hS : St P σ x) (hI : Iv x σ) (hX : Ax L xs v4 y1 y2 y3 y4 y5 y6) : Cs x v4 σ (f_L_law_D2307_23 P L xs b x (x + 1497) (x + 1575) v4 σ) := by
  obtain ⟨iT, iG, iR, iP, iK, iD, iC, iL⟩ := hI
  obtain ⟨a1, a2, a3, -, -, -⟩ := hX
  obtain ⟨k, v, τ1, τ2, q1, q2, q3, q4, q5, q6, q7⟩ := g_corner hS iP y1 y2 y3
  unfold f_L_law_D2307_23
  simp only [↓mtb_r a1, ↓mtb_r a2, ↓mtb_r a3]
  exact ⟨τ2, co_32 (D := fun τ => f_L_law_D2384_23 P L xs b x (x + 1497) (x + 1575) v4 τ) hS.1 q1 q2 q3 q4 q5 q6.1, q6.k, ⟨iT.fr q6 (by decide), iG.fr q6 (by decide), iR.fr q6 (by decide), q7, iK.fr q6 (by decide), iD.fr q6 (by decide), iC.fr q6 (by decide), iL.fr q6 (by decide)⟩⟩
theorem cs_32 (hS : St P σ x) (hI : Iv x σ) (hX : Ax L xs v4 y1 y2 y3 y4 y5 y6) : Cs x v4 σ (f_L_law_D2387_23 P L xs b x (x + 1497) (x + 1575) v4 σ) := by
  obtain ⟨iT, iG, iR, iP, iK, iD, iC, iL⟩ := hI
  obtain ⟨a1, -, -, -, -, -⟩ := hX
  obtain ⟨k, τ1, τ2, q1, q2, q3, q5, q6, q7⟩ := g_empty hS iP y1
  unfold f_L_law_D2387_23
  simp only [↓mtb_r a1]
  exact ⟨τ2, co_0 (D := fun τ => f_L_law_D2910_23 P L xs b x (x + 1497) (x + 1575) v4 τ) hS.1 q1 q2 q3 q5 q6.1, q6.k, ⟨iT.fr q6 (by decide), iG.fr q6 (by decide), iR.fr q6 (by decide), q7, iK.fr q6 (by decide), iD.fr q6 (by decide), iC.fr q6 (by decide), iL.fr q6 (by decide)⟩⟩
theorem cs_33 (hS : St P σ x) (hI : Iv x σ) (hX : Ax L xs v4 y1 y2 y3 y4 y5 y6) : Cs x v4 σ (f_L_law_D2423_23 P L xs b x (x + 1497) (x + 1575) v4 σ) := by
  obtain ⟨iT, iG, iR, iP, iK, iD, iC, iL⟩ := hI
  obtain ⟨a1, a2, -, -, -, -⟩ := hX
  obtain ⟨k, v, τ1, τ2, q1, q2, q3, q4, q5, q6, q7⟩ := g_plate hS iP y1 y2
  unfold f_L_law_D2423_23
  simp only [↓mtb_r a1, ↓mtb_r a2]
  exact ⟨τ2, co_64 (D := fun τ => f_L_law_D2487_23 P L xs b x (x + 1497) (x + 1575) v4 τ) hS.1 q1 q2 q3 q4 q5 q6.1, q6.k, ⟨iT.fr q6 (by decide), iG.fr q6 (by decide), iR.fr q6 (by decide), iP.fr q6 (by decide), iK.fr q6 (by decide), iD.fr q6 (by decide), iC.fr q6 (by decide), iL.fr q6 (by decide)⟩⟩
theorem cs_34 (hS : St P σ x) (hI : Iv x σ) (hX : Ax L xs v4 y1 y2 y3 y4 y5 y6) : Cs x v4 σ (f_L_law_D2490_23 P L xs b x (x + 1497) (x + 1575) v4 σ) := by
  obtain ⟨iT, iG, iR, iP, iK, iD, iC, iL⟩ := hI
  obtain ⟨a1, a2, a3, -, -, -⟩ := hX
  obtain ⟨k, v, τ1, τ2, q1, q2, q3, q4, q5, q6, q7⟩ := g_inside hS iP y1 y2 y3
  unfold f_L_law_D2490_23
  simp only [↓mtb_r a1, ↓mtb_r a2, ↓mtb_r a3]
  exact ⟨τ2, co_32 (D := fun τ => f_L_law_D2567_23 P L xs b x (x + 1497) (x + 1575) v4 τ) hS.1 q1 q2 q3 q4 q5 q6.1, q6.k, ⟨iT.fr q6 (by decide), iG.fr q6 (by decide), iR.fr q6 (by decide), iP.fr q6 (by decide), iK.fr q6 (by decide), iD.fr q6 (by decide), iC.fr q6 (by decide), iL.fr q6 (by decide)⟩⟩
theorem cs_35 (hS : St P σ x) (hI : Iv x σ) (hX : Ax L xs v4 y1 y2 y3 y4 y5 y6) : Cs x v4 σ (f_L_law_D2570_23 P L xs b x (x + 1497) (x + 1575) v4 σ) := by
  obtain ⟨iT, iG, iR, iP, iK, iD, iC, iL⟩ := hI
  obtain ⟨a1, a2, a3, -, -, -⟩ := hX
  obtain ⟨k, v, τ1, τ2, q1, q2, q3, q4, q5, q6, q7⟩ := g_distance hS iP y1 y2 y3
  unfold f_L_law_D2570_23
  simp only [↓mtb_r a1, ↓mtb_r a2, ↓mtb_r a3]
  exact ⟨τ2, co_64 (D := fun τ => f_L_law_D2646_23 P L xs b x (x + 1497) (x + 1575) v4 τ) hS.1 q1 q2 q3 q4 q5 q6.1, q6.k, ⟨iT.fr q6 (by decide), iG.fr q6 (by decide), iR.fr q6 (by decide), iP.fr q6 (by decide), iK.fr q6 (by decide), iD.fr q6 (by decide), iC.fr q6 (by decide), iL.fr q6 (by decide)⟩⟩
theorem cs_36 (hS : St P σ x) (hI : Iv x σ) (hX : Ax L xs v4 y1 y2 y3 y4 y5 y6) : Cs x v4 σ (f_L_law_D2649_23 P L xs b x (x + 1497) (x + 1575) v4 σ) := by
  obtain ⟨iT, iG, iR, iP, iK, iD, iC, iL⟩ := hI
  obtain ⟨a1, a2, -, -, -, -⟩ := hX
  obtain ⟨k, v, τ1, τ2, q1, q2, q3, q4, q5, q6, q7⟩ := g_kinds hS iK y1 y2
  unfold f_L_law_D2649_23
  simp only [↓mtb_r a1, ↓mtb_r a2]
  exact ⟨τ2, co_32 (D := fun τ => f_L_law_D2714_23 P L xs b x (x + 1497) (x + 1575) v4 τ) hS.1 q1 q2 q3 q4 q5 q6.1, q6.k, ⟨iT.fr q6 (by decide), iG.fr q6 (by decide), iR.fr q6 (by decide), iP.fr q6 (by decide), q7, iD.fr q6 (by decide), iC.fr q6 (by decide), iL.fr q6 (by decide)⟩⟩
theorem cs_37 (hS : St P σ x) (hI : Iv x σ) (hX : Ax L xs v4 y1 y2 y3 y4 y5 y6) : Cs x v4 σ (f_L_law_D2717_23 P L xs b x (x + 1497) (x + 1575) v4 σ) := by
  obtain ⟨iT, iG, iR, iP, iK, iD, iC, iL⟩ := hI
  obtain ⟨a1, -, -, -, -, -⟩ := hX
  obtain ⟨k, v, τ1, τ2, q1, q2, q3, q4, q5, q6, q7⟩ := g_kind hS iK y1
  unfold f_L_law_D2717_23
  simp only [↓mtb_r a1]
  exact ⟨τ2, co_32 (D := fun τ => f_L_law_D2770_23 P L xs b x (x + 1497) (x + 1575) v4 τ) hS.1 q1 q2 q3 q4 q5 q6.1, q6.k, ⟨iT.fr q6 (by decide), iG.fr q6 (by decide), iR.fr q6 (by decide), iP.fr q6 (by decide), iK.fr q6 (by decide), iD.fr q6 (by decide), iC.fr q6 (by decide), iL.fr q6 (by decide)⟩⟩
theorem cs_38 (hS : St P σ x) (hI : Iv x σ) (hX : Ax L xs v4 y1 y2 y3 y4 y5 y6) : Cs x v4 σ (f_L_law_D2773_23 P L xs b x (x + 1497) (x + 1575) v4 σ) := by
  obtain ⟨iT, iG, iR, iP, iK, iD, iC, iL⟩ := hI
  obtain ⟨k, v, τ1, τ2, q1, q2, q3, q4, q5, q6, q7⟩ := g_drive hS iT iL iD
  unfold f_L_law_D2773_23
  exact ⟨τ2, co_32 (D := fun τ => f_L_law_D2814_23 P L xs b x (x + 1497) (x + 1575) v4 τ) hS.1 q1 q2 q3 q4 q5 q6.1, q6.k, ⟨q7.1, iG.fr q6 (by decide), iR.fr q6 (by decide), iP.fr q6 (by decide), iK.fr q6 (by decide), q7.2.2, iC.fr q6 (by decide), q7.2.1⟩⟩
theorem cs_39 (hS : St P σ x) (hI : Iv x σ) (hX : Ax L xs v4 y1 y2 y3 y4 y5 y6) : Cs x v4 σ (f_L_law_D2817_23 P L xs b x (x + 1497) (x + 1575) v4 σ) := by
  obtain ⟨iT, iG, iR, iP, iK, iD, iC, iL⟩ := hI
  obtain ⟨a1, a2, -, -, -, -⟩ := hX
  obtain ⟨k, v, τ1, τ2, q1, q2, q3, q4, q5, q6, q7⟩ := g_event hS iD y1 y2
  unfold f_L_law_D2817_23
  simp only [↓mtb_r a1, ↓mtb_r a2]
  exact ⟨τ2, co_32 (D := fun τ => f_L_law_D2882_23 P L xs b x (x + 1497) (x + 1575) v4 τ) hS.1 q1 q2 q3 q4 q5 q6.1, q6.k, ⟨iT.fr q6 (by decide), iG.fr q6 (by decide), iR.fr q6 (by decide), iP.fr q6 (by decide), iK.fr q6 (by decide), iD.fr q6 (by decide), iC.fr q6 (by decide), iL.fr q6 (by decide)⟩⟩
theorem cs_40 (hS : St P σ x) (hI : Iv x σ) (hX : Ax L xs v4 y1 y2 y3 y4 y5 y6) : Cs x v4 σ (f_L_law_D2885_23 P L xs b x (x + 1497) (x + 1575) v4 σ) := by
  obtain ⟨iT, iG, iR, iP, iK, iD, iC, iL⟩ := hI
  obtain ⟨a1, -, -, -, -, -⟩ := hX
  have iR1 := iR
  obtain ⟨T0, iR0⟩ := iR1
  have iG1 := iG
  obtain ⟨gs, ms, sh, iG0, -⟩ := iG1
  obtain ⟨v, τ1, τ2, q1, q2, q5, q6, q7⟩ := g_count hS iL iT iG0 iR0 iK iD y1
  unfold f_L_law_D2885_23
  simp only [↓mtb_r a1]
  exact ⟨τ2, co_c (D := fun τ => f_L_law_D2910_23 P L xs b x (x + 1497) (x + 1575) v4 τ) hS.1 q1 q2 q5, q6.k, ⟨iT.fr q6 (by decide), iG.fr q6 (by decide), iR.fr q6 (by decide), iP.fr q6 (by decide), iK.fr q6 (by decide), iD.fr q6 (by decide), iC.fr q6 (by decide), iL.fr q6 (by decide)⟩⟩
theorem cs_20 (hS : St P σ x) (hI : Iv x σ) (hX : Ax L xs v4 y1 y2 y3 y4 y5 y6) : Cs x v4 σ (f_L_law_D1602_23 P L xs b x (x + 1497) (x + 1575) v4 σ) := by
  obtain ⟨iT, iG, iR, iP, iK, iD, iC, iL⟩ := hI
  obtain ⟨a1, a2, a3, a4, -, -⟩ := hX
  unfold f_L_law_D1602_23
  by_cases z : y3 = 0
  · obtain ⟨k, v, τ1, τ2, q1, q2, q3, q4, q5, q6, q7⟩ := g_meshS hS iG y1 y2 0 y4 (Or.inl rfl)
    simp only [↓mtb_r a1, ↓mtb_r a2, ↓mtb_r a3, ↓mtb_r a4, f_L_law_D1629_23, f_L_law_D1668_23, if_pos z]
    exact ⟨τ2, co_32 (D := fun τ => f_L_law_D1707_23 P L xs b x (x + 1497) (x + 1575) v4 τ) hS.1 q1 q2 q3 q4 q5 q6.1, q6.k, ⟨iT.fr q6 (by decide), q7, iR.fr q6 (by decide), iP.fr q6 (by decide), iK.fr q6 (by decide), iD.fr q6 (by decide), iC.fr q6 (by decide), iL.fr q6 (by decide)⟩⟩
  · obtain ⟨k, v, τ1, τ2, q1, q2, q3, q4, q5, q6, q7⟩ := g_meshS hS iG y1 y2 1 y4 (Or.inr rfl)
    simp only [↓mtb_r a1, ↓mtb_r a2, ↓mtb_r a3, ↓mtb_r a4, f_L_law_D1629_23, f_L_law_D1668_23, if_neg z]
    exact ⟨τ2, co_32 (D := fun τ => f_L_law_D1707_23 P L xs b x (x + 1497) (x + 1575) v4 τ) hS.1 q1 q2 q3 q4 q5 q6.1, q6.k, ⟨iT.fr q6 (by decide), q7, iR.fr q6 (by decide), iP.fr q6 (by decide), iK.fr q6 (by decide), iD.fr q6 (by decide), iC.fr q6 (by decide), iL.fr q6 (by decide)⟩⟩
theorem cs_25 (hS : St P σ x) (hI : Iv x σ) (hX : Ax L xs v4 y1 y2 y3 y4 y5 y6) : Cs x v4 σ (f_L_law_D1873_23 P L xs b x (x + 1497) (x + 1575) v4 σ) := by
  obtain ⟨iT, iG, iR, iP, iK, iD, iC, iL⟩ := hI
  obtain ⟨a1, a2, a3, -, -, -⟩ := hX
  have iG1 := iG
  obtain ⟨gs, ms, sh, iG0, -⟩ := iG1
  unfold f_L_law_D1873_23
  by_cases z : y3 = 0
  · obtain ⟨k, v, τ1, τ2, q1, q2, q3, q4, q5, q6, q7⟩ := g_interference hS iG0 y1 y2 0
    simp only [↓mtb_r a1, ↓mtb_r a2, ↓mtb_r a3, f_L_law_D1900_23, f_L_law_D1933_23, if_pos z]
    exact ⟨τ2, co_32 (D := fun τ => f_L_law_D1966_23 P L xs b x (x + 1497) (x + 1575) v4 τ) hS.1 q1 q2 q3 q4 q5 q6.1, q6.k, ⟨iT.fr q6 (by decide), iG.fr q6 (by decide), iR.fr q6 (by decide), iP.fr q6 (by decide), iK.fr q6 (by decide), iD.fr q6 (by decide), iC.fr q6 (by decide), iL.fr q6 (by decide)⟩⟩
  · obtain ⟨k, v, τ1, τ2, q1, q2, q3, q4, q5, q6, q7⟩ := g_interference hS iG0 y1 y2 1
    simp only [↓mtb_r a1, ↓mtb_r a2, ↓mtb_r a3, f_L_law_D1900_23, f_L_law_D1933_23, if_neg z]
    exact ⟨τ2, co_32 (D := fun τ => f_L_law_D1966_23 P L xs b x (x + 1497) (x + 1575) v4 τ) hS.1 q1 q2 q3 q4 q5 q6.1, q6.k, ⟨iT.fr q6 (by decide), iG.fr q6 (by decide), iR.fr q6 (by decide), iP.fr q6 (by decide), iK.fr q6 (by decide), iD.fr q6 (by decide), iC.fr q6 (by decide), iL.fr q6 (by decide)⟩⟩
theorem cs_22 (hS : St P σ x) (hI : Iv x σ) (hX : Ax L xs v4 y1 y2 y3 y4 y5 y6) : Cs x v4 σ (f_L_law_D1782_23 P L xs b x (x + 1497) (x + 1575) v4 σ) := by
  obtain ⟨iT, iG, iR, iP, iK, iD, iC, iL⟩ := hI
  obtain ⟨τ1, τ2, e1, e2, e3, q6, q7⟩ := g_clearS hS iG
  refine ⟨τ2, ?_, q6.k, ⟨iT.fr q6 (by decide), q7, iR.fr q6 (by decide), iP.fr q6 (by decide), iK.fr q6 (by decide), iD.fr q6 (by decide), iC.fr q6 (by decide), iL.fr q6 (by decide)⟩⟩
  unfold f_L_law_D1782_23
  rw [q_is (LyH_o hS.1), Option.bind_some, e1, Option.bind_some, q_is (by rw [e3]; exact (LyH_m hS.1).1), Option.bind_some, e2, Option.bind_some]
  rfl
theorem cs_d (hI : Iv x σ) : Cs x v4 σ (f_L_law_D2910_23 P L xs b x (x + 1497) (x + 1575) v4 σ) := ⟨σ, rfl, Wk.rf, hI⟩
set_option maxRecDepth 20000 in
theorem cs_all {y0 : Int32} (hS : St P σ x) (hI : Iv x σ) (hX : Ax L xs v4 y1 y2 y3 y4 y5 y6) (h0 : mt_x L xs v4 = some y0) (hg : ¬ ((nI L) - (7 : Int32)) < v4) : Cs x v4 σ (f_L_law_B23 P L xs b x (x + 1497) (x + 1575) v4 σ) := by
  unfold f_L_law_B23
  rw [if_neg hg, mtb_r h0]
  exact Cs_i (cs_0 hS hI hX) (Cs_i (cs_1 hS hI hX) (Cs_i (cs_2 hS hI hX) (Cs_i (cs_3 hS hI hX) (Cs_i (cs_4 hS hI hX) (Cs_i (cs_5 hS hI hX) (Cs_i (cs_6 hS hI hX) (Cs_i (cs_7 hS hI hX) (Cs_i (cs_8 hS hI hX) (Cs_i (cs_9 hS hI hX) (Cs_i (cs_10 hS hI hX) (Cs_i (cs_11 hS hI hX) (Cs_i (cs_12 hS hI hX) (Cs_i (cs_13 hS hI hX) (Cs_i (cs_14 hS hI hX) (Cs_i (cs_15 hS hI hX) (Cs_i (cs_16 hS hI hX) (Cs_i (cs_17 hS hI hX) (Cs_i (cs_18 hS hI hX) (Cs_i (cs_19 hS hI hX) (Cs_i (cs_20 hS hI hX) (Cs_i (cs_21 hS hI hX) (Cs_i (cs_22 hS hI hX) (Cs_i (cs_23 hS hI hX) (Cs_i (cs_24 hS hI hX) (Cs_i (cs_25 hS hI hX) (Cs_i (cs_26 hS hI hX) (Cs_i (cs_27 hS hI hX) (Cs_i (cs_28 hS hI hX) (Cs_i (cs_29 hS hI hX) (Cs_i (cs_30 hS hI hX) (Cs_i (cs_31 hS hI hX) (Cs_i (cs_32 hS hI hX) (Cs_i (cs_33 hS hI hX) (Cs_i (cs_34 hS hI hX) (Cs_i (cs_35 hS hI hX) (Cs_i (cs_36 hS hI hX) (Cs_i (cs_37 hS hI hX) (Cs_i (cs_38 hS hI hX) (Cs_i (cs_39 hS hI hX) (Cs_i (cs_40 hS hI hX) (cs_d hI)))))))))))))))))))))))))))))))))))))))))
end MLS
