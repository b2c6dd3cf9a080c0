/-! ===== lo: drive, the reference's statement ===== -/
section LOS
variable {P : mx_P} {σ σ0 σ1 σ2 τ : mx_S} {x m n t l p a N i k j u v c f s b q K nk : Nat} {bl w : List Nat} {S : Nat → Nat → Prop} {fs : Option (Nat × Nat)} {B : LB}
theorem dM_s (ef : dfF bl N u = f) (i : Nat) : msm bl N 2 (dgk f) (psI bl N (sqA bl N 2 u) 1) i = !fit (dLt bl N u i) (kdA bl (tkI bl N (sqA bl N 2 u) (i + 1))) := by
  unfold msm dLt dgl
  rw [tk_sh, ef]
theorem dM_f (f4 : f < 4) (ef : dfF bl N u = f) (k2 : kdA bl (tkI bl N (sqA bl N 2 u) 0) = 2) (hw : wfm bl 2 (tkI bl N (sqA bl N 2 u) 0) = some (dgk f)) (hj : j < dgn f) (hg : ∀ i, i < j → fit (dLt bl N u i) (kdA bl (tkI bl N (sqA bl N 2 u) (i + 1))) = true) (hn : fit (dLt bl N u j) (kdA bl (tkI bl N (sqA bl N 2 u) (j + 1))) = false) : StF bl N 2 (sqA bl N 2 u) (tkI bl N (sqA bl N 2 u) (j + 1)) := by
  refine Or.inr ⟨_, _, j, k2, hw, dg_n ⟨f, f4⟩, Or.inl (fst_at hj ?_ (fst_nn fun i hi => ?_)), (tk_sh _).symm⟩
  · rw [dM_s ef, hn]; rfl
  · rw [dM_s ef, hg i hi]; rfl
theorem dM_o (ef : dfF bl N u = f) (hg : ∀ i, i < dgn f → fit (dLt bl N u i) (kdA bl (tkI bl N (sqA bl N 2 u) (i + 1))) = true) : r_fst (msm bl N 2 (dgk f) (psI bl N (sqA bl N 2 u) 1)) (dgn f) = none := fst_nn fun i hi => by rw [dM_s ef, hg i hi]; rfl
theorem dls_40 (h : ¬ u < 40) : dLs bl N B nk (u + 1) ≠ none := fun z => by
  have := d_no z u (by omega)
  unfold dK at this
  rw [if_pos (by omega)] at this
  exact absurd this (by simp)
def dIx (u : Nat) : Int32 := if u < 40 then q_n u else 39
def dKp (u : Nat) : Int32 := if u < 40 then 1 else 0
/-- the rest of a statement does nothing behind a fault -/
theorem r_vX {v1 v2 v3 v4 v5 v6 v7 : Int32} {v8 : Int64} (h : RvX σ0 m bl q σ) : f_X12_driveStatement_D327 P m v1 v2 v3 v4 v5 v6 v7 v8 σ = some σ ∧ f_X12_driveStatement_D187 P m v1 v2 v3 v4 v5 σ = some σ ∧ f_X12_driveStatement_D166 P m v1 v2 v3 v4 σ = some σ := by
  have hM := h.1.1
  have D327 : ∀ v1 v2 v3 v4 v5 v6 v7 : Int32, ∀ v8, f_X12_driveStatement_D327 P m v1 v2 v3 v4 v5 v6 v7 v8 σ = some σ := fun v1 v2 v3 v4 v5 v6 v7 v8 => by
    unfold f_X12_driveStatement_D327 f_X12_driveStatement_D342 f_X12_ends f_X12_ends_D13
    rw [bd (am_is hM), bd (am_is hM), bd2 (r_tkB hM h.2.1), if_pos rfl, Option.bind_some, bd (am_gI hM), h.2.1, if_pos (show (0 : Int32) < 1 by decide)]
  have D187 : ∀ v1 v2 v3 v4 v5 : Int32, f_X12_driveStatement_D187 P m v1 v2 v3 v4 v5 σ = some σ := fun v1 v2 v3 v4 v5 => by
    unfold f_X12_driveStatement_D187
    split
    · rw [bd (am_is hM), bd2 (r_tkB hM h.2.1), if_pos rfl]
    · exact D327 _ _ _ _ _ _ _ _
  refine ⟨D327 _ _ _ _ _ _ _ _, D187 _ _ _ _ _, ?_⟩
  unfold f_X12_driveStatement_D166
  split
  · exact D187 _ _ _ _ _
  · unfold f_X12_taken
    rw [bd (am_is hM), bd (am_is hM), bd2 (r_tkB hM h.2.1), if_pos rfl, bd2 rfl]
    exact D187 _ _ _ _ _
/-- the end of statement u -/
theorem r_vE {v4 v5 v6 : Int32} {x7 : Bool} {v8 : Int64} (hN : N = 4000) (hf : 20000 ≤ mpN P) (hb : mpb P ≤ m) (hp : sqA bl N 2 u ≤ bl.length) (f4 : f < 4) (ef : dfF bl N u = f) (k2 : kdA bl (tkI bl N (sqA bl N 2 u) 0) = 2) (hw : wfm bl 2 (tkI bl N (sqA bl N 2 u) 0) = some (dgk f)) (hg : ∀ i, i < dgn f → fit (dLt bl N u i) (kdA bl (tkI bl N (sqA bl N 2 u) (i + 1))) = true) (h : RvJ σ0 m bl N B nk u (dgn f + 1) (gE bl N B nk u (dgn f)) σ) (hv : dLs bl N B nk (u + 1) = none → v4 = q_n (dO bl N B nk u).2.1 ∧ (f < 2 → v5.toInt = (dO bl N B nk u).2.2.1) ∧ (f = 1 → v6 = q_n (dO bl N B nk u).2.2.2.1 ∧ x7 = (!(dO bl N B nk u).2.2.2.2.1) ∧ v8.toInt = (dO bl N B nk u).2.2.2.2.2)) : ∃ τ, f_X12_driveStatement_D327 P m (q_n f) (dIx u) (dKp u) v4 v5 v6 (bI x7) v8 σ = some τ ∧ RvP σ0 m bl N B nk u τ := by
  have gn : gE bl N B nk u (dgn f) = dLs bl N B nk (u + 1) := by rw [← ef]; exact gE_n
  rw [gn] at h
  obtain ⟨a1, a2, a3, a4, a5, a6, a7⟩ := h
  have hM := a1.1
  have hG := dg_n ⟨f, f4⟩
  have hno := dM_o ef hg
  unfold f_X12_driveStatement_D327 f_X12_driveStatement_D342 f_X12_ends f_X12_ends_D13
  rw [bd (am_is hM)]
  by_cases c : kdA bl (tkI bl N (sqA bl N 2 u) (dgn f + 1)) = 59
  · have c' : kdA bl (tkI bl N (psI bl N (sqA bl N 2 u) 1) (dgn f)) = 59 := by rw [tk_sh]; exact c
    have hSt : StO bl N 2 (sqA bl N 2 u) (dgk f) (dgn f) := ⟨k2, hw, hG, hno, c'⟩
    have e1 : sqA bl N 2 (u + 1) = psI bl N (sqA bl N 2 u) (dgn f + 2) := nxA_e hSt
    have ty : f_X12_takes P m 59 σ = some (1, σ) := r_tkY hM a2.1 (by rw [a7.2.1, c]; rfl)
    have hs := (tkI_le (N := N) hp (dgn f + 1)).2
    obtain ⟨τ, e, b2, fz⟩ := r_tok (P := P) hN hf hM hb a1.2.1 (a7.1 (by rw [c]; decide)) (enA_le hs).2.1
    have b1 : RvB σ0 m bl τ := RvB_f a1 fz fun q j z => by unfold rdF2; omega
    have b2' : TkR τ m bl (tkI bl N (sqA bl N 2 (u + 1)) 0) := by
      have : tkI bl N (sqA bl N 2 (u + 1)) 0 = tkI bl N (sqA bl N 2 u) (dgn f + 1 + 1) := by
        show skN bl N (sqA bl N 2 (u + 1)) = _
        rw [e1]; rfl
      rw [this]; exact b2
    have le : tkI bl N (sqA bl N 2 u) (dgn f + 1) ≤ sqA bl N 2 (u + 1) := by
      rw [e1]
      exact (enA_le (bs := bl) hs).1
    have z4 : mxI τ m 4 = 0 := (fz.gi (by omega)).trans a2.1
    have z5 : mxI τ m 5 = 0 := (fz.gi (by omega)).trans a2.2
    have ft := FtL_f a3 fz (fun q j z => by omega)
    have c105 : mxI τ m 105 = q_n (min u 40) := (fz.gi (by omega)).trans a5
    have olds : dLs bl N B nk (u + 1) = none → ∀ v, v < u → DVr τ m (dO bl N B nk) v := fun hn v hv' => by
      have hn' : dLs bl N B nk u = none := by
        have h' : (match dLs bl N B nk u with | some z => some z | none => dK bl N B nk u) = none := hn
        cases hz : dLs bl N B nk u with
        | some z => rw [hz] at h'; exact absurd h' (by simp)
        | none => rfl
      exact DVr_f (a6 hn' v hv') fz (fun q j z => by omega)
    have body : ((mx_is σ m 12).bind fun i1 => mx_b2 (f_X12_takes P m (59 : Int32) σ) fun x4 σ3 => (if x4 = 0 then some σ3 else (mx_is σ3 m 12).bind fun i7 => (f_X12_scan P m σ3).bind fun σ9 => some σ9)) = some τ := by
      rw [bd (am_is hM), bd2 ty, if_neg zi10, bd (am_is hM), bd e]
    have Mτ := b1.1
    rw [bd body, bd (am_gI Mτ), z4, if_neg (show ¬ (0 : Int32) < 0 by decide)]
    by_cases u40 : u < 40
    · have w2 : dIx u = q_n u := by unfold dIx; rw [if_pos u40]
      have w3 : dKp u = 1 := by unfold dKp; rw [if_pos u40]
      have vn : vp_nar .boolean (bI x7) = bI x7 := by cases x7 <;> decide
      obtain ⟨s1, E1⟩ : ∃ s1, s1 = mx_setI τ (m + 72) u (q_n f) := ⟨_, rfl⟩
      obtain ⟨s2, E2⟩ : ∃ s2, s2 = mx_setI s1 (m + 73) u v4 := ⟨_, rfl⟩
      obtain ⟨s3, E3⟩ : ∃ s3, s3 = mx_setI s2 (m + 74) u v5 := ⟨_, rfl⟩
      obtain ⟨s4, E4⟩ : ∃ s4, s4 = mx_setI s3 (m + 75) u v6 := ⟨_, rfl⟩
      obtain ⟨s5, E5⟩ : ∃ s5, s5 = mx_setI s4 (m + 76) u (bI x7) := ⟨_, rfl⟩
      obtain ⟨s6, E6⟩ : ∃ s6, s6 = mx_setL s5 (m + 77) u v8 := ⟨_, rfl⟩
      have g1 : Fz (fun q i => m + 72 ≤ q ∧ q ≤ m + 77 ∧ i = u) τ s1 := by rw [E1]; exact Fz.rf.sI (by omega) _
      have g2 : Fz (fun q i => m + 72 ≤ q ∧ q ≤ m + 77 ∧ i = u) τ s2 := by rw [E2]; exact g1.sI (by omega) _
      have g3 : Fz (fun q i => m + 72 ≤ q ∧ q ≤ m + 77 ∧ i = u) τ s3 := by rw [E3]; exact g2.sI (by omega) _
      have g4 : Fz (fun q i => m + 72 ≤ q ∧ q ≤ m + 77 ∧ i = u) τ s4 := by rw [E4]; exact g3.sI (by omega) _
      have g5 : Fz (fun q i => m + 72 ≤ q ∧ q ≤ m + 77 ∧ i = u) τ s5 := by rw [E5]; exact g4.sI (by omega) _
      have g6 : Fz (fun q i => m + 72 ≤ q ∧ q ≤ m + 77 ∧ i = u) τ s6 := by rw [E6]; exact g5.sL (by omega) _
      have c105' : mxI s6 m 105 = q_n (min u 40) := (g6.gi (by omega)).trans c105
      rw [w2, w3, if_neg zi10, bd (am_r106 Mτ), bd (am_s106 Mτ hb u40 _), ← E1, bd (am_r107 (g1.M Mτ)), bd (am_s107 (g1.M Mτ) hb u40 _), ← E2, bd (am_r108 (g2.M Mτ)), bd (am_s108 (g2.M Mτ) hb u40 _), ← E3, bd (am_r109 (g3.M Mτ)), bd (am_s109 (g3.M Mτ) hb u40 _), ← E4, bd (am_r110 (g4.M Mτ)), vn, bd (am_s110 (g4.M Mτ) hb u40 _), ← E5, bd (am_r111 (g5.M Mτ)), bd (am_s111 (g5.M Mτ) hb u40 _), ← E6, bd (am_gI (g6.M Mτ)), c105', q_nS, bd (am_pI (g6.M Mτ) hb _)]
      have fz2 : Fz (fun q i => (m + 72 ≤ q ∧ q ≤ m + 77 ∧ i = u) ∨ (q = m ∧ i = 105)) τ (mx_setI s6 m 105 (q_n (min u 40 + 1))) := (g6.mo fun q j z => Or.inl z).sI (Or.inr ⟨rfl, rfl⟩) _
      refine ⟨_, rfl, Or.inl ⟨⟨_, _, hSt⟩, RvB_f b1 fz2 (fun q j z => by unfold rdF2; omega), ⟨(fz2.gi (by omega)).trans z4, (fz2.gi (by omega)).trans z5⟩, FtL_f ft fz2 (fun q j z => by omega), fun z hz => Nat.le_trans (a4 z hz) le, ?_, fun hn v hv' => ?_, TkR_f b2' fz2 (fun q j z => by omega)⟩⟩
      · rw [sI_e]
        congr 1
        omega
      · by_cases ev : v = u
        · subst ev
          obtain ⟨y1, y2, y3⟩ := hv hn
          refine ⟨?_, ?_, fun z => ?_, fun z => ?_⟩
          · rw [sI_n (by omega), E6, IsL, E5, sI_n (by omega), E4, sI_n (by omega), E3, sI_n (by omega), E2, sI_n (by omega), E1, sI_e]
            show _ = q_n (dfF bl N v)
            rw [ef]
          · rw [sI_n (by omega), E6, IsL, E5, sI_n (by omega), E4, sI_n (by omega), E3, sI_n (by omega), E2, sI_e]; exact y1
          · rw [sI_n (by omega), E6, IsL, E5, sI_n (by omega), E4, sI_n (by omega), E3, sI_e]
            exact y2 (by rw [← ef]; exact z)
          · obtain ⟨x1, x2, x3⟩ := y3 (by rw [← ef]; exact z)
            refine ⟨?_, ?_, ?_⟩
            · rw [sI_n (by omega), E6, IsL, E5, sI_n (by omega), E4, sI_e]; exact x1
            · rw [sI_n (by omega), E6, IsL, E5, sI_e, x2]
            · rw [LsI, E6, sL_e]; exact x3
        · exact DVr_f (olds hn v (by omega)) fz2 (fun q j z => by omega)
    · have w3 : dKp u = 0 := by unfold dKp; rw [if_neg u40]
      rw [w3, if_pos rfl]
      refine ⟨τ, rfl, Or.inl ⟨⟨_, _, hSt⟩, b1, ⟨z4, z5⟩, ft, fun z hz => Nat.le_trans (a4 z hz) le, ?_, fun hn => absurd hn (dls_40 u40), b2'⟩⟩
      rw [c105]
      congr 1
      omega
  · obtain ⟨τ, e, h3, h4, fz⟩ := r_tkN (P := P) (w := 59) hM hb a2.1 (by rw [a7.2.1]; exact fun z => c (rk59 z))
    have hMτ := fz.M hM
    have body : ((mx_is σ m 12).bind fun i1 => mx_b2 (f_X12_takes P m (59 : Int32) σ) fun x4 σ3 => (if x4 = 0 then some σ3 else (mx_is σ3 m 12).bind fun i7 => (f_X12_scan P m σ3).bind fun σ9 => some σ9)) = some τ := by
      rw [bd (am_is hM), bd2 e, if_pos rfl]
    rw [bd body, bd (am_gI hMτ), h3, if_pos (show (0 : Int32) < 1 by decide)]
    exact ⟨τ, rfl, Or.inr ⟨tkI bl N (sqA bl N 2 u) (dgn f + 1), Or.inr ⟨_, _, dgn f, k2, hw, hG, Or.inr ⟨hno, rfl, by rw [tk_sh]; exact c⟩, (tk_sh _).symm⟩, RvB_f a1 fz (fun q j z => by unfold wrF at z; unfold rdF2; omega), h3, h4.trans a7.2.2.1⟩⟩
theorem rk43 {v : Int32} : (rk v = 43 ↔ v = 43) ∧ (rk v = 45 ↔ v = 45) := by
  unfold rk
  by_cases c2 : v = 2
  · rw [if_pos c2, c2]; decide
  · rw [if_neg c2]
    by_cases c3 : v = 3
    · rw [if_pos c3, c3]; decide
    · rw [if_neg c3]
      by_cases c1 : v = 1
      · rw [if_pos c1, c1]; decide
      · rw [if_neg c1]; exact ⟨Iff.rfl, Iff.rfl⟩
/-- an until's point, axis and limit -/
theorem r_vU {v4 v5 : Int32} (hN : N = 4000) (hf : 20000 ≤ mpN P) (hb : mpb P ≤ m) (hp : sqA bl N 2 u ≤ bl.length) (ef : dfF bl N u = 1) (k2 : kdA bl (tkI bl N (sqA bl N 2 u) 0) = 2) (hw : wfm bl 2 (tkI bl N (sqA bl N 2 u) 0) = some (dgk 1)) (hg : ∀ i, i < 2 → fit (dLt bl N u i) (kdA bl (tkI bl N (sqA bl N 2 u) (i + 1))) = true) (hrB : ∀ s, Fz (rdF2 m) σ0 s → rB s m nk B ∧ mxI s m 19 = q_n nk) (hB : LBok nk B) (hn : nk ≤ 40) (h : RvJ σ0 m bl N B nk u 3 (gE bl N B nk u 2) σ) (hv : dLs bl N B nk (u + 1) = none → v4 = q_n (dO bl N B nk u).2.1 ∧ v5.toInt = (dO bl N B nk u).2.2.1) : ∃ τ, f_X12_driveStatement_D187 P m (q_n 1) (dIx u) (dKp u) v4 v5 σ = some τ ∧ RvP σ0 m bl N B nk u τ := by
  obtain ⟨-, -, -, -, l4, l5, l6, -, -⟩ := dg_l
  have e2 : dLt bl N u 2 = 80 := by unfold dLt; rw [ef]; exact l4
  have e3 : dLt bl N u 3 = 68 := by unfold dLt; rw [ef]; exact l5
  have e4 : dLt bl N u 4 = 118 := by unfold dLt; rw [ef]; exact l6
  have n5 : dgn 1 = 5 := rfl
  obtain ⟨a1, a2, a3, a4, a5, a6, a7⟩ := id h
  have hM := a1.1
  have h256 := TS_256 a1.2.1
  have hlen := a1.2.1.1
  have hs3 := (tkI_le (N := N) hp 3).2
  unfold f_X12_driveStatement_D187
  rw [if_pos (show q_n 1 = (1 : Int32) from rfl), bd (am_is hM)]
  by_cases c2 : kdA bl (tkI bl N (sqA bl N 2 u) 3) = 2
  · have ty : f_X12_takes P m 1 σ = some (1, σ) := r_tkY hM a2.1 (by rw [a7.2.1, c2]; rfl)
    have ft2 : fit (dLt bl N u 2) (kdA bl (tkI bl N (sqA bl N 2 u) 3)) = true := by rw [e2, c2]; decide
    have en := enA_le (bs := bl) hs3
    have m14 := a7.1 (by rw [c2]; decide)
    have hgn : gnm (nmA bl (tkI bl N (sqA bl N 2 u) 3)) := wd_gnm h256 c2
    have hln : (nmA bl (tkI bl N (sqA bl N 2 u) 3)).length = enA bl (tkI bl N (sqA bl N 2 u) 3) - tkI bl N (sqA bl N 2 u) 3 := seg_len hs3
    have ec : dKt bl N u 2 = tkI bl N (sqA bl N 2 u) 3 := dK_t
    have g8 := hgn.2.1
    obtain ⟨rb, r19⟩ := hrB σ a1.2.2
    have pn := r_pnm (P := P) (s := tkI bl N (sqA bl N 2 u) 3) (w := nmA bl (tkI bl N (sqA bl N 2 u) 3)) (by omega) hM g8 (by omega) (fun j hj => by
      have hx := by_seg (bl := bl) (s := tkI bl N (sqA bl N 2 u) 3) (k := j) hs3 (by omega)
      have hy := by_i hj
      rw [hx] at hy
      have hz := Option.some.inj hy
      have hlt : tkI bl N (sqA bl N 2 u) 3 + j < bl.length := by omega
      have := a1.2.1.2.2 _ _ (by_i hlt)
      rw [← hz]
      exact this) rb hB hn r19
    rw [hln] at pn
    rw [bd2 ty, if_neg zi10, bd (am_gI hM), a7.2.2.1, bd (am_gI hM), m14, bd (am_gI hM), a7.2.2.1, bd (am_is hM), nsub (by omega) en.1, bd2 pn]
    -- behind the point
    have rest : ∀ s3 v6, RvJ σ0 m bl N B nk u 3 (gE bl N B nk u 3) s3 → (dcd bl N B nk u 2 = 0 → v6 = q_n (dO bl N B nk u).2.2.2.1) → ∃ τ, f_X12_driveStatement_D245 P m (q_n 1) (dIx u) (dKp u) v4 v5 v6 s3 = some τ ∧ RvP σ0 m bl N B nk u τ := fun s3 v6 J3 hv6 => by
      have M3 := J3.1.1
      obtain ⟨s4, e4', J4, -⟩ := RvJ_sc (P := P) hN hf hb hp J3 (by rw [c2]; decide)
      have M4 := J4.1.1
      have d3 : dcd bl N B nk u 3 = 0 := by unfold dcd; rw [if_neg (by omega), if_pos e3]
      have d4 : dcd bl N B nk u 4 = 0 := by
        unfold dcd; rw [if_neg (by omega), if_neg (by omega), e4]
        exact if_pos rfl
      have g3 : gE bl N B nk u 4 = gE bl N B nk u 3 := by
        show (if dcd bl N B nk u 3 = 0 then _ else _) = _
        rw [if_pos d3]
      have g4 : gE bl N B nk u 5 = gE bl N B nk u 3 := by
        show (if dcd bl N B nk u 4 = 0 then _ else _) = _
        rw [if_pos d4]; exact g3
      have t15 : mxI s4 m 15 = rk (kdA bl (tkI bl N (sqA bl N 2 u) 4)) := J4.2.2.2.2.2.2.2.1
      unfold f_X12_driveStatement_D245
      rw [bd (am_is M3), bd e4', bd (am_gI M4), t15]
      have D277 : (kdA bl (tkI bl N (sqA bl N 2 u) 4) = 43 ∨ kdA bl (tkI bl N (sqA bl N 2 u) 4) = 45) → ∃ τ, f_X12_driveStatement_D277 P m (q_n 1) (dIx u) (dKp u) v4 v5 v6 s4 = some τ ∧ RvP σ0 m bl N B nk u τ := fun hk => by
        have ft3 : fit (dLt bl N u 3) (kdA bl (tkI bl N (sqA bl N 2 u) 4)) = true := by
          rw [e3]
          rcases hk with y | y <;> rw [y] <;> decide
        have D291 : ∃ τ, f_X12_driveStatement_D291 P m (q_n 1) (dIx u) (dKp u) v4 v5 v6 (bI (!(dO bl N B nk u).2.2.2.2.1)) s4 = some τ ∧ RvP σ0 m bl N B nk u τ := by
          obtain ⟨s5, e5, J5, -⟩ := RvJ_sc (P := P) hN hf hb hp J4 (by rcases hk with y | y <;> rw [y] <;> decide)
          have M5 := J5.1.1
          unfold f_X12_driveStatement_D291
          rw [bd (am_is M4), bd e5, bd (am_is M5)]
          by_cases c5 : kdA bl (tkI bl N (sqA bl N 2 u) 5) = 3
          · have ty5 : f_X12_takes P m 2 s5 = some (1, s5) := r_tkY M5 J5.2.1.1 (by rw [J5.2.2.2.2.2.2.2.1, c5]; rfl)
            have ec4 : dKt bl N u 4 = tkI bl N (sqA bl N 2 u) 5 := dK_t
            have hR := J5.2.2.2.2.2.2.2.2.2 c5
            obtain ⟨bb1, bb2, bb3, bb4⟩ := rd_b hR (tp_b h256).1 (tp_b h256).2 (nmB_lt h256 _)
            have b65 := b64M (show B64 (65536 : Int64) 65536 65536 from ⟨rfl, by decide⟩) (show B64 (mxL s5 m 17) (mxL s5 m 17).toInt 10000 from ⟨rfl, by omega⟩) (by omega)
            obtain ⟨r7, e7, h7⟩ := k_dn (P := P) (x := (65536 : Int64) * mxL s5 m 17) (y := mxL s5 m 18) (by omega) (by rw [b65.1]; omega) s5
            rw [b65.1] at h7
            have hv8 : r7.toInt = (dO bl N B nk u).2.2.2.2.2 := by
              show r7.toInt = 65536 * dTp bl N u 4 / (dBt bl N u 4 : Int)
              unfold dTp dBt
              rw [ec4, h7]
              obtain ⟨g, gp, x1, x2, -⟩ := hR
              rw [x1, x2, ← Int.mul_assoc]
              exact (Int.mul_ediv_mul_of_pos_left _ _ (by omega)).symm
            obtain ⟨s6, e6, J6, -⟩ := RvJ_sc (P := P) hN hf hb hp J5 (by rw [c5]; decide)
            rw [bd2 ty5, if_neg zi10, bd (am_gL M5), bd (am_gL M5), bd2 e7, bd (am_is M5), bd e6]
            rw [← g4] at J6
            refine r_vE hN hf hb hp (by omega) ef k2 hw (fun i hi => ?_) J6 (fun hno => ?_)
            · obtain z | rfl | rfl | rfl : i < 2 ∨ i = 2 ∨ i = 3 ∨ i = 4 := by omega
              · exact hg i z
              · exact ft2
              · exact ft3
              · show fit (dLt bl N u 4) (kdA bl (tkI bl N (sqA bl N 2 u) 5)) = true
                rw [e4, c5]; decide
            · obtain ⟨y1, y2⟩ := hv hno
              have dc := (d_K (d_no hno u (by omega))).2 2 (by rw [ef]; omega)
              exact ⟨y1, fun _ => y2, fun _ => ⟨hv6 dc, rfl, hv8⟩⟩
          · obtain ⟨τ, e, h3, h4, fz⟩ := r_tkN (P := P) (w := 2) M5 hb J5.2.1.1 (by rw [J5.2.2.2.2.2.2.2.1]; exact fun z => c5 (rk2 z))
            rw [bd2 e, if_pos rfl]
            refine ⟨τ, rfl, Or.inr ⟨_, dM_f (j := 4) (by omega) ef k2 hw (by omega) (fun i hi => ?_) ?_, RvB_f J5.1 fz (fun q j z => by unfold wrF at z; unfold rdF2; omega), h3, h4.trans J5.2.2.2.2.2.2.2.2.1⟩⟩
            · obtain z | rfl | rfl : i < 2 ∨ i = 2 ∨ i = 3 := by omega
              · exact hg i z
              · exact ft2
              · exact ft3
            · rw [e4]
              unfold fit
              rw [if_neg (by decide), if_neg (by decide), if_neg (by decide)]
              exact decide_eq_false c5
        have ec3 : dKt bl N u 3 = tkI bl N (sqA bl N 2 u) 4 := dK_t
        unfold f_X12_driveStatement_D277
        rw [bd (am_gI M4), t15]
        rcases hk with y | y
        · have hy : (dO bl N B nk u).2.2.2.2.1 = false := by
            show decide (kdA bl (dKt bl N u 3) = 45) = false
            rw [ec3, y]; decide
          rw [hy] at D291
          rw [if_pos (rk43.1.mpr y)]
          exact D291
        · have hy : (dO bl N B nk u).2.2.2.2.1 = true := by
            show decide (kdA bl (dKt bl N u 3) = 45) = true
            rw [ec3, y]; decide
          rw [hy] at D291
          rw [if_neg (fun z => by have := rk43.1.mp z; rw [y] at this; exact absurd this (by decide))]
          exact D291
      by_cases p43 : kdA bl (tkI bl N (sqA bl N 2 u) 4) = 43
      · rw [if_pos (rk43.1.mpr p43)]
        exact D277 (Or.inl p43)
      · rw [if_neg (fun z => p43 (rk43.1.mp z)), bd (am_gI M4), t15]
        by_cases p45 : kdA bl (tkI bl N (sqA bl N 2 u) 4) = 45
        · rw [if_pos (rk43.2.mpr p45)]
          exact D277 (Or.inr p45)
        · obtain ⟨τ, e, h3, h4, fz⟩ := r_wrg (P := P) (w := 1) (v := q_n (tkI bl N (sqA bl N 2 u) 4)) M4 hb J4.2.1.1
          rw [if_neg (fun z => p45 (rk43.2.mp z)), bd (am_gI M4), J4.2.2.2.2.2.2.2.2.1, bd (am_is M4), bd e]
          refine ⟨τ, rfl, Or.inr ⟨_, dM_f (j := 3) (by omega) ef k2 hw (by omega) (fun i hi => ?_) ?_, RvB_f J4.1 fz (fun q j z => by unfold wrF at z; unfold rdF2; omega), h3, h4⟩⟩
          · obtain z | rfl : i < 2 ∨ i = 2 := by omega
            · exact hg i z
            · exact ft2
          · rw [e3]
            unfold fit
            rw [if_neg (by decide), if_pos rfl]
            exact decide_eq_false (fun y => by rcases y with y | y; exact p43 y; exact p45 y)
    have un : dcd bl N B nk u 2 = if (dPt B nk (nmA bl (tkI bl N (sqA bl N 2 u) 3))).isNone then 3 else 0 := by
      unfold dcd; rw [if_pos e2, ec]
    cases hpt : dPt B nk (nmA bl (tkI bl N (sqA bl N 2 u) 3)) with
    | none =>
      rw [hpt] at un
      have dc : dcd bl N B nk u 2 = 3 := un
      obtain ⟨s3, e3', F3, f3⟩ := r_foE (P := P) (c := 3) (q := tkI bl N (sqA bl N 2 u) 3) hM hb a3 (by omega) (by omega) (by omega) a4
      have F3' : FtL s3 m (gE bl N B nk u 3) := by
        show FtL s3 m (if dcd bl N B nk u 2 = 0 then _ else _)
        rw [dc, if_neg (by omega), ec]
        exact F3
      have J3 := RvJ_fn h f3 F3' (gE_b a4 (by rw [ec]; exact Nat.le_refl _))
      rw [if_neg (show ¬ (0 : Int32) ≤ r_fI none by decide), bd (am_gI hM), a7.2.2.1, bd (am_is hM), show (3 : Int32) = q_n 3 from rfl, bd e3']
      exact rest s3 _ J3 (fun z => by omega)
    | some pp =>
      rw [hpt] at un
      have dc : dcd bl N B nk u 2 = 0 := un
      have hpp : pp < nk := r_fst_lt hpt
      have J3 : RvJ σ0 m bl N B nk u 3 (gE bl N B nk u 3) σ := by
        have : gE bl N B nk u 3 = gE bl N B nk u 2 := by
          show (if dcd bl N B nk u 2 = 0 then _ else _) = _
          rw [if_pos dc]
        rw [this]; exact h
      rw [if_pos (show (0 : Int32) ≤ r_fI (some pp) by show (0 : Int32) ≤ q_n pp; rw [q_le, q_i0, q_nT (by omega)]; omega)]
      refine rest σ _ J3 (fun _ => ?_)
      show q_n pp = q_n ((dPt B nk (nmA bl (dKt bl N u 2))).getD 0)
      rw [ec, hpt]; rfl
  · obtain ⟨τ, e, h3, h4, fz⟩ := r_tkN (P := P) (w := 1) hM hb a2.1 (by rw [a7.2.1]; exact fun z => c2 (rk1 z))
    rw [bd2 e, if_pos rfl]
    refine ⟨τ, rfl, Or.inr ⟨_, dM_f (j := 2) (by omega) ef k2 hw (by omega) hg ?_, RvB_f a1 fz (fun q j z => by unfold wrF at z; unfold rdF2; omega), h3, h4.trans a7.2.2.1⟩⟩
    rw [e2]
    unfold fit
    rw [if_pos (by decide)]
    exact decide_eq_false c2
end LOS
