/-! ===== lb: cam, the reference's statement ===== -/
section LBS
variable {P : mx_P} {σ σ0 σ1 σ2 τ : mx_S} {x m n t l p a N i k j u v c f s b q K : Nat} {bl : List Nat} {S : Nat → Nat → Prop} {e : Option Nat} {fs : Option (Nat × Nat)}
theorem fst_nn {z : Nat → Bool} : ∀ {n : Nat}, (∀ p, p < n → z p = false) → r_fst z n = none
  | 0, _ => rfl
  | n + 1, h => by
    rw [r_fst, fst_nn (fun p hp => h p (by omega)), h n (by omega)]; rfl
def fE1 (bl : List Nat) (N u : Nat) : Option (Nat × Nat) := orE (cmLs bl N u) (if 30 ≤ u then some (6, tkI bl N (sqA bl N 1 u) 0) else none)
def fEn (bl : List Nat) (N u j : Nat) (fs : Option (Nat × Nat)) : Option (Nat × Nat) := if cRg bl N u j then fs else orE fs (some (5, cKt bl N u j))
theorem fE_1 (h0 : cfF bl N u = 0) : fEn bl N u 0 (fE1 bl N u) = cmLs bl N (u + 1) := by
  show _ = (match cmLs bl N u with | some z => some z | none => cmK bl N u)
  unfold fEn fE1 cmK
  rw [if_pos h0]
  cases cmLs bl N u with
  | some z => unfold orE; dsimp only; split <;> rfl
  | none =>
    unfold orE
    dsimp only
    by_cases u30 : 30 ≤ u
    · rw [if_pos u30, if_pos u30]; dsimp only; split <;> rfl
    · rw [if_neg u30, if_neg u30]
      cases cRg bl N u 0 <;> rfl
theorem fE_3 (h0 : cfF bl N u ≠ 0) : fEn bl N u 2 (fEn bl N u 1 (fEn bl N u 0 (fE1 bl N u))) = cmLs bl N (u + 1) := by
  show _ = (match cmLs bl N u with | some z => some z | none => cmK bl N u)
  unfold fEn fE1 cmK
  rw [if_neg h0]
  generalize cRg bl N u 0 = r0
  generalize cRg bl N u 1 = r1
  generalize cRg bl N u 2 = r2
  generalize cKt bl N u 0 = a0
  generalize cKt bl N u 1 = a1
  generalize cKt bl N u 2 = a2
  generalize tkI bl N (sqA bl N 1 u) 0 = a3
  generalize cmLs bl N u = ls
  cases ls with
  | some z => cases r0 <;> cases r1 <;> cases r2 <;> simp [orE]
  | none =>
    by_cases u30 : 30 ≤ u
    · rw [if_pos u30, if_pos u30]; cases r0 <;> cases r1 <;> cases r2 <;> simp [orE]
    · rw [if_neg u30, if_neg u30]; cases r0 <;> cases r1 <;> cases r2 <;> simp [orE]
theorem fE_b {B : Nat} (h : ∀ z, fs = some z → z.2 ≤ B) (hc : cKt bl N u j ≤ B) : ∀ z, fEn bl N u j fs = some z → z.2 ≤ B := fun z hz => by
  unfold fEn at hz
  split at hz
  · exact h z hz
  · cases fs with
    | some y => obtain rfl := Option.some.inj hz; exact h _ rfl
    | none => obtain rfl := Option.some.inj hz; exact hc
theorem ls_30 (h : ¬ u < 30) : cmLs bl N (u + 1) ≠ none := fun z => by
  have := cm_no z u (by omega)
  unfold cmK at this
  rw [if_pos (by omega)] at this
  exact absurd this (by simp)
theorem cK_t : cKt bl N u j = tkI bl N (sqA bl N 1 u) (j + 1) := tk_sh j
/-- a number is taken, or not -/
theorem RcJ_tk (hb : mpb P ≤ m) (h : RcJ σ0 m bl N u j fs σ) : (kdA bl (tkI bl N (sqA bl N 1 u) j) = 3 ∧ f_X12_takes P m (2 : Int32) σ = some (1, σ)) ∨ (kdA bl (tkI bl N (sqA bl N 1 u) j) ≠ 3 ∧ ∃ τ, f_X12_takes P m (2 : Int32) σ = some (0, τ) ∧ RcX σ0 m bl (tkI bl N (sqA bl N 1 u) j) τ) := by
  obtain ⟨a1, a2, a3, a4, a5, a6, a7⟩ := h
  by_cases c : kdA bl (tkI bl N (sqA bl N 1 u) j) = 3
  · exact Or.inl ⟨c, r_tkY a1.1 a2.1 (by rw [a7.2.1, c]; rfl)⟩
  · obtain ⟨τ, e, h3, h4, fz⟩ := r_tkN (P := P) (w := 2) a1.1 hb a2.1 (by rw [a7.2.1]; exact fun z => c (rk2 z))
    exact Or.inr ⟨c, τ, e, RcB_f a1 fz (fun q j z => by unfold wrF at z; unfold rcF; omega), h3, h4.trans a7.2.2.1⟩
/-- which part does not fit -/
theorem cM_f (f3 : f < 3) (k2 : kdA bl (tkI bl N (sqA bl N 1 u) 0) = 2) (hw : wfm bl 1 (tkI bl N (sqA bl N 1 u) 0) = some (cgk f)) (hj : j < cgn f) (hg : ∀ i, i < j → kdA bl (tkI bl N (sqA bl N 1 u) (i + 1)) = 3) : (kdA bl (tkI bl N (sqA bl N 1 u) (j + 1)) ≠ 3 → StF bl N 1 (sqA bl N 1 u) (tkI bl N (sqA bl N 1 u) (j + 1))) := fun hn => by
  obtain ⟨hG, hl⟩ := cg_n ⟨f, f3⟩
  have c3 : cgn f ≤ 3 := by unfold cgn; split <;> omega
  have ms : ∀ i, i < cgn f → msm bl N 1 (cgk f) (psI bl N (sqA bl N 1 u) 1) i = !decide (kdA bl (tkI bl N (sqA bl N 1 u) (i + 1)) = 3) := fun i hi => by
    unfold msm
    rw [tk_sh, show by' (gst 1) (cgk f + 1 + i) = cgl i from hl ⟨i, by omega⟩ hi]
    unfold fit cgl
    split
    · rfl
    · split <;> rfl
  refine Or.inr ⟨_, _, j, k2, hw, hG, Or.inl (fst_at hj ?_ (fst_nn fun i hi => ?_)), (tk_sh _).symm⟩
  · rw [ms j hj, decide_eq_false hn]; rfl
  · rw [ms i (by omega), decide_eq_true (hg i hi)]; rfl
theorem cM_o (f3 : f < 3) (hg : ∀ i, i < cgn f → kdA bl (tkI bl N (sqA bl N 1 u) (i + 1)) = 3) : r_fst (msm bl N 1 (cgk f) (psI bl N (sqA bl N 1 u) 1)) (cgn f) = none := by
  obtain ⟨hG, hl⟩ := cg_n ⟨f, f3⟩
  have c3 : cgn f ≤ 3 := by unfold cgn; split <;> omega
  refine fst_nn fun i hi => ?_
  unfold msm
  rw [tk_sh, show by' (gst 1) (cgk f + 1 + i) = cgl i from hl ⟨i, by omega⟩ hi, hg i hi]
  unfold cgl
  split
  · decide
  · split <;> decide
/-- faults and places written into the reference -/
theorem RcJ_st (h : RcJ σ0 m bl N u j fs σ) (f : Fz (fun q i => m + 54 ≤ q ∧ q ≤ m + 58 ∧ i = u) σ τ) : RcJ σ0 m bl N u j fs τ := by
  obtain ⟨a1, a2, a3, a4, a5, a6, a7⟩ := h
  exact ⟨RcB_f a1 f (fun q j z => by unfold rcF; omega), ⟨(f.gi (by omega)).trans a2.1, (f.gi (by omega)).trans a2.2⟩, FtL_f a3 f (fun q j z => by omega), a4, (f.gi (by omega)).trans a5, fun hn v hv => CVr_f (a6 hn v hv) f (fun q j z => by omega), TkR_f a7 f (fun q j z => by omega)⟩
theorem RcJ_fn {fs' : Option (Nat × Nat)} (h : RcJ σ0 m bl N u j fs σ) (f : Fz (fnF m) σ τ) (hF : FtL τ m fs') (hz : ∀ z, fs' = some z → z.2 ≤ tkI bl N (sqA bl N 1 u) j) : RcJ σ0 m bl N u j fs' τ := by
  obtain ⟨a1, a2, a3, a4, a5, a6, a7⟩ := h
  exact ⟨RcB_f a1 f (fun q j z => by unfold fnF at z; unfold rcF; omega), ⟨(f.gi (fun z => by unfold fnF at z; omega)).trans a2.1, (f.gi (fun z => by unfold fnF at z; omega)).trans a2.2⟩, hF, hz, (f.gi (fun z => by unfold fnF at z; omega)).trans a5, fun hn v hv => CVr_f (a6 hn v hv) f (fun q j z => by unfold fnF at z; omega), TkR_f a7 f (fun q j z => by unfold fnF at z; omega)⟩
def V54 (σ : mx_S) (m : Nat) (bl : List Nat) (N u : Nat) : Prop := u < 30 → mxI σ (m + 54) u = q_n (cfF bl N u) ∧ (cRg bl N u 0 = true → mxI σ (m + 55) u = q_n (cmW' bl N u))
def V56 (σ : mx_S) (m : Nat) (bl : List Nat) (N u : Nat) : Prop := u < 30 → (mxL σ (m + 56) u).toInt = cmT' bl N u ∧ (mxL σ (m + 57) u).toInt = cmB' bl N u
theorem V54_f (h : V54 σ m bl N u) (f : Fz S σ τ) (hs : ∀ q j, S q j → q ≠ m + 54 ∧ q ≠ m + 55) : V54 τ m bl N u := fun h3 => by
  rw [f.gi (fun z => (hs _ _ z).1 rfl), f.gi (fun z => (hs _ _ z).2 rfl)]; exact h h3
theorem V56_f (h : V56 σ m bl N u) (f : Fz S σ τ) (hs : ∀ q j, S q j → q ≠ m + 56 ∧ q ≠ m + 57) : V56 τ m bl N u := fun h3 => by
  rw [(f.2.2.2 _ _ (fun z => (hs _ _ z).1 rfl)).2, (f.2.2.2 _ _ (fun z => (hs _ _ z).2 rfl)).2]; exact h h3
/-- a whole number that is right, as an int -/
theorem wh_i {r : Int64} (hr : cRg bl N u j = true) (h3 : kdA bl (cKt bl N u j) = 3) (hj : j = 0 ∨ j = 2) (hR : Rdc (tpA bl (cKt bl N u j)) (nmB bl (nmD bl (cKt bl N u j))) r.toInt t) : r.toInt32 = q_n (cNm bl N u j) := by
  obtain ⟨g1, g2, g3, g4⟩ := cg_ok hr h3 hj
  have hw : ∃ lo hi, whB (tpA bl (cKt bl N u j)) (nmB bl (nmD bl (cKt bl N u j))) lo hi = true := by
    rcases hj with rfl | rfl
    · exact ⟨1, 360, hr⟩
    · exact ⟨1, 4, hr⟩
  obtain ⟨lo, hi, hw⟩ := hw
  have := rd_v hR (nmB_p h3) hw
  have b : cNm bl N u j ≤ 360 := by split at g3 <;> omega
  have : r = l_n (cNm bl N u j) := Int64.toInt.inj (by rw [this, g4, l_nT (by omega)])
  rw [this, l_nQ (by omega)]
theorem r_c4 (hN : N = 4000) (hf : 20000 ≤ mpN P) (hb : mpb P ≤ m) (hp : sqA bl N 1 u ≤ bl.length) (f3 : f < 3) (f0 : f ≠ 0) (ef : cfF bl N u = f) (k2 : kdA bl (tkI bl N (sqA bl N 1 u) 0) = 2) (hw : wfm bl 1 (tkI bl N (sqA bl N 1 u) 0) = some (cgk f)) (hg : ∀ i, i < 2 → kdA bl (tkI bl N (sqA bl N 1 u) (i + 1)) = 3) (hlen : bl.length ≤ 4000) (h : RcJ σ0 m bl N u 2 (fEn bl N u 1 (fEn bl N u 0 (fE1 bl N u))) σ) (hv4 : V54 σ m bl N u) (hv6 : V56 σ m bl N u) : ∃ τ, f_X12_camStatement_D234 P m (rcW u) σ = some τ ∧ RcP σ0 m bl N u τ := by
  have hM := h.1.1
  have n3 : cgn f = 3 := by unfold cgn; rw [if_neg f0]
  obtain ⟨s1, e1, J1, f1⟩ := RcJ_sc (P := P) hN hf hb hp h (by rw [hg 1 (by omega)]; decide)
  have M1 := J1.1.1
  unfold f_X12_camStatement_D234
  rw [bd (am_is hM), bd e1, bd (am_is M1)]
  rcases RcJ_tk (P := P) hb J1 with ⟨c3, ty⟩ | ⟨c3, τ, tn, hX⟩
  · rw [bd2 ty, if_neg zi10]
    have ec : cKt bl N u 2 = tkI bl N (sqA bl N 1 u) 3 := cK_t
    have hs := (tkI_le (N := N) hp 3).2
    obtain ⟨s2, e2, f2, F2⟩ := r_who (P := P) (lo := 1) (hi := 4) (L := 1) (H := 4) M1 hb J1.2.2.2.2.2.2 c3 (show tkI bl N (sqA bl N 1 u) 3 < 5000 by omega) J1.2.2.1 J1.2.2.2.1 rfl rfl
    have F2' : FtL s2 m (fEn bl N u 2 (fEn bl N u 1 (fEn bl N u 0 (fE1 bl N u)))) := by
      have : cRg bl N u 2 = whB (tpA bl (tkI bl N (sqA bl N 1 u) 3)) (nmB bl (nmD bl (tkI bl N (sqA bl N 1 u) 3))) 1 4 := by
        unfold cRg; rw [ec]; rfl
      unfold fEn
      rw [this, ec]
      exact F2
    have J2 := RcJ_fn J1 f2 F2' (fE_b J1.2.2.2.1 (by rw [ec]; exact Nat.le_refl _))
    have M2 := J2.1.1
    have v4 : V54 s2 m bl N u := V54_f (V54_f hv4 f1 (fun q j z => by omega)) f2 (fun q j z => by unfold fnF at z; omega)
    have v6 : V56 s2 m bl N u := V56_f (V56_f hv6 f1 (fun q j z => by omega)) f2 (fun q j z => by unfold fnF at z; omega)
    rw [bd (am_is M1), bd e2]
    have kd3 : ∀ i, i < cgn f → kdA bl (tkI bl N (sqA bl N 1 u) (i + 1)) = 3 := fun i hi => by
      obtain rfl | z : i = 2 ∨ i < 2 := by omega
      · exact c3
      · exact hg i z
    have last : ∀ s3, RcJ σ0 m bl N u 3 (fEn bl N u 2 (fEn bl N u 1 (fEn bl N u 0 (fE1 bl N u)))) s3 → V54 s3 m bl N u → V56 s3 m bl N u → (u < 30 → cRg bl N u 2 = true → mxI s3 (m + 58) u = q_n (cmL' bl N u)) → ∃ τ, f_X12_camStatement_D270 P m (rcW u) s3 = some τ ∧ RcP σ0 m bl N u τ := fun s3 J3 w4 w6 w8 => by
      obtain ⟨s4, e4, J4, f4⟩ := RcJ_sc (P := P) hN hf hb hp J3 (by rw [c3]; decide)
      rw [fE_3 (by rw [ef]; exact f0)] at J4
      unfold f_X12_camStatement_D270
      rw [bd (am_is J3.1.1), bd e4]
      refine r_cE hN hf hb hp f3 k2 hw (cM_o f3 kd3) (by rw [n3]; exact J4) (fun hn => ?_) ls_30
      have u30 : u < 30 := Classical.byContradiction fun z => ls_30 z hn
      obtain ⟨-, g0, g12⟩ := cm_K (cm_no hn u (by omega))
      obtain ⟨g1, g2⟩ := g12 (by rw [ef]; exact f0)
      have x4 := V54_f w4 f4 (fun q j z => by omega) u30
      have x6 := V56_f w6 f4 (fun q j z => by omega) u30
      exact ⟨x4.1, x4.2 g0, fun _ => ⟨x6.1, x6.2, (f4.gi (by omega)).trans (w8 u30 g2)⟩, fun z => absurd z (by rw [ef]; exact f0)⟩
    by_cases u30 : u < 30
    · obtain ⟨w1, w2⟩ := rcW_p u30
      have hr := J2.2.2.2.2.2.2.2.2.2 c3
      rw [← ec] at hr
      obtain ⟨s3, E3⟩ : ∃ s3, s3 = mx_setI s2 (m + 58) u ((mxL s2 m 17).toInt32) := ⟨_, rfl⟩
      have f3' : Fz (fun q i => m + 54 ≤ q ∧ q ≤ m + 58 ∧ i = u) s2 s3 := by rw [E3]; exact Fz.rf.sI (by omega) _
      rw [if_neg w2, bd (am_r85 M2), bd (am_gL M2), w1, bd (am_s85 M2 hb u30 _), ← E3, ← w1]
      refine last s3 (RcJ_st J2 f3') (fun _ => ?_) (fun _ => ?_) (fun _ hc => ?_)
      · rw [E3, sI_n (by omega), sI_n (by omega)]; exact v4 u30
      · rw [E3, LsI, LsI]; exact v6 u30
      · rw [E3, sI_e]
        have h3' : kdA bl (cKt bl N u 2) = 3 := by rw [ec]; exact c3
        obtain ⟨g1, g2, g3, g4⟩ := cg_ok hc h3' (Or.inr rfl)
        have hb4 : cNm bl N u 2 ≤ 4 := by rw [if_neg (by omega)] at g3; exact g3
        have hv := rd_v hr (nmB_p h3') (show whB _ _ 1 4 = true from hc)
        have : mxL s2 m 17 = l_n (cNm bl N u 2) := Int64.toInt.inj (by rw [hv, g4, l_nT (by omega)])
        rw [this, l_nQ (by omega)]; rfl
    · rw [if_pos (rcW_n u30)]
      exact last s2 J2 v4 v6 (fun z => absurd z u30)
  · rw [bd2 tn, if_pos rfl]
    exact ⟨τ, rfl, Or.inr ⟨_, cM_f (j := 2) f3 k2 hw (by rw [n3]; omega) hg c3, hX⟩⟩
theorem r_c3 (hN : N = 4000) (hf : 20000 ≤ mpN P) (hb : mpb P ≤ m) (hp : sqA bl N 1 u ≤ bl.length) (f3 : f < 3) (f0 : f ≠ 0) (ef : cfF bl N u = f) (k2 : kdA bl (tkI bl N (sqA bl N 1 u) 0) = 2) (hw : wfm bl 1 (tkI bl N (sqA bl N 1 u) 0) = some (cgk f)) (hg : ∀ i, i < 2 → kdA bl (tkI bl N (sqA bl N 1 u) (i + 1)) = 3) (hlen : bl.length ≤ 4000) (h : RcJ σ0 m bl N u 2 (fEn bl N u 1 (fEn bl N u 0 (fE1 bl N u))) σ) (hv4 : V54 σ m bl N u) : ∃ τ, f_X12_camStatement_D210 P m (rcW u) σ = some τ ∧ RcP σ0 m bl N u τ := by
  have hM := h.1.1
  unfold f_X12_camStatement_D210
  by_cases u30 : u < 30
  · obtain ⟨w1, w2⟩ := rcW_p u30
    have hr := h.2.2.2.2.2.2.2.2.2 (hg 1 (by omega))
    have ec : cKt bl N u 1 = tkI bl N (sqA bl N 1 u) 2 := cK_t
    rw [← ec] at hr
    obtain ⟨r1, r2⟩ := rd_f hr
    obtain ⟨s1, E1⟩ : ∃ s1, s1 = mx_setL σ (m + 56) u (mxL σ m 17) := ⟨_, rfl⟩
    obtain ⟨s2, E2⟩ : ∃ s2, s2 = mx_setL s1 (m + 57) u (mxL s1 m 18) := ⟨_, rfl⟩
    have f1 : Fz (fun q i => m + 54 ≤ q ∧ q ≤ m + 58 ∧ i = u) σ s1 := by rw [E1]; exact Fz.rf.sL (by omega) _
    have f2 : Fz (fun q i => m + 54 ≤ q ∧ q ≤ m + 58 ∧ i = u) σ s2 := by rw [E2]; exact f1.sL (by omega) _
    have M1 := f1.M hM
    have c18 : mxL s1 m 18 = mxL σ m 18 := by rw [E1]; exact sL_n (by omega)
    rw [if_neg w2, bd (am_r83 hM), bd (am_gL hM), w1, bd (am_s83 hM hb u30 _), ← E1, bd (am_r84 M1), bd (am_gL M1), bd (am_s84 M1 hb u30 _), ← E2, ← w1]
    refine r_c4 hN hf hb hp f3 f0 ef k2 hw hg hlen (RcJ_st h f2) (fun _ => ?_) (fun _ => ⟨?_, ?_⟩)
    · rw [E2, IsL, IsL, E1, IsL, IsL]; exact hv4 u30
    · rw [E2, sL_n (by omega), E1, sL_e]; exact r1
    · rw [E2, sL_e, c18]; exact r2
  · rw [if_pos (rcW_n u30)]
    exact r_c4 hN hf hb hp f3 f0 ef k2 hw hg hlen h hv4 (fun z => absurd z u30)
theorem r_c2 (hN : N = 4000) (hf : 20000 ≤ mpN P) (hb : mpb P ≤ m) (hp : sqA bl N 1 u ≤ bl.length) (f3 : f < 3) (ef : cfF bl N u = f) (k2 : kdA bl (tkI bl N (sqA bl N 1 u) 0) = 2) (hw : wfm bl 1 (tkI bl N (sqA bl N 1 u) 0) = some (cgk f)) (hg : kdA bl (tkI bl N (sqA bl N 1 u) 1) = 3) (hlen : bl.length ≤ 4000) (h : RcJ σ0 m bl N u 1 (fEn bl N u 0 (fE1 bl N u)) σ) (hv4 : V54 σ m bl N u) (hz : u < 30 → mxL σ (m + 56) u = 0 ∧ mxL σ (m + 57) u = 1 ∧ mxI σ (m + 58) u = 1) : ∃ τ, f_X12_camStatement_D159 P m (q_n f) (rcW u) σ = some τ ∧ RcP σ0 m bl N u τ := by
  have hM := h.1.1
  obtain ⟨s1, e1, J1, f1⟩ := RcJ_sc (P := P) hN hf hb hp h (by rw [hg]; decide)
  have M1 := J1.1.1
  have v4 : V54 s1 m bl N u := V54_f hv4 f1 (fun q j z => by omega)
  unfold f_X12_camStatement_D159
  rw [bd (am_is hM), bd e1]
  by_cases f0 : f = 0
  · rw [if_pos (show q_n f ≤ 0 by rw [f0]; decide)]
    rw [fE_1 (by rw [ef]; exact f0)] at J1
    have n1 : cgn f = 1 := by unfold cgn; rw [if_pos f0]
    refine r_cE hN hf hb hp f3 k2 hw (cM_o f3 fun i hi => ?_) (by rw [n1]; exact J1) (fun hn => ?_) ls_30
    · obtain rfl : i = 0 := by omega
      exact hg
    · have u30 : u < 30 := Classical.byContradiction fun z => ls_30 z hn
      obtain ⟨-, g0, -⟩ := cm_K (cm_no hn u (by omega))
      obtain ⟨z1, z2, z3⟩ := hz u30
      have x4 := v4 u30
      exact ⟨x4.1, x4.2 g0, fun z => absurd (ef.trans f0) z, fun _ => ⟨(f1.2.2.2 _ _ (by omega)).2.trans z1, (f1.2.2.2 _ _ (by omega)).2.trans z2, (f1.gi (by omega)).trans z3⟩⟩
  · have n3 : cgn f = 3 := by unfold cgn; rw [if_neg f0]
    rw [if_neg (show ¬ q_n f ≤ 0 from fun y => f0 (by have := (q_nLe (k := f) (l := 0) (by omega) (by omega)).mp y; omega)), bd (am_is M1)]
    rcases RcJ_tk (P := P) hb J1 with ⟨c3, ty⟩ | ⟨c3, τ, tn, hX⟩
    · have hg2 : ∀ i, i < 2 → kdA bl (tkI bl N (sqA bl N 1 u) (i + 1)) = 3 := fun i hi => by
        obtain rfl | rfl : i = 0 ∨ i = 1 := by omega
        · exact hg
        · exact c3
      have ec : cKt bl N u 1 = tkI bl N (sqA bl N 1 u) 2 := cK_t
      have hr := J1.2.2.2.2.2.2.2.2.2 c3
      rw [← ec] at hr
      have hs := (tkI_le (N := N) hp 2).2
      have h114 : cRg bl N u 1 = decide (0 < (mxL s1 m 17).toInt ∧ (mxL s1 m 17).toInt ≤ 60 * (mxL s1 m 18).toInt) := rd_114 hr
      obtain ⟨bb1, bb2, bb3, bb4⟩ := rd_b hr (tp_b (TS_256 J1.1.2.1)).1 (tp_b (TS_256 J1.1.2.1)).2 (nmB_lt (TS_256 J1.1.2.1) _)
      have b60 := b64M (show B64 (60 : Int64) 60 60 from ⟨rfl, by decide⟩) (show B64 (mxL s1 m 18) (mxL s1 m 18).toInt 10000 from ⟨rfl, by omega⟩) (by omega)
      rw [bd2 ty, if_neg zi10, bd (am_gL M1)]
      have bad : cRg bl N u 1 = false → ∃ τ, f_X12_camStatement_D201 P m (rcW u) s1 = some τ ∧ RcP σ0 m bl N u τ := fun hc => by
        obtain ⟨s2, e2, F2, f2⟩ := r_foE (P := P) (c := 5) (q := tkI bl N (sqA bl N 1 u) 2) M1 hb J1.2.2.1 (by omega) (by omega) (by omega) J1.2.2.2.1
        have F2' : FtL s2 m (fEn bl N u 1 (fEn bl N u 0 (fE1 bl N u))) := by
          show FtL s2 m (if cRg bl N u 1 = true then _ else _)
          rw [if_neg (by rw [hc]; decide), ec]
          exact F2
        have J2 := RcJ_fn J1 f2 F2' (fE_b J1.2.2.2.1 (by rw [ec]; exact Nat.le_refl _))
        unfold f_X12_camStatement_D201
        rw [bd (am_gI M1), J1.2.2.2.2.2.2.2.2.1, bd (am_is M1), show (5 : Int32) = q_n 5 from rfl, bd e2]
        exact r_c3 hN hf hb hp f3 f0 ef k2 hw hg2 hlen J2 (V54_f v4 f2 (fun q j z => by unfold fnF at z; omega))
      by_cases p0 : (mxL s1 m 17).toInt ≤ 0
      · rw [if_pos (l_np.mpr p0)]
        exact bad (by rw [h114]; exact decide_eq_false (by omega))
      · rw [if_neg (fun y => p0 (l_np.mp y)), bd (am_gL M1), bd (am_gL M1)]
        by_cases p6 : (mxL s1 m 17).toInt ≤ 60 * (mxL s1 m 18).toInt
        · rw [if_pos (by rw [q_cmp_le, q_lle, b60.1]; exact p6)]
          have hc : cRg bl N u 1 = true := by rw [h114]; exact decide_eq_true ⟨by omega, p6⟩
          have J1' : RcJ σ0 m bl N u 2 (fEn bl N u 1 (fEn bl N u 0 (fE1 bl N u))) s1 := by
            have : fEn bl N u 1 (fEn bl N u 0 (fE1 bl N u)) = fEn bl N u 0 (fE1 bl N u) := by
              show (if cRg bl N u 1 = true then _ else _) = _
              rw [if_pos hc]
            rw [this]; exact J1
          exact r_c3 hN hf hb hp f3 f0 ef k2 hw hg2 hlen J1' v4
        · rw [if_neg (by rw [q_cmp_le, q_lle, b60.1]; exact p6)]
          exact bad (by rw [h114]; exact decide_eq_false (by omega))
    · rw [bd2 tn, if_pos rfl]
      refine ⟨τ, rfl, Or.inr ⟨_, cM_f (j := 1) f3 k2 hw (by rw [n3]; omega) (fun i hi => ?_) c3, hX⟩⟩
      obtain rfl : i = 0 := by omega
      exact hg
theorem r_c1 (hN : N = 4000) (hf : 20000 ≤ mpN P) (hb : mpb P ≤ m) (hp : sqA bl N 1 u ≤ bl.length) (f3 : f < 3) (ef : cfF bl N u = f) (k2 : kdA bl (tkI bl N (sqA bl N 1 u) 0) = 2) (hw : wfm bl 1 (tkI bl N (sqA bl N 1 u) 0) = some (cgk f)) (hlen : bl.length ≤ 4000) (h : RcJ σ0 m bl N u 0 (fE1 bl N u) σ) : ∃ τ, f_X12_camStatement_D94 P m (q_n f) (rcW u) σ = some τ ∧ RcP σ0 m bl N u τ := by
  have hM := h.1.1
  obtain ⟨s1, e1, J1, f1⟩ := RcJ_sc (P := P) hN hf hb hp h (by rw [k2]; decide)
  have M1 := J1.1.1
  have n1 : 0 < cgn f := by unfold cgn; split <;> omega
  unfold f_X12_camStatement_D94
  rw [bd (am_is hM), bd e1, bd (am_is M1)]
  rcases RcJ_tk (P := P) hb J1 with ⟨c3, ty⟩ | ⟨c3, τ, tn, hX⟩
  · rw [bd2 ty, if_neg zi10]
    have ec : cKt bl N u 0 = tkI bl N (sqA bl N 1 u) 1 := cK_t
    have hs := (tkI_le (N := N) hp 1).2
    obtain ⟨s2, e2, f2, F2⟩ := r_who (P := P) (lo := 1) (hi := 360) (L := 1) (H := 360) M1 hb J1.2.2.2.2.2.2 c3 (show tkI bl N (sqA bl N 1 u) 1 < 5000 by omega) J1.2.2.1 J1.2.2.2.1 rfl rfl
    have F2' : FtL s2 m (fEn bl N u 0 (fE1 bl N u)) := by
      have : cRg bl N u 0 = whB (tpA bl (tkI bl N (sqA bl N 1 u) 1)) (nmB bl (nmD bl (tkI bl N (sqA bl N 1 u) 1))) 1 360 := by
        unfold cRg; rw [ec]; rfl
      unfold fEn
      rw [this, ec]
      exact F2
    have J2 := RcJ_fn J1 f2 F2' (fE_b J1.2.2.2.1 (by rw [ec]; exact Nat.le_refl _))
    have M2 := J2.1.1
    rw [bd (am_is M1), bd e2]
    by_cases u30 : u < 30
    · obtain ⟨w1, w2⟩ := rcW_p u30
      have hr := J2.2.2.2.2.2.2.2.2.2 c3
      rw [← ec] at hr
      obtain ⟨s3, E3⟩ : ∃ s3, s3 = mx_setI s2 (m + 54) u (q_n f) := ⟨_, rfl⟩
      obtain ⟨s4, E4⟩ : ∃ s4, s4 = mx_setI s3 (m + 55) u ((mxL s3 m 17).toInt32) := ⟨_, rfl⟩
      obtain ⟨s5, E5⟩ : ∃ s5, s5 = mx_setL s4 (m + 56) u 0 := ⟨_, rfl⟩
      obtain ⟨s6, E6⟩ : ∃ s6, s6 = mx_setL s5 (m + 57) u 1 := ⟨_, rfl⟩
      obtain ⟨s7, E7⟩ : ∃ s7, s7 = mx_setI s6 (m + 58) u 1 := ⟨_, rfl⟩
      have g3 : Fz (fun q i => m + 54 ≤ q ∧ q ≤ m + 58 ∧ i = u) s2 s3 := by rw [E3]; exact Fz.rf.sI (by omega) _
      have g4 : Fz (fun q i => m + 54 ≤ q ∧ q ≤ m + 58 ∧ i = u) s2 s4 := by rw [E4]; exact g3.sI (by omega) _
      have g5 : Fz (fun q i => m + 54 ≤ q ∧ q ≤ m + 58 ∧ i = u) s2 s5 := by rw [E5]; exact g4.sL (by omega) _
      have g6 : Fz (fun q i => m + 54 ≤ q ∧ q ≤ m + 58 ∧ i = u) s2 s6 := by rw [E6]; exact g5.sL (by omega) _
      have g7 : Fz (fun q i => m + 54 ≤ q ∧ q ≤ m + 58 ∧ i = u) s2 s7 := by rw [E7]; exact g6.sI (by omega) _
      have c17 : mxL s3 m 17 = mxL s2 m 17 := by rw [E3]; rfl
      rw [if_neg w2, bd (am_r81 M2), w1, bd (am_s81 M2 hb u30 _), ← E3, bd (am_r82 (g3.M M2)), bd (am_gL (g3.M M2)), bd (am_s82 (g3.M M2) hb u30 _), ← E4, bd (am_r83 (g4.M M2)), bd (am_s83 (g4.M M2) hb u30 _), ← E5, bd (am_r84 (g5.M M2)), bd (am_s84 (g5.M M2) hb u30 _), ← E6, bd (am_r85 (g6.M M2)), bd (am_s85 (g6.M M2) hb u30 _), ← E7, ← w1]
      refine r_c2 hN hf hb hp f3 ef k2 hw c3 hlen (RcJ_st J2 g7) (fun _ => ⟨?_, fun hc => ?_⟩) (fun _ => ⟨?_, ?_, ?_⟩)
      · rw [E7, sI_n (by omega), E6, IsL, E5, IsL, E4, sI_n (by omega), E3, sI_e, ef]
      · rw [E7, sI_n (by omega), E6, IsL, E5, IsL, E4, sI_e, c17]
        have h3' : kdA bl (cKt bl N u 0) = 3 := by rw [ec]; exact c3
        obtain ⟨g1, g2, g3, g4⟩ := cg_ok hc h3' (Or.inl rfl)
        have hb4 : cNm bl N u 0 ≤ 360 := by rw [if_pos rfl] at g3; exact g3
        have hv := rd_v hr (nmB_p h3') (show whB _ _ 1 360 = true from hc)
        have : mxL s2 m 17 = l_n (cNm bl N u 0) := Int64.toInt.inj (by rw [hv, g4, l_nT (by omega)])
        rw [this, l_nQ (by omega)]; rfl
      · rw [E7, LsI, E6, sL_n (by omega), E5, sL_e]
      · rw [E7, LsI, E6, sL_e]
      · rw [E7, sI_e]
    · rw [if_pos (rcW_n u30)]
      exact r_c2 hN hf hb hp f3 ef k2 hw c3 hlen J2 (fun z => absurd z u30) (fun z => absurd z u30)
  · rw [bd2 tn, if_pos rfl]
    exact ⟨τ, rfl, Or.inr ⟨_, cM_f (j := 0) f3 k2 hw n1 (fun i hi => by omega) c3, hX⟩⟩
end LBS
