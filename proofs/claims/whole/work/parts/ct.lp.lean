/-! ===== lp: drive, the reference reads ===== -/
section LPS2
variable {P : mx_P} {σ σ0 σ1 σ2 τ : mx_S} {x m n t l p a N i k j u v c f s b q K nk : Nat} {bl w : List Nat} {S : Nat → Nat → Prop} {e : Option Nat} {fs : Option (Nat × Nat)} {B : LB}
theorem gl34 : (gst 2).length = 34 := by decide +kernel
theorem gs_ne2 : ∀ f g : Fin 4, gst (12 + f.1) = gst (12 + g.1) → f = g := by decide +kernel
theorem wfm_k2 (h256 : ∀ b, b ∈ bl → b < 256) (hk : kdA bl s = 2) (h : wfm bl 2 s = some k) : ∃ f, f < 4 ∧ k = dgk f ∧ seg bl s (enA bl s) = gst (12 + f) := by
  unfold wfm at h
  have h1 := r_fst_lt h
  rw [gl34] at h1
  obtain ⟨h2, h3⟩ := of_decide_eq_true (r_fst_tr h)
  obtain ⟨f, ef⟩ := dg_k ⟨k, by omega⟩ h2
  dsimp only at ef
  subst ef
  obtain ⟨-, -, t3, t4, -, -, t6⟩ := dg_tab f
  have hg := wd_gnm h256 hk
  have hg2 := gnm_b hg
  have h4 : pk (gst (12 + f.1)) = pk (seg bl s (enA bl s)) := by
    rw [t3] at h3
    have := congrArg Int64.toInt h3
    rw [l_nT t4, l_nT (pn_63 hg2.1 hg.2.1)] at this
    omega
  exact ⟨f.1, f.2, rfl, (pn_inj _ _ t6 hg2.2 h4).symm⟩
theorem wfm_of2 (h256 : ∀ b, b ∈ bl → b < 256) (hk : kdA bl s = 2) (hf : f < 4) (h : seg bl s (enA bl s) = gst (12 + f)) : wfm bl 2 s = some (dgk f) := by
  obtain ⟨t1, t2, t3, -⟩ := dg_tab ⟨f, hf⟩
  dsimp only at t1 t2 t3
  cases e : wfm bl 2 s with
  | none =>
    have := fst_n0 e (dgk f) (by rw [gl34]; exact t1)
    exact absurd ⟨t2, by rw [t3, h]⟩ (of_decide_eq_false this)
  | some k =>
    obtain ⟨g, hg, rfl, h2⟩ := wfm_k2 h256 hk e
    have := gs_ne2 ⟨f, hf⟩ ⟨g, hg⟩ (h.symm.trans h2)
    rw [show f = g from congrArg Fin.val this]
theorem r_kn2 (hf : 5000 ≤ mpN P) (hM : LyM σ m) (h : TS σ m bl) (hs : s ≤ bl.length) (hk : TkR σ m bl s) : (∃ f, f < 4 ∧ kdA bl s = 2 ∧ wfm bl 2 s = some (dgk f) ∧ f_X12_driveStatement P m σ = f_X12_driveStatement_D57 P m (q_n f) σ) ∨ ((kdA bl s ≠ 2 ∨ wfm bl 2 s = none) ∧ f_X12_driveStatement P m σ = f_X12_driveStatement_D57 P m (-1) σ) := by
  have h256 := TS_256 h
  have w : ∀ f : Fin 4, f_X12_isWord P m (12 + f.1) σ = some (bI (decide (kdA bl s = 2 ∧ nmA bl s = gst (12 + f.1))), σ) := fun f => r_isw (by omega) hf hM h hs hk (dg_tab f).2.2.2.2.2.1
  have ys : ∀ f : Fin 4, kdA bl s = 2 → nmA bl s = gst (12 + f.1) → f_X12_isWord P m (12 + f.1) σ = some (1, σ) := fun f h1 h2 => by rw [w f, decide_eq_true ⟨h1, h2⟩]; rfl
  have no : ∀ f : Fin 4, ¬ (kdA bl s = 2 ∧ nmA bl s = gst (12 + f.1)) → f_X12_isWord P m (12 + f.1) σ = some (0, σ) := fun f h1 => by rw [w f, decide_eq_false h1]; rfl
  unfold f_X12_driveStatement
  rw [bd (am_is hM)]
  by_cases a0 : kdA bl s = 2 ∧ nmA bl s = gst (12 + 0)
  · rw [bd2 (show f_X12_isWord P m 12 σ = some (1, σ) from ys 0 a0.1 a0.2), if_neg zi10]
    exact Or.inl ⟨0, by omega, a0.1, wfm_of2 h256 a0.1 (by omega) a0.2, rfl⟩
  rw [bd2 (show f_X12_isWord P m 12 σ = some (0, σ) from no 0 a0), if_pos rfl, bd (am_is hM)]
  by_cases a1 : kdA bl s = 2 ∧ nmA bl s = gst (12 + 1)
  · rw [bd2 (show f_X12_isWord P m 13 σ = some (1, σ) from ys 1 a1.1 a1.2), if_neg zi10]
    exact Or.inl ⟨1, by omega, a1.1, wfm_of2 h256 a1.1 (by omega) a1.2, rfl⟩
  rw [bd2 (show f_X12_isWord P m 13 σ = some (0, σ) from no 1 a1), if_pos rfl, bd (am_is hM)]
  by_cases a2 : kdA bl s = 2 ∧ nmA bl s = gst (12 + 2)
  · rw [bd2 (show f_X12_isWord P m 14 σ = some (1, σ) from ys 2 a2.1 a2.2), if_neg zi10]
    exact Or.inl ⟨2, by omega, a2.1, wfm_of2 h256 a2.1 (by omega) a2.2, rfl⟩
  rw [bd2 (show f_X12_isWord P m 14 σ = some (0, σ) from no 2 a2), if_pos rfl, bd (am_is hM)]
  by_cases a3 : kdA bl s = 2 ∧ nmA bl s = gst (12 + 3)
  · rw [bd2 (show f_X12_isWord P m 15 σ = some (1, σ) from ys 3 a3.1 a3.2), if_neg zi10]
    exact Or.inl ⟨3, by omega, a3.1, wfm_of2 h256 a3.1 (by omega) a3.2, rfl⟩
  rw [bd2 (show f_X12_isWord P m 15 σ = some (0, σ) from no 3 a3), if_pos rfl]
  refine Or.inr ⟨?_, rfl⟩
  by_cases c2 : kdA bl s = 2
  · right
    cases e : wfm bl 2 s with
    | none => rfl
    | some k =>
      obtain ⟨f, hf6, -, h2⟩ := wfm_k2 h256 c2 e
      have hc : f = 0 ∨ f = 1 ∨ f = 2 ∨ f = 3 := by omega
      rcases hc with rfl | rfl | rfl | rfl
      · exact absurd ⟨c2, h2⟩ a0
      · exact absurd ⟨c2, h2⟩ a1
      · exact absurd ⟨c2, h2⟩ a2
      · exact absurd ⟨c2, h2⟩ a3
  · exact Or.inl c2
/-- behind a statement's word -/
theorem r_v1 (hN : N = 4000) (hf : 20000 ≤ mpN P) (hb : mpb P ≤ m) (hp : sqA bl N 2 u ≤ bl.length) (f4 : f < 4) (ef : dfF bl N u = f) (k2 : kdA bl (tkI bl N (sqA bl N 2 u) 0) = 2) (hw : wfm bl 2 (tkI bl N (sqA bl N 2 u) 0) = some (dgk f)) (hrB : ∀ s, Fz (rdF2 m) σ0 s → rB s m nk B ∧ mxI s m 19 = q_n nk) (hB : LBok nk B) (hn : nk ≤ 40) (h : RvJ σ0 m bl N B nk u 0 (gE bl N B nk u 0) σ) : ∃ τ, f_X12_driveStatement_D124 P m (q_n f) (dIx u) (dKp u) σ = some τ ∧ RvP σ0 m bl N B nk u τ := by
  obtain ⟨l0, l1, l2, l3, -, -, -, l7, l8⟩ := dg_l
  have hM := h.1.1
  have d5 := dgn_5 f
  obtain ⟨s1, e1, J1, -⟩ := RvJ_sc (P := P) hN hf hb hp h (by rw [k2]; decide)
  have M1 := J1.1.1
  have fit3 : ∀ j, j < 2 → j < dgn f → (dLt bl N u j ≠ 67 ∧ dLt bl N u j ≠ 80 ∧ dLt bl N u j ≠ 68 ∧ dLt bl N u j ≠ 83) ∧ ∀ y : Int32, fit (dLt bl N u j) y = decide (y = 3) := fun j hj hjn => by
    have hc : dLt bl N u j ≠ 67 ∧ dLt bl N u j ≠ 80 ∧ dLt bl N u j ≠ 68 ∧ dLt bl N u j ≠ 83 := by
      unfold dLt
      rw [ef]
      obtain rfl | rfl | rfl | rfl : f = 0 ∨ f = 1 ∨ f = 2 ∨ f = 3 := by omega
      · obtain rfl | rfl : j = 0 ∨ j = 1 := by omega
        all_goals omega
      · obtain rfl | rfl : j = 0 ∨ j = 1 := by omega
        all_goals omega
      · have : j < 1 := hjn
        obtain rfl : j = 0 := by omega
        omega
      · have : j < 1 := hjn
        obtain rfl : j = 0 := by omega
        omega
    refine ⟨hc, fun y => ?_⟩
    unfold fit
    rw [if_neg (by omega), if_neg hc.2.2.1, if_neg hc.2.2.2]
  -- the value of part 0
  have val0 : ∀ v : Int32, (dcd bl N B nk u 0 = 0 → -100000 ≤ dTp bl N u 0 / (dBt bl N u 0 : Int) → dTp bl N u 0 / (dBt bl N u 0 : Int) ≤ 100000 → v.toInt = dTp bl N u 0 / (dBt bl N u 0 : Int)) → dLs bl N B nk (u + 1) = none → v = q_n (dO bl N B nk u).2.1 := fun v hv hno => by
    have hg := (d_K (d_no hno u (by omega))).2
    obtain ⟨w0, -⟩ := dO_ok (by rw [ef]; exact f4) hg
    have := hv (hg 0 (by rw [ef]; omega)) (by omega) (by omega)
    apply Int32.toInt.inj
    show v.toInt = (q_n (dTp bl N u 0 / (dBt bl N u 0 : Int)).toNat).toInt
    rw [this, q_nT (by omega)]; omega
  have D166 : ∀ v s2, RvJ σ0 m bl N B nk u 2 (gE bl N B nk u 1) s2 → kdA bl (tkI bl N (sqA bl N 2 u) 1) = 3 → (dLs bl N B nk (u + 1) = none → v = q_n (dO bl N B nk u).2.1) → ∃ τ, f_X12_driveStatement_D166 P m (q_n f) (dIx u) (dKp u) v s2 = some τ ∧ RvP σ0 m bl N B nk u τ := fun v s2 J2 k3 hv => by
    have M2 := J2.1.1
    have ft0 : fit (dLt bl N u 0) (kdA bl (tkI bl N (sqA bl N 2 u) 1)) = true := by rw [(fit3 0 (by omega) (by omega)).2, k3]; decide
    unfold f_X12_driveStatement_D166
    by_cases f2 : 2 ≤ f
    · rw [if_pos (show (2 : Int32) ≤ q_n f by rw [show (2 : Int32) = q_n 2 from rfl, q_nLe (by omega) (by omega)]; exact f2)]
      unfold f_X12_driveStatement_D187
      rw [if_neg (show ¬ q_n f = (1 : Int32) from fun y => by have := (q_nI (k := f) (l := 1) (by omega) (by omega)).mp y; omega)]
      have n1 : dgn f = 1 := by unfold dgn; rw [if_neg (by omega), if_neg (by omega)]
      have J2' : RvJ σ0 m bl N B nk u (dgn f + 1) (gE bl N B nk u (dgn f)) s2 := by rw [n1]; exact J2
      refine r_vE (x7 := false) hN hf hb hp f4 ef k2 hw (fun i hi => ?_) J2' (fun hno => ⟨hv hno, fun z => by omega, fun z => by omega⟩)
      obtain rfl : i = 0 := by omega
      exact ft0
    · rw [if_neg (show ¬ (2 : Int32) ≤ q_n f by rw [show (2 : Int32) = q_n 2 from rfl, q_nLe (by omega) (by omega)]; exact f2), bd (am_is M2)]
      have n2 : 2 ≤ dgn f := by
        obtain rfl | rfl : f = 0 ∨ f = 1 := by omega
        · decide
        · decide
      have e116 : dLt bl N u 1 = 116 := by
        unfold dLt; rw [ef]
        obtain rfl | rfl : f = 0 ∨ f = 1 := by omega
        · exact l1
        · exact l3
      obtain ⟨v5, s3, e3, h3⟩ := r_tkn (P := P) (lo := -1023) (hi := 1023) (j := 1) hN hf hb hp (by omega) (fun tp bt => by rw [e116]; rfl) J2
      rw [bd2 e3]
      rcases h3 with ⟨k31, J3, hv5⟩ | ⟨k31, hX⟩
      · have ft1 : fit (dLt bl N u 1) (kdA bl (tkI bl N (sqA bl N 2 u) 2)) = true := by rw [(fit3 1 (by omega) (by omega)).2, k31]; decide
        have hvv : dLs bl N B nk (u + 1) = none → v = q_n (dO bl N B nk u).2.1 ∧ v5.toInt = (dO bl N B nk u).2.2.1 := fun hno => by
          have hg := (d_K (d_no hno u (by omega))).2
          obtain ⟨-, w1, -⟩ := dO_ok (by rw [ef]; exact f4) hg
          have w1' := w1 (by omega)
          refine ⟨hv hno, ?_⟩
          show v5.toInt = if dfF bl N u < 2 then _ else _
          rw [if_pos (by omega)]
          exact hv5 (hg 1 (by rw [ef]; omega)) (by omega) (by omega)
        have hg2 : ∀ i, i < 2 → fit (dLt bl N u i) (kdA bl (tkI bl N (sqA bl N 2 u) (i + 1))) = true := fun i hi => by
          obtain rfl | rfl : i = 0 ∨ i = 1 := by omega
          · exact ft0
          · exact ft1
        by_cases f1 : f = 1
        · subst f1
          exact r_vU hN hf hb hp ef k2 hw hg2 hrB hB hn J3 hvv
        · have f0 : f = 0 := by omega
          unfold f_X12_driveStatement_D187
          rw [if_neg (show ¬ q_n f = (1 : Int32) from fun y => f1 ((q_nI (l := 1) (by omega) (by omega)).mp y))]
          have n2' : dgn f = 2 := by rw [f0]; rfl
          have J3' : RvJ σ0 m bl N B nk u (dgn f + 1) (gE bl N B nk u (dgn f)) s3 := by rw [n2']; exact J3
          exact r_vE (x7 := false) hN hf hb hp f4 ef k2 hw (fun i hi => hg2 i (by omega)) J3' (fun hno => ⟨(hvv hno).1, fun _ => (hvv hno).2, fun z => absurd z f1⟩)
      · rw [(r_vX (P := P) (v6 := 0) (v7 := 0) (v8 := 0) hX).2.1]
        refine ⟨s3, rfl, Or.inr ⟨_, dM_f (j := 1) f4 ef k2 hw (by omega) (fun i hi => ?_) ?_, hX⟩⟩
        · obtain rfl : i = 0 := by omega
          exact ft0
        · rw [(fit3 1 (by omega) (by omega)).2]; exact decide_eq_false k31
  have go : ∀ lo hi : Int32, (∀ tp bt, rgL (dLt bl N u 0) tp bt = whB tp bt lo.toInt hi.toInt) → ∃ τ, (mx_b2 (f_X12_taken P m lo hi s1) fun x σ' => f_X12_driveStatement_D166 P m (q_n f) (dIx u) (dKp u) x σ') = some τ ∧ RvP σ0 m bl N B nk u τ := fun lo hi hr => by
    have hc := (fit3 0 (by omega) (by omega)).1
    obtain ⟨v, s2, e2, h2⟩ := r_tkn (P := P) (lo := lo) (hi := hi) (j := 0) hN hf hb hp ⟨hc.2.1, hc.2.2.1⟩ hr J1
    rw [bd2 e2]
    rcases h2 with ⟨k3, J2, hv⟩ | ⟨k3, hX⟩
    · exact D166 v s2 J2 k3 (val0 v hv)
    · rw [(r_vX (P := P) (v5 := 0) (v6 := 0) (v7 := 0) (v8 := 0) hX).2.2]
      refine ⟨s2, rfl, Or.inr ⟨_, dM_f (j := 0) f4 ef k2 hw (by omega) (fun i hi => by omega) ?_, hX⟩⟩
      rw [(fit3 0 (by omega) (by omega)).2]; exact decide_eq_false k3
  unfold f_X12_driveStatement_D124
  rw [bd (am_is hM), bd e1]
  have e0 : dLt bl N u 0 = dgl f 0 := by unfold dLt; rw [ef]
  by_cases f2 : f = 2
  · rw [if_pos (show q_n f = (2 : Int32) by rw [f2]; rfl), bd (am_is M1)]
    exact go 1 9 (fun tp bt => by rw [e0, f2, l7]; rfl)
  · rw [if_neg (show ¬ q_n f = (2 : Int32) from fun y => f2 ((q_nI (l := 2) (by omega) (by omega)).mp y))]
    by_cases f3 : f = 3
    · rw [if_pos (show q_n f = (3 : Int32) by rw [f3]; rfl), bd (am_is M1)]
      exact go 0 255 (fun tp bt => by rw [e0, f3, l8]; rfl)
    · rw [if_neg (show ¬ q_n f = (3 : Int32) from fun y => f3 ((q_nI (l := 3) (by omega) (by omega)).mp y)), bd (am_is M1)]
      refine go 0 3 (fun tp bt => ?_)
      obtain rfl | rfl : f = 0 ∨ f = 1 := by omega
      · rw [e0, l0]; rfl
      · rw [e0, l2]; rfl
theorem r_dst (hN : N = 4000) (hf : 20000 ≤ mpN P) (hb : mpb P ≤ m) (hp : sqA bl N 2 u ≤ bl.length) (hu : u < 3000) (hrB : ∀ s, Fz (rdF2 m) σ0 s → rB s m nk B ∧ mxI s m 19 = q_n nk) (hB : LBok nk B) (hn : nk ≤ 40) (h : RvI σ0 m bl N B nk u σ) (k0 : kdA bl (tkI bl N (sqA bl N 2 u) 0) ≠ 0) : ∃ τ, f_X12_driveStatement P m σ = some τ ∧ RvP σ0 m bl N B nk u τ := by
  obtain ⟨a1, a2, a3, a4, a5, a6, a7⟩ := id h
  have hM := a1.1
  have hlen := a1.2.1.1
  have hs := tkI_le (N := N) hp 0
  have s0 : sqA bl N 2 u ≤ tkI bl N (sqA bl N 2 u) 0 := hs.1
  rcases r_kn2 (P := P) (by omega) hM a1.2.1 hs.2 a7 with ⟨f, f4, k2, hw, ek⟩ | ⟨hno, ek⟩
  · have ef : dfF bl N u = f := by
      unfold dfF
      rw [hw]
      exact (dg_tab ⟨f, f4⟩).2.2.2.2.1
    have J0 : RvJ σ0 m bl N B nk u 0 (dLs bl N B nk u) σ := ⟨a1, a2, a3, fun z hz => Nat.le_trans (a4 z hz) s0, a5, a6, a7⟩
    rw [ek]
    unfold f_X12_driveStatement_D57
    rw [if_pos (show 0 ≤ q_n f by rw [q_le, q_i0, q_nT (by omega)]; omega), bd (am_gI hM), a5]
    by_cases u40 : u < 40
    · have e1 : gE bl N B nk u 0 = dLs bl N B nk u := by
        unfold gE
        rw [if_neg (by omega)]
        generalize dLs bl N B nk u = ls
        cases ls <;> rfl
      have ix : dIx u = q_n u := by unfold dIx; rw [if_pos u40]
      have kp : dKp u = 1 := by unfold dKp; rw [if_pos u40]
      rw [if_neg (show ¬ q_n (min u 40) = (40 : Int32) from fun y => by have := (q_nI (k := min u 40) (l := 40) (by omega) (by omega)).mp y; omega)]
      unfold f_X12_driveStatement_D91 f_X12_driveStatement_D109
      have n40 : ¬ (40 : Int32) ≤ q_n (min u 40) := by rw [show (40 : Int32) = q_n 40 from rfl, q_nLe (by omega) (by omega)]; omega
      rw [bd (am_gI hM), a5, if_neg n40, bd (am_gI hM), a5, bd (am_gI hM), a5, if_neg n40, show min u 40 = u by omega, ← ix, ← kp]
      exact r_v1 hN hf hb hp f4 ef k2 hw hrB hB hn (by rw [e1]; exact J0)
    · obtain ⟨s1, e1, F1, f1⟩ := r_foE (P := P) (c := 6) (q := tkI bl N (sqA bl N 2 u) 0) hM hb a3 (by omega) (by omega) (by omega) J0.2.2.2.1
      have ee : gE bl N B nk u 0 = orE (dLs bl N B nk u) (some (6, tkI bl N (sqA bl N 2 u) 0)) := by
        unfold gE; rw [if_pos (by omega)]
      have J1 : RvJ σ0 m bl N B nk u 0 (gE bl N B nk u 0) s1 := RvJ_fn J0 f1 (by rw [ee]; exact F1) (fun z hz => by
        rw [ee] at hz
        cases hl : dLs bl N B nk u with
        | some y => rw [hl] at hz; obtain rfl := Option.some.inj hz; exact J0.2.2.2.1 _ hl
        | none => rw [hl] at hz; obtain rfl := Option.some.inj hz; exact Nat.le_refl _)
      have M1 := J1.1.1
      have c105 : mxI s1 m 105 = q_n (min u 40) := J1.2.2.2.2.1
      have ix : dIx u = 39 := by unfold dIx; rw [if_neg u40]
      have kp : dKp u = 0 := by unfold dKp; rw [if_neg u40]
      have n40 : (40 : Int32) ≤ q_n (min u 40) := by rw [show (40 : Int32) = q_n 40 from rfl, q_nLe (by omega) (by omega)]; omega
      rw [if_pos (show q_n (min u 40) = (40 : Int32) by rw [show min u 40 = 40 by omega]; rfl), bd (am_gI hM), a7.2.2.1, bd (am_is hM), bd (show f_X12_found P m (6 : Int32) (q_n (tkI bl N (sqA bl N 2 u) 0)) σ = some s1 from e1)]
      unfold f_X12_driveStatement_D91 f_X12_driveStatement_D109
      rw [bd (am_gI M1), c105, if_pos n40, bd (am_gI M1), c105, if_pos n40, ← ix, ← kp]
      exact r_v1 hN hf hb hp f4 ef k2 hw hrB hB hn J1
  · rw [ek]
    obtain ⟨τ, e, h3, h4, fz⟩ := r_wrg (P := P) (w := 1) (v := q_n (tkI bl N (sqA bl N 2 u) 0)) hM hb a2.1
    unfold f_X12_driveStatement_D57
    rw [if_neg (by decide), bd (am_gI hM), a7.2.2.1, bd (am_is hM), bd e]
    exact ⟨τ, rfl, Or.inr ⟨_, Or.inl ⟨k0, hno, rfl⟩, RvB_f a1 fz (fun q j z => by unfold wrF at z; unfold rdF2; omega), h3, h4⟩⟩
theorem r_dtx (hN : N = 4000) (hf : 20000 ≤ mpN P) (hb : mpb P ≤ m) (hrB : ∀ s, Fz (rdF2 m) σ0 s → rB s m nk B ∧ mxI s m 19 = q_n nk) (hB : LBok nk B) (hn : nk ≤ 40) (h : RvI σ0 m bl N B nk 0 σ) : ∃ K e τ, Txt bl N 2 K e ∧ mx_lp (f_X12_drive_L9 P m) (mpN P) σ = some τ ∧ ((e = none ∧ RvI σ0 m bl N B nk K τ) ∨ ∃ q, e = some q ∧ RvX σ0 m bl q τ) := by
  have hlen := h.1.2.1.1
  obtain ⟨τ, eL, K, e, hT, hr⟩ := q_for (f_X12_drive_L9 P m) (fun u s => ((∀ j, j < u → ∃ k n, StO bl N 2 (sqA bl N 2 j) k n) ∧ RvI σ0 m bl N B nk u s) ∨ (∃ K q, Txt bl N 2 K (some q) ∧ RvX σ0 m bl q s)) (fun τ => ∃ K e, Txt bl N 2 K e ∧ ((e = none ∧ RvI σ0 m bl N B nk K τ) ∨ ∃ q, e = some q ∧ RvX σ0 m bl q τ)) 2003
    (by
      rintro u s hu (⟨hA, hI⟩ | ⟨K, q, hT, hX⟩)
      · have hsq := (sqA_b hA u (Nat.le_refl _)).2
        obtain ⟨a1, a2, a3, a4, a5, a6, a7⟩ := id hI
        show (∃ t', f_X12_drive_B9 P m s = some (.inl t') ∧ _) ∨ (∃ r, f_X12_drive_B9 P m s = some (.inr r) ∧ _)
        unfold f_X12_drive_B9
        rw [bd (am_gI a1.1), a2.1, if_pos rfl, bd (am_gI a1.1), a7.2.1]
        by_cases k0 : kdA bl (tkI bl N (sqA bl N 2 u) 0) = 0
        · right
          rw [if_pos (rk0.mpr k0)]
          exact ⟨_, rfl, u, none, ⟨hA, k0⟩, Or.inl ⟨rfl, hI⟩⟩
        · left
          obtain ⟨s1, e1, hP⟩ := r_dst (P := P) hN hf hb hsq (by omega) hrB hB hn hI k0
          rw [if_neg (fun y => k0 (rk0.mp y)), bd (am_is a1.1), bd e1]
          refine ⟨_, rfl, ?_⟩
          rcases hP with ⟨hO, hI'⟩ | ⟨q, hF, hX⟩
          · refine Or.inl ⟨fun j hj => ?_, hI'⟩
            by_cases ej : j = u
            · rw [ej]; exact hO
            · exact hA j (by omega)
          · exact Or.inr ⟨u, q, ⟨hA, hF⟩, hX⟩
      · right
        show ∃ r, f_X12_drive_B9 P m s = some (.inr r) ∧ _
        unfold f_X12_drive_B9
        rw [bd (am_gI hX.1.1), hX.2.1, if_neg (by decide)]
        exact ⟨_, rfl, K, some q, hT, Or.inr ⟨q, rfl, hX⟩⟩)
    (by
      rintro s (⟨hA, hI⟩ | ⟨K, q, hT, hX⟩)
      · have := sqA_b hA 2003 (Nat.le_refl _)
        omega
      · show ∃ r, f_X12_drive_B9 P m s = some (.inr r) ∧ _
        unfold f_X12_drive_B9
        rw [bd (am_gI hX.1.1), hX.2.1, if_neg (by decide)]
        exact ⟨_, rfl, K, some q, hT, Or.inr ⟨q, rfl, hX⟩⟩)
    2003 0 σ (mpN P) (by omega) (Or.inl ⟨fun j hj => by omega, h⟩) (by omega)
  exact ⟨K, e, τ, hT, eL, hr⟩
end LPS2
