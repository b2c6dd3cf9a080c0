/-! ===== in: numbers, wholes and signs, the reference's ===== -/
section INS
variable {P : mx_P} {σ σ0 σ1 σ2 τ : mx_S} {x m n t l p q a N i k j u v w K c s f r : Nat} {bl : List Nat} {S : Nat → Nat → Prop}
theorem mg_le {a b : Int} {g : Nat} (h : 0 < g) : a * g ≤ b * g ↔ a ≤ b := ⟨fun z => Int.le_of_mul_le_mul_right z (by omega), fun z => Int.mul_le_mul_of_nonneg_right z (by omega)⟩
theorem mg_lt {a b : Int} {g : Nat} (h : 0 < g) : a * g < b * g ↔ a < b := ⟨fun z => Int.lt_of_mul_lt_mul_right z (by omega), fun z => Int.mul_lt_mul_of_pos_right z (by omega)⟩
theorem rd_b {tp np nq : Int} {bt : Nat} (h : Rdc tp bt np nq) (h1 : -10000 < tp) (h2 : tp < 10000) (h3 : bt < 10000) : -10000 < np ∧ np < 10000 ∧ 0 < nq ∧ nq < 10000 := by
  obtain ⟨g, hg, e1, e2, -, hq⟩ := h
  have a := congrArg Int.natAbs e1
  have c := congrArg Int.natAbs e2
  rw [Int.natAbs_mul, Int.natAbs_natCast] at a c
  rw [Int.natAbs_natCast] at c
  have b := Nat.le_mul_of_pos_right np.natAbs hg
  have d := Nat.le_mul_of_pos_right nq.natAbs hg
  omega
theorem rd_120 {tp np nq : Int} {bt : Nat} (h : Rdc tp bt np nq) : rgL 120 tp bt = decide (-(60 * nq) ≤ np ∧ np ≤ 60 * nq) := by
  obtain ⟨g, hg, e1, e2, -, hq⟩ := h
  unfold rgL
  rw [if_pos rfl, e1, e2, ← Int.mul_assoc, ← Int.neg_mul]
  exact decide_eq_decide.mpr (and_congr (mg_le hg) (mg_le hg))
theorem rd_114 {tp np nq : Int} {bt : Nat} (h : Rdc tp bt np nq) : rgL 114 tp bt = decide (0 < np ∧ np ≤ 60 * nq) := by
  obtain ⟨g, hg, e1, e2, -, hq⟩ := h
  have z := mg_lt (a := 0) (b := np) hg
  rw [Int.zero_mul] at z
  unfold rgL
  rw [if_neg (by decide), if_pos rfl, e1, e2, ← Int.mul_assoc]
  exact decide_eq_decide.mpr (and_congr z (mg_le hg))
theorem rd_wh {tp np nq lo hi : Int} {bt : Nat} (h : Rdc tp bt np nq) : whB tp bt lo hi = decide (nq = 1 ∧ lo ≤ np ∧ np ≤ hi) := by
  obtain ⟨g, hg, e1, e2, hgc, hq⟩ := h
  unfold whB
  apply decide_eq_decide.mpr
  have hb0 : (bt : Int) ≠ 0 := by
    intro z
    rw [z] at e2
    have := Int.mul_pos hq (show (0 : Int) < g by omega)
    omega
  constructor
  · rintro ⟨h0, h1, h2⟩
    obtain ⟨c, hc⟩ := Int.dvd_of_emod_eq_zero h0
    have e3 : np = nq * c := by
      apply Int.eq_of_mul_eq_mul_right (show (g : Int) ≠ 0 by omega)
      rw [← e1, hc, e2, Int.mul_assoc, Int.mul_comm (g : Int) c, ← Int.mul_assoc]
    have e4 : nq.natAbs = nq.toNat := by omega
    have hn : nq.toNat ∣ np.natAbs := ⟨c.natAbs, by rw [e3, Int.natAbs_mul, e4]⟩
    rw [Nat.gcd_eq_right hn] at hgc
    have hq1 : nq = 1 := by omega
    rw [hc, Int.mul_ediv_cancel_left _ hb0] at h1 h2
    rw [hq1, Int.one_mul] at e3
    rw [e3]
    exact ⟨hq1, h1, h2⟩
  · rintro ⟨rfl, h1, h2⟩
    rw [Int.one_mul] at e2
    rw [e1, ← e2, Int.mul_emod_left, Int.mul_ediv_cancel _ hb0]
    exact ⟨rfl, h1, h2⟩
theorem LsR_0 (h : LsR σ m bl N u j) (h0 : cdR bl N u j = 0) : LsR σ m bl N u (j + 1) := by
  obtain ⟨fs, h1, h2⟩ := h
  exact ⟨fs, h1, Lm_cg h2 fun s c => Dr_0 h0⟩
theorem LsR_c (hM : LyM σ m) (hb : mpb P ≤ m) (h : LsR σ m bl N u j) (hj : j < nT bl N u) (h80 : lT bl N u j ≠ 80) (hc : cdR bl N u j = c) (h0 : 0 < c) (h10 : c < 10) (hs : tkT bl N u j < 5000) : ∃ τ, f_X12_found P m (q_n c) (q_n (tkT bl N u j)) σ = some τ ∧ LsR τ m bl N u (j + 1) ∧ Fz (fnF m) σ τ := by
  obtain ⟨fs, h1, h2⟩ := h
  obtain ⟨τ, e, h3, f⟩ := r_fnd (P := P) hM hb h1 h0 h10 hs
  refine ⟨τ, e, ⟨_, h3, Lm_cg (Lm_f h2) fun s c' => ?_⟩, f⟩
  rw [Dr_c hj h80 (by omega), hc]
theorem slw_q (h80 : lT bl N u j ≠ 80) (h : slw m bl N u j q k) : q = m + 27 ∨ q = m + 28 ∨ q = m + 29 := by
  rcases h with ⟨-, y, -⟩ | ⟨y, -⟩ | ⟨y, -⟩ | ⟨y, -⟩
  · exact absurd y h80
  · exact Or.inl y
  · exact Or.inr (Or.inl y)
  · exact Or.inr (Or.inr y)
/-- a part is read -/
theorem RQ_s (hF : ∀ v, v ≤ u → fmT bl N v < 6) (hj : j < nT bl N u) (h80 : lT bl N u j ≠ 80) (hR : RQ σ0 m bl N (u + 1) u j σ) (f : Fz S σ τ) (hS : ∀ q k, S q k → (q = m ∧ (k = 6 ∨ k = 7 ∨ k = 53)) ∨ slw m bl N u j q k) (hL : LsR τ m bl N u (j + 1)) (hA : mxI τ m 53 = q_n (akA bl N u (j + 1))) (hP : u < 40 → PR τ m bl N u j) : RQ σ0 m bl N (u + 1) u (j + 1) τ := by
  obtain ⟨hB, ⟨h4, h5⟩, hNm, hU, -, -, hRc, hUn⟩ := hR
  have hS' : ∀ q k, S q k → (q = m ∧ (k = 6 ∨ k = 7 ∨ k = 53)) ∨ (q = m + 27 ∨ q = m + 28 ∨ q = m + 29) := fun q k z => by
    rcases hS q k z with y | y
    · exact Or.inl y
    · exact Or.inr (slw_q h80 y)
  refine ⟨RBs_f hB f (fun q k z => by have := hS' q k z; unfold rlF; omega), ⟨(f.2.2.2 _ _ (fun z => by have := hS' _ _ z; omega)).1.trans h4, (f.2.2.2 _ _ (fun z => by have := hS' _ _ z; omega)).1.trans h5⟩, NmR_f hNm f (fun q k z => by have := hS' q k z; omega), UsR_n (UsR_f hU f (fun q k z => by have := hS' q k z; omega)) h80, hL, hA, fun v i hbf hv => ?_, UnR_f hUn f (fun q k z => by have := hS' q k z; omega)⟩
  rcases bfr_s.mp hbf with y | ⟨rfl, rfl, -⟩
  · refine PR_old hF hj (hRc v i y hv) y f (fun q k z h1 h2 => ?_)
    rcases hS q k z with y | y
    · omega
    · exact y
  · exact hP hv
theorem cd_n (h67 : lT bl N u j ≠ 67) (h80 : lT bl N u j ≠ 80) (h83 : lT bl N u j ≠ 83) : cdR bl N u j = if rgL (lT bl N u j) (tpA bl (tkT bl N u j)) (nmB bl (nmD bl (tkT bl N u j))) then 0 else 5 := by
  unfold cdR ckP
  rw [if_neg h67, if_neg h67, if_neg h80, if_neg h83]
theorem r_nbU {pz : Int32} (hN : N = 4000) (hf : 20000 ≤ mpN P) (hb : mpb P ≤ m) (hh : hdU bl N u) (hF : ∀ v, v ≤ u → fmT bl N v < 6) (hu : u < 460) (hj : j < nT bl N u) (hl : (lT bl N u j = 120 ∧ pz = 0) ∨ (lT bl N u j = 114 ∧ pz = 1)) (hR : RQ σ0 m bl N (u + 1) u j σ) (hk : TkR σ m bl (tkT bl N u j)) (k3 : kdA bl (tkT bl N u j) = 3) :
    ∃ τ, f_X12_numberUsed P m (q_n (nsl (fmT bl N u) j)) pz σ = some τ ∧ RQ σ0 m bl N (u + 1) u (j + 1) τ ∧ TkR τ m bl (tkT bl N u (j + 1)) := by
  obtain ⟨hM, hTS, hFz⟩ := id hR.1
  obtain ⟨k14, k15, k16, k17⟩ := hk
  have hRd := k17 k3
  have h14 := k14 (by rw [k3]; decide)
  have hlen := hTS.1
  have h256 := TS_256 hTS
  have hs := tkT_le (N := N) (u := u) (j := j) hh.1
  have he := enA_le (bs := bl) hs
  have n6 := (n_6 ⟨_, hh.2.2.1⟩).1
  dsimp only at n6
  have hj' : j < nLt 0 (kfl (fmT bl N u)) := hj
  have hlN : ltN (lT bl N u j) := by unfold ltN; omega
  have t2 := (lf_tab ⟨_, hh.2.2.1⟩ ⟨j, by omega⟩ hj').2.1 hlN
  dsimp only at t2
  obtain ⟨b1, b2, b3, b4⟩ := rd_b hRd (tp_b h256).1 (tp_b h256).2 (nmB_lt h256 _)
  have h80 : lT bl N u j ≠ 80 := by omega
  have hcd := cd_n (bl := bl) (N := N) (u := u) (j := j) (by omega) h80 (by omega)
  have hNm1 := hR.2.2.1.1
  obtain ⟨ns, hns⟩ : ∃ ns, ns = nsl (fmT bl N u) j := ⟨_, rfl⟩
  rw [← hns] at t2 ⊢
  have ty : f_X12_takes P m 2 σ = some (1, σ) := r_tkY hM hR.2.1.1 (by rw [k15, k3]; rfl)
  have hA : f_X12_numberUsed P m (q_n ns) pz σ = f_X12_numberUsed_D46 P m (q_n ns) (bI (rgL (lT bl N u j) (tpA bl (tkT bl N u j)) (nmB bl (nmD bl (tkT bl N u j))))) σ := by
    obtain ⟨y, ey, hy⟩ := k_size (P := P) (x := mxL σ m 17) (by omega) σ
    have c60 : (60 : Int64).toInt = 60 := rfl
    have e60 : ((60 : Int64) * mxL σ m 18).toInt = 60 * (mxL σ m 18).toInt := by
      rw [q_lmul (by rw [c60]; omega) (by rw [c60]; omega), c60]
    unfold f_X12_numberUsed f_X12_numberUsed_D45 f_X12_numberUsed_D41
    rw [bd (am_is hM), bd2 ty, if_neg zi10, bd (am_gL hM), bd2 ey, bd (am_gL hM)]
    rcases hl with ⟨l1, rfl⟩ | ⟨l1, rfl⟩
    · rw [l1, rd_120 hRd]
      by_cases c : 0 < lg_cmp y ((60 : Int64) * mxL σ m 18)
      · rw [if_pos c, decide_eq_false (by rw [q_cmp_gt, q_llt, e60, hy] at c; split at c <;> omega)]; rfl
      · rw [if_neg c, if_pos rfl, decide_eq_true (by rw [q_cmp_gt, q_llt, e60, hy] at c; split at c <;> omega)]; rfl
    · rw [l1, rd_114 hRd]
      by_cases c : 0 < lg_cmp y ((60 : Int64) * mxL σ m 18)
      · rw [if_pos c, decide_eq_false (by rw [q_cmp_gt, q_llt, e60, hy] at c; split at c <;> omega)]; rfl
      · rw [if_neg c, if_neg zi10, bd (am_gL hM)]
        by_cases c2 : lg_cmp (mxL σ m 17) (0 : Int64) ≤ 0
        · rw [if_pos c2, decide_eq_false (by rw [l_np] at c2; omega)]; rfl
        · rw [if_neg c2, decide_eq_true (by rw [l_np] at c2; rw [q_cmp_gt, q_llt, e60, hy] at c; split at c <;> omega)]; rfl
  obtain ⟨τ1, e1, hL1, f1⟩ : ∃ τ1, f_X12_numberUsed_D46 P m (q_n ns) (bI (rgL (lT bl N u j) (tpA bl (tkT bl N u j)) (nmB bl (nmD bl (tkT bl N u j))))) σ = f_X12_numberUsed_D60 P m (q_n ns) τ1 ∧ LsR τ1 m bl N u (j + 1) ∧ Fz (fnF m) σ τ1 := by
    cases hr : rgL (lT bl N u j) (tpA bl (tkT bl N u j)) (nmB bl (nmD bl (tkT bl N u j))) with
    | true => exact ⟨σ, if_neg zi10, LsR_0 hR.2.2.2.2.1 (by rw [hcd, hr]; rfl), Fz.rf⟩
    | false =>
      obtain ⟨τ1, e, h1, f⟩ := LsR_c (P := P) (c := 5) hM hb hR.2.2.2.2.1 hj h80 (by rw [hcd, hr]; rfl) (by omega) (by omega) (by omega)
      refine ⟨τ1, ?_, h1, f⟩
      unfold f_X12_numberUsed_D46
      rw [if_pos (show bI false = 0 from rfl), bd (am_gI hM), k16, bd (am_is hM), bd (show f_X12_found P m (5 : Int32) (q_n (tkT bl N u j)) σ = some τ1 from e)]
  have hM1 : LyM τ1 m := f1.M hM
  have g1 : ∀ k, 8 ≤ k → mxI τ1 m k = mxI σ m k := fun k a => (f1.2.2.2 _ _ (fun z => by unfold fnF at z; omega)).1
  have gL1 : ∀ k, 8 ≤ k → mxL τ1 m k = mxL σ m k := fun k a => (f1.2.2.2 _ _ (fun z => by unfold fnF at z; omega)).2
  obtain ⟨τ2, e2, f2, p2⟩ : ∃ τ2, f_X12_numberUsed_D60 P m (q_n ns) τ1 = f_X12_numberUsed_D113 P m τ2 ∧ Fz (slw m bl N u j) τ1 τ2 ∧ (u < 40 → mxL τ2 (m + 27) (4 * u + 2 * ns) = mxL σ m 17 ∧ mxL τ2 (m + 27) (4 * u + 2 * ns + 1) = mxL σ m 18) := by
    unfold f_X12_numberUsed_D60
    rw [bd (am_gI hM1), g1 38 (by omega), hNm1]
    by_cases c40 : u < 40
    · obtain ⟨σ2, es2⟩ : ∃ σ2, σ2 = mx_setL τ1 (m + 27) (4 * u + 2 * ns) (mxL σ m 17) := ⟨_, rfl⟩
      have hM2 : LyM σ2 m := by rw [es2]; exact hM1
      have ix : (4 : Int32) * q_n u + (2 : Int32) * q_n ns = q_n (4 * u + 2 * ns) := by rw [show (4 : Int32) = q_n 4 from rfl, show (2 : Int32) = q_n 2 from rfl, q_nM, q_nM, q_nA]
      have i2 : mxI σ2 m 38 = q_n (u + 1) := by rw [es2]; exact (g1 38 (by omega)).trans hNm1
      have l2 : mxL σ2 m 18 = mxL σ m 18 := by rw [es2, sL_n (by omega)]; exact gL1 18 (by omega)
      rw [if_neg (by rw [show (40 : Int32) = q_n 40 from rfl, q_nLt (by omega) (by omega)]; omega), bd (am_r44 hM1), bd (am_gI hM1), g1 38 (by omega), hNm1, bd (am_gL hM1), gL1 17 (by omega), q_n1 u (by omega), ix, bd (am_s44 hM1 hb (by omega) _), ← es2, bd (am_r44 hM2), bd (am_gI hM2), i2, bd (am_gL hM2), l2, q_n1 u (by omega), ix, q_nS, bd (am_s44 hM2 hb (by omega) _)]
      refine ⟨_, rfl, ?_, fun _ => ⟨?_, sL_e⟩⟩
      · rw [es2]
        exact (Fz.rf.sL (Or.inr (Or.inl ⟨rfl, hlN, Or.inl (by rw [hns])⟩)) _).sL (Or.inr (Or.inl ⟨rfl, hlN, Or.inr (by rw [hns])⟩)) _
      · rw [sL_n (by omega), es2]; exact sL_e
    · rw [if_pos (by rw [show (40 : Int32) = q_n 40 from rfl, q_nLt (by omega) (by omega)]; omega)]
      exact ⟨τ1, rfl, Fz.rf, fun z => absurd z c40⟩
  have f12 : Fz (fun q k => fnF m q k ∨ slw m bl N u j q k) σ τ2 := (f1.mo fun _ _ z => Or.inl z).tr (f2.mo fun _ _ z => Or.inr z)
  have nS : ∀ k, 8 ≤ k → ¬ (fnF m m k ∨ slw m bl N u j m k) := fun k hk z => by
    rcases z with z | z
    · unfold fnF at z; omega
    · have := slw_q h80 z; omega
  have hQ : RQ σ0 m bl N (u + 1) u (j + 1) τ2 := by
    refine RQ_s hF hj h80 hR f12 (fun q k z => ?_) (LsR_f hL1 f2 (fun q k z => by have := slw_q h80 z; omega)) ?_ (fun h40 => ⟨fun z => absurd z h80, fun _ => ?_, fun z => ?_, fun z => ?_, fun z => ?_⟩)
    · rcases z with z | z
      · unfold fnF at z; omega
      · exact Or.inr z
    · rw [(f12.2.2.2 _ _ (nS 53 (by omega))).1, hR.2.2.2.2.2.1, akA_n hh.2.2.1 (by omega)]
    · rw [← hns, (p2 h40).1, (p2 h40).2]; exact hRd
    · omega
    · omega
    · omega
  obtain ⟨τ3, e3, q1, q2⟩ := r_scn (P := P) hN hf hb hQ (p := enA bl (tkT bl N u j)) ((f12.2.2.2 _ _ (nS 14 (by omega))).1.trans h14) he.2.1
  refine ⟨τ3, ?_, q1, q2⟩
  rw [hA, e1, e2]
  unfold f_X12_numberUsed_D113
  rw [bd (am_is hQ.1.1), bd e3]
theorem o_num {pz : Int32} (hN : N = 4000) (hf : 20000 ≤ mpN P) (hb : mpb P ≤ m) (hh : hdU bl N u) (hF : ∀ v, v ≤ u → fmT bl N v < 6) (hu : u < 460) (hj : j < nT bl N u) (hl : (lT bl N u j = 120 ∧ pz = 0) ∨ (lT bl N u j = 114 ∧ pz = 1)) (h : RX σ0 m bl N u j σ) : ∃ τ, f_X12_numberUsed P m (q_n (nsl (fmT bl N u) j)) pz σ = some τ ∧ RX σ0 m bl N u (j + 1) τ := by
  have fe : fit (lT bl N u j) (kdA bl (tkT bl N u j)) = decide (kdA bl (tkT bl N u j) = 3) := by
    unfold fit; rw [if_neg (by omega), if_neg (by omega), if_neg (by omega)]
  refine RX_st (op := fun σ => f_X12_numberUsed P m (q_n (nsl (fmT bl N u) j)) pz σ) h (fun q hq => ?_) (fun hR hk hm => ?_) (fun hR hk hm hfit => ?_)
  · show f_X12_numberUsed P m (q_n (nsl (fmT bl N u) j)) pz σ = _
    unfold f_X12_numberUsed
    rw [bd (am_is hq.1.1), bd2 (r_tkB hq.1.1 hq.2.1), if_pos rfl]
  · obtain ⟨τ, e, hx⟩ := RX_mis (P := P) (w := 2) hb hR hk (fun z => by
      rw [fe] at hm
      exact of_decide_eq_false hm (rk2 z))
    refine ⟨τ, ?_, hx⟩
    show f_X12_numberUsed P m (q_n (nsl (fmT bl N u) j)) pz σ = _
    unfold f_X12_numberUsed
    rw [bd (am_is hR.1.1), bd2 e, if_pos rfl]
  · exact r_nbU hN hf hb hh hF hu hj hl hR hk (by rw [fe] at hm; exact of_decide_eq_true hm)
/-- a whole number -/
theorem r_whN {lo hi : Int32} (hb : mpb P ≤ m) (hj : j < nT bl N u) (h67 : lT bl N u j ≠ 67) (h80 : lT bl N u j ≠ 80) (h83 : lT bl N u j ≠ 83) (hw : ∀ tp bt, rgL (lT bl N u j) tp bt = whB tp bt lo.toInt hi.toInt) (hR : RQ σ0 m bl N (u + 1) u j σ) (hk : TkR σ m bl (tkT bl N u j)) (k3 : kdA bl (tkT bl N u j) = 3) (hs : tkT bl N u j < 5000) :
    ∃ τ, f_X12_wholeNumber P m lo.toInt64 hi.toInt64 σ = some τ ∧ LsR τ m bl N u (j + 1) ∧ Fz (fnF m) σ τ := by
  obtain ⟨hM, hTS, hFz⟩ := id hR.1
  obtain ⟨k14, k15, k16, k17⟩ := hk
  have hRd := k17 k3
  have hcd := cd_n (bl := bl) (N := N) (u := u) (j := j) h67 h80 h83
  rw [hw, rd_wh hRd] at hcd
  have bad : ¬ ((mxL σ m 18).toInt = 1 ∧ lo.toInt ≤ (mxL σ m 17).toInt ∧ (mxL σ m 17).toInt ≤ hi.toInt) → ∃ τ, f_X12_wholeNumber_D21 P m σ = some τ ∧ LsR τ m bl N u (j + 1) ∧ Fz (fnF m) σ τ := fun z => by
    rw [decide_eq_false z] at hcd
    obtain ⟨τ1, e, h1, f⟩ := LsR_c (P := P) (c := 5) hM hb hR.2.2.2.2.1 hj h80 hcd (by omega) (by omega) hs
    refine ⟨τ1, ?_, h1, f⟩
    unfold f_X12_wholeNumber_D21 f_X12_wholeNumber_D30
    rw [bd (am_gI hM), k16, bd (am_is hM), bd (show f_X12_found P m (5 : Int32) (q_n (tkT bl N u j)) σ = some τ1 from e)]
  have t1 : lo.toInt64.toInt = lo.toInt := Int32.toInt_toInt64 lo
  have t2 : hi.toInt64.toInt = hi.toInt := Int32.toInt_toInt64 hi
  have y1 : mr_Z 1 σ = some (1, σ) := if_pos (Or.inr rfl)
  have y0 : mr_Z 0 σ = some (0, σ) := if_pos (Or.inl rfl)
  unfold f_X12_wholeNumber f_X12_wholeNumber_D30
  rw [bd (am_gL hM)]
  by_cases c1 : mxL σ m 18 = 1
  · have c1' : (mxL σ m 18).toInt = 1 := by rw [c1]; rfl
    rw [if_pos (q_cmp0.mpr c1), bd (am_gL hM)]
    unfold f_X12_in f_X12_in_D17 f_X12_in_D18
    rw [y1, y0]
    by_cases c2 : lg_cmp (mxL σ m 17) lo.toInt64 < 0
    · rw [if_pos c2, bd2 rfl, if_pos rfl]
      exact bad (by rw [q_cmp_lt, q_llt, t1] at c2; omega)
    rw [if_neg c2]
    by_cases c3 : 0 < lg_cmp (mxL σ m 17) hi.toInt64
    · rw [if_pos c3, bd2 rfl, if_pos rfl]
      exact bad (by rw [q_cmp_gt, q_llt, t2] at c3; omega)
    rw [if_neg c3, bd2 rfl, if_neg zi10]
    rw [q_cmp_lt, q_llt, t1] at c2
    rw [q_cmp_gt, q_llt, t2] at c3
    rw [decide_eq_true ⟨c1', by omega, by omega⟩] at hcd
    exact ⟨σ, rfl, LsR_0 hR.2.2.2.2.1 hcd, Fz.rf⟩
  · rw [if_neg (fun z => c1 (q_cmp0.mp z))]
    exact bad (fun z => c1 (Int64.toInt.inj (z.1.trans rfl)))
theorem r_whU {lo hi : Int32} (hN : N = 4000) (hf : 20000 ≤ mpN P) (hb : mpb P ≤ m) (hh : hdU bl N u) (hF : ∀ v, v ≤ u → fmT bl N v < 6) (hu : u < 460) (hj : j < nT bl N u) (hl : ltW (lT bl N u j)) (hw : ∀ tp bt, rgL (lT bl N u j) tp bt = whB tp bt lo.toInt hi.toInt) (hR : RQ σ0 m bl N (u + 1) u j σ) (hk : TkR σ m bl (tkT bl N u j)) (k3 : kdA bl (tkT bl N u j) = 3) :
    ∃ τ, f_X12_wholeUsed P m (q_n (j - 3)) lo hi σ = some τ ∧ RQ σ0 m bl N (u + 1) u (j + 1) τ ∧ TkR τ m bl (tkT bl N u (j + 1)) := by
  have hl' : lT bl N u j = 105 ∨ lT bl N u j = 110 ∨ lT bl N u j = 107 := hl
  obtain ⟨hM, hTS, hFz⟩ := id hR.1
  have hlen := hTS.1
  have h256 := TS_256 hTS
  have hs := tkT_le (N := N) (u := u) (j := j) hh.1
  have he := enA_le (bs := bl) hs
  have h80 : lT bl N u j ≠ 80 := by omega
  obtain ⟨τ1, e1, hL1, f1⟩ := r_whN (P := P) hb hj (by omega) h80 (by omega) hw hR hk k3 (by omega)
  obtain ⟨k14, k15, k16, k17⟩ := hk
  have hRd := k17 k3
  have h14 := k14 (by rw [k3]; decide)
  have n6 := (n_6 ⟨_, hh.2.2.1⟩).1
  dsimp only at n6
  have hj' : j < nLt 0 (kfl (fmT bl N u)) := hj
  have t3 := (lf_tab ⟨_, hh.2.2.1⟩ ⟨j, by omega⟩ hj').2.2.1 hl
  dsimp only at t3
  obtain ⟨b1, b2, b3, b4⟩ := rd_b hRd (tp_b h256).1 (tp_b h256).2 (nmB_lt h256 _)
  have hNm1 := hR.2.2.1.1
  have ty : f_X12_takes P m 2 σ = some (1, σ) := r_tkY hM hR.2.1.1 (by rw [k15, k3]; rfl)
  have hM1 : LyM τ1 m := f1.M hM
  have g1 : ∀ k, 8 ≤ k → mxI τ1 m k = mxI σ m k := fun k a => (f1.2.2.2 _ _ (fun z => by unfold fnF at z; omega)).1
  have gL1 : ∀ k, 8 ≤ k → mxL τ1 m k = mxL σ m k := fun k a => (f1.2.2.2 _ _ (fun z => by unfold fnF at z; omega)).2
  obtain ⟨τ2, e2, f2, p2⟩ : ∃ τ2, f_X12_wholeUsed P m (q_n (j - 3)) lo hi σ = f_X12_wholeUsed_D46 P m τ2 ∧ Fz (slw m bl N u j) τ1 τ2 ∧ (u < 40 → mxI τ2 (m + 28) (3 * u + (j - 3)) = (mxL σ m 17).toInt32) := by
    unfold f_X12_wholeUsed
    rw [bd (am_is hM), bd2 ty, if_neg zi10, bd (am_is hM), bd e1, bd (am_gI hM1), g1 38 (by omega), hNm1]
    by_cases c40 : u < 40
    · have ix : (3 : Int32) * q_n u + q_n (j - 3) = q_n (3 * u + (j - 3)) := by rw [show (3 : Int32) = q_n 3 from rfl, q_nM, q_nA]
      rw [if_neg (by rw [show (40 : Int32) = q_n 40 from rfl, q_nLt (by omega) (by omega)]; omega), bd (am_r45 hM1), bd (am_gI hM1), g1 38 (by omega), hNm1, bd (am_gL hM1), gL1 17 (by omega), q_n1 u (by omega), ix, bd (am_s45 hM1 hb (by omega) _)]
      exact ⟨_, rfl, Fz.rf.sI (Or.inr (Or.inr (Or.inl ⟨rfl, hl, rfl⟩))) _, fun _ => sI_e⟩
    · rw [if_pos (by rw [show (40 : Int32) = q_n 40 from rfl, q_nLt (by omega) (by omega)]; omega)]
      exact ⟨τ1, rfl, Fz.rf, fun z => absurd z c40⟩
  have f12 : Fz (fun q k => fnF m q k ∨ slw m bl N u j q k) σ τ2 := (f1.mo fun _ _ z => Or.inl z).tr (f2.mo fun _ _ z => Or.inr z)
  have nS : ∀ k, 8 ≤ k → ¬ (fnF m m k ∨ slw m bl N u j m k) := fun k hk z => by
    rcases z with z | z
    · unfold fnF at z; omega
    · have := slw_q h80 z; omega
  have hQ : RQ σ0 m bl N (u + 1) u (j + 1) τ2 := by
    refine RQ_s hF hj h80 hR f12 (fun q k z => ?_) (LsR_f hL1 f2 (fun q k z => by have := slw_q h80 z; omega)) ?_ (fun h40 => ⟨fun z => absurd z h80, fun z => ?_, fun _ => ⟨_, _, hRd, ?_⟩, fun z => ?_, fun z => ?_⟩)
    · rcases z with z | z
      · unfold fnF at z; omega
      · exact Or.inr z
    · rw [(f12.2.2.2 _ _ (nS 53 (by omega))).1, hR.2.2.2.2.2.1, akA_n hh.2.2.1 (by omega)]
    · omega
    · rw [p2 h40, Int64.toInt_toInt32, q_bm32 (by omega) (by omega)]
    · omega
    · omega
  obtain ⟨τ3, e3, q1, q2⟩ := r_scn (P := P) hN hf hb hQ (p := enA bl (tkT bl N u j)) ((f12.2.2.2 _ _ (nS 14 (by omega))).1.trans h14) he.2.1
  refine ⟨τ3, ?_, q1, q2⟩
  rw [e2]
  unfold f_X12_wholeUsed_D46
  rw [bd (am_is hQ.1.1), bd e3]
theorem o_whl {lo hi : Int32} (hN : N = 4000) (hf : 20000 ≤ mpN P) (hb : mpb P ≤ m) (hh : hdU bl N u) (hF : ∀ v, v ≤ u → fmT bl N v < 6) (hu : u < 460) (hj : j < nT bl N u) (hl : ltW (lT bl N u j)) (hw : ∀ tp bt, rgL (lT bl N u j) tp bt = whB tp bt lo.toInt hi.toInt) (h : RX σ0 m bl N u j σ) : ∃ τ, f_X12_wholeUsed P m (q_n (j - 3)) lo hi σ = some τ ∧ RX σ0 m bl N u (j + 1) τ := by
  have hl' : lT bl N u j = 105 ∨ lT bl N u j = 110 ∨ lT bl N u j = 107 := hl
  have fe : fit (lT bl N u j) (kdA bl (tkT bl N u j)) = decide (kdA bl (tkT bl N u j) = 3) := by
    unfold fit; rw [if_neg (by omega), if_neg (by omega), if_neg (by omega)]
  refine RX_st (op := fun σ => f_X12_wholeUsed P m (q_n (j - 3)) lo hi σ) h (fun q hq => ?_) (fun hR hk hm => ?_) (fun hR hk hm hfit => ?_)
  · show f_X12_wholeUsed P m (q_n (j - 3)) lo hi σ = _
    unfold f_X12_wholeUsed
    rw [bd (am_is hq.1.1), bd2 (r_tkB hq.1.1 hq.2.1), if_pos rfl]
  · obtain ⟨τ, e, hx⟩ := RX_mis (P := P) (w := 2) hb hR hk (fun z => by
      rw [fe] at hm
      exact of_decide_eq_false hm (rk2 z))
    refine ⟨τ, ?_, hx⟩
    show f_X12_wholeUsed P m (q_n (j - 3)) lo hi σ = _
    unfold f_X12_wholeUsed
    rw [bd (am_is hR.1.1), bd2 e, if_pos rfl]
  · exact r_whU hN hf hb hh hF hu hj hl hw hR hk (by rw [fe] at hm; exact of_decide_eq_true hm)
end INS
