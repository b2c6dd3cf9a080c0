/-! ===== ip: a statement, the reference's ===== -/
section IPS
variable {P : mx_P} {σ σ0 σ1 σ2 τ : mx_S} {x m n t l p q a N i k j u v w K c s f r : Nat} {bl : List Nat} {S : Nat → Nat → Prop}
/-- a name told twice -/
def dupN (bl : List Nat) (N u w : Nat) : Prop := ∃ j, j < w ∧ cnA bl N 0 j = cnA bl N 0 u
def DrC (bl : List Nat) (N u w s c : Nat) : Prop := Dr bl N u 0 s c ∨ (s = tkT bl N u 0 ∧ c = 2 ∧ dupN bl N u w)
theorem DrC_n (h : ¬ cnA bl N 0 w = cnA bl N 0 u) : DrC bl N u (w + 1) s c ↔ DrC bl N u w s c := by
  unfold DrC dupN
  constructor
  · rintro (y | ⟨y1, y2, j, y3, y4⟩)
    · exact Or.inl y
    · by_cases e : j = w
      · rw [e] at y4; exact absurd y4 h
      · exact Or.inr ⟨y1, y2, j, by omega, y4⟩
  · rintro (y | ⟨y1, y2, j, y3, y4⟩)
    · exact Or.inl y
    · exact Or.inr ⟨y1, y2, j, by omega, y4⟩
theorem DrC_y (h : cnA bl N 0 w = cnA bl N 0 u) : DrC bl N u (w + 1) s c ↔ (DrC bl N u w s c ∨ (s = tkT bl N u 0 ∧ c = 2)) := by
  unfold DrC dupN
  constructor
  · rintro (y | ⟨y1, y2, -⟩)
    · exact Or.inl (Or.inl y)
    · exact Or.inr ⟨y1, y2⟩
  · rintro ((y | ⟨y1, y2, j, y3, y4⟩) | ⟨y1, y2⟩)
    · exact Or.inl y
    · exact Or.inr ⟨y1, y2, j, by omega, y4⟩
    · exact Or.inr ⟨y1, y2, w, by omega, h⟩
theorem r_dup {kv : Int32} (hf : 20000 ≤ mpN P) (hb : mpb P ≤ m) (hu : u < 460) (hT : ∀ v, v ≤ u → tkT bl N v 0 ≤ bl.length) (hR : RQ σ0 m bl N u u 0 σ) (hk : TkR σ m bl (tkT bl N u 0)) (k2 : kdA bl (tkT bl N u 0) = 2) :
    ∃ τ, mx_lp (f_X12_statement_L34 P m kv) (mpN P) ((0 : Int32), σ) = some τ ∧ Fz (fnF m) σ τ ∧ ∃ fs, FtL τ m fs ∧ Lm fs (DrC bl N u u) := by
  obtain ⟨hM, hTS, hFz⟩ := id hR.1
  obtain ⟨k14, k15, k16, -⟩ := hk
  have h14 := k14 (by rw [k2]; decide)
  have hlen := hTS.1
  obtain ⟨n38, hNm⟩ := hR.2.2.1
  obtain ⟨fs0, l1, l2⟩ := hR.2.2.2.2.1
  have hsu := hT u (Nat.le_refl _)
  have heu := enA_le (bs := bl) hsu
  refine q_for (f_X12_statement_L34 P m kv) (fun w s => ∃ τ, s = (q_n w, τ) ∧ Fz (fnF m) σ τ ∧ ∃ fs, FtL τ m fs ∧ Lm fs (DrC bl N u w)) (fun τ => Fz (fnF m) σ τ ∧ ∃ fs, FtL τ m fs ∧ Lm fs (DrC bl N u u)) u ?_ ?_ u 0 _ (mpN P) (by omega) ⟨σ, rfl, Fz.rf, fs0, l1, Lm_cg l2 fun s c => ?_⟩ (by omega)
  · rintro w s hw ⟨τ, rfl, f, fs, a1, a2⟩
    left
    have hMt := f.M hM
    have hTSt : TS τ m bl := TS_f hTS f (fun q j z => by unfold fnF at z; omega)
    have g : ∀ q k, ¬ fnF m q k → mxI τ q k = mxI σ q k := fun q k z => (f.2.2.2 q k z).1
    have i38 : mxI τ m 38 = q_n u := (g _ _ (by unfold fnF; omega)).trans n38
    have i14 : mxI τ m 14 = q_n (enA bl (tkT bl N u 0)) := (g _ _ (by unfold fnF; omega)).trans h14
    have i16 : mxI τ m 16 = q_n (tkT bl N u 0) := (g _ _ (by unfold fnF; omega)).trans k16
    have i22 : mxI τ (m + 22) w = q_n (tkT bl N w 0) := (g _ _ (by unfold fnF; omega)).trans (hNm w hw).1
    have i23 : mxI τ (m + 23) w = q_n (enA bl (tkT bl N w 0) - tkT bl N w 0) := (g _ _ (by unfold fnF; omega)).trans (hNm w hw).2
    have hsw := hT w (by omega)
    have hew := enA_le (bs := bl) hsw
    have iff : cnA bl N 0 w = cnA bl N 0 u ↔ (enA bl (tkT bl N w 0) - tkT bl N w 0 = enA bl (tkT bl N u 0) - tkT bl N u 0 ∧ ∀ k, k < enA bl (tkT bl N w 0) - tkT bl N w 0 → by' bl (tkT bl N w 0 + k) = by' bl (tkT bl N u 0 + k)) := nm_eq (bl := bl) hsw hsu
    show ∃ t', f_X12_statement_B34 P m kv (q_n w) τ = _ ∧ _
    unfold f_X12_statement_B34 f_X12_statement_D95_34
    rw [bd (am_gI hMt), i38, if_neg (by rw [q_nLe (by omega) (by omega)]; omega), bd (am_r40 hMt), bd (am_g40 hMt (by omega)), i23, bd (am_gI hMt), i14, bd (am_gI hMt), i16, nsub (by omega) (by omega)]
    by_cases cl : enA bl (tkT bl N w 0) - tkT bl N w 0 = enA bl (tkT bl N u 0) - tkT bl N u 0
    · rw [if_pos (by rw [cl]), bd (am_r39 hMt), bd (am_g39 hMt (by omega)), i22, bd (am_gI hMt), i16, bd (am_gI hMt), i14, bd (am_gI hMt), i16, nsub (by omega) (by omega), bd (am_is hMt), bd2 (r_same (by omega) hMt hTSt (by omega) (by omega))]
      by_cases ce : ∀ k, k < enA bl (tkT bl N u 0) - tkT bl N u 0 → by' bl (tkT bl N w 0 + k) = by' bl (tkT bl N u 0 + k)
      · obtain ⟨τ', e, b1, f'⟩ := r_fnd (P := P) (c := 2) hMt hb a1 (by omega) (by omega) (show tkT bl N u 0 < 5000 by omega)
        rw [decide_eq_true ce, if_neg (show ¬ bI true = 0 by decide), bd (am_gI hMt), i16, bd (am_is hMt), bd (show f_X12_found P m (2 : Int32) (q_n (tkT bl N u 0)) τ = some τ' from e), bds, q_nS]
        exact ⟨_, rfl, τ', rfl, f.tr f', _, b1, Lm_cg (Lm_f a2) fun s c => DrC_y (iff.mpr ⟨cl, fun k hk => ce k (by omega)⟩)⟩
      · rw [decide_eq_false ce, if_pos (show bI false = 0 from rfl), bds, q_nS]
        exact ⟨_, rfl, τ, rfl, f, fs, a1, Lm_cg a2 fun s c => DrC_n fun z => ce fun k hk => (iff.mp z).2 k (by omega)⟩
    · rw [if_neg (fun z => cl ((q_nI (by omega) (by omega)).mp z)), bds, q_nS]
      exact ⟨_, rfl, τ, rfl, f, fs, a1, Lm_cg a2 fun s c => DrC_n fun z => cl (iff.mp z).1⟩
  · rintro s ⟨τ, rfl, f, fs, a1, a2⟩
    refine ⟨τ, ?_, f, fs, a1, a2⟩
    show f_X12_statement_B34 P m kv (q_n u) τ = _
    unfold f_X12_statement_B34
    rw [bd (am_gI (f.M hM)), (f.2.2.2 _ _ (fun z => by unfold fnF at z; omega)).1, n38, if_pos (by rw [q_nLe (by omega) (by omega)]; exact Nat.le_refl _)]
  · unfold DrC dupN
    constructor
    · rintro (y | ⟨-, -, j, y, -⟩)
      · exact y
      · omega
    · exact Or.inl
theorem r_dup6 {kv : Int32} {fs : Option (Nat × Nat)} (hM : LyM τ m) (hb : mpb P ≤ m) (hh : hdU bl N u) (hu : u < 460) (hs : tkT bl N u 0 < 5000) (h16 : mxI τ m 16 = q_n (tkT bl N u 0)) (a1 : FtL τ m fs) (a2 : Lm fs (DrC bl N u u)) :
    ∃ τ2, (if q_n u < (40 : Int32) then f_X12_statement_D120 P m kv τ else (mg_I τ m 12 16).bind fun x120 => (mx_is τ m 12).bind fun _ => (f_X12_found P m (6 : Int32) x120 τ).bind fun σ124 => f_X12_statement_D120 P m kv σ124) = f_X12_statement_D120 P m kv τ2 ∧ LsR τ2 m bl N u 1 ∧ Fz (fnF m) τ τ2 := by
  have h67 : lT bl N u 0 = 67 := (lf_n ⟨_, hh.2.2.1⟩).2.2.2
  have hcd : cdR bl N u 0 = cdC bl N u := by unfold cdR; rw [if_pos h67]
  have hn : 0 < nT bl N u := by
    have : 3 ≤ nT bl N u := (n_6 ⟨_, hh.2.2.1⟩).2
    omega
  have six : ¬ u < 40 → ∃ τ2, ((mg_I τ m 12 16).bind fun x120 => (mx_is τ m 12).bind fun _ => (f_X12_found P m (6 : Int32) x120 τ).bind fun σ124 => f_X12_statement_D120 P m kv σ124) = f_X12_statement_D120 P m kv τ2 ∧ FtL τ2 m (ntM fs 6 (tkT bl N u 0)) ∧ Fz (fnF m) τ τ2 := fun _ => by
    obtain ⟨τ', e, b1, f'⟩ := r_fnd (P := P) (c := 6) hM hb a1 (by omega) (by omega) hs
    refine ⟨τ', ?_, b1, f'⟩
    rw [bd (am_gI hM), h16, bd (am_is hM), bd (show f_X12_found P m (6 : Int32) (q_n (tkT bl N u 0)) τ = some τ' from e)]
  by_cases d : dupN bl N u u
  · have h2 : cdC bl N u = 2 := by unfold cdC; exact if_pos d
    have iff : ∀ s c, Dr bl N u (0 + 1) s c ↔ DrC bl N u u s c := fun s c => by
      rw [Dr_c hn (by omega) (by omega), hcd, h2]
      unfold DrC
      constructor
      · rintro (y | ⟨y1, y2⟩)
        · exact Or.inl y
        · exact Or.inr ⟨y1, y2, d⟩
      · rintro (y | ⟨y1, y2, -⟩)
        · exact Or.inl y
        · exact Or.inr ⟨y1, y2⟩
    by_cases c40 : u < 40
    · rw [if_pos (by rw [show (40 : Int32) = q_n 40 from rfl, q_nLt (by omega) (by omega)]; exact c40)]
      exact ⟨τ, rfl, ⟨fs, a1, Lm_cg a2 iff⟩, Fz.rf⟩
    · rw [if_neg (by rw [show (40 : Int32) = q_n 40 from rfl, q_nLt (by omega) (by omega)]; exact c40)]
      obtain ⟨τ2, e, b1, f'⟩ := six c40
      rw [ntM_t a2 (Or.inr ⟨rfl, rfl, d⟩)] at b1
      exact ⟨τ2, e, ⟨fs, b1, Lm_cg a2 iff⟩, f'⟩
  · have h2 : cdC bl N u = if u < 40 then 0 else 6 := by unfold cdC; exact if_neg d
    have iff : ∀ s c, Dr bl N u 0 s c ↔ DrC bl N u u s c := fun s c => by
      unfold DrC
      constructor
      · exact Or.inl
      · rintro (y | ⟨-, -, y⟩)
        · exact y
        · exact absurd y d
    by_cases c40 : u < 40
    · rw [if_pos (by rw [show (40 : Int32) = q_n 40 from rfl, q_nLt (by omega) (by omega)]; exact c40)]
      exact ⟨τ, rfl, LsR_0 ⟨fs, a1, Lm_cg a2 iff⟩ (by rw [hcd, h2, if_pos c40]), Fz.rf⟩
    · rw [if_neg (by rw [show (40 : Int32) = q_n 40 from rfl, q_nLt (by omega) (by omega)]; exact c40)]
      rw [if_neg c40] at h2
      obtain ⟨τ2, e, b1, f'⟩ := six c40
      refine ⟨τ2, e, ⟨_, b1, Lm_cg (Lm_f a2) fun s c => ?_⟩, f'⟩
      rw [Dr_c hn (by omega) (by omega), hcd, h2, iff]
def d0F (m u : Nat) : Nat → Nat → Prop := fun q k => (q = m + 22 ∧ k = u) ∨ (q = m + 23 ∧ k = u) ∨ (q = m ∧ k = 38) ∨ (u < 40 ∧ ((q = m + 24 ∧ k = u) ∨ (q = m + 26 ∧ 4 * u ≤ k ∧ k < 4 * u + 4) ∨ (q = m + 29 ∧ k = u)))
theorem r_D120 (hf : 20000 ≤ mpN P) (hb : mpb P ≤ m) (hM : LyM τ m) (hu : u < 460) (hs : s ≤ c) (hc : c < 5000) (h38 : mxI τ m 38 = q_n u) (h14 : mxI τ m 14 = q_n c) (h16 : mxI τ m 16 = q_n s) :
    ∃ τ2, f_X12_statement_D120 P m (q_n f) τ = f_X12_statement_D223 P m (q_n f) τ2 ∧ Fz (d0F m u) τ τ2 ∧ mxI τ2 m 38 = q_n (u + 1) ∧ mxI τ2 (m + 22) u = q_n s ∧ mxI τ2 (m + 23) u = q_n (c - s) ∧ (u < 40 → mxI τ2 (m + 24) u = q_n f ∧ ∀ k, k < 4 → mxI τ2 (m + 26) (4 * u + k) = 0) := by
  obtain ⟨τa, ea⟩ : ∃ τa, τa = mx_setI τ (m + 22) u (q_n s) := ⟨_, rfl⟩
  obtain ⟨τb, eb⟩ : ∃ τb, τb = mx_setI τa (m + 23) u (q_n (c - s)) := ⟨_, rfl⟩
  obtain ⟨τc, ec⟩ : ∃ τc, τc = mx_setI τb m 38 (q_n (u + 1)) := ⟨_, rfl⟩
  have hMa : LyM τa m := by rw [ea]; exact hM
  have hMb : LyM τb m := by rw [eb]; exact hMa
  have hMc : LyM τc m := by rw [ec]; exact hMb
  have fc : Fz (d0F m u) τ τc := by
    rw [ec, eb, ea]
    exact ((Fz.rf.sI (Or.inl ⟨rfl, rfl⟩) _).sI (Or.inr (Or.inl ⟨rfl, rfl⟩)) _).sI (Or.inr (Or.inr (Or.inl ⟨rfl, rfl⟩))) _
  have a38 : mxI τa m 38 = q_n u := by rw [ea, sI_n (by omega)]; exact h38
  have a14 : mxI τa m 14 = q_n c := by rw [ea, sI_n (by omega)]; exact h14
  have a16 : mxI τa m 16 = q_n s := by rw [ea, sI_n (by omega)]; exact h16
  have b38 : mxI τb m 38 = q_n u := by rw [eb, sI_n (by omega)]; exact a38
  have c38 : mxI τc m 38 = q_n (u + 1) := by rw [ec]; exact sI_e
  have c22 : mxI τc (m + 22) u = q_n s := by rw [ec, sI_n (by omega), eb, sI_n (by omega), ea]; exact sI_e
  have c23 : mxI τc (m + 23) u = q_n (c - s) := by rw [ec, sI_n (by omega), eb]; exact sI_e
  unfold f_X12_statement_D120
  rw [bd (am_r39 hM), bd (am_gI hM), h38, bd (am_gI hM), h16, bd (am_s39 hM hb hu _), ← ea, bd (am_r40 hMa), bd (am_gI hMa), a38, bd (am_gI hMa), a14, bd (am_gI hMa), a16, nsub (by omega) (by omega), bd (am_s40 hMa hb hu _), ← eb, bd (am_gI hMb), b38, q_nS, bd (am_pI hMb hb _), ← ec, bd (am_gI hMc), c38]
  by_cases c40 : u < 40
  · obtain ⟨τd, ed⟩ : ∃ τd, τd = mx_setI τc (m + 24) u (q_n f) := ⟨_, rfl⟩
    have hMd : LyM τd m := by rw [ed]; exact hMc
    have d38 : mxI τd m 38 = q_n (u + 1) := by rw [ed, sI_n (by omega)]; exact c38
    have fd : Fz (d0F m u) τ τd := by rw [ed]; exact fc.sI (Or.inr (Or.inr (Or.inr ⟨c40, Or.inl ⟨rfl, rfl⟩⟩))) _
    rw [if_neg (by rw [show (40 : Int32) = q_n 40 from rfl, q_nLt (by omega) (by omega)]; omega), bd (am_r41 hMc), bd (am_gI hMc), c38, q_n1 u (by omega), bd (am_s41 hMc hb c40 _), ← ed]
    obtain ⟨τe, ee, fe, ze⟩ := q_for (f_X12_statement_L184 P m (q_n f)) (fun w s => ∃ τ', s = (q_n w, τ') ∧ Fz (fun q i => q = m + 26 ∧ 4 * u ≤ i ∧ i < 4 * u + 4) τd τ' ∧ ∀ k, k < w → mxI τ' (m + 26) (4 * u + k) = 0) (fun τ' => Fz (fun q i => q = m + 26 ∧ 4 * u ≤ i ∧ i < 4 * u + 4) τd τ' ∧ ∀ k, k < 4 → mxI τ' (m + 26) (4 * u + k) = 0) 4
      (by
        rintro w s hw ⟨τ', rfl, g, z⟩
        left
        have hM' := g.M hMd
        have i38 : mxI τ' m 38 = q_n (u + 1) := (g.2.2.2 _ _ (fun y => by omega)).1.trans d38
        show ∃ t', f_X12_statement_B184 P m (q_n f) (q_n w) τ' = _ ∧ _
        unfold f_X12_statement_B184
        rw [if_neg (by rw [show (4 : Int32) = q_n 4 from rfl, q_nLe (by omega) (by omega)]; omega), bd (am_r43 hM'), bd (am_gI hM'), i38, q_n1 u (by omega), show (4 : Int32) = q_n 4 from rfl, q_nM, q_nA, bd (am_s43 hM' hb (by omega) _), bds, q_nS]
        refine ⟨_, rfl, _, rfl, g.sI ⟨rfl, by omega, by omega⟩ _, fun k hk => ?_⟩
        by_cases e : k = w
        · rw [e]; exact sI_e
        · rw [sI_n (by omega)]; exact z k (by omega))
      (by
        rintro s ⟨τ', rfl, g, z⟩
        refine ⟨τ', ?_, g, z⟩
        show f_X12_statement_B184 P m (q_n f) (q_n 4) τ' = _
        unfold f_X12_statement_B184
        rw [if_pos (show (4 : Int32) ≤ q_n 4 by decide)])
      4 0 ((0 : Int32), τd) (mpN P) (by omega) ⟨τd, rfl, Fz.rf, fun k hk => absurd hk (Nat.not_lt_zero k)⟩ (by omega)
    have hMe := fe.M hMd
    have e38 : mxI τe m 38 = q_n (u + 1) := (fe.2.2.2 _ _ (fun y => by omega)).1.trans d38
    rw [bd ee]
    dsimp only
    rw [bd (am_r46 hMe), bd (am_gI hMe), e38, q_n1 u (by omega), bd (am_s46 hMe hb c40 _)]
    have fE : Fz (d0F m u) τ τe := fd.tr (fe.mo fun q k z => Or.inr (Or.inr (Or.inr ⟨c40, Or.inr (Or.inl z)⟩)))
    refine ⟨_, rfl, fE.sI (Or.inr (Or.inr (Or.inr ⟨c40, Or.inr (Or.inr ⟨rfl, rfl⟩)⟩))) _, ?_, ?_, ?_, fun _ => ⟨?_, fun k hk => ?_⟩⟩
    · rw [sI_n (by omega)]; exact e38
    · rw [sI_n (by omega), (fe.2.2.2 _ _ (fun y => by omega)).1, ed, sI_n (by omega)]; exact c22
    · rw [sI_n (by omega), (fe.2.2.2 _ _ (fun y => by omega)).1, ed, sI_n (by omega)]; exact c23
    · rw [sI_n (by omega), (fe.2.2.2 _ _ (fun y => by omega)).1, ed]; exact sI_e
    · rw [sI_n (by omega)]; exact ze k hk
  · rw [if_pos (by rw [show (40 : Int32) = q_n 40 from rfl, q_nLt (by omega) (by omega)]; omega)]
    exact ⟨τc, rfl, fc, c38, c22, c23, fun z => absurd z c40⟩
/-- the name of a statement is told -/
theorem RQ_C (hh : hdU bl N u) (hF : ∀ v, v ≤ u → fmT bl N v < 6) (hR : RQ σ0 m bl N u u 0 σ) (f : Fz (fnF m) σ τ) (hL : LsR τ m bl N u 1) (f2 : Fz (d0F m u) τ σ2) (h38 : mxI σ2 m 38 = q_n (u + 1)) (h22 : mxI σ2 (m + 22) u = q_n (tkT bl N u 0)) (h23 : mxI σ2 (m + 23) u = q_n (enA bl (tkT bl N u 0) - tkT bl N u 0)) (h24 : u < 40 → mxI σ2 (m + 24) u = q_n (fmT bl N u) ∧ ∀ k, k < 4 → mxI σ2 (m + 26) (4 * u + k) = 0) : RQ σ0 m bl N (u + 1) u 1 σ2 := by
  obtain ⟨hB, ⟨h4, h5⟩, hNm, hU, -, hA, hRc, hUn⟩ := hR
  have h67 : lT bl N u 0 = 67 := (lf_n ⟨_, hh.2.2.1⟩).2.2.2
  have F : Fz (fun q k => fnF m q k ∨ d0F m u q k) σ σ2 := (f.mo fun _ _ z => Or.inl z).tr (f2.mo fun _ _ z => Or.inr z)
  have g : ∀ q k, ¬ (fnF m q k ∨ d0F m u q k) → mxI σ2 q k = mxI σ q k := fun q k z => (F.2.2.2 q k z).1
  refine ⟨RBs_f hB F (fun q k z => by unfold fnF d0F at z; unfold rlF; omega), ⟨(g _ _ (by unfold fnF d0F; omega)).trans h4, (g _ _ (by unfold fnF d0F; omega)).trans h5⟩, ⟨h38, fun v hv => ?_⟩, UsR_n (UsR_f hU F (fun q k z => by unfold fnF d0F at z; omega)) (by omega), LsR_f hL f2 (fun q k z => by unfold d0F at z; omega), ?_, fun v i hbf hv => ?_, fun v hv h40 k hk hn => ?_⟩
  · by_cases e : v = u
    · rw [e]; exact ⟨h22, h23⟩
    · rw [g _ _ (by unfold fnF d0F; omega), g _ _ (by unfold fnF d0F; omega)]
      exact hNm.2 v (by omega)
  · rw [g _ _ (by unfold fnF d0F; omega), hA, akA_n hh.2.2.1 (by omega)]
  · rcases bfr_s.mp hbf with y | ⟨rfl, rfl, -⟩
    · have hvu : v < u := by have := y.1; omega
      have fv := hF v (by omega)
      have nv := (n_6 ⟨_, fv⟩).1
      dsimp only at nv
      have hi : i < nLt 0 (kfl (fmT bl N v)) := y.2
      obtain ⟨t1, t2, t3, t4⟩ := lf_tab ⟨_, fv⟩ ⟨i, by omega⟩ hi
      dsimp only at t1 t2 t3 t4
      refine PR_cg (hRc v i y hv) (fun z q hq => ?_) (fun z k hk => ?_) (fun z => ?_) (fun z => ?_) (fun z => ?_)
      · have := t1 z
        exact g _ _ (by unfold fnF d0F; omega)
      · exact (F.2.2.2 _ _ (by unfold fnF d0F; omega)).2
      · exact g _ _ (by unfold fnF d0F; omega)
      · exact g _ _ (by unfold fnF d0F; omega)
      · exact g _ _ (by unfold fnF d0F; omega)
    · refine ⟨fun z => ?_, fun z => ?_, fun z => ?_, fun z => ?_, fun _ => (h24 hv).1⟩
      · omega
      · omega
      · omega
      · omega
  · by_cases e : v = u
    · rw [e]; exact (h24 (by omega)).2 k hk
    · rw [g _ _ (by unfold fnF d0F; omega)]
      exact hUn v (by omega) h40 k hk hn
theorem n_5 : ∀ f : Fin 6, (f.1 = 2 ∨ f.1 = 3) → nLt 0 (kfl f.1) = 6 := by decide +kernel
/-- the next statement -/
theorem RQ_n (h256 : ∀ b, b ∈ bl → b < 256) (hh : hdU bl N u) (hfit : ∀ k, k < nT bl N u → fit (lT bl N u k) (kdA bl (tkT bl N u k)) = true) (hsq : tkT bl N u (nT bl N u) ≤ sqA bl N 0 (u + 1)) (hR : RQ σ0 m bl N w u (nT bl N u) σ) : RQ σ0 m bl N w (u + 1) 0 σ := by
  obtain ⟨hB, h45, hNm, ⟨us, u1, u2, u3, u4⟩, ⟨fs, l1, l2⟩, hA, hRc, hUn⟩ := hR
  have hbd := tkB h256 hh (Nat.le_refl _) hfit
  refine ⟨hB, h45, hNm, ⟨us, u1, ?_, u3, fun s => ?_⟩, ⟨fs, l1, Lm_cg l2 fun s c => ?_⟩, ?_, fun v i hb hv => hRc v i (bfr_n.mpr hb) hv, hUn⟩
  · rw [npP]; omega
  · rw [u4 s]
    constructor
    · rintro ⟨v, i, y1, y2⟩
      exact ⟨v, i, bfr_n.mp y1, y2⟩
    · rintro ⟨v, i, y1, y2⟩
      exact ⟨v, i, bfr_n.mpr y1, y2⟩
  · unfold Dr
    constructor
    · rintro ⟨v, i, y1, y2⟩
      exact ⟨v, i, bfr_n.mpr y1, y2⟩
    · rintro ⟨v, i, y1, y2⟩
      exact ⟨v, i, bfr_n.mp y1, y2⟩
  · rw [hA]
    unfold akA
    rw [if_pos (show 0 ≤ 5 by omega)]
    by_cases c : nT bl N u ≤ 5
    · rw [if_pos c]
      have hq : isQ bl N u = false := decide_eq_false fun z => by
        have := n_5 ⟨_, hh.2.2.1⟩ z.1
        have h6 : nT bl N u = 6 := this
        omega
      rw [mkT, hq, if_neg (show ¬ (false = true) by decide)]
    · rw [if_neg c]
end IPS
