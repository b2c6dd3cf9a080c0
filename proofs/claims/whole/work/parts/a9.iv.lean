/-! ===== iv: the new linkage is copied, the reference's ===== -/
section IVS
variable {P : mx_P} {σ σ0 σ1 σ2 τ : mx_S} {x m n t l p q a N i k j u v w K c s f r L : Nat} {bl : List Nat}
theorem IsL {a j q i : Nat} {v : Int64} : mxI (mx_setL σ a j v) q i = mxI σ q i := rfl
theorem LsI {a j q i : Nat} {v : Int32} : mxL (mx_setI σ a j v) q i = mxL σ q i := rfl
/-- the cells of one point -/
def cpR (m p : Nat) : Nat → Nat → Prop := fun q k => (m + 5 ≤ q ∧ q ≤ m + 21 ∧ q ≠ m + 6 ∧ q ≠ m + 16 ∧ q ≠ m + 18 ∧ k = p) ∨ (q = m + 16 ∧ 8 * p ≤ k ∧ k < 8 * p + 8)
def Cpy (σ τ : mx_S) (m p s L : Nat) : Prop :=
  (mxI τ (m + 5) p = mxI σ (m + 24) p ∧ mxI τ (m + 11) p = mxI σ (m + 28) (3 * p) ∧ mxI τ (m + 12) p = mxI σ (m + 28) (3 * p + 1) ∧ mxI τ (m + 13) p = mxI σ (m + 28) (3 * p + 2) ∧ mxI τ (m + 14) p = mxI σ (m + 29) p ∧ mxI τ (m + 17) p = mxI σ (m + 31) p ∧ mxI τ (m + 15) p = mxI σ (m + 23) p) ∧
  (mxL τ (m + 7) p = mxL σ (m + 27) (4 * p) ∧ mxL τ (m + 8) p = mxL σ (m + 27) (4 * p + 1) ∧ mxL τ (m + 9) p = mxL σ (m + 27) (4 * p + 2) ∧ mxL τ (m + 10) p = mxL σ (m + 27) (4 * p + 3)) ∧
  (mxI τ (m + 19) p = 0 ∧ mxI τ (m + 20) p = 0 ∧ mxI τ (m + 21) p = 0) ∧ ∀ k, k < L → mxI τ (m + 16) (8 * p + k) = mxI σ (m + 1) (s + k)
theorem r_nmc (hf : 5000 ≤ mpN P) (hb : mpb P ≤ m) (hM : LyM σ m) (hp : p < 40) (hL : L ≤ 8) (hs : s + L ≤ 4000) (h22 : mxI σ (m + 22) p = q_n s) (h23 : mxI σ (m + 23) p = q_n L) : ∃ τ, mx_lp (f_X12_linkage_L319 P m (q_n p)) (mpN P) ((0 : Int32), σ) = some τ ∧ Fz (fun q k => q = m + 16 ∧ 8 * p ≤ k ∧ k < 8 * p + 8) σ τ ∧ ∀ k, k < L → mxI τ (m + 16) (8 * p + k) = mxI σ (m + 1) (s + k) := by
  refine q_for (f_X12_linkage_L319 P m (q_n p)) (fun w t => ∃ τ, t = (q_n w, τ) ∧ Fz (fun q k => q = m + 16 ∧ 8 * p ≤ k ∧ k < 8 * p + 8) σ τ ∧ ∀ k, k < w → mxI τ (m + 16) (8 * p + k) = mxI σ (m + 1) (s + k)) (fun τ => Fz (fun q k => q = m + 16 ∧ 8 * p ≤ k ∧ k < 8 * p + 8) σ τ ∧ ∀ k, k < L → mxI τ (m + 16) (8 * p + k) = mxI σ (m + 1) (s + k)) L ?_ ?_ L 0 _ (mpN P) (by omega) ⟨σ, rfl, Fz.rf, fun k hk => absurd hk (Nat.not_lt_zero k)⟩ (by omega)
  · rintro w t hw ⟨τ, rfl, f, h⟩
    left
    have hMt := f.M hM
    have g : ∀ q k, q ≠ m + 16 → mxI τ q k = mxI σ q k := fun q k z => (f.2.2.2 q k (fun y => z y.1)).1
    have ix : (8 : Int32) * q_n p + q_n w = q_n (8 * p + w) := by rw [show (8 : Int32) = q_n 8 from rfl, q_nM, q_nA]
    show ∃ t', f_X12_linkage_B319 P m (q_n p) (q_n w) τ = _ ∧ _
    unfold f_X12_linkage_B319
    rw [bd (am_r40 hMt), bd (am_g40 hMt (by omega)), g _ _ (by omega), h23, if_neg (by rw [q_nLe (by omega) (by omega)]; omega), bd (am_r32 hMt), bd (am_r1 hMt), bd (am_r39 hMt), bd (am_g39 hMt (by omega)), g _ _ (by omega), h22, q_nA, bd (am_g1 hMt (by omega)), g _ _ (by omega), ix, bd (am_s32 hMt hb (by omega) _), bds, q_nS]
    refine ⟨_, rfl, _, rfl, f.sI ⟨rfl, by omega, by omega⟩ _, fun k hk => ?_⟩
    by_cases e : k = w
    · rw [e, sI_e]
    · rw [sI_n (by omega)]; exact h k (by omega)
  · rintro t ⟨τ, rfl, f, h⟩
    refine ⟨τ, ?_, f, h⟩
    have hMt := f.M hM
    show f_X12_linkage_B319 P m (q_n p) (q_n L) τ = _
    unfold f_X12_linkage_B319
    rw [bd (am_r40 hMt), bd (am_g40 hMt (by omega)), (f.2.2.2 _ _ (fun y => by omega)).1, h23, if_pos (by rw [q_nLe (by omega) (by omega)]; exact Nat.le_refl _)]
theorem r_cp1 (hf : 5000 ≤ mpN P) (hb : mpb P ≤ m) (hM : LyM σ m) (hp : p < K) (hK : K ≤ 40) (hL : L ≤ 8) (hs : s + L ≤ 4000) (h19 : mxI σ m 19 = q_n K) (h22 : mxI σ (m + 22) p = q_n s) (h23 : mxI σ (m + 23) p = q_n L) : ∃ τ, f_X12_linkage_L153 P m (q_n p, σ) = some (.inl (q_n (p + 1), τ)) ∧ Fz (cpR m p) σ τ ∧ Cpy σ τ m p s L := by
  have i4 : (4 : Int32) * q_n p = q_n (4 * p) := by rw [show (4 : Int32) = q_n 4 from rfl, q_nM]
  have i41 : q_n (4 * p) + (1 : Int32) = q_n (4 * p + 1) := q_nS _
  have i42 : q_n (4 * p) + (2 : Int32) = q_n (4 * p + 2) := by rw [show (2 : Int32) = q_n 2 from rfl, q_nA]
  have i43 : q_n (4 * p) + (3 : Int32) = q_n (4 * p + 3) := by rw [show (3 : Int32) = q_n 3 from rfl, q_nA]
  have i3 : (3 : Int32) * q_n p = q_n (3 * p) := by rw [show (3 : Int32) = q_n 3 from rfl, q_nM]
  have i31 : q_n (3 * p) + (1 : Int32) = q_n (3 * p + 1) := q_nS _
  have i32 : q_n (3 * p) + (2 : Int32) = q_n (3 * p + 2) := by rw [show (2 : Int32) = q_n 2 from rfl, q_nA]
  obtain ⟨t1, e1⟩ : ∃ t1, t1 = mx_setI σ (m + 5) p (mxI σ (m + 24) (p)) := ⟨_, rfl⟩
  have F1 : Fz (cpR m p) σ t1 := by rw [e1]; exact (Fz.rf : Fz (cpR m p) σ σ).sI (Or.inl ⟨by omega, by omega, by omega, by omega, by omega, rfl⟩) _
  have H1 : LyM t1 m := F1.M hM
  obtain ⟨t2, e2⟩ : ∃ t2, t2 = mx_setL t1 (m + 7) p (mxL σ (m + 27) (4 * p)) := ⟨_, rfl⟩
  have F2 : Fz (cpR m p) σ t2 := by rw [e2]; exact F1.sL (Or.inl ⟨by omega, by omega, by omega, by omega, by omega, rfl⟩) _
  have H2 : LyM t2 m := F2.M hM
  obtain ⟨t3, e3⟩ : ∃ t3, t3 = mx_setL t2 (m + 8) p (mxL σ (m + 27) (4 * p + 1)) := ⟨_, rfl⟩
  have F3 : Fz (cpR m p) σ t3 := by rw [e3]; exact F2.sL (Or.inl ⟨by omega, by omega, by omega, by omega, by omega, rfl⟩) _
  have H3 : LyM t3 m := F3.M hM
  obtain ⟨t4, e4⟩ : ∃ t4, t4 = mx_setL t3 (m + 9) p (mxL σ (m + 27) (4 * p + 2)) := ⟨_, rfl⟩
  have F4 : Fz (cpR m p) σ t4 := by rw [e4]; exact F3.sL (Or.inl ⟨by omega, by omega, by omega, by omega, by omega, rfl⟩) _
  have H4 : LyM t4 m := F4.M hM
  obtain ⟨t5, e5⟩ : ∃ t5, t5 = mx_setL t4 (m + 10) p (mxL σ (m + 27) (4 * p + 3)) := ⟨_, rfl⟩
  have F5 : Fz (cpR m p) σ t5 := by rw [e5]; exact F4.sL (Or.inl ⟨by omega, by omega, by omega, by omega, by omega, rfl⟩) _
  have H5 : LyM t5 m := F5.M hM
  obtain ⟨t6, e6⟩ : ∃ t6, t6 = mx_setI t5 (m + 11) p (mxI σ (m + 28) (3 * p)) := ⟨_, rfl⟩
  have F6 : Fz (cpR m p) σ t6 := by rw [e6]; exact F5.sI (Or.inl ⟨by omega, by omega, by omega, by omega, by omega, rfl⟩) _
  have H6 : LyM t6 m := F6.M hM
  obtain ⟨t7, e7⟩ : ∃ t7, t7 = mx_setI t6 (m + 12) p (mxI σ (m + 28) (3 * p + 1)) := ⟨_, rfl⟩
  have F7 : Fz (cpR m p) σ t7 := by rw [e7]; exact F6.sI (Or.inl ⟨by omega, by omega, by omega, by omega, by omega, rfl⟩) _
  have H7 : LyM t7 m := F7.M hM
  obtain ⟨t8, e8⟩ : ∃ t8, t8 = mx_setI t7 (m + 13) p (mxI σ (m + 28) (3 * p + 2)) := ⟨_, rfl⟩
  have F8 : Fz (cpR m p) σ t8 := by rw [e8]; exact F7.sI (Or.inl ⟨by omega, by omega, by omega, by omega, by omega, rfl⟩) _
  have H8 : LyM t8 m := F8.M hM
  obtain ⟨t9, e9⟩ : ∃ t9, t9 = mx_setI t8 (m + 14) p (mxI σ (m + 29) (p)) := ⟨_, rfl⟩
  have F9 : Fz (cpR m p) σ t9 := by rw [e9]; exact F8.sI (Or.inl ⟨by omega, by omega, by omega, by omega, by omega, rfl⟩) _
  have H9 : LyM t9 m := F9.M hM
  obtain ⟨t10, e10⟩ : ∃ t10, t10 = mx_setI t9 (m + 17) p (mxI σ (m + 31) (p)) := ⟨_, rfl⟩
  have F10 : Fz (cpR m p) σ t10 := by rw [e10]; exact F9.sI (Or.inl ⟨by omega, by omega, by omega, by omega, by omega, rfl⟩) _
  have H10 : LyM t10 m := F10.M hM
  obtain ⟨t11, e11⟩ : ∃ t11, t11 = mx_setI t10 (m + 15) p (mxI σ (m + 23) (p)) := ⟨_, rfl⟩
  have F11 : Fz (cpR m p) σ t11 := by rw [e11]; exact F10.sI (Or.inl ⟨by omega, by omega, by omega, by omega, by omega, rfl⟩) _
  have H11 : LyM t11 m := F11.M hM
  obtain ⟨u1, c1, fu, hu⟩ := r_nmc (P := P) hf hb H11 (show p < 40 by omega) hL hs ((F11.2.2.2 _ _ (fun z => by unfold cpR at z; omega)).1.trans h22) ((F11.2.2.2 _ _ (fun z => by unfold cpR at z; omega)).1.trans h23)
  have G1 : Fz (cpR m p) σ u1 := F11.tr (fu.mo fun q k z => Or.inr z)
  obtain ⟨u2, d2⟩ : ∃ u2, u2 = mx_setI u1 (m + 19) p 0 := ⟨_, rfl⟩
  obtain ⟨u3, d3⟩ : ∃ u3, u3 = mx_setI u2 (m + 20) p 0 := ⟨_, rfl⟩
  obtain ⟨u4, d4⟩ : ∃ u4, u4 = mx_setI u3 (m + 21) p 0 := ⟨_, rfl⟩
  have G2 : Fz (cpR m p) σ u2 := by rw [d2]; exact G1.sI (Or.inl ⟨by omega, by omega, by omega, by omega, by omega, rfl⟩) _
  have G3 : Fz (cpR m p) σ u3 := by rw [d3]; exact G2.sI (Or.inl ⟨by omega, by omega, by omega, by omega, by omega, rfl⟩) _
  have G4 : Fz (cpR m p) σ u4 := by rw [d4]; exact G3.sI (Or.inl ⟨by omega, by omega, by omega, by omega, by omega, rfl⟩) _
  have J1 := G1.M hM
  have J2 := G2.M hM
  have J3 := G3.M hM
  refine ⟨u4, ?_, G4, ?_⟩
  · show f_X12_linkage_B153 P m (q_n p) σ = _
    unfold f_X12_linkage_B153
    rw [bd (am_gI hM), h19, if_neg (by rw [q_nLe (by omega) (by omega)]; omega)]
    rw [bd (am_r21 hM), bd (am_r41 hM), bd (am_g41 hM (by omega)), bd (am_s21 hM hb (by omega) _), ← e1]
    rw [bd (am_r23 H1), bd (am_r44 H1), i4, bd (am_g44 H1 (by omega)), (F1.2.2.2 _ _ (fun z => by unfold cpR at z; omega)).2, bd (am_s23 H1 hb (by omega) _), ← e2]
    rw [bd (am_r24 H2), bd (am_r44 H2), i41, bd (am_g44 H2 (by omega)), (F2.2.2.2 _ _ (fun z => by unfold cpR at z; omega)).2, bd (am_s24 H2 hb (by omega) _), ← e3]
    rw [bd (am_r25 H3), bd (am_r44 H3), i42, bd (am_g44 H3 (by omega)), (F3.2.2.2 _ _ (fun z => by unfold cpR at z; omega)).2, bd (am_s25 H3 hb (by omega) _), ← e4]
    rw [bd (am_r26 H4), bd (am_r44 H4), i43, bd (am_g44 H4 (by omega)), (F4.2.2.2 _ _ (fun z => by unfold cpR at z; omega)).2, bd (am_s26 H4 hb (by omega) _), ← e5]
    rw [bd (am_r27 H5), bd (am_r45 H5), i3, bd (am_g45 H5 (by omega)), (F5.2.2.2 _ _ (fun z => by unfold cpR at z; omega)).1, bd (am_s27 H5 hb (by omega) _), ← e6]
    rw [bd (am_r28 H6), bd (am_r45 H6), i31, bd (am_g45 H6 (by omega)), (F6.2.2.2 _ _ (fun z => by unfold cpR at z; omega)).1, bd (am_s28 H6 hb (by omega) _), ← e7]
    rw [bd (am_r29 H7), bd (am_r45 H7), i32, bd (am_g45 H7 (by omega)), (F7.2.2.2 _ _ (fun z => by unfold cpR at z; omega)).1, bd (am_s29 H7 hb (by omega) _), ← e8]
    rw [bd (am_r30 H8), bd (am_r46 H8), bd (am_g46 H8 (by omega)), (F8.2.2.2 _ _ (fun z => by unfold cpR at z; omega)).1, bd (am_s30 H8 hb (by omega) _), ← e9]
    rw [bd (am_r33 H9), bd (am_r48 H9), bd (am_g48 H9 (by omega)), (F9.2.2.2 _ _ (fun z => by unfold cpR at z; omega)).1, bd (am_s33 H9 hb (by omega) _), ← e10]
    rw [bd (am_r31 H10), bd (am_r40 H10), bd (am_g40 H10 (by omega)), (F10.2.2.2 _ _ (fun z => by unfold cpR at z; omega)).1, bd (am_s31 H10 hb (by omega) _), ← e11]
    rw [bd c1]
    try dsimp only
    rw [bd (am_r35 J1), bd (am_s35 J1 hb (by omega) _), ← d2, bd (am_r36 J2), bd (am_s36 J2 hb (by omega) _), ← d3, bd (am_r37 J3), bd (am_s37 J3 hb (by omega) _), ← d4, bds, q_nS]
  · have U : ∀ q, m + 5 ≤ q → q ≤ m + 18 → q ≠ m + 16 → mxI u4 q p = mxI t11 q p ∧ mxL u4 q p = mxL t11 q p := fun q h1 h2 h3 => by
      have z := fu.2.2.2 q p (fun z => by omega)
      constructor
      · rw [d4, sI_n (by omega), d3, sI_n (by omega), d2, sI_n (by omega)]; exact z.1
      · rw [d4, LsI, d3, LsI, d2, LsI]; exact z.2
    exact ⟨⟨by rw [(U _ (by omega) (by omega) (by omega)).1, e11, sI_n (by omega), e10, sI_n (by omega), e9, sI_n (by omega), e8, sI_n (by omega), e7, sI_n (by omega), e6, sI_n (by omega), e5, IsL, e4, IsL, e3, IsL, e2, IsL, e1, sI_e], by rw [(U _ (by omega) (by omega) (by omega)).1, e11, sI_n (by omega), e10, sI_n (by omega), e9, sI_n (by omega), e8, sI_n (by omega), e7, sI_n (by omega), e6, sI_e], by rw [(U _ (by omega) (by omega) (by omega)).1, e11, sI_n (by omega), e10, sI_n (by omega), e9, sI_n (by omega), e8, sI_n (by omega), e7, sI_e], by rw [(U _ (by omega) (by omega) (by omega)).1, e11, sI_n (by omega), e10, sI_n (by omega), e9, sI_n (by omega), e8, sI_e], by rw [(U _ (by omega) (by omega) (by omega)).1, e11, sI_n (by omega), e10, sI_n (by omega), e9, sI_e], by rw [(U _ (by omega) (by omega) (by omega)).1, e11, sI_n (by omega), e10, sI_e], by rw [(U _ (by omega) (by omega) (by omega)).1, e11, sI_e]⟩, ⟨by rw [(U _ (by omega) (by omega) (by omega)).2, e11, LsI, e10, LsI, e9, LsI, e8, LsI, e7, LsI, e6, LsI, e5, sL_n (by omega), e4, sL_n (by omega), e3, sL_n (by omega), e2, sL_e], by rw [(U _ (by omega) (by omega) (by omega)).2, e11, LsI, e10, LsI, e9, LsI, e8, LsI, e7, LsI, e6, LsI, e5, sL_n (by omega), e4, sL_n (by omega), e3, sL_e], by rw [(U _ (by omega) (by omega) (by omega)).2, e11, LsI, e10, LsI, e9, LsI, e8, LsI, e7, LsI, e6, LsI, e5, sL_n (by omega), e4, sL_e], by rw [(U _ (by omega) (by omega) (by omega)).2, e11, LsI, e10, LsI, e9, LsI, e8, LsI, e7, LsI, e6, LsI, e5, sL_e]⟩, ⟨by rw [d4, sI_n (by omega), d3, sI_n (by omega), d2, sI_e], by rw [d4, sI_n (by omega), d3, sI_e], by rw [d4, sI_e]⟩, fun k hk => by rw [d4, sI_n (by omega), d3, sI_n (by omega), d2, sI_n (by omega), hu k hk, (F11.2.2.2 _ _ (fun z => by unfold cpR at z; omega)).1]⟩
/-- what the copies change -/
def cpF (m : Nat) : Nat → Nat → Prop := fun q _ => m + 5 ≤ q ∧ q ≤ m + 21
theorem Cpy_s (hs : ∀ q k, m + 22 ≤ q ∨ q = m + 1 → mxI σ1 q k = mxI σ q k ∧ mxL σ1 q k = mxL σ q k) (h : Cpy σ1 τ m p s L) : Cpy σ τ m p s L := by
  obtain ⟨⟨a1, a2, a3, a4, a5, a6, a7⟩, ⟨b1, b2, b3, b4⟩, c, d⟩ := h
  exact ⟨⟨a1.trans (hs _ _ (by omega)).1, a2.trans (hs _ _ (by omega)).1, a3.trans (hs _ _ (by omega)).1, a4.trans (hs _ _ (by omega)).1, a5.trans (hs _ _ (by omega)).1, a6.trans (hs _ _ (by omega)).1, a7.trans (hs _ _ (by omega)).1⟩, ⟨b1.trans (hs _ _ (by omega)).2, b2.trans (hs _ _ (by omega)).2, b3.trans (hs _ _ (by omega)).2, b4.trans (hs _ _ (by omega)).2⟩, c, fun k hk => (d k hk).trans (hs _ _ (by omega)).1⟩
theorem Cpy_t {S : Nat → Nat → Prop} (hL : L ≤ 8) (f : Fz S σ1 τ) (hs : ∀ q k, S q k → ¬ cpR m p q k) (h : Cpy σ σ1 m p s L) : Cpy σ τ m p s L := by
  obtain ⟨⟨a1, a2, a3, a4, a5, a6, a7⟩, ⟨b1, b2, b3, b4⟩, ⟨c1, c2, c3⟩, d⟩ := h
  have g : ∀ q k, cpR m p q k → mxI τ q k = mxI σ1 q k ∧ mxL τ q k = mxL σ1 q k := fun q k z => f.2.2.2 q k (fun y => hs q k y z)
  exact ⟨⟨(g _ _ (by unfold cpR; omega)).1.trans a1, (g _ _ (by unfold cpR; omega)).1.trans a2, (g _ _ (by unfold cpR; omega)).1.trans a3, (g _ _ (by unfold cpR; omega)).1.trans a4, (g _ _ (by unfold cpR; omega)).1.trans a5, (g _ _ (by unfold cpR; omega)).1.trans a6, (g _ _ (by unfold cpR; omega)).1.trans a7⟩, ⟨(g _ _ (by unfold cpR; omega)).2.trans b1, (g _ _ (by unfold cpR; omega)).2.trans b2, (g _ _ (by unfold cpR; omega)).2.trans b3, (g _ _ (by unfold cpR; omega)).2.trans b4⟩, ⟨(g _ _ (by unfold cpR; omega)).1.trans c1, (g _ _ (by unfold cpR; omega)).1.trans c2, (g _ _ (by unfold cpR; omega)).1.trans c3⟩, fun k hk => (g _ _ (by unfold cpR; omega)).1.trans (d k hk)⟩
/-- all copies -/
theorem r_cpy {sA lA : Nat → Nat} (hf : 5000 ≤ mpN P) (hb : mpb P ≤ m) (hM : LyM σ m) (hK : K ≤ 40) (h19 : mxI σ m 19 = q_n K) (hn : ∀ p, p < K → lA p ≤ 8 ∧ sA p + lA p ≤ 4000 ∧ mxI σ (m + 22) p = q_n (sA p) ∧ mxI σ (m + 23) p = q_n (lA p)) : ∃ τ, mx_lp (f_X12_linkage_L153 P m) (mpN P) ((0 : Int32), σ) = some τ ∧ Fz (cpF m) σ τ ∧ ∀ p, p < K → Cpy σ τ m p (sA p) (lA p) := by
  refine q_for (f_X12_linkage_L153 P m) (fun w t => ∃ τ, t = (q_n w, τ) ∧ Fz (cpF m) σ τ ∧ ∀ p, p < w → Cpy σ τ m p (sA p) (lA p)) (fun τ => Fz (cpF m) σ τ ∧ ∀ p, p < K → Cpy σ τ m p (sA p) (lA p)) K ?_ ?_ K 0 _ (mpN P) (by omega) ⟨σ, rfl, Fz.rf, fun p hp => absurd hp (Nat.not_lt_zero p)⟩ (by omega)
  · rintro w t hw ⟨τ, rfl, f, h⟩
    left
    have hMt := f.M hM
    have g : ∀ q k, ¬ (m + 5 ≤ q ∧ q ≤ m + 21) → mxI τ q k = mxI σ q k ∧ mxL τ q k = mxL σ q k := fun q k z => f.2.2.2 q k z
    obtain ⟨n1, n2, n3, n4⟩ := hn w hw
    obtain ⟨τ', e, f', h'⟩ := r_cp1 (P := P) hf hb hMt hw hK n1 n2 ((g _ _ (by omega)).1.trans h19) ((g _ _ (by omega)).1.trans n3) ((g _ _ (by omega)).1.trans n4)
    refine ⟨_, e, τ', rfl, f.tr (f'.mo fun q k z => by unfold cpR at z; unfold cpF; omega), fun p hp => ?_⟩
    by_cases c : p = w
    · rw [c]; exact Cpy_s (fun q k z => g q k (by omega)) h'
    · exact Cpy_t (hn p (by omega)).1 f' (fun q k z y => by unfold cpR at z y; omega) (h p (by omega))
  · rintro t ⟨τ, rfl, f, h⟩
    refine ⟨τ, ?_, f, h⟩
    show f_X12_linkage_B153 P m (q_n K) τ = _
    unfold f_X12_linkage_B153
    rw [bd (am_gI (f.M hM)), (f.2.2.2 _ _ (fun z => by unfold cpF at z; omega)).1, h19, if_pos (by rw [q_nLe (by omega) (by omega)]; exact Nat.le_refl _)]
theorem r_cpo (hf : 5000 ≤ mpN P) (hb : mpb P ≤ m) (hM : LyM σ m) (hK : K ≤ 40) (h19 : mxI σ m 19 = q_n K) : ∃ τ, mx_lp (f_X12_linkage_L388 P m) (mpN P) ((0 : Int32), σ) = some τ ∧ Fz (fun q _ => q = m + 6) σ τ ∧ ∀ i, i < 4 * K → mxI τ (m + 6) i = mxI σ (m + 30) i := by
  refine q_for (f_X12_linkage_L388 P m) (fun w t => ∃ τ, t = (q_n w, τ) ∧ Fz (fun q _ => q = m + 6) σ τ ∧ ∀ i, i < w → mxI τ (m + 6) i = mxI σ (m + 30) i) (fun τ => Fz (fun q _ => q = m + 6) σ τ ∧ ∀ i, i < 4 * K → mxI τ (m + 6) i = mxI σ (m + 30) i) (4 * K) ?_ ?_ (4 * K) 0 _ (mpN P) (by omega) ⟨σ, rfl, Fz.rf, fun p hp => absurd hp (Nat.not_lt_zero p)⟩ (by omega)
  · rintro w t hw ⟨τ, rfl, f, h⟩
    left
    have hMt := f.M hM
    have g : ∀ q k, ¬ (q = m + 6) → mxI τ q k = mxI σ q k := fun q k z => (f.2.2.2 q k z).1
    show ∃ t', f_X12_linkage_B388 P m (q_n w) τ = _ ∧ _
    unfold f_X12_linkage_B388
    rw [bd (am_gI hMt), g _ _ (by omega), h19, show (4 : Int32) = q_n 4 from rfl, q_nM, if_neg (by rw [q_nLe (by omega) (by omega)]; omega), bd (am_r22 hMt), bd (am_r47 hMt), bd (am_g47 hMt (by omega)), g _ _ (by omega), bd (am_s22 hMt hb (by omega) _), bds, q_nS]
    refine ⟨_, rfl, _, rfl, f.sI rfl _, fun i hi => ?_⟩
    by_cases e : i = w
    · rw [e, sI_e]
    · rw [sI_n (by omega)]; exact h i (by omega)
  · rintro t ⟨τ, rfl, f, h⟩
    refine ⟨τ, ?_, f, h⟩
    show f_X12_linkage_B388 P m (q_n (4 * K)) τ = _
    unfold f_X12_linkage_B388
    rw [bd (am_gI (f.M hM)), (f.2.2.2 _ _ (fun z => by omega)).1, h19, show (4 : Int32) = q_n 4 from rfl, q_nM, if_pos (by rw [q_nLe (by omega) (by omega)]; exact Nat.le_refl _)]
theorem r_cp0 (hf : 5000 ≤ mpN P) (hb : mpb P ≤ m) (hM : LyM σ m) : ∃ τ, mx_lp (f_X12_linkage_L418 P m) (mpN P) ((0 : Int32), σ) = some τ ∧ Fz (fun q _ => q = m + 18) σ τ ∧ ∀ i, i < 4 → mxI τ (m + 18) i = 0 := by
  refine q_for (f_X12_linkage_L418 P m) (fun w t => ∃ τ, t = (q_n w, τ) ∧ Fz (fun q _ => q = m + 18) σ τ ∧ ∀ i, i < w → mxI τ (m + 18) i = 0) (fun τ => Fz (fun q _ => q = m + 18) σ τ ∧ ∀ i, i < 4 → mxI τ (m + 18) i = 0) 4 ?_ ?_ 4 0 _ (mpN P) (by omega) ⟨σ, rfl, Fz.rf, fun p hp => absurd hp (Nat.not_lt_zero p)⟩ (by omega)
  · rintro w t hw ⟨τ, rfl, f, h⟩
    left
    have hMt := f.M hM
    show ∃ t', f_X12_linkage_B418 P m (q_n w) τ = _ ∧ _
    unfold f_X12_linkage_B418
    rw [if_neg (by rw [show (4 : Int32) = q_n 4 from rfl, q_nLe (by omega) (by omega)]; omega), bd (am_r34 hMt), bd (am_s34 hMt hb hw _), bds, q_nS]
    refine ⟨_, rfl, _, rfl, f.sI rfl _, fun i hi => ?_⟩
    by_cases e : i = w
    · rw [e, sI_e]
    · rw [sI_n (by omega)]; exact h i (by omega)
  · rintro t ⟨τ, rfl, f, h⟩
    refine ⟨τ, ?_, f, h⟩
    show f_X12_linkage_B418 P m (q_n 4) τ = _
    unfold f_X12_linkage_B418
    rw [if_pos (show (4 : Int32) ≤ q_n 4 by decide)]
end IVS
