/-! ===== hi: feed, end, fault ===== -/
section HIS
variable {P : mx_P} {σ σ0 σ1 σ2 τ : mx_S} {x m n : Nat} {S T : Nat → Nat → Prop} {bs : List Nat}
def RT0 (x : Nat) (bs : List Nat) (σ : mx_S) : Prop := TC σ (x + 1) bs ∧ TR σ (x + 1497) bs ∧ mxI σ (x + 1) 2 = mxI σ (x + 1497) 4 ∧ mxI σ (x + 1) 3 = mxI σ (x + 1497) 5
def RT (x : Nat) (σ : mx_S) : Prop := ∃ bs, RT0 x bs σ
theorem TC_cg {t : Nat} (h : TC σ t bs) (h1 : mxI τ t 1 = mxI σ t 1) (h2 : ∀ k, mxI τ (t + 1) k = mxI σ (t + 1) k) : TC τ t bs := ⟨h.1, h1.trans h.2.1, fun k b hk => by rw [h2]; exact h.2.2 k b hk⟩
theorem TR_cg (h : TR σ m bs) (h1 : mxI τ m 2 = mxI σ m 2) (h2 : ∀ k, mxI τ (m + 1) k = mxI σ (m + 1) k) : TR τ m bs := ⟨h.1, h1.trans h.2.1, fun k b hk => by rw [h2]; exact h.2.2 k b hk⟩
theorem RT0_cg (h : RT0 x bs σ) (e : ∀ q j, cp x 0 q j → mxI τ q j = mxI σ q j) : RT0 x bs τ := by
  obtain ⟨h1, h2, h3, h4⟩ := h
  have c1 : ∀ q j, x + 1 ≤ q → q < x + 9 → mxI τ q j = mxI σ q j := fun q j a b => e q j (Or.inl ⟨a, b⟩)
  have c2 : ∀ j, j = 2 ∨ j = 4 ∨ j = 5 → mxI τ (x + 1497) j = mxI σ (x + 1497) j := fun j hj => e _ _ (Or.inr (Or.inr ⟨rfl, hj⟩))
  refine ⟨TC_cg h1 (c1 _ _ (by omega) (by omega)) (fun k => c1 _ _ (by omega) (by omega)), TR_cg h2 (c2 _ (by omega)) (fun k => e _ _ (Or.inr (Or.inl rfl))), ?_, ?_⟩
  · rw [c1 _ _ (by omega) (by omega), c2 _ (by omega)]; exact h3
  · rw [c1 _ _ (by omega) (by omega), c2 _ (by omega)]; exact h4
theorem RT.fr {ns : List Nat} (h : RT x σ) (f : Fr x ns σ τ) (hn : 0 ∉ ns) : RT x τ := by
  obtain ⟨bs, h⟩ := h
  exact ⟨bs, RT0_cg h fun q j hq => (f.2.2.1 0 q j hq hn).1⟩
/-- the class's own text cells -/
def tcS (x : Nat) : Nat → Nat → Prop := fun q _ => x + 1 ≤ q ∧ q < x + 9
/-- the reference's -/
def trS (m : Nat) : Nat → Nat → Prop := fun q j => q = m + 1 ∨ (q = m ∧ (j = 0 ∨ j = 2 ∨ j = 4 ∨ j = 5))
theorem cp0_off {i q j : Nat} (h : cp x i q j) (hi : i ≠ 0) : ¬ (x + 1 ≤ q ∧ q < x + 9) ∧ q ≠ x + 1498 ∧ (q = x + 1497 → j ≠ 0 ∧ j ≠ 2 ∧ j ≠ 4 ∧ j ≠ 5) := by
  rcases i with _ | _ | _ | _ | _ | _ | _ | _ | i <;> first | exact absurd rfl hi | exact h.elim | (simp only [cp] at h; omega)
theorem tc_fr (h : Fz (tcS x) σ τ) : Fr x [0] σ τ := h.fr fun i q j hq hi hs => by
  have := cp0_off hq (by simpa using hi)
  unfold tcS at hs; omega
theorem tr_fr (h : Fz (trS (x + 1497)) σ τ) : Fr x [0] σ τ := h.fr fun i q j hq hi hs => by
  have := cp0_off hq (by simpa using hi)
  unfold trS at hs; omega
theorem TR_tc (h : TR σ (x + 1497) bs) (f : Fz (tcS x) σ τ) : TR τ (x + 1497) bs := TR_cg h (f.2.2.2 _ _ (fun z => by unfold tcS at z; omega)).1 (fun k => (f.2.2.2 _ _ (fun z => by unfold tcS at z; omega)).1)
theorem TC_tr (h : TC σ (x + 1) bs) (f : Fz (trS (x + 1497)) σ τ) : TC τ (x + 1) bs := TC_cg h (f.2.2.2 _ _ (fun z => by unfold trS at z; omega)).1 (fun k => (f.2.2.2 _ _ (fun z => by unfold trS at z; omega)).1)
theorem sL_o (v : Int64) : Fr x [] σ (mx_setL σ (x + 1575) 0 v) := Fr.rf.sL (Or.inr cp_o) v
def w20 (a b c d e : Int32) : List Nat := w4 a ++ w4 b ++ w4 c ++ w4 d ++ w4 e
theorem g_feed (hS : St P σ x) (h : RT x σ) (a b c d e : Int32) : Q32 x σ (f_L_feed P x a b c d e (x + 1575) σ) (fun τ => f_X12_feed P (x + 1497) a b c d e τ) [0] (RT x) := by
  obtain ⟨bs, hC, hR, hf1, hf2⟩ := h
  obtain ⟨hL, hb, hN, hrm⟩ := hS
  have hx := LyH_o hL
  have hT := LyH_t hL
  have hM := LyH_m hL
  have hbt : mpb P ≤ x + 1 := by omega
  have hbm : mpb P ≤ x + 1497 := by omega
  have hl := hC.1
  have e20 : (20 : Int32) = q_n 20 := rfl
  have e4k : (4000 : Int32) = q_n 4000 := rfl
  have y1 : mr_Z 1 σ = some (1, σ) := if_pos (Or.inr rfl)
  have y0 : mr_Z 0 σ = some (0, σ) := if_pos (Or.inl rfl)
  by_cases hr : bs.length + 20 ≤ 4000
  · have hroom : f_X10_hasRoom P (x + 1) 20 σ = some (1, σ) := by
      unfold f_X10_hasRoom f_X10_hasRoom_D17
      rw [bd (at_gI hT), hC.2.1, e20, q_nA, if_neg (by rw [e4k, q_nLt (by omega) (by omega)]; omega)]; exact y1
    have ly : ∀ {τ}, Fz (tcS x) σ τ → LyT τ (x + 1) ∧ mg_R τ x 11 0 = some (x + 1) := fun {τ} f => ⟨by unfold LyT; rw [f.1, f.2.1]; exact hT, (q_gR (by rw [f.1]; exact hx)).trans (by rw [f.2.1]; exact LyH_r0 hL)⟩
    have up : ∀ {τ τ' : mx_S}, Fz (fun q j => q = x + 1 + 1 ∨ (q = x + 1 ∧ j = 1)) τ τ' → Fz (tcS x) τ τ' := fun f => f.mo fun q j z => by unfold tcS; omega
    have len : ∀ (l : List Nat) p, (l ++ w4 p).length = l.length + 4 := fun l p => by rw [List.length_append, w4_len]
    obtain ⟨τ1, e1, c1, g1⟩ := c_gather (P := P) hT hbt hC (by omega) a
    have f1 := up g1
    obtain ⟨τ2, e2, c2, g2⟩ := c_gather (P := P) (ly f1).1 hbt c1 (by rw [len]; omega) b
    have f2 := f1.tr (up g2)
    obtain ⟨τ3, e3, c3, g3⟩ := c_gather (P := P) (ly f2).1 hbt c2 (by rw [len, len]; omega) c
    have f3 := f2.tr (up g3)
    obtain ⟨τ4, e4, c4, g4⟩ := c_gather (P := P) (ly f3).1 hbt c3 (by rw [len, len, len]; omega) d
    have f4 := f3.tr (up g4)
    obtain ⟨τ5, e5, c5, g5⟩ := c_gather (P := P) (ly f4).1 hbt c4 (by rw [len, len, len, len]; omega) e
    have f5 := f4.tr (up g5)
    have hcl : f_X11_feed P x a b c d e σ = some (.inr (q_n (bs ++ w4 a ++ w4 b ++ w4 c ++ w4 d ++ w4 e).length, τ5)) := by
      unfold f_X11_feed
      rw [bd ((q_gR hx).trans (LyH_r0 hL)), bd (at_is hT), bd2 hroom, if_neg zi10, bd ((q_gR hx).trans (LyH_r0 hL)), bd (at_is hT), bd e1, bd (ly f1).2, bd (at_is (ly f1).1), bd e2, bd (ly f2).2, bd (at_is (ly f2).1), bd e3, bd (ly f3).2, bd (at_is (ly f3).1), bd e4, bd (ly f4).2, bd (at_is (ly f4).1), bd e5, bd (ly f5).2, bd (at_gI (ly f5).1), c5.2.1]
    obtain ⟨v, hv⟩ : ∃ v, v = (q_n (bs ++ w4 a ++ w4 b ++ w4 c ++ w4 d ++ w4 e).length).toInt64 := ⟨_, rfl⟩
    have hA5 : mxA τ5 (x + 1575) = some (.inr (1, 1)) := by rw [f5.1]; exact LyH_u hL
    have hlo := hr_feed (o := x + 1575) hx hcl hA5 (by omega)
    obtain ⟨τ6, e6⟩ : ∃ τ6, τ6 = mx_setL τ5 (x + 1575) 0 v := ⟨_, rfl⟩
    have hR6 : TR τ6 (x + 1497) bs := by rw [e6]; exact TR_cg (TR_tc hR f5) rfl (fun _ => rfl)
    have hC6 : TC τ6 (x + 1) (bs ++ w4 a ++ w4 b ++ w4 c ++ w4 d ++ w4 e) := by rw [e6]; exact TC_cg c5 rfl (fun _ => rfl)
    have hM6 : LyM τ6 (x + 1497) := by rw [e6]; exact f5.M hM
    obtain ⟨τ7, e7⟩ : ∃ τ7, τ7 = mx_setI τ6 (x + 1497) 0 0 := ⟨_, rfl⟩
    have k7 : Fz (trS (x + 1497)) τ6 τ7 := by rw [e7]; exact Fz.rf.sI (Or.inr ⟨rfl, Or.inl rfl⟩) _
    have hR7 : TR τ7 (x + 1497) bs := by rw [e7]; exact TR_cg hR6 (sI_n (by omega)) (fun k => sI_n (by omega))
    have ur : ∀ {τ τ' : mx_S}, Fz (fun q j => q = x + 1497 + 1 ∨ (q = x + 1497 ∧ j = 2)) τ τ' → Fz (trS (x + 1497)) τ τ' := fun f => f.mo fun q j z => by unfold trS; omega
    have hN1 : 100 ≤ mpN P := by omega
    obtain ⟨s1, d1, r1, j1⟩ := r_tape (P := P) hN1 (k7.M hM6) hbm hR7 (by omega) a
    have i1 := k7.tr (ur j1)
    obtain ⟨s2, d2, r2, j2⟩ := r_tape (P := P) hN1 (i1.M hM6) hbm r1 (by rw [len]; omega) b
    have i2 := i1.tr (ur j2)
    obtain ⟨s3, d3, r3, j3⟩ := r_tape (P := P) hN1 (i2.M hM6) hbm r2 (by rw [len, len]; omega) c
    have i3 := i2.tr (ur j3)
    obtain ⟨s4, d4, r4, j4⟩ := r_tape (P := P) hN1 (i3.M hM6) hbm r3 (by rw [len, len, len]; omega) d
    have i4 := i3.tr (ur j4)
    obtain ⟨s5, d5, r5, j5⟩ := r_tape (P := P) hN1 (i4.M hM6) hbm r4 (by rw [len, len, len, len]; omega) e
    have i5 := i4.tr (ur j5)
    have th0 : ∀ {τ τ' : mx_S}, Fz (fun q j => q = x + 1497 + 1 ∨ (q = x + 1497 ∧ j = 2)) τ τ' → ∀ j, j ≠ 2 → mxI τ' (x + 1497) j = mxI τ (x + 1497) j := fun f j hj => (f.2.2.2 _ _ (fun z => by omega)).1
    have h50 : ∀ j, j ≠ 2 → mxI s5 (x + 1497) j = mxI τ7 (x + 1497) j := fun j hj => by rw [th0 j5 j hj, th0 j4 j hj, th0 j3 j hj, th0 j2 j hj, th0 j1 j hj]
    have cc : ∀ {τ τ' : mx_S}, Fz (fun q j => q = x + 1 + 1 ∨ (q = x + 1 ∧ j = 1)) τ τ' → ∀ j, j ≠ 1 → mxI τ' (x + 1) j = mxI τ (x + 1) j := fun f j hj => (f.2.2.2 _ _ (fun z => by omega)).1
    have c50 : ∀ j, j ≠ 1 → mxI τ5 (x + 1) j = mxI σ (x + 1) j := fun j hj => by rw [cc g5 j hj, cc g4 j hj, cc g3 j hj, cc g2 j hj, cc g1 j hj]
    rw [← hv, ← e6] at hlo
    refine ⟨0, q_n (bs ++ w4 a ++ w4 b ++ w4 c ++ w4 d ++ w4 e).length, τ6, s5, hlo, ?_, ?_, fun _ => ?_, by rw [e6]; exact f5.1, ?_, _, TC_tr hC6 i5, r5, ?_, ?_⟩
    · show f_X12_feed P (x + 1497) a b c d e τ6 = _
      unfold f_X12_feed f_X12_feed_D19
      rw [bd (am_gI hM6), hR6.2.1, e20, q_nA, if_pos (by rw [e4k, q_nLe (by omega) (by omega)]; omega), bd (am_pI hM6 hbm _), ← e7, bd (am_gI (k7.M hM6)), show mxI τ7 (x + 1497) 0 = 0 by rw [e7]; exact sI_e, if_pos (by decide), bd (am_is (k7.M hM6)), bd d1, bd (am_is (i1.M hM6)), bd d2, bd (am_is (i2.M hM6)), bd d3, bd (am_is (i3.M hM6)), bd d4, bd (am_is (i4.M hM6)), bd d5, bd (am_gI (i5.M hM6)), r5.2.1]
    · rw [h50 0 (by omega), e7]; exact sI_e
    · rw [(i5.2.2.2 (x + 1575) 0 (fun z => by unfold trS at z; omega)).2, e6, q_LL, if_pos ⟨rfl, rfl⟩, hv]
    · have u1 := tc_fr f5
      have u2 : Fr x [0] τ5 τ6 := by rw [e6]; exact (sL_o v).mo (by simp)
      exact (u1.tr u2 (by rw [e6]; rfl)).tr (tr_fr i5) i5.2.2.1.1
    · rw [(i5.2.2.2 (x + 1) 2 (fun z => by unfold trS at z; omega)).1, h50 4 (by omega), e7, sI_n (by omega), e6]
      show mxI τ5 (x + 1) 2 = mxI τ5 (x + 1497) 4
      rw [(f5.2.2.2 (x + 1497) 4 (fun z => by unfold tcS at z; omega)).1, ← hf1]
      exact c50 2 (by omega)
    · rw [(i5.2.2.2 (x + 1) 3 (fun z => by unfold trS at z; omega)).1, h50 5 (by omega), e7, sI_n (by omega), e6]
      show mxI τ5 (x + 1) 3 = mxI τ5 (x + 1497) 5
      rw [(f5.2.2.2 (x + 1497) 5 (fun z => by unfold tcS at z; omega)).1, ← hf2]
      exact c50 3 (by omega)
  · have hroom : f_X10_hasRoom P (x + 1) 20 σ = some (0, σ) := by
      unfold f_X10_hasRoom f_X10_hasRoom_D17
      rw [bd (at_gI hT), hC.2.1, e20, q_nA, if_pos (by rw [e4k, q_nLt (by omega) (by omega)]; omega)]; exact y0
    have hcl : f_X11_feed P x a b c d e σ = some (.inl ("java/lang/IndexOutOfBoundsException", th σ)) := by
      unfold f_X11_feed
      rw [bd ((q_gR hx).trans (LyH_r0 hL)), bd (at_is hT), bd2 hroom, if_pos rfl, bd (k_th hrm)]
    have hMt : LyM (th σ) (x + 1497) := hM
    have hM5 : LyM (mx_setI (th σ) (x + 1497) 0 1) (x + 1497) := hM
    refine ⟨1, 0, th σ, mx_setI (th σ) (x + 1497) 0 1, ht_feed1 hx hcl, ?_, sI_e, fun z => absurd z zi10, rfl, Fr_throw 1, bs, ?_⟩
    · show f_X12_feed P (x + 1497) a b c d e (th σ) = _
      unfold f_X12_feed f_X12_feed_D19
      rw [bd (am_gI hMt), show mxI (th σ) (x + 1497) 2 = q_n bs.length from hR.2.1, e20, q_nA, if_neg (by rw [e4k, q_nLe (by omega) (by omega)]; omega), bd (am_pI hMt hbm _), bd (am_gI hM5), show mxI (mx_setI (th σ) (x + 1497) 0 1) (x + 1497) 0 = 1 from sI_e, if_neg (by decide)]
    · exact RT0_cg ⟨hC, hR, hf1, hf2⟩ fun q j hq => by
        rw [sI_n (fun z => by obtain ⟨rfl, rfl⟩ := z; exact cp_t 0 hq)]; rfl
theorem RT_t (h : RT x σ) (k : Int32) : RT x (mx_setI (th σ) (x + 1497) 0 k) := h.fr (Fr_throw (ns := []) k) (by simp)
theorem g_end (hS : St P σ x) (h : RT x σ) (a : Int32) : Q32 x σ (f_L_end P x a (x + 1575) σ) (fun τ => f_X12_end P (x + 1497) a τ) [0] (RT x) := by
  obtain ⟨bs, hC, hR, hf1, hf2⟩ := id h
  obtain ⟨hL, hb, hN, hrm⟩ := hS
  have hx := LyH_o hL
  have hT := LyH_t hL
  have hM := LyH_m hL
  have hbt : mpb P ≤ x + 1 := by omega
  have hbm : mpb P ≤ x + 1497 := by omega
  have hl := hC.1
  have eN : (q_n bs.length).toInt = bs.length := q_nT (by omega)
  have eL : (q_n bs.length).toInt64.toInt = bs.length := by rw [i64i, eN]
  have r0 : mg_R σ x 11 0 = some (x + 1) := (q_gR hx).trans (LyH_r0 hL)
  by_cases ha : 0 ≤ a.toInt ∧ a.toInt ≤ bs.length
  · obtain ⟨n, hn, rfl⟩ : ∃ n, n ≤ bs.length ∧ a = q_n n := ⟨a.toInt.toNat, by omega, q_ofT ha.1⟩
    have hcl : f_X11_end P x (q_n n) σ = some (.inr (q_n n, mx_setI σ (x + 1) 1 (q_n n))) := by
      unfold f_X11_end
      rw [bd r0, bd (at_gI hT), hC.2.1, bdx (rg_t (P := P) (l := 0) (u := q_n bs.length) (by rw [eN]; exact ha) σ), bd r0, bd (at_pI hT hbt _)]
    obtain ⟨τ1, e1⟩ : ∃ τ1, τ1 = mx_setI σ (x + 1) 1 (q_n n) := ⟨_, rfl⟩
    rw [← e1] at hcl
    have f1 : Fz (tcS x) σ τ1 := by rw [e1]; exact Fz.rf.sI ⟨by omega, by omega⟩ _
    have hlo := hr_end (o := x + 1575) hx hcl (by rw [f1.1]; exact LyH_u hL) (by omega)
    obtain ⟨τ2, e2⟩ : ∃ τ2, τ2 = mx_setL τ1 (x + 1575) 0 (q_n n).toInt64 := ⟨_, rfl⟩
    rw [← e2] at hlo
    have hM2 : LyM τ2 (x + 1497) := by rw [e2]; exact f1.M hM
    obtain ⟨τ3, e3⟩ : ∃ τ3, τ3 = mx_setI τ2 (x + 1497) 0 0 := ⟨_, rfl⟩
    obtain ⟨τ4, e4⟩ : ∃ τ4, τ4 = mx_setI τ3 (x + 1497) 2 (q_n n) := ⟨_, rfl⟩
    have f3 : Fz (trS (x + 1497)) τ2 τ3 := by rw [e3]; exact Fz.rf.sI (Or.inr ⟨rfl, Or.inl rfl⟩) _
    have f4 : Fz (trS (x + 1497)) τ2 τ4 := by rw [e4]; exact f3.sI (Or.inr ⟨rfl, Or.inr (Or.inl rfl)⟩) _
    have hR2 : TR τ2 (x + 1497) bs := by rw [e2]; exact TR_cg (TR_tc hR f1) rfl (fun _ => rfl)
    have tk : ∀ k b, (bs.take n)[k]? = some b → bs[k]? = some b ∧ k < n := fun k b hk => by
      rw [List.getElem?_take] at hk
      split at hk
      · exact ⟨hk, by assumption⟩
      · cases hk
    have tl : (bs.take n).length = n := by rw [List.length_take]; omega
    have s4 : ∀ q j, q ≠ x + 1497 → mxI τ4 q j = mxI τ1 q j := fun q j hq => by rw [e4, sI_n (fun z => hq z.1), e3, sI_n (fun z => hq z.1), e2]; rfl
    refine ⟨0, q_n n, τ2, τ4, hlo, ?_, ?_, fun _ => ?_, by rw [e2]; exact f1.1, ?_, bs.take n, ⟨?_, ?_, fun k b hk => ?_⟩, ⟨?_, ?_, fun k b hk => ?_⟩, ?_, ?_⟩
    · show f_X12_end P (x + 1497) (q_n n) τ2 = _
      unfold f_X12_end f_X12_end_D20
      rw [bd (am_gI hM2), hR2.2.1, bd2 (in_t (P := P) (l := 0) (u := (q_n bs.length).toInt64) (by rw [eL]; exact ha) _), if_neg zi10, bd (am_pI hM2 hbm _), ← e3, bd (am_gI (f3.M hM2)), show mxI τ3 (x + 1497) 0 = 0 by rw [e3]; exact sI_e, if_pos (by decide), bd (am_pI (f3.M hM2) hbm _), ← e4]
    · rw [e4, sI_n (by omega), e3]; exact sI_e
    · rw [(f4.2.2.2 (x + 1575) 0 (fun z => by unfold trS at z; omega)).2, e2, q_LL, if_pos ⟨rfl, rfl⟩]
    · have u2 : Fr x [0] τ1 τ2 := by rw [e2]; exact (sL_o _).mo (by simp)
      exact ((tc_fr f1).tr u2 (by rw [e2]; rfl)).tr (tr_fr f4) f4.2.2.1.1
    · rw [tl]; omega
    · rw [tl, s4 _ _ (by omega), e1]; exact sI_e
    · obtain ⟨h1, h2⟩ := tk k b hk
      rw [s4 _ _ (by omega), e1, sI_n (by omega)]; exact hC.2.2 k b h1
    · rw [tl]; omega
    · rw [tl, e4]; exact sI_e
    · obtain ⟨h1, h2⟩ := tk k b hk
      rw [s4 _ _ (by omega), e1, sI_n (by omega)]; exact hR.2.2 k b h1
    · rw [s4 _ _ (by omega), e4, sI_n (by omega), e3, sI_n (by omega), e2]
      show mxI τ1 (x + 1) 2 = mxI τ1 (x + 1497) 4
      rw [e1, sI_n (by omega), sI_n (by omega)]; exact hf1
    · rw [s4 _ _ (by omega), e4, sI_n (by omega), e3, sI_n (by omega), e2]
      show mxI τ1 (x + 1) 3 = mxI τ1 (x + 1497) 5
      rw [e1, sI_n (by omega), sI_n (by omega)]; exact hf2
  · have hcl : f_X11_end P x a σ = some (.inl ("java/lang/IllegalArgumentException", th σ)) := by
      unfold f_X11_end
      rw [bd r0, bd (at_gI hT), hC.2.1, bdl (rg_f (P := P) (l := 0) (u := q_n bs.length) (by rw [eN]; exact ha) hrm)]
    have hMt : LyM (th σ) (x + 1497) := hM
    have hM5 : LyM (mx_setI (th σ) (x + 1497) 0 1) (x + 1497) := hM
    refine ⟨1, 0, th σ, mx_setI (th σ) (x + 1497) 0 1, ht_end1 hx hcl, ?_, sI_e, fun z => absurd z zi10, rfl, Fr_throw 1, RT_t h 1⟩
    show f_X12_end P (x + 1497) a (th σ) = _
    unfold f_X12_end f_X12_end_D20
    rw [bd (am_gI hMt), show mxI (th σ) (x + 1497) 2 = q_n bs.length from hR.2.1, bd2 (in_f (P := P) (l := 0) (u := (q_n bs.length).toInt64) (by rw [eL]; exact ha) _), if_pos rfl, bd (am_pI hMt hbm _), bd (am_gI hM5), show mxI (mx_setI (th σ) (x + 1497) 0 1) (x + 1497) 0 = 1 from sI_e, if_neg (by decide)]
theorem g_fault (hS : St P σ x) (h : RT x σ) (a : Int32) : Qc x σ (f_X11_fault P x a σ) (fun τ => f_X12_fault P (x + 1497) a τ) [] (fun _ => True) := by
  obtain ⟨bs, hC, hR, hf1, hf2⟩ := id h
  obtain ⟨hL, hb, hN, hrm⟩ := hS
  have hx := LyH_o hL
  have hT := LyH_t hL
  have hM := LyH_m hL
  have hbm : mpb P ≤ x + 1497 := by omega
  have r0 : mg_R σ x 11 0 = some (x + 1) := (q_gR hx).trans (LyH_r0 hL)
  have hM5 : LyM (mx_setI σ (x + 1497) 0 0) (x + 1497) := hM
  refine ⟨if a = 0 then mxI σ (x + 1) 2 else if a = 1 then mxI σ (x + 1) 3 else -1, σ, mx_setI σ (x + 1497) 0 0, ?_, ?_, rfl, Fr.rf.sI (Or.inr cp_t) _, trivial⟩
  · unfold f_X11_fault f_X11_fault_D28
    rw [bd r0, bd (at_gI hT), bd r0, bd (at_gI hT)]
    split
    · rfl
    · split <;> rfl
  · show f_X12_fault P (x + 1497) a σ = _
    unfold f_X12_fault f_X12_fault_D29
    rw [bd (am_pI hM hbm _), bd (am_gI hM5), bd (am_gI hM5), sI_n (by omega), sI_n (by omega), ← hf1, ← hf2]
    split
    · rfl
    · split <;> rfl
end HIS
