/-! ===== lx: the class writes the rows ===== -/
section LXS
variable {P : mx_P} {σ σ0 σ1 τ : mx_S} {g r k n s a j b x l N m : Nat} {π : Nat → Nat} {pv : Nat → Int32} {M M' : MT} {R R' : Nat → Int × Int} {w z : Int × Int} {d : Int} {S : Nat → Nat → Prop} {u v : Int64} {gs : List (Nat × Nat)} {ms : List (Nat × Nat × Bool × Int32)} {sh : Nat → Nat × Int32 × Int32}
def CGp (σ0 σ : mx_S) (g : Nat) (π : Nat → Nat) (n N : Nat) (pv : Nat → Int32) (M : MT) : Prop := FG g σ0 σ ∧ LyG (mxA σ) (mxR σ) g ∧ Pm σ g π ∧ mxI σ g 13 = q_n n ∧ (∀ s, s < 12 → mxI σ (g + 74) s = pv s) ∧ MC σ g π N M
def RGc (σ : mx_S) (g : Nat) (gs : List (Nat × Nat)) (ms : List (Nat × Nat × Bool × Int32)) (sh : Nat → Nat × Int32 × Int32) : Prop :=
  (gs.length ≤ 24 ∧ ∀ j, j < gs.length → mxI σ (g + 1) j = q_n (gz gs j).1 ∧ mxI σ (g + 2) j = q_n (gz gs j).2 ∧ (gz gs j).1 ≤ 2000 ∧ (gz gs j).2 < 12) ∧
  (mxI σ g 1 = q_n ms.length ∧ ms.length ≤ 20 ∧ ∀ j, j < ms.length → (mxI σ (g + 3) (4 * j) = q_n (ms.getD j (0, 0, false, 0)).1 ∧ mxI σ (g + 3) (4 * j + 1) = q_n (ms.getD j (0, 0, false, 0)).2.1 ∧ mxI σ (g + 3) (4 * j + 2) = (if (ms.getD j (0, 0, false, 0)).2.2.1 then -1 else 1) ∧ mxI σ (g + 3) (4 * j + 3) = (ms.getD j (0, 0, false, 0)).2.2.2) ∧ (ms.getD j (0, 0, false, 0)).1 < gs.length ∧ (ms.getD j (0, 0, false, 0)).2.1 < gs.length ∧ -1 ≤ (ms.getD j (0, 0, false, 0)).2.2.2.toInt ∧ (ms.getD j (0, 0, false, 0)).2.2.2.toInt ≤ 11) ∧
  ∀ s, s < 12 → mxI σ (g + 4) s = q_n (sh s).1 ∧ (sh s).1 ≤ 2 ∧ ((sh s).1 = 2 → mxI σ (g + 5) s = (sh s).2.1 ∧ mxI σ (g + 6) s = (sh s).2.2 ∧ -1000 ≤ (sh s).2.1.toInt ∧ (sh s).2.1.toInt ≤ 1000 ∧ 1 ≤ (sh s).2.2.toInt ∧ (sh s).2.2.toInt ≤ 1000)
theorem RGc.fg (h : RGc σ g gs ms sh) (f : FG g σ τ) : RGc τ g gs ms sh := by
  obtain ⟨⟨a1, a2⟩, ⟨b1, b2, b3⟩, c⟩ := h
  have e : ∀ q j, ¬ SG g q j → mxI τ q j = mxI σ q j := fun q j y => (f.2.2.2 q j y).1
  refine ⟨⟨a1, fun j hj => ?_⟩, ⟨?_, b2, fun j hj => ?_⟩, fun s hs => ?_⟩
  · rw [e (g + 1) j (by unfold SG; omega), e (g + 2) j (by unfold SG; omega)]; exact a2 j hj
  · rw [e g 1 (by unfold SG; omega)]; exact b1
  · rw [e (g + 3) (4 * j) (by unfold SG; omega), e (g + 3) (4 * j + 1) (by unfold SG; omega), e (g + 3) (4 * j + 2) (by unfold SG; omega), e (g + 3) (4 * j + 3) (by unfold SG; omega)]; exact b3 j hj
  · rw [e (g + 4) s (by unfold SG; omega), e (g + 5) s (by unfold SG; omega), e (g + 6) s (by unfold SG; omega)]; exact c s hs
theorem rU_e : rU M n R n = R := if_pos rfl
theorem rU_n {i : Nat} (h : i ≠ n) : rU M n R i = M i := if_neg h
theorem c_emp (hf : 5000 ≤ mpN P) (hb : mpb P ≤ g) (h : CG σ0 σ g π n pv M) (hn : n < 32) : ∃ τ, f_X4_emptyRow P g σ = some τ ∧ CGp σ0 τ g π n (n + 1) pv (rU M n rE) := by
  obtain ⟨h1, hG, hP, h4, h5, hM⟩ := h
  have pn := (hP.1 n hn).1
  obtain ⟨s1, e1, f1, p1, p2, p3, p4, p5, p6⟩ := k_fillL (P := P) (ag_row hG pn).1 (by omega) (by omega) (by omega) (0 : Int64)
  have F1 : FG g σ s1 := ⟨p1, fun q j _ => by rw [p2], ⟨p3, p4⟩, fun q j y => ⟨p5 q j fun z => z, p6 q j fun z => y (by unfold SG; omega)⟩⟩
  have P1 : Pm s1 g π := by unfold Pm; rw [p2]; exact hP
  obtain ⟨s2, e2, f2, q1, q2, q3, q4, q5, q6⟩ := k_fillL (P := P) (ag_row (F1.L hG) pn).2 (by omega) (by omega) (by omega) (1 : Int64)
  have F2 : FG g σ s2 := F1.tr ⟨q1, fun q j _ => by rw [q2], ⟨q3, q4⟩, fun q j y => ⟨q5 q j fun z => z, q6 q j fun z => y (by unfold SG; omega)⟩⟩
  have P2 : Pm s2 g π := by unfold Pm; rw [q2]; exact P1
  have i1 : mxI s1 g 13 = q_n n := (p5 _ _ (fun z => z)).trans h4
  have i2 : mxI s2 g 13 = q_n n := (q5 _ _ (fun z => z)).trans i1
  refine ⟨s2, ?_, h1.tr F2, F2.L hG, P2, i2, fun s hs => (q5 _ _ (fun z => z)).trans ((p5 _ _ (fun z => z)).trans (h5 s hs)), fun i hi k hk => ?_⟩
  · unfold f_X4_emptyRow
    rw [bd (ag_r10 hG), bd (ag_gI hG), h4, bd (cg_t hG hP hn), bd e1, bd (ag_r11 (F1.L hG)), bd (ag_gI (F1.L hG)), i1, bd (cg_b (F1.L hG) P1 hn), bd e2]
  · by_cases y : i = n
    · subst y
      rw [rU_e]
      refine ⟨?_, ?_⟩
      · rw [q6 _ _ (by omega), f1 k hk]; rfl
      · rw [f2 k hk]; rfl
    · rw [rU_n y]
      have pi := (hP.1 i (by omega)).1
      have ne : π i ≠ π n := fun z => y (hP.2 i n (by omega) hn z)
      rw [q6 _ _ (by omega), q6 _ _ (by omega), p6 _ _ (by omega), p6 _ _ (by omega)]
      exact hM i (by omega) k hk
theorem CGp.sT (h : CGp σ0 σ g π n (n + 1) pv (rU M n R)) (hn : n < 32) (hk : R' k = (v.toInt, (R k).2)) (hR : ∀ i, i ≠ k → R' i = R i) : CGp σ0 (mx_setL σ (g + 9 + π n) k v) g π n (n + 1) pv (rU M n R') := by
  obtain ⟨h1, hG, hP, h4, h5, hM⟩ := h
  have pn := (hP.1 n hn).1
  have F : Fz (fun q _ => q = g + 9 + π n) σ (mx_setL σ (g + 9 + π n) k v) := Fz.sL (S := fun q _ => q = g + 9 + π n) Fz.rf rfl v
  refine ⟨h1.tr (F.G fun q j y => by unfold SG; omega), hG, hP, h4, h5, fun i hi l hl => ?_⟩
  have pi := (hP.1 i (by omega)).1
  have hm := hM i hi l hl
  by_cases y : i = n
  · subst y
    rw [rU_e] at hm ⊢
    by_cases yl : l = k
    · subst yl
      rw [hk, sL_e, sL_n (by omega)]
      exact ⟨rfl, hm.2⟩
    · rw [hR l yl, sL_n (by omega), sL_n (by omega)]
      exact hm
  · have ne : π i ≠ π n := fun z => y (hP.2 i n (by omega) hn z)
    rw [rU_n y] at hm ⊢
    rw [sL_n (by omega), sL_n (by omega)]
    exact hm
theorem CGp.sB (h : CGp σ0 σ g π n (n + 1) pv (rU M n R)) (hn : n < 32) (hk : R' k = ((R k).1, v.toInt)) (hR : ∀ i, i ≠ k → R' i = R i) : CGp σ0 (mx_setL σ (g + 42 + π n) k v) g π n (n + 1) pv (rU M n R') := by
  obtain ⟨h1, hG, hP, h4, h5, hM⟩ := h
  have pn := (hP.1 n hn).1
  have F : Fz (fun q _ => q = g + 42 + π n) σ (mx_setL σ (g + 42 + π n) k v) := Fz.sL (S := fun q _ => q = g + 42 + π n) Fz.rf rfl v
  refine ⟨h1.tr (F.G fun q j y => by unfold SG; omega), hG, hP, h4, h5, fun i hi l hl => ?_⟩
  have pi := (hP.1 i (by omega)).1
  have hm := hM i hi l hl
  by_cases y : i = n
  · subst y
    rw [rU_e] at hm ⊢
    by_cases yl : l = k
    · subst yl
      rw [hk, sL_e, sL_n (by omega)]
      exact ⟨hm.1, rfl⟩
    · rw [hR l yl, sL_n (by omega), sL_n (by omega)]
      exact hm
  · have ne : π i ≠ π n := fun z => y (hP.2 i n (by omega) hn z)
    rw [rU_n y] at hm ⊢
    rw [sL_n (by omega), sL_n (by omega)]
    exact hm
theorem CGp.inc (h : CGp σ0 σ g π n (n + 1) pv (rU M n R)) (hn : n < 32) (hv : v.toInt = (R k).1 + d) : CGp σ0 (mx_setL σ (g + 9 + π n) k v) g π n (n + 1) pv (rU M n (inc R k d)) := by
  refine h.sT hn ?_ fun i hi => ?_
  · unfold Jvm.Pilot.CMechanismHouseLaw_law_r6572_d82dc7.inc; rw [if_pos rfl, hv]
  · unfold Jvm.Pilot.CMechanismHouseLaw_law_r6572_d82dc7.inc; rw [if_neg hi]
theorem CGp.row (h : CGp σ0 σ g π n (n + 1) pv (rU M n R)) (hk : k < 13) : (mxL σ (g + 9 + π n) k).toInt = (R k).1 := by
  have := (h.2.2.2.2.2 n (by omega) k hk).1
  rw [rU_e] at this
  exact this
theorem CGp.up (hb : mpb P ≤ g) (h : CGp σ0 σ g π n (n + 1) pv M) : CG σ0 (mx_setI σ g 13 (q_n (n + 1))) g π (n + 1) pv M := by
  obtain ⟨h1, hG, hP, h4, h5, hM⟩ := h
  have F : Fz (fun q j => q = g ∧ j = 13) σ (mx_setI σ g 13 (q_n (n + 1))) := Fz.sI (S := fun q j => q = g ∧ j = 13) Fz.rf ⟨rfl, rfl⟩ _
  exact ⟨h1.tr (F.G fun q j y => by unfold SG; omega), hG, hP, sI_e, fun s hs => (sI_n (by omega)).trans (h5 s hs), hM⟩
theorem rE_i : ((rE k).1 : Int) = 0 := rfl
theorem inc_b {B : Nat} {d : Int} (h : (R j).1.natAbs ≤ B) : (inc R k d j).1.natAbs ≤ B + d.natAbs := by
  unfold inc
  split
  · show ((R j).1 + d).natAbs ≤ _
    omega
  · omega
theorem inc_q {d : Int} (h : (R j).2 = 1) : (inc R k d j).2 = 1 := by
  unfold inc
  split
  · exact h
  · exact h
theorem gsg_b {b : Bool} {z : Nat} : (gsg b z).natAbs = z := by
  unfold gsg; split <;> omega
theorem rowM_b {e : Nat × Nat × Bool × Int32} (h1 : (gz gs e.1).1 ≤ 2000) (h2 : (gz gs e.2.1).1 ≤ 2000) (k : Nat) : (rowM gs e k).1.natAbs ≤ 8000 ∧ (rowM gs e k).2 = 1 := by
  have g1 := gsg_b (b := e.2.2.1) (z := (gz gs e.2.1).1)
  have b0 : (rE k).1.natAbs ≤ 0 := Nat.le_refl _
  have b1 := inc_b (k := (gz gs e.1).2) (d := ((gz gs e.1).1 : Int)) b0
  have b2 := inc_b (k := (gz gs e.2.1).2) (d := gsg e.2.2.1 (gz gs e.2.1).1) b1
  have b3 := inc_b (k := e.2.2.2.toInt.toNat) (d := -((gz gs e.1).1 + gsg e.2.2.1 (gz gs e.2.1).1)) b2
  unfold rowM
  split
  · exact ⟨by omega, inc_q (inc_q rfl)⟩
  · exact ⟨by omega, inc_q (inc_q (inc_q rfl))⟩
theorem rowM_O {e : Nat × Nat × Bool × Int32} (h1 : (gz gs e.1).1 ≤ 2000) (h2 : (gz gs e.2.1).1 ≤ 2000) (k : Nat) : OKz (rowM gs e k) := by
  obtain ⟨b, q⟩ := rowM_b (e := e) h1 h2 k
  exact ⟨by omega, by rw [q]; exact gc_1 _, by omega, by omega⟩
theorem rowS_O {h : Nat × Int32 × Int32} (hh : h.1 = 2 → -1000 ≤ h.2.1.toInt ∧ h.2.1.toInt ≤ 1000 ∧ 1 ≤ h.2.2.toInt ∧ h.2.2.toInt ≤ 1000) (k : Nat) : OKz (rowS s h k) := by
  have o0 : OKz (0, 1) := ⟨Int.le_refl _, gc_1 _, by decide, by decide⟩
  have o1 : OKz (1, 1) := ⟨Int.le_refl _, gc_1 _, by decide, by decide⟩
  unfold rowS
  split
  · split
    · rename_i y
      obtain ⟨a1, a2, a3, a4⟩ := hh y
      have gp := gc_pos (c := h.2.1.toInt) (d := h.2.2.toInt) (by omega)
      have d1 := dvb gp (gc_l (c := h.2.1.toInt) (d := h.2.2.toInt))
      have d2 := dvb gp (gc_r (c := h.2.1.toInt) (d := h.2.2.toInt))
      exact ⟨dvp gp gc_r a3, lw_1 (by omega), Nat.le_trans d1 (by omega), Nat.le_trans d2 (by omega)⟩
    · exact o0
  · split
    · exact o1
    · exact o0
end LXS
