/-! ===== gu: calls of the linkage, the frame ===== -/
section GUS
variable {M : BV} {P : mx_P} {σ σ0 σ1 τ : mx_S} {x l l' m : Nat} {E : Nat → BV} {K : LK} {pl pl0 pl' mk : Nat → Nat} {wy p : Nat} {B : LB}
theorem cp_off {i q j : Nat} (h : cp x i q j) (hi : i ≠ 7) : ¬ (x + 129 ≤ q ∧ q < x + 1481) ∧ ¬ (x + 1499 ≤ q ∧ q ≤ x + 1518) ∧ q ≠ x + 1532 ∧ (q = x + 1497 → j ≠ 54 ∧ j ≠ 55 ∧ j ≠ 0) ∧ q ≠ x + 1575 := by
  rcases i with _ | _ | _ | _ | _ | _ | _ | _ | i <;> first | exact absurd rfl hi | exact h.elim | (simp only [cp] at h; omega)
theorem Lc_rg {q j : Nat} (h : Lc l q j) : l ≤ q ∧ q < l + 676 := by
  rcases h with ⟨p, h1, h2, -⟩ | ⟨h1, -⟩ <;> omega
theorem CFr_o (h : CFr l σ τ) {q : Nat} (hq : ¬ (l ≤ q ∧ q < l + 676)) (j : Nat) : mxI τ q j = mxI σ q j ∧ mxL τ q j = mxL σ q j := by
  have hb : ¬ bx σ l q := fun z => hq ⟨z.1, z.2.1⟩
  exact ⟨h.2.2.2.1 q j hb (fun z => hq (Lc_rg z)) (fun z => hq (by omega)) (fun z => hq (by omega)), h.2.2.2.2 q j hb⟩
theorem Fr_C (hl : (l = x + 129 ∧ l' = x + 805) ∨ (l = x + 805 ∧ l' = x + 129)) (h : CFr l σ τ) : Fr x [7] σ τ := by
  refine ⟨h.1, h.2.1, fun i q j hq hi => ?_, by rw [h.2.2.1.1]; exact Nat.le_refl _, by rw [h.2.2.1.1]; omega, by rw [h.2.2.1.2]; omega, fun _ => h.2.2.1.2⟩
  have := (cp_off hq (by simpa using hi)).1
  exact CFr_o h (fun z => this (by omega)) j
theorem CS_RLc (hL : LyL (mxA σ) (mxR σ) l) (hT : kT K) (h : RLc x l l' K mk pl B σ) (hc : CS M l K mk σ pl pl' τ) : RLc x l l' K mk pl' B τ := by
  have hn := hT.1
  obtain ⟨⟨a1, a2, a3⟩, -, a4, a5, a6⟩ := h
  obtain ⟨⟨E, wy, hz⟩, hf, h10⟩ := hc
  have e := @CFr_o _ _ _ hf
  refine ⟨⟨by rw [hf.2.1]; exact a1, by rw [hf.2.1]; exact a2, a3⟩, ⟨M, E, wy, hz⟩, ?_, cB_rg hn a5 (fun p hp => ?_), SpL_rg a6 hf.1 (fun q j c1 c2 => (e (fun z => by omega) j).1) (fun q j c1 c2 => (e (fun z => by omega) j).2)⟩
  · rcases h10 with h | ⟨h1, rfl⟩
    · exact Or.inl h
    · rw [h1]
      rcases a4 with h | ⟨h2, h3⟩
      · exact Or.inl h
      · refine Or.inr ⟨h2, FW_rg h3 ?_ fun j => ⟨?_, ?_⟩⟩
        · exact hf.2.2.2.1 _ _ (nb_o hL) (fun z => by rcases z with ⟨p, z1, z2, z3⟩ | ⟨z1, z2⟩ <;> omega) (by omega) (fun z => by omega)
        · exact hf.2.2.2.1 _ _ (nb_7 hL) (fun z => by rcases z with ⟨p, z1, z2, z3⟩ | ⟨z1, z2⟩ <;> omega) (by omega) (fun z => by omega)
        · exact hf.2.2.2.1 _ _ (nb_8 hL) (fun z => by rcases z with ⟨p, z1, z2, z3⟩ | ⟨z1, z2⟩ <;> omega) (by omega) (fun z => by omega)
  · have hj : ∀ j, 17 ≤ j → mxI τ (l + 2 + 16 * p) j = mxI σ (l + 2 + 16 * p) j := fun j hj => hf.2.2.2.1 _ _ (nb_j hL hp) (fun z => by rcases z with ⟨p, z1, z2, z3⟩ | ⟨z1, z2⟩ <;> omega) (by omega) (fun z => by omega)
    exact ⟨hj _ (by omega), hj _ (by omega), hj _ (by omega), hf.2.2.2.2 _ _ (nb_j hL hp)⟩
/-- the reference's frame, the word thrown too -/
def RFq (m : Nat) (σ0 σ : mx_S) : Prop := mxA σ = mxA σ0 ∧ mxR σ = mxR σ0 ∧ (mxz σ = mxz σ0 ∧ mxu σ = mxu σ0) ∧ (∀ q j, q ≠ m + 4 → q ≠ m + 18 → q ≠ m + 35 → (q = m → j ≠ 54 ∧ j ≠ 55 ∧ j ≠ 0) → mxI σ q j = mxI σ0 q j) ∧ ∀ q j, q ≠ m + 2 → q ≠ m + 3 → mxL σ q j = mxL σ0 q j
theorem RFq.rf : RFq m σ σ := ⟨rfl, rfl, ⟨rfl, rfl⟩, fun _ _ _ _ _ _ => rfl, fun _ _ _ _ => rfl⟩
theorem RFq.tr (h1 : RFq m σ0 σ) (h2 : RFq m σ σ1) : RFq m σ0 σ1 := by
  obtain ⟨a1, a2, a3, a4, a5⟩ := h1
  obtain ⟨b1, b2, b3, b4, b5⟩ := h2
  exact ⟨b1.trans a1, b2.trans a2, ⟨b3.1.trans a3.1, b3.2.trans a3.2⟩, fun q j c1 c2 c3 c4 => (b4 q j c1 c2 c3 c4).trans (a4 q j c1 c2 c3 c4), fun q j c1 c2 => (b5 q j c1 c2).trans (a5 q j c1 c2)⟩
theorem RFr.q (h : RFr m σ0 σ) : RFq m σ0 σ := ⟨h.1, h.2.1, h.2.2.1, fun q j c1 c2 c3 c4 => h.2.2.2.1 q j c1 c2 c3 (fun z => ⟨(c4 z).1, (c4 z).2.1⟩), h.2.2.2.2⟩
theorem RFq.set {v : Int32} : RFq m σ (mx_setI σ m 0 v) := ⟨rfl, rfl, ⟨rfl, rfl⟩, fun q j _ _ _ c4 => by rw [q_II, if_neg]; rintro ⟨rfl, rfl⟩; exact (c4 rfl).2.2 rfl, fun _ _ _ _ => rfl⟩
/-- the reference after some steps -/
def RSq (m : Nat) (K : LK) (σ0 : mx_S) (pl : Nat → Nat) (σ : mx_S) : Prop := RS m K σ pl σ ∧ RFq m σ0 σ
theorem RSq.go (h : RSq m K σ0 pl σ) (g : RS m K σ pl' τ) : RSq m K σ0 pl' τ := ⟨⟨g.1, g.2.1, RFr.rf⟩, h.2.tr g.2.2.q⟩
theorem RSq.th {v : Int32} (hT : kT K) (h : RSq m K σ0 pl σ) : RSq m K σ0 pl (mx_setI σ m 0 v) := ⟨rs_th hT h.1, h.2.tr RFq.set⟩
theorem RSq_of (h : RLr m K pl B σ) : RSq m K σ pl σ := ⟨⟨h.1, h.2.1, RFr.rf⟩, RFq.rf⟩
theorem RSq_M (h : RSq m K σ0 pl σ) (hM : LyM σ0 m) : LyM σ m := by unfold LyM; rw [h.2.1, h.2.2.1]; exact hM
theorem Fr_R (h : RFq (x + 1497) σ τ) : Fr x [7] σ τ := by
  refine ⟨h.1, h.2.1, fun i q j hq hi => ?_, by rw [h.2.2.1.1]; exact Nat.le_refl _, by rw [h.2.2.1.1]; omega, by rw [h.2.2.1.2]; omega, fun _ => h.2.2.1.2⟩
  obtain ⟨-, h2, h3, h4, -⟩ := cp_off hq (by simpa using hi)
  exact ⟨h.2.2.2.1 q j (fun z => h2 (by omega)) (fun z => h2 (by omega)) h3 h4, h.2.2.2.2 q j (fun z => h2 (by omega)) (fun z => h2 (by omega))⟩
theorem RSq_RLr (hr : RLr m K pl B σ) (h : RSq m K σ pl' τ) : RLr m K pl' B τ :=
  ⟨h.1.1, h.1.2.1, rB_rg hr.2.2 fun q j c1 c2 c3 => h.2.2.2.2.1 q j (by omega) c3 (by omega) (fun z => by omega)⟩
theorem RLr_fr (hT : kT K) (h : RLr (x + 1497) K pl B σ) {ns : List Nat} (f : ∀ i q j, cp x i q j → i ∉ ns → mxI τ q j = mxI σ q j ∧ mxL τ q j = mxL σ q j) (hn : 7 ∉ ns) : RLr (x + 1497) K pl B τ := by
  refine RLr_rg hT h (fun q j c1 c2 => (f 7 q j (Or.inr (Or.inl ⟨by omega, by omega⟩)) hn).1) (fun q j c1 c2 => (f 7 q j (Or.inr (Or.inl ⟨by omega, by omega⟩)) hn).2) ?_ ?_
  · exact (f 7 _ _ (Or.inr (Or.inr ⟨rfl, Or.inl rfl⟩)) hn).1
  · exact (f 7 _ _ (Or.inr (Or.inr ⟨rfl, Or.inr rfl⟩)) hn).1
/-- the class's leg -/
theorem leg1 (hT : kT K) (hc : RLc x l l' K mk pl B σ) (hr : RLr (x + 1497) K pl B σ) (hL : LyL (mxA σ) (mxR σ) l) {σ1 : mx_S} (h : CS M l K mk σ pl pl' τ) (f : Fr x [] τ σ1) : RLc x l l' K mk pl' B σ1 ∧ RLr (x + 1497) K pl B σ1 ∧ Fr x [7] σ σ1 := by
  have h1 := CS_RLc hL hT hc h
  have hl := hc.1.2.2
  have hfr := Fr_C hl h.2.1
  refine ⟨RLc_rg hT h1 f.1 f.2.1 (fun q j c1 c2 => (f.2.2.1 7 q j (Or.inl ⟨c1, c2⟩) (by simp)).1) (fun q j c1 c2 => (f.2.2.1 7 q j (Or.inl ⟨c1, c2⟩) (by simp)).2), ?_, Fr.tr' hfr (f.mo (by simp)) h.2.1.2.2.1.1⟩
  refine RLr_fr hT (RLr_rg (τ := τ) hT hr (fun q j c1 c2 => (CFr_o h.2.1 (fun z => by omega) j).1) (fun q j c1 c2 => (CFr_o h.2.1 (fun z => by omega) j).2) (CFr_o h.2.1 (fun z => by omega) _).1 (CFr_o h.2.1 (fun z => by omega) _).1) f.2.2.1 (by simp)
/-- the reference's leg -/
theorem leg2 (hT : kT K) (hc : RLc x l l' K mk pl' B σ) (hr : RLr (x + 1497) K pl B σ) (h : RSq (x + 1497) K σ pl' τ) : RLc x l l' K mk pl' B τ ∧ RLr (x + 1497) K pl' B τ ∧ Fr x [7] σ τ :=
  ⟨RLc_rg hT hc h.2.1 h.2.2.1 (fun q j c1 c2 => h.2.2.2.2.1 q j (by omega) (by omega) (by omega) (fun z => by omega)) (fun q j c1 c2 => h.2.2.2.2.2 q j (by omega) (by omega)), RSq_RLr hr h, Fr_R h.2⟩
end GUS
