/-! ===== mg: solved and turns, both ===== -/
section MGS
variable {P : mx_P} {σ σ0 σ1 τ τ' σ' : mx_S} {m r k n s a j b l N L q x g : Nat} {π : Nat → Nat} {pv pv' : Nat → Int32} {M M' : MT} {u v : Int64} {gs gs' : List (Nat × Nat)} {ms : List (Nat × Nat × Bool × Int32)} {sh : Nat → Nat × Int32 × Int32} {T : RS3} {S : Nat → Nat → Prop}
def cpg (x q j : Nat) : Prop := (x + 9 ≤ q ∧ q ≤ x + 15 ∧ (q = x + 9 → j ≤ 1)) ∨ (x + 1533 ≤ q ∧ q ≤ x + 1541) ∨ (q = x + 1497 ∧ (j = 57 ∨ j = 60))
theorem RG0.cg2 (h : RG0 σ x gs ms sh) (e : ∀ q j, cpg x q j → mxI σ' q j = mxI σ q j) : RG0 σ' x gs ms sh := by
  obtain ⟨⟨a1, a2, a3, a4⟩, ⟨b1, b2, b3, b4⟩, c⟩ := h
  refine ⟨⟨?_, ?_, a3, fun j w hj => ?_⟩, ⟨?_, ?_, b3, fun j w hj => ?_⟩, fun s hs => ?_⟩
  · rw [e _ _ (by unfold cpg; omega)]; exact a1
  · rw [e _ _ (by unfold cpg; omega)]; exact a2
  · have := a4 j w hj
    rw [e _ _ (by unfold cpg; omega), e _ _ (by unfold cpg; omega), e _ _ (by unfold cpg; omega), e _ _ (by unfold cpg; omega)]
    exact this
  · rw [e _ _ (by unfold cpg; omega)]; exact b1
  · rw [e _ _ (by unfold cpg; omega)]; exact b2
  · have := b4 j w hj
    rw [e _ _ (by unfold cpg; omega), e _ _ (by unfold cpg; omega), e _ _ (by unfold cpg; omega), e _ _ (by unfold cpg; omega), e _ _ (by unfold cpg; omega), e _ _ (by unfold cpg; omega), e _ _ (by unfold cpg; omega), e _ _ (by unfold cpg; omega)]
    exact this
  · have := c s hs
    rw [e _ _ (by unfold cpg; omega), e _ _ (by unfold cpg; omega), e _ _ (by unfold cpg; omega), e _ _ (by unfold cpg; omega), e _ _ (by unfold cpg; omega), e _ _ (by unfold cpg; omega)]
    exact this
theorem gz_s (h : j < gs.length) : gs[j]? = some (gz gs j) := by
  unfold gz
  rw [List.getD_eq_getElem?_getD, List.getElem?_eq_getElem h]; rfl
theorem mz_s (h : j < ms.length) : ms[j]? = some (ms.getD j (0, 0, false, 0)) := by
  rw [List.getD_eq_getElem?_getD, List.getElem?_eq_getElem h]; rfl
theorem RG0.c (h : RG0 σ x gs ms sh) : RGc σ (x + 9) gs ms sh := by
  obtain ⟨⟨a1, a2, a3, a4⟩, ⟨b1, b2, b3, b4⟩, c⟩ := h
  refine ⟨⟨a3, fun j hj => ?_⟩, ⟨b1, b3, fun j hj => ?_⟩, fun s hs => ?_⟩
  · obtain ⟨h1, -, h3, -, -, h6, h7⟩ := a4 j _ (gz_s hj)
    exact ⟨h1, h3, h6, h7⟩
  · obtain ⟨h1, -, h3⟩ := b4 j _ (mz_s hj)
    exact ⟨h1, h3⟩
  · obtain ⟨h1, -, h3, h4⟩ := c s hs
    refine ⟨h1, h3, fun z => ?_⟩
    obtain ⟨k1, -, k3, -, k5⟩ := h4 z
    exact ⟨k1, k3, k5⟩
theorem RG0.rr (h : RG0 σ x gs ms sh) : RGr σ (x + 1497) gs ms sh := by
  obtain ⟨⟨a1, a2, a3, a4⟩, ⟨b1, b2, b3, b4⟩, c⟩ := h
  refine ⟨⟨a3, fun j hj => ?_⟩, ⟨b2, b3, fun j hj => ?_⟩, fun s hs => ?_⟩
  · obtain ⟨-, h1, -, h3, -, h6, h7⟩ := a4 j _ (gz_s hj)
    exact ⟨h1, h3, h6, h7⟩
  · obtain ⟨-, h1, h3⟩ := b4 j _ (mz_s hj)
    exact ⟨h1, h3⟩
  · obtain ⟨-, h1, h3, h4⟩ := c s hs
    refine ⟨h1, h3, fun z => ?_⟩
    obtain ⟨-, k1, -, k3, k5⟩ := h4 z
    exact ⟨k1, k3, k5⟩
theorem CG.cg (h : CG σ0 σ g π n pv M) (hn : n ≤ 32) (eA : mxA τ = mxA σ) (eR : ∀ q j, q = g ∨ q = g + 8 ∨ q = g + 41 → mxR τ q j = mxR σ q j) (e : ∀ q j, (g + 9 ≤ q ∧ q ≤ g + 77) ∨ (q = g ∧ (j = 13 ∨ j = 14)) → mxI τ q j = mxI σ q j ∧ mxL τ q j = mxL σ q j) : CG τ τ g π n pv M := by
  obtain ⟨-, hG, hP, h4, h5, hM⟩ := h
  refine ⟨FG.rf, ?_, ⟨fun i hi => ?_, hP.2⟩, (e _ _ (by omega)).1.trans h4, fun s hs => (e _ _ (by omega)).1.trans (h5 s hs), fun r hr k hk => ?_⟩
  · rw [eA]; exact LyG_R (fun i => eR g i (by omega)) hG
  · rw [eR _ _ (by omega), eR _ _ (by omega)]; exact hP.1 i hi
  · have p := (hP.1 r (by omega)).1
    rw [(e (g + 9 + π r) k (by omega)).2, (e (g + 42 + π r) k (by omega)).2]
    exact hM r hr k hk
theorem GC.cg (h : GC σ g gs ms sh) (hn : (mkM gs ms sh 12).2 ≤ 32) (eA : mxA τ = mxA σ) (eR : ∀ q j, q = g ∨ q = g + 8 ∨ q = g + 41 → mxR τ q j = mxR σ q j) (e : ∀ q j, (g + 9 ≤ q ∧ q ≤ g + 77) ∨ (q = g ∧ (j = 13 ∨ j = 14)) → mxI τ q j = mxI σ q j ∧ mxL τ q j = mxL σ q j) : GC τ g gs ms sh := by
  obtain ⟨⟨π, hP⟩, h⟩ := h
  have e14 := (e g 14 (by omega)).1
  refine ⟨⟨π, fun i hi => ?_, hP.2⟩, ?_⟩
  · rw [eR _ _ (by omega), eR _ _ (by omega)]; exact hP.1 i hi
  · rw [e14]
    rcases h with h | h | ⟨T, π', h1, h2, h3⟩
    · exact Or.inl h
    · exact Or.inr (Or.inl h)
    · exact Or.inr (Or.inr ⟨T, π', h1, h2.cg hn eA eR e, h3⟩)
def RGs (x : Nat) (σ : mx_S) : Prop := ∃ gs ms sh, RG0 σ x gs ms sh ∧ GC σ (x + 9) gs ms sh
def tgS (x q _j : Nat) : Prop := q = x + 17 ∨ q = x + 50
def Qcw (x : Nat) (σ : mx_S) (l : Option (Int32 × mx_S)) (f : mx_S → Option (Int32 × mx_S)) (T : Nat → Nat → Prop) (ns : List Nat) (Post : mx_S → Prop) : Prop :=
  ∃ v τ1 τ2, l = some (v, τ1) ∧ f τ1 = some (v, τ2) ∧ mxA τ1 = mxA σ ∧ Fw x T ns σ τ2 ∧ Post τ2
def Q64w (x : Nat) (σ : mx_S) (l : Option (Int32 × mx_S)) (f : mx_S → Option (Int64 × mx_S)) (T : Nat → Nat → Prop) (ns : List Nat) (Post : mx_S → Prop) : Prop :=
  ∃ k v τ1 τ2, l = some (k, τ1) ∧ f τ1 = some (v, τ2) ∧ mxI τ2 (x + 1497) 0 = k ∧ (k = 0 → mxL τ2 (x + 1575) 0 = v) ∧ mxA τ1 = mxA σ ∧ Fw x T ns σ τ2 ∧ Post τ2
/-- what the class's turns changes -/
def FT (x : Nat) (σ τ : mx_S) : Prop := mxA τ = mxA σ ∧ (∀ q j, ¬ tgS x q j → mxR τ q j = mxR σ q j) ∧ (∀ q j, ¬ (SG (x + 9) q j ∨ q = x + 128 ∨ q = x + 1575) → mxI τ q j = mxI σ q j ∧ mxL τ q j = mxL σ q j) ∧ mxz σ ≤ mxz τ ∧ mxz τ ≤ mxz σ + 1 ∧ mxu τ ≤ mxu σ + 6 ∧ (mxz τ = mxz σ → mxu τ = mxu σ)
theorem FG.t (h : FG (x + 9) σ τ) : FT x σ τ := ⟨h.1, fun q j y => h.2.1 q j (by unfold tgS at y; omega), fun q j y => h.2.2.2 q j (fun z => y (Or.inl z)), by rw [h.2.2.1.1]; omega, by rw [h.2.2.1.1]; omega, by rw [h.2.2.1.2]; omega, fun _ => h.2.2.1.2⟩
theorem FG.tt (h : FG (x + 9) σ τ) : FT x σ (th τ) := ⟨h.1, fun q j y => h.2.1 q j (by unfold tgS at y; omega), fun q j y => h.2.2.2 q j (fun z => y (Or.inl z)), by show mxz σ ≤ mxz τ + 1; rw [h.2.2.1.1]; omega, by show mxz τ + 1 ≤ _; rw [h.2.2.1.1]; omega, by show mxu τ + 6 ≤ _; rw [h.2.2.1.2]; omega, fun z => by have z' : mxz τ + 1 = mxz σ := z; rw [h.2.2.1.1] at z'; omega⟩
theorem FT.w (h : FT x σ τ) (f : Fz (SRt (x + 1497)) τ τ') : Fw x (tgS x) [1] σ τ' := by
  obtain ⟨h1, h2, h3, h4, h5, h6, h7⟩ := h
  refine ⟨f.1.trans h1, fun q j y => by rw [f.2.1]; exact h2 q j y, fun i q j hc hi => ?_, by rw [f.2.2.1.1]; exact h4, by rw [f.2.2.1.1]; exact h5, by rw [f.2.2.1.2]; exact h6, fun z => by rw [f.2.2.1.1] at z; rw [f.2.2.1.2]; exact h7 z⟩
  have hi' : i ≠ 1 := by simpa using hi
  have n1 : ¬ SRt (x + 1497) q j ∧ ¬ (SG (x + 9) q j ∨ q = x + 128 ∨ q = x + 1575) := by
    unfold SRt SRo SG
    rcases i with _ | _ | _ | _ | _ | _ | _ | _ | i
    all_goals first | exact absurd rfl hi' | exact hc.elim | (simp only [cp] at hc; omega)
  exact ⟨(f.2.2.2 q j n1.1).1.trans (h3 q j n1.2).1, (f.2.2.2 q j n1.1).2.trans (h3 q j n1.2).2⟩
theorem RG0.t (h : RG0 σ x gs ms sh) (f : FT x σ τ) : RG0 τ x gs ms sh := h.cg2 fun q j y => (f.2.2.1 q j (by unfold cpg at y; unfold SG; omega)).1
theorem RG0.z (h : RG0 σ x gs ms sh) (f : Fz (SRt (x + 1497)) σ τ) : RG0 τ x gs ms sh := h.cg2 fun q j y => (f.2.2.2 q j (by unfold cpg at y; unfold SRt SRo; omega)).1
theorem GC.z (h : GC σ (x + 9) gs ms sh) (hn : (mkM gs ms sh 12).2 ≤ 32) (f : Fz (SRt (x + 1497)) σ τ) : GC τ (x + 9) gs ms sh := h.cg hn f.1 (fun q j _ => by rw [f.2.1]) fun q j y => f.2.2.2 q j (by unfold SRt SRo; omega)
theorem g_solved (hS : St P σ x) (h : RGs x σ) : Qcw x σ (f_X11_solved P x σ) (fun τ => f_X12_solved P (x + 1497) τ) (tgS x) [1] (RGs x) := by
  obtain ⟨hH, hb, hN, hrm⟩ := hS
  obtain ⟨gs, ms, sh, h0, hC⟩ := h
  obtain ⟨v, τ1, e1, o1, F1, C1, -⟩ := c_oc (P := P) (by omega) (by omega) (LyH_g hH) h0.c hC
  have R1 := h0.t F1.t
  have hM1 : LyM τ1 (x + 1497) := by
    have hM := LyH_m hH
    unfold LyM LyO at *
    rw [F1.1]
    refine ⟨hM.1, fun i k t l z => ?_⟩
    rw [F1.2.1 _ _ (by omega)]
    exact hM.2 i k t l z
  obtain ⟨s1, d1⟩ : ∃ s1, s1 = mx_setI τ1 (x + 1497) 0 0 := ⟨_, rfl⟩
  have G1 : Fz (SRt (x + 1497)) τ1 s1 := by rw [d1]; exact Fz.rf.sI (Or.inr ⟨rfl, rfl⟩) _
  obtain ⟨v', τ2, e2, o2, F2, -⟩ := r_sol (P := P) (by omega) (by omega) (G1.M hM1) (R1.z G1).rr
  obtain rfl := OC_u o1 o2
  have G2 : Fz (SRt (x + 1497)) τ1 τ2 := G1.tr (F2.mo fun q j y => Or.inl y)
  refine ⟨v, τ1, τ2, ?_, ?_, F1.1, F1.t.w G2, gs, ms, sh, R1.z G2, C1.z (n32 h0.c) G2⟩
  · unfold f_X11_solved
    rw [bd (ah_r1 hH), bd (ag_is (LyH_g hH)), bd2 e1]
  · show f_X12_solved P (x + 1497) τ1 = _
    unfold f_X12_solved
    rw [bd (am_pI hM1 (by omega) _), ← d1, bd (am_is (G1.M hM1)), bd2 e2]
end MGS
