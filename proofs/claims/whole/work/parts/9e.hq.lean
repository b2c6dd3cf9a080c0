/-! ===== hq: the parts of a statement, the class's ===== -/
section HQS
variable {P : mx_P} {σ σ0 σ1 σ2 τ : mx_S} {x m n t p a N : Nat} {bs g : List Nat}
theorem enA_le {s : Nat} (h : s ≤ bs.length) : s ≤ enA bs s ∧ enA bs s ≤ bs.length ∧ (s < bs.length → s < enA bs s) := by
  unfold enA
  by_cases c : bs.length ≤ s
  · rw [if_pos c]; exact ⟨Nat.le_refl _, h, fun z => by omega⟩
  rw [if_neg c]
  cases hl : ltr (bA bs s) with
  | true =>
    rw [if_pos rfl]
    have := wdN_le (bs := bs) 8 s h
    refine ⟨this.1, this.2.1, fun _ => ?_⟩
    show s < wdN bs (7 + 1) s
    rw [wdN, if_pos hl]
    have := (wdN_le (bs := bs) 7 (s + 1) (by omega)).1
    omega
  | false =>
    rw [if_neg (by decide)]
    cases hn : isNm bs s with
    | true =>
      rw [if_pos rfl]
      have hd : s ≤ nmD bs s ∧ nmD bs s < bs.length ∧ dgt (bA bs (nmD bs s)) = true := by
        unfold nmD
        unfold isNm at hn
        by_cases c45 : bA bs s = 45
        · rw [if_pos c45]
          rw [c45] at hn
          rcases (Bool.or_eq_true _ _).mp hn with z | z
          · exact absurd z (by decide)
          · rw [Bool.and_eq_true] at z; exact ⟨by omega, dgt_lt z.2, z.2⟩
        · rw [if_neg c45]
          rw [decide_eq_false c45, Bool.false_and, Bool.or_false] at hn
          exact ⟨Nat.le_refl _, dgt_lt hn, hn⟩
      have h1 := nmX_le (bs := bs) (d := nmD bs s) (by omega)
      have h2 := dgN_lt (f := 3) hd.2.2
      have h3 : nmD bs s < dgN bs 4 (nmD bs s) := h2
      omega
    | false => rw [if_neg (by decide)]; omega
/-- where the i-th token is looked for, and where it is -/
def psI (bs : List Nat) (N p : Nat) : Nat → Nat
  | 0 => p
  | i + 1 => enA bs (skN bs N (psI bs N p i))
def tkI (bs : List Nat) (N p i : Nat) : Nat := skN bs N (psI bs N p i)
theorem psI_le (h : p ≤ bs.length) : ∀ i, psI bs N p i ≤ bs.length
  | 0 => h
  | i + 1 => by
    have h1 := skN_le (bs := bs) N _ (psI_le h i)
    exact (enA_le h1.2).2.1
theorem tkI_le (h : p ≤ bs.length) (i : Nat) : psI bs N p i ≤ tkI bs N p i ∧ tkI bs N p i ≤ bs.length := skN_le N _ (psI_le h i)
theorem psI_s (i : Nat) : psI bs N p (i + 1) = enA bs (tkI bs N p i) := rfl
theorem psI_a (i : Nat) : ∀ j, psI bs N (psI bs N p i) j = psI bs N p (i + j)
  | 0 => rfl
  | j + 1 => by rw [← Nat.add_assoc, psI, psI, psI_a i j]
def fit (c : Nat) (k : Int32) : Bool := if c = 67 ∨ c = 80 then decide (k = 2) else if c = 68 then decide (k = 43 ∨ k = 45) else if c = 83 then decide (k = 43 ∨ k = 45 ∨ k = 63) else decide (k = 3)
theorem c_fits {c : Nat} (hT : LyT σ t) (hc : c < 128) : f_X10_fits P t (q_n c) σ = some (bI (fit c (mxI σ t 5)), σ) := by
  have y1 : mr_Z 1 σ = some (1, σ) := if_pos (Or.inr rfl)
  have y0 : mr_Z 0 σ = some (0, σ) := if_pos (Or.inl rfl)
  have nq : ∀ d : Nat, d < 128 → (q_n c = q_n d ↔ c = d) := fun d hd => q_nI (by omega) (by omega)
  unfold f_X10_fits f_X10_fits_D44 f_X10_fits_D57 f_X10_fits_D85 f_X10_fits_D90 f_X10_fits_D109 f_X10_fits_D114 f_X10_fits_D128 fit
  simp only [show (67 : Int32) = q_n 67 from rfl, show (68 : Int32) = q_n 68 from rfl, show (80 : Int32) = q_n 80 from rfl, show (83 : Int32) = q_n 83 from rfl, nq 67 (by omega), nq 68 (by omega), nq 80 (by omega), nq 83 (by omega), bd (at_gI hT), y1, y0]
  generalize mxI σ t 5 = k
  by_cases c1 : c = 67
  · rw [if_pos c1, if_pos (Or.inl c1)]
    by_cases d : k = 2
    · rw [if_pos d, decide_eq_true d]; rfl
    · rw [if_neg d, decide_eq_false d]; rfl
  rw [if_neg c1]
  by_cases c2 : c = 68
  · rw [if_pos c2, if_neg (show ¬ (c = 67 ∨ c = 80) by omega), if_pos c2]
    by_cases d : k = 43
    · rw [if_pos d, decide_eq_true (Or.inl d)]; rfl
    rw [if_neg d]
    by_cases d2 : k = 45
    · rw [if_pos d2, decide_eq_true (Or.inr d2)]; rfl
    · rw [if_neg d2, decide_eq_false (by rintro (z | z) <;> contradiction)]; rfl
  rw [if_neg c2]
  by_cases c3 : c = 80
  · rw [if_pos c3, if_pos (Or.inr c3)]
    by_cases d : k = 2
    · rw [if_pos d, decide_eq_true d]; rfl
    · rw [if_neg d, decide_eq_false d]; rfl
  rw [if_neg c3, if_neg (show ¬ (c = 67 ∨ c = 80) by omega), if_neg c2]
  by_cases c4 : c = 83
  · rw [if_pos c4, if_pos c4]
    by_cases d : k = 43
    · rw [if_pos d, decide_eq_true (Or.inl d)]; rfl
    rw [if_neg d]
    by_cases d2 : k = 45
    · rw [if_pos d2, decide_eq_true (Or.inr (Or.inl d2))]; rfl
    rw [if_neg d2]
    by_cases d3 : k = 63
    · rw [if_pos d3, decide_eq_true (Or.inr (Or.inr d3))]; rfl
    · rw [if_neg d3, decide_eq_false (by rintro (z | z | z) <;> contradiction)]; rfl
  rw [if_neg c4, if_neg c4]
  by_cases d : k = 3
  · rw [if_pos d, decide_eq_true d]; rfl
  · rw [if_neg d, decide_eq_false d]; rfl
/-- one part that is kept -/
def PtI (σ : mx_S) (t : Nat) (bs : List Nat) (c s i : Nat) : Prop := mxI σ (t + 2) i = q_n c ∧ mxI σ (t + 3) i = q_n s ∧ (kdA bs s = 2 → mxL σ (t + 4) i = l_n (pk (seg bs s (enA bs s)))) ∧ (kdA bs s = 3 → (mxI σ (t + 5) i).toInt = tpA bs s ∧ mxI σ (t + 6) i = q_n (nmB bs (nmD bs s))) ∧ (kdA bs s ≠ 3 → mxI σ (t + 5) i = kdA bs s)
def hsS (t : Nat) : Nat → Nat → Prop := fun q j => (q = t ∧ 4 ≤ j ∧ j ≤ 12) ∨ (t + 2 ≤ q ∧ q ≤ t + 6)
theorem c_kpart {s i c : Nat} (hT : LyT σ t) (hb : mpb P ≤ t) (hk : TkC σ t bs s) (hu : mxI σ t 12 = q_n i) (hi : i < 6) : ∃ τ, f_X10_keepPart P t (q_n c) σ = some τ ∧ PtI τ t bs c s i ∧ mxI τ t 12 = q_n (i + 1) ∧ mxI τ t 4 = mxI σ t 4 ∧ (∀ c' s' i', i' ≠ i → PtI σ t bs c' s' i' → PtI τ t bs c' s' i') ∧ Fz (fun q j => (q = t ∧ j = 12) ∨ (t + 2 ≤ q ∧ q ≤ t + 6)) σ τ := by
  obtain ⟨-, k5, k6, k7, k8⟩ := hk
  obtain ⟨σ1, e1⟩ : ∃ σ1, σ1 = mx_setI σ (t + 2) i (q_n c) := ⟨_, rfl⟩
  obtain ⟨σ2, e2⟩ : ∃ σ2, σ2 = mx_setI σ1 (t + 3) i (q_n s) := ⟨_, rfl⟩
  obtain ⟨σ3, e3⟩ : ∃ σ3, σ3 = mx_setL σ2 (t + 4) i (mxL σ t 7) := ⟨_, rfl⟩
  have T1 : LyT σ1 t := by rw [e1]; exact hT
  have T2 : LyT σ2 t := by rw [e2]; exact T1
  have T3 : LyT σ3 t := by rw [e3]; exact T2
  have u1 : ∀ j, mxI σ1 t j = mxI σ t j := fun j => by rw [e1]; exact sI_n (by omega)
  have u2 : ∀ j, mxI σ2 t j = mxI σ t j := fun j => by rw [e2, sI_n (by omega)]; exact u1 j
  have u3 : ∀ j, mxI σ3 t j = mxI σ t j := fun j => by rw [e3]; exact u2 j
  have l2 : mxL σ2 t 7 = mxL σ t 7 := by rw [e2, e1]; rfl
  have key : ∀ w0 : Int32, (kdA bs s = 3 → w0.toInt = tpA bs s) → (kdA bs s ≠ 3 → w0 = kdA bs s) → ∃ τ, f_X10_keepPart_D63 P t w0 (q_n i) (t + 5) σ3 = some τ ∧ PtI τ t bs c s i ∧ mxI τ t 12 = q_n (i + 1) ∧ mxI τ t 4 = mxI σ t 4 ∧ (∀ c' s' i', i' ≠ i → PtI σ t bs c' s' i' → PtI τ t bs c' s' i') ∧ Fz (fun q j => (q = t ∧ j = 12) ∨ (t + 2 ≤ q ∧ q ≤ t + 6)) σ τ := by
    intro w0 hw3 hw
    obtain ⟨σ4, e4⟩ : ∃ σ4, σ4 = mx_setI σ3 (t + 5) i w0 := ⟨_, rfl⟩
    obtain ⟨σ5, e5⟩ : ∃ σ5, σ5 = mx_setI σ4 (t + 6) i (mxI σ t 9) := ⟨_, rfl⟩
    have T4 : LyT σ4 t := by rw [e4]; exact T3
    have T5 : LyT σ5 t := by rw [e5]; exact T4
    have u4 : ∀ j, mxI σ4 t j = mxI σ t j := fun j => by rw [e4, sI_n (by omega)]; exact u3 j
    have u5 : ∀ j, mxI σ5 t j = mxI σ t j := fun j => by rw [e5, sI_n (by omega)]; exact u4 j
    have i3 : ∀ q j, mxI σ3 q j = mxI σ2 q j := fun q j => by rw [e3]; rfl
    have h2 : ∀ j, mxI σ5 (t + 2) j = mxI σ1 (t + 2) j := fun j => by rw [e5, sI_n (by omega), e4, sI_n (by omega), i3, e2, sI_n (by omega)]
    have h3 : ∀ j, mxI σ5 (t + 3) j = mxI σ2 (t + 3) j := fun j => by rw [e5, sI_n (by omega), e4, sI_n (by omega), i3]
    have h4 : ∀ j, mxL σ5 (t + 4) j = mxL σ3 (t + 4) j := fun j => by rw [e5, e4]; rfl
    have h5 : ∀ j, mxI σ5 (t + 5) j = mxI σ4 (t + 5) j := fun j => by rw [e5, sI_n (by omega)]
    refine ⟨mx_setI σ5 t 12 (q_n (i + 1)), ?_, ⟨?_, ?_, fun z => ?_, fun z => ⟨?_, ?_⟩, fun z => ?_⟩, sI_e, ?_, ?_, ?_⟩
    · unfold f_X10_keepPart_D63
      rw [bd (at_s16 T3 hb hi _), ← e4, bd (at_r17 T4), bd (at_gI T4), u4, hu, bd (at_gI T4), u4, bd (at_s17 T4 hb hi _), ← e5, bd (at_gI T5), u5, hu, q_nS, bd (at_pI T5 hb _)]
    · rw [sI_n (by omega), h2, e1]; exact sI_e
    · rw [sI_n (by omega), h3, e2]; exact sI_e
    · show mxL σ5 (t + 4) i = _; rw [h4, e3, sL_e]; exact k7 z
    · rw [sI_n (by omega), h5, e4, sI_e]; exact hw3 z
    · rw [sI_n (by omega), e5, sI_e]; exact (k8 z).2
    · rw [sI_n (by omega), h5, e4, sI_e]; exact hw z
    · rw [sI_n (by omega), u5]
    · rintro c' s' i' hne ⟨q1, q2, q3, q4, q5⟩
      refine ⟨?_, ?_, fun z => ?_, fun z => ⟨?_, ?_⟩, fun z => ?_⟩
      · rw [sI_n (by omega), h2, e1, sI_n (by omega)]; exact q1
      · rw [sI_n (by omega), h3, e2, sI_n (by omega), e1, sI_n (by omega)]; exact q2
      · show mxL σ5 (t + 4) i' = _; rw [h4, e3, sL_n (by omega), e2, e1]; exact q3 z
      · rw [sI_n (by omega), h5, e4, sI_n (by omega), i3, e2, sI_n (by omega), e1, sI_n (by omega)]; exact (q4 z).1
      · rw [sI_n (by omega), e5, sI_n (by omega), e4, sI_n (by omega), i3, e2, sI_n (by omega), e1, sI_n (by omega)]; exact (q4 z).2
      · rw [sI_n (by omega), h5, e4, sI_n (by omega), i3, e2, sI_n (by omega), e1, sI_n (by omega)]; exact q5 z
    · rw [e5, e4, e3, e2, e1]
      exact (((((Fz.rf.sI (Or.inr (by omega)) _).sI (Or.inr (by omega)) _).sL (Or.inr (by omega)) _).sI (Or.inr (by omega)) _).sI (Or.inr (by omega)) _).sI (Or.inl ⟨rfl, rfl⟩) _
  unfold f_X10_keepPart
  rw [bd (at_r13 hT), bd (at_gI hT), hu, bd (at_s13 hT hb hi _), ← e1, bd (at_r14 T1), bd (at_gI T1), u1, hu, bd (at_gI T1), u1, k6, bd (at_s14 T1 hb hi _), ← e2, bd (at_r15 T2), bd (at_gI T2), u2, hu, bd (at_gL T2), l2, bd (at_s15 T2 hb hi _), ← e3, bd (at_r16 T3), bd (at_gI T3), u3, hu, bd (at_gI T3), u3, k5, bd (at_gI T3), u3, bd (at_gI T3), u3, k5]
  by_cases c3 : kdA bs s = 3
  · rw [if_pos c3]
    exact key _ (fun z => (k8 z).1) (fun z => absurd c3 z)
  · rw [if_neg c3]
    exact key _ (fun z => absurd z c3) (fun _ => rfl)
end HQS
