/-! ===== q5: the classes' own constructors ===== -/
section Q5
variable {P : mx_P} {σ σ1 σ2 : mx_S} {p : Nat}
def ly_0 : mx_S → Nat → Prop := fun σ a => mxA σ a = some (.inl 0) ∧ ∀ j, mxI σ a j = 0 ∧ mxL σ a j = 0
def ly_3 : mx_S → Nat → Prop := fun σ a => mxA σ a = some (.inl 3) ∧ (∀ j, mxI σ a j = 0) ∧ mxL σ a 0 = 0 ∧ mxL σ a 1 = 1
theorem ok_0 : q_Ok P (mk_o P 0 3 (f_X0_init P)) 1 3 ly_0 := by
  refine ⟨fun σ hr hb => ?_, fun σ σ' a h hQ => ?_⟩
  · have hA := q_newA (σ := σ) (.inl 0) 3
    refine ⟨mx_setI (mx_setL (mx_setL (mx_new σ (.inl 0) 3) (mxz σ) 0 0) (mxz σ) 1 0) (mxz σ) 2 0, ?_, rfl, rfl, ?_, hA, fun j => ⟨?_, ?_⟩⟩
    · show mx_b2 (mn_O P σ 0 3) _ = _
      rw [q_nO hr, q_b2]
      unfold f_X0_init
      rw [q_pL hA hb, Option.bind_some, q_pL (by exact hA) hb, Option.bind_some, q_pZ (by exact hA) hb (Or.inl rfl)]; rfl
    · have h0 := Pa_new (p := 0) (σ := σ) (.inl 0) 3
      have hne : ∀ q, q < mxz σ → ∀ j k : Nat, ¬ (q = mxz σ ∧ j = k) := fun q hq _ _ e => by omega
      refine ⟨h0.1, h0.2.1, fun q j hq => ⟨?_, ?_⟩, h0.2.2.2⟩
      · rw [q_II, if_neg (hne q hq _ _)]; exact (h0.2.2.1 q j hq).1
      · rw [q_LI, q_LL, if_neg (hne q hq _ _), q_LL, if_neg (hne q hq _ _)]; exact (h0.2.2.1 q j hq).2
    · rw [q_II, q_IL, q_IL, q_newI]; split <;> rfl
    · rw [q_LI, q_LL, q_LL, q_newL]; split <;> (try split) <;> rfl
  · obtain ⟨f1, f2⟩ := h a (Nat.le_refl _) (by omega)
    exact ⟨f1.trans hQ.1, fun j => ⟨(f2 j).1.trans (hQ.2 j).1, (f2 j).2.1.trans (hQ.2 j).2⟩⟩
theorem ok_3 : q_Ok P (mk_o P 3 3 (f_X3_init P)) 1 3 ly_3 := by
  refine ⟨fun σ hr hb => ?_, fun σ σ' a h hQ => ?_⟩
  · have hA := q_newA (σ := σ) (.inl 3) 3
    refine ⟨mx_setI (mx_setL (mx_setL (mx_new σ (.inl 3) 3) (mxz σ) 0 0) (mxz σ) 1 1) (mxz σ) 2 0, ?_, rfl, rfl, ?_, hA, fun j => ?_, ?_, ?_⟩
    · show mx_b2 (mn_O P σ 3 3) _ = _
      rw [q_nO hr, q_b2]
      unfold f_X3_init
      rw [q_pL hA hb, Option.bind_some, q_pL (by exact hA) hb, Option.bind_some, q_pZ (by exact hA) hb (Or.inl rfl)]; rfl
    · have h0 := Pa_new (p := 0) (σ := σ) (.inl 3) 3
      have hne : ∀ q, q < mxz σ → ∀ j k : Nat, ¬ (q = mxz σ ∧ j = k) := fun q hq _ _ e => by omega
      refine ⟨h0.1, h0.2.1, fun q j hq => ⟨?_, ?_⟩, h0.2.2.2⟩
      · rw [q_II, if_neg (hne q hq _ _)]; exact (h0.2.2.1 q j hq).1
      · rw [q_LI, q_LL, if_neg (hne q hq _ _), q_LL, if_neg (hne q hq _ _)]; exact (h0.2.2.1 q j hq).2
    · rw [q_II, q_IL, q_IL, q_newI]; split <;> rfl
    · rw [q_LI, q_LL, if_neg (by omega), q_LL, if_pos ⟨rfl, rfl⟩]
    · rw [q_LI, q_LL, if_pos ⟨rfl, rfl⟩]
  · obtain ⟨f1, f2⟩ := h a (Nat.le_refl _) (by omega)
    exact ⟨f1.trans hQ.1, fun j => (f2 j).1.trans (hQ.2.1 j), (f2 0).2.1.trans hQ.2.2.1, (f2 1).2.1.trans hQ.2.2.2⟩
abbrev it_0 (P : mx_P) (k : Nat) : q_I := (k, mk_o P 0 3 (f_X0_init P), 1, 3, ly_0)
abbrev it_3 (P : mx_P) (k : Nat) : q_I := (k, mk_o P 3 3 (f_X3_init P), 1, 3, ly_3)
abbrev ls_8 (P : mx_P) : List q_I := [it_0 P 0, it_0 P 1]
theorem ok_8 : q_Ok P (mk_o P 8 2 (f_X8_init P)) 3 8 (fun σ a => mxA σ a = some (.inl 8) ∧ (∀ j, mxI σ a j = 0 ∧ mxL σ a j = 0) ∧ q_post σ a (a + 1) (ls_8 P)) :=
  ok_o (n := 2) (l := ls_8 P) ⟨ok_0, ok_0, trivial⟩ (by show ([0, 1] : List Nat).Nodup; decide) (fun p σ => by simp only [f_X8_init, q_run, q_b2b2, q_b2bd, q_b2])
abbrev ly_8 (P : mx_P) : mx_S → Nat → Prop := fun σ a => mxA σ a = some (.inl 8) ∧ (∀ j, mxI σ a j = 0 ∧ mxL σ a j = 0) ∧ q_post σ a (a + 1) (ls_8 P)
abbrev it_8 (P : mx_P) (k : Nat) : q_I := (k, mk_o P 8 2 (f_X8_init P), 3, 8, ly_8 P)
abbrev ls_5 (P : mx_P) : List q_I := [it_a P 2 0 4, it_0 P 9, it_0 P 10, it_8 P 11, it_8 P 12, it_8 P 13, it_8 P 14]
abbrev ly_5 (P : mx_P) : mx_S → Nat → Prop := fun σ a => mxA σ a = some (.inl 5) ∧ (∀ j, mxI σ a j = 0 ∧ mxL σ a j = 0) ∧ q_post σ a (a + 1) (ls_5 P)
theorem ok_5 : q_Ok P (mk_o P 5 20 (f_X5_init P)) 16 62 (ly_5 P) :=
  ok_o (n := 20) (l := ls_5 P) ⟨ok_a (by decide), ok_0, ok_0, ok_8, ok_8, ok_8, ok_8, trivial⟩ (by show ([2, 9, 10, 11, 12, 13, 14] : List Nat).Nodup; decide) (fun p σ => by simp only [f_X5_init, q_run, q_b2b2, q_b2bd, q_b2]; rfl)
abbrev ls_1 (P : mx_P) : List q_I := [it_a P 1 0 30, it_a P 2 0 30, it_a P 3 0 30, it_a P 4 1 30, it_a P 5 1 30, it_3 P 6, it_3 P 7]
abbrev ly_1 (P : mx_P) : mx_S → Nat → Prop := fun σ a => mxA σ a = some (.inl 1) ∧ (∀ j, mxI σ a j = 0 ∧ mxL σ a j = 0) ∧ q_post σ a (a + 1) (ls_1 P)
theorem ok_1 : q_Ok P (mk_o P 1 8 (f_X1_init P)) 8 164 (ly_1 P) :=
  ok_o (n := 8) (l := ls_1 P) ⟨ok_a (by decide), ok_a (by decide), ok_a (by decide), ok_a (by decide), ok_a (by decide), ok_3, ok_3, trivial⟩ (by show ([1, 2, 3, 4, 5, 6, 7] : List Nat).Nodup; decide) (fun p σ => by simp only [f_X1_init, q_run, q_b2b2, q_b2bd, q_b2]; rfl)
abbrev ls_2 (P : mx_P) : List q_I := [it_a P 2 0 300, it_a P 5 0 40, it_a P 6 0 40, it_a P 7 0 40, it_a P 8 0 40, it_a P 9 3 40, it_a P 10 1 40]
abbrev ly_2 (P : mx_P) : mx_S → Nat → Prop := fun σ a => mxA σ a = some (.inl 2) ∧ (∀ j, mxI σ a j = 0 ∧ mxL σ a j = 0) ∧ q_post σ a (a + 1) (ls_2 P)
theorem ok_2 : q_Ok P (mk_o P 2 11 (f_X2_init P)) 8 551 (ly_2 P) :=
  ok_o (n := 11) (l := ls_2 P) ⟨ok_a (by decide), ok_a (by decide), ok_a (by decide), ok_a (by decide), ok_a (by decide), ok_a (by decide), ok_a (by decide), trivial⟩ (by show ([2, 5, 6, 7, 8, 9, 10] : List Nat).Nodup; decide) (fun p σ => rfl)
abbrev ls_6 (P : mx_P) : List q_I := [it_a P 1 0 156, it_a P 4 0 15, it_a P 5 0 15, it_a P 6 0 36, it_a P 7 0 6, it_a P 8 0 6, it_a P 9 0 1024]
abbrev ly_6 (P : mx_P) : mx_S → Nat → Prop := fun σ a => mxA σ a = some (.inl 6) ∧ (∀ j, mxI σ a j = 0 ∧ mxL σ a j = 0) ∧ q_post σ a (a + 1) (ls_6 P)
theorem ok_6 : q_Ok P (mk_o P 6 10 (f_X6_init P)) 8 1268 (ly_6 P) :=
  ok_o (n := 10) (l := ls_6 P) ⟨ok_a (by decide), ok_a (by decide), ok_a (by decide), ok_a (by decide), ok_a (by decide), ok_a (by decide), ok_a (by decide), trivial⟩ (by show ([1, 4, 5, 6, 7, 8, 9] : List Nat).Nodup; decide) (fun p σ => rfl)
abbrev ls_9 (P : mx_P) : List q_I := [it_a P 1 1 24, it_a P 2 1 24]
abbrev ly_9 (P : mx_P) : mx_S → Nat → Prop := fun σ a => mxA σ a = some (.inl 9) ∧ (∀ j, mxI σ a j = 0 ∧ mxL σ a j = 0) ∧ q_post σ a (a + 1) (ls_9 P)
theorem ok_9 : q_Ok P (mk_o P 9 3 (f_X9_init P)) 3 51 (ly_9 P) :=
  ok_o (n := 3) (l := ls_9 P) ⟨ok_a (by decide), ok_a (by decide), trivial⟩ (by show ([1, 2] : List Nat).Nodup; decide) (fun p σ => rfl)
abbrev ls_10 (P : mx_P) : List q_I := [it_a P 0 2 4000, it_a P 13 0 6, it_a P 14 0 6, it_a P 15 1 6, it_a P 16 0 6, it_a P 17 0 6, it_a P 18 1 450]
abbrev ly_10 (P : mx_P) : mx_S → Nat → Prop := fun σ a => mxA σ a = some (.inl 10) ∧ (∀ j, mxI σ a j = 0 ∧ mxL σ a j = 0) ∧ q_post σ a (a + 1) (ls_10 P)
theorem ok_10 : q_Ok P (mk_o P 10 20 (f_X10_init P)) 8 4500 (ly_10 P) :=
  ok_o (n := 20) (l := ls_10 P) ⟨ok_a (by decide), ok_a (by decide), ok_a (by decide), ok_a (by decide), ok_a (by decide), ok_a (by decide), ok_a (by decide), trivial⟩ (by show ([0, 13, 14, 15, 16, 17, 18] : List Nat).Nodup; decide) (fun p σ => rfl)
/-- a grid of zeros -/
def ly_g : mx_S → Nat → Prop := fun σ a => mxA σ a = some (.inr (7, 32)) ∧ ∀ i, i < 32 → mxR σ a i = some (a + 1 + i) ∧ mxA σ (a + 1 + i) = some (.inr (1, 13)) ∧ ∀ j, mxI σ (a + 1 + i) j = 0 ∧ mxL σ (a + 1 + i) j = 0
theorem ok_g : q_Ok P (fun σ => mn_M P σ 32 13) 33 448 ly_g := by
  refine ⟨fun σ hr _ => ⟨mx_gr σ 32 13, ?_, rfl, ?_, ?_, ?_, fun i hi => ⟨?_, ?_, fun j => ⟨?_, ?_⟩⟩⟩, fun σ σ' a h hQ => ?_⟩
  · have e1 : (32 : Int32).toNatClampNeg = 32 := rfl
    have e2 : (13 : Int32).toNatClampNeg = 13 := rfl
    unfold mn_M
    rw [e1, e2]
    exact if_pos ⟨by decide, by decide, by decide, by decide, hr.1, hr.2⟩
  · show mxu σ + 32 + 32 * 13 = mxu σ + 448; omega
  · have hne : ∀ q, q < mxz σ → ¬ q = mxz σ := fun q hq e => by omega
    have hne2 : ∀ q, q < mxz σ → ¬ (mxz σ ≤ q ∧ q < mxz σ + 1 + 32) := fun q hq e => by omega
    refine ⟨by show mxz σ ≤ mxz σ + 1 + 32; omega, fun q hq => ?_, fun q j hq => ⟨?_, ?_⟩, fun q j hq _ => ?_⟩
    · rw [mx_gr_A, if_neg (hne q hq), if_neg (hne2 q hq)]
    · rw [mx_gr_I, if_neg (hne2 q hq)]
    · rw [mx_gr_L, if_neg (hne2 q hq)]
    · rw [mx_gr_R, if_neg (hne q hq), if_neg (hne2 q hq)]
  · rw [mx_gr_A, if_pos rfl]
  · rw [mx_gr_R, if_pos rfl, if_pos hi]
  · rw [mx_gr_A, if_neg (by omega), if_pos (by omega)]
  · rw [mx_gr_I, if_pos (by omega)]
  · rw [mx_gr_L, if_pos (by omega)]
  · obtain ⟨f1, f2⟩ := h a (Nat.le_refl _) (by omega)
    refine ⟨f1.trans hQ.1, fun i hi => ?_⟩
    obtain ⟨g1, g2⟩ := h (a + 1 + i) (by omega) (by omega)
    obtain ⟨k1, k2, k3⟩ := hQ.2 i hi
    exact ⟨(f2 i).2.2.trans k1, g1.trans k2, fun j => ⟨(g2 j).1.trans (k3 j).1, (g2 j).2.1.trans (k3 j).2⟩⟩
abbrev it_g (P : mx_P) (k : Nat) : q_I := (k, (fun σ => mn_M P σ 32 13), 33, 448, ly_g)
abbrev ls_4 (P : mx_P) : List q_I := [it_a P 3 0 24, it_a P 4 0 24, it_a P 5 0 80, it_a P 6 0 12, it_a P 7 0 12, it_a P 8 0 12, it_a P 9 0 1200, it_g P 10, it_g P 11, it_a P 12 0 12, it_3 P 15, it_3 P 16, it_3 P 17]
abbrev ly_4 (P : mx_P) : mx_S → Nat → Prop := fun σ a => mxA σ a = some (.inl 4) ∧ (∀ j, mxI σ a j = 0 ∧ mxL σ a j = 0) ∧ q_post σ a (a + 1) (ls_4 P)
theorem ok_4 : q_Ok P (mk_o P 4 18 (f_X4_init P)) 78 2299 (ly_4 P) :=
  ok_o (n := 18) (l := ls_4 P) ⟨ok_a (by decide), ok_a (by decide), ok_a (by decide), ok_a (by decide), ok_a (by decide), ok_a (by decide), ok_a (by decide), ok_g, ok_g, ok_a (by decide), ok_3, ok_3, ok_3, trivial⟩ (by show ([3, 4, 5, 6, 7, 8, 9, 10, 11, 12, 15, 16, 17] : List Nat).Nodup; decide) (fun p σ => by simp only [f_X4_init, q_run, q_b2b2, q_b2bd, q_b2]; rfl)
end Q5
