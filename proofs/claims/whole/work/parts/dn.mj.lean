/-! ===== mj: the start ===== -/
section MJS
variable {P : mx_P} {σ τ : mx_S} {x p l m q : Nat}
theorem z_8 (h : ly_8 P σ p) (h1 : p ≤ q) (h2 : q < p + 3) (j : Nat) : mxI σ q j = 0 ∧ mxL σ q j = 0 := by
  obtain ⟨-, h0, -, h3, -, h5, -⟩ := h
  have e : q = p ∨ q = p + 1 ∨ q = p + 2 := by omega
  rcases e with e | e | e
  · rw [e]; exact h0 j
  · rw [e]; exact h3.2 j
  · rw [e]; exact h5.2 j
theorem z_5 (h : ly_5 P σ p) (h1 : p ≤ q) (h2 : q < p + 16) (j : Nat) : mxI σ q j = 0 ∧ mxL σ q j = 0 := by
  obtain ⟨-, h0, -, h3, -, h5, -, h7, -, h9, -, h11, -, h13, -, h15, -⟩ := h
  have e : q = p ∨ q = p + 1 ∨ q = p + 2 ∨ q = p + 3 ∨ (p + 4 ≤ q ∧ q < p + 4 + 3) ∨ (p + 7 ≤ q ∧ q < p + 7 + 3) ∨ (p + 10 ≤ q ∧ q < p + 10 + 3) ∨ (p + 13 ≤ q ∧ q < p + 13 + 3) := by omega
  rcases e with e | e | e | e | e | e | e | e
  · rw [e]; exact h0 j
  · rw [e]; exact h3.2 j
  · rw [e]; exact h5.2 j
  · rw [e]; exact h7.2 j
  · exact z_8 (P := P) (p := p + 4) h9 e.1 e.2 j
  · exact z_8 (P := P) (p := p + 7) h11 e.1 e.2 j
  · exact z_8 (P := P) (p := p + 10) h13 e.1 e.2 j
  · exact z_8 (P := P) (p := p + 13) h15 e.1 e.2 j
def z_Z (σ : mx_S) (q : Nat) : Prop := mxI σ q 2 = 0 ∧ ((mxL σ q 0 = 0 ∧ mxL σ q 1 = 0) ∨ (mxL σ q 0 = 65536 ∧ mxL σ q 1 = 65536))
theorem z_z (h : ∀ j, mxI σ q j = 0 ∧ mxL σ q j = 0) : z_Z σ q := ⟨(h 2).1, Or.inl ⟨(h 0).2, (h 1).2⟩⟩
/-- a new linkage -/
theorem z_7 (h : ly_7 P σ l) : (∀ j, mxI σ l j = 0) ∧ (∀ j, mxI σ (l + 643) j = 0) ∧ (∀ q, bx σ l q → z_Z σ q) ∧ ∀ i, i < 4 → (mxL σ (l + 645 + 3 * i + 1) 0 = 65536 ∧ mxL σ (l + 645 + 3 * i + 1) 1 = 65536) ∧ mxL σ (l + 645 + 3 * i + 2) 0 = 0 ∧ mxL σ (l + 645 + 3 * i + 2) 1 = 0 := by
  obtain ⟨-, h0, -, j0, -, a1, -, a4, -, m0, -, a7, -, a8, -, a11, -, a12, -, a13, -, a14, -, a15, -, a16, -, a17, -, a18, -, a19, -⟩ := h
  have mm : ∀ i, i < 4 → ly_m σ (l + 645 + 3 * i) := fun i hi => (m0.2.2 i hi).2
  have jj : ∀ k, k < 40 → ly_5 P σ (l + 2 + 16 * k) := fun k hk => (j0.2.2 k hk).2
  refine ⟨fun j => (h0 j).1, fun j => (a4.2 j).1, ?_, fun i hi => ?_⟩
  · rintro q ⟨b1, b2, b3⟩
    by_cases c2 : l + 2 ≤ q ∧ q < l + 642
    · obtain ⟨k, hk, k1, k2⟩ : ∃ k, k < 40 ∧ l + 2 + 16 * k ≤ q ∧ q < l + 2 + 16 * k + 16 := ⟨(q - (l + 2)) / 16, by omega, by omega, by omega⟩
      exact z_z (z_5 (jj k hk) k1 k2)
    by_cases c3 : l + 645 ≤ q ∧ q < l + 657
    · obtain ⟨i, hi, e⟩ : ∃ i, i < 4 ∧ (q = l + 645 + 3 * i ∨ q = l + 645 + 3 * i + 1 ∨ q = l + 645 + 3 * i + 2) := ⟨(q - (l + 645)) / 3, by omega, by omega⟩
      obtain ⟨n1, -, -, -, -, n6, n7, n8, n9⟩ := mm i hi
      rcases e with e | e | e
      · rw [e, n1] at b3
        exact absurd b3 (by decide)
      · rw [e]; exact ⟨n6 2, Or.inr ⟨n7, n8⟩⟩
      · rw [e]; exact z_z n9
    have e : q = l ∨ q = l + 1 ∨ q = l + 642 ∨ q = l + 643 ∨ q = l + 644 ∨ q = l + 657 ∨ q = l + 658 ∨ (l + 659 ≤ q ∧ q < l + 659 + 3) ∨ (l + 662 ≤ q ∧ q < l + 662 + 3) ∨ (l + 665 ≤ q ∧ q < l + 665 + 3) ∨ (l + 668 ≤ q ∧ q < l + 668 + 3) ∨ q = l + 671 ∨ q = l + 672 ∨ q = l + 673 ∨ q = l + 674 ∨ q = l + 675 := by omega
    rcases e with e | e | e | e | e | e | e | e | e | e | e | e | e | e | e | e
    · rw [e]; exact z_z h0
    · rw [e]; exact z_z j0.2.1
    · rw [e]; exact z_z a1.2
    · rw [e]; exact z_z a4.2
    · rw [e]; exact z_z m0.2.1
    · rw [e]; exact z_z a7.2
    · rw [e]; exact z_z a8.2
    · exact z_z (z_8 (P := P) (p := l + 659) a11 e.1 e.2)
    · exact z_z (z_8 (P := P) (p := l + 662) a12 e.1 e.2)
    · exact z_z (z_8 (P := P) (p := l + 665) a13 e.1 e.2)
    · exact z_z (z_8 (P := P) (p := l + 668) a14 e.1 e.2)
    · rw [e]; exact z_z a15.2
    · rw [e]; exact z_z a16.2
    · rw [e]; exact z_z a17.2
    · rw [e]; exact z_z a18.2
    · rw [e]; exact z_z a19.2
  · obtain ⟨-, -, -, -, -, n6, n7, n8, n9⟩ := mm i hi
    exact ⟨⟨n7, n8⟩, (n9 0).2, (n9 1).2⟩
theorem z_RB (h : z_Z σ q) : RB (rd σ q) (some ((mxL σ q 0).toInt, (mxL σ q 1).toInt)) := by
  refine Or.inr ⟨h.1, rfl, ?_⟩
  show -2147483648 ≤ (mxL σ q 0).toInt ∧ (mxL σ q 0).toInt ≤ (mxL σ q 1).toInt ∧ (mxL σ q 1).toInt ≤ 2147483648
  rcases h.2 with ⟨a, b⟩ | ⟨a, b⟩
  · rw [a, b]; decide +kernel
  · rw [a, b]; decide +kernel
theorem z_D0 : (((some ((65536 : Int64).toInt, (65536 : Int64).toInt), some ((0 : Int64).toInt, (0 : Int64).toInt)) : V2)) = g_D 0 := by decide +kernel
theorem z_E (h : ly_7 P σ l) : ∃ E : Nat → BV, (∀ q, bx σ l q → RB (rd σ q) (E q)) ∧ ∀ i, i < 4 → mxI σ (l + 643) i = q_n 0 ∧ 0 < 1024 ∧ eM E l i = g_D 0 := by
  obtain ⟨h1, h2, h3, h4⟩ := z_7 h
  refine ⟨fun q => some ((mxL σ q 0).toInt, (mxL σ q 1).toInt), fun q hq => z_RB (h3 q hq), fun i hi => ⟨h2 i, by decide, ?_⟩⟩
  obtain ⟨⟨c1, c2⟩, c3, c4⟩ := h4 i hi
  unfold eM
  dsimp only
  rw [c1, c2, c3, c4]
  exact z_D0
def RTs (x : Nat) (σ : mx_S) : Prop := ∃ T, RTr σ x T
/-- what holds between any two calls -/
def Iv (x : Nat) (σ : mx_S) : Prop := RT x σ ∧ RGs x σ ∧ RTs x σ ∧ RPl x σ ∧ RKd x σ ∧ RDe x σ ∧ RCm x σ ∧ RL x σ
theorem n_0 {k : Nat} (h : k < 0) {A : Prop} : A := absurd h (Nat.not_lt_zero k)
theorem n_l {α : Type} {j : Nat} {e : α} (h : ([] : List α)[j]? = some e) {A : Prop} : A := by
  rw [List.getElem?_nil] at h
  cases h
theorem z_m (h : Nw P σ x) : ∀ q, x + 1497 ≤ q → q < x + 1575 → ∀ j, mxI σ q j = 0 ∧ mxL σ q j = 0 := fun q h1 h2 => by
  obtain ⟨-, hm, -⟩ := h
  have hl : al12.length = 77 := rfl
  exact (LyO_of hm).2 q h1 (by rw [hl]; omega)
theorem z_T (h : Nw P σ x) : RT x σ := by
  have zm := z_m h
  obtain ⟨⟨-, -, -, t, -⟩, -⟩ := h
  have t0 : ∀ j, mxI σ (x + 1) j = 0 ∧ mxL σ (x + 1) j = 0 := t.2.1
  refine ⟨[], ⟨by decide, (t0 1).1, fun k b hk => n_l hk⟩, ⟨by decide, (zm _ (by omega) (by omega) 2).1, fun k b hk => n_l hk⟩, ?_, ?_⟩
  · rw [(t0 2).1, (zm (x + 1497) (by omega) (by omega) 4).1]
  · rw [(t0 3).1, (zm (x + 1497) (by omega) (by omega) 5).1]
theorem z_G (h : Nw P σ x) : RGs x σ ∧ RTs x σ := by
  have zm := z_m h
  obtain ⟨⟨-, -, -, t, -, g, -⟩, -⟩ := h
  have gg : ly_4 P σ (x + 9) := g
  obtain ⟨-, g0, -, a3, -, a4, -, a5, -, a6, -, a7, -, a8, -, a9, -, a10, -, a11, -⟩ := gg
  have s6 : ∀ j, mxI σ (x + 9 + 4) j = 0 ∧ mxL σ (x + 9 + 4) j = 0 := a6.2
  have p10 : ∀ i, i < 32 → mxR σ (x + 9 + 8) i = some (x + 9 + 9 + i) := fun i hi => (a10.2 i hi).1
  have p11 : ∀ i, i < 32 → mxR σ (x + 9 + 41) i = some (x + 9 + 42 + i) := fun i hi => (a11.2 i hi).1
  refine ⟨⟨[], [], fun _ => (0, 0, 0), ⟨⟨(g0 0).1, (zm _ (by omega) (by omega) 57).1, by decide, fun j e hj => n_l hj⟩, ⟨(g0 1).1, (zm _ (by omega) (by omega) 60).1, by decide, fun j e hj => n_l hj⟩, fun s hs => ⟨(s6 s).1, (zm _ (by omega) (by omega) s).1, Nat.zero_le _, fun z => absurd (show (0 : Nat) = 2 from z) (by decide)⟩⟩, ⟨⟨fun i => i, fun i hi => ⟨hi, p10 i hi, p11 i hi⟩, fun i j _ _ e => e⟩, Or.inl (g0 14).1⟩⟩, ?_⟩
  exact ⟨[], ⟨(g0 2).1, fun j e _ hj => n_l hj⟩, ⟨(zm _ (by omega) (by omega) 72).1, fun j e _ hj => n_l hj⟩⟩
theorem z_P (h : Nw P σ x) : RPl x σ ∧ RKd x σ ∧ RDe x σ := by
  have zm := z_m h
  obtain ⟨⟨-, -, -, t, -, g, -, pl, -, k, -, d, -⟩, -⟩ := h
  have pp : ∀ p, p < 8 → ly_9 P σ (x + 88 + 3 * p) := fun p hp => (pl.2.2 p hp).2
  have k0 : ∀ j, mxI σ (x + 112) j = 0 ∧ mxL σ (x + 112) j = 0 := k.2.1
  have d0 : ∀ j, mxI σ (x + 120) j = 0 ∧ mxL σ (x + 120) j = 0 := d.2.1
  refine ⟨fun p hp => ⟨0, fun _ => 0, fun _ => 0, by decide, ((pp p hp).2.1 0).1, (zm _ (by omega) (by omega) p).1, fun k hk => n_0 hk⟩, ⟨0, by decide, (k0 0).1, (zm _ (by omega) (by omega) 91).1, fun k hk => n_0 hk⟩, ?_, 0, by decide, (d0 1).1, (zm _ (by omega) (by omega) 103).1, fun k hk => by omega⟩
  rw [(d0 0).1, (zm (x + 1497) (by omega) (by omega) 102).1]
theorem z_C (h : Nw P σ x) : RCm x σ := by
  have zm := z_m h
  obtain ⟨⟨-, -, -, t, -, g, -, pl, -, k, -, d, -, f, -, l1, -, l2, r8, c1, r9, c2, -⟩, -⟩ := h
  have cc : ly_1 P σ (x + 1481) := c1
  exact ⟨x + 1481, x + 1489, 0, fun _ => 0, fun _ => 0, fun _ => 0, fun _ => 0, fun _ => 0, r8, r9, Or.inl ⟨rfl, rfl⟩, ⟨by decide, fun k hk => n_0 hk, Or.inl rfl⟩, ⟨(cc.2.1 0).1, fun k hk => n_0 hk⟩, (zm _ (by omega) (by omega) 74).1, fun k hk => n_0 hk⟩
theorem z_R0 : RR ((0, 0, 0) : rw3) (some (0, 0)) := by
  unfold RR RB RZ
  decide +kernel
theorem z_L (h : Nw P σ x) : RL x σ := by
  have zm := z_m h
  obtain ⟨⟨-, -, -, t, -, g, -, pl, -, k, -, d, -, f, r6, l1, r7, l2, -⟩, -⟩ := h
  have y1 : ly_7 P σ (x + 129) := l1
  have y2 : ly_7 P σ (x + 805) := l2
  obtain ⟨E, e1, e2⟩ := z_E y1
  obtain ⟨E', e3, e4⟩ := z_E y2
  have o := (z_7 y1).1
  refine ⟨x + 129, x + 805, K0, fun _ => 0, fun _ => 0, fun _ => ((0, 0, 0), []), kT0, fun p hp => n_0 hp, ⟨⟨r6, r7, Or.inl ⟨rfl, rfl⟩⟩, ⟨_, E, 0, LZ_0 (o 2) (o 3) (o 6) e1 e2⟩, Or.inl (o 10), fun p hp => n_0 hp, ⟨E', fun _ => 0, e3, e4⟩⟩, ⟨(zm _ (by omega) (by omega) 19).1, (zm _ (by omega) (by omega) 20).1, fun i hi => n_0 hi, fun i hi => ⟨(zm _ (by omega) (by omega) i).1, show (0 : Nat) < 1024 by decide⟩, fun p hp => n_0 hp⟩, ⟨fun _ => some (0, 0), fun dd hd => ?_⟩, fun p hp => n_0 hp⟩
  have e : rr σ (x + 1497) dd = (0, 0, 0) := by
    unfold rr
    rw [(zm (x + 1497 + 2) (by omega) (by omega) dd).2, (zm (x + 1497 + 3) (by omega) (by omega) dd).2, (zm (x + 1497 + 4) (by omega) (by omega) dd).1]
  rw [e]
  exact z_R0
theorem Iv_0 (h : Nw P σ x) : Iv x σ := ⟨z_T h, (z_G h).1, (z_G h).2, (z_P h).1, (z_P h).2.1, (z_P h).2.2, z_C h, z_L h⟩
end MJS
