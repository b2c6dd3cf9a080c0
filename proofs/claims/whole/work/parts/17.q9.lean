/-! ===== q9: where things lie ===== -/
section Q9
variable {P : mx_P} {σ : mx_S} {A : Nat → Option mx_Sh} {R : Nat → Nat → Option Nat} {l a p : Nat}
def LyP (A : Nat → Option mx_Sh) (R : Nat → Nat → Option Nat) (p : Nat) : Prop := A (p) = some (.inl 8) ∧ R (p) 0 = some (p + 1) ∧ R (p) 1 = some (p + 2) ∧ A (p + 1) = some (.inl 0) ∧ A (p + 2) = some (.inl 0)
theorem LyP_o {p : Nat} (h : LyP A R p) : A (p) = some (.inl 8) := h.1
theorem LyP_r0 {p : Nat} (h : LyP A R p) : R (p) 0 = some (p + 1) := h.2.1
theorem LyP_r1 {p : Nat} (h : LyP A R p) : R (p) 1 = some (p + 2) := h.2.2.1
theorem LyP_x {p : Nat} (h : LyP A R p) : A (p + 1) = some (.inl 0) := h.2.2.2.1
theorem LyP_y {p : Nat} (h : LyP A R p) : A (p + 2) = some (.inl 0) := h.2.2.2.2
def LyJ (A : Nat → Option mx_Sh) (R : Nat → Nat → Option Nat) (j : Nat) : Prop := A (j) = some (.inl 5) ∧ R (j) 2 = some (j + 1) ∧ A (j + 1) = some (.inr (0, 4)) ∧ R (j) 9 = some (j + 2) ∧ A (j + 2) = some (.inl 0) ∧ R (j) 10 = some (j + 3) ∧ A (j + 3) = some (.inl 0) ∧ R (j) 11 = some (j + 4) ∧ LyP A R (j + 4) ∧ R (j) 12 = some (j + 7) ∧ LyP A R (j + 7) ∧ R (j) 13 = some (j + 10) ∧ LyP A R (j + 10) ∧ R (j) 14 = some (j + 13) ∧ LyP A R (j + 13)
theorem LyJ_o {j : Nat} (h : LyJ A R j) : A (j) = some (.inl 5) := h.1
theorem LyJ_r2 {j : Nat} (h : LyJ A R j) : R (j) 2 = some (j + 1) := h.2.1
theorem LyJ_a2 {j : Nat} (h : LyJ A R j) : A (j + 1) = some (.inr (0, 4)) := h.2.2.1
theorem LyJ_r9 {j : Nat} (h : LyJ A R j) : R (j) 9 = some (j + 2) := h.2.2.2.1
theorem LyJ_a9 {j : Nat} (h : LyJ A R j) : A (j + 2) = some (.inl 0) := h.2.2.2.2.1
theorem LyJ_r10 {j : Nat} (h : LyJ A R j) : R (j) 10 = some (j + 3) := h.2.2.2.2.2.1
theorem LyJ_a10 {j : Nat} (h : LyJ A R j) : A (j + 3) = some (.inl 0) := h.2.2.2.2.2.2.1
theorem LyJ_r11 {j : Nat} (h : LyJ A R j) : R (j) 11 = some (j + 4) := h.2.2.2.2.2.2.2.1
theorem LyJ_a11 {j : Nat} (h : LyJ A R j) : LyP A R (j + 4) := h.2.2.2.2.2.2.2.2.1
theorem LyJ_r12 {j : Nat} (h : LyJ A R j) : R (j) 12 = some (j + 7) := h.2.2.2.2.2.2.2.2.2.1
theorem LyJ_a12 {j : Nat} (h : LyJ A R j) : LyP A R (j + 7) := h.2.2.2.2.2.2.2.2.2.2.1
theorem LyJ_r13 {j : Nat} (h : LyJ A R j) : R (j) 13 = some (j + 10) := h.2.2.2.2.2.2.2.2.2.2.2.1
theorem LyJ_a13 {j : Nat} (h : LyJ A R j) : LyP A R (j + 10) := h.2.2.2.2.2.2.2.2.2.2.2.2.1
theorem LyJ_r14 {j : Nat} (h : LyJ A R j) : R (j) 14 = some (j + 13) := h.2.2.2.2.2.2.2.2.2.2.2.2.2.1
theorem LyJ_a14 {j : Nat} (h : LyJ A R j) : LyP A R (j + 13) := h.2.2.2.2.2.2.2.2.2.2.2.2.2.2
def LyL (A : Nat → Option mx_Sh) (R : Nat → Nat → Option Nat) (l : Nat) : Prop := A (l) = some (.inl 7) ∧ R (l) 0 = some (l + 1) ∧ A (l + 1) = some (.inr (4, 40)) ∧ (∀ k, k < 40 → R (l + 1) k = some (l + 2 + 16 * k) ∧ LyJ A R (l + 2 + 16 * k)) ∧ R (l) 1 = some (l + 642) ∧ A (l + 642) = some (.inr (0, 40)) ∧ R (l) 4 = some (l + 643) ∧ A (l + 643) = some (.inr (0, 4)) ∧ R (l) 5 = some (l + 644) ∧ A (l + 644) = some (.inr (5, 4)) ∧ (∀ k, k < 4 → R (l + 644) k = some (l + 645 + 3 * k) ∧ LyP A R (l + 645 + 3 * k)) ∧ R (l) 7 = some (l + 657) ∧ A (l + 657) = some (.inr (0, 256)) ∧ R (l) 8 = some (l + 658) ∧ A (l + 658) = some (.inr (0, 256)) ∧ R (l) 11 = some (l + 659) ∧ LyP A R (l + 659) ∧ R (l) 12 = some (l + 662) ∧ LyP A R (l + 662) ∧ R (l) 13 = some (l + 665) ∧ LyP A R (l + 665) ∧ R (l) 14 = some (l + 668) ∧ LyP A R (l + 668) ∧ R (l) 15 = some (l + 671) ∧ A (l + 671) = some (.inl 0) ∧ R (l) 16 = some (l + 672) ∧ A (l + 672) = some (.inl 0) ∧ R (l) 17 = some (l + 673) ∧ A (l + 673) = some (.inl 0) ∧ R (l) 18 = some (l + 674) ∧ A (l + 674) = some (.inl 0) ∧ R (l) 19 = some (l + 675) ∧ A (l + 675) = some (.inl 0)
theorem LyL_o {l : Nat} (h : LyL A R l) : A (l) = some (.inl 7) := h.1
theorem LyL_r0 {l : Nat} (h : LyL A R l) : R (l) 0 = some (l + 1) := h.2.1
theorem LyL_a0 {l : Nat} (h : LyL A R l) : A (l + 1) = some (.inr (4, 40)) := h.2.2.1
theorem LyL_j {l : Nat} (h : LyL A R l) : (∀ k, k < 40 → R (l + 1) k = some (l + 2 + 16 * k) ∧ LyJ A R (l + 2 + 16 * k)) := h.2.2.2.1
theorem LyL_r1 {l : Nat} (h : LyL A R l) : R (l) 1 = some (l + 642) := h.2.2.2.2.1
theorem LyL_a1 {l : Nat} (h : LyL A R l) : A (l + 642) = some (.inr (0, 40)) := h.2.2.2.2.2.1
theorem LyL_r4 {l : Nat} (h : LyL A R l) : R (l) 4 = some (l + 643) := h.2.2.2.2.2.2.1
theorem LyL_a4 {l : Nat} (h : LyL A R l) : A (l + 643) = some (.inr (0, 4)) := h.2.2.2.2.2.2.2.1
theorem LyL_r5 {l : Nat} (h : LyL A R l) : R (l) 5 = some (l + 644) := h.2.2.2.2.2.2.2.2.1
theorem LyL_a5 {l : Nat} (h : LyL A R l) : A (l + 644) = some (.inr (5, 4)) := h.2.2.2.2.2.2.2.2.2.1
theorem LyL_m {l : Nat} (h : LyL A R l) : (∀ k, k < 4 → R (l + 644) k = some (l + 645 + 3 * k) ∧ LyP A R (l + 645 + 3 * k)) := h.2.2.2.2.2.2.2.2.2.2.1
theorem LyL_r7 {l : Nat} (h : LyL A R l) : R (l) 7 = some (l + 657) := h.2.2.2.2.2.2.2.2.2.2.2.1
theorem LyL_a7 {l : Nat} (h : LyL A R l) : A (l + 657) = some (.inr (0, 256)) := h.2.2.2.2.2.2.2.2.2.2.2.2.1
theorem LyL_r8 {l : Nat} (h : LyL A R l) : R (l) 8 = some (l + 658) := h.2.2.2.2.2.2.2.2.2.2.2.2.2.1
theorem LyL_a8 {l : Nat} (h : LyL A R l) : A (l + 658) = some (.inr (0, 256)) := h.2.2.2.2.2.2.2.2.2.2.2.2.2.2.1
theorem LyL_r11 {l : Nat} (h : LyL A R l) : R (l) 11 = some (l + 659) := h.2.2.2.2.2.2.2.2.2.2.2.2.2.2.2.1
theorem LyL_a11 {l : Nat} (h : LyL A R l) : LyP A R (l + 659) := h.2.2.2.2.2.2.2.2.2.2.2.2.2.2.2.2.1
theorem LyL_r12 {l : Nat} (h : LyL A R l) : R (l) 12 = some (l + 662) := h.2.2.2.2.2.2.2.2.2.2.2.2.2.2.2.2.2.1
theorem LyL_a12 {l : Nat} (h : LyL A R l) : LyP A R (l + 662) := h.2.2.2.2.2.2.2.2.2.2.2.2.2.2.2.2.2.2.1
theorem LyL_r13 {l : Nat} (h : LyL A R l) : R (l) 13 = some (l + 665) := h.2.2.2.2.2.2.2.2.2.2.2.2.2.2.2.2.2.2.2.1
theorem LyL_a13 {l : Nat} (h : LyL A R l) : LyP A R (l + 665) := h.2.2.2.2.2.2.2.2.2.2.2.2.2.2.2.2.2.2.2.2.1
theorem LyL_r14 {l : Nat} (h : LyL A R l) : R (l) 14 = some (l + 668) := h.2.2.2.2.2.2.2.2.2.2.2.2.2.2.2.2.2.2.2.2.2.1
theorem LyL_a14 {l : Nat} (h : LyL A R l) : LyP A R (l + 668) := h.2.2.2.2.2.2.2.2.2.2.2.2.2.2.2.2.2.2.2.2.2.2.1
theorem LyL_r15 {l : Nat} (h : LyL A R l) : R (l) 15 = some (l + 671) := h.2.2.2.2.2.2.2.2.2.2.2.2.2.2.2.2.2.2.2.2.2.2.2.1
theorem LyL_a15 {l : Nat} (h : LyL A R l) : A (l + 671) = some (.inl 0) := h.2.2.2.2.2.2.2.2.2.2.2.2.2.2.2.2.2.2.2.2.2.2.2.2.1
theorem LyL_r16 {l : Nat} (h : LyL A R l) : R (l) 16 = some (l + 672) := h.2.2.2.2.2.2.2.2.2.2.2.2.2.2.2.2.2.2.2.2.2.2.2.2.2.1
theorem LyL_a16 {l : Nat} (h : LyL A R l) : A (l + 672) = some (.inl 0) := h.2.2.2.2.2.2.2.2.2.2.2.2.2.2.2.2.2.2.2.2.2.2.2.2.2.2.1
theorem LyL_r17 {l : Nat} (h : LyL A R l) : R (l) 17 = some (l + 673) := h.2.2.2.2.2.2.2.2.2.2.2.2.2.2.2.2.2.2.2.2.2.2.2.2.2.2.2.1
theorem LyL_a17 {l : Nat} (h : LyL A R l) : A (l + 673) = some (.inl 0) := h.2.2.2.2.2.2.2.2.2.2.2.2.2.2.2.2.2.2.2.2.2.2.2.2.2.2.2.2.1
theorem LyL_r18 {l : Nat} (h : LyL A R l) : R (l) 18 = some (l + 674) := h.2.2.2.2.2.2.2.2.2.2.2.2.2.2.2.2.2.2.2.2.2.2.2.2.2.2.2.2.2.1
theorem LyL_a18 {l : Nat} (h : LyL A R l) : A (l + 674) = some (.inl 0) := h.2.2.2.2.2.2.2.2.2.2.2.2.2.2.2.2.2.2.2.2.2.2.2.2.2.2.2.2.2.2.1
theorem LyL_r19 {l : Nat} (h : LyL A R l) : R (l) 19 = some (l + 675) := h.2.2.2.2.2.2.2.2.2.2.2.2.2.2.2.2.2.2.2.2.2.2.2.2.2.2.2.2.2.2.2.1
theorem LyL_a19 {l : Nat} (h : LyL A R l) : A (l + 675) = some (.inl 0) := h.2.2.2.2.2.2.2.2.2.2.2.2.2.2.2.2.2.2.2.2.2.2.2.2.2.2.2.2.2.2.2.2
def LyC (A : Nat → Option mx_Sh) (R : Nat → Nat → Option Nat) (c : Nat) : Prop := A (c) = some (.inl 1) ∧ R (c) 1 = some (c + 1) ∧ A (c + 1) = some (.inr (0, 30)) ∧ R (c) 2 = some (c + 2) ∧ A (c + 2) = some (.inr (0, 30)) ∧ R (c) 3 = some (c + 3) ∧ A (c + 3) = some (.inr (0, 30)) ∧ R (c) 4 = some (c + 4) ∧ A (c + 4) = some (.inr (1, 30)) ∧ R (c) 5 = some (c + 5) ∧ A (c + 5) = some (.inr (1, 30)) ∧ R (c) 6 = some (c + 6) ∧ A (c + 6) = some (.inl 3) ∧ R (c) 7 = some (c + 7) ∧ A (c + 7) = some (.inl 3)
theorem LyC_o {c : Nat} (h : LyC A R c) : A (c) = some (.inl 1) := h.1
theorem LyC_r1 {c : Nat} (h : LyC A R c) : R (c) 1 = some (c + 1) := h.2.1
theorem LyC_a1 {c : Nat} (h : LyC A R c) : A (c + 1) = some (.inr (0, 30)) := h.2.2.1
theorem LyC_r2 {c : Nat} (h : LyC A R c) : R (c) 2 = some (c + 2) := h.2.2.2.1
theorem LyC_a2 {c : Nat} (h : LyC A R c) : A (c + 2) = some (.inr (0, 30)) := h.2.2.2.2.1
theorem LyC_r3 {c : Nat} (h : LyC A R c) : R (c) 3 = some (c + 3) := h.2.2.2.2.2.1
theorem LyC_a3 {c : Nat} (h : LyC A R c) : A (c + 3) = some (.inr (0, 30)) := h.2.2.2.2.2.2.1
theorem LyC_r4 {c : Nat} (h : LyC A R c) : R (c) 4 = some (c + 4) := h.2.2.2.2.2.2.2.1
theorem LyC_a4 {c : Nat} (h : LyC A R c) : A (c + 4) = some (.inr (1, 30)) := h.2.2.2.2.2.2.2.2.1
theorem LyC_r5 {c : Nat} (h : LyC A R c) : R (c) 5 = some (c + 5) := h.2.2.2.2.2.2.2.2.2.1
theorem LyC_a5 {c : Nat} (h : LyC A R c) : A (c + 5) = some (.inr (1, 30)) := h.2.2.2.2.2.2.2.2.2.2.1
theorem LyC_r6 {c : Nat} (h : LyC A R c) : R (c) 6 = some (c + 6) := h.2.2.2.2.2.2.2.2.2.2.2.1
theorem LyC_a6 {c : Nat} (h : LyC A R c) : A (c + 6) = some (.inl 3) := h.2.2.2.2.2.2.2.2.2.2.2.2.1
theorem LyC_r7 {c : Nat} (h : LyC A R c) : R (c) 7 = some (c + 7) := h.2.2.2.2.2.2.2.2.2.2.2.2.2.1
theorem LyC_a7 {c : Nat} (h : LyC A R c) : A (c + 7) = some (.inl 3) := h.2.2.2.2.2.2.2.2.2.2.2.2.2.2
def LyG (A : Nat → Option mx_Sh) (R : Nat → Nat → Option Nat) (g : Nat) : Prop := A (g) = some (.inl 4) ∧ R (g) 3 = some (g + 1) ∧ A (g + 1) = some (.inr (0, 24)) ∧ R (g) 4 = some (g + 2) ∧ A (g + 2) = some (.inr (0, 24)) ∧ R (g) 5 = some (g + 3) ∧ A (g + 3) = some (.inr (0, 80)) ∧ R (g) 6 = some (g + 4) ∧ A (g + 4) = some (.inr (0, 12)) ∧ R (g) 7 = some (g + 5) ∧ A (g + 5) = some (.inr (0, 12)) ∧ R (g) 8 = some (g + 6) ∧ A (g + 6) = some (.inr (0, 12)) ∧ R (g) 9 = some (g + 7) ∧ A (g + 7) = some (.inr (0, 1200)) ∧ R (g) 10 = some (g + 8) ∧ A (g + 8) = some (.inr (7, 32)) ∧ R (g) 11 = some (g + 41) ∧ A (g + 41) = some (.inr (7, 32)) ∧ R (g) 12 = some (g + 74) ∧ A (g + 74) = some (.inr (0, 12)) ∧ R (g) 15 = some (g + 75) ∧ A (g + 75) = some (.inl 3) ∧ R (g) 16 = some (g + 76) ∧ A (g + 76) = some (.inl 3) ∧ R (g) 17 = some (g + 77) ∧ A (g + 77) = some (.inl 3) ∧ (∀ i, i < 32 → A (g + 9 + i) = some (.inr (1, 13)) ∧ A (g + 42 + i) = some (.inr (1, 13)))
theorem LyG_o {g : Nat} (h : LyG A R g) : A (g) = some (.inl 4) := h.1
theorem LyG_r3 {g : Nat} (h : LyG A R g) : R (g) 3 = some (g + 1) := h.2.1
theorem LyG_a3 {g : Nat} (h : LyG A R g) : A (g + 1) = some (.inr (0, 24)) := h.2.2.1
theorem LyG_r4 {g : Nat} (h : LyG A R g) : R (g) 4 = some (g + 2) := h.2.2.2.1
theorem LyG_a4 {g : Nat} (h : LyG A R g) : A (g + 2) = some (.inr (0, 24)) := h.2.2.2.2.1
theorem LyG_r5 {g : Nat} (h : LyG A R g) : R (g) 5 = some (g + 3) := h.2.2.2.2.2.1
theorem LyG_a5 {g : Nat} (h : LyG A R g) : A (g + 3) = some (.inr (0, 80)) := h.2.2.2.2.2.2.1
theorem LyG_r6 {g : Nat} (h : LyG A R g) : R (g) 6 = some (g + 4) := h.2.2.2.2.2.2.2.1
theorem LyG_a6 {g : Nat} (h : LyG A R g) : A (g + 4) = some (.inr (0, 12)) := h.2.2.2.2.2.2.2.2.1
theorem LyG_r7 {g : Nat} (h : LyG A R g) : R (g) 7 = some (g + 5) := h.2.2.2.2.2.2.2.2.2.1
theorem LyG_a7 {g : Nat} (h : LyG A R g) : A (g + 5) = some (.inr (0, 12)) := h.2.2.2.2.2.2.2.2.2.2.1
theorem LyG_r8 {g : Nat} (h : LyG A R g) : R (g) 8 = some (g + 6) := h.2.2.2.2.2.2.2.2.2.2.2.1
theorem LyG_a8 {g : Nat} (h : LyG A R g) : A (g + 6) = some (.inr (0, 12)) := h.2.2.2.2.2.2.2.2.2.2.2.2.1
theorem LyG_r9 {g : Nat} (h : LyG A R g) : R (g) 9 = some (g + 7) := h.2.2.2.2.2.2.2.2.2.2.2.2.2.1
theorem LyG_a9 {g : Nat} (h : LyG A R g) : A (g + 7) = some (.inr (0, 1200)) := h.2.2.2.2.2.2.2.2.2.2.2.2.2.2.1
theorem LyG_r10 {g : Nat} (h : LyG A R g) : R (g) 10 = some (g + 8) := h.2.2.2.2.2.2.2.2.2.2.2.2.2.2.2.1
theorem LyG_a10 {g : Nat} (h : LyG A R g) : A (g + 8) = some (.inr (7, 32)) := h.2.2.2.2.2.2.2.2.2.2.2.2.2.2.2.2.1
theorem LyG_r11 {g : Nat} (h : LyG A R g) : R (g) 11 = some (g + 41) := h.2.2.2.2.2.2.2.2.2.2.2.2.2.2.2.2.2.1
theorem LyG_a11 {g : Nat} (h : LyG A R g) : A (g + 41) = some (.inr (7, 32)) := h.2.2.2.2.2.2.2.2.2.2.2.2.2.2.2.2.2.2.1
theorem LyG_r12 {g : Nat} (h : LyG A R g) : R (g) 12 = some (g + 74) := h.2.2.2.2.2.2.2.2.2.2.2.2.2.2.2.2.2.2.2.1
theorem LyG_a12 {g : Nat} (h : LyG A R g) : A (g + 74) = some (.inr (0, 12)) := h.2.2.2.2.2.2.2.2.2.2.2.2.2.2.2.2.2.2.2.2.1
theorem LyG_r15 {g : Nat} (h : LyG A R g) : R (g) 15 = some (g + 75) := h.2.2.2.2.2.2.2.2.2.2.2.2.2.2.2.2.2.2.2.2.2.1
theorem LyG_a15 {g : Nat} (h : LyG A R g) : A (g + 75) = some (.inl 3) := h.2.2.2.2.2.2.2.2.2.2.2.2.2.2.2.2.2.2.2.2.2.2.1
theorem LyG_r16 {g : Nat} (h : LyG A R g) : R (g) 16 = some (g + 76) := h.2.2.2.2.2.2.2.2.2.2.2.2.2.2.2.2.2.2.2.2.2.2.2.1
theorem LyG_a16 {g : Nat} (h : LyG A R g) : A (g + 76) = some (.inl 3) := h.2.2.2.2.2.2.2.2.2.2.2.2.2.2.2.2.2.2.2.2.2.2.2.2.1
theorem LyG_r17 {g : Nat} (h : LyG A R g) : R (g) 17 = some (g + 77) := h.2.2.2.2.2.2.2.2.2.2.2.2.2.2.2.2.2.2.2.2.2.2.2.2.2.1
theorem LyG_a17 {g : Nat} (h : LyG A R g) : A (g + 77) = some (.inl 3) := h.2.2.2.2.2.2.2.2.2.2.2.2.2.2.2.2.2.2.2.2.2.2.2.2.2.2.1
theorem LyG_c {g : Nat} (h : LyG A R g) : (∀ i, i < 32 → A (g + 9 + i) = some (.inr (1, 13)) ∧ A (g + 42 + i) = some (.inr (1, 13))) := h.2.2.2.2.2.2.2.2.2.2.2.2.2.2.2.2.2.2.2.2.2.2.2.2.2.2.2
def LyH (A : Nat → Option mx_Sh) (R : Nat → Nat → Option Nat) (x : Nat) : Prop := A (x) = some (.inl 11) ∧ R (x) 0 = some (x + 1) ∧ LyO A R 10 al10 (x + 1) ∧ R (x) 1 = some (x + 9) ∧ LyG A R (x + 9) ∧ R (x) 2 = some (x + 87) ∧ A (x + 87) = some (.inr (6, 8)) ∧ (∀ p, p < 8 → R (x + 87) p = some (x + 88 + 3 * p) ∧ LyO A R 9 al9 (x + 88 + 3 * p)) ∧ R (x) 3 = some (x + 112) ∧ LyO A R 6 al6 (x + 112) ∧ R (x) 4 = some (x + 120) ∧ LyO A R 2 al2 (x + 120) ∧ R (x) 5 = some (x + 128) ∧ A (x + 128) = some (.inl 3) ∧ LyL A R (x + 129) ∧ LyL A R (x + 805) ∧ LyC A R (x + 1481) ∧ LyC A R (x + 1489) ∧ LyO A R 12 al12 (x + 1497) ∧ A (x + 1575) = some (.inr (1, 1))
theorem LyH_o {x : Nat} (h : LyH A R x) : A (x) = some (.inl 11) := h.1
theorem LyH_r0 {x : Nat} (h : LyH A R x) : R (x) 0 = some (x + 1) := h.2.1
theorem LyH_t {x : Nat} (h : LyH A R x) : LyO A R 10 al10 (x + 1) := h.2.2.1
theorem LyH_r1 {x : Nat} (h : LyH A R x) : R (x) 1 = some (x + 9) := h.2.2.2.1
theorem LyH_g {x : Nat} (h : LyH A R x) : LyG A R (x + 9) := h.2.2.2.2.1
theorem LyH_r2 {x : Nat} (h : LyH A R x) : R (x) 2 = some (x + 87) := h.2.2.2.2.2.1
theorem LyH_a2 {x : Nat} (h : LyH A R x) : A (x + 87) = some (.inr (6, 8)) := h.2.2.2.2.2.2.1
theorem LyH_p {x : Nat} (h : LyH A R x) : (∀ p, p < 8 → R (x + 87) p = some (x + 88 + 3 * p) ∧ LyO A R 9 al9 (x + 88 + 3 * p)) := h.2.2.2.2.2.2.2.1
theorem LyH_r3 {x : Nat} (h : LyH A R x) : R (x) 3 = some (x + 112) := h.2.2.2.2.2.2.2.2.1
theorem LyH_k {x : Nat} (h : LyH A R x) : LyO A R 6 al6 (x + 112) := h.2.2.2.2.2.2.2.2.2.1
theorem LyH_r4 {x : Nat} (h : LyH A R x) : R (x) 4 = some (x + 120) := h.2.2.2.2.2.2.2.2.2.2.1
theorem LyH_d {x : Nat} (h : LyH A R x) : LyO A R 2 al2 (x + 120) := h.2.2.2.2.2.2.2.2.2.2.2.1
theorem LyH_r5 {x : Nat} (h : LyH A R x) : R (x) 5 = some (x + 128) := h.2.2.2.2.2.2.2.2.2.2.2.2.1
theorem LyH_f {x : Nat} (h : LyH A R x) : A (x + 128) = some (.inl 3) := h.2.2.2.2.2.2.2.2.2.2.2.2.2.1
theorem LyH_l1 {x : Nat} (h : LyH A R x) : LyL A R (x + 129) := h.2.2.2.2.2.2.2.2.2.2.2.2.2.2.1
theorem LyH_l2 {x : Nat} (h : LyH A R x) : LyL A R (x + 805) := h.2.2.2.2.2.2.2.2.2.2.2.2.2.2.2.1
theorem LyH_c1 {x : Nat} (h : LyH A R x) : LyC A R (x + 1481) := h.2.2.2.2.2.2.2.2.2.2.2.2.2.2.2.2.1
theorem LyH_c2 {x : Nat} (h : LyH A R x) : LyC A R (x + 1489) := h.2.2.2.2.2.2.2.2.2.2.2.2.2.2.2.2.2.1
theorem LyH_m {x : Nat} (h : LyH A R x) : LyO A R 12 al12 (x + 1497) := h.2.2.2.2.2.2.2.2.2.2.2.2.2.2.2.2.2.2.1
theorem LyH_u {x : Nat} (h : LyH A R x) : A (x + 1575) = some (.inr (1, 1)) := h.2.2.2.2.2.2.2.2.2.2.2.2.2.2.2.2.2.2.2
theorem LyP_of (h : ly_8 P σ p) : LyP (mxA σ) (mxR σ) p := by
  obtain ⟨h1, -, h2, h3, h4, h5, -⟩ := h
  exact ⟨h1, h2, h4, h3.1, h5.1⟩
theorem LyP_m (h : ly_m σ p) : LyP (mxA σ) (mxR σ) p := by
  obtain ⟨h1, h2, h3, h4, h5, -⟩ := h
  exact ⟨h1, h2, h3, h4, h5⟩
theorem LyJ_of (h : ly_5 P σ p) : LyJ (mxA σ) (mxR σ) p := by
  obtain ⟨h1, -, h2, h3, h4, h5, h6, h7, h8, h9, h10, h11, h12, h13, h14, h15, -⟩ := h
  exact ⟨h1, h2, h3.1, h4, h5.1, h6, h7.1, h8, LyP_of h9, h10, LyP_of h11, h12, LyP_of h13, h14, LyP_of h15⟩
theorem LyL_of (h : ly_7 P σ l) : LyL (mxA σ) (mxR σ) l := by
  obtain ⟨h1, -, r0, j0, r1, a1, r4, a4, r5, m0, r7, a7, r8, a8, r11, a11, r12, a12, r13, a13, r14, a14, r15, a15, r16, a16, r17, a17, r18, a18, r19, a19, -⟩ := h
  exact ⟨h1, r0, j0.1, fun k hk => ⟨(j0.2.2 k hk).1, LyJ_of (j0.2.2 k hk).2⟩, r1, a1.1, r4, a4.1, r5, m0.1, fun k hk => ⟨(m0.2.2 k hk).1, LyP_m (m0.2.2 k hk).2⟩, r7, a7.1, r8, a8.1, r11, LyP_of a11, r12, LyP_of a12, r13, LyP_of a13, r14, LyP_of a14, r15, a15.1, r16, a16.1, r17, a17.1, r18, a18.1, r19, a19.1⟩
theorem LyC_of (h : ly_1 P σ p) : LyC (mxA σ) (mxR σ) p := by
  obtain ⟨h1, -, r1, a1, r2, a2, r3, a3, r4, a4, r5, a5, r6, a6, r7, a7, -⟩ := h
  exact ⟨h1, r1, a1.1, r2, a2.1, r3, a3.1, r4, a4.1, r5, a5.1, r6, a6.1, r7, a7.1⟩
theorem LyG_of (h : ly_4 P σ p) : LyG (mxA σ) (mxR σ) p := by
  obtain ⟨h1, -, r3, a3, r4, a4, r5, a5, r6, a6, r7, a7, r8, a8, r9, a9, r10, a10, r11, a11, r12, a12, r15, a15, r16, a16, r17, a17, -⟩ := h
  exact ⟨h1, r3, a3.1, r4, a4.1, r5, a5.1, r6, a6.1, r7, a7.1, r8, a8.1, r9, a9.1, r10, a10.1, r11, a11.1, r12, a12.1, r15, a15.1, r16, a16.1, r17, a17.1, fun i hi => ⟨(a10.2 i hi).2.1, (a11.2 i hi).2.1⟩⟩
/-- the house, the reference and the answer's cell, new -/
def Nw (P : mx_P) (σ : mx_S) (x : Nat) : Prop := ly_11 P σ x ∧ ly_12 P σ (x + 1497) ∧ ly_a 1 1 σ (x + 1575) ∧ mxz σ = x + 1576 ∧ mxu σ ≤ 40000
theorem LyH_of {x : Nat} (h : Nw P σ x) : LyH (mxA σ) (mxR σ) x := by
  obtain ⟨⟨h1, -, r0, t, r1, g, r2, pl, r3, k, r4, d, r5, f, r6, l1, r7, l2, r8, c1, r9, c2, -⟩, hm, hu, -, -⟩ := h
  refine ⟨h1, r0, (LyO_of (P := P) (l := al10) t).1, r1, LyG_of g, r2, pl.1, fun p hp => ⟨(pl.2.2 p hp).1, (LyO_of (P := P) (l := al9) (pl.2.2 p hp).2).1⟩, r3, (LyO_of (P := P) (l := al6) k).1, r4, (LyO_of (P := P) (l := al2) d).1, r5, f.1, LyL_of l1, LyL_of l2, LyC_of c1, LyC_of c2, (LyO_of hm).1, hu.1⟩
theorem lw_start {L b : Nat} {xs : Nat → Int32} (hN : 40 < mpN P) (hr : Rm P σ 1576 40000) (hb : mpb P ≤ mxz σ) (hu : mxu σ = 0) : ∃ σ1, Nw P σ1 (mxz σ) ∧ f_L_law P L xs b σ = (mx_lp (f_L_law_L23 P L xs b (mxz σ) (mxz σ + 1497) (mxz σ + 1575)) (mpN P) ((0 : Int32), σ1)).bind (fun t => mr_Z (1 : Int32) t) := by
  obtain ⟨r1, r2⟩ := hr
  have h11 := ok_11 (P := P) hN
  obtain ⟨s1, a1, a2, a3, a4, a5⟩ := h11.1 σ ⟨by omega, by omega⟩ hb
  obtain ⟨s2, b1, b2, b3, b4, b5⟩ := (ok_12 (P := P)).1 s1 ⟨by omega, by omega⟩ (by omega)
  obtain ⟨s3, c1, c2, c3, c4, c5⟩ := (ok_a (P := P) (t := 1) (n := 1) (by omega)).1 s2 ⟨by omega, by omega⟩ (by omega)
  refine ⟨s3, ⟨?_, ?_, ?_, by omega, by omega⟩, ?_⟩
  · exact h11.2 s2 s3 _ (fun q h1 h2 => c4.al (by omega)) (h11.2 s1 s2 _ (fun q h1 h2 => b4.al (by omega)) a5)
  · rw [a2] at b5
    exact (ok_12 (P := P)).2 s2 s3 _ (fun q h1 h2 => c4.al (by omega)) b5
  · rw [show mxz s2 = mxz σ + 1575 by omega] at c5; exact c5
  · have e2 : mxz s2 = mxz σ + 1575 := by omega
    rw [a2] at b1; rw [e2] at c1
    unfold f_L_law
    rw [mk_use a1, mk_use b1]
    have c1' : mn_A P s2 1 (1 : Int32) = some (mxz σ + 1575, s3) := c1
    rw [c1', q_b2]
end Q9
