/-! ===== js: kinds: at most 156 ===== -/
section JSS
variable {n k a b i j c d m : Nat} {l q : List Nat}
def kqlc (f : Nat → Bool) (lo : Nat) : Nat → Nat
  | 0 => 0
  | m + 1 => kqlc f lo m + (f (lo + m)).toNat
def kqct (f : Nat → Bool) : Nat → Nat → Nat
  | 0, c => bif f c then 1 else 0
  | k + 1, c => Nat.add (kqct f k (Nat.mul 2 c)) (kqct f k (Nat.add (Nat.mul 2 c) 1))
theorem kqlc_a (f : Nat → Bool) (lo : Nat) : kqlc f lo (a + b) = kqlc f lo a + kqlc f (lo + a) b := by
  induction b with
  | zero => rfl
  | succ b ih =>
    show kqlc f lo (a + b) + (f (lo + (a + b))).toNat = kqlc f lo a + (kqlc f (lo + a) b + (f (lo + a + b)).toNat)
    rw [ih, Nat.add_assoc lo a b]; omega
theorem kqct_lc (f : Nat → Bool) : kqct f k c = kqlc f (c * 2 ^ k) (2 ^ k) := by
  induction k generalizing c with
  | zero =>
    show (bif f c then 1 else 0) = 0 + (f (c * 1 + 0)).toNat
    rw [Nat.mul_one, Nat.add_zero]
    cases f c <;> rfl
  | succ k ih =>
    show kqct f k (2 * c) + kqct f k (2 * c + 1) = _
    rw [ih, ih, show 2 ^ (k + 1) = 2 ^ k + 2 ^ k by rw [Nat.pow_succ]; omega, kqlc_a]
    have e1 : 2 * c * 2 ^ k = c * (2 ^ k + 2 ^ k) := by grind
    have e2 : (2 * c + 1) * 2 ^ k = c * (2 ^ k + 2 ^ k) + 2 ^ k := by grind
    rw [e1, e2]
/-- the code by a list of bits -/
def kqml : List Nat → Nat → Nat
  | [], _ => 0
  | i :: L, c => Nat.add (Nat.mod (Nat.shiftRight c i) 2) (Nat.mul 2 (kqml L c))
def kqcb : List Nat → Nat → Nat
  | [], _ => 0
  | i :: L, c => Nat.add (Nat.mod (Nat.shiftRight c i) 2) (kqcb L c)
theorem kq_mod : Nat.mod (Nat.shiftRight c i) 2 = (c.testBit i).toNat := by
  rw [Nat.toNat_testBit]
  show (c >>> i) % 2 = _
  rw [Nat.shiftRight_eq_div_pow]
theorem kqml_m (L : List Nat) : kqml L c = kqm L.length (fun i => c.testBit (L.getD i 0)) := by
  apply Nat.eq_of_testBit_eq
  intro j
  rw [kqm_tb]
  induction L generalizing j with
  | nil => unfold kqml; simp
  | cons i L ih =>
    show ((Nat.mod (Nat.shiftRight c i) 2) + 2 * kqml L c).testBit j = _
    rw [kq_mod]
    cases j with
    | zero =>
      simp only [List.length_cons, Nat.zero_lt_succ, decide_true, Bool.true_and, List.getD_cons_zero]
      rw [Nat.testBit_zero]
      cases c.testBit i <;> simp <;> omega
    | succ j =>
      have e : (((c.testBit i).toNat + 2 * kqml L c).testBit (j + 1)) = (kqml L c).testBit j := by
        rw [Nat.testBit_succ]
        congr 1
        have : (c.testBit i).toNat ≤ 1 := Bool.toNat_le _
        omega
      rw [e, ih]
      simp
def kqj (n i : Nat) : List Nat := kqx (List.range n) i (i + 1)
theorem kqj_p : ∀ n, n < 7 → ∀ i, i < 5 → (Nat.ble 3 n && Nat.blt (i + 1) n) = true → (kqj n i).isPerm (List.range n) = true := by decide +kernel
def kqL6 (i : Nat) : List Nat := match i with
  | 0 => [0, 1, 2, 3, 4, 5, 10, 11, 12, 13, 6, 7, 8, 9, 14]
  | 1 => [0, 1, 2, 6, 7, 8, 3, 4, 5, 9, 10, 11, 12, 14, 13]
  | 2 => [0, 3, 4, 1, 2, 5, 6, 7, 9, 8, 10, 11, 13, 12, 14]
  | 3 => [1, 0, 2, 3, 5, 4, 6, 8, 7, 9, 10, 12, 11, 13, 14]
  | _ => [0, 2, 1, 4, 3, 5, 7, 6, 8, 9, 11, 10, 12, 13, 14]
theorem kqL6_t : ∀ i, i < 5 → (kqL6 i).length = 15 ∧ ∀ k, k < 15 → (kqa (kqj 6 i) (kqf 6 k) != kqa (kqj 6 i) (kqg 6 k) && kqb 6 (kqa (kqj 6 i) (kqf 6 k)) (kqa (kqj 6 i) (kqg 6 k)) == (kqL6 i).getD k 0) = true := by decide +kernel
theorem kqL6_m (hi : i < 5) : kqp 6 c (kqj 6 i) = kqml (kqL6 i) c := by
  obtain ⟨h1, h2⟩ := kqL6_t i hi
  rw [kqml_m, h1]
  unfold kqp
  refine kqm_cg fun k hk => ?_
  have h3 := h2 k hk
  rw [Bool.and_eq_true] at h3
  have e1 : kqa (kqj 6 i) (kqf 6 k) ≠ kqa (kqj 6 i) (kqg 6 k) := by simpa using h3.1
  have e2 : kqb 6 (kqa (kqj 6 i) (kqf 6 k)) (kqa (kqj 6 i) (kqg 6 k)) = (kqL6 i).getD k 0 := by simpa using h3.2
  rw [kqe_t e1, e2]
theorem kqcb_c (L : List Nat) : kqcb (i :: L) c = (c.testBit i).toNat + kqcb L c := by
  show Nat.mod (Nat.shiftRight c i) 2 + kqcb L c = _
  rw [kq_mod]
theorem kqcb_n : kqcb [] c = 0 := rfl
def kqD6 : List (List Nat) := [[14, 13, 12, 11, 10], [14, 9, 8, 7, 6], [13, 9, 5, 4, 3], [12, 8, 5, 2, 1], [11, 7, 4, 2, 0], [10, 6, 3, 1, 0]]
theorem kqD6_d : ∀ L, L ∈ kqD6 → ∃ a, a < 6 ∧ kqd 6 c a = kqcb L c := by
  intro L hL
  simp only [kqD6, List.mem_cons, List.not_mem_nil, or_false] at hL
  rcases hL with h | h | h | h | h | h
  · refine ⟨0, by omega, ?_⟩; rw [h]; simp only [kqcb_c, kqcb_n]; simp [kqd, kqs, kqe, kqb, kqu, kqr]; try omega
  · refine ⟨1, by omega, ?_⟩; rw [h]; simp only [kqcb_c, kqcb_n]; simp [kqd, kqs, kqe, kqb, kqu, kqr]; try omega
  · refine ⟨2, by omega, ?_⟩; rw [h]; simp only [kqcb_c, kqcb_n]; simp [kqd, kqs, kqe, kqb, kqu, kqr]; try omega
  · refine ⟨3, by omega, ?_⟩; rw [h]; simp only [kqcb_c, kqcb_n]; simp [kqd, kqs, kqe, kqb, kqu, kqr]; try omega
  · refine ⟨4, by omega, ?_⟩; rw [h]; simp only [kqcb_c, kqcb_n]; simp [kqd, kqs, kqe, kqb, kqu, kqr]; try omega
  · refine ⟨5, by omega, ?_⟩; rw [h]; simp only [kqcb_c, kqcb_n]; simp [kqd, kqs, kqe, kqb, kqu, kqr]; try omega
def kqh6 (c : Nat) : Bool := bif (Nat.beq (Nat.shiftRight c 10) 24 || Nat.beq (Nat.shiftRight c 10) 28 || Nat.beq (Nat.shiftRight c 10) 30 || Nat.beq (Nat.shiftRight c 10) 31) then (bif kqD6.all (fun L => Nat.ble 2 (kqcb L c)) then (List.range 5).all (fun i => Nat.ble (kqml (kqL6 i) c) c) else false) else false
def kqhg (n c : Nat) : Bool := (List.range (n - 1)).all fun i => Nat.ble (kqp n c (kqj n i)) c
def kqh (n c : Nat) : Bool := bif Nat.beq n 6 then kqh6 c else kqhg n c
theorem kqh_n : ∀ n, n < 7 → 3 ≤ n → kqct (kqh n) (kqr n) 0 ≤ 156 := by decide +kernel
end JSS
