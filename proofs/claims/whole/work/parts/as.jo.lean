/-! ===== jo: kinds: sums, permutations, pairs ===== -/
section JOS
variable {n k a b i j c : Nat} {f g : Nat → Nat} {l q : List Nat}
def kqs : Nat → (Nat → Nat) → Nat
  | 0, _ => 0
  | n + 1, f => kqs n f + f n
theorem kqs_cg (h : ∀ i, i < n → f i = g i) : kqs n f = kqs n g := by
  induction n with
  | zero => rfl
  | succ n ih => unfold kqs; rw [ih (fun i hi => h i (by omega)), h n (by omega)]
theorem kqs_le (h : ∀ i, i < n → f i ≤ g i) : kqs n f ≤ kqs n g := by
  induction n with
  | zero => exact Nat.le_refl _
  | succ n ih =>
    unfold kqs
    have h1 := ih (fun i hi => h i (by omega))
    have h2 := h n (by omega)
    omega
theorem kqs_lt (h : ∀ i, i < n → f i ≤ g i) (hj : j < n) (hl : f j < g j) : kqs n f < kqs n g := by
  induction n with
  | zero => omega
  | succ n ih =>
    unfold kqs
    have h2 := h n (by omega)
    by_cases e : j = n
    · have h1 := kqs_le (n := n) (fun i hi => h i (by omega))
      subst e; omega
    · have h1 := ih (fun i hi => h i (by omega)) (by omega)
      omega
theorem kqs_ls : kqs n f = ((List.range n).map f).sum := by
  induction n with
  | zero => rfl
  | succ n ih => unfold kqs; rw [List.range_succ, List.map_append, List.sum_append, ih]; simp
def kqP (n : Nat) (l : List Nat) : Prop := l.Perm (List.range n)
def kqa (l : List Nat) (i : Nat) : Nat := l.getD i 0
theorem kqP_len (h : kqP n l) : l.length = n := by have := List.Perm.length_eq h; rw [List.length_range] at this; exact this
theorem kqa_g (h : i < l.length) : kqa l i = l[i] := by unfold kqa; rw [List.getD_eq_getElem?_getD, List.getElem?_eq_getElem h]; rfl
theorem kqP_lt (h : kqP n l) (hi : i < n) : kqa l i < n := by
  have e := kqP_len h
  rw [kqa_g (by omega)]
  have := (List.Perm.mem_iff h (a := l[i])).mp (List.getElem_mem (by omega))
  exact List.mem_range.mp this
theorem kqP_nd (h : kqP n l) : l.Nodup := (List.Perm.nodup_iff h).mpr List.nodup_range
theorem kqP_ix (h : kqP n l) (hi : i < n) : l.idxOf (kqa l i) = i := by
  have e := kqP_len h
  rw [kqa_g (by omega)]
  exact List.Nodup.idxOf_getElem (kqP_nd h) i (by omega)
theorem kqP_inj (h : kqP n l) (hi : i < n) (hj : j < n) (e : kqa l i = kqa l j) : i = j := by
  rw [← kqP_ix h hi, e, kqP_ix h hj]
theorem kqP_sur (h : kqP n l) (hi : i < n) : ∃ a, a < n ∧ kqa l a = i := by
  have m := (List.Perm.mem_iff h (a := i)).mpr (List.mem_range.mpr hi)
  obtain ⟨a, ha, e⟩ := List.getElem_of_mem m
  have e2 := kqP_len h
  exact ⟨a, by omega, by rw [kqa_g ha]; exact e⟩
theorem kqP_map (h : kqP n l) : (List.range n).map (kqa l) = l := by
  have e := kqP_len h
  apply List.ext_getElem
  · rw [List.length_map, List.length_range, e]
  · intro i h1 h2
    rw [List.getElem_map, List.getElem_range, kqa_g h2]
theorem kqP_sum (h : kqP n l) (f : Nat → Nat) : kqs n (fun i => f (kqa l i)) = kqs n f := by
  rw [kqs_ls, kqs_ls]
  have e : (List.range n).map (fun i => f (kqa l i)) = l.map f := by
    show (List.range n).map (f ∘ kqa l) = _
    rw [← List.map_map (g := f) (f := kqa l), kqP_map h]
  rw [e]
  exact List.Perm.sum_nat (List.Perm.map f h)
theorem kqP_c (h : kqP n l) (hq : kqP n q) : kqP n (q.map (kqa l)) := by
  have h1 := List.Perm.map (kqa l) hq
  rw [kqP_map h] at h1
  exact List.Perm.trans h1 h
theorem kqa_c (hq : kqP n q) (hi : i < n) : kqa (q.map (kqa l)) i = kqa l (kqa q i) := by
  have e := kqP_len hq
  rw [kqa_g (by rw [List.length_map]; omega), List.getElem_map, ← kqa_g]
theorem kqP_id : kqP n (List.range n) := List.Perm.refl _
/-- the number with these bits -/
def kqm : Nat → (Nat → Bool) → Nat
  | 0, _ => 0
  | k + 1, f => kqm k f + (if f k then 2 ^ k else 0)
theorem kqm_lt (f : Nat → Bool) : kqm k f < 2 ^ k := by
  induction k with
  | zero => exact Nat.one_pos
  | succ k ih => unfold kqm; rw [Nat.pow_succ]; split <;> omega
theorem kqm_tb (f : Nat → Bool) : (kqm k f).testBit i = (decide (i < k) && f i) := by
  induction k with
  | zero => unfold kqm; simp
  | succ k ih =>
    by_cases h : i < k
    · unfold kqm
      rw [decide_eq_true (by omega : i < k + 1), Bool.true_and]
      rw [decide_eq_true h, Bool.true_and] at ih
      split
      · rw [Nat.add_comm, Nat.testBit_two_pow_add_gt h]; exact ih
      · exact ih
    · by_cases e : i = k
      · subst e
        unfold kqm
        rw [decide_eq_true (by omega : i < i + 1), Bool.true_and]
        have z := Nat.testBit_lt_two_pow (kqm_lt (k := i) f)
        by_cases hf : f i = true
        · rw [if_pos hf, Nat.add_comm, Nat.testBit_two_pow_add_eq, z, hf]; rfl
        · rw [if_neg hf, Nat.add_zero, z]; simp at hf; exact hf.symm
      · rw [decide_eq_false (by omega), Bool.false_and]
        exact Nat.testBit_lt_two_pow (Nat.lt_of_lt_of_le (kqm_lt (k := k + 1) f) (Nat.pow_le_pow_right (by omega) (by omega)))
theorem kqm_cg {f g : Nat → Bool} (h : ∀ i, i < k → f i = g i) : kqm k f = kqm k g := by
  induction k with
  | zero => rfl
  | succ k ih => unfold kqm; rw [ih (fun i hi => h i (by omega)), h k (by omega)]
theorem kqm_bt (h : c < 2 ^ k) : kqm k c.testBit = c := by
  apply Nat.eq_of_testBit_eq
  intro i
  rw [kqm_tb]
  by_cases hi : i < k
  · rw [decide_eq_true hi, Bool.true_and]
  · rw [decide_eq_false hi, Bool.false_and, Nat.testBit_lt_two_pow (Nat.lt_of_lt_of_le h (Nat.pow_le_pow_right (by omega) (by omega)))]
/-- pairs of links and their bits -/
def kqr (n : Nat) : Nat := n * (n - 1) / 2
def kqu (n a b : Nat) : Nat := kqr n - (a * (2 * n - a - 1) / 2 + (b - a - 1))
def kqb (n a b : Nat) : Nat := if a < b then kqu n a b - 1 else kqu n b a - 1
def kqF (n : Nat) : List (Nat × Nat) := (List.range n).flatMap fun a => ((List.range n).filter fun b => Nat.blt a b).map fun b => (a, b)
def kqf (n i : Nat) : Nat := ((kqF n).getD (kqr n - 1 - i) (0, 1)).1
def kqg (n i : Nat) : Nat := ((kqF n).getD (kqr n - 1 - i) (0, 1)).2
theorem kq_t1' : ∀ n, n < 7 → ∀ a, a < 6 → ∀ b, b < 6 → (Nat.ble 3 n && Nat.blt a n && Nat.blt b n && a != b) = true → kqb n a b < kqr n ∧ kqb n a b = kqb n b a := by decide +kernel
theorem kq_t1'' : ∀ n, n < 7 → ∀ a, a < 6 → ∀ b, b < 6 → (Nat.ble 3 n && Nat.blt a n && Nat.blt b n && a != b) = true → kqf n (kqb n a b) = min a b ∧ kqg n (kqb n a b) = max a b := by decide +kernel
theorem kq_t1 (n : Nat) (h7 : n < 7) (h3 : 3 ≤ n) (a : Nat) (ha : a < n) (b : Nat) (hb : b < n) (e : a ≠ b) : kqb n a b < kqr n ∧ kqb n a b = kqb n b a ∧ kqf n (kqb n a b) = min a b ∧ kqg n (kqb n a b) = max a b := ⟨(kq_t1' n h7 a (by omega) b (by omega) (by simp [h3, ha, hb, e])).1, (kq_t1' n h7 a (by omega) b (by omega) (by simp [h3, ha, hb, e])).2, (kq_t1'' n h7 a (by omega) b (by omega) (by simp [h3, ha, hb, e])).1, (kq_t1'' n h7 a (by omega) b (by omega) (by simp [h3, ha, hb, e])).2⟩
theorem kq_t2 : ∀ n, n < 7 → 3 ≤ n → ∀ i, i < kqr n → kqf n i < kqg n i ∧ kqg n i < n ∧ kqb n (kqf n i) (kqg n i) = i := by decide +kernel
theorem kq_t3 : ∀ n, n < 7 → 3 ≤ n → kqr n ≤ 15 ∧ kqu n 0 1 = kqr n := by decide +kernel
theorem kq_t4 : ∀ n, n < 7 → ∀ a, a < 6 → (3 ≤ n ∧ a < n) → kqu n a n = kqu n (a + 1) (a + 2) := by decide +kernel
theorem kq_t5 : ∀ n, n < 7 → ∀ a, a < 6 → ∀ b, b < 6 → (3 ≤ n ∧ a < b ∧ b < n) → kqu n a (b + 1) + 1 = kqu n a b ∧ kqb n a b + 1 = kqu n a b := by decide +kernel
def kqe (n c a b : Nat) : Bool := a != b && c.testBit (kqb n a b)
theorem kqe_d : kqe n c a a = false := by unfold kqe; simp
theorem kqe_t (h : a ≠ b) : kqe n c a b = c.testBit (kqb n a b) := by unfold kqe; simp [h]
theorem kqe_sy (h7 : n < 7) (h3 : 3 ≤ n) (ha : a < n) (hb : b < n) : kqe n c a b = kqe n c b a := by
  by_cases e : a = b
  · rw [e]
  · rw [kqe_t e, kqe_t (fun z => e z.symm), (kq_t1 n h7 h3 a ha b hb e).2.1]
/-- the code of the graph whose link i is the link l(i) of c's -/
def kqp (n c : Nat) (l : List Nat) : Nat := kqm (kqr n) (fun i => kqe n c (kqa l (kqf n i)) (kqa l (kqg n i)))
theorem kqp_lt : kqp n c l < 2 ^ kqr n := kqm_lt _
theorem kqp_e (h7 : n < 7) (h3 : 3 ≤ n) (h : kqP n l) (ha : a < n) (hb : b < n) : kqe n (kqp n c l) a b = kqe n c (kqa l a) (kqa l b) := by
  by_cases e : a = b
  · rw [e, kqe_d, kqe_d]
  · obtain ⟨t1, t2, t3, t4⟩ := kq_t1 n h7 h3 a ha b hb e
    rw [kqe_t e]
    unfold kqp
    rw [kqm_tb, decide_eq_true t1, Bool.true_and, t3, t4]
    by_cases o : a < b
    · rw [Nat.min_eq_left (by omega), Nat.max_eq_right (by omega)]
    · rw [Nat.min_eq_right (by omega), Nat.max_eq_left (by omega)]
      exact kqe_sy h7 h3 (kqP_lt h hb) (kqP_lt h ha)
theorem kqp_c (h7 : n < 7) (h3 : 3 ≤ n) (h : kqP n l) (hq : kqP n q) : kqp n (kqp n c l) q = kqp n c (q.map (kqa l)) := by
  unfold kqp
  refine kqm_cg fun i hi => ?_
  obtain ⟨t1, t2, -⟩ := kq_t2 n h7 h3 i hi
  have := kqp_e (c := c) h7 h3 h (kqP_lt hq (show kqf n i < n by omega)) (kqP_lt hq t2)
  unfold kqp at this
  rw [this, kqa_c hq (by omega), kqa_c hq t2]
end JOS
