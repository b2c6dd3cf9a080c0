/-! ===== jr: kinds: all rows ===== -/
section JRS
variable {n k a b i j c d m : Nat} {l q : List Nat}
def kqA (n : Nat) : Nat → List (List Nat)
  | 0 => [[]]
  | k + 1 => (kqA n k).flatMap fun p => ((List.range n).filter fun v => !p.contains v).map fun v => p ++ [v]
theorem kqA_m (hn : l.Nodup) (hl : ∀ v, v ∈ l → v < n) (e : l.length = k) : l ∈ kqA n k := by
  induction k generalizing l with
  | zero => rw [List.length_eq_zero_iff] at e; rw [e]; exact List.mem_singleton.mpr rfl
  | succ k ih =>
    have hne : l ≠ [] := fun z => by rw [z] at e; exact absurd e (by simp)
    have sp := List.dropLast_concat_getLast hne
    have nd : (l.dropLast ++ [l.getLast hne]).Nodup := by rw [sp]; exact hn
    have nd2 := List.nodup_append.mp nd
    have m1 : l.dropLast ∈ kqA n k := ih nd2.1 (fun v hv => hl v ((List.dropLast_subset l) hv)) (by rw [List.length_dropLast]; omega)
    unfold kqA
    rw [List.mem_flatMap]
    refine ⟨l.dropLast, m1, ?_⟩
    rw [List.mem_map]
    refine ⟨l.getLast hne, ?_, sp⟩
    rw [List.mem_filter]
    refine ⟨List.mem_range.mpr (hl _ (List.getLast_mem hne)), ?_⟩
    simp only [List.contains_eq_mem, Bool.not_eq_true', decide_eq_false_iff_not]
    intro z
    exact nd2.2.2 _ z _ (List.mem_singleton.mpr rfl) rfl
theorem kqA_a : ∀ n, n < 7 → 3 ≤ n → (kqA n n).all (fun l => l.isPerm (List.range n)) = true := by decide +kernel
theorem kqA_iff (h7 : n < 7) (h3 : 3 ≤ n) : l ∈ kqA n n ↔ kqP n l := by
  constructor
  · intro h
    exact List.isPerm_iff.mp (List.all_eq_true.mp (kqA_a n h7 h3) l h)
  · intro h
    exact kqA_m (kqP_nd h) (fun v hv => List.mem_range.mp ((List.Perm.mem_iff h).mp hv)) (kqP_len h)
/-- the next row -/
def kqx (l : List Nat) (a b : Nat) : List Nat := (l.set a (kqa l b)).set b (kqa l a)
def kqNi (l : List Nat) : Nat → Nat
  | 0 => 0
  | i + 1 => bif Nat.blt (kqa l (i + 1)) (kqa l i) then kqNi l i else i + 1
def kqNj (l : List Nat) (v : Nat) : Nat → Nat
  | 0 => 0
  | j + 1 => bif Nat.blt (kqa l (j + 1)) v then kqNj l v j else j + 1
def kqV : Nat → List Nat → Nat → Nat → List Nat
  | 0, l, _, _ => l
  | k + 1, l, a, b => bif Nat.blt a b then kqV k (kqx l a b) (a + 1) (b - 1) else l
/-- row after l where i is one more than its place -/
def kqN (n : Nat) (l : List Nat) : List Nat := kqV n (kqx l (kqNi l (n - 1) - 1) (kqNj l (kqa l (kqNi l (n - 1) - 1)) (n - 1))) (kqNi l (n - 1)) (n - 1)
def kqck (n : Nat) : List (List Nat) → Bool
  | [] => false
  | [l] => kqNi l (n - 1) == 0
  | l :: m :: r => bif (kqNi l (n - 1) != 0 && kqN n l == m) then kqck n (m :: r) else false
theorem kqck_a : ∀ n, n < 7 → 3 ≤ n → kqck n (kqA n n) = true := by decide +kernel
theorem kqck_h : ∀ n, n < 7 → 3 ≤ n → (kqA n n).head? = some (List.range n) := by decide +kernel
/-- the row with a number -/
def kqW (n : Nat) : Nat → Nat → List Nat × Nat
  | 0, r => (List.range n, r)
  | k + 1, r => (kqx (kqW n k r).1 (k + 1) ((kqW n k r).2 % (k + 2)), (kqW n k r).2 / (k + 2))
def kqWs (n m : Nat) : List Nat := (kqW n (n - 1) m).1
def kqfa : Nat → Nat
  | 0 => 1
  | n + 1 => (n + 1) * kqfa n
def kqWi : Nat → List Nat → Nat
  | 0, _ => 0
  | k + 1, l => l.idxOf (k + 1) * kqfa (k + 1) + kqWi k (kqx l (k + 1) (l.idxOf (k + 1)))
theorem kqW_a : ∀ n, n < 7 → 3 ≤ n → ∀ m, m < kqfa n → (kqWs n m).isPerm (List.range n) = true := by decide +kernel
theorem kqW_b : ∀ n, n < 7 → 3 ≤ n → (kqA n n).all (fun l => Nat.blt (kqWi (n - 1) l) (kqfa n) && kqWs n (kqWi (n - 1) l) == l) = true := by decide +kernel
theorem kqW_p (h7 : n < 7) (h3 : 3 ≤ n) (hm : m < kqfa n) : kqP n (kqWs n m) := List.isPerm_iff.mp (kqW_a n h7 h3 m hm)
theorem kqW_s (h7 : n < 7) (h3 : 3 ≤ n) (h : kqP n l) : ∃ m, m < kqfa n ∧ kqWs n m = l := by
  have := List.all_eq_true.mp (kqW_b n h7 h3) l ((kqA_iff h7 h3).mpr h)
  rw [Bool.and_eq_true] at this
  exact ⟨_, by simpa using this.1, by simpa using this.2⟩
end JRS
