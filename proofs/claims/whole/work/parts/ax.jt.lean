/-! ===== jt: kinds: the list ===== -/
section JTS
variable {n k a b i j c d m : Nat} {l q : List Nat}
def kqv (x1 x2 x3 x4 x5 : Bool) : Nat := 16 * x1.toNat + 8 * x2.toNat + 4 * x3.toNat + 2 * x4.toNat + x5.toNat
theorem kq_v6 : ∀ x1 x2 x3 x4 x5 : Bool, 2 ≤ x1.toNat + x2.toNat + x3.toNat + x4.toNat + x5.toNat → kqv x2 x1 x3 x4 x5 ≤ kqv x1 x2 x3 x4 x5 → kqv x1 x3 x2 x4 x5 ≤ kqv x1 x2 x3 x4 x5 → kqv x1 x2 x4 x3 x5 ≤ kqv x1 x2 x3 x4 x5 → kqv x1 x2 x3 x5 x4 ≤ kqv x1 x2 x3 x4 x5 → (Nat.beq (kqv x1 x2 x3 x4 x5) 24 || Nat.beq (kqv x1 x2 x3 x4 x5) 28 || Nat.beq (kqv x1 x2 x3 x4 x5) 30 || Nat.beq (kqv x1 x2 x3 x4 x5) 31) = true := by decide
theorem kq_sh (f : Nat → Bool) : (kqm 15 f) >>> 10 = kqv (f 14) (f 13) (f 12) (f 11) (f 10) := by
  have e : (kqm 15 f) >>> 10 = kqm 5 (fun i => f (10 + i)) := by
    apply Nat.eq_of_testBit_eq
    intro i
    rw [Nat.testBit_shiftRight, kqm_tb, kqm_tb]
    congr 1
    rw [Bool.eq_iff_iff, decide_eq_true_eq, decide_eq_true_eq]; omega
  rw [e]
  unfold kqv
  simp only [kqm]
  cases f 14 <;> cases f 13 <;> cases f 12 <;> cases f 11 <;> cases f 10 <;> rfl
theorem kqG_6 (hG : kqG 6 c) (hi : i < 5) : kqml (kqL6 i) c ≤ c := by
  rw [← kqL6_m hi]
  exact hG _ (List.isPerm_iff.mp (kqj_p 6 (by omega) i hi (by simp; omega)))
theorem kq_le10 (h : c ≤ d) : c >>> 10 ≤ d >>> 10 := by
  rw [Nat.shiftRight_eq_div_pow, Nat.shiftRight_eq_div_pow]; exact Nat.div_le_div_right h
theorem kqh_6 (hc : c < 2 ^ 15) (hd : ∀ a, a < 6 → 2 ≤ kqd 6 c a) (hG : kqG 6 c) : kqh6 c = true := by
  have e0 : c >>> 10 = kqv (c.testBit 14) (c.testBit 13) (c.testBit 12) (c.testBit 11) (c.testBit 10) := by
    have := kq_sh c.testBit
    rw [kqm_bt hc] at this; exact this
  have es : ∀ i, i < 5 → (kqml (kqL6 i) c) >>> 10 ≤ c >>> 10 := fun i hi => kq_le10 (kqG_6 hG hi)
  have t1 := es 1 (by omega)
  have t2 := es 2 (by omega)
  have t3 := es 3 (by omega)
  have t4 := es 4 (by omega)
  rw [kqml_m, e0] at t1 t2 t3 t4
  have s1 := kq_sh (fun i => c.testBit ((kqL6 1).getD i 0))
  have s2 := kq_sh (fun i => c.testBit ((kqL6 2).getD i 0))
  have s3 := kq_sh (fun i => c.testBit ((kqL6 3).getD i 0))
  have s4 := kq_sh (fun i => c.testBit ((kqL6 4).getD i 0))
  rw [show (kqL6 1).length = 15 from rfl, s1] at t1
  rw [show (kqL6 2).length = 15 from rfl, s2] at t2
  rw [show (kqL6 3).length = 15 from rfl, s3] at t3
  rw [show (kqL6 4).length = 15 from rfl, s4] at t4
  have d0 := hd 0 (by omega)
  simp [kqd, kqs, kqe, kqb, kqu, kqr] at d0
  have p := kq_v6 (c.testBit 14) (c.testBit 13) (c.testBit 12) (c.testBit 11) (c.testBit 10) d0 t1 t2 t3 t4
  rw [← e0] at p
  unfold kqh6
  have p2 : (Nat.beq (Nat.shiftRight c 10) 24 || Nat.beq (Nat.shiftRight c 10) 28 || Nat.beq (Nat.shiftRight c 10) 30 || Nat.beq (Nat.shiftRight c 10) 31) = true := p
  rw [p2, cond_true]
  have pd : kqD6.all (fun L => Nat.ble 2 (kqcb L c)) = true := by
    rw [List.all_eq_true]
    intro L hL
    obtain ⟨a, ha, e⟩ := kqD6_d (c := c) L hL
    have := hd a ha
    rw [e] at this
    exact Nat.ble_eq.mpr this
  rw [pd, cond_true, List.all_eq_true]
  intro i hi
  exact Nat.ble_eq.mpr (kqG_6 hG (List.mem_range.mp hi))
theorem kqh_k (h7 : n < 7) (h3 : 3 ≤ n) (hc : c < 2 ^ kqr n) (h : kqK n j c) : kqh n c = true := by
  obtain ⟨⟨hd, -⟩, -, hG⟩ := h
  unfold kqh
  by_cases e : n = 6
  · subst e
    exact kqh_6 hc hd hG
  · have : Nat.beq n 6 = false := by
      cases z : Nat.beq n 6 with
      | false => rfl
      | true => exact absurd (Nat.eq_of_beq_eq_true z) e
    rw [this, cond_false]
    unfold kqhg
    rw [List.all_eq_true]
    intro i hi
    have hi := List.mem_range.mp hi
    exact Nat.ble_eq.mpr (hG _ (List.isPerm_iff.mp (kqj_p n h7 i (by omega) (by simp; omega))))
/-- the kinds, falling -/
theorem kqL_ex (n j : Nat) : ∃ L : Nat → List Nat, L 0 = [] ∧ ∀ m, (kqK n j (2 ^ kqr n - 1 - m) → L (m + 1) = L m ++ [2 ^ kqr n - 1 - m]) ∧ (¬ kqK n j (2 ^ kqr n - 1 - m) → L (m + 1) = L m) :=
  ⟨fun m => Nat.rec [] (fun m L => @ite _ (kqK n j (2 ^ kqr n - 1 - m)) (Classical.propDecidable _) (L ++ [2 ^ kqr n - 1 - m]) L) m, rfl, fun _ => ⟨fun h => if_pos h, fun h => if_neg h⟩⟩
variable {L : Nat → List Nat}
theorem kqL_m (h0 : L 0 = []) (hs : ∀ m, (kqK n j (2 ^ kqr n - 1 - m) → L (m + 1) = L m ++ [2 ^ kqr n - 1 - m]) ∧ (¬ kqK n j (2 ^ kqr n - 1 - m) → L (m + 1) = L m)) (hm : m ≤ 2 ^ kqr n) : c ∈ L m ↔ kqK n j c ∧ 2 ^ kqr n - m ≤ c ∧ c < 2 ^ kqr n := by
  induction m with
  | zero => rw [h0]; constructor
            · intro z; exact absurd z (by simp)
            · rintro ⟨-, z1, z2⟩; omega
  | succ m ih =>
    have ih := ih (by omega)
    by_cases e : kqK n j (2 ^ kqr n - 1 - m)
    · rw [(hs m).1 e, List.mem_append, ih, List.mem_singleton]
      constructor
      · rintro (⟨z1, z2, z3⟩ | z)
        · exact ⟨z1, by omega, z3⟩
        · rw [z]; exact ⟨e, by omega, by omega⟩
      · rintro ⟨z1, z2, z3⟩
        by_cases ec : c = 2 ^ kqr n - 1 - m
        · exact Or.inr ec
        · exact Or.inl ⟨z1, by omega, z3⟩
    · rw [(hs m).2 e, ih]
      constructor
      · rintro ⟨z1, z2, z3⟩; exact ⟨z1, by omega, z3⟩
      · rintro ⟨z1, z2, z3⟩
        by_cases ec : c = 2 ^ kqr n - 1 - m
        · rw [ec] at z1; exact absurd z1 e
        · exact ⟨z1, by omega, z3⟩
theorem kqL_n (h7 : n < 7) (h3 : 3 ≤ n) (h0 : L 0 = []) (hs : ∀ m, (kqK n j (2 ^ kqr n - 1 - m) → L (m + 1) = L m ++ [2 ^ kqr n - 1 - m]) ∧ (¬ kqK n j (2 ^ kqr n - 1 - m) → L (m + 1) = L m)) (hm : m ≤ 2 ^ kqr n) : (L m).length + kqlc (kqh n) 0 (2 ^ kqr n - m) ≤ 156 := by
  induction m with
  | zero =>
    rw [h0]
    have h1 := kqh_n n h7 h3
    rw [kqct_lc, Nat.zero_mul] at h1
    show 0 + kqlc (kqh n) 0 (2 ^ kqr n - 0) ≤ 156
    rw [Nat.sub_zero]; omega
  | succ m ih =>
    have ih := ih (by omega)
    have e : 2 ^ kqr n - m = (2 ^ kqr n - (m + 1)) + 1 := by omega
    rw [e] at ih
    have ih : (L m).length + (kqlc (kqh n) 0 (2 ^ kqr n - (m + 1)) + (kqh n (0 + (2 ^ kqr n - (m + 1)))).toNat) ≤ 156 := ih
    by_cases z : kqK n j (2 ^ kqr n - 1 - m)
    · rw [(hs m).1 z, List.length_append]
      have := kqh_k h7 h3 (show 2 ^ kqr n - 1 - m < 2 ^ kqr n by omega) z
      rw [show 0 + (2 ^ kqr n - (m + 1)) = 2 ^ kqr n - 1 - m by omega, this] at ih
      have t : true.toNat = 1 := rfl
      have u : [2 ^ kqr n - 1 - m].length = 1 := rfl
      omega
    · rw [(hs m).2 z]; omega
theorem kqL_156 (h7 : n < 7) (h3 : 3 ≤ n) (h0 : L 0 = []) (hs : ∀ m, (kqK n j (2 ^ kqr n - 1 - m) → L (m + 1) = L m ++ [2 ^ kqr n - 1 - m]) ∧ (¬ kqK n j (2 ^ kqr n - 1 - m) → L (m + 1) = L m)) (hm : m ≤ 2 ^ kqr n) : (L m).length ≤ 156 := by
  have := kqL_n h7 h3 h0 hs hm
  omega
theorem kqL_lt (h7 : n < 7) (h3 : 3 ≤ n) (h0 : L 0 = []) (hs : ∀ m, (kqK n j (2 ^ kqr n - 1 - m) → L (m + 1) = L m ++ [2 ^ kqr n - 1 - m]) ∧ (¬ kqK n j (2 ^ kqr n - 1 - m) → L (m + 1) = L m)) (hm : m < 2 ^ kqr n) (z : kqK n j (2 ^ kqr n - 1 - m)) : (L m).length < 156 := by
  have h1 := kqL_156 h7 h3 h0 hs (show m + 1 ≤ 2 ^ kqr n by omega)
  rw [(hs m).1 z, List.length_append] at h1
  have u : [2 ^ kqr n - 1 - m].length = 1 := rfl
  omega
end JTS
