/-! ===== jp: kinds: chains and their renumbering ===== -/
section JPS
variable {n k a b i j c r : Nat} {l q : List Nat}
def kqd (n c a : Nat) : Nat := kqs n fun b => (kqe n c a b).toNat
def kqk (n : Nat) (S : Nat → Bool) : Nat := kqs n fun a => (S a).toNat
def kqt (n c : Nat) (S : Nat → Bool) : Nat := kqs n fun a => if S a then kqs n (fun b => (S b && kqe n c a b).toNat) else 0
def kqn (n c a : Nat) : Nat := kqm n fun b => kqe n c a b
def kqR1 (n c : Nat) : Nat → Nat → Nat
  | 0, r => r
  | a + 1, r => if (kqR1 n c a r).testBit a then kqR1 n c a r ||| kqn n c a else kqR1 n c a r
def kqR (n c : Nat) : Nat → Nat
  | 0 => 1
  | k + 1 => kqR1 n c n (kqR n c k)
def kqC (n c : Nat) : Prop := (∀ a, a < n → 2 ≤ kqd n c a) ∧ kqR n c n = 2 ^ n - 1 ∧ ∀ S, 1 ≤ S → S < 2 ^ n - 1 → 2 ≤ kqk n S.testBit → kqt n c S.testBit ≤ 3 * kqk n S.testBit - 3
theorem kqn_tb : (kqn n c a).testBit i = (decide (i < n) && kqe n c a i) := kqm_tb _
theorem kqn_lt : kqn n c a < 2 ^ n := kqm_lt _
theorem kqR1_mo (h : r.testBit i = true) : (kqR1 n c k r).testBit i = true := by
  induction k with
  | zero => exact h
  | succ k ih => unfold kqR1; split
                 · rw [Nat.testBit_or, ih]; rfl
                 · exact ih
theorem kqR1_mm (h : (kqR1 n c k r).testBit i = true) (hj : k ≤ j) : (kqR1 n c j r).testBit i = true := by
  induction j with
  | zero => rw [show k = 0 by omega] at h; exact h
  | succ j ih =>
    by_cases e : k = j + 1
    · rw [e] at h; exact h
    · have := ih (by omega)
      unfold kqR1; split
      · rw [Nat.testBit_or, this]; rfl
      · exact this
theorem kqR1_lt (h : r < 2 ^ n) : kqR1 n c k r < 2 ^ n := by
  induction k with
  | zero => exact h
  | succ k ih => unfold kqR1; split
                 · exact Nat.or_lt_two_pow ih kqn_lt
                 · exact ih
theorem kqR_lt (hn : 0 < n) : kqR n c k < 2 ^ n := by
  induction k with
  | zero => exact Nat.one_lt_two_pow (by omega)
  | succ k ih => exact kqR1_lt ih
theorem kqR1_cl (h : kqR1 n c n r = r) (ha : a < n) (hb : b < n) (h1 : r.testBit a = true) (h2 : kqe n c a b = true) : r.testBit b = true := by
  have h3 : (kqR1 n c (a + 1) r).testBit b = true := by
    unfold kqR1
    rw [if_pos (kqR1_mo h1), Nat.testBit_or, kqn_tb, decide_eq_true hb, h2]
    simp
  have h4 := kqR1_mm h3 (show a + 1 ≤ n by omega)
  rw [h] at h4; exact h4
theorem kqR1_gr (hr : r < 2 ^ n) (h : kqR1 n c n r ≠ r) : kqk n r.testBit < kqk n (kqR1 n c n r).testBit := by
  have ex : ∃ j, j < n ∧ r.testBit j = false ∧ (kqR1 n c n r).testBit j = true := by
    apply Classical.byContradiction
    intro hno
    apply h
    apply Nat.eq_of_testBit_eq
    intro i
    by_cases hi : i < n
    · cases e : r.testBit i with
      | true => exact kqR1_mo e
      | false =>
        cases e2 : (kqR1 n c n r).testBit i with
        | false => rfl
        | true => exact absurd ⟨i, hi, e, e2⟩ hno
    · rw [Nat.testBit_lt_two_pow (Nat.lt_of_lt_of_le hr (Nat.pow_le_pow_right (by omega) (by omega))), Nat.testBit_lt_two_pow (Nat.lt_of_lt_of_le (kqR1_lt hr) (Nat.pow_le_pow_right (by omega) (by omega)))]
  obtain ⟨j, hj, e1, e2⟩ := ex
  unfold kqk
  refine kqs_lt (j := j) (fun i _ => ?_) hj (by rw [e1, e2]; decide)
  cases e : r.testBit i with
  | true => rw [kqR1_mo e]; exact Nat.le_refl _
  | false => exact Nat.zero_le _
theorem kqk_le (S : Nat → Bool) : kqk n S ≤ n := by
  induction n with
  | zero => exact Nat.le_refl _
  | succ n ih =>
    unfold kqk at ih
    have : (S n).toNat ≤ 1 := Bool.toNat_le _
    show kqs n (fun a => (S a).toNat) + (S n).toNat ≤ n + 1
    omega
theorem kqR_st (hn : 0 < n) : kqR1 n c n (kqR n c n) = kqR n c n := by
  have key : ∀ k, kqR1 n c n (kqR n c k) = kqR n c k ∨ k + 1 ≤ kqk n (kqR n c k).testBit := by
    intro k
    induction k with
    | zero =>
      right
      show 1 ≤ kqk n (1 : Nat).testBit
      have : kqs n (fun _ => 0) < kqs n (fun a => ((1 : Nat).testBit a).toNat) := kqs_lt (j := 0) (fun _ _ => Nat.zero_le _) hn (by decide)
      unfold kqk; omega
    | succ k ih =>
      by_cases e : kqR1 n c n (kqR n c k) = kqR n c k
      · left
        have e2 : kqR n c (k + 1) = kqR n c k := e
        rw [e2]; exact e
      · right
        have h1 := kqR1_gr (kqR_lt hn) e
        have h2 : k + 1 ≤ kqk n (kqR n c k).testBit := ih.resolve_left e
        show k + 1 + 1 ≤ kqk n (kqR1 n c n (kqR n c k)).testBit
        omega
  refine (key n).resolve_right fun z => ?_
  have := kqk_le (n := n) (kqR n c n).testBit
  omega
theorem kqR_0 : (kqR n c k).testBit 0 = true := by
  induction k with
  | zero => show (1 : Nat).testBit 0 = true; decide
  | succ k ih => exact kqR1_mo ih
theorem kqR_sub {S : Nat → Bool} (h0 : S 0 = true) (hc : ∀ a b, a < n → b < n → S a = true → kqe n c a b = true → S b = true) (k : Nat) : ∀ i, i < n → (kqR n c k).testBit i = true → S i = true := by
  have one : ∀ m r, m ≤ n → (∀ i, i < n → r.testBit i = true → S i = true) → ∀ i, i < n → (kqR1 n c m r).testBit i = true → S i = true := by
    intro m r hm hr
    induction m with
    | zero => exact hr
    | succ m ih =>
      have ih := ih (by omega)
      intro i hi
      unfold kqR1
      split
      · rename_i hm2
        rw [Nat.testBit_or, kqn_tb, decide_eq_true hi, Bool.true_and]
        intro z
        rcases (Bool.or_eq_true _ _).mp z with z | z
        · exact ih i hi z
        · exact hc m i (by omega) hi (ih m (by omega) hm2) z
      · exact ih i hi
  induction k with
  | zero =>
    intro i hi z
    have : i = 0 := by
      apply Classical.byContradiction
      intro hne
      have e : (1 : Nat).testBit i = false := Nat.testBit_lt_two_pow (Nat.one_lt_two_pow (by omega))
      have z2 : (1 : Nat).testBit i = true := z
      rw [e] at z2; exact absurd z2 (by decide)
    rw [this]; exact h0
  | succ k ih => exact one n _ (Nat.le_refl _) ih
theorem kqR_full (hn : 0 < n) : kqR n c n = 2 ^ n - 1 ↔ ∀ S : Nat → Bool, S 0 = true → (∀ a b, a < n → b < n → S a = true → kqe n c a b = true → S b = true) → ∀ a, a < n → S a = true := by
  constructor
  · intro h S h0 hc a ha
    refine kqR_sub h0 hc n a ha ?_
    rw [h, Nat.testBit_two_pow_sub_one, decide_eq_true ha]
  · intro h
    have h1 := h (kqR n c n).testBit kqR_0 fun a b ha hb s e => kqR1_cl (kqR_st hn) ha hb s e
    apply Nat.eq_of_testBit_eq
    intro i
    rw [Nat.testBit_two_pow_sub_one]
    by_cases hi : i < n
    · rw [h1 i hi, decide_eq_true hi]
    · rw [decide_eq_false hi, Nat.testBit_lt_two_pow (Nat.lt_of_lt_of_le (kqR_lt hn) (Nat.pow_le_pow_right (by omega) (by omega)))]
theorem kqd_p (h7 : n < 7) (h3 : 3 ≤ n) (h : kqP n l) (ha : a < n) : kqd n (kqp n c l) a = kqd n c (kqa l a) := by
  unfold kqd
  rw [← kqP_sum h (fun b => (kqe n c (kqa l a) b).toNat)]
  exact kqs_cg fun b hb => by rw [kqp_e h7 h3 h ha hb]
theorem kqk_cg {S T : Nat → Bool} (h : ∀ i, i < n → S i = T i) : kqk n S = kqk n T := kqs_cg fun i hi => by rw [h i hi]
theorem kqt_cg {S T : Nat → Bool} (h : ∀ i, i < n → S i = T i) : kqt n c S = kqt n c T := by
  refine kqs_cg fun i hi => ?_
  rw [h i hi, kqs_cg fun b hb => by rw [h b hb]]
theorem kqt_p (h7 : n < 7) (h3 : 3 ≤ n) (h : kqP n l) (S : Nat → Bool) : kqt n (kqp n c l) (fun a => S (kqa l a)) = kqt n c S := by
  unfold kqt
  rw [← kqP_sum h (fun a => if S a then kqs n (fun b => (S b && kqe n c a b).toNat) else 0)]
  refine kqs_cg fun a ha => ?_
  have : kqs n (fun b => (S (kqa l b) && kqe n (kqp n c l) a b).toNat) = kqs n (fun b => (S b && kqe n c (kqa l a) b).toNat) := by
    rw [← kqP_sum h (fun b => (S b && kqe n c (kqa l a) b).toNat)]
    exact kqs_cg fun b hb => by rw [kqp_e h7 h3 h ha hb]
  rw [this]
/-- no stiff part, by sets -/
theorem kqC_s (hC : kqC n c) (S : Nat → Bool) (h1 : ∃ a, a < n ∧ S a = true) (h2 : ∃ a, a < n ∧ S a = false) (hk : 2 ≤ kqk n S) : kqt n c S ≤ 3 * kqk n S - 3 := by
  have hb : ∀ i, i < n → (kqm n S).testBit i = S i := fun i hi => by rw [kqm_tb, decide_eq_true hi, Bool.true_and]
  rw [← kqt_cg hb, ← kqk_cg hb]
  rw [← kqk_cg hb] at hk
  obtain ⟨a, ha, e⟩ := h1
  obtain ⟨b, hb2, e2⟩ := h2
  have p1 : 1 ≤ kqm n S := by
    apply Classical.byContradiction
    intro z
    have z2 : kqm n S = 0 := by omega
    have := hb a ha
    rw [z2, e, Nat.zero_testBit] at this
    exact absurd this (by decide)
  have p2 : kqm n S < 2 ^ n - 1 := by
    have l1 := kqm_lt (k := n) S
    apply Classical.byContradiction
    intro z
    have z2 : kqm n S = 2 ^ n - 1 := by omega
    have := hb b hb2
    rw [z2, e2, Nat.testBit_two_pow_sub_one, decide_eq_true hb2] at this
    exact absurd this (by decide)
  exact hC.2.2 _ p1 p2 hk
theorem kqC_p (h7 : n < 7) (h3 : 3 ≤ n) (h : kqP n l) (hC : kqC n c) : kqC n (kqp n c l) := by
  have hn : 0 < n := by omega
  refine ⟨fun a ha => ?_, ?_, fun S s1 s2 s3 => ?_⟩
  · rw [kqd_p h7 h3 h ha]; exact hC.1 _ (kqP_lt h ha)
  · have hc := (kqR_full hn).mp hC.2.1
    rw [kqR_full hn]
    intro S h0 hcl a ha
    have cl : ∀ x y, x < n → y < n → S (l.idxOf x) = true → kqe n c x y = true → S (l.idxOf y) = true := by
      intro x y hx hy sx e
      obtain ⟨x', hx', ex⟩ := kqP_sur h hx
      obtain ⟨y', hy', ey⟩ := kqP_sur h hy
      rw [← ex, kqP_ix h hx'] at sx
      rw [← ey, kqP_ix h hy']
      refine hcl x' y' hx' hy' sx ?_
      rw [kqp_e h7 h3 h hx' hy', ex, ey]; exact e
    cases e0 : S (l.idxOf 0) with
    | true =>
      have := hc (fun x => S (l.idxOf x)) e0 cl (kqa l a) (kqP_lt h ha)
      rw [kqP_ix h ha] at this; exact this
    | false =>
      have := hc (fun x => !S (l.idxOf x)) (by rw [e0]; rfl) (by
        intro x y hx hy sx e
        cases ey : S (l.idxOf y) with
        | false => rfl
        | true =>
          have := cl y x hy hx ey (by rw [kqe_sy h7 h3 hy hx]; exact e)
          rw [this] at sx; exact absurd sx (by decide)) (kqa l 0) (kqP_lt h hn)
      rw [kqP_ix h hn, h0] at this
      exact absurd this (by decide)
  · have es : ∀ i, i < n → (fun a => (fun x => S.testBit (l.idxOf x)) (kqa l a)) i = S.testBit i := fun i hi => by
      show S.testBit (l.idxOf (kqa l i)) = _
      rw [kqP_ix h hi]
    have ek : kqk n S.testBit = kqk n (fun x => S.testBit (l.idxOf x)) := by
      rw [← kqk_cg es]
      exact kqP_sum h (fun x => (S.testBit (l.idxOf x)).toNat)
    have et : kqt n (kqp n c l) S.testBit = kqt n c (fun x => S.testBit (l.idxOf x)) := by
      rw [← kqt_cg es]
      exact kqt_p h7 h3 h (fun x => S.testBit (l.idxOf x))
    rw [et, ek]
    rw [ek] at s3
    refine kqC_s hC _ ?_ ?_ s3
    · apply Classical.byContradiction
      intro hno
      have z : S = 0 := by
        apply Nat.eq_of_testBit_eq
        intro i
        rw [Nat.zero_testBit]
        by_cases hi : i < n
        · cases e : S.testBit i with
          | false => rfl
          | true => exact absurd ⟨kqa l i, kqP_lt h hi, by rw [kqP_ix h hi]; exact e⟩ hno
        · exact Nat.testBit_lt_two_pow (Nat.lt_of_lt_of_le (show S < 2 ^ n by omega) (Nat.pow_le_pow_right (by omega) (by omega)))
      omega
    · apply Classical.byContradiction
      intro hno
      have z : S = 2 ^ n - 1 := by
        apply Nat.eq_of_testBit_eq
        intro i
        rw [Nat.testBit_two_pow_sub_one]
        by_cases hi : i < n
        · cases e : S.testBit i with
          | true => rw [decide_eq_true hi]
          | false => exact absurd ⟨kqa l i, kqP_lt h hi, by rw [kqP_ix h hi]; exact e⟩ hno
        · rw [decide_eq_false hi]
          exact Nat.testBit_lt_two_pow (Nat.lt_of_lt_of_le (show S < 2 ^ n by omega) (Nat.pow_le_pow_right (by omega) (by omega)))
      omega
end JPS
