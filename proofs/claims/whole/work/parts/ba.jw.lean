/-! ===== jw: kinds: the class's chain ===== -/
section JWS
variable {P : mx_P} {σ τ : mx_S} {S T : Nat → Nat → Prop} {n k a b i j c u κ r m : Nat}
theorem qf_Fz {SI : Nat → Nat → Prop} (h : qf SI q_no σ τ) (hs : ∀ q j, SI q j → S q j) : Fz S σ τ := ⟨h.1, h.2.1, ⟨h.2.2.1, h.2.2.2.1⟩, fun q j hq => ⟨h.2.2.2.2.1 q j fun z => hq (hs q j z), h.2.2.2.2.2 q j fun z => z⟩⟩
theorem kqs_x {f : Nat → Nat} (h : n ≤ m) (hz : ∀ i, n ≤ i → i < m → f i = 0) : kqs m f = kqs n f := by
  induction m with
  | zero => rw [show n = 0 by omega]
  | succ m ih =>
    by_cases e : n = m + 1
    · rw [e]
    · show kqs m f + f m = _
      rw [ih (by omega) (fun i h1 h2 => hz i h1 (by omega)), hz m (by omega) (by omega), Nat.add_zero]
theorem kqw_k (hn : n ≤ 15) {m : Nat} (hm : m < 2 ^ n) : kqw m = kqk n m.testBit := by
  unfold kqw kqk
  refine kqs_x hn fun i h1 _ => ?_
  rw [Nat.testBit_lt_two_pow (Nat.lt_of_lt_of_le hm (Nat.pow_le_pow_right (by omega) h1))]; rfl
theorem kqw_d (hn : n ≤ 15) : kqw (kqn n c a) = kqd n c a := by
  rw [kqw_k hn kqn_lt]
  unfold kqd kqk
  exact kqs_cg fun i hi => by rw [kqn_tb, decide_eq_true hi, Bool.true_and]
theorem kqw_s (hn : n ≤ 15) (S : Nat) : kqw (kqn n c a &&& S) = kqs n (fun b => (S.testBit b && kqe n c a b).toNat) := by
  rw [kqw_k hn (Nat.lt_of_le_of_lt Nat.and_le_left kqn_lt)]
  unfold kqk
  exact kqs_cg fun i hi => by rw [Nat.testBit_and, kqn_tb, decide_eq_true hi, Bool.true_and, Bool.and_comm]
/-- neighbours by the bits below i -/
def kqJ (n c i a : Nat) : Nat := kqm n fun b => kqe n c a b && decide (kqb n a b < i)
theorem kqJ_lt : kqJ n c i a < 2 ^ n := kqm_lt _
theorem kqJ_0 : kqJ n c 0 a = 0 := by
  apply Nat.eq_of_testBit_eq
  intro j
  unfold kqJ
  rw [kqm_tb, Nat.zero_testBit]; simp
theorem kqJ_e (h7 : n < 7) (h3 : 3 ≤ n) (ha : a < n) : kqJ n c (kqr n) a = kqn n c a := by
  refine kqm_cg fun b hb => ?_
  by_cases e : a = b
  · rw [e, kqe_d]; rfl
  · rw [decide_eq_true (kq_t1 n h7 h3 a ha b hb e).1, Bool.and_true]
theorem kqJ_n (h7 : n < 7) (h3 : 3 ≤ n) (hi : i < kqr n) (ha : a < n) (h : c.testBit i = false ∨ (a ≠ kqf n i ∧ a ≠ kqg n i)) : kqJ n c (i + 1) a = kqJ n c i a := by
  refine kqm_cg fun b hb => ?_
  by_cases e : a = b
  · rw [e, kqe_d]; rfl
  · obtain ⟨t1, t2, t3, t4⟩ := kq_t1 n h7 h3 a ha b hb e
    by_cases ei : kqb n a b = i
    · rcases h with h | h
      · rw [kqe_t e, ei, h]; rfl
      · rw [ei] at t3 t4
        omega
    · congr 1
      rw [Bool.eq_iff_iff, decide_eq_true_iff, decide_eq_true_iff]; omega
theorem kqJ_s (h7 : n < 7) (h3 : 3 ≤ n) (hi : i < kqr n) (hc : c.testBit i = true) (ha : a < n) (hj : j < n) (hne : a ≠ j) (he : kqb n a j = i) : kqJ n c (i + 1) a = kqJ n c i a ||| 2 ^ j := by
  apply Nat.eq_of_testBit_eq
  intro b
  unfold kqJ
  rw [Nat.testBit_or, kqm_tb, kqm_tb, Nat.testBit_two_pow]
  by_cases hb : b < n
  · rw [decide_eq_true hb, Bool.true_and, Bool.true_and]
    by_cases e : b = j
    · subst e
      rw [kqe_t hne, he, hc]
      simp
    · rw [decide_eq_false (show ¬ j = b from fun z => e z.symm), Bool.or_false]
      by_cases eab : a = b
      · rw [eab, kqe_d]; rfl
      · have : kqb n a b ≠ i := fun z => by
          rcases kqb_inj h7 h3 ha hb ha hj eab hne (z.trans he.symm) with ⟨-, z2⟩ | ⟨z1, z2⟩
          · exact e z2
          · exact hne z1
        congr 1
        rw [Bool.eq_iff_iff, decide_eq_true_iff, decide_eq_true_iff]; omega
  · rw [decide_eq_false hb, decide_eq_false (show ¬ j = b by omega)]; rfl
/-- the class's neighbours -/
def NB (κ n c i : Nat) (σ : mx_S) : Prop := ∀ a, a < n → mxI σ (κ + 5) a = q_n (kqJ n c i a)
def SNB (κ : Nat) (q _j : Nat) : Prop := q = κ + 5
theorem KT_f (h : KT κ n σ) (f : Fz (SNB κ) σ τ) : KT κ n τ := by
  obtain ⟨h1, h2, h3⟩ := h
  have g : ∀ q j, q ≠ κ + 5 → mxI τ q j = mxI σ q j := fun q j hq => f.gi hq
  refine ⟨(g _ _ (by omega)).trans h1, (g _ _ (by omega)).trans h2, fun i a1 a2 => ?_⟩
  rw [g _ _ (by omega), g _ _ (by omega), g _ _ (by omega), g _ _ (by omega)]
  exact h3 i a1 a2
theorem c_nb (hK : LyKd σ κ) (hb : mpb P ≤ κ) (h7 : n < 7) (h3 : 3 ≤ n) (hN : 20 < mpN P) (hT : KT κ n σ) (h0 : NB κ n c 0 σ) : ∃ σ', mx_lp (f_X6_isChain_L10 P κ (q_n c)) (mpN P) ((0 : Int32), σ) = some σ' ∧ NB κ n c (kqr n) σ' ∧ Fz (SNB κ) σ σ' := by
  have t0 := (kq_t3 n h7 h3).1
  obtain ⟨r, e, h1, h2⟩ := q_for (f_X6_isChain_L10 P κ (q_n c)) (fun i t => t.1 = q_n i ∧ NB κ n c i t.2 ∧ Fz (SNB κ) σ t.2) (fun r => NB κ n c (kqr n) r ∧ Fz (SNB κ) σ r) (kqr n)
    (by
      rintro i ⟨v, τ⟩ hi ⟨i1, i2, i3⟩
      dsimp only at i1 i2 i3
      subst i1
      have k0 := i3.Kd hK
      obtain ⟨T1, T2, T3⟩ := KT_f hT i3
      obtain ⟨f1, f2, -, -⟩ := T3 i (by omega) hi
      obtain ⟨t1, t2, t3⟩ := kq_t2 n h7 h3 i hi
      have t4 : kqb n (kqg n i) (kqf n i) = i := by rw [← (kq_t1 n h7 h3 (kqf n i) (by omega) (kqg n i) t2 (by omega)).2.1]; exact t3
      by_cases hc : c.testBit i = true
      · have e1 := kqJ_s h7 h3 hi hc (show kqf n i < n by omega) t2 (by omega) t3
        have e2 := kqJ_s h7 h3 hi hc t2 (show kqf n i < n by omega) (by omega) t4
        have sf := kb_1 ⟨kqf n i, by omega⟩
        have sg := kb_1 ⟨kqg n i, by omega⟩
        dsimp only at sf sg
        refine Or.inl ⟨(q_n (i + 1), mx_setI (mx_setI τ (κ + 5) (kqf n i) (q_n (kqJ n c (i + 1) (kqf n i)))) (κ + 5) (kqg n i) (q_n (kqJ n c (i + 1) (kqg n i)))), ?_, rfl, ?_, (i3.sI (show SNB κ (κ + 5) _ from rfl) _).sI (show SNB κ (κ + 5) _ from rfl) _⟩
        · show f_X6_isChain_B10 P κ (q_n c) (q_n i) τ = _
          unfold f_X6_isChain_B10
          rw [bd (ak_gI k0), T2, if_neg (qn_ge hi (by omega)), if_pos ((kb_tn (by omega)).mpr hc), bd (ak_r7 k0), bd (ak_r4 k0), bd (ak_g4 k0 (by omega)), f1, bd (ak_g7 k0 (by omega)), i2 _ (by omega), bd (ak_r5 k0), bd (ak_g5 k0 (by omega)), f2, sg, q_or, ← e1, bd (ak_s7 k0 hb (by omega) _)]
          have k1 : LyKd (mx_setI τ (κ + 5) (kqf n i) (q_n (kqJ n c (i + 1) (kqf n i)))) κ := k0
          rw [bd (ak_r7 k1), bd (ak_r5 k1), bd (ak_g5 k1 (by omega)), sI_n (by omega), f2, bd (ak_g7 k1 (by omega)), sI_n (by omega), i2 _ t2, bd (ak_r4 k1), bd (ak_g4 k1 (by omega)), sI_n (by omega), f1, sf, q_or, ← e2, bd (ak_s7 k1 hb (by omega) _)]
          unfold f_X6_isChain_D71_10
          rw [Option.bind_some, q_nS]
        · intro a ha
          dsimp only
          by_cases eg : a = kqg n i
          · subst eg; exact sI_e
          · rw [sI_n (by omega)]
            by_cases ef : a = kqf n i
            · subst ef; exact sI_e
            · rw [sI_n (by omega), i2 a ha, kqJ_n h7 h3 hi ha (Or.inr ⟨ef, eg⟩)]
      · refine Or.inl ⟨(q_n (i + 1), τ), ?_, rfl, ?_, i3⟩
        · show f_X6_isChain_B10 P κ (q_n c) (q_n i) τ = _
          unfold f_X6_isChain_B10
          rw [bd (ak_gI k0), T2, if_neg (qn_ge hi (by omega)), if_neg (fun z => hc ((kb_tn (by omega)).mp z))]
          unfold f_X6_isChain_D71_10
          rw [Option.bind_some, q_nS]
        · intro a ha
          rw [kqJ_n h7 h3 hi ha (Or.inl (by simpa using hc))]; exact i2 a ha)
    (by
      rintro ⟨v, τ⟩ ⟨i1, i2, i3⟩
      dsimp only at i1 i2 i3
      subst i1
      obtain ⟨T1, T2, T3⟩ := KT_f hT i3
      refine ⟨τ, ?_, i2, i3⟩
      show f_X6_isChain_B10 P κ (q_n c) (q_n (kqr n)) τ = _
      unfold f_X6_isChain_B10
      rw [bd (ak_gI (i3.Kd hK)), T2, if_pos ((q_nLe (by omega) (by omega)).mpr (Nat.le_refl _))])
    (kqr n) 0 ((0 : Int32), σ) (mpN P) (by omega) ⟨rfl, h0, Fz.rf⟩ (by omega)
  exact ⟨r, e, h1, h2⟩
theorem c_one (hK : LyKd σ κ) (h7 : n < 7) (h3 : 3 ≤ n) (hN : 20 < mpN P) (hl : mxI σ κ 2 = q_n n) (hn : ∀ a, a < n → mxI σ (κ + 5) a = q_n (kqn n c a)) : f_X6_isInOnePiece P κ σ = some (bI (decide (kqR n c n = 2 ^ n - 1)), σ) := by
  have inner : ∀ k r, mx_lp (f_X6_isInOnePiece_L14 P κ (q_n k)) (mpN P) (q_n r, (0 : Int32), σ) = some (q_n (kqR1 n c n r), σ) := fun k r =>
    lpT (fun a => (q_n (kqR1 n c a r), q_n a, σ)) n (fun a ha => by
      show f_X6_isInOnePiece_B14 P κ (q_n k) (q_n (kqR1 n c a r)) (q_n a) σ = _
      unfold f_X6_isInOnePiece_B14
      rw [bd (ak_gI hK), hl, if_neg (qn_ge ha (by omega))]
      by_cases e : (kqR1 n c a r).testBit a = true
      · rw [if_pos ((kb_tn (by omega)).mpr e), bd (ak_r7 hK), bd (ak_g7 hK (by omega)), hn a ha, q_or, Option.bind_some]
        unfold f_X6_isInOnePiece_D40_14
        rw [Option.bind_some, q_nS, show kqR1 n c (a + 1) r = kqR1 n c a r ||| kqn n c a from if_pos e]
      · rw [if_neg (fun z => e ((kb_tn (by omega)).mp z))]
        unfold f_X6_isInOnePiece_D40_14
        rw [Option.bind_some, q_nS, show kqR1 n c (a + 1) r = kqR1 n c a r from if_neg e]) (by
      show f_X6_isInOnePiece_B14 P κ (q_n k) (q_n (kqR1 n c n r)) (q_n n) σ = _
      unfold f_X6_isInOnePiece_B14
      rw [bd (ak_gI hK), hl, if_pos ((q_nLe (by omega) (by omega)).mpr (Nat.le_refl _))]) (by omega)
  have outer : mx_lp (f_X6_isInOnePiece_L4 P κ) (mpN P) ((1 : Int32), (0 : Int32), σ) = some (q_n (kqR n c n), σ) :=
    lpT (fun k => (q_n (kqR n c k), q_n k, σ)) n (fun k hk => by
      show f_X6_isInOnePiece_B4 P κ (q_n (kqR n c k)) (q_n k) σ = _
      unfold f_X6_isInOnePiece_B4
      rw [bd (ak_gI hK), hl, if_neg (qn_ge hk (by omega)), bd (inner k _)]
      dsimp only
      rw [Option.bind_some, q_nS]
      rfl) (by
      show f_X6_isInOnePiece_B4 P κ (q_n (kqR n c n)) (q_n n) σ = _
      unfold f_X6_isInOnePiece_B4
      rw [bd (ak_gI hK), hl, if_pos ((q_nLe (by omega) (by omega)).mpr (Nat.le_refl _))]) (by omega)
  have lt := kqR_lt (n := n) (c := c) (k := n) (by omega)
  have p7 : 2 ^ n ≤ 2 ^ 6 := Nat.pow_le_pow_right (by omega) (by omega)
  have e1 : ((1 : Int32) <<< (q_n n &&& 31)) - (1 : Int32) = q_n (2 ^ n - 1) := by
    have := kb_1 ⟨n, by omega⟩
    dsimp only at this
    rw [this]; exact nsub (b := 1) (by omega) (Nat.two_pow_pos n)
  unfold f_X6_isInOnePiece
  rw [bd outer]
  dsimp only
  rw [bd (ak_gI hK), hl, e1]
  by_cases e : kqR n c n = 2 ^ n - 1
  · rw [if_pos (by rw [e]), decide_eq_true e]; rfl
  · rw [if_neg (fun z => e ((q_nI (by omega) (by omega)).mp z)), decide_eq_false e]; rfl
end JWS
