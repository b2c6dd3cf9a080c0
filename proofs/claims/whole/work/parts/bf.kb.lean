/-! ===== kb: kinds: the reference's chain ===== -/
section KBS
variable {P : mx_P} {σ τ : mx_S} {n k a b i j c u x r m v : Nat} {l : List Nat}
theorem kqm_or (f : Nat → Bool) : kqm (k + 1) f = kqm k f ||| (if f k then 2 ^ k else 0) := by
  apply Nat.eq_of_testBit_eq
  intro i
  rw [Nat.testBit_or, kqm_tb, kqm_tb]
  by_cases e : f k = true
  · rw [if_pos e, Nat.testBit_two_pow]
    by_cases z : i = k
    · subst z; rw [e]; simp
    · rw [decide_eq_false (show ¬ k = i from fun y => z y.symm), Bool.or_false]
      congr 1
      rw [Bool.eq_iff_iff, decide_eq_true_iff, decide_eq_true_iff]; omega
  · rw [if_neg e, Nat.zero_testBit, Bool.or_false]
    by_cases z : i = k
    · subst z
      have : f i = false := by simpa using e
      rw [this, Bool.and_false, Bool.and_false]
    · congr 1
      rw [Bool.eq_iff_iff, decide_eq_true_iff, decide_eq_true_iff]; omega
theorem RC_0 {v : Int32} (h : RC m n c 0 σ) (hM : LyM σ m) (h7 : n < 7) (ha : a < n) (hb : b < n) (hne : a ≠ b) : ma_I σ (m + 63) 3 ((6 : Int32) * q_n a + q_n b) = some (q_n (kqe n c a b).toNat) := by
  rw [kx6', am_g93 hM (by omega), h a b ha hb hne (Nat.zero_le _)]
theorem r_deg (hM : LyM σ m) (h7 : n < 7) (h3 : 3 ≤ n) (hN : 20 < mpN P) (hR : RC m n c 0 σ) : (mx_lp (f_X12_isChain_L2 P m (q_n n)) (mpN P) ((0 : Int32), σ) = some (.inl σ) ∧ ¬ ∀ a, a < n → 2 ≤ kqd n c a) ∨ (mx_lp (f_X12_isChain_L2 P m (q_n n)) (mpN P) ((0 : Int32), σ) = some (.inr σ) ∧ ∀ a, a < n → 2 ≤ kqd n c a) := by
  have inner : ∀ a, a < n → mx_lp (f_X12_isChain_L12 P m (q_n n) (q_n a)) (mpN P) ((0 : Int32), (0 : Int32), σ) = some (q_n (kqd n c a), σ) := fun a ha =>
    lpT (fun b => (q_n (kqs b (fun b => (kqe n c a b).toNat)), q_n b, σ)) n (fun b hb => by
      show f_X12_isChain_B12 P m (q_n n) (q_n a) (q_n _) (q_n b) σ = _
      unfold f_X12_isChain_B12
      have hs : kqs (b + 1) (fun b => (kqe n c a b).toNat) = kqs b (fun b => (kqe n c a b).toNat) + (kqe n c a b).toNat := rfl
      have D : ∀ w : Int32, f_X12_isChain_D42_12 P m (q_n n) (q_n a) w (q_n b) σ = some (.inl (w, q_n (b + 1), σ)) := fun w => by
        unfold f_X12_isChain_D42_12; rw [Option.bind_some, q_nS]
      rw [if_neg (qn_ge hb (by omega)), hs]
      by_cases e : a = b
      · rw [if_pos (by rw [e]), D, e, kqe_d]; rfl
      · rw [if_neg (fun z => e ((q_nI (by omega) (by omega)).mp z).symm), bd (am_r93 hM), bd (RC_0 (v := 0) hR hM h7 ha hb e)]
        cases g : kqe n c a b with
        | true => rw [if_neg (show ¬ q_n true.toNat = 0 by decide), Option.bind_some, D, q_nS]; rfl
        | false => rw [if_pos (show q_n false.toNat = 0 by decide), D]; rfl) (by
      show f_X12_isChain_B12 P m (q_n n) (q_n a) (q_n _) (q_n n) σ = _
      unfold f_X12_isChain_B12
      rw [if_pos ((q_nLe (by omega) (by omega)).mpr (Nat.le_refl _))]
      rfl) (by omega)
  obtain ⟨r, e, hp⟩ := q_for (f_X12_isChain_L2 P m (q_n n)) (fun k t => t = (q_n k, σ) ∧ ∀ a, a < k → 2 ≤ kqd n c a) (fun r => (r = .inl σ ∧ ¬ ∀ a, a < n → 2 ≤ kqd n c a) ∨ (r = .inr σ ∧ ∀ a, a < n → 2 ≤ kqd n c a)) n
    (by
      rintro k t hk ⟨it, i2⟩
      subst it
      have dl : kqd n c k ≤ n := kqk_le (fun b => kqe n c k b)
      have pre : f_X12_isChain_L2 P m (q_n n) (q_n k, σ) = (if (2 : Int32) ≤ q_n (kqd n c k) then some (.inl (q_n (k + 1), σ)) else some (.inr (.inl σ))) := by
        show f_X12_isChain_B2 P m (q_n n) (q_n k) σ = _
        unfold f_X12_isChain_B2
        rw [if_neg (qn_ge hk (by omega)), bd (inner k hk)]
        dsimp only
        rw [Option.bind_some, q_nS]
      by_cases g : 2 ≤ kqd n c k
      · refine Or.inl ⟨(q_n (k + 1), σ), ?_, rfl, fun a ha => ?_⟩
        · rw [pre, if_pos (show (2 : Int32) ≤ q_n (kqd n c k) from (q_nLe (k := 2) (by omega) (by omega)).mpr g)]
        · by_cases e : a = k
          · rw [e]; exact g
          · exact i2 a (by omega)
      · refine Or.inr ⟨.inl σ, ?_, Or.inl ⟨rfl, fun z => g (z k hk)⟩⟩
        rw [pre, if_neg (show ¬ (2 : Int32) ≤ q_n (kqd n c k) from fun z => g ((q_nLe (k := 2) (by omega) (by omega)).mp z))])
    (by
      rintro t ⟨it, i2⟩
      subst it
      refine ⟨.inr σ, ?_, Or.inr ⟨rfl, i2⟩⟩
      show f_X12_isChain_B2 P m (q_n n) (q_n n) σ = _
      unfold f_X12_isChain_B2
      rw [if_pos ((q_nLe (by omega) (by omega)).mpr (Nat.le_refl _))])
    n 0 ((0 : Int32), σ) (mpN P) (by omega) ⟨rfl, fun a ha => by omega⟩ (by omega)
  rcases hp with ⟨hr, hx⟩ | ⟨hr, hx⟩
  · subst hr; exact Or.inl ⟨e, hx⟩
  · subst hr; exact Or.inr ⟨e, hx⟩
theorem r_rea (hM : LyM σ m) (h7 : n < 7) (h3 : 3 ≤ n) (hN : 20 < mpN P) (hR : RC m n c 0 σ) : mx_lp (f_X12_isChain_L65 P m (q_n n)) (mpN P) ((1 : Int32), (0 : Int32), σ) = some (q_n (kqR n c n), σ) := by
  have in1 : ∀ k a r, a < n → mx_lp (f_X12_isChain_L82 P m (q_n n) (q_n k) (q_n a)) (mpN P) (q_n r, (0 : Int32), σ) = some (q_n (if r.testBit a then r ||| kqn n c a else r), σ) := fun k a r ha => by
    have := lpT (b := f_X12_isChain_L82 P m (q_n n) (q_n k) (q_n a)) (r := (q_n (if r.testBit a then r ||| kqn n c a else r), σ)) (fu := mpN P) (fun b => (q_n (if r.testBit a then r ||| kqm b (fun b => kqe n c a b) else r), q_n b, σ)) n (fun b hb => by
      show f_X12_isChain_B82 P m (q_n n) (q_n k) (q_n a) (q_n _) (q_n b) σ = _
      unfold f_X12_isChain_B82
      have D : ∀ w : Int32, f_X12_isChain_D128_82 P m (q_n n) w (q_n k) (q_n a) (q_n b) σ = some (.inl (w, q_n (b + 1), σ)) := fun w => by
        unfold f_X12_isChain_D128_82; rw [Option.bind_some, q_nS]
      rw [if_neg (qn_ge hb (by omega)), kqm_or]
      by_cases e : a = b
      · rw [if_pos (by rw [e]), D, e, kqe_d, if_neg (show ¬ false = true by decide), Nat.or_zero]
      · rw [if_neg (fun z => e ((q_nI (by omega) (by omega)).mp z)), bd (am_r93 hM), bd (RC_0 (v := 0) hR hM h7 ha hb e)]
        cases g : kqe n c a b with
        | false => rw [if_pos (show q_n false.toNat = 0 by decide), D, if_neg (show ¬ false = true by decide), Nat.or_zero]
        | true =>
          rw [if_neg (show ¬ q_n true.toNat = 0 by decide), if_pos rfl]
          have ta : (if r.testBit a then r ||| kqm b (fun b => kqe n c a b) else r).testBit a = r.testBit a := by
            split
            · rename_i z
              rw [Nat.testBit_or, z]; rfl
            · rfl
          by_cases z : r.testBit a = true
          · have s1 := kb_1 ⟨b, by omega⟩
            dsimp only at s1
            rw [if_pos ((kb_tn (by omega)).mpr (by rw [ta]; exact z)), Option.bind_some, s1, D, if_pos z, if_pos z, q_or, Nat.or_assoc]
          · rw [if_neg (fun y => z (by rw [← ta]; exact (kb_tn (by omega)).mp y)), D, if_neg z, if_neg z]) (by
      show f_X12_isChain_B82 P m (q_n n) (q_n k) (q_n a) (q_n _) (q_n n) σ = _
      unfold f_X12_isChain_B82
      rw [if_pos ((q_nLe (by omega) (by omega)).mpr (Nat.le_refl _))]
      rfl) (by omega)
    rw [show kqm 0 (fun b => kqe n c a b) = 0 from rfl, Nat.or_zero, ite_self] at this
    exact this
  have in2 : ∀ k r, mx_lp (f_X12_isChain_L73 P m (q_n n) (q_n k)) (mpN P) (q_n r, (0 : Int32), σ) = some (q_n (kqR1 n c n r), σ) := fun k r =>
    lpT (fun a => (q_n (kqR1 n c a r), q_n a, σ)) n (fun a ha => by
      show f_X12_isChain_B73 P m (q_n n) (q_n k) (q_n (kqR1 n c a r)) (q_n a) σ = _
      unfold f_X12_isChain_B73
      rw [if_neg (qn_ge ha (by omega)), bd (in1 k a _ ha)]
      dsimp only
      rw [Option.bind_some, q_nS]
      rfl) (by
      show f_X12_isChain_B73 P m (q_n n) (q_n k) (q_n (kqR1 n c n r)) (q_n n) σ = _
      unfold f_X12_isChain_B73
      rw [if_pos ((q_nLe (by omega) (by omega)).mpr (Nat.le_refl _))]) (by omega)
  exact lpT (fun k => (q_n (kqR n c k), q_n k, σ)) n (fun k hk => by
      show f_X12_isChain_B65 P m (q_n n) (q_n (kqR n c k)) (q_n k) σ = _
      unfold f_X12_isChain_B65
      rw [if_neg (qn_ge hk (by omega)), bd (in2 k _)]
      dsimp only
      rw [Option.bind_some, q_nS]
      rfl) (by
      show f_X12_isChain_B65 P m (q_n n) (q_n (kqR n c n)) (q_n n) σ = _
      unfold f_X12_isChain_B65
      rw [if_pos ((q_nLe (by omega) (by omega)).mpr (Nat.le_refl _))]) (by omega)
theorem r_stf (hM : LyM σ m) (h7 : n < 7) (h3 : 3 ≤ n) (hN : 100 < mpN P) (hR : RC m n c 0 σ) : (mx_lp (f_X12_isChain_L159 P m (q_n n)) (mpN P) ((1 : Int32), σ) = some (.inl σ) ∧ ∃ S, 1 ≤ S ∧ S < 2 ^ n - 1 ∧ ¬ kqO n c S) ∨ (mx_lp (f_X12_isChain_L159 P m (q_n n)) (mpN P) ((1 : Int32), σ) = some (.inr σ) ∧ ∀ S, 1 ≤ S → S < 2 ^ n - 1 → kqO n c S) := by
  obtain ⟨e1, e64⟩ := kq_1n h7
  have p0 : 8 ≤ 2 ^ n := Nat.le_trans (show 8 ≤ 2 ^ 3 by omega) (Nat.pow_le_pow_right (by omega) h3)
  have in1 : ∀ S y k a, a < n → S.testBit a = true → mx_lp (f_X12_isChain_L201 P m (q_n n) (q_n S) (q_n k) (q_n a)) (mpN P) (q_n y, (0 : Int32), σ) = some (q_n (y + kqs a (fun b => (S.testBit b && kqe n c a b).toNat)), σ) := fun S y k a ha _ =>
    lpT (fun b => (q_n (y + kqs b (fun b => (S.testBit b && kqe n c a b).toNat)), q_n b, σ)) a (fun b hb => by
      show f_X12_isChain_B201 P m (q_n n) (q_n S) (q_n k) (q_n a) (q_n _) (q_n b) σ = _
      unfold f_X12_isChain_B201
      have hs : kqs (b + 1) (fun b => (S.testBit b && kqe n c a b).toNat) = kqs b (fun b => (S.testBit b && kqe n c a b).toNat) + (S.testBit b && kqe n c a b).toNat := rfl
      have D : ∀ w : Int32, f_X12_isChain_D237_201 P m (q_n n) (q_n S) (q_n k) w (q_n a) (q_n b) σ = some (.inl (w, q_n (b + 1), σ)) := fun w => by
        unfold f_X12_isChain_D237_201; rw [Option.bind_some, q_nS]
      rw [if_neg (qn_ge hb (by omega)), hs]
      cases e : S.testBit b with
      | false => rw [if_neg (fun z => by rw [(kb_tn (by omega)).mp z] at e; exact absurd e (by decide)), D, Bool.false_and]; rfl
      | true =>
        rw [if_pos ((kb_tn (by omega)).mpr e), bd (am_r93 hM), bd (RC_0 (v := 0) hR hM h7 ha (show b < n by omega) (by omega)), Bool.true_and]
        cases g : kqe n c a b with
        | true => rw [if_neg (show ¬ q_n true.toNat = 0 by decide), Option.bind_some, D, q_nS]; rfl
        | false => rw [if_pos (show q_n false.toNat = 0 by decide), D]; rfl) (by
      show f_X12_isChain_B201 P m (q_n n) (q_n S) (q_n k) (q_n a) (q_n _) (q_n a) σ = _
      unfold f_X12_isChain_B201
      rw [if_pos ((q_nLe (by omega) (by omega)).mpr (Nat.le_refl _))]) (by omega)
  have in2 : ∀ S, mx_lp (f_X12_isChain_L177 P m (q_n n) (q_n S)) (mpN P) ((0 : Int32), (0 : Int32), (0 : Int32), σ) = some (q_n (kqk n S.testBit), q_n (kqo n c S.testBit), σ) := fun S =>
    lpT (fun a => (q_n (kqs a (fun a => (S.testBit a).toNat)), q_n (kqs a (fun a => if S.testBit a then kqs a (fun b => (S.testBit b && kqe n c a b).toNat) else 0)), q_n a, σ)) n (fun a ha => by
      show f_X12_isChain_B177 P m (q_n n) (q_n S) (q_n _) (q_n _) (q_n a) σ = _
      unfold f_X12_isChain_B177
      have hs : kqs (a + 1) (fun a => (S.testBit a).toNat) = kqs a (fun a => (S.testBit a).toNat) + (S.testBit a).toNat := rfl
      have ht : kqs (a + 1) (fun a => if S.testBit a then kqs a (fun b => (S.testBit b && kqe n c a b).toNat) else 0) = kqs a (fun a => if S.testBit a then kqs a (fun b => (S.testBit b && kqe n c a b).toNat) else 0) + (if S.testBit a then kqs a (fun b => (S.testBit b && kqe n c a b).toNat) else 0) := rfl
      have D : ∀ w w' : Int32, f_X12_isChain_D243_177 P m (q_n n) (q_n S) w w' (q_n a) σ = some (.inl (w, w', q_n (a + 1), σ)) := fun w w' => by
        unfold f_X12_isChain_D243_177; rw [Option.bind_some, q_nS]
      rw [if_neg (qn_ge ha (by omega)), hs, ht]
      cases e : S.testBit a with
      | false => rw [if_pos ((kb_zn (by omega)).mpr e), D]; rfl
      | true =>
        rw [if_neg (fun z => by rw [(kb_zn (by omega)).mp z] at e; exact absurd e (by decide)), Option.bind_some, q_nS, bd (in1 S _ _ a ha e)]
        dsimp only
        rw [D]; rfl) (by
      show f_X12_isChain_B177 P m (q_n n) (q_n S) (q_n _) (q_n _) (q_n n) σ = _
      unfold f_X12_isChain_B177
      rw [if_pos ((q_nLe (by omega) (by omega)).mpr (Nat.le_refl _))]
      rfl) (by omega)
  obtain ⟨r, e, hp⟩ := q_for (f_X12_isChain_L159 P m (q_n n)) (fun k t => t = (q_n k, σ) ∧ 1 ≤ k ∧ ∀ S, 1 ≤ S → S < k → kqO n c S) (fun r => (r = .inl σ ∧ ∃ S, 1 ≤ S ∧ S < 2 ^ n - 1 ∧ ¬ kqO n c S) ∨ (r = .inr σ ∧ ∀ S, 1 ≤ S → S < 2 ^ n - 1 → kqO n c S)) (2 ^ n - 1)
    (by
      rintro k t hk ⟨it, i1, i2⟩
      subst it
      have kl := kqk_le (n := n) k.testBit
      have tl := kqt_b (n := n) (c := c) k.testBit
      have to := kqo_t (c := c) h7 h3 k.testBit
      have nn : n * n ≤ 36 := Nat.mul_le_mul (show n ≤ 6 by omega) (show n ≤ 6 by omega)
      have pre : f_X12_isChain_L159 P m (q_n n) (q_n k, σ) = (if q_n (kqk n k.testBit) ≤ (1 : Int32) then f_X12_isChain_D270_159 P m (q_n n) (q_n k) σ else (md_I (((3 : Int32) * q_n (kqk n k.testBit)) - (3 : Int32)) (2 : Int32)).bind fun x85 => (if q_n (kqo n c k.testBit) ≤ x85 then f_X12_isChain_D270_159 P m (q_n n) (q_n k) σ else some (.inr (.inl σ)))) := by
        show f_X12_isChain_B159 P m (q_n n) (q_n k) σ = _
        unfold f_X12_isChain_B159
        rw [e1, if_neg (qn_ge hk (by omega)), bd (in2 k)]
      have dd : f_X12_isChain_D270_159 P m (q_n n) (q_n k) σ = some (.inl (q_n (k + 1), σ)) := by
        unfold f_X12_isChain_D270_159
        rw [Option.bind_some, q_nS]
      have nx : kqO n c k → ∀ S, 1 ≤ S → S < k + 1 → kqO n c S := fun h S s1 s2 => by
        by_cases e : S = k
        · rw [e]; exact h
        · exact i2 S s1 (by omega)
      by_cases g : kqk n k.testBit < 2
      · refine Or.inl ⟨(q_n (k + 1), σ), ?_, rfl, by omega, nx fun z => by omega⟩
        rw [pre, if_pos (show q_n (kqk n k.testBit) ≤ (1 : Int32) from (q_nLe (l := 1) (by omega) (by omega)).mpr (by omega)), dd]
      · have ng : ¬ q_n (kqk n k.testBit) ≤ (1 : Int32) := fun z => by have := (q_nLe (l := 1) (by omega) (by omega)).mp z; omega
        rw [if_neg ng, kx_33 (by omega) (by omega), bd (show md_I (q_n (3 * kqk n k.testBit - 3)) (2 : Int32) = some (q_n ((3 * kqk n k.testBit - 3) / 2)) from k_md (b := 2) (by omega) (by omega) (by omega))] at pre
        by_cases h : kqt n c k.testBit ≤ 3 * kqk n k.testBit - 3
        · refine Or.inl ⟨(q_n (k + 1), σ), ?_, rfl, by omega, nx fun _ => h⟩
          rw [pre, if_pos ((q_nLe (by omega) (by omega)).mpr (by omega)), dd]
        · refine Or.inr ⟨.inl σ, ?_, Or.inl ⟨rfl, k, i1, hk, fun z => h (z (by omega))⟩⟩
          rw [pre, if_neg (fun z => h (by have := (q_nLe (by omega) (by omega)).mp z; omega))])
    (by
      rintro t ⟨it, i1, i2⟩
      subst it
      refine ⟨.inr σ, ?_, Or.inr ⟨rfl, i2⟩⟩
      show f_X12_isChain_B159 P m (q_n n) (q_n (2 ^ n - 1)) σ = _
      unfold f_X12_isChain_B159
      rw [e1, if_pos ((q_nLe (by omega) (by omega)).mpr (Nat.le_refl _))])
    (2 ^ n - 2) 1 (q_n 1, σ) (mpN P) (by omega) ⟨rfl, by omega, fun S s1 s2 => by omega⟩ (by omega)
  have e : mx_lp (f_X12_isChain_L159 P m (q_n n)) (mpN P) ((1 : Int32), σ) = some r := e
  rcases hp with ⟨hr, hx⟩ | ⟨hr, hx⟩
  · subst hr; exact Or.inl ⟨e, hx⟩
  · subst hr; exact Or.inr ⟨e, hx⟩
theorem r_isc (hM : LyM σ m) (h7 : n < 7) (h3 : 3 ≤ n) (hN : 100 < mpN P) (hR : RC m n c 0 σ) : (f_X12_isChain P m (q_n n) σ = some (0, σ) ∧ ¬ kqC n c) ∨ (f_X12_isChain P m (q_n n) σ = some (1, σ) ∧ kqC n c) := by
  obtain ⟨e1, e64⟩ := kq_1n h7
  unfold f_X12_isChain
  rcases r_deg (P := P) hM h7 h3 (by omega) hR with ⟨e, hx⟩ | ⟨e, hx⟩
  · rw [bd e]; exact Or.inl ⟨rfl, fun z => hx z.1⟩
  · rw [bd e]
    dsimp only [Sum.elim_inr]
    rw [bd (r_rea (P := P) hM h7 h3 (by omega) hR)]
    dsimp only
    rw [e1]
    have lt := kqR_lt (n := n) (c := c) (k := n) (by omega)
    by_cases g : kqR n c n = 2 ^ n - 1
    · rw [if_pos (by rw [g])]
      rcases r_stf (P := P) hM h7 h3 hN hR with ⟨e4, S, s1, s2, s3⟩ | ⟨e4, h4⟩
      · rw [bd e4]; exact Or.inl ⟨rfl, fun z => s3 (z.2.2 S s1 s2)⟩
      · rw [bd e4]; exact Or.inr ⟨rfl, hx, g, h4⟩
    · rw [if_neg (fun z => g ((q_nI (by omega) (by omega)).mp z))]
      exact Or.inl ⟨rfl, fun z => g z.2.1⟩
end KBS
