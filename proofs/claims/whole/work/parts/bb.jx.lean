/-! ===== jx: kinds: the class's chain, whole ===== -/
section JXS
variable {P : mx_P} {σ τ : mx_S} {n k a b i j c u κ r m : Nat}
def kqO (n c S : Nat) : Prop := 2 ≤ kqk n S.testBit → kqt n c S.testBit ≤ 3 * kqk n S.testBit - 3
theorem kq_1n (h7 : n < 7) : ((1 : Int32) <<< (q_n n &&& 31)) - (1 : Int32) = q_n (2 ^ n - 1) ∧ 2 ^ n ≤ 64 := by
  have p7 : 2 ^ n ≤ 2 ^ 6 := Nat.pow_le_pow_right (by omega) (by omega)
  have := kb_1 ⟨n, by omega⟩
  dsimp only at this
  rw [this]; exact ⟨nsub (b := 1) (by omega) (Nat.two_pow_pos n), by omega⟩
theorem kx_33 (h : 1 ≤ k) (hk : k < 1000) : (3 : Int32) * q_n k - (3 : Int32) = q_n (3 * k - 3) := by
  have e : (3 : Int32) * q_n k = q_n (3 * k) := (Int32.ofNat_mul 3 k).symm
  rw [e]; exact nsub (b := 3) (by omega) (by omega)
theorem kx_ad (u v : Nat) : q_n u + q_n v = q_n (u + v) := (Int32.ofNat_add u v).symm
theorem kqt_b (S : Nat → Bool) : kqt n c S ≤ n * n := by
  have h : ∀ m, kqs m (fun a => if S a then kqs n (fun b => (S b && kqe n c a b).toNat) else 0) ≤ m * n := by
    intro m
    induction m with
    | zero => exact Nat.zero_le _
    | succ m ih =>
      have h1 : (if S m then kqs n (fun b => (S b && kqe n c m b).toNat) else 0) ≤ n := by
        split
        · exact kqk_le (fun b => S b && kqe n c m b)
        · exact Nat.zero_le _
      rw [Nat.succ_mul]
      exact Nat.add_le_add ih h1
  exact h n
theorem c_stf (hK : LyKd σ κ) (h7 : n < 7) (h3 : 3 ≤ n) (hN : 100 < mpN P) (hl : mxI σ κ 2 = q_n n) (hn : ∀ a, a < n → mxI σ (κ + 5) a = q_n (kqn n c a)) : (f_X6_hasStiffPart P κ σ = some (0, σ) ∧ ∀ S, 1 ≤ S → S < 2 ^ n - 1 → kqO n c S) ∨ (f_X6_hasStiffPart P κ σ = some (1, σ) ∧ ∃ S, 1 ≤ S ∧ S < 2 ^ n - 1 ∧ ¬ kqO n c S) := by
  obtain ⟨e1, e64⟩ := kq_1n h7
  have inner : ∀ S, S < 64 → mx_lp (f_X6_hasStiffPart_L18 P κ (q_n S)) (mpN P) ((0 : Int32), (0 : Int32), σ) = some (q_n (kqt n c S.testBit), σ) := fun S hS =>
    lpT (fun a => (q_n (kqs a (fun a => if S.testBit a then kqs n (fun b => (S.testBit b && kqe n c a b).toNat) else 0)), q_n a, σ)) n (fun a ha => by
      show f_X6_hasStiffPart_B18 P κ (q_n S) (q_n _) (q_n a) σ = _
      unfold f_X6_hasStiffPart_B18
      rw [bd (ak_gI hK), hl, if_neg (qn_ge ha (by omega))]
      have hs : kqs (a + 1) (fun a => if S.testBit a then kqs n (fun b => (S.testBit b && kqe n c a b).toNat) else 0) = kqs a (fun a => if S.testBit a then kqs n (fun b => (S.testBit b && kqe n c a b).toNat) else 0) + (if S.testBit a then kqs n (fun b => (S.testBit b && kqe n c a b).toNat) else 0) := rfl
      by_cases e : S.testBit a = true
      · have lt : kqn n c a &&& S < 32768 := Nat.lt_of_le_of_lt Nat.and_le_right (by omega)
        rw [if_pos e] at hs
        rw [if_pos ((kb_tn (by omega)).mpr e), bd (ak_r7 hK), bd (ak_g7 hK (by omega)), hn a ha, q_and, bd2 (kb_bc lt), kqw_s (by omega), Option.bind_some]
        unfold f_X6_hasStiffPart_D49_18
        rw [Option.bind_some, q_nS]
        rw [kx_ad, ← hs]
      · rw [if_neg e] at hs
        rw [if_neg (fun z => e ((kb_tn (by omega)).mp z))]
        unfold f_X6_hasStiffPart_D49_18
        rw [Option.bind_some, q_nS]
        rw [hs]
        rfl) (by
      show f_X6_hasStiffPart_B18 P κ (q_n S) (q_n _) (q_n n) σ = _
      unfold f_X6_hasStiffPart_B18
      rw [bd (ak_gI hK), hl, if_pos ((q_nLe (by omega) (by omega)).mpr (Nat.le_refl _))]
      rfl) (by omega)
  have p0 : 8 ≤ 2 ^ n := Nat.le_trans (show 8 ≤ 2 ^ 3 by omega) (Nat.pow_le_pow_right (by omega) h3)
  obtain ⟨r, e, hp⟩ := q_for (f_X6_hasStiffPart_L2 P κ) (fun k t => t = (q_n k, σ) ∧ 1 ≤ k ∧ ∀ S, 1 ≤ S → S < k → kqO n c S) (fun r => (r = .inl σ ∧ ∃ S, 1 ≤ S ∧ S < 2 ^ n - 1 ∧ ¬ kqO n c S) ∨ (r = .inr σ ∧ ∀ S, 1 ≤ S → S < 2 ^ n - 1 → kqO n c S)) (2 ^ n - 1)
    (by
      rintro k t hk ⟨it, i1, i2⟩
      subst it
      have kl := kqk_le (n := n) k.testBit
      have tl := kqt_b (n := n) (c := c) k.testBit
      have nn : n * n ≤ 36 := Nat.mul_le_mul (show n ≤ 6 by omega) (show n ≤ 6 by omega)
      have pre : f_X6_hasStiffPart_L2 P κ (q_n k, σ) = (if q_n (kqk n k.testBit) < (2 : Int32) then f_X6_hasStiffPart_D76_2 P κ (q_n k) σ else (if q_n (kqt n c k.testBit) ≤ (((3 : Int32) * q_n (kqk n k.testBit)) - (3 : Int32)) then f_X6_hasStiffPart_D76_2 P κ (q_n k) σ else some (.inr (.inl σ)))) := by
        show f_X6_hasStiffPart_B2 P κ (q_n k) σ = _
        unfold f_X6_hasStiffPart_B2
        rw [bd (ak_gI hK), hl, e1, if_neg (qn_ge hk (by omega)), bd (inner k (by omega))]
        dsimp only
        rw [bd2 (kb_bc (by omega)), kqw_k (by omega) (show k < 2 ^ n by omega)]
      have dd : f_X6_hasStiffPart_D76_2 P κ (q_n k) σ = some (.inl (q_n (k + 1), σ)) := by
        unfold f_X6_hasStiffPart_D76_2
        rw [Option.bind_some, q_nS]
      have nx : kqO n c k → ∀ S, 1 ≤ S → S < k + 1 → kqO n c S := fun h S s1 s2 => by
        by_cases e : S = k
        · rw [e]; exact h
        · exact i2 S s1 (by omega)
      by_cases g : kqk n k.testBit < 2
      · refine Or.inl ⟨(q_n (k + 1), σ), ?_, rfl, by omega, nx fun z => by omega⟩
        rw [pre, if_pos (show q_n (kqk n k.testBit) < (2 : Int32) from (q_nLt (l := 2) (by omega) (by omega)).mpr g), dd]
      · have ng : ¬ q_n (kqk n k.testBit) < (2 : Int32) := fun z => g ((q_nLt (l := 2) (by omega) (by omega)).mp z)
        rw [if_neg ng, kx_33 (by omega) (by omega)] at pre
        by_cases h : kqt n c k.testBit ≤ 3 * kqk n k.testBit - 3
        · refine Or.inl ⟨(q_n (k + 1), σ), ?_, rfl, by omega, nx fun _ => h⟩
          rw [pre, if_pos ((q_nLe (by omega) (by omega)).mpr h), dd]
        · refine Or.inr ⟨.inl σ, ?_, Or.inl ⟨rfl, k, i1, hk, fun z => h (z (by omega))⟩⟩
          rw [pre, if_neg (fun z => h ((q_nLe (by omega) (by omega)).mp z))])
    (by
      rintro t ⟨it, i1, i2⟩
      subst it
      refine ⟨.inr σ, ?_, Or.inr ⟨rfl, i2⟩⟩
      show f_X6_hasStiffPart_B2 P κ (q_n (2 ^ n - 1)) σ = _
      unfold f_X6_hasStiffPart_B2
      rw [bd (ak_gI hK), hl, e1, if_pos ((q_nLe (by omega) (by omega)).mpr (Nat.le_refl _))])
    (2 ^ n - 2) 1 (q_n 1, σ) (mpN P) (by omega) ⟨rfl, by omega, fun S s1 s2 => by omega⟩ (by omega)
  have e : mx_lp (f_X6_hasStiffPart_L2 P κ) (mpN P) ((1 : Int32), σ) = some r := e
  unfold f_X6_hasStiffPart
  rw [bd e]
  rcases hp with ⟨hr, hx⟩ | ⟨hr, hx⟩
  · subst hr; exact Or.inr ⟨rfl, hx⟩
  · subst hr; exact Or.inl ⟨rfl, hx⟩
theorem c_isc (hK : LyKd σ κ) (hb : mpb P ≤ κ) (h7 : n < 7) (h3 : 3 ≤ n) (hN : 100 < mpN P) (hT : KT κ n σ) (c : Nat) : ∃ v σ', f_X6_isChain P κ (q_n c) σ = some (v, σ') ∧ ((v = 0 ∧ ¬ kqC n c) ∨ (v = 1 ∧ kqC n c)) ∧ Fz (SNB κ) σ σ' := by
  have hA : mxA σ (κ + 5) = some (.inr (0, 6)) := (hK.2 4 7 0 6 rfl).2
  obtain ⟨σ1, e1, z1, z2⟩ := k_fill (P := P) hA (by omega) (by omega) (by omega) 0
  have f1 : Fz (SNB κ) σ σ1 := qf_Fz z2 fun q j z => z.1
  have nb0 : NB κ n c 0 σ1 := fun a ha => by rw [z1 a (by omega), kqJ_0]; rfl
  obtain ⟨σ2, e2, nb, f2⟩ := c_nb (f1.Kd hK) hb h7 h3 (by omega) (KT_f hT f1) nb0
  have f12 := f1.tr f2
  have k2 := f12.Kd hK
  obtain ⟨T1, T2, T3⟩ := KT_f hT f12
  have hn : ∀ a, a < n → mxI σ2 (κ + 5) a = q_n (kqn n c a) := fun a ha => by rw [nb a ha, kqJ_e h7 h3 ha]
  have p64 := (kq_1n h7).2
  obtain ⟨r, e3, hp⟩ := q_for (f_X6_isChain_L79 P κ) (fun k t => t = (q_n k, σ2) ∧ ∀ a, a < k → 2 ≤ kqd n c a) (fun r => (r = .inl σ2 ∧ ¬ ∀ a, a < n → 2 ≤ kqd n c a) ∨ (r = .inr σ2 ∧ ∀ a, a < n → 2 ≤ kqd n c a)) n
    (by
      rintro k t hk ⟨it, i2⟩
      subst it
      have dl : kqd n c k ≤ n := kqk_le (fun b => kqe n c k b)
      have lt := kqn_lt (n := n) (c := c) (a := k)
      have pre : f_X6_isChain_L79 P κ (q_n k, σ2) = (if (2 : Int32) ≤ q_n (kqd n c k) then some (.inl (q_n (k + 1), σ2)) else some (.inr (.inl σ2))) := by
        show f_X6_isChain_B79 P κ (q_n k) σ2 = _
        unfold f_X6_isChain_B79
        rw [bd (ak_gI k2), T1, if_neg (qn_ge hk (by omega)), bd (ak_r7 k2), bd (ak_g7 k2 (by omega)), hn k hk, bd2 (kb_bc (by omega)), kqw_d (by omega), Option.bind_some, q_nS]
      by_cases g : 2 ≤ kqd n c k
      · refine Or.inl ⟨(q_n (k + 1), σ2), ?_, rfl, fun a ha => ?_⟩
        · rw [pre, if_pos (show (2 : Int32) ≤ q_n (kqd n c k) from (q_nLe (k := 2) (by omega) (by omega)).mpr g)]
        · by_cases e : a = k
          · rw [e]; exact g
          · exact i2 a (by omega)
      · refine Or.inr ⟨.inl σ2, ?_, Or.inl ⟨rfl, fun z => g (z k hk)⟩⟩
        rw [pre, if_neg (show ¬ (2 : Int32) ≤ q_n (kqd n c k) from fun z => g ((q_nLe (k := 2) (by omega) (by omega)).mp z))])
    (by
      rintro t ⟨it, i2⟩
      subst it
      refine ⟨.inr σ2, ?_, Or.inr ⟨rfl, i2⟩⟩
      show f_X6_isChain_B79 P κ (q_n n) σ2 = _
      unfold f_X6_isChain_B79
      rw [bd (ak_gI k2), T1, if_pos ((q_nLe (by omega) (by omega)).mpr (Nat.le_refl _))])
    n 0 ((0 : Int32), σ2) (mpN P) (by omega) ⟨rfl, fun a ha => by omega⟩ (by omega)
  unfold f_X6_isChain
  rw [bd (ak_r7 hK), bd e1, bd e2]
  dsimp only
  rw [bd e3]
  rcases hp with ⟨hr, hx⟩ | ⟨hr, hx⟩
  · subst hr
    exact ⟨0, σ2, rfl, Or.inl ⟨rfl, fun z => hx z.1⟩, f12⟩
  · subst hr
    dsimp only [Sum.elim_inr]
    have one := c_one (P := P) k2 h7 h3 (by omega) T1 hn
    rw [bd (ak_is k2), bd2 one]
    by_cases g : kqR n c n = 2 ^ n - 1
    · rw [decide_eq_true g, if_neg (show ¬ bI true = 0 by decide), bd (ak_is k2)]
      rcases c_stf (P := P) k2 h7 h3 hN T1 hn with ⟨e4, h4⟩ | ⟨e4, S, s1, s2, s3⟩
      · rw [bd2 e4, if_pos rfl]
        exact ⟨1, σ2, rfl, Or.inr ⟨rfl, hx, g, h4⟩, f12⟩
      · rw [bd2 e4, if_neg (show ¬ (1 : Int32) = 0 by decide)]
        exact ⟨0, σ2, rfl, Or.inl ⟨rfl, fun z => s3 (z.2.2 S s1 s2)⟩, f12⟩
    · rw [decide_eq_false g, if_pos (show bI false = 0 by decide)]
      exact ⟨0, σ2, rfl, Or.inl ⟨rfl, fun z => g z.2.1⟩, f12⟩
end JXS
