/-! ===== jy: kinds: the class sees all like ===== -/
section JYS
variable {P : mx_P} {σ τ : mx_S} {n k a b i j c u κ r m v : Nat} {l : List Nat}
theorem kqa_s (h : i < l.length) : kqa (l.set i v) j = if i = j then v else kqa l j := by
  unfold kqa
  rw [List.getD_eq_getElem?_getD, List.getD_eq_getElem?_getD, List.getElem?_set]
  by_cases e : i = j
  · subst e; rw [if_pos rfl, if_pos rfl, if_pos h]; rfl
  · rw [if_neg e, if_neg e]
theorem kqx_l : (kqx l a b).length = l.length := by unfold kqx; rw [List.length_set, List.length_set]
theorem kqx_a (ha : a < l.length) (hb : b < l.length) : kqa (kqx l a b) j = if j = b then kqa l a else if j = a then kqa l b else kqa l j := by
  unfold kqx
  rw [kqa_s (by rw [List.length_set]; exact hb), kqa_s ha]
  by_cases e : b = j
  · rw [if_pos e, if_pos e.symm]
  · rw [if_neg e, if_neg (show ¬ j = b from fun z => e z.symm)]
    by_cases e2 : a = j
    · rw [if_pos e2, if_pos e2.symm]
    · rw [if_neg e2, if_neg (show ¬ j = a from fun z => e2 z.symm)]
theorem kqW_l : (kqW n k m).1.length = n := by
  induction k with
  | zero => exact List.length_range
  | succ k ih => unfold kqW; rw [kqx_l]; exact ih
theorem kqW_r : (kqW n k m).2 ≤ m := by
  induction k with
  | zero => exact Nat.le_refl _
  | succ k ih => exact Nat.le_trans (Nat.div_le_self _ _) ih
/-- the class's sequence -/
def SQ (κ n : Nat) (l : List Nat) (σ : mx_S) : Prop := ∀ i, i < n → mxI σ (κ + 6) i = q_n (kqa l i)
def SSQ (κ : Nat) (q _j : Nat) : Prop := q = κ + 6
theorem c_wsq (hK : LyKd σ κ) (hb : mpb P ≤ κ) (h7 : n < 7) (h3 : 3 ≤ n) (hN : 100 < mpN P) (hl : mxI σ κ 2 = q_n n) (hm : m < 1000) : ∃ σ', f_X6_writeSequence P κ (q_n m) σ = some σ' ∧ SQ κ n (kqWs n m) σ' ∧ Fz (SSQ κ) σ σ' := by
  have ss : ∀ j, SSQ κ (κ + 6) j := fun j => rfl
  obtain ⟨r, e1, h1, h2⟩ := q_for (f_X6_writeSequence_L4 P κ (q_n m)) (fun k t => t.1 = q_n k ∧ (∀ i, i < k → mxI t.2 (κ + 6) i = q_n i) ∧ Fz (SSQ κ) σ t.2) (fun r => (∀ i, i < n → mxI r (κ + 6) i = q_n i) ∧ Fz (SSQ κ) σ r) n
    (by
      rintro k ⟨v, τ⟩ hk ⟨i1, i2, i3⟩
      dsimp only at i1 i2 i3
      subst i1
      have k0 := i3.Kd hK
      have l0 : mxI τ κ 2 = q_n n := (i3.gi (by unfold SSQ; omega)).trans hl
      refine Or.inl ⟨(q_n (k + 1), mx_setI τ (κ + 6) k (q_n k)), ?_, rfl, fun i hi => ?_, i3.sI (ss _) _⟩
      · show f_X6_writeSequence_B4 P κ (q_n m) (q_n k) τ = _
        unfold f_X6_writeSequence_B4
        rw [bd (ak_gI k0), l0, if_neg (qn_ge hk (by omega)), bd (ak_r8 k0), bd (ak_s8 k0 hb (by omega) _), Option.bind_some, q_nS]
      · dsimp only
        by_cases e : i = k
        · subst e; exact sI_e
        · rw [sI_n (by omega)]; exact i2 i (by omega))
    (by
      rintro ⟨v, τ⟩ ⟨i1, i2, i3⟩
      dsimp only at i1 i2 i3
      subst i1
      have l0 : mxI τ κ 2 = q_n n := (i3.gi (by unfold SSQ; omega)).trans hl
      refine ⟨τ, ?_, i2, i3⟩
      show f_X6_writeSequence_B4 P κ (q_n m) (q_n n) τ = _
      unfold f_X6_writeSequence_B4
      rw [bd (ak_gI (i3.Kd hK)), l0, if_pos ((q_nLe (by omega) (by omega)).mpr (Nat.le_refl _))])
    n 0 ((0 : Int32), σ) (mpN P) (by omega) ⟨rfl, fun i hi => by omega, Fz.rf⟩ (by omega)
  obtain ⟨r2, e2, h3', h4⟩ := q_for (f_X6_writeSequence_L27 P κ) (fun k t => t.1 = q_n (kqW n k m).2 ∧ t.2.1 = q_n (k + 1) ∧ SQ κ n (kqW n k m).1 t.2.2 ∧ Fz (SSQ κ) σ t.2.2) (fun r => SQ κ n (kqWs n m) r ∧ Fz (SSQ κ) σ r) (n - 1)
    (by
      rintro k ⟨v2, v3, τ⟩ hk ⟨i1, i2, i3, i4⟩
      dsimp only at i1 i2 i3 i4
      subst i1 i2
      have k0 := i4.Kd hK
      have l0 : mxI τ κ 2 = q_n n := (i4.gi (by unfold SSQ; omega)).trans hl
      have rl := kqW_r (n := n) (k := k) (m := m)
      have ll := kqW_l (n := n) (k := k) (m := m)
      have ml : (kqW n k m).2 % (k + 2) < k + 2 := Nat.mod_lt _ (by omega)
      have mm : mm_I (q_n (kqW n k m).2) (q_n (k + 1 + 1)) = some (q_n ((kqW n k m).2 % (k + 2))) := k_mm (by omega) (by omega) (by omega)
      have md : md_I (q_n (kqW n k m).2) (q_n (k + 1 + 1)) = some (q_n ((kqW n k m).2 / (k + 2))) := k_md (by omega) (by omega) (by omega)
      refine Or.inl ⟨(q_n (kqW n (k + 1) m).2, q_n (k + 1 + 1), mx_setI (mx_setI τ (κ + 6) (k + 1) (q_n (kqa (kqW n k m).1 ((kqW n k m).2 % (k + 2))))) (κ + 6) ((kqW n k m).2 % (k + 2)) (q_n (kqa (kqW n k m).1 (k + 1)))), ?_, rfl, rfl, fun i hi => ?_, (i4.sI (ss _) _).sI (ss _) _⟩
      · show f_X6_writeSequence_B27 P κ (q_n (kqW n k m).2) (q_n (k + 1)) τ = _
        unfold f_X6_writeSequence_B27
        rw [bd (ak_gI k0), l0, if_neg (qn_ge (show k + 1 < n by omega) (by omega)), q_nS, bd mm, bd md, bd (ak_r8 k0), bd (ak_g8 k0 (by omega)), i3 _ (by omega), bd (ak_r8 k0), bd (ak_r8 k0), bd (ak_g8 k0 (by omega)), i3 _ (by omega), bd (ak_s8 k0 hb (by omega) _)]
        have k1 : LyKd (mx_setI τ (κ + 6) (k + 1) (q_n (kqa (kqW n k m).1 ((kqW n k m).2 % (k + 2))))) κ := k0
        rw [bd (ak_r8 k1), bd (ak_s8 k1 hb (by omega) _), Option.bind_some]
        rfl
      · dsimp only
        show _ = q_n (kqa (kqx (kqW n k m).1 (k + 1) ((kqW n k m).2 % (k + 2))) i)
        rw [kqx_a (by omega) (by omega)]
        by_cases e : i = (kqW n k m).2 % (k + 2)
        · rw [if_pos e, e, sI_e]
        · rw [if_neg e, sI_n (by omega)]
          by_cases e' : i = k + 1
          · rw [if_pos e', e', sI_e]
          · rw [if_neg e', sI_n (by omega)]; exact i3 i hi)
    (by
      rintro ⟨v2, v3, τ⟩ ⟨i1, i2, i3, i4⟩
      dsimp only at i1 i2 i3 i4
      subst i1 i2
      have l0 : mxI τ κ 2 = q_n n := (i4.gi (by unfold SSQ; omega)).trans hl
      refine ⟨τ, ?_, i3, i4⟩
      show f_X6_writeSequence_B27 P κ _ (q_n (n - 1 + 1)) τ = _
      unfold f_X6_writeSequence_B27
      rw [bd (ak_gI (i4.Kd hK)), l0, if_pos ((q_nLe (by omega) (by omega)).mpr (by omega))])
    (n - 1) 0 (q_n m, q_n 1, r) (mpN P) (by omega) ⟨rfl, rfl, fun i hi => by rw [h1 i hi]; exact congrArg q_n (kqa_r hi).symm, h2⟩ (by omega)
  have e2 : mx_lp (f_X6_writeSequence_L27 P κ) (mpN P) (q_n m, (1 : Int32), r) = some r2 := e2
  unfold f_X6_writeSequence
  rw [bd e1]
  dsimp only
  rw [bd e2]
  exact ⟨r2, rfl, h3', h4⟩
theorem KT_b (h7 : n < 7) (h3 : 3 ≤ n) (h : KT κ n σ) (ha : a < n) (hb : b < n) (e : a ≠ b) : mxI σ (κ + 4) (a * 6 + b) = q_n (2 ^ kqb n a b) := by
  obtain ⟨t1, -, t3, t4⟩ := kq_t1 n h7 h3 a ha b hb e
  obtain ⟨-, -, z1, z2⟩ := h.2.2 _ (Nat.zero_le _) t1
  rw [t3, t4] at z1 z2
  by_cases o : a < b
  · rw [Nat.min_eq_left (by omega), Nat.max_eq_right (by omega)] at z1; exact z1
  · rw [Nat.min_eq_right (by omega), Nat.max_eq_left (by omega)] at z2; exact z2
theorem c_ren (hK : LyKd σ κ) (h7 : n < 7) (h3 : 3 ≤ n) (hN : 100 < mpN P) (hT : KT κ n σ) (hP : kqP n l) (hq : SQ κ n l σ) : f_X6_renumbered P κ (q_n c) σ = some (q_n (kqQ n c l (kqr n)), σ) := by
  have t0 := (kq_t3 n h7 h3).1
  have lp : mx_lp (f_X6_renumbered_L4 P κ (q_n c)) (mpN P) ((0 : Int32), (0 : Int32), σ) = some (q_n (kqQ n c l (kqr n)), σ) :=
    lpT (fun i => (q_n (kqQ n c l i), q_n i, σ)) (kqr n) (fun i hi => by
      show f_X6_renumbered_B4 P κ (q_n c) (q_n (kqQ n c l i)) (q_n i) σ = _
      unfold f_X6_renumbered_B4
      obtain ⟨t1, t2, t3⟩ := kq_t2 n h7 h3 i hi
      obtain ⟨f1, f2, -, -⟩ := hT.2.2 i (by omega) hi
      rw [bd (ak_gI hK), hT.2.1, if_neg (qn_ge hi (by omega))]
      by_cases e : c.testBit i = true
      · have ne : kqa l (kqf n i) ≠ kqa l (kqg n i) := fun z => by have := kqP_inj hP (by omega) t2 z; omega
        have l1 := kqP_lt hP (show kqf n i < n by omega)
        have l2 := kqP_lt hP t2
        rw [if_pos ((kb_tn (by omega)).mpr e), bd (ak_r6 hK), bd (ak_r8 hK), bd (ak_r4 hK), bd (ak_g4 hK (by omega)), f1, bd (ak_g8 hK (by omega)), hq _ (by omega), bd (ak_r8 hK), bd (ak_r5 hK), bd (ak_g5 hK (by omega)), f2, bd (ak_g8 hK (by omega)), hq _ t2, kx6, bd (ak_g6 hK (by omega)), KT_b h7 h3 hT l1 l2 ne, q_or, Option.bind_some]
        unfold f_X6_renumbered_D55_4
        rw [Option.bind_some, q_nS, show kqQ n c l (i + 1) = kqQ n c l i ||| 2 ^ kqb n (kqa l (kqf n i)) (kqa l (kqg n i)) from if_pos e]
      · rw [if_neg (fun z => e ((kb_tn (by omega)).mp z))]
        unfold f_X6_renumbered_D55_4
        rw [Option.bind_some, q_nS, show kqQ n c l (i + 1) = kqQ n c l i from if_neg e]) (by
      show f_X6_renumbered_B4 P κ (q_n c) (q_n (kqQ n c l (kqr n))) (q_n (kqr n)) σ = _
      unfold f_X6_renumbered_B4
      rw [bd (ak_gI hK), hT.2.1, if_pos ((q_nLe (by omega) (by omega)).mpr (Nat.le_refl _))]) (by omega)
  unfold f_X6_renumbered
  rw [bd lp]
/-- seen -/
def SN (κ : Nat) (σ : mx_S) (d : Nat) : Prop := (mxI σ (κ + 7) (d / 32)).toBitVec.getLsbD (d % 32) = true
def SSN (κ : Nat) (q _j : Nat) : Prop := q = κ + 6 ∨ q = κ + 7
theorem KT_g (h : KT κ n σ) (f : Fz (SSN κ) σ τ) : KT κ n τ := by
  obtain ⟨h1, h2, h3⟩ := h
  have g : ∀ q j, q < κ + 6 → mxI τ q j = mxI σ q j := fun q j hq => f.gi (by unfold SSN; omega)
  refine ⟨(g _ _ (by omega)).trans h1, (g _ _ (by omega)).trans h2, fun i a1 a2 => ?_⟩
  rw [g _ _ (by omega), g _ _ (by omega), g _ _ (by omega), g _ _ (by omega)]
  exact h3 i a1 a2
theorem kqfa_b : ∀ n, n < 7 → kqfa n ≤ 720 := by decide +kernel
theorem c_sal (hK : LyKd σ κ) (hb : mpb P ≤ κ) (h7 : n < 7) (h3 : 3 ≤ n) (hN : 1000 < mpN P) (hT : KT κ n σ) (hc : c < 2 ^ kqr n) : ∃ σ', f_X6_seeAllLike P κ (q_n c) σ = some σ' ∧ (∀ d, d < 2 ^ kqr n → (SN κ σ' d ↔ SN κ σ d ∨ ∃ l, kqP n l ∧ kqQ n c l (kqr n) = d)) ∧ Fz (SSN κ) σ σ' := by
  have t0 := (kq_t3 n h7 h3).1
  have p15 : 2 ^ kqr n ≤ 2 ^ 15 := Nat.pow_le_pow_right (by omega) t0
  have fb := kqfa_b n h7
  have lp1 : mx_lp (f_X6_seeAllLike_L4 P κ (q_n c)) (mpN P) ((1 : Int32), (2 : Int32), σ) = some (q_n (kqfa n), σ) := by
    have := lpT (b := f_X6_seeAllLike_L4 P κ (q_n c)) (r := (q_n (kqfa n), σ)) (fu := mpN P) (fun i => (q_n (kqfa (i + 1)), q_n (i + 2), σ)) (n - 1) (fun i hi => by
      show f_X6_seeAllLike_B4 P κ (q_n c) (q_n (kqfa (i + 1))) (q_n (i + 2)) σ = _
      unfold f_X6_seeAllLike_B4
      rw [bd (ak_gI hK), hT.1, if_neg (fun z => by have := (q_nLt (by omega) (by omega)).mp z; omega), Option.bind_some, Option.bind_some, q_nS]
      have e : q_n (kqfa (i + 1)) * q_n (i + 2) = q_n (kqfa (i + 1 + 1)) := by
        show Int32.ofNat _ * Int32.ofNat _ = Int32.ofNat ((i + 1 + 1) * kqfa (i + 1))
        rw [Nat.mul_comm, Int32.ofNat_mul]
      rw [e]) (by
      show f_X6_seeAllLike_B4 P κ (q_n c) (q_n (kqfa (n - 1 + 1))) (q_n (n - 1 + 2)) σ = _
      unfold f_X6_seeAllLike_B4
      rw [bd (ak_gI hK), hT.1, if_pos ((q_nLt (by omega) (by omega)).mpr (by omega)), show n - 1 + 1 = n by omega]) (by omega)
    exact this
  obtain ⟨r, e, h1, h2⟩ := q_for (f_X6_seeAllLike_L24 P κ (q_n c) (q_n (kqfa n))) (fun k t => t.1 = q_n k ∧ (∀ d, d < 2 ^ kqr n → (SN κ t.2 d ↔ SN κ σ d ∨ ∃ m, m < k ∧ kqQ n c (kqWs n m) (kqr n) = d)) ∧ Fz (SSN κ) σ t.2) (fun r => (∀ d, d < 2 ^ kqr n → (SN κ r d ↔ SN κ σ d ∨ ∃ m, m < kqfa n ∧ kqQ n c (kqWs n m) (kqr n) = d)) ∧ Fz (SSN κ) σ r) (kqfa n)
    (by
      rintro k ⟨v, τ⟩ hk ⟨i1, i2, i3⟩
      dsimp only at i1 i2 i3
      subst i1
      have k0 := i3.Kd hK
      have T0 := KT_g hT i3
      obtain ⟨τ1, e1, q1, f1⟩ := c_wsq (P := P) (m := k) k0 hb h7 h3 (by omega) T0.1 (by omega)
      have f2 : Fz (SSN κ) τ τ1 := f1.mo fun q j z => Or.inl z
      have f3 := i3.tr f2
      have k1 := f3.Kd hK
      have hP := kqW_p h7 h3 hk
      have e2 := c_ren (P := P) (c := c) k1 h7 h3 (by omega) (KT_g hT f3) hP q1
      have dl : kqQ n c (kqWs n k) (kqr n) < 2 ^ kqr n := kqQ_lt h7 h3 hP (Nat.le_refl _)
      refine Or.inl ⟨(q_n (k + 1), mx_setI τ1 (κ + 7) (kqQ n c (kqWs n k) (kqr n) / 32) (mxI τ1 (κ + 7) (kqQ n c (kqWs n k) (kqr n) / 32) ||| ((1 : Int32) <<< (q_n (kqQ n c (kqWs n k) (kqr n) % 32) &&& 31)))), ?_, rfl, ?_, f3.sI (Or.inr rfl) _⟩
      · show f_X6_seeAllLike_B24 P κ (q_n c) (q_n (kqfa n)) (q_n k) τ = _
        unfold f_X6_seeAllLike_B24
        rw [if_neg (qn_ge hk (by omega)), bd (ak_is k0), bd e1, bd (ak_is k1), bd2 e2, bd (ak_r9 k1), kb_5 (by omega), bd (ak_g9 k1 (by omega)), show (q_n (kqQ n c (kqWs n k) (kqr n)) &&& (31 : Int32)) = q_n (kqQ n c (kqWs n k) (kqr n) % 32) from kb_m31, bd (ak_s9 k1 hb (by omega) _), Option.bind_some, q_nS]
      · intro d hd
        have tr : SN κ τ1 d ↔ SN κ τ d := by unfold SN; rw [f1.gi (by unfold SSQ; omega)]
        have st : SN κ (mx_setI τ1 (κ + 7) (kqQ n c (kqWs n k) (kqr n) / 32) (mxI τ1 (κ + 7) (kqQ n c (kqWs n k) (kqr n) / 32) ||| ((1 : Int32) <<< (q_n (kqQ n c (kqWs n k) (kqr n) % 32) &&& 31)))) d ↔ SN κ τ1 d ∨ kqQ n c (kqWs n k) (kqr n) = d := by
          unfold SN
          by_cases e : d / 32 = kqQ n c (kqWs n k) (kqr n) / 32
          · rw [e, sI_e, kb_o (by omega) (by omega), Bool.or_eq_true, decide_eq_true_iff]
            constructor
            · rintro (z | z)
              · exact Or.inl z
              · exact Or.inr (by omega)
            · rintro (z | z)
              · exact Or.inl z
              · exact Or.inr (by omega)
          · rw [sI_n (by omega)]
            constructor
            · exact Or.inl
            · rintro (z | z)
              · exact z
              · exact absurd (by rw [z]) e
        dsimp only
        rw [st, tr, i2 d hd]
        constructor
        · rintro ((z | ⟨m, hm, z⟩) | z)
          · exact Or.inl z
          · exact Or.inr ⟨m, by omega, z⟩
          · exact Or.inr ⟨k, by omega, z⟩
        · rintro (z | ⟨m, hm, z⟩)
          · exact Or.inl (Or.inl z)
          · by_cases e : m = k
            · rw [e] at z; exact Or.inr z
            · exact Or.inl (Or.inr ⟨m, by omega, z⟩))
    (by
      rintro ⟨v, τ⟩ ⟨i1, i2, i3⟩
      dsimp only at i1 i2 i3
      subst i1
      refine ⟨τ, ?_, i2, i3⟩
      show f_X6_seeAllLike_B24 P κ (q_n c) (q_n (kqfa n)) (q_n (kqfa n)) τ = _
      unfold f_X6_seeAllLike_B24
      rw [if_pos ((q_nLe (by omega) (by omega)).mpr (Nat.le_refl _))])
    (kqfa n) 0 ((0 : Int32), σ) (mpN P) (by omega) ⟨rfl, fun d _ => ⟨Or.inl, fun z => z.resolve_right fun ⟨m, hm, _⟩ => by omega⟩, Fz.rf⟩ (by omega)
  unfold f_X6_seeAllLike
  rw [bd lp1]
  dsimp only
  rw [bd e]
  refine ⟨r, rfl, fun d hd => ?_, h2⟩
  rw [h1 d hd]
  constructor
  · rintro (z | ⟨m, hm, z⟩)
    · exact Or.inl z
    · exact Or.inr ⟨_, kqW_p h7 h3 hm, z⟩
  · rintro (z | ⟨l, hl, z⟩)
    · exact Or.inl z
    · obtain ⟨m, hm, e⟩ := kqW_s h7 h3 hl
      exact Or.inr ⟨m, hm, by rw [e]; exact z⟩
end JYS
