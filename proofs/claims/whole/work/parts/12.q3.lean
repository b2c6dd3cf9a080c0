/-! ===== q3: the reference's trains ===== -/
def ly_U (σ : mx_S) (m b : Nat) : Prop := mxA σ m = some (.inl 12) ∧ mxR σ m 73 = some b ∧ mxA σ b = some (.inr (0, 1200)) ∧ m ≠ b
theorem ly_U.of {σ σ' : mx_S} {m b : Nat} {SI SL : Nat → Nat → Prop} (h : ly_U σ m b) (f : qf SI SL σ σ') : ly_U σ' m b := by
  obtain ⟨f1, f2, -⟩ := f
  exact ⟨f1 ▸ h.1, f2 ▸ h.2.1, f1 ▸ h.2.2.1, h.2.2.2⟩
theorem tr_rdrivers {P : mx_P} {σ : mx_S} {g b : Nat} {T : List (Nat × Nat × Nat × Nat)} (hN : 1000 ≤ mpN P) (hl : ly_U σ g b) (hb : mpb P ≤ g) (hb2 : mpb P ≤ b) (h : kt σ g 72 b T) {p q a c m lo hi n0 : Nat} (h1 : 4 ≤ lo) (h2 : lo ≤ hi) (h3 : hi ≤ 120) (hm : m ≤ 200000000) :
    ∃ σ', mx_lp (f_X12_trains_L153 P g (q_n p) (q_n q) (q_n lo) (q_n hi) (q_n a) (q_n c) (l_n m)) (mpN P) (q_n n0, q_n lo, σ) = some (q_n (n0 + (tr_b lo hi m a c (hi + 1)).length), σ') ∧ kt σ' g 72 b (T ++ tr_b lo hi m a c (hi + 1)) ∧ qf (kt_S g 72 b) q_no σ σ' := by
  obtain ⟨r, hr, hp⟩ := q_for (f_X12_trains_L153 P g (q_n p) (q_n q) (q_n lo) (q_n hi) (q_n a) (q_n c) (l_n m))
      (fun k t => lo ≤ k ∧ t.1 = q_n (n0 + (tr_b lo hi m a c k).length) ∧ t.2.1 = q_n k ∧ kt t.2.2 g 72 b (T ++ tr_b lo hi m a c k) ∧ qf (kt_S g 72 b) q_no σ t.2.2)
      (fun r => r.1 = q_n (n0 + (tr_b lo hi m a c (hi + 1)).length) ∧ kt r.2 g 72 b (T ++ tr_b lo hi m a c (hi + 1)) ∧ qf (kt_S g 72 b) q_no σ r.2) (hi + 1)
      (by
        rintro k ⟨n1, n2, τ⟩ hk ⟨i1, i2, i3, i4, i5⟩
        dsimp only at i2 i3 i4 i5
        subst i2; subst i3
        show (∃ t', f_X12_trains_B153 P g (q_n p) (q_n q) (q_n lo) (q_n hi) (q_n a) (q_n c) (l_n m) _ _ τ = some (.inl t') ∧ _) ∨ (∃ r, f_X12_trains_B153 P g (q_n p) (q_n q) (q_n lo) (q_n hi) (q_n a) (q_n c) (l_n m) _ _ τ = some (.inr r) ∧ _)
        unfold f_X12_trains_B153 f_X12_trains_D289_153
        have hkk : k * k ≤ 120 * 120 := Nat.mul_le_mul (by omega) (by omega)
        rw [if_neg (by rw [q_nLt (by omega) (by omega)]; omega), q_nL (k := k) (by omega), l_nM]
        by_cases hs : m < k * k
        · right
          refine ⟨_, if_pos (by rw [q_cmp_gt, l_nLt (by omega) (by omega)]; exact hs), ?_⟩
          have e := tr_b_stop (lo := lo) (hi := hi) (m := m) (a := a) (c := c) (n := k) (Or.inr hs) (hi + 1 - k)
          rw [show k + (hi + 1 - k) = hi + 1 by omega] at e
          rw [e]
          exact ⟨rfl, i4, i5⟩
        · left
          rw [if_neg (by rw [q_cmp_gt, l_nLt (by omega) (by omega)]; exact hs), k_mmL (by omega) (by omega) (by omega), Option.bind_some]
          have hz : lg_cmp (l_n (m % k)) 0 = 0 ↔ m % k = 0 := by
            have := Nat.mod_lt m (show 0 < k by omega)
            rw [q_cmp0, show (0 : Int64) = l_n 0 from rfl, l_nI (by omega) (by omega)]
          by_cases hd : m % k = 0
          · rw [if_pos (hz.mpr hd), k_mdL (by omega) (by omega) (by omega), Option.bind_some, q_nL (k := hi) (by omega)]
            have hdm : m / k ≤ m := Nat.div_le_self m k
            by_cases hh : m / k ≤ hi
            · have hc : lo ≤ k ∧ k ≤ hi ∧ k * k ≤ m ∧ m % k = 0 ∧ m / k ≤ hi := ⟨i1, by omega, by omega, hd, hh⟩
              have hbk : tr_b lo hi m a c (k + 1) = tr_b lo hi m a c k ++ [(a, k, c, m / k)] := by
                show tr_b lo hi m a c k ++ _ = _
                rw [if_pos hc]
              obtain ⟨l1, l2, l3, l4⟩ := hl.of i5
              rw [if_pos (by rw [q_cmp_le, l_nLe (by omega) (by omega)]; exact hh), Option.bind_some, q_gI l1, Option.bind_some, i4.1]
              have hlen : (tr_b lo hi m a c (k + 1)).length = (tr_b lo hi m a c k).length + 1 := by rw [hbk, List.length_append]; rfl
              generalize hU : T ++ tr_b lo hi m a c k = U at i4
              have hU2 : T ++ tr_b lo hi m a c (k + 1) = U ++ [(a, k, c, m / k)] := by rw [hbk, ← List.append_assoc, hU]
              by_cases hT : U.length < 300
              · have hm2 : min U.length 300 = U.length := by omega
                rw [hm2, show (300 : Int32) = q_n 300 from rfl, if_neg (show ¬ q_n U.length = q_n 300 from fun z => by rw [q_nI (by omega) (by omega)] at z; omega)]
                have e0 : mxI τ g 72 = q_n U.length := by rw [i4.1, hm2]
                simp only [q_gR l1, l2, Option.bind_some, q_gI l1, e0, show (4 : Int32) = q_n 4 from rfl, show (1 : Int32) = q_n 1 from rfl, show (2 : Int32) = q_n 2 from rfl, show (3 : Int32) = q_n 3 from rfl, q_nM, q_nA]
                have hgb : ∀ x : Nat, ¬ (g = b ∧ (72 : Nat) = x) := fun _ z => l4 z.1
                rw [q_sIn l3 (by omega) (by omega) hb2, Option.bind_some]
                rw [q_gR (by exact l1), q_RI, l2, Option.bind_some, q_gI (by exact l1), Option.bind_some, q_II, if_neg (hgb _), e0, q_nM, q_nA, q_sIn (by exact l3) (by omega) (by omega) hb2, Option.bind_some]
                rw [q_gR (by exact l1), q_RI, q_RI, l2, Option.bind_some, q_gI (by exact l1), Option.bind_some, q_II, if_neg (hgb _), q_II, if_neg (hgb _), e0, q_nM, q_nA, q_sIn (by exact l3) (by omega) (by omega) hb2, Option.bind_some]
                rw [q_gR (by exact l1), q_RI, q_RI, q_RI, l2, Option.bind_some, q_gI (by exact l1), Option.bind_some, q_II, if_neg (hgb _), q_II, if_neg (hgb _), q_II, if_neg (hgb _), e0, l_nQ (by omega), q_nM, q_nA, q_sIn (by exact l3) (by omega) (by omega) hb2, Option.bind_some]
                rw [q_gI (by exact l1), Option.bind_some, q_II, if_neg (hgb _), q_II, if_neg (hgb _), q_II, if_neg (hgb _), q_II, if_neg (hgb _), e0, q_nA, q_pI (by exact l1) hb, Option.bind_some]
                refine ⟨_, rfl, by omega, ?_, rfl, ?_, qf_tr i5 ?_⟩
                · dsimp only; rw [hlen, Nat.add_assoc]
                · rw [hU2]; exact kt_put i4 hT l4 a k c (m / k)
                · exact qf_sI (Or.inl ⟨rfl, rfl⟩) _ (qf_sI (Or.inr rfl) _ (qf_sI (Or.inr rfl) _ (qf_sI (Or.inr rfl) _ (qf_I (Or.inr rfl) _))))
              · have hm2 : min U.length 300 = 300 := by omega
                rw [hm2, show (300 : Int32) = q_n 300 from rfl, if_pos rfl, Option.bind_some]
                refine ⟨_, rfl, by omega, ?_, q_nS k, ?_, i5⟩
                · dsimp only; rw [hlen, show (1 : Int32) = q_n 1 from rfl, q_nA, Nat.add_assoc]
                · rw [hU2]; exact kt_full i4 (by omega) _
            · have hbk : tr_b lo hi m a c (k + 1) = tr_b lo hi m a c k := by
                show tr_b lo hi m a c k ++ _ = _
                rw [if_neg (fun z => hh z.2.2.2.2), List.append_nil]
              rw [if_neg (by rw [q_cmp_le, l_nLe (by omega) (by omega)]; exact hh), Option.bind_some]
              refine ⟨_, rfl, by omega, ?_, q_nS k, ?_, i5⟩
              · dsimp only; rw [hbk]
              · rw [hbk]; exact i4
          · rw [if_neg (fun z => hd (hz.mp z)), Option.bind_some]
            have hbk : tr_b lo hi m a c (k + 1) = tr_b lo hi m a c k := by
              show tr_b lo hi m a c k ++ _ = _
              rw [if_neg (fun z => hd z.2.2.2.1), List.append_nil]
            refine ⟨_, rfl, by omega, ?_, q_nS k, ?_, i5⟩
            · dsimp only; rw [hbk]
            · rw [hbk]; exact i4)
      (by
        rintro ⟨n1, n2, τ⟩ ⟨i1, i2, i3, i4, i5⟩
        dsimp only at i2 i3 i4 i5
        subst i2; subst i3
        refine ⟨(_, τ), ?_, rfl, i4, i5⟩
        show f_X12_trains_B153 P g (q_n p) (q_n q) (q_n lo) (q_n hi) (q_n a) (q_n c) (l_n m) _ _ τ = _
        unfold f_X12_trains_B153
        rw [if_pos ((q_nLt (by omega) (by omega)).mpr (by omega))]
        rfl)
      (hi + 1 - lo) lo (q_n n0, q_n lo, σ) (mpN P) (by omega)
      (by
        have e := tr_b_low (lo := lo) (hi := hi) (m := m) (a := a) (c := c) (n := lo) (by omega) (Or.inl (Nat.le_refl _))
        refine ⟨Nat.le_refl _, ?_, rfl, ?_, qf_rf⟩
        · dsimp only; rw [e]; rfl
        · dsimp only; rw [e, List.append_nil]; exact h)
      (by omega)
  exact ⟨r.2, by rw [hr, ← hp.1], hp.2⟩
theorem tr_rfindc {P : mx_P} {σ : mx_S} {g b : Nat} {T : List (Nat × Nat × Nat × Nat)} (hN : 1000 ≤ mpN P) (hl : ly_U σ g b) (hb : mpb P ≤ g) (hb2 : mpb P ≤ b) (h : kt σ g 72 b T) {p q a lo hi n0 : Nat} (hp : 1 ≤ p) (hp2 : p ≤ 10000) (hq2 : q ≤ 10000) (h1 : 4 ≤ lo) (h2 : lo ≤ hi) (h3 : hi ≤ 120) (ha : a ≤ hi) :
    ∃ σ', mx_lp (f_X12_trains_L111 P g (q_n p) (q_n q) (q_n lo) (q_n hi) (q_n a)) (mpN P) (q_n n0, q_n a, σ) = some (q_n (n0 + (tr_c p q lo hi a (hi + 1)).length), σ') ∧ kt σ' g 72 b (T ++ tr_c p q lo hi a (hi + 1)) ∧ qf (kt_S g 72 b) q_no σ σ' := by
  have e0 : ∀ n, n ≤ a → tr_c p q lo hi a n = [] := by
    intro n
    induction n with
    | zero => intro _; rfl
    | succ n ih => intro hn; rw [tr_cS, ih (by omega), if_neg (by omega)]; rfl
  obtain ⟨r, hr, hp⟩ := q_for (f_X12_trains_L111 P g (q_n p) (q_n q) (q_n lo) (q_n hi) (q_n a))
      (fun k t => a ≤ k ∧ t.1 = q_n (n0 + (tr_c p q lo hi a k).length) ∧ t.2.1 = q_n k ∧ kt t.2.2 g 72 b (T ++ tr_c p q lo hi a k) ∧ qf (kt_S g 72 b) q_no σ t.2.2)
      (fun r => r.1 = q_n (n0 + (tr_c p q lo hi a (hi + 1)).length) ∧ kt r.2 g 72 b (T ++ tr_c p q lo hi a (hi + 1)) ∧ qf (kt_S g 72 b) q_no σ r.2) (hi + 1)
      (by
        rintro k ⟨n1, n2, τ⟩ hk ⟨i1, i2, i3, i4, i5⟩
        dsimp only at i2 i3 i4 i5
        subst i2; subst i3
        left
        show ∃ t', f_X12_trains_B111 P g (q_n p) (q_n q) (q_n lo) (q_n hi) (q_n a) _ _ τ = some (.inl t') ∧ _
        unfold f_X12_trains_B111 f_X12_trains_D295_111
        have hx := tr_mul h3 ha (show k ≤ hi by omega) hq2
        rw [if_neg (by rw [q_nLt (by omega) (by omega)]; omega), q_nL (k := a) (by omega), q_nL (k := k) (by omega), q_nL (k := q) (by omega), q_nL (k := p) (by omega), l_nM, l_nM, Option.bind_some, k_mmL (by omega) (by omega) (by omega), Option.bind_some]
        have hz : lg_cmp (l_n ((a * k * q) % p)) 0 = 0 ↔ (a * k * q) % p = 0 := by
          have := Nat.mod_lt (a * k * q) (show 0 < p by omega)
          rw [q_cmp0, show (0 : Int64) = l_n 0 from rfl, l_nI (by omega) (by omega)]
        by_cases hd : (a * k * q) % p = 0
        · rw [if_pos (hz.mpr hd), k_mdL (by omega) (by omega) (by omega), Option.bind_some]
          have hm : a * k * q / p ≤ 200000000 := Nat.le_trans (Nat.div_le_self _ _) (by omega)
          obtain ⟨σ', s1, s2, s3⟩ := tr_rdrivers (p := p) (q := q) (a := a) (c := k) (n0 := n0 + (tr_c p q lo hi a k).length) hN (hl.of i5) hb hb2 i4 h1 h2 h3 hm
          have hbk : tr_c p q lo hi a (k + 1) = tr_c p q lo hi a k ++ tr_b lo hi (a * k * q / p) a k (hi + 1) := by
            show tr_c p q lo hi a k ++ _ = _
            rw [if_pos ⟨i1, hd⟩]
          rw [s1, Option.bind_some]
          refine ⟨_, rfl, by omega, ?_, q_nS k, ?_, qf_tr i5 s3⟩
          · dsimp only; rw [hbk, List.length_append, Nat.add_assoc]
          · rw [hbk, ← List.append_assoc]; exact s2
        · rw [if_neg (fun z => hd (hz.mp z)), Option.bind_some]
          have hbk : tr_c p q lo hi a (k + 1) = tr_c p q lo hi a k := by
            show tr_c p q lo hi a k ++ _ = _
            rw [if_neg (fun z => hd z.2), List.append_nil]
          refine ⟨_, rfl, by omega, ?_, q_nS k, ?_, i5⟩
          · dsimp only; rw [hbk]
          · rw [hbk]; exact i4)
      (by
        rintro ⟨n1, n2, τ⟩ ⟨i1, i2, i3, i4, i5⟩
        dsimp only at i2 i3 i4 i5
        subst i2; subst i3
        refine ⟨(_, τ), ?_, rfl, i4, i5⟩
        show f_X12_trains_B111 P g (q_n p) (q_n q) (q_n lo) (q_n hi) (q_n a) _ _ τ = _
        unfold f_X12_trains_B111
        rw [if_pos ((q_nLt (by omega) (by omega)).mpr (by omega))]
        rfl)
      (hi + 1 - a) a (q_n n0, q_n a, σ) (mpN P) (by omega)
      (by
        refine ⟨Nat.le_refl _, ?_, rfl, ?_, qf_rf⟩
        · dsimp only; rw [e0 a (Nat.le_refl _)]; rfl
        · dsimp only; rw [e0 a (Nat.le_refl _), List.append_nil]; exact h)
      (by omega)
  exact ⟨r.2, by rw [hr, ← hp.1], hp.2⟩
theorem tr_rfinda {P : mx_P} {σ : mx_S} {g b : Nat} (hN : 1000 ≤ mpN P) (hl : ly_U σ g b) (hb : mpb P ≤ g) (hb2 : mpb P ≤ b) (h : kt σ g 72 b []) {p q lo hi : Nat} (hp : 1 ≤ p) (hp2 : p ≤ 10000) (hq2 : q ≤ 10000) (h1 : 4 ≤ lo) (h2 : lo ≤ hi) (h3 : hi ≤ 120) :
    ∃ σ', mx_lp (f_X12_trains_L100 P g (q_n p) (q_n q) (q_n lo) (q_n hi)) (mpN P) (0, q_n lo, σ) = some (q_n (tr_a p q lo hi (hi + 1)).length, σ') ∧ kt σ' g 72 b (tr_a p q lo hi (hi + 1)) ∧ qf (kt_S g 72 b) q_no σ σ' := by
  have e0 : ∀ n, n ≤ lo → tr_a p q lo hi n = [] := by
    intro n
    induction n with
    | zero => intro _; rfl
    | succ n ih => intro hn; rw [tr_aS, ih (by omega), if_neg (by omega)]; rfl
  obtain ⟨r, hr, hp⟩ := q_for (f_X12_trains_L100 P g (q_n p) (q_n q) (q_n lo) (q_n hi))
      (fun k t => lo ≤ k ∧ t.1 = q_n (tr_a p q lo hi k).length ∧ t.2.1 = q_n k ∧ kt t.2.2 g 72 b (tr_a p q lo hi k) ∧ qf (kt_S g 72 b) q_no σ t.2.2)
      (fun r => r.1 = q_n (tr_a p q lo hi (hi + 1)).length ∧ kt r.2 g 72 b (tr_a p q lo hi (hi + 1)) ∧ qf (kt_S g 72 b) q_no σ r.2) (hi + 1)
      (by
        rintro k ⟨n1, n2, τ⟩ hk ⟨i1, i2, i3, i4, i5⟩
        dsimp only at i2 i3 i4 i5
        subst i2; subst i3
        left
        show ∃ t', f_X12_trains_B100 P g (q_n p) (q_n q) (q_n lo) (q_n hi) _ _ τ = some (.inl t') ∧ _
        unfold f_X12_trains_B100
        rw [if_neg (by rw [q_nLt (by omega) (by omega)]; omega)]
        obtain ⟨σ', s1, s2, s3⟩ := tr_rfindc (n0 := (tr_a p q lo hi k).length) hN (hl.of i5) hb hb2 i4 hp hp2 hq2 h1 h2 h3 (show k ≤ hi by omega)
        have hbk : tr_a p q lo hi (k + 1) = tr_a p q lo hi k ++ tr_c p q lo hi k (hi + 1) := by
          show tr_a p q lo hi k ++ _ = _
          rw [if_pos i1]
        rw [s1, Option.bind_some]
        refine ⟨_, rfl, by omega, ?_, q_nS k, ?_, qf_tr i5 s3⟩
        · dsimp only; rw [hbk, List.length_append]
        · rw [hbk]; exact s2)
      (by
        rintro ⟨n1, n2, τ⟩ ⟨i1, i2, i3, i4, i5⟩
        dsimp only at i2 i3 i4 i5
        subst i2; subst i3
        refine ⟨(_, τ), ?_, rfl, i4, i5⟩
        show f_X12_trains_B100 P g (q_n p) (q_n q) (q_n lo) (q_n hi) _ _ τ = _
        unfold f_X12_trains_B100
        rw [if_pos ((q_nLt (by omega) (by omega)).mpr (by omega))]
        rfl)
      (hi + 1 - lo) lo (0, q_n lo, σ) (mpN P) (by omega)
      (by
        refine ⟨Nat.le_refl _, ?_, rfl, ?_, qf_rf⟩
        · dsimp only; rw [e0 lo (Nat.le_refl _)]; rfl
        · dsimp only; rw [e0 lo (Nat.le_refl _)]; exact h)
      (by omega)
  exact ⟨r.2, by rw [hr, ← hp.1], hp.2⟩
