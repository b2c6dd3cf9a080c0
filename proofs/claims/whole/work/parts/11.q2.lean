/-! ===== q2: trains ===== -/
def tr_b (lo hi m a c : Nat) : Nat → List (Nat × Nat × Nat × Nat)
  | 0 => []
  | n + 1 => tr_b lo hi m a c n ++ (if lo ≤ n ∧ n ≤ hi ∧ n * n ≤ m ∧ m % n = 0 ∧ m / n ≤ hi then [(a, n, c, m / n)] else [])
def tr_c (p q lo hi a : Nat) : Nat → List (Nat × Nat × Nat × Nat)
  | 0 => []
  | n + 1 => tr_c p q lo hi a n ++ (if a ≤ n ∧ (a * n * q) % p = 0 then tr_b lo hi (a * n * q / p) a n (hi + 1) else [])
def tr_a (p q lo hi : Nat) : Nat → List (Nat × Nat × Nat × Nat)
  | 0 => []
  | n + 1 => tr_a p q lo hi n ++ (if lo ≤ n then tr_c p q lo hi n (hi + 1) else [])
theorem tr_bS (lo hi m a c n : Nat) : tr_b lo hi m a c (n + 1) = tr_b lo hi m a c n ++ (if lo ≤ n ∧ n ≤ hi ∧ n * n ≤ m ∧ m % n = 0 ∧ m / n ≤ hi then [(a, n, c, m / n)] else []) := rfl
theorem tr_cS (p q lo hi a n : Nat) : tr_c p q lo hi a (n + 1) = tr_c p q lo hi a n ++ (if a ≤ n ∧ (a * n * q) % p = 0 then tr_b lo hi (a * n * q / p) a n (hi + 1) else []) := rfl
theorem tr_aS (p q lo hi n : Nat) : tr_a p q lo hi (n + 1) = tr_a p q lo hi n ++ (if lo ≤ n then tr_c p q lo hi n (hi + 1) else []) := rfl
theorem tr_b_none {lo hi m a c : Nat} (n : Nat) (h : ∀ b, b < n → ¬ (lo ≤ b ∧ b ≤ hi ∧ b * b ≤ m ∧ m % b = 0 ∧ m / b ≤ hi)) : tr_b lo hi m a c n = [] := by
  induction n with
  | zero => rfl
  | succ n ih =>
    rw [tr_bS, ih fun b hb => h b (by omega), if_neg (h n (by omega))]; rfl
theorem tr_b_stop {lo hi m a c n : Nat} (h : hi < n ∨ m < n * n) (k : Nat) : tr_b lo hi m a c (n + k) = tr_b lo hi m a c n := by
  induction k with
  | zero => rfl
  | succ k ih =>
    show tr_b lo hi m a c (n + k + 1) = _
    rw [tr_bS, ih, if_neg ?_, List.append_nil]
    rintro ⟨h1, h2, h3, -⟩
    rcases h with h | h
    · omega
    · have : n * n ≤ (n + k) * (n + k) := Nat.mul_le_mul (by omega) (by omega)
      omega
theorem tr_div {m b hi : Nat} (h1 : m % b = 0) (h2 : m / b ≤ hi) : m ≤ b * hi := by
  have := Nat.div_add_mod m b
  have h3 : b * (m / b) ≤ b * hi := Nat.mul_le_mul_left b h2
  omega
theorem tr_b_big {lo hi m a c : Nat} (h : hi * hi < m) (n : Nat) : tr_b lo hi m a c n = [] := by
  refine tr_b_none n fun b _ ⟨_, h2, _, h4, h5⟩ => ?_
  have := tr_div h4 h5
  have h6 : b * hi ≤ hi * hi := Nat.mul_le_mul_right hi h2
  omega
theorem tr_b_low {lo hi m a c n : Nat} (hh : 0 < hi) (h : n ≤ lo ∨ n ≤ (m + hi - 1) / hi) : tr_b lo hi m a c n = [] := by
  refine tr_b_none n fun b hb ⟨h1, h2, _, h4, h5⟩ => ?_
  rcases h with h | h
  · omega
  · have h6 := tr_div h4 h5
    have h7 : (m + hi - 1) / hi ≤ b := by
      have : (m + hi - 1) / hi < b + 1 := by
        rw [Nat.div_lt_iff_lt_mul hh, Nat.add_mul, Nat.one_mul]
        omega
      omega
    omega
/-- the trains that are kept: the counter at place k of a, the numbers in b -/
def kt (σ : mx_S) (a k b : Nat) (T : List (Nat × Nat × Nat × Nat)) : Prop := mxI σ a k = q_n (min T.length 300) ∧ ∀ j e, j < 300 → T[j]? = some e → mxI σ b (4 * j) = q_n e.1 ∧ mxI σ b (4 * j + 1) = q_n e.2.1 ∧ mxI σ b (4 * j + 2) = q_n e.2.2.1 ∧ mxI σ b (4 * j + 3) = q_n e.2.2.2
abbrev kt_S (a k b : Nat) : Nat → Nat → Prop := fun q j => (q = a ∧ j = k) ∨ q = b
abbrev q_no : Nat → Nat → Prop := fun _ _ => False
theorem kt_full {σ : mx_S} {a k b : Nat} {T : List (Nat × Nat × Nat × Nat)} (h : kt σ a k b T) (hT : 300 ≤ T.length) (x : Nat × Nat × Nat × Nat) : kt σ a k b (T ++ [x]) := by
  refine ⟨?_, fun j e hj he => h.2 j e hj ?_⟩
  · rw [h.1]; congr 1; rw [List.length_append]; omega
  · rwa [List.getElem?_append_left (by omega)] at he
theorem kt_put {σ : mx_S} {a k b : Nat} {T : List (Nat × Nat × Nat × Nat)} (h : kt σ a k b T) (hT : T.length < 300) (hab : a ≠ b) (x1 x2 x3 x4 : Nat) :
    kt (mx_setI (mx_setI (mx_setI (mx_setI (mx_setI σ b (4 * T.length) (q_n x1)) b (4 * T.length + 1) (q_n x2)) b (4 * T.length + 2) (q_n x3)) b (4 * T.length + 3) (q_n x4)) a k (q_n (T.length + 1))) a k b (T ++ [(x1, x2, x3, x4)]) := by
  refine ⟨?_, fun j e hj he => ?_⟩
  · rw [q_II, if_pos ⟨rfl, rfl⟩]; congr 1; rw [List.length_append]; show _ = min (T.length + 1) 300; omega
  · have hba : ∀ x : Nat, ¬ (b = a ∧ x = k) := fun _ h => hab h.1.symm
    by_cases hjT : j < T.length
    · rw [List.getElem?_append_left hjT] at he
      obtain ⟨e1, e2, e3, e4⟩ := h.2 j e hj he
      refine ⟨?_, ?_, ?_, ?_⟩
      · simp only [q_II, hba, if_false]; repeat rw [if_neg (by omega)]
        exact e1
      · simp only [q_II, hba, if_false]; repeat rw [if_neg (by omega)]
        exact e2
      · simp only [q_II, hba, if_false]; repeat rw [if_neg (by omega)]
        exact e3
      · simp only [q_II, hba, if_false]; repeat rw [if_neg (by omega)]
        exact e4
    · have hl := (List.getElem?_eq_some_iff.mp he).1
      rw [List.length_append] at hl
      have hj2 : j = T.length := by
        have : ([(x1, x2, x3, x4)] : List (Nat × Nat × Nat × Nat)).length = 1 := rfl
        omega
      subst hj2
      rw [List.getElem?_append_right (Nat.le_refl _), Nat.sub_self] at he
      cases he
      refine ⟨?_, ?_, ?_, ?_⟩
      · simp only [q_II, hba, if_false]
        rw [if_neg (by omega), if_neg (by omega), if_neg (by omega), if_pos (by simp)]
      · simp only [q_II, hba, if_false]
        rw [if_neg (by omega), if_neg (by omega), if_pos (by simp)]
      · simp only [q_II, hba, if_false]
        rw [if_neg (by omega), if_pos (by simp)]
      · simp only [q_II, hba, if_false]
        rw [if_pos (by simp)]
/-- where the class's gearing keeps its trains -/
def ly_T (σ : mx_S) (g : Nat) : Prop := mxA σ g = some (.inl 4) ∧ mxR σ g 9 = some (g + 7) ∧ mxA σ (g + 7) = some (.inr (0, 1200))
theorem ly_T.of {σ σ' : mx_S} {g : Nat} {SI SL : Nat → Nat → Prop} (h : ly_T σ g) (f : qf SI SL σ σ') : ly_T σ' g := by
  obtain ⟨f1, f2, -⟩ := f
  exact ⟨f1 ▸ h.1, f2 ▸ h.2.1, f1 ▸ h.2.2⟩
theorem tr_keep {P : mx_P} {σ : mx_S} {g : Nat} {T : List (Nat × Nat × Nat × Nat)} (hl : ly_T σ g) (hb : mpb P ≤ g) (h : kt σ g 2 (g + 7) T) (x1 x2 x3 x4 : Nat) :
    ∃ σ', f_X4_keepTrain P g (q_n x1) (q_n x2) (q_n x3) (q_n x4) σ = some σ' ∧ kt σ' g 2 (g + 7) (T ++ [(x1, x2, x3, x4)]) ∧ qf (kt_S g 2 (g + 7)) q_no σ σ' := by
  obtain ⟨h1, h2, h3⟩ := hl
  have hb2 : mpb P ≤ g + 7 := by omega
  unfold f_X4_keepTrain
  rw [q_gI h1, Option.bind_some, h.1]
  by_cases hT : T.length < 300
  · have hm : min T.length 300 = T.length := by omega
    rw [hm, show (300 : Int32) = q_n 300 from rfl, if_pos (show q_n T.length < q_n 300 from (q_nLt (by omega) (by omega)).mpr hT)]
    have e0 : mxI σ g 2 = q_n T.length := by rw [h.1, hm]
    refine ⟨_, ?_, kt_put h hT (by omega) x1 x2 x3 x4, ?_⟩
    · simp only [q_gI h1, Option.bind_some, e0, show (4 : Int32) = q_n 4 from rfl, show (1 : Int32) = q_n 1 from rfl, show (2 : Int32) = q_n 2 from rfl, show (3 : Int32) = q_n 3 from rfl, q_nM, q_nA, q_gR h1, h2]
      rw [q_sIn h3 (by omega) (by omega) hb2, Option.bind_some]
      simp only [q_gR (σ := mx_setI σ (g + 7) (4 * T.length) (q_n x1)) (a := g) (ci := 4) h1, q_RI, h2, Option.bind_some]
      rw [q_sIn (σ := mx_setI σ (g + 7) (4 * T.length) (q_n x1)) h3 (by omega) (by omega) hb2, Option.bind_some]
      rw [q_gR (by exact h1), q_RI, q_RI, h2, Option.bind_some, q_sIn (by exact h3) (by omega) (by omega) hb2, Option.bind_some]
      rw [q_gR (by exact h1), q_RI, q_RI, q_RI, h2, Option.bind_some, q_sIn (by exact h3) (by omega) (by omega) hb2, Option.bind_some]
      rw [q_gI (by exact h1), Option.bind_some, q_pI (by exact h1) hb, Option.bind_some]
      have hg : ∀ x : Nat, ¬ (g = g + 7 ∧ (2 : Nat) = x) := fun _ h => by omega
      simp only [q_II, hg, if_false, e0, q_nA]
    · exact qf_sI (Or.inl ⟨rfl, rfl⟩) _ (qf_sI (Or.inr rfl) _ (qf_sI (Or.inr rfl) _ (qf_sI (Or.inr rfl) _ (qf_I (Or.inr rfl) _))))
  · have hm : min T.length 300 = 300 := by omega
    rw [hm, show (300 : Int32) = q_n 300 from rfl, if_neg (show ¬ q_n 300 < q_n 300 from fun q => by rw [q_nLt (by omega) (by omega)] at q; omega)]
    exact ⟨σ, rfl, kt_full h (by omega) _, qf_rf⟩
theorem tr_drivers {P : mx_P} {σ : mx_S} {g : Nat} {T : List (Nat × Nat × Nat × Nat)} (hN : 1000 ≤ mpN P) (hl : ly_T σ g) (hb : mpb P ≤ g) (h : kt σ g 2 (g + 7) T) {a c m lo hi : Nat} (h1 : 4 ≤ lo) (h2 : lo ≤ hi) (h3 : hi ≤ 120) (hm : m ≤ 200000000) :
    ∃ σ', f_X4_findDrivers P g (q_n a) (q_n c) (q_n m) (q_n lo) (q_n hi) σ = some (q_n (tr_b lo hi m a c (hi + 1)).length, σ') ∧ kt σ' g 2 (g + 7) (T ++ tr_b lo hi m a c (hi + 1)) ∧ qf (kt_S g 2 (g + 7)) q_no σ σ' := by
  unfold f_X4_findDrivers f_X4_findDrivers_D17 f_X4_findDrivers_D88
  rw [if_neg (by rw [q_n0, q_nLe (by omega) (by omega)]; omega), q_nM]
  have hhh : hi * hi ≤ 120 * 120 := Nat.mul_le_mul h3 h3
  by_cases hbig : m ≤ hi * hi
  · rw [if_pos ((q_nLe (by omega) (by omega)).mpr hbig), q_nA, show (1 : Int32) = q_n 1 from rfl, q_nsub (by omega), k_md (by omega) (by omega) (by omega), Option.bind_some, k_max, q_b2]
    have hcl : (m + hi - 1) / hi ≤ hi := by
      have : (m + hi - 1) / hi < hi + 1 := by
        rw [Nat.div_lt_iff_lt_mul (by omega), Nat.add_mul, Nat.one_mul]
        omega
      omega
    obtain ⟨fr, hfr, hf1, hf2, hf3⟩ : ∃ fr, (if q_n lo < q_n ((m + hi - 1) / hi) then q_n ((m + hi - 1) / hi) else q_n lo) = q_n fr ∧ fr ≤ hi ∧ 0 < fr ∧ (fr ≤ lo ∨ fr ≤ (m + hi - 1) / hi) := by
      by_cases hc : lo < (m + hi - 1) / hi
      · exact ⟨_, by rw [if_pos ((q_nLt (by omega) (by omega)).mpr hc)], hcl, by omega, Or.inr (Nat.le_refl _)⟩
      · exact ⟨lo, by rw [if_neg (fun z => hc ((q_nLt (by omega) (by omega)).mp z))], h2, by omega, Or.inl (Nat.le_refl _)⟩
    rw [hfr]
    obtain ⟨r, hr, hp⟩ := q_for (f_X4_findDrivers_L39 P g (q_n a) (q_n c) (q_n m) (q_n hi))
      (fun k t => fr ≤ k ∧ t.1 = q_n (tr_b lo hi m a c k).length ∧ t.2.1 = q_n k ∧ kt t.2.2 g 2 (g + 7) (T ++ tr_b lo hi m a c k) ∧ qf (kt_S g 2 (g + 7)) q_no σ t.2.2)
      (fun r => r.1 = q_n (tr_b lo hi m a c (hi + 1)).length ∧ kt r.2 g 2 (g + 7) (T ++ tr_b lo hi m a c (hi + 1)) ∧ qf (kt_S g 2 (g + 7)) q_no σ r.2) (hi + 1)
      (by
        rintro k ⟨n1, n2, τ⟩ hk ⟨i1, i2, i3, i4, i5⟩
        dsimp only at i2 i3 i4 i5
        subst i2; subst i3
        show (∃ t', f_X4_findDrivers_B39 P g (q_n a) (q_n c) (q_n m) (q_n hi) _ _ τ = some (.inl t') ∧ _) ∨ (∃ r, f_X4_findDrivers_B39 P g (q_n a) (q_n c) (q_n m) (q_n hi) _ _ τ = some (.inr r) ∧ _)
        unfold f_X4_findDrivers_B39 f_X4_findDrivers_D82_39
        have hkk : k * k ≤ 120 * 120 := Nat.mul_le_mul (by omega) (by omega)
        rw [if_neg (by rw [q_nLt (by omega) (by omega)]; omega), if_neg (by rw [q_n0, q_nLe (by omega) (by omega)]; omega), q_nM]
        by_cases hs : m < k * k
        · right
          refine ⟨_, if_pos ((q_nLt (by omega) (by omega)).mpr hs), ?_⟩
          have e := tr_b_stop (lo := lo) (hi := hi) (m := m) (a := a) (c := c) (n := k) (Or.inr hs) (hi + 1 - k)
          rw [show k + (hi + 1 - k) = hi + 1 by omega] at e
          rw [e]
          exact ⟨rfl, i4, i5⟩
        · left
          rw [if_neg (by rw [q_nLt (by omega) (by omega)]; omega), k_mm (by omega) (by omega) (by omega), Option.bind_some]
          by_cases hd : m % k = 0
          · rw [if_pos (by rw [hd]; rfl), show (1 : Int32) = q_n 1 from rfl, q_nA, Option.bind_some, k_md (by omega) (by omega) (by omega), Option.bind_some, q_is (hl.of i5).1, Option.bind_some]
            have hc : lo ≤ k ∧ k ≤ hi ∧ k * k ≤ m ∧ m % k = 0 ∧ m / k ≤ hi := by
              refine ⟨?_, by omega, by omega, hd, ?_⟩
              · by_cases hq : lo < (m + hi - 1) / hi
                · rw [if_pos ((q_nLt (by omega) (by omega)).mpr hq), q_nI (by omega) (by omega)] at hfr; omega
                · rw [if_neg (by rw [q_nLt (by omega) (by omega)]; exact hq), q_nI (by omega) (by omega)] at hfr; omega
              · have hle : (m + hi - 1) / hi ≤ k := by
                  by_cases hq : lo < (m + hi - 1) / hi
                  · rw [if_pos ((q_nLt (by omega) (by omega)).mpr hq), q_nI (by omega) (by omega)] at hfr; omega
                  · rw [if_neg (by rw [q_nLt (by omega) (by omega)]; exact hq), q_nI (by omega) (by omega)] at hfr; omega
                have h8 : m ≤ k * hi := by
                  have h9 : (m + hi - 1) / hi < k + 1 := by omega
                  rw [Nat.div_lt_iff_lt_mul (by omega), Nat.add_mul, Nat.one_mul] at h9
                  omega
                have h10 : m / k < hi + 1 := by
                  rw [Nat.div_lt_iff_lt_mul (by omega), Nat.add_mul, Nat.one_mul, Nat.mul_comm hi k]; omega
                omega
            have hbk : tr_b lo hi m a c (k + 1) = tr_b lo hi m a c k ++ [(a, k, c, m / k)] := by
              show tr_b lo hi m a c k ++ _ = _
              rw [if_pos hc]
            obtain ⟨σ', s1, s2, s3⟩ := tr_keep (hl.of i5) hb i4 a k c (m / k)
            rw [s1, Option.bind_some, Option.bind_some]
            refine ⟨_, rfl, by omega, ?_, ?_, ?_, qf_tr i5 s3⟩
            · dsimp only; rw [hbk, List.length_append]; rfl
            · dsimp only; rw [q_nA]
            · dsimp only; rw [hbk, ← List.append_assoc]; exact s2
          · rw [if_neg (by rw [q_n0, q_nI (by have := Nat.mod_lt m (show 0 < k by omega); omega) (by omega)]; exact hd)]
            have hbk : tr_b lo hi m a c (k + 1) = tr_b lo hi m a c k := by
              show tr_b lo hi m a c k ++ _ = _
              rw [if_neg (fun q => hd q.2.2.2.1), List.append_nil]
            refine ⟨_, rfl, by omega, ?_, ?_, ?_, i5⟩
            · dsimp only; rw [hbk]
            · exact q_nS k
            · rw [hbk]; exact i4)
      (by
        rintro ⟨n1, n2, τ⟩ ⟨i1, i2, i3, i4, i5⟩
        dsimp only at i2 i3 i4 i5
        subst i2; subst i3
        refine ⟨(_, τ), ?_, rfl, i4, i5⟩
        show f_X4_findDrivers_B39 P g (q_n a) (q_n c) (q_n m) (q_n hi) _ _ τ = _
        unfold f_X4_findDrivers_B39
        rw [if_pos ((q_nLt (by omega) (by omega)).mpr (by omega))]
        rfl)
      (hi + 1 - fr) fr (0, q_n fr, σ) (mpN P) (by omega)
      (by
        have e := tr_b_low (lo := lo) (hi := hi) (m := m) (a := a) (c := c) (n := fr) (by omega) hf3
        refine ⟨Nat.le_refl _, ?_, rfl, ?_, qf_rf⟩
        · dsimp only; rw [e]; rfl
        · dsimp only; rw [e, List.append_nil]; exact h)
      (by omega)
    rw [hr, Option.bind_some]
    exact ⟨r.2, by rw [hp.1], hp.2⟩
  · rw [if_neg (by rw [q_nLe (by omega) (by omega)]; exact hbig), tr_b_big (by omega)]
    exact ⟨σ, rfl, by rw [List.append_nil]; exact h, qf_rf⟩
theorem tr_mul {a c q hi : Nat} (h3 : hi ≤ 120) (ha : a ≤ hi) (hc : c ≤ hi) (hq : q ≤ 10000) : a * c * q ≤ 144000000 := by
  have h1 : a * c ≤ 120 * 120 := Nat.mul_le_mul (by omega) (by omega)
  have h2 : a * c * q ≤ 120 * 120 * 10000 := Nat.mul_le_mul h1 hq
  omega
theorem tr_findc {P : mx_P} {σ : mx_S} {g : Nat} {T : List (Nat × Nat × Nat × Nat)} (hN : 1000 ≤ mpN P) (hl : ly_T σ g) (hb : mpb P ≤ g) (h : kt σ g 2 (g + 7) T) {p q a lo hi n0 : Nat} (hp : 1 ≤ p) (hp2 : p ≤ 10000) (hq2 : q ≤ 10000) (h1 : 4 ≤ lo) (h2 : lo ≤ hi) (h3 : hi ≤ 120) (ha : a ≤ hi) :
    ∃ σ', mx_lp (f_X4_findTrains_L26 P g (q_n p) (q_n q) (q_n lo) (q_n hi) (q_n a)) (mpN P) (q_n n0, q_n a, σ) = some (q_n (n0 + (tr_c p q lo hi a (hi + 1)).length), σ') ∧ kt σ' g 2 (g + 7) (T ++ tr_c p q lo hi a (hi + 1)) ∧ qf (kt_S g 2 (g + 7)) q_no σ σ' := by
  have e0 : ∀ n, n ≤ a → tr_c p q lo hi a n = [] := by
    intro n
    induction n with
    | zero => intro _; rfl
    | succ n ih => intro hn; rw [tr_cS, ih (by omega), if_neg (by omega)]; rfl
  obtain ⟨r, hr, hp⟩ := q_for (f_X4_findTrains_L26 P g (q_n p) (q_n q) (q_n lo) (q_n hi) (q_n a))
      (fun k t => a ≤ k ∧ t.1 = q_n (n0 + (tr_c p q lo hi a k).length) ∧ t.2.1 = q_n k ∧ kt t.2.2 g 2 (g + 7) (T ++ tr_c p q lo hi a k) ∧ qf (kt_S g 2 (g + 7)) q_no σ t.2.2)
      (fun r => r.1 = q_n (n0 + (tr_c p q lo hi a (hi + 1)).length) ∧ kt r.2 g 2 (g + 7) (T ++ tr_c p q lo hi a (hi + 1)) ∧ qf (kt_S g 2 (g + 7)) q_no σ r.2) (hi + 1)
      (by
        rintro k ⟨n1, n2, τ⟩ hk ⟨i1, i2, i3, i4, i5⟩
        dsimp only at i2 i3 i4 i5
        subst i2; subst i3
        left
        show ∃ t', f_X4_findTrains_B26 P g (q_n p) (q_n q) (q_n lo) (q_n hi) (q_n a) _ _ τ = some (.inl t') ∧ _
        unfold f_X4_findTrains_B26 f_X4_findTrains_D69_26
        have hx := tr_mul h3 ha (show k ≤ hi by omega) hq2
        rw [if_neg (by rw [q_nLt (by omega) (by omega)]; omega), q_nM, q_nM, Option.bind_some, k_mm (by omega) (by omega) (by omega), Option.bind_some]
        by_cases hd : (a * k * q) % p = 0
        · rw [if_pos (by rw [hd]; rfl), k_md (by omega) (by omega) (by omega), Option.bind_some, q_is (hl.of i5).1, Option.bind_some]
          have hm : a * k * q / p ≤ 200000000 := Nat.le_trans (Nat.div_le_self _ _) (by omega)
          obtain ⟨σ', s1, s2, s3⟩ := tr_drivers (a := a) (c := k) hN (hl.of i5) hb i4 h1 h2 h3 hm
          have hbk : tr_c p q lo hi a (k + 1) = tr_c p q lo hi a k ++ tr_b lo hi (a * k * q / p) a k (hi + 1) := by
            show tr_c p q lo hi a k ++ _ = _
            rw [if_pos ⟨i1, hd⟩]
          rw [s1, q_b2, Option.bind_some, Option.bind_some]
          refine ⟨_, rfl, by omega, ?_, q_nS k, ?_, qf_tr i5 s3⟩
          · dsimp only; rw [hbk, List.length_append, q_nA, Nat.add_assoc]
          · rw [hbk, ← List.append_assoc]; exact s2
        · rw [if_neg (by rw [q_n0, q_nI (by have := Nat.mod_lt (a * k * q) (show 0 < p by omega); omega) (by omega)]; exact hd), Option.bind_some]
          have hbk : tr_c p q lo hi a (k + 1) = tr_c p q lo hi a k := by
            show tr_c p q lo hi a k ++ _ = _
            rw [if_neg (fun z => hd z.2), List.append_nil]
          refine ⟨_, rfl, by omega, ?_, q_nS k, ?_, i5⟩
          · dsimp only; rw [hbk]
          · rw [hbk]; exact i4)
      (by
        rintro ⟨n1, n2, τ⟩ ⟨i1, i2, i3, i4, i5⟩
        dsimp only at i2 i3 i4 i5
        subst i2; subst i3
        refine ⟨(_, τ), ?_, rfl, i4, i5⟩
        show f_X4_findTrains_B26 P g (q_n p) (q_n q) (q_n lo) (q_n hi) (q_n a) _ _ τ = _
        unfold f_X4_findTrains_B26
        rw [if_pos ((q_nLt (by omega) (by omega)).mpr (by omega))]
        rfl)
      (hi + 1 - a) a (q_n n0, q_n a, σ) (mpN P) (by omega)
      (by
        refine ⟨Nat.le_refl _, ?_, rfl, ?_, qf_rf⟩
        · dsimp only; rw [e0 a (Nat.le_refl _)]; rfl
        · dsimp only; rw [e0 a (Nat.le_refl _), List.append_nil]; exact h)
      (by omega)
  exact ⟨r.2, by rw [hr, ← hp.1], hp.2⟩
/-- the class's trains -/
theorem tr_class {P : mx_P} {σ : mx_S} {g : Nat} (hN : 1000 ≤ mpN P) (hl : ly_T σ g) (hb : mpb P ≤ g) {p q lo hi : Nat} (hp : 1 ≤ p) (hp2 : p ≤ 10000) (hq2 : q ≤ 10000) (h1 : 4 ≤ lo) (h2 : lo ≤ hi) (h3 : hi ≤ 120) :
    ∃ σ', f_X4_findTrains P g (q_n p) (q_n q) (q_n lo) (q_n hi) σ = some (q_n (tr_a p q lo hi (hi + 1)).length, σ') ∧ kt σ' g 2 (g + 7) (tr_a p q lo hi (hi + 1)) ∧ qf (kt_S g 2 (g + 7)) q_no σ σ' := by
  unfold f_X4_findTrains f_X4_findTrains_D81
  rw [q_pI hl.1 hb, Option.bind_some]
  have e0 : ∀ n, n ≤ lo → tr_a p q lo hi n = [] := by
    intro n
    induction n with
    | zero => intro _; rfl
    | succ n ih => intro hn; rw [tr_aS, ih (by omega), if_neg (by omega)]; rfl
  have f0 : qf (kt_S g 2 (g + 7)) q_no σ (mx_setI σ g 2 0) := qf_I (Or.inl ⟨rfl, rfl⟩) _
  obtain ⟨r, hr, hp⟩ := q_for (f_X4_findTrains_L11 P g (q_n p) (q_n q) (q_n lo) (q_n hi))
      (fun k t => lo ≤ k ∧ t.1 = q_n (tr_a p q lo hi k).length ∧ t.2.1 = q_n k ∧ kt t.2.2 g 2 (g + 7) (tr_a p q lo hi k) ∧ qf (kt_S g 2 (g + 7)) q_no σ t.2.2)
      (fun r => r.1 = q_n (tr_a p q lo hi (hi + 1)).length ∧ kt r.2 g 2 (g + 7) (tr_a p q lo hi (hi + 1)) ∧ qf (kt_S g 2 (g + 7)) q_no σ r.2) (hi + 1)
      (by
        rintro k ⟨n1, n2, τ⟩ hk ⟨i1, i2, i3, i4, i5⟩
        dsimp only at i2 i3 i4 i5
        subst i2; subst i3
        left
        show ∃ t', f_X4_findTrains_B11 P g (q_n p) (q_n q) (q_n lo) (q_n hi) _ _ τ = some (.inl t') ∧ _
        unfold f_X4_findTrains_B11
        rw [if_neg (by rw [q_nLt (by omega) (by omega)]; omega), if_neg (by rw [q_n0, q_nLe (by omega) (by omega)]; omega)]
        obtain ⟨σ', s1, s2, s3⟩ := tr_findc (n0 := (tr_a p q lo hi k).length) hN (hl.of i5) hb i4 hp hp2 hq2 h1 h2 h3 (show k ≤ hi by omega)
        have hbk : tr_a p q lo hi (k + 1) = tr_a p q lo hi k ++ tr_c p q lo hi k (hi + 1) := by
          show tr_a p q lo hi k ++ _ = _
          rw [if_pos i1]
        rw [s1, Option.bind_some]
        refine ⟨_, rfl, by omega, ?_, q_nS k, ?_, qf_tr i5 s3⟩
        · dsimp only; rw [hbk, List.length_append]
        · rw [hbk]; exact s2)
      (by
        rintro ⟨n1, n2, τ⟩ ⟨i1, i2, i3, i4, i5⟩
        dsimp only at i2 i3 i4 i5
        subst i2; subst i3
        refine ⟨(_, τ), ?_, rfl, i4, i5⟩
        show f_X4_findTrains_B11 P g (q_n p) (q_n q) (q_n lo) (q_n hi) _ _ τ = _
        unfold f_X4_findTrains_B11
        rw [if_pos ((q_nLt (by omega) (by omega)).mpr (by omega))]
        rfl)
      (hi + 1 - lo) lo (0, q_n lo, mx_setI σ g 2 0) (mpN P) (by omega)
      (by
        refine ⟨Nat.le_refl _, ?_, rfl, ?_, f0⟩
        · dsimp only; rw [e0 lo (Nat.le_refl _)]; rfl
        · dsimp only; rw [e0 lo (Nat.le_refl _)]
          exact ⟨by rw [q_II, if_pos ⟨rfl, rfl⟩]; rfl, fun j e _ he => by cases he⟩)
      (by omega)
  rw [hr, Option.bind_some]
  exact ⟨r.2, by rw [hp.1], hp.2⟩
