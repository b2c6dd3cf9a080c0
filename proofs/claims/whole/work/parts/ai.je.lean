/-! ===== je: crossing edges; plate ===== -/
section JES
variable {P : mx_P} {σ σ0 σ1 σ2 τ : mx_S} {x m n n' t p q i k j a a' A B C D : Nat} {X Y X' Y' : Nat → Int} {u v z : Int64} {c d e f : Int}
/-- two edges of a plate that are no neighbours cross -/
def xE (n : Nat) (X Y : Nat → Int) (i j : Nat) : Bool := decide (i + 2 ≤ j) && (!decide (i = 0 ∧ j = n - 1) && tcE n X Y n X Y i j)
def xI (n : Nat) (X Y : Nat → Int) (i : Nat) : Bool := (r_fst (xE n X Y i) n).isSome
def xF (n : Nat) (X Y : Nat → Int) : Option (Nat × Nat) := match r_fst (xI n X Y) n with
  | none => none
  | some i => some (i, (r_fst (xE n X Y i) n).getD 0)
def xR (n : Nat) (X Y : Nat → Int) (b : Bool) : Int32 := match xF n X Y with
  | none => -1
  | some ij => if b then q_n ij.1 else q_n ij.2
theorem xE_lo (h : j < i + 2) : xE n X Y i j = false := by unfold xE; rw [decide_eq_false (by omega)]; rfl
theorem c_xi {b : Int32} (hf : 100 ≤ mpN P) (h : PlC σ a n X Y) (hi : i < n) : (∃ j, r_fst (xE n X Y i) n = some j ∧ mx_lp (f_X9_crossing_L14 P a b (q_n i)) (mpN P) (q_n (i + 2), σ) = some (.inl (q_n j, σ))) ∨ (r_fst (xE n X Y i) n = none ∧ mx_lp (f_X9_crossing_L14 P a b (q_n i)) (mpN P) (q_n (i + 2), σ) = some (.inr σ)) := by
  obtain ⟨h1, h2, h3, h4⟩ := id h
  have hend : ∀ k, n ≤ k → k < 100 → f_X9_crossing_L14 P a b (q_n i) (q_n k, σ) = some (.inr (.inr σ)) := fun k hk hk2 => by
    show f_X9_crossing_B14 P a b (q_n i) (q_n k) σ = _
    unfold f_X9_crossing_B14
    rw [bd (ap_gI h1), h2, if_pos (by rw [q_nLe (by omega) (by omega)]; exact hk)]
  by_cases hs : i + 2 ≤ n
  · obtain ⟨r, er, hr⟩ := q_for (f_X9_crossing_L14 P a b (q_n i)) (fun k t => t = (q_n k, σ) ∧ i + 2 ≤ k ∧ r_fst (xE n X Y i) k = none) (fun r => (∃ j, r_fst (xE n X Y i) n = some j ∧ r = .inl (q_n j, σ)) ∨ (r_fst (xE n X Y i) n = none ∧ r = .inr σ)) n
      (by
        rintro k t hk ⟨rfl, hk2, hn⟩
        show (∃ t', f_X9_crossing_B14 P a b (q_n i) (q_n k) σ = _ ∧ _) ∨ (∃ r, f_X9_crossing_B14 P a b (q_n i) (q_n k) σ = _ ∧ _)
        unfold f_X9_crossing_B14 f_X9_crossing_D40_14 f_X9_crossing_D41_14 f_X9_crossing_D68_14
        rw [bd (ap_gI h1), h2, if_neg (by rw [q_nLe (by omega) (by omega)]; omega)]
        have go : ¬ (i = 0 ∧ k = n - 1) → (∃ t' : Int32 × mx_S, ((mx_is σ a 9).bind fun i13 => mx_b2 (f_X9_touches P a (q_n i) a (q_n k) σ) fun x16 σ15 => (if x16 = 0 then (some (q_n k + (1 : Int32))).bind fun x11 => some (.inl (x11, σ15)) else some (.inr (.inl (q_n k, σ15))))) = (some (.inl t') : Option ((Int32 × mx_S) ⊕ ((Int32 × mx_S) ⊕ mx_S))) ∧ (t' = (q_n (k + 1), σ) ∧ i + 2 ≤ k + 1 ∧ r_fst (xE n X Y i) (k + 1) = none)) ∨ (∃ r, ((mx_is σ a 9).bind fun i13 => mx_b2 (f_X9_touches P a (q_n i) a (q_n k) σ) fun x16 σ15 => (if x16 = 0 then (some (q_n k + (1 : Int32))).bind fun x11 => some (.inl (x11, σ15)) else some (.inr (.inl (q_n k, σ15))))) = (some (.inr r) : Option ((Int32 × mx_S) ⊕ ((Int32 × mx_S) ⊕ mx_S))) ∧ ((∃ j, r_fst (xE n X Y i) n = some j ∧ r = .inl (q_n j, σ)) ∨ (r_fst (xE n X Y i) n = none ∧ r = .inr σ))) := fun hno => by
          have hx : xE n X Y i k = tcE n X Y n X Y i k := by unfold xE; rw [decide_eq_true hk2, decide_eq_false hno]; rfl
          rw [bd (ap_is h1), bd2 (c_tch h h hi hk)]
          cases ht : tcE n X Y n X Y i k with
          | true =>
            rw [if_neg (show ¬ bI true = 0 by decide)]
            exact Or.inr ⟨_, rfl, Or.inl ⟨k, fst_at hk (hx.trans ht) hn, rfl⟩⟩
          | false =>
            rw [if_pos (show bI false = 0 from rfl), bds, q_nS]
            exact Or.inl ⟨_, rfl, rfl, by omega, by rw [r_fst, hn, hx, ht]; rfl⟩
        by_cases c0 : i = 0
        · rw [if_pos (by rw [c0]; rfl), bd (ap_gI h1), h2, show (1 : Int32) = q_n 1 from rfl, nsub (by omega) (by omega)]
          by_cases c1 : k = n - 1
          · rw [if_pos (by rw [c1]), if_neg (show ¬ q_n 1 = 0 by decide), bds, show q_n k + q_n 1 = q_n (k + 1) from q_nA _ _]
            exact Or.inl ⟨_, rfl, rfl, by omega, by rw [r_fst, hn, show xE n X Y i k = false by unfold xE; rw [decide_eq_true (show i = 0 ∧ k = n - 1 from ⟨c0, c1⟩)]; exact Bool.and_false _]; rfl⟩
          · rw [if_neg (fun z => c1 ((q_nI (by omega) (by omega)).mp z)), if_pos rfl]
            exact go (fun z => c1 z.2)
        · rw [if_neg (show ¬ q_n i = 0 from fun z => c0 ((q_nI (by omega) (by omega)).mp (show q_n i = q_n 0 from z))), if_pos rfl]
          exact go (fun z => c0 z.1))
      (by
        rintro t ⟨rfl, hk2, hn⟩
        exact ⟨_, hend n (Nat.le_refl _) (by omega), Or.inr ⟨hn, rfl⟩⟩)
      (n - (i + 2)) (i + 2) (q_n (i + 2), σ) (mpN P) (by omega) ⟨rfl, Nat.le_refl _, fst_no fun p hp => xE_lo hp⟩ (by omega)
    rcases hr with ⟨j, hj, rfl⟩ | ⟨hn, rfl⟩
    · exact Or.inl ⟨j, hj, er⟩
    · exact Or.inr ⟨hn, er⟩
  · right
    refine ⟨fst_no fun p hp => xE_lo (by omega), ?_⟩
    obtain ⟨f, hf'⟩ : ∃ f, mpN P = f + 1 := ⟨mpN P - 1, by omega⟩
    rw [hf', mx_lpS, hend (i + 2) (by omega) (by omega)]; rfl
theorem c_xng {b : Bool} (hf : 100 ≤ mpN P) (h : PlC σ a n X Y) : f_X9_crossing P a (bI b) σ = some (xR n X Y b, σ) := by
  obtain ⟨h1, h2, h3, h4⟩ := id h
  obtain ⟨r, er, hr⟩ := q_for (f_X9_crossing_L2 P a (bI b)) (fun k t => t = (q_n k, σ) ∧ r_fst (xI n X Y) k = none) (fun r => (∃ i j, xF n X Y = some (i, j) ∧ r = .inl (q_n i, q_n j, σ)) ∨ (xF n X Y = none ∧ r = .inr σ)) n
    (by
      rintro k t hk ⟨rfl, hn⟩
      show (∃ t', f_X9_crossing_B2 P a (bI b) (q_n k) σ = _ ∧ _) ∨ (∃ r, f_X9_crossing_B2 P a (bI b) (q_n k) σ = _ ∧ _)
      unfold f_X9_crossing_B2
      rw [bd (ap_gI h1), h2, if_neg (by rw [q_nLe (by omega) (by omega)]; omega), show (2 : Int32) = q_n 2 from rfl, q_nA, bds]
      rcases c_xi (P := P) (b := bI b) hf h hk with ⟨j, hj, ej⟩ | ⟨hj, ej⟩
      · rw [bd ej]
        refine Or.inr ⟨_, rfl, Or.inl ⟨k, j, ?_, rfl⟩⟩
        unfold xF
        rw [fst_at hk (by unfold xI; rw [hj]; rfl) hn]
        dsimp only
        rw [hj]; rfl
      · rw [bd ej]
        refine Or.inl ⟨_, rfl, ?_, by rw [r_fst, hn, show xI n X Y k = false by unfold xI; rw [hj]; rfl]; rfl⟩
        show (q_n k + 1, σ) = _
        rw [q_nS])
    (by
      rintro t ⟨rfl, hn⟩
      refine ⟨_, ?_, Or.inr ⟨by unfold xF; rw [hn], rfl⟩⟩
      show f_X9_crossing_B2 P a (bI b) (q_n n) σ = _
      unfold f_X9_crossing_B2
      rw [bd (ap_gI h1), h2, if_pos (by rw [q_nLe (by omega) (by omega)]; exact Nat.le_refl _)])
    n 0 ((0 : Int32), σ) (mpN P) (by omega) ⟨rfl, rfl⟩ (by omega)
  unfold f_X9_crossing f_X9_crossing_D67 xR
  rw [bd er]
  rcases hr with ⟨i, j, hx, rfl⟩ | ⟨hx, rfl⟩
  · rw [hx]
    cases b <;> rfl
  · rw [hx]; rfl
theorem PlR_pt (h : PlR σ m p n X Y) (hk : k < n) : PtR σ m (24 * p + k) (X k) (Y k) := ⟨by have := h.2.1; have := h.2.2.2.1; omega, (h.2.2.2.2 k hk).1, (h.2.2.2.2 k hk).2⟩
theorem r_xi {b : Int32} (hf : 100 ≤ mpN P) (h : PlR σ m p n X Y) (hi : i < n) : (∃ j, r_fst (xE n X Y i) n = some j ∧ mx_lp (f_X12_crossed_L22 P m (q_n p) b (q_n n) (q_n i)) (mpN P) (q_n (i + 1), σ) = some (.inl (q_n j, σ))) ∨ (r_fst (xE n X Y i) n = none ∧ mx_lp (f_X12_crossed_L22 P m (q_n p) b (q_n n) (q_n i)) (mpN P) (q_n (i + 1), σ) = some (.inr σ)) := by
  obtain ⟨h1, h2, h3, h0, h4⟩ := id h
  obtain ⟨r, er, hr⟩ := q_for (f_X12_crossed_L22 P m (q_n p) b (q_n n) (q_n i)) (fun k t => t = (q_n k, σ) ∧ i + 1 ≤ k ∧ r_fst (xE n X Y i) k = none) (fun r => (∃ j, r_fst (xE n X Y i) n = some j ∧ r = .inl (q_n j, σ)) ∨ (r_fst (xE n X Y i) n = none ∧ r = .inr σ)) n
    (by
      rintro k t hk ⟨rfl, hk2, hn⟩
      have nx : xE n X Y i k = false → r_fst (xE n X Y i) (k + 1) = none := fun z => by rw [r_fst, hn, z]; rfl
      have ix : ∀ k, (24 : Int32) * q_n p + q_n k = q_n (24 * p + k) := fun k => by rw [show (24 : Int32) = q_n 24 from rfl, q_nM, q_nA]
      have go : i + 2 ≤ k → ¬ (i = 0 ∧ k = n - 1) → (∃ t', f_X12_crossed_D53_22 P m (q_n p) b (q_n n) (q_n i) (q_n k) σ = some (.inl t') ∧ (t' = (q_n (k + 1), σ) ∧ i + 1 ≤ k + 1 ∧ r_fst (xE n X Y i) (k + 1) = none)) ∨ (∃ r, f_X12_crossed_D53_22 P m (q_n p) b (q_n n) (q_n i) (q_n k) σ = some (.inr r) ∧ ((∃ j, r_fst (xE n X Y i) n = some j ∧ r = .inl (q_n j, σ)) ∨ (r_fst (xE n X Y i) n = none ∧ r = .inr σ))) := fun h2k hno => by
        have hx : xE n X Y i k = tcE n X Y n X Y i k := by unfold xE; rw [decide_eq_true h2k, decide_eq_false hno]; rfl
        unfold f_X12_crossed_D53_22 f_X12_crossed_D102_22
        rw [bd (am_is h1), bd2 (r_aft h hi), bd (am_is h1), bd2 (r_aft h hk), bd (am_is h1), ix, ix, bd2 (r_meet h1 (PlR_pt h hi) (PlR_pt h (aft_lt hi)) (PlR_pt h hk) (PlR_pt h (aft_lt hk)))]
        show (∃ t', (if bI (tcE n X Y n X Y i k) = 0 then _ else _) = _ ∧ _) ∨ _
        cases ht : tcE n X Y n X Y i k with
        | true =>
          rw [show tcP (X i) (Y i) (X (aft n i)) (Y (aft n i)) (X k) (Y k) (X (aft n k)) (Y (aft n k)) = true from ht, if_neg (show ¬ bI true = 0 by decide)]
          exact Or.inr ⟨_, rfl, Or.inl ⟨k, fst_at hk (hx.trans ht) hn, rfl⟩⟩
        | false =>
          rw [if_pos (show bI false = 0 from rfl), bds, q_nS]
          exact Or.inl ⟨_, rfl, rfl, by omega, nx (hx.trans ht)⟩
      show (∃ t', f_X12_crossed_B22 P m (q_n p) b (q_n n) (q_n i) (q_n k) σ = _ ∧ _) ∨ (∃ r, f_X12_crossed_B22 P m (q_n p) b (q_n n) (q_n i) (q_n k) σ = _ ∧ _)
      unfold f_X12_crossed_B22
      rw [if_neg (by rw [q_nLe (by omega) (by omega)]; omega), q_nS]
      by_cases c0 : k = i + 1
      · rw [if_pos (by rw [c0])]
        unfold f_X12_crossed_D102_22
        rw [bds, q_nS]
        exact Or.inl ⟨_, rfl, rfl, by omega, nx (xE_lo (by omega))⟩
      · rw [if_neg (fun z => c0 ((q_nI (by omega) (by omega)).mp z))]
        by_cases c1 : i = 0
        · rw [if_pos (by rw [c1]; rfl), show (1 : Int32) = q_n 1 from rfl, nsub (by omega) (by omega)]
          by_cases c2 : k = n - 1
          · rw [if_pos (by rw [c2])]
            unfold f_X12_crossed_D102_22
            rw [bds, q_nS]
            exact Or.inl ⟨_, rfl, rfl, by omega, nx (by unfold xE; rw [decide_eq_true (show i = 0 ∧ k = n - 1 from ⟨c1, c2⟩)]; exact Bool.and_false _)⟩
          · rw [if_neg (fun z => c2 ((q_nI (by omega) (by omega)).mp z))]
            exact go (by omega) (fun z => c2 z.2)
        · rw [if_neg (show ¬ q_n i = 0 from fun z => c1 ((q_nI (by omega) (by omega)).mp (show q_n i = q_n 0 from z)))]
          exact go (by omega) (fun z => c1 z.1))
    (by
      rintro t ⟨rfl, hk2, hn⟩
      refine ⟨_, ?_, Or.inr ⟨hn, rfl⟩⟩
      show f_X12_crossed_B22 P m (q_n p) b (q_n n) (q_n i) (q_n n) σ = _
      unfold f_X12_crossed_B22
      rw [if_pos (by rw [q_nLe (by omega) (by omega)]; exact Nat.le_refl _)])
    (n - (i + 1)) (i + 1) (q_n (i + 1), σ) (mpN P) (by omega) ⟨rfl, Nat.le_refl _, fst_no fun p hp => xE_lo (by omega)⟩ (by omega)
  rcases hr with ⟨j, hj, rfl⟩ | ⟨hn, rfl⟩
  · exact Or.inl ⟨j, hj, er⟩
  · exact Or.inr ⟨hn, er⟩
theorem r_xng {b : Bool} (hf : 100 ≤ mpN P) (h : PlR σ m p n X Y) : f_X12_crossed P m (q_n p) (bI b) σ = some ((xR n X Y b).toInt64, σ) := by
  obtain ⟨h1, h2, h3, h0, h4⟩ := id h
  obtain ⟨r, er, hr⟩ := q_for (f_X12_crossed_L10 P m (q_n p) (bI b) (q_n n)) (fun k t => t = (q_n k, σ) ∧ r_fst (xI n X Y) k = none) (fun r => (∃ i j, xF n X Y = some (i, j) ∧ r = .inl (q_n i, q_n j, σ)) ∨ (xF n X Y = none ∧ r = .inr σ)) n
    (by
      rintro k t hk ⟨rfl, hn⟩
      show (∃ t', f_X12_crossed_B10 P m (q_n p) (bI b) (q_n n) (q_n k) σ = _ ∧ _) ∨ (∃ r, f_X12_crossed_B10 P m (q_n p) (bI b) (q_n n) (q_n k) σ = _ ∧ _)
      unfold f_X12_crossed_B10
      rw [if_neg (by rw [q_nLe (by omega) (by omega)]; omega), q_nS, bds]
      rcases r_xi (P := P) (b := bI b) hf h hk with ⟨j, hj, ej⟩ | ⟨hj, ej⟩
      · rw [bd ej]
        refine Or.inr ⟨_, rfl, Or.inl ⟨k, j, ?_, rfl⟩⟩
        unfold xF
        rw [fst_at hk (by unfold xI; rw [hj]; rfl) hn]
        dsimp only
        rw [hj]; rfl
      · rw [bd ej]
        exact Or.inl ⟨_, rfl, rfl, by rw [r_fst, hn, show xI n X Y k = false by unfold xI; rw [hj]; rfl]; rfl⟩)
    (by
      rintro t ⟨rfl, hn⟩
      refine ⟨_, ?_, Or.inr ⟨by unfold xF; rw [hn], rfl⟩⟩
      show f_X12_crossed_B10 P m (q_n p) (bI b) (q_n n) (q_n n) σ = _
      unfold f_X12_crossed_B10
      rw [if_pos (by rw [q_nLe (by omega) (by omega)]; exact Nat.le_refl _)])
    n 0 ((0 : Int32), σ) (mpN P) (by omega) ⟨rfl, rfl⟩ (by omega)
  unfold f_X12_crossed f_X12_crossed_D101 xR
  rw [bd (am_r86 h1), bd (am_g86 h1 h2), h3, bd er]
  rcases hr with ⟨i, j, hx, rfl⟩ | ⟨hx, rfl⟩
  · rw [hx]
    cases b <;> rfl
  · rw [hx]; rfl
/-! the reference's sums -/
def psE (n : Nat) (X Y : Nat → Int) (w k : Nat) : Int := if w = 0 then crE n X Y k else if w = 1 then (X k + X (aft n k)) * crE n X Y k else if w = 2 then (Y k + Y (aft n k)) * crE n X Y k else crE n X Y k * (X k * X k + X k * X (aft n k) + X (aft n k) * X (aft n k) + Y k * Y k + Y k * Y (aft n k) + Y (aft n k) * Y (aft n k))
theorem r_pls {w : Nat} (hf : 100 ≤ mpN P) (h : PlR σ m p n X Y) (hw : w < 4) : ∃ y, f_X12_plateSum P m (q_n p) (q_n w) σ = some (y, σ) ∧ B64 y (sm (psE n X Y w) n) (12000000000000 * n) := by
  obtain ⟨h1, h2, h3, h0, h4⟩ := id h
  obtain ⟨r, e, y, hr, hy⟩ := q_for (f_X12_plateSum_L5 P m (q_n p) (q_n w)) (fun k t => ∃ y, t = (y, q_n k, σ) ∧ B64 y (sm (psE n X Y w) k) (12000000000000 * k)) (fun r => ∃ y, r = (y, σ) ∧ B64 y (sm (psE n X Y w) n) (12000000000000 * n)) n
    (by
      rintro k t hk ⟨y, rfl, hy⟩
      left
      have hl := aft_lt hk
      obtain ⟨xk, yk⟩ := h4 k hk
      obtain ⟨xl, yl⟩ := h4 _ hl
      have ix : (24 : Int32) * q_n p + q_n k = q_n (24 * p + k) := by rw [show (24 : Int32) = q_n 24 from rfl, q_nM, q_nA]
      obtain ⟨g, eg⟩ : ∃ g, g = mxL σ (m + 60) (24 * p + k) * mxL σ (m + 61) (24 * p + aft n k) - mxL σ (m + 60) (24 * p + aft n k) * mxL σ (m + 61) (24 * p + k) := ⟨_, rfl⟩
      have hg : B64 g (crE n X Y k) 2000000 := by rw [eg]; exact b64S (b64M xk yl (by omega)) (b64M xl yk (by omega)) (by omega)
      show ∃ t', f_X12_plateSum_B5 P m (q_n p) (q_n w) y (q_n k) σ = _ ∧ _
      unfold f_X12_plateSum_B5 f_X12_plateSum_D165_5
      rw [bd (am_r86 h1), bd (am_g86 h1 h2), h3, if_neg (by rw [q_nLe (by omega) (by omega)]; omega), bd (am_r87 h1), ix, bd (am_g87 h1 (by omega)), bd (am_r88 h1), bd (am_g88 h1 (by omega)), bd (am_r87 h1), bd (am_is h1), bd2 (r_aft h hk), bd (am_g87 h1 (by omega)), bd (am_r88 h1), bd (am_is h1), bd2 (r_aft h hk), bd (am_g88 h1 (by omega)), bds, ← eg]
      have hc : w = 0 ∨ w = 1 ∨ w = 2 ∨ w = 3 := by omega
      rcases hc with rfl | rfl | rfl | rfl
      · rw [if_pos (show q_n 0 = 0 from rfl), bds, bds, q_nS]
        exact ⟨_, rfl, _, rfl, b64w (b64A hy hg (by omega)) (by omega)⟩
      · rw [if_neg (show ¬ q_n 1 = 0 by decide), if_pos (show q_n 1 = (1 : Int32) from rfl), bds, bds, q_nS]
        exact ⟨_, rfl, _, rfl, b64w (b64A hy (b64M (b64A xk xl (by omega)) hg (by omega)) (by omega)) (by omega)⟩
      · rw [if_neg (show ¬ q_n 2 = 0 by decide), if_neg (show ¬ q_n 2 = (1 : Int32) by decide), if_pos (show q_n 2 = (2 : Int32) from rfl), bds, bds, q_nS]
        exact ⟨_, rfl, _, rfl, b64w (b64A hy (b64M (b64A yk yl (by omega)) hg (by omega)) (by omega)) (by omega)⟩
      · rw [if_neg (show ¬ q_n 3 = 0 by decide), if_neg (show ¬ q_n 3 = (1 : Int32) by decide), if_neg (show ¬ q_n 3 = (2 : Int32) by decide), bds, bds, q_nS]
        exact ⟨_, rfl, _, rfl, b64w (b64A hy (b64M hg (b64A (b64A (b64A (b64A (b64A (b64M xk xk (by omega)) (b64M xk xl (by omega)) (by omega)) (b64M xl xl (by omega)) (by omega)) (b64M yk yk (by omega)) (by omega)) (b64M yk yl (by omega)) (by omega)) (b64M yl yl (by omega)) (by omega)) (by omega)) (by omega)) (by omega)⟩)
    (by
      rintro t ⟨y, rfl, hy⟩
      refine ⟨_, ?_, y, rfl, hy⟩
      show f_X12_plateSum_B5 P m (q_n p) (q_n w) y (q_n n) σ = _
      unfold f_X12_plateSum_B5
      rw [bd (am_r86 h1), bd (am_g86 h1 h2), h3, if_pos (by rw [q_nLe (by omega) (by omega)]; exact Nat.le_refl _)])
    n 0 ((0 : Int64), (0 : Int32), σ) (mpN P) (by omega) ⟨0, rfl, rfl, by rw [sm]; decide⟩ (by omega)
  unfold f_X12_plateSum
  rw [bd e, hr]
  exact ⟨y, rfl, hy⟩
theorem sm_cg {f g : Nat → Int} (h : ∀ k, f k = g k) : ∀ n, sm f n = sm g n
  | 0 => rfl
  | n + 1 => by rw [sm, sm, sm_cg h n, h n]
theorem ps_0 : sm (psE n X Y 0) n = sm (crE n X Y) n := sm_cg (fun k => if_pos rfl) n
theorem ps_w {w : Nat} (hw : w < 3) : sm (psE n X Y (w + 1)) n = sm (fun k => crE n X Y k * wgE n X Y w k) n := sm_cg (fun k => by
  have hc : w = 0 ∨ w = 1 ∨ w = 2 := by omega
  rcases hc with rfl | rfl | rfl
  · show (X k + X (aft n k)) * crE n X Y k = crE n X Y k * (X k + X (aft n k)); exact Int.mul_comm _ _
  · show (Y k + Y (aft n k)) * crE n X Y k = crE n X Y k * (Y k + Y (aft n k)); exact Int.mul_comm _ _
  · rfl) n
theorem gcI_n : gcI (-c) (-d) = gcI c d := by unfold gcI; rw [Int.natAbs_neg, Int.natAbs_neg]
/-- the reference's fraction -/
theorem r_frc {b : Bool} {w : Int32} (hf : 5000 ≤ mpN P) (hw : mm_I w 2 = some (if b then 1 else 0)) (hu : B64 u c A) (hv : B64 v d B) (hA : A < 4611686018427387904) (hB : B < 4611686018427387904) (hd : d ≠ 0) : ∃ r, f_X12_plate_D172 P w u v σ = some (r, σ) ∧ r.toInt = if b then frP c d else frQ c d := by
  have key : ∀ {u v : Int64} {c d : Int}, B64 u c A → B64 v d B → 0 < d → ∃ r, f_X12_plate_D191 P w u v σ = some (r, σ) ∧ r.toInt = if b then c / (gcI c d : Int) else d / (gcI c d : Int) := fun {u v c d} hu hv hd => by
    have hg := gc_pos (c := c) (show d ≠ 0 by omega)
    have hgl := gc_le (c := c) (show d ≠ 0 by omega)
    have g1 : f_X12_gcd P u v σ = some (l_n (gcI c d), σ) := by
      have := r_gcd (P := P) (σ := σ) (x := u) (y := v) hf (by rw [hu.1]; have := hu.2; omega) (by rw [hv.1]; have := hv.2; omega)
      rw [hu.1, hv.1] at this
      exact this
    have hv2 := hv.2
    obtain ⟨r1, q1, k1⟩ := dv_ex hg (by omega) hu hA gc_l
    obtain ⟨r2, q2, k2⟩ := dv_ex hg (by omega) hv hB gc_r
    unfold f_X12_plate_D191 f_X12_plate_D220
    rw [bd2 g1, bd hw]
    cases b with
    | true => rw [if_pos (by rfl), bd q1]; exact ⟨r1, rfl, k1.1⟩
    | false => rw [if_neg (by decide), bd q2]; exact ⟨r2, rfl, k2.1⟩
  unfold f_X12_plate_D172
  by_cases c0 : 0 ≤ lg_cmp v (0 : Int64)
  · have c0' := c0
    rw [l_nn, hv.1] at c0'
    obtain ⟨r, e1, e2⟩ := key hu hv (by omega)
    rw [if_pos c0, e1]
    refine ⟨r, rfl, ?_⟩
    rw [e2]
    unfold frP frQ
    rw [if_pos c0', show (d.natAbs : Int) = d by omega]
  · have c0' := c0
    rw [l_nn, hv.1] at c0'
    obtain ⟨r, e1, e2⟩ := key (b64n hu hA) (b64n hv hB) (by omega)
    rw [if_neg c0, bds, bds, e1]
    refine ⟨r, rfl, ?_⟩
    rw [e2, gcI_n]
    unfold frP frQ
    rw [if_neg c0', show (d.natAbs : Int) = -d by omega]
end JES
