/-! ===== jj: distances of plates ===== -/
section JJS
variable {P : mx_P} {σ σ0 σ1 σ2 τ : mx_S} {a a' b c d p q p' q' m n n' i j k r A : Nat} {X Y X' Y' : Nat → Int} {u v w : Int64} {x y s : Int} {D D' : Nat → Nat → Prop} {S : Nat → Nat → Prop}
theorem b64_n (h : B64 w s A) (h0 : 0 ≤ s) (hA : A < 4611686018427387904) : w = l_n s.toNat ∧ s.toNat ≤ A := by
  obtain ⟨h1, h2⟩ := h
  exact ⟨Int64.toInt.inj (by rw [l_nT (by omega), h1]; omega), by omega⟩
theorem PlC_f (h : PlC σ a n X Y) (f : Fz S σ τ) (hs : ∀ q j, S q j → q ≠ a ∧ q ≠ a + 1 ∧ q ≠ a + 2) : PlC τ a n X Y := by
  obtain ⟨h1, h2, h3, h4⟩ := h
  refine ⟨by rw [f.1, f.2.1]; exact h1, (f.2.2.2 _ _ (fun z => (hs _ _ z).1 rfl)).1.trans h2, h3, fun k hk => ?_⟩
  rw [(f.2.2.2 _ _ (fun z => (hs _ _ z).2.1 rfl)).2, (f.2.2.2 _ _ (fun z => (hs _ _ z).2.2 rfl)).2]
  exact h4 k hk
theorem PlR_f (h : PlR σ m p n X Y) (f : Fz S σ τ) (hs : ∀ q j, S q j → q ≠ m + 59 ∧ q ≠ m + 60 ∧ q ≠ m + 61) : PlR τ m p n X Y := by
  obtain ⟨h1, h2, h3, h0, h4⟩ := h
  refine ⟨f.M h1, h2, (f.2.2.2 _ _ (fun z => (hs _ _ z).1 rfl)).1.trans h3, h0, fun k hk => ?_⟩
  rw [(f.2.2.2 _ _ (fun z => (hs _ _ z).2.1 rfl)).2, (f.2.2.2 _ _ (fun z => (hs _ _ z).2.2 rfl)).2]
  exact h4 k hk
theorem c_foot (hf : 5000 ≤ mpN P) (h : PlC σ a n X Y) (hi : i < n) (hu : B64 u x 1000) (hv : B64 v y 1000) (hA : mxA σ r = some (.inl 3)) (hb : mpb P ≤ r) (hF : FN σ r p q) (hM : Mn p q D) : ∃ τ p' q', f_X9_offerFoot P a (q_n i) u v r σ = some τ ∧ FN τ r p' q' ∧ Mn p' q' (fun c d => D c d ∨ (c = (vC n X Y i x y).1 ∧ d = (vC n X Y i x y).2)) ∧ Fz (fun q j => q = r ∧ j ≤ 2) σ τ := by
  obtain ⟨h1, h2, h3, h4⟩ := id h
  have hl := aft_lt hi
  obtain ⟨xi, yi⟩ := h4 i hi
  obtain ⟨xl, yl⟩ := h4 _ hl
  have ex := b64S xl xi (by omega)
  have ey := b64S yl yi (by omega)
  have px := b64S hu xi (by omega)
  have py := b64S hv yi (by omega)
  have al : B64 _ (alE n X Y i x y) _ := b64A (b64M px ex (by omega)) (b64M py ey (by omega)) (by omega)
  have wh : B64 _ (whE n X Y i) _ := b64A (b64M ex ex (by omega)) (b64M ey ey (by omega)) (by omega)
  have as' : B64 _ (asE n X Y i x y) _ := b64S (b64M px ey (by omega)) (b64M py ex (by omega)) (by omega)
  have a2 := b64M as' as' (by omega)
  have fa : B64 _ (faE X Y i x y) _ := b64A (b64M px px (by omega)) (b64M py py (by omega)) (by omega)
  have en : B64 _ (enE n X Y i x y) _ := b64A (b64M (b64S px ex (by omega)) (b64S px ex (by omega)) (by omega)) (b64M (b64S py ey (by omega)) (b64S py ey (by omega)) (by omega)) (by omega)
  obtain ⟨n1, n2, n3⟩ := ft_nn (n := n) (X := X) (Y := Y) (i := i) (x := x) (y := y)
  have n4 := sq_n (asE n X Y i x y)
  unfold f_X9_offerFoot f_X9_offerFoot_D178
  rw [bd (ap_is h1), bd2 (c_aft h hi), bd (ap_r1 h1), bd (ap_g1 h1 (by omega)), bd (ap_r1 h1), bd (ap_g1 h1 (by omega)), bds, bd (ap_r2 h1), bd (ap_g2 h1 (by omega)), bd (ap_r2 h1), bd (ap_g2 h1 (by omega)), bds, bd (ap_r1 h1), bd (ap_g1 h1 (by omega)), bds, bd (ap_r2 h1), bd (ap_g2 h1 (by omega)), bds, bds, bds, bds]
  unfold vC
  by_cases c1 : alE n X Y i x y ≤ 0
  · obtain ⟨w1, w2⟩ := b64_n fa n1 (by omega)
    obtain ⟨τ, p', q', e, e1, e2, e3⟩ := c_off (P := P) (c := (faE X Y i x y).toNat) (d := 1) hf hA hb hF hM (by omega) (by omega) (by omega)
    rw [if_neg (by rw [l_pos, al.1]; omega), w1, bd (show f_X9_offer P (l_n (faE X Y i x y).toNat) (1 : Int64) r σ = some τ from e), if_pos c1]
    exact ⟨τ, p', q', rfl, e1, e2, e3⟩
  · rw [if_pos (by rw [l_pos, al.1]; omega), if_neg c1]
    by_cases c2 : alE n X Y i x y < whE n X Y i
    · obtain ⟨w1, w2⟩ := b64_n a2 n4 (by omega)
      obtain ⟨w3, w4⟩ := b64_n wh n3 (by omega)
      obtain ⟨τ, p', q', e, e1, e2, e3⟩ := c_off (P := P) (c := (asE n X Y i x y * asE n X Y i x y).toNat) (d := (whE n X Y i).toNat) hf hA hb hF hM (by omega) (by omega) (by omega)
      rw [if_pos (by rw [q_cmp_lt, q_llt, al.1, wh.1]; exact c2), w1, w3, bd e, if_pos c2]
      exact ⟨τ, p', q', rfl, e1, e2, e3⟩
    · obtain ⟨w1, w2⟩ := b64_n en n2 (by omega)
      obtain ⟨τ, p', q', e, e1, e2, e3⟩ := c_off (P := P) (c := (enE n X Y i x y).toNat) (d := 1) hf hA hb hF hM (by omega) (by omega) (by omega)
      rw [if_neg (by rw [q_cmp_lt, q_llt, al.1, wh.1]; exact c2), w1, bd (show f_X9_offer P (l_n (enE n X Y i x y).toNat) (1 : Int64) r σ = some τ from e), if_neg c2]
      exact ⟨τ, p', q', rfl, e1, e2, e3⟩
/-- what the class has offered -/
def DG (n : Nat) (X Y : Nat → Int) (n' : Nat) (X' Y' : Nat → Int) (D : Nat → Nat → Prop) (i j c d : Nat) : Prop := D c d ∨ ∃ i' j', i' < n ∧ j' < n' ∧ (i' < i ∨ (i' = i ∧ j' < j)) ∧ ((c = (vC n X Y i' (X' j') (Y' j')).1 ∧ d = (vC n X Y i' (X' j') (Y' j')).2) ∨ (c = (vC n' X' Y' j' (X i') (Y i')).1 ∧ d = (vC n' X' Y' j' (X i') (Y i')).2))
theorem DG_s (hi : i < n) (hj : j < n') : DG n X Y n' X' Y' D i (j + 1) c d ↔ ((DG n X Y n' X' Y' D i j c d ∨ (c = (vC n X Y i (X' j) (Y' j)).1 ∧ d = (vC n X Y i (X' j) (Y' j)).2)) ∨ (c = (vC n' X' Y' j (X i) (Y i)).1 ∧ d = (vC n' X' Y' j (X i) (Y i)).2)) := by
  unfold DG
  constructor
  · rintro (z | ⟨i', j', a1, a2, a3, a4⟩)
    · exact Or.inl (Or.inl (Or.inl z))
    · by_cases e : i' = i ∧ j' = j
      · obtain ⟨rfl, rfl⟩ := e
        rcases a4 with a4 | a4
        · exact Or.inl (Or.inr a4)
        · exact Or.inr a4
      · exact Or.inl (Or.inl (Or.inr ⟨i', j', a1, a2, by omega, a4⟩))
  · rintro (((z | ⟨i', j', a1, a2, a3, a4⟩) | z) | z)
    · exact Or.inl z
    · exact Or.inr ⟨i', j', a1, a2, by omega, a4⟩
    · exact Or.inr ⟨i, j, hi, hj, by omega, Or.inl z⟩
    · exact Or.inr ⟨i, j, hi, hj, by omega, Or.inr z⟩
theorem DG_n : DG n X Y n' X' Y' D (i + 1) 0 c d ↔ DG n X Y n' X' Y' D i n' c d := by
  unfold DG
  constructor
  · rintro (z | ⟨i', j', a1, a2, a3, a4⟩)
    · exact Or.inl z
    · exact Or.inr ⟨i', j', a1, a2, by omega, a4⟩
  · rintro (z | ⟨i', j', a1, a2, a3, a4⟩)
    · exact Or.inl z
    · exact Or.inr ⟨i', j', a1, a2, by omega, a4⟩
theorem c_gpi (hf : 5000 ≤ mpN P) (h : PlC σ a n X Y) (h' : PlC σ a' n' X' Y') (hi : i < n) (hA : mxA σ r = some (.inl 3)) (hb : mpb P ≤ r) (hr : r ≠ a ∧ r ≠ a + 1 ∧ r ≠ a + 2 ∧ r ≠ a' ∧ r ≠ a' + 1 ∧ r ≠ a' + 2) (hF : FN σ r p q) (hM : Mn p q (DG n X Y n' X' Y' D i 0)) : ∃ τ p' q', mx_lp (f_X9_reckonGap_L73 P a a' r (q_n i)) (mpN P) ((0 : Int32), σ) = some τ ∧ FN τ r p' q' ∧ Mn p' q' (DG n X Y n' X' Y' D (i + 1) 0) ∧ Fz (fun q j => q = r ∧ j ≤ 2) σ τ := by
  obtain ⟨τ, e, f, p1, q1, g1, g2⟩ := q_for (f_X9_reckonGap_L73 P a a' r (q_n i)) (fun k t => ∃ τ, t = (q_n k, τ) ∧ Fz (fun q j => q = r ∧ j ≤ 2) σ τ ∧ ∃ p q, FN τ r p q ∧ Mn p q (DG n X Y n' X' Y' D i k)) (fun τ => Fz (fun q j => q = r ∧ j ≤ 2) σ τ ∧ ∃ p q, FN τ r p q ∧ Mn p q (DG n X Y n' X' Y' D i n')) n'
    (by
      rintro k t hk ⟨τ, rfl, f, p, q, g1, g2⟩
      left
      have hC := PlC_f h f (fun q j z => by omega)
      have hC' := PlC_f h' f (fun q j z => by omega)
      obtain ⟨xk, yk⟩ := hC'.2.2.2 k hk
      have hC3 := hC'.2.2.1
      have hC4 := hC.2.2.1
      obtain ⟨τ1, p1, q1, e1, k1, k2, f1⟩ := c_foot (P := P) hf hC hi xk yk (by rw [f.1]; exact hA) hb g1 g2
      have hD := PlC_f hC f1 (fun q j z => by omega)
      have hD' := PlC_f hC' f1 (fun q j z => by omega)
      obtain ⟨xi, yi⟩ := hD.2.2.2 i hi
      obtain ⟨τ2, p2, q2, e2, l1, l2, f2⟩ := c_foot (P := P) hf hD' hk xi yi (by rw [f1.1, f.1]; exact hA) hb k1 k2
      show ∃ t', f_X9_reckonGap_B73 P a a' r (q_n i) (q_n k) τ = _ ∧ _
      unfold f_X9_reckonGap_B73
      rw [bd (ap_gI hC'.1), hC'.2.1, if_neg (by rw [q_nLe (by omega) (by omega)]; omega), bd (ap_r1 hC'.1), bd (ap_g1 hC'.1 (by omega)), bd (ap_r2 hC'.1), bd (ap_g2 hC'.1 (by omega)), bd (ap_is hC.1), bd e1, bd (ap_r1 hD.1), bd (ap_g1 hD.1 (by omega)), bd (ap_r2 hD.1), bd (ap_g2 hD.1 (by omega)), bd (ap_is hD'.1), bd e2, bds, q_nS]
      exact ⟨_, rfl, τ2, rfl, (f.tr f1).tr f2, p2, q2, l1, Mn_cg l2 fun c d => DG_s hi hk⟩)
    (by
      rintro t ⟨τ, rfl, f, g⟩
      have hC' := PlC_f h' f (fun q j z => by omega)
      refine ⟨τ, ?_, f, g⟩
      show f_X9_reckonGap_B73 P a a' r (q_n i) (q_n n') τ = _
      have := hC'.2.2.1
      unfold f_X9_reckonGap_B73
      rw [bd (ap_gI hC'.1), hC'.2.1, if_pos (by rw [q_nLe (by omega) (by omega)]; exact Nat.le_refl _)])
    n' 0 ((0 : Int32), σ) (mpN P) (by omega) ⟨σ, rfl, Fz.rf, p, q, hF, hM⟩ (by have := h'.2.2.1; omega)
  exact ⟨τ, p1, q1, e, g1, Mn_cg g2 fun c d => DG_n, f⟩
theorem c_gap (hf : 5000 ≤ mpN P) (h : PlC σ a n X Y) (h' : PlC σ a' n' X' Y') (hA : mxA σ r = some (.inl 3)) (hb : mpb P ≤ r) (hr : r ≠ a ∧ r ≠ a + 1 ∧ r ≠ a + 2 ∧ r ≠ a' ∧ r ≠ a' + 1 ∧ r ≠ a' + 2) (hF : FN σ r p q) (hM : Mn p q D) : ∃ τ p' q', mx_lp (f_X9_reckonGap_L61 P a a' r) (mpN P) ((0 : Int32), σ) = some τ ∧ FN τ r p' q' ∧ Mn p' q' (DG n X Y n' X' Y' D n 0) ∧ Fz (fun q j => q = r ∧ j ≤ 2) σ τ := by
  obtain ⟨τ, e, f, p1, q1, g1, g2⟩ := q_for (f_X9_reckonGap_L61 P a a' r) (fun k t => ∃ τ, t = (q_n k, τ) ∧ Fz (fun q j => q = r ∧ j ≤ 2) σ τ ∧ ∃ p q, FN τ r p q ∧ Mn p q (DG n X Y n' X' Y' D k 0)) (fun τ => Fz (fun q j => q = r ∧ j ≤ 2) σ τ ∧ ∃ p q, FN τ r p q ∧ Mn p q (DG n X Y n' X' Y' D n 0)) n
    (by
      rintro k t hk ⟨τ, rfl, f, p, q, g1, g2⟩
      left
      have hC := PlC_f h f (fun q j z => by omega)
      have hC' := PlC_f h' f (fun q j z => by omega)
      have hC4 := hC.2.2.1
      obtain ⟨τ1, p1, q1, e1, k1, k2, f1⟩ := c_gpi (P := P) hf hC hC' hk (by rw [f.1]; exact hA) hb hr g1 g2
      show ∃ t', f_X9_reckonGap_B61 P a a' r (q_n k) τ = _ ∧ _
      unfold f_X9_reckonGap_B61
      rw [bd (ap_gI hC.1), hC.2.1, if_neg (by rw [q_nLe (by omega) (by omega)]; omega), bd e1]
      refine ⟨_, rfl, τ1, ?_, f.tr f1, p1, q1, k1, k2⟩
      show (q_n k + 1, τ1) = _
      rw [q_nS])
    (by
      rintro t ⟨τ, rfl, f, g⟩
      have hC := PlC_f h f (fun q j z => by omega)
      have := hC.2.2.1
      refine ⟨τ, ?_, f, g⟩
      show f_X9_reckonGap_B61 P a a' r (q_n n) τ = _
      unfold f_X9_reckonGap_B61
      rw [bd (ap_gI hC.1), hC.2.1, if_pos (by rw [q_nLe (by omega) (by omega)]; exact Nat.le_refl _)])
    n 0 ((0 : Int32), σ) (mpN P) (by omega) ⟨σ, rfl, Fz.rf, p, q, hF, Mn_cg hM fun c d => by
      unfold DG
      constructor
      · rintro (z | ⟨i', j', a1, a2, a3, a4⟩)
        · exact z
        · omega
      · exact Or.inl⟩ (by have := h.2.2.1; omega)
  exact ⟨τ, p1, q1, e, g1, g2, f⟩
/-! in reach -/
def tIx (n : Nat) (X Y : Nat → Int) (n' : Nat) (X' Y' : Nat → Int) (i : Nat) : Bool := (r_fst (fun j => tcE n X Y n' X' Y' i j) n').isSome
def rcB (n : Nat) (X Y : Nat → Int) (n' : Nat) (X' Y' : Nat → Int) : Bool := (r_fst (tIx n X Y n' X' Y') n).isSome || (decide (inS n X Y (X' 0) (Y' 0) ≠ 0) || decide (inS n' X' Y' (X 0) (Y 0) ≠ 0))
theorem c_rci (hf : 5000 ≤ mpN P) (h : PlC σ a n X Y) (h' : PlC σ a' n' X' Y') (hi : i < n) : mx_lp (f_X9_isInReach_L12 P a a' (q_n i)) (mpN P) ((0 : Int32), σ) = some (if tIx n X Y n' X' Y' i then .inl σ else .inr σ) := by
  obtain ⟨h1, h2, h3, h4⟩ := id h'
  obtain ⟨r, e, hr⟩ := q_for (f_X9_isInReach_L12 P a a' (q_n i)) (fun k t => t = (q_n k, σ) ∧ r_fst (fun j => tcE n X Y n' X' Y' i j) k = none) (fun r => r = (if tIx n X Y n' X' Y' i then .inl σ else .inr σ)) n'
    (by
      rintro k t hk ⟨rfl, hn⟩
      show (∃ t', f_X9_isInReach_B12 P a a' (q_n i) (q_n k) σ = _ ∧ _) ∨ (∃ r, f_X9_isInReach_B12 P a a' (q_n i) (q_n k) σ = _ ∧ _)
      unfold f_X9_isInReach_B12
      rw [bd (ap_gI h1), h2, if_neg (by rw [q_nLe (by omega) (by omega)]; omega), bd (ap_is h.1), bd2 (c_tch h h' hi hk)]
      cases ht : tcE n X Y n' X' Y' i k with
      | true =>
        rw [if_neg (show ¬ bI true = 0 by decide)]
        refine Or.inr ⟨_, rfl, ?_⟩
        unfold tIx
        rw [fst_at hk ht hn]; rfl
      | false =>
        rw [if_pos (show bI false = 0 from rfl), bds, q_nS]
        exact Or.inl ⟨_, rfl, rfl, by rw [r_fst, hn, ht]; rfl⟩)
    (by
      rintro t ⟨rfl, hn⟩
      refine ⟨.inr σ, ?_, ?_⟩
      · show f_X9_isInReach_B12 P a a' (q_n i) (q_n n') σ = _
        unfold f_X9_isInReach_B12
        rw [bd (ap_gI h1), h2, if_pos (by rw [q_nLe (by omega) (by omega)]; exact Nat.le_refl _)]
      · unfold tIx; rw [hn]; rfl)
    n' 0 ((0 : Int32), σ) (mpN P) (by omega) ⟨rfl, rfl⟩ (by omega)
  rw [e, hr]
theorem c_rch (hf : 5000 ≤ mpN P) (h : PlC σ a n X Y) (h' : PlC σ a' n' X' Y') (hn0 : 0 < n) (hn0' : 0 < n') : f_X9_isInReach P a a' σ = some (bI (rcB n X Y n' X' Y'), σ) := by
  have hz1 : mr_Z 1 σ = some (1, σ) := if_pos (Or.inr rfl)
  have hz0 : mr_Z 0 σ = some (0, σ) := if_pos (Or.inl rfl)
  obtain ⟨h1, h2, h3, h4⟩ := id h
  obtain ⟨h1', h2', h3', h4'⟩ := id h'
  obtain ⟨r, e, hr⟩ := q_for (f_X9_isInReach_L2 P a a') (fun k t => t = (q_n k, σ) ∧ r_fst (tIx n X Y n' X' Y') k = none) (fun r => r = (if (r_fst (tIx n X Y n' X' Y') n).isSome then .inl σ else .inr σ)) n
    (by
      rintro k t hk ⟨rfl, hn⟩
      show (∃ t', f_X9_isInReach_B2 P a a' (q_n k) σ = _ ∧ _) ∨ (∃ r, f_X9_isInReach_B2 P a a' (q_n k) σ = _ ∧ _)
      unfold f_X9_isInReach_B2
      rw [bd (ap_gI h1), h2, if_neg (by rw [q_nLe (by omega) (by omega)]; omega), bd (c_rci hf h h' hk)]
      cases ht : tIx n X Y n' X' Y' k with
      | true =>
        refine Or.inr ⟨.inl σ, rfl, ?_⟩
        rw [fst_at hk ht hn]; rfl
      | false =>
        refine Or.inl ⟨(q_n k + 1, σ), rfl, by rw [q_nS], by rw [r_fst, hn, ht]; rfl⟩)
    (by
      rintro t ⟨rfl, hn⟩
      refine ⟨.inr σ, ?_, by rw [hn]; rfl⟩
      show f_X9_isInReach_B2 P a a' (q_n n) σ = _
      unfold f_X9_isInReach_B2
      rw [bd (ap_gI h1), h2, if_pos (by rw [q_nLe (by omega) (by omega)]; exact Nat.le_refl _)])
    n 0 ((0 : Int32), σ) (mpN P) (by omega) ⟨rfl, rfl⟩ (by omega)
  obtain ⟨x0, y0⟩ := h4 0 hn0
  obtain ⟨x0', y0'⟩ := h4' 0 hn0'
  unfold f_X9_isInReach f_X9_isInReach_D82 f_X9_isInReach_D87
  rw [bd e, hr]
  unfold rcB
  cases (r_fst (tIx n X Y n' X' Y') n).isSome with
  | true => rw [Bool.true_or]; exact hz1
  | false =>
    rw [Bool.false_or]
    show ((mg_R σ a' 9 1).bind fun b25 => (ma_L σ b25 1 (q_n 0)).bind fun x27 => (mg_R σ a' 9 2).bind fun b29 => (ma_L σ b29 1 (q_n 0)).bind fun x31 => (mx_is σ a 9).bind fun i33 => mx_b2 (f_X9_standing P a x27 x31 σ) fun x36 σ35 => (if x36 = 0 then (mg_R σ35 a 9 1).bind fun b39 => (ma_L σ35 b39 1 (q_n 0)).bind fun x41 => (mg_R σ35 a 9 2).bind fun b43 => (ma_L σ35 b43 1 (q_n 0)).bind fun x45 => (mx_is σ35 a' 9).bind fun i47 => mx_b2 (f_X9_standing P a' x41 x45 σ35) fun x50 σ49 => (if x50 = 0 then mr_Z (0 : Int32) σ49 else mr_Z 1 σ49) else mr_Z 1 σ35)) = _
    rw [bd (ap_r1 h1'), bd (ap_g1 h1' (by omega)), bd (ap_r2 h1'), bd (ap_g2 h1' (by omega)), bd (ap_is h1), bd2 (c_std (by omega) h x0' y0')]
    by_cases c0 : inS n X Y (X' 0) (Y' 0) = 0
    · rw [if_pos c0, bd (ap_r1 h1), bd (ap_g1 h1 (by omega)), bd (ap_r2 h1), bd (ap_g2 h1 (by omega)), bd (ap_is h1'), bd2 (c_std (by omega) h' x0 y0), decide_eq_false (fun z => z c0), Bool.false_or]
      by_cases c1 : inS n' X' Y' (X 0) (Y 0) = 0
      · rw [if_pos c1, decide_eq_false (fun z => z c1)]; exact hz0
      · rw [if_neg c1, decide_eq_true c1]; exact hz1
    · rw [if_neg c0, decide_eq_true c0, Bool.true_or]; exact hz1
/-- the class's distance -/
theorem c_dst (hf : 5000 ≤ mpN P) (h : PlC σ a n X Y) (h' : PlC σ a' n' X' Y') (hn0 : 0 < n) (hn0' : 0 < n') (hA : mxA σ r = some (.inl 3)) (hb : mpb P ≤ r) (hr : r ≠ a ∧ r ≠ a + 1 ∧ r ≠ a + 2 ∧ r ≠ a' ∧ r ≠ a' + 1 ∧ r ≠ a' + 2) : ∃ τ p q, f_X9_reckonGap P a a' r σ = some τ ∧ FN τ r p q ∧ Fz (fun q j => q = r ∧ j ≤ 2) σ τ ∧ ((rcB n X Y n' X' Y' = true ∧ p = 0 ∧ q = 1) ∨ (rcB n X Y n' X' Y' = false ∧ Mn p q (DG n X Y n' X' Y' (fun c d => c = (faE X Y 0 (X' 0) (Y' 0)).toNat ∧ d = 1) n 0))) := by
  obtain ⟨h1, h2, h3, h4⟩ := id h
  obtain ⟨h1', h2', h3', h4'⟩ := id h'
  obtain ⟨x0, y0⟩ := h4 0 hn0
  obtain ⟨x0', y0'⟩ := h4' 0 hn0'
  have fa : B64 _ (faE X Y 0 (X' 0) (Y' 0)) _ := b64A (b64M (b64S x0' x0 (by omega)) (b64S x0' x0 (by omega)) (by omega)) (b64M (b64S y0' y0 (by omega)) (b64S y0' y0 (by omega)) (by omega)) (by omega)
  obtain ⟨w1, w2⟩ := b64_n fa (ft_nn (n := n)).1 (by omega)
  unfold f_X9_reckonGap
  rw [bd (ap_is h1), bd2 (c_rch hf h h' hn0 hn0')]
  cases hc : rcB n X Y n' X' Y' with
  | true =>
    obtain ⟨τ, e, e1, e2⟩ := c_setN (P := P) (c := 0) (d := 1) hf hA hb (by omega) (by omega) (by omega)
    rw [if_neg (show ¬ bI true = 0 by decide), bd (q_is hA), bd (show f_X3_set P r (0 : Int64) (1 : Int64) σ = some τ from e)]
    exact ⟨τ, _, _, rfl, e1, e2, Or.inl ⟨rfl, rfl, rfl⟩⟩
  | false =>
    obtain ⟨τ, e, e1, e2⟩ := c_setN (P := P) (c := (faE X Y 0 (X' 0) (Y' 0)).toNat) (d := 1) hf hA hb (by omega) (by omega) (by omega)
    have hm := Mn_new (c := (faE X Y 0 (X' 0) (Y' 0)).toNat) (d := 1) (D := fun _ _ => False) (by omega) (fun _ _ z => z.elim)
    have hD := PlC_f h e2 (fun q j z => by omega)
    have hD' := PlC_f h' e2 (fun q j z => by omega)
    obtain ⟨τ2, p2, q2, g1, g2, g3, g4⟩ := c_gap (P := P) hf hD hD' (by rw [e2.1]; exact hA) hb hr e1 hm
    rw [if_pos (show bI false = 0 from rfl)]
    show ∃ τ p q, ((mg_R σ a' 9 1).bind fun b7 => (ma_L σ b7 1 (q_n 0)).bind fun x9 => (mg_R σ a 9 1).bind fun b11 => (ma_L σ b11 1 (q_n 0)).bind fun x13 => (some (x9 - x13)).bind fun x15 => (mg_R σ a' 9 2).bind fun b17 => (ma_L σ b17 1 (q_n 0)).bind fun x19 => (mg_R σ a 9 2).bind fun b21 => (ma_L σ b21 1 (q_n 0)).bind fun x23 => (some (x19 - x23)).bind fun x25 => (mx_is σ r 3).bind fun i27 => (f_X3_set P r ((x15 * x15) + (x25 * x25)) (1 : Int64) σ).bind fun σ29 => (mx_lp (f_X9_reckonGap_L61 P a a' r) (mpN P) ((0 : Int32), σ29)).bind (fun t => (fun σ70 => some σ70) t)) = some τ ∧ _
    rw [bd (ap_r1 h1'), bd (ap_g1 h1' (by omega)), bd (ap_r1 h1), bd (ap_g1 h1 (by omega)), bds, bd (ap_r2 h1'), bd (ap_g2 h1' (by omega)), bd (ap_r2 h1), bd (ap_g2 h1 (by omega)), bds, bd (q_is hA), w1, bd (show f_X3_set P r (l_n (faE X Y 0 (X' 0) (Y' 0)).toNat) (1 : Int64) σ = some τ from e), bd g1]
    refine ⟨τ2, p2, q2, rfl, g2, e2.tr g4, Or.inr ⟨rfl, Mn_cg g3 fun c d => ?_⟩⟩
    unfold DG
    constructor
    · rintro (z | z)
      · exact Or.inl (Or.inr z)
      · exact Or.inr z
    · rintro ((z | z) | z)
      · exact z.elim
      · exact Or.inl z
      · exact Or.inr z
end JJS
