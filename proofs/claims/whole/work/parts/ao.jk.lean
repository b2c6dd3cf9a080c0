/-! ===== jk: distance ===== -/
section JKS
variable {P : mx_P} {σ σ0 σ1 σ2 τ : mx_S} {x a a' b c d p q p' q' m n n' i j k r A : Nat} {X Y X' Y' : Nat → Int} {u v w : Int64} {s : Int} {D D' : Nat → Nat → Prop} {S : Nat → Nat → Prop}
theorem inS_3 {c d : Int} : inS n X Y c d = 0 ∨ inS n X Y c d = 1 ∨ inS n X Y c d = 2 := by
  unfold inS
  split
  · exact Or.inr (Or.inr rfl)
  · split
    · exact Or.inl rfl
    · exact Or.inr (Or.inl rfl)
theorem inS_le {c d : Int} : inS n X Y c d ≤ 0 ↔ inS n X Y c d = 0 := by
  rcases inS_3 (n := n) (X := X) (Y := Y) (c := c) (d := d) with z | z | z <;> rw [z] <;> decide
theorem r_tci (hf : 5000 ≤ mpN P) (h : PlR σ m p n X Y) (h' : PlR σ m q n' X' Y') (hi : i < n) : mx_lp (f_X12_touch_L47 P m (q_n p) (q_n q) (q_n i)) (mpN P) ((0 : Int32), σ) = some (if tIx n X Y n' X' Y' i then .inl σ else .inr σ) := by
  obtain ⟨h1, h2, h3, h0, h4⟩ := id h'
  have hn := h.2.2.2.1
  obtain ⟨r, e, hr⟩ := q_for (f_X12_touch_L47 P m (q_n p) (q_n q) (q_n i)) (fun k t => t = (q_n k, σ) ∧ r_fst (fun j => tcE n X Y n' X' Y' i j) k = none) (fun r => r = (if tIx n X Y n' X' Y' i then .inl σ else .inr σ)) n'
    (by
      rintro k t hk ⟨rfl, hno⟩
      have ix : ∀ p k, (24 : Int32) * q_n p + q_n k = q_n (24 * p + k) := fun p k => by rw [show (24 : Int32) = q_n 24 from rfl, q_nM, q_nA]
      show (∃ t', f_X12_touch_B47 P m (q_n p) (q_n q) (q_n i) (q_n k) σ = _ ∧ _) ∨ (∃ r, f_X12_touch_B47 P m (q_n p) (q_n q) (q_n i) (q_n k) σ = _ ∧ _)
      unfold f_X12_touch_B47
      have hm := r_meet (P := P) h1 (PlR_pt h hi) (PlR_pt h (aft_lt hi)) (PlR_pt h' hk) (PlR_pt h' (aft_lt hk))
      rw [bd (am_r86 h1), bd (am_g86 h1 h2), h3, if_neg (by rw [q_nLe (by omega) (by omega)]; omega), bd (am_is h1), bd2 (r_aft h hi), bd (am_is h1), bd2 (r_aft h' hk), bd (am_is h1), ix, ix, bd2 hm]
      cases ht : tcE n X Y n' X' Y' i k with
      | true =>
        rw [show tcP (X i) (Y i) (X (aft n i)) (Y (aft n i)) (X' k) (Y' k) (X' (aft n' k)) (Y' (aft n' k)) = true from ht, if_neg (show ¬ bI true = 0 by decide)]
        refine Or.inr ⟨_, rfl, ?_⟩
        unfold tIx
        rw [fst_at hk ht hno]; rfl
      | false =>
        rw [show tcP (X i) (Y i) (X (aft n i)) (Y (aft n i)) (X' k) (Y' k) (X' (aft n' k)) (Y' (aft n' k)) = false from ht, if_pos (show bI false = 0 from rfl), bds, q_nS]
        exact Or.inl ⟨_, rfl, rfl, by rw [r_fst, hno, ht]; rfl⟩)
    (by
      rintro t ⟨rfl, hno⟩
      refine ⟨.inr σ, ?_, ?_⟩
      · show f_X12_touch_B47 P m (q_n p) (q_n q) (q_n i) (q_n n') σ = _
        unfold f_X12_touch_B47
        rw [bd (am_r86 h1), bd (am_g86 h1 h2), h3, if_pos (by rw [q_nLe (by omega) (by omega)]; exact Nat.le_refl _)]
      · unfold tIx; rw [hno]; rfl)
    n' 0 ((0 : Int32), σ) (mpN P) (by omega) ⟨rfl, rfl⟩ (by omega)
  rw [e, hr]
def tcR (n : Nat) (X Y : Nat → Int) (n' : Nat) (X' Y' : Nat → Int) (i : Nat) : Bool := decide (inS n' X' Y' (X i) (Y i) ≠ 0) || tIx n X Y n' X' Y' i
theorem r_tch (hf : 5000 ≤ mpN P) (h : PlR σ m p n X Y) (h' : PlR σ m q n' X' Y') : f_X12_touch P m (q_n p) (q_n q) σ = some (bI (r_fst (tcR n X Y n' X' Y') n).isSome, σ) := by
  have hz1 : mr_Z 1 σ = some (1, σ) := if_pos (Or.inr rfl)
  have hz0 : mr_Z 0 σ = some (0, σ) := if_pos (Or.inl rfl)
  obtain ⟨h1, h2, h3, h0, h4⟩ := id h
  have hn' := h'.2.2.2.1
  obtain ⟨r, e, hr⟩ := q_for (f_X12_touch_L2 P m (q_n p) (q_n q)) (fun k t => t = (q_n k, σ) ∧ r_fst (tcR n X Y n' X' Y') k = none) (fun r => ((r_fst (tcR n X Y n' X' Y') n).isSome = true ∧ (r = .inl σ ∨ r = .inr (.inl σ))) ∨ ((r_fst (tcR n X Y n' X' Y') n).isSome = false ∧ r = .inr (.inr σ))) n
    (by
      rintro k t hk ⟨rfl, hno⟩
      have ix : (24 : Int32) * q_n p + q_n k = q_n (24 * p + k) := by rw [show (24 : Int32) = q_n 24 from rfl, q_nM, q_nA]
      obtain ⟨xk, yk⟩ := h4 k hk
      show (∃ t', f_X12_touch_B2 P m (q_n p) (q_n q) (q_n k) σ = _ ∧ _) ∨ (∃ r, f_X12_touch_B2 P m (q_n p) (q_n q) (q_n k) σ = _ ∧ _)
      unfold f_X12_touch_B2
      rw [bd (am_r86 h1), bd (am_g86 h1 h2), h3, if_neg (by rw [q_nLe (by omega) (by omega)]; omega), bd (am_r87 h1), ix, bd (am_g87 h1 (by omega)), bd (am_r88 h1), bd (am_g88 h1 (by omega)), bd (am_is h1), bd2 (r_std (by omega) h' xk yk)]
      by_cases c0 : inS n' X' Y' (X k) (Y k) = 0
      · rw [if_pos (inS_le.mpr c0), bd (r_tci hf h h' hk)]
        cases ht : tIx n X Y n' X' Y' k with
        | true =>
          refine Or.inr ⟨.inr (.inl σ), rfl, Or.inl ⟨?_, Or.inr rfl⟩⟩
          rw [fst_at hk (by unfold tcR; rw [ht, Bool.or_true]) hno]; rfl
        | false =>
          refine Or.inl ⟨(q_n k + 1, σ), rfl, by rw [q_nS], ?_⟩
          rw [r_fst, hno, show tcR n X Y n' X' Y' k = false by unfold tcR; rw [ht, decide_eq_false (fun z => z c0)]; rfl]; rfl
      · rw [if_neg (fun z => c0 (inS_le.mp z))]
        refine Or.inr ⟨.inl σ, rfl, Or.inl ⟨?_, Or.inl rfl⟩⟩
        rw [fst_at hk (by unfold tcR; rw [decide_eq_true c0, Bool.true_or]) hno]; rfl)
    (by
      rintro t ⟨rfl, hno⟩
      refine ⟨.inr (.inr σ), ?_, Or.inr ⟨by rw [hno]; rfl, rfl⟩⟩
      show f_X12_touch_B2 P m (q_n p) (q_n q) (q_n n) σ = _
      unfold f_X12_touch_B2
      rw [bd (am_r86 h1), bd (am_g86 h1 h2), h3, if_pos (by rw [q_nLe (by omega) (by omega)]; exact Nat.le_refl _)])
    n 0 ((0 : Int32), σ) (mpN P) (by omega) ⟨rfl, rfl⟩ (by omega)
  unfold f_X12_touch
  rw [bd e]
  rcases hr with ⟨z, rfl | rfl⟩ | ⟨z, rfl⟩
  · rw [z]; exact hz1
  · rw [z]; exact hz1
  · rw [z]; exact hz0
/-! both say the same of the reach -/
theorem tcP_c {ax ay bx b2 cx cy dx dy : Int} : tcP cx cy dx dy ax ay bx b2 = tcP ax ay bx b2 cx cy dx dy := by
  unfold tcP
  cases ptP (sdP ax ay bx b2 cx cy) (sdP ax ay bx b2 dx dy) <;> cases ptP (sdP cx cy dx dy ax ay) (sdP cx cy dx dy bx b2) <;> cases hdP ax ay bx b2 cx cy <;> cases hdP ax ay bx b2 dx dy <;> cases hdP cx cy dx dy ax ay <;> cases hdP cx cy dx dy bx b2 <;> rfl
theorem fst_is {z : Nat → Bool} : (r_fst z n).isSome = true ↔ ∃ k, k < n ∧ z k = true := by
  constructor
  · intro h
    cases e : r_fst z n with
    | none => rw [e] at h; cases h
    | some k => exact ⟨k, r_fst_lt e, r_fst_tr e⟩
  · rintro ⟨k, hk, hz⟩
    cases e : r_fst z n with
    | none => rw [fst_n0 e k hk] at hz; cases hz
    | some k => rfl
/-- no edges meet: all corners stand alike -/
theorem st_all (hno : ∀ i j, i < n → j < n' → tcE n X Y n' X' Y' i j = false) : ∀ i, i < n → (inS n' X' Y' (X i) (Y i) = 0 ↔ inS n' X' Y' (X 0) (Y 0) = 0) := by
  have one : ∀ i, i < n → (inS n' X' Y' (X i) (Y i) = 0 ↔ sm (tnE n' X' Y' (X i) (Y i)) n' = 0) := fun i hi => by
    have hh : r_fst (fun j => hdE n' X' Y' j (X i) (Y i)) n' = none := fst_no fun j hj => by
      have ht := hno i j hi hj
      unfold tcE tcP at ht
      rw [Bool.or_eq_false_iff, Bool.or_eq_false_iff, Bool.or_eq_false_iff, Bool.or_eq_false_iff] at ht
      exact ht.2.2.2.1
    unfold inS
    rw [hh]
    dsimp only
    by_cases c : sm (tnE n' X' Y' (X i) (Y i)) n' = 0
    · rw [if_pos c]; exact ⟨fun _ => c, fun _ => rfl⟩
    · rw [if_neg c]; exact ⟨fun z => absurd z (by decide), fun z => absurd z c⟩
  intro i
  induction i with
  | zero => intro _; exact Iff.rfl
  | succ i ih =>
    intro hi
    have h0 := ih (by omega)
    have e : aft n i = i + 1 := by unfold aft; rw [if_pos hi]
    have hw := wnd (n := n') (X := X') (Y := Y') (ax := X i) (ay := Y i) (bx := X (i + 1)) (b2 := Y (i + 1)) (fun j hj => by
      have ht := hno i j (by omega) hj
      unfold tcE at ht
      rw [e] at ht
      exact noT_of ht)
    rw [one (i + 1) hi, ← hw, ← one i (by omega)]
    exact h0
theorem rc_eq (hn : 0 < n) (hn' : 0 < n') : rcB n X Y n' X' Y' = ((r_fst (tcR n X Y n' X' Y') n).isSome || (r_fst (tcR n' X' Y' n X Y) n').isSome) := by
  have sym : ∀ i j, tcE n' X' Y' n X Y j i = tcE n X Y n' X' Y' i j := fun i j => tcP_c
  have tl : ∀ {b c : Bool}, (b = true ↔ c = true) → b = c := fun {b c} h => by cases b <;> cases c <;> simp_all
  apply tl
  unfold rcB
  rw [Bool.or_eq_true, Bool.or_eq_true, Bool.or_eq_true, fst_is, fst_is, fst_is, decide_eq_true_eq, decide_eq_true_eq]
  by_cases ht : ∃ i j, i < n ∧ j < n' ∧ tcE n X Y n' X' Y' i j = true
  · obtain ⟨i, j, hi, hj, he⟩ := ht
    have h1 : tIx n X Y n' X' Y' i = true := fst_is.mpr ⟨j, hj, he⟩
    exact ⟨fun _ => Or.inl ⟨i, hi, by unfold tcR; rw [h1, Bool.or_true]⟩, fun _ => Or.inl ⟨i, hi, h1⟩⟩
  · have hno : ∀ i j, i < n → j < n' → tcE n X Y n' X' Y' i j = false := fun i j hi hj => by
      cases e : tcE n X Y n' X' Y' i j with
      | true => exact absurd ⟨i, j, hi, hj, e⟩ ht
      | false => rfl
    have hno' : ∀ j i, j < n' → i < n → tcE n' X' Y' n X Y j i = false := fun j i hj hi => (sym i j).trans (hno i j hi hj)
    have a1 := st_all hno
    have a2 := st_all hno'
    have nt : ∀ i, i < n → tIx n X Y n' X' Y' i = false := fun i hi => by
      unfold tIx; rw [fst_no fun j hj => hno i j hi hj]; rfl
    have nt' : ∀ j, j < n' → tIx n' X' Y' n X Y j = false := fun j hj => by
      unfold tIx; rw [fst_no fun i hi => hno' j i hj hi]; rfl
    constructor
    · rintro (⟨i, hi, z⟩ | z | z)
      · rw [nt i hi] at z; cases z
      · exact Or.inr ⟨0, hn', by unfold tcR; rw [decide_eq_true z, Bool.true_or]⟩
      · exact Or.inl ⟨0, hn, by unfold tcR; rw [decide_eq_true z, Bool.true_or]⟩
    · rintro (⟨i, hi, z⟩ | ⟨j, hj, z⟩)
      · unfold tcR at z
        rw [nt i hi, Bool.or_false, decide_eq_true_eq] at z
        exact Or.inr (Or.inr (fun y => z ((a1 i hi).mpr y)))
      · unfold tcR at z
        rw [nt' j hj, Bool.or_false, decide_eq_true_eq] at z
        exact Or.inr (Or.inl (fun y => z ((a2 j hj).mpr y)))
/-! the reference's distances -/
def DR (n : Nat) (X Y : Nat → Int) (n' : Nat) (X' Y' : Nat → Int) (D : Nat → Nat → Prop) (i j c d : Nat) : Prop := D c d ∨ ∃ i' j', i' < n ∧ j' < n' ∧ (i' < i ∨ (i' = i ∧ j' < j)) ∧ (c = (vR n' X' Y' j' (X i') (Y i')).1 ∧ d = (vR n' X' Y' j' (X i') (Y i')).2)
theorem DR_s (hi : i < n) (hj : j < n') : DR n X Y n' X' Y' D i (j + 1) c d ↔ (DR n X Y n' X' Y' D i j c d ∨ (c = (vR n' X' Y' j (X i) (Y i)).1 ∧ d = (vR n' X' Y' j (X i) (Y i)).2)) := by
  unfold DR
  constructor
  · rintro (z | ⟨i', j', a1, a2, a3, a4⟩)
    · exact Or.inl (Or.inl z)
    · by_cases e : i' = i ∧ j' = j
      · obtain ⟨rfl, rfl⟩ := e
        exact Or.inr a4
      · exact Or.inl (Or.inr ⟨i', j', a1, a2, by omega, a4⟩)
  · rintro ((z | ⟨i', j', a1, a2, a3, a4⟩) | z)
    · exact Or.inl z
    · exact Or.inr ⟨i', j', a1, a2, by omega, a4⟩
    · exact Or.inr ⟨i, j, hi, hj, by omega, z⟩
theorem DR_n : DR n X Y n' X' Y' D (i + 1) 0 c d ↔ DR n X Y n' X' Y' D i n' c d := by
  unfold DR
  constructor
  · rintro (z | ⟨i', j', a1, a2, a3, a4⟩)
    · exact Or.inl z
    · exact Or.inr ⟨i', j', a1, a2, by omega, a4⟩
  · rintro (z | ⟨i', j', a1, a2, a3, a4⟩)
    · exact Or.inl z
    · exact Or.inr ⟨i', j', a1, a2, by omega, a4⟩
theorem FNr_cg (h : FNr σ m D) (e : ∀ c d, D' c d ↔ D c d) : FNr σ m D' := by
  rcases h with ⟨h1, h2⟩ | ⟨p, q, h1, h2, h3, h4, h5⟩
  · exact Or.inl ⟨h1, fun c d z => h2 c d ((e c d).mp z)⟩
  · exact Or.inr ⟨p, q, h1, h2, h3, h4, Mn_cg h5 e⟩
def neF (m : Nat) : Nat → Nat → Prop := fun q j => q = m ∧ (j = 89 ∨ j = 90)
theorem r_d1 (hf : 5000 ≤ mpN P) (hb : mpb P ≤ m) (h : PlR σ m p n X Y) (h' : PlR σ m q n' X' Y') (hi : i < n) (hj : j < n') (hF : FNr σ m D) : ∃ τ, f_X12_distances_B41 P m (q_n p) (q_n q) (q_n i) (mxL σ (m + 60) (24 * p + i)) (mxL σ (m + 61) (24 * p + i)) (q_n j) σ = some (.inl (q_n (j + 1), τ)) ∧ FNr τ m (fun c d => D c d ∨ (c = (vR n' X' Y' j (X i) (Y i)).1 ∧ d = (vR n' X' Y' j (X i) (Y i)).2)) ∧ Fz (neF m) σ τ := by
  obtain ⟨h1, h2, h3, h0, h4⟩ := id h'
  obtain ⟨xi, yi⟩ := h.2.2.2.2 i hi
  have hl := aft_lt hj
  obtain ⟨xj, yj⟩ := h4 j hj
  obtain ⟨xl, yl⟩ := h4 _ hl
  have ix : (24 : Int32) * q_n q + q_n j = q_n (24 * q + j) := by rw [show (24 : Int32) = q_n 24 from rfl, q_nM, q_nA]
  have ex := b64S xl xj (by omega)
  have ey := b64S yl yj (by omega)
  have px := b64S xi xj (by omega)
  have py := b64S yi yj (by omega)
  have al : B64 _ (alE n' X' Y' j (X i) (Y i)) _ := b64A (b64M px ex (by omega)) (b64M py ey (by omega)) (by omega)
  have wh : B64 _ (whE n' X' Y' j) _ := b64A (b64M ex ex (by omega)) (b64M ey ey (by omega)) (by omega)
  have as' : B64 _ (asE n' X' Y' j (X i) (Y i)) _ := b64S (b64M px ey (by omega)) (b64M py ex (by omega)) (by omega)
  have a2 := b64M as' as' (by omega)
  have fa : B64 _ (faE X' Y' j (X i) (Y i)) _ := b64A (b64M px px (by omega)) (b64M py py (by omega)) (by omega)
  have en : B64 _ (enE n' X' Y' j (X i) (Y i)) _ := b64A (b64M (b64S px ex (by omega)) (b64S px ex (by omega)) (by omega)) (b64M (b64S py ey (by omega)) (b64S py ey (by omega)) (by omega)) (by omega)
  obtain ⟨n1, n2, n3⟩ := ft_nn (n := n') (X := X') (Y := Y') (i := j) (x := X i) (y := Y i)
  have n4 := sq_n (asE n' X' Y' j (X i) (Y i))
  unfold f_X12_distances_B41
  rw [bd (am_r86 h1), bd (am_g86 h1 h2), h3, if_neg (by rw [q_nLe (by omega) (by omega)]; omega), bd (am_r87 h1), ix, bd (am_g87 h1 (by omega)), bd (am_r88 h1), bd (am_g88 h1 (by omega)), bd (am_r87 h1), bd (am_is h1), bd2 (r_aft h' hj), bd (am_g87 h1 (by omega)), bds, bd (am_r88 h1), bd (am_is h1), bd2 (r_aft h' hj), bd (am_g88 h1 (by omega)), bds, bds, bds, bds, bds, bds]
  have far : ¬ (0 < whE n' X' Y' j ∧ 0 ≤ alE n' X' Y' j (X i) (Y i) ∧ alE n' X' Y' j (X i) (Y i) ≤ whE n' X' Y' j) → ∀ f e : Int64, B64 f (faE X' Y' j (X i) (Y i)) 100000000 → B64 e (enE n' X' Y' j (X i) (Y i)) 100000000 → ∃ τ, f_X12_distances_D263_41 P m (q_n p) (q_n q) (q_n i) (mxL σ (m + 60) (24 * p + i)) (mxL σ (m + 61) (24 * p + i)) (q_n j) f e σ = some (.inl (q_n (j + 1), τ)) ∧ FNr τ m (fun c d => D c d ∨ (c = (vR n' X' Y' j (X i) (Y i)).1 ∧ d = (vR n' X' Y' j (X i) (Y i)).2)) ∧ Fz (neF m) σ τ := fun hc f e hfa hen => by
    obtain ⟨w, ew, hw⟩ := r_minL (P := P) (σ := σ) (u := f) (v := e)
    rw [hfa.1, hen.1] at hw
    have hwn : w = l_n (min (faE X' Y' j (X i) (Y i)) (enE n' X' Y' j (X i) (Y i))).toNat := (b64_n (A := 100000000) ⟨hw, by have a := hfa.2; have b := hen.2; omega⟩ (by omega) (by omega)).1
    have hle : (min (faE X' Y' j (X i) (Y i)) (enE n' X' Y' j (X i) (Y i))).toNat ≤ 100000000 := by have a := hfa.2; have b := hen.2; omega
    obtain ⟨τ, e1, e2, e3⟩ := r_nea (P := P) (c := (min (faE X' Y' j (X i) (Y i)) (enE n' X' Y' j (X i) (Y i))).toNat) (d := 1) hf h1 hb hF (by omega) (by omega) (by omega)
    unfold f_X12_distances_D263_41 f_X12_distances_D275_41
    rw [bd2 ew, hwn, bd (am_is h1), bd (show f_X12_nearer P m (l_n (min (faE X' Y' j (X i) (Y i)) (enE n' X' Y' j (X i) (Y i))).toNat) (1 : Int64) σ = some τ from e1), bds, q_nS]
    refine ⟨τ, rfl, ?_, e3⟩
    unfold vR
    rw [if_neg hc]
    exact e2
  have fa' := b64w fa (show _ ≤ 100000000 by omega)
  have en' := b64w en (show _ ≤ 100000000 by omega)
  by_cases c1 : whE n' X' Y' j ≤ 0
  · rw [if_pos (by rw [l_np, wh.1]; exact c1)]
    exact far (by omega) _ _ fa' en'
  · rw [if_neg (by rw [l_np, wh.1]; exact c1)]
    by_cases c2 : alE n' X' Y' j (X i) (Y i) < 0
    · rw [if_pos (by rw [l_neg, al.1]; exact c2)]
      exact far (by omega) _ _ fa' en'
    · rw [if_neg (by rw [l_neg, al.1]; exact c2)]
      by_cases c3 : whE n' X' Y' j < alE n' X' Y' j (X i) (Y i)
      · rw [if_pos (by rw [q_cmp_gt, q_llt, wh.1, al.1]; exact c3)]
        exact far (by omega) _ _ fa' en'
      · obtain ⟨w1, w2⟩ := b64_n a2 n4 (by omega)
        obtain ⟨w3, w4⟩ := b64_n wh n3 (by omega)
        obtain ⟨τ, e1, e2, e3⟩ := r_nea (P := P) (c := (asE n' X' Y' j (X i) (Y i) * asE n' X' Y' j (X i) (Y i)).toNat) (d := (whE n' X' Y' j).toNat) hf h1 hb hF (by omega) (by omega) (by omega)
        rw [if_neg (by rw [q_cmp_gt, q_llt, wh.1, al.1]; exact c3), bd (am_is h1), w1, w3, bd e1]
        unfold f_X12_distances_D275_41
        rw [bds, q_nS]
        refine ⟨τ, rfl, ?_, e3⟩
        unfold vR
        rw [if_pos (by omega)]
        exact e2
theorem r_dis (hf : 5000 ≤ mpN P) (hb : mpb P ≤ m) (h : PlR σ m p n X Y) (h' : PlR σ m q n' X' Y') (hF : FNr σ m D) : ∃ τ, f_X12_distances P m (q_n p) (q_n q) σ = some τ ∧ FNr τ m (DR n X Y n' X' Y' D n 0) ∧ Fz (neF m) σ τ := by
  have nsf : ∀ q j, neF m q j → q ≠ m + 59 ∧ q ≠ m + 60 ∧ q ≠ m + 61 := fun q j z => by unfold neF at z; omega
  obtain ⟨τ, e, f, g⟩ := q_for (f_X12_distances_L2 P m (q_n p) (q_n q)) (fun k t => ∃ τ, t = (q_n k, τ) ∧ Fz (neF m) σ τ ∧ FNr τ m (DR n X Y n' X' Y' D k 0)) (fun τ => Fz (neF m) σ τ ∧ FNr τ m (DR n X Y n' X' Y' D n 0)) n
    (by
      rintro k t hk ⟨τ, rfl, f, g⟩
      left
      have hC := PlR_f h f nsf
      have hC' := PlR_f h' f nsf
      obtain ⟨h1, h2, h3, h0, h4⟩ := id hC
      have ix : (24 : Int32) * q_n p + q_n k = q_n (24 * p + k) := by rw [show (24 : Int32) = q_n 24 from rfl, q_nM, q_nA]
      obtain ⟨τ1, e1, f1, g1⟩ := q_for (f_X12_distances_L41 P m (q_n p) (q_n q) (q_n k) (mxL τ (m + 60) (24 * p + k)) (mxL τ (m + 61) (24 * p + k))) (fun j t => ∃ τ1, t = (q_n j, τ1) ∧ Fz (neF m) τ τ1 ∧ FNr τ1 m (DR n X Y n' X' Y' D k j)) (fun τ1 => Fz (neF m) τ τ1 ∧ FNr τ1 m (DR n X Y n' X' Y' D k n')) n'
        (by
          rintro j t hj ⟨τ1, rfl, f1, g1⟩
          left
          have hE := PlR_f hC f1 nsf
          have hE' := PlR_f hC' f1 nsf
          obtain ⟨τ2, e2, g2, f2⟩ := r_d1 (P := P) hf hb hE hE' hk hj g1
          rw [(f1.2.2.2 _ _ (fun z => by unfold neF at z; omega)).2, (f1.2.2.2 _ _ (fun z => by unfold neF at z; omega)).2] at e2
          exact ⟨_, e2, τ2, rfl, f1.tr f2, FNr_cg g2 fun c d => DR_s hk hj⟩)
        (by
          rintro t ⟨τ1, rfl, f1, g1⟩
          have hE' := PlR_f hC' f1 nsf
          obtain ⟨k1, k2, k3, k0, -⟩ := hE'
          refine ⟨τ1, ?_, f1, g1⟩
          show f_X12_distances_B41 P m (q_n p) (q_n q) (q_n k) _ _ (q_n n') τ1 = _
          unfold f_X12_distances_B41
          rw [bd (am_r86 k1), bd (am_g86 k1 k2), k3, if_pos (by rw [q_nLe (by omega) (by omega)]; exact Nat.le_refl _)])
        n' 0 ((0 : Int32), τ) (mpN P) (by omega) ⟨τ, rfl, Fz.rf, g⟩ (by have := h'.2.2.2.1; omega)
      show ∃ t', f_X12_distances_B2 P m (q_n p) (q_n q) (q_n k) τ = _ ∧ _
      unfold f_X12_distances_B2
      rw [bd (am_r86 h1), bd (am_g86 h1 h2), h3, if_neg (by rw [q_nLe (by omega) (by omega)]; omega), bd (am_r87 h1), ix, bd (am_g87 h1 (by omega)), bd (am_r88 h1), bd (am_g88 h1 (by omega)), bd e1]
      refine ⟨_, rfl, τ1, ?_, f.tr f1, FNr_cg g1 fun c d => DR_n⟩
      show (q_n k + 1, τ1) = _
      rw [q_nS])
    (by
      rintro t ⟨τ, rfl, f, g⟩
      obtain ⟨k1, k2, k3, k0, -⟩ := PlR_f h f nsf
      refine ⟨τ, ?_, f, g⟩
      show f_X12_distances_B2 P m (q_n p) (q_n q) (q_n n) τ = _
      unfold f_X12_distances_B2
      rw [bd (am_r86 k1), bd (am_g86 k1 k2), k3, if_pos (by rw [q_nLe (by omega) (by omega)]; exact Nat.le_refl _)])
    n 0 ((0 : Int32), σ) (mpN P) (by omega) ⟨σ, rfl, Fz.rf, FNr_cg hF fun c d => by
      unfold DR
      constructor
      · rintro (z | ⟨i', j', a1, a2, a3, a4⟩)
        · exact z
        · omega
      · exact Or.inl⟩ (by have := h.2.2.2.1; omega)
  refine ⟨τ, ?_, g, f⟩
  unfold f_X12_distances
  rw [bd e]
end JKS
