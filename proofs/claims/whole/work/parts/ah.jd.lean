/-! ===== jd: edges that touch ===== -/
section JDS
variable {P : mx_P} {σ σ0 σ1 σ2 τ : mx_S} {x m n n' t p q i k j a a' A B C D : Nat} {X Y X' Y' : Nat → Int} {u v w z : Int64} {ax ay bx b2 cx cy dx dy s : Int}
theorem sg_1 {a t u e : Int} (h : a * t = u * e) (ht : 0 < t) (hu : 0 ≤ u) : (0 ≤ e → 0 ≤ a) ∧ (e ≤ 0 → a ≤ 0) := by
  constructor
  · intro he
    have h1 : 0 ≤ a * t := by rw [h]; exact Int.mul_nonneg hu he
    rcases Int.lt_or_le a 0 with c | c
    · have := Int.mul_neg_of_neg_of_pos c ht; omega
    · exact c
  · intro he
    have h1 : a * t ≤ 0 := by rw [h]; exact Int.mul_nonpos_of_nonneg_of_nonpos hu he
    rcases Int.lt_or_le 0 a with c | c
    · have := Int.mul_pos c ht; omega
    · exact c
/-- a point on a line that is parted by another through it -/
theorem seg_b (hS : sdP ax ay bx b2 cx cy = 0) (hT : sdP ax ay bx b2 dx dy ≠ 0) (hUV : (sdP cx cy dx dy ax ay ≤ 0 ∧ 0 ≤ sdP cx cy dx dy bx b2) ∨ (sdP cx cy dx dy bx b2 ≤ 0 ∧ 0 ≤ sdP cx cy dx dy ax ay)) : bwP ax ay bx b2 cx cy = true := by
  have i1 : (cx - ax) * sdP ax ay bx b2 dx dy = sdP cx cy dx dy ax ay * (bx - ax) := by unfold sdP at *; grind
  have i2 : (cy - ay) * sdP ax ay bx b2 dx dy = sdP cx cy dx dy ax ay * (b2 - ay) := by unfold sdP at *; grind
  have i3 : (bx - cx) * sdP ax ay bx b2 dx dy = -sdP cx cy dx dy bx b2 * (bx - ax) := by unfold sdP at *; grind
  have i4 : (b2 - cy) * sdP ax ay bx b2 dx dy = -sdP cx cy dx dy bx b2 * (b2 - ay) := by unfold sdP at *; grind
  have i5 : sdP cx cy dx dy bx b2 = sdP cx cy dx dy ax ay - sdP ax ay bx b2 dx dy := by unfold sdP at *; grind
  generalize sdP ax ay bx b2 dx dy = T at *
  generalize sdP cx cy dx dy ax ay = U at *
  generalize sdP cx cy dx dy bx b2 = V at *
  unfold bwP
  apply decide_eq_true
  rcases Int.lt_or_le 0 T with c | c
  · have a1 := sg_1 i1 c (by omega)
    have a2 := sg_1 i2 c (by omega)
    have a3 := sg_1 i3 c (by omega)
    have a4 := sg_1 i4 c (by omega)
    omega
  · have j1 : (cx - ax) * (-T) = (-U) * (bx - ax) := by grind
    have j2 : (cy - ay) * (-T) = (-U) * (b2 - ay) := by grind
    have j3 : (bx - cx) * (-T) = V * (bx - ax) := by grind
    have j4 : (b2 - cy) * (-T) = V * (b2 - ay) := by grind
    have a1 := sg_1 j1 (by omega) (by omega)
    have a2 := sg_1 j2 (by omega) (by omega)
    have a3 := sg_1 j3 (by omega) (by omega)
    have a4 := sg_1 j4 (by omega) (by omega)
    omega
def ptP (s t : Int) : Bool := decide ((s < 0 ∧ 0 < t) ∨ (0 < s ∧ t < 0))
def hdP (ax ay bx b2 cx cy : Int) : Bool := decide (sdP ax ay bx b2 cx cy = 0) && bwP ax ay bx b2 cx cy
/-- two edges have a point in common -/
def tcP (ax ay bx b2 cx cy dx dy : Int) : Bool := (ptP (sdP ax ay bx b2 cx cy) (sdP ax ay bx b2 dx dy) && ptP (sdP cx cy dx dy ax ay) (sdP cx cy dx dy bx b2)) || (hdP ax ay bx b2 cx cy || (hdP ax ay bx b2 dx dy || (hdP cx cy dx dy ax ay || hdP cx cy dx dy bx b2)))
def sgN (s : Int) : Int32 := if s < 0 then -1 else if 0 < s then 1 else 0
theorem sgN_ne {s t : Int} (h : sgN s ≠ sgN t) : (s ≤ 0 ∧ 0 ≤ t ∨ t ≤ 0 ∧ 0 ≤ s) ∧ (s = 0 → t ≠ 0) := by
  unfold sgN at h
  refine ⟨?_, fun h1 h2 => h (by rw [h1, h2])⟩
  rcases Int.lt_or_le s 0 with a | a
  · rcases Int.lt_or_le t 0 with b | b
    · rw [if_pos a, if_pos b] at h; exact absurd rfl h
    · omega
  · rcases Int.lt_or_le 0 s with c | c
    · rcases Int.lt_or_le 0 t with d | d
      · rw [if_neg (by omega), if_pos c, if_neg (by omega), if_pos d] at h; exact absurd rfl h
      · omega
    · rcases Int.lt_or_le t 0 with b | b <;> omega
theorem sgN_z {s : Int} : sgN s = 0 ↔ s = 0 := by
  unfold sgN
  rcases Int.lt_or_le s 0 with a | a
  · rw [if_pos a]; exact ⟨fun z => absurd z (by decide), fun z => by omega⟩
  · rw [if_neg (by omega)]
    rcases Int.lt_or_le 0 s with c | c
    · rw [if_pos c]; exact ⟨fun z => absurd z (by decide), fun z => by omega⟩
    · rw [if_neg (by omega)]; exact ⟨fun _ => by omega, fun _ => rfl⟩
theorem ptP_of {s t : Int} (h : sgN s ≠ sgN t) (h1 : s ≠ 0) (h2 : t ≠ 0) : ptP s t = true := by
  have := (sgN_ne h).1
  exact decide_eq_true (by omega)
theorem ptP_sg {s t : Int} (h : ptP s t = true) : sgN s ≠ sgN t := by
  have h' := of_decide_eq_true h
  unfold sgN
  rcases h' with ⟨a, b⟩ | ⟨a, b⟩
  · rw [if_pos a, if_neg (by omega), if_pos b]; decide
  · rw [if_neg (by omega), if_pos a, if_pos b]; decide
/-- as the reference says it -/
theorem tcP_m : tcP ax ay bx b2 cx cy dx dy = ((decide (sgN (sdP ax ay bx b2 cx cy) ≠ sgN (sdP ax ay bx b2 dx dy)) && decide (sgN (sdP cx cy dx dy ax ay) ≠ sgN (sdP cx cy dx dy bx b2))) || (hdP ax ay bx b2 cx cy || (hdP ax ay bx b2 dx dy || (hdP cx cy dx dy ax ay || hdP cx cy dx dy bx b2)))) := by
  unfold tcP
  cases hA : hdP ax ay bx b2 cx cy with
  | true => rw [Bool.true_or, Bool.or_true, Bool.or_true]
  | false =>
  cases hB : hdP ax ay bx b2 dx dy with
  | true => rw [Bool.true_or, Bool.or_true, Bool.or_true, Bool.or_true]
  | false =>
  cases hC : hdP cx cy dx dy ax ay with
  | true => rw [Bool.true_or, Bool.or_true, Bool.or_true, Bool.or_true, Bool.or_true]
  | false =>
  cases hD : hdP cx cy dx dy bx b2 with
  | true => rw [Bool.or_true, Bool.or_true, Bool.or_true, Bool.or_true, Bool.or_true]
  | false =>
    have sw : ∀ {ax ay bx b2 cx cy : Int}, sdP bx b2 ax ay cx cy = -sdP ax ay bx b2 cx cy := fun {ax ay bx b2 cx cy} => by unfold sdP; grind
    have bs' : ∀ {ax ay bx b2 cx cy : Int}, sdP ax ay bx b2 cx cy = 0 → bwP ax ay bx b2 cx cy = true → hdP ax ay bx b2 cx cy = true := fun h1 h2 => by unfold hdP; rw [decide_eq_true h1, h2]; rfl
    have key : ∀ (s t u v : Int), (s ≠ 0 ∨ sgN s = sgN t ∨ sgN u = sgN v) → (t ≠ 0 ∨ sgN s = sgN t ∨ sgN u = sgN v) → (u ≠ 0 ∨ sgN s = sgN t ∨ sgN u = sgN v) → (v ≠ 0 ∨ sgN s = sgN t ∨ sgN u = sgN v) → (ptP s t && ptP u v) = (decide (sgN s ≠ sgN t) && decide (sgN u ≠ sgN v)) := fun s t u v h1 h2 h3 h4 => by
      by_cases e1 : sgN s = sgN t
      · rw [decide_eq_false (fun z => z e1)]
        cases c : ptP s t with
        | true => exact absurd e1 (ptP_sg c)
        | false => rfl
      · by_cases e2 : sgN u = sgN v
        · rw [decide_eq_false (fun z : sgN u ≠ sgN v => z e2), Bool.and_false]
          cases c : ptP u v with
          | true => exact absurd e2 (ptP_sg c)
          | false => rw [Bool.and_false]
        · have no : ¬ (sgN s = sgN t ∨ sgN u = sgN v) := fun z => z.elim e1 e2
          have g1 : s ≠ 0 := h1.resolve_right no
          have g2 : t ≠ 0 := h2.resolve_right no
          have g3 : u ≠ 0 := h3.resolve_right no
          have g4 : v ≠ 0 := h4.resolve_right no
          rw [ptP_of e1 g1 g2, ptP_of e2 g3 g4, decide_eq_true e1, decide_eq_true e2]
    rw [key]
    · by_cases e0 : sdP ax ay bx b2 cx cy = 0
      · by_cases e1 : sgN (sdP ax ay bx b2 cx cy) = sgN (sdP ax ay bx b2 dx dy)
        · exact Or.inr (Or.inl e1)
        by_cases e2 : sgN (sdP cx cy dx dy ax ay) = sgN (sdP cx cy dx dy bx b2)
        · exact Or.inr (Or.inr e2)
        have := bs' e0 (seg_b e0 ((sgN_ne e1).2 e0) (sgN_ne e2).1)
        rw [hA] at this; cases this
      · exact Or.inl e0
    · by_cases e0 : sdP ax ay bx b2 dx dy = 0
      · by_cases e1 : sgN (sdP ax ay bx b2 cx cy) = sgN (sdP ax ay bx b2 dx dy)
        · exact Or.inr (Or.inl e1)
        by_cases e2 : sgN (sdP cx cy dx dy ax ay) = sgN (sdP cx cy dx dy bx b2)
        · exact Or.inr (Or.inr e2)
        have c1 : sdP ax ay bx b2 cx cy ≠ 0 := fun z => (sgN_ne e1).2 z e0
        have c2 := (sgN_ne e2).1
        have d1 : sdP dx dy cx cy ax ay = -sdP cx cy dx dy ax ay := sw
        have d2 : sdP dx dy cx cy bx b2 = -sdP cx cy dx dy bx b2 := sw
        have := bs' e0 (seg_b e0 c1 (by rw [d1, d2]; omega))
        rw [hB] at this; cases this
      · exact Or.inl e0
    · by_cases e0 : sdP cx cy dx dy ax ay = 0
      · by_cases e1 : sgN (sdP ax ay bx b2 cx cy) = sgN (sdP ax ay bx b2 dx dy)
        · exact Or.inr (Or.inl e1)
        by_cases e2 : sgN (sdP cx cy dx dy ax ay) = sgN (sdP cx cy dx dy bx b2)
        · exact Or.inr (Or.inr e2)
        have := bs' e0 (seg_b e0 ((sgN_ne e2).2 e0) (sgN_ne e1).1)
        rw [hC] at this; cases this
      · exact Or.inl e0
    · by_cases e0 : sdP cx cy dx dy bx b2 = 0
      · by_cases e1 : sgN (sdP ax ay bx b2 cx cy) = sgN (sdP ax ay bx b2 dx dy)
        · exact Or.inr (Or.inl e1)
        by_cases e2 : sgN (sdP cx cy dx dy ax ay) = sgN (sdP cx cy dx dy bx b2)
        · exact Or.inr (Or.inr e2)
        have c1 : sdP cx cy dx dy ax ay ≠ 0 := fun z => (sgN_ne e2).2 z e0
        have c2 := (sgN_ne e1).1
        have d1 : sdP bx b2 ax ay cx cy = -sdP ax ay bx b2 cx cy := sw
        have d2 : sdP bx b2 ax ay dx dy = -sdP ax ay bx b2 dx dy := sw
        have := bs' e0 (seg_b e0 c1 (by rw [d1, d2]; omega))
        rw [hD] at this; cases this
      · exact Or.inl e0
/-! the class -/
theorem c_pts (h : PlC σ a n X Y) (h' : PlC σ a' n' X' Y') (hi : i < n) (hj : j < n') : f_X9_parts P a (q_n i) a' (q_n j) σ = some (bI (ptP (sdE n X Y i (X' j) (Y' j)) (sdE n X Y i (X' (aft n' j)) (Y' (aft n' j)))), σ) := by
  have hz1 : mr_Z 1 σ = some (1, σ) := if_pos (Or.inr rfl)
  have hz0 : mr_Z 0 σ = some (0, σ) := if_pos (Or.inl rfl)
  obtain ⟨h1, h2, h3, h4⟩ := id h'
  have hl := aft_lt hj
  obtain ⟨xj, yj⟩ := h4 j hj
  obtain ⟨xl, yl⟩ := h4 _ hl
  obtain ⟨s, es, hs⟩ := c_sd (P := P) h hi xj yj
  obtain ⟨t, et, ht⟩ := c_sd (P := P) h hi xl yl
  unfold f_X9_parts f_X9_parts_D61 f_X9_parts_D75 f_X9_parts_D79 f_X9_parts_D80
  rw [bd (ap_is h1), bd2 (c_aft h' hj), bd (ap_r1 h1), bd (ap_g1 h1 (by omega)), bd (ap_r2 h1), bd (ap_g2 h1 (by omega)), bd (ap_is h.1), bd2 es, bd (ap_r1 h1), bd (ap_g1 h1 (by omega)), bd (ap_r2 h1), bd (ap_g2 h1 (by omega)), bd (ap_is h.1), bd2 et]
  generalize sdE n X Y i (X' j) (Y' j) = S at *
  generalize sdE n X Y i (X' (aft n' j)) (Y' (aft n' j)) = T at *
  have s1 : 0 ≤ lg_cmp s (0 : Int64) ↔ 0 ≤ S := by rw [l_nn, hs.1]
  have s2 : lg_cmp s (0 : Int64) ≤ 0 ↔ S ≤ 0 := by rw [l_np, hs.1]
  have t1 : 0 ≤ lg_cmp t (0 : Int64) ↔ 0 ≤ T := by rw [l_nn, ht.1]
  have t2 : 0 < lg_cmp t (0 : Int64) ↔ 0 < T := by rw [l_pos, ht.1]
  unfold ptP
  by_cases c1 : 0 ≤ S
  · rw [if_pos (s1.mpr c1)]
    by_cases c2 : S ≤ 0
    · rw [if_pos (s2.mpr c2), decide_eq_false (by omega)]; exact hz0
    · rw [if_neg (fun z => c2 (s2.mp z))]
      by_cases c3 : 0 ≤ T
      · rw [if_pos (t1.mpr c3), decide_eq_false (by omega)]; exact hz0
      · rw [if_neg (fun z => c3 (t1.mp z)), decide_eq_true (by omega)]; exact hz1
  · rw [if_neg (fun z => c1 (s1.mp z))]
    by_cases c3 : 0 < T
    · rw [if_pos (t2.mpr c3), decide_eq_true (by omega)]; exact hz1
    · rw [if_neg (fun z => c3 (t2.mp z)), if_pos (s2.mpr (by omega)), decide_eq_false (by omega)]; exact hz0
def tcE (n : Nat) (X Y : Nat → Int) (n' : Nat) (X' Y' : Nat → Int) (i j : Nat) : Bool := tcP (X i) (Y i) (X (aft n i)) (Y (aft n i)) (X' j) (Y' j) (X' (aft n' j)) (Y' (aft n' j))
theorem c_tch (h : PlC σ a n X Y) (h' : PlC σ a' n' X' Y') (hi : i < n) (hj : j < n') : f_X9_touches P a (q_n i) a' (q_n j) σ = some (bI (tcE n X Y n' X' Y' i j), σ) := by
  have hz1 : mr_Z 1 σ = some (1, σ) := if_pos (Or.inr rfl)
  have hz0 : mr_Z 0 σ = some (0, σ) := if_pos (Or.inl rfl)
  obtain ⟨h1, h2, h3, h4⟩ := id h
  obtain ⟨h1', h2', h3', h4'⟩ := id h'
  have hk := aft_lt hi
  have hl := aft_lt hj
  obtain ⟨xi, yi⟩ := h4 i hi
  obtain ⟨xk, yk⟩ := h4 _ hk
  obtain ⟨xj, yj⟩ := h4' j hj
  obtain ⟨xl, yl⟩ := h4' _ hl
  have hA := c_hd (P := P) h hi xj yj
  have hB := c_hd (P := P) h hi xl yl
  have hC := c_hd (P := P) h' hj xi yi
  have hD := c_hd (P := P) h' hj xk yk
  have d22 : f_X9_touches_D22 P a (q_n i) a' (q_n j) σ = some (bI (hdE n X Y i (X' j) (Y' j) || (hdE n X Y i (X' (aft n' j)) (Y' (aft n' j)) || (hdE n' X' Y' j (X i) (Y i) || hdE n' X' Y' j (X (aft n i)) (Y (aft n i))))), σ) := by
    unfold f_X9_touches_D22 f_X9_touches_D120 f_X9_touches_D125
    rw [bd (ap_is h1), bd2 (c_aft h hi), bd (ap_is h1'), bd2 (c_aft h' hj), bd (ap_r1 h1'), bd (ap_g1 h1' (by omega)), bd (ap_r2 h1'), bd (ap_g2 h1' (by omega)), bd (ap_is h1), bd2 hA]
    cases hdE n X Y i (X' j) (Y' j) with
    | true => rw [if_neg (show ¬ bI true = 0 by decide), Bool.true_or]; exact hz1
    | false =>
    rw [if_pos (show bI false = 0 from rfl), bd (ap_r1 h1'), bd (ap_g1 h1' (by omega)), bd (ap_r2 h1'), bd (ap_g2 h1' (by omega)), bd (ap_is h1), bd2 hB]
    cases hdE n X Y i (X' (aft n' j)) (Y' (aft n' j)) with
    | true => rw [if_neg (show ¬ bI true = 0 by decide), Bool.true_or]; exact hz1
    | false =>
    rw [if_pos (show bI false = 0 from rfl), bd (ap_r1 h1), bd (ap_g1 h1 (by omega)), bd (ap_r2 h1), bd (ap_g2 h1 (by omega)), bd (ap_is h1'), bd2 hC]
    cases hdE n' X' Y' j (X i) (Y i) with
    | true => rw [if_neg (show ¬ bI true = 0 by decide), Bool.true_or]; exact hz1
    | false =>
    rw [if_pos (show bI false = 0 from rfl), bd (ap_r1 h1), bd (ap_g1 h1 (by omega)), bd (ap_r2 h1), bd (ap_g2 h1 (by omega)), bd (ap_is h1'), bd2 hD]
    cases hdE n' X' Y' j (X (aft n i)) (Y (aft n i)) with
    | true => rw [if_neg (show ¬ bI true = 0 by decide)]; exact hz1
    | false => rw [if_pos (show bI false = 0 from rfl)]; exact hz0
  have te : tcE n X Y n' X' Y' i j = ((ptP (sdE n X Y i (X' j) (Y' j)) (sdE n X Y i (X' (aft n' j)) (Y' (aft n' j))) && ptP (sdE n' X' Y' j (X i) (Y i)) (sdE n' X' Y' j (X (aft n i)) (Y (aft n i)))) || (hdE n X Y i (X' j) (Y' j) || (hdE n X Y i (X' (aft n' j)) (Y' (aft n' j)) || (hdE n' X' Y' j (X i) (Y i) || hdE n' X' Y' j (X (aft n i)) (Y (aft n i)))))) := rfl
  unfold f_X9_touches
  rw [bd (ap_is h1), bd2 (c_pts h h' hi hj), d22, te]
  cases ptP (sdE n X Y i (X' j) (Y' j)) (sdE n X Y i (X' (aft n' j)) (Y' (aft n' j))) with
  | false => rw [if_pos (show bI false = 0 from rfl), Bool.false_and, Bool.false_or]
  | true =>
    rw [if_neg (show ¬ bI true = 0 by decide), bd (ap_is h1'), bd2 (c_pts h' h hj hi), Bool.true_and]
    cases ptP (sdE n' X' Y' j (X i) (Y i)) (sdE n' X' Y' j (X (aft n i)) (Y (aft n i))) with
    | false => rw [if_pos (show bI false = 0 from rfl), d22, Bool.false_or]
    | true => rw [if_neg (show ¬ bI true = 0 by decide), Bool.true_or]; exact hz1
/-! the reference -/
def PtR (σ : mx_S) (m A : Nat) (cx cy : Int) : Prop := A < 192 ∧ B64 (mxL σ (m + 60) A) cx 1000 ∧ B64 (mxL σ (m + 61) A) cy 1000
theorem r_sgn (h : B64 u s A) : f_X12_sign P u σ = some (sgN s, σ) := by
  unfold f_X12_sign f_X12_sign_D21 sgN
  have s1 : 0 ≤ lg_cmp u (0 : Int64) ↔ 0 ≤ s := by rw [l_nn, h.1]
  have s2 : lg_cmp u (0 : Int64) ≤ 0 ↔ s ≤ 0 := by rw [l_np, h.1]
  by_cases c1 : 0 ≤ s
  · rw [if_pos (s1.mpr c1), if_neg (show ¬ s < 0 by omega)]
    by_cases c2 : s ≤ 0
    · rw [if_pos (s2.mpr c2), if_neg (by omega)]
    · rw [if_neg (fun z => c2 (s2.mp z)), if_pos (by omega)]
  · rw [if_neg (fun z => c1 (s1.mp z)), if_pos (show s < 0 by omega)]
theorem r_sid (hM : LyM σ m) (ha : PtR σ m A ax ay) (hb : PtR σ m B bx b2) (hc : PtR σ m C cx cy) : f_X12_side P m (q_n A) (q_n B) (q_n C) σ = some (sgN (sdP ax ay bx b2 cx cy), σ) := by
  obtain ⟨a0, a1, a2⟩ := ha
  obtain ⟨b0, b1, b3⟩ := hb
  obtain ⟨c0, c1, c2⟩ := hc
  unfold f_X12_side
  rw [bd (am_r87 hM), bd (am_g87 hM b0), bd (am_r87 hM), bd (am_g87 hM a0), bd (am_r88 hM), bd (am_g88 hM c0), bd (am_r88 hM), bd (am_g88 hM a0), bd (am_r88 hM), bd (am_g88 hM b0), bd (am_r88 hM), bd (am_g88 hM a0), bd (am_r87 hM), bd (am_g87 hM c0), bd (am_r87 hM), bd (am_g87 hM a0), bd2 (r_sgn (b64S (b64M (b64S b1 a1 (by omega)) (b64S c2 a2 (by omega)) (by omega)) (b64M (b64S b3 a2 (by omega)) (b64S c1 a1 (by omega)) (by omega)) (by omega)))]
  rfl
theorem r_wth (hM : LyM σ m) (ha : PtR σ m A ax ay) (hb : PtR σ m B bx b2) (hc : PtR σ m C cx cy) : f_X12_within P m (q_n A) (q_n B) (q_n C) σ = some (bI (bwP ax ay bx b2 cx cy), σ) := by
  have hz1 : mr_Z 1 σ = some (1, σ) := if_pos (Or.inr rfl)
  have hz0 : mr_Z 0 σ = some (0, σ) := if_pos (Or.inl rfl)
  obtain ⟨a0, a1, a2⟩ := ha
  obtain ⟨b0, b1, b3⟩ := hb
  obtain ⟨c0, c1, c2⟩ := hc
  obtain ⟨w1, e1, k1⟩ := r_minL (P := P) (σ := σ) (u := mxL σ (m + 60) A) (v := mxL σ (m + 60) B)
  obtain ⟨w2, e2, k2⟩ := r_maxL (P := P) (σ := σ) (u := mxL σ (m + 60) A) (v := mxL σ (m + 60) B)
  obtain ⟨w3, e3, k3⟩ := r_minL (P := P) (σ := σ) (u := mxL σ (m + 61) A) (v := mxL σ (m + 61) B)
  obtain ⟨w4, e4, k4⟩ := r_maxL (P := P) (σ := σ) (u := mxL σ (m + 61) A) (v := mxL σ (m + 61) B)
  rw [a1.1, b1.1] at k1 k2
  rw [a2.1, b3.1] at k3 k4
  unfold f_X12_within f_X12_within_D104 f_X12_within_D105 bwP
  rw [bd (am_r87 hM), bd (am_g87 hM a0), bd (am_r87 hM), bd (am_g87 hM b0), bd2 e1, bd (am_r87 hM), bd (am_g87 hM c0)]
  by_cases q1 : 0 < lg_cmp w1 (mxL σ (m + 60) C)
  · rw [if_pos q1, decide_eq_false (by rw [q_cmp_gt, q_llt, k1, c1.1] at q1; omega)]; exact hz0
  rw [if_neg q1, bd (am_r87 hM), bd (am_g87 hM c0), bd (am_r87 hM), bd (am_g87 hM a0), bd (am_r87 hM), bd (am_g87 hM b0), bd2 e2]
  by_cases q2 : 0 < lg_cmp (mxL σ (m + 60) C) w2
  · rw [if_pos q2, decide_eq_false (by rw [q_cmp_gt, q_llt, k2, c1.1] at q2; omega)]; exact hz0
  rw [if_neg q2, bd (am_r88 hM), bd (am_g88 hM a0), bd (am_r88 hM), bd (am_g88 hM b0), bd2 e3, bd (am_r88 hM), bd (am_g88 hM c0)]
  by_cases q3 : 0 < lg_cmp w3 (mxL σ (m + 61) C)
  · rw [if_pos q3, decide_eq_false (by rw [q_cmp_gt, q_llt, k3, c2.1] at q3; omega)]; exact hz0
  rw [if_neg q3, bd (am_r88 hM), bd (am_g88 hM c0), bd (am_r88 hM), bd (am_g88 hM a0), bd (am_r88 hM), bd (am_g88 hM b0), bd2 e4]
  by_cases q4 : 0 < lg_cmp (mxL σ (m + 61) C) w4
  · rw [if_pos q4, decide_eq_false (by rw [q_cmp_gt, q_llt, k4, c2.1] at q4; omega)]; exact hz0
  rw [if_neg q4, decide_eq_true (by
    rw [q_cmp_gt, q_llt, k1, c1.1] at q1
    rw [q_cmp_gt, q_llt, k2, c1.1] at q2
    rw [q_cmp_gt, q_llt, k3, c2.1] at q3
    rw [q_cmp_gt, q_llt, k4, c2.1] at q4
    omega)]; exact hz1
theorem sgN_m {s t : Int} (h : sgN s ≠ sgN t) : ¬ 0 < sgN s * sgN t := by
  unfold sgN at *
  rcases Int.lt_or_le s 0 with a | a
  · rw [if_pos a] at h ⊢
    rcases Int.lt_or_le t 0 with b | b
    · rw [if_pos b] at h; exact absurd rfl h
    · rw [if_neg (by omega)]
      split <;> decide
  · rw [if_neg (by omega)] at h ⊢
    rcases Int.lt_or_le 0 s with c | c
    · rw [if_pos c] at h ⊢
      rcases Int.lt_or_le t 0 with b | b
      · rw [if_pos b]; decide
      · rw [if_neg (by omega)] at h ⊢
        rcases Int.lt_or_le 0 t with d | d
        · rw [if_pos d] at h; exact absurd rfl h
        · rw [if_neg (by omega)]; decide
    · rw [if_neg (show ¬ 0 < s by omega)]
      split
      · decide
      · split <;> decide
theorem r_meet (hM : LyM σ m) (ha : PtR σ m A ax ay) (hb : PtR σ m B bx b2) (hc : PtR σ m C cx cy) (hd : PtR σ m D dx dy) : f_X12_meet P m (q_n A) (q_n B) (q_n C) (q_n D) σ = some (bI (tcP ax ay bx b2 cx cy dx dy), σ) := by
  have hz1 : mr_Z 1 σ = some (1, σ) := if_pos (Or.inr rfl)
  have hz0 : mr_Z 0 σ = some (0, σ) := if_pos (Or.inl rfl)
  have d71 : f_X12_meet_D71 P m (q_n A) (q_n B) (q_n C) (q_n D) (sgN (sdP ax ay bx b2 cx cy)) (sgN (sdP ax ay bx b2 dx dy)) (sgN (sdP cx cy dx dy ax ay)) (sgN (sdP cx cy dx dy bx b2)) σ = some (bI (hdP ax ay bx b2 cx cy || (hdP ax ay bx b2 dx dy || (hdP cx cy dx dy ax ay || hdP cx cy dx dy bx b2))), σ) := by
    have s4 : f_X12_meet_D118 P m (q_n B) (q_n C) (q_n D) (sgN (sdP cx cy dx dy bx b2)) σ = some (bI (hdP cx cy dx dy bx b2), σ) := by
      unfold f_X12_meet_D118 f_X12_meet_D134 f_X12_meet_D138 f_X12_meet_D139 hdP
      by_cases c : sdP cx cy dx dy bx b2 = 0
      · rw [if_pos (sgN_z.mpr c), bd (am_is hM), bd2 (r_wth hM hc hd hb), decide_eq_true c, Bool.true_and]
        cases bwP cx cy dx dy bx b2 with
        | true => rw [if_neg (show ¬ bI true = 0 by decide)]; exact hz1
        | false => rw [if_pos (show bI false = 0 from rfl)]; exact hz0
      · rw [if_neg (fun z => c (sgN_z.mp z)), decide_eq_false c]; exact hz0
    have s3 : f_X12_meet_D102 P m (q_n A) (q_n B) (q_n C) (q_n D) (sgN (sdP cx cy dx dy ax ay)) (sgN (sdP cx cy dx dy bx b2)) σ = some (bI (hdP cx cy dx dy ax ay || hdP cx cy dx dy bx b2), σ) := by
      unfold f_X12_meet_D102 f_X12_meet_D134 f_X12_meet_D139
      rw [s4]
      by_cases c : sdP cx cy dx dy ax ay = 0
      · rw [if_pos (sgN_z.mpr c), bd (am_is hM), bd2 (r_wth hM hc hd ha)]
        have e : hdP cx cy dx dy ax ay = bwP cx cy dx dy ax ay := by unfold hdP; rw [decide_eq_true c, Bool.true_and]
        rw [e]
        cases bwP cx cy dx dy ax ay with
        | true => rw [if_neg (show ¬ bI true = 0 by decide), Bool.true_or]; exact hz1
        | false => rw [if_pos (show bI false = 0 from rfl), Bool.false_or]; exact s4
      · rw [if_neg (fun z => c (sgN_z.mp z)), show hdP cx cy dx dy ax ay = false by unfold hdP; rw [decide_eq_false c]; rfl, Bool.false_or]
    have s2 : f_X12_meet_D86 P m (q_n A) (q_n B) (q_n C) (q_n D) (sgN (sdP ax ay bx b2 dx dy)) (sgN (sdP cx cy dx dy ax ay)) (sgN (sdP cx cy dx dy bx b2)) σ = some (bI (hdP ax ay bx b2 dx dy || (hdP cx cy dx dy ax ay || hdP cx cy dx dy bx b2)), σ) := by
      unfold f_X12_meet_D86 f_X12_meet_D134 f_X12_meet_D139
      rw [s3]
      by_cases c : sdP ax ay bx b2 dx dy = 0
      · rw [if_pos (sgN_z.mpr c), bd (am_is hM), bd2 (r_wth hM ha hb hd)]
        have e : hdP ax ay bx b2 dx dy = bwP ax ay bx b2 dx dy := by unfold hdP; rw [decide_eq_true c, Bool.true_and]
        rw [e]
        cases bwP ax ay bx b2 dx dy with
        | true => rw [if_neg (show ¬ bI true = 0 by decide), Bool.true_or]; exact hz1
        | false => rw [if_pos (show bI false = 0 from rfl), Bool.false_or]; exact s3
      · rw [if_neg (fun z => c (sgN_z.mp z)), show hdP ax ay bx b2 dx dy = false by unfold hdP; rw [decide_eq_false c]; rfl, Bool.false_or]
    unfold f_X12_meet_D71 f_X12_meet_D134 f_X12_meet_D139
    rw [s2]
    by_cases c : sdP ax ay bx b2 cx cy = 0
    · rw [if_pos (sgN_z.mpr c), bd (am_is hM), bd2 (r_wth hM ha hb hc)]
      have e : hdP ax ay bx b2 cx cy = bwP ax ay bx b2 cx cy := by unfold hdP; rw [decide_eq_true c, Bool.true_and]
      rw [e]
      cases bwP ax ay bx b2 cx cy with
      | true => rw [if_neg (show ¬ bI true = 0 by decide), Bool.true_or]; exact hz1
      | false => rw [if_pos (show bI false = 0 from rfl), Bool.false_or]; exact s2
    · rw [if_neg (fun z => c (sgN_z.mp z)), show hdP ax ay bx b2 cx cy = false by unfold hdP; rw [decide_eq_false c]; rfl, Bool.false_or]
  unfold f_X12_meet
  rw [bd (am_is hM), bd2 (r_sid hM ha hb hc), bd (am_is hM), bd2 (r_sid hM ha hb hd), bd (am_is hM), bd2 (r_sid hM hc hd ha), bd (am_is hM), bd2 (r_sid hM hc hd hb), d71, tcP_m]
  by_cases e1 : sgN (sdP ax ay bx b2 cx cy) = sgN (sdP ax ay bx b2 dx dy)
  · rw [if_pos e1, decide_eq_false (fun z => z e1), Bool.false_and, Bool.false_or]
  · rw [if_neg e1]
    by_cases e2 : sgN (sdP cx cy dx dy ax ay) = sgN (sdP cx cy dx dy bx b2)
    · rw [if_pos e2, decide_eq_false (fun z : sgN (sdP cx cy dx dy ax ay) ≠ sgN (sdP cx cy dx dy bx b2) => z e2), Bool.and_false, Bool.false_or]
    · rw [if_neg e2, if_neg (sgN_m e1), if_neg (sgN_m e2), decide_eq_true e1, decide_eq_true e2, Bool.and_self, Bool.true_or]; exact hz1
end JDS
