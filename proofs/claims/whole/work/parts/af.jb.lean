/-! ===== jb: plates: sides, inside ===== -/
section JBS
variable {P : mx_P} {σ σ0 σ1 σ2 τ : mx_S} {x m n t p q i k j a A B : Nat} {X Y : Nat → Int} {u v w z : Int64} {c d e f : Int}
/-- a long, its value and a bound -/
def B64 (u : Int64) (c : Int) (A : Nat) : Prop := u.toInt = c ∧ c.natAbs ≤ A
theorem b64A (h1 : B64 u c A) (h2 : B64 v d B) (h : A + B < 4611686018427387904) : B64 (u + v) (c + d) (A + B) := by
  obtain ⟨a1, a2⟩ := h1
  obtain ⟨b1, b2⟩ := h2
  exact ⟨by rw [q_ladd (by omega) (by omega), a1, b1], by omega⟩
theorem b64S (h1 : B64 u c A) (h2 : B64 v d B) (h : A + B < 4611686018427387904) : B64 (u - v) (c - d) (A + B) := by
  obtain ⟨a1, a2⟩ := h1
  obtain ⟨b1, b2⟩ := h2
  exact ⟨by rw [q_lsub (by omega) (by omega), a1, b1], by omega⟩
theorem b64M (h1 : B64 u c A) (h2 : B64 v d B) (h : A * B < 4611686018427387904) : B64 (u * v) (c * d) (A * B) := by
  obtain ⟨a1, a2⟩ := h1
  obtain ⟨b1, b2⟩ := h2
  have hm : (c * d).natAbs ≤ A * B := by rw [Int.natAbs_mul]; exact Nat.mul_le_mul a2 b2
  exact ⟨by rw [q_lmul (by rw [a1, b1]; omega) (by rw [a1, b1]; omega), a1, b1], hm⟩
theorem b64w (h : B64 u c A) (hb : A ≤ B) : B64 u c B := ⟨h.1, by have := h.2; omega⟩
theorem b64n (h : B64 u c A) (hA : A < 4611686018427387904) : B64 (-u) (-c) A := by
  obtain ⟨a1, a2⟩ := h
  exact ⟨by rw [q_lneg (by omega), a1], by omega⟩
def aft (n k : Nat) : Nat := if k + 1 < n then k + 1 else 0
theorem aft_lt (h : k < n) : aft n k < n := by unfold aft; split <;> omega
/-- the class's plate -/
def PlC (σ : mx_S) (a n : Nat) (X Y : Nat → Int) : Prop := LyO (mxA σ) (mxR σ) 9 al9 a ∧ mxI σ a 0 = q_n n ∧ n ≤ 24 ∧ ∀ k, k < n → B64 (mxL σ (a + 1) k) (X k) 1000 ∧ B64 (mxL σ (a + 2) k) (Y k) 1000
def PlR (σ : mx_S) (m p n : Nat) (X Y : Nat → Int) : Prop := LyM σ m ∧ p < 8 ∧ mxI σ (m + 59) p = q_n n ∧ n ≤ 24 ∧ ∀ k, k < n → B64 (mxL σ (m + 60) (24 * p + k)) (X k) 1000 ∧ B64 (mxL σ (m + 61) (24 * p + k)) (Y k) 1000
theorem c_aft (h : PlC σ a n X Y) (hk : k < n) : f_X9_after P a (q_n k) σ = some (q_n (aft n k), σ) := by
  obtain ⟨h1, h2, h3, -⟩ := h
  unfold f_X9_after f_X9_after_D17 aft
  rw [bd (ap_gI h1), h2, q_nS]
  by_cases c : k + 1 < n
  · rw [if_neg (by rw [q_nLe (by omega) (by omega)]; omega), if_pos c]
  · rw [if_pos (by rw [q_nLe (by omega) (by omega)]; omega), if_neg c]; rfl
theorem r_aft (h : PlR σ m p n X Y) (hk : k < n) : f_X12_after P m (q_n p) (q_n k) σ = some (q_n (24 * p + aft n k), σ) := by
  obtain ⟨h1, h2, h3, h4, -⟩ := h
  unfold f_X12_after f_X12_after_D23 aft
  rw [bd (am_r86 h1), bd (am_g86 h1 h2), h3, q_nS, show (24 : Int32) = q_n 24 from rfl, q_nM]
  by_cases c : k + 1 < n
  · rw [if_neg (fun z => by rw [q_nI (by omega) (by omega)] at z; omega), if_pos c, q_nA]
  · rw [if_pos (by rw [show k + 1 = n by omega]), if_neg c, show (0 : Int32) = q_n 0 from rfl, q_nA]
theorem c_mnL : ∃ w, f_J9_min_f86c9 P u v σ = some (w, σ) ∧ w.toInt = min u.toInt v.toInt := by
  unfold f_J9_min_f86c9 f_J9_min_f86c9_D11
  by_cases c : 0 < lg_cmp u v
  · rw [if_pos c]; rw [q_cmp_gt, q_llt] at c; exact ⟨_, rfl, by omega⟩
  · rw [if_neg c]; rw [q_cmp_gt, q_llt] at c; exact ⟨_, rfl, by omega⟩
theorem c_mxL : ∃ w, f_J9_max_f86c9 P u v σ = some (w, σ) ∧ w.toInt = max u.toInt v.toInt := by
  unfold f_J9_max_f86c9 f_J9_max_f86c9_D11
  by_cases c : lg_cmp u v < 0
  · rw [if_pos c]; rw [q_cmp_lt, q_llt] at c; exact ⟨_, rfl, by omega⟩
  · rw [if_neg c]; rw [q_cmp_lt, q_llt] at c; exact ⟨_, rfl, by omega⟩
theorem r_minL : ∃ w, f_X12_smaller P u v σ = some (w, σ) ∧ w.toInt = min u.toInt v.toInt := by
  unfold f_X12_smaller f_X12_smaller_D11
  by_cases c : 0 ≤ lg_cmp u v
  · rw [if_pos c]; rw [q_cmp_ge, q_lle] at c; exact ⟨_, rfl, by omega⟩
  · rw [if_neg c]; rw [q_cmp_ge, q_lle] at c; exact ⟨_, rfl, by omega⟩
theorem r_maxL : ∃ w, f_X12_most P u v σ = some (w, σ) ∧ w.toInt = max u.toInt v.toInt := by
  unfold f_X12_most f_X12_most_D11
  by_cases c : lg_cmp u v ≤ 0
  · rw [if_pos c]; rw [q_cmp_le, q_lle] at c; exact ⟨_, rfl, by omega⟩
  · rw [if_neg c]; rw [q_cmp_le, q_lle] at c; exact ⟨_, rfl, by omega⟩
/-- the side of a line, a point in a box -/
def sdP (ax ay bx by' cx cy : Int) : Int := (bx - ax) * (cy - ay) - (by' - ay) * (cx - ax)
def bwP (ax ay bx by' cx cy : Int) : Bool := decide ((min ax bx ≤ cx ∧ cx ≤ max ax bx) ∧ min ay by' ≤ cy ∧ cy ≤ max ay by')
def sdE (n : Nat) (X Y : Nat → Int) (i : Nat) (c d : Int) : Int := sdP (X i) (Y i) (X (aft n i)) (Y (aft n i)) c d
def hdE (n : Nat) (X Y : Nat → Int) (i : Nat) (c d : Int) : Bool := decide (sdE n X Y i c d = 0) && bwP (X i) (Y i) (X (aft n i)) (Y (aft n i)) c d
theorem c_sd (h : PlC σ a n X Y) (hi : i < n) (hu : B64 u c 1000) (hv : B64 v d 1000) : ∃ w, f_X9_sideOf P a (q_n i) u v σ = some (w, σ) ∧ B64 w (sdE n X Y i c d) 8000000 := by
  obtain ⟨h1, h2, h3, h4⟩ := id h
  have hl := aft_lt hi
  obtain ⟨xi, yi⟩ := h4 i hi
  obtain ⟨xl, yl⟩ := h4 _ hl
  unfold f_X9_sideOf
  rw [bd (ap_is h1), bd2 (c_aft h hi), bd (ap_r1 h1), bd (ap_g1 h1 (by omega)), bd (ap_r1 h1), bd (ap_g1 h1 (by omega)), bd (ap_r2 h1), bd (ap_g2 h1 (by omega)), bd (ap_r2 h1), bd (ap_g2 h1 (by omega)), bd (ap_r2 h1), bd (ap_g2 h1 (by omega)), bd (ap_r1 h1), bd (ap_g1 h1 (by omega))]
  exact ⟨_, rfl, b64S (b64M (b64S xl xi (by omega)) (b64S hv yi (by omega)) (by omega)) (b64M (b64S yl yi (by omega)) (b64S hu xi (by omega)) (by omega)) (by omega)⟩
theorem bI_a (b : Bool) : bI (true && b) = bI b := rfl
theorem c_hd (h : PlC σ a n X Y) (hi : i < n) (hu : B64 u c 1000) (hv : B64 v d 1000) : f_X9_holds P a (q_n i) u v σ = some (bI (hdE n X Y i c d), σ) := by
  have hz1 : mr_Z 1 σ = some (1, σ) := if_pos (Or.inr rfl)
  have hz0 : mr_Z 0 σ = some (0, σ) := if_pos (Or.inl rfl)
  obtain ⟨h1, h2, h3, h4⟩ := id h
  have hl := aft_lt hi
  obtain ⟨xi, yi⟩ := h4 i hi
  obtain ⟨xl, yl⟩ := h4 _ hl
  obtain ⟨w, ew, hw⟩ := c_sd (P := P) h hi hu hv
  unfold f_X9_holds f_X9_holds_D110 f_X9_holds_D111
  rw [bd (ap_is h1), bd2 (c_aft h hi), bd (ap_is h1), bd2 ew]
  unfold hdE
  by_cases c0 : sdE n X Y i c d = 0
  · rw [if_pos (q_cmp0.mpr (Int64.toInt.inj (by rw [hw.1, c0]; rfl))), decide_eq_true c0, bI_a]
    obtain ⟨w1, e1, k1⟩ := c_mnL (P := P) (σ := σ) (u := mxL σ (a + 1) i) (v := mxL σ (a + 1) (aft n i))
    obtain ⟨w2, e2, k2⟩ := c_mxL (P := P) (σ := σ) (u := mxL σ (a + 1) i) (v := mxL σ (a + 1) (aft n i))
    obtain ⟨w3, e3, k3⟩ := c_mnL (P := P) (σ := σ) (u := mxL σ (a + 2) i) (v := mxL σ (a + 2) (aft n i))
    obtain ⟨w4, e4, k4⟩ := c_mxL (P := P) (σ := σ) (u := mxL σ (a + 2) i) (v := mxL σ (a + 2) (aft n i))
    rw [xi.1, xl.1] at k1 k2
    rw [yi.1, yl.1] at k3 k4
    rw [bd (ap_r1 h1), bd (ap_g1 h1 (by omega)), bd (ap_r1 h1), bd (ap_g1 h1 (by omega)), bd2 e1]
    unfold bwP
    by_cases q1 : 0 < lg_cmp w1 u
    · rw [if_pos q1, decide_eq_false (by rw [q_cmp_gt, q_llt, k1, hu.1] at q1; omega)]; exact hz0
    rw [if_neg q1, bd (ap_r1 h1), bd (ap_g1 h1 (by omega)), bd (ap_r1 h1), bd (ap_g1 h1 (by omega)), bd2 e2]
    by_cases q2 : 0 < lg_cmp u w2
    · rw [if_pos q2, decide_eq_false (by rw [q_cmp_gt, q_llt, k2, hu.1] at q2; omega)]; exact hz0
    rw [if_neg q2, bd (ap_r2 h1), bd (ap_g2 h1 (by omega)), bd (ap_r2 h1), bd (ap_g2 h1 (by omega)), bd2 e3]
    by_cases q3 : 0 < lg_cmp w3 v
    · rw [if_pos q3, decide_eq_false (by rw [q_cmp_gt, q_llt, k3, hv.1] at q3; omega)]; exact hz0
    rw [if_neg q3, bd (ap_r2 h1), bd (ap_g2 h1 (by omega)), bd (ap_r2 h1), bd (ap_g2 h1 (by omega)), bd2 e4]
    by_cases q4 : 0 < lg_cmp v w4
    · rw [if_pos q4, decide_eq_false (by rw [q_cmp_gt, q_llt, k4, hv.1] at q4; omega)]; exact hz0
    rw [if_neg q4, decide_eq_true (by
      rw [q_cmp_gt, q_llt, k1, hu.1] at q1
      rw [q_cmp_gt, q_llt, k2, hu.1] at q2
      rw [q_cmp_gt, q_llt, k3, hv.1] at q3
      rw [q_cmp_gt, q_llt, k4, hv.1] at q4
      omega)]; exact hz1
  · rw [if_neg (fun z => c0 (by have := q_cmp0.mp z; rw [← hw.1, this]; rfl)), decide_eq_false c0]; exact hz0
def sm (f : Nat → Int) : Nat → Int
  | 0 => 0
  | k + 1 => sm f k + f k
/-- how an edge turns round a point -/
def tnE (n : Nat) (X Y : Nat → Int) (c d : Int) (i : Nat) : Int := if Y i ≤ d ∧ d < Y (aft n i) ∧ 0 < sdE n X Y i c d then 1 else if d < Y i ∧ Y (aft n i) ≤ d ∧ sdE n X Y i c d < 0 then -1 else 0
theorem tn_b : -1 ≤ tnE n X Y c d i ∧ tnE n X Y c d i ≤ 1 := by unfold tnE; split <;> (try split) <;> omega
theorem sm_tn : ∀ k : Nat, -(k : Int) ≤ sm (tnE n X Y c d) k ∧ sm (tnE n X Y c d) k ≤ k
  | 0 => by rw [sm]; omega
  | k + 1 => by
    have a := sm_tn k
    have b := tn_b (n := n) (X := X) (Y := Y) (c := c) (d := d) (i := k)
    rw [sm]; omega
def inS (n : Nat) (X Y : Nat → Int) (c d : Int) : Int32 := match r_fst (fun i => hdE n X Y i c d) n with
  | some _ => 2
  | none => if sm (tnE n X Y c d) n = 0 then 0 else 1
theorem iA1 {y : Int32} {s : Int} (h : y.toInt = s) (h1 : -1000 ≤ s) (h2 : s ≤ 1000) : (y + 1).toInt = s + 1 ∧ (y + (-1)).toInt = s - 1 := by
  have e1 : (1 : Int32).toInt = 1 := rfl
  have e2 : (-1 : Int32).toInt = -1 := rfl
  exact ⟨by rw [q_iadd (by rw [h, e1]; omega) (by rw [h, e1]; omega), h, e1], by rw [q_iadd (by rw [h, e2]; omega) (by rw [h, e2]; omega), h, e2]; omega⟩
/-- the class's INSIDE -/
theorem c_std (hf : 100 ≤ mpN P) (h : PlC σ a n X Y) (hu : B64 u c 1000) (hv : B64 v d 1000) : f_X9_standing P a u v σ = some (inS n X Y c d, σ) := by
  obtain ⟨h1, h2, h3, h4⟩ := id h
  obtain ⟨r, e, hr⟩ := q_for (f_X9_standing_L6 P a u v) (fun k t => ∃ y, t = (y, q_n k, σ) ∧ y.toInt = sm (tnE n X Y c d) k ∧ r_fst (fun i => hdE n X Y i c d) k = none)
    (fun r => (r = .inl σ ∧ ∃ i, r_fst (fun i => hdE n X Y i c d) n = some i) ∨ ∃ y, r = .inr (y, σ) ∧ y.toInt = sm (tnE n X Y c d) n ∧ r_fst (fun i => hdE n X Y i c d) n = none) n
    (by
      rintro k t hk ⟨y, rfl, hy, hn⟩
      have hl := aft_lt hk
      obtain ⟨xk, yk⟩ := h4 k hk
      obtain ⟨xl, yl⟩ := h4 _ hl
      obtain ⟨w, ew, hw⟩ := c_sd (P := P) h hk hu hv
      have hb := sm_tn (n := n) (X := X) (Y := Y) (c := c) (d := d) k
      obtain ⟨p1, p2⟩ := iA1 hy (by omega) (by omega)
      show (∃ t', f_X9_standing_B6 P a u v y (q_n k) σ = _ ∧ _) ∨ (∃ r, f_X9_standing_B6 P a u v y (q_n k) σ = _ ∧ _)
      unfold f_X9_standing_B6 f_X9_standing_D45_6 f_X9_standing_D68_6 f_X9_standing_D99_6 f_X9_standing_D125_6
      rw [bd (ap_gI h1), h2, if_neg (by rw [q_nLe (by omega) (by omega)]; omega), bd (ap_is h1), bd2 (c_hd h hk hu hv)]
      cases ch : hdE n X Y k c d with
      | true =>
        rw [if_neg (show ¬ bI true = 0 by decide)]
        exact Or.inr ⟨_, rfl, Or.inl ⟨rfl, k, fst_at hk ch hn⟩⟩
      | false =>
        left
        have hn' : r_fst (fun i => hdE n X Y i c d) (k + 1) = none := by rw [r_fst, hn, ch]; rfl
        rw [if_pos (show bI false = 0 from rfl), bd (ap_r2 h1), bd (ap_g2 h1 (by omega))]
        have fin : ∀ y' : Int32, y'.toInt = sm (tnE n X Y c d) (k + 1) → ∃ t' : Int32 × Int32 × mx_S, (some (.inl (y', q_n (k + 1), σ)) : Option ((Int32 × Int32 × mx_S) ⊕ (mx_S ⊕ (Int32 × mx_S)))) = some (.inl t') ∧ ∃ y, t' = (y, q_n (k + 1), σ) ∧ y.toInt = sm (tnE n X Y c d) (k + 1) ∧ r_fst (fun i => hdE n X Y i c d) (k + 1) = none := fun y' hy' => ⟨_, rfl, y', rfl, hy', hn'⟩
        by_cases q1 : 0 < lg_cmp (mxL σ (a + 2) k) v
        · have q1' := q1
          rw [q_cmp_gt, q_llt, yk.1, hv.1] at q1'
          rw [if_pos q1, bd (ap_r2 h1), bd (ap_is h1), bd2 (c_aft h hk), bd (ap_g2 h1 (by omega))]
          by_cases q2 : 0 < lg_cmp (mxL σ (a + 2) (aft n k)) v
          · have q2' := q2
            rw [q_cmp_gt, q_llt, yl.1, hv.1] at q2'
            rw [if_pos q2, if_pos rfl, if_pos rfl, if_pos rfl, bds, q_nS]
            exact fin y (by rw [hy, sm, show tnE n X Y c d k = 0 by unfold tnE; rw [if_neg (by omega), if_neg (by omega)]]; omega)
          · have q2' := q2
            rw [q_cmp_gt, q_llt, yl.1, hv.1] at q2'
            rw [if_neg q2, if_pos rfl, if_pos rfl, if_neg zi10, bd (ap_is h1), bd2 ew]
            by_cases q3 : 0 ≤ lg_cmp w (0 : Int64)
            · have q3' := q3
              rw [l_nn, hw.1] at q3'
              rw [if_pos q3, bds, q_nS]
              exact fin y (by rw [hy, sm, show tnE n X Y c d k = 0 by unfold tnE; rw [if_neg (by omega), if_neg (by omega)]]; omega)
            · have q3' := q3
              rw [l_nn, hw.1] at q3'
              rw [if_neg q3, bds, bds, q_nS]
              exact fin _ (by rw [p2, sm, show tnE n X Y c d k = -1 by unfold tnE; rw [if_neg (by omega), if_pos (by omega)]]; omega)
        · have q1' := q1
          rw [q_cmp_gt, q_llt, yk.1, hv.1] at q1'
          rw [if_neg q1, bd (ap_r2 h1), bd (ap_is h1), bd2 (c_aft h hk), bd (ap_g2 h1 (by omega))]
          by_cases q2 : 0 < lg_cmp (mxL σ (a + 2) (aft n k)) v
          · have q2' := q2
            rw [q_cmp_gt, q_llt, yl.1, hv.1] at q2'
            rw [if_pos q2, if_neg zi10, if_pos rfl, bd (ap_is h1), bd2 ew]
            by_cases q3 : lg_cmp w (0 : Int64) ≤ 0
            · have q3' := q3
              rw [l_np, hw.1] at q3'
              rw [if_pos q3, if_neg zi10, bds, q_nS]
              exact fin y (by rw [hy, sm, show tnE n X Y c d k = 0 by unfold tnE; rw [if_neg (by omega), if_neg (by omega)]]; omega)
            · have q3' := q3
              rw [l_np, hw.1] at q3'
              rw [if_neg q3, bds, bds, q_nS]
              exact fin _ (by rw [p1, sm, show tnE n X Y c d k = 1 by unfold tnE; rw [if_pos (by omega)]])
          · have q2' := q2
            rw [q_cmp_gt, q_llt, yl.1, hv.1] at q2'
            rw [if_neg q2, if_neg zi10, if_neg zi10, if_neg zi10, bds, q_nS]
            exact fin y (by rw [hy, sm, show tnE n X Y c d k = 0 by unfold tnE; rw [if_neg (by omega), if_neg (by omega)]]; omega))
    (by
      rintro t ⟨y, rfl, hy, hn⟩
      refine ⟨_, ?_, Or.inr ⟨y, rfl, hy, hn⟩⟩
      show f_X9_standing_B6 P a u v y (q_n n) σ = _
      unfold f_X9_standing_B6
      rw [bd (ap_gI h1), h2, if_pos (by rw [q_nLe (by omega) (by omega)]; exact Nat.le_refl _)])
    n 0 ((0 : Int32), (0 : Int32), σ) (mpN P) (by omega) ⟨0, rfl, rfl, rfl⟩ (by omega)
  unfold f_X9_standing f_X9_standing_D141
  rw [bd e]
  unfold inS
  rcases hr with ⟨rfl, i, hi⟩ | ⟨y, rfl, hy, hn⟩
  · rw [hi]; rfl
  · rw [hn]
    show (if y = 0 then _ else _) = _
    dsimp only
    by_cases c0 : sm (tnE n X Y c d) n = 0
    · rw [if_pos (Int32.toInt.inj (by rw [hy, c0]; rfl)), if_pos c0]
    · rw [if_neg (fun z => c0 (by rw [← hy, z]; rfl)), if_neg c0]
/-- the reference's INSIDE -/
theorem r_std (hf : 100 ≤ mpN P) (h : PlR σ m p n X Y) (hu : B64 u c 1000) (hv : B64 v d 1000) : f_X12_insideOf P m (q_n p) u v σ = some (inS n X Y c d, σ) := by
  obtain ⟨h1, h2, h3, h0, h4⟩ := id h
  obtain ⟨r, e, hr⟩ := q_for (f_X12_insideOf_L6 P m (q_n p) u v) (fun k t => ∃ y, t = (y, q_n k, σ) ∧ y.toInt = sm (tnE n X Y c d) k ∧ r_fst (fun i => hdE n X Y i c d) k = none)
    (fun r => (r = .inl σ ∧ ∃ i, r_fst (fun i => hdE n X Y i c d) n = some i) ∨ ∃ y, r = .inr (y, σ) ∧ y.toInt = sm (tnE n X Y c d) n ∧ r_fst (fun i => hdE n X Y i c d) n = none) n
    (by
      rintro k t hk ⟨y, rfl, hy, hn⟩
      have hl := aft_lt hk
      obtain ⟨xk, yk⟩ := h4 k hk
      obtain ⟨xl, yl⟩ := h4 _ hl
      have hb := sm_tn (n := n) (X := X) (Y := Y) (c := c) (d := d) k
      obtain ⟨p1, p2⟩ := iA1 hy (by omega) (by omega)
      have ix : (24 : Int32) * q_n p + q_n k = q_n (24 * p + k) := by rw [show (24 : Int32) = q_n 24 from rfl, q_nM, q_nA]
      obtain ⟨w, ew⟩ : ∃ w, w = (mxL σ (m + 60) (24 * p + aft n k) - mxL σ (m + 60) (24 * p + k)) * (v - mxL σ (m + 61) (24 * p + k)) - (mxL σ (m + 61) (24 * p + aft n k) - mxL σ (m + 61) (24 * p + k)) * (u - mxL σ (m + 60) (24 * p + k)) := ⟨_, rfl⟩
      have hw : B64 w (sdE n X Y k c d) 8000000 := by
        rw [ew]
        exact b64S (b64M (b64S xl xk (by omega)) (b64S hv yk (by omega)) (by omega)) (b64M (b64S yl yk (by omega)) (b64S hu xk (by omega)) (by omega)) (by omega)
      obtain ⟨w1, e1, k1⟩ := r_minL (P := P) (σ := σ) (u := mxL σ (m + 60) (24 * p + k)) (v := mxL σ (m + 60) (24 * p + aft n k))
      obtain ⟨w2, e2, k2⟩ := r_maxL (P := P) (σ := σ) (u := mxL σ (m + 60) (24 * p + k)) (v := mxL σ (m + 60) (24 * p + aft n k))
      obtain ⟨w3, e3, k3⟩ := r_minL (P := P) (σ := σ) (u := mxL σ (m + 61) (24 * p + k)) (v := mxL σ (m + 61) (24 * p + aft n k))
      obtain ⟨w4, e4, k4⟩ := r_maxL (P := P) (σ := σ) (u := mxL σ (m + 61) (24 * p + k)) (v := mxL σ (m + 61) (24 * p + aft n k))
      rw [xk.1, xl.1] at k1 k2
      rw [yk.1, yl.1] at k3 k4
      have fin : ∀ y' : Int32, hdE n X Y k c d = false → y'.toInt = sm (tnE n X Y c d) (k + 1) → ∃ t' : Int32 × Int32 × mx_S, f_X12_insideOf_D220_6 P m (q_n p) u v y' (q_n k) σ = some (.inl t') ∧ ∃ y, t' = (y, q_n (k + 1), σ) ∧ y.toInt = sm (tnE n X Y c d) (k + 1) ∧ r_fst (fun i => hdE n X Y i c d) (k + 1) = none := fun y' hh hy' => by
        unfold f_X12_insideOf_D220_6
        rw [bds, q_nS]
        exact ⟨_, rfl, y', rfl, hy', by rw [r_fst, hn, hh]; rfl⟩
      have turn : hdE n X Y k c d = false → ∃ t' : Int32 × Int32 × mx_S, f_X12_insideOf_D168_6 P m (q_n p) u v y (q_n k) (mxL σ (m + 61) (24 * p + k)) (mxL σ (m + 61) (24 * p + aft n k)) w σ = some (.inl t') ∧ ∃ y, t' = (y, q_n (k + 1), σ) ∧ y.toInt = sm (tnE n X Y c d) (k + 1) ∧ r_fst (fun i => hdE n X Y i c d) (k + 1) = none := fun hh => by
        unfold f_X12_insideOf_D168_6 f_X12_insideOf_D194_6
        have a1 : 0 < lg_cmp (mxL σ (m + 61) (24 * p + k)) v ↔ d < Y k := by rw [q_cmp_gt, q_llt, yk.1, hv.1]
        have a1' : lg_cmp (mxL σ (m + 61) (24 * p + k)) v ≤ 0 ↔ Y k ≤ d := by rw [q_cmp_le, q_lle, yk.1, hv.1]
        have a2 : 0 < lg_cmp (mxL σ (m + 61) (24 * p + aft n k)) v ↔ d < Y (aft n k) := by rw [q_cmp_gt, q_llt, yl.1, hv.1]
        have a2' : lg_cmp (mxL σ (m + 61) (24 * p + aft n k)) v ≤ 0 ↔ Y (aft n k) ≤ d := by rw [q_cmp_le, q_lle, yl.1, hv.1]
        have a3 : lg_cmp w (0 : Int64) ≤ 0 ↔ sdE n X Y k c d ≤ 0 := by rw [l_np, hw.1]
        have a3' : 0 ≤ lg_cmp w (0 : Int64) ↔ 0 ≤ sdE n X Y k c d := by rw [l_nn, hw.1]
        by_cases q1 : d < Y k
        · rw [if_pos (a1.mpr q1), if_neg (fun z => by have := a1'.mp z; omega)]
          by_cases q2 : d < Y (aft n k)
          · rw [if_pos (a2.mpr q2)]
            exact fin y hh (by rw [hy, sm, show tnE n X Y c d k = 0 by unfold tnE; rw [if_neg (by omega), if_neg (by omega)]]; omega)
          · rw [if_neg (fun z => q2 (a2.mp z))]
            by_cases q3 : 0 ≤ sdE n X Y k c d
            · rw [if_pos (a3'.mpr q3)]
              exact fin y hh (by rw [hy, sm, show tnE n X Y c d k = 0 by unfold tnE; rw [if_neg (by omega), if_neg (by omega)]]; omega)
            · rw [if_neg (fun z => q3 (a3'.mp z)), bds]
              exact fin _ hh (by rw [p2, sm, show tnE n X Y c d k = -1 by unfold tnE; rw [if_neg (by omega), if_pos (by omega)]]; omega)
        · rw [if_neg (fun z => q1 (a1.mp z))]
          have r1 : lg_cmp (mxL σ (m + 61) (24 * p + k)) v ≤ 0 := a1'.mpr (by omega)
          by_cases q2 : d < Y (aft n k)
          · rw [if_neg (fun z => by have := a2'.mp z; omega)]
            by_cases q3 : sdE n X Y k c d ≤ 0
            · rw [if_pos (a3.mpr q3), if_pos r1]
              exact fin y hh (by rw [hy, sm, show tnE n X Y c d k = 0 by unfold tnE; rw [if_neg (by omega), if_neg (by omega)]]; omega)
            · rw [if_neg (fun z => q3 (a3.mp z)), bds, if_pos r1]
              exact fin _ hh (by rw [p1, sm, show tnE n X Y c d k = 1 by unfold tnE; rw [if_pos (by omega)]])
          · rw [if_pos (a2'.mpr (by omega)), if_pos r1]
            exact fin y hh (by rw [hy, sm, show tnE n X Y c d k = 0 by unfold tnE; rw [if_neg (by omega), if_neg (by omega)]]; omega)
      have out : bwP (X k) (Y k) (X (aft n k)) (Y (aft n k)) c d = false → (∃ t', f_X12_insideOf_D151_6 P m (q_n p) u v y (q_n k) (mxL σ (m + 61) (24 * p + k)) (mxL σ (m + 61) (24 * p + aft n k)) w σ = some (.inl t') ∧ ∃ y, t' = (y, q_n (k + 1), σ) ∧ y.toInt = sm (tnE n X Y c d) (k + 1) ∧ r_fst (fun i => hdE n X Y i c d) (k + 1) = none) := fun hb0 => by
        have hh : hdE n X Y k c d = false := by unfold hdE; rw [hb0, Bool.and_false]
        unfold f_X12_insideOf_D151_6 f_X12_insideOf_D152_6
        by_cases c0 : lg_cmp w (0 : Int64) = 0
        · rw [if_pos c0, if_pos rfl]; exact turn hh
        · rw [if_neg c0]; exact turn hh
      show (∃ t', f_X12_insideOf_B6 P m (q_n p) u v y (q_n k) σ = _ ∧ _) ∨ (∃ r, f_X12_insideOf_B6 P m (q_n p) u v y (q_n k) σ = _ ∧ _)
      unfold f_X12_insideOf_B6
      rw [bd (am_r86 h1), bd (am_g86 h1 h2), h3, if_neg (by rw [q_nLe (by omega) (by omega)]; omega), bd (am_r87 h1), ix, bd (am_g87 h1 (by omega)), bd (am_r88 h1), bd (am_g88 h1 (by omega)), bd (am_r87 h1), bd (am_is h1), bd2 (r_aft h hk), bd (am_g87 h1 (by omega)), bd (am_r88 h1), bd (am_is h1), bd2 (r_aft h hk), bd (am_g88 h1 (by omega)), bds, ← ew, bd2 e1]
      by_cases q1 : 0 < lg_cmp w1 u
      · rw [if_pos q1]
        exact Or.inl (out (decide_eq_false (by rw [q_cmp_gt, q_llt, k1, hu.1] at q1; omega)))
      rw [if_neg q1, bd2 e2]
      by_cases q2 : 0 < lg_cmp u w2
      · rw [if_pos q2]
        exact Or.inl (out (decide_eq_false (by rw [q_cmp_gt, q_llt, k2, hu.1] at q2; omega)))
      rw [if_neg q2, bd2 e3]
      by_cases q3 : 0 < lg_cmp w3 v
      · rw [if_pos q3]
        exact Or.inl (out (decide_eq_false (by rw [q_cmp_gt, q_llt, k3, hv.1] at q3; omega)))
      rw [if_neg q3, bd2 e4]
      by_cases q4 : 0 < lg_cmp v w4
      · rw [if_pos q4]
        exact Or.inl (out (decide_eq_false (by rw [q_cmp_gt, q_llt, k4, hv.1] at q4; omega)))
      rw [if_neg q4]
      have hbw : bwP (X k) (Y k) (X (aft n k)) (Y (aft n k)) c d = true := decide_eq_true (by
        rw [q_cmp_gt, q_llt, k1, hu.1] at q1
        rw [q_cmp_gt, q_llt, k2, hu.1] at q2
        rw [q_cmp_gt, q_llt, k3, hv.1] at q3
        rw [q_cmp_gt, q_llt, k4, hv.1] at q4
        omega)
      unfold f_X12_insideOf_D152_6
      by_cases c0 : sdE n X Y k c d = 0
      · rw [if_pos (q_cmp0.mpr (Int64.toInt.inj (by rw [hw.1, c0]; rfl))), if_neg zi10]
        have ch : hdE n X Y k c d = true := by unfold hdE; rw [decide_eq_true c0, hbw]; rfl
        exact Or.inr ⟨_, rfl, Or.inl ⟨rfl, k, fst_at hk ch hn⟩⟩
      · rw [if_neg (fun z => c0 (by have := q_cmp0.mp z; rw [← hw.1, this]; rfl))]
        exact Or.inl (turn (by unfold hdE; rw [decide_eq_false c0]; rfl)))
    (by
      rintro t ⟨y, rfl, hy, hn⟩
      refine ⟨_, ?_, Or.inr ⟨y, rfl, hy, hn⟩⟩
      show f_X12_insideOf_B6 P m (q_n p) u v y (q_n n) σ = _
      unfold f_X12_insideOf_B6
      rw [bd (am_r86 h1), bd (am_g86 h1 h2), h3, if_pos (by rw [q_nLe (by omega) (by omega)]; exact Nat.le_refl _)])
    n 0 ((0 : Int32), (0 : Int32), σ) (mpN P) (by omega) ⟨0, rfl, rfl, rfl⟩ (by omega)
  unfold f_X12_insideOf f_X12_insideOf_D236
  rw [bd e]
  unfold inS
  rcases hr with ⟨rfl, i, hi⟩ | ⟨y, rfl, hy, hn⟩
  · rw [hi]; rfl
  · rw [hn]
    show (if y = 0 then _ else _) = _
    dsimp only
    by_cases c0 : sm (tnE n X Y c d) n = 0
    · rw [if_pos (Int32.toInt.inj (by rw [hy, c0]; rfl)), if_pos c0]
    · rw [if_neg (fun z => c0 (by rw [← hy, z]; rfl)), if_neg c0]
end JBS
