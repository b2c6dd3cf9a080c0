/-! ===== cf: quotients of the reference ===== -/
section CFA
variable {P : mx_P} {σ : mx_S} {m a b d : Nat} {r r' : rw3} {A B T X Y X' Y' : BV}
theorem fl_an {x p q : Int} (hx : 0 ≤ x) (hp : 0 < p) (hq : p ≤ q) : x / q ≤ x / p := by
  rw [Int.le_ediv_iff_mul_le hp]
  have f1 := fl_le (a := x) (b := q) (by omega)
  have f2 : 0 ≤ x / q := Int.ediv_nonneg (by omega) (by omega)
  have f3 : x / q * p ≤ x / q * q := Int.mul_le_mul_of_nonneg_left hq f2
  omega
theorem fl_an' {x p q : Int} (hx : x < 0) (hp : 0 < p) (hq : p ≤ q) : x / p ≤ x / q := by
  rw [Int.le_ediv_iff_mul_le (by omega)]
  have f1 := fl_le (a := x) (b := p) (by omega)
  have f2 : x / p < 0 := Int.ediv_neg_of_neg_of_pos (by omega) hp
  have f3 : x / p * q ≤ x / p * p := Int.mul_le_mul_of_nonpos_left (by omega) hq
  omega
/-- the least of the four -/
theorem dv_mn {x y p q : Int} (hxy : x ≤ y) (hp : 0 < p) (hq : p ≤ q) : min (min (x / p) (x / q)) (min (y / p) (y / q)) = x / (if 0 ≤ x then q else p) := by
  have a1 : x / p ≤ y / p := Int.ediv_le_ediv hp hxy
  have a2 : x / q ≤ y / q := Int.ediv_le_ediv (by omega) hxy
  by_cases h : 0 ≤ x
  · have := fl_an h hp hq
    rw [if_pos h]; omega
  · have := fl_an' (x := x) (by omega) hp hq
    rw [if_neg h]; omega
theorem dv_mx {x y p q : Int} (hxy : x ≤ y) (hp : 0 < p) (hq : p ≤ q) : max (max (-(-x / p)) (-(-x / q))) (max (-(-y / p)) (-(-y / q))) = -(-y / (if 0 ≤ y then p else q)) := by
  have a1 : -y / p ≤ -x / p := Int.ediv_le_ediv hp (by omega)
  have a2 : -y / q ≤ -x / q := Int.ediv_le_ediv (by omega) (by omega)
  by_cases h : 0 ≤ y
  · rw [if_pos h]
    by_cases h0 : y = 0
    · subst h0
      rw [Int.neg_zero, Int.zero_ediv, Int.zero_ediv] at *; omega
    · have := fl_an' (x := -y) (by omega) hp hq
      omega
  · have := fl_an (x := -y) (by omega) hp hq
    rw [if_neg h]; omega
theorem r_dvx {x1 x2 y1 y2 u1 u2 v1 v2 : Int64} {p q : Int × Int} (h1 : -2147483648 ≤ p.1) (h2 : p.1 ≤ p.2) (h3 : p.2 ≤ 2147483648) (h4 : 0 < q.1) (h5 : q.1 ≤ q.2)
    (e1 : x1.toInt = 65536 * p.1 / q.1) (e2 : x2.toInt = 65536 * p.1 / q.2) (e3 : y1.toInt = 65536 * p.2 / q.1) (e4 : y2.toInt = 65536 * p.2 / q.2)
    (f1 : u1.toInt = -(-(65536 * p.1) / q.1)) (f2 : u2.toInt = -(-(65536 * p.1) / q.2)) (f3 : v1.toInt = -(-(65536 * p.2) / q.1)) (f4 : v2.toInt = -(-(65536 * p.2) / q.2))
    (hm : LyM σ m) (hp : mpb P ≤ m) (hd : d < 320) {s t : Int64} (hs : s.toInt = min (min x1.toInt x2.toInt) (min y1.toInt y2.toInt)) (ht : t.toInt = max (max u1.toInt u2.toInt) (max v1.toInt v2.toInt)) : ∃ r, f_X12_box P m (q_n d) s t 0 σ = some (rs σ m d r) ∧ RR r (b_dvp p q) := by
  rw [e1, e2, e3, e4, dv_mn (by omega) h4 h5] at hs
  rw [f1, f2, f3, f4, dv_mx (by omega) h4 h5] at ht
  have c1 : (if 0 ≤ 65536 * p.1 then q.2 else q.1) = (if 0 ≤ p.1 then q.2 else q.1) := by
    by_cases h : 0 ≤ p.1
    · rw [if_pos h, if_pos (by omega)]
    · rw [if_neg h, if_neg (by omega)]
  have c2 : (if 0 ≤ 65536 * p.2 then q.1 else q.2) = (if 0 ≤ p.2 then q.1 else q.2) := by
    by_cases h : 0 ≤ p.2
    · rw [if_pos h, if_pos (by omega)]
    · rw [if_neg h, if_neg (by omega)]
  rw [c1] at hs
  rw [c2] at ht
  have hb : -200000000000000 ≤ 65536 * p.1 / (if 0 ≤ p.1 then q.2 else q.1) := by
    split
    · exact (fl_bd (by omega) (by omega) (by omega) (by omega)).1
    · exact (fl_bd (n := 200000000000000) (by omega) (by omega) (by omega) (by omega)).1
  exact r_box hm hp hd hs ht (by omega) (dvp_le h2 h4 h5)
theorem r_div (hm : LyM σ m) (hp : mpb P ≤ m) (hd : d < 320) (ha : a < 320) (hb : b < 320) (hA : RR (rr σ m a) A) (hB : RR (rr σ m b) B) : ∃ r, f_X12_divide P m (q_n d) (q_n a) (q_n b) σ = some (rs σ m d r) ∧ RR r (b_div A B) := by
  obtain ⟨hA, za1, za2, za3⟩ := RR_op hA
  obtain ⟨hB, zb1, zb2, zb3⟩ := RR_op hB
  have m0 : (65536 : Int64).toInt = 65536 := rfl
  have z1 : ¬ (1 : Int32) = 0 := by decide
  have c1 : ((65536 : Int64) * mxL σ (m + 2) a).toInt = 65536 * (mxL σ (m + 2) a).toInt := by rw [q_lmul (by rw [m0]; omega) (by rw [m0]; omega), m0]
  have c2 : ((65536 : Int64) * mxL σ (m + 3) a).toInt = 65536 * (mxL σ (m + 3) a).toInt := by rw [q_lmul (by rw [m0]; omega) (by rw [m0]; omega), m0]
  have key : ∀ V : BV, (∃ s t, s.toInt = s.toInt ∧ f_X12_divide_D45 P m (q_n d) (q_n a) (q_n b) 0 σ = f_X12_box P m (q_n d) s t 0 σ ∧ ∃ r, f_X12_box P m (q_n d) s t 0 σ = some (rs σ m d r) ∧ RR r V) → ∃ r, f_X12_divide_D45 P m (q_n d) (q_n a) (q_n b) 0 σ = some (rs σ m d r) ∧ RR r V := by
    rintro V ⟨s, t, -, e, r, e2, h⟩
    exact ⟨r, e.trans e2, h⟩
  have sh : ∀ V : BV, V = none → ∃ r, f_X12_divide_D45 P m (q_n d) (q_n a) (q_n b) 1 σ = some (rs σ m d r) ∧ RR r V := by
    rintro _ rfl
    unfold f_X12_divide_D45
    rw [if_neg z1]
    simp only [↓bd (am_is hm), q_bdsm]
    exact r_box1 hm hp hd (by decide) (by decide)
  unfold f_X12_divide f_X12_divide_D44 f_X12_divide_D40
  simp only [↓bd (am_r11 hm), ↓bd (am_r12 hm), ↓bd (am_r13 hm), ↓bd (am_g13 hm ha), ↓bd (am_g13 hm hb), ↓bd (am_g11 hm hb), ↓bd (am_g12 hm hb), l_pos, l_neg]
  rcases hA with ⟨a0, rfl, a1, a2, a3⟩ | ⟨a0, -, rfl⟩
  · rw [if_pos a0]
    rcases hB with ⟨b0, rfl, b1, b2, b3⟩ | ⟨b0, -, rfl⟩
    · rw [if_pos b0]
      have eD : ∀ {x1 x2 y1 y2 u1 u2 v1 v2 : Int64}, f_X12_down P ((65536 : Int64) * mxL σ (m + 2) a) (mxL σ (m + 2) b) σ = some (x1, σ) → f_X12_down P ((65536 : Int64) * mxL σ (m + 2) a) (mxL σ (m + 3) b) σ = some (x2, σ) → f_X12_down P ((65536 : Int64) * mxL σ (m + 3) a) (mxL σ (m + 2) b) σ = some (y1, σ) → f_X12_down P ((65536 : Int64) * mxL σ (m + 3) a) (mxL σ (m + 3) b) σ = some (y2, σ) → f_X12_up P ((65536 : Int64) * mxL σ (m + 2) a) (mxL σ (m + 2) b) σ = some (u1, σ) → f_X12_up P ((65536 : Int64) * mxL σ (m + 2) a) (mxL σ (m + 3) b) σ = some (u2, σ) → f_X12_up P ((65536 : Int64) * mxL σ (m + 3) a) (mxL σ (m + 2) b) σ = some (v1, σ) → f_X12_up P ((65536 : Int64) * mxL σ (m + 3) a) (mxL σ (m + 3) b) σ = some (v2, σ) → f_X12_divide_D45 P m (q_n d) (q_n a) (q_n b) 0 σ = f_X12_box P m (q_n d) (ksm (ksm x1 x2) (ksm y1 y2)) (kmo (kmo u1 u2) (kmo v1 v2)) 0 σ := by
        intro x1 x2 y1 y2 u1 u2 v1 v2 g1 g2 g3 g4 g5 g6 g7 g8
        unfold f_X12_divide_D45
        rw [if_pos rfl]
        simp only [↓bd (am_r11 hm), ↓bd (am_r12 hm), ↓bd (am_g11 hm ha), ↓bd (am_g12 hm ha), ↓bd (am_g11 hm hb), ↓bd (am_g12 hm hb), ↓bds, ↓bd2 g1, ↓bd2 g2, ↓bd2 g3, ↓bd2 g4, ↓bd2 g5, ↓bd2 g6, ↓bd2 g7, ↓bd2 g8, ↓k_smb, ↓k_mob, ↓bd (am_is hm), q_bdsm]
      have hs : ∀ x1 x2 y1 y2 : Int64, (ksm (ksm x1 x2) (ksm y1 y2)).toInt = min (min x1.toInt x2.toInt) (min y1.toInt y2.toInt) := fun _ _ _ _ => by rw [ksmT, ksmT, ksmT]
      have ht : ∀ x1 x2 y1 y2 : Int64, (kmo (kmo x1 x2) (kmo y1 y2)).toInt = max (max x1.toInt x2.toInt) (max y1.toInt y2.toInt) := fun _ _ _ _ => by rw [kmoT, kmoT, kmoT]
      have bdv : ∀ p q : Int × Int, b_div (some p) (some q) = if q.1 ≤ 0 ∧ 0 ≤ q.2 then none else if q.2 < 0 then b_dvp (-p.2, -p.1) (-q.2, -q.1) else b_dvp p q := fun _ _ => rfl
      rw [bdv]
      dsimp only
      by_cases h1 : 0 < (mxL σ (m + 2) b).toInt
      · obtain ⟨x1, g1, e1⟩ := k_dn (P := P) (x := (65536 : Int64) * mxL σ (m + 2) a) (y := mxL σ (m + 2) b) (by omega) (by omega) σ
        obtain ⟨x2, g2, e2⟩ := k_dn (P := P) (x := (65536 : Int64) * mxL σ (m + 2) a) (y := mxL σ (m + 3) b) (by omega) (by omega) σ
        obtain ⟨x3, g3, e3⟩ := k_dn (P := P) (x := (65536 : Int64) * mxL σ (m + 3) a) (y := mxL σ (m + 2) b) (by omega) (by omega) σ
        obtain ⟨x4, g4, e4⟩ := k_dn (P := P) (x := (65536 : Int64) * mxL σ (m + 3) a) (y := mxL σ (m + 3) b) (by omega) (by omega) σ
        obtain ⟨x5, g5, e5⟩ := k_up (P := P) (x := (65536 : Int64) * mxL σ (m + 2) a) (y := mxL σ (m + 2) b) (by omega) (by omega) σ
        obtain ⟨x6, g6, e6⟩ := k_up (P := P) (x := (65536 : Int64) * mxL σ (m + 2) a) (y := mxL σ (m + 3) b) (by omega) (by omega) σ
        obtain ⟨x7, g7, e7⟩ := k_up (P := P) (x := (65536 : Int64) * mxL σ (m + 3) a) (y := mxL σ (m + 2) b) (by omega) (by omega) σ
        obtain ⟨x8, g8, e8⟩ := k_up (P := P) (x := (65536 : Int64) * mxL σ (m + 3) a) (y := mxL σ (m + 3) b) (by omega) (by omega) σ
        rw [c1] at e1 e2 e5 e6
        rw [c2] at e3 e4 e7 e8
        rw [if_pos h1, if_neg (by omega), if_neg (by omega)]
        refine key _ ⟨_, _, rfl, eD g1 g2 g3 g4 g5 g6 g7 g8, ?_⟩
        exact r_dvx a1 a2 a3 h1 b2 e1 e2 e3 e4 e5 e6 e7 e8 hm hp hd (hs _ _ _ _) (ht _ _ _ _)
      · rw [if_neg h1]
        by_cases h2 : (mxL σ (m + 3) b).toInt < 0
        · obtain ⟨x1, g1, e1⟩ := k_dn' (P := P) (x := (65536 : Int64) * mxL σ (m + 2) a) (y := mxL σ (m + 2) b) (by omega) (by omega) (by omega) σ
          obtain ⟨x2, g2, e2⟩ := k_dn' (P := P) (x := (65536 : Int64) * mxL σ (m + 2) a) (y := mxL σ (m + 3) b) (by omega) (by omega) (by omega) σ
          obtain ⟨x3, g3, e3⟩ := k_dn' (P := P) (x := (65536 : Int64) * mxL σ (m + 3) a) (y := mxL σ (m + 2) b) (by omega) (by omega) (by omega) σ
          obtain ⟨x4, g4, e4⟩ := k_dn' (P := P) (x := (65536 : Int64) * mxL σ (m + 3) a) (y := mxL σ (m + 3) b) (by omega) (by omega) (by omega) σ
          obtain ⟨x5, g5, e5⟩ := k_up' (P := P) (x := (65536 : Int64) * mxL σ (m + 2) a) (y := mxL σ (m + 2) b) (by omega) (by omega) (by omega) σ
          obtain ⟨x6, g6, e6⟩ := k_up' (P := P) (x := (65536 : Int64) * mxL σ (m + 2) a) (y := mxL σ (m + 3) b) (by omega) (by omega) (by omega) σ
          obtain ⟨x7, g7, e7⟩ := k_up' (P := P) (x := (65536 : Int64) * mxL σ (m + 3) a) (y := mxL σ (m + 2) b) (by omega) (by omega) (by omega) σ
          obtain ⟨x8, g8, e8⟩ := k_up' (P := P) (x := (65536 : Int64) * mxL σ (m + 3) a) (y := mxL σ (m + 3) b) (by omega) (by omega) (by omega) σ
          rw [c1] at e1 e2 e5 e6
          rw [c2] at e3 e4 e7 e8
          have nn : ∀ x : Int, -(65536 * x) = 65536 * -x := fun x => by omega
          have n3 : ∀ x : Int, 65536 * x = -(65536 * -x) := fun x => by omega
          rw [nn] at e1 e2 e3 e4
          rw [n3] at e5 e6 e7 e8
          rw [if_pos h2, if_neg (by omega), if_pos h2]
          refine key _ ⟨_, _, rfl, eD g1 g2 g3 g4 g5 g6 g7 g8, ?_⟩
          refine r_dvx (x1 := x4) (x2 := x3) (y1 := x2) (y2 := x1) (u1 := x8) (u2 := x7) (v1 := x6) (v2 := x5) (by show _ ≤ -_; omega) (by show -_ ≤ -_; omega) (by show -_ ≤ _; omega) (by show 0 < -_; omega) (by show -_ ≤ -_; omega) e4 e3 e2 e1 e8 e7 e6 e5 hm hp hd (by rw [hs]; omega) (by rw [ht]; omega)
        · rw [if_neg h2, if_pos (by omega)]; exact sh _ rfl
    · rw [if_neg b0]; exact sh _ rfl
  · rw [if_neg a0]; exact sh _ rfl
end CFA
