/-! ===== bz: products of boxes, the class's own ===== -/
section BZA
variable {P : mx_P} {σ : mx_S} {a b t : Nat} {r r' : rw3} {A B T : BV}
def jmin (x y : Int64) : Int64 := if y < x then y else x
def jmax (x y : Int64) : Int64 := if x < y then y else x
theorem j_minL (P : mx_P) (x y : Int64) (σ : mx_S) : f_J9_min_f86c9 P x y σ = some (jmin x y, σ) := k_minL P x y σ
theorem j_maxL (P : mx_P) (x y : Int64) (σ : mx_S) : f_J9_max_f86c9 P x y σ = some (jmax x y, σ) := k_maxL P x y σ
theorem bq_min (x y : Int64) : (jmin x y).toInt = min x.toInt y.toInt := by
  unfold jmin
  by_cases h : y < x
  · rw [if_pos h]; rw [q_llt] at h; omega
  · rw [if_neg h]; rw [q_llt] at h; omega
theorem bq_max (x y : Int64) : (jmax x y).toInt = max x.toInt y.toInt := by
  unfold jmax
  by_cases h : x < y
  · rw [if_pos h]; rw [q_llt] at h; omega
  · rw [if_neg h]; rw [q_llt] at h; omega
theorem pr_bd {x y m n : Int} (h1 : -m ≤ x) (h2 : x ≤ m) (h3 : -n ≤ y) (h4 : y ≤ n) : -(m * n) ≤ x * y ∧ x * y ≤ m * n := by
  have hn : 0 ≤ n := by omega
  have hm : 0 ≤ m := by omega
  have e1 : (m - x) * (n + y) = m * n + m * y - x * n - x * y := by rw [Int.sub_mul, Int.mul_add, Int.mul_add]; omega
  have e2 : (m + x) * (n - y) = m * n - m * y + x * n - x * y := by rw [Int.add_mul, Int.mul_sub, Int.mul_sub]; omega
  have e3 : (m - x) * (n - y) = m * n - m * y - x * n + x * y := by rw [Int.sub_mul, Int.mul_sub, Int.mul_sub]; omega
  have e4 : (m + x) * (n + y) = m * n + m * y + x * n + x * y := by rw [Int.add_mul, Int.mul_add, Int.mul_add]; omega
  have p1 : 0 ≤ (m - x) * (n + y) := Int.mul_nonneg (by omega) (by omega)
  have p2 : 0 ≤ (m + x) * (n - y) := Int.mul_nonneg (by omega) (by omega)
  have p3 : 0 ≤ (m - x) * (n - y) := Int.mul_nonneg (by omega) (by omega)
  have p4 : 0 ≤ (m + x) * (n + y) := Int.mul_nonneg (by omega) (by omega)
  omega
theorem pr_b {x y : Int} (h1 : -2147483648 ≤ x) (h2 : x ≤ 2147483648) (h3 : -2147483648 ≤ y) (h4 : y ≤ 2147483648) : -4611686018427387904 ≤ x * y ∧ x * y ≤ 4611686018427387904 := by
  have := pr_bd (m := 2147483648) (n := 2147483648) h1 h2 h3 h4
  omega
theorem l_prod {x y : Int64} (h1 : -2147483648 ≤ x.toInt) (h2 : x.toInt ≤ 2147483648) (h3 : -2147483648 ≤ y.toInt) (h4 : y.toInt ≤ 2147483648) : (x * y).toInt = x.toInt * y.toInt := by
  have := pr_b h1 h2 h3 h4
  exact q_lmul (by omega) (by omega)
theorem l_cl (y : Int64) (h : -9223372036854775808 < y.toInt) : (-((-y) >>> ((16 : Int32).toInt64 &&& 63))).toInt = -(-y.toInt / 65536) := by
  have hy := y.toInt_lt
  rw [q_lneg, q_shr, q_lneg h]
  rw [q_shr, q_lneg h]; omega
theorem l_far1 {x : Int64} : lg_cmp x (-2147483648 : Int64) < 0 ↔ x.toInt < -2147483648 := by
  rw [q_cmp_lt, q_llt]; rfl
theorem l_far2 {x : Int64} : lg_cmp x (2147483648 : Int64) ≤ 0 ↔ x.toInt ≤ 2147483648 := by
  rw [q_cmp_le, q_lle]; rfl
theorem l_pos {x : Int64} : 0 < lg_cmp x (0 : Int64) ↔ 0 < x.toInt := by
  rw [q_cmp_gt, q_llt]; rfl
theorem l_neg {x : Int64} : lg_cmp x (0 : Int64) < 0 ↔ x.toInt < 0 := by
  rw [q_cmp_lt, q_llt]; rfl
theorem l_nn {x : Int64} : 0 ≤ lg_cmp x (0 : Int64) ↔ 0 ≤ x.toInt := by
  rw [q_cmp_ge, q_lle]; rfl
theorem l_np {x : Int64} : lg_cmp x (0 : Int64) ≤ 0 ↔ x.toInt ≤ 0 := by
  rw [q_cmp_le, q_lle]; rfl
theorem b_add_n : b_add A none = none := by cases A <;> rfl
theorem b_sub_n : b_sub A none = none := by cases A <;> rfl
def x_mn4 (a b c d : Int64) : Int64 := jmin (jmin (a * c) (a * d)) (jmin (b * c) (b * d))
def x_mx4 (a b c d : Int64) : Int64 := jmax (jmax (a * c) (a * d)) (jmax (b * c) (b * d))
theorem x_mn4T {a b c d : Int64} (h1 : -2147483648 ≤ a.toInt) (h2 : a.toInt ≤ b.toInt) (h3 : b.toInt ≤ 2147483648) (h4 : -2147483648 ≤ c.toInt) (h5 : c.toInt ≤ d.toInt) (h6 : d.toInt ≤ 2147483648) : (x_mn4 a b c d).toInt = mn4 (a.toInt, b.toInt) (c.toInt, d.toInt) := by
  unfold x_mn4
  rw [bq_min, bq_min, bq_min, l_prod (by omega) (by omega) (by omega) (by omega), l_prod (by omega) (by omega) (by omega) (by omega), l_prod (by omega) (by omega) (by omega) (by omega), l_prod (by omega) (by omega) (by omega) (by omega)]
theorem x_mx4T {a b c d : Int64} (h1 : -2147483648 ≤ a.toInt) (h2 : a.toInt ≤ b.toInt) (h3 : b.toInt ≤ 2147483648) (h4 : -2147483648 ≤ c.toInt) (h5 : c.toInt ≤ d.toInt) (h6 : d.toInt ≤ 2147483648) : (x_mx4 a b c d).toInt = mx4 (a.toInt, b.toInt) (c.toInt, d.toInt) := by
  unfold x_mx4
  rw [bq_max, bq_max, bq_max, l_prod (by omega) (by omega) (by omega) (by omega), l_prod (by omega) (by omega) (by omega) (by omega), l_prod (by omega) (by omega) (by omega) (by omega), l_prod (by omega) (by omega) (by omega) (by omega)]
theorem mn4_b {p q : Int × Int} (h1 : -2147483648 ≤ p.1) (h2 : p.1 ≤ p.2) (h3 : p.2 ≤ 2147483648) (h4 : -2147483648 ≤ q.1) (h5 : q.1 ≤ q.2) (h6 : q.2 ≤ 2147483648) : -4611686018427387904 ≤ mn4 p q ∧ mn4 p q ≤ mx4 p q ∧ mx4 p q ≤ 4611686018427387904 := by
  have p1 := pr_b (x := p.1) (y := q.1) (by omega) (by omega) (by omega) (by omega)
  have p2 := pr_b (x := p.1) (y := q.2) (by omega) (by omega) (by omega) (by omega)
  have p3 := pr_b (x := p.2) (y := q.1) (by omega) (by omega) (by omega) (by omega)
  have p4 := pr_b (x := p.2) (y := q.2) (by omega) (by omega) (by omega) (by omega)
  dsimp only [mn4, mx4]
  generalize p.1 * q.1 = x1 at *
  generalize p.1 * q.2 = x2 at *
  generalize p.2 * q.1 = x3 at *
  generalize p.2 * q.2 = x4 at *
  clear h1 h2 h3 h4 h5 h6
  omega
theorem c_prod {s : Int32} (ht : mxA σ t = some (.inl 0)) (ha : mxA σ a = some (.inl 0)) (hb : mxA σ b = some (.inl 0)) (hp : mpb P ≤ t) (hT : RB (rd σ t) T) (hA : RB (rd σ a) A) (hB : RB (rd σ b) B) : ∃ r, f_X0_addProduct P t s a b σ = some (bs σ t r) ∧ RB r (if s ≤ 0 then b_sub T (b_mul A B) else b_add T (b_mul A B)) := by
  have hn : ∀ C : BV, C = none → (if s ≤ 0 then b_sub T C else b_add T C) = none := by
    rintro _ rfl; rw [b_add_n, b_sub_n]; split <;> rfl
  unfold f_X0_addProduct f_X0_addProduct_D134 f_X0_addProduct_D184 f_X0_addProduct_D21
  simp only [q_gI ha, q_gI hb, q_gL ha, q_gL hb, q_gI ht, q_gL ht, q_is ht, Option.bind_some, k_kp ht hp, k_sh ht hp, j_minL, j_maxL, q_b2]
  rcases RB_o hT with ⟨t0, rfl, t1, t2, t3⟩ | ⟨t0, rfl⟩
  · rw [if_pos t0]
    rcases RB_o hA with ⟨a0, rfl, a1, a2, a3⟩ | ⟨a0, rfl⟩
    · rw [if_pos a0]
      rcases RB_o hB with ⟨b0, rfl, b1, b2, b3⟩ | ⟨b0, rfl⟩
      · rw [if_pos b0]
        rw [show jmin (jmin (mxL σ a 0 * mxL σ b 0) (mxL σ a 0 * mxL σ b 1)) (jmin (mxL σ a 1 * mxL σ b 0) (mxL σ a 1 * mxL σ b 1)) = x_mn4 (mxL σ a 0) (mxL σ a 1) (mxL σ b 0) (mxL σ b 1) from rfl, show jmax (jmax (mxL σ a 0 * mxL σ b 0) (mxL σ a 0 * mxL σ b 1)) (jmax (mxL σ a 1 * mxL σ b 0) (mxL σ a 1 * mxL σ b 1)) = x_mx4 (mxL σ a 0) (mxL σ a 1) (mxL σ b 0) (mxL σ b 1) from rfl]
        have hX := x_mn4T a1 a2 a3 b1 b2 b3
        have hY := x_mx4T a1 a2 a3 b1 b2 b3
        obtain ⟨m1b, hXY, m2b⟩ := mn4_b (p := ((mxL σ a 0).toInt, (mxL σ a 1).toInt)) (q := ((mxL σ b 0).toInt, (mxL σ b 1).toInt)) a1 a2 a3 b1 b2 b3
        generalize x_mn4 (mxL σ a 0) (mxL σ a 1) (mxL σ b 0) (mxL σ b 1) = X at *
        generalize x_mx4 (mxL σ a 0) (mxL σ a 1) (mxL σ b 0) (mxL σ b 1) = Y at *
        have eX : (X >>> ((16 : Int32).toInt64 &&& 63)).toInt = mn4 ((mxL σ a 0).toInt, (mxL σ a 1).toInt) ((mxL σ b 0).toInt, (mxL σ b 1).toInt) / 65536 := by rw [q_shr, hX]
        have eY : (-((-Y) >>> ((16 : Int32).toInt64 &&& 63))).toInt = -(-mx4 ((mxL σ a 0).toInt, (mxL σ a 1).toInt) ((mxL σ b 0).toInt, (mxL σ b 1).toInt) / 65536) := by rw [l_cl Y (by rw [hY]; generalize mx4 _ _ = m at *; omega), hY]
        clear hX hY
        unfold b_mul
        simp only [Option.bind_some]
        generalize mn4 ((mxL σ a 0).toInt, (mxL σ a 1).toInt) ((mxL σ b 0).toInt, (mxL σ b 1).toInt) = m1 at *
        generalize mx4 ((mxL σ a 0).toInt, (mxL σ a 1).toInt) ((mxL σ b 0).toInt, (mxL σ b 1).toInt) = m2 at *
        generalize X >>> ((16 : Int32).toInt64 &&& 63) = x at *
        generalize -((-Y) >>> ((16 : Int32).toInt64 &&& 63)) = y at *
        simp only [l_far1, l_far2, eX, eY]
        by_cases h1 : m1 / 65536 < -2147483648
        · rw [if_pos h1, hn _ (by unfold b_mk; rw [if_pos (Or.inl h1)])]; exact ⟨_, rfl, RB_shut⟩
        · rw [if_neg h1]
          by_cases h2 : -(-m2 / 65536) ≤ 2147483648
          · rw [if_pos h2]
            have e : b_mk (m1 / 65536) (-(-m2 / 65536)) = some (m1 / 65536, -(-m2 / 65536)) := if_neg (by omega)
            rw [e]
            by_cases hs : s ≤ 0
            · rw [if_pos hs, if_pos hs]
              refine ⟨_, rfl, RB_keep' (?_ : _ = (mxL σ t 0).toInt - -(-m2 / 65536)) (?_ : _ = (mxL σ t 1).toInt - m1 / 65536) (by omega)⟩
              · rw [q_lsub (by rw [eY]; omega) (by rw [eY]; omega), eY]
              · rw [q_lsub (by rw [eX]; omega) (by rw [eX]; omega), eX]
            · rw [if_neg hs, if_neg hs]
              refine ⟨_, rfl, RB_keep' (?_ : _ = (mxL σ t 0).toInt + m1 / 65536) (?_ : _ = (mxL σ t 1).toInt + -(-m2 / 65536)) (by omega)⟩
              · rw [q_ladd (by rw [eX]; omega) (by rw [eX]; omega), eX]
              · rw [q_ladd (by rw [eY]; omega) (by rw [eY]; omega), eY]
          · rw [if_neg h2, hn _ (by unfold b_mk; rw [if_pos (Or.inr (by omega))])]; exact ⟨_, rfl, RB_shut⟩
      · rw [if_neg b0, hn (b_mul _ none) rfl]; exact ⟨_, rfl, RB_shut⟩
    · rw [if_neg a0, hn (b_mul none _) rfl]; exact ⟨_, rfl, RB_shut⟩
  · rw [if_neg t0]
    refine ⟨_, rfl, RB_eq RB_shut ?_⟩
    split <;> rfl
theorem c_sq (ht : mxA σ t = some (.inl 0)) (ha : mxA σ a = some (.inl 0)) (hp : mpb P ≤ t) (hT : RB (rd σ t) T) (hA : RB (rd σ a) A) : ∃ r, f_X0_addSquare P t a σ = some (bs σ t r) ∧ RB r (b_add T (b_sq A)) := by
  unfold f_X0_addSquare f_X0_addSquare_D62 f_X0_addSquare_D71 f_X0_addSquare_D120 f_X0_addSquare_D14
  simp only [q_gI ha, q_gL ha, q_gI ht, q_gL ht, q_is ht, Option.bind_some, k_kp ht hp, k_sh ht hp, j_minL, j_maxL, q_b2]
  rcases RB_o hT with ⟨t0, rfl, t1, t2, t3⟩ | ⟨t0, rfl⟩
  · rw [if_pos t0]
    rcases RB_o hA with ⟨a0, rfl, a1, a2, a3⟩ | ⟨a0, rfl⟩
    · rw [if_pos a0]
      have p1 := pr_b (x := (mxL σ a 0).toInt) (y := (mxL σ a 0).toInt) (by omega) (by omega) (by omega) (by omega)
      have p2 := pr_b (x := (mxL σ a 1).toInt) (y := (mxL σ a 1).toInt) (by omega) (by omega) (by omega) (by omega)
      have hX := bq_min (mxL σ a 0 * mxL σ a 0) (mxL σ a 1 * mxL σ a 1)
      have hY := bq_max (mxL σ a 0 * mxL σ a 0) (mxL σ a 1 * mxL σ a 1)
      simp only [l_prod (x := mxL σ a 0) (y := mxL σ a 0) (by omega) (by omega) (by omega) (by omega), l_prod (x := mxL σ a 1) (y := mxL σ a 1) (by omega) (by omega) (by omega) (by omega)] at hX hY
      generalize jmin (mxL σ a 0 * mxL σ a 0) (mxL σ a 1 * mxL σ a 1) = X at hX ⊢
      generalize jmax (mxL σ a 0 * mxL σ a 0) (mxL σ a 1 * mxL σ a 1) = Y at hY ⊢
      have n1 : 0 ≤ (mxL σ a 0).toInt * (mxL σ a 0).toInt := by
        rcases Int.le_total 0 (mxL σ a 0).toInt with h | h
        · exact Int.mul_nonneg h h
        · exact Int.mul_nonneg_of_nonpos_of_nonpos h h
      have n2 : 0 ≤ (mxL σ a 1).toInt * (mxL σ a 1).toInt := by
        rcases Int.le_total 0 (mxL σ a 1).toInt with h | h
        · exact Int.mul_nonneg h h
        · exact Int.mul_nonneg_of_nonpos_of_nonpos h h
      have eX : (X >>> ((16 : Int32).toInt64 &&& 63)).toInt = min ((mxL σ a 0).toInt * (mxL σ a 0).toInt) ((mxL σ a 1).toInt * (mxL σ a 1).toInt) / 65536 := by rw [q_shr, hX]
      have eY : (-((-Y) >>> ((16 : Int32).toInt64 &&& 63))).toInt = -(-max ((mxL σ a 0).toInt * (mxL σ a 0).toInt) ((mxL σ a 1).toInt * (mxL σ a 1).toInt) / 65536) := by rw [l_cl Y (by omega), hY]
      generalize (X >>> ((16 : Int32).toInt64 &&& 63)) = x at eX ⊢
      generalize -((-Y) >>> ((16 : Int32).toInt64 &&& 63)) = y at eY ⊢
      unfold b_sq
      simp only [Option.bind_some, l_pos, l_neg, l_far2, eY]
      have key : ∀ (z : Int64) (m : Int), z.toInt = m / 65536 → 0 ≤ m → m ≤ max ((mxL σ a 0).toInt * (mxL σ a 0).toInt) ((mxL σ a 1).toInt * (mxL σ a 1).toInt) →
          ∃ r, (if -(-max ((mxL σ a 0).toInt * (mxL σ a 0).toInt) ((mxL σ a 1).toInt * (mxL σ a 1).toInt) / 65536) ≤ 2147483648 then some (bs σ t (x_keep (mxL σ t 0 + z) (mxL σ t 1 + y))) else some (bs σ t x_shut)) = some (bs σ t r) ∧ RB r (b_add (some ((mxL σ t 0).toInt, (mxL σ t 1).toInt)) (b_mk (m / 65536) (-(-max ((mxL σ a 0).toInt * (mxL σ a 0).toInt) ((mxL σ a 1).toInt * (mxL σ a 1).toInt) / 65536)))) := by
        intro z m hz hm0 hm
        generalize max ((mxL σ a 0).toInt * (mxL σ a 0).toInt) ((mxL σ a 1).toInt * (mxL σ a 1).toInt) = m2 at *
        by_cases h2 : -(-m2 / 65536) ≤ 2147483648
        · rw [if_pos h2]
          have e : b_mk (m / 65536) (-(-m2 / 65536)) = some (m / 65536, -(-m2 / 65536)) := if_neg (by omega)
          rw [e]
          refine ⟨_, rfl, RB_keep' (?_ : _ = (mxL σ t 0).toInt + m / 65536) (?_ : _ = (mxL σ t 1).toInt + -(-m2 / 65536)) (by omega)⟩
          · rw [q_ladd (by rw [hz]; omega) (by rw [hz]; omega), hz]
          · rw [q_ladd (by rw [eY]; omega) (by rw [eY]; omega), eY]
        · rw [if_neg h2]
          have e : b_mk (m / 65536) (-(-m2 / 65536)) = none := if_pos (by omega)
          rw [e]; exact ⟨_, rfl, RB_shut⟩
      by_cases h1 : 0 < (mxL σ a 0).toInt
      · rw [if_pos h1, if_neg (show ¬ ((mxL σ a 0).toInt ≤ 0 ∧ 0 ≤ (mxL σ a 1).toInt) by omega)]
        exact key x _ eX (by omega) (by omega)
      · rw [if_neg h1]
        by_cases h2 : (mxL σ a 1).toInt < 0
        · rw [if_pos h2, if_neg (show ¬ ((mxL σ a 0).toInt ≤ 0 ∧ 0 ≤ (mxL σ a 1).toInt) by omega)]
          exact key x _ eX (by omega) (by omega)
        · rw [if_neg h2, if_pos (show ((mxL σ a 0).toInt ≤ 0 ∧ 0 ≤ (mxL σ a 1).toInt) by omega)]
          exact key 0 0 rfl (by omega) (by omega)
    · rw [if_neg a0]; exact ⟨_, rfl, RB_shut⟩
  · rw [if_neg t0]; exact ⟨_, rfl, RB_shut⟩
end BZA
