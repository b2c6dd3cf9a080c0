/-! ===== ca: whole numbers times boxes, shares, fractions, quotients, roots; the class's own ===== -/
section CAA
variable {P : mx_P} {σ : mx_S} {a b t : Nat} {r r' : rw3} {A B T : BV}
theorem c_whole {n : Int64} (hn1 : -1000 ≤ n.toInt) (hn2 : n.toInt ≤ 1000) (ht : mxA σ t = some (.inl 0)) (ha : mxA σ a = some (.inl 0)) (hp : mpb P ≤ t) (hT : RB (rd σ t) T) (hA : RB (rd σ a) A) : ∃ r, f_X0_addWhole P t n a σ = some (bs σ t r) ∧ RB r (b_add T (b_whole n.toInt A)) := by
  unfold f_X0_addWhole f_X0_addWhole_D40 f_X0_addWhole_D63 f_X0_addWhole_D83 f_X0_addWhole_D108 f_X0_addWhole_D14
  simp only [q_gI ha, q_gL ha, q_gI ht, q_gL ht, q_is ht, Option.bind_some, k_kp ht hp, k_sh ht hp, l_far1, l_far2, l_neg]
  rcases RB_o hT with ⟨t0, rfl, t1, t2, t3⟩ | ⟨t0, rfl⟩
  · rw [if_pos t0]
    rcases RB_o hA with ⟨a0, rfl, a1, a2, a3⟩ | ⟨a0, rfl⟩
    · rw [if_pos a0]
      have p1 := pr_bd (x := n.toInt) (y := (mxL σ a 0).toInt) (m := 1000) (n := 2147483648) hn1 hn2 (by omega) (by omega)
      have p2 := pr_bd (x := n.toInt) (y := (mxL σ a 1).toInt) (m := 1000) (n := 2147483648) hn1 hn2 (by omega) (by omega)
      have e1 : (n * mxL σ a 0).toInt = n.toInt * (mxL σ a 0).toInt := q_lmul (by omega) (by omega)
      have e2 : (n * mxL σ a 1).toInt = n.toInt * (mxL σ a 1).toInt := q_lmul (by omega) (by omega)
      have key : ∀ (x y : Int64) (u v : Int), x.toInt = u → y.toInt = v → u ≤ v → -3000000000000 ≤ u → v ≤ 3000000000000 → ∃ r, (if x.toInt < -2147483648 then some (bs σ t x_shut) else if y.toInt ≤ 2147483648 then some (bs σ t (x_keep (mxL σ t 0 + x) (mxL σ t 1 + y))) else some (bs σ t x_shut)) = some (bs σ t r) ∧ RB r (b_add (some ((mxL σ t 0).toInt, (mxL σ t 1).toInt)) (b_mk u v)) := by
        rintro x y u v rfl rfl huv hu hv
        by_cases h1 : x.toInt < -2147483648
        · have e : b_mk x.toInt y.toInt = none := if_pos (by omega)
          rw [if_pos h1, e]; exact ⟨_, rfl, RB_shut⟩
        · rw [if_neg h1]
          by_cases h2 : y.toInt ≤ 2147483648
          · have e : b_mk x.toInt y.toInt = some (x.toInt, y.toInt) := if_neg (by omega)
            rw [if_pos h2, e]
            exact ⟨_, rfl, RB_keep' (q_ladd (by omega) (by omega)) (q_ladd (by omega) (by omega)) (by omega)⟩
          · have e : b_mk x.toInt y.toInt = none := if_pos (by omega)
            rw [if_neg h2, e]; exact ⟨_, rfl, RB_shut⟩
      unfold b_whole
      simp only [Option.bind_some]
      by_cases h : n.toInt < 0
      · have hm : n.toInt * (mxL σ a 1).toInt ≤ n.toInt * (mxL σ a 0).toInt := Int.mul_le_mul_of_nonpos_left (by omega) a2
        simp only [if_pos h]
        exact key _ _ _ _ e2 e1 hm (by omega) (by omega)
      · have hm : n.toInt * (mxL σ a 0).toInt ≤ n.toInt * (mxL σ a 1).toInt := Int.mul_le_mul_of_nonneg_left a2 (by omega)
        simp only [if_neg h]
        exact key _ _ _ _ e1 e2 hm (by omega) (by omega)
    · rw [if_neg a0]; exact ⟨_, rfl, RB_shut⟩
  · rw [if_neg t0]; exact ⟨_, rfl, RB_shut⟩
theorem c_share {n : Int64} (hn : 0 < n.toInt) (ht : mxA σ t = some (.inl 0)) (hp : mpb P ≤ t) (hT : RB (rd σ t) T) : ∃ r, f_X0_shareAmong P t n σ = some (bs σ t r) ∧ RB r (b_share n.toInt T) := by
  unfold f_X0_shareAmong f_X0_shareAmong_D13
  simp only [q_gI ht, q_gL ht, q_is ht, Option.bind_some, k_kp ht hp, k_sh ht hp, l_pos, if_pos hn]
  rcases RB_o hT with ⟨t0, rfl, t1, t2, t3⟩ | ⟨t0, rfl⟩
  · rw [if_pos t0]
    obtain ⟨x, hx, ex⟩ := k_fdiv (P := P) (x := mxL σ t 0) hn (by omega) σ
    obtain ⟨y, hy, ey⟩ := k_fdiv (P := P) (x := -mxL σ t 1) hn (by rw [q_lneg (by omega)]; omega) σ
    rw [q_lneg (by omega)] at ey
    simp only [hx, hy, q_b2, q_gL ht, q_is ht, Option.bind_some, k_kp ht hp]
    obtain ⟨b1, b2⟩ := fl_bd (a := (mxL σ t 0).toInt) hn (n := 2147483648) (by omega) (by omega) (by omega)
    obtain ⟨b3, b4⟩ := fl_bd (a := -(mxL σ t 1).toInt) hn (n := 2147483648) (by omega) (by omega) (by omega)
    have f1 := fl_le (a := (mxL σ t 0).toInt) hn
    have f2 := fl_le (a := -(mxL σ t 1).toInt) hn
    have hle : (mxL σ t 0).toInt / n.toInt ≤ -(-(mxL σ t 1).toInt / n.toInt) := by
      refine Int.le_of_mul_le_mul_right (a := n.toInt) ?_ hn
      rw [Int.neg_mul]; omega
    refine ⟨_, rfl, RB_eq (RB_keep' ex (y := -(-(mxL σ t 1).toInt / n.toInt)) (by rw [q_lneg (by omega), ey]) hle) ?_⟩
    unfold b_mk b_share
    rw [if_neg (by omega)]; rfl
  · rw [if_neg t0]; exact ⟨_, rfl, RB_shut⟩
theorem fl_cl {x n : Int} (hn : 0 < n) : x / n ≤ -(-x / n) := by
  have f1 := fl_le (a := x) hn
  have f2 := fl_le (a := -x) hn
  refine Int.le_of_mul_le_mul_right (a := n) ?_ hn
  rw [Int.neg_mul]; omega
theorem c_frac {p q : Int64} (hp1 : -1000000000000 ≤ p.toInt) (hp2 : p.toInt ≤ 1000000000000) (hq : 0 < q.toInt) (ht : mxA σ t = some (.inl 0)) (hp : mpb P ≤ t) : ∃ r, f_X0_fraction P t p q σ = some (bs σ t r) ∧ RB r (b_frac p.toInt q.toInt) := by
  unfold f_X0_fraction
  have c1 : ((65536 : Int64) * p).toInt = 65536 * p.toInt := q_lmul (by rw [show (65536 : Int64).toInt = 65536 from rfl]; omega) (by rw [show (65536 : Int64).toInt = 65536 from rfl]; omega)
  have c2 : ((-65536 : Int64) * p).toInt = -(65536 * p.toInt) := by
    rw [q_lmul (by rw [show (-65536 : Int64).toInt = -65536 by decide]; omega) (by rw [show (-65536 : Int64).toInt = -65536 by decide]; omega), show (-65536 : Int64).toInt = -65536 by decide]; omega
  obtain ⟨x, hx, ex⟩ := k_fdiv (P := P) (x := (65536 : Int64) * p) hq (by rw [c1]; omega) σ
  obtain ⟨y, hy, ey⟩ := k_fdiv (P := P) (x := (-65536 : Int64) * p) hq (by rw [c2]; omega) σ
  obtain ⟨b3, b4⟩ := fl_bd (a := -(65536 * p.toInt)) hq (n := 65536000000000000) (by omega) (by omega) (by omega)
  simp only [l_pos, if_pos hq, hx, hy, q_b2, q_is ht, Option.bind_some, k_kp ht hp]
  rw [c2] at ey
  rw [c1] at ex
  exact ⟨_, rfl, RB_keep' ex (by rw [q_lneg (by omega), ey]) (fl_cl hq)⟩
theorem dvp_le {p q : Int × Int} (hp : p.1 ≤ p.2) (hq : 0 < q.1) (hq2 : q.1 ≤ q.2) : 65536 * p.1 / (if 0 ≤ p.1 then q.2 else q.1) ≤ -(-(65536 * p.2) / (if 0 ≤ p.2 then q.1 else q.2)) := by
  by_cases h1 : 0 ≤ p.1
  · rw [if_pos h1, if_pos (by omega)]
    have a1 : 65536 * p.1 / q.2 ≤ 65536 * p.1 / q.1 := by
      rw [Int.le_ediv_iff_mul_le hq]
      have f1 := fl_le (a := 65536 * p.1) (b := q.2) (by omega)
      have f2 : 0 ≤ 65536 * p.1 / q.2 := Int.ediv_nonneg (by omega) (by omega)
      have f3 : 65536 * p.1 / q.2 * q.1 ≤ 65536 * p.1 / q.2 * q.2 := Int.mul_le_mul_of_nonneg_left hq2 f2
      omega
    have a2 : 65536 * p.1 / q.1 ≤ 65536 * p.2 / q.1 := Int.ediv_le_ediv hq (by omega)
    have a3 := fl_cl (x := 65536 * p.2) hq
    omega
  · rw [if_neg h1]
    by_cases h2 : 0 ≤ p.2
    · rw [if_pos h2]
      have a1 : 65536 * p.1 / q.1 < 0 := Int.ediv_neg_of_neg_of_pos (by omega) hq
      have a2 : -(65536 * p.2) / q.1 ≤ 0 := by
        have := Int.ediv_le_ediv hq (show -(65536 * p.2) ≤ 0 by omega)
        rw [Int.zero_ediv] at this; exact this
      omega
    · rw [if_neg h2]
      have a1 : 65536 * p.1 / q.1 ≤ 65536 * p.2 / q.1 := Int.ediv_le_ediv hq (by omega)
      have a2 : 65536 * p.2 / q.1 ≤ 65536 * p.2 / q.2 := by
        rw [Int.le_ediv_iff_mul_le (by omega)]
        have f1 := fl_le (a := 65536 * p.2) (b := q.1) (by omega)
        have f2 : 65536 * p.2 / q.1 < 0 := Int.ediv_neg_of_neg_of_pos (by omega) hq
        have f3 : 65536 * p.2 / q.1 * q.2 ≤ 65536 * p.2 / q.1 * q.1 := Int.mul_le_mul_of_nonpos_left (by omega) hq2
        omega
      have a3 := fl_cl (x := 65536 * p.2) (n := q.2) (by omega)
      omega
theorem c_quot (ht : mxA σ t = some (.inl 0)) (ha : mxA σ a = some (.inl 0)) (hb : mxA σ b = some (.inl 0)) (hp : mpb P ≤ t) (hA : RB (rd σ a) A) (hB : RB (rd σ b) B) : ∃ r, f_X0_quotient P t a b σ = some (bs σ t r) ∧ RB r (b_div A B) := by
  have key : ∀ (lo hi sm gr : Int64) (p q : Int × Int), lo.toInt = 65536 * p.1 → hi.toInt = 65536 * p.2 → sm.toInt = q.1 → gr.toInt = q.2 → -2147483648 ≤ p.1 → p.1 ≤ p.2 → p.2 ≤ 2147483648 → 0 < q.1 → q.1 ≤ q.2 → ∃ r, f_X0_quotient_D130 P t lo hi sm gr σ = some (bs σ t r) ∧ RB r (b_dvp p q) := by
    intro lo hi sm gr p q e1 e2 e3 e4 h1 h2 h3 h4 h5
    unfold f_X0_quotient_D130 f_X0_quotient_D149 f_X0_quotient_D169
    have hd1 : ∃ x, (if lo.toInt < 0 then f_J9_floorDiv_f86c9 P lo sm σ else f_J9_floorDiv_f86c9 P lo gr σ) = some (x, σ) ∧ x.toInt = 65536 * p.1 / (if 0 ≤ p.1 then q.2 else q.1) := by
      by_cases h : 0 ≤ p.1
      · obtain ⟨x, hx, ex⟩ := k_fdiv (P := P) (x := lo) (y := gr) (by omega) (by omega) σ
        rw [if_neg (by omega), if_pos h]
        exact ⟨x, hx, by rw [ex, e1, e4]⟩
      · obtain ⟨x, hx, ex⟩ := k_fdiv (P := P) (x := lo) (y := sm) (by omega) (by omega) σ
        rw [if_pos (by omega), if_neg h]
        exact ⟨x, hx, by rw [ex, e1, e3]⟩
    have eh : (-hi).toInt = -(65536 * p.2) := by rw [q_lneg (by omega), e2]
    have hd2 : ∃ x, (if hi.toInt < 0 then f_J9_floorDiv_f86c9 P (-hi) gr σ else f_J9_floorDiv_f86c9 P (-hi) sm σ) = some (x, σ) ∧ x.toInt = -(65536 * p.2) / (if 0 ≤ p.2 then q.1 else q.2) := by
      by_cases h : 0 ≤ p.2
      · obtain ⟨x, hx, ex⟩ := k_fdiv (P := P) (x := -hi) (y := sm) (by omega) (by omega) σ
        rw [if_neg (by omega), if_pos h]
        exact ⟨x, hx, by rw [ex, eh, e3]⟩
      · obtain ⟨x, hx, ex⟩ := k_fdiv (P := P) (x := -hi) (y := gr) (by omega) (by omega) σ
        rw [if_pos (by omega), if_neg h]
        exact ⟨x, hx, by rw [ex, eh, e4]⟩
    obtain ⟨x, hx, ex⟩ := hd1
    obtain ⟨y, hy, ey⟩ := hd2
    have hy2 : -200000000000000 ≤ y.toInt ∧ y.toInt ≤ 200000000000000 := by
      rw [ey]; split
      · exact fl_bd (by omega) (by omega) (by omega) (by omega)
      · exact fl_bd (by omega) (by omega) (by omega) (by omega)
    refine ⟨x_keep x (-y), ?_, RB_keep' ex (by rw [q_lneg (by omega), ey]) (dvp_le h2 h4 h5)⟩
    simp only [l_neg]
    by_cases c1 : lo.toInt < 0
    · rw [if_pos c1] at hx ⊢
      rw [hx, q_b2]
      by_cases c2 : hi.toInt < 0
      · rw [if_pos c2] at hy ⊢
        rw [hy, q_b2, q_is ht, Option.bind_some, k_kp ht hp]; rfl
      · rw [if_neg c2] at hy ⊢
        rw [hy, q_b2, q_is ht, Option.bind_some, k_kp ht hp]; rfl
    · rw [if_neg c1] at hx ⊢
      rw [hx, q_b2]
      by_cases c2 : hi.toInt < 0
      · rw [if_pos c2] at hy ⊢
        rw [hy, q_b2, q_is ht, Option.bind_some, k_kp ht hp]; rfl
      · rw [if_neg c2] at hy ⊢
        rw [hy, q_b2, q_is ht, Option.bind_some, k_kp ht hp]; rfl
  unfold f_X0_quotient f_X0_quotient_D37 f_X0_quotient_D51 f_X0_quotient_D71 f_X0_quotient_D93 f_X0_quotient_D112 f_X0_quotient_D32
  simp only [q_gI ha, q_gL ha, q_gI hb, q_gL hb, q_is ht, Option.bind_some, k_kp ht hp, k_sh ht hp, l_neg, l_pos, l_nn]
  rcases RB_o hA with ⟨a0, rfl, a1, a2, a3⟩ | ⟨a0, rfl⟩
  · rw [if_pos a0]
    rcases RB_o hB with ⟨b0, rfl, b1, b2, b3⟩ | ⟨b0, rfl⟩
    · rw [if_pos b0]
      have z1 : ¬ (1 : Int32) = 0 := by decide
      have m0 : (65536 : Int64).toInt = 65536 := rfl
      unfold b_div
      simp only [Option.bind_some, z1, if_false, if_true]
      have m1 : ∀ x : Int64, -2147483648 ≤ x.toInt → x.toInt ≤ 2147483648 → ((65536 : Int64) * x).toInt = 65536 * x.toInt := fun x h1 h2 => by
        rw [q_lmul (by rw [m0]; omega) (by rw [m0]; omega), m0]
      by_cases h1 : 0 < (mxL σ b 0).toInt
      · rw [if_pos h1, if_pos (by omega), if_neg (by omega), if_neg (by omega)]
        exact key _ _ _ _ _ _ (m1 _ (by omega) (by omega)) (m1 _ (by omega) (by omega)) rfl rfl a1 a2 a3 h1 b2
      · rw [if_neg h1]
        by_cases h2 : (mxL σ b 1).toInt < 0
        · rw [if_pos h2, if_neg (by omega), if_neg (by omega), if_pos h2]
          have n1 := q_lneg (x := mxL σ a 0) (by omega)
          have n2 := q_lneg (x := mxL σ a 1) (by omega)
          exact key _ _ _ _ (-(mxL σ a 1).toInt, -(mxL σ a 0).toInt) (-(mxL σ b 1).toInt, -(mxL σ b 0).toInt) (by rw [m1 _ (by omega) (by omega), n2]) (by rw [m1 _ (by omega) (by omega), n1]) (q_lneg (by omega)) (q_lneg (by omega)) (by show _ ≤ -_; omega) (by show -_ ≤ -_; omega) (by show -_ ≤ _; omega) (by show _ < -_; omega) (by show -_ ≤ -_; omega)
        · rw [if_neg h2, if_pos (by omega)]; exact ⟨_, rfl, RB_shut⟩
    · rw [if_neg b0]; exact ⟨_, rfl, RB_shut⟩
  · rw [if_neg a0]; exact ⟨_, rfl, RB_shut⟩
end CAA
