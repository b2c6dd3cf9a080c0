/-! ===== cd: boxes of the reference ===== -/
section CDA
variable {P : mx_P} {σ : mx_S} {m a b d : Nat} {r r' : rw3} {A B T X Y X' Y' : BV}
abbrev LyM (σ : mx_S) (m : Nat) : Prop := LyO (mxA σ) (mxR σ) 12 al12 m
def rr (σ : mx_S) (m d : Nat) : rw3 := (mxL σ (m + 2) d, mxL σ (m + 3) d, mxI σ (m + 4) d)
def rs (σ : mx_S) (m d : Nat) (r : rw3) : mx_S := mx_setL (mx_setL (mx_setI σ (m + 4) d r.2.2) (m + 2) d r.1) (m + 3) d r.2.1
theorem A_rs : mxA (rs σ m d r) = mxA σ := rfl
theorem R_rs : mxR (rs σ m d r) = mxR σ := rfl
theorem rr_e : rr (rs σ m d r) m d = r := by
  unfold rr rs
  rw [q_LL, if_neg (by omega), q_LL, if_pos ⟨rfl, rfl⟩, q_LL, if_pos ⟨rfl, rfl⟩]
  show (_, _, mxI (mx_setI σ (m + 4) d r.2.2) (m + 4) d) = r
  rw [q_II, if_pos ⟨rfl, rfl⟩]
theorem rr_n (h : a ≠ d) : rr (rs σ m d r) m a = rr σ m a := by
  unfold rr rs
  rw [q_LL, if_neg (by omega), q_LL, if_neg (by omega), q_LL, if_neg (by omega), q_LL, if_neg (by omega)]
  show (_, _, mxI (mx_setI σ (m + 4) d r.2.2) (m + 4) a) = _
  rw [q_II, if_neg (by omega)]; rfl
theorem I_rs {q j : Nat} (h : q ≠ m + 4) : mxI (rs σ m d r) q j = mxI σ q j := if_neg fun e => h e.1
theorem L_rs {q j : Nat} (h1 : q ≠ m + 2) (h2 : q ≠ m + 3) : mxL (rs σ m d r) q j = mxL σ q j := (if_neg fun e => h2 e.1).trans (if_neg fun e => h1 e.1)
theorem l_dm {x y : Int64} (hx : -9223372036854775808 < x.toInt) : (x / y).toInt = x.toInt.tdiv y.toInt ∧ (x / y * y).toInt = x.toInt.tdiv y.toInt * y.toInt := by
  have hd : (x / y).toInt = x.toInt.tdiv y.toInt := Int64.toInt_div_of_ne_left x y (fun z => by rw [z] at hx; exact absurd hx (by decide))
  have h9 := x.toInt_lt
  have hn : (x.toInt.tdiv y.toInt * y.toInt).natAbs ≤ x.toInt.natAbs := by
    rw [Int.natAbs_mul, Int.natAbs_tdiv]; exact Nat.div_mul_le_self _ _
  exact ⟨hd, by rw [q_lmul (by rw [hd]; omega) (by rw [hd]; omega), hd]⟩
theorem l_rem {x y : Int64} (hx : -9223372036854775808 < x.toInt) : (x - x / y * y).toInt = x.toInt - x.toInt.tdiv y.toInt * y.toInt := by
  have h9 := x.toInt_lt
  obtain ⟨h1, h2⟩ := l_dm (y := y) hx
  have hn : (x.toInt.tdiv y.toInt * y.toInt).natAbs ≤ x.toInt.natAbs := by
    rw [Int.natAbs_mul, Int.natAbs_tdiv]; exact Nat.div_mul_le_self _ _
  have e := Int.tdiv_mul_add_tmod x.toInt y.toInt
  have hs : (x.toInt.tmod y.toInt).natAbs ≤ x.toInt.natAbs := by rw [Int.natAbs_tmod]; exact Nat.mod_le _ _
  rw [q_lsub (by rw [h2]; omega) (by rw [h2]; omega), h2]
theorem k_dn {x y : Int64} (hy : 0 < y.toInt) (hx : -9223372036854775808 < x.toInt) (σ : mx_S) : ∃ r, f_X12_down P x y σ = some (r, σ) ∧ r.toInt = x.toInt / y.toInt := by
  have h9 := x.toInt_lt
  have hy9 := y.toInt_lt
  obtain ⟨b1, b2⟩ := fl_bd (a := x.toInt) hy (n := 9223372036854775807) (by omega) (by omega) (by omega)
  have hy0 : ¬ y = 0 := fun z => by rw [q_leq, q_l0] at z; omega
  obtain ⟨hd, hm⟩ := l_dm (y := y) hx
  have hr := l_rem (y := y) hx
  have ht := q_tdv (a := x.toInt) hy
  unfold f_X12_down f_X12_down_D24 f_X12_down_D35 f_X12_down_D45 f_X12_down_D47
  unfold md_L mm_L
  rw [if_neg hy0, if_neg hy0, Option.bind_some, Option.bind_some]
  have hz : lg_cmp (x - x / y * y) 0 = 0 ↔ y.toInt ∣ x.toInt := by
    rw [q_cmp0, q_leq, hr, q_l0]
    constructor
    · intro z; exact ⟨x.toInt.tdiv y.toInt, by rw [Int.mul_comm]; omega⟩
    · intro z
      rw [ht, if_pos (Or.inr z), Int.add_zero, Int.ediv_mul_cancel z]; omega
  by_cases hc : y.toInt ∣ x.toInt
  · rw [if_pos (hz.mpr hc)]
    exact ⟨_, rfl, by rw [hd, ht, if_pos (Or.inr hc)]; omega⟩
  · rw [if_neg (fun z => hc (hz.mp z)), if_pos (l_nn.mpr (show 0 ≤ y.toInt by omega)), if_pos (l_nn.mpr (show 0 ≤ y.toInt by omega))]
    by_cases h0 : 0 ≤ x.toInt
    · rw [if_pos (l_nn.mpr h0), if_pos rfl]
      exact ⟨_, rfl, by rw [hd, ht, if_pos (Or.inl h0)]; omega⟩
    · rw [if_neg (fun z => h0 (l_nn.mp z)), if_neg (by decide)]
      rw [if_neg (by rintro (z | z); exact h0 z; exact hc z)] at ht
      exact ⟨_, rfl, by rw [q_lsub (by rw [hd, ht, q_l1]; omega) (by rw [hd, ht, q_l1]; omega), hd, ht, q_l1]; omega⟩
theorem k_dn' {x y : Int64} (hy : y.toInt < 0) (hx : -9223372036854775808 < x.toInt) (hy2 : -9223372036854775808 < y.toInt) (σ : mx_S) : ∃ r, f_X12_down P x y σ = some (r, σ) ∧ r.toInt = -x.toInt / -y.toInt := by
  have h9 := x.toInt_lt
  obtain ⟨b1, b2⟩ := fl_bd (a := -x.toInt) (b := -y.toInt) (by omega) (n := 9223372036854775807) (by omega) (by omega) (by omega)
  have hy0 : ¬ y = 0 := fun z => by rw [q_leq, q_l0] at z; omega
  obtain ⟨hd, hm⟩ := l_dm (y := y) hx
  have hr := l_rem (y := y) hx
  have ht := q_tdv (a := -x.toInt) (b := -y.toInt) (by omega)
  rw [Int.neg_tdiv_neg] at ht
  unfold f_X12_down f_X12_down_D24 f_X12_down_D35 f_X12_down_D45 f_X12_down_D47
  unfold md_L mm_L
  rw [if_neg hy0, if_neg hy0, Option.bind_some, Option.bind_some]
  have hdv : -y.toInt ∣ -x.toInt ↔ y.toInt ∣ x.toInt := by rw [Int.neg_dvd, Int.dvd_neg]
  have hz : lg_cmp (x - x / y * y) 0 = 0 ↔ y.toInt ∣ x.toInt := by
    rw [q_cmp0, q_leq, hr, q_l0]
    constructor
    · intro z; exact ⟨x.toInt.tdiv y.toInt, by rw [Int.mul_comm]; omega⟩
    · intro z
      rw [Int.tdiv_mul_cancel z]; omega
  by_cases hc : y.toInt ∣ x.toInt
  · rw [if_pos (hz.mpr hc)]
    exact ⟨_, rfl, by rw [hd, ht, if_pos (Or.inr (hdv.mpr hc))]; omega⟩
  · have ny : ¬ 0 ≤ lg_cmp y 0 := fun z => by rw [l_nn] at z; omega
    rw [if_neg (fun z => hc (hz.mp z)), if_neg ny, if_neg ny]
    by_cases h0 : 0 ≤ x.toInt
    · rw [if_pos (l_nn.mpr h0), if_neg (by decide)]
      have hx0 : x.toInt ≠ 0 := fun z => hc (by rw [z]; exact Int.dvd_zero _)
      rw [if_neg (by rintro (z | z); omega; exact hc (hdv.mp z))] at ht
      exact ⟨_, rfl, by rw [q_lsub (by rw [hd, ht, q_l1]; omega) (by rw [hd, ht, q_l1]; omega), hd, ht, q_l1]; omega⟩
    · rw [if_neg (fun z => h0 (l_nn.mp z)), if_pos rfl]
      exact ⟨_, rfl, by rw [hd, ht, if_pos (Or.inl (by omega))]; omega⟩
theorem k_up {x y : Int64} (hy : 0 < y.toInt) (hx : -9223372036854775808 < x.toInt) (σ : mx_S) : ∃ r, f_X12_up P x y σ = some (r, σ) ∧ r.toInt = -(-x.toInt / y.toInt) := by
  have h9 := x.toInt_lt
  have hn := q_lneg hx
  obtain ⟨r, e, h⟩ := k_dn (P := P) (x := -x) hy (by rw [hn]; omega) σ
  obtain ⟨b1, b2⟩ := fl_bd (a := -x.toInt) hy (n := 9223372036854775807) (by omega) (by omega) (by omega)
  rw [hn] at h
  unfold f_X12_up
  rw [e, q_b2]
  exact ⟨_, rfl, by rw [q_lneg (by omega), h]⟩
theorem k_up' {x y : Int64} (hy : y.toInt < 0) (hx : -9223372036854775808 < x.toInt) (hy2 : -9223372036854775808 < y.toInt) (σ : mx_S) : ∃ r, f_X12_up P x y σ = some (r, σ) ∧ r.toInt = -(x.toInt / -y.toInt) := by
  have h9 := x.toInt_lt
  have hn := q_lneg hx
  obtain ⟨r, e, h⟩ := k_dn' (P := P) (x := -x) hy (by rw [hn]; omega) hy2 σ
  rw [hn, Int.neg_neg] at h
  obtain ⟨b1, b2⟩ := fl_bd (a := x.toInt) (b := -y.toInt) (by omega) (n := 9223372036854775807) (by omega) (by omega) (by omega)
  unfold f_X12_up
  rw [e, q_b2]
  exact ⟨_, rfl, by rw [q_lneg (by omega), h]⟩
def x_box (x y : Int64) (o : Int32) : rw3 := if o = 0 ∧ -2147483648 ≤ x.toInt ∧ x.toInt ≤ 2147483648 ∧ -2147483648 ≤ y.toInt ∧ y.toInt ≤ 2147483648 then (x, y, 0) else (0, 0, 1)
theorem k_size {x : Int64} (h : -9223372036854775808 < x.toInt) (σ : mx_S) : ∃ r, f_X12_size P x σ = some (r, σ) ∧ r.toInt = if 0 ≤ x.toInt then x.toInt else -x.toInt := by
  unfold f_X12_size f_X12_size_D12
  by_cases h0 : 0 ≤ x.toInt
  · rw [if_pos (l_nn.mpr h0), if_pos h0]; exact ⟨_, rfl, rfl⟩
  · rw [if_neg (fun z => h0 (l_nn.mp z)), if_neg h0]; exact ⟨_, rfl, q_lneg h⟩
theorem k_box {x y : Int64} {o : Int32} (hm : LyM σ m) (hp : mpb P ≤ m) (hd : d < 320) (ho : o = 0 ∨ o = 1) (hx : -9223372036854775808 < x.toInt) (hy : -9223372036854775808 < y.toInt) : f_X12_box P m (q_n d) x y o σ = some (rs σ m d (x_box x y o)) := by
  obtain ⟨x', ex, hx'⟩ := k_size (P := P) hx σ
  obtain ⟨y', ey, hy'⟩ := k_size (P := P) hy σ
  have n0 : vp_nar .boolean (0 : Int32) = 0 := by decide
  have n1 : vp_nar .boolean (1 : Int32) = 1 := by decide
  have z1 : ¬ (1 : Int32) = 0 := by decide
  have l2 : (2147483648 : Int64).toInt = 2147483648 := by decide
  have kk : ∀ w : Int32, w = 0 ∨ w = 1 → f_X12_box_D38 P m (q_n d) x y w (q_n d) (m + 4) σ = some (rs σ m d (if w = 0 then (x, y, 0) else (0, 0, 1))) := by
    rintro w hw
    have hv : vp_nar .boolean w = w := by rcases hw with rfl | rfl <;> assumption
    unfold f_X12_box_D38 f_X12_box_D58 f_X12_box_D79
    have h1 : mxI (mx_setI σ (m + 4) d w) (m + 4) d = w := if_pos ⟨rfl, rfl⟩
    simp only [am_s13 hm hp hd, hv, Option.bind_some, am_r11 (σ := mx_setI σ (m + 4) d w) hm, am_r13 (σ := mx_setI σ (m + 4) d w) hm, am_g13 (σ := mx_setI σ (m + 4) d w) hm hd, h1]
    rcases hw with rfl | rfl
    · rw [if_pos rfl, if_pos rfl]
      rw [am_s11 (σ := mx_setI σ (m + 4) d 0) hm hp hd, Option.bind_some, am_r12 (by exact hm), Option.bind_some, am_r13 (by exact hm), Option.bind_some, am_g13 (by exact hm) hd, Option.bind_some]
      rw [show mxI (mx_setL (mx_setI σ (m + 4) d 0) (m + 2) d x) (m + 4) d = 0 from if_pos ⟨rfl, rfl⟩, if_pos rfl, am_s12 (by exact hm) hp hd]; rfl
    · rw [if_neg z1, if_neg z1]
      rw [am_s11 (σ := mx_setI σ (m + 4) d 1) hm hp hd, Option.bind_some, am_r12 (by exact hm), Option.bind_some, am_r13 (by exact hm), Option.bind_some, am_g13 (by exact hm) hd, Option.bind_some]
      rw [show mxI (mx_setL (mx_setI σ (m + 4) d 1) (m + 2) d 0) (m + 4) d = 1 from if_pos ⟨rfl, rfl⟩, if_neg z1, am_s12 (by exact hm) hp hd]; rfl
  unfold f_X12_box f_X12_box_D33 x_box
  rw [am_r13 hm, Option.bind_some]
  rcases ho with rfl | rfl
  · rw [if_pos rfl, ex, q_b2]
    by_cases c1 : 0 < lg_cmp x' 2147483648
    · rw [if_pos c1, kk 1 (Or.inr rfl), if_neg z1, if_neg]
      rintro ⟨-, u1, u2, -⟩
      rw [q_cmp_gt, q_llt, l2, hx'] at c1
      split at c1 <;> omega
    · rw [if_neg c1, ey, q_b2]
      rw [q_cmp_gt, q_llt, l2, hx'] at c1
      by_cases c2 : lg_cmp y' 2147483648 ≤ 0
      · rw [if_pos c2, kk 0 (Or.inl rfl), if_pos rfl, if_pos]
        rw [q_cmp_le, q_lle, l2, hy'] at c2
        refine ⟨rfl, ?_, ?_, ?_, ?_⟩ <;> (split at c1 <;> split at c2 <;> omega)
      · rw [if_neg c2, kk 1 (Or.inr rfl), if_neg z1, if_neg]
        rintro ⟨-, u1, u2, u3, u4⟩
        rw [q_cmp_le, q_lle, l2, hy'] at c2
        split at c2 <;> omega
  · rw [if_neg z1, kk 1 (Or.inr rfl), if_neg z1, if_neg (fun z => z1 z.1)]
theorem RB_box {x y : Int64} {u v : Int} (hx : x.toInt = u) (hy : y.toInt = v) (h : u ≤ v) : RB (x_box x y 0) (b_mk u v) := by
  subst hx; subst hy
  unfold x_box b_mk
  by_cases c : x.toInt < -2147483648 ∨ 2147483648 < y.toInt
  · rw [if_pos c, if_neg (by omega)]; exact RB_shut
  · rw [if_neg c, if_pos ⟨rfl, by omega, by omega, by omega, by omega⟩]; exact Or.inr ⟨rfl, rfl, by dsimp only; omega, h, by dsimp only; omega⟩
theorem RB_box1 {x y : Int64} : RB (x_box x y 1) none := by
  unfold x_box; rw [if_neg (fun z => absurd z.1 (by decide))]; exact RB_shut
theorem RR_o (h : RB (rr σ m a) A) : (mxI σ (m + 4) a = 0 ∧ A = some ((mxL σ (m + 2) a).toInt, (mxL σ (m + 3) a).toInt) ∧ -2147483648 ≤ (mxL σ (m + 2) a).toInt ∧ (mxL σ (m + 2) a).toInt ≤ (mxL σ (m + 3) a).toInt ∧ (mxL σ (m + 3) a).toInt ≤ 2147483648) ∨ (mxI σ (m + 4) a = 1 ∧ A = none) := by
  rcases h with ⟨h1, h2⟩ | h
  · exact Or.inr ⟨h1, h2⟩
  · exact Or.inl h
end CDA
