/-! ===== ce: boxes of the reference, sums, products, quotients ===== -/
section CEA
variable {P : mx_P} {σ : mx_S} {m a b d : Nat} {r r' : rw3} {A B T X Y X' Y' : BV}
theorem r_bx {x y : Int64} {u v : Int} (hm : LyM σ m) (hp : mpb P ≤ m) (hd : d < 320) (hx : x.toInt = u) (hy : y.toInt = v) (hu : -9223372036854775808 < u) (h : u ≤ v) : ∃ r, f_X12_box P m (q_n d) x y 0 σ = some (rs σ m d r) ∧ RB r (b_mk u v) :=
  ⟨_, k_box hm hp hd (Or.inl rfl) (by omega) (by omega), RB_box hx hy h⟩
theorem r_bx1 {x y : Int64} (hm : LyM σ m) (hp : mpb P ≤ m) (hd : d < 320) (hx : -9223372036854775808 < x.toInt) (hy : -9223372036854775808 < y.toInt) : ∃ r, f_X12_box P m (q_n d) x y 1 σ = some (rs σ m d r) ∧ RB r none :=
  ⟨_, k_box hm hp hd (Or.inr rfl) hx hy, RB_box1⟩
/-- a closed box's two numbers; of an open one: nothing is known but what is kept -/
def RZ (r : rw3) : Prop := -2147483648 ≤ r.1.toInt ∧ r.1.toInt ≤ r.2.1.toInt ∧ r.2.1.toInt ≤ 2147483648
def RR (r : rw3) (v : BV) : Prop := RB r v ∧ RZ r
theorem RR_box {x y : Int64} {o : Int32} {v : BV} (hxy : o = 0 → x.toInt ≤ y.toInt) (h : RB (x_box x y o) v) : RR (x_box x y o) v := by
  refine ⟨h, ?_⟩
  unfold x_box RZ
  by_cases c : o = 0 ∧ -2147483648 ≤ x.toInt ∧ x.toInt ≤ 2147483648 ∧ -2147483648 ≤ y.toInt ∧ y.toInt ≤ 2147483648
  · have := hxy c.1
    rw [if_pos c]; dsimp only; omega
  · rw [if_neg c]; dsimp only; rw [q_l0]; omega
theorem r_box {x y : Int64} {u v : Int} (hm : LyM σ m) (hp : mpb P ≤ m) (hd : d < 320) (hx : x.toInt = u) (hy : y.toInt = v) (hu : -9223372036854775808 < u) (h : u ≤ v) : ∃ r, f_X12_box P m (q_n d) x y 0 σ = some (rs σ m d r) ∧ RR r (b_mk u v) :=
  ⟨_, k_box hm hp hd (Or.inl rfl) (by omega) (by omega), RR_box (fun _ => by omega) (RB_box hx hy h)⟩
theorem r_box1 {x y : Int64} (hm : LyM σ m) (hp : mpb P ≤ m) (hd : d < 320) (hx : -9223372036854775808 < x.toInt) (hy : -9223372036854775808 < y.toInt) : ∃ r, f_X12_box P m (q_n d) x y 1 σ = some (rs σ m d r) ∧ RR r none :=
  ⟨_, k_box hm hp hd (Or.inr rfl) hx hy, RR_box (fun z => absurd z (by decide)) RB_box1⟩
theorem RR_op (h : RR (rr σ m a) A) : ((mxI σ (m + 4) a = 0 ∧ A = some ((mxL σ (m + 2) a).toInt, (mxL σ (m + 3) a).toInt) ∧ -2147483648 ≤ (mxL σ (m + 2) a).toInt ∧ (mxL σ (m + 2) a).toInt ≤ (mxL σ (m + 3) a).toInt ∧ (mxL σ (m + 3) a).toInt ≤ 2147483648) ∨ (¬ mxI σ (m + 4) a = 0 ∧ mxI σ (m + 4) a = 1 ∧ A = none)) ∧ -2147483648 ≤ (mxL σ (m + 2) a).toInt ∧ (mxL σ (m + 2) a).toInt ≤ (mxL σ (m + 3) a).toInt ∧ (mxL σ (m + 3) a).toInt ≤ 2147483648 := by
  refine ⟨?_, h.2⟩
  rcases RR_o h.1 with h | ⟨h1, h2⟩
  · exact Or.inl h
  · exact Or.inr ⟨fun z => by rw [z] at h1; exact absurd h1 (by decide), h1, h2⟩
theorem r_add (hm : LyM σ m) (hp : mpb P ≤ m) (hd : d < 320) (ha : a < 320) (hb : b < 320) (hA : RR (rr σ m a) A) (hB : RR (rr σ m b) B) : ∃ r, f_X12_add P m (q_n d) (q_n a) (q_n b) σ = some (rs σ m d r) ∧ RR r (b_add A B) := by
  obtain ⟨hA, za1, za2, za3⟩ := RR_op hA
  obtain ⟨hB, zb1, zb2, zb3⟩ := RR_op hB
  unfold f_X12_add f_X12_add_D46 f_X12_add_D51
  simp only [am_r11 hm, am_r12 hm, am_r13 hm, am_g11 hm ha, am_g11 hm hb, am_g12 hm ha, am_g12 hm hb, am_g13 hm ha, am_g13 hm hb, am_is hm, Option.bind_some, q_bdsm]
  have s1 := q_ladd (x := mxL σ (m + 2) a) (y := mxL σ (m + 2) b) (by omega) (by omega)
  have s2 := q_ladd (x := mxL σ (m + 3) a) (y := mxL σ (m + 3) b) (by omega) (by omega)
  rcases hA with ⟨a0, rfl, a1, a2, a3⟩ | ⟨a0, -, rfl⟩
  · rw [if_pos a0]
    rcases hB with ⟨b0, rfl, b1, b2, b3⟩ | ⟨b0, -, rfl⟩
    · rw [if_pos b0]; exact r_box hm hp hd s1 s2 (by omega) (by omega)
    · rw [if_neg b0]; exact r_box1 hm hp hd (by omega) (by omega)
  · rw [if_neg a0]; exact r_box1 hm hp hd (by omega) (by omega)
theorem r_less (hm : LyM σ m) (hp : mpb P ≤ m) (hd : d < 320) (ha : a < 320) (hb : b < 320) (hA : RR (rr σ m a) A) (hB : RR (rr σ m b) B) : ∃ r, f_X12_less P m (q_n d) (q_n a) (q_n b) σ = some (rs σ m d r) ∧ RR r (b_sub A B) := by
  obtain ⟨hA, za1, za2, za3⟩ := RR_op hA
  obtain ⟨hB, zb1, zb2, zb3⟩ := RR_op hB
  unfold f_X12_less f_X12_less_D46 f_X12_less_D51
  simp only [am_r11 hm, am_r12 hm, am_r13 hm, am_g11 hm ha, am_g11 hm hb, am_g12 hm ha, am_g12 hm hb, am_g13 hm ha, am_g13 hm hb, am_is hm, Option.bind_some, q_bdsm]
  have s1 := q_lsub (x := mxL σ (m + 2) a) (y := mxL σ (m + 3) b) (by omega) (by omega)
  have s2 := q_lsub (x := mxL σ (m + 3) a) (y := mxL σ (m + 2) b) (by omega) (by omega)
  rcases hA with ⟨a0, rfl, a1, a2, a3⟩ | ⟨a0, -, rfl⟩
  · rw [if_pos a0]
    rcases hB with ⟨b0, rfl, b1, b2, b3⟩ | ⟨b0, -, rfl⟩
    · rw [if_pos b0]; exact r_box hm hp hd s1 s2 (by omega) (by omega)
    · rw [if_neg b0]; exact r_box1 hm hp hd (by omega) (by omega)
  · rw [if_neg a0]; exact r_box1 hm hp hd (by omega) (by omega)
theorem b_mk_in {l h : Int} (h1 : -2147483648 ≤ l) (h2 : h ≤ 2147483648) : b_mk l h = some (l, h) := if_neg (by omega)
theorem r_turned (hm : LyM σ m) (hp : mpb P ≤ m) (hd : d < 320) (ha : a < 320) (hA : RR (rr σ m a) A) : ∃ r, f_X12_turned P m (q_n d) (q_n a) σ = some (rs σ m d r) ∧ RR r (b_neg A) := by
  obtain ⟨hA, za1, za2, za3⟩ := RR_op hA
  unfold f_X12_turned
  simp only [am_r11 hm, am_r12 hm, am_r13 hm, am_g11 hm ha, am_g12 hm ha, am_g13 hm ha, am_is hm, Option.bind_some, q_bdsm]
  have s1 := q_lneg (x := mxL σ (m + 3) a) (by omega)
  have s2 := q_lneg (x := mxL σ (m + 2) a) (by omega)
  rcases hA with ⟨a0, rfl, a1, a2, a3⟩ | ⟨-, a0, rfl⟩
  · rw [a0]
    have := r_box (P := P) hm hp hd s1 s2 (by omega) (by omega)
    rw [b_mk_in (by omega) (by omega)] at this; exact this
  · rw [a0]; exact r_box1 hm hp hd (by omega) (by omega)
theorem r_copy (hm : LyM σ m) (hp : mpb P ≤ m) (hd : d < 320) (ha : a < 320) (hA : RR (rr σ m a) A) : ∃ r, f_X12_copy P m (q_n d) (q_n a) σ = some (rs σ m d r) ∧ RR r A := by
  obtain ⟨hA, za1, za2, za3⟩ := RR_op hA
  unfold f_X12_copy
  simp only [am_r11 hm, am_r12 hm, am_r13 hm, am_g11 hm ha, am_g12 hm ha, am_g13 hm ha, am_is hm, Option.bind_some, q_bdsm]
  rcases hA with ⟨a0, rfl, a1, a2, a3⟩ | ⟨-, a0, rfl⟩
  · rw [a0]
    have := r_box (P := P) hm hp hd (x := mxL σ (m + 2) a) (y := mxL σ (m + 3) a) rfl rfl (by omega) (by omega)
    rw [b_mk_in (by omega) (by omega)] at this; exact this
  · rw [a0]; exact r_box1 hm hp hd (by omega) (by omega)
def ksm (x y : Int64) : Int64 := if x < y then x else y
def kmo (x y : Int64) : Int64 := if y < x then x else y
theorem k_sm (x y : Int64) (σ : mx_S) : f_X12_smaller P x y σ = some (ksm x y, σ) := by
  unfold f_X12_smaller f_X12_smaller_D11
  unfold ksm
  by_cases h : x < y
  · rw [if_neg (by rw [q_cmp_ge, q_lle]; rw [q_llt] at h; omega), if_pos h]
  · rw [if_pos (by rw [q_cmp_ge, q_lle]; rw [q_llt] at h; omega), if_neg h]
theorem k_mo (x y : Int64) (σ : mx_S) : f_X12_most P x y σ = some (kmo x y, σ) := by
  unfold f_X12_most f_X12_most_D11
  unfold kmo
  by_cases h : y < x
  · rw [if_neg (by rw [q_cmp_le, q_lle]; rw [q_llt] at h; omega), if_pos h]
  · rw [if_pos (by rw [q_cmp_le, q_lle]; rw [q_llt] at h; omega), if_neg h]
theorem bd {α β : Type} {o : Option α} {v : α} (e : o = some v) (f : α → Option β) : o.bind f = f v := by rw [e]; rfl
theorem bd2 {α β γ : Type} {o : Option (α × β)} {x : α} {y : β} (e : o = some (x, y)) (g : α → β → Option γ) : mx_b2 o g = g x y := by rw [e]; rfl
theorem bds {α β : Type} (v : α) (f : α → Option β) : (some v).bind f = f v := rfl
theorem k_smb {γ : Type} (x y : Int64) (σ : mx_S) (g : Int64 → mx_S → Option γ) : mx_b2 (f_X12_smaller P x y σ) g = g (ksm x y) σ := bd2 (k_sm x y σ) g
theorem k_mob {γ : Type} (x y : Int64) (σ : mx_S) (g : Int64 → mx_S → Option γ) : mx_b2 (f_X12_most P x y σ) g = g (kmo x y) σ := bd2 (k_mo x y σ) g
theorem ksmT (x y : Int64) : (ksm x y).toInt = min x.toInt y.toInt := by
  unfold ksm; split
  · rename_i h; rw [q_llt] at h; omega
  · rename_i h; rw [q_llt] at h; omega
theorem kmoT (x y : Int64) : (kmo x y).toInt = max x.toInt y.toInt := by
  unfold kmo; split
  · rename_i h; rw [q_llt] at h; omega
  · rename_i h; rw [q_llt] at h; omega
def y_mn4 (a b c d : Int64) : Int64 := ksm (ksm (a * c) (a * d)) (ksm (b * c) (b * d))
def y_mx4 (a b c d : Int64) : Int64 := kmo (kmo (a * c) (a * d)) (kmo (b * c) (b * d))
theorem y_mn4T {a b c d : Int64} (h1 : -2147483648 ≤ a.toInt) (h2 : a.toInt ≤ b.toInt) (h3 : b.toInt ≤ 2147483648) (h4 : -2147483648 ≤ c.toInt) (h5 : c.toInt ≤ d.toInt) (h6 : d.toInt ≤ 2147483648) : (y_mn4 a b c d).toInt = mn4 (a.toInt, b.toInt) (c.toInt, d.toInt) := by
  unfold y_mn4
  rw [ksmT, ksmT, ksmT, l_prod (by omega) (by omega) (by omega) (by omega), l_prod (by omega) (by omega) (by omega) (by omega), l_prod (by omega) (by omega) (by omega) (by omega), l_prod (by omega) (by omega) (by omega) (by omega)]
theorem y_mx4T {a b c d : Int64} (h1 : -2147483648 ≤ a.toInt) (h2 : a.toInt ≤ b.toInt) (h3 : b.toInt ≤ 2147483648) (h4 : -2147483648 ≤ c.toInt) (h5 : c.toInt ≤ d.toInt) (h6 : d.toInt ≤ 2147483648) : (y_mx4 a b c d).toInt = mx4 (a.toInt, b.toInt) (c.toInt, d.toInt) := by
  unfold y_mx4
  rw [kmoT, kmoT, kmoT, l_prod (by omega) (by omega) (by omega) (by omega), l_prod (by omega) (by omega) (by omega) (by omega), l_prod (by omega) (by omega) (by omega) (by omega), l_prod (by omega) (by omega) (by omega) (by omega)]
theorem r_mul (hm : LyM σ m) (hp : mpb P ≤ m) (hd : d < 320) (ha : a < 320) (hb : b < 320) (hA : RR (rr σ m a) A) (hB : RR (rr σ m b) B) : ∃ r, f_X12_multiply P m (q_n d) (q_n a) (q_n b) σ = some (rs σ m d r) ∧ RR r (b_mul A B) := by
  obtain ⟨hA, za1, za2, za3⟩ := RR_op hA
  obtain ⟨hB, zb1, zb2, zb3⟩ := RR_op hB
  unfold f_X12_multiply f_X12_multiply_D134 f_X12_multiply_D139
  simp only [↓bd (am_r11 hm), ↓bd (am_r12 hm), ↓bd (am_r13 hm), ↓bd (am_g11 hm ha), ↓bd (am_g11 hm hb), ↓bd (am_g12 hm ha), ↓bd (am_g12 hm hb), ↓bds, ↓k_smb, ↓k_mob]
  rw [show ksm (ksm (mxL σ (m + 2) a * mxL σ (m + 2) b) (mxL σ (m + 2) a * mxL σ (m + 3) b)) (ksm (mxL σ (m + 3) a * mxL σ (m + 2) b) (mxL σ (m + 3) a * mxL σ (m + 3) b)) = y_mn4 (mxL σ (m + 2) a) (mxL σ (m + 3) a) (mxL σ (m + 2) b) (mxL σ (m + 3) b) from rfl, show kmo (kmo (mxL σ (m + 2) a * mxL σ (m + 2) b) (mxL σ (m + 2) a * mxL σ (m + 3) b)) (kmo (mxL σ (m + 3) a * mxL σ (m + 2) b) (mxL σ (m + 3) a * mxL σ (m + 3) b)) = y_mx4 (mxL σ (m + 2) a) (mxL σ (m + 3) a) (mxL σ (m + 2) b) (mxL σ (m + 3) b) from rfl]
  have hX := y_mn4T za1 za2 za3 zb1 zb2 zb3
  have hY := y_mx4T za1 za2 za3 zb1 zb2 zb3
  obtain ⟨m1b, hXY, m2b⟩ := mn4_b (p := ((mxL σ (m + 2) a).toInt, (mxL σ (m + 3) a).toInt)) (q := ((mxL σ (m + 2) b).toInt, (mxL σ (m + 3) b).toInt)) za1 za2 za3 zb1 zb2 zb3
  generalize y_mn4 (mxL σ (m + 2) a) (mxL σ (m + 3) a) (mxL σ (m + 2) b) (mxL σ (m + 3) b) = x at *
  generalize y_mx4 (mxL σ (m + 2) a) (mxL σ (m + 3) a) (mxL σ (m + 2) b) (mxL σ (m + 3) b) = y at *
  have hbm : (b_mul (some ((mxL σ (m + 2) a).toInt, (mxL σ (m + 3) a).toInt)) (some ((mxL σ (m + 2) b).toInt, (mxL σ (m + 3) b).toInt))) = b_mk (mn4 ((mxL σ (m + 2) a).toInt, (mxL σ (m + 3) a).toInt) ((mxL σ (m + 2) b).toInt, (mxL σ (m + 3) b).toInt) / 65536) (-(-mx4 ((mxL σ (m + 2) a).toInt, (mxL σ (m + 3) a).toInt) ((mxL σ (m + 2) b).toInt, (mxL σ (m + 3) b).toInt) / 65536)) := by unfold b_mul; rw [Option.bind_some, Option.bind_some]
  generalize mn4 ((mxL σ (m + 2) a).toInt, (mxL σ (m + 3) a).toInt) ((mxL σ (m + 2) b).toInt, (mxL σ (m + 3) b).toInt) = m1 at *
  generalize mx4 ((mxL σ (m + 2) a).toInt, (mxL σ (m + 3) a).toInt) ((mxL σ (m + 2) b).toInt, (mxL σ (m + 3) b).toInt) = m2 at *
  have h65 : (65536 : Int64).toInt = 65536 := rfl
  obtain ⟨u, eu, hu⟩ := k_dn (P := P) (x := x) (y := 65536) (by decide) (by omega) σ
  obtain ⟨v, ev, hv⟩ := k_up (P := P) (x := y) (y := 65536) (by decide) (by omega) σ
  rw [h65, hX] at hu
  rw [h65, hY] at hv
  simp only [↓bd2 eu, ↓bd2 ev, ↓bd (am_r13 hm), ↓bd (am_g13 hm ha), ↓bd (am_g13 hm hb), ↓bd (am_is hm), q_bdsm]
  rcases hA with ⟨a0, rfl, a1, a2, a3⟩ | ⟨a0, -, rfl⟩
  · rw [if_pos a0]
    rcases hB with ⟨b0, rfl, b1, b2, b3⟩ | ⟨b0, -, rfl⟩
    · rw [if_pos b0, hbm]; exact r_box hm hp hd hu hv (by omega) (by omega)
    · rw [if_neg b0]; exact r_box1 hm hp hd (by omega) (by omega)
  · rw [if_neg a0]; exact r_box1 hm hp hd (by omega) (by omega)
theorem r_sqk {w x y : Int64} {n : Int} (hm : LyM σ m) (hp : mpb P ≤ m) (hd : d < 320) (ha : a < 320) (hA : RR (rr σ m a) A) (hw : w.toInt = n) (h0 : 0 ≤ n) (hn : n ≤ max x.toInt y.toInt) : ∃ r, f_X12_square_D61 P m (q_n d) (q_n a) x y w σ = some (rs σ m d r) ∧ RR r (A.bind fun _ => b_mk (n / 65536) (-(-max x.toInt y.toInt / 65536))) := by
  obtain ⟨hA, za1, za2, za3⟩ := RR_op hA
  have h65 : (65536 : Int64).toInt = 65536 := rfl
  have hY := kmoT x y
  generalize max x.toInt y.toInt = m2 at *
  have y9 := (kmo x y).toInt_lt
  obtain ⟨u, eu, hu⟩ := k_dn (P := P) (x := w) (y := 65536) (by decide) (by omega) σ
  obtain ⟨v, ev, hv⟩ := k_up (P := P) (x := kmo x y) (y := 65536) (by decide) (by omega) σ
  rw [h65, hw] at hu
  rw [h65, hY] at hv
  unfold f_X12_square_D61
  simp only [↓bd2 eu, ↓k_mob, ↓bd2 ev, ↓bd (am_r13 hm), ↓bd (am_g13 hm ha), ↓bd (am_is hm), q_bdsm]
  rcases hA with ⟨a0, rfl, -⟩ | ⟨-, a0, rfl⟩
  · rw [a0, Option.bind_some]; exact r_box hm hp hd hu hv (by omega) (by omega)
  · rw [a0]; exact r_box1 hm hp hd (by omega) (by omega)
theorem sq_nn (x : Int) : 0 ≤ x * x := by
  rcases Int.le_total 0 x with h | h
  · exact Int.mul_nonneg h h
  · exact Int.mul_nonneg_of_nonpos_of_nonpos h h
theorem r_sq (hm : LyM σ m) (hp : mpb P ≤ m) (hd : d < 320) (ha : a < 320) (hA : RR (rr σ m a) A) : ∃ r, f_X12_square P m (q_n d) (q_n a) σ = some (rs σ m d r) ∧ RR r (b_sq A) := by
  obtain ⟨hA', za1, za2, za3⟩ := RR_op hA
  have e1 := l_prod (x := mxL σ (m + 2) a) (y := mxL σ (m + 2) a) (by omega) (by omega) (by omega) (by omega)
  have e2 := l_prod (x := mxL σ (m + 3) a) (y := mxL σ (m + 3) a) (by omega) (by omega) (by omega) (by omega)
  have n1 := sq_nn (mxL σ (m + 2) a).toInt
  have n2 := sq_nn (mxL σ (m + 3) a).toInt
  have hX := ksmT (mxL σ (m + 2) a * mxL σ (m + 2) a) (mxL σ (m + 3) a * mxL σ (m + 3) a)
  have hb : ∀ n : Int, n = (if (mxL σ (m + 2) a).toInt ≤ 0 ∧ 0 ≤ (mxL σ (m + 3) a).toInt then 0 else min ((mxL σ (m + 2) a).toInt * (mxL σ (m + 2) a).toInt) ((mxL σ (m + 3) a).toInt * (mxL σ (m + 3) a).toInt)) → (A.bind fun _ => b_mk (n / 65536) (-(-max (mxL σ (m + 2) a * mxL σ (m + 2) a).toInt (mxL σ (m + 3) a * mxL σ (m + 3) a).toInt / 65536))) = b_sq A := by
    intro n hn
    rw [e1, e2, hn]
    rcases hA' with ⟨a0, rfl, -⟩ | ⟨-, a0, rfl⟩
    · unfold b_sq; rw [Option.bind_some, Option.bind_some]
    · rfl
  unfold f_X12_square f_X12_square_D55
  simp only [↓bd (am_r11 hm), ↓bd (am_r12 hm), ↓bd (am_g11 hm ha), ↓bd (am_g12 hm ha), ↓bds, l_pos, l_neg, ↓k_smb]
  rw [e1, e2] at hX
  by_cases c1 : 0 < (mxL σ (m + 2) a).toInt
  · rw [if_pos c1, ← hb _ (if_neg (by omega)).symm]
    exact r_sqk hm hp hd ha hA hX (by omega) (by omega)
  · rw [if_neg c1]
    by_cases c2 : (mxL σ (m + 3) a).toInt < 0
    · rw [if_pos c2, ← hb _ (if_neg (by omega)).symm]
      exact r_sqk hm hp hd ha hA hX (by omega) (by omega)
    · rw [if_neg c2, ← hb _ (if_pos (by omega)).symm]
      exact r_sqk hm hp hd ha hA q_l0 (by omega) (by omega)
theorem r_frac {p q : Int64} (hp1 : -1000000000000 ≤ p.toInt) (hp2 : p.toInt ≤ 1000000000000) (hq : 0 < q.toInt) (hm : LyM σ m) (hp : mpb P ≤ m) (hd : d < 320) : ∃ r, f_X12_fraction P m (q_n d) p q σ = some (rs σ m d r) ∧ RR r (b_frac p.toInt q.toInt) := by
  have c1 : ((65536 : Int64) * p).toInt = 65536 * p.toInt := q_lmul (by rw [show (65536 : Int64).toInt = 65536 from rfl]; omega) (by rw [show (65536 : Int64).toInt = 65536 from rfl]; omega)
  obtain ⟨u, eu, hu⟩ := k_dn (P := P) (x := (65536 : Int64) * p) hq (by omega) σ
  obtain ⟨v, ev, hv⟩ := k_up (P := P) (x := (65536 : Int64) * p) hq (by omega) σ
  rw [c1] at hu hv
  unfold f_X12_fraction
  simp only [eu, ev, q_b2, am_is hm, Option.bind_some, q_bdsm]
  have := fl_bd (a := 65536 * p.toInt) hq (n := 65536000000000000) (by omega) (by omega) (by omega)
  exact r_box hm hp hd hu hv (by omega) (fl_cl hq)
theorem r_half (hm : LyM σ m) (hp : mpb P ≤ m) (hd : d < 320) (ha : a < 320) (hA : RR (rr σ m a) A) : ∃ r, f_X12_half P m (q_n d) (q_n a) σ = some (rs σ m d r) ∧ RR r (b_share 2 A) := by
  obtain ⟨hA, za1, za2, za3⟩ := RR_op hA
  obtain ⟨u, eu, hu⟩ := k_dn (P := P) (x := mxL σ (m + 2) a) (y := 2) (by decide) (by omega) σ
  obtain ⟨v, ev, hv⟩ := k_up (P := P) (x := mxL σ (m + 3) a) (y := 2) (by decide) (by omega) σ
  rw [show (2 : Int64).toInt = 2 from rfl] at hu hv
  unfold f_X12_half
  simp only [am_r11 hm, am_r12 hm, am_r13 hm, am_g11 hm ha, am_g12 hm ha, am_g13 hm ha, am_is hm, Option.bind_some, q_bdsm, eu, ev, q_b2]
  rcases hA with ⟨a0, rfl, a1, a2, a3⟩ | ⟨-, a0, rfl⟩
  · rw [a0]
    have := r_box (P := P) hm hp hd hu hv (by omega) (by omega)
    rw [b_mk_in (by omega) (by omega)] at this; exact this
  · rw [a0]; exact r_box1 hm hp hd (by omega) (by omega)
theorem r_whole {n : Int64} (hn1 : -1000 ≤ n.toInt) (hn2 : n.toInt ≤ 1000) (hm : LyM σ m) (hp : mpb P ≤ m) (hd : d < 320) (ha : a < 320) (hA : RR (rr σ m a) A) : ∃ r, f_X12_whole P m (q_n d) n (q_n a) σ = some (rs σ m d r) ∧ RR r (b_whole n.toInt A) := by
  obtain ⟨hA, za1, za2, za3⟩ := RR_op hA
  have p1 := pr_bd (x := n.toInt) (y := (mxL σ (m + 2) a).toInt) (m := 1000) (n := 2147483648) hn1 hn2 (by omega) (by omega)
  have p2 := pr_bd (x := n.toInt) (y := (mxL σ (m + 3) a).toInt) (m := 1000) (n := 2147483648) hn1 hn2 (by omega) (by omega)
  have e1 : (n * mxL σ (m + 2) a).toInt = n.toInt * (mxL σ (m + 2) a).toInt := q_lmul (by omega) (by omega)
  have e2 : (n * mxL σ (m + 3) a).toInt = n.toInt * (mxL σ (m + 3) a).toInt := q_lmul (by omega) (by omega)
  have hbw : ∀ p : Int × Int, b_whole n.toInt (some p) = b_mk (if n.toInt < 0 then n.toInt * p.2 else n.toInt * p.1) (if n.toInt < 0 then n.toInt * p.1 else n.toInt * p.2) := fun _ => rfl
  unfold f_X12_whole f_X12_whole_D29 f_X12_whole_D56
  simp only [am_r11 hm, am_r12 hm, am_r13 hm, am_g11 hm ha, am_g12 hm ha, am_g13 hm ha, am_is hm, Option.bind_some, q_bdsm, l_nn]
  by_cases h : 0 ≤ n.toInt
  · have hle : n.toInt * (mxL σ (m + 2) a).toInt ≤ n.toInt * (mxL σ (m + 3) a).toInt := Int.mul_le_mul_of_nonneg_left za2 h
    simp only [if_pos h]
    rcases hA with ⟨a0, rfl, a1, a2, a3⟩ | ⟨-, a0, rfl⟩
    · rw [a0, hbw, if_neg (by omega), if_neg (by omega)]; exact r_box hm hp hd e1 e2 (by dsimp only; omega) hle
    · rw [a0]; exact r_box1 hm hp hd (by omega) (by omega)
  · have hle : n.toInt * (mxL σ (m + 3) a).toInt ≤ n.toInt * (mxL σ (m + 2) a).toInt := Int.mul_le_mul_of_nonpos_left (by omega) za2
    simp only [if_neg h]
    rcases hA with ⟨a0, rfl, a1, a2, a3⟩ | ⟨-, a0, rfl⟩
    · rw [a0, hbw, if_pos (by omega), if_pos (by omega)]; exact r_box hm hp hd e2 e1 (by dsimp only; omega) hle
    · rw [a0]; exact r_box1 hm hp hd (by omega) (by omega)
theorem r_root (hf : 100 ≤ mpN P) (hm : LyM σ m) (hp : mpb P ≤ m) (hd : d < 320) (ha : a < 320) (hA : RR (rr σ m a) A) (h0 : ∀ p, A = some p → 0 ≤ p.1) : ∃ r, f_X12_rootOf P m (q_n d) (q_n a) σ = some (rs σ m d r) ∧ RR r (b_root A) := by
  obtain ⟨hA, za1, za2, za3⟩ := RR_op hA
  unfold f_X12_rootOf f_X12_rootOf_D72
  simp only [am_r11 hm, am_r12 hm, am_r13 hm, am_g11 hm ha, am_g12 hm ha, am_g13 hm ha, am_is hm, Option.bind_some, q_bdsm]
  rcases hA with ⟨t0, rfl, t1, t2, t3⟩ | ⟨t0, -, rfl⟩
  · have h1 : 0 ≤ (mxL σ (m + 2) a).toInt := h0 _ rfl
    obtain ⟨x, k1, e1, -⟩ := k_rb' (P := P) (σ := σ) (x := mxL σ (m + 2) a) hf h1 (by omega)
    obtain ⟨y, k2, e2, s2⟩ := k_rb' (P := P) (σ := σ) (x := mxL σ (m + 3) a) hf (by omega) (by omega)
    obtain ⟨u1, u2, u3⟩ := rt_T h1 (by omega)
    obtain ⟨w1, w2, w3⟩ := rt_T (x := (mxL σ (m + 3) a).toInt) (by omega) (by omega)
    have um := rt_mono h1 t2 t3
    rw [if_pos t0, b_root_s, k1, q_b2, am_r12 hm, Option.bind_some, am_g12 hm ha, Option.bind_some, k2, q_b2, am_r12 hm, Option.bind_some, am_g12 hm ha, Option.bind_some, am_is hm, Option.bind_some, Option.bind_some]
    generalize rtb (mxL σ (m + 2) a).toInt = R0 at *
    generalize rtb (mxL σ (m + 3) a).toInt = R1 at *
    have e3 : (y * y).toInt = R1 * R1 := by
      rw [l_prod (by omega) (by omega) (by omega) (by omega), e2]
    by_cases hc : R1 * R1 < 65536 * (mxL σ (m + 3) a).toInt
    · rw [if_neg (by rw [q_cmp_ge, q_lle, e3, s2]; omega), if_pos hc]
      have := r_box (P := P) hm hp hd e1 (y := y + 1) (v := R1 + 1) (by rw [q_ladd (by rw [q_l1]; omega) (by rw [q_l1]; omega), e2, q_l1]) (by omega) (by omega)
      rw [b_mk_in (by omega) (by omega)] at this
      exact this
    · rw [if_pos (by rw [q_cmp_ge, q_lle, e3, s2]; omega), if_neg hc]
      have := r_box (P := P) hm hp hd e1 e2 (by omega) um
      rw [b_mk_in (by omega) (by omega)] at this
      exact this
  · rw [if_neg t0]; exact r_box1 hm hp hd (by decide) (by decide)
end CEA
