/-! ===== eb: the reference: sums of products, turns ===== -/
section EBA
variable {P : mx_P} {σ σ0 : mx_S} {m a b d : Nat} {r : rw3} {E : Nat → BV} {fn fd : Bool} {β : Type} {Q : β → Prop}
theorem li_160 : (160 : Int32) = q_n 160 := rfl
theorem li_161 : (161 : Int32) = q_n 161 := rfl
theorem li_162 : (162 : Int32) = q_n 162 := rfl
theorem li_163 : (163 : Int32) = q_n 163 := rfl
theorem li_164 : (164 : Int32) = q_n 164 := rfl
theorem li_165 : (165 : Int32) = q_n 165 := rfl
theorem li_166 : (166 : Int32) = q_n 166 := rfl
theorem li_167 : (167 : Int32) = q_n 167 := rfl
theorem li_168 : (168 : Int32) = q_n 168 := rfl
theorem li_169 : (169 : Int32) = q_n 169 := rfl
theorem li_170 : (170 : Int32) = q_n 170 := rfl
theorem li_171 : (171 : Int32) = q_n 171 := rfl
theorem li_172 : (172 : Int32) = q_n 172 := rfl
theorem li_173 : (173 : Int32) = q_n 173 := rfl
theorem li_174 : (174 : Int32) = q_n 174 := rfl
theorem li_175 : (175 : Int32) = q_n 175 := rfl
theorem li_180 : (180 : Int32) = q_n 180 := rfl
theorem li_181 : (181 : Int32) = q_n 181 := rfl
theorem li_182 : (182 : Int32) = q_n 182 := rfl
theorem li_183 : (183 : Int32) = q_n 183 := rfl
theorem li_184 : (184 : Int32) = q_n 184 := rfl
theorem li_185 : (185 : Int32) = q_n 185 := rfl
theorem li_190 : (190 : Int32) = q_n 190 := rfl
theorem li_191 : (191 : Int32) = q_n 191 := rfl
theorem li_200 : (200 : Int32) = q_n 200 := rfl
theorem li_201 : (201 : Int32) = q_n 201 := rfl
theorem li_202 : (202 : Int32) = q_n 202 := rfl
theorem li_203 : (203 : Int32) = q_n 203 := rfl
theorem li_210 : (210 : Int32) = q_n 210 := rfl
theorem li_211 : (211 : Int32) = q_n 211 := rfl
theorem li_212 : (212 : Int32) = q_n 212 := rfl
theorem li_213 : (213 : Int32) = q_n 213 := rfl
theorem li_220 : (220 : Int32) = q_n 220 := rfl
theorem li_221 : (221 : Int32) = q_n 221 := rfl
theorem li_222 : (222 : Int32) = q_n 222 := rfl
theorem li_223 : (223 : Int32) = q_n 223 := rfl
theorem li_224 : (224 : Int32) = q_n 224 := rfl
theorem li_225 : (225 : Int32) = q_n 225 := rfl
theorem li_226 : (226 : Int32) = q_n 226 := rfl
section ST
variable {k : mx_S → Option β}
theorem uu_between (h : H σ0 m E fn fd σ) (hM : LyM σ0 m) (hp : mpb P ≤ m) (hd : d + 1 < 320) (ha : 2 * a + 1 < 320) (hb : 2 * b + 1 < 320) (h1 : 2 * a + 1 ≠ d) (h2 : 2 * b + 1 ≠ d) (hk : ∀ σ' v w, v = b_sub (E (2 * a)) (E (2 * b)) → w = b_sub (E (2 * a + 1)) (E (2 * b + 1)) → H σ0 m (up (up E d v) (d + 1) w) fn fd σ' → Wp (k σ') Q) : Wp ((f_X12_between P m (q_n d) (q_n a) (q_n b) σ).bind k) Q := by
  refine Wp_b (Wp_mo (Q := fun σ' => H σ0 m (up (up E d (b_sub (E (2 * a)) (E (2 * b)))) (d + 1) (b_sub (E (2 * a + 1)) (E (2 * b + 1)))) fn fd σ') ?_ (fun σ' g => hk σ' _ _ rfl rfl g))
  unfold f_X12_between
  simp only [q_m2, q_nS]
  refine uu_is h hM (uu_less h hM hp (by omega) (by omega) (by omega) fun σ1 v hv g1 => ?_)
  refine uu_is g1 hM (uu_less g1 hM hp (by omega) (by omega) (by omega) fun σ2 w hw g2 => Wp_s ?_)
  rw [up_n h1, up_n h2] at hw
  subst hv; subst hw; exact g2
theorem uu_dot (h : H σ0 m E fn fd σ) (hM : LyM σ0 m) (hp : mpb P ≤ m) (hd : d < 320) (ha : a + 1 < 225) (hb : b + 1 < 225) (hk : ∀ σ' x y v, v = b_add (b_mul (E a) (E b)) (b_mul (E (a + 1)) (E (b + 1))) → H σ0 m (up (up (up E 225 x) 226 y) d v) fn fd σ' → Wp (k σ') Q) : Wp ((f_X12_dot P m (q_n d) (q_n a) (q_n b) σ).bind k) Q := by
  refine Wp_b (Wp_mo (Q := fun σ' => ∃ x y, H σ0 m (up (up (up E 225 x) 226 y) d (b_add (b_mul (E a) (E b)) (b_mul (E (a + 1)) (E (b + 1))))) fn fd σ') ?_ (fun σ' ⟨x, y, g⟩ => hk σ' x y _ rfl g))
  unfold f_X12_dot
  simp only [li_225, li_226, q_nS]
  refine uu_is h hM (uu_mul h hM hp (by omega) (by omega) (by omega) fun σ1 x hx g1 => ?_)
  refine uu_is g1 hM (uu_mul g1 hM hp (by omega) (by omega) (by omega) fun σ2 y hy g2 => ?_)
  refine uu_is g2 hM (uu_add g2 hM hp (by omega) (by omega) (by omega) fun σ3 v hv g3 => Wp_s ⟨x, y, ?_⟩)
  rw [up_n (show 225 ≠ 226 by omega), up_e, up_e] at hv
  rw [up_n (by omega), up_n (by omega)] at hy
  subst hv; subst hx; subst hy; exact g3
theorem uu_crs (h : H σ0 m E fn fd σ) (hM : LyM σ0 m) (hp : mpb P ≤ m) (hd : d < 320) (ha : a + 1 < 225) (hb : b + 1 < 225) (hk : ∀ σ' x y v, v = b_sub (b_mul (E a) (E (b + 1))) (b_mul (E (a + 1)) (E b)) → H σ0 m (up (up (up E 225 x) 226 y) d v) fn fd σ' → Wp (k σ') Q) : Wp ((f_X12_cross P m (q_n d) (q_n a) (q_n b) σ).bind k) Q := by
  refine Wp_b (Wp_mo (Q := fun σ' => ∃ x y, H σ0 m (up (up (up E 225 x) 226 y) d (b_sub (b_mul (E a) (E (b + 1))) (b_mul (E (a + 1)) (E b)))) fn fd σ') ?_ (fun σ' ⟨x, y, g⟩ => hk σ' x y _ rfl g))
  unfold f_X12_cross
  simp only [li_225, li_226, q_nS]
  refine uu_is h hM (uu_mul h hM hp (by omega) (by omega) (by omega) fun σ1 x hx g1 => ?_)
  refine uu_is g1 hM (uu_mul g1 hM hp (by omega) (by omega) (by omega) fun σ2 y hy g2 => ?_)
  refine uu_is g2 hM (uu_less g2 hM hp (by omega) (by omega) (by omega) fun σ3 v hv g3 => Wp_s ⟨x, y, ?_⟩)
  rw [up_n (show 225 ≠ 226 by omega), up_e, up_e] at hv
  rw [up_n (by omega), up_n (by omega)] at hy
  subst hv; subst hx; subst hy; exact g3
theorem uu_squares (h : H σ0 m E fn fd σ) (hM : LyM σ0 m) (hp : mpb P ≤ m) (hd : d < 320) (ha : a + 1 < 225) (hk : ∀ σ' x y v, v = b_add (b_sq (E a)) (b_sq (E (a + 1))) → H σ0 m (up (up (up E 225 x) 226 y) d v) fn fd σ' → Wp (k σ') Q) : Wp ((f_X12_squares P m (q_n d) (q_n a) σ).bind k) Q := by
  refine Wp_b (Wp_mo (Q := fun σ' => ∃ x y, H σ0 m (up (up (up E 225 x) 226 y) d (b_add (b_sq (E a)) (b_sq (E (a + 1))))) fn fd σ') ?_ (fun σ' ⟨x, y, g⟩ => hk σ' x y _ rfl g))
  unfold f_X12_squares
  simp only [li_225, li_226, q_nS]
  refine uu_is h hM (uu_sq h hM hp (by omega) (by omega) fun σ1 x hx g1 => ?_)
  refine uu_is g1 hM (uu_sq g1 hM hp (by omega) (by omega) fun σ2 y hy g2 => ?_)
  refine uu_is g2 hM (uu_add g2 hM hp (by omega) (by omega) (by omega) fun σ3 v hv g3 => Wp_s ⟨x, y, ?_⟩)
  rw [up_n (show 225 ≠ 226 by omega), up_e, up_e] at hv
  rw [up_n (by omega)] at hy
  subst hv; subst hx; subst hy; exact g3
theorem uu_turnP (h : H σ0 m E fn fd σ) (hM : LyM σ0 m) (hp : mpb P ≤ m) (hd : d + 1 < 221) (ha : a + 1 < 221) (hb : b + 1 < 221) (hk : ∀ σ' x y z u v w, v = b_sub (b_mul (E a) (E b)) (b_mul (E (a + 1)) (E (b + 1))) → w = b_add (b_mul (E a) (E (b + 1))) (b_mul (E (a + 1)) (E b)) → H σ0 m (up (up (up (up (up (up E 221 x) 222 y) 223 z) 224 u) d v) (d + 1) w) fn fd σ' → Wp (k σ') Q) : Wp ((f_X12_turnPair P m (q_n d) (q_n a) (q_n b) σ).bind k) Q := by
  refine Wp_b (Wp_mo (Q := fun σ' => ∃ x y z u, H σ0 m (up (up (up (up (up (up E 221 x) 222 y) 223 z) 224 u) d (b_sub (b_mul (E a) (E b)) (b_mul (E (a + 1)) (E (b + 1))))) (d + 1) (b_add (b_mul (E a) (E (b + 1))) (b_mul (E (a + 1)) (E b)))) fn fd σ') ?_ (fun σ' ⟨x, y, z, u, g⟩ => hk σ' x y z u _ _ rfl rfl g))
  unfold f_X12_turnPair
  simp only [li_221, li_222, li_223, li_224, q_nS]
  refine uu_is h hM (uu_mul h hM hp (by omega) (by omega) (by omega) fun σ1 x hx g1 => ?_)
  refine uu_is g1 hM (uu_mul g1 hM hp (by omega) (by omega) (by omega) fun σ2 y hy g2 => ?_)
  refine uu_is g2 hM (uu_mul g2 hM hp (by omega) (by omega) (by omega) fun σ3 z hz g3 => ?_)
  refine uu_is g3 hM (uu_mul g3 hM hp (by omega) (by omega) (by omega) fun σ4 u hu g4 => ?_)
  refine uu_is g4 hM (uu_less g4 hM hp (by omega) (by omega) (by omega) fun σ5 v hv g5 => ?_)
  refine uu_is g5 hM (uu_add g5 hM hp (by omega) (by omega) (by omega) fun σ6 w hw g6 => Wp_s ⟨x, y, z, u, ?_⟩)
  simp (disch := omega) only [up_e, up_n] at hy hz hu hv hw
  subst hx; subst hy; subst hz; subst hu; subst hv; subst hw
  exact g6
theorem uu_squared {p q : Int64} (h : H σ0 m E fn fd σ) (hM : LyM σ0 m) (hp : mpb P ≤ m) (hp1 : -9999 ≤ p.toInt) (hp2 : p.toInt ≤ 9999) (hq : 0 < q.toInt) (hq2 : q.toInt ≤ 9999) (hd : d < 320) (hk : ∀ σ' v, v = b_frac (p.toInt * p.toInt) (q.toInt * q.toInt) → H σ0 m (up E d v) fn fd σ' → Wp (k σ') Q) : Wp ((f_X12_squared P m (q_n d) p q σ).bind k) Q := by
  have b1 := pr_bd (x := p.toInt) (y := p.toInt) (m := 9999) (n := 9999) (by omega) (by omega) (by omega) (by omega)
  have b2 := pr_bd (x := q.toInt) (y := q.toInt) (m := 9999) (n := 9999) (by omega) (by omega) (by omega) (by omega)
  have b3 : 0 < q.toInt * q.toInt := Int.mul_pos hq hq
  have e1 : (p * p).toInt = p.toInt * p.toInt := q_lmul (by omega) (by omega)
  have e2 : (q * q).toInt = q.toInt * q.toInt := q_lmul (by omega) (by omega)
  refine Wp_b (Wp_mo (Q := fun σ' => H σ0 m (up E d (b_frac (p.toInt * p.toInt) (q.toInt * q.toInt))) fn fd σ') ?_ (fun σ' g => hk σ' _ rfl g))
  unfold f_X12_squared
  refine uu_is h hM (uu_frac h hM hp (by omega) (by omega) (by omega) hd fun σ1 v hv g1 => Wp_s ?_)
  rw [e1, e2] at hv
  subst hv; exact g1
end ST
end EBA
