/-! ===== ji: the least of fractions ===== -/
section JIS
variable {P : mx_P} {σ σ0 σ1 σ2 τ : mx_S} {a b c d g p q p' q' m n i j k r A : Nat} {X Y : Nat → Int} {u v : Int64} {x y s : Int} {D D' : Nat → Nat → Prop}
/-- the least, in lowest terms -/
def Mn (p q : Nat) (D : Nat → Nat → Prop) : Prop := 0 < q ∧ Nat.gcd p q = 1 ∧ (∃ c d, D c d ∧ 0 < d ∧ p * d = c * q) ∧ ∀ c d, D c d → p * d ≤ c * q
theorem Mn_cg (h : Mn p q D) (e : ∀ c d, D' c d ↔ D c d) : Mn p q D' := by
  obtain ⟨h1, h2, ⟨c, d, h3, h4⟩, h5⟩ := h
  exact ⟨h1, h2, ⟨c, d, (e c d).mpr h3, h4⟩, fun c d z => h5 c d ((e c d).mp z)⟩
theorem gc_e (c : Nat) (hd : 0 < d) : 0 < Nat.gcd c d ∧ c = c / Nat.gcd c d * Nat.gcd c d ∧ d = d / Nat.gcd c d * Nat.gcd c d ∧ Nat.gcd (c / Nat.gcd c d) (d / Nat.gcd c d) = 1 ∧ 0 < d / Nat.gcd c d := by
  have hg := Nat.gcd_pos_of_pos_right c hd
  refine ⟨hg, (Nat.div_mul_cancel (Nat.gcd_dvd_left c d)).symm, (Nat.div_mul_cancel (Nat.gcd_dvd_right c d)).symm, ?_, Nat.div_pos (Nat.gcd_le_right c hd) hg⟩
  rw [Nat.gcd_div (Nat.gcd_dvd_left c d) (Nat.gcd_dvd_right c d)]
  exact Nat.div_self hg
theorem Mn_new (hd : 0 < d) (h : ∀ x y, D x y → c * y ≤ x * d) : Mn (c / Nat.gcd c d) (d / Nat.gcd c d) (fun x y => D x y ∨ (x = c ∧ y = d)) := by
  obtain ⟨g1, g2, g3, g4, g5⟩ := gc_e c hd
  generalize c / Nat.gcd c d = c' at *
  generalize d / Nat.gcd c d = d' at *
  generalize Nat.gcd c d = g at *
  refine ⟨g5, g4, ⟨c, d, Or.inr ⟨rfl, rfl⟩, hd, ?_⟩, fun x y z => ?_⟩
  · rw [g2, g3]; grind
  · rcases z with z | ⟨rfl, rfl⟩
    · have := h x y z
      rw [g2, g3] at this
      apply Nat.le_of_mul_le_mul_right _ g1
      grind
    · rw [g2, g3]; apply Nat.le_of_eq; grind
theorem Mn_st (h : Mn p q D) (hd : 0 < d) : (c * q < p * d → Mn (c / Nat.gcd c d) (d / Nat.gcd c d) (fun x y => D x y ∨ (x = c ∧ y = d))) ∧ (¬ c * q < p * d → Mn p q (fun x y => D x y ∨ (x = c ∧ y = d))) := by
  obtain ⟨h1, h2, ⟨c0, d0, h3, h4⟩, h5⟩ := h
  constructor
  · intro hlt
    refine Mn_new hd fun x y z => ?_
    have h6 := h5 x y z
    apply Nat.le_of_mul_le_mul_right _ h1
    have a1 : c * q * y ≤ p * d * y := Nat.mul_le_mul_right y (by omega)
    have a2 : p * y * d ≤ x * q * d := Nat.mul_le_mul_right d h6
    grind
  · intro hge
    refine ⟨h1, h2, ⟨c0, d0, Or.inl h3, h4⟩, fun x y z => ?_⟩
    rcases z with z | ⟨rfl, rfl⟩
    · exact h5 x y z
    · omega
theorem Mn_le (h : Mn p q D) (h' : Mn p' q' D') (hd : ∀ c d, D' c d → 0 < d → ∃ c1 d1, D c1 d1 ∧ 0 < d1 ∧ c1 * d ≤ c * d1) : p * q' ≤ p' * q := by
  obtain ⟨h1, -, -, h5⟩ := h
  obtain ⟨g1, -, ⟨c, d, g3, g4, g6⟩, -⟩ := h'
  obtain ⟨c1, d1, k1, k2, k3⟩ := hd c d g3 g4
  have h6 := h5 c1 d1 k1
  apply Nat.le_of_mul_le_mul_right _ (Nat.mul_pos k2 g4)
  have a1 : p * d1 * (q' * d) ≤ c1 * q * (q' * d) := Nat.mul_le_mul_right _ h6
  have a2 : c1 * d * (q * q') ≤ c * d1 * (q * q') := Nat.mul_le_mul_right _ k3
  have a3 : p' * d * (d1 * q) = c * q' * (d1 * q) := by rw [g6]
  grind
theorem Mn_u (h : Mn p q D) (h' : Mn p' q' D') (e1 : ∀ c d, D' c d → 0 < d → ∃ c1 d1, D c1 d1 ∧ 0 < d1 ∧ c1 * d ≤ c * d1) (e2 : ∀ c d, D c d → 0 < d → ∃ c1 d1, D' c1 d1 ∧ 0 < d1 ∧ c1 * d ≤ c * d1) : p = p' ∧ q = q' := by
  have a := Mn_le h h' e1
  have b := Mn_le h' h e2
  have e : p * q' = p' * q := by omega
  have c1 : Nat.Coprime q p := by rw [Nat.coprime_comm]; exact h.2.1
  have c2 : Nat.Coprime q' p' := by rw [Nat.coprime_comm]; exact h'.2.1
  have d1 : q ∣ q' := c1.dvd_of_dvd_mul_left ⟨p', by rw [e, Nat.mul_comm]⟩
  have d2 : q' ∣ q := c2.dvd_of_dvd_mul_left ⟨p, by rw [← e, Nat.mul_comm]⟩
  have eq := Nat.dvd_antisymm d1 d2
  subst eq
  exact ⟨Nat.eq_of_mul_eq_mul_right h.1 e, rfl⟩
/-! the class offers -/
def FN (σ : mx_S) (a p q : Nat) : Prop := mxL σ a 0 = l_n p ∧ mxL σ a 1 = l_n q ∧ p < 1000000000000000 ∧ 0 < q ∧ q < 100000000
theorem fr_nat (hd : 0 < d) : frP (c : Int) (d : Int) = ((c / Nat.gcd c d : Nat) : Int) ∧ frQ (c : Int) (d : Int) = ((d / Nat.gcd c d : Nat) : Int) := by
  unfold frP frQ gcI
  rw [if_pos (by omega), Int.natAbs_natCast, Int.natAbs_natCast]
  exact ⟨(Int.natCast_ediv _ _).symm, (Int.natCast_ediv _ _).symm⟩
theorem c_setN (hf : 5000 ≤ mpN P) (hA : mxA σ a = some (.inl 3)) (hb : mpb P ≤ a) (hc : c < 1000000000000000) (hd : 0 < d) (hd2 : d < 100000000) : ∃ τ, f_X3_set P a (l_n c) (l_n d) σ = some τ ∧ FN τ a (c / Nat.gcd c d) (d / Nat.gcd c d) ∧ Fz (fun q j => q = a ∧ j ≤ 2) σ τ := by
  obtain ⟨τ, e, ⟨-, h1, h2⟩, f⟩ := c_set (P := P) (σ := σ) (a := a) (u := l_n c) (v := l_n d) (c := c) (d := d) (A := c) (B := d) hf hA hb ⟨l_nT (by omega), by rw [Int.natAbs_natCast]; exact Nat.le_refl _⟩ ⟨l_nT (by omega), by rw [Int.natAbs_natCast]; exact Nat.le_refl _⟩ (by omega) (by omega) (by omega)
  have k1 := Nat.div_le_self c (Nat.gcd c d)
  have k2 := Nat.div_le_self d (Nat.gcd c d)
  obtain ⟨f1, f2⟩ := fr_nat (c := c) hd
  refine ⟨τ, e, ⟨Int64.toInt.inj ?_, Int64.toInt.inj ?_, by omega, (gc_e c hd).2.2.2.2, by omega⟩, f⟩
  · rw [h1, f1, l_nT (by omega)]
  · rw [h2, f2, l_nT (by omega)]
theorem c_off (hf : 5000 ≤ mpN P) (hA : mxA σ a = some (.inl 3)) (hb : mpb P ≤ a) (h : FN σ a p q) (hM : Mn p q D) (hc : c < 1000000000000000) (hd : 0 < d) (hd2 : d < 100000000) : ∃ τ p' q', f_X9_offer P (l_n c) (l_n d) a σ = some τ ∧ FN τ a p' q' ∧ Mn p' q' (fun x y => D x y ∨ (x = c ∧ y = d)) ∧ Fz (fun q j => q = a ∧ j ≤ 2) σ τ := by
  obtain ⟨h1, h2, h3, h4, h5⟩ := id h
  obtain ⟨s1, s2⟩ := Mn_st (c := c) hM hd
  unfold f_X9_offer f_X9_offer_D17
  rw [bd (q_is hA), bd2 (c_abv hA h1 h2 h4 hd (by omega) (by omega) (by omega) (by omega))]
  by_cases c0 : c * q < p * d
  · obtain ⟨τ, e, e1, e2⟩ := c_setN (P := P) hf hA hb hc hd hd2
    rw [decide_eq_true c0, if_neg (show ¬ bI true = 0 by decide), bd (q_is hA), bd e]
    exact ⟨τ, _, _, rfl, e1, s1 c0, e2⟩
  · rw [decide_eq_false c0, if_pos (show bI false = 0 from rfl)]
    exact ⟨σ, p, q, rfl, h, s2 c0, Fz.rf⟩
/-! the reference offers -/
def FNr (σ : mx_S) (m : Nat) (D : Nat → Nat → Prop) : Prop := (mxL σ m 90 = 0 ∧ ∀ c d, ¬ D c d) ∨ ∃ p q, mxL σ m 89 = l_n p ∧ mxL σ m 90 = l_n q ∧ p < 1000000000000000 ∧ q < 100000000 ∧ Mn p q D
theorem r_nea (hf : 5000 ≤ mpN P) (hM : LyM σ m) (hb : mpb P ≤ m) (h : FNr σ m D) (hc : c < 1000000000000000) (hd : 0 < d) (hd2 : d < 100000000) : ∃ τ, f_X12_nearer P m (l_n c) (l_n d) σ = some τ ∧ FNr τ m (fun x y => D x y ∨ (x = c ∧ y = d)) ∧ Fz (fun q j => q = m ∧ (j = 89 ∨ j = 90)) σ τ := by
  obtain ⟨g1, g2, g3, g4, g5⟩ := gc_e c hd
  have k1 := Nat.div_le_self c (Nat.gcd c d)
  have k2 := Nat.div_le_self d (Nat.gcd c d)
  have hgl := Nat.gcd_le_right c hd
  have gcd1 : f_X12_gcd P (l_n c) (l_n d) σ = some (l_n (Nat.gcd c d), σ) := by
    have := r_gcd (P := P) (σ := σ) (x := l_n c) (y := l_n d) hf (by rw [l_nT (by omega), Int.natAbs_natCast]; omega) (by rw [l_nT (by omega), Int.natAbs_natCast]; omega)
    rw [l_nT (by omega), l_nT (by omega), Int.natAbs_natCast, Int.natAbs_natCast] at this
    exact this
  obtain ⟨s1, e1⟩ : ∃ s1, s1 = mx_setL σ m 89 (l_n (c / Nat.gcd c d)) := ⟨_, rfl⟩
  obtain ⟨s2, e2⟩ : ∃ s2, s2 = mx_setL s1 m 90 (l_n (d / Nat.gcd c d)) := ⟨_, rfl⟩
  have hM1 : LyM s1 m := by rw [e1]; exact hM
  have d39 : f_X12_nearer_D39 P m (l_n c) (l_n d) (l_n (Nat.gcd c d)) σ = some s2 := by
    unfold f_X12_nearer_D39
    rw [k_mdL (by omega) g1 (by omega), bds, bd (am_pL hM hb _), ← e1, k_mdL (by omega) g1 (by omega), bds, bd (am_pL hM1 hb _), ← e2]
  have new : Mn (c / Nat.gcd c d) (d / Nat.gcd c d) (fun x y => D x y ∨ (x = c ∧ y = d)) → FNr s2 m (fun x y => D x y ∨ (x = c ∧ y = d)) ∧ Fz (fun q j => q = m ∧ (j = 89 ∨ j = 90)) σ s2 := fun hm => by
    refine ⟨Or.inr ⟨_, _, ?_, ?_, by omega, by omega, hm⟩, ?_⟩
    · rw [e2, sL_n (by omega), e1]; exact sL_e
    · rw [e2]; exact sL_e
    · rw [e2, e1]; exact (Fz.rf.sL ⟨rfl, Or.inl rfl⟩ _).sL ⟨rfl, Or.inr rfl⟩ _
  unfold f_X12_nearer
  rw [bd2 gcd1, bd (am_gL hM)]
  rcases h with ⟨h1, h2⟩ | ⟨p, q, h1, h2, h3, h4, hMn⟩
  · obtain ⟨n1, n2⟩ := new (Mn_new hd fun x y z => absurd z (h2 x y))
    rw [h1, if_pos (by decide), d39]
    exact ⟨s2, rfl, n1, n2⟩
  · have hq := hMn.1
    have hl : f_X12_isLess P (l_n (c / Nat.gcd c d)) (l_n (d / Nat.gcd c d)) (l_n p) (l_n q) σ = some (bI (decide (c / Nat.gcd c d * q < p * (d / Nat.gcd c d))), σ) := r_lss (by omega) g5 hq (by omega) (by omega) (by omega) (by omega)
    have hiff : c / Nat.gcd c d * q < p * (d / Nat.gcd c d) ↔ c * q < p * d := by
      generalize c / Nat.gcd c d = c' at *
      generalize d / Nat.gcd c d = d' at *
      generalize Nat.gcd c d = g at *
      constructor
      · intro z
        rw [g2, g3]
        have := Nat.mul_lt_mul_of_pos_right z g1
        grind
      · intro z
        rw [g2, g3] at z
        apply Nat.lt_of_mul_lt_mul_right (a := g)
        grind
    rw [h2, if_neg (by rw [l_np, l_nT (by omega)]; omega), k_mdL (by omega) g1 (by omega), bds, k_mdL (by omega) g1 (by omega), bds, bd (am_gL hM), h1, bd (am_gL hM), h2, bd2 hl]
    obtain ⟨t1, t2⟩ := Mn_st (c := c) hMn hd
    by_cases c0 : c * q < p * d
    · obtain ⟨n1, n2⟩ := new (t1 c0)
      rw [decide_eq_true (hiff.mpr c0), if_neg (show ¬ bI true = 0 by decide), d39]
      exact ⟨s2, rfl, n1, n2⟩
    · rw [decide_eq_false (fun z => c0 (hiff.mp z)), if_pos (show bI false = 0 from rfl)]
      exact ⟨σ, rfl, Or.inr ⟨p, q, h1, h2, h3, h4, t2 c0⟩, Fz.rf⟩
/-! the foot of a point on an edge -/
def alE (n : Nat) (X Y : Nat → Int) (i : Nat) (x y : Int) : Int := (x - X i) * (X (aft n i) - X i) + (y - Y i) * (Y (aft n i) - Y i)
def whE (n : Nat) (X Y : Nat → Int) (i : Nat) : Int := (X (aft n i) - X i) * (X (aft n i) - X i) + (Y (aft n i) - Y i) * (Y (aft n i) - Y i)
def asE (n : Nat) (X Y : Nat → Int) (i : Nat) (x y : Int) : Int := (x - X i) * (Y (aft n i) - Y i) - (y - Y i) * (X (aft n i) - X i)
def faE (X Y : Nat → Int) (i : Nat) (x y : Int) : Int := (x - X i) * (x - X i) + (y - Y i) * (y - Y i)
def enE (n : Nat) (X Y : Nat → Int) (i : Nat) (x y : Int) : Int := (x - X i - (X (aft n i) - X i)) * (x - X i - (X (aft n i) - X i)) + (y - Y i - (Y (aft n i) - Y i)) * (y - Y i - (Y (aft n i) - Y i))
/-- as the class offers it -/
def vC (n : Nat) (X Y : Nat → Int) (i : Nat) (x y : Int) : Nat × Nat := if alE n X Y i x y ≤ 0 then ((faE X Y i x y).toNat, 1) else if alE n X Y i x y < whE n X Y i then ((asE n X Y i x y * asE n X Y i x y).toNat, (whE n X Y i).toNat) else ((enE n X Y i x y).toNat, 1)
/-- as the reference does -/
def vR (n : Nat) (X Y : Nat → Int) (i : Nat) (x y : Int) : Nat × Nat := if 0 < whE n X Y i ∧ 0 ≤ alE n X Y i x y ∧ alE n X Y i x y ≤ whE n X Y i then ((asE n X Y i x y * asE n X Y i x y).toNat, (whE n X Y i).toNat) else ((min (faE X Y i x y) (enE n X Y i x y)).toNat, 1)
theorem sq_n (s : Int) : 0 ≤ s * s := by
  rcases Int.le_total 0 s with h | h
  · exact Int.mul_nonneg h h
  · have := Int.mul_nonneg (show 0 ≤ -s by omega) (show 0 ≤ -s by omega)
    rw [Int.neg_mul_neg] at this
    exact this
theorem ft_id : faE X Y i x y * whE n X Y i = alE n X Y i x y * alE n X Y i x y + asE n X Y i x y * asE n X Y i x y ∧ enE n X Y i x y = faE X Y i x y - 2 * alE n X Y i x y + whE n X Y i := by
  unfold faE whE alE asE enE
  constructor <;> grind
theorem ft_nn : 0 ≤ faE X Y i x y ∧ 0 ≤ enE n X Y i x y ∧ 0 ≤ whE n X Y i := ⟨Int.add_nonneg (sq_n _) (sq_n _), Int.add_nonneg (sq_n _) (sq_n _), Int.add_nonneg (sq_n _) (sq_n _)⟩
theorem v_pos : 0 < (vC n X Y i x y).2 ∧ 0 < (vR n X Y i x y).2 := by
  unfold vC vR
  constructor
  · split
    · exact Nat.one_pos
    · split
      · show 0 < (whE n X Y i).toNat; omega
      · exact Nat.one_pos
  · split
    · show 0 < (whE n X Y i).toNat; omega
    · exact Nat.one_pos
/-- the same value -/
theorem v_eq : (vC n X Y i x y).1 * (vR n X Y i x y).2 = (vR n X Y i x y).1 * (vC n X Y i x y).2 := by
  obtain ⟨i1, i2⟩ := ft_id (n := n) (X := X) (Y := Y) (i := i) (x := x) (y := y)
  obtain ⟨n1, n2, n3⟩ := ft_nn (n := n) (X := X) (Y := Y) (i := i) (x := x) (y := y)
  have n4 := sq_n (asE n X Y i x y)
  unfold vC vR
  generalize alE n X Y i x y = t at *
  generalize whE n X Y i = w at *
  generalize faE X Y i x y = f at *
  generalize enE n X Y i x y = e at *
  generalize asE n X Y i x y * asE n X Y i x y = s at *
  by_cases c1 : t ≤ 0
  · rw [if_pos c1]
    by_cases c2 : 0 < w ∧ 0 ≤ t ∧ t ≤ w
    · have t0 : t = 0 := by omega
      rw [if_pos c2]
      rw [t0, Int.zero_mul, Int.zero_add] at i1
      show f.toNat * w.toNat = s.toNat * 1
      rw [← i1, Nat.mul_one, Int.toNat_mul n1 n3]
    · rw [if_neg c2, show min f e = f by omega]
  · rw [if_neg c1]
    by_cases c3 : t < w
    · rw [if_pos c3, if_pos (by omega)]
    · rw [if_neg c3]
      by_cases c2 : 0 < w ∧ 0 ≤ t ∧ t ≤ w
      · have t0 : t = w := by omega
        rw [if_pos c2]
        show e.toNat * w.toNat = s.toNat * 1
        have : e * w = s := by rw [i2, t0]; rw [t0] at i1; grind
        rw [← this, Nat.mul_one, Int.toNat_mul n2 n3]
      · rw [if_neg c2, show min f e = e by omega]
/-- not above the corner -/
theorem v_le : (vC n X Y i x y).1 * 1 ≤ (faE X Y i x y).toNat * (vC n X Y i x y).2 := by
  obtain ⟨i1, i2⟩ := ft_id (n := n) (X := X) (Y := Y) (i := i) (x := x) (y := y)
  obtain ⟨n1, n2, n3⟩ := ft_nn (n := n) (X := X) (Y := Y) (i := i) (x := x) (y := y)
  have n4 := sq_n (asE n X Y i x y)
  have n5 := sq_n (alE n X Y i x y)
  unfold vC
  generalize hs : asE n X Y i x y * asE n X Y i x y = s at *
  generalize ht2 : alE n X Y i x y * alE n X Y i x y = t2 at *
  generalize alE n X Y i x y = t at *
  generalize whE n X Y i = w at *
  generalize faE X Y i x y = f at *
  generalize enE n X Y i x y = e at *
  by_cases c1 : t ≤ 0
  · rw [if_pos c1]; exact Nat.le_refl _
  · rw [if_neg c1]
    by_cases c3 : t < w
    · rw [if_pos c3]
      show s.toNat * 1 ≤ f.toNat * w.toNat
      rw [← Int.toNat_mul n1 n3]
      omega
    · rw [if_neg c3]
      show e.toNat * 1 ≤ f.toNat * 1
      omega
end JIS
