/-! ===== ko: lowest terms are one; the steepest ===== -/
section KOS
variable {P : mx_P} {σ σ1 τ : mx_S} {x n c m k g : Nat} {W K L : Nat → Nat} {T B : Nat → Int} {p q d e X Z N D : Int}
theorem lw_u (hZ : 1 ≤ Z) (hD : 1 ≤ D) (h : X * D = N * Z) (hg : gcI X Z = 1) : ∃ g : Nat, 0 < g ∧ N = X * g ∧ D = Z * g ∧ gcI N D = g := by
  have c1 : Nat.Coprime Z.natAbs X.natAbs := by rw [Nat.coprime_comm]; exact hg
  have h2 : X.natAbs * D.natAbs = N.natAbs * Z.natAbs := by rw [← Int.natAbs_mul, ← Int.natAbs_mul, h]
  have d1 : Z.natAbs ∣ D.natAbs := c1.dvd_of_dvd_mul_left ⟨N.natAbs, by rw [h2, Nat.mul_comm]⟩
  obtain ⟨g, hg2⟩ := d1
  have eD : D = Z * g := by
    have a1 : (D.natAbs : Int) = D := by omega
    have a2 : (Z.natAbs : Int) = Z := by omega
    rw [← a1, hg2, Int.natCast_mul, a2]
  have eN : N = X * g := by
    rw [eD] at h
    apply Int.eq_of_mul_eq_mul_right (show Z ≠ 0 by omega)
    rw [← h]; grind
  have gp : 0 < g := by
    rcases Nat.eq_zero_or_pos g with z | z
    · rw [z] at eD; simp at eD; omega
    · exact z
  refine ⟨g, gp, eN, eD, ?_⟩
  rw [eN, eD]
  unfold gcI
  rw [Int.natAbs_mul, Int.natAbs_mul, Int.natAbs_natCast, Nat.gcd_mul_right]
  have : Nat.gcd X.natAbs Z.natAbs = 1 := hg
  rw [this, Nat.one_mul]
theorem lw_1 (hD : D ≠ 0) : gcI (N / (gcI N D : Int)) (D / (gcI N D : Int)) = 1 := by
  have g1 := gc_pos (c := N) (d := D) hD
  show Nat.gcd _ _ = 1
  rw [dvn g1 gc_l, dvn g1 gc_r]
  exact Nat.coprime_div_gcd_div_gcd g1
theorem dvm (hg : 0 < g) (h : (g : Int) ∣ d) : d / (g : Int) * g = d := Int.ediv_mul_cancel h
theorem ft_zp (hq : 1 ≤ q) (hd : 1 ≤ d) : 1 ≤ ftz p q e d := by
  have g1 := gc_pos (c := p) (d := d) (by omega)
  have g2 := gc_pos (c := e) (d := q) (by omega)
  have p1 := dvp g2 (gc_r (c := e) (d := q)) hq
  have p2 := dvp g1 (gc_r (c := p) (d := d)) hd
  unfold ftz
  have := Int.mul_le_mul p1 p2 (by omega) (by omega)
  omega
theorem ft_cr (hq : 1 ≤ q) (hd : 1 ≤ d) : ftx p q e d * (q * d) = p * e * ftz p q e d := by
  have g1 := gc_pos (c := p) (d := d) (by omega)
  have g2 := gc_pos (c := e) (d := q) (by omega)
  have m1 := dvm g1 (gc_l (c := p) (d := d))
  have m2 := dvm g1 (gc_r (c := p) (d := d))
  have m3 := dvm g2 (gc_l (c := e) (d := q))
  have m4 := dvm g2 (gc_r (c := e) (d := q))
  unfold ftx ftz
  generalize p / (gcI p d : Int) = a1 at *
  generalize d / (gcI p d : Int) = a2 at *
  generalize e / (gcI e q : Int) = a3 at *
  generalize q / (gcI e q : Int) = a4 at *
  generalize (gcI p d : Int) = a5 at *
  generalize (gcI e q : Int) = a6 at *
  rw [← m1, ← m2, ← m3, ← m4]; grind
theorem ft_lw (hq : 1 ≤ q) (hd : 1 ≤ d) : 1 ≤ ftz p q e d / (gcI (ftx p q e d) (ftz p q e d) : Int) ∧ gcI (ftx p q e d / (gcI (ftx p q e d) (ftz p q e d) : Int)) (ftz p q e d / (gcI (ftx p q e d) (ftz p q e d) : Int)) = 1 ∧ ftx p q e d / (gcI (ftx p q e d) (ftz p q e d) : Int) * (q * d) = p * e * (ftz p q e d / (gcI (ftx p q e d) (ftz p q e d) : Int)) := by
  have zp := ft_zp (p := p) (e := e) hq hd
  have cr := ft_cr (p := p) (e := e) hq hd
  have g3 := gc_pos (c := ftx p q e d) (d := ftz p q e d) (by omega)
  have m1 := dvm g3 (gc_l (c := ftx p q e d) (d := ftz p q e d))
  have m2 := dvm g3 (gc_r (c := ftx p q e d) (d := ftz p q e d))
  refine ⟨dvp g3 gc_r zp, lw_1 (by omega), ?_⟩
  apply Int.eq_of_mul_eq_mul_right (show (gcI (ftx p q e d) (ftz p q e d) : Int) ≠ 0 by omega)
  generalize ftx p q e d / (gcI (ftx p q e d) (ftz p q e d) : Int) = a1 at *
  generalize ftz p q e d / (gcI (ftx p q e d) (ftz p q e d) : Int) = a2 at *
  rw [← m1, ← m2] at cr
  grind
def cmN (l : Nat) : Nat := if l = 1 then 1 else if l = 2 then 2 else if l = 3 then 15 else 35
def cmD (l : Nat) : Nat := if l < 3 then 1 else if l = 3 then 8 else 16
theorem cmN_b (l : Nat) : 1 ≤ cmN l ∧ cmN l ≤ 35 := by unfold cmN; split <;> (try split) <;> (try split) <;> omega
theorem cmD_b (l : Nat) : 1 ≤ cmD l ∧ cmD l ≤ 16 := by unfold cmD; split <;> (try split) <;> omega
/-- a statement's steepest slope -/
def stN (L : Nat → Nat) (T : Nat → Int) (k : Nat) : Nat := (T k).toNat * cmN (L k)
def stD (W L : Nat → Nat) (B : Nat → Int) (k : Nat) : Nat := (B k).toNat * W k * cmD (L k)
def stP (W L : Nat → Nat) (T B : Nat → Int) (k : Nat) : Nat := stN L T k / Nat.gcd (stN L T k) (stD W L B k)
def stQ (W L : Nat → Nat) (T B : Nat → Int) (k : Nat) : Nat := stD W L B k / Nat.gcd (stN L T k) (stD W L B k)
def stB (W K L : Nat → Nat) (T B : Nat → Int) : Nat → Nat × Nat
  | 0 => (0, 1)
  | k + 1 => if K k ≠ 0 ∧ (stB W K L T B k).1 * stQ W L T B k < stP W L T B k * (stB W K L T B k).2 then (stP W L T B k, stQ W L T B k) else stB W K L T B k
theorem st_b (ho : CmO n W K L T B) (hk : k < n) (k0 : K k ≠ 0) : stN L T k < 1000000000000 ∧ 0 < stD W L B k ∧ stD W L B k < 100000000 ∧ stP W L T B k < 1000000000000 ∧ 0 < stQ W L T B k ∧ stQ W L T B k < 100000000 := by
  obtain ⟨w1, w2, k2, o⟩ := ho.2.1 k hk
  obtain ⟨l1, l4, t1, t2, b1, b2, gg⟩ := o k0
  have c1 := cmN_b (L k)
  have c2 := cmD_b (L k)
  have a1 : stN L T k ≤ 599940 * 35 := Nat.mul_le_mul (by omega) c1.2
  have a2 : stD W L B k ≤ 9999 * 360 * 16 := Nat.mul_le_mul (Nat.mul_le_mul (by omega) w2) c2.2
  have a3 : 0 < stD W L B k := Nat.mul_pos (Nat.mul_pos (by omega) w1) c2.1
  have g := gc_e (stN L T k) a3
  have a4 : stP W L T B k ≤ stN L T k := Nat.div_le_self _ _
  have a5 : stQ W L T B k ≤ stD W L B k := Nat.div_le_self _ _
  have a6 : 0 < stQ W L T B k := g.2.2.2.2
  omega
theorem stB_b (ho : CmO n W K L T B) (hk : k ≤ n) : (stB W K L T B k).1 < 1000000000000 ∧ 0 < (stB W K L T B k).2 ∧ (stB W K L T B k).2 < 100000000 := by
  induction k with
  | zero => unfold stB; decide
  | succ k ih =>
    unfold stB
    split
    · rename_i z
      have := st_b ho (show k < n by omega) z.1
      exact ⟨this.2.2.2.1, this.2.2.2.2.1, this.2.2.2.2.2⟩
    · exact ih (by omega)
/-- the reference's way to it -/
theorem st_lw (ho : CmO n W K L T B) (hk : k < n) (k0 : K k ≠ 0) {X1 Z1 X2 Z2 : Int} (z1 : 1 ≤ Z1) (g1 : gcI X1 Z1 = 1) (e1 : X1 * (B k * W k) = T k * 1 * Z1) (z2 : 1 ≤ Z2) (g2 : gcI X2 Z2 = 1) (e2 : X2 * (Z1 * (cmD (L k) : Int)) = X1 * (cmN (L k) : Int) * Z2) : X2 = (stP W L T B k : Int) ∧ Z2 = (stQ W L T B k : Int) := by
  obtain ⟨w1, w2, k2, o⟩ := ho.2.1 k hk
  obtain ⟨l1, l4, t1, t2, b1, b2, gg⟩ := o k0
  have c1 := cmN_b (L k)
  have c2 := cmD_b (L k)
  have bw : 1 ≤ B k * (W k : Int) := by
    have := Int.mul_le_mul b1 (show (1 : Int) ≤ W k by omega) (by omega) (by omega)
    omega
  obtain ⟨g, gp, h1, h2, -⟩ := lw_u z1 bw e1 g1
  have eN : (stN L T k : Int) = T k * (cmN (L k) : Int) := by
    unfold stN; rw [Int.natCast_mul, Int.toNat_of_nonneg (by omega)]
  have eD : (stD W L B k : Int) = B k * W k * (cmD (L k) : Int) := by
    unfold stD; rw [Int.natCast_mul, Int.natCast_mul, Int.toNat_of_nonneg (by omega)]
  have b := st_b ho hk k0
  have cr : X2 * (stD W L B k : Int) = (stN L T k : Int) * Z2 := by
    rw [eN, eD, h2]
    have : T k = X1 * g := by rw [← h1]; omega
    rw [this]; grind
  obtain ⟨g', gp', h3, h4, h5⟩ := lw_u z2 (by omega) cr g2
  have h5' : Nat.gcd (stN L T k) (stD W L B k) = g' := by
    have : gcI (stN L T k : Int) (stD W L B k : Int) = Nat.gcd (stN L T k) (stD W L B k) := by unfold gcI; rw [Int.natAbs_natCast, Int.natAbs_natCast]
    rw [← this]; exact h5
  unfold stP stQ
  rw [h5', Int.natCast_ediv, Int.natCast_ediv, h3, h4]
  exact ⟨(Int.mul_ediv_cancel _ (by omega)).symm, (Int.mul_ediv_cancel _ (by omega)).symm⟩
end KOS
