/-! ===== kh: exact fractions: sums ===== -/
section KHS
variable {P : mx_P} {σ σ1 σ2 τ : mx_S} {a j m g : Nat} {u v w t : Int64} {c d x z p q : Int}
theorem dvp (hg : 0 < g) (h : (g : Int) ∣ d) (hd : 1 ≤ d) : 1 ≤ d / (g : Int) := by
  obtain ⟨k, hk⟩ := h
  have e : d / g = k := by rw [hk]; exact Int.mul_ediv_cancel_left _ (by omega)
  rw [e]
  apply Classical.byContradiction
  intro y
  have : (g : Int) * k ≤ 0 := Int.mul_nonpos_of_nonneg_of_nonpos (by omega) (by omega)
  omega
/-- p/q + c/d, in lowest terms, unless a number on the way is too large -/
def fqx (p q c d : Int) : Int := p * (d / (gcI q d : Int)) + c * (q / (gcI q d : Int))
def fqz (q d : Int) : Int := q * (d / (gcI q d : Int))
def fqo (p q c d : Int) : Prop := p.natAbs * (d / (gcI q d : Int)).natAbs ≤ 1000000000000000 ∧ c.natAbs * (q / (gcI q d : Int)).natAbs ≤ 1000000000000000 ∧ q.natAbs * (d / (gcI q d : Int)).natAbs ≤ 1000000000000000
def RF (σ : mx_S) (m : Nat) (ok : Prop) (x z : Int) : Prop := (ok ∧ mxI σ m 10 = 0 ∧ (mxL σ m 8).toInt = x ∧ (mxL σ m 9).toInt = z) ∨ (¬ ok ∧ mxI σ m 10 = 1 ∧ mxL σ m 8 = 0 ∧ mxL σ m 9 = 1)
theorem r_sum (hf : 5000 ≤ mpN P) (hM : LyM σ m) (hb : mpb P ≤ m) (hu : B64 u p 1000000000000000) (hv : B64 v q 1000000000000000) (hw : B64 w c 1000000000000000) (ht : B64 t d 1000000000000000) (hq : 1 ≤ q) (hd : 1 ≤ d) (h01 : mxI σ m 10 = 0 ∨ mxI σ m 10 = 1) : ∃ τ, f_X12_sum P m u v w t σ = some τ ∧ Fz (SLw m) σ τ ∧ RF τ m (mxI σ m 10 = 0 ∧ fqo p q c d ∧ (fqx p q c d).natAbs ≤ 1000000000000000) (fqx p q c d / (gcI (fqx p q c d) (fqz q d) : Int)) (fqz q d / (gcI (fqx p q c d) (fqz q d) : Int)) := by
  have hd0 : d ≠ 0 := by omega
  have hg := gc_pos (c := q) hd0
  have hgl := gc_le (c := q) hd0
  have h2 := ht.2
  have h3 := hv.2
  have gcd1 : f_X12_gcd P v t σ = some (l_n (gcI q d), σ) := by
    have := r_gcd (P := P) (σ := σ) (x := v) (y := t) hf (by rw [hv.1]; omega) (by rw [ht.1]; omega)
    rw [hv.1, ht.1] at this
    exact this
  obtain ⟨r1, q1, k1⟩ := dv_ex hg (by omega) ht (by omega) (gc_r (c := q) (d := d))
  obtain ⟨r2, q2, k2⟩ := dv_ex hg (by omega) hv (by omega) (gc_l (c := q) (d := d))
  obtain ⟨w1, s1, a1, e1, b1, c1, g1⟩ := r_pr2 (P := P) hM hb hu k1
  have M1 : LyM s1 m := by unfold LyM; rw [g1.A.1, g1.A.2]; exact hM
  obtain ⟨w2, s2, a2, e2, b2, c2, g2⟩ := r_pr2 (P := P) M1 hb hw k2
  have M2 : LyM s2 m := by unfold LyM; rw [g2.A.1, g2.A.2]; exact M1
  obtain ⟨w3, s3, a3, e3, b3, c3, g3⟩ := r_pr2 (P := P) M2 hb hv k1
  have M3 : LyM s3 m := by unfold LyM; rw [g3.A.1, g3.A.2]; exact M2
  have G := (g1.tr g2).tr g3
  have fz : Fz (SLw m) σ s3 := by
    rcases G with ⟨-, e⟩ | ⟨-, -, f⟩
    · subst e; exact Fz.rf
    · exact f.mo fun q j y => ⟨y.1, Or.inr (Or.inr y.2)⟩
  have dp := dvp hg (gc_r (c := q) (d := d)) hd
  have zp : 1 ≤ fqz q d := by
    unfold fqz
    have := Int.mul_le_mul hq dp (by omega) (by omega)
    omega
  have bs := b64A b1 b2 (by omega)
  have fl : (mxI s3 m 10 = 0 ∧ 1 ≤ a3) ∨ mxI s3 m 10 = 1 := by
    rcases G with ⟨ok, e⟩ | ⟨-, f, -⟩
    · rw [e]
      rcases h01 with y | y
      · exact Or.inl ⟨y, by rw [c3 ok.2]; exact zp⟩
      · exact Or.inr y
    · exact Or.inr f
  obtain ⟨s4, e4, f4, h4⟩ := r_low (P := P) hf M3 hb bs b3 fl
  refine ⟨s4, ?_, fz.tr f4, ?_⟩
  · unfold f_X12_sum
    rw [bd2 gcd1, bd q1, bd (am_is hM), bd2 e1, bd q2, bd (am_is M1), bd2 e2, bd q1, bd (am_is M2), bd2 e3, bd (am_is M3), bd e4]
  · rcases G with ⟨ok, e⟩ | ⟨nok, f, -⟩
    · have ex : a1 + a2 = fqx p q c d := by unfold fqx; rw [c1 ok.1.1, c2 ok.1.2]
      have ez : a3 = fqz q d := c3 ok.2
      rw [ex, ez] at h4
      have e' : mxI s3 m 10 = mxI σ m 10 := by rw [e]
      rw [e'] at h4
      rcases h4 with ⟨y1, y2, y3, y4, y5⟩ | ⟨y1, y2, y3, y4⟩
      · exact Or.inl ⟨⟨y1, ⟨ok.1.1, ok.1.2, ok.2⟩, y2⟩, y3, y4, y5⟩
      · exact Or.inr ⟨fun y => y1 ⟨y.1, y.2.2⟩, y2, y3, y4⟩
    · rcases h4 with ⟨y1, -⟩ | ⟨y1, y2, y3, y4⟩
      · rw [f] at y1; exact absurd y1 (by decide)
      · exact Or.inr ⟨fun y => nok ⟨⟨y.2.1.1, y.2.1.2.1⟩, y.2.1.2.2⟩, y2, y3, y4⟩
/-- a fraction of the class that may be too large -/
def FV (σ : mx_S) (a : Nat) (ok : Prop) (p q : Int) : Prop := B64 (mxL σ a 0) (mxL σ a 0).toInt 1000000000000000 ∧ B64 (mxL σ a 1) (mxL σ a 1).toInt 1000000000000000 ∧ 1 ≤ (mxL σ a 1).toInt ∧ ((ok ∧ mxI σ a 2 = 0 ∧ (mxL σ a 0).toInt = p ∧ (mxL σ a 1).toInt = q) ∨ (¬ ok ∧ mxI σ a 2 = 1))
end KHS
