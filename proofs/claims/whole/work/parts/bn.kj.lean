/-! ===== kj: exact fractions: products ===== -/
section KJS
variable {P : mx_P} {σ σ1 σ2 τ : mx_S} {a j m g : Nat} {u v w t : Int64} {c d x z p q : Int} {ok : Prop}
def ftx (p q c d : Int) : Int := (p / (gcI p d : Int)) * (c / (gcI c q : Int))
def ftz (p q c d : Int) : Int := (q / (gcI c q : Int)) * (d / (gcI p d : Int))
def fto (p q c d : Int) : Prop := (p / (gcI p d : Int)).natAbs * (c / (gcI c q : Int)).natAbs ≤ 1000000000000000 ∧ (q / (gcI c q : Int)).natAbs * (d / (gcI p d : Int)).natAbs ≤ 1000000000000000
theorem dvn (hg : 0 < g) (h : (g : Int) ∣ d) : (d / (g : Int)).natAbs = d.natAbs / g := by
  obtain ⟨k, hk⟩ := h
  have e : d / g = k := by rw [hk]; exact Int.mul_ediv_cancel_left _ (by omega)
  rw [e, hk, Int.natAbs_mul, Int.natAbs_natCast, Nat.mul_div_cancel_left _ hg]
theorem ft_co (h1 : gcI p q = 1) (h2 : gcI c d = 1) (hq : 1 ≤ q) (hd : 1 ≤ d) : gcI (ftx p q c d) (ftz p q c d) = 1 := by
  have g1 := gc_pos (c := p) (d := d) (by omega)
  have g2 := gc_pos (c := c) (d := q) (by omega)
  unfold ftx ftz
  show Nat.gcd _ _ = 1
  rw [Int.natAbs_mul, Int.natAbs_mul, dvn g1 gc_l, dvn g2 gc_l, dvn g2 gc_r, dvn g1 gc_r]
  have k1 : Nat.Coprime p.natAbs q.natAbs := h1
  have k2 : Nat.Coprime c.natAbs d.natAbs := h2
  have d1 : p.natAbs / gcI p d ∣ p.natAbs := Nat.div_dvd_of_dvd (Nat.gcd_dvd_left _ _)
  have d2 : d.natAbs / gcI p d ∣ d.natAbs := Nat.div_dvd_of_dvd (Nat.gcd_dvd_right _ _)
  have d3 : c.natAbs / gcI c q ∣ c.natAbs := Nat.div_dvd_of_dvd (Nat.gcd_dvd_left _ _)
  have d4 : q.natAbs / gcI c q ∣ q.natAbs := Nat.div_dvd_of_dvd (Nat.gcd_dvd_right _ _)
  refine Nat.Coprime.mul_left (Nat.Coprime.mul_right ?_ ?_) (Nat.Coprime.mul_right ?_ ?_)
  · exact Nat.Coprime.coprime_dvd_left d1 (Nat.Coprime.coprime_dvd_right d4 k1)
  · exact Nat.coprime_div_gcd_div_gcd g1
  · exact Nat.coprime_div_gcd_div_gcd g2
  · exact Nat.Coprime.coprime_dvd_left d3 (Nat.Coprime.coprime_dvd_right d2 k2)
theorem r_tim (hf : 5000 ≤ mpN P) (hM : LyM σ m) (hb : mpb P ≤ m) (hu : B64 u p 1000000000000000) (hv : B64 v q 1000000000000000) (hw : B64 w c 1000000000000000) (ht : B64 t d 1000000000000000) (hq : 1 ≤ q) (hd : 1 ≤ d) (h01 : mxI σ m 10 = 0 ∨ mxI σ m 10 = 1) : ∃ τ, f_X12_times P m u v w t σ = some τ ∧ Fz (SLw m) σ τ ∧ RF τ m (mxI σ m 10 = 0 ∧ fto p q c d) (ftx p q c d / (gcI (ftx p q c d) (ftz p q c d) : Int)) (ftz p q c d / (gcI (ftx p q c d) (ftz p q c d) : Int)) := by
  have hg1 := gc_pos (c := p) (d := d) (by omega)
  have hg2 := gc_pos (c := c) (d := q) (by omega)
  have gl1 := gc_le (c := p) (d := d) (by omega)
  have gl2 := gc_le (c := c) (d := q) (by omega)
  have h2 := ht.2
  have h3 := hv.2
  have h4' := hu.2
  have h5 := hw.2
  have gcd1 : f_X12_gcd P u t σ = some (l_n (gcI p d), σ) := by
    have := r_gcd (P := P) (σ := σ) (x := u) (y := t) hf (by rw [hu.1]; omega) (by rw [ht.1]; omega)
    rw [hu.1, ht.1] at this
    exact this
  have gcd2 : f_X12_gcd P w v σ = some (l_n (gcI c q), σ) := by
    have := r_gcd (P := P) (σ := σ) (x := w) (y := v) hf (by rw [hw.1]; omega) (by rw [hv.1]; omega)
    rw [hw.1, hv.1] at this
    exact this
  obtain ⟨r1, q1, k1⟩ := dv_ex hg1 (by omega) hu (by omega) (gc_l (c := p) (d := d))
  obtain ⟨r2, q2, k2⟩ := dv_ex hg2 (by omega) hw (by omega) (gc_l (c := c) (d := q))
  obtain ⟨r3, q3, k3⟩ := dv_ex hg2 (by omega) hv (by omega) (gc_r (c := c) (d := q))
  obtain ⟨r4, q4, k4⟩ := dv_ex hg1 (by omega) ht (by omega) (gc_r (c := p) (d := d))
  obtain ⟨w1, s1, a1, e1, b1, c1, g1⟩ := r_pr2 (P := P) hM hb k1 k2
  have M1 : LyM s1 m := by unfold LyM; rw [g1.A.1, g1.A.2]; exact hM
  obtain ⟨w2, s2, a2, e2, b2, c2, g2⟩ := r_pr2 (P := P) M1 hb k3 k4
  have M2 : LyM s2 m := by unfold LyM; rw [g2.A.1, g2.A.2]; exact M1
  have G := g1.tr g2
  have fz : Fz (SLw m) σ s2 := by
    rcases G with ⟨-, e⟩ | ⟨-, -, f⟩
    · subst e; exact Fz.rf
    · exact f.mo fun q j y => ⟨y.1, Or.inr (Or.inr y.2)⟩
  have p1 := dvp hg2 (gc_r (c := c) (d := q)) hq
  have p2 := dvp hg1 (gc_r (c := p) (d := d)) hd
  have zp : 1 ≤ ftz p q c d := by
    unfold ftz
    have := Int.mul_le_mul p1 p2 (by omega) (by omega)
    omega
  have fl : (mxI s2 m 10 = 0 ∧ 1 ≤ a2) ∨ mxI s2 m 10 = 1 := by
    rcases G with ⟨ok, e⟩ | ⟨-, f, -⟩
    · rw [e]
      rcases h01 with y | y
      · exact Or.inl ⟨y, by rw [c2 ok.2]; exact zp⟩
      · exact Or.inr y
    · exact Or.inr f
  have b1a := b1.2
  obtain ⟨s4, e4, f4, h4⟩ := r_low (P := P) hf M2 hb (b64w b1 (by omega)) b2 fl
  refine ⟨s4, ?_, fz.tr f4, ?_⟩
  · unfold f_X12_times
    rw [bd2 gcd1, bd2 gcd2, bd q1, bd q2, bd (am_is hM), bd2 e1, bd q3, bd q4, bd (am_is M1), bd2 e2, bd (am_is M2), bd e4]
  · rcases G with ⟨ok, e⟩ | ⟨nok, f, -⟩
    · have ex : a1 = ftx p q c d := c1 ok.1
      have ez : a2 = ftz p q c d := c2 ok.2
      rw [ex, ez] at h4
      rw [ex] at b1a
      have e' : mxI s2 m 10 = mxI σ m 10 := by rw [e]
      rw [e'] at h4
      rcases h4 with ⟨y1, y2, y3, y4, y5⟩ | ⟨y1, y2, y3, y4⟩
      · exact Or.inl ⟨⟨y1, ok⟩, y3, y4, y5⟩
      · exact Or.inr ⟨fun y => y1 ⟨y.1, b1a⟩, y2, y3, y4⟩
    · rcases h4 with ⟨y1, -⟩ | ⟨y1, y2, y3, y4⟩
      · rw [f] at y1; exact absurd y1 (by decide)
      · exact Or.inr ⟨fun y => nok y.2, y2, y3, y4⟩
theorem c_tiF (hf : 5000 ≤ mpN P) (hA : mxA σ a = some (.inl 3)) (hb : mpb P ≤ a) (h : FV σ a ok p q) (hw : B64 w c 1000000000000000) (ht : B64 t d 1000000000000000) (hd : 1 ≤ d) : ∃ τ, f_X3_times P a w t σ = some τ ∧ Fz (fun q j => q = a ∧ j ≤ 2) σ τ ∧ FV τ a (ok ∧ fto p q c d) (ftx p q c d) (ftz p q c d) := by
  obtain ⟨h0, h1, hq1, hs⟩ := h
  obtain ⟨q', eq'⟩ : ∃ q', (mxL σ a 1).toInt = q' := ⟨_, rfl⟩
  obtain ⟨p', ep'⟩ : ∃ p', (mxL σ a 0).toInt = p' := ⟨_, rfl⟩
  rw [eq'] at h1 hq1
  rw [ep'] at h0
  have hg1 := gc_pos (c := p') (d := d) (by omega)
  have hg2 := gc_pos (c := c) (d := q') (by omega)
  have gl1 := gc_le (c := p') (d := d) (by omega)
  have gl2 := gc_le (c := c) (d := q') (by omega)
  have h2 := ht.2
  have h3 := h1.2
  have h4' := h0.2
  have h5 := hw.2
  have gcd1 : f_X3_gcd P (mxL σ a 0) t σ = some (l_n (gcI p' d), σ) := by
    have := c_gcd (P := P) (σ := σ) (x := mxL σ a 0) (y := t) hf (by rw [h0.1]; omega) (by rw [ht.1]; omega)
    rw [h0.1, ht.1] at this
    exact this
  have gcd2 : f_X3_gcd P w (mxL σ a 1) σ = some (l_n (gcI c q'), σ) := by
    have := c_gcd (P := P) (σ := σ) (x := w) (y := mxL σ a 1) hf (by rw [hw.1]; omega) (by rw [h1.1]; omega)
    rw [hw.1, h1.1] at this
    exact this
  unfold f_X3_times
  rw [bd (q_gL hA), bd2 gcd1, bd (q_gL hA), bd2 gcd2, bd (q_gI hA)]
  have keep : ∀ s, (∀ i, i ≤ 1 → mxL s a i = mxL σ a i) → mxI s a 2 = 1 → ¬ (ok ∧ fto p q c d) → FV s a (ok ∧ fto p q c d) (ftx p q c d) (ftz p q c d) := fun s l1 l2 l3 => by
    refine ⟨?_, ?_, ?_, Or.inr ⟨l3, l2⟩⟩
    · rw [l1 0 (by omega), ep']; exact h0
    · rw [l1 1 (by omega), eq']; exact h1
    · rw [l1 1 (by omega), eq']; exact hq1
  rcases hs with ⟨hok, f0, ep, eq⟩ | ⟨nok, f1⟩
  · have eq2 : q' = q := eq'.symm.trans eq
    have ep2 : p' = p := ep'.symm.trans ep
    subst eq2 ep2
    obtain ⟨r1, q1, k1⟩ := dv_ex hg1 (by omega) h0 (by omega) (gc_l (c := p') (d := d))
    obtain ⟨r2, q2, k2⟩ := dv_ex hg2 (by omega) hw (by omega) (gc_l (c := c) (d := q'))
    obtain ⟨r3, q3, k3⟩ := dv_ex hg2 (by omega) h1 (by omega) (gc_r (c := c) (d := q'))
    obtain ⟨r4, q4, k4⟩ := dv_ex hg1 (by omega) ht (by omega) (gc_r (c := p') (d := d))
    obtain ⟨w1, s1, a1, e1, b1, c1, g1⟩ := c_ck2 (P := P) hA hb k1 k2
    have A1 : mxA s1 a = some (.inl 3) := by rw [g1.A.1]; exact hA
    obtain ⟨w2, s2, a2, e2, b2, c2, g2⟩ := c_ck2 (P := P) A1 hb k3 k4
    have A2 : mxA s2 a = some (.inl 3) := by rw [g2.A.1]; exact A1
    have G := g1.tr g2
    have L3 := G.L
    have cell1 : mxL s1 a 1 = mxL σ a 1 := g1.L a 1 (by omega)
    have p1 := dvp hg2 (gc_r (c := c) (d := q')) hq1
    have p2 := dvp hg1 (gc_r (c := p') (d := d)) hd
    have zp : 1 ≤ ftz p' q' c d := by
      unfold ftz
      have := Int.mul_le_mul p1 p2 (by omega) (by omega)
      omega
    rw [if_pos f0, if_neg (fun y => l_nne hg1 (by omega) (q_cmp0.mp y)), if_neg (fun y => l_nne hg2 (by omega) (q_cmp0.mp y)), bd (q_gL hA), bd q1, bd q2, bd (q_is hA), bd2 e1, bd (q_gL A1), cell1, bd q3, bd q4, bd (q_is A1), bd2 e2, bd (q_gI A2)]
    rcases G with ⟨gk, e⟩ | ⟨nk, f, fz'⟩
    · subst e
      have A3 : mxA (mx_setL s2 a 0 w1) a = some (.inl 3) := A2
      rw [if_pos f0, bd (q_pL A2 hb _), bd (q_pL A3 hb _)]
      have ex : a1 = ftx p' q' c d := c1 gk.1
      have ez : a2 = ftz p' q' c d := c2 gk.2
      rw [ex] at b1
      rw [ez] at b2
      have y0 : mxL (mx_setL (mx_setL s2 a 0 w1) a 1 w2) a 0 = w1 := by rw [sL_n (by omega), sL_e]
      have y1 : mxL (mx_setL (mx_setL s2 a 0 w1) a 1 w2) a 1 = w2 := sL_e
      refine ⟨_, rfl, (Fz.rf.sL ⟨rfl, by omega⟩ _).sL ⟨rfl, by omega⟩ _, ?_, ?_, ?_, Or.inl ⟨⟨hok, gk⟩, f0, ?_, ?_⟩⟩
      · rw [y0, b1.1]; exact b1
      · rw [y1, b2.1]; exact b2
      · rw [y1, b2.1]; exact zp
      · rw [y0]; exact b1.1
      · rw [y1]; exact b2.1
    · rw [if_neg (by rw [f]; decide)]
      exact ⟨s2, rfl, fz'.mo fun q j y => ⟨y.1, by omega⟩, keep s2 (fun i hi => L3 a i (by omega)) f fun y => nk y.2⟩
  · rw [if_neg (by rw [f1]; decide)]
    unfold f_X3_times_D41
    rw [bd (q_pZ hA hb (Or.inr rfl))]
    exact ⟨_, rfl, Fz.rf.sI ⟨rfl, by omega⟩ _, keep _ (fun i _ => rfl) sI_e fun y => nok y.1⟩
end KJS
