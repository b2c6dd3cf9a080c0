/-! ===== ge: speeds of the reference, all points ===== -/
section GES
variable {P : mx_P} {σ σ0 : mx_S} {l m : Nat} {E : Nat → BV} {K : LK} {pl mk : Nat → Nat} {i p : Nat} {X : Nat → V2} {fn fd : Bool} {β : Type} {Q : β → Prop}
theorem r_vp (hf : 100 ≤ mpN P) (h : H σ0 m E fn fd σ) (hM : LyM σ0 m) (hp : mpb P ≤ m) (hK : RK σ0 m K pl) (hT : kT K) (hpp : p < kN K) (hi : i < 4) : Wp (f_X12_speedOf P m (q_n p) (q_n i) σ) (RvQ σ0 m p E fn fd (g_vp K pl i (eR E) (eW E) p)) := by
  obtain ⟨-, -, -, hpl, hK⟩ := hK
  obtain ⟨k0, kon, kf, ks, kp, ksg⟩ := hK p hpp
  have h40 : p < 40 := by have := hT.1; omega
  have hk5 := kT_K hT hpp
  have hc : kK K p = 0 ∨ kK K p = 1 ∨ kK K p = 2 ∨ kK K p = 3 ∨ kK K p = 4 ∨ kK K p = 5 := by omega
  rcases hc with c | c | c | c | c | c
  · rw [g_vp_0 c]
    exact r_vfx h hM hp h40 (by rw [k0, c])
  · rw [g_vp_1 c]
    obtain ⟨f1, f2, f3, f4, f5⟩ := kf (by omega)
    obtain ⟨p1, p2, p3, p4, p5, p6, p7, p8⟩ := kp c
    rw [c] at kon
    obtain ⟨a1, a2, a3⟩ := kon 0 (by decide)
    rw [p8]
    exact r_vck (ja := kA K p 0) hf h hM hp h40 (by rw [k0, c]) a1 a2 (by simpa using a3) f1 f2 f3 f4 p1 p2 p3 p4 p5 (hpl _ p4).2 (hpl _ p4).1 p6 p7 hi
  · rw [g_vp_2 c]
    rw [c] at kon
    obtain ⟨a1, a2, a3⟩ := kon 0 (by decide)
    obtain ⟨b1, b2, b3⟩ := kon 1 (by decide)
    exact r_vdy (ja := kA K p 0) (jb := kA K p 1) h hM hp h40 (by rw [k0, c]) a1 a2 (by simpa using a3) b1 b2 (by simpa using b3)
  · rw [g_vp_3 c]
    rw [c] at kon
    obtain ⟨a1, a2, a3⟩ := kon 0 (by decide)
    obtain ⟨b1, b2, b3⟩ := kon 1 (by decide)
    obtain ⟨d1, d2, d3⟩ := kon 2 (by decide)
    exact r_vsl (ja := kA K p 0) (jd := kA K p 1) (je := kA K p 2) h hM hp h40 (by rw [k0, c]) a1 a2 (by simpa using a3) b1 b2 (by simpa using b3) d1 d2 (by simpa using d3)
  · rw [g_vp_4 c]
    obtain ⟨f1, f2, f3, f4, f5⟩ := kf (by omega)
    obtain ⟨s1, s2, s3, s4, s5⟩ := ks (by omega)
    rw [if_neg (by omega)] at f5 s5
    rw [c] at kon
    obtain ⟨a1, a2, a3⟩ := kon 0 (by decide)
    obtain ⟨b1, b2, b3⟩ := kon 1 (by decide)
    rw [f5, s5]
    exact r_vbo (ja := kA K p 0) (jb := kA K p 1) h hM hp h40 (by rw [k0, c]) a1 a2 (by simpa using a3) b1 b2 (by simpa using b3) f1 f2 f3 f4 s1 s2 s3 s4
  · rw [g_vp_5 c]
    rw [c] at kon
    obtain ⟨a1, a2, a3⟩ := kon 0 (by decide)
    obtain ⟨b1, b2, b3⟩ := kon 1 (by decide)
    obtain ⟨d1, d2, d3⟩ := kon 2 (by decide)
    obtain ⟨e1, e2, e3⟩ := kon 3 (by decide)
    exact r_vcr (ja := kA K p 0) (jb := kA K p 1) (jd := kA K p 2) (je := kA K p 3) h hM hp h40 (by rw [k0, c]) a1 a2 (by simpa using a3) b1 b2 (by simpa using b3) d1 d2 (by simpa using d3) e1 e2 (by simpa using e3)
theorem g_vp_X {X' V : Nat → V2} (hk : kK K p ≤ 5) (h0 : X p = X' p) (h : ∀ j, j < g_np (kK K p) → X (kA K p j) = X' (kA K p j)) : g_vp K pl i X V p = g_vp K pl i X' V p := by
  have hc : kK K p = 0 ∨ kK K p = 1 ∨ kK K p = 2 ∨ kK K p = 3 ∨ kK K p = 4 ∨ kK K p = 5 := by omega
  rcases hc with c | c | c | c | c | c
  · rw [g_vp_0 c, g_vp_0 c]
  · rw [g_vp_1 c, g_vp_1 c]
  · rw [c] at h; rw [g_vp_2 c, g_vp_2 c, h0, h 0 (by decide), h 1 (by decide)]
  · rw [c] at h; rw [g_vp_3 c, g_vp_3 c, h0, h 0 (by decide), h 1 (by decide), h 2 (by decide)]
  · rw [g_vp_4 c, g_vp_4 c]
  · rw [c] at h; rw [g_vp_5 c, g_vp_5 c, h0, h 0 (by decide), h 1 (by decide), h 2 (by decide), h 3 (by decide)]
theorem r_speeds (hf : 100 ≤ mpN P) (h : H σ0 m E fn fd σ) (hM : LyM σ0 m) (hp : mpb P ≤ m) (hK : RK σ0 m K pl) (hT : kT K) (hi : i < 4) (hX : ∀ p, p < kN K → eR E p = X p) :
    Wp (f_X12_speeds P m (q_n i) σ) (fun τ => ∃ E', H σ0 m E' fn fd τ ∧ (∀ p, p < kN K → v_N (eW E' p) = t_V K pl i X p) ∧ ∀ q, q < 80 → E' q = E q) := by
  have hn := hT.1
  unfold f_X12_speeds
  obtain ⟨τ, er, E', h1, h2, h3⟩ := q_for (f_X12_speeds_L2 P m (q_n i))
    (fun k x => x.1 = q_n k ∧ ∃ E', H σ0 m E' fn fd x.2 ∧ (∀ n, n < k → v_N (eW E' (kQ K n)) = t_V K pl i X (kQ K n)) ∧ ∀ q, q < 80 → E' q = E q)
    (fun τ => ∃ E', H σ0 m E' fn fd τ ∧ (∀ n, n < kN K → v_N (eW E' (kQ K n)) = t_V K pl i X (kQ K n)) ∧ ∀ q, q < 80 → E' q = E q) (kN K)
    (by
      rintro k ⟨x, τ⟩ hk ⟨i1, E1, g1, i3, i4⟩
      dsimp only at i1 g1
      subst i1
      left
      obtain ⟨q1, q2, q3⟩ := hT.2.2.1 k hk
      suffices hww : Wp (f_X12_speeds_B2 P m (q_n i) (q_n k) τ) (fun z => ∃ t', z = .inl t' ∧ t'.1 = q_n (k + 1) ∧ ∃ E', H σ0 m E' fn fd t'.2 ∧ (∀ n, n < k + 1 → v_N (eW E' (kQ K n)) = t_V K pl i X (kQ K n)) ∧ ∀ q, q < 80 → E' q = E q) by
        obtain ⟨z, ez, t', rfl, hz⟩ := hww
        exact ⟨t', ez, hz⟩
      unfold f_X12_speeds_B2
      refine uu_gI g1 hM (by decide) ?_
      rw [hK.1, if_neg (by rw [q_nLe (by omega) (by omega)]; omega)]
      refine uu_R g1 (am_r33 hM) (uu_aI g1 (am_g33 hM (by omega)) (by omega) (by omega) ?_)
      rw [hK.2.2.1 k hk]
      refine uu_is g1 hM (Wp_b (Wp_mo (r_vp hf g1 hM hp hK hT q1 hi) ?_))
      rintro τ2 ⟨E2, g2, v1, v2, v3⟩
      rw [bds, q_nS]
      have eX : ∀ p, p < kN K → eR E1 p = X p := fun p hpp => by
        rw [← hX p hpp]; unfold eR; rw [i4 _ (by omega), i4 _ (by omega)]
      have hpar : ∀ j, j < g_np (kK K (kQ K k)) → kA K (kQ K k) j < kN K ∧ v_N (eW E1 (kA K (kQ K k) j)) = t_V K pl i X (kA K (kQ K k) j) := by
        intro j hj
        obtain ⟨n', r1, r2⟩ := q3 j hj
        rw [← r2]; exact ⟨(hT.2.2.1 n' (by omega)).1, i3 n' r1⟩
      refine Wp_s ⟨_, rfl, rfl, E2, g2, fun n hn' => ?_, fun q hq => (v3 q (by omega) (by omega) (by omega)).trans (i4 q hq)⟩
      by_cases e : n = k
      · subst e
        have ev : eW E2 (kQ K n) = g_vp K pl i (eR E1) (eW E1) (kQ K n) := Prod.ext v1 v2
        rw [ev, t_fx hT q1, g_vp_X q2 (eX _ q1) (fun j hj => eX _ (hpar j hj).1), g_vp_N q2 (fun j hj => (hpar j hj).2)]
      · have hne : kQ K n ≠ kQ K k := fun z => by have := hT.2.2.2.1 n k (by omega) hk z; omega
        have hlt := (hT.2.2.1 n (by omega)).1
        rw [← i3 n (by omega)]; unfold eW
        rw [v3 _ (by omega) (by omega) (by omega), v3 _ (by omega) (by omega) (by omega)])
    (by
      rintro ⟨x, τ⟩ ⟨i1, E1, g1, i3, i4⟩
      dsimp only at i1 g1
      subst i1
      refine ⟨τ, ?_, E1, g1, i3, i4⟩
      show f_X12_speeds_B2 P m (q_n i) (q_n (kN K)) τ = _
      unfold f_X12_speeds_B2
      rw [bd (am_gI (H_M g1 hM)), g1.2.2.2.1 m 19 (by omega) (fun _ => by decide), hK.1, if_pos (by rw [q_nLe (by omega) (by omega)]; omega)])
    (kN K) 0 ((0 : Int32), σ) (mpN P) (by omega) ⟨rfl, E, h, fun n hn' => absurd hn' (Nat.not_lt_zero n), fun _ _ => rfl⟩ (by omega)
  rw [bd er]
  refine Wp_s ⟨E', h1, fun p hpp => ?_, h3⟩
  obtain ⟨n, hn', rfl⟩ := hT.2.2.2.2 p hpp
  exact h2 n hn'
end GES
