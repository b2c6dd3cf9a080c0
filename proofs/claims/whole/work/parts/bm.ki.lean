/-! ===== ki: exact fractions: the class's sum ===== -/
section KIS
variable {P : mx_P} {σ σ1 σ2 τ : mx_S} {a j m g : Nat} {u v w t : Int64} {c d x z p q : Int} {ok : Prop}
theorem dvb (hg : 0 < g) (h : (g : Int) ∣ d) : (d / (g : Int)).natAbs ≤ d.natAbs := by
  obtain ⟨k, hk⟩ := h
  have e : d / g = k := by rw [hk]; exact Int.mul_ediv_cancel_left _ (by omega)
  rw [e, hk, Int.natAbs_mul, Int.natAbs_natCast]
  exact Nat.le_mul_of_pos_left _ hg
theorem c_adF (hf : 5000 ≤ mpN P) (hA : mxA σ a = some (.inl 3)) (hb : mpb P ≤ a) (h : FV σ a ok p q) (hw : B64 w c 1000000000000000) (ht : B64 t d 1000000000000000) (hd : 1 ≤ d) : ∃ τ, f_X3_add P a w t σ = some τ ∧ Fz (fun q j => q = a ∧ j ≤ 2) σ τ ∧ FV τ a (ok ∧ fqo p q c d ∧ (fqx p q c d).natAbs ≤ 1000000000000000) (fqx p q c d / (gcI (fqx p q c d) (fqz q d) : Int)) (fqz q d / (gcI (fqx p q c d) (fqz q d) : Int)) := by
  obtain ⟨h0, h1, hq1, hs⟩ := h
  obtain ⟨q', eq'⟩ : ∃ q', (mxL σ a 1).toInt = q' := ⟨_, rfl⟩
  rw [eq'] at h1 hq1
  have hd0 : d ≠ 0 := by omega
  have hg := gc_pos (c := q') hd0
  have hgl := gc_le (c := q') hd0
  have h2 := ht.2
  have h3 := h1.2
  have gcd1 : f_X3_gcd P (mxL σ a 1) t σ = some (l_n (gcI q' d), σ) := by
    have := c_gcd (P := P) (σ := σ) (x := mxL σ a 1) (y := t) hf (by rw [h1.1]; omega) (by rw [ht.1]; omega)
    rw [h1.1, ht.1] at this
    exact this
  unfold f_X3_add
  rw [bd (q_gL hA), bd2 gcd1, bd (q_gI hA)]
  rcases hs with ⟨hok, f0, ep, eq⟩ | ⟨nok, f1⟩
  · have eq2 : q' = q := eq'.symm.trans eq
    subst eq2
    rw [ep] at h0
    obtain ⟨r1, q1, k1⟩ := dv_ex hg (by omega) ht (by omega) (gc_r (c := q') (d := d))
    obtain ⟨r2, q2, k2⟩ := dv_ex hg (by omega) h1 (by omega) (gc_l (c := q') (d := d))
    obtain ⟨w1, s1, a1, e1, b1, c1, g1⟩ := c_ck2 (P := P) hA hb h0 k1
    have A1 : mxA s1 a = some (.inl 3) := by rw [g1.A.1]; exact hA
    have L1 := g1.L
    obtain ⟨w2, s2, a2, e2, b2, c2, g2⟩ := c_ck2 (P := P) A1 hb hw k2
    have A2 : mxA s2 a = some (.inl 3) := by rw [g2.A.1]; exact A1
    have L2 := g2.L
    have G2 := g1.tr g2
    obtain ⟨w3, s3, a3, e3, b3, c3, g3⟩ := c_ck2 (P := P) A2 hb h1 k1
    have A3 : mxA s3 a = some (.inl 3) := by rw [g3.A.1]; exact A2
    have G := G2.tr g3
    have L3 := G.L
    have cell1 : mxL s1 a 1 = mxL σ a 1 := L1 a 1 (by omega)
    have cell2 : mxL s2 a 1 = mxL σ a 1 := G2.L a 1 (by omega)
    have fz : Fz (fun q j => q = a ∧ j ≤ 2) σ s3 := by
      rcases G with ⟨-, e⟩ | ⟨-, -, f⟩
      · subst e; exact Fz.rf
      · exact f.mo fun q j y => ⟨y.1, by omega⟩
    have dp := dvp hg (gc_r (c := q') (d := d)) hd
    have zp : 1 ≤ fqz q' d := by
      unfold fqz
      have := Int.mul_le_mul hq1 dp (by omega) (by omega)
      omega
    have bs := b64A b1 b2 (by omega)
    have bs2 := bs.2
    have ab : f_J9_abs_067f4 P (w1 + w2) s3 = some (l_n (a1 + a2).natAbs, s3) := by rw [k_absL, k_absT64 (by rw [bs.1]; omega), bs.1]
    rw [if_pos f0, if_neg (fun y => l_nne hg (by omega) (q_cmp0.mp y)), bd (q_gL hA), bd q1, bd (q_is hA), bd2 e1, bd (q_gL A1), cell1, bd q2, bd (q_is A1), bd2 e2, bd (q_gL A2), cell2, bd q1, bd (q_is A2), bd2 e3, bd2 ab]
    have bad : ∀ s, mxA s a = some (.inl 3) → mxI s a 2 = 1 → f_X3_add_D92 P a w1 w2 w3 s = some s := fun s hs1 hs2 => by
      unfold f_X3_add_D92 f_X3_add_D110
      rw [bd (q_gI hs1), hs2, if_neg (by decide)]
    have fvb : ∀ s, (∀ i, i ≤ 1 → mxL s a i = mxL σ a i) → mxI s a 2 = 1 → ¬ (ok ∧ fqo p q' c d ∧ (fqx p q' c d).natAbs ≤ 1000000000000000) → FV s a (ok ∧ fqo p q' c d ∧ (fqx p q' c d).natAbs ≤ 1000000000000000) (fqx p q' c d / (gcI (fqx p q' c d) (fqz q' d) : Int)) (fqz q' d / (gcI (fqx p q' c d) (fqz q' d) : Int)) := fun s l1 l2 l3 => by
      refine ⟨?_, ?_, ?_, Or.inr ⟨l3, l2⟩⟩
      · rw [l1 0 (by omega), ep]; exact h0
      · rw [l1 1 (by omega), eq']; exact h1
      · rw [l1 1 (by omega), eq']; exact hq1
    have okx : ∀ y : fqo p q' c d, a1 + a2 = fqx p q' c d ∧ a3 = fqz q' d := fun y => ⟨by unfold fqx; rw [c1 y.1, c2 y.2.1], c3 y.2.2⟩
    by_cases gl : (a1 + a2).natAbs ≤ 1000000000000000
    · rw [l_15, if_pos (by rw [q_cmp_le, q_lle, l_nT (by omega), l_nT (by omega)]; exact Int.ofNat_le.mpr gl)]
      rcases G with ⟨gk, e⟩ | ⟨nk, f, fz'⟩
      · obtain ⟨ex, ez⟩ := okx ⟨gk.1.1, gk.1.2, gk.2⟩
        subst e
        rw [ex] at bs gl
        rw [ez] at b3
        obtain ⟨s4, e4, z1, z2, z3, z4⟩ := c_red (P := P) hf A3 hb ⟨bs.1, gl⟩ b3 zp
        have zd : fqz q' d ≠ 0 := by omega
        have hg' := gc_pos (c := fqx p q' c d) zd
        refine ⟨s4, ?_, z4, ?_⟩
        · unfold f_X3_add_D92 f_X3_add_D110
          rw [bd (q_gI A3), if_pos f0, bd (q_is A3), bd e4]
        · have n1 := dvb hg' (gc_l (c := fqx p q' c d) (d := fqz q' d))
          have n2 := dvb hg' (gc_r (c := fqx p q' c d) (d := fqz q' d))
          have n3 := dvp hg' (gc_r (c := fqx p q' c d) (d := fqz q' d)) zp
          have b32 := b3.2
          exact ⟨⟨rfl, by rw [z1]; omega⟩, ⟨rfl, by rw [z2]; omega⟩, by rw [z2]; exact n3, Or.inl ⟨⟨hok, ⟨gk.1.1, gk.1.2, gk.2⟩, gl⟩, z3.trans f0, z1, z2⟩⟩
      · exact ⟨s3, bad s3 A3 f, fz, fvb s3 (fun i hi => L3 a i (by omega)) f fun y => nk ⟨⟨y.2.1.1, y.2.1.2.1⟩, y.2.1.2.2⟩⟩
    · have A4 : mxA (mx_setI s3 a 2 1) a = some (.inl 3) := A3
      rw [l_15, if_neg (by rw [q_cmp_le, q_lle, l_nT (by omega), l_nT (by omega)]; exact fun y => gl (Int.ofNat_le.mp y)), bd (q_pZ A3 hb (Or.inr rfl))]
      refine ⟨_, bad _ A4 sI_e, fz.sI ⟨rfl, by omega⟩ _, fvb _ (fun i hi => (L3 a i (by omega))) sI_e fun y => gl ?_⟩
      rw [(okx y.2.1).1]; exact y.2.2
  · rw [if_neg (by rw [f1]; decide)]
    unfold f_X3_add_D24
    rw [bd (q_pZ hA hb (Or.inr rfl))]
    refine ⟨_, rfl, Fz.rf.sI ⟨rfl, by omega⟩ _, ?_, ?_, ?_, Or.inr ⟨fun y => nok y.1, sI_e⟩⟩
    · exact h0
    · exact ⟨rfl, by show (mxL σ a 1).toInt.natAbs ≤ _; rw [eq']; exact h3⟩
    · show 1 ≤ (mxL σ a 1).toInt; rw [eq']; exact hq1
end KIS
