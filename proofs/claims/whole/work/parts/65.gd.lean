/-! ===== gd: speeds, both ===== -/
section GDS
variable {M : BV} {P : mx_P} {σ σ0 : mx_S} {l m : Nat} {E : Nat → BV} {K : LK} {pl mk : Nat → Nat} {i p : Nat} {X : Nat → V2} {fn fd : Bool} {β : Type} {Q : β → Prop}
theorem w_iso {a : Nat} {k : Int32 → mx_S → Option β} (g : G σ0 l E σ) (hx : px σ0 l a) (h : Wp (k (bI (v_open (E (a + 1), E (a + 2)))) σ) Q) : Wp (mx_b2 (f_X8_isOpen P a σ) k) Q := by
  have e : f_X8_isOpen P a σ = some (bI (v_open (E (a + 1), E (a + 2))), σ) := by
    unfold f_X8_isOpen f_X8_isOpen_D20 f_X8_isOpen_D25
    have z1 : ¬ (1 : Int32) = 0 := by decide
    have y1 : mr_Z 1 σ = some (1, σ) := if_pos (Or.inr rfl)
    have y0 : mr_Z 0 σ = some (0, σ) := if_pos (Or.inl rfl)
    have r0 := pr_0 (G_P g hx)
    have r1 := pr_1 (G_P g hx)
    simp only [↓bd r0, ↓bd r1, ↓bd (G_oe g hx.2.1), ↓bd (G_oe g hx.2.2), v_open, bI]
    cases E (a + 1) <;> cases E (a + 2) <;> simp [y0, y1, z1]
  rw [e]; exact h
/-- all but speeds and scratch -/
def SpF (l : Nat) (E E' : Nat → BV) : Prop := ∀ q, q < l + 659 → (∀ p, p < 40 → ¬ (l + 2 + 16 * p + 14 ≤ q ∧ q ≤ l + 2 + 16 * p + 15)) → E' q = E q
theorem c_speeds (hf : 100 ≤ mpN P) (g : G σ l E σ) (hL : LyL (mxA σ) (mxR σ) l) (hp : mpb P ≤ l) (hT : kT K) (hC : CF σ l K pl mk) (hE : CE M E l K pl) (hi : i < 4) (hX : ∀ p, p < kN K → eA E l p = X p) (hA : ∀ p, p < kN K → kK K p = 1 → (E (l + 2 + 16 * p + 10 + 1), E (l + 2 + 16 * p + 10 + 2)) = k_aim K pl p) :
    Wp (f_X7_reckonSpeeds P l (q_n i) σ) (fun τ => ∃ E', G σ l E' τ ∧ (∀ p, p < kN K → eV E' l p = t_V K pl i X p) ∧ SpF l E E') := by
  have hn := hT.1
  unfold f_X7_reckonSpeeds
  obtain ⟨τ, er, E', h1, h2, h3⟩ := q_for (f_X7_reckonSpeeds_L2 P l (q_n i))
    (fun k x => x.1 = q_n k ∧ ∃ E', G σ l E' x.2 ∧ (∀ n, n < k → eV E' l (kQ K n) = t_V K pl i X (kQ K n)) ∧ SpF l E E')
    (fun τ => ∃ E', G σ l E' τ ∧ (∀ n, n < kN K → eV E' l (kQ K n) = t_V K pl i X (kQ K n)) ∧ SpF l E E') (kN K)
    (by
      rintro k ⟨x, τ⟩ hk ⟨i1, E1, g1, i3, i4⟩
      dsimp only at i1 g1
      subst i1
      left
      obtain ⟨q1, q2, q3⟩ := hT.2.2.1 k hk
      have h40 : kQ K k < 40 := by omega
      have hJ := (LyL_j hL _ h40).2
      obtain ⟨c1, c2, c3, c4, -⟩ := hC.2.2.2.2 _ q1
      have eq : ∀ p, p < 40 → ∀ d, d ≤ 12 → E1 (l + 2 + 16 * p + d) = E (l + 2 + 16 * p + d) := fun p hp4 d hd => i4 _ (by omega) (fun p' hp' => by omega)
      have eX : ∀ p, p < kN K → eA E1 l p = X p := by
        intro p hpp
        rw [← hX p hpp]; unfold eA
        have := eq p (by omega) 8 (by omega)
        have := eq p (by omega) 9 (by omega)
        simp only [Nat.add_assoc] at *
        simp_all
      obtain ⟨d1, d2, -⟩ := hE.2 _ q1
      have e2 : kK K (kQ K k) ≠ 5 → E1 (l + 2 + 16 * kQ K k + 2) = (kO K (kQ K k)).1 := fun h => (eq _ h40 2 (by omega)).trans (d1 h)
      have e3 : kK K (kQ K k) ≠ 3 → kK K (kQ K k) ≠ 5 → E1 (l + 2 + 16 * kQ K k + 3) = (kO K (kQ K k)).2 := fun h h' => (eq _ h40 3 (by omega)).trans (d2 h h')
      have eaim : kK K (kQ K k) = 1 → (E1 (l + 2 + 16 * kQ K k + 10 + 1), E1 (l + 2 + 16 * kQ K k + 10 + 2)) = k_aim K pl (kQ K k) := by
        intro h
        rw [← hA _ q1 h, show E1 (l + 2 + 16 * kQ K k + 10 + 1) = E (l + 2 + 16 * kQ K k + 10 + 1) from eq _ h40 11 (by omega), show E1 (l + 2 + 16 * kQ K k + 10 + 2) = E (l + 2 + 16 * kQ K k + 10 + 2) from eq _ h40 12 (by omega)]
      have hpar : ∀ j, j < g_np (kK K (kQ K k)) → kA K (kQ K k) j < 40 ∧ kA K (kQ K k) j < kN K ∧ kA K (kQ K k) j ≠ kQ K k ∧ mxI σ (l + 2 + 16 * kQ K k + 1) j = q_n (kA K (kQ K k) j) ∧ eV E1 l (kA K (kQ K k) j) = t_V K pl i X (kA K (kQ K k) j) := by
        intro j hj
        obtain ⟨f1, f2, f3⟩ := c3 j hj
        obtain ⟨n', r1, r2⟩ := q3 j hj
        exact ⟨by omega, f1, f2, f3, by rw [← r2]; exact i3 n' r1⟩
      have hVp := g_vp_cg (pl := pl) (i := i) (X := X) (V := eV E1 l) (V' := t_V K pl i X) q2 (fun j hj => (hpar j hj).2.2.2.2)
      suffices hww : Wp (f_X7_reckonSpeeds_B2 P l (q_n i) (q_n k) τ) (fun z => ∃ t', z = .inl t' ∧ t'.1 = q_n (k + 1) ∧ ∃ E', G σ l E' t'.2 ∧ (∀ n, n < k + 1 → eV E' l (kQ K n) = t_V K pl i X (kQ K n)) ∧ SpF l E E') by
        obtain ⟨z, ez, t', rfl, hz⟩ := hww
        exact ⟨t', ez, hz⟩
      have post : ∀ (τ2 : mx_S), SpQ σ l (l + 2 + 16 * kQ K k) E1 (g_vp K pl i X (eV E1 l) (kQ K k)) τ2 → Wp (f_X7_reckonSpeeds_D140_2 P l (q_n i) (q_n k) (l + 2 + 16 * kQ K k) τ2) (fun z => ∃ t', z = .inl t' ∧ t'.1 = q_n (k + 1) ∧ ∃ E', G σ l E' t'.2 ∧ (∀ n, n < k + 1 → eV E' l (kQ K n) = t_V K pl i X (kQ K n)) ∧ SpF l E E') := by
        rintro τ2 ⟨E2, g2, v1, v2, v3⟩
        have hx := (jx_of hL h40).2.2.2.2.2.2
        have ev : (E2 (l + 2 + 16 * kQ K k + 13 + 1), E2 (l + 2 + 16 * kQ K k + 13 + 2)) = g_vp K pl i X (eV E1 l) (kQ K k) := Prod.ext v1 v2
        have old : ∀ n, n < k → ∀ E3 : Nat → BV, (∀ q, q < l + 659 → ¬ (l + 2 + 16 * kQ K k + 14 ≤ q ∧ q ≤ l + 2 + 16 * kQ K k + 15) → E3 q = E1 q) → eV E3 l (kQ K n) = t_V K pl i X (kQ K n) := by
          intro n hn' E3 h3
          have hne : kQ K n ≠ kQ K k := fun z => by have := hT.2.2.2.1 n k (by omega) hk z; omega
          have hlt := (hT.2.2.1 n (by omega)).1
          rw [← i3 n hn']; unfold eV
          rw [h3 _ (by omega) (by omega), h3 _ (by omega) (by omega)]
        unfold f_X7_reckonSpeeds_D140_2 f_X7_reckonSpeeds_D157_2
        refine w_jR g2 hJ (LyJ_r14 hJ) (w_pis g2 hx (w_iso g2 hx ?_))
        rw [ev, hVp]
        cases hv : v_open (g_vp K pl i X (t_V K pl i X) (kQ K k))
        · rw [if_pos (show bI false = 0 from rfl), bds, q_nS]
          refine Wp_s ⟨_, rfl, rfl, E2, g2, fun n hn' => ?_, fun q c1 c2 => (v3 q c1 (c2 _ h40)).trans (i4 q c1 c2)⟩
          by_cases e : n = k
          · subst e
            rw [t_fx hT q1, v_N_id hv, ← hVp]; exact ev
          · exact old n (by omega) E2 v3
        · rw [if_neg (show ¬ bI true = 0 by decide)]
          refine w_jR g2 hJ (LyJ_r14 hJ) (w_pis g2 hx (w_Pshut g2 hp hx fun σ3 g3 => ?_))
          rw [bds, q_nS]
          refine Wp_s ⟨_, rfl, rfl, _, g3, fun n hn' => ?_, fun q c1 c2 => ?_⟩
          · by_cases e : n = k
            · subst e
              rw [t_fx hT q1, v_N_no hv]; unfold eV; rw [up_n (by omega), up_e, up_e]
            · exact old n (by omega) _ (fun q c1 c2 => by rw [up_n (by omega), up_n (by omega)]; exact v3 q c1 c2)
          · have := c2 _ h40
            rw [up_n (by omega), up_n (by omega)]; exact (v3 q c1 this).trans (i4 q c1 c2)
      have hI : ∀ j, mxI τ l j = mxI σ l j := fun j => (g1.2.2.2.1 l j (nb_o hL)).1
      have hL1 : LyL (mxA τ) (mxR τ) l := by rw [g1.1, g1.2.1]; exact hL
      unfold f_X7_reckonSpeeds_B2
      rw [bd (al_gI hL1), hI, hC.1, if_neg (by rw [q_nLe (by omega) (by omega)]; omega)]
      refine w_lR g1 hL (LyL_r0 hL) (w_lR g1 hL (LyL_r1 hL) (w_aI g1 (LyL_a1 hL) (by omega) (show k < 40 by omega) ?_))
      rw [hC.2.2.1 k hk]
      refine w_jo g1 hL h40 (w_jI g1 hJ ?_)
      rw [c1]
      have hc : kK K (kQ K k) = 0 ∨ kK K (kQ K k) = 1 ∨ kK K (kQ K k) = 2 ∨ kK K (kQ K k) = 3 ∨ kK K (kQ K k) = 4 ∨ kK K (kQ K k) = 5 := by omega
      have hXk := eX _ q1
      rcases hc with c | c | c | c | c | c
      · rw [c, if_neg (by decide), if_neg (by decide), if_neg (by decide), if_neg (by decide), if_neg (by decide)]
        have hx := (jx_of hL h40).2.2.2.2.2.2
        refine w_jR g1 hJ (LyJ_r14 hJ) (w_pis g1 hx (w_Pzero g1 hp hx fun σ3 g3 => post σ3 ?_))
        rw [g_vp_0 c]
        exact ⟨_, g3, by rw [up_n (by omega), up_e], by rw [up_e], fun q h1 h2 => by rw [up_n (by omega), up_n (by omega)]⟩
      · rw [c, if_pos (by decide)]
        obtain ⟨a1, a2, a3, a4, a5⟩ := hpar 0 (by rw [c]; decide)
        obtain ⟨b1, b2, -⟩ := c4 c
        refine w_is g1 (LyL_o hL) (Wp_b (Wp_mo (c_vck (ja := kA K (kQ K k) 0) g1 hp hL h40 a1 a3 a4 b1 b2 hi) fun τ2 h2 => post τ2 ?_))
        rw [g_vp_1 c, ← eaim c, ← e3 (by omega) (by omega)]; exact h2
      · rw [c, if_neg (by decide), if_pos (by decide)]
        obtain ⟨a1, a2, a3, a4, a5⟩ := hpar 0 (by rw [c]; decide)
        obtain ⟨b1, b2, b3, b4, b5⟩ := hpar 1 (by rw [c]; decide)
        refine w_is g1 (LyL_o hL) (Wp_b (Wp_mo (c_vdy (ja := kA K (kQ K k) 0) (jb := kA K (kQ K k) 1) g1 hp hL h40 a1 b1 a3 b3 a4 b4) fun τ2 h2 => post τ2 ?_))
        rw [g_vp_2 c, ← hXk, ← eX _ a2, ← eX _ b2]; exact h2
      · rw [c, if_neg (by decide), if_neg (by decide), if_pos (by decide)]
        obtain ⟨a1, a2, a3, a4, a5⟩ := hpar 0 (by rw [c]; decide)
        obtain ⟨b1, b2, b3, b4, b5⟩ := hpar 1 (by rw [c]; decide)
        obtain ⟨d1, d2, d3, d4, d5⟩ := hpar 2 (by rw [c]; decide)
        refine w_is g1 (LyL_o hL) (Wp_b (Wp_mo (c_vsl (ja := kA K (kQ K k) 0) (jd := kA K (kQ K k) 1) (je := kA K (kQ K k) 2) g1 hp hL h40 a1 b1 d1 a3 b3 d3 a4 b4 d4) fun τ2 h2 => post τ2 ?_))
        rw [g_vp_3 c, ← hXk, ← eX _ a2, ← eX _ b2, ← eX _ d2]; exact h2
      · rw [c, if_neg (by decide), if_neg (by decide), if_neg (by decide), if_pos (by decide)]
        obtain ⟨a1, a2, a3, a4, a5⟩ := hpar 0 (by rw [c]; decide)
        obtain ⟨b1, b2, b3, b4, b5⟩ := hpar 1 (by rw [c]; decide)
        have hja := (LyL_j hL _ a1).2
        have hjb := (LyL_j hL _ b1).2
        refine w_jR g1 hJ (LyJ_r14 hJ) (w_lR g1 hL (LyL_r0 hL) (w_jR g1 hJ (LyJ_r2 hJ) (w_on0 g1 hJ a4 (w_jo g1 hL a1 (w_jR g1 hja (LyJ_r14 hja) (w_lR g1 hL (LyL_r0 hL) (w_jR g1 hJ (LyJ_r2 hJ) (w_on1 g1 hJ b4 (w_jo g1 hL b1 (w_jR g1 hjb (LyJ_r14 hjb) (w_is g1 (LyL_o hL) ?_)))))))))))
        refine Wp_b (Wp_mo (c_vbo (ja := kA K (kQ K k) 0) (jb := kA K (kQ K k) 1) g1 hp hL h40 a1 b1 a3 b3) fun τ2 h2 => post τ2 ?_)
        rw [g_vp_4 c, ← e2 (by omega), ← e3 (by omega) (by omega)]; exact h2
      · rw [c, if_neg (by decide), if_neg (by decide), if_neg (by decide), if_neg (by decide), if_pos (by decide)]
        obtain ⟨a1, a2, a3, a4, a5⟩ := hpar 0 (by rw [c]; decide)
        obtain ⟨b1, b2, b3, b4, b5⟩ := hpar 1 (by rw [c]; decide)
        obtain ⟨d1, d2, d3, d4, d5⟩ := hpar 2 (by rw [c]; decide)
        obtain ⟨f1, f2, f3, f4, f5⟩ := hpar 3 (by rw [c]; decide)
        refine w_is g1 (LyL_o hL) (Wp_b (Wp_mo (c_vcr (ja := kA K (kQ K k) 0) (jb := kA K (kQ K k) 1) (jd := kA K (kQ K k) 2) (je := kA K (kQ K k) 3) g1 hp hL h40 a1 b1 d1 f1 a3 b3 d3 f3 a4 b4 d4 f4) fun τ2 h2 => post τ2 ?_))
        rw [g_vp_5 c, ← hXk, ← eX _ a2, ← eX _ b2, ← eX _ d2, ← eX _ f2]; exact h2)
    (by
      rintro ⟨x, τ⟩ ⟨i1, E1, g1, i3, i4⟩
      dsimp only at i1 g1
      subst i1
      have hL1 : LyL (mxA τ) (mxR τ) l := by rw [g1.1, g1.2.1]; exact hL
      refine ⟨τ, ?_, E1, g1, i3, i4⟩
      show f_X7_reckonSpeeds_B2 P l (q_n i) (q_n (kN K)) τ = _
      unfold f_X7_reckonSpeeds_B2
      rw [bd (al_gI hL1), (g1.2.2.2.1 l 2 (nb_o hL)).1, hC.1, if_pos (by rw [q_nLe (by omega) (by omega)]; omega)])
    (kN K) 0 ((0 : Int32), σ) (mpN P) (by omega) ⟨rfl, E, g, fun n hn' => absurd hn' (Nat.not_lt_zero n), fun _ _ _ => rfl⟩ (by omega)
  rw [bd er]
  refine Wp_s ⟨E', h1, fun p hpp => ?_, h3⟩
  obtain ⟨n, hn', rfl⟩ := hT.2.2.2.2 p hpp
  exact h2 n hn'
end GDS
