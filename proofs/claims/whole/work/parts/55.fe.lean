/-! ===== fe: the class looks at a way ===== -/
section FEA
variable {M : BV} {P : mx_P} {σ σ0 σ1 σ' : mx_S} {l : Nat} {E E' : Nat → BV} {K : LK} {pl pl' mk : Nat → Nat} {w wy p : Nat} {β : Type} {Q : β → Prop}
/-- a linkage that stands: boxes E, way wy -/
def LSt (M : BV) (σ0 : mx_S) (l : Nat) (K : LK) (pl : Nat → Nat) (E : Nat → BV) (wy : Nat) (σ : mx_S) : Prop := LL σ0 l E σ ∧ CE M E l K pl ∧ mxI σ l 6 = q_n wy ∧ wy < 256 ∧ FI σ E l K pl wy
theorem okP_of {c : Nat} (hc : c < 40) (hp4 : p < 40) (hne : p ≠ c) (hE : PlE l (l + 2 + 16 * c) E E') (h15 : mxI σ' (l + 2 + 16 * p) 15 = mxI σ (l + 2 + 16 * p) 15) (h : okP σ E l K pl w p) : okP σ' E' l K pl w p := by
  refine ⟨h15.trans h.1, fun h3 => ⟨?_, fun hk h0 => ?_⟩⟩
  · rw [← (h.2 h3).1]; unfold eA; rw [hE _ (by omega) (by omega), hE _ (by omega) (by omega)]
  · rw [hE _ (by omega) (by omega), hE _ (by omega) (by omega)]; exact (h.2 h3).2 hk h0
def LkQ (M : BV) (σ0 : mx_S) (l : Nat) (K : LK) (pl : Nat → Nat) (w : Nat) (so : Bool) : Int32 × mx_S → Prop := fun r => ∃ E', LSt M σ0 l K pl E' w r.2 ∧ (r.1 = 0 ∨ r.1 = 1 ∨ r.1 = 3) ∧ (r.1 = 0 ↔ g_wy K pl w = 1) ∧ (so = false → (r.1 = 3 ↔ g_wy K pl w = 0)) ∧ (r.1 = 0 ∨ (so = false ∧ r.1 ≠ 3) → ∀ p, p < kN K → okP r.2 E' l K pl w p ∧ (s_S K pl w p).1 ≠ 3)
theorem c_lookD (hf : 100 ≤ mpN P) (hL : LyL (mxA σ0) (mxR σ0) l) (hp : mpb P ≤ l) (hT : kT K) (hC : CF σ0 l K pl mk) (so : Bool) (hs : LSt M σ0 l K pl E w σ) : Wp (f_X7_look_D34 P l (bI so) σ) (LkQ M σ0 l K pl w so) := by
  have hn := hT.1
  obtain ⟨hl0, hE0, h60, hw, hF0⟩ := hs
  unfold f_X7_look_D34
  obtain ⟨r, er, hr⟩ := q_for (f_X7_look_L40 P l (bI so))
    (fun k x => ∃ E', x.1 = bI (g_any K pl w (· != 0) k) ∧ x.2.1 = q_n k ∧ LSt M σ0 l K pl E' w x.2.2 ∧ (∀ i, i < k → okP x.2.2 E' l K pl w (kQ K i) ∧ (s_S K pl w (kQ K i)).1 ≠ 3) ∧ (so = true → g_any K pl w (· != 0) k = false))
    (fun r => (∃ τ E', r = .inl τ ∧ LSt M σ0 l K pl E' w τ ∧ g_any K pl w (· == 3) (kN K) = true) ∨ (∃ τ E', r = .inr (.inl (1, τ)) ∧ LSt M σ0 l K pl E' w τ ∧ so = true ∧ g_any K pl w (· != 0) (kN K) = true) ∨ (∃ τ E', r = .inr (.inr (bI (g_any K pl w (· != 0) (kN K)), τ)) ∧ LSt M σ0 l K pl E' w τ ∧ (∀ i, i < kN K → okP τ E' l K pl w (kQ K i) ∧ (s_S K pl w (kQ K i)).1 ≠ 3))) (kN K)
    (by
      rintro k ⟨x, y, τ⟩ hk ⟨E1, i1, i2, i3, i4, i5⟩
      dsimp only at i1 i2 i3 i4
      subst i1; subst i2
      obtain ⟨hl, hE, h6, -, hF⟩ := i3
      obtain ⟨q1, q2, q3⟩ := hT.2.2.1 k hk
      have h40 : kQ K k < 40 := by omega
      have hL' : LyL (mxA τ) (mxR τ) l := by rw [hl.1, hl.2.1]; exact hL
      have hC' := CF_of hL hT hC hl
      have hJ := (LyL_j hL' _ h40).2
      have g0 := LL_G hl
      suffices hww : Wp (f_X7_look_B40 P l (bI so) (bI (g_any K pl w (· != 0) k)) (q_n k) τ) (fun z => (∃ t', z = .inl t' ∧ ∃ E', t'.1 = bI (g_any K pl w (· != 0) (k + 1)) ∧ t'.2.1 = q_n (k + 1) ∧ LSt M σ0 l K pl E' w t'.2.2 ∧ (∀ i, i < k + 1 → okP t'.2.2 E' l K pl w (kQ K i) ∧ (s_S K pl w (kQ K i)).1 ≠ 3) ∧ (so = true → g_any K pl w (· != 0) (k + 1) = false)) ∨ (∃ τ E', z = .inr (.inl τ) ∧ LSt M σ0 l K pl E' w τ ∧ g_any K pl w (· == 3) (kN K) = true) ∨ (∃ τ E', z = .inr (.inr (.inl (1, τ))) ∧ LSt M σ0 l K pl E' w τ ∧ so = true ∧ g_any K pl w (· != 0) (kN K) = true)) by
        obtain ⟨z, ez, hz⟩ := hww
        rcases hz with ⟨t', rfl, hz⟩ | ⟨τ', E', rfl, hz⟩ | ⟨τ', E', rfl, hz⟩
        · exact Or.inl ⟨t', ez, hz⟩
        · exact Or.inr ⟨_, ez, Or.inl ⟨τ', E', rfl, hz⟩⟩
        · exact Or.inr ⟨_, ez, Or.inr (Or.inl ⟨τ', E', rfl, hz⟩)⟩
      -- behind the place
      have post : ∀ (σ' : mx_S) (E' : Nat → BV), LL σ0 l E' σ' → CE M E' l K pl → mxI σ' l 6 = q_n w → okP σ' E' l K pl w (kQ K k) → (∀ p, p < kN K → p ≠ kQ K k → mxI σ' (l + 2 + 16 * p) 16 = mxI τ (l + 2 + 16 * p) 16 ∧ (okP τ E1 l K pl w p → okP σ' E' l K pl w p)) → Wp (f_X7_look_D265_40 P l (bI so) (bI (g_any K pl w (· != 0) k)) (q_n k) (l + 2 + 16 * kQ K k) σ') (fun z => (∃ t', z = .inl t' ∧ ∃ E', t'.1 = bI (g_any K pl w (· != 0) (k + 1)) ∧ t'.2.1 = q_n (k + 1) ∧ LSt M σ0 l K pl E' w t'.2.2 ∧ (∀ i, i < k + 1 → okP t'.2.2 E' l K pl w (kQ K i) ∧ (s_S K pl w (kQ K i)).1 ≠ 3) ∧ (so = true → g_any K pl w (· != 0) (k + 1) = false)) ∨ (∃ τ E', z = .inr (.inl τ) ∧ LSt M σ0 l K pl E' w τ ∧ g_any K pl w (· == 3) (kN K) = true) ∨ (∃ τ E', z = .inr (.inr (.inl (1, τ))) ∧ LSt M σ0 l K pl E' w τ ∧ so = true ∧ g_any K pl w (· != 0) (kN K) = true)) := by
        intro σ' E' a1 a2 a3 a4 a5
        have hA' : mxA σ' (l + 2 + 16 * kQ K k) = some (.inl 5) := by rw [a1.1]; exact LyJ_o (LyL_j hL _ h40).2
        have cell : ∀ q j, ¬ (q = l + 2 + 16 * kQ K k ∧ j = 16) → mxI (mx_setI σ' (l + 2 + 16 * kQ K k) 16 1) q j = mxI σ' q j := fun q j hq => by rw [q_II, if_neg hq]
        have okk : ∀ p, okP σ' E' l K pl w p → okP (mx_setI σ' (l + 2 + 16 * kQ K k) 16 1) E' l K pl w p := fun p h => ⟨by rw [cell _ _ (by omega)]; exact h.1, h.2⟩
        have hLS : LSt M σ0 l K pl E' w (mx_setI σ' (l + 2 + 16 * kQ K k) 16 1) := by
          refine ⟨LL_set a1 (Or.inl ⟨_, h40, rfl, Or.inr rfl⟩) (nb_j hL h40), a2, by rw [cell _ _ (by omega)]; exact a3, hw, fun p hp => ?_⟩
          by_cases hpk : p = kQ K k
          · subst hpk
            rw [q_II, if_pos ⟨rfl, rfl⟩]
            exact ⟨Or.inr rfl, fun _ => okk _ a4⟩
          · rw [cell _ _ (by omega), (a5 p hp hpk).1]
            exact ⟨(hF p hp).1, fun z => okk _ ((a5 p hp hpk).2 ((hF p hp).2 z))⟩
        have st := (s_st3 (pl := pl) (w := w) hT q1).1
        unfold f_X7_look_D265_40
        rw [bd (q_pZ hA' (by omega) (Or.inr rfl)), bd (q_gI (by exact hA')), bd (q_gI (by exact hA')), cell _ _ (by omega), a4.1]
        by_cases h3 : (s_S K pl w (kQ K k)).1 = 3
        · rw [h3, if_pos (by decide)]
          exact Wp_s (Or.inr (Or.inl ⟨_, E', rfl, hLS, any_t.mpr ⟨k, hk, by rw [h3]; rfl⟩⟩))
        · rw [if_neg (fun z => h3 (by rw [show (3 : Int32) = q_n 3 from rfl, q_nI (by omega) (by omega)] at z; exact z))]
          have nxt : ∀ i, i < k + 1 → okP (mx_setI σ' (l + 2 + 16 * kQ K k) 16 1) E' l K pl w (kQ K i) ∧ (s_S K pl w (kQ K i)).1 ≠ 3 := by
            intro i hi
            by_cases e : i = k
            · subst e; exact ⟨okk _ a4, h3⟩
            · have hne : kQ K i ≠ kQ K k := fun z => e (hT.2.2.2.1 i k (by omega) hk z)
              exact ⟨okk _ ((a5 _ (hT.2.2.1 i (by omega)).1 hne).2 (i4 i (by omega)).1), (i4 i (by omega)).2⟩
          have go : ∀ b : Bool, b = g_any K pl w (· != 0) (k + 1) → Wp (f_X7_look_D293_40 P l (bI so) (bI b) (q_n k) (mx_setI σ' (l + 2 + 16 * kQ K k) 16 1)) (fun z => (∃ t', z = .inl t' ∧ ∃ E', t'.1 = bI (g_any K pl w (· != 0) (k + 1)) ∧ t'.2.1 = q_n (k + 1) ∧ LSt M σ0 l K pl E' w t'.2.2 ∧ (∀ i, i < k + 1 → okP t'.2.2 E' l K pl w (kQ K i) ∧ (s_S K pl w (kQ K i)).1 ≠ 3) ∧ (so = true → g_any K pl w (· != 0) (k + 1) = false)) ∨ (∃ τ E', z = .inr (.inl τ) ∧ LSt M σ0 l K pl E' w τ ∧ g_any K pl w (· == 3) (kN K) = true) ∨ (∃ τ E', z = .inr (.inr (.inl (1, τ))) ∧ LSt M σ0 l K pl E' w τ ∧ so = true ∧ g_any K pl w (· != 0) (kN K) = true)) := by
            intro b hb
            unfold f_X7_look_D293_40 f_X7_look_D305_40
            rw [bds, q_nS]
            cases so
            · rw [if_pos (by rfl)]
              exact Wp_s (Or.inl ⟨_, rfl, E', by rw [hb], rfl, hLS, nxt, fun z => by cases z⟩)
            · rw [if_neg (by decide)]
              cases b
              · rw [if_pos (by rfl)]
                exact Wp_s (Or.inl ⟨_, rfl, E', by rw [← hb], rfl, hLS, nxt, fun _ => hb.symm⟩)
              · rw [if_neg (by decide)]
                obtain ⟨i, hi1, hi2⟩ := any_t.mp hb.symm
                exact Wp_s (Or.inr (Or.inr ⟨_, E', rfl, hLS, rfl, any_t.mpr ⟨i, by omega, hi2⟩⟩))
          by_cases h0 : (s_S K pl w (kQ K k)).1 = 0
          · rw [h0, if_pos (by decide)]
            refine go _ ?_
            rw [g_any, h0]; cases g_any K pl w (· != 0) k <;> rfl
          · rw [if_neg (fun z => h0 (by rw [q_n0, q_nI (by omega) (by omega)] at z; exact z))]
            refine go true ?_
            rw [g_any, bne_iff_ne.mpr h0, Bool.or_true]
      have hpar : ∀ j, j < g_np (kK K (kQ K k)) → okP τ E1 l K pl w (kA K (kQ K k) j) ∧ (s_S K pl w (kA K (kQ K k) j)).1 ≠ 3 ∧ kA K (kQ K k) j < kN K := by
        intro j hj
        obtain ⟨i', r1, r2⟩ := q3 j hj
        rw [← r2]; exact ⟨(i4 i' r1).1, (i4 i' r1).2, (hT.2.2.1 i' (by omega)).1⟩
      unfold f_X7_look_B40
      rw [bd (al_gI hL'), hC'.1, if_neg (by rw [q_nLe (by omega) (by omega)]; omega)]
      refine w_lR g0 hL' (LyL_r0 hL') (w_lR g0 hL' (LyL_r1 hL') ?_)
      rw [bd (al_g1 hL' (by omega)), hC'.2.2.1 k hk]
      refine w_jo g0 hL' h40 ?_
      rw [bd (q_gI (LyJ_o hJ))]
      rcases (hF _ q1).1 with hfr | hfr
      · rw [hfr, if_pos rfl]
        obtain ⟨b, eb, hb⟩ := c_hangs (P := P) hf hL' hT hC' q1 (st := fun q => (s_S K pl w q).1) (fun j hj => ⟨(hpar j hj).1.1, (s_st3 hT (hpar j hj).2.2).1⟩)
        refine w_is g0 (LyL_o hL') ?_
        rw [bd2 eb]
        have keep : ∀ (σ' : mx_S) (E' : Nat → BV), LL σ0 l E' σ' → okP σ' E' l K pl w (kQ K k) → PlE l (l + 2 + 16 * kQ K k) E1 E' → (∀ q j, ¬ bx σ0 l q → ¬ (q = l + 2 + 16 * kQ K k ∧ j = 15) → mxI σ' q j = mxI τ q j) → Wp (f_X7_look_D265_40 P l (bI so) (bI (g_any K pl w (· != 0) k)) (q_n k) (l + 2 + 16 * kQ K k) σ') (fun z => (∃ t', z = .inl t' ∧ ∃ E', t'.1 = bI (g_any K pl w (· != 0) (k + 1)) ∧ t'.2.1 = q_n (k + 1) ∧ LSt M σ0 l K pl E' w t'.2.2 ∧ (∀ i, i < k + 1 → okP t'.2.2 E' l K pl w (kQ K i) ∧ (s_S K pl w (kQ K i)).1 ≠ 3) ∧ (so = true → g_any K pl w (· != 0) (k + 1) = false)) ∨ (∃ τ E', z = .inr (.inl τ) ∧ LSt M σ0 l K pl E' w τ ∧ g_any K pl w (· == 3) (kN K) = true) ∨ (∃ τ E', z = .inr (.inr (.inl (1, τ))) ∧ LSt M σ0 l K pl E' w τ ∧ so = true ∧ g_any K pl w (· != 0) (kN K) = true)) := by
          intro σ' E' a1 a2 a3 a4
          refine post σ' E' a1 (CE_of h40 hT hE a3) (by rw [a4 l 6 (nb_o hL) (by omega)]; exact h6) a2 fun p hp hne => ⟨a4 _ _ (nb_j hL (by omega)) (by omega), fun h => okP_of h40 (by omega) hne a3 (a4 _ _ (nb_j hL (by omega)) (by omega)) h⟩
        cases b
        · rw [if_pos (by rfl)]
          refine lk_one hf hL hp hT hC hl hE q1 hw h6 hfr (fun j hj => ⟨((hpar j hj).1.2 (hpar j hj).2.1).1, ?_⟩) keep
          have s3 := (s_st3 (pl := pl) (w := w) hT (hpar j hj).2.2).2 (hpar j hj).2.1
          rw [← v_N_open, ((hpar j hj).1.2 (hpar j hj).2.1).1]
          cases hv : v_open (s_S K pl w (kA K (kQ K k) j)).2
          · rfl
          · exact absurd (hb.mpr ⟨j, hj, s3.mpr hv⟩) (by decide)
        · rw [if_neg (by decide)]
          refine w_jR g0 hJ (LyJ_r12 hJ) ?_
          have hx := (jx_of hL' h40).2.2.2.2.1
          refine w_pis g0 hx (w_Pshut g0 hp hx fun σ2 g2 => ?_)
          obtain ⟨j, hj, hj2⟩ := hb.mp rfl
          have s3 := ((s_st3 (pl := pl) (w := w) hT (hpar j hj).2.2).2 (hpar j hj).2.1).mp hj2
          obtain ⟨t1, t2⟩ := s_of (V := eA E1 l) hT q1 (fun j hj => ((hpar j hj).1.2 (hpar j hj).2.1).1)
          obtain ⟨o1, o2⟩ := op_pt (pl := pl) (w := w) (V := eA E1 l) q2 ⟨j, hj, by rw [← v_N_open, ((hpar j hj).1.2 (hpar j hj).2.1).1]; exact s3⟩
          have z1 : (s_S K pl w (kQ K k)).1 = 2 := by rw [t1]; unfold g_st; rw [o1, o2]; rfl
          refine lk_fin (st := 2) (v := (none, none)) hL hp h40 hl g2 rfl (fun q c1 c2 => by rw [up_n (by omega), up_n (by omega)]) z1 (fun _ => by rw [t2, v_N_no o2]; rfl) (fun _ => ⟨by rw [up_n (by omega), up_e], by rw [up_e]⟩) (fun _ z => absurd z (by decide)) keep
      · rw [hfr, if_neg (by decide)]
        unfold f_X7_look_D97_40
        rw [bd (q_gI (LyJ_o hJ)), hfr, if_neg (by decide)]
        exact post τ E1 hl hE h6 ((hF _ q1).2 hfr) fun p hp hne => ⟨rfl, fun h => h⟩)
    (by
      rintro ⟨x, y, τ⟩ ⟨E1, i1, i2, i3, i4, i5⟩
      dsimp only at i1 i2 i3 i4
      subst i1; subst i2
      have hL' : LyL (mxA τ) (mxR τ) l := by rw [i3.1.1, i3.1.2.1]; exact hL
      refine ⟨_, ?_, Or.inr (Or.inr ⟨τ, E1, rfl, i3, i4⟩)⟩
      show f_X7_look_B40 P l (bI so) _ (q_n (kN K)) τ = _
      unfold f_X7_look_B40
      rw [bd (al_gI hL'), (CF_of hL hT hC i3.1).1, if_pos (by rw [q_nLe (by omega) (by omega)]; omega)])
    (kN K) 0 ((0 : Int32), (0 : Int32), σ) (mpN P) (by omega) ⟨E, rfl, rfl, ⟨hl0, hE0, h60, hw, hF0⟩, fun i hi => absurd hi (Nat.not_lt_zero i), fun _ => rfl⟩ (by omega)
  rw [bd er]
  rcases hr with ⟨τ, E', rfl, hr1, hr2⟩ | ⟨τ, E', rfl, hr1, hr2, hr3⟩ | ⟨τ, E', rfl, hr1, hr2⟩
  · have gw : g_wy K pl w = 0 := by unfold g_wy; rw [hr2]; rfl
    refine Wp_s ⟨E', hr1, Or.inr (Or.inr rfl), ?_, fun _ => ?_, fun z => ?_⟩
    · rw [gw]; exact ⟨fun z => absurd (show (3 : Int32) = 0 from z) (by decide), fun z => absurd z (by decide)⟩
    · rw [gw]; exact ⟨fun _ => rfl, fun _ => rfl⟩
    · rcases z with z | z
      · exact absurd (show (3 : Int32) = 0 from z) (by decide)
      · exact absurd rfl z.2
  · have gw : g_wy K pl w ≠ 1 := by
      unfold g_wy; rw [hr3]; split
      · decide
      · decide
    refine Wp_s ⟨E', hr1, Or.inr (Or.inl rfl), ?_, fun z => ?_, fun z => ?_⟩
    · exact ⟨fun z => absurd (show (1 : Int32) = 0 from z) (by decide), fun z => absurd z gw⟩
    · rw [hr2] at z; cases z
    · rcases z with z | z
      · exact absurd (show (1 : Int32) = 0 from z) (by decide)
      · rw [hr2] at z; cases z.1
  · have n3 : g_any K pl w (· == 3) (kN K) = false := any_f.mpr fun i hi => beq_eq_false_iff_ne.mpr (hr2 i hi).2
    have hall : ∀ p, p < kN K → okP τ E' l K pl w p ∧ (s_S K pl w p).1 ≠ 3 := by
      intro p hp
      obtain ⟨i, hi, rfl⟩ := hT.2.2.2.2 p hp
      exact hr2 i hi
    cases hany : g_any K pl w (· != 0) (kN K)
    · have gw : g_wy K pl w = 1 := by unfold g_wy; rw [n3, hany]; rfl
      refine Wp_s ⟨E', hr1, Or.inl rfl, ?_, fun _ => ?_, fun _ => hall⟩
      · rw [gw]; exact ⟨fun _ => rfl, fun _ => rfl⟩
      · rw [gw]; exact ⟨fun z => absurd (show (0 : Int32) = 3 from z) (by decide), fun z => absurd z (by decide)⟩
    · have gw : g_wy K pl w = 2 := by unfold g_wy; rw [n3, hany]; rfl
      refine Wp_s ⟨E', hr1, Or.inr (Or.inl rfl), ?_, fun _ => ?_, fun _ => hall⟩
      · rw [gw]; exact ⟨fun z => absurd (show (1 : Int32) = 0 from z) (by decide), fun z => absurd z (by decide)⟩
      · rw [gw]; exact ⟨fun z => absurd (show (1 : Int32) = 3 from z) (by decide), fun z => absurd z (by decide)⟩
end FEA
