/-! ===== fd: the class looks at a way: one point ===== -/
section FDA
variable {M : BV} {P : mx_P} {σ σ0 σ1 σ' : mx_S} {l : Nat} {E E' : Nat → BV} {K : LK} {pl pl' mk : Nat → Nat} {w wy p : Nat} {β : Type} {Q : β → Prop}
theorem c_hangs (hf : 100 ≤ mpN P) (hL : LyL (mxA σ) (mxR σ) l) (hT : kT K) (hC : CF σ l K pl mk) (hpp : p < kN K) {st : Nat → Nat} (hs : ∀ j, j < g_np (kK K p) → mxI σ (l + 2 + 16 * kA K p j) 15 = q_n (st (kA K p j)) ∧ st (kA K p j) ≤ 3) :
    ∃ b : Bool, f_X7_hangsOnOpen P l (l + 2 + 16 * p) σ = some (bI b, σ) ∧ (b = true ↔ ∃ j, j < g_np (kK K p) ∧ st (kA K p j) = 2) := by
  have hn := hT.1
  have hp4 : p < 40 := by omega
  obtain ⟨c1, c2, c3, -⟩ := hC.2.2.2.2 p hpp
  have hJ := (LyL_j hL p hp4).2
  have r0 : mg_R σ l 7 0 = some (l + 1) := (q_gR (LyL_o hL)).trans (LyL_r0 hL)
  have r2 : mg_R σ (l + 2 + 16 * p) 5 2 = some (l + 2 + 16 * p + 1) := (q_gR (LyJ_o hJ)).trans (LyJ_r2 hJ)
  have np4 : g_np (kK K p) ≤ 4 := by unfold g_np; repeat' split
                                     all_goals omega
  unfold f_X7_hangsOnOpen
  obtain ⟨r, er, hr⟩ := q_for (f_X7_hangsOnOpen_L2 P l (l + 2 + 16 * p))
    (fun k x => x = (q_n k, σ) ∧ ∀ j, j < k → st (kA K p j) ≠ 2)
    (fun r => (r = .inl σ ∧ ∃ j, j < g_np (kK K p) ∧ st (kA K p j) = 2) ∨ (r = .inr σ ∧ ∀ j, j < g_np (kK K p) → st (kA K p j) ≠ 2)) (g_np (kK K p))
    (by
      rintro k _ hk ⟨rfl, i2⟩
      obtain ⟨d1, d2, d3⟩ := c3 k hk
      have hq4 : kA K p k < 40 := by omega
      have rq : ma_R σ (l + 1) 4 (q_n (kA K p k)) = some (l + 2 + 16 * kA K p k) := by rw [q_aRn (LyL_a0 hL) (by omega) hq4]; exact (LyL_j hL _ hq4).1
      have e : f_X7_hangsOnOpen_B2 P l (l + 2 + 16 * p) (q_n k) σ = if q_n (st (kA K p k)) = (2 : Int32) then some (.inr (.inl σ)) else some (.inl (q_n (k + 1), σ)) := by
        unfold f_X7_hangsOnOpen_B2
        rw [bd (q_gI (LyJ_o hJ)), c2, if_neg (by rw [q_nLe (by omega) (by omega)]; omega), bd r0, bd r2, bd (q_aIn (LyJ_a2 hJ) (by omega) (by omega)), d3, bd rq, bd (q_gI (LyJ_o (LyL_j hL _ hq4).2)), (hs k hk).1, bds, q_nS]
      show (∃ t', f_X7_hangsOnOpen_B2 P l (l + 2 + 16 * p) (q_n k) σ = some (.inl t') ∧ _) ∨ (∃ r, f_X7_hangsOnOpen_B2 P l (l + 2 + 16 * p) (q_n k) σ = some (.inr r) ∧ _)
      rw [e]
      have hst := (hs k hk).2
      by_cases h2 : st (kA K p k) = 2
      · rw [h2, if_pos (show q_n 2 = (2 : Int32) from rfl)]
        exact Or.inr ⟨_, rfl, Or.inl ⟨rfl, k, hk, h2⟩⟩
      · rw [if_neg (fun z => h2 (by rw [show (2 : Int32) = q_n 2 from rfl, q_nI (by omega) (by omega)] at z; exact z))]
        refine Or.inl ⟨_, rfl, rfl, fun j hj => ?_⟩
        by_cases hjk : j = k
        · subst hjk; exact h2
        · exact i2 j (by omega))
    (by
      rintro _ ⟨rfl, i2⟩
      refine ⟨.inr σ, ?_, Or.inr ⟨rfl, i2⟩⟩
      show f_X7_hangsOnOpen_B2 P l (l + 2 + 16 * p) (q_n _) σ = _
      unfold f_X7_hangsOnOpen_B2
      rw [bd (q_gI (LyJ_o hJ)), c2, if_pos (by rw [q_nLe (by omega) (by omega)]; omega)])
    (g_np (kK K p)) 0 ((0 : Int32), σ) (mpN P) (by omega) ⟨rfl, fun j hj => absurd hj (Nat.not_lt_zero j)⟩ (by omega)
  rw [bd er]
  rcases hr with ⟨rfl, h⟩ | ⟨rfl, h⟩
  · exact ⟨true, show mr_Z 1 σ = some (1, σ) from if_pos (Or.inr rfl), fun _ => h, fun _ => rfl⟩
  · exact ⟨false, show mr_Z 0 σ = some (0, σ) from if_pos (Or.inl rfl), fun z => (by cases z), fun ⟨j, h1, h2⟩ => absurd h2 (h j h1)⟩
theorem g_st3 {n : Nat} {v : V2} (h : n = 0 ∨ n = 1 ∨ n = 3) : g_st n v ≤ 3 ∧ (g_st n v = 2 ↔ n ≠ 3 ∧ v_open v = true) := by
  unfold g_st
  rcases h with rfl | rfl | rfl <;> cases v_open v <;> simp
theorem g_pt3 {V : Nat → V2} (hk : kK K p ≤ 5) : (g_pt K pl w V p).1 = 0 ∨ (g_pt K pl w V p).1 = 1 ∨ (g_pt K pl w V p).1 = 3 := by
  have hc : kK K p = 0 ∨ kK K p = 1 ∨ kK K p = 2 ∨ kK K p = 3 ∨ kK K p = 4 ∨ kK K p = 5 := by omega
  rcases hc with c | c | c | c | c | c
  · rw [g_pt_0 c]; exact Or.inl rfl
  · rw [g_pt_1 c]; exact Or.inl rfl
  · rw [g_pt_2 c]; exact g_j3 _
  · rw [g_pt_3 c]; exact g_j3 _
  · rw [g_pt_4 c]; exact Or.inl rfl
  · rw [g_pt_5 c]; exact Or.inl rfl
/-- what the one equation says of a point's status -/
theorem s_st3 (hT : kT K) (hpp : p < kN K) : (s_S K pl w p).1 ≤ 3 ∧ ((s_S K pl w p).1 ≠ 3 → ((s_S K pl w p).1 = 2 ↔ v_open (s_S K pl w p).2 = true)) := by
  rw [s_fx hT hpp]
  unfold s_pt
  dsimp only
  obtain ⟨a1, a2⟩ := g_st3 (v := (g_pt K pl w (fun q => (s_S K pl w q).2) p).2) (g_pt3 (pl := pl) (w := w) (V := fun q => (s_S K pl w q).2) (kT_K hT hpp))
  refine ⟨a1, fun h3 => ?_⟩
  rw [a2, v_N_open]
  constructor
  · exact fun z => z.2
  · intro z
    refine ⟨fun e => h3 ?_, z⟩
    unfold g_st; rw [if_pos e]
/-- the point's place, worked out from those it hangs on -/
theorem s_of (hT : kT K) (hpp : p < kN K) {V : Nat → V2} (hV : ∀ j, j < g_np (kK K p) → v_N (V (kA K p j)) = (s_S K pl w (kA K p j)).2) : (s_S K pl w p).1 = g_st (g_pt K pl w V p).1 (g_pt K pl w V p).2 ∧ (s_S K pl w p).2 = v_N (g_pt K pl w V p).2 := by
  obtain ⟨n1, n2⟩ := g_pt_N (pl := pl) (w := w) (V := V) (W := fun q => (s_S K pl w q).2) (kT_K hT hpp) hV
  have hS := s_fx (pl := pl) (w := w) hT hpp
  constructor
  · rw [hS]; unfold s_pt; dsimp only; rw [n1, ← g_st_N, ← n2, g_st_N]
  · rw [hS]; unfold s_pt; dsimp only; rw [n2]
theorem lk_fin {st : Nat} {v : V2} {x : Int32} {f : mx_S → Option β} (hL : LyL (mxA σ0) (mxR σ0) l) (hp : mpb P ≤ l) (h40 : p < 40) (hl : LL σ0 l E σ) (g1 : G σ l E' σ1) (hx : x = q_n st) (hE : PlE l (l + 2 + 16 * p) E E')
    (hS1 : (s_S K pl w p).1 = st) (hS2 : st ≠ 3 → (s_S K pl w p).2 = v_N v) (hv : st ≠ 3 → E' (l + 2 + 16 * p + 7 + 1) = v.1 ∧ E' (l + 2 + 16 * p + 7 + 2) = v.2)
    (hA : kK K p = 1 → st = 0 → (E' (l + 2 + 16 * p + 10 + 1), E' (l + 2 + 16 * p + 10 + 2)) = k_aim K pl p)
    (hQ : ∀ σ' E', LL σ0 l E' σ' → okP σ' E' l K pl w p → PlE l (l + 2 + 16 * p) E E' → (∀ q j, ¬ bx σ0 l q → ¬ (q = l + 2 + 16 * p ∧ j = 15) → mxI σ' q j = mxI σ q j) → Wp (f σ') Q) : Wp ((mp_I P σ1 (l + 2 + 16 * p) 5 15 x).bind f) Q := by
  have hJ := (LyL_j hL p h40).2
  obtain ⟨hl1, hn⟩ := LL_of hl g1
  rw [q_pI (by rw [hl1.1]; exact LyJ_o hJ) (by omega)]
  refine hQ _ E' (LL_set hl1 (Or.inl ⟨p, h40, rfl, Or.inl rfl⟩) (nb_j hL h40)) ⟨?_, fun h3 => ⟨?_, fun hk h0 => ?_⟩⟩ hE fun q j hq hj => ?_
  · rw [q_II, if_pos ⟨rfl, rfl⟩, hx, hS1]
  · have e : eA E' l p = v := Prod.ext (hv (hS1 ▸ h3)).1 (hv (hS1 ▸ h3)).2
    rw [e, hS2 (hS1 ▸ h3)]
  · exact hA hk (by rw [← hS1]; exact h0)
  · rw [q_II, if_neg hj]; exact hn q j hq
theorem lk_one {so v4 v5 : Int32} {Q : (Int32 × Int32 × mx_S) ⊕ ((mx_S) ⊕ (Int32 × mx_S) ⊕ (Int32 × mx_S)) → Prop} (hf : 100 ≤ mpN P) (hL : LyL (mxA σ0) (mxR σ0) l) (hp : mpb P ≤ l) (hT : kT K) (hC : CF σ0 l K pl mk) (hl : LL σ0 l E σ) (hE : CE M E l K pl) (hpp : p < kN K) (hw : w < 256) (h6 : mxI σ l 6 = q_n w) (hfr : mxI σ (l + 2 + 16 * p) 16 = 0)
    (hpar : ∀ j, j < g_np (kK K p) → v_N (eA E l (kA K p j)) = (s_S K pl w (kA K p j)).2 ∧ v_open (eA E l (kA K p j)) = false)
    (hQ : ∀ σ' E', LL σ0 l E' σ' → okP σ' E' l K pl w p → PlE l (l + 2 + 16 * p) E E' → (∀ q j, ¬ bx σ0 l q → ¬ (q = l + 2 + 16 * p ∧ j = 15) → mxI σ' q j = mxI σ q j) → Wp (f_X7_look_D265_40 P l so v4 v5 (l + 2 + 16 * p) σ') Q) :
    Wp (f_X7_look_D97_40 P l so v4 v5 (l + 2 + 16 * p) σ) Q := by
  have hn := hT.1
  have h40 : p < 40 := by omega
  have hL' : LyL (mxA σ) (mxR σ) l := by rw [hl.1, hl.2.1]; exact hL
  have hC' := CF_of hL hT hC hl
  have g0 := LL_G hl
  have hJ := (LyL_j hL' p h40).2
  obtain ⟨c1, c2, c3, c4, c5, c6, c7, c8⟩ := hC'.2.2.2.2 p hpp
  obtain ⟨e1, e2, e3⟩ := hE.2 p hpp
  obtain ⟨t1, t2⟩ := s_of (V := eA E l) hT hpp (fun j hj => (hpar j hj).1)
  have hk5 := kT_K hT hpp
  have hc : kK K p = 0 ∨ kK K p = 1 ∨ kK K p = 2 ∨ kK K p = 3 ∨ kK K p = 4 ∨ kK K p = 5 := by omega
  unfold f_X7_look_D97_40
  rw [bd (q_gI (LyJ_o hJ)), hfr, if_pos rfl, bd (q_gI (LyJ_o hJ)), c1]
  rcases hc with c | c | c | c | c | c
  · rw [c, if_neg (by decide), if_neg (by decide), if_neg (by decide), if_neg (by decide), if_neg (by decide)]
    rw [g_pt_0 c] at t1 t2
    refine Wp_b2 (Wp_mo (c_fix g0 hp hL' h40) ?_)
    rintro ⟨x, τ⟩ ⟨x1, E', x2, x3, x4⟩
    have e : kO K p = (E (l + 2 + 16 * p + 2), E (l + 2 + 16 * p + 3)) := Prod.ext (e1 (by omega)).symm (e2 (by omega) (by omega)).symm
    rw [e] at t1 t2
    exact lk_fin hL hp h40 hl x2 x1 x4 t1 (fun _ => t2) x3 (fun z => absurd z (by omega)) hQ
  · rw [c, if_pos (by decide)]
    rw [g_pt_1 c] at t1 t2
    obtain ⟨d1, d2, d3, d4, d5, -⟩ := c4 c
    obtain ⟨a1, a2, a3⟩ := c3 0 (by rw [c]; decide)
    refine w_is g0 (LyL_o hL') (Wp_b2 (Wp_mo (c_crank (ja := kA K p 0) hf g0 hp hL' h40 (by omega) a2 d2 a3 d1 d3 d4 d5) ?_))
    rintro ⟨x, τ⟩ ⟨x1, E', x2, x3, x4, x5⟩
    have eaim : ckA E l p (kP K p).2.1 (kP K p).1 = k_aim K pl p := by
      unfold ckA k_aim; rw [hE.1.2 _ d2, e3 c]
    have ev : ckV E l p (kA K p 0) (kP K p).2.1 (kP K p).1 = v_sc (kO K p).1 (eA E l (kA K p 0)) (g_aim (kP K p).1 (g_D (pl (kP K p).2.1)) (g_D (kP K p).2.2)) := by
      unfold ckV; rw [eaim, e1 (by omega)]; rfl
    rw [ev] at x1 x3
    rw [eaim] at x4
    exact lk_fin hL hp h40 hl x2 x1 x5 t1 (fun _ => t2) (fun _ => x3) (fun _ _ => Prod.ext x4.1 x4.2) hQ
  · rw [c, if_neg (by decide), if_pos (by decide)]
    rw [g_pt_2 c] at t1 t2
    obtain ⟨a1, a2, a3⟩ := c3 0 (by rw [c]; decide)
    obtain ⟨b1, b2, b3⟩ := c3 1 (by rw [c]; decide)
    obtain ⟨s1, -⟩ := c5 (by omega)
    refine w_is g0 (LyL_o hL') (Wp_b2 (Wp_mo (c_dyad (ja := kA K p 0) (jb := kA K p 1) hf g0 hp hL' h40 (by omega) (by omega) a2 b2 a3 b3) ?_))
    rw [h6, s1 w hw, e1 (by omega), e2 (by omega) (by omega)]
    rintro ⟨x, τ⟩ ⟨x1, E', x2, x3, x4⟩
    exact lk_fin hL hp h40 hl x2 x1 x4 t1 (fun _ => t2) x3 (fun z => absurd z (by omega)) hQ
  · rw [c, if_neg (by decide), if_neg (by decide), if_pos (by decide)]
    rw [g_pt_3 c] at t1 t2
    obtain ⟨a1, a2, a3⟩ := c3 0 (by rw [c]; decide)
    obtain ⟨b1, b2, b3⟩ := c3 1 (by rw [c]; decide)
    obtain ⟨d1, d2, d3⟩ := c3 2 (by rw [c]; decide)
    obtain ⟨s1, -⟩ := c5 (by omega)
    refine w_is g0 (LyL_o hL') (Wp_b2 (Wp_mo (c_slide (ja := kA K p 0) (jd := kA K p 1) (je := kA K p 2) hf g0 hp hL' h40 (by omega) (by omega) (by omega) a2 b2 d2 a3 b3 d3) ?_))
    rw [h6, s1 w hw, e1 (by omega)]
    rintro ⟨x, τ⟩ ⟨x1, E', x2, x3, x4⟩
    exact lk_fin hL hp h40 hl x2 x1 x4 t1 (fun _ => t2) x3 (fun z => absurd z (by omega)) hQ
  · rw [c, if_neg (by decide), if_neg (by decide), if_neg (by decide), if_pos (by decide)]
    rw [g_pt_4 c] at t1 t2
    obtain ⟨a1, a2, a3⟩ := c3 0 (by rw [c]; decide)
    obtain ⟨b1, b2, b3⟩ := c3 1 (by rw [c]; decide)
    have ha4 : kA K p 0 < 40 := by omega
    have hb4 : kA K p 1 < 40 := by omega
    have hja := (LyL_j hL' _ ha4).2
    have hjb := (LyL_j hL' _ hb4).2
    refine w_jR g0 hJ (LyJ_r12 hJ) (w_lR g0 hL' (LyL_r0 hL') (w_jR g0 hJ (LyJ_r2 hJ) (w_on0 g0 hJ a3 (w_jo g0 hL' ha4 (w_jR g0 hja (LyJ_r12 hja) (w_lR g0 hL' (LyL_r0 hL') (w_jR g0 hJ (LyJ_r2 hJ) (w_on1 g0 hJ b3 (w_jo g0 hL' hb4 (w_jR g0 hjb (LyJ_r12 hjb) (w_is g0 (LyL_o hL') ?_)))))))))))
    refine Wp_b (Wp_mo (c_body (ja := kA K p 0) (jb := kA K p 1) g0 hp hL' h40 ha4 hb4 a2 b2) ?_)
    rw [e1 (by omega), e2 (by omega) (by omega)]
    rintro τ ⟨E', x2, x3, x4⟩
    refine w_open x2 hJ (jx_of hL' h40).2.2.2.2.1 ?_
    have ev : (E' (l + 2 + 16 * p + 7 + 1), E' (l + 2 + 16 * p + 7 + 2)) = g_body (kO K p).1 (kO K p).2 (eA E l (kA K p 0)) (eA E l (kA K p 1)) := Prod.ext x3.1 x3.2
    rw [ev]
    exact lk_fin hL hp h40 hl x2 (st_eq (n := 0) (by decide) _) x4 t1 (fun _ => t2) (fun _ => x3) (fun z => absurd z (by omega)) hQ
  · rw [c, if_neg (by decide), if_neg (by decide), if_neg (by decide), if_neg (by decide), if_pos (by decide)]
    rw [g_pt_5 c] at t1 t2
    obtain ⟨a1, a2, a3⟩ := c3 0 (by rw [c]; decide)
    obtain ⟨b1, b2, b3⟩ := c3 1 (by rw [c]; decide)
    obtain ⟨d1, d2, d3⟩ := c3 2 (by rw [c]; decide)
    obtain ⟨f1, f2, f3⟩ := c3 3 (by rw [c]; decide)
    refine w_is g0 (LyL_o hL') (Wp_b2 (Wp_mo (c_cross_ (ja := kA K p 0) (jb := kA K p 1) (jd := kA K p 2) (je := kA K p 3) g0 hp hL' h40 (by omega) (by omega) (by omega) (by omega) a2 b2 d2 f2 a3 b3 d3 f3) ?_))
    rintro ⟨x, τ⟩ ⟨x1, E', x2, x3, x4⟩
    exact lk_fin hL hp h40 hl x2 x1 x4 t1 (fun _ => t2) x3 (fun z => absurd z (by omega)) hQ
end FDA
