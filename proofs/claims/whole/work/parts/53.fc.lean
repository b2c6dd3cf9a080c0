/-! ===== fc: the class's linkage: what stands, what may change ===== -/
section FCA
variable {M : BV} {P : mx_P} {σ σ0 σ1 σ' : mx_S} {l : Nat} {E E' : Nat → BV} {K : LK} {pl pl' mk : Nat → Nat} {w wy p : Nat} {β : Type} {Q : β → Prop}
/-- status, fresh, way -/
def Lc (l q j : Nat) : Prop := (∃ p, p < 40 ∧ q = l + 2 + 16 * p ∧ (j = 15 ∨ j = 16)) ∨ (q = l ∧ j = 6)
def LL (σ0 : mx_S) (l : Nat) (E : Nat → BV) (σ : mx_S) : Prop := mxA σ = mxA σ0 ∧ mxR σ = mxR σ0 ∧ (mxz σ = mxz σ0 ∧ mxu σ = mxu σ0) ∧ (∀ q j, ¬ bx σ0 l q → ¬ Lc l q j → mxI σ q j = mxI σ0 q j) ∧ (∀ q j, ¬ bx σ0 l q → mxL σ q j = mxL σ0 q j) ∧ ∀ q, bx σ0 l q → RB (rd σ q) (E q)
theorem bx_A (h : mxA σ = mxA σ0) {q : Nat} : bx σ l q ↔ bx σ0 l q := by unfold bx; rw [h]
theorem LL_G (h : LL σ0 l E σ) : G σ l E σ := ⟨rfl, rfl, ⟨rfl, rfl⟩, fun _ _ _ => ⟨rfl, rfl⟩, fun q hq => h.2.2.2.2.2 q ((bx_A h.1).mp hq)⟩
theorem LL_of (h : LL σ0 l E σ) (g : G σ l E' σ') : LL σ0 l E' σ' ∧ ∀ q j, ¬ bx σ0 l q → mxI σ' q j = mxI σ q j := by
  obtain ⟨h1, h2, h3, h4, h5, h6⟩ := h
  obtain ⟨g1, g2, g3, g4, g5⟩ := g
  have hn : ∀ q j, ¬ bx σ0 l q → mxI σ' q j = mxI σ q j := fun q j hq => (g4 q j (fun z => hq ((bx_A h1).mp z))).1
  refine ⟨⟨g1.trans h1, g2.trans h2, ⟨g3.1.trans h3.1, g3.2.trans h3.2⟩, fun q j a b => (hn q j a).trans (h4 q j a b), fun q j a => ?_, fun q hq => g5 q ((bx_A h1).mpr hq)⟩, hn⟩
  exact ((g4 q j (fun z => a ((bx_A h1).mp z))).2).trans (h5 q j a)
theorem LL_set {q j : Nat} {x : Int32} (h : LL σ0 l E σ) (hc : Lc l q j) (hb : ¬ bx σ0 l q) : LL σ0 l E (mx_setI σ q j x) := by
  obtain ⟨h1, h2, h3, h4, h5, h6⟩ := h
  refine ⟨h1, h2, h3, fun q' j' a b => ?_, h5, fun q' hq => ?_⟩
  · rw [q_II, if_neg (by rintro ⟨rfl, rfl⟩; exact b hc)]; exact h4 q' j' a b
  · have hne : q' ≠ q := fun e => hb (e ▸ hq)
    have : rd (mx_setI σ q j x) q' = rd σ q' := by unfold rd; rw [q_II, if_neg (fun z => hne z.1)]; rfl
    rw [this]; exact h6 q' hq
theorem nb_o (hL : LyL (mxA σ0) (mxR σ0) l) : ¬ bx σ0 l l := fun z => by have := z.2.2; rw [LyL_o hL] at this; cases this
theorem nb_j (hL : LyL (mxA σ0) (mxR σ0) l) (hp : p < 40) : ¬ bx σ0 l (l + 2 + 16 * p) := fun z => by have := z.2.2; rw [LyJ_o (LyL_j hL p hp).2] at this; cases this
theorem nb_n (hL : LyL (mxA σ0) (mxR σ0) l) (hp : p < 40) : ¬ bx σ0 l (l + 2 + 16 * p + 1) := fun z => by have := z.2.2; rw [LyJ_a2 (LyL_j hL p hp).2] at this; cases this
theorem nb_q (hL : LyL (mxA σ0) (mxR σ0) l) : ¬ bx σ0 l (l + 642) := fun z => by have := z.2.2; rw [LyL_a1 hL] at this; cases this
theorem nb_p (hL : LyL (mxA σ0) (mxR σ0) l) : ¬ bx σ0 l (l + 643) := fun z => by have := z.2.2; rw [LyL_a4 hL] at this; cases this
/-- the cells that say how the points hang -/
def CF (σ : mx_S) (l : Nat) (K : LK) (pl mk : Nat → Nat) : Prop :=
  mxI σ l 2 = q_n (kN K) ∧ mxI σ l 3 = q_n (kB K) ∧ (∀ i, i < kN K → mxI σ (l + 642) i = q_n (kQ K i)) ∧ (∀ i, i < 4 → mxI σ (l + 643) i = q_n (pl i) ∧ pl i < 1024) ∧
  ∀ p, p < kN K → mxI σ (l + 2 + 16 * p) 1 = q_n (kK K p) ∧ mxI σ (l + 2 + 16 * p) 3 = q_n (g_np (kK K p)) ∧ (∀ j, j < g_np (kK K p) → kA K p j < kN K ∧ kA K p j ≠ p ∧ mxI σ (l + 2 + 16 * p + 1) j = q_n (kA K p j)) ∧
    (kK K p = 1 → mxI σ (l + 2 + 16 * p) 4 = q_n (kP K p).2.1 ∧ (kP K p).2.1 < 4 ∧ (mxI σ (l + 2 + 16 * p) 5).toInt = (kP K p).1 ∧ -8 ≤ (kP K p).1 ∧ (kP K p).1 ≤ 8 ∧ (mk p).testBit (8 + (kP K p).2.1) = true) ∧
    (kK K p = 2 ∨ kK K p = 3 → (∀ w, w < 256 → sgI (mxI σ (l + 2 + 16 * p) 7) (mxI σ (l + 2 + 16 * p) 6) (q_n w) = g_sg (kS K p) w) ∧ kS K p < 2 + kB K ∧ (2 ≤ kS K p → (mk p).testBit (kS K p - 2) = true)) ∧
    mxI σ (l + 2 + 16 * p) 8 = q_n (mk p) ∧ mk p < 4096 ∧ ∀ j, j < g_np (kK K p) → ∀ b, (mk (kA K p j)).testBit b = true → (mk p).testBit b = true
theorem CF_of (hL : LyL (mxA σ0) (mxR σ0) l) (hT : kT K) (h : CF σ0 l K pl mk) (hl : LL σ0 l E σ) : CF σ l K pl mk := by
  have hn := hT.1
  have h4 := hl.2.2.2.1
  obtain ⟨a1, a2, a3, a4, a5⟩ := h
  have nl : ∀ j, j ≠ 6 → ¬ Lc l l j := by
    rintro j hj (⟨p, h1, h2, h3⟩ | ⟨h1, h2⟩)
    · omega
    · exact hj h2
  have nj : ∀ p j, j ≠ 15 → j ≠ 16 → ¬ Lc l (l + 2 + 16 * p) j := by
    rintro p j h15 h16 (⟨p', h1, h2, h3⟩ | ⟨h1, h2⟩)
    · rcases h3 with h3 | h3
      · exact h15 h3
      · exact h16 h3
    · omega
  have n1 : ∀ p j, p < 40 → ¬ Lc l (l + 2 + 16 * p + 1) j := by
    rintro p j hp (⟨p', h1, h2, h3⟩ | ⟨h1, h2⟩) <;> omega
  have n2 : ∀ j, ¬ Lc l (l + 642) j := by rintro j (⟨p', h1, h2, h3⟩ | ⟨h1, h2⟩) <;> omega
  have n3 : ∀ j, ¬ Lc l (l + 643) j := by rintro j (⟨p', h1, h2, h3⟩ | ⟨h1, h2⟩) <;> omega
  refine ⟨?_, ?_, fun i hi => ?_, fun i hi => ?_, fun p hp => ?_⟩
  · rw [h4 _ _ (nb_o hL) (nl 2 (by omega))]; exact a1
  · rw [h4 _ _ (nb_o hL) (nl 3 (by omega))]; exact a2
  · rw [h4 _ _ (nb_q hL) (n2 i)]; exact a3 i hi
  · rw [h4 _ _ (nb_p hL) (n3 i)]; exact a4 i hi
  · have hp4 : p < 40 := by omega
    have hj := nb_j hL hp4
    obtain ⟨c1, c2, c3, c4, c5, c6, c7, c8⟩ := a5 p hp
    refine ⟨?_, ?_, fun j hjj => ?_, fun hk => ?_, fun hk => ?_, ?_, c7, c8⟩
    · rw [h4 _ _ hj (nj p 1 (by omega) (by omega))]; exact c1
    · rw [h4 _ _ hj (nj p 3 (by omega) (by omega))]; exact c2
    · rw [h4 _ _ (nb_n hL hp4) (n1 p j hp4)]; exact c3 j hjj
    · rw [h4 _ _ hj (nj p 4 (by omega) (by omega)), h4 _ _ hj (nj p 5 (by omega) (by omega))]; exact c4 hk
    · rw [h4 _ _ hj (nj p 7 (by omega) (by omega)), h4 _ _ hj (nj p 6 (by omega) (by omega))]; exact c5 hk
    · rw [h4 _ _ hj (nj p 8 (by omega) (by omega))]; exact c6
/-- the boxes that say how the points hang -/
def CE (M : BV) (E : Nat → BV) (l : Nat) (K : LK) (pl : Nat → Nat) : Prop :=
  (E (l + 675) = M ∧ ∀ i, i < 4 → eM E l i = g_D (pl i)) ∧ ∀ p, p < kN K → (kK K p ≠ 5 → E (l + 2 + 16 * p + 2) = (kO K p).1) ∧ (kK K p ≠ 3 → kK K p ≠ 5 → E (l + 2 + 16 * p + 3) = (kO K p).2) ∧ (kK K p = 1 → (E (l + 2 + 16 * p + 4 + 1), E (l + 2 + 16 * p + 4 + 2)) = g_D (kP K p).2.2)
theorem CE_of {c : Nat} (hc : c < 40) (hT : kT K) (h : CE M E l K pl) (hE : PlE l (l + 2 + 16 * c) E E') : CE M E' l K pl := by
  have hn := hT.1
  refine ⟨⟨(hE _ (by omega) (by omega)).trans h.1.1, fun i hi => ?_⟩, fun p hp => ⟨fun hk => ?_, fun hk hk5 => ?_, fun hk => ?_⟩⟩
  · rw [← h.1.2 i hi]; unfold eM; rw [hE _ (by omega) (by omega), hE _ (by omega) (by omega)]
  · rw [hE _ (by omega) (by omega)]; exact (h.2 p hp).1 hk
  · rw [hE _ (by omega) (by omega)]; exact (h.2 p hp).2.1 hk hk5
  · rw [hE _ (by omega) (by omega), hE _ (by omega) (by omega)]; exact (h.2 p hp).2.2 hk
/-- a crank's turned direction -/
def k_aim (K : LK) (pl : Nat → Nat) (p : Nat) : V2 := g_aim (kP K p).1 (g_D (pl (kP K p).2.1)) (g_D (kP K p).2.2)
/-- a point that stands as it should -/
def okP (σ : mx_S) (E : Nat → BV) (l : Nat) (K : LK) (pl : Nat → Nat) (w p : Nat) : Prop := mxI σ (l + 2 + 16 * p) 15 = q_n (s_S K pl w p).1 ∧ ((s_S K pl w p).1 ≠ 3 → v_N (eA E l p) = (s_S K pl w p).2 ∧ (kK K p = 1 → (s_S K pl w p).1 = 0 → (E (l + 2 + 16 * p + 10 + 1), E (l + 2 + 16 * p + 10 + 2)) = k_aim K pl p))
/-- what is fresh is right -/
def FI (σ : mx_S) (E : Nat → BV) (l : Nat) (K : LK) (pl : Nat → Nat) (w : Nat) : Prop := ∀ p, p < kN K → (mxI σ (l + 2 + 16 * p) 16 = 0 ∨ mxI σ (l + 2 + 16 * p) 16 = 1) ∧ (mxI σ (l + 2 + 16 * p) 16 = 1 → okP σ E l K pl w p)
/-! what a point does not hang on may change -/
theorem S_mask (hT : kT K) (hC : CF σ l K pl mk) (hw : w < 256) (hwy : wy < 256) (ha : ∀ p, p < kN K → kK K p = 1 → True) :
    ∀ i, i < kN K → (∀ b, b < 8 → (mk (kQ K i)).testBit b = true → w.testBit b = wy.testBit b) → (∀ j, j < 4 → (mk (kQ K i)).testBit (8 + j) = true → pl j = pl' j) → s_S K pl w (kQ K i) = s_S K pl' wy (kQ K i) := by
  intro i
  induction i using Nat.strongRecOn with
  | _ i ih =>
    intro hi h1 h2
    obtain ⟨a1, a2, a3⟩ := hT.2.2.1 i hi
    obtain ⟨c1, c2, c3, c4, c5, c6, c7, c8⟩ := hC.2.2.2.2 (kQ K i) a1
    have hb := hT.2.1
    rw [s_fx hT a1, s_fx hT a1]
    have hpar : ∀ j, j < g_np (kK K (kQ K i)) → s_S K pl w (kA K (kQ K i) j) = s_S K pl' wy (kA K (kQ K i) j) := by
      intro j hj
      obtain ⟨i', r1, r2⟩ := a3 j hj
      rw [← r2]
      exact ih i' r1 (by omega) (fun b hb hm => h1 b hb (c8 j hj b (r2 ▸ hm))) (fun b hb hm => h2 b hb (c8 j hj _ (r2 ▸ hm)))
    have hsg : kK K (kQ K i) = 2 ∨ kK K (kQ K i) = 3 → g_sg (kS K (kQ K i)) w = g_sg (kS K (kQ K i)) wy := by
      intro hk
      obtain ⟨-, s1, s2⟩ := c5 hk
      unfold g_sg
      by_cases e0 : kS K (kQ K i) = 0
      · rw [if_pos e0, if_pos e0]
      · rw [if_neg e0, if_neg e0]
        by_cases e1 : kS K (kQ K i) = 1
        · rw [if_pos e1, if_pos e1]
        · rw [if_neg e1, if_neg e1]; exact h1 _ (by omega) (s2 (by omega))
    have hg : g_pt K pl w (fun q => (s_S K pl w q).2) (kQ K i) = g_pt K pl' wy (fun q => (s_S K pl' wy q).2) (kQ K i) := by
      have hc : kK K (kQ K i) = 0 ∨ kK K (kQ K i) = 1 ∨ kK K (kQ K i) = 2 ∨ kK K (kQ K i) = 3 ∨ kK K (kQ K i) = 4 ∨ kK K (kQ K i) = 5 := by omega
      rcases hc with c | c | c | c | c | c
      · rw [g_pt_0 c, g_pt_0 c]
      · obtain ⟨-, d2, -, -, -, d6⟩ := c4 c
        rw [g_pt_1 c, g_pt_1 c, h2 _ d2 d6]
        rw [hpar 0 (by rw [c]; decide)]
      · rw [g_pt_2 c, g_pt_2 c, hsg (Or.inl c)]
        rw [hpar 0 (by rw [c]; decide), hpar 1 (by rw [c]; decide)]
      · rw [g_pt_3 c, g_pt_3 c, hsg (Or.inr c)]
        rw [hpar 0 (by rw [c]; decide), hpar 1 (by rw [c]; decide), hpar 2 (by rw [c]; decide)]
      · rw [g_pt_4 c, g_pt_4 c]
        rw [hpar 0 (by rw [c]; decide), hpar 1 (by rw [c]; decide)]
      · rw [g_pt_5 c, g_pt_5 c]
        rw [hpar 0 (by rw [c]; decide), hpar 1 (by rw [c]; decide), hpar 2 (by rw [c]; decide), hpar 3 (by rw [c]; decide)]
    unfold s_pt
    rw [hg]
/-- touch -/
theorem c_touch {bits : Nat} (hf : 100 ≤ mpN P) (hL : LyL (mxA σ0) (mxR σ0) l) (hp : mpb P ≤ l) (hT : kT K) (hC : CF σ0 l K pl mk) (hl : LL σ0 l E σ) (hb : bits < 4096) :
    Wp (f_X7_touch P l (q_n bits) σ) (fun τ => LL σ0 l E τ ∧ mxI τ l 6 = mxI σ l 6 ∧ ∀ p, p < kN K → mxI τ (l + 2 + 16 * p) 15 = mxI σ (l + 2 + 16 * p) 15 ∧ mxI τ (l + 2 + 16 * p) 16 = if q_n (mk p) &&& q_n bits = 0 then mxI σ (l + 2 + 16 * p) 16 else 0) := by
  have hn := hT.1
  unfold f_X7_touch
  obtain ⟨τ, e, h1, h2, h3⟩ := q_for (f_X7_touch_L2 P l (q_n bits))
    (fun k x => x.1 = q_n k ∧ LL σ0 l E x.2 ∧ mxI x.2 l 6 = mxI σ l 6 ∧ ∀ p, p < kN K → mxI x.2 (l + 2 + 16 * p) 15 = mxI σ (l + 2 + 16 * p) 15 ∧ mxI x.2 (l + 2 + 16 * p) 16 = if p < k ∧ ¬ q_n (mk p) &&& q_n bits = 0 then 0 else mxI σ (l + 2 + 16 * p) 16)
    (fun τ => LL σ0 l E τ ∧ mxI τ l 6 = mxI σ l 6 ∧ ∀ p, p < kN K → mxI τ (l + 2 + 16 * p) 15 = mxI σ (l + 2 + 16 * p) 15 ∧ mxI τ (l + 2 + 16 * p) 16 = if q_n (mk p) &&& q_n bits = 0 then mxI σ (l + 2 + 16 * p) 16 else 0) (kN K)
    (by
      rintro k ⟨x, τ⟩ hk ⟨i1, i2, i3, i4⟩
      dsimp only at i1 i2 i3 i4
      subst i1
      left
      have hL' : LyL (mxA τ) (mxR τ) l := by rw [i2.1, i2.2.1]; exact hL
      have hC' := CF_of hL hT hC i2
      have hk4 : k < 40 := by omega
      have hJ := (LyL_j hL' k hk4).2
      have r0 : mg_R τ l 7 0 = some (l + 1) := (q_gR (LyL_o hL')).trans (LyL_r0 hL')
      have rk : ma_R τ (l + 1) 4 (q_n k) = some (l + 2 + 16 * k) := by rw [q_aRn (LyL_a0 hL') (by omega) hk4]; exact (LyL_j hL' k hk4).1
      show ∃ t', f_X7_touch_B2 P l (q_n bits) (q_n k) τ = some (.inl t') ∧ _
      unfold f_X7_touch_B2 f_X7_touch_D34_2
      rw [bd (al_gI hL'), hC'.1, if_neg (by rw [q_nLe (by omega) (by omega)]; omega), bd r0, bd rk, bd (q_gI (LyJ_o hJ)), (hC'.2.2.2.2 k hk).2.2.2.2.2.1]
      by_cases hm : q_n (mk k) &&& q_n bits = 0
      · rw [if_pos hm, bds]
        refine ⟨_, rfl, q_nS k, i2, i3, fun p hp => ⟨(i4 p hp).1, ?_⟩⟩
        rw [(i4 p hp).2]
        by_cases hpk : p = k
        · subst hpk; rw [if_neg (by omega), if_neg (fun z => z.2 hm)]
        · have : (p < k ∧ ¬ q_n (mk p) &&& q_n bits = 0) ↔ (p < k + 1 ∧ ¬ q_n (mk p) &&& q_n bits = 0) := ⟨fun z => ⟨by omega, z.2⟩, fun z => ⟨by omega, z.2⟩⟩
          simp only [this]
      · rw [if_neg hm, bd r0, bd rk, bd (q_pZ (LyJ_o hJ) (by omega) (Or.inl rfl)), bds]
        refine ⟨_, rfl, q_nS k, LL_set i2 (Or.inl ⟨k, hk4, rfl, Or.inr rfl⟩) (nb_j hL hk4), ?_, fun p hp => ⟨?_, ?_⟩⟩
        · dsimp only; rw [q_II, if_neg (by omega)]; exact i3
        · dsimp only; rw [q_II, if_neg (by omega)]; exact (i4 p hp).1
        · dsimp only
          rw [q_II]
          by_cases hpk : p = k
          · subst hpk; rw [if_pos ⟨rfl, rfl⟩, if_pos ⟨by omega, hm⟩]
          · rw [if_neg (by omega), (i4 p hp).2]
            have : (p < k ∧ ¬ q_n (mk p) &&& q_n bits = 0) ↔ (p < k + 1 ∧ ¬ q_n (mk p) &&& q_n bits = 0) := ⟨fun z => ⟨by omega, z.2⟩, fun z => ⟨by omega, z.2⟩⟩
            simp only [this])
    (by
      rintro ⟨x, τ⟩ ⟨i1, i2, i3, i4⟩
      dsimp only at i1 i2 i3 i4
      subst i1
      have hL' : LyL (mxA τ) (mxR τ) l := by rw [i2.1, i2.2.1]; exact hL
      have hC' := CF_of hL hT hC i2
      refine ⟨τ, ?_, i2, i3, fun p hp => ⟨(i4 p hp).1, ?_⟩⟩
      · show f_X7_touch_B2 P l (q_n bits) (q_n (kN K)) τ = _
        unfold f_X7_touch_B2
        rw [bd (al_gI hL'), hC'.1, if_pos (by rw [q_nLe (by omega) (by omega)]; omega)]
      · rw [(i4 p hp).2]
        by_cases hm : q_n (mk p) &&& q_n bits = 0
        · rw [if_neg (fun z => z.2 hm), if_pos hm]
        · rw [if_pos ⟨hp, hm⟩, if_neg hm])
    (kN K) 0 ((0 : Int32), σ) (mpN P) (by omega) ⟨rfl, hl, rfl, fun p hp => ⟨rfl, by rw [if_neg (by omega)]⟩⟩ (by omega)
  rw [bd e]
  exact Wp_s ⟨h1, h2, h3⟩
end FCA
