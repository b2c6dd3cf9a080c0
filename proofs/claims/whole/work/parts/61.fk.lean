/-! ===== fk: the ways, both ===== -/
section FKA
variable {M : BV} {P : mx_P} {σ σ0 σ1 σ' : mx_S} {l m : Nat} {E : Nat → BV} {K : LK} {pl pl0 pl' mk : Nat → Nat} {w wy p i k : Nat} {n : Int32}
def g_wl (K : LK) (pl : Nat → Nat) : Nat → List (Nat × Bool)
  | 0 => []
  | n + 1 => g_wl K pl n ++ (if g_wy K pl n = 0 then [] else [(n, g_wy K pl n == 1)])
theorem wl_len : ∀ n, (g_wl K pl n).length ≤ n
  | 0 => Nat.le_refl _
  | n + 1 => by
    rw [g_wl, List.length_append]
    have := wl_len n
    split
    · simp; omega
    · simp; omega
def FW (σ : mx_S) (l : Nat) (ws : List (Nat × Bool)) : Prop := mxI σ l 9 = q_n ws.length ∧ ∀ j e, ws[j]? = some e → mxI σ (l + 657) j = q_n e.1 ∧ mxI σ (l + 658) j = bI e.2
def Lw (l q j : Nat) : Prop := (q = l ∧ (j = 9 ∨ j = 10)) ∨ q = l + 657 ∨ q = l + 658
theorem Lw_f {q j : Nat} (h : Lw l q j) : Lf l q j := by
  rcases h with h | h | h
  · exact Or.inl h
  · exact Or.inr (Or.inl h)
  · exact Or.inr (Or.inr (Or.inl h))
def WFr (l : Nat) (σ0 σ : mx_S) : Prop := mxA σ = mxA σ0 ∧ mxR σ = mxR σ0 ∧ (mxz σ = mxz σ0 ∧ mxu σ = mxu σ0) ∧ (∀ q j, ¬ bx σ0 l q → ¬ Lc l q j → ¬ Lw l q j → mxI σ q j = mxI σ0 q j) ∧ ∀ q j, ¬ bx σ0 l q → mxL σ q j = mxL σ0 q j
theorem WFr.rf : WFr l σ σ := ⟨rfl, rfl, ⟨rfl, rfl⟩, fun _ _ _ _ _ => rfl, fun _ _ _ => rfl⟩
theorem WFr.tr (h1 : WFr l σ0 σ) (h2 : WFr l σ σ') : WFr l σ0 σ' := by
  obtain ⟨a1, a2, a3, a4, a5⟩ := h1
  obtain ⟨b1, b2, b3, b4, b5⟩ := h2
  have hb : ∀ q, bx σ l q ↔ bx σ0 l q := fun q => bx_A a1
  exact ⟨b1.trans a1, b2.trans a2, ⟨b3.1.trans a3.1, b3.2.trans a3.2⟩, fun q j c1 c2 c3 => (b4 q j (fun z => c1 ((hb q).mp z)) c2 c3).trans (a4 q j c1 c2 c3), fun q j c1 => (b5 q j (fun z => c1 ((hb q).mp z))).trans (a5 q j c1)⟩
theorem WFr.set {q j : Nat} {x : Int32} (h : Lw l q j) : WFr l σ (mx_setI σ q j x) := ⟨rfl, rfl, ⟨rfl, rfl⟩, fun q' j' _ _ c3 => by rw [q_II, if_neg]; rintro ⟨rfl, rfl⟩; exact c3 h, fun _ _ _ => rfl⟩
theorem WFr.ll (h : LL σ l E σ') : WFr l σ σ' := ⟨h.1, h.2.1, h.2.2.1, fun q j c1 c2 _ => h.2.2.2.1 q j c1 c2, h.2.2.2.2.1⟩
theorem nb_7 (hL : LyL (mxA σ0) (mxR σ0) l) : ¬ bx σ0 l (l + 657) := fun z => by have := z.2.2; rw [LyL_a7 hL] at this; cases this
theorem nb_8 (hL : LyL (mxA σ0) (mxR σ0) l) : ¬ bx σ0 l (l + 658) := fun z => by have := z.2.2; rw [LyL_a8 hL] at this; cases this
theorem q_sh1 : ∀ b : Fin 9, ((1 : Int32) <<< (q_n b.1 &&& 31)) = q_n (2 ^ b.1) := by decide +kernel
theorem p256 {b : Nat} (hb : b ≤ 8) : 2 ^ b ≤ 256 := Nat.pow_le_pow_right (n := 2) (by omega) hb
theorem c_list {N : Nat} (hN : N = 2 ^ kB K) (hf : 2000 ≤ mpN P) (hL : LyL (mxA σ) (mxR σ) l) (hp : mpb P ≤ l) (hT : kT K) (h : LZ M l K pl mk E wy σ) (hw : mxI σ l 10 = 0 ∨ (mxI σ l 10 = 1 ∧ FW σ l (g_wl K pl N))) :
    Wp (f_X7_listWays P l σ) (fun τ => (∃ E' wy', LZ M l K pl mk E' wy' τ) ∧ mxI τ l 10 = 1 ∧ FW τ l (g_wl K pl N) ∧ WFr l σ τ) := by
  have hb8 := hT.2.1
  have hN2 : N ≤ 256 := by rw [hN]; exact p256 hb8
  unfold f_X7_listWays
  rw [bd (al_gI hL)]
  rcases hw with hw | ⟨hw, hfw⟩
  · rw [hw, if_pos rfl, bd (al_pI hL hp _)]
    have nL9 : Lw l l 9 := Or.inl ⟨rfl, Or.inl rfl⟩
    have h0 : LZ M l K pl mk E wy (mx_setI σ l 9 0) := LZ_set hL hT h (Lw_f nL9) (nb_o hL)
    obtain ⟨τ, er, h1, h2, h3, h4⟩ := q_for (f_X7_listWays_L15 P l)
      (fun k x => x.1 = q_n k ∧ (∃ E' wy', LZ M l K pl mk E' wy' x.2) ∧ FW x.2 l (g_wl K pl k) ∧ WFr l σ x.2)
      (fun τ => (∃ E' wy', LZ M l K pl mk E' wy' τ) ∧ FW τ l (g_wl K pl N) ∧ WFr l σ τ ∧ True) N
      (by
        rintro k ⟨x, τ⟩ hk ⟨i1, ⟨E1, wy1, i2⟩, i3, i4⟩
        dsimp only at i1 i2 i3 i4
        subst i1
        left
        have hL' : LyL (mxA τ) (mxR τ) l := by rw [i4.1, i4.2.1]; exact hL
        suffices hww : Wp (f_X7_listWays_B15 P l (q_n k) τ) (fun z => ∃ t', z = .inl t' ∧ t'.1 = q_n (k + 1) ∧ (∃ E' wy', LZ M l K pl mk E' wy' t'.2) ∧ FW t'.2 l (g_wl K pl (k + 1)) ∧ WFr l σ t'.2) by
          obtain ⟨z, ez, t', rfl, hz⟩ := hww
          exact ⟨t', ez, hz⟩
        have hmn : ma_n τ (l + 657) 0 = some (q_n 256) := by unfold ma_n; rw [LyL_a7 hL']; rfl
        unfold f_X7_listWays_B15 f_X7_listWays_D84_15
        rw [bd (al_gI hL'), i2.1.2.1, q_sh1 ⟨kB K, by omega⟩, if_neg (by dsimp only; rw [← hN, q_nLe (by omega) (by omega)]; omega), bd (al_r7 hL'), bd hmn, if_neg (by rw [q_nLe (by omega) (by omega)]; omega), bd (al_is hL')]
        refine Wp_b2 (Wp_mo (c_look (so := false) (by omega) hL' hp hT i2 (show k < 256 by omega)) ?_)
        rintro ⟨r, τ2⟩ ⟨E2, j1, j2, j3, j4, -⟩
        dsimp only at j1 j2 j3 j4
        have hW := CF_W i2.1
        rw [wy_wm hT hW] at j3
        have j4 := j4 rfl
        rw [wy_wm hT hW] at j4
        have hZ2 := LZ_of hL' hT i2.1 j1
        have hfr := WFr.ll j1.1
        have hL2 : LyL (mxA τ2) (mxR τ2) l := by rw [hfr.1, hfr.2.1]; exact hL'
        have c9 : mxI τ2 l 9 = mxI τ l 9 := j1.1.2.2.2.1 _ _ (nb_o hL') (by rintro (⟨p, q1, q2, q3⟩ | ⟨q1, q2⟩) <;> omega)
        have c7 : ∀ j, mxI τ2 (l + 657) j = mxI τ (l + 657) j := fun j => j1.1.2.2.2.1 _ _ (nb_7 hL') (by rintro (⟨p, q1, q2, q3⟩ | ⟨q1, q2⟩) <;> omega)
        have c8 : ∀ j, mxI τ2 (l + 658) j = mxI τ (l + 658) j := fun j => j1.1.2.2.2.1 _ _ (nb_8 hL') (by rintro (⟨p, q1, q2, q3⟩ | ⟨q1, q2⟩) <;> omega)
        have hFW2 : FW τ2 l (g_wl K pl k) := ⟨c9.trans i3.1, fun j e hj => ⟨(c7 j).trans (i3.2 j e hj).1, (c8 j).trans (i3.2 j e hj).2⟩⟩
        have hlen := wl_len (K := K) (pl := pl) k
        by_cases h3 : r = 3
        · rw [if_pos h3, bds, q_nS]
          refine Wp_s ⟨_, rfl, rfl, ⟨_, _, hZ2⟩, ?_, i4.tr hfr⟩
          rw [g_wl, if_pos (j4.mp h3), List.append_nil]; exact hFW2
        · have hg0 : g_wy K pl k ≠ 0 := fun z => h3 (j4.mpr z)
          rw [if_neg h3, bd (al_r7 hL2), bd (al_gI hL2), hFW2.1, bd (al_s7 hL2 hp (by omega) _), bd (al_r8 (σ := mx_setI τ2 (l + 657) (g_wl K pl k).length (q_n k)) hL2), bd (al_gI (σ := mx_setI τ2 (l + 657) (g_wl K pl k).length (q_n k)) hL2)]
          have e9 : mxI (mx_setI τ2 (l + 657) (g_wl K pl k).length (q_n k)) l 9 = q_n (g_wl K pl k).length := by rw [q_II, if_neg (by omega)]; exact hFW2.1
          rw [e9]
          have fin : ∀ b : Bool, b = (g_wy K pl k == 1) → Wp (f_X7_listWays_D73_15 P l (q_n k) (bI b) (q_n (g_wl K pl k).length) (l + 658) (mx_setI τ2 (l + 657) (g_wl K pl k).length (q_n k))) (fun z => ∃ t', z = .inl t' ∧ t'.1 = q_n (k + 1) ∧ (∃ E' wy', LZ M l K pl mk E' wy' t'.2) ∧ FW t'.2 l (g_wl K pl (k + 1)) ∧ WFr l σ t'.2) := by
            intro b hb
            unfold f_X7_listWays_D73_15 f_X7_listWays_D84_15
            rw [bd (al_s8 (σ := mx_setI τ2 (l + 657) (g_wl K pl k).length (q_n k)) hL2 hp (by omega) _), bd (al_gI (σ := mx_setI (mx_setI τ2 (l + 657) (g_wl K pl k).length (q_n k)) (l + 658) (g_wl K pl k).length (bI b)) hL2)]
            have e9' : mxI (mx_setI (mx_setI τ2 (l + 657) (g_wl K pl k).length (q_n k)) (l + 658) (g_wl K pl k).length (bI b)) l 9 = q_n (g_wl K pl k).length := by rw [q_II, if_neg (by omega)]; exact e9
            rw [e9', bd (al_pI (σ := mx_setI (mx_setI τ2 (l + 657) (g_wl K pl k).length (q_n k)) (l + 658) (g_wl K pl k).length (bI b)) hL2 hp _), bds, q_nS, q_nS]
            refine Wp_s ⟨_, rfl, rfl, ⟨E2, _, LZ_set (by exact hL2) hT (LZ_set (by exact hL2) hT (LZ_set hL2 hT hZ2 (Lw_f (Or.inr (Or.inl rfl))) (nb_7 hL2)) (Lw_f (Or.inr (Or.inr rfl))) (by exact nb_8 hL2)) (Lw_f nL9) (by exact nb_o hL2)⟩, ?_, i4.tr (hfr.tr (((WFr.set (Or.inr (Or.inl rfl))).tr (WFr.set (Or.inr (Or.inr rfl)))).tr (WFr.set nL9)))⟩
            rw [g_wl, if_neg hg0, ← hb]
            refine ⟨?_, fun j e hj => ?_⟩
            · rw [q_II, if_pos ⟨rfl, rfl⟩, List.length_append]; rfl
            · rcases ls_snoc hj with ⟨hj, hl⟩ | ⟨rfl, rfl⟩
              · obtain ⟨f1, f2⟩ := hFW2.2 j e hj
                constructor
                · rw [q_II, if_neg (by omega), q_II, if_neg (by omega), q_II, if_neg (by omega)]; exact f1
                · rw [q_II, if_neg (by omega), q_II, if_neg (by omega), q_II, if_neg (by omega)]; exact f2
              · constructor
                · rw [q_II, if_neg (by omega), q_II, if_neg (by omega), q_II, if_pos ⟨rfl, rfl⟩]
                · rw [q_II, if_neg (by omega), q_II, if_pos ⟨rfl, rfl⟩]
          by_cases h0 : r = 0
          · rw [if_pos h0]
            exact fin true (by rw [j3.mp h0]; rfl)
          · rw [if_neg h0]
            exact fin false (beq_eq_false_iff_ne.mpr (fun z => h0 (j3.mpr z))).symm)
      (by
        rintro ⟨x, τ⟩ ⟨i1, ⟨E1, wy1, i2⟩, i3, i4⟩
        dsimp only at i1 i2 i3 i4
        subst i1
        have hL' : LyL (mxA τ) (mxR τ) l := by rw [i4.1, i4.2.1]; exact hL
        refine ⟨τ, ?_, ⟨E1, wy1, i2⟩, i3, i4, trivial⟩
        show f_X7_listWays_B15 P l (q_n N) τ = _
        unfold f_X7_listWays_B15
        rw [bd (al_gI hL'), i2.1.2.1, q_sh1 ⟨kB K, by omega⟩, if_pos (by dsimp only; rw [← hN, q_nLe (by omega) (by omega)]; omega)])
      N 0 ((0 : Int32), mx_setI σ l 9 0) (mpN P) (by omega) ⟨rfl, ⟨E, wy, h0⟩, ⟨by rw [q_II, if_pos ⟨rfl, rfl⟩]; rfl, fun j e hj => by cases hj⟩, WFr.set nL9⟩ (by omega)
    rw [bd er]
    have hL' : LyL (mxA τ) (mxR τ) l := by rw [h3.1, h3.2.1]; exact hL
    obtain ⟨E1, wy1, h1⟩ := h1
    have nL10 : Lw l l 10 := Or.inl ⟨rfl, Or.inr rfl⟩
    unfold f_X7_listWays_D90
    dsimp only
    rw [bd (al_pZ hL' hp (Or.inr rfl))]
    refine Wp_s ⟨⟨E1, wy1, LZ_set hL' hT h1 (Lw_f nL10) (nb_o hL')⟩, by rw [q_II, if_pos ⟨rfl, rfl⟩], ⟨by rw [q_II, if_neg (by omega)]; exact h2.1, fun j e hj => ⟨by rw [q_II, if_neg (by omega)]; exact (h2.2 j e hj).1, by rw [q_II, if_neg (by omega)]; exact (h2.2 j e hj).2⟩⟩, h3.tr (WFr.set nL10)⟩
  · rw [hw, if_neg (by decide)]
    exact Wp_s ⟨⟨E, wy, h⟩, hw, hfw, WFr.rf⟩
/-! the reference -/
theorem r_ways {N : Nat} (hN : N = 2 ^ kB K) (hf : 2000 ≤ mpN P) (hM : LyM σ0 m) (hp : mpb P ≤ m) (hT : kT K) (h : RS m K σ0 pl σ) : Wp (mx_lp (f_X12_ways_L9 P m) (mpN P) ((0 : Int32), (0 : Int32), σ)) (fun r => r.1 = q_n (g_wl K pl N).length ∧ RS m K σ0 pl r.2) := by
  have hb8 := hT.2.1
  have hN2 : N ≤ 256 := by rw [hN]; exact p256 hb8
  obtain ⟨r, er, hr⟩ := q_for (f_X12_ways_L9 P m)
    (fun k x => x.1 = q_n (g_wl K pl k).length ∧ x.2.1 = q_n k ∧ RS m K σ0 pl x.2.2)
    (fun r => r.1 = q_n (g_wl K pl N).length ∧ RS m K σ0 pl r.2) N
    (by
      rintro k ⟨x, y, τ⟩ hk ⟨i1, i2, i3⟩
      dsimp only at i1 i2 i3
      subst i1; subst i2
      left
      have hM' := RS_M i3 hM
      suffices hww : Wp (f_X12_ways_B9 P m (q_n (g_wl K pl k).length) (q_n k) τ) (fun z => ∃ t', z = .inl t' ∧ t'.1 = q_n (g_wl K pl (k + 1)).length ∧ t'.2.1 = q_n (k + 1) ∧ RS m K σ0 pl t'.2.2) by
        obtain ⟨z, ez, t', rfl, hz⟩ := hww
        exact ⟨t', ez, hz⟩
      unfold f_X12_ways_B9 f_X12_ways_D34_9
      rw [bd (am_gI hM'), i3.1.2.1, q_sh1 ⟨kB K, by omega⟩, if_neg (by dsimp only; rw [← hN, q_nLe (by omega) (by omega)]; omega), bd (am_is hM')]
      refine Wp_b2 (Wp_mo (rs_work (by omega) hM hp hT i3 (show k < 256 by omega)) ?_)
      rintro ⟨r, τ2⟩ ⟨j1, j2, -⟩
      dsimp only at j1 j2
      have hwy3 : g_wy K pl k ≤ 2 := by unfold g_wy; split <;> (try split) <;> omega
      subst j1
      dsimp only
      rw [bds, bds, q_nS, q_nS, g_wl]
      by_cases h0 : g_wy K pl k = 0
      · rw [if_pos (by rw [h0]; decide), if_pos h0, List.append_nil]
        exact Wp_s ⟨_, rfl, rfl, rfl, j2⟩
      · rw [if_neg (by rw [q_n0, q_nLe (by omega) (by omega)]; omega), if_neg h0, List.length_append]
        exact Wp_s ⟨_, rfl, rfl, rfl, j2⟩)
    (by
      rintro ⟨x, y, τ⟩ ⟨i1, i2, i3⟩
      dsimp only at i1 i2 i3
      subst i1; subst i2
      refine ⟨(q_n (g_wl K pl N).length, τ), ?_, rfl, i3⟩
      show f_X12_ways_B9 P m _ (q_n N) τ = _
      unfold f_X12_ways_B9
      rw [bd (am_gI (RS_M i3 hM)), i3.1.2.1, q_sh1 ⟨kB K, by omega⟩, if_pos (by dsimp only; rw [← hN, q_nLe (by omega) (by omega)]; omega)])
    N 0 ((0 : Int32), (0 : Int32), σ) (mpN P) (by omega) ⟨rfl, rfl, h⟩ (by omega)
  exact ⟨r, er, hr⟩
end FKA
