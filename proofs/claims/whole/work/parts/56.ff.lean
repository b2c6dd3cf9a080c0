/-! ===== ff: look and move, whole ===== -/
section FFA
variable {M : BV} {P : mx_P} {σ σ0 σ1 σ' : mx_S} {l : Nat} {E E' : Nat → BV} {K : LK} {pl pl' mk : Nat → Nat} {w wy p : Nat} {β : Type} {Q : β → Prop}
theorem q_and (a b : Nat) : q_n a &&& q_n b = q_n (a &&& b) := by
  rw [← Int32.toBitVec_inj]
  show BitVec.ofNat 32 a &&& BitVec.ofNat 32 b = BitVec.ofNat 32 (a &&& b)
  rw [BitVec.ofNat_and]
theorem q_xor (a b : Nat) : q_n a ^^^ q_n b = q_n (a ^^^ b) := by
  rw [← Int32.toBitVec_inj]
  show BitVec.ofNat 32 a ^^^ BitVec.ofNat 32 b = BitVec.ofNat 32 (a ^^^ b)
  rw [BitVec.ofNat_xor]
theorem q_wm : ∀ b : Fin 9, ∀ w : Fin 256, (q_n w.1 &&& (((1 : Int32) <<< (q_n b.1 &&& 31)) - (1 : Int32))) = q_n (w.1 % 2 ^ b.1) := by decide +kernel
theorem q_256 : ∀ i : Fin 4, ((256 : Int32) <<< (q_n i.1 &&& 31)) = q_n (2 ^ (8 + i.1)) := by decide +kernel
theorem and0 {a b : Nat} (ha : a < 4096) (h : q_n a &&& q_n b = 0) (i : Nat) : a.testBit i = true → b.testBit i = false := by
  rw [q_and, q_n0, q_nI (by have := Nat.and_le_left (n := a) (m := b); omega) (by omega)] at h
  intro hi
  have := congrArg (fun x => x.testBit i) h
  simp only [Nat.testBit_and, hi, Bool.true_and, Nat.zero_testBit] at this
  exact this
/-- a linkage that stands by itself -/
def LZ (M : BV) (l : Nat) (K : LK) (pl mk : Nat → Nat) (E : Nat → BV) (wy : Nat) (σ : mx_S) : Prop := CF σ l K pl mk ∧ LSt M σ l K pl E wy σ
theorem LL_rb (h : LL σ0 l E σ) : LL σ l E σ := ⟨rfl, rfl, ⟨rfl, rfl⟩, fun _ _ _ _ => rfl, fun _ _ _ => rfl, fun q hq => h.2.2.2.2.2 q ((bx_A h.1).mp hq)⟩
theorem LZ_of (hL : LyL (mxA σ0) (mxR σ0) l) (hT : kT K) (hC : CF σ0 l K pl mk) (h : LSt M σ0 l K pl E wy σ) : LZ M l K pl mk E wy σ := ⟨CF_of hL hT hC h.1, LL_rb h.1, h.2⟩
theorem okP_S {pl1 pl2 : Nat → Nat} {w1 w2 : Nat} (e : s_S K pl1 w1 p = s_S K pl2 w2 p) (ea : kK K p = 1 → k_aim K pl1 p = k_aim K pl2 p) (h : okP σ E l K pl1 w1 p) : okP σ E l K pl2 w2 p := by
  unfold okP at *
  rw [← e]
  exact ⟨h.1, fun h3 => ⟨(h.2 h3).1, fun hk h0 => by rw [← ea hk]; exact (h.2 h3).2 hk h0⟩⟩
theorem w_mod {b : Nat} (hb : b ≤ 8) : w % 2 ^ b < 256 := by
  have h1 : w % 2 ^ b < 2 ^ b := Nat.mod_lt _ (Nat.two_pow_pos b)
  have h2 : 2 ^ b ≤ 2 ^ 8 := Nat.pow_le_pow_right (by omega) hb
  omega
theorem xor256 {a b : Nat} (ha : a < 256) (hb : b < 256) : a ^^^ b < 256 := Nat.xor_lt_two_pow (n := 8) ha hb
theorem c_look (hf : 100 ≤ mpN P) (hL : LyL (mxA σ) (mxR σ) l) (hp : mpb P ≤ l) (hT : kT K) (so : Bool) (hs : LZ M l K pl mk E wy σ) (hw : w < 256) : Wp (f_X7_look P l (q_n w) (bI so) σ) (LkQ M σ l K pl (w % 2 ^ kB K) so) := by
  obtain ⟨hC, hl, hE, h6, hwy, hF⟩ := hs
  have hb8 := hT.2.1
  have hw2 := w_mod (w := w) hb8
  have e3 := q_wm ⟨kB K, by omega⟩ ⟨w, hw⟩
  dsimp only at e3
  unfold f_X7_look
  rw [bd (al_gI hL), hC.2.1, e3, bds, bd (al_gI hL), h6]
  generalize w % 2 ^ kB K = v at *
  by_cases hv : v = wy
  · subst hv
    rw [if_pos rfl]
    exact c_lookD hf hL hp hT hC so ⟨hl, hE, h6, hwy, hF⟩
  · rw [if_neg (fun z => hv (by rw [q_nI (by omega) (by omega)] at z; exact z)), bd (al_gI hL), h6, bd (al_is hL), q_xor]
    have hx := xor256 hw2 hwy
    refine Wp_b (Wp_mo (c_touch hf hL hp hT hC hl (by omega)) ?_)
    rintro τ ⟨t1, t2, t3⟩
    rw [bd (q_pI (by rw [t1.1]; exact LyL_o hL) hp _)]
    refine c_lookD hf hL hp hT hC so ⟨LL_set t1 (Or.inr ⟨rfl, rfl⟩) (nb_o hL), hE, by rw [q_II, if_pos ⟨rfl, rfl⟩], hw2, fun p hpp => ?_⟩
    have hn := hT.1
    rw [q_II, if_neg (by omega), (t3 p hpp).2]
    by_cases hm : q_n (mk p) &&& q_n (v ^^^ wy) = 0
    · rw [if_pos hm]
      refine ⟨(hF p hpp).1, fun z => ?_⟩
      have ok := (hF p hpp).2 z
      obtain ⟨i, hi, rfl⟩ := hT.2.2.2.2 p hpp
      have hmk := (hC.2.2.2.2 _ hpp).2.2.2.2.2.2.1
      have eS := S_mask (pl := pl) (pl' := pl) hT hC hw2 hwy (fun _ _ _ => trivial) i hi (fun b hb hbit => by
        have := and0 hmk hm b hbit
        rw [Nat.testBit_xor] at this
        cases h1 : v.testBit b <;> cases h2 : wy.testBit b <;> rw [h1, h2] at this <;> first | rfl | cases this) (fun _ _ _ => rfl)
      have := okP_S eS.symm (fun _ => rfl) ok
      exact ⟨by rw [q_II, if_neg (by omega), (t3 _ hpp).1]; exact this.1, this.2⟩
    · rw [if_neg hm]; exact ⟨Or.inl rfl, fun z => absurd z (by decide)⟩
/-- what else stays when an input is moved -/
def MF (l i : Nat) (σ τ : mx_S) : Prop := mxA τ = mxA σ ∧ mxR τ = mxR σ ∧ (mxz τ = mxz σ ∧ mxu τ = mxu σ) ∧ (∀ q j, ¬ bx σ l q → ¬ Lc l q j → ¬ (q = l + 643 ∧ j = i) → ¬ (q = l ∧ j = 10) → mxI τ q j = mxI σ q j) ∧ ∀ q j, ¬ bx σ l q → mxL τ q j = mxL σ q j
def upl (pl : Nat → Nat) (i k : Nat) : Nat → Nat := fun j => if j = i then k else pl j
theorem c_move {i k : Nat} (hf : 100 ≤ mpN P) (hL : LyL (mxA σ) (mxR σ) l) (hp : mpb P ≤ l) (hT : kT K) (hs : LZ M l K pl mk E wy σ) (hi : i < 4) (hk : k < 1024) : Wp (f_X7_moveTo P l (q_n i) (q_n k) σ) (fun τ => (∃ E', LZ M l K (upl pl i k) mk E' wy τ) ∧ MF l i σ τ ∧ mxI τ l 10 = (if pl i = k then mxI σ l 10 else 0)) := by
  obtain ⟨hC, hl, hE, h6, hwy, hF⟩ := hs
  obtain ⟨a1, a2, a3, a4, a5⟩ := hC
  have hn := hT.1
  unfold f_X7_moveTo
  rw [bd (al_r4 hL), bd (al_g4 hL hi), (a4 i hi).1]
  by_cases hc : pl i = k
  · rw [if_pos (by rw [hc])]
    have : upl pl i k = pl := by
      funext j; unfold upl; split
      · rename_i e; rw [e, hc]
      · rfl
    exact Wp_s ⟨⟨E, by rw [this]; exact ⟨⟨a1, a2, a3, a4, a5⟩, hl, hE, h6, hwy, hF⟩⟩, ⟨rfl, rfl, ⟨rfl, rfl⟩, fun _ _ _ _ _ _ => rfl, fun _ _ _ => rfl⟩, by rw [if_pos hc]⟩
  · have h2 := (a4 i hi).2
    rw [if_neg (fun z => hc (by rw [q_nI (by omega) (by omega)] at z; exact z)), bd (al_r4 hL), bd (al_s4 hL hp hi _)]
    -- the state with the new place
    have nb3 := nb_p hL
    have g1 : G (mx_setI σ (l + 643) i (q_n k)) l E (mx_setI σ (l + 643) i (q_n k)) := by
      refine ⟨rfl, rfl, ⟨rfl, rfl⟩, fun _ _ _ => ⟨rfl, rfl⟩, fun q hq => ?_⟩
      have hq : bx σ l q := hq
      have : rd (mx_setI σ (l + 643) i (q_n k)) q = rd σ q := by
        have hne : q ≠ l + 643 := fun z => nb3 (z ▸ hq)
        unfold rd; rw [q_II, if_neg (fun z => hne z.1)]; rfl
      rw [this]; exact hl.2.2.2.2.2 q hq
    have hL1 : LyL (mxA (mx_setI σ (l + 643) i (q_n k))) (mxR (mx_setI σ (l + 643) i (q_n k))) l := hL
    refine w_gR g1 (LyL_o hL1) (LyL_r5 hL1) (w_am g1 hL1 hi ?_)
    have pm := mx_of hL1 hi
    refine w_pis g1 pm (w_dir g1 hp pm hk fun σ2 g2 => ?_)
    have hL2 : LyL (mxA σ2) (mxR σ2) l := by rw [g2.1, g2.2.1]; exact hL
    rw [bd (al_pZ hL2 hp (Or.inl rfl)), bd (al_is (σ := mx_setI σ2 l 10 0) hL2), q_256 ⟨i, hi⟩]
    -- the new base
    have cell2 : ∀ q j, ¬ bx σ l q → ¬ (q = l ∧ j = 10) → ¬ (q = l + 643 ∧ j = i) → mxI (mx_setI σ2 l 10 0) q j = mxI σ q j := by
      intro q j hq h10 h643
      rw [q_II, if_neg h10, (g2.2.2.2.1 q j hq).1, q_II, if_neg h643]
    have cellL : ∀ q j, ¬ bx σ l q → mxL (mx_setI σ2 l 10 0) q j = mxL σ q j := fun q j hq => (g2.2.2.2.1 q j hq).2
    have hl2 : LL (mx_setI σ2 l 10 0) l (up (up E (l + 645 + 3 * i + 1) (g_D k).1) (l + 645 + 3 * i + 2) (g_D k).2) (mx_setI σ2 l 10 0) := by
      refine ⟨rfl, rfl, ⟨rfl, rfl⟩, fun _ _ _ _ => rfl, fun _ _ _ => rfl, fun q hq => ?_⟩
      have hq : bx σ2 l q := hq
      have hne : q ≠ l := fun z => nb_o hL2 (z ▸ hq)
      have : rd (mx_setI σ2 l 10 0) q = rd σ2 q := by unfold rd; rw [q_II, if_neg (fun z => hne z.1)]; rfl
      rw [this]; exact g2.2.2.2.2 q ((bx_A (σ := σ2) (σ0 := mx_setI σ (l + 643) i (q_n k)) g2.1).mp hq)
    have hC2 : CF (mx_setI σ2 l 10 0) l K (upl pl i k) mk := by
      refine ⟨?_, ?_, fun j hj => ?_, fun j hj => ?_, fun p hpp => ?_⟩
      · rw [cell2 _ _ (nb_o hL) (by omega) (by omega)]; exact a1
      · rw [cell2 _ _ (nb_o hL) (by omega) (by omega)]; exact a2
      · rw [cell2 _ _ (nb_q hL) (by omega) (by omega)]; exact a3 j hj
      · unfold upl
        by_cases hji : j = i
        · subst hji
          rw [if_pos rfl, q_II, if_neg (by omega), (g2.2.2.2.1 _ _ nb3).1, q_II, if_pos ⟨rfl, rfl⟩]; exact ⟨rfl, hk⟩
        · rw [if_neg hji, cell2 _ _ (nb_p hL) (by omega) (by omega)]; exact a4 j hj
      · have hp4 : p < 40 := by omega
        have hj := nb_j hL hp4
        obtain ⟨c1, c2, c3, c4, c5, c6, c7, c8⟩ := a5 p hpp
        refine ⟨?_, ?_, fun j hjj => ?_, fun hk => ?_, fun hk => ?_, ?_, c7, c8⟩
        · rw [cell2 _ _ hj (by omega) (by omega)]; exact c1
        · rw [cell2 _ _ hj (by omega) (by omega)]; exact c2
        · rw [cell2 _ _ (nb_n hL hp4) (by omega) (by omega)]; exact c3 j hjj
        · rw [cell2 _ _ hj (by omega) (by omega), cell2 _ _ hj (by omega) (by omega)]; exact c4 hk
        · rw [cell2 _ _ hj (by omega) (by omega), cell2 _ _ hj (by omega) (by omega)]; exact c5 hk
        · rw [cell2 _ _ hj (by omega) (by omega)]; exact c6
    have hE2 : CE M (up (up E (l + 645 + 3 * i + 1) (g_D k).1) (l + 645 + 3 * i + 2) (g_D k).2) l K (upl pl i k) := by
      refine ⟨⟨by rw [up_n (by omega), up_n (by omega)]; exact hE.1.1, fun j hj => ?_⟩, fun p hpp => ?_⟩
      · unfold eM upl
        by_cases hji : j = i
        · subst hji; rw [if_pos rfl, up_n (by omega), up_e, up_e]
        · rw [if_neg hji, up_n (by omega), up_n (by omega), up_n (by omega), up_n (by omega)]; exact hE.1.2 j hj
      · have hp4 : p < 40 := by omega
        obtain ⟨d1, d2, d3⟩ := hE.2 p hpp
        refine ⟨fun hk => ?_, fun hk hk5 => ?_, fun hk => ?_⟩
        · rw [up_n (by omega), up_n (by omega)]; exact d1 hk
        · rw [up_n (by omega), up_n (by omega)]; exact d2 hk hk5
        · rw [up_n (by omega), up_n (by omega), up_n (by omega), up_n (by omega)]; exact d3 hk
    have hb : 2 ^ (8 + i) < 4096 := Nat.pow_lt_pow_right (n := 12) (by omega) (by omega)
    refine Wp_b (Wp_mo (c_touch (σ0 := mx_setI σ2 l 10 0) hf hL2 hp hT hC2 hl2 hb) ?_)
    rintro τ ⟨t1, t2, t3⟩
    have nl10 : ¬ Lc l l 10 := by rintro (⟨p, h1, h2, h3⟩ | ⟨h1, h2⟩) <;> omega
    have hbx : ∀ q, bx (mx_setI σ2 l 10 0) l q ↔ bx σ l q := fun q => bx_A (σ := mx_setI σ2 l 10 0) (σ0 := σ) g2.1
    refine Wp_s ⟨⟨_, CF_of (σ0 := mx_setI σ2 l 10 0) hL2 hT hC2 t1, LL_rb t1, hE2, by rw [t2, cell2 _ _ (nb_o hL) (by omega) (by omega)]; exact h6, hwy, fun p hpp => ?_⟩, ⟨t1.1.trans g2.1, t1.2.1.trans g2.2.1, ⟨t1.2.2.1.1.trans g2.2.2.1.1, t1.2.2.1.2.trans g2.2.2.1.2⟩, fun q j c1 c2 c3 c4 => ?_, fun q j c1 => ?_⟩, ?_⟩
    · have hp4 : p < 40 := by omega
      rw [(t3 p hpp).2]
      by_cases hm : q_n (mk p) &&& q_n (2 ^ (8 + i)) = 0
      · rw [if_pos hm, cell2 _ _ (nb_j hL hp4) (by omega) (by omega)]
        refine ⟨(hF p hpp).1, fun z => ?_⟩
        have ok := (hF p hpp).2 z
        obtain ⟨i', hi', rfl⟩ := hT.2.2.2.2 p hpp
        have hmk := (a5 _ hpp).2.2.2.2.2.2.1
        have hni : (mk (kQ K i')).testBit (8 + i) = false := by
          cases hv : (mk (kQ K i')).testBit (8 + i)
          · rfl
          · have := and0 hmk hm _ hv
            rw [Nat.testBit_two_pow_self] at this; cases this
        have hpl : ∀ j, j < 4 → (mk (kQ K i')).testBit (8 + j) = true → pl j = upl pl i k j := by
          intro j hj hbit
          unfold upl; rw [if_neg]
          intro e; subst e; rw [hni] at hbit; cases hbit
        have eS := S_mask (pl := pl) (pl' := upl pl i k) hT ⟨a1, a2, a3, a4, a5⟩ hwy hwy (fun _ _ _ => trivial) i' hi' (fun _ _ _ => rfl) hpl
        have := okP_S eS (fun hk1 => by
          obtain ⟨-, d2, -, -, -, d6⟩ := (a5 _ hpp).2.2.2.1 hk1
          unfold k_aim; rw [hpl _ d2 d6]) ok
        refine ⟨by rw [(t3 _ hpp).1, cell2 _ _ (nb_j hL hp4) (by omega) (by omega)]; exact this.1, fun h3 => ⟨?_, fun hk1 h0 => ?_⟩⟩
        · have := (this.2 h3).1
          unfold eA at this ⊢
          rw [up_n (by omega), up_n (by omega), up_n (by omega), up_n (by omega)]; exact this
        · have := (this.2 h3).2 hk1 h0
          rw [up_n (by omega), up_n (by omega), up_n (by omega), up_n (by omega)]; exact this
      · rw [if_neg hm]; exact ⟨Or.inl rfl, fun z => absurd z (by decide)⟩
    · rw [t1.2.2.2.1 q j (fun z => c1 ((hbx q).mp z)) c2]; exact cell2 q j c1 c4 c3
    · rw [t1.2.2.2.2.1 q j (fun z => c1 ((hbx q).mp z))]; exact cellL q j c1
    · rw [if_neg hc, t1.2.2.2.1 l 10 (fun z => nb_o hL ((hbx l).mp z)) nl10, q_II, if_pos ⟨rfl, rfl⟩]
end FFA
