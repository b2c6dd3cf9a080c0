/-! ===== fg: runs of looks and moves, both ===== -/
section FGA
variable {M : BV} {P : mx_P} {σ σ0 σ1 σ' : mx_S} {l m : Nat} {E E' : Nat → BV} {K : LK} {pl pl0 pl' mk : Nat → Nat} {w wy p i k : Nat} {β : Type} {Q : β → Prop}
/-- signs go no further than the marks -/
def kW (K : LK) : Prop := ∀ p, p < kN K → kK K p = 2 ∨ kK K p = 3 → kS K p < 2 + kB K
theorem sg_wm {s b : Nat} (h : s < 2 + b) : g_sg s (w % 2 ^ b) = g_sg s w := by
  unfold g_sg
  by_cases h0 : s = 0
  · rw [if_pos h0, if_pos h0]
  · rw [if_neg h0, if_neg h0]
    by_cases h1 : s = 1
    · rw [if_pos h1, if_pos h1]
    · rw [if_neg h1, if_neg h1, Nat.testBit_mod_two_pow]
      rw [decide_eq_true (show s - 2 < b by omega), Bool.true_and]
theorem S_wm (hT : kT K) (hW : kW K) : ∀ i, i < kN K → s_S K pl (w % 2 ^ kB K) (kQ K i) = s_S K pl w (kQ K i) := by
  intro i
  induction i using Nat.strongRecOn with
  | _ i ih =>
    intro hi
    obtain ⟨a1, a2, a3⟩ := hT.2.2.1 i hi
    rw [s_fx hT a1, s_fx hT a1]
    have hpar : ∀ j, j < g_np (kK K (kQ K i)) → s_S K pl (w % 2 ^ kB K) (kA K (kQ K i) j) = s_S K pl w (kA K (kQ K i) j) := by
      intro j hj
      obtain ⟨i', r1, r2⟩ := a3 j hj
      rw [← r2]; exact ih i' r1 (by omega)
    have hg : g_pt K pl (w % 2 ^ kB K) (fun q => (s_S K pl (w % 2 ^ kB K) q).2) (kQ K i) = g_pt K pl w (fun q => (s_S K pl w q).2) (kQ K i) := by
      have hc : kK K (kQ K i) = 0 ∨ kK K (kQ K i) = 1 ∨ kK K (kQ K i) = 2 ∨ kK K (kQ K i) = 3 ∨ kK K (kQ K i) = 4 ∨ kK K (kQ K i) = 5 := by omega
      rcases hc with c | c | c | c | c | c
      · rw [g_pt_0 c, g_pt_0 c]
      · rw [g_pt_1 c, g_pt_1 c, hpar 0 (by rw [c]; decide)]
      · rw [g_pt_2 c, g_pt_2 c, sg_wm (hW _ a1 (Or.inl c)), hpar 0 (by rw [c]; decide), hpar 1 (by rw [c]; decide)]
      · rw [g_pt_3 c, g_pt_3 c, sg_wm (hW _ a1 (Or.inr c)), hpar 0 (by rw [c]; decide), hpar 1 (by rw [c]; decide), hpar 2 (by rw [c]; decide)]
      · rw [g_pt_4 c, g_pt_4 c, hpar 0 (by rw [c]; decide), hpar 1 (by rw [c]; decide)]
      · rw [g_pt_5 c, g_pt_5 c, hpar 0 (by rw [c]; decide), hpar 1 (by rw [c]; decide), hpar 2 (by rw [c]; decide), hpar 3 (by rw [c]; decide)]
    unfold s_pt
    rw [hg]
theorem S_wm' (hT : kT K) (hW : kW K) (hp : p < kN K) : s_S K pl (w % 2 ^ kB K) p = s_S K pl w p := by
  obtain ⟨i, hi, rfl⟩ := hT.2.2.2.2 p hp
  exact S_wm hT hW i hi
theorem any_wm (hT : kT K) (hW : kW K) (f : Nat → Bool) : ∀ n, n ≤ kN K → g_any K pl (w % 2 ^ kB K) f n = g_any K pl w f n
  | 0, _ => rfl
  | n + 1, h => by rw [g_any, g_any, any_wm hT hW f n (by omega), S_wm hT hW n (by omega)]
theorem wy_wm (hT : kT K) (hW : kW K) : g_wy K pl (w % 2 ^ kB K) = g_wy K pl w := by
  unfold g_wy; rw [any_wm hT hW _ _ (Nat.le_refl _), any_wm hT hW _ _ (Nat.le_refl _)]
theorem CF_W (hC : CF σ l K pl mk) : kW K := fun p hp hk => ((hC.2.2.2.2 p hp).2.2.2.2.1 hk).2.1
/-- the class: all but places, boxes and marks is as in σ0 -/
def CFr (l : Nat) (σ0 σ : mx_S) : Prop := mxA σ = mxA σ0 ∧ mxR σ = mxR σ0 ∧ (mxz σ = mxz σ0 ∧ mxu σ = mxu σ0) ∧ (∀ q j, ¬ bx σ0 l q → ¬ Lc l q j → q ≠ l + 643 → ¬ (q = l ∧ j = 10) → mxI σ q j = mxI σ0 q j) ∧ ∀ q j, ¬ bx σ0 l q → mxL σ q j = mxL σ0 q j
def CS (M : BV) (l : Nat) (K : LK) (mk : Nat → Nat) (σ0 : mx_S) (pl0 pl : Nat → Nat) (σ : mx_S) : Prop := (∃ E wy, LZ M l K pl mk E wy σ) ∧ CFr l σ0 σ ∧ (mxI σ l 10 = 0 ∨ (mxI σ l 10 = mxI σ0 l 10 ∧ pl = pl0))
theorem CFr.rf : CFr l σ σ := ⟨rfl, rfl, ⟨rfl, rfl⟩, fun _ _ _ _ _ _ => rfl, fun _ _ _ => rfl⟩
theorem CFr.tr (h1 : CFr l σ0 σ) (h2 : CFr l σ σ') : CFr l σ0 σ' := by
  obtain ⟨a1, a2, a3, a4, a5⟩ := h1
  obtain ⟨b1, b2, b3, b4, b5⟩ := h2
  have hb : ∀ q, bx σ l q ↔ bx σ0 l q := fun q => bx_A a1
  exact ⟨b1.trans a1, b2.trans a2, ⟨b3.1.trans a3.1, b3.2.trans a3.2⟩, fun q j c1 c2 c3 c4 => (b4 q j (fun z => c1 ((hb q).mp z)) c2 c3 c4).trans (a4 q j c1 c2 c3 c4), fun q j c1 => (b5 q j (fun z => c1 ((hb q).mp z))).trans (a5 q j c1)⟩
theorem CS_L (h : CS M l K mk σ0 pl0 pl σ) (hL : LyL (mxA σ0) (mxR σ0) l) : LyL (mxA σ) (mxR σ) l := by rw [h.2.1.1, h.2.1.2.1]; exact hL
theorem cs_move (hf : 100 ≤ mpN P) (hL : LyL (mxA σ0) (mxR σ0) l) (hp : mpb P ≤ l) (hT : kT K) (h : CS M l K mk σ0 pl0 pl σ) (hi : i < 4) (hk : k < 1024) : Wp (f_X7_moveTo P l (q_n i) (q_n k) σ) (CS M l K mk σ0 pl0 (upl pl i k)) := by
  have hL' := CS_L h hL
  obtain ⟨⟨E, wy, hz⟩, hc, hl⟩ := h
  refine Wp_mo (c_move hf hL' hp hT hz hi hk) ?_
  rintro τ ⟨⟨E', h1⟩, ⟨m1, m2, m3, m4, m5⟩, h3⟩
  refine ⟨⟨E', wy, h1⟩, hc.tr ⟨m1, m2, m3, fun q j c1 c2 c3 c4 => m4 q j c1 c2 (fun z => c3 z.1) c4, m5⟩, ?_⟩
  rw [h3]
  by_cases e : pl i = k
  · rw [if_pos e]
    have : upl pl i k = pl := by
      funext j; unfold upl; split
      · rename_i z; rw [z, e]
      · rfl
    rw [this]; exact hl
  · rw [if_neg e]; exact Or.inl rfl
/-- a look -/
def LoQ (M : BV) (l : Nat) (K : LK) (mk : Nat → Nat) (σ0 : mx_S) (pl0 pl : Nat → Nat) (w : Nat) (so : Bool) : Int32 × mx_S → Prop := fun r => CS M l K mk σ0 pl0 pl r.2 ∧ (r.1 = 0 ∨ r.1 = 1 ∨ r.1 = 3) ∧ (r.1 = 0 ↔ g_wy K pl w = 1) ∧ (so = false → (r.1 = 3 ↔ g_wy K pl w = 0)) ∧ (r.1 = 0 ∨ (so = false ∧ r.1 ≠ 3) → ∃ E' wy', LZ M l K pl mk E' wy' r.2 ∧ ∀ p, p < kN K → mxI r.2 (l + 2 + 16 * p) 15 = q_n (s_S K pl w p).1 ∧ v_N (eA E' l p) = (s_S K pl w p).2 ∧ (s_S K pl w p).1 ≠ 3 ∧ (kK K p = 1 → (s_S K pl w p).1 = 0 → (E' (l + 2 + 16 * p + 10 + 1), E' (l + 2 + 16 * p + 10 + 2)) = k_aim K pl p))
theorem cs_look (so : Bool) (hf : 100 ≤ mpN P) (hL : LyL (mxA σ0) (mxR σ0) l) (hp : mpb P ≤ l) (hT : kT K) (h : CS M l K mk σ0 pl0 pl σ) (hw : w < 256) : Wp (f_X7_look P l (q_n w) (bI so) σ) (LoQ M l K mk σ0 pl0 pl w so) := by
  have hL' := CS_L h hL
  obtain ⟨⟨E, wy, hz⟩, hc, hl⟩ := h
  have hW := CF_W hz.1
  refine Wp_mo (c_look hf hL' hp hT so hz hw) ?_
  rintro ⟨r, τ⟩ ⟨E', a1, a2, a3, a4, a5⟩
  dsimp only at a1 a2 a3 a4 a5
  have hZ := LZ_of hL' hT hz.1 a1
  rw [wy_wm hT hW] at a3 a4
  have nl10 : ¬ Lc l l 10 := by rintro (⟨p, h1, h2, h3⟩ | ⟨h1, h2⟩) <;> omega
  refine ⟨⟨⟨E', _, hZ⟩, hc.tr ⟨a1.1.1, a1.1.2.1, a1.1.2.2.1, fun q j c1 c2 _ _ => a1.1.2.2.2.1 q j c1 c2, a1.1.2.2.2.2.1⟩, ?_⟩, a2, a3, a4, fun z => ⟨E', _, hZ, fun p hp => ?_⟩⟩
  · dsimp only
    rw [a1.1.2.2.2.1 l 10 (nb_o hL') nl10]; exact hl
  · obtain ⟨b1, b2⟩ := a5 z p hp
    obtain ⟨o1, o2⟩ := b1
    rw [S_wm' hT hW hp] at o1 o2 b2
    exact ⟨o1, (o2 b2).1, b2, (o2 b2).2⟩
/-! the reference -/
def HZ (m : Nat) (E : Nat → BV) (σ : mx_S) : Prop := ∀ d, d < 320 → RR (rr σ m d) (E d)
def RFr (m : Nat) (σ0 σ : mx_S) : Prop := mxA σ = mxA σ0 ∧ mxR σ = mxR σ0 ∧ (mxz σ = mxz σ0 ∧ mxu σ = mxu σ0) ∧ (∀ q j, q ≠ m + 4 → q ≠ m + 18 → q ≠ m + 35 → (q = m → j ≠ 54 ∧ j ≠ 55) → mxI σ q j = mxI σ0 q j) ∧ ∀ q j, q ≠ m + 2 → q ≠ m + 3 → mxL σ q j = mxL σ0 q j
theorem RFr.rf : RFr m σ σ := ⟨rfl, rfl, ⟨rfl, rfl⟩, fun _ _ _ _ _ _ => rfl, fun _ _ _ _ => rfl⟩
theorem RFr.tr (h1 : RFr m σ0 σ) (h2 : RFr m σ σ') : RFr m σ0 σ' := by
  obtain ⟨a1, a2, a3, a4, a5⟩ := h1
  obtain ⟨b1, b2, b3, b4, b5⟩ := h2
  exact ⟨b1.trans a1, b2.trans a2, ⟨b3.1.trans a3.1, b3.2.trans a3.2⟩, fun q j c1 c2 c3 c4 => (b4 q j c1 c2 c3 c4).trans (a4 q j c1 c2 c3 c4), fun q j c1 c2 => (b5 q j c1 c2).trans (a5 q j c1 c2)⟩
theorem RK_of {pl1 : Nat → Nat} (hT : kT K) (h : RK σ m K pl) (hI : ∀ q j, q ≠ m + 4 → q ≠ m + 18 → q ≠ m + 35 → (q = m → j ≠ 54 ∧ j ≠ 55) → mxI σ' q j = mxI σ q j) (hLL : ∀ q j, q ≠ m + 2 → q ≠ m + 3 → mxL σ' q j = mxL σ q j) (hp : ∀ i, i < 4 → mxI σ' (m + 18) i = q_n (pl1 i) ∧ pl1 i < 1024) : RK σ' m K pl1 := by
  obtain ⟨a1, a2, a3, a4, a5⟩ := h
  refine ⟨?_, ?_, fun i hi => ?_, hp, fun p hpp => ?_⟩
  · rw [hI _ _ (by omega) (by omega) (by omega) (fun _ => by decide)]; exact a1
  · rw [hI _ _ (by omega) (by omega) (by omega) (fun _ => by decide)]; exact a2
  · rw [hI _ _ (by omega) (by omega) (by omega) (fun z => by omega)]; exact a3 i hi
  · obtain ⟨c1, c2, c3, c4, c5, c6⟩ := a5 p hpp
    have e : ∀ q j, m + 4 < q → q ≠ m + 18 → q ≠ m + 35 → mxI σ' q j = mxI σ q j := fun q j d1 d2 d3 => hI q j (by omega) d2 d3 (fun z => by omega)
    have f : ∀ q j, m + 3 < q → mxL σ' q j = mxL σ q j := fun q j d1 => hLL q j (by omega) (by omega)
    refine ⟨?_, fun j hj => ?_, fun hk => ?_, fun hk => ?_, fun hk => ?_, fun hk => ?_⟩
    · rw [e _ _ (by omega) (by omega) (by omega)]; exact c1
    · rw [e _ _ (by omega) (by omega) (by omega)]; exact c2 j hj
    · rw [f _ _ (by omega), f _ _ (by omega)]; exact c3 hk
    · rw [f _ _ (by omega), f _ _ (by omega)]; exact c4 hk
    · rw [e _ _ (by omega) (by omega) (by omega), e _ _ (by omega) (by omega) (by omega), e _ _ (by omega) (by omega) (by omega), f _ _ (by omega), f _ _ (by omega)]; exact c5 hk
    · rw [e _ _ (by omega) (by omega) (by omega)]; exact c6 hk
def RS (m : Nat) (K : LK) (σ0 : mx_S) (pl : Nat → Nat) (σ : mx_S) : Prop := RK σ m K pl ∧ (∃ E, HZ m E σ) ∧ RFr m σ0 σ
theorem RS_M (h : RS m K σ0 pl σ) (hM : LyM σ0 m) : LyM σ m := by unfold LyM; rw [h.2.2.1, h.2.2.2.1]; exact hM
theorem rr_sI {q j d : Nat} {x : Int32} (h : q ≠ m + 4) : rr (mx_setI σ q j x) m d = rr σ m d := by
  unfold rr; rw [q_II, if_neg (fun z => h z.1.symm)]; rfl
theorem rs_set (hM : LyM σ0 m) (hp : mpb P ≤ m) (hT : kT K) (h : RS m K σ0 pl σ) (hi : i < 4) (hk : k < 1024) : Wp (ms_I P σ (m + 18) 0 (q_n i) (q_n k)) (RS m K σ0 (upl pl i k)) := by
  have hM' := RS_M h hM
  obtain ⟨hK, ⟨E, hE⟩, hF⟩ := h
  have hI : ∀ q j, q ≠ m + 4 → q ≠ m + 18 → q ≠ m + 35 → (q = m → j ≠ 54 ∧ j ≠ 55) → mxI (mx_setI σ (m + 18) i (q_n k)) q j = mxI σ q j := fun q j c1 c2 c3 c4 => by rw [q_II, if_neg (fun z => c2 z.1)]
  rw [am_s34 hM' hp hi]
  refine Wp_s ⟨RK_of hT hK hI (fun _ _ _ _ => rfl) fun j hj => ?_, ⟨E, fun d hd => by rw [rr_sI (by omega)]; exact hE d hd⟩, hF.tr ⟨rfl, rfl, ⟨rfl, rfl⟩, hI, fun _ _ _ _ => rfl⟩⟩
  unfold upl
  by_cases e : j = i
  · subst e; rw [q_II, if_pos ⟨rfl, rfl⟩, if_pos rfl]; exact ⟨rfl, hk⟩
  · rw [q_II, if_neg (by omega), if_neg e]; exact hK.2.2.2.1 j hj
/-- a way worked out -/
def WoQ (m : Nat) (K : LK) (σ0 : mx_S) (pl : Nat → Nat) (w : Nat) : Int32 × mx_S → Prop := fun r => r.1 = q_n (g_wy K pl w) ∧ RS m K σ0 pl r.2 ∧ (g_wy K pl w ≠ 0 → ∃ E', HZ m E' r.2 ∧ ∀ p, p < kN K → v_N (eR E' p) = (s_S K pl w p).2)
theorem rs_work3 (hf : 100 ≤ mpN P) (hM : LyM σ0 m) (hp : mpb P ≤ m) (hT : kT K) (h : RS m K σ0 pl σ) (hw : w < 256) : Wp (f_X12_worked P m (q_n w) σ) (fun r => (WoQ m K σ0 pl w r ∧ ∀ j, mxI r.2 (m + 35) j = mxI σ (m + 35) j) ∧ ∃ fn fd, mxI r.2 m 54 = bI fn ∧ mxI r.2 m 55 = bI fd) := by
  have hM' := RS_M h hM
  obtain ⟨hK, ⟨E, hE⟩, hF⟩ := h
  -- the marks may hold anything at first
  have hI0 : ∀ q j, q ≠ m + 4 → q ≠ m + 18 → q ≠ m + 35 → (q = m → j ≠ 54 ∧ j ≠ 55) → mxI (mx_setI (mx_setI σ m 54 0) m 55 0) q j = mxI σ q j := fun q j c1 c2 c3 c4 => by
    rw [q_II, if_neg (fun z => (c4 z.1).2 z.2), q_II, if_neg (fun z => (c4 z.1).1 z.2)]
  have hK1 : RK (mx_setI (mx_setI σ m 54 0) m 55 0) m K pl := RK_of hT hK hI0 (fun _ _ _ _ => rfl) fun j hj => by rw [q_II, if_neg (by omega), q_II, if_neg (by omega)]; exact hK.2.2.2.1 j hj
  have hH : H (mx_setI (mx_setI σ m 54 0) m 55 0) m E false false (mx_setI (mx_setI σ m 54 0) m 55 0) := by
    refine ⟨rfl, rfl, ⟨rfl, rfl⟩, fun _ _ _ _ => rfl, fun _ _ _ _ => rfl, fun d hd => ?_, ?_, ?_⟩
    · rw [rr_sI (by omega), rr_sI (by omega)]; exact hE d hd
    · rw [q_II, if_neg (by omega), q_II, if_pos ⟨rfl, rfl⟩]; rfl
    · rw [q_II, if_pos ⟨rfl, rfl⟩]; rfl
  have key := r_worked (P := P) (σ0 := mx_setI (mx_setI σ m 54 0) m 55 0) hf hH hM' hp hK1 hT hw
  have e : f_X12_worked P m (q_n w) (mx_setI (mx_setI σ m 54 0) m 55 0) = f_X12_worked P m (q_n w) σ := by
    have s1 : mx_setI (mx_setI (mx_setI (mx_setI σ m 54 0) m 55 0) m 54 0) m 55 0 = mx_setI (mx_setI σ m 54 0) m 55 0 := by
      refine S_ext rfl ?_ rfl rfl rfl rfl
      funext q j
      simp only [q_II]
      split
      · rfl
      · split <;> rfl
    unfold f_X12_worked
    rw [bd (am_pZ (σ := mx_setI (mx_setI σ m 54 0) m 55 0) hM' hp (Or.inl rfl)), bd (am_pZ (σ := mx_setI (mx_setI (mx_setI σ m 54 0) m 55 0) m 54 0) hM' hp (Or.inl rfl)), bd (am_pZ hM' hp (Or.inl rfl)), bd (am_pZ (σ := mx_setI σ m 54 0) hM' hp (Or.inl rfl)), s1]
  rw [e] at key
  refine Wp_mo key ?_
  rintro ⟨r, τ⟩ ⟨k1, E', fn', fd', h1, h2, h3⟩
  dsimp only at k1 h1
  have hI : ∀ q j, q ≠ m + 4 → q ≠ m + 18 → q ≠ m + 35 → (q = m → j ≠ 54 ∧ j ≠ 55) → mxI τ q j = mxI σ q j := fun q j c1 c2 c3 c4 => (h1.2.2.2.1 q j c1 c4).trans (hI0 q j c1 c2 c3 c4)
  have hLL : ∀ q j, q ≠ m + 2 → q ≠ m + 3 → mxL τ q j = mxL σ q j := h1.2.2.2.2.1
  refine ⟨⟨⟨k1, ⟨RK_of hT hK hI hLL fun j hj => ?_, ⟨E', h1.2.2.2.2.2.1⟩, hF.tr ⟨h1.1, h1.2.1, h1.2.2.1, hI, hLL⟩⟩, fun z => ⟨E', h1.2.2.2.2.2.1, h2 z⟩⟩, fun j => by
    show mxI τ (m + 35) j = _
    rw [h1.2.2.2.1 _ _ (by omega) (fun z => by omega), q_II, if_neg (by omega), q_II, if_neg (by omega)]⟩, fn', fd', h1.2.2.2.2.2.2⟩
  show mxI τ (m + 18) j = _ ∧ _
  rw [h1.2.2.2.1 _ _ (by omega) (fun z => by omega), q_II, if_neg (by omega), q_II, if_neg (by omega)]
  exact hK.2.2.2.1 j hj
theorem rs_work2 (hf : 100 ≤ mpN P) (hM : LyM σ0 m) (hp : mpb P ≤ m) (hT : kT K) (h : RS m K σ0 pl σ) (hw : w < 256) : Wp (f_X12_worked P m (q_n w) σ) (fun r => WoQ m K σ0 pl w r ∧ ∀ j, mxI r.2 (m + 35) j = mxI σ (m + 35) j) := Wp_mo (rs_work3 hf hM hp hT h hw) fun _ h => h.1
theorem rs_work (hf : 100 ≤ mpN P) (hM : LyM σ0 m) (hp : mpb P ≤ m) (hT : kT K) (h : RS m K σ0 pl σ) (hw : w < 256) : Wp (f_X12_worked P m (q_n w) σ) (WoQ m K σ0 pl w) := Wp_mo (rs_work2 hf hM hp hT h hw) fun _ h => h.1
end FGA
