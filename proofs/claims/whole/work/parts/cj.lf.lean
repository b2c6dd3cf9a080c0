/-! ===== lf: drives, what they do; the class's steps ===== -/
section LFS
variable {M : BV} {P : mx_P} {σ σ0 σ1 τ : mx_S} {x l l' n k i w t j : Nat} {K : LK} {mk pl pl' : Nat → Nat} {B : LB}
/-- orders: form, input or number, steps, point, upright, limit -/
abbrev OD := Nat → Nat × Nat × Int × Nat × Bool × Int
/-- places, steps, events, way -/
abbrev DS := (Nat → Nat) × Nat × List (Nat × Nat × Nat) × Nat
variable {O : OD} {s : DS}
def rcD (K : LK) (O : OD) (k : Nat) (s : DS) : Bool := decide ((O k).1 = 1 ∧ g_wy K s.1 s.2.2.2 = 1 ∧ (O k).2.2.2.2.2 < b_sd false (v_ax (O k).2.2.2.2.1 (s_S K s.1 s.2.2.2 (O k).2.2.2.1).2))
def evD (O : OD) (k : Nat) (s : DS) : DS := (s.1, s.2.1, s.2.2.1 ++ [(k, (O k).2.1, s.1 (O k).2.1)], s.2.2.2)
def upD (O : OD) (k : Nat) (s : DS) : DS := (upl s.1 (O k).2.1 (nx (decide (0 ≤ (O k).2.2.1)) (s.1 (O k).2.1)), s.2.1 + 1, s.2.2.1, s.2.2.2)
def mvD (K : LK) (O : OD) (k : Nat) : Nat → DS → DS × Nat
  | 0, s => (evD O k s, 0)
  | t + 1, s => if rcD K O k s then (evD O k s, 0) else if s.2.1 = 2000 then (s, 2) else if g_wy K (upD O k s).1 s.2.2.2 = 1 then mvD K O k t (upD O k s) else ((s.1, s.2.1 + 1, s.2.2.1, s.2.2.2), 1)
def DvO (n : Nat) (O : OD) (K : LK) : Prop := n ≤ 40 ∧ ∀ k, k < n → (O k).1 ≤ 3 ∧ ((O k).1 < 2 → (O k).2.1 ≤ 3 ∧ -1023 ≤ (O k).2.2.1 ∧ (O k).2.2.1 ≤ 1023) ∧ ((O k).1 = 1 → (O k).2.2.2.1 < kN K) ∧ ((O k).1 = 2 → 1 ≤ (O k).2.1 ∧ (O k).2.1 ≤ 9) ∧ ((O k).1 = 3 → (O k).2.1 ≤ 255)
/-- the class's orders -/
def DvC (σ : mx_S) (d n : Nat) (O : OD) : Prop := mxI σ d 3 = q_n n ∧ ∀ k, k < n → mxI σ (d + 2) k = q_n (O k).1 ∧ ((O k).1 < 2 → mxI σ (d + 3) k = q_n (O k).2.1 ∧ (mxI σ (d + 4) k).toInt = (O k).2.2.1) ∧ (2 ≤ (O k).1 → mxI σ (d + 4) k = q_n (O k).2.1) ∧ ((O k).1 = 1 → mxI σ (d + 5) k = q_n (O k).2.2.2.1 ∧ mxI σ (d + 6) k = bI (O k).2.2.2.2.1 ∧ (mxL σ (d + 7) k).toInt = (O k).2.2.2.2.2)
def DeC (σ : mx_S) (d : Nat) (es : List (Nat × Nat × Nat)) : Prop := mxI σ d 1 = q_n es.length ∧ ∀ j e, j < 100 → es[j]? = some e → mxI σ (d + 1) (3 * j) = q_n e.1 ∧ mxI σ (d + 1) (3 * j + 1) = q_n e.2.1 ∧ mxI σ (d + 1) (3 * j + 2) = q_n e.2.2
def dvF (x q _j : Nat) : Prop := (x + 129 ≤ q ∧ q < x + 1481) ∨ (x + 120 ≤ q ∧ q < x + 128)
/-- the class, driving -/
def CD (x l l' : Nat) (K : LK) (mk : Nat → Nat) (B : LB) (n : Nat) (O : OD) (σ0 : mx_S) (s : DS) (σ : mx_S) : Prop := RLc x l l' K mk s.1 B σ ∧ DvC σ (x + 120) n O ∧ (mxI σ (x + 120) 0 = q_n s.2.1 ∧ s.2.1 ≤ 2000) ∧ DeC σ (x + 120) s.2.2.1 ∧ (mxI σ (x + 120) 4 = q_n s.2.2.2 ∧ s.2.2.2 < 256) ∧ Fz (dvF x) σ0 σ
theorem DvC_cg {d : Nat} (h : DvC σ d n O) (e : ∀ q j, d ≤ q ∧ q < d + 8 → (q = d → j = 3) → q ≠ d + 1 → mxI τ q j = mxI σ q j ∧ mxL τ q j = mxL σ q j) : DvC τ d n O := by
  refine ⟨(e _ _ (by omega) (by omega) (by omega)).1.trans h.1, fun k hk => ?_⟩
  rw [(e (d + 2) k (by omega) (by omega) (by omega)).1, (e (d + 3) k (by omega) (by omega) (by omega)).1, (e (d + 4) k (by omega) (by omega) (by omega)).1, (e (d + 5) k (by omega) (by omega) (by omega)).1, (e (d + 6) k (by omega) (by omega) (by omega)).1, (e (d + 7) k (by omega) (by omega) (by omega)).2]
  exact h.2 k hk
theorem DeC_cg {d : Nat} {es : List (Nat × Nat × Nat)} (h : DeC σ d es) (e1 : mxI τ d 1 = mxI σ d 1) (e : ∀ j, mxI τ (d + 1) j = mxI σ (d + 1) j) : DeC τ d es := by
  refine ⟨e1.trans h.1, fun j z hj hz => ?_⟩
  rw [e, e, e]; exact h.2 j z hj hz
theorem RLc_l (h : RLc x l l' K mk pl B σ) : (l = x + 129 ∨ l = x + 805) ∧ ∀ i, i < 4 → mxI σ (l + 643) i = q_n (pl i) ∧ pl i < 1024 := by
  obtain ⟨⟨-, -, hl⟩, ⟨M, E, wy, ⟨-, -, -, g4, -⟩, -⟩, -⟩ := h
  exact ⟨by omega, g4⟩
/-- the linkage moves on -/
theorem CD_l (hL : LyL (mxA σ) (mxR σ) l) (hT : kT K) (h : CD x l l' K mk B n O σ0 s σ) (hc : CS M l K mk σ s.1 pl' τ) : CD x l l' K mk B n O σ0 (pl', s.2) τ := by
  obtain ⟨h1, h2, h3, h4, h5, h6⟩ := h
  have hl := (RLc_l h1).1
  have o : ∀ q j, ¬ (x + 129 ≤ q ∧ q < x + 1481) → mxI τ q j = mxI σ q j ∧ mxL τ q j = mxL σ q j := fun q j hq => CFr_o hc.2.1 (by omega) j
  refine ⟨CS_RLc hL hT h1 hc, DvC_cg h2 (fun q j hq _ _ => o q j (by omega)), ⟨(o _ _ (by omega)).1.trans h3.1, h3.2⟩, DeC_cg h4 (o _ _ (by omega)).1 (fun j => (o _ _ (by omega)).1), ⟨(o _ _ (by omega)).1.trans h5.1, h5.2⟩, h6.tr ⟨hc.2.1.1, hc.2.1.2.1, hc.2.1.2.2.1, fun q j hq => o q j fun z => hq (Or.inl z)⟩⟩
theorem CD_cs (h : CD x l l' K mk B n O σ0 s σ) : ∃ M, CS M l K mk σ s.1 s.1 σ := by
  obtain ⟨⟨-, ⟨M, E, wy, hz⟩, -⟩, -⟩ := h
  exact ⟨M, ⟨E, wy, hz⟩, CFr.rf, Or.inr ⟨rfl, rfl⟩⟩
theorem CD_L (h : CD x l l' K mk B n O σ0 s σ) (hL : LyL (mxA σ0) (mxR σ0) l) : LyL (mxA σ) (mxR σ) l := by
  have f := h.2.2.2.2.2; rw [f.1, f.2.1]; exact hL
theorem CD_D (h : CD x l l' K mk B n O σ0 s σ) (hD : LyO (mxA σ0) (mxR σ0) 2 al2 (x + 120)) : LyO (mxA σ) (mxR σ) 2 al2 (x + 120) := by
  have f := h.2.2.2.2.2; rw [f.1, f.2.1]; exact hD
theorem c_lkD (hf : 100 ≤ mpN P) (hL : LyL (mxA σ0) (mxR σ0) l) (hp : mpb P ≤ l) (hT : kT K) (h : CD x l l' K mk B n O σ0 s σ) : ∃ r τ, f_X7_look P l (q_n s.2.2.2) 1 σ = some (r, τ) ∧ CD x l l' K mk B n O σ0 s τ ∧ (r = 0 ↔ g_wy K s.1 s.2.2.2 = 1) ∧ (r = 0 → ∀ p ax, p < kN K → (mxL τ (l + 2 + 16 * p + 7 + (if ax then 2 else 1)) 0).toInt = b_sd false (v_ax ax (s_S K s.1 s.2.2.2 p).2) ∧ mxA τ (l + 2 + 16 * p + 7 + (if ax then 2 else 1)) = some (.inl 0)) := by
  have hLσ := CD_L h hL
  obtain ⟨M, hc⟩ := CD_cs h
  obtain ⟨⟨r, τ⟩, e, j1, j2, j3, j4, j5⟩ := cs_look (P := P) true hf hLσ hp hT hc h.2.2.2.2.1.2
  dsimp only at j1 j2 j3 j5
  have h' := CD_l hLσ hT h j1
  refine ⟨r, τ, e, h', j3, fun hr p ax hpp => ?_⟩
  obtain ⟨E', wy', hz', hall⟩ := j5 (Or.inl hr)
  obtain ⟨-, e2, -, -⟩ := hall p hpp
  have hn := hT.1
  obtain ⟨ya, -, -, -, pa, -, -⟩ := jx_of (CD_L h' hL) (show p < 40 by omega)
  have w1 := (wy1 hT (j3.mp hr) hpp).2
  have ho : v_open (eA E' l p) = false := by rw [← v_N_open, e2]; exact w1
  have e3 : eA E' l p = (s_S K s.1 s.2.2.2 p).2 := by rw [← e2, v_N_id ho]
  have hne := v_ax_ne (ax := ax) ho
  have hP := pa.1
  rw [← e3]
  cases ax with
  | false =>
    have hE : RB (rd τ (l + 2 + 16 * p + 7 + 1)) (E' (l + 2 + 16 * p + 7 + 1)) := G_B (LL_G hz'.2.1) pa.2.1
    refine ⟨?_, LyP_x hP⟩
    rcases RB_o hE with ⟨-, e, -, -, -⟩ | ⟨-, e⟩
    · show (mxL τ (l + 2 + 16 * p + 7 + 1) 0).toInt = b_sd false (E' (l + 2 + 16 * p + 7 + 1))
      rw [e]; rfl
    · exact absurd e hne
  | true =>
    have hE : RB (rd τ (l + 2 + 16 * p + 7 + 2)) (E' (l + 2 + 16 * p + 7 + 2)) := G_B (LL_G hz'.2.1) pa.2.2
    refine ⟨?_, LyP_y hP⟩
    rcases RB_o hE with ⟨-, e, -, -, -⟩ | ⟨-, e⟩
    · show (mxL τ (l + 2 + 16 * p + 7 + 2) 0).toInt = b_sd false (E' (l + 2 + 16 * p + 7 + 2))
      rw [e]; rfl
    · exact absurd e hne
theorem c_mtD (hf : 100 ≤ mpN P) (hL : LyL (mxA σ0) (mxR σ0) l) (hp : mpb P ≤ l) (hT : kT K) (h : CD x l l' K mk B n O σ0 s σ) (hi : i < 4) (hk : k < 1024) : ∃ τ, f_X7_moveTo P l (q_n i) (q_n k) σ = some τ ∧ CD x l l' K mk B n O σ0 (upl s.1 i k, s.2) τ := by
  have hLσ := CD_L h hL
  obtain ⟨M, hc⟩ := CD_cs h
  obtain ⟨τ, e, j1⟩ := cs_move (P := P) hf hLσ hp hT hc hi hk
  exact ⟨τ, e, CD_l hLσ hT h j1⟩
/-- a cell of the drive itself -/
theorem CD_set {q j : Nat} {v : Int32} (hT : kT K) (h : CD x l l' K mk B n O σ0 s σ) (hq : (q = x + 120 ∧ j ≠ 3) ∨ q = x + 121) {s' : DS} (hp : s'.1 = s.1) (h0 : mxI (mx_setI σ q j v) (x + 120) 0 = q_n s'.2.1 ∧ s'.2.1 ≤ 2000) (h1 : DeC (mx_setI σ q j v) (x + 120) s'.2.2.1) (h4 : mxI (mx_setI σ q j v) (x + 120) 4 = q_n s'.2.2.2 ∧ s'.2.2.2 < 256) : CD x l l' K mk B n O σ0 s' (mx_setI σ q j v) := by
  obtain ⟨a1, a2, a3, a4, a5, a6⟩ := h
  refine ⟨?_, DvC_cg a2 (fun q' j' hq' h3 h1' => ⟨sI_n (by omega), rfl⟩), h0, h1, h4, a6.sI (Or.inr (by omega)) _⟩
  rw [hp]
  exact RLc_rg hT a1 rfl rfl (fun q' j' z1 z2 => sI_n (by omega)) (fun q' j' z1 z2 => rfl)
theorem c_keD (hD : LyO (mxA σ0) (mxR σ0) 2 al2 (x + 120)) (hb : mpb P ≤ x + 120) (hT : kT K) (h : CD x l l' K mk B n O σ0 s σ) (hl : s.2.2.1.length < 1000000) : ∃ τ, f_X2_keepEvent P (x + 120) (q_n k) (q_n (O k).2.1) (q_n (s.1 (O k).2.1)) σ = some τ ∧ CD x l l' K mk B n O σ0 (evD O k s) τ := by
  have hDσ := CD_D h hD
  obtain ⟨a1, a2, a3, a4, a5, a6⟩ := id h
  unfold f_X2_keepEvent f_X2_keepEvent_D49
  rw [bd (ad_gI hDσ), a4.1]
  by_cases c : 100 ≤ s.2.2.1.length
  · rw [if_pos (show (100 : Int32) ≤ q_n s.2.2.1.length by rw [show (100 : Int32) = q_n 100 from rfl, q_nLe (by omega) (by omega)]; exact c), bd (ad_gI hDσ), a4.1, q_nS, bd (ad_pI hDσ hb _)]
    refine ⟨_, rfl, CD_set hT h (Or.inl ⟨rfl, by omega⟩) rfl ⟨(sI_n (by omega)).trans a3.1, a3.2⟩ ⟨?_, fun j e hj he => ?_⟩ ⟨(sI_n (by omega)).trans a5.1, a5.2⟩⟩
    · rw [sI_e]; unfold evD; rw [List.length_append]; rfl
    · rw [sI_n (by omega), sI_n (by omega), sI_n (by omega)]
      unfold evD at he
      rw [List.getElem?_append_left (by omega)] at he
      exact a4.2 j e hj he
  · obtain ⟨s1, E1⟩ : ∃ s1, s1 = mx_setI σ (x + 120 + 1) (3 * s.2.2.1.length) (q_n k) := ⟨_, rfl⟩
    obtain ⟨s2, E2⟩ : ∃ s2, s2 = mx_setI s1 (x + 120 + 1) (3 * s.2.2.1.length + 1) (q_n (O k).2.1) := ⟨_, rfl⟩
    obtain ⟨s3, E3⟩ : ∃ s3, s3 = mx_setI s2 (x + 120 + 1) (3 * s.2.2.1.length + 2) (q_n (s.1 (O k).2.1)) := ⟨_, rfl⟩
    have D1 : LyO (mxA s1) (mxR s1) 2 al2 (x + 120) := by rw [E1]; exact hDσ
    have D2 : LyO (mxA s2) (mxR s2) 2 al2 (x + 120) := by rw [E2]; exact D1
    have D3 : LyO (mxA s3) (mxR s3) 2 al2 (x + 120) := by rw [E3]; exact D2
    have l1 : mxI s1 (x + 120) 1 = q_n s.2.2.1.length := by rw [E1, sI_n (by omega)]; exact a4.1
    have l2 : mxI s2 (x + 120) 1 = q_n s.2.2.1.length := by rw [E2, sI_n (by omega)]; exact l1
    have l3 : mxI s3 (x + 120) 1 = q_n s.2.2.1.length := by rw [E3, sI_n (by omega)]; exact l2
    have m3 : (3 : Int32) * q_n s.2.2.1.length = q_n (3 * s.2.2.1.length) := by rw [show (3 : Int32) = q_n 3 from rfl, q_nM]
    have p1 : q_n (3 * s.2.2.1.length) + (1 : Int32) = q_n (3 * s.2.2.1.length + 1) := q_nS _
    have p2 : q_n (3 * s.2.2.1.length) + (2 : Int32) = q_n (3 * s.2.2.1.length + 2) := by rw [show (2 : Int32) = q_n 2 from rfl, q_nA]
    rw [if_neg (show ¬ (100 : Int32) ≤ q_n s.2.2.1.length by rw [show (100 : Int32) = q_n 100 from rfl, q_nLe (by omega) (by omega)]; exact c), bd (ad_r2 hDσ), bd (ad_gI hDσ), a4.1, m3, bd (ad_s2 hDσ hb (by omega) _), ← E1, bd (ad_r2 D1), bd (ad_gI D1), l1, m3, p1, bd (ad_s2 D1 hb (by omega) _), ← E2, bd (ad_r2 D2), bd (ad_gI D2), l2, m3, p2, bd (ad_s2 D2 hb (by omega) _), ← E3, bd (ad_gI D3), l3, q_nS, bd (ad_pI D3 hb _)]
    refine ⟨_, rfl, ?_⟩
    have c3 : ∀ q j, q ≠ x + 121 → mxI s3 q j = mxI σ q j := fun q j hq => by rw [E3, sI_n (by omega), E2, sI_n (by omega), E1, sI_n (by omega)]
    have cl : ∀ q j, mxL s3 q j = mxL σ q j := fun q j => by rw [E3, E2, E1]; rfl
    have f3 : Fz (dvF x) σ s3 := by rw [E3, E2, E1]; exact ((Fz.rf.sI (Or.inr (by omega)) _).sI (Or.inr (by omega)) _).sI (Or.inr (by omega)) _
    have A3 : mxA s3 = mxA σ := f3.1
    refine ⟨?_, DvC_cg a2 (fun q j hq h3 h1 => ⟨(sI_n (by omega)).trans (c3 q j (by omega)), cl q j⟩), ⟨(sI_n (by omega)).trans ((c3 _ _ (by omega)).trans a3.1), a3.2⟩, ⟨?_, fun j e hj he => ?_⟩, ⟨(sI_n (by omega)).trans ((c3 _ _ (by omega)).trans a5.1), a5.2⟩, (a6.tr f3).sI (Or.inr (by omega)) _⟩
    · exact RLc_rg hT a1 A3 f3.2.1 (fun q j z1 z2 => (sI_n (by omega)).trans (c3 q j (by omega))) (fun q j z1 z2 => cl q j)
    · rw [sI_e]; unfold evD; rw [List.length_append]; rfl
    · rw [sI_n (by omega), sI_n (by omega), sI_n (by omega)]
      unfold evD at he
      by_cases ej : j < s.2.2.1.length
      · rw [List.getElem?_append_left ej] at he
        have := a4.2 j e hj he
        rw [E3, sI_n (by omega), sI_n (by omega), sI_n (by omega), E2, sI_n (by omega), sI_n (by omega), sI_n (by omega), E1, sI_n (by omega), sI_n (by omega), sI_n (by omega)]
        exact this
      · have ej2 : j = s.2.2.1.length := by
          have := (List.getElem?_eq_some_iff.mp he).1
          rw [List.length_append] at this
          simp at this
          omega
        subst ej2
        rw [List.getElem?_append_right (Nat.le_refl _), Nat.sub_self] at he
        obtain rfl := Option.some.inj he
        refine ⟨?_, ?_, ?_⟩
        · rw [E3, sI_n (by omega), E2, sI_n (by omega), E1]; exact sI_e
        · rw [E3, sI_n (by omega), E2]; exact sI_e
        · rw [E3]; exact sI_e
end LFS
