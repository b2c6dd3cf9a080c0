/-! ===== li: drives, the reference's steps ===== -/
section LIS
variable {M : BV} {P : mx_P} {σ σ0 σ1 τ : mx_S} {x m n k i w t j a : Nat} {K : LK} {pl pl' : Nat → Nat} {B : LB} {O : OD} {s : DS} {h : Nat}
/-- the reference's orders -/
def DvR (σ : mx_S) (m n : Nat) (O : OD) : Prop := mxI σ m 95 = q_n n ∧ ∀ k, k < n → mxI σ (m + 65) k = q_n (O k).1 ∧ mxI σ (m + 66) k = q_n (O k).2.1 ∧ ((O k).1 < 2 → (mxI σ (m + 67) k).toInt = (O k).2.2.1) ∧ ((O k).1 = 1 → mxI σ (m + 68) k = q_n (O k).2.2.2.1 ∧ mxI σ (m + 69) k = bI (!(O k).2.2.2.2.1) ∧ (mxL σ (m + 70) k).toInt = (O k).2.2.2.2.2)
def DeR (σ : mx_S) (m : Nat) (es : List (Nat × Nat × Nat)) : Prop := mxI σ m 103 = q_n es.length ∧ ∀ j e, j < 100 → es[j]? = some e → mxI σ (m + 71) (3 * j) = q_n e.1 ∧ mxI σ (m + 71) (3 * j + 1) = q_n e.2.1 ∧ mxI σ (m + 71) (3 * j + 2) = q_n e.2.2
def rvF (m q j : Nat) : Prop := q = m + 2 ∨ q = m + 3 ∨ q = m + 4 ∨ q = m + 18 ∨ q = m + 35 ∨ q = m + 71 ∨ (q = m ∧ (j = 54 ∨ j = 55 ∨ j = 102 ∨ j = 103 ∨ j = 112 ∨ j = 113))
def RD (m : Nat) (K : LK) (B : LB) (n : Nat) (O : OD) (σ0 : mx_S) (h : Nat) (s : DS) (σ : mx_S) : Prop := RLr m K s.1 B σ ∧ DvR σ m n O ∧ (mxI σ m 102 = q_n s.2.1 ∧ s.2.1 ≤ 2000) ∧ DeR σ m s.2.2.1 ∧ (mxI σ m 112 = q_n s.2.2.2 ∧ s.2.2.2 < 256) ∧ mxI σ m 113 = q_n h ∧ Fz (rvF m) σ0 σ
theorem DvR_cg (h : DvR σ m n O) (e95 : mxI τ m 95 = mxI σ m 95) (e : ∀ q j, m + 65 ≤ q ∧ q ≤ m + 70 → mxI τ q j = mxI σ q j ∧ mxL τ q j = mxL σ q j) : DvR τ m n O := by
  refine ⟨e95.trans h.1, fun k hk => ?_⟩
  rw [(e (m + 65) k (by omega)).1, (e (m + 66) k (by omega)).1, (e (m + 67) k (by omega)).1, (e (m + 68) k (by omega)).1, (e (m + 69) k (by omega)).1, (e (m + 70) k (by omega)).2]
  exact h.2 k hk
theorem DeR_cg {es : List (Nat × Nat × Nat)} (h : DeR σ m es) (e1 : mxI τ m 103 = mxI σ m 103) (e : ∀ j, mxI τ (m + 71) j = mxI σ (m + 71) j) : DeR τ m es := by
  refine ⟨e1.trans h.1, fun j z hj hz => ?_⟩
  rw [e, e, e]; exact h.2 j z hj hz
theorem RD_M (hd : RD m K B n O σ0 h s σ) (hM : LyM σ0 m) : LyM σ m := hd.2.2.2.2.2.2.M hM
theorem RLr_p (hr : RLr m K pl B σ) (hi : i < 4) : mxI σ (m + 18) i = q_n (pl i) ∧ pl i < 1024 := hr.1.2.2.2.1 i hi
/-- the linkage moves on -/
theorem RD_l (hd : RD m K B n O σ0 h s σ) (hc : RS m K σ pl' τ) : RD m K B n O σ0 h (pl', s.2) τ := by
  obtain ⟨a1, a2, a3, a4, a5, a6, a7⟩ := hd
  have f := hc.2.2
  have o : ∀ q j, m + 65 ≤ q → mxI τ q j = mxI σ q j ∧ mxL τ q j = mxL σ q j := fun q j hq => ⟨f.2.2.2.1 q j (by omega) (by omega) (by omega) (by omega), f.2.2.2.2 q j (by omega) (by omega)⟩
  have om : ∀ j, j ≠ 54 → j ≠ 55 → mxI τ m j = mxI σ m j := fun j j1 j2 => f.2.2.2.1 m j (by omega) (by omega) (by omega) (fun _ => ⟨j1, j2⟩)
  refine ⟨?_, DvR_cg a2 (om _ (by omega) (by omega)) (fun q j hq => o q j hq.1), ⟨(om _ (by omega) (by omega)).trans a3.1, a3.2⟩, DeR_cg a4 (om _ (by omega) (by omega)) (fun j => (o _ _ (by omega)).1), ⟨(om _ (by omega) (by omega)).trans a5.1, a5.2⟩, (om _ (by omega) (by omega)).trans a6, a7.tr ⟨f.1, f.2.1, f.2.2.1, fun q j hq => ?_⟩⟩
  · exact ⟨hc.1, hc.2.1, rB_rg a1.2.2 fun q j c1 c2 c3 => f.2.2.2.1 q j (by omega) c3 (by omega) (fun z => by omega)⟩
  · unfold rvF at hq
    exact ⟨f.2.2.2.1 q j (by omega) (by omega) (by omega) (fun z => by omega), f.2.2.2.2 q j (by omega) (by omega)⟩
theorem RD_rs (hd : RD m K B n O σ0 h s σ) : RS m K σ s.1 σ := ⟨hd.1.1, hd.1.2.1, RFr.rf⟩
theorem r_wkD (hf : 100 ≤ mpN P) (hM : LyM σ0 m) (hb : mpb P ≤ m) (hT : kT K) (hd : RD m K B n O σ0 h s σ) : ∃ τ, f_X12_worked P m (q_n s.2.2.2) σ = some (q_n (g_wy K s.1 s.2.2.2), τ) ∧ RD m K B n O σ0 h s τ ∧ (g_wy K s.1 s.2.2.2 = 1 → ∀ p ax, p < kN K → (mxL τ (m + 2) (2 * p + (if ax then 1 else 0))).toInt = b_sd false (v_ax ax (s_S K s.1 s.2.2.2 p).2)) := by
  have hMσ := RD_M hd hM
  obtain ⟨⟨r, τ⟩, e, ⟨j1, j2, j3⟩⟩ := rs_work (P := P) hf hMσ hb hT (RD_rs hd) hd.2.2.2.2.1.2
  dsimp only at j1 j2 j3
  subst j1
  refine ⟨τ, e, RD_l hd j2, fun hw p ax hpp => ?_⟩
  obtain ⟨E', hE, hall⟩ := j3 (by omega)
  have w1 := (wy1 hT hw hpp).2
  have e2 := hall p hpp
  have ho : v_open (eR E' p) = false := by rw [← v_N_open, e2]; exact w1
  have e3 : eR E' p = (s_S K s.1 s.2.2.2 p).2 := by rw [← e2, v_N_id ho]
  have hne := v_ax_ne (ax := ax) ho
  have hn := hT.1
  rw [← e3]
  cases ax with
  | false =>
    rcases RR_o (hE (2 * p) (by omega)).1 with ⟨-, e, -, -, -⟩ | ⟨-, e⟩
    · show (mxL τ (m + 2) (2 * p)).toInt = b_sd false (E' (2 * p))
      rw [e]; rfl
    · exact absurd e hne
  | true =>
    rcases RR_o (hE (2 * p + 1) (by omega)).1 with ⟨-, e, -, -, -⟩ | ⟨-, e⟩
    · show (mxL τ (m + 2) (2 * p + 1)).toInt = b_sd false (E' (2 * p + 1))
      rw [e]; rfl
    · exact absurd e hne
theorem r_stD (hM : LyM σ0 m) (hb : mpb P ≤ m) (hT : kT K) (hd : RD m K B n O σ0 h s σ) (hi : i < 4) (hk : k < 1024) : RD m K B n O σ0 h (upl s.1 i k, s.2) (mx_setI σ (m + 18) i (q_n k)) := by
  have hMσ := RD_M hd hM
  obtain ⟨τ, e, j1⟩ := rs_set (P := P) hMσ hb hT (RD_rs hd) hi hk
  rw [am_s34 hMσ hb hi] at e
  rw [Option.some.inj e]
  exact RD_l hd j1
theorem RD_set {j : Nat} {v : Int32} (hT : kT K) (hd : RD m K B n O σ0 h s σ) (hj : j = 102 ∨ j = 103 ∨ j = 112 ∨ j = 113) {s' : DS} {h' : Nat} (hp : s'.1 = s.1) (h0 : mxI (mx_setI σ m j v) m 102 = q_n s'.2.1 ∧ s'.2.1 ≤ 2000) (h1 : DeR (mx_setI σ m j v) m s'.2.2.1) (h4 : mxI (mx_setI σ m j v) m 112 = q_n s'.2.2.2 ∧ s'.2.2.2 < 256) (h5 : mxI (mx_setI σ m j v) m 113 = q_n h') : RD m K B n O σ0 h' s' (mx_setI σ m j v) := by
  obtain ⟨a1, a2, a3, a4, a5, a6, a7⟩ := hd
  refine ⟨?_, DvR_cg a2 (sI_n (by omega)) (fun q j hq => ⟨sI_n (by omega), rfl⟩), h0, h1, h4, h5, a7.sI (by unfold rvF; omega) _⟩
  rw [hp]
  exact RLr_rg hT a1 (fun q j z1 z2 => sI_n (by omega)) (fun q j z1 z2 => rfl) (sI_n (by omega)) (sI_n (by omega))
/-- is it reached -/
theorem r_rcD (hf : 100 ≤ mpN P) (hM : LyM σ0 m) (hb : mpb P ≤ m) (hT : kT K) (hO : DvO n O K) (hk : k < n) (f2 : (O k).1 < 2) (hd : RD m K B n O σ0 h s σ) : ∃ τ, f_X12_isReached P m (q_n k) σ = some (bI (rcD K O k s), τ) ∧ RD m K B n O σ0 h s τ := by
  have hMσ := RD_M hd hM
  have n40 := hO.1
  obtain ⟨o1, o2, o3, -, -⟩ := hO.2 k hk
  obtain ⟨c1, c2, c3, c4⟩ := hd.2.1.2 k hk
  unfold f_X12_isReached f_X12_isReached_D21
  rw [bd (am_r96 hMσ), bd (am_g96 hMσ (by omega)), c1]
  by_cases f0 : (O k).1 = 0
  · rw [if_pos (show q_n (O k).1 = 0 by rw [f0]; rfl)]
    have : rcD K O k s = false := decide_eq_false fun y => by omega
    rw [this]
    exact ⟨σ, if_pos (Or.inl rfl), hd⟩
  · have f1 : (O k).1 = 1 := by omega
    rw [if_neg (show ¬ q_n (O k).1 = 0 by rw [f1]; decide), bd (am_gI hMσ), hd.2.2.2.2.1.1, bd (am_is hMσ)]
    obtain ⟨τ, e, hτ, hv⟩ := r_wkD (P := P) hf hM hb hT hd
    rw [bd2 e]
    have hMτ := RD_M hτ hM
    have g3 : g_wy K s.1 s.2.2.2 < 3 := by unfold g_wy; split; omega; split <;> omega
    by_cases w1 : g_wy K s.1 s.2.2.2 = 1
    · obtain ⟨d5, d6, d7⟩ := (hτ.2.1.2 k hk).2.2.2 f1
      have hc := o3 f1
      have hn := hT.1
      have hval := hv w1 (O k).2.2.2.1 (O k).2.2.2.2.1 hc
      rw [if_pos (show q_n (g_wy K s.1 s.2.2.2) = (1 : Int32) by rw [w1]; rfl), bd (am_r11 hMτ), bd (am_r99 hMτ), bd (am_g99 hMτ (by omega)), d5, bd (am_r100 hMτ), bd (am_g100 hMτ (by omega)), d6]
      have D49 : ∀ q : Nat, q < 2 → q = (if (O k).2.2.2.2.1 then 1 else 0) → f_X12_isReached_D49 P m (q_n k) (q_n q) ((2 : Int32) * q_n (O k).2.2.2.1) (m + 2) τ = some (bI (rcD K O k s), τ) := fun q hq eq => by
        unfold f_X12_isReached_D49 f_X12_isReached_D66
        rw [show (2 : Int32) * q_n (O k).2.2.2.1 + q_n q = q_n (2 * (O k).2.2.2.1 + q) by rw [show (2 : Int32) = q_n 2 from rfl, q_nM, q_nA], bd (am_g11 hMτ (by omega)), bd (am_r101 hMτ), bd (am_g101 hMτ (by omega))]
        rw [← eq] at hval
        by_cases lt : (O k).2.2.2.2.2 < b_sd false (v_ax (O k).2.2.2.2.1 (s_S K s.1 s.2.2.2 (O k).2.2.2.1).2)
        · have : rcD K O k s = true := decide_eq_true ⟨f1, w1, lt⟩
          rw [this, if_neg (by rw [q_cmp_le, q_lle, hval, d7]; omega)]
          exact if_pos (Or.inr rfl)
        · have : rcD K O k s = false := decide_eq_false fun y => lt y.2.2
          rw [this, if_pos (by rw [q_cmp_le, q_lle, hval, d7]; omega)]
          exact if_pos (Or.inl rfl)
      refine ⟨τ, ?_, hτ⟩
      cases hy : (O k).2.2.2.2.1 with
      | false =>
        rw [hy] at D49
        rw [if_neg (show ¬ bI (!false) = 0 by decide)]
        exact D49 0 (by omega) rfl
      | true =>
        rw [hy] at D49
        rw [if_pos (show bI (!true) = 0 by decide)]
        exact D49 1 (by omega) rfl
    · rw [if_neg (show ¬ q_n (g_wy K s.1 s.2.2.2) = (1 : Int32) from fun y => w1 ((q_nI (l := 1) (by omega) (by omega)).mp y))]
      have : rcD K O k s = false := decide_eq_false fun y => w1 y.2.1
      rw [this]
      exact ⟨τ, if_pos (Or.inl rfl), hτ⟩
def MvR (m : Nat) (K : LK) (B : LB) (n : Nat) (O : OD) (σ0 : mx_S) (k i : Nat) (r : mx_S ⊕ (Int32 × mx_S) ⊕ mx_S) (v : DS × Nat) : Prop :=
  (v.2 = 0 ∧ ∃ τ s1, r = .inr (.inr τ) ∧ RD m K B n O σ0 0 s1 τ ∧ v.1 = evD O k s1) ∨
  (v.2 = 2 ∧ ∃ τ, r = .inl τ ∧ RD m K B n O σ0 0 v.1 τ) ∨
  (v.2 = 1 ∧ ∃ τ pl', r = .inr (.inl (q_n (v.1.1 i), τ)) ∧ RD m K B n O σ0 0 (pl', v.1.2) τ ∧ upl pl' i (v.1.1 i) = v.1.1 ∧ v.1.1 i < 1024)
theorem r_mvL (hf : 3000 ≤ mpN P) (hM : LyM σ0 m) (hb : mpb P ≤ m) (hT : kT K) (hO : DvO n O K) (hk : k < n) (f2 : (O k).1 < 2) : ∀ (t j : Nat) (s : DS) (σ : mx_S) (v4 : Int32) (fu : Nat), j + t = (O k).2.2.1.natAbs → v4.toInt = (if decide (0 ≤ (O k).2.2.1) then (j : Int) else -(j : Int)) → RD m K B n O σ0 0 s σ → t < fu → ∃ r, mx_lp (f_X12_goOn_L25 P m (q_n k) (q_n (O k).2.1) (if decide (0 ≤ (O k).2.2.1) then 1 else -1)) fu (v4, σ) = some r ∧ MvR m K B n O σ0 k (O k).2.1 r (mvD K O k t s) := by
  have n40 := hO.1
  obtain ⟨o1, o2, o3, -, -⟩ := hO.2 k hk
  obtain ⟨a3, b1, b2⟩ := o2 f2
  intro t
  induction t with
  | zero =>
    intro j s σ v4 fu hj hv4 h hfu
    have hMσ := RD_M h hM
    have hv := (h.2.1.2 k hk).2.2.1 f2
    refine ⟨.inr (.inr σ), lp_out ?_ hfu, Or.inl ⟨rfl, σ, s, rfl, h, rfl⟩⟩
    show f_X12_goOn_B25 P m (q_n k) (q_n (O k).2.1) _ v4 σ = _
    unfold f_X12_goOn_B25
    rw [bd (am_r98 hMσ), bd (am_g98 hMσ (by omega)), if_pos (Int32.toInt.inj (by
      rw [hv4, hv]
      by_cases c : 0 ≤ (O k).2.2.1
      · rw [decide_eq_true c, if_pos rfl]; omega
      · rw [decide_eq_false c, if_neg (by decide)]; omega))]
  | succ t ih =>
    intro j s σ v4 fu hj hv4 h hfu
    have hMσ := RD_M h hM
    have hv := (h.2.1.2 k hk).2.2.1 f2
    have hne : ¬ v4 = mxI σ (m + 67) k := fun y => by
      have := congrArg Int32.toInt y
      rw [hv4, hv] at this
      by_cases c : 0 ≤ (O k).2.2.1
      · rw [decide_eq_true c, if_pos rfl] at this; omega
      · rw [decide_eq_false c, if_neg (by decide)] at this; omega
    obtain ⟨τ, e1, hτ⟩ := r_rcD (P := P) (by omega) hM hb hT hO hk f2 h
    have hMτ := RD_M hτ hM
    obtain ⟨c1, c2, c3, c4, c5, c6, c7⟩ := id hτ
    have head : f_X12_goOn_B25 P m (q_n k) (q_n (O k).2.1) (if decide (0 ≤ (O k).2.2.1) then 1 else -1) v4 σ = (if bI (rcD K O k s) = 0 then (mg_I τ m 12 102).bind fun x21 => (if x21 = (2000 : Int32) then some (.inr (.inl τ)) else (mg_I τ m 12 102).bind fun x24 => (mp_I P τ m 12 102 (x24 + (1 : Int32))).bind fun σ26 => (mg_R σ26 m 12 34).bind fun b28 => (ma_I σ26 b28 0 (q_n (O k).2.1)).bind fun x30 => (mg_R σ26 m 12 34).bind fun b32 => (ms_I P σ26 b32 0 (q_n (O k).2.1) ((x30 + (if decide (0 ≤ (O k).2.2.1) then 1 else -1)) &&& (1023 : Int32))).bind fun σ34 => (mg_I σ34 m 12 112).bind fun x36 => (mx_is σ34 m 12).bind fun i38 => mx_b2 (f_X12_worked P m x36 σ34) fun x41 σ40 => (if x41 = (1 : Int32) then (some (v4 + (if decide (0 ≤ (O k).2.2.1) then 1 else -1))).bind fun x44 => some (.inl (x44, σ40)) else some (.inr (.inr (.inl (x30, σ40)))))) else some (.inr (.inr (.inr τ)))) := by
      unfold f_X12_goOn_B25
      rw [bd (am_r98 hMσ), bd (am_g98 hMσ (by omega)), if_neg hne, bd (am_is hMσ), bd2 e1]
    cases hrc : rcD K O k s with
    | true =>
      rw [hrc, if_neg (show ¬ bI true = 0 by decide)] at head
      have un : mvD K O k (t + 1) s = (evD O k s, 0) := by
        show (if rcD K O k s then _ else _) = _
        rw [if_pos hrc]
      exact ⟨.inr (.inr τ), lp_out head (by omega), Or.inl ⟨by rw [un], τ, s, rfl, hτ, by rw [un]⟩⟩
    | false =>
      rw [hrc, if_pos (show bI false = 0 by decide), bd (am_gI hMτ), c3.1] at head
      have un : mvD K O k (t + 1) s = if s.2.1 = 2000 then (s, 2) else if g_wy K (upD O k s).1 s.2.2.2 = 1 then mvD K O k t (upD O k s) else ((s.1, s.2.1 + 1, s.2.2.1, s.2.2.2), 1) := by
        show (if rcD K O k s then _ else _) = _
        rw [if_neg (by rw [hrc]; decide)]
      by_cases c : s.2.1 = 2000
      · rw [if_pos c] at un
        rw [if_pos (show q_n s.2.1 = (2000 : Int32) by rw [c]; rfl)] at head
        exact ⟨_, lp_out head (by omega), Or.inr (Or.inl ⟨by rw [un], τ, rfl, by rw [un]; exact hτ⟩)⟩
      · rw [if_neg c] at un
        have hst : RD m K B n O σ0 0 (s.1, s.2.1 + 1, s.2.2.1, s.2.2.2) (mx_setI τ m 102 (q_n (s.2.1 + 1))) := RD_set hT hτ (Or.inl rfl) rfl ⟨sI_e, by show s.2.1 + 1 ≤ 2000; omega⟩ (DeR_cg c4 (sI_n (by omega)) fun j => sI_n (by omega)) ⟨(sI_n (by omega)).trans c5.1, c5.2⟩ ((sI_n (by omega)).trans c6)
        obtain ⟨s1, E1⟩ : ∃ s1, s1 = mx_setI τ m 102 (q_n (s.2.1 + 1)) := ⟨_, rfl⟩
        rw [← E1] at hst
        have M1 := RD_M hst hM
        have hpl := RLr_p (i := (O k).2.1) hst.1 (by omega)
        dsimp only at hpl
        have h2 : RD m K B n O σ0 0 (upD O k s) (mx_setI s1 (m + 18) (O k).2.1 (q_n (nx (decide (0 ≤ (O k).2.2.1)) (s.1 (O k).2.1)))) := r_stD (P := P) hM hb hT hst (show (O k).2.1 < 4 by omega) (nx_1024 _ _)
        obtain ⟨s2, E2⟩ : ∃ s2, s2 = mx_setI s1 (m + 18) (O k).2.1 (q_n (nx (decide (0 ≤ (O k).2.2.1)) (s.1 (O k).2.1))) := ⟨_, rfl⟩
        rw [← E2] at h2
        have M2 := RD_M h2 hM
        obtain ⟨s3, e3, h3, -⟩ := r_wkD (P := P) (by omega) hM hb hT h2
        have w4 : mxI s2 m 112 = q_n s.2.2.2 := h2.2.2.2.2.1.1
        have g3 : g_wy K (upD O k s).1 s.2.2.2 < 3 := by unfold g_wy; split; omega; split <;> omega
        rw [if_neg (show ¬ q_n s.2.1 = (2000 : Int32) from fun y => c ((q_nI (l := 2000) (by omega) (by omega)).mp y)), bd (am_gI hMτ), c3.1, q_nS, bd (am_pI hMτ hb _), ← E1, bd (am_r34 M1), bd (am_g34 M1 (by omega)), hpl.1, bd (am_r34 M1), nx_q, bd (am_s34 M1 hb (by omega) _), ← E2, bd (am_gI M2), w4, bd (am_is M2), bd2 (show f_X12_worked P m (q_n s.2.2.2) s2 = some (q_n (g_wy K (upD O k s).1 s.2.2.2), s3) from e3)] at head
        by_cases w1 : g_wy K (upD O k s).1 s.2.2.2 = 1
        · rw [if_pos w1] at un
          rw [if_pos (show q_n (g_wy K (upD O k s).1 s.2.2.2) = (1 : Int32) by rw [w1]; rfl), Option.bind_some] at head
          obtain ⟨r, er, hr⟩ := ih (j + 1) (upD O k s) s3 (v4 + (if decide (0 ≤ (O k).2.2.1) then 1 else -1)) (fu - 1) (by omega) (by
            have e1' : (1 : Int32).toInt = 1 := rfl
            have e2' : (-1 : Int32).toInt = -1 := rfl
            by_cases c : 0 ≤ (O k).2.2.1
            · rw [decide_eq_true c, if_pos rfl] at hv4 ⊢
              rw [if_pos rfl, q_iadd (by rw [hv4, e1']; omega) (by rw [hv4, e1']; omega), hv4, e1']; omega
            · rw [decide_eq_false c, if_neg (by decide)] at hv4 ⊢
              rw [if_neg (by decide), q_iadd (by rw [hv4, e2']; omega) (by rw [hv4, e2']; omega), hv4, e2']; omega) h3 (by omega)
          refine ⟨r, ?_, by rw [un]; exact hr⟩
          rw [mx_lp_s (show f_X12_goOn_L25 P m (q_n k) (q_n (O k).2.1) (if decide (0 ≤ (O k).2.2.1) then 1 else -1) (v4, σ) = _ from head) (by omega)]
          exact er
        · rw [if_neg w1] at un
          rw [if_neg (show ¬ q_n (g_wy K (upD O k s).1 s.2.2.2) = (1 : Int32) from fun y => w1 ((q_nI (l := 1) (by omega) (by omega)).mp y))] at head
          refine ⟨_, lp_out head (by omega), Or.inr (Or.inr ⟨by rw [un], s3, (upD O k s).1, by rw [un], by rw [un]; exact h3, ?_, by rw [un]; exact hpl.2⟩)⟩
          rw [un]
          funext q
          show (if q = (O k).2.1 then s.1 (O k).2.1 else if q = (O k).2.1 then _ else s.1 q) = s.1 q
          by_cases eq : q = (O k).2.1
          · rw [if_pos eq, eq]
          · rw [if_neg eq, if_neg eq]
end LIS
