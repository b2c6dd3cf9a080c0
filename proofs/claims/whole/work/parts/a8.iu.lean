/-! ===== iu: the order, the reference's ===== -/
section IUS
variable {P : mx_P} {σ σ0 σ1 σ2 τ : mx_S} {x m n t l p q a N i k j u v w K c s f r : Nat} {bl : List Nat} {o : List Nat} {A : Nat → Nat → Nat} {np : Nat → Nat}
theorem rnA_fix (h : paA A np (rnA A np K r) K = rnA A np K r) : ∀ d, rnA A np K (r + d) = rnA A np K r
  | 0 => rfl
  | d + 1 => by rw [← Nat.add_assoc, rnA, rnA_fix h d]; exact h
theorem r_runs (hf : 5000 ≤ mpN P) (hb : mpb P ≤ m) (hM : LyM σ m) (hK : K ≤ 40) (hO : OnR σ m bl N K) (h38 : mxI σ m 38 = q_n K) (hR : OrR σ m K []) (hA : ∀ p, p < K → ∀ o, rdO bl N K o p 4 = true ↔ ∀ j, j < np p → A p j ∈ o) :
    ∃ τ, mx_lp (f_X12_findOrder_L27 P m) (mpN P) ((0 : Int32), (1 : Int32), σ) = some τ ∧ Fz (orF m) σ τ ∧ OrR τ m K (rnA A np K K) := by
  refine q_for (f_X12_findOrder_L27 P m) (fun k t => ∃ τ, Fz (orF m) σ τ ∧ ((t = (q_n (rnA A np K k).length, (1 : Int32), τ) ∧ OrR τ m K (rnA A np K k) ∧ k ≤ (rnA A np K k).length) ∨ ∃ c, t = (c, (0 : Int32), τ) ∧ OrR τ m K (rnA A np K K))) (fun τ => Fz (orF m) σ τ ∧ OrR τ m K (rnA A np K K)) (K + 1) ?_ ?_ (K + 1) 0 _ (mpN P) (by omega) ⟨σ, Fz.rf, Or.inl ⟨rfl, hR, Nat.zero_le _⟩⟩ (by omega)
  · rintro k t hk ⟨τ, f, ⟨rfl, hr, hkl⟩ | ⟨c, rfl, hr⟩⟩
    · left
      have i38 : mxI τ m 38 = q_n K := (f.2.2.2 _ _ (fun z => by unfold orF at z; omega)).1.trans h38
      have hOt : OnR τ m bl N K := fun v hv k hk => (f.2.2.2 _ _ (fun z => by unfold orF at z; omega)).1.trans (hO v hv k hk)
      obtain ⟨τ', e, f', hr'⟩ := r_pass (P := P) (by omega) hb (f.M hM) hK hOt i38 hr hA
      show ∃ t', f_X12_findOrder_B27 P m (q_n (rnA A np K k).length) 1 τ = _ ∧ _
      unfold f_X12_findOrder_B27
      rw [if_neg zi10, bd e]
      refine ⟨_, rfl, τ', f.tr f', ?_⟩
      have hl := paA_len (A := A) (np := np) (o := rnA A np K k) K
      by_cases d : (paA A np (rnA A np K k) K).length = (rnA A np K k).length
      · right
        have hs := paA_same d
        have hfx := rnA_fix hs (K - k)
        rw [show k + (K - k) = K by omega] at hfx
        rw [hs] at hr'
        rw [hfx]
        exact ⟨_, by rw [decide_eq_false (fun z => z d)]; rfl, hr'⟩
      · left
        refine ⟨by rw [decide_eq_true d]; rfl, hr', ?_⟩
        show k + 1 ≤ (paA A np (rnA A np K k) K).length
        omega
    · right
      refine ⟨τ, ?_, f, hr⟩
      show f_X12_findOrder_B27 P m c 0 τ = _
      unfold f_X12_findOrder_B27
      rw [if_pos rfl]
  · rintro t ⟨τ, f, ⟨rfl, hr, hkl⟩ | ⟨c, rfl, hr⟩⟩
    · have := nd_len K _ hr.2.2.1 hr.2.2.2
      omega
    · refine ⟨τ, ?_, f, hr⟩
      show f_X12_findOrder_B27 P m c 0 τ = _
      unfold f_X12_findOrder_B27
      rw [if_pos rfl]
theorem r_clr (hf : 5000 ≤ mpN P) (hb : mpb P ≤ m) (hM : LyM σ m) (hK : K ≤ 40) (h38 : mxI σ m 38 = q_n K) : ∃ τ, mx_lp (f_X12_findOrder_L2 P m) (mpN P) ((0 : Int32), σ) = some τ ∧ Fz (orF m) σ τ ∧ OrR τ m K [] := by
  refine q_for (f_X12_findOrder_L2 P m) (fun w t => ∃ τ, t = (q_n w, τ) ∧ Fz (orF m) σ τ ∧ ∀ q, q < w → mxI τ (m + 32) q = 0) (fun τ => Fz (orF m) σ τ ∧ OrR τ m K []) K ?_ ?_ K 0 _ (mpN P) (by omega) ⟨σ, rfl, Fz.rf, fun q hq => absurd hq (Nat.not_lt_zero q)⟩ (by omega)
  · rintro w t hw ⟨τ, rfl, f, h⟩
    left
    have hMt := f.M hM
    show ∃ t', f_X12_findOrder_B2 P m (q_n w) τ = _ ∧ _
    unfold f_X12_findOrder_B2
    rw [bd (am_gI hMt), (f.2.2.2 _ _ (fun z => by unfold orF at z; omega)).1, h38, if_neg (by rw [q_nLe (by omega) (by omega)]; omega), bd (am_r49 hMt), bd (am_s49 hMt hb (by omega) _), bds, q_nS]
    refine ⟨_, rfl, _, rfl, f.sI (Or.inr rfl) _, fun q hq => ?_⟩
    by_cases e : q = w
    · rw [e, sI_e]; decide
    · rw [sI_n (by omega)]; exact h q (by omega)
  · rintro t ⟨τ, rfl, f, h⟩
    refine ⟨τ, ?_, f, fun q hq => by rw [h q hq, decide_eq_false (fun z => by cases z)]; rfl, fun i q hi => (by cases hi), List.nodup_nil, fun q hq => (by cases hq)⟩
    show f_X12_findOrder_B2 P m (q_n K) τ = _
    unfold f_X12_findOrder_B2
    rw [bd (am_gI (f.M hM)), (f.2.2.2 _ _ (fun z => by unfold orF at z; omega)).1, h38, if_pos (by rw [q_nLe (by omega) (by omega)]; exact Nat.le_refl _)]
/-- the first that hangs on itself -/
def Hng (bl : List Nat) (N : Nat) (o : List Nat) (m w : Nat) (σ τ : mx_S) : Prop := ((∀ q, q < w → q ∈ o) ∧ τ = σ) ∨ ∃ p, p < w ∧ p ∉ o ∧ (∀ q, q < p → q ∈ o) ∧ mxI τ m 4 = 4 ∧ mxI τ m 5 = q_n (tkT bl N p 0) ∧ Fz (wrF m) σ τ
theorem r_hng (hf : 5000 ≤ mpN P) (hb : mpb P ≤ m) (hM : LyM σ m) (hK : K ≤ 40) (hN : NmR σ m bl N K) (h4 : mxI σ m 4 = 0) (hR : OrR σ m K o) : ∃ τ, mx_lp (f_X12_findOrder_L156 P m) (mpN P) ((0 : Int32), σ) = some τ ∧ Hng bl N o m K σ τ := by
  refine q_for (f_X12_findOrder_L156 P m) (fun w t => ∃ τ, t = (q_n w, τ) ∧ Hng bl N o m w σ τ) (fun τ => Hng bl N o m K σ τ) K ?_ ?_ K 0 _ (mpN P) (by omega) ⟨σ, rfl, Or.inl ⟨fun q hq => absurd hq (Nat.not_lt_zero q), rfl⟩⟩ (by omega)
  · rintro w t hw ⟨τ, rfl, h⟩
    left
    have f : Fz (wrF m) σ τ := by
      rcases h with ⟨-, rfl⟩ | ⟨p, -, -, -, -, -, f⟩
      · exact Fz.rf
      · exact f
    have hMt := f.M hM
    have g : ∀ q k, ¬ wrF m q k → mxI τ q k = mxI σ q k := fun q k z => (f.2.2.2 q k z).1
    show ∃ t', f_X12_findOrder_B156 P m (q_n w) τ = _ ∧ _
    unfold f_X12_findOrder_B156 f_X12_findOrder_D184_156
    rw [bd (am_gI hMt), g _ _ (by unfold wrF; omega), hN.1, if_neg (by rw [q_nLe (by omega) (by omega)]; omega), bd (am_r49 hMt), bd (am_g49 hMt (by omega)), g _ _ (by unfold wrF; omega), hR.1 w hw]
    by_cases c : w ∈ o
    · rw [decide_eq_true c, if_neg (show ¬ bI true = 0 by decide), bds, q_nS]
      refine ⟨_, rfl, τ, rfl, ?_⟩
      rcases h with ⟨h1, h2⟩ | ⟨p, h1, h2⟩
      · refine Or.inl ⟨fun q hq => ?_, h2⟩
        by_cases e : q = w
        · rw [e]; exact c
        · exact h1 q (by omega)
      · exact Or.inr ⟨p, by omega, h2⟩
    · rw [decide_eq_false c, if_pos (show bI false = 0 from rfl), bd (am_r39 hMt), bd (am_g39 hMt (by omega)), g _ _ (by unfold wrF; omega), (hN.2 w hw).1, bd (am_is hMt)]
      rcases h with ⟨h1, rfl⟩ | ⟨p, h1, h2, h3, h5, h6, h7⟩
      · obtain ⟨τ', e, a1, a2, f'⟩ := r_wrg (P := P) (w := 4) (v := q_n (tkT bl N w 0)) hM hb h4
        rw [bd e, bds, q_nS]
        exact ⟨_, rfl, τ', rfl, Or.inr ⟨w, by omega, c, h1, a1, a2, f'⟩⟩
      · rw [bd (r_wrB (c := 4) hMt (by omega) (by omega) h5), bds, q_nS]
        exact ⟨_, rfl, τ, rfl, Or.inr ⟨p, by omega, h2, h3, h5, h6, h7⟩⟩
  · rintro t ⟨τ, rfl, h⟩
    have f : Fz (wrF m) σ τ := by
      rcases h with ⟨-, rfl⟩ | ⟨p, -, -, -, -, -, f⟩
      · exact Fz.rf
      · exact f
    refine ⟨τ, ?_, h⟩
    show f_X12_findOrder_B156 P m (q_n K) τ = _
    unfold f_X12_findOrder_B156
    rw [bd (am_gI (f.M hM)), (f.2.2.2 _ _ (fun z => by unfold wrF at z; omega)).1, hN.1, if_pos (by rw [q_nLe (by omega) (by omega)]; exact Nat.le_refl _)]
/-- every name is told -/
theorem ls_td (h256 : ∀ b, b ∈ bl → b < 256) (h : GdT bl N K) (hn : lsF bl N K K = none) (hv : v < K) (hi : i < nT bl N v) (h80 : lT bl N v i = 80) : ∃ w, w < K ∧ telA bl N K (nmA bl (tkT bl N v i)) = some w := by
  have h0 := Lm_ls h256 h K (Nat.le_refl _)
  rw [hn] at h0
  cases e : telA bl N K (nmA bl (tkT bl N v i)) with
  | some w => exact ⟨w, r_fst_lt e, rfl⟩
  | none =>
    exfalso
    refine h0 (tkT bl N v i) 3 ⟨v, i, bfr_z.mpr ⟨hv, hi⟩, rfl, ?_, by omega⟩
    rw [cd_80 h80, e]; rfl
theorem pf_tab : ∀ f : Fin 6, (∀ j : Fin 4, j.1 < g_np f.1 → 1 ≤ pIx f.1 j.1 ∧ pIx f.1 j.1 ≤ 4 ∧ pIx f.1 j.1 < nLt 0 (kfl f.1) ∧ lfm f.1 (pIx f.1 j.1) = 80) ∧ ∀ k : Fin 4, k.1 + 1 < nLt 0 (kfl f.1) → lfm f.1 (k.1 + 1) = 80 → ∃ j : Fin 4, j.1 < g_np f.1 ∧ pIx f.1 j.1 = k.1 + 1 := by decide +kernel
theorem rdO_t : ∀ k, rdO bl N K o p k = true ↔ ∀ k', k' < k → ∀ w, onA bl N K p k' = some w → w ∈ o
  | 0 => ⟨fun _ k' hk => absurd hk (Nat.not_lt_zero k'), fun _ => rfl⟩
  | k + 1 => by
    have ih := rdO_t k
    have ok : okO bl N K o p k = true ↔ ∀ w, onA bl N K p k = some w → w ∈ o := by
      unfold okO
      cases e : onA bl N K p k with
      | none => exact ⟨fun _ w hw => (by cases hw), fun _ => rfl⟩
      | some w =>
        dsimp only
        rw [decide_eq_true_eq]
        exact ⟨fun h w' hw' => (by cases hw'; exact h), fun h => h w rfl⟩
    rw [rdO, Bool.and_eq_true, ih, ok]
    constructor
    · rintro ⟨h1, h2⟩ k' hk
      by_cases e : k' = k
      · rw [e]; exact h2
      · exact h1 k' (by omega)
    · exact fun h => ⟨fun k' hk => h k' (by omega), h k (by omega)⟩
theorem rd_A (h256 : ∀ b, b ∈ bl → b < 256) (h : GdT bl N K) (hn : lsF bl N K K = none) (hp : p < K) (o : List Nat) : rdO bl N K o p 4 = true ↔ ∀ j, j < npT bl N p → AT bl N K p j ∈ o := by
  have hh := (gd_h h256 h hp).1
  obtain ⟨t1, t2⟩ := pf_tab ⟨_, hh.2.2.1⟩
  dsimp only at t1 t2
  rw [rdO_t]
  constructor
  · intro hr j hj
    have hj4 := np_4 ⟨_, hh.2.2.1⟩
    dsimp only at hj4
    have hj' : j < g_np (fmT bl N p) := hj
    obtain ⟨a1, a2, a3, a4⟩ := t1 ⟨j, by omega⟩ hj
    dsimp only at a1 a2 a3 a4
    obtain ⟨w, hw, ew⟩ := ls_td h256 h hn hp a3 a4
    have e : pIx (fmT bl N p) j - 1 + 1 = pIx (fmT bl N p) j := by omega
    have := hr (pIx (fmT bl N p) j - 1) (by omega) w (by unfold onA; rw [e, if_pos ⟨a3, a4⟩]; exact ew)
    show (telA bl N K (nmA bl (tkT bl N p (pIx (fmT bl N p) j)))).getD 0 ∈ o
    rw [ew]; exact this
  · intro hr k hk w hw
    unfold onA at hw
    split at hw
    · next c =>
      obtain ⟨j, hj, ej⟩ := t2 ⟨k, hk⟩ c.1 c.2
      have := hr j.1 hj
      have e : AT bl N K p j.1 = w := by
        show (telA bl N K (nmA bl (tkT bl N p (pIx (fmT bl N p) j.1)))).getD 0 = w
        rw [ej, hw]; rfl
      rw [← e]; exact this
    · cases hw
def foF (m : Nat) : Nat → Nat → Prop := fun q k => orF m q k ∨ wrF m q k
/-- the reference finds the order -/
theorem r_fo (hf : 5000 ≤ mpN P) (hb : mpb P ≤ m) (hM : LyM σ m) (hK : K ≤ 40) (h256 : ∀ b, b ∈ bl → b < 256) (hG : GdT bl N K) (hn : lsF bl N K K = none) (hO : OnR σ m bl N K) (hN : NmR σ m bl N K) (h4 : mxI σ m 4 = 0) : ∃ τ, f_X12_findOrder P m σ = some τ ∧ ((∃ p, p < K ∧ p ∉ oTx bl N K ∧ (∀ q, q < p → q ∈ oTx bl N K) ∧ mxI τ m 4 = 4 ∧ mxI τ m 5 = q_n (tkT bl N p 0) ∧ Fz (foF m) σ τ) ∨ ((∀ q, q < K → q ∈ oTx bl N K) ∧ Fz (orF m) σ τ ∧ OrR τ m K (oTx bl N K))) := by
  obtain ⟨σ1, e1, f1, r1⟩ := r_clr (P := P) hf hb hM hK hN.1
  have hO1 : OnR σ1 m bl N K := fun v hv k hk => (f1.2.2.2 _ _ (fun z => by unfold orF at z; omega)).1.trans (hO v hv k hk)
  obtain ⟨σ2, e2, f2, r2⟩ := r_runs (P := P) (A := AT bl N K) (np := npT bl N) hf hb (f1.M hM) hK hO1 ((f1.2.2.2 _ _ (fun z => by unfold orF at z; omega)).1.trans hN.1) r1 (fun p hp o => rd_A h256 hG hn hp o)
  have f12 := f1.tr f2
  have hN2 : NmR σ2 m bl N K := NmR_f hN f12 (fun q k z => by unfold orF at z; omega)
  obtain ⟨σ3, e3, h3⟩ := r_hng (P := P) (bl := bl) (N := N) hf hb (f12.M hM) hK hN2 ((f12.2.2.2 _ _ (fun z => by unfold orF at z; omega)).1.trans h4) r2
  refine ⟨σ3, ?_, ?_⟩
  · unfold f_X12_findOrder
    rw [bd e1]
    try dsimp only
    rw [bd e2]
    try dsimp only
    rw [bd e3]
  · rcases h3 with ⟨a1, rfl⟩ | ⟨p, a1, a2, a3, a4, a5, a6⟩
    · exact Or.inr ⟨a1, f12, r2⟩
    · exact Or.inl ⟨p, a1, a2, a3, a4, a5, (f12.mo fun _ _ z => Or.inl z).tr (a6.mo fun _ _ z => Or.inr z)⟩
end IUS
