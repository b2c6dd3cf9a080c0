/-! ===== lc: cam, the reference reads ===== -/
section LCS
variable {P : mx_P} {σ σ0 σ1 σ2 τ : mx_S} {x m n t l p a N i k j u v c f s b q K : Nat} {bl : List Nat} {S : Nat → Nat → Prop} {e : Option Nat} {fs : Option (Nat × Nat)}
theorem gl26 : (gst 1).length = 26 := by decide +kernel
theorem gs_ne1 : ∀ f g : Fin 3, gst (9 + f.1) = gst (9 + g.1) → f = g := by decide +kernel
theorem wfm_k1 (h256 : ∀ b, b ∈ bl → b < 256) (hk : kdA bl s = 2) (h : wfm bl 1 s = some k) : ∃ f, f < 3 ∧ k = cgk f ∧ seg bl s (enA bl s) = gst (9 + f) := by
  unfold wfm at h
  have h1 := r_fst_lt h
  rw [gl26] at h1
  obtain ⟨h2, h3⟩ := of_decide_eq_true (r_fst_tr h)
  obtain ⟨f, ef⟩ := cg_k ⟨k, by omega⟩ h2
  dsimp only at ef
  subst ef
  obtain ⟨-, -, t3, t4, -, -, t6, -⟩ := cg_tab f
  have hg := wd_gnm h256 hk
  have hg2 := gnm_b hg
  have h4 : pk (gst (9 + f.1)) = pk (seg bl s (enA bl s)) := by
    rw [t3] at h3
    have := congrArg Int64.toInt h3
    rw [l_nT t4, l_nT (pn_63 hg2.1 hg.2.1)] at this
    omega
  exact ⟨f.1, f.2, rfl, (pn_inj _ _ t6 hg2.2 h4).symm⟩
theorem wfm_of1 (h256 : ∀ b, b ∈ bl → b < 256) (hk : kdA bl s = 2) (hf : f < 3) (h : seg bl s (enA bl s) = gst (9 + f)) : wfm bl 1 s = some (cgk f) := by
  obtain ⟨t1, t2, t3, -⟩ := cg_tab ⟨f, hf⟩
  dsimp only at t1 t2 t3
  cases e : wfm bl 1 s with
  | none =>
    have := fst_n0 e (cgk f) (by rw [gl26]; exact t1)
    exact absurd ⟨t2, by rw [t3, h]⟩ (of_decide_eq_false this)
  | some k =>
    obtain ⟨g, hg, rfl, h2⟩ := wfm_k1 h256 hk e
    have := gs_ne1 ⟨f, hf⟩ ⟨g, hg⟩ (h.symm.trans h2)
    rw [show f = g from congrArg Fin.val this]
theorem r_kn1 (hf : 5000 ≤ mpN P) (hM : LyM σ m) (h : TS σ m bl) (hs : s ≤ bl.length) (hk : TkR σ m bl s) : (∃ f, f < 3 ∧ kdA bl s = 2 ∧ wfm bl 1 s = some (cgk f) ∧ f_X12_camStatement P m σ = f_X12_camStatement_D43 P m (q_n f) σ) ∨ ((kdA bl s ≠ 2 ∨ wfm bl 1 s = none) ∧ f_X12_camStatement P m σ = f_X12_camStatement_D43 P m (-1) σ) := by
  have h256 := TS_256 h
  have w : ∀ f : Fin 3, f_X12_isWord P m (9 + f.1) σ = some (bI (decide (kdA bl s = 2 ∧ nmA bl s = gst (9 + f.1))), σ) := fun f => r_isw (by omega) hf hM h hs hk (cg_tab f).2.2.2.2.2.1
  have ys : ∀ f : Fin 3, kdA bl s = 2 → nmA bl s = gst (9 + f.1) → f_X12_isWord P m (9 + f.1) σ = some (1, σ) := fun f h1 h2 => by rw [w f, decide_eq_true ⟨h1, h2⟩]; rfl
  have no : ∀ f : Fin 3, ¬ (kdA bl s = 2 ∧ nmA bl s = gst (9 + f.1)) → f_X12_isWord P m (9 + f.1) σ = some (0, σ) := fun f h1 => by rw [w f, decide_eq_false h1]; rfl
  unfold f_X12_camStatement
  rw [bd (am_is hM)]
  by_cases a0 : kdA bl s = 2 ∧ nmA bl s = gst (9 + 0)
  · rw [bd2 (show f_X12_isWord P m 9 σ = some (1, σ) from ys 0 a0.1 a0.2), if_neg zi10]
    exact Or.inl ⟨0, by omega, a0.1, wfm_of1 h256 a0.1 (by omega) a0.2, rfl⟩
  rw [bd2 (show f_X12_isWord P m 9 σ = some (0, σ) from no 0 a0), if_pos rfl, bd (am_is hM)]
  by_cases a1 : kdA bl s = 2 ∧ nmA bl s = gst (9 + 1)
  · rw [bd2 (show f_X12_isWord P m 10 σ = some (1, σ) from ys 1 a1.1 a1.2), if_neg zi10]
    exact Or.inl ⟨1, by omega, a1.1, wfm_of1 h256 a1.1 (by omega) a1.2, rfl⟩
  rw [bd2 (show f_X12_isWord P m 10 σ = some (0, σ) from no 1 a1), if_pos rfl, bd (am_is hM)]
  by_cases a2 : kdA bl s = 2 ∧ nmA bl s = gst (9 + 2)
  · rw [bd2 (show f_X12_isWord P m 11 σ = some (1, σ) from ys 2 a2.1 a2.2), if_neg zi10]
    exact Or.inl ⟨2, by omega, a2.1, wfm_of1 h256 a2.1 (by omega) a2.2, rfl⟩
  rw [bd2 (show f_X12_isWord P m 11 σ = some (0, σ) from no 2 a2), if_pos rfl]
  refine Or.inr ⟨?_, rfl⟩
  by_cases c2 : kdA bl s = 2
  · right
    cases e : wfm bl 1 s with
    | none => rfl
    | some k =>
      obtain ⟨f, hf6, -, h2⟩ := wfm_k1 h256 c2 e
      have hc : f = 0 ∨ f = 1 ∨ f = 2 := by omega
      rcases hc with rfl | rfl | rfl
      · exact absurd ⟨c2, h2⟩ a0
      · exact absurd ⟨c2, h2⟩ a1
      · exact absurd ⟨c2, h2⟩ a2
  · exact Or.inl c2
theorem r_cst (hN : N = 4000) (hf : 20000 ≤ mpN P) (hb : mpb P ≤ m) (hp : sqA bl N 1 u ≤ bl.length) (hu : u < 3000) (h : RcI σ0 m bl N u σ) (k0 : kdA bl (tkI bl N (sqA bl N 1 u) 0) ≠ 0) : ∃ τ, f_X12_camStatement P m σ = some τ ∧ RcP σ0 m bl N u τ := by
  obtain ⟨a1, a2, a3, a4, a5, a6, a7⟩ := id h
  have hM := a1.1
  have hlen := a1.2.1.1
  have hs := tkI_le (N := N) hp 0
  have s0 : sqA bl N 1 u ≤ tkI bl N (sqA bl N 1 u) 0 := hs.1
  rcases r_kn1 (P := P) (by omega) hM a1.2.1 hs.2 a7 with ⟨f, f3, k2, hw, ek⟩ | ⟨hn, ek⟩
  · have ef : cfF bl N u = f := by
      unfold cfF
      rw [hw]
      exact (cg_tab ⟨f, f3⟩).2.2.2.2.1
    have J0 : RcJ σ0 m bl N u 0 (cmLs bl N u) σ := ⟨a1, a2, a3, fun z hz => Nat.le_trans (a4 z hz) s0, a5, a6, a7⟩
    rw [ek]
    unfold f_X12_camStatement_D43
    rw [if_pos (show 0 ≤ q_n f by rw [q_le, q_i0, q_nT (by omega)]; omega), bd (am_gI hM), a5]
    by_cases u30 : u < 30
    · have e1 : fE1 bl N u = cmLs bl N u := by
        unfold fE1
        rw [if_neg (by omega)]
        cases cmLs bl N u <;> rfl
      rw [if_neg (show ¬ q_n (min u 30) = (30 : Int32) from fun y => by have := (q_nI (k := min u 30) (l := 30) (by omega) (by omega)).mp y; omega)]
      unfold f_X12_camStatement_D77
      rw [bd (am_gI hM), a5, if_neg (show ¬ (30 : Int32) ≤ q_n (min u 30) by rw [show (30 : Int32) = q_n 30 from rfl, q_nLe (by omega) (by omega)]; omega), bd (am_gI hM), a5, show min u 30 = u by omega, ← (rcW_p u30).1]
      exact r_c1 hN hf hb hp f3 ef k2 hw hlen (by rw [e1]; exact J0)
    · obtain ⟨s1, e1, F1, f1⟩ := r_foE (P := P) (c := 6) (q := tkI bl N (sqA bl N 1 u) 0) hM hb a3 (by omega) (by omega) (by omega) J0.2.2.2.1
      have ee : fE1 bl N u = orE (cmLs bl N u) (some (6, tkI bl N (sqA bl N 1 u) 0)) := by
        unfold fE1; rw [if_pos (by omega)]
      have J1 : RcJ σ0 m bl N u 0 (fE1 bl N u) s1 := RcJ_fn J0 f1 (by rw [ee]; exact F1) (fun z hz => by
        rw [ee] at hz
        cases hl : cmLs bl N u with
        | some y => rw [hl] at hz; obtain rfl := Option.some.inj hz; exact J0.2.2.2.1 _ hl
        | none => rw [hl] at hz; obtain rfl := Option.some.inj hz; exact Nat.le_refl _)
      have M1 := J1.1.1
      have c80 : mxI s1 m 80 = q_n (min u 30) := J1.2.2.2.2.1
      rw [if_pos (show q_n (min u 30) = (30 : Int32) by rw [show min u 30 = 30 by omega]; rfl), bd (am_gI hM), a7.2.2.1, bd (am_is hM), show (6 : Int32) = q_n 6 from rfl, bd e1]
      unfold f_X12_camStatement_D77
      rw [bd (am_gI M1), c80, if_pos (show (30 : Int32) ≤ q_n (min u 30) by rw [show (30 : Int32) = q_n 30 from rfl, q_nLe (by omega) (by omega)]; omega), show (-1 : Int32) = rcW u by unfold rcW; rw [if_neg u30]]
      exact r_c1 hN hf hb hp f3 ef k2 hw hlen J1
  · rw [ek]
    obtain ⟨τ, e, h3, h4, fz⟩ := r_wrg (P := P) (w := 1) (v := q_n (tkI bl N (sqA bl N 1 u) 0)) hM hb a2.1
    unfold f_X12_camStatement_D43
    rw [if_neg (by decide), bd (am_gI hM), a7.2.2.1, bd (am_is hM), bd e]
    exact ⟨τ, rfl, Or.inr ⟨_, Or.inl ⟨k0, hn, rfl⟩, RcB_f a1 fz (fun q j z => by unfold wrF at z; unfold rcF; omega), h3, h4⟩⟩
theorem rk0 {v : Int32} : rk v = 0 ↔ v = 0 := by
  unfold rk
  constructor
  · intro h
    split at h
    · exact absurd h (by decide)
    · split at h
      · exact absurd h (by decide)
      · split at h
        · exact absurd h (by decide)
        · exact h
  · intro h; rw [h]; decide
theorem r_ctx (hN : N = 4000) (hf : 20000 ≤ mpN P) (hb : mpb P ≤ m) (h : RcI σ0 m bl N 0 σ) : ∃ K e τ, Txt bl N 1 K e ∧ mx_lp (f_X12_cam_L9 P m) (mpN P) σ = some τ ∧ ((e = none ∧ RcI σ0 m bl N K τ) ∨ ∃ q, e = some q ∧ RcX σ0 m bl q τ) := by
  have hlen := h.1.2.1.1
  obtain ⟨τ, eL, K, e, hT, hr⟩ := q_for (f_X12_cam_L9 P m) (fun u s => ((∀ j, j < u → ∃ k n, StO bl N 1 (sqA bl N 1 j) k n) ∧ RcI σ0 m bl N u s) ∨ (∃ K q, Txt bl N 1 K (some q) ∧ RcX σ0 m bl q s)) (fun τ => ∃ K e, Txt bl N 1 K e ∧ ((e = none ∧ RcI σ0 m bl N K τ) ∨ ∃ q, e = some q ∧ RcX σ0 m bl q τ)) 2003
    (by
      rintro u s hu (⟨hA, hI⟩ | ⟨K, q, hT, hX⟩)
      · have hsq := (sqA_b hA u (Nat.le_refl _)).2
        obtain ⟨a1, a2, a3, a4, a5, a6, a7⟩ := id hI
        show (∃ t', f_X12_cam_B9 P m s = some (.inl t') ∧ _) ∨ (∃ r, f_X12_cam_B9 P m s = some (.inr r) ∧ _)
        unfold f_X12_cam_B9
        rw [bd (am_gI a1.1), a2.1, if_pos rfl, bd (am_gI a1.1), a7.2.1]
        by_cases k0 : kdA bl (tkI bl N (sqA bl N 1 u) 0) = 0
        · right
          rw [if_pos (rk0.mpr k0)]
          exact ⟨_, rfl, u, none, ⟨hA, k0⟩, Or.inl ⟨rfl, hI⟩⟩
        · left
          obtain ⟨s1, e1, hP⟩ := r_cst (P := P) hN hf hb hsq (by omega) hI k0
          rw [if_neg (fun y => k0 (rk0.mp y)), bd (am_is a1.1), bd e1]
          refine ⟨_, rfl, ?_⟩
          rcases hP with ⟨hO, hI'⟩ | ⟨q, hF, hX⟩
          · refine Or.inl ⟨fun j hj => ?_, hI'⟩
            by_cases ej : j = u
            · rw [ej]; exact hO
            · exact hA j (by omega)
          · exact Or.inr ⟨u, q, ⟨hA, hF⟩, hX⟩
      · right
        show ∃ r, f_X12_cam_B9 P m s = some (.inr r) ∧ _
        unfold f_X12_cam_B9
        rw [bd (am_gI hX.1.1), hX.2.1, if_neg (by decide)]
        exact ⟨_, rfl, K, some q, hT, Or.inr ⟨q, rfl, hX⟩⟩)
    (by
      rintro s (⟨hA, hI⟩ | ⟨K, q, hT, hX⟩)
      · have := sqA_b hA 2003 (Nat.le_refl _)
        omega
      · show ∃ r, f_X12_cam_B9 P m s = some (.inr r) ∧ _
        unfold f_X12_cam_B9
        rw [bd (am_gI hX.1.1), hX.2.1, if_neg (by decide)]
        exact ⟨_, rfl, K, some q, hT, Or.inr ⟨q, rfl, hX⟩⟩)
    2003 0 σ (mpN P) (by omega) (Or.inl ⟨fun j hj => by omega, h⟩) (by omega)
  exact ⟨K, e, τ, hT, eL, hr⟩
/-- the sums -/
theorem r_sms (hf : 5000 ≤ mpN P) (hM : LyM σ m) (hb : mpb P ≤ m) (ho : CmP K (cmW' bl N) (cfF bl N) (cmL' bl N) (cmT' bl N) (cmB' bl N)) (h80 : mxI σ m 80 = q_n K) (hv : ∀ v, v < K → CVr σ m bl N v) (h3 : mxI σ m 3 = q_n bl.length) (h45 : mxI σ m 4 = 0 ∧ mxI σ m 5 = 0) : ∃ τ, f_X12_camSums P m σ = some τ ∧ Fz (fun q j => q = m ∧ (j = 4 ∨ j = 5 ∨ j = 8 ∨ j = 9 ∨ j = 10)) σ τ ∧ mxI τ m 4 = q_n (smT bl N K) ∧ mxI τ m 5 = q_n (if smT bl N K = 0 then 0 else bl.length) := by
  have k30 := ho.1
  obtain ⟨σ1, e1⟩ : ∃ σ1, σ1 = mx_setI σ m 10 0 := ⟨_, rfl⟩
  have F1 : Fz (SLw m) σ σ1 := by rw [e1]; exact Fz.rf.sI ⟨rfl, by omega⟩ _
  have M1 := F1.M hM
  have cvs : ∀ s, Fz (SLw m) σ1 s → ∀ v, v < K → CVr s m bl N v := fun s F v hv' => CVr_f (CVr_f (hv v hv') F1 (fun q j z => by unfold SLw at z; omega)) F (fun q j z => by unfold SLw at z; omega)
  have c80 : ∀ s, Fz (SLw m) σ1 s → mxI s m 80 = q_n K := fun s F => (F.gi (fun z => by unfold SLw at z; omega)).trans ((F1.gi (fun z => by unfold SLw at z; omega)).trans h80)
  obtain ⟨⟨r1, r2, s⟩, eL, hr1, F, g⟩ := q_for (f_X12_camSums_L15 P m) (fun i t => t.1 = q_n (kqs i (cmW' bl N)) ∧ t.2.2.2.1 = q_n i ∧ Fz (SLw m) σ1 t.2.2.2.2 ∧ RLo t.2.2.2.2 m t.2.1 t.2.2.1 (liP (cfF bl N) (cmT' bl N) (cmB' bl N) i)) (fun r => r.1 = q_n (kqs K (cmW' bl N)) ∧ Fz (SLw m) σ1 r.2.2 ∧ ∃ v, RLo r.2.2 m r.2.1 v (liP (cfF bl N) (cmT' bl N) (cmB' bl N) K)) K
    (by
      rintro i ⟨v1, v2, v4, v6, s⟩ hi ⟨i1, i2, F, g⟩
      dsimp only at i1 i2 F g
      subst i1 i2
      left
      have Ms := F.M M1
      obtain ⟨c1, c2, c3, c4⟩ := cvs s F i hi
      obtain ⟨w1, w2, kk2, oo⟩ := ho.2 i hi
      have okp := OKf_lp ho (show i ≤ K by omega)
      show ∃ t', f_X12_camSums_B15 P m (q_n (kqs i (cmW' bl N))) v2 v4 (q_n i) s = some (.inl t') ∧ _
      unfold f_X12_camSums_B15
      rw [bd (am_gI Ms), c80 s F, if_neg (qn_ge hi (by omega)), bd (am_r82 Ms), bd (am_g82 Ms (by omega)), c2, Option.bind_some, q_nA, bd (am_r81 Ms), bd (am_g81 Ms (by omega)), c1]
      have D : ∀ u (c d : Int), B64 u c 1000000000000000 → B64 (mxL s (m + 57) i) d 1000000000000000 → 1 ≤ d → fadd (liP (cfF bl N) (cmT' bl N) (cmB' bl N) i) c d = liP (cfF bl N) (cmT' bl N) (cmB' bl N) (i + 1) → ∃ t', f_X12_camSums_D67_15 P m (q_n (kqs i (cmW' bl N) + cmW' bl N i)) (q_n i) u v4 v2 m s = some (.inl t') ∧ t'.1 = q_n (kqs (i + 1) (cmW' bl N)) ∧ t'.2.2.2.1 = q_n (i + 1) ∧ Fz (SLw m) σ1 t'.2.2.2.2 ∧ RLo t'.2.2.2.2 m t'.2.1 t'.2.2.1 (liP (cfF bl N) (cmT' bl N) (cmB' bl N) (i + 1)) := fun u c d bu bd' hd he => by
        obtain ⟨s1, e1, f1, g1⟩ := r_addL (P := P) hf Ms hb g okp bu bd' hd
        have M1' := f1.M Ms
        unfold f_X12_camSums_D67_15
        rw [bd (am_r84 Ms), bd (am_g84 Ms (by omega)), bd (am_is Ms), bd e1, bd (am_gL M1'), bd (am_gL M1'), Option.bind_some, q_nS]
        rw [he] at g1
        exact ⟨_, rfl, rfl, rfl, F.tr f1, g1⟩
      by_cases k0 : cfF bl N i = 0
      · obtain ⟨d1, d2, d3⟩ := c4 k0
        rw [if_neg (show ¬ q_n (cfF bl N i) = (2 : Int32) by rw [k0]; decide), bd (am_r83 Ms), bd (am_g83 Ms (by omega)), d1]
        refine D 0 0 1 ⟨rfl, by decide⟩ (by rw [d2]; exact ⟨rfl, by decide⟩) (by omega) ?_
        rw [fadd_0 okp]
        show _ = if cfF bl N i = 0 then _ else _
        rw [if_pos k0]
      · obtain ⟨l1, l4, t1, t2, b1, b2, gg⟩ := oo k0
        obtain ⟨d1, d2, d3⟩ := c3 k0
        have bT : B64 (mxL s (m + 56) i) (cmT' bl N i) 1000000000000000 := ⟨d1, by omega⟩
        have bB : B64 (mxL s (m + 57) i) (cmB' bl N i) 1000000000000000 := ⟨d2, by omega⟩
        have un : liP (cfF bl N) (cmT' bl N) (cmB' bl N) (i + 1) = fadd (liP (cfF bl N) (cmT' bl N) (cmB' bl N) i) (cmT (cfF bl N) (cmT' bl N) i) (cmB' bl N i) := by
          show (if cfF bl N i = 0 then _ else _) = _
          rw [if_neg k0]
        by_cases K2 : cfF bl N i = 2
        · rw [if_pos (show q_n (cfF bl N i) = (2 : Int32) by rw [K2]; rfl), bd (am_r83 Ms), bd (am_g83 Ms (by omega))]
          refine D _ (-cmT' bl N i) (cmB' bl N i) (b64N bT (by omega)) bB b1 ?_
          rw [un]; unfold cmT; rw [if_pos K2]
        · rw [if_neg (show ¬ q_n (cfF bl N i) = (2 : Int32) from fun y => K2 ((q_nI (l := 2) (by omega) (by omega)).mp y)), bd (am_r83 Ms), bd (am_g83 Ms (by omega))]
          refine D _ (cmT' bl N i) (cmB' bl N i) bT bB b1 ?_
          rw [un]; unfold cmT; rw [if_neg K2])
    (by
      rintro ⟨v1, v2, v4, v6, s⟩ ⟨i1, i2, F, g⟩
      dsimp only at i1 i2 F g
      subst i1 i2
      have Ms := F.M M1
      show ∃ r, f_X12_camSums_B15 P m (q_n (kqs K (cmW' bl N))) v2 v4 (q_n K) s = some (.inr r) ∧ _
      unfold f_X12_camSums_B15
      rw [bd (am_gI Ms), c80 s F, if_pos ((q_nLe (by omega) (by omega)).mpr (Nat.le_refl _))]
      exact ⟨_, rfl, rfl, F, v4, g⟩)
    K 0 ((0 : Int32), (0 : Int64), (1 : Int64), (0 : Int32), σ1) (mpN P) (by omega) ⟨rfl, rfl, Fz.rf, by rw [e1]; exact ⟨sI_e, rfl, rfl⟩⟩ (by omega)
  dsimp only at hr1 F g
  subst hr1
  obtain ⟨v4, g⟩ := g
  have Ms := F.M M1
  have SM : ∀ q j, SLw m q j → (q = m ∧ (j = 4 ∨ j = 5 ∨ j = 8 ∨ j = 9 ∨ j = 10)) := fun q j z => by unfold SLw at z; omega
  have FS : Fz (fun q j => q = m ∧ (j = 4 ∨ j = 5 ∨ j = 8 ∨ j = 9 ∨ j = 10)) σ s := (F1.tr F).mo SM
  have k4 : ∀ j, j < 8 → mxI s m j = mxI σ m j := fun j hj => (F.gi (fun z => by unfold SLw at z; omega)).trans (F1.gi (fun z => by unfold SLw at z; omega))
  have kb := kqs_b ho (Nat.le_refl K)
  have un0 : smT bl N K = if kqs K (cmW' bl N) ≠ 360 then 7 else match liP (cfF bl N) (cmT' bl N) (cmB' bl N) K with | none => 8 | some z => if z.1 = 0 then 0 else 8 := rfl
  have s4 : mxI s m 4 = 0 := (k4 4 (by omega)).trans h45.1
  have s5 : mxI s m 5 = 0 := (k4 5 (by omega)).trans h45.2
  have s3 : mxI s m 3 = q_n bl.length := (k4 3 (by omega)).trans h3
  have WF : ∀ q j, wrF m q j → (q = m ∧ (j = 4 ∨ j = 5 ∨ j = 8 ∨ j = 9 ∨ j = 10)) := fun q j z => by unfold wrF at z; omega
  unfold f_X12_camSums
  rw [bd (am_pZ hM hb (Or.inl rfl)), ← e1, bd eL]
  show ∃ τ, (if q_n (kqs K (cmW' bl N)) = (360 : Int32) then f_X12_camSums_D111 P m r2 s else (mg_I s m 12 3).bind fun x55 => (mx_is s m 12).bind fun i57 => (f_X12_wrong P m (7 : Int32) x55 s).bind fun σ59 => f_X12_camSums_D111 P m r2 σ59) = some τ ∧ _
  have okp := OKf_lp ho (Nat.le_refl K)
  by_cases z : kqs K (cmW' bl N) = 360
  · rw [if_pos (show q_n (kqs K (cmW' bl N)) = (360 : Int32) by rw [z]; rfl)]
    rw [if_neg (fun y => y z)] at un0
    have D124 : smT bl N K = 8 → ∃ τ, f_X12_camSums_D124 P m s = some τ ∧ Fz (fun q j => q = m ∧ (j = 4 ∨ j = 5 ∨ j = 8 ∨ j = 9 ∨ j = 10)) σ τ ∧ mxI τ m 4 = q_n (smT bl N K) ∧ mxI τ m 5 = q_n (if smT bl N K = 0 then 0 else bl.length) := fun e8 => by
      obtain ⟨τ, e, h3', h4', fz⟩ := r_wrg (P := P) (w := 8) (v := q_n bl.length) Ms hb s4
      refine ⟨τ, ?_, FS.tr (fz.mo WF), by rw [h3', e8]; rfl, by rw [h4', e8, if_neg (by omega)]⟩
      unfold f_X12_camSums_D124 f_X12_camSums_D134
      rw [bd (am_gI Ms), s3, bd (am_is Ms), bd e]
    unfold f_X12_camSums_D111 f_X12_camSums_D134
    rw [bd (am_gI Ms)]
    cases hz : liP (cfF bl N) (cmT' bl N) (cmB' bl N) K with
    | none =>
      rw [hz] at g un0
      rw [if_neg (by rw [g.1]; decide)]
      exact D124 un0
    | some y =>
      rw [hz] at g un0
      dsimp only at un0
      rw [if_pos g.1]
      by_cases y0 : y.1 = 0
      · rw [if_pos y0] at un0
        rw [if_pos (q_cmp0.mpr (Int64.toInt.inj (by rw [g.2.1, y0]; rfl)))]
        exact ⟨s, rfl, FS, by rw [s4, un0]; rfl, by rw [s5, un0, if_pos rfl]; rfl⟩
      · rw [if_neg y0] at un0
        rw [if_neg (fun w => y0 (by rw [← g.2.1, q_cmp0.mp w]; rfl))]
        exact D124 un0
  · rw [if_neg (show ¬ q_n (kqs K (cmW' bl N)) = (360 : Int32) from fun y => z ((q_nI (l := 360) (by omega) (by omega)).mp y))]
    rw [if_pos z] at un0
    obtain ⟨s1, e, h3', h4', fz⟩ := r_wrg (P := P) (w := 7) (v := q_n bl.length) Ms hb s4
    have M1' := fz.M Ms
    have c3' : mxI s1 m 3 = q_n bl.length := (fz.gi (fun z => by unfold wrF at z; omega)).trans s3
    rw [bd (am_gI Ms), s3, bd (am_is Ms), bd e]
    have wB : ∀ w v : Int32, f_X12_wrong P m w v s1 = some s1 := fun w v => r_wrB (c := 7) M1' (by omega) (by omega) h3'
    refine ⟨s1, ?_, FS.tr (fz.mo WF), by rw [h3', un0]; rfl, by rw [h4', un0, if_neg (by omega)]⟩
    unfold f_X12_camSums_D111 f_X12_camSums_D124 f_X12_camSums_D134
    rw [bd (am_gI M1')]
    have all : ((mg_I s1 m 12 3).bind fun x48 => (mx_is s1 m 12).bind fun i50 => (f_X12_wrong P m (8 : Int32) x48 s1).bind fun σ52 => some σ52) = some s1 := by
      rw [bd (am_gI M1'), bd (am_is M1'), bd (wB _ _)]
    rw [all]
    split
    · split <;> rfl
    · rfl
end LCS
