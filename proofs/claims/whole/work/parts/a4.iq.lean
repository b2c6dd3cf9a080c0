/-! ===== iq: the text of a linkage, the reference's ===== -/
section IQS
variable {P : mx_P} {σ σ0 σ1 σ2 τ : mx_S} {x m n t l p q a N i k j u v w K c s f r : Nat} {bl : List Nat} {S : Nat → Nat → Prop}
def StQ (σ0 : mx_S) (m : Nat) (bl : List Nat) (N u : Nat) (τ : mx_S) : Prop := ((∃ k n, StO bl N 0 (sqA bl N 0 u) k n) ∧ RQ σ0 m bl N (u + 1) (u + 1) 0 τ ∧ TkR τ m bl (tkI bl N (sqA bl N 0 (u + 1)) 0)) ∨ ∃ q, StF bl N 0 (sqA bl N 0 u) q ∧ RXb σ0 m bl q τ
theorem o_ends (hN : N = 4000) (hf : 20000 ≤ mpN P) (hb : mpb P ≤ m) (hh : hdU bl N u) (h : RX σ0 m bl N u (nT bl N u) σ) : ∃ τ, f_X12_ends P m σ = some τ ∧ StQ σ0 m bl N u τ := by
  have hG : GL 0 (kfl (fmT bl N u)) (nT bl N u) := (lf_n ⟨_, hh.2.2.1⟩).1
  unfold f_X12_ends f_X12_ends_D13
  rcases h with ⟨h1, hR, hk⟩ | ⟨i, h1, h2⟩
  · have hM := hR.1.1
    have h256 := TS_256 hR.1.2.1
    by_cases c : kdA bl (tkT bl N u (nT bl N u)) = 59
    · have hSt : StO bl N 0 (sqA bl N 0 u) (kfl (fmT bl N u)) (nT bl N u) := ⟨hh.2.1, hh.2.2.2, hG, h1, c⟩
      have hfit : ∀ k, k < nT bl N u → fit (lT bl N u k) (kdA bl (tkT bl N u k)) = true := fun i hi => by
        have := fst_n0 h1 i hi
        rw [msU_e] at this
        cases e : fit (lT bl N u i) (kdA bl (tkT bl N u i)) with
        | true => rfl
        | false => rw [e] at this; cases this
      have e1 : sqA bl N 0 (u + 1) = psI bl N (sqA bl N 0 u) (nT bl N u + 2) := nxA_e hSt
      have e2 : sqA bl N 0 (u + 1) = enA bl (tkT bl N u (nT bl N u)) := by rw [e1, tk_e]; rfl
      have hs := tkT_le (N := N) (u := u) (j := nT bl N u) hh.1
      have he := enA_le (bs := bl) hs
      have hQ := RQ_n h256 hh hfit (by rw [e2]; exact he.1) hR
      have ty : f_X12_takes P m 59 σ = some (1, σ) := r_tkY hM hR.2.1.1 (by rw [hk.2.1, c]; rfl)
      obtain ⟨τ, e, q1, q2⟩ := r_scn (P := P) hN hf hb hQ (p := enA bl (tkT bl N u (nT bl N u))) (hk.1 (by rw [c]; decide)) he.2.1
      rw [bd (am_is hM), bd2 ty, if_neg zi10, bd (am_is hM), bd e]
      refine ⟨τ, rfl, Or.inl ⟨⟨_, _, hSt⟩, q1, ?_⟩⟩
      show TkR τ m bl (skN bl N (sqA bl N 0 (u + 1)))
      rw [e2]; exact q2
    · obtain ⟨τ, e, h3, h4, f⟩ := r_tkN (P := P) (w := 59) hM hb hR.2.1.1 (by rw [hk.2.1]; exact fun z => c (rk59 z))
      rw [bd (am_is hM), bd2 e, if_pos rfl]
      exact ⟨τ, rfl, Or.inr ⟨_, Or.inr ⟨_, _, _, hh.2.1, hh.2.2.2, hG, Or.inr ⟨h1, rfl, c⟩, rfl⟩, RBs_f hR.1 f (fun q j z => by unfold wrF at z; unfold rlF; omega), h3, h4.trans hk.2.2.1⟩⟩
  · rw [bd (am_is h2.1.1), bd2 (r_tkB h2.1.1 h2.2.1), if_pos rfl]
    exact ⟨σ, rfl, Or.inr ⟨_, Or.inr ⟨_, _, _, hh.2.1, hh.2.2.2, hG, Or.inl h1, rfl⟩, h2⟩⟩
theorem r_stm (hN : N = 4000) (hf : 20000 ≤ mpN P) (hb : mpb P ≤ m) (hu : u < 460) (hp : ∀ v, v ≤ u → sqA bl N 0 v ≤ bl.length) (hF : ∀ v, v < u → fmT bl N v < 6) (hR : RQ σ0 m bl N u u 0 σ) (hk : TkR σ m bl (tkI bl N (sqA bl N 0 u) 0)) (k0 : kdA bl (tkI bl N (sqA bl N 0 u) 0) ≠ 0) : ∃ τ, f_X12_statement P m σ = some τ ∧ StQ σ0 m bl N u τ := by
  obtain ⟨hM, hTS, hFz⟩ := id hR.1
  have hlen := hTS.1
  have hpu := hp u (Nat.le_refl _)
  have hs := (tkI_le (N := N) hpu 0).2
  unfold f_X12_statement
  rcases r_kind (P := P) (by omega) hM hTS hs hk with ⟨f, hf6, k2, hw, ek⟩ | ⟨hn, ek⟩
  · have hfm : fmT bl N u = f := by
      unfold fmT
      rw [hw]
      exact (kf_tab ⟨f, hf6⟩).1.2.2.2.2.1
    have hh : hdU bl N u := ⟨hpu, k2, by omega, by rw [hfm]; exact hw⟩
    have hF' : ∀ v, v ≤ u → fmT bl N v < 6 := fun v hv => by
      by_cases e : v = u
      · rw [e]; exact hh.2.2.1
      · exact hF v (by omega)
    obtain ⟨σ9, e9, hR9, hk9⟩ := r_scn (P := P) hN hf hb hR (p := enA bl (tkI bl N (sqA bl N 0 u) 0)) (hk.1 (by rw [k2]; decide)) (enA_le hs).2.1
    have hk9' : TkR σ9 m bl (tkT bl N u 0) := hk9
    have hM9 := hR9.1.1
    have hs0 := tkT_le (N := N) (u := u) (j := 0) hpu
    have he0 := enA_le (bs := bl) hs0
    rw [bd (am_is hM), bd2 ek, if_pos (by rw [show (0 : Int32) = q_n 0 from rfl, q_nLe (by omega) (by omega)]; omega), bd (am_is hM), bd e9, bd (am_is hM9)]
    by_cases c2 : kdA bl (tkT bl N u 0) = 2
    · have ty : f_X12_takes P m 1 σ9 = some (1, σ9) := r_tkY hM9 hR9.2.1.1 (by rw [hk9'.2.1, c2]; rfl)
      have h14 := hk9'.1 (by rw [c2]; decide)
      obtain ⟨τ1, e1, f1, fs, a1, a2⟩ := r_dup (P := P) (kv := q_n f) hf hb hu (fun v hv => tkT_le (hp v hv)) hR9 hk9' c2
      have hM1 := f1.M hM9
      have g1 : ∀ k, 8 ≤ k → mxI τ1 m k = mxI σ9 m k := fun k a => (f1.2.2.2 _ _ (fun z => by unfold fnF at z; omega)).1
      rw [bd2 ty, if_neg zi10, bd e1]
      dsimp only
      rw [bd (am_gI hM1), g1 38 (by omega), hR9.2.2.1.1]
      obtain ⟨τ2, e2, hL2, f2⟩ := r_dup6 (P := P) (kv := q_n f) hM1 hb hh hu (by omega) ((g1 16 (by omega)).trans hk9'.2.2.1) a1 a2
      have hM2 := f2.M hM1
      have g2 : ∀ k, 8 ≤ k → mxI τ2 m k = mxI σ9 m k := fun k a => (f2.2.2.2 _ _ (fun z => by unfold fnF at z; omega)).1.trans (g1 k a)
      obtain ⟨τ3, e3, f3, v38, v22, v23, v24⟩ := r_D120 (P := P) (f := f) hf hb hM2 hu he0.1 (by omega) ((g2 38 (by omega)).trans hR9.2.2.1.1) ((g2 14 (by omega)).trans h14) ((g2 16 (by omega)).trans hk9'.2.2.1)
      have hQ : RQ σ0 m bl N (u + 1) u 1 τ3 := RQ_C hh hF' hR9 (f1.tr f2) hL2 f3 v38 v22 v23 (by rw [hfm]; exact v24)
      obtain ⟨τ4, e4, hQ4, hk4⟩ := r_scn (P := P) hN hf hb hQ (p := enA bl (tkT bl N u 0)) ((f3.2.2.2 _ _ (fun z => by unfold d0F at z; omega)).1.trans ((g2 14 (by omega)).trans h14)) he0.2.1
      have hX : RX σ0 m bl N u 1 τ4 := by
        refine Or.inl ⟨?_, hQ4, hk4⟩
        have h67 : lT bl N u 0 = 67 := (lf_n ⟨_, hh.2.2.1⟩).2.2.2
        rw [r_fst, show r_fst (msU bl N u) 0 = none from rfl, msU_e, h67, c2]
        rfl
      obtain ⟨τ5, e5, hX5⟩ := o_parts (P := P) hN hf hb hh hF' hu hX
      obtain ⟨τ6, e6, h6⟩ := o_ends (P := P) hN hf hb hh hX5
      rw [hfm] at e5
      rw [e2, e3]
      unfold f_X12_statement_D223
      rw [bd (am_is hQ.1.1), bd e4, bd (am_is hQ4.1.1), bd e5, bd (am_is (RX_M hX5)), bd e6]
      exact ⟨τ6, rfl, h6⟩
    · obtain ⟨τ, e, h3, h4, g⟩ := r_tkN (P := P) (w := 1) hM9 hb hR9.2.1.1 (by rw [hk9'.2.1]; exact fun z => c2 (rk1 z))
      rw [bd2 e, if_pos rfl]
      have hG : GL 0 (kfl (fmT bl N u)) (nT bl N u) := (lf_n ⟨_, hh.2.2.1⟩).1
      have h67 : lT bl N u 0 = 67 := (lf_n ⟨_, hh.2.2.1⟩).2.2.2
      have hn : 3 ≤ nT bl N u := (n_6 ⟨_, hh.2.2.1⟩).2
      have hfs : r_fst (msU bl N u) (nT bl N u) = some 0 := fst_at (by omega) (by
        rw [msU_e, h67]
        unfold fit
        rw [if_pos (Or.inl rfl), decide_eq_false c2]; rfl) rfl
      exact ⟨τ, rfl, Or.inr ⟨_, Or.inr ⟨_, _, _, hh.2.1, hh.2.2.2, hG, Or.inl hfs, rfl⟩, RBs_f hR9.1 g (fun q j z => by unfold wrF at z; unfold rlF; omega), h3, h4.trans hk9'.2.2.1⟩⟩
  · obtain ⟨τ, e, h3, h4, g⟩ := r_wrg (P := P) (w := 1) (v := q_n (tkI bl N (sqA bl N 0 u) 0)) hM hb hR.2.1.1
    rw [bd (am_is hM), bd2 ek, if_neg (show ¬ (0 : Int32) ≤ -1 by decide), bd (am_gI hM), hk.2.2.1, bd (am_is hM), bd e]
    exact ⟨τ, rfl, Or.inr ⟨_, Or.inl ⟨k0, hn, rfl⟩, RBs_f hR.1 g (fun q j z => by unfold wrF at z; unfold rlF; omega), h3, h4⟩⟩
theorem fm_6 (h256 : ∀ b, b ∈ bl → b < 256) (hp : sqA bl N 0 v ≤ bl.length) (h : StO bl N 0 (sqA bl N 0 v) k n) : fmT bl N v < 6 := by
  obtain ⟨f, hf, h1, h2, -⟩ := StO_t h256 hp h
  unfold fmT
  rw [h.2.1]
  show fmA (gst 0) k < 6
  omega
def TxQ (σ0 : mx_S) (m : Nat) (bl : List Nat) (N K : Nat) (e : Option Nat) (τ : mx_S) : Prop := match e with
  | none => RQ σ0 m bl N K K 0 τ
  | some q => RXb σ0 m bl q τ
/-- the reference reads a text -/
theorem r_txt (hN : N = 4000) (hf : 20000 ≤ mpN P) (hb : mpb P ≤ m) (h0 : RQ σ0 m bl N 0 0 0 σ) (hk : TkR σ m bl (tkI bl N 0 0)) : ∃ τ, mx_lp (f_X12_linkage_L19 P m) (mpN P) σ = some τ ∧ ∃ K e, Txt bl N 0 K e ∧ TxQ σ0 m bl N K e τ := by
  have hTS := h0.1.2.1
  have hlen := hTS.1
  have h256 := TS_256 hTS
  have bad : ∀ (τ : mx_S) K q, Txt bl N 0 K (some q) → RXb σ0 m bl q τ → f_X12_linkage_L19 P m τ = some (.inr τ) ∧ ∃ K e, Txt bl N 0 K e ∧ TxQ σ0 m bl N K e τ := fun τ K q h1 h2 => by
    refine ⟨?_, K, some q, h1, h2⟩
    show f_X12_linkage_B19 P m τ = _
    unfold f_X12_linkage_B19
    rw [bd (am_gI h2.1.1), h2.2.1, if_neg zi10]
  refine q_for (f_X12_linkage_L19 P m) (fun u τ => ((∀ j, j < u → ∃ k n, StO bl N 0 (sqA bl N 0 j) k n) ∧ RQ σ0 m bl N u u 0 τ ∧ TkR τ m bl (tkI bl N (sqA bl N 0 u) 0)) ∨ ∃ K q, Txt bl N 0 K (some q) ∧ RXb σ0 m bl q τ) (fun τ => ∃ K e, Txt bl N 0 K e ∧ TxQ σ0 m bl N K e τ) 445 ?_ ?_ 445 0 _ (mpN P) (by omega) (Or.inl ⟨fun j hj => absurd hj (Nat.not_lt_zero j), h0, hk⟩) (by omega)
  · rintro u τ hu (⟨hS, hR, hk⟩ | ⟨K, q, h1, h2⟩)
    · have hM := hR.1.1
      have hsq := sqA_b hS
      by_cases c : kdA bl (tkI bl N (sqA bl N 0 u) 0) = 0
      · right
        refine ⟨τ, ?_, u, none, ⟨hS, c⟩, hR⟩
        show f_X12_linkage_B19 P m τ = _
        unfold f_X12_linkage_B19
        rw [bd (am_gI hM), hR.2.1.1, if_pos rfl, bd (am_gI hM), hk.2.1, c, if_pos (show rk 0 = 0 by decide)]
      · left
        obtain ⟨τ', e, hq⟩ := r_stm (P := P) hN hf hb (by omega) (fun v hv => (hsq v hv).2) (fun v hv => by
          obtain ⟨k, n, hst⟩ := hS v hv
          exact fm_6 h256 (hsq v (by omega)).2 hst) hR hk c
        refine ⟨τ', ?_, ?_⟩
        · show f_X12_linkage_B19 P m τ = _
          unfold f_X12_linkage_B19
          rw [bd (am_gI hM), hR.2.1.1, if_pos rfl, bd (am_gI hM), hk.2.1, if_neg (fun z => c ((rk_c (by decide) (by decide) (by decide)).mp z)), bd (am_is hM), bd e]
        · rcases hq with ⟨hst, q1, q2⟩ | ⟨q, q1, q2⟩
          · refine Or.inl ⟨fun j hj => ?_, q1, q2⟩
            by_cases e : j = u
            · rw [e]; exact hst
            · exact hS j (by omega)
          · exact Or.inr ⟨u, q, ⟨hS, q1⟩, q2⟩
    · obtain ⟨b1, b2⟩ := bad τ K q h1 h2
      exact Or.inr ⟨τ, b1, b2⟩
  · rintro τ (⟨hS, hR, hk⟩ | ⟨K, q, h1, h2⟩)
    · have a := sqA_9 h256 hS 445 (Nat.le_refl _)
      have b := (sqA_b hS 445 (Nat.le_refl _)).2
      omega
    · obtain ⟨b1, b2⟩ := bad τ K q h1 h2
      exact ⟨τ, b1, b2⟩
end IQS
