/-! ===== mb: the reference's rows ===== -/
section MBS
variable {P : mx_P} {σ σ0 σ1 τ : mx_S} {m r k n s a j b l N L q : Nat} {pv : Nat → Int32} {M M' : MT} {R R' : Nat → Int × Int} {w z : Int × Int} {d : Int} {S : Nat → Nat → Prop} {u v : Int64} {gs : List (Nat × Nat)} {ms : List (Nat × Nat × Bool × Int32)} {sh : Nat → Nat × Int32 × Int32}
def SRo (m q j : Nat) : Prop := (q = m ∧ (j = 8 ∨ j = 9 ∨ j = 10 ∨ j = 68)) ∨ q = m + 45 ∨ q = m + 46 ∨ q = m + 47
def MR (σ : mx_S) (m n : Nat) (M : MT) : Prop := ∀ r, r < n → ∀ k, k < 13 → (mxL σ (m + 45) (13 * r + k)).toInt = (M r k).1 ∧ (mxL σ (m + 46) (13 * r + k)).toInt = (M r k).2
def CRo (σ0 σ : mx_S) (m n N L : Nat) (pv : Nat → Int32) (M : MT) : Prop := Fz (SRo m) σ0 σ ∧ LyM σ m ∧ mxI σ m 68 = q_n n ∧ (∀ i, i < L → mxI σ (m + 47) i = pv i) ∧ MR σ m N M
theorem ix13 : ((13 : Int32) * q_n r) + q_n k = q_n (13 * r + k) := by
  rw [show (13 : Int32) * q_n r = q_n (13 * r) from q_nM 13 r, q_nA]
theorem CRo.cg (h : CRo σ0 σ m n N L pv M) (e : ∀ r, r < N → ∀ k, k < 13 → M' r k = M r k) : CRo σ0 σ m n N L pv M' := ⟨h.1, h.2.1, h.2.2.1, h.2.2.2.1, fun r hr k hk => by rw [e r hr k hk]; exact h.2.2.2.2 r hr k hk⟩
theorem CRo.fz (h : CRo σ0 σ m n N L pv M) (f : Fz (SLw m) σ τ) : CRo σ0 τ m n N L pv M := by
  obtain ⟨h1, h2, h3, h4, h5⟩ := h
  refine ⟨h1.tr (f.mo fun q j y => by unfold SLw at y; unfold SRo; omega), f.M h2, (f.2.2.2 _ _ (by unfold SLw; omega)).1.trans h3, fun i hi => (f.2.2.2 _ _ (by unfold SLw; omega)).1.trans (h4 i hi), fun r hr k hk => ?_⟩
  rw [(f.2.2.2 (m + 45) _ (by unfold SLw; omega)).2, (f.2.2.2 (m + 46) _ (by unfold SLw; omega)).2]
  exact h5 r hr k hk
theorem CRo.sT (h : CRo σ0 σ m n N L pv M) (hr : r < N) (hk : k < 13) (v : Int64) : CRo σ0 (mx_setL σ (m + 45) (13 * r + k) v) m n N L pv (mu M r k (v.toInt, (M r k).2)) := by
  obtain ⟨h1, h2, h3, h4, h5⟩ := h
  refine ⟨h1.sL (Or.inr (Or.inl rfl)) _, h2, h3, h4, fun i hi l hl => ?_⟩
  have hm := h5 i hi l hl
  by_cases y : i = r ∧ l = k
  · obtain ⟨rfl, rfl⟩ := y
    rw [mu_e, sL_e, sL_n (by omega)]
    exact ⟨rfl, hm.2⟩
  · rw [mu_n y, sL_n (by omega), sL_n (by omega)]
    exact hm
theorem CRo.sB (h : CRo σ0 σ m n N L pv M) (hr : r < N) (hk : k < 13) (v : Int64) : CRo σ0 (mx_setL σ (m + 46) (13 * r + k) v) m n N L pv (mu M r k ((M r k).1, v.toInt)) := by
  obtain ⟨h1, h2, h3, h4, h5⟩ := h
  refine ⟨h1.sL (Or.inr (Or.inr (Or.inl rfl))) _, h2, h3, h4, fun i hi l hl => ?_⟩
  have hm := h5 i hi l hl
  by_cases y : i = r ∧ l = k
  · obtain ⟨rfl, rfl⟩ := y
    rw [mu_e, sL_e, sL_n (by omega)]
    exact ⟨hm.1, rfl⟩
  · rw [mu_n y, sL_n (by omega), sL_n (by omega)]
    exact hm
theorem mu_mu {y : Int × Int} : mu (mu M r k y) r k z = mu M r k z := by
  funext i l
  unfold mu
  split <;> rfl
theorem CRo.sC (h : CRo σ0 σ m n N L pv M) (hr : r < N) (hk : k < 13) (u v : Int64) : CRo σ0 (mx_setL (mx_setL σ (m + 45) (13 * r + k) u) (m + 46) (13 * r + k) v) m n N L pv (mu M r k (u.toInt, v.toInt)) := by
  have := (h.sT hr hk u).sB hr hk v
  rw [mu_mu, mu_e] at this
  exact this
theorem CRo.T (h : CRo σ0 σ m n N L pv M) (hr : r < 32) (hk : k < 13) : ma_L σ (m + 45) 1 (((13 : Int32) * q_n r) + q_n k) = some (mxL σ (m + 45) (13 * r + k)) := by rw [ix13]; exact am_g69 h.2.1 (by omega)
theorem CRo.B (h : CRo σ0 σ m n N L pv M) (hr : r < 32) (hk : k < 13) : ma_L σ (m + 46) 1 (((13 : Int32) * q_n r) + q_n k) = some (mxL σ (m + 46) (13 * r + k)) := by rw [ix13]; exact am_g70 h.2.1 (by omega)
theorem CRo.t0 (h : CRo σ0 σ m n N L pv M) (hr : r < N) (hk : k < 13) : lg_cmp (mxL σ (m + 45) (13 * r + k)) (0 : Int64) = 0 ↔ (M r k).1 = 0 := t_0 (h.2.2.2.2 r hr k hk).1
theorem CRo.b1 (h : CRo σ0 σ m n N L pv M) (hO : MO N M) (hr : r < N) (hk : k < 13) : B64 (mxL σ (m + 45) (13 * r + k)) (M r k).1 1000000000000000 := ⟨(h.2.2.2.2 r hr k hk).1, (hO r hr k hk).2.2.1⟩
theorem CRo.b2 (h : CRo σ0 σ m n N L pv M) (hO : MO N M) (hr : r < N) (hk : k < 13) : B64 (mxL σ (m + 46) (13 * r + k)) (M r k).2 1000000000000000 := ⟨(h.2.2.2.2 r hr k hk).2, (hO r hr k hk).2.2.2⟩
theorem r_kf (hb : mpb P ≤ m) (h : CRo σ0 σ m n N L pv M) (hr : r < N) (hN : N ≤ 32) (hk : k < 13) : ∃ τ, f_X12_keepFraction P m (((13 : Int32) * q_n r) + q_n k) σ = some τ ∧ CRo σ0 τ m n N L pv (mu M r k ((mxL σ m 8).toInt, (mxL σ m 9).toInt)) ∧ mxI τ m 10 = mxI σ m 10 := by
  refine ⟨_, ?_, h.sC hr hk (mxL σ m 8) (mxL σ m 9), rfl⟩
  unfold f_X12_keepFraction
  rw [ix13, bd (am_r69 h.2.1), bd (am_gL h.2.1), bd (am_s69 h.2.1 hb (by omega) _), bd (am_r70 (h.sT hr hk (mxL σ m 8)).2.1), bd (am_gL (h.sT hr hk (mxL σ m 8)).2.1), sL_n (by omega), bd (am_s70 (h.sT hr hk (mxL σ m 8)).2.1 hb (by omega) _)]
theorem r_emp (hf : 5000 ≤ mpN P) (hb : mpb P ≤ m) (h : CRo σ0 σ m n n L pv M) (hn : n < 32) : ∃ τ, f_X12_emptyRow P m σ = some τ ∧ CRo σ0 τ m (n + 1) (n + 1) L pv (rU M n rE) ∧ mxI τ m 10 = mxI σ m 10 := by
  have h0 : CRo σ0 σ m n (n + 1) L pv (rU M n (fun l => ((mxL σ (m + 45) (13 * n + l)).toInt, (mxL σ (m + 46) (13 * n + l)).toInt))) := by
    refine ⟨h.1, h.2.1, h.2.2.1, h.2.2.2.1, fun i hi k hk => ?_⟩
    by_cases y : i = n
    · subst y; rw [rU_e]; exact ⟨rfl, rfl⟩
    · rw [rU_n y]; exact h.2.2.2.2 i (by omega) k hk
  generalize hc : (fun l => ((mxL σ (m + 45) (13 * n + l)).toInt, (mxL σ (m + 46) (13 * n + l)).toInt)) = c at h0
  obtain ⟨ρ, e, C, C2⟩ := q_for (f_X12_emptyRow_L2 P m) (fun k t => t.1 = q_n k ∧ CRo σ0 t.2 m n (n + 1) L pv (rU M n (fun l => if l < k then (0, 1) else c l)) ∧ mxI t.2 m 10 = mxI σ m 10) (fun t => CRo σ0 t m n (n + 1) L pv (rU M n (fun l => if l < 13 then (0, 1) else c l)) ∧ mxI t m 10 = mxI σ m 10) 13
    (by
      rintro k ⟨v1, t⟩ hk ⟨i1, C, C2⟩
      dsimp only at i1 C C2
      subst i1
      left
      show ∃ t', f_X12_emptyRow_B2 P m (q_n k) t = some (.inl t') ∧ _
      unfold f_X12_emptyRow_B2
      have C1 := C.sT (r := n) (k := k) (by omega) hk 0
      rw [if_neg (by rw [show (13 : Int32) = q_n 13 from rfl]; exact qn_ge hk (by omega)), bd (am_r69 C.2.1), bd (am_gI C.2.1), C.2.2.1, ix13, bd (am_s69 C.2.1 hb (by omega) _), bd (am_r70 C1.2.1), bd (am_gI C1.2.1), C1.2.2.1, ix13, bd (am_s70 C1.2.1 hb (by omega) _), Option.bind_some, q_nS]
      refine ⟨_, rfl, rfl, (C.sC (r := n) (k := k) (by omega) hk 0 1).cg fun i hi l hl => ?_, C2⟩
      by_cases y : i = n
      · subst y
        rw [rU_e]
        by_cases yl : l = k
        · subst yl
          rw [mu_e, if_pos (by omega)]; rfl
        · rw [mu_n (by omega), rU_e]
          by_cases z : l < k
          · rw [if_pos z, if_pos (by omega)]
          · rw [if_neg z, if_neg (by omega)]
      · rw [rU_n y, mu_n (by omega), rU_n y])
    (by
      rintro ⟨v1, t⟩ ⟨i1, C, C2⟩
      dsimp only at i1 C C2
      subst i1
      refine ⟨t, ?_, C, C2⟩
      show f_X12_emptyRow_B2 P m (q_n 13) t = _
      unfold f_X12_emptyRow_B2
      rw [if_pos (by decide)])
    13 0 ((0 : Int32), σ) (mpN P) rfl ⟨rfl, h0, rfl⟩ (by omega)
  have C' : CRo σ0 ρ m n (n + 1) L pv (rU M n rE) := C.cg fun i hi l hl => by
    by_cases y : i = n
    · subst y; rw [rU_e, rU_e, if_pos hl]; rfl
    · rw [rU_n y, rU_n y]
  refine ⟨mx_setI ρ m 68 (q_n (n + 1)), ?_, ⟨C'.1.sI (Or.inl ⟨rfl, by omega⟩) _, C'.2.1, sI_e, fun i hi => (sI_n (by omega)).trans (C'.2.2.2.1 i hi), C'.2.2.2.2⟩, (sI_n (by omega)).trans C2⟩
  unfold f_X12_emptyRow
  rw [bd e]
  show (mg_I ρ m 12 68).bind _ = _
  rw [bd (am_gI C.2.1), C.2.2.1, q_nS, bd (am_pI C.2.1 hb _)]
end MBS
