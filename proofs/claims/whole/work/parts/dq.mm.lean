/-! ===== mm: the law, without the machine ===== -/
section MMS
variable {P : mx_P} {σ : mx_S} {x b L : Nat} {xs : Nat → Int32}
theorem mt_at {i : Nat} (h : i < L) (hL : L ≤ 448) : ∃ y, mt_x L xs (q_n i) = some y := by
  unfold mt_x
  rw [q_nT (by omega), if_pos ⟨by omega, by omega⟩]
  exact ⟨_, rfl⟩
theorem mt_at1 {i j : Nat} (h : i + j < L) (hL : L ≤ 448) : ∃ y, mt_x L xs (q_n i + q_n j) = some y := by
  have e : q_n i + q_n j = q_n (i + j) := by
    unfold q_n
    exact (Int32.ofNat_add _ _).symm
  rw [e]
  exact mt_at h hL
theorem nI_l7 {i : Nat} (hL : L ≤ 448) (hi : i < 1000) : ((nI L) - (7 : Int32)) < q_n i ↔ (L : Int) - 7 < i := by
  have e0 : (nI L).toInt = L := q_nT (k := L) (by omega)
  have e7 : (7 : Int32).toInt = 7 := by decide
  have e1 := q_isub (x := nI L) (y := (7 : Int32)) (by omega) (by omega)
  rw [q_lt, e1, e0, e7, q_nT (k := i) (by omega)]
/-- before the k-th call -/
def Lv (P : mx_P) (x k : Nat) (t : Int32 × mx_S) : Prop := t.1 = q_n (7 * k) ∧ LyH (mxA t.2) (mxR t.2) x ∧ mpb P ≤ x ∧ 100000 ≤ mpN P ∧ Rm P t.2 (70 - k) (6 * (70 - k)) ∧ Iv x t.2
theorem lv_s {k : Nat} {t : Int32 × mx_S} (hL : L ≤ 448) (hk : k ≤ 64) (h : Lv P x k t) : (7 * k + 7 ≤ L ∧ ∃ t', f_L_law_L23 P L xs b x (x + 1497) (x + 1575) t = some (.inl t') ∧ Lv P x (k + 1) t') ∨ (L < 7 * k + 7 ∧ ∃ r, f_L_law_L23 P L xs b x (x + 1497) (x + 1575) t = some (.inr r) ∧ True) := by
  obtain ⟨v, σ⟩ := t
  obtain ⟨hv, hH, hb, hN, hr, hI⟩ := h
  dsimp only at hv hH hr hI
  subst hv
  by_cases c : 7 * k + 7 ≤ L
  · left
    refine ⟨c, ?_⟩
    obtain ⟨y0, a0⟩ := mt_at (xs := xs) (i := 7 * k) (by omega) hL
    obtain ⟨y1, a1⟩ := mt_at1 (xs := xs) (i := 7 * k) (j := 1) (by omega) hL
    obtain ⟨y2, a2⟩ := mt_at1 (xs := xs) (i := 7 * k) (j := 2) (by omega) hL
    obtain ⟨y3, a3⟩ := mt_at1 (xs := xs) (i := 7 * k) (j := 3) (by omega) hL
    obtain ⟨y4, a4⟩ := mt_at1 (xs := xs) (i := 7 * k) (j := 4) (by omega) hL
    obtain ⟨y5, a5⟩ := mt_at1 (xs := xs) (i := 7 * k) (j := 5) (by omega) hL
    obtain ⟨y6, a6⟩ := mt_at1 (xs := xs) (i := 7 * k) (j := 6) (by omega) hL
    have hg : ¬ ((nI L) - (7 : Int32)) < q_n (7 * k) := by
      rw [nI_l7 (i := 7 * k) hL (by omega)]
      omega
    have hS : St P σ x := ⟨hH, hb, hN, by unfold Rm at hr ⊢; omega⟩
    obtain ⟨τ, e, w, hI'⟩ := cs_all (b := b) hS hI ⟨a1, a2, a3, a4, a5, a6⟩ a0 hg
    refine ⟨_, e, ?_, ?_, hb, hN, ?_, hI'⟩
    · show q_n (7 * k) + q_n 7 = q_n (7 * (k + 1))
      unfold q_n
      exact (Int32.ofNat_add _ _).symm
    · show LyH (mxA τ) (mxR τ) x
      rw [w.1]
      exact LyH_cg hH w.2.1
    · show Rm P τ (70 - (k + 1)) (6 * (70 - (k + 1)))
      obtain ⟨-, -, w1, w2⟩ := w
      unfold Rm at hr ⊢
      omega
  · right
    refine ⟨by omega, σ, ?_, trivial⟩
    show f_L_law_B23 P L xs b x (x + 1497) (x + 1575) (q_n (7 * k)) σ = _
    unfold f_L_law_B23
    rw [if_pos]
    rw [nI_l7 (i := 7 * k) hL (by omega)]
    omega
/-- the law's pure side answers 1 -/
theorem lw_pure (hL : L ≤ 448) (hN : 100000 ≤ mpN P) (hr : Rm P σ 2000 41000) (hb : mpb P ≤ mxz σ) (hu : mxu σ = 0) : ∃ σ', f_L_law P L xs b σ = some (1, σ') := by
  obtain ⟨σ1, hw, e⟩ := lw_start (P := P) (σ := σ) (L := L) (b := b) (xs := xs) (by omega) (by unfold Rm at hr ⊢; omega) hb hu
  have h0 : Lv P (mxz σ) 0 ((0 : Int32), σ1) := by
    refine ⟨rfl, LyH_of hw, hb, hN, ?_, Iv_0 hw⟩
    obtain ⟨-, -, -, w1, w2⟩ := hw
    show Rm P σ1 (70 - 0) (6 * (70 - 0))
    unfold Rm at hr ⊢
    omega
  obtain ⟨r, e2, -⟩ := q_for (f_L_law_L23 P L xs b (mxz σ) (mxz σ + 1497) (mxz σ + 1575)) (Lv P (mxz σ)) (fun _ => True) 64
    (fun k t hk h => by
      rcases lv_s (b := b) (xs := xs) hL (by omega) h with ⟨-, t', e1, h'⟩ | ⟨-, r, e1, -⟩
      · exact Or.inl ⟨t', e1, h'⟩
      · exact Or.inr ⟨r, e1, trivial⟩)
    (fun t h => by
      rcases lv_s (b := b) (xs := xs) hL (by omega) h with ⟨c, -⟩ | ⟨-, r, e1, -⟩
      · omega
      · exact ⟨r, e1, trivial⟩)
    64 0 ((0 : Int32), σ1) (mpN P) rfl h0 (by omega)
  refine ⟨r, ?_⟩
  rw [e, e2, Option.bind_some]
  exact if_pos (Or.inr rfl)
end MMS
