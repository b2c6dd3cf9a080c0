/-! ===== ir: the least fault is the first ===== -/
section IRS
variable {P : mx_P} {σ σ0 σ1 σ2 τ : mx_S} {x m n t l p q a N i k j u v w K c s f r : Nat} {bl : List Nat}
theorem fst_mn {z : Nat → Bool} : ∀ {n k : Nat}, r_fst z n = some k → ∀ p, p < k → z p = false
  | 0, k, h, p, hp => by cases h
  | n + 1, k, h, p, hp => by
    rw [r_fst] at h
    cases e : r_fst z n with
    | some w => rw [e] at h; cases h; exact fst_mn e p hp
    | none =>
      rw [e] at h
      dsimp only at h
      split at h
      · cases h; exact fst_n0 e p hp
      · cases h
def cdK (bl : List Nat) (N K v i : Nat) : Nat := ckP bl N K v (mkT bl N v) (lT bl N v i) (tkT bl N v i)
def DK (bl : List Nat) (N K u s c : Nat) : Prop := ∃ v i, bfr bl N u 0 v i ∧ s = tkT bl N v i ∧ c = cdK bl N K v i ∧ c ≠ 0
/-- good statements -/
def GdT (bl : List Nat) (N K : Nat) : Prop := ∀ j, j < K → ∃ k n, StO bl N 0 (sqA bl N 0 j) k n
theorem gd_h (h256 : ∀ b, b ∈ bl → b < 256) (h : GdT bl N K) (hv : v < K) : hdU bl N v ∧ (∀ i, i < nT bl N v → fit (lT bl N v i) (kdA bl (tkT bl N v i)) = true) ∧ kdA bl (tkT bl N v (nT bl N v)) = 59 ∧ sqA bl N 0 (v + 1) = enA bl (tkT bl N v (nT bl N v)) := by
  obtain ⟨k, n, hst⟩ := h v hv
  have hp := (sqA_b h v (by omega)).2
  obtain ⟨f, hf, hk, h2, h3, h4, h5, -⟩ := StO_t h256 hp hst
  have hfm : fmT bl N v = f := by unfold fmT; rw [hst.2.1]; exact h2
  have hn : nT bl N v = n := by unfold nT; rw [hfm]; exact h3
  refine ⟨⟨hp, hst.1, by omega, by rw [hfm, ← hk]; exact hst.2.1⟩, fun i hi => ?_, ?_, ?_⟩
  · unfold lT; rw [hfm, tk_e]; exact h4 i (by omega)
  · rw [hn, tk_e]; exact h5
  · rw [hn, show sqA bl N 0 (v + 1) = psI bl N (sqA bl N 0 v) (n + 2) from nxA_e hst, tk_e]; rfl
theorem tk_up (h256 : ∀ b, b ∈ bl → b < 256) (h : GdT bl N K) (hv : v < K) : ∀ d i, i + d ≤ nT bl N v → tkT bl N v i + d ≤ tkT bl N v (i + d) := by
  obtain ⟨hh, hfit, -, -⟩ := gd_h h256 h hv
  intro d
  induction d with
  | zero => intro i _; exact Nat.le_refl _
  | succ d ih =>
    intro i hi
    have a := ih i (by omega)
    have b := tk_1 (N := N) hh.1 (i + d + 1) (by rw [← tk_e]; exact fit_nz (hfit (i + d) (by omega)))
    have e1 := tk_e (bl := bl) (N := N) (u := v) (i + d)
    have e2 := tk_e (bl := bl) (N := N) (u := v) (i + d + 1)
    show tkT bl N v i + (d + 1) ≤ tkT bl N v (i + d + 1)
    omega
theorem tk_in (h256 : ∀ b, b ∈ bl → b < 256) (h : GdT bl N K) (hv : v < K) (hi : i < nT bl N v) : sqA bl N 0 v < tkT bl N v i ∧ tkT bl N v i < sqA bl N 0 (v + 1) := by
  obtain ⟨hh, hfit, h59, hsq⟩ := gd_h h256 h hv
  have a := tk_up h256 h hv i 0 (by omega)
  have b := tk_up h256 h hv (nT bl N v - i) i (by omega)
  rw [show i + (nT bl N v - i) = nT bl N v by omega] at b
  rw [Nat.zero_add] at a
  have c := (tkI_le (N := N) hh.1 0).1
  have d := tk_1 (N := N) hh.1 0 (by rw [hh.2.1]; decide)
  have e0 : psI bl N (sqA bl N 0 v) 0 = sqA bl N 0 v := rfl
  have e1 := tk_e (bl := bl) (N := N) (u := v) 0
  rw [show 0 + 1 = 1 from rfl] at e1 d
  have e := (enA_le (bs := bl) (tkT_le (N := N) (u := v) (j := nT bl N v) hh.1)).1
  omega
theorem sq_up (h256 : ∀ b, b ∈ bl → b < 256) (h : GdT bl N K) : ∀ d v, v + d ≤ K → sqA bl N 0 v ≤ sqA bl N 0 (v + d) := by
  intro d
  induction d with
  | zero => intro v _; exact Nat.le_refl _
  | succ d ih =>
    intro v hv
    have a := ih v (by omega)
    have hh := (gd_h h256 h (show v + d < K by omega)).1
    have hn : 3 ≤ nT bl N (v + d) := (n_6 ⟨_, hh.2.2.1⟩).2
    have b := tk_in (i := 0) h256 h (show v + d < K by omega) (by omega)
    show sqA bl N 0 v ≤ sqA bl N 0 (v + d + 1)
    omega
theorem tk_lt (h256 : ∀ b, b ∈ bl → b < 256) (h : GdT bl N K) (hvw : v < w) (hw : w < K) (hi : i < nT bl N v) (hj : j < nT bl N w) : tkT bl N v i < tkT bl N w j := by
  have a := (tk_in h256 h (show v < K by omega) hi).2
  have b := (tk_in h256 h hw hj).1
  have c := sq_up h256 h (w - (v + 1)) (v + 1) (by omega)
  rw [show v + 1 + (w - (v + 1)) = w by omega] at c
  omega
theorem tk_inj (h256 : ∀ b, b ∈ bl → b < 256) (h : GdT bl N K) (hv : v < K) (hw : w < K) (hi : i < nT bl N v) (hj : j < nT bl N w) (e : tkT bl N v i = tkT bl N w j) : v = w ∧ i = j := by
  rcases Nat.lt_trichotomy v w with c | rfl | c
  · have := tk_lt h256 h c hw hi hj; omega
  · refine ⟨rfl, ?_⟩
    rcases Nat.lt_trichotomy i j with d | d | d
    · have := tk_up h256 h hv (j - i) i (by omega)
      rw [show i + (j - i) = j by omega] at this
      omega
    · exact d
    · have := tk_up h256 h hv (i - j) j (by omega)
      rw [show j + (i - j) = i by omega] at this
      omega
  · have := tk_lt h256 h c hv hj hi; omega
/-- a part's code is the class's -/
theorem cd_K (hv : v < K) (h80 : lT bl N v i ≠ 80) (h67 : lT bl N v i = 67 → i = 0) : cdR bl N v i = cdK bl N K v i := by
  by_cases c : lT bl N v i = 67
  · have := h67 c
    subst this
    unfold cdR cdK ckP
    rw [if_pos c, if_pos c]
    cases ht : telA bl N K (nmA bl (tkT bl N v 0)) with
    | none =>
      have := fst_n0 ht v hv
      exact absurd rfl (of_decide_eq_false this)
    | some w =>
      have h1 : cnA bl N 0 w = cnA bl N 0 v := of_decide_eq_true (r_fst_tr ht)
      unfold cdC
      dsimp only
      by_cases d : w < v
      · rw [if_pos d, if_pos ⟨w, d, h1⟩]
      · rw [if_neg d, if_neg]
        rintro ⟨j, hj, he⟩
        exact absurd he (of_decide_eq_false (fst_mn ht j (by omega)))
  · have e : ∀ K', ckP bl N K' v (mkT bl N v) (lT bl N v i) (tkT bl N v i) = (if lT bl N v i = 83 then (if kdA bl (tkT bl N v i) = 63 ∧ 8 ≤ mkT bl N v then 6 else 0) else if rgL (lT bl N v i) (tpA bl (tkT bl N v i)) (nmB bl (nmD bl (tkT bl N v i))) then 0 else 5) := fun K' => by
      unfold ckP; rw [if_neg c, if_neg h80]
    unfold cdR cdK
    rw [if_neg c, e, e]
theorem cd_80 (h80 : lT bl N v i = 80) : cdK bl N K v i = if (telA bl N K (nmA bl (tkT bl N v i))).isNone then 3 else 0 := by
  unfold cdK ckP
  rw [if_neg (by omega), if_pos h80]
/-- the class's first fault of a statement -/
def fsU (bl : List Nat) (N K u j : Nat) : Option (Nat × Nat) := match r_fst (fun i => decide (cdK bl N K u i ≠ 0)) j with
  | none => none
  | some i => some (cdK bl N K u i, tkT bl N u i)
theorem ckL_1 (hh : hdU bl N u) : ∀ j, j ≤ nT bl N u → (j ≤ 5 → (ckL bl N K u (kfl (fmT bl N u)) none (mkT bl N u) j).2 = mkT bl N u) ∧ (ckL bl N K u (kfl (fmT bl N u)) none (mkT bl N u) j).1 = fsU bl N K u j := by
  intro j
  induction j with
  | zero => exact fun _ => ⟨fun _ => rfl, rfl⟩
  | succ j ih =>
    intro hj
    obtain ⟨i1, i2⟩ := ih (by omega)
    have n6 : nT bl N u ≤ 6 := (n_6 ⟨_, hh.2.2.1⟩).1
    have i1 := i1 (by omega)
    constructor
    · intro h5
      show mkP bl (ckL bl N K u (kfl (fmT bl N u)) none (mkT bl N u) j).2 (lfm (fmT bl N u) j) (tkT bl N u j) = _
      rw [i1]
      unfold mkP
      rw [if_neg]
      intro z
      have := (lf_83 ⟨_, hh.2.2.1⟩ ⟨j, by omega⟩).1 z.1
      dsimp only at this
      omega
    · show nt (ckL bl N K u (kfl (fmT bl N u)) none (mkT bl N u) j).1 (ckP bl N K u (ckL bl N K u (kfl (fmT bl N u)) none (mkT bl N u) j).2 (lT bl N u j) (tkT bl N u j)) (tkT bl N u j) = _
      rw [i1, i2]
      show nt (fsU bl N K u j) (cdK bl N K u j) (tkT bl N u j) = _
      unfold fsU
      rw [r_fst]
      cases e : r_fst (fun i => decide (cdK bl N K u i ≠ 0)) j with
      | some i => rfl
      | none =>
        dsimp only
        by_cases c : cdK bl N K u j = 0
        · rw [if_neg (by rw [decide_eq_true_eq]; exact fun z => z c), c]; rfl
        · rw [if_pos (by rw [decide_eq_true_eq]; exact c)]
          show (if cdK bl N K u j = 0 then none else some (cdK bl N K u j, tkT bl N u j)) = _
          rw [if_neg c]
theorem bfr_z : bfr bl N u 0 v i ↔ v < u ∧ i < nT bl N v := by
  unfold bfr
  constructor
  · rintro ⟨h | ⟨-, h⟩, h2⟩
    · exact ⟨h, h2⟩
    · omega
  · rintro ⟨h, h2⟩
    exact ⟨Or.inl h, h2⟩
/-- the class's first fault is the least -/
theorem Lm_ls (h256 : ∀ b, b ∈ bl → b < 256) (h : GdT bl N K) : ∀ u, u ≤ K → Lm (lsF bl N K u) (DK bl N K u) := by
  intro u
  induction u with
  | zero =>
    intro _ s c z
    obtain ⟨v, i, hb, -⟩ := z
    have := (bfr_z.mp hb).1
    omega
  | succ u ih =>
    intro hu
    have h0 := ih (by omega)
    have hh := (gd_h h256 h (show u < K by omega)).1
    cases e : lsF bl N K u with
    | some z =>
      obtain ⟨c, q⟩ := z
      rw [e] at h0
      have e1 : lsF bl N K (u + 1) = some (c, q) := by rw [lsF, e]
      rw [e1]
      obtain ⟨⟨v, i, hb, h1, h2⟩, h3⟩ := h0
      have hb' := bfr_z.mp hb
      refine ⟨⟨v, i, bfr_z.mpr ⟨by omega, hb'.2⟩, h1, h2⟩, fun s c' hd => ?_⟩
      obtain ⟨v', i', hb2, g1, g2⟩ := hd
      have hb2' := bfr_z.mp hb2
      by_cases cu : v' < u
      · exact h3 s c' ⟨v', i', bfr_z.mpr ⟨cu, hb2'.2⟩, g1, g2⟩
      · have := tk_lt h256 h (show v < v' by omega) (show v' < K by omega) hb'.2 hb2'.2
        omega
    | none =>
      rw [e] at h0
      obtain ⟨k, n, hst⟩ := h u (by omega)
      have ek : k = kfl (fmT bl N u) := by
        have a := hh.2.2.2
        rw [hst.2.1] at a
        exact Option.some.inj a
      have en : n = nT bl N u := by
        have := nLt_e hst.2.2.1
        unfold nT
        rw [← ek]; exact this.symm
      have e1 := lsF_s (K := K) hst e
      rw [ek, en, (ckL_1 (K := K) hh _ (Nat.le_refl _)).2] at e1
      rw [e1]
      unfold fsU
      cases e2 : r_fst (fun i => decide (cdK bl N K u i ≠ 0)) (nT bl N u) with
      | none =>
        intro s c z
        obtain ⟨v, i, hb, g1, g2, g3⟩ := z
        have hb' := bfr_z.mp hb
        by_cases cu : v < u
        · exact h0 s c ⟨v, i, bfr_z.mpr ⟨cu, hb'.2⟩, g1, g2, g3⟩
        · have : v = u := by omega
          subst this
          have := of_decide_eq_false (fst_n0 e2 i hb'.2)
          exact this (by rw [← g2]; exact g3)
      | some i =>
        have hi := r_fst_lt e2
        refine ⟨⟨u, i, bfr_z.mpr ⟨by omega, hi⟩, rfl, rfl, of_decide_eq_true (r_fst_tr e2)⟩, fun s c' z => ?_⟩
        obtain ⟨v', i', hb, g1, g2, g3⟩ := z
        have hb' := bfr_z.mp hb
        by_cases cu : v' < u
        · exact absurd ⟨v', i', bfr_z.mpr ⟨cu, hb'.2⟩, g1, g2, g3⟩ (h0 s c')
        · have : v' = u := by omega
          subst this
          by_cases ci : i' < i
          · exact absurd (by rw [← g2]; exact g3) (of_decide_eq_false (fst_mn e2 i' ci))
          · have := tk_up h256 h (show v' < K by omega) (i' - i) i (by omega)
            rw [show i + (i' - i) = i' by omega] at this
            omega
theorem Lm_u {fs fs' : Option (Nat × Nat)} {D : Nat → Nat → Prop} (h : Lm fs D) (h' : Lm fs' D) (hf : ∀ s c c', D s c → D s c' → c = c') : fs = fs' := by
  cases fs with
  | none =>
    cases fs' with
    | none => rfl
    | some z => obtain ⟨c, q⟩ := z; exact absurd h'.1 (h q c)
  | some y =>
    obtain ⟨c, q⟩ := y
    cases fs' with
    | none => exact absurd h.1 (h' q c)
    | some z =>
      obtain ⟨c', q'⟩ := z
      have a := h.2 q' c' h'.1
      have b := h'.2 q c h.1
      have e : q = q' := by omega
      subst e
      rw [hf q c c' h.1 h'.1]
theorem DK_fn (h256 : ∀ b, b ∈ bl → b < 256) (h : GdT bl N K) {c' : Nat} (h1 : DK bl N K K s c) (h2 : DK bl N K K s c') : c = c' := by
  obtain ⟨v, i, hb, g1, g2, -⟩ := h1
  obtain ⟨v', i', hb', g1', g2', -⟩ := h2
  have a := bfr_z.mp hb
  have b := bfr_z.mp hb'
  obtain ⟨rfl, rfl⟩ := tk_inj h256 h a.1 b.1 a.2 b.2 (g1.symm.trans g1')
  rw [g2, g2']
/-- no fault: at most 40 -/
theorem ls_40 (h256 : ∀ b, b ∈ bl → b < 256) (h : GdT bl N K) (hn : lsF bl N K K = none) : K ≤ 40 := by
  rcases Nat.lt_or_ge 40 K with c | c
  · exfalso
    have h0 := Lm_ls h256 h K (Nat.le_refl _)
    rw [hn] at h0
    have hh := (gd_h h256 h c).1
    have h67 : lT bl N 40 0 = 67 := (lf_n ⟨_, hh.2.2.1⟩).2.2.2
    have h3 : 3 ≤ nT bl N 40 := (n_6 ⟨_, hh.2.2.1⟩).2
    refine h0 (tkT bl N 40 0) (cdK bl N K 40 0) ⟨40, 0, bfr_z.mpr ⟨c, by omega⟩, rfl, rfl, ?_⟩
    rw [← cd_K c (by omega) (fun _ => rfl)]
    unfold cdR cdC
    rw [if_pos h67]
    split
    · decide
    · decide
  · exact c
end IRS
