/-! ===== il: how far the reference has read ===== -/
section ILS
variable {P : mx_P} {σ σ0 σ1 σ2 τ : mx_S} {x m n t l p q a N i k j u v w K c s f r : Nat} {bl : List Nat} {S : Nat → Nat → Prop}
def lT (bl : List Nat) (N v i : Nat) : Nat := lfm (fmT bl N v) i
def nT (bl : List Nat) (N v : Nat) : Nat := nLt 0 (kfl (fmT bl N v))
/-- a part before part j of statement u -/
def bfr (bl : List Nat) (N u j v i : Nat) : Prop := (v < u ∨ (v = u ∧ i < j)) ∧ i < nT bl N v
/-- the place of a number in its statement -/
def nsl (f i : Nat) : Nat := if f = 0 then i - 1 else if f = 2 ∨ f = 4 then i - 3 else 0
def sR (bl : List Nat) (N v : Nat) : Nat := if kdA bl (tkT bl N v 5) = 43 then 0 else if kdA bl (tkT bl N v 5) = 63 then 2 + min (mkT bl N v) 8 else 1
/-- a part as it is written down -/
def PR (σ : mx_S) (m : Nat) (bl : List Nat) (N v i : Nat) : Prop :=
  (lT bl N v i = 80 → mxI σ (m + 25) (4 * v + (i - 1)) = q_n (tkT bl N v i) ∧ mxI σ (m + 26) (4 * v + (i - 1)) = q_n (enA bl (tkT bl N v i) - tkT bl N v i)) ∧
  (lT bl N v i = 120 ∨ lT bl N v i = 114 → Rdc (tpA bl (tkT bl N v i)) (nmB bl (nmD bl (tkT bl N v i))) (mxL σ (m + 27) (4 * v + 2 * nsl (fmT bl N v) i)).toInt (mxL σ (m + 27) (4 * v + 2 * nsl (fmT bl N v) i + 1)).toInt) ∧
  (lT bl N v i = 105 ∨ lT bl N v i = 110 ∨ lT bl N v i = 107 → ∃ np nq, Rdc (tpA bl (tkT bl N v i)) (nmB bl (nmD bl (tkT bl N v i))) np nq ∧ (mxI σ (m + 28) (3 * v + (i - 3))).toInt = np) ∧
  (lT bl N v i = 83 → mxI σ (m + 29) v = q_n (sR bl N v)) ∧
  (lT bl N v i = 67 → mxI σ (m + 24) v = q_n (fmT bl N v))
def RcR (σ : mx_S) (m : Nat) (bl : List Nat) (N u j : Nat) : Prop := ∀ v i, bfr bl N u j v i → v < 40 → PR σ m bl N v i
def NmR (σ : mx_S) (m : Nat) (bl : List Nat) (N w : Nat) : Prop := mxI σ m 38 = q_n w ∧ ∀ v, v < w → mxI σ (m + 22) v = q_n (tkT bl N v 0) ∧ mxI σ (m + 23) v = q_n (enA bl (tkT bl N v 0) - tkT bl N v 0)
def npP (f : Nat) : Nat → Nat
  | 0 => 0
  | j + 1 => npP f j + if lfm f j = 80 then 1 else 0
def UsR (σ : mx_S) (m : Nat) (bl : List Nat) (N u j : Nat) : Prop := ∃ us : List Nat, mxI σ m 50 = q_n us.length ∧ 3 * us.length ≤ sqA bl N 0 u + 3 * npP (fmT bl N u) j ∧ (∀ i s, us[i]? = some s → mxI σ (m + 33) i = q_n s ∧ mxI σ (m + 34) i = q_n (enA bl s - s)) ∧ ∀ s, s ∈ us ↔ ∃ v i, bfr bl N u j v i ∧ lT bl N v i = 80 ∧ s = tkT bl N v i
def cdC (bl : List Nat) (N v : Nat) : Nat := if ∃ j, j < v ∧ cnA bl N 0 j = cnA bl N 0 v then 2 else if v < 40 then 0 else 6
def cdR (bl : List Nat) (N v i : Nat) : Nat := if lT bl N v i = 67 then cdC bl N v else ckP bl N 0 v (mkT bl N v) (lT bl N v i) (tkT bl N v i)
/-- the lesser faults that are no names -/
def Dr (bl : List Nat) (N u j s c : Nat) : Prop := ∃ v i, bfr bl N u j v i ∧ lT bl N v i ≠ 80 ∧ s = tkT bl N v i ∧ c = cdR bl N v i ∧ c ≠ 0
def LsR (σ : mx_S) (m : Nat) (bl : List Nat) (N u j : Nat) : Prop := ∃ fs, FtL σ m fs ∧ Lm fs (Dr bl N u j)
def akA (bl : List Nat) (N u j : Nat) : Nat := min (if j ≤ 5 then mkT bl N u else mkT bl N (u + 1)) 8
def UnR (σ : mx_S) (m : Nat) (bl : List Nat) (N w : Nat) : Prop := ∀ v, v < w → v < 40 → ∀ k, k < 4 → ¬ (k + 1 < nT bl N v ∧ lT bl N v (k + 1) = 80) → mxI σ (m + 26) (4 * v + k) = 0
def rlF (m : Nat) : Nat → Nat → Prop := fun q j => (q = m ∧ (4 ≤ j ∧ j ≤ 7 ∨ 14 ≤ j ∧ j ≤ 18 ∨ j = 38 ∨ j = 50 ∨ j = 53)) ∨ (m + 22 ≤ q ∧ q ≤ m + 34)
def RBs (σ0 : mx_S) (m : Nat) (bl : List Nat) (σ : mx_S) : Prop := LyM σ m ∧ TS σ m bl ∧ Fz (rlF m) σ0 σ
def RQ (σ0 : mx_S) (m : Nat) (bl : List Nat) (N w u j : Nat) (σ : mx_S) : Prop := RBs σ0 m bl σ ∧ (mxI σ m 4 = 0 ∧ mxI σ m 5 = 0) ∧ NmR σ m bl N w ∧ UsR σ m bl N u j ∧ LsR σ m bl N u j ∧ mxI σ m 53 = q_n (akA bl N u j) ∧ RcR σ m bl N u j ∧ UnR σ m bl N w
theorem RBs_f (h : RBs σ0 m bl σ) (f : Fz S σ τ) (hs : ∀ q j, S q j → rlF m q j) : RBs σ0 m bl τ := ⟨f.M h.1, TS_f h.2.1 f (fun q j z => by have := hs q j z; unfold rlF at this; omega), h.2.2.tr (f.mo hs)⟩
theorem NmR_f (h : NmR σ m bl N w) (f : Fz S σ τ) (hs : ∀ q j, S q j → q ≠ m + 22 ∧ q ≠ m + 23 ∧ ¬ (q = m ∧ j = 38)) : NmR τ m bl N w :=
  ⟨(f.2.2.2 _ _ (fun z => (hs _ _ z).2.2 ⟨rfl, rfl⟩)).1.trans h.1, fun v hv => ⟨(f.2.2.2 _ _ (fun z => (hs _ _ z).1 rfl)).1.trans (h.2 v hv).1, (f.2.2.2 _ _ (fun z => (hs _ _ z).2.1 rfl)).1.trans (h.2 v hv).2⟩⟩
theorem UsR_f (h : UsR σ m bl N u j) (f : Fz S σ τ) (hs : ∀ q j, S q j → q ≠ m + 33 ∧ q ≠ m + 34 ∧ ¬ (q = m ∧ j = 50)) : UsR τ m bl N u j := by
  obtain ⟨us, h1, h2, h3, h4⟩ := h
  exact ⟨us, (f.2.2.2 _ _ (fun z => (hs _ _ z).2.2 ⟨rfl, rfl⟩)).1.trans h1, h2, fun i s hi => ⟨(f.2.2.2 _ _ (fun z => (hs _ _ z).1 rfl)).1.trans (h3 i s hi).1, (f.2.2.2 _ _ (fun z => (hs _ _ z).2.1 rfl)).1.trans (h3 i s hi).2⟩, h4⟩
theorem FtL_f {fs : Option (Nat × Nat)} (h : FtL σ m fs) (f : Fz S σ τ) (hs : ∀ q j, S q j → ¬ (q = m ∧ (j = 6 ∨ j = 7))) : FtL τ m fs := by
  cases fs with
  | none => exact (f.2.2.2 _ _ (fun z => hs _ _ z ⟨rfl, Or.inl rfl⟩)).1.trans h
  | some z => exact ⟨h.1, h.2.1, h.2.2.1, (f.2.2.2 _ _ (fun z => hs _ _ z ⟨rfl, Or.inl rfl⟩)).1.trans h.2.2.2.1, (f.2.2.2 _ _ (fun z => hs _ _ z ⟨rfl, Or.inr rfl⟩)).1.trans h.2.2.2.2⟩
theorem LsR_f (h : LsR σ m bl N u j) (f : Fz S σ τ) (hs : ∀ q j, S q j → ¬ (q = m ∧ (j = 6 ∨ j = 7))) : LsR τ m bl N u j := by
  obtain ⟨fs, h1, h2⟩ := h
  exact ⟨fs, FtL_f h1 f hs, h2⟩
def ltN (c : Nat) : Prop := c = 120 ∨ c = 114
def ltW (c : Nat) : Prop := c = 105 ∨ c = 110 ∨ c = 107
theorem PR_cg (h : PR σ m bl N v i) (e1 : lT bl N v i = 80 → ∀ q, q = m + 25 ∨ q = m + 26 → mxI τ q (4 * v + (i - 1)) = mxI σ q (4 * v + (i - 1))) (e2 : ltN (lT bl N v i) → ∀ k, k = 4 * v + 2 * nsl (fmT bl N v) i ∨ k = 4 * v + 2 * nsl (fmT bl N v) i + 1 → mxL τ (m + 27) k = mxL σ (m + 27) k) (e3 : ltW (lT bl N v i) → mxI τ (m + 28) (3 * v + (i - 3)) = mxI σ (m + 28) (3 * v + (i - 3))) (e4 : lT bl N v i = 83 → mxI τ (m + 29) v = mxI σ (m + 29) v) (e5 : lT bl N v i = 67 → mxI τ (m + 24) v = mxI σ (m + 24) v) : PR τ m bl N v i := by
  obtain ⟨h1, h2, h3, h4, h5⟩ := h
  refine ⟨fun z => ?_, fun z => ?_, fun z => ?_, fun z => ?_, fun z => ?_⟩
  · rw [e1 z _ (Or.inl rfl), e1 z _ (Or.inr rfl)]; exact h1 z
  · rw [e2 z _ (Or.inl rfl), e2 z _ (Or.inr rfl)]; exact h2 z
  · rw [e3 z]; exact h3 z
  · rw [e4 z]; exact h4 z
  · rw [e5 z]; exact h5 z
theorem RcR_f (h : RcR σ m bl N u j) (f : Fz S σ τ) (hs : ∀ q j, S q j → ¬ (m + 24 ≤ q ∧ q ≤ m + 29)) : RcR τ m bl N u j := fun v i hb hv =>
  PR_cg (h v i hb hv) (fun _ q hq => (f.2.2.2 _ _ (fun z => hs _ _ z (by omega))).1) (fun _ k _ => (f.2.2.2 _ _ (fun z => hs _ _ z (by omega))).2) (fun _ => (f.2.2.2 _ _ (fun z => hs _ _ z (by omega))).1) (fun _ => (f.2.2.2 _ _ (fun z => hs _ _ z (by omega))).1) (fun _ => (f.2.2.2 _ _ (fun z => hs _ _ z (by omega))).1)
theorem UnR_f (h : UnR σ m bl N w) (f : Fz S σ τ) (hs : ∀ q j, S q j → q ≠ m + 26) : UnR τ m bl N w := fun v hv h40 k hk hn => (f.2.2.2 _ _ (fun z => hs _ _ z rfl)).1.trans (h v hv h40 k hk hn)
/-- nothing but the token changes -/
theorem RQ_tk (h : RQ σ0 m bl N w u j σ) (f : Fz (fun q j => q = m ∧ 14 ≤ j ∧ j ≤ 18) σ τ) : RQ σ0 m bl N w u j τ := by
  obtain ⟨h1, ⟨h2, h2'⟩, h3, h4, h5, h6, h7, h8⟩ := h
  exact ⟨RBs_f h1 f (fun q j z => by unfold rlF; omega), ⟨(f.2.2.2 _ _ (fun z => by omega)).1.trans h2, (f.2.2.2 _ _ (fun z => by omega)).1.trans h2'⟩, NmR_f h3 f (fun q j z => by omega), UsR_f h4 f (fun q j z => by omega), LsR_f h5 f (fun q j z => by omega), (f.2.2.2 _ _ (fun z => by omega)).1.trans h6, RcR_f h7 f (fun q j z => by omega), UnR_f h8 f (fun q j z => by omega)⟩
theorem r_scn (hN : N = 4000) (hf : 20000 ≤ mpN P) (hb : mpb P ≤ m) (h : RQ σ0 m bl N w u j σ) (h14 : mxI σ m 14 = q_n p) (hp : p ≤ bl.length) : ∃ τ, f_X12_scan P m σ = some τ ∧ RQ σ0 m bl N w u j τ ∧ TkR τ m bl (skN bl N p) := by
  obtain ⟨τ, e, hk, f⟩ := r_tok (P := P) hN hf h.1.1 hb h.1.2.1 h14 hp
  exact ⟨τ, e, RQ_tk h f, hk⟩
/-! from a part to the next -/
theorem bfr_s : bfr bl N u (j + 1) v i ↔ bfr bl N u j v i ∨ (v = u ∧ i = j ∧ j < nT bl N u) := by
  unfold bfr
  constructor
  · rintro ⟨h | ⟨rfl, h⟩, h2⟩
    · exact Or.inl ⟨Or.inl h, h2⟩
    · by_cases e : i = j
      · subst e; exact Or.inr ⟨rfl, rfl, h2⟩
      · exact Or.inl ⟨Or.inr ⟨rfl, by omega⟩, h2⟩
  · rintro (⟨h | ⟨rfl, h⟩, h2⟩ | ⟨rfl, rfl, h2⟩)
    · exact ⟨Or.inl h, h2⟩
    · exact ⟨Or.inr ⟨rfl, by omega⟩, h2⟩
    · exact ⟨Or.inr ⟨rfl, by omega⟩, h2⟩
/-- a statement's end is the next one's beginning -/
theorem bfr_n : bfr bl N u (nT bl N u) v i ↔ bfr bl N (u + 1) 0 v i := by
  unfold bfr
  constructor
  · rintro ⟨h | ⟨rfl, h⟩, h2⟩
    · exact ⟨Or.inl (by omega), h2⟩
    · exact ⟨Or.inl (by omega), h2⟩
  · rintro ⟨h | ⟨rfl, h⟩, h2⟩
    · by_cases e : v = u
      · subst e; exact ⟨Or.inr ⟨rfl, h2⟩, h2⟩
      · exact ⟨Or.inl (by omega), h2⟩
    · omega
theorem Dr_80 (h : lT bl N u j = 80) : Dr bl N u (j + 1) s c ↔ Dr bl N u j s c := by
  unfold Dr
  constructor
  · rintro ⟨v, i, hb, h1, h2⟩
    rcases bfr_s.mp hb with hb | ⟨rfl, rfl, -⟩
    · exact ⟨v, i, hb, h1, h2⟩
    · exact absurd h h1
  · rintro ⟨v, i, hb, h2⟩
    exact ⟨v, i, bfr_s.mpr (Or.inl hb), h2⟩
theorem Dr_0 (h : cdR bl N u j = 0) : Dr bl N u (j + 1) s c ↔ Dr bl N u j s c := by
  unfold Dr
  constructor
  · rintro ⟨v, i, hb, h1, h2, h3, h4⟩
    rcases bfr_s.mp hb with hb | ⟨rfl, rfl, -⟩
    · exact ⟨v, i, hb, h1, h2, h3, h4⟩
    · exact absurd (h3.trans h) h4
  · rintro ⟨v, i, hb, h2⟩
    exact ⟨v, i, bfr_s.mpr (Or.inl hb), h2⟩
theorem Dr_c (hj : j < nT bl N u) (h : lT bl N u j ≠ 80) (h0 : cdR bl N u j ≠ 0) : Dr bl N u (j + 1) s c ↔ (Dr bl N u j s c ∨ (s = tkT bl N u j ∧ c = cdR bl N u j)) := by
  unfold Dr
  constructor
  · rintro ⟨v, i, hb, h1, h2, h3, h4⟩
    rcases bfr_s.mp hb with hb | ⟨rfl, rfl, -⟩
    · exact Or.inl ⟨v, i, hb, h1, h2, h3, h4⟩
    · exact Or.inr ⟨h2, h3⟩
  · rintro (⟨v, i, hb, h2⟩ | ⟨rfl, rfl⟩)
    · exact ⟨v, i, bfr_s.mpr (Or.inl hb), h2⟩
    · exact ⟨u, j, bfr_s.mpr (Or.inr ⟨rfl, rfl, hj⟩), h, rfl, rfl, h0⟩
theorem UsR_n (h : UsR σ m bl N u j) (h80 : lT bl N u j ≠ 80) : UsR σ m bl N u (j + 1) := by
  obtain ⟨us, h1, h2, h3, h4⟩ := h
  refine ⟨us, h1, ?_, h3, fun s => ?_⟩
  · rw [npP, if_neg (show ¬ lfm (fmT bl N u) j = 80 from h80)]; omega
  · rw [h4 s]
    constructor
    · rintro ⟨v, i, hb, h5⟩
      exact ⟨v, i, bfr_s.mpr (Or.inl hb), h5⟩
    · rintro ⟨v, i, hb, h5, h6⟩
      rcases bfr_s.mp hb with hb | ⟨rfl, rfl, -⟩
      · exact ⟨v, i, hb, h5, h6⟩
      · exact absurd h5 h80
theorem lf_83 : ∀ f : Fin 6, ∀ j : Fin 6, (lfm f.1 j.1 = 83 → j.1 = 5 ∧ (f.1 = 2 ∨ f.1 = 3)) ∧ ((f.1 = 2 ∨ f.1 = 3) → lfm f.1 5 = 83) := by decide +kernel
theorem akA_n (hf : fmT bl N u < 6) (h83 : lT bl N u j ≠ 83) : akA bl N u (j + 1) = akA bl N u j := by
  unfold akA
  by_cases e : j = 5
  · subst e
    have hq : isQ bl N u = false := decide_eq_false fun z => h83 ((lf_83 ⟨_, hf⟩ 0).2 z.1)
    rw [if_neg (by omega), if_pos (by omega), mkT, hq, if_neg (by decide)]
  · by_cases e2 : j ≤ 5
    · rw [if_pos e2, if_pos (by omega)]
    · rw [if_neg e2, if_neg (by omega)]
/-! places of the tokens -/
/-- the head of statement u -/
def hdU (bl : List Nat) (N u : Nat) : Prop := sqA bl N 0 u ≤ bl.length ∧ kdA bl (tkI bl N (sqA bl N 0 u) 0) = 2 ∧ fmT bl N u < 6 ∧ wfm bl 0 (tkI bl N (sqA bl N 0 u) 0) = some (kfl (fmT bl N u))
def wlt (c : Nat) : Bool := decide (c = 67 ∨ c = 80)
def lbA (f : Nat) : Nat → Nat
  | 0 => (gst (3 + f)).length + 1
  | i + 1 => lbA f i + if wlt (lfm f i) && decide (lfm f (i + 1) = 80) then 2 else 1
theorem lb_tab : ∀ f : Fin 6, ∀ j : Fin 7, j.1 + 1 ≤ nLt 0 (kfl f.1) → 3 * npP f.1 (j.1 + 1) ≤ lbA f.1 j.1 + 1 := by decide +kernel
theorem n_6 : ∀ f : Fin 6, nLt 0 (kfl f.1) ≤ 6 ∧ 3 ≤ nLt 0 (kfl f.1) := by decide +kernel
theorem tk_e (j : Nat) : tkT bl N u j = tkI bl N (sqA bl N 0 u) (j + 1) := tk_sh j
theorem tkT_le (hp : sqA bl N 0 u ≤ bl.length) : tkT bl N u j ≤ bl.length := by rw [tk_e]; exact (tkI_le hp _).2
theorem tk_lb (h256 : ∀ b, b ∈ bl → b < 256) (h : hdU bl N u) : ∀ i, (∀ k, k ≤ i → fit (lT bl N u k) (kdA bl (tkT bl N u k)) = true) → sqA bl N 0 u + lbA (fmT bl N u) i ≤ tkT bl N u i := by
  obtain ⟨hp, h2, hf, hw⟩ := h
  intro i
  induction i with
  | zero =>
    intro hfit
    have hC := (lf_n ⟨_, hf⟩).2.2.2
    dsimp only at hC
    have k1 : kdA bl (tkI bl N (sqA bl N 0 u) 1) = 2 := by
      have := hfit 0 (Nat.le_refl _)
      unfold lT at this
      rw [hC, tk_e] at this
      exact fit_2 (Or.inl rfl) this
    have h5 := (tk_ww hp 0 h2 k1).2
    obtain ⟨f, hf', he, hs⟩ := wfm_k h256 h2 hw
    have ef : fmT bl N u = f := by
      have a := (kf_tab ⟨_, hf⟩).1.2.2.2.2.1
      have b := (kf_tab ⟨f, hf'⟩).1.2.2.2.2.1
      dsimp only at a b
      rw [← a, he, b]
    have h1 := (kd2_l h2).1
    have h3 := seg_len (bs := bl) (s := tkI bl N (sqA bl N 0 u) 0) (by omega)
    have h4 := enA_le (bs := bl) (s := tkI bl N (sqA bl N 0 u) 0) (by omega)
    rw [hs, ← ef] at h3
    have h6 := (kf_tab ⟨_, hf⟩).1.2.2.2.2.2.2.2
    dsimp only at h6
    have h7 := (tkI_le (N := N) hp 0).1
    have h8 : psI bl N (sqA bl N 0 u) 0 = sqA bl N 0 u := rfl
    rw [tk_e, lbA]
    rw [show 0 + 1 = 1 from rfl] at h5 ⊢
    have := h5 (by omega)
    omega
  | succ i ih =>
    intro hfit
    have h1 := ih (fun k hk => hfit k (by omega))
    have a := hfit i (by omega)
    have b := hfit (i + 1) (Nat.le_refl _)
    rw [lbA]
    by_cases c : (wlt (lfm (fmT bl N u) i) && decide (lfm (fmT bl N u) (i + 1) = 80)) = true
    · rw [if_pos c]
      rw [Bool.and_eq_true] at c
      have k1 : kdA bl (tkI bl N (sqA bl N 0 u) (i + 1)) = 2 := by rw [← tk_e]; exact fit_2 (of_decide_eq_true c.1) a
      have k2 : kdA bl (tkI bl N (sqA bl N 0 u) (i + 1 + 1)) = 2 := by rw [← tk_e]; exact fit_2 (Or.inr (of_decide_eq_true c.2)) b
      have := (tk_ww hp (i + 1) k1 k2).1
      rw [tk_e] at h1 ⊢
      omega
    · rw [if_neg c]
      have := tk_1 (N := N) hp (i + 1) (by rw [← tk_e]; exact fit_nz a)
      rw [tk_e] at h1 ⊢
      omega
theorem tkB (h256 : ∀ b, b ∈ bl → b < 256) (h : hdU bl N u) (hj : j ≤ nT bl N u) (hfit : ∀ k, k < j → fit (lT bl N u k) (kdA bl (tkT bl N u k)) = true) : sqA bl N 0 u + 3 * npP (fmT bl N u) j ≤ tkT bl N u j := by
  cases j with
  | zero =>
    have a := (tkI_le (N := N) h.1 0).1
    have b := tk_1 (N := N) h.1 0 (by rw [h.2.1]; decide)
    have e : psI bl N (sqA bl N 0 u) 0 = sqA bl N 0 u := rfl
    rw [tk_e, npP]
    omega
  | succ j =>
    have h1 := tk_lb h256 h j (fun k hk => hfit k (by omega))
    have hn := (n_6 ⟨_, h.2.2.1⟩).1
    have hj' : j + 1 ≤ nLt 0 (kfl (fmT bl N u)) := hj
    dsimp only at hn
    have h2 := lb_tab ⟨_, h.2.2.1⟩ ⟨j, by omega⟩ hj
    dsimp only at h2
    have := tk_1 (N := N) h.1 (j + 1) (by rw [← tk_e]; exact fit_nz (hfit j (by omega)))
    rw [tk_e] at h1 ⊢
    omega
end ILS
