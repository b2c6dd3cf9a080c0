/-! ===== hs: the whole text, the class's first reading ===== -/
section HSS
variable {P : mx_P} {σ σ0 σ1 σ2 τ : mx_S} {x m n t p a N i k : Nat} {bs : List Nat}
def nLt (i k : Nat) : Nat := (r_fst (fun j => decide (by' (gst i) (k + 1 + j) = 59)) 7).getD 0
theorem nLt_e (h : GL i k n) : nLt i k = n := by
  unfold nLt
  rw [fst_at (n := 7) (k := n) (by have := h.1; omega) (decide_eq_true h.2.2.1) (fst_no fun p hp => decide_eq_false (h.2.2.2 p hp))]; rfl
/-- the next statement's place; the j-th statement's -/
def nxA (bs : List Nat) (N i p : Nat) : Nat := match wfm bs i (tkI bs N p 0) with
  | some k => psI bs N p (nLt i k + 2)
  | none => p
def sqA (bs : List Nat) (N i : Nat) : Nat → Nat
  | 0 => 0
  | j + 1 => nxA bs N i (sqA bs N i j)
theorem nxA_e (h : StO bs N i p k n) : nxA bs N i p = psI bs N p (n + 2) := by
  unfold nxA; rw [h.2.1]; dsimp only; rw [nLt_e h.2.2.1]
/-- K good statements, then the end or a FAULT of the grammar -/
def Txt (bs : List Nat) (N i K : Nat) (e : Option Nat) : Prop := (∀ j, j < K → ∃ k n, StO bs N i (sqA bs N i j) k n) ∧ (match e with | none => StE bs N (sqA bs N i K) | some q => StF bs N i (sqA bs N i K) q)
theorem StO_E (h : StO bs N i p k n) : ¬ StE bs N p := fun z => by unfold StE at z; rw [h.1] at z; exact absurd z (by decide)
theorem GL_u {n' : Nat} (h : GL i k n) (h' : GL i k n') : n = n' := by rw [← nLt_e h, ← nLt_e h']
theorem StO_F {q : Nat} (h : StO bs N i p k n) : ¬ StF bs N i p q := by
  rintro (⟨h0, h1 | h1, -⟩ | ⟨k', n', j, h1, h2, h3, h4, -⟩)
  · exact h1 h.1
  · rw [h.2.1] at h1; cases h1
  · have ek : k' = k := by rw [h.2.1] at h2; exact (Option.some.inj h2).symm
    subst ek
    have en := GL_u h.2.2.1 h3
    subst en
    rcases h4 with h4 | ⟨-, -, h4⟩
    · rw [h.2.2.2.1] at h4; cases h4
    · exact h4 h.2.2.2.2
theorem StF_u {q q' : Nat} (h : StF bs N i p q) (h' : StF bs N i p q') : q = q' := by
  rcases h with ⟨a0, a1, a2⟩ | ⟨k, n, j, a1, a2, a3, a4, a5⟩
  · rcases h' with ⟨-, -, b2⟩ | ⟨k', n', j', b1, b2, b3, b4, b5⟩
    · rw [a2, b2]
    · rcases a1 with a1 | a1
      · exact absurd b1 a1
      · rw [a1] at b2; cases b2
  · rcases h' with ⟨-, b1, b2⟩ | ⟨k', n', j', b1, b2, b3, b4, b5⟩
    · rcases b1 with b1 | b1
      · exact absurd a1 b1
      · rw [b1] at a2; cases a2
    · have ek : k' = k := by rw [a2] at b2; exact (Option.some.inj b2).symm
      subst ek
      have en := GL_u a3 b3
      subst en
      rw [a5, b5]
      rcases a4 with a4 | ⟨a4, rfl, -⟩
      · rcases b4 with b4 | ⟨b4, -, -⟩
        · rw [a4] at b4; rw [Option.some.inj b4]
        · rw [a4] at b4; cases b4
      · rcases b4 with b4 | ⟨-, rfl, -⟩
        · rw [a4] at b4; cases b4
        · rfl
theorem StE_F {q : Nat} (h : StE bs N p) : ¬ StF bs N i p q := by
  unfold StE at h
  rintro (⟨h0, -, -⟩ | ⟨k', n', j, h1, -⟩)
  · exact h0 h
  · rw [h] at h1; exact absurd h1 (by decide)
theorem Txt_u {K K' : Nat} {e e' : Option Nat} (h : Txt bs N i K e) (h' : Txt bs N i K' e') : K = K' ∧ e = e' := by
  have lt : ∀ {K K' : Nat} {e e' : Option Nat}, Txt bs N i K e → Txt bs N i K' e' → ¬ K < K' := by
    intro K K' e e' h h' hlt
    obtain ⟨k, n, ho⟩ := h'.1 K hlt
    have := h.2
    cases e with
    | none => exact StO_E ho this
    | some q => exact StO_F ho this
  have eK : K = K' := Nat.le_antisymm (Nat.le_of_not_lt (lt h' h)) (Nat.le_of_not_lt (lt h h'))
  subst eK
  refine ⟨rfl, ?_⟩
  have a := h.2
  have b := h'.2
  cases e with
  | none => cases e' with
    | none => rfl
    | some q => exact absurd b (StE_F a)
  | some q => cases e' with
    | none => exact absurd a (StE_F b)
    | some q' => rw [StF_u a b]
theorem kd59_lt {s : Nat} (h : kdA bs s ≠ 0) : s < bs.length := by
  apply Nat.lt_of_not_le
  intro z
  exact h (by unfold kdA; rw [if_pos z])
theorem psI_mono (hp : p ≤ bs.length) (j : Nat) : psI bs N p j ≤ psI bs N p (j + 1) := by
  have h1 := tkI_le (N := N) hp j
  have h2 := enA_le h1.2
  rw [psI_s]; omega
theorem psI_up (hp : p ≤ bs.length) : ∀ (d j : Nat), psI bs N p j ≤ psI bs N p (j + d)
  | 0, j => Nat.le_refl _
  | d + 1, j => Nat.le_trans (psI_up hp d j) (psI_mono hp (j + d))
/-- a good statement takes two bytes at least -/
theorem StO_2 (h : StO bs N i p k n) (hp : p ≤ bs.length) : p + 2 ≤ psI bs N p (n + 2) ∧ psI bs N p (n + 2) ≤ bs.length := by
  have h0 := tkI_le (N := N) hp 0
  have h1 : tkI bs N p 0 < bs.length := kd59_lt (by rw [h.1]; decide)
  have h2 := (enA_le h0.2).2.2 h1
  have e1 : psI bs N p 1 = enA bs (tkI bs N p 0) := rfl
  have h3 := psI_up (N := N) hp n 1
  have h4 := tkI_le (N := N) hp (1 + n)
  have e4 : tkI bs N (psI bs N p 1) n = tkI bs N p (1 + n) := by unfold tkI; rw [psI_a]
  have h5 : tkI bs N p (1 + n) < bs.length := kd59_lt (by rw [← e4, h.2.2.2.2]; decide)
  have h6 := (enA_le h4.2).2.2 h5
  have e6 : psI bs N p (n + 2) = enA bs (tkI bs N p (1 + n)) := by rw [show n + 2 = (1 + n) + 1 by omega]; rfl
  have h7 := (enA_le h4.2).2.1
  have e0 : psI bs N p 0 = p := rfl
  rw [e6]; omega
theorem sqA_b {K : Nat} (h : ∀ j, j < K → ∃ k n, StO bs N i (sqA bs N i j) k n) : ∀ j, j ≤ K → 2 * j ≤ sqA bs N i j ∧ sqA bs N i j ≤ bs.length
  | 0, _ => ⟨Nat.le_refl _, Nat.zero_le _⟩
  | j + 1, hj => by
    have ih := sqA_b h j (by omega)
    obtain ⟨k, n, ho⟩ := h j (by omega)
    have := StO_2 ho ih.2
    rw [sqA, nxA_e ho]; omega
/-- the name that a statement tells first -/
def cnA (bs : List Nat) (N i j : Nat) : List Nat := seg bs (tkI bs N (psI bs N (sqA bs N i j) 1) 0) (enA bs (tkI bs N (psI bs N (sqA bs N i j) 1) 0))
def tdC (σ : mx_S) (t : Nat) (bs : List Nat) (N i K : Nat) : Prop := mxI σ t 19 = q_n (min K 450) ∧ ∀ j, j < K → j < 450 → mxL σ (t + 7) j = l_n (pk (cnA bs N i j))
def gmS (t : Nat) : Nat → Nat → Prop := fun q j => (q = t ∧ (2 ≤ j ∧ j ≤ 12 ∨ j = 19)) ∨ (t + 2 ≤ q ∧ q ≤ t + 7)
theorem g0_C : ∀ k : Fin 69, by' (gst 0) k.1 = 32 → by' (gst 0) (k.1 + 1) = 67 := by decide +kernel
theorem g12_C : ∀ k : Fin 69, (by' (gst 1) k.1 = 32 → by' (gst 1) (k.1 + 1) ≠ 67) ∧ (by' (gst 2) k.1 = 32 → by' (gst 2) (k.1 + 1) ≠ 67) := by decide +kernel
theorem StO_k (hi : i < 3) (h : StO bs N i p k n) : k < 69 ∧ by' (gst i) k = 32 ∧ k < (gst i).length := by
  have h1 := r_fst_lt h.2.1
  have h2 := r_fst_tr h.2.1
  have h3 := gst_3 ⟨i, hi⟩
  dsimp only at h3
  exact ⟨by omega, (of_decide_eq_true h2).1, h1⟩
theorem g_n1 : ∀ i : Fin 3, ∀ k : Fin 69, by' (gst i.1) k.1 = 32 → by' (gst i.1) (k.1 + 1) ≠ 59 := by decide +kernel
theorem StO_n (hi : i < 3) (h : StO bs N i p k n) : 0 < n := by
  obtain ⟨h1, h2, h3⟩ := StO_k hi h
  rcases Nat.eq_zero_or_pos n with z | z
  · subst z
    have := h.2.2.1.2.2.1
    exact absurd this (g_n1 ⟨i, hi⟩ ⟨k, h1⟩ h2)
  · exact z
theorem msm_no {p : Nat} : ∀ {n : Nat}, r_fst (msm bs N i k p) n = none → ∀ j, j < n → fit (by' (gst i) (k + 1 + j)) (kdA bs (tkI bs N p j)) = true
  | 0, _, j, hj => absurd hj (Nat.not_lt_zero j)
  | n + 1, h, j, hj => by
    rw [r_fst] at h
    cases e : r_fst (msm bs N i k p) n with
    | some l => rw [e] at h; cases h
    | none =>
      rw [e] at h
      by_cases c : j = n
      · subst c
        cases d : fit (by' (gst i) (k + 1 + j)) (kdA bs (tkI bs N p j)) with
        | true => rfl
        | false =>
          have : msm bs N i k p j = true := by unfold msm; rw [d]; rfl
          rw [this] at h; cases h
      · exact msm_no e j (by omega)
/-- class: the first reading -/
theorem c_gram (hN : N = 4000) (hi : i < 3) (hf : 5000 ≤ mpN P) (hT : LyT σ t) (hb : mpb P ≤ t) (h : TC σ t bs) :
    ∃ K e τ, Txt bs N i K e ∧ f_X10_isGrammatical P t i σ = some (bI e.isNone, τ) ∧ mxI τ t 4 = 0 ∧ (e = none → mxI τ t 2 = 0 ∧ mxI τ t 3 = 0) ∧ (∀ q, e = some q → mxI τ t 2 = 1 ∧ mxI τ t 3 = q_n q) ∧ (i = 0 → tdC τ t bs N i K) ∧ Fz (gmS t) σ τ := by
  have hl := h.1
  have hz1 : ∀ σ, mr_Z 1 σ = some (1, σ) := fun σ => if_pos (Or.inr rfl)
  have hz0 : ∀ σ, mr_Z 0 σ = some (0, σ) := fun σ => if_pos (Or.inl rfl)
  obtain ⟨σ1, e1⟩ : ∃ σ1, σ1 = mx_setI (mx_setI (mx_setI (mx_setI σ t 2 0) t 3 0) t 19 0) t 4 0 := ⟨_, rfl⟩
  have f1 : Fz (gmS t) σ σ1 := by rw [e1]; exact (((Fz.rf.sI (Or.inl (by omega)) _).sI (Or.inl (by omega)) _).sI (Or.inl (by omega)) _).sI (Or.inl (by omega)) _
  have hTC : ∀ {τ}, Fz (gmS t) σ τ → TC τ t bs := fun f => TC_cg h (f.2.2.2 _ _ (fun z => by unfold gmS at z; omega)).1 (fun q => (f.2.2.2 _ _ (fun z => by unfold gmS at z; omega)).1)
  obtain ⟨τ, er, K, e, hX, k2, k3, kt, kf⟩ := q_for (f_X10_isGrammatical_L21 P t i)
    (fun j s => s.1 = q_n j ∧ (∀ l, l < j → ∃ k n, StO bs N i (sqA bs N i l) k n) ∧ mxI s.2 t 4 = q_n (sqA bs N i j) ∧ mxI s.2 t 2 = 0 ∧ mxI s.2 t 3 = 0 ∧ (i = 0 → tdC s.2 t bs N i j) ∧ Fz (gmS t) σ s.2)
    (fun τ => ∃ K e, Txt bs N i K e ∧ (e = none → mxI τ t 2 = 0 ∧ mxI τ t 3 = 0) ∧ (∀ q, e = some q → mxI τ t 2 = 1 ∧ mxI τ t 3 = q_n q) ∧ (i = 0 → tdC τ t bs N i K) ∧ Fz (gmS t) σ τ) 2001
    (by
      rintro j ⟨x1, τ⟩ hj ⟨i1, iS, i4, i2, i3, iT, iF⟩
      dsimp only at i1 i4 i2 i3 iT iF
      subst i1
      have hTτ := iF.T hT
      have hCτ := hTC iF
      have hsq := sqA_b iS j (Nat.le_refl _)
      show (∃ t', f_X10_isGrammatical_B21 P t i (q_n j) τ = _ ∧ _) ∨ (∃ r, f_X10_isGrammatical_B21 P t i (q_n j) τ = _ ∧ _)
      obtain ⟨r, τ1, e1, hr⟩ := c_stm (P := P) hN hi hf hTτ hb hCτ i4 hsq.2
      unfold f_X10_isGrammatical_B21 f_X10_isGrammatical_D82_21
      rw [if_neg (by rw [show (4000 : Int32) = q_n 4000 from rfl, q_nLe (by omega) (by omega)]; omega), bd (at_is hTτ), bd2 e1]
      rcases hr with ⟨hE, rfl, f⟩ | ⟨q, hF, rfl, f, hn⟩ | ⟨k, n, hO, rfl, f, a4, a10, a11, a12, aP⟩
      · rw [if_pos rfl]
        have fg : ∀ d, d < 4 ∨ d = 19 → mxI τ1 t d = mxI τ t d := fun d hd => (f.2.2.2 _ _ (fun z => by unfold hsS at z; omega)).1
        have f7 : ∀ q, mxL τ1 (t + 7) q = mxL τ (t + 7) q := fun q => (f.2.2.2 _ _ (fun z => by unfold hsS at z; omega)).2
        refine Or.inr ⟨τ1, rfl, j, none, ⟨iS, hE⟩, fun _ => ⟨(fg 2 (by omega)).trans i2, (fg 3 (by omega)).trans i3⟩, fun q z => (by cases z), fun z => ⟨(fg 19 (by omega)).trans (iT z).1, fun l h1 h2 => by rw [f7]; exact (iT z).2 l h1 h2⟩, iF.tr (f.mo fun q j z => by unfold hsS at z; unfold gmS; omega)⟩
      · rw [if_pos rfl]
        have fg : mxI τ1 t 19 = mxI τ t 19 := (f.2.2.2 _ _ (fun z => by unfold hnS at z; omega)).1
        have f7 : ∀ q, mxL τ1 (t + 7) q = mxL τ (t + 7) q := fun q => (f.2.2.2 _ _ (fun z => by unfold hnS at z; omega)).2
        refine Or.inr ⟨τ1, rfl, j, some q, ⟨iS, hF⟩, fun z => (by cases z), fun q' z => (by cases z; exact hn.1 i2), fun z => ⟨fg.trans (iT z).1, fun l h1 h2 => by rw [f7]; exact (iT z).2 l h1 h2⟩, iF.tr (f.mo fun q j z => by unfold hnS at z; unfold gmS; omega)⟩
      · rw [if_neg zi10]
        have hT1 := f.T hTτ
        have iF1 : Fz (gmS t) σ τ1 := iF.tr (f.mo fun q j z => by unfold hsS at z; unfold gmS; omega)
        obtain ⟨hk69, hk32, hkl⟩ := StO_k hi hO
        have hn0 := StO_n hi hO
        have fg : ∀ d, d < 4 ∨ d = 19 → mxI τ1 t d = mxI τ t d := fun d hd => (f.2.2.2 _ _ (fun z => by unfold hsS at z; omega)).1
        have f7 : ∀ q, mxL τ1 (t + 7) q = mxL τ (t + 7) q := fun q => (f.2.2.2 _ _ (fun z => by unfold hsS at z; omega)).2
        have hP0 := aP 0 hn0
        have iS' : ∀ l, l < j + 1 → ∃ k n, StO bs N i (sqA bs N i l) k n := fun l hl' => by
          by_cases c : l = j
          · subst c; exact ⟨k, n, hO⟩
          · exact iS l (by omega)
        have a4' : mxI τ1 t 4 = q_n (sqA bs N i (j + 1)) := by rw [a4, sqA, nxA_e hO]
        have hl0 : mxI τ1 (t + 2) 0 = q_n (by' (gst i) (k + 1)) := hP0.1
        have hc0 : by' (gst i) (k + 1) < 128 := (gst_ok ⟨i, by omega⟩).2.2.1 _ (List.mem_of_getElem? (by_i (l := gst i) (by have := hO.2.2.1.2.1; omega)))
        rw [bd (at_r13 hT1), show (0 : Int32) = q_n 0 from rfl, bd (at_g13 hT1 (by omega)), hl0]
        by_cases cC : by' (gst i) (k + 1) = 67
        · rw [if_pos (by rw [cC]; rfl), bd (at_gI hT1), fg 19 (by omega)]
          have hi0 : i = 0 := by
            rcases i with _ | _ | _ | i
            · rfl
            · exact absurd cC ((g12_C ⟨k, hk69⟩).1 hk32)
            · exact absurd cC ((g12_C ⟨k, hk69⟩).2 hk32)
            · omega
          obtain ⟨t1, t2⟩ := iT hi0
          rw [t1]
          by_cases c450 : 450 ≤ j
          · rw [if_pos (by rw [show (450 : Int32) = q_n 450 from rfl, q_nLe (by omega) (by omega)]; omega), bds, q_nS]
            refine Or.inl ⟨_, rfl, rfl, iS', a4', (fg 2 (by omega)).trans i2, (fg 3 (by omega)).trans i3, fun z => ⟨?_, fun l h1 h2 => ?_⟩, iF1⟩
            · rw [fg 19 (by omega), t1]; congr 1; omega
            · rw [f7]; exact t2 l (by omega) h2
          · rw [if_neg (by rw [show (450 : Int32) = q_n 450 from rfl, q_nLe (by omega) (by omega)]; omega), bd (at_r18 hT1), bd (at_gI hT1), fg 19 (by omega), t1, bd (at_r15 hT1), bd (at_g15 hT1 (by omega))]
            have hkd : kdA bs (tkI bs N (psI bs N (sqA bs N i j) 1) 0) = 2 := by
              have := msm_no hO.2.2.2.1 0 hn0
              rw [show k + 1 + 0 = k + 1 from rfl, cC] at this
              unfold fit at this
              rw [if_pos (Or.inl rfl)] at this
              exact of_decide_eq_true this
            have hnm : mxL τ1 (t + 4) 0 = l_n (pk (cnA bs N i j)) := hP0.2.2.1 hkd
            rw [hnm, show min j 450 = j by omega, bd (at_s18 hT1 hb (by omega) _)]
            have hT2 : LyT (mx_setL τ1 (t + 7) j (l_n (pk (cnA bs N i j)))) t := hT1
            rw [bd (at_gI hT2), show mxI (mx_setL τ1 (t + 7) j (l_n (pk (cnA bs N i j)))) t 19 = q_n j by show mxI τ1 t 19 = _; rw [fg 19 (by omega), t1]; congr 1; omega, q_nS, bd (at_pI hT2 hb _), bds]
            refine Or.inl ⟨_, rfl, rfl, iS', ?_, ?_, ?_, fun z => ⟨?_, fun l h1 h2 => ?_⟩, (iF1.sL (Or.inr (by omega)) _).sI (Or.inl (by omega)) _⟩
            · rw [sI_n (by omega)]; exact a4'
            · rw [sI_n (by omega)]; exact (fg 2 (by omega)).trans i2
            · rw [sI_n (by omega)]; exact (fg 3 (by omega)).trans i3
            · rw [sI_e]; congr 1; omega
            · show mxL (mx_setL τ1 (t + 7) j (l_n (pk (cnA bs N i j)))) (t + 7) l = _
              by_cases c : l = j
              · subst c; exact sL_e
              · rw [sL_n (by omega), f7]; exact t2 l (by omega) h2
        · rw [if_neg (show ¬ q_n (by' (gst i) (k + 1)) = (67 : Int32) from fun z => cC (by rw [show (67 : Int32) = q_n 67 from rfl, q_nI (by omega) (by omega)] at z; exact z)), bds, q_nS]
          refine Or.inl ⟨_, rfl, rfl, iS', a4', (fg 2 (by omega)).trans i2, (fg 3 (by omega)).trans i3, fun z => ?_, iF1⟩
          subst z
          exact absurd (g0_C ⟨k, hk69⟩ hk32) cC)
    (by
      rintro ⟨x1, τ⟩ ⟨i1, iS, -⟩
      have := sqA_b iS 2001 (Nat.le_refl _)
      omega)
    2001 0 ((0 : Int32), σ1) (mpN P) (by omega) ⟨rfl, fun l hl' => absurd hl' (Nat.not_lt_zero l), by rw [e1]; exact sI_e, by rw [e1, sI_n (by omega), sI_n (by omega), sI_n (by omega)]; exact sI_e, by rw [e1, sI_n (by omega), sI_n (by omega)]; exact sI_e, fun _ => ⟨by rw [e1, sI_n (by omega)]; exact sI_e, fun l hl' => absurd hl' (Nat.not_lt_zero l)⟩, f1⟩ (by omega)
  have hTτ := kf.T hT
  have hT4 : LyT (mx_setI τ t 4 0) t := hTτ
  refine ⟨K, e, mx_setI τ t 4 0, hX, ?_, sI_e, fun z => ?_, fun q z => ?_, fun z => ?_, kf.sI (Or.inl (by omega)) _⟩
  · unfold f_X10_isGrammatical f_X10_rewind f_X10_isGrammatical_D88 f_X10_isGrammatical_D104
    have ha : LyT (mx_setI σ t 2 0) t := hT
    have hb' : LyT (mx_setI (mx_setI σ t 2 0) t 3 0) t := hT
    have hc : LyT (mx_setI (mx_setI (mx_setI σ t 2 0) t 3 0) t 19 0) t := hT
    rw [bd (at_pI hT hb _), bd (at_pI ha hb _), bd (at_pI hb' hb _), bd (at_is hc), bd (at_pI hc hb _), ← e1, bds, bd er]
    dsimp only
    unfold f_X10_rewind
    rw [bd (at_is hTτ), bd (at_pI hTτ hb _), bds, bd (at_gI hT4), sI_n (by omega), hz1, hz0]
    cases e with
    | none => rw [(k2 rfl).1]; rfl
    | some q => rw [(k3 q rfl).1, if_neg zi10]; rfl
  · rw [sI_n (by omega), sI_n (by omega)]; exact k2 z
  · rw [sI_n (by omega), sI_n (by omega)]; exact k3 q z
  · obtain ⟨t1, t2⟩ := kt z
    exact ⟨by rw [sI_n (by omega)]; exact t1, t2⟩
end HSS
