/-! ===== hr: statements, the class's ===== -/
section HRS
variable {P : mx_P} {σ σ0 σ1 σ2 τ : mx_S} {x m n t p a N i k : Nat} {bs : List Nat}
def hpS (t : Nat) : Nat → Nat → Prop := fun q j => (q = t ∧ ((4 ≤ j ∧ j ≤ 9) ∨ j = 12)) ∨ (t + 2 ≤ q ∧ q ≤ t + 6)
theorem PtI_f {c s j : Nat} {S : Nat → Nat → Prop} (h : PtI σ t bs c s j) (f : Fz S σ τ) (hs : ∀ q j, S q j → q = t) : PtI τ t bs c s j := by
  obtain ⟨q1, q2, q3, q4, q5⟩ := h
  have e : ∀ d, 2 ≤ d → mxI τ (t + d) j = mxI σ (t + d) j ∧ mxL τ (t + d) j = mxL σ (t + d) j := fun d hd => f.2.2.2 _ _ (fun z => by have := hs _ _ z; omega)
  refine ⟨?_, ?_, fun z => ?_, fun z => ⟨?_, ?_⟩, fun z => ?_⟩
  · rw [(e 2 (by omega)).1]; exact q1
  · rw [(e 3 (by omega)).1]; exact q2
  · rw [(e 4 (by omega)).2]; exact q3 z
  · rw [(e 5 (by omega)).1]; exact (q4 z).1
  · rw [(e 6 (by omega)).1]; exact (q4 z).2
  · rw [(e 5 (by omega)).1]; exact q5 z
/-- the letters behind place k of grammar i: n of them -/
def GL (i k n : Nat) : Prop := n ≤ 6 ∧ k + 1 + n < (gst i).length ∧ by' (gst i) (k + 1 + n) = 59 ∧ ∀ j, j < n → by' (gst i) (k + 1 + j) ≠ 59
def msm (bs : List Nat) (N i k p j : Nat) : Bool := !fit (by' (gst i) (k + 1 + j)) (kdA bs (tkI bs N p j))
theorem c_parts (hN : N = 4000) (hi : i < 16) (hG : GL i k n) (hf : 5000 ≤ mpN P) (hT : LyT σ t) (hb : mpb P ≤ t) (h : TC σ t bs) (h4 : mxI σ t 4 = q_n p) (hp : p ≤ bs.length) (h12 : mxI σ t 12 = 0) :
    ∃ r, mx_lp (f_X10_hasStatement_L59 P t i) (mpN P) (q_n (k + 1), σ) = some r ∧
      ((∃ τ, r = .inr τ ∧ r_fst (msm bs N i k p) n = none ∧ mxI τ t 4 = q_n (psI bs N p n) ∧ mxI τ t 12 = q_n n ∧ (∀ j, j < n → PtI τ t bs (by' (gst i) (k + 1 + j)) (tkI bs N p j) j) ∧ Fz (hpS t) σ τ) ∨
      (∃ j τ, r = .inl τ ∧ r_fst (msm bs N i k p) n = some j ∧ mxI τ t 6 = q_n (tkI bs N p j) ∧ Fz (hpS t) σ τ)) := by
  have ok : mt_ok i = some () := if_pos hi
  obtain ⟨g1, g2, g3, g4⟩ := hG
  obtain ⟨s1, s2, s3, -⟩ := gst_ok ⟨i, hi⟩
  dsimp only at s1 s2 s3
  have hc : ∀ j, j ≤ n → by' (gst i) (k + 1 + j) < 128 := fun j hj => s3 _ (List.mem_of_getElem? (by_i (by omega)))
  have hl := h.1
  exact q_for (f_X10_hasStatement_L59 P t i)
    (fun j s => s.1 = q_n (k + 1 + j) ∧ r_fst (msm bs N i k p) j = none ∧ mxI s.2 t 4 = q_n (psI bs N p j) ∧ mxI s.2 t 12 = q_n j ∧ (∀ l, l < j → PtI s.2 t bs (by' (gst i) (k + 1 + l)) (tkI bs N p l) l) ∧ Fz (hpS t) σ s.2)
    _ n
    (by
      rintro j ⟨x1, τ⟩ hj ⟨i1, i2, i4, i12, iP, iF⟩
      dsimp only at i1 i4 i12 iP iF
      subst i1
      have hTτ := iF.T hT
      have hCτ : TC τ t bs := TC_cg h (iF.2.2.2 _ _ (fun z => by unfold hpS at z; omega)).1 (fun q => (iF.2.2.2 _ _ (fun z => by unfold hpS at z; omega)).1)
      have hcj := hc j (by omega)
      obtain ⟨σ1, e1, hk, f1⟩ := c_tok (P := P) hN hf hTτ hb hCτ i4 (psI_le hp j)
      have hT1 := f1.T hTτ
      have f1' : Fz (hpS t) σ σ1 := iF.tr (f1.mo fun q j z => by unfold hpS; omega)
      have u12 : mxI σ1 t 12 = q_n j := by rw [(f1.2.2.2 _ _ (fun z => by omega)).1]; exact i12
      have hB : f_X10_hasStatement_B59 P t i (q_n (k + 1 + j)) τ = (if bI (fit (by' (gst i) (k + 1 + j)) (kdA bs (tkI bs N p j))) = 0 then some (.inr (.inl σ1)) else (f_X10_keepPart P t (q_n (by' (gst i) (k + 1 + j))) σ1).bind fun σ55 => (some (q_n (k + 1 + j) + (1 : Int32))).bind fun x57 => some (.inl (x57, σ55))) := by
        unfold f_X10_hasStatement_B59
        rw [bd ok, bd2 (s_len hi), if_neg (by rw [q_nLe (by omega) (by omega)]; omega), bd ok, bd2 (s_at hi (by omega)), if_neg (show ¬ q_n (by' (gst i) (k + 1 + j)) = (59 : Int32) from fun z => g4 j hj (by rw [show (59 : Int32) = q_n 59 from rfl, q_nI (by omega) (by omega)] at z; exact z)), bd (at_gI hTτ), i12, if_neg (by rw [show (6 : Int32) = q_n 6 from rfl, q_nLe (by omega) (by omega)]; omega), bd (at_is hTτ), bd e1, bd ok, bd2 (s_at hi (by omega)), bd (at_is hT1), bd2 (c_fits hT1 hcj), hk.2.1, bd ok, bd2 (s_at hi (by omega)), bd (at_is hT1)]
        rfl
      show (∃ t', f_X10_hasStatement_B59 P t i (q_n (k + 1 + j)) τ = _ ∧ _) ∨ (∃ r, f_X10_hasStatement_B59 P t i (q_n (k + 1 + j)) τ = _ ∧ _)
      rw [hB]
      cases hfit : fit (by' (gst i) (k + 1 + j)) (kdA bs (tkI bs N p j)) with
      | false =>
        rw [if_pos (by rfl)]
        refine Or.inr ⟨_, rfl, Or.inr ⟨j, σ1, rfl, fst_at hj (by unfold msm; rw [hfit]; rfl) i2, hk.2.2.1, f1'⟩⟩
      | true =>
        rw [if_neg (by decide)]
        obtain ⟨σ2, e2, hP, h12', h4', hold, f2⟩ := c_kpart (P := P) (c := by' (gst i) (k + 1 + j)) hT1 hb hk u12 (by omega)
        rw [bd e2, bds, q_nS]
        refine Or.inl ⟨_, rfl, rfl, ?_, ?_, h12', fun l hl' => ?_, f1'.tr (f2.mo fun q j z => by unfold hpS; omega)⟩
        · rw [r_fst, i2, show msm bs N i k p j = false by unfold msm; rw [hfit]; rfl]; rfl
        · rw [h4', hk.1]; rfl
        · by_cases e : l = j
          · subst e; exact hP
          · exact hold _ _ _ e (PtI_f (iP l (by omega)) f1 (fun q j z => z.1)))
    (by
      rintro ⟨x1, τ⟩ ⟨i1, i2, i4, i12, iP, iF⟩
      dsimp only at i1 i4 i12 iP iF
      subst i1
      refine ⟨.inr τ, ?_, Or.inl ⟨τ, rfl, i2, i4, i12, iP, iF⟩⟩
      show f_X10_hasStatement_B59 P t i (q_n (k + 1 + n)) τ = _
      unfold f_X10_hasStatement_B59
      rw [bd ok, bd2 (s_len hi), if_neg (by rw [q_nLe (by omega) (by omega)]; omega), bd ok, bd2 (s_at hi (by omega)), g3, if_pos (by rfl)])
    n 0 (q_n (k + 1), σ) (mpN P) (by omega) ⟨rfl, rfl, h4, h12, fun l hl' => absurd hl' (Nat.not_lt_zero l), Fz.rf⟩ (by omega)
/-- the grammars: every space has its letters -/
theorem GL_ok : ∀ i : Fin 3, ∀ k : Fin 69, k.1 < (gst i.1).length → by' (gst i.1) k.1 = 32 → ∃ n : Fin 7, k.1 + 1 + n.1 < (gst i.1).length ∧ by' (gst i.1) (k.1 + 1 + n.1) = 59 ∧ ∀ j : Fin 7, j.1 < n.1 → by' (gst i.1) (k.1 + 1 + j.1) ≠ 59 := by decide +kernel
theorem gst_3 : ∀ i : Fin 3, (gst i.1).length ≤ 69 := by decide +kernel
theorem GL_of (hi : i < 3) (hk : k < (gst i).length) (h : by' (gst i) k = 32) : ∃ n, GL i k n := by
  have h3 := gst_3 ⟨i, hi⟩
  dsimp only at h3
  obtain ⟨n, h1, h2, h3⟩ := GL_ok ⟨i, hi⟩ ⟨k, by omega⟩ hk h
  exact ⟨n.1, by have := n.2; omega, h1, h2, fun j hj => h3 ⟨j, by have := n.2; omega⟩ hj⟩
theorem r_fst_tr {s : Nat → Bool} : ∀ {n k : Nat}, r_fst s n = some k → s k = true
  | 0, k, h => by cases h
  | n + 1, k, h => by
    rw [r_fst] at h
    cases e : r_fst s n with
    | some j => rw [e] at h; cases h; exact r_fst_tr e
    | none =>
      rw [e] at h
      cases c : s n with
      | true => rw [c] at h; cases h; exact c
      | false => rw [c] at h; cases h
/-- the form that a word names -/
def wfm (bs : List Nat) (i s : Nat) : Option Nat := r_fst (ffS (gst i) (l_n (pk (seg bs s (enA bs s))))) (gst i).length
def StE (bs : List Nat) (N p : Nat) : Prop := kdA bs (tkI bs N p 0) = 0
def StF (bs : List Nat) (N i p q : Nat) : Prop := (kdA bs (tkI bs N p 0) ≠ 0 ∧ (kdA bs (tkI bs N p 0) ≠ 2 ∨ wfm bs i (tkI bs N p 0) = none) ∧ q = tkI bs N p 0) ∨
  ∃ k n j, kdA bs (tkI bs N p 0) = 2 ∧ wfm bs i (tkI bs N p 0) = some k ∧ GL i k n ∧ (r_fst (msm bs N i k (psI bs N p 1)) n = some j ∨ (r_fst (msm bs N i k (psI bs N p 1)) n = none ∧ j = n ∧ kdA bs (tkI bs N (psI bs N p 1) n) ≠ 59)) ∧ q = tkI bs N (psI bs N p 1) j
def StO (bs : List Nat) (N i p k n : Nat) : Prop := kdA bs (tkI bs N p 0) = 2 ∧ wfm bs i (tkI bs N p 0) = some k ∧ GL i k n ∧ r_fst (msm bs N i k (psI bs N p 1)) n = none ∧ kdA bs (tkI bs N (psI bs N p 1) n) = 59
/-- a FAULT, if it is the first -/
def NtC (σ τ : mx_S) (t : Nat) (w pos : Int32) : Prop := (mxI σ t 2 = 0 → mxI τ t 2 = w ∧ mxI τ t 3 = pos) ∧ (mxI σ t 2 ≠ 0 → mxI τ t 2 = mxI σ t 2 ∧ mxI τ t 3 = mxI σ t 3)
theorem c_note {w pos : Int32} (hT : LyT σ t) (hb : mpb P ≤ t) : ∃ τ, f_X10_note P t w pos σ = some τ ∧ NtC σ τ t w pos ∧ Fz (fun q j => q = t ∧ (j = 2 ∨ j = 3)) σ τ := by
  unfold f_X10_note f_X10_note_D17
  rw [bd (at_gI hT)]
  by_cases c : mxI σ t 2 = 0
  · have hT1 : LyT (mx_setI σ t 2 w) t := hT
    rw [if_pos c, bd (at_pI hT hb _), bd (at_pI hT1 hb _)]
    exact ⟨_, rfl, ⟨fun _ => ⟨by rw [sI_n (by omega)]; exact sI_e, sI_e⟩, fun z => absurd c z⟩, (Fz.rf.sI ⟨rfl, Or.inl rfl⟩ _).sI ⟨rfl, Or.inr rfl⟩ _⟩
  · rw [if_neg c]
    exact ⟨σ, rfl, ⟨fun z => absurd z c, fun _ => ⟨rfl, rfl⟩⟩, Fz.rf⟩
def hnS (t : Nat) : Nat → Nat → Prop := fun q j => (q = t ∧ 2 ≤ j ∧ j ≤ 12) ∨ (t + 2 ≤ q ∧ q ≤ t + 6)
theorem c_stm (hN : N = 4000) (hi : i < 3) (hf : 5000 ≤ mpN P) (hT : LyT σ t) (hb : mpb P ≤ t) (h : TC σ t bs) (h4 : mxI σ t 4 = q_n p) (hp : p ≤ bs.length) :
    ∃ r τ, f_X10_hasStatement P t i σ = some (r, τ) ∧ ((StE bs N p ∧ r = 0 ∧ Fz (hsS t) σ τ) ∨ (∃ q, StF bs N i p q ∧ r = 0 ∧ Fz (hnS t) σ τ ∧ NtC σ τ t 1 (q_n q)) ∨
      (∃ k n, StO bs N i p k n ∧ r = 1 ∧ Fz (hsS t) σ τ ∧ mxI τ t 4 = q_n (psI bs N p (n + 2)) ∧ mxI τ t 10 = q_n (fmA (gst i) k) ∧ mxI τ t 11 = q_n (tkI bs N p 0) ∧ mxI τ t 12 = q_n n ∧ ∀ j, j < n → PtI τ t bs (by' (gst i) (k + 1 + j)) (tkI bs N (psI bs N p 1) j) j)) := by
  have hl := h.1
  have hz1 : ∀ σ, mr_Z 1 σ = some (1, σ) := fun σ => if_pos (Or.inr rfl)
  have hz0 : ∀ σ, mr_Z 0 σ = some (0, σ) := fun σ => if_pos (Or.inl rfl)
  obtain ⟨σ1, e1, hk, f1⟩ := c_tok (P := P) hN hf hT hb h h4 hp
  have hT1 := f1.T hT
  obtain ⟨σ2, e2⟩ : ∃ σ2, σ2 = mx_setI σ1 t 11 (q_n (skN bs N p)) := ⟨_, rfl⟩
  have f2 : Fz (hsS t) σ σ2 := by rw [e2]; exact (f1.mo (T := hsS t) fun q j z => by unfold hsS; omega).sI (Or.inl (by omega)) _
  have hT2 := f2.T hT
  have s2 : ∀ j, j ≠ 11 → mxI σ2 t j = mxI σ1 t j := fun j hj => by rw [e2]; exact sI_n (by omega)
  have k5 : mxI σ2 t 5 = kdA bs (tkI bs N p 0) := by rw [s2 _ (by omega)]; exact hk.2.1
  have k6 : mxI σ2 t 6 = q_n (tkI bs N p 0) := by rw [s2 _ (by omega)]; exact hk.2.2.1
  have flt : ∀ (σ' : mx_S) (w : Int32) q, w = q_n q → StF bs N i p q → Fz (hsS t) σ σ' → ∃ r τ, ((f_X10_note P t (1 : Int32) w σ').bind fun σ86 => mr_Z (0 : Int32) σ86) = some (r, τ) ∧ ((StE bs N p ∧ r = 0 ∧ Fz (hsS t) σ τ) ∨ (∃ q, StF bs N i p q ∧ r = 0 ∧ Fz (hnS t) σ τ ∧ NtC σ τ t 1 (q_n q)) ∨
      (∃ k n, StO bs N i p k n ∧ r = 1 ∧ Fz (hsS t) σ τ ∧ mxI τ t 4 = q_n (psI bs N p (n + 2)) ∧ mxI τ t 10 = q_n (fmA (gst i) k) ∧ mxI τ t 11 = q_n (tkI bs N p 0) ∧ mxI τ t 12 = q_n n ∧ ∀ j, j < n → PtI τ t bs (by' (gst i) (k + 1 + j)) (tkI bs N (psI bs N p 1) j) j)) := by
    rintro σ' w q rfl hF f'
    obtain ⟨τ, e, hn, fn⟩ := c_note (P := P) (w := 1) (pos := q_n q) (f'.T hT) hb
    rw [bd e, hz0]
    have e2' := (f'.2.2.2 t 2 (fun z => by unfold hsS at z; omega)).1
    have e3' := (f'.2.2.2 t 3 (fun z => by unfold hsS at z; omega)).1
    refine ⟨0, τ, rfl, Or.inr (Or.inl ⟨q, hF, rfl, (f'.mo (T := hnS t) fun q j z => by unfold hsS at z; unfold hnS; omega).tr (fn.mo fun q j z => by unfold hnS; omega), ?_⟩)⟩
    unfold NtC at hn ⊢
    rw [e2', e3'] at hn; exact hn
  unfold f_X10_hasStatement
  rw [bd (at_is hT), bd e1, bd (at_gI hT1), hk.2.2.1, bd (at_pI hT1 hb _)]
  rw [← e2, bd (at_gI hT2), k5]
  by_cases c0 : kdA bs (tkI bs N p 0) = 0
  · rw [if_pos c0, hz0]
    exact ⟨0, σ2, rfl, Or.inl ⟨c0, rfl, f2⟩⟩
  rw [if_neg c0, bd (at_gI hT2), k5]
  by_cases c2 : kdA bs (tkI bs N p 0) = 2
  · rw [if_pos c2, bd (at_is hT2)]
    have k7 : mxL σ2 t 7 = l_n (pk (seg bs (tkI bs N p 0) (enA bs (tkI bs N p 0)))) := by rw [e2]; exact hk.2.2.2.1 c2
    rcases c_form (P := P) (i := i) (by omega) hf hT2 hb k7 with ⟨k, hw, eF⟩ | ⟨hw, w, eF⟩
    · rw [bd2 eF]
      obtain ⟨σ3, e3⟩ : ∃ σ3, σ3 = mx_setI (mx_setI σ2 t 10 (q_n (fmA (gst i) k))) t 12 0 := ⟨_, rfl⟩
      have hT25 : LyT (mx_setI σ2 t 10 (q_n (fmA (gst i) k))) t := hT2
      have f3 : Fz (hsS t) σ σ3 := by rw [e3]; exact (f2.sI (Or.inl (by omega)) _).sI (Or.inl (by omega)) _
      have hT3 := f3.T hT
      have hC3 : TC σ3 t bs := TC_cg h (f3.2.2.2 _ _ (fun z => by unfold hsS at z; omega)).1 (fun q => (f3.2.2.2 _ _ (fun z => by unfold hsS at z; omega)).1)
      obtain ⟨hkl, hsp⟩ : k < (gst i).length ∧ by' (gst i) k = 32 := by
        have := r_fst_tr hw
        exact ⟨r_fst_lt hw, (of_decide_eq_true this).1⟩
      obtain ⟨n, hG⟩ := GL_of hi hkl hsp
      have hlen := (gst_ok ⟨i, by omega⟩).2.1
      dsimp only at hlen
      have h34 : mxI σ3 t 4 = q_n (psI bs N p 1) := by
        rw [e3, sI_n (by omega), sI_n (by omega), s2 _ (by omega)]; exact hk.1
      unfold f_X10_hasStatement_D38
      rw [if_pos (by rw [show (0 : Int32) = q_n 0 from rfl, q_nLe (by omega) (by omega)]; omega), bd (at_pI hT25 hb _), ← e3]
      obtain ⟨r, er, hr⟩ := c_parts (P := P) hN (show i < 16 by omega) hG hf hT3 hb hC3 h34 (psI_le hp 1) (by rw [e3]; exact sI_e)
      rw [bd er]
      rcases hr with ⟨σ4, rfl, hno, a4, a12, aP, f4⟩ | ⟨j, σ4, rfl, hj, a6, f4⟩
      · show ∃ r τ, f_X10_hasStatement_D128 P t σ4 = some (r, τ) ∧ _
        have f4' : Fz (hsS t) σ σ4 := f3.tr (f4.mo fun q j z => by unfold hpS at z; unfold hsS; omega)
        have hT4 := f4'.T hT
        have hC4 : TC σ4 t bs := TC_cg h (f4'.2.2.2 _ _ (fun z => by unfold hsS at z; omega)).1 (fun q => (f4'.2.2.2 _ _ (fun z => by unfold hsS at z; omega)).1)
        obtain ⟨σ5, e5, hk5, f5⟩ := c_tok (P := P) hN hf hT4 hb hC4 a4 (psI_le (psI_le hp 1) n)
        have hT5 := f5.T hT4
        have f5' : Fz (hsS t) σ σ5 := f4'.tr (f5.mo fun q j z => by unfold hsS; omega)
        unfold f_X10_hasStatement_D128
        rw [bd (at_is hT4), bd e5, bd (at_gI hT5), hk5.2.1]
        by_cases c59 : kdA bs (skN bs N (psI bs N (psI bs N p 1) n)) = 59
        · rw [if_pos c59, hz1]
          have g10 : mxI σ5 t 10 = q_n (fmA (gst i) k) := by
            rw [(f5.2.2.2 _ _ (fun z => by omega)).1, (f4.2.2.2 _ _ (fun z => by unfold hpS at z; omega)).1, e3, sI_n (by omega)]; exact sI_e
          have g11 : mxI σ5 t 11 = q_n (tkI bs N p 0) := by
            rw [(f5.2.2.2 _ _ (fun z => by omega)).1, (f4.2.2.2 _ _ (fun z => by unfold hpS at z; omega)).1, e3, sI_n (by omega), sI_n (by omega), e2]; exact sI_e
          have g12 : mxI σ5 t 12 = q_n n := by rw [(f5.2.2.2 _ _ (fun z => by omega)).1]; exact a12
          refine ⟨1, σ5, rfl, Or.inr (Or.inr ⟨k, n, ⟨c2, hw, hG, hno, c59⟩, rfl, f5', ?_, g10, g11, g12, fun j hj => PtI_f (aP j hj) f5 (fun q j z => z.1)⟩)⟩
          rw [hk5.1, show n + 2 = 1 + (n + 1) by omega, ← psI_a]; rfl
        · rw [if_neg c59, bd (at_gI hT5), hk5.2.2.1, bd (at_is hT5)]
          exact flt σ5 _ (tkI bs N (psI bs N p 1) n) rfl (Or.inr ⟨k, n, n, c2, hw, hG, Or.inr ⟨hno, rfl, c59⟩, rfl⟩) f5'
      · have f4' : Fz (hsS t) σ σ4 := f3.tr (f4.mo fun q j z => by unfold hpS at z; unfold hsS; omega)
        have hT4 := f4'.T hT
        show ∃ r τ, ((mg_I σ4 t 10 6).bind fun x62 => (mx_is σ4 t 10).bind fun i64 => (f_X10_note P t (1 : Int32) x62 σ4).bind fun σ66 => mr_Z (0 : Int32) σ66) = some (r, τ) ∧ _
        rw [bd (at_gI hT4), a6, bd (at_is hT4)]
        exact flt σ4 _ _ rfl (Or.inr ⟨k, n, j, c2, hw, hG, Or.inl hj, rfl⟩) f4'
    · rw [bd2 eF]
      have f3 : Fz (hsS t) σ (mx_setI σ2 t 10 w) := f2.sI (Or.inl (by omega)) _
      have hT3 := f3.T hT
      unfold f_X10_hasStatement_D38
      rw [if_neg (by decide), bd (at_gI hT3), sI_n (by omega), k6, bd (at_is hT3)]
      exact flt _ _ _ rfl (Or.inl ⟨c0, Or.inr hw, rfl⟩) f3
  · rw [if_neg c2]
    unfold f_X10_hasStatement_D38
    rw [if_neg (by decide), bd (at_gI hT2), k6, bd (at_is hT2)]
    exact flt _ _ _ rfl (Or.inl ⟨c0, Or.inl c2, rfl⟩) f2
end HRS
