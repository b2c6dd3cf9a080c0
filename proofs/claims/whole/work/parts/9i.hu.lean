/-! ===== hu: the checks of a statement, the class's ===== -/
section HUS
variable {P : mx_P} {σ σ0 σ1 σ2 τ : mx_S} {x m n t l p a N i k j u K : Nat} {bs : List Nat}
def nmA (bs : List Nat) (s : Nat) : List Nat := seg bs s (enA bs s)
def telA (bs : List Nat) (N K : Nat) (w : List Nat) : Option Nat := r_fst (fun j => decide (cnA bs N 0 j = w)) K
/-- what is wrong with a part: 0 nothing -/
def ckP (bs : List Nat) (N K u mk c s : Nat) : Nat :=
  if c = 67 then (match telA bs N K (nmA bs s) with | none => 2 | some v => if v < u then 2 else if u < 40 then 0 else 6)
  else if c = 80 then (if (telA bs N K (nmA bs s)).isNone then 3 else 0)
  else if c = 83 then (if kdA bs s = 63 ∧ 8 ≤ mk then 6 else 0)
  else if rgL c (tpA bs s) (nmB bs (nmD bs s)) then 0 else 5
def mkP (bs : List Nat) (mk c s : Nat) : Nat := if c = 83 ∧ kdA bs s = 63 ∧ mk < 8 then mk + 1 else mk
def FtC (σ : mx_S) (t : Nat) (fs : Option (Nat × Nat)) : Prop := match fs with
  | none => mxI σ t 2 = 0 ∧ mxI σ t 3 = 0
  | some (c, q) => 0 < c ∧ c < 10 ∧ mxI σ t 2 = q_n c ∧ mxI σ t 3 = q_n q
def nt (fs : Option (Nat × Nat)) (c q : Nat) : Option (Nat × Nat) := match fs with
  | some x => some x
  | none => if c = 0 then none else some (c, q)
def ltL (c : Nat) : Prop := c = 67 ∨ c = 80 ∨ c = 83 ∨ c = 120 ∨ c = 114 ∨ c = 105 ∨ c = 110 ∨ c = 107
theorem tp_b {s : Nat} (h : ∀ b, b ∈ bs → b < 256) : -10000 < tpA bs s ∧ tpA bs s < 10000 := by
  have := dv4_lt (p := nmD bs s) h
  unfold tpA; split <;> omega
theorem nmB_p {s : Nat} (h3 : kdA bs s = 3) : 0 < nmB bs (nmD bs s) := by
  rcases Nat.eq_zero_or_pos (nmB bs (nmD bs s)) with z | z
  · exfalso
    unfold kdA at h3
    rw [z, if_pos (rfl : (0 : Nat) = 0)] at h3
    split at h3
    · exact absurd h3 (by decide)
    split at h3
    · exact absurd h3 (by decide)
    split at h3
    · exact absurd h3 (by decide)
    split at h3
    · next sg =>
      unfold sgn at sg
      have := of_decide_eq_true sg
      rw [h3] at this
      revert this; decide
    · exact absurd h3 (by decide)
  · exact z
theorem NmI_of {c s : Nat} (h256 : ∀ b, b ∈ bs → b < 256) (hP : PtI σ t bs c s j) (h3 : kdA bs s = 3) : NmI σ t j (tpA bs s) (nmB bs (nmD bs s)) := by
  obtain ⟨-, -, -, q4, -⟩ := hP
  obtain ⟨a1, a2⟩ := tp_b (s := s) h256
  exact ⟨(q4 h3).1, (q4 h3).2, a1, a2, nmB_p h3, nmB_lt h256 _⟩
theorem c_nt {fs : Option (Nat × Nat)} {c q : Nat} (hT : LyT σ t) (hb : mpb P ≤ t) (h : FtC σ t fs) (hc : c ≠ 0) (hc2 : c < 10) : ∃ τ, f_X10_note P t (q_n c) (q_n q) σ = some τ ∧ FtC τ t (nt fs c q) ∧ Fz (fun q j => q = t ∧ (j = 2 ∨ j = 3)) σ τ := by
  obtain ⟨τ, e, hn, f⟩ := c_note (P := P) (w := q_n c) (pos := q_n q) hT hb
  refine ⟨τ, e, ?_, f⟩
  cases fs with
  | none =>
    have := hn.1 h.1
    show FtC τ t (if c = 0 then none else some (c, q))
    rw [if_neg hc]
    exact ⟨by omega, hc2, this⟩
  | some z =>
    obtain ⟨c', q'⟩ := z
    obtain ⟨h1, h2, h3, h4⟩ := h
    have := hn.2 (by rw [h3]; intro z; rw [show (0 : Int32) = q_n 0 from rfl, q_nI (by omega) (by omega)] at z; omega)
    exact ⟨h1, h2, this.1.trans h3, this.2.trans h4⟩
def ckF (l t : Nat) : Nat → Nat → Prop := fun q j => (q = t ∧ (j = 2 ∨ j = 3)) ∨ (q = l ∧ j = 3)
theorem nt0 {fs : Option (Nat × Nat)} {q : Nat} : nt fs 0 q = fs := by cases fs <;> rfl
theorem c_ckp {fs : Option (Nat × Nat)} {mk c s : Nat} (hf : 5000 ≤ mpN P) (hT : LyT σ t) (hb : mpb P ≤ t) (hL : LyL (mxA σ) (mxR σ) l) (hlt : t + 8 ≤ l) (h256 : ∀ b, b ∈ bs → b < 256) (hTd : tdC σ t bs N 0 K) (hK : K ≤ 450) (hg : ∀ j, j < K → gnm (cnA bs N 0 j))
    (hj : j < 6) (hP : PtI σ t bs c s j) (hfit : fit c (kdA bs s) = true) (hc : ltL c) (hF : FtC σ t fs) (h3 : mxI σ l 3 = q_n mk) (hmk : mk ≤ 8) (hu : u < 3000) :
    ∃ τ, f_X7_checkPart P l t (q_n j) (q_n u) σ = some τ ∧ FtC τ t (nt fs (ckP bs N K u mk c s) s) ∧ mxI τ l 3 = q_n (mkP bs mk c s) ∧ Fz (ckF l t) σ τ := by
  obtain ⟨q1, q2, q3, q4, q5⟩ := id hP
  have tel : ∀ w, gnm w → f_X10_tellerOf P t (l_n (pk w)) σ = some (r_fI (telA bs N K w), σ) := fun w hw => by
    rw [c_tell hf hT hTd hw hg, show min K 450 = K by omega]; rfl
  have nn : ∀ (code : Nat), code ≠ 0 → code < 10 → ckP bs N K u mk c s = code → mkP bs mk c s = mk → ∃ τ, ((mx_is σ t 10).bind fun _ => (f_X10_note P t (q_n code) (q_n s) σ).bind fun σ23 => some σ23) = some τ ∧ FtC τ t (nt fs (ckP bs N K u mk c s) s) ∧ mxI τ l 3 = q_n (mkP bs mk c s) ∧ Fz (ckF l t) σ τ := by
    intro code c0 c10 e1 e2
    obtain ⟨τ, e, hft, f⟩ := c_nt (P := P) (q := s) hT hb hF c0 c10
    rw [bd (at_is hT), bd e, e1, e2]
    exact ⟨τ, rfl, hft, by rw [(f.2.2.2 _ _ (fun z => by omega)).1]; exact h3, f.mo fun q j z => Or.inl z⟩
  have same : ckP bs N K u mk c s = 0 → mkP bs mk c s = mk → ∃ τ, (some σ : Option mx_S) = some τ ∧ FtC τ t (nt fs (ckP bs N K u mk c s) s) ∧ mxI τ l 3 = q_n (mkP bs mk c s) ∧ Fz (ckF l t) σ τ := by
    intro e1 e2
    rw [e1, e2, nt0]
    exact ⟨σ, rfl, hF, h3, Fz.rf⟩
  unfold f_X7_checkPart f_X7_checkPart_D182
  rw [bd (at_r14 hT), bd (at_g14 hT hj), q2, bd (at_r13 hT), bd (at_g13 hT hj), q1]
  have c128 : c < 128 := by unfold ltL at hc; omega
  have nq : ∀ d : Nat, d < 128 → (q_n c = q_n d ↔ c = d) := fun d hd => q_nI (by omega) (by omega)
  by_cases c67 : c = 67
  · have mk1 : mkP bs mk c s = mk := by unfold mkP; rw [if_neg (by omega)]
    have k2 : kdA bs s = 2 := by rw [c67] at hfit; unfold fit at hfit; rw [if_pos (Or.inl rfl)] at hfit; exact of_decide_eq_true hfit
    have hw := wd_gnm h256 k2
    rw [if_pos (by rw [c67]; rfl), bd (at_r15 hT), bd (at_g15 hT hj), q3 k2, bd (at_is hT), bd2 (tel _ hw)]
    have ck : ckP bs N K u mk c s = (match telA bs N K (nmA bs s) with | none => 2 | some v => if v < u then 2 else if u < 40 then 0 else 6) := by unfold ckP; rw [if_pos c67]
    have en : telA bs N K (seg bs s (enA bs s)) = telA bs N K (nmA bs s) := rfl
    rw [en]
    cases ht : telA bs N K (nmA bs s) with
    | none =>
      rw [ht] at ck
      rw [if_neg (by show ¬ q_n u ≤ (-1 : Int32); rw [q_le, q_nT (by omega)]; show ¬ (u : Int) ≤ -1; omega)]
      exact nn 2 (by omega) (by omega) ck mk1
    | some v =>
      rw [ht] at ck
      have hv : v < K := r_fst_lt ht
      show ∃ τ, (if q_n u ≤ q_n v then _ else _) = some τ ∧ _
      by_cases c1 : v < u
      · rw [if_neg (by rw [q_nLe (by omega) (by omega)]; omega)]
        exact nn 2 (by omega) (by omega) (by rw [ck]; exact if_pos c1) mk1
      rw [if_pos (by rw [q_nLe (by omega) (by omega)]; omega)]
      by_cases c2 : u < 40
      · rw [if_pos (by rw [show (40 : Int32) = q_n 40 from rfl, q_nLt (by omega) (by omega)]; exact c2)]
        exact same (by rw [ck]; dsimp only; rw [if_neg c1, if_pos c2]) mk1
      · rw [if_neg (by rw [show (40 : Int32) = q_n 40 from rfl, q_nLt (by omega) (by omega)]; exact c2)]
        exact nn 6 (by omega) (by omega) (by rw [ck]; dsimp only; rw [if_neg c1, if_neg c2]) mk1
  rw [if_neg (show ¬ q_n c = (67 : Int32) from fun z => c67 ((nq 67 (by omega)).mp z))]
  by_cases c80 : c = 80
  · have mk1 : mkP bs mk c s = mk := by unfold mkP; rw [if_neg (by omega)]
    have k2 : kdA bs s = 2 := by rw [c80] at hfit; unfold fit at hfit; rw [if_pos (Or.inr rfl)] at hfit; exact of_decide_eq_true hfit
    have hw := wd_gnm h256 k2
    rw [if_pos (by rw [c80]; rfl), bd (at_r15 hT), bd (at_g15 hT hj), q3 k2, bd (at_is hT), bd2 (tel _ hw)]
    have ck : ckP bs N K u mk c s = (if (telA bs N K (nmA bs s)).isNone then 3 else 0) := by unfold ckP; rw [if_neg c67, if_pos c80]
    have en : telA bs N K (seg bs s (enA bs s)) = telA bs N K (nmA bs s) := rfl
    rw [en]
    cases ht : telA bs N K (nmA bs s) with
    | none =>
      rw [ht] at ck
      rw [if_neg (by decide)]
      exact nn 3 (by omega) (by omega) ck mk1
    | some v =>
      rw [ht] at ck
      have hv : v < K := r_fst_lt ht
      rw [if_pos (by show (0 : Int32) ≤ q_n v; rw [show (0 : Int32) = q_n 0 from rfl, q_nLe (by omega) (by omega)]; omega)]
      exact same ck mk1
  rw [if_neg (show ¬ q_n c = (80 : Int32) from fun z => c80 ((nq 80 (by omega)).mp z))]
  by_cases c83 : c = 83
  · have kS : kdA bs s = 43 ∨ kdA bs s = 45 ∨ kdA bs s = 63 := by
      rw [c83] at hfit; unfold fit at hfit
      rw [if_neg (by decide), if_neg (by decide), if_pos rfl] at hfit
      exact of_decide_eq_true hfit
    have k3 : kdA bs s ≠ 3 := by rcases kS with z | z | z <;> rw [z] <;> decide
    have ck : ckP bs N K u mk c s = (if kdA bs s = 63 ∧ 8 ≤ mk then 6 else 0) := by unfold ckP; rw [if_neg c67, if_neg c80, if_pos c83]
    rw [if_pos (by rw [c83]; rfl), bd (at_r16 hT), bd (at_g16 hT hj), q5 k3]
    unfold f_X7_checkPart_D143 f_X7_checkPart_D182
    rw [bd (at_r16 hT), bd (at_g16 hT hj), q5 k3, bd (al_gI hL), h3]
    by_cases c63 : kdA bs s = 63
    · rw [if_pos c63, if_pos c63]
      by_cases c8 : mk < 8
      · rw [if_pos (by rw [show (8 : Int32) = q_n 8 from rfl, q_nLt (by omega) (by omega)]; exact c8), bd (al_gI hL), h3, q_nS, bd (al_pI hL (by omega) _)]
        refine ⟨_, rfl, ?_, ?_, Fz.rf.sI (Or.inr ⟨rfl, rfl⟩) _⟩
        · rw [ck, if_neg (by omega), nt0]
          unfold FtC at hF ⊢
          cases fs with
          | none => exact ⟨by rw [sI_n (by omega)]; exact hF.1, by rw [sI_n (by omega)]; exact hF.2⟩
          | some z => obtain ⟨a, b⟩ := z; exact ⟨hF.1, hF.2.1, by rw [sI_n (by omega)]; exact hF.2.2.1, by rw [sI_n (by omega)]; exact hF.2.2.2⟩
        · rw [sI_e]; unfold mkP; rw [if_pos ⟨c83, c63, c8⟩]
      · rw [if_neg (by rw [show (8 : Int32) = q_n 8 from rfl, q_nLt (by omega) (by omega)]; exact c8)]
        exact nn 6 (by omega) (by omega) (by rw [ck, if_pos ⟨c63, by omega⟩]) (by unfold mkP; rw [if_neg (by omega)])
    · rw [if_neg c63, if_neg c63]
      exact same (by rw [ck, if_neg (fun z => c63 z.1)]) (by unfold mkP; rw [if_neg (fun z => c63 z.2.1)])
  rw [if_neg (show ¬ q_n c = (83 : Int32) from fun z => c83 ((nq 83 (by omega)).mp z))]
  have k3 : kdA bs s = 3 := by
    unfold fit at hfit
    rw [if_neg (by omega), if_neg (by unfold ltL at hc; omega), if_neg c83] at hfit
    exact of_decide_eq_true hfit
  have mk1 : mkP bs mk c s = mk := by unfold mkP; rw [if_neg (by omega)]
  have ck : ckP bs N K u mk c s = (if rgL c (tpA bs s) (nmB bs (nmD bs s)) then 0 else 5) := by unfold ckP; rw [if_neg c67, if_neg c80, if_neg c83]
  rw [bd (at_is hT), bd2 (c_rng hT hj (NmI_of h256 hP k3) q1 (by unfold ltL at hc; omega))]
  cases hr : rgL c (tpA bs s) (nmB bs (nmD bs s)) with
  | true =>
    rw [hr, if_pos rfl] at ck
    rw [if_neg (by decide)]
    exact same ck mk1
  | false =>
    rw [hr, if_neg (by decide)] at ck
    rw [if_pos (by rfl)]
    exact nn 5 (by omega) (by omega) ck mk1
end HUS
