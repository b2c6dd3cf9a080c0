/-! ===== ic: a statement is taken ===== -/
section ICS
variable {P : mx_P} {σ σ0 σ1 σ2 τ : mx_S} {x m n t l p a N i k j u K c np fm r mk : Nat} {bl : List Nat} {on : Nat → Nat} {E : Nat → BV} {fs : Option (Nat × Nat)}
def ckL (bl : List Nat) (N K u k : Nat) (fs : Option (Nat × Nat)) (mk : Nat) : Nat → Option (Nat × Nat) × Nat
  | 0 => (fs, mk)
  | j + 1 => (nt (ckL bl N K u k fs mk j).1 (ckP bl N K u (ckL bl N K u k fs mk j).2 (by' (gst 0) (k + 1 + j)) (tkT bl N u j)) (tkT bl N u j), mkP bl (ckL bl N K u k fs mk j).2 (by' (gst 0) (k + 1 + j)) (tkT bl N u j))
theorem mkP_8 {c s : Nat} (h : mk ≤ 8) : mkP bl mk c s ≤ 8 := by unfold mkP; split <;> omega
theorem ckL_8 (h : mk ≤ 8) : ∀ j, (ckL bl N K u k fs mk j).2 ≤ 8
  | 0 => h
  | j + 1 => mkP_8 (ckL_8 h j)
theorem g0_ltL : ∀ k : Fin 69, by' (gst 0) k.1 = 32 → ∀ j : Fin 6, (∀ j' : Fin 6, j'.1 ≤ j.1 → by' (gst 0) (k.1 + 1 + j'.1) ≠ 59) → (by' (gst 0) (k.1 + 1 + j.1) = 67 ∨ by' (gst 0) (k.1 + 1 + j.1) = 80 ∨ by' (gst 0) (k.1 + 1 + j.1) = 83 ∨ by' (gst 0) (k.1 + 1 + j.1) = 120 ∨ by' (gst 0) (k.1 + 1 + j.1) = 114 ∨ by' (gst 0) (k.1 + 1 + j.1) = 105 ∨ by' (gst 0) (k.1 + 1 + j.1) = 110 ∨ by' (gst 0) (k.1 + 1 + j.1) = 107) := by decide +kernel
theorem ltL_of (hO : StO bl N 0 p k n) (hj : j < n) : ltL (by' (gst 0) (k + 1 + j)) := by
  obtain ⟨h1, h2, h3⟩ := StO_k (by omega) hO
  obtain ⟨g1, g2, g3, g4⟩ := hO.2.2.1
  exact g0_ltL ⟨k, h1⟩ h2 ⟨j, by omega⟩ fun j' hj' => g4 j'.1 (by have : j'.1 ≤ j := hj'; omega)
theorem PtI_c {c s j' : Nat} (h : PtI σ t bl c s j') (hlt : t + 8 ≤ l) (f : Fz (ckF l t) σ τ) : PtI τ t bl c s j' := by
  obtain ⟨q1, q2, q3, q4, q5⟩ := h
  have e : ∀ b, 2 ≤ b → b ≤ 6 → mxI τ (t + b) j' = mxI σ (t + b) j' ∧ mxL τ (t + b) j' = mxL σ (t + b) j' := fun b hb hb' => f.2.2.2 _ _ (fun z => by unfold ckF at z; omega)
  refine ⟨?_, ?_, fun z => ?_, fun z => ⟨?_, ?_⟩, fun z => ?_⟩
  · rw [(e 2 (by omega) (by omega)).1]; exact q1
  · rw [(e 3 (by omega) (by omega)).1]; exact q2
  · rw [(e 4 (by omega) (by omega)).2]; exact q3 z
  · rw [(e 5 (by omega) (by omega)).1]; exact (q4 z).1
  · rw [(e 6 (by omega) (by omega)).1]; exact (q4 z).2
  · rw [(e 5 (by omega) (by omega)).1]; exact q5 z
theorem c_ckl {y : Int32} (hf : 5000 ≤ mpN P) (hT : LyT σ t) (hb : mpb P ≤ t) (hL : LyL (mxA σ) (mxR σ) l) (hlt : t + 8 ≤ l) (hX : TxH bl N K) (hTd : tdC σ t bl N 0 K) (hO : StO bl N 0 (sqA bl N 0 u) k n) (hu : u < 3000) (h12 : mxI σ t 12 = q_n n) (hP : ∀ j, j < n → PtI σ t bl (by' (gst 0) (k + 1 + j)) (tkT bl N u j) j) (hF : FtC σ t fs) (h3 : mxI σ l 3 = q_n mk) (hmk : mk ≤ 8) :
    ∃ τ, mx_lp (f_X7_isTaken_L8 P l t (q_n u) y) (mpN P) ((0 : Int32), σ) = some τ ∧ FtC τ t (ckL bl N K u k fs mk n).1 ∧ mxI τ l 3 = q_n (ckL bl N K u k fs mk n).2 ∧ Fz (ckF l t) σ τ := by
  obtain ⟨p1, p2, p3, p4⟩ := CJ_pre hO
  have hn6 := hO.2.2.1.1
  exact q_for (f_X7_isTaken_L8 P l t (q_n u) y)
    (fun j s => s.1 = q_n j ∧ FtC s.2 t (ckL bl N K u k fs mk j).1 ∧ mxI s.2 l 3 = q_n (ckL bl N K u k fs mk j).2 ∧ Fz (ckF l t) σ s.2)
    (fun τ => FtC τ t (ckL bl N K u k fs mk n).1 ∧ mxI τ l 3 = q_n (ckL bl N K u k fs mk n).2 ∧ Fz (ckF l t) σ τ) n
    (by
      rintro j ⟨x1, τ⟩ hj ⟨i1, iF, i3, iz⟩
      dsimp only at i1 iF i3 iz
      subst i1
      left
      have hTτ := iz.T hT
      have hLτ : LyL (mxA τ) (mxR τ) l := by rw [iz.1, iz.2.1]; exact hL
      have hTd' : tdC τ t bl N 0 K := ⟨(iz.2.2.2 _ _ (fun z => by unfold ckF at z; omega)).1.trans hTd.1, fun q a b => by rw [(iz.2.2.2 _ _ (fun z => by unfold ckF at z; omega)).2]; exact hTd.2 q a b⟩
      have h12' : mxI τ t 12 = q_n n := by rw [(iz.2.2.2 _ _ (fun z => by unfold ckF at z; omega)).1]; exact h12
      obtain ⟨τ1, e1, a1, a2, a3⟩ := c_ckp (P := P) (u := u) hf hTτ hb hLτ hlt hX.1 hTd' hX.2.1 hX.2.2 (show j < 6 by omega) (PtI_c (hP j hj) hlt iz) (p4 j hj) (ltL_of hO hj) iF i3 (ckL_8 hmk j) hu
      refine ⟨(q_n (j + 1), τ1), ?_, rfl, a1, a2, iz.tr a3⟩
      show f_X7_isTaken_B8 P l t (q_n u) y (q_n j) τ = _
      unfold f_X7_isTaken_B8
      rw [bd (at_gI hTτ), h12', if_neg (by rw [q_nLe (by omega) (by omega)]; omega), bd (al_is hLτ), bd e1, bds, q_nS])
    (by
      rintro ⟨x1, τ⟩ ⟨i1, iF, i3, iz⟩
      dsimp only at i1 iF i3 iz
      subst i1
      refine ⟨τ, ?_, iF, i3, iz⟩
      have h12' : mxI τ t 12 = q_n n := by rw [(iz.2.2.2 _ _ (fun z => by unfold ckF at z; omega)).1]; exact h12
      show f_X7_isTaken_B8 P l t (q_n u) y (q_n n) τ = _
      unfold f_X7_isTaken_B8
      rw [bd (at_gI (iz.T hT)), h12', if_pos (by rw [q_nLe (by omega) (by omega)]; exact Nat.le_refl _)])
    n 0 ((0 : Int32), σ) (mpN P) (by omega) ⟨rfl, hF, h3, Fz.rf⟩ (by omega)
theorem nt_none {c q : Nat} (h : nt fs c q = none) : fs = none ∧ c = 0 := by
  cases fs with
  | some z => cases h
  | none =>
    refine ⟨rfl, ?_⟩
    by_cases e : c = 0
    · exact e
    · unfold nt at h; dsimp only at h; rw [if_neg e] at h; cases h
theorem ck_none : ∀ {n : Nat}, (ckL bl N K u k fs mk n).1 = none → ∀ j, j < n → ckP bl N K u (ckL bl N K u k fs mk j).2 (by' (gst 0) (k + 1 + j)) (tkT bl N u j) = 0
  | 0, _, j, hj => absurd hj (Nat.not_lt_zero j)
  | n + 1, h, j, hj => by
    obtain ⟨h1, h2⟩ := nt_none h
    by_cases e : j = n
    · subst e; exact h2
    · exact ck_none h1 j (by omega)
/-- what a statement without a fault gives -/
theorem ck_ok (hO : StO bl N 0 (sqA bl N 0 u) k n) (h : (ckL bl N K u k fs mk n).1 = none) : okT bl N K u k n ∧ u < 40 ∧ telA bl N K (cnA bl N 0 u) ≠ none ∧ ∀ v, telA bl N K (cnA bl N 0 u) = some v → ¬ v < u := by
  obtain ⟨p1, p2, p3, p4⟩ := CJ_pre hO
  have hc := ck_none h
  refine ⟨fun j hj h67 => ⟨fun h80 => ?_, fun h80 h83 => ?_⟩, ?_⟩
  · have := hc j hj
    unfold ckP at this
    rw [if_neg h67, if_pos h80] at this
    cases e : telA bl N K (nmA bl (tkT bl N u j)) with
    | some v => rfl
    | none => rw [e] at this; cases this
  · have := hc j hj
    unfold ckP at this
    rw [if_neg h67, if_neg h80, if_neg h83] at this
    cases e : rgL (by' (gst 0) (k + 1 + j)) (tpA bl (tkT bl N u j)) (nmB bl (nmD bl (tkT bl N u j))) with
    | true => rfl
    | false => rw [e] at this; cases this
  · have hn0 := StO_n (by omega) hO
    obtain ⟨q1, q2, -⟩ := StO_k (by omega) hO
    have h67 : by' (gst 0) (k + 1 + 0) = 67 := g0_C ⟨k, q1⟩ q2
    have := hc 0 hn0
    unfold ckP at this
    rw [if_pos h67] at this
    have en : nmA bl (tkT bl N u 0) = cnA bl N 0 u := rfl
    rw [en] at this
    cases e : telA bl N K (cnA bl N 0 u) with
    | none => rw [e] at this; cases this
    | some v =>
      rw [e] at this
      dsimp only at this
      by_cases c1 : v < u
      · rw [if_pos c1] at this; cases this
      rw [if_neg c1] at this
      by_cases c2 : u < 40
      · exact ⟨c2, by simp, fun v' hv' => by cases hv'; exact c1⟩
      · rw [if_neg c2] at this; cases this
theorem mkP_o {c s : Nat} (h : c ≠ 83) : mkP bl mk c s = mk := by unfold mkP; rw [if_neg (fun z => h z.1)]
end ICS
