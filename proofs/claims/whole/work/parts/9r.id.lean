/-! ===== id: marks; a statement is taken, whole ===== -/
section IDS
variable {P : mx_P} {σ σ0 σ1 σ2 τ : mx_S} {x m n t l p a N i k j u K c np fm r mk : Nat} {bl : List Nat} {on : Nat → Nat} {E : Nat → BV} {fs : Option (Nat × Nat)}
theorem ck_S (h5 : (ckL bl N K u k fs mk 5).2 = mk) (h83 : by' (gst 0) (k + 1 + 5) = 83) (h23 : fmT bl N u = 2 ∨ fmT bl N u = 3) (h : (ckL bl N K u k fs mk 6).1 = none) : (isQ bl N u = true → mk < 8) ∧ (ckL bl N K u k fs mk 6).2 = if isQ bl N u then mk + 1 else mk := by
  have hc := ck_none h 5 (by omega)
  rw [h5, h83] at hc
  unfold ckP at hc
  rw [if_neg (show ¬ (83 : Nat) = 67 by omega), if_neg (show ¬ (83 : Nat) = 80 by omega), if_pos rfl] at hc
  have e6 : (ckL bl N K u k fs mk 6).2 = mkP bl mk 83 (tkT bl N u 5) := by
    show mkP bl (ckL bl N K u k fs mk 5).2 (by' (gst 0) (k + 1 + 5)) (tkT bl N u 5) = _
    rw [h5, h83]
  rw [e6]
  unfold isQ mkP
  by_cases c63 : kdA bl (tkT bl N u 5) = 63
  · have h8 : mk < 8 := by
      apply Nat.lt_of_not_le
      intro z
      rw [if_pos ⟨c63, z⟩] at hc; cases hc
    rw [decide_eq_true (show (fmT bl N u = 2 ∨ fmT bl N u = 3) ∧ kdA bl (tkT bl N u 5) = 63 from ⟨h23, c63⟩), if_pos ⟨rfl, c63, h8⟩, if_pos rfl]
    exact ⟨fun _ => h8, rfl⟩
  · rw [decide_eq_false (fun z => c63 z.2), if_neg (fun z => c63 z.2.1), if_neg (by decide)]
    exact ⟨fun z => (by cases z), rfl⟩
theorem ckL_o {j : Nat} (h : (ckL bl N K u k fs mk j).2 = mk) (hc : by' (gst 0) (k + 1 + j) ≠ 83) : (ckL bl N K u k fs mk (j + 1)).2 = mk := by
  show mkP bl (ckL bl N K u k fs mk j).2 (by' (gst 0) (k + 1 + j)) (tkT bl N u j) = mk
  rw [mkP_o hc, h]
theorem ck_mk (hO : StO bl N 0 (sqA bl N 0 u) k n) (h : (ckL bl N K u k fs mk n).1 = none) : (isQ bl N u = true → mk < 8) ∧ (ckL bl N K u k fs mk n).2 = if isQ bl N u then mk + 1 else mk := by
  obtain ⟨p1, p2, p3, p4⟩ := CJ_pre hO
  obtain ⟨T0, T1, T2, T3, T4, T5⟩ := g0_lt
  obtain ⟨F0, F1, F2, F3, F4, F5⟩ := g0_fm
  obtain ⟨M0, M1, M2, M3, M4, M5⟩ := g0_n
  have z0 : (ckL bl N K u k fs mk 0).2 = mk := rfl
  have no : fmT bl N u ≠ 2 → fmT bl N u ≠ 3 → (ckL bl N K u k fs mk n).2 = mk → (isQ bl N u = true → mk < 8) ∧ (ckL bl N K u k fs mk n).2 = if isQ bl N u then mk + 1 else mk := by
    intro a b e
    have hq : isQ bl N u = false := by unfold isQ; exact decide_eq_false (fun z => by rcases z.1 with z | z; exact a z; exact b z)
    rw [hq, if_neg (by decide)]
    exact ⟨fun z => (by cases z), e⟩
  rcases p3 with rfl | rfl | rfl | rfl | rfl | rfl
  · have hn : n = 3 := by omega
    subst hn
    exact no (by omega) (by omega) (ckL_o (ckL_o (ckL_o z0 (by rw [show 3 + 1 + 0 = 4 from rfl, T0.1]; omega)) (by rw [show 3 + 1 + 1 = 5 from rfl, T0.2.1]; omega)) (by rw [show 3 + 1 + 2 = 6 from rfl, T0.2.2]; omega))
  · have hn : n = 6 := by omega
    subst hn
    exact no (by omega) (by omega) (ckL_o (ckL_o (ckL_o (ckL_o (ckL_o (ckL_o z0 (by rw [show 13 + 1 + 0 = 14 from rfl, T1.1]; omega)) (by rw [show 13 + 1 + 1 = 15 from rfl, T1.2.1]; omega)) (by rw [show 13 + 1 + 2 = 16 from rfl, T1.2.2.1]; omega)) (by rw [show 13 + 1 + 3 = 17 from rfl, T1.2.2.2.1]; omega)) (by rw [show 13 + 1 + 4 = 18 from rfl, T1.2.2.2.2.1]; omega)) (by rw [show 13 + 1 + 5 = 19 from rfl, T1.2.2.2.2.2]; omega))
  · have hn : n = 6 := by omega
    subst hn
    exact ck_S (ckL_o (ckL_o (ckL_o (ckL_o (ckL_o z0 (by rw [show 25 + 1 + 0 = 26 from rfl, T2.1]; omega)) (by rw [show 25 + 1 + 1 = 27 from rfl, T2.2.1]; omega)) (by rw [show 25 + 1 + 2 = 28 from rfl, T2.2.2.1]; omega)) (by rw [show 25 + 1 + 3 = 29 from rfl, T2.2.2.2.1]; omega)) (by rw [show 25 + 1 + 4 = 30 from rfl, T2.2.2.2.2.1]; omega)) T2.2.2.2.2.2 (by omega) h
  · have hn : n = 6 := by omega
    subst hn
    exact ck_S (ckL_o (ckL_o (ckL_o (ckL_o (ckL_o z0 (by rw [show 38 + 1 + 0 = 39 from rfl, T3.1]; omega)) (by rw [show 38 + 1 + 1 = 40 from rfl, T3.2.1]; omega)) (by rw [show 38 + 1 + 2 = 41 from rfl, T3.2.2.1]; omega)) (by rw [show 38 + 1 + 3 = 42 from rfl, T3.2.2.2.1]; omega)) (by rw [show 38 + 1 + 4 = 43 from rfl, T3.2.2.2.2.1]; omega)) T3.2.2.2.2.2 (by omega) h
  · have hn : n = 5 := by omega
    subst hn
    exact no (by omega) (by omega) (ckL_o (ckL_o (ckL_o (ckL_o (ckL_o z0 (by rw [show 50 + 1 + 0 = 51 from rfl, T4.1]; omega)) (by rw [show 50 + 1 + 1 = 52 from rfl, T4.2.1]; omega)) (by rw [show 50 + 1 + 2 = 53 from rfl, T4.2.2.1]; omega)) (by rw [show 50 + 1 + 3 = 54 from rfl, T4.2.2.2.1]; omega)) (by rw [show 50 + 1 + 4 = 55 from rfl, T4.2.2.2.2]; omega))
  · have hn : n = 5 := by omega
    subst hn
    exact no (by omega) (by omega) (ckL_o (ckL_o (ckL_o (ckL_o (ckL_o z0 (by rw [show 62 + 1 + 0 = 63 from rfl, T5.1]; omega)) (by rw [show 62 + 1 + 1 = 64 from rfl, T5.2.1]; omega)) (by rw [show 62 + 1 + 2 = 65 from rfl, T5.2.2.1]; omega)) (by rw [show 62 + 1 + 3 = 66 from rfl, T5.2.2.2.1]; omega)) (by rw [show 62 + 1 + 4 = 67 from rfl, T5.2.2.2.2]; omega))
/-- the frame of a taken statement -/
def tkF (σ : mx_S) (l c t : Nat) : Nat → Nat → Prop := fun q j => ckF l t q j ∨ (q = c ∨ jFb σ l c q j) ∨ (q = l ∧ j = 2)
theorem c_taken (hf : 5000 ≤ mpN P) (hT : LyT σ t) (hbt : mpb P ≤ t) (hL : LyL (mxA σ) (mxR σ) l) (hlt : t + 8 ≤ l) (hX : TxH bl N K) (hTd : tdC σ t bl N 0 K) (hO : StO bl N 0 (sqA bl N 0 u) k n) (hu : u < 3000) (h10 : mxI σ t 10 = q_n (fmA (gst 0) k)) (h12 : mxI σ t 12 = q_n n) (hP : ∀ j, j < n → PtI σ t bl (by' (gst 0) (k + 1 + j)) (tkT bl N u j) j) (hF : mxI σ t 2 = 0 ∧ mxI σ t 3 = 0) (h3 : mxI σ l 3 = q_n (mkT bl N u)) (hmk : mkT bl N u ≤ 8) (hE : ∀ q, bx σ l q → RB (rd σ q) (E q)) :
    ∃ r τ, f_X7_isTaken P l t (q_n u) σ = some (r, τ) ∧ Fz (tkF σ l (l + 2 + 16 * u) t) σ τ ∧ ((∃ E', (ckL bl N K u k none (mkT bl N u) n).1 = none ∧ r = 1 ∧ u < 40 ∧ CJ τ E' bl l N K u ∧ (∀ q, bx τ l q → RB (rd τ q) (E' q)) ∧ (∀ q, ¬ (l + 2 + 16 * u + 2 ≤ q ∧ q ≤ l + 2 + 16 * u + 6) → E' q = E q) ∧ mxI τ l 2 = q_n (u + 1) ∧ mxI τ l 3 = q_n (mkT bl N (u + 1)) ∧ mkT bl N (u + 1) ≤ 8 ∧ mxI τ t 2 = 0 ∧ mxI τ t 3 = 0) ∨
      (∃ cq : Nat × Nat, (ckL bl N K u k none (mkT bl N u) n).1 = some cq ∧ r = 0 ∧ mxI τ t 2 = q_n cq.1 ∧ mxI τ t 3 = q_n cq.2 ∧ 0 < cq.1 ∧ cq.1 < 10 ∧ Fz (ckF l t) σ τ)) := by
  have hz1 : ∀ σ, mr_Z 1 σ = some (1, σ) := fun σ => if_pos (Or.inr rfl)
  have hz0 : ∀ σ, mr_Z 0 σ = some (0, σ) := fun σ => if_pos (Or.inl rfl)
  obtain ⟨τ1, e1, a1, a2, f1⟩ := c_ckl (P := P) (fs := none) (y := q_n (mkT bl N u)) hf hT hbt hL hlt hX hTd hO hu h12 hP hF h3 hmk
  have hT1 := f1.T hT
  have hL1 : LyL (mxA τ1) (mxR τ1) l := by rw [f1.1, f1.2.1]; exact hL
  unfold f_X7_isTaken f_X7_isTaken_D44
  rw [bd (al_gI hL), h3, bd e1]
  dsimp only
  rw [bd (at_gI hT1)]
  cases hck : (ckL bl N K u k none (mkT bl N u) n).1 with
  | some cq =>
    rw [hck] at a1
    obtain ⟨c', q'⟩ := cq
    obtain ⟨b1, b2, b3, b4⟩ := a1
    rw [b3, if_neg (fun z => by rw [show (0 : Int32) = q_n 0 from rfl, q_nI (by omega) (by omega)] at z; omega), hz0]
    exact ⟨0, τ1, rfl, f1.mo fun q j z => Or.inl z, Or.inr ⟨(c', q'), rfl, rfl, b3, b4, b1, b2, f1⟩⟩
  | none =>
    rw [hck] at a1
    have hf0 : mxI τ1 t 2 = 0 ∧ mxI τ1 t 3 = 0 := a1
    obtain ⟨k1, k2, -, -⟩ := ck_ok hO hck
    obtain ⟨m1, m2⟩ := ck_mk hO hck
    obtain ⟨c, hc⟩ : ∃ c, c = l + 2 + 16 * u := ⟨_, rfl⟩
    have tf : ∀ b j', b = 0 ∧ 4 ≤ j' ∨ 1 ≤ b ∧ b ≤ 7 → mxI τ1 (t + b) j' = mxI σ (t + b) j' ∧ mxL τ1 (t + b) j' = mxL σ (t + b) j' := fun b j' hb => f1.2.2.2 _ _ (fun z => by unfold ckF at z; omega)
    have hTd1 : tdC τ1 t bl N 0 K := ⟨(tf 0 19 (by omega)).1.trans hTd.1, fun q a b => by rw [(tf 7 q (by omega)).2]; exact hTd.2 q a b⟩
    have hE1 : ∀ q, bx τ1 l q → RB (rd τ1 q) (E q) := fun q hq => by
      have hq' : bx σ l q := (bx_A f1.1).mp hq
      have hne : ¬ (q = l) := fun z => nb_o hL (z ▸ hq')
      have := hE q hq'
      have e : ∀ j', mxI τ1 q j' = mxI σ q j' ∧ mxL τ1 q j' = mxL σ q j' := fun j' => f1.2.2.2 _ _ (fun z => by unfold ckF at z; have := hq'.1; omega)
      unfold rd at this ⊢
      rw [(e 0).2, (e 1).2, (e 2).1]; exact this
    obtain ⟨τ2, E', e2, cj, hb2, hE2, f2⟩ := c_bec (P := P) (c := c) hf hT1 hL1 k2 hlt (by omega) hX hTd1 hO k1 m1 ((tf 0 10 (by omega)).1.trans h10) ((tf 0 12 (by omega)).1.trans h12) (fun j hj => PtI_c (hP j hj) hlt f1) hE1 hc
    have hL2 : LyL (mxA τ2) (mxR τ2) l := by rw [f2.1, f2.2.1]; exact hL1
    have hJ1 : mxA τ1 c = some (.inl 5) := by rw [hc]; exact LyJ_o (LyL_j hL1 u k2).2
    rw [hf0.1, if_pos rfl, if_pos (by rw [show (40 : Int32) = q_n 40 from rfl, q_nLt (by omega) (by omega)]; exact k2), bd (al_r0 hL1), bd (al_j hL1 k2), ← hc, bd (q_is hJ1), bd e2, q_nS, bd (al_pI hL2 (by omega) _), hz1]
    have fl : ∀ j', mxI τ2 l j' = mxI τ1 l j' := fun j' => (f2.2.2.2 _ _ (fun z => by
      rcases z with z | z | z
      · omega
      · unfold jF at z; omega
      · exact nb_o hL1 z)).1
    have ft : ∀ j', mxI τ2 t j' = mxI τ1 t j' := fun j' => (f2.2.2.2 _ _ (fun z => by
      rcases z with z | z | z
      · omega
      · unfold jF at z; omega
      · have := z.1; omega)).1
    refine ⟨1, _, rfl, ?_, Or.inl ⟨E', rfl, rfl, k2, ?_, ?_, ?_, sI_e, ?_, ?_, ?_, ?_⟩⟩
    · refine ((f1.mo fun q j z => Or.inl z).tr (f2.mo fun q j z => Or.inr (Or.inl ?_))).sI (Or.inr (Or.inr ⟨rfl, rfl⟩)) _
      rcases z with z | z | z
      · exact Or.inl z
      · exact Or.inr (Or.inl z)
      · exact Or.inr (Or.inr ((bx_A f1.1).mp z))
    · unfold CJ at cj ⊢
      have ne : ∀ j', mxI (mx_setI τ2 l 2 (q_n (u + 1))) (l + 2 + 16 * u) j' = mxI τ2 (l + 2 + 16 * u) j' := fun j' => sI_n (by omega)
      have ne1 : ∀ j', mxI (mx_setI τ2 l 2 (q_n (u + 1))) (l + 2 + 16 * u + 1) j' = mxI τ2 (l + 2 + 16 * u + 1) j' := fun j' => sI_n (by omega)
      simp only [ne, ne1]
      exact cj
    · intro q hq
      have hq' : bx τ2 l q := hq
      have hne : q ≠ l := fun z => nb_o hL2 (z ▸ hq')
      have := hb2 q hq'
      have e : rd (mx_setI τ2 l 2 (q_n (u + 1))) q = rd τ2 q := by unfold rd; rw [sI_n (fun z => hne z.1)]; rfl
      rw [e]; exact this
    · intro q hq; exact hE2 q hq
    · rw [sI_n (by omega), fl, a2, m2]; rfl
    · rw [mkT]; split
      · next z => have := m1 z; omega
      · exact hmk
    · rw [sI_n (by omega), ft]; exact hf0.1
    · rw [sI_n (by omega), ft]; exact hf0.2
end IDS
