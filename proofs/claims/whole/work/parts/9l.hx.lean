/-! ===== hx: a joint, form by form ===== -/
section HXS
variable {P : mx_P} {σ σ0 σ1 σ2 τ : mx_S} {x m n t l p a N i k j u K c np fm : Nat} {bl : List Nat} {on : Nat → Nat} {E : Nat → BV} {inp pow msk mi bt mark fst : Int32} {lt tk : Nat → Nat}
def jFb (σ : mx_S) (l c : Nat) : Nat → Nat → Prop := fun q j => jF c q j ∨ bx σ l q
/-- what stands while a joint becomes -/
def BC (σ : mx_S) (t : Nat) (bl : List Nat) (l c N K n fm : Nat) (lt tk : Nat → Nat) : Prop := LyT σ t ∧ (LyL (mxA σ) (mxR σ) l ∧ ∃ u, u < 40 ∧ c = l + 2 + 16 * u) ∧ t + 8 ≤ l ∧ tdC σ t bl N 0 K ∧ mxI σ t 12 = q_n n ∧ mxI σ c 1 = q_n fm ∧ ∀ j, j < n → PtI σ t bl (lt j) (tk j) j
theorem BC_J (h : BC σ t bl l c N K n fm lt tk) : LyJ (mxA σ) (mxR σ) c ∧ px σ l (c + 4) ∧ l ≤ c := by
  obtain ⟨-, ⟨hL, u, hu, rfl⟩, -⟩ := h
  obtain ⟨h1, -, -, h4, -⟩ := jx_of hL hu
  exact ⟨h1, h4, by omega⟩
theorem BC_f (h : BC σ t bl l c N K n fm lt tk) (f : Fz (jFb σ l c) σ τ) : BC τ t bl l c N K n fm lt tk := by
  have hJ := BC_J h
  obtain ⟨h1, ⟨hL, u, hu, hc⟩, h3, h4, h5, h6, h7⟩ := h
  have hcl : l ≤ c := hJ.2.2
  have e : ∀ b j', b ≤ 7 → mxI τ (t + b) j' = mxI σ (t + b) j' ∧ mxL τ (t + b) j' = mxL σ (t + b) j' := fun b j' hb => f.2.2.2 _ _ (fun z => by
    rcases z with z | z
    · unfold jF at z; omega
    · have := z.1; omega)
  have ec : mxI τ c 1 = mxI σ c 1 := (f.2.2.2 _ _ (fun z => by
    rcases z with z | z
    · unfold jF at z; omega
    · exact (bJ_5 hJ.1).1 z.2.2)).1
  refine ⟨f.T h1, ⟨by rw [f.1, f.2.1]; exact hL, u, hu, hc⟩, h3, ⟨(e 0 19 (by omega)).1.trans h4.1, fun j a b => by rw [(e 7 j (by omega)).2]; exact h4.2 j a b⟩, (e 0 12 (by omega)).1.trans h5, ec.trans h6, fun j hj => ?_⟩
  obtain ⟨q1, q2, q3, q4, q5⟩ := h7 j hj
  refine ⟨?_, ?_, fun z => ?_, fun z => ⟨?_, ?_⟩, fun z => ?_⟩
  · rw [(e 2 j (by omega)).1]; exact q1
  · rw [(e 3 j (by omega)).1]; exact q2
  · rw [(e 4 j (by omega)).2]; exact q3 z
  · rw [(e 5 j (by omega)).1]; exact (q4 z).1
  · rw [(e 6 j (by omega)).1]; exact (q4 z).2
  · rw [(e 5 j (by omega)).1]; exact q5 z
theorem bx_Af (f : Fz (jFb σ l c) σ τ) {q : Nat} : bx τ l q ↔ bx σ l q := bx_A f.1
/-- the end of the loop, and the crank's second number -/
theorem b_end {fst : Int32} {r : Nat} (hB : BC σ t bl l c N K n fm lt tk) (hn : n ≤ 6) (hf : 0 < r) : mx_lp (f_X5_become_L63 P c t mark) r (fst, q_n n, σ) = some σ := by
  refine lp_out ?_ hf
  show f_X5_become_B63 P c t mark fst (q_n n) σ = _
  unfold f_X5_become_B63
  rw [bd (at_gI hB.1), hB.2.2.2.2.1, if_pos (by rw [q_nLe (by omega) (by omega)]; exact Nat.le_refl _)]
/-- before the loop -/
theorem b_begin (hf : 5000 ≤ mpN P) (hT : LyT σ t) (hL : LyL (mxA σ) (mxR σ) l) (hu : u < 40) (hc : c = l + 2 + 16 * u) (hlt : t + 8 ≤ l) (hb : mpb P ≤ l) (hTd : tdC σ t bl N 0 K) (h12 : mxI σ t 12 = q_n n) (hn0 : 0 < n) (h10 : mxI σ t 10 = q_n fm) (hP : ∀ j, j < n → PtI σ t bl (lt j) (tk j) j) (hk0 : kdA bl (tk 0) = 2) (hE : ∀ q, bx σ l q → RB (rd σ q) (E q)) :
    ∃ τ, f_X5_become P c t mark σ = (mx_lp (f_X5_become_L63 P c t mark) (mpN P) ((1 : Int32), (1 : Int32), τ)).bind (fun t' => (fun σ65 => (mg_I σ65 c 5 1).bind fun x66 => (if x66 = (1 : Int32) then (mg_R σ65 c 5 10).bind fun b69 => (mg_I σ65 c 5 5).bind fun x71 => (mg_R σ65 t 10 16).bind fun b73 => (ma_I σ65 b73 0 (2 : Int32)).bind fun x75 => (mg_R σ65 t 10 17).bind fun b77 => (ma_I σ65 b77 0 (2 : Int32)).bind fun x79 => (mx_is σ65 b69 0).bind fun i81 => (f_X0_fraction P b69 ((x71.toInt64) * (x75.toInt64)) (x79.toInt64) σ65).bind fun σ83 => f_X5_become_D185 P  σ83 else f_X5_become_D185 P  σ65)) t') ∧
      BC τ t bl l c N K n fm lt tk ∧ JS τ l c 0 on (mxI σ c 4) (mxI σ c 5) 0 0 (-1) E ∧ mxL τ c 0 = l_n (pk (nmA bl (tk 0))) ∧ mxI τ c 16 = 0 ∧ mxI τ c 17 = 0 ∧ mxI τ c 18 = 0 ∧ mxI τ c 19 = 0 ∧ Fz (fun q j => q = c) σ τ := by
  have hJ : LyJ (mxA σ) (mxR σ) c := by rw [hc]; exact (LyL_j hL u hu).2
  have hbc : mpb P ≤ c := by omega
  obtain ⟨n5, n1⟩ := bJ_5 hJ
  have q0 := (hP 0 hn0).2.2.1 hk0
  obtain ⟨s0, e0⟩ : ∃ s0, s0 = mx_setL σ c 0 (mxL σ (t + 4) 0) := ⟨_, rfl⟩
  have f0 : Fz (fun q j => q = c) σ s0 := by rw [e0]; exact Fz.sL (S := fun q _ => q = c) Fz.rf rfl _
  have A0 : mxA s0 c = some (.inl 5) := by rw [f0.1]; exact LyJ_o hJ
  obtain ⟨s1, e1⟩ : ∃ s1, s1 = mx_setI s0 c 1 (q_n fm) := ⟨_, rfl⟩
  have f1 : Fz (fun q j => q = c) σ s1 := by rw [e1]; exact Fz.sI (S := fun q _ => q = c) f0 rfl _
  have A1 : mxA s1 c = some (.inl 5) := by rw [f1.1]; exact LyJ_o hJ
  obtain ⟨s2, e2⟩ : ∃ s2, s2 = mx_setI s1 c 3 (0) := ⟨_, rfl⟩
  have f2 : Fz (fun q j => q = c) σ s2 := by rw [e2]; exact Fz.sI (S := fun q _ => q = c) f1 rfl _
  have A2 : mxA s2 c = some (.inl 5) := by rw [f2.1]; exact LyJ_o hJ
  obtain ⟨s3, e3⟩ : ∃ s3, s3 = mx_setI s2 c 8 (0) := ⟨_, rfl⟩
  have f3 : Fz (fun q j => q = c) σ s3 := by rw [e3]; exact Fz.sI (S := fun q _ => q = c) f2 rfl _
  have A3 : mxA s3 c = some (.inl 5) := by rw [f3.1]; exact LyJ_o hJ
  obtain ⟨s4, e4⟩ : ∃ s4, s4 = mx_setI s3 c 7 (-1) := ⟨_, rfl⟩
  have f4 : Fz (fun q j => q = c) σ s4 := by rw [e4]; exact Fz.sI (S := fun q _ => q = c) f3 rfl _
  have A4 : mxA s4 c = some (.inl 5) := by rw [f4.1]; exact LyJ_o hJ
  obtain ⟨s5, e5⟩ : ∃ s5, s5 = mx_setI s4 c 6 (0) := ⟨_, rfl⟩
  have f5 : Fz (fun q j => q = c) σ s5 := by rw [e5]; exact Fz.sI (S := fun q _ => q = c) f4 rfl _
  have A5 : mxA s5 c = some (.inl 5) := by rw [f5.1]; exact LyJ_o hJ
  obtain ⟨s6, e6⟩ : ∃ s6, s6 = mx_setI s5 c 16 (0) := ⟨_, rfl⟩
  have f6 : Fz (fun q j => q = c) σ s6 := by rw [e6]; exact Fz.sI (S := fun q _ => q = c) f5 rfl _
  have A6 : mxA s6 c = some (.inl 5) := by rw [f6.1]; exact LyJ_o hJ
  obtain ⟨s7, e7⟩ : ∃ s7, s7 = mx_setI s6 c 17 (0) := ⟨_, rfl⟩
  have f7 : Fz (fun q j => q = c) σ s7 := by rw [e7]; exact Fz.sI (S := fun q _ => q = c) f6 rfl _
  have A7 : mxA s7 c = some (.inl 5) := by rw [f7.1]; exact LyJ_o hJ
  obtain ⟨s8, e8⟩ : ∃ s8, s8 = mx_setI s7 c 18 (0) := ⟨_, rfl⟩
  have f8 : Fz (fun q j => q = c) σ s8 := by rw [e8]; exact Fz.sI (S := fun q _ => q = c) f7 rfl _
  have A8 : mxA s8 c = some (.inl 5) := by rw [f8.1]; exact LyJ_o hJ
  obtain ⟨τ, e9⟩ : ∃ τ, τ = mx_setI s8 c 19 (0) := ⟨_, rfl⟩
  have f9 : Fz (fun q j => q = c) σ τ := by rw [e9]; exact Fz.sI (S := fun q _ => q = c) f8 rfl _
  have f := f9
  have g : ∀ j, j ≠ 1 → j ≠ 3 → j ≠ 8 → j ≠ 7 → j ≠ 6 → j ≠ 16 → j ≠ 17 → j ≠ 18 → j ≠ 19 → mxI τ c j = mxI σ c j := fun j a1 a3 a8 a7 a6 a16 a17 a18 a19 => by
    rw [e9, sI_n (by omega), e8, sI_n (by omega), e7, sI_n (by omega), e6, sI_n (by omega), e5, sI_n (by omega), e4, sI_n (by omega), e3, sI_n (by omega), e2, sI_n (by omega), e1, sI_n (by omega), e0]; rfl
  have hT' := f.T hT
  have et : ∀ b j', b ≤ 7 → mxI τ (t + b) j' = mxI σ (t + b) j' ∧ mxL τ (t + b) j' = mxL σ (t + b) j' := fun b j' hb => f.2.2.2 _ _ (fun z => by omega)
  refine ⟨τ, ?_, ⟨hT', ⟨by rw [f.1, f.2.1]; exact hL, u, hu, hc⟩, hlt, ⟨(et 0 19 (by omega)).1.trans hTd.1, fun j a b => by rw [(et 7 j (by omega)).2]; exact hTd.2 j a b⟩, (et 0 12 (by omega)).1.trans h12, ?_, fun j hj => ?_⟩, ⟨?_, fun j hj => absurd hj (Nat.not_lt_zero j), g 4 (by omega) (by omega) (by omega) (by omega) (by omega) (by omega) (by omega) (by omega) (by omega), g 5 (by omega) (by omega) (by omega) (by omega) (by omega) (by omega) (by omega) (by omega) (by omega), ?_, ?_, ?_, fun q hq => ?_⟩, ?_, ?_, ?_, ?_, ?_, f⟩
  · unfold f_X5_become
    have T1 : LyT s0 t := f0.T hT
    have h10' : mxI s0 t 10 = q_n fm := by rw [(f0.2.2.2 t 10 (by omega)).1]; exact h10
    rw [bd (at_r15 hT), show (0 : Int32) = q_n 0 from rfl, bd (at_g15 hT (by omega)), bd (q_pL (LyJ_o hJ) hbc _), ← e0, bd (at_gI T1), h10', bd (q_pI A0 hbc _), ← e1, show q_n 0 = (0 : Int32) from rfl, bd (q_pI A1 hbc _), ← e2, bd (q_pI A2 hbc _), ← e3, bd (q_pI A3 hbc _), ← e4, bd (q_pZ A4 hbc (Or.inl rfl)), ← e5, bd (q_pZ A5 hbc (Or.inl rfl)), ← e6, bd (q_pI A6 hbc _), ← e7, bd (q_pI A7 hbc _), ← e8, bd (q_pI A8 hbc _), ← e9]
  · rw [e9, sI_n (by omega), e8, sI_n (by omega), e7, sI_n (by omega), e6, sI_n (by omega), e5, sI_n (by omega), e4, sI_n (by omega), e3, sI_n (by omega), e2, sI_n (by omega), e1]; exact sI_e
  · obtain ⟨q1, q2, q3, q4, q5⟩ := hP j hj
    refine ⟨?_, ?_, fun z => ?_, fun z => ⟨?_, ?_⟩, fun z => ?_⟩
    · rw [(et 2 j (by omega)).1]; exact q1
    · rw [(et 3 j (by omega)).1]; exact q2
    · rw [(et 4 j (by omega)).2]; exact q3 z
    · rw [(et 5 j (by omega)).1]; exact (q4 z).1
    · rw [(et 6 j (by omega)).1]; exact (q4 z).2
    · rw [(et 5 j (by omega)).1]; exact q5 z
  · rw [e9, sI_n (by omega), e8, sI_n (by omega), e7, sI_n (by omega), e6, sI_n (by omega), e5, sI_n (by omega), e4, sI_n (by omega), e3, sI_n (by omega), e2]; exact sI_e
  · rw [e9, sI_n (by omega), e8, sI_n (by omega), e7, sI_n (by omega), e6, sI_n (by omega), e5, sI_n (by omega), e4, sI_n (by omega), e3]; exact sI_e
  · rw [e9, sI_n (by omega), e8, sI_n (by omega), e7, sI_n (by omega), e6, sI_n (by omega), e5]; exact sI_e
  · rw [e9, sI_n (by omega), e8, sI_n (by omega), e7, sI_n (by omega), e6, sI_n (by omega), e5, sI_n (by omega), e4]; exact sI_e
  · have hq' : bx σ l q := (bx_A f.1).mp hq
    have hne : q ≠ c := fun z => n5 (by rw [← z]; exact hq'.2.2)
    have := hE q hq'
    unfold rd at this ⊢
    rw [(f.2.2.2 q 0 hne).2, (f.2.2.2 q 1 hne).2, (f.2.2.2 q 2 hne).1]; exact this
  · have l9 : mxL τ c 0 = mxL s0 c 0 := by rw [e9, e8, e7, e6, e5, e4, e3, e2, e1]; rfl
    rw [l9, e0, sL_e]; exact q0
  · rw [e9, sI_n (by omega), e8, sI_n (by omega), e7, sI_n (by omega), e6]; exact sI_e
  · rw [e9, sI_n (by omega), e8, sI_n (by omega), e7]; exact sI_e
  · rw [e9, sI_n (by omega), e8]; exact sI_e
  · rw [e9]; exact sI_e
end HXS
