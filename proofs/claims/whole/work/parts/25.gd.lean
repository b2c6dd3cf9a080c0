/-! ===== gears: shaft, clear, interference ===== -/
section GD
variable {P : mx_P} {σ σ' : mx_S} {x : Nat} {ns : List Nat} {gs : List (Nat × Nat)} {ms : List (Nat × Nat × Bool × Int32)} {sh : Nat → Nat × Int32 × Int32}
theorem k_fill {a n : Nat} (h : mxA σ a = some (.inr (0, n))) (hn : n ≤ 65536) (hb : mpb P ≤ a) (hN : n < mpN P) (v : Int32) : ∃ σ', f_J7_fill_53178 P a v σ = some σ' ∧ (∀ j, j < n → mxI σ' a j = v) ∧ qf (fun q j => q = a ∧ j < n) q_no σ σ' := by
  have e : ma_n σ a 0 = some (q_n n) := by unfold ma_n; rw [h]; rfl
  unfold f_J7_fill_53178
  rw [e, Option.bind_some]
  obtain ⟨r, hr, hp⟩ := q_for (f_J7_fill_53178_L5 P a v (q_n n)) (fun k t => t.1 = q_n k ∧ (∀ j, j < k → mxI t.2 a j = v) ∧ qf (fun q j => q = a ∧ j < n) q_no σ t.2)
    (fun r => (∀ j, j < n → mxI r a j = v) ∧ qf (fun q j => q = a ∧ j < n) q_no σ r) n
    (by
      rintro k ⟨i, τ⟩ hk ⟨i1, i2, i3⟩
      dsimp only at i1 i2 i3
      subst i1
      refine Or.inl ⟨(q_n (k + 1), mx_setI τ a k v), ?_, rfl, fun j hj => ?_, qf_sI ⟨rfl, hk⟩ v i3⟩
      · show f_J7_fill_53178_B5 P a v (q_n n) (q_n k) τ = _
        unfold f_J7_fill_53178_B5
        rw [if_neg (qn_ge hk (by omega)), q_sIn (i3.1 ▸ h) hn hk hb, Option.bind_some, Option.bind_some, q_nS]
      · by_cases e : j = k
        · subst e; exact q_Ie
        · rw [q_In (by omega)]; exact i2 j (by omega))
    (by
      rintro ⟨i, τ⟩ ⟨i1, i2, i3⟩
      dsimp only at i1 i2 i3
      subst i1
      refine ⟨τ, ?_, i2, i3⟩
      show f_J7_fill_53178_B5 P a v (q_n n) (q_n n) τ = _
      unfold f_J7_fill_53178_B5
      rw [if_pos ((q_nLe (by omega) (by omega)).mpr (Nat.le_refl _))])
    n 0 (0, σ) (mpN P) (by omega) ⟨rfl, fun j hj => absurd hj (Nat.not_lt_zero j), qf_rf⟩ hN
  rw [hr]
  exact ⟨r, rfl, hp⟩
theorem k_fillL {a n : Nat} (h : mxA σ a = some (.inr (1, n))) (hn : n ≤ 65536) (hb : mpb P ≤ a) (hN : n < mpN P) (v : Int64) : ∃ σ', f_J7_fill_d0a16 P a v σ = some σ' ∧ (∀ j, j < n → mxL σ' a j = v) ∧ qf q_no (fun q j => q = a ∧ j < n) σ σ' := by
  have e : ma_n σ a 1 = some (q_n n) := by unfold ma_n; rw [h]; rfl
  unfold f_J7_fill_d0a16
  rw [e, Option.bind_some]
  obtain ⟨r, hr, hp⟩ := q_for (f_J7_fill_d0a16_L6 P a v (q_n n)) (fun k t => t.1 = q_n k ∧ (∀ j, j < k → mxL t.2 a j = v) ∧ qf q_no (fun q j => q = a ∧ j < n) σ t.2)
    (fun r => (∀ j, j < n → mxL r a j = v) ∧ qf q_no (fun q j => q = a ∧ j < n) σ r) n
    (by
      rintro k ⟨i, τ⟩ hk ⟨i1, i2, i3⟩
      dsimp only at i1 i2 i3
      subst i1
      refine Or.inl ⟨(q_n (k + 1), mx_setL τ a k v), ?_, rfl, fun j hj => ?_, qf_sL ⟨rfl, hk⟩ v i3⟩
      · show f_J7_fill_d0a16_B6 P a v (q_n n) (q_n k) τ = _
        unfold f_J7_fill_d0a16_B6
        rw [if_neg (qn_ge hk (by omega)), q_sLn (i3.1 ▸ h) hn hk hb, Option.bind_some, Option.bind_some, q_nS]
      · by_cases e : j = k
        · subst e; exact q_Le
        · rw [q_Ln (by omega)]; exact i2 j (by omega))
    (by
      rintro ⟨i, τ⟩ ⟨i1, i2, i3⟩
      dsimp only at i1 i2 i3
      subst i1
      refine ⟨τ, ?_, i2, i3⟩
      show f_J7_fill_d0a16_B6 P a v (q_n n) (q_n n) τ = _
      unfold f_J7_fill_d0a16_B6
      rw [if_pos ((q_nLe (by omega) (by omega)).mpr (Nat.le_refl _))])
    n 0 (0, σ) (mpN P) (by omega) ⟨rfl, fun j hj => absurd hj (Nat.not_lt_zero j), qf_rf⟩ hN
  rw [hr]
  exact ⟨r, rfl, hp⟩
theorem Fr.qf {SI SL : Nat → Nat → Prop} {σ1 : mx_S} (h : Fr x ns σ σ1) (hq : qf SI SL σ1 σ') (hI : ∀ i q j, cp x i q j → i ∉ ns → ¬ SI q j) (hL : ∀ i q j, cp x i q j → i ∉ ns → ¬ SL q j) : Fr x ns σ σ' := by
  obtain ⟨a1, a2, a3, a4⟩ := h
  obtain ⟨b1, b2, b3, b4, b5, b6⟩ := hq
  exact ⟨b1.trans a1, b2.trans a2, fun i q j hc hi => ⟨(b5 q j (hI i q j hc hi)).trans (a3 i q j hc hi).1, (b6 q j (hL i q j hc hi)).trans (a3 i q j hc hi).2⟩, by rw [b3, b4]; exact a4⟩
/-- the reference's clear -/
theorem r_clear {m : Nat} (h : LyO (mxA σ) (mxR σ) 12 al12 m) (hb : mpb P ≤ m) (hN : 100 < mpN P) : ∃ σ', f_X12_clear P m σ = some σ' ∧ (∀ j, j < 12 → mxI σ' (m + 42) j = 0) ∧ qf (fun q j => q = m + 42 ∧ j < 12) q_no (mx_setI (mx_setI (mx_setI σ m 0 0) m 57 0) m 60 0) σ' := by
  unfold f_X12_clear
  simp (disch := first | assumption | omega | (simp only [q_AI, q_AL, q_RI, q_RL, tA, tR, tI, tL]; assumption)) only [Option.bind_some, q_b2, q_bxr, q_bxl, q_bx2r, q_bx2l, q_Ie, q_Le, q_In, q_Ln, q_IL, q_LI, tI, tL, q_nS, q_s2, q_s3, q_s4, q_m2, q_m3, q_m4, q_m24, q_p1, am_pI]
  generalize hs : mx_setI (mx_setI (mx_setI σ m 0 0) m 57 0) m 60 0 = σ1
  have h1 : LyO (mxA σ1) (mxR σ1) 12 al12 m := by subst hs; exact h
  obtain ⟨r, hr, hp⟩ := q_for (f_X12_clear_L17 P m) (fun k t => t.1 = q_n k ∧ (∀ j, j < k → mxI t.2 (m + 42) j = 0) ∧ qf (fun q j => q = m + 42 ∧ j < 12) q_no σ1 t.2)
    (fun r => (∀ j, j < 12 → mxI r (m + 42) j = 0) ∧ qf (fun q j => q = m + 42 ∧ j < 12) q_no σ1 r) 12
    (by
      rintro k ⟨i, τ⟩ hk ⟨i1, i2, i3⟩
      dsimp only at i1 i2 i3
      subst i1
      have h2 : LyO (mxA τ) (mxR τ) 12 al12 m := by rw [i3.1, i3.2.1]; exact h1
      have h3 : ¬ (12 : Int32) ≤ q_n k := qn_ge (n := 12) hk (by omega)
      refine Or.inl ⟨(q_n (k + 1), mx_setI τ (m + 42) k 0), ?_, rfl, fun j hj => ?_, qf_sI ⟨rfl, hk⟩ _ i3⟩
      · show f_X12_clear_B17 P m (q_n k) τ = _
        unfold f_X12_clear_B17
        simp (disch := first | assumption | omega | (simp only [q_AI, q_AL, q_RI, q_RL, tA, tR, tI, tL]; assumption)) only [Option.bind_some, q_b2, q_bxr, q_bxl, q_bx2r, q_bx2l, q_Ie, q_Le, q_In, q_Ln, q_IL, q_LI, tI, tL, q_nS, q_s2, q_s3, q_s4, q_m2, q_m3, q_m4, q_m24, q_p1, h3, if_false, am_r65, am_s65]
      · by_cases e : j = k
        · subst e; exact q_Ie
        · rw [q_In (by omega)]; exact i2 j (by omega))
    (by
      rintro ⟨i, τ⟩ ⟨i1, i2, i3⟩
      dsimp only at i1 i2 i3
      subst i1
      exact ⟨τ, rfl, i2, i3⟩)
    12 0 (0, σ1) (mpN P) (by omega) ⟨rfl, fun j hj => absurd hj (Nat.not_lt_zero j), qf_rf⟩ (by omega)
  rw [hr]
  exact ⟨r, rfl, hp⟩
theorem g_clear (hS : St P σ x) : ∃ τ1 τ2, f_X11_clear P x σ = some τ1 ∧ f_X12_clear P (x + 1497) τ1 = some τ2 ∧ mxA τ1 = mxA σ ∧ Fr x [1] σ τ2 ∧ RG0 τ2 x [] [] (fun _ => (0, 0, 0)) ∧ mxI τ2 (x + 9) 14 = 0 := by
  obtain ⟨hL, hb, hN, hr⟩ := hS
  have hg := LyH_g hL
  have hm := LyH_m hL
  have hbg : mpb P ≤ x + 9 := by omega
  obtain ⟨τ1, s1, s2, s3⟩ := k_fill (P := P) (σ := mx_setI (mx_setI (mx_setI σ (x + 9) 0 0) (x + 9) 1 0) (x + 9) 14 0) (a := x + 9 + 4) (n := 12) (LyG_a6 hg) (by omega) (by omega) (by omega) 0
  have hm1 : LyO (mxA τ1) (mxR τ1) 12 al12 (x + 1497) := by rw [s3.1, s3.2.1]; exact hm
  obtain ⟨τ2, t1, t2, t3⟩ := r_clear (P := P) hm1 (by omega) (by omega)
  have e1 : ∀ q j, ¬ (q = x + 1497 + 42 ∧ j < 12) → ¬ (q = x + 9 + 4 ∧ j < 12) → mxI τ2 q j = mxI (mx_setI (mx_setI (mx_setI (mx_setI (mx_setI (mx_setI σ (x + 9) 0 0) (x + 9) 1 0) (x + 9) 14 0) (x + 1497) 0 0) (x + 1497) 57 0) (x + 1497) 60 0) q j := by
    intro q j h1 h2
    rw [t3.2.2.2.2.1 q j h1]
    simp only [q_II, s3.2.2.2.2.1 q j h2]
  refine ⟨τ1, τ2, ?_, t1, s3.1, ?_, ?_, ?_⟩
  · unfold f_X11_clear f_X4_forget
    simp (disch := first | assumption | omega | (simp only [q_AI, q_AL, q_RI, q_RL, tA, tR, tI, tL]; assumption)) only [Option.bind_some, q_b2, q_bxr, q_bxl, q_bx2r, q_bx2l, q_Ie, q_Le, q_In, q_Ln, q_IL, q_LI, tI, tL, q_nS, q_s2, q_s3, q_s4, q_m2, q_m3, q_m4, q_m24, q_p1, ah_r1, ag_is, ag_pI, ag_r6, s1]
  · refine Fr.qf (Fr.sI (Fr.sI (Fr.sI (Fr.qf (Fr.sI (Fr.sI (Fr.sI Fr.rf ?_ _) ?_ _) ?_ _) s3 ?_ ?_) ?_ _) ?_ _) ?_ _) t3 ?_ ?_
    · exact Or.inl ⟨1, by simp, (by first | (simp only [cp]; omega) | simp [cp])⟩
    · exact Or.inl ⟨1, by simp, (by first | (simp only [cp]; omega) | simp [cp])⟩
    · exact Or.inl ⟨1, by simp, (by first | (simp only [cp]; omega) | simp [cp])⟩
    · rintro i q j hc hi ⟨rfl, -⟩
      exact hi (by rw [cp_dj hc (show cp x 1 (x + 9 + 4) j from (by first | (simp only [cp]; omega) | simp [cp]))]; simp)
    · exact fun _ _ _ _ _ => id
    · exact Or.inr cp_t
    · exact Or.inl ⟨1, by simp, (by first | (simp only [cp]; omega) | simp [cp])⟩
    · exact Or.inl ⟨1, by simp, (by first | (simp only [cp]; omega) | simp [cp])⟩
    · rintro i q j hc hi ⟨rfl, -⟩
      exact hi (by rw [cp_dj hc (show cp x 1 (x + 1497 + 42) j from (by first | (simp only [cp]; omega) | simp [cp]))]; simp)
    · exact fun _ _ _ _ _ => id
  · refine ⟨⟨?_, ?_, by simp, fun j e he => by cases he⟩, ⟨?_, ?_, by simp, fun j e he => by cases he⟩, fun s hs => ⟨?_, t2 s hs, by simp, fun z => by cases z⟩⟩
    · rw [e1 _ _ (by omega) (by omega)]; simp (disch := first | assumption | omega | (simp only [q_AI, q_AL, q_RI, q_RL, tA, tR, tI, tL]; assumption)) only [Option.bind_some, q_b2, q_bxr, q_bxl, q_bx2r, q_bx2l, q_Ie, q_Le, q_In, q_Ln, q_IL, q_LI, tI, tL, q_nS, q_s2, q_s3, q_s4, q_m2, q_m3, q_m4, q_m24, q_p1]; rfl
    · rw [e1 _ _ (by omega) (by omega)]; simp (disch := first | assumption | omega | (simp only [q_AI, q_AL, q_RI, q_RL, tA, tR, tI, tL]; assumption)) only [Option.bind_some, q_b2, q_bxr, q_bxl, q_bx2r, q_bx2l, q_Ie, q_Le, q_In, q_Ln, q_IL, q_LI, tI, tL, q_nS, q_s2, q_s3, q_s4, q_m2, q_m3, q_m4, q_m24, q_p1]; rfl
    · rw [e1 _ _ (by omega) (by omega)]; simp (disch := first | assumption | omega | (simp only [q_AI, q_AL, q_RI, q_RL, tA, tR, tI, tL]; assumption)) only [Option.bind_some, q_b2, q_bxr, q_bxl, q_bx2r, q_bx2l, q_Ie, q_Le, q_In, q_Ln, q_IL, q_LI, tI, tL, q_nS, q_s2, q_s3, q_s4, q_m2, q_m3, q_m4, q_m24, q_p1]; rfl
    · rw [e1 _ _ (by omega) (by omega)]; simp (disch := first | assumption | omega | (simp only [q_AI, q_AL, q_RI, q_RL, tA, tR, tI, tL]; assumption)) only [Option.bind_some, q_b2, q_bxr, q_bxl, q_bx2r, q_bx2l, q_Ie, q_Le, q_In, q_Ln, q_IL, q_LI, tI, tL, q_nS, q_s2, q_s3, q_s4, q_m2, q_m3, q_m4, q_m24, q_p1]; rfl
    · rw [t3.2.2.2.2.1 _ _ (by omega), q_In (by omega), q_In (by omega), q_In (by omega)]; exact s2 s hs
  · rw [e1 _ _ (by omega) (by omega)]; simp (disch := first | assumption | omega | (simp only [q_AI, q_AL, q_RI, q_RL, tA, tR, tI, tL]; assumption)) only [Option.bind_some, q_b2, q_bxr, q_bxl, q_bx2r, q_bx2l, q_Ie, q_Le, q_In, q_Ln, q_IL, q_LI, tI, tL, q_nS, q_s2, q_s3, q_s4, q_m2, q_m3, q_m4, q_m24, q_p1]
theorem c_setShaft {g k : Nat} (h : LyG (mxA σ) (mxR σ) g) (hb : mpb P ≤ g) (hk : k < 12) (b c d : Int32) : f_X4_setShaft P g (q_n k) b c d σ = some (mx_setI (mx_setI (mx_setI (mx_setI σ (g + 4) k b) (g + 5) k c) (g + 6) k d) g 14 0) := by
  unfold f_X4_setShaft
  simp (disch := first | assumption | omega | (simp only [q_AI, q_AL, q_RI, q_RL, tA, tR, tI, tL]; assumption)) only [Option.bind_some, q_b2, q_bxr, q_bxl, q_bx2r, q_bx2l, q_Ie, q_Le, q_In, q_Ln, q_IL, q_LI, tI, tL, q_nS, q_s2, q_s3, q_s4, q_m2, q_m3, q_m4, q_m24, q_p1, ag_r6, ag_s6, ag_r7, ag_s7, ag_r8, ag_s8, ag_pI]
theorem r_shaft {m k : Nat} (h : LyO (mxA σ) (mxR σ) 12 al12 m) (hb : mpb P ≤ m) (hk : k < 12) (b c d : Int32) : f_X12_shaft_D74 P m (q_n k) b c d 0 m σ = some (mx_setI (mx_setI (mx_setI (mx_setI σ m 0 0) (m + 42) k b) (m + 43) k (if b = 2 then c else 0)) (m + 44) k (if b = 2 then d else 1)) := by
  unfold f_X12_shaft_D74 f_X12_shaft_D107 f_X12_shaft_D124
  by_cases h2 : b = 2 <;> simp (disch := first | assumption | omega | (simp only [q_AI, q_AL, q_RI, q_RL, tA, tR, tI, tL]; assumption)) only [Option.bind_some, q_b2, q_bxr, q_bxl, q_bx2r, q_bx2l, q_Ie, q_Le, q_In, q_Ln, q_IL, q_LI, tI, tL, q_nS, q_s2, q_s3, q_s4, q_m2, q_m3, q_m4, q_m24, q_p1, am_pI, am_gI, z00, if_true, if_false, am_r65, am_s65, am_r66, am_s66, am_r67, am_s67, h2]
theorem g_shaft (hS : St P σ x) (hG : RG0 σ x gs ms sh) (a b c d : Int32) : Q0 x σ (f_L_shaft P x a b c d σ) (fun τ => f_X12_shaft P (x + 1497) a b c d τ) [1] (fun τ => RG0 τ x gs ms sh ∧ mxI τ (x + 9) 14 = mxI σ (x + 9) 14 ∨ ∃ sh', RG0 τ x gs ms sh' ∧ mxI τ (x + 9) 14 = 0) := by
  obtain ⟨hL, hb, hN, hr⟩ := hS
  have hm := LyH_m hL
  have hg := LyH_g hL
  have hbm : mpb P ≤ x + 1497 := by omega
  have hbg : mpb P ≤ x + 9 := by omega
  have hp : RG0 (thr x σ 1) x gs ms sh ∧ mxI (thr x σ 1) (x + 9) 14 = mxI σ (x + 9) 14 ∨ ∃ sh', RG0 (thr x σ 1) x gs ms sh' ∧ mxI (thr x σ 1) (x + 9) 14 = 0 := Or.inl ⟨hG.fr (ns := []) (Fr_throw _) (by simp), by simp (disch := first | assumption | omega | (simp only [q_AI, q_AL, q_RI, q_RL, tA, tR, tI, tL]; assumption)) only [Option.bind_some, q_b2, q_bxr, q_bxl, q_bx2r, q_bx2l, q_Ie, q_Le, q_In, q_Ln, q_IL, q_LI, tI, tL, q_nS, q_s2, q_s3, q_s4, q_m2, q_m3, q_m4, q_m24, q_p1]⟩
  have rt1 : f_X12_shaft_D61 P (x + 1497) a b c d 0 (th σ) = some (thr x σ 1) := by
    unfold f_X12_shaft_D61
    rw [if_pos rfl]
    exact rt_shaft_D74 (w := 1) (σ := th σ) hm hbm (by omega) (by omega) a b c d
  by_cases h1 : 0 ≤ a.toInt ∧ a.toInt ≤ 11
  · by_cases h2 : 0 ≤ b.toInt ∧ b.toInt ≤ 2
    · by_cases h3 : b = 2 → (-1000 ≤ c.toInt ∧ c.toInt ≤ 1000) ∧ (1 ≤ d.toInt ∧ d.toInt ≤ 1000)
      · have eA := q_ofT (i := a) (by omega)
        have eB := q_ofT (i := b) (by omega)
        generalize hna : a.toInt.toNat = na at eA
        generalize hnb : b.toInt.toNat = nb at eB
        have la : na < 12 := by omega
        have hb2 : b = 2 ↔ nb = 2 := by rw [eB]; exact q_nI (l := 2) (by omega) (by omega)
        have hcl : f_X11_shaft P x a b c d σ = some (.inr (mx_setI (mx_setI (mx_setI (mx_setI σ (x + 9 + 4) na b) (x + 9 + 5) na c) (x + 9 + 6) na d) (x + 9) 14 0)) := by
          unfold f_X11_shaft f_X11_shaft_D37
          by_cases hb2 : b = 2
          · obtain ⟨h4, h5⟩ := h3 hb2
            simp (disch := first | assumption | omega | (simp only [q_AI, q_AL, q_RI, q_RL, tA, tR, tI, tL]; assumption)) only [Option.bind_some, q_b2, q_bxr, q_bxl, q_bx2r, q_bx2l, q_Ie, q_Le, q_In, q_Ln, q_IL, q_LI, tI, tL, q_nS, q_s2, q_s3, q_s4, q_m2, q_m3, q_m4, q_m24, q_p1, rg_t (l := 0) (u := 11) h1, rg_t (l := 0) (u := 2) h2, rg_t (l := -1000) (u := 1000) h4, rg_t (l := 1) (u := 1000) h5, eq_true hb2, if_true, ah_r1, ag_is]
            rw [eA]
            simp (disch := first | assumption | omega | (simp only [q_AI, q_AL, q_RI, q_RL, tA, tR, tI, tL]; assumption)) only [Option.bind_some, q_b2, q_bxr, q_bxl, q_bx2r, q_bx2l, q_Ie, q_Le, q_In, q_Ln, q_IL, q_LI, tI, tL, q_nS, q_s2, q_s3, q_s4, q_m2, q_m3, q_m4, q_m24, q_p1, c_setShaft hg hbg la]
          · simp (disch := first | assumption | omega | (simp only [q_AI, q_AL, q_RI, q_RL, tA, tR, tI, tL]; assumption)) only [Option.bind_some, q_b2, q_bxr, q_bxl, q_bx2r, q_bx2l, q_Ie, q_Le, q_In, q_Ln, q_IL, q_LI, tI, tL, q_nS, q_s2, q_s3, q_s4, q_m2, q_m3, q_m4, q_m24, q_p1, rg_t (l := 0) (u := 11) h1, rg_t (l := 0) (u := 2) h2, hb2, if_false, ah_r1, ag_is]
            rw [eA]
            simp (disch := first | assumption | omega | (simp only [q_AI, q_AL, q_RI, q_RL, tA, tR, tI, tL]; assumption)) only [Option.bind_some, q_b2, q_bxr, q_bxl, q_bx2r, q_bx2l, q_Ie, q_Le, q_In, q_Ln, q_IL, q_LI, tI, tL, q_nS, q_s2, q_s3, q_s4, q_m2, q_m3, q_m4, q_m24, q_p1, c_setShaft hg hbg la]
        have hrf : ∀ τ, LyO (mxA τ) (mxR τ) 12 al12 (x + 1497) → f_X12_shaft P (x + 1497) a b c d τ = some (mx_setI (mx_setI (mx_setI (mx_setI τ (x + 1497) 0 0) (x + 1497 + 42) na b) (x + 1497 + 43) na (if b = 2 then c else 0)) (x + 1497 + 44) na (if b = 2 then d else 1)) := by
          intro τ t1
          unfold f_X12_shaft f_X12_shaft_D56 f_X12_shaft_D61
          by_cases hb2 : b = 2
          · obtain ⟨h4, h5⟩ := h3 hb2
            simp (disch := first | assumption | omega | (simp only [q_AI, q_AL, q_RI, q_RL, tA, tR, tI, tL]; assumption)) only [Option.bind_some, q_b2, q_bxr, q_bxl, q_bx2r, q_bx2l, q_Ie, q_Le, q_In, q_Ln, q_IL, q_LI, tI, tL, q_nS, q_s2, q_s3, q_s4, q_m2, q_m3, q_m4, q_m24, q_p1, in_t (l := 0) (u := 11) h1, in_t (l := 0) (u := 2) h2, in_t (l := -1000) (u := 1000) h4, in_t (l := 1) (u := 1000) h5, eq_true hb2, if_true, z10, if_false]
            rw [eA, r_shaft t1 hbm la, if_pos hb2, if_pos hb2]
          · simp (disch := first | assumption | omega | (simp only [q_AI, q_AL, q_RI, q_RL, tA, tR, tI, tL]; assumption)) only [Option.bind_some, q_b2, q_bxr, q_bxl, q_bx2r, q_bx2l, q_Ie, q_Le, q_In, q_Ln, q_IL, q_LI, tI, tL, q_nS, q_s2, q_s3, q_s4, q_m2, q_m3, q_m4, q_m24, q_p1, in_t (l := 0) (u := 11) h1, in_t (l := 0) (u := 2) h2, hb2, if_true, z10, if_false]
            rw [eA, r_shaft t1 hbm la, if_neg hb2, if_neg hb2]
        refine ⟨_, _, _, hr_shaft (LyH_o hL) hcl, hrf _ (by exact hm), ?_, rfl, ?_, Or.inr ⟨fun t => if t = na then (nb, c, d) else sh t, ?_, ?_⟩⟩
        · simp (disch := first | assumption | omega | (simp only [q_AI, q_AL, q_RI, q_RL, tA, tR, tI, tL]; assumption)) only [Option.bind_some, q_b2, q_bxr, q_bxl, q_bx2r, q_bx2l, q_Ie, q_Le, q_In, q_Ln, q_IL, q_LI, tI, tL, q_nS, q_s2, q_s3, q_s4, q_m2, q_m3, q_m4, q_m24, q_p1]
        · refine Fr.sI (Fr.sI (Fr.sI (Fr.sI (Fr.sI (Fr.sI (Fr.sI (Fr.sI Fr.rf ?_ _) ?_ _) ?_ _) ?_ _) ?_ _) ?_ _) ?_ _) ?_ _
          all_goals first | exact Or.inr cp_t | exact Or.inl ⟨1, by simp, (by first | (simp only [cp]; omega) | simp [cp])⟩
        · obtain ⟨⟨a1, a2, a3, a4⟩, ⟨b1, b2, b3, b4⟩, c0⟩ := hG
          refine ⟨⟨?_, ?_, a3, fun j w hj => ?_⟩, ⟨?_, ?_, b3, fun j w hj => ?_⟩, fun s hs => ?_⟩
          · simp (disch := first | assumption | omega | (simp only [q_AI, q_AL, q_RI, q_RL, tA, tR, tI, tL]; assumption)) only [Option.bind_some, q_b2, q_bxr, q_bxl, q_bx2r, q_bx2l, q_Ie, q_Le, q_In, q_Ln, q_IL, q_LI, tI, tL, q_nS, q_s2, q_s3, q_s4, q_m2, q_m3, q_m4, q_m24, q_p1]; exact a1
          · simp (disch := first | assumption | omega | (simp only [q_AI, q_AL, q_RI, q_RL, tA, tR, tI, tL]; assumption)) only [Option.bind_some, q_b2, q_bxr, q_bxl, q_bx2r, q_bx2l, q_Ie, q_Le, q_In, q_Ln, q_IL, q_LI, tI, tL, q_nS, q_s2, q_s3, q_s4, q_m2, q_m3, q_m4, q_m24, q_p1]; exact a2
          · simp (disch := first | assumption | omega | (simp only [q_AI, q_AL, q_RI, q_RL, tA, tR, tI, tL]; assumption)) only [Option.bind_some, q_b2, q_bxr, q_bxl, q_bx2r, q_bx2l, q_Ie, q_Le, q_In, q_Ln, q_IL, q_LI, tI, tL, q_nS, q_s2, q_s3, q_s4, q_m2, q_m3, q_m4, q_m24, q_p1]; exact a4 j w hj
          · simp (disch := first | assumption | omega | (simp only [q_AI, q_AL, q_RI, q_RL, tA, tR, tI, tL]; assumption)) only [Option.bind_some, q_b2, q_bxr, q_bxl, q_bx2r, q_bx2l, q_Ie, q_Le, q_In, q_Ln, q_IL, q_LI, tI, tL, q_nS, q_s2, q_s3, q_s4, q_m2, q_m3, q_m4, q_m24, q_p1]; exact b1
          · simp (disch := first | assumption | omega | (simp only [q_AI, q_AL, q_RI, q_RL, tA, tR, tI, tL]; assumption)) only [Option.bind_some, q_b2, q_bxr, q_bxl, q_bx2r, q_bx2l, q_Ie, q_Le, q_In, q_Ln, q_IL, q_LI, tI, tL, q_nS, q_s2, q_s3, q_s4, q_m2, q_m3, q_m4, q_m24, q_p1]; exact b2
          · simp (disch := first | assumption | omega | (simp only [q_AI, q_AL, q_RI, q_RL, tA, tR, tI, tL]; assumption)) only [Option.bind_some, q_b2, q_bxr, q_bxl, q_bx2r, q_bx2l, q_Ie, q_Le, q_In, q_Ln, q_IL, q_LI, tI, tL, q_nS, q_s2, q_s3, q_s4, q_m2, q_m3, q_m4, q_m24, q_p1]; exact b4 j w hj
          · by_cases hsn : s = na
            · subst hsn
              simp (disch := first | assumption | omega | (simp only [q_AI, q_AL, q_RI, q_RL, tA, tR, tI, tL]; assumption)) only [Option.bind_some, q_b2, q_bxr, q_bxl, q_bx2r, q_bx2l, q_Ie, q_Le, q_In, q_Ln, q_IL, q_LI, tI, tL, q_nS, q_s2, q_s3, q_s4, q_m2, q_m3, q_m4, q_m24, q_p1, if_true]
              refine ⟨eB, eB, by omega, fun z => ?_⟩
              have hb2' := hb2.mpr z
              obtain ⟨h4, h5⟩ := h3 hb2'
              rw [if_pos hb2', if_pos hb2']
              exact ⟨by trivial, by trivial, by trivial, by trivial, h4.1, h4.2, h5⟩
            · simp (disch := first | assumption | omega | (simp only [q_AI, q_AL, q_RI, q_RL, tA, tR, tI, tL]; assumption)) only [Option.bind_some, q_b2, q_bxr, q_bxl, q_bx2r, q_bx2l, q_Ie, q_Le, q_In, q_Ln, q_IL, q_LI, tI, tL, q_nS, q_s2, q_s3, q_s4, q_m2, q_m3, q_m4, q_m24, q_p1, hsn, if_false]; exact c0 s hs
        · simp (disch := first | assumption | omega | (simp only [q_AI, q_AL, q_RI, q_RL, tA, tR, tI, tL]; assumption)) only [Option.bind_some, q_b2, q_bxr, q_bxl, q_bx2r, q_bx2l, q_Ie, q_Le, q_In, q_Ln, q_IL, q_LI, tI, tL, q_nS, q_s2, q_s3, q_s4, q_m2, q_m3, q_m4, q_m24, q_p1]
      · have hb2 : b = 2 := Classical.byContradiction fun z => h3 fun y => absurd y z
        have h3' : ¬ ((-1000 ≤ c.toInt ∧ c.toInt ≤ 1000) ∧ (1 ≤ d.toInt ∧ d.toInt ≤ 1000)) := fun z => h3 fun _ => z
        refine Q0_t (w := 1) (ht_shaft1 (LyH_o hL) ?_) ?_ hp
        · unfold f_X11_shaft
          by_cases h4 : -1000 ≤ c.toInt ∧ c.toInt ≤ 1000
          · have h5 : ¬ (1 ≤ d.toInt ∧ d.toInt ≤ 1000) := fun z => h3' ⟨h4, z⟩
            simp (disch := first | assumption | omega | (simp only [q_AI, q_AL, q_RI, q_RL, tA, tR, tI, tL]; assumption)) only [Option.bind_some, q_b2, q_bxr, q_bxl, q_bx2r, q_bx2l, q_Ie, q_Le, q_In, q_Ln, q_IL, q_LI, tI, tL, q_nS, q_s2, q_s3, q_s4, q_m2, q_m3, q_m4, q_m24, q_p1, rg_t (l := 0) (u := 11) h1, rg_t (l := 0) (u := 2) h2, rg_t (l := -1000) (u := 1000) h4, rg_f (l := 1) (u := 1000) h5 hr, eq_true hb2, if_true]
          · simp (disch := first | assumption | omega | (simp only [q_AI, q_AL, q_RI, q_RL, tA, tR, tI, tL]; assumption)) only [Option.bind_some, q_b2, q_bxr, q_bxl, q_bx2r, q_bx2l, q_Ie, q_Le, q_In, q_Ln, q_IL, q_LI, tI, tL, q_nS, q_s2, q_s3, q_s4, q_m2, q_m3, q_m4, q_m24, q_p1, rg_t (l := 0) (u := 11) h1, rg_t (l := 0) (u := 2) h2, rg_f (l := -1000) (u := 1000) h4 hr, eq_true hb2, if_true]
        · show f_X12_shaft P (x + 1497) a b c d (th σ) = _
          unfold f_X12_shaft f_X12_shaft_D60
          by_cases h4 : -1000 ≤ c.toInt ∧ c.toInt ≤ 1000
          · have h5 : ¬ (1 ≤ d.toInt ∧ d.toInt ≤ 1000) := fun z => h3' ⟨h4, z⟩
            simp (disch := first | assumption | omega | (simp only [q_AI, q_AL, q_RI, q_RL, tA, tR, tI, tL]; assumption)) only [Option.bind_some, q_b2, q_bxr, q_bxl, q_bx2r, q_bx2l, q_Ie, q_Le, q_In, q_Ln, q_IL, q_LI, tI, tL, q_nS, q_s2, q_s3, q_s4, q_m2, q_m3, q_m4, q_m24, q_p1, in_t (l := 0) (u := 11) h1, in_t (l := 0) (u := 2) h2, in_t (l := -1000) (u := 1000) h4, in_f (l := 1) (u := 1000) h5, eq_true hb2, if_true, z10, if_false, rt1]
          · simp (disch := first | assumption | omega | (simp only [q_AI, q_AL, q_RI, q_RL, tA, tR, tI, tL]; assumption)) only [Option.bind_some, q_b2, q_bxr, q_bxl, q_bx2r, q_bx2l, q_Ie, q_Le, q_In, q_Ln, q_IL, q_LI, tI, tL, q_nS, q_s2, q_s3, q_s4, q_m2, q_m3, q_m4, q_m24, q_p1, in_t (l := 0) (u := 11) h1, in_t (l := 0) (u := 2) h2, in_f (l := -1000) (u := 1000) h4, eq_true hb2, if_true, z10, if_false, rt1]
    · refine Q0_t (w := 1) (ht_shaft1 (LyH_o hL) ?_) ?_ hp
      · unfold f_X11_shaft
        simp (disch := first | assumption | omega | (simp only [q_AI, q_AL, q_RI, q_RL, tA, tR, tI, tL]; assumption)) only [Option.bind_some, q_b2, q_bxr, q_bxl, q_bx2r, q_bx2l, q_Ie, q_Le, q_In, q_Ln, q_IL, q_LI, tI, tL, q_nS, q_s2, q_s3, q_s4, q_m2, q_m3, q_m4, q_m24, q_p1, rg_t (l := 0) (u := 11) h1, rg_f (l := 0) (u := 2) h2 hr]
      · show f_X12_shaft P (x + 1497) a b c d (th σ) = _
        unfold f_X12_shaft f_X12_shaft_D60
        simp (disch := first | assumption | omega | (simp only [q_AI, q_AL, q_RI, q_RL, tA, tR, tI, tL]; assumption)) only [Option.bind_some, q_b2, q_bxr, q_bxl, q_bx2r, q_bx2l, q_Ie, q_Le, q_In, q_Ln, q_IL, q_LI, tI, tL, q_nS, q_s2, q_s3, q_s4, q_m2, q_m3, q_m4, q_m24, q_p1, in_t (l := 0) (u := 11) h1, in_f (l := 0) (u := 2) h2, if_true, z10, if_false, rt1]
  · refine Q0_t (w := 1) (ht_shaft1 (LyH_o hL) ?_) ?_ hp
    · unfold f_X11_shaft
      simp (disch := first | assumption | omega | (simp only [q_AI, q_AL, q_RI, q_RL, tA, tR, tI, tL]; assumption)) only [Option.bind_some, q_b2, q_bxr, q_bxl, q_bx2r, q_bx2l, q_Ie, q_Le, q_In, q_Ln, q_IL, q_LI, tI, tL, q_nS, q_s2, q_s3, q_s4, q_m2, q_m3, q_m4, q_m24, q_p1, rg_f (l := 0) (u := 11) h1 hr]
    · show f_X12_shaft P (x + 1497) a b c d (th σ) = _
      unfold f_X12_shaft f_X12_shaft_D60
      simp (disch := first | assumption | omega | (simp only [q_AI, q_AL, q_RI, q_RL, tA, tR, tI, tL]; assumption)) only [Option.bind_some, q_b2, q_bxr, q_bxl, q_bx2r, q_bx2l, q_Ie, q_Le, q_In, q_Ln, q_IL, q_LI, tI, tL, q_nS, q_s2, q_s3, q_s4, q_m2, q_m3, q_m4, q_m24, q_p1, in_f (l := 0) (u := 11) h1, if_true, rt1]
end GD
