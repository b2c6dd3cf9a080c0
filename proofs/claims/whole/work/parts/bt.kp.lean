/-! ===== kp: cams: the steepest, both ===== -/
section KPS
variable {P : mx_P} {σ σ1 τ : mx_S} {x n c m k g f a b : Nat} {W K L : Nat → Nat} {T B : Nat → Int} {S : Nat → Nat → Prop}
theorem ac_r6 (h : LyC (mxA σ) (mxR σ) a) : mg_R σ a 1 6 = some (a + 6) := (q_gR (LyC_o h)).trans (LyC_r6 h)
theorem ac_r7 (h : LyC (mxA σ) (mxR σ) a) : mg_R σ a 1 7 = some (a + 7) := (q_gR (LyC_o h)).trans (LyC_r7 h)
theorem Fz.C (h : Fz S σ τ) (hC : LyC (mxA σ) (mxR σ) c) : LyC (mxA τ) (mxR τ) c := by rw [h.1, h.2.1]; exact hC
theorem Fz.A3 (h : Fz S σ τ) {v : Option mx_Sh} (hA : mxA σ a = v) : mxA τ a = v := by rw [h.1]; exact hA
theorem CmC.fz (h : CmC σ c n W K L T B) (f : Fz S σ τ) (hs : ∀ q j, S q j → q < c ∨ c + 6 ≤ q) : CmC τ c n W K L T B := by
  obtain ⟨h7, h8⟩ := h
  have e2 : ∀ q j, c ≤ q ∧ q < c + 6 → mxI τ q j = mxI σ q j ∧ mxL τ q j = mxL σ q j := fun q j z => f.2.2.2 q j fun y => by have := hs q j y; omega
  refine ⟨(e2 _ _ (by omega)).1.trans h7, fun k hk => ?_⟩
  rw [(e2 (c + 1) k (by omega)).1, (e2 (c + 2) k (by omega)).1, (e2 (c + 3) k (by omega)).1, (e2 (c + 4) k (by omega)).2, (e2 (c + 5) k (by omega)).2]
  exact h8 k hk
theorem c_setF (hf : 5000 ≤ mpN P) (hA : mxA σ a = some (.inl 3)) (hb : mpb P ≤ a) {c d : Nat} (hc : c < 1000000000000000) (hd : 0 < d) (hd2 : d < 100000000) : ∃ τ, f_X3_set P a (l_n c) (l_n d) σ = some τ ∧ FN τ a (c / Nat.gcd c d) (d / Nat.gcd c d) ∧ mxI τ a 2 = 0 ∧ Fz (fun q j => q = a ∧ j ≤ 2) σ τ := by
  obtain ⟨τ, e, ⟨h0, h1, h2⟩, f⟩ := c_set (P := P) (σ := σ) (a := a) (u := l_n c) (v := l_n d) (c := c) (d := d) (A := c) (B := d) hf hA hb ⟨l_nT (by omega), by rw [Int.natAbs_natCast]; exact Nat.le_refl _⟩ ⟨l_nT (by omega), by rw [Int.natAbs_natCast]; exact Nat.le_refl _⟩ (by omega) (by omega) (by omega)
  have k1 := Nat.div_le_self c (Nat.gcd c d)
  have k2 := Nat.div_le_self d (Nat.gcd c d)
  obtain ⟨f1, f2⟩ := fr_nat (c := c) hd
  refine ⟨τ, e, ⟨Int64.toInt.inj ?_, Int64.toInt.inj ?_, by omega, (gc_e c hd).2.2.2.2, by omega⟩, h0, f⟩
  · rw [h1, f1, l_nT (by omega)]
  · rw [h2, f2, l_nT (by omega)]
theorem c_cpy (hA : mxA σ a = some (.inl 3)) (hB : mxA σ b = some (.inl 3)) (hb : mpb P ≤ a) (hab : a ≠ b) (h2 : mxI σ b 2 = 0 ∨ mxI σ b 2 = 1) : ∃ τ, f_X3_copy P a b σ = some τ ∧ mxL τ a 0 = mxL σ b 0 ∧ mxL τ a 1 = mxL σ b 1 ∧ mxI τ a 2 = mxI σ b 2 ∧ Fz (fun q j => q = a ∧ j ≤ 2) σ τ := by
  refine ⟨mx_setI (mx_setL (mx_setL σ a 0 (mxL σ b 0)) a 1 (mxL σ b 1)) a 2 (mxI σ b 2), ?_, ?_, ?_, sI_e, ((Fz.rf.sL ⟨rfl, by omega⟩ _).sL ⟨rfl, by omega⟩ _).sI ⟨rfl, by omega⟩ _⟩
  · unfold f_X3_copy
    have A1 : mxA (mx_setL σ a 0 (mxL σ b 0)) a = some (.inl 3) := hA
    have B1 : mxA (mx_setL σ a 0 (mxL σ b 0)) b = some (.inl 3) := hB
    have A2 : mxA (mx_setL (mx_setL σ a 0 (mxL σ b 0)) a 1 (mxL σ b 1)) a = some (.inl 3) := hA
    have B2 : mxA (mx_setL (mx_setL σ a 0 (mxL σ b 0)) a 1 (mxL σ b 1)) b = some (.inl 3) := hB
    rw [bd (q_gL hB), bd (q_pL hA hb _), bd (q_gL B1), sL_n (by omega), bd (q_pL A1 hb _), bd (q_gI B2), IsL, IsL, bd (q_pZ A2 hb h2)]
  · rw [LsI, sL_n (by omega), sL_e]
  · rw [LsI, sL_e]
theorem mt_st {l : Nat} (h1 : 1 ≤ l) (h4 : l ≤ 4) : mt_t mx_st1 (q_n l) = some (q_n (cmN l)) ∧ mt_t mx_st2 (q_n l) = some (q_n (cmD l)) := by
  obtain rfl | rfl | rfl | rfl : l = 1 ∨ l = 2 ∨ l = 3 ∨ l = 4 := by omega
  all_goals exact ⟨by decide, by decide⟩
theorem c_stp (hf : 5000 ≤ mpN P) (hC : LyC (mxA σ) (mxR σ) c) (hbc : mpb P ≤ c) (hA : mxA σ f = some (.inl 3)) (hbf : mpb P ≤ f) (hfc : f < c) (ho : CmO n W K L T B) (h : CmC σ c n W K L T B) : ∃ τ, f_X1_findSteepest P c f σ = some τ ∧ FN τ f (stB W K L T B n).1 (stB W K L T B n).2 ∧ Fz (fun q j => (q = f ∨ q = c + 6) ∧ j ≤ 2) σ τ := by
  have hS : ∀ q j, ((q = f ∨ q = c + 6) ∧ j ≤ 2) → q < c ∨ c + 6 ≤ q := fun q j y => by omega
  obtain ⟨s0, e0, n0, -, f0⟩ := c_setF (P := P) (c := 0) (d := 1) hf hA hbf (by omega) (by omega) (by omega)
  have F0 : Fz (fun q j => (q = f ∨ q = c + 6) ∧ j ≤ 2) σ s0 := f0.mo fun q j y => ⟨Or.inl y.1, y.2⟩
  have o1 := ho.1
  obtain ⟨r, e1, h1⟩ := q_for (f_X1_findSteepest_L8 P c f) (fun k t => t.1 = q_n k ∧ FN t.2 f (stB W K L T B k).1 (stB W K L T B k).2 ∧ Fz (fun q j => (q = f ∨ q = c + 6) ∧ j ≤ 2) σ t.2) (fun r => FN r f (stB W K L T B n).1 (stB W K L T B n).2 ∧ Fz (fun q j => (q = f ∨ q = c + 6) ∧ j ≤ 2) σ r) n
    (by
      rintro k ⟨v2, s⟩ hk ⟨i2, i3, F⟩
      dsimp only at i2 i3 F
      subst i2
      left
      have Cs := F.C hC
      have hs := h.fz F hS
      have hk2 := hs.2 k hk
      have As := F.A3 hA
      obtain ⟨w1, w2, k2, o⟩ := ho.2.1 k hk
      have un : stB W K L T B (k + 1) = if K k ≠ 0 ∧ (stB W K L T B k).1 * stQ W L T B k < stP W L T B k * (stB W K L T B k).2 then (stP W L T B k, stQ W L T B k) else stB W K L T B k := rfl
      show ∃ t', f_X1_findSteepest_B8 P c f (q_n k) s = some (.inl t') ∧ _
      have D : ∀ s', FN s' f (stB W K L T B (k + 1)).1 (stB W K L T B (k + 1)).2 → Fz (fun q j => (q = f ∨ q = c + 6) ∧ j ≤ 2) σ s' → ∃ t', f_X1_findSteepest_D102_8 P c f (q_n k) s' = some (.inl t') ∧ t'.1 = q_n (k + 1) ∧ FN t'.2 f (stB W K L T B (k + 1)).1 (stB W K L T B (k + 1)).2 ∧ Fz (fun q j => (q = f ∨ q = c + 6) ∧ j ≤ 2) σ t'.2 := fun s' y1 y2 => by
        unfold f_X1_findSteepest_D102_8
        rw [Option.bind_some, q_nS]
        exact ⟨_, rfl, rfl, y1, y2⟩
      unfold f_X1_findSteepest_B8
      rw [bd (ac_gI Cs), hs.1, if_neg (qn_ge hk (by omega)), bd (ac_r2 Cs), bd (ac_g2 Cs (by omega)), hk2.2.1]
      by_cases k0 : K k = 0
      · rw [if_pos k0, if_pos rfl]
        exact D s (by rw [un, if_neg (fun y => y.1 k0)]; exact i3) F
      · rw [if_neg k0, if_neg (by split <;> decide)]
        obtain ⟨l1, l4, t1, t2, b1, b2, gg⟩ := o k0
        have mt := mt_st l1 l4
        have eT : mxL s (c + 4) k = l_n (T k).toNat := Int64.toInt.inj (by rw [(hk2.2.2.2 k0).1, l_nT (by omega)]; omega)
        have eB : mxL s (c + 5) k = l_n (B k).toNat := Int64.toInt.inj (by rw [(hk2.2.2.2 k0).2, l_nT (by omega)]; omega)
        have bb := st_b ho hk k0
        have cN := cmN_b (L k)
        have cD := cmD_b (L k)
        obtain ⟨s1, e1, n1, z1, f1⟩ := c_setF (P := P) (σ := s) (a := c + 6) (c := stN L T k) (d := stD W L B k) hf (LyC_a6 Cs) (by omega) (by omega) bb.2.1 bb.2.2.1
        have F1 : Fz (fun q j => (q = f ∨ q = c + 6) ∧ j ≤ 2) s s1 := f1.mo fun q j y => ⟨Or.inr y.1, y.2⟩
        have C1 := F1.C Cs
        have A1 := F1.A3 As
        have sb := stB_b (k := k) ho (by omega)
        have i30 : mxL s1 f 0 = mxL s f 0 := (f1.2.2.2 f 0 (by omega)).2
        have i31 : mxL s1 f 1 = mxL s f 1 := (f1.2.2.2 f 1 (by omega)).2
        rw [bd (ac_r6 Cs), bd (ac_r4 Cs), bd (ac_g4 Cs (by omega)), bd (ac_r3 Cs), bd (ac_g3 Cs (by omega)), hk2.2.2.1, if_neg k0, bd mt.1, bd (ac_r5 Cs), bd (ac_g5 Cs (by omega)), bd (ac_r1 Cs), bd (ac_g1 Cs (by omega)), hk2.1, bd (ac_r3 Cs), bd (ac_g3 Cs (by omega)), hk2.2.2.1, if_neg k0, bd mt.2, bd (q_is (LyC_a6 Cs)), eT, eB, q_nL (by omega), q_nL (by omega), q_nL (by omega), l_nM, l_nM, l_nM, bd (show f_X3_set P (c + 6) (l_n ((T k).toNat * cmN (L k))) (l_n ((B k).toNat * W k * cmD (L k))) s = some s1 from e1), bd (ac_r6 C1), bd (q_gL A1), bd (q_gL A1), bd (q_is (LyC_a6 C1)), i30, i31, i3.1, i3.2.1]
        have ab := c_abv (P := P) (LyC_a6 C1) n1.1 n1.2.1 n1.2.2.2.1 sb.2.1 (by have := n1.2.2.1; omega) (by have := n1.2.2.2.2; omega) (show (stB W K L T B k).1 < _ by omega) (by omega)
        rw [bd2 ab]
        by_cases lt : (stB W K L T B k).1 * stQ W L T B k < stP W L T B k * (stB W K L T B k).2
        · have lt' : decide ((stB W K L T B k).1 * (stD W L B k / (stN L T k).gcd (stD W L B k)) < stN L T k / (stN L T k).gcd (stD W L B k) * (stB W K L T B k).2) = true := decide_eq_true lt
          rw [lt', if_neg (show ¬ bI true = 0 by decide)]
          obtain ⟨s2, e2, y0, y1, y2, f2⟩ := c_cpy (P := P) A1 (LyC_a6 C1) hbf (by omega) (Or.inl z1)
          rw [bd (ac_r6 C1), bd (q_is A1), bd e2]
          refine D s2 ?_ ((F.tr F1).tr (f2.mo fun q j y => ⟨Or.inl y.1, y.2⟩))
          rw [un, if_pos ⟨k0, lt⟩]
          exact ⟨by rw [y0, n1.1]; rfl, by rw [y1, n1.2.1]; rfl, n1.2.2.1, n1.2.2.2.1, n1.2.2.2.2⟩
        · have lt' : decide ((stB W K L T B k).1 * (stD W L B k / (stN L T k).gcd (stD W L B k)) < stN L T k / (stN L T k).gcd (stD W L B k) * (stB W K L T B k).2) = false := decide_eq_false lt
          rw [lt', if_pos (show bI false = 0 by decide)]
          refine D s1 ?_ (F.tr F1)
          rw [un, if_neg (fun y => lt y.2)]
          exact ⟨by rw [i30]; exact i3.1, by rw [i31]; exact i3.2.1, i3.2.2⟩)
    (by
      rintro ⟨v2, s⟩ ⟨i2, i3, F⟩
      dsimp only at i2 i3 F
      subst i2
      have Cs := F.C hC
      have hs := h.fz F hS
      show ∃ r, f_X1_findSteepest_B8 P c f (q_n n) s = some (.inr r) ∧ _
      unfold f_X1_findSteepest_B8
      rw [bd (ac_gI Cs), hs.1, if_pos ((q_nLe (by omega) (by omega)).mpr (Nat.le_refl _))]
      exact ⟨s, rfl, i3, F⟩)
    n 0 ((0 : Int32), s0) (mpN P) (by omega) ⟨rfl, n0, F0⟩ (by omega)
  refine ⟨r, ?_, h1⟩
  unfold f_X1_findSteepest
  rw [bd (q_is hA), show (0 : Int64) = l_n 0 from rfl, show (1 : Int64) = l_n 1 from rfl, bd e0, bd e1]
theorem r_stp (hf : 5000 ≤ mpN P) (hM : LyM σ m) (hb : mpb P ≤ m) (ho : CmO n W K L T B) (h : CmR σ m n W K L T B) (h0 : mxI σ m 10 = 0) : ∃ τ, f_X12_steepest P m σ = some τ ∧ mxL τ m 8 = l_n (stB W K L T B n).1 ∧ mxL τ m 9 = l_n (stB W K L T B n).2 ∧ Fz (SLw m) σ τ := by
  have s8 : ∀ j, j = 8 ∨ j = 9 ∨ j = 10 → SLw m m j := fun j h => ⟨rfl, h⟩
  have o1 := ho.1
  obtain ⟨⟨r1, r2, r3⟩, e1, h1, h2, h3⟩ := q_for (f_X12_steepest_L7 P m) (fun k t => t.1 = l_n (stB W K L T B k).1 ∧ t.2.1 = l_n (stB W K L T B k).2 ∧ t.2.2.1 = q_n k ∧ Fz (SLw m) σ t.2.2.2 ∧ mxI t.2.2.2 m 10 = 0) (fun r => r.1 = l_n (stB W K L T B n).1 ∧ r.2.1 = l_n (stB W K L T B n).2 ∧ Fz (SLw m) σ r.2.2) n
    (by
      rintro k ⟨v1, v3, v5, s⟩ hk ⟨i1, i2, i3, F, i4⟩
      dsimp only at i1 i2 i3 F i4
      subst i1 i2 i3
      left
      have Ms := F.M hM
      have hs := h.fz F S74
      have hk2 := hs.2 k hk
      obtain ⟨w1, w2, k2, o⟩ := ho.2.1 k hk
      have un : stB W K L T B (k + 1) = if K k ≠ 0 ∧ (stB W K L T B k).1 * stQ W L T B k < stP W L T B k * (stB W K L T B k).2 then (stP W L T B k, stQ W L T B k) else stB W K L T B k := rfl
      have D : ∀ s' u v, u = l_n (stB W K L T B (k + 1)).1 → v = l_n (stB W K L T B (k + 1)).2 → Fz (SLw m) σ s' → mxI s' m 10 = 0 → ∃ t', f_X12_steepest_D168_7 P m u v (q_n k) s' = some (.inl t') ∧ t'.1 = l_n (stB W K L T B (k + 1)).1 ∧ t'.2.1 = l_n (stB W K L T B (k + 1)).2 ∧ t'.2.2.1 = q_n (k + 1) ∧ Fz (SLw m) σ t'.2.2.2 ∧ mxI t'.2.2.2 m 10 = 0 := fun s' u v y1 y2 y3 y4 => by
        unfold f_X12_steepest_D168_7
        rw [Option.bind_some, q_nS]
        exact ⟨_, rfl, y1, y2, rfl, y3, y4⟩
      show ∃ t', f_X12_steepest_B7 P m (l_n (stB W K L T B k).1) (l_n (stB W K L T B k).2) (q_n k) s = some (.inl t') ∧ _
      unfold f_X12_steepest_B7
      rw [bd (am_gI Ms), hs.1, if_neg (qn_ge hk (by omega)), bd (am_r75 Ms), bd (am_g75 Ms (by omega)), hk2.1]
      by_cases k0 : K k = 0
      · rw [if_pos (by rw [k0]; rfl)]
        exact D s _ _ (by rw [un, if_neg (fun y => y.1 k0)]) (by rw [un, if_neg (fun y => y.1 k0)]) F i4
      · obtain ⟨l1, l4, t1, t2, b1, b2, gg⟩ := o k0
        have cN := cmN_b (L k)
        have cD := cmD_b (L k)
        have sb := stB_b (k := k) ho (by omega)
        have bb := st_b ho hk k0
        obtain ⟨R1, R2, R3⟩ := hk2.2.2.1 k0
        have bT : B64 (mxL s (m + 51) k) (T k) 1000000000000000 := ⟨R1, by omega⟩
        have bB : B64 (mxL s (m + 52) k) (B k) 1000000000000000 := ⟨R2, by omega⟩
        have bW : B64 (l_n (W k)) (W k : Int) 1000000000000000 := l_nB (by omega) (by omega)
        have b1' : B64 (1 : Int64) (1 : Int) 1000000000000000 := ⟨rfl, by decide⟩
        obtain ⟨s1, e1, f1, rf1⟩ := r_tim (P := P) hf Ms hb bT bB b1' bW b1 (by omega) (Or.inl i4)
        have M1 := f1.M Ms
        have lw1 := ft_lw (p := T k) (q := B k) (e := 1) (d := W k) b1 (by omega)
        have ok1 : fto (T k) (B k) 1 (W k : Int) := by
          refine fto_s (by omega) (by omega) (by show _ * 1 ≤ _; omega) ?_
          have h1 : (B k).natAbs ≤ 9999 := by omega
          have h2 : (W k : Int).natAbs ≤ 360 := by omega
          have := Nat.mul_le_mul h1 h2
          omega
        generalize ftx (T k) (B k) 1 (W k : Int) / (gcI (ftx (T k) (B k) 1 (W k : Int)) (ftz (T k) (B k) 1 (W k : Int)) : Int) = X1 at rf1 lw1
        generalize ftz (T k) (B k) 1 (W k : Int) / (gcI (ftx (T k) (B k) 1 (W k : Int)) (ftz (T k) (B k) 1 (W k : Int)) : Int) = Z1 at rf1 lw1
        rcases rf1 with ⟨-, g1, g2, g3⟩ | ⟨z, -⟩
        · have bw : 1 ≤ B k * (W k : Int) := by
            have := Int.mul_le_mul b1 (show (1 : Int) ≤ W k by omega) (by omega) (by omega)
            omega
          have bw2 : B k * (W k : Int) ≤ 9999 * 360 := Int.mul_le_mul b2 (by omega) (by omega) (by omega)
          obtain ⟨gg1, gp, u1, u2, -⟩ := lw_u lw1.1 bw lw1.2.2 lw1.2.1
          have xb : X1.natAbs ≤ 600000 := by
            have : X1.natAbs * gg1 = (T k).natAbs := by
              have := congrArg Int.natAbs u1
              rw [Int.mul_one, Int.natAbs_mul, Int.natAbs_natCast] at this
              exact this.symm
            have := Nat.le_mul_of_pos_right X1.natAbs gp
            omega
          have zb : Z1.natAbs ≤ 9999 * 360 := by
            have : Z1.natAbs * gg1 = (B k * (W k : Int)).natAbs := by rw [u2, Int.natAbs_mul, Int.natAbs_natCast]
            have := Nat.le_mul_of_pos_right Z1.natAbs gp
            omega
          have bX : B64 (mxL s1 m 8) X1 1000000000000000 := ⟨g2, by omega⟩
          have bZ : B64 (mxL s1 m 9) Z1 1000000000000000 := ⟨g3, by omega⟩
          have bN : B64 (l_n (cmN (L k))) (cmN (L k) : Int) 1000000000000000 := l_nB (by omega) (by omega)
          have bD : B64 (l_n (cmD (L k))) (cmD (L k) : Int) 1000000000000000 := l_nB (by omega) (by omega)
          obtain ⟨s2, e2, f2, rf2⟩ := r_tim (P := P) hf M1 hb bX bZ bN bD lw1.1 (by omega) (Or.inl g1)
          have M2 := f2.M M1
          have lw2 := ft_lw (p := X1) (q := Z1) (e := cmN (L k)) (d := cmD (L k)) lw1.1 (by omega)
          have ok2 : fto X1 Z1 (cmN (L k) : Int) (cmD (L k) : Int) := by
            have z1 := lw1.1
            refine fto_s (by omega) (by omega) ?_ ?_
            · have := Nat.mul_le_mul xb (show (cmN (L k) : Int).natAbs ≤ 35 by omega); omega
            · have := Nat.mul_le_mul zb (show (cmD (L k) : Int).natAbs ≤ 16 by omega); omega
          generalize ftx X1 Z1 (cmN (L k) : Int) (cmD (L k) : Int) / (gcI (ftx X1 Z1 (cmN (L k) : Int) (cmD (L k) : Int)) (ftz X1 Z1 (cmN (L k) : Int) (cmD (L k) : Int)) : Int) = X2 at rf2 lw2
          generalize ftz X1 Z1 (cmN (L k) : Int) (cmD (L k) : Int) / (gcI (ftx X1 Z1 (cmN (L k) : Int) (cmD (L k) : Int)) (ftz X1 Z1 (cmN (L k) : Int) (cmD (L k) : Int)) : Int) = Z2 at rf2 lw2
          obtain ⟨x2, z2⟩ := st_lw ho hk k0 lw1.1 lw1.2.1 lw1.2.2 lw2.1 lw2.2.1 lw2.2.2
          rcases rf2 with ⟨-, j1, j2, j3⟩ | ⟨z, -⟩
          · have E8 : mxL s2 m 8 = l_n (stP W L T B k) := Int64.toInt.inj (by rw [j2, x2, l_nT (by omega)])
            have E9 : mxL s2 m 9 = l_n (stQ W L T B k) := Int64.toInt.inj (by rw [j3, z2, l_nT (by omega)])
            have FF := (F.tr f1).tr f2
            have D136 : ∃ t', f_X12_steepest_D136_7 P m (l_n (stB W K L T B k).1) (l_n (stB W K L T B k).2) (q_n k) (l_n (cmD (L k))) (l_n (cmN (L k))) (mxL s1 m 9) (mxL s1 m 8) m s1 = some (.inl t') ∧ t'.1 = l_n (stB W K L T B (k + 1)).1 ∧ t'.2.1 = l_n (stB W K L T B (k + 1)).2 ∧ t'.2.2.1 = q_n (k + 1) ∧ Fz (SLw m) σ t'.2.2.2 ∧ mxI t'.2.2.2 m 10 = 0 := by
              unfold f_X12_steepest_D136_7
              rw [bd (am_is M1), bd e2, bd (am_gL M2), bd (am_gL M2), E8, E9, bd2 (r_lss (by omega) sb.2.1 bb.2.2.2.2.1 (by omega) (by omega) (by omega) (by omega))]
              by_cases lt : (stB W K L T B k).1 * stQ W L T B k < stP W L T B k * (stB W K L T B k).2
              · rw [decide_eq_true lt, if_neg (show ¬ bI true = 0 by decide), bd (am_gL M2), bd (am_gL M2), E8, E9]
                exact D s2 _ _ (by rw [un, if_pos ⟨k0, lt⟩]) (by rw [un, if_pos ⟨k0, lt⟩]) FF j1
              · rw [decide_eq_false lt, if_pos (show bI false = 0 by decide)]
                exact D s2 _ _ (by rw [un, if_neg (fun y => lt y.2)]) (by rw [un, if_neg (fun y => lt y.2)]) FF j1
            have hR1 := ((hs.fz f1 S74).2 k hk).2.2.1 k0
            have by1 : f_X12_by P m (mxL s (m + 51) k) (mxL s (m + 52) k) (l_n (W k)) (1 : Int64) s = some s1 := by
              unfold f_X12_by f_X12_by_D32
              rw [if_pos (by rw [l_nn, l_nT (by omega)]; omega), bd (am_is Ms), bd e1]
            rw [if_neg (show ¬ q_n (K k) = 0 from fun y => k0 ((q_nI (l := 0) (by omega) (by omega)).mp y)), bd (am_r77 Ms), bd (am_g77 Ms (by omega)), bd (am_r78 Ms), bd (am_g78 Ms (by omega)), bd (am_r76 Ms), bd (am_g76 Ms (by omega)), hk2.2.1, q_nL (by omega), bd (am_is Ms), bd by1, bd (am_r79 M1), bd (am_g79 M1 (by omega)), hR1.2.2, bd (am_gL M1), bd (am_gL M1)]
            unfold f_X12_steepest_D111_7
            obtain el | el | el | el : L k = 1 ∨ L k = 2 ∨ L k = 3 ∨ L k = 4 := by omega
            all_goals
              rw [el] at D136 ⊢
              exact D136
          · exact absurd ⟨g1, ok2⟩ z
        · exact absurd ⟨i4, ok1⟩ z)
    (by
      rintro ⟨v1, v3, v5, s⟩ ⟨i1, i2, i3, F, i4⟩
      dsimp only at i1 i2 i3 F i4
      subst i1 i2 i3
      have Ms := F.M hM
      have hs := h.fz F S74
      show ∃ r, f_X12_steepest_B7 P m (l_n (stB W K L T B n).1) (l_n (stB W K L T B n).2) (q_n n) s = some (.inr r) ∧ _
      unfold f_X12_steepest_B7
      rw [bd (am_gI Ms), hs.1, if_pos ((q_nLe (by omega) (by omega)).mpr (Nat.le_refl _))]
      exact ⟨_, rfl, rfl, rfl, F⟩)
    n 0 ((0 : Int64), (1 : Int64), (0 : Int32), σ) (mpN P) (by omega) ⟨rfl, rfl, rfl, Fz.rf, h0⟩ (by omega)
  dsimp only at h1 h2 h3
  have M3 := h3.M hM
  refine ⟨mx_setL (mx_setL r3 m 8 r1) m 9 r2, ?_, ?_, ?_, (h3.sL (s8 8 (by omega)) _).sL (s8 9 (by omega)) _⟩
  · unfold f_X12_steepest
    rw [bd e1]
    show (mp_L P r3 m 12 8 r1).bind _ = _
    rw [bd (am_pL M3 hb _), bd (am_pL (show LyM (mx_setL r3 m 8 r1) m from M3) hb _)]
  · rw [sL_n (by omega), sL_e, h1]
  · rw [sL_e, h2]
end KPS
