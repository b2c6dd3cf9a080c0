/-! ===== lz: the class writes all rows; outcome ===== -/
section LZS
variable {P : mx_P} {σ σ0 σ1 τ : mx_S} {g r k n s a j b x l N m : Nat} {π : Nat → Nat} {pv : Nat → Int32} {M M' : MT} {R R' : Nat → Int × Int} {w z : Int × Int} {S : Nat → Nat → Prop} {u v : Int64} {gs : List (Nat × Nat)} {ms : List (Nat × Nat × Bool × Int32)} {sh : Nat → Nat × Int32 × Int32}
theorem CGp.fz (h : CGp σ0 σ g π n N pv M) (hn : N ≤ 32) (f : Fz S σ τ) (hs : ∀ q j, S q j → g + 75 ≤ q ∧ q ≤ g + 77) : CGp σ0 τ g π n N pv M := by
  obtain ⟨h1, h2, h3, h4, h5, h6⟩ := h
  refine ⟨h1.tr (f.G fun q j y => Or.inr (Or.inl (by have := hs q j y; omega))), f.Lg h2, f.pm h3, (f.2.2.2 _ _ fun y => by have := hs _ _ y; omega).1.trans h4, fun s hs1 => (f.2.2.2 _ _ fun y => by have := hs _ _ y; omega).1.trans (h5 s hs1), fun r hr k hk => ?_⟩
  have p := (h3.1 r (by omega)).1
  rw [(f.2.2.2 (g + 9 + π r) k fun y => by have := hs _ _ y; omega).2, (f.2.2.2 (g + 42 + π r) k fun y => by have := hs _ _ y; omega).2]
  exact h6 r hr k hk
theorem c_wrp (h : CGp σ0 σ g π n (n + 1) pv (rU M n R)) (hn : n < 32) (hb : mpb P ≤ g) (hz : (mxL σ (g + 77) 0).toInt = z.1 ∧ (mxL σ (g + 77) 1).toInt = z.2) : ∃ τ, f_X4_writeCell P g (q_n n) (12 : Int32) σ = some τ ∧ CGp σ0 τ g π n (n + 1) pv (rU M n (fun i => if i = 12 then z else R i)) := by
  have p := (h.2.2.1.1 n hn).1
  obtain ⟨s1, e1⟩ : ∃ s1, s1 = mx_setL σ (g + 9 + π n) 12 (mxL σ (g + 77) 0) := ⟨_, rfl⟩
  have C1 : CGp σ0 s1 g π n (n + 1) pv (rU M n (fun i => if i = 12 then (z.1, (R i).2) else R i)) := by
    rw [e1]
    exact h.sT hn (by rw [if_pos rfl, hz.1]) (fun i hi => if_neg hi)
  have l1 : mxL s1 (g + 77) 1 = mxL σ (g + 77) 1 := by rw [e1]; exact sL_n (by omega)
  have C2 : CGp σ0 (mx_setL s1 (g + 42 + π n) 12 (mxL σ (g + 77) 1)) g π n (n + 1) pv (rU M n (fun i => if i = 12 then z else R i)) := by
    refine C1.sB hn ?_ fun i hi => ?_
    · show (if 12 = 12 then z else R 12) = ((if 12 = 12 then (z.1, (R 12).2) else R 12).1, _)
      rw [if_pos rfl, if_pos rfl, hz.2]
    · show (if i = 12 then z else R i) = (if i = 12 then (z.1, (R i).2) else R i)
      rw [if_neg hi, if_neg hi]
  refine ⟨_, ?_, C2⟩
  unfold f_X4_writeCell
  rw [bd (ag_r10 h.2.1), bd (h.tt hn), bd (ag_r17 h.2.1), bd (q_gL (LyG_a17 h.2.1)), bd (show ms_L P σ (g + 9 + π n) 1 (12 : Int32) _ = _ from h.sTT (k := 12) hb hn (by omega) _), ← e1, bd (ag_r11 C1.2.1), bd (cg_b C1.2.1 C1.2.2.1 hn), bd (ag_r17 C1.2.1), bd (q_gL (LyG_a17 C1.2.1)), l1, bd (show ms_L P s1 (g + 42 + π n) 1 (12 : Int32) _ = _ from cg_sB (k := 12) C1.2.1 C1.2.2.1 hb hn (by omega) _)]
theorem mk_s1 (h : (sh s).1 = 0) : mkM gs ms sh (s + 1) = mkM gs ms sh s := by
  unfold mkM
  rw [shM, if_pos h]
theorem mk_s2 (h : (sh s).1 ≠ 0) : mkM gs ms sh (s + 1) = (rU (mkM gs ms sh s).1 (mkM gs ms sh s).2 (rowS s (sh s)), (mkM gs ms sh s).2 + 1) := by
  unfold mkM
  rw [shM, if_neg h]
theorem rw_12 (hs : s < 12) {h : Nat × Int32 × Int32} (h2 : h.1 = 2) : (fun i => if i = 12 then (h.2.1.toInt / (gcI h.2.1.toInt h.2.2.toInt : Int), h.2.2.toInt / (gcI h.2.1.toInt h.2.2.toInt : Int)) else if i = s then ((1 : Int), (1 : Int)) else rE i) = rowS s h := by
  funext i
  unfold rowS
  rw [if_pos h2]
  rfl
theorem rw_11 (hs : s < 12) {h : Nat × Int32 × Int32} (h2 : h.1 ≠ 2) : (fun i => if i = s then ((1 : Int), (1 : Int)) else rE i) = rowS s h := by
  funext i
  unfold rowS
  rw [if_neg h2]
  by_cases y : i = 12
  · rw [if_pos y, if_neg (by omega)]; rfl
  · rw [if_neg y]; rfl
theorem c_wrs (hf : 5000 ≤ mpN P) (hb : mpb P ≤ g) (hF : FG g σ0 σ) (hG : LyG (mxA σ) (mxR σ) g) (hP : Pm σ g π) (hR : RGc σ0 g gs ms sh) : ∃ τ pv, f_X4_writeRows P g σ = some τ ∧ CG σ0 τ g π (mkM gs ms sh 12).2 pv (mkM gs ms sh 12).1 := by
  obtain ⟨σ1, e1⟩ : ∃ σ1, σ1 = mx_setI σ g 13 0 := ⟨_, rfl⟩
  have F1 : Fz (fun q j => q = g ∧ j = 13) σ σ1 := by rw [e1]; exact Fz.sI (S := fun q j => q = g ∧ j = 13) Fz.rf ⟨rfl, rfl⟩ _
  have C0 : CG σ0 σ1 g π 0 (fun s => mxI σ1 (g + 74) s) (meM gs ms 0) := ⟨hF.tr (F1.G fun q j y => by unfold SG; omega), F1.Lg hG, F1.pm hP, by rw [e1]; exact sI_e, fun _ _ => rfl, fun r hr => absurd hr (by omega)⟩
  generalize (fun s => mxI σ1 (g + 74) s) = pv at C0
  have b2 := hR.2.1.2.1
  obtain ⟨σ2, e2, C2⟩ := q_for (f_X4_writeRows_L7 P g) (fun m t => t.1 = q_n m ∧ CG σ0 t.2 g π m pv (meM gs ms m)) (fun t => CG σ0 t g π ms.length pv (meM gs ms ms.length)) ms.length
    (by
      rintro m ⟨v1, t⟩ hm ⟨i1, C⟩
      dsimp only at i1 C
      subst i1
      left
      have hl := (hR.fg C.1).2.1.1
      show ∃ t', f_X4_writeRows_B7 P g (q_n m) t = some (.inl t') ∧ _
      unfold f_X4_writeRows_B7
      obtain ⟨t1, d1, D1⟩ := c_emp (P := P) hf hb C (by omega)
      obtain ⟨t2, d2, D2⟩ := c_wm (P := P) hb D1 (by omega) hR hm
      rw [bd (ag_gI C.2.1), hl, if_neg (qn_ge hm (by omega)), bd C.is, bd d1, bd (ag_is D1.2.1), show (4 : Int32) * q_n m = q_n (4 * m) from q_nM 4 m, bd d2, bd (ag_gI D2.2.1), D2.2.2.2.1, bd (ag_pI D2.2.1 hb _), Option.bind_some, q_nS]
      exact ⟨_, rfl, rfl, D2.up hb⟩)
    (by
      rintro ⟨v1, t⟩ ⟨i1, C⟩
      dsimp only at i1 C
      subst i1
      refine ⟨t, ?_, C⟩
      show f_X4_writeRows_B7 P g (q_n ms.length) t = _
      unfold f_X4_writeRows_B7
      rw [bd (ag_gI C.2.1), (hR.fg C.1).2.1.1, if_pos ((q_nLe (by omega) (by omega)).mpr (Nat.le_refl _))])
    ms.length 0 ((0 : Int32), σ1) (mpN P) (by omega) ⟨rfl, C0⟩ (by omega)
  obtain ⟨σ3, e3, C3⟩ := q_for (f_X4_writeRows_L44 P g) (fun s t => t.1 = q_n s ∧ CG σ0 t.2 g π (mkM gs ms sh s).2 pv (mkM gs ms sh s).1) (fun t => CG σ0 t g π (mkM gs ms sh 12).2 pv (mkM gs ms sh 12).1) 12
    (by
      rintro s ⟨v1, t⟩ hs ⟨i1, C⟩
      dsimp only at i1 C
      subst i1
      left
      obtain ⟨c1, c2, c3⟩ := (hR.fg C.1).2.2 s hs
      have hn : (mkM gs ms sh s).2 < 32 := by have := mk_le (gs := gs) (ms := ms) (sh := sh) s; omega
      show ∃ t', f_X4_writeRows_B44 P g (q_n s) t = some (.inl t') ∧ _
      have D : ∀ t', CG σ0 t' g π (mkM gs ms sh (s + 1)).2 pv (mkM gs ms sh (s + 1)).1 → ∃ t2, f_X4_writeRows_D126_44 P g (q_n s) t' = some (.inl t2) ∧ t2.1 = q_n (s + 1) ∧ CG σ0 t2.2 g π (mkM gs ms sh (s + 1)).2 pv (mkM gs ms sh (s + 1)).1 := fun t' y => by
        unfold f_X4_writeRows_D126_44
        rw [Option.bind_some, q_nS]
        exact ⟨_, rfl, rfl, y⟩
      have D2 : (sh s).1 ≠ 0 → ∀ t', CGp σ0 t' g π (mkM gs ms sh s).2 ((mkM gs ms sh s).2 + 1) pv (rU (mkM gs ms sh s).1 (mkM gs ms sh s).2 (rowS s (sh s))) → ∃ t2, f_X4_writeRows_D116_44 P g (q_n s) t' = some (.inl t2) ∧ t2.1 = q_n (s + 1) ∧ CG σ0 t2.2 g π (mkM gs ms sh (s + 1)).2 pv (mkM gs ms sh (s + 1)).1 := fun h0 t' y => by
        unfold f_X4_writeRows_D116_44
        rw [bd (ag_gI y.2.1), y.2.2.2.1, q_nS, bd (ag_pI y.2.1 hb _)]
        refine D _ ?_
        rw [mk_s2 h0]
        exact y.up hb
      unfold f_X4_writeRows_B44
      rw [if_neg (by rw [show (12 : Int32) = q_n 12 from rfl]; exact qn_ge hs (by omega)), bd (ag_r6 C.2.1), bd (ag_g6 C.2.1 hs), c1]
      by_cases h0 : (sh s).1 = 0
      · rw [if_pos (by rw [h0]; rfl)]
        refine D t ?_
        rw [mk_s1 h0]; exact C
      · obtain ⟨t1, d1, D1⟩ := c_emp (P := P) hf hb C hn
        have E1 : CGp σ0 (mx_setL t1 (g + 9 + π (mkM gs ms sh s).2) s 1) g π (mkM gs ms sh s).2 ((mkM gs ms sh s).2 + 1) pv (rU (mkM gs ms sh s).1 (mkM gs ms sh s).2 (fun i => if i = s then ((1 : Int), (1 : Int)) else rE i)) := D1.sT hn (by rw [if_pos rfl]; rfl) (fun i hi => if_neg hi)
        obtain ⟨t2, d2⟩ : ∃ t2, t2 = mx_setL t1 (g + 9 + π (mkM gs ms sh s).2) s 1 := ⟨_, rfl⟩
        rw [← d2] at E1
        obtain ⟨k1, k2, k3⟩ := (hR.fg E1.1).2.2 s hs
        rw [if_neg (q_nne (by omega) (by omega)), bd C.is, bd d1, bd (ag_r10 D1.2.1), bd (ag_gI D1.2.1), D1.2.2.2.1, bd (D1.tt hn), bd (D1.sTT hb hn (by omega) _), ← d2, bd (ag_r6 E1.2.1), bd (ag_g6 E1.2.1 hs), k1]
        by_cases h2 : (sh s).1 = 2
        · obtain ⟨y1, y2, y3, y4, y5, y6⟩ := k3 h2
          obtain ⟨t3, d3, ⟨-, z1, z2⟩, F3⟩ := c_set (P := P) (σ := t2) (a := g + 77) (u := (sh s).2.1.toInt64) (v := (sh s).2.2.toInt64) (c := (sh s).2.1.toInt) (d := (sh s).2.2.toInt) (A := 1000) (B := 1000) hf (LyG_a17 E1.2.1) (by omega) ⟨Int32.toInt_toInt64 _, by omega⟩ ⟨Int32.toInt_toInt64 _, by omega⟩ (by omega) (by omega) (by omega)
          have E3 := E1.fz (by omega) F3 fun q j y => by omega
          have fp : frP (sh s).2.1.toInt (sh s).2.2.toInt = (sh s).2.1.toInt / (gcI (sh s).2.1.toInt (sh s).2.2.toInt : Int) := by unfold frP; rw [if_pos (by omega)]
          have fq : frQ (sh s).2.1.toInt (sh s).2.2.toInt = (sh s).2.2.toInt / (gcI (sh s).2.1.toInt (sh s).2.2.toInt : Int) := by unfold frQ; rw [show (((sh s).2.2.toInt.natAbs : Nat) : Int) = (sh s).2.2.toInt by omega]
          rw [fp] at z1
          rw [fq] at z2
          obtain ⟨t4, d4, E4⟩ := c_wrp (P := P) (z := (_, _)) E3 hn hb ⟨z1, z2⟩
          rw [if_pos (by rw [h2]; rfl), bd (ag_r17 E1.2.1), bd (ag_r7 E1.2.1), bd (ag_g7 E1.2.1 hs), y1, bd (ag_r8 E1.2.1), bd (ag_g8 E1.2.1 hs), y2, bd (q_is (LyG_a17 E1.2.1)), bd d3, bd (ag_gI E3.2.1), E3.2.2.2.1, bd (ag_is E3.2.1), bd d4]
          refine D2 h0 _ ?_
          rw [rw_12 hs h2] at E4
          exact E4
        · rw [if_neg (show ¬ q_n (sh s).1 = (2 : Int32) from fun z => h2 ((q_nI (l := 2) (by omega) (by omega)).mp z))]
          refine D2 h0 _ ?_
          rw [rw_11 hs h2] at E1
          exact E1)
    (by
      rintro ⟨v1, t⟩ ⟨i1, C⟩
      dsimp only at i1 C
      subst i1
      refine ⟨t, ?_, C⟩
      show f_X4_writeRows_B44 P g (q_n 12) t = _
      unfold f_X4_writeRows_B44
      rw [if_pos (by decide)])
    12 0 ((0 : Int32), σ2) (mpN P) rfl ⟨rfl, C2⟩ (by omega)
  refine ⟨σ3, pv, ?_, C3⟩
  unfold f_X4_writeRows
  rw [bd (ag_pI hG hb _), ← e1, bd e2]
  show (mx_lp (f_X4_writeRows_L44 P g) (mpN P) ((0 : Int32), σ2)).bind _ = _
  rw [bd e3]
end LZS
