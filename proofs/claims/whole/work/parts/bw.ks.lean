/-! ===== ks: cams: the laws, the class ===== -/
section KSS
variable {P : mx_P} {σ σ1 τ : mx_S} {a m k c : Nat} {u v w t : Int64} {p q d e : Int} {o : Option (Int × Int)}
def fneg (o : Option (Int × Int)) : Option (Int × Int) := o.map fun z => (-z.1, z.2)
theorem OKf_n (h : OKf o) : OKf (fneg o) := by
  intro z hz
  cases o with
  | none => exact absurd hz (by unfold fneg; simp)
  | some y =>
    obtain ⟨h1, h2, h3, h4⟩ := h y rfl
    obtain rfl := Option.some.inj hz
    refine ⟨h1, ?_, by rw [Int.natAbs_neg]; exact h3, h4⟩
    show Nat.gcd _ _ = 1
    rw [Int.natAbs_neg]; exact h2
/-- law l at p/q -/
def lwO (l : Nat) (p q : Int) : Option (Int × Int) :=
  if l = 1 then some (p, q)
  else if l = 2 then (if 2 * p ≤ q then fpw (some (2, 1)) p q 2 else (fadd (some (-p, q)) 1 1).bind fun z => fadd (fneg (fpw (some (2, 1)) z.1 z.2 2)) 1 1)
  else if l = 3 then fpw (fadd (fpw (fadd (fpw (some (6, 1)) p q 1) (-15) 1) p q 1) 10 1) p q 3
  else fpw (fadd (fpw (fadd (fpw (fadd (fpw (some (-20, 1)) p q 1) 70 1) p q 1) (-84) 1) p q 1) 35 1) p q 4
theorem fadd_s (hq : 1 ≤ q) (hb : p.natAbs + q.natAbs ≤ 1000000000000000) : fadd (some (p, q)) 1 1 = some (fqx p q 1 1 / (gcI (fqx p q 1 1) (fqz q 1) : Int), fqz q 1 / (gcI (fqx p q 1 1) (fqz q 1) : Int)) := by
  have x1 : fqx p q 1 1 = p + q := by unfold fqx; rw [gc_1]; simp
  have o1 : fqo p q 1 1 := by unfold fqo; rw [gc_1]; simp; omega
  unfold fadd
  rw [Option.bind_some]
  exact if_pos ⟨o1, by show (fqx p q 1 1).natAbs ≤ _; rw [x1]; omega⟩
theorem OK1 (n : Int) (h : n.natAbs ≤ 1000000000000000) : OKf (some (n, 1)) := fun z hz => by
  obtain rfl := Option.some.inj hz
  exact ⟨by show (1 : Int) ≤ 1; omega, gc_1 n, h, by show (1 : Int).natAbs ≤ _; decide⟩
theorem OKs (hq : 1 ≤ q) (hg : gcI p q = 1) (h1 : p.natAbs ≤ 1000000000000000) (h2 : q.natAbs ≤ 1000000000000000) : OKf (some (p, q)) := fun z hz => by
  obtain rfl := Option.some.inj hz
  exact ⟨hq, hg, h1, h2⟩
theorem OKf_lw {l : Nat} (hq : 1 ≤ q) (hg : gcI p q = 1) (h1 : p.natAbs ≤ 1000000000) (h2 : q.natAbs ≤ 1000000000) : OKf (lwO l p q) := by
  have ho := OKs hq hg (by omega) (by omega)
  unfold lwO
  split
  · exact ho
  · split
    · split
      · exact OKf_p (OK1 2 (by decide)) hq hg 2
      · rw [fadd_s hq (by omega), Option.bind_some]
        have := OKf_a (c := 1) (d := 1) (OKf_n ho) (by omega)
        have e : fneg (some (p, q)) = some (-p, q) := rfl
        rw [e, fadd_s hq (by omega)] at this
        obtain ⟨k1, k2, -⟩ := this _ rfl
        exact OKf_a (OKf_n (OKf_p (OK1 2 (by decide)) k1 k2 2)) (by omega)
    · split
      · exact OKf_p (OKf_a (OKf_p (OKf_a (OKf_p (OK1 6 (by decide)) hq hg 1) (by omega)) hq hg 1) (by omega)) hq hg 3
      · exact OKf_p (OKf_a (OKf_p (OKf_a (OKf_p (OKf_a (OKf_p (OK1 (-20) (by decide)) hq hg 1) (by omega)) hq hg 1) (by omega)) hq hg 1) (by omega)) hq hg 4
theorem c_setO (hf : 5000 ≤ mpN P) (hA : mxA σ a = some (.inl 3)) (hb : mpb P ≤ a) (hu : B64 u p 1000000000000000) (hv : B64 v q 1000000000000000) (hq : 1 ≤ q) : ∃ τ, f_X3_set P a u v σ = some τ ∧ FOc τ a (some (p / (gcI p q : Int), q / (gcI p q : Int))) ∧ Fz (fun q j => q = a ∧ j ≤ 2) σ τ := by
  obtain ⟨τ, e1, ⟨h0, h1, h2⟩, f⟩ := c_set (P := P) hf hA hb hu hv (by omega) (by omega) (show q ≠ 0 by omega)
  have g := gc_pos (c := p) (d := q) (by omega)
  have e2 : frP p q = p / (gcI p q : Int) := by unfold frP; rw [if_pos (by omega)]
  have e3 : frQ p q = q / (gcI p q : Int) := by unfold frQ; rw [show (q.natAbs : Int) = q by omega]
  rw [e2] at h1
  rw [e3] at h2
  have n1 := dvb g (gc_l (c := p) (d := q))
  have n2 := dvb g (gc_r (c := p) (d := q))
  have k1 := hu.2
  have k2 := hv.2
  refine ⟨τ, e1, ⟨⟨rfl, by rw [h1]; omega⟩, ⟨rfl, by rw [h2]; omega⟩, by rw [h2]; exact dvp g gc_r hq, h0, h1, h2⟩, f⟩
theorem c_set1 (hf : 5000 ≤ mpN P) (hA : mxA σ a = some (.inl 3)) (hb : mpb P ≤ a) (hu : B64 u p 1000000000000000) : ∃ τ, f_X3_set P a u 1 σ = some τ ∧ FOc τ a (some (p, 1)) ∧ Fz (fun q j => q = a ∧ j ≤ 2) σ τ := by
  obtain ⟨τ, e1, h, f⟩ := c_setO (P := P) (v := 1) (q := 1) hf hA hb hu ⟨rfl, by decide⟩ (by omega)
  rw [gc_1] at h
  refine ⟨τ, e1, ?_, f⟩
  have x1 : p / ((1 : Nat) : Int) = p := Int.ediv_one p
  have x2 : (1 : Int) / ((1 : Nat) : Int) = 1 := by decide
  rw [x1, x2] at h
  exact h
theorem FOc.fz {S : Nat → Nat → Prop} (h : FOc σ a o) (f : Fz S σ τ) (hs : ∀ j, ¬ S a j) : FOc τ a o := by
  unfold FOc
  rw [(f.2.2.2 a 0 (hs 0)).2, (f.2.2.2 a 1 (hs 1)).2, (f.2.2.2 a 2 (hs 2)).1]
  exact h
theorem c_ngO (hA : mxA σ a = some (.inl 3)) (hb : mpb P ≤ a) (h : FOc σ a o) : FOc (mx_setL σ a 0 (-(mxL σ a 0))) a (fneg o) := by
  obtain ⟨h1, h2, h3, h4⟩ := h
  have n := b64N h1 (by omega)
  have c0 : mxL (mx_setL σ a 0 (-(mxL σ a 0))) a 0 = -(mxL σ a 0) := sL_e
  have c1 : mxL (mx_setL σ a 0 (-(mxL σ a 0))) a 1 = mxL σ a 1 := sL_n (by omega)
  unfold FOc
  rw [c0, c1, IsL]
  refine ⟨⟨rfl, by rw [n.1]; exact n.2⟩, h2, h3, ?_⟩
  cases o with
  | none => exact h4
  | some z => exact ⟨h4.1, by rw [n.1, h4.2.1], h4.2.2⟩
theorem c_clb (hf : 5000 ≤ mpN P) (hC : LyC (mxA σ) (mxR σ) c) (hb : mpb P ≤ c) (h : FOc σ (c + 7) o) (ht : FOc σ (c + 6) (some (p, q))) (hk : k < 100) : ∃ τ, f_X1_climb P c (q_n k) σ = some τ ∧ Fz (fun q j => q = c + 7 ∧ j ≤ 2) σ τ ∧ FOc τ (c + 7) (fpw o p q k) := by
  obtain ⟨r, e1, h1, h2⟩ := q_for (f_X1_climb_L2 P c (q_n k)) (fun i t => t.1 = q_n i ∧ Fz (fun q j => q = c + 7 ∧ j ≤ 2) σ t.2 ∧ FOc t.2 (c + 7) (fpw o p q i)) (fun r => Fz (fun q j => q = c + 7 ∧ j ≤ 2) σ r ∧ FOc r (c + 7) (fpw o p q k)) k
    (by
      rintro i ⟨v2, s⟩ hi ⟨i2, F, i3⟩
      dsimp only at i2 i3 F
      subst i2
      left
      have Cs := F.C hC
      obtain ⟨t1, t2, t3, t4, t5, t6⟩ := ht.fz F (fun j y => by omega)
      have B0 : B64 (mxL s (c + 6) 0) p 1000000000000000 := by rw [← show (mxL s (c + 6) 0).toInt = p from t5]; exact t1
      have B1 : B64 (mxL s (c + 6) 1) q 1000000000000000 := by rw [← show (mxL s (c + 6) 1).toInt = q from t6]; exact t2
      have q1 : 1 ≤ q := by rw [← show (mxL s (c + 6) 1).toInt = q from t6]; exact t3
      obtain ⟨s1, e1, f1, g1⟩ := c_mulO (P := P) hf (LyC_a7 Cs) (by omega) i3 B0 B1 q1
      show ∃ t', f_X1_climb_B2 P c (q_n k) (q_n i) s = some (.inl t') ∧ _
      unfold f_X1_climb_B2
      rw [if_neg (qn_ge hi (by omega)), bd (ac_r7 Cs), bd (ac_r6 Cs), bd (q_gL (LyC_a6 Cs)), bd (ac_r6 Cs), bd (q_gL (LyC_a6 Cs)), bd (q_is (LyC_a7 Cs)), bd e1, Option.bind_some, q_nS]
      exact ⟨_, rfl, rfl, F.tr f1, g1⟩)
    (by
      rintro ⟨v2, s⟩ ⟨i2, F, i3⟩
      dsimp only at i2 i3 F
      subst i2
      show ∃ r, f_X1_climb_B2 P c (q_n k) (q_n k) s = some (.inr r) ∧ _
      unfold f_X1_climb_B2
      rw [if_pos ((q_nLe (by omega) (by omega)).mpr (Nat.le_refl _))]
      exact ⟨s, rfl, F, i3⟩)
    k 0 ((0 : Int32), σ) (mpN P) (by omega) ⟨rfl, Fz.rf, h⟩ (by omega)
  refine ⟨r, ?_, h1, h2⟩
  unfold f_X1_climb
  rw [bd e1]
def cm67 (c q j : Nat) : Prop := (q = c + 6 ∨ q = c + 7) ∧ j ≤ 2
theorem m67 (q j : Nat) (y : q = c + 7 ∧ j ≤ 2) : cm67 c q j := ⟨Or.inr y.1, y.2⟩
theorem n67 (q j : Nat) (y : q = c + 6 ∧ j ≤ 2) : cm67 c q j := ⟨Or.inl y.1, y.2⟩
theorem c_fif (hf : 5000 ≤ mpN P) (hC : LyC (mxA σ) (mxR σ) c) (hb : mpb P ≤ c) (ht : FOc σ (c + 6) (some (p, q))) : ∃ τ, f_X1_reckonFifth P c σ = some τ ∧ Fz (cm67 c) σ τ ∧ FOc τ (c + 7) (lwO 3 p q) := by
  have nt : ∀ j, ¬ (c + 6 = c + 7 ∧ j ≤ 2) := fun j y => by omega
  have one : B64 (1 : Int64) 1 1000000000000000 := ⟨rfl, by decide⟩
  obtain ⟨s1, e1, g1, f1⟩ := c_set1 (P := P) (u := 6) (p := 6) hf (LyC_a7 hC) (by omega) ⟨rfl, by decide⟩
  have C1 := f1.C hC
  have t1 := ht.fz f1 nt
  obtain ⟨s2, e2, f2, g2⟩ := c_clb (P := P) (k := 1) hf C1 hb g1 t1 (by omega)
  have C2 := f2.C C1
  have t2 := t1.fz f2 nt
  obtain ⟨s3, e3, f3, g3⟩ := c_addO (P := P) (w := -15) (c := -15) hf (LyC_a7 C2) (by omega) g2 ⟨rfl, by decide⟩ one (by omega)
  have C3 := f3.C C2
  have t3 := t2.fz f3 nt
  obtain ⟨s4, e4, f4, g4⟩ := c_clb (P := P) (k := 1) hf C3 hb g3 t3 (by omega)
  have C4 := f4.C C3
  have t4 := t3.fz f4 nt
  obtain ⟨s5, e5, f5, g5⟩ := c_addO (P := P) (w := 10) (c := 10) hf (LyC_a7 C4) (by omega) g4 ⟨rfl, by decide⟩ one (by omega)
  have C5 := f5.C C4
  have t5 := t4.fz f5 nt
  obtain ⟨s6, e6, f6, g6⟩ := c_clb (P := P) (k := 3) hf C5 hb g5 t5 (by omega)
  refine ⟨s6, ?_, (((((f1.tr f2).tr f3).tr f4).tr f5).tr f6).mo m67, ?_⟩
  · unfold f_X1_reckonFifth
    rw [bd (ac_r7 hC), bd (q_is (LyC_a7 hC)), bd e1, bd (ac_is C1)]
    rw [show (1 : Int32) = q_n 1 from rfl, show (3 : Int32) = q_n 3 from rfl]
    rw [bd e2, bd (ac_r7 C2), bd (q_is (LyC_a7 C2)), bd e3, bd (ac_is C3), bd e4, bd (ac_r7 C4), bd (q_is (LyC_a7 C4)), bd e5, bd (ac_is C5), bd e6]
  · exact g6
theorem c_sev (hf : 5000 ≤ mpN P) (hC : LyC (mxA σ) (mxR σ) c) (hb : mpb P ≤ c) (ht : FOc σ (c + 6) (some (p, q))) : ∃ τ, f_X1_reckonSeventh P c σ = some τ ∧ Fz (cm67 c) σ τ ∧ FOc τ (c + 7) (lwO 4 p q) := by
  have nt : ∀ j, ¬ (c + 6 = c + 7 ∧ j ≤ 2) := fun j y => by omega
  have one : B64 (1 : Int64) 1 1000000000000000 := ⟨rfl, by decide⟩
  obtain ⟨s1, e1, g1, f1⟩ := c_set1 (P := P) (u := -20) (p := -20) hf (LyC_a7 hC) (by omega) ⟨rfl, by decide⟩
  have C1 := f1.C hC
  have t1 := ht.fz f1 nt
  obtain ⟨s2, e2, f2, g2⟩ := c_clb (P := P) (k := 1) hf C1 hb g1 t1 (by omega)
  have C2 := f2.C C1
  have t2 := t1.fz f2 nt
  obtain ⟨s3, e3, f3, g3⟩ := c_addO (P := P) (w := 70) (c := 70) hf (LyC_a7 C2) (by omega) g2 ⟨rfl, by decide⟩ one (by omega)
  have C3 := f3.C C2
  have t3 := t2.fz f3 nt
  obtain ⟨s4, e4, f4, g4⟩ := c_clb (P := P) (k := 1) hf C3 hb g3 t3 (by omega)
  have C4 := f4.C C3
  have t4 := t3.fz f4 nt
  obtain ⟨s5, e5, f5, g5⟩ := c_addO (P := P) (w := -84) (c := -84) hf (LyC_a7 C4) (by omega) g4 ⟨rfl, by decide⟩ one (by omega)
  have C5 := f5.C C4
  have t5 := t4.fz f5 nt
  obtain ⟨s6, e6, f6, g6⟩ := c_clb (P := P) (k := 1) hf C5 hb g5 t5 (by omega)
  have C6 := f6.C C5
  have t6 := t5.fz f6 nt
  obtain ⟨s7, e7, f7, g7⟩ := c_addO (P := P) (w := 35) (c := 35) hf (LyC_a7 C6) (by omega) g6 ⟨rfl, by decide⟩ one (by omega)
  have C7 := f7.C C6
  have t7 := t6.fz f7 nt
  obtain ⟨s8, e8, f8, g8⟩ := c_clb (P := P) (k := 4) hf C7 hb g7 t7 (by omega)
  refine ⟨s8, ?_, (((((((f1.tr f2).tr f3).tr f4).tr f5).tr f6).tr f7).tr f8).mo m67, ?_⟩
  · unfold f_X1_reckonSeventh
    rw [bd (ac_r7 hC), bd (q_is (LyC_a7 hC)), bd e1, bd (ac_is C1)]
    rw [show (1 : Int32) = q_n 1 from rfl, show (4 : Int32) = q_n 4 from rfl]
    rw [bd e2, bd (ac_r7 C2), bd (q_is (LyC_a7 C2)), bd e3, bd (ac_is C3), bd e4, bd (ac_r7 C4), bd (q_is (LyC_a7 C4)), bd e5, bd (ac_is C5), bd e6, bd (ac_r7 C6), bd (q_is (LyC_a7 C6)), bd e7, bd (ac_is C7), bd e8]
  · exact g8
theorem c_par (hf : 5000 ≤ mpN P) (hC : LyC (mxA σ) (mxR σ) c) (hb : mpb P ≤ c) (ht : FOc σ (c + 6) (some (p, q))) (h1 : p.natAbs ≤ 1000000000) (h2 : q.natAbs ≤ 1000000000) : ∃ τ, f_X1_reckonParabola P c σ = some τ ∧ Fz (cm67 c) σ τ ∧ FOc τ (c + 7) (lwO 2 p q) := by
  have nt : ∀ j, ¬ (c + 6 = c + 7 ∧ j ≤ 2) := fun j y => by omega
  have one : B64 (1 : Int64) 1 1000000000000000 := ⟨rfl, by decide⟩
  obtain ⟨b1, b2, q1, z0, tp, tq⟩ := id ht
  rw [tp] at b1
  rw [tq] at b2
  have q1' : 1 ≤ q := by rw [← show (mxL σ (c + 6) 1).toInt = q from tq]; exact q1
  have b2p := b64M (show B64 (2 : Int64) 2 2 from ⟨rfl, by decide⟩) (show B64 (mxL σ (c + 6) 0) p 1000000000 from ⟨b1.1, h1⟩) (by omega)
  -- the steps behind the first turn
  have go : ∀ s x y, LyC (mxA s) (mxR s) c → FOc s (c + 6) (some (x, y)) → ∃ s2, Fz (cm67 c) s s2 ∧ FOc s2 (c + 7) (fpw (some (2, 1)) x y 2) ∧ ∀ w0, f_X1_reckonParabola_D56 P c w0 s = (if w0 = 0 then f_X1_reckonParabola_D100 P s2 else (mg_R s2 c 1 7).bind fun b22 => (mg_R s2 c 1 7).bind fun b24 => (mg_L s2 b24 3 0).bind fun x26 => (mp_L P s2 b22 3 0 (-x26)).bind fun σ28 => (mg_R σ28 c 1 7).bind fun b30 => (mx_is σ28 b30 3).bind fun i32 => (f_X3_add P b30 (1 : Int64) (1 : Int64) σ28).bind fun σ34 => f_X1_reckonParabola_D100 P σ34) := fun s x y Cs ts => by
    obtain ⟨s1, e1, g1, f1⟩ := c_set1 (P := P) (u := 2) (p := 2) hf (LyC_a7 Cs) (by omega) ⟨rfl, by decide⟩
    have C1 := f1.C Cs
    obtain ⟨s2, e2, f2, g2⟩ := c_clb (P := P) (k := 2) hf C1 hb g1 (ts.fz f1 nt) (by omega)
    refine ⟨s2, (f1.tr f2).mo m67, g2, fun w0 => ?_⟩
    unfold f_X1_reckonParabola_D56
    rw [bd (ac_r7 Cs), bd (q_is (LyC_a7 Cs)), bd e1, bd (ac_is C1), show (2 : Int32) = q_n 2 from rfl, bd e2]
  unfold f_X1_reckonParabola
  rw [bd (ac_r6 hC), bd (q_gL (LyC_a6 hC)), bd (ac_r6 hC), bd (q_gL (LyC_a6 hC))]
  unfold lwO
  rw [if_neg (show ¬ (2 : Nat) = 1 by decide), if_pos (show (2 : Nat) = 2 from rfl)]
  by_cases late : 2 * p ≤ q
  · rw [if_pos late, if_pos (show lg_cmp ((2 : Int64) * mxL σ (c + 6) 0) (mxL σ (c + 6) 1) ≤ 0 by rw [q_cmp_le, q_lle, b2p.1, tq]; exact late)]
    unfold f_X1_reckonParabola_D27
    obtain ⟨s2, f, g, e⟩ := go σ p q hC ht
    rw [if_pos rfl, e 0, if_pos rfl]
    exact ⟨s2, rfl, f, g⟩
  · rw [if_neg late, if_neg (show ¬ lg_cmp ((2 : Int64) * mxL σ (c + 6) 0) (mxL σ (c + 6) 1) ≤ 0 by rw [q_cmp_le, q_lle, b2p.1, tq]; exact late)]
    unfold f_X1_reckonParabola_D27
    have n1 := c_ngO (P := P) (LyC_a6 hC) (by omega) ht
    obtain ⟨s0, e0⟩ : ∃ s0, s0 = mx_setL σ (c + 6) 0 (-(mxL σ (c + 6) 0)) := ⟨_, rfl⟩
    rw [← e0] at n1
    have f0 : Fz (fun q j => q = c + 6 ∧ j ≤ 2) σ s0 := by rw [e0]; exact Fz.rf.sL ⟨rfl, by omega⟩ _
    have C0 := f0.C hC
    obtain ⟨s1, e1, f1, g1⟩ := c_addO (P := P) (w := 1) (c := 1) hf (LyC_a6 C0) (by omega) n1 one one (by omega)
    have C1 := f1.C C0
    have en : fneg (some (p, q)) = some (-p, q) := rfl
    rw [en] at g1
    rw [if_neg (by decide), bd (ac_r6 hC), bd (ac_r6 hC), bd (q_gL (LyC_a6 hC)), bd (q_pL (LyC_a6 hC) (by omega) _), ← e0, bd (ac_r6 C0), bd (q_is (LyC_a6 C0)), bd e1]
    have hs := fadd_s (p := -p) (q := q) q1' (by omega)
    generalize fadd (some (-p, q)) 1 1 = oo at hs g1 ⊢
    rw [hs] at g1 ⊢
    rw [Option.bind_some]
    obtain ⟨s2, f2, g2, e2⟩ := go s1 _ _ C1 g1
    have C2 := f2.C C1
    have n3 := c_ngO (P := P) (LyC_a7 C2) (by omega) g2
    obtain ⟨s3, e3⟩ : ∃ s3, s3 = mx_setL s2 (c + 7) 0 (-(mxL s2 (c + 7) 0)) := ⟨_, rfl⟩
    rw [← e3] at n3
    have f3 : Fz (fun q j => q = c + 7 ∧ j ≤ 2) s2 s3 := by rw [e3]; exact Fz.rf.sL ⟨rfl, by omega⟩ _
    have C3 := f3.C C2
    obtain ⟨s4, e4, f4, g4⟩ := c_addO (P := P) (w := 1) (c := 1) hf (LyC_a7 C3) (by omega) n3 one one (by omega)
    refine ⟨s4, ?_, ((((f0.mo n67).tr (f1.mo n67)).tr f2).tr (f3.mo m67)).tr (f4.mo m67), g4⟩
    rw [e2 1, if_neg (by decide), bd (ac_r7 C2), bd (ac_r7 C2), bd (q_gL (LyC_a7 C2)), bd (q_pL (LyC_a7 C2) (by omega) _), ← e3, bd (ac_r7 C3), bd (q_is (LyC_a7 C3)), bd e4]
    rfl
end KSS
