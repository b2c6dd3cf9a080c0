/-! ===== lu: the class divides a row, takes it from the others ===== -/
section LUS
variable {P : mx_P} {σ σ0 σ1 τ : mx_S} {g r k n s a j b : Nat} {π : Nat → Nat} {pv : Nat → Int32} {M M' : MT} {w z : Int × Int} {S : Nat → Nat → Prop} {u v : Int64}
def CX (σ0 σ : mx_S) (g : Nat) : Prop := FG g σ0 σ ∧ LyG (mxA σ) (mxR σ) g ∧ ∃ π, Pm σ g π
theorem CG.X (h : CG σ0 σ g π n pv M) : CX σ0 σ g := ⟨h.1, h.2.1, π, h.2.2.1⟩
theorem g12 (hk : k < 13) : ¬ (12 : Int32) < q_n k := by
  rw [show (12 : Int32) = q_n 12 from rfl, q_nLt (by omega) (by omega)]; omega
theorem g13 : (12 : Int32) < q_n 13 := by decide
theorem c_dvl (hf : 5000 ≤ mpN P) (hb : mpb P ≤ g) (h : CG σ0 σ g π n pv M) (hO : MO n M) (hn : n ≤ 32) (hr : r < n) (hw : OKz w) (hu : B64 u w.1 1000000000000000) (hv : B64 v w.2 1000000000000000) : ∃ ρ, mx_lp (f_X4_isDivided_L50 P g (q_n r) u v) (mpN P) ((0 : Int32), σ) = some ρ ∧ ((∃ τ, ρ = .inl τ ∧ dvL M r w 13 = none ∧ CX σ0 τ g) ∨ ∃ τ M', ρ = .inr τ ∧ dvL M r w 13 = some M' ∧ CG σ0 τ g π n pv M') := by
  refine q_for (f_X4_isDivided_L50 P g (q_n r) u v) (fun k t => t.1 = q_n k ∧ ∃ Mk, dvL M r w k = some Mk ∧ CG σ0 t.2 g π n pv Mk) _ 13 ?_ ?_ 13 0 ((0 : Int32), σ) (mpN P) rfl ⟨rfl, M, rfl, h⟩ (by omega)
  · rintro k ⟨v7, s⟩ hk ⟨i1, Mk, i2, i3⟩
    dsimp only at i1 i3
    subst i1
    have hOk := dvL_O hO hr hw k (by omega) Mk i2
    have hd : dvL M r w (k + 1) = dvS r w k Mk := by show (dvL M r w k).bind _ = _; rw [i2]; rfl
    obtain ⟨s1, e1, f1, F1⟩ := c_rdc (P := P) (a := g + 77) i3.2.1 i3.2.2.1 i3.2.2.2.2.2 hOk hn hr hk (LyG_a17 i3.2.1) (by omega) (Or.inr (by omega))
    have C1 := i3.fz hn F1 fun q j y => by omega
    obtain ⟨s2, e2, F2, f2⟩ := c_mulO (P := P) (a := g + 77) (by omega) (LyG_a17 C1.2.1) (by omega) f1 hu hv hw.1
    have C2 := C1.fz hn F2 fun q j y => by omega
    have body : f_X4_isDivided_B50 P g (q_n r) u v (q_n k) s = (if mxI s2 (g + 77) 2 = 0 then (mx_is s2 g 4).bind fun i41 => (f_X4_writeCell P g (q_n r) (q_n k) s2).bind fun σ43 => (some (q_n k + (1 : Int32))).bind fun x45 => some (.inl (x45, σ43)) else some (.inr (.inl s2))) := by
      unfold f_X4_isDivided_B50
      rw [if_neg (g12 hk), bd (ag_r17 i3.2.1), bd i3.is, bd e1, bd (ag_r17 C1.2.1), bd (q_is (LyG_a17 C1.2.1)), bd e2, bd (ag_r17 C2.2.1), bd (q_gI (LyG_a17 C2.2.1))]
    show (∃ t', f_X4_isDivided_B50 P g (q_n r) u v (q_n k) s = some (.inl t') ∧ _) ∨ ∃ ρ, f_X4_isDivided_B50 P g (q_n r) u v (q_n k) s = some (.inr ρ) ∧ _
    rw [body]
    cases ef : fmul (some (Mk r k)) w.1 w.2 with
    | none =>
      rw [ef] at f2
      right
      rw [if_neg (by rw [f2.2.2.2]; decide)]
      refine ⟨_, rfl, Or.inl ⟨s2, rfl, ?_, C2.X⟩⟩
      refine dv_mo (k := k + 1) (by omega) ?_
      rw [hd]; unfold dvS; rw [ef]; rfl
    | some z =>
      rw [ef] at f2
      left
      obtain ⟨-, -, -, fl, fz⟩ := f2
      rw [if_pos fl, bd C2.is]
      obtain ⟨s3, e3, C3, -⟩ := c_wrc (P := P) C2 hn hb hr hk fz
      rw [bd e3, Option.bind_some, q_nS]
      refine ⟨_, rfl, rfl, mu Mk r k z, ?_, C3⟩
      rw [hd]; unfold dvS; rw [ef]; rfl
  · rintro ⟨v7, s⟩ ⟨i1, Mk, i2, i3⟩
    dsimp only at i1 i3
    subst i1
    refine ⟨.inr s, ?_, Or.inr ⟨s, Mk, rfl, i2, i3⟩⟩
    show f_X4_isDivided_B50 P g (q_n r) u v (q_n 13) s = _
    unfold f_X4_isDivided_B50
    rw [if_pos g13]
theorem l_le0 {u : Int64} {p : Int} (h : u.toInt = p) : 0 ≤ u ↔ 0 ≤ p := by
  rw [Int64.le_iff_toInt_le, h]; rfl
theorem c_div (hf : 5000 ≤ mpN P) (hb : mpb P ≤ g) (h : CG σ0 σ g π n pv M) (hO : MO n M) (hn : n ≤ 32) (hr : r < n) (hs : s < 12) (h0 : (M r s).1 ≠ 0) : ∃ c τ, f_X4_isDivided P g (q_n r) (q_n s) σ = some (c, τ) ∧ ((c = 0 ∧ dvL M r (iv (M r s)) 13 = none ∧ CX σ0 τ g) ∨ (c = 1 ∧ ∃ M', dvL M r (iv (M r s)) 13 = some M' ∧ CG σ0 τ g π n pv M')) := by
  have b1 := h.b1 hO hr (k := s) (by omega)
  have b2 := h.b2 hO hr (k := s) (by omega)
  have hi := iv_O (hO r hr s (by omega)) h0
  have ab : B64 (if 0 ≤ mxL σ (g + 9 + π r) s then mxL σ (g + 9 + π r) s else -mxL σ (g + 9 + π r) s) (iv (M r s)).2 1000000000000000 := by
    refine ⟨?_, hi.2.2.2⟩
    show _ = ((M r s).1.natAbs : Int)
    split
    · rename_i y
      rw [l_le0 b1.1] at y
      rw [b1.1]; omega
    · rename_i y
      rw [l_le0 b1.1] at y
      rw [(b64n b1 (by omega)).1]; omega
  have D : ∀ w0, B64 w0 (iv (M r s)).1 1000000000000000 → ∃ c τ, f_X4_isDivided_D33 P g (q_n r) (q_n s) w0 σ = some (c, τ) ∧ ((c = 0 ∧ dvL M r (iv (M r s)) 13 = none ∧ CX σ0 τ g) ∨ (c = 1 ∧ ∃ M', dvL M r (iv (M r s)) 13 = some M' ∧ CG σ0 τ g π n pv M')) := fun w0 hw0 => by
    unfold f_X4_isDivided_D33
    rw [bd (ag_r10 h.2.1), bd (h.tt (by omega)), bd (h.T (by omega) (by omega)), bd2 (k_absL P _ _)]
    obtain ⟨ρ, e, y⟩ := c_dvl (P := P) hf hb h hO hn hr hi hw0 ab
    rw [bd e]
    rcases y with ⟨τ, rfl, y1, y2⟩ | ⟨τ, M', rfl, y1, y2⟩
    · exact ⟨0, τ, rfl, Or.inl ⟨rfl, y1, y2⟩⟩
    · exact ⟨1, τ, rfl, Or.inr ⟨rfl, M', y1, y2⟩⟩
  unfold f_X4_isDivided
  rw [bd (ag_r10 h.2.1), bd (h.tt (by omega)), bd (h.T (by omega) (by omega))]
  have ivn : (iv (M r s)).1 = if (M r s).1 < 0 then -(M r s).2 else (M r s).2 := rfl
  by_cases y : (M r s).1 < 0
  · rw [if_neg (show ¬ 0 ≤ lg_cmp (mxL σ (g + 9 + π r) s) (0 : Int64) from fun z => by rw [l_nn, b1.1] at z; omega), bd (ag_r11 h.2.1), bd (h.bb (by omega)), bd (h.B (by omega) (by omega))]
    refine D _ ?_
    rw [ivn, if_pos y]
    exact b64n b2 (by omega)
  · rw [if_pos (show 0 ≤ lg_cmp (mxL σ (g + 9 + π r) s) (0 : Int64) from by rw [l_nn, b1.1]; omega), bd (ag_r11 h.2.1), bd (h.bb (by omega)), bd (h.B (by omega) (by omega))]
    refine D _ ?_
    rw [ivn, if_neg y]
    exact b2
theorem FOc.cp {b : Nat} {o : Option (Int × Int)} (h : FOc σ a o) (e0 : mxL τ b 0 = mxL σ a 0) (e1 : mxL τ b 1 = mxL σ a 1) (e2 : mxI τ b 2 = mxI σ a 2) : FOc τ b o := by
  obtain ⟨h1, h2, h3, h4⟩ := h
  refine ⟨by rw [e0]; exact h1, by rw [e1]; exact h2, by rw [e1]; exact h3, ?_⟩
  cases o with
  | none => exact e2.trans h4
  | some z => exact ⟨e2.trans h4.1, by rw [e0]; exact h4.2.1, by rw [e1]; exact h4.2.2⟩
theorem FOc_01 {o : Option (Int × Int)} (h : FOc σ a o) : mxI σ a 2 = 0 ∨ mxI σ a 2 = 1 := by
  cases o with
  | none => exact Or.inr h.2.2.2
  | some z => exact Or.inl h.2.2.2.1
theorem c_tak (hf : 5000 ≤ mpN P) (hb : mpb P ≤ g) (h : CG σ0 σ g π n pv M) (hO : MO n M) (hn : n ≤ 32) (hr : r < n) (hj : j < n) (hs : s < 12) : ∃ c τ, f_X4_isTaken P g (q_n j) (q_n r) (q_n s) σ = some (c, τ) ∧ ((c = 0 ∧ tkL M j r (M j s) 13 = none ∧ CX σ0 τ g) ∨ (c = 1 ∧ ∃ M', tkL M j r (M j s) 13 = some M' ∧ CG σ0 τ g π n pv M')) := by
  obtain ⟨s0, e0, f0, F0⟩ := c_rdc (P := P) (a := g + 75) h.2.1 h.2.2.1 h.2.2.2.2.2 hO hn hj (k := s) (by omega) (LyG_a15 h.2.1) (by omega) (Or.inr (by omega))
  have C0 := h.fz hn F0 fun q j y => by omega
  have hw := hO j hj s (by omega)
  have lp : ∃ ρ, mx_lp (f_X4_isTaken_L13 P g (q_n j) (q_n r)) (mpN P) ((0 : Int32), s0) = some ρ ∧ ((∃ τ, ρ = .inl τ ∧ tkL M j r (M j s) 13 = none ∧ CX σ0 τ g) ∨ ∃ τ M', ρ = .inr τ ∧ tkL M j r (M j s) 13 = some M' ∧ CG σ0 τ g π n pv M') := by
    refine q_for (f_X4_isTaken_L13 P g (q_n j) (q_n r)) (fun k t => t.1 = q_n k ∧ FOc t.2 (g + 75) (some (M j s)) ∧ ∃ Mk, tkL M j r (M j s) k = some Mk ∧ CG σ0 t.2 g π n pv Mk) _ 13 ?_ ?_ 13 0 ((0 : Int32), s0) (mpN P) rfl ⟨rfl, f0, M, rfl, C0⟩ (by omega)
    · rintro k ⟨v7, t⟩ hk ⟨i1, ff, Mk, i2, i3⟩
      dsimp only at i1 ff i3
      subst i1
      have hOk := tkL_O hO hr hj hw k (by omega) Mk i2
      have hd : tkL M j r (M j s) (k + 1) = tkS j r (M j s) k Mk := by show (tkL M j r (M j s) k).bind _ = _; rw [i2]; rfl
      show (∃ t', f_X4_isTaken_B13 P g (q_n j) (q_n r) (q_n k) t = some (.inl t') ∧ _) ∨ ∃ ρ, f_X4_isTaken_B13 P g (q_n j) (q_n r) (q_n k) t = some (.inr ρ) ∧ _
      by_cases y0 : (Mk r k).1 = 0
      · left
        unfold f_X4_isTaken_B13
        rw [if_neg (g12 hk), bd (ag_r10 i3.2.1), bd (i3.tt (by omega)), bd (i3.T (by omega) hk), if_pos ((i3.t0 hr hk).mpr y0)]
        unfold f_X4_isTaken_D132_13
        rw [Option.bind_some, q_nS]
        refine ⟨_, rfl, rfl, ff, Mk, ?_, i3⟩
        rw [hd]; unfold tkS; rw [if_pos y0]
      · have hmr := hOk r hr k hk
        obtain ⟨s1, e1, l0, l1, l2, F1⟩ := c_cpy (P := P) (a := g + 76) (b := g + 75) (LyG_a16 i3.2.1) (LyG_a15 i3.2.1) (by omega) (by omega) (FOc_01 ff)
        have C1 := i3.fz hn F1 fun q j y => by omega
        have f1 : FOc s1 (g + 76) (some (M j s)) := ff.cp l0 l1 l2
        obtain ⟨s2, e2, F2, f2⟩ := c_mulO (P := P) (a := g + 76) (by omega) (LyG_a16 C1.2.1) (by omega) f1 (C1.b1 hOk hr hk) (C1.b2 hOk hr hk) hmr.1
        have C2 := C1.fz hn F2 fun q j y => by omega
        obtain ⟨s3, e3, f3, F3⟩ := c_rdc (P := P) (a := g + 77) C2.2.1 C2.2.2.1 C2.2.2.2.2.2 hOk hn hj hk (LyG_a17 C2.2.1) (by omega) (Or.inr (by omega))
        have C3 := C2.fz hn F3 fun q j y => by omega
        have f2' : FOc s3 (g + 76) (fmul (some (M j s)) (Mk r k).1 (Mk r k).2) := f2.cp (F3.2.2.2 _ _ (by omega)).2 (F3.2.2.2 _ _ (by omega)).2 (F3.2.2.2 _ _ (by omega)).1
        obtain ⟨s4, e4, F4, f4⟩ := c_addO (P := P) (a := g + 77) (w := -mxL s3 (g + 76) 0) (t := mxL s3 (g + 76) 1) (c := -(mxL s3 (g + 76) 0).toInt) (d := (mxL s3 (g + 76) 1).toInt) (by omega) (LyG_a17 C3.2.1) (by omega) f3 (b64n f2'.1 (by omega)) f2'.2.1 f2'.2.2.1
        have C4 := C3.fz hn F4 fun q j y => by omega
        have f2'' : FOc s4 (g + 76) (fmul (some (M j s)) (Mk r k).1 (Mk r k).2) := f2'.cp (F4.2.2.2 _ _ (by omega)).2 (F4.2.2.2 _ _ (by omega)).2 (F4.2.2.2 _ _ (by omega)).1
        have ff4 : FOc s4 (g + 75) (some (M j s)) := (((ff.cp (F1.2.2.2 _ _ (by omega)).2 (F1.2.2.2 _ _ (by omega)).2 (F1.2.2.2 _ _ (by omega)).1).cp (F2.2.2.2 _ _ (by omega)).2 (F2.2.2.2 _ _ (by omega)).2 (F2.2.2.2 _ _ (by omega)).1).cp (F3.2.2.2 _ _ (by omega)).2 (F3.2.2.2 _ _ (by omega)).2 (F3.2.2.2 _ _ (by omega)).1).cp (F4.2.2.2 _ _ (by omega)).2 (F4.2.2.2 _ _ (by omega)).2 (F4.2.2.2 _ _ (by omega)).1
        have body : f_X4_isTaken_B13 P g (q_n j) (q_n r) (q_n k) t = (if mxI s4 (g + 76) 2 = 0 then (mg_R s4 g 4 17).bind fun b68 => (mg_I s4 b68 3 2).bind fun x70 => (if x70 = 0 then (mx_is s4 g 4).bind fun i73 => (f_X4_writeCell P g (q_n j) (q_n k) s4).bind fun σ75 => f_X4_isTaken_D132_13 P g (q_n j) (q_n r) (q_n k) σ75 else some (.inr (.inl s4))) else some (.inr (.inl s4))) := by
          unfold f_X4_isTaken_B13
          rw [if_neg (g12 hk), bd (ag_r10 i3.2.1), bd (i3.tt (by omega)), bd (i3.T (by omega) hk), if_neg (fun z => y0 ((i3.t0 hr hk).mp z)), bd (ag_r16 i3.2.1), bd (ag_r15 i3.2.1), bd (q_is (LyG_a16 i3.2.1)), bd e1, bd (ag_r16 C1.2.1), bd (ag_r10 C1.2.1), bd (C1.tt (by omega)), bd (C1.T (by omega) hk), bd (ag_r11 C1.2.1), bd (C1.bb (by omega)), bd (C1.B (by omega) hk), bd (q_is (LyG_a16 C1.2.1)), bd e2, bd (ag_r17 C2.2.1), bd C2.is, bd e3, bd (ag_r17 C3.2.1), bd (ag_r16 C3.2.1), bd (q_gL (LyG_a16 C3.2.1)), bd (ag_r16 C3.2.1), bd (q_gL (LyG_a16 C3.2.1)), bd (q_is (LyG_a17 C3.2.1)), bd e4, bd (ag_r16 C4.2.1), bd (q_gI (LyG_a16 C4.2.1))]
        rw [body]
        have un : tkS j r (M j s) k Mk = (fmul (some (M j s)) (Mk r k).1 (Mk r k).2).bind fun z => (fadd (some (Mk j k)) (-z.1) z.2).map (mu Mk j k) := by unfold tkS; rw [if_neg y0]
        cases em : fmul (some (M j s)) (Mk r k).1 (Mk r k).2 with
        | none =>
          rw [em] at f2''
          right
          rw [if_neg (by rw [f2''.2.2.2]; decide)]
          refine ⟨_, rfl, Or.inl ⟨s4, rfl, ?_, C4.X⟩⟩
          refine tk_mo (k := k + 1) (by omega) ?_
          rw [hd, un, em]; rfl
        | some z =>
          rw [em] at f2'' f2'
          rw [if_pos f2''.2.2.2.1, bd (ag_r17 C4.2.1), bd (q_gI (LyG_a17 C4.2.1))]
          rw [f2'.2.2.2.2.1, f2'.2.2.2.2.2] at f4
          cases ea : fadd (some (Mk j k)) (-z.1) z.2 with
          | none =>
            rw [ea] at f4
            right
            rw [if_neg (by rw [f4.2.2.2]; decide)]
            refine ⟨_, rfl, Or.inl ⟨s4, rfl, ?_, C4.X⟩⟩
            refine tk_mo (k := k + 1) (by omega) ?_
            rw [hd, un, em]
            show (fadd (some (Mk j k)) (-z.1) z.2).map (mu Mk j k) = none
            rw [ea]; rfl
          | some y =>
            rw [ea] at f4
            left
            obtain ⟨-, -, -, fl, fz⟩ := f4
            rw [if_pos fl, bd C4.is]
            obtain ⟨s5, e5, C5, F5⟩ := c_wrc (P := P) C4 hn hb hj hk fz
            rw [bd e5]
            unfold f_X4_isTaken_D132_13
            rw [Option.bind_some, q_nS]
            refine ⟨_, rfl, rfl, ff4.cp (F5.2.2.2 _ _ (by omega)).2 (F5.2.2.2 _ _ (by omega)).2 (F5.2.2.2 _ _ (by omega)).1, mu Mk j k y, ?_, C5⟩
            rw [hd, un, em]
            show (fadd (some (Mk j k)) (-z.1) z.2).map (mu Mk j k) = _
            rw [ea]; rfl
    · rintro ⟨v7, t⟩ ⟨i1, ff, Mk, i2, i3⟩
      dsimp only at i1 ff i3
      subst i1
      refine ⟨.inr t, ?_, Or.inr ⟨t, Mk, rfl, i2, i3⟩⟩
      show f_X4_isTaken_B13 P g (q_n j) (q_n r) (q_n 13) t = _
      unfold f_X4_isTaken_B13
      rw [if_pos g13]
  obtain ⟨ρ, e, y⟩ := lp
  unfold f_X4_isTaken
  rw [bd (ag_r15 h.2.1), bd h.is, bd e0, bd e]
  rcases y with ⟨τ, rfl, y1, y2⟩ | ⟨τ, M', rfl, y1, y2⟩
  · exact ⟨0, τ, rfl, Or.inl ⟨rfl, y1, y2⟩⟩
  · exact ⟨1, τ, rfl, Or.inr ⟨rfl, M', y1, y2⟩⟩
end LUS
