/-! ===== iy: linkage ===== -/
section IYS
variable {P : mx_P} {σ σ0 σ1 σ2 τ τ' : mx_S} {x m n t l l' p q a N i k j u v w K c s f : Nat} {r r' : Int32} {bl : List Nat} {e : Option Nat} {T : Nat → Nat → Prop} {ns : List Nat} {A : Nat → Option mx_Sh} {R R' : Nat → Nat → Option Nat}
/-- as Fr, but the references T may have changed -/
def Fw (x : Nat) (T : Nat → Nat → Prop) (ns : List Nat) (σ σ' : mx_S) : Prop := mxA σ' = mxA σ ∧ (∀ q j, ¬ T q j → mxR σ' q j = mxR σ q j) ∧ (∀ i q j, cp x i q j → i ∉ ns → mxI σ' q j = mxI σ q j ∧ mxL σ' q j = mxL σ q j) ∧ mxz σ ≤ mxz σ' ∧ mxz σ' ≤ mxz σ + 1 ∧ mxu σ' ≤ mxu σ + 6 ∧ (mxz σ' = mxz σ → mxu σ' = mxu σ)
theorem Fr.wk (h : Fr x ns σ τ) : Fw x T ns σ τ := ⟨h.1, fun _ _ _ => by rw [h.2.1], h.2.2⟩
/-- references that a call may change -/
def rfS (x q j : Nat) : Prop := (q = x ∧ 6 ≤ j ∧ j ≤ 9) ∨ q = x + 17 ∨ q = x + 50
theorem LyO_cg {al : List (Nat × Nat × Nat)} (h : LyO A R c al a) (e : ∀ k, R' a k = R a k) : LyO A R' c al a := ⟨h.1, fun i k t n hi => ⟨(e k).trans (h.2 i k t n hi).1, (h.2 i k t n hi).2⟩⟩
theorem LyP_cg (h : LyP A R p) (e : ∀ k, R' p k = R p k) : LyP A R' p := by
  obtain ⟨a1, a2, a3, a4⟩ := h
  exact ⟨a1, (e _).trans a2, (e _).trans a3, a4⟩
theorem LyJ_cg (h : LyJ A R j) (e : ∀ q k, j ≤ q → q < j + 16 → R' q k = R q k) : LyJ A R' j := by
  obtain ⟨a1, a2, a3, a4, a5, a6, a7, a8, a9, a10, a11, a12, a13, a14, a15⟩ := h
  have z : ∀ k, R' j k = R j k := fun k => e j k (by omega) (by omega)
  exact ⟨a1, (z _).trans a2, a3, (z _).trans a4, a5, (z _).trans a6, a7, (z _).trans a8, LyP_cg a9 (fun k => e _ k (by omega) (by omega)), (z _).trans a10, LyP_cg a11 (fun k => e _ k (by omega) (by omega)), (z _).trans a12, LyP_cg a13 (fun k => e _ k (by omega) (by omega)), (z _).trans a14, LyP_cg a15 (fun k => e _ k (by omega) (by omega))⟩
theorem LyL_cg (h : LyL A R l) (e : ∀ q k, l ≤ q → q < l + 676 → R' q k = R q k) : LyL A R' l := by
  obtain ⟨a1, a2, a3, a4, a5, a6, a7, a8, a9, a10, a11, b1, b2, b3, b4, b5, b6, b7, b8, b9, b10, b11, b12, c1, c2, c3, c4, c5, c6, c7, c8, c9, c10⟩ := h
  have z : ∀ k, R' l k = R l k := fun k => e l k (by omega) (by omega)
  exact ⟨a1, (z _).trans a2, a3, fun k hk => ⟨(e _ _ (by omega) (by omega)).trans (a4 k hk).1, LyJ_cg (a4 k hk).2 (fun q k' h1 h2 => e q k' (by omega) (by omega))⟩, (z _).trans a5, a6, (z _).trans a7, a8, (z _).trans a9, a10, fun k hk => ⟨(e _ _ (by omega) (by omega)).trans (a11 k hk).1, LyP_cg (a11 k hk).2 (fun k' => e _ k' (by omega) (by omega))⟩, (z _).trans b1, b2, (z _).trans b3, b4, (z _).trans b5, LyP_cg b6 (fun k => e _ k (by omega) (by omega)), (z _).trans b7, LyP_cg b8 (fun k => e _ k (by omega) (by omega)), (z _).trans b9, LyP_cg b10 (fun k => e _ k (by omega) (by omega)), (z _).trans b11, LyP_cg b12 (fun k => e _ k (by omega) (by omega)), (z _).trans c1, c2, (z _).trans c3, c4, (z _).trans c5, c6, (z _).trans c7, c8, (z _).trans c9, c10⟩
theorem LyC_cg (h : LyC A R c) (z : ∀ k, R' c k = R c k) : LyC A R' c := by
  obtain ⟨a1, a2, a3, a4, a5, a6, a7, a8, a9, a10, a11, a12, a13, a14, a15⟩ := h
  exact ⟨a1, (z _).trans a2, a3, (z _).trans a4, a5, (z _).trans a6, a7, (z _).trans a8, a9, (z _).trans a10, a11, (z _).trans a12, a13, (z _).trans a14, a15⟩
theorem LyG_cg (h : LyG A R c) (z : ∀ k, R' c k = R c k) : LyG A R' c := by
  obtain ⟨a1, a2, a3, a4, a5, a6, a7, a8, a9, a10, a11, a12, a13, a14, a15, b2, b3, b4, b5, b6, b7, b8, b9, c1, c2, c3, c4, c5⟩ := h
  exact ⟨a1, (z _).trans a2, a3, (z _).trans a4, a5, (z _).trans a6, a7, (z _).trans a8, a9, (z _).trans a10, a11, (z _).trans a12, a13, (z _).trans a14, a15, (z _).trans b2, b3, (z _).trans b4, b5, (z _).trans b6, b7, (z _).trans b8, b9, (z _).trans c1, c2, (z _).trans c3, c4, c5⟩
theorem LyH_cg (h : LyH A R x) (e : ∀ q j, ¬ rfS x q j → R' q j = R q j) : LyH A R' x := by
  obtain ⟨a1, a2, a3, a4, a5, a6, a7, a8, a9, b1, b2, b3, b4, b5, b6, b7, b8, b9, c1, c2⟩ := h
  have z : ∀ k, k < 6 → R' x k = R x k := fun k hk => e x k (by unfold rfS; omega)
  exact ⟨a1, (z _ (by omega)).trans a2, LyO_cg a3 (fun k => e _ k (by unfold rfS; omega)), (z _ (by omega)).trans a4, LyG_cg a5 (fun k => e _ k (by unfold rfS; omega)), (z _ (by omega)).trans a6, a7, fun p hp => ⟨(e _ _ (by unfold rfS; omega)).trans (a8 p hp).1, LyO_cg (a8 p hp).2 (fun k => e _ k (by unfold rfS; omega))⟩, (z _ (by omega)).trans a9, LyO_cg b1 (fun k => e _ k (by unfold rfS; omega)), (z _ (by omega)).trans b2, LyO_cg b3 (fun k => e _ k (by unfold rfS; omega)), (z _ (by omega)).trans b4, b5, LyL_cg b6 (fun q k h1 h2 => e q k (by unfold rfS; omega)), LyL_cg b7 (fun q k h1 h2 => e q k (by unfold rfS; omega)), LyC_cg b8 (fun k => e _ k (by unfold rfS; omega)), LyC_cg b9 (fun k => e _ k (by unfold rfS; omega)), LyO_cg c1 (fun k => e _ k (by unfold rfS; omega)), c2⟩
def Qw (x : Nat) (σ : mx_S) (l : Option (Int32 × mx_S)) (f : mx_S → Option (Int32 × mx_S)) (T : Nat → Nat → Prop) (ns : List Nat) (Post : mx_S → Prop) : Prop :=
  ∃ k v τ1 τ2, l = some (k, τ1) ∧ f τ1 = some (v, τ2) ∧ mxI τ2 (x + 1497) 0 = k ∧ (k = 0 → mxL τ2 (x + 1575) 0 = v.toInt64) ∧ mxA τ1 = mxA σ ∧ Fw x T ns σ τ2 ∧ Post τ2
theorem cp07 (h : cp x i q j) (h0 : i ≠ 0) (h7 : i ≠ 7) : ¬ (x + 1 ≤ q ∧ q < x + 9) ∧ ¬ (x + 129 ≤ q ∧ q < x + 1481) ∧ q ≠ x + 1575 ∧ ¬ lkG (x + 1497) q j := by
  unfold lkG lkB
  rcases i with _ | _ | _ | _ | _ | _ | _ | _ | i <;> first | exact absurd rfl h0 | exact absurd rfl h7 | exact h.elim | (simp only [cp] at h; omega)
/-- the class's and the reference's outcome are the same -/
theorem Out_m (hC : OutC bl N K e l t r τ) (hR : OutR σ bl N K e m r' τ') : (r = 0 ∧ SpL τ l ∧ mxI τ' m 0 = 1 ∧ mxI τ' m 4 = mxI τ t 2 ∧ mxI τ' m 5 = mxI τ t 3 ∧ Fz (lkB m) σ τ') ∨
    (r = 1 ∧ e = none ∧ r' = q_n K ∧ K ≤ 40 ∧ (mxI τ t 2 = 0 ∧ mxI τ t 3 = 0 ∧ mxI τ l 2 = q_n K) ∧ kT (LKx bl N K) ∧ (∃ M E mk, LZ M l (LKx bl N K) (fun _ => 0) mk E 0 τ) ∧ mxI τ l 10 = 0 ∧ cB τ l K (BTx bl N) ∧ (mxI τ' m 0 = 0 ∧ mxI τ' m 4 = 0 ∧ mxI τ' m 5 = 0) ∧ Fz (lkG m) σ τ' ∧ RK τ' m (LKx bl N K) (fun _ => 0) ∧ rB τ' m K (BTx bl N)) := by
  rcases hC with ⟨q, rfl, c1, c2, c3, c4⟩ | ⟨cq, rfl, hl, c1, c2, c3, c4⟩ | ⟨p, rfl, hl, hK, hp, hno, hall, c1, c2, c3, c4⟩ | ⟨rfl, hl, hK, hall, c1, c2, c3, c4, c5, c6, c7, c8⟩
  · left
    rcases hR with ⟨q', e', d1, d2, d3, d4, d5⟩ | ⟨cq, e', -⟩ | ⟨p, e', -⟩ | ⟨e', -⟩
    · cases e'
      exact ⟨c1, c4, d2, d3.trans c2.symm, d4.trans c3.symm, d5⟩
    · cases e'
    · cases e'
    · cases e'
  · left
    rcases hR with ⟨q', e', -⟩ | ⟨cq', -, hl', d1, d2, d3, d4, d5⟩ | ⟨p, -, hl', -⟩ | ⟨-, hl', -⟩
    · cases e'
    · rw [hl] at hl'
      cases hl'
      exact ⟨c1, c4, d2, d3.trans c2.symm, d4.trans c3.symm, d5⟩
    · rw [hl] at hl'; cases hl'
    · rw [hl] at hl'; cases hl'
  · left
    rcases hR with ⟨q', e', -⟩ | ⟨cq', -, hl', -⟩ | ⟨p', -, hl', hp', hno', hall', d1, d2, d3, d4, d5⟩ | ⟨-, hl', hall', -⟩
    · cases e'
    · rw [hl] at hl'; cases hl'
    · have ep : p = p' := by
        rcases Nat.lt_trichotomy p p' with z | z | z
        · exact absurd (hall' p z) hno
        · exact z
        · exact absurd (hall p' z) hno'
      subst ep
      exact ⟨c1, c4, d2, d3.trans c2.symm, d4.trans c3.symm, d5⟩
    · exact absurd (hall' p hp) hno
  · right
    rcases hR with ⟨q', e', -⟩ | ⟨cq', -, hl', -⟩ | ⟨p', -, hl', hp', hno', -⟩ | ⟨-, hl', hall', d1, d2, d3, d4, d5, d6, d7⟩
    · cases e'
    · rw [hl] at hl'; cases hl'
    · exact absurd (hall p' hp') hno'
    · exact ⟨c1, rfl, d1, hK, ⟨c2, c3, c4⟩, c5, c6, c7, c8, ⟨d2, d3, d4⟩, d5, d6 c5, d7⟩
theorem LB_t (h256 : ∀ b, b ∈ bl → b < 256) (hG : GdT bl N K) : LBok K (BTx bl N) := fun p hp => by
  obtain ⟨hh, hfit, -, -⟩ := gd_h h256 hG hp
  have hn3 : 3 ≤ nT bl N p := (n_6 ⟨_, hh.2.2.1⟩).2
  have k2 : kdA bl (tkT bl N p 0) = 2 := by
    have := hfit 0 (by omega)
    rw [show lT bl N p 0 = 67 from (lf_n ⟨_, hh.2.2.1⟩).2.2.2] at this
    exact fit_2 (Or.inl rfl) this
  have hg : gnm (cnA bl N 0 p) := wd_gnm h256 k2
  exact ⟨⟨show (-1000 : Int) ≤ 0 by decide, show (0 : Int) ≤ 1000 by decide⟩, ⟨show (-1000 : Int) ≤ 0 by decide, show (0 : Int) ≤ 1000 by decide⟩, ⟨show (0 : Int) ≤ 0 by decide, show (0 : Int) ≤ 1000 by decide⟩, hg.1, hg.2.1, hg.2.2⟩
theorem LZ_sp {M : BV} {pl mk : Nat → Nat} {E : Nat → BV} {wy : Nat} {K : LK} (h : LZ M l K pl mk E wy σ) : SpL σ l := by
  obtain ⟨⟨-, -, -, g4, -⟩, ⟨-, -, -, -, -, gE⟩, ⟨⟨-, gM⟩, -⟩, -⟩ := h
  exact ⟨E, pl, gE, fun i hi => ⟨(g4 i hi).1, (g4 i hi).2, gM i hi⟩⟩
theorem g_linkage (hS : St P σ x) (hT : RT x σ) (hL : RL x σ) : Qw x σ (f_L_linkage P x (x + 1575) σ) (fun τ => f_X12_linkage P (x + 1497) τ) (fun q j => q = x ∧ (j = 6 ∨ j = 7)) [0, 7] (fun τ => RT x τ ∧ RL x τ) := by
  obtain ⟨bl, hC, hR, hf1, hf2⟩ := hT
  obtain ⟨l, l', K0, mk, pl, B, hkT, hB, hc, hr⟩ := hL
  obtain ⟨⟨r6, r7, hll⟩, ⟨M, E, wy, hz⟩, hfw, hcB, hSp⟩ := hc
  obtain ⟨hH, hb, hN, hrm⟩ := hS
  have hx := LyH_o hH
  have hTt := LyH_t hH
  have hM := LyH_m hH
  have hbt : mpb P ≤ x + 1 := by omega
  have hbm : mpb P ≤ x + 1497 := by omega
  have hl' : LyL (mxA σ) (mxR σ) l' := by
    rcases hll with ⟨-, rfl⟩ | ⟨-, rfl⟩
    · exact LyH_l2 hH
    · exact LyH_l1 hH
  obtain ⟨K, e, r, τc, hTx, ec, Fc, hO⟩ := c_isr (P := P) (N := 4000) rfl (by omega) hTt hbt hl' (by omega) hC hSp
  obtain ⟨σ1, e1⟩ : ∃ σ1, σ1 = mx_setI τc (x + 1) 1 0 := ⟨_, rfl⟩
  have F1 : Fz (fun q j => isF l' (x + 1) q j ∨ (q = x + 1 ∧ j = 1)) σ σ1 := by
    rw [e1]
    exact (Fc.mo fun _ _ z => Or.inl z).sI (Or.inr ⟨rfl, rfl⟩) _
  have out1 : ∀ q j, ¬ (x + 1 ≤ q ∧ q < x + 9) → ¬ (l' ≤ q ∧ q < l' + 676) → mxI σ1 q j = mxI σ q j ∧ mxL σ1 q j = mxL σ q j := fun q j h1 h2 => F1.2.2.2 q j (fun z => by unfold isF at z; omega)
  have c1c : ∀ q j, l' ≤ q → q < l' + 676 → mxI σ1 q j = mxI τc q j ∧ mxL σ1 q j = mxL τc q j := fun q j h1 h2 => by
    rw [e1]; exact ⟨sI_n (by omega), rfl⟩
  have t1 : mxI σ1 (x + 1) 1 = 0 := by rw [e1]; exact sI_e
  have t2 : mxI σ1 (x + 1) 2 = mxI τc (x + 1) 2 := by rw [e1]; exact sI_n (by omega)
  have t3 : mxI σ1 (x + 1) 3 = mxI τc (x + 1) 3 := by rw [e1]; exact sI_n (by omega)
  have hTR1 : TR σ1 (x + 1497) bl := TR_cg hR (out1 _ _ (by omega) (by omega)).1 (fun k => (out1 _ _ (by omega) (by omega)).1)
  have g7 : mg_R σ x 11 7 = some l' := (q_gR hx).trans r7
  have g0 : mg_R σ x 11 0 = some (x + 1) := (q_gR hx).trans (LyH_r0 hH)
  have gc0 : mg_R τc x 11 0 = some (x + 1) := (q_gR (by rw [Fc.1]; exact hx)).trans (by rw [Fc.2.1]; exact LyH_r0 hH)
  have il : mx_is σ l' 7 = some () := al_is hl'
  have hcl0 : f_X11_linkage P x σ = (if r = 0 then (mx_th P σ1).bind fun σ27 => some (.inl ("java/lang/UnsupportedOperationException", σ27)) else (mg_R σ1 x 11 6).bind fun b15 => (mg_R σ1 x 11 7).bind fun b17 => (mp_R P σ1 x 11 6 b17).bind fun σ19 => (mp_R P σ19 x 11 7 b15).bind fun σ21 => (mg_R σ21 x 11 6).bind fun b23 => (mg_I σ21 b23 7 2).bind fun x25 => some (.inr (x25, σ21))) := by
    unfold f_X11_linkage
    rw [bd g7, bd g0, bd il, bd2 ec, bd gc0, bd (at_pI (Fc.T hTt) hbt _), ← e1]
  by_cases hr0 : r = 0
  · -- refused
    have hrm1 : Rm P σ1 1 6 := by unfold Rm; rw [F1.2.2.1.1, F1.2.2.1.2]; exact hrm
    have hcl : f_X11_linkage P x σ = some (.inl ("java/lang/UnsupportedOperationException", th σ1)) := by
      rw [hcl0, if_pos hr0, bd (k_th hrm1)]
    have hMt : LyM (th σ1) (x + 1497) := F1.M hM
    have hTRt : TR (th σ1) (x + 1497) bl := hTR1
    obtain ⟨K', e', r', τ2, hTx', em, z2, hO'⟩ := r_link (P := P) (N := 4000) rfl (by omega) hbm hMt hTRt
    obtain ⟨rfl, rfl⟩ := Txt_u hTx hTx'
    rcases Out_m hO hO' with ⟨-, hSp', d0, d4, d5, F2⟩ | ⟨h1, -⟩
    · have c2 : ∀ q j, ¬ lkB (x + 1497) q j → mxI τ2 q j = mxI σ1 q j ∧ mxL τ2 q j = mxL σ1 q j := fun q j h => F2.2.2.2 q j h
      refine ⟨1, r', th σ1, τ2, ht_linkage1 hx hcl, em, d0, fun z => absurd z zi10, F1.1, ⟨F2.1.trans F1.1, fun q j _ => by rw [F2.2.1]; show mxR σ1 q j = mxR σ q j; rw [F1.2.1], fun i q j hq hi => ?_, ?_, ?_, ?_, ?_⟩, ⟨[], ⟨Nat.zero_le _, ?_, fun k b hk => (by cases hk)⟩, ⟨Nat.zero_le _, z2, fun k b hk => (by cases hk)⟩, ?_, ?_⟩, l, l', K0, mk, pl, B, hkT, hB, ⟨⟨?_, ?_, hll⟩, ⟨M, E, wy, ?_⟩, ?_, ?_, ?_⟩, ?_⟩
      · have hi' : i ≠ 0 ∧ i ≠ 7 := by simpa using hi
        obtain ⟨a1, a2, a3, a4⟩ := cp07 hq hi'.1 hi'.2
        have b := c2 q j (fun z => a4 (Or.inl z))
        have d := out1 q j a1 (by omega)
        exact ⟨b.1.trans d.1, b.2.trans d.2⟩
      · rw [F2.2.2.1.1]; show mxz σ ≤ mxz σ1 + 1; rw [F1.2.2.1.1]; omega
      · rw [F2.2.2.1.1]; show mxz σ1 + 1 ≤ mxz σ + 1; rw [F1.2.2.1.1]; omega
      · rw [F2.2.2.1.2]; show mxu σ1 + 6 ≤ mxu σ + 6; rw [F1.2.2.1.2]; omega
      · intro z
        rw [F2.2.2.1.1] at z
        have z' : mxz σ1 + 1 = mxz σ := z
        rw [F1.2.2.1.1] at z'
        omega
      · exact (c2 _ _ (by unfold lkB; omega)).1.trans t1
      · exact ((c2 _ _ (by unfold lkB; omega)).1.trans t2).trans d4.symm
      · exact ((c2 _ _ (by unfold lkB; omega)).1.trans t3).trans d5.symm
      · rw [F2.2.1]; show mxR σ1 x 6 = some l; rw [F1.2.1]; exact r6
      · rw [F2.2.1]; show mxR σ1 x 7 = some l'; rw [F1.2.1]; exact r7
      · have cl : ∀ q j, l ≤ q → q < l + 676 → mxI τ2 q j = mxI σ q j ∧ mxL τ2 q j = mxL σ q j := fun q j h1 h2 => by
          have b := c2 q j (by unfold lkB; omega)
          have d := out1 q j (by omega) (by omega)
          exact ⟨b.1.trans d.1, b.2.trans d.2⟩
        exact LZ_rg hkT hz (F2.1.trans F1.1) (fun q j h1 h2 => (cl q j h1 h2).1) (fun q j h1 h2 => (cl q j h1 h2).2)
      · have cl : ∀ q j, l ≤ q → q < l + 676 → mxI τ2 q j = mxI σ q j := fun q j h1 h2 => (c2 q j (by unfold lkB; omega)).1.trans (out1 q j (by omega) (by omega)).1
        rw [cl _ _ (by omega) (by omega)]
        rcases hfw with h | ⟨h1, h2⟩
        · exact Or.inl h
        · exact Or.inr ⟨h1, FW_rg h2 (cl _ _ (by omega) (by omega)) fun j => ⟨cl _ _ (by omega) (by omega), cl _ _ (by omega) (by omega)⟩⟩
      · have hn := hkT.1
        have cl : ∀ q j, l ≤ q → q < l + 676 → mxI τ2 q j = mxI σ q j ∧ mxL τ2 q j = mxL σ q j := fun q j h1 h2 => by
          have b := c2 q j (by unfold lkB; omega)
          have d := out1 q j (by omega) (by omega)
          exact ⟨b.1.trans d.1, b.2.trans d.2⟩
        exact cB_rg hn hcB (fun p hp => ⟨(cl _ _ (by omega) (by omega)).1, (cl _ _ (by omega) (by omega)).1, (cl _ _ (by omega) (by omega)).1, (cl _ _ (by omega) (by omega)).2⟩)
      · have cl : ∀ q j, l' ≤ q → q < l' + 676 → mxI τ2 q j = mxI τc q j ∧ mxL τ2 q j = mxL τc q j := fun q j h1 h2 => by
          have b := c2 q j (by unfold lkB; omega)
          have d := c1c q j h1 h2
          exact ⟨b.1.trans d.1, b.2.trans d.2⟩
        exact SpL_rg hSp' ((F2.1.trans F1.1).trans Fc.1.symm) (fun q j h1 h2 => (cl q j h1 h2).1) (fun q j h1 h2 => (cl q j h1 h2).2)
      · have cl : ∀ q j, x + 1497 + 2 ≤ q → q ≤ x + 1497 + 21 → mxI τ2 q j = mxI σ q j ∧ mxL τ2 q j = mxL σ q j := fun q j h1 h2 => by
          have b := c2 q j (by unfold lkB; omega)
          have d := out1 q j (by omega) (by omega)
          exact ⟨b.1.trans d.1, b.2.trans d.2⟩
        exact RLr_rg hkT hr (fun q j h1 h2 => (cl q j h1 h2).1) (fun q j h1 h2 => (cl q j h1 h2).2) ((c2 _ _ (by unfold lkB; omega)).1.trans (out1 _ _ (by omega) (by omega)).1) ((c2 _ _ (by unfold lkB; omega)).1.trans (out1 _ _ (by omega) (by omega)).1)
    · rw [hr0] at h1; exact absurd h1.symm zi10
  · -- taken
    obtain ⟨σ2, e2⟩ : ∃ σ2, σ2 = mx_setR σ1 x 6 l' := ⟨_, rfl⟩
    obtain ⟨σ3, e3⟩ : ∃ σ3, σ3 = mx_setR σ2 x 7 l := ⟨_, rfl⟩
    obtain ⟨v, hv⟩ : ∃ v, v = (mxI σ3 l' 2).toInt64 := ⟨_, rfl⟩
    obtain ⟨σ4, e4⟩ : ∃ σ4, σ4 = mx_setL σ3 (x + 1575) 0 v := ⟨_, rfl⟩
    have A3 : mxA σ3 = mxA σ := by rw [e3, e2]; exact F1.1
    have I3 : ∀ q j, mxI σ3 q j = mxI σ1 q j := fun q j => by rw [e3, e2]; rfl
    have L3 : ∀ q j, mxL σ3 q j = mxL σ1 q j := fun q j => by rw [e3, e2]; rfl
    have I4 : ∀ q j, mxI σ4 q j = mxI σ1 q j := fun q j => by rw [e4]; exact I3 q j
    have L4 : ∀ q j, q ≠ x + 1575 → mxL σ4 q j = mxL σ1 q j := fun q j h => by rw [e4, sL_n (by omega)]; exact L3 q j
    have R3 : ∀ q j, mxR σ3 q j = if q = x ∧ j = 7 then some l else if q = x ∧ j = 6 then some l' else mxR σ q j := fun q j => by
      rw [e3, q_RR, e2, q_RR, F1.2.1]
    have hcl : f_X11_linkage P x σ = some (.inr (mxI σ3 l' 2, σ3)) := by
      have hx1 : mxA σ1 x = some (.inl 11) := by rw [F1.1]; exact hx
      have hx2 : mxA σ2 x = some (.inl 11) := by rw [e2]; exact hx1
      have hx3 : mxA σ3 x = some (.inl 11) := by rw [A3]; exact hx
      have hl3 : mxA σ3 l' = some (.inl 7) := by rw [A3]; exact hl'.1
      rw [hcl0, if_neg hr0, bd ((q_gR hx1).trans (by rw [F1.2.1]; exact r6)), bd ((q_gR hx1).trans (by rw [F1.2.1]; exact r7)), bd (q_pR hx1 hb _), ← e2, bd (q_pR hx2 hb _), ← e3, bd ((q_gR hx3).trans (show mxR σ3 x 6 = some l' by rw [R3, if_neg (by omega), if_pos ⟨rfl, rfl⟩])), bd (q_gI hl3)]
    have hlo := hr_linkage (o := x + 1575) hx hcl (by rw [A3]; exact LyH_u hH) (by omega)
    rw [← hv, ← e4] at hlo
    have hH4 : LyH (mxA σ4) (mxR σ4) x := by
      rw [show mxA σ4 = mxA σ by rw [e4]; exact A3]
      refine LyH_cg hH (fun q j h => ?_)
      rw [show mxR σ4 q j = mxR σ3 q j by rw [e4]; rfl, R3, if_neg (fun z => h (Or.inl ⟨z.1, by omega, by omega⟩)), if_neg (fun z => h (Or.inl ⟨z.1, by omega, by omega⟩))]
    have hM4 : LyM σ4 (x + 1497) := LyH_m hH4
    have hTR4 : TR σ4 (x + 1497) bl := TR_cg hTR1 (I4 _ _) (fun k => I4 _ _)
    obtain ⟨K', e', r', τ2, hTx', em, z2, hO'⟩ := r_link (P := P) (N := 4000) rfl (by omega) hbm hM4 hTR4
    obtain ⟨rfl, rfl⟩ := Txt_u hTx hTx'
    rcases Out_m hO hO' with ⟨h0, -⟩ | ⟨-, he, hr', hK, ⟨d2, d3, d1⟩, hkT', ⟨M', E', mk', hz'⟩, d10, dB, ⟨m0, m4, m5⟩, F2, hRK, hrB⟩
    · exact absurd h0 hr0
    · have c2 : ∀ q j, ¬ lkG (x + 1497) q j → mxI τ2 q j = mxI σ4 q j ∧ mxL τ2 q j = mxL σ4 q j := fun q j h => F2.2.2.2 q j h
      have A4 : mxA σ4 = mxA σ := by rw [e4]; exact A3
      have S4 : mxz σ4 = mxz σ ∧ mxu σ4 = mxu σ := by rw [e4, e3, e2]; exact F1.2.2.1
      have v4 : mxL σ4 (x + 1575) 0 = v := by rw [e4]; exact sL_e
      have cA : mxA τ2 = mxA σ := F2.1.trans A4
      have R2 : ∀ q j, mxR τ2 q j = if q = x ∧ j = 7 then some l else if q = x ∧ j = 6 then some l' else mxR σ q j := fun q j => by
        rw [F2.2.1, show mxR σ4 q j = mxR σ3 q j by rw [e4]; rfl, R3]
      have cl : ∀ q j, x + 129 ≤ q → q < x + 1481 → mxI τ2 q j = mxI σ1 q j ∧ mxL τ2 q j = mxL σ1 q j := fun q j h1 h2 => by
        have b := c2 q j (by unfold lkG lkB; omega)
        exact ⟨b.1.trans (I4 q j), b.2.trans (L4 q j (by omega))⟩
      have hTS0 : ∀ b, b ∈ bl → b < 256 := fun b hb => by
        obtain ⟨k, hk⟩ := List.getElem?_of_mem hb
        exact (hC.2.2 k b hk).1
      subst he
      refine ⟨0, r', σ4, τ2, hlo, em, m0, fun _ => ?_, A4, ⟨cA, fun q j h => ?_, fun i q j hq hi => ?_, by rw [F2.2.2.1.1, S4.1]; exact Nat.le_refl _, by rw [F2.2.2.1.1, S4.1]; omega, by rw [F2.2.2.1.2, S4.2]; omega, fun _ => by rw [F2.2.2.1.2, S4.2]⟩, ⟨[], ⟨Nat.zero_le _, ?_, fun k b hk => (by cases hk)⟩, ⟨Nat.zero_le _, z2, fun k b hk => (by cases hk)⟩, ?_, ?_⟩, l', l, LKx bl 4000 K, mk', fun _ => 0, BTx bl 4000, hkT', LB_t hTS0 hTx.1, ⟨⟨?_, ?_, ?_⟩, ⟨M', E', 0, ?_⟩, ?_, ?_, ?_⟩, hRK, ?_, hrB⟩
      · rw [(c2 _ _ (by unfold lkG lkB; omega)).2, v4, hv, I3, (c1c _ _ (by omega) (by omega)).1, d1, hr']
      · rw [R2, if_neg (fun z => h ⟨z.1, Or.inr z.2⟩), if_neg (fun z => h ⟨z.1, Or.inl z.2⟩)]
      · have hi' : i ≠ 0 ∧ i ≠ 7 := by simpa using hi
        obtain ⟨a1, a2, a3, a4⟩ := cp07 hq hi'.1 hi'.2
        have b := c2 q j a4
        have d := out1 q j a1 (by omega)
        exact ⟨(b.1.trans (I4 q j)).trans d.1, (b.2.trans (L4 q j a3)).trans d.2⟩
      · exact ((c2 _ _ (by unfold lkG lkB; omega)).1.trans (I4 _ _)).trans t1
      · rw [(c2 _ _ (by unfold lkG lkB; omega)).1, I4, t2, d2, m4]
      · rw [(c2 _ _ (by unfold lkG lkB; omega)).1, I4, t3, d3, m5]
      · rw [R2, if_neg (by omega), if_pos ⟨rfl, rfl⟩]
      · rw [R2, if_pos ⟨rfl, rfl⟩]
      · omega
      · have cc : ∀ q j, l' ≤ q → q < l' + 676 → mxI τ2 q j = mxI τc q j ∧ mxL τ2 q j = mxL τc q j := fun q j h1 h2 => by
          have b := cl q j (by omega) (by omega)
          have d := c1c q j h1 h2
          exact ⟨b.1.trans d.1, b.2.trans d.2⟩
        exact LZ_rg hkT' hz' (cA.trans Fc.1.symm) (fun q j h1 h2 => (cc q j h1 h2).1) (fun q j h1 h2 => (cc q j h1 h2).2)
      · left
        rw [(cl _ _ (by omega) (by omega)).1, (c1c _ _ (by omega) (by omega)).1]; exact d10
      · have cc : ∀ q j, l' ≤ q → q < l' + 676 → mxI τ2 q j = mxI τc q j ∧ mxL τ2 q j = mxL τc q j := fun q j h1 h2 => by
          have b := cl q j (by omega) (by omega)
          have d := c1c q j h1 h2
          exact ⟨b.1.trans d.1, b.2.trans d.2⟩
        exact cB_rg hK dB (fun p hp => ⟨(cc _ _ (by omega) (by omega)).1, (cc _ _ (by omega) (by omega)).1, (cc _ _ (by omega) (by omega)).1, (cc _ _ (by omega) (by omega)).2⟩)
      · have cc : ∀ q j, l ≤ q → q < l + 676 → mxI τ2 q j = mxI σ q j ∧ mxL τ2 q j = mxL σ q j := fun q j h1 h2 => by
          have b := cl q j (by omega) (by omega)
          have d := out1 q j (by omega) (by omega)
          exact ⟨b.1.trans d.1, b.2.trans d.2⟩
        exact SpL_rg (LZ_sp hz) cA (fun q j h1 h2 => (cc q j h1 h2).1) (fun q j h1 h2 => (cc q j h1 h2).2)
      · obtain ⟨-, ⟨E0, hE0⟩, -⟩ := hr
        refine ⟨E0, fun d hd => ?_⟩
        have := hE0 d hd
        have g : ∀ q j, x + 1497 + 2 ≤ q → q ≤ x + 1497 + 4 → mxI τ2 q j = mxI σ q j ∧ mxL τ2 q j = mxL σ q j := fun q j h1 h2 => by
          have b := c2 q j (by unfold lkG lkB; omega)
          have d := out1 q j (by omega) (by omega)
          exact ⟨(b.1.trans (I4 q j)).trans d.1, (b.2.trans (L4 q j (by omega))).trans d.2⟩
        unfold rr at this ⊢
        rw [(g _ _ (by omega) (by omega)).1, (g _ _ (by omega) (by omega)).2, (g _ _ (by omega) (by omega)).2]; exact this
end IYS
