/-! ===== mh: turns, both ===== -/
section MHS
variable {P : mx_P} {σ σ0 σ1 τ τ' σ' : mx_S} {s x : Nat} {gs gs' : List (Nat × Nat)} {ms : List (Nat × Nat × Bool × Int32)} {sh : Nat → Nat × Int32 × Int32}
theorem FG.M (h : FG (x + 9) σ τ) (hM : LyM σ (x + 1497)) : LyM τ (x + 1497) := by
  unfold LyM LyO at *
  rw [h.1]
  refine ⟨hM.1, fun i k t l z => ?_⟩
  rw [h.2.1 _ _ (by omega)]
  exact hM.2 i k t l z
theorem FT.M (h : FT x σ τ) (hM : LyM σ (x + 1497)) : LyM τ (x + 1497) := by
  unfold LyM LyO at *
  rw [h.1]
  refine ⟨hM.1, fun i k t l z => ?_⟩
  rw [h.2.1 _ _ (by unfold tgS; omega)]
  exact hM.2 i k t l z
theorem c_trn (hS : St P σ x) (h0 : RG0 σ x gs ms sh) (hC : GC σ (x + 9) gs ms sh) (hs : s < 12) {w : Int32} (hw : w = 0 ∨ w = 1) : ∃ k v τ, f_L_turns P x (q_n s) w (x + 1575) σ = some (k, τ) ∧ TnO gs ms sh s w k v ∧ (k = 0 → mxL τ (x + 1575) 0 = v) ∧ FT x σ τ ∧ GC τ (x + 9) gs ms sh := by
  obtain ⟨hH, hb, hN, hrm⟩ := hS
  have hx := LyH_o hH
  have hn := n32 h0.c
  obtain ⟨v, τ1, e1, o1, F1, C1, v14⟩ := c_oc (P := P) (by omega) (by omega) (LyH_g hH) h0.c hC
  have Rx : ∀ {i}, mxR τ1 x i = mxR σ x i := fun {i} => F1.2.1 x i (by omega)
  have hx1 : mxA τ1 x = some (.inl 11) := by rw [F1.1]; exact hx
  have rm1 : Rm P τ1 1 6 := by unfold Rm; rw [F1.2.2.1.1, F1.2.2.1.2]; exact hrm
  have gr1 : mg_R τ1 x 11 1 = some (x + 9) := (q_gR hx1).trans (Rx.trans (LyH_r1 hH))
  have gr5 : mg_R τ1 x 11 5 = some (x + 128) := (q_gR hx1).trans (Rx.trans (LyH_r5 hH))
  have es : (0 : Int32).toInt ≤ (q_n s).toInt ∧ (q_n s).toInt ≤ (11 : Int32).toInt := by rw [q_nT (by omega), show (0 : Int32).toInt = 0 from rfl, show (11 : Int32).toInt = 11 from rfl]; omega
  have ew : (0 : Int32).toInt ≤ w.toInt ∧ w.toInt ≤ (1 : Int32).toInt := by rcases hw with rfl | rfl <;> exact ⟨by decide, by decide⟩
  have pre : f_X11_turns P x (q_n s) w σ = (if v = (1 : Int32) then f_X11_turns_D29 P x (q_n s) w (1 : Int32) τ1 else f_X11_turns_D29 P x (q_n s) w (0 : Int32) τ1) := by
    unfold f_X11_turns
    rw [bdx (rg_t es σ), bdx (rg_t ew σ), bd (ah_r1 hH), bd (ag_is (LyH_g hH)), bd2 e1]
  by_cases v1 : v = 1
  · rw [if_pos v1] at pre
    obtain ⟨-, hc⟩ := id C1
    rw [v14, v1] at hc
    obtain ⟨T, π, t1, CC⟩ : ∃ T π, rdA gs ms sh = some T ∧ CG τ1 τ1 (x + 9) π (mkM gs ms sh 12).2 T.2.2 T.1 := by
      rcases hc with z | ⟨z, -⟩ | ⟨T, π, z1, z2, -⟩
      · exact absurd z (by decide)
      · exact absurd z (by decide)
      · exact ⟨T, π, z1, z2⟩
    have hO := (rd_O (mk_O h0.c 12 (Nat.le_refl _)) 12 (Nat.le_refl _) T t1)
    have hpv : T.2.2 s = -1 ∨ ∃ r, r < (mkM gs ms sh 12).2 ∧ T.2.2 s = q_n r := by
      rcases pv_r (n := (mkM gs ms sh 12).2) (M := (mkM gs ms sh 12).1) 12 (Nat.le_refl _) T t1 hO.2 s with y | ⟨r, y1, y2⟩
      · exact Or.inl y
      · exact Or.inr ⟨r, by omega, y2⟩
    obtain ⟨c, τ2, e2, F2, y⟩ := c_kn (P := P) (a := x + 128) (by omega) CC hO.1 hn hs hpv (by rw [F1.1]; exact LyH_f hH) (by omega) (Or.inr (by omega))
    have oc1 : OC gs ms sh 1 := by rw [← v1]; exact o1
    rcases y with ⟨rfl, rfl, y⟩ | ⟨rfl, r, r1, r2, r3, ff⟩
    · refine ⟨2, 0, th τ2, ht_turns2 hx ?_, ⟨1, oc1, Or.inr ⟨rfl, T, t1, Or.inl ⟨fun r z => ?_, rfl⟩⟩⟩, fun z => absurd z (by decide), F1.tt, C1.cg hn rfl (fun _ _ _ => rfl) fun _ _ _ => ⟨rfl, rfl⟩⟩
      · rw [pre]
        unfold f_X11_turns_D29
        rw [bdx (nl_1 _), bd gr1, bd gr5, bd (ag_is CC.2.1), bd2 e2, bdxl (np_0 rm1)]
      · rcases y with y | ⟨r', y1, y2, y3⟩
        · exact KNo_m hn y z
        · have : r = r' := (q_nI (by have := z.1; omega) (by omega)).mp (z.2.1.symm.trans y2)
          exact y3 (this ▸ z.2.2)
    · have hx2 : mxA τ2 x = some (.inl 11) := F2.A3 hx1
      have gr52 : mg_R τ2 x 11 5 = some (x + 128) := (q_gR hx2).trans (by rw [F2.2.1]; exact Rx.trans (LyH_r5 hH))
      have A2 : mxA τ2 (x + 128) = some (.inl 3) := F2.A3 (by rw [F1.1]; exact LyH_f hH)
      obtain ⟨rv, hrv⟩ : ∃ rv, rv = if w = 0 then mxL τ2 (x + 128) 0 else mxL τ2 (x + 128) 1 := ⟨_, rfl⟩
      have en : f_X3_number P (x + 128) w τ2 = some (rv, τ2) := by
        unfold f_X3_number f_X3_number_D15
        rw [hrv]
        by_cases w0 : w = 0
        · rw [if_pos w0, if_pos w0, bd (q_gL A2)]
        · rw [if_neg w0, if_neg w0, bd (q_gL A2)]
      have hcl : f_X11_turns P x (q_n s) w σ = some (.inr (rv, τ2)) := by
        rw [pre]
        unfold f_X11_turns_D29
        rw [bdx (nl_1 _), bd gr1, bd gr5, bd (ag_is CC.2.1), bd2 e2, bdx (np_1 _), bd gr52, bd (q_is A2), bd2 en]
      have fv : FT x σ (mx_setL τ2 (x + 1575) 0 rv) := by
        have g := F1.t
        refine ⟨F2.1.trans g.1, fun q j y => ?_, fun q j y => ?_, ?_, ?_, ?_, ?_⟩
        · show mxR τ2 q j = _
          rw [F2.2.1]; exact g.2.1 q j y
        · have a1 := g.2.2.1 q j y
          have a2 := F2.2.2.2 q j (fun z => y (Or.inr (Or.inl z.1)))
          refine ⟨?_, ?_⟩
          · show mxI τ2 q j = _
            exact a2.1.trans a1.1
          · rw [sL_n (by omega)]; exact a2.2.trans a1.2
        · show mxz σ ≤ mxz τ2; rw [F2.2.2.1.1]; exact g.2.2.2.1
        · show mxz τ2 ≤ _; rw [F2.2.2.1.1]; exact g.2.2.2.2.1
        · show mxu τ2 ≤ _; rw [F2.2.2.1.2]; exact g.2.2.2.2.2.1
        · intro z
          have z' : mxz τ2 = mxz σ := z
          show mxu τ2 = _
          rw [F2.2.2.1.1] at z'
          rw [F2.2.2.1.2]; exact g.2.2.2.2.2.2 z'
      refine ⟨0, rv, mx_setL τ2 (x + 1575) 0 rv, hr_turns hx hcl (by rw [F2.1, F1.1]; exact LyH_u hH) (by omega), ⟨1, oc1, Or.inr ⟨rfl, T, t1, Or.inr ⟨rfl, r, ⟨r1, r2, r3⟩, ?_⟩⟩⟩, fun _ => sL_e, fv, C1.cg hn F2.1 (fun q j _ => by show mxR τ2 q j = _; rw [F2.2.1]) fun q j y => ?_⟩
      · rw [hrv]
        by_cases w0 : w = 0
        · rw [if_pos w0, if_pos w0]; exact ff.2.2.2.2.1
        · rw [if_neg w0, if_neg w0]; exact ff.2.2.2.2.2
      · have a2 := F2.2.2.2 q j (fun z => by omega)
        refine ⟨a2.1, ?_⟩
        rw [sL_n (by omega)]; exact a2.2
  · rw [if_neg v1] at pre
    refine ⟨3, 0, th τ1, ht_turns3 hx ?_, ⟨v, o1, Or.inl ⟨v1, rfl⟩⟩, fun z => absurd z (by decide), F1.tt, C1.cg hn rfl (fun _ _ _ => rfl) fun _ _ _ => ⟨rfl, rfl⟩⟩
    rw [pre]
    unfold f_X11_turns_D29
    rw [bdxl (nl_0 rm1)]
theorem g_turns (hS : St P σ x) (h : RGs x σ) (a b : Int32) : Q64w x σ (f_L_turns P x a b (x + 1575) σ) (fun τ => f_X12_turns P (x + 1497) a b τ) (tgS x) [1] (RGs x) := by
  obtain ⟨gs, ms, sh, h0, hC⟩ := h
  have hS' := hS
  obtain ⟨hH, hb, hN, hrm⟩ := hS'
  have hx := LyH_o hH
  have hM := LyH_m hH
  have hn := n32 h0.c
  have bad : f_X11_turns P x a b σ = some (.inl ("java/lang/IllegalArgumentException", th σ)) → f_X12_turns P (x + 1497) a b (th σ) = f_X12_turns_D28 P (x + 1497) a b 1 (x + 1497) (th σ) → Q64w x σ (f_L_turns P x a b (x + 1575) σ) (fun τ => f_X12_turns P (x + 1497) a b τ) (tgS x) [1] (RGs x) := fun h1 h2 => by
    have F0 : FT x σ (th σ) := FG.tt FG.rf
    have Fm : Fz (SRt (x + 1497)) (th σ) (mx_setI (th σ) (x + 1497) 0 (q_n 1)) := Fz.rf.sI (Or.inr ⟨rfl, rfl⟩) _
    have C0 : GC (th σ) (x + 9) gs ms sh := hC.cg hn rfl (fun _ _ _ => rfl) fun _ _ _ => ⟨rfl, rfl⟩
    refine ⟨1, 0, th σ, mx_setI (th σ) (x + 1497) 0 (q_n 1), ht_turns1 hx h1, ?_, sI_e, fun z => absurd z (by decide), rfl, F0.w Fm, gs, ms, sh, (h0.t F0).z Fm, C0.z hn Fm⟩
    show f_X12_turns P (x + 1497) a b (th σ) = _
    rw [h2]
    exact rt_turns_D28 (w := 1) (σ := th σ) hM (by omega) (by omega) (by omega) a b
  have e3 : (0 : Int32).toInt = 0 ∧ (1 : Int32).toInt = 1 ∧ (11 : Int32).toInt = 11 := ⟨rfl, rfl, rfl⟩
  have e4 : (0 : Int64).toInt = 0 ∧ (1 : Int64).toInt = 1 ∧ (11 : Int64).toInt = 11 := ⟨rfl, rfl, rfl⟩
  by_cases ra : 0 ≤ a.toInt ∧ a.toInt ≤ 11
  · by_cases rb : 0 ≤ b.toInt ∧ b.toInt ≤ 1
    · obtain ⟨s, hs, rfl⟩ : ∃ s, s < 12 ∧ a = q_n s := ⟨a.toInt.toNat, by omega, q_ofT (by omega)⟩
      have hw : b = 0 ∨ b = 1 := by
        obtain ⟨i, hi, rfl⟩ : ∃ i, i < 2 ∧ b = q_n i := ⟨b.toInt.toNat, by omega, q_ofT rb.1⟩
        obtain rfl | rfl : i = 0 ∨ i = 1 := by omega
        · exact Or.inl rfl
        · exact Or.inr rfl
      obtain ⟨k, v, τ1, e1, t1, o1, F1, C1⟩ := c_trn (P := P) hS h0 hC hs hw
      have R1 := h0.t F1
      obtain ⟨v', τ2, e2, F2, t2⟩ := r_trn (P := P) (by omega) (by omega) (F1.M hM) R1.rr hs b
      obtain ⟨kk, vv⟩ := TnO_u hn t1 t2
      refine ⟨k, v', τ1, τ2, e1, ?_, kk.symm, fun z => ?_, F1.1, F1.w F2, gs, ms, sh, R1.z F2, C1.z hn F2⟩
      · show f_X12_turns P (x + 1497) (q_n s) b τ1 = _
        unfold f_X12_turns
        rw [bd2 (in_t (by rw [e4.1, e4.2.2]; exact ra) τ1), if_neg zi10, bd2 (in_t (by rw [e4.1, e4.2.1]; exact rb) τ1), if_neg zi10, e2]
      · rw [(F2.2.2.2 _ _ (by unfold SRt SRo; omega)).2, o1 z]
        exact vv z
    · refine bad ?_ ?_
      · unfold f_X11_turns
        rw [bdx (rg_t (by rw [e3.1, e3.2.2]; exact ra) σ), bdxl (rg_f (by rw [e3.1, e3.2.1]; exact rb) hrm)]
      · unfold f_X12_turns f_X12_turns_D27
        rw [bd2 (in_t (by rw [e4.1, e4.2.2]; exact ra) _), if_neg zi10, bd2 (in_f (by rw [e4.1, e4.2.1]; exact rb) _), if_pos rfl]
  · refine bad ?_ ?_
    · unfold f_X11_turns
      rw [bdxl (rg_f (by rw [e3.1, e3.2.2]; exact ra) hrm)]
    · unfold f_X12_turns f_X12_turns_D27
      rw [bd2 (in_f (by rw [e4.1, e4.2.2]; exact ra) _), if_pos rfl]
end MHS
