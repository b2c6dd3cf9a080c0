/-! ===== mc: the reference writes all rows ===== -/
section MCS
variable {P : mx_P} {σ σ0 σ1 τ : mx_S} {m r k n s a j b l N L q : Nat} {pv : Nat → Int32} {M M' : MT} {R R' : Nat → Int × Int} {w z : Int × Int} {d : Int} {S : Nat → Nat → Prop} {u v : Int64} {gs : List (Nat × Nat)} {ms : List (Nat × Nat × Bool × Int32)} {sh : Nat → Nat × Int32 × Int32}
def RGr (σ : mx_S) (m : Nat) (gs : List (Nat × Nat)) (ms : List (Nat × Nat × Bool × Int32)) (sh : Nat → Nat × Int32 × Int32) : Prop :=
  (gs.length ≤ 24 ∧ ∀ j, j < gs.length → mxI σ (m + 36) j = q_n (gz gs j).1 ∧ mxI σ (m + 37) j = q_n (gz gs j).2 ∧ (gz gs j).1 ≤ 2000 ∧ (gz gs j).2 < 12) ∧
  (mxI σ m 60 = q_n ms.length ∧ ms.length ≤ 20 ∧ ∀ j, j < ms.length → (mxI σ (m + 38) j = q_n (ms.getD j (0, 0, false, 0)).1 ∧ mxI σ (m + 39) j = q_n (ms.getD j (0, 0, false, 0)).2.1 ∧ mxI σ (m + 40) j = (ms.getD j (0, 0, false, 0)).2.2.2 ∧ mxI σ (m + 41) j = (if (ms.getD j (0, 0, false, 0)).2.2.1 then 1 else 0)) ∧ (ms.getD j (0, 0, false, 0)).1 < gs.length ∧ (ms.getD j (0, 0, false, 0)).2.1 < gs.length ∧ -1 ≤ (ms.getD j (0, 0, false, 0)).2.2.2.toInt ∧ (ms.getD j (0, 0, false, 0)).2.2.2.toInt ≤ 11) ∧
  ∀ s, s < 12 → mxI σ (m + 42) s = q_n (sh s).1 ∧ (sh s).1 ≤ 2 ∧ ((sh s).1 = 2 → mxI σ (m + 43) s = (sh s).2.1 ∧ mxI σ (m + 44) s = (sh s).2.2 ∧ -1000 ≤ (sh s).2.1.toInt ∧ (sh s).2.1.toInt ≤ 1000 ∧ 1 ≤ (sh s).2.2.toInt ∧ (sh s).2.2.toInt ≤ 1000)
theorem RGr.fz (h : RGr σ m gs ms sh) (f : Fz (SRo m) σ τ) : RGr τ m gs ms sh := by
  obtain ⟨⟨a1, a2⟩, ⟨b1, b2, b3⟩, c⟩ := h
  have e : ∀ q j, ¬ SRo m q j → mxI τ q j = mxI σ q j := fun q j y => (f.2.2.2 q j y).1
  refine ⟨⟨a1, fun j hj => ?_⟩, ⟨?_, b2, fun j hj => ?_⟩, fun s hs => ?_⟩
  · rw [e (m + 36) j (by unfold SRo; omega), e (m + 37) j (by unfold SRo; omega)]; exact a2 j hj
  · rw [e m 60 (by unfold SRo; omega)]; exact b1
  · rw [e (m + 38) j (by unfold SRo; omega), e (m + 39) j (by unfold SRo; omega), e (m + 40) j (by unfold SRo; omega), e (m + 41) j (by unfold SRo; omega)]; exact b3 j hj
  · rw [e (m + 42) s (by unfold SRo; omega), e (m + 43) s (by unfold SRo; omega), e (m + 44) s (by unfold SRo; omega)]; exact c s hs
theorem CRo.inc (h : CRo σ0 σ m n N L pv (rU M r R)) (hr : r < N) (hk : k < 13) (hv : v.toInt = (R k).1 + d) : CRo σ0 (mx_setL σ (m + 45) (13 * r + k) v) m n N L pv (rU M r (inc R k d)) := by
  refine (h.sT hr hk v).cg fun i hi l hl => ?_
  by_cases y : i = r
  · subst y
    rw [rU_e]
    unfold Jvm.Pilot.CMechanismHouseLaw_law_r6572_d82dc7.inc
    by_cases yl : l = k
    · subst yl
      rw [if_pos rfl, mu_e, rU_e, hv]
    · rw [if_neg yl, mu_n (by omega), rU_e]
  · rw [rU_n y, mu_n (by omega), rU_n y]
theorem CRo.row (h : CRo σ0 σ m n N L pv (rU M r R)) (hr : r < N) (hk : k < 13) : (mxL σ (m + 45) (13 * r + k)).toInt = (R k).1 := by
  have := (h.2.2.2.2 r hr k hk).1
  rw [rU_e] at this
  exact this
theorem r_ms (hb : mpb P ≤ m) (h : CRo σ0 σ m (j + 1) (j + 1) L pv (rU M j rE)) (hj : j < ms.length) (hR : RGr σ0 m gs ms sh) {ub : Int64} (hub : B64 ub (gsg (ms.getD j (0, 0, false, 0)).2.2.1 (gz gs (ms.getD j (0, 0, false, 0)).2.1).1) 2000) : ∃ τ, f_X12_makeRows_D79_7 P m (q_n j) (q_n (13 * j)) ((q_n (gz gs (ms.getD j (0, 0, false, 0)).1).1).toInt64) ub σ = some (.inl (q_n (j + 1), τ)) ∧ CRo σ0 τ m (j + 1) (j + 1) L pv (rU M j (rowM gs (ms.getD j (0, 0, false, 0)))) ∧ mxI τ m 10 = mxI σ m 10 := by
  obtain ⟨e, he⟩ : ∃ e, e = ms.getD j (0, 0, false, 0) := ⟨_, rfl⟩
  rw [← he] at hub ⊢
  have facts : ∀ {τ M'}, CRo σ0 τ m (j + 1) (j + 1) L pv M' → (mxI τ (m + 38) j = q_n e.1 ∧ mxI τ (m + 39) j = q_n e.2.1 ∧ mxI τ (m + 40) j = e.2.2.2) ∧ mxI τ (m + 37) e.1 = q_n (gz gs e.1).2 ∧ mxI τ (m + 37) e.2.1 = q_n (gz gs e.2.1).2 := fun {τ M'} y => by
    obtain ⟨⟨a1, a2⟩, ⟨b1, b2, b3⟩, c⟩ := hR.fz y.1
    obtain ⟨⟨b4, b9, b8, -⟩, b5, b6, b7⟩ := b3 j hj
    rw [← he] at b4 b5 b6 b8 b9
    exact ⟨⟨b4, b9, b8⟩, (a2 _ b5).2.1, (a2 _ b6).2.1⟩
  obtain ⟨⟨a1, a2⟩, ⟨b1, b2, b3⟩, c⟩ := hR
  obtain ⟨-, b5, b6, b7, b8⟩ := b3 j hj
  rw [← he] at b5 b6 b7 b8
  obtain ⟨-, -, za, sa⟩ := a2 _ b5
  obtain ⟨-, -, zb, sb⟩ := a2 _ b6
  obtain ⟨ua, hua⟩ : ∃ ua : Int64, ua = (q_n (gz gs e.1).1).toInt64 := ⟨_, rfl⟩
  have Ba : B64 ua ((gz gs e.1).1 : Int) 2000 := by rw [hua, q_nL (by omega)]; exact ⟨l_nT (by omega), by omega⟩
  rw [← hua]
  have r0 := h.row (k := (gz gs e.1).2) (by omega) (by omega)
  have B0 : B64 (mxL σ (m + 45) (13 * j + (gz gs e.1).2)) 0 0 := ⟨r0, by decide⟩
  obtain ⟨s1, e1⟩ : ∃ s1, s1 = mx_setL σ (m + 45) (13 * j + (gz gs e.1).2) (mxL σ (m + 45) (13 * j + (gz gs e.1).2) + ua) := ⟨_, rfl⟩
  have C1 : CRo σ0 s1 m (j + 1) (j + 1) L pv (rU M j (inc rE (gz gs e.1).2 (gz gs e.1).1)) := by
    rw [e1]; exact h.inc (by omega) (by omega) ((b64A B0 Ba (by omega)).1.trans (by rw [rE_i]))
  have r1 := C1.row (k := (gz gs e.2.1).2) (by omega) (by omega)
  have k1 := inc_b (k := (gz gs e.1).2) (d := ((gz gs e.1).1 : Int)) (show (rE (gz gs e.2.1).2).1.natAbs ≤ 0 from Nat.le_refl _)
  have B1 : B64 (mxL s1 (m + 45) (13 * j + (gz gs e.2.1).2)) (inc rE (gz gs e.1).2 (gz gs e.1).1 (gz gs e.2.1).2).1 2000 := ⟨r1, by omega⟩
  obtain ⟨s2, e2⟩ : ∃ s2, s2 = mx_setL s1 (m + 45) (13 * j + (gz gs e.2.1).2) (mxL s1 (m + 45) (13 * j + (gz gs e.2.1).2) + ub) := ⟨_, rfl⟩
  have C2 : CRo σ0 s2 m (j + 1) (j + 1) L pv (rU M j (inc (inc rE (gz gs e.1).2 (gz gs e.1).1) (gz gs e.2.1).2 (gsg e.2.2.1 (gz gs e.2.1).1))) := by
    rw [e2]; exact C1.inc (by omega) (by omega) (b64A B1 hub (by omega)).1
  obtain ⟨f1, f2, f3⟩ := facts h
  obtain ⟨g1, g2, g3⟩ := facts C1
  obtain ⟨h1, h2, h3⟩ := facts C2
  have j20 : j < 20 := by omega
  have I1 : mxI s1 m 10 = mxI σ m 10 := by rw [e1]; rfl
  have I2 : mxI s2 m 10 = mxI σ m 10 := by rw [e2]; exact I1
  have body : f_X12_makeRows_D79_7 P m (q_n j) (q_n (13 * j)) ua ub σ = (if e.2.2.2 < 0 then f_X12_makeRows_D155_7 P m (q_n j) s2 else (mg_R s2 m 12 69).bind fun b72 => (mg_R s2 m 12 63).bind fun b74 => (ma_I s2 b74 0 (q_n j)).bind fun x76 => (ma_L s2 b72 1 (q_n (13 * j) + x76)).bind fun x78 => (ms_L P s2 b72 1 (q_n (13 * j) + x76) (x78 - (ua + ub))).bind fun σ80 => f_X12_makeRows_D155_7 P m (q_n j) σ80) := by
    unfold f_X12_makeRows_D79_7
    rw [bd (am_r69 h.2.1), bd (am_r59 h.2.1), bd (am_r61 h.2.1), bd (am_g61 h.2.1 j20), f1.1, bd (am_g59 h.2.1 (by omega)), f2, q_nA, bd (am_g69 h.2.1 (by omega)), bd (am_s69 h.2.1 hb (by omega) _), ← e1, bd (am_r69 C1.2.1), bd (am_r59 C1.2.1), bd (am_r62 C1.2.1), bd (am_g62 C1.2.1 j20), g1.2.1, bd (am_g59 C1.2.1 (by omega)), g3, q_nA, bd (am_g69 C1.2.1 (by omega)), bd (am_s69 C1.2.1 hb (by omega) _), ← e2, bd (am_r63 C2.2.1), bd (am_g63 C2.2.1 j20), h1.2.2]
  rw [body]
  unfold f_X12_makeRows_D155_7 rowM
  by_cases y : e.2.2.2 < 0
  · rw [if_pos y, if_pos y, Option.bind_some, q_nS]
    exact ⟨s2, rfl, C2, I2⟩
  · rw [if_neg y, if_neg y]
    have y0 : 0 ≤ e.2.2.2.toInt := by
      rw [Int32.lt_iff_toInt_lt] at y
      have : (0 : Int32).toInt = 0 := rfl
      omega
    have ea := q_ofT (i := e.2.2.2) (by omega)
    obtain ⟨t, ht⟩ : ∃ t, t = e.2.2.2.toInt.toNat := ⟨_, rfl⟩
    rw [← ht] at ea ⊢
    have t12 : t < 12 := by omega
    have r2 := C2.row (k := t) (by omega) (by omega)
    have k2 := inc_b (k := (gz gs e.2.1).2) (d := gsg e.2.2.1 (gz gs e.2.1).1) (inc_b (k := (gz gs e.1).2) (d := ((gz gs e.1).1 : Int)) (show (rE t).1.natAbs ≤ 0 from Nat.le_refl _))
    rw [gsg_b] at k2
    have B2 : B64 (mxL s2 (m + 45) (13 * j + t)) (Jvm.Pilot.CMechanismHouseLaw_law_r6572_d82dc7.inc (Jvm.Pilot.CMechanismHouseLaw_law_r6572_d82dc7.inc rE (gz gs e.1).2 (gz gs e.1).1) (gz gs e.2.1).2 (gsg e.2.2.1 (gz gs e.2.1).1) t).1 4000 := ⟨r2, by omega⟩
    have B3 := b64S B2 (b64A Ba hub (by omega)) (by omega)
    rw [bd (am_r69 C2.2.1), bd (am_r63 C2.2.1), bd (am_g63 C2.2.1 j20), h1.2.2, ea, q_nA, bd (am_g69 C2.2.1 (by omega)), bd (am_s69 C2.2.1 hb (by omega) _), Option.bind_some, q_nS]
    exact ⟨_, rfl, C2.inc (by omega) (by omega) (B3.1.trans (by omega)), I2⟩
theorem ng64 {y : Nat} (hy : y ≤ 2000) : ((-q_n y).toInt64).toInt = -(y : Int) := by
  rw [Int32.toInt_toInt64, Int32.toInt_neg, q_nT (by omega)]
  exact Int.bmod_eq_of_le (by omega) (by omega)
theorem r_mk (hf : 5000 ≤ mpN P) (hb : mpb P ≤ m) (hM : LyM σ m) (hF : Fz (SRo m) σ0 σ) (hR : RGr σ0 m gs ms sh) (h10 : mxI σ m 10 = 0) : ∃ τ, f_X12_makeRows P m σ = some τ ∧ CRo σ0 τ m (mkM gs ms sh 12).2 (mkM gs ms sh 12).2 0 (fun _ => -1) (mkM gs ms sh 12).1 ∧ mxI τ m 10 = 0 := by
  obtain ⟨σ1, e1⟩ : ∃ σ1, σ1 = mx_setI σ m 68 0 := ⟨_, rfl⟩
  have C0 : CRo σ0 σ1 m 0 0 0 (fun _ => -1) (meM gs ms 0) := by
    rw [e1]
    exact ⟨hF.sI (Or.inl ⟨rfl, by omega⟩) _, hM, sI_e, fun i hi => absurd hi (by omega), fun r hr => absurd hr (by omega)⟩
  have I0 : mxI σ1 m 10 = 0 := by rw [e1]; exact (sI_n (by omega)).trans h10
  have b2 := hR.2.1.2.1
  obtain ⟨σ2, e2, C2, I2⟩ := q_for (f_X12_makeRows_L7 P m) (fun j t => t.1 = q_n j ∧ CRo σ0 t.2 m j j 0 (fun _ => -1) (meM gs ms j) ∧ mxI t.2 m 10 = 0) (fun t => CRo σ0 t m ms.length ms.length 0 (fun _ => -1) (meM gs ms ms.length) ∧ mxI t m 10 = 0) ms.length
    (by
      rintro j ⟨v1, t⟩ hj ⟨i1, C, I⟩
      dsimp only at i1 C I
      subst i1
      left
      show ∃ t', f_X12_makeRows_B7 P m (q_n j) t = some (.inl t') ∧ _
      obtain ⟨t1, d1, D1, I1⟩ := r_emp (P := P) hf hb C (by omega)
      obtain ⟨⟨a1, a2⟩, ⟨b1, -, b3⟩, c⟩ := hR.fz C.1
      obtain ⟨⟨a1', a2'⟩, ⟨-, -, b3'⟩, c'⟩ := hR.fz D1.1
      obtain ⟨⟨b4, b9, b8, b11⟩, b5, b6, b7⟩ := b3' j hj
      obtain ⟨z1, -, z2, -⟩ := a2' _ b5
      obtain ⟨y1, -, y2, -⟩ := a2' _ b6
      unfold f_X12_makeRows_B7
      rw [bd (am_gI C.2.1), b1, if_neg (qn_ge hj (by omega)), bd (am_is C.2.1), bd d1, bd (am_gI D1.2.1), D1.2.2.1, q_n1 j (by omega), show (13 : Int32) * q_n j = q_n (13 * j) from q_nM 13 j, Option.bind_some, bd (am_r58 D1.2.1), bd (am_r61 D1.2.1), bd (am_g61 D1.2.1 (by omega)), b4, bd (am_g58 D1.2.1 (by omega)), z1, Option.bind_some, bd (am_r64 D1.2.1), bd (am_g64 D1.2.1 (by omega)), b11]
      cases hc : (ms.getD j (0, 0, false, 0)).2.2.1 with
      | false =>
        rw [show (if false = true then (1 : Int32) else 0) = 0 from rfl, if_pos rfl, bd (am_r58 D1.2.1), bd (am_r62 D1.2.1), bd (am_g62 D1.2.1 (by omega)), b9, bd (am_g58 D1.2.1 (by omega)), y1]
        obtain ⟨t2, d2, D2, I2⟩ := r_ms (P := P) (ub := (q_n (gz gs (ms.getD j (0, 0, false, 0)).2.1).1).toInt64) hb D1 hj hR (by
          rw [hc, q_nL (by omega)]
          unfold gsg
          rw [if_neg (by simp)]
          exact ⟨l_nT (by omega), by omega⟩)
        exact ⟨_, d2, rfl, D2, I2.trans (I1.trans I)⟩
      | true =>
        rw [show (if true = true then (1 : Int32) else 0) = 1 from rfl, if_neg (by decide), bd (am_r58 D1.2.1), bd (am_r62 D1.2.1), bd (am_g62 D1.2.1 (by omega)), b9, bd (am_g58 D1.2.1 (by omega)), y1]
        obtain ⟨t2, d2, D2, I2⟩ := r_ms (P := P) (ub := (-q_n (gz gs (ms.getD j (0, 0, false, 0)).2.1).1).toInt64) hb D1 hj hR (by
          rw [hc]
          unfold gsg
          rw [if_pos rfl]
          exact ⟨ng64 y2, by omega⟩)
        exact ⟨_, d2, rfl, D2, I2.trans (I1.trans I)⟩)
    (by
      rintro ⟨v1, t⟩ ⟨i1, C, I⟩
      dsimp only at i1 C I
      subst i1
      refine ⟨t, ?_, C, I⟩
      show f_X12_makeRows_B7 P m (q_n ms.length) t = _
      unfold f_X12_makeRows_B7
      rw [bd (am_gI C.2.1), (hR.fz C.1).2.1.1, if_pos ((q_nLe (by omega) (by omega)).mpr (Nat.le_refl _))])
    ms.length 0 ((0 : Int32), σ1) (mpN P) (by omega) ⟨rfl, C0, I0⟩ (by omega)
  obtain ⟨σ3, e3, C3, I3⟩ := q_for (f_X12_makeRows_L163 P m) (fun s t => t.1 = q_n s ∧ CRo σ0 t.2 m (mkM gs ms sh s).2 (mkM gs ms sh s).2 0 (fun _ => -1) (mkM gs ms sh s).1 ∧ mxI t.2 m 10 = 0) (fun t => CRo σ0 t m (mkM gs ms sh 12).2 (mkM gs ms sh 12).2 0 (fun _ => -1) (mkM gs ms sh 12).1 ∧ mxI t m 10 = 0) 12
    (by
      rintro s ⟨v1, t⟩ hs ⟨i1, C, I⟩
      dsimp only at i1 C I
      subst i1
      left
      obtain ⟨c1, c2, c3⟩ := (hR.fz C.1).2.2 s hs
      have hn : (mkM gs ms sh s).2 < 32 := by have := mk_le (gs := gs) (ms := ms) (sh := sh) s; omega
      show ∃ t', f_X12_makeRows_B163 P m (q_n s) t = some (.inl t') ∧ _
      unfold f_X12_makeRows_B163
      rw [if_neg (by rw [show (12 : Int32) = q_n 12 from rfl]; exact qn_ge hs (by omega)), bd (am_r65 C.2.1), bd (am_g65 C.2.1 hs), c1]
      by_cases h0 : (sh s).1 = 0
      · rw [if_pos (by rw [h0]; rfl)]
        unfold f_X12_makeRows_D290_163
        rw [Option.bind_some, q_nS]
        refine ⟨_, rfl, rfl, ?_, I⟩
        rw [mk_s1 h0]; exact C
      · obtain ⟨t1, d1, D1, I1⟩ := r_emp (P := P) hf hb C hn
        obtain ⟨t2, d2⟩ : ∃ t2, t2 = mx_setL t1 (m + 45) (13 * (mkM gs ms sh s).2 + s) 1 := ⟨_, rfl⟩
        have D2 : CRo σ0 t2 m ((mkM gs ms sh s).2 + 1) ((mkM gs ms sh s).2 + 1) 0 (fun _ => -1) (rU (mkM gs ms sh s).1 (mkM gs ms sh s).2 (inc rE s 1)) := by
          rw [d2]; exact D1.inc (by omega) (by omega) rfl
        have I2 : mxI t2 m 10 = 0 := by rw [d2]; exact I1.trans I
        obtain ⟨k1, k2, k3⟩ := (hR.fz D2.1).2.2 s hs
        rw [if_neg (q_nne (by omega) (by omega)), bd (am_is C.2.1), bd d1, bd (am_r69 D1.2.1), bd (am_gI D1.2.1), D1.2.2.1, q_n1 _ (by omega), ix13, bd (am_s69 D1.2.1 hb (by omega) _), ← d2, bd (am_r65 D2.2.1), bd (am_g65 D2.2.1 hs), k1]
        have fin : ∀ (u v : Int64) (p q : Int), B64 u p 1000 → B64 v q 1000 → 1 ≤ q → (∀ l, l < 13 → rowS s (sh s) l = if l = 12 then (p / (gcI p q : Int), q / (gcI p q : Int)) else inc rE s 1 l) → ∃ t', f_X12_makeRows_D245_163 P m (q_n s) v u m t2 = some (.inl t') ∧ t'.1 = q_n (s + 1) ∧ CRo σ0 t'.2 m (mkM gs ms sh (s + 1)).2 (mkM gs ms sh (s + 1)).2 0 (fun _ => -1) (mkM gs ms sh (s + 1)).1 ∧ mxI t'.2 m 10 = 0 := fun u v p q hu hv hq hr => by
          unfold f_X12_makeRows_D245_163
          obtain ⟨t3, d3, F3, y⟩ := r_low (P := P) (σ := t2) (m := m) (u := u) (v := v) (x := p) (z := q) hf D2.2.1 hb (b64w hu (by omega)) (b64w hv (by omega)) (Or.inl ⟨I2, hq⟩)
          have D3 := D2.fz F3
          rcases y with ⟨-, -, I3, z1, z2⟩ | ⟨z, -⟩
          · have D4 := D3.sT (r := (mkM gs ms sh s).2) (k := 12) (by omega) (by omega) (mxL t3 m 8)
            have D5 := D3.sC (r := (mkM gs ms sh s).2) (k := 12) (by omega) (by omega) (mxL t3 m 8) (mxL t3 m 9)
            rw [bd (am_is D2.2.1), bd d3, bd (am_r69 D3.2.1), bd (am_gI D3.2.1), D3.2.2.1, q_n1 _ (by omega), bd (am_gL D3.2.1), show (13 : Int32) * q_n (mkM gs ms sh s).2 + (12 : Int32) = q_n (13 * (mkM gs ms sh s).2 + 12) from ix13 (k := 12), bd (am_s69 D3.2.1 hb (by omega) _), bd (am_r70 D4.2.1), bd (am_gI D4.2.1), D4.2.2.1, q_n1 _ (by omega), bd (am_gL D4.2.1), sL_n (by omega), show (13 : Int32) * q_n (mkM gs ms sh s).2 + (12 : Int32) = q_n (13 * (mkM gs ms sh s).2 + 12) from ix13 (k := 12), bd (am_s70 D4.2.1 hb (by omega) _)]
            unfold f_X12_makeRows_D290_163
            rw [Option.bind_some, q_nS]
            refine ⟨_, rfl, rfl, ?_, I3⟩
            rw [mk_s2 h0]
            refine D5.cg fun i hi l hl => ?_
            show rU _ _ (rowS s (sh s)) i l = _
            by_cases y : i = (mkM gs ms sh s).2
            · subst y
              rw [rU_e, hr l hl]
              by_cases yl : l = 12
              · subst yl
                rw [if_pos rfl, mu_e, z1, z2]
              · rw [if_neg yl, mu_n (by omega), rU_e]
            · rw [rU_n y, mu_n (by omega), rU_n y]
          · exact absurd ⟨I2, by have := hu.2; omega⟩ z
        by_cases h2 : (sh s).1 = 2
        · obtain ⟨y1, y2, y3, y4, y5, y6⟩ := k3 h2
          rw [if_pos (by rw [h2]; rfl), bd (am_r66 D2.2.1), bd (am_g66 D2.2.1 hs), y1]
          unfold f_X12_makeRows_D224_163
          rw [bd (am_r65 D2.2.1), bd (am_g65 D2.2.1 hs), k1, if_pos (by rw [h2]; rfl), bd (am_r67 D2.2.1), bd (am_g67 D2.2.1 hs), y2]
          refine fin _ _ (sh s).2.1.toInt (sh s).2.2.toInt ⟨Int32.toInt_toInt64 _, by omega⟩ ⟨Int32.toInt_toInt64 _, by omega⟩ y5 fun l hl => ?_
          unfold rowS
          rw [if_pos h2]
          by_cases yl : l = 12
          · rw [if_pos yl, if_pos yl]
          · rw [if_neg yl, if_neg yl]
            unfold inc
            split <;> rfl
        · have n2 : ¬ q_n (sh s).1 = (2 : Int32) := fun z => h2 ((q_nI (l := 2) (by omega) (by omega)).mp z)
          rw [if_neg n2]
          unfold f_X12_makeRows_D224_163
          rw [bd (am_r65 D2.2.1), bd (am_g65 D2.2.1 hs), k1, if_neg n2]
          refine fin 0 1 0 1 ⟨rfl, by omega⟩ ⟨rfl, by omega⟩ (by omega) fun l hl => ?_
          unfold rowS
          rw [if_neg h2]
          by_cases yl : l = 12
          · rw [if_pos yl, if_pos yl]; rfl
          · rw [if_neg yl, if_neg yl]
            unfold inc
            split <;> rfl)
    (by
      rintro ⟨v1, t⟩ ⟨i1, C, I⟩
      dsimp only at i1 C I
      subst i1
      refine ⟨t, ?_, C, I⟩
      show f_X12_makeRows_B163 P m (q_n 12) t = _
      unfold f_X12_makeRows_B163
      rw [if_pos (by decide)])
    12 0 ((0 : Int32), σ2) (mpN P) rfl ⟨rfl, C2, I2⟩ (by omega)
  refine ⟨σ3, ?_, C3, I3⟩
  unfold f_X12_makeRows
  rw [bd (am_pI hM hb _), ← e1, bd e2]
  show (mx_lp (f_X12_makeRows_L163 P m) (mpN P) ((0 : Int32), σ2)).bind _ = _
  rw [bd e3]
end MCS
