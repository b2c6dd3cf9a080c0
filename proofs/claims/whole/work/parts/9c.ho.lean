/-! ===== ho: tokens, the reference's ===== -/
section HOS
variable {P : mx_P} {σ σ0 σ1 σ2 τ : mx_S} {x m n t p : Nat} {bs : List Nat}
/-- the reduced number -/
def Rdc (tp : Int) (bt : Nat) (np nq : Int) : Prop := ∃ g : Nat, 0 < g ∧ tp = np * g ∧ (bt : Int) = nq * g ∧ Nat.gcd np.natAbs nq.toNat = 1 ∧ 0 < nq
def rk (k : Int32) : Int32 := if k = 2 then 1 else if k = 3 then 2 else if k = 1 then 3 else k
def TkR (σ : mx_S) (m : Nat) (bs : List Nat) (s : Nat) : Prop := (kdA bs s ≠ 1 → mxI σ m 14 = q_n (enA bs s)) ∧ mxI σ m 15 = rk (kdA bs s) ∧ mxI σ m 16 = q_n s ∧ (kdA bs s = 3 → Rdc (tpA bs s) (nmB bs (nmD bs s)) (mxL σ m 17).toInt (mxL σ m 18).toInt)
theorem sL_e {a j : Nat} {v : Int64} : mxL (mx_setL σ a j v) a j = v := if_pos ⟨rfl, rfl⟩
theorem sL_n {a j q i : Nat} {v : Int64} (h : ¬ (q = a ∧ i = j)) : mxL (mx_setL σ a j v) q i = mxL σ q i := if_neg h
theorem sL_17 {u v : Int64} : mxL (mx_setL (mx_setL σ m 17 u) m 18 v) m 17 = u := (sL_n (by omega)).trans sL_e
theorem md_ex {a b : Int64} {k : Int} (hb : 0 < b.toInt) (h : a.toInt = k * b.toInt) (h1 : -9223372036854775808 ≤ k) (h2 : k < 9223372036854775808) : ∃ r, md_L a b = some r ∧ r.toInt = k := by
  refine ⟨a / b, ?_, ?_⟩
  · unfold md_L; rw [if_neg (fun z => by rw [z, q_l0] at hb; omega)]
  · rw [Int64.toInt_div, h, Int.mul_tdiv_cancel _ (by omega), q_bm64 h1 h2]
theorem r_n203 {ng : Bool} {v b : Nat} (hf : 20000 ≤ mpN P) (hM : LyM σ m) (hb : mpb P ≤ m) (hv : v < 10000) (hb4 : b < 10000) (hb0 : 0 < b) : ∃ τ, f_X12_number_D203 P m (bI ng) (q_n v) (q_n b) σ = some τ ∧ Rdc (if ng then -(v : Int) else v) b (mxL τ m 17).toInt (mxL τ m 18).toInt ∧ Fz (fun q j => q = m ∧ (j = 17 ∨ j = 18)) σ τ ∧ ∀ j, mxI τ m j = mxI σ m j := by
  have hg0 : 0 < Nat.gcd v b := Nat.gcd_pos_of_pos_right _ hb0
  have hgb : Nat.gcd v b ≤ b := Nat.gcd_le_right _ hb0
  have e203 : f_X12_number_D203 P m (bI ng) (q_n v) (q_n b) σ = (if q_n v = 0 then f_X12_number_D235 P m (q_n v) (q_n b) (l_n (Nat.gcd v b)) (0 : Int64) m σ else (if bI ng = 0 then f_X12_number_D231 P m (q_n v) (q_n b) (l_n (Nat.gcd v b)) (q_n v) m σ else f_X12_number_D231 P m (q_n v) (q_n b) (l_n (Nat.gcd v b)) (-q_n v) m σ)) := by
    unfold f_X12_number_D203
    rw [q_nL (by omega), q_nL (by omega), bd2 (k_gcdS hf hv hb4 σ)]
  rw [e203]
  have hgT : (l_n (Nat.gcd v b)).toInt = Nat.gcd v b := l_nT (by omega)
  by_cases v0 : v = 0
  · subst v0
    rw [if_pos (by rfl)]
    unfold f_X12_number_D235 f_X12_number_D252
    have hM1 : LyM (mx_setL σ m 17 0) m := hM
    rw [bd (am_pL hM hb _), if_pos (by rfl), bd (am_pL hM1 hb _)]
    refine ⟨_, rfl, ?_, (Fz.rf.sL ⟨rfl, Or.inl rfl⟩ _).sL ⟨rfl, Or.inr rfl⟩ _, fun _ => rfl⟩
    rw [sL_17, sL_e, q_l0, show (1 : Int64).toInt = 1 from rfl]
    exact ⟨b, hb0, by cases ng <;> simp, by simp, rfl, by omega⟩
  · rw [if_neg (fun z => v0 (by rw [show (0 : Int32) = q_n 0 from rfl, q_nI (by omega) (by omega)] at z; exact z))]
    obtain ⟨v', ev⟩ := Nat.gcd_dvd_left v b
    obtain ⟨b', eb⟩ := Nat.gcd_dvd_right v b
    have hv' : v' ≤ v := by rw [ev]; exact Nat.le_mul_of_pos_left _ hg0
    have hb' : b' ≤ b := by rw [eb]; exact Nat.le_mul_of_pos_left _ hg0
    have hb'0 : 0 < b' := by rcases Nat.eq_zero_or_pos b' with z | z; rw [z, Nat.mul_zero] at eb; omega; exact z
    have hcop : Nat.gcd v' b' = 1 := by
      have := Nat.gcd_mul_left (Nat.gcd v b) v' b'
      rw [← ev, ← eb] at this
      exact Nat.eq_of_mul_eq_mul_left hg0 (by rw [Nat.mul_one]; exact this.symm)
    have evI : (v : Int) = (v' : Int) * (Nat.gcd v b : Int) := by rw [Int.mul_comm]; exact_mod_cast ev
    have ebI : (b : Int) = (b' : Int) * (Nat.gcd v b : Int) := by rw [Int.mul_comm]; exact_mod_cast eb
    have key : ∀ w0 : Int32, w0.toInt = (if ng then -(v : Int) else v) → ∃ τ, f_X12_number_D231 P m (q_n v) (q_n b) (l_n (Nat.gcd v b)) w0 m σ = some τ ∧ Rdc (if ng then -(v : Int) else v) b (mxL τ m 17).toInt (mxL τ m 18).toInt ∧ Fz (fun q j => q = m ∧ (j = 17 ∨ j = 18)) σ τ ∧ ∀ j, mxI τ m j = mxI σ m j := by
      intro w0 hw
      obtain ⟨r, er, hr⟩ := md_ex (a := w0.toInt64) (b := l_n (Nat.gcd v b)) (k := if ng then -(v' : Int) else v') (by rw [hgT]; omega) (by
        rw [i64i, hw, hgT]
        cases ng
        · exact evI
        · show -(v : Int) = -(v' : Int) * _; rw [Int.neg_mul, ← evI]) (by split <;> omega) (by split <;> omega)
      obtain ⟨r2, er2, hr2⟩ := md_ex (a := (q_n b).toInt64) (b := l_n (Nat.gcd v b)) (k := (b' : Int)) (by rw [hgT]; omega) (by rw [i64i, q_nT (by omega), hgT]; exact ebI) (by omega) (by omega)
      have hM1 : LyM (mx_setL σ m 17 r) m := hM
      unfold f_X12_number_D231 f_X12_number_D235 f_X12_number_D252
      rw [bd er, bd (am_pL hM hb _), if_neg (fun z => v0 (by rw [show (0 : Int32) = q_n 0 from rfl, q_nI (by omega) (by omega)] at z; exact z)), bd er2, bd (am_pL hM1 hb _)]
      refine ⟨_, rfl, ?_, (Fz.rf.sL ⟨rfl, Or.inl rfl⟩ _).sL ⟨rfl, Or.inr rfl⟩ _, fun _ => rfl⟩
      rw [sL_17, sL_e, hr, hr2]
      refine ⟨Nat.gcd v b, hg0, ?_, ebI, ?_, by omega⟩
      · cases ng
        · exact evI
        · show -(v : Int) = -(v' : Int) * _; rw [Int.neg_mul, ← evI]
      · cases ng
        · show Nat.gcd v' b' = 1; exact hcop
        · show Nat.gcd (-(v' : Int)).natAbs b' = 1
          rw [Int.natAbs_neg]; exact hcop
    cases ng
    · rw [if_pos (by rfl)]
      exact key _ (by rw [q_nT (by omega)]; rfl)
    · rw [if_neg (by decide)]
      exact key _ (by rw [q_ineg (by rw [q_nT (by omega)]; omega), q_nT (by omega)]; rfl)
/-- the reference's number -/
theorem r_rnum {d : Nat} (hf : 20000 ≤ mpN P) (hM : LyM σ m) (hb : mpb P ≤ m) (h : TS σ m bs) (h4 : mxI σ m 14 = q_n p) (hp : p ≤ bs.length) (hd : d = nmD bs p) (hd1 : d ≤ bs.length) :
    ∃ τ, f_X12_number P m σ = some τ ∧ (nmB bs d ≠ 0 → mxI τ m 14 = q_n (nmX bs d)) ∧ mxI τ m 15 = (if nmB bs d = 0 then 3 else 2) ∧ (nmB bs d ≠ 0 → Rdc (tpA bs p) (nmB bs d) (mxL τ m 17).toInt (mxL τ m 18).toInt) ∧ Fz (fun q j => q = m ∧ (j = 14 ∨ j = 15 ∨ j = 17 ∨ j = 18)) σ τ := by
  have hl := h.1
  have h256 := TS_256 h
  have hv := dv4_lt (p := d) h256
  obtain ⟨σ1, e1⟩ : ∃ σ1, σ1 = mx_setI σ m 15 2 := ⟨_, rfl⟩
  have f1 : Fz (fun q j => q = m ∧ (j = 14 ∨ j = 15 ∨ j = 17 ∨ j = 18)) σ σ1 := by rw [e1]; exact Fz.rf.sI ⟨rfl, by omega⟩ _
  have hM1 := f1.M hM
  have hC1 : TS σ1 m bs := TS_f h f1 (fun q j z => by omega)
  have a4 : mxI σ1 m 14 = q_n p := by rw [e1, sI_n (by omega)]; exact h4
  have a5 : mxI σ1 m 15 = 2 := by rw [e1]; exact sI_e
  have key : ∀ (ng : Bool) σ2, ng = decide (bA bs p = 45) → Fz (fun q j => q = m ∧ (j = 14 ∨ j = 15 ∨ j = 17 ∨ j = 18)) σ σ2 → mxI σ2 m 14 = q_n d → mxI σ2 m 15 = 2 → ∃ τ, f_X12_number_D38 P m (bI ng) σ2 = some τ ∧ (nmB bs d ≠ 0 → mxI τ m 14 = q_n (nmX bs d)) ∧ mxI τ m 15 = (if nmB bs d = 0 then 3 else 2) ∧ (nmB bs d ≠ 0 → Rdc (tpA bs p) (nmB bs d) (mxL τ m 17).toInt (mxL τ m 18).toInt) ∧ Fz (fun q j => q = m ∧ (j = 14 ∨ j = 15 ∨ j = 17 ∨ j = 18)) σ τ := by
    intro ng σ2 hng f2 b4 b5
    have etp : tpA bs p = (if ng then -(dvN bs 4 d 0 : Int) else dvN bs 4 d 0) := by
      unfold tpA
      rw [hng, ← hd]
      by_cases c : bA bs p = 45
      · rw [if_pos c, decide_eq_true c]; rfl
      · rw [if_neg c, decide_eq_false c]; rfl
    have hM2 := f2.M hM
    have hC2 : TS σ2 m bs := TS_f h f2 (fun q j z => by omega)
    obtain ⟨σ3, e3, c4, f3⟩ := r_dig (P := P) (f_X12_number_L42 P m (bI ng)) (by omega) hM2 hb (fun v k τ => rfl) hC2 b4 hd1
    have f3' := f2.tr (f3.mo (T := fun q j => q = m ∧ (j = 14 ∨ j = 15 ∨ j = 17 ∨ j = 18)) fun q j z => ⟨z.1, Or.inl z.2⟩)
    have hM3 := f3'.M hM
    have hC3 : TS σ3 m bs := TS_f h f3' (fun q j z => by omega)
    have c5 : mxI σ3 m 15 = 2 := by rw [(f3.2.2.2 _ _ (by omega)).1]; exact b5
    have hle := dgN_le (bs := bs) 4 d hd1
    -- the end, with a bottom
    have fin : ∀ (b : Nat) σ5, b = nmB bs d → 0 < b → Fz (fun q j => q = m ∧ (j = 14 ∨ j = 15 ∨ j = 17 ∨ j = 18)) σ σ5 → mxI σ5 m 14 = q_n (nmX bs d) → mxI σ5 m 15 = 2 → ∃ τ, f_X12_number_D203 P m (bI ng) (q_n (dvN bs 4 d 0)) (q_n b) σ5 = some τ ∧ (nmB bs d ≠ 0 → mxI τ m 14 = q_n (nmX bs d)) ∧ mxI τ m 15 = (if nmB bs d = 0 then 3 else 2) ∧ (nmB bs d ≠ 0 → Rdc (tpA bs p) (nmB bs d) (mxL τ m 17).toInt (mxL τ m 18).toInt) ∧ Fz (fun q j => q = m ∧ (j = 14 ∨ j = 15 ∨ j = 17 ∨ j = 18)) σ τ := by
      intro b σ5 hB hB0 f5 d4 d5
      have hB4 := nmB_lt h256 d
      obtain ⟨τ, e, hr, f, hI⟩ := r_n203 (P := P) (ng := ng) (v := dvN bs 4 d 0) (b := b) hf (f5.M hM) hb hv (by omega) hB0
      refine ⟨τ, e, fun _ => by rw [hI, d4], ?_, fun _ => ?_, f5.tr (f.mo fun q j z => by omega)⟩
      · rw [hI, d5, if_neg (by omega)]
      · rw [etp, ← hB]; exact hr
    unfold f_X12_number_D38
    rw [bd e3]
    show ∃ τ, f_X12_number_D94 P m (bI ng) (q_n (dvN bs 4 d 0)) σ3 = some τ ∧ _
    unfold f_X12_number_D94
    rw [bd (am_gI hM3), c4, bd (am_is hM3), bd2 (r_lk hM3 hC3 (by omega))]
    by_cases c47 : bA bs (dgN bs 4 d) = 47
    · rw [if_pos c47, bd (am_gI hM3), c4, bd (am_is hM3), q_nS, bd2 (r_lk hM3 hC3 (by omega)), bd2 (r_dgt _)]
      cases cd : dgt (bA bs (dgN bs 4 d + 1)) with
      | false =>
        rw [if_pos (by rfl)]
        have en : nmE bs d = false := by unfold nmE; rw [cd, Bool.and_false]
        exact fin 1 σ3 (by unfold nmB; rw [en]; rfl) (by omega) f3' (by rw [c4]; unfold nmX; rw [en]; rfl) c5
      | true =>
        have en : nmE bs d = true := by unfold nmE; rw [cd, Bool.and_true]; exact decide_eq_true c47
        have hlt := dgt_lt cd
        have eB : nmB bs d = dvN bs 4 (dgN bs 4 d + 1) 0 := by unfold nmB; rw [en, if_pos rfl]
        have eX : nmX bs d = dgN bs 4 (dgN bs 4 d + 1) := by unfold nmX; rw [en, if_pos rfl]
        rw [if_neg (by decide), bd (am_gI hM3), c4, q_nS, bd (am_pI hM3 hb _)]
        obtain ⟨σ4, e4⟩ : ∃ σ4, σ4 = mx_setI σ3 m 14 (q_n (dgN bs 4 d + 1)) := ⟨_, rfl⟩
        rw [← e4]
        have f4 : Fz (fun q j => q = m ∧ (j = 14 ∨ j = 15 ∨ j = 17 ∨ j = 18)) σ σ4 := by rw [e4]; exact f3'.sI ⟨rfl, by omega⟩ _
        have hM4 := f4.M hM
        have hC4 : TS σ4 m bs := TS_f h f4 (fun q j z => by omega)
        obtain ⟨σ5, e5, d4, f5⟩ := r_dig (P := P) (f_X12_number_L140 P m (bI ng) (q_n (dvN bs 4 d 0))) (by omega) hM4 hb (fun v k τ => rfl) hC4 (show mxI σ4 m 14 = q_n (dgN bs 4 d + 1) by rw [e4]; exact sI_e) (by omega)
        have f5' := f4.tr (f5.mo (T := fun q j => q = m ∧ (j = 14 ∨ j = 15 ∨ j = 17 ∨ j = 18)) fun q j z => ⟨z.1, Or.inl z.2⟩)
        have hM5 := f5'.M hM
        have d5 : mxI σ5 m 15 = 2 := by rw [(f5.2.2.2 _ _ (by omega)).1, e4, sI_n (by omega)]; exact c5
        have hB4 := dv4_lt (p := dgN bs 4 d + 1) h256
        rw [bd e5]
        show ∃ τ, f_X12_number_D193 P m (bI ng) (q_n (dvN bs 4 d 0)) (q_n (dvN bs 4 (dgN bs 4 d + 1) 0)) σ5 = some τ ∧ _
        unfold f_X12_number_D193
        by_cases z0 : dvN bs 4 (dgN bs 4 d + 1) 0 = 0
        · rw [if_pos (by rw [z0]; rfl), bd (am_pI hM5 hb _)]
          exact ⟨_, rfl, fun z => absurd (by rw [eB]; exact z0) z, by rw [sI_e, eB, if_pos z0], fun z => absurd (by rw [eB]; exact z0) z, f5'.sI ⟨rfl, by omega⟩ _⟩
        · rw [if_neg (fun z => z0 (by rw [show (0 : Int32) = q_n 0 from rfl, q_nI (by omega) (by omega)] at z; exact z))]
          exact fin _ σ5 eB.symm (by omega) f5' (by rw [d4, eX]) d5
    · rw [if_neg c47]
      have en : nmE bs d = false := by unfold nmE; rw [decide_eq_false c47, Bool.false_and]
      exact fin 1 σ3 (by unfold nmB; rw [en]; rfl) (by omega) f3' (by rw [c4]; unfold nmX; rw [en]; rfl) c5
  unfold f_X12_number f_X12_number_D23
  rw [bd (am_pI hM hb _), ← e1, bd (am_gI hM1), a4, bd (am_is hM1), bd2 (r_lk hM1 hC1 (by omega))]
  by_cases c45 : bA bs p = 45
  · rw [if_pos c45, if_neg zi10, bd (am_gI hM1), a4, q_nS, bd (am_pI hM1 hb _)]
    exact key true _ (decide_eq_true c45).symm (f1.sI ⟨rfl, Or.inl rfl⟩ _) (by rw [sI_e, hd]; unfold nmD; rw [if_pos c45]) (by rw [sI_n (by omega)]; exact a5)
  · rw [if_neg c45, if_pos rfl]
    exact key false _ (decide_eq_false c45).symm f1 (by rw [a4, hd]; unfold nmD; rw [if_neg c45]) a5
theorem r_tok {N : Nat} (hN : N = 4000) (hf : 20000 ≤ mpN P) (hM : LyM σ m) (hb : mpb P ≤ m) (h : TS σ m bs) (h4 : mxI σ m 14 = q_n p) (hp : p ≤ bs.length) : ∃ τ, f_X12_scan P m σ = some τ ∧ TkR τ m bs (skN bs N p) ∧ Fz (fun q j => q = m ∧ 14 ≤ j ∧ j ≤ 18) σ τ := by
  have hl := h.1
  have h256 := TS_256 h
  obtain ⟨σ1, e1, a4, f1⟩ := r_skip (P := P) hN (by omega) hM hb h h4 hp
  have hs := skN_le (bs := bs) N p hp
  generalize skN bs N p = s at a4 hs
  have f1' : Fz (fun q j => q = m ∧ 14 ≤ j ∧ j ≤ 18) σ σ1 := f1.mo fun q j z => by omega
  have hM1 := f1'.M hM
  obtain ⟨σ5, e5⟩ : ∃ σ5, σ5 = mx_setI σ1 m 16 (q_n s) := ⟨_, rfl⟩
  have f5 : Fz (fun q j => q = m ∧ 14 ≤ j ∧ j ≤ 18) σ σ5 := by rw [e5]; exact f1'.sI ⟨rfl, by omega⟩ _
  have hM5 := f5.M hM
  have hC5 : TS σ5 m bs := TS_f h f5 (fun q j z => by omega)
  have b4 : mxI σ5 m 14 = q_n s := by rw [e5, sI_n (by omega)]; exact a4
  have b6 : mxI σ5 m 16 = q_n s := by rw [e5]; exact sI_e
  have hpre : f_X12_scan P m σ = (if 0 ≤ bA bs s then (if bI (ltr (bA bs s)) = 0 then (if bI (dgt (bA bs s)) = 0 then (if bA bs s = (45 : Int32) then (if bI (dgt (bA bs (s + 1))) = 0 then f_X12_scan_D186 P m (bA bs s) σ5 else f_X12_scan_D179 P m σ5) else f_X12_scan_D186 P m (bA bs s) σ5) else f_X12_scan_D179 P m σ5) else (mx_lp (f_X12_scan_L101 P m) (mpN P) σ5).bind (fun t => (fun σ110 => f_X12_scan_D142 P m σ110) t)) else (mp_I P σ5 m 12 15 (0 : Int32)).bind fun σ113 => f_X12_scan_D233 P  σ113) := by
    unfold f_X12_scan
    rw [bd e1]
    dsimp only
    rw [bd (am_gI hM1), a4, bd (am_pI hM1 hb _), ← e5, bd (am_gI hM5), b4, bd (am_is hM5), bd2 (r_lk hM5 hC5 (by omega)), bd2 (r_ltr _), bd2 (r_dgt _), bd (am_gI hM5), b4, bd (am_is hM5), q_nS, bd2 (r_lk hM5 hC5 (by omega)), bd2 (r_dgt _)]
  rw [hpre]
  unfold TkR
  by_cases hend : bs.length ≤ s
  · rw [show kdA bs s = 0 by unfold kdA; rw [if_pos hend], show enA bs s = s by unfold enA; rw [if_pos hend], bA_no hend, if_neg (by decide), bd (am_pI hM5 hb _)]
    unfold f_X12_scan_D233
    refine ⟨_, rfl, ⟨fun _ => ?_, by rw [sI_e]; rfl, ?_, fun z => absurd z (by decide)⟩, f5.sI ⟨rfl, by omega⟩ _⟩
    · rw [sI_n (by omega)]; exact b4
    · rw [sI_n (by omega)]; exact b6
  have hlt : s < bs.length := by omega
  rw [if_pos (bA_pos hlt h256)]
  cases hlr : ltr (bA bs s) with
  | true =>
    rw [show kdA bs s = 2 by unfold kdA; rw [if_neg hend, hlr, if_pos rfl], show enA bs s = wdN bs 8 s by unfold enA; rw [if_neg hend, hlr, if_pos rfl], if_neg (by decide)]
    obtain ⟨σ6, e6, c4, f6⟩ := r_rword (P := P) (by omega) hM5 hb hC5 b4 b6 (by omega)
    rw [bd e6]
    have f6' := f5.tr (f6.mo (T := fun q j => q = m ∧ 14 ≤ j ∧ j ≤ 18) fun q j z => by omega)
    unfold f_X12_scan_D142 f_X12_scan_D233
    dsimp only
    rw [bd (am_pI (f6'.M hM) hb _)]
    refine ⟨_, rfl, ⟨fun _ => ?_, by rw [sI_e]; rfl, ?_, fun z => absurd z (by decide)⟩, f6'.sI ⟨rfl, by omega⟩ _⟩
    · rw [sI_n (by omega)]; exact c4
    · rw [sI_n (by omega), (f6.2.2.2 _ _ (by omega)).1]; exact b6
  | false =>
    rw [if_pos (by rfl)]
    cases hn : isNm bs s with
    | true =>
      rw [show kdA bs s = (if nmB bs (nmD bs s) = 0 then 1 else 3) by unfold kdA; rw [if_neg hend, hlr, if_neg (show ¬ (false = true) by decide), hn, if_pos rfl], show enA bs s = nmX bs (nmD bs s) by unfold enA; rw [if_neg hend, hlr, if_neg (show ¬ (false = true) by decide), hn, if_pos rfl]]
      have hd : nmD bs s ≤ bs.length := by
        unfold nmD
        split
        · next c45 => unfold isNm at hn; rw [c45] at hn; have := (Bool.or_eq_true _ _).mp hn; rcases this with z | z; exact absurd z (by decide); rw [Bool.and_eq_true] at z; exact Nat.le_of_lt (dgt_lt z.2)
        · omega
      have ee : (if bI (dgt (bA bs s)) = 0 then (if bA bs s = (45 : Int32) then (if bI (dgt (bA bs (s + 1))) = 0 then f_X12_scan_D186 P m (bA bs s) σ5 else f_X12_scan_D179 P m σ5) else f_X12_scan_D186 P m (bA bs s) σ5) else f_X12_scan_D179 P m σ5) = f_X12_scan_D179 P m σ5 := by
        unfold isNm at hn
        cases hdg : dgt (bA bs s) with
        | true => rw [if_neg (by decide)]
        | false =>
          rw [hdg, Bool.false_or, Bool.and_eq_true] at hn
          rw [if_pos (by rfl), if_pos (of_decide_eq_true hn.1), hn.2, if_neg (by decide)]
      rw [ee]
      obtain ⟨τ, e, k4, k5, k7, f⟩ := r_rnum (P := P) hf hM5 hb hC5 b4 (by omega) rfl hd
      unfold f_X12_scan_D179 f_X12_scan_D233
      rw [bd (am_is hM5), bd e]
      refine ⟨τ, rfl, ⟨fun z => k4 (fun z' => z (by rw [if_pos z'])), ?_, ?_, fun z => k7 (fun z' => by rw [if_pos z'] at z; exact absurd z (by decide))⟩, f5.tr (f.mo fun q j z => by omega)⟩
      · rw [k5]
        by_cases z : nmB bs (nmD bs s) = 0
        · rw [if_pos z, if_pos z]; rfl
        · rw [if_neg z, if_neg z]; rfl
      · rw [(f.2.2.2 _ _ (by omega)).1]; exact b6
    | false =>
      rw [show kdA bs s = (if sgn (bA bs s) then bA bs s else 1) by unfold kdA; rw [if_neg hend, hlr, if_neg (show ¬ (false = true) by decide), hn, if_neg (show ¬ (false = true) by decide)], show enA bs s = s + 1 by unfold enA; rw [if_neg hend, hlr, if_neg (show ¬ (false = true) by decide), hn, if_neg (show ¬ (false = true) by decide)]]
      have ee : (if bI (dgt (bA bs s)) = 0 then (if bA bs s = (45 : Int32) then (if bI (dgt (bA bs (s + 1))) = 0 then f_X12_scan_D186 P m (bA bs s) σ5 else f_X12_scan_D179 P m σ5) else f_X12_scan_D186 P m (bA bs s) σ5) else f_X12_scan_D179 P m σ5) = f_X12_scan_D186 P m (bA bs s) σ5 := by
        unfold isNm at hn
        rw [Bool.or_eq_false_iff] at hn
        rw [hn.1, if_pos (by rfl)]
        by_cases c45 : bA bs s = 45
        · rw [if_pos c45]
          have := hn.2
          rw [decide_eq_true c45, Bool.true_and] at this
          rw [this, if_pos (by rfl)]
        · rw [if_neg c45]
      rw [ee]
      have hM6 : LyM (mx_setI σ5 m 15 (bA bs s)) m := hM5
      have yes : sgn (bA bs s) = true → f_X12_scan_D210 P m (bA bs s) σ5 = some (mx_setI (mx_setI σ5 m 15 (bA bs s)) m 14 (q_n (s + 1))) := fun _ => by
        unfold f_X12_scan_D210 f_X12_scan_D233
        rw [bd (am_pI hM5 hb _), bd (am_gI hM6), sI_n (by omega), b4, q_nS, bd (am_pI hM6 hb _)]
      have e186 : f_X12_scan_D186 P m (bA bs s) σ5 = if sgn (bA bs s) then f_X12_scan_D210 P m (bA bs s) σ5 else some (mx_setI σ5 m 15 3) := by
        unfold f_X12_scan_D186 f_X12_scan_D233
        rw [bd (am_pI hM5 hb _)]
        unfold sgn
        by_cases c1 : bA bs s = 43
        · rw [if_pos c1, decide_eq_true (Or.inl c1)]; rfl
        rw [if_neg c1]
        by_cases c2 : bA bs s = 45
        · rw [if_pos c2, decide_eq_true (Or.inr (Or.inl c2))]; rfl
        rw [if_neg c2]
        by_cases c3 : bA bs s = 63
        · rw [if_pos c3, decide_eq_true (Or.inr (Or.inr (Or.inl c3)))]; rfl
        rw [if_neg c3]
        by_cases c4 : bA bs s = 59
        · rw [if_pos c4, decide_eq_true (Or.inr (Or.inr (Or.inr c4)))]; rfl
        rw [if_neg c4, decide_eq_false (by rintro (z | z | z | z) <;> contradiction)]; rfl
      rw [e186]
      cases hsg : sgn (bA bs s) with
      | true =>
        rw [if_pos rfl, if_pos rfl, yes hsg]
        have hv : bA bs s = 43 ∨ bA bs s = 45 ∨ bA bs s = 63 ∨ bA bs s = 59 := by unfold sgn at hsg; exact of_decide_eq_true hsg
        refine ⟨_, rfl, ⟨fun _ => sI_e, ?_, ?_, fun z => ?_⟩, (f5.sI ⟨rfl, by omega⟩ _).sI ⟨rfl, by omega⟩ _⟩
        · rw [sI_n (by omega), sI_e]
          rcases hv with hv | hv | hv | hv <;> rw [hv] <;> rfl
        · rw [sI_n (by omega), sI_n (by omega)]; exact b6
        · rcases hv with hv | hv | hv | hv <;> rw [hv] at z <;> exact absurd z (by decide)
      | false =>
        rw [if_neg (show ¬ (false = true) by decide), if_neg (show ¬ (false = true) by decide)]
        refine ⟨_, rfl, ⟨fun z => absurd rfl z, by rw [sI_e]; rfl, ?_, fun z => absurd z (by decide)⟩, f5.sI ⟨rfl, by omega⟩ _⟩
        rw [sI_n (by omega)]; exact b6
end HOS
