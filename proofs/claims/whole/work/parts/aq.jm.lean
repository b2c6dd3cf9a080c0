/-! ===== jm: kind, event, count ===== -/
section JMS
variable {P : mx_P} {σ σ0 σ1 σ2 τ : mx_S} {x m n k : Nat} {ns : List Nat}
/-- the kinds that were listed -/
def RKd (x : Nat) (σ : mx_S) : Prop := ∃ n, n ≤ 156 ∧ mxI σ (x + 112) 0 = q_n n ∧ mxI σ (x + 1497) 91 = q_n n ∧ ∀ k, k < n → mxI σ (x + 112 + 1) k = mxI σ (x + 1497 + 62) k
/-- the last drive -/
def RDe (x : Nat) (σ : mx_S) : Prop := mxI σ (x + 120) 0 = mxI σ (x + 1497) 102 ∧ ∃ e, e < 1000000 ∧ mxI σ (x + 120) 1 = q_n e ∧ mxI σ (x + 1497) 103 = q_n e ∧ ∀ k, k < 3 * min e 100 → mxI σ (x + 120 + 1) k = mxI σ (x + 1497 + 71) k
theorem RKd_cg (h : RKd x σ) (e : ∀ q j, cp x 4 q j → mxI τ q j = mxI σ q j) : RKd x τ := by
  obtain ⟨n, h1, h2, h3, h4⟩ := h
  have c : ∀ q j, (x + 112 ≤ q ∧ q < x + 120) ∨ q = x + 1559 ∨ (q = x + 1497 ∧ j = 91) → mxI τ q j = mxI σ q j := fun q j z => e q j z
  refine ⟨n, h1, (c _ _ (by omega)).trans h2, (c _ _ (by omega)).trans h3, fun k hk => ?_⟩
  rw [c _ _ (by omega), c _ _ (by omega)]; exact h4 k hk
theorem RDe_cg (h : RDe x σ) (e : ∀ q j, cp x 5 q j → mxI τ q j = mxI σ q j) : RDe x τ := by
  obtain ⟨h0, n, h1, h2, h3, h4⟩ := h
  have c : ∀ q j, (x + 120 ≤ q ∧ q < x + 128) ∨ q = x + 1568 ∨ (q = x + 1497 ∧ (j = 102 ∨ j = 103)) → mxI τ q j = mxI σ q j := fun q j z => e q j z
  refine ⟨by rw [c _ _ (by omega), c _ _ (by omega)]; exact h0, n, h1, (c _ _ (by omega)).trans h2, (c _ _ (by omega)).trans h3, fun k hk => ?_⟩
  rw [c _ _ (by omega), c _ _ (by omega)]; exact h4 k hk
theorem RKd.fr (h : RKd x σ) (f : Fr x ns σ τ) (hn : 4 ∉ ns) : RKd x τ := RKd_cg h fun q j hq => (f.2.2.1 4 q j hq hn).1
theorem RDe.fr (h : RDe x σ) (f : Fr x ns σ τ) (hn : 5 ∉ ns) : RDe x τ := RDe_cg h fun q j hq => (f.2.2.1 5 q j hq hn).1
theorem RKd_t (h : RKd x σ) (w : Int32) : RKd x (mx_setI (th σ) (x + 1497) 0 w) := h.fr (Fr_throw (ns := []) w) (by simp)
theorem RDe_t (h : RDe x σ) (w : Int32) : RDe x (mx_setI (th σ) (x + 1497) 0 w) := h.fr (Fr_throw (ns := []) w) (by simp)
theorem qF (r : Int64) (s : Int32) : Fr x [] σ (mx_setI (mx_setL σ (x + 1575) 0 r) (x + 1497) 0 s) := (sL_o r).sI (Or.inr cp_t) s
theorem nm1 (h : n < 2000000) : (q_n n - 1).toInt64.toInt = (n : Int) - 1 := by
  have e1 : (1 : Int32).toInt = 1 := rfl
  rw [Int32.toInt_toInt64, q_isub (by rw [q_nT (by omega), e1]; omega) (by rw [q_nT (by omega), e1]; omega), q_nT (by omega), e1]
theorem g_kind (hS : St P σ x) (h : RKd x σ) (a : Int32) : Q32 x σ (f_L_kind P x a (x + 1575) σ) (fun τ => f_X12_kind P (x + 1497) a τ) [] (RKd x) := by
  obtain ⟨hH, hb, hN, hrm⟩ := hS
  have hx := LyH_o hH
  have hM := LyH_m hH
  have hK := LyH_k hH
  have hbm : mpb P ≤ x + 1497 := by omega
  obtain ⟨n, h1, h2, h3, h4⟩ := id h
  have eN : (q_n n).toInt = n := q_nT (by omega)
  have e0 : (0 : Int64).toInt = 0 := rfl
  have pre : f_X11_kind P x a σ = mx_b2 (f_X11_isWithin P a (q_n n) σ) fun x6 σ5 => mx_bx (f_X11_needPresence P x6 σ5) fun σ8 => (mg_R σ8 x 11 3).bind fun b10 => (mg_R σ8 b10 6 1).bind fun b12 => (ma_I σ8 b12 0 a).bind fun x14 => some (.inr (x14, σ8)) := by
    unfold f_X11_kind
    rw [bd (ah_r3 hH), bd (ak_gI hK), h2]
  by_cases ra : 0 ≤ a.toInt ∧ a.toInt < (q_n n).toInt
  · obtain ⟨k, hk, rfl⟩ : ∃ k, k < n ∧ a = q_n k := ⟨a.toInt.toNat, by omega, q_ofT ra.1⟩
    have eK : (q_n k).toInt = k := q_nT (by omega)
    refine qry32 (σ1 := σ) (r := mxI σ (x + 112 + 1) k) Fr.rf rfl (hr_kind hx ?_ (LyH_u hH) (by omega)) ?_ (h.fr (qF _ 0) (by simp))
    · rw [pre, bd2 (wi_t ra σ), bdx (np_1 σ), bd (ah_r3 hH), bd (ak_r1 hK), bd (ak_g1 hK (by omega))]
    · have m4 : LyM (mx_setL σ (x + 1575) 0 (mxI σ (x + 112 + 1) k).toInt64) (x + 1497) := hM
      have m5 : LyM (mx_setI (mx_setL σ (x + 1575) 0 (mxI σ (x + 112 + 1) k).toInt64) (x + 1497) 0 0) (x + 1497) := hM
      show f_X12_kind P (x + 1497) (q_n k) (mx_setL σ (x + 1575) 0 (mxI σ (x + 112 + 1) k).toInt64) = _
      unfold f_X12_kind f_X12_kind_D22 f_X12_kind_D42
      rw [bd (am_gI m4), IsL, h3, bd2 (in_t (l := 0) (u := (q_n n - 1).toInt64) (by rw [nm1 (by omega), eK, e0]; omega) _), if_neg zi10, bd (am_pI m4 hbm _), bd (am_gI m5), sI_e, if_pos (show (0 : Int32) ≤ 0 by decide), bd (am_r92 m5), bd (am_g92 m5 (by omega)), sI_n (by omega), IsL, h4 k hk]
  · refine thr32 (w := 1) (ht_kind1 hx ?_) ?_ (by decide) (RKd_t h 1)
    · rw [pre, bd2 (wi_f ra σ), bdxl (np_0 hrm)]
    · have m4 : LyM (th σ) (x + 1497) := hM
      have m5 : LyM (mx_setI (th σ) (x + 1497) 0 1) (x + 1497) := hM
      show f_X12_kind P (x + 1497) a (th σ) = _
      unfold f_X12_kind f_X12_kind_D22 f_X12_kind_D42
      rw [bd (am_gI m4), show mxI (th σ) (x + 1497) 91 = q_n n from h3, bd2 (in_f (l := 0) (u := (q_n n - 1).toInt64) (by rw [nm1 (by omega), e0]; omega) _), if_pos rfl, bd (am_pI m4 hbm _), bd (am_gI m5), sI_e, if_neg (show ¬ (1 : Int32) ≤ 0 by decide)]
theorem g_event (hS : St P σ x) (h : RDe x σ) (a b : Int32) : Q32 x σ (f_L_event P x a b (x + 1575) σ) (fun τ => f_X12_event P (x + 1497) a b τ) [] (RDe x) := by
  obtain ⟨hH, hb, hN, hrm⟩ := hS
  have hx := LyH_o hH
  have hM := LyH_m hH
  have hD := LyH_d hH
  have hbm : mpb P ≤ x + 1497 := by omega
  obtain ⟨-, e, h1, h2, h3, h4⟩ := id h
  obtain ⟨n, hn⟩ : ∃ n, n = min e 100 := ⟨_, rfl⟩
  have eN : (q_n n).toInt = n := q_nT (by omega)
  have e0 : (0 : Int64).toInt = 0 := rfl
  have hkept : f_X2_keptEvents P (x + 120) σ = some (q_n n, σ) := by
    unfold f_X2_keptEvents f_J9_min_7cf53 f_J9_min_7cf53_D10
    rw [bd (ad_gI hD), h2]
    by_cases c : 100 < e
    · rw [if_pos (by rw [show (100 : Int32) = q_n 100 from rfl, q_nLt (by omega) (by omega)]; exact c), bd2 rfl, show n = 100 by omega]; rfl
    · rw [if_neg (by rw [show (100 : Int32) = q_n 100 from rfl, q_nLt (by omega) (by omega)]; exact c), bd2 rfl, show n = e by omega]
  have D52 : ∀ w : Int32, 0 < w.toInt → f_X12_event_D52 P (x + 1497) a b w (x + 1497) (th σ) = some (0, mx_setI (th σ) (x + 1497) 0 w) := fun w hw => by
    have m4 : LyM (th σ) (x + 1497) := hM
    have m5 : LyM (mx_setI (th σ) (x + 1497) 0 w) (x + 1497) := hM
    unfold f_X12_event_D52 f_X12_event_D76
    rw [bd (am_pI m4 hbm _), bd (am_gI m5), sI_e, if_neg (by rw [q_le, q_i0]; omega)]
  by_cases rb : 0 ≤ b.toInt ∧ b.toInt ≤ 2
  · have pre : f_X11_event P x a b σ = mx_b2 (f_X11_isWithin P a (q_n n) σ) fun x11 σ10 => mx_bx (f_X11_needPresence P x11 σ10) fun σ13 => (mg_R σ13 x 11 4).bind fun b15 => (mg_R σ13 b15 2 2).bind fun b17 => (ma_I σ13 b17 0 (((3 : Int32) * a) + b)).bind fun x19 => some (.inr (x19, σ13)) := by
      unfold f_X11_event
      rw [bdx (rg_t (l := 0) (u := 2) rb σ), bd (ah_r4 hH), bd (ad_is hD), bd2 hkept]
    have er : ∀ τ, LyM τ (x + 1497) → mxI τ (x + 1497) 103 = q_n e → f_X12_event P (x + 1497) a b τ = f_X12_event_D38 P (x + 1497) a b (q_n n) (0 : Int64) (a.toInt64) (x + 1497) τ := fun τ hm ht => by
      unfold f_X12_event
      rw [bd2 (in_t (l := 0) (u := 2) rb τ), if_neg zi10, bd (am_gI hm), ht]
      by_cases c : 100 ≤ e
      · rw [if_pos (by rw [show (100 : Int32) = q_n 100 from rfl, q_nLe (by omega) (by omega)]; exact c), show n = 100 by omega]; rfl
      · rw [if_neg (by rw [show (100 : Int32) = q_n 100 from rfl, q_nLe (by omega) (by omega)]; exact c), bd (am_gI hm), ht, show n = e by omega]
    by_cases ra : 0 ≤ a.toInt ∧ a.toInt < (q_n n).toInt
    · obtain ⟨k, hk, rfl⟩ : ∃ k, k < n ∧ a = q_n k := ⟨a.toInt.toNat, by omega, q_ofT ra.1⟩
      obtain ⟨j, hj, rfl⟩ : ∃ j, j < 3 ∧ b = q_n j := ⟨b.toInt.toNat, by omega, q_ofT rb.1⟩
      have eK : (q_n k).toInt = k := q_nT (by omega)
      have ix : (3 : Int32) * q_n k + q_n j = q_n (3 * k + j) := by rw [show (3 : Int32) = q_n 3 from rfl, q_nM, q_nA]
      refine qry32 (σ1 := σ) (r := mxI σ (x + 120 + 1) (3 * k + j)) Fr.rf rfl (hr_event hx ?_ (LyH_u hH) (by omega)) ?_ (h.fr (qF _ 0) (by simp))
      · rw [pre, bd2 (wi_t ra σ), bdx (np_1 σ), bd (ah_r4 hH), bd (ad_r2 hD), ix, bd (ad_g2 hD (by omega))]
      · have m4 : LyM (mx_setL σ (x + 1575) 0 (mxI σ (x + 120 + 1) (3 * k + j)).toInt64) (x + 1497) := hM
        have m5 : LyM (mx_setI (mx_setL σ (x + 1575) 0 (mxI σ (x + 120 + 1) (3 * k + j)).toInt64) (x + 1497) 0 0) (x + 1497) := hM
        show f_X12_event P (x + 1497) (q_n k) (q_n j) (mx_setL σ (x + 1575) 0 (mxI σ (x + 120 + 1) (3 * k + j)).toInt64) = _
        rw [er _ m4 h3]
        unfold f_X12_event_D38 f_X12_event_D52 f_X12_event_D76
        rw [bd2 (in_t (l := 0) (u := (q_n n - 1).toInt64) (by rw [nm1 (by omega), eK, e0]; omega) _), if_neg zi10, bd (am_pI m4 hbm _), bd (am_gI m5), sI_e, if_pos (show (0 : Int32) ≤ 0 by decide), bd (am_r104 m5), ix, bd (am_g104 m5 (by omega)), sI_n (by omega), IsL, h4 _ (by omega)]
    · refine thr32 (w := 2) (ht_event2 hx ?_) ?_ (by decide) (RDe_t h 2)
      · rw [pre, bd2 (wi_f ra σ), bdxl (np_0 hrm)]
      · show f_X12_event P (x + 1497) a b (th σ) = _
        rw [er (th σ) hM h3]
        unfold f_X12_event_D38
        rw [bd2 (in_f (l := 0) (u := (q_n n - 1).toInt64) (by rw [nm1 (by omega), e0]; omega) _), if_pos rfl, D52 2 (by decide)]
  · refine thr32 (w := 1) (ht_event1 hx ?_) ?_ (by decide) (RDe_t h 1)
    · unfold f_X11_event
      rw [bdxl (rg_f (l := 0) (u := 2) rb hrm)]
    · show f_X12_event P (x + 1497) a b (th σ) = _
      unfold f_X12_event
      rw [bd2 (in_f (l := 0) (u := 2) rb (th σ)), if_pos rfl, D52 1 (by decide)]
end JMS
