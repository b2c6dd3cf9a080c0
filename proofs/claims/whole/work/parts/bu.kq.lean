/-! ===== kq: camAbout ===== -/
section KQS
variable {P : mx_P} {σ σ1 τ : mx_S} {x n c c' m k g f a b : Nat} {W K L : Nat → Nat} {T B : Nat → Int} {S : Nat → Nat → Prop}
def cmF (x c q j : Nat) : Prop := ((q = x + 128 ∨ q = c + 6 ∨ q = c + 7) ∧ j ≤ 2) ∨ (q = x + 1575 ∧ j = 0) ∨ (q = x + 1497 ∧ (j = 0 ∨ j = 8 ∨ j = 9 ∨ j = 10))
theorem cmF_fr (F : Fz (cmF x c) σ τ) (hc : c = x + 1481 ∨ c = x + 1489) : Fr x [6] σ τ := F.fr fun i q j hc' hi z => by
  unfold cmF at z
  by_cases y : q = c + 6 ∨ q = c + 7
  · have : i = 6 := cp_dj hc' (show cp x 6 q j from Or.inl (by omega))
    exact hi (by rw [this]; simp)
  · rcases i with _ | _ | _ | _ | _ | _ | _ | _ | i
    all_goals first | exact hc'.elim | (simp only [cp] at hc'; omega)
theorem RCm_t (h : RCm x σ) (w : Int32) : RCm x (mx_setI (th σ) (x + 1497) 0 w) := h.fr (Fr_throw (ns := []) w) (by simp)
theorem RCm_F (h1 : mxR σ x 8 = some c) (h2 : mxR σ x 9 = some c') (h3 : (c = x + 1481 ∧ c' = x + 1489) ∨ (c = x + 1489 ∧ c' = x + 1481)) (ho : CmO n W K L T B) (h5 : CmC σ c n W K L T B) (h6 : CmR σ (x + 1497) n W K L T B) (F : Fz (cmF x c) σ τ) : RCm x τ :=
  ⟨c, c', n, W, K, L, T, B, by rw [F.2.1]; exact h1, by rw [F.2.1]; exact h2, h3, ho, h5.fz F fun q j y => by unfold cmF at y; omega, h6.fz F fun q j y => by unfold cmF at y; omega⟩
theorem g_camAbout (hS : St P σ x) (h : RCm x σ) (a : Int32) : Q64 x σ (f_L_camAbout P x a (x + 1575) σ) (fun τ => f_X12_camAbout P (x + 1497) a τ) [6] (RCm x) := by
  obtain ⟨hH, hb, hN, hrm⟩ := hS
  have hx := LyH_o hH
  have hM := LyH_m hH
  have hbm : mpb P ≤ x + 1497 := by omega
  have hMt : LyM (th σ) (x + 1497) := hM
  have D29 : ∀ w : Int32, 0 < w.toInt → f_X12_camAbout_D29 P (x + 1497) a w (x + 1497) (th σ) = some (0, mx_setI (th σ) (x + 1497) 0 w) := fun w hw => by
    have hM5 : LyM (mx_setI (th σ) (x + 1497) 0 w) (x + 1497) := hM
    unfold f_X12_camAbout_D29
    rw [bd (am_pI hMt hbm _), bd (am_gI hM5), sI_e, if_neg (by rw [q_le, q_i0]; omega)]
  have e3 : (3 : Int32).toInt = 3 ∧ (0 : Int32).toInt = 0 ∧ (3 : Int64).toInt = 3 ∧ (0 : Int64).toInt = 0 := ⟨rfl, rfl, rfl, rfl⟩
  by_cases ra : 0 ≤ a.toInt ∧ a.toInt ≤ 3
  · obtain ⟨c, c', n, W, K, L, T, B, r1, r2, r3, ho, hC, hR⟩ := id h
    have hc : c = x + 1481 ∨ c = x + 1489 := by omega
    have LC : LyC (mxA σ) (mxR σ) c := by rcases hc with rfl | rfl <;> first | exact LyH_c1 hH | exact LyH_c2 hH
    have n30 := ho.1
    have r8 : mg_R σ x 11 8 = some c := (q_gR hx).trans r1
    have hcl : f_X11_camAbout P x a σ = if q_n n ≤ 0 then f_X11_camAbout_D21 P x a 0 σ else f_X11_camAbout_D21 P x a 1 σ := by
      unfold f_X11_camAbout
      rw [bdx (rg_t (by rw [e3.1, e3.2.1]; exact ra) σ), bd r8, bd (ac_gI LC), hC.1]
    have hrf : ∀ τ, LyM τ (x + 1497) → mxI τ (x + 1497) 74 = q_n n → f_X12_camAbout P (x + 1497) a τ = if q_n n = 0 then f_X12_camAbout_D29 P (x + 1497) a 2 (x + 1497) τ else f_X12_camAbout_D29 P (x + 1497) a 0 (x + 1497) τ := fun τ hτ h74 => by
      unfold f_X12_camAbout
      rw [bd2 (in_t (by rw [e3.2.2.1, e3.2.2.2]; exact ra) τ), if_neg zi10, bd (am_gI hτ), h74]
    by_cases n0 : n = 0
    · refine thr64 (w := 2) (ht_camAbout2 hx ?_) ?_ (by decide) (RCm_t h 2)
      · rw [hcl, n0, if_pos (by decide)]
        unfold f_X11_camAbout_D21
        rw [bdxl (np_0 hrm)]
      · show f_X12_camAbout P (x + 1497) a (th σ) = _
        rw [hrf _ hMt hR.1, n0, if_pos (show q_n 0 = (0 : Int32) from rfl), D29 2 (by decide)]
    · rw [if_neg (show ¬ q_n n ≤ 0 from fun y => n0 (by have := (q_nLe (k := n) (l := 0) (by omega) (by omega)).mp y; omega))] at hcl
      have hrf0 : ∀ r σ1, Fz (cmF x c) σ σ1 → ∃ t, Fz (cmF x c) σ t ∧ mxI t (x + 1497) 10 = 0 ∧ mxI t (x + 1497) 0 = 0 ∧ mxL t (x + 1575) 0 = r ∧ f_X12_camAbout P (x + 1497) a (mx_setL σ1 (x + 1575) 0 r) = (if a = 0 then (mx_is t (x + 1497) 12).bind fun i28 => mx_b2 (f_X12_smooth P (x + 1497) t) fun x31 σ30 => some ((x31.toInt64), σ30) else (if a = (3 : Int32) then (mg_I t (x + 1497) 12 74).bind fun x26 => some ((x26.toInt64), t) else (mx_is t (x + 1497) 12).bind fun i17 => (f_X12_steepest P (x + 1497) t).bind fun σ19 => (if a = (1 : Int32) then (mg_L σ19 (x + 1497) 12 8).bind fun x24 => f_X12_camAbout_D87 P x24 σ19 else (mg_L σ19 (x + 1497) 12 9).bind fun x22 => f_X12_camAbout_D87 P x22 σ19))) := fun r σ1 F1 => by
        have F4 : Fz (cmF x c) σ (mx_setL σ1 (x + 1575) 0 r) := F1.sL (Or.inr (Or.inl ⟨rfl, rfl⟩)) _
        have F5 := F4.sI (a := x + 1497) (k := 0) (Or.inr (Or.inr ⟨rfl, by omega⟩)) 0
        have F6 := F5.sI (a := x + 1497) (k := 10) (Or.inr (Or.inr ⟨rfl, by omega⟩)) 0
        refine ⟨_, F6, sI_e, by rw [sI_n (by omega), sI_e], ?_, ?_⟩
        · rw [LsI, LsI, sL_e]
        · rw [hrf _ (F4.M hM) ((hR.fz F4 fun q j y => by unfold cmF at y; omega).1), if_neg (show ¬ q_n n = 0 from fun y => n0 ((q_nI (l := 0) (by omega) (by omega)).mp y))]
          unfold f_X12_camAbout_D29
          rw [bd (am_pI (F4.M hM) hbm _), bd (am_gI (F5.M hM)), sI_e, if_pos (show (0 : Int32) ≤ 0 by decide), bd (am_pZ (F5.M hM) hbm (Or.inl rfl))]
      have fin : ∀ r σ1 t, f_X11_camAbout P x a σ = some (.inr (r, σ1)) → Fz (cmF x c) σ σ1 → Fz (cmF x c) σ t → mxI t (x + 1497) 0 = 0 → mxL t (x + 1575) 0 = r → f_X12_camAbout P (x + 1497) a (mx_setL σ1 (x + 1575) 0 r) = some (r, t) → Q64 x σ (f_L_camAbout P x a (x + 1575) σ) (fun τ => f_X12_camAbout P (x + 1497) a τ) [6] (RCm x) := fun r σ1 t y1 y2 y3 y4 y5 y6 =>
        ⟨0, r, _, t, hr_camAbout hx y1 (by rw [y2.1]; exact LyH_u hH) (by omega), y6, y4, fun _ => y5, y2.1, cmF_fr y3 hc, RCm_F r1 r2 r3 ho hC hR y3⟩
      have SL0 : ∀ q j, SLw (x + 1497) q j → cmF x c q j := fun q j y => Or.inr (Or.inr ⟨y.1, by have := y.2; omega⟩)
      have hR6 : ∀ t, Fz (cmF x c) σ t → CmR t (x + 1497) n W K L T B := fun t F => hR.fz F fun q j y => by unfold cmF at y; omega
      obtain ⟨i, hi, rfl⟩ : ∃ i, i < 4 ∧ a = q_n i := ⟨a.toInt.toNat, by omega, q_ofT ra.1⟩
      by_cases i0 : i = 0
      · subst i0
        obtain ⟨t, F, z10, z0, zr, er⟩ := hrf0 (q_n (cmS K L n)).toInt64 σ Fz.rf
        obtain ⟨τ, e, f⟩ := r_smo (P := P) (by omega) (F.M hM) hbm ho (hR6 t F) (by omega) z10
        refine fin (q_n (cmS K L n)).toInt64 σ τ ?_ Fz.rf (F.tr (f.mo SL0)) ?_ ?_ ?_
        · rw [hcl]
          unfold f_X11_camAbout_D21
          rw [bdx (np_1 σ), if_pos (show q_n 0 = (0 : Int32) from rfl), bd r8, bd (ac_is LC), bd2 (c_smo LC (by omega) ho hC)]
        · rw [f.gi (fun y => by unfold SLw at y; omega)]; exact z0
        · rw [(f.2.2.2 _ _ (fun y => by unfold SLw at y; omega)).2]; exact zr
        · rw [er, if_pos (show q_n 0 = (0 : Int32) from rfl), bd (am_is (F.M hM)), bd2 e]
      · have i0' : ¬ q_n i = 0 := fun y => i0 ((q_nI (l := 0) (by omega) (by omega)).mp y)
        by_cases i3 : i = 3
        · subst i3
          obtain ⟨t, F, z10, z0, zr, er⟩ := hrf0 (q_n n).toInt64 σ Fz.rf
          refine fin (q_n n).toInt64 σ t ?_ Fz.rf F z0 zr ?_
          · rw [hcl]
            unfold f_X11_camAbout_D21
            rw [bdx (np_1 σ), if_neg i0', if_pos (show q_n 3 = (3 : Int32) from rfl), bd r8, bd (ac_gI LC), hC.1]
          · rw [er, if_neg i0', if_pos (show q_n 3 = (3 : Int32) from rfl), bd (am_gI (F.M hM)), (hR6 t F).1]
        · have i3' : ¬ q_n i = (3 : Int32) := fun y => i3 ((q_nI (l := 3) (by omega) (by omega)).mp y)
          obtain ⟨σ1, e1, n1, f1⟩ := c_stp (P := P) (by omega) LC (by omega) (LyH_f hH) (by omega) (by omega) ho hC
          have F1 : Fz (cmF x c) σ σ1 := f1.mo fun q j y => Or.inl ⟨by omega, y.2⟩
          have A1 : mxA σ1 (x + 128) = some (.inl 3) := F1.A3 (LyH_f hH)
          have r5 : mg_R σ1 x 11 5 = some (x + 128) := (q_gR (by rw [F1.1]; exact hx)).trans (by rw [F1.2.1]; exact LyH_r5 hH)
          obtain ⟨t, F, z10, z0, zr, er⟩ := hrf0 (l_n (if i = 1 then (stB W K L T B n).1 else (stB W K L T B n).2)) σ1 F1
          obtain ⟨τ, e, g8, g9, f⟩ := r_stp (P := P) (by omega) (F.M hM) hbm ho (hR6 t F) z10
          refine fin (l_n (if i = 1 then (stB W K L T B n).1 else (stB W K L T B n).2)) σ1 τ ?_ F1 (F.tr (f.mo SL0)) ?_ ?_ ?_
          · rw [hcl]
            unfold f_X11_camAbout_D21
            rw [bdx (np_1 σ), if_neg i0', if_neg i3', bd r8, bd (ah_r5 hH), bd (ac_is LC), bd e1, bd r5, bd (q_is A1)]
            unfold f_X3_number f_X3_number_D15
            by_cases i1 : i = 1
            · subst i1
              rw [if_pos rfl, if_pos (by decide), bd (q_gL A1), n1.1, bd2 rfl]
            · have i2 : i = 2 := by omega
              subst i2
              rw [if_neg (by decide), if_neg (by decide), bd (q_gL A1), n1.2.1, bd2 rfl]
          · rw [f.gi (fun y => by unfold SLw at y; omega)]; exact z0
          · rw [(f.2.2.2 _ _ (fun y => by unfold SLw at y; omega)).2]; exact zr
          · rw [er, if_neg i0', if_neg i3', bd (am_is (F.M hM)), bd e]
            unfold f_X12_camAbout_D87
            have Mτ := f.M (F.M hM)
            by_cases i1 : i = 1
            · subst i1
              rw [if_pos (show q_n 1 = (1 : Int32) from rfl), if_pos rfl, bd (am_gL Mτ), g8]
            · have i2 : i = 2 := by omega
              subst i2
              rw [if_neg (by decide), if_neg (by decide), bd (am_gL Mτ), g9]
  · refine thr64 (w := 1) (ht_camAbout1 hx ?_) ?_ (by decide) (RCm_t h 1)
    · unfold f_X11_camAbout
      rw [bdxl (rg_f (by rw [e3.1, e3.2.1]; exact ra) hrm)]
    · show f_X12_camAbout P (x + 1497) a (th σ) = _
      unfold f_X12_camAbout
      rw [bd2 (in_f (by rw [e3.2.2.1, e3.2.2.2]; exact ra) _), if_pos rfl, D29 1 (by decide)]
end KQS
