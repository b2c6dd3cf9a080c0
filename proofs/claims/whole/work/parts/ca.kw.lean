/-! ===== kw: lift ===== -/
section KWS
variable {P : mx_P} {σ σ1 τ : mx_S} {x n c c' m k g f a b p q r : Nat} {W K L : Nat → Nat} {T B : Nat → Int} {o : Option (Int × Int)} {u v : Int64}
theorem rfF (F : Fz (fun q j => q = x + 1497 ∧ (j = 0 ∨ j = 8 ∨ j = 9 ∨ j = 10)) σ τ) : Fr x [] σ τ := F.fr fun i q j hc' hi z => by
  rcases i with _ | _ | _ | _ | _ | _ | _ | _ | i
  all_goals first | exact hc'.elim | (simp only [cp] at hc'; omega)
theorem g_lift (hS : St P σ x) (h : RCm x σ) (a b c : Int32) : Q64 x σ (f_L_lift P x a b c (x + 1575) σ) (fun τ => f_X12_lift P (x + 1497) a b c τ) [6] (RCm x) := by
  obtain ⟨hH, hb, hN, hrm⟩ := hS
  have hx := LyH_o hH
  have hM := LyH_m hH
  have hbm : mpb P ≤ x + 1497 := by omega
  have hMt : LyM (th σ) (x + 1497) := hM
  have D67 : ∀ w : Int32, 0 < w.toInt → f_X12_lift_D67 P (x + 1497) a b c w (x + 1497) (th σ) = some (0, mx_setI (th σ) (x + 1497) 0 w) := fun w hw => by
    have hM5 : LyM (mx_setI (th σ) (x + 1497) 0 w) (x + 1497) := hM
    unfold f_X12_lift_D67
    rw [bd (am_pI hMt hbm _), bd (am_gI hM5), sI_e, if_neg (by rw [q_le, q_i0]; omega)]
  have D42 : f_X12_lift_D42 P (x + 1497) a b c (th σ) = some (0, mx_setI (th σ) (x + 1497) 0 1) := by
    unfold f_X12_lift_D42 f_X12_lift_D43
    rw [if_pos rfl, D67 1 (by decide)]
  have e3 : (0 : Int32).toInt = 0 ∧ (1 : Int32).toInt = 1 ∧ (1000 : Int32).toInt = 1000 := ⟨rfl, rfl, rfl⟩
  have e4 : (0 : Int64).toInt = 0 ∧ (1 : Int64).toInt = 1 ∧ (1000 : Int64).toInt = 1000 := ⟨rfl, rfl, rfl⟩
  have bad : f_X11_lift P x a b c σ = some (.inl ("java/lang/IllegalArgumentException", th σ)) → f_X12_lift P (x + 1497) a b c (th σ) = f_X12_lift_D42 P (x + 1497) a b c (th σ) → Q64 x σ (f_L_lift P x a b c (x + 1575) σ) (fun τ => f_X12_lift P (x + 1497) a b c τ) [6] (RCm x) := fun h1 h2 =>
    thr64 (w := 1) (ht_lift1 hx h1) (by
      show f_X12_lift P (x + 1497) a b c (th σ) = _
      rw [h2, D42]) (by decide) (RCm_t h 1)
  by_cases rc : 0 ≤ c.toInt ∧ c.toInt ≤ 1
  · by_cases rb : 1 ≤ b.toInt ∧ b.toInt ≤ 1000
    · obtain ⟨q, hq0, rfl⟩ : ∃ q, q < 1001 ∧ b = q_n q := ⟨b.toInt.toNat, by omega, q_ofT (by omega)⟩
      have tq : (q_n q).toInt = q := q_nT (by omega)
      have hq : 1 ≤ q := by omega
      have hq2 : q ≤ 1000 := by omega
      have e360 : ((360 : Int32) * q_n q - 1).toInt = 360 * q - 1 := by
        have : (360 : Int32) * q_n q = q_n (360 * q) := by rw [show (360 : Int32) = q_n 360 from rfl, q_nM]
        have e1 : (1 : Int32).toInt = 1 := rfl
        rw [this, q_isub (by rw [q_nT (by omega), e1]; omega) (by rw [q_nT (by omega), e1]; omega), q_nT (by omega), e1]
        omega
      have cm360 : ∀ p : Nat, p < 2147483648 → (0 ≤ lg_cmp ((q_n p).toInt64) ((360 : Int64) * (q_n q).toInt64) ↔ 360 * q ≤ p) := fun p hp => by
        rw [q_nL hp, q_nL (by omega), show (360 : Int64) = l_n 360 from rfl, l_nM, q_cmp_ge, l_nLe (by omega) (by omega)]
      by_cases ra : 0 ≤ a.toInt ∧ a.toInt ≤ 360 * q - 1
      · obtain ⟨p, hp0, rfl⟩ : ∃ p, p < 360000 ∧ a = q_n p := ⟨a.toInt.toNat, by omega, q_ofT (by omega)⟩
        have tp : (q_n p).toInt = p := q_nT (by omega)
        have hp : p < 360 * q := by omega
        obtain ⟨cc, c', n, W, K, L, T, B, r1, r2, r3, ho, hC, hR⟩ := id h
        have hcc : cc = x + 1481 ∨ cc = x + 1489 := by omega
        have LC : LyC (mxA σ) (mxR σ) cc := by rcases hcc with rfl | rfl <;> first | exact LyH_c1 hH | exact LyH_c2 hH
        have n30 := ho.1
        have r8 : mg_R σ x 11 8 = some cc := (q_gR hx).trans r1
        have hcl : f_X11_lift P x (q_n p) (q_n q) c σ = if q_n n ≤ 0 then f_X11_lift_D41 P x (q_n p) (q_n q) c 0 σ else f_X11_lift_D41 P x (q_n p) (q_n q) c 1 σ := by
          unfold f_X11_lift
          rw [bdx (rg_t (by rw [e3.1, e3.2.1]; exact rc) σ), bdx (rg_t (by rw [e3.2.1, e3.2.2]; exact rb) σ), bdx (rg_t (by rw [e3.1, e360]; exact ra) σ), bd r8, bd (ac_gI LC), hC.1]
        have hrf : ∀ τ, LyM τ (x + 1497) → mxI τ (x + 1497) 74 = q_n n → f_X12_lift P (x + 1497) (q_n p) (q_n q) c τ = if q_n n = 0 then f_X12_lift_D67 P (x + 1497) (q_n p) (q_n q) c 2 (x + 1497) τ else f_X12_lift_D67 P (x + 1497) (q_n p) (q_n q) c 0 (x + 1497) τ := fun τ hτ h74 => by
          unfold f_X12_lift f_X12_lift_D43
          rw [bd2 (in_t (by rw [e4.2.1, e4.2.2]; exact rb) τ), if_neg zi10, if_neg (show ¬ q_n p < 0 by rw [q_lt, tp, e3.1]; omega), if_neg (fun y => by have := (cm360 p (by omega)).mp y; omega), bd2 (in_t (by rw [e4.1, e4.2.1]; exact rc) τ), if_neg zi10, if_neg zi10, bd (am_gI hτ), h74]
        by_cases n0 : n = 0
        · refine thr64 (w := 2) (ht_lift2 hx ?_) ?_ (by decide) (RCm_t h 2)
          · rw [hcl, n0, if_pos (by decide)]
            unfold f_X11_lift_D41
            rw [bdxl (np_0 hrm)]
          · show f_X12_lift P (x + 1497) (q_n p) (q_n q) c (th σ) = _
            rw [hrf _ hMt hR.1, n0, if_pos (show q_n 0 = (0 : Int32) from rfl), D67 2 (by decide)]
        · rw [if_neg (show ¬ q_n n ≤ 0 from fun y => n0 (by have := (q_nLe (k := n) (l := 0) (by omega) (by omega)).mp y; omega))] at hcl
          have n0' : ¬ q_n n = 0 := fun y => n0 ((q_nI (l := 0) (by omega) (by omega)).mp y)
          have s360 : kqs n W = 360 := by
            rcases ho.2.2 with z | ⟨z, -⟩
            · exact absurd z n0
            · exact z
          obtain ⟨k, hk, k1, k2, k3⟩ := li_k (p := p) (q := q) (n := n) (W := W) (by rw [s360]; exact hp)
          obtain ⟨σ1, e1, f1, g1⟩ := c_lif (P := P) (by omega) LC (by omega) (LyH_f hH) (by omega) (by omega) ho hC n0 hk hq hq2 hp k1 k2 k3
          have F1 : Fz (cmF x cc) σ σ1 := f1.mo fun q j y => Or.inl ⟨y.1, y.2⟩
          have A1 : mxA σ1 (x + 128) = some (.inl 3) := F1.A3 (LyH_f hH)
          have r5 : mg_R σ1 x 11 5 = some (x + 128) := (q_gR (by rw [F1.1]; exact hx)).trans (by rw [F1.2.1]; exact LyH_r5 hH)
          have hw : c = 0 ∨ c = 1 := by
            obtain ⟨i, hi, rfl⟩ : ∃ i, i < 2 ∧ c = q_n i := ⟨c.toInt.toNat, by omega, q_ofT rc.1⟩
            obtain rfl | rfl : i = 0 ∨ i = 1 := by omega
            · exact Or.inl rfl
            · exact Or.inr rfl
          have ec : f_X11_lift P x (q_n p) (q_n q) c σ = if mxI σ1 (x + 128) 2 = 0 then f_X11_lift_D74 P x c 1 σ1 else f_X11_lift_D74 P x c 0 σ1 := by
            rw [hcl]
            unfold f_X11_lift_D41
            rw [bdx (np_1 σ), bd r8, bd (ah_r5 hH), bd (ac_is LC), q_nL (by omega), q_nL (by omega), bd e1, bd r5, bd (q_gI A1)]
          have R1 : RCm x σ1 := RCm_F r1 r2 r3 ho hC hR F1
          have hR1 : CmR σ1 (x + 1497) n W K L T B := hR.fz F1 fun q j y => by unfold cmF at y; omega
          cases hres : liO W K L T B p q k with
          | none =>
            rw [hres] at g1
            have ec2 : f_X11_lift P x (q_n p) (q_n q) c σ = some (.inl ("java/lang/IllegalStateException", th σ1)) := by
              rw [ec, if_neg (by rw [g1.2.2.2]; decide)]
              unfold f_X11_lift_D74
              rw [bdxl (nl_0 (by unfold Rm; rw [F1.2.2.1.1, F1.2.2.1.2]; exact hrm))]
            have Mt : LyM (th σ1) (x + 1497) := F1.M hM
            have hRt : CmR (th σ1) (x + 1497) n W K L T B := hR1
            obtain ⟨τ, Fm, hτ⟩ := r_lif (P := P) (by omega) Mt hbm ho hRt n0 hk hq hq2 hp k1 k2 k3 c hw
            rw [hres] at hτ
            have Fr1 : Fr x [6] σ (th σ1) := (cmF_fr F1 hcc).th F1.2.2.1.1
            refine ⟨3, 0, th σ1, τ, ht_lift3 hx ec2, ?_, hτ.2, fun z => absurd z (by decide), F1.1, Fr1.tr ((rfF Fm).mo (by simp)) Fm.2.2.1.1, ?_⟩
            · show f_X12_lift P (x + 1497) (q_n p) (q_n q) c (th σ1) = _
              rw [hrf _ Mt hRt.1, if_neg n0', hτ.1]
            · exact (R1.fr (Fr.th (ns := []) Fr.rf rfl) (by simp)).fr (rfF Fm) (by simp)
          | some z =>
            rw [hres] at g1
            obtain ⟨-, -, -, y0, y1, y2⟩ := g1
            obtain ⟨rr, er⟩ : ∃ rr, rr = (if c = 0 then mxL σ1 (x + 128) 0 else mxL σ1 (x + 128) 1) := ⟨_, rfl⟩
            have trr : rr.toInt = if c = 0 then z.1 else z.2 := by rw [er]; split <;> first | exact y1 | exact y2
            have ec2 : f_X11_lift P x (q_n p) (q_n q) c σ = some (.inr (rr, σ1)) := by
              rw [ec, if_pos y0]
              unfold f_X11_lift_D74 f_X3_number f_X3_number_D15
              rw [bdx (nl_1 σ1), bd r5, bd (q_is A1)]
              by_cases c0 : c = 0
              · rw [if_pos c0, bd (q_gL A1), bd2 rfl, er, if_pos c0]
              · rw [if_neg c0, bd (q_gL A1), bd2 rfl, er, if_neg c0]
            have F4 : Fz (cmF x cc) σ (mx_setL σ1 (x + 1575) 0 rr) := F1.sL (Or.inr (Or.inl ⟨rfl, rfl⟩)) _
            have M4 := F4.M hM
            have hR4 := hR.fz F4 fun q j y => by unfold cmF at y; omega
            obtain ⟨τ, Fτ, hτ⟩ := r_lif (P := P) (by omega) M4 hbm ho hR4 n0 hk hq hq2 hp k1 k2 k3 c hw
            rw [hres] at hτ
            obtain ⟨v, hv, tv, zτ⟩ := hτ
            have ev : v = rr := Int64.toInt.inj (by rw [tv, trr])
            rw [ev] at hv
            have FF : Fz (cmF x cc) σ τ := F4.tr (Fτ.mo fun q j y => Or.inr (Or.inr y))
            refine ⟨0, rr, _, τ, hr_lift hx ec2 (by rw [F1.1]; exact LyH_u hH) (by omega), ?_, zτ, fun _ => ?_, F4.1, cmF_fr FF hcc, RCm_F r1 r2 r3 ho hC hR FF⟩
            · show f_X12_lift P (x + 1497) (q_n p) (q_n q) c (mx_setL σ1 (x + 1575) 0 rr) = _
              rw [hrf _ M4 hR4.1, if_neg n0', hv]
            · rw [(Fτ.2.2.2 (x + 1575) 0 (by omega)).2, sL_e]
      · refine bad ?_ ?_
        · unfold f_X11_lift
          rw [bdx (rg_t (by rw [e3.1, e3.2.1]; exact rc) σ), bdx (rg_t (by rw [e3.2.1, e3.2.2]; exact rb) σ), bdxl (rg_f (by rw [e3.1, e360]; exact ra) hrm)]
        · unfold f_X12_lift
          rw [bd2 (in_t (by rw [e4.2.1, e4.2.2]; exact rb) _), if_neg zi10]
          by_cases a0 : a < 0
          · rw [if_pos a0]
          · have a0' : 0 ≤ a.toInt := by rw [q_lt, e3.1] at a0; omega
            obtain ⟨p, hp0, rfl⟩ : ∃ p, p < 2147483648 ∧ a = q_n p := ⟨a.toInt.toNat, by have := Int32.toInt_lt a; omega, q_ofT (by omega)⟩
            rw [if_neg a0, if_pos ((cm360 p hp0).mpr (by rw [q_nT hp0] at ra; omega))]
    · refine bad ?_ ?_
      · unfold f_X11_lift
        rw [bdx (rg_t (by rw [e3.1, e3.2.1]; exact rc) σ), bdxl (rg_f (by rw [e3.2.1, e3.2.2]; exact rb) hrm)]
      · unfold f_X12_lift
        rw [bd2 (in_f (by rw [e4.2.1, e4.2.2]; exact rb) _), if_pos rfl]
  · refine bad ?_ ?_
    · unfold f_X11_lift
      rw [bdxl (rg_f (by rw [e3.1, e3.2.1]; exact rc) hrm)]
    · unfold f_X12_lift
      by_cases rb : 1 ≤ b.toInt ∧ b.toInt ≤ 1000
      · rw [bd2 (in_t (by rw [e4.2.1, e4.2.2]; exact rb) _), if_neg zi10]
        by_cases a0 : a < 0
        · rw [if_pos a0]
        · rw [if_neg a0]
          by_cases a1 : 0 ≤ lg_cmp a.toInt64 ((360 : Int64) * b.toInt64)
          · rw [if_pos a1]
          · rw [if_neg a1, bd2 (in_f (by rw [e4.1, e4.2.1]; exact rc) _), if_pos rfl]
      · rw [bd2 (in_f (by rw [e4.2.1, e4.2.2]; exact rb) _), if_pos rfl]
end KWS
