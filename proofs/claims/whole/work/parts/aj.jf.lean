/-! ===== jf: plate ===== -/
section JFS
variable {P : mx_P} {σ σ0 σ1 σ2 τ : mx_S} {x m n p k : Nat} {X Y : Nat → Int}
theorem pl_tab : ∀ k : Fin 6, md_I (q_n (k.1 + 1) - 1) 2 = some (q_n (k.1 / 2)) ∧ mm_I (q_n (k.1 + 1) - 1) 2 = some (q_n (k.1 % 2)) ∧ mm_I (q_n (k.1 + 1)) 2 = some (if decide (k.1 % 2 = 0) then 1 else 0) := by decide +kernel
theorem g_plate (hS : St P σ x) (h : RPl x σ) (a b : Int32) : Q64 x σ (f_L_plate P x a b (x + 1575) σ) (fun τ => f_X12_plate P (x + 1497) a b τ) [] (RPl x) := by
  obtain ⟨hH, hb, hN, hrm⟩ := hS
  have hx := LyH_o hH
  have hM := LyH_m hH
  have hbm : mpb P ≤ x + 1497 := by omega
  have hMt : LyM (th σ) (x + 1497) := hM
  have D74 : ∀ w : Int32, 0 < w.toInt → f_X12_plate_D74 P (x + 1497) a b w (x + 1497) (th σ) = some (0, mx_setI (th σ) (x + 1497) 0 w) := fun w hw => by
    have hM5 : LyM (mx_setI (th σ) (x + 1497) 0 w) (x + 1497) := hM
    unfold f_X12_plate_D74
    rw [bd (am_pI hMt hbm _), bd (am_gI hM5), sI_e, if_neg (by rw [q_le, q_i0]; omega)]
  have bad : f_X11_plate P x a b σ = some (.inl ("java/lang/IllegalArgumentException", th σ)) → f_X12_plate P (x + 1497) a b (th σ) = f_X12_plate_D28 P (x + 1497) a b (th σ) → Q64 x σ (f_L_plate P x a b (x + 1575) σ) (fun τ => f_X12_plate P (x + 1497) a b τ) [] (RPl x) := fun h1 h2 =>
    thr64 (ht_plate1 hx h1) (by
      show f_X12_plate P (x + 1497) a b (th σ) = _
      rw [h2]
      unfold f_X12_plate_D28 f_X12_plate_D29
      rw [if_pos rfl, D74 1 (by decide)]) (by decide) (RPl_t h 1)
  by_cases ra : 0 ≤ a.toInt ∧ a.toInt ≤ 7
  · by_cases rb : 0 ≤ b.toInt ∧ b.toInt ≤ 8
    · obtain ⟨p, hp, rfl⟩ : ∃ p, p < 8 ∧ a = q_n p := ⟨a.toInt.toNat, by omega, q_ofT ra.1⟩
      obtain ⟨k, hk, rfl⟩ : ∃ k, k < 9 ∧ b = q_n k := ⟨b.toInt.toNat, by omega, q_ofT rb.1⟩
      obtain ⟨n, X, Y, hPl⟩ := h p hp
      have hc := PlC_of hH hp hPl
      obtain ⟨h24, s1, s2, -⟩ := id hPl
      have ec : f_X11_plate P x (q_n p) (q_n k) σ = if q_n n < (3 : Int32) then f_X11_plate_D34 P x (q_n k) (x + 88 + 3 * p) 0 σ else f_X11_plate_D34 P x (q_n k) (x + 88 + 3 * p) 1 σ := by
        unfold f_X11_plate
        rw [bdx (rg_t (l := 0) (u := 7) ra σ), bdx (rg_t (l := 0) (u := 8) rb σ), bd (ah_r2 hH), bd (ah_p hH hp), bd (ap_gI hc.1), s1]
      have er : ∀ τ, LyM τ (x + 1497) → mxI τ (x + 1497 + 59) p = q_n n → f_X12_plate P (x + 1497) (q_n p) (q_n k) τ = (if q_n n < (3 : Int32) then f_X12_plate_D69 P (x + 1497) (q_n p) (q_n k) (x + 1497) τ else (if q_n k ≤ 0 then f_X12_plate_D73 P (x + 1497) (q_n p) (q_n k) (x + 1497) τ else (if (5 : Int32) ≤ q_n k then f_X12_plate_D73 P (x + 1497) (q_n p) (q_n k) (x + 1497) τ else (mx_is τ (x + 1497) 12).bind fun i64 => mx_b2 (f_X12_plateSum P (x + 1497) (q_n p) (0 : Int32) τ) fun x67 σ66 => (if (lg_cmp x67 (0 : Int64)) = 0 then f_X12_plate_D69 P (x + 1497) (q_n p) (q_n k) (x + 1497) σ66 else f_X12_plate_D73 P (x + 1497) (q_n p) (q_n k) (x + 1497) σ66)))) := fun τ hMτ hτ => by
        unfold f_X12_plate f_X12_plate_D29
        rw [bd2 (in_t (l := 0) (u := 7) ra τ), if_neg zi10, bd2 (in_t (l := 0) (u := 8) rb τ), if_neg zi10, if_neg zi10, bd (am_r86 hMτ), bd (am_g86 hMτ hp), hτ]
      by_cases h3 : 3 ≤ n
      · have ln3 : ¬ q_n n < (3 : Int32) := by rw [show (3 : Int32) = q_n 3 from rfl, q_nLt (by omega) (by omega)]; omega
        obtain ⟨ar, ea, ha⟩ := c_twa (P := P) (by omega) hc
        have RPq : ∀ (σ1 : mx_S) (r : Int64), (∀ q j, (x + 87 ≤ q ∧ q < x + 112) ∨ (x + 1556 ≤ q ∧ q ≤ x + 1558) → mxI σ1 q j = mxI σ q j ∧ mxL σ1 q j = mxL σ q j) → RPl x (mx_setI (mx_setL σ1 (x + 1575) 0 r) (x + 1497) 0 0) := fun σ1 r he q hq => by
          obtain ⟨n', X', Y', h'⟩ := h q hq
          exact ⟨n', X', Y', Plt_q hq (Plt_cg hq h' he) r 0⟩
        -- the reference at a good question
        have rgo : ∀ (τ : mx_S), LyM τ (x + 1497) → Plt τ x p n X Y → (0 < k → k < 5 → sm (crE n X Y) n ≠ 0) → f_X12_plate P (x + 1497) (q_n p) (q_n k) τ = f_X12_plate_D73 P (x + 1497) (q_n p) (q_n k) (x + 1497) τ := fun τ hMτ hτ hne => by
          rw [er τ hMτ hτ.2.2.1, if_neg ln3]
          by_cases k0 : k = 0
          · rw [if_pos (by rw [k0]; decide)]
          · rw [if_neg (by rw [show (0 : Int32) = q_n 0 from rfl, q_nLe (by omega) (by omega)]; omega)]
            by_cases k5 : 5 ≤ k
            · rw [if_pos (by rw [show (5 : Int32) = q_n 5 from rfl, q_nLe (by omega) (by omega)]; exact k5)]
            · obtain ⟨y, ey, hy⟩ := r_pls (P := P) (w := 0) (by omega) (PlR_of hMτ hp hτ) (by omega)
              rw [ps_0] at hy
              rw [if_neg (by rw [show (5 : Int32) = q_n 5 from rfl, q_nLe (by omega) (by omega)]; exact k5), bd (am_is hMτ), bd2 (show f_X12_plateSum P (x + 1497) (q_n p) (0 : Int32) τ = some (y, τ) from ey), if_neg (fun z => hne (by omega) (by omega) (by rw [← hy.1, q_cmp0.mp z]; rfl))]
        have okM : ∀ (σ1 : mx_S) (r : Int64), mxA σ1 = mxA σ → mxR σ1 = mxR σ → LyM (mx_setL σ1 (x + 1575) 0 r) (x + 1497) ∧ LyM (mx_setI (mx_setL σ1 (x + 1575) 0 r) (x + 1497) 0 0) (x + 1497) := fun σ1 r hA hR => ⟨by show LyO (mxA σ1) (mxR σ1) 12 al12 (x + 1497); rw [hA, hR]; exact hM, by show LyO (mxA σ1) (mxR σ1) 12 al12 (x + 1497); rw [hA, hR]; exact hM⟩
        have start : ∀ (τ : mx_S), LyM τ (x + 1497) → LyM (mx_setI τ (x + 1497) 0 0) (x + 1497) → f_X12_plate_D73 P (x + 1497) (q_n p) (q_n k) (x + 1497) τ = (if q_n k = 0 then (mx_is (mx_setI τ (x + 1497) 0 0) (x + 1497) 12).bind fun i57 => mx_b2 (f_X12_plateSum P (x + 1497) (q_n p) (0 : Int32) (mx_setI τ (x + 1497) 0 0)) fun x60 σ59 => some (x60, σ59) else (if q_n k ≤ (6 : Int32) then (if (5 : Int32) ≤ q_n k then (mx_is (mx_setI τ (x + 1497) 0 0) (x + 1497) 12).bind fun i19 => mx_b2 (f_X12_plateSum P (x + 1497) (q_n p) (3 : Int32) (mx_setI τ (x + 1497) 0 0)) fun x22 σ21 => f_X12_plate_D149 P (x + 1497) (q_n p) (q_n k) x22 σ21 else (if (3 : Int32) ≤ q_n k then f_X12_plate_D137 P (x + 1497) (q_n p) (q_n k) (2 : Int32) (q_n p) (x + 1497) (mx_setI τ (x + 1497) 0 0) else f_X12_plate_D137 P (x + 1497) (q_n p) (q_n k) (1 : Int32) (q_n p) (x + 1497) (mx_setI τ (x + 1497) 0 0))) else (if q_n k = (7 : Int32) then f_X12_plate_D116 P (1 : Int32) (q_n p) (x + 1497) (mx_setI τ (x + 1497) 0 0) else f_X12_plate_D116 P (0 : Int32) (q_n p) (x + 1497) (mx_setI τ (x + 1497) 0 0)))) := fun τ h1 h2 => by
          unfold f_X12_plate_D73 f_X12_plate_D74
          rw [bd (am_pI h1 hbm _), bd (am_gI h2), sI_e, if_pos (show (0 : Int32) ≤ 0 by decide)]
        by_cases k0 : k = 0
        · subst k0
          refine qry64 (σ1 := σ) (r := ar) Fr.rf rfl (hr_plate hx ?_ (LyH_u hH) (by omega)) ?_ (RPq σ _ fun _ _ _ => ⟨rfl, rfl⟩)
          · rw [ec, if_neg ln3]
            unfold f_X11_plate_D34
            rw [bdx (np_1 σ), if_pos (show q_n 0 = 0 from rfl), bd (ap_is hc.1), bd2 ea]
          · obtain ⟨m4, m5⟩ := okM σ ar rfl rfl
            obtain ⟨y, ey, hy⟩ := r_pls (P := P) (w := 0) (by omega) (PlR_of m5 hp (Plt_q hp hPl ar 0)) (by omega)
            rw [ps_0] at hy
            have e : y = ar := Int64.toInt.inj (hy.1.trans ha.1.symm)
            show f_X12_plate P (x + 1497) (q_n p) (q_n 0) (mx_setL σ (x + 1575) 0 ar) = _
            rw [rgo _ m4 (Plt_cg hp hPl fun q j hq => ⟨rfl, by rw [sL_n (by omega)]⟩) (fun z => by omega), start _ m4 m5, if_pos (show q_n 0 = 0 from rfl), bd (am_is m5), bd2 (show f_X12_plateSum P (x + 1497) (q_n p) (0 : Int32) _ = some (y, _) from ey), e]
        by_cases k7 : 7 ≤ k
        · have hb7 : (if q_n k = (7 : Int32) then (1 : Int32) else 0) = bI (decide (k = 7)) := by
            by_cases e : k = 7
            · rw [if_pos (by rw [e]; rfl), decide_eq_true e]; rfl
            · rw [if_neg (show ¬ q_n k = (7 : Int32) from fun z => e ((q_nI (by omega) (by omega)).mp (show q_n k = q_n 7 from z))), decide_eq_false e]; rfl
          have nk0 : ¬ q_n k = 0 := fun z => k0 ((q_nI (by omega) (by omega)).mp (show q_n k = q_n 0 from z))
          refine qry64 (σ1 := σ) (r := (xR n X Y (decide (k = 7))).toInt64) Fr.rf rfl (hr_plate hx ?_ (LyH_u hH) (by omega)) ?_ (RPq σ _ fun _ _ _ => ⟨rfl, rfl⟩)
          · rw [ec, if_neg ln3]
            unfold f_X11_plate_D34 f_X11_plate_D64
            rw [bdx (np_1 σ), if_neg nk0, if_neg (by rw [show (7 : Int32) = q_n 7 from rfl, q_nLt (by omega) (by omega)]; omega)]
            have go : ∀ w : Int32, w = bI (decide (k = 7)) → ((mx_is σ (x + 88 + 3 * p) 9).bind fun i43 => mx_b2 (f_X9_crossing P (x + 88 + 3 * p) w σ) fun x46 σ45 => some (.inr ((x46.toInt64), σ45))) = (some (.inr ((xR n X Y (decide (k = 7))).toInt64, σ)) : Option ((String × mx_S) ⊕ (Int64 × mx_S))) := fun w hw => by
              rw [bd (ap_is hc.1), hw, bd2 (c_xng (by omega) hc)]
            by_cases e : k = 7
            · rw [if_pos (by rw [e]; rfl)]; exact go 1 (by rw [decide_eq_true e]; rfl)
            · rw [if_neg (show ¬ q_n k = (7 : Int32) from fun z => e ((q_nI (by omega) (by omega)).mp (show q_n k = q_n 7 from z)))]; exact go 0 (by rw [decide_eq_false e]; rfl)
          · obtain ⟨m4, m5⟩ := okM σ (xR n X Y (decide (k = 7))).toInt64 rfl rfl
            have hPR := PlR_of m5 hp (Plt_q hp hPl (xR n X Y (decide (k = 7))).toInt64 0)
            show f_X12_plate P (x + 1497) (q_n p) (q_n k) (mx_setL σ (x + 1575) 0 (xR n X Y (decide (k = 7))).toInt64) = _
            rw [rgo _ m4 (Plt_cg hp hPl fun q j hq => ⟨rfl, by rw [sL_n (by omega)]⟩) (fun _ z => by omega), start _ m4 m5, if_neg nk0, if_neg (by rw [show (6 : Int32) = q_n 6 from rfl, q_nLe (by omega) (by omega)]; omega)]
            unfold f_X12_plate_D116
            have go : ∀ w : Int32, w = bI (decide (k = 7)) → ((mx_is (mx_setI (mx_setL σ (x + 1575) 0 (xR n X Y (decide (k = 7))).toInt64) (x + 1497) 0 0) (x + 1497) 12).bind fun i52 => mx_b2 (f_X12_crossed P (x + 1497) (q_n p) w (mx_setI (mx_setL σ (x + 1575) 0 (xR n X Y (decide (k = 7))).toInt64) (x + 1497) 0 0)) fun x55 σ54 => some (x55, σ54)) = some ((xR n X Y (decide (k = 7))).toInt64, mx_setI (mx_setL σ (x + 1575) 0 (xR n X Y (decide (k = 7))).toInt64) (x + 1497) 0 0) := fun w hw => by
              rw [bd (am_is m5), hw, bd2 (r_xng (by omega) hPR)]
            by_cases e : k = 7
            · rw [if_pos (by rw [e]; rfl)]; exact go 1 (by rw [decide_eq_true e]; rfl)
            · rw [if_neg (show ¬ q_n k = (7 : Int32) from fun z => e ((q_nI (by omega) (by omega)).mp (show q_n k = q_n 7 from z)))]; exact go 0 (by rw [decide_eq_false e]; rfl)
        · -- 1 .. 6
          have nk0 : ¬ q_n k = 0 := fun z => k0 ((q_nI (by omega) (by omega)).mp (show q_n k = q_n 0 from z))
          obtain ⟨j, hj, rfl⟩ : ∃ j, j < 6 ∧ k = j + 1 := ⟨k - 1, by omega, by omega⟩
          obtain ⟨t1, t2, t3⟩ := pl_tab ⟨j, hj⟩
          dsimp only at t1 t2 t3
          by_cases hne : j + 1 < 5 ∧ sm (crE n X Y) n = 0
          · -- no area
            refine thr64 (w := 2) (ht_plate2 hx ?_) ?_ (by decide) (RPl_t h 2)
            · rw [ec, if_neg ln3]
              unfold f_X11_plate_D34 f_X11_plate_D88
              rw [bdx (np_1 σ), if_neg nk0, if_pos (by rw [show (7 : Int32) = q_n 7 from rfl, q_nLt (by omega) (by omega)]; omega), if_neg (by rw [show (5 : Int32) = q_n 5 from rfl, q_nLe (by omega) (by omega)]; omega), bd (ap_is hc.1), bd2 ea, if_pos (q_cmp0.mpr (Int64.toInt.inj (by rw [ha.1, hne.2]; rfl))), bdxl (np_0 hrm)]
            · have hPt : Plt (th σ) x p n X Y := hPl
              obtain ⟨y, ey, hy⟩ := r_pls (P := P) (w := 0) (by omega) (PlR_of hMt hp hPt) (by omega)
              rw [ps_0] at hy
              show f_X12_plate P (x + 1497) (q_n p) (q_n (j + 1)) (th σ) = _
              rw [er (th σ) hMt s2, if_neg ln3, if_neg (by rw [show (0 : Int32) = q_n 0 from rfl, q_nLe (by omega) (by omega)]; omega), if_neg (by rw [show (5 : Int32) = q_n 5 from rfl, q_nLe (by omega) (by omega)]; omega), bd (am_is hMt), bd2 (show f_X12_plateSum P (x + 1497) (q_n p) (0 : Int32) (th σ) = some (y, th σ) from ey), if_pos (q_cmp0.mpr (Int64.toInt.inj (by rw [hy.1, hne.2]; rfl)))]
              exact D74 2 (by decide)
          · have hw3 : j / 2 < 3 := by omega
            have hd0 : j / 2 ≠ 2 → sm (crE n X Y) n ≠ 0 := fun z z2 => hne ⟨by omega, z2⟩
            have hr3 : mxA σ (x + 128) = some (.inl 3) := LyH_f hH
            obtain ⟨σ1, e1, ⟨g1, g2, g3⟩, F1⟩ := c_rck (P := P) (w := j / 2) (r := x + 128) (by omega) hc hw3 hr3 (by omega) hd0
            generalize hS : sm (fun k => crE n X Y k * wgE n X Y (j / 2) k) n = S at g2 g3
            generalize hD : (if j / 2 = 2 then (12 : Int) else 3 * sm (crE n X Y) n) = D at g2 g3
            have hDn : D ≠ 0 := by
              rw [← hD]
              by_cases c2 : j / 2 = 2
              · rw [if_pos c2]; decide
              · rw [if_neg c2]; have := hd0 c2; omega
            have A1 : mxA σ1 (x + 128) = some (.inl 3) := by rw [F1.1]; exact hr3
            obtain ⟨r, er', hrr⟩ : ∃ r, f_X3_number P (x + 128) (q_n (j % 2)) σ1 = some (r, σ1) ∧ r.toInt = if decide (j % 2 = 0) then frP S D else frQ S D := by
              unfold f_X3_number f_X3_number_D15
              by_cases c : j % 2 = 0
              · rw [c, if_pos (show q_n 0 = 0 from rfl), bd (q_gL A1)]
                exact ⟨_, rfl, g2⟩
              · have c' : j % 2 = 1 := by omega
                rw [c', if_neg (show ¬ q_n 1 = 0 by decide), bd (q_gL A1)]
                exact ⟨_, rfl, g3⟩
            have F1' : Fr x [] σ σ1 := F1.fr fun i q j' hq hi hs => by
              obtain ⟨rfl, -⟩ := hs
              rcases i with _ | _ | _ | _ | _ | _ | _ | _ | i <;> first | exact hq.elim | (simp only [cp] at hq; omega)
            have ce : ∀ q j', (x + 87 ≤ q ∧ q < x + 112) ∨ (x + 1556 ≤ q ∧ q ≤ x + 1558) → mxI σ1 q j' = mxI σ q j' ∧ mxL σ1 q j' = mxL σ q j' := fun q j' hq => F1.2.2.2 q j' (fun z => by omega)
            refine qry64 (σ1 := σ1) (r := r) F1' F1.2.2.1.1 (hr_plate hx ?_ (by rw [F1.1]; exact LyH_u hH) (by omega)) ?_ (RPq σ1 _ ce)
            · have d88 : f_X11_plate_D88 P x (q_n (j + 1)) (x + 88 + 3 * p) 1 σ = some (.inr (r, σ1)) := by
                have r5 : mg_R σ1 x 11 5 = some (x + 128) := (q_gR (by rw [F1.1]; exact hx)).trans (by rw [F1.2.1]; exact LyH_r5 hH)
                unfold f_X11_plate_D88
                rw [bdx (np_1 σ), bd t1, bd (ah_r5 hH), bd (ap_is hc.1), bd e1, bd r5, bd t2, bd (q_is A1), bd2 er']
              rw [ec, if_neg ln3]
              unfold f_X11_plate_D34 f_X11_plate_D83
              rw [bdx (np_1 σ), if_neg nk0, if_pos (by rw [show (7 : Int32) = q_n 7 from rfl, q_nLt (by omega) (by omega)]; omega)]
              by_cases k5 : 5 ≤ j + 1
              · rw [if_pos (by rw [show (5 : Int32) = q_n 5 from rfl, q_nLe (by omega) (by omega)]; exact k5)]; exact d88
              · rw [if_neg (by rw [show (5 : Int32) = q_n 5 from rfl, q_nLe (by omega) (by omega)]; exact k5), bd (ap_is hc.1), bd2 ea, if_neg (fun z => hne ⟨by omega, by rw [← ha.1, q_cmp0.mp z]; rfl⟩)]; exact d88
            · obtain ⟨m4, m5⟩ := okM σ1 r F1.1 F1.2.1
              have hPl1 := Plt_cg hp hPl ce
              have hPR := PlR_of m5 hp (Plt_q hp hPl1 r 0)
              obtain ⟨y, ey, hy⟩ := r_pls (P := P) (w := j / 2 + 1) (by omega) hPR (by omega)
              rw [ps_w hw3, hS] at hy
              have d149 : f_X12_plate_D149 P (x + 1497) (q_n p) (q_n (j + 1)) y (mx_setI (mx_setL σ1 (x + 1575) 0 r) (x + 1497) 0 0) = some (r, mx_setI (mx_setL σ1 (x + 1575) 0 r) (x + 1497) 0 0) := by
                unfold f_X12_plate_D149
                by_cases k5 : 5 ≤ j + 1
                · have hD' : D = 12 := by rw [← hD, if_pos (by omega)]
                  obtain ⟨r', e', hr'⟩ := r_frc (P := P) (σ := mx_setI (mx_setL σ1 (x + 1575) 0 r) (x + 1497) 0 0) (b := decide (j % 2 = 0)) (w := q_n (j + 1)) (by omega) t3 hy (show B64 (12 : Int64) D 12 from ⟨by rw [hD']; rfl, by rw [hD']; decide⟩) (by omega) (by omega) hDn
                  rw [if_pos (by rw [show (5 : Int32) = q_n 5 from rfl, q_nLe (by omega) (by omega)]; exact k5), e', show r' = r from Int64.toInt.inj (hr'.trans hrr.symm)]
                · obtain ⟨y0, ey0, hy0⟩ := r_pls (P := P) (w := 0) (by omega) hPR (by omega)
                  rw [ps_0] at hy0
                  have hD' : D = 3 * sm (crE n X Y) n := by rw [← hD, if_neg (by omega)]
                  have hv := b64M (show B64 (3 : Int64) 3 3 from ⟨rfl, by decide⟩) hy0 (by omega)
                  rw [← hD'] at hv
                  obtain ⟨r', e', hr'⟩ := r_frc (P := P) (σ := mx_setI (mx_setL σ1 (x + 1575) 0 r) (x + 1497) 0 0) (b := decide (j % 2 = 0)) (w := q_n (j + 1)) (by omega) t3 hy hv (by omega) (by omega) hDn
                  rw [if_neg (by rw [show (5 : Int32) = q_n 5 from rfl, q_nLe (by omega) (by omega)]; exact k5), bd (am_is m5), bd2 (show f_X12_plateSum P (x + 1497) (q_n p) (0 : Int32) _ = some (y0, _) from ey0), e', show r' = r from Int64.toInt.inj (hr'.trans hrr.symm)]
              show f_X12_plate P (x + 1497) (q_n p) (q_n (j + 1)) (mx_setL σ1 (x + 1575) 0 r) = _
              rw [rgo _ m4 (Plt_cg hp hPl1 fun q j hq => ⟨rfl, by rw [sL_n (by omega)]⟩) (fun _ z z2 => hne ⟨z, z2⟩), start _ m4 m5, if_neg nk0, if_pos (by rw [show (6 : Int32) = q_n 6 from rfl, q_nLe (by omega) (by omega)]; omega)]
              unfold f_X12_plate_D137
              by_cases k5 : 5 ≤ j + 1
              · have ew : j / 2 + 1 = 3 := by omega
                rw [ew] at ey
                rw [if_pos (by rw [show (5 : Int32) = q_n 5 from rfl, q_nLe (by omega) (by omega)]; exact k5), bd (am_is m5), bd2 (show f_X12_plateSum P (x + 1497) (q_n p) (3 : Int32) _ = some (y, _) from ey), d149]
              · rw [if_neg (by rw [show (5 : Int32) = q_n 5 from rfl, q_nLe (by omega) (by omega)]; exact k5)]
                by_cases k3 : 3 ≤ j + 1
                · have ew : j / 2 + 1 = 2 := by omega
                  rw [ew] at ey
                  rw [if_pos (by rw [show (3 : Int32) = q_n 3 from rfl, q_nLe (by omega) (by omega)]; exact k3), bd (am_is m5), bd2 (show f_X12_plateSum P (x + 1497) (q_n p) (2 : Int32) _ = some (y, _) from ey), d149]
                · have ew : j / 2 + 1 = 1 := by omega
                  rw [ew] at ey
                  rw [if_neg (by rw [show (3 : Int32) = q_n 3 from rfl, q_nLe (by omega) (by omega)]; exact k3), bd (am_is m5), bd2 (show f_X12_plateSum P (x + 1497) (q_n p) (1 : Int32) _ = some (y, _) from ey), d149]
      · refine thr64 (w := 2) (ht_plate2 hx ?_) ?_ (by decide) (RPl_t h 2)
        · rw [ec, if_pos (by rw [show (3 : Int32) = q_n 3 from rfl, q_nLt (by omega) (by omega)]; omega)]
          unfold f_X11_plate_D34
          rw [bdxl (np_0 hrm)]
        · show f_X12_plate P (x + 1497) (q_n p) (q_n k) (th σ) = _
          rw [er (th σ) hMt s2, if_pos (by rw [show (3 : Int32) = q_n 3 from rfl, q_nLt (by omega) (by omega)]; omega)]
          exact D74 2 (by decide)
    · refine bad ?_ ?_
      · unfold f_X11_plate
        rw [bdx (rg_t (l := 0) (u := 7) ra σ), bdxl (rg_f (l := 0) (u := 8) rb hrm)]
      · unfold f_X12_plate
        rw [bd2 (in_t (l := 0) (u := 7) ra (th σ)), if_neg zi10, bd2 (in_f (l := 0) (u := 8) rb (th σ)), if_pos rfl]
  · refine bad ?_ ?_
    · unfold f_X11_plate
      rw [bdxl (rg_f (l := 0) (u := 7) ra hrm)]
    · unfold f_X12_plate
      rw [bd2 (in_f (l := 0) (u := 7) ra (th σ)), if_pos rfl]
end JFS
