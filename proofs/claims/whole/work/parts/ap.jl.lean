/-! ===== jl: distance, both ===== -/
section JLS
variable {P : mx_P} {σ σ0 σ1 σ2 τ : mx_S} {x m n n' p q : Nat} {X Y X' Y' : Nat → Int}
def dsF (x : Nat) : Nat → Nat → Prop := fun q j => (q = x + 128 ∧ j ≤ 2) ∨ (q = x + 1575 ∧ j = 0) ∨ (q = x + 1497 ∧ (j = 0 ∨ j = 89 ∨ j = 90))
theorem ds_fr (h : Fz (dsF x) σ τ) : Fr x [] σ τ := h.fr fun i q j hq hi hs => by
  unfold dsF at hs
  rcases i with _ | _ | _ | _ | _ | _ | _ | _ | i <;> first | exact hq.elim | (simp only [cp] at hq; omega)
theorem ds_RP (h : RPl x σ) (f : Fz (dsF x) σ τ) : RPl x τ := fun p hp => by
  obtain ⟨n, X, Y, h⟩ := h p hp
  exact ⟨n, X, Y, Plt_cg hp h fun q j hq => f.2.2.2 q j (fun z => by unfold dsF at z; omega)⟩
/-- the same least distance -/
theorem ds_u {p q p' q' : Nat} (hn : 0 < n) (hn' : 0 < n') (h : Mn p q (DG n X Y n' X' Y' (fun c d => c = (faE X Y 0 (X' 0) (Y' 0)).toNat ∧ d = 1) n 0)) (h' : Mn p' q' (DR n' X' Y' n X Y (DR n X Y n' X' Y' (fun _ _ => False) n 0) n' 0)) : p = p' ∧ q = q' := by
  refine Mn_u h h' (fun c d hd _ => ?_) (fun c d hd _ => ?_)
  · rcases hd with (z | ⟨i, j, a1, a2, -, rfl, rfl⟩) | ⟨j, i, a1, a2, -, rfl, rfl⟩
    · exact z.elim
    · refine ⟨(vC n' X' Y' j (X i) (Y i)).1, (vC n' X' Y' j (X i) (Y i)).2, Or.inr ⟨i, j, a1, a2, Or.inl a1, Or.inr ⟨rfl, rfl⟩⟩, v_pos.1, Nat.le_of_eq v_eq⟩
    · refine ⟨(vC n X Y i (X' j) (Y' j)).1, (vC n X Y i (X' j) (Y' j)).2, Or.inr ⟨i, j, a2, a1, Or.inl a2, Or.inl ⟨rfl, rfl⟩⟩, v_pos.1, Nat.le_of_eq v_eq⟩
  · rcases hd with ⟨rfl, rfl⟩ | ⟨i, j, a1, a2, -, ⟨rfl, rfl⟩ | ⟨rfl, rfl⟩⟩
    · refine ⟨(vR n X Y 0 (X' 0) (Y' 0)).1, (vR n X Y 0 (X' 0) (Y' 0)).2, Or.inr ⟨0, 0, hn', hn, Or.inl hn', rfl, rfl⟩, v_pos.2, ?_⟩
      have e1 := v_eq (n := n) (X := X) (Y := Y) (i := 0) (x := X' 0) (y := Y' 0)
      have e2 := v_le (n := n) (X := X) (Y := Y) (i := 0) (x := X' 0) (y := Y' 0)
      have e3 := (v_pos (n := n) (X := X) (Y := Y) (i := 0) (x := X' 0) (y := Y' 0)).1
      apply Nat.le_of_mul_le_mul_right _ e3
      have e4 := Nat.mul_le_mul_right (vR n X Y 0 (X' 0) (Y' 0)).2 e2
      grind
    · refine ⟨(vR n X Y i (X' j) (Y' j)).1, (vR n X Y i (X' j) (Y' j)).2, Or.inr ⟨j, i, a2, a1, Or.inl a2, rfl, rfl⟩, v_pos.2, Nat.le_of_eq v_eq.symm⟩
    · refine ⟨(vR n' X' Y' j (X i) (Y i)).1, (vR n' X' Y' j (X i) (Y i)).2, Or.inl (Or.inr ⟨i, j, a1, a2, Or.inl a1, rfl, rfl⟩), v_pos.2, Nat.le_of_eq v_eq.symm⟩
theorem g_distance (hS : St P σ x) (h : RPl x σ) (a b c : Int32) : Q64 x σ (f_L_distance P x a b c (x + 1575) σ) (fun τ => f_X12_distance P (x + 1497) a b c τ) [] (RPl x) := by
  obtain ⟨hH, hb, hN, hrm⟩ := hS
  have hx := LyH_o hH
  have hM := LyH_m hH
  have hbm : mpb P ≤ x + 1497 := by omega
  have hMt : LyM (th σ) (x + 1497) := hM
  have D76 : ∀ w : Int32, 0 < w.toInt → f_X12_distance_D76 P (x + 1497) a b c w (x + 1497) (th σ) = some (0, mx_setI (th σ) (x + 1497) 0 w) := fun w hw => by
    have hM5 : LyM (mx_setI (th σ) (x + 1497) 0 w) (x + 1497) := hM
    unfold f_X12_distance_D76
    rw [bd (am_pI hMt hbm _), bd (am_gI hM5), sI_e, if_neg (by rw [q_le, q_i0]; omega)]
  have bad : f_X11_distance P x a b c σ = some (.inl ("java/lang/IllegalArgumentException", th σ)) → f_X12_distance P (x + 1497) a b c (th σ) = f_X12_distance_D38 P (x + 1497) a b c (th σ) → Q64 x σ (f_L_distance P x a b c (x + 1575) σ) (fun τ => f_X12_distance P (x + 1497) a b c τ) [] (RPl x) := fun h1 h2 =>
    thr64 (ht_distance1 hx h1) (by
      show f_X12_distance P (x + 1497) a b c (th σ) = _
      rw [h2]
      unfold f_X12_distance_D38 f_X12_distance_D39
      rw [if_pos rfl, D76 1 (by decide)]) (by decide) (RPl_t h 1)
  by_cases ra : 0 ≤ a.toInt ∧ a.toInt ≤ 7
  · by_cases rb : 0 ≤ b.toInt ∧ b.toInt ≤ 7
    · by_cases rc : 0 ≤ c.toInt ∧ c.toInt ≤ 1
      · obtain ⟨p, hp, rfl⟩ : ∃ p, p < 8 ∧ a = q_n p := ⟨a.toInt.toNat, by omega, q_ofT ra.1⟩
        obtain ⟨q, hq, rfl⟩ : ∃ q, q < 8 ∧ b = q_n q := ⟨b.toInt.toNat, by omega, q_ofT rb.1⟩
        obtain ⟨k, hk, rfl⟩ : ∃ k, k < 2 ∧ c = q_n k := ⟨c.toInt.toNat, by omega, q_ofT rc.1⟩
        obtain ⟨n, X, Y, hPl⟩ := h p hp
        obtain ⟨n', X', Y', hPl'⟩ := h q hq
        have hc := PlC_of hH hp hPl
        have hc' := PlC_of hH hq hPl'
        obtain ⟨h24, s1, s2, -⟩ := id hPl
        obtain ⟨h24', s1', s2', -⟩ := id hPl'
        have ec : f_X11_distance P x (q_n p) (q_n q) (q_n k) σ = if q_n n < (3 : Int32) then f_X11_distance_D50 P x (q_n p) (q_n q) (q_n k) σ else (if q_n n' < (3 : Int32) then f_X11_distance_D50 P x (q_n p) (q_n q) (q_n k) σ else f_X11_distance_D51 P x (q_n p) (q_n q) (q_n k) 1 σ) := by
          unfold f_X11_distance
          rw [bdx (rg_t (l := 0) (u := 7) ra σ), bdx (rg_t (l := 0) (u := 7) rb σ), bdx (rg_t (l := 0) (u := 1) rc σ), bd (ah_r2 hH), bd (ah_p hH hp), bd (ap_gI hc.1), s1, bd (ah_r2 hH), bd (ah_p hH hq), bd (ap_gI hc'.1), s1']
        have er : ∀ τ, LyM τ (x + 1497) → mxI τ (x + 1497 + 59) p = q_n n → mxI τ (x + 1497 + 59) q = q_n n' → f_X12_distance P (x + 1497) (q_n p) (q_n q) (q_n k) τ = (if q_n n < (3 : Int32) then f_X12_distance_D71 P (x + 1497) (q_n p) (q_n q) (q_n k) (x + 1497) τ else (if (3 : Int32) ≤ q_n n' then f_X12_distance_D76 P (x + 1497) (q_n p) (q_n q) (q_n k) (0 : Int32) (x + 1497) τ else f_X12_distance_D71 P (x + 1497) (q_n p) (q_n q) (q_n k) (x + 1497) τ)) := fun τ hMτ h1 h2 => by
          unfold f_X12_distance f_X12_distance_D39
          rw [bd2 (in_t (l := 0) (u := 7) ra τ), if_neg zi10, bd2 (in_t (l := 0) (u := 7) rb τ), if_neg zi10, bd2 (in_t (l := 0) (u := 1) rc τ), if_neg zi10, if_neg zi10, bd (am_r86 hMτ), bd (am_g86 hMτ hp), h1, bd (am_r86 hMτ), bd (am_g86 hMτ hq), h2]
        have no : (n < 3 ∨ n' < 3) → Q64 x σ (f_L_distance P x (q_n p) (q_n q) (q_n k) (x + 1575) σ) (fun τ => f_X12_distance P (x + 1497) (q_n p) (q_n q) (q_n k) τ) [] (RPl x) := fun hlt => by
          refine thr64 (w := 2) (ht_distance2 hx ?_) ?_ (by decide) (RPl_t h 2)
          · have d50 : f_X11_distance_D50 P x (q_n p) (q_n q) (q_n k) σ = some (.inl ("java/util/NoSuchElementException", th σ)) := by
              unfold f_X11_distance_D50 f_X11_distance_D51
              rw [bdxl (np_0 hrm)]
            rw [ec, d50]
            by_cases e : n < 3
            · rw [if_pos (by rw [show (3 : Int32) = q_n 3 from rfl, q_nLt (by omega) (by omega)]; exact e)]
            · rw [if_neg (by rw [show (3 : Int32) = q_n 3 from rfl, q_nLt (by omega) (by omega)]; exact e), if_pos (by rw [show (3 : Int32) = q_n 3 from rfl, q_nLt (by omega) (by omega)]; omega)]
          · show f_X12_distance P (x + 1497) (q_n p) (q_n q) (q_n k) (th σ) = _
            have d71 : f_X12_distance_D71 P (x + 1497) (q_n p) (q_n q) (q_n k) (x + 1497) (th σ) = some (0, mx_setI (th σ) (x + 1497) 0 2) := D76 2 (by decide)
            rw [er (th σ) hMt s2 s2', d71]
            by_cases e : n < 3
            · rw [if_pos (by rw [show (3 : Int32) = q_n 3 from rfl, q_nLt (by omega) (by omega)]; exact e)]
            · rw [if_neg (by rw [show (3 : Int32) = q_n 3 from rfl, q_nLt (by omega) (by omega)]; exact e), if_neg (by rw [show (3 : Int32) = q_n 3 from rfl, q_nLe (by omega) (by omega)]; omega)]
        by_cases hlt : n < 3 ∨ n' < 3
        · exact no hlt
        · have hr3 : mxA σ (x + 128) = some (.inl 3) := LyH_f hH
          obtain ⟨σ1, pp, qq, e1, ⟨g1, g2, g3, g4, g5⟩, F1, hres⟩ := c_dst (P := P) (by omega) hc hc' (by omega) (by omega) hr3 (by omega) (by omega)
          have A1 : mxA σ1 (x + 128) = some (.inl 3) := by rw [F1.1]; exact hr3
          obtain ⟨r, er'⟩ : ∃ r, r = l_n (if k = 0 then pp else qq) := ⟨_, rfl⟩
          have hnum : f_X3_number P (x + 128) (q_n k) σ1 = some (r, σ1) := by
            unfold f_X3_number f_X3_number_D15
            by_cases k0 : k = 0
            · rw [if_pos (by rw [k0]; rfl), bd (q_gL A1), g1, er', if_pos k0]
            · rw [if_neg (show ¬ q_n k = 0 from fun z => k0 ((q_nI (by omega) (by omega)).mp (show q_n k = q_n 0 from z))), bd (q_gL A1), g2, er', if_neg k0]
          have hcl : f_X11_distance P x (q_n p) (q_n q) (q_n k) σ = some (.inr (r, σ1)) := by
            have r5 : mg_R σ1 x 11 5 = some (x + 128) := (q_gR (by rw [F1.1]; exact hx)).trans (by rw [F1.2.1]; exact LyH_r5 hH)
            rw [ec, if_neg (by rw [show (3 : Int32) = q_n 3 from rfl, q_nLt (by omega) (by omega)]; omega), if_neg (by rw [show (3 : Int32) = q_n 3 from rfl, q_nLt (by omega) (by omega)]; omega)]
            unfold f_X11_distance_D51
            rw [bdx (np_1 σ), bd (ah_r2 hH), bd (ah_p hH hp), bd (ah_r2 hH), bd (ah_p hH hq), bd (ah_r5 hH), bd (ap_is hc.1), bd e1, bd r5, bd (q_is A1), bd2 hnum]
          have hlo := hr_distance (o := x + 1575) hx hcl (by rw [F1.1]; exact LyH_u hH) (by omega)
          obtain ⟨t4, e4⟩ : ∃ t4, t4 = mx_setL σ1 (x + 1575) 0 r := ⟨_, rfl⟩
          obtain ⟨t5, e5⟩ : ∃ t5, t5 = mx_setI t4 (x + 1497) 0 0 := ⟨_, rfl⟩
          obtain ⟨t6, e6⟩ : ∃ t6, t6 = mx_setL t5 (x + 1497) 89 0 := ⟨_, rfl⟩
          obtain ⟨t7, e7⟩ : ∃ t7, t7 = mx_setL t6 (x + 1497) 90 0 := ⟨_, rfl⟩
          rw [← e4] at hlo
          have F4 : Fz (dsF x) σ t4 := by rw [e4]; exact (F1.mo (T := dsF x) fun q j z => Or.inl z).sL (Or.inr (Or.inl ⟨rfl, rfl⟩)) _
          have F7 : Fz (dsF x) σ t7 := by
            rw [e7, e6, e5]
            exact ((F4.sI (Or.inr (Or.inr ⟨rfl, Or.inl rfl⟩)) _).sL (Or.inr (Or.inr ⟨rfl, Or.inr (Or.inl rfl)⟩)) _).sL (Or.inr (Or.inr ⟨rfl, Or.inr (Or.inr rfl)⟩)) _
          have hM4 : LyM t4 (x + 1497) := F4.M hM
          have hM5 : LyM t5 (x + 1497) := by rw [e5]; exact hM4
          have hM6 : LyM t6 (x + 1497) := by rw [e6]; exact hM5
          have hM7 : LyM t7 (x + 1497) := by rw [e7]; exact hM6
          have v4 : mxL t7 (x + 1575) 0 = r := by rw [e7, sL_n (by omega), e6, sL_n (by omega), e5, LsI, e4]; exact sL_e
          have z0 : mxI t7 (x + 1497) 0 = 0 := by rw [e7, IsL, e6, IsL, e5]; exact sI_e
          have z89 : mxL t7 (x + 1497) 89 = 0 := by rw [e7, sL_n (by omega), e6]; exact sL_e
          have z90 : mxL t7 (x + 1497) 90 = 0 := by rw [e7]; exact sL_e
          have pl7 : Plt t7 x p n X Y := Plt_cg hp hPl fun q j hq => F7.2.2.2 q j (fun z => by unfold dsF at z; omega)
          have pl7' : Plt t7 x q n' X' Y' := Plt_cg hq hPl' fun q j hq => F7.2.2.2 q j (fun z => by unfold dsF at z; omega)
          have R7 := PlR_of hM7 hp pl7
          have R7' := PlR_of hM7 hq pl7'
          have hst : f_X12_distance P (x + 1497) (q_n p) (q_n q) (q_n k) t4 = (if bI (r_fst (tcR n X Y n' X' Y') n).isSome = 0 then (if bI (r_fst (tcR n' X' Y' n X Y) n').isSome = 0 then (f_X12_distances P (x + 1497) (q_n p) (q_n q) t7).bind fun σ41 => (mx_is σ41 (x + 1497) 12).bind fun i43 => (f_X12_distances P (x + 1497) (q_n q) (q_n p) σ41).bind fun σ45 => f_X12_distance_D136 P (x + 1497) (q_n k) σ45 else f_X12_distance_D116 P (x + 1497) (q_n k) t7) else f_X12_distance_D116 P (x + 1497) (q_n k) t7) := by
            rw [er t4 hM4 ((F4.2.2.2 _ _ (fun z => by unfold dsF at z; omega)).1.trans s2) ((F4.2.2.2 _ _ (fun z => by unfold dsF at z; omega)).1.trans s2'), if_neg (by rw [show (3 : Int32) = q_n 3 from rfl, q_nLt (by omega) (by omega)]; omega), if_pos (by rw [show (3 : Int32) = q_n 3 from rfl, q_nLe (by omega) (by omega)]; omega)]
            unfold f_X12_distance_D76
            rw [bd (am_pI hM4 hbm _), ← e5, bd (am_gI hM5), show mxI t5 (x + 1497) 0 = 0 by rw [e5]; exact sI_e, if_pos (show (0 : Int32) ≤ 0 by decide), bd (am_pL hM5 hbm _), ← e6, bd (am_pL hM6 hbm _), ← e7, bd (am_is hM7), bd2 (r_tch (by omega) R7 R7')]
            by_cases c1 : bI (r_fst (tcR n X Y n' X' Y') n).isSome = 0
            · rw [if_pos c1, if_pos c1, bd (am_is hM7), bd2 (r_tch (by omega) R7' R7)]
              by_cases c2 : bI (r_fst (tcR n' X' Y' n X Y) n').isSome = 0
              · rw [if_pos c2, if_pos c2, bd (am_is hM7)]
              · rw [if_neg c2, if_neg c2]
            · rw [if_neg c1, if_neg c1]
          have hrc := rc_eq (X := X) (Y := Y) (X' := X') (Y' := Y') (show 0 < n by omega) (show 0 < n' by omega)
          rcases hres with ⟨hr1, rfl, rfl⟩ | ⟨hr1, hMn⟩
          · -- in reach
            obtain ⟨t8, e8⟩ : ∃ t8, t8 = mx_setL t7 (x + 1497) 90 1 := ⟨_, rfl⟩
            have hM8 : LyM t8 (x + 1497) := by rw [e8]; exact hM7
            have d116 : f_X12_distance_D116 P (x + 1497) (q_n k) t7 = some (r, t8) := by
              unfold f_X12_distance_D116 f_X12_distance_D136 f_X12_distance_D151
              rw [bd (am_pL hM7 hbm _), ← e8]
              by_cases k0 : k = 0
              · rw [if_pos (by rw [k0]; rfl), bd (am_gL hM8), e8, sL_n (by omega), z89, er', if_pos k0]; rfl
              · rw [if_neg (show ¬ q_n k = 0 from fun z => k0 ((q_nI (by omega) (by omega)).mp (show q_n k = q_n 0 from z))), bd (am_gL hM8), e8, sL_e, er', if_neg k0]; rfl
            have F8 : Fz (dsF x) σ t8 := by rw [e8]; exact F7.sL (Or.inr (Or.inr ⟨rfl, Or.inr (Or.inr rfl)⟩)) _
            refine ⟨0, r, t4, t8, hlo, ?_, by rw [e8, IsL]; exact z0, fun _ => by rw [e8, sL_n (by omega)]; exact v4, F4.1, ds_fr F8, ds_RP h F8⟩
            show f_X12_distance P (x + 1497) (q_n p) (q_n q) (q_n k) t4 = _
            rw [hst, d116]
            rw [hr1] at hrc
            cases c1 : (r_fst (tcR n X Y n' X' Y') n).isSome with
            | true => rw [if_neg (show ¬ bI true = 0 by decide)]
            | false =>
              rw [c1, Bool.false_or] at hrc
              rw [if_pos (show bI false = 0 from rfl), ← hrc, if_neg (show ¬ bI true = 0 by decide)]
          · -- apart
            rw [hr1] at hrc
            have c1 : (r_fst (tcR n X Y n' X' Y') n).isSome = false := by
              cases c : (r_fst (tcR n X Y n' X' Y') n).isSome with
              | true => rw [c, Bool.true_or] at hrc; cases hrc
              | false => rfl
            have c2 : (r_fst (tcR n' X' Y' n X Y) n').isSome = false := by
              rw [c1, Bool.false_or] at hrc; exact hrc.symm
            obtain ⟨t8, e8, f8, F8⟩ := r_dis (P := P) (D := fun _ _ => False) (by omega) hbm R7 R7' (Or.inl ⟨z90, fun _ _ z => z⟩)
            have nsf : ∀ q j, neF (x + 1497) q j → q ≠ x + 1497 + 59 ∧ q ≠ x + 1497 + 60 ∧ q ≠ x + 1497 + 61 := fun q j z => by unfold neF at z; omega
            obtain ⟨t9, e9, f9, F9⟩ := r_dis (P := P) (by omega) hbm (PlR_f R7' F8 nsf) (PlR_f R7 F8 nsf) f8
            have up : ∀ {τ τ' : mx_S}, Fz (neF (x + 1497)) τ τ' → Fz (dsF x) τ τ' := fun f => f.mo fun q j z => by unfold neF at z; unfold dsF; omega
            have FF : Fz (dsF x) σ t9 := (F7.tr (up F8)).tr (up F9)
            have hM9 : LyM t9 (x + 1497) := FF.M hM
            obtain ⟨p', q', k1, k2, hMn'⟩ : ∃ p' q', mxL t9 (x + 1497) 89 = l_n p' ∧ mxL t9 (x + 1497) 90 = l_n q' ∧ Mn p' q' (DR n' X' Y' n X Y (DR n X Y n' X' Y' (fun _ _ => False) n 0) n' 0) := by
              rcases f9 with ⟨-, z⟩ | ⟨p', q', k1, k2, -, -, k3⟩
              · exact absurd (Or.inr ⟨0, 0, by omega, by omega, Or.inl (by omega), rfl, rfl⟩) (z _ _)
              · exact ⟨p', q', k1, k2, k3⟩
            obtain ⟨u1, u2⟩ := ds_u (by omega) (by omega) hMn hMn'
            have keep : ∀ q j, ¬ neF (x + 1497) q j → mxI t9 q j = mxI t7 q j ∧ mxL t9 q j = mxL t7 q j := fun q j z => by
              have a := F9.2.2.2 q j z
              have b := F8.2.2.2 q j z
              exact ⟨a.1.trans b.1, a.2.trans b.2⟩
            refine ⟨0, r, t4, t9, hlo, ?_, (keep _ _ (by unfold neF; omega)).1.trans z0, fun _ => (keep _ _ (by unfold neF; omega)).2.trans v4, F4.1, ds_fr FF, ds_RP h FF⟩
            show f_X12_distance P (x + 1497) (q_n p) (q_n q) (q_n k) t4 = _
            rw [hst, c1, c2, if_pos (show bI false = 0 from rfl), if_pos (show bI false = 0 from rfl), bd e8, bd (am_is (F8.M hM7)), bd e9]
            unfold f_X12_distance_D136 f_X12_distance_D151
            by_cases k0 : k = 0
            · rw [if_pos (by rw [k0]; rfl), bd (am_gL hM9), k1, er', if_pos k0, u1]
            · rw [if_neg (show ¬ q_n k = 0 from fun z => k0 ((q_nI (by omega) (by omega)).mp (show q_n k = q_n 0 from z))), bd (am_gL hM9), k2, er', if_neg k0, u2]
      · refine bad ?_ ?_
        · unfold f_X11_distance
          rw [bdx (rg_t (l := 0) (u := 7) ra σ), bdx (rg_t (l := 0) (u := 7) rb σ), bdxl (rg_f (l := 0) (u := 1) rc hrm)]
        · unfold f_X12_distance
          rw [bd2 (in_t (l := 0) (u := 7) ra (th σ)), if_neg zi10, bd2 (in_t (l := 0) (u := 7) rb (th σ)), if_neg zi10, bd2 (in_f (l := 0) (u := 1) rc (th σ)), if_pos rfl]
    · refine bad ?_ ?_
      · unfold f_X11_distance
        rw [bdx (rg_t (l := 0) (u := 7) ra σ), bdxl (rg_f (l := 0) (u := 7) rb hrm)]
      · unfold f_X12_distance
        rw [bd2 (in_t (l := 0) (u := 7) ra (th σ)), if_neg zi10, bd2 (in_f (l := 0) (u := 7) rb (th σ)), if_pos rfl]
  · refine bad ?_ ?_
    · unfold f_X11_distance
      rw [bdxl (rg_f (l := 0) (u := 7) ra hrm)]
    · unfold f_X12_distance
      rw [bd2 (in_f (l := 0) (u := 7) ra (th σ)), if_pos rfl]
end JLS
