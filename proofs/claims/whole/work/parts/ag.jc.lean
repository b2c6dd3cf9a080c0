/-! ===== jc: inside; fractions set; sums of a plate ===== -/
section JCS
variable {P : mx_P} {σ σ0 σ1 σ2 τ : mx_S} {x m n t p q i k j a A B : Nat} {X Y : Nat → Int} {u v w z : Int64} {c d e f : Int} {ns : List Nat} {Post : mx_S → Prop}
theorem qry32 {l : Option (Int32 × mx_S)} {f : mx_S → Option (Int32 × mx_S)} {r : Int32} (F : Fr x ns σ σ1) (hz : mxz σ1 = mxz σ) (h1 : l = some (0, mx_setL σ1 (x + 1575) 0 r.toInt64)) (h2 : f (mx_setL σ1 (x + 1575) 0 r.toInt64) = some (r, mx_setI (mx_setL σ1 (x + 1575) 0 r.toInt64) (x + 1497) 0 0)) (hP : Post (mx_setI (mx_setL σ1 (x + 1575) 0 r.toInt64) (x + 1497) 0 0)) : Q32 x σ l f ns Post :=
  ⟨0, r, _, _, h1, h2, sI_e, fun _ => by rw [LsI]; exact sL_e, F.1, F.tr' (((sL_o r.toInt64).mo (by simp)).sI (Or.inr cp_t) 0) hz, hP⟩
theorem qry64 {l : Option (Int32 × mx_S)} {f : mx_S → Option (Int64 × mx_S)} {r : Int64} (F : Fr x ns σ σ1) (hz : mxz σ1 = mxz σ) (h1 : l = some (0, mx_setL σ1 (x + 1575) 0 r)) (h2 : f (mx_setL σ1 (x + 1575) 0 r) = some (r, mx_setI (mx_setL σ1 (x + 1575) 0 r) (x + 1497) 0 0)) (hP : Post (mx_setI (mx_setL σ1 (x + 1575) 0 r) (x + 1497) 0 0)) : Q64 x σ l f ns Post :=
  ⟨0, r, _, _, h1, h2, sI_e, fun _ => by rw [LsI]; exact sL_e, F.1, F.tr' (((sL_o r).mo (by simp)).sI (Or.inr cp_t) 0) hz, hP⟩
theorem PlC_of (hH : LyH (mxA σ) (mxR σ) x) (hp : p < 8) (h : Plt σ x p n X Y) : PlC σ (x + 88 + 3 * p) n X Y := by
  obtain ⟨h1, h2, h3, h4⟩ := h
  refine ⟨(LyH_p hH p hp).2, h2, h1, fun k hk => ?_⟩
  obtain ⟨⟨a1, a2⟩, -, b1, b2⟩ := h4 k hk
  exact ⟨⟨a1, by omega⟩, ⟨a2, by omega⟩⟩
theorem PlR_of (hM : LyM σ (x + 1497)) (hp : p < 8) (h : Plt σ x p n X Y) : PlR σ (x + 1497) p n X Y := by
  obtain ⟨h1, h2, h3, h4⟩ := h
  refine ⟨hM, hp, h3, h1, fun k hk => ?_⟩
  obtain ⟨-, ⟨a1, a2⟩, b1, b2⟩ := h4 k hk
  exact ⟨⟨a1, by omega⟩, ⟨a2, by omega⟩⟩
theorem Plt_q (hp : p < 8) (h : Plt σ x p n X Y) (r : Int64) (s : Int32) : Plt (mx_setI (mx_setL σ (x + 1575) 0 r) (x + 1497) 0 s) x p n X Y := Plt_cg hp h fun q j hq => ⟨by rw [sI_n (by omega)]; rfl, by rw [LsI, sL_n (by omega)]⟩
theorem g_inside (hS : St P σ x) (h : RPl x σ) (a b c : Int32) : Q32 x σ (f_L_inside P x a b c (x + 1575) σ) (fun τ => f_X12_inside P (x + 1497) a b c τ) [] (RPl x) := by
  obtain ⟨hH, hb, hN, hrm⟩ := hS
  have hx := LyH_o hH
  have hM := LyH_m hH
  have hbm : mpb P ≤ x + 1497 := by omega
  have hMt : LyM (th σ) (x + 1497) := hM
  have D72 : ∀ w : Int32, 0 < w.toInt → f_X12_inside_D72 P (x + 1497) a b c w (x + 1497) (th σ) = some (0, mx_setI (th σ) (x + 1497) 0 w) := fun w hw => by
    have hM5 : LyM (mx_setI (th σ) (x + 1497) 0 w) (x + 1497) := hM
    unfold f_X12_inside_D72 f_X12_inside_D95
    rw [bd (am_pI hMt hbm _), bd (am_gI hM5), sI_e, if_neg (by rw [q_le, q_i0]; omega)]
  have bad : f_X11_inside P x a b c σ = some (.inl ("java/lang/IllegalArgumentException", th σ)) → f_X12_inside P (x + 1497) a b c (th σ) = f_X12_inside_D44 P (x + 1497) a b c (th σ) → Q32 x σ (f_L_inside P x a b c (x + 1575) σ) (fun τ => f_X12_inside P (x + 1497) a b c τ) [] (RPl x) := fun h1 h2 =>
    thr32 (ht_inside1 hx h1) (by
      show f_X12_inside P (x + 1497) a b c (th σ) = _
      rw [h2]
      unfold f_X12_inside_D44 f_X12_inside_D45
      rw [if_pos rfl, D72 1 (by decide)]) (by decide) (RPl_t h 1)
  by_cases ra : 0 ≤ a.toInt ∧ a.toInt ≤ 7
  · by_cases rb : -1000 ≤ b.toInt ∧ b.toInt ≤ 1000
    · by_cases rc : -1000 ≤ c.toInt ∧ c.toInt ≤ 1000
      · obtain ⟨p, hp, rfl⟩ : ∃ p, p < 8 ∧ a = q_n p := ⟨a.toInt.toNat, by omega, q_ofT ra.1⟩
        obtain ⟨n, X, Y, hPl⟩ := h p hp
        have hc := PlC_of hH hp hPl
        obtain ⟨h24, s1, s2, -⟩ := id hPl
        have hu : B64 b.toInt64 b.toInt 1000 := ⟨i3264 b, by omega⟩
        have hv : B64 c.toInt64 c.toInt 1000 := ⟨i3264 c, by omega⟩
        have ec : f_X11_inside P x (q_n p) b c σ = if q_n n < (3 : Int32) then f_X11_inside_D45 P x (q_n p) b c 0 σ else f_X11_inside_D45 P x (q_n p) b c 1 σ := by
          unfold f_X11_inside
          rw [bdx (rg_t (l := 0) (u := 7) ra σ), bdx (rg_t (l := -1000) (u := 1000) rb σ), bdx (rg_t (l := -1000) (u := 1000) rc σ), bd (ah_r2 hH), bd (ah_p hH hp), bd (ap_gI hc.1), s1]
        have er : ∀ τ, LyM τ (x + 1497) → mxI τ (x + 1497 + 59) p = q_n n → f_X12_inside P (x + 1497) (q_n p) b c τ = if (3 : Int32) ≤ q_n n then f_X12_inside_D72 P (x + 1497) (q_n p) b c 0 (x + 1497) τ else f_X12_inside_D72 P (x + 1497) (q_n p) b c 2 (x + 1497) τ := fun τ hMτ hτ => by
          unfold f_X12_inside f_X12_inside_D45
          rw [bd2 (in_t (l := 0) (u := 7) ra τ), if_neg zi10, bd2 (in_t (l := -1000) (u := 1000) rb τ), if_neg zi10, bd2 (in_t (l := -1000) (u := 1000) rc τ), if_neg zi10, if_neg zi10, bd (am_r86 hMτ), bd (am_g86 hMτ hp), hτ]
        by_cases h3 : 3 ≤ n
        · refine qry32 (σ1 := σ) (r := inS n X Y b.toInt c.toInt) Fr.rf rfl (hr_inside hx ?_ (LyH_u hH) (by omega)) ?_ ?_
          · rw [ec, if_neg (by rw [show (3 : Int32) = q_n 3 from rfl, q_nLt (by omega) (by omega)]; omega)]
            unfold f_X11_inside_D45
            rw [bdx (np_1 σ), bd (ah_r2 hH), bd (ah_p hH hp), bd (ap_is hc.1), bd2 (c_std (by omega) hc hu hv)]
          · have hM4 : LyM (mx_setL σ (x + 1575) 0 (inS n X Y b.toInt c.toInt).toInt64) (x + 1497) := hM
            have hM5 : LyM (mx_setI (mx_setL σ (x + 1575) 0 (inS n X Y b.toInt c.toInt).toInt64) (x + 1497) 0 0) (x + 1497) := hM
            show f_X12_inside P (x + 1497) (q_n p) b c (mx_setL σ (x + 1575) 0 (inS n X Y b.toInt c.toInt).toInt64) = _
            rw [er _ hM4 s2, if_pos (by rw [show (3 : Int32) = q_n 3 from rfl, q_nLe (by omega) (by omega)]; omega)]
            unfold f_X12_inside_D72 f_X12_inside_D95
            rw [bd (am_pI hM4 hbm _), bd (am_gI hM5), sI_e, if_pos (show (0 : Int32) ≤ 0 by decide), bd (am_is hM5), bd2 (r_std (by omega) (PlR_of hM5 hp (Plt_q hp hPl _ 0)) hu hv)]
          · exact fun q hq => by
              obtain ⟨n', X', Y', h'⟩ := h q hq
              exact ⟨n', X', Y', Plt_q hq h' _ 0⟩
        · refine thr32 (w := 2) (ht_inside2 hx ?_) ?_ (by decide) (RPl_t h 2)
          · rw [ec, if_pos (by rw [show (3 : Int32) = q_n 3 from rfl, q_nLt (by omega) (by omega)]; omega)]
            unfold f_X11_inside_D45
            rw [bdxl (np_0 hrm)]
          · show f_X12_inside P (x + 1497) (q_n p) b c (th σ) = _
            rw [er (th σ) hMt s2, if_neg (by rw [show (3 : Int32) = q_n 3 from rfl, q_nLe (by omega) (by omega)]; omega), D72 2 (by decide)]
      · refine bad ?_ ?_
        · unfold f_X11_inside
          rw [bdx (rg_t (l := 0) (u := 7) ra σ), bdx (rg_t (l := -1000) (u := 1000) rb σ), bdxl (rg_f (l := -1000) (u := 1000) rc hrm)]
        · unfold f_X12_inside
          rw [bd2 (in_t (l := 0) (u := 7) ra (th σ)), if_neg zi10, bd2 (in_t (l := -1000) (u := 1000) rb (th σ)), if_neg zi10, bd2 (in_f (l := -1000) (u := 1000) rc (th σ)), if_pos rfl]
    · refine bad ?_ ?_
      · unfold f_X11_inside
        rw [bdx (rg_t (l := 0) (u := 7) ra σ), bdxl (rg_f (l := -1000) (u := 1000) rb hrm)]
      · unfold f_X12_inside
        rw [bd2 (in_t (l := 0) (u := 7) ra (th σ)), if_neg zi10, bd2 (in_f (l := -1000) (u := 1000) rb (th σ)), if_pos rfl]
  · refine bad ?_ ?_
    · unfold f_X11_inside
      rw [bdxl (rg_f (l := 0) (u := 7) ra hrm)]
    · unfold f_X12_inside
      rw [bd2 (in_f (l := 0) (u := 7) ra (th σ)), if_pos rfl]
/-! a fraction in lowest terms -/
def gcI (c d : Int) : Nat := Nat.gcd c.natAbs d.natAbs
def frP (c d : Int) : Int := (if 0 ≤ d then c else -c) / (gcI c d : Int)
def frQ (c d : Int) : Int := (d.natAbs : Int) / (gcI c d : Int)
theorem gc_pos (h : d ≠ 0) : 0 < gcI c d := Nat.gcd_pos_of_pos_right _ (by omega)
theorem gc_l : (gcI c d : Int) ∣ c := Int.ofNat_dvd_left.mpr (Nat.gcd_dvd_left _ _)
theorem gc_r : (gcI c d : Int) ∣ d := Int.ofNat_dvd_left.mpr (Nat.gcd_dvd_right _ _)
theorem gc_le (h : d ≠ 0) : gcI c d ≤ d.natAbs := Nat.gcd_le_right _ (by omega)
theorem dv_ex {g : Nat} (hg : 0 < g) (hg2 : g < 4611686018427387904) (hu : B64 u c A) (hA : A < 4611686018427387904) (h : (g : Int) ∣ c) : ∃ r, md_L u (l_n g) = some r ∧ B64 r (c / g) A := by
  obtain ⟨a1, a2⟩ := hu
  obtain ⟨k, hk⟩ := h
  have e : c / g = k := by rw [hk]; exact Int.mul_ediv_cancel_left _ (by omega)
  have hn : k.natAbs ≤ c.natAbs := by
    rw [hk, Int.natAbs_mul, Int.natAbs_natCast]
    exact Nat.le_mul_of_pos_left _ hg
  obtain ⟨r, e1, e2⟩ := md_ex (a := u) (b := l_n g) (k := k) (by rw [l_nT (by omega)]; omega) (by rw [a1, l_nT (by omega), hk, Int.mul_comm]) (by omega) (by omega)
  exact ⟨r, e1, by rw [e]; exact ⟨e2, by omega⟩⟩
/-- a fraction of the class -/
def FrC (σ : mx_S) (a : Nat) (c d : Int) : Prop := mxI σ a 2 = 0 ∧ (mxL σ a 0).toInt = c ∧ (mxL σ a 1).toInt = d
theorem c_set (hf : 5000 ≤ mpN P) (hA : mxA σ a = some (.inl 3)) (hb : mpb P ≤ a) (hu : B64 u c A) (hv : B64 v d B) (hAb : A < 4611686018427387904) (hBb : B < 4611686018427387904) (hd : d ≠ 0) : ∃ τ, f_X3_set P a u v σ = some τ ∧ FrC τ a (frP c d) (frQ c d) ∧ Fz (fun q j => q = a ∧ j ≤ 2) σ τ := by
  have hg := gc_pos (c := c) hd
  have hgl := gc_le (c := c) hd
  have hgd := hv.2
  obtain ⟨s1, e1⟩ : ∃ s1, s1 = mx_setI σ a 2 0 := ⟨_, rfl⟩
  have A1 : mxA s1 a = some (.inl 3) := by rw [e1]; exact hA
  have ga : mx_is s1 a 3 = some () := q_is A1
  have gcd1 : f_X3_gcd P u v s1 = some (l_n (gcI c d), s1) := by
    have := c_gcd (P := P) (σ := s1) (x := u) (y := v) hf (by rw [hu.1]; have := hu.2; omega) (by rw [hv.1]; omega)
    rw [hu.1, hv.1] at this
    exact this
  obtain ⟨r1, q1, k1⟩ : ∃ r1, (if 0 ≤ lg_cmp v (0 : Int64) then md_L u (l_n (gcI c d)) else md_L (-u) (l_n (gcI c d))) = some r1 ∧ r1.toInt = frP c d := by
    unfold frP
    by_cases c0 : 0 ≤ lg_cmp v (0 : Int64)
    · have c0' := c0
      rw [l_nn, hv.1] at c0'
      rw [if_pos c0, if_pos c0']
      obtain ⟨r, h1, h2⟩ := dv_ex hg (by omega) hu hAb gc_l
      exact ⟨r, h1, h2.1⟩
    · have c0' := c0
      rw [l_nn, hv.1] at c0'
      rw [if_neg c0, if_neg c0']
      obtain ⟨r, h1, h2⟩ := dv_ex hg (by omega) (b64n hu hAb) hAb (Int.dvd_neg.mpr gc_l)
      exact ⟨r, h1, h2.1⟩
  have hab : B64 (l_n d.natAbs) (d.natAbs : Int) B := ⟨l_nT (by omega), by rw [Int.natAbs_natCast]; exact hgd⟩
  obtain ⟨r2, q2, k2⟩ := dv_ex hg (by omega) hab hBb (Int.natCast_dvd_natCast.mpr (Nat.gcd_dvd_right _ _))
  obtain ⟨s2, e2⟩ : ∃ s2, s2 = mx_setL s1 a 0 r1 := ⟨_, rfl⟩
  obtain ⟨s3, e3⟩ : ∃ s3, s3 = mx_setL s2 a 1 r2 := ⟨_, rfl⟩
  have A2 : mxA s2 a = some (.inl 3) := by rw [e2]; exact A1
  have d55 : f_X3_reduce_D55 P a v (l_n (gcI c d)) r1 a s1 = some s3 := by
    unfold f_X3_reduce_D55
    rw [bd (q_pL A1 hb _), ← e2, k_absL, k_absT64 (by rw [hv.1]; omega), hv.1, bd2 rfl, bd q2, bd (q_pL A2 hb _), ← e3]
  refine ⟨s3, ?_, ⟨?_, ?_, ?_⟩, ?_⟩
  · unfold f_X3_set f_X3_reduce
    rw [bd (q_pZ hA hb (Or.inl rfl)), ← e1, bd ga, bd2 gcd1, if_neg (fun z => hd (by rw [← hv.1, q_cmp0.mp z]; rfl)), if_neg (fun z => l_nne hg (by omega) (q_cmp0.mp z))]
    by_cases c0 : 0 ≤ lg_cmp v (0 : Int64)
    · rw [if_pos c0] at q1 ⊢
      rw [bd q1, d55]; rfl
    · rw [if_neg c0] at q1 ⊢
      rw [bd q1, d55]; rfl
  · rw [e3, IsL, e2, IsL, e1]; exact sI_e
  · rw [e3, sL_n (by omega), e2, sL_e]; exact k1
  · rw [e3, sL_e]; exact k2.1
  · rw [e3, e2, e1]
    exact ((Fz.rf.sI ⟨rfl, by omega⟩ _).sL ⟨rfl, by omega⟩ _).sL ⟨rfl, by omega⟩ _
/-! sums -/
def crE (n : Nat) (X Y : Nat → Int) (k : Nat) : Int := X k * Y (aft n k) - X (aft n k) * Y k
def wgE (n : Nat) (X Y : Nat → Int) (w k : Nat) : Int := if w = 0 then X k + X (aft n k) else if w = 1 then Y k + Y (aft n k) else X k * X k + X k * X (aft n k) + X (aft n k) * X (aft n k) + Y k * Y k + Y k * Y (aft n k) + Y (aft n k) * Y (aft n k)
theorem c_crs (h : PlC σ a n X Y) (hk : k < n) : ∃ w, f_X9_crossAt P a (q_n k) σ = some (w, σ) ∧ B64 w (crE n X Y k) 2000000 := by
  obtain ⟨h1, h2, h3, h4⟩ := id h
  have hl := aft_lt hk
  obtain ⟨xi, yi⟩ := h4 k hk
  obtain ⟨xl, yl⟩ := h4 _ hl
  unfold f_X9_crossAt
  rw [bd (ap_is h1), bd2 (c_aft h hk), bd (ap_r1 h1), bd (ap_g1 h1 (by omega)), bd (ap_r2 h1), bd (ap_g2 h1 (by omega)), bd (ap_r1 h1), bd (ap_g1 h1 (by omega)), bd (ap_r2 h1), bd (ap_g2 h1 (by omega))]
  exact ⟨_, rfl, b64S (b64M xi yl (by omega)) (b64M xl yi (by omega)) (by omega)⟩
theorem c_twa (hf : 100 ≤ mpN P) (h : PlC σ a n X Y) : ∃ w, f_X9_twiceArea P a σ = some (w, σ) ∧ B64 w (sm (crE n X Y) n) 48000000 := by
  obtain ⟨h1, h2, h3, h4⟩ := id h
  obtain ⟨r, e, w, hr, hw⟩ := q_for (f_X9_twiceArea_L4 P a) (fun k t => ∃ w, t = (w, q_n k, σ) ∧ B64 w (sm (crE n X Y) k) (2000000 * k)) (fun r => ∃ w, r = (w, σ) ∧ B64 w (sm (crE n X Y) n) (2000000 * n)) n
    (by
      rintro k t hk ⟨w, rfl, hw⟩
      left
      obtain ⟨y, ey, hy⟩ := c_crs (P := P) h hk
      show ∃ t', f_X9_twiceArea_B4 P a w (q_n k) σ = _ ∧ _
      unfold f_X9_twiceArea_B4
      rw [bd (ap_gI h1), h2, if_neg (by rw [q_nLe (by omega) (by omega)]; omega), bd (ap_is h1), bd2 ey, bds, bds, q_nS]
      exact ⟨_, rfl, _, rfl, b64w (b64A hw hy (by omega)) (by omega)⟩)
    (by
      rintro t ⟨w, rfl, hw⟩
      refine ⟨_, ?_, w, rfl, hw⟩
      show f_X9_twiceArea_B4 P a w (q_n n) σ = _
      unfold f_X9_twiceArea_B4
      rw [bd (ap_gI h1), h2, if_pos (by rw [q_nLe (by omega) (by omega)]; exact Nat.le_refl _)])
    n 0 ((0 : Int64), (0 : Int32), σ) (mpN P) (by omega) ⟨0, rfl, rfl, by rw [sm]; decide⟩ (by omega)
  unfold f_X9_twiceArea
  rw [bd e, hr]
  exact ⟨w, rfl, b64w hw (by omega)⟩
theorem c_wgt {w : Nat} (h : PlC σ a n X Y) (hk : k < n) (hw : w < 3) : ∃ y, f_X9_weightAt P a (q_n k) (q_n w) σ = some (y, σ) ∧ B64 y (wgE n X Y w k) 6000000 := by
  obtain ⟨h1, h2, h3, h4⟩ := id h
  have hl := aft_lt hk
  obtain ⟨xi, yi⟩ := h4 k hk
  obtain ⟨xl, yl⟩ := h4 _ hl
  unfold f_X9_weightAt
  have hc : w = 0 ∨ w = 1 ∨ w = 2 := by omega
  rcases hc with rfl | rfl | rfl
  · rw [bd (ap_is h1), bd2 (c_aft h hk), if_pos (show q_n 0 = 0 from rfl), bd (ap_r1 h1), bd (ap_g1 h1 (by omega)), bd (ap_r1 h1), bd (ap_g1 h1 (by omega))]
    exact ⟨_, rfl, b64w (b64A xi xl (by omega)) (by omega)⟩
  · rw [bd (ap_is h1), bd2 (c_aft h hk), if_neg (show ¬ q_n 1 = 0 by decide), if_pos (show q_n 1 = (1 : Int32) from rfl), bd (ap_r2 h1), bd (ap_g2 h1 (by omega)), bd (ap_r2 h1), bd (ap_g2 h1 (by omega))]
    exact ⟨_, rfl, b64w (b64A yi yl (by omega)) (by omega)⟩
  · rw [bd (ap_is h1), bd2 (c_aft h hk), if_neg (show ¬ q_n 2 = 0 by decide), if_neg (show ¬ q_n 2 = (1 : Int32) by decide), bd (ap_r1 h1), bd (ap_g1 h1 (by omega)), bd (ap_r1 h1), bd (ap_g1 h1 (by omega)), bd (ap_r1 h1), bd (ap_g1 h1 (by omega)), bd (ap_r1 h1), bd (ap_g1 h1 (by omega)), bd (ap_r1 h1), bd (ap_g1 h1 (by omega)), bd (ap_r1 h1), bd (ap_g1 h1 (by omega)), bd (ap_r2 h1), bd (ap_g2 h1 (by omega)), bd (ap_r2 h1), bd (ap_g2 h1 (by omega)), bd (ap_r2 h1), bd (ap_g2 h1 (by omega)), bd (ap_r2 h1), bd (ap_g2 h1 (by omega)), bd (ap_r2 h1), bd (ap_g2 h1 (by omega)), bd (ap_r2 h1), bd (ap_g2 h1 (by omega))]
    exact ⟨_, rfl, b64w (b64A (b64A (b64A (b64A (b64A (b64M xi xi (by omega)) (b64M xi xl (by omega)) (by omega)) (b64M xl xl (by omega)) (by omega)) (b64M yi yi (by omega)) (by omega)) (b64M yi yl (by omega)) (by omega)) (b64M yl yl (by omega)) (by omega)) (by omega)⟩
/-- the class's sums as a fraction -/
theorem c_rck {w r : Nat} (hf : 5000 ≤ mpN P) (h : PlC σ a n X Y) (hw : w < 3) (hA : mxA σ r = some (.inl 3)) (hb : mpb P ≤ r) (hd : w ≠ 2 → sm (crE n X Y) n ≠ 0) : ∃ τ, f_X9_reckon P a (q_n w) r σ = some τ ∧ FrC τ r (frP (sm (fun k => crE n X Y k * wgE n X Y w k) n) (if w = 2 then 12 else 3 * sm (crE n X Y) n)) (frQ (sm (fun k => crE n X Y k * wgE n X Y w k) n) (if w = 2 then 12 else 3 * sm (crE n X Y) n)) ∧ Fz (fun q j => q = r ∧ j ≤ 2) σ τ := by
  obtain ⟨h1, h2, h3, h4⟩ := id h
  obtain ⟨r0, e, y, hr, hy⟩ := q_for (f_X9_reckon_L5 P a (q_n w) r) (fun k t => ∃ y, t = (y, q_n k, σ) ∧ B64 y (sm (fun k => crE n X Y k * wgE n X Y w k) k) (12000000000000 * k)) (fun r0 => ∃ y, r0 = (y, σ) ∧ B64 y (sm (fun k => crE n X Y k * wgE n X Y w k) n) (12000000000000 * n)) n
    (by
      rintro k t hk ⟨y, rfl, hy⟩
      left
      obtain ⟨y1, ey1, hy1⟩ := c_crs (P := P) h hk
      obtain ⟨y2, ey2, hy2⟩ := c_wgt (P := P) h hk hw
      show ∃ t', f_X9_reckon_B5 P a (q_n w) r y (q_n k) σ = _ ∧ _
      unfold f_X9_reckon_B5
      rw [bd (ap_gI h1), h2, if_neg (by rw [q_nLe (by omega) (by omega)]; omega), bd (ap_is h1), bd2 ey1, bd (ap_is h1), bd2 ey2, bds, bds, q_nS]
      exact ⟨_, rfl, _, rfl, b64w (b64A hy (b64M hy1 hy2 (by omega)) (by omega)) (by omega)⟩)
    (by
      rintro t ⟨y, rfl, hy⟩
      refine ⟨_, ?_, y, rfl, hy⟩
      show f_X9_reckon_B5 P a (q_n w) r y (q_n n) σ = _
      unfold f_X9_reckon_B5
      rw [bd (ap_gI h1), h2, if_pos (by rw [q_nLe (by omega) (by omega)]; exact Nat.le_refl _)])
    n 0 ((0 : Int64), (0 : Int32), σ) (mpN P) (by omega) ⟨0, rfl, rfl, by rw [sm]; decide⟩ (by omega)
  have hri : mx_is σ r 3 = some () := q_is hA
  unfold f_X9_reckon f_X9_reckon_D58
  rw [bd e, hr]
  dsimp only
  by_cases c2 : w = 2
  · rw [c2] at hy ⊢
    obtain ⟨τ, e1, e2, e3⟩ := c_set (P := P) (σ := σ) (a := r) hf hA hb hy (show B64 (12 : Int64) 12 12 from ⟨rfl, by decide⟩) (by omega) (by omega) (by decide)
    rw [if_pos (show q_n 2 = (2 : Int32) from rfl), bd hri, bd e1, if_pos rfl]
    exact ⟨τ, rfl, e2, e3⟩
  · obtain ⟨ar, ea, ha⟩ := c_twa (P := P) (by omega) h
    have h3a : B64 ((3 : Int64) * ar) (3 * sm (crE n X Y) n) (3 * 48000000) := b64M (show B64 (3 : Int64) 3 3 from ⟨rfl, by decide⟩) ha (by omega)
    have := hd c2
    obtain ⟨τ, e1, e2, e3⟩ := c_set (P := P) (σ := σ) (a := r) hf hA hb hy h3a (by omega) (by omega) (by omega)
    rw [if_neg (show ¬ q_n w = (2 : Int32) from fun z => c2 ((q_nI (by omega) (by omega)).mp (show q_n w = q_n 2 from z))), bd (ap_is h1), bd2 ea, bd hri, bd e1, if_neg c2]
    exact ⟨τ, rfl, e2, e3⟩
end JCS
