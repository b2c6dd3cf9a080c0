/-! ===== iz: plates: corner, empty ===== -/
section IZS
variable {P : mx_P} {σ σ0 σ1 σ2 τ : mx_S} {x m n t p q i k j : Nat} {ns : List Nat} {X Y : Nat → Int} {Post : mx_S → Prop}
theorem bdxl {α β : Type} {o : Option ((String × mx_S) ⊕ α)} {e : String × mx_S} (h : o = some (.inl e)) (g : α → Option ((String × mx_S) ⊕ β)) : mx_bx o g = some (.inl e) := by rw [h]; rfl
theorem thr32 {l : Option (Int32 × mx_S)} {f : mx_S → Option (Int32 × mx_S)} {w : Int32} (h1 : l = some (w, th σ)) (h2 : f (th σ) = some (0, mx_setI (th σ) (x + 1497) 0 w)) (hw : w ≠ 0) (hP : Post (mx_setI (th σ) (x + 1497) 0 w)) : Q32 x σ l f ns Post := ⟨w, 0, th σ, _, h1, h2, sI_e, fun z => absurd z hw, rfl, Fr_throw w, hP⟩
theorem thr64 {l : Option (Int32 × mx_S)} {f : mx_S → Option (Int64 × mx_S)} {w : Int32} (h1 : l = some (w, th σ)) (h2 : f (th σ) = some (0, mx_setI (th σ) (x + 1497) 0 w)) (hw : w ≠ 0) (hP : Post (mx_setI (th σ) (x + 1497) 0 w)) : Q64 x σ l f ns Post := ⟨w, 0, th σ, _, h1, h2, sI_e, fun z => absurd z hw, rfl, Fr_throw w, hP⟩
theorem thr0 {l : Option (Int32 × mx_S)} {f : mx_S → Option mx_S} {w : Int32} (h1 : l = some (w, th σ)) (h2 : f (th σ) = some (mx_setI (th σ) (x + 1497) 0 w)) (hP : Post (mx_setI (th σ) (x + 1497) 0 w)) : Q0 x σ l f ns Post := ⟨w, th σ, _, h1, h2, sI_e, rfl, Fr_throw w, hP⟩
/-- a plate -/
def Plt (σ : mx_S) (x p n : Nat) (X Y : Nat → Int) : Prop := n ≤ 24 ∧ mxI σ (x + 88 + 3 * p) 0 = q_n n ∧ mxI σ (x + 1497 + 59) p = q_n n ∧ ∀ k, k < n → ((mxL σ (x + 88 + 3 * p + 1) k).toInt = X k ∧ (mxL σ (x + 88 + 3 * p + 2) k).toInt = Y k) ∧ ((mxL σ (x + 1497 + 60) (24 * p + k)).toInt = X k ∧ (mxL σ (x + 1497 + 61) (24 * p + k)).toInt = Y k) ∧ (-1000 ≤ X k ∧ X k ≤ 1000) ∧ -1000 ≤ Y k ∧ Y k ≤ 1000
def RPl (x : Nat) (σ : mx_S) : Prop := ∀ p, p < 8 → ∃ n X Y, Plt σ x p n X Y
theorem Plt_cg (hp : p < 8) (h : Plt σ x p n X Y) (e : ∀ q j, (x + 87 ≤ q ∧ q < x + 112) ∨ (x + 1556 ≤ q ∧ q ≤ x + 1558) → mxI τ q j = mxI σ q j ∧ mxL τ q j = mxL σ q j) : Plt τ x p n X Y := by
  obtain ⟨h1, h2, h3, h4⟩ := h
  refine ⟨h1, (e _ _ (by omega)).1.trans h2, (e _ _ (by omega)).1.trans h3, fun k hk => ?_⟩
  rw [(e _ _ (by omega)).2, (e _ _ (by omega)).2, (e _ _ (by omega)).2, (e _ _ (by omega)).2]
  exact h4 k hk
theorem RPl_cg (h : RPl x σ) (e : ∀ q j, cp x 3 q j → mxI τ q j = mxI σ q j ∧ mxL τ q j = mxL σ q j) : RPl x τ := fun p hp => by
  obtain ⟨n, X, Y, h⟩ := h p hp
  exact ⟨n, X, Y, Plt_cg hp h e⟩
theorem RPl.fr (h : RPl x σ) (f : Fr x ns σ τ) (hn : 3 ∉ ns) : RPl x τ := RPl_cg h fun q j hq => f.2.2.1 3 q j hq hn
theorem RPl_t (h : RPl x σ) (w : Int32) : RPl x (mx_setI (th σ) (x + 1497) 0 w) := h.fr (Fr_throw (ns := []) w) (by simp)
theorem i3264 (a : Int32) : a.toInt64.toInt = a.toInt := Int32.toInt_toInt64 a
theorem g_corner (hS : St P σ x) (h : RPl x σ) (a b c : Int32) : Q32 x σ (f_L_corner P x a b c (x + 1575) σ) (fun τ => f_X12_corner P (x + 1497) a b c τ) [3] (RPl x) := by
  obtain ⟨hH, hb, hN, hrm⟩ := hS
  have hx := LyH_o hH
  have hM := LyH_m hH
  have hbm : mpb P ≤ x + 1497 := by omega
  have hMt : LyM (th σ) (x + 1497) := hM
  have D73 : ∀ w : Int32, 0 < w.toInt → f_X12_corner_D73 P (x + 1497) a b c w (x + 1497) (th σ) = some (0, mx_setI (th σ) (x + 1497) 0 w) := fun w hw => by
    have hM5 : LyM (mx_setI (th σ) (x + 1497) 0 w) (x + 1497) := hM
    unfold f_X12_corner_D73
    rw [bd (am_pI hMt hbm _), bd (am_gI hM5), sI_e, if_neg (by rw [q_le, q_i0]; omega)]
  have bad : f_X11_corner P x a b c σ = some (.inl ("java/lang/IllegalArgumentException", th σ)) → f_X12_corner P (x + 1497) a b c (th σ) = f_X12_corner_D44 P (x + 1497) a b c (th σ) → Q32 x σ (f_L_corner P x a b c (x + 1575) σ) (fun τ => f_X12_corner P (x + 1497) a b c τ) [3] (RPl x) := fun h1 h2 =>
    thr32 (ht_corner1 hx h1) (by
      show f_X12_corner P (x + 1497) a b c (th σ) = _
      rw [h2]
      unfold f_X12_corner_D44 f_X12_corner_D45
      rw [if_pos rfl, D73 1 (by decide)]) (by decide) (RPl_t h 1)
  by_cases ra : 0 ≤ a.toInt ∧ a.toInt ≤ 7
  · by_cases rb : -1000 ≤ b.toInt ∧ b.toInt ≤ 1000
    · by_cases rc : -1000 ≤ c.toInt ∧ c.toInt ≤ 1000
      · obtain ⟨p, hp, rfl⟩ : ∃ p, p < 8 ∧ a = q_n p := ⟨a.toInt.toNat, by omega, q_ofT ra.1⟩
        obtain ⟨n, X, Y, h24, s1, s2, hk⟩ := h p hp
        have hpl := (LyH_p hH p hp).2
        have hbp : mpb P ≤ x + 88 + 3 * p := by omega
        have ec : f_X11_corner P x (q_n p) b c σ = if (24 : Int32) ≤ q_n n then f_X11_corner_D46 P x (q_n p) b c 0 σ else f_X11_corner_D46 P x (q_n p) b c 1 σ := by
          unfold f_X11_corner
          rw [bdx (rg_t (l := 0) (u := 7) ra σ), bdx (rg_t (l := -1000) (u := 1000) rb σ), bdx (rg_t (l := -1000) (u := 1000) rc σ), bd (ah_r2 hH), bd (ah_p hH hp), bd (ap_gI hpl), s1]
        have er : ∀ τ, LyM τ (x + 1497) → mxI τ (x + 1497 + 59) p = q_n n → f_X12_corner P (x + 1497) (q_n p) b c τ = if q_n n = (24 : Int32) then f_X12_corner_D73 P (x + 1497) (q_n p) b c 2 (x + 1497) τ else f_X12_corner_D73 P (x + 1497) (q_n p) b c 0 (x + 1497) τ := fun τ hMτ hτ => by
          unfold f_X12_corner f_X12_corner_D45
          rw [bd2 (in_t (l := 0) (u := 7) ra τ), if_neg zi10, bd2 (in_t (l := -1000) (u := 1000) rb τ), if_neg zi10, bd2 (in_t (l := -1000) (u := 1000) rc τ), if_neg zi10, if_neg zi10, bd (am_r86 hMτ), bd (am_g86 hMτ hp), hτ]
        by_cases h3 : n = 24
        · subst h3
          refine thr32 (w := 2) (ht_corner2 hx ?_) ?_ (by decide) (RPl_t h 2)
          · rw [ec, if_pos (by decide)]
            unfold f_X11_corner_D46
            rw [bdxl (nr_0 hrm)]
          · show f_X12_corner P (x + 1497) (q_n p) b c (th σ) = _
            rw [er (th σ) hMt s2, if_pos (show q_n 24 = (24 : Int32) from rfl), D73 2 (by decide)]
        · obtain ⟨t1, e1⟩ : ∃ t1, t1 = mx_setL σ (x + 88 + 3 * p + 1) n b.toInt64 := ⟨_, rfl⟩
          obtain ⟨t2, e2⟩ : ∃ t2, t2 = mx_setL t1 (x + 88 + 3 * p + 2) n c.toInt64 := ⟨_, rfl⟩
          obtain ⟨t3, e3⟩ : ∃ t3, t3 = mx_setI t2 (x + 88 + 3 * p) 0 (q_n (n + 1)) := ⟨_, rfl⟩
          have l1 : LyO (mxA t1) (mxR t1) 9 al9 (x + 88 + 3 * p) := by rw [e1]; exact hpl
          have l2 : LyO (mxA t2) (mxR t2) 9 al9 (x + 88 + 3 * p) := by rw [e2]; exact l1
          have l3 : LyO (mxA t3) (mxR t3) 9 al9 (x + 88 + 3 * p) := by rw [e3]; exact l2
          have z1 : mxI t1 (x + 88 + 3 * p) 0 = q_n n := by rw [e1]; exact s1
          have z2 : mxI t2 (x + 88 + 3 * p) 0 = q_n n := by rw [e2]; exact z1
          have z3 : mxI t3 (x + 88 + 3 * p) 0 = q_n (n + 1) := by rw [e3]; exact sI_e
          have hc : f_X11_corner P x (q_n p) b c σ = some (.inr (q_n (n + 1), t3)) := by
            rw [ec, if_neg (by rw [show (24 : Int32) = q_n 24 from rfl, q_nLe (by omega) (by omega)]; omega)]
            unfold f_X11_corner_D46 f_X9_addCorner f_X9_addCorner_D41
            rw [bdx (nr_1 σ), bd (ah_r2 hH), bd (ah_p hH hp), bd (ap_is hpl), bd (ap_gI hpl), s1, if_neg (by rw [show (24 : Int32) = q_n 24 from rfl, q_nLe (by omega) (by omega)]; omega), bd (ap_r1 hpl), bd (ap_gI hpl), s1, bd (ap_s1 hpl hbp (by omega) _), ← e1, bd (ap_r2 l1), bd (ap_gI l1), z1, bd (ap_s2 l1 hbp (by omega) _), ← e2, bd (ap_gI l2), z2, q_nS, bd (ap_pI l2 hbp _), ← e3, bd (ap_gI l3), z3]
            rfl
          have A3 : mxA t3 = mxA σ := by rw [e3, e2, e1]; rfl
          have hlo := hr_corner (o := x + 1575) hx hc (by rw [A3]; exact LyH_u hH) (by omega)
          obtain ⟨t4, e4⟩ : ∃ t4, t4 = mx_setL t3 (x + 1575) 0 (q_n (n + 1)).toInt64 := ⟨_, rfl⟩
          rw [← e4] at hlo
          have R3 : mxR t3 = mxR σ := by rw [e3, e2, e1]; rfl
          have hM4 : LyM t4 (x + 1497) := by
            unfold LyM
            rw [show mxA t4 = mxA σ by rw [e4]; exact A3, show mxR t4 = mxR σ by rw [e4]; exact R3]; exact hM
          have I4 : ∀ q j, ¬ (q = x + 88 + 3 * p ∧ j = 0) → mxI t4 q j = mxI σ q j := fun q j hq => by
            rw [e4, IsL, e3, sI_n hq, e2, IsL, e1, IsL]
          have L4 : ∀ q j, ¬ ((q = x + 88 + 3 * p + 1 ∨ q = x + 88 + 3 * p + 2) ∧ j = n) → q ≠ x + 1575 → mxL t4 q j = mxL σ q j := fun q j h1 h2 => by
            rw [e4, sL_n (by omega), e3, LsI, e2, sL_n (by omega), e1, sL_n (by omega)]
          obtain ⟨t5, e5⟩ : ∃ t5, t5 = mx_setI t4 (x + 1497) 0 0 := ⟨_, rfl⟩
          obtain ⟨t6, e6⟩ : ∃ t6, t6 = mx_setL t5 (x + 1497 + 60) (24 * p + n) b.toInt64 := ⟨_, rfl⟩
          obtain ⟨t7, e7⟩ : ∃ t7, t7 = mx_setL t6 (x + 1497 + 61) (24 * p + n) c.toInt64 := ⟨_, rfl⟩
          obtain ⟨t8, e8⟩ : ∃ t8, t8 = mx_setI t7 (x + 1497 + 59) p (q_n (n + 1)) := ⟨_, rfl⟩
          have hM5 : LyM t5 (x + 1497) := by rw [e5]; exact hM4
          have hM6 : LyM t6 (x + 1497) := by rw [e6]; exact hM5
          have hM7 : LyM t7 (x + 1497) := by rw [e7]; exact hM6
          have hM8 : LyM t8 (x + 1497) := by rw [e8]; exact hM7
          have y4 : mxI t4 (x + 1497 + 59) p = q_n n := (I4 _ _ (by omega)).trans s2
          have y5 : mxI t5 (x + 1497 + 59) p = q_n n := by rw [e5, sI_n (by omega)]; exact y4
          have y6 : mxI t6 (x + 1497 + 59) p = q_n n := by rw [e6]; exact y5
          have y7 : mxI t7 (x + 1497 + 59) p = q_n n := by rw [e7]; exact y6
          have y8 : mxI t8 (x + 1497 + 59) p = q_n (n + 1) := by rw [e8]; exact sI_e
          have ix : (24 : Int32) * q_n p + q_n n = q_n (24 * p + n) := by rw [show (24 : Int32) = q_n 24 from rfl, q_nM, q_nA]
          have I8 : ∀ q j, ¬ (q = x + 88 + 3 * p ∧ j = 0) → ¬ (q = x + 1497 ∧ j = 0) → ¬ (q = x + 1497 + 59 ∧ j = p) → mxI t8 q j = mxI σ q j := fun q j h1 h2 h3 => by
            rw [e8, sI_n h3, e7, IsL, e6, IsL, e5, sI_n h2]; exact I4 q j h1
          have L8 : ∀ q j, ¬ ((q = x + 88 + 3 * p + 1 ∨ q = x + 88 + 3 * p + 2) ∧ j = n) → q ≠ x + 1575 → ¬ ((q = x + 1497 + 60 ∨ q = x + 1497 + 61) ∧ j = 24 * p + n) → mxL t8 q j = mxL σ q j := fun q j h1 h2 h3 => by
            rw [e8, LsI, e7, sL_n (by omega), e6, sL_n (by omega), e5, LsI]; exact L4 q j h1 h2
          refine ⟨0, q_n (n + 1), t4, t8, hlo, ?_, ?_, fun _ => ?_, by rw [e4]; exact A3, ⟨by rw [e8, e7, e6, e5, e4]; exact A3, by rw [e8, e7, e6, e5, e4]; exact R3, fun i q j hq hi => ?_, by rw [e8, e7, e6, e5, e4, e3, e2, e1]; exact Nat.le_refl _, by rw [e8, e7, e6, e5, e4, e3, e2, e1]; exact Nat.le_succ _, by rw [e8, e7, e6, e5, e4, e3, e2, e1]; exact Nat.le_add_right _ _, fun _ => by rw [e8, e7, e6, e5, e4, e3, e2, e1]; rfl⟩, fun q hq => ?_⟩
          · show f_X12_corner P (x + 1497) (q_n p) b c t4 = _
            rw [er t4 hM4 y4, if_neg (fun z => by rw [show (24 : Int32) = q_n 24 from rfl, q_nI (by omega) (by omega)] at z; omega)]
            unfold f_X12_corner_D73
            rw [bd (am_pI hM4 hbm _), ← e5, bd (am_gI hM5), show mxI t5 (x + 1497) 0 = 0 by rw [e5]; exact sI_e, if_pos (show (0 : Int32) ≤ 0 by decide), bd (am_r87 hM5), bd (am_r86 hM5), bd (am_g86 hM5 hp), y5, ix, bd (am_s87 hM5 hbm (by omega) _), ← e6, bd (am_r88 hM6), bd (am_r86 hM6), bd (am_g86 hM6 hp), y6, ix, bd (am_s88 hM6 hbm (by omega) _), ← e7, bd (am_r86 hM7), bd (am_g86 hM7 hp), y7, q_nS, bd (am_s86 hM7 hbm hp _), ← e8, bd (am_r86 hM8), bd (am_g86 hM8 hp), y8]
          · rw [e8, sI_n (by omega), e7, IsL, e6, IsL, e5]; exact sI_e
          · rw [e8, LsI, e7, sL_n (by omega), e6, sL_n (by omega), e5, LsI, e4]; exact sL_e
          · have hi3 : i ≠ 3 := by simpa using hi
            have ho := cp_o (x := x) i
            have ht := cp_t (x := x) i
            have no : ¬ ((x + 87 ≤ q ∧ q < x + 112) ∨ (x + 1556 ≤ q ∧ q ≤ x + 1558)) := fun z => hi3 (cp_dj hq (show cp x 3 q j from z))
            refine ⟨I8 q j (by omega) (fun z => ht (by rw [← z.1, ← z.2]; exact hq)) (by omega), L8 q j (by omega) (fun z => ?_) (by omega)⟩
            rcases i with _ | _ | _ | _ | _ | _ | _ | _ | i <;> first | exact hq.elim | (simp only [cp] at hq; omega)
          · by_cases e : q = p
            · subst e
              refine ⟨n + 1, fun k => if k = n then b.toInt else X k, fun k => if k = n then c.toInt else Y k, by omega, ?_, y8, fun k hk' => ?_⟩
              · rw [e8, sI_n (by omega), e7, IsL, e6, IsL, e5, sI_n (by omega), e4, IsL]; exact z3
              · dsimp only
                by_cases ek : k = n
                · subst ek
                  rw [if_pos rfl, if_pos rfl]
                  refine ⟨⟨?_, ?_⟩, ⟨?_, ?_⟩, rb, rc⟩
                  · rw [e8, LsI, e7, sL_n (by omega), e6, sL_n (by omega), e5, LsI, e4, sL_n (by omega), e3, LsI, e2, sL_n (by omega), e1, sL_e]; exact i3264 b
                  · rw [e8, LsI, e7, sL_n (by omega), e6, sL_n (by omega), e5, LsI, e4, sL_n (by omega), e3, LsI, e2, sL_e]; exact i3264 c
                  · rw [e8, LsI, e7, sL_n (by omega), e6, sL_e]; exact i3264 b
                  · rw [e8, LsI, e7, sL_e]; exact i3264 c
                · rw [if_neg ek, if_neg ek, L8 _ _ (by omega) (by omega) (by omega), L8 _ _ (by omega) (by omega) (by omega), L8 _ _ (by omega) (by omega) (by omega), L8 _ _ (by omega) (by omega) (by omega)]
                  exact hk k (by omega)
            · obtain ⟨n', X', Y', a1, a2, a3, a4⟩ := h q hq
              refine ⟨n', X', Y', a1, (I8 _ _ (by omega) (by omega) (by omega)).trans a2, (I8 _ _ (by omega) (by omega) (by omega)).trans a3, fun k hk' => ?_⟩
              rw [L8 _ _ (by omega) (by omega) (by omega), L8 _ _ (by omega) (by omega) (by omega), L8 _ _ (by omega) (by omega) (by omega), L8 _ _ (by omega) (by omega) (by omega)]
              exact a4 k hk'
      · refine bad ?_ ?_
        · unfold f_X11_corner
          rw [bdx (rg_t (l := 0) (u := 7) ra σ), bdx (rg_t (l := -1000) (u := 1000) rb σ), bdxl (rg_f (l := -1000) (u := 1000) rc hrm)]
        · unfold f_X12_corner
          rw [bd2 (in_t (l := 0) (u := 7) ra (th σ)), if_neg zi10, bd2 (in_t (l := -1000) (u := 1000) rb (th σ)), if_neg zi10, bd2 (in_f (l := -1000) (u := 1000) rc (th σ)), if_pos rfl]
    · refine bad ?_ ?_
      · unfold f_X11_corner
        rw [bdx (rg_t (l := 0) (u := 7) ra σ), bdxl (rg_f (l := -1000) (u := 1000) rb hrm)]
      · unfold f_X12_corner
        rw [bd2 (in_t (l := 0) (u := 7) ra (th σ)), if_neg zi10, bd2 (in_f (l := -1000) (u := 1000) rb (th σ)), if_pos rfl]
  · refine bad ?_ ?_
    · unfold f_X11_corner
      rw [bdxl (rg_f (l := 0) (u := 7) ra hrm)]
    · unfold f_X12_corner
      rw [bd2 (in_f (l := 0) (u := 7) ra (th σ)), if_pos rfl]
theorem g_empty (hS : St P σ x) (h : RPl x σ) (a : Int32) : Q0 x σ (f_L_empty P x a σ) (fun τ => f_X12_empty P (x + 1497) a τ) [3] (RPl x) := by
  obtain ⟨hH, hb, hN, hrm⟩ := hS
  have hx := LyH_o hH
  have hM := LyH_m hH
  have hbm : mpb P ≤ x + 1497 := by omega
  by_cases ra : 0 ≤ a.toInt ∧ a.toInt ≤ 7
  · obtain ⟨p, hp, rfl⟩ : ∃ p, p < 8 ∧ a = q_n p := ⟨a.toInt.toNat, by omega, q_ofT ra.1⟩
    have hpl := (LyH_p hH p hp).2
    have hbp : mpb P ≤ x + 88 + 3 * p := by omega
    obtain ⟨t1, e1⟩ : ∃ t1, t1 = mx_setI σ (x + 88 + 3 * p) 0 0 := ⟨_, rfl⟩
    obtain ⟨t2, e2⟩ : ∃ t2, t2 = mx_setI t1 (x + 1497) 0 0 := ⟨_, rfl⟩
    obtain ⟨t3, e3⟩ : ∃ t3, t3 = mx_setI t2 (x + 1497 + 59) p 0 := ⟨_, rfl⟩
    have hM1 : LyM t1 (x + 1497) := by rw [e1]; exact hM
    have hM2 : LyM t2 (x + 1497) := by rw [e2]; exact hM1
    have hc : f_X11_empty P x (q_n p) σ = some (.inr t1) := by
      unfold f_X11_empty
      rw [bdx (rg_t (l := 0) (u := 7) ra σ), bd (ah_r2 hH), bd (ah_p hH hp), bd (ap_pI hpl hbp _), ← e1]
    have I3 : ∀ q j, ¬ (q = x + 88 + 3 * p ∧ j = 0) → ¬ (q = x + 1497 ∧ j = 0) → ¬ (q = x + 1497 + 59 ∧ j = p) → mxI t3 q j = mxI σ q j := fun q j h1 h2 h3 => by
      rw [e3, sI_n h3, e2, sI_n h2, e1, sI_n h1]
    have L3 : ∀ q j, mxL t3 q j = mxL σ q j := fun q j => by rw [e3, e2, e1]; rfl
    refine ⟨0, t1, t3, hr_empty hx hc, ?_, ?_, by rw [e1]; rfl, ⟨by rw [e3, e2, e1]; rfl, by rw [e3, e2, e1]; rfl, fun i q j hq hi => ?_, by rw [e3, e2, e1]; exact Nat.le_refl _, by rw [e3, e2, e1]; exact Nat.le_succ _, by rw [e3, e2, e1]; exact Nat.le_add_right _ _, fun _ => by rw [e3, e2, e1]; rfl⟩, fun q hq => ?_⟩
    · show f_X12_empty P (x + 1497) (q_n p) t1 = _
      unfold f_X12_empty f_X12_empty_D18 f_X12_empty_D35
      rw [bd2 (in_t (l := 0) (u := 7) ra t1), if_neg zi10, bd (am_pI hM1 hbm _), ← e2, bd (am_gI hM2), show mxI t2 (x + 1497) 0 = 0 by rw [e2]; exact sI_e, if_pos rfl, bd (am_r86 hM2), bd (am_s86 hM2 hbm hp _), ← e3]
    · rw [e3, sI_n (by omega), e2]; exact sI_e
    · have hi3 : i ≠ 3 := by simpa using hi
      have ht := cp_t (x := x) i
      have no : ¬ ((x + 87 ≤ q ∧ q < x + 112) ∨ (x + 1556 ≤ q ∧ q ≤ x + 1558)) := fun z => hi3 (cp_dj hq (show cp x 3 q j from z))
      exact ⟨I3 q j (by omega) (fun z => ht (by rw [← z.1, ← z.2]; exact hq)) (by omega), L3 q j⟩
    · by_cases e : q = p
      · subst e
        refine ⟨0, fun _ => 0, fun _ => 0, by omega, ?_, ?_, fun k hk => absurd hk (Nat.not_lt_zero k)⟩
        · rw [e3, sI_n (by omega), e2, sI_n (by omega), e1]; exact sI_e
        · rw [e3]; exact sI_e
      · obtain ⟨n', X', Y', a1, a2, a3, a4⟩ := h q hq
        refine ⟨n', X', Y', a1, (I3 _ _ (by omega) (by omega) (by omega)).trans a2, (I3 _ _ (by omega) (by omega) (by omega)).trans a3, fun k hk' => ?_⟩
        rw [L3, L3, L3, L3]
        exact a4 k hk'
  · refine thr0 (w := 1) (ht_empty1 hx ?_) ?_ (RPl_t h 1)
    · unfold f_X11_empty
      rw [bdxl (rg_f (l := 0) (u := 7) ra hrm)]
    · have hMt : LyM (th σ) (x + 1497) := hM
      have hM5 : LyM (mx_setI (th σ) (x + 1497) 0 1) (x + 1497) := hM
      show f_X12_empty P (x + 1497) a (th σ) = _
      unfold f_X12_empty f_X12_empty_D18 f_X12_empty_D35
      rw [bd2 (in_f (l := 0) (u := 7) ra (th σ)), if_pos rfl, bd (am_pI hMt hbm _), bd (am_gI hM5), sI_e, if_neg zi10]
end IZS
