/-! ===== lt: the class's rows: cells, divide, take away ===== -/
section LTS
variable {P : mx_P} {σ σ0 σ1 τ : mx_S} {g r k n s a j b : Nat} {π : Nat → Nat} {pv : Nat → Int32} {M M' : MT} {w z : Int × Int} {S : Nat → Nat → Prop}
def SG (g q j : Nat) : Prop := (g + 9 ≤ q ∧ q < g + 41) ∨ (g + 42 ≤ q ∧ q ≤ g + 77) ∨ (q = g ∧ (j = 13 ∨ j = 14))
def FG (g : Nat) (σ τ : mx_S) : Prop := mxA τ = mxA σ ∧ (∀ q j, ¬ (q = g + 8 ∨ q = g + 41) → mxR τ q j = mxR σ q j) ∧ (mxz τ = mxz σ ∧ mxu τ = mxu σ) ∧ ∀ q j, ¬ SG g q j → mxI τ q j = mxI σ q j ∧ mxL τ q j = mxL σ q j
theorem FG.rf : FG g σ σ := ⟨rfl, fun _ _ _ => rfl, ⟨rfl, rfl⟩, fun _ _ _ => ⟨rfl, rfl⟩⟩
theorem FG.tr (h1 : FG g σ σ1) (h2 : FG g σ1 τ) : FG g σ τ := ⟨h2.1.trans h1.1, fun q j h => (h2.2.1 q j h).trans (h1.2.1 q j h), ⟨h2.2.2.1.1.trans h1.2.2.1.1, h2.2.2.1.2.trans h1.2.2.1.2⟩, fun q j h => ⟨(h2.2.2.2 q j h).1.trans (h1.2.2.2 q j h).1, (h2.2.2.2 q j h).2.trans (h1.2.2.2 q j h).2⟩⟩
theorem Fz.G (h : Fz S σ τ) (hs : ∀ q j, S q j → SG g q j) : FG g σ τ := ⟨h.1, fun q j _ => by rw [h.2.1], h.2.2.1, fun q j y => h.2.2.2 q j fun z => y (hs q j z)⟩
theorem LyG_R {A : Nat → Option mx_Sh} {R R' : Nat → Nat → Option Nat} (e : ∀ i, R' g i = R g i) (h : LyG A R g) : LyG A R' g := by
  unfold LyG at *
  rw [e 3, e 4, e 5, e 6, e 7, e 8, e 9, e 10, e 11, e 12, e 15, e 16, e 17]
  exact h
theorem FG.L (h : FG g σ τ) (hG : LyG (mxA σ) (mxR σ) g) : LyG (mxA τ) (mxR τ) g := by
  rw [h.1]
  exact LyG_R (fun i => h.2.1 g i (by omega)) hG
theorem Fz.Lg (h : Fz S σ τ) (hG : LyG (mxA σ) (mxR σ) g) : LyG (mxA τ) (mxR τ) g := by rw [h.1, h.2.1]; exact hG
theorem ag_r10 (h : LyG (mxA σ) (mxR σ) a) : mg_R σ a 4 10 = some (a + 8) := (q_gR (LyG_o h)).trans (LyG_r10 h)
theorem ag_r11 (h : LyG (mxA σ) (mxR σ) a) : mg_R σ a 4 11 = some (a + 41) := (q_gR (LyG_o h)).trans (LyG_r11 h)
theorem ag_r15 (h : LyG (mxA σ) (mxR σ) a) : mg_R σ a 4 15 = some (a + 75) := (q_gR (LyG_o h)).trans (LyG_r15 h)
theorem ag_r16 (h : LyG (mxA σ) (mxR σ) a) : mg_R σ a 4 16 = some (a + 76) := (q_gR (LyG_o h)).trans (LyG_r16 h)
theorem ag_r17 (h : LyG (mxA σ) (mxR σ) a) : mg_R σ a 4 17 = some (a + 77) := (q_gR (LyG_o h)).trans (LyG_r17 h)
theorem ag_row (h : LyG (mxA σ) (mxR σ) g) (hi : j < 32) : mxA σ (g + 9 + j) = some (.inr (1, 13)) ∧ mxA σ (g + 42 + j) = some (.inr (1, 13)) := by
  unfold LyG at h
  exact h.2.2.2.2.2.2.2.2.2.2.2.2.2.2.2.2.2.2.2.2.2.2.2.2.2.2.2 j hi
def Pm (σ : mx_S) (g : Nat) (π : Nat → Nat) : Prop := (∀ i, i < 32 → π i < 32 ∧ mxR σ (g + 8) i = some (g + 9 + π i) ∧ mxR σ (g + 41) i = some (g + 42 + π i)) ∧ ∀ i j, i < 32 → j < 32 → π i = π j → i = j
def MC (σ : mx_S) (g : Nat) (π : Nat → Nat) (n : Nat) (M : MT) : Prop := ∀ r, r < n → ∀ k, k < 13 → (mxL σ (g + 9 + π r) k).toInt = (M r k).1 ∧ (mxL σ (g + 42 + π r) k).toInt = (M r k).2
def CG (σ0 σ : mx_S) (g : Nat) (π : Nat → Nat) (n : Nat) (pv : Nat → Int32) (M : MT) : Prop := FG g σ0 σ ∧ LyG (mxA σ) (mxR σ) g ∧ Pm σ g π ∧ mxI σ g 13 = q_n n ∧ (∀ s, s < 12 → mxI σ (g + 74) s = pv s) ∧ MC σ g π n M
theorem cg_t (hG : LyG (mxA σ) (mxR σ) g) (hP : Pm σ g π) (hr : r < 32) : ma_R σ (g + 8) 7 (q_n r) = some (g + 9 + π r) := (q_aRn (LyG_a10 hG) (by omega) hr).trans (hP.1 r hr).2.1
theorem cg_b (hG : LyG (mxA σ) (mxR σ) g) (hP : Pm σ g π) (hr : r < 32) : ma_R σ (g + 41) 7 (q_n r) = some (g + 42 + π r) := (q_aRn (LyG_a11 hG) (by omega) hr).trans (hP.1 r hr).2.2
theorem cg_T (hG : LyG (mxA σ) (mxR σ) g) (hP : Pm σ g π) (hr : r < 32) (hk : k < 13) : ma_L σ (g + 9 + π r) 1 (q_n k) = some (mxL σ (g + 9 + π r) k) := q_aLn (ag_row hG (hP.1 r hr).1).1 (by omega) hk
theorem cg_B (hG : LyG (mxA σ) (mxR σ) g) (hP : Pm σ g π) (hr : r < 32) (hk : k < 13) : ma_L σ (g + 42 + π r) 1 (q_n k) = some (mxL σ (g + 42 + π r) k) := q_aLn (ag_row hG (hP.1 r hr).1).2 (by omega) hk
theorem cg_sT (hG : LyG (mxA σ) (mxR σ) g) (hP : Pm σ g π) (hb : mpb P ≤ g) (hr : r < 32) (hk : k < 13) (v : Int64) : ms_L P σ (g + 9 + π r) 1 (q_n k) v = some (mx_setL σ (g + 9 + π r) k v) := q_sLn (ag_row hG (hP.1 r hr).1).1 (by omega) hk (by omega) v
theorem cg_sB (hG : LyG (mxA σ) (mxR σ) g) (hP : Pm σ g π) (hb : mpb P ≤ g) (hr : r < 32) (hk : k < 13) (v : Int64) : ms_L P σ (g + 42 + π r) 1 (q_n k) v = some (mx_setL σ (g + 42 + π r) k v) := q_sLn (ag_row hG (hP.1 r hr).1).2 (by omega) hk (by omega) v
theorem Fz.pm (h : Fz S σ τ) (hP : Pm σ g π) : Pm τ g π := by unfold Pm at *; rw [h.2.1]; exact hP
theorem CG.fz (h : CG σ0 σ g π n pv M) (hn : n ≤ 32) (f : Fz S σ τ) (hs : ∀ q j, S q j → g + 75 ≤ q ∧ q ≤ g + 77) : CG σ0 τ g π n pv M := by
  obtain ⟨h1, h2, h3, h4, h5, h6⟩ := h
  refine ⟨h1.tr (f.G fun q j y => Or.inr (Or.inl (by have := hs q j y; omega))), f.Lg h2, f.pm h3, (f.2.2.2 _ _ fun y => by have := hs _ _ y; omega).1.trans h4, fun s hs1 => (f.2.2.2 _ _ fun y => by have := hs _ _ y; omega).1.trans (h5 s hs1), fun r hr k hk => ?_⟩
  have p := (h3.1 r (by omega)).1
  rw [(f.2.2.2 (g + 9 + π r) k fun y => by have := hs _ _ y; omega).2, (f.2.2.2 (g + 42 + π r) k fun y => by have := hs _ _ y; omega).2]
  exact h6 r hr k hk
theorem c_rdc (hG : LyG (mxA σ) (mxR σ) g) (hP : Pm σ g π) (hM : MC σ g π n M) (hO : MO n M) (hn : n ≤ 32) (hr : r < n) (hk : k < 13) (hA : mxA σ a = some (.inl 3)) (hb : mpb P ≤ a) (ha : a < g ∨ g + 75 ≤ a) : ∃ τ, f_X4_readCell P g a (q_n r) (q_n k) σ = some τ ∧ FOc τ a (some (M r k)) ∧ Fz (fun q j => q = a ∧ j ≤ 2) σ τ := by
  obtain ⟨σ1, e1⟩ : ∃ σ1, σ1 = mx_setL σ a 0 (mxL σ (g + 9 + π r) k) := ⟨_, rfl⟩
  obtain ⟨σ2, e2⟩ : ∃ σ2, σ2 = mx_setL σ1 a 1 (mxL σ (g + 42 + π r) k) := ⟨_, rfl⟩
  have p := (hP.1 r (by omega)).1
  have F1 : Fz (fun q j => q = a ∧ j ≤ 2) σ σ1 := by rw [e1]; exact Fz.rf.sL ⟨rfl, by omega⟩ _
  have F2 : Fz (fun q j => q = a ∧ j ≤ 2) σ σ2 := by rw [e2]; exact F1.sL ⟨rfl, by omega⟩ _
  have l1 : mxL σ1 (g + 42 + π r) k = mxL σ (g + 42 + π r) k := by rw [e1]; exact sL_n (by omega)
  obtain ⟨m1, m2⟩ := hM r hr k hk
  obtain ⟨o1, o2, o3, o4⟩ := hO r hr k hk
  refine ⟨mx_setI σ2 a 2 0, ?_, ?_, F2.sI ⟨rfl, by omega⟩ _⟩
  · unfold f_X4_readCell
    rw [bd (ag_r10 hG), bd (cg_t hG hP (by omega)), bd (cg_T hG hP (by omega) hk), bd (q_pL hA hb _), ← e1, bd (ag_r11 (F1.Lg hG)), bd (cg_b (F1.Lg hG) (F1.pm hP) (by omega)), bd (cg_B (F1.Lg hG) (F1.pm hP) (by omega) hk), l1, bd (q_pL (F1.A3 hA) hb _), ← e2, bd (q_pZ (F2.A3 hA) hb (Or.inl rfl))]
  · have a0 : mxL (mx_setI σ2 a 2 0) a 0 = mxL σ (g + 9 + π r) k := by rw [LsI, e2, sL_n (by omega), e1, sL_e]
    have a1 : mxL (mx_setI σ2 a 2 0) a 1 = mxL σ (g + 42 + π r) k := by rw [LsI, e2, sL_e]
    refine ⟨⟨rfl, ?_⟩, ⟨rfl, ?_⟩, ?_, sI_e, ?_, ?_⟩
    · rw [a0, m1]; exact o3
    · rw [a1, m2]; exact o4
    · rw [a1, m2]; exact o1
    · rw [a0, m1]
    · rw [a1, m2]
theorem c_wrc (h : CG σ0 σ g π n pv M) (hn : n ≤ 32) (hb : mpb P ≤ g) (hr : r < n) (hk : k < 13) (hz : (mxL σ (g + 77) 0).toInt = z.1 ∧ (mxL σ (g + 77) 1).toInt = z.2) : ∃ τ, f_X4_writeCell P g (q_n r) (q_n k) σ = some τ ∧ CG σ0 τ g π n pv (mu M r k z) ∧ Fz (fun q j => (g + 9 ≤ q ∧ q < g + 41) ∨ (g + 42 ≤ q ∧ q < g + 74)) σ τ := by
  obtain ⟨h1, hG, hP, h4, h5, hM⟩ := h
  have p := (hP.1 r (by omega)).1
  obtain ⟨σ1, e1⟩ : ∃ σ1, σ1 = mx_setL σ (g + 9 + π r) k (mxL σ (g + 77) 0) := ⟨_, rfl⟩
  have F1 : Fz (fun q j => (g + 9 ≤ q ∧ q < g + 41) ∨ (g + 42 ≤ q ∧ q < g + 74)) σ σ1 := by rw [e1]; exact Fz.rf.sL (Or.inl ⟨by omega, by omega⟩) _
  have l1 : mxL σ1 (g + 77) 1 = mxL σ (g + 77) 1 := (F1.2.2.2 _ _ (by omega)).2
  obtain ⟨σ2, e2⟩ : ∃ σ2, σ2 = mx_setL σ1 (g + 42 + π r) k (mxL σ (g + 77) 1) := ⟨_, rfl⟩
  have F2 : Fz (fun q j => (g + 9 ≤ q ∧ q < g + 41) ∨ (g + 42 ≤ q ∧ q < g + 74)) σ σ2 := by rw [e2]; exact F1.sL (Or.inr ⟨by omega, by omega⟩) _
  refine ⟨σ2, ?_, ⟨h1.tr (F2.G fun q j y => by unfold SG; omega), F2.Lg hG, F2.pm hP, (F2.2.2.2 _ _ (by omega)).1.trans h4, fun s hs => (F2.2.2.2 _ _ (by omega)).1.trans (h5 s hs), fun i hi l hl => ?_⟩, F2⟩
  · unfold f_X4_writeCell
    rw [bd (ag_r10 hG), bd (cg_t hG hP (by omega)), bd (ag_r17 hG), bd (q_gL (LyG_a17 hG)), bd (cg_sT hG hP hb (by omega) hk _), ← e1, bd (ag_r11 (F1.Lg hG)), bd (cg_b (F1.Lg hG) (F1.pm hP) (by omega)), bd (ag_r17 (F1.Lg hG)), bd (q_gL (LyG_a17 (F1.Lg hG))), l1, bd (cg_sB (F1.Lg hG) (F1.pm hP) hb (by omega) hk _), ← e2]
  · have pi := (hP.1 i (by omega)).1
    obtain ⟨m1, m2⟩ := hM i hi l hl
    by_cases y : i = r ∧ l = k
    · obtain ⟨rfl, rfl⟩ := y
      rw [mu_e]
      refine ⟨?_, ?_⟩
      · rw [e2, sL_n (by omega), e1, sL_e]; exact hz.1
      · rw [e2, sL_e]; exact hz.2
    · rw [mu_n y]
      have ne : ¬ (π i = π r ∧ l = k) := fun w => y ⟨hP.2 i r (by omega) (by omega) w.1, w.2⟩
      refine ⟨?_, ?_⟩
      · rw [e2, sL_n (by omega), e1, sL_n (by omega)]; exact m1
      · rw [e2, sL_n (by omega), e1, sL_n (by omega)]; exact m2
theorem t_0 {u : Int64} {p : Int} (h : u.toInt = p) : lg_cmp u (0 : Int64) = 0 ↔ p = 0 := by
  rw [q_cmp0, ← h]
  exact ⟨fun e => by rw [e]; rfl, fun e => Int64.toInt.inj (e.trans rfl)⟩
theorem CG.is (h : CG σ0 σ g π n pv M) : mx_is σ g 4 = some () := ag_is h.2.1
theorem CG.tt (h : CG σ0 σ g π n pv M) (hr : r < 32) : ma_R σ (g + 8) 7 (q_n r) = some (g + 9 + π r) := cg_t h.2.1 h.2.2.1 hr
theorem CG.bb (h : CG σ0 σ g π n pv M) (hr : r < 32) : ma_R σ (g + 41) 7 (q_n r) = some (g + 42 + π r) := cg_b h.2.1 h.2.2.1 hr
theorem CG.T (h : CG σ0 σ g π n pv M) (hr : r < 32) (hk : k < 13) : ma_L σ (g + 9 + π r) 1 (q_n k) = some (mxL σ (g + 9 + π r) k) := cg_T h.2.1 h.2.2.1 hr hk
theorem CG.B (h : CG σ0 σ g π n pv M) (hr : r < 32) (hk : k < 13) : ma_L σ (g + 42 + π r) 1 (q_n k) = some (mxL σ (g + 42 + π r) k) := cg_B h.2.1 h.2.2.1 hr hk
theorem CG.t0 (h : CG σ0 σ g π n pv M) (hr : r < n) (hk : k < 13) : lg_cmp (mxL σ (g + 9 + π r) k) (0 : Int64) = 0 ↔ (M r k).1 = 0 := t_0 (h.2.2.2.2.2 r hr k hk).1
theorem CG.b1 (h : CG σ0 σ g π n pv M) (hO : MO n M) (hr : r < n) (hk : k < 13) : B64 (mxL σ (g + 9 + π r) k) (M r k).1 1000000000000000 := ⟨(h.2.2.2.2.2 r hr k hk).1, (hO r hr k hk).2.2.1⟩
theorem CG.b2 (h : CG σ0 σ g π n pv M) (hO : MO n M) (hr : r < n) (hk : k < 13) : B64 (mxL σ (g + 42 + π r) k) (M r k).2 1000000000000000 := ⟨(h.2.2.2.2.2 r hr k hk).2, (hO r hr k hk).2.2.2⟩
end LTS
