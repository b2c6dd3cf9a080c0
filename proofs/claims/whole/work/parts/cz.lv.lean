/-! ===== lv: the class: change of places, all columns, contradiction ===== -/
section LVS
variable {P : mx_P} {σ σ0 σ1 τ : mx_S} {g r k n s a j b x l : Nat} {π : Nat → Nat} {pv : Nat → Int32} {M M' : MT} {w z : Int × Int} {S : Nat → Nat → Prop} {u v : Int64}
theorem q_sQ (h : mxA σ a = some (.inr (7, n))) (hn : n ≤ 65536) (hj : j < n) (hb : mpb P ≤ a) (hx : mxA σ x = some (.inr (1, l))) : ms_Q P σ a (q_n j) x = some (mx_setR σ a j x) := by
  unfold ms_Q
  rw [q_ix h (by rw [q_nT (by omega)]; omega) (by rw [q_nT (by omega)]; omega), Option.bind_some, hx]
  show (if mpb P ≤ a ∧ 1 = 1 then some (mx_setR σ a (q_n j).toInt.toNat x) else none) = _
  rw [if_pos ⟨hb, rfl⟩, q_nN (by omega)]
def tp (b a i : Nat) : Nat := if i = b then a else if i = a then b else i
theorem sw_tp (i : Nat) : sw M b a i = M (tp b a i) := by
  unfold sw tp
  split
  · rfl
  · split <;> rfl
theorem tp_lt {i : Nat} (ha : a < n) (hb : b < n) (hi : i < n) : tp b a i < n := by
  unfold tp; split
  · exact ha
  · split
    · exact hb
    · exact hi
theorem tp_in {i l : Nat} (h : tp b a i = tp b a l) : i = l := by
  unfold tp at h
  split at h <;> split at h <;> (try split at h) <;> (try split at h) <;> omega
theorem c_swp (hb : mpb P ≤ g) (h : CG σ0 σ g π n pv M) (hn : n ≤ 32) (ha : a < n) (hr : r < n) : ∃ τ, f_X4_changePlaces P g (q_n a) (q_n r) σ = some τ ∧ CG σ0 τ g (fun i => π (tp r a i)) n pv (sw M r a) := by
  obtain ⟨h1, hG, hP, h4, h5, hM⟩ := h
  obtain ⟨σ1, e1⟩ : ∃ σ1, σ1 = mx_setR σ (g + 8) a (g + 9 + π r) := ⟨_, rfl⟩
  obtain ⟨σ2, e2⟩ : ∃ σ2, σ2 = mx_setR σ1 (g + 8) r (g + 9 + π a) := ⟨_, rfl⟩
  obtain ⟨σ3, e3⟩ : ∃ σ3, σ3 = mx_setR σ2 (g + 41) a (g + 42 + π r) := ⟨_, rfl⟩
  obtain ⟨σ4, e4⟩ : ∃ σ4, σ4 = mx_setR σ3 (g + 41) r (g + 42 + π a) := ⟨_, rfl⟩
  have F1 : FG g σ σ1 := by rw [e1]; exact ⟨rfl, fun q j y => q_Rn (by omega), ⟨rfl, rfl⟩, fun _ _ _ => ⟨rfl, rfl⟩⟩
  have F2 : FG g σ σ2 := by rw [e2]; exact F1.tr ⟨rfl, fun q j y => q_Rn (by omega), ⟨rfl, rfl⟩, fun _ _ _ => ⟨rfl, rfl⟩⟩
  have F3 : FG g σ σ3 := by rw [e3]; exact F2.tr ⟨rfl, fun q j y => q_Rn (by omega), ⟨rfl, rfl⟩, fun _ _ _ => ⟨rfl, rfl⟩⟩
  have F4 : FG g σ σ4 := by rw [e4]; exact F3.tr ⟨rfl, fun q j y => q_Rn (by omega), ⟨rfl, rfl⟩, fun _ _ _ => ⟨rfl, rfl⟩⟩
  have pa := (hP.1 a (by omega)).1
  have pr := (hP.1 r (by omega)).1
  have A1 : mxA σ1 = mxA σ := F1.1
  have A2 : mxA σ2 = mxA σ := F2.1
  have A3 : mxA σ3 = mxA σ := F3.1
  have r41 : ∀ i, mxR σ2 (g + 41) i = mxR σ (g + 41) i := fun i => by rw [e2, q_Rn (by omega), e1, q_Rn (by omega)]
  have b2 : ∀ i, i < 32 → ma_R σ2 (g + 41) 7 (q_n i) = some (g + 42 + π i) := fun i hi => (q_aRn (LyG_a11 (F2.L hG)) (by omega) hi).trans ((r41 i).trans (hP.1 i hi).2.2)
  refine ⟨σ4, ?_, h1.tr F4, F4.L hG, ⟨fun i hi => ⟨(hP.1 _ (tp_lt (by omega) (by omega) hi)).1, ?_, ?_⟩, fun i l hi hl y => tp_in (hP.2 _ _ (tp_lt (by omega) (by omega) hi) (tp_lt (by omega) (by omega) hl) y)⟩, ?_, ?_, ?_⟩
  · unfold f_X4_changePlaces
    rw [bd (ag_r10 hG), bd (cg_t hG hP (by omega)), bd (ag_r10 hG), bd (ag_r10 hG), bd (cg_t hG hP (by omega)), bd (q_sQ (LyG_a10 hG) (by omega) (by omega) (by omega) (ag_row hG pr).1), ← e1, bd (ag_r10 (F1.L hG)), bd (q_sQ (LyG_a10 (F1.L hG)) (by omega) (by omega) (by omega) (ag_row (F1.L hG) pa).1), ← e2, bd (ag_r11 (F2.L hG)), bd (b2 a (by omega)), bd (ag_r11 (F2.L hG)), bd (ag_r11 (F2.L hG)), bd (b2 r (by omega)), bd (q_sQ (LyG_a11 (F2.L hG)) (by omega) (by omega) (by omega) (ag_row (F2.L hG) pr).2), ← e3, bd (ag_r11 (F3.L hG)), bd (q_sQ (LyG_a11 (F3.L hG)) (by omega) (by omega) (by omega) (ag_row (F3.L hG) pa).2), ← e4]
  · have q8 : mxR σ4 (g + 8) i = mxR σ2 (g + 8) i := by rw [e4, q_Rn (by omega), e3, q_Rn (by omega)]
    rw [q8]
    show _ = some (g + 9 + π (tp r a i))
    unfold tp
    split
    · rename_i y; rw [y, e2, q_Re]
    · rename_i y
      rw [e2, q_Rn (by omega)]
      split
      · rename_i y2; rw [y2, e1, q_Re]
      · rename_i y2; rw [e1, q_Rn (by omega)]; exact (hP.1 i hi).2.1
  · show _ = some (g + 42 + π (tp r a i))
    unfold tp
    split
    · rename_i y; rw [y, e4, q_Re]
    · rename_i y
      rw [e4, q_Rn (by omega)]
      split
      · rename_i y2; rw [y2, e3, q_Re]
      · rename_i y2; rw [e3, q_Rn (by omega), r41]; exact (hP.1 i hi).2.2
  · rw [e4, e3, e2, e1]; exact h4
  · rw [e4, e3, e2, e1]; exact h5
  · have L4 : mxL σ4 = mxL σ := by rw [e4, e3, e2, e1]; rfl
    intro i hi k hk
    rw [L4, sw_tp]
    exact hM _ (tp_lt ha hr hi) k hk
theorem c_fw (hf : 5000 ≤ mpN P) (h : CG σ0 σ g π n pv M) (hn : n ≤ 32) (hr : r ≤ n) (hs : s < 12) : ∃ j, FS M s n r j ∧ f_X4_firstWith P g (q_n s) (q_n r) σ = some (if j < n then q_n j else -1, σ) := by
  obtain ⟨ρ, e, y⟩ := q_for (f_X4_firstWith_L2 P g (q_n s)) (fun k t => t = (q_n k, σ) ∧ r ≤ k ∧ ∀ i, r ≤ i → i < k → (M i s).1 = 0) (fun ρ => (∃ j, j < n ∧ FS M s n r j ∧ ρ = .inl (q_n j, σ)) ∨ (FS M s n r n ∧ ρ = .inr σ)) n
    (by
      rintro k t hk ⟨rfl, rk, i2⟩
      show (∃ t', f_X4_firstWith_B2 P g (q_n s) (q_n k) σ = some (.inl t') ∧ _) ∨ ∃ ρ, f_X4_firstWith_B2 P g (q_n s) (q_n k) σ = some (.inr ρ) ∧ _
      unfold f_X4_firstWith_B2
      rw [bd (ag_gI h.2.1), h.2.2.2.1, if_neg (qn_ge hk (by omega)), bd (ag_r10 h.2.1), bd (h.tt (by omega)), bd (h.T (by omega) (by omega))]
      by_cases y : (M k s).1 = 0
      · left
        rw [if_pos ((h.t0 hk (by omega)).mpr y), Option.bind_some, q_nS]
        refine ⟨_, rfl, rfl, by omega, fun i h1 h2 => ?_⟩
        rcases Nat.eq_or_lt_of_le (Nat.le_of_lt_succ h2) with z | z
        · rw [z]; exact y
        · exact i2 i h1 z
      · right
        rw [if_neg (fun z => y ((h.t0 hk (by omega)).mp z))]
        exact ⟨_, rfl, Or.inl ⟨k, hk, ⟨rk, by omega, i2, fun _ => y⟩, rfl⟩⟩)
    (by
      rintro t ⟨rfl, rk, i2⟩
      refine ⟨_, ?_, Or.inr ⟨⟨hr, Nat.le_refl _, i2, fun z => absurd z (by omega)⟩, rfl⟩⟩
      show f_X4_firstWith_B2 P g (q_n s) (q_n n) σ = _
      unfold f_X4_firstWith_B2
      rw [bd (ag_gI h.2.1), h.2.2.2.1, if_pos ((q_nLe (by omega) (by omega)).mpr (Nat.le_refl _))])
    (n - r) r (q_n r, σ) (mpN P) (by omega) ⟨rfl, Nat.le_refl _, fun i h1 h2 => absurd h2 (by omega)⟩ (by omega)
  unfold f_X4_firstWith
  rw [bd e]
  rcases y with ⟨j, hj, f, rfl⟩ | ⟨f, rfl⟩
  · exact ⟨j, f, by rw [if_pos hj]; rfl⟩
  · exact ⟨n, f, by rw [if_neg (by omega)]; rfl⟩
theorem c_ell (hf : 5000 ≤ mpN P) (hb : mpb P ≤ g) (h : CG σ0 σ g π n pv M) (hO : MO n M) (hn : n ≤ 32) (hr : r < n) (hs : s < 12) : ∃ ρ, mx_lp (f_X4_isReduced_L57 P g (q_n r) (q_n s)) (mpN P) ((0 : Int32), σ) = some ρ ∧ ((∃ τ, ρ = .inl τ ∧ elL M r s n = none ∧ CX σ0 τ g) ∨ ∃ τ M', ρ = .inr τ ∧ elL M r s n = some M' ∧ CG σ0 τ g π n pv M') := by
  refine q_for (f_X4_isReduced_L57 P g (q_n r) (q_n s)) (fun k t => t.1 = q_n k ∧ ∃ Mk, elL M r s k = some Mk ∧ CG σ0 t.2 g π n pv Mk) _ n ?_ ?_ n 0 ((0 : Int32), σ) (mpN P) (by omega) ⟨rfl, M, rfl, h⟩ (by omega)
  · rintro j ⟨v7, t⟩ hj ⟨i1, Mk, i2, i3⟩
    dsimp only at i1 i3
    subst i1
    have hOk := elL_O hO hr (by omega) j (by omega) Mk i2
    have hd : elL M r s (j + 1) = elS r s j Mk := by show (elL M r s j).bind _ = _; rw [i2]; rfl
    show (∃ t', f_X4_isReduced_B57 P g (q_n r) (q_n s) (q_n j) t = some (.inl t') ∧ _) ∨ ∃ ρ, f_X4_isReduced_B57 P g (q_n r) (q_n s) (q_n j) t = some (.inr ρ) ∧ _
    have D : ∀ τ M', elS r s j Mk = some M' → CG σ0 τ g π n pv M' → ∃ t', f_X4_isReduced_D99_57 P g (q_n r) (q_n s) (q_n j) τ = some (.inl t') ∧ t'.1 = q_n (j + 1) ∧ ∃ Mk, elL M r s (j + 1) = some Mk ∧ CG σ0 t'.2 g π n pv Mk := fun τ M' y1 y2 => by
      unfold f_X4_isReduced_D99_57
      rw [Option.bind_some, q_nS]
      exact ⟨_, rfl, rfl, M', hd.trans y1, y2⟩
    unfold f_X4_isReduced_B57
    rw [bd (ag_gI i3.2.1), i3.2.2.2.1, if_neg (qn_ge hj (by omega))]
    by_cases jr : j = r
    · left
      rw [if_pos (by rw [jr])]
      exact D t Mk (by unfold elS; rw [if_pos (Or.inl jr)]) i3
    · rw [if_neg (fun z => jr ((q_nI (by omega) (by omega)).mp z)), bd (ag_r10 i3.2.1), bd (i3.tt (by omega)), bd (i3.T (by omega) (by omega))]
      by_cases y0 : (Mk j s).1 = 0
      · left
        rw [if_pos ((i3.t0 hj (by omega)).mpr y0)]
        exact D t Mk (by unfold elS; rw [if_pos (Or.inr y0)]) i3
      · rw [if_neg (fun z => y0 ((i3.t0 hj (by omega)).mp z)), bd i3.is]
        have un : elS r s j Mk = tkL Mk j r (Mk j s) 13 := by unfold elS; rw [if_neg (by omega)]
        obtain ⟨c, τ, e, y⟩ := c_tak (P := P) hf hb i3 hOk hn hr hj hs
        rw [bd2 e]
        rcases y with ⟨rfl, y1, y2⟩ | ⟨rfl, M', y1, y2⟩
        · right
          rw [if_pos rfl]
          exact ⟨_, rfl, Or.inl ⟨τ, rfl, el_mo (k := j + 1) (by omega) (by rw [hd, un]; exact y1), y2⟩⟩
        · left
          rw [if_neg (by decide)]
          exact D τ M' (un.trans y1) y2
  · rintro ⟨v7, t⟩ ⟨i1, Mk, i2, i3⟩
    dsimp only at i1 i3
    subst i1
    refine ⟨.inr t, ?_, Or.inr ⟨t, Mk, rfl, i2, i3⟩⟩
    show f_X4_isReduced_B57 P g (q_n r) (q_n s) (q_n n) t = _
    unfold f_X4_isReduced_B57
    rw [bd (ag_gI i3.2.1), i3.2.2.2.1, if_pos ((q_nLe (by omega) (by omega)).mpr (Nat.le_refl _))]
theorem stp_y (h : FS M s n r j) (hj : j < n) : stp n s (M, r, pv) = (dvL (sw M r j) r (iv (sw M r j r s)) 13).bind fun M2 => (elL M2 r s n).map fun M3 => (M3, r + 1, fun i => if i = s then q_n r else pv i) := by
  unfold stp
  dsimp only
  rw [FS_fs h, if_pos hj]
theorem stp_no (h : FS M s n r n) : stp n s (M, r, pv) = some (M, r, pv) := by
  unfold stp
  dsimp only
  rw [FS_fs h, if_neg (by omega)]
theorem CG.sv (h : CG σ0 σ g π n pv M) (hn : n ≤ 32) (v : Int32) : CG σ0 (mx_setI σ (g + 74) s v) g π n (fun i => if i = s then v else pv i) M := by
  obtain ⟨h1, hG, hP, h4, h5, hM⟩ := h
  have F : Fz (fun q j => q = g + 74) σ (mx_setI σ (g + 74) s v) := Fz.sI (S := fun q _ => q = g + 74) Fz.rf rfl v
  refine ⟨h1.tr (F.G fun q j y => by unfold SG; omega), hG, hP, (sI_n (by omega)).trans h4, fun i hi => ?_, hM⟩
  show _ = if i = s then v else pv i
  split
  · rename_i y; rw [y]; exact sI_e
  · rename_i y; rw [sI_n (by omega)]; exact h5 i hi
theorem c_rdu (hf : 5000 ≤ mpN P) (hb : mpb P ≤ g) (h : CG σ0 σ g π n pv M) (hO : MO n M) (hn : n ≤ 32) : ∃ c τ, f_X4_isReduced P g σ = some (c, τ) ∧ ((c = 0 ∧ rdu n M 12 = none ∧ CX σ0 τ g) ∨ (c = 1 ∧ ∃ T π, rdu n M 12 = some T ∧ CG σ0 τ g π n T.2.2 T.1)) := by
  obtain ⟨s3, e3, f3, q1, q2, q3, q4, q5, q6⟩ := k_fill (P := P) (LyG_a12 h.2.1) (by omega) (by omega) (by omega) (-1 : Int32)
  have C0 : CG σ0 s3 g π n (fun _ => -1) M := by
    obtain ⟨h1, hG, hP, h4, h5, hM⟩ := h
    have F : FG g σ s3 := ⟨q1, fun q j _ => by rw [q2], ⟨q3, q4⟩, fun q j y => ⟨q5 q j fun z => y (by unfold SG; omega), q6 q j fun z => z⟩⟩
    refine ⟨h1.tr F, F.L hG, ?_, (q5 _ _ (by omega)).trans h4, f3, fun i hi k hk => ?_⟩
    · unfold Pm; rw [q2]; exact hP
    · rw [q6 _ _ (fun z => z), q6 _ _ (fun z => z)]; exact hM i hi k hk
  have lp : ∃ ρ, mx_lp (f_X4_isReduced_L12 P g) (mpN P) ((0 : Int32), (0 : Int32), s3) = some ρ ∧ ((∃ τ, (ρ = .inl τ ∨ ρ = .inr (.inl τ)) ∧ rdu n M 12 = none ∧ CX σ0 τ g) ∨ ∃ τ T π, ρ = .inr (.inr τ) ∧ rdu n M 12 = some T ∧ CG σ0 τ g π n T.2.2 T.1) := by
    refine q_for (f_X4_isReduced_L12 P g) (fun s t => t.2.1 = q_n s ∧ ∃ T π, rdu n M s = some T ∧ t.1 = q_n T.2.1 ∧ CG σ0 t.2.2 g π n T.2.2 T.1) _ 12 ?_ ?_ 12 0 ((0 : Int32), (0 : Int32), s3) (mpN P) rfl ⟨rfl, (M, 0, fun _ => -1), π, rfl, rfl, C0⟩ (by omega)
    · rintro s ⟨v1, v2, t⟩ hs ⟨i1, ⟨Ms, r, ps⟩, π, i2, i3, i4⟩
      dsimp only at i1 i3 i4
      subst i1 i3
      obtain ⟨hOk, hrn⟩ := rd_O hO s (by omega) _ i2
      dsimp only at hOk hrn
      have hd : rdu n M (s + 1) = stp n s (Ms, r, ps) := by show (rdu n M s).bind _ = _; rw [i2]; rfl
      show (∃ t', f_X4_isReduced_B12 P g (q_n r) (q_n s) t = some (.inl t') ∧ _) ∨ ∃ ρ, f_X4_isReduced_B12 P g (q_n r) (q_n s) t = some (.inr ρ) ∧ _
      have D : ∀ τ T π', stp n s (Ms, r, ps) = some T → CG σ0 τ g π' n T.2.2 T.1 → ∃ t', f_X4_isReduced_D115_12 P g (q_n T.2.1) (q_n s) τ = some (.inl t') ∧ t'.2.1 = q_n (s + 1) ∧ ∃ T π, rdu n M (s + 1) = some T ∧ t'.1 = q_n T.2.1 ∧ CG σ0 t'.2.2 g π n T.2.2 T.1 := fun τ T π' y1 y2 => by
        unfold f_X4_isReduced_D115_12
        rw [Option.bind_some, q_nS]
        exact ⟨_, rfl, rfl, T, π', hd.trans y1, rfl, y2⟩
      unfold f_X4_isReduced_B12
      rw [if_neg (by rw [show (12 : Int32) = q_n 12 from rfl]; exact qn_ge hs (by omega)), bd (ag_gI i4.2.1), i4.2.2.2.1]
      by_cases rn : r = n
      · right
        rw [if_pos ((q_nLe (by omega) (by omega)).mpr (by omega))]
        refine ⟨_, rfl, Or.inr ⟨t, (Ms, r, ps), π, rfl, ?_, i4⟩⟩
        have := rdu_n (t := (Ms, r, ps)) rn i2 (12 - s)
        rwa [show s + (12 - s) = 12 by omega] at this
      · rw [if_neg (qn_ge (by omega) (by omega)), bd i4.is]
        obtain ⟨j, hj, ej⟩ := c_fw (P := P) hf i4 hn hrn hs
        rw [bd2 ej]
        by_cases jn : j < n
        · rw [if_pos jn, if_neg (show ¬ q_n j < 0 from fun z => by rw [q_n0, q_nLt (by omega) (by omega)] at z; omega), bd i4.is]
          have un := stp_y (pv := ps) hj jn
          have hr : r < n := by omega
          obtain ⟨t1, e1, C1⟩ := c_swp (P := P) hb i4 hn jn hr
          have O1 := sw_O hOk hr jn
          have nz : (sw Ms r j r s).1 ≠ 0 := by
            unfold sw; rw [if_pos rfl]; exact hj.2.2.2 jn
          rw [bd e1, bd C1.is]
          obtain ⟨c, t2, e2, y⟩ := c_div (P := P) hf hb C1 O1 hn hr hs nz
          rw [bd2 e2]
          rcases y with ⟨rfl, y1, y2⟩ | ⟨rfl, M2, y1, C2⟩
          · right
            rw [if_pos rfl]
            refine ⟨_, rfl, Or.inl ⟨t2, Or.inl rfl, rd_mo (k := s + 1) (by omega) ?_, y2⟩⟩
            rw [hd, un, y1]; rfl
          · rw [if_neg (by decide)]
            have O2 := dvL_O O1 hr (iv_O (O1 r hr s (by omega)) nz) 13 (by omega) M2 y1
            obtain ⟨ρ, e3, y⟩ := c_ell (P := P) hf hb C2 O2 hn hr hs
            rw [bd e3]
            rcases y with ⟨t3, rfl, y2, y3⟩ | ⟨t3, M3, rfl, y2, C3⟩
            · right
              refine ⟨_, rfl, Or.inl ⟨t3, Or.inr rfl, rd_mo (k := s + 1) (by omega) ?_, y3⟩⟩
              rw [hd, un, y1]
              show (elL M2 r s n).map _ = none
              rw [y2]; rfl
            · left
              show ∃ t', (mg_R t3 g 4 12).bind _ = _ ∧ _
              rw [bd (ag_r12 C3.2.1), bd (ag_s12 C3.2.1 hb hs _), Option.bind_some, q_nS]
              refine D _ (M3, r + 1, fun i => if i = s then q_n r else ps i) _ ?_ (C3.sv hn _)
              rw [un, y1]
              show (elL M2 r s n).map _ = _
              rw [y2]; rfl
        · obtain rfl : j = n := by have := hj.2.1; omega
          left
          rw [if_neg jn, if_pos (by decide)]
          exact D t (Ms, r, ps) π (stp_no hj) i4
    · rintro ⟨v1, v2, t⟩ ⟨i1, T, π, i2, i3, i4⟩
      dsimp only at i1 i3 i4
      subst i1
      refine ⟨.inr (.inr t), ?_, Or.inr ⟨t, T, π, rfl, i2, i4⟩⟩
      show f_X4_isReduced_B12 P g v1 (q_n 12) t = _
      unfold f_X4_isReduced_B12
      rw [if_pos (by decide)]
  obtain ⟨ρ, e, y⟩ := lp
  unfold f_X4_isReduced
  rw [bd (ag_r12 h.2.1), bd e3, bd e]
  rcases y with ⟨τ, rfl | rfl, y1, y2⟩ | ⟨τ, T, π, rfl, y1, y2⟩
  · exact ⟨0, τ, rfl, Or.inl ⟨rfl, y1, y2⟩⟩
  · exact ⟨0, τ, rfl, Or.inl ⟨rfl, y1, y2⟩⟩
  · exact ⟨1, τ, rfl, Or.inr ⟨rfl, T, π, y1, y2⟩⟩
end LVS
