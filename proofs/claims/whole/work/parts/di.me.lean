/-! ===== me: the reference's solution ===== -/
section MES
variable {P : mx_P} {σ σ0 σ1 τ : mx_S} {m r k n s a j b l N L q : Nat} {pv pv' : Nat → Int32} {M M' : MT} {w z : Int × Int} {u v : Int64} {gs : List (Nat × Nat)} {ms : List (Nat × Nat × Bool × Int32)} {sh : Nat → Nat × Int32 × Int32}
theorem pv_s : ∀ s T, rdu n M s = some T → ∀ i, s ≤ i → T.2.2 i = -1
  | 0, T, e, i, _ => by cases e; rfl
  | s + 1, T, e, i, hi => by
    obtain ⟨T1, e1, e2⟩ := Option.bind_eq_some_iff.mp e
    unfold stp at e2
    split at e2
    · obtain ⟨M2, e3, e4⟩ := Option.bind_eq_some_iff.mp e2
      obtain ⟨M3, e5, e6⟩ := Option.map_eq_some_iff.mp e4
      subst e6
      show (if i = s then q_n T1.2.1 else T1.2.2 i) = -1
      rw [if_neg (by omega)]
      exact pv_s s T1 e1 i (by omega)
    · have e3 := Option.some.inj e2
      rw [← e3]
      exact pv_s s T1 e1 i (by omega)
theorem CRo.sv (h : CRo σ0 σ m n N L pv M) (hL : s ≤ L) (h1 : ∀ i, i < s → pv' i = pv i) {v : Int32} (h2 : pv' s = v) : CRo σ0 (mx_setI σ (m + 47) s v) m n N (s + 1) pv' M := by
  obtain ⟨a1, a2, a3, a4, a5⟩ := h
  refine ⟨a1.sI (Or.inr (Or.inr (Or.inr rfl))) _, a2, (sI_n (by omega)).trans a3, fun i hi => ?_, a5⟩
  by_cases y : i = s
  · subst y; rw [sI_e, h2]
  · rw [sI_n (by omega), h1 i (by omega)]; exact a4 i (by omega)
theorem r_fw (hf : 5000 ≤ mpN P) (h : CRo σ0 σ m n n L pv M) (hn : n ≤ 32) (hr : r ≤ n) (hs : s < 12) : ∃ j, FS M s n r j ∧ mx_lp (f_X12_solution_L28 P m (q_n r) (q_n s)) (mpN P) (q_n r, σ) = some (q_n j, σ) := by
  obtain ⟨ρ, e, j, f, y⟩ := q_for (f_X12_solution_L28 P m (q_n r) (q_n s)) (fun k t => t = (q_n k, σ) ∧ r ≤ k ∧ ∀ i, r ≤ i → i < k → (M i s).1 = 0) (fun ρ => ∃ j, FS M s n r j ∧ ρ = (q_n j, σ)) n
    (by
      rintro k t hk ⟨rfl, rk, i2⟩
      show (∃ t', f_X12_solution_B28 P m (q_n r) (q_n s) (q_n k) σ = some (.inl t') ∧ _) ∨ ∃ ρ, f_X12_solution_B28 P m (q_n r) (q_n s) (q_n k) σ = some (.inr ρ) ∧ _
      unfold f_X12_solution_B28
      rw [bd (am_gI h.2.1), h.2.2.1, if_neg (qn_ge hk (by omega)), bd (am_r69 h.2.1), bd (h.T (by omega) (by omega))]
      by_cases y : (M k s).1 = 0
      · left
        rw [if_pos ((h.t0 hk (by omega)).mpr y), Option.bind_some, q_nS]
        refine ⟨_, rfl, rfl, by omega, fun i h1 h2 => ?_⟩
        rcases Nat.eq_or_lt_of_le (Nat.le_of_lt_succ h2) with z | z
        · rw [z]; exact y
        · exact i2 i h1 z
      · right
        rw [if_neg (fun z => y ((h.t0 hk (by omega)).mp z))]
        exact ⟨_, rfl, k, ⟨rk, by omega, i2, fun _ => y⟩, rfl⟩)
    (by
      rintro t ⟨rfl, rk, i2⟩
      refine ⟨_, ?_, n, ⟨hr, Nat.le_refl _, i2, fun z => absurd z (by omega)⟩, rfl⟩
      show f_X12_solution_B28 P m (q_n r) (q_n s) (q_n n) σ = _
      unfold f_X12_solution_B28
      rw [bd (am_gI h.2.1), h.2.2.1, if_pos ((q_nLe (by omega) (by omega)).mpr (Nat.le_refl _))])
    (n - r) r (q_n r, σ) (mpN P) (by omega) ⟨rfl, Nat.le_refl _, fun i h1 h2 => absurd h2 (by omega)⟩ (by omega)
  exact ⟨j, f, by rw [e, y]⟩
theorem r_cols (hf : 5000 ≤ mpN P) (hb : mpb P ≤ m) (h : CRo σ0 σ m n n 0 (fun _ => -1) M) (h10 : mxI σ m 10 = 0) (hO : MO n M) (hn : n ≤ 32) : ∃ ρ, mx_lp (f_X12_solution_L13 P m) (mpN P) ((0 : Int32), (0 : Int32), σ) = some ρ ∧ ((∃ τ, ρ = .inl τ ∧ rdu n M 12 = none ∧ Fz (SRo m) σ0 τ) ∨ ∃ τ T, ρ = .inr τ ∧ rdu n M 12 = some T ∧ CRo σ0 τ m n n 12 T.2.2 T.1) := by
  refine q_for (f_X12_solution_L13 P m) (fun s t => t.2.1 = q_n s ∧ ∃ T, rdu n M s = some T ∧ t.1 = q_n T.2.1 ∧ mxI t.2.2 m 10 = 0 ∧ CRo σ0 t.2.2 m n n s T.2.2 T.1) _ 12 ?_ ?_ 12 0 ((0 : Int32), (0 : Int32), σ) (mpN P) rfl ⟨rfl, (M, 0, fun _ => -1), rfl, rfl, h10, h⟩ (by omega)
  · rintro s ⟨v1, v2, t⟩ hs ⟨i1, ⟨Ms, r, ps⟩, i2, i3, f0, C⟩
    dsimp only at i1 i3 f0 C
    subst i1 i3
    obtain ⟨hOk, hrn⟩ := rd_O hO s (by omega) _ i2
    dsimp only at hOk hrn
    have hps := pv_s s _ i2
    dsimp only at hps
    have hd : rdu n M (s + 1) = stp n s (Ms, r, ps) := by show (rdu n M s).bind _ = _; rw [i2]; rfl
    show (∃ t', f_X12_solution_B13 P m (q_n r) (q_n s) t = some (.inl t') ∧ _) ∨ ∃ ρ, f_X12_solution_B13 P m (q_n r) (q_n s) t = some (.inr ρ) ∧ _
    have C1 : CRo σ0 (mx_setI t (m + 47) s (-1)) m n n (s + 1) ps Ms := C.sv (Nat.le_refl _) (fun _ _ => rfl) (hps s (Nat.le_refl _))
    obtain ⟨t1, e1⟩ : ∃ t1, t1 = mx_setI t (m + 47) s (-1) := ⟨_, rfl⟩
    rw [← e1] at C1
    have f1 : mxI t1 m 10 = 0 := by rw [e1]; exact (sI_n (by omega)).trans f0
    obtain ⟨j, hj, ej⟩ := r_fw (P := P) hf C1 hn hrn hs
    have D : ∀ τ T, stp n s (Ms, r, ps) = some T → mxI τ m 10 = 0 → CRo σ0 τ m n n (s + 1) T.2.2 T.1 → ∃ t', f_X12_solution_D100_13 P m (q_n T.2.1) (q_n s) τ = some (.inl t') ∧ t'.2.1 = q_n (s + 1) ∧ ∃ T, rdu n M (s + 1) = some T ∧ t'.1 = q_n T.2.1 ∧ mxI t'.2.2 m 10 = 0 ∧ CRo σ0 t'.2.2 m n n (s + 1) T.2.2 T.1 := fun τ T y1 y2 y3 => by
      unfold f_X12_solution_D100_13
      rw [Option.bind_some, q_nS]
      exact ⟨_, rfl, rfl, T, hd.trans y1, rfl, y2, y3⟩
    unfold f_X12_solution_B13
    rw [if_neg (by rw [show (12 : Int32) = q_n 12 from rfl]; exact qn_ge hs (by omega)), bd (am_r71 C.2.1), bd (am_s71 C.2.1 hb hs _), ← e1, bd ej]
    show (∃ t', f_X12_solution_D58_13 P m (q_n r) (q_n s) (q_n j) t1 = some (.inl t') ∧ _) ∨ ∃ ρ, f_X12_solution_D58_13 P m (q_n r) (q_n s) (q_n j) t1 = some (.inr ρ) ∧ _
    unfold f_X12_solution_D58_13
    have jn' := hj.2.1
    rw [bd (am_gI C1.2.1), C1.2.2.1]
    by_cases jn : j < n
    · have hr : r < n := by have := hj.1; omega
      have un := stp_y (pv := ps) hj jn
      obtain ⟨t2, e2, C2, I2⟩ := r_chg (P := P) hf hb C1 hn hr jn
      have O2 := sw_O hOk hr jn
      have nz : (sw Ms r j r s).1 ≠ 0 := by
        unfold sw; rw [if_pos rfl]; exact hj.2.2.2 jn
      obtain ⟨t3, e3, o3⟩ := r_piv (P := P) hf hb C2 (I2.trans f1) O2 hn hr hs nz
      rw [if_pos ((q_nLt (by omega) (by omega)).mpr jn), bd (am_is C1.2.1), bd e2, bd (am_is C2.2.1), bd e3, bd (am_gI (FR_x o3).1)]
      have un2 : stp n s (Ms, r, ps) = ((dvL (sw Ms r j) r (iv (sw Ms r j r s)) 13).bind fun M2 => elL M2 r s n).map fun M3 => (M3, r + 1, fun i => if i = s then q_n r else ps i) := by
        rw [un]
        cases dvL (sw Ms r j) r (iv (sw Ms r j r s)) 13 <;> rfl
      cases eo : (dvL (sw Ms r j) r (iv (sw Ms r j r s)) 13).bind fun M2 => elL M2 r s n with
      | none =>
        rw [eo] at o3 un2
        right
        rw [if_neg (by rw [o3.1]; decide)]
        exact ⟨_, rfl, Or.inl ⟨t3, rfl, rd_mo (k := s + 1) (by omega) (by rw [hd, un2]; rfl), o3.2.1⟩⟩
      | some M3 =>
        rw [eo] at o3 un2
        left
        obtain ⟨f3, C3⟩ := o3
        rw [if_pos f3, bd (am_r71 C3.2.1), bd (am_s71 C3.2.1 hb hs _), Option.bind_some, q_nS]
        refine D _ (M3, r + 1, fun i => if i = s then q_n r else ps i) un2 ((sI_n (by omega)).trans f3) ?_
        exact C3.sv (by omega) (fun i hi => if_neg (by omega)) (if_pos rfl)
    · obtain rfl : j = n := by omega
      left
      rw [if_neg (fun z => by rw [q_nLt (by omega) (by omega)] at z; omega)]
      exact D t1 (Ms, r, ps) (stp_no hj) f1 C1
  · rintro ⟨v1, v2, t⟩ ⟨i1, T, i2, i3, f0, C⟩
    dsimp only at i1 i3 C
    subst i1
    refine ⟨.inr t, ?_, Or.inr ⟨t, T, rfl, i2, C⟩⟩
    show f_X12_solution_B13 P m v1 (q_n 12) t = _
    unfold f_X12_solution_B13
    rw [if_pos (by decide)]
theorem r_zr (hf : 5000 ≤ mpN P) (h : CRo σ0 σ m n n L pv M) (hn : n ≤ 32) (hr : r < n) : ∃ c : Int32, mx_lp (f_X12_solution_L121 P m (q_n r)) (mpN P) ((1 : Int32), (0 : Int32), σ) = some (c, σ) ∧ ((c = 1 ∧ ∀ k, k < 12 → (M r k).1 = 0) ∨ (c = 0 ∧ ¬ ∀ k, k < 12 → (M r k).1 = 0)) := by
  obtain ⟨ρ, e, c, y, z⟩ := q_for (f_X12_solution_L121 P m (q_n r)) (fun k t => ∃ c : Int32, t = (c, q_n k, σ) ∧ ((c = 1 ∧ ∀ i, i < k → (M r i).1 = 0) ∨ (c = 0 ∧ ¬ ∀ i, i < k → (M r i).1 = 0))) (fun ρ => ∃ c : Int32, ρ = (c, σ) ∧ ((c = 1 ∧ ∀ k, k < 12 → (M r k).1 = 0) ∨ (c = 0 ∧ ¬ ∀ k, k < 12 → (M r k).1 = 0))) 12
    (by
      rintro k t hk ⟨c, rfl, y⟩
      left
      show ∃ t', f_X12_solution_B121 P m (q_n r) c (q_n k) σ = some (.inl t') ∧ _
      unfold f_X12_solution_B121 f_X12_solution_D153_121 f_X12_solution_D154_121
      rw [if_neg (by rw [show (12 : Int32) = q_n 12 from rfl]; exact qn_ge hk (by omega))]
      rcases y with ⟨rfl, y⟩ | ⟨rfl, y⟩
      · rw [if_neg (by decide), bd (am_r69 h.2.1), bd (h.T (by omega) (by omega))]
        by_cases z : (M r k).1 = 0
        · rw [if_pos ((h.t0 hr (by omega)).mpr z), Option.bind_some, q_nS]
          refine ⟨_, rfl, 1, rfl, Or.inl ⟨rfl, fun i hi => ?_⟩⟩
          rcases Nat.eq_or_lt_of_le (Nat.le_of_lt_succ hi) with w | w
          · rw [w]; exact z
          · exact y i w
        · rw [if_neg (fun w => z ((h.t0 hr (by omega)).mp w)), Option.bind_some, q_nS]
          exact ⟨_, rfl, 0, rfl, Or.inr ⟨rfl, fun w => z (w k (by omega))⟩⟩
      · rw [if_pos rfl, Option.bind_some, q_nS]
        exact ⟨_, rfl, 0, rfl, Or.inr ⟨rfl, fun w => y fun i hi => w i (by omega)⟩⟩)
    (by
      rintro t ⟨c, rfl, y⟩
      refine ⟨(c, σ), ?_, c, rfl, y⟩
      show f_X12_solution_B121 P m (q_n r) c (q_n 12) σ = _
      unfold f_X12_solution_B121
      rw [if_pos (by decide)])
    12 0 ((1 : Int32), (0 : Int32), σ) (mpN P) rfl ⟨1, rfl, Or.inl ⟨rfl, fun i hi => absurd hi (by omega)⟩⟩ (by omega)
  exact ⟨c, by rw [e, y], z⟩
theorem r_ctr (hf : 5000 ≤ mpN P) (h : CRo σ0 σ m n n L pv M) (hn : n ≤ 32) : ∃ ρ, mx_lp (f_X12_solution_L108 P m) (mpN P) ((0 : Int32), σ) = some ρ ∧ ((ρ = .inl σ ∧ ctr M n) ∨ (ρ = .inr σ ∧ ¬ ctr M n)) := by
  refine q_for (f_X12_solution_L108 P m) (fun k t => t = (q_n k, σ) ∧ ∀ i, i < k → ¬ ((M i 12).1 ≠ 0 ∧ ∀ k, k < 12 → (M i k).1 = 0)) _ n ?_ ?_ n 0 ((0 : Int32), σ) (mpN P) (by omega) ⟨rfl, fun i hi => absurd hi (by omega)⟩ (by omega)
  · rintro k t hk ⟨rfl, i2⟩
    show (∃ t', f_X12_solution_B108 P m (q_n k) σ = some (.inl t') ∧ _) ∨ ∃ ρ, f_X12_solution_B108 P m (q_n k) σ = some (.inr ρ) ∧ _
    have D : (¬ ((M k 12).1 ≠ 0 ∧ ∀ l, l < 12 → (M k l).1 = 0)) → ∃ t', f_X12_solution_D184_108 P m (q_n k) σ = some (.inl t') ∧ t' = (q_n (k + 1), σ) ∧ ∀ i, i < k + 1 → ¬ ((M i 12).1 ≠ 0 ∧ ∀ k, k < 12 → (M i k).1 = 0) := fun y => by
      unfold f_X12_solution_D184_108
      rw [Option.bind_some, q_nS]
      refine ⟨_, rfl, rfl, fun i hi => ?_⟩
      rcases Nat.eq_or_lt_of_le (Nat.le_of_lt_succ hi) with e | e
      · rw [e]; exact y
      · exact i2 i e
    obtain ⟨c, e, y⟩ := r_zr (P := P) hf h hn hk
    unfold f_X12_solution_B108
    rw [bd (am_gI h.2.1), h.2.2.1, if_neg (qn_ge hk (by omega)), bd e]
    show (∃ t', (if c = 0 then f_X12_solution_D184_108 P m (q_n k) σ else _) = some (.inl t') ∧ _) ∨ ∃ ρ, (if c = 0 then f_X12_solution_D184_108 P m (q_n k) σ else _) = some (.inr ρ) ∧ _
    rcases y with ⟨rfl, y⟩ | ⟨rfl, y⟩
    · rw [if_neg (by decide), bd (am_r69 h.2.1), bd (show ma_L σ (m + 45) 1 (((13 : Int32) * q_n k) + (12 : Int32)) = _ from h.T (k := 12) (by omega) (by omega))]
      by_cases z : (M k 12).1 = 0
      · left
        rw [if_pos ((h.t0 hk (by omega)).mpr z)]
        exact D fun w => w.1 z
      · right
        rw [if_neg (fun w => z ((h.t0 hk (by omega)).mp w))]
        exact ⟨_, rfl, Or.inl ⟨rfl, k, hk, z, y⟩⟩
    · left
      rw [if_pos rfl]
      exact D fun w => y w.2
  · rintro t ⟨rfl, i2⟩
    refine ⟨.inr σ, ?_, Or.inr ⟨rfl, fun ⟨i, hi, z⟩ => i2 i hi z⟩⟩
    show f_X12_solution_B108 P m (q_n n) σ = _
    unfold f_X12_solution_B108
    rw [bd (am_gI h.2.1), h.2.2.1, if_pos ((q_nLe (by omega) (by omega)).mpr (Nat.le_refl _))]
theorem RGr_O (hR : RGr σ m gs ms sh) : MO (mkM gs ms sh 12).2 (mkM gs ms sh 12).1 := by
  have me : ∀ j, j ≤ ms.length → ∀ r, r < j → ∀ k, k < 13 → OKz (meM gs ms j r k) := fun j => by
    induction j with
    | zero => exact fun _ r hr => absurd hr (by omega)
    | succ j ih =>
      intro hj r hr k hk
      show OKz (rU (meM gs ms j) j _ r k)
      by_cases y : r = j
      · subst y
        rw [rU_e]
        obtain ⟨-, b5, b6, -⟩ := hR.2.1.2.2 r (by omega)
        exact rowM_O (hR.1.2 _ b5).2.2.1 (hR.1.2 _ b6).2.2.1 k
      · rw [rU_n y]
        exact ih (by omega) r (by omega) k hk
  have all : ∀ s, s ≤ 12 → MO (mkM gs ms sh s).2 (mkM gs ms sh s).1 := fun s => by
    induction s with
    | zero => exact fun _ r hr k hk => me ms.length (Nat.le_refl _) r hr k hk
    | succ s ih =>
      intro hs
      have ih := ih (by omega)
      obtain ⟨-, -, c3⟩ := hR.2.2 s (by omega)
      by_cases h0 : (sh s).1 = 0
      · rw [mk_s1 h0]; exact ih
      · rw [mk_s2 h0]
        intro r hr k hk
        show OKz (rU (mkM gs ms sh s).1 (mkM gs ms sh s).2 (rowS s (sh s)) r k)
        have hr' : r < (mkM gs ms sh s).2 + 1 := hr
        by_cases y : r = (mkM gs ms sh s).2
        · subst y
          rw [rU_e]
          exact rowS_O (fun z => (c3 z).2.2) k
        · rw [rU_n y]
          exact ih r (by omega) k hk
  exact all 12 (Nat.le_refl _)
theorem n32r (hR : RGr σ m gs ms sh) : (mkM gs ms sh 12).2 ≤ 32 := by
  have := mk_le (gs := gs) (ms := ms) (sh := sh) 12
  have := hR.2.1.2.1
  omega
theorem r_sol (hf : 5000 ≤ mpN P) (hb : mpb P ≤ m) (hM : LyM σ m) (hR : RGr σ m gs ms sh) : ∃ v τ, f_X12_solution P m σ = some (v, τ) ∧ OC gs ms sh v ∧ Fz (SRo m) σ τ ∧ (v = 1 → ∃ T, rdA gs ms sh = some T ∧ CRo σ τ m (mkM gs ms sh 12).2 (mkM gs ms sh 12).2 12 T.2.2 T.1) := by
  have F1 : Fz (SRo m) σ (mx_setI σ m 10 0) := Fz.rf.sI (Or.inl ⟨rfl, by omega⟩) _
  obtain ⟨s1, e1, C1, I1⟩ := r_mk (P := P) (σ0 := σ) (σ := mx_setI σ m 10 0) hf hb hM F1 hR sI_e
  obtain ⟨ρ, e2, y⟩ := r_cols (P := P) hf hb C1 I1 (RGr_O hR) (n32r hR)
  unfold f_X12_solution
  rw [bd (am_pZ hM hb (Or.inl rfl)), bd (am_is (σ := mx_setI σ m 10 0) hM), bd e1, bd e2]
  rcases y with ⟨τ, rfl, y1, y2⟩ | ⟨τ, T, rfl, y1, C2⟩
  · exact ⟨3, τ, rfl, Or.inl ⟨y1, rfl⟩, y2, fun z => absurd z (by decide)⟩
  · obtain ⟨ρ, e3, z⟩ := r_ctr (P := P) hf C2 (n32r hR)
    show ∃ v τ', (mx_lp (f_X12_solution_L108 P m) (mpN P) ((0 : Int32), τ)).bind _ = _ ∧ _
    rw [bd e3]
    rcases z with ⟨rfl, z⟩ | ⟨rfl, z⟩
    · exact ⟨2, τ, rfl, Or.inr ⟨T, y1, Or.inl ⟨z, rfl⟩⟩, C2.1, fun z => absurd z (by decide)⟩
    · exact ⟨1, τ, rfl, Or.inr ⟨T, y1, Or.inr ⟨z, rfl⟩⟩, C2.1, fun _ => ⟨T, y1, C2⟩⟩
end MES
