/-! ===== im: names and numbers, the reference's ===== -/
section IMS
variable {P : mx_P} {σ σ0 σ1 σ2 τ : mx_S} {x m n t l p q a N i k j u v w K c s f r : Nat} {bl : List Nat} {S : Nat → Nat → Prop}
theorem lf_tab : ∀ f : Fin 6, ∀ i : Fin 6, i.1 < nLt 0 (kfl f.1) → (lfm f.1 i.1 = 80 → 1 ≤ i.1 ∧ i.1 ≤ 4) ∧ (lfm f.1 i.1 = 120 ∨ lfm f.1 i.1 = 114 → nsl f.1 i.1 ≤ 1) ∧ (lfm f.1 i.1 = 105 ∨ lfm f.1 i.1 = 110 ∨ lfm f.1 i.1 = 107 → 3 ≤ i.1) ∧ (lfm f.1 i.1 = 67 → i.1 = 0) := by decide +kernel
theorem lf_inj : ∀ f : Fin 6, ∀ i j : Fin 6, i.1 < j.1 → j.1 < nLt 0 (kfl f.1) → (lfm f.1 i.1 = 120 ∨ lfm f.1 i.1 = 114) → (lfm f.1 j.1 = 120 ∨ lfm f.1 j.1 = 114) → nsl f.1 i.1 ≠ nsl f.1 j.1 := by decide +kernel
/-- the cells of a part -/
def slw (m : Nat) (bl : List Nat) (N u j : Nat) : Nat → Nat → Prop := fun q k =>
  ((q = m + 25 ∨ q = m + 26) ∧ lT bl N u j = 80 ∧ k = 4 * u + (j - 1)) ∨ (q = m + 27 ∧ ltN (lT bl N u j) ∧ (k = 4 * u + 2 * nsl (fmT bl N u) j ∨ k = 4 * u + 2 * nsl (fmT bl N u) j + 1)) ∨ (q = m + 28 ∧ ltW (lT bl N u j) ∧ k = 3 * u + (j - 3)) ∨ (q = m + 29 ∧ lT bl N u j = 83 ∧ k = u)
theorem PR_old (hF : ∀ v, v ≤ u → fmT bl N v < 6) (hj : j < nT bl N u) (h : PR σ m bl N v i) (hb : bfr bl N u j v i) (f : Fz S σ τ) (hS : ∀ q k, S q k → m + 24 ≤ q → q ≤ m + 29 → slw m bl N u j q k) : PR τ m bl N v i := by
  obtain ⟨hb1, hb2⟩ := hb
  have hv : v ≤ u := by omega
  have fv := hF v hv
  have fu := hF u (Nat.le_refl _)
  have nv := (n_6 ⟨_, fv⟩).1
  have nu := (n_6 ⟨_, fu⟩).1
  dsimp only at nv nu
  have hb2' : i < nLt 0 (kfl (fmT bl N v)) := hb2
  have hj' : j < nLt 0 (kfl (fmT bl N u)) := hj
  have T := fun _ : Unit => lf_tab ⟨_, fv⟩ ⟨i, by omega⟩ hb2'
  have U := fun _ : Unit => lf_tab ⟨_, fu⟩ ⟨j, by omega⟩ hj'
  dsimp only at T U
  refine PR_cg h (fun z q hq => (f.2.2.2 _ _ (fun y => ?_)).1) (fun z k hk => (f.2.2.2 _ _ (fun y => ?_)).2) (fun z => (f.2.2.2 _ _ (fun y => ?_)).1) (fun z => (f.2.2.2 _ _ (fun y => ?_)).1) (fun z => (f.2.2.2 _ _ (fun y => ?_)).1)
  · have := (T ()).1 z
    rcases hS _ _ y (by omega) (by omega) with ⟨a1, a2, a3⟩ | ⟨a1, a2, a3⟩ | ⟨a1, a2, a3⟩ | ⟨a1, a2, a3⟩
    · have := (U ()).1 a2; omega
    · omega
    · omega
    · omega
  · have := (T ()).2.1 z
    rcases hS _ _ y (by omega) (by omega) with ⟨a1, a2, a3⟩ | ⟨a1, a2, a3⟩ | ⟨a1, a2, a3⟩ | ⟨a1, a2, a3⟩
    · omega
    · have := (U ()).2.1 a2
      rcases hb1 with hlt | ⟨rfl, hij⟩
      · omega
      · have := lf_inj ⟨_, fu⟩ ⟨i, by omega⟩ ⟨j, by omega⟩ hij hj' z a2
        dsimp only at this
        omega
    · omega
    · omega
  · have := (T ()).2.2.1 z
    rcases hS _ _ y (by omega) (by omega) with ⟨a1, a2, a3⟩ | ⟨a1, a2, a3⟩ | ⟨a1, a2, a3⟩ | ⟨a1, a2, a3⟩
    · omega
    · omega
    · have := (U ()).2.2.1 a2; omega
    · omega
  · rcases hS _ _ y (by omega) (by omega) with ⟨a1, a2, a3⟩ | ⟨a1, a2, a3⟩ | ⟨a1, a2, a3⟩ | ⟨a1, a2, a3⟩
    · omega
    · omega
    · omega
    · have h1 := (lf_83 ⟨_, fv⟩ ⟨i, by omega⟩).1 z
      have h2 := (lf_83 ⟨_, fu⟩ ⟨j, by omega⟩).1 a2
      dsimp only at h1 h2
      omega
  · rcases hS _ _ y (by omega) (by omega) with ⟨a1, a2, a3⟩ | ⟨a1, a2, a3⟩ | ⟨a1, a2, a3⟩ | ⟨a1, a2, a3⟩ <;> omega
theorem rk2 {v : Int32} (h : rk v = 2) : v = 3 := by
  unfold rk at h
  split at h
  · exact absurd h (by decide)
  · next h1 =>
    split at h
    · assumption
    split at h
    · exact absurd h (by decide)
    · exact absurd h h1
theorem rk59 {v : Int32} (h : rk v = 59) : v = 59 := by
  unfold rk at h
  split at h
  · exact absurd h (by decide)
  split at h
  · exact absurd h (by decide)
  split at h
  · exact absurd h (by decide)
  · exact h
/-- a fault of the grammar -/
def RXb (σ0 : mx_S) (m : Nat) (bl : List Nat) (q : Nat) (σ : mx_S) : Prop := RBs σ0 m bl σ ∧ mxI σ m 4 = 1 ∧ mxI σ m 5 = q_n q
abbrev msU (bl : List Nat) (N u : Nat) : Nat → Bool := msm bl N 0 (kfl (fmT bl N u)) (psI bl N (sqA bl N 0 u) 1)
theorem msU_e (i : Nat) : msU bl N u i = !fit (lT bl N u i) (kdA bl (tkT bl N u i)) := rfl
def RX (σ0 : mx_S) (m : Nat) (bl : List Nat) (N u j : Nat) (σ : mx_S) : Prop := (r_fst (msU bl N u) j = none ∧ RQ σ0 m bl N (u + 1) u j σ ∧ TkR σ m bl (tkT bl N u j)) ∨ ∃ i, r_fst (msU bl N u) j = some i ∧ RXb σ0 m bl (tkT bl N u i) σ
theorem RX_st {op : mx_S → Option mx_S} (h : RX σ0 m bl N u j σ) (bad : ∀ q, RXb σ0 m bl q σ → op σ = some σ)
    (mis : RQ σ0 m bl N (u + 1) u j σ → TkR σ m bl (tkT bl N u j) → fit (lT bl N u j) (kdA bl (tkT bl N u j)) = false → ∃ τ, op σ = some τ ∧ RXb σ0 m bl (tkT bl N u j) τ)
    (good : RQ σ0 m bl N (u + 1) u j σ → TkR σ m bl (tkT bl N u j) → fit (lT bl N u j) (kdA bl (tkT bl N u j)) = true → (∀ i, i < j → fit (lT bl N u i) (kdA bl (tkT bl N u i)) = true) → ∃ τ, op σ = some τ ∧ RQ σ0 m bl N (u + 1) u (j + 1) τ ∧ TkR τ m bl (tkT bl N u (j + 1))) : ∃ τ, op σ = some τ ∧ RX σ0 m bl N u (j + 1) τ := by
  rcases h with ⟨h1, h2, h3⟩ | ⟨i, h1, h2⟩
  · have hfit : ∀ i, i < j → fit (lT bl N u i) (kdA bl (tkT bl N u i)) = true := fun i hi => by
      have := fst_n0 h1 i hi
      rw [msU_e] at this
      cases e : fit (lT bl N u i) (kdA bl (tkT bl N u i)) with
      | true => rfl
      | false => rw [e] at this; cases this
    cases e : fit (lT bl N u j) (kdA bl (tkT bl N u j)) with
    | true =>
      obtain ⟨τ, e1, e2, e3⟩ := good h2 h3 e hfit
      refine ⟨τ, e1, Or.inl ⟨?_, e2, e3⟩⟩
      rw [r_fst, h1, msU_e, e]; rfl
    | false =>
      obtain ⟨τ, e1, e2⟩ := mis h2 h3 e
      refine ⟨τ, e1, Or.inr ⟨j, ?_, e2⟩⟩
      rw [r_fst, h1, msU_e, e]; rfl
  · exact ⟨σ, bad _ h2, Or.inr ⟨i, by rw [r_fst, h1], h2⟩⟩
theorem RX_mis {w : Int32} (hb : mpb P ≤ m) (hR : RQ σ0 m bl N (u + 1) u j σ) (hk : TkR σ m bl (tkT bl N u j)) (hw : rk (kdA bl (tkT bl N u j)) ≠ w) : ∃ τ, f_X12_takes P m w σ = some (0, τ) ∧ RXb σ0 m bl (tkT bl N u j) τ := by
  obtain ⟨τ, e, h1, h2, f⟩ := r_tkN (P := P) hR.1.1 hb hR.2.1.1 (by rw [hk.2.1]; exact hw)
  exact ⟨τ, e, RBs_f hR.1 f (fun q j z => by unfold wrF at z; unfold rlF; omega), h1, h2.trans hk.2.2.1⟩
theorem q_n1 (u : Nat) (h : u < 2147483647) : q_n (u + 1) - 1 = q_n u := by
  rw [show (1 : Int32) = q_n 1 from rfl, nsub (by omega) (by omega)]; rfl
theorem r_nmU (hN : N = 4000) (hf : 20000 ≤ mpN P) (hb : mpb P ≤ m) (hh : hdU bl N u) (hF : ∀ v, v ≤ u → fmT bl N v < 6) (hu : u < 460) (hj : j < nT bl N u) (hl : lT bl N u j = 80) (hR : RQ σ0 m bl N (u + 1) u j σ) (hk : TkR σ m bl (tkT bl N u j)) (k2 : kdA bl (tkT bl N u j) = 2) (hfit : ∀ i, i < j → fit (lT bl N u i) (kdA bl (tkT bl N u i)) = true) :
    ∃ τ, f_X12_nameUsed P m (q_n (j - 1)) σ = some τ ∧ RQ σ0 m bl N (u + 1) u (j + 1) τ ∧ TkR τ m bl (tkT bl N u (j + 1)) := by
  obtain ⟨hB, ⟨h4, h5⟩, hNm, ⟨us, u1, u2, u3, u4⟩, ⟨fs, l1, l2⟩, hA, hRc, hUn⟩ := hR
  obtain ⟨hM, hTS, hFz⟩ := id hB
  obtain ⟨k14, k15, k16, -⟩ := hk
  have hlen := hTS.1
  have h256 := TS_256 hTS
  have hs := tkT_le (N := N) (u := u) (j := j) hh.1
  have hbound := tkB h256 hh (Nat.le_of_lt hj) hfit
  have h14 := k14 (by rw [k2]; decide)
  have he := enA_le (bs := bl) hs
  have n6 := (n_6 ⟨_, hh.2.2.1⟩).1
  dsimp only at n6
  have hj' : j < nLt 0 (kfl (fmT bl N u)) := hj
  have t1 := (lf_tab ⟨_, hh.2.2.1⟩ ⟨j, by omega⟩ hj').1 hl
  dsimp only at t1
  obtain ⟨s, hsd⟩ : ∃ s, s = tkT bl N u j := ⟨_, rfl⟩
  rw [← hsd] at k14 k16 hs hbound h14 he
  have ty : f_X12_takes P m 1 σ = some (1, σ) := r_tkY hM h4 (by rw [k15, k2]; rfl)
  obtain ⟨σ1, e1⟩ : ∃ σ1, σ1 = mx_setI σ (m + 33) us.length (q_n s) := ⟨_, rfl⟩
  obtain ⟨σ2, e2⟩ : ∃ σ2, σ2 = mx_setI σ1 (m + 34) us.length (q_n (enA bl s - s)) := ⟨_, rfl⟩
  obtain ⟨σ3, e3⟩ : ∃ σ3, σ3 = mx_setI σ2 m 50 (q_n (us.length + 1)) := ⟨_, rfl⟩
  have hM1 : LyM σ1 m := by rw [e1]; exact hM
  have hM2 : LyM σ2 m := by rw [e2]; exact hM1
  have hM3 : LyM σ3 m := by rw [e3]; exact hM2
  have f3 : Fz (fun q k => ((q = m + 33 ∨ q = m + 34) ∧ k = us.length) ∨ (q = m ∧ k = 50)) σ σ3 := by
    rw [e3, e2, e1]
    exact ((Fz.rf.sI (by omega) _).sI (by omega) _).sI (by omega) _
  have v33 : mxI σ3 (m + 33) us.length = q_n s := by rw [e3, sI_n (by omega), e2, sI_n (by omega), e1]; exact sI_e
  have v34 : mxI σ3 (m + 34) us.length = q_n (enA bl s - s) := by rw [e3, sI_n (by omega), e2]; exact sI_e
  have v50 : mxI σ3 m 50 = q_n (us.length + 1) := by rw [e3]; exact sI_e
  have g3 : ∀ k, k ≠ 50 → mxI σ3 m k = mxI σ m k := fun k hk => (f3.2.2.2 _ _ (fun z => by omega)).1
  -- what is written before the next token
  obtain ⟨τ1, hτ, fτ, vτ⟩ : ∃ τ1, f_X12_nameUsed P m (q_n (j - 1)) σ = ((mx_is τ1 m 12).bind fun _ => (f_X12_scan P m τ1).bind fun σ34 => some σ34) ∧ Fz (fun q k => ((q = m + 33 ∨ q = m + 34) ∧ k = us.length) ∨ (q = m ∧ k = 50) ∨ ((q = m + 25 ∨ q = m + 26) ∧ k = 4 * u + (j - 1))) σ τ1 ∧ (mxI τ1 (m + 33) us.length = q_n s ∧ mxI τ1 (m + 34) us.length = q_n (enA bl s - s) ∧ mxI τ1 m 50 = q_n (us.length + 1)) ∧ (u < 40 → mxI τ1 (m + 25) (4 * u + (j - 1)) = q_n s ∧ mxI τ1 (m + 26) (4 * u + (j - 1)) = q_n (enA bl s - s)) := by
    have pre : f_X12_nameUsed P m (q_n (j - 1)) σ = (if (40 : Int32) < q_n (u + 1) then f_X12_nameUsed_D102 P m σ3 else (mg_R σ3 m 12 42).bind fun b36 => (mg_I σ3 m 12 38).bind fun x38 => (mg_I σ3 m 12 16).bind fun x40 => (ms_I P σ3 b36 0 (((4 : Int32) * (x38 - (1 : Int32))) + q_n (j - 1)) x40).bind fun σ42 => (mg_R σ42 m 12 43).bind fun b44 => (mg_I σ42 m 12 38).bind fun x46 => (mg_I σ42 m 12 14).bind fun x48 => (mg_I σ42 m 12 16).bind fun x50 => (ms_I P σ42 b44 0 (((4 : Int32) * (x46 - (1 : Int32))) + q_n (j - 1)) (x48 - x50)).bind fun σ52 => f_X12_nameUsed_D102 P m σ52) := by
      have a1 : mxI σ1 m 50 = q_n us.length := by rw [e1, sI_n (by omega)]; exact u1
      have a2 : mxI σ1 m 14 = q_n (enA bl s) := by rw [e1, sI_n (by omega)]; exact h14
      have a3 : mxI σ1 m 16 = q_n s := by rw [e1, sI_n (by omega)]; exact k16
      have a4 : mxI σ2 m 50 = q_n us.length := by rw [e2, sI_n (by omega)]; exact a1
      unfold f_X12_nameUsed
      rw [bd (am_is hM), bd2 ty, if_neg zi10, bd (am_r51 hM), bd (am_gI hM), u1, bd (am_gI hM), k16, bd (am_s51 hM hb (by omega) _), ← e1, bd (am_r52 hM1), bd (am_gI hM1), a1, bd (am_gI hM1), a2, bd (am_gI hM1), a3, nsub (by omega) (by omega), bd (am_s52 hM1 hb (by omega) _), ← e2, bd (am_gI hM2), a4, q_nS, bd (am_pI hM2 hb _), ← e3, bd (am_gI hM3), g3 38 (by omega), hNm.1]
    by_cases c40 : u < 40
    · obtain ⟨σ4, e4⟩ : ∃ σ4, σ4 = mx_setI σ3 (m + 25) (4 * u + (j - 1)) (q_n s) := ⟨_, rfl⟩
      obtain ⟨σ5, e5⟩ : ∃ σ5, σ5 = mx_setI σ4 (m + 26) (4 * u + (j - 1)) (q_n (enA bl s - s)) := ⟨_, rfl⟩
      have hM4 : LyM σ4 m := by rw [e4]; exact hM3
      have ix : (4 : Int32) * q_n u + q_n (j - 1) = q_n (4 * u + (j - 1)) := by rw [show (4 : Int32) = q_n 4 from rfl, q_nM, q_nA]
      have g4 : ∀ k, k ≠ 50 → mxI σ4 m k = mxI σ m k := fun k hk => by rw [e4, sI_n (by omega)]; exact g3 k hk
      refine ⟨σ5, ?_, ?_, ⟨?_, ?_, ?_⟩, fun _ => ⟨?_, ?_⟩⟩
      · rw [pre, if_neg (by rw [show (40 : Int32) = q_n 40 from rfl, q_nLt (by omega) (by omega)]; omega), bd (am_r42 hM3), bd (am_gI hM3), g3 38 (by omega), hNm.1, bd (am_gI hM3), g3 16 (by omega), k16, q_n1 u (by omega), ix, bd (am_s42 hM3 hb (by omega) _), ← e4, bd (am_r43 hM4), bd (am_gI hM4), g4 38 (by omega), hNm.1, bd (am_gI hM4), g4 14 (by omega), h14, bd (am_gI hM4), g4 16 (by omega), k16, q_n1 u (by omega), ix, nsub (by omega) (by omega), bd (am_s43 hM4 hb (by omega) _), ← e5]
        rfl
      · rw [e5, e4]
        exact ((f3.mo (T := fun q k => ((q = m + 33 ∨ q = m + 34) ∧ k = us.length) ∨ (q = m ∧ k = 50) ∨ ((q = m + 25 ∨ q = m + 26) ∧ k = 4 * u + (j - 1))) fun q k z => by omega).sI (by omega) _).sI (by omega) _
      · rw [e5, sI_n (by omega), e4, sI_n (by omega)]; exact v33
      · rw [e5, sI_n (by omega), e4, sI_n (by omega)]; exact v34
      · rw [e5, sI_n (by omega), e4, sI_n (by omega)]; exact v50
      · rw [e5, sI_n (by omega), e4]; exact sI_e
      · rw [e5]; exact sI_e
    · refine ⟨σ3, ?_, f3.mo fun q k z => by omega, ⟨v33, v34, v50⟩, fun z => absurd z c40⟩
      rw [pre, if_pos (by rw [show (40 : Int32) = q_n 40 from rfl, q_nLt (by omega) (by omega)]; omega)]
      rfl
  obtain ⟨⟨w33, w34, w50⟩, w40⟩ := vτ
  have hQ : RQ σ0 m bl N (u + 1) u (j + 1) τ1 := by
    refine ⟨RBs_f hB fτ (fun q k z => by unfold rlF; omega), ⟨(fτ.2.2.2 _ _ (fun z => by omega)).1.trans h4, (fτ.2.2.2 _ _ (fun z => by omega)).1.trans h5⟩, NmR_f hNm fτ (fun q k z => by omega), ⟨us ++ [s], ?_, ?_, fun i s' hi => ?_, fun s' => ?_⟩, ⟨fs, FtL_f l1 fτ (fun q k z => by omega), Lm_cg l2 fun s' c' => Dr_80 hl⟩, ?_, fun v i hbf hv => ?_, fun v hv h40 k hk hn => ?_⟩
    · rw [w50, List.length_append]; rfl
    · rw [List.length_append, npP, if_pos (show lfm (fmT bl N u) j = 80 from hl)]
      show 3 * (us.length + 1) ≤ _
      omega
    · rcases ls_app hi with z | ⟨z1, z2⟩
      · have hil : i < us.length := by
          rcases Nat.lt_or_ge i us.length with y | y
          · exact y
          · rw [List.getElem?_eq_none y] at z; cases z
        rw [(fτ.2.2.2 _ _ (fun z => by omega)).1, (fτ.2.2.2 _ _ (fun z => by omega)).1]
        exact u3 i s' z
      · have hi0 : i = us.length ∧ s' = s := by
          rcases hd : i - us.length with _ | d
          · rw [hd] at z2
            have : s = s' := Option.some.inj z2
            exact ⟨by omega, this.symm⟩
          · rw [hd] at z2; cases z2
        obtain ⟨rfl, rfl⟩ := hi0
        exact ⟨w33, w34⟩
    · rw [List.mem_append, List.mem_singleton, u4 s']
      constructor
      · rintro (⟨v, i, y1, y2⟩ | rfl)
        · exact ⟨v, i, bfr_s.mpr (Or.inl y1), y2⟩
        · exact ⟨u, j, bfr_s.mpr (Or.inr ⟨rfl, rfl, hj⟩), hl, hsd⟩
      · rintro ⟨v, i, y1, y2, y3⟩
        rcases bfr_s.mp y1 with y1 | ⟨rfl, rfl, -⟩
        · exact Or.inl ⟨v, i, y1, y2, y3⟩
        · exact Or.inr (y3.trans hsd.symm)
    · rw [(fτ.2.2.2 _ _ (fun z => by omega)).1, hA, akA_n hh.2.2.1 (by omega)]
    · rcases bfr_s.mp hbf with y | ⟨rfl, rfl, -⟩
      · exact PR_old hF hj (hRc v i y hv) y fτ (fun q k z h1 h2 => by unfold slw; omega)
      · refine ⟨fun _ => by rw [← hsd]; exact w40 hv, fun z => ?_, fun z => ?_, fun z => ?_, fun z => ?_⟩
        · omega
        · omega
        · omega
        · omega
    · rw [(fτ.2.2.2 _ _ (fun z => ?_)).1]
      · exact hUn v hv h40 k hk hn
      · have hvk : v = u ∧ k = j - 1 := by omega
        obtain ⟨rfl, rfl⟩ := hvk
        rw [show j - 1 + 1 = j by omega] at hn
        exact hn ⟨hj, hl⟩
  obtain ⟨τ2, e6, q1, q2⟩ := r_scn (P := P) hN hf hb hQ (p := enA bl s) ((fτ.2.2.2 _ _ (fun z => by omega)).1.trans h14) he.2.1
  refine ⟨τ2, ?_, q1, ?_⟩
  · rw [hτ, bd (am_is hQ.1.1), bd e6]
  · rw [hsd] at q2; exact q2
theorem o_name (hN : N = 4000) (hf : 20000 ≤ mpN P) (hb : mpb P ≤ m) (hh : hdU bl N u) (hF : ∀ v, v ≤ u → fmT bl N v < 6) (hu : u < 460) (hj : j < nT bl N u) (hl : lT bl N u j = 80) (h : RX σ0 m bl N u j σ) : ∃ τ, f_X12_nameUsed P m (q_n (j - 1)) σ = some τ ∧ RX σ0 m bl N u (j + 1) τ := by
  refine RX_st (op := fun σ => f_X12_nameUsed P m (q_n (j - 1)) σ) h (fun q hq => ?_) (fun hR hk hm => ?_) (fun hR hk hm hfit => ?_)
  · show f_X12_nameUsed P m (q_n (j - 1)) σ = _
    unfold f_X12_nameUsed
    rw [bd (am_is hq.1.1), bd2 (r_tkB hq.1.1 hq.2.1), if_pos rfl]
  · obtain ⟨τ, e, hx⟩ := RX_mis (P := P) (w := 1) hb hR hk (fun z => by
      rw [hl] at hm; unfold fit at hm; rw [if_pos (Or.inr rfl)] at hm
      exact of_decide_eq_false hm (rk1 z))
    refine ⟨τ, ?_, hx⟩
    show f_X12_nameUsed P m (q_n (j - 1)) σ = _
    unfold f_X12_nameUsed
    rw [bd (am_is hR.1.1), bd2 e, if_pos rfl]
  · exact r_nmU hN hf hb hh hF hu hj hl hR hk (by rw [hl] at hm; exact fit_2 (Or.inr rfl) hm) hfit
end IMS
