/-! ===== lj: drives, the reference's run ===== -/
section LJS
variable {M : BV} {P : mx_P} {σ σ0 σ1 τ : mx_S} {x m n k i w t j a : Nat} {K : LK} {pl pl' : Nat → Nat} {B : LB} {O : OD} {s : DS} {h : Nat}
theorem r_evD (hM : LyM σ0 m) (hb : mpb P ≤ m) (hT : kT K) (hd : RD m K B n O σ0 h s σ) (hl : s.2.2.1.length < 1000000) (h4 : (O k).2.1 < 4) : ∃ τ, f_X12_goOn_D130 P m (q_n k) (q_n (O k).2.1) σ = some τ ∧ RD m K B n O σ0 h (evD O k s) τ := by
  have hMσ := RD_M hd hM
  obtain ⟨a1, a2, a3, a4, a5, a6, a7⟩ := id hd
  unfold f_X12_goOn_D130 f_X12_goOn_D184
  rw [bd (am_gI hMσ), a4.1]
  by_cases c : 100 ≤ s.2.2.1.length
  · rw [if_pos (show (100 : Int32) ≤ q_n s.2.2.1.length by rw [show (100 : Int32) = q_n 100 from rfl, q_nLe (by omega) (by omega)]; exact c), bd (am_gI hMσ), a4.1, q_nS, bd (am_pI hMσ hb _)]
    refine ⟨_, rfl, RD_set hT hd (by omega) rfl ⟨(sI_n (by omega)).trans a3.1, a3.2⟩ ⟨?_, fun j e hj he => ?_⟩ ⟨(sI_n (by omega)).trans a5.1, a5.2⟩ ((sI_n (by omega)).trans a6)⟩
    · rw [sI_e]; unfold evD; rw [List.length_append]; rfl
    · rw [sI_n (by omega), sI_n (by omega), sI_n (by omega)]
      unfold evD at he
      rw [List.getElem?_append_left (by omega)] at he
      exact a4.2 j e hj he
  · obtain ⟨s1, E1⟩ : ∃ s1, s1 = mx_setI σ (m + 71) (3 * s.2.2.1.length) (q_n k) := ⟨_, rfl⟩
    obtain ⟨s2, E2⟩ : ∃ s2, s2 = mx_setI s1 (m + 71) (3 * s.2.2.1.length + 1) (q_n (O k).2.1) := ⟨_, rfl⟩
    obtain ⟨s3, E3⟩ : ∃ s3, s3 = mx_setI s2 (m + 71) (3 * s.2.2.1.length + 2) (q_n (s.1 (O k).2.1)) := ⟨_, rfl⟩
    have D1 : LyM s1 m := by rw [E1]; exact hMσ
    have D2 : LyM s2 m := by rw [E2]; exact D1
    have D3 : LyM s3 m := by rw [E3]; exact D2
    have l1 : mxI s1 m 103 = q_n s.2.2.1.length := by rw [E1, sI_n (by omega)]; exact a4.1
    have l2 : mxI s2 m 103 = q_n s.2.2.1.length := by rw [E2, sI_n (by omega)]; exact l1
    have l3 : mxI s3 m 103 = q_n s.2.2.1.length := by rw [E3, sI_n (by omega)]; exact l2
    have pl2 : mxI s2 (m + 18) (O k).2.1 = q_n (s.1 (O k).2.1) := by rw [E2, sI_n (by omega), E1, sI_n (by omega)]; exact (RLr_p a1 h4).1
    have m3 : (3 : Int32) * q_n s.2.2.1.length = q_n (3 * s.2.2.1.length) := by rw [show (3 : Int32) = q_n 3 from rfl, q_nM]
    have p1 : q_n (3 * s.2.2.1.length) + (1 : Int32) = q_n (3 * s.2.2.1.length + 1) := q_nS _
    have p2 : q_n (3 * s.2.2.1.length) + (2 : Int32) = q_n (3 * s.2.2.1.length + 2) := by rw [show (2 : Int32) = q_n 2 from rfl, q_nA]
    rw [if_neg (show ¬ (100 : Int32) ≤ q_n s.2.2.1.length by rw [show (100 : Int32) = q_n 100 from rfl, q_nLe (by omega) (by omega)]; exact c), bd (am_r104 hMσ), bd (am_gI hMσ), a4.1, m3, bd (am_s104 hMσ hb (by omega) _), ← E1, bd (am_r104 D1), bd (am_gI D1), l1, m3, p1, bd (am_s104 D1 hb (by omega) _), ← E2, bd (am_r104 D2), bd (am_gI D2), l2, m3, p2, bd (am_r34 D2), bd (am_g34 D2 h4), pl2, bd (am_s104 D2 hb (by omega) _), ← E3, bd (am_gI D3), l3, q_nS, bd (am_pI D3 hb _)]
    refine ⟨_, rfl, ?_⟩
    have c3 : ∀ q j, q ≠ m + 71 → mxI s3 q j = mxI σ q j := fun q j hq => by rw [E3, sI_n (by omega), E2, sI_n (by omega), E1, sI_n (by omega)]
    have cl : ∀ q j, mxL s3 q j = mxL σ q j := fun q j => by rw [E3, E2, E1]; rfl
    have f3 : Fz (rvF m) σ s3 := by rw [E3, E2, E1]; exact ((Fz.rf.sI (by unfold rvF; omega) _).sI (by unfold rvF; omega) _).sI (by unfold rvF; omega) _
    refine ⟨?_, DvR_cg a2 ((sI_n (by omega)).trans (c3 _ _ (by omega))) (fun q j hq => ⟨(sI_n (by omega)).trans (c3 q j (by omega)), cl q j⟩), ⟨(sI_n (by omega)).trans ((c3 _ _ (by omega)).trans a3.1), a3.2⟩, ⟨?_, fun j e hj he => ?_⟩, ⟨(sI_n (by omega)).trans ((c3 _ _ (by omega)).trans a5.1), a5.2⟩, (sI_n (by omega)).trans ((c3 _ _ (by omega)).trans a6), (a7.tr f3).sI (by unfold rvF; omega) _⟩
    · exact RLr_rg hT a1 (fun q j z1 z2 => (sI_n (by omega)).trans (c3 q j (by omega))) (fun q j z1 z2 => cl q j) ((sI_n (by omega)).trans (c3 _ _ (by omega))) ((sI_n (by omega)).trans (c3 _ _ (by omega)))
    · rw [sI_e]; unfold evD; rw [List.length_append]; rfl
    · rw [sI_n (by omega), sI_n (by omega), sI_n (by omega)]
      unfold evD at he
      by_cases ej : j < s.2.2.1.length
      · rw [List.getElem?_append_left ej] at he
        have := a4.2 j e hj he
        rw [E3, sI_n (by omega), sI_n (by omega), sI_n (by omega), E2, sI_n (by omega), sI_n (by omega), sI_n (by omega), E1, sI_n (by omega), sI_n (by omega), sI_n (by omega)]
        exact this
      · have ej2 : j = s.2.2.1.length := by
          have := (List.getElem?_eq_some_iff.mp he).1
          rw [List.length_append] at this
          simp at this
          omega
        subst ej2
        rw [List.getElem?_append_right (Nat.le_refl _), Nat.sub_self] at he
        obtain rfl := Option.some.inj he
        refine ⟨?_, ?_, ?_⟩
        · rw [E3, sI_n (by omega), E2, sI_n (by omega), E1]; exact sI_e
        · rw [E3, sI_n (by omega), E2]; exact sI_e
        · rw [E3]; exact sI_e
theorem r_do (hf : 3000 ≤ mpN P) (hM : LyM σ0 m) (hb : mpb P ≤ m) (hT : kT K) (hO : DvO n O K) (hk : k < n) (hd : RD m K B n O σ0 0 s σ) (hev : s.2.2.1.length < 900000) : ∃ τ, f_X12_doOrder P m (q_n k) σ = some τ ∧ RD m K B n O σ0 (doD K O k s).2 (doD K O k s).1 τ := by
  have n40 := hO.1
  obtain ⟨o1, o2, o3, o4, o5⟩ := hO.2 k hk
  have hMσ := RD_M hd hM
  obtain ⟨c1, c2, c3, c4⟩ := hd.2.1.2 k hk
  obtain ⟨d1, d2, d3, d4, d5, d6, d7⟩ := id hd
  unfold f_X12_doOrder f_X12_doOrder_D38
  rw [bd (am_r96 hMσ), bd (am_g96 hMσ (by omega)), c1]
  by_cases f2' : (O k).1 < 2
  · have un : doD K O k s = mvD K O k (O k).2.2.1.natAbs s := by unfold doD; rw [if_neg (by omega), if_neg (by omega)]
    rw [un]
    obtain ⟨a3, b1, b2⟩ := o2 f2'
    have e2 := c3 f2'
    obtain ⟨r, er, hr⟩ := r_mvL (P := P) hf hM hb hT hO hk f2' (O k).2.2.1.natAbs 0 s σ 0 (mpN P) (by omega) (by
      have e0 : (0 : Int32).toInt = 0 := rfl
      rw [e0]; split <;> rfl) hd (by omega)
    have hln := mvD_l (K := K) (O := O) (k := k) (O k).2.2.1.natAbs s
    have body : ∀ u : Int32, u = (if decide (0 ≤ (O k).2.2.1) then 1 else -1) → ∃ τ, f_X12_goOn_D21 P m (q_n k) (q_n (O k).2.1) u σ = some τ ∧ RD m K B n O σ0 (mvD K O k (O k).2.2.1.natAbs s).2 (mvD K O k (O k).2.2.1.natAbs s).1 τ := fun u hu => by
      unfold f_X12_goOn_D21
      rw [hu, bd er]
      rcases hr with ⟨h0, τ, s1, rfl, hc, hs⟩ | ⟨h0, τ, rfl, hc⟩ | ⟨h0, τ, pl', rfl, hc, hu2, h4⟩
      · have hlen : s1.2.2.1.length < 1000000 := by
          rw [hs] at hln
          unfold evD at hln
          dsimp only at hln
          rw [List.length_append] at hln
          omega
        obtain ⟨τ', e', h'⟩ := r_evD (P := P) (k := k) hM hb hT hc hlen (by omega)
        rw [h0, hs]
        exact ⟨τ', e', h'⟩
      · rw [h0]
        have hMτ := RD_M hc hM
        obtain ⟨q1, q2, q3, q4, q5, q6, q7⟩ := id hc
        refine ⟨mx_setI τ m 113 2, ?_, RD_set hT hc (by omega) rfl ⟨(sI_n (by omega)).trans q3.1, q3.2⟩ (DeR_cg q4 (sI_n (by omega)) fun j => sI_n (by omega)) ⟨(sI_n (by omega)).trans q5.1, q5.2⟩ sI_e⟩
        show (mp_I P τ m 12 113 (2 : Int32)).bind _ = _
        rw [bd (am_pI hMτ hb _)]
      · rw [h0]
        have hMτ := RD_M hc hM
        have h' := r_stD (P := P) hM hb hT hc (show (O k).2.1 < 4 by omega) h4
        dsimp only at h'
        rw [hu2] at h'
        obtain ⟨s5, E5⟩ : ∃ s5, s5 = mx_setI τ (m + 18) (O k).2.1 (q_n ((mvD K O k (O k).2.2.1.natAbs s).1.1 (O k).2.1)) := ⟨_, rfl⟩
        rw [← E5] at h'
        have hM5 := RD_M h' hM
        obtain ⟨q1, q2, q3, q4, q5, q6, q7⟩ := id h'
        refine ⟨mx_setI s5 m 113 1, ?_, RD_set hT h' (by omega) rfl ⟨(sI_n (by omega)).trans q3.1, q3.2⟩ (DeR_cg q4 (sI_n (by omega)) fun j => sI_n (by omega)) ⟨(sI_n (by omega)).trans q5.1, q5.2⟩ sI_e⟩
        show (mg_R τ m 12 34).bind _ = _
        rw [bd (am_r34 hMτ), bd (am_s34 hMτ hb (by omega) _), ← E5, bd (am_pI hM5 hb _)]
    rw [if_neg (show ¬ (2 : Int32) ≤ q_n (O k).1 by rw [show (2 : Int32) = q_n 2 from rfl, q_nLe (by omega) (by omega)]; omega), bd (am_is hMσ)]
    have go : ∃ τ, f_X12_goOn P m (q_n k) σ = some τ ∧ RD m K B n O σ0 (mvD K O k (O k).2.2.1.natAbs s).2 (mvD K O k (O k).2.2.1.natAbs s).1 τ := by
      unfold f_X12_goOn
      rw [bd (am_r97 hMσ), bd (am_g97 hMσ (by omega)), c2, bd (am_r98 hMσ), bd (am_g98 hMσ (by omega))]
      by_cases b0 : 0 ≤ (O k).2.2.1
      · rw [if_pos (show 0 ≤ mxI σ (m + 67) k by rw [q_le, q_i0, e2]; exact b0)]
        exact body 1 (by rw [decide_eq_true b0, if_pos rfl])
      · rw [if_neg (show ¬ 0 ≤ mxI σ (m + 67) k by rw [q_le, q_i0, e2]; exact b0)]
        exact body (-1) (by rw [decide_eq_false b0, if_neg (by decide)])
    obtain ⟨τ, e, hτ⟩ := go
    exact ⟨τ, by rw [bd e], hτ⟩
  · rw [if_pos (show (2 : Int32) ≤ q_n (O k).1 by rw [show (2 : Int32) = q_n 2 from rfl, q_nLe (by omega) (by omega)]; omega), bd (am_r96 hMσ), bd (am_g96 hMσ (by omega)), c1]
    by_cases f3 : (O k).1 = 3
    · have un : doD K O k s = ((s.1, s.2.1, s.2.2.1, (O k).2.1), 0) := by unfold doD; rw [if_pos f3]
      rw [un, if_pos (show q_n (O k).1 = (3 : Int32) by rw [f3]; rfl), bd (am_r97 hMσ), bd (am_g97 hMσ (by omega)), c2, bd (am_pI hMσ hb _)]
      have := o5 f3
      exact ⟨_, rfl, RD_set hT hd (by omega) rfl ⟨(sI_n (by omega)).trans d3.1, d3.2⟩ (DeR_cg d4 (sI_n (by omega)) fun j => sI_n (by omega)) ⟨sI_e, by show (O k).2.1 < 256; omega⟩ ((sI_n (by omega)).trans d6)⟩
    · have un : doD K O k s = (s, 0) := by unfold doD; rw [if_neg f3, if_pos (by omega)]
      rw [un, if_neg (show ¬ q_n (O k).1 = (3 : Int32) from fun y => f3 ((q_nI (l := 3) (by omega) (by omega)).mp y))]
      exact ⟨σ, rfl, hd⟩
/-- orders, if it goes on -/
def runH (K : LK) (O : OD) (L : List Nat) (v : DS × Nat) : DS × Nat := if v.2 = 0 then runL K O L v.1 else v
theorem runL_h : ∀ (L : List Nat) (s : DS), (runL K O L s).2 < 100
  | [], s => by show 0 < 100; omega
  | k :: ks, s => by
    unfold runL
    split
    · exact runL_h ks _
    · exact doD_h
theorem runL_a : ∀ (L R : List Nat) (s : DS), runL K O (L ++ R) s = runH K O R (runL K O L s)
  | [], R, s => rfl
  | k :: ks, R, s => by
    rw [List.cons_append]
    unfold runL
    by_cases c : (doD K O k s).2 = 0
    · rw [if_pos c, if_pos c]; exact runL_a ks R _
    · rw [if_neg c, if_neg c]; unfold runH; rw [if_neg c]
theorem runH_a (L R : List Nat) (v : DS × Nat) : runH K O (L ++ R) v = runH K O R (runH K O L v) := by
  by_cases c : v.2 = 0
  · unfold runH; rw [if_pos c, if_pos c]; exact runL_a L R _
  · have e : ∀ L, runH K O L v = v := fun L => by unfold runH; rw [if_neg c]
    rw [e, e, e]
theorem runH_l : ∀ (L : List Nat) (v : DS × Nat), (runH K O L v).1.2.2.1.length ≤ v.1.2.2.1.length + L.length := by
  have r : ∀ (L : List Nat) (s : DS), (runL K O L s).1.2.2.1.length ≤ s.2.2.1.length + L.length := fun L => by
    induction L with
    | nil => intro s; exact Nat.le_refl _
    | cons k ks ih =>
      intro s
      have d := doD_l (K := K) (O := O) (k := k) (s := s)
      unfold runL
      rw [List.length_cons]
      split
      · have := ih (doD K O k s).1; omega
      · omega
  intro L v
  unfold runH
  split
  · exact r L v.1
  · omega
theorem rep_l (L : List Nat) : ∀ c : Nat, ((List.replicate c L).flatten).length = c * L.length
  | 0 => by simp
  | c + 1 => by rw [List.replicate_succ, List.flatten_cons, List.length_append, rep_l L c, Nat.succ_mul]; omega
/-- the innermost loop -/
theorem r_in (hf : 3000 ≤ mpN P) (hM : LyM σ0 m) (hb : mpb P ≤ m) (hT : kT K) (hO : DvO n O K) (hk : k < n) (v1 v3 : Int32) : ∀ (c j : Nat) (v : DS × Nat) (σ : mx_S) (fu : Nat), j + c = k → RD m K B n O σ0 v.2 v.1 σ → v.2 < 100 → v.1.2.2.1.length + c < 900000 → c < fu → ∃ τ, mx_lp (f_X12_drive_L211 P m v1 (q_n k) v3) fu (q_n j, σ) = some τ ∧ RD m K B n O σ0 (runH K O (List.range' j c) v).2 (runH K O (List.range' j c) v).1 τ := by
  have n40 := hO.1
  intro c
  induction c with
  | zero =>
    intro j v σ fu hj hd hv hl hfu
    refine ⟨σ, lp_out ?_ hfu, ?_⟩
    · show f_X12_drive_B211 P m v1 (q_n k) v3 (q_n j) σ = _
      unfold f_X12_drive_B211
      rw [if_pos ((q_nLe (by omega) (by omega)).mpr (by omega))]
    · have : runH K O (List.range' j 0) v = v := by
        show runH K O [] v = v
        unfold runH; split
        · rename_i e; show (v.1, 0) = v; rw [← e]
        · rfl
      rw [this]; exact hd
  | succ c ih =>
    intro j v σ fu hj hd hv hl hfu
    have hMσ := RD_M hd hM
    by_cases v0 : v.2 = 0
    · rw [v0] at hd
      obtain ⟨τ, e, hτ⟩ := r_do (P := P) (k := j) hf hM hb hT hO (by omega) hd (by omega)
      have hst : f_X12_drive_L211 P m v1 (q_n k) v3 (q_n j, σ) = some (.inl (q_n (j + 1), τ)) := by
        show f_X12_drive_B211 P m v1 (q_n k) v3 (q_n j) σ = _
        unfold f_X12_drive_B211
        rw [if_neg (qn_ge (show j < k by omega) (by omega)), bd (am_gI hMσ), hd.2.2.2.2.2.1, if_pos (show q_n 0 = (0 : Int32) from rfl), bd (am_is hMσ), bd e, Option.bind_some, q_nS]
      have dl := doD_l (K := K) (O := O) (k := j) (s := v.1)
      obtain ⟨τ', e', h'⟩ := ih (j + 1) (doD K O j v.1) τ (fu - 1) (by omega) hτ doD_h (by omega) (by omega)
      refine ⟨τ', by rw [mx_lp_s hst (by omega)]; exact e', ?_⟩
      have un : runH K O (List.range' j (c + 1)) v = runH K O (List.range' (j + 1) c) (doD K O j v.1) := by
        rw [List.range'_succ]
        show (if v.2 = 0 then runL K O (j :: List.range' (j + 1) c) v.1 else v) = _
        rw [if_pos v0]
        rfl
      rw [un]; exact h'
    · refine ⟨σ, lp_out ?_ (by omega), ?_⟩
      · show f_X12_drive_B211 P m v1 (q_n k) v3 (q_n j) σ = _
        unfold f_X12_drive_B211
        rw [if_neg (qn_ge (show j < k by omega) (by omega)), bd (am_gI hMσ), hd.2.2.2.2.2.1, if_neg (show ¬ q_n v.2 = (0 : Int32) from fun y => v0 ((q_nI (l := 0) (by omega) (by omega)).mp y))]
      · have : runH K O (List.range' j (c + 1)) v = v := by unfold runH; rw [if_neg v0]
        rw [this]; exact hd
/-- the passes -/
theorem r_ps (hf : 3000 ≤ mpN P) (hM : LyM σ0 m) (hb : mpb P ≤ m) (hT : kT K) (hO : DvO n O K) (hk : k < n) (f2 : (O k).1 = 2) (ha : a ≤ k) : ∀ (c t : Nat) (v : DS × Nat) (σ : mx_S) (fu : Nat), t + c = (O k).2.1 → RD m K B n O σ0 v.2 v.1 σ → v.2 < 100 → v.1.2.2.1.length + c * 100 < 900000 → c < fu → ∃ τ, mx_lp (f_X12_drive_L198 P m (q_n a) (q_n k)) fu (q_n t, σ) = some τ ∧ RD m K B n O σ0 (runH K O (List.replicate c (List.range' a (k - a))).flatten v).2 (runH K O (List.replicate c (List.range' a (k - a))).flatten v).1 τ ∧ (runH K O (List.replicate c (List.range' a (k - a))).flatten v).2 < 100 := by
  have n40 := hO.1
  have hA := (hO.2 k hk).2.2.2.1 f2
  intro c
  induction c with
  | zero =>
    intro t v σ fu ht hd hv hl hfu
    have hMσ := RD_M hd hM
    have c2 := (hd.2.1.2 k hk).2.1
    have un : runH K O (List.replicate 0 (List.range' a (k - a))).flatten v = v := by
      show runH K O [] v = v
      unfold runH; split
      · rename_i e; show (v.1, 0) = v; rw [← e]
      · rfl
    rw [un]
    refine ⟨σ, lp_out ?_ hfu, hd, hv⟩
    show f_X12_drive_B198 P m (q_n a) (q_n k) (q_n t) σ = _
    unfold f_X12_drive_B198
    rw [bd (am_r97 hMσ), bd (am_g97 hMσ (by omega)), c2, if_pos ((q_nLe (by omega) (by omega)).mpr (by omega))]
  | succ c ih =>
    intro t v σ fu ht hd hv hl hfu
    have hMσ := RD_M hd hM
    have c2 := (hd.2.1.2 k hk).2.1
    obtain ⟨τ, e, hτ⟩ := r_in (P := P) hf hM hb hT hO hk (q_n a) (q_n t) (k - a) a v σ (mpN P) (by omega) hd hv (by omega) (by omega)
    have h100 : (runH K O (List.range' a (k - a)) v).2 < 100 := by
      unfold runH; split
      · exact runL_h _ _
      · exact hv
    have hln := runH_l (K := K) (O := O) (List.range' a (k - a)) v
    rw [List.length_range'] at hln
    obtain ⟨τ', e', h', h''⟩ := ih (t + 1) (runH K O (List.range' a (k - a)) v) τ (fu - 1) (by omega) hτ h100 (by omega) (by omega)
    have un : runH K O (List.replicate (c + 1) (List.range' a (k - a))).flatten v = runH K O (List.replicate c (List.range' a (k - a))).flatten (runH K O (List.range' a (k - a)) v) := by
      rw [List.replicate_succ, List.flatten_cons, runH_a]
    rw [un]
    refine ⟨τ', ?_, h', h''⟩
    have hst : f_X12_drive_L198 P m (q_n a) (q_n k) (q_n t, σ) = some (.inl (q_n (t + 1), τ)) := by
      show f_X12_drive_B198 P m (q_n a) (q_n k) (q_n t) σ = _
      unfold f_X12_drive_B198
      rw [bd (am_r97 hMσ), bd (am_g97 hMσ (by omega)), c2, if_neg (qn_ge (show t < (O k).2.1 by omega) (by omega)), bd e]
      show f_X12_drive_D236_198 P m (q_n a) (q_n k) (q_n t) τ = _
      unfold f_X12_drive_D236_198
      rw [Option.bind_some, q_nS]
    rw [mx_lp_s hst (by omega)]
    exact e'
/-- the whole run -/
theorem r_run (hf : 3000 ≤ mpN P) (hM : LyM σ0 m) (hb : mpb P ≤ m) (hT : kT K) (hO : DvO n O K) : ∀ (f a k : Nat) (v : DS × Nat) (σ : mx_S) (fu : Nat), k + f = n → a ≤ k → RD m K B n O σ0 v.2 v.1 σ → v.2 < 100 → v.1.2.2.1.length + f * 1000 < 900000 → f + 1 < fu → ∃ τ, mx_lp (f_X12_drive_L163 P m) fu (q_n a, q_n k, σ) = some τ ∧ RD m K B n O σ0 (runH K O (flD O n f a k) v).2 (runH K O (flD O n f a k) v).1 τ ∧ (runH K O (flD O n f a k) v).2 < 100 := by
  have n40 := hO.1
  intro f
  induction f with
  | zero =>
    intro a k v σ fu hk ha hd hv hl hfu
    have hMσ := RD_M hd hM
    have un : runH K O (flD O n 0 a k) v = v := by
      show runH K O [] v = v
      unfold runH; split
      · rename_i e; show (v.1, 0) = v; rw [← e]
      · rfl
    rw [un]
    refine ⟨σ, lp_out ?_ (by omega), hd, hv⟩
    show f_X12_drive_B163 P m (q_n a) (q_n k) σ = _
    unfold f_X12_drive_B163
    rw [bd (am_gI hMσ), hd.2.1.1, if_pos ((q_nLe (by omega) (by omega)).mpr (by omega))]
  | succ f ih =>
    intro a k v σ fu hk ha hd hv hl hfu
    have hMσ := RD_M hd hM
    have hkn : k < n := by omega
    by_cases v0 : v.2 = 0
    · rw [v0] at hd
      obtain ⟨τ, e, hτ⟩ := r_do (P := P) (k := k) hf hM hb hT hO hkn hd (by omega)
      have hMτ := RD_M hτ hM
      have c1 := (hτ.2.1.2 k hkn).1
      have dl := doD_l (K := K) (O := O) (k := k) (s := v.1)
      have o1 := (hO.2 k hkn).1
      have head : f_X12_drive_L163 P m (q_n a, q_n k, σ) = (if q_n (O k).1 = (2 : Int32) then (mx_lp (f_X12_drive_L198 P m (q_n a) (q_n k)) (mpN P) ((0 : Int32), τ)).bind (fun t => (fun σ132 => (some (q_n k + (1 : Int32))).bind fun x133 => f_X12_drive_D246_163 P m x133 (q_n k) σ132) t) else f_X12_drive_D246_163 P m (q_n a) (q_n k) τ) := by
        show f_X12_drive_B163 P m (q_n a) (q_n k) σ = _
        unfold f_X12_drive_B163
        rw [bd (am_gI hMσ), hd.2.1.1, if_neg (qn_ge hkn (by omega)), bd (am_gI hMσ), hd.2.2.2.2.2.1, if_pos (show q_n 0 = (0 : Int32) from rfl), bd (am_is hMσ), bd e, bd (am_r96 hMτ), bd (am_g96 hMτ (by omega)), c1]
      by_cases f2 : (O k).1 = 2
      · have ud : doD K O k v.1 = (v.1, 0) := by unfold doD; rw [if_neg (by omega), if_pos f2]
        rw [ud] at hτ
        have hA := (hO.2 k hkn).2.2.2.1 f2
        obtain ⟨τ', e', h', h''⟩ := r_ps (P := P) hf hM hb hT hO hkn f2 ha (O k).2.1 0 (v.1, 0) τ (mpN P) (by omega) hτ (by show 0 < 100; omega) (by show v.1.2.2.1.length + _ < _; omega) (by omega)
        have lf : ((List.replicate (O k).2.1 (List.range' a (k - a))).flatten).length = (O k).2.1 * (k - a) := by
          rw [rep_l, List.length_range']
        have hln := runH_l (K := K) (O := O) (List.replicate (O k).2.1 (List.range' a (k - a))).flatten (v.1, 0)
        rw [lf] at hln
        have mb : (O k).2.1 * (k - a) ≤ 9 * 40 := Nat.mul_le_mul hA.2 (by omega)
        dsimp only at hln
        obtain ⟨τ2, e2, h2, h3⟩ := ih (k + 1) (k + 1) (runH K O (List.replicate (O k).2.1 (List.range' a (k - a))).flatten (v.1, 0)) τ' (fu - 1) (by omega) (Nat.le_refl _) h' h'' (by omega) (by omega)
        have un : runH K O (flD O n (f + 1) a k) v = runH K O (flD O n f (k + 1) (k + 1)) (runH K O (List.replicate (O k).2.1 (List.range' a (k - a))).flatten (v.1, 0)) := by
          have u1 : flD O n (f + 1) a k = (List.replicate (O k).2.1 (List.range' a (k - a))).flatten ++ flD O n f (k + 1) (k + 1) := by
            show (if k < n then (if (O k).1 = 2 then _ else _) else _) = _
            rw [if_pos hkn, if_pos f2]
          rw [u1, runH_a, show v = (v.1, 0) by rw [← v0]]
        rw [un]
        refine ⟨τ2, ?_, h2, h3⟩
        have hst : f_X12_drive_L163 P m (q_n a, q_n k, σ) = some (.inl (q_n (k + 1), q_n (k + 1), τ')) := by
          rw [head, if_pos (show q_n (O k).1 = (2 : Int32) by rw [f2]; rfl), bd (show mx_lp (f_X12_drive_L198 P m (q_n a) (q_n k)) (mpN P) ((0 : Int32), τ) = some τ' from e')]
          show (some (q_n k + (1 : Int32))).bind _ = _
          rw [Option.bind_some, q_nS]
          unfold f_X12_drive_D246_163
          rw [Option.bind_some, q_nS]
        rw [mx_lp_s hst (by omega)]
        exact e2
      · obtain ⟨τ2, e2, h2, h3⟩ := ih a (k + 1) (doD K O k v.1) τ (fu - 1) (by omega) (by omega) hτ doD_h (by omega) (by omega)
        have un : runH K O (flD O n (f + 1) a k) v = runH K O (flD O n f a (k + 1)) (doD K O k v.1) := by
          have u1 : flD O n (f + 1) a k = k :: flD O n f a (k + 1) := by
            show (if k < n then (if (O k).1 = 2 then _ else _) else _) = _
            rw [if_pos hkn, if_neg f2]
          rw [u1]
          show (if v.2 = 0 then runL K O (k :: flD O n f a (k + 1)) v.1 else v) = _
          rw [if_pos v0]
          rfl
        rw [un]
        refine ⟨τ2, ?_, h2, h3⟩
        have hst : f_X12_drive_L163 P m (q_n a, q_n k, σ) = some (.inl (q_n a, q_n (k + 1), τ)) := by
          rw [head, if_neg (show ¬ q_n (O k).1 = (2 : Int32) from fun y => f2 ((q_nI (l := 2) (by omega) (by omega)).mp y))]
          unfold f_X12_drive_D246_163
          rw [Option.bind_some, q_nS]
        rw [mx_lp_s hst (by omega)]
        exact e2
    · have un : runH K O (flD O n (f + 1) a k) v = v := by unfold runH; rw [if_neg v0]
      rw [un]
      refine ⟨σ, lp_out ?_ (by omega), hd, hv⟩
      show f_X12_drive_B163 P m (q_n a) (q_n k) σ = _
      unfold f_X12_drive_B163
      rw [bd (am_gI hMσ), hd.2.1.1, if_neg (qn_ge hkn (by omega)), bd (am_gI hMσ), hd.2.2.2.2.2.1, if_neg (show ¬ q_n v.2 = (0 : Int32) from fun y => v0 ((q_nI (l := 0) (by omega) (by omega)).mp y))]
end LJS
