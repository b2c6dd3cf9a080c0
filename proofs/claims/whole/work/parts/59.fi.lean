/-! ===== fi: range, both ===== -/
section FIA
variable {M : BV} {P : mx_P} {σ σ0 σ1 σ' : mx_S} {l m : Nat} {K : LK} {pl pl0 pl' mk : Nat → Nat} {w p i k : Nat} {n : Int32}
def r_cnt (s : Nat → Bool) : Nat → Nat
  | 0 => 0
  | n + 1 => r_cnt s n + (if s n then 1 else 0)
def r_beg (s : Nat → Bool) (k : Nat) : Bool := s k && !(s ((k + 1023) % 1024))
def r_fst (s : Nat → Bool) : Nat → Option Nat
  | 0 => none
  | n + 1 => match r_fst s n with
    | some k => some k
    | none => if s n then some n else none
def r_fI (o : Option Nat) : Int32 := match o with
  | none => -1
  | some k => q_n k
/-- where the way is sure -/
def g_sr (K : LK) (pl : Nat → Nat) (w i : Nat) : Nat → Bool := fun k => g_wy K (upl pl i k) w == 1
def g_rng (N : Nat) (s : Nat → Bool) (what : Int32) : Int32 := if what = 0 then q_n (r_cnt s N) else if r_cnt s N = N then (if what = 1 then 1 else 0) else if what = 1 then q_n (r_cnt (r_beg s) N) else r_fI (r_fst (r_beg s) N)
theorem r_cnt_le (s : Nat → Bool) : ∀ n, r_cnt s n ≤ n
  | 0 => Nat.le_refl _
  | n + 1 => by rw [r_cnt]; have := r_cnt_le s n; split <;> omega
theorem r_fst_lt {s : Nat → Bool} : ∀ {n k : Nat}, r_fst s n = some k → k < n
  | 0, k, h => by cases h
  | n + 1, k, h => by
    rw [r_fst] at h
    cases e : r_fst s n with
    | some j => rw [e] at h; cases h; have := r_fst_lt e; omega
    | none =>
      rw [e] at h
      dsimp only at h
      split at h
      · cases h; omega
      · cases h
theorem upl_self : upl pl i (pl i) = pl := by
  funext j; unfold upl; split
  · rename_i e; rw [e]
  · rfl
theorem upl_upl {a b : Nat} : upl (upl pl i a) i b = upl pl i b := by
  funext j; unfold upl; split <;> rfl
theorem fI_S {s : Nat → Bool} {n : Nat} (hn : n < 2000) : r_fI (r_fst s (n + 1)) = if s n then (if 0 ≤ r_fI (r_fst s n) then r_fI (r_fst s n) else q_n n) else r_fI (r_fst s n) := by
  rw [r_fst]
  cases e : r_fst s n with
  | some j =>
    have := r_fst_lt e
    have h0 : (0 : Int32) ≤ r_fI (some j) := by show (0 : Int32) ≤ q_n j; rw [q_le, q_nT (by omega), q_i0]; omega
    rw [if_pos h0]
    cases s n <;> rfl
  | none =>
    have h0 : ¬ (0 : Int32) ≤ r_fI none := by show ¬ (0 : Int32) ≤ -1; decide
    rw [if_neg h0]
    cases s n <;> rfl
theorem runs_eq {c d : Bool} {A B k : Nat} {F u v x y : Int32} {τ : mx_S} : f_X7_runsOf_D73_44 P l u v x y (bI d) (q_n A) (q_n B) F (q_n k) (bI c) τ = some (.inl (bI c, q_n (A + if c then 1 else 0), q_n (B + if c && !d then 1 else 0), (if c && !d then (if 0 ≤ F then F else q_n k) else F), q_n (k + 1), τ)) := by
  have n1 : ¬ (1 : Int32) = 0 := by decide
  unfold f_X7_runsOf_D73_44 f_X7_runsOf_D87_44 f_X7_runsOf_D115_44 f_X7_runsOf_D117_44
  cases c
  · rw [show bI false = (0 : Int32) from rfl, if_pos rfl, bds, if_pos rfl, bds, q_nS, q_n0, q_nA]; rfl
  · rw [show bI true = (1 : Int32) from rfl, if_neg n1, bds, if_neg n1, q_nS]
    cases d
    · rw [show bI false = (0 : Int32) from rfl, if_pos rfl, bds, q_nS, bds, bds, q_nS]
      by_cases hF : 0 ≤ F
      · rw [if_pos hF, if_pos hF]; rfl
      · rw [if_neg hF, if_neg hF]; rfl
    · rw [show bI true = (1 : Int32) from rfl, if_neg n1, bds, q_nS, q_nS]; rfl
theorem c_runs (hf : 2000 ≤ mpN P) (hL : LyL (mxA σ0) (mxR σ0) l) (hp : mpb P ≤ l) (hT : kT K) (h : CS M l K mk σ0 pl0 pl σ) (hi : i < 4) (hw : w < 256) (what : Int32) {N : Nat} (hN : N = 1024) : Wp (f_X7_runsOf P l (q_n w) (q_n i) what σ) (fun r => r.1 = g_rng N (g_sr K pl w i) what ∧ CS M l K mk σ0 pl0 pl r.2) := by
  have hL' := CS_L h hL
  obtain ⟨⟨E0, wy0, hz0⟩, -, -⟩ := id h
  have hpli := hz0.1.2.2.2.1 i hi
  have hD : ∀ (τ : mx_S) (b : Bool), b = g_sr K pl w i 1023 → (∃ a, CS M l K mk σ0 pl0 (upl pl i a) τ) → Wp (f_X7_runsOf_D30 P l (q_n w) (q_n i) what (q_n (pl i)) (bI b) τ) (fun r => r.1 = g_rng N (g_sr K pl w i) what ∧ CS M l K mk σ0 pl0 pl r.2) := by
    intro τ b hb hτ
    unfold f_X7_runsOf_D30 f_X7_runsOf_D159 f_X7_runsOf_D172
    obtain ⟨r, er, τ2, rfl, a, hr⟩ := q_for (f_X7_runsOf_L44 P l (q_n w) (q_n i) what (q_n (pl i)))
      (fun k x => x.1 = bI (g_sr K pl w i ((k + 1023) % 1024)) ∧ x.2.1 = q_n (r_cnt (g_sr K pl w i) k) ∧ x.2.2.1 = q_n (r_cnt (r_beg (g_sr K pl w i)) k) ∧ x.2.2.2.1 = r_fI (r_fst (r_beg (g_sr K pl w i)) k) ∧ x.2.2.2.2.1 = q_n k ∧ ∃ a, CS M l K mk σ0 pl0 (upl pl i a) x.2.2.2.2.2)
      (fun r => ∃ τ, r = (q_n (r_cnt (g_sr K pl w i) N), q_n (r_cnt (r_beg (g_sr K pl w i)) N), r_fI (r_fst (r_beg (g_sr K pl w i)) N), τ) ∧ ∃ a, CS M l K mk σ0 pl0 (upl pl i a) τ) N
      (by
        rintro k ⟨x1, x2, x3, x4, x5, τ1⟩ hk ⟨i1, i2, i3, i4, i5, a, i6⟩
        dsimp only at i1 i2 i3 i4 i5 i6
        subst i1; subst i2; subst i3; subst i4; subst i5
        left
        suffices hww : Wp (f_X7_runsOf_B44 P l (q_n w) (q_n i) what (q_n (pl i)) (bI (g_sr K pl w i ((k + 1023) % 1024))) (q_n (r_cnt (g_sr K pl w i) k)) (q_n (r_cnt (r_beg (g_sr K pl w i)) k)) (r_fI (r_fst (r_beg (g_sr K pl w i)) k)) (q_n k) τ1) (fun z => ∃ t', z = .inl t' ∧ t'.1 = bI (g_sr K pl w i ((k + 1 + 1023) % 1024)) ∧ t'.2.1 = q_n (r_cnt (g_sr K pl w i) (k + 1)) ∧ t'.2.2.1 = q_n (r_cnt (r_beg (g_sr K pl w i)) (k + 1)) ∧ t'.2.2.2.1 = r_fI (r_fst (r_beg (g_sr K pl w i)) (k + 1)) ∧ t'.2.2.2.2.1 = q_n (k + 1) ∧ ∃ a, CS M l K mk σ0 pl0 (upl pl i a) t'.2.2.2.2.2) by
          obtain ⟨z, ez, t', rfl, hz⟩ := hww
          exact ⟨t', ez, hz⟩
        unfold f_X7_runsOf_B44
        rw [if_neg (by rw [show (1024 : Int32) = q_n 1024 from rfl, q_nLe (by omega) (by omega)]; omega), bd (al_is (CS_L i6 hL))]
        refine Wp_b (Wp_mo (cs_move (by omega) hL hp hT i6 hi (show k < 1024 by omega)) ?_)
        intro τ3 h3
        rw [upl_upl] at h3
        rw [bd (al_is (CS_L h3 hL))]
        refine Wp_b2 (Wp_mo (cs_look true (by omega) hL hp hT h3 hw) ?_)
        rintro ⟨r, τ4⟩ ⟨j1, j2, j3, -, -⟩
        dsimp only at j1 j2 j3
        have hmod : (k + 1 + 1023) % 1024 = k := by omega
        have hfS := fI_S (s := r_beg (g_sr K pl w i)) (n := k) (by omega)
        have fin : ∀ c : Bool, c = g_sr K pl w i k → Wp (f_X7_runsOf_D73_44 P l (q_n w) (q_n i) what (q_n (pl i)) (bI (g_sr K pl w i ((k + 1023) % 1024))) (q_n (r_cnt (g_sr K pl w i) k)) (q_n (r_cnt (r_beg (g_sr K pl w i)) k)) (r_fI (r_fst (r_beg (g_sr K pl w i)) k)) (q_n k) (bI c) τ4) (fun z => ∃ t', z = .inl t' ∧ t'.1 = bI (g_sr K pl w i ((k + 1 + 1023) % 1024)) ∧ t'.2.1 = q_n (r_cnt (g_sr K pl w i) (k + 1)) ∧ t'.2.2.1 = q_n (r_cnt (r_beg (g_sr K pl w i)) (k + 1)) ∧ t'.2.2.2.1 = r_fI (r_fst (r_beg (g_sr K pl w i)) (k + 1)) ∧ t'.2.2.2.2.1 = q_n (k + 1) ∧ ∃ a, CS M l K mk σ0 pl0 (upl pl i a) t'.2.2.2.2.2) := by
          intro c hc
          have hb2 : r_beg (g_sr K pl w i) k = (c && !(g_sr K pl w i ((k + 1023) % 1024))) := by unfold r_beg; rw [hc]
          rw [runs_eq, hmod, r_cnt, r_cnt, hfS, ← hc, hb2]
          exact Wp_s ⟨_, rfl, rfl, rfl, rfl, rfl, rfl, k, j1⟩
        by_cases h0 : r = 0
        · rw [if_pos h0]
          exact fin true (by unfold g_sr; rw [j3.mp h0]; rfl)
        · rw [if_neg h0]
          exact fin false (by unfold g_sr; exact (beq_eq_false_iff_ne.mpr (fun z => h0 (j3.mpr z))).symm))
      (by
        rintro ⟨x1, x2, x3, x4, x5, τ1⟩ ⟨i1, i2, i3, i4, i5, a, i6⟩
        dsimp only at i1 i2 i3 i4 i5 i6
        subst i1; subst i2; subst i3; subst i4; subst i5
        refine ⟨_, ?_, τ1, rfl, a, i6⟩
        show f_X7_runsOf_B44 P l (q_n w) (q_n i) what (q_n (pl i)) _ _ _ _ (q_n N) τ1 = _
        unfold f_X7_runsOf_B44
        rw [if_pos (by rw [hN]; decide)])
      N 0 (bI b, (0 : Int32), (0 : Int32), (-1 : Int32), (0 : Int32), τ) (mpN P) (by omega) ⟨by rw [hb], rfl, rfl, rfl, rfl, hτ⟩ (by omega)
    rw [bd er]
    show Wp ((mx_is τ2 l 7).bind _) _
    rw [bd (al_is (CS_L hr hL))]
    refine Wp_b (Wp_mo (cs_move (by omega) hL hp hT hr hi hpli.2) ?_)
    intro τ3 h3
    rw [upl_back] at h3
    unfold g_rng
    have hc := r_cnt_le (g_sr K pl w i) N
    by_cases e0 : what = 0
    · rw [if_pos e0, if_pos e0]; exact Wp_s ⟨rfl, h3⟩
    · rw [if_neg e0, if_neg e0]
      by_cases e1 : r_cnt (g_sr K pl w i) N = N
      · rw [if_pos (by rw [e1, hN]; rfl), if_pos e1]
        by_cases e2 : what = 1
        · rw [if_pos e2, if_pos e2]; exact Wp_s ⟨rfl, h3⟩
        · rw [if_neg e2, if_neg e2]; exact Wp_s ⟨rfl, h3⟩
      · rw [if_neg (fun z => e1 (by rw [show (1024 : Int32) = q_n 1024 from rfl, q_nI (by omega) (by omega)] at z; omega)), if_neg e1]
        by_cases e2 : what = 1
        · rw [if_pos e2, if_pos e2]; exact Wp_s ⟨rfl, h3⟩
        · rw [if_neg e2, if_neg e2]; exact Wp_s ⟨rfl, h3⟩
  unfold f_X7_runsOf
  rw [bd (al_r4 hL'), bd (al_g4 hL' hi), hpli.1, bd (al_is hL'), show (1023 : Int32) = q_n 1023 from rfl]
  refine Wp_b (Wp_mo (cs_move (by omega) hL hp hT h hi (by omega)) ?_)
  intro τ1 h1
  rw [bd (al_is (CS_L h1 hL))]
  refine Wp_b2 (Wp_mo (cs_look true (by omega) hL hp hT h1 hw) ?_)
  rintro ⟨r, τ2⟩ ⟨j1, j2, j3, -, -⟩
  dsimp only at j1 j2 j3
  by_cases h0 : r = 0
  · rw [if_pos h0]
    exact hD τ2 true (by unfold g_sr; rw [j3.mp h0]; rfl) ⟨_, j1⟩
  · rw [if_neg h0]
    exact hD τ2 false (by unfold g_sr; exact (beq_eq_false_iff_ne.mpr (fun z => h0 (j3.mpr z))).symm) ⟨_, j1⟩
/-! the reference -/
theorem rs_oth {q j : Nat} {x : Int32} (hT : kT K) (h : RS m K σ0 pl σ) (hq : q = m + 35) : RS m K σ0 pl (mx_setI σ q j x) := by
  obtain ⟨hK, ⟨E, hE⟩, hF⟩ := h
  have hI : ∀ q' j', q' ≠ m + 4 → q' ≠ m + 18 → q' ≠ m + 35 → (q' = m → j' ≠ 54 ∧ j' ≠ 55) → mxI (mx_setI σ q j x) q' j' = mxI σ q' j' := fun q' j' c1 c2 c3 c4 => by
    rw [q_II, if_neg]
    rintro ⟨rfl, rfl⟩
    exact c3 hq
  refine ⟨RK_of hT hK hI (fun _ _ _ _ => rfl) fun i hi => ?_, ⟨E, fun d hd => by rw [rr_sI (by omega)]; exact hE d hd⟩, hF.tr ⟨rfl, rfl, ⟨rfl, rfl⟩, hI, fun _ _ _ _ => rfl⟩⟩
  rw [q_II, if_neg (by omega)]; exact hK.2.2.2.1 i hi
theorem r_sweep (hf : 2000 ≤ mpN P) (hM : LyM σ0 m) (hp : mpb P ≤ m) (hT : kT K) (h : RS m K σ0 pl σ) (hi : i < 4) (hw : w < 256) {N : Nat} (hN : N = 1024) : Wp (f_X12_sweep P m (q_n w) (q_n i) σ) (fun r => r.1 = q_n (r_cnt (g_sr K pl w i) N) ∧ RS m K σ0 pl r.2 ∧ ∀ k, k < 1024 → mxI r.2 (m + 35) k = bI (g_sr K pl w i k)) := by
  have hM' := RS_M h hM
  have hpli := h.1.2.2.2.1 i hi
  unfold f_X12_sweep
  rw [bd (am_r34 hM'), bd (am_g34 hM' hi), hpli.1]
  obtain ⟨r, er, τ2, rfl, ⟨a, hr⟩, hs⟩ := q_for (f_X12_sweep_L13 P m (q_n w) (q_n i) (q_n (pl i)))
    (fun k x => x.1 = q_n (r_cnt (g_sr K pl w i) k) ∧ x.2.1 = q_n k ∧ (∃ a, RS m K σ0 (upl pl i a) x.2.2) ∧ ∀ j, j < k → mxI x.2.2 (m + 35) j = bI (g_sr K pl w i j))
    (fun r => ∃ τ, r = (q_n (r_cnt (g_sr K pl w i) N), τ) ∧ (∃ a, RS m K σ0 (upl pl i a) τ) ∧ ∀ j, j < N → mxI τ (m + 35) j = bI (g_sr K pl w i j)) N
    (by
      rintro k ⟨x1, x2, τ1⟩ hk ⟨i1, i2, ⟨a, i3⟩, i4⟩
      dsimp only at i1 i2 i3 i4
      subst i1; subst i2
      left
      have hk1 : k < 1024 := by omega
      suffices hww : Wp (f_X12_sweep_B13 P m (q_n w) (q_n i) (q_n (pl i)) (q_n (r_cnt (g_sr K pl w i) k)) (q_n k) τ1) (fun z => ∃ t', z = .inl t' ∧ t'.1 = q_n (r_cnt (g_sr K pl w i) (k + 1)) ∧ t'.2.1 = q_n (k + 1) ∧ (∃ a, RS m K σ0 (upl pl i a) t'.2.2) ∧ ∀ j, j < k + 1 → mxI t'.2.2 (m + 35) j = bI (g_sr K pl w i j)) by
        obtain ⟨z, ez, t', rfl, hz⟩ := hww
        exact ⟨t', ez, hz⟩
      unfold f_X12_sweep_B13
      rw [if_neg (by rw [show (1024 : Int32) = q_n 1024 from rfl, q_nLe (by omega) (by omega)]; omega), bd (am_r34 (RS_M i3 hM))]
      have hset : ms_I P τ1 (m + 18) 0 (q_n i) (q_n k) = some (mx_setI τ1 (m + 18) i (q_n k)) := am_s34 (RS_M i3 hM) hp hi _
      have h3 : RS m K σ0 (upl pl i k) (mx_setI τ1 (m + 18) i (q_n k)) := by
        obtain ⟨τ', e', h'⟩ := rs_set (P := P) hM hp hT i3 hi hk1
        rw [hset] at e'; cases e'
        rw [upl_upl] at h'; exact h'
      rw [bd hset, bd (am_r56 (RS_M h3 hM)), bd (am_is (RS_M h3 hM))]
      have hsu : ∀ j, j < k → mxI (mx_setI τ1 (m + 18) i (q_n k)) (m + 35) j = bI (g_sr K pl w i j) := fun j hj => by rw [q_II, if_neg (by omega)]; exact i4 j hj
      refine Wp_b2 (Wp_mo (rs_work2 (by omega) hM hp hT h3 hw) ?_)
      rintro ⟨r, τ2⟩ ⟨⟨j1, j2, -⟩, j5⟩
      dsimp only at j1 j2 j5
      have hwy3 : g_wy K (upl pl i k) w ≤ 2 := by unfold g_wy; split <;> (try split) <;> omega
      have hsu2 : ∀ j, j < k → mxI τ2 (m + 35) j = bI (g_sr K pl w i j) := fun j hj => by rw [j5 j]; exact hsu j hj
      have fin : ∀ c : Bool, c = g_sr K pl w i k → Wp (f_X12_sweep_D49_13 P m (q_n w) (q_n i) (q_n (pl i)) (q_n (r_cnt (g_sr K pl w i) k)) (q_n k) (bI c) (q_n k) (m + 35) τ2) (fun z => ∃ t', z = .inl t' ∧ t'.1 = q_n (r_cnt (g_sr K pl w i) (k + 1)) ∧ t'.2.1 = q_n (k + 1) ∧ (∃ a, RS m K σ0 (upl pl i a) t'.2.2) ∧ ∀ j, j < k + 1 → mxI t'.2.2 (m + 35) j = bI (g_sr K pl w i j)) := by
        intro c hc
        have hM2 := RS_M j2 hM
        have hcell : mxI (mx_setI τ2 (m + 35) k (bI c)) (m + 35) k = bI c := if_pos ⟨rfl, rfl⟩
        have hv : vp_nar .boolean (bI c) = bI c := by cases c <;> decide
        unfold f_X12_sweep_D49_13 f_X12_sweep_D69_13
        rw [hv, bd (am_s56 hM2 hp hk1 _), bd (am_r56 (σ := mx_setI τ2 (m + 35) k (bI c)) hM2), bd (am_g56 (σ := mx_setI τ2 (m + 35) k (bI c)) hM2 hk1), hcell, bds, q_nS, bds, q_nS]
        have hR := rs_oth (x := bI c) (j := k) hT j2 rfl
        have hs3 : ∀ j, j < k + 1 → mxI (mx_setI τ2 (m + 35) k (bI c)) (m + 35) j = bI (g_sr K pl w i j) := by
          intro j hj
          rw [q_II]
          by_cases e : j = k
          · subst e; rw [if_pos ⟨rfl, rfl⟩, hc]
          · rw [if_neg (fun z => e z.2)]; exact hsu2 j (by omega)
        rw [r_cnt, ← hc]
        cases c
        · rw [if_pos (show bI false = 0 from rfl)]; exact Wp_s ⟨_, rfl, rfl, rfl, ⟨k, hR⟩, hs3⟩
        · rw [if_neg (show ¬ bI true = 0 by decide)]; exact Wp_s ⟨_, rfl, rfl, rfl, ⟨k, hR⟩, hs3⟩
      by_cases h0 : g_wy K (upl pl i k) w = 1
      · rw [if_pos (by rw [j1, h0]; rfl)]
        exact fin true (by unfold g_sr; rw [h0]; rfl)
      · rw [if_neg (fun z => h0 (by rw [j1, show (1 : Int32) = q_n 1 from rfl, q_nI (by omega) (by omega)] at z; exact z))]
        exact fin false (by unfold g_sr; exact (beq_eq_false_iff_ne.mpr h0).symm))
    (by
      rintro ⟨x1, x2, τ1⟩ ⟨i1, i2, i3, i4⟩
      dsimp only at i1 i2 i3 i4
      subst i1; subst i2
      refine ⟨_, ?_, τ1, rfl, i3, i4⟩
      show f_X12_sweep_B13 P m (q_n w) (q_n i) (q_n (pl i)) _ (q_n N) τ1 = _
      unfold f_X12_sweep_B13
      rw [if_pos (by rw [hN]; decide)])
    N 0 ((0 : Int32), (0 : Int32), σ) (mpN P) (by omega) ⟨rfl, rfl, ⟨pl i, by rw [upl_self]; exact h⟩, fun j hj => absurd hj (Nat.not_lt_zero j)⟩ (by omega)
  rw [bd er]
  have hM2 := RS_M hr hM
  have hset : ms_I P τ2 (m + 18) 0 (q_n i) (q_n (pl i)) = some (mx_setI τ2 (m + 18) i (q_n (pl i))) := am_s34 hM2 hp hi _
  obtain ⟨τ', e', h'⟩ := rs_set (P := P) hM hp hT hr hi hpli.2
  rw [hset] at e'; cases e'
  rw [upl_back] at h'
  show Wp ((mg_R τ2 m 12 34).bind _) _
  rw [bd (am_r34 hM2), bd hset]
  exact Wp_s ⟨rfl, h', fun k hk => by
    show mxI (mx_setI τ2 (m + 18) i (q_n (pl i))) (m + 35) k = _
    rw [q_II, if_neg (by omega)]; exact hs k (by omega)⟩
end FIA
