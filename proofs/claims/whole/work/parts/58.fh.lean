/-! ===== fh: steps, both ===== -/
section FHA
variable {M : BV} {P : mx_P} {σ σ0 σ1 σ' : mx_S} {l m : Nat} {K : LK} {pl pl0 pl' mk : Nat → Nat} {w p i k : Nat} {n : Int32}
def nx (u : Bool) (a : Nat) : Nat := if u then (a + 1) % 1024 else (a + 1023) % 1024
theorem nx_lt (u : Bool) (a : Nat) : nx u a < 1024 := by unfold nx; split <;> exact Nat.mod_lt _ (by omega)
theorem nx_q (u : Bool) (a : Nat) : (q_n a + (if u then 1 else -1)) &&& (1023 : Int32) = q_n (nx u a) := by
  have hm : ∀ b : Nat, b &&& 1023 = b % 1024 := fun b => Nat.and_two_pow_sub_one_eq_mod b 10
  unfold nx
  cases u
  · rw [if_neg (by decide), if_neg (by decide), show (-1 : Int32) = q_n 4294967295 by decide, q_nA, show (1023 : Int32) = q_n 1023 from rfl, q_and, hm, show (a + 4294967295) % 1024 = (a + 1023) % 1024 by omega]
  · rw [if_pos rfl, if_pos rfl, q_nS, show (1023 : Int32) = q_n 1023 from rfl, q_and, hm]
/-- so many steps, as long as the way is sure -/
def g_stp (K : LK) (w i : Nat) (u : Bool) : Nat → (Nat → Nat) → (Nat → Nat)
  | 0, pl => pl
  | n + 1, pl => if g_wy K (upl pl i (nx u (pl i))) w = 1 then g_stp K w i u n (upl pl i (nx u (pl i))) else pl
theorem upl_i : upl pl i k i = k := if_pos rfl
theorem upl_back {a : Nat} : upl (upl pl i a) i (pl i) = pl := by
  funext j; unfold upl; split
  · rename_i e; rw [e]
  · rfl
theorem sgn_b {n : Int32} : (if 0 ≤ n then (1 : Int32) else -1) = (if decide (0 ≤ n.toInt) then 1 else -1) := by
  by_cases h : 0 ≤ n
  · rw [if_pos h, if_pos (decide_eq_true (by rw [q_le, q_i0] at h; exact h))]
  · rw [if_neg h, if_neg (fun z => h (by rw [q_le, q_i0]; exact of_decide_eq_true z))]
theorem c_walk (hf : 2000 ≤ mpN P) (hL : LyL (mxA σ0) (mxR σ0) l) (hp : mpb P ≤ l) (hT : kT K) (h : CS M l K mk σ0 pl0 pl σ) (hi : i < 4) (hw : w < 256) (hn1 : -1023 ≤ n.toInt) (hn2 : n.toInt ≤ 1023) : Wp (f_X7_walk P l (q_n w) (q_n i) n σ) (CS M l K mk σ0 pl0 (g_stp K w i (decide (0 ≤ n.toInt)) n.toInt.natAbs pl)) := by
  have hD : ∀ u : Bool, u = decide (0 ≤ n.toInt) → Wp (f_X7_walk_D9 P l (q_n w) (q_n i) n (if u then 1 else -1) σ) (CS M l K mk σ0 pl0 (g_stp K w i u n.toInt.natAbs pl)) := by
    intro u hu
    unfold f_X7_walk_D9
    obtain ⟨r, er, hr⟩ := q_for (f_X7_walk_L14 P l (q_n w) (q_n i) n (if u then 1 else -1))
      (fun k x => x.1 = q_n k ∧ ∃ pl1, CS M l K mk σ0 pl0 pl1 x.2 ∧ g_stp K w i u n.toInt.natAbs pl = g_stp K w i u (n.toInt.natAbs - k) pl1)
      (fun r => (∃ τ pl1, r = .inl (q_n (pl1 i), τ) ∧ pl1 i < 1024 ∧ (∃ a, CS M l K mk σ0 pl0 (upl pl1 i a) τ) ∧ g_stp K w i u n.toInt.natAbs pl = pl1) ∨ (∃ τ, r = .inr τ ∧ CS M l K mk σ0 pl0 (g_stp K w i u n.toInt.natAbs pl) τ)) n.toInt.natAbs
      (by
        rintro k ⟨x, τ⟩ hk ⟨i1, pl1, i2, i3⟩
        dsimp only at i1 i2
        subst i1
        have hL' := CS_L i2 hL
        obtain ⟨⟨E1, wy1, hz1⟩, -, -⟩ := id i2
        have hpli := hz1.1.2.2.2.1 i hi
        suffices hww : Wp (f_X7_walk_B14 P l (q_n w) (q_n i) n (if u then 1 else -1) (q_n k) τ) (fun z => (∃ t', z = .inl t' ∧ t'.1 = q_n (k + 1) ∧ ∃ pl1, CS M l K mk σ0 pl0 pl1 t'.2 ∧ g_stp K w i u n.toInt.natAbs pl = g_stp K w i u (n.toInt.natAbs - (k + 1)) pl1) ∨ (∃ τ, z = .inr (.inl (q_n (pl1 i), τ)) ∧ (∃ a, CS M l K mk σ0 pl0 (upl pl1 i a) τ) ∧ g_stp K w i u n.toInt.natAbs pl = pl1)) by
          obtain ⟨z, ez, hz⟩ := hww
          rcases hz with ⟨t', rfl, hz⟩ | ⟨τ', rfl, hz⟩
          · exact Or.inl ⟨t', ez, hz⟩
          · exact Or.inr ⟨_, ez, Or.inl ⟨τ', pl1, rfl, hpli.2, hz⟩⟩
        unfold f_X7_walk_B14
        rw [k_abs, q_b2, k_absT (by omega), if_neg (by rw [q_nLe (by omega) (by omega)]; omega), bd (al_r4 hL'), bd (al_g4 hL' hi), hpli.1, bd (al_is hL'), nx_q]
        refine Wp_b (Wp_mo (cs_move (by omega) hL hp hT i2 hi (nx_lt u _)) ?_)
        intro τ1 h1
        have hL1 := CS_L h1 hL
        rw [bd (al_is hL1)]
        refine Wp_b2 (Wp_mo (cs_look true (by omega) hL hp hT h1 hw) ?_)
        rintro ⟨r, τ2⟩ ⟨j1, j2, j3, -, -⟩
        dsimp only at j1 j2 j3
        have es : n.toInt.natAbs - k = (n.toInt.natAbs - (k + 1)) + 1 := by omega
        rw [es, g_stp] at i3
        by_cases h0 : r = 0
        · rw [if_pos h0, bds, q_nS]
          rw [if_pos (j3.mp h0)] at i3
          exact Wp_s (Or.inl ⟨_, rfl, rfl, _, j1, i3⟩)
        · rw [if_neg h0]
          rw [if_neg (fun z => h0 (j3.mpr z))] at i3
          exact Wp_s (Or.inr ⟨_, rfl, ⟨_, j1⟩, i3⟩))
      (by
        rintro ⟨x, τ⟩ ⟨i1, pl1, i2, i3⟩
        dsimp only at i1 i2
        subst i1
        rw [Nat.sub_self] at i3
        refine ⟨.inr τ, ?_, Or.inr ⟨τ, rfl, by rw [i3]; exact i2⟩⟩
        show f_X7_walk_B14 P l (q_n w) (q_n i) n _ (q_n _) τ = _
        unfold f_X7_walk_B14
        rw [k_abs, q_b2, k_absT (by omega), if_pos (by rw [q_nLe (by omega) (by omega)]; omega)])
      n.toInt.natAbs 0 ((0 : Int32), σ) (mpN P) (by omega) ⟨rfl, pl, h, rfl⟩ (by omega)
    rw [bd er]
    rcases hr with ⟨τ, pl1, rfl, h1, ⟨a, h2⟩, h3⟩ | ⟨τ, rfl, h1⟩
    · show Wp ((mx_is τ l 7).bind _) _
      rw [bd (al_is (CS_L h2 hL))]
      refine Wp_b (Wp_mo (cs_move (by omega) hL hp hT h2 hi h1) ?_)
      intro τ2 h4
      rw [upl_back] at h4
      rw [h3]; exact Wp_s h4
    · exact Wp_s h1
  unfold f_X7_walk
  by_cases hs : 0 ≤ n
  · have hu : decide (0 ≤ n.toInt) = true := decide_eq_true (by rw [q_le, q_i0] at hs; exact hs)
    rw [if_pos hs, hu]; exact hD true hu.symm
  · have hu : decide (0 ≤ n.toInt) = false := decide_eq_false (fun z => hs (by rw [q_le, q_i0]; exact z))
    rw [if_neg hs, hu]; exact hD false hu.symm
theorem r_walk (hf : 2000 ≤ mpN P) (hM : LyM σ0 m) (hp : mpb P ≤ m) (hT : kT K) (h : RS m K σ0 pl σ) (hi : i < 4) (hw : w < 256) (hn1 : -1023 ≤ n.toInt) (hn2 : n.toInt ≤ 1023) (u : Bool) (hu : u = decide (0 ≤ n.toInt)) :
    Wp (f_X12_step_D63 P m (q_n w) (q_n i) n (if u then 1 else -1) σ) (fun r => RS m K σ0 (g_stp K w i u n.toInt.natAbs pl) r.2 ∧ r.1 = q_n ((g_stp K w i u n.toInt.natAbs pl) i)) := by
  have hby : (if u then (1 : Int32) else -1).toInt = if u then 1 else -1 := by cases u <;> decide
  unfold f_X12_step_D63
  obtain ⟨r, er, hr⟩ := q_for (f_X12_step_L68 P m (q_n w) (q_n i) n (if u then 1 else -1))
    (fun k x => x.1.toInt = (if u then (k : Int) else -(k : Int)) ∧ ∃ pl1, RS m K σ0 pl1 x.2 ∧ g_stp K w i u n.toInt.natAbs pl = g_stp K w i u (n.toInt.natAbs - k) pl1)
    (fun r => (∃ τ pl1, r = .inl (q_n (pl1 i), τ) ∧ pl1 i < 1024 ∧ (∃ a, RS m K σ0 (upl pl1 i a) τ) ∧ g_stp K w i u n.toInt.natAbs pl = pl1) ∨ (∃ τ, r = .inr τ ∧ RS m K σ0 (g_stp K w i u n.toInt.natAbs pl) τ)) n.toInt.natAbs
    (by
      rintro k ⟨x, τ⟩ hk ⟨i1, pl1, i2, i3⟩
      dsimp only at i1 i2
      have hM' := RS_M i2 hM
      have hpli := i2.1.2.2.2.1 i hi
      have hxn : x ≠ n := by
        intro e; rw [e] at i1
        cases u
        · have := of_decide_eq_false hu.symm
          simp at i1; omega
        · have := of_decide_eq_true hu.symm
          simp at i1; omega
      suffices hww : Wp (f_X12_step_B68 P m (q_n w) (q_n i) n (if u then 1 else -1) x τ) (fun z => (∃ t', z = .inl t' ∧ t'.1.toInt = (if u then ((k + 1 : Nat) : Int) else -((k + 1 : Nat) : Int)) ∧ ∃ pl1, RS m K σ0 pl1 t'.2 ∧ g_stp K w i u n.toInt.natAbs pl = g_stp K w i u (n.toInt.natAbs - (k + 1)) pl1) ∨ (∃ τ, z = .inr (.inl (q_n (pl1 i), τ)) ∧ (∃ a, RS m K σ0 (upl pl1 i a) τ) ∧ g_stp K w i u n.toInt.natAbs pl = pl1)) by
        obtain ⟨z, ez, hz⟩ := hww
        rcases hz with ⟨t', rfl, hz⟩ | ⟨τ', rfl, hz⟩
        · exact Or.inl ⟨t', ez, hz⟩
        · exact Or.inr ⟨_, ez, Or.inl ⟨τ', pl1, rfl, hpli.2, hz⟩⟩
      unfold f_X12_step_B68
      rw [if_neg hxn, bd (am_r34 hM'), bd (am_g34 hM' hi), hpli.1, bd (am_r34 hM'), nx_q]
      refine Wp_b (Wp_mo (rs_set hM hp hT i2 hi (nx_lt u _)) ?_)
      intro τ1 h1
      rw [bd (am_is (RS_M h1 hM))]
      refine Wp_b2 (Wp_mo (rs_work (by omega) hM hp hT h1 hw) ?_)
      rintro ⟨r, τ2⟩ ⟨j1, j2, -⟩
      dsimp only at j1 j2
      have es : n.toInt.natAbs - k = (n.toInt.natAbs - (k + 1)) + 1 := by omega
      rw [es, g_stp] at i3
      have hwy3 : g_wy K (upl pl1 i (nx u (pl1 i))) w ≤ 2 := by unfold g_wy; split <;> (try split) <;> omega
      by_cases h0 : g_wy K (upl pl1 i (nx u (pl1 i))) w = 1
      · rw [if_pos (by rw [j1, h0]; rfl), bds]
        rw [if_pos h0] at i3
        refine Wp_s (Or.inl ⟨_, rfl, ?_, _, j2, i3⟩)
        dsimp only
        rw [q_iadd (by rw [i1, hby]; split <;> omega) (by rw [i1, hby]; split <;> omega), i1, hby]
        split <;> omega
      · rw [if_neg (fun z => h0 (by rw [j1, show (1 : Int32) = q_n 1 from rfl, q_nI (by omega) (by omega)] at z; exact z))]
        rw [if_neg h0] at i3
        exact Wp_s (Or.inr ⟨_, rfl, ⟨_, j2⟩, i3⟩))
    (by
      rintro ⟨x, τ⟩ ⟨i1, pl1, i2, i3⟩
      dsimp only at i1 i2
      rw [Nat.sub_self] at i3
      have hxn : x = n := by
        rw [q_eq, i1]
        cases u
        · have := of_decide_eq_false hu.symm
          simp; omega
        · have := of_decide_eq_true hu.symm
          simp; omega
      refine ⟨.inr τ, ?_, Or.inr ⟨τ, rfl, by rw [i3]; exact i2⟩⟩
      show f_X12_step_B68 P m (q_n w) (q_n i) n _ x τ = _
      unfold f_X12_step_B68
      rw [if_pos hxn])
    n.toInt.natAbs 0 ((0 : Int32), σ) (mpN P) (by omega) ⟨by cases u <;> rfl, pl, h, rfl⟩ (by omega)
  rw [bd er]
  rcases hr with ⟨τ, pl1, rfl, h1, ⟨a, h2⟩, h3⟩ | ⟨τ, rfl, h1⟩
  · show Wp ((mg_R τ m 12 34).bind _) _
    rw [bd (am_r34 (RS_M h2 hM))]
    refine Wp_b (Wp_mo (rs_set hM hp hT h2 hi h1) ?_)
    intro τ2 h4
    rw [upl_back] at h4
    rw [h3]; exact Wp_s ⟨h4, rfl⟩
  · show Wp ((mg_R τ m 12 34).bind _) _
    have hM' := RS_M h1 hM
    rw [bd (am_r34 hM'), bd (am_g34 hM' hi), (h1.1.2.2.2.1 i hi).1]
    exact Wp_s ⟨h1, rfl⟩
end FHA
