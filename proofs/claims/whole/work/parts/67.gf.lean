/-! ===== gf: the reference's way ===== -/
section GFS
variable {P : mx_P} {σ σ0 : mx_S} {m : Nat} {K : LK} {pl : Nat → Nat} {k : Nat}
theorem wl_pre : ∀ d, ∃ t, g_wl K pl (k + d) = g_wl K pl k ++ t
  | 0 => ⟨[], by rw [List.append_nil]; rfl⟩
  | d + 1 => by
    obtain ⟨t, h⟩ := wl_pre d
    exact ⟨t ++ (if g_wy K pl (k + d) = 0 then [] else [(k + d, g_wy K pl (k + d) == 1)]), by rw [← List.append_assoc, ← h]; rfl⟩
theorem wl_at {N : Nat} (hk : k < N) (h0 : g_wy K pl k ≠ 0) : (g_wl K pl N)[(g_wl K pl k).length]? = some (k, g_wy K pl k == 1) := by
  obtain ⟨t, h⟩ := wl_pre (K := K) (pl := pl) (k := k + 1) (N - (k + 1))
  rw [show k + 1 + (N - (k + 1)) = N by omega] at h
  rw [h, g_wl, if_neg h0, List.append_assoc, List.getElem?_append_right (Nat.le_refl _), Nat.sub_self]; rfl
theorem r_wayl {N : Nat} (hN : N = 2 ^ kB K) (hf : 2000 ≤ mpN P) (hM : LyM σ0 m) (hp : mpb P ≤ m) (hT : kT K) (h : RS m K σ0 pl σ) (j what : Int32) : Wp (mx_lp (f_X12_way_L33 P m j what) (mpN P) ((0 : Int32), (0 : Int32), σ)) (fun r => (∃ i e τ, r = .inl (q_n e.1, (if e.2 then 1 else 2), τ) ∧ j = q_n i ∧ (g_wl K pl N)[i]? = some e ∧ RS m K σ0 pl τ) ∨ (∃ τ, r = .inr τ ∧ (∀ i, i < (g_wl K pl N).length → q_n i ≠ j) ∧ RS m K σ0 pl τ)) := by
  have hb8 := hT.2.1
  have hN2 : N ≤ 256 := by rw [hN]; exact p256 hb8
  obtain ⟨r, er, hr⟩ := q_for (f_X12_way_L33 P m j what)
    (fun k x => x.1 = q_n (g_wl K pl k).length ∧ x.2.1 = q_n k ∧ RS m K σ0 pl x.2.2 ∧ ∀ i, i < (g_wl K pl k).length → q_n i ≠ j)
    (fun r => (∃ i e τ, r = .inl (q_n e.1, (if e.2 then 1 else 2), τ) ∧ j = q_n i ∧ (g_wl K pl N)[i]? = some e ∧ RS m K σ0 pl τ) ∨ (∃ τ, r = .inr τ ∧ (∀ i, i < (g_wl K pl N).length → q_n i ≠ j) ∧ RS m K σ0 pl τ)) N
    (by
      rintro k ⟨x, y, τ⟩ hk ⟨i1, i2, i3, i4⟩
      dsimp only at i1 i2 i3 i4
      subst i1; subst i2
      have hM' := RS_M i3 hM
      suffices hww : Wp (f_X12_way_B33 P m j what (q_n (g_wl K pl k).length) (q_n k) τ) (fun z => (∃ t', z = .inl t' ∧ t'.1 = q_n (g_wl K pl (k + 1)).length ∧ t'.2.1 = q_n (k + 1) ∧ RS m K σ0 pl t'.2.2 ∧ ∀ i, i < (g_wl K pl (k + 1)).length → q_n i ≠ j) ∨ (∃ e τ, z = .inr (.inl (q_n e.1, (if e.2 then 1 else 2), τ)) ∧ j = q_n (g_wl K pl k).length ∧ (g_wl K pl N)[(g_wl K pl k).length]? = some e ∧ RS m K σ0 pl τ)) by
        obtain ⟨z, ez, hz⟩ := hww
        rcases hz with ⟨t', rfl, hz⟩ | ⟨e, τ', rfl, hz⟩
        · exact Or.inl ⟨t', ez, hz⟩
        · exact Or.inr ⟨_, ez, Or.inl ⟨_, e, τ', rfl, hz⟩⟩
      unfold f_X12_way_B33 f_X12_way_D89_33
      rw [bd (am_gI hM'), i3.1.2.1, q_sh1 ⟨kB K, by omega⟩, if_neg (by dsimp only; rw [← hN, q_nLe (by omega) (by omega)]; omega), bd (am_is hM')]
      refine Wp_b2 (Wp_mo (rs_work (by omega) hM hp hT i3 (show k < 256 by omega)) ?_)
      rintro ⟨r, τ2⟩ ⟨j1, j2, -⟩
      dsimp only at j1 j2
      have hwy3 : g_wy K pl k ≤ 2 := by unfold g_wy; split <;> (try split) <;> omega
      subst j1
      dsimp only
      have hlen := wl_len (K := K) (pl := pl) k
      by_cases h0 : g_wy K pl k = 0
      · rw [if_pos (by rw [h0]; rfl), bds, q_nS]
        refine Wp_s (Or.inl ⟨_, rfl, ?_, rfl, j2, ?_⟩)
        · rw [g_wl, if_pos h0, List.append_nil]
        · rw [g_wl, if_pos h0, List.append_nil]; exact i4
      · rw [if_neg (fun z => h0 (by rw [q_n0, q_nI (by omega) (by omega)] at z; exact z))]
        by_cases hj : q_n (g_wl K pl k).length = j
        · rw [if_pos hj]
          refine Wp_s (Or.inr ⟨_, τ2, ?_, hj.symm, wl_at hk h0, j2⟩)
          have hc : g_wy K pl k = 1 ∨ g_wy K pl k = 2 := by omega
          rcases hc with hc | hc <;> rw [hc] <;> rfl
        · rw [if_neg hj, bds, bds, q_nS, q_nS]
          refine Wp_s (Or.inl ⟨_, rfl, ?_, rfl, j2, fun i hi => ?_⟩)
          · rw [g_wl, if_neg h0, List.length_append]; rfl
          · rw [g_wl, if_neg h0, List.length_append] at hi
            have hi : i < (g_wl K pl k).length + 1 := hi
            by_cases e : i = (g_wl K pl k).length
            · rw [e]; exact hj
            · exact i4 i (by omega))
    (by
      rintro ⟨x, y, τ⟩ ⟨i1, i2, i3, i4⟩
      dsimp only at i1 i2 i3 i4
      subst i1; subst i2
      refine ⟨.inr τ, ?_, Or.inr ⟨τ, rfl, i4, i3⟩⟩
      show f_X12_way_B33 P m j what _ (q_n N) τ = _
      unfold f_X12_way_B33
      rw [bd (am_gI (RS_M i3 hM)), i3.1.2.1, q_sh1 ⟨kB K, by omega⟩, if_pos (by dsimp only; rw [← hN, q_nLe (by omega) (by omega)]; omega)])
    N 0 ((0 : Int32), (0 : Int32), σ) (mpN P) (by omega) ⟨rfl, rfl, h, fun i hi => absurd hi (Nat.not_lt_zero i)⟩ (by omega)
  exact ⟨r, er, hr⟩
end GFS
