/-! ===== gi: sure places; the class's sweep ===== -/
section GIS
variable {M M' : BV} {P : mx_P} {σ σ0 τ : mx_S} {l a : Nat} {E E' : Nat → BV} {K : LK} {pl pl0 mk : Nat → Nat} {w wy p i : Nat}
theorem wy1 (hT : kT K) (h : g_wy K pl w = 1) (hp : p < kN K) : (s_S K pl w p).1 = 0 ∧ v_open (s_S K pl w p).2 = false := by
  have h0 : (s_S K pl w p).1 = 0 := by
    obtain ⟨i, hi, rfl⟩ := hT.2.2.2.2 p hp
    by_cases c : g_any K pl w (· != 0) (kN K) = true
    · unfold g_wy at h; rw [c] at h; split at h <;> simp at h
    · by_cases e : (s_S K pl w (kQ K i)).1 = 0
      · exact e
      · exact absurd (any_t.mpr ⟨i, hi, by simpa using e⟩) c
  refine ⟨h0, ?_⟩
  rw [s_fx hT hp] at h0 ⊢
  unfold s_pt at h0 ⊢
  dsimp only at h0 ⊢
  rw [v_N_open]
  unfold g_st at h0
  split at h0
  · omega
  · split at h0
    · omega
    · rename_i c; simpa using c
theorem c_swb {k : Int32} (g : G σ0 l E σ) (hL : LyL (mxA σ0) (mxR σ0) l) (hp : mpb P ≤ l) (hb : bx σ0 l a) (hA : E a ≠ none) (v1 v2 v5 : Int32) (x35 : Int32) (hx : x35 = mxI σ (l + 675) 2) :
    Wp (if x35 = 0 then (mg_R σ l 7 19).bind fun b40 => (mg_L σ b40 0 0).bind fun x42 => (mg_L σ a 0 0).bind fun x44 => mx_b2 (f_J9_min_f86c9 P x42 x44 σ) fun x47 σ46 => f_X7_sweep_D117_52 P l v1 v2 v5 a k x35 x47 (l + 675) σ46 else (mg_L σ a 0 0).bind fun x65 => f_X7_sweep_D117_52 P l v1 v2 v5 a k x35 x65 (l + 675) σ) (fun z => ∃ τ, z = .inl (k + 1, τ) ∧ G σ0 l (up E (l + 675) (b_hull (E (l + 675)) (E a))) τ) := by
  have hL' : LyL (mxA σ) (mxR σ) l := by rw [g.1, g.2.1]; exact hL
  have aA : mxA σ a = some (.inl 0) := by rw [g.1]; exact hb.2.2
  have aT := LyL_a19 hL'
  have rT : mg_R σ l 7 19 = some (l + 675) := (q_gR (LyL_o hL')).trans (LyL_r19 hL')
  have bT : bx σ0 l (l + 675) := ⟨by omega, by omega, LyL_a19 hL⟩
  have vA := g.2.2.2.2 _ hb
  have vT := g.2.2.2.2 _ bT
  subst hx
  unfold f_X7_sweep_D117_52 f_X7_sweep_D145_52 f_X7_sweep_D148_52
  rcases RB_o vA with ⟨n0, en, n1, n2, n3⟩ | ⟨n0, en⟩
  · rw [en]
    rcases RB_o vT with ⟨t0, et, t1, t2, t3⟩ | ⟨t0, et⟩
    · rw [if_pos t0, bd rT, bd (q_gL aT), bd (q_gL aA), bd2 (j_minL P _ _ _), if_pos t0, bd rT, bd (q_gL aT), bd (q_gL aA), bd2 (j_maxL P _ _ _), bd (q_is aT), bd (k_kp aT (by omega) _ _), et]
      refine Wp_s ⟨_, rfl, G_bs g bT (RB_eq (RB_keep' (bq_min _ _) (bq_max _ _) (by omega)) ?_)⟩
      rw [b_mkn (by omega) (by omega)]; rfl
    · rw [if_neg t0, bd (q_gL aA), if_neg t0, bd (q_gL aA), bd (q_is aT), bd (k_kp aT (by omega) _ _), et]
      refine Wp_s ⟨_, rfl, G_bs g bT (RB_eq (RB_keep n2) ?_)⟩
      rw [b_mkn n1 n3]; rfl
  · exact absurd en hA
end GIS
