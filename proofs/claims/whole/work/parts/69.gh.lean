/-! ===== gh: the class offers to the most ===== -/
section GHS
variable {M M' : BV} {P : mx_P} {σ σ0 τ : mx_S} {l a : Nat} {E E' : Nat → BV}
theorem b_mkn {x y : Int} (h1 : -2147483648 ≤ x) (h2 : y ≤ 2147483648) : b_mk x y = some (x, y) := if_neg (by omega)
theorem G_self {t : Nat} {v : BV} (g : G σ0 l E σ) (h : v = E t) : G σ0 l (up E t v) σ := by
  refine ⟨g.1, g.2.1, g.2.2.1, g.2.2.2.1, fun q hq => ?_⟩
  by_cases e : q = t
  · subst e; rw [up_e, h]; exact g.2.2.2.2 q hq
  · rw [up_n e]; exact g.2.2.2.2 q hq
theorem c_offer (g : G σ0 l E σ) (hL : LyL (mxA σ0) (mxR σ0) l) (hp : mpb P ≤ l) : Wp (f_X7_offerLeast P l σ) (G σ0 l (up E (l + 675) (b_lst (E (l + 675)) (E (l + 671))))) := by
  have hL' : LyL (mxA σ) (mxR σ) l := by rw [g.1, g.2.1]; exact hL
  have aN := LyL_a15 hL'
  have aT := LyL_a19 hL'
  have rN : mg_R σ l 7 15 = some (l + 671) := (q_gR (LyL_o hL')).trans (LyL_r15 hL')
  have rT : mg_R σ l 7 19 = some (l + 675) := (q_gR (LyL_o hL')).trans (LyL_r19 hL')
  have bN : bx σ0 l (l + 671) := ⟨by omega, by omega, LyL_a15 hL⟩
  have bT : bx σ0 l (l + 675) := ⟨by omega, by omega, LyL_a19 hL⟩
  have vN := g.2.2.2.2 _ bN
  have vT := g.2.2.2.2 _ bT
  unfold f_X7_offerLeast f_X7_offerLeast_D54 f_X7_offerLeast_D85
  rw [bd rN, bd (q_gI aN)]
  rcases RB_o vN with ⟨n0, en, n1, n2, n3⟩ | ⟨n0, en⟩
  · rw [if_pos n0, bd rT, bd (q_gI aT), bd rT, en]
    rcases RB_o vT with ⟨t0, et, t1, t2, t3⟩ | ⟨t0, et⟩
    · rw [if_pos t0, bd rT, bd (q_gL aT), bd rN, bd (q_gL aN), bd2 (j_minL P _ _ _), if_pos t0, bd rT, bd (q_gL aT), bd rN, bd (q_gL aN), bd2 (j_minL P _ _ _), bd (q_is aT), bd (k_kp aT (by omega) _ _), et]
      refine Wp_s (G_bs g bT (RB_eq (RB_keep' (bq_min _ _) (bq_min _ _) (by omega)) ?_))
      rw [b_mkn (by omega) (by omega)]; rfl
    · rw [if_neg t0, bd rN, bd (q_gL aN), if_neg t0, bd rN, bd (q_gL aN), bd (q_is aT), bd (k_kp aT (by omega) _ _), et]
      refine Wp_s (G_bs g bT (RB_eq (RB_keep n2) ?_))
      rw [b_mkn n1 n3]; rfl
  · rw [if_neg n0]
    refine Wp_s (G_self g ?_)
    rw [en]; cases E (l + 675) <;> rfl
end GHS
