/-! ===== gg: scratch boxes and the most may change; hulls and least numbers ===== -/
section GGS
variable {M M' : BV} {P : mx_P} {σ σ0 τ : mx_S} {l : Nat} {E E' : Nat → BV} {K : LK} {pl pl0 mk : Nat → Nat} {w wy p : Nat}
theorem okP_G (hL : LyL (mxA σ) (mxR σ) l) (hp : p < 40) (g : G σ l E' τ) (hE : ∀ q, q < l + 659 → E' q = E q) (h : okP σ E l K pl w p) : okP τ E' l K pl w p := by
  refine ⟨((g.2.2.2.1 _ _ (nb_j hL hp)).1).trans h.1, fun h3 => ⟨?_, fun hk h0 => ?_⟩⟩
  · rw [← (h.2 h3).1]; unfold eA; rw [hE _ (by omega), hE _ (by omega)]
  · rw [hE _ (by omega), hE _ (by omega)]; exact (h.2 h3).2 hk h0
theorem LZ_G (hL : LyL (mxA σ) (mxR σ) l) (hT : kT K) (h : LZ M l K pl mk E wy σ) (g : G σ l E' τ) (hE : ∀ q, q < l + 659 → E' q = E q) (hM : E' (l + 675) = M') : LZ M' l K pl mk E' wy τ := by
  have hn := hT.1
  obtain ⟨hC, hl, hE0, h6, hwy, hF⟩ := h
  have hl2 := (LL_of hl g).1
  refine ⟨CF_of hL hT hC hl2, LL_rb hl2, ⟨⟨hM, fun i hi => ?_⟩, fun p hp => ⟨fun hk => ?_, fun hk hk5 => ?_, fun hk => ?_⟩⟩, ((g.2.2.2.1 _ _ (nb_o hL)).1).trans h6, hwy, fun p hp => ?_⟩
  · rw [← hE0.1.2 i hi]; unfold eM; rw [hE _ (by omega), hE _ (by omega)]
  · rw [hE _ (by omega)]; exact (hE0.2 p hp).1 hk
  · rw [hE _ (by omega)]; exact (hE0.2 p hp).2.1 hk hk5
  · rw [hE _ (by omega), hE _ (by omega)]; exact (hE0.2 p hp).2.2 hk
  · have hp4 : p < 40 := by omega
    rw [(g.2.2.2.1 _ 16 (nb_j hL hp4)).1]
    exact ⟨(hF p hp).1, fun z => okP_G hL hp4 g hE ((hF p hp).2 z)⟩
theorem CFr_G (h : CFr l σ0 σ) (g : G σ l E' τ) : CFr l σ0 τ :=
  h.tr ⟨g.1, g.2.1, g.2.2.1, fun q j c1 _ _ _ => (g.2.2.2.1 q j c1).1, fun q j c1 => (g.2.2.2.1 q j c1).2⟩
theorem CS_G (hL : LyL (mxA σ0) (mxR σ0) l) (hT : kT K) (h : CS M l K mk σ0 pl0 pl σ) (hz : LZ M l K pl mk E wy σ) (g : G σ l E' τ) (hE : ∀ q, q < l + 659 → E' q = E q) (hM : E' (l + 675) = M') : CS M' l K mk σ0 pl0 pl τ := by
  have hL' := CS_L h hL
  refine ⟨⟨E', wy, LZ_G hL' hT hz g hE hM⟩, CFr_G h.2.1 g, ?_⟩
  rw [(g.2.2.2.1 _ 10 (nb_o hL')).1]; exact h.2.2
/-- the hull of what was kept and of a new box -/
def b_hull : BV → BV → BV
  | none, a => a
  | some x, none => some x
  | some x, some y => some (min x.1 y.1, max x.2 y.2)
/-- the least numbers -/
def b_lst : BV → BV → BV
  | none, a => a
  | some x, none => some x
  | some x, some y => some (min x.1 y.1, min x.2 y.2)
/-- over the places below n where it is sure -/
def g_fold (f : BV → BV → BV) (s : Nat → Bool) (V : Nat → BV) : Nat → BV
  | 0 => none
  | n + 1 => if s n then f (g_fold f s V n) (V n) else g_fold f s V n
end GGS
