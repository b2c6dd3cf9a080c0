/-! ===== fj: range of the reference; cells beside a linkage ===== -/
section FJA
variable {M : BV} {P : mx_P} {σ σ0 σ1 σ' : mx_S} {l m : Nat} {E : Nat → BV} {K : LK} {pl pl0 pl' mk : Nat → Nat} {w wy p i k : Nat} {n : Int32}
theorem rng_eq {B k : Nat} {F v : Int32} {c d : Bool} {τ : mx_S} (hk : k < 1024) (h1 : mxI τ (m + 35) k = bI c) (h2 : mxI τ (m + 35) ((k + 1023) % 1024) = bI d) (hM : LyM τ m) : f_X12_range_B82 P m v (q_n B) F (q_n k) τ = some (.inl (q_n (B + if c && !d then 1 else 0), (if c && !d then (if 0 ≤ F then F else q_n k) else F), q_n (k + 1), τ)) := by
  have n1 : ¬ (1 : Int32) = 0 := by decide
  have hm : (q_n k + (1023 : Int32)) &&& (1023 : Int32) = q_n ((k + 1023) % 1024) := by
    rw [show (1023 : Int32) = q_n 1023 from rfl, q_nA, q_and, show (k + 1023) &&& 1023 = (k + 1023) % 1024 from Nat.and_two_pow_sub_one_eq_mod _ 10]
  have hlt : (k + 1023) % 1024 < 1024 := Nat.mod_lt _ (by omega)
  unfold f_X12_range_B82 f_X12_range_D133_82
  rw [if_neg (by rw [show (1024 : Int32) = q_n 1024 from rfl, q_nLe (by omega) (by omega)]; omega), bd (am_r56 hM), bd (am_g56 hM hk), h1, bd (am_r56 hM), hm, bd (am_g56 hM hlt), h2, bds, bds, q_nS, q_nS]
  cases c
  · rw [if_pos (show bI false = 0 from rfl)]; rfl
  · rw [if_neg (show ¬ bI true = 0 by decide)]
    cases d
    · rw [if_pos (show bI false = 0 from rfl), bds, bds]
      by_cases hF : 0 ≤ F
      · rw [if_pos hF, if_pos hF]; rfl
      · rw [if_neg hF, if_neg hF]; rfl
    · rw [if_neg (show ¬ bI true = 0 by decide)]; rfl
theorem r_rngl {N : Nat} (hN : N = 1024) {s : Nat → Bool} {v : Int32} (hf : 2000 ≤ mpN P) (hM : LyM σ m) (hs : ∀ k, k < 1024 → mxI σ (m + 35) k = bI (s k)) : mx_lp (f_X12_range_L82 P m v) (mpN P) ((0 : Int32), (-1 : Int32), (0 : Int32), σ) = some (q_n (r_cnt (r_beg s) N), r_fI (r_fst (r_beg s) N), σ) := by
  obtain ⟨r, er, rfl⟩ := q_for (f_X12_range_L82 P m v)
    (fun k x => x = (q_n (r_cnt (r_beg s) k), r_fI (r_fst (r_beg s) k), q_n k, σ))
    (fun r => r = (q_n (r_cnt (r_beg s) N), r_fI (r_fst (r_beg s) N), σ)) N
    (by
      rintro k _ hk rfl
      left
      refine ⟨_, rng_eq (by omega) (hs k (by omega)) (hs _ (Nat.mod_lt _ (by omega))) hM, ?_⟩
      rw [fI_S (by omega), r_cnt]; rfl)
    (by
      rintro _ rfl
      refine ⟨_, ?_, rfl⟩
      show f_X12_range_B82 P m v _ _ (q_n N) σ = _
      unfold f_X12_range_B82
      rw [if_pos (by rw [hN]; decide)])
    N 0 _ (mpN P) (by omega) rfl (by omega)
  exact er
/-- the mark of throws is set, and all begins anew there -/
theorem rs_th {x : Int32} (hT : kT K) (h : RS m K σ0 pl σ) : RS m K (mx_setI σ m 0 x) pl (mx_setI σ m 0 x) := by
  obtain ⟨hK, ⟨E, hE⟩, hF⟩ := h
  have e : ∀ q j, q ≠ m → mxI (mx_setI σ m 0 x) q j = mxI σ q j := fun q j hq => by rw [q_II, if_neg (fun z => hq z.1)]
  refine ⟨?_, ⟨E, fun d hd => by rw [rr_sI (by omega)]; exact hE d hd⟩, RFr.rf⟩
  obtain ⟨a1, a2, a3, a4, a5⟩ := hK
  refine ⟨by rw [q_II, if_neg (by omega)]; exact a1, by rw [q_II, if_neg (by omega)]; exact a2, fun i hi => by rw [e _ _ (by omega)]; exact a3 i hi, fun i hi => by rw [e _ _ (by omega)]; exact a4 i hi, fun p hpp => ?_⟩
  obtain ⟨c1, c2, c3, c4, c5, c6⟩ := a5 p hpp
  refine ⟨by rw [e _ _ (by omega)]; exact c1, fun j hj => by rw [e _ _ (by omega)]; exact c2 j hj, c3, c4, fun hk => ?_, fun hk => by rw [e _ _ (by omega)]; exact c6 hk⟩
  rw [e _ _ (by omega), e _ _ (by omega), e _ _ (by omega)]; exact c5 hk
theorem r_range (hf : 2000 ≤ mpN P) (hM : LyM σ m) (hp : mpb P ≤ m) (hT : kT K) (h : RS m K σ pl σ) (hi : i < 4) (hw : w < 256) (what : Int32) {N : Nat} (hN : N = 1024) : Wp (f_X12_range_D27 P m (q_n w) (q_n i) what 0 m σ) (fun r => r.1 = g_rng N (g_sr K pl w i) what ∧ RS m K (mx_setI σ m 0 0) pl r.2) := by
  have h1 := rs_th (x := 0) hT h
  have hM1 : LyM (mx_setI σ m 0 0) m := hM
  unfold f_X12_range_D27 f_X12_range_D72 f_X12_range_D151
  rw [bd (am_pI hM hp _), bd (am_gI hM1), show mxI (mx_setI σ m 0 0) m 0 = 0 from if_pos ⟨rfl, rfl⟩, if_pos (by decide), bd (am_is hM1)]
  refine Wp_b2 (Wp_mo (r_sweep hf hM1 hp hT h1 hi hw hN) ?_)
  rintro ⟨r, τ⟩ ⟨k1, k2, k3⟩
  dsimp only at k1 k2 k3
  have hc := r_cnt_le (g_sr K pl w i) N
  subst k1
  unfold g_rng
  by_cases e0 : what = 0
  · rw [if_pos e0, if_pos e0]; exact Wp_s ⟨rfl, k2⟩
  · rw [if_neg e0, if_neg e0]
    by_cases e1 : r_cnt (g_sr K pl w i) N = N
    · rw [if_pos (by rw [e1, hN]; rfl), if_pos e1]
      by_cases e2 : what = 1
      · rw [if_pos e2, if_pos e2]; exact Wp_s ⟨rfl, k2⟩
      · rw [if_neg e2, if_neg e2]; exact Wp_s ⟨rfl, k2⟩
    · rw [if_neg (fun z => e1 (by rw [show (1024 : Int32) = q_n 1024 from rfl, q_nI (by omega) (by omega)] at z; omega)), if_neg e1]
      rw [bd (r_rngl hN (s := g_sr K pl w i) hf (RS_M k2 hM1) k3)]
      dsimp only
      by_cases e2 : what = 1
      · rw [if_pos e2, if_pos e2]; exact Wp_s ⟨rfl, k2⟩
      · rw [if_neg e2, if_neg e2]; exact Wp_s ⟨rfl, k2⟩
/-- the cells that don't say how a linkage hangs -/
def Lf (l q j : Nat) : Prop := (q = l ∧ (j = 9 ∨ j = 10)) ∨ q = l + 657 ∨ q = l + 658 ∨ ∃ p, p < 40 ∧ q = l + 2 + 16 * p ∧ 17 ≤ j
theorem CF_cg (hL : LyL (mxA σ) (mxR σ) l) (hT : kT K) (h : CF σ l K pl mk) (hI : ∀ q j, ¬ bx σ l q → ¬ Lc l q j → ¬ Lf l q j → mxI σ' q j = mxI σ q j) : CF σ' l K pl mk := by
  have hn := hT.1
  obtain ⟨a1, a2, a3, a4, a5⟩ := h
  have nl : ∀ j, j ≠ 6 → j ≠ 9 → j ≠ 10 → ¬ Lc l l j ∧ ¬ Lf l l j := by
    intro j h6 h9 h10
    constructor
    · rintro (⟨p, h1, h2, h3⟩ | ⟨h1, h2⟩) <;> omega
    · rintro (⟨h1, h2⟩ | h1 | h1 | ⟨p, h1, h2, h3⟩) <;> omega
  have nj : ∀ p j, j < 15 → p < 40 → ¬ Lc l (l + 2 + 16 * p) j ∧ ¬ Lf l (l + 2 + 16 * p) j := by
    intro p j hj hp
    constructor
    · rintro (⟨p', h1, h2, h3⟩ | ⟨h1, h2⟩) <;> omega
    · rintro (⟨h1, h2⟩ | h1 | h1 | ⟨p', h1, h2, h3⟩) <;> omega
  have n1 : ∀ p j, p < 40 → ¬ Lc l (l + 2 + 16 * p + 1) j ∧ ¬ Lf l (l + 2 + 16 * p + 1) j := by
    intro p j hp
    constructor
    · rintro (⟨p', h1, h2, h3⟩ | ⟨h1, h2⟩) <;> omega
    · rintro (⟨h1, h2⟩ | h1 | h1 | ⟨p', h1, h2, h3⟩) <;> omega
  have n2 : ∀ j, ¬ Lc l (l + 642) j ∧ ¬ Lf l (l + 642) j := by
    intro j
    constructor
    · rintro (⟨p', h1, h2, h3⟩ | ⟨h1, h2⟩) <;> omega
    · rintro (⟨h1, h2⟩ | h1 | h1 | ⟨p', h1, h2, h3⟩) <;> omega
  have n3 : ∀ j, ¬ Lc l (l + 643) j ∧ ¬ Lf l (l + 643) j := by
    intro j
    constructor
    · rintro (⟨p', h1, h2, h3⟩ | ⟨h1, h2⟩) <;> omega
    · rintro (⟨h1, h2⟩ | h1 | h1 | ⟨p', h1, h2, h3⟩) <;> omega
  have e : ∀ q j, ¬ bx σ l q → ¬ Lc l q j ∧ ¬ Lf l q j → mxI σ' q j = mxI σ q j := fun q j hb hc => hI q j hb hc.1 hc.2
  refine ⟨?_, ?_, fun i hi => ?_, fun i hi => ?_, fun p hp => ?_⟩
  · rw [e _ _ (nb_o hL) (nl 2 (by omega) (by omega) (by omega))]; exact a1
  · rw [e _ _ (nb_o hL) (nl 3 (by omega) (by omega) (by omega))]; exact a2
  · rw [e _ _ (nb_q hL) (n2 i)]; exact a3 i hi
  · rw [e _ _ (nb_p hL) (n3 i)]; exact a4 i hi
  · have hp4 : p < 40 := by omega
    have hj := nb_j hL hp4
    obtain ⟨c1, c2, c3, c4, c5, c6, c7, c8⟩ := a5 p hp
    refine ⟨?_, ?_, fun j hjj => ?_, fun hk => ?_, fun hk => ?_, ?_, c7, c8⟩
    · rw [e _ _ hj (nj p 1 (by omega) hp4)]; exact c1
    · rw [e _ _ hj (nj p 3 (by omega) hp4)]; exact c2
    · rw [e _ _ (nb_n hL hp4) (n1 p j hp4)]; exact c3 j hjj
    · rw [e _ _ hj (nj p 4 (by omega) hp4), e _ _ hj (nj p 5 (by omega) hp4)]; exact c4 hk
    · rw [e _ _ hj (nj p 7 (by omega) hp4), e _ _ hj (nj p 6 (by omega) hp4)]; exact c5 hk
    · rw [e _ _ hj (nj p 8 (by omega) hp4)]; exact c6
theorem LZ_set {q j : Nat} {x : Int32} (hL : LyL (mxA σ) (mxR σ) l) (hT : kT K) (h : LZ M l K pl mk E wy σ) (hq : Lf l q j) (hb : ¬ bx σ l q) : LZ M l K pl mk E wy (mx_setI σ q j x) := by
  have hn := hT.1
  obtain ⟨hC, hl, hE, h6, hwy, hF⟩ := h
  have nL : ¬ Lc l q j := by
    rintro (⟨p, h1, h2, h3⟩ | ⟨h1, h2⟩)
    · rcases hq with ⟨g1, g2⟩ | g1 | g1 | ⟨p', g1, g2, g3⟩ <;> omega
    · rcases hq with ⟨g1, g2⟩ | g1 | g1 | ⟨p', g1, g2, g3⟩ <;> omega
  have cell : ∀ q' j', Lc l q' j' → mxI (mx_setI σ q j x) q' j' = mxI σ q' j' := fun q' j' h' => by
    rw [q_II, if_neg]; rintro ⟨rfl, rfl⟩; exact nL h'
  refine ⟨CF_cg hL hT hC fun q' j' c1 c2 c3 => by rw [q_II, if_neg]; rintro ⟨rfl, rfl⟩; exact c3 hq, ⟨rfl, rfl, ⟨rfl, rfl⟩, fun _ _ _ _ => rfl, fun _ _ _ => rfl, fun q' hq' => ?_⟩, hE, by rw [cell _ _ (Or.inr ⟨rfl, rfl⟩)]; exact h6, hwy, fun p hp => ?_⟩
  · have hq' : bx σ l q' := hq'
    have hne : q' ≠ q := fun z => hb (z ▸ hq')
    have : rd (mx_setI σ q j x) q' = rd σ q' := by unfold rd; rw [q_II, if_neg (fun z => hne z.1)]; rfl
    rw [this]; exact hl.2.2.2.2.2 q' hq'
  · have hp4 : p < 40 := by omega
    have e15 := cell (l + 2 + 16 * p) 15 (Or.inl ⟨p, hp4, rfl, Or.inl rfl⟩)
    have e16 := cell (l + 2 + 16 * p) 16 (Or.inl ⟨p, hp4, rfl, Or.inr rfl⟩)
    rw [e16]
    exact ⟨(hF p hp).1, fun z => ⟨e15.trans ((hF p hp).2 z).1, ((hF p hp).2 z).2⟩⟩
end FJA
