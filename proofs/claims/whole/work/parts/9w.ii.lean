/-! ===== ii: the class's isRead, its pieces ===== -/
section IIS
variable {P : mx_P} {σ σ0 σ1 σ2 τ : mx_S} {x m n t l p a N i k j u K c r : Nat} {bl : List Nat} {E E' : Nat → BV} {M : BV} {pl mk : Nat → Nat} {o : List Nat} {v : Int64}
/-- where a point is told -/
theorem c_pot (hN : N = 4000) (hf : 5000 ≤ mpN P) (hT : LyT σ t) (hb : mpb P ≤ t) (hC : TC σ t bl) (hX : ∀ j, j < K → ∃ k n, StO bl N 0 (sqA bl N 0 j) k n) (hK : K < 2000) (hp : p < K) : ∃ τ, f_X7_placeOfTeller P t (q_n p) σ = some (q_n (tkT bl N p 0), τ) ∧ Fz (hsS t) σ τ := by
  have hsq := sqA_b hX
  obtain ⟨σ1, e1⟩ : ∃ σ1, σ1 = mx_setI σ t 4 0 := ⟨_, rfl⟩
  have f1 : Fz (hsS t) σ σ1 := by rw [e1]; exact Fz.rf.sI (Or.inl ⟨rfl, by omega, by omega⟩) _
  have hr : f_X10_rewind P t σ = some σ1 := by
    unfold f_X10_rewind
    rw [bd (at_pI hT hb _), e1]
  obtain ⟨τ, e, f, h⟩ := q_for (f_X7_placeOfTeller_L6 P t (q_n p))
    (fun k s => s.1 = q_n k ∧ Fz (hsS t) σ s.2 ∧ mxI s.2 t 4 = q_n (sqA bl N 0 k) ∧ ∀ u, k = u + 1 → mxI s.2 (t + 3) 0 = q_n (tkT bl N u 0))
    (fun τ => Fz (hsS t) σ τ ∧ mxI τ (t + 3) 0 = q_n (tkT bl N p 0)) (p + 1)
    (by
      rintro k ⟨w, τ⟩ hk ⟨i1, f, i4, -⟩
      dsimp only at i1 f i4
      subst i1
      left
      have hT' := f.T hT
      have hC' : TC τ t bl := TC_cg hC (f.2.2.2 _ _ (fun z => by unfold hsS at z; omega)).1 (fun q => (f.2.2.2 _ _ (fun z => by unfold hsS at z; omega)).1)
      obtain ⟨r, τ1, e1, hr⟩ := c_stm (P := P) (i := 0) hN (by omega) hf hT' hb hC' i4 (hsq k (by omega)).2
      show ∃ t', f_X7_placeOfTeller_B6 P t (q_n p) (q_n k) τ = some (.inl t') ∧ _
      unfold f_X7_placeOfTeller_B6
      rw [if_neg (by rw [q_nLt (by omega) (by omega)]; omega), bd (at_is hT'), bd2 e1, bds, q_nS]
      obtain ⟨k', n', ho⟩ := hX k (by omega)
      rcases hr with ⟨hEn, -⟩ | ⟨q, hFa, -⟩ | ⟨k2, n2, hO, -, f2, a4, a10, a11, a12, aP⟩
      · exact absurd hEn (StO_E ho)
      · exact absurd hFa (StO_F ho)
      · refine ⟨_, rfl, rfl, f.tr f2, ?_, fun u hu => ?_⟩
        · show mxI τ1 t 4 = _
          rw [a4, sqA, nxA_e hO]
        · have : k = u := by omega
          subst this
          exact (aP 0 (StO_n (by omega) hO)).2.1)
    (by
      rintro ⟨w, τ⟩ ⟨i1, f, i4, i5⟩
      dsimp only at i1 f i4 i5
      subst i1
      refine ⟨τ, ?_, f, i5 p rfl⟩
      show f_X7_placeOfTeller_B6 P t (q_n p) (q_n (p + 1)) τ = _
      unfold f_X7_placeOfTeller_B6
      rw [if_pos (by rw [q_nLt (by omega) (by omega)]; omega)])
    (p + 1) 0 ((0 : Int32), σ1) (mpN P) (by omega) ⟨rfl, f1, by rw [e1]; exact sI_e, fun u hu => by omega⟩ (by omega)
  refine ⟨τ, ?_, f⟩
  unfold f_X7_placeOfTeller
  rw [bd (at_is hT), bd hr, bd e]
  show ((mg_R τ t 10 14).bind fun b16 => (ma_I τ b16 0 (0 : Int32)).bind fun x18 => some (x18, τ)) = _
  rw [bd (at_r14 (f.T hT)), bd (show ma_I τ (t + 3) 0 (0 : Int32) = some (mxI τ (t + 3) 0) from at_g14 (j := 0) (f.T hT) (by omega)), h]
/-- a linkage of no points -/
def K0 : LK := (0, 0, fun _ => 0, fun _ _ => 0, fun _ => (none, none), fun _ => (0, 0, 0), fun _ => 0, fun _ => 0)
theorem kT0 : kT K0 := ⟨Nat.zero_le _, Nat.zero_le _, fun i hi => absurd hi (Nat.not_lt_zero i), fun i j hi => absurd hi (Nat.not_lt_zero i), fun i hi => absurd hi (Nat.not_lt_zero i)⟩
theorem LZ_0 (h2 : mxI σ l 2 = 0) (h3 : mxI σ l 3 = 0) (h6 : mxI σ l 6 = 0) (hE : ∀ q, bx σ l q → RB (rd σ q) (E q)) (hp : ∀ i, i < 4 → mxI σ (l + 643) i = q_n (pl i) ∧ pl i < 1024 ∧ eM E l i = g_D (pl i)) : LZ (E (l + 675)) l K0 pl (fun _ => 0) E 0 σ :=
  ⟨⟨h2, h3, fun i hi => absurd hi (Nat.not_lt_zero i), fun i hi => ⟨(hp i hi).1, (hp i hi).2.1⟩, fun i hi => absurd hi (Nat.not_lt_zero i)⟩, ⟨rfl, rfl, ⟨rfl, rfl⟩, fun _ _ _ _ => rfl, fun _ _ _ => rfl, hE⟩, ⟨⟨rfl, fun i hi => (hp i hi).2.2⟩, fun i hi => absurd hi (Nat.not_lt_zero i)⟩, h6, by decide, fun i hi => absurd hi (Nat.not_lt_zero i)⟩
def lF (l : Nat) : Nat → Nat → Prop := fun q _ => l ≤ q ∧ q < l + 676
theorem c_mv0 (hf : 5000 ≤ mpN P) (hL : LyL (mxA σ) (mxR σ) l) (hb : mpb P ≤ l) (hz : LZ M l K0 pl mk E 0 σ) (h10 : mxI σ l 10 = 0) : ∃ τ, mx_lp (f_X7_isRead_L22 P l t) (mpN P) ((0 : Int32), σ) = some τ ∧ Fz (lF l) σ τ ∧ mxI τ l 10 = 0 ∧ ∃ E' pl', (∀ i, i < 4 → pl' i = 0) ∧ LZ M l K0 pl' mk E' 0 τ :=
  q_for (f_X7_isRead_L22 P l t)
    (fun k s => s.1 = q_n k ∧ Fz (lF l) σ s.2 ∧ mxI s.2 l 10 = 0 ∧ ∃ E' pl', (∀ i, i < k → pl' i = 0) ∧ LZ M l K0 pl' mk E' 0 s.2)
    (fun τ => Fz (lF l) σ τ ∧ mxI τ l 10 = 0 ∧ ∃ E' pl', (∀ i, i < 4 → pl' i = 0) ∧ LZ M l K0 pl' mk E' 0 τ) 4
    (by
      rintro k ⟨w, τ⟩ hk ⟨i1, f, h10, E1, pl1, h0, hz⟩
      dsimp only at i1 f h10 hz
      subst i1
      left
      have hL' : LyL (mxA τ) (mxR τ) l := by rw [f.1, f.2.1]; exact hL
      obtain ⟨τ1, e1, ⟨E2, hz2⟩, ⟨m1, m2, m3, m4, m5⟩, h10'⟩ := c_move (P := P) (i := k) (k := 0) (by omega) hL' hb kT0 hz hk (by omega)
      have e1' : f_X7_moveTo P l (q_n k) (0 : Int32) τ = some τ1 := e1
      show ∃ t', f_X7_isRead_B22 P l t (q_n k) τ = some (.inl t') ∧ _
      unfold f_X7_isRead_B22
      rw [if_neg (by rw [show (4 : Int32) = q_n 4 from rfl, q_nLe (by omega) (by omega)]; omega), bd (al_is hL'), bd e1', bds, q_nS]
      refine ⟨_, rfl, rfl, f.tr ⟨m1, m2, m3, fun q j hq => ?_⟩, ?_, E2, upl pl1 k 0, fun i hi => ?_, hz2⟩
      · have nb : ¬ bx τ l q := fun z => hq ⟨z.1, z.2.1⟩
        refine ⟨m4 q j nb (fun z => hq ?_) (fun z => hq ?_) (fun z => hq ?_), m5 q j nb⟩
        · rcases z with ⟨p, z1, z2, z3⟩ | z
          · unfold lF; omega
          · unfold lF; omega
        · unfold lF; omega
        · unfold lF; omega
      · dsimp only; rw [h10']; split
        · exact h10
        · rfl
      · unfold upl; split
        · rfl
        · exact h0 i (by omega))
    (by
      rintro ⟨w, τ⟩ ⟨i1, f, h10, h⟩
      dsimp only at i1 f h10 h
      subst i1
      refine ⟨τ, ?_, f, h10, h⟩
      show f_X7_isRead_B22 P l t (q_n 4) τ = _
      unfold f_X7_isRead_B22
      rw [if_pos (by decide)])
    4 0 ((0 : Int32), σ) (mpN P) (by omega) ⟨rfl, Fz.rf, h10, E, pl, fun i hi => absurd hi (Nat.not_lt_zero i), hz⟩ (by omega)
theorem nd_ge : ∀ (K : Nat) (o : List Nat), (∀ q, q < K → q ∈ o) → K ≤ o.length
  | 0, o, _ => Nat.zero_le _
  | K + 1, o, h => by
    have h1 := nd_ge K (o.erase K) (fun q hq => (List.mem_erase_of_ne (by omega)).mpr (h q (by omega)))
    have hm := h K (by omega)
    rw [List.length_erase_of_mem hm] at h1
    have := List.length_pos_of_mem hm
    omega
theorem mkT_up : ∀ (d u : Nat), mkT bl N u ≤ mkT bl N (u + d)
  | 0, u => Nat.le_refl _
  | d + 1, u => by
    have := mkT_up d u
    show mkT bl N u ≤ mkT bl N (u + d + 1)
    rw [mkT]; split <;> omega
theorem sg_tab : ∀ b : Fin 8, ¬ q_n b.1 < 0 ∧ ∀ w : Fin 256, (((q_n w.1 >>> (q_n b.1 &&& 31)) &&& (1 : Int32)) == 1) = w.1.testBit b.1 := by decide +kernel
/-- what the order tells -/
abbrev AT (bl : List Nat) (N K : Nat) : Nat → Nat → Nat := fun u j => teT bl N K (tkT bl N u (pIx (fmT bl N u) j))
abbrev npT (bl : List Nat) (N : Nat) : Nat → Nat := fun u => g_np (fmT bl N u)
abbrev oTx (bl : List Nat) (N K : Nat) : List Nat := rnA (AT bl N K) (npT bl N) K K
abbrev qTx (bl : List Nat) (N K : Nat) : Nat → Nat := fun i => ((oTx bl N K)[i]?).getD 0
abbrev LKx (bl : List Nat) (N K : Nat) : LK := LKt bl N K (qTx bl N K)
theorem np_4 : ∀ k : Fin 6, g_np k.1 ≤ 4 := by decide
theorem CJ_ar (hC : ∀ p, p < K → CJ σ E bl l N K p) : arJ σ l K (AT bl N K) (npT bl N) := fun p hp => by
  obtain ⟨⟨c1, c2, c3, c4⟩, -⟩ := hC p hp
  exact ⟨c3, np_4 ⟨_, c2⟩, fun j hj => ⟨r_fst_lt (c4 j hj).2, (c4 j hj).1⟩⟩
theorem ms_lt (hK8 : mkT bl N K ≤ 8) (hC : ∀ p, p < K → CJ σ E bl l N K p) (hp : p < K) : msO bl N p < 4096 := by
  obtain ⟨-, c1, -⟩ := hC p hp
  unfold msO
  by_cases h1 : fmT bl N p = 1
  · rw [if_pos h1]
    obtain ⟨-, -, d3, -⟩ := c1 h1
    have : 2 ^ (8 + (pT bl N p).2.1) ≤ 2 ^ 11 := Nat.pow_le_pow_right (by omega) (by omega)
    omega
  · rw [if_neg h1]
    cases h2 : isQ bl N p with
    | false => rw [if_neg (by decide)]; omega
    | true =>
      rw [if_pos rfl]
      have h3 : mkT bl N (p + 1) = mkT bl N p + 1 := by rw [mkT, h2, if_pos rfl]
      have h4 := mkT_up (bl := bl) (N := N) (K - (p + 1)) (p + 1)
      rw [show p + 1 + (K - (p + 1)) = K by omega] at h4
      have : 2 ^ mkT bl N p ≤ 2 ^ 11 := Nat.pow_le_pow_right (by omega) (by omega)
      omega
theorem LZ_t (hK : K ≤ 40) (hK8 : mkT bl N K ≤ 8) (hC : ∀ p, p < K → CJ σ E bl l N K p) (hA : arI σ l K (AT bl N K) (npT bl N) (msO bl N) (oTx bl N K) v τ) (hfull : ∀ q, q < K → q ∈ oTx bl N K) (h2 : mxI τ l 2 = q_n K) (h3 : mxI τ l 3 = q_n (mkT bl N K)) (h6 : mxI τ l 6 = 0) (hE : ∀ q, bx τ l q → RB (rd τ q) (E q)) (hp : ∀ i, i < 4 → mxI τ (l + 643) i = 0 ∧ eM E l i = g_D 0) :
    kT (LKx bl N K) ∧ ∃ mk, LZ (E (l + 675)) l (LKx bl N K) (fun _ => 0) mk E 0 τ := by
  obtain ⟨f, -, ⟨hnd, hlt⟩, hor, mk, hm1, hm2⟩ := hA
  have hlen : (oTx bl N K).length = K := Nat.le_antisymm (nd_len K _ hnd hlt) (nd_ge K _ hfull)
  have at_i : ∀ i, i < K → (oTx bl N K)[i]? = some (qTx bl N K i) := fun i hi => by
    show _ = some (((oTx bl N K)[i]?).getD 0)
    rw [List.getElem?_eq_getElem (by omega)]; rfl
  have lt_of : ∀ {i q}, (oTx bl N K)[i]? = some q → i < K := fun {i q} h => by
    rcases Nat.lt_or_ge i K with z | z
    · exact z
    · rw [List.getElem?_eq_none (by omega)] at h; cases h
  have inj : ∀ {i j q}, (oTx bl N K)[i]? = some q → (oTx bl N K)[j]? = some q → i = j := fun {i j q} h1 h2 => by
    have hi := lt_of h1
    exact (List.getElem?_inj (by omega) hnd).mp (h1.trans h2.symm)
  -- the cells of a joint
  have jc : ∀ p j, p < K → j ≠ 8 → mxI τ (l + 2 + 16 * p) j = mxI σ (l + 2 + 16 * p) j := fun p j hp hj => (f.2.2.2 _ _ (fun z => by rcases z with z | ⟨q, z1, z2, z3⟩ <;> omega)).1
  have jn : ∀ p j, p < K → mxI τ (l + 2 + 16 * p + 1) j = mxI σ (l + 2 + 16 * p + 1) j := fun p j hp => (f.2.2.2 _ _ (fun z => by rcases z with z | ⟨q, z1, z2, z3⟩ <;> omega)).1
  have mkq : ∀ p, p < K → isQ bl N p = true → mkT bl N p + 1 ≤ mkT bl N K := fun p hp hq => by
    have h3 : mkT bl N (p + 1) = mkT bl N p + 1 := by rw [mkT, hq, if_pos rfl]
    have h4 := mkT_up (bl := bl) (N := N) (K - (p + 1)) (p + 1)
    rw [show p + 1 + (K - (p + 1)) = K by omega] at h4
    omega
  refine ⟨⟨hK, hK8, fun i hi => ?_, fun i j hi hj e => ?_, fun p hp => ?_⟩, mk, ⟨h2, h3, fun i hi => ?_, fun i hi => ⟨(hp i hi).1, (by show 0 < 1024; decide)⟩, fun p hp => ?_⟩, ⟨rfl, rfl, ⟨rfl, rfl⟩, fun _ _ _ _ => rfl, fun _ _ _ => rfl, hE⟩, ⟨⟨rfl, fun i hi => (hp i hi).2⟩, fun p hp => ?_⟩, h6, by decide, fun p hp => ?_⟩
  · have h := at_i i hi
    obtain ⟨-, h5⟩ := hor i _ h
    have hq : qTx bl N K i < K := hlt _ (List.mem_of_getElem? h)
    obtain ⟨⟨-, c2, -⟩, -⟩ := hC _ hq
    refine ⟨hq, by show fmT bl N (qTx bl N K i) ≤ 5; omega, fun j hj => ?_⟩
    obtain ⟨i', y1, y2⟩ := h5 j hj
    refine ⟨i', y1, ?_⟩
    have hi' : i < K := hi
    have := at_i i' (by omega)
    rw [y2] at this
    exact (Option.some.inj this).symm
  · have h := at_i i hi
    have h' := at_i j hj
    have e' : qTx bl N K i = qTx bl N K j := e
    rw [← e'] at h'
    exact inj h h'
  · obtain ⟨i, h⟩ := List.getElem?_of_mem (hfull p hp)
    have hi := lt_of h
    refine ⟨i, hi, ?_⟩
    have := at_i i hi
    rw [h] at this
    exact (Option.some.inj this).symm
  · exact (hor i _ (at_i i hi)).1
  · have hp' : p < K := hp
    obtain ⟨⟨c1, c2, c3, c4⟩, c5, c6, c7, c8, c9⟩ := hC p hp'
    obtain ⟨⟨m1, m2⟩, m3⟩ := hm1 p hp'
    obtain ⟨ip, hip⟩ := List.getElem?_of_mem (hfull p hp')
    refine ⟨?_, ?_, fun j hj => ⟨r_fst_lt (c4 j hj).2, fun e => ?_, ?_⟩, fun hk => ?_, fun hk => ?_, m1, m2, fun j hj b hb => (hm2 p (hfull p hp') j hj).2 b hb⟩
    · rw [jc p 1 hp' (by omega)]; exact c1
    · rw [jc p 3 hp' (by omega)]; exact c3
    · obtain ⟨i', y1, y2⟩ := (hor ip p hip).2 j hj
      have e' : AT bl N K p j = p := e
      rw [e'] at y2
      have := inj y2 hip
      omega
    · rw [jn p j hp']; exact (c4 j hj).1
    · have hk' : fmT bl N p = 1 := hk
      obtain ⟨d1, d2, d3, d4, d5, d6⟩ := c5 hk'
      refine ⟨?_, d3, ?_, d4, d5, m3 _ ?_⟩
      · rw [jc p 4 hp' (by omega)]; exact d1
      · rw [jc p 5 hp' (by omega)]; exact d2
      · unfold msO; rw [if_pos hk']; exact Nat.testBit_two_pow_self
    · have hk' : fmT bl N p = 2 ∨ fmT bl N p = 3 := hk
      obtain ⟨d1, d2⟩ := c6 hk'
      rw [jc p 6 hp' (by omega), jc p 7 hp' (by omega), d1, d2]
      show (∀ w, w < 256 → sgI _ _ _ = g_sg (sT bl N p) w) ∧ sT bl N p < 2 + mkT bl N K ∧ (2 ≤ sT bl N p → (mk p).testBit (sT bl N p - 2) = true)
      unfold sT
      by_cases k63 : kdA bl (tkT bl N p 5) = 63
      · have hq : isQ bl N p = true := decide_eq_true ⟨hk', k63⟩
        have := mkq p hp' hq
        rw [if_pos k63, if_pos k63]
        obtain ⟨t1, t2⟩ := sg_tab ⟨mkT bl N p, by omega⟩
        refine ⟨fun w hw => ?_, by omega, fun _ => m3 _ ?_⟩
        · unfold sgI g_sg
          rw [if_neg t1, if_neg (by omega), if_neg (by omega), show 2 + mkT bl N p - 2 = mkT bl N p by omega]
          exact t2 ⟨w, hw⟩
        · unfold msO
          rw [if_neg (by omega), hq, if_pos rfl, show 2 + mkT bl N p - 2 = mkT bl N p by omega]
          exact Nat.testBit_two_pow_self
      · rw [if_neg k63, if_neg k63]
        by_cases k45 : kdA bl (tkT bl N p 5) = 45
        · rw [if_pos k45, if_pos k45]
          exact ⟨fun w hw => rfl, by omega, fun z => by omega⟩
        · rw [if_neg k45, if_neg k45]
          exact ⟨fun w hw => rfl, by omega, fun z => by omega⟩
  · obtain ⟨-, -, -, -, -, c9⟩ := hC p hp
    exact c9
  · have hp' : p < K := hp
    obtain ⟨-, -, -, -, ⟨-, d, -⟩, -⟩ := hC p hp'
    rw [jc p 16 hp' (by omega), d]
    exact ⟨Or.inl rfl, fun z => absurd z (by decide)⟩
end IIS
