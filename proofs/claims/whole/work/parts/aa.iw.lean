/-! ===== iw: the reference's linkage is the text's ===== -/
section IWS
variable {P : mx_P} {σ σ0 σ1 σ2 τ : mx_S} {x m n t l p q a N i k j u v w K c s f r : Nat} {bl : List Nat} {sA lA : Nat → Nat}
theorem bf_g {x y g : Int} (h : 0 < g) : b_frac (x * g) (y * g) = b_frac x y := by
  unfold b_frac
  rw [← Int.mul_assoc, Int.mul_ediv_mul_of_pos_left _ _ h, ← Int.neg_mul, Int.mul_ediv_mul_of_pos_left _ _ h]
theorem bf_rd {tp np nq : Int} {bt : Nat} (h : Rdc tp bt np nq) : b_frac tp bt = b_frac np nq := by
  obtain ⟨g, hg, e1, e2, -, -⟩ := h
  rw [e1, e2]; exact bf_g (by omega)
theorem mm4 (a b : Int) : a * b * (a * b) = a * a * (b * b) := by
  rw [Int.mul_assoc, Int.mul_left_comm b a b, ← Int.mul_assoc]
theorem bf_sq {tp np nq : Int} {bt : Nat} (h : Rdc tp bt np nq) : b_frac (tp * tp) ((bt : Int) * bt) = b_frac (np * np) (nq * nq) := by
  obtain ⟨g, hg, e1, e2, -, -⟩ := h
  rw [e1, e2, mm4, mm4]; exact bf_g (Int.mul_pos (by omega) (by omega))
theorem bf_w {tp np nq z : Int} {bt : Nat} (h : Rdc tp bt np nq) : b_frac (z * tp) bt = b_frac (z * np) nq := by
  obtain ⟨g, hg, e1, e2, -, -⟩ := h
  rw [e1, e2, ← Int.mul_assoc]; exact bf_g (by omega)
theorem wh_rd {tp np nq : Int} {bt : Nat} (h : Rdc tp bt np nq) (h1 : nq = 1) : tp.tdiv bt = np := by
  obtain ⟨g, hg, e1, e2, -, -⟩ := h
  rw [e1, e2, h1, Int.one_mul]
  exact Int.mul_tdiv_cancel _ (by omega)
theorem toQ {y : Int32} {w : Int} (h : y.toInt = w) (h0 : 0 ≤ w) (h1 : w < 2147483648) : y = q_n w.toNat := by
  apply Int32.toInt.inj
  rw [q_nT (by omega), h]; omega
/-- nothing is wrong -/
theorem ls_0 (h256 : ∀ b, b ∈ bl → b < 256) (h : GdT bl N K) (hn : lsF bl N K K = none) (hv : v < K) (hi : i < nT bl N v) : cdK bl N K v i = 0 := by
  have h0 := Lm_ls h256 h K (Nat.le_refl _)
  rw [hn] at h0
  rcases Nat.eq_zero_or_pos (cdK bl N K v i) with e | e
  · exact e
  · exact absurd ⟨v, i, bfr_z.mpr ⟨hv, hi⟩, rfl, rfl, by omega⟩ (h0 (tkT bl N v i) (cdK bl N K v i))
theorem nbR (h256 : ∀ b, b ∈ bl → b < 256) (hl : ltN (lT bl N v i)) (hP : PR σ m bl N v i) : Rdc (tpA bl (tkT bl N v i)) (nmB bl (nmD bl (tkT bl N v i))) (mxL σ (m + 27) (4 * v + 2 * nsl (fmT bl N v) i)).toInt (mxL σ (m + 27) (4 * v + 2 * nsl (fmT bl N v) i + 1)).toInt ∧ (-9999 ≤ (mxL σ (m + 27) (4 * v + 2 * nsl (fmT bl N v) i)).toInt ∧ (mxL σ (m + 27) (4 * v + 2 * nsl (fmT bl N v) i)).toInt ≤ 9999) ∧ 0 < (mxL σ (m + 27) (4 * v + 2 * nsl (fmT bl N v) i + 1)).toInt ∧ (mxL σ (m + 27) (4 * v + 2 * nsl (fmT bl N v) i + 1)).toInt ≤ 9999 := by
  have h := hP.2.1 hl
  have b := rd_b h (tp_b h256).1 (tp_b h256).2 (nmB_lt h256 _)
  exact ⟨h, ⟨by omega, by omega⟩, b.2.2.1, by omega⟩
theorem whR {lo hi : Int} (hl : ltW (lT bl N v i)) (hw : ∀ tp bt, rgL (lT bl N v i) tp bt = whB tp bt lo hi) (hz : cdK bl N K v i = 0) (hP : PR σ m bl N v i) : (mxI σ (m + 28) (3 * v + (i - 3))).toInt = whT bl (tkT bl N v i) ∧ lo ≤ whT bl (tkT bl N v i) ∧ whT bl (tkT bl N v i) ≤ hi := by
  have hl' : lT bl N v i = 105 ∨ lT bl N v i = 110 ∨ lT bl N v i = 107 := hl
  obtain ⟨np, nq, hr, hc⟩ := hP.2.2.1 hl
  have e : cdK bl N K v i = if rgL (lT bl N v i) (tpA bl (tkT bl N v i)) (nmB bl (nmD bl (tkT bl N v i))) then 0 else 5 := by
    unfold cdK ckP
    rw [if_neg (by omega), if_neg (by omega), if_neg (by omega)]
  rw [hz, hw, rd_wh hr] at e
  have hd : nq = 1 ∧ lo ≤ np ∧ np ≤ hi := by
    by_cases c : nq = 1 ∧ lo ≤ np ∧ np ≤ hi
    · exact c
    · rw [decide_eq_false c] at e; cases e
  have e2 : whT bl (tkT bl N v i) = np := wh_rd hr hd.1
  rw [e2]
  exact ⟨hc, hd.2⟩
theorem nu_1 {fm : Nat} {np nq : Int} (h : Rdc (tpA bl s) (nmB bl (nmD bl s)) np nq) : nuT bl fm s = if fm = 2 ∨ fm = 3 then b_frac (np * np) (nq * nq) else b_frac np nq := by
  unfold nuT fxV
  rw [bf_rd h, bf_sq h]
theorem RK_t (h256 : ∀ b, b ∈ bl → b < 256) (hG : GdT bl N K) (hK : K ≤ 40) (hn : lsF bl N K K = none) (hkT : kT (LKx bl N K)) (hfull : ∀ q, q < K → q ∈ oTx bl N K) (hRc : RcR σ m bl N K 0) (hO : OnR σ m bl N K) (hOr : OrR σ m K (oTx bl N K)) (h19 : mxI τ m 19 = q_n K) (h20 : mxI τ m 20 = q_n (mkT bl N K)) (hC : ∀ p, p < K → Cpy σ τ m p (sA p) (lA p)) (h6 : ∀ i, i < 4 * K → mxI τ (m + 6) i = mxI σ (m + 30) i) (h18 : ∀ i, i < 4 → mxI τ (m + 18) i = 0) : RK τ m (LKx bl N K) (fun _ => 0) := by
  refine ⟨h19, h20, fun i hi => ?_, fun i hi => ⟨h18 i hi, by show 0 < 1024; decide⟩, fun p hp => ?_⟩
  · have hi' : i < K := hi
    have hlen : (oTx bl N K).length = K := Nat.le_antisymm (nd_len K _ hOr.2.2.1 hOr.2.2.2) (nd_ge K _ hfull)
    have at_i : (oTx bl N K)[i]? = some (qTx bl N K i) := by
      show _ = some (((oTx bl N K)[i]?).getD 0)
      rw [List.getElem?_eq_getElem (by omega)]; rfl
    rw [(hC i hi').1.2.2.2.2.2.1]
    exact hOr.2.1 i _ at_i
  · have hp' : p < K := hp
    obtain ⟨⟨a5, a11, a12, a13, a14, a17, a15⟩, ⟨b7, b8, b9, b10⟩, -, -⟩ := hC p hp'
    obtain ⟨hh, hfit, -, -⟩ := gd_h h256 hG hp'
    have hf6 := hh.2.2.1
    have hc : fmT bl N p = 0 ∨ fmT bl N p = 1 ∨ fmT bl N p = 2 ∨ fmT bl N p = 3 ∨ fmT bl N p = 4 ∨ fmT bl N p = 5 := by omega
    have L : ∀ j, lT bl N p j = lfm (fmT bl N p) j := fun j => rfl
    have nn : nT bl N p = nLt 0 (kfl (fmT bl N p)) := rfl
    have part : ∀ i, i < nT bl N p → PR σ m bl N p i := fun i hi => hRc p i (bfr_z.mpr ⟨hp', hi⟩) (by omega)
    have hz : ∀ i, i < nT bl N p → cdK bl N K p i = 0 := fun i hi => ls_0 h256 hG hn hp' hi
    have h67 : lT bl N p 0 = 67 := (lf_n ⟨_, hf6⟩).2.2.2
    have hn3 : 3 ≤ nT bl N p := (n_6 ⟨_, hf6⟩).2
    refine ⟨?_, fun j hj => ?_, fun h5 => ?_, fun h024 => ?_, fun h1 => ?_, fun h23 => ?_⟩
    · rw [a5]; exact (part 0 (by omega)).2.2.2.2 h67
    · have hj4 := np_4 ⟨_, hf6⟩
      dsimp only at hj4
      have hj' : j < g_np (fmT bl N p) := hj
      obtain ⟨t1, t2, t3, t4⟩ := (pf_tab ⟨_, hf6⟩).1 ⟨j, by omega⟩ hj'
      dsimp only at t1 t2 t3 t4
      obtain ⟨w, hw, ew⟩ := ls_td h256 hG hn hp' t3 t4
      have eA : AT bl N K p j = w := by
        show (telA bl N K (nmA bl (tkT bl N p (pIx (fmT bl N p) j)))).getD 0 = w
        rw [ew]; rfl
      have es : (if fmT bl N p = 3 ∧ 0 < j then j + 1 else j) + 1 = pIx (fmT bl N p) j := by
        unfold pIx; split <;> omega
      show AT bl N K p j < 40 ∧ AT bl N K p j ≠ p ∧ mxI τ (m + 6) (4 * p + (if fmT bl N p = 3 ∧ 0 < j then j + 1 else j)) = q_n (AT bl N K p j)
      rw [eA]
      refine ⟨by omega, fun e => ?_, ?_⟩
      · obtain ⟨k1, k2, k3, k4, k5⟩ := hkT
        obtain ⟨ip, hip, ep⟩ := k5 p hp
        have hip' : ip < K := hip
        obtain ⟨i', y1, y2⟩ := (k3 ip hip).2.2 j (by rw [ep]; exact hj)
        rw [ep] at y2
        have y3 : kQ (LKx bl N K) i' = kQ (LKx bl N K) ip := y2.trans ((show kA (LKx bl N K) p j = w from eA).trans (e.trans ep.symm))
        have := k4 i' ip (by show i' < K; omega) hip y3
        omega
      · rw [h6 _ (by omega), hO p hp' _ (by omega)]
        unfold onA
        rw [es, if_pos ⟨t3, t4⟩, ew]; rfl
    · have h5' : fmT bl N p ≠ 5 := h5
      obtain ⟨i0, hi0, hl0, hns, hO1⟩ : ∃ i, i < nT bl N p ∧ ltN (lT bl N p i) ∧ nsl (fmT bl N p) i = 0 ∧ (oT bl N p).1 = nuT bl (fmT bl N p) (tkT bl N p i) := by
        rcases hc with e | e | e | e | e | e
        · refine ⟨1, by omega, ?_, by rw [e]; rfl, by unfold oT; rw [if_pos e, e]⟩
          rw [L, e]; exact Or.inl (by decide +kernel)
        · refine ⟨2, by omega, ?_, by rw [e]; rfl, by unfold oT; rw [if_neg (by omega), if_pos e, e]⟩
          rw [L, e]; exact Or.inr (by decide +kernel)
        · refine ⟨3, ?_, ?_, by rw [e]; rfl, by unfold oT; rw [if_neg (by omega), if_neg (by omega), if_pos e, e]⟩
          · rw [nn, e]; decide +kernel
          · rw [L, e]; exact Or.inr (by decide +kernel)
        · refine ⟨2, by omega, ?_, by rw [e]; rfl, by unfold oT; rw [if_neg (by omega), if_neg (by omega), if_neg (by omega), if_pos e, e]⟩
          rw [L, e]; exact Or.inr (by decide +kernel)
        · refine ⟨3, ?_, ?_, by rw [e]; rfl, by unfold oT; rw [if_neg (by omega), if_neg (by omega), if_neg (by omega), if_neg (by omega), if_pos e, e]⟩
          · rw [nn, e]; decide +kernel
          · rw [L, e]; exact Or.inl (by decide +kernel)
        · exact absurd e h5'
      have hb := nbR h256 hl0 (part i0 hi0)
      rw [hns] at hb
      rw [b7, b8]
      obtain ⟨c1, c2, c3, c4⟩ := hb
      refine ⟨c2.1, c2.2, c3, c4, ?_⟩
      show (oT bl N p).1 = if fmT bl N p = 2 ∨ fmT bl N p = 3 then _ else _
      rw [hO1]
      exact nu_1 c1
    · have h5' : fmT bl N p = 0 ∨ fmT bl N p = 2 ∨ fmT bl N p = 4 := h024
      obtain ⟨i0, hi0, hl0, hns, hO1⟩ : ∃ i, i < nT bl N p ∧ ltN (lT bl N p i) ∧ nsl (fmT bl N p) i = 1 ∧ (oT bl N p).2 = nuT bl (fmT bl N p) (tkT bl N p i) := by
        rcases h5' with e | e | e
        · refine ⟨2, by omega, ?_, by rw [e]; rfl, by unfold oT; rw [if_pos e, e]⟩
          rw [L, e]; exact Or.inl (by decide +kernel)
        · refine ⟨4, ?_, ?_, by rw [e]; rfl, by unfold oT; rw [if_neg (by omega), if_neg (by omega), if_pos e, e]⟩
          · rw [nn, e]; decide +kernel
          · rw [L, e]; exact Or.inr (by decide +kernel)
        · refine ⟨4, ?_, ?_, by rw [e]; rfl, by unfold oT; rw [if_neg (by omega), if_neg (by omega), if_neg (by omega), if_neg (by omega), if_pos e, e]⟩
          · rw [nn, e]; decide +kernel
          · rw [L, e]; exact Or.inl (by decide +kernel)
      have hb := nbR h256 hl0 (part i0 hi0)
      rw [hns, show 4 * p + 2 * 1 = 4 * p + 2 from rfl, show 4 * p + 2 + 1 = 4 * p + 3 from rfl] at hb
      rw [b9, b10]
      obtain ⟨c1, c2, c3, c4⟩ := hb
      refine ⟨c2.1, c2.2, c3, c4, ?_⟩
      show (oT bl N p).2 = if fmT bl N p = 2 then _ else _
      rw [hO1, nu_1 c1]
      by_cases e2 : fmT bl N p = 2
      · rw [if_pos (Or.inl e2), if_pos e2]
      · rw [if_neg (by omega), if_neg e2]
    · have e : fmT bl N p = 1 := h1
      have n6 : nT bl N p = 6 := by rw [nn, e]; decide +kernel
      have l2 : ltN (lT bl N p 2) := by rw [L, e]; exact Or.inr (by decide +kernel)
      have l3 : lT bl N p 3 = 105 := by rw [L, e]; decide +kernel
      have l4 : lT bl N p 4 = 110 := by rw [L, e]; decide +kernel
      have l5 : lT bl N p 5 = 107 := by rw [L, e]; decide +kernel
      have hb := (nbR h256 l2 (part 2 (by omega))).1
      rw [show nsl (fmT bl N p) 2 = 0 by rw [e]; rfl] at hb
      obtain ⟨x1, x2, x3⟩ := whR (lo := 0) (hi := 3) (Or.inl l3) (fun tp bt => by rw [l3]; rfl) (hz 3 (by omega)) (part 3 (by omega))
      obtain ⟨y1, y2, y3⟩ := whR (lo := -8) (hi := 8) (Or.inr (Or.inl l4)) (fun tp bt => by rw [l4]; rfl) (hz 4 (by omega)) (part 4 (by omega))
      obtain ⟨z1, z2, z3⟩ := whR (lo := 0) (hi := 1023) (Or.inr (Or.inr l5)) (fun tp bt => by rw [l5]; rfl) (hz 5 (by omega)) (part 5 (by omega))
      rw [b7, b8, a11, a12, a13]
      show (mxI σ (m + 28) (3 * p + 1)).toInt = whT bl (tkT bl N p 4) ∧ -8 ≤ whT bl (tkT bl N p 4) ∧ whT bl (tkT bl N p 4) ≤ 8 ∧ (whT bl (tkT bl N p 3)).toNat < 4 ∧ mxI σ (m + 28) (3 * p) = q_n (whT bl (tkT bl N p 3)).toNat ∧ (whT bl (tkT bl N p 5)).toNat < 1024 ∧ mxI σ (m + 28) (3 * p + 2) = q_n (whT bl (tkT bl N p 5)).toNat ∧ (oT bl N p).2 = _
      refine ⟨y1, y2, y3, by omega, toQ x1 x2 (by omega), by omega, toQ z1 z2 (by omega), ?_⟩
      unfold oT
      rw [if_neg (by omega), if_pos e]
      exact bf_w hb
    · have e : fmT bl N p = 2 ∨ fmT bl N p = 3 := h23
      have n6 : nT bl N p = 6 := n_5 ⟨_, hf6⟩ e
      have l5 : lT bl N p 5 = 83 := (lf_83 ⟨_, hf6⟩ 0).2 e
      have hs := (part 5 (by omega)).2.2.2.1 l5
      have kS : kdA bl (tkT bl N p 5) = 43 ∨ kdA bl (tkT bl N p 5) = 45 ∨ kdA bl (tkT bl N p 5) = 63 := by
        have := hfit 5 (by omega)
        rw [l5] at this
        unfold fit at this
        rw [if_neg (by decide), if_neg (by decide), if_pos rfl] at this
        exact of_decide_eq_true this
      rw [a14, hs]
      show q_n (sR bl N p) = q_n (sT bl N p) ∧ sT bl N p ≤ 9
      have h8 : mkT bl N K ≤ 8 := hkT.2.1
      unfold sR sT
      rcases kS with z | z | z
      · rw [z]; exact ⟨rfl, by rw [if_neg (show ¬ (43 : Int32) = 63 by decide), if_neg (show ¬ (43 : Int32) = 45 by decide)]; omega⟩
      · rw [z]; exact ⟨rfl, by rw [if_neg (show ¬ (45 : Int32) = 63 by decide), if_pos rfl]; omega⟩
      · have hq : isQ bl N p = true := decide_eq_true ⟨e, z⟩
        have h3 : mkT bl N (p + 1) = mkT bl N p + 1 := by rw [mkT, hq, if_pos rfl]
        have h4 := mkT_up (bl := bl) (N := N) (K - (p + 1)) (p + 1)
        rw [show p + 1 + (K - (p + 1)) = K by omega] at h4
        rw [z, if_neg (by decide), if_pos rfl, if_pos rfl, show min (mkT bl N p) 8 = mkT bl N p by omega]
        exact ⟨rfl, by omega⟩
theorem rB_t (hTS : TS σ m bl) (hT : ∀ p, p < K → tkT bl N p 0 ≤ bl.length) (hNm : NmR σ m bl N K) (hC : ∀ p, p < K → Cpy σ τ m p (tkT bl N p 0) (enA bl (tkT bl N p 0) - tkT bl N p 0)) : rB τ m K (BTx bl N) := fun p hp => by
  obtain ⟨⟨-, -, -, -, -, -, a15⟩, -, ⟨c1, c2, c3⟩, d⟩ := hC p hp
  have hs := hT p hp
  have he := enA_le (bs := bl) hs
  rw [c1, c2, c3, a15, (hNm.2 p hp).2]
  have hl : (cnA bl N 0 p).length = enA bl (tkT bl N p 0) - tkT bl N p 0 := seg_len hs
  refine ⟨rfl, rfl, rfl, ?_, fun j b hj => ?_⟩
  · show _ = q_n (cnA bl N 0 p).length
    rw [hl]
  · have hj' : (cnA bl N 0 p)[j]? = some b := hj
    have hjl : j < enA bl (tkT bl N p 0) - tkT bl N p 0 := by
      rcases Nat.lt_or_ge j (enA bl (tkT bl N p 0) - tkT bl N p 0) with y | y
      · exact y
      · rw [List.getElem?_eq_none (by omega)] at hj'; cases hj'
    have e := by_seg hs hjl
    rw [show nmA bl (tkT bl N p 0) = cnA bl N 0 p from rfl, hj'] at e
    have hb : b = by' bl (tkT bl N p 0 + j) := Option.some.inj e
    rw [d j hjl, hb]
    exact (hTS.2.2 _ _ (by_i (by omega))).2
end IWS
