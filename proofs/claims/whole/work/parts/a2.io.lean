/-! ===== io: signs, the parts of a statement, the reference's ===== -/
section IOS
variable {P : mx_P} {σ σ0 σ1 σ2 τ : mx_S} {x m n t l p q a N i k j u v w K c s f r : Nat} {bl : List Nat} {S : Nat → Nat → Prop}
theorem rk_c {v c : Int32} (h1 : c ≠ 1) (h2 : c ≠ 2) (h3 : c ≠ 3) : rk v = c ↔ v = c := by
  unfold rk
  by_cases a : v = 2
  · rw [if_pos a]; exact ⟨fun z => absurd z.symm h1, fun z => absurd (z.symm.trans a) h2⟩
  rw [if_neg a]
  by_cases b : v = 3
  · rw [if_pos b]; exact ⟨fun z => absurd z.symm h2, fun z => absurd (z.symm.trans b) h3⟩
  rw [if_neg b]
  by_cases d : v = 1
  · rw [if_pos d]; exact ⟨fun z => absurd z.symm h3, fun z => absurd (z.symm.trans d) h1⟩
  · rw [if_neg d]
theorem RX_M (h : RX σ0 m bl N u j σ) : LyM σ m := by
  rcases h with ⟨-, h, -⟩ | ⟨i, -, h⟩
  · exact h.1.1
  · exact h.1.1
def sgF (m : Nat) : Nat → Nat → Prop := fun q k => q = m ∧ (k = 6 ∨ k = 7 ∨ k = 53)
theorem r_sg1 (hb : mpb P ≤ m) (hh : hdU bl N u) (hj : 5 < nT bl N u) (hl : lT bl N u 5 = 83) (hR : RQ σ0 m bl N (u + 1) u 5 σ) (hk : TkR σ m bl (tkT bl N u 5)) (kS : kdA bl (tkT bl N u 5) = 43 ∨ kdA bl (tkT bl N u 5) = 45 ∨ kdA bl (tkT bl N u 5) = 63) :
    ∃ τ1, f_X12_signUsed P m σ = f_X12_signUsed_D114 P m (q_n (sR bl N u)) τ1 ∧ LsR τ1 m bl N u 6 ∧ mxI τ1 m 53 = q_n (akA bl N u 6) ∧ Fz (sgF m) σ τ1 := by
  obtain ⟨hM, hTS, hFz⟩ := id hR.1
  obtain ⟨k14, k15, k16, -⟩ := hk
  have hlen := hTS.1
  have hs := tkT_le (N := N) (u := u) (j := 5) hh.1
  have r15 : mxI σ m 15 = kdA bl (tkT bl N u 5) := by rw [k15]; rcases kS with z | z | z <;> rw [z] <;> rfl
  have hq := ((lf_83 ⟨_, hh.2.2.1⟩ 5).1 hl).2
  dsimp only at hq
  have i53 := hR.2.2.2.2.2.1
  unfold akA at i53
  rw [if_pos (by omega)] at i53
  have hcd : cdR bl N u 5 = if kdA bl (tkT bl N u 5) = 63 ∧ 8 ≤ mkT bl N u then 6 else 0 := by
    unfold cdR ckP; rw [if_neg (by omega), if_neg (by omega), if_neg (by omega), if_pos hl]
  have a6 : akA bl N u 6 = min (if isQ bl N u then mkT bl N u + 1 else mkT bl N u) 8 := by
    unfold akA; rw [if_neg (by omega)]; rfl
  unfold f_X12_signUsed f_X12_signUsed_D45 f_X12_signUsed_D59
  rw [bd (am_gI hM), hR.2.1.1, if_pos (show (0 : Int32) ≤ 0 by decide), bd (am_gI hM), r15]
  rcases kS with z | z | z
  · have q0 : isQ bl N u = false := decide_eq_false fun y => by rw [z] at y; exact absurd y.2 (by decide)
    refine ⟨σ, ?_, LsR_0 hR.2.2.2.2.1 (by rw [hcd, if_neg (fun y => by rw [z] at y; exact absurd y.1 (by decide))]), ?_, Fz.rf⟩
    · rw [z, if_pos rfl, bd (am_gI hM), r15, z, if_pos rfl, bd (am_gI hM), r15, z, if_neg (show ¬ (43 : Int32) = 63 by decide)]
      unfold sR; rw [if_pos z]; rfl
    · rw [i53, a6, q0]; rfl
  · have q0 : isQ bl N u = false := decide_eq_false fun y => by rw [z] at y; exact absurd y.2 (by decide)
    refine ⟨σ, ?_, LsR_0 hR.2.2.2.2.1 (by rw [hcd, if_neg (fun y => by rw [z] at y; exact absurd y.1 (by decide))]), ?_, Fz.rf⟩
    · rw [z, if_neg (show ¬ (45 : Int32) = 43 by decide), bd (am_gI hM), r15, z, if_pos rfl, bd (am_gI hM), r15, z, if_neg (show ¬ (45 : Int32) = 43 by decide), bd (am_gI hM), r15, z, if_neg (show ¬ (45 : Int32) = 63 by decide)]
      unfold sR; rw [if_neg (by rw [z]; decide), if_neg (by rw [z]; decide)]; rfl
    · rw [i53, a6, q0]; rfl
  · have q1 : isQ bl N u = true := decide_eq_true ⟨hq, z⟩
    rw [z, if_neg (show ¬ (63 : Int32) = 43 by decide), bd (am_gI hM), r15, z, if_neg (show ¬ (63 : Int32) = 45 by decide), bd (am_gI hM), r15, z, if_pos rfl, bd (am_gI hM), r15, z, if_neg (show ¬ (63 : Int32) = 43 by decide), bd (am_gI hM), r15, z, if_pos rfl, bd (am_gI hM), i53]
    unfold f_X12_signUsed_D88
    have sr : sR bl N u = 2 + min (mkT bl N u) 8 := by unfold sR; rw [if_neg (by rw [z]; decide), if_pos z]
    rw [a6, q1, if_pos rfl, sr]
    by_cases c8 : 8 ≤ mkT bl N u
    · have m8 : min (mkT bl N u) 8 = 8 := by omega
      have m9 : min (mkT bl N u + 1) 8 = 8 := by omega
      obtain ⟨τ1, e, h1, f⟩ := LsR_c (P := P) (c := 6) hM hb hR.2.2.2.2.1 hj (by omega) (by rw [hcd, if_pos ⟨z, c8⟩]) (by omega) (by omega) (by omega)
      have hM1 := f.M hM
      have g53 : mxI τ1 m 53 = q_n 8 := (f.2.2.2 _ _ (fun z => by unfold fnF at z; omega)).1.trans (by rw [i53, m8])
      refine ⟨τ1, ?_, h1, ?_, f.mo fun q k z => ?_⟩
      · rw [m8, if_pos (show q_n 8 = (8 : Int32) from rfl), bd (am_gI hM), k16, bd (am_is hM), bd (show f_X12_found P m (6 : Int32) (q_n (tkT bl N u 5)) σ = some τ1 from e), bd (am_gI hM1), g53, bds, bd (am_gI hM1), g53, if_pos (show (8 : Int32) ≤ q_n 8 by decide)]
        rfl
      · rw [g53, m9]
      · unfold fnF at z; unfold sgF; omega
    · have m8 : min (mkT bl N u) 8 = mkT bl N u := by omega
      have m9 : min (mkT bl N u + 1) 8 = mkT bl N u + 1 := by omega
      rw [m8] at i53
      refine ⟨mx_setI σ m 53 (q_n (mkT bl N u + 1)), ?_, LsR_f (S := fun q k => q = m ∧ k = 53) (LsR_0 hR.2.2.2.2.1 (by rw [hcd, if_neg (fun y => c8 y.2)])) (Fz.rf.sI ⟨rfl, rfl⟩ _) (fun q k z => by omega), ?_, Fz.rf.sI ⟨rfl, Or.inr (Or.inr rfl)⟩ _⟩
      · rw [m8, if_neg (fun y => by rw [show (8 : Int32) = q_n 8 from rfl, q_nI (by omega) (by omega)] at y; omega), bd (am_gI hM), i53, bds, bd (am_gI hM), i53, if_neg (by rw [show (8 : Int32) = q_n 8 from rfl, q_nLe (by omega) (by omega)]; exact c8), bd (am_gI hM), i53, q_nS, bd (am_pI hM hb _), show (2 : Int32) = q_n 2 from rfl, q_nA]
      · rw [sI_e, m9]
theorem o_sgn (hN : N = 4000) (hf : 20000 ≤ mpN P) (hb : mpb P ≤ m) (hh : hdU bl N u) (hF : ∀ v, v ≤ u → fmT bl N v < 6) (hu : u < 460) (hj : 5 < nT bl N u) (hl : lT bl N u 5 = 83) (h : RX σ0 m bl N u 5 σ) : ∃ τ, f_X12_signUsed P m σ = some τ ∧ RX σ0 m bl N u 6 τ := by
  have fe : fit (lT bl N u 5) (kdA bl (tkT bl N u 5)) = decide (kdA bl (tkT bl N u 5) = 43 ∨ kdA bl (tkT bl N u 5) = 45 ∨ kdA bl (tkT bl N u 5) = 63) := by
    unfold fit; rw [if_neg (by omega), if_neg (by omega), if_pos hl]
  refine RX_st (j := 5) (op := fun σ => f_X12_signUsed P m σ) h (fun q hq => ?_) (fun hR hk hm => ?_) (fun hR hk hm hfit => ?_)
  · show f_X12_signUsed P m σ = _
    unfold f_X12_signUsed
    rw [bd (am_gI hq.1.1), hq.2.1, if_neg (show ¬ (1 : Int32) ≤ 0 by decide)]
  · rw [fe] at hm
    have hn := of_decide_eq_false hm
    obtain ⟨k14, k15, k16, -⟩ := hk
    have hM := hR.1.1
    obtain ⟨τ, e, h1, h2, f⟩ := r_wrg (P := P) (w := 1) (v := q_n (tkT bl N u 5)) hM hb hR.2.1.1
    refine ⟨τ, ?_, RBs_f hR.1 f (fun q j z => by unfold wrF at z; unfold rlF; omega), h1, h2⟩
    show f_X12_signUsed P m σ = _
    unfold f_X12_signUsed
    rw [bd (am_gI hM), hR.2.1.1, if_pos (show (0 : Int32) ≤ 0 by decide), bd (am_gI hM), k15, if_neg (fun z => hn (Or.inl ((rk_c (by decide) (by decide) (by decide)).mp z))), bd (am_gI hM), k15, if_neg (fun z => hn (Or.inr (Or.inl ((rk_c (by decide) (by decide) (by decide)).mp z)))), bd (am_gI hM), k15, if_neg (fun z => hn (Or.inr (Or.inr ((rk_c (by decide) (by decide) (by decide)).mp z)))), bd (am_gI hM), k16, bd (am_is hM), bd e]
  · rw [fe] at hm
    have kS := of_decide_eq_true hm
    obtain ⟨τ1, e1, hL1, h53, f1⟩ := r_sg1 (P := P) hb hh hj hl hR hk kS
    obtain ⟨k14, k15, k16, -⟩ := hk
    have hM := hR.1.1
    have hTS := hR.1.2.1
    have hM1 : LyM τ1 m := f1.M hM
    have hs := tkT_le (N := N) (u := u) (j := 5) hh.1
    have he := enA_le (bs := bl) hs
    have h14 := k14 (by rcases kS with z | z | z <;> rw [z] <;> decide)
    have hNm1 := hR.2.2.1.1
    have h80 : lT bl N u 5 ≠ 80 := by omega
    have g1 : ∀ k, 8 ≤ k → k ≠ 53 → mxI τ1 m k = mxI σ m k := fun k a b => (f1.2.2.2 _ _ (fun z => by unfold sgF at z; omega)).1
    obtain ⟨τ2, e2, f2, p2⟩ : ∃ τ2, f_X12_signUsed_D114 P m (q_n (sR bl N u)) τ1 = f_X12_signUsed_D135 P m τ2 ∧ Fz (slw m bl N u 5) τ1 τ2 ∧ (u < 40 → mxI τ2 (m + 29) u = q_n (sR bl N u)) := by
      unfold f_X12_signUsed_D114
      rw [bd (am_gI hM1), g1 38 (by omega) (by omega), hNm1]
      by_cases c40 : u < 40
      · rw [if_neg (by rw [show (40 : Int32) = q_n 40 from rfl, q_nLt (by omega) (by omega)]; omega), bd (am_r46 hM1), bd (am_gI hM1), g1 38 (by omega) (by omega), hNm1, q_n1 u (by omega), bd (am_s46 hM1 hb c40 _)]
        exact ⟨_, rfl, Fz.rf.sI (Or.inr (Or.inr (Or.inr ⟨rfl, hl, rfl⟩))) _, fun _ => sI_e⟩
      · rw [if_pos (by rw [show (40 : Int32) = q_n 40 from rfl, q_nLt (by omega) (by omega)]; omega)]
        exact ⟨τ1, rfl, Fz.rf, fun z => absurd z c40⟩
    have f12 : Fz (fun q k => sgF m q k ∨ slw m bl N u 5 q k) σ τ2 := (f1.mo fun _ _ z => Or.inl z).tr (f2.mo fun _ _ z => Or.inr z)
    have hQ : RQ σ0 m bl N (u + 1) u (5 + 1) τ2 := by
      refine RQ_s hF hj h80 hR f12 (fun q k z => z) (LsR_f hL1 f2 (fun q k z => by have := slw_q h80 z; omega)) ?_ (fun h40 => ⟨fun z => absurd z h80, fun z => ?_, fun z => ?_, fun _ => p2 h40, fun z => ?_⟩)
      · rw [(f2.2.2.2 _ _ (fun z => by have := slw_q h80 z; omega)).1, h53]
      · omega
      · omega
      · omega
    obtain ⟨τ3, e3, q1, q2⟩ := r_scn (P := P) hN hf hb hQ (p := enA bl (tkT bl N u 5)) ((f12.2.2.2 _ _ (fun z => by
      rcases z with z | z
      · unfold sgF at z; omega
      · have := slw_q h80 z; omega)).1.trans h14) he.2.1
    refine ⟨τ3, ?_, q1, q2⟩
    show f_X12_signUsed P m σ = _
    rw [e1, e2]
    unfold f_X12_signUsed_D135
    rw [bd (am_is hQ.1.1), bd e3]
theorem o_parts (hN : N = 4000) (hf : 20000 ≤ mpN P) (hb : mpb P ≤ m) (hh : hdU bl N u) (hF : ∀ v, v ≤ u → fmT bl N v < 6) (hu : u < 460) (h : RX σ0 m bl N u 1 σ) : ∃ τ, f_X12_parts P m (q_n (fmT bl N u)) σ = some τ ∧ RX σ0 m bl N u (nT bl N u) τ := by
  have hc : fmT bl N u = 0 ∨ fmT bl N u = 1 ∨ fmT bl N u = 2 ∨ fmT bl N u = 3 ∨ fmT bl N u = 4 ∨ fmT bl N u = 5 := by have := hh.2.2.1; omega
  have L : ∀ j, lT bl N u j = lfm (fmT bl N u) j := fun j => rfl
  unfold f_X12_parts f_X12_parts_D9 f_X12_parts_D24 f_X12_parts_D29 f_X12_parts_D64
  rcases hc with e | e | e | e | e | e
  · have n : nT bl N u = 3 := by unfold nT; rw [e]; decide +kernel
    obtain ⟨τ1, e1, h1⟩ := o_num (P := P) (pz := 0) hN hf hb hh hF hu (j := 1) (by omega) (Or.inl ⟨by rw [L, e]; decide +kernel, rfl⟩) h
    obtain ⟨τ2, e2, h2⟩ := o_num (P := P) (pz := 0) hN hf hb hh hF hu (j := 2) (by omega) (Or.inl ⟨by rw [L, e]; decide +kernel, rfl⟩) h1
    rw [show q_n (nsl (fmT bl N u) 1) = 0 by rw [e]; rfl] at e1
    rw [show q_n (nsl (fmT bl N u) 2) = 1 by rw [e]; rfl] at e2
    rw [e, if_pos (show q_n 0 = 0 from rfl), if_neg (show ¬ q_n 0 = (2 : Int32) by decide), if_neg (show ¬ q_n 0 = (4 : Int32) by decide), if_neg (show ¬ q_n 0 = (5 : Int32) by decide), if_pos (show q_n 0 = (0 : Int32) from rfl), bd (am_is (RX_M h)), bd e1, bd (am_is (RX_M h1)), bd e2, n]
    exact ⟨τ2, rfl, h2⟩
  · have n : nT bl N u = 6 := by unfold nT; rw [e]; decide +kernel
    obtain ⟨τ1, e1, h1⟩ := o_name (P := P) hN hf hb hh hF hu (j := 1) (by omega) (by rw [L, e]; decide +kernel) h
    obtain ⟨τ2, e2, h2⟩ := o_num (P := P) (pz := 1) hN hf hb hh hF hu (j := 2) (by omega) (Or.inr ⟨by rw [L, e]; decide +kernel, rfl⟩) h1
    obtain ⟨τ3, e3, h3⟩ := o_whl (P := P) (lo := 0) (hi := 3) hN hf hb hh hF hu (j := 3) (by omega) (Or.inl (by rw [L, e]; decide +kernel)) (fun tp bt => by rw [L, e, show lfm 1 3 = 105 by decide +kernel]; rfl) h2
    obtain ⟨τ4, e4, h4⟩ := o_whl (P := P) (lo := -8) (hi := 8) hN hf hb hh hF hu (j := 4) (by omega) (Or.inr (Or.inl (by rw [L, e]; decide +kernel))) (fun tp bt => by rw [L, e, show lfm 1 4 = 110 by decide +kernel]; rfl) h3
    obtain ⟨τ5, e5, h5⟩ := o_whl (P := P) (lo := 0) (hi := 1023) hN hf hb hh hF hu (j := 5) (by omega) (Or.inr (Or.inr (by rw [L, e]; decide +kernel))) (fun tp bt => by rw [L, e, show lfm 1 5 = 107 by decide +kernel]; rfl) h4
    rw [show q_n (nsl (fmT bl N u) 2) = 0 by rw [e]; rfl] at e2
    rw [e, if_neg (show ¬ q_n 1 = 0 by decide), bd (am_is (RX_M h)), bd (show f_X12_nameUsed P m (0 : Int32) σ = some τ1 from e1), if_neg (show ¬ q_n 1 = (2 : Int32) by decide), if_neg (show ¬ q_n 1 = (4 : Int32) by decide), if_neg (show ¬ q_n 1 = (5 : Int32) by decide), if_neg (show ¬ q_n 1 = (0 : Int32) by decide), if_pos (show q_n 1 = (1 : Int32) from rfl), bd (am_is (RX_M h1)), bd e2, bd (am_is (RX_M h2)), bd (show f_X12_wholeUsed P m (0 : Int32) 0 3 τ2 = some τ3 from e3), bd (am_is (RX_M h3)), bd (show f_X12_wholeUsed P m (1 : Int32) (-8) 8 τ3 = some τ4 from e4), bd (am_is (RX_M h4)), bd (show f_X12_wholeUsed P m (2 : Int32) 0 1023 τ4 = some τ5 from e5), n]
    exact ⟨τ5, rfl, h5⟩
  · have n : nT bl N u = 6 := by unfold nT; rw [e]; decide +kernel
    obtain ⟨τ1, e1, h1⟩ := o_name (P := P) hN hf hb hh hF hu (j := 1) (by omega) (by rw [L, e]; decide +kernel) h
    obtain ⟨τ2, e2, h2⟩ := o_name (P := P) hN hf hb hh hF hu (j := 2) (by omega) (by rw [L, e]; decide +kernel) h1
    obtain ⟨τ3, e3, h3⟩ := o_num (P := P) (pz := 1) hN hf hb hh hF hu (j := 3) (by omega) (Or.inr ⟨by rw [L, e]; decide +kernel, rfl⟩) h2
    obtain ⟨τ4, e4, h4⟩ := o_num (P := P) (pz := 1) hN hf hb hh hF hu (j := 4) (by omega) (Or.inr ⟨by rw [L, e]; decide +kernel, rfl⟩) h3
    obtain ⟨τ5, e5, h5⟩ := o_sgn (P := P) hN hf hb hh hF hu (by omega) (by rw [L, e]; decide +kernel) h4
    rw [show q_n (nsl (fmT bl N u) 3) = 0 by rw [e]; rfl] at e3
    rw [show q_n (nsl (fmT bl N u) 4) = 1 by rw [e]; rfl] at e4
    rw [e, if_neg (show ¬ q_n 2 = 0 by decide), bd (am_is (RX_M h)), bd (show f_X12_nameUsed P m (0 : Int32) σ = some τ1 from e1), if_pos (show q_n 2 = (2 : Int32) from rfl), bd (am_is (RX_M h1)), bd (show f_X12_nameUsed P m (1 : Int32) τ1 = some τ2 from e2), if_neg (show ¬ q_n 2 = (0 : Int32) by decide), if_neg (show ¬ q_n 2 = (1 : Int32) by decide), if_pos (show q_n 2 = (2 : Int32) from rfl), bd (am_is (RX_M h2)), bd e3, bd (am_is (RX_M h3)), bd e4, bd (am_is (RX_M h4)), bd e5, n]
    exact ⟨τ5, rfl, h5⟩
  · have n : nT bl N u = 6 := by unfold nT; rw [e]; decide +kernel
    obtain ⟨τ1, e1, h1⟩ := o_name (P := P) hN hf hb hh hF hu (j := 1) (by omega) (by rw [L, e]; decide +kernel) h
    obtain ⟨τ2, e2, h2⟩ := o_num (P := P) (pz := 1) hN hf hb hh hF hu (j := 2) (by omega) (Or.inr ⟨by rw [L, e]; decide +kernel, rfl⟩) h1
    obtain ⟨τ3, e3, h3⟩ := o_name (P := P) hN hf hb hh hF hu (j := 3) (by omega) (by rw [L, e]; decide +kernel) h2
    obtain ⟨τ4, e4, h4⟩ := o_name (P := P) hN hf hb hh hF hu (j := 4) (by omega) (by rw [L, e]; decide +kernel) h3
    obtain ⟨τ5, e5, h5⟩ := o_sgn (P := P) hN hf hb hh hF hu (by omega) (by rw [L, e]; decide +kernel) h4
    rw [show q_n (nsl (fmT bl N u) 2) = 0 by rw [e]; rfl] at e2
    rw [e, if_neg (show ¬ q_n 3 = 0 by decide), bd (am_is (RX_M h)), bd (show f_X12_nameUsed P m (0 : Int32) σ = some τ1 from e1), if_neg (show ¬ q_n 3 = (2 : Int32) by decide), if_neg (show ¬ q_n 3 = (4 : Int32) by decide), if_neg (show ¬ q_n 3 = (5 : Int32) by decide), if_neg (show ¬ q_n 3 = (0 : Int32) by decide), if_neg (show ¬ q_n 3 = (1 : Int32) by decide), if_neg (show ¬ q_n 3 = (2 : Int32) by decide), if_pos (show q_n 3 = (3 : Int32) from rfl), bd (am_is (RX_M h1)), bd e2, bd (am_is (RX_M h2)), bd (show f_X12_nameUsed P m (2 : Int32) τ2 = some τ3 from e3), bd (am_is (RX_M h3)), bd (show f_X12_nameUsed P m (3 : Int32) τ3 = some τ4 from e4), bd (am_is (RX_M h4)), bd e5, n]
    exact ⟨τ5, rfl, h5⟩
  · have n : nT bl N u = 5 := by unfold nT; rw [e]; decide +kernel
    obtain ⟨τ1, e1, h1⟩ := o_name (P := P) hN hf hb hh hF hu (j := 1) (by omega) (by rw [L, e]; decide +kernel) h
    obtain ⟨τ2, e2, h2⟩ := o_name (P := P) hN hf hb hh hF hu (j := 2) (by omega) (by rw [L, e]; decide +kernel) h1
    obtain ⟨τ3, e3, h3⟩ := o_num (P := P) (pz := 0) hN hf hb hh hF hu (j := 3) (by omega) (Or.inl ⟨by rw [L, e]; decide +kernel, rfl⟩) h2
    obtain ⟨τ4, e4, h4⟩ := o_num (P := P) (pz := 0) hN hf hb hh hF hu (j := 4) (by omega) (Or.inl ⟨by rw [L, e]; decide +kernel, rfl⟩) h3
    rw [show q_n (nsl (fmT bl N u) 3) = 0 by rw [e]; rfl] at e3
    rw [show q_n (nsl (fmT bl N u) 4) = 1 by rw [e]; rfl] at e4
    rw [e, if_neg (show ¬ q_n 4 = 0 by decide), bd (am_is (RX_M h)), bd (show f_X12_nameUsed P m (0 : Int32) σ = some τ1 from e1), if_neg (show ¬ q_n 4 = (2 : Int32) by decide), if_pos (show q_n 4 = (4 : Int32) from rfl), bd (am_is (RX_M h1)), bd (show f_X12_nameUsed P m (1 : Int32) τ1 = some τ2 from e2), if_neg (show ¬ q_n 4 = (0 : Int32) by decide), if_neg (show ¬ q_n 4 = (1 : Int32) by decide), if_neg (show ¬ q_n 4 = (2 : Int32) by decide), if_neg (show ¬ q_n 4 = (3 : Int32) by decide), if_pos (show q_n 4 = (4 : Int32) from rfl), bd (am_is (RX_M h2)), bd e3, bd (am_is (RX_M h3)), bd e4, n]
    exact ⟨τ4, rfl, h4⟩
  · have n : nT bl N u = 5 := by unfold nT; rw [e]; decide +kernel
    obtain ⟨τ1, e1, h1⟩ := o_name (P := P) hN hf hb hh hF hu (j := 1) (by omega) (by rw [L, e]; decide +kernel) h
    obtain ⟨τ2, e2, h2⟩ := o_name (P := P) hN hf hb hh hF hu (j := 2) (by omega) (by rw [L, e]; decide +kernel) h1
    obtain ⟨τ3, e3, h3⟩ := o_name (P := P) hN hf hb hh hF hu (j := 3) (by omega) (by rw [L, e]; decide +kernel) h2
    obtain ⟨τ4, e4, h4⟩ := o_name (P := P) hN hf hb hh hF hu (j := 4) (by omega) (by rw [L, e]; decide +kernel) h3
    rw [e, if_neg (show ¬ q_n 5 = 0 by decide), bd (am_is (RX_M h)), bd (show f_X12_nameUsed P m (0 : Int32) σ = some τ1 from e1), if_neg (show ¬ q_n 5 = (2 : Int32) by decide), if_neg (show ¬ q_n 5 = (4 : Int32) by decide), if_pos (show q_n 5 = (5 : Int32) from rfl), bd (am_is (RX_M h1)), bd (show f_X12_nameUsed P m (1 : Int32) τ1 = some τ2 from e2), if_neg (show ¬ q_n 5 = (0 : Int32) by decide), if_neg (show ¬ q_n 5 = (1 : Int32) by decide), if_neg (show ¬ q_n 5 = (2 : Int32) by decide), if_neg (show ¬ q_n 5 = (3 : Int32) by decide), if_neg (show ¬ q_n 5 = (4 : Int32) by decide), bd (am_is (RX_M h2)), bd (show f_X12_nameUsed P m (2 : Int32) τ2 = some τ3 from e3), bd (am_is (RX_M h3)), bd (show f_X12_nameUsed P m (3 : Int32) τ3 = some τ4 from e4), n]
    exact ⟨τ4, rfl, h4⟩
end IOS
