/-! ===== lk: drive, the class takes a statement ===== -/
section LKS
variable {P : mx_P} {σ σ0 σ1 σ2 τ : mx_S} {x m n t l l' p a N i k j u c f s b d nk : Nat} {bl : List Nat} {S : Nat → Nat → Prop} {K : LK} {mk pl : Nat → Nat} {B : LB}
def dgk (f : Nat) : Nat := if f = 0 then 4 else if f = 1 then 13 else if f = 2 then 25 else 31
def dgn (f : Nat) : Nat := if f = 0 then 2 else if f = 1 then 5 else 1
def dgl (f j : Nat) : Nat := by' (gst 2) (dgk f + 1 + j)
theorem dg_tab : ∀ f : Fin 4, dgk f.1 < 34 ∧ by' (gst 2) (dgk f.1) = 32 ∧ wdA (gst 2) (dgk f.1) = pk (gst (12 + f.1)) ∧ pk (gst (12 + f.1)) < 9223372036854775808 ∧ fmA (gst 2) (dgk f.1) = f.1 ∧ 0 < (gst (12 + f.1)).length ∧ (∀ b, b ∈ gst (12 + f.1) → 0 < b ∧ b < 256) := by decide +kernel
theorem dg_k : ∀ k : Fin 69, by' (gst 2) k.1 = 32 → ∃ f : Fin 4, k.1 = dgk f.1 := by decide +kernel
theorem dg_n : ∀ f : Fin 4, GL 2 (dgk f.1) (dgn f.1) := by unfold GL; decide +kernel
theorem dg_l : dgl 0 0 = 105 ∧ dgl 0 1 = 116 ∧ dgl 1 0 = 105 ∧ dgl 1 1 = 116 ∧ dgl 1 2 = 80 ∧ dgl 1 3 = 68 ∧ dgl 1 4 = 118 ∧ dgl 2 0 = 97 ∧ dgl 3 0 = 98 := by unfold dgl; decide +kernel
/-- statement u's form, its parts' places -/
def dfF (bl : List Nat) (N u : Nat) : Nat := fmA (gst 2) ((wfm bl 2 (tkI bl N (sqA bl N 2 u) 0)).getD 0)
def dKt (bl : List Nat) (N u j : Nat) : Nat := tkI bl N (psI bl N (sqA bl N 2 u) 1) j
def dLt (bl : List Nat) (N u j : Nat) : Nat := dgl (dfF bl N u) j
def dPt (B : LB) (nk : Nat) (w : List Nat) : Option Nat := r_fst (fun p => decide ((B p).2 = w)) nk
def dTp (bl : List Nat) (N u j : Nat) : Int := tpA bl (dKt bl N u j)
def dBt (bl : List Nat) (N u j : Nat) : Nat := nmB bl (nmD bl (dKt bl N u j))
/-- what is wrong with a part: 0 nothing -/
def dcd (bl : List Nat) (N : Nat) (B : LB) (nk u j : Nat) : Nat := if dLt bl N u j = 80 then (if (dPt B nk (nmA bl (dKt bl N u j))).isNone then 3 else 0) else if dLt bl N u j = 68 then 0 else if rgL (dLt bl N u j) (dTp bl N u j) (dBt bl N u j) then 0 else 5
def dbd (bl : List Nat) (N : Nat) (B : LB) (nk u j : Nat) : Bool := decide (dcd bl N B nk u j ≠ 0)
def dK (bl : List Nat) (N : Nat) (B : LB) (nk u : Nat) : Option (Nat × Nat) := if 40 ≤ u then some (6, tkI bl N (sqA bl N 2 u) 0) else (r_fst (dbd bl N B nk u) (dgn (dfF bl N u))).map fun j => (dcd bl N B nk u j, dKt bl N u j)
def dLs (bl : List Nat) (N : Nat) (B : LB) (nk : Nat) : Nat → Option (Nat × Nat)
  | 0 => none
  | u + 1 => match dLs bl N B nk u with
    | some z => some z
    | none => dK bl N B nk u
/-- what a statement orders -/
def dO (bl : List Nat) (N : Nat) (B : LB) (nk : Nat) : OD := fun u => (dfF bl N u, (dTp bl N u 0 / (dBt bl N u 0 : Int)).toNat, if dfF bl N u < 2 then dTp bl N u 1 / (dBt bl N u 1 : Int) else 0, (dPt B nk (nmA bl (dKt bl N u 2))).getD 0, decide (kdA bl (dKt bl N u 3) = 45), 65536 * dTp bl N u 4 / (dBt bl N u 4 : Int))
theorem dLs_up {z : Nat × Nat} : ∀ {d u : Nat}, dLs bl N B nk u = some z → dLs bl N B nk (u + d) = some z
  | 0, _, h => h
  | d + 1, u, h => by
    show (match dLs bl N B nk (u + d) with | some z => some z | none => dK bl N B nk (u + d)) = _
    rw [dLs_up h]
theorem dO_f (h : StO bl N 2 (sqA bl N 2 u) k n) : dfF bl N u < 4 ∧ k = dgk (dfF bl N u) ∧ n = dgn (dfF bl N u) ∧ ∀ j, j < n → by' (gst 2) (k + 1 + j) = dLt bl N u j ∧ fit (dLt bl N u j) (kdA bl (dKt bl N u j)) = true := by
  obtain ⟨k1, k2, k3⟩ := StO_k (by omega) h
  obtain ⟨f, ef⟩ := dg_k ⟨k, k1⟩ k2
  dsimp only at ef
  obtain ⟨t1, t2, t3, t4, t5, -⟩ := dg_tab f
  have e : dfF bl N u = f.1 := by
    unfold dfF
    rw [h.2.1]
    show fmA (gst 2) k = _
    rw [ef, t5]
  have en : n = dgn f.1 := by
    have := h.2.2.1
    rw [ef] at this
    exact GL_u this (dg_n f)
  refine ⟨by rw [e]; exact f.2, by rw [e]; exact ef, by rw [e]; exact en, fun j hj => ?_⟩
  have hl : by' (gst 2) (k + 1 + j) = dLt bl N u j := by unfold dLt dgl; rw [e, ef]
  have := msm_no h.2.2.2.1 j hj
  rw [hl] at this
  exact ⟨hl, this⟩
theorem dgn_5 (f : Nat) : 1 ≤ dgn f ∧ dgn f ≤ 5 := by unfold dgn; split; omega; split <;> omega
/-- the letters of a form -/
theorem dg_c (hf : f < 4) (hj : j < dgn f) : dgl f j = 80 ∨ dgl f j = 68 ∨ dgl f j = 105 ∨ dgl f j = 116 ∨ dgl f j = 97 ∨ dgl f j = 98 ∨ dgl f j = 118 := by
  obtain ⟨l0, l1, l2, l3, l4, l5, l6, l7, l8⟩ := dg_l
  obtain rfl | rfl | rfl | rfl : f = 0 ∨ f = 1 ∨ f = 2 ∨ f = 3 := by omega
  · have : j < 2 := hj
    obtain rfl | rfl : j = 0 ∨ j = 1 := by omega
    · rw [l0]; omega
    · rw [l1]; omega
  · have : j < 5 := hj
    obtain rfl | rfl | rfl | rfl | rfl : j = 0 ∨ j = 1 ∨ j = 2 ∨ j = 3 ∨ j = 4 := by omega
    · rw [l2]; omega
    · rw [l3]; omega
    · rw [l4]; omega
    · rw [l5]; omega
    · rw [l6]; omega
  · have : j < 1 := hj
    obtain rfl : j = 0 := by omega
    rw [l7]; omega
  · have : j < 1 := hj
    obtain rfl : j = 0 := by omega
    rw [l8]; omega
theorem c_rgD {c : Nat} (hT : LyT σ t) (hj : j < 6) (hl : mxI σ (t + 2) j = q_n c) (hc : c = 80 ∨ c = 68) : f_X10_isInRange P t (q_n j) σ = some (1, σ) := by
  have hz1 : ∀ σ, mr_Z 1 σ = some (1, σ) := fun σ => if_pos (Or.inr rfl)
  unfold f_X10_isInRange f_X10_isInRange_D253 f_X10_isInRange_D175 f_X10_isInRange_D174 f_X10_isInRange_D142
  rw [bd (at_r13 hT), bd (at_g13 hT hj), hl, hz1]
  rcases hc with rfl | rfl
  all_goals (repeat rw [if_neg (by decide)])
theorem c_nfB {w : List Nat} (hf : 100 ≤ mpN P) (hL : LyL (mxA σ) (mxR σ) l) (hn : nk ≤ 40) (h2 : mxI σ l 2 = q_n nk) (hc : cB σ l nk B) (hB : LBok nk B) (hw : gnm w) : f_X7_numberOf P l (l_n (pk w)) σ = some (r_fI (dPt B nk w), σ) := by
  rw [c_nof hf hL hn h2]
  congr 3
  refine fst_cg fun p hp => ?_
  obtain ⟨-, -, -, e4⟩ := hc p hp
  rw [e4]
  have hgp : gnm (B p).2 := (hB p hp).2.2.2
  have b1 := pn_63 (gnm_b hgp).1 hgp.2.1
  have b2 := pn_63 (gnm_b hw).1 hw.2.1
  rw [decide_eq_decide, l_nI b1 b2]
  exact ⟨fun z => pn_inj _ _ (gnm_b hgp).2 (gnm_b hw).2 z, fun z => by rw [z]⟩
def dtF (d t q j : Nat) : Prop := (q = t ∧ (j = 2 ∨ j = 3)) ∨ (q = d ∧ j = 3) ∨ (d + 2 ≤ q ∧ q ≤ d + 7)
theorem dcd_3 (h : dcd bl N B nk u j ≠ 0) : dcd bl N B nk u j = 3 ∨ dcd bl N B nk u j = 5 := by
  unfold dcd at h ⊢
  split
  · rename_i c; rw [if_pos c] at h
    split
    · exact Or.inl rfl
    · rename_i c2; rw [if_neg c2] at h; omega
  · rename_i c; rw [if_neg c] at h
    split
    · rename_i c2; rw [if_pos c2] at h; omega
    · rename_i c2; rw [if_neg c2] at h
      split
      · rename_i c3; rw [if_pos c3] at h; omega
      · exact Or.inr rfl
/-- the checks of all parts -/
theorem c_dck (hf : 5000 ≤ mpN P) (h256 : ∀ b, b ∈ bl → b < 256) (hT : LyT σ t) (hbt : mpb P ≤ t) (hL : LyL (mxA σ) (mxR σ) l) (htl : t + 8 ≤ l) (hn : nk ≤ 40) (h2l : mxI σ l 2 = q_n nk) (hc : cB σ l nk B) (hB : LBok nk B) (h2 : mxI σ t 2 = 0 ∧ mxI σ t 3 = 0) (f4 : dfF bl N u < 4) (h12 : mxI σ t 12 = q_n (dgn (dfF bl N u))) (hfit : ∀ j, j < dgn (dfF bl N u) → fit (dLt bl N u j) (kdA bl (dKt bl N u j)) = true) (hP : ∀ j, j < dgn (dfF bl N u) → PtI σ t bl (dLt bl N u j) (dKt bl N u j) j) (v0 : Nat) (v3 : Int32) : ∃ τ, mx_lp (f_X2_isTaken_L21 P v0 t l v3) (mpN P) ((0 : Int32), σ) = some τ ∧ Fz (fun q j => q = t ∧ (j = 2 ∨ j = 3)) σ τ ∧ ((r_fst (dbd bl N B nk u) (dgn (dfF bl N u)) = none ∧ mxI τ t 2 = 0 ∧ mxI τ t 3 = 0) ∨ ∃ j, r_fst (dbd bl N B nk u) (dgn (dfF bl N u)) = some j ∧ mxI τ t 2 = q_n (dcd bl N B nk u j) ∧ mxI τ t 3 = q_n (dKt bl N u j)) := by
  have d5 := dgn_5 (dfF bl N u)
  obtain ⟨τ, e, h⟩ := q_for (f_X2_isTaken_L21 P v0 t l v3) (fun i s => ∃ τ, s = (q_n i, τ) ∧ Fz (fun q j => q = t ∧ (j = 2 ∨ j = 3)) σ τ ∧ ((r_fst (dbd bl N B nk u) i = none ∧ mxI τ t 2 = 0 ∧ mxI τ t 3 = 0) ∨ ∃ j, r_fst (dbd bl N B nk u) i = some j ∧ mxI τ t 2 = q_n (dcd bl N B nk u j) ∧ mxI τ t 3 = q_n (dKt bl N u j))) (fun τ => Fz (fun q j => q = t ∧ (j = 2 ∨ j = 3)) σ τ ∧ ((r_fst (dbd bl N B nk u) (dgn (dfF bl N u)) = none ∧ mxI τ t 2 = 0 ∧ mxI τ t 3 = 0) ∨ ∃ j, r_fst (dbd bl N B nk u) (dgn (dfF bl N u)) = some j ∧ mxI τ t 2 = q_n (dcd bl N B nk u j) ∧ mxI τ t 3 = q_n (dKt bl N u j))) (dgn (dfF bl N u))
    (by
      rintro i s hi ⟨τ, rfl, F, hh⟩
      left
      have Tτ := F.T hT
      have Lτ : LyL (mxA τ) (mxR τ) l := by rw [F.1, F.2.1]; exact hL
      have k : ∀ q j, q ≠ t ∨ (j ≠ 2 ∧ j ≠ 3) → mxI τ q j = mxI σ q j ∧ mxL τ q j = mxL σ q j := fun q j hq => F.2.2.2 q j (by omega)
      obtain ⟨p1, p2, p3, p4, p5⟩ := hP i hi
      have hPτ : PtI τ t bl (dLt bl N u i) (dKt bl N u i) i := by
        refine ⟨?_, ?_, fun z => ?_, fun z => ⟨?_, ?_⟩, fun z => ?_⟩
        · rw [(k (t + 2) i (by omega)).1]; exact p1
        · rw [(k (t + 3) i (by omega)).1]; exact p2
        · rw [(k (t + 4) i (by omega)).2]; exact p3 z
        · rw [(k (t + 5) i (by omega)).1]; exact (p4 z).1
        · rw [(k (t + 6) i (by omega)).1]; exact (p4 z).2
        · rw [(k (t + 5) i (by omega)).1]; exact p5 z
      have lc := dg_c f4 hi
      have d92 : ∀ s', f_X2_isTaken_D92_21 P v0 t l v3 (q_n i) s' = some (.inl (q_n (i + 1), s')) := fun s' => by
        unfold f_X2_isTaken_D92_21; rw [Option.bind_some, q_nS]
      -- a part that is good
      have good : dcd bl N B nk u i = 0 → ((r_fst (dbd bl N B nk u) (i + 1) = none ∧ mxI τ t 2 = 0 ∧ mxI τ t 3 = 0) ∨ ∃ j, r_fst (dbd bl N B nk u) (i + 1) = some j ∧ mxI τ t 2 = q_n (dcd bl N B nk u j) ∧ mxI τ t 3 = q_n (dKt bl N u j)) := fun z => by
        have db : dbd bl N B nk u i = false := decide_eq_false (fun y => y z)
        rcases hh with ⟨a1, a2⟩ | ⟨j, a1, a2⟩
        · exact Or.inl ⟨by rw [r_fst, a1, db]; rfl, a2⟩
        · exact Or.inr ⟨j, by rw [r_fst, a1], a2⟩
      have bad : ∀ c, 0 < c → dcd bl N B nk u i = c → ∃ t', ((f_X10_note P t (q_n c) (q_n (dKt bl N u i)) τ).bind fun σ24 => f_X2_isTaken_D92_21 P v0 t l v3 (q_n i) σ24) = some (.inl t') ∧ ∃ τ', t' = (q_n (i + 1), τ') ∧ Fz (fun q j => q = t ∧ (j = 2 ∨ j = 3)) σ τ' ∧ ((r_fst (dbd bl N B nk u) (i + 1) = none ∧ mxI τ' t 2 = 0 ∧ mxI τ' t 3 = 0) ∨ ∃ j, r_fst (dbd bl N B nk u) (i + 1) = some j ∧ mxI τ' t 2 = q_n (dcd bl N B nk u j) ∧ mxI τ' t 3 = q_n (dKt bl N u j)) := fun c c0 hcc => by
        obtain ⟨τ', e', hn', f'⟩ := c_note (P := P) (w := q_n c) (pos := q_n (dKt bl N u i)) Tτ hbt
        have db : dbd bl N B nk u i = true := decide_eq_true (by omega)
        refine ⟨_, by rw [bd e', d92], τ', rfl, F.tr f', ?_⟩
        rcases hh with ⟨a1, a2, a3⟩ | ⟨j, a1, a2, a3⟩
        · right
          have := hn'.1 a2
          exact ⟨i, by rw [r_fst, a1, db]; rfl, by rw [hcc]; exact this.1, this.2⟩
        · right
          have c3 : dcd bl N B nk u j ≠ 0 := by
            have := r_fst_tr a1
            exact of_decide_eq_true this
          have c35 := dcd_3 c3
          have := hn'.2 (by rw [a2]; exact fun y => by have := (q_nI (k := dcd bl N B nk u j) (l := 0) (by omega) (by omega)).mp y; omega)
          exact ⟨j, by rw [r_fst, a1], this.1.trans a2, this.2.trans a3⟩
      have D71 : (dcd bl N B nk u i = 0 ∧ f_X10_isInRange P t (q_n i) τ = some (1, τ)) ∨ (dcd bl N B nk u i = 5 ∧ f_X10_isInRange P t (q_n i) τ = some (0, τ)) → ∃ t', f_X2_isTaken_D71_21 P v0 t l v3 (q_n i) τ = some (.inl t') ∧ ∃ τ', t' = (q_n (i + 1), τ') ∧ Fz (fun q j => q = t ∧ (j = 2 ∨ j = 3)) σ τ' ∧ ((r_fst (dbd bl N B nk u) (i + 1) = none ∧ mxI τ' t 2 = 0 ∧ mxI τ' t 3 = 0) ∨ ∃ j, r_fst (dbd bl N B nk u) (i + 1) = some j ∧ mxI τ' t 2 = q_n (dcd bl N B nk u j) ∧ mxI τ' t 3 = q_n (dKt bl N u j)) := fun y => by
        unfold f_X2_isTaken_D71_21
        rw [bd (at_is Tτ)]
        rcases y with ⟨y1, y2⟩ | ⟨y1, y2⟩
        · rw [bd2 y2, if_neg zi10, d92]
          exact ⟨_, rfl, τ, rfl, F, good y1⟩
        · rw [bd2 y2, if_pos rfl, bd (at_r14 Tτ), bd (at_g14 Tτ (by omega)), hPτ.2.1, bd (at_is Tτ)]
          exact bad 5 (by omega) y1
      show ∃ t', f_X2_isTaken_B21 P v0 t l v3 (q_n i) τ = some (.inl t') ∧ _
      unfold f_X2_isTaken_B21
      rw [bd (at_gI Tτ), (k t 12 (by omega)).1, h12, if_neg (qn_ge hi (by omega)), bd (at_r13 Tτ), bd (at_g13 Tτ (by omega)), hPτ.1]
      by_cases c80 : dLt bl N u i = 80
      · have k2 : kdA bl (dKt bl N u i) = 2 := fit_2 (Or.inr rfl) (by rw [← c80]; exact hfit i hi)
        have hg : gnm (nmA bl (dKt bl N u i)) := wd_gnm h256 k2
        have hcτ : cB τ l nk B := cB_rg hn hc (fun p hp => ⟨(k _ _ (by omega)).1, (k _ _ (by omega)).1, (k _ _ (by omega)).1, (k _ _ (by omega)).2⟩)
        have nf := c_nfB (P := P) (by omega) Lτ hn ((k l 2 (by omega)).1.trans h2l) hcτ hB hg
        rw [if_pos (show q_n (dLt bl N u i) = (80 : Int32) by rw [c80]; rfl), bd (at_r15 Tτ), bd (at_g15 Tτ (by omega)), show mxL τ (t + 4) i = l_n (pk (nmA bl (dKt bl N u i))) from hPτ.2.2.1 k2, bd (al_is Lτ), bd2 nf]
        cases hpt : dPt B nk (nmA bl (dKt bl N u i)) with
        | none =>
          have dc : dcd bl N B nk u i = 3 := by unfold dcd; rw [if_pos c80, hpt]; rfl
          rw [if_neg (show ¬ (0 : Int32) ≤ r_fI none by decide), bd (at_r14 Tτ), bd (at_g14 Tτ (by omega)), hPτ.2.1, bd (at_is Tτ)]
          exact bad 3 (by omega) dc
        | some pp =>
          have dc : dcd bl N B nk u i = 0 := by unfold dcd; rw [if_pos c80, hpt]; rfl
          have hpp : pp < nk := r_fst_lt hpt
          rw [if_pos (show (0 : Int32) ≤ r_fI (some pp) by show (0 : Int32) ≤ q_n pp; rw [q_le, q_i0, q_nT (by omega)]; omega)]
          exact D71 (Or.inl ⟨dc, c_rgD Tτ (by omega) hPτ.1 (Or.inl c80)⟩)
      · rw [if_neg (show ¬ q_n (dLt bl N u i) = (80 : Int32) from fun y => c80 ((q_nI (l := 80) (by unfold dLt; omega) (by omega)).mp y))]
        by_cases c68 : dLt bl N u i = 68
        · have dc : dcd bl N B nk u i = 0 := by unfold dcd; rw [if_neg c80, if_pos c68]
          exact D71 (Or.inl ⟨dc, c_rgD Tτ (by omega) hPτ.1 (Or.inr c68)⟩)
        · have k3 : kdA bl (dKt bl N u i) = 3 := fit_3 (by unfold dLt at c80 c68 ⊢; omega) (hfit i hi)
          have rg := c_rng (P := P) Tτ (by omega) (NmI_of h256 hPτ k3) hPτ.1 (by unfold dLt at c80 c68 ⊢; omega)
          have un : dcd bl N B nk u i = if rgL (dLt bl N u i) (dTp bl N u i) (dBt bl N u i) then 0 else 5 := by unfold dcd; rw [if_neg c80, if_neg c68]
          cases hr : rgL (dLt bl N u i) (dTp bl N u i) (dBt bl N u i) with
          | true =>
            rw [hr, if_pos rfl] at un
            refine D71 (Or.inl ⟨un, ?_⟩)
            rw [rg, show rgL (dLt bl N u i) (tpA bl (dKt bl N u i)) (nmB bl (nmD bl (dKt bl N u i))) = true from hr]; rfl
          | false =>
            rw [hr, if_neg (by decide)] at un
            refine D71 (Or.inr ⟨un, ?_⟩)
            rw [rg, show rgL (dLt bl N u i) (tpA bl (dKt bl N u i)) (nmB bl (nmD bl (dKt bl N u i))) = false from hr]; rfl)
    (by
      rintro s ⟨τ, rfl, F, hh⟩
      have Tτ := F.T hT
      show ∃ r, f_X2_isTaken_B21 P v0 t l v3 (q_n (dgn (dfF bl N u))) τ = some (.inr r) ∧ _
      unfold f_X2_isTaken_B21
      rw [bd (at_gI Tτ), F.gi (by omega), h12, if_pos ((q_nLe (by omega) (by omega)).mpr (Nat.le_refl _))]
      exact ⟨τ, rfl, F, hh⟩)
    (dgn (dfF bl N u)) 0 ((0 : Int32), σ) (mpN P) (by omega) ⟨σ, rfl, Fz.rf, Or.inl ⟨rfl, h2⟩⟩ (by omega)
  exact ⟨τ, e, h⟩
end LKS
