/-! ===== ln: drive, the reference's parts ===== -/
section LNS
variable {P : mx_P} {σ σ0 σ1 σ2 τ : mx_S} {x m n t l p a N i k j u v c f s b q K nk : Nat} {bl w : List Nat} {S : Nat → Nat → Prop} {e : Option Nat} {fs : Option (Nat × Nat)} {B : LB}
theorem r_pnI (hf : 100 ≤ mpN P) (hM : LyM σ m) (hw : w.length ≤ 8) (hs : s + w.length ≤ 4000) (h : ∀ j, j < w.length → by' w j < 256 ∧ mxI σ (m + 1) (s + j) = q_n (by' w j)) (hB : rB σ m nk B) (hg : LBok nk B) (hn : nk ≤ 40) (hk : k < nk) (h19 : mxI σ m 19 = q_n nk) : f_X12_pointNamed_B2 P m (q_n s) (q_n w.length) (q_n k) σ = (if (B k).2 = w then some (.inr (.inl (q_n k, σ))) else some (.inl (q_n (k + 1), σ))) := by
  obtain ⟨-, -, -, b4, b5⟩ := hB k hk
  obtain ⟨-, -, -, g1, g2, g3⟩ := hg k hk
  unfold f_X12_pointNamed_B2
  rw [bd (am_gI hM), h19, if_neg (by rw [q_nLe (by omega) (by omega)]; omega), bd (am_r31 hM), bd (am_g31 hM (by omega)), b4]
  have fin : ∀ b : Bool, f_X12_pointNamed_D78_2 P m (q_n s) (q_n w.length) (q_n k) (bI b) σ = (if b then some (.inr (.inl (q_n k, σ))) else some (.inl (q_n (k + 1), σ))) := by
    intro b
    unfold f_X12_pointNamed_D78_2
    cases b
    · rw [if_pos (by rfl), bds, q_nS]; rfl
    · rw [if_neg (by decide)]; rfl
  by_cases c : (B k).2.length = w.length
  · rw [if_pos (by rw [c])]
    have hlp : mx_lp (f_X12_pointNamed_L30 P m (q_n s) (q_n w.length) (q_n k)) (mpN P) ((1 : Int32), (0 : Int32), σ) = some (bI (eqK (by' (B k).2) (by' w) w.length), σ) := by
      obtain ⟨r, er, rfl⟩ := q_for (f_X12_pointNamed_L30 P m (q_n s) (q_n w.length) (q_n k))
        (fun j v => v = (bI (eqK (by' (B k).2) (by' w) j), q_n j, σ))
        (fun r => r = (bI (eqK (by' (B k).2) (by' w) w.length), σ)) w.length
        (by
          rintro j v hj rfl
          show (∃ t', f_X12_pointNamed_B30 P m (q_n s) (q_n w.length) (q_n k) (bI (eqK (by' (B k).2) (by' w) j)) (q_n j) σ = _ ∧ _) ∨ (∃ r, f_X12_pointNamed_B30 P m (q_n s) (q_n w.length) (q_n k) (bI (eqK (by' (B k).2) (by' w) j)) (q_n j) σ = _ ∧ _)
          unfold f_X12_pointNamed_B30 f_X12_pointNamed_D70_30
          rw [if_neg (by rw [q_nLe (by omega) (by omega)]; omega)]
          cases e : eqK (by' (B k).2) (by' w) j with
          | false =>
            rw [if_pos (by rfl)]
            exact Or.inr ⟨_, rfl, by rw [eqK_le (Nat.le_of_lt hj) e]⟩
          | true =>
            have q1 := b5 j _ (by_i (l := (B k).2) (by omega))
            have q2 := h j hj
            have q3 : by' (B k).2 j < 256 := (g3 _ (List.mem_of_getElem? (by_i (l := (B k).2) (by omega)))).1
            rw [if_neg (by decide), bd (am_r32 hM), show (8 : Int32) = q_n 8 from rfl, q_nM, q_nA, bd (am_g32 hM (by omega)), q1, bd (am_r1 hM), q_nA, bd (am_g1 hM (by omega)), q2.2]
            by_cases d : by' (B k).2 j = by' w j
            · rw [if_pos (by rw [d]), bds, q_nS]
              exact Or.inl ⟨_, rfl, by rw [eqK, e, decide_eq_true d]; rfl⟩
            · rw [if_neg (fun z => d (by rw [q_nI (by omega) (by omega)] at z; exact z)), bds, q_nS]
              exact Or.inl ⟨_, rfl, by rw [eqK, e, decide_eq_false d]; rfl⟩)
        (by
          rintro v rfl
          refine ⟨_, ?_, rfl⟩
          show f_X12_pointNamed_B30 P m (q_n s) (q_n w.length) (q_n k) (bI (eqK (by' (B k).2) (by' w) w.length)) (q_n w.length) σ = _
          unfold f_X12_pointNamed_B30
          rw [if_pos (by rw [q_nLe (by omega) (by omega)]; exact Nat.le_refl _)])
        w.length 0 ((1 : Int32), (0 : Int32), σ) (mpN P) (by omega) rfl (by omega)
      exact er
    unfold f_X12_pointNamed_D25_2
    rw [bd hlp]
    show f_X12_pointNamed_D78_2 P m (q_n s) (q_n w.length) (q_n k) (bI (eqK (by' (B k).2) (by' w) w.length)) σ = _
    rw [fin]
    cases e : eqK (by' (B k).2) (by' w) w.length with
    | true => rw [if_pos rfl, if_pos ((by_ext c).mpr e)]
    | false => rw [if_neg (by decide), if_neg (fun z => by rw [(by_ext c).mp z] at e; cases e)]
  · rw [if_neg (fun z => c (by rw [q_nI (by omega) (by omega)] at z; exact z))]
    have hlp : mx_lp (f_X12_pointNamed_L30 P m (q_n s) (q_n w.length) (q_n k)) (mpN P) ((0 : Int32), (0 : Int32), σ) = some ((0 : Int32), σ) := by
      refine lp_out ?_ (by omega)
      show f_X12_pointNamed_B30 P m (q_n s) (q_n w.length) (q_n k) 0 0 σ = _
      unfold f_X12_pointNamed_B30
      rw [if_pos rfl]
      split <;> rfl
    unfold f_X12_pointNamed_D25_2
    rw [bd hlp]
    show f_X12_pointNamed_D78_2 P m (q_n s) (q_n w.length) (q_n k) (bI false) σ = _
    rw [fin, if_neg (show ¬ (false = true) by decide), if_neg (fun z => c (by rw [z]))]
theorem r_pnm (hf : 100 ≤ mpN P) (hM : LyM σ m) (hw : w.length ≤ 8) (hs : s + w.length ≤ 4000) (h : ∀ j, j < w.length → by' w j < 256 ∧ mxI σ (m + 1) (s + j) = q_n (by' w j)) (hB : rB σ m nk B) (hg : LBok nk B) (hn : nk ≤ 40) (h19 : mxI σ m 19 = q_n nk) : f_X12_pointNamed P m (q_n s) (q_n w.length) σ = some (r_fI (dPt B nk w), σ) := by
  unfold f_X12_pointNamed dPt
  obtain ⟨r, er, hr⟩ := q_for (f_X12_pointNamed_L2 P m (q_n s) (q_n w.length))
    (fun k v => v = (q_n k, σ) ∧ r_fst (fun p => decide ((B p).2 = w)) k = none)
    (fun r => (∃ k, r = .inl (q_n k, σ) ∧ r_fst (fun p => decide ((B p).2 = w)) nk = some k) ∨ (r = .inr σ ∧ r_fst (fun p => decide ((B p).2 = w)) nk = none)) nk
    (by
      rintro k v hk ⟨rfl, i2⟩
      have e := r_pnI (P := P) hf hM hw hs h hB hg hn hk h19
      show (∃ t', f_X12_pointNamed_B2 P m (q_n s) (q_n w.length) (q_n k) σ = _ ∧ _) ∨ (∃ r, f_X12_pointNamed_B2 P m (q_n s) (q_n w.length) (q_n k) σ = _ ∧ _)
      rw [e]
      by_cases c : (B k).2 = w
      · rw [if_pos c]
        exact Or.inr ⟨_, rfl, Or.inl ⟨k, rfl, fst_at hk (decide_eq_true c) i2⟩⟩
      · rw [if_neg c]
        refine Or.inl ⟨_, rfl, rfl, ?_⟩
        rw [r_fst, i2, decide_eq_false c]; rfl)
    (by
      rintro v ⟨rfl, i2⟩
      refine ⟨_, ?_, Or.inr ⟨rfl, i2⟩⟩
      show f_X12_pointNamed_B2 P m (q_n s) (q_n w.length) (q_n nk) σ = _
      unfold f_X12_pointNamed_B2
      rw [bd (am_gI hM), h19, if_pos (by rw [q_nLe (by omega) (by omega)]; exact Nat.le_refl _)])
    nk 0 ((0 : Int32), σ) (mpN P) (by omega) ⟨rfl, rfl⟩ (by omega)
  rw [bd er]
  rcases hr with ⟨k, rfl, hr⟩ | ⟨rfl, hr⟩
  · rw [hr]; rfl
  · rw [hr]; rfl
def rdF2 (m q j : Nat) : Prop := (q = m ∧ (4 ≤ j ∧ j ≤ 7 ∨ 14 ≤ j ∧ j ≤ 18 ∨ j = 105)) ∨ (m + 72 ≤ q ∧ q ≤ m + 77)
def RvB (σ0 : mx_S) (m : Nat) (bl : List Nat) (σ : mx_S) : Prop := LyM σ m ∧ TS σ m bl ∧ Fz (rdF2 m) σ0 σ
theorem RvB_f (h : RvB σ0 m bl σ) (f : Fz S σ τ) (hs : ∀ q j, S q j → rdF2 m q j) : RvB σ0 m bl τ := ⟨f.M h.1, TS_f h.2.1 f (fun q j z => by have := hs q j z; unfold rdF2 at this; omega), h.2.2.tr (f.mo hs)⟩
/-- an order, as it is written down -/
def DVr (σ : mx_S) (m : Nat) (O : OD) (v : Nat) : Prop := mxI σ (m + 72) v = q_n (O v).1 ∧ mxI σ (m + 73) v = q_n (O v).2.1 ∧ ((O v).1 < 2 → (mxI σ (m + 74) v).toInt = (O v).2.2.1) ∧ ((O v).1 = 1 → mxI σ (m + 75) v = q_n (O v).2.2.2.1 ∧ mxI σ (m + 76) v = bI (!(O v).2.2.2.2.1) ∧ (mxL σ (m + 77) v).toInt = (O v).2.2.2.2.2)
theorem DVr_f {O : OD} (h : DVr σ m O v) (f : Fz S σ τ) (hs : ∀ q j, S q j → ¬ (m + 72 ≤ q ∧ q ≤ m + 77 ∧ j = v)) : DVr τ m O v := by
  have e2 : ∀ q, m + 72 ≤ q ∧ q ≤ m + 77 → mxI τ q v = mxI σ q v ∧ mxL τ q v = mxL σ q v := fun q z => f.2.2.2 q v fun y => hs q v y ⟨z.1, z.2, rfl⟩
  unfold DVr
  rw [(e2 (m + 72) (by omega)).1, (e2 (m + 73) (by omega)).1, (e2 (m + 74) (by omega)).1, (e2 (m + 75) (by omega)).1, (e2 (m + 76) (by omega)).1, (e2 (m + 77) (by omega)).2]
  exact h
def RvX (σ0 : mx_S) (m : Nat) (bl : List Nat) (q : Nat) (σ : mx_S) : Prop := RvB σ0 m bl σ ∧ mxI σ m 4 = 1 ∧ mxI σ m 5 = q_n q
/-- between statements -/
def RvI (σ0 : mx_S) (m : Nat) (bl : List Nat) (N : Nat) (B : LB) (nk u : Nat) (σ : mx_S) : Prop := RvB σ0 m bl σ ∧ (mxI σ m 4 = 0 ∧ mxI σ m 5 = 0) ∧ FtL σ m (dLs bl N B nk u) ∧ (∀ z, dLs bl N B nk u = some z → z.2 ≤ sqA bl N 2 u) ∧ mxI σ m 105 = q_n (min u 40) ∧ (dLs bl N B nk u = none → ∀ v, v < u → DVr σ m (dO bl N B nk) v) ∧ TkR σ m bl (tkI bl N (sqA bl N 2 u) 0)
def RvP (σ0 : mx_S) (m : Nat) (bl : List Nat) (N : Nat) (B : LB) (nk u : Nat) (τ : mx_S) : Prop := ((∃ k n, StO bl N 2 (sqA bl N 2 u) k n) ∧ RvI σ0 m bl N B nk (u + 1) τ) ∨ ∃ q, StF bl N 2 (sqA bl N 2 u) q ∧ RvX σ0 m bl q τ
/-- inside statement u, its token j -/
def RvJ (σ0 : mx_S) (m : Nat) (bl : List Nat) (N : Nat) (B : LB) (nk u j : Nat) (fs : Option (Nat × Nat)) (σ : mx_S) : Prop := RvB σ0 m bl σ ∧ (mxI σ m 4 = 0 ∧ mxI σ m 5 = 0) ∧ FtL σ m fs ∧ (∀ z, fs = some z → z.2 ≤ tkI bl N (sqA bl N 2 u) j) ∧ mxI σ m 105 = q_n (min u 40) ∧ (dLs bl N B nk u = none → ∀ v, v < u → DVr σ m (dO bl N B nk) v) ∧ TkR σ m bl (tkI bl N (sqA bl N 2 u) j)
theorem RvJ_sc (hN : N = 4000) (hf : 20000 ≤ mpN P) (hb : mpb P ≤ m) (hp : sqA bl N 2 u ≤ bl.length) (h : RvJ σ0 m bl N B nk u j fs σ) (h1 : kdA bl (tkI bl N (sqA bl N 2 u) j) ≠ 1) : ∃ τ, f_X12_scan P m σ = some τ ∧ RvJ σ0 m bl N B nk u (j + 1) fs τ ∧ Fz (fun q j => q = m ∧ 14 ≤ j ∧ j ≤ 18) σ τ := by
  obtain ⟨a1, a2, a3, a4, a5, a6, a7⟩ := h
  have hs := (tkI_le (N := N) hp j).2
  obtain ⟨τ, e, b2, f⟩ := r_tok (P := P) hN hf a1.1 hb a1.2.1 (a7.1 h1) (enA_le hs).2.1
  have up := tk_upp (N := N) hp j
  exact ⟨τ, e, ⟨RvB_f a1 f fun q j z => by unfold rdF2; omega, ⟨(f.gi (by omega)).trans a2.1, (f.gi (by omega)).trans a2.2⟩, FtL_f a3 f (fun q j z => by omega), fun z hz => Nat.le_trans (a4 z hz) up, (f.gi (by omega)).trans a5, fun hn v hv => DVr_f (a6 hn v hv) f (fun q j z => by omega), b2⟩, f⟩
theorem RvJ_fn {fs' : Option (Nat × Nat)} (h : RvJ σ0 m bl N B nk u j fs σ) (f : Fz (fnF m) σ τ) (hF : FtL τ m fs') (hz : ∀ z, fs' = some z → z.2 ≤ tkI bl N (sqA bl N 2 u) j) : RvJ σ0 m bl N B nk u j fs' τ := by
  obtain ⟨a1, a2, a3, a4, a5, a6, a7⟩ := h
  exact ⟨RvB_f a1 f (fun q j z => by unfold fnF at z; unfold rdF2; omega), ⟨(f.gi (fun z => by unfold fnF at z; omega)).trans a2.1, (f.gi (fun z => by unfold fnF at z; omega)).trans a2.2⟩, hF, hz, (f.gi (fun z => by unfold fnF at z; omega)).trans a5, fun hn v hv => DVr_f (a6 hn v hv) f (fun q j z => by unfold fnF at z; omega), TkR_f a7 f (fun q j z => by unfold fnF at z; omega)⟩
/-- the faults before part j of statement u -/
def gE (bl : List Nat) (N : Nat) (B : LB) (nk u : Nat) : Nat → Option (Nat × Nat)
  | 0 => orE (dLs bl N B nk u) (if 40 ≤ u then some (6, tkI bl N (sqA bl N 2 u) 0) else none)
  | j + 1 => if dcd bl N B nk u j = 0 then gE bl N B nk u j else orE (gE bl N B nk u j) (some (dcd bl N B nk u j, dKt bl N u j))
theorem orE_s (z : Nat × Nat) (b : Option (Nat × Nat)) : orE (some z) b = some z := rfl
theorem orE_n (b : Option (Nat × Nat)) : orE none b = b := rfl
theorem gE_e (j : Nat) : gE bl N B nk u j = orE (dLs bl N B nk u) (if 40 ≤ u then some (6, tkI bl N (sqA bl N 2 u) 0) else (r_fst (dbd bl N B nk u) j).map fun i => (dcd bl N B nk u i, dKt bl N u i)) := by
  induction j with
  | zero => unfold gE r_fst; simp
  | succ j ih =>
    unfold gE
    rw [ih]
    by_cases c : dcd bl N B nk u j = 0
    · have db : dbd bl N B nk u j = false := decide_eq_false (fun y => y c)
      rw [if_pos c]
      have : r_fst (dbd bl N B nk u) (j + 1) = r_fst (dbd bl N B nk u) j := by
        rw [r_fst, db]
        cases r_fst (dbd bl N B nk u) j <;> simp
      rw [this]
    · have db : dbd bl N B nk u j = true := decide_eq_true c
      rw [if_neg c]
      generalize dLs bl N B nk u = ls
      cases ls with
      | some z => rw [orE_s, orE_s, orE_s]
      | none =>
        rw [orE_n, orE_n]
        by_cases u40 : 40 ≤ u
        · rw [if_pos u40, if_pos u40, orE_s]
        · rw [if_neg u40, if_neg u40, r_fst, db]
          cases r_fst (dbd bl N B nk u) j with
          | some i => simp [orE]
          | none => simp [orE]
theorem gE_n : gE bl N B nk u (dgn (dfF bl N u)) = dLs bl N B nk (u + 1) := by
  rw [gE_e]
  show _ = (match dLs bl N B nk u with | some z => some z | none => dK bl N B nk u)
  unfold dK
  generalize dLs bl N B nk u = ls
  cases ls with
  | some z => rw [orE_s]
  | none => rw [orE_n]
theorem dK_t : dKt bl N u j = tkI bl N (sqA bl N 2 u) (j + 1) := tk_sh j
theorem gE_b {D : Nat} (h : ∀ z, gE bl N B nk u j = some z → z.2 ≤ D) (hc : dKt bl N u j ≤ D) : ∀ z, gE bl N B nk u (j + 1) = some z → z.2 ≤ D := fun z hz => by
  unfold gE at hz
  split at hz
  · exact h z hz
  · cases hg : gE bl N B nk u j with
    | some y => rw [hg] at hz; obtain rfl := Option.some.inj hz; exact h _ hg
    | none => rw [hg] at hz; obtain rfl := Option.some.inj hz; exact hc
/-- a whole number is taken -/
theorem r_tkn {lo hi : Int32} (hN : N = 4000) (hf : 20000 ≤ mpN P) (hb : mpb P ≤ m) (hp : sqA bl N 2 u ≤ bl.length) (hl : dLt bl N u j ≠ 80 ∧ dLt bl N u j ≠ 68) (hr : ∀ tp bt, rgL (dLt bl N u j) tp bt = whB tp bt lo.toInt hi.toInt) (h : RvJ σ0 m bl N B nk u (j + 1) (gE bl N B nk u j) σ) : ∃ v τ, f_X12_taken P m lo hi σ = some (v, τ) ∧ ((kdA bl (tkI bl N (sqA bl N 2 u) (j + 1)) = 3 ∧ RvJ σ0 m bl N B nk u (j + 2) (gE bl N B nk u (j + 1)) τ ∧ (dcd bl N B nk u j = 0 → -100000 ≤ dTp bl N u j / (dBt bl N u j : Int) → dTp bl N u j / (dBt bl N u j : Int) ≤ 100000 → v.toInt = dTp bl N u j / (dBt bl N u j : Int))) ∨ (kdA bl (tkI bl N (sqA bl N 2 u) (j + 1)) ≠ 3 ∧ RvX σ0 m bl (tkI bl N (sqA bl N 2 u) (j + 1)) τ)) := by
  obtain ⟨a1, a2, a3, a4, a5, a6, a7⟩ := id h
  have hM := a1.1
  have hs := (tkI_le (N := N) hp (j + 1)).2
  have hlen := a1.2.1.1
  unfold f_X12_taken
  rw [bd (am_is hM)]
  by_cases c : kdA bl (tkI bl N (sqA bl N 2 u) (j + 1)) = 3
  · have ty : f_X12_takes P m 2 σ = some (1, σ) := r_tkY hM a2.1 (by rw [a7.2.1, c]; rfl)
    obtain ⟨s2, e2, f2, F2⟩ := r_who (P := P) (lo := lo.toInt) (hi := hi.toInt) (L := lo.toInt64) (H := hi.toInt64) hM hb a7 c (by omega) a3 a4 (Int32.toInt_toInt64 lo) (Int32.toInt_toInt64 hi)
    have ec : dKt bl N u j = tkI bl N (sqA bl N 2 u) (j + 1) := dK_t
    have un : dcd bl N B nk u j = if rgL (dLt bl N u j) (dTp bl N u j) (dBt bl N u j) then 0 else 5 := by unfold dcd; rw [if_neg hl.1, if_neg hl.2]
    have F2' : FtL s2 m (gE bl N B nk u (j + 1)) := by
      have hw : rgL (dLt bl N u j) (dTp bl N u j) (dBt bl N u j) = whB (tpA bl (tkI bl N (sqA bl N 2 u) (j + 1))) (nmB bl (nmD bl (tkI bl N (sqA bl N 2 u) (j + 1)))) lo.toInt hi.toInt := by
        rw [hr]; unfold dTp dBt; rw [ec]
      show FtL s2 m (if dcd bl N B nk u j = 0 then _ else _)
      rw [un, hw]
      cases hb' : whB (tpA bl (tkI bl N (sqA bl N 2 u) (j + 1))) (nmB bl (nmD bl (tkI bl N (sqA bl N 2 u) (j + 1)))) lo.toInt hi.toInt with
      | true => rw [hb', if_pos rfl] at F2; rw [if_pos (show (if true = true then 0 else 5) = 0 from rfl)]; exact F2
      | false => rw [hb', if_neg (by decide)] at F2; rw [if_neg (show ¬ (if false = true then 0 else 5) = 0 by decide), ec]; exact F2
    have J2 := RvJ_fn h f2 F2' (gE_b a4 (by rw [ec]; exact Nat.le_refl _))
    have M2 := J2.1.1
    obtain ⟨s3, e3, J3, -⟩ := RvJ_sc (P := P) hN hf hb hp J2 (by rw [c]; decide)
    rw [bd2 ty, if_neg zi10, bd (am_is hM), bd e2, bd (am_gL M2), Option.bind_some, bd (am_is M2), bd e3]
    refine ⟨_, _, rfl, Or.inl ⟨c, J3, fun h0 hlo hhi => ?_⟩⟩
    have hR := J2.2.2.2.2.2.2.2.2.2 c
    rw [un] at h0
    have hrg : rgL (dLt bl N u j) (dTp bl N u j) (dBt bl N u j) = true := by
      cases hx : rgL (dLt bl N u j) (dTp bl N u j) (dBt bl N u j) with
      | true => rfl
      | false => rw [hx] at h0; exact absurd h0 (by decide)
    rw [hr] at hrg
    have hv : (mxL s2 m 17).toInt = dTp bl N u j / (dBt bl N u j : Int) := by
      unfold dTp dBt at hrg ⊢
      rw [ec] at hrg ⊢
      exact rd_v hR (nmB_p c) hrg
    rw [Int64.toInt_toInt32, hv]
    exact Int.bmod_eq_of_le (by omega) (by omega)
  · obtain ⟨τ, e, h3, h4, fz⟩ := r_tkN (P := P) (w := 2) hM hb a2.1 (by rw [a7.2.1]; exact fun z => c (rk2 z))
    rw [bd2 e, if_pos rfl]
    exact ⟨_, _, rfl, Or.inr ⟨c, RvB_f a1 fz (fun q j z => by unfold wrF at z; unfold rdF2; omega), h3, h4.trans a7.2.2.1⟩⟩
end LNS
