/-! ===== la: cam, the reference takes a statement ===== -/
section LAS
variable {P : mx_P} {σ σ0 σ1 σ2 τ : mx_S} {x m n t l p a N i k j u v c f s b q K : Nat} {bl : List Nat} {S : Nat → Nat → Prop} {e : Option Nat} {fs : Option (Nat × Nat)}
def rcF (m q j : Nat) : Prop := (q = m ∧ (4 ≤ j ∧ j ≤ 7 ∨ 14 ≤ j ∧ j ≤ 18 ∨ j = 80)) ∨ (m + 54 ≤ q ∧ q ≤ m + 58)
def RcB (σ0 : mx_S) (m : Nat) (bl : List Nat) (σ : mx_S) : Prop := LyM σ m ∧ TS σ m bl ∧ Fz (rcF m) σ0 σ
theorem RcB_f (h : RcB σ0 m bl σ) (f : Fz S σ τ) (hs : ∀ q j, S q j → rcF m q j) : RcB σ0 m bl τ := ⟨f.M h.1, TS_f h.2.1 f (fun q j z => by have := hs q j z; unfold rcF at this; omega), h.2.2.tr (f.mo hs)⟩
/-- statement v, as it is written down -/
def CVr (σ : mx_S) (m : Nat) (bl : List Nat) (N v : Nat) : Prop := mxI σ (m + 54) v = q_n (cfF bl N v) ∧ mxI σ (m + 55) v = q_n (cmW' bl N v) ∧ (cfF bl N v ≠ 0 → (mxL σ (m + 56) v).toInt = cmT' bl N v ∧ (mxL σ (m + 57) v).toInt = cmB' bl N v ∧ mxI σ (m + 58) v = q_n (cmL' bl N v)) ∧ (cfF bl N v = 0 → mxL σ (m + 56) v = 0 ∧ mxL σ (m + 57) v = 1 ∧ mxI σ (m + 58) v = 1)
theorem CVr_f (h : CVr σ m bl N v) (f : Fz S σ τ) (hs : ∀ q j, S q j → ¬ (m + 54 ≤ q ∧ q ≤ m + 58 ∧ j = v)) : CVr τ m bl N v := by
  have e2 : ∀ q, m + 54 ≤ q ∧ q ≤ m + 58 → mxI τ q v = mxI σ q v ∧ mxL τ q v = mxL σ q v := fun q z => f.2.2.2 q v fun y => hs q v y ⟨z.1, z.2, rfl⟩
  unfold CVr
  rw [(e2 (m + 54) (by omega)).1, (e2 (m + 55) (by omega)).1, (e2 (m + 56) (by omega)).2, (e2 (m + 57) (by omega)).2, (e2 (m + 58) (by omega)).1]
  exact h
def orE (a b : Option (Nat × Nat)) : Option (Nat × Nat) := match a with
  | some z => some z
  | none => b
theorem r_foE (hM : LyM σ m) (hb : mpb P ≤ m) (h : FtL σ m fs) (hc0 : 0 < c) (hc : c < 10) (hq : q < 5000) (hz : ∀ z, fs = some z → z.2 ≤ q) : ∃ τ, f_X12_found P m (q_n c) (q_n q) σ = some τ ∧ FtL τ m (orE fs (some (c, q))) ∧ Fz (fnF m) σ τ := by
  obtain ⟨τ, e, h1, f⟩ := r_fnd (P := P) hM hb h hc0 hc hq
  refine ⟨τ, e, ?_, f⟩
  cases fs with
  | none => exact h1
  | some z =>
    have := hz z rfl
    obtain ⟨c', q'⟩ := z
    unfold ntM at h1
    dsimp only at h1 this
    rw [if_neg (by omega)] at h1
    exact h1
/-- a whole number of the reference -/
theorem r_who {lo hi : Int} {L H : Int64} (hM : LyM σ m) (hb : mpb P ≤ m) (hk : TkR σ m bl s) (k3 : kdA bl s = 3) (hs : s < 5000) (h : FtL σ m fs) (hz : ∀ z, fs = some z → z.2 ≤ s) (hL : L.toInt = lo) (hH : H.toInt = hi) : ∃ τ, f_X12_wholeNumber P m L H σ = some τ ∧ Fz (fnF m) σ τ ∧ FtL τ m (if whB (tpA bl s) (nmB bl (nmD bl s)) lo hi then fs else orE fs (some (5, s))) := by
  obtain ⟨k14, k15, k16, k17⟩ := hk
  have hRd := k17 k3
  rw [rd_wh hRd]
  have bad : ¬ ((mxL σ m 18).toInt = 1 ∧ lo ≤ (mxL σ m 17).toInt ∧ (mxL σ m 17).toInt ≤ hi) → ∃ τ, f_X12_wholeNumber_D21 P m σ = some τ ∧ Fz (fnF m) σ τ ∧ FtL τ m (if decide ((mxL σ m 18).toInt = 1 ∧ lo ≤ (mxL σ m 17).toInt ∧ (mxL σ m 17).toInt ≤ hi) = true then fs else orE fs (some (5, s))) := fun z => by
    obtain ⟨τ1, e, h1, f⟩ := r_foE (P := P) (c := 5) hM hb h (by omega) (by omega) hs hz
    refine ⟨τ1, ?_, f, ?_⟩
    · unfold f_X12_wholeNumber_D21 f_X12_wholeNumber_D30
      rw [bd (am_gI hM), k16, bd (am_is hM), bd (show f_X12_found P m (5 : Int32) (q_n s) σ = some τ1 from e)]
    · rw [decide_eq_false z, if_neg (by decide)]; exact h1
  have y1 : mr_Z 1 σ = some (1, σ) := if_pos (Or.inr rfl)
  have y0 : mr_Z 0 σ = some (0, σ) := if_pos (Or.inl rfl)
  unfold f_X12_wholeNumber f_X12_wholeNumber_D30
  rw [bd (am_gL hM)]
  by_cases c1 : mxL σ m 18 = 1
  · have c1' : (mxL σ m 18).toInt = 1 := by rw [c1]; rfl
    rw [if_pos (q_cmp0.mpr c1), bd (am_gL hM)]
    unfold f_X12_in f_X12_in_D17 f_X12_in_D18
    rw [y1, y0]
    by_cases c2 : lg_cmp (mxL σ m 17) L < 0
    · rw [if_pos c2, bd2 rfl, if_pos rfl]
      exact bad (by rw [q_cmp_lt, q_llt, hL] at c2; omega)
    rw [if_neg c2]
    by_cases c3 : 0 < lg_cmp (mxL σ m 17) H
    · rw [if_pos c3, bd2 rfl, if_pos rfl]
      exact bad (by rw [q_cmp_gt, q_llt, hH] at c3; omega)
    rw [if_neg c3, bd2 rfl, if_neg zi10]
    rw [q_cmp_lt, q_llt, hL] at c2
    rw [q_cmp_gt, q_llt, hH] at c3
    refine ⟨σ, rfl, Fz.rf, ?_⟩
    rw [decide_eq_true ⟨c1', by omega, by omega⟩, if_pos rfl]
    exact h
  · rw [if_neg (fun z => c1 (q_cmp0.mp z))]
    exact bad (fun z => c1 (Int64.toInt.inj (z.1.trans rfl)))
/-- a whole number's value -/
theorem rd_v {lo hi : Int} {tp np nq : Int} {bt : Nat} (h : Rdc tp bt np nq) (hb : 0 < bt) (hw : whB tp bt lo hi = true) : np = tp / (bt : Int) := by
  have h2 := rd_wh (lo := lo) (hi := hi) h
  rw [hw] at h2
  obtain ⟨q1, -⟩ := of_decide_eq_true h2.symm
  obtain ⟨g, gp, e1, e2, -⟩ := h
  rw [q1, Int.one_mul] at e2
  rw [e1, e2, Int.mul_ediv_cancel _ (by omega)]
/-- a fraction's value -/
theorem rd_f {tp np nq : Int} {bt : Nat} (h : Rdc tp bt np nq) : np = tp / (gcI tp bt : Int) ∧ nq = (bt : Int) / (gcI tp bt : Int) := by
  obtain ⟨g, gp, e1, e2, e3, e4⟩ := h
  have g1 : gcI np nq = 1 := by
    unfold gcI
    rw [show nq.natAbs = nq.toNat by omega]
    exact e3
  have bp : 1 ≤ (bt : Int) := by
    rw [e2]
    have := Int.mul_pos e4 (show (0 : Int) < g by omega)
    omega
  obtain ⟨g', gp', y1, y2, y3⟩ := lw_u (X := np) (Z := nq) (N := tp) (D := bt) (by omega) bp (by rw [e1, e2]; grind) g1
  rw [y3]
  constructor
  · rw [y1]; exact (Int.mul_ediv_cancel _ (by omega)).symm
  · rw [y2]; exact (Int.mul_ediv_cancel _ (by omega)).symm
/-- scanning on -/
theorem r_sc1 (hN : N = 4000) (hf : 20000 ≤ mpN P) (hb : mpb P ≤ m) (hp : p ≤ bl.length) (h : RcB σ0 m bl σ) (hk : TkR σ m bl (tkI bl N p i)) (h1 : kdA bl (tkI bl N p i) ≠ 1) : ∃ τ, f_X12_scan P m σ = some τ ∧ RcB σ0 m bl τ ∧ TkR τ m bl (tkI bl N p (i + 1)) ∧ Fz (fun q j => q = m ∧ 14 ≤ j ∧ j ≤ 18) σ τ := by
  have hs := (tkI_le (N := N) hp i).2
  obtain ⟨τ, e, hk', f⟩ := r_tok (P := P) hN hf h.1 hb h.2.1 (hk.1 h1) (enA_le hs).2.1
  exact ⟨τ, e, RcB_f h f fun q j z => by unfold rcF; omega, hk', f⟩
def RcX (σ0 : mx_S) (m : Nat) (bl : List Nat) (q : Nat) (σ : mx_S) : Prop := RcB σ0 m bl σ ∧ mxI σ m 4 = 1 ∧ mxI σ m 5 = q_n q
/-- between statements -/
def RcI (σ0 : mx_S) (m : Nat) (bl : List Nat) (N u : Nat) (σ : mx_S) : Prop := RcB σ0 m bl σ ∧ (mxI σ m 4 = 0 ∧ mxI σ m 5 = 0) ∧ FtL σ m (cmLs bl N u) ∧ (∀ z, cmLs bl N u = some z → z.2 ≤ sqA bl N 1 u) ∧ mxI σ m 80 = q_n (min u 30) ∧ (cmLs bl N u = none → ∀ v, v < u → CVr σ m bl N v) ∧ TkR σ m bl (tkI bl N (sqA bl N 1 u) 0)
def RcP (σ0 : mx_S) (m : Nat) (bl : List Nat) (N u : Nat) (τ : mx_S) : Prop := ((∃ k n, StO bl N 1 (sqA bl N 1 u) k n) ∧ RcI σ0 m bl N (u + 1) τ) ∨ ∃ q, StF bl N 1 (sqA bl N 1 u) q ∧ RcX σ0 m bl q τ
/-- inside statement u, its token j; w: where it is written down -/
def RcJ (σ0 : mx_S) (m : Nat) (bl : List Nat) (N u j : Nat) (fs : Option (Nat × Nat)) (σ : mx_S) : Prop := RcB σ0 m bl σ ∧ (mxI σ m 4 = 0 ∧ mxI σ m 5 = 0) ∧ FtL σ m fs ∧ (∀ z, fs = some z → z.2 ≤ tkI bl N (sqA bl N 1 u) j) ∧ mxI σ m 80 = q_n (min u 30) ∧ (cmLs bl N u = none → ∀ v, v < u → CVr σ m bl N v) ∧ TkR σ m bl (tkI bl N (sqA bl N 1 u) j)
def rcW (u : Nat) : Int32 := if u < 30 then q_n u else -1
theorem rcW_n (h : ¬ u < 30) : rcW u < 0 := by unfold rcW; rw [if_neg h]; decide
theorem rcW_p (h : u < 30) : rcW u = q_n u ∧ ¬ rcW u < 0 := by
  unfold rcW; rw [if_pos h]
  exact ⟨rfl, by rw [q_lt, q_nT (by omega), q_i0]; omega⟩
theorem tk_upp (hp : p ≤ bl.length) (j : Nat) : tkI bl N p j ≤ tkI bl N p (j + 1) := by
  have h1 := tkI_le (N := N) hp j
  have h2 := tkI_le (N := N) hp (j + 1)
  have h3 := (enA_le (bs := bl) h1.2).1
  have : psI bl N p (j + 1) = enA bl (tkI bl N p j) := rfl
  omega
/-- the next token -/
theorem RcJ_sc (hN : N = 4000) (hf : 20000 ≤ mpN P) (hb : mpb P ≤ m) (hp : sqA bl N 1 u ≤ bl.length) (h : RcJ σ0 m bl N u j fs σ) (h1 : kdA bl (tkI bl N (sqA bl N 1 u) j) ≠ 1) : ∃ τ, f_X12_scan P m σ = some τ ∧ RcJ σ0 m bl N u (j + 1) fs τ ∧ Fz (fun q j => q = m ∧ 14 ≤ j ∧ j ≤ 18) σ τ := by
  obtain ⟨a1, a2, a3, a4, a5, a6, a7⟩ := h
  obtain ⟨τ, e, b1, b2, f⟩ := r_sc1 (P := P) hN hf hb hp a1 a7 h1
  have up := tk_upp (N := N) hp j
  refine ⟨τ, e, ⟨b1, ⟨(f.gi (by omega)).trans a2.1, (f.gi (by omega)).trans a2.2⟩, FtL_f a3 f (fun q j z => by omega), fun z hz => Nat.le_trans (a4 z hz) up, (f.gi (by omega)).trans a5, fun hn v hv => CVr_f (a6 hn v hv) f (fun q j z => by omega), b2⟩, f⟩
/-- the end of statement u -/
theorem r_cE (hN : N = 4000) (hf : 20000 ≤ mpN P) (hb : mpb P ≤ m) (hp : sqA bl N 1 u ≤ bl.length) (f3 : f < 3) (k2 : kdA bl (tkI bl N (sqA bl N 1 u) 0) = 2) (hw : wfm bl 1 (tkI bl N (sqA bl N 1 u) 0) = some (cgk f)) (hno : r_fst (msm bl N 1 (cgk f) (psI bl N (sqA bl N 1 u) 1)) (cgn f) = none) (h : RcJ σ0 m bl N u (cgn f + 1) (cmLs bl N (u + 1)) σ) (hv : cmLs bl N (u + 1) = none → CVr σ m bl N u) (h30 : ¬ u < 30 → cmLs bl N (u + 1) ≠ none) : ∃ τ, f_X12_camStatement_D274 P m (rcW u) σ = some τ ∧ RcP σ0 m bl N u τ := by
  obtain ⟨a1, a2, a3, a4, a5, a6, a7⟩ := h
  have hM := a1.1
  have hG := (cg_n ⟨f, f3⟩).1
  unfold f_X12_camStatement_D274 f_X12_camStatement_D299 f_X12_ends f_X12_ends_D13
  by_cases c : kdA bl (tkI bl N (sqA bl N 1 u) (cgn f + 1)) = 59
  · have c' : kdA bl (tkI bl N (psI bl N (sqA bl N 1 u) 1) (cgn f)) = 59 := by rw [tk_sh]; exact c
    have hSt : StO bl N 1 (sqA bl N 1 u) (cgk f) (cgn f) := ⟨k2, hw, hG, hno, c'⟩
    have e1 : sqA bl N 1 (u + 1) = psI bl N (sqA bl N 1 u) (cgn f + 2) := nxA_e hSt
    have ty : f_X12_takes P m 59 σ = some (1, σ) := r_tkY hM a2.1 (by rw [a7.2.1, c]; rfl)
    obtain ⟨τ, e, b1, b2, fz⟩ := r_sc1 (P := P) hN hf hb hp a1 a7 (by rw [c]; decide)
    have b2' : TkR τ m bl (tkI bl N (sqA bl N 1 (u + 1)) 0) := by
      have : tkI bl N (sqA bl N 1 (u + 1)) 0 = tkI bl N (sqA bl N 1 u) (cgn f + 1 + 1) := by
        show skN bl N (sqA bl N 1 (u + 1)) = _
        rw [e1]; rfl
      rw [this]; exact b2
    have le : tkI bl N (sqA bl N 1 u) (cgn f + 1) ≤ sqA bl N 1 (u + 1) := by
      rw [e1]
      exact (enA_le (bs := bl) (tkI_le (N := N) hp (cgn f + 1)).2).1
    have z4 : mxI τ m 4 = 0 := (fz.gi (by omega)).trans a2.1
    have z5 : mxI τ m 5 = 0 := (fz.gi (by omega)).trans a2.2
    have ft := FtL_f a3 fz (fun q j z => by omega)
    have c80 : mxI τ m 80 = q_n (min u 30) := (fz.gi (by omega)).trans a5
    have vals : cmLs bl N (u + 1) = none → ∀ v, v < u + 1 → CVr τ m bl N v := fun hn v hv' => by
      have hn' : cmLs bl N u = none := by
        have h' : (match cmLs bl N u with | some z => some z | none => cmK bl N u) = none := hn
        cases hz : cmLs bl N u with
        | some z => rw [hz] at h'; exact absurd h' (by simp)
        | none => rfl
      by_cases ev : v = u
      · rw [ev]; exact CVr_f (hv hn) fz (fun q j z => by omega)
      · exact CVr_f (a6 hn' v (by omega)) fz (fun q j z => by omega)
    rw [bd (am_is hM)]
    have body : ((mx_is σ m 12).bind fun i1 => mx_b2 (f_X12_takes P m (59 : Int32) σ) fun x4 σ3 => (if x4 = 0 then some σ3 else (mx_is σ3 m 12).bind fun i7 => (f_X12_scan P m σ3).bind fun σ9 => some σ9)) = some τ := by
      rw [bd (am_is hM), bd2 ty, if_neg zi10, bd (am_is hM), bd e]
    rw [bd body, bd (am_gI b1.1), z4, if_pos rfl]
    by_cases u30 : u < 30
    · obtain ⟨w1, w2⟩ := rcW_p u30
      rw [if_neg w2, bd (am_gI b1.1), c80, q_nS, bd (am_pI b1.1 hb _)]
      have fz2 : Fz (fun q j => q = m ∧ j = 80) τ (mx_setI τ m 80 (q_n (min u 30 + 1))) := Fz.rf.sI ⟨rfl, rfl⟩ _
      refine ⟨_, rfl, Or.inl ⟨⟨_, _, hSt⟩, RcB_f b1 fz2 (fun q j z => by unfold rcF; omega), ⟨(sI_n (by omega)).trans z4, (sI_n (by omega)).trans z5⟩, FtL_f ft fz2 (fun q j z => by omega), fun z hz => Nat.le_trans (a4 z hz) le, ?_, fun hn v hv' => CVr_f (vals hn v hv') fz2 (fun q j z => by omega), TkR_f b2' fz2 (fun q j z => by omega)⟩⟩
      rw [sI_e]
      congr 1
      omega
    · rw [if_pos (rcW_n u30)]
      refine ⟨τ, rfl, Or.inl ⟨⟨_, _, hSt⟩, b1, ⟨z4, z5⟩, ft, fun z hz => Nat.le_trans (a4 z hz) le, ?_, fun hn => absurd hn (h30 u30), b2'⟩⟩
      rw [c80]
      congr 1
      omega
  · obtain ⟨τ, e, h3, h4, fz⟩ := r_tkN (P := P) (w := 59) hM hb a2.1 (by rw [a7.2.1]; exact fun z => c (rk59 z))
    have hMτ := fz.M hM
    rw [bd (am_is hM)]
    have body : ((mx_is σ m 12).bind fun i1 => mx_b2 (f_X12_takes P m (59 : Int32) σ) fun x4 σ3 => (if x4 = 0 then some σ3 else (mx_is σ3 m 12).bind fun i7 => (f_X12_scan P m σ3).bind fun σ9 => some σ9)) = some τ := by
      rw [bd (am_is hM), bd2 e, if_pos rfl]
    rw [bd body, bd (am_gI hMτ), h3, if_neg (by decide)]
    refine ⟨τ, rfl, Or.inr ⟨tkI bl N (sqA bl N 1 u) (cgn f + 1), Or.inr ⟨_, _, cgn f, k2, hw, hG, Or.inr ⟨hno, rfl, by rw [tk_sh]; exact c⟩, (tk_sh _).symm⟩, RcB_f a1 fz (fun q j z => by unfold wrF at z; unfold rcF; omega), h3, h4.trans a7.2.2.1⟩⟩
end LAS
