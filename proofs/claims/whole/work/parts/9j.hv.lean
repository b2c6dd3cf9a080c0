/-! ===== hv: a joint becomes what a statement tells ===== -/
section HVX
variable {σ : mx_S} {l : Nat} {E : Nat → BV}
theorem bx_bs {t' : Nat} {r : rw3} {V : BV} (h : ∀ q, bx σ l q → RB (rd σ q) (E q)) (hr : RB r V) : ∀ q, bx (bs σ t' r) l q → RB (rd (bs σ t' r) q) (up E t' V q) := by
  intro q hb
  have hb' : bx σ l q := hb
  by_cases e : q = t'
  · subst e; rw [rd_e, up_e]; exact hr
  · rw [rd_n e, up_n e]; exact h q hb'
end HVX
section HVS
variable {P : mx_P} {σ σ0 σ1 σ2 τ : mx_S} {x m n t l p a N i k j u K c np : Nat} {bs : List Nat} {on : Nat → Nat} {E : Nat → BV} {inp pow msk mi bt mark : Int32}
def JS (σ : mx_S) (l c np : Nat) (on : Nat → Nat) (inp pow msk mi bt : Int32) (E : Nat → BV) : Prop := mxI σ c 3 = q_n np ∧ (∀ j, j < np → mxI σ (c + 1) j = q_n (on j)) ∧ mxI σ c 4 = inp ∧ mxI σ c 5 = pow ∧ mxI σ c 8 = msk ∧ mxI σ c 6 = mi ∧ mxI σ c 7 = bt ∧ ∀ q, bx σ l q → RB (rd σ q) (E q)
def jF (c : Nat) : Nat → Nat → Prop := fun q j => (q = c ∧ 3 ≤ j ∧ j ≤ 8) ∨ (c + 1 ≤ q ∧ q ≤ c + 6)
theorem PtI_j {d s j' : Nat} (h : PtI σ t bs d s j') (hc : t + 8 ≤ c) (f : Fz (jF c) σ τ) : PtI τ t bs d s j' := by
  obtain ⟨q1, q2, q3, q4, q5⟩ := h
  have e : ∀ b, b ≤ 6 → mxI τ (t + b) j' = mxI σ (t + b) j' ∧ mxL τ (t + b) j' = mxL σ (t + b) j' := fun b hb => f.2.2.2 _ _ (fun z => by unfold jF at z; omega)
  refine ⟨?_, ?_, fun z => ?_, fun z => ⟨?_, ?_⟩, fun z => ?_⟩
  · rw [(e 2 (by omega)).1]; exact q1
  · rw [(e 3 (by omega)).1]; exact q2
  · rw [(e 4 (by omega)).2]; exact q3 z
  · rw [(e 5 (by omega)).1]; exact (q4 z).1
  · rw [(e 6 (by omega)).1]; exact (q4 z).2
  · rw [(e 5 (by omega)).1]; exact q5 z
theorem tdC_j (h : tdC σ t bs N i K) (hc : t + 8 ≤ c) (f : Fz (jF c) σ τ) : tdC τ t bs N i K :=
  ⟨(f.2.2.2 _ _ (fun z => by unfold jF at z; omega)).1.trans h.1, fun j h1 h2 => by rw [(f.2.2.2 _ _ (fun z => by unfold jF at z; omega)).2]; exact h.2 j h1 h2⟩
/-- a cell of the joint that is no box -/
theorem bx_sI {q' j' : Nat} {v : Int32} (h : ∀ q, bx σ l q → RB (rd σ q) (E q)) (hq : mxA σ q' ≠ some (.inl 0)) : ∀ q, bx (mx_setI σ q' j' v) l q → RB (rd (mx_setI σ q' j' v) q) (E q) := by
  intro q hb
  have hb' : bx σ l q := hb
  have hne : q ≠ q' := fun z => hq (by rw [← z]; exact hb'.2.2)
  have e : rd (mx_setI σ q' j' v) q = rd σ q := by unfold rd; rw [sI_n (fun z => hne z.1)]; rfl
  rw [e]; exact h q hb'
section
variable {bs : List Nat}
theorem bJ_5 (hJ : LyJ (mxA σ) (mxR σ) c) : mxA σ c ≠ some (.inl 0) ∧ mxA σ (c + 1) ≠ some (.inl 0) := by
  rw [LyJ_o hJ, LyJ_a2 hJ]; exact ⟨by simp, by simp⟩
theorem b_pre {d : Nat} {fst : Int32} (hT : LyT σ t) (hj : j < 6) (hn : mxI σ t 12 = q_n n) (hjn : j < n) (hn6 : n ≤ 6) (hl : mxI σ (t + 2) j = q_n d) (hd : d < 128) : f_X5_become_B63 P c t mark fst (q_n j) σ = (if d = 120 ∨ d = 114 then f_X5_become_D96_63 P c t mark fst (q_n j) σ else (mx_is σ c 5).bind fun _ => (f_X5_takePart P c t (q_n j) mark σ).bind fun σ61 => some (.inl (fst, q_n (j + 1), σ61))) := by
  have nq : ∀ e : Nat, e < 128 → (q_n d = q_n e ↔ d = e) := fun e he => q_nI (by omega) (by omega)
  unfold f_X5_become_B63 f_X5_become_D144_63
  rw [bd (at_gI hT), hn, if_neg (by rw [q_nLe (by omega) (by omega)]; omega), bd (at_r13 hT), bd (at_g13 hT hj), hl, bd (at_r13 hT), bd (at_g13 hT hj), hl]
  by_cases c1 : d = 120
  · rw [if_pos (by rw [c1]; rfl), if_pos (Or.inl c1)]
  rw [if_neg (show ¬ q_n d = (120 : Int32) from fun z => c1 ((nq 120 (by omega)).mp z))]
  by_cases c2 : d = 114
  · rw [if_pos (by rw [c2]; rfl), if_pos (Or.inr c2)]
  rw [if_neg (show ¬ q_n d = (114 : Int32) from fun z => c2 ((nq 114 (by omega)).mp z)), if_neg (show ¬ (d = 120 ∨ d = 114) by omega)]
  simp only [bds, q_nS]
/-- a part P -/
theorem b_P {s v : Nat} {fst : Int32} (hf : 5000 ≤ mpN P) (hT : LyT σ t) (hJ : LyJ (mxA σ) (mxR σ) c) (hb : mpb P ≤ c) (h256 : ∀ b, b ∈ bs → b < 256) (hTd : tdC σ t bs N 0 K) (hK : K ≤ 450) (hg : ∀ j, j < K → gnm (cnA bs N 0 j)) (hj : j < 6) (hn : mxI σ t 12 = q_n n) (hjn : j < n) (hn6 : n ≤ 6) (hP : PtI σ t bs 80 s j) (hk : kdA bs s = 2) (htl : telA bs N K (nmA bs s) = some v) (hnp : np < 4) (h : JS σ l c np on inp pow msk mi bt E) :
    ∃ τ, f_X5_become_B63 P c t mark fst (q_n j) σ = some (.inl (fst, q_n (j + 1), τ)) ∧ JS τ l c (np + 1) (upl on np v) inp pow msk mi bt E ∧ Fz (jF c) σ τ := by
  obtain ⟨q1, q2, q3, q4, q5⟩ := id hP
  obtain ⟨h3, hon, h4, h5, h8, h6, h7, hE⟩ := h
  obtain ⟨n5, n1⟩ := bJ_5 hJ
  have hw := wd_gnm h256 hk
  have tel : f_X10_tellerOf P t (l_n (pk (seg bs s (enA bs s)))) σ = some (q_n v, σ) := by
    rw [c_tell hf hT hTd hw hg, show min K 450 = K by omega, show r_fst (fun j => decide (cnA bs N 0 j = seg bs s (enA bs s))) K = some v from htl]; rfl
  obtain ⟨σ1, e1⟩ : ∃ σ1, σ1 = mx_setI σ (c + 1) np (q_n v) := ⟨_, rfl⟩
  have hJ1 : LyJ (mxA σ1) (mxR σ1) c := by rw [e1]; exact hJ
  have p3 : mxI σ1 c 3 = q_n np := by rw [e1, sI_n (by omega)]; exact h3
  have eN : ma_n σ (c + 1) 0 = some (q_n 4) := by unfold ma_n; rw [LyJ_a2 hJ]; rfl
  have r2 : mg_R σ c 5 2 = some (c + 1) := (q_gR (LyJ_o hJ)).trans (LyJ_r2 hJ)
  have tk : f_X5_takePart P c t (q_n j) mark σ = some (mx_setI σ1 c 3 (q_n (np + 1))) := by
    unfold f_X5_takePart f_X5_takePart_D186
    rw [bd (at_r13 hT), bd (at_g13 hT hj), q1, if_pos (by rfl), bd (q_gI (LyJ_o hJ)), h3, bd r2, bd eN, if_neg (by rw [q_nLe (by omega) (by omega)]; omega), bd r2, bd (q_gI (LyJ_o hJ)), h3, bd (at_r15 hT), bd (at_g15 hT hj), q3 hk, bd (at_is hT), bd2 tel, bd (q_sIn (LyJ_a2 hJ) (by omega) (by omega) (by omega) _), ← e1, bd (q_gI (LyJ_o hJ1)), p3, q_nS, bd (q_pI (LyJ_o hJ1) hb _)]
  refine ⟨_, by rw [b_pre hT hj hn hjn hn6 q1 (by omega), if_neg (by omega), bd (q_is (LyJ_o hJ)), bd tk], ⟨sI_e, fun j' hj' => ?_, ?_, ?_, ?_, ?_, ?_, ?_⟩, ?_⟩
  · rw [sI_n (by omega), e1]
    unfold upl
    by_cases z : j' = np
    · rw [if_pos z, z]; exact sI_e
    · rw [if_neg z, sI_n (by omega)]; exact hon j' (by omega)
  · rw [sI_n (by omega), e1, sI_n (by omega)]; exact h4
  · rw [sI_n (by omega), e1, sI_n (by omega)]; exact h5
  · rw [sI_n (by omega), e1, sI_n (by omega)]; exact h8
  · rw [sI_n (by omega), e1, sI_n (by omega)]; exact h6
  · rw [sI_n (by omega), e1, sI_n (by omega)]; exact h7
  · refine bx_sI (σ := σ1) ?_ (by rw [e1]; exact n5)
    rw [e1]; exact bx_sI hE n1
  · rw [e1]; exact (Fz.rf.sI (Or.inr (by omega)) _).sI (Or.inl (by omega)) _
/-- a part i -/
theorem b_i {s v : Nat} {fst : Int32} (hT : LyT σ t) (hJ : LyJ (mxA σ) (mxR σ) c) (hb : mpb P ≤ c) (h256 : ∀ b, b ∈ bs → b < 256) (hj : j < 6) (hn : mxI σ t 12 = q_n n) (hjn : j < n) (hn6 : n ≤ 6) (hP : PtI σ t bs 105 s j) (hk : kdA bs s = 3) (hv : (tpA bs s).tdiv (nmB bs (nmD bs s)) = v) (hv4 : v < 4) (h : JS σ l c np on inp pow msk mi bt E) :
    ∃ τ, f_X5_become_B63 P c t mark fst (q_n j) σ = some (.inl (fst, q_n (j + 1), τ)) ∧ JS τ l c np on (q_n v) pow ((256 : Int32) <<< (q_n v &&& 31)) mi bt E ∧ Fz (jF c) σ τ := by
  obtain ⟨q1, q2, q3, q4, q5⟩ := id hP
  obtain ⟨h3, hon, h4, h5, h8, h6, h7, hE⟩ := h
  obtain ⟨n5, n1⟩ := bJ_5 hJ
  obtain ⟨w, ew, hw⟩ := c_whl (P := P) hT hj (NmI_of h256 hP hk)
  have ewv : w = q_n v := Int32.toInt.inj (by rw [hw, hv, q_nT (by omega)])
  subst ewv
  have hJ1 : LyJ (mxA (mx_setI σ c 4 (q_n v))) (mxR (mx_setI σ c 4 (q_n v))) c := hJ
  have tk : f_X5_takePart P c t (q_n j) mark σ = some (mx_setI (mx_setI σ c 4 (q_n v)) c 8 ((256 : Int32) <<< (q_n v &&& 31))) := by
    unfold f_X5_takePart f_X5_takePart_D186
    rw [bd (at_r13 hT), bd (at_g13 hT hj), q1, if_neg (by decide), if_pos (by rfl), bd (at_is hT), bd2 ew, bd (q_pI (LyJ_o hJ) hb _), bd (q_gI (LyJ_o hJ1)), sI_e, bd (q_pI (LyJ_o hJ1) hb _)]
  refine ⟨_, by rw [b_pre hT hj hn hjn hn6 q1 (by omega), if_neg (by omega), bd (q_is (LyJ_o hJ)), bd tk], ⟨?_, fun j' hj' => ?_, ?_, ?_, sI_e, ?_, ?_, bx_sI (σ := mx_setI σ c 4 (q_n v)) (bx_sI hE n5) n5⟩, (Fz.rf.sI (Or.inl (by omega)) _).sI (Or.inl (by omega)) _⟩
  · rw [sI_n (by omega), sI_n (by omega)]; exact h3
  · rw [sI_n (by omega), sI_n (by omega)]; exact hon j' hj'
  · rw [sI_n (by omega)]; exact sI_e
  · rw [sI_n (by omega), sI_n (by omega)]; exact h5
  · rw [sI_n (by omega), sI_n (by omega)]; exact h6
  · rw [sI_n (by omega), sI_n (by omega)]; exact h7
/-- a part n -/
theorem b_n {s : Nat} {fst : Int32} (hT : LyT σ t) (hJ : LyJ (mxA σ) (mxR σ) c) (hb : mpb P ≤ c) (h256 : ∀ b, b ∈ bs → b < 256) (hj : j < 6) (hn : mxI σ t 12 = q_n n) (hjn : j < n) (hn6 : n ≤ 6) (hP : PtI σ t bs 110 s j) (hk : kdA bs s = 3) (h : JS σ l c np on inp pow msk mi bt E) :
    ∃ τ w, f_X5_become_B63 P c t mark fst (q_n j) σ = some (.inl (fst, q_n (j + 1), τ)) ∧ w.toInt = (tpA bs s).tdiv (nmB bs (nmD bs s)) ∧ JS τ l c np on inp w msk mi bt E ∧ Fz (jF c) σ τ := by
  obtain ⟨q1, q2, q3, q4, q5⟩ := id hP
  obtain ⟨h3, hon, h4, h5, h8, h6, h7, hE⟩ := h
  obtain ⟨n5, n1⟩ := bJ_5 hJ
  obtain ⟨w, ew, hw⟩ := c_whl (P := P) hT hj (NmI_of h256 hP hk)
  have tk : f_X5_takePart P c t (q_n j) mark σ = some (mx_setI σ c 5 w) := by
    unfold f_X5_takePart f_X5_takePart_D186
    rw [bd (at_r13 hT), bd (at_g13 hT hj), q1, if_neg (by decide), if_neg (by decide), if_neg (by decide), if_pos (by rfl), bd (at_is hT), bd2 ew, bd (q_pI (LyJ_o hJ) hb _)]
  refine ⟨_, w, by rw [b_pre hT hj hn hjn hn6 q1 (by omega), if_neg (by omega), bd (q_is (LyJ_o hJ)), bd tk], hw, ⟨?_, fun j' hj' => ?_, ?_, sI_e, ?_, ?_, ?_, bx_sI hE n5⟩, Fz.rf.sI (Or.inl (by omega)) _⟩
  · rw [sI_n (by omega)]; exact h3
  · rw [sI_n (by omega)]; exact hon j' hj'
  · rw [sI_n (by omega)]; exact h4
  · rw [sI_n (by omega)]; exact h8
  · rw [sI_n (by omega)]; exact h6
  · rw [sI_n (by omega)]; exact h7
/-- a part S -/
theorem b_S {s mk : Nat} {fst : Int32} (hT : LyT σ t) (hJ : LyJ (mxA σ) (mxR σ) c) (hb : mpb P ≤ c) (hj : j < 6) (hn : mxI σ t 12 = q_n n) (hjn : j < n) (hn6 : n ≤ 6) (hP : PtI σ t bs 83 s j) (hk : kdA bs s ≠ 3) (h : JS σ l c np on inp pow msk mi bt E) :
    ∃ τ, f_X5_become_B63 P c t (q_n mk) fst (q_n j) σ = some (.inl (fst, q_n (j + 1), τ)) ∧ JS τ l c np on inp pow (if kdA bs s = 63 then (1 : Int32) <<< (q_n mk &&& 31) else msk) (if kdA bs s = 45 then 1 else 0) (if kdA bs s = 63 then q_n mk else bt) E ∧ Fz (jF c) σ τ := by
  obtain ⟨q1, q2, q3, q4, q5⟩ := id hP
  obtain ⟨h3, hon, h4, h5, h8, h6, h7, hE⟩ := h
  obtain ⟨n5, n1⟩ := bJ_5 hJ
  have e16 : mxI σ (t + 5) j = kdA bs s := q5 hk
  have key : ∀ w0 : Int32, (w0 = 0 ∨ w0 = 1) → w0 = (if kdA bs s = 45 then 1 else 0) → t ≠ c → t + 5 ≠ c → ∃ τ, f_X5_takePart_D160 P c t (q_n j) (q_n mk) w0 c σ = some τ ∧ JS τ l c np on inp pow (if kdA bs s = 63 then (1 : Int32) <<< (q_n mk &&& 31) else msk) (if kdA bs s = 45 then 1 else 0) (if kdA bs s = 63 then q_n mk else bt) E ∧ Fz (jF c) σ τ := by
    intro w0 hw hw2 htc htc5
    have hT1 : LyT (mx_setI σ c 6 w0) t := hT
    have hJ1 : LyJ (mxA (mx_setI σ c 6 w0)) (mxR (mx_setI σ c 6 w0)) c := hJ
    have hJ2 : LyJ (mxA (mx_setI (mx_setI σ c 6 w0) c 7 (q_n mk))) (mxR (mx_setI (mx_setI σ c 6 w0) c 7 (q_n mk))) c := hJ
    unfold f_X5_takePart_D160 f_X5_takePart_D186
    rw [bd (q_pZ (LyJ_o hJ) hb hw), bd (at_r16 hT1), bd (at_g16 hT1 hj), sI_n (fun z => htc5 z.1), e16, ← hw2]
    by_cases c63 : kdA bs s = 63
    · rw [if_pos c63, if_pos c63, if_pos c63, bd (q_pI (LyJ_o hJ1) hb _), bd (q_pI (LyJ_o hJ2) hb _)]
      refine ⟨_, rfl, ⟨?_, fun j' hj' => ?_, ?_, ?_, sI_e, ?_, ?_, bx_sI (σ := mx_setI (mx_setI σ c 6 w0) c 7 (q_n mk)) (bx_sI (σ := mx_setI σ c 6 w0) (bx_sI hE n5) n5) n5⟩, ((Fz.rf.sI (Or.inl (by omega)) _).sI (Or.inl (by omega)) _).sI (Or.inl (by omega)) _⟩
      · rw [sI_n (by omega), sI_n (by omega), sI_n (by omega)]; exact h3
      · rw [sI_n (by omega), sI_n (by omega), sI_n (by omega)]; exact hon j' hj'
      · rw [sI_n (by omega), sI_n (by omega), sI_n (by omega)]; exact h4
      · rw [sI_n (by omega), sI_n (by omega), sI_n (by omega)]; exact h5
      · rw [sI_n (by omega), sI_n (by omega)]; exact sI_e
      · rw [sI_n (by omega)]; exact sI_e
    · rw [if_neg c63, if_neg c63, if_neg c63]
      refine ⟨_, rfl, ⟨?_, fun j' hj' => ?_, ?_, ?_, ?_, sI_e, ?_, bx_sI hE n5⟩, Fz.rf.sI (Or.inl (by omega)) _⟩
      · rw [sI_n (by omega)]; exact h3
      · rw [sI_n (by omega)]; exact hon j' hj'
      · rw [sI_n (by omega)]; exact h4
      · rw [sI_n (by omega)]; exact h5
      · rw [sI_n (by omega)]; exact h8
      · rw [sI_n (by omega)]; exact h7
  have htc : t ≠ c := fun z => by have := LyJ_o hJ; rw [← z] at this; have h2 := hT.1; rw [h2] at this; cases this
  have htc5 : t + 5 ≠ c := fun z => by
    have := LyJ_o hJ
    rw [← z, (hT.2 4 16 0 6 rfl).2] at this; cases this
  obtain ⟨τ, e, hjs, f⟩ := key (if kdA bs s = 45 then 1 else 0) (by split; exact Or.inr rfl; exact Or.inl rfl) rfl htc htc5
  refine ⟨τ, ?_, hjs, f⟩
  have tk : f_X5_takePart P c t (q_n j) (q_n mk) σ = some τ := by
    unfold f_X5_takePart
    rw [bd (at_r13 hT), bd (at_g13 hT hj), q1, if_neg (by decide), if_neg (by decide), if_neg (by decide), if_neg (by decide), bd (at_r16 hT), bd (at_g16 hT hj), e16]
    by_cases c45 : kdA bs s = 45
    · rw [if_pos c45]; rw [if_pos c45] at e; exact e
    · rw [if_neg c45]; rw [if_neg c45] at e; exact e
  rw [b_pre hT hj hn hjn hn6 q1 (by omega), if_neg (by omega), bd (q_is (LyJ_o hJ)), bd tk]
end
end HVS
