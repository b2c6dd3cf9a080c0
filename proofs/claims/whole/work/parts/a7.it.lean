/-! ===== it: what hangs on what, and the order, the reference's ===== -/
section ITS
variable {P : mx_P} {σ σ0 σ1 σ2 τ : mx_S} {x m n t l p q a N i k j u v w K c s f r : Nat} {bl : List Nat} {o : List Nat} {A : Nat → Nat → Nat} {np : Nat → Nat}
/-- whom a slot names -/
def onA (bl : List Nat) (N K v k : Nat) : Option Nat := if k + 1 < nT bl N v ∧ lT bl N v (k + 1) = 80 then telA bl N K (nmA bl (tkT bl N v (k + 1))) else none
def OnR (σ : mx_S) (m : Nat) (bl : List Nat) (N K : Nat) : Prop := ∀ v, v < K → ∀ k, k < 4 → mxI σ (m + 30) (4 * v + k) = r_fI (onA bl N K v k)
theorem onA_lt (h : onA bl N K v k = some w) : w < K := by
  unfold onA at h
  split at h
  · exact r_fst_lt h
  · cases h
theorem r_on (hf : 20000 ≤ mpN P) (hb : mpb P ≤ m) (hG : GdT bl N K) (hK : K ≤ 40) (hM : LyM σ m) (hTS : TS σ m bl) (hNm : NmR σ m bl N K) (hRc : RcR σ m bl N K 0) (hUn : UnR σ m bl N K) : ∃ τ, mx_lp (f_X12_linkage_L67 P m) (mpN P) ((0 : Int32), σ) = some τ ∧ Fz (fun q _ => q = m + 30) σ τ ∧ OnR τ m bl N K := by
  have hlen := hTS.1
  have h256 := TS_256 hTS
  have hsq := sqA_b hG
  have hT : ∀ v, v < K → ∀ i, tkT bl N v i ≤ bl.length := fun v hv i => tkT_le (hsq v (by omega)).2
  refine q_for (f_X12_linkage_L67 P m) (fun w t => ∃ τ, t = (q_n w, τ) ∧ Fz (fun q _ => q = m + 30) σ τ ∧ ∀ v k, k < 4 → 4 * v + k < w → mxI τ (m + 30) (4 * v + k) = r_fI (onA bl N K v k)) (fun τ => Fz (fun q _ => q = m + 30) σ τ ∧ OnR τ m bl N K) (4 * K) ?_ ?_ (4 * K) 0 ((0 : Int32), σ) (mpN P) (by omega) ⟨σ, rfl, Fz.rf, fun v k _ h => absurd h (Nat.not_lt_zero _)⟩ (by omega)
  · rintro w t hw ⟨τ, rfl, f, h⟩
    left
    obtain ⟨v, k, hk4, rfl⟩ : ∃ v k, k < 4 ∧ w = 4 * v + k := ⟨w / 4, w % 4, by omega, by omega⟩
    have hv : v < K := by omega
    have hMt := f.M hM
    have hTSt : TS τ m bl := TS_f hTS f (fun q j z => by omega)
    have hNt : NmR τ m bl N K := NmR_f hNm f (fun q j z => by omega)
    have g : ∀ q k, q ≠ m + 30 → mxI τ q k = mxI σ q k := fun q k z => (f.2.2.2 q k z).1
    have wr : ∀ x : Int32, x = r_fI (onA bl N K v k) → Fz (fun q _ => q = m + 30) σ (mx_setI τ (m + 30) (4 * v + k) x) ∧ ∀ v' k', k' < 4 → 4 * v' + k' < 4 * v + k + 1 → mxI (mx_setI τ (m + 30) (4 * v + k) x) (m + 30) (4 * v' + k') = r_fI (onA bl N K v' k') := fun x hx => by
      refine ⟨f.sI rfl _, fun v' k' h4 hlt => ?_⟩
      by_cases e : 4 * v' + k' = 4 * v + k
      · have e1 : v' = v := by omega
        have e2 : k' = k := by omega
        rw [e1, e2, sI_e, hx]
      · rw [sI_n (by omega)]; exact h v' k' h4 (by omega)
    show ∃ t', f_X12_linkage_B67 P m (q_n (4 * v + k)) τ = _ ∧ _
    unfold f_X12_linkage_B67 f_X12_linkage_D111_67
    rw [bd (am_gI hMt), hNt.1, show (4 : Int32) = q_n 4 from rfl, q_nM, if_neg (by rw [q_nLe (by omega) (by omega)]; omega), bd (am_r47 hMt), bd (am_r43 hMt), bd (am_g43 hMt (by omega)), g _ _ (by omega)]
    by_cases c : k + 1 < nT bl N v ∧ lT bl N v (k + 1) = 80
    · obtain ⟨hh, hfit, -, -⟩ := gd_h h256 hG hv
      have hP := (hRc v (k + 1) (bfr_z.mpr ⟨hv, c.1⟩) (by omega)).1 c.2
      rw [show k + 1 - 1 = k by omega] at hP
      have k2 : kdA bl (tkT bl N v (k + 1)) = 2 := by
        have := hfit (k + 1) c.1
        rw [c.2] at this
        exact fit_2 (Or.inr rfl) this
      have hs := hT v hv (k + 1)
      have he := enA_le (bs := bl) hs
      have hlt := he.2.2 (kd59_lt (by rw [k2]; decide))
      rw [hP.2, if_neg (fun z => by rw [show (0 : Int32) = q_n 0 from rfl, q_nI (by omega) (by omega)] at z; omega), bd (am_r42 hMt), bd (am_g42 hMt (by omega)), g _ _ (by omega), hP.1, bd (am_r43 hMt), bd (am_g43 hMt (by omega)), g _ _ (by omega), hP.2, bd (am_is hMt), bd2 (r_told (by omega) hMt hTSt hNt (by omega) (fun v hv => hT v hv 0) hs), bd (am_s47 hMt hb (by omega) _), bds, q_nS]
      obtain ⟨w1, w2⟩ := wr (r_fI (telA bl N K (nmA bl (tkT bl N v (k + 1))))) (by unfold onA; rw [if_pos c])
      exact ⟨_, rfl, _, rfl, w1, w2⟩
    · rw [hUn v hv (by omega) k hk4 c, if_pos rfl, bd (am_s47 hMt hb (by omega) _), bds, q_nS]
      obtain ⟨w1, w2⟩ := wr (-1) (by unfold onA; rw [if_neg c]; rfl)
      exact ⟨_, rfl, _, rfl, w1, w2⟩
  · rintro t ⟨τ, rfl, f, h⟩
    refine ⟨τ, ?_, f, fun v hv k hk => h v k hk (by omega)⟩
    show f_X12_linkage_B67 P m (q_n (4 * K)) τ = _
    unfold f_X12_linkage_B67
    rw [bd (am_gI (f.M hM)), (f.2.2.2 _ _ (fun z => by omega)).1, hNm.1, show (4 : Int32) = q_n 4 from rfl, q_nM, if_pos (by rw [q_nLe (by omega) (by omega)]; exact Nat.le_refl _)]
/-- how far the order is -/
def OrR (σ : mx_S) (m K : Nat) (o : List Nat) : Prop := (∀ q, q < K → mxI σ (m + 32) q = bI (decide (q ∈ o))) ∧ (∀ i q, o[i]? = some q → mxI σ (m + 31) i = q_n q) ∧ o.Nodup ∧ ∀ q, q ∈ o → q < K
def okO (bl : List Nat) (N K : Nat) (o : List Nat) (p k : Nat) : Bool := match onA bl N K p k with
  | none => true
  | some w => decide (w ∈ o)
def rdO (bl : List Nat) (N K : Nat) (o : List Nat) (p : Nat) : Nat → Bool
  | 0 => true
  | k + 1 => rdO bl N K o p k && okO bl N K o p k
theorem r_rdy {a b : Int32} (hf : 100 ≤ mpN P) (hM : LyM σ m) (hK : K ≤ 40) (hO : OnR σ m bl N K) (hR : OrR σ m K o) (hp : p < K) : mx_lp (f_X12_findOrder_L61 P m a b (q_n p)) (mpN P) ((1 : Int32), (0 : Int32), σ) = some (bI (rdO bl N K o p 4), σ) := by
  obtain ⟨r, e, hr⟩ := q_for (f_X12_findOrder_L61 P m a b (q_n p)) (fun k t => t = (bI (rdO bl N K o p k), q_n k, σ)) (fun r => r = (bI (rdO bl N K o p 4), σ)) 4
    (by
      rintro k t hk rfl
      left
      show ∃ t', f_X12_findOrder_B61 P m a b (q_n p) (bI (rdO bl N K o p k)) (q_n k) σ = _ ∧ _
      unfold f_X12_findOrder_B61 f_X12_findOrder_D109_61 f_X12_findOrder_D105_61 f_X12_findOrder_D110_61
      rw [if_neg (by rw [show (4 : Int32) = q_n 4 from rfl, q_nLe (by omega) (by omega)]; omega)]
      cases c : rdO bl N K o p k with
      | true =>
        have ix : (4 : Int32) * q_n p + q_n k = q_n (4 * p + k) := by rw [show (4 : Int32) = q_n 4 from rfl, q_nM, q_nA]
        rw [if_neg (show ¬ bI true = 0 by decide), bd (am_r47 hM), ix, bd (am_g47 hM (by omega)), hO p hp k hk]
        cases h : onA bl N K p k with
        | none =>
          rw [if_pos (show r_fI none < 0 by decide), bds, q_nS]
          exact ⟨_, rfl, by rw [rdO, c]; unfold okO; rw [h]; rfl⟩
        | some w =>
          have hw := onA_lt h
          rw [if_neg (show ¬ r_fI (some w) < 0 by show ¬ q_n w < 0; rw [show (0 : Int32) = q_n 0 from rfl, q_nLt (by omega) (by omega)]; omega), bd (am_r49 hM), bd (am_r47 hM), bd (am_g47 hM (by omega)), hO p hp k hk, h, bd (show ma_I σ (m + 32) 3 (r_fI (some w)) = some (bI (decide (w ∈ o))) from (am_g49 hM (by omega)).trans (by rw [hR.1 w hw]))]
          by_cases d : w ∈ o
          · rw [decide_eq_true d, if_neg (show ¬ bI true = 0 by decide), bds, q_nS]
            exact ⟨_, rfl, by rw [rdO, c]; unfold okO; rw [h]; dsimp only; rw [decide_eq_true d]; rfl⟩
          · rw [decide_eq_false d, if_pos (show bI false = 0 from rfl), bds, q_nS]
            exact ⟨_, rfl, by rw [rdO, c]; unfold okO; rw [h]; dsimp only; rw [decide_eq_false d]; rfl⟩
      | false =>
        rw [if_pos (show bI false = 0 from rfl), bds, q_nS]
        exact ⟨_, rfl, by rw [rdO, c]; rfl⟩)
    (by
      rintro t rfl
      refine ⟨_, ?_, rfl⟩
      show f_X12_findOrder_B61 P m a b (q_n p) (bI (rdO bl N K o p 4)) (q_n 4) σ = _
      unfold f_X12_findOrder_B61
      rw [if_pos (show (4 : Int32) ≤ q_n 4 by decide)])
    4 0 ((1 : Int32), (0 : Int32), σ) (mpN P) (by omega) rfl (by omega)
  rw [e, hr]
theorem paA_ex : ∀ k, ∃ z, paA A np o k = o ++ z
  | 0 => ⟨[], (List.append_nil o).symm⟩
  | k + 1 => by
    obtain ⟨z, hz⟩ := paA_ex k
    rw [paA]
    unfold adA
    split
    · exact ⟨z, hz⟩
    · split
      · exact ⟨z ++ [k], by rw [hz, List.append_assoc]⟩
      · exact ⟨z, hz⟩
theorem paA_len (k : Nat) : o.length ≤ (paA A np o k).length := by
  obtain ⟨z, hz⟩ := paA_ex (A := A) (np := np) (o := o) k
  rw [hz, List.length_append]; omega
theorem paA_same {k : Nat} (h : (paA A np o k).length = o.length) : paA A np o k = o := by
  obtain ⟨z, hz⟩ := paA_ex (A := A) (np := np) (o := o) k
  rw [hz, List.length_append] at h
  have : z = [] := List.length_eq_zero_iff.mp (by omega)
  rw [hz, this, List.append_nil]
def orF (m : Nat) : Nat → Nat → Prop := fun q _ => q = m + 31 ∨ q = m + 32
theorem OrR_f {S : Nat → Nat → Prop} (h : OrR σ m K o) (f : Fz S σ τ) (hs : ∀ q k, S q k → q ≠ m + 31 ∧ q ≠ m + 32) : OrR τ m K o := ⟨fun q hq => (f.2.2.2 _ _ (fun z => (hs _ _ z).2 rfl)).1.trans (h.1 q hq), fun i q hi => (f.2.2.2 _ _ (fun z => (hs _ _ z).1 rfl)).1.trans (h.2.1 i q hi), h.2.2⟩
theorem OrR_a (hb : mpb P ≤ m) (hM : LyM σ m) (hK : K ≤ 40) (hR : OrR σ m K o) (hp : p < K) (hn : p ∉ o) : ∃ τ, ms_I P σ (m + 32) 3 (q_n p) (vp_nar .boolean (1 : Int32)) = some (mx_setI σ (m + 32) p 1) ∧ ms_I P (mx_setI σ (m + 32) p 1) (m + 31) 0 (q_n o.length) (q_n p) = some τ ∧ Fz (orF m) σ τ ∧ OrR τ m K (o ++ [p]) := by
  obtain ⟨h1, h2, h3, h4⟩ := hR
  have hl : o.length + 1 ≤ K := nd_len K (p :: o) (List.nodup_cons.mpr ⟨hn, h3⟩) (fun q hq => by
    rcases List.mem_cons.mp hq with rfl | hq
    · exact hp
    · exact h4 q hq)
  have hM1 : LyM (mx_setI σ (m + 32) p 1) m := hM
  refine ⟨_, am_s49 hM hb (by omega) _, am_s48 hM1 hb (by omega) _, (Fz.rf.sI (Or.inr rfl) _).sI (Or.inl rfl) _, fun q hq => ?_, fun i q hi => ?_, List.nodup_append.mpr ⟨h3, by simp, fun a ha b hb' => by rw [List.mem_singleton] at hb'; rintro rfl; rw [hb'] at ha; exact hn ha⟩, fun q hq => ?_⟩
  · rw [sI_n (by omega)]
    by_cases e : q = p
    · rw [e, sI_e, decide_eq_true (List.mem_append.mpr (Or.inr (List.mem_singleton.mpr rfl)))]; rfl
    · rw [sI_n (by omega), h1 q hq]
      by_cases d : q ∈ o
      · rw [decide_eq_true d, decide_eq_true (List.mem_append.mpr (Or.inl d))]
      · rw [decide_eq_false d, decide_eq_false (fun z => by
          rcases List.mem_append.mp z with z | z
          · exact d z
          · exact e (List.mem_singleton.mp z))]
  · rcases ls_app hi with z | ⟨z1, z2⟩
    · have hil : i < o.length := by
        rcases Nat.lt_or_ge i o.length with y | y
        · exact y
        · rw [List.getElem?_eq_none y] at z; cases z
      rw [sI_n (by omega), sI_n (by omega)]
      exact h2 i q z
    · have hi0 : i = o.length ∧ q = p := by
        rcases hd : i - o.length with _ | d
        · rw [hd] at z2
          have : p = q := Option.some.inj z2
          exact ⟨by omega, this.symm⟩
        · rw [hd] at z2; cases z2
      obtain ⟨rfl, rfl⟩ := hi0
      exact sI_e
  · rcases List.mem_append.mp hq with z | z
    · exact h4 q z
    · rw [List.mem_singleton.mp z]; exact hp
theorem r_pass (hf : 100 ≤ mpN P) (hb : mpb P ≤ m) (hM : LyM σ m) (hK : K ≤ 40) (hO : OnR σ m bl N K) (h38 : mxI σ m 38 = q_n K) (hR : OrR σ m K o) (hA : ∀ p, p < K → ∀ o, rdO bl N K o p 4 = true ↔ ∀ j, j < np p → A p j ∈ o) :
    ∃ τ, mx_lp (f_X12_findOrder_L35 P m) (mpN P) (q_n o.length, (0 : Int32), (0 : Int32), σ) = some (q_n (paA A np o K).length, bI (decide ((paA A np o K).length ≠ o.length)), τ) ∧ Fz (orF m) σ τ ∧ OrR τ m K (paA A np o K) := by
  obtain ⟨r, e, τ, hr, f, hh⟩ := q_for (f_X12_findOrder_L35 P m) (fun p t => ∃ τ, t = (q_n (paA A np o p).length, bI (decide ((paA A np o p).length ≠ o.length)), q_n p, τ) ∧ Fz (orF m) σ τ ∧ OrR τ m K (paA A np o p)) (fun r => ∃ τ, r = (q_n (paA A np o K).length, bI (decide ((paA A np o K).length ≠ o.length)), τ) ∧ Fz (orF m) σ τ ∧ OrR τ m K (paA A np o K)) K
    (by
      rintro p t hp ⟨τ, rfl, f, hr⟩
      left
      have hMt := f.M hM
      have i38 : mxI τ m 38 = q_n K := (f.2.2.2 _ _ (fun z => by unfold orF at z; omega)).1.trans h38
      have hOt : OnR τ m bl N K := fun v hv k hk => (f.2.2.2 _ _ (fun z => by unfold orF at z; omega)).1.trans (hO v hv k hk)
      show ∃ t', f_X12_findOrder_B35 P m (q_n (paA A np o p).length) (bI (decide ((paA A np o p).length ≠ o.length))) (q_n p) τ = _ ∧ _
      unfold f_X12_findOrder_B35 f_X12_findOrder_D145_35
      rw [bd (am_gI hMt), i38, if_neg (by rw [q_nLe (by omega) (by omega)]; omega), bd (am_r49 hMt), bd (am_g49 hMt (by omega)), hr.1 p hp]
      by_cases c : p ∈ paA A np o p
      · have e : paA A np o (p + 1) = paA A np o p := if_pos c
        rw [decide_eq_true c, if_neg (show ¬ bI true = 0 by decide), bds, q_nS]
        exact ⟨_, rfl, τ, by rw [e], f, by rw [e]; exact hr⟩
      · rw [decide_eq_false c, if_pos (show bI false = 0 from rfl), bd (r_rdy hf hMt hK hOt hr hp)]
        dsimp only
        cases d : rdO bl N K (paA A np o p) p 4 with
        | true =>
          have e : paA A np o (p + 1) = paA A np o p ++ [p] := by
            rw [paA]; unfold adA; rw [if_neg c, if_pos ((hA p hp _).mp d)]
          obtain ⟨τ', s1, s2, f', hr'⟩ := OrR_a (P := P) hb hMt hK hr hp c
          have hM1 : LyM (mx_setI τ (m + 32) p 1) m := hMt
          have hlen := paA_len (A := A) (np := np) (o := o) p
          rw [if_neg (show ¬ bI true = 0 by decide), bd (am_r49 hMt), bd s1, bd (am_r48 hM1), bd s2, bds, bds, q_nS, q_nS]
          refine ⟨_, rfl, τ', ?_, f.tr f', by rw [e]; exact hr'⟩
          rw [e, List.length_append, decide_eq_true (show (paA A np o p).length + [p].length ≠ o.length by show (paA A np o p).length + 1 ≠ o.length; omega)]
          rfl
        | false =>
          have e : paA A np o (p + 1) = paA A np o p := by
            rw [paA]; unfold adA; rw [if_neg c, if_neg (fun z => by rw [(hA p hp _).mpr z] at d; cases d)]
          rw [if_pos (show bI false = 0 from rfl), bds, q_nS]
          exact ⟨_, rfl, τ, by rw [e], f, by rw [e]; exact hr⟩)
    (by
      rintro t ⟨τ, rfl, f, hr⟩
      refine ⟨_, ?_, τ, rfl, f, hr⟩
      show f_X12_findOrder_B35 P m (q_n (paA A np o K).length) (bI (decide ((paA A np o K).length ≠ o.length))) (q_n K) τ = _
      unfold f_X12_findOrder_B35
      rw [bd (am_gI (f.M hM)), (f.2.2.2 _ _ (fun z => by unfold orF at z; omega)).1, h38, if_pos (by rw [q_nLe (by omega) (by omega)]; exact Nat.le_refl _)])
    K 0 (q_n o.length, (0 : Int32), (0 : Int32), σ) (mpN P) (by omega) ⟨σ, by rw [show paA A np o 0 = o from rfl, decide_eq_false (show ¬ o.length ≠ o.length from fun z => z rfl)]; rfl, Fz.rf, hR⟩ (by omega)
  exact ⟨τ, by rw [e, hr], f, hh⟩
end ITS
