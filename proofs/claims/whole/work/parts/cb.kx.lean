/-! ===== kx: cam, the class takes a statement ===== -/
section KXS
variable {P : mx_P} {σ σ0 σ1 σ2 τ : mx_S} {x m n t l p a N i k j u K c f s b : Nat} {bl : List Nat} {S : Nat → Nat → Prop}
def cgk (f : Nat) : Nat := if f = 0 then 5 else if f = 1 then 12 else 21
def cgn (f : Nat) : Nat := if f = 0 then 1 else 3
def cgl (j : Nat) : Nat := if j = 0 then 119 else if j = 1 then 114 else 108
theorem cg_tab : ∀ f : Fin 3, cgk f.1 < 26 ∧ by' (gst 1) (cgk f.1) = 32 ∧ wdA (gst 1) (cgk f.1) = pk (gst (9 + f.1)) ∧ pk (gst (9 + f.1)) < 9223372036854775808 ∧ fmA (gst 1) (cgk f.1) = f.1 ∧ 0 < (gst (9 + f.1)).length ∧ (∀ b, b ∈ gst (9 + f.1) → 0 < b ∧ b < 256) ∧ (gst (9 + f.1)).length ≤ 8 := by decide +kernel
theorem cg_k : ∀ k : Fin 69, by' (gst 1) k.1 = 32 → ∃ f : Fin 3, k.1 = cgk f.1 := by decide +kernel
theorem cg_n : ∀ f : Fin 3, GL 1 (cgk f.1) (cgn f.1) ∧ ∀ j : Fin 3, j.1 < cgn f.1 → by' (gst 1) (cgk f.1 + 1 + j.1) = cgl j.1 := by unfold GL; decide +kernel
/-- statement u's form, its parts' places -/
def cfF (bl : List Nat) (N u : Nat) : Nat := fmA (gst 1) ((wfm bl 1 (tkI bl N (sqA bl N 1 u) 0)).getD 0)
def cKt (bl : List Nat) (N u j : Nat) : Nat := tkI bl N (psI bl N (sqA bl N 1 u) 1) j
def cRg (bl : List Nat) (N u j : Nat) : Bool := rgL (cgl j) (tpA bl (cKt bl N u j)) (nmB bl (nmD bl (cKt bl N u j)))
def cNm (bl : List Nat) (N u j : Nat) : Nat := (tpA bl (cKt bl N u j) / (nmB bl (nmD bl (cKt bl N u j)) : Int)).toNat
def cmW' (bl : List Nat) (N u : Nat) : Nat := cNm bl N u 0
def cmL' (bl : List Nat) (N u : Nat) : Nat := cNm bl N u 2
def cmT' (bl : List Nat) (N u : Nat) : Int := tpA bl (cKt bl N u 1) / (gcI (tpA bl (cKt bl N u 1)) (nmB bl (nmD bl (cKt bl N u 1))) : Int)
def cmB' (bl : List Nat) (N u : Nat) : Int := (nmB bl (nmD bl (cKt bl N u 1)) : Int) / (gcI (tpA bl (cKt bl N u 1)) (nmB bl (nmD bl (cKt bl N u 1))) : Int)
/-- what is wrong with statement u -/
def cmK (bl : List Nat) (N u : Nat) : Option (Nat × Nat) := if 30 ≤ u then some (6, tkI bl N (sqA bl N 1 u) 0) else if cRg bl N u 0 = false then some (5, cKt bl N u 0) else if cfF bl N u = 0 then none else if cRg bl N u 1 = false then some (5, cKt bl N u 1) else if cRg bl N u 2 = false then some (5, cKt bl N u 2) else none
def cmLs (bl : List Nat) (N : Nat) : Nat → Option (Nat × Nat)
  | 0 => none
  | u + 1 => match cmLs bl N u with
    | some z => some z
    | none => cmK bl N u
theorem cmLs_up {z : Nat × Nat} : ∀ {d u : Nat}, cmLs bl N u = some z → cmLs bl N (u + d) = some z
  | 0, _, h => h
  | d + 1, u, h => by
    show (match cmLs bl N (u + d) with | some z => some z | none => cmK bl N (u + d)) = _
    rw [cmLs_up h]
theorem cO_f (h : StO bl N 1 (sqA bl N 1 u) k n) : cfF bl N u < 3 ∧ k = cgk (cfF bl N u) ∧ n = cgn (cfF bl N u) ∧ ∀ j, j < n → kdA bl (cKt bl N u j) = 3 ∧ by' (gst 1) (k + 1 + j) = cgl j := by
  obtain ⟨k1, k2, k3⟩ := StO_k (by omega) h
  obtain ⟨f, ef⟩ := cg_k ⟨k, k1⟩ k2
  dsimp only at ef
  obtain ⟨t1, t2, t3, t4, t5, -⟩ := cg_tab f
  obtain ⟨n1, n2⟩ := cg_n f
  have e : cfF bl N u = f.1 := by
    unfold cfF
    rw [h.2.1]
    show fmA (gst 1) k = _
    rw [ef, t5]
  have en : n = cgn f.1 := by
    have := h.2.2.1
    rw [ef] at this
    exact GL_u this n1
  have c3 : cgn f.1 ≤ 3 := by unfold cgn; split <;> omega
  refine ⟨by rw [e]; exact f.2, by rw [e]; exact ef, by rw [e]; exact en, fun j hj => ?_⟩
  have hl : by' (gst 1) (k + 1 + j) = cgl j := by rw [ef]; exact n2 ⟨j, by omega⟩ (by show j < cgn f.1; omega)
  have := msm_no h.2.2.2.1 j hj
  rw [hl] at this
  refine ⟨fit_3 ?_ this, hl⟩
  unfold cgl; split
  · omega
  · split <;> omega
theorem cg_ok (hr : cRg bl N u j = true) (h3 : kdA bl (cKt bl N u j) = 3) (hj : j = 0 ∨ j = 2) : tpA bl (cKt bl N u j) % (nmB bl (nmD bl (cKt bl N u j)) : Int) = 0 ∧ 1 ≤ cNm bl N u j ∧ cNm bl N u j ≤ (if j = 0 then 360 else 4) ∧ tpA bl (cKt bl N u j) / (nmB bl (nmD bl (cKt bl N u j)) : Int) = (cNm bl N u j : Int) := by
  unfold cRg rgL cgl at hr
  unfold cNm
  rcases hj with rfl | rfl
  · have : whB (tpA bl (cKt bl N u 0)) (nmB bl (nmD bl (cKt bl N u 0))) 1 360 = true := hr
    have := of_decide_eq_true this
    rw [if_pos rfl]
    omega
  · have : whB (tpA bl (cKt bl N u 2)) (nmB bl (nmD bl (cKt bl N u 2))) 1 4 = true := hr
    have := of_decide_eq_true this
    rw [if_neg (by omega)]
    omega
theorem cg_r (hr : cRg bl N u 1 = true) : 0 < tpA bl (cKt bl N u 1) ∧ tpA bl (cKt bl N u 1) ≤ 60 * (nmB bl (nmD bl (cKt bl N u 1)) : Int) := by
  have : decide (0 < tpA bl (cKt bl N u 1) ∧ tpA bl (cKt bl N u 1) ≤ 60 * (nmB bl (nmD bl (cKt bl N u 1)) : Int)) = true := hr
  exact of_decide_eq_true this
def cmV (σ : mx_S) (c k : Nat) (W K L : Nat → Nat) (T B : Nat → Int) : Prop := mxI σ (c + 1) k = q_n (W k) ∧ mxI σ (c + 2) k = (if K k = 0 then 0 else if K k = 1 then 1 else -1) ∧ mxI σ (c + 3) k = (if K k = 0 then 0 else q_n (L k)) ∧ (K k ≠ 0 → (mxL σ (c + 4) k).toInt = T k ∧ (mxL σ (c + 5) k).toInt = B k)
def ctF (c t q j : Nat) : Prop := (q = t ∧ (j = 2 ∨ j = 3)) ∨ (c ≤ q ∧ q ≤ c + 6 ∧ (q = c → j = 0))
theorem c_tkn (hf : 5000 ≤ mpN P) (h256 : ∀ b, b ∈ bl → b < 256) (hT : LyT σ t) (hbt : mpb P ≤ t) (hC : LyC (mxA σ) (mxR σ) c) (hct : t + 8 ≤ c) (h2 : mxI σ t 2 = 0 ∧ mxI σ t 3 = 0) (hO : StO bl N 1 (sqA bl N 1 u) k n) (h10 : mxI σ t 10 = q_n (fmA (gst 1) k)) (h11 : mxI σ t 11 = q_n (tkI bl N (sqA bl N 1 u) 0)) (h12 : mxI σ t 12 = q_n n) (hP : ∀ j, j < n → PtI σ t bl (by' (gst 1) (k + 1 + j)) (tkI bl N (psI bl N (sqA bl N 1 u) 1) j) j) (hu : u < 3000) (hcm : CmC σ c u (cmW' bl N) (cfF bl N) (cmL' bl N) (cmT' bl N) (cmB' bl N)) :
    ∃ r τ, f_X1_isTaken P c t (q_n u) σ = some (r, τ) ∧ Fz (ctF c t) σ τ ∧ ((r = 0 ∧ ∃ cq : Nat × Nat, cmK bl N u = some cq ∧ mxI τ t 2 = q_n cq.1 ∧ mxI τ t 3 = q_n cq.2) ∨ (r = 1 ∧ u < 30 ∧ cmK bl N u = none ∧ (mxI τ t 2 = 0 ∧ mxI τ t 3 = 0) ∧ CmC τ c (u + 1) (cmW' bl N) (cfF bl N) (cmL' bl N) (cmT' bl N) (cmB' bl N))) := by
  obtain ⟨f3, ek, en, hpt⟩ := cO_f hO
  have n3 : n ≤ 3 := by rw [en]; unfold cgn; split <;> omega
  have n1 : 1 ≤ n := by rw [en]; unfold cgn; split <;> omega
  have hP' : ∀ j, j < n → PtI σ t bl (cgl j) (cKt bl N u j) j := fun j hj => by rw [← (hpt j hj).2]; exact hP j hj
  have hN' : ∀ j, j < n → NmI σ t j (tpA bl (cKt bl N u j)) (nmB bl (nmD bl (cKt bl N u j))) := fun j hj => NmI_of h256 (hP' j hj) (hpt j hj).1
  have note : ∀ (a b : Nat), 0 < a → ∃ τ, f_X10_note P t (q_n a) (q_n b) σ = some τ ∧ Fz (ctF c t) σ τ ∧ mxI τ t 2 = q_n a ∧ mxI τ t 3 = q_n b := fun a b _ => by
    obtain ⟨τ, e, hn, f⟩ := c_note (P := P) (w := q_n a) (pos := q_n b) hT hbt
    exact ⟨τ, e, f.mo fun q j y => Or.inl y, hn.1 h2.1⟩
  unfold f_X1_isTaken
  by_cases u30 : 30 ≤ u
  · obtain ⟨τ, e, f, m2, m3⟩ := note 6 (tkI bl N (sqA bl N 1 u) 0) (by omega)
    rw [if_neg (show ¬ q_n u < (30 : Int32) by rw [show (30 : Int32) = q_n 30 from rfl, q_nLt (by omega) (by omega)]; omega), bd (at_gI hT), h11, bd (at_is hT), show (6 : Int32) = q_n 6 from rfl, bd e]
    refine ⟨0, τ, if_pos (Or.inl rfl), f, Or.inl ⟨rfl, (6, tkI bl N (sqA bl N 1 u) 0), ?_, m2, m3⟩⟩
    unfold cmK; rw [if_pos u30]
  · rw [if_pos (show q_n u < (30 : Int32) by rw [show (30 : Int32) = q_n 30 from rfl, q_nLt (by omega) (by omega)]; omega)]
    have cl : ∀ j : Nat, j ≤ 2 → (cgl j = 120 ∨ cgl j = 114 ∨ cgl j = 105 ∨ cgl j = 110 ∨ cgl j = 107 ∨ cgl j = 119 ∨ cgl j = 108 ∨ cgl j = 116 ∨ cgl j = 97 ∨ cgl j = 98 ∨ cgl j = 118) := fun j hj => by
      unfold cgl; split
      · omega
      · split <;> omega
    obtain ⟨r, e1, h1⟩ := q_for (f_X1_isTaken_L20 P c t (q_n u)) (fun i s => s = (q_n i, σ) ∧ ∀ j, j < i → cRg bl N u j = true) (fun r => (∃ i, i < n ∧ r = .inl (q_n i, σ) ∧ cRg bl N u i = false ∧ ∀ j, j < i → cRg bl N u j = true) ∨ (r = .inr σ ∧ ∀ j, j < n → cRg bl N u j = true)) n
      (by
        rintro i s hi ⟨rfl, hg⟩
        have rg := c_rng (P := P) hT (by omega) (hN' i hi) (hP' i hi).1 (cl i (by omega))
        show (∃ t', f_X1_isTaken_B20 P c t (q_n u) (q_n i) σ = some (.inl t') ∧ _) ∨ (∃ r, f_X1_isTaken_B20 P c t (q_n u) (q_n i) σ = some (.inr r) ∧ _)
        unfold f_X1_isTaken_B20
        rw [bd (at_gI hT), h12, if_neg (qn_ge hi (by omega)), bd (at_is hT), bd2 rg]
        cases hb : cRg bl N u i with
        | true =>
          left
          have hb' : rgL (cgl i) (tpA bl (cKt bl N u i)) (nmB bl (nmD bl (cKt bl N u i))) = true := hb
          rw [hb', if_neg (show ¬ bI true = 0 by decide), Option.bind_some, q_nS]
          refine ⟨_, rfl, rfl, fun j hj => ?_⟩
          by_cases ej : j = i
          · rw [ej]; exact hb
          · exact hg j (by omega)
        | false =>
          right
          have hb' : rgL (cgl i) (tpA bl (cKt bl N u i)) (nmB bl (nmD bl (cKt bl N u i))) = false := hb
          rw [hb', if_pos (show bI false = 0 by decide)]
          exact ⟨_, rfl, Or.inl ⟨i, hi, rfl, hb, hg⟩⟩)
      (by
        rintro s ⟨rfl, hg⟩
        show ∃ r, f_X1_isTaken_B20 P c t (q_n u) (q_n n) σ = some (.inr r) ∧ _
        unfold f_X1_isTaken_B20
        rw [bd (at_gI hT), h12, if_pos ((q_nLe (by omega) (by omega)).mpr (Nat.le_refl _))]
        exact ⟨_, rfl, Or.inr ⟨rfl, hg⟩⟩)
      n 0 ((0 : Int32), σ) (mpN P) (by omega) ⟨rfl, fun j hj => by omega⟩ (by omega)
    rw [bd e1]
    rcases h1 with ⟨i, hi, rfl, hb, hg⟩ | ⟨rfl, hg⟩
    · -- out of range
      obtain ⟨τ, e, f, m2, m3⟩ := note 5 (cKt bl N u i) (by omega)
      show ∃ r τ, ((mg_R σ t 10 14).bind fun b17 => (ma_I σ b17 0 (q_n i)).bind fun x19 => (mx_is σ t 10).bind fun i21 => (f_X10_note P t (5 : Int32) x19 σ).bind fun σ23 => mr_Z (0 : Int32) σ23) = some (r, τ) ∧ _
      rw [bd (at_r14 hT), bd (at_g14 hT (by omega)), (hP' i hi).2.1, bd (at_is hT), show (5 : Int32) = q_n 5 from rfl, bd e]
      refine ⟨0, τ, if_pos (Or.inl rfl), f, Or.inl ⟨rfl, (5, cKt bl N u i), ?_, m2, m3⟩⟩
      unfold cmK
      rw [if_neg u30]
      obtain rfl | rfl | rfl : i = 0 ∨ i = 1 ∨ i = 2 := by omega
      · rw [if_pos hb]
      · rw [if_neg (by rw [hg 0 (by omega)]; decide), if_neg (fun z => by rw [en, z] at hi; unfold cgn at hi; rw [if_pos rfl] at hi; omega), if_pos hb]
      · rw [if_neg (by rw [hg 0 (by omega)]; decide), if_neg (fun z => by rw [en, z] at hi; unfold cgn at hi; rw [if_pos rfl] at hi; omega), if_neg (by rw [hg 1 (by omega)]; decide), if_pos hb]
    · -- taken
      have e10 : fmA (gst 1) k = cfF bl N u := by rw [ek]; exact (cg_tab ⟨_, f3⟩).2.2.2.2.1
      rw [e10] at h10
      have noF : cmK bl N u = none := by
        unfold cmK
        rw [if_neg u30, if_neg (by rw [hg 0 (by omega)]; decide)]
        by_cases f0 : cfF bl N u = 0
        · rw [if_pos f0]
        · have : n = 3 := by rw [en]; unfold cgn; rw [if_neg f0]
          rw [if_neg f0, if_neg (by rw [hg 1 (by omega)]; decide), if_neg (by rw [hg 2 (by omega)]; decide)]
      have wh : ∀ s j, (j = 0 ∨ j = 2) → j < n → LyT s t → (∀ q i, t + 2 ≤ q → q ≤ t + 6 → mxI s q i = mxI σ q i) → f_X10_whole P t (q_n j) s = some (q_n (cNm bl N u j), s) := fun s j hj hjn hTs hs => by
        have hNs : NmI s t j (tpA bl (cKt bl N u j)) (nmB bl (nmD bl (cKt bl N u j))) := by
          obtain ⟨a1, a2, a3⟩ := hN' j hjn
          exact ⟨by rw [hs (t + 5) j (by omega) (by omega)]; exact a1, by rw [hs (t + 6) j (by omega) (by omega)]; exact a2, a3⟩
        obtain ⟨w, ew, hw⟩ := c_whl (P := P) hTs (by omega) hNs
        obtain ⟨g1, g2, g3, g4⟩ := cg_ok (hg j hjn) (hpt j hjn).1 hj
        rw [tdv_eq hNs.2.2.2.2.1 g1, g4] at hw
        have : w = q_n (cNm bl N u j) := Int32.toInt.inj (by rw [hw, q_nT (by split at g3 <;> omega)])
        rw [← this]; exact ew
      obtain ⟨s1, E1⟩ : ∃ s1, s1 = mx_setI σ (c + 1) u (q_n (cmW' bl N u)) := ⟨_, rfl⟩
      obtain ⟨s2, E2⟩ : ∃ s2, s2 = mx_setI s1 (c + 2) u 0 := ⟨_, rfl⟩
      obtain ⟨s3, E3⟩ : ∃ s3, s3 = mx_setI s2 (c + 3) u 0 := ⟨_, rfl⟩
      have F1 : Fz (ctF c t) σ s1 := by rw [E1]; exact Fz.rf.sI (Or.inr (by omega)) _
      have F2 : Fz (ctF c t) σ s2 := by rw [E2]; exact F1.sI (Or.inr (by omega)) _
      have F3 : Fz (ctF c t) σ s3 := by rw [E3]; exact F2.sI (Or.inr (by omega)) _
      have C1 := F1.C hC
      have C2 := F2.C hC
      have C3 := F3.C hC
      have T3 := F3.T hT
      have nt : ∀ q i, t ≤ q → q ≤ t + 7 → ¬ (q = t ∧ (i = 2 ∨ i = 3)) → ¬ ctF c t q i := fun q i a1 a2 a3 y => by unfold ctF at y; omega
      have h10' : mxI s3 t 10 = q_n (cfF bl N u) := by rw [F3.gi (nt t 10 (by omega) (by omega) (by omega))]; exact h10
      show ∃ r τ, ((mg_R σ c 1 1).bind fun b26 => (mx_is σ t 10).bind fun i28 => mx_b2 (f_X10_whole P t (0 : Int32) σ) fun x31 σ30 => (ms_I P σ30 b26 0 (q_n u) x31).bind fun σ33 => (mg_R σ33 c 1 2).bind fun b35 => (ms_I P σ33 b35 0 (q_n u) (0 : Int32)).bind fun σ37 => (mg_R σ37 c 1 3).bind fun b39 => (ms_I P σ37 b39 0 (q_n u) (0 : Int32)).bind fun σ41 => (mg_I σ41 t 10 10).bind fun x43 => (if x43 = 0 then f_X1_isTaken_D164 P c (q_n u) σ41 else (mg_R σ41 c 1 2).bind fun b48 => (mg_I σ41 t 10 10).bind fun x50 => (if x50 = (1 : Int32) then f_X1_isTaken_D105 P c t (q_n u) (1 : Int32) (q_n u) b48 σ41 else f_X1_isTaken_D105 P c t (q_n u) (-1 : Int32) (q_n u) b48 σ41))) = some (r, τ) ∧ _
      rw [bd (ac_r1 hC), bd (at_is hT), bd2 (show f_X10_whole P t (0 : Int32) σ = some (q_n (cNm bl N u 0), σ) from wh σ 0 (Or.inl rfl) (by omega) hT fun _ _ _ _ => rfl)]
      rw [bd (ac_s1 hC (by omega) (by omega) _), show mx_setI σ (c + 1) u (q_n (cNm bl N u 0)) = s1 from E1.symm, bd (ac_r2 C1), bd (ac_s2 C1 (by omega) (by omega) _), ← E2, bd (ac_r3 C2), bd (ac_s3 C2 (by omega) (by omega) _), ← E3, bd (at_gI T3), h10']
      -- the older statements
      have old : ∀ s, Fz (fun q j => (q = t ∧ (j = 2 ∨ j = 3)) ∨ (c ≤ q ∧ q ≤ c + 6 ∧ (q = c → j = 0) ∧ (c + 1 ≤ q ∧ q ≤ c + 5 → j = u))) σ s → mxI s c 0 = q_n (u + 1) → cmV s c u (cmW' bl N) (cfF bl N) (cmL' bl N) (cmT' bl N) (cmB' bl N) → CmC s c (u + 1) (cmW' bl N) (cfF bl N) (cmL' bl N) (cmT' bl N) (cmB' bl N) := fun s F z0 zu => by
        refine ⟨z0, fun i hi => ?_⟩
        by_cases ei : i = u
        · rw [ei]; exact zu
        · have k := hcm.2 i (by omega)
          have e : ∀ q, c + 1 ≤ q → q ≤ c + 5 → mxI s q i = mxI σ q i ∧ mxL s q i = mxL σ q i := fun q a1 a2 => F.2.2.2 q i fun y => by omega
          rw [(e (c + 1) (by omega) (by omega)).1, (e (c + 2) (by omega) (by omega)).1, (e (c + 3) (by omega) (by omega)).1, (e (c + 4) (by omega) (by omega)).2, (e (c + 5) (by omega) (by omega)).2]
          exact k
      have G3 : Fz (fun q j => (q = t ∧ (j = 2 ∨ j = 3)) ∨ (c ≤ q ∧ q ≤ c + 6 ∧ (q = c → j = 0) ∧ (c + 1 ≤ q ∧ q ≤ c + 5 → j = u))) σ s3 := by
        rw [E3, E2, E1]
        exact ((Fz.rf.sI (Or.inr (by omega)) _).sI (Or.inr (by omega)) _).sI (Or.inr (by omega)) _
      have mtk : ∀ q j, ((q = t ∧ (j = 2 ∨ j = 3)) ∨ (c ≤ q ∧ q ≤ c + 6 ∧ (q = c → j = 0) ∧ (c + 1 ≤ q ∧ q ≤ c + 5 → j = u))) → ctF c t q j := fun q j y => by unfold ctF; omega
      have t23 : ∀ s, Fz (fun q j => (q = t ∧ (j = 2 ∨ j = 3)) ∨ (c ≤ q ∧ q ≤ c + 6 ∧ (q = c → j = 0) ∧ (c + 1 ≤ q ∧ q ≤ c + 5 → j = u))) s3 s → mxI s t 2 = mxI s3 t 2 → mxI s t 3 = mxI s3 t 3 → mxI s t 2 = 0 ∧ mxI s t 3 = 0 := fun s _ y2 y3 => by
        refine ⟨y2.trans ?_, y3.trans ?_⟩
        · rw [E3, sI_n (by omega), E2, sI_n (by omega), E1, sI_n (by omega)]; exact h2.1
        · rw [E3, sI_n (by omega), E2, sI_n (by omega), E1, sI_n (by omega)]; exact h2.2
      by_cases f0 : cfF bl N u = 0
      · rw [f0, if_pos (show q_n 0 = (0 : Int32) from rfl)]
        unfold f_X1_isTaken_D164
        rw [q_nS, bd (ac_pI C3 (by omega) _)]
        refine ⟨1, _, if_pos (Or.inr rfl), F3.sI (Or.inr (by omega)) _, Or.inr ⟨rfl, by omega, noF, t23 _ (Fz.rf.sI (Or.inr (by omega)) _) (sI_n (by omega)) (sI_n (by omega)), old _ (G3.sI (Or.inr (by omega)) _) sI_e ?_⟩⟩
        unfold cmV
        rw [f0, if_pos rfl, if_pos rfl]
        refine ⟨?_, ?_, ?_, fun z => absurd rfl z⟩
        · rw [sI_n (by omega), E3, sI_n (by omega), E2, sI_n (by omega), E1, sI_e]
        · rw [sI_n (by omega), E3, sI_n (by omega), E2, sI_e]
        · rw [sI_n (by omega), E3, sI_e]
      · have en3 : n = 3 := by rw [en]; unfold cgn; rw [if_neg f0]
        obtain ⟨a1, a2, a3, a4, a5, a6⟩ := hN' 1 (by omega)
        obtain ⟨b1, b2⟩ := cg_r (hg 1 (by omega))
        have hb2 : 1 ≤ (nmB bl (nmD bl (cKt bl N u 1)) : Int) := by omega
        have fin : ∀ w : Int32, w = (if cfF bl N u = 0 then 0 else if cfF bl N u = 1 then 1 else -1) → ∃ r τ, f_X1_isTaken_D105 P c t (q_n u) w (q_n u) (c + 2) s3 = some (r, τ) ∧ Fz (ctF c t) σ τ ∧ ((r = 0 ∧ ∃ cq : Nat × Nat, cmK bl N u = some cq ∧ mxI τ t 2 = q_n cq.1 ∧ mxI τ t 3 = q_n cq.2) ∨ (r = 1 ∧ u < 30 ∧ cmK bl N u = none ∧ (mxI τ t 2 = 0 ∧ mxI τ t 3 = 0) ∧ CmC τ c (u + 1) (cmW' bl N) (cfF bl N) (cmL' bl N) (cmT' bl N) (cmB' bl N))) := fun w hw => by
          obtain ⟨s4, E4⟩ : ∃ s4, s4 = mx_setI s3 (c + 2) u w := ⟨_, rfl⟩
          obtain ⟨s5, E5⟩ : ∃ s5, s5 = mx_setI s4 (c + 3) u (q_n (cmL' bl N u)) := ⟨_, rfl⟩
          have G4 : Fz (fun q j => (q = t ∧ (j = 2 ∨ j = 3)) ∨ (c ≤ q ∧ q ≤ c + 6 ∧ (q = c → j = 0) ∧ (c + 1 ≤ q ∧ q ≤ c + 5 → j = u))) σ s4 := by rw [E4]; exact G3.sI (Or.inr (by omega)) _
          have G5 : Fz (fun q j => (q = t ∧ (j = 2 ∨ j = 3)) ∨ (c ≤ q ∧ q ≤ c + 6 ∧ (q = c → j = 0) ∧ (c + 1 ≤ q ∧ q ≤ c + 5 → j = u))) σ s5 := by rw [E5]; exact G4.sI (Or.inr (by omega)) _
          have C4 := G4.C hC
          have C5 := G5.C hC
          have T4 := G4.T hT
          have T5 := G5.T hT
          have tx : ∀ s, Fz (fun q j => (q = t ∧ (j = 2 ∨ j = 3)) ∨ (c ≤ q ∧ q ≤ c + 6 ∧ (q = c → j = 0) ∧ (c + 1 ≤ q ∧ q ≤ c + 5 → j = u))) σ s → ∀ q i, t + 2 ≤ q → q ≤ t + 6 → mxI s q i = mxI σ q i := fun s F q i y1 y2 => F.gi (by omega)
          have c5 : mxI s5 (t + 5) 1 = mxI σ (t + 5) 1 := tx s5 G5 _ _ (by omega) (by omega)
          have c6 : mxI s5 (t + 6) 1 = q_n (nmB bl (nmD bl (cKt bl N u 1))) := (tx s5 G5 _ _ (by omega) (by omega)).trans a2
          have bu : B64 ((mxI σ (t + 5) 1).toInt64) (tpA bl (cKt bl N u 1)) 1000000000000000 := ⟨by rw [Int32.toInt_toInt64]; exact a1, by omega⟩
          have bv : B64 ((q_n (nmB bl (nmD bl (cKt bl N u 1)))).toInt64) (nmB bl (nmD bl (cKt bl N u 1)) : Int) 1000000000000000 := by rw [q_nL (by omega)]; exact l_nB (by omega) (by omega)
          obtain ⟨s6, e6, g6, f6⟩ := c_setO (P := P) hf (LyC_a6 C5) (by omega) bu bv hb2
          have G6 : Fz (fun q j => (q = t ∧ (j = 2 ∨ j = 3)) ∨ (c ≤ q ∧ q ≤ c + 6 ∧ (q = c → j = 0) ∧ (c + 1 ≤ q ∧ q ≤ c + 5 → j = u))) σ s6 := G5.tr (f6.mo fun q j y => Or.inr (by omega))
          have C6 := G6.C hC
          obtain ⟨s7, E7⟩ : ∃ s7, s7 = mx_setL s6 (c + 4) u (mxL s6 (c + 6) 0) := ⟨_, rfl⟩
          have G7 : Fz (fun q j => (q = t ∧ (j = 2 ∨ j = 3)) ∨ (c ≤ q ∧ q ≤ c + 6 ∧ (q = c → j = 0) ∧ (c + 1 ≤ q ∧ q ≤ c + 5 → j = u))) σ s7 := by rw [E7]; exact G6.sL (Or.inr (by omega)) _
          have C7 := G7.C hC
          obtain ⟨s8, E8⟩ : ∃ s8, s8 = mx_setL s7 (c + 5) u (mxL s7 (c + 6) 1) := ⟨_, rfl⟩
          have G8 : Fz (fun q j => (q = t ∧ (j = 2 ∨ j = 3)) ∨ (c ≤ q ∧ q ≤ c + 6 ∧ (q = c → j = 0) ∧ (c + 1 ≤ q ∧ q ≤ c + 5 → j = u))) σ s8 := by rw [E8]; exact G7.sL (Or.inr (by omega)) _
          have C8 := G8.C hC
          have c17 : mxL s7 (c + 6) 1 = mxL s6 (c + 6) 1 := by rw [E7]; exact sL_n (by omega)
          have d105 : f_X1_isTaken_D105 P c t (q_n u) w (q_n u) (c + 2) s3 = some (1, mx_setI s8 c 0 (q_n (u + 1))) := by
            unfold f_X1_isTaken_D105 f_X1_isTaken_D164
            rw [bd (ac_s2 C3 (by omega) (by omega) _), ← E4, bd (ac_r3 C4), bd (at_is T4), bd2 (show f_X10_whole P t (2 : Int32) s4 = some (q_n (cNm bl N u 2), s4) from wh s4 2 (Or.inr rfl) (by omega) T4 (tx s4 G4)), bd (ac_s3 C4 (by omega) (by omega) _), show mx_setI s4 (c + 3) u (q_n (cNm bl N u 2)) = s5 from E5.symm, bd (ac_r6 C5), bd (at_r16 T5), bd (show ma_I s5 (t + 5) 0 (1 : Int32) = some (mxI s5 (t + 5) 1) from at_g16 (j := 1) T5 (by omega)), c5, bd (at_r17 T5), bd (show ma_I s5 (t + 6) 0 (1 : Int32) = some (mxI s5 (t + 6) 1) from at_g17 (j := 1) T5 (by omega)), c6, bd (q_is (LyC_a6 C5)), bd e6, bd (ac_r4 C6), bd (ac_r6 C6), bd (q_gL (LyC_a6 C6)), bd (ac_s4 C6 (by omega) (by omega) _), ← E7, bd (ac_r5 C7), bd (ac_r6 C7), bd (q_gL (LyC_a6 C7)), bd (ac_s5 C7 (by omega) (by omega) _), ← E8, q_nS, bd (ac_pI C8 (by omega) _)]
            exact if_pos (Or.inr rfl)
          have G9 := G8.sI (a := c) (k := 0) (Or.inr (by omega)) (q_n (u + 1))
          refine ⟨1, _, d105, G9.mo mtk, Or.inr ⟨rfl, by omega, noF, ?_, old _ G9 sI_e ?_⟩⟩
          · have z : ∀ i, i = 2 ∨ i = 3 → mxI (mx_setI s8 c 0 (q_n (u + 1))) t i = mxI σ t i := fun i hi => by
              rw [sI_n (by omega), E8, IsL, E7, IsL, f6.gi (by omega), E5, sI_n (by omega), E4, sI_n (by omega), E3, sI_n (by omega), E2, sI_n (by omega), E1, sI_n (by omega)]
            exact ⟨(z 2 (by omega)).trans h2.1, (z 3 (by omega)).trans h2.2⟩
          · have y : ∀ q, c + 1 ≤ q → q ≤ c + 3 → mxI (mx_setI s8 c 0 (q_n (u + 1))) q u = mxI s5 q u := fun q y1 y2 => by
              rw [sI_n (by omega), E8, IsL, E7, IsL, f6.gi (by omega)]
            refine ⟨?_, ?_, ?_, fun _ => ⟨?_, ?_⟩⟩
            · rw [y (c + 1) (by omega) (by omega), E5, sI_n (by omega), E4, sI_n (by omega), E3, sI_n (by omega), E2, sI_n (by omega), E1, sI_e]
            · rw [y (c + 2) (by omega) (by omega), E5, sI_n (by omega), E4, sI_e, hw]
            · rw [y (c + 3) (by omega) (by omega), E5, sI_e, if_neg f0]
            · rw [LsI, E8, sL_n (by omega), E7, sL_e]; exact g6.2.2.2.2.1
            · rw [LsI, E8, sL_e, c17]; exact g6.2.2.2.2.2
        have f0' : ¬ q_n (cfF bl N u) = 0 := fun y => f0 ((q_nI (l := 0) (by omega) (by omega)).mp y)
        rw [if_neg f0', bd (ac_r2 C3), bd (at_gI T3), h10']
        by_cases f1 : cfF bl N u = 1
        · rw [if_pos (by rw [f1]; rfl)]
          exact fin 1 (by rw [if_neg f0, if_pos f1])
        · rw [if_neg (show ¬ q_n (cfF bl N u) = (1 : Int32) from fun y => f1 ((q_nI (l := 1) (by omega) (by omega)).mp y))]
          exact fin (-1) (by rw [if_neg f0, if_neg f1])
end KXS
