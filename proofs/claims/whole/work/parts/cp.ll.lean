/-! ===== ll: drive, the class reads ===== -/
section LLS
variable {P : mx_P} {σ σ0 σ1 σ2 τ : mx_S} {x m n t l l' p a N i k j u c f s b d nk : Nat} {bl : List Nat} {S : Nat → Nat → Prop} {B : LB}
theorem rg_w {tp : Int} {bt : Nat} (h : rgL c tp bt = true) (hc : c = 105 ∨ c = 116 ∨ c = 97 ∨ c = 98) : tp % bt = 0 ∧ (c = 105 → 0 ≤ tp / bt ∧ tp / bt ≤ 3) ∧ (c = 116 → -1023 ≤ tp / bt ∧ tp / bt ≤ 1023) ∧ (c = 97 → 1 ≤ tp / bt ∧ tp / bt ≤ 9) ∧ (c = 98 → 0 ≤ tp / bt ∧ tp / bt ≤ 255) := by
  rcases hc with rfl | rfl | rfl | rfl
  · have := of_decide_eq_true (show whB tp bt 0 3 = true from h); refine ⟨this.1, fun _ => this.2, fun z => by omega, fun z => by omega, fun z => by omega⟩
  · have := of_decide_eq_true (show whB tp bt (-1023) 1023 = true from h); refine ⟨this.1, fun z => by omega, fun _ => this.2, fun z => by omega, fun z => by omega⟩
  · have := of_decide_eq_true (show whB tp bt 1 9 = true from h); refine ⟨this.1, fun z => by omega, fun z => by omega, fun _ => this.2, fun z => by omega⟩
  · have := of_decide_eq_true (show whB tp bt 0 255 = true from h); refine ⟨this.1, fun z => by omega, fun z => by omega, fun z => by omega, fun _ => this.2⟩
theorem dcd_0 (h : dcd bl N B nk u j = 0) : (dLt bl N u j = 80 → ∃ p, dPt B nk (nmA bl (dKt bl N u j)) = some p ∧ p < nk) ∧ (dLt bl N u j ≠ 80 → dLt bl N u j ≠ 68 → rgL (dLt bl N u j) (dTp bl N u j) (dBt bl N u j) = true) := by
  unfold dcd at h
  refine ⟨fun c => ?_, fun c1 c2 => ?_⟩
  · rw [if_pos c] at h
    cases hp : dPt B nk (nmA bl (dKt bl N u j)) with
    | none => rw [hp] at h; exact absurd h (by decide)
    | some p => exact ⟨p, rfl, r_fst_lt hp⟩
  · rw [if_neg c1, if_neg c2] at h
    cases hr : rgL (dLt bl N u j) (dTp bl N u j) (dBt bl N u j) with
    | true => rfl
    | false => rw [hr] at h; exact absurd h (by decide)
/-- what the parts of a good statement tell -/
theorem dO_ok (f4 : dfF bl N u < 4) (hg : ∀ j, j < dgn (dfF bl N u) → dcd bl N B nk u j = 0) : (dTp bl N u 0 % (dBt bl N u 0 : Int) = 0 ∧ 0 ≤ dTp bl N u 0 / (dBt bl N u 0 : Int) ∧ dTp bl N u 0 / (dBt bl N u 0 : Int) ≤ 255) ∧ (dfF bl N u < 2 → dTp bl N u 0 / (dBt bl N u 0 : Int) ≤ 3 ∧ dTp bl N u 1 % (dBt bl N u 1 : Int) = 0 ∧ -1023 ≤ dTp bl N u 1 / (dBt bl N u 1 : Int) ∧ dTp bl N u 1 / (dBt bl N u 1 : Int) ≤ 1023) ∧ (dfF bl N u = 2 → 1 ≤ dTp bl N u 0 / (dBt bl N u 0 : Int) ∧ dTp bl N u 0 / (dBt bl N u 0 : Int) ≤ 9) ∧ (dfF bl N u = 1 → ∃ p, dPt B nk (nmA bl (dKt bl N u 2)) = some p ∧ p < nk) := by
  obtain ⟨l0, l1, l2, l3, l4, l5, l6, l7, l8⟩ := dg_l
  have g0 := dgn_5 (dfF bl N u)
  obtain e | e | e | e : dfF bl N u = 0 ∨ dfF bl N u = 1 ∨ dfF bl N u = 2 ∨ dfF bl N u = 3 := by omega
  all_goals
    have h0 := (dcd_0 (hg 0 (by omega))).2
    unfold dLt at h0
    rw [e] at h0
  · rw [l0] at h0
    have n2 : dgn (dfF bl N u) = 2 := by rw [e]; rfl
    have w0 := rg_w (h0 (by omega) (by omega)) (Or.inl rfl)
    have h1 := (dcd_0 (hg 1 (by omega))).2
    unfold dLt at h1
    rw [e, l1] at h1
    have w1 := rg_w (h1 (by omega) (by omega)) (Or.inr (Or.inl rfl))
    have a := w0.2.1 rfl
    have b := w1.2.2.1 rfl
    exact ⟨⟨w0.1, a.1, by omega⟩, fun _ => ⟨a.2, w1.1, b⟩, fun z => by omega, fun z => by omega⟩
  · rw [l2] at h0
    have n5 : dgn (dfF bl N u) = 5 := by rw [e]; rfl
    have w0 := rg_w (h0 (by omega) (by omega)) (Or.inl rfl)
    have h1 := (dcd_0 (hg 1 (by omega))).2
    unfold dLt at h1
    rw [e, l3] at h1
    have w1 := rg_w (h1 (by omega) (by omega)) (Or.inr (Or.inl rfl))
    have h2 := (dcd_0 (hg 2 (by omega))).1
    unfold dLt at h2
    rw [e, l4] at h2
    have a := w0.2.1 rfl
    have b := w1.2.2.1 rfl
    exact ⟨⟨w0.1, a.1, by omega⟩, fun _ => ⟨a.2, w1.1, b⟩, fun z => by omega, fun _ => h2 rfl⟩
  · rw [l7] at h0
    have w0 := rg_w (h0 (by omega) (by omega)) (Or.inr (Or.inr (Or.inl rfl)))
    have a := w0.2.2.2.1 rfl
    exact ⟨⟨w0.1, by omega, by omega⟩, fun z => by omega, fun _ => a, fun z => by omega⟩
  · rw [l8] at h0
    have w0 := rg_w (h0 (by omega) (by omega)) (Or.inr (Or.inr (Or.inr rfl)))
    have a := w0.2.2.2.2 rfl
    exact ⟨⟨w0.1, a.1, a.2⟩, fun z => by omega, fun z => by omega, fun z => by omega⟩
theorem c_dtk (hf : 5000 ≤ mpN P) (h256 : ∀ b, b ∈ bl → b < 256) (hT : LyT σ t) (hbt : mpb P ≤ t) (hD : LyO (mxA σ) (mxR σ) 2 al2 d) (htd : t + 8 ≤ d) (hL : LyL (mxA σ) (mxR σ) l) (hdl : d + 8 ≤ l) (hn : nk ≤ 40) (h2l : mxI σ l 2 = q_n nk) (hc : cB σ l nk B) (hB : LBok nk B) (h2 : mxI σ t 2 = 0 ∧ mxI σ t 3 = 0) (hO : StO bl N 2 (sqA bl N 2 u) k n) (h10 : mxI σ t 10 = q_n (fmA (gst 2) k)) (h11 : mxI σ t 11 = q_n (tkI bl N (sqA bl N 2 u) 0)) (h12 : mxI σ t 12 = q_n n) (hP : ∀ j, j < n → PtI σ t bl (by' (gst 2) (k + 1 + j)) (tkI bl N (psI bl N (sqA bl N 2 u) 1) j) j) (hu : u < 3000) (hdv : DvC σ d u (dO bl N B nk)) :
    ∃ r τ, f_X2_isTaken P d t l (q_n u) σ = some (r, τ) ∧ Fz (dtF d t) σ τ ∧ ((r = 0 ∧ ∃ cq : Nat × Nat, dK bl N B nk u = some cq ∧ mxI τ t 2 = q_n cq.1 ∧ mxI τ t 3 = q_n cq.2) ∨ (r = 1 ∧ u < 40 ∧ dK bl N B nk u = none ∧ (mxI τ t 2 = 0 ∧ mxI τ t 3 = 0) ∧ DvC τ d (u + 1) (dO bl N B nk))) := by
  obtain ⟨f4, ek, en, hpt⟩ := dO_f hO
  have d5 := dgn_5 (dfF bl N u)
  have hP' : ∀ j, j < dgn (dfF bl N u) → PtI σ t bl (dLt bl N u j) (dKt bl N u j) j := fun j hj => by rw [← (hpt j (by omega)).1]; exact hP j (by omega)
  have hfit : ∀ j, j < dgn (dfF bl N u) → fit (dLt bl N u j) (kdA bl (dKt bl N u j)) = true := fun j hj => (hpt j (by omega)).2
  have e10 : fmA (gst 2) k = dfF bl N u := by rw [ek]; exact (dg_tab ⟨_, f4⟩).2.2.2.2.1
  rw [e10] at h10
  rw [en] at h12
  unfold f_X2_isTaken
  by_cases u40 : 40 ≤ u
  · obtain ⟨τ, e, hn', f⟩ := c_note (P := P) (w := q_n 6) (pos := q_n (tkI bl N (sqA bl N 2 u) 0)) hT hbt
    have := hn'.1 h2.1
    rw [if_neg (show ¬ q_n u < (40 : Int32) by rw [show (40 : Int32) = q_n 40 from rfl, q_nLt (by omega) (by omega)]; omega), bd (at_gI hT), h11, bd (at_is hT), show (6 : Int32) = q_n 6 from rfl, bd e]
    refine ⟨0, τ, if_pos (Or.inl rfl), f.mo fun q j y => Or.inl y, Or.inl ⟨rfl, (6, tkI bl N (sqA bl N 2 u) 0), ?_, this.1, this.2⟩⟩
    unfold dK; rw [if_pos u40]
  · rw [if_pos (show q_n u < (40 : Int32) by rw [show (40 : Int32) = q_n 40 from rfl, q_nLt (by omega) (by omega)]; omega)]
    obtain ⟨s0, e0, F0, h0⟩ := c_dck (P := P) hf h256 hT hbt hL (by omega) hn h2l hc hB h2 f4 h12 hfit hP' d (q_n u)
    rw [bd e0]
    have T0 := F0.T hT
    have unK : dK bl N B nk u = (r_fst (dbd bl N B nk u) (dgn (dfF bl N u))).map fun j => (dcd bl N B nk u j, dKt bl N u j) := by unfold dK; rw [if_neg u40]
    rcases h0 with ⟨r0, z2, z3⟩ | ⟨j, r0, z2, z3⟩
    · -- taken
      rw [r0] at unK
      have hg : ∀ j, j < dgn (dfF bl N u) → dcd bl N B nk u j = 0 := fun j hj => by
        have := fst_n0 r0 j hj
        exact Classical.byContradiction fun y => of_decide_eq_false this y
      obtain ⟨w0, w1, -, w3⟩ := dO_ok f4 hg
      have D0 : LyO (mxA s0) (mxR s0) 2 al2 d := by rw [F0.1, F0.2.1]; exact hD
      have kp : ∀ q j, q ≠ t → mxI s0 q j = mxI σ q j ∧ mxL s0 q j = mxL σ q j := fun q j hq => F0.2.2.2 q j (fun z => hq z.1)
      have kt : ∀ j, j ≠ 2 → j ≠ 3 → mxI s0 t j = mxI σ t j := fun j j2 j3 => F0.gi (by omega)
      -- the frame of the stores
      have dd : ∀ s, Fz (fun q j => (q = d ∧ j = 3) ∨ (d + 2 ≤ q ∧ q ≤ d + 7 ∧ j = u)) s0 s → LyO (mxA s) (mxR s) 2 al2 d ∧ LyT s t ∧ LyL (mxA s) (mxR s) l ∧ (∀ q j, q < d → mxI s q j = mxI s0 q j ∧ mxL s q j = mxL s0 q j) ∧ (∀ q j, l ≤ q → mxI s q j = mxI σ q j ∧ mxL s q j = mxL σ q j) := fun s F => by
        refine ⟨by rw [F.1, F.2.1]; exact D0, F.T T0, by rw [F.1, F.2.1, F0.1, F0.2.1]; exact hL, fun q j hq => F.2.2.2 q j (by omega), fun q j hq => ?_⟩
        have a := F.2.2.2 q j (by omega)
        have b := kp q j (by omega)
        exact ⟨a.1.trans b.1, a.2.trans b.2⟩
      have nmS : ∀ s, Fz (fun q j => (q = d ∧ j = 3) ∨ (d + 2 ≤ q ∧ q ≤ d + 7 ∧ j = u)) s0 s → ∀ j, j < dgn (dfF bl N u) → kdA bl (dKt bl N u j) = 3 → NmI s t j (dTp bl N u j) (dBt bl N u j) := fun s F j hj k3 => by
        obtain ⟨a1, a2, a3⟩ := NmI_of h256 (hP' j hj) k3
        have q5 := ((dd s F).2.2.2.1 (t + 5) j (by omega)).1.trans (kp (t + 5) j (by omega)).1
        have q6 := ((dd s F).2.2.2.1 (t + 6) j (by omega)).1.trans (kp (t + 6) j (by omega)).1
        exact ⟨by rw [q5]; exact a1, by rw [q6]; exact a2, a3⟩
      have k3_0 : kdA bl (dKt bl N u 0) = 3 := by
        refine fit_3 ?_ (hfit 0 (by omega))
        have := dg_l
        unfold dLt
        obtain e | e | e | e : dfF bl N u = 0 ∨ dfF bl N u = 1 ∨ dfF bl N u = 2 ∨ dfF bl N u = 3 := by omega
        all_goals rw [e]; omega
      have whole0 : ∀ s, Fz (fun q j => (q = d ∧ j = 3) ∨ (d + 2 ≤ q ∧ q ≤ d + 7 ∧ j = u)) s0 s → f_X10_whole P t (0 : Int32) s = some (q_n (dO bl N B nk u).2.1, s) := fun s F => by
        obtain ⟨w, ew, hw⟩ := c_whl (P := P) (j := 0) (dd s F).2.1 (by omega) (nmS s F 0 (by omega) k3_0)
        rw [tdv_eq (nmS s F 0 (by omega) k3_0).2.2.2.2.1 w0.1] at hw
        have : w = q_n (dO bl N B nk u).2.1 := Int32.toInt.inj (by
          show w.toInt = (q_n (dTp bl N u 0 / (dBt bl N u 0 : Int)).toNat).toInt
          rw [hw, q_nT (by omega)]; omega)
        rw [← this]; exact ew
      obtain ⟨s1, E1⟩ : ∃ s1, s1 = mx_setI s0 (d + 2) u (q_n (dfF bl N u)) := ⟨_, rfl⟩
      have G1 : Fz (fun q j => (q = d ∧ j = 3) ∨ (d + 2 ≤ q ∧ q ≤ d + 7 ∧ j = u)) s0 s1 := by rw [E1]; exact Fz.rf.sI (by omega) _
      have t10 : mxI s1 t 10 = q_n (dfF bl N u) := by rw [E1, sI_n (by omega), kt 10 (by omega) (by omega)]; exact h10
      -- the end
      have old : ∀ s, Fz (fun q j => (q = d ∧ j = 3) ∨ (d + 2 ≤ q ∧ q ≤ d + 7 ∧ j = u)) s0 s → (mxI s (d + 2) u = q_n (dO bl N B nk u).1 ∧ ((dO bl N B nk u).1 < 2 → mxI s (d + 3) u = q_n (dO bl N B nk u).2.1 ∧ (mxI s (d + 4) u).toInt = (dO bl N B nk u).2.2.1) ∧ (2 ≤ (dO bl N B nk u).1 → mxI s (d + 4) u = q_n (dO bl N B nk u).2.1) ∧ ((dO bl N B nk u).1 = 1 → mxI s (d + 5) u = q_n (dO bl N B nk u).2.2.2.1 ∧ mxI s (d + 6) u = bI (dO bl N B nk u).2.2.2.2.1 ∧ (mxL s (d + 7) u).toInt = (dO bl N B nk u).2.2.2.2.2)) → ∃ r τ, f_X2_isTaken_D184 P d (q_n u) s = some (r, τ) ∧ Fz (dtF d t) σ τ ∧ ((r = 0 ∧ ∃ cq : Nat × Nat, dK bl N B nk u = some cq ∧ mxI τ t 2 = q_n cq.1 ∧ mxI τ t 3 = q_n cq.2) ∨ (r = 1 ∧ u < 40 ∧ dK bl N B nk u = none ∧ (mxI τ t 2 = 0 ∧ mxI τ t 3 = 0) ∧ DvC τ d (u + 1) (dO bl N B nk))) := fun s F hv => by
        have Ds := (dd s F).1
        have FF : Fz (dtF d t) σ s := (F0.mo (T := dtF d t) fun q j y => Or.inl y).tr (F.mo (T := dtF d t) fun q j y => by unfold dtF; omega)
        unfold f_X2_isTaken_D184
        rw [q_nS, bd (ad_pI Ds (by omega) _)]
        refine ⟨1, _, if_pos (Or.inr rfl), FF.sI (Or.inr (Or.inl ⟨rfl, rfl⟩)) _, Or.inr ⟨rfl, by omega, unK, ⟨?_, ?_⟩, sI_e, fun i hi => ?_⟩⟩
        · rw [sI_n (by omega), ((dd s F).2.2.2.1 t 2 (by omega)).1]; exact z2
        · rw [sI_n (by omega), ((dd s F).2.2.2.1 t 3 (by omega)).1]; exact z3
        · rw [sI_n (by omega), sI_n (by omega), sI_n (by omega), sI_n (by omega), sI_n (by omega), LsI]
          by_cases ei : i = u
          · rw [ei]; exact hv
          · have e : ∀ q, d + 2 ≤ q → q ≤ d + 7 → mxI s q i = mxI σ q i ∧ mxL s q i = mxL σ q i := fun q a1 a2 => by
              have a := F.2.2.2 q i (by omega)
              have b := kp q i (by omega)
              exact ⟨a.1.trans b.1, a.2.trans b.2⟩
            rw [(e (d + 2) (by omega) (by omega)).1, (e (d + 3) (by omega) (by omega)).1, (e (d + 4) (by omega) (by omega)).1, (e (d + 5) (by omega) (by omega)).1, (e (d + 6) (by omega) (by omega)).1, (e (d + 7) (by omega) (by omega)).2]
            exact hdv.2 i (by omega)
      show ∃ r τ, ((mg_I s0 t 10 2).bind fun x47 => (if x47 = 0 then (mg_R s0 d 2 5).bind fun b50 => (mg_I s0 t 10 10).bind fun x52 => (ms_I P s0 b50 0 (q_n u) x52).bind fun σ54 => (mg_I σ54 t 10 10).bind fun x56 => (if x56 = (2 : Int32) then f_X2_isTaken_D133 P d t l (q_n u) σ54 else (mg_I σ54 t 10 10).bind fun x77 => (if x77 = (3 : Int32) then f_X2_isTaken_D133 P d t l (q_n u) σ54 else (mg_R σ54 d 2 6).bind fun b80 => (mx_is σ54 t 10).bind fun i82 => mx_b2 (f_X10_whole P t (0 : Int32) σ54) fun x85 σ84 => (ms_I P σ84 b80 0 (q_n u) x85).bind fun σ87 => (mg_R σ87 d 2 7).bind fun b89 => (mx_is σ87 t 10).bind fun i91 => mx_b2 (f_X10_whole P t (1 : Int32) σ87) fun x94 σ93 => (ms_I P σ93 b89 0 (q_n u) x94).bind fun σ96 => f_X2_isTaken_D169 P d t l (q_n u) σ96)) else mr_Z (0 : Int32) s0)) = some (r, τ) ∧ _
      have T1 := (dd s1 G1).2.1
      have D1 := (dd s1 G1).1
      rw [bd (at_gI T0), z2, if_pos rfl, bd (ad_r5 D0), bd (at_gI T0), kt 10 (by omega) (by omega), h10, bd (ad_s5 D0 (by omega) (by omega) _), ← E1, bd (at_gI T1), t10]
      have q_f : ∀ c : Nat, c < 4 → (q_n (dfF bl N u) = q_n c ↔ dfF bl N u = c) := fun c hc => q_nI (by omega) (by omega)
      have s1f : mxI s1 (d + 2) u = q_n (dfF bl N u) := by rw [E1]; exact sI_e
      -- again, way
      have D133 : 2 ≤ dfF bl N u → ∃ r τ, f_X2_isTaken_D133 P d t l (q_n u) s1 = some (r, τ) ∧ Fz (dtF d t) σ τ ∧ ((r = 0 ∧ ∃ cq : Nat × Nat, dK bl N B nk u = some cq ∧ mxI τ t 2 = q_n cq.1 ∧ mxI τ t 3 = q_n cq.2) ∨ (r = 1 ∧ u < 40 ∧ dK bl N B nk u = none ∧ (mxI τ t 2 = 0 ∧ mxI τ t 3 = 0) ∧ DvC τ d (u + 1) (dO bl N B nk))) := fun f2 => by
        obtain ⟨s2, E2⟩ : ∃ s2, s2 = mx_setI s1 (d + 4) u (q_n (dO bl N B nk u).2.1) := ⟨_, rfl⟩
        have G2 : Fz (fun q j => (q = d ∧ j = 3) ∨ (d + 2 ≤ q ∧ q ≤ d + 7 ∧ j = u)) s0 s2 := by rw [E2]; exact G1.sI (by omega) _
        have T2 := (dd s2 G2).2.1
        have t10' : mxI s2 t 10 = q_n (dfF bl N u) := by rw [E2, sI_n (by omega)]; exact t10
        unfold f_X2_isTaken_D133 f_X2_isTaken_D169
        rw [bd (ad_r7 D1), bd (at_is T1), bd2 (whole0 s1 G1), bd (ad_s7 D1 (by omega) (by omega) _), ← E2, bd (at_gI T2), t10', if_neg (show ¬ q_n (dfF bl N u) = (1 : Int32) from fun y => by have := (q_f 1 (by omega)).mp y; omega)]
        refine old s2 G2 ⟨?_, fun z => ?_, fun _ => ?_, fun z => ?_⟩
        · rw [E2, sI_n (by omega)]; exact s1f
        · exact absurd (show dfF bl N u < 2 from z) (by omega)
        · rw [E2]; exact sI_e
        · exact absurd (show dfF bl N u = 1 from z) (by omega)
      by_cases f2 : dfF bl N u = 2
      · rw [if_pos (show q_n (dfF bl N u) = (2 : Int32) from (q_f 2 (by omega)).mpr f2)]
        exact D133 (by omega)
      · rw [if_neg (show ¬ q_n (dfF bl N u) = (2 : Int32) from fun y => f2 ((q_f 2 (by omega)).mp y)), bd (at_gI T1), t10]
        by_cases f3 : dfF bl N u = 3
        · rw [if_pos (show q_n (dfF bl N u) = (3 : Int32) from (q_f 3 (by omega)).mpr f3)]
          exact D133 (by omega)
        · rw [if_neg (show ¬ q_n (dfF bl N u) = (3 : Int32) from fun y => f3 ((q_f 3 (by omega)).mp y))]
          have fl2 : dfF bl N u < 2 := by omega
          obtain ⟨v1, v2, v3, v4⟩ := w1 fl2
          have n2 : 2 ≤ dgn (dfF bl N u) := by
            obtain e | e : dfF bl N u = 0 ∨ dfF bl N u = 1 := by omega
            · rw [e]; decide
            · rw [e]; decide
          have k3_1 : kdA bl (dKt bl N u 1) = 3 := by
            refine fit_3 ?_ (hfit 1 (by omega))
            have := dg_l
            unfold dLt
            obtain e | e : dfF bl N u = 0 ∨ dfF bl N u = 1 := by omega
            all_goals rw [e]; omega
          obtain ⟨s2, E2⟩ : ∃ s2, s2 = mx_setI s1 (d + 3) u (q_n (dO bl N B nk u).2.1) := ⟨_, rfl⟩
          have G2 : Fz (fun q j => (q = d ∧ j = 3) ∨ (d + 2 ≤ q ∧ q ≤ d + 7 ∧ j = u)) s0 s2 := by rw [E2]; exact G1.sI (by omega) _
          have T2 := (dd s2 G2).2.1
          have D2 := (dd s2 G2).1
          obtain ⟨w, ew, hw⟩ := c_whl (P := P) (j := 1) T2 (by omega) (nmS s2 G2 1 (by omega) k3_1)
          rw [tdv_eq (nmS s2 G2 1 (by omega) k3_1).2.2.2.2.1 v2] at hw
          have hw' : w.toInt = (dO bl N B nk u).2.2.1 := by
            show w.toInt = if dfF bl N u < 2 then _ else _
            rw [if_pos fl2]; exact hw
          obtain ⟨s3, E3⟩ : ∃ s3, s3 = mx_setI s2 (d + 4) u w := ⟨_, rfl⟩
          have G3 : Fz (fun q j => (q = d ∧ j = 3) ∨ (d + 2 ≤ q ∧ q ≤ d + 7 ∧ j = u)) s0 s3 := by rw [E3]; exact G2.sI (by omega) _
          obtain ⟨D3, T3, L3, b3, c3⟩ := dd s3 G3
          have t10' : mxI s3 t 10 = q_n (dfF bl N u) := by rw [E3, sI_n (by omega), E2, sI_n (by omega)]; exact t10
          have f3' : mxI s3 (d + 2) u = q_n (dfF bl N u) := by rw [E3, sI_n (by omega), E2, sI_n (by omega)]; exact s1f
          have i3' : mxI s3 (d + 3) u = q_n (dO bl N B nk u).2.1 := by rw [E3, sI_n (by omega), E2]; exact sI_e
          have a3' : mxI s3 (d + 4) u = w := by rw [E3]; exact sI_e
          rw [bd (ad_r6 D1), bd (at_is T1), bd2 (whole0 s1 G1), bd (ad_s6 D1 (by omega) (by omega) _), ← E2, bd (ad_r7 D2), bd (at_is T2), bd2 (show f_X10_whole P t (1 : Int32) s2 = some (w, s2) from ew), bd (ad_s7 D2 (by omega) (by omega) _), ← E3]
          unfold f_X2_isTaken_D169
          rw [bd (at_gI T3), t10']
          by_cases f1 : dfF bl N u = 1
          · rw [if_pos (show q_n (dfF bl N u) = (1 : Int32) from (q_f 1 (by omega)).mpr f1)]
            have n5 : dgn (dfF bl N u) = 5 := by rw [f1]; rfl
            obtain ⟨-, -, -, -, l4, l5, l6, -, -⟩ := dg_l
            have e2 : dLt bl N u 2 = 80 := by unfold dLt; rw [f1]; exact l4
            have e3 : dLt bl N u 3 = 68 := by unfold dLt; rw [f1]; exact l5
            have e4 : dLt bl N u 4 = 118 := by unfold dLt; rw [f1]; exact l6
            have k2 : kdA bl (dKt bl N u 2) = 2 := fit_2 (Or.inr rfl) (by rw [← e2]; exact hfit 2 (by omega))
            have k4 : kdA bl (dKt bl N u 4) = 3 := fit_3 (by omega) (hfit 4 (by omega))
            have k3 : kdA bl (dKt bl N u 3) = 43 ∨ kdA bl (dKt bl N u 3) = 45 := by
              have := hfit 3 (by omega)
              rw [e3] at this
              unfold fit at this
              rw [if_neg (by omega), if_pos rfl] at this
              exact of_decide_eq_true this
            have k3n : kdA bl (dKt bl N u 3) ≠ 3 := by rcases k3 with y | y <;> rw [y] <;> decide
            obtain ⟨pp, hpp, hpl⟩ := w3 f1
            have hg2 : gnm (nmA bl (dKt bl N u 2)) := wd_gnm h256 k2
            have c3' : cB s3 l nk B := cB_rg hn hc (fun p hp => ⟨(c3 _ _ (by omega)).1, (c3 _ _ (by omega)).1, (c3 _ _ (by omega)).1, (c3 _ _ (by omega)).2⟩)
            have nf := c_nfB (P := P) (by omega) L3 hn ((c3 l 2 (by omega)).1.trans h2l) c3' hB hg2
            have n2' : mxL s3 (t + 4) 2 = l_n (pk (nmA bl (dKt bl N u 2))) := by rw [(b3 (t + 4) 2 (by omega)).2, (kp (t + 4) 2 (by omega)).2]; exact (hP' 2 (by omega)).2.2.1 k2
            rw [hpp] at nf
            obtain ⟨s4, E4⟩ : ∃ s4, s4 = mx_setI s3 (d + 5) u (q_n pp) := ⟨_, rfl⟩
            have G4 : Fz (fun q j => (q = d ∧ j = 3) ∨ (d + 2 ≤ q ∧ q ≤ d + 7 ∧ j = u)) s0 s4 := by rw [E4]; exact G3.sI (by omega) _
            obtain ⟨D4, T4, L4, b4, -⟩ := dd s4 G4
            have t5 : mxI s4 (t + 5) 3 = kdA bl (dKt bl N u 3) := by rw [(b4 (t + 5) 3 (by omega)).1, (kp (t + 5) 3 (by omega)).1]; exact (hP' 3 (by omega)).2.2.2.2 k3n
            have D37 : ∀ yb : Bool, yb = (dO bl N B nk u).2.2.2.2.1 → ∃ s6, f_X2_takeGoal_D37 P d t (q_n u) (bI yb) (q_n u) (d + 6) s4 = some s6 ∧ Fz (fun q j => (q = d ∧ j = 3) ∨ (d + 2 ≤ q ∧ q ≤ d + 7 ∧ j = u)) s0 s6 ∧ mxI s6 (d + 2) u = q_n (dfF bl N u) ∧ mxI s6 (d + 3) u = q_n (dO bl N B nk u).2.1 ∧ mxI s6 (d + 4) u = w ∧ mxI s6 (d + 5) u = q_n pp ∧ mxI s6 (d + 6) u = bI yb ∧ (mxL s6 (d + 7) u).toInt = (dO bl N B nk u).2.2.2.2.2 := fun yb hyb => by
              have vn : vp_nar .boolean (bI yb) = bI yb := by cases yb <;> decide
              obtain ⟨s5, E5⟩ : ∃ s5, s5 = mx_setI s4 (d + 6) u (bI yb) := ⟨_, rfl⟩
              have G5 : Fz (fun q j => (q = d ∧ j = 3) ∨ (d + 2 ≤ q ∧ q ≤ d + 7 ∧ j = u)) s0 s5 := by rw [E5]; exact G4.sI (by omega) _
              obtain ⟨D5, T5, -, -, -⟩ := dd s5 G5
              obtain ⟨a1, a2, a3, a4, a5, a6⟩ := nmS s5 G5 4 (by omega) k4
              have b65 := b64M (show B64 (65536 : Int64) 65536 65536 from ⟨rfl, by decide⟩) (show B64 ((mxI s5 (t + 5) 4).toInt64) (dTp bl N u 4) 10000 from ⟨by rw [Int32.toInt_toInt64]; exact a1, by omega⟩) (by omega)
              have tb : ((q_n (dBt bl N u 4)).toInt64).toInt = (dBt bl N u 4 : Int) := by rw [q_nL (by omega), l_nT (by omega)]
              obtain ⟨r7, e7, h7⟩ := k_fdiv (P := P) (x := (65536 : Int64) * (mxI s5 (t + 5) 4).toInt64) (y := (q_n (dBt bl N u 4)).toInt64) (by rw [tb]; omega) (by rw [b65.1]; omega) s5
              rw [b65.1, tb] at h7
              refine ⟨mx_setL s5 (d + 7) u r7, ?_, G5.sL (by omega) _, ?_, ?_, ?_, ?_, ?_, ?_⟩
              · unfold f_X2_takeGoal_D37 f_X2_takeGoal_D74
                rw [vn, bd (ad_s9 D4 (by omega) (by omega) _), ← E5, bd (at_r17 T5), bd (show ma_I s5 (t + 6) 0 (4 : Int32) = some (mxI s5 (t + 6) 4) from at_g17 (j := 4) T5 (by omega)), a2, if_neg (show ¬ q_n (dBt bl N u 4) ≤ 0 from fun y => by have := (q_nLe (k := dBt bl N u 4) (l := 0) (by omega) (by omega)).mp y; omega), bd (ad_r10 D5), bd (at_r16 T5), bd (show ma_I s5 (t + 5) 0 (4 : Int32) = some (mxI s5 (t + 5) 4) from at_g16 (j := 4) T5 (by omega)), bd (at_r17 T5), bd (show ma_I s5 (t + 6) 0 (4 : Int32) = some (mxI s5 (t + 6) 4) from at_g17 (j := 4) T5 (by omega)), a2, bd2 e7, bd (ad_s10 D5 (by omega) (by omega) _)]
              · rw [IsL, E5, sI_n (by omega), E4, sI_n (by omega)]; exact f3'
              · rw [IsL, E5, sI_n (by omega), E4, sI_n (by omega)]; exact i3'
              · rw [IsL, E5, sI_n (by omega), E4, sI_n (by omega)]; exact a3'
              · rw [IsL, E5, sI_n (by omega), E4]; exact sI_e
              · rw [IsL, E5]; exact sI_e
              · rw [sL_e]; exact h7
            have goal : ∃ s6, f_X2_takeGoal P d t l (q_n u) s3 = some s6 ∧ Fz (fun q j => (q = d ∧ j = 3) ∨ (d + 2 ≤ q ∧ q ≤ d + 7 ∧ j = u)) s0 s6 ∧ mxI s6 (d + 2) u = q_n (dfF bl N u) ∧ mxI s6 (d + 3) u = q_n (dO bl N B nk u).2.1 ∧ mxI s6 (d + 4) u = w ∧ mxI s6 (d + 5) u = q_n pp ∧ mxI s6 (d + 6) u = bI (dO bl N B nk u).2.2.2.2.1 ∧ (mxL s6 (d + 7) u).toInt = (dO bl N B nk u).2.2.2.2.2 := by
              unfold f_X2_takeGoal
              rw [bd (ad_r8 D3), bd (at_r15 T3), bd (show ma_L s3 (t + 4) 1 (2 : Int32) = some (mxL s3 (t + 4) 2) from at_g15 (j := 2) T3 (by omega)), n2', bd (al_is L3), bd2 nf]
              show ∃ s6, ((ms_I P s3 (d + 5) 0 (q_n u) (q_n pp)).bind _) = _ ∧ _
              rw [bd (ad_s8 D3 (by omega) (by omega) _), ← E4, bd (ad_r9 D4), bd (at_r16 T4), bd (show ma_I s4 (t + 5) 0 (3 : Int32) = some (mxI s4 (t + 5) 3) from at_g16 (j := 3) T4 (by omega)), t5]
              rcases k3 with y | y
              · rw [if_neg (by rw [y]; decide)]
                have hy : (dO bl N B nk u).2.2.2.2.1 = false := by
                  show decide (kdA bl (dKt bl N u 3) = 45) = false
                  rw [y]; decide
                rw [hy]
                exact D37 false hy.symm
              · rw [if_pos y]
                have hy : (dO bl N B nk u).2.2.2.2.1 = true := by
                  show decide (kdA bl (dKt bl N u 3) = 45) = true
                  rw [y]; decide
                rw [hy]
                exact D37 true hy.symm
            obtain ⟨s6, e6, G6, m2, m3, m4, m5, m6, m7⟩ := goal
            rw [bd (ad_is D3), bd e6]
            refine old s6 G6 ⟨m2, fun _ => ⟨m3, by rw [m4]; exact hw'⟩, fun z => absurd (show 2 ≤ dfF bl N u from z) (by omega), fun _ => ⟨?_, m6, m7⟩⟩
            rw [m5]
            show _ = q_n ((dPt B nk (nmA bl (dKt bl N u 2))).getD 0)
            rw [hpp]; rfl
          · rw [if_neg (show ¬ q_n (dfF bl N u) = (1 : Int32) from fun y => f1 ((q_f 1 (by omega)).mp y))]
            exact old s3 G3 ⟨f3', fun _ => ⟨i3', by rw [a3']; exact hw'⟩, fun z => absurd (show 2 ≤ dfF bl N u from z) (by omega), fun z => absurd (show dfF bl N u = 1 from z) f1⟩
    · rw [r0] at unK
      have c3 : dcd bl N B nk u j ≠ 0 := of_decide_eq_true (r_fst_tr r0)
      have c35 := dcd_3 c3
      show ∃ r τ, ((mg_I s0 t 10 2).bind fun x47 => (if x47 = 0 then _ else mr_Z (0 : Int32) s0)) = some (r, τ) ∧ _
      rw [bd (at_gI T0), z2, if_neg (show ¬ q_n (dcd bl N B nk u j) = 0 from fun y => by have := (q_nI (k := dcd bl N B nk u j) (l := 0) (by omega) (by omega)).mp y; omega)]
      exact ⟨0, s0, if_pos (Or.inl rfl), F0.mo fun q j y => Or.inl y, Or.inl ⟨rfl, (dcd bl N B nk u j, dKt bl N u j), unK, z2, z3⟩⟩
end LLS
