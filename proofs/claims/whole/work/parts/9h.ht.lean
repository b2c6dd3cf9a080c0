/-! ===== ht: ranges, tellers ===== -/
section HTS
variable {P : mx_P} {σ σ0 σ1 σ2 τ : mx_S} {x m n t p a N i k j : Nat} {bs : List Nat}
/-- a number in a part -/
def NmI (σ : mx_S) (t j : Nat) (tp : Int) (bt : Nat) : Prop := (mxI σ (t + 5) j).toInt = tp ∧ mxI σ (t + 6) j = q_n bt ∧ -10000 < tp ∧ tp < 10000 ∧ 0 < bt ∧ bt < 10000
def whB (tp : Int) (bt : Nat) (lo hi : Int) : Bool := decide (tp % bt = 0 ∧ lo ≤ tp / bt ∧ tp / bt ≤ hi)
theorem c_whl {tp : Int} {bt : Nat} (hT : LyT σ t) (hj : j < 6) (h : NmI σ t j tp bt) : ∃ w, f_X10_whole P t (q_n j) σ = some (w, σ) ∧ w.toInt = tp.tdiv bt := by
  obtain ⟨h1, h2, h3, h4, h5, h6⟩ := h
  unfold f_X10_whole f_X10_whole_D26
  rw [bd (at_r17 hT), bd (at_g17 hT hj), h2, if_neg (by rw [show (0 : Int32) = q_n 0 from rfl, q_nLe (by omega) (by omega)]; omega), bd (at_r16 hT), bd (at_g16 hT hj), bd (at_r17 hT), bd (at_g17 hT hj), h2]
  have e : md_I (mxI σ (t + 5) j) (q_n bt) = some (mxI σ (t + 5) j / q_n bt) := by
    unfold md_I; rw [if_neg (fun z => by rw [show (0 : Int32) = q_n 0 from rfl, q_nI (by omega) (by omega)] at z; omega)]
  rw [bd e]
  refine ⟨_, rfl, ?_⟩
  rw [Int32.toInt_div, h1, q_nT (by omega)]
  have hb : (tp.tdiv bt).natAbs ≤ tp.natAbs := by rw [Int.natAbs_tdiv]; exact Nat.div_le_self _ _
  exact q_bm32 (by omega) (by omega)
theorem tdv_ex {tp : Int} {bt : Nat} (h : 0 < bt) : tp.tdiv bt * bt = tp ↔ tp % bt = 0 := by
  constructor
  · intro e
    rw [← e]; exact Int.mul_emod_left _ _
  · intro e
    obtain ⟨c, hc⟩ := Int.dvd_of_emod_eq_zero e
    rw [hc, Int.mul_comm (bt : Int) c, Int.mul_tdiv_cancel _ (by omega)]
theorem tdv_eq {tp : Int} {bt : Nat} (h : 0 < bt) (e : tp % bt = 0) : tp.tdiv bt = tp / bt := by
  obtain ⟨c, hc⟩ := Int.dvd_of_emod_eq_zero e
  rw [hc, Int.mul_comm (bt : Int) c, Int.mul_tdiv_cancel _ (by omega), Int.mul_ediv_cancel _ (by omega)]
theorem c_isw {tp : Int} {bt : Nat} {lo hi : Int32} (hT : LyT σ t) (hj : j < 6) (h : NmI σ t j tp bt) : f_X10_isWhole P t (q_n j) lo hi σ = some (bI (whB tp bt lo.toInt hi.toInt), σ) := by
  have hz1 : ∀ σ, mr_Z 1 σ = some (1, σ) := fun σ => if_pos (Or.inr rfl)
  have hz0 : ∀ σ, mr_Z 0 σ = some (0, σ) := fun σ => if_pos (Or.inl rfl)
  obtain ⟨w, ew, hw⟩ := c_whl (P := P) hT hj h
  obtain ⟨h1, h2, h3, h4, h5, h6⟩ := h
  have hb : (tp.tdiv bt).natAbs ≤ tp.natAbs := by rw [Int.natAbs_tdiv]; exact Nat.div_le_self _ _
  have hmul : (tp.tdiv bt * bt).natAbs ≤ tp.natAbs := by
    rw [Int.natAbs_mul, Int.natAbs_tdiv, Int.natAbs_natCast]
    exact Nat.div_mul_le_self _ _
  have em : (w * q_n bt).toInt = tp.tdiv bt * bt := by
    have e1 : w.toInt * (q_n bt).toInt = tp.tdiv bt * bt := by rw [hw, q_nT (by omega)]
    rw [q_imul (by rw [e1]; omega) (by rw [e1]; omega), e1]
  unfold f_X10_isWhole f_X10_isWhole_D41 f_X10_isWhole_D42
  rw [bd (at_is hT), bd2 ew, bd (at_r17 hT), bd (at_g17 hT hj), h2, bd (at_r16 hT), bd (at_g16 hT hj), hz1, hz0]
  have hc : (w * q_n bt = mxI σ (t + 5) j) ↔ tp % bt = 0 := by
    rw [← tdv_ex h5, q_eq, em, h1]
  unfold whB
  by_cases c : tp % bt = 0
  · rw [if_pos (hc.mpr c)]
    have hq := tdv_eq h5 c
    rw [hq] at hw
    by_cases c1 : w < lo
    · rw [if_pos c1, decide_eq_false (by rw [q_lt, hw] at c1; omega)]; rfl
    rw [if_neg c1]
    by_cases c2 : hi < w
    · rw [if_pos c2, decide_eq_false (by rw [q_lt, hw] at c2; omega)]; rfl
    rw [if_neg c2, decide_eq_true (by rw [q_lt, hw] at c1 c2; exact ⟨c, by omega, by omega⟩)]; rfl
  · rw [if_neg (fun z => c (hc.mp z)), decide_eq_false (fun z => c z.1)]; rfl
/-- the range of a letter -/
def rgL (c : Nat) (tp : Int) (bt : Nat) : Bool := if c = 120 then decide (-(60 * (bt : Int)) ≤ tp ∧ tp ≤ 60 * bt) else if c = 114 then decide (0 < tp ∧ tp ≤ 60 * bt) else if c = 105 then whB tp bt 0 3 else if c = 110 then whB tp bt (-8) 8 else if c = 107 then whB tp bt 0 1023 else if c = 119 then whB tp bt 1 360 else if c = 108 then whB tp bt 1 4 else if c = 116 then whB tp bt (-1023) 1023 else if c = 97 then whB tp bt 1 9 else if c = 98 then whB tp bt 0 255 else true
theorem c_rng {c : Nat} {tp : Int} {bt : Nat} (hT : LyT σ t) (hj : j < 6) (h : NmI σ t j tp bt) (hl : mxI σ (t + 2) j = q_n c) (hc : c = 120 ∨ c = 114 ∨ c = 105 ∨ c = 110 ∨ c = 107 ∨ c = 119 ∨ c = 108 ∨ c = 116 ∨ c = 97 ∨ c = 98 ∨ c = 118) : f_X10_isInRange P t (q_n j) σ = some (bI (rgL c tp bt), σ) := by
  have hz1 : ∀ σ, mr_Z 1 σ = some (1, σ) := fun σ => if_pos (Or.inr rfl)
  have hz0 : ∀ σ, mr_Z 0 σ = some (0, σ) := fun σ => if_pos (Or.inl rfl)
  have hzb : ∀ (b : Bool) σ, mr_Z (bI b) σ = some (bI b, σ) := fun b σ => by cases b; exact hz0 σ; exact hz1 σ
  obtain ⟨h1, h2, h3, h4, h5, h6⟩ := id h
  unfold f_X10_isInRange f_X10_isInRange_D253 f_X10_isInRange_D175 f_X10_isInRange_D174 f_X10_isInRange_D142
  rw [bd (at_r13 hT), bd (at_g13 hT hj), hl, hz1]
  have e60 : ((60 : Int32) * q_n bt).toInt = 60 * bt := by
    rw [show (60 : Int32) = q_n 60 from rfl, q_nM, q_nT (by omega)]; omega
  rcases hc with rfl | rfl | rfl | rfl | rfl | rfl | rfl | rfl | rfl | rfl | rfl
  · repeat rw [if_neg (by decide)]
    rw [if_pos (by decide), bd (at_r16 hT), bd (at_g16 hT hj)]
    obtain ⟨y, ey, hy⟩ : ∃ y : Int32, f_J9_abs_0f7a4 P (mxI σ (t + 5) j) σ = some (y, σ) ∧ y.toInt = if 0 ≤ tp then tp else -tp := by
      unfold f_J9_abs_0f7a4 f_J9_abs_0f7a4_D10
      by_cases c : 0 ≤ tp
      · rw [if_pos (by rw [q_le, h1, q_i0]; exact c), if_pos c]; exact ⟨_, rfl, h1⟩
      · rw [if_neg (by rw [q_le, h1, q_i0]; exact c), if_neg c]; exact ⟨_, rfl, by rw [q_ineg (by rw [h1]; omega), h1]⟩
    rw [bd2 ey, bd (at_r17 hT), bd (at_g17 hT hj), h2, hz0]
    show _ = some (bI (decide (-(60 * (bt : Int)) ≤ tp ∧ tp ≤ 60 * bt)), σ)
    by_cases c2 : (60 : Int32) * q_n bt < y
    · rw [if_pos c2, decide_eq_false (by rw [q_lt, hy, e60] at c2; split at c2 <;> omega)]; rfl
    rw [if_neg c2, decide_eq_true (by rw [q_lt, hy, e60] at c2; split at c2 <;> omega)]; rfl
  · repeat rw [if_neg (by decide)]
    rw [if_pos (by decide), bd (at_r16 hT), bd (at_g16 hT hj), bd (at_r16 hT), bd (at_g16 hT hj), bd (at_r17 hT), bd (at_g17 hT hj), h2, show f_X10_isInRange_D175 P 0 σ = some (0, σ) from hz0 σ]
    show _ = some (bI (decide (0 < tp ∧ tp ≤ 60 * bt)), σ)
    by_cases c1 : mxI σ (t + 5) j ≤ 0
    · rw [if_pos c1, decide_eq_false (by rw [q_le, h1, q_i0] at c1; omega)]; rfl
    rw [if_neg c1]
    by_cases c2 : (60 : Int32) * q_n bt < mxI σ (t + 5) j
    · rw [if_pos c2, decide_eq_false (by rw [q_lt, h1, e60] at c2; omega)]; rfl
    rw [if_neg c2, decide_eq_true (by rw [q_le, h1, q_i0] at c1; rw [q_lt, h1, e60] at c2; omega)]; rfl
  all_goals (repeat rw [if_neg (by decide)])
  all_goals rw [if_pos (by decide)]
  all_goals first | rfl | (rw [bd (at_is hT), bd2 (c_isw hT hj h), hzb]; rfl)
/-- which statement tells a name first -/
theorem c_tell {K : Nat} {w : List Nat} (hf : 5000 ≤ mpN P) (hT : LyT σ t) (h : tdC σ t bs N i K) (hw : gnm w) (hg : ∀ j, j < K → gnm (cnA bs N i j)) : f_X10_tellerOf P t (l_n (pk w)) σ = some (r_fI (r_fst (fun j => decide (cnA bs N i j = w)) (min K 450)), σ) := by
  unfold f_X10_tellerOf
  have hM450 : min K 450 ≤ 450 := Nat.min_le_right _ _
  have hMK : min K 450 ≤ K := Nat.min_le_left _ _
  obtain ⟨h1, h2⟩ := h
  generalize hM : min K 450 = M at *
  obtain ⟨r, er, hr⟩ := q_for (f_X10_tellerOf_L2 P t (l_n (pk w)))
    (fun k s => s = (q_n k, σ) ∧ r_fst (fun j => decide (cnA bs N i j = w)) k = none)
    (fun r => (∃ k, r = .inl (q_n k, σ) ∧ r_fst (fun j => decide (cnA bs N i j = w)) M = some k) ∨ (r = .inr σ ∧ r_fst (fun j => decide (cnA bs N i j = w)) M = none)) M
    (by
      rintro k s hk ⟨rfl, i2⟩
      show (∃ t', f_X10_tellerOf_B2 P t (l_n (pk w)) (q_n k) σ = _ ∧ _) ∨ (∃ r, f_X10_tellerOf_B2 P t (l_n (pk w)) (q_n k) σ = _ ∧ _)
      unfold f_X10_tellerOf_B2
      rw [bd (at_gI hT), h1, if_neg (by rw [q_nLe (by omega) (by omega)]; omega), bd (at_r18 hT), bd (at_g18 hT (by omega)), h2 k (by omega) (by omega)]
      have hgk := hg k (by omega)
      have b1 := pn_63 (gnm_b hgk).1 hgk.2.1
      have b2 := pn_63 (gnm_b hw).1 hw.2.1
      by_cases c : cnA bs N i k = w
      · rw [if_pos (q_cmp0.mpr (by rw [c]))]
        exact Or.inr ⟨_, rfl, Or.inl ⟨k, rfl, fst_at hk (decide_eq_true c) i2⟩⟩
      · rw [if_neg (fun z => c (pn_inj _ _ (gnm_b hgk).2 (gnm_b hw).2 ((l_nI b1 b2).mp (q_cmp0.mp z)))), bds, q_nS]
        refine Or.inl ⟨_, rfl, rfl, ?_⟩
        rw [r_fst, i2, decide_eq_false c]; rfl)
    (by
      rintro s ⟨rfl, i2⟩
      refine ⟨_, ?_, Or.inr ⟨rfl, i2⟩⟩
      show f_X10_tellerOf_B2 P t (l_n (pk w)) (q_n M) σ = _
      unfold f_X10_tellerOf_B2
      rw [bd (at_gI hT), h1, if_pos (by rw [q_nLe (by omega) (by omega)]; exact Nat.le_refl _)])
    M 0 ((0 : Int32), σ) (mpN P) (by omega) ⟨rfl, rfl⟩ (by omega)
  rw [bd er]
  rcases hr with ⟨k, rfl, hr⟩ | ⟨rfl, hr⟩
  · rw [hr]; rfl
  · rw [hr]; rfl
theorem seg_mem {s e b : Nat} (h : b ∈ seg bs s e) : b ∈ bs := List.mem_of_mem_drop (List.mem_of_mem_take h)
theorem wd_let : ∀ (f p : Nat), ∀ q, p ≤ q → q < wdN bs f p → ltr (bA bs q) = true
  | 0, p, q, h1, h2 => by rw [wdN] at h2; omega
  | f + 1, p, q, h1, h2 => by
    rw [wdN] at h2
    split at h2
    · next c =>
      by_cases e : q = p
      · rw [e]; exact c
      · exact wd_let f (p + 1) q (by omega) h2
    · omega
/-- a word is a name -/
theorem wd_gnm {s : Nat} (h256 : ∀ b, b ∈ bs → b < 256) (h : kdA bs s = 2) : gnm (seg bs s (enA bs s)) := by
  have hs : s < bs.length := kd59_lt (by rw [h]; decide)
  have hlr : ltr (bA bs s) = true := by
    unfold kdA at h
    rw [if_neg (by omega)] at h
    cases c : ltr (bA bs s) with
    | true => rfl
    | false =>
      rw [c, if_neg (by decide)] at h
      split at h
      · split at h <;> exact absurd h (by decide)
      · split at h
        · next sg =>
          unfold sgn at sg
          have := of_decide_eq_true sg
          rw [h] at this
          revert this; decide
        · exact absurd h (by decide)
  have ee : enA bs s = wdN bs 8 s := by unfold enA; rw [if_neg (by omega), hlr, if_pos rfl]
  have h1 := enA_le (bs := bs) (s := s) (by omega)
  have h2 := wdN_le (bs := bs) 8 s (by omega)
  have len : (seg bs s (enA bs s)).length = enA bs s - s := by
    unfold seg; rw [List.length_take, List.length_drop]; omega
  refine ⟨by rw [len]; have := h1.2.2 hs; omega, by rw [len, ee]; omega, fun b hb => ⟨h256 b (seg_mem hb), ?_⟩⟩
  obtain ⟨q, hq⟩ := List.getElem?_of_mem hb
  have hq1 := (List.getElem?_eq_some_iff.mp hq).1
  rw [len] at hq1
  unfold seg at hq
  rw [List.getElem?_take_of_lt hq1, List.getElem?_drop] at hq
  have hlt : s + q < bs.length := by omega
  have := wd_let (bs := bs) 8 s (s + q) (by omega) (by rw [← ee]; omega)
  rw [bA_by hlt] at this
  have e2 := by_i hlt
  rw [hq] at e2
  rw [Option.some.inj e2]; exact this
end HTS
