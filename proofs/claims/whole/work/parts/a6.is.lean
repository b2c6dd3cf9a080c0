/-! ===== is: names that are told, the reference's ===== -/
section ISS
variable {P : mx_P} {σ σ0 σ1 σ2 τ : mx_S} {x m n t l p q a N i k j u v w K c s f r : Nat} {bl : List Nat}
theorem r_told (hf : 5000 ≤ mpN P) (hM : LyM σ m) (hTS : TS σ m bl) (hNm : NmR σ m bl N K) (hK : K < 460) (hT : ∀ v, v < K → tkT bl N v 0 ≤ bl.length) (hs : s ≤ bl.length) : f_X12_toldAs P m (q_n s) (q_n (enA bl s - s)) σ = some (r_fI (telA bl N K (nmA bl s)), σ) := by
  have hlen := hTS.1
  have he := enA_le (bs := bl) hs
  unfold f_X12_toldAs
  obtain ⟨r, er, hr⟩ := q_for (f_X12_toldAs_L2 P m (q_n s) (q_n (enA bl s - s)))
    (fun k t => t = (q_n k, σ) ∧ r_fst (fun j => decide (cnA bl N 0 j = nmA bl s)) k = none)
    (fun r => (∃ k, r = .inl (q_n k, σ) ∧ telA bl N K (nmA bl s) = some k) ∨ (r = .inr σ ∧ telA bl N K (nmA bl s) = none)) K
    (by
      rintro k t hk ⟨rfl, i2⟩
      have hsk := hT k hk
      have hek := enA_le (bs := bl) hsk
      have iff : cnA bl N 0 k = nmA bl s ↔ (enA bl (tkT bl N k 0) - tkT bl N k 0 = enA bl s - s ∧ ∀ i, i < enA bl (tkT bl N k 0) - tkT bl N k 0 → by' bl (tkT bl N k 0 + i) = by' bl (s + i)) := nm_eq (bl := bl) hsk hs
      have nxt : ¬ cnA bl N 0 k = nmA bl s → r_fst (fun j => decide (cnA bl N 0 j = nmA bl s)) (k + 1) = none := fun z => by
        rw [r_fst, i2, decide_eq_false z]; rfl
      show (∃ t', f_X12_toldAs_B2 P m (q_n s) (q_n (enA bl s - s)) (q_n k) σ = _ ∧ _) ∨ (∃ r, f_X12_toldAs_B2 P m (q_n s) (q_n (enA bl s - s)) (q_n k) σ = _ ∧ _)
      unfold f_X12_toldAs_B2 f_X12_toldAs_D37_2
      rw [bd (am_gI hM), hNm.1, if_neg (by rw [q_nLe (by omega) (by omega)]; omega), bd (am_r40 hM), bd (am_g40 hM (by omega)), (hNm.2 k hk).2]
      by_cases cl : enA bl (tkT bl N k 0) - tkT bl N k 0 = enA bl s - s
      · rw [if_pos (by rw [cl]), bd (am_r39 hM), bd (am_g39 hM (by omega)), (hNm.2 k hk).1, bd (am_is hM), bd2 (r_same hf hM hTS (by omega) (by omega))]
        by_cases ce : ∀ i, i < enA bl s - s → by' bl (tkT bl N k 0 + i) = by' bl (s + i)
        · rw [decide_eq_true ce, if_neg (show ¬ bI true = 0 by decide)]
          exact Or.inr ⟨_, rfl, Or.inl ⟨k, rfl, fst_at hk (decide_eq_true (iff.mpr ⟨cl, fun i hi => ce i (by omega)⟩)) i2⟩⟩
        · rw [decide_eq_false ce, if_pos (show bI false = 0 from rfl), bds, q_nS]
          exact Or.inl ⟨_, rfl, rfl, nxt fun z => ce fun i hi => (iff.mp z).2 i (by omega)⟩
      · rw [if_neg (fun z => cl ((q_nI (by omega) (by omega)).mp z)), bds, q_nS]
        exact Or.inl ⟨_, rfl, rfl, nxt fun z => cl (iff.mp z).1⟩)
    (by
      rintro t ⟨rfl, i2⟩
      refine ⟨_, ?_, Or.inr ⟨rfl, i2⟩⟩
      show f_X12_toldAs_B2 P m (q_n s) (q_n (enA bl s - s)) (q_n K) σ = _
      unfold f_X12_toldAs_B2
      rw [bd (am_gI hM), hNm.1, if_pos (by rw [q_nLe (by omega) (by omega)]; exact Nat.le_refl _)])
    K 0 ((0 : Int32), σ) (mpN P) (by omega) ⟨rfl, rfl⟩ (by omega)
  rw [bd er]
  rcases hr with ⟨k, rfl, hr⟩ | ⟨rfl, hr⟩
  · rw [hr]; rfl
  · rw [hr]; rfl
def DNm (bl : List Nat) (N K : Nat) (us : List Nat) (i s c : Nat) : Prop := Dr bl N K 0 s c ∨ ∃ k, k < i ∧ us[k]? = some s ∧ c = 3 ∧ telA bl N K (nmA bl s) = none
theorem DNm_n {us : List Nat} (hs : us[i]? = some k) (ht : telA bl N K (nmA bl k) ≠ none) : DNm bl N K us (i + 1) s c ↔ DNm bl N K us i s c := by
  unfold DNm
  constructor
  · rintro (y | ⟨j, y1, y2, y3, y4⟩)
    · exact Or.inl y
    · by_cases e : j = i
      · subst e
        rw [hs] at y2
        cases y2
        exact absurd y4 ht
      · exact Or.inr ⟨j, by omega, y2, y3, y4⟩
  · rintro (y | ⟨j, y1, y2, y3, y4⟩)
    · exact Or.inl y
    · exact Or.inr ⟨j, by omega, y2, y3, y4⟩
theorem DNm_y {us : List Nat} (hs : us[i]? = some k) (ht : telA bl N K (nmA bl k) = none) : DNm bl N K us (i + 1) s c ↔ (DNm bl N K us i s c ∨ (s = k ∧ c = 3)) := by
  unfold DNm
  constructor
  · rintro (y | ⟨j, y1, y2, y3, y4⟩)
    · exact Or.inl (Or.inl y)
    · by_cases e : j = i
      · subst e
        rw [hs] at y2
        cases y2
        exact Or.inr ⟨rfl, y3⟩
      · exact Or.inl (Or.inr ⟨j, by omega, y2, y3, y4⟩)
  · rintro ((y | ⟨j, y1, y2, y3, y4⟩) | ⟨rfl, y2⟩)
    · exact Or.inl y
    · exact Or.inr ⟨j, by omega, y2, y3, y4⟩
    · exact Or.inr ⟨i, by omega, hs, y2, ht⟩
theorem r_fnm (hf : 20000 ≤ mpN P) (hb : mpb P ≤ m) (hG : GdT bl N K) (hK : K < 460) (hR : RQ σ0 m bl N K K 0 σ) : ∃ τ, f_X12_findNames P m σ = some τ ∧ Fz (fnF m) σ τ ∧ FtL τ m (lsF bl N K K) := by
  obtain ⟨⟨hM, hTS, hFz⟩, h45, hNm, ⟨us, u1, u2, u3, u4⟩, ⟨fs0, l1, l2⟩, hA, hRc, hUn⟩ := hR
  have hlen := hTS.1
  have h256 := TS_256 hTS
  have hsq := sqA_b hG
  have hT : ∀ v, v < K → ∀ i, tkT bl N v i ≤ bl.length := fun v hv i => tkT_le (hsq v (by omega)).2
  rw [npP] at u2
  have hsK := (hsq K (Nat.le_refl _)).2
  have hsl : ∀ i s, us[i]? = some s → s ≤ bl.length := fun i s hi => by
    obtain ⟨v, j, hbf, -, rfl⟩ := (u4 s).mp (List.mem_of_getElem? hi)
    exact hT v (bfr_z.mp hbf).1 j
  obtain ⟨τ, e, f, fs, a1, a2⟩ := q_for (f_X12_findNames_L2 P m) (fun w t => ∃ τ, t = (q_n w, τ) ∧ Fz (fnF m) σ τ ∧ ∃ fs, FtL τ m fs ∧ Lm fs (DNm bl N K us w)) (fun τ => Fz (fnF m) σ τ ∧ ∃ fs, FtL τ m fs ∧ Lm fs (DNm bl N K us us.length)) us.length
    (by
      rintro w t hw ⟨τ, rfl, f, fs, a1, a2⟩
      left
      obtain ⟨s, hs⟩ : ∃ s, us[w]? = some s := ⟨us[w], List.getElem?_eq_getElem hw⟩
      have hsb := hsl w s hs
      have hMt := f.M hM
      have hTSt : TS τ m bl := TS_f hTS f (fun q j z => by unfold fnF at z; omega)
      have hNt : NmR τ m bl N K := NmR_f hNm f (fun q j z => by unfold fnF at z; omega)
      have g : ∀ q k, ¬ fnF m q k → mxI τ q k = mxI σ q k := fun q k z => (f.2.2.2 q k z).1
      have i50 : mxI τ m 50 = q_n us.length := (g _ _ (by unfold fnF; omega)).trans u1
      have i33 : mxI τ (m + 33) w = q_n s := (g _ _ (by unfold fnF; omega)).trans (u3 w s hs).1
      have i34 : mxI τ (m + 34) w = q_n (enA bl s - s) := (g _ _ (by unfold fnF; omega)).trans (u3 w s hs).2
      show ∃ t', f_X12_findNames_B2 P m (q_n w) τ = _ ∧ _
      unfold f_X12_findNames_B2 f_X12_findNames_D40_2
      rw [bd (am_gI hMt), i50, if_neg (by rw [q_nLe (by omega) (by omega)]; omega), bd (am_r51 hMt), bd (am_g51 hMt (by omega)), i33, bd (am_r52 hMt), bd (am_g52 hMt (by omega)), i34, bd (am_is hMt), bd2 (r_told (by omega) hMt hTSt hNt hK (fun v hv => hT v hv 0) hsb)]
      cases ht : telA bl N K (nmA bl s) with
      | some k =>
        have hk := r_fst_lt ht
        rw [if_pos (show (0 : Int32) ≤ r_fI (some k) by show (0 : Int32) ≤ q_n k; rw [show (0 : Int32) = q_n 0 from rfl, q_nLe (by omega) (by omega)]; omega), bds, q_nS]
        exact ⟨_, rfl, τ, rfl, f, fs, a1, Lm_cg a2 fun s' c => DNm_n hs (by rw [ht]; exact fun z => by cases z)⟩
      | none =>
        obtain ⟨τ', e, b1, f'⟩ := r_fnd (P := P) (c := 3) hMt hb a1 (by omega) (by omega) (show s < 5000 by omega)
        rw [if_neg (show ¬ (0 : Int32) ≤ r_fI none by decide), bd (am_r51 hMt), bd (am_g51 hMt (by omega)), i33, bd (am_is hMt), bd (show f_X12_found P m (3 : Int32) (q_n s) τ = some τ' from e), bds, q_nS]
        exact ⟨_, rfl, τ', rfl, f.tr f', _, b1, Lm_cg (Lm_f a2) fun s' c => DNm_y hs ht⟩)
    (by
      rintro t ⟨τ, rfl, f, fs, a1, a2⟩
      refine ⟨τ, ?_, f, fs, a1, a2⟩
      show f_X12_findNames_B2 P m (q_n us.length) τ = _
      unfold f_X12_findNames_B2
      rw [bd (am_gI (f.M hM)), (f.2.2.2 _ _ (fun z => by unfold fnF at z; omega)).1, u1, if_pos (by rw [q_nLe (by omega) (by omega)]; exact Nat.le_refl _)])
    us.length 0 ((0 : Int32), σ) (mpN P) (by omega) ⟨σ, rfl, Fz.rf, fs0, l1, Lm_cg l2 fun s c => by
      unfold DNm
      constructor
      · rintro (y | ⟨k, hk, -⟩)
        · exact y
        · omega
      · exact Or.inl⟩ (by omega)
  have key : ∀ s c, DK bl N K K s c ↔ DNm bl N K us us.length s c := fun s c => by
    have s67 : ∀ v i, v < K → i < nT bl N v → lT bl N v i = 67 → i = 0 := fun v i hv hi h67 => by
      have hh := (gd_h h256 hG hv).1
      have n6 : nT bl N v ≤ 6 := (n_6 ⟨_, hh.2.2.1⟩).1
      exact (lf_tab ⟨_, hh.2.2.1⟩ ⟨i, by omega⟩ hi).2.2.2 h67
    unfold DNm
    constructor
    · rintro ⟨v, i, hbf, rfl, h2, h3⟩
      have hb' := bfr_z.mp hbf
      by_cases c80 : lT bl N v i = 80
      · rw [cd_80 c80] at h2
        cases ht : telA bl N K (nmA bl (tkT bl N v i)) with
        | none =>
          rw [ht] at h2
          have hm := (u4 _).mpr ⟨v, i, hbf, c80, rfl⟩
          obtain ⟨k, hk⟩ := List.getElem?_of_mem hm
          have hkl : k < us.length := by
            rcases Nat.lt_or_ge k us.length with y | y
            · exact y
            · rw [List.getElem?_eq_none y] at hk; cases hk
          exact Or.inr ⟨k, hkl, hk, h2, rfl⟩
        | some w => rw [ht] at h2; exact absurd h2 h3
      · rw [← cd_K hb'.1 c80 (s67 v i hb'.1 hb'.2)] at h2
        exact Or.inl ⟨v, i, hbf, c80, rfl, h2, h3⟩
    · rintro (⟨v, i, hbf, h1, h2, h3, h4⟩ | ⟨k, hk, h1, h2, h3⟩)
      · have hb' := bfr_z.mp hbf
        rw [cd_K hb'.1 h1 (s67 v i hb'.1 hb'.2)] at h3
        exact ⟨v, i, hbf, h2, h3, h4⟩
      · obtain ⟨v, i, hbf, h80, rfl⟩ := (u4 s).mp (List.mem_of_getElem? h1)
        refine ⟨v, i, hbf, rfl, ?_, by omega⟩
        rw [cd_80 h80, h3, h2]; rfl
  have efs : fs = lsF bl N K K := Lm_u (Lm_cg a2 key) (Lm_ls h256 hG K (Nat.le_refl _)) (fun s c c' => DK_fn h256 hG)
  refine ⟨τ, ?_, f, by rw [← efs]; exact a1⟩
  unfold f_X12_findNames
  rw [bd e]
end ISS
