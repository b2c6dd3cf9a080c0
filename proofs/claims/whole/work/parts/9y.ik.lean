/-! ===== ik: words, faults, the reference's ===== -/
section IKS
variable {P : mx_P} {σ σ0 σ1 σ2 τ : mx_S} {x m n t l p q a N i k j u K c s f r : Nat} {bl : List Nat}
theorem nsub {a b : Nat} (ha : a < 2147483648) (h : b ≤ a) : q_n a - q_n b = q_n (a - b) := by
  apply Int32.toInt.inj
  rw [q_isub (by rw [q_nT (by omega), q_nT (by omega)]; omega) (by rw [q_nT (by omega), q_nT (by omega)]; omega), q_nT (by omega), q_nT (by omega), q_nT (by omega)]; omega
theorem am_gb (hM : LyM σ m) (h : TS σ m bl) (hk : k < bl.length) : ma_I σ (m + 1) 0 (q_n k) = some (q_n (by' bl k)) := by
  have hl := h.1
  rw [am_g1 hM (by omega), (h.2.2 k _ (by_i hk)).2]
theorem r_same (hf : 5000 ≤ mpN P) (hM : LyM σ m) (h : TS σ m bl) (hp : p + n ≤ bl.length) (hq : q + n ≤ bl.length) : f_X12_sameWord P m (q_n p) (q_n q) (q_n n) σ = some (bI (decide (∀ k, k < n → by' bl (p + k) = by' bl (q + k))), σ) := by
  have hl := h.1
  have h256 := TS_256 h
  obtain ⟨r, e, hr⟩ := q_for (f_X12_sameWord_L3 P m (q_n p) (q_n q) (q_n n)) (fun k s => s = (q_n k, σ) ∧ ∀ i, i < k → by' bl (p + i) = by' bl (q + i))
    (fun r => (r = .inr σ ∧ ∀ k, k < n → by' bl (p + k) = by' bl (q + k)) ∨ (r = .inl σ ∧ ¬ ∀ k, k < n → by' bl (p + k) = by' bl (q + k))) n
    (by
      rintro k s hk ⟨rfl, hi⟩
      have hB : f_X12_sameWord_L3 P m (q_n p) (q_n q) (q_n n) (q_n k, σ) = (if q_n (by' bl (p + k)) = q_n (by' bl (q + k)) then some (.inl (q_n (k + 1), σ)) else some (.inr (.inl σ))) := by
        show f_X12_sameWord_B3 P m (q_n p) (q_n q) (q_n n) (q_n k) σ = _
        unfold f_X12_sameWord_B3
        rw [if_neg (by rw [q_nLe (by omega) (by omega)]; omega), bd (am_r1 hM), q_nA, bd (am_gb hM h (by omega)), bd (am_r1 hM), q_nA, bd (am_gb hM h (by omega)), bds, q_nS]
      rw [hB]
      have b1 := h256 _ (List.mem_of_getElem? (by_i (show p + k < bl.length by omega)))
      have b2 := h256 _ (List.mem_of_getElem? (by_i (show q + k < bl.length by omega)))
      by_cases c : by' bl (p + k) = by' bl (q + k)
      · rw [if_pos (by rw [c])]
        refine Or.inl ⟨_, rfl, rfl, fun i hi' => ?_⟩
        by_cases e : i = k
        · rw [e]; exact c
        · exact hi i (by omega)
      · rw [if_neg (fun z => c ((q_nI (by omega) (by omega)).mp z))]
        exact Or.inr ⟨_, rfl, Or.inr ⟨rfl, fun z => c (z k hk)⟩⟩)
    (by
      rintro s ⟨rfl, hi⟩
      refine ⟨.inr σ, ?_, Or.inl ⟨rfl, hi⟩⟩
      show f_X12_sameWord_B3 P m (q_n p) (q_n q) (q_n n) (q_n n) σ = _
      unfold f_X12_sameWord_B3
      rw [if_pos (by rw [q_nLe (by omega) (by omega)]; exact Nat.le_refl _)])
    n 0 ((0 : Int32), σ) (mpN P) (by omega) ⟨rfl, fun i hi => absurd hi (Nat.not_lt_zero i)⟩ (by omega)
  unfold f_X12_sameWord
  rw [bd e]
  rcases hr with ⟨rfl, hr⟩ | ⟨rfl, hr⟩
  · rw [decide_eq_true hr]; show mr_Z 1 σ = _; exact if_pos (Or.inr rfl)
  · rw [decide_eq_false hr]; show mr_Z 0 σ = _; exact if_pos (Or.inl rfl)
theorem by_seg (h : s ≤ bl.length) (hk : k < enA bl s - s) : (nmA bl s)[k]? = some (by' bl (s + k)) := by
  have h1 := enA_le h
  unfold nmA seg
  rw [List.getElem?_take_of_lt hk, List.getElem?_drop, by_i (by omega)]
/-- the same name -/
theorem nm_eq (h : s ≤ bl.length) (h' : t ≤ bl.length) : nmA bl s = nmA bl t ↔ enA bl s - s = enA bl t - t ∧ ∀ k, k < enA bl s - s → by' bl (s + k) = by' bl (t + k) := by
  constructor
  · intro e
    have l := congrArg List.length e
    rw [show (nmA bl s).length = enA bl s - s from seg_len h, show (nmA bl t).length = enA bl t - t from seg_len h'] at l
    refine ⟨l, fun k hk => ?_⟩
    have := by_seg h hk
    rw [e, by_seg h' (by omega)] at this
    exact (Option.some.inj this).symm
  · rintro ⟨l, e⟩
    apply List.ext_getElem?
    intro k
    by_cases c : k < enA bl s - s
    · rw [by_seg h c, by_seg h' (by omega), e k c]
    · rw [List.getElem?_eq_none (by rw [show (nmA bl s).length = enA bl s - s from seg_len h]; omega), List.getElem?_eq_none (by rw [show (nmA bl t).length = enA bl t - t from seg_len h']; omega)]
theorem rk1 {v : Int32} (h : rk v = 1) : v = 2 := by
  unfold rk at h
  split at h
  · assumption
  split at h
  · exact absurd h (by decide)
  split at h
  · exact absurd h (by decide)
  · next h1 h2 h3 => exact absurd h h3
theorem r_isw (hi : i < 16) (hf : 5000 ≤ mpN P) (hM : LyM σ m) (h : TS σ m bl) (hs : s ≤ bl.length) (hk : TkR σ m bl s) (h0 : 0 < (gst i).length) : f_X12_isWord P m i σ = some (bI (decide (kdA bl s = 2 ∧ nmA bl s = gst i)), σ) := by
  have ok : mt_ok i = some () := if_pos hi
  have hl := h.1
  have h256 := TS_256 h
  obtain ⟨g1, g2, g3, -⟩ := gst_ok ⟨i, hi⟩
  dsimp only at g1 g2 g3
  obtain ⟨k1, k2, k3, -⟩ := hk
  have no : f_X12_isWord_D28 P m i σ = some (0, σ) := by
    obtain ⟨fu, hfu⟩ : ∃ fu, mpN P = fu + 1 := ⟨mpN P - 1, by omega⟩
    have : f_X12_isWord_L32 P m i ((0 : Int32), (0 : Int32), σ) = some (.inr ((0 : Int32), σ)) := by
      show f_X12_isWord_B32 P m i 0 0 σ = _
      unfold f_X12_isWord_B32
      rw [bd ok, bd2 (s_len hi), if_neg (by rw [show (0 : Int32) = q_n 0 from rfl, q_nLe (by omega) (by omega)]; omega), if_pos rfl]
    unfold f_X12_isWord_D28 f_X12_isWord_D29 f_X12_isWord_D75
    rw [hfu, mx_lpS, this]
    show mr_Z 0 σ = _
    exact if_pos (Or.inl rfl)
  unfold f_X12_isWord
  rw [bd (am_gI hM), k2]
  by_cases c2 : kdA bl s = 2
  · rw [if_pos (by rw [c2]; rfl), bd (am_gI hM), k1 (by rw [c2]; decide), bd (am_gI hM), k3, bd ok, bd2 (s_len hi)]
    have he := enA_le (bs := bl) hs
    rw [nsub (by omega) (by omega)]
    have ln : (nmA bl s).length = enA bl s - s := seg_len hs
    by_cases c3 : enA bl s - s = (gst i).length
    · rw [if_pos (by rw [c3])]
      obtain ⟨⟨v, τ⟩, e, hr1, hr2⟩ := q_for (f_X12_isWord_L32 P m i)
        (fun k t => (t = ((1 : Int32), q_n k, σ) ∧ ∀ j, j < k → by' bl (s + j) = by' (gst i) j) ∨ (∃ w, t = ((0 : Int32), w, σ) ∧ (w ≤ q_n k ∧ ¬ ∀ j, j < (gst i).length → by' bl (s + j) = by' (gst i) j)))
        (fun r => r.2 = σ ∧ r.1 = bI (decide (∀ j, j < (gst i).length → by' bl (s + j) = by' (gst i) j))) (gst i).length
        (by
          rintro k t hk (⟨rfl, hj⟩ | ⟨w, rfl, hw, hn⟩)
          · left
            have hb : by' bl (s + k) < 256 := h256 _ (List.mem_of_getElem? (by_i (show s + k < bl.length by omega)))
            have hg : by' (gst i) k < 128 := g3 _ (List.mem_of_getElem? (by_i hk))
            have hB : f_X12_isWord_L32 P m i ((1 : Int32), q_n k, σ) = (if q_n (by' bl (s + k)) = q_n (by' (gst i) k) then some (.inl ((1 : Int32), q_n (k + 1), σ)) else some (.inl ((0 : Int32), q_n (k + 1), σ))) := by
              show f_X12_isWord_B32 P m i 1 (q_n k) σ = _
              unfold f_X12_isWord_B32 f_X12_isWord_D68_32
              rw [bd ok, bd2 (s_len hi), if_neg (by rw [q_nLe (by omega) (by omega)]; omega), if_neg zi10, bd (am_r1 hM), bd (am_gI hM), k3, q_nA, bd (am_gb hM h (by omega)), bd ok, bd2 (s_at hi hk), bds, bds, q_nS]
            rw [hB]
            by_cases c : by' bl (s + k) = by' (gst i) k
            · rw [if_pos (by rw [c])]
              refine ⟨_, rfl, Or.inl ⟨rfl, fun j hj' => ?_⟩⟩
              by_cases e : j = k
              · rw [e]; exact c
              · exact hj j (by omega)
            · rw [if_neg (fun z => c ((q_nI (by omega) (by omega)).mp z))]
              exact ⟨_, rfl, Or.inr ⟨_, rfl, by rw [q_nLe (by omega) (by omega)]; exact Nat.le_refl _, fun z => c (z k hk)⟩⟩
          · right
            refine ⟨(0, σ), ?_, rfl, by rw [decide_eq_false hn]; rfl⟩
            show f_X12_isWord_B32 P m i 0 w σ = _
            unfold f_X12_isWord_B32
            rw [bd ok, bd2 (s_len hi), if_pos rfl]
            split <;> rfl)
        (by
          rintro t (⟨rfl, hj⟩ | ⟨w, rfl, hw, hn⟩)
          · refine ⟨(1, σ), ?_, rfl, by rw [decide_eq_true hj]; rfl⟩
            show f_X12_isWord_B32 P m i 1 (q_n (gst i).length) σ = _
            unfold f_X12_isWord_B32
            rw [bd ok, bd2 (s_len hi), if_pos (by rw [q_nLe (by omega) (by omega)]; exact Nat.le_refl _)]
          · refine ⟨(0, σ), ?_, rfl, by rw [decide_eq_false hn]; rfl⟩
            show f_X12_isWord_B32 P m i 0 w σ = _
            unfold f_X12_isWord_B32
            rw [bd ok, bd2 (s_len hi), if_pos rfl]
            split <;> rfl)
        (gst i).length 0 ((1 : Int32), (0 : Int32), σ) (mpN P) (by omega) (Or.inl ⟨rfl, fun j hj => absurd hj (Nat.not_lt_zero j)⟩) (by omega)
      dsimp only at hr1 hr2
      subst hr1
      unfold f_X12_isWord_D29 f_X12_isWord_D75
      rw [bd e]
      dsimp only
      have iff : (∀ j, j < (gst i).length → by' bl (s + j) = by' (gst i) j) ↔ (kdA bl s = 2 ∧ nmA bl s = gst i) := by
        constructor
        · intro hj
          refine ⟨c2, List.ext_getElem? fun k => ?_⟩
          by_cases ck : k < (gst i).length
          · rw [by_seg hs (by omega), by_i ck, hj k ck]
          · rw [List.getElem?_eq_none (by omega), List.getElem?_eq_none (by omega)]
        · rintro ⟨-, e⟩ j hj
          have := by_seg (bl := bl) (k := j) hs (by omega)
          rw [e, by_i hj] at this
          exact (Option.some.inj this).symm
      rw [hr2, decide_eq_decide.mpr iff]
      cases decide (kdA bl s = 2 ∧ nmA bl s = gst i)
      · exact if_pos (Or.inl rfl)
      · exact if_pos (Or.inr rfl)
    · rw [if_neg (fun z => c3 ((q_nI (by omega) (by omega)).mp z)), no, decide_eq_false (fun z => c3 (by rw [← ln, z.2]))]; rfl
  · rw [if_neg (fun z => c2 (rk1 z)), no, decide_eq_false (fun z => c2 z.1)]; rfl
theorem gs_0 : ∀ f : Fin 6, 0 < (gst (3 + f.1)).length := by decide +kernel
theorem r_kind (hf : 5000 ≤ mpN P) (hM : LyM σ m) (h : TS σ m bl) (hs : s ≤ bl.length) (hk : TkR σ m bl s) :
    (∃ f, f < 6 ∧ kdA bl s = 2 ∧ wfm bl 0 s = some (kfl f) ∧ f_X12_kindOf P m σ = some (q_n f, σ)) ∨ ((kdA bl s ≠ 2 ∨ wfm bl 0 s = none) ∧ f_X12_kindOf P m σ = some (-1, σ)) := by
  have h256 := TS_256 h
  have w : ∀ f : Fin 6, f_X12_isWord P m (3 + f.1) σ = some (bI (decide (kdA bl s = 2 ∧ nmA bl s = gst (3 + f.1))), σ) := fun f => r_isw (by omega) hf hM h hs hk (gs_0 f)
  have ys : ∀ f : Fin 6, kdA bl s = 2 → nmA bl s = gst (3 + f.1) → f_X12_isWord P m (3 + f.1) σ = some (1, σ) := fun f h1 h2 => by rw [w f, decide_eq_true ⟨h1, h2⟩]; rfl
  have no : ∀ f : Fin 6, ¬ (kdA bl s = 2 ∧ nmA bl s = gst (3 + f.1)) → f_X12_isWord P m (3 + f.1) σ = some (0, σ) := fun f h1 => by rw [w f, decide_eq_false h1]; rfl
  unfold f_X12_kindOf f_X12_kindOf_D75
  rw [bd (am_is hM)]
  by_cases a0 : kdA bl s = 2 ∧ nmA bl s = gst (3 + 0)
  · rw [bd2 (show f_X12_isWord P m 3 σ = some (1, σ) from ys 0 a0.1 a0.2), if_neg zi10]
    exact Or.inl ⟨0, by omega, a0.1, wfm_of h256 a0.1 (by omega) a0.2, rfl⟩
  rw [bd2 (show f_X12_isWord P m 3 σ = some (0, σ) from no 0 a0), if_pos rfl, bd (am_is hM)]
  by_cases a1 : kdA bl s = 2 ∧ nmA bl s = gst (3 + 1)
  · rw [bd2 (show f_X12_isWord P m 4 σ = some (1, σ) from ys 1 a1.1 a1.2), if_neg zi10]
    exact Or.inl ⟨1, by omega, a1.1, wfm_of h256 a1.1 (by omega) a1.2, rfl⟩
  rw [bd2 (show f_X12_isWord P m 4 σ = some (0, σ) from no 1 a1), if_pos rfl, bd (am_is hM)]
  by_cases a2 : kdA bl s = 2 ∧ nmA bl s = gst (3 + 2)
  · rw [bd2 (show f_X12_isWord P m 5 σ = some (1, σ) from ys 2 a2.1 a2.2), if_neg zi10]
    exact Or.inl ⟨2, by omega, a2.1, wfm_of h256 a2.1 (by omega) a2.2, rfl⟩
  rw [bd2 (show f_X12_isWord P m 5 σ = some (0, σ) from no 2 a2), if_pos rfl, bd (am_is hM)]
  by_cases a3 : kdA bl s = 2 ∧ nmA bl s = gst (3 + 3)
  · rw [bd2 (show f_X12_isWord P m 6 σ = some (1, σ) from ys 3 a3.1 a3.2), if_neg zi10]
    exact Or.inl ⟨3, by omega, a3.1, wfm_of h256 a3.1 (by omega) a3.2, rfl⟩
  rw [bd2 (show f_X12_isWord P m 6 σ = some (0, σ) from no 3 a3), if_pos rfl, bd (am_is hM)]
  by_cases a4 : kdA bl s = 2 ∧ nmA bl s = gst (3 + 4)
  · rw [bd2 (show f_X12_isWord P m 7 σ = some (1, σ) from ys 4 a4.1 a4.2), if_neg zi10]
    exact Or.inl ⟨4, by omega, a4.1, wfm_of h256 a4.1 (by omega) a4.2, rfl⟩
  rw [bd2 (show f_X12_isWord P m 7 σ = some (0, σ) from no 4 a4), if_pos rfl, bd (am_is hM)]
  by_cases a5 : kdA bl s = 2 ∧ nmA bl s = gst (3 + 5)
  · rw [bd2 (show f_X12_isWord P m 8 σ = some (1, σ) from ys 5 a5.1 a5.2), if_neg zi10]
    exact Or.inl ⟨5, by omega, a5.1, wfm_of h256 a5.1 (by omega) a5.2, rfl⟩
  rw [bd2 (show f_X12_isWord P m 8 σ = some (0, σ) from no 5 a5), if_pos rfl]
  refine Or.inr ⟨?_, rfl⟩
  by_cases c2 : kdA bl s = 2
  · right
    cases e : wfm bl 0 s with
    | none => rfl
    | some k =>
      obtain ⟨f, hf6, -, h2⟩ := wfm_k h256 c2 e
      have hc : f = 0 ∨ f = 1 ∨ f = 2 ∨ f = 3 ∨ f = 4 ∨ f = 5 := by omega
      rcases hc with rfl | rfl | rfl | rfl | rfl | rfl
      · exact absurd ⟨c2, h2⟩ a0
      · exact absurd ⟨c2, h2⟩ a1
      · exact absurd ⟨c2, h2⟩ a2
      · exact absurd ⟨c2, h2⟩ a3
      · exact absurd ⟨c2, h2⟩ a4
      · exact absurd ⟨c2, h2⟩ a5
  · exact Or.inl c2
/-- the lesser fault that was found -/
def FtL (σ : mx_S) (m : Nat) (fs : Option (Nat × Nat)) : Prop := match fs with
  | none => mxI σ m 6 = 0
  | some (c, q) => 0 < c ∧ c < 10 ∧ q < 5000 ∧ mxI σ m 6 = q_n c ∧ mxI σ m 7 = q_n q
def ntM (fs : Option (Nat × Nat)) (c q : Nat) : Option (Nat × Nat) := match fs with
  | none => some (c, q)
  | some (c', q') => if q < q' then some (c, q) else some (c', q')
/-- the least place -/
def Lm (fs : Option (Nat × Nat)) (D : Nat → Nat → Prop) : Prop := match fs with
  | none => ∀ s c, ¬ D s c
  | some (c, q) => D q c ∧ ∀ s c', D s c' → q ≤ s
theorem Lm_cg {fs : Option (Nat × Nat)} {D D' : Nat → Nat → Prop} (h : Lm fs D) (e : ∀ s c, D' s c ↔ D s c) : Lm fs D' := by
  cases fs with
  | none => exact fun s c z => h s c ((e s c).mp z)
  | some z => exact ⟨(e _ _).mpr h.1, fun s c' z => h.2 s c' ((e s c').mp z)⟩
theorem Lm_f {fs : Option (Nat × Nat)} {D : Nat → Nat → Prop} (h : Lm fs D) : Lm (ntM fs c q) (fun s c' => D s c' ∨ (s = q ∧ c' = c)) := by
  cases fs with
  | none =>
    refine ⟨Or.inr ⟨rfl, rfl⟩, fun s c' z => ?_⟩
    rcases z with z | z
    · exact absurd z (h s c')
    · omega
  | some z =>
    obtain ⟨c0, q0⟩ := z
    unfold ntM
    dsimp only
    split
    · next lt =>
      refine ⟨Or.inr ⟨rfl, rfl⟩, fun s c' z => ?_⟩
      rcases z with z | z
      · have := h.2 s c' z; omega
      · omega
    · next ge =>
      refine ⟨Or.inl h.1, fun s c' z => ?_⟩
      rcases z with z | z
      · exact h.2 s c' z
      · omega
theorem ntM_t {fs : Option (Nat × Nat)} {D : Nat → Nat → Prop} {c' : Nat} (h : Lm fs D) (hd : D q c') : ntM fs c q = fs := by
  cases fs with
  | none => exact absurd hd (h q c')
  | some z =>
    obtain ⟨c0, q0⟩ := z
    unfold ntM
    dsimp only
    rw [if_neg (by have := h.2 q c' hd; omega)]
def fnF (m : Nat) : Nat → Nat → Prop := fun q j => q = m ∧ (j = 6 ∨ j = 7)
theorem r_fnd {fs : Option (Nat × Nat)} (hM : LyM σ m) (hb : mpb P ≤ m) (h : FtL σ m fs) (hc0 : 0 < c) (hc : c < 10) (hq : q < 5000) : ∃ τ, f_X12_found P m (q_n c) (q_n q) σ = some τ ∧ FtL τ m (ntM fs c q) ∧ Fz (fnF m) σ τ := by
  obtain ⟨τ1, e1⟩ : ∃ τ1, τ1 = mx_setI σ m 6 (q_n c) := ⟨_, rfl⟩
  have hM1 : LyM τ1 m := by rw [e1]; exact hM
  have f2 : Fz (fnF m) σ (mx_setI τ1 m 7 (q_n q)) := by rw [e1]; exact (Fz.rf.sI ⟨rfl, Or.inl rfl⟩ _).sI ⟨rfl, Or.inr rfl⟩ _
  have d16 : f_X12_found_D16 P m (q_n c) (q_n q) σ = some (mx_setI τ1 m 7 (q_n q)) := by
    unfold f_X12_found_D16
    rw [bd (am_pI hM hb _), ← e1, bd (am_pI hM1 hb _)]
  have new : FtL (mx_setI τ1 m 7 (q_n q)) m (some (c, q)) := ⟨hc0, hc, hq, by rw [sI_n (by omega), e1]; exact sI_e, sI_e⟩
  unfold f_X12_found
  rw [bd (am_gI hM), d16]
  cases fs with
  | none =>
    rw [show mxI σ m 6 = 0 from h, if_pos (by decide)]
    exact ⟨_, rfl, new, f2⟩
  | some z =>
    obtain ⟨c', q'⟩ := z
    obtain ⟨a1, a2, a3, a4, a5⟩ := h
    rw [a4, if_neg (by rw [show (0 : Int32) = q_n 0 from rfl, q_nLe (by omega) (by omega)]; omega), bd (am_gI hM), a5]
    unfold ntM
    dsimp only
    by_cases lt : q < q'
    · rw [if_pos (by rw [q_nLt (by omega) (by omega)]; exact lt), if_pos lt]
      exact ⟨_, rfl, new, f2⟩
    · rw [if_neg (by rw [q_nLt (by omega) (by omega)]; exact lt), if_neg lt]
      exact ⟨σ, rfl, ⟨a1, a2, a3, a4, a5⟩, Fz.rf⟩
def wrF (m : Nat) : Nat → Nat → Prop := fun q j => q = m ∧ (j = 4 ∨ j = 5)
theorem r_wrg {w v : Int32} (hM : LyM σ m) (hb : mpb P ≤ m) (h : mxI σ m 4 = 0) : ∃ τ, f_X12_wrong P m w v σ = some τ ∧ mxI τ m 4 = w ∧ mxI τ m 5 = v ∧ Fz (wrF m) σ τ := by
  have hM1 : LyM (mx_setI σ m 4 w) m := hM
  unfold f_X12_wrong
  rw [bd (am_gI hM), h, if_pos (by decide), bd (am_pI hM hb _), bd (am_pI hM1 hb _)]
  exact ⟨_, rfl, by rw [sI_n (by omega)]; exact sI_e, sI_e, (Fz.rf.sI ⟨rfl, Or.inl rfl⟩ _).sI ⟨rfl, Or.inr rfl⟩ _⟩
theorem r_wrB {w v : Int32} (hM : LyM σ m) (hc0 : 0 < c) (hc : c < 10) (h : mxI σ m 4 = q_n c) : f_X12_wrong P m w v σ = some σ := by
  unfold f_X12_wrong
  rw [bd (am_gI hM), h, if_neg (by rw [show (0 : Int32) = q_n 0 from rfl, q_nLe (by omega) (by omega)]; omega)]
theorem r_tkY {w : Int32} (hM : LyM σ m) (h : mxI σ m 4 = 0) (h15 : mxI σ m 15 = w) : f_X12_takes P m w σ = some (1, σ) := by
  unfold f_X12_takes
  rw [bd (am_gI hM), h, if_pos (by decide), bd (am_gI hM), h15, if_pos rfl]
  exact if_pos (Or.inr rfl)
theorem r_tkN {w : Int32} (hM : LyM σ m) (hb : mpb P ≤ m) (h : mxI σ m 4 = 0) (h15 : mxI σ m 15 ≠ w) : ∃ τ, f_X12_takes P m w σ = some (0, τ) ∧ mxI τ m 4 = 1 ∧ mxI τ m 5 = mxI σ m 16 ∧ Fz (wrF m) σ τ := by
  obtain ⟨τ, e, h1, h2, f⟩ := r_wrg (P := P) (w := 1) (v := mxI σ m 16) hM hb h
  refine ⟨τ, ?_, h1, h2, f⟩
  unfold f_X12_takes
  rw [bd (am_gI hM), h, if_pos (by decide), bd (am_gI hM), if_neg h15, bd (am_gI hM), bd (am_is hM), bd e]
  exact if_pos (Or.inl rfl)
theorem r_tkB {w : Int32} (hM : LyM σ m) (h : mxI σ m 4 = 1) : f_X12_takes P m w σ = some (0, σ) := by
  unfold f_X12_takes
  rw [bd (am_gI hM), h, if_neg (by decide)]
  exact if_pos (Or.inl rfl)
end IKS
