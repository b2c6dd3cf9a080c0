/-! ===== ih: how far the tokens lie apart ===== -/
section IHS
variable {P : mx_P} {σ σ0 σ1 σ2 τ : mx_S} {x m n t l p a N i k j u K c s f : Nat} {bs : List Nat}
theorem fst_n0 {z : Nat → Bool} : ∀ {n : Nat}, r_fst z n = none → ∀ p, p < n → z p = false
  | 0, _, p, hp => absurd hp (Nat.not_lt_zero p)
  | n + 1, h, p, hp => by
    rw [r_fst] at h
    cases e : r_fst z n with
    | some v => rw [e] at h; cases h
    | none =>
      rw [e] at h
      dsimp only at h
      by_cases c : p = n
      · subst c
        cases e2 : z p with
        | false => rfl
        | true => rw [e2] at h; cases h
      · exact fst_n0 e p (by omega)
theorem kd2_l (h : kdA bs s = 2) : s < bs.length ∧ ltr (bA bs s) = true ∧ enA bs s = wdN bs 8 s := by
  have hs : s < bs.length := kd59_lt (by rw [h]; decide)
  have hlr : ltr (bA bs s) = true := by
    unfold kdA at h
    rw [if_neg (by omega)] at h
    cases c : ltr (bA bs s) with
    | true => rfl
    | false =>
      rw [c, if_neg (by decide)] at h
      split at h
      · split at h <;> exact absurd h (by decide)
      · split at h
        · next sg =>
          unfold sgn at sg
          have := of_decide_eq_true sg
          rw [h] at this
          revert this; decide
        · exact absurd h (by decide)
  exact ⟨hs, hlr, by unfold enA; rw [if_neg (by omega), hlr, if_pos rfl]⟩
theorem kd3_l (h : kdA bs s = 3) : s < bs.length ∧ ltr (bA bs s) = false ∧ isNm bs s = true ∧ enA bs s = nmX bs (nmD bs s) := by
  have hs : s < bs.length := kd59_lt (by rw [h]; decide)
  unfold kdA at h
  rw [if_neg (by omega)] at h
  cases c : ltr (bA bs s) with
  | true => rw [c, if_pos rfl] at h; exact absurd h (by decide)
  | false =>
    rw [c, if_neg (by decide)] at h
    cases c2 : isNm bs s with
    | true => exact ⟨hs, rfl, rfl, by unfold enA; rw [if_neg (by omega), c, if_neg (by decide), c2, if_pos rfl]⟩
    | false =>
      rw [c2, if_neg (by decide)] at h
      split at h
      · next sg =>
        unfold sgn at sg
        have := of_decide_eq_true sg
        rw [h] at this
        exact absurd this (by decide)
      · exact absurd h (by decide)
theorem wd_st : ∀ (f p : Nat), wdN bs f p = p + f ∨ ltr (bA bs (wdN bs f p)) = false
  | 0, p => Or.inl rfl
  | f + 1, p => by
    rw [wdN]
    split
    · rcases wd_st f (p + 1) with z | z
      · exact Or.inl (by omega)
      · exact Or.inr z
    · next c => exact Or.inr (by simpa using c)
theorem dg_st : ∀ (f p : Nat), dgN bs f p = p + f ∨ dgt (bA bs (dgN bs f p)) = false
  | 0, p => Or.inl rfl
  | f + 1, p => by
    rw [dgN]
    split
    · rcases dg_st f (p + 1) with z | z
      · exact Or.inl (by omega)
      · exact Or.inr z
    · next c => exact Or.inr (by simpa using c)
/-- a word behind a word -/
theorem tk_ww (hp : p ≤ bs.length) (i : Nat) (h1 : kdA bs (tkI bs N p i) = 2) (h2 : kdA bs (tkI bs N p (i + 1)) = 2) : tkI bs N p i + 2 ≤ tkI bs N p (i + 1) ∧ (enA bs (tkI bs N p i) < tkI bs N p i + 8 → enA bs (tkI bs N p i) + 1 ≤ tkI bs N p (i + 1)) := by
  obtain ⟨a1, a2, a3⟩ := kd2_l h1
  obtain ⟨b1, b2, b3⟩ := kd2_l h2
  have h3 := (enA_le (bs := bs) (s := tkI bs N p i) (by omega)).2.2 a1
  have h4 := (tkI_le (N := N) hp (i + 1)).1
  rw [psI_s] at h4
  rcases wd_st (bs := bs) 8 (tkI bs N p i) with z | z
  · rw [a3, z] at h4 ⊢; exact ⟨by omega, fun z => by omega⟩
  · rw [← a3] at z
    have : enA bs (tkI bs N p i) ≠ tkI bs N p (i + 1) := fun e => by rw [e, b2] at z; cases z
    exact ⟨by omega, fun _ => by omega⟩
theorem tk_1 (hp : p ≤ bs.length) (i : Nat) (h1 : kdA bs (tkI bs N p i) ≠ 0) : tkI bs N p i + 1 ≤ psI bs N p (i + 1) ∧ psI bs N p (i + 1) ≤ tkI bs N p (i + 1) := by
  have h2 := kd59_lt h1
  have h3 := (enA_le (bs := bs) (s := tkI bs N p i) (by omega)).2.2 h2
  rw [psI_s]
  exact ⟨h3, by have := (tkI_le (N := N) hp (i + 1)).1; rw [psI_s] at this; exact this⟩
theorem nmD_d (h : isNm bs s = true) : dgt (bA bs (nmD bs s)) = true := by
  unfold nmD
  unfold isNm at h
  by_cases c45 : bA bs s = 45
  · rw [if_pos c45]
    rw [c45] at h
    rcases (Bool.or_eq_true _ _).mp h with z | z
    · exact absurd z (by decide)
    · rw [Bool.and_eq_true] at z; exact z.2
  · rw [if_neg c45]
    rw [decide_eq_false c45, Bool.false_and, Bool.or_false] at h
    exact h
/-- a number behind a number -/
theorem tk_nn (hp : p ≤ bs.length) (i : Nat) (h1 : kdA bs (tkI bs N p i) = 3) (h2 : kdA bs (tkI bs N p (i + 1)) = 3) : tkI bs N p i + 3 ≤ psI bs N p (i + 2) := by
  have c1 := tk_1 (N := N) hp i (by rw [h1]; decide)
  have c2 := tk_1 (N := N) hp (i + 1) (by rw [h2]; decide)
  rw [show i + 1 + 1 = i + 2 from rfl] at c2
  by_cases c : tkI bs N p i + 2 ≤ tkI bs N p (i + 1)
  · omega
  have e1 : tkI bs N p (i + 1) = tkI bs N p i + 1 := by omega
  have e2 : enA bs (tkI bs N p i) = tkI bs N p i + 1 := by rw [← psI_s]; omega
  obtain ⟨a1, a2, a3, a4⟩ := kd3_l h1
  obtain ⟨b1, b2, b3, b4⟩ := kd3_l h2
  rw [psI_s]
  rw [e1] at b1 b2 b3 b4 ⊢
  rw [e2] at a4
  generalize tkI bs N p i = s at *
  have hd := nmD_d a3
  have hdl := dgt_lt hd
  have h3 : nmD bs s < dgN bs 4 (nmD bs s) := dgN_lt (f := 3) hd
  have h4 := nmX_le (bs := bs) (d := nmD bs s) (by omega)
  have h5 : nmD bs s = s := by
    have : nmD bs s = s ∨ nmD bs s = s + 1 := by unfold nmD; split <;> omega
    omega
  rw [h5] at h3 h4 a4
  have h6 : dgt (bA bs (s + 1)) = false := by
    rcases dg_st (bs := bs) 4 s with z | z
    · omega
    · have : dgN bs 4 s = s + 1 := by omega
      rw [this] at z; exact z
  have c45 : bA bs (s + 1) = 45 := by
    unfold isNm at b3
    rw [h6, Bool.false_or, Bool.and_eq_true] at b3
    exact of_decide_eq_true b3.1
  have hd2 := nmD_d b3
  have e3 : nmD bs (s + 1) = s + 2 := by unfold nmD; rw [if_pos c45]
  rw [e3] at hd2 b4
  have hl2 := dgt_lt hd2
  have h7 : s + 2 < dgN bs 4 (s + 2) := dgN_lt (f := 3) hd2
  have h8 := nmX_le (bs := bs) (d := s + 2) (by omega)
  omega
/-! the forms' words -/
def kfl (f : Nat) : Nat := if f = 0 then 3 else if f = 1 then 13 else if f = 2 then 25 else if f = 3 then 38 else if f = 4 then 50 else 62
theorem kf_tab : ∀ f : Fin 6, (kfl f.1 < 69 ∧ by' (gst 0) (kfl f.1) = 32 ∧ wdA (gst 0) (kfl f.1) = pk (gst (3 + f.1)) ∧ pk (gst (3 + f.1)) < 9223372036854775808 ∧ fmA (gst 0) (kfl f.1) = f.1 ∧ 3 ≤ (gst (3 + f.1)).length ∧ (f.1 ≠ 0 → 4 ≤ (gst (3 + f.1)).length) ∧ (gst (3 + f.1)).length ≤ 5) ∧ ∀ b, b ∈ gst (3 + f.1) → 0 < b ∧ b < 256 := by decide +kernel
theorem kf_k : ∀ k : Fin 69, by' (gst 0) k.1 = 32 → ∃ f : Fin 6, k.1 = kfl f.1 := by decide +kernel
theorem gs_ne : ∀ f g : Fin 6, gst (3 + f.1) = gst (3 + g.1) → f = g := by decide +kernel
theorem gl69 : (gst 0).length = 69 := by decide +kernel
theorem seg_len (h : s ≤ bs.length) : (seg bs s (enA bs s)).length = enA bs s - s := by
  have h1 := enA_le h
  unfold seg; rw [List.length_take, List.length_drop]; omega
theorem wfm_k (h256 : ∀ b, b ∈ bs → b < 256) (hk : kdA bs s = 2) (h : wfm bs 0 s = some k) : ∃ f, f < 6 ∧ k = kfl f ∧ seg bs s (enA bs s) = gst (3 + f) := by
  unfold wfm at h
  have h1 := r_fst_lt h
  rw [gl69] at h1
  obtain ⟨h2, h3⟩ := of_decide_eq_true (r_fst_tr h)
  obtain ⟨f, rfl⟩ := kf_k ⟨k, h1⟩ h2
  obtain ⟨⟨-, -, t3, t4, -⟩, t6⟩ := kf_tab f
  have hg := wd_gnm h256 hk
  have hg2 := gnm_b hg
  have h4 : pk (gst (3 + f.1)) = pk (seg bs s (enA bs s)) := by
    rw [t3] at h3
    have := congrArg Int64.toInt h3
    rw [l_nT t4, l_nT (pn_63 hg2.1 hg.2.1)] at this
    omega
  exact ⟨f.1, f.2, rfl, (pn_inj _ _ t6 hg2.2 h4).symm⟩
theorem wfm_of (h256 : ∀ b, b ∈ bs → b < 256) (hk : kdA bs s = 2) (hf : f < 6) (h : seg bs s (enA bs s) = gst (3 + f)) : wfm bs 0 s = some (kfl f) := by
  obtain ⟨⟨t1, t2, t3, -⟩, -⟩ := kf_tab ⟨f, hf⟩
  dsimp only at t1 t2 t3
  cases e : wfm bs 0 s with
  | none =>
    have := fst_n0 e (kfl f) (by rw [gl69]; exact t1)
    exact absurd ⟨t2, by rw [t3, h]⟩ (of_decide_eq_false this)
  | some k =>
    obtain ⟨g, hg, rfl, h2⟩ := wfm_k h256 hk e
    have := gs_ne ⟨f, hf⟩ ⟨g, hg⟩ (h.symm.trans h2)
    rw [show f = g from congrArg Fin.val this]
theorem kf_of {n : Nat} (h256 : ∀ b, b ∈ bs → b < 256) (h : StO bs N 0 p k n) : ∃ f, f < 6 ∧ k = kfl f ∧ enA bs (tkI bs N p 0) = tkI bs N p 0 + (gst (3 + f)).length ∧ fmA (gst 0) k = f := by
  obtain ⟨f, hf, rfl, hs⟩ := wfm_k h256 h.1 h.2.1
  have h1 := (kd2_l h.1).1
  have h2 := seg_len (bs := bs) (s := tkI bs N p 0) (by omega)
  have h3 := enA_le (bs := bs) (s := tkI bs N p 0) (by omega)
  rw [hs] at h2
  exact ⟨f, hf, rfl, by omega, (kf_tab ⟨f, hf⟩).1.2.2.2.2.1⟩
theorem fit_nz {c : Nat} {v : Int32} (h : fit c v = true) : v ≠ 0 := by
  rintro rfl
  unfold fit at h
  split at h
  · exact absurd h (by decide)
  · split at h
    · exact absurd h (by decide)
    · split at h
      · exact absurd h (by decide)
      · exact absurd h (by decide)
theorem tk_sh (j : Nat) : tkI bs N (psI bs N p 1) j = tkI bs N p (j + 1) := by
  unfold tkI; rw [psI_a, Nat.add_comm 1 j]
/-- the letters of a form, and how many -/
def lfm (f j : Nat) : Nat := by' (gst 0) (kfl f + 1 + j)
theorem lf_n : ∀ f : Fin 6, GL 0 (kfl f.1) (nLt 0 (kfl f.1)) ∧ (f.1 = 0 → nLt 0 (kfl f.1) = 3) ∧ (f.1 ≠ 0 → 5 ≤ nLt 0 (kfl f.1)) ∧ lfm f.1 0 = 67 := by unfold GL lfm; decide +kernel
/-- a good statement's tokens -/
theorem StO_t (h256 : ∀ b, b ∈ bs → b < 256) (hp : p ≤ bs.length) (h : StO bs N 0 p k n) : ∃ f, f < 6 ∧ k = kfl f ∧ fmA (gst 0) k = f ∧ nLt 0 (kfl f) = n ∧ (∀ j, j < n → fit (lfm f j) (kdA bs (tkI bs N p (j + 1))) = true) ∧ kdA bs (tkI bs N p (n + 1)) = 59 ∧ p + (gst (3 + f)).length + 1 ≤ tkI bs N p 1 := by
  obtain ⟨f, hf, rfl, h1, h2⟩ := kf_of h256 h
  have hn : nLt 0 (kfl f) = n := nLt_e h.2.2.1
  have h3 : ∀ j, j < n → fit (lfm f j) (kdA bs (tkI bs N p (j + 1))) = true := fun j hj => by
    rw [← tk_sh]; exact msm_no h.2.2.2.1 j hj
  have h4 : kdA bs (tkI bs N p (n + 1)) = 59 := by rw [← tk_sh]; exact h.2.2.2.2
  have hn0 := StO_n (by omega) h
  have hC := (lf_n ⟨f, hf⟩).2.2.2
  dsimp only at hC
  have k1 : kdA bs (tkI bs N p 1) = 2 := by
    have := h3 0 hn0
    rw [hC] at this
    exact fit_2 (Or.inl rfl) this
  have h5 := (tk_ww hp 0 h.1 k1).2
  rw [show 0 + 1 = 1 from rfl] at h5
  have h6 := (kf_tab ⟨f, hf⟩).1.2.2.2.2.2.2.2
  dsimp only at h6
  have h7 := (tkI_le (N := N) hp 0).1
  have h8 : psI bs N p 0 = p := rfl
  exact ⟨f, hf, rfl, h2, hn, h3, h4, by have := h5 (by omega); omega⟩
theorem StO_9 (h256 : ∀ b, b ∈ bs → b < 256) (hp : p ≤ bs.length) (h : StO bs N 0 p k n) : p + 9 ≤ psI bs N p (n + 2) := by
  obtain ⟨f, hf, rfl, -, hn, h3, h4, h5⟩ := StO_t h256 hp h
  obtain ⟨-, l0, l1, -⟩ := lf_n ⟨f, hf⟩
  obtain ⟨⟨-, -, -, -, -, t1, t2, -⟩, -⟩ := kf_tab ⟨f, hf⟩
  dsimp only at l0 l1 t1 t2
  have nz : ∀ j, j ≤ n → kdA bs (tkI bs N p (j + 1)) ≠ 0 := fun j hj => by
    by_cases e : j = n
    · rw [e, h4]; decide
    · exact fit_nz (h3 j (by omega))
  have st : ∀ d, d ≤ n → tkI bs N p 1 + d + 1 ≤ psI bs N p (d + 2) := by
    intro d
    induction d with
    | zero => intro _; exact (tk_1 hp 1 (nz 0 (by omega))).1
    | succ d ih =>
      intro hd
      have h1 := ih (by omega)
      have h2 := tk_1 (N := N) hp (d + 1) (nz d (by omega))
      have h6 := tk_1 (N := N) hp (d + 2) (nz (d + 1) (by omega))
      rw [show d + 1 + 1 = d + 2 from rfl] at h2
      rw [show d + 2 + 1 = d + 1 + 2 from rfl] at h6
      omega
  by_cases e : f = 0
  · subst e
    have n3 := l0 rfl
    rw [hn] at n3
    subst n3
    have g1 : lfm 0 1 = 120 ∧ lfm 0 2 = 120 := by decide +kernel
    have k2 : kdA bs (tkI bs N p 2) = 3 := by have := h3 1 (by omega); rw [g1.1] at this; exact fit_3 (by decide) this
    have k3 : kdA bs (tkI bs N p 3) = 3 := by have := h3 2 (by omega); rw [g1.2] at this; exact fit_3 (by decide) this
    have h6 := tk_nn (N := N) hp 2 k2 k3
    have h7 := tk_1 (N := N) hp 1 (nz 0 (by omega))
    have h8 := tk_1 (N := N) hp 4 (nz 3 (by omega))
    have h9 := (tkI_le (N := N) hp 4).1
    rw [show 2 + 2 = 4 from rfl] at h6
    rw [show 4 + 1 = 5 from rfl] at h8
    rw [show 1 + 1 = 2 from rfl] at h7
    show p + 9 ≤ psI bs N p 5
    omega
  · have := st n (Nat.le_refl _)
    have := l1 e
    have := t2 e
    omega
theorem sqA_9 (h256 : ∀ b, b ∈ bs → b < 256) (h : ∀ j, j < K → ∃ k n, StO bs N 0 (sqA bs N 0 j) k n) : ∀ j, j ≤ K → 9 * j ≤ sqA bs N 0 j
  | 0, _ => Nat.zero_le _
  | j + 1, hj => by
    have ih := sqA_9 h256 h j (by omega)
    obtain ⟨k, n, ho⟩ := h j (by omega)
    have h1 := (sqA_b h j (by omega)).2
    have := StO_9 h256 h1 ho
    rw [sqA, nxA_e ho]
    omega
theorem TxH_of (hl : bs.length ≤ 4000) (h256 : ∀ b, b ∈ bs → b < 256) (h : ∀ j, j < K → ∃ k n, StO bs N 0 (sqA bs N 0 j) k n) : TxH bs N K := by
  refine ⟨h256, ?_, fun j hj => ?_⟩
  · have h1 := sqA_9 h256 h K (Nat.le_refl _)
    have h2 := sqA_b h K (Nat.le_refl _)
    omega
  · obtain ⟨k, n, ho⟩ := h j hj
    obtain ⟨f, hf, rfl, -, hn, h3, -⟩ := StO_t h256 (sqA_b h j (by omega)).2 ho
    have hn0 := StO_n (by omega) ho
    have hC := (lf_n ⟨f, hf⟩).2.2.2
    dsimp only at hC
    have := h3 0 hn0
    rw [hC] at this
    unfold cnA
    rw [tk_sh]
    exact wd_gnm h256 (fit_2 (Or.inl rfl) this)
end IHS
