/-! ===== jz: kinds: the class's list ===== -/
section JZS
variable {P : mx_P} {σ τ : mx_S} {n k a b i j c u κ r m v : Nat} {l : List Nat} {L : Nat → List Nat}
theorem KT_h (h : KT κ n σ) (g : ∀ q j, (q = κ ∧ (j = 2 ∨ j = 3)) ∨ (κ + 2 ≤ q ∧ q ≤ κ + 4) → mxI τ q j = mxI σ q j) : KT κ n τ := by
  obtain ⟨h1, h2, h3⟩ := h
  refine ⟨(g _ _ (by omega)).trans h1, (g _ _ (by omega)).trans h2, fun i a1 a2 => ?_⟩
  rw [g _ _ (by omega), g _ _ (by omega), g _ _ (by omega), g _ _ (by omega)]
  exact h3 i a1 a2
theorem c_isn (hK : LyKd σ κ) (hc : c < 32768) : (f_X6_isSeen P κ (q_n c) σ = some (1, σ) ∧ SN κ σ c) ∨ (f_X6_isSeen P κ (q_n c) σ = some (0, σ) ∧ ¬ SN κ σ c) := by
  have e : f_X6_isSeen P κ (q_n c) σ = if ((mxI σ (κ + 7) (c / 32) >>> (q_n (c % 32) &&& 31)) &&& (1 : Int32)) = (1 : Int32) then some (1, σ) else some (0, σ) := by
    unfold f_X6_isSeen
    rw [bd (ak_r9 hK), kb_5 (by omega), bd (ak_g9 hK (by omega)), show (q_n c &&& (31 : Int32)) = q_n (c % 32) from kb_m31]
    rfl
  by_cases s : SN κ σ c
  · left; rw [e, if_pos ((kb_t (by omega)).mpr s)]; exact ⟨rfl, s⟩
  · right; rw [e, if_neg (fun z => s ((kb_t (by omega)).mp z))]; exact ⟨rfl, s⟩
def SKK (κ : Nat) (q _j : Nat) : Prop := κ ≤ q ∧ q ≤ κ + 7
/-- the class's list of kinds -/
def KLs (κ : Nat) (l : List Nat) (σ : mx_S) : Prop := mxI σ κ 0 = q_n l.length ∧ ∀ k, k < l.length → mxI σ (κ + 1) k = q_n (kqa l k)
theorem KLs_f (h : KLs κ l σ) (g : ∀ q j, (q = κ ∧ j = 0) ∨ q = κ + 1 → mxI τ q j = mxI σ q j) : KLs κ l τ := ⟨(g _ _ (by omega)).trans h.1, fun k hk => (g _ _ (by omega)).trans (h.2 k hk)⟩
theorem kqa_ap (h : i < l.length) : kqa (l ++ [v]) i = kqa l i := by
  unfold kqa
  rw [List.getD_eq_getElem?_getD, List.getD_eq_getElem?_getD, List.getElem?_append_left h]
theorem kqa_al : kqa (l ++ [v]) l.length = v := by
  unfold kqa
  rw [List.getD_eq_getElem?_getD, List.getElem?_append_right (Nat.le_refl _)]
  simp
theorem c_lst (hK : LyKd σ κ) (hb : mpb P ≤ κ) (h7 : n < 7) (h3 : 3 ≤ n) (hN : 50000 < mpN P) (hj : j < 16) (h0 : L 0 = []) (hs : ∀ m, (kqK n j (2 ^ kqr n - 1 - m) → L (m + 1) = L m ++ [2 ^ kqr n - 1 - m]) ∧ (¬ kqK n j (2 ^ kqr n - 1 - m) → L (m + 1) = L m)) : ∃ σ', f_X6_listAll P κ (q_n n) (q_n j) σ = some σ' ∧ KLs κ (L (2 ^ kqr n)) σ' ∧ Fz (SKK κ) σ σ' := by
  have t0 := (kq_t3 n h7 h3).1
  have p15 : 2 ^ kqr n ≤ 2 ^ 15 := Nat.pow_le_pow_right (by omega) t0
  have pp : 0 < 2 ^ kqr n := Nat.two_pow_pos _
  have sk : ∀ i j, i ≤ 7 → SKK κ (κ + i) j := fun i j hi => by unfold SKK; omega
  unfold f_X6_listAll
  rw [bd (ak_pI hK hb _)]
  have k1 : LyKd (mx_setI σ κ 0 0) κ := hK
  rw [bd (ak_pI k1 hb _)]
  have k2 : LyKd (mx_setI (mx_setI σ κ 0 0) κ 2 (q_n n)) κ := hK
  have f2 : Fz (SKK κ) σ (mx_setI (mx_setI σ κ 0 0) κ 2 (q_n n)) := (Fz.rf.sI (sk 0 0 (by omega)) _).sI (sk 0 2 (by omega)) _
  obtain ⟨σ3, e3, T3, f3⟩ := c_np (P := P) (n := n) k2 hb h7 h3 (by omega) sI_e
  have k3 := f3.Kd k2
  have f23 := f2.tr (f3.mo (T := SKK κ) fun q j z => by
    rcases z with z | z
    · unfold SNP at z; unfold SKK; omega
    · unfold SKK; omega)
  rw [bd (ak_is k2), bd e3, bd (ak_r9 k3)]
  have hA : mxA σ3 (κ + 7) = some (.inr (0, 1024)) := (k3.2 6 9 0 1024 rfl).2
  obtain ⟨σ4, e4, z1, z2⟩ := k_fill (P := P) hA (by omega) (by omega) (by omega) 0
  have f4 : Fz (fun q _ => q = κ + 7) σ3 σ4 := qf_Fz z2 fun q j z => z.1
  have k4 := f4.Kd k3
  have f24 := f23.tr (f4.mo (T := SKK κ) fun q j z => by unfold SKK; omega)
  have T4 : KT κ n σ4 := KT_h T3 fun q j z => f4.gi (by omega)
  have s0 : mxI σ4 κ 0 = 0 := by
    rw [f4.gi (by omega), f3.gi (by unfold SNP; omega), sI_n (by omega), sI_e]
  rw [bd e4, bd (ak_gI k4), T4.2.1]
  have eM : ((1 : Int32) <<< (q_n (kqr n) &&& 31)) - (1 : Int32) = q_n (2 ^ kqr n - 0) - 1 := by
    have := kb_1 ⟨kqr n, by omega⟩
    dsimp only at this
    rw [this]; rfl
  rw [eM, Option.bind_some]
  obtain ⟨r, e, h1, h2⟩ := q_for (f_X6_listAll_L31 P κ (q_n j)) (fun m t => t.1 = q_n (2 ^ kqr n - m) - 1 ∧ KT κ n t.2 ∧ KLs κ (L m) t.2 ∧ (∀ d, d < 2 ^ kqr n → (SN κ t.2 d ↔ ∃ c', c' ∈ L m ∧ ∃ l, kqP n l ∧ kqp n d l = c')) ∧ Fz (SKK κ) σ t.2) (fun r => KLs κ (L (2 ^ kqr n)) r ∧ Fz (SKK κ) σ r) (2 ^ kqr n)
    (by
      rintro m ⟨v, τ⟩ hm ⟨i1, iT, iL, iS, iF⟩
      dsimp only at i1 iT iL iS iF
      obtain ⟨c, hc⟩ : ∃ c, 2 ^ kqr n - 1 - m = c := ⟨_, rfl⟩
      have hs1 := hs m
      rw [hc] at hs1
      have i1 : v = q_n c := by rw [i1, ← hc]; exact (nsub (b := 1) (by omega) (by omega)).trans (congrArg q_n (by omega))
      subst i1
      have nx : q_n (2 ^ kqr n - (m + 1)) - 1 = q_n c + (-1 : Int32) := by rw [kx_m1, ← hc]; congr 2; omega
      have hcM : c < 2 ^ kqr n := by omega
      have k0 := iF.Kd hK
      have Dd : ∀ τ', f_X6_listAll_D94_31 P κ (q_n j) (q_n c) τ' = some (.inl (q_n (2 ^ kqr n - (m + 1)) - 1, τ')) := fun τ' => by
        unfold f_X6_listAll_D94_31
        rw [Option.bind_some, nx]
      have pre : f_X6_listAll_L31 P κ (q_n j) (q_n c, τ) = f_X6_listAll_B31 P κ (q_n j) (q_n c) τ := rfl
      unfold f_X6_listAll_B31 at pre
      have n0 : ¬ q_n c < 0 := fun z => by have := (q_nLt (l := 0) (by omega) (by omega)).mp z; omega
      have wl : kqw c ≤ 15 := kqk_le c.testBit
      rw [if_neg n0, bd2 (kb_bc (by omega))] at pre
      by_cases hw : kqw c = j
      · rw [if_pos (by rw [hw]), bd (ak_is k0)] at pre
        rcases c_isn (P := P) k0 (show c < 32768 by omega) with ⟨e5, s5⟩ | ⟨e5, s5⟩
        · rw [bd2 e5, if_neg (show ¬ (1 : Int32) = 0 by decide), Dd] at pre
          have nK : ¬ kqK n j c := by
            rintro ⟨-, -, hG⟩
            obtain ⟨c', m1, l, hl, el⟩ := (iS c hcM).mp s5
            have m2 := (kqL_m h0 hs (by omega)).mp m1
            have := hG l hl
            omega
          rw [← hs1.2 nK] at iL iS
          exact Or.inl ⟨_, pre, rfl, iT, iL, iS, iF⟩
        · rw [bd2 e5, if_pos rfl, bd (ak_is k0)] at pre
          obtain ⟨w, τ1, e6, hv, f6⟩ := c_isc (P := P) k0 hb h7 h3 (by omega) iT c
          rw [bd2 e6] at pre
          have k1 := f6.Kd k0
          have iF1 := iF.tr (f6.mo (T := SKK κ) fun q j z => by unfold SNB at z; unfold SKK; omega)
          have iT1 := KT_f iT f6
          have iL1 := KLs_f iL (τ := τ1) fun q j z => f6.gi (by unfold SNB; omega)
          have iS1 : ∀ d, d < 2 ^ kqr n → (SN κ τ1 d ↔ ∃ c', c' ∈ L m ∧ ∃ l, kqP n l ∧ kqp n d l = c') := fun d hd => by
            rw [← iS d hd]; unfold SN; rw [f6.gi (by unfold SNB; omega)]
          rcases hv with ⟨hv, nC⟩ | ⟨hv, hC⟩
          · rw [hv, if_pos rfl, Dd] at pre
            have nK : ¬ kqK n j c := fun z => nC z.1
            rw [← hs1.2 nK] at iL1 iS1
            exact Or.inl ⟨_, pre, rfl, iT1, iL1, iS1, iF1⟩
          · have hG : kqG n c := by
              apply Classical.byContradiction
              intro ng
              obtain ⟨c', a1, a2, a3, a4⟩ := (kq_seen h7 h3 hcM hC hw).mpr ng
              exact s5 ((iS c hcM).mpr ⟨c', (kqL_m h0 hs (by omega)).mpr ⟨a3, by omega, a2⟩, a4⟩)
            have hKK : kqK n j c := ⟨hC, hw, hG⟩
            have l156 := kqL_lt h7 h3 h0 hs hm (by rw [hc]; exact hKK)
            have eL := hs1.1 hKK
            rw [hv, if_neg (show ¬ (1 : Int32) = 0 by decide), bd (ak_gI k1), iL1.1, if_neg (show ¬ (156 : Int32) ≤ q_n (L m).length from fun z => by have := (q_nLe (k := 156) (by omega) (by omega)).mp z; omega), bd (ak_r1 k1), bd (ak_gI k1), iL1.1, bd (ak_s1 k1 hb l156 _)] at pre
            have k2 : LyKd (mx_setI τ1 (κ + 1) (L m).length (q_n c)) κ := k1
            rw [bd (ak_gI k2), sI_n (by omega), iL1.1, q_nS, bd (ak_pI k2 hb _)] at pre
            have k3 : LyKd (mx_setI (mx_setI τ1 (κ + 1) (L m).length (q_n c)) κ 0 (q_n ((L m).length + 1))) κ := k1
            have iT3 : KT κ n (mx_setI (mx_setI τ1 (κ + 1) (L m).length (q_n c)) κ 0 (q_n ((L m).length + 1))) := KT_h iT1 fun q j z => by rw [sI_n (by omega), sI_n (by omega)]
            obtain ⟨τ4, e7, s7, f7⟩ := c_sal (P := P) k3 hb h7 h3 (by omega) iT3 hcM
            rw [bd (ak_is k3), bd e7, Dd] at pre
            refine Or.inl ⟨_, pre, rfl, KT_g iT3 f7, ?_, ?_, ((iF1.sI (sk 1 _ (by omega)) _).sI (sk 0 _ (by omega)) _).tr (f7.mo (T := SKK κ) fun q j z => by unfold SSN at z; unfold SKK; omega)⟩
            · dsimp only
              rw [eL]
              refine KLs_f (σ := mx_setI (mx_setI τ1 (κ + 1) (L m).length (q_n c)) κ 0 (q_n ((L m).length + 1))) ⟨?_, fun k hk => ?_⟩ fun q j z => f7.gi (by unfold SSN; omega)
              · rw [sI_e, List.length_append]; rfl
              · rw [List.length_append] at hk
                have hk : k < (L m).length + 1 := hk
                rw [sI_n (by omega)]
                by_cases e : k = (L m).length
                · rw [e, sI_e, kqa_al]
                · rw [sI_n (by omega), kqa_ap (by omega)]; exact iL1.2 k (by omega)
            · intro d hd
              dsimp only
              rw [s7 d hd, eL]
              have sn3 : SN κ (mx_setI (mx_setI τ1 (κ + 1) (L m).length (q_n c)) κ 0 (q_n ((L m).length + 1))) d ↔ SN κ τ1 d := by
                unfold SN; rw [sI_n (by omega), sI_n (by omega)]
              rw [sn3, iS1 d hd]
              constructor
              · rintro (⟨c', a1, a2⟩ | ⟨l, a1, a2⟩)
                · exact ⟨c', List.mem_append.mpr (Or.inl a1), a2⟩
                · exact ⟨c, List.mem_append.mpr (Or.inr (List.mem_singleton.mpr rfl)), l, a1, (kqQ_iff h7 h3 a1 hcM hd).mp a2⟩
              · rintro ⟨c', a1, l, a2, a3⟩
                rcases List.mem_append.mp a1 with a1 | a1
                · exact Or.inl ⟨c', a1, l, a2, a3⟩
                · rw [List.mem_singleton.mp a1] at a3
                  exact Or.inr ⟨l, a2, (kqQ_iff h7 h3 a2 hcM hd).mpr a3⟩
      · rw [if_neg (fun z => hw ((q_nI (by omega) (by omega)).mp z)), Dd] at pre
        have nK : ¬ kqK n j c := fun z => hw z.2.1
        rw [← hs1.2 nK] at iL iS
        exact Or.inl ⟨_, pre, rfl, iT, iL, iS, iF⟩)
    (by
      rintro ⟨v, τ⟩ ⟨i1, iT, iL, iS, iF⟩
      dsimp only at i1 iT iL iS iF
      subst i1
      refine ⟨τ, ?_, iL, iF⟩
      show f_X6_listAll_B31 P κ (q_n j) (q_n (2 ^ kqr n - 2 ^ kqr n) - 1) τ = _
      unfold f_X6_listAll_B31
      rw [Nat.sub_self, if_pos (show q_n 0 - 1 < 0 by decide)])
    (2 ^ kqr n) 0 (q_n (2 ^ kqr n - 0) - 1, σ4) (mpN P) (by omega) ⟨rfl, T4, by
      rw [h0]; exact ⟨s0, fun k hk => absurd hk (Nat.not_lt_zero k)⟩, fun d hd => by
      rw [h0]
      unfold SN
      rw [z1 _ (by omega), kb_0]
      constructor
      · intro z; exact absurd z (by decide)
      · rintro ⟨c', z, -⟩; exact absurd z (by simp), f24⟩ (by omega)
  rw [bd e]
  exact ⟨r, rfl, h1, h2⟩
end JZS
