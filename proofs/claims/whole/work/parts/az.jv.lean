/-! ===== jv: kinds: the class numbers the pairs ===== -/
section JVS
variable {P : mx_P} {σ τ : mx_S} {S T : Nat → Nat → Prop} {n k a b i j c u κ : Nat}
theorem lpT {α ρ : Type} {b : α → Option (α ⊕ ρ)} (T : Nat → α) {r : ρ} (m : Nat) {fu : Nat} (h : ∀ i, i < m → b (T i) = some (.inl (T (i + 1)))) (he : b (T m) = some (.inr r)) (hf : m < fu) : mx_lp b fu (T 0) = some r := by
  obtain ⟨r', e, e2⟩ := q_for b (fun k t => t = T k) (fun s => s = r) m (fun k t hk ht => Or.inl ⟨T (k + 1), by rw [ht]; exact h k hk, rfl⟩) (fun t ht => ⟨r, by rw [ht]; exact he, rfl⟩) m 0 (T 0) fu (by omega) rfl hf
  rw [e, e2]
def LyKd (σ : mx_S) (κ : Nat) : Prop := LyO (mxA σ) (mxR σ) 6 al6 κ
theorem Fz.Kd (h : Fz S σ τ) (hK : LyKd σ κ) : LyKd τ κ := by unfold LyKd; rw [h.1, h.2.1]; exact hK
theorem Fz.gi (h : Fz S σ τ) (hn : ¬ S a k) : mxI τ a k = mxI σ a k := (h.2.2.2 a k hn).1
theorem kx_m1 (x : Int32) : x + (-1 : Int32) = x - 1 := (Int32.sub_eq_add_neg x 1).symm
theorem kx6 : q_n a * (6 : Int32) + q_n b = q_n (a * 6 + b) := by
  show Int32.ofNat a * Int32.ofNat 6 + Int32.ofNat b = Int32.ofNat (a * 6 + b)
  rw [Int32.ofNat_add, Int32.ofNat_mul]
theorem kx6' : (6 : Int32) * q_n a + q_n b = q_n (6 * a + b) := by
  show Int32.ofNat 6 * Int32.ofNat a + Int32.ofNat b = Int32.ofNat (6 * a + b)
  rw [Int32.ofNat_add, Int32.ofNat_mul]
/-- the pairs from bit u on are numbered -/
def NPI (κ n u : Nat) (σ : mx_S) : Prop := ∀ i, u ≤ i → i < kqr n → mxI σ (κ + 2) i = q_n (kqf n i) ∧ mxI σ (κ + 3) i = q_n (kqg n i) ∧ mxI σ (κ + 4) (kqf n i * 6 + kqg n i) = q_n (2 ^ i) ∧ mxI σ (κ + 4) (kqg n i * 6 + kqf n i) = q_n (2 ^ i)
def SNP (κ : Nat) (q _j : Nat) : Prop := κ + 2 ≤ q ∧ q ≤ κ + 4
theorem c_npi (hK : LyKd σ κ) (hb : mpb P ≤ κ) (h7 : n < 7) (h3 : 3 ≤ n) (hN : 20 < mpN P) (ha : a < n) (hl : mxI σ κ 2 = q_n n) (hI : NPI κ n (kqu n a (a + 1)) σ) : ∃ σ', mx_lp (f_X6_numberPairs_L38 P κ (q_n a)) (mpN P) (q_n (kqu n a (a + 1)) - 1, q_n (a + 1), σ) = some (q_n (kqu n a n) - 1, σ') ∧ NPI κ n (kqu n a n) σ' ∧ Fz (SNP κ) σ σ' := by
  obtain ⟨r, e, h1, h2, h3'⟩ := q_for (f_X6_numberPairs_L38 P κ (q_n a)) (fun b t => t.1 = q_n (kqu n a b) - 1 ∧ t.2.1 = q_n b ∧ NPI κ n (kqu n a b) t.2.2 ∧ Fz (SNP κ) σ t.2.2 ∧ a < b) (fun r => r.1 = q_n (kqu n a n) - 1 ∧ NPI κ n (kqu n a n) r.2 ∧ Fz (SNP κ) σ r.2) n
    (by
      rintro b ⟨v1, v3, τ⟩ hbn ⟨i1, i2, i3, i4, hab⟩
      dsimp only at i1 i2 i3 i4 hab
      subst i1 i2
      obtain ⟨t5, t6⟩ := kq_t5 n h7 a (by omega) b (by omega) ⟨h3, hab, hbn⟩
      obtain ⟨t1, -, t3, t4⟩ := kq_t1 n h7 h3 a ha b hbn (by omega)
      have t0 := (kq_t3 n h7 h3).1
      rw [Nat.min_eq_left (by omega)] at t3
      rw [Nat.max_eq_right (by omega)] at t4
      have ei : q_n (kqu n a b) - 1 = q_n (kqb n a b) := by
        rw [← t6]; exact nsub (b := 1) (by omega) (by omega)
      have eu : kqu n a (b + 1) = kqb n a b := by omega
      have k0 : LyKd τ κ := i4.Kd hK
      have l0 : mxI τ κ 2 = q_n n := (i4.gi (by unfold SNP; omega)).trans hl
      have sh := kb_1 ⟨kqb n a b, by omega⟩
      dsimp only at sh
      refine Or.inl ⟨(q_n (kqb n a b) - 1, q_n (b + 1), mx_setI (mx_setI (mx_setI (mx_setI τ (κ + 2) (kqb n a b) (q_n a)) (κ + 3) (kqb n a b) (q_n b)) (κ + 4) (a * 6 + b) (q_n (2 ^ kqb n a b))) (κ + 4) (b * 6 + a) (q_n (2 ^ kqb n a b))), ?_, ?_, rfl, ?_, ?_, by omega⟩
      · show f_X6_numberPairs_B38 P κ (q_n a) (q_n (kqu n a b) - 1) (q_n b) τ = _
        rw [ei]
        unfold f_X6_numberPairs_B38
        rw [bd (ak_gI k0), l0, if_neg (qn_ge hbn (by omega)), bd (ak_r4 k0), bd (ak_s4 k0 hb (by omega) _)]
        have k1 : LyKd (mx_setI τ (κ + 2) (kqb n a b) (q_n a)) κ := k0
        rw [bd (ak_r5 k1), bd (ak_s5 k1 hb (by omega) _)]
        have k2 : LyKd (mx_setI (mx_setI τ (κ + 2) (kqb n a b) (q_n a)) (κ + 3) (kqb n a b) (q_n b)) κ := k0
        rw [bd (ak_r6 k2), kx6, sh, bd (ak_s6 k2 hb (by omega) _)]
        have k3 : LyKd (mx_setI (mx_setI (mx_setI τ (κ + 2) (kqb n a b) (q_n a)) (κ + 3) (kqb n a b) (q_n b)) (κ + 4) (a * 6 + b) (q_n (2 ^ kqb n a b))) κ := k0
        rw [bd (ak_r6 k3), kx6, bd (ak_s6 k3 hb (by omega) _)]
        rw [Option.bind_some, Option.bind_some, q_nS, kx_m1]
      · rw [eu]
      · rw [eu]
        dsimp only
        intro i hi1 hi2
        obtain ⟨s1, s2, s3⟩ := kq_t2 n h7 h3 i hi2
        by_cases e : i = kqb n a b
        · subst e
          rw [t3, t4]
          refine ⟨?_, ?_, ?_, sI_e⟩
          · rw [sI_n (by omega), sI_n (by omega), sI_n (by omega), sI_e]
          · rw [sI_n (by omega), sI_n (by omega), sI_e]
          · rw [sI_n (by omega), sI_e]
        · have ne : ¬ (kqf n i = a ∧ kqg n i = b) := fun z => e (by rw [← s3, z.1, z.2])
          obtain ⟨z1, z2, z3, z4⟩ := i3 i (by omega) hi2
          refine ⟨?_, ?_, ?_, ?_⟩
          · rw [sI_n (by omega), sI_n (by omega), sI_n (by omega), sI_n (by omega)]; exact z1
          · rw [sI_n (by omega), sI_n (by omega), sI_n (by omega), sI_n (by omega)]; exact z2
          · rw [sI_n (by omega), sI_n (by omega), sI_n (by omega), sI_n (by omega)]; exact z3
          · rw [sI_n (by omega), sI_n (by omega), sI_n (by omega), sI_n (by omega)]; exact z4
      · dsimp only
        have s2 : ∀ j, SNP κ (κ + 2) j := fun j => by unfold SNP; omega
        have s3 : ∀ j, SNP κ (κ + 3) j := fun j => by unfold SNP; omega
        have s4 : ∀ j, SNP κ (κ + 4) j := fun j => by unfold SNP; omega
        exact (((i4.sI (s2 _) _).sI (s3 _) _).sI (s4 _) _).sI (s4 _) _)
    (by
      rintro ⟨v1, v3, τ⟩ ⟨i1, i2, i3, i4, hab⟩
      dsimp only at i1 i2 i3 i4 hab
      subst i1 i2
      refine ⟨(q_n (kqu n a n) - 1, τ), ?_, rfl, i3, i4⟩
      show f_X6_numberPairs_B38 P κ (q_n a) (q_n (kqu n a n) - 1) (q_n n) τ = _
      unfold f_X6_numberPairs_B38
      have l0 : mxI τ κ 2 = q_n n := (i4.gi (by unfold SNP; omega)).trans hl
      rw [bd (ak_gI (i4.Kd hK)), l0, if_pos ((q_nLe (by omega) (by omega)).mpr (Nat.le_refl _))])
    (n - (a + 1)) (a + 1) (q_n (kqu n a (a + 1)) - 1, q_n (a + 1), σ) (mpN P) (by omega) ⟨rfl, rfl, hI, Fz.rf, by omega⟩ (by omega)
  obtain ⟨r1, r2⟩ := r
  dsimp only at h1 h2 h3'
  subst h1
  exact ⟨r2, e, h2, h3'⟩
def KT (κ n : Nat) (σ : mx_S) : Prop := mxI σ κ 2 = q_n n ∧ mxI σ κ 3 = q_n (kqr n) ∧ NPI κ n 0 σ
theorem kqu_z : ∀ n, n < 7 → 3 ≤ n → kqu n n (n + 1) = 0 := by decide +kernel
theorem c_np (hK : LyKd σ κ) (hb : mpb P ≤ κ) (h7 : n < 7) (h3 : 3 ≤ n) (hN : 20 < mpN P) (hl : mxI σ κ 2 = q_n n) : ∃ σ', f_X6_numberPairs P κ σ = some σ' ∧ KT κ n σ' ∧ Fz (fun q j => SNP κ q j ∨ (q = κ ∧ j = 3)) σ σ' := by
  have ed : md_I (q_n n * (q_n n - 1)) (2 : Int32) = some (q_n (kqr n)) := by
    have : ∀ n : Fin 7, 3 ≤ n.1 → md_I (q_n n.1 * (q_n n.1 - 1)) (2 : Int32) = some (q_n (kqr n.1)) := by decide +kernel
    exact this ⟨n, h7⟩ h3
  have t0 := (kq_t3 n h7 h3)
  unfold f_X6_numberPairs
  rw [bd (ak_gI hK), bd (ak_gI hK), hl, bd ed, bd (ak_pI hK hb _)]
  have k1 : LyKd (mx_setI σ κ 3 (q_n (kqr n))) κ := hK
  rw [bd (ak_gI k1), sI_e, Option.bind_some]
  have f1 : Fz (fun q j => SNP κ q j ∨ (q = κ ∧ j = 3)) σ (mx_setI σ κ 3 (q_n (kqr n))) := Fz.rf.sI (Or.inr ⟨rfl, rfl⟩) _
  obtain ⟨r, e, h1, h2⟩ := q_for (f_X6_numberPairs_L26 P κ) (fun a t => t.1 = q_n (kqu n a (a + 1)) - 1 ∧ t.2.1 = q_n a ∧ NPI κ n (kqu n a (a + 1)) t.2.2 ∧ Fz (SNP κ) (mx_setI σ κ 3 (q_n (kqr n))) t.2.2) (fun r => NPI κ n 0 r ∧ Fz (SNP κ) (mx_setI σ κ 3 (q_n (kqr n))) r) n
    (by
      rintro a ⟨v1, v2, τ⟩ han ⟨i1, i2, i3, i4⟩
      dsimp only at i1 i2 i3 i4
      subst i1 i2
      have l0 : mxI τ κ 2 = q_n n := (i4.gi (by unfold SNP; omega)).trans (by rw [sI_n (by omega)]; exact hl)
      obtain ⟨τ', e, z1, z2⟩ := c_npi (i4.Kd k1) hb h7 h3 hN han l0 i3
      have t4 := kq_t4 n h7 a (by omega) ⟨h3, han⟩
      refine Or.inl ⟨(q_n (kqu n (a + 1) (a + 1 + 1)) - 1, q_n (a + 1), τ'), ?_, rfl, rfl, ?_, i4.tr z2⟩
      · show f_X6_numberPairs_B26 P κ (q_n (kqu n a (a + 1)) - 1) (q_n a) τ = _
        unfold f_X6_numberPairs_B26
        rw [bd (ak_gI (i4.Kd k1)), l0, if_neg (qn_ge han (by omega)), Option.bind_some, q_nS, bd e]
        dsimp only
        rw [Option.bind_some, t4]
      · rw [t4] at z1; exact z1)
    (by
      rintro ⟨v1, v2, τ⟩ ⟨i1, i2, i3, i4⟩
      dsimp only at i1 i2 i3 i4
      subst i1 i2
      have l0 : mxI τ κ 2 = q_n n := (i4.gi (by unfold SNP; omega)).trans (by rw [sI_n (by omega)]; exact hl)
      rw [kqu_z n h7 h3] at i3
      refine ⟨τ, ?_, i3, i4⟩
      show f_X6_numberPairs_B26 P κ _ (q_n n) τ = _
      unfold f_X6_numberPairs_B26
      rw [bd (ak_gI (i4.Kd k1)), l0, if_pos ((q_nLe (by omega) (by omega)).mpr (Nat.le_refl _))])
    n 0 (q_n (kqu n 0 1) - 1, q_n 0, mx_setI σ κ 3 (q_n (kqr n))) (mpN P) (by omega) ⟨rfl, rfl, fun i h1 h2 => by rw [t0.2] at h1; omega, Fz.rf⟩ (by omega)
  rw [t0.2] at e
  have e : mx_lp (f_X6_numberPairs_L26 P κ) (mpN P) (q_n (kqr n) - 1, 0, mx_setI σ κ 3 (q_n (kqr n))) = some r := e
  rw [bd e]
  refine ⟨r, rfl, ⟨?_, ?_, h1⟩, f1.tr (h2.mo fun q j z => Or.inl z)⟩
  · rw [h2.gi (by unfold SNP; omega), sI_n (by omega)]; exact hl
  · rw [h2.gi (by unfold SNP; omega), sI_e]
end JVS
