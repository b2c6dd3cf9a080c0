/-! ===== hn: the scanner, the reference's ===== -/
section HNS
variable {P : mx_P} {σ σ0 σ1 σ2 τ : mx_S} {x m n t p : Nat} {bs : List Nat}
/-- the bytes that are read -/
def TS (σ : mx_S) (m : Nat) (bs : List Nat) : Prop := bs.length ≤ 4000 ∧ mxI σ m 3 = q_n bs.length ∧ ∀ k b, bs[k]? = some b → b < 256 ∧ mxI σ (m + 1) k = q_n b
theorem TS_256 (h : TS σ m bs) : ∀ b, b ∈ bs → b < 256 := fun b hb => by
  obtain ⟨k, hk⟩ := List.getElem?_of_mem hb
  exact (h.2.2 k b hk).1
theorem TS_f {S : Nat → Nat → Prop} (h : TS σ m bs) (f : Fz S σ τ) (hs : ∀ q j, S q j → q ≠ m + 1 ∧ (q = m → j ≠ 3)) : TS τ m bs :=
  ⟨h.1, (f.2.2.2 _ _ (fun z => (hs _ _ z).2 rfl rfl)).1.trans h.2.1, fun k b hk => by rw [(f.2.2.2 _ _ (fun z => (hs _ _ z).1 rfl)).1]; exact h.2.2 k b hk⟩
theorem r_lk (hM : LyM σ m) (h : TS σ m bs) {k : Nat} (hk : k < 5000) : f_X12_look P m (q_n k) σ = some (bA bs k, σ) := by
  have hl := h.1
  unfold f_X12_look f_X12_look_D18 bA
  rw [bd (am_gI hM), h.2.1]
  by_cases c : bs.length ≤ k
  · rw [if_pos (by rw [q_nLe (by omega) (by omega)]; exact c), List.getElem?_eq_none c]
  · rw [if_neg (by rw [q_nLe (by omega) (by omega)]; exact c), bd (am_r1 hM), bd (am_g1 hM (by omega))]
    have e : bs[k]? = some bs[k] := List.getElem?_eq_getElem (by omega)
    rw [e, (h.2.2 k _ e).2]
theorem r_skip {N : Nat} (hN : N = 4000) (hf : 5000 ≤ mpN P) (hM : LyM σ m) (hb : mpb P ≤ m) (h : TS σ m bs) (h4 : mxI σ m 14 = q_n p) (hp : p ≤ bs.length) : ∃ τ, mx_lp (f_X12_scan_L0 P m) (mpN P) σ = some τ ∧ mxI τ m 14 = q_n (skN bs N p) ∧ Fz (fun q j => q = m ∧ j = 14) σ τ := by
  have hl := h.1
  obtain ⟨r, er, hr⟩ := q_for (f_X12_scan_L0 P m)
    (fun k s => ∃ p', p' ≤ bs.length ∧ mxI s m 14 = q_n p' ∧ skN bs (N - k) p' = skN bs N p ∧ bs.length - p' ≤ N - k ∧ Fz (fun q j => q = m ∧ j = 14) σ s)
    (fun τ => mxI τ m 14 = q_n (skN bs N p) ∧ Fz (fun q j => q = m ∧ j = 14) σ τ) N
    (by
      rintro k τ hk ⟨p', hp', i2, i3, ib, i4⟩
      have hMτ := i4.M hM
      have hCτ : TS τ m bs := TS_f h i4 (fun q j z => by omega)
      show (∃ t', f_X12_scan_B0 P m τ = _ ∧ _) ∨ (∃ r, f_X12_scan_B0 P m τ = _ ∧ _)
      have eD : f_X12_scan_D52_0 P m τ = some (.inl (mx_setI τ m 14 (q_n (p' + 1)))) := by
        unfold f_X12_scan_D52_0
        rw [bd (am_gI hMτ), i2, q_nS, bd (am_pI hMτ hb _)]
      have e : f_X12_scan_B0 P m τ = if spc (bA bs p') then some (.inl (mx_setI τ m 14 (q_n (p' + 1)))) else some (.inr τ) := by
        unfold f_X12_scan_B0
        rw [bd (am_gI hMτ), i2, bd (am_is hMτ), bd2 (r_lk hMτ hCτ (by omega)), eD, bd (am_gI hMτ), i2, bd (am_is hMτ), bd2 (r_lk hMτ hCτ (by omega)), bd (am_gI hMτ), i2, bd (am_is hMτ), bd2 (r_lk hMτ hCτ (by omega)), bd (am_gI hMτ), i2, bd (am_is hMτ), bd2 (r_lk hMτ hCτ (by omega))]
        unfold spc
        by_cases c1 : bA bs p' = 9
        · rw [if_pos c1, decide_eq_true (Or.inl c1)]; rfl
        rw [if_neg c1]
        by_cases c2 : bA bs p' = 10
        · rw [if_pos c2, eD, decide_eq_true (Or.inr (Or.inl c2))]; rfl
        rw [if_neg c2]
        by_cases c3 : bA bs p' = 13
        · rw [if_pos c3, eD, decide_eq_true (Or.inr (Or.inr (Or.inl c3)))]; rfl
        rw [if_neg c3]
        by_cases c4 : bA bs p' = 32
        · rw [if_pos c4, eD, decide_eq_true (Or.inr (Or.inr (Or.inr c4)))]; rfl
        rw [if_neg c4, decide_eq_false (by rintro (z | z | z | z) <;> contradiction)]; rfl
      rw [e]
      rw [show N - k = (N - (k + 1)) + 1 by omega, skN] at i3
      cases c : spc (bA bs p') with
      | true =>
        have hlt := spc_lt c
        rw [c, if_pos rfl] at i3
        rw [if_pos rfl]
        exact Or.inl ⟨_, rfl, p' + 1, hlt, sI_e, i3, by omega, i4.sI ⟨rfl, rfl⟩ _⟩
      | false =>
        rw [c, if_neg (by decide)] at i3
        rw [if_neg (by decide)]
        exact Or.inr ⟨_, rfl, by rw [i2, i3], i4⟩)
    (by
      rintro τ ⟨p', hp', i2, i3, ib, i4⟩
      have hMτ := i4.M hM
      have hCτ : TS τ m bs := TS_f h i4 (fun q j z => by omega)
      have hno : bA bs p' = -1 := bA_no (by omega)
      refine ⟨τ, ?_, ?_, i4⟩
      · show f_X12_scan_B0 P m τ = _
        unfold f_X12_scan_B0
        rw [bd (am_gI hMτ), i2, bd (am_is hMτ), bd2 (r_lk hMτ hCτ (by omega)), hno, if_neg (by decide), bd (am_gI hMτ), i2, bd (am_is hMτ), bd2 (r_lk hMτ hCτ (by omega)), hno, if_neg (by decide), bd (am_gI hMτ), i2, bd (am_is hMτ), bd2 (r_lk hMτ hCτ (by omega)), hno, if_neg (by decide), bd (am_gI hMτ), i2, bd (am_is hMτ), bd2 (r_lk hMτ hCτ (by omega)), hno, if_neg (by decide)]
      · rw [Nat.sub_self, skN] at i3; rw [i2, i3])
    N 0 σ (mpN P) (by omega) ⟨p, hp, h4, by rw [Nat.sub_zero], by omega, Fz.rf⟩ (by omega)
  exact ⟨r, er, hr⟩
theorem r_rword (hf : 5000 ≤ mpN P) (hM : LyM σ m) (hb : mpb P ≤ m) (h : TS σ m bs) (h4 : mxI σ m 14 = q_n p) (h6 : mxI σ m 16 = q_n p) (hp : p ≤ bs.length) : ∃ τ, mx_lp (f_X12_scan_L101 P m) (mpN P) σ = some τ ∧ mxI τ m 14 = q_n (wdN bs 8 p) ∧ Fz (fun q j => q = m ∧ j = 14) σ τ := by
  have hl := h.1
  obtain ⟨r, er, hr⟩ := q_for (f_X12_scan_L101 P m)
    (fun k s => p + k ≤ bs.length ∧ mxI s m 14 = q_n (p + k) ∧ wdN bs (8 - k) (p + k) = wdN bs 8 p ∧ Fz (fun q j => q = m ∧ j = 14) σ s)
    (fun τ => mxI τ m 14 = q_n (wdN bs 8 p) ∧ Fz (fun q j => q = m ∧ j = 14) σ τ) 8
    (by
      rintro k τ hk ⟨i0, i2, i3, i4⟩
      have hMτ := i4.M hM
      have hCτ : TS τ m bs := TS_f h i4 (fun q j z => by omega)
      have i6 : mxI τ m 16 = q_n p := by rw [(i4.2.2.2 _ _ (by omega)).1]; exact h6
      have esub : q_n (p + k) - q_n p = q_n k := by
        apply Int32.toInt.inj
        rw [q_isub (by rw [q_nT (by omega), q_nT (by omega)]; omega) (by rw [q_nT (by omega), q_nT (by omega)]; omega), q_nT (by omega), q_nT (by omega), q_nT (by omega)]; omega
      show (∃ t', f_X12_scan_B101 P m τ = _ ∧ _) ∨ (∃ r, f_X12_scan_B101 P m τ = _ ∧ _)
      unfold f_X12_scan_B101
      rw [bd (am_gI hMτ), i2, bd (am_gI hMτ), i6, esub, if_neg (by rw [show (8 : Int32) = q_n 8 from rfl, q_nLe (by omega) (by omega)]; omega), bd (am_gI hMτ), i2, bd (am_is hMτ), bd2 (r_lk hMτ hCτ (by omega)), bd2 (r_ltr _), bd (am_gI hMτ), i2, q_nS, bd (am_pI hMτ hb _)]
      rw [show 8 - k = (8 - (k + 1)) + 1 by omega, wdN] at i3
      cases c : ltr (bA bs (p + k)) with
      | true =>
        rw [c, if_pos rfl] at i3
        have hlt := ltr_lt c
        rw [if_neg (by decide)]
        exact Or.inl ⟨_, rfl, by omega, sI_e, i3, i4.sI ⟨rfl, rfl⟩ _⟩
      | false =>
        rw [c, if_neg (by decide)] at i3
        rw [if_pos (by rfl)]
        exact Or.inr ⟨_, rfl, by rw [i2, i3], i4⟩)
    (by
      rintro τ ⟨i0, i2, i3, i4⟩
      have hMτ := i4.M hM
      have i6 : mxI τ m 16 = q_n p := by rw [(i4.2.2.2 _ _ (by omega)).1]; exact h6
      have esub : q_n (p + 8) - q_n p = q_n 8 := by
        apply Int32.toInt.inj
        rw [q_isub (by rw [q_nT (by omega), q_nT (by omega)]; omega) (by rw [q_nT (by omega), q_nT (by omega)]; omega), q_nT (by omega), q_nT (by omega), q_nT (by omega)]; omega
      rw [Nat.sub_self, wdN] at i3
      refine ⟨τ, ?_, by rw [i2, i3], i4⟩
      show f_X12_scan_B101 P m τ = _
      unfold f_X12_scan_B101
      rw [bd (am_gI hMτ), i2, bd (am_gI hMτ), i6, esub, if_pos (by decide)])
    8 0 σ (mpN P) (by omega) ⟨hp, h4, rfl, Fz.rf⟩ (by omega)
  exact ⟨r, er, hr⟩
/-- four digits, either loop -/
theorem r_dig (b : (Int32 × Int32 × mx_S) → Option ((Int32 × Int32 × mx_S) ⊕ (Int32 × mx_S))) (hf : 5000 ≤ mpN P) (hM : LyM σ m) (hb : mpb P ≤ m)
    (hbody : ∀ v k τ, b (v, k, τ) = (if (4 : Int32) ≤ k then some (.inr (v, τ)) else (mg_I τ m 12 14).bind fun x13 => (mx_is τ m 12).bind fun i15 => mx_b2 (f_X12_look P m x13 τ) fun x18 σ17 => mx_b2 (f_X12_isDigit P x18 σ17) fun x21 σ20 => (if x21 = 0 then some (.inr (v, σ20)) else (mg_I σ20 m 12 14).bind fun x24 => (mx_is σ20 m 12).bind fun i26 => mx_b2 (f_X12_look P m x24 σ20) fun x29 σ28 => (some ((((10 : Int32) * v) + x29) - (48 : Int32))).bind fun x31 => (mg_I σ28 m 12 14).bind fun x33 => (mp_I P σ28 m 12 14 (x33 + (1 : Int32))).bind fun σ35 => (some (k + (1 : Int32))).bind fun x37 => some (.inl (x31, x37, σ35)))))
    (h : TS σ m bs) (h4 : mxI σ m 14 = q_n p) (hp : p ≤ bs.length) : ∃ τ, mx_lp b (mpN P) ((0 : Int32), (0 : Int32), σ) = some (q_n (dvN bs 4 p 0), τ) ∧ mxI τ m 14 = q_n (dgN bs 4 p) ∧ Fz (fun q j => q = m ∧ j = 14) σ τ := by
  have hl := h.1
  have h256 := TS_256 h
  obtain ⟨r, er, k1, k2, k4⟩ := q_for b
    (fun k s => ∃ a, s.1 = q_n a ∧ a < 10 ^ k ∧ s.2.1 = q_n k ∧ p + k ≤ bs.length ∧ mxI s.2.2 m 14 = q_n (p + k) ∧ dvN bs (4 - k) (p + k) a = dvN bs 4 p 0 ∧ dgN bs (4 - k) (p + k) = dgN bs 4 p ∧ Fz (fun q j => q = m ∧ j = 14) σ s.2.2)
    (fun r => r.1 = q_n (dvN bs 4 p 0) ∧ mxI r.2 m 14 = q_n (dgN bs 4 p) ∧ Fz (fun q j => q = m ∧ j = 14) σ r.2) 4
    (by
      rintro k ⟨x0, x1, τ⟩ hk ⟨a, i0, ia, i1, ip, i2, iv, i3, i4⟩
      dsimp only at i0 i1 i2 i4
      subst i0; subst i1
      have hMτ := i4.M hM
      have hCτ : TS τ m bs := TS_f h i4 (fun q j z => by omega)
      have hpw : 10 ^ k ≤ 1000 := Nat.pow_le_pow_right (n := 10) (by omega) (show k ≤ 3 by omega)
      rw [hbody]
      rw [if_neg (by rw [show (4 : Int32) = q_n 4 from rfl, q_nLe (by omega) (by omega)]; omega), bd (am_gI hMτ), i2, bd (am_is hMτ), bd2 (r_lk hMτ hCτ (by omega)), bd2 (r_dgt _)]
      rw [show 4 - k = (4 - (k + 1)) + 1 by omega, dvN] at iv
      rw [show 4 - k = (4 - (k + 1)) + 1 by omega, dgN] at i3
      cases c : dgt (bA bs (p + k)) with
      | true =>
        rw [c, if_pos rfl] at i3 iv
        have hlt := dgt_lt c
        have hb' : by' bs (p + k) < 256 := h256 _ (List.mem_of_getElem? (by_i hlt))
        have hd : 48 ≤ by' bs (p + k) ∧ by' bs (p + k) ≤ 57 := by rw [bA_by hlt] at c; exact dgt_n hb' c
        have ev : (10 : Int32) * q_n a + q_n (by' bs (p + k)) - 48 = q_n (10 * a + (by' bs (p + k) - 48)) := by
          rw [show (10 : Int32) = q_n 10 from rfl, q_nM, q_nA]
          apply Int32.toInt.inj
          have e48 : (48 : Int32).toInt = 48 := rfl
          rw [q_isub (by rw [q_nT (by omega), e48]; omega) (by rw [q_nT (by omega), e48]; omega), q_nT (by omega), q_nT (by omega), e48]; omega
        rw [if_neg (by decide), bd (am_gI hMτ), i2, bd (am_is hMτ), bd2 (r_lk hMτ hCτ (by omega)), bA_by hlt, ev, bds, bd (am_gI hMτ), i2, q_nS, bd (am_pI hMτ hb _), bds, q_nS]
        refine Or.inl ⟨_, rfl, _, rfl, ?_, rfl, by omega, sI_e, iv, i3, i4.sI ⟨rfl, rfl⟩ _⟩
        rw [Nat.pow_succ]; omega
      | false =>
        rw [c, if_neg (by decide)] at i3 iv
        rw [if_pos (by rfl)]
        exact Or.inr ⟨_, rfl, by rw [iv], by rw [i2, i3], i4⟩)
    (by
      rintro ⟨x0, x1, τ⟩ ⟨a, i0, ia, i1, ip, i2, iv, i3, i4⟩
      dsimp only at i0 i1 i2 i4
      subst i0; subst i1
      rw [Nat.sub_self, dgN] at i3
      rw [Nat.sub_self, dvN] at iv
      refine ⟨(q_n a, τ), ?_, by rw [iv], by rw [i2, i3], i4⟩
      rw [hbody, if_pos (by decide)])
    4 0 ((0 : Int32), (0 : Int32), σ) (mpN P) (by omega) ⟨0, rfl, by decide, rfl, hp, h4, rfl, rfl, Fz.rf⟩ (by omega)
  obtain ⟨r1, r2⟩ := r
  dsimp only at k1 k2 k4
  subst k1
  exact ⟨r2, er, k2, k4⟩
theorem k_gcdS {a b : Nat} (hf : 20000 ≤ mpN P) (ha : a < 10000) (hb : b < 10000) (σ : mx_S) : f_X12_gcd P (l_n a) (l_n b) σ = some (l_n (Nat.gcd a b), σ) := by
  have sz : ∀ c : Nat, c < 10000 → f_X12_size P (l_n c) σ = some (l_n c, σ) := fun c hc => by
    unfold f_X12_size f_X12_size_D12
    rw [if_pos (by rw [q_cmp_ge, q_lle, l_nT (by omega)]; show (0 : Int64).toInt ≤ _; rw [q_l0]; omega)]
  unfold f_X12_gcd
  rw [bd2 (sz a ha), bd2 (sz b hb)]
  obtain ⟨r, er, hr⟩ := q_while (f_X12_gcd_L12 P) (fun s => ∃ x y, s = (l_n x, l_n y, σ) ∧ x < 10000 ∧ y < 10000 ∧ Nat.gcd x y = Nat.gcd a b) (fun r => r = (l_n (Nat.gcd a b), σ)) (fun s => s.2.1.toInt.toNat)
    (by
      rintro s ⟨x, y, rfl, hx, hy, hg⟩
      show (∃ t', f_X12_gcd_B12 P (l_n x) (l_n y) σ = _ ∧ _) ∨ (∃ r, f_X12_gcd_B12 P (l_n x) (l_n y) σ = _ ∧ _)
      unfold f_X12_gcd_B12
      by_cases c : y = 0
      · subst c
        rw [if_pos (show lg_cmp (l_n 0) 0 = 0 from q_cmp0.mpr rfl)]
        refine Or.inr ⟨_, rfl, ?_⟩
        rw [← hg, Nat.gcd_zero_right]
      · rw [if_neg (fun z => l_nne (by omega) (by omega) (q_cmp0.mp z)), k_mmL (by omega) (by omega) (by omega), bds]
        have hm := Nat.mod_lt x (show 0 < y by omega)
        refine Or.inl ⟨_, rfl, ⟨y, x % y, rfl, hy, by omega, ?_⟩, ?_⟩
        · rw [← hg, Nat.gcd_comm x y, Nat.gcd_rec y x, Nat.gcd_comm]
        · show (l_n (x % y)).toInt.toNat < (l_n y).toInt.toNat
          rw [l_nT (by omega), l_nT (by omega)]; omega)
    10000 (l_n a, l_n b, σ) (mpN P) (by show (l_n b).toInt.toNat ≤ 10000; rw [l_nT (by omega)]; omega) ⟨a, b, rfl, ha, hb, rfl⟩ (by omega)
  rw [bd er, hr]
end HNS
