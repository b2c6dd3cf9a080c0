/-! ===== ka: kinds: the reference reads a code ===== -/
section KAS
variable {P : mx_P} {σ τ : mx_S} {n k a b i j c u x r m v : Nat} {l : List Nat}
/-- the joints of bits from u on -/
def RC (m n c u : Nat) (σ : mx_S) : Prop := ∀ a b, a < n → b < n → a ≠ b → u ≤ kqb n a b → mxI σ (m + 63) (6 * a + b) = q_n (kqe n c a b).toNat
def SRC (m : Nat) (q _j : Nat) : Prop := q = m + 63
theorem r_rci (hM : LyM σ m) (hb : mpb P ≤ m) (h7 : n < 7) (h3 : 3 ≤ n) (hN : 20 < mpN P) (ha : a < n) (hI : RC m n c (kqu n a (a + 1)) σ) : ∃ σ', mx_lp (f_X12_readCode_L25 P m (q_n n) (q_n c) (q_n a)) (mpN P) (q_n (kqu n a (a + 1)) - 1, q_n (a + 1), σ) = some (q_n (kqu n a n) - 1, σ') ∧ RC m n c (kqu n a n) σ' ∧ Fz (SRC m) σ σ' := by
  obtain ⟨r, e, h1, h2, h3'⟩ := q_for (f_X12_readCode_L25 P m (q_n n) (q_n c) (q_n a)) (fun b t => t.1 = q_n (kqu n a b) - 1 ∧ t.2.1 = q_n b ∧ RC m n c (kqu n a b) t.2.2 ∧ Fz (SRC m) σ t.2.2 ∧ a < b) (fun r => r.1 = q_n (kqu n a n) - 1 ∧ RC m n c (kqu n a n) r.2 ∧ Fz (SRC m) σ r.2) n
    (by
      rintro b ⟨v1, v3, τ⟩ hbn ⟨i1, i2, i3, i4, hab⟩
      dsimp only at i1 i2 i3 i4 hab
      subst i1 i2
      obtain ⟨t5, t6⟩ := kq_t5 n h7 a (by omega) b (by omega) ⟨h3, hab, hbn⟩
      obtain ⟨t1, tsy, -, -⟩ := kq_t1 n h7 h3 a ha b hbn (by omega)
      have t0 := (kq_t3 n h7 h3).1
      have ei : q_n (kqu n a b) - 1 = q_n (kqb n a b) := by
        rw [← t6]; exact nsub (b := 1) (by omega) (by omega)
      have eu : kqu n a (b + 1) = kqb n a b := by omega
      have k0 : LyM τ m := i4.M hM
      have ss : ∀ j, SRC m (m + 63) j := fun _ => rfl
      have D : ∀ w : Int32, vp_nar .boolean w = w → f_X12_readCode_D45_25 P m (q_n n) (q_n c) (q_n (kqb n a b)) (q_n a) (q_n b) w τ = some (.inl (q_n (kqb n a b) - 1, q_n (b + 1), mx_setI (mx_setI τ (m + 63) (6 * a + b) w) (m + 63) (6 * b + a) w)) := fun w hw => by
        unfold f_X12_readCode_D45_25
        rw [hw, bd (am_r93 k0), kx6', bd (am_s93 k0 hb (by omega) _)]
        have k1 : LyM (mx_setI τ (m + 63) (6 * a + b) w) m := k0
        rw [bd (am_r93 k1), kx6', bd (am_s93 k1 hb (by omega) _), Option.bind_some, Option.bind_some, q_nS, kx_m1]
      have main : f_X12_readCode_L25 P m (q_n n) (q_n c) (q_n a) (q_n (kqu n a b) - 1, q_n b, τ) = some (.inl (q_n (kqb n a b) - 1, q_n (b + 1), mx_setI (mx_setI τ (m + 63) (6 * a + b) (q_n (kqe n c a b).toNat)) (m + 63) (6 * b + a) (q_n (kqe n c a b).toNat))) := by
        show f_X12_readCode_B25 P m (q_n n) (q_n c) (q_n a) (q_n (kqu n a b) - 1) (q_n b) τ = _
        rw [ei]
        unfold f_X12_readCode_B25
        rw [if_neg (qn_ge hbn (by omega)), kqe_t (by omega)]
        cases e : c.testBit (kqb n a b) with
        | true => rw [if_pos ((kb_tn (by omega)).mpr e)]; exact D 1 rfl
        | false => rw [if_neg (fun z => by rw [(kb_tn (by omega)).mp z] at e; exact absurd e (by decide))]; exact D 0 rfl
      refine Or.inl ⟨_, main, ?_, rfl, ?_, (i4.sI (ss _) _).sI (ss _) _, by omega⟩
      · rw [eu]
      · dsimp only
        rw [eu]
        intro a' b' ha' hb' hne hle
        by_cases e1 : a' = b ∧ b' = a
        · rw [e1.1, e1.2, sI_e, kqe_sy h7 h3 hbn ha]
        · rw [sI_n (by omega)]
          by_cases e2 : a' = a ∧ b' = b
          · rw [e2.1, e2.2, sI_e]
          · rw [sI_n (by omega)]
            refine i3 a' b' ha' hb' hne ?_
            have : kqb n a' b' ≠ kqb n a b := fun z => by
              rcases kqb_inj h7 h3 ha' hb' ha hbn hne (by omega) z with z | z
              · exact e2 z
              · exact e1 z
            omega)
    (by
      rintro ⟨v1, v3, τ⟩ ⟨i1, i2, i3, i4, hab⟩
      dsimp only at i1 i2 i3 i4 hab
      subst i1 i2
      refine ⟨(q_n (kqu n a n) - 1, τ), ?_, rfl, i3, i4⟩
      show f_X12_readCode_B25 P m (q_n n) (q_n c) (q_n a) (q_n (kqu n a n) - 1) (q_n n) τ = _
      unfold f_X12_readCode_B25
      rw [if_pos ((q_nLe (by omega) (by omega)).mpr (Nat.le_refl _))])
    (n - (a + 1)) (a + 1) (q_n (kqu n a (a + 1)) - 1, q_n (a + 1), σ) (mpN P) (by omega) ⟨rfl, rfl, hI, Fz.rf, by omega⟩ (by omega)
  obtain ⟨r1, r2⟩ := r
  dsimp only at h1 h2 h3'
  subst h1
  exact ⟨r2, e, h2, h3'⟩
theorem r_rc (hM : LyM σ m) (hb : mpb P ≤ m) (h7 : n < 7) (h3 : 3 ≤ n) (hN : 20 < mpN P) (c : Nat) : ∃ σ', f_X12_readCode P m (q_n n) (q_n c) σ = some σ' ∧ RC m n c 0 σ' ∧ Fz (SRC m) σ σ' := by
  have ed : md_I (q_n n * (q_n n - 1)) (2 : Int32) = some (q_n (kqr n)) := by
    have : ∀ n : Fin 7, 3 ≤ n.1 → md_I (q_n n.1 * (q_n n.1 - 1)) (2 : Int32) = some (q_n (kqr n.1)) := by decide +kernel
    exact this ⟨n, h7⟩ h3
  have t0 := (kq_t3 n h7 h3)
  obtain ⟨r, e, h1, h2⟩ := q_for (f_X12_readCode_L13 P m (q_n n) (q_n c)) (fun a t => t.1 = q_n (kqu n a (a + 1)) - 1 ∧ t.2.1 = q_n a ∧ RC m n c (kqu n a (a + 1)) t.2.2 ∧ Fz (SRC m) σ t.2.2) (fun r => RC m n c 0 r ∧ Fz (SRC m) σ r) n
    (by
      rintro a ⟨v1, v2, τ⟩ han ⟨i1, i2, i3, i4⟩
      dsimp only at i1 i2 i3 i4
      subst i1 i2
      obtain ⟨τ', e, z1, z2⟩ := r_rci (i4.M hM) hb h7 h3 hN han i3
      have t4 := kq_t4 n h7 a (by omega) ⟨h3, han⟩
      refine Or.inl ⟨(q_n (kqu n (a + 1) (a + 1 + 1)) - 1, q_n (a + 1), τ'), ?_, rfl, rfl, ?_, i4.tr z2⟩
      · show f_X12_readCode_B13 P m (q_n n) (q_n c) (q_n (kqu n a (a + 1)) - 1) (q_n a) τ = _
        unfold f_X12_readCode_B13
        rw [if_neg (qn_ge han (by omega)), Option.bind_some, q_nS, bd e]
        dsimp only
        rw [Option.bind_some, t4]
      · rw [t4] at z1; exact z1)
    (by
      rintro ⟨v1, v2, τ⟩ ⟨i1, i2, i3, i4⟩
      dsimp only at i1 i2 i3 i4
      subst i1 i2
      rw [kqu_z n h7 h3] at i3
      refine ⟨τ, ?_, i3, i4⟩
      show f_X12_readCode_B13 P m (q_n n) (q_n c) _ (q_n n) τ = _
      unfold f_X12_readCode_B13
      rw [if_pos ((q_nLe (by omega) (by omega)).mpr (Nat.le_refl _))])
    n 0 (q_n (kqu n 0 1) - 1, q_n 0, σ) (mpN P) (by omega) ⟨rfl, rfl, fun a b h1 h2 h4 h5 => by
      rw [t0.2] at h5
      have := (kq_t1 n h7 h3 a h1 b h2 h4).1
      omega, Fz.rf⟩ (by omega)
  rw [t0.2] at e
  have e : mx_lp (f_X12_readCode_L13 P m (q_n n) (q_n c)) (mpN P) (q_n (kqr n) - 1, (0 : Int32), σ) = some r := e
  unfold f_X12_readCode
  rw [bd ed, Option.bind_some, bd e]
  exact ⟨r, rfl, h1, h2⟩
/-- counting every joint once -/
def kqo (n c : Nat) (S : Nat → Bool) : Nat := kqs n fun a => if S a then kqs a (fun b => (S b && kqe n c a b).toNat) else 0
theorem kqs_ad (f g : Nat → Nat) : kqs n (fun i => f i + g i) = kqs n f + kqs n g := by
  induction n with
  | zero => rfl
  | succ n ih =>
    show kqs n (fun i => f i + g i) + (f n + g n) = kqs n f + f n + (kqs n g + g n)
    rw [ih]; omega
theorem kqs_dd (g : Nat → Nat → Nat) (h0 : ∀ a, g a a = 0) (hs : ∀ a b, a < n → b < n → g a b = g b a) : kqs n (fun a => kqs n (g a)) = 2 * kqs n (fun a => kqs a (g a)) := by
  have h : ∀ m, m ≤ n → kqs m (fun a => kqs m (g a)) = 2 * kqs m (fun a => kqs a (g a)) := by
    intro m hm
    induction m with
    | zero => rfl
    | succ m ih =>
      have ih := ih (by omega)
      have e1 : kqs (m + 1) (fun a => kqs (m + 1) (g a)) = kqs m (fun a => kqs m (g a) + g a m) + (kqs m (g m) + g m m) := rfl
      have e2 : kqs (m + 1) (fun a => kqs a (g a)) = kqs m (fun a => kqs a (g a)) + kqs m (g m) := rfl
      have e3 : kqs m (fun a => g a m) = kqs m (g m) := kqs_cg fun a ha => hs a m (by omega) (by omega)
      rw [e1, e2, kqs_ad, e3, ih, h0]; omega
  exact h n (Nat.le_refl _)
theorem kqo_t (h7 : n < 7) (h3 : 3 ≤ n) (S : Nat → Bool) : kqt n c S = 2 * kqo n c S := by
  have h := kqs_dd (n := n) (fun a b => (S a && S b && kqe n c a b).toNat) (fun a => by rw [kqe_d, Bool.and_false]; rfl) (fun a b ha hb => by rw [kqe_sy h7 h3 ha hb, Bool.and_comm (S a)])
  have z : ∀ k a, kqs k (fun b => (S a && S b && kqe n c a b).toNat) = if S a then kqs k (fun b => (S b && kqe n c a b).toNat) else 0 := fun k a => by
    cases S a with
    | true => rw [if_pos rfl]; exact kqs_cg fun b _ => by rw [Bool.true_and]
    | false =>
      rw [if_neg (by decide)]
      induction k with
      | zero => rfl
      | succ k ih => show kqs k _ + _ = 0; rw [ih]; rfl
  unfold kqt kqo
  rw [← kqs_cg (n := n) fun a _ => z n a, h, kqs_cg (n := n) fun a _ => z a a]
end KAS
