/-! ===== ky: cam, the class reads ===== -/
section KYS
variable {P : mx_P} {σ σ0 σ1 σ2 τ : mx_S} {x m n t l p a N i k j u c f s b : Nat} {bl : List Nat} {S : Nat → Nat → Prop} {W K L : Nat → Nat} {T B : Nat → Int}
theorem fq_pos {p q c d : Int} (hq : 1 ≤ q) (hd : 1 ≤ d) : (0 ≤ p → 1 ≤ c → 0 < fqx p q c d / (gcI (fqx p q c d) (fqz q d) : Int)) ∧ (p ≤ 0 → c ≤ -1 → fqx p q c d / (gcI (fqx p q c d) (fqz q d) : Int) < 0) := by
  have g := gc_pos (c := q) (d := d) (by omega)
  have p1 := dvp g (gc_r (c := q) (d := d)) hd
  have p2 := dvp g (gc_l (c := q) (d := d)) hq
  have zp := fq_zp hq hd
  have g2 := gc_pos (c := fqx p q c d) (d := fqz q d) (by omega)
  have s := dvsg g2 (gc_l (c := fqx p q c d) (d := fqz q d))
  constructor
  · intro hp hc
    rw [← s.1]
    unfold fqx
    have a1 := Int.mul_nonneg hp (show 0 ≤ d / (gcI q d : Int) by omega)
    have a2 := Int.mul_pos (show 0 < c by omega) (show 0 < q / (gcI q d : Int) by omega)
    omega
  · intro hp hc
    rw [← s.2]
    unfold fqx
    have a1 := Int.mul_nonneg (show 0 ≤ -p by omega) (show 0 ≤ d / (gcI q d : Int) by omega)
    have a2 := Int.mul_pos (show 0 < -c by omega) (show 0 < q / (gcI q d : Int) by omega)
    rw [Int.neg_mul] at a1 a2
    omega
theorem li_sg (ho : CmP n W K L T B) : ((∀ j, j < n → K j = 1) → ∀ k, k ≤ n → ∀ z, liP K T B k = some z → 0 ≤ z.1 ∧ (0 < k → 0 < z.1)) ∧ ((∀ j, j < n → K j = 2) → ∀ k, k ≤ n → ∀ z, liP K T B k = some z → z.1 ≤ 0 ∧ (0 < k → z.1 < 0)) := by
  have st : ∀ k, k < n → K k ≠ 0 → ∀ z, liP K T B (k + 1) = some z → ∃ y, liP K T B k = some y ∧ 1 ≤ y.2 ∧ z.1 = fqx y.1 y.2 (cmT K T k) (B k) / (gcI (fqx y.1 y.2 (cmT K T k) (B k)) (fqz y.2 (B k)) : Int) := fun k hk k0 z hz => by
    have hz' : (if K k = 0 then liP K T B k else fadd (liP K T B k) (cmT K T k) (B k)) = some z := hz
    rw [if_neg k0] at hz'
    have ok := OKf_lp ho (show k ≤ n by omega)
    cases hy : liP K T B k with
    | none => rw [hy] at hz'; exact absurd hz' (by unfold fadd; simp)
    | some y =>
      rw [hy] at hz' ok
      unfold fadd at hz'
      rw [Option.bind_some] at hz'
      split at hz'
      · obtain rfl := Option.some.inj hz'
        exact ⟨y, rfl, (ok y rfl).1, rfl⟩
      · exact absurd hz' (by simp)
  constructor
  · intro h k
    induction k with
    | zero => intro _ z hz; obtain rfl := Option.some.inj hz; exact ⟨by show (0 : Int) ≤ 0; omega, fun z => by omega⟩
    | succ k ih =>
      intro hk z hz
      obtain ⟨y, e1, e2, e3⟩ := st k (by omega) (by rw [h k (by omega)]; decide) z hz
      have o := (ho.2 k (by omega)).2.2.2 (by rw [h k (by omega)]; decide)
      have := (fq_pos (p := y.1) (c := cmT K T k) e2 o.2.2.2.2.1).1 (ih (by omega) y e1).1 (by unfold cmT; rw [if_neg (by rw [h k (by omega)]; decide)]; exact o.2.2.1)
      rw [e3]
      exact ⟨by omega, fun _ => this⟩
  · intro h k
    induction k with
    | zero => intro _ z hz; obtain rfl := Option.some.inj hz; exact ⟨by show (0 : Int) ≤ 0; omega, fun z => by omega⟩
    | succ k ih =>
      intro hk z hz
      obtain ⟨y, e1, e2, e3⟩ := st k (by omega) (by rw [h k (by omega)]; decide) z hz
      have o := (ho.2 k (by omega)).2.2.2 (by rw [h k (by omega)]; decide)
      have := (fq_pos (p := y.1) (c := cmT K T k) e2 o.2.2.2.2.1).2 (ih (by omega) y e1).1 (by unfold cmT; rw [if_pos (h k (by omega))]; have := o.2.2.1; omega)
      rw [e3]
      exact ⟨by omega, fun _ => this⟩
/-- what is wrong with the sums: 0 nothing -/
def smC (n : Nat) (W K : Nat → Nat) (T B : Nat → Int) : Nat := if kqs n W ≠ 360 then 7 else match liP K T B n with
  | none => 8
  | some z => if z.1 = 0 then 0 else 8
theorem CmO_of (ho : CmP n W K L T B) (h : smC n W K T B = 0) : CmO n W K L T B := by
  refine ⟨ho.1, ho.2, ?_⟩
  by_cases n0 : n = 0
  · exact Or.inl n0
  · right
    unfold smC at h
    split at h
    · omega
    · rename_i k360
      have k360' : kqs n W = 360 := Classical.byContradiction k360
      cases hz : liP K T B n with
      | none => rw [hz] at h; exact absurd h (by decide)
      | some z =>
        rw [hz] at h
        have z0 : z.1 = 0 := by
          dsimp only at h
          split at h
          · assumption
          · omega
        have sg := li_sg ho
        refine ⟨k360', ?_, ?_⟩
        · apply Classical.byContradiction
          intro y
          have := (sg.1 (fun j hj => Classical.byContradiction fun w => y ⟨j, hj, w⟩) n (Nat.le_refl _) z hz).2 (by omega)
          omega
        · apply Classical.byContradiction
          intro y
          have := (sg.2 (fun j hj => Classical.byContradiction fun w => y ⟨j, hj, w⟩) n (Nat.le_refl _) z hz).2 (by omega)
          omega
def csF (c t q j : Nat) : Prop := (q = t ∧ (j = 2 ∨ j = 3)) ∨ (q = c + 7 ∧ j ≤ 2)
theorem kqs_b (ho : CmP n W K L T B) (hk : k ≤ n) : kqs k W ≤ 360 * k := by
  induction k with
  | zero => exact Nat.le_refl _
  | succ k ih =>
    have := (ho.2 k (by omega)).2.1
    have := ih (by omega)
    show kqs k W + W k ≤ _
    omega
theorem c_sms (hf : 5000 ≤ mpN P) (hT : LyT σ t) (hbt : mpb P ≤ t) (hC : LyC (mxA σ) (mxR σ) c) (hct : t + 8 ≤ c) (ho : CmP n W K L T B) (h : CmC σ c n W K L T B) (h2 : mxI σ t 2 = 0 ∧ mxI σ t 3 = 0) (h1 : mxI σ t 1 = q_n b) : ∃ τ, f_X1_checkSums P c t σ = some τ ∧ Fz (csF c t) σ τ ∧ mxI τ t 2 = q_n (smC n W K T B) ∧ mxI τ t 3 = q_n (if smC n W K T B = 0 then 0 else b) := by
  have n30 := ho.1
  obtain ⟨s0, e0, g0, f0⟩ := c_set1 (P := P) (u := 0) (p := 0) hf (LyC_a7 hC) (by omega) ⟨rfl, by decide⟩
  have cS : ∀ q j, (q = c + 7 ∧ j ≤ 2) → q < c ∨ c + 6 ≤ q := fun q j y => by omega
  obtain ⟨⟨r1, s⟩, e1, hr1, F, g⟩ := q_for (f_X1_checkSums_L13 P c t) (fun i v => v.1 = q_n (kqs i W) ∧ v.2.1 = q_n i ∧ Fz (fun q j => q = c + 7 ∧ j ≤ 2) σ v.2.2 ∧ FOc v.2.2 (c + 7) (liP K T B i)) (fun r => r.1 = q_n (kqs n W) ∧ Fz (fun q j => q = c + 7 ∧ j ≤ 2) σ r.2 ∧ FOc r.2 (c + 7) (liP K T B n)) n
    (by
      rintro i ⟨v2, v3, s⟩ hi ⟨i1, i2, F, g⟩
      dsimp only at i1 i2 F g
      subst i1 i2
      left
      have Cs := F.C hC
      have hs := h.fz F cS
      obtain ⟨s1, e1, f1, g1⟩ := c_wlS (P := P) (k := i) hf Cs (LyC_a7 Cs) (by omega) ho hs hi g
      show ∃ t', f_X1_checkSums_B13 P c t (q_n (kqs i W)) (q_n i) s = some (.inl t') ∧ _
      unfold f_X1_checkSums_B13
      rw [bd (ac_gI Cs), hs.1, if_neg (qn_ge hi (by omega)), bd (ac_r1 Cs), bd (ac_g1 Cs (by omega)), (hs.2 i hi).1, Option.bind_some, bd (ac_r7 Cs), bd (ac_is Cs), bd e1, Option.bind_some, q_nA, q_nS]
      exact ⟨_, rfl, rfl, rfl, F.tr f1, g1⟩)
    (by
      rintro ⟨v2, v3, s⟩ ⟨i1, i2, F, g⟩
      dsimp only at i1 i2 F g
      subst i1 i2
      have Cs := F.C hC
      have hs := h.fz F cS
      show ∃ r, f_X1_checkSums_B13 P c t (q_n (kqs n W)) (q_n n) s = some (.inr r) ∧ _
      unfold f_X1_checkSums_B13
      rw [bd (ac_gI Cs), hs.1, if_pos ((q_nLe (by omega) (by omega)).mpr (Nat.le_refl _))]
      exact ⟨_, rfl, rfl, F, g⟩)
    n 0 ((0 : Int32), (0 : Int32), s0) (mpN P) (by omega) ⟨rfl, rfl, f0, g0⟩ (by omega)
  dsimp only at hr1 F g
  subst hr1
  have Cs := F.C hC
  have Ts := F.T hT
  have FS : Fz (csF c t) σ s := F.mo fun q j y => Or.inr y
  have k2 : ∀ j, mxI s t j = mxI σ t j := fun j => F.gi (by omega)
  have note : ∀ a : Nat, smC n W K T B = a → 0 < a → ∃ τ, f_X10_note P t (q_n a) (q_n b) s = some τ ∧ Fz (csF c t) σ τ ∧ mxI τ t 2 = q_n (smC n W K T B) ∧ mxI τ t 3 = q_n (if smC n W K T B = 0 then 0 else b) := fun a ea ha => by
    obtain ⟨τ, e, hn, f⟩ := c_note (P := P) (w := q_n a) (pos := q_n b) Ts hbt
    have := hn.1 (by rw [k2]; exact h2.1)
    exact ⟨τ, e, FS.tr (f.mo fun q j y => Or.inl y), by rw [ea]; exact this.1, by rw [ea, if_neg (by omega)]; exact this.2⟩
  have kb := kqs_b ho (Nat.le_refl n)
  unfold f_X1_checkSums
  rw [bd (ac_r7 hC), bd (q_is (LyC_a7 hC)), bd e0, bd e1]
  show ∃ τ, (if q_n (kqs n W) = (360 : Int32) then (mg_R s c 1 7).bind fun b29 => (mg_I s b29 3 2).bind fun x31 => (if x31 = 0 then (mg_R s c 1 7).bind fun b40 => (mg_L s b40 3 0).bind fun x42 => (if (lg_cmp x42 (0 : Int64)) = 0 then f_X1_checkSums_D97 P s else f_X1_checkSums_D87 P t s) else f_X1_checkSums_D87 P t s) else (mg_I s t 10 1).bind fun x45 => (mx_is s t 10).bind fun i47 => (f_X10_note P t (7 : Int32) x45 s).bind fun σ49 => f_X1_checkSums_D97 P σ49) = some τ ∧ _
  have D87 : smC n W K T B = 8 → ∃ τ, f_X1_checkSums_D87 P t s = some τ ∧ Fz (csF c t) σ τ ∧ mxI τ t 2 = q_n (smC n W K T B) ∧ mxI τ t 3 = q_n (if smC n W K T B = 0 then 0 else b) := fun e8 => by
    obtain ⟨τ, e, y⟩ := note 8 e8 (by omega)
    refine ⟨τ, ?_, y⟩
    unfold f_X1_checkSums_D87 f_X1_checkSums_D97
    rw [bd (at_gI Ts), k2, h1, bd (at_is Ts), show (8 : Int32) = q_n 8 from rfl, bd e]
  by_cases z : kqs n W = 360
  · rw [if_pos (by rw [z]; rfl), bd (ac_r7 Cs), bd (q_gI (LyC_a7 Cs))]
    have un : smC n W K T B = match liP K T B n with | none => 8 | some z => if z.1 = 0 then 0 else 8 := by
      unfold smC; rw [if_neg (fun y => y z)]
    cases hz : liP K T B n with
    | none =>
      rw [hz] at g un
      rw [if_neg (by rw [g.2.2.2]; decide)]
      exact D87 un
    | some y =>
      rw [hz] at g un
      dsimp only at un
      rw [if_pos g.2.2.2.1, bd (ac_r7 Cs), bd (q_gL (LyC_a7 Cs))]
      by_cases y0 : y.1 = 0
      · rw [if_pos (q_cmp0.mpr (Int64.toInt.inj (by rw [g.2.2.2.2.1, y0]; rfl)))]
        rw [if_pos y0] at un
        refine ⟨s, rfl, FS, ?_, ?_⟩
        · rw [k2, un]; exact h2.1
        · rw [k2, un, if_pos rfl]; exact h2.2
      · rw [if_neg (fun w => y0 (by rw [← g.2.2.2.2.1, q_cmp0.mp w]; rfl))]
        rw [if_neg y0] at un
        exact D87 un
  · rw [if_neg (show ¬ q_n (kqs n W) = (360 : Int32) from fun y => z ((q_nI (l := 360) (by omega) (by omega)).mp y))]
    obtain ⟨τ, e, y⟩ := note 7 (by unfold smC; rw [if_pos z]) (by omega)
    refine ⟨τ, ?_, y⟩
    unfold f_X1_checkSums_D97
    rw [bd (at_gI Ts), k2, h1, bd (at_is Ts), show (7 : Int32) = q_n 7 from rfl, bd e]
end KYS
