/-! ===== kz: cam, the class's outcome ===== -/
section KZS
variable {P : mx_P} {σ σ0 σ1 σ2 τ : mx_S} {x m n t l p a N i k j u c f s b K : Nat} {bl : List Nat} {S : Nat → Nat → Prop} {e : Option Nat}
theorem cm_no (h : cmLs bl N K = none) : ∀ u, u < K → cmK bl N u = none := fun u hu => by
  induction K with
  | zero => omega
  | succ K ih =>
    have h' : (match cmLs bl N K with | some z => some z | none => cmK bl N K) = none := h
    cases hz : cmLs bl N K with
    | some z => rw [hz] at h'; exact absurd h' (by simp)
    | none =>
      rw [hz] at h'
      by_cases eu : u = K
      · rw [eu]; exact h'
      · exact ih hz (by omega)
theorem cm_K (h : cmK bl N u = none) : u < 30 ∧ cRg bl N u 0 = true ∧ (cfF bl N u ≠ 0 → cRg bl N u 1 = true ∧ cRg bl N u 2 = true) := by
  unfold cmK at h
  by_cases u30 : 30 ≤ u
  · rw [if_pos u30] at h; exact absurd h (by simp)
  · rw [if_neg u30] at h
    cases h0 : cRg bl N u 0 with
    | false => rw [if_pos h0] at h; exact absurd h (by simp)
    | true =>
      rw [if_neg (by rw [h0]; decide)] at h
      refine ⟨by omega, rfl, fun f0 => ?_⟩
      rw [if_neg f0] at h
      cases h1 : cRg bl N u 1 with
      | false => rw [if_pos h1] at h; exact absurd h (by simp)
      | true =>
        rw [if_neg (by rw [h1]; decide)] at h
        cases h2 : cRg bl N u 2 with
        | false => rw [if_pos h2] at h; exact absurd h (by simp)
        | true => exact ⟨rfl, rfl⟩
theorem cm_P (h256 : ∀ b, b ∈ bl → b < 256) (hX : ∀ j, j < K → ∃ k n, StO bl N 1 (sqA bl N 1 j) k n) (h : cmLs bl N K = none) : CmP K (cmW' bl N) (cfF bl N) (cmL' bl N) (cmT' bl N) (cmB' bl N) := by
  have no := cm_no h
  refine ⟨?_, fun u hu => ?_⟩
  · rcases Nat.eq_zero_or_pos K with z | z
    · omega
    · have := (cm_K (no (K - 1) (by omega))).1; omega
  · obtain ⟨u30, r0, r12⟩ := cm_K (no u hu)
    obtain ⟨k, n, hO⟩ := hX u hu
    obtain ⟨f3, ek, en, hpt⟩ := cO_f hO
    have n1 : 1 ≤ n := by rw [en]; unfold cgn; split <;> omega
    obtain ⟨-, g2, g3, -⟩ := cg_ok r0 (hpt 0 (by omega)).1 (Or.inl rfl)
    rw [if_pos rfl] at g3
    refine ⟨g2, g3, by omega, fun f0 => ?_⟩
    have en3 : n = 3 := by rw [en]; unfold cgn; rw [if_neg f0]
    obtain ⟨-, l2, l3, -⟩ := cg_ok (r12 f0).2 (hpt 2 (by omega)).1 (Or.inr rfl)
    rw [if_neg (by omega)] at l3
    obtain ⟨t1, t2⟩ := cg_r (r12 f0).1
    have bp := nmB_p (hpt 1 (by omega)).1
    have bl2 : nmB bl (nmD bl (cKt bl N u 1)) < 10000 := nmB_lt h256 _
    have gp := gc_pos (c := tpA bl (cKt bl N u 1)) (d := (nmB bl (nmD bl (cKt bl N u 1)) : Int)) (by omega)
    have m1 := dvm gp (gc_l (c := tpA bl (cKt bl N u 1)) (d := (nmB bl (nmD bl (cKt bl N u 1)) : Int)))
    have m2 := dvm gp (gc_r (c := tpA bl (cKt bl N u 1)) (d := (nmB bl (nmD bl (cKt bl N u 1)) : Int)))
    have d1 := dvp gp (gc_l (c := tpA bl (cKt bl N u 1)) (d := (nmB bl (nmD bl (cKt bl N u 1)) : Int))) (by omega)
    have d2 := dvp gp (gc_r (c := tpA bl (cKt bl N u 1)) (d := (nmB bl (nmD bl (cKt bl N u 1)) : Int))) (by omega)
    have d3 := dvb gp (gc_r (c := tpA bl (cKt bl N u 1)) (d := (nmB bl (nmD bl (cKt bl N u 1)) : Int)))
    refine ⟨l2, l3, d1, ?_, d2, ?_, lw_1 (by omega)⟩
    · show tpA bl (cKt bl N u 1) / (gcI (tpA bl (cKt bl N u 1)) (nmB bl (nmD bl (cKt bl N u 1))) : Int) ≤ 60 * ((nmB bl (nmD bl (cKt bl N u 1)) : Int) / (gcI (tpA bl (cKt bl N u 1)) (nmB bl (nmD bl (cKt bl N u 1))) : Int))
      generalize tpA bl (cKt bl N u 1) / (gcI (tpA bl (cKt bl N u 1)) (nmB bl (nmD bl (cKt bl N u 1))) : Int) = A at *
      generalize (nmB bl (nmD bl (cKt bl N u 1)) : Int) / (gcI (tpA bl (cKt bl N u 1)) (nmB bl (nmD bl (cKt bl N u 1))) : Int) = D at *
      generalize gcI (tpA bl (cKt bl N u 1)) (nmB bl (nmD bl (cKt bl N u 1))) = G at *
      apply Int.le_of_mul_le_mul_right (a := (G : Int)) _ (by omega)
      rw [m1, Int.mul_assoc, m2]
      exact t2
    · show (nmB bl (nmD bl (cKt bl N u 1)) : Int) / (gcI (tpA bl (cKt bl N u 1)) (nmB bl (nmD bl (cKt bl N u 1))) : Int) ≤ 9999
      omega
/-- what the sums of a text's statements say -/
def smT (bl : List Nat) (N K : Nat) : Nat := smC K (cmW' bl N) (cfF bl N) (cmT' bl N) (cmB' bl N)
def ciF (c t q j : Nat) : Prop := (q = t ∧ (2 ≤ j ∧ j ≤ 12 ∨ j = 19)) ∨ (t + 2 ≤ q ∧ q ≤ t + 7) ∨ (c ≤ q ∧ q ≤ c + 7)
/-- what comes of a cam's text -/
def OutK (bl : List Nat) (N K : Nat) (e : Option Nat) (c t : Nat) (r : Int32) (τ : mx_S) : Prop :=
  (∃ q, e = some q ∧ r = 0 ∧ mxI τ t 2 = 1 ∧ mxI τ t 3 = q_n q) ∨
  (∃ cq, e = none ∧ cmLs bl N K = some cq ∧ r = 0 ∧ mxI τ t 2 = q_n cq.1 ∧ mxI τ t 3 = q_n cq.2) ∨
  (e = none ∧ cmLs bl N K = none ∧ r = (if smT bl N K = 0 then 1 else 0) ∧ mxI τ t 2 = q_n (smT bl N K) ∧ mxI τ t 3 = q_n (if smT bl N K = 0 then 0 else bl.length) ∧ CmC τ c K (cmW' bl N) (cfF bl N) (cmL' bl N) (cmT' bl N) (cmB' bl N))
theorem cmK_56 {cq : Nat × Nat} (h : cmK bl N u = some cq) : cq.1 = 5 ∨ cq.1 = 6 := by
  unfold cmK at h
  split at h
  · obtain rfl := Option.some.inj h; exact Or.inr rfl
  · split at h
    · obtain rfl := Option.some.inj h; exact Or.inl rfl
    · split at h
      · exact absurd h (by simp)
      · split at h
        · obtain rfl := Option.some.inj h; exact Or.inl rfl
        · split at h
          · obtain rfl := Option.some.inj h; exact Or.inl rfl
          · exact absurd h (by simp)
theorem cmLs_56 {cq : Nat × Nat} (h : cmLs bl N K = some cq) : cq.1 = 5 ∨ cq.1 = 6 := by
  induction K with
  | zero => exact absurd h (by unfold cmLs; simp)
  | succ K ih =>
    have h' : (match cmLs bl N K with | some z => some z | none => cmK bl N K) = some cq := h
    cases hz : cmLs bl N K with
    | some z => rw [hz] at h'; obtain rfl := Option.some.inj h'; exact ih hz
    | none => rw [hz] at h'; exact cmK_56 h'
theorem c_cmr (hN : N = 4000) (hf : 5000 ≤ mpN P) (hT : LyT σ t) (hbt : mpb P ≤ t) (hC : LyC (mxA σ) (mxR σ) c) (hct : t + 8 ≤ c) (hB : TC σ t bl) : ∃ K e r τ, Txt bl N 1 K e ∧ f_X1_isRead P c t σ = some (r, τ) ∧ Fz (ciF c t) σ τ ∧ OutK bl N K e c t r τ := by
  have h256 : ∀ b, b ∈ bl → b < 256 := fun b hb => by
    obtain ⟨k, hk⟩ := List.getElem?_of_mem hb
    exact (hB.2.2 k b hk).1
  have hz1 : ∀ σ, mr_Z 1 σ = some (1, σ) := fun σ => if_pos (Or.inr rfl)
  have hz0 : ∀ σ, mr_Z 0 σ = some (0, σ) := fun σ => if_pos (Or.inl rfl)
  obtain ⟨σ1, e1⟩ : ∃ σ1, σ1 = mx_setI σ c 0 0 := ⟨_, rfl⟩
  have f1 : Fz (ciF c t) σ σ1 := by rw [e1]; exact Fz.rf.sI (Or.inr (Or.inr (by omega))) _
  have T1 := f1.T hT
  have C1 := f1.C hC
  have B1 : TC σ1 t bl := TC_cg hB (f1.gi (fun z => by unfold ciF at z; omega)) (fun q => f1.gi (fun z => by unfold ciF at z; omega))
  obtain ⟨K, e, σ2, hTx, e2, g4, g0, g1, -, f2⟩ := c_gram (P := P) (i := 1) hN (by omega) hf T1 hbt B1
  have f2' : Fz (ciF c t) σ σ2 := f1.tr (f2.mo fun q j z => by unfold gmS at z; unfold ciF; omega)
  have T2 := f2'.T hT
  have C2 := f2'.C hC
  have B2 : TC σ2 t bl := TC_cg hB (f2'.gi (fun z => by unfold ciF at z; omega)) (fun q => f2'.gi (fun z => by unfold ciF at z; omega))
  have hC0 : mxI σ2 c 0 = 0 := by rw [f2.gi (fun z => by unfold gmS at z; omega), e1, sI_e]
  have hsq := sqA_b hTx.1
  have hK3 : K < 3000 := by have := hsq K (Nat.le_refl _); have := hB.1; omega
  have stop : ∀ (k : Nat) (τ : mx_S), k < 4000 → f_X1_isRead_L14 P c t ((0 : Int32), q_n k, τ) = some (.inr τ) := fun k τ hk => by
    show f_X1_isRead_B14 P c t 0 (q_n k) τ = _
    unfold f_X1_isRead_B14
    rw [if_neg (by rw [show (4000 : Int32) = q_n 4000 from rfl, q_nLe (by omega) (by omega)]; omega), if_pos rfl]
  have un : f_X1_isRead P c t σ = (mx_lp (f_X1_isRead_L14 P c t) (mpN P) (bI e.isNone, (0 : Int32), σ2)).bind (fun s => f_X1_isRead_D55 P c t s) := by
    unfold f_X1_isRead
    rw [bd (ac_pI hC (by omega) _), ← e1, bd (at_is T1), bd2 e2]
  cases e with
  | some q =>
    have gq := g1 q rfl
    refine ⟨K, some q, 0, σ2, hTx, ?_, f2', Or.inl ⟨q, rfl, rfl, gq.1, gq.2⟩⟩
    rw [un, show bI (some q).isNone = (0 : Int32) from rfl, bd (lp_out (show f_X1_isRead_L14 P c t ((0 : Int32), (0 : Int32), σ2) = some (.inr σ2) from stop 0 σ2 (by omega)) (show 0 < mpN P by omega))]
    unfold f_X1_isRead_D55 f_X1_isRead_D67 f_X1_isRead_D79
    rw [bd (at_gI T2), gq.1, if_neg (by decide), bd (at_gI T2), gq.1, if_neg (by decide), hz0]
  | none =>
    have g00 := g0 rfl
    obtain ⟨τ, eL, FL, hL⟩ := q_for (f_X1_isRead_L14 P c t)
      (fun u s => (∃ τ, s = ((1 : Int32), q_n u, τ) ∧ u ≤ K ∧ cmLs bl N u = none ∧ u ≤ 30 ∧ Fz (ciF c t) σ τ ∧ mxI τ t 4 = q_n (sqA bl N 1 u) ∧ (mxI τ t 2 = 0 ∧ mxI τ t 3 = 0) ∧ CmC τ c u (cmW' bl N) (cfF bl N) (cmL' bl N) (cmT' bl N) (cmB' bl N)) ∨
        ∃ k τ, s = ((0 : Int32), q_n k, τ) ∧ k < 3900 ∧ Fz (ciF c t) σ τ ∧ ((cmLs bl N K = none ∧ (mxI τ t 2 = 0 ∧ mxI τ t 3 = 0) ∧ CmC τ c K (cmW' bl N) (cfF bl N) (cmL' bl N) (cmT' bl N) (cmB' bl N)) ∨ (∃ cq : Nat × Nat, cmLs bl N K = some cq ∧ mxI τ t 2 = q_n cq.1 ∧ mxI τ t 3 = q_n cq.2)))
      (fun τ => Fz (ciF c t) σ τ ∧ ((cmLs bl N K = none ∧ (mxI τ t 2 = 0 ∧ mxI τ t 3 = 0) ∧ CmC τ c K (cmW' bl N) (cfF bl N) (cmL' bl N) (cmT' bl N) (cmB' bl N)) ∨ (∃ cq : Nat × Nat, cmLs bl N K = some cq ∧ mxI τ t 2 = q_n cq.1 ∧ mxI τ t 3 = q_n cq.2))) 3001
      (by
        rintro u s hu3 (⟨τ, rfl, huK, hls, hu30, fz, i4, i2, icm⟩ | ⟨k, τ, rfl, hk, fz, hh⟩)
        · have hTτ := fz.T hT
          have hCτ := fz.C hC
          have hBτ : TC τ t bl := TC_cg hB (fz.gi (fun z => by unfold ciF at z; omega)) (fun q => fz.gi (fun z => by unfold ciF at z; omega))
          obtain ⟨r, τ1, e1, hr⟩ := c_stm (P := P) (i := 1) hN (by omega) hf hTτ hbt hBτ i4 (hsq u huK).2
          left
          have hBb : f_X1_isRead_L14 P c t ((1 : Int32), q_n u, τ) = (if r = 0 then f_X1_isRead_D47_14 P c t (q_n u) τ1 else (mx_is τ1 c 1).bind fun i18 => mx_b2 (f_X1_isTaken P c t (q_n u) τ1) fun x21 σ20 => (if x21 = 0 then f_X1_isRead_D47_14 P c t (q_n u) σ20 else f_X1_isRead_D48_14 P c t (q_n u) (1 : Int32) σ20)) := by
            show f_X1_isRead_B14 P c t 1 (q_n u) τ = _
            unfold f_X1_isRead_B14
            rw [if_neg (by rw [show (4000 : Int32) = q_n 4000 from rfl, q_nLe (by omega) (by omega)]; omega), if_neg zi10, bd (at_is hTτ), bd2 e1]
          rw [hBb]
          have d47 : ∀ σ', f_X1_isRead_D47_14 P c t (q_n u) σ' = some (.inl ((0 : Int32), q_n (u + 1), σ')) := fun σ' => by
            unfold f_X1_isRead_D47_14 f_X1_isRead_D48_14
            rw [Option.bind_some, q_nS]
          have tl : ∀ {σ'}, Fz (hsS t) τ σ' → (mxI σ' t 2 = 0 ∧ mxI σ' t 3 = 0) ∧ Fz (ciF c t) σ σ' ∧ CmC σ' c u (cmW' bl N) (cfF bl N) (cmL' bl N) (cmT' bl N) (cmB' bl N) := fun f => ⟨⟨(f.gi (fun z => by unfold hsS at z; omega)).trans i2.1, (f.gi (fun z => by unfold hsS at z; omega)).trans i2.2⟩, fz.tr (f.mo fun q j z => by unfold hsS at z; unfold ciF; omega), icm.fz f fun q j y => by unfold hsS at y; omega⟩
          rcases hr with ⟨hEn, rfl, f⟩ | ⟨q, hFa, rfl, f, hn⟩ | ⟨k, n, hO, rfl, f, a4, a10, a11, a12, aP⟩
          · have eK : u = K := by
              rcases Nat.lt_or_ge u K with z | z
              · obtain ⟨k', n', ho⟩ := hTx.1 u z
                exact absurd hEn (StO_E ho)
              · omega
            subst eK
            obtain ⟨t1, t2, t3⟩ := tl f
            rw [if_pos rfl, d47]
            exact ⟨_, rfl, Or.inr ⟨u + 1, τ1, rfl, by omega, t2, Or.inl ⟨hls, t1, t3⟩⟩⟩
          · exfalso
            rcases Nat.lt_or_ge u K with z | z
            · obtain ⟨k', n', ho⟩ := hTx.1 u z
              exact StO_F ho hFa
            · have eK : u = K := by omega
              subst eK
              exact StE_F hTx.2 hFa
          · have huK' : u < K := by
              rcases Nat.lt_or_ge u K with z | z
              · exact z
              · have eK : u = K := by omega
                subst eK
                exact absurd hTx.2 (StO_E hO)
            obtain ⟨t1, t2, t3⟩ := tl f
            obtain ⟨r', τ2, e2', F2', hr'⟩ := c_tkn (P := P) hf h256 (t2.T hT) hbt (t2.C hC) hct t1 hO a10 a11 a12 aP (by omega) t3
            rw [if_neg zi10, bd (ac_is (t2.C hC)), bd2 e2']
            have F3 : Fz (ciF c t) σ τ2 := t2.tr (F2'.mo fun q j z => by unfold ctF at z; unfold ciF; omega)
            have us : cmLs bl N (u + 1) = cmK bl N u := by
              show (match cmLs bl N u with | some z => some z | none => cmK bl N u) = _
              rw [hls]
            rcases hr' with ⟨rfl, cq, k1, k2, k3⟩ | ⟨rfl, u30, k1, k2, k3⟩
            · rw [if_pos rfl, d47]
              refine ⟨_, rfl, Or.inr ⟨u + 1, τ2, rfl, by omega, F3, Or.inr ⟨cq, ?_, k2, k3⟩⟩⟩
              have := cmLs_up (d := K - (u + 1)) (us.trans k1)
              rw [show u + 1 + (K - (u + 1)) = K by omega] at this
              exact this
            · rw [if_neg zi10]
              unfold f_X1_isRead_D48_14
              rw [Option.bind_some, q_nS]
              refine ⟨_, rfl, Or.inl ⟨τ2, rfl, by omega, us.trans k1, by omega, F3, ?_, k2, k3⟩⟩
              rw [F2'.gi (fun z => by unfold ctF at z; omega), a4]
              show _ = q_n (nxA bl N 1 (sqA bl N 1 u))
              rw [nxA_e hO]
        · right
          exact ⟨τ, stop k τ (by omega), fz, hh⟩)
      (by
        rintro s (⟨τ, rfl, huK, -⟩ | ⟨k, τ, rfl, hk, fz, hh⟩)
        · omega
        · exact ⟨τ, stop k τ (by omega), fz, hh⟩)
      3001 0 ((1 : Int32), (0 : Int32), σ2) (mpN P) (by omega) (Or.inl ⟨σ2, rfl, by omega, rfl, by omega, f2', g4, g00, hC0, fun i hi => by omega⟩) (by omega)
    have TL := FL.T hT
    have CL := FL.C hC
    rw [un, show bI (none : Option Nat).isNone = (1 : Int32) from rfl, bd eL]
    rcases hL with ⟨l1, l2, l3⟩ | ⟨cq, l1, l2, l3⟩
    · have hP := cm_P h256 hTx.1 l1
      have bln : mxI τ t 1 = q_n bl.length := by rw [FL.gi (fun z => by unfold ciF at z; omega)]; exact hB.2.1
      obtain ⟨τ2, e3, f3, m2, m3⟩ := c_sms (P := P) hf TL hbt CL hct hP l3 l2 bln
      have F3 : Fz (ciF c t) σ τ2 := FL.tr (f3.mo fun q j z => by unfold csF at z; unfold ciF; omega)
      have T3 := F3.T hT
      refine ⟨K, none, (if smT bl N K = 0 then 1 else 0), τ2, hTx, ?_, F3, Or.inr (Or.inr ⟨rfl, l1, rfl, m2, m3, l3.fz f3 fun q j y => by unfold csF at y; omega⟩)⟩
      unfold f_X1_isRead_D55
      rw [bd (at_gI TL), l2.1, if_pos rfl, bd (ac_is CL), bd e3]
      unfold f_X1_isRead_D67 f_X1_isRead_D79
      rw [bd (at_gI T3), m2]
      have s8 : smC K (cmW' bl N) (cfF bl N) (cmT' bl N) (cmB' bl N) ≤ 8 := by
        unfold smC
        split
        · omega
        · split
          · omega
          · split <;> omega
      have s8' : smT bl N K ≤ 8 := s8
      by_cases z : smT bl N K = 0
      · rw [if_pos z, if_pos (show q_n (smC K (cmW' bl N) (cfF bl N) (cmT' bl N) (cmB' bl N)) = 0 by rw [show smC K (cmW' bl N) (cfF bl N) (cmT' bl N) (cmB' bl N) = 0 from z]; rfl), hz1]
      · rw [if_neg z, if_neg (show ¬ q_n (smC K (cmW' bl N) (cfF bl N) (cmT' bl N) (cmB' bl N)) = 0 from fun y => z ((q_nI (l := 0) (by omega) (by omega)).mp y)), hz0]
    · have h56 := cmLs_56 l1
      have hn : ¬ mxI τ t 2 = 0 := by rw [l2]; exact fun y => by have := (q_nI (k := cq.1) (l := 0) (by omega) (by omega)).mp y; omega
      refine ⟨K, none, 0, τ, hTx, ?_, FL, Or.inr (Or.inl ⟨cq, rfl, l1, rfl, l2, l3⟩)⟩
      unfold f_X1_isRead_D55 f_X1_isRead_D67 f_X1_isRead_D79
      rw [bd (at_gI TL), if_neg hn, bd (at_gI TL), if_neg hn, hz0]
end KZS
