/-! ===== kd: kinds: the reference's list ===== -/
section KDS
variable {P : mx_P} {σ τ : mx_S} {n k a b i j c u x r m v : Nat} {l : List Nat} {L : Nat → List Nat}
theorem RC_f (h : RC m n c u σ) (f : Fz (SRW m) σ τ) : RC m n c u τ := fun a b h1 h2 h4 h5 => by
  rw [f.gi (by unfold SRW; omega)]; exact h a b h1 h2 h4 h5
theorem r_grl (hb : mpb P ≤ m) (h7 : n < 7) (h3 : 3 ≤ n) (hN : 100 < mpN P) (hc : c < 32768) (ls : List (List Nat)) : kqck n ls = true → (∀ l, l ∈ ls → kqP n l) → ∀ (l0 : List Nat) (σ : mx_S) (fu : Nat), ls.head? = some l0 → LyM σ m → RC m n c 0 σ → RW m n l0 σ → ls.length < fu → ∃ σ', Fz (SRW m) σ σ' ∧ ((mx_lp (f_X12_isGreatest_L22 P m (q_n n) (q_n c)) fu ((1 : Int32), σ) = some (.inl σ') ∧ ∃ l, l ∈ ls ∧ ¬ kqp n c l ≤ c) ∨ (mx_lp (f_X12_isGreatest_L22 P m (q_n n) (q_n c)) fu ((1 : Int32), σ) = some (.inr σ') ∧ ∀ l, l ∈ ls → kqp n c l ≤ c)) := by
  have t0 := (kq_t3 n h7 h3).1
  have p15 : 2 ^ kqr n ≤ 2 ^ 15 := Nat.pow_le_pow_right (by omega) t0
  induction ls with
  | nil => intro z; exact absurd z (by unfold kqck; decide)
  | cons l ls ih =>
    intro hk hP l0 σ fu hh hM hR hW hf
    have el : l0 = l := by simpa using hh.symm
    subst el
    have hPl := hP l0 (List.mem_cons_self ..)
    have lt : kqp n c l0 < 2 ^ kqr n := kqp_lt
    have pre : f_X12_isGreatest_L22 P m (q_n n) (q_n c) ((1 : Int32), σ) = (if q_n (kqp n c l0) ≤ q_n c then (mx_is σ m 12).bind fun i44 => mx_b2 (f_X12_nextRow P m (q_n n) σ) fun x47 σ46 => some (.inl (x47, σ46)) else some (.inr (.inl σ))) := by
      show f_X12_isGreatest_B22 P m (q_n n) (q_n c) (1 : Int32) σ = _
      unfold f_X12_isGreatest_B22
      rw [if_neg (show ¬ (1 : Int32) = 0 by decide), bd (r_is (P := P) hM h7 h3 hN hR hW hPl (q_n c))]
    have hf' : ls.length + 1 < fu := hf
    by_cases g : kqp n c l0 ≤ c
    · rw [if_pos ((q_nLe (by omega) (by omega)).mpr g), bd (am_is hM)] at pre
      rcases r_nxt (P := P) hM hb h7 h3 hN hW with ⟨z, e⟩ | ⟨z, σ1, e, W1, f1⟩
      · rw [bd2 e] at pre
        have nil : ls = [] := by
          cases ls with
          | nil => rfl
          | cons l1 r =>
            have hk : (bif (kqNi l0 (n - 1) != 0 && kqN n l0 == l1) then kqck n (l1 :: r) else false) = true := hk
            rw [z] at hk
            simp at hk
        refine ⟨σ, Fz.rf, Or.inr ⟨?_, fun l hl => ?_⟩⟩
        · rw [mx_lp_s pre (by omega)]
          refine lp_out ?_ (by omega)
          show f_X12_isGreatest_B22 P m (q_n n) (q_n c) (0 : Int32) σ = _
          unfold f_X12_isGreatest_B22
          rw [if_pos rfl]
        · rw [nil] at hl
          rw [List.mem_singleton.mp hl]; exact g
      · rw [bd2 e] at pre
        cases ls with
        | nil =>
          have hk : (kqNi l0 (n - 1) == 0) = true := hk
          exact absurd (by simpa using hk) z
        | cons l1 r =>
          have hk : (bif (kqNi l0 (n - 1) != 0 && kqN n l0 == l1) then kqck n (l1 :: r) else false) = true := hk
          have hk2 : (kqNi l0 (n - 1) != 0 && kqN n l0 == l1) = true := by
            cases y : (kqNi l0 (n - 1) != 0 && kqN n l0 == l1) with
            | true => rfl
            | false => rw [y, cond_false] at hk; exact absurd hk (by decide)
          rw [hk2, cond_true] at hk
          rw [Bool.and_eq_true] at hk2
          have e1 : kqN n l0 = l1 := by simpa using hk2.2
          rw [e1] at W1
          obtain ⟨σ2, f2, h2⟩ := ih hk (fun l hl => hP l (List.mem_cons_of_mem _ hl)) l1 σ1 (fu - 1) rfl (f1.M hM) (RC_f hR f1) W1 (by omega)
          refine ⟨σ2, f1.tr f2, ?_⟩
          rw [mx_lp_s pre (by omega)]
          rcases h2 with ⟨y1, l, y2, y3⟩ | ⟨y1, y2⟩
          · exact Or.inl ⟨y1, l, List.mem_cons_of_mem _ y2, y3⟩
          · refine Or.inr ⟨y1, fun l hl => ?_⟩
            rcases List.mem_cons.mp hl with hl | hl
            · rw [hl]; exact g
            · exact y2 l hl
    · rw [if_neg (fun z => g ((q_nLe (by omega) (by omega)).mp z))] at pre
      exact ⟨σ, Fz.rf, Or.inl ⟨lp_out pre (by omega), l0, List.mem_cons_self .., g⟩⟩
theorem kqA_len : ∀ n, n < 7 → 3 ≤ n → (kqA n n).length ≤ 720 := by decide +kernel
theorem r_grt (hM : LyM σ m) (hb : mpb P ≤ m) (h7 : n < 7) (h3 : 3 ≤ n) (hN : 1000 < mpN P) (hc : c < 32768) (hR : RC m n c 0 σ) : ∃ v σ', f_X12_isGreatest P m (q_n n) (q_n c) σ = some (v, σ') ∧ ((v = 0 ∧ ¬ kqG n c) ∨ (v = 1 ∧ kqG n c)) ∧ Fz (SRW m) σ σ' := by
  have ss : ∀ j, SRW m (m + 64) j := fun _ => rfl
  obtain ⟨r, e1, h1, h2⟩ := q_for (f_X12_isGreatest_L2 P m (q_n n) (q_n c)) (fun k t => t.1 = q_n k ∧ (∀ i, i < k → mxI t.2 (m + 64) i = q_n i) ∧ Fz (SRW m) σ t.2) (fun r => (∀ i, i < n → mxI r (m + 64) i = q_n i) ∧ Fz (SRW m) σ r) n
    (by
      rintro k ⟨v, τ⟩ hk ⟨i1, i2, i3⟩
      dsimp only at i1 i2 i3
      subst i1
      have k0 := i3.M hM
      refine Or.inl ⟨(q_n (k + 1), mx_setI τ (m + 64) k (q_n k)), ?_, rfl, fun i hi => ?_, i3.sI (ss _) _⟩
      · show f_X12_isGreatest_B2 P m (q_n n) (q_n c) (q_n k) τ = _
        unfold f_X12_isGreatest_B2
        rw [if_neg (qn_ge hk (by omega)), bd (am_r94 k0), bd (am_s94 k0 hb (by omega) _), Option.bind_some, q_nS]
      · dsimp only
        by_cases e : i = k
        · subst e; exact sI_e
        · rw [sI_n (by omega)]; exact i2 i (by omega))
    (by
      rintro ⟨v, τ⟩ ⟨i1, i2, i3⟩
      dsimp only at i1 i2 i3
      subst i1
      refine ⟨τ, ?_, i2, i3⟩
      show f_X12_isGreatest_B2 P m (q_n n) (q_n c) (q_n n) τ = _
      unfold f_X12_isGreatest_B2
      rw [if_pos ((q_nLe (by omega) (by omega)).mpr (Nat.le_refl _))])
    n 0 ((0 : Int32), σ) (mpN P) (by omega) ⟨rfl, fun i hi => by omega, Fz.rf⟩ (by omega)
  have W : RW m n (List.range n) r := ⟨List.length_range, fun i hi => by rw [h1 i hi, kqa_r hi], fun i hi => by rw [kqa_r hi]; exact hi⟩
  have ln := kqA_len n h7 h3
  obtain ⟨σ', f3, hx⟩ := r_grl (P := P) (c := c) hb h7 h3 (by omega) hc (kqA n n) (kqck_a n h7 h3) (fun l hl => (kqA_iff h7 h3).mp hl) (List.range n) r (mpN P) (kqck_h n h7 h3) (h2.M hM) (RC_f hR h2) W (by omega)
  unfold f_X12_isGreatest
  rw [bd e1]
  dsimp only
  rcases hx with ⟨y1, l, y2, y3⟩ | ⟨y1, y2⟩
  · rw [bd y1]
    exact ⟨0, σ', rfl, Or.inl ⟨rfl, fun z => y3 (z l ((kqA_iff h7 h3).mp y2))⟩, h2.tr f3⟩
  · rw [bd y1]
    exact ⟨1, σ', rfl, Or.inr ⟨rfl, fun l hl => y2 l ((kqA_iff h7 h3).mpr hl)⟩, h2.tr f3⟩
def SRR (m : Nat) (q j : Nat) : Prop := (q = m ∧ j = 91) ∨ (m + 62 ≤ q ∧ q ≤ m + 64)
def KLr (m : Nat) (l : List Nat) (σ : mx_S) : Prop := mxI σ m 91 = q_n l.length ∧ ∀ k, k < l.length → mxI σ (m + 62) k = q_n (kqa l k)
theorem KLr_f (h : KLr m l σ) (g : ∀ q j, (q = m ∧ j = 91) ∨ q = m + 62 → mxI τ q j = mxI σ q j) : KLr m l τ := ⟨(g _ _ (by omega)).trans h.1, fun k hk => (g _ _ (by omega)).trans (h.2 k hk)⟩
theorem r_kls (hM : LyM σ m) (hb : mpb P ≤ m) (h7 : n < 7) (h3 : 3 ≤ n) (hN : 50000 < mpN P) (hj : j < 16) (h0 : L 0 = []) (hs : ∀ m, (kqK n j (2 ^ kqr n - 1 - m) → L (m + 1) = L m ++ [2 ^ kqr n - 1 - m]) ∧ (¬ kqK n j (2 ^ kqr n - 1 - m) → L (m + 1) = L m)) (hz : mxI σ m 91 = 0) : ∃ σ', mx_lp (f_X12_kinds_L61 P m (q_n n) (q_n j)) (mpN P) (q_n (2 ^ kqr n) - 1, σ) = some σ' ∧ KLr m (L (2 ^ kqr n)) σ' ∧ Fz (SRR m) σ σ' := by
  have t0 := (kq_t3 n h7 h3).1
  have p15 : 2 ^ kqr n ≤ 2 ^ 15 := Nat.pow_le_pow_right (by omega) t0
  have pp : 0 < 2 ^ kqr n := Nat.two_pow_pos _
  have pop : ∀ c τ, mx_lp (f_X12_kinds_L71 P m (q_n n) (q_n j) (q_n c)) (mpN P) ((0 : Int32), (0 : Int32), τ) = some (q_n (kqw c), τ) := fun c τ =>
    lpT (fun k => (q_n (kqs k (fun i => (c.testBit i).toNat)), q_n k, τ)) 15 (fun k hk => by
      show f_X12_kinds_B71 P m (q_n n) (q_n j) (q_n c) (q_n _) (q_n k) τ = _
      unfold f_X12_kinds_B71
      rw [if_neg (show ¬ (15 : Int32) ≤ q_n k from qn_ge (n := 15) hk (by omega)), kb_v (by omega), kx_ad, Option.bind_some, Option.bind_some, q_nS]
      rfl) (by
      show f_X12_kinds_B71 P m (q_n n) (q_n j) (q_n c) (q_n _) (q_n 15) τ = _
      unfold f_X12_kinds_B71
      rw [if_pos (show (15 : Int32) ≤ q_n 15 by decide)]
      rfl) (by omega)
  obtain ⟨r, e, h1, h2⟩ := q_for (f_X12_kinds_L61 P m (q_n n) (q_n j)) (fun d t => t.1 = q_n (2 ^ kqr n - d) - 1 ∧ KLr m (L d) t.2 ∧ Fz (SRR m) σ t.2) (fun r => KLr m (L (2 ^ kqr n)) r ∧ Fz (SRR m) σ r) (2 ^ kqr n)
    (by
      rintro d ⟨v, τ⟩ hd ⟨i1, iL, iF⟩
      dsimp only at i1 iL iF
      obtain ⟨c, hc⟩ : ∃ c, 2 ^ kqr n - 1 - d = c := ⟨_, rfl⟩
      have hs1 := hs d
      rw [hc] at hs1
      have i1 : v = q_n c := by rw [i1, ← hc]; exact (nsub (b := 1) (by omega) (by omega)).trans (congrArg q_n (by omega))
      subst i1
      have nx : q_n (2 ^ kqr n - (d + 1)) - 1 = q_n c + (-1 : Int32) := by rw [kx_m1, ← hc]; congr 2; omega
      have k0 := iF.M hM
      have Dd : ∀ τ', f_X12_kinds_D150_61 P m (q_n n) (q_n j) (q_n c) τ' = some (.inl (q_n (2 ^ kqr n - (d + 1)) - 1, τ')) := fun τ' => by
        unfold f_X12_kinds_D150_61
        rw [Option.bind_some, nx]
      have pre : f_X12_kinds_L61 P m (q_n n) (q_n j) (q_n c, τ) = f_X12_kinds_B61 P m (q_n n) (q_n j) (q_n c) τ := rfl
      unfold f_X12_kinds_B61 at pre
      have n0 : ¬ q_n c < 0 := fun z => by have := (q_nLt (l := 0) (by omega) (by omega)).mp z; omega
      have wl : kqw c ≤ 15 := kqk_le c.testBit
      rw [if_neg n0, bd (pop c τ)] at pre
      dsimp only at pre
      by_cases hw : kqw c = j
      · obtain ⟨τ1, e1, R1, f1⟩ := r_rc (P := P) k0 hb h7 h3 (by omega) c
        have f1' : Fz (SRR m) τ τ1 := f1.mo fun q j z => by unfold SRC at z; unfold SRR; omega
        have iL1 : KLr m (L d) τ1 := KLr_f iL fun q j z => f1.gi (by unfold SRC; omega)
        have iF1 := iF.tr f1'
        have k1 := iF1.M hM
        rw [if_pos (by rw [hw]), bd (am_is k0), bd e1, bd (am_is k1)] at pre
        rcases r_isc (P := P) k1 h7 h3 (by omega) R1 with ⟨e2, nC⟩ | ⟨e2, hC⟩
        · rw [bd2 e2, if_pos rfl, Dd] at pre
          have nK : ¬ kqK n j c := fun z => nC z.1
          rw [← hs1.2 nK] at iL1
          exact Or.inl ⟨_, pre, rfl, iL1, iF1⟩
        · obtain ⟨w, τ2, e3, hv, f3⟩ := r_grt (P := P) k1 hb h7 h3 (by omega) (show c < 32768 by omega) R1
          rw [bd2 e2, if_neg (show ¬ (1 : Int32) = 0 by decide), bd (am_is k1), bd2 e3] at pre
          have f3' : Fz (SRR m) τ1 τ2 := f3.mo fun q j z => by unfold SRW at z; unfold SRR; omega
          have iL2 : KLr m (L d) τ2 := KLr_f iL1 fun q j z => f3.gi (by unfold SRW; omega)
          have iF2 := iF1.tr f3'
          have k2 := iF2.M hM
          rcases hv with ⟨hv, nG⟩ | ⟨hv, hG⟩
          · rw [hv, if_pos rfl, Dd] at pre
            have nK : ¬ kqK n j c := fun z => nG z.2.2
            rw [← hs1.2 nK] at iL2
            exact Or.inl ⟨_, pre, rfl, iL2, iF2⟩
          · have hKK : kqK n j c := ⟨hC, hw, hG⟩
            have l156 := kqL_lt h7 h3 h0 hs hd (by rw [hc]; exact hKK)
            have eL := hs1.1 hKK
            rw [hv, if_neg (show ¬ (1 : Int32) = 0 by decide), bd (am_r92 k2), bd (am_gI k2), iL2.1, bd (am_s92 k2 hb (by omega) _)] at pre
            have k3 : LyM (mx_setI τ2 (m + 62) (L d).length (q_n c)) m := k2
            rw [bd (am_gI k3), sI_n (by omega), iL2.1, q_nS, bd (am_pI k3 hb _), Dd] at pre
            refine Or.inl ⟨_, pre, rfl, ?_, (iF2.sI (show SRR m (m + 62) _ by unfold SRR; omega) _).sI (show SRR m m 91 by unfold SRR; omega) _⟩
            dsimp only
            rw [eL]
            refine ⟨?_, fun k hk => ?_⟩
            · rw [sI_e, List.length_append]; rfl
            · rw [List.length_append] at hk
              have hk : k < (L d).length + 1 := hk
              rw [sI_n (by omega)]
              by_cases e : k = (L d).length
              · rw [e, sI_e, kqa_al]
              · rw [sI_n (by omega), kqa_ap (by omega)]; exact iL2.2 k (by omega)
      · rw [if_neg (fun z => hw ((q_nI (by omega) (by omega)).mp z)), Dd] at pre
        have nK : ¬ kqK n j c := fun z => hw z.2.1
        rw [← hs1.2 nK] at iL
        exact Or.inl ⟨_, pre, rfl, iL, iF⟩)
    (by
      rintro ⟨v, τ⟩ ⟨i1, iL, iF⟩
      dsimp only at i1 iL iF
      subst i1
      refine ⟨τ, ?_, iL, iF⟩
      show f_X12_kinds_B61 P m (q_n n) (q_n j) (q_n (2 ^ kqr n - 2 ^ kqr n) - 1) τ = _
      unfold f_X12_kinds_B61
      rw [Nat.sub_self, if_pos (show q_n 0 - 1 < 0 by decide)])
    (2 ^ kqr n) 0 (q_n (2 ^ kqr n - 0) - 1, σ) (mpN P) (by omega) ⟨rfl, by
      rw [h0]; exact ⟨hz, fun k hk => absurd hk (Nat.not_lt_zero k)⟩, Fz.rf⟩ (by omega)
  rw [Nat.sub_zero] at e
  exact ⟨r, e, h1, h2⟩
end KDS
