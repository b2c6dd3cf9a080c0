/-! ===== kc: kinds: the reference's rows ===== -/
section KCS
variable {P : mx_P} {σ τ : mx_S} {n k a b i j c u x r m v : Nat} {l : List Nat}
def RW (m n : Nat) (l : List Nat) (σ : mx_S) : Prop := l.length = n ∧ (∀ i, i < n → mxI σ (m + 64) i = q_n (kqa l i)) ∧ ∀ i, i < n → kqa l i < n
def SRW (m : Nat) (q _j : Nat) : Prop := q = m + 64
theorem kqx_b (h : ∀ i, i < n → kqa l i < n) (hl : l.length = n) (ha : a < n) (hb : b < n) : ∀ i, i < n → kqa (kqx l a b) i < n := fun i hi => by
  rw [kqx_a (by omega) (by omega)]
  split
  · exact h a ha
  · split
    · exact h b hb
    · exact h i hi
theorem RW_x (hM : LyM σ m) (hb : mpb P ≤ m) (h7 : n < 7) (h : RW m n l σ) (ha : a < n) (hbn : b < n) : ms_I P σ (m + 64) 0 (q_n a) (q_n (kqa l b)) = some (mx_setI σ (m + 64) a (q_n (kqa l b))) ∧ ms_I P (mx_setI σ (m + 64) a (q_n (kqa l b))) (m + 64) 0 (q_n b) (q_n (kqa l a)) = some (mx_setI (mx_setI σ (m + 64) a (q_n (kqa l b))) (m + 64) b (q_n (kqa l a))) ∧ RW m n (kqx l a b) (mx_setI (mx_setI σ (m + 64) a (q_n (kqa l b))) (m + 64) b (q_n (kqa l a))) := by
  have k1 : LyM (mx_setI σ (m + 64) a (q_n (kqa l b))) m := hM
  refine ⟨am_s94 hM hb (by omega) _, am_s94 k1 hb (by omega) _, kqx_l.trans h.1, fun i hi => ?_, kqx_b h.2.2 h.1 ha hbn⟩
  have hl := h.1
  rw [kqx_a (by omega) (by omega)]
  by_cases e : i = b
  · rw [if_pos e, e, sI_e]
  · rw [if_neg e, sI_n (by omega)]
    by_cases e' : i = a
    · rw [if_pos e', e', sI_e]
    · rw [if_neg e', sI_n (by omega)]; exact h.2.1 i hi
theorem RW_g (hM : LyM σ m) (h7 : n < 7) (h : RW m n l σ) (hi : i < n) : ma_I σ (m + 64) 0 (q_n i) = some (q_n (kqa l i)) := by
  rw [am_g94 hM (by omega), h.2.1 i hi]
theorem r_ni (hM : LyM σ m) (h7 : n < 7) (h : RW m n l σ) (N : Int32) (i : Nat) : ∀ fu, i < n → i < fu → mx_lp (f_X12_nextRow_L4 P m N) fu (q_n i - 1, σ) = some (q_n (kqNi l i) - 1, σ) := by
  induction i with
  | zero =>
    intro fu _ hf
    refine lp_out ?_ hf
    show f_X12_nextRow_B4 P m N (q_n 0 - 1) σ = _
    unfold f_X12_nextRow_B4
    rw [if_pos (show q_n 0 - 1 < 0 by decide)]; rfl
  | succ i ih =>
    intro fu hi hf
    have hb := h.2.2
    have ei : q_n (i + 1) - 1 = q_n i := nsub (a := i + 1) (b := 1) (by omega) (by omega)
    have b1 := hb i (by omega)
    have b2 := hb (i + 1) hi
    have pre : f_X12_nextRow_L4 P m N (q_n i, σ) = (if q_n (kqa l i) ≤ q_n (kqa l (i + 1)) then some (.inr (q_n i, σ)) else some (.inl (q_n i - 1, σ))) := by
      show f_X12_nextRow_B4 P m N (q_n i) σ = _
      unfold f_X12_nextRow_B4
      rw [if_neg (fun z => by have := (q_nLt (l := 0) (by omega) (by omega)).mp z; omega), bd (am_r94 hM), bd (RW_g hM h7 h (by omega)), bd (am_r94 hM), q_nS, bd (RW_g hM h7 h hi), Option.bind_some, kx_m1]
    rw [ei]
    by_cases e : kqa l (i + 1) < kqa l i
    · have e2 : Nat.blt (kqa l (i + 1)) (kqa l i) = true := by simpa using e
      rw [if_neg (fun z => by have := (q_nLe (by omega) (by omega)).mp z; omega)] at pre
      rw [mx_lp_s pre (by omega), ih (fu - 1) (by omega) (by omega)]
      show _ = some (q_n (bif Nat.blt (kqa l (i + 1)) (kqa l i) then kqNi l i else i + 1) - 1, σ)
      rw [e2]; rfl
    · have e2 : Nat.blt (kqa l (i + 1)) (kqa l i) = false := by
        cases z : Nat.blt (kqa l (i + 1)) (kqa l i) with
        | false => rfl
        | true => exact absurd (by simpa using z) e
      rw [if_pos ((q_nLe (by omega) (by omega)).mpr (by omega))] at pre
      rw [lp_out pre (by omega)]
      show _ = some (q_n (bif Nat.blt (kqa l (i + 1)) (kqa l i) then kqNi l i else i + 1) - 1, σ)
      rw [e2, cond_false, ei]
theorem kqNi_p : ∀ i, kqNi l i ≤ i ∧ (kqNi l i ≠ 0 → ¬ kqa l (kqNi l i) < kqa l (kqNi l i - 1))
  | 0 => ⟨Nat.le_refl _, fun z => absurd rfl z⟩
  | i + 1 => by
    have ih := kqNi_p i
    show (bif Nat.blt (kqa l (i + 1)) (kqa l i) then kqNi l i else i + 1) ≤ i + 1 ∧ ((bif Nat.blt (kqa l (i + 1)) (kqa l i) then kqNi l i else i + 1) ≠ 0 → ¬ kqa l (bif Nat.blt (kqa l (i + 1)) (kqa l i) then kqNi l i else i + 1) < kqa l ((bif Nat.blt (kqa l (i + 1)) (kqa l i) then kqNi l i else i + 1) - 1))
    cases z : Nat.blt (kqa l (i + 1)) (kqa l i) with
    | true => rw [cond_true]; exact ⟨by omega, ih.2⟩
    | false =>
      rw [cond_false]
      refine ⟨Nat.le_refl _, fun _ y => ?_⟩
      rw [Nat.add_sub_cancel] at y
      have : Nat.blt (kqa l (i + 1)) (kqa l i) = true := by simpa using y
      rw [this] at z; exact absurd z (by decide)
theorem r_nj {j0 : Nat} (hM : LyM σ m) (h7 : n < 7) (h : RW m n l σ) (N : Int32) (hi : i < n) (h0 : 1 ≤ j0) (hj0 : ¬ kqa l j0 < kqa l i) (j : Nat) : ∀ fu, j < n → j0 ≤ j → j < fu → mx_lp (f_X12_nextRow_L41 P m N (q_n i)) fu (q_n j, σ) = some (q_n (kqNj l (kqa l i) j), σ) ∧ j0 ≤ kqNj l (kqa l i) j ∧ kqNj l (kqa l i) j ≤ j := by
  induction j with
  | zero => intro fu _ z; omega
  | succ j ih =>
    intro fu hj hz hf
    have b1 := h.2.2 i hi
    have b2 := h.2.2 (j + 1) hj
    have pre : f_X12_nextRow_L41 P m N (q_n i) (q_n (j + 1), σ) = (if q_n (kqa l i) ≤ q_n (kqa l (j + 1)) then some (.inr (q_n (j + 1), σ)) else some (.inl (q_n (j + 1) - 1, σ))) := by
      show f_X12_nextRow_B41 P m N (q_n i) (q_n (j + 1)) σ = _
      unfold f_X12_nextRow_B41
      rw [bd (am_r94 hM), bd (RW_g hM h7 h hj), bd (am_r94 hM), bd (RW_g hM h7 h hi), Option.bind_some, kx_m1]
    have un : kqNj l (kqa l i) (j + 1) = bif Nat.blt (kqa l (j + 1)) (kqa l i) then kqNj l (kqa l i) j else j + 1 := rfl
    by_cases e : kqa l (j + 1) < kqa l i
    · have e2 : Nat.blt (kqa l (j + 1)) (kqa l i) = true := by simpa using e
      rw [e2, cond_true] at un
      rw [if_neg (fun z => by have := (q_nLe (by omega) (by omega)).mp z; omega), show q_n (j + 1) - 1 = q_n j from nsub (a := j + 1) (b := 1) (by omega) (by omega)] at pre
      have ne : j0 ≠ j + 1 := fun z => hj0 (by rw [z]; exact e)
      obtain ⟨y1, y2, y3⟩ := ih (fu - 1) (by omega) (by omega) (by omega)
      rw [mx_lp_s pre (by omega), un]
      exact ⟨y1, y2, by omega⟩
    · have e2 : Nat.blt (kqa l (j + 1)) (kqa l i) = false := by
        cases z : Nat.blt (kqa l (j + 1)) (kqa l i) with
        | false => rfl
        | true => exact absurd (by simpa using z) e
      rw [e2, cond_false] at un
      rw [if_pos ((q_nLe (by omega) (by omega)).mpr (by omega))] at pre
      rw [lp_out pre (by omega), un]
      exact ⟨rfl, hz, Nat.le_refl _⟩
theorem r_rev (hb : mpb P ≤ m) (h7 : n < 7) (k : Nat) : ∀ (l : List Nat) (a b : Nat) (σ : mx_S) (fu : Nat), LyM σ m → RW m n l σ → b < n → b ≤ a + k → a + k < 1000 → k < fu → ∃ σ', mx_lp (f_X12_nextRow_L100 P m) fu (q_n a, q_n b, σ) = some σ' ∧ RW m n (kqV k l a b) σ' ∧ Fz (SRW m) σ σ' := by
  have ex : ∀ (a b : Nat) (σ : mx_S), a < 1000 → b < 1000 → b ≤ a → f_X12_nextRow_L100 P m (q_n a, q_n b, σ) = some (.inr σ) := fun a b σ ha hb' hab => by
    show f_X12_nextRow_B100 P m (q_n a) (q_n b) σ = _
    unfold f_X12_nextRow_B100
    rw [if_pos ((q_nLe (by omega) (by omega)).mpr hab)]
  induction k with
  | zero =>
    intro l a b σ fu hM h hbn hab ha hf
    exact ⟨σ, lp_out (ex a b σ (by omega) (by omega) (by omega)) (by omega), h, Fz.rf⟩
  | succ k ih =>
    intro l a b σ fu hM h hbn hab hak hf
    have un : kqV (k + 1) l a b = bif Nat.blt a b then kqV k (kqx l a b) (a + 1) (b - 1) else l := rfl
    by_cases e : a < b
    · have e2 : Nat.blt a b = true := by simpa using e
      rw [e2, cond_true] at un
      obtain ⟨s1, s2, s3⟩ := RW_x hM hb h7 h (show a < n by omega) hbn
      have pre : f_X12_nextRow_L100 P m (q_n a, q_n b, σ) = some (.inl (q_n (a + 1), q_n (b - 1), mx_setI (mx_setI σ (m + 64) a (q_n (kqa l b))) (m + 64) b (q_n (kqa l a)))) := by
        show f_X12_nextRow_B100 P m (q_n a) (q_n b) σ = _
        unfold f_X12_nextRow_B100
        rw [if_neg (fun z => by have := (q_nLe (by omega) (by omega)).mp z; omega), bd (am_r94 hM), bd (RW_g hM h7 h (by omega)), bd (am_r94 hM), bd (am_r94 hM), bd (RW_g hM h7 h hbn), bd s1]
        have k1 : LyM (mx_setI σ (m + 64) a (q_n (kqa l b))) m := hM
        rw [bd (am_r94 k1), bd s2, Option.bind_some, Option.bind_some, q_nS, kx_m1, show q_n b - 1 = q_n (b - 1) from nsub (b := 1) (by omega) (by omega)]
      have k2 : LyM (mx_setI (mx_setI σ (m + 64) a (q_n (kqa l b))) (m + 64) b (q_n (kqa l a))) m := hM
      obtain ⟨σ', e3, h3, f3⟩ := ih (kqx l a b) (a + 1) (b - 1) _ (fu - 1) k2 s3 (by omega) (by omega) (by omega) (by omega)
      rw [mx_lp_s pre (by omega), un]
      exact ⟨σ', e3, h3, ((Fz.rf.sI (show SRW m (m + 64) _ from rfl) _).sI (show SRW m (m + 64) _ from rfl) _).tr f3⟩
    · have e2 : Nat.blt a b = false := by
        cases z : Nat.blt a b with
        | false => rfl
        | true => exact absurd (by simpa using z) e
      rw [e2, cond_false] at un
      rw [un]
      exact ⟨σ, lp_out (ex a b σ (by omega) (by omega) (by omega)) (by omega), h, Fz.rf⟩
theorem r_nxt (hM : LyM σ m) (hb : mpb P ≤ m) (h7 : n < 7) (h3 : 3 ≤ n) (hN : 100 < mpN P) (h : RW m n l σ) : (kqNi l (n - 1) = 0 ∧ f_X12_nextRow P m (q_n n) σ = some (0, σ)) ∨ (kqNi l (n - 1) ≠ 0 ∧ ∃ σ', f_X12_nextRow P m (q_n n) σ = some (1, σ') ∧ RW m n (kqN n l) σ' ∧ Fz (SRW m) σ σ') := by
  have e0 : q_n n - (2 : Int32) = q_n (n - 1) - 1 := by
    rw [show q_n (n - 1) - 1 = q_n (n - 1 - 1) from nsub (b := 1) (by omega) (by omega)]
    exact (nsub (b := 2) (by omega) (by omega)).trans (congrArg q_n (by omega))
  have e1 := r_ni (P := P) hM h7 h (q_n n) (n - 1) (mpN P) (by omega) (by omega)
  have pre : f_X12_nextRow P m (q_n n) σ = f_X12_nextRow_D31 P m (q_n n) (q_n (kqNi l (n - 1)) - 1) σ := by
    unfold f_X12_nextRow
    rw [Option.bind_some, e0, bd e1]
  obtain ⟨p1, p2⟩ := kqNi_p (l := l) (n - 1)
  by_cases z : kqNi l (n - 1) = 0
  · left
    refine ⟨z, ?_⟩
    rw [pre, z]
    unfold f_X12_nextRow_D31
    rw [if_neg (show ¬ 0 ≤ q_n 0 - 1 by decide)]
    rfl
  · right
    refine ⟨z, ?_⟩
    obtain ⟨i, hi⟩ : ∃ i, kqNi l (n - 1) = i + 1 := ⟨kqNi l (n - 1) - 1, by omega⟩
    have p2 := p2 z
    rw [hi, Nat.add_sub_cancel] at p2
    obtain ⟨y1, y2, y3⟩ := r_nj (P := P) hM h7 h (q_n n) (show i < n by omega) (show 1 ≤ i + 1 by omega) p2 (n - 1) (mpN P) (by omega) (by omega) (by omega)
    obtain ⟨s1, s2, s3⟩ := RW_x (P := P) hM hb h7 h (show i < n by omega) (show kqNj l (kqa l i) (n - 1) < n by omega)
    have k1 : LyM (mx_setI σ (m + 64) i (q_n (kqa l (kqNj l (kqa l i) (n - 1))))) m := hM
    have k2 : LyM (mx_setI (mx_setI σ (m + 64) i (q_n (kqa l (kqNj l (kqa l i) (n - 1))))) (m + 64) (kqNj l (kqa l i) (n - 1)) (q_n (kqa l i))) m := hM
    obtain ⟨σ', e5, h5, f5⟩ := r_rev (P := P) hb h7 n _ (i + 1) (n - 1) _ (mpN P) k2 s3 (by omega) (by omega) (by omega) (by omega)
    refine ⟨σ', ?_, ?_, ((Fz.rf.sI (show SRW m (m + 64) _ from rfl) _).sI (show SRW m (m + 64) _ from rfl) _).tr f5⟩
    · rw [pre, hi, show q_n (i + 1) - 1 = q_n i from nsub (a := i + 1) (b := 1) (by omega) (by omega)]
      unfold f_X12_nextRow_D31
      rw [if_pos (show (0 : Int32) ≤ q_n i from (q_nLe (k := 0) (by omega) (by omega)).mpr (by omega)), Option.bind_some, show q_n n - 1 = q_n (n - 1) from nsub (b := 1) (by omega) (by omega), bd y1]
      dsimp only
      rw [bd (am_r94 hM), bd (RW_g hM h7 h (by omega)), bd (am_r94 hM), bd (am_r94 hM), bd (RW_g hM h7 h (by omega)), bd s1, bd (am_r94 k1), bd s2, Option.bind_some, Option.bind_some, q_nS, bd e5]
      rfl
    · unfold kqN
      rw [hi, Nat.add_sub_cancel]
      exact h5
/-- the code that a row gives -/
theorem kq_half (M : Nat) : M >>> i = 2 * (M >>> (i + 1)) + (M.testBit i).toNat := by
  rw [Nat.toNat_testBit, Nat.shiftRight_eq_div_pow, Nat.shiftRight_eq_div_pow, Nat.pow_succ, ← Nat.div_div_eq_div_mul]
  omega
theorem r_is (hM : LyM σ m) (h7 : n < 7) (h3 : 3 ≤ n) (hN : 100 < mpN P) (hR : RC m n c 0 σ) (h : RW m n l σ) (hP : kqP n l) (C : Int32) : mx_lp (f_X12_isGreatest_L32 P m (q_n n) C) (mpN P) ((0 : Int32), (0 : Int32), σ) = some (q_n (kqp n c l), σ) := by
  have t0 := kq_t3 n h7 h3
  have inner : ∀ a, a < n → mx_lp (f_X12_isGreatest_L44 P m (q_n n) C (q_n a)) (mpN P) (q_n ((kqp n c l) >>> kqu n a (a + 1)), q_n (a + 1), σ) = some (q_n ((kqp n c l) >>> kqu n a n), σ) := fun a ha => by
    refine lpT (fun k => (q_n ((kqp n c l) >>> kqu n a (a + 1 + k)), q_n (a + 1 + k), σ)) (n - (a + 1)) (fun k hk => ?_) ?_ (by omega)
    · obtain ⟨b, hb⟩ : ∃ b, a + 1 + k = b := ⟨_, rfl⟩
      have hbn : b < n := by omega
      obtain ⟨t5, t6⟩ := kq_t5 n h7 a (by omega) b (by omega) ⟨h3, by omega, hbn⟩
      rw [show a + 1 + (k + 1) = b + 1 by omega, hb]
      show f_X12_isGreatest_B44 P m (q_n n) C (q_n a) (q_n ((kqp n c l) >>> kqu n a b)) (q_n b) σ = _
      unfold f_X12_isGreatest_B44
      have ne : kqa l a ≠ kqa l b := fun z => by have := kqP_inj hP ha hbn z; omega
      have eb : (kqp n c l).testBit (kqb n a b) = kqe n c (kqa l a) (kqa l b) := by
        rw [← kqp_e h7 h3 hP ha hbn, kqe_t (by omega)]
      have hh := kq_half (i := kqb n a b) (kqp n c l)
      rw [t6, eb] at hh
      rw [show kqu n a (b + 1) = kqb n a b by omega, hh]
      have D : ∀ w w' : Int32, f_X12_isGreatest_D85_44 P m (q_n n) C (q_n a) (q_n b) w w' σ = some (.inl (w' + w, q_n (b + 1), σ)) := fun w w' => by
        unfold f_X12_isGreatest_D85_44; rw [Option.bind_some, Option.bind_some, q_nS]
      have d2 : (2 : Int32) * q_n ((kqp n c l) >>> kqu n a b) = q_n (2 * ((kqp n c l) >>> kqu n a b)) := (Int32.ofNat_mul 2 _).symm
      rw [if_neg (qn_ge hbn (by omega)), bd (am_r93 hM), bd (am_r94 hM), bd (RW_g hM h7 h ha), bd (am_r94 hM), bd (RW_g hM h7 h hbn), bd (RC_0 (v := 0) hR hM h7 (kqP_lt hP ha) (kqP_lt hP hbn) ne), d2]
      cases g : kqe n c (kqa l a) (kqa l b) with
      | true => rw [if_neg (show ¬ q_n true.toNat = 0 by decide), D]; exact congrArg (fun z => some (Sum.inl (z, q_n (b + 1), σ))) (q_nS _)
      | false =>
        rw [if_pos (show q_n false.toNat = 0 by decide), D]
        exact congrArg (fun z => some (Sum.inl (z, q_n (b + 1), σ))) (kx_ad _ 0)
    · rw [show a + 1 + (n - (a + 1)) = n by omega]
      show f_X12_isGreatest_B44 P m (q_n n) C (q_n a) (q_n _) (q_n n) σ = _
      unfold f_X12_isGreatest_B44
      rw [if_pos ((q_nLe (by omega) (by omega)).mpr (Nat.le_refl _))]
  have st : (kqp n c l) >>> kqu n 0 1 = 0 := by
    rw [t0.2, Nat.shiftRight_eq_div_pow]; exact Nat.div_eq_of_lt kqp_lt
  have fin := lpT (b := f_X12_isGreatest_L32 P m (q_n n) C) (r := (q_n (kqp n c l), σ)) (fu := mpN P) (fun a => (q_n ((kqp n c l) >>> kqu n a (a + 1)), q_n a, σ)) n (fun a ha => by
      show f_X12_isGreatest_B32 P m (q_n n) C (q_n _) (q_n a) σ = _
      unfold f_X12_isGreatest_B32
      rw [if_neg (qn_ge ha (by omega)), Option.bind_some, q_nS, bd (inner a ha)]
      dsimp only
      rw [Option.bind_some, kq_t4 n h7 a (by omega) ⟨h3, ha⟩]) (by
      show f_X12_isGreatest_B32 P m (q_n n) C (q_n _) (q_n n) σ = _
      unfold f_X12_isGreatest_B32
      rw [if_pos ((q_nLe (by omega) (by omega)).mpr (Nat.le_refl _)), kqu_z n h7 h3, Nat.shiftRight_zero]) (by omega)
  rw [st] at fin
  exact fin
end KCS
