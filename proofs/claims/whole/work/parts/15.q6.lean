/-! ===== q6: constructors with loops ===== -/
section Q6
variable {P : mx_P} {σ σ1 σ2 : mx_S} {p : Nat}
theorem fill_ok {b n t s u ci k fu : Nat} {Q : mx_S → Nat → Prop} (body : Int32 × mx_S → Option ((Int32 × mx_S) ⊕ mx_S))
    (hloc : ∀ σ σ' a, (∀ q, a ≤ q → q < a + s → Sm σ σ' q) → Q σ a → Q σ' a)
    (hs : ∀ i τ, i < n → mxA τ b = some (.inr (t, n)) → mxA τ p = some (.inl ci) → mxR τ p k = some b → b < mxz τ → p < mxz τ → Rm P τ s u →
      ∃ τ', body (q_n i, τ) = some (.inl (q_n (i + 1), τ')) ∧ mxz τ' = mxz τ + s ∧ mxu τ' = mxu τ + u ∧ Pa b [i] τ τ' ∧ mxR τ' b i = some (mxz τ) ∧ Q τ' (mxz τ))
    (he : ∀ τ, body (q_n n, τ) = some (.inr τ)) (hA : mxA σ b = some (.inr (t, n))) (hp : mxA σ p = some (.inl ci)) (hR : mxR σ p k = some b) (hb : b < mxz σ) (hpz : p < mxz σ) (hpb : p ≠ b) (hr : Rm P σ (s * n) (u * n)) (hfu : n < fu) :
    ∃ σ', mx_lp body fu (0, σ) = some σ' ∧ mxz σ' = mxz σ + s * n ∧ mxu σ' = mxu σ + u * n ∧ Pa b (List.range n) σ σ' ∧ ∀ i, i < n → mxR σ' b i = some (mxz σ + s * i) ∧ Q σ' (mxz σ + s * i) := by
  refine q_for body (fun k' x => x.1 = q_n k' ∧ mxz x.2 = mxz σ + s * k' ∧ mxu x.2 = mxu σ + u * k' ∧ Pa b (List.range k') σ x.2 ∧ ∀ i, i < k' → mxR x.2 b i = some (mxz σ + s * i) ∧ Q x.2 (mxz σ + s * i))
    (fun σ' => mxz σ' = mxz σ + s * n ∧ mxu σ' = mxu σ + u * n ∧ Pa b (List.range n) σ σ' ∧ ∀ i, i < n → mxR σ' b i = some (mxz σ + s * i) ∧ Q σ' (mxz σ + s * i)) n ?_ ?_ n 0 (0, σ) fu (by omega) ?_ hfu
  · rintro i ⟨x, τ⟩ hi ⟨e1, e2, e3, e4, e5⟩
    dsimp only at e1 e2 e3 e4 e5
    subst e1
    have m1 : s * (i + 1) = s * i + s := Nat.mul_succ s i
    have m2 : u * (i + 1) = u * i + u := Nat.mul_succ u i
    have m3 : s * (i + 1) ≤ s * n := Nat.mul_le_mul_left s hi
    have m4 : u * (i + 1) ≤ u * n := Nat.mul_le_mul_left u hi
    obtain ⟨r1, r2⟩ := hr
    have hbA : mxA τ b = some (.inr (t, n)) := (e4.2.1 b hb).trans hA
    have hpp := e4.ap hpz hpb
    obtain ⟨τ', s1, s2, s3, s4, s5, s6⟩ := hs i τ hi hbA (hpp.1.trans hp) ((hpp.2 k).2.2.trans hR) (by omega) (by omega) ⟨by omega, by omega⟩
    refine Or.inl ⟨_, s1, rfl, by dsimp only; omega, by dsimp only; omega, ?_, fun j hj => ?_⟩
    · dsimp only; rw [List.range_succ]; exact e4.tr s4
    · dsimp only
      by_cases hji : j = i
      · subst hji
        rw [← e2]; exact ⟨s5, s6⟩
      · have hj : j < i := by omega
        have m5 : s * (j + 1) ≤ s * i := Nat.mul_le_mul_left s hj
        have m6 : s * (j + 1) = s * j + s := Nat.mul_succ s j
        refine ⟨(s4.2.2.2 b j (by omega) (Or.inr (by simp; exact hji))).trans (e5 j hj).1, hloc τ τ' _ (fun q h1 h2 => ?_) (e5 j hj).2⟩
        exact s4.ap (by omega) (by omega)
  · rintro ⟨x, τ⟩ ⟨e1, e2, e3, e4, e5⟩
    dsimp only at e1 e2 e3 e4 e5
    subst e1
    exact ⟨τ, he τ, e2, e3, e4, e5⟩
  · exact ⟨rfl, by show mxz σ = mxz σ + s * 0; omega, by show mxu σ = mxu σ + u * 0; omega, Pa.rf, fun i hi => absurd hi (Nat.not_lt_zero i)⟩
theorem q_sRn {a t n j ci x : Nat} (h : mxA σ a = some (.inr (t, n))) (hn : n ≤ 65536) (hj : j < n) (hb : mpb P ≤ a) (hx : mxA σ x = some (.inl ci)) : ms_R P σ a t (q_n j) ci x = some (mx_setR σ a j x) := by
  unfold ms_R
  rw [q_ix h (by rw [q_nT (by omega)]; omega) (by rw [q_nT (by omega)]; omega), q_nN (by omega)]
  exact if_pos ⟨hb, hx⟩
/-- a place of an array, filled with something new -/
theorem fill_step {B : q_B} {b t n i s u ci : Nat} {Q : mx_S → Nat → Prop} (hB : q_Ok P B s u Q) (hci : ∀ σ a, Q σ a → mxA σ a = some (.inl ci)) (hs : 0 < s) {τ : mx_S} (hi : i < n) (hn : n ≤ 65536) (hA : mxA τ b = some (.inr (t, n))) (hbz : b < mxz τ) (hbb : mpb P ≤ b) (hr : Rm P τ s u) :
    ∃ τ1 τ', B τ = some (mxz τ, τ1) ∧ ms_R P τ1 b t (q_n i) ci (mxz τ) = some τ' ∧ mxz τ' = mxz τ + s ∧ mxu τ' = mxu τ + u ∧ Pa b [i] τ τ' ∧ mxR τ' b i = some (mxz τ) ∧ Q τ' (mxz τ) := by
  obtain ⟨τ1, a1, a2, a3, a4, a5⟩ := hB.1 τ hr (by omega)
  refine ⟨τ1, mx_setR τ1 b i (mxz τ), a1, q_sRn ((a4.al hbz).1.trans hA) hn hi hbb (hci _ _ a5), a2, a3, (a4.wk (p' := b)).tr (Pa_setR i _), if_pos ⟨rfl, rfl⟩, ?_⟩
  refine hB.2 τ1 _ (mxz τ) (fun q h1 h2 => ⟨rfl, fun j => ⟨rfl, rfl, if_neg fun e => ?_⟩⟩) a5
  omega
/-- a pair that stands at (1, 0) -/
def ly_m : mx_S → Nat → Prop := fun σ a => mxA σ a = some (.inl 8) ∧ mxR σ a 0 = some (a + 1) ∧ mxR σ a 1 = some (a + 2) ∧ mxA σ (a + 1) = some (.inl 0) ∧ mxA σ (a + 2) = some (.inl 0) ∧ (∀ j, mxI σ (a + 1) j = 0) ∧ mxL σ (a + 1) 0 = 65536 ∧ mxL σ (a + 1) 1 = 65536 ∧ ∀ j, mxI σ (a + 2) j = 0 ∧ mxL σ (a + 2) j = 0
theorem ly_m_loc (σ σ' : mx_S) (a : Nat) (h : ∀ q, a ≤ q → q < a + 3 → Sm σ σ' q) (hQ : ly_m σ a) : ly_m σ' a := by
  obtain ⟨f1, f2⟩ := h a (by omega) (by omega)
  obtain ⟨g1, g2⟩ := h (a + 1) (by omega) (by omega)
  obtain ⟨k1, k2⟩ := h (a + 2) (by omega) (by omega)
  obtain ⟨q1, q2, q3, q4, q5, q6, q7, q8, q9⟩ := hQ
  exact ⟨f1.trans q1, (f2 0).2.2.trans q2, (f2 1).2.2.trans q3, g1.trans q4, k1.trans q5, fun j => (g2 j).1.trans (q6 j), (g2 0).2.1.trans q7, (g2 1).2.1.trans q8, fun j => ⟨(k2 j).1.trans (q9 j).1, (k2 j).2.1.trans (q9 j).2⟩⟩
theorem k_keep {a : Nat} (h : mxA σ a = some (.inl 0)) (hb : mpb P ≤ a) (x y : Int64) : f_X0_keep P a x y σ = some (mx_setI (mx_setL (mx_setL σ a 0 x) a 1 y) a 2 (if x < -2147483648 ∨ 2147483648 < y then 1 else 0)) := by
  unfold f_X0_keep f_X0_keep_D27 f_X0_keep_D32
  rw [q_pL h hb, Option.bind_some, q_pL (by exact h) hb, Option.bind_some, q_pZ (by exact h) hb (Or.inr rfl), q_pZ (by exact h) hb (Or.inl rfl), Option.bind_some, Option.bind_some]
  by_cases h1 : x < -2147483648
  · rw [if_pos (q_cmp_lt.mpr h1), if_pos (Or.inl h1)]
  · rw [if_neg (fun z => h1 (q_cmp_lt.mp z))]
    by_cases h2 : 2147483648 < y
    · rw [if_neg (fun z => by rw [q_cmp_le, q_lle] at z; rw [q_llt] at h2; omega), if_pos (Or.inr h2)]
    · rw [if_pos (by rw [q_cmp_le, q_lle]; rw [q_llt] at h2; omega), if_neg (fun z => z.elim h1 h2)]
/-! items that set a place of their object -/
abbrev q_J : Type := Nat × (Nat → mx_S → Option mx_S) × Nat × Nat × (mx_S → Nat → Prop)
def j_Ok (P : mx_P) (ci k : Nat) (F : Nat → mx_S → Option mx_S) (s u : Nat) (Q : mx_S → Nat → Prop) : Prop :=
  (∀ p σ, mpb P ≤ p → p < mxz σ → mxA σ p = some (.inl ci) → Rm P σ s u → ∃ σ', F p σ = some σ' ∧ mxz σ' = mxz σ + s ∧ mxu σ' = mxu σ + u ∧ Pa p [k] σ σ' ∧ mxR σ' p k = some (mxz σ) ∧ Q σ' (mxz σ)) ∧ (∀ σ σ' a, (∀ q, a ≤ q → q < a + s → Sm σ σ' q) → Q σ a → Q σ' a)
def j_run (p : Nat) : List q_J → mx_S → Option mx_S
  | [], σ => some σ
  | (_, F, _) :: r, σ => (F p σ).bind fun σ4 => j_run p r σ4
def j_cs : List q_J → Nat
  | [] => 0
  | (_, _, s, _, _) :: r => s + j_cs r
def j_us : List q_J → Nat
  | [] => 0
  | (_, _, _, u, _) :: r => u + j_us r
def j_ks : List q_J → List Nat
  | [] => []
  | (k, _) :: r => k :: j_ks r
def j_post (σ : mx_S) (p : Nat) : Nat → List q_J → Prop
  | _, [] => True
  | a, (k, _, s, _, Q) :: r => mxR σ p k = some a ∧ Q σ a ∧ j_post σ p (a + s) r
def j_oks (P : mx_P) (ci : Nat) : List q_J → Prop
  | [] => True
  | (k, F, s, u, Q) :: r => j_Ok P ci k F s u Q ∧ j_oks P ci r
theorem jrun_ok {ci : Nat} (hb : mpb P ≤ p) : ∀ (l : List q_J) (σ : mx_S), j_oks P ci l → mxA σ p = some (.inl ci) → p < mxz σ → Rm P σ (j_cs l) (j_us l) → (j_ks l).Nodup →
    ∃ σ', j_run p l σ = some σ' ∧ mxz σ' = mxz σ + j_cs l ∧ mxu σ' = mxu σ + j_us l ∧ Pa p (j_ks l) σ σ' ∧ j_post σ' p (mxz σ) l
  | [], σ, _, _, _, _, _ => ⟨σ, rfl, rfl, rfl, Pa.rf, trivial⟩
  | (k, F, s, u, Q) :: r, σ, h0, h1, h2, h3, h4 => by
    obtain ⟨c1, c2⟩ := h3
    have e1 : j_cs ((k, F, s, u, Q) :: r) = s + j_cs r := rfl
    have e2 : j_us ((k, F, s, u, Q) :: r) = u + j_us r := rfl
    have e3 : j_ks ((k, F, s, u, Q) :: r) = k :: j_ks r := rfl
    rw [e1] at c1; rw [e2] at c2; rw [e3] at h4
    obtain ⟨⟨h00, hloc⟩, h0r⟩ := h0
    obtain ⟨σa, a1, a2, a3, a4, a5, a6⟩ := h00 p σ hb h2 h1 ⟨by omega, by omega⟩
    have hA2 : mxA σa p = some (.inl ci) := (a4.2.1 p h2).trans h1
    obtain ⟨σ', s1, s2, s3, s4, s5⟩ := jrun_ok (ci := ci) hb r σa h0r hA2 (by rw [a2]; omega) ⟨by rw [a2]; omega, by rw [a3]; omega⟩ (List.nodup_cons.mp h4).2
    rw [a2] at s2 s5; rw [a3] at s3
    refine ⟨σ', ?_, by rw [s2, e1]; omega, by rw [s3, e2]; omega, ?_, ?_⟩
    · show (F p σ).bind _ = _
      rw [a1, Option.bind_some]
      exact s1
    · exact a4.tr s4
    · have hk : k ∉ j_ks r := (List.nodup_cons.mp h4).1
      refine ⟨?_, ?_, s5⟩
      · rw [s4.2.2.2 p k (by rw [a2]; omega) (Or.inr hk)]; exact a5
      · exact hloc σa σ' (mxz σ) (fun q hq1 hq2 => s4.ap (q := q) (by rw [a2]; omega) (by omega)) a6
theorem j_of {B : q_B} {ci k s u : Nat} {Q : mx_S → Nat → Prop} (h : q_Ok P B s u Q) : j_Ok P ci k (fun p σ => mx_b2 (B σ) fun b σ2 => mp_R P σ2 p ci k b) s u Q := by
  refine ⟨fun p σ hb hz hA hr => ?_, h.2⟩
  obtain ⟨σa, a1, a2, a3, a4, a5⟩ := h.1 σ hr (by omega)
  refine ⟨mx_setR σa p k (mxz σ), ?_, a2, a3, (a4.wk (p' := p)).tr (Pa_setR k _), if_pos ⟨rfl, rfl⟩, ?_⟩
  · show mx_b2 (B σ) _ = _
    rw [a1, q_b2, q_pR ((a4.al hz).1.trans hA) hb]
  · refine h.2 σa _ (mxz σ) (fun q h1 h2 => ⟨rfl, fun j => ⟨rfl, rfl, if_neg fun e => ?_⟩⟩) a5
    omega
theorem Pa.nw {b : Nat} {ks k1 : List Nat} (h1 : Pa p k1 σ σ1) (h2 : Pa b ks σ1 σ2) (hb : mxz σ ≤ b) : Pa p k1 σ σ2 := by
  obtain ⟨a1, a2, a3, a4⟩ := h1
  obtain ⟨b1, b2, b3, b4⟩ := h2
  refine ⟨Nat.le_trans a1 b1, fun q hq => (b2 q (by omega)).trans (a2 q hq), fun q j hq => ?_, fun q j hq h => ?_⟩
  · exact ⟨(b3 q j (by omega)).1.trans (a3 q j hq).1, (b3 q j (by omega)).2.trans (a3 q j hq).2⟩
  · exact (b4 q j (by omega) (Or.inl (by omega))).trans (a4 q j hq h)
/-- an array filled with objects -/
def ly_f (t n s : Nat) (Q : mx_S → Nat → Prop) : mx_S → Nat → Prop := fun σ a => mxA σ a = some (.inr (t, n)) ∧ (∀ j, mxI σ a j = 0 ∧ mxL σ a j = 0) ∧ ∀ i, i < n → mxR σ a i = some (a + 1 + s * i) ∧ Q σ (a + 1 + s * i)
theorem j_fill {ci k t n s u : Nat} {Q : mx_S → Nat → Prop} (L : Nat → Int32 × mx_S → Option ((Int32 × mx_S) ⊕ mx_S)) (hn : n ≤ 65536) (hN : n < mpN P)
    (hloc : ∀ σ σ' a, (∀ q, a ≤ q → q < a + s → Sm σ σ' q) → Q σ a → Q σ' a)
    (hs : ∀ p b i τ, mpb P ≤ p → mpb P ≤ b → i < n → mxA τ b = some (.inr (t, n)) → mxA τ p = some (.inl ci) → mxR τ p k = some b → b < mxz τ → p < mxz τ → p ≠ b → Rm P τ s u →
      ∃ τ', L p (q_n i, τ) = some (.inl (q_n (i + 1), τ')) ∧ mxz τ' = mxz τ + s ∧ mxu τ' = mxu τ + u ∧ Pa b [i] τ τ' ∧ mxR τ' b i = some (mxz τ) ∧ Q τ' (mxz τ))
    (he : ∀ p τ, L p (q_n n, τ) = some (.inr τ)) :
    j_Ok P ci k (fun p σ => mx_b2 (mn_A P σ t (q_n n)) fun b σ2 => (mp_R P σ2 p ci k b).bind fun σ4 => mx_lp (L p) (mpN P) (0, σ4)) (1 + s * n) (n + u * n) (ly_f t n s Q) := by
  refine ⟨fun p σ hb hz hA hr => ?_, fun σ σ' a h hQ => ?_⟩
  · obtain ⟨r1, r2⟩ := hr
    have p0 := Pa_new (p := p) (σ := σ) (.inr (t, n)) n
    have p1 := p0.tr (Pa_setR k (mxz σ))
    have hz2 : mxz (mx_setR (mx_new σ (.inr (t, n)) n) p k (mxz σ)) = mxz σ + 1 := rfl
    have hu2 : mxu (mx_setR (mx_new σ (.inr (t, n)) n) p k (mxz σ)) = mxu σ + n := rfl
    obtain ⟨σ', s1, s2, s3, s4, s5⟩ := fill_ok (P := P) (p := p) (σ := mx_setR (mx_new σ (.inr (t, n)) n) p k (mxz σ)) (b := mxz σ) (n := n) (t := t) (s := s) (u := u) (ci := ci) (k := k) (fu := mpN P) (Q := Q) (L p) hloc
      (fun i τ h1 h2 h3 h4 h5 h6 h7 => hs p (mxz σ) i τ hb (by omega) h1 h2 h3 h4 h5 h6 (by omega) h7) (he p) (q_newA (.inr (t, n)) n) ((p1.2.1 p hz).trans hA) (if_pos ⟨rfl, rfl⟩) (by rw [hz2]; omega) (by rw [hz2]; omega) (by omega) ⟨by rw [hz2]; omega, by rw [hu2]; omega⟩ hN
    rw [hz2] at s2 s5; rw [hu2] at s3
    refine ⟨σ', ?_, by rw [s2]; omega, by rw [s3]; omega, p1.nw s4 (Nat.le_refl _), ?_, ?_⟩
    · show mx_b2 (mn_A P σ t (q_n n)) _ = _
      rw [q_nAr hn ⟨by omega, by omega⟩, q_b2, q_pR (by exact (p0.2.1 p hz).trans hA) hb, Option.bind_some]
      exact s1
    · rw [s4.2.2.2 p k (by rw [hz2]; omega) (Or.inl (by omega))]; exact if_pos ⟨rfl, rfl⟩
    · refine ⟨(s4.2.1 _ (by rw [hz2]; omega)).trans (q_newA (.inr (t, n)) n), fun j => ?_, fun i hi => s5 i hi⟩
      have e := s4.2.2.1 (mxz σ) j (by rw [hz2]; omega)
      exact ⟨e.1.trans (q_newI (.inr (t, n)) n j), e.2.trans (q_newL (.inr (t, n)) n j)⟩
  · obtain ⟨f1, f2⟩ := h a (Nat.le_refl _) (by omega)
    refine ⟨f1.trans hQ.1, fun j => ⟨(f2 j).1.trans (hQ.2.1 j).1, (f2 j).2.1.trans (hQ.2.1 j).2⟩, fun i hi => ⟨(f2 i).2.2.trans (hQ.2.2 i hi).1, hloc σ σ' _ (fun q h1 h2 => ?_) (hQ.2.2 i hi).2⟩⟩
    have m3 : s * (i + 1) ≤ s * n := Nat.mul_le_mul_left s hi
    have m1 : s * (i + 1) = s * i + s := Nat.mul_succ s i
    exact h q (by omega) (by omega)
/-- an object of such items -/
theorem ok_j {ci n : Nat} {f : Nat → mx_S → Option mx_S} {l : List q_J} (ho : j_oks P ci l) (hk : (j_ks l).Nodup) (hf : ∀ p σ, f p σ = j_run p l σ) :
    q_Ok P (mk_o P ci n f) (1 + j_cs l) (n + j_us l) (fun σ a => mxA σ a = some (.inl ci) ∧ (∀ j, mxI σ a j = 0 ∧ mxL σ a j = 0) ∧ j_post σ a (a + 1) l) := by
  refine ⟨fun σ hr hb => ?_, fun σ σ' a h hQ => ?_⟩
  · obtain ⟨r1, r2⟩ := hr
    obtain ⟨σ', s1, s2, s3, s4, s5⟩ := jrun_ok (p := mxz σ) (ci := ci) hb l (mx_new σ (.inl ci) n) ho (q_newA (.inl ci) n) (by show mxz σ < mxz σ + 1; omega) ⟨by show mxz σ + 1 + _ ≤ _; omega, by show mxu σ + n + _ ≤ _; omega⟩ hk
    refine ⟨σ', ?_, by rw [s2]; show mxz σ + 1 + _ = _; omega, by rw [s3]; show mxu σ + n + _ = _; omega, (Pa_new (p := 0) (.inl ci) n).nw s4 (Nat.le_refl _), ?_, ?_, s5⟩
    · show mx_b2 (mn_O P σ ci n) _ = _
      rw [q_nO ⟨by omega, by omega⟩, q_b2, hf, s1]; rfl
    · exact (s4.2.1 (mxz σ) (by show mxz σ < mxz σ + 1; omega)).trans (q_newA (.inl ci) n)
    · intro j
      have e := s4.2.2.1 (mxz σ) j (by show mxz σ < mxz σ + 1; omega)
      exact ⟨e.1.trans (q_newI (.inl ci) n j), e.2.trans (q_newL (.inl ci) n j)⟩
  · obtain ⟨f1, f2⟩ := h a (Nat.le_refl _) (by omega)
    refine ⟨f1.trans hQ.1, fun j => ⟨(f2 j).1.trans (hQ.2.1 j).1, (f2 j).2.1.trans (hQ.2.1 j).2⟩, ?_⟩
    have key : ∀ (l : List q_J) (b : Nat), j_oks P ci l → (∀ q, b ≤ q → q < b + j_cs l → Sm σ σ' q) → j_post σ a b l → j_post σ' a b l := by
      intro l
      induction l with
      | nil => intro b _ _ _; trivial
      | cons x r ih =>
        obtain ⟨k, F, s, u, Q⟩ := x
        intro b ho hs hp
        obtain ⟨p1, p2, p3⟩ := hp
        have e1 : j_cs ((k, F, s, u, Q) :: r) = s + j_cs r := rfl
        rw [e1] at hs
        refine ⟨(f2 k).2.2.trans p1, ho.1.2 σ σ' b (fun q h1 h2 => hs q h1 (by omega)) p2, ih (b + s) ho.2 (fun q h1 h2 => hs q (by omega) (by omega)) p3⟩
    exact key l (a + 1) ho (fun q h1 h2 => h q (by omega) (by omega)) hQ.2.2
theorem mk_use {ci n b : Nat} {f : Nat → mx_S → Option mx_S} {τ τ1 : mx_S} {γ : Type} (h : mk_o P ci n f τ = some (b, τ1)) (K : Nat → mx_S → Option γ) : (mx_b2 (mn_O P τ ci n) fun b σ => (f b σ).bind fun σ' => K b σ') = K b τ1 := by
  unfold mk_o at h
  cases ho : mn_O P τ ci n with
  | none => rw [ho] at h; cases h
  | some x =>
    obtain ⟨b0, σ0⟩ := x
    rw [ho, q_b2] at h
    rw [q_b2]
    cases hf : f b0 σ0 with
    | none => rw [hf] at h; cases h
    | some y =>
      rw [hf, Option.bind_some] at h
      cases h
      rfl
end Q6
