/-! ===== q4: what the constructors lay ===== -/
def Pa (p : Nat) (ks : List Nat) (σ σ' : mx_S) : Prop := mxz σ ≤ mxz σ' ∧ (∀ q, q < mxz σ → mxA σ' q = mxA σ q) ∧ (∀ q j, q < mxz σ → mxI σ' q j = mxI σ q j ∧ mxL σ' q j = mxL σ q j) ∧ (∀ q j, q < mxz σ → (q ≠ p ∨ j ∉ ks) → mxR σ' q j = mxR σ q j)
section Q4
variable {P : mx_P} {σ σ1 σ2 : mx_S} {p p' : Nat} {ks k1 k2 : List Nat}
theorem Pa.rf : Pa p [] σ σ := ⟨Nat.le_refl _, fun _ _ => rfl, fun _ _ _ => ⟨rfl, rfl⟩, fun _ _ _ _ => rfl⟩
theorem Pa.tr (h1 : Pa p k1 σ σ1) (h2 : Pa p k2 σ1 σ2) : Pa p (k1 ++ k2) σ σ2 := by
  obtain ⟨a1, a2, a3, a4⟩ := h1
  obtain ⟨b1, b2, b3, b4⟩ := h2
  refine ⟨Nat.le_trans a1 b1, fun q hq => (b2 q (by omega)).trans (a2 q hq), fun q j hq => ?_, fun q j hq h => ?_⟩
  · exact ⟨(b3 q j (by omega)).1.trans (a3 q j hq).1, (b3 q j (by omega)).2.trans (a3 q j hq).2⟩
  · have e1 : q ≠ p ∨ j ∉ k1 := h.imp id fun hn hm => hn (List.mem_append_left _ hm)
    have e2 : q ≠ p ∨ j ∉ k2 := h.imp id fun hn hm => hn (List.mem_append_right _ hm)
    exact (b4 q j (by omega) e2).trans (a4 q j hq e1)
theorem Pa.wk (h : Pa p [] σ σ1) : Pa p' [] σ σ1 := ⟨h.1, h.2.1, h.2.2.1, fun q j hq _ => h.2.2.2 q j hq (Or.inr (by simp))⟩
/-- all below stays -/
theorem Pa.al (h : Pa p [] σ σ1) {q : Nat} (hq : q < mxz σ) : mxA σ1 q = mxA σ q ∧ ∀ j, mxI σ1 q j = mxI σ q j ∧ mxL σ1 q j = mxL σ q j ∧ mxR σ1 q j = mxR σ q j :=
  ⟨h.2.1 q hq, fun j => ⟨(h.2.2.1 q j hq).1, (h.2.2.1 q j hq).2, h.2.2.2 q j hq (Or.inr (by simp))⟩⟩
/-- all but p's references stays -/
theorem Pa.ap (h : Pa p ks σ σ1) {q : Nat} (hq : q < mxz σ) (hp : q ≠ p) : mxA σ1 q = mxA σ q ∧ ∀ j, mxI σ1 q j = mxI σ q j ∧ mxL σ1 q j = mxL σ q j ∧ mxR σ1 q j = mxR σ q j :=
  ⟨h.2.1 q hq, fun j => ⟨(h.2.2.1 q j hq).1, (h.2.2.1 q j hq).2, h.2.2.2 q j hq (Or.inl hp)⟩⟩
theorem Pa_new (sh : mx_Sh) (n : Nat) : Pa p [] σ (mx_new σ sh n) := by
  have h : ∀ q, q < mxz σ → ¬ q = mxz σ := fun q hq e => by omega
  exact ⟨Nat.le_succ _, fun q hq => if_neg (h q hq), fun q j hq => ⟨if_neg (h q hq), if_neg (h q hq)⟩, fun q j hq _ => if_neg (h q hq)⟩
theorem Pa_setR (k b : Nat) : Pa p [k] σ (mx_setR σ p k b) := by
  refine ⟨Nat.le_refl _, fun _ _ => rfl, fun _ _ _ => ⟨rfl, rfl⟩, fun q j _ h => if_neg fun e => ?_⟩
  rcases h with h | h
  · exact h e.1
  · exact h (by rw [e.2]; exact List.mem_singleton.mpr rfl)
theorem q_newA (sh : mx_Sh) (n : Nat) : mxA (mx_new σ sh n) (mxz σ) = some sh := if_pos rfl
theorem q_newI (sh : mx_Sh) (n j : Nat) : mxI (mx_new σ sh n) (mxz σ) j = 0 := if_pos rfl
theorem q_newL (sh : mx_Sh) (n j : Nat) : mxL (mx_new σ sh n) (mxz σ) j = 0 := if_pos rfl
/-- room for so many cells and slots -/
def Rm (P : mx_P) (σ : mx_S) (c u : Nat) : Prop := mxz σ + c ≤ mpc P ∧ mxu σ + u ≤ mps P
theorem q_nO {ci n : Nat} (h : Rm P σ 1 n) : mn_O P σ ci n = some (mxz σ, mx_new σ (.inl ci) n) := if_pos h
theorem q_nAr {t n : Nat} (hn : n ≤ 65536) (h : Rm P σ 1 n) : mn_A P σ t (q_n n) = some (mxz σ, mx_new σ (.inr (t, n)) n) := by
  have e : (q_n n).toNatClampNeg = n := Int32.toNatClampNeg_ofNat_of_lt (by omega)
  unfold mn_A
  rw [e]
  exact if_pos ⟨by rw [q_lt, q_nT (by omega), q_i0]; omega, hn, h.1, h.2⟩
/-- the same at a cell -/
def Sm (σ σ' : mx_S) (q : Nat) : Prop := mxA σ' q = mxA σ q ∧ ∀ j, mxI σ' q j = mxI σ q j ∧ mxL σ' q j = mxL σ q j ∧ mxR σ' q j = mxR σ q j
theorem Sm.tr {q : Nat} (h1 : Sm σ σ1 q) (h2 : Sm σ1 σ2 q) : Sm σ σ2 q := ⟨h2.1.trans h1.1, fun j => ⟨(h2.2 j).1.trans (h1.2 j).1, (h2.2 j).2.1.trans (h1.2 j).2.1, (h2.2 j).2.2.trans (h1.2 j).2.2⟩⟩
abbrev q_B : Type := mx_S → Option (Nat × mx_S)
abbrev q_I : Type := Nat × q_B × Nat × Nat × (mx_S → Nat → Prop)
/-- a maker: so many cells, so many slots, what lies there then -/
def q_Ok (P : mx_P) (B : q_B) (s u : Nat) (Q : mx_S → Nat → Prop) : Prop :=
  (∀ σ, Rm P σ s u → mpb P ≤ mxz σ → ∃ σ', B σ = some (mxz σ, σ') ∧ mxz σ' = mxz σ + s ∧ mxu σ' = mxu σ + u ∧ Pa 0 [] σ σ' ∧ Q σ' (mxz σ)) ∧ (∀ σ σ' a, (∀ q, a ≤ q → q < a + s → Sm σ σ' q) → Q σ a → Q σ' a)
def q_run (P : mx_P) (p ci : Nat) : List q_I → mx_S → Option mx_S
  | [], σ => some σ
  | (k, B, _) :: r, σ => mx_b2 (B σ) fun b σ2 => (mp_R P σ2 p ci k b).bind fun σ4 => q_run P p ci r σ4
def q_cs : List q_I → Nat
  | [] => 0
  | (_, _, s, _, _) :: r => s + q_cs r
def q_us : List q_I → Nat
  | [] => 0
  | (_, _, _, u, _) :: r => u + q_us r
def q_ks : List q_I → List Nat
  | [] => []
  | (k, _) :: r => k :: q_ks r
def q_post (σ : mx_S) (p : Nat) : Nat → List q_I → Prop
  | _, [] => True
  | a, (k, _, s, _, Q) :: r => mxR σ p k = some a ∧ Q σ a ∧ q_post σ p (a + s) r
def q_oks (P : mx_P) : List q_I → Prop
  | [] => True
  | (_, B, s, u, Q) :: r => q_Ok P B s u Q ∧ q_oks P r
theorem run_ok {ci : Nat} (hb : mpb P ≤ p) : ∀ (l : List q_I) (σ : mx_S), q_oks P l → mxA σ p = some (.inl ci) → p < mxz σ → Rm P σ (q_cs l) (q_us l) → (q_ks l).Nodup →
    ∃ σ', q_run P p ci l σ = some σ' ∧ mxz σ' = mxz σ + q_cs l ∧ mxu σ' = mxu σ + q_us l ∧ Pa p (q_ks l) σ σ' ∧ q_post σ' p (mxz σ) l
  | [], σ, _, _, _, _, _ => ⟨σ, rfl, rfl, rfl, Pa.rf, trivial⟩
  | (k, B, s, u, Q) :: r, σ, h0, h1, h2, h3, h4 => by
    obtain ⟨c1, c2⟩ := h3
    have e1 : q_cs ((k, B, s, u, Q) :: r) = s + q_cs r := rfl
    have e2 : q_us ((k, B, s, u, Q) :: r) = u + q_us r := rfl
    have e3 : q_ks ((k, B, s, u, Q) :: r) = k :: q_ks r := rfl
    rw [e1] at c1; rw [e2] at c2; rw [e3] at h4
    obtain ⟨⟨h00, hloc⟩, h0r⟩ := h0
    obtain ⟨σa, a1, a2, a3, a4, a5⟩ := h00 σ ⟨by omega, by omega⟩ (by omega)
    have hA2 : mxA (mx_setR σa p k (mxz σ)) p = some (.inl ci) := (a4.al h2).1.trans h1
    have hz : mxz (mx_setR σa p k (mxz σ)) = mxz σ + s := a2
    have hu : mxu (mx_setR σa p k (mxz σ)) = mxu σ + u := a3
    obtain ⟨σ', s1, s2, s3, s4, s5⟩ := run_ok (ci := ci) hb r (mx_setR σa p k (mxz σ)) h0r hA2 (by rw [hz]; omega) ⟨by rw [hz]; omega, by rw [hu]; omega⟩ (List.nodup_cons.mp h4).2
    rw [hz] at s2 s5; rw [hu] at s3
    refine ⟨σ', ?_, by rw [s2, e1]; omega, by rw [s3, e2]; omega, ?_, ?_⟩
    · show mx_b2 (B σ) _ = _
      rw [a1, q_b2, q_pR (by exact (a4.al h2).1.trans h1) hb, Option.bind_some]
      exact s1
    · exact ((a4.wk (p' := p)).tr (Pa_setR k (mxz σ))).tr s4
    · have hk : k ∉ q_ks r := (List.nodup_cons.mp h4).1
      refine ⟨?_, ?_, s5⟩
      · rw [s4.2.2.2 p k (by rw [hz]; omega) (Or.inr hk)]; exact if_pos ⟨rfl, rfl⟩
      · refine hloc σa σ' (mxz σ) (fun q hq1 hq2 => ?_) a5
        have hqp : q ≠ p := by omega
        have f := s4.ap (q := q) (by rw [hz]; omega) hqp
        refine ⟨f.1, fun j => ⟨(f.2 j).1, (f.2 j).2.1, (f.2 j).2.2.trans ?_⟩⟩
        exact if_neg fun e => hqp e.1
/-- an array of zeros -/
def ly_a (t n : Nat) : mx_S → Nat → Prop := fun σ a => mxA σ a = some (.inr (t, n)) ∧ ∀ j, mxI σ a j = 0 ∧ mxL σ a j = 0
theorem ok_a {t n : Nat} (hn : n ≤ 65536) : q_Ok P (fun σ => mn_A P σ t (q_n n)) 1 n (ly_a t n) := by
  refine ⟨fun σ hr _ => ⟨_, q_nAr hn hr, rfl, rfl, Pa_new _ _, q_newA (.inr (t, n)) n, fun j => ⟨q_newI (.inr (t, n)) n j, q_newL (.inr (t, n)) n j⟩⟩, fun σ σ' a h hQ => ?_⟩
  obtain ⟨f1, f2⟩ := h a (Nat.le_refl _) (by omega)
  exact ⟨f1.trans hQ.1, fun j => ⟨(f2 j).1.trans (hQ.2 j).1, (f2 j).2.1.trans (hQ.2 j).2⟩⟩
abbrev it_a (P : mx_P) (k t n : Nat) : q_I := (k, (fun σ => mn_A P σ t (q_n n)), 1, n, ly_a t n)
/-- the maker of an object -/
abbrev mk_o (P : mx_P) (ci n : Nat) (f : Nat → mx_S → Option mx_S) : q_B := fun σ => mx_b2 (mn_O P σ ci n) fun b σ2 => (f b σ2).bind fun σ4 => some (b, σ4)
theorem q_b2b2 {α β γ δ ε : Type} (o : Option (α × β)) (g : α → β → Option (γ × δ)) (h : γ → δ → Option ε) : mx_b2 (mx_b2 o g) h = mx_b2 o fun a b => mx_b2 (g a b) h := by
  cases o <;> rfl
theorem q_b2bd {α γ δ ε : Type} (o : Option α) (g : α → Option (γ × δ)) (h : γ → δ → Option ε) : mx_b2 (o.bind g) h = o.bind fun a => mx_b2 (g a) h := by
  cases o <;> rfl
/-- an object whose constructor makes its parts one behind the other -/
theorem ok_o {ci n : Nat} {f : Nat → mx_S → Option mx_S} {l : List q_I} (ho : q_oks P l) (hk : (q_ks l).Nodup) (hf : ∀ p σ, f p σ = q_run P p ci l σ) :
    q_Ok P (mk_o P ci n f) (1 + q_cs l) (n + q_us l) (fun σ a => mxA σ a = some (.inl ci) ∧ (∀ j, mxI σ a j = 0 ∧ mxL σ a j = 0) ∧ q_post σ a (a + 1) l) := by
  refine ⟨fun σ hr hb => ?_, fun σ σ' a h hQ => ?_⟩
  · obtain ⟨r1, r2⟩ := hr
    obtain ⟨σ', s1, s2, s3, s4, s5⟩ := run_ok (p := mxz σ) (ci := ci) hb l (mx_new σ (.inl ci) n) ho (q_newA (.inl ci) n) (by show mxz σ < mxz σ + 1; omega) ⟨by show mxz σ + 1 + _ ≤ _; omega, by show mxu σ + n + _ ≤ _; omega⟩ hk
    refine ⟨σ', ?_, by rw [s2]; show mxz σ + 1 + _ = _; omega, by rw [s3]; show mxu σ + n + _ = _; omega, ?_, ?_, ?_, s5⟩
    · show mx_b2 (mn_O P σ ci n) _ = _
      rw [q_nO ⟨by omega, by omega⟩, q_b2, hf, s1]; rfl
    · refine ⟨by rw [s2]; show mxz σ ≤ mxz σ + 1 + _; omega, fun q hq => ?_, fun q j hq => ?_, fun q j hq _ => ?_⟩
      · exact (s4.ap (q := q) (by show q < mxz σ + 1; omega) (by omega)).1.trans ((Pa_new (p := 0) (.inl ci) n).al hq).1
      · have e := (s4.ap (q := q) (by show q < mxz σ + 1; omega) (by omega)).2 j
        have e' := ((Pa_new (p := 0) (.inl ci) n).al hq).2 j
        exact ⟨e.1.trans e'.1, e.2.1.trans e'.2.1⟩
      · have e := (s4.ap (q := q) (by show q < mxz σ + 1; omega) (by omega)).2 j
        have e' := ((Pa_new (p := 0) (.inl ci) n).al hq).2 j
        exact e.2.2.trans e'.2.2
    · exact (s4.2.1 (mxz σ) (by show mxz σ < mxz σ + 1; omega)).trans (q_newA (.inl ci) n)
    · intro j
      have e := s4.2.2.1 (mxz σ) j (by show mxz σ < mxz σ + 1; omega)
      exact ⟨e.1.trans (q_newI (.inl ci) n j), e.2.trans (q_newL (.inl ci) n j)⟩
  · obtain ⟨f1, f2⟩ := h a (Nat.le_refl _) (by omega)
    refine ⟨f1.trans hQ.1, fun j => ⟨(f2 j).1.trans (hQ.2.1 j).1, (f2 j).2.1.trans (hQ.2.1 j).2⟩, ?_⟩
    have key : ∀ (l : List q_I) (b : Nat), q_oks P l → (∀ q, b ≤ q → q < b + q_cs l → Sm σ σ' q) → q_post σ a b l → q_post σ' a b l := by
      intro l
      induction l with
      | nil => intro b _ _ _; trivial
      | cons x r ih =>
        obtain ⟨k, B, s, u, Q⟩ := x
        intro b ho hs hp
        obtain ⟨p1, p2, p3⟩ := hp
        have e1 : q_cs ((k, B, s, u, Q) :: r) = s + q_cs r := rfl
        rw [e1] at hs
        refine ⟨(f2 k).2.2.trans p1, ho.1.2 σ σ' b (fun q h1 h2 => hs q h1 (by omega)) p2, ih (b + s) ho.2 (fun q h1 h2 => hs q (by omega) (by omega)) p3⟩
    exact key l (a + 1) ho (fun q h1 h2 => h q (by omega) (by omega)) hQ.2.2
end Q4
