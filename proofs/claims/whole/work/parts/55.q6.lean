/-! ===== q6: constructors with loops ===== -/
section Q6
variable {P : mx_P} {σ σ1 σ2 : mx_S} {p : Nat}
theorem fill_ok {b n t s u ci k fu : Nat} {Q : mx_S → Nat → Prop} (body : Int32 × mx_S → Option ((Int32 × mx_S) ⊕ mx_S))
    (hloc : ∀ σ σ' a, (∀ q, a ≤ q → q < a + s → Sm σ σ' q) → Q σ a → Q σ' a)
    (hs : ∀ i τ, i < n → mxA τ b = some (.inr (t, n)) → mxA τ p = some (.inl ci) → mxR τ p k = some b → b < mxz τ → p < mxz τ → Rm P τ s u →
      ∃ τ', body (q_n i, τ) = some (.inl (q_n (i + 1), τ')) ∧ mxz τ' = mxz τ + s ∧ mxu τ' = mxu τ + u ∧ Pa b [i] τ τ' ∧ mxR τ' b i = some (mxz τ) ∧ Q τ' (mxz τ))
    (he : ∀ τ, body (q_n n, τ) = some (.inr τ)) (hA : mxA σ b = some (.inr (t, n))) (hp : mxA σ p = some (.inl ci)) (hR : mxR σ p k = some b) (hb : b < mxz σ) (hpz : p < mxz σ) (hpb : p ≠ b) (hr : Rm P σ (s * n) (u * n)) (hfu : n < fu) :
    ∃ σ', mx_lp body fu (0, σ) = some σ' ∧ mxz σ' = mxz σ + s * n ∧ mxu σ' = mxu σ + u * n ∧ Pa b (List.range n) σ σ' ∧ ∀ i, i < n → mxR σ' b i = some (mxz σ + s * i) ∧ Q σ' (mxz σ + s * i) := by
  refine q_for body (fun k' x => x.1 = q_n k' ∧ mxz x.2 = mxz σ + s * k' ∧ mxu x.2 = mxu σ + u * k' ∧ Pa b (List.range k') σ x.2 ∧ ∀ i, i < k' → mxR x.2 b i = some (mxz σ + s * i) ∧ Q x.2 (mxz σ + s * i))
    (fun σ' => mxz σ' = mxz σ + s * n ∧ mxu σ' = mxu σ + u * n ∧ Pa b (List.range n) σ σ' ∧ ∀ i, i < n → mxR σ' b i = some (mxz σ + s * i) ∧ Q σ' (mxz σ + s * i)) n ?_ ?_ n 0 (0, σ) fu (by omega) ?_ hfu
  · rintro i ⟨x, τ⟩ hi ⟨e1, e2, e3, e4, e5⟩
    dsimp only at e1 e2 e3 e4 e5
    subst e1
    have m1 : s * (i + 1) = s * i + s := Nat.mul_succ s i
    have m2 : u * (i + 1) = u * i + u := Nat.mul_succ u i
    have m3 : s * (i + 1) ≤ s * n := Nat.mul_le_mul_left s hi
    have m4 : u * (i + 1) ≤ u * n := Nat.mul_le_mul_left u hi
    obtain ⟨r1, r2⟩ := hr
    have hbA : mxA τ b = some (.inr (t, n)) := (e4.2.1 b hb).trans hA
    have hpp := e4.ap hpz hpb
    obtain ⟨τ', s1, s2, s3, s4, s5, s6⟩ := hs i τ hi hbA (hpp.1.trans hp) ((hpp.2 k).2.2.trans hR) (by omega) (by omega) ⟨by omega, by omega⟩
    refine Or.inl ⟨_, s1, rfl, by dsimp only; omega, by dsimp only; omega, ?_, fun j hj => ?_⟩
    · dsimp only; rw [List.range_succ]; exact e4.tr s4
    · dsimp only
      by_cases hji : j = i
      · subst hji
        rw [← e2]; exact ⟨s5, s6⟩
      · have hj : j < i := by omega
        have m5 : s * (j + 1) ≤ s * i := Nat.mul_le_mul_left s hj
        have m6 : s * (j + 1) = s * j + s := Nat.mul_succ s j
        refine ⟨(s4.2.2.2 b j (by omega) (Or.inr (by simp; exact hji))).trans (e5 j hj).1, hloc τ τ' _ (fun q h1 h2 => ?_) (e5 j hj).2⟩
        exact s4.ap (by omega) (by omega)
  · rintro ⟨x, τ⟩ ⟨e1, e2, e3, e4, e5⟩
    dsimp only at e1 e2 e3 e4 e5
    subst e1
    exact ⟨τ, he τ, e2, e3, e4, e5⟩
  · exact ⟨rfl, by show mxz σ = mxz σ + s * 0; omega, by show mxu σ = mxu σ + u * 0; omega, Pa.rf, fun i hi => absurd hi (Nat.not_lt_zero i)⟩
theorem q_sRn {a t n j ci x : Nat} (h : mxA σ a = some (.inr (t, n))) (hn : n ≤ 65536) (hj : j < n) (hb : mpb P ≤ a) (hx : mxA σ x = some (.inl ci)) : ms_R P σ a t (q_n j) ci x = some (mx_setR σ a j x) := by
  unfold ms_R
  rw [q_ix h (by rw [q_nT (by omega)]; omega) (by rw [q_nT (by omega)]; omega), q_nN (by omega)]
  exact if_pos ⟨hb, hx⟩
/-- a place of an array, filled with something new -/
theorem fill_step {B : q_B} {b t n i s u ci : Nat} {Q : mx_S → Nat → Prop} (hB : q_Ok P B s u Q) (hci : ∀ σ a, Q σ a → mxA σ a = some (.inl ci)) (hs : 0 < s) {τ : mx_S} (hi : i < n) (hn : n ≤ 65536) (hA : mxA τ b = some (.inr (t, n))) (hbz : b < mxz τ) (hbb : mpb P ≤ b) (hr : Rm P τ s u) :
    ∃ τ1 τ', B τ = some (mxz τ, τ1) ∧ ms_R P τ1 b t (q_n i) ci (mxz τ) = some τ' ∧ mxz τ' = mxz τ + s ∧ mxu τ' = mxu τ + u ∧ Pa b [i] τ τ' ∧ mxR τ' b i = some (mxz τ) ∧ Q τ' (mxz τ) := by
  obtain ⟨τ1, a1, a2, a3, a4, a5⟩ := hB.1 τ hr (by omega)
  refine ⟨τ1, mx_setR τ1 b i (mxz τ), a1, q_sRn ((a4.al hbz).1.trans hA) hn hi hbb (hci _ _ a5), a2, a3, (a4.wk (p' := b)).tr (Pa_setR i _), if_pos ⟨rfl, rfl⟩, ?_⟩
  refine hB.2 τ1 _ (mxz τ) (fun q h1 h2 => ⟨rfl, fun j => ⟨rfl, rfl, if_neg fun e => ?_⟩⟩) a5
  omega
/-- a pair that stands at (1, 0) -/
def ly_m : mx_S → Nat → Prop := fun σ a => mxA σ a = some (.inl 8) ∧ mxR σ a 0 = some (a + 1) ∧ mxR σ a 1 = some (a + 2) ∧ mxA σ (a + 1) = some (.inl 0) ∧ mxA σ (a + 2) = some (.inl 0) ∧ (∀ j, mxI σ (a + 1) j = 0) ∧ mxL σ (a + 1) 0 = 65536 ∧ mxL σ (a + 1) 1 = 65536 ∧ ∀ j, mxI σ (a + 2) j = 0 ∧ mxL σ (a + 2) j = 0
theorem ly_m_loc (σ σ' : mx_S) (a : Nat) (h : ∀ q, a ≤ q → q < a + 3 → Sm σ σ' q) (hQ : ly_m σ a) : ly_m σ' a := by
  obtain ⟨f1, f2⟩ := h a (by omega) (by omega)
  obtain ⟨g1, g2⟩ := h (a + 1) (by omega) (by omega)
  obtain ⟨k1, k2⟩ := h (a + 2) (by omega) (by omega)
  obtain ⟨q1, q2, q3, q4, q5, q6, q7, q8, q9⟩ := hQ
  exact ⟨f1.trans q1, (f2 0).2.2.trans q2, (f2 1).2.2.trans q3, g1.trans q4, k1.trans q5, fun j => (g2 j).1.trans (q6 j), (g2 0).2.1.trans q7, (g2 1).2.1.trans q8, fun j => ⟨(k2 j).1.trans (q9 j).1, (k2 j).2.1.trans (q9 j).2⟩⟩
theorem k_keep {a : Nat} (h : mxA σ a = some (.inl 0)) (hb : mpb P ≤ a) (x y : Int64) : f_X0_keep P a x y σ = some (mx_setI (mx_setL (mx_setL σ a 0 x) a 1 y) a 2 (if x < -2147483648 ∨ 2147483648 < y then 1 else 0)) := by
  unfold f_X0_keep
  rw [q_pL h hb, Option.bind_some, q_pL (by exact h) hb, Option.bind_some]
  sorry
end Q6
