/-! ===== gm: a side of a box; the reference's spread ===== -/
section GMS
variable {P : mx_P} {σ σ0 τ : mx_S} {m : Nat} {E : Nat → BV} {K : LK} {pl : Nat → Nat} {w p i d : Nat}
def b_sd (sd : Bool) : BV → Int
  | none => 0
  | some x => if sd then x.2 else x.1
theorem r_side {sd : Bool} (hM : LyM σ m) (h : HZ m E σ) (hd : d < 320) (hE : E d ≠ none) : ∃ x, f_X12_sideOf P m (q_n d) (bI sd) σ = some (x, σ) ∧ x.toInt = b_sd sd (E d) := by
  unfold f_X12_sideOf f_X12_sideOf_D19
  rcases RR_o (h d hd).1 with ⟨-, e, -, -, -⟩ | ⟨-, e⟩
  · cases sd
    · rw [if_pos (by rfl), bd (am_r11 hM), bd (am_g11 hM hd)]; exact ⟨_, rfl, by rw [e]; rfl⟩
    · rw [if_neg (by decide), bd (am_r12 hM), bd (am_g12 hM hd)]; exact ⟨_, rfl, by rw [e]; rfl⟩
  · exact absurd e hE
theorem fold_no {f : BV → BV → BV} {s : Nat → Bool} {V : Nat → BV} {n : Nat} (hf : ∀ a b, b ≠ none → f a b ≠ none) (hV : ∀ k, k < n → s k = true → V k ≠ none) : g_fold f s V n = none ↔ ∀ k, k < n → s k = false := by
  induction n with
  | zero => exact ⟨fun _ k hk => absurd hk (Nat.not_lt_zero k), fun _ => rfl⟩
  | succ n ih =>
    have ih := ih (fun k hk => hV k (by omega))
    rw [g_fold]
    by_cases c : s n = true
    · rw [if_pos c]
      exact ⟨fun z => absurd z (hf _ _ (hV n (by omega) c)), fun z => absurd (z n (by omega)) (by rw [c]; decide)⟩
    · rw [if_neg c, ih]
      refine ⟨fun z k hk => ?_, fun z k hk => z k (by omega)⟩
      by_cases e : k = n
      · subst e; simpa using c
      · exact z k (by omega)
theorem hull_sd {a b : BV} (ha : a ≠ none) (hb : b ≠ none) (sd : Bool) : b_sd sd (b_hull a b) = if sd then max (b_sd sd a) (b_sd sd b) else min (b_sd sd a) (b_sd sd b) := by
  cases a with
  | none => exact absurd rfl ha
  | some x => cases b with
    | none => exact absurd rfl hb
    | some y => cases sd <;> rfl
theorem lst_sd {a b : BV} (ha : a ≠ none) (hb : b ≠ none) (sd : Bool) : b_sd sd (b_lst a b) = min (b_sd sd a) (b_sd sd b) := by
  cases a with
  | none => exact absurd rfl ha
  | some x => cases b with
    | none => exact absurd rfl hb
    | some y => cases sd <;> rfl
end GMS
