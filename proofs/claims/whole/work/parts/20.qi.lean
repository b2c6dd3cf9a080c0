/-! ===== qi: parts of the picture, what a call may change ===== -/
section QI
variable {P : mx_P} {σ σ1 σ2 : mx_S} {x a k : Nat}
/-- a throw -/
def th (σ : mx_S) : mx_S := (mxA σ, mxI σ, mxL σ, mxR σ, mxz σ + 1, mxu σ + 6)
theorem tA : mxA (th σ) = mxA σ := rfl
theorem tI : mxI (th σ) = mxI σ := rfl
theorem tL : mxL (th σ) = mxL σ := rfl
theorem tR : mxR (th σ) = mxR σ := rfl
theorem k_th (h : Rm P σ 1 6) : mx_th P σ = some (th σ) := if_pos h
theorem q_p1 (k : Nat) : q_n (k + 1) - 1 = q_n k := by rw [← q_nS]; exact q_c1 _
theorem rg_t {v l u : Int32} (h : l.toInt ≤ v.toInt ∧ v.toInt ≤ u.toInt) (σ : mx_S) : f_X11_needRange P v l u σ = some (.inr σ) := by
  unfold f_X11_needRange
  rw [if_neg (by rw [q_lt]; omega), if_pos (by rw [q_le]; omega)]
theorem rg_f {v l u : Int32} (h : ¬ (l.toInt ≤ v.toInt ∧ v.toInt ≤ u.toInt)) (hr : Rm P σ 1 6) : f_X11_needRange P v l u σ = some (.inl ("java/lang/IllegalArgumentException", th σ)) := by
  unfold f_X11_needRange f_X11_needRange_D10
  rw [k_th hr, Option.bind_some]
  by_cases h1 : v < l
  · rw [if_pos h1]
  · rw [if_neg h1, if_neg (by rw [q_lt] at h1; rw [q_le]; omega)]
theorem in_t {v : Int32} {l u : Int64} (h : l.toInt ≤ v.toInt ∧ v.toInt ≤ u.toInt) (σ : mx_S) : f_X12_in P v.toInt64 l u σ = some (1, σ) := by
  rw [k_in, if_pos (by rw [q_lle, q_lle, Int32.toInt_toInt64]; exact h)]
theorem in_f {v : Int32} {l u : Int64} (h : ¬ (l.toInt ≤ v.toInt ∧ v.toInt ≤ u.toInt)) (σ : mx_S) : f_X12_in P v.toInt64 l u σ = some (0, σ) := by
  rw [k_in, if_neg (by rw [q_lle, q_lle, Int32.toInt_toInt64]; exact h)]
theorem wi_t {v n : Int32} (h : 0 ≤ v.toInt ∧ v.toInt < n.toInt) (σ : mx_S) : f_X11_isWithin P v n σ = some (1, σ) := by
  unfold f_X11_isWithin f_X11_isWithin_D14
  rw [if_neg (by rw [q_lt, q_i0]; omega), if_neg (by rw [q_le]; omega)]; rfl
theorem wi_f {v n : Int32} (h : ¬ (0 ≤ v.toInt ∧ v.toInt < n.toInt)) (σ : mx_S) : f_X11_isWithin P v n σ = some (0, σ) := by
  unfold f_X11_isWithin f_X11_isWithin_D13 f_X11_isWithin_D14
  by_cases h1 : v < 0
  · rw [if_pos h1]; rfl
  · rw [if_neg h1, if_pos (by rw [q_lt, q_i0] at h1; rw [q_le]; omega)]; rfl
theorem np_1 (σ : mx_S) : f_X11_needPresence P 1 σ = some (.inr σ) := rfl
theorem np_0 (hr : Rm P σ 1 6) : f_X11_needPresence P 0 σ = some (.inl ("java/util/NoSuchElementException", th σ)) := by
  unfold f_X11_needPresence; rw [if_pos rfl, k_th hr]; rfl
theorem nl_1 (σ : mx_S) : f_X11_needLeave P 1 σ = some (.inr σ) := rfl
theorem nl_0 (hr : Rm P σ 1 6) : f_X11_needLeave P 0 σ = some (.inl ("java/lang/IllegalStateException", th σ)) := by
  unfold f_X11_needLeave; rw [if_pos rfl, k_th hr]; rfl
theorem nr_1 (σ : mx_S) : f_X11_needRoom P 1 σ = some (.inr σ) := rfl
theorem nr_0 (hr : Rm P σ 1 6) : f_X11_needRoom P 0 σ = some (.inl ("java/lang/IndexOutOfBoundsException", th σ)) := by
  unfold f_X11_needRoom; rw [if_pos rfl, k_th hr]; rfl
/-- the parts: text, gears, trains, plates, kinds, drive, cam, linkage -/
def cp (x : Nat) : Nat → Nat → Nat → Prop
  | 0, q, j => (x + 1 ≤ q ∧ q < x + 9) ∨ q = x + 1498 ∨ (q = x + 1497 ∧ (j = 2 ∨ j = 4 ∨ j = 5))
  | 1, q, j => (x + 9 ≤ q ∧ q < x + 87 ∧ q ≠ x + 16 ∧ (q = x + 9 → j ≠ 2)) ∨ (x + 1533 ≤ q ∧ q ≤ x + 1541) ∨ (q = x + 1497 ∧ (j = 57 ∨ j = 60))
  | 2, q, j => (q = x + 9 ∧ j = 2) ∨ q = x + 16 ∨ q = x + 1545 ∨ (q = x + 1497 ∧ j = 72)
  | 3, q, _ => (x + 87 ≤ q ∧ q < x + 112) ∨ (x + 1556 ≤ q ∧ q ≤ x + 1558)
  | 4, q, j => (x + 112 ≤ q ∧ q < x + 120) ∨ q = x + 1559 ∨ (q = x + 1497 ∧ j = 91)
  | 5, q, j => (x + 120 ≤ q ∧ q < x + 128) ∨ q = x + 1568 ∨ (q = x + 1497 ∧ (j = 102 ∨ j = 103))
  | 6, q, j => (x + 1481 ≤ q ∧ q < x + 1497) ∨ (x + 1546 ≤ q ∧ q ≤ x + 1550) ∨ (q = x + 1497 ∧ j = 74)
  | 7, q, j => (x + 129 ≤ q ∧ q < x + 1481) ∨ (x + 1499 ≤ q ∧ q ≤ x + 1518) ∨ (q = x + 1497 ∧ (j = 19 ∨ j = 20))
  | _, _, _ => False
theorem cp_dj {i n q j : Nat} (h1 : cp x i q j) (h2 : cp x n q j) : i = n := by
  rcases i with _ | _ | _ | _ | _ | _ | _ | _ | i <;> rcases n with _ | _ | _ | _ | _ | _ | _ | _ | n <;> first | rfl | exact h1.elim | exact h2.elim | (exfalso; simp only [cp] at h1 h2; omega)
/-- only the parts ns, and what is no part, may have changed -/
def Fr (x : Nat) (ns : List Nat) (σ σ' : mx_S) : Prop := mxA σ' = mxA σ ∧ mxR σ' = mxR σ ∧ (∀ i q j, cp x i q j → i ∉ ns → mxI σ' q j = mxI σ q j ∧ mxL σ' q j = mxL σ q j) ∧ mxz σ ≤ mxz σ' ∧ mxz σ' ≤ mxz σ + 1 ∧ mxu σ' ≤ mxu σ + 6 ∧ (mxz σ' = mxz σ → mxu σ' = mxu σ)
variable {ns : List Nat}
theorem Fr.rf : Fr x ns σ σ := ⟨rfl, rfl, fun _ _ _ _ _ => ⟨rfl, rfl⟩, Nat.le_refl _, by omega, by omega, fun _ => rfl⟩
theorem Fr.sI (h : Fr x ns σ σ1) (hc : (∃ n, n ∈ ns ∧ cp x n a k) ∨ ∀ i, ¬ cp x i a k) (v : Int32) : Fr x ns σ (mx_setI σ1 a k v) := by
  refine ⟨h.1, h.2.1, fun i q j hq hi => ⟨?_, (h.2.2.1 i q j hq hi).2⟩, h.2.2.2⟩
  rw [q_II, if_neg, (h.2.2.1 i q j hq hi).1]
  rintro ⟨rfl, rfl⟩
  rcases hc with ⟨n, h1, h2⟩ | h1
  · exact hi (cp_dj hq h2 ▸ h1)
  · exact h1 i hq
theorem Fr.sL (h : Fr x ns σ σ1) (hc : (∃ n, n ∈ ns ∧ cp x n a k) ∨ ∀ i, ¬ cp x i a k) (v : Int64) : Fr x ns σ (mx_setL σ1 a k v) := by
  refine ⟨h.1, h.2.1, fun i q j hq hi => ⟨(h.2.2.1 i q j hq hi).1, ?_⟩, h.2.2.2⟩
  rw [q_LL, if_neg, (h.2.2.1 i q j hq hi).2]
  rintro ⟨rfl, rfl⟩
  rcases hc with ⟨n, h1, h2⟩ | h1
  · exact hi (cp_dj hq h2 ▸ h1)
  · exact h1 i hq
theorem Fr.mo {ms : List Nat} (h : Fr x ns σ σ1) (hs : ∀ n, n ∈ ns → n ∈ ms) : Fr x ms σ σ1 := ⟨h.1, h.2.1, fun i q j hq hi => h.2.2.1 i q j hq fun hn => hi (hs i hn), h.2.2.2⟩
/-- no throw on the second leg -/
theorem Fr.tr (h1 : Fr x ns σ σ1) (h2 : Fr x ns σ1 σ2) (hz : mxz σ2 = mxz σ1) : Fr x ns σ σ2 := by
  obtain ⟨a1, a2, a3, a4, a5, a6, a7⟩ := h1
  obtain ⟨b1, b2, b3, b4, b5, b6, b7⟩ := h2
  have hu := b7 hz
  exact ⟨b1.trans a1, b2.trans a2, fun i q j hq hi => ⟨(b3 i q j hq hi).1.trans (a3 i q j hq hi).1, (b3 i q j hq hi).2.trans (a3 i q j hq hi).2⟩, by omega, by omega, by omega, fun h => by rw [hu]; exact a7 (by omega)⟩
/-- no throw on the first leg -/
theorem Fr.tr' (h1 : Fr x ns σ σ1) (h2 : Fr x ns σ1 σ2) (hz : mxz σ1 = mxz σ) : Fr x ns σ σ2 := by
  obtain ⟨a1, a2, a3, a4, a5, a6, a7⟩ := h1
  obtain ⟨b1, b2, b3, b4, b5, b6, b7⟩ := h2
  have hu := a7 hz
  exact ⟨b1.trans a1, b2.trans a2, fun i q j hq hi => ⟨(b3 i q j hq hi).1.trans (a3 i q j hq hi).1, (b3 i q j hq hi).2.trans (a3 i q j hq hi).2⟩, by omega, by omega, by omega, fun h => by rw [b7 (by omega), hu]⟩
theorem Fr.th (h : Fr x ns σ σ1) (hz : mxz σ1 = mxz σ) : Fr x ns σ (th σ1) := by
  obtain ⟨a1, a2, a3, a4, a5, a6, a7⟩ := h
  have hu := a7 hz
  exact ⟨a1, a2, a3, by show mxz σ ≤ mxz σ1 + 1; omega, by show mxz σ1 + 1 ≤ _; omega, by show mxu σ1 + 6 ≤ _; omega, fun h => by have : mxz σ1 + 1 = mxz σ := h; omega⟩
theorem cp_no {q j : Nat} (h0 : ¬ cp x 0 q j) (h1 : ¬ cp x 1 q j) (h2 : ¬ cp x 2 q j) (h3 : ¬ cp x 3 q j) (h4 : ¬ cp x 4 q j) (h5 : ¬ cp x 5 q j) (h6 : ¬ cp x 6 q j) (h7 : ¬ cp x 7 q j) : ∀ i, ¬ cp x i q j := by
  intro i
  rcases i with _ | _ | _ | _ | _ | _ | _ | _ | i
  · exact h0
  · exact h1
  · exact h2
  · exact h3
  · exact h4
  · exact h5
  · exact h6
  · exact h7
  · exact id
theorem cp_o : ∀ i, ¬ cp x i (x + 1575) 0 := by apply cp_no <;> (simp only [cp]; omega)
theorem cp_t : ∀ i, ¬ cp x i (x + 1497) 0 := by apply cp_no <;> (simp only [cp]; omega)
end QI
