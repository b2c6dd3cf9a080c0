/-! ===== q: rows of the pure side ===== -/
section Q0
variable {P : mx_P} {σ : mx_S} {a b ci k t n j : Nat} {i : Int32}
theorem q_gI (h : mxA σ a = some (.inl ci)) : mg_I σ a ci k = some (mxI σ a k) := if_pos h
theorem q_gL (h : mxA σ a = some (.inl ci)) : mg_L σ a ci k = some (mxL σ a k) := if_pos h
theorem q_gR (h : mxA σ a = some (.inl ci)) : mg_R σ a ci k = mxR σ a k := if_pos h
theorem q_is (h : mxA σ a = some (.inl ci)) : mx_is σ a ci = some () := if_pos h
theorem q_pI (h : mxA σ a = some (.inl ci)) (hb : mpb P ≤ a) (x : Int32) : mp_I P σ a ci k x = some (mx_setI σ a k x) := if_pos ⟨h, hb⟩
theorem q_pZ (h : mxA σ a = some (.inl ci)) (hb : mpb P ≤ a) {x : Int32} (hx : x = 0 ∨ x = 1) : mp_Z P σ a ci k x = some (mx_setI σ a k x) := if_pos ⟨h, hb, hx⟩
theorem q_pL (h : mxA σ a = some (.inl ci)) (hb : mpb P ≤ a) (x : Int64) : mp_L P σ a ci k x = some (mx_setL σ a k x) := if_pos ⟨h, hb⟩
theorem q_pR (h : mxA σ a = some (.inl ci)) (hb : mpb P ≤ a) (x : Nat) : mp_R P σ a ci k x = some (mx_setR σ a k x) := if_pos ⟨h, hb⟩
theorem q_ix (h : mxA σ a = some (.inr (t, n))) (h0 : 0 ≤ i.toInt) (h1 : i.toInt < (n : Int)) : mx_ix σ a t i = some i.toInt.toNat := by
  unfold mx_ix
  rw [h]
  exact if_pos ⟨rfl, h0, h1⟩
theorem q_aI (h : mxA σ a = some (.inr (t, n))) (h0 : 0 ≤ i.toInt) (h1 : i.toInt < (n : Int)) : ma_I σ a t i = some (mxI σ a i.toInt.toNat) := by
  unfold ma_I; rw [q_ix h h0 h1]; rfl
theorem q_aL (h : mxA σ a = some (.inr (t, n))) (h0 : 0 ≤ i.toInt) (h1 : i.toInt < (n : Int)) : ma_L σ a t i = some (mxL σ a i.toInt.toNat) := by
  unfold ma_L; rw [q_ix h h0 h1]; rfl
theorem q_aR (h : mxA σ a = some (.inr (t, n))) (h0 : 0 ≤ i.toInt) (h1 : i.toInt < (n : Int)) : ma_R σ a t i = mxR σ a i.toInt.toNat := by
  unfold ma_R; rw [q_ix h h0 h1]; rfl
theorem q_sI (h : mxA σ a = some (.inr (t, n))) (hb : mpb P ≤ a) (h0 : 0 ≤ i.toInt) (h1 : i.toInt < (n : Int)) (x : Int32) : ms_I P σ a t i x = some (mx_setI σ a i.toInt.toNat x) := by
  unfold ms_I; rw [q_ix h h0 h1]; exact if_pos hb
theorem q_sL (h : mxA σ a = some (.inr (t, n))) (hb : mpb P ≤ a) (h0 : 0 ≤ i.toInt) (h1 : i.toInt < (n : Int)) (x : Int64) : ms_L P σ a t i x = some (mx_setL σ a i.toInt.toNat x) := by
  unfold ms_L; rw [q_ix h h0 h1]; exact if_pos hb
end Q0
section Q1
variable {σ : mx_S} {a k q j : Nat} {x : Int32} {y : Int64} {r : Nat}
theorem q_AI : mxA (mx_setI σ a k x) = mxA σ := rfl
theorem q_AL : mxA (mx_setL σ a k y) = mxA σ := rfl
theorem q_AR : mxA (mx_setR σ a k r) = mxA σ := rfl
theorem q_RI : mxR (mx_setI σ a k x) = mxR σ := rfl
theorem q_RL : mxR (mx_setL σ a k y) = mxR σ := rfl
theorem q_RR : mxR (mx_setR σ a k r) q j = if q = a ∧ j = k then some r else mxR σ q j := rfl
theorem q_II : mxI (mx_setI σ a k x) q j = if q = a ∧ j = k then x else mxI σ q j := rfl
theorem q_IL : mxI (mx_setL σ a k y) = mxI σ := rfl
theorem q_IR : mxI (mx_setR σ a k r) = mxI σ := rfl
theorem q_LI : mxL (mx_setI σ a k x) = mxL σ := rfl
theorem q_LL : mxL (mx_setL σ a k y) q j = if q = a ∧ j = k then y else mxL σ q j := rfl
theorem q_LR : mxL (mx_setR σ a k r) = mxL σ := rfl
theorem q_zI : mxz (mx_setI σ a k x) = mxz σ := rfl
theorem q_zL : mxz (mx_setL σ a k y) = mxz σ := rfl
theorem q_zR : mxz (mx_setR σ a k r) = mxz σ := rfl
theorem q_uI : mxu (mx_setI σ a k x) = mxu σ := rfl
theorem q_uL : mxu (mx_setL σ a k y) = mxu σ := rfl
theorem q_uR : mxu (mx_setR σ a k r) = mxu σ := rfl
theorem q_b2 {α β γ : Type} (x : α) (y : β) (g : α → β → Option γ) : mx_b2 (some (x, y)) g = g x y := rfl
theorem q_bxr {α β : Type} (x : α) (g : α → Option ((String × mx_S) ⊕ β)) : mx_bx (some (.inr x)) g = g x := rfl
theorem q_bxl {α β : Type} (e : String × mx_S) (g : α → Option ((String × mx_S) ⊕ β)) : mx_bx (some (.inl e)) g = some (.inl e) := rfl
theorem q_bx2r {α β : Type} (x : α) (y : mx_S) (g : α → mx_S → Option ((String × mx_S) ⊕ β)) : mx_bx2 (some (.inr (x, y))) g = g x y := rfl
theorem q_bx2l {α β : Type} (e : String × mx_S) (g : α → mx_S → Option ((String × mx_S) ⊕ β)) : mx_bx2 (some (.inl e)) g = some (.inl e) := rfl
end Q1
/-! loops -/
theorem q_for {τ ρ : Type} (b : τ → Option (τ ⊕ ρ)) (Inv : Nat → τ → Prop) (Post : ρ → Prop) (N : Nat)
    (hs : ∀ k t, k < N → Inv k t → (∃ t', b t = some (.inl t') ∧ Inv (k + 1) t') ∨ (∃ r, b t = some (.inr r) ∧ Post r))
    (he : ∀ t, Inv N t → ∃ r, b t = some (.inr r) ∧ Post r) :
    ∀ (m k : Nat) (t : τ) (fu : Nat), k + m = N → Inv k t → m < fu → ∃ r, mx_lp b fu t = some r ∧ Post r
  | 0, k, t, fu, hk, hi, hf => by
    have : k = N := by omega
    subst this
    obtain ⟨r, h1, h2⟩ := he t hi
    obtain ⟨f, rfl⟩ : ∃ f, fu = f + 1 := ⟨fu - 1, by omega⟩
    exact ⟨r, by rw [mx_lpS, h1]; rfl, h2⟩
  | m + 1, k, t, fu, hk, hi, hf => by
    obtain ⟨f, rfl⟩ : ∃ f, fu = f + 1 := ⟨fu - 1, by omega⟩
    rcases hs k t (by omega) hi with ⟨t', h1, h2⟩ | ⟨r, h1, h2⟩
    · obtain ⟨r, h3, h4⟩ := q_for b Inv Post N hs he m (k + 1) t' f (by omega) h2 (by omega)
      exact ⟨r, by rw [mx_lpS, h1]; exact h3, h4⟩
    · exact ⟨r, by rw [mx_lpS, h1]; rfl, h2⟩
/-- a loop by a measure -/
theorem q_while {τ ρ : Type} (b : τ → Option (τ ⊕ ρ)) (Inv : τ → Prop) (Post : ρ → Prop) (μ : τ → Nat)
    (hs : ∀ t, Inv t → (∃ t', b t = some (.inl t') ∧ Inv t' ∧ μ t' < μ t) ∨ (∃ r, b t = some (.inr r) ∧ Post r)) :
    ∀ (m : Nat) (t : τ) (fu : Nat), μ t ≤ m → Inv t → m < fu → ∃ r, mx_lp b fu t = some r ∧ Post r
  | m, t, fu, hm, hi, hf => by
    obtain ⟨f, rfl⟩ : ∃ f, fu = f + 1 := ⟨fu - 1, by omega⟩
    rcases hs t hi with ⟨t', h1, h2, h3⟩ | ⟨r, h1, h2⟩
    · obtain ⟨m', rfl⟩ : ∃ m', m = m' + 1 := ⟨m - 1, by omega⟩
      obtain ⟨r, h4, h5⟩ := q_while b Inv Post μ hs m' t' f (by omega) h2 (by omega)
      exact ⟨r, by rw [mx_lpS, h1]; exact h4, h5⟩
    · exact ⟨r, by rw [mx_lpS, h1]; rfl, h2⟩
/-! whole numbers of the machine -/
theorem q_bm32 {n : Int} (h1 : -2147483648 ≤ n) (h2 : n < 2147483648) : n.bmod (2 ^ 32) = n := Int.bmod_eq_of_le (by omega) (by omega)
theorem q_bm64 {n : Int} (h1 : -9223372036854775808 ≤ n) (h2 : n < 9223372036854775808) : n.bmod (2 ^ 64) = n := Int.bmod_eq_of_le (by omega) (by omega)
theorem q_iadd {x y : Int32} (h1 : -2147483648 ≤ x.toInt + y.toInt) (h2 : x.toInt + y.toInt < 2147483648) : (x + y).toInt = x.toInt + y.toInt := by
  rw [Int32.toInt_add, q_bm32 h1 h2]
theorem q_isub {x y : Int32} (h1 : -2147483648 ≤ x.toInt - y.toInt) (h2 : x.toInt - y.toInt < 2147483648) : (x - y).toInt = x.toInt - y.toInt := by
  rw [Int32.toInt_sub, q_bm32 h1 h2]
theorem q_imul {x y : Int32} (h1 : -2147483648 ≤ x.toInt * y.toInt) (h2 : x.toInt * y.toInt < 2147483648) : (x * y).toInt = x.toInt * y.toInt := by
  rw [Int32.toInt_mul, q_bm32 h1 h2]
theorem q_ladd {x y : Int64} (h1 : -9223372036854775808 ≤ x.toInt + y.toInt) (h2 : x.toInt + y.toInt < 9223372036854775808) : (x + y).toInt = x.toInt + y.toInt := by
  rw [Int64.toInt_add, q_bm64 h1 h2]
theorem q_lsub {x y : Int64} (h1 : -9223372036854775808 ≤ x.toInt - y.toInt) (h2 : x.toInt - y.toInt < 9223372036854775808) : (x - y).toInt = x.toInt - y.toInt := by
  rw [Int64.toInt_sub, q_bm64 h1 h2]
theorem q_lmul {x y : Int64} (h1 : -9223372036854775808 ≤ x.toInt * y.toInt) (h2 : x.toInt * y.toInt < 9223372036854775808) : (x * y).toInt = x.toInt * y.toInt := by
  rw [Int64.toInt_mul, q_bm64 h1 h2]
theorem q_lneg {x : Int64} (h : -9223372036854775808 < x.toInt) : (-x).toInt = -x.toInt := by
  rw [Int64.toInt_neg, q_bm64 (by have := x.toInt_lt; omega) (by omega)]
theorem q_ineg {x : Int32} (h : -2147483648 < x.toInt) : (-x).toInt = -x.toInt := by
  rw [Int32.toInt_neg, q_bm32 (by have := x.toInt_lt; omega) (by omega)]
theorem q_le {x y : Int32} : x ≤ y ↔ x.toInt ≤ y.toInt := Int32.le_iff_toInt_le
theorem q_lt {x y : Int32} : x < y ↔ x.toInt < y.toInt := Int32.lt_iff_toInt_lt
theorem q_eq {x y : Int32} : x = y ↔ x.toInt = y.toInt := Int32.toInt_inj.symm
theorem q_lle {x y : Int64} : x ≤ y ↔ x.toInt ≤ y.toInt := Int64.le_iff_toInt_le
theorem q_llt {x y : Int64} : x < y ↔ x.toInt < y.toInt := Int64.lt_iff_toInt_lt
theorem q_leq {x y : Int64} : x = y ↔ x.toInt = y.toInt := Int64.toInt_inj.symm
theorem q_i0 : (0 : Int32).toInt = 0 := rfl
theorem q_i1 : (1 : Int32).toInt = 1 := rfl
theorem q_l0 : (0 : Int64).toInt = 0 := rfl
theorem q_l1 : (1 : Int64).toInt = 1 := rfl
/-- an index, as a Nat -/
def q_n (k : Nat) : Int32 := Int32.ofNat k
theorem q_nT {k : Nat} (h : k < 2147483648) : (q_n k).toInt = k := Int32.toInt_ofNat_of_lt h
theorem q_nS (k : Nat) : q_n k + 1 = q_n (k + 1) := (Int32.ofNat_add k 1).symm
theorem q_n0 : (0 : Int32) = q_n 0 := rfl
theorem q_ofT {i : Int32} (h : 0 ≤ i.toInt) : i = q_n i.toInt.toNat := by
  have h2 := i.toInt_lt
  rw [q_eq, q_nT (by omega)]; omega
theorem q_nI {k l : Nat} (hk : k < 2147483648) (hl : l < 2147483648) : q_n k = q_n l ↔ k = l := by
  rw [q_eq, q_nT hk, q_nT hl]; omega
theorem q_nLe {k l : Nat} (hk : k < 2147483648) (hl : l < 2147483648) : q_n k ≤ q_n l ↔ k ≤ l := by
  rw [q_le, q_nT hk, q_nT hl]; omega
theorem q_nLt {k l : Nat} (hk : k < 2147483648) (hl : l < 2147483648) : q_n k < q_n l ↔ k < l := by
  rw [q_lt, q_nT hk, q_nT hl]; omega
theorem q_nN {k : Nat} (h : k < 2147483648) : (q_n k).toInt.toNat = k := by rw [q_nT h]; omega
/-! comparison of longs -/
theorem q_cmpT (x y : Int64) : (lg_cmp x y).toInt = if y.toInt < x.toInt then 1 else if x.toInt = y.toInt then 0 else -1 := by
  unfold lg_cmp
  simp only [gt_iff_lt, q_llt, q_leq]
  split
  · rfl
  · split <;> rfl
theorem q_cmp0 {x y : Int64} : lg_cmp x y = 0 ↔ x = y := by
  rw [q_eq, q_cmpT, q_leq, q_i0]; split
  · omega
  · split <;> omega
theorem q_cmp_le {x y : Int64} : lg_cmp x y ≤ 0 ↔ x ≤ y := by
  rw [q_le, q_cmpT, q_lle, q_i0]; split
  · omega
  · split <;> omega
theorem q_cmp_lt {x y : Int64} : lg_cmp x y < 0 ↔ x < y := by
  rw [q_lt, q_cmpT, q_llt, q_i0]; split
  · omega
  · split <;> omega
