/-! ===== bx: a small calculus of what must hold; boxes by whole numbers ===== -/
section BXA
def Wp {α : Type} (o : Option α) (Q : α → Prop) : Prop := ∃ a, o = some a ∧ Q a
theorem Wp_s {α : Type} {a : α} {Q : α → Prop} (h : Q a) : Wp (some a) Q := ⟨a, rfl, h⟩
theorem Wp_e {α : Type} {o : Option α} {a : α} {Q : α → Prop} (e : o = some a) (h : Q a) : Wp o Q := ⟨a, e, h⟩
theorem Wp_b {α β : Type} {o : Option α} {f : α → Option β} {Q : β → Prop} (h : Wp o fun a => Wp (f a) Q) : Wp (o.bind f) Q := by
  obtain ⟨a, rfl, h⟩ := h; exact h
theorem Wp_b2 {α β γ : Type} {o : Option (α × β)} {g : α → β → Option γ} {Q : γ → Prop} (h : Wp o fun p => Wp (g p.1 p.2) Q) : Wp (mx_b2 o g) Q := by
  obtain ⟨⟨a, b⟩, rfl, h⟩ := h; exact h
theorem Wp_mo {α : Type} {o : Option α} {Q R : α → Prop} (h : Wp o Q) (hq : ∀ a, Q a → R a) : Wp o R := by
  obtain ⟨a, e, h⟩ := h; exact ⟨a, e, hq a h⟩
theorem Wp_ite {α : Type} {c : Prop} [Decidable c] {a b : Option α} {Q : α → Prop} (h1 : c → Wp a Q) (h2 : ¬ c → Wp b Q) : Wp (if c then a else b) Q := by
  by_cases h : c
  · rw [if_pos h]; exact h1 h
  · rw [if_neg h]; exact h2 h
/-! whole numbers -/
theorem q_shr (x : Int64) : (x >>> ((16 : Int32).toInt64 &&& 63)).toInt = x.toInt / 65536 := by
  have e : ((16 : Int32).toInt64 &&& 63) = (16 : Int64) := by decide
  rw [e]
  show (BitVec.sshiftRight' x.toBitVec ((16 : Int64).toBitVec.smod 64)).toInt = _
  have e2 : ((16 : Int64).toBitVec.smod 64) = (16 : BitVec 64) := by decide
  rw [e2, BitVec.toInt_sshiftRight']
  show x.toBitVec.toInt >>> (16 : Nat) = _
  rw [Int.shiftRight_eq_div_pow]; rfl
theorem q_shl {x : Int64} (h0 : 0 ≤ x.toInt) (h1 : x.toInt ≤ 2147483648) : (x <<< ((16 : Int32).toInt64 &&& 63)).toInt = 65536 * x.toInt := by
  have e : ((16 : Int32).toInt64 &&& 63) = (16 : Int64) := by decide
  rw [e]
  show (x.toBitVec <<< ((16 : Int64).toBitVec.smod 64)).toInt = _
  have e2 : ((16 : Int64).toBitVec.smod 64) = (16 : BitVec 64) := by decide
  rw [e2]
  show (x.toBitVec <<< (16 : Nat)).toInt = _
  rw [BitVec.toInt_shiftLeft]
  have hn : (x.toBitVec.toNat : Int) = x.toInt := by
    have h2 : x.toInt = x.toBitVec.toInt := rfl
    rw [BitVec.toInt_eq_toNat_cond] at h2
    split at h2
    · omega
    · have := x.toBitVec.isLt
      omega
  rw [Nat.shiftLeft_eq]
  have : ((x.toBitVec.toNat * 2 ^ 16 : Nat) : Int) = 65536 * x.toInt := by rw [Int.natCast_mul, hn]; omega
  rw [this, q_bm64 (by omega) (by omega)]
/-- the floor, for a divisor above 0 -/
theorem q_tdv {a b : Int} (hb : 0 < b) : a.tdiv b = a / b + (if 0 ≤ a ∨ b ∣ a then 0 else 1) := by
  rw [Int.tdiv_eq_ediv]
  have : b.sign = 1 := Int.sign_eq_one_of_pos hb
  rw [this]
theorem fl_le {a b : Int} (hb : 0 < b) : a / b * b ≤ a := Int.ediv_mul_le a (by omega)
theorem fl_lt {a b : Int} (hb : 0 < b) : a < (a / b + 1) * b := Int.lt_ediv_add_one_mul_self a hb
theorem fl_bd {a b : Int} (hb : 0 < b) {n : Int} (h1 : -n ≤ a) (h2 : a ≤ n) (hn : 0 ≤ n) : -n ≤ a / b ∧ a / b ≤ n := by
  constructor
  · rw [Int.le_ediv_iff_mul_le hb]
    have : -n * b ≤ -n * 1 := Int.mul_le_mul_of_nonpos_left (by omega) (by omega)
    omega
  · by_cases h : 0 ≤ a
    · have := Int.ediv_le_self b h
      omega
    · have : a / b < 0 := Int.ediv_neg_of_neg_of_pos (by omega) hb
      omega
theorem k_fdiv {P : mx_P} {x y : Int64} (hy : 0 < y.toInt) (hx : -9223372036854775808 < x.toInt) (σ : mx_S) : ∃ r, f_J9_floorDiv_f86c9 P x y σ = some (r, σ) ∧ r.toInt = x.toInt / y.toInt := by
  have h9 := x.toInt_lt
  have hy9 := y.toInt_lt
  obtain ⟨b1, b2⟩ := fl_bd (a := x.toInt) hy (n := 9223372036854775807) (by omega) (by omega) (by omega)
  have hy0 : ¬ y = 0 := fun z => by rw [q_leq, q_l0] at z; omega
  have hd : (x / y).toInt = x.toInt.tdiv y.toInt := Int64.toInt_div_of_ne_left x y (fun z => by rw [z] at hx; exact absurd hx (by decide))
  have ht := q_tdv (a := x.toInt) hy
  unfold f_J9_floorDiv_f86c9 f_J9_floorDiv_f86c9_D27 md_L
  rw [if_neg hy0, Option.bind_some]
  have hxor : (0 ≤ lg_cmp (x ^^^ y) 0) ↔ 0 ≤ x.toInt := by
    rw [q_cmp_ge, q_lle, q_l0]
    have h1 : (x ^^^ y).toBitVec.msb = (x.toBitVec.msb ^^ y.toBitVec.msb) := by
      rw [Int64.toBitVec_xor, BitVec.msb_xor]
    have h2 : y.toBitVec.msb = false := by
      rw [BitVec.msb_eq_toInt]; simp only [decide_eq_false_iff_not]; show ¬ y.toInt < 0; omega
    have h3 : (0 ≤ (x ^^^ y).toInt) ↔ (x ^^^ y).toBitVec.msb = false := by
      rw [BitVec.msb_eq_toInt]; simp only [decide_eq_false_iff_not]; show _ ↔ ¬ (x ^^^ y).toInt < 0; omega
    have h4 : (0 ≤ x.toInt) ↔ x.toBitVec.msb = false := by
      rw [BitVec.msb_eq_toInt]; simp only [decide_eq_false_iff_not]; show _ ↔ ¬ x.toInt < 0; omega
    rw [h3, h4, h1, h2, Bool.xor_false]
  by_cases h0 : 0 ≤ x.toInt
  · rw [if_pos (hxor.mpr h0)]
    exact ⟨_, rfl, by rw [hd, ht, if_pos (Or.inl h0)]; omega⟩
  · rw [if_neg (fun z => h0 (hxor.mp z))]
    have hmul : (x / y * y).toInt = (x / y).toInt * y.toInt := by
      have f1 := fl_le (a := x.toInt) hy
      have f2 := fl_lt (a := x.toInt) hy
      have f3 : x.toInt / y.toInt < 0 := Int.ediv_neg_of_neg_of_pos (by omega) hy
      have f4 : (x.toInt / y.toInt + 1) * y.toInt ≤ 0 := Int.mul_nonpos_of_nonpos_of_nonneg (by omega) (by omega)
      have f5 : (x.toInt / y.toInt + 1) * y.toInt = x.toInt / y.toInt * y.toInt + y.toInt := by rw [Int.add_mul, Int.one_mul]
      have f6 : x.toInt.tdiv y.toInt * y.toInt = x.toInt / y.toInt * y.toInt ∧ y.toInt ∣ x.toInt ∨ x.toInt.tdiv y.toInt * y.toInt = (x.toInt / y.toInt + 1) * y.toInt := by
        rw [ht]
        by_cases hc : y.toInt ∣ x.toInt
        · rw [if_pos (Or.inr hc), Int.add_zero]; exact Or.inl ⟨rfl, hc⟩
        · rw [if_neg (by rintro (z | z); exact h0 z; exact hc z)]; exact Or.inr rfl
      rcases f6 with ⟨f6, f7⟩ | f6
      · rw [Int.ediv_mul_cancel f7] at f6
        exact q_lmul (by rw [hd]; omega) (by rw [hd]; omega)
      · exact q_lmul (by rw [hd]; omega) (by rw [hd]; omega)
    by_cases hc : y.toInt ∣ x.toInt
    · have he : lg_cmp (x / y * y) x = 0 := by
        rw [q_cmp0, q_leq, hmul, hd, ht, if_pos (Or.inr hc), Int.add_zero, Int.ediv_mul_cancel hc]
      rw [if_pos he]
      exact ⟨_, rfl, by rw [hd, ht, if_pos (Or.inr hc)]; omega⟩
    · have he : ¬ lg_cmp (x / y * y) x = 0 := by
        rw [q_cmp0, q_leq, hmul, hd]
        intro z
        exact hc ⟨x.toInt.tdiv y.toInt, by rw [Int.mul_comm]; exact z.symm⟩
      rw [if_neg he]
      rw [if_neg (by rintro (z | z); exact h0 z; exact hc z)] at ht
      refine ⟨_, rfl, ?_⟩
      rw [q_lsub (by rw [hd, ht, q_l1]; omega) (by rw [hd, ht, q_l1]; omega), hd, ht, q_l1]; omega
end BXA
