/-! ===== ju: bits of whole numbers ===== -/
section JUS
variable {P : mx_P} {σ : mx_S} {w : Int32} {p q c d s : Nat}
theorem kb_31 : ∀ p : Fin 32, ((q_n p.1) &&& 31) = q_n p.1 ∧ (q_n p.1).toBitVec.smod 32 = BitVec.ofNat 32 p.1 := by decide +kernel
theorem kb_and1 (y : BitVec 32) : (y &&& 1#32 = 1#32 ↔ y.getLsbD 0 = true) ∧ (y &&& 1#32 = 0#32 ↔ y.getLsbD 0 = false) := by
  rw [← BitVec.toNat_inj, ← BitVec.toNat_inj, BitVec.toNat_and, ← BitVec.testBit_toNat, Nat.testBit_zero]
  show (y.toNat &&& 1 = 1 ↔ _) ∧ (y.toNat &&& 1 = 0 ↔ _)
  rw [Nat.and_one_is_mod, decide_eq_false_iff_not, decide_eq_true_iff]
  omega
theorem kb_g (hp : p < 32) : (w.toBitVec.sshiftRight' ((q_n p).toBitVec.smod 32)).getLsbD 0 = w.toBitVec.getLsbD p := by
  rw [(kb_31 ⟨p, hp⟩).2, BitVec.sshiftRight_eq', BitVec.getLsbD_sshiftRight]
  have e : (BitVec.ofNat 32 p).toNat = p := by rw [BitVec.toNat_ofNat]; omega
  rw [e, Nat.add_zero, if_pos (by omega)]
  simp
theorem kb_t (hp : p < 32) : ((w >>> (q_n p &&& 31)) &&& (1 : Int32)) = 1 ↔ w.toBitVec.getLsbD p = true := by
  rw [(kb_31 ⟨p, hp⟩).1, ← Int32.toBitVec_inj]
  show w.toBitVec.sshiftRight' ((q_n p).toBitVec.smod 32) &&& 1#32 = 1#32 ↔ _
  rw [(kb_and1 _).1, kb_g hp]
theorem kb_z (hp : p < 32) : ((w >>> (q_n p &&& 31)) &&& (1 : Int32)) = 0 ↔ w.toBitVec.getLsbD p = false := by
  rw [(kb_31 ⟨p, hp⟩).1, ← Int32.toBitVec_inj]
  show w.toBitVec.sshiftRight' ((q_n p).toBitVec.smod 32) &&& 1#32 = 0#32 ↔ _
  rw [(kb_and1 _).2, kb_g hp]
theorem kb_n (hp : p < 32) : (q_n c).toBitVec.getLsbD p = c.testBit p := by
  show (BitVec.ofNat 32 c).getLsbD p = _
  rw [BitVec.getLsbD_ofNat, decide_eq_true hp, Bool.true_and]
theorem kb_tn (hp : p < 32) : ((q_n c >>> (q_n p &&& 31)) &&& (1 : Int32)) = 1 ↔ c.testBit p = true := by rw [kb_t hp, kb_n hp]
theorem kb_zn (hp : p < 32) : ((q_n c >>> (q_n p &&& 31)) &&& (1 : Int32)) = 0 ↔ c.testBit p = false := by rw [kb_z hp, kb_n hp]
theorem kb_v (hp : p < 32) : ((q_n c >>> (q_n p &&& 31)) &&& (1 : Int32)) = q_n (c.testBit p).toNat := by
  cases e : c.testBit p with
  | true => exact (kb_tn hp).mpr e
  | false => exact (kb_zn hp).mpr e
theorem kb_o (hp : p < 32) (hq : q < 32) : (w ||| ((1 : Int32) <<< (q_n p &&& 31))).toBitVec.getLsbD q = (w.toBitVec.getLsbD q || decide (q = p)) := by
  have e : (BitVec.ofNat 32 p).toNat = p := by rw [BitVec.toNat_ofNat]; omega
  have e2 : (w ||| ((1 : Int32) <<< (q_n p &&& 31))).toBitVec = w.toBitVec ||| (1#32 <<< p) := by
    rw [(kb_31 ⟨p, hp⟩).1]
    show w.toBitVec ||| (1#32 <<< ((q_n p).toBitVec.smod 32)) = _
    rw [(kb_31 ⟨p, hp⟩).2, BitVec.shiftLeft_eq', e]
  have e3 : (1#32 <<< p).getLsbD q = decide (q = p) := by
    rw [BitVec.getLsbD_shiftLeft]
    by_cases c : q = p
    · subst c; simp; omega
    · rw [decide_eq_false c]
      by_cases c2 : q < p
      · simp [c2]
      · have : (1#32).getLsbD (q - p) = false := by
          rw [← BitVec.testBit_toNat]
          show Nat.testBit 1 (q - p) = false
          obtain ⟨d, hd⟩ : ∃ d, q - p = d + 1 := ⟨q - p - 1, by omega⟩
          rw [hd, Nat.testBit_succ]
          simp
        rw [this]; simp
  rw [e2, BitVec.getLsbD_or, e3]
theorem kb_1 : ∀ b : Fin 31, ((1 : Int32) <<< (q_n b.1 &&& 31)) = q_n (2 ^ b.1) := by decide +kernel
theorem kb_0 : (0 : Int32).toBitVec.getLsbD p = false := by
  show (0#32).getLsbD p = false
  simp
theorem kb_m31 : q_n c &&& 31 = q_n (c % 32) := by
  show q_n c &&& q_n 31 = _
  rw [q_and, show (31 : Nat) = 2 ^ 5 - 1 from rfl, Nat.and_two_pow_sub_one_eq_mod]
theorem kb_us (hc : c < 4294967296) (hs : s < 32) : ((q_n c).toUInt32 >>> ((q_n s).toUInt32 &&& Int32.toUInt32 31)).toInt32 = q_n (c >>> s) := by
  have e1 : (q_n s).toUInt32 &&& Int32.toUInt32 31 = (q_n s).toUInt32 := by
    have := (kb_31 ⟨s, hs⟩).1
    rw [← Int32.toUInt32_and]; exact congrArg _ this
  rw [e1, ← Int32.toBitVec_inj]
  show BitVec.ofNat 32 c >>> ((BitVec.ofNat 32 s) % 32) = BitVec.ofNat 32 (c >>> s)
  apply BitVec.eq_of_toNat_eq
  have e2 : (BitVec.ofNat 32 s % 32).toNat = s := by
    rw [BitVec.toNat_umod, BitVec.toNat_ofNat]
    show s % 2 ^ 32 % 32 = s
    omega
  rw [BitVec.ushiftRight_eq', e2, BitVec.toNat_ushiftRight, BitVec.toNat_ofNat, BitVec.toNat_ofNat, Nat.mod_eq_of_lt (show c < 2 ^ 32 by omega), Nat.mod_eq_of_lt]
  exact Nat.lt_of_le_of_lt (Nat.shiftRight_le c s) (by omega)
theorem kb_5 (hc : c < 2147483648) : q_n c >>> ((5 : Int32) &&& 31) = q_n (c / 32) := by
  apply Int32.toInt.inj
  rw [q_nT (by omega)]
  have e : ((5 : Int32) &&& 31) = (5 : Int32) := by decide
  rw [e]
  show (BitVec.sshiftRight' (q_n c).toBitVec ((5 : Int32).toBitVec.smod 32)).toInt = _
  have e2 : ((5 : Int32).toBitVec.smod 32) = (5 : BitVec 32) := by decide
  rw [e2, BitVec.toInt_sshiftRight']
  show (q_n c).toInt >>> (5 : Nat) = _
  rw [Int.shiftRight_eq_div_pow, q_nT hc]
  show ((c : Int) / ((2 ^ 5 : Nat) : Int)) = _
  omega
def kbN1 (c : Nat) : Nat := Nat.sub c (Nat.land (Nat.shiftRight c 1) 1431655765)
def kbN2 (c : Nat) : Nat := Nat.add (Nat.land (kbN1 c) 858993459) (Nat.land (Nat.shiftRight (kbN1 c) 2) 858993459)
def kbN3 (c : Nat) : Nat := Nat.land (Nat.add (kbN2 c) (Nat.shiftRight (kbN2 c) 4)) 252645135
def kbN4 (c : Nat) : Nat := Nat.add (kbN3 c) (Nat.shiftRight (kbN3 c) 8)
def kbN5 (c : Nat) : Nat := Nat.add (kbN4 c) (Nat.shiftRight (kbN4 c) 16)
def kbN (c : Nat) : Nat := Nat.land (kbN5 c) 63
def kbA (f : Nat → Bool) : Nat → Nat → Bool
  | 0, c => f c
  | k + 1, c => bif kbA f k (Nat.mul 2 c) then kbA f k (Nat.add (Nat.mul 2 c) 1) else false
theorem kbA_a (f : Nat → Bool) (k : Nat) : ∀ c, kbA f k c = true → ∀ i, c * 2 ^ k ≤ i → i < (c + 1) * 2 ^ k → f i = true := by
  induction k with
  | zero => intro c h i h1 h2; rw [show i = c by omega]; exact h
  | succ k ih =>
    intro c h i h1 h2
    have h : (bif kbA f k (2 * c) then kbA f k (2 * c + 1) else false) = true := h
    cases e : kbA f k (2 * c) with
    | false => rw [e, cond_false] at h; exact absurd h (by decide)
    | true =>
      rw [e] at h
      have e1 : 2 * c * 2 ^ k = c * 2 ^ (k + 1) := by rw [Nat.pow_succ]; grind
      have e2 : (2 * c + 1) * 2 ^ k = c * 2 ^ (k + 1) + 2 ^ k := by rw [Nat.pow_succ]; grind
      have e3 : (2 * c + 1 + 1) * 2 ^ k = (c + 1) * 2 ^ (k + 1) := by rw [Nat.pow_succ]; grind
      by_cases z : i < (2 * c + 1) * 2 ^ k
      · exact ih (2 * c) e i (by omega) z
      · exact ih (2 * c + 1) h i (by omega) (by omega)
theorem kbN_e : kbA (fun c => Nat.beq (kbN c) (kqcb [0, 1, 2, 3, 4, 5, 6, 7, 8, 9, 10, 11, 12, 13, 14] c)) 15 0 = true := by decide +kernel
theorem kbN_w (hc : c < 32768) : kbN c = kqw c := by
  have h := Nat.eq_of_beq_eq_true (kbA_a _ 15 0 kbN_e c (by omega) (by omega))
  rw [h]
  simp only [kqcb_c, kqcb_n]
  unfold kqw
  simp only [kqs]
  omega
theorem kb_bc (hc : c < 32768) : f_J6_bitCount_0f7a4 P (q_n c) σ = some (q_n (kqw c), σ) := by
  have la : ∀ a b : Nat, Nat.land a b ≤ a := fun a b => Nat.and_le_left
  have lr : ∀ a b : Nat, Nat.shiftRight a b ≤ a := fun a b => Nat.shiftRight_le a b
  have b1 : kbN1 c ≤ c := Nat.sub_le _ _
  have b2 : kbN2 c ≤ 2 * c := by
    have h1 := la (kbN1 c) 858993459
    have h2 := la (Nat.shiftRight (kbN1 c) 2) 858993459
    have h3 := lr (kbN1 c) 2
    show Nat.land (kbN1 c) 858993459 + Nat.land (Nat.shiftRight (kbN1 c) 2) 858993459 ≤ _
    omega
  have b3 : kbN3 c ≤ 4 * c := by
    have h1 := la (kbN2 c + Nat.shiftRight (kbN2 c) 4) 252645135
    have h3 := lr (kbN2 c) 4
    show Nat.land (kbN2 c + Nat.shiftRight (kbN2 c) 4) 252645135 ≤ _
    omega
  have b4 : kbN4 c ≤ 8 * c := by
    have h3 := lr (kbN3 c) 8
    show kbN3 c + Nat.shiftRight (kbN3 c) 8 ≤ _
    omega
  have s1 : Nat.land (Nat.shiftRight c 1) 1431655765 ≤ c := Nat.le_trans (la _ _) (lr _ _)
  unfold f_J6_bitCount_0f7a4
  have c1 : q_n c - ((((q_n c).toUInt32 >>> ((1 : Int32).toUInt32 &&& Int32.toUInt32 31)).toInt32) &&& (1431655765 : Int32)) = q_n (kbN1 c) := by
    rw [show ((q_n c).toUInt32 >>> ((1 : Int32).toUInt32 &&& Int32.toUInt32 31)).toInt32 = q_n (c >>> 1) from kb_us (s := 1) (by omega) (by omega)]
    show q_n c - (q_n (c >>> 1) &&& q_n 1431655765) = _
    rw [q_and]
    exact nsub (by omega) s1
  have c2 : (q_n (kbN1 c) &&& (858993459 : Int32)) + ((((q_n (kbN1 c)).toUInt32 >>> ((2 : Int32).toUInt32 &&& Int32.toUInt32 31)).toInt32) &&& (858993459 : Int32)) = q_n (kbN2 c) := by
    rw [show ((q_n (kbN1 c)).toUInt32 >>> ((2 : Int32).toUInt32 &&& Int32.toUInt32 31)).toInt32 = q_n ((kbN1 c) >>> 2) from kb_us (s := 2) (by omega) (by omega)]
    show (q_n (kbN1 c) &&& q_n 858993459) + (q_n (kbN1 c >>> 2) &&& q_n 858993459) = _
    rw [q_and, q_and]
    exact (Int32.ofNat_add _ _).symm
  have c3 : (q_n (kbN2 c) + (((q_n (kbN2 c)).toUInt32 >>> ((4 : Int32).toUInt32 &&& Int32.toUInt32 31)).toInt32)) &&& (252645135 : Int32) = q_n (kbN3 c) := by
    rw [show ((q_n (kbN2 c)).toUInt32 >>> ((4 : Int32).toUInt32 &&& Int32.toUInt32 31)).toInt32 = q_n ((kbN2 c) >>> 4) from kb_us (s := 4) (by omega) (by omega)]
    have : q_n (kbN2 c) + q_n (kbN2 c >>> 4) = q_n (kbN2 c + kbN2 c >>> 4) := (Int32.ofNat_add _ _).symm
    rw [this]
    show q_n _ &&& q_n 252645135 = _
    rw [q_and]
    rfl
  have c4 : q_n (kbN3 c) + (((q_n (kbN3 c)).toUInt32 >>> ((8 : Int32).toUInt32 &&& Int32.toUInt32 31)).toInt32) = q_n (kbN4 c) := by
    rw [show ((q_n (kbN3 c)).toUInt32 >>> ((8 : Int32).toUInt32 &&& Int32.toUInt32 31)).toInt32 = q_n ((kbN3 c) >>> 8) from kb_us (s := 8) (by omega) (by omega)]
    exact (Int32.ofNat_add _ _).symm
  have c5 : q_n (kbN4 c) + (((q_n (kbN4 c)).toUInt32 >>> ((16 : Int32).toUInt32 &&& Int32.toUInt32 31)).toInt32) = q_n (kbN5 c) := by
    rw [show ((q_n (kbN4 c)).toUInt32 >>> ((16 : Int32).toUInt32 &&& Int32.toUInt32 31)).toInt32 = q_n ((kbN4 c) >>> 16) from kb_us (s := 16) (by omega) (by omega)]
    exact (Int32.ofNat_add _ _).symm
  have c6 : q_n (kbN5 c) &&& (63 : Int32) = q_n (kbN c) := q_and _ 63
  rw [Option.bind_some, c1, Option.bind_some, c2, Option.bind_some, c3, Option.bind_some, c4, Option.bind_some, c5, c6, kbN_w hc]
end JUS
