/-! ===== if: bits; the order ===== -/
section IFS
variable {P : mx_P} {σ σ0 σ1 σ2 τ : mx_S} {x m n t l p a N i k j u K c r : Nat}
theorem sh63 : ∀ p : Fin 40, ((q_n p.1).toInt64 &&& 63) = l_n p.1 ∧ (l_n p.1).toBitVec.smod 64 = BitVec.ofNat 64 p.1 := by decide +kernel
theorem and1z (y : BitVec 64) : y &&& 1#64 = 0#64 ↔ y.getLsbD 0 = false := by
  rw [← BitVec.toNat_inj, BitVec.toNat_and, ← BitVec.testBit_toNat, Nat.testBit_zero]
  show y.toNat &&& 1 = 0 ↔ _
  rw [Nat.and_one_is_mod, decide_eq_false_iff_not]
  omega
/-- which bits are set -/
def btO (v : Int64) (o : List Nat) : Prop := ∀ q, q < 40 → (v.toBitVec.getLsbD q = true ↔ q ∈ o)
theorem bt_t {v : Int64} (hp : p < 40) : lg_cmp ((v >>> ((q_n p).toInt64 &&& 63)) &&& (1 : Int64)) (0 : Int64) = 0 ↔ v.toBitVec.getLsbD p = false := by
  rw [q_cmp0, (sh63 ⟨p, hp⟩).1, ← Int64.toBitVec_inj]
  show v.toBitVec.sshiftRight' ((l_n p).toBitVec.smod 64) &&& 1#64 = 0#64 ↔ _
  rw [(sh63 ⟨p, hp⟩).2, and1z, BitVec.sshiftRight_eq', BitVec.getLsbD_sshiftRight]
  have e : (BitVec.ofNat 64 p).toNat = p := by rw [BitVec.toNat_ofNat]; omega
  rw [e, Nat.add_zero, if_pos (by omega)]
  simp
theorem bt_o {v : Int64} {o : List Nat} (hp : p < 40) (h : btO v o) : btO (v ||| ((1 : Int64) <<< ((q_n p).toInt64 &&& 63))) (o ++ [p]) := by
  intro q hq
  have e : (BitVec.ofNat 64 p).toNat = p := by rw [BitVec.toNat_ofNat]; omega
  have e2 : (v ||| ((1 : Int64) <<< ((q_n p).toInt64 &&& 63))).toBitVec = v.toBitVec ||| (1#64 <<< p) := by
    rw [(sh63 ⟨p, hp⟩).1]
    show v.toBitVec ||| (1#64 <<< ((l_n p).toBitVec.smod 64)) = _
    rw [(sh63 ⟨p, hp⟩).2, BitVec.shiftLeft_eq', e]
  have e3 : (1#64 <<< p).getLsbD q = decide (q = p) := by
    rw [BitVec.getLsbD_shiftLeft]
    by_cases c : q = p
    · subst c; simp; omega
    · rw [decide_eq_false c]
      by_cases c2 : q < p
      · simp [c2]
      · have : (1#64).getLsbD (q - p) = false := by
          rw [← BitVec.testBit_toNat]
          show Nat.testBit 1 (q - p) = false
          obtain ⟨d, hd⟩ : ∃ d, q - p = d + 1 := ⟨q - p - 1, by omega⟩
          rw [hd, Nat.testBit_succ]
          simp
        rw [this]; simp
  rw [e2, BitVec.getLsbD_or, e3, Bool.or_eq_true, h q hq, decide_eq_true_iff, List.mem_append, List.mem_singleton]
/-- one point, one pass, the passes -/
def adA (A : Nat → Nat → Nat) (np : Nat → Nat) (o : List Nat) (p : Nat) : List Nat := if p ∈ o then o else if ∀ j, j < np p → A p j ∈ o then o ++ [p] else o
def paA (A : Nat → Nat → Nat) (np : Nat → Nat) (o : List Nat) : Nat → List Nat
  | 0 => o
  | p + 1 => adA A np (paA A np o p) p
def rnA (A : Nat → Nat → Nat) (np : Nat → Nat) (K : Nat) : Nat → List Nat
  | 0 => []
  | r + 1 => paA A np (rnA A np K r) K
end IFS
