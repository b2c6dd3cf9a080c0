/-! ===== hj: letters, names, point ===== -/
section HJS
variable {P : mx_P} {σ σ0 σ1 σ2 τ : mx_S} {x m n t : Nat} {S T : Nat → Nat → Prop} {bs : List Nat}
theorem l_shl8 (a : Nat) : l_n a <<< ((8 : Int32).toInt64 &&& 63) = l_n (a * 256) := by
  have e : ((8 : Int32).toInt64 &&& 63) = (8 : Int64) := by decide
  rw [e, ← Int64.toBitVec_inj]
  show BitVec.ofNat 64 a <<< ((8 : Int64).toBitVec.smod 64) = BitVec.ofNat 64 (a * 256)
  have e2 : ((8 : Int64).toBitVec.smod 64) = (8 : BitVec 64) := by decide
  rw [e2]
  show BitVec.ofNat 64 a <<< (8 : Nat) = BitVec.ofNat 64 (a * 256)
  apply BitVec.eq_of_toNat_eq
  rw [BitVec.toNat_shiftLeft, BitVec.toNat_ofNat, BitVec.toNat_ofNat, Nat.shiftLeft_eq]
  omega
theorem pk_step {a b : Nat} (hb : b < 256) : (l_n a <<< ((8 : Int32).toInt64 &&& 63)) ||| (q_n b).toInt64 = l_n (a * 256 + b) := by
  rw [l_shl8, q_nL (by omega), l_or, show a * 256 = 2 ^ 8 * a by omega, ← Nat.two_pow_add_eq_or_of_lt (by omega)]
theorem pk_snoc {l : List Nat} {b : Nat} : pk (l ++ [b]) = pk l * 256 + b := by unfold pk; rw [List.foldl_append]; rfl
theorem pkf_eq : ∀ (l : List Nat) (a : Nat), l.foldl (fun a b => a * 256 + b) a = a * 256 ^ l.length + pk l
  | [], a => by unfold pk; simp
  | b :: l, a => by
    have h1 := pkf_eq l (a * 256 + b)
    have h2 := pkf_eq l (0 * 256 + b)
    unfold pk at *
    rw [List.foldl_cons, List.foldl_cons, h1, h2, List.length_cons, Nat.pow_succ, Nat.add_mul, Nat.zero_mul, Nat.zero_add, Nat.mul_assoc, Nat.mul_comm 256, Nat.add_assoc]
theorem pk_cons {a : Nat} {l : List Nat} : pk (a :: l) = a * 256 ^ l.length + pk l := by
  have := pkf_eq l (0 * 256 + a)
  rw [Nat.zero_mul, Nat.zero_add] at this
  exact (show pk (a :: l) = l.foldl (fun a b => a * 256 + b) (0 * 256 + a) from rfl).trans (by rw [Nat.zero_mul, Nat.zero_add]; exact this)
theorem pn_lt : ∀ (l : List Nat), (∀ b, b ∈ l → b < 256) → pk l < 256 ^ l.length
  | [], _ => by show 0 < 1; omega
  | a :: l, h => by
    rw [pk_cons, List.length_cons, Nat.pow_succ]
    have h1 := pn_lt l fun b hb => h b (List.mem_cons_of_mem _ hb)
    have h2 := h a List.mem_cons_self
    have h3 : a * 256 ^ l.length ≤ 255 * 256 ^ l.length := Nat.mul_le_mul_right _ (by omega)
    omega
theorem pn_63 {l : List Nat} (h : ∀ b, b ∈ l → b < 128) (hl : l.length ≤ 8) : pk l < 9223372036854775808 := by
  cases l with
  | nil => show 0 < _; omega
  | cons a l =>
    rw [pk_cons]
    have h1 := pn_lt l fun b hb => Nat.lt_trans (h b (List.mem_cons_of_mem _ hb)) (by omega)
    have h2 := h a List.mem_cons_self
    have h3 : a * 256 ^ l.length ≤ 127 * 256 ^ l.length := Nat.mul_le_mul_right _ (by omega)
    have h4 : 256 ^ l.length ≤ 256 ^ 7 := Nat.pow_le_pow_right (by omega) (by rw [List.length_cons] at hl; omega)
    have h5 : 256 ^ 7 = 72057594037927936 := by decide
    omega
theorem pn_inj : ∀ (l l' : List Nat), (∀ b, b ∈ l → 0 < b ∧ b < 256) → (∀ b, b ∈ l' → 0 < b ∧ b < 256) → pk l = pk l' → l = l'
  | [], [], _, _, _ => rfl
  | [], a :: l, _, h, e => by
    have h1 := h a List.mem_cons_self
    have h2 : 0 < a * 256 ^ l.length := Nat.mul_pos h1.1 (Nat.pow_pos (by omega))
    rw [pk_cons] at e
    have : pk [] = 0 := rfl
    omega
  | a :: l, [], h, _, e => by
    have h1 := h a List.mem_cons_self
    have h2 : 0 < a * 256 ^ l.length := Nat.mul_pos h1.1 (Nat.pow_pos (by omega))
    rw [pk_cons] at e
    have : pk [] = 0 := rfl
    omega
  | a :: l, b :: r, h, h', e => by
    have k1 := h a List.mem_cons_self
    have k2 := h' b List.mem_cons_self
    have m1 := pn_lt l fun c hc => (h c (List.mem_cons_of_mem _ hc)).2
    have m2 := pn_lt r fun c hc => (h' c (List.mem_cons_of_mem _ hc)).2
    rw [pk_cons, pk_cons] at e
    have len : l.length = r.length := by
      rcases Nat.lt_trichotomy l.length r.length with c | c | c
      · exfalso
        have q1 : 256 ^ (l.length + 1) ≤ 256 ^ r.length := Nat.pow_le_pow_right (by omega) c
        rw [Nat.pow_succ] at q1
        have q2 : a * 256 ^ l.length ≤ 255 * 256 ^ l.length := Nat.mul_le_mul_right _ (by omega)
        have q3 : 1 * 256 ^ r.length ≤ b * 256 ^ r.length := Nat.mul_le_mul_right _ (by omega)
        omega
      · exact c
      · exfalso
        have q1 : 256 ^ (r.length + 1) ≤ 256 ^ l.length := Nat.pow_le_pow_right (by omega) c
        rw [Nat.pow_succ] at q1
        have q2 : b * 256 ^ r.length ≤ 255 * 256 ^ r.length := Nat.mul_le_mul_right _ (by omega)
        have q3 : 1 * 256 ^ l.length ≤ a * 256 ^ l.length := Nat.mul_le_mul_right _ (by omega)
        omega
    rw [len] at e m1
    generalize hw : 256 ^ r.length = w at e m1 m2
    have hab : a = b := by
      rcases Nat.lt_trichotomy a b with c | c | c
      · exfalso
        have q1 : (a + 1) * w ≤ b * w := Nat.mul_le_mul_right _ c
        rw [Nat.add_mul] at q1; omega
      · exact c
      · exfalso
        have q1 : (b + 1) * w ≤ a * w := Nat.mul_le_mul_right _ c
        rw [Nat.add_mul] at q1; omega
    subst hab
    rw [pn_inj l r (fun c hc => h c (List.mem_cons_of_mem _ hc)) (fun c hc => h' c (List.mem_cons_of_mem _ hc)) (by omega)]
/-- a byte as the machine sees it -/
def bA (bs : List Nat) (k : Nat) : Int32 := match bs[k]? with
  | some b => q_n b
  | none => -1
def dgt (b : Int32) : Bool := decide (48 ≤ b.toInt ∧ b.toInt ≤ 57)
theorem c_byte (hT : LyT σ t) (h : TC σ t bs) {k : Nat} (hk : k < 5000) : f_X10_byteAt P t (q_n k) σ = some (bA bs k, σ) := by
  have hl := h.1
  unfold f_X10_byteAt f_X10_byteAt_D25 f_X10_byteAt_D26 bA
  rw [if_neg (by rw [q_lt, q_nT (by omega), q_i0]; omega), bd (at_gI hT), h.2.1]
  by_cases c : bs.length ≤ k
  · rw [if_pos (by rw [q_nLe (by omega) (by omega)]; exact c), List.getElem?_eq_none c]
  · rw [if_neg (by rw [q_nLe (by omega) (by omega)]; exact c), bd (at_r0 hT), bd (at_g0 hT (by omega))]
    have e : bs[k]? = some bs[k] := List.getElem?_eq_getElem (by omega)
    rw [e, (h.2.2 k _ e).2]
theorem c_ltr (b : Int32) : f_X10_isLetter P b σ = some (bI (ltr b), σ) := by
  have y1 : mr_Z 1 σ = some (1, σ) := if_pos (Or.inr rfl)
  have y0 : mr_Z 0 σ = some (0, σ) := if_pos (Or.inl rfl)
  unfold f_X10_isLetter f_X10_isLetter_D12 f_X10_isLetter_D24 f_X10_isLetter_D28 f_X10_isLetter_D29 ltr
  rw [y1, y0]
  simp only [q_lt, q_le, show (97 : Int32).toInt = 97 from rfl, show (122 : Int32).toInt = 122 from rfl, show (65 : Int32).toInt = 65 from rfl, show (90 : Int32).toInt = 90 from rfl]
  repeat' split
  all_goals first | (rw [decide_eq_true (by omega)]; rfl) | (rw [decide_eq_false (by omega)]; rfl)
theorem r_ltr (b : Int32) : f_X12_isLetter P b σ = some (bI (ltr b), σ) := by
  have y1 : mr_Z 1 σ = some (1, σ) := if_pos (Or.inr rfl)
  have y0 : mr_Z 0 σ = some (0, σ) := if_pos (Or.inl rfl)
  unfold f_X12_isLetter f_X12_isLetter_D12 f_X12_isLetter_D24 f_X12_isLetter_D28 f_X12_isLetter_D29 ltr
  rw [y1, y0]
  simp only [q_lt, q_le, show (97 : Int32).toInt = 97 from rfl, show (122 : Int32).toInt = 122 from rfl, show (65 : Int32).toInt = 65 from rfl, show (90 : Int32).toInt = 90 from rfl]
  repeat' split
  all_goals first | (rw [decide_eq_true (by omega)]; rfl) | (rw [decide_eq_false (by omega)]; rfl)
theorem c_dgt (b : Int32) : f_X10_isDigit P b σ = some (bI (dgt b), σ) := by
  have y1 : mr_Z 1 σ = some (1, σ) := if_pos (Or.inr rfl)
  have y0 : mr_Z 0 σ = some (0, σ) := if_pos (Or.inl rfl)
  unfold f_X10_isDigit f_X10_isDigit_D16 f_X10_isDigit_D17 dgt
  rw [y1, y0]
  simp only [q_lt, q_le, show (48 : Int32).toInt = 48 from rfl, show (57 : Int32).toInt = 57 from rfl]
  repeat' split
  all_goals first | (rw [decide_eq_true (by omega)]; rfl) | (rw [decide_eq_false (by omega)]; rfl)
theorem r_dgt (b : Int32) : f_X12_isDigit P b σ = some (bI (dgt b), σ) := by
  have y1 : mr_Z 1 σ = some (1, σ) := if_pos (Or.inr rfl)
  have y0 : mr_Z 0 σ = some (0, σ) := if_pos (Or.inl rfl)
  unfold f_X12_isDigit f_X12_isDigit_D16 f_X12_isDigit_D17 dgt
  rw [y1, y0]
  simp only [q_lt, q_le, show (48 : Int32).toInt = 48 from rfl, show (57 : Int32).toInt = 57 from rfl]
  repeat' split
  all_goals first | (rw [decide_eq_true (by omega)]; rfl) | (rw [decide_eq_false (by omega)]; rfl)
theorem ltr_n {b : Nat} (hb : b < 256) (h : ltr (q_n b) = true) : 65 ≤ b ∧ b < 123 := by
  unfold ltr at h
  rw [q_nT (by omega)] at h
  have := of_decide_eq_true h
  omega
end HJS
