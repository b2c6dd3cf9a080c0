/-! ===== hl: the scanner, the class's ===== -/
section HLS
variable {P : mx_P} {σ σ0 σ1 σ2 τ : mx_S} {x m n t p : Nat} {bs : List Nat}
def spc (b : Int32) : Bool := decide (b = 9 ∨ b = 10 ∨ b = 13 ∨ b = 32)
def skN (bs : List Nat) : Nat → Nat → Nat
  | 0, p => p
  | f + 1, p => if spc (bA bs p) then skN bs f (p + 1) else p
def wdN (bs : List Nat) : Nat → Nat → Nat
  | 0, p => p
  | f + 1, p => if ltr (bA bs p) then wdN bs f (p + 1) else p
def dgN (bs : List Nat) : Nat → Nat → Nat
  | 0, p => p
  | f + 1, p => if dgt (bA bs p) then dgN bs f (p + 1) else p
def dvN (bs : List Nat) : Nat → Nat → Nat → Nat
  | 0, _, a => a
  | f + 1, p, a => if dgt (bA bs p) then dvN bs f (p + 1) (10 * a + (by' bs p - 48)) else a
def seg (bs : List Nat) (a b : Nat) : List Nat := (bs.drop a).take (b - a)
theorem bA_no (h : bs.length ≤ p) : bA bs p = -1 := by unfold bA; rw [List.getElem?_eq_none h]
theorem bA_by (h : p < bs.length) : bA bs p = q_n (by' bs p) := by unfold bA; rw [by_i h]
theorem spc_lt (h : spc (bA bs p) = true) : p < bs.length := by
  apply Nat.lt_of_not_le; intro z; rw [bA_no z] at h; revert h; decide
theorem ltr_lt (h : ltr (bA bs p) = true) : p < bs.length := by
  apply Nat.lt_of_not_le; intro z; rw [bA_no z] at h; revert h; decide
theorem dgt_lt (h : dgt (bA bs p) = true) : p < bs.length := by
  apply Nat.lt_of_not_le; intro z; rw [bA_no z] at h; revert h; decide
theorem skN_le : ∀ (f p : Nat), p ≤ bs.length → p ≤ skN bs f p ∧ skN bs f p ≤ bs.length
  | 0, p, h => ⟨Nat.le_refl _, h⟩
  | f + 1, p, h => by
    rw [skN]
    split
    · next c => have := skN_le f (p + 1) (spc_lt c); omega
    · exact ⟨Nat.le_refl _, h⟩
theorem wdN_le : ∀ (f p : Nat), p ≤ bs.length → p ≤ wdN bs f p ∧ wdN bs f p ≤ bs.length ∧ wdN bs f p ≤ p + f
  | 0, p, h => ⟨Nat.le_refl _, h, Nat.le_refl _⟩
  | f + 1, p, h => by
    rw [wdN]
    split
    · next c => have := wdN_le f (p + 1) (ltr_lt c); omega
    · exact ⟨Nat.le_refl _, h, by omega⟩
theorem dgN_le : ∀ (f p : Nat), p ≤ bs.length → p ≤ dgN bs f p ∧ dgN bs f p ≤ bs.length
  | 0, p, h => ⟨Nat.le_refl _, h⟩
  | f + 1, p, h => by
    rw [dgN]
    split
    · next c => have := dgN_le f (p + 1) (dgt_lt c); omega
    · exact ⟨Nat.le_refl _, h⟩
theorem dgt_n {b : Nat} (hb : b < 256) (h : dgt (q_n b) = true) : 48 ≤ b ∧ b ≤ 57 := by
  unfold dgt at h
  rw [q_nT (by omega)] at h
  have := of_decide_eq_true h
  omega
theorem dvN_lt : ∀ (f p a : Nat) (w : Nat), (∀ b, b ∈ bs → b < 256) → a < w → dvN bs f p a < w * 10 ^ f
  | 0, p, a, w, _, h => by rw [dvN, Nat.pow_zero, Nat.mul_one]; exact h
  | f + 1, p, a, w, hb, h => by
    rw [dvN, Nat.pow_succ]
    split
    · next c =>
      have h1 := dgt_lt c
      rw [bA_by h1] at c
      have h2 := dgt_n (hb _ (List.mem_of_getElem? (by_i h1))) c
      have := dvN_lt f (p + 1) (10 * a + (by' bs p - 48)) (w * 10) hb (by omega)
      rw [Nat.mul_assoc, Nat.mul_comm 10 (10 ^ f)] at this
      exact this
    · have h3 : 0 < 10 ^ f := Nat.pow_pos (by omega)
      have h4 : w * 1 ≤ w * (10 ^ f * 10) := Nat.mul_le_mul_left _ (by omega)
      omega
theorem seg_z : seg bs p p = [] := by unfold seg; rw [Nat.sub_self]; rfl
theorem seg_s {e : Nat} (h : p ≤ e) (he : e < bs.length) : seg bs p (e + 1) = seg bs p e ++ [by' bs e] := by
  unfold seg
  rw [show e + 1 - p = (e - p) + 1 by omega, List.take_succ, List.getElem?_drop, show p + (e - p) = e by omega, by_i he]; rfl
theorem TC_f {S : Nat → Nat → Prop} (h : TC σ t bs) (f : Fz S σ τ) (hs : ∀ q j, S q j → q = t ∧ 4 ≤ j) : TC τ t bs :=
  TC_cg h (f.2.2.2 _ _ (fun z => by have := hs _ _ z; omega)).1 (fun k => (f.2.2.2 _ _ (fun z => by have := hs _ _ z; omega)).1)
theorem Fz.T {S : Nat → Nat → Prop} (f : Fz S σ τ) (hT : LyT σ t) : LyT τ t := by unfold LyT; rw [f.1, f.2.1]; exact hT
theorem TC_256 (h : TC σ t bs) : ∀ b, b ∈ bs → b < 256 := fun b hb => by
  obtain ⟨k, hk⟩ := List.getElem?_of_mem hb
  exact (h.2.2 k b hk).1
theorem c_skip {N : Nat} (hN : N = 4000) (hf : 5000 ≤ mpN P) (hT : LyT σ t) (hb : mpb P ≤ t) (h : TC σ t bs) (h4 : mxI σ t 4 = q_n p) (hp : p ≤ bs.length) : ∃ τ, f_X10_skipSpaces P t σ = some τ ∧ mxI τ t 4 = q_n (skN bs N p) ∧ Fz (fun q j => q = t ∧ j = 4) σ τ := by
  have hl := h.1
  unfold f_X10_skipSpaces
  obtain ⟨r, er, hr⟩ := q_for (f_X10_skipSpaces_L2 P t)
    (fun k s => s.1 = q_n k ∧ ∃ p', p' ≤ bs.length ∧ mxI s.2 t 4 = q_n p' ∧ skN bs (N - k) p' = skN bs N p ∧ Fz (fun q j => q = t ∧ j = 4) σ s.2)
    (fun r => ∃ τ, (r = .inl τ ∨ r = .inr τ) ∧ mxI τ t 4 = q_n (skN bs N p) ∧ Fz (fun q j => q = t ∧ j = 4) σ τ) N
    (by
      rintro k ⟨x1, τ⟩ hk ⟨i1, p', hp', i2, i3, i4⟩
      dsimp only at i1 i2 i4
      subst i1
      have hTτ := i4.T hT
      have hCτ : TC τ t bs := TC_f h i4 (fun q j z => by omega)
      show (∃ t', f_X10_skipSpaces_B2 P t (q_n k) τ = _ ∧ _) ∨ (∃ r, f_X10_skipSpaces_B2 P t (q_n k) τ = _ ∧ _)
      have eD : f_X10_skipSpaces_D43_2 P t (q_n k) τ = some (.inl (q_n (k + 1), mx_setI τ t 4 (q_n (p' + 1)))) := by
        unfold f_X10_skipSpaces_D43_2
        rw [bd (at_gI hTτ), i2, q_nS, bd (at_pI hTτ hb _), bds, q_nS]
      have e : f_X10_skipSpaces_B2 P t (q_n k) τ = if spc (bA bs p') then some (.inl (q_n (k + 1), mx_setI τ t 4 (q_n (p' + 1)))) else some (.inr (.inl τ)) := by
        unfold f_X10_skipSpaces_B2
        rw [if_neg (by rw [show (4000 : Int32) = q_n 4000 from rfl, q_nLe (by omega) (by omega)]; omega), bd (at_gI hTτ), i2, bd (at_is hTτ), bd2 (c_byte hTτ hCτ (by omega)), eD]
        unfold spc
        by_cases c1 : bA bs p' = 9
        · rw [if_pos c1, decide_eq_true (Or.inl c1)]; rfl
        rw [if_neg c1]
        by_cases c2 : bA bs p' = 10
        · rw [if_pos c2, decide_eq_true (Or.inr (Or.inl c2))]; rfl
        rw [if_neg c2]
        by_cases c3 : bA bs p' = 13
        · rw [if_pos c3, decide_eq_true (Or.inr (Or.inr (Or.inl c3)))]; rfl
        rw [if_neg c3]
        by_cases c4 : bA bs p' = 32
        · rw [if_pos c4, decide_eq_true (Or.inr (Or.inr (Or.inr c4)))]; rfl
        rw [if_neg c4, decide_eq_false (by rintro (z | z | z | z) <;> contradiction)]; rfl
      rw [e]
      rw [show N - k = (N - (k + 1)) + 1 by omega, skN] at i3
      cases c : spc (bA bs p') with
      | true =>
        rw [c, if_pos rfl] at i3
        rw [if_pos rfl]
        exact Or.inl ⟨_, rfl, rfl, p' + 1, spc_lt c, sI_e, i3, i4.sI ⟨rfl, rfl⟩ _⟩
      | false =>
        rw [c, if_neg (by decide)] at i3
        rw [if_neg (by decide)]
        exact Or.inr ⟨_, rfl, τ, Or.inl rfl, by rw [i2, i3], i4⟩)
    (by
      rintro ⟨x1, τ⟩ ⟨i1, p', hp', i2, i3, i4⟩
      dsimp only at i1 i2 i4
      subst i1
      refine ⟨.inr τ, ?_, τ, Or.inr rfl, ?_, i4⟩
      · show f_X10_skipSpaces_B2 P t (q_n N) τ = _
        unfold f_X10_skipSpaces_B2
        rw [if_pos (by rw [hN]; decide)]
      · rw [Nat.sub_self, skN] at i3; rw [i2, i3])
    N 0 ((0 : Int32), σ) (mpN P) (by omega) ⟨rfl, p, hp, h4, by rw [Nat.sub_zero], Fz.rf⟩ (by omega)
  rw [bd er]
  obtain ⟨τ, hr1, hr2, hr3⟩ := hr
  refine ⟨τ, ?_, hr2, hr3⟩
  rcases hr1 with rfl | rfl <;> rfl
theorem c_rword (hf : 5000 ≤ mpN P) (hT : LyT σ t) (hb : mpb P ≤ t) (h : TC σ t bs) (h4 : mxI σ t 4 = q_n p) (h7 : mxL σ t 7 = 0) (hp : p ≤ bs.length) : ∃ τ, f_X10_readWord P t σ = some τ ∧ mxI τ t 5 = 2 ∧ mxI τ t 4 = q_n (wdN bs 8 p) ∧ mxL τ t 7 = l_n (pk (seg bs p (wdN bs 8 p))) ∧ Fz (fun q j => q = t ∧ (j = 4 ∨ j = 5 ∨ j = 7)) σ τ := by
  have hl := h.1
  have h256 := TC_256 h
  unfold f_X10_readWord f_X10_readWord_D64
  obtain ⟨σ1, e1⟩ : ∃ σ1, σ1 = mx_setI σ t 5 2 := ⟨_, rfl⟩
  rw [bd (at_pI hT hb _), ← e1]
  have f1 : Fz (fun q j => q = t ∧ (j = 4 ∨ j = 5 ∨ j = 7)) σ σ1 := by rw [e1]; exact Fz.rf.sI ⟨rfl, Or.inr (Or.inl rfl)⟩ _
  obtain ⟨r, er, k1, k2, k3, k4⟩ := q_for (f_X10_readWord_L7 P t)
    (fun k s => s.1 = q_n k ∧ p + k ≤ bs.length ∧ mxI s.2 t 5 = 2 ∧ mxI s.2 t 4 = q_n (p + k) ∧ mxL s.2 t 7 = l_n (pk (seg bs p (p + k))) ∧ wdN bs (8 - k) (p + k) = wdN bs 8 p ∧ Fz (fun q j => q = t ∧ (j = 4 ∨ j = 5 ∨ j = 7)) σ s.2)
    (fun r => mxI r t 5 = 2 ∧ mxI r t 4 = q_n (wdN bs 8 p) ∧ mxL r t 7 = l_n (pk (seg bs p (wdN bs 8 p))) ∧ Fz (fun q j => q = t ∧ (j = 4 ∨ j = 5 ∨ j = 7)) σ r) 8
    (by
      rintro k ⟨x1, τ⟩ hk ⟨i1, i0, i5, i2, i7, i3, i4⟩
      dsimp only at i1 i2 i4 i5 i7
      subst i1
      have hTτ := i4.T hT
      have hCτ : TC τ t bs := TC_f h i4 (fun q j z => by omega)
      show (∃ t', f_X10_readWord_B7 P t (q_n k) τ = _ ∧ _) ∨ (∃ r, f_X10_readWord_B7 P t (q_n k) τ = _ ∧ _)
      unfold f_X10_readWord_B7
      rw [if_neg (by rw [show (8 : Int32) = q_n 8 from rfl, q_nLe (by omega) (by omega)]; omega), bd (at_gI hTτ), i2, bd (at_is hTτ), bd2 (c_byte hTτ hCτ (by omega)), bd2 (c_ltr _)]
      rw [show 8 - k = (8 - (k + 1)) + 1 by omega, wdN] at i3
      cases c : ltr (bA bs (p + k)) with
      | true =>
        rw [c, if_pos rfl] at i3
        have hlt := ltr_lt c
        have hb' : by' bs (p + k) < 256 := h256 _ (List.mem_of_getElem? (by_i hlt))
        have hT2 : LyT (mx_setL τ t 7 (l_n (pk (seg bs p (p + k)) * 256 + by' bs (p + k)))) t := hTτ
        rw [if_neg (by decide), bd (at_gL hTτ), i7, bd (at_gI hTτ), i2, bd (at_is hTτ), bd2 (c_byte hTτ hCτ (by omega)), bA_by hlt, pk_step hb', bd (at_pL hTτ hb _), bd (at_gI hT2), show mxI (mx_setL τ t 7 (l_n (pk (seg bs p (p + k)) * 256 + by' bs (p + k)))) t 4 = q_n (p + k) from i2, q_nS, bd (at_pI hT2 hb _), bds, q_nS]
        refine Or.inl ⟨_, rfl, rfl, by omega, ?_, sI_e, ?_, i3, (i4.sL ⟨rfl, Or.inr (Or.inr rfl)⟩ _).sI ⟨rfl, Or.inl rfl⟩ _⟩
        · rw [sI_n (by omega)]; exact i5
        · show mxL (mx_setL τ t 7 _) t 7 = _
          rw [q_LL, if_pos ⟨rfl, rfl⟩, ← Nat.add_assoc, seg_s (by omega) hlt, pk_snoc]
      | false =>
        rw [c, if_neg (by decide)] at i3
        rw [if_pos (by rfl)]
        exact Or.inr ⟨_, rfl, i5, by rw [i2, i3], by rw [i7, i3], i4⟩)
    (by
      rintro ⟨x1, τ⟩ ⟨i1, i0, i5, i2, i7, i3, i4⟩
      dsimp only at i1 i2 i4 i5 i7
      subst i1
      rw [Nat.sub_self, wdN] at i3
      refine ⟨τ, ?_, i5, by rw [i2, i3], by rw [i7, i3], i4⟩
      show f_X10_readWord_B7 P t (q_n 8) τ = _
      unfold f_X10_readWord_B7
      rw [if_pos (by decide)])
    8 0 ((0 : Int32), σ1) (mpN P) (by omega) ⟨rfl, hp, by rw [e1]; exact sI_e, by rw [e1, sI_n (by omega)]; exact h4, by rw [e1, Nat.add_zero, seg_z]; exact h7, rfl, f1⟩ (by omega)
  rw [bd er]
  exact ⟨r, rfl, k1, k2, k3, k4⟩
theorem c_digs (hf : 5000 ≤ mpN P) (hT : LyT σ t) (hb : mpb P ≤ t) (h : TC σ t bs) (h4 : mxI σ t 4 = q_n p) (hp : p ≤ bs.length) : ∃ τ, f_X10_readDigits P t σ = some (q_n (dvN bs 4 p 0), τ) ∧ mxI τ t 4 = q_n (dgN bs 4 p) ∧ Fz (fun q j => q = t ∧ j = 4) σ τ := by
  have hl := h.1
  have h256 := TC_256 h
  unfold f_X10_readDigits f_X10_readDigits_D56
  obtain ⟨r, er, k1, k2, k4⟩ := q_for (f_X10_readDigits_L4 P t)
    (fun k s => ∃ a, s.1 = q_n a ∧ a < 10 ^ k ∧ s.2.1 = q_n k ∧ p + k ≤ bs.length ∧ mxI s.2.2 t 4 = q_n (p + k) ∧ dvN bs (4 - k) (p + k) a = dvN bs 4 p 0 ∧ dgN bs (4 - k) (p + k) = dgN bs 4 p ∧ Fz (fun q j => q = t ∧ j = 4) σ s.2.2)
    (fun r => r.1 = q_n (dvN bs 4 p 0) ∧ mxI r.2 t 4 = q_n (dgN bs 4 p) ∧ Fz (fun q j => q = t ∧ j = 4) σ r.2) 4
    (by
      rintro k ⟨x0, x1, τ⟩ hk ⟨a, i0, ia, i1, ip, i2, iv, i3, i4⟩
      dsimp only at i0 i1 i2 i4
      subst i0; subst i1
      have hTτ := i4.T hT
      have hCτ : TC τ t bs := TC_f h i4 (fun q j z => by omega)
      have hpw : 10 ^ k ≤ 1000 := Nat.pow_le_pow_right (n := 10) (by omega) (show k ≤ 3 by omega)
      show (∃ t', f_X10_readDigits_B4 P t (q_n a) (q_n k) τ = _ ∧ _) ∨ (∃ r, f_X10_readDigits_B4 P t (q_n a) (q_n k) τ = _ ∧ _)
      unfold f_X10_readDigits_B4
      rw [if_neg (by rw [show (4 : Int32) = q_n 4 from rfl, q_nLe (by omega) (by omega)]; omega), bd (at_gI hTτ), i2, bd (at_is hTτ), bd2 (c_byte hTτ hCτ (by omega)), bd2 (c_dgt _)]
      rw [show 4 - k = (4 - (k + 1)) + 1 by omega, dvN] at iv
      rw [show 4 - k = (4 - (k + 1)) + 1 by omega, dgN] at i3
      cases c : dgt (bA bs (p + k)) with
      | true =>
        rw [c, if_pos rfl] at i3 iv
        have hlt := dgt_lt c
        have hb' : by' bs (p + k) < 256 := h256 _ (List.mem_of_getElem? (by_i hlt))
        have hd : 48 ≤ by' bs (p + k) ∧ by' bs (p + k) ≤ 57 := by rw [bA_by hlt] at c; exact dgt_n hb' c
        have ev : (10 : Int32) * q_n a + q_n (by' bs (p + k)) - 48 = q_n (10 * a + (by' bs (p + k) - 48)) := by
          rw [show (10 : Int32) = q_n 10 from rfl, q_nM, q_nA]
          apply Int32.toInt.inj
          have e48 : (48 : Int32).toInt = 48 := rfl
          rw [q_isub (by rw [q_nT (by omega), e48]; omega) (by rw [q_nT (by omega), e48]; omega), q_nT (by omega), q_nT (by omega), e48]; omega
        rw [if_neg (by decide), bd (at_gI hTτ), i2, bd (at_is hTτ), bd2 (c_byte hTτ hCτ (by omega)), bA_by hlt, ev, bds, bd (at_gI hTτ), i2, q_nS, bd (at_pI hTτ hb _), bds, q_nS]
        refine Or.inl ⟨_, rfl, _, rfl, ?_, rfl, by omega, sI_e, iv, i3, i4.sI ⟨rfl, rfl⟩ _⟩
        rw [Nat.pow_succ]; omega
      | false =>
        rw [c, if_neg (by decide)] at i3 iv
        rw [if_pos (by rfl)]
        exact Or.inr ⟨_, rfl, by rw [iv], by rw [i2, i3], i4⟩)
    (by
      rintro ⟨x0, x1, τ⟩ ⟨a, i0, ia, i1, ip, i2, iv, i3, i4⟩
      dsimp only at i0 i1 i2 i4
      subst i0; subst i1
      rw [Nat.sub_self, dgN] at i3
      rw [Nat.sub_self, dvN] at iv
      refine ⟨(q_n a, τ), ?_, by rw [iv], by rw [i2, i3], i4⟩
      show f_X10_readDigits_B4 P t (q_n a) (q_n 4) τ = _
      unfold f_X10_readDigits_B4
      rw [if_pos (by decide)])
    4 0 ((0 : Int32), (0 : Int32), σ) (mpN P) (by omega) ⟨0, rfl, by decide, rfl, hp, h4, rfl, rfl, Fz.rf⟩ (by omega)
  obtain ⟨r1, r2⟩ := r
  dsimp only at k1 k2 k4
  subst k1
  rw [bd er]
  exact ⟨r2, rfl, k2, k4⟩
end HLS
