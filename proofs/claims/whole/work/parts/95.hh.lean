/-! ===== hh: frames, bytes, feed ===== -/
section HHS
variable {P : mx_P} {σ σ0 σ1 σ2 τ : mx_S} {x m n : Nat} {S T : Nat → Nat → Prop} {bs : List Nat}
/-- only cells in S may have changed -/
def Fz (S : Nat → Nat → Prop) (σ τ : mx_S) : Prop := mxA τ = mxA σ ∧ mxR τ = mxR σ ∧ (mxz τ = mxz σ ∧ mxu τ = mxu σ) ∧ ∀ q j, ¬ S q j → mxI τ q j = mxI σ q j ∧ mxL τ q j = mxL σ q j
theorem Fz.rf : Fz S σ σ := ⟨rfl, rfl, ⟨rfl, rfl⟩, fun _ _ _ => ⟨rfl, rfl⟩⟩
theorem Fz.tr (h1 : Fz S σ σ1) (h2 : Fz S σ1 σ2) : Fz S σ σ2 := ⟨h2.1.trans h1.1, h2.2.1.trans h1.2.1, ⟨h2.2.2.1.1.trans h1.2.2.1.1, h2.2.2.1.2.trans h1.2.2.1.2⟩, fun q j h => ⟨(h2.2.2.2 q j h).1.trans (h1.2.2.2 q j h).1, (h2.2.2.2 q j h).2.trans (h1.2.2.2 q j h).2⟩⟩
theorem Fz.mo (h : Fz S σ τ) (hs : ∀ q j, S q j → T q j) : Fz T σ τ := ⟨h.1, h.2.1, h.2.2.1, fun q j hq => h.2.2.2 q j fun z => hq (hs q j z)⟩
theorem Fz.sI {a k : Nat} (h : Fz S σ τ) (hs : S a k) (v : Int32) : Fz S σ (mx_setI τ a k v) :=
  ⟨h.1, h.2.1, h.2.2.1, fun q j hq => ⟨by rw [sI_n (fun z => hq (by rw [z.1, z.2]; exact hs))]; exact (h.2.2.2 q j hq).1, (h.2.2.2 q j hq).2⟩⟩
theorem Fz.sL {a k : Nat} (h : Fz S σ τ) (hs : S a k) (v : Int64) : Fz S σ (mx_setL τ a k v) :=
  ⟨h.1, h.2.1, h.2.2.1, fun q j hq => ⟨(h.2.2.2 q j hq).1, by rw [q_LL, if_neg (fun z => hq (by rw [z.1, z.2]; exact hs))]; exact (h.2.2.2 q j hq).2⟩⟩
theorem Fz.fr {ns : List Nat} (h : Fz S σ τ) (hs : ∀ i q j, cp x i q j → i ∉ ns → ¬ S q j) : Fr x ns σ τ :=
  ⟨h.1, h.2.1, fun i q j hq hi => h.2.2.2 q j (hs i q j hq hi), by rw [h.2.2.1.1]; exact Nat.le_refl _, by rw [h.2.2.1.1]; omega, by rw [h.2.2.1.2]; omega, fun _ => h.2.2.1.2⟩
theorem Fz.M (h : Fz S σ τ) (hM : LyM σ m) : LyM τ m := by unfold LyM; rw [h.1, h.2.1]; exact hM
/-- the class's and the reference's bytes -/
def TC (σ : mx_S) (t : Nat) (bs : List Nat) : Prop := bs.length ≤ 4000 ∧ mxI σ t 1 = q_n bs.length ∧ ∀ k b, bs[k]? = some b → b < 256 ∧ mxI σ (t + 1) k &&& 255 = q_n b
def TR (σ : mx_S) (m : Nat) (bs : List Nat) : Prop := bs.length ≤ 4000 ∧ mxI σ m 2 = q_n bs.length ∧ ∀ k b, bs[k]? = some b → b < 256 ∧ mxI σ (m + 1) k = q_n b
/-- a byte of a word -/
def wB (p : Int32) (s : Int32) : Nat := ((p >>> s) &&& 255).toInt.toNat
def w4 (p : Int32) : List Nat := [wB p 24, wB p 16, wB p 8, wB p 0]
theorem and255 (y : Int32) : 0 ≤ (y &&& 255).toInt ∧ (y &&& 255).toInt < 256 := by
  have e : (y &&& 255).toBitVec = y.toBitVec &&& 255#32 := rfl
  have h1 : (y.toBitVec &&& 255#32).toNat < 256 := by
    rw [BitVec.toNat_and]
    exact Nat.lt_of_le_of_lt Nat.and_le_right (by decide)
  have h2 : (y &&& 255).toInt = ((y &&& 255).toBitVec).toInt := rfl
  rw [h2, e, BitVec.toInt_eq_toNat_of_lt (by omega)]
  omega
theorem b255 : ∀ i : Fin 32, ¬ i.1 < 8 → (255#32).getLsbD i.1 = false := by decide
theorem by8 (y : Int32) : (y.toInt8.toInt32).toInt8.toInt32 &&& 255 = y &&& 255 := by
  apply Int32.toBitVec_inj.mp
  show (((y.toBitVec.signExtend 8).signExtend 32).signExtend 8).signExtend 32 &&& 255#32 = y.toBitVec &&& 255#32
  ext i hi
  simp only [BitVec.getElem_and, BitVec.getElem_signExtend]
  by_cases h : i < 8
  · simp [h, hi]
  · have this : (255#32)[i] = false := (BitVec.getLsbD_eq_getElem hi).symm.trans (b255 ⟨i, hi⟩ h)
    rw [this]; simp
theorem wB_lt (p s : Int32) : wB p s < 256 := by have := and255 (p >>> s); unfold wB; omega
theorem wB_q (p s : Int32) : (p >>> s) &&& 255 = q_n (wB p s) := q_ofT (and255 _).1
theorem wB0 (p : Int32) : p &&& 255 = q_n (wB p 0) := by rw [← wB_q]; congr 1; apply Int32.toBitVec_inj.mp; simp
theorem ls_app {l r : List Nat} {k b : Nat} (h : (l ++ r)[k]? = some b) : l[k]? = some b ∨ (l.length ≤ k ∧ r[k - l.length]? = some b) := by
  by_cases c : k < l.length
  · rw [List.getElem?_append_left c] at h; exact Or.inl h
  · rw [List.getElem?_append_right (by omega)] at h; exact Or.inr ⟨by omega, h⟩
theorem w4_len (p : Int32) : (w4 p).length = 4 := rfl
abbrev LyT (σ : mx_S) (t : Nat) : Prop := LyO (mxA σ) (mxR σ) 10 al10 t
theorem c_gather {t : Nat} (hT : LyT σ t) (hb : mpb P ≤ t) (h : TC σ t bs) (hn : bs.length + 4 ≤ 4000) (p : Int32) : ∃ τ, f_X10_gather P t p σ = some τ ∧ TC τ t (bs ++ w4 p) ∧ Fz (fun q j => q = t + 1 ∨ (q = t ∧ j = 1)) σ τ := by
  obtain ⟨h1, h2, h3⟩ := h
  have e4 : (4 : Int32) = q_n 4 := rfl
  have y1 : mr_Z 1 σ = some (1, σ) := if_pos (Or.inr rfl)
  have hr : f_X10_hasRoom P t 4 σ = some (1, σ) := by
    unfold f_X10_hasRoom f_X10_hasRoom_D17
    rw [bd (at_gI hT), h2, e4, q_nA, if_neg (by rw [show (4000 : Int32) = q_n 4000 from rfl, q_nLt (by omega) (by omega)]; omega)]; exact y1
  obtain ⟨v3, hv3⟩ : ∃ v, v = (((p >>> ((24 : Int32) &&& 31)).toInt8.toInt32)).toInt8.toInt32 := ⟨_, rfl⟩
  obtain ⟨v2, hv2⟩ : ∃ v, v = (((p >>> ((16 : Int32) &&& 31)).toInt8.toInt32)).toInt8.toInt32 := ⟨_, rfl⟩
  obtain ⟨v1, hv1⟩ : ∃ v, v = (((p >>> ((8 : Int32) &&& 31)).toInt8.toInt32)).toInt8.toInt32 := ⟨_, rfl⟩
  obtain ⟨v0, hv0⟩ : ∃ v, v = ((p.toInt8.toInt32)).toInt8.toInt32 := ⟨_, rfl⟩
  have u3 : v3 &&& 255 = q_n (wB p 24) := by rw [hv3, by8]; exact wB_q p 24
  have u2 : v2 &&& 255 = q_n (wB p 16) := by rw [hv2, by8]; exact wB_q p 16
  have u1 : v1 &&& 255 = q_n (wB p 8) := by rw [hv1, by8]; exact wB_q p 8
  have u0 : v0 &&& 255 = q_n (wB p 0) := by rw [hv0, by8]; exact wB0 p
  obtain ⟨τ1, e1⟩ : ∃ τ1, τ1 = mx_setI σ (t + 1) bs.length v3 := ⟨_, rfl⟩
  obtain ⟨τ2, e2⟩ : ∃ τ2, τ2 = mx_setI τ1 (t + 1) (bs.length + 1) v2 := ⟨_, rfl⟩
  obtain ⟨τ3, e3⟩ : ∃ τ3, τ3 = mx_setI τ2 (t + 1) (bs.length + 2) v1 := ⟨_, rfl⟩
  obtain ⟨τ4, e5⟩ : ∃ τ4, τ4 = mx_setI τ3 (t + 1) (bs.length + 3) v0 := ⟨_, rfl⟩
  have f1 : Fz (fun q j => q = t + 1 ∨ (q = t ∧ j = 1)) σ τ1 := by rw [e1]; exact Fz.rf.sI (Or.inl rfl) _
  have f2 : Fz (fun q j => q = t + 1 ∨ (q = t ∧ j = 1)) σ τ2 := by rw [e2]; exact f1.sI (Or.inl rfl) _
  have f3 : Fz (fun q j => q = t + 1 ∨ (q = t ∧ j = 1)) σ τ3 := by rw [e3]; exact f2.sI (Or.inl rfl) _
  have f4 : Fz (fun q j => q = t + 1 ∨ (q = t ∧ j = 1)) σ τ4 := by rw [e5]; exact f3.sI (Or.inl rfl) _
  have l1 : LyT τ1 t := by unfold LyT; rw [f1.1, f1.2.1]; exact hT
  have l2 : LyT τ2 t := by unfold LyT; rw [f2.1, f2.2.1]; exact hT
  have l3 : LyT τ3 t := by unfold LyT; rw [f3.1, f3.2.1]; exact hT
  have l4 : LyT τ4 t := by unfold LyT; rw [f4.1, f4.2.1]; exact hT
  have n1 : mxI τ1 t 1 = q_n bs.length := by rw [e1, sI_n (by omega)]; exact h2
  have n2 : mxI τ2 t 1 = q_n bs.length := by rw [e2, sI_n (by omega)]; exact n1
  have n3 : mxI τ3 t 1 = q_n bs.length := by rw [e3, sI_n (by omega)]; exact n2
  have n4 : mxI τ4 t 1 = q_n bs.length := by rw [e5, sI_n (by omega)]; exact n3
  refine ⟨mx_setI τ4 t 1 (q_n (bs.length + 4)), ?_, ⟨?_, ?_, fun k b hk => ?_⟩, f4.sI (Or.inr ⟨rfl, rfl⟩) _⟩
  · unfold f_X10_gather
    rw [bd (at_is hT), bd2 hr, if_neg zi10, bd (at_r0 hT), bd (at_gI hT), h2, ← hv3, ← hv2, ← hv1, ← hv0, bd (at_s0 hT hb (by omega) _), ← e1, bd (at_r0 l1), bd (at_gI l1), n1, q_nS, bd (at_s0 l1 hb (by omega) _), ← e2, bd (at_r0 l2), bd (at_gI l2), n2, show (2 : Int32) = q_n 2 from rfl, q_nA, bd (at_s0 l2 hb (by omega) _), ← e3, bd (at_r0 l3), bd (at_gI l3), n3, show (3 : Int32) = q_n 3 from rfl, q_nA, bd (at_s0 l3 hb (by omega) _), ← e5, bd (at_gI l4), n4, e4, q_nA, bd (at_pI l4 hb _)]
  · rw [List.length_append, w4_len]; exact hn
  · rw [List.length_append, w4_len]; exact sI_e
  · rw [sI_n (by omega)]
    rcases ls_app hk with hk | ⟨hl, hk⟩
    · have hkl := (List.getElem?_eq_some_iff.mp hk).1
      rw [e5, sI_n (by omega), e3, sI_n (by omega), e2, sI_n (by omega), e1, sI_n (by omega)]
      exact h3 k b hk
    · obtain ⟨i, rfl⟩ : ∃ i, k = bs.length + i := ⟨k - bs.length, by omega⟩
      rw [Nat.add_sub_cancel_left] at hk
      rcases i with _ | _ | _ | _ | i
      · cases hk
        have e0 : mxI (mx_setI σ (t + 1) bs.length v3) (t + 1) (bs.length + 0) = v3 := sI_e
        rw [e5, sI_n (by omega), e3, sI_n (by omega), e2, sI_n (by omega), e1, e0]
        exact ⟨wB_lt _ _, u3⟩
      · cases hk
        rw [e5, sI_n (by omega), e3, sI_n (by omega), e2, sI_e]
        exact ⟨wB_lt _ _, u2⟩
      · cases hk
        rw [e5, sI_n (by omega), e3, sI_e]
        exact ⟨wB_lt _ _, u1⟩
      · cases hk
        rw [e5, sI_e]
        exact ⟨wB_lt _ _, u0⟩
      · cases hk
theorem r_tape1 {v : Nat} {s : Int32} (hM : LyM σ m) (hb : mpb P ≤ m) (h : TR σ m bs) (hn : bs.length < 4000) (hv : (p : Int32) → (p >>> (s &&& 31)) &&& 255 = q_n (wB p (s &&& 31))) (hs : ¬ s < 0) (p : Int32) : ∃ τ, f_X12_tapeWord_B3 P m p s σ = some (.inl (s + (-8 : Int32), τ)) ∧ TR τ m (bs ++ [wB p (s &&& 31)]) ∧ Fz (fun q j => q = m + 1 ∨ (q = m ∧ j = 2)) σ τ := by
  obtain ⟨h1, h2, h3⟩ := h
  obtain ⟨τ1, e1⟩ : ∃ τ1, τ1 = mx_setI σ (m + 1) bs.length (q_n (wB p (s &&& 31))) := ⟨_, rfl⟩
  have f1 : Fz (fun q j => q = m + 1 ∨ (q = m ∧ j = 2)) σ τ1 := by rw [e1]; exact Fz.rf.sI (Or.inl rfl) _
  have l1 := f1.M hM
  have n1 : mxI τ1 m 2 = q_n bs.length := by rw [e1, sI_n (by omega)]; exact h2
  refine ⟨mx_setI τ1 m 2 (q_n (bs.length + 1)), ?_, ⟨?_, ?_, fun k b hk => ?_⟩, f1.sI (Or.inr ⟨rfl, rfl⟩) _⟩
  · unfold f_X12_tapeWord_B3
    rw [if_neg hs, bd (am_r1 hM), bd (am_gI hM), h2, hv p, bd (am_s1 hM hb hn _), ← e1, bd (am_gI l1), n1, q_nS, bd (am_pI l1 hb _), bds]
  · rw [List.length_append]; exact hn
  · rw [List.length_append]; exact sI_e
  · rw [sI_n (by omega)]
    rcases ls_app hk with hk | ⟨hl, hk⟩
    · have hkl := (List.getElem?_eq_some_iff.mp hk).1
      rw [e1, sI_n (by omega)]
      exact h3 k b hk
    · obtain ⟨i, rfl⟩ : ∃ i, k = bs.length + i := ⟨k - bs.length, by omega⟩
      rw [Nat.add_sub_cancel_left] at hk
      rcases i with _ | i
      · cases hk
        have e0 : mxI (mx_setI σ (m + 1) bs.length (q_n (wB p (s &&& 31)))) (m + 1) (bs.length + 0) = q_n (wB p (s &&& 31)) := sI_e
        rw [e1, e0]
        exact ⟨wB_lt _ _, rfl⟩
      · cases hk
theorem mx_lp_s {α ρ : Type} {b : α → Option (α ⊕ ρ)} {t t' : α} {fu : Nat} (h : b t = some (.inl t')) (hf : 0 < fu) : mx_lp b fu t = mx_lp b (fu - 1) t' := by
  obtain ⟨f, rfl⟩ : ∃ f, fu = f + 1 := ⟨fu - 1, by omega⟩
  rw [mx_lpS, h]; rfl
theorem r_tape (hf : 100 ≤ mpN P) (hM : LyM σ m) (hb : mpb P ≤ m) (h : TR σ m bs) (hn : bs.length + 4 ≤ 4000) (p : Int32) : ∃ τ, f_X12_tapeWord P m p σ = some τ ∧ TR τ m (bs ++ w4 p) ∧ Fz (fun q j => q = m + 1 ∨ (q = m ∧ j = 2)) σ τ := by
  obtain ⟨τ1, e1, h1, f1⟩ := r_tape1 (v := 0) (P := P) (s := 24) hM hb h (by omega) (fun p => wB_q p _) (by decide) p
  obtain ⟨τ2, e2, h2, f2⟩ := r_tape1 (v := 0) (P := P) (s := 16) (f1.M hM) hb h1 (by rw [List.length_append]; show bs.length + 1 < 4000; omega) (fun p => wB_q p _) (by decide) p
  obtain ⟨τ3, e3, h3, f3⟩ := r_tape1 (v := 0) (P := P) (s := 8) ((f1.tr f2).M hM) hb h2 (by rw [List.length_append, List.length_append]; show bs.length + 1 + 1 < 4000; omega) (fun p => wB_q p _) (by decide) p
  obtain ⟨τ4, e4, h4, f4⟩ := r_tape1 (v := 0) (P := P) (s := 0) (((f1.tr f2).tr f3).M hM) hb h3 (by rw [List.length_append, List.length_append, List.length_append]; show bs.length + 1 + 1 + 1 < 4000; omega) (fun p => wB_q p _) (by decide) p
  refine ⟨τ4, ?_, ?_, ((f1.tr f2).tr f3).tr f4⟩
  · unfold f_X12_tapeWord
    have l1 : mx_lp (f_X12_tapeWord_L3 P m p) (mpN P) ((24 : Int32), σ) = some τ4 := by
      rw [mx_lp_s (t' := ((16 : Int32), τ1)) e1 (by omega), mx_lp_s (t' := ((8 : Int32), τ2)) e2 (by omega), mx_lp_s (t' := ((0 : Int32), τ3)) e3 (by omega), mx_lp_s (t' := ((-8 : Int32), τ4)) e4 (by omega)]
      exact lp_out (by show f_X12_tapeWord_B3 P m p (-8) τ4 = _; unfold f_X12_tapeWord_B3; rw [if_pos (by decide)]) (by omega)
    rw [bd l1]
  · have : bs ++ w4 p = bs ++ [wB p (24 &&& 31)] ++ [wB p (16 &&& 31)] ++ [wB p (8 &&& 31)] ++ [wB p (0 &&& 31)] := by simp [w4]; exact ⟨rfl, rfl, rfl⟩
    rw [this]; exact h4
end HHS
