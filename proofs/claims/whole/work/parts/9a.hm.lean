/-! ===== hm: tokens, the class's ===== -/
section HMS
variable {P : mx_P} {σ σ0 σ1 σ2 τ : mx_S} {x m n t p : Nat} {bs : List Nat}
/-- a number: minus?, where its digits begin -/
def nmE (bs : List Nat) (d : Nat) : Bool := decide (bA bs (dgN bs 4 d) = 47) && dgt (bA bs (dgN bs 4 d + 1))
def nmB (bs : List Nat) (d : Nat) : Nat := if nmE bs d then dvN bs 4 (dgN bs 4 d + 1) 0 else 1
def nmX (bs : List Nat) (d : Nat) : Nat := if nmE bs d then dgN bs 4 (dgN bs 4 d + 1) else dgN bs 4 d
/-- the kind at a place that is no space: 0 end 1 wrong 2 word 3 number, else the sign itself -/
def isNm (bs : List Nat) (s : Nat) : Bool := dgt (bA bs s) || (decide (bA bs s = 45) && dgt (bA bs (s + 1)))
def nmD (bs : List Nat) (s : Nat) : Nat := if bA bs s = 45 then s + 1 else s
def sgn (c : Int32) : Bool := decide (c = 43 ∨ c = 45 ∨ c = 63 ∨ c = 59)
def kdA (bs : List Nat) (s : Nat) : Int32 := if bs.length ≤ s then 0 else if ltr (bA bs s) then 2 else if isNm bs s then (if nmB bs (nmD bs s) = 0 then 1 else 3) else if sgn (bA bs s) then bA bs s else 1
def enA (bs : List Nat) (s : Nat) : Nat := if bs.length ≤ s then s else if ltr (bA bs s) then wdN bs 8 s else if isNm bs s then nmX bs (nmD bs s) else s + 1
def tpA (bs : List Nat) (s : Nat) : Int := if bA bs s = 45 then -(dvN bs 4 (nmD bs s) 0 : Int) else dvN bs 4 (nmD bs s) 0
/-- what a token leaves -/
def TkC (σ : mx_S) (t : Nat) (bs : List Nat) (s : Nat) : Prop := mxI σ t 4 = q_n (enA bs s) ∧ mxI σ t 5 = kdA bs s ∧ mxI σ t 6 = q_n s ∧ (kdA bs s = 2 → mxL σ t 7 = l_n (pk (seg bs s (enA bs s)))) ∧ (kdA bs s = 3 → (mxI σ t 8).toInt = tpA bs s ∧ mxI σ t 9 = q_n (nmB bs (nmD bs s)))
theorem dgN_lt {f : Nat} (h : dgt (bA bs p) = true) : p < dgN bs (f + 1) p := by
  rw [dgN, if_pos h]; exact (dgN_le f (p + 1) (dgt_lt h)).1
theorem dv4_lt (h : ∀ b, b ∈ bs → b < 256) : dvN bs 4 p 0 < 10000 := by
  have := dvN_lt (bs := bs) 4 p 0 1 h (by omega)
  rwa [show 1 * 10 ^ 4 = 10000 by decide] at this
theorem nmB_lt (h : ∀ b, b ∈ bs → b < 256) (d : Nat) : nmB bs d < 10000 := by
  unfold nmB; split
  · exact dv4_lt h
  · omega
theorem nmX_le {d : Nat} (h : d ≤ bs.length) : dgN bs 4 d ≤ nmX bs d ∧ nmX bs d ≤ bs.length := by
  have h1 := dgN_le 4 d h
  unfold nmX
  split
  · next c =>
    unfold nmE at c
    rw [Bool.and_eq_true] at c
    have h2 := dgt_lt c.2
    have h3 := dgN_le (bs := bs) 4 (dgN bs 4 d + 1) (by omega)
    omega
  · omega
theorem c_rnum {ng : Bool} {d : Nat} (hf : 5000 ≤ mpN P) (hT : LyT σ t) (hb : mpb P ≤ t) (h : TC σ t bs) (h4 : mxI σ t 4 = q_n p) (h9 : mxI σ t 9 = 1) (hd : d = if ng then p + 1 else p) (hp : d ≤ bs.length) :
    ∃ τ, f_X10_readNumber P t (bI ng) σ = some τ ∧ mxI τ t 4 = q_n (nmX bs d) ∧ mxI τ t 5 = (if nmB bs d = 0 then 1 else 3) ∧ (mxI τ t 8).toInt = (if ng then -(dvN bs 4 d 0 : Int) else dvN bs 4 d 0) ∧ mxI τ t 9 = q_n (nmB bs d) ∧ Fz (fun q j => q = t ∧ (j = 4 ∨ j = 5 ∨ j = 8 ∨ j = 9)) σ τ := by
  have hl := h.1
  have h256 := TC_256 h
  have hv := dv4_lt (p := d) h256
  obtain ⟨σ1, e1⟩ : ∃ σ1, σ1 = mx_setI σ t 5 3 := ⟨_, rfl⟩
  have f1 : Fz (fun q j => q = t ∧ (j = 4 ∨ j = 5 ∨ j = 8 ∨ j = 9)) σ σ1 := by rw [e1]; exact Fz.rf.sI ⟨rfl, by omega⟩ _
  -- the rest, from the digits on
  have key : ∀ σ2, Fz (fun q j => q = t ∧ (j = 4 ∨ j = 5 ∨ j = 8 ∨ j = 9)) σ σ2 → mxI σ2 t 4 = q_n d → mxI σ2 t 5 = 3 → mxI σ2 t 9 = 1 → ∃ τ, f_X10_readNumber_D19 P t (bI ng) σ2 = some τ ∧ mxI τ t 4 = q_n (nmX bs d) ∧ mxI τ t 5 = (if nmB bs d = 0 then 1 else 3) ∧ (mxI τ t 8).toInt = (if ng then -(dvN bs 4 d 0 : Int) else dvN bs 4 d 0) ∧ mxI τ t 9 = q_n (nmB bs d) ∧ Fz (fun q j => q = t ∧ (j = 4 ∨ j = 5 ∨ j = 8 ∨ j = 9)) σ τ := by
    intro σ2 f2 a4 a5 a9
    have hT2 := f2.T hT
    have hC2 : TC σ2 t bs := TC_f h f2 (fun q j z => by omega)
    obtain ⟨σ3, e3, b4, f3⟩ := c_digs (P := P) hf hT2 hb hC2 a4 hp
    have f3' := f2.tr (f3.mo (T := fun q j => q = t ∧ (j = 4 ∨ j = 5 ∨ j = 8 ∨ j = 9)) fun q j z => ⟨z.1, Or.inl z.2⟩)
    have b5 : mxI σ3 t 5 = 3 := by rw [(f3.2.2.2 _ _ (by omega)).1]; exact a5
    have b9 : mxI σ3 t 9 = 1 := by rw [(f3.2.2.2 _ _ (by omega)).1]; exact a9
    -- what is told is in field 8
    have k35 : ∀ w0 : Int32, w0.toInt = (if ng then -(dvN bs 4 d 0 : Int) else dvN bs 4 d 0) → ∃ τ, f_X10_readNumber_D35 P t w0 t σ3 = some τ ∧ mxI τ t 4 = q_n (nmX bs d) ∧ mxI τ t 5 = (if nmB bs d = 0 then 1 else 3) ∧ (mxI τ t 8).toInt = (if ng then -(dvN bs 4 d 0 : Int) else dvN bs 4 d 0) ∧ mxI τ t 9 = q_n (nmB bs d) ∧ Fz (fun q j => q = t ∧ (j = 4 ∨ j = 5 ∨ j = 8 ∨ j = 9)) σ τ := by
      intro w0 hw
      have hT3 := f3'.T hT
      obtain ⟨σ4, e4⟩ : ∃ σ4, σ4 = mx_setI σ3 t 8 w0 := ⟨_, rfl⟩
      have f4 : Fz (fun q j => q = t ∧ (j = 4 ∨ j = 5 ∨ j = 8 ∨ j = 9)) σ σ4 := by rw [e4]; exact f3'.sI ⟨rfl, by omega⟩ _
      have hT4 := f4.T hT
      have hC4 : TC σ4 t bs := TC_f h f4 (fun q j z => by omega)
      have c4 : mxI σ4 t 4 = q_n (dgN bs 4 d) := by rw [e4, sI_n (by omega)]; exact b4
      have c5 : mxI σ4 t 5 = 3 := by rw [e4, sI_n (by omega)]; exact b5
      have c9 : mxI σ4 t 9 = 1 := by rw [e4, sI_n (by omega)]; exact b9
      have c8 : (mxI σ4 t 8).toInt = (if ng then -(dvN bs 4 d 0 : Int) else dvN bs 4 d 0) := by rw [e4, sI_e]; exact hw
      have hle := dgN_le (bs := bs) 4 d hp
      unfold f_X10_readNumber_D35 f_X10_readNumber_D97
      rw [bd (at_pI hT3 hb _), ← e4, bd (at_gI hT4), c4, bd (at_is hT4), bd2 (c_byte hT4 hC4 (by omega))]
      by_cases c47 : bA bs (dgN bs 4 d) = 47
      · rw [if_pos c47, bd (at_gI hT4), c4, bd (at_is hT4), q_nS, bd2 (c_byte hT4 hC4 (by omega)), bd2 (c_dgt _)]
        cases cd : dgt (bA bs (dgN bs 4 d + 1)) with
        | false =>
          rw [if_pos (by rfl)]
          have en : nmE bs d = false := by unfold nmE; rw [cd, Bool.and_false]
          refine ⟨σ4, rfl, ?_, ?_, c8, ?_, f4⟩
          · rw [c4]; unfold nmX; rw [en, if_neg (by decide)]
          · rw [c5, show nmB bs d = 1 by unfold nmB; rw [en]; rfl]; rfl
          · rw [c9]; unfold nmB; rw [en, if_neg (by decide)]; rfl
        | true =>
          have en : nmE bs d = true := by unfold nmE; rw [cd, Bool.and_true]; exact decide_eq_true c47
          have hlt := dgt_lt cd
          rw [if_neg (by decide), bd (at_gI hT4), c4, q_nS, bd (at_pI hT4 hb _)]
          obtain ⟨σ5, e5⟩ : ∃ σ5, σ5 = mx_setI σ4 t 4 (q_n (dgN bs 4 d + 1)) := ⟨_, rfl⟩
          rw [← e5]
          have f5 : Fz (fun q j => q = t ∧ (j = 4 ∨ j = 5 ∨ j = 8 ∨ j = 9)) σ σ5 := by rw [e5]; exact f4.sI ⟨rfl, by omega⟩ _
          have hT5 := f5.T hT
          have hC5 : TC σ5 t bs := TC_f h f5 (fun q j z => by omega)
          obtain ⟨σ6, e6, d4, f6⟩ := c_digs (P := P) hf hT5 hb hC5 (show mxI σ5 t 4 = q_n (dgN bs 4 d + 1) by rw [e5]; exact sI_e) (by omega)
          have f6' := f5.tr (f6.mo (T := fun q j => q = t ∧ (j = 4 ∨ j = 5 ∨ j = 8 ∨ j = 9)) fun q j z => ⟨z.1, Or.inl z.2⟩)
          have hT6 := f6'.T hT
          have d5 : mxI σ6 t 5 = 3 := by rw [(f6.2.2.2 _ _ (by omega)).1, e5, sI_n (by omega)]; exact c5
          have d8 : (mxI σ6 t 8).toInt = (if ng then -(dvN bs 4 d 0 : Int) else dvN bs 4 d 0) := by rw [(f6.2.2.2 _ _ (by omega)).1, e5, sI_n (by omega)]; exact c8
          have eB : nmB bs d = dvN bs 4 (dgN bs 4 d + 1) 0 := by unfold nmB; rw [en, if_pos rfl]
          have eX : nmX bs d = dgN bs 4 (dgN bs 4 d + 1) := by unfold nmX; rw [en, if_pos rfl]
          have hB4 := dv4_lt (p := dgN bs 4 d + 1) h256
          obtain ⟨σ7, e7⟩ : ∃ σ7, σ7 = mx_setI σ6 t 9 (q_n (dvN bs 4 (dgN bs 4 d + 1) 0)) := ⟨_, rfl⟩
          have f7 : Fz (fun q j => q = t ∧ (j = 4 ∨ j = 5 ∨ j = 8 ∨ j = 9)) σ σ7 := by rw [e7]; exact f6'.sI ⟨rfl, by omega⟩ _
          have hT7 := f7.T hT
          rw [bd (at_is hT5), bd2 e6, bd (at_pI hT6 hb _), ← e7, bd (at_gI hT7), show mxI σ7 t 9 = q_n (dvN bs 4 (dgN bs 4 d + 1) 0) by rw [e7]; exact sI_e]
          by_cases z0 : dvN bs 4 (dgN bs 4 d + 1) 0 = 0
          · rw [if_pos (by rw [z0]; rfl), bd (at_pI hT7 hb _)]
            refine ⟨_, rfl, ?_, ?_, ?_, ?_, f7.sI ⟨rfl, by omega⟩ _⟩
            · rw [sI_n (by omega), e7, sI_n (by omega), d4, eX]
            · rw [sI_e, eB, if_pos z0]
            · rw [sI_n (by omega), e7, sI_n (by omega)]; exact d8
            · rw [sI_n (by omega), e7, sI_e, eB]
          · rw [if_neg (fun z => z0 (by rw [show (0 : Int32) = q_n 0 from rfl, q_nI (by omega) (by omega)] at z; exact z))]
            refine ⟨σ7, rfl, ?_, ?_, ?_, ?_, f7⟩
            · rw [e7, sI_n (by omega), d4, eX]
            · rw [e7, sI_n (by omega), d5, eB, if_neg z0]
            · rw [e7, sI_n (by omega)]; exact d8
            · rw [e7, sI_e, eB]
      · rw [if_neg c47]
        have en : nmE bs d = false := by unfold nmE; rw [decide_eq_false c47, Bool.false_and]
        refine ⟨σ4, rfl, ?_, ?_, c8, ?_, f4⟩
        · rw [c4]; unfold nmX; rw [en, if_neg (by decide)]
        · rw [c5, show nmB bs d = 1 by unfold nmB; rw [en]; rfl]; rfl
        · rw [c9]; unfold nmB; rw [en, if_neg (by decide)]; rfl
    unfold f_X10_readNumber_D19
    rw [bd (at_is hT2), bd2 e3]
    cases ng
    · rw [if_pos (by rfl)]
      exact k35 _ (by rw [q_nT (by omega)]; rfl)
    · rw [if_neg (by decide)]
      exact k35 _ (by rw [q_ineg (by rw [q_nT (by omega)]; omega), q_nT (by omega)]; rfl)
  unfold f_X10_readNumber
  rw [bd (at_pI hT hb _), ← e1]
  have hT1 := f1.T hT
  have a4 : mxI σ1 t 4 = q_n p := by rw [e1, sI_n (by omega)]; exact h4
  have a5 : mxI σ1 t 5 = 3 := by rw [e1]; exact sI_e
  have a9 : mxI σ1 t 9 = 1 := by rw [e1, sI_n (by omega)]; exact h9
  cases ng
  · rw [if_pos (by rfl)]
    exact key σ1 f1 (by rw [a4, hd]; rfl) a5 a9
  · rw [if_neg (by decide), bd (at_gI hT1), a4, q_nS, bd (at_pI hT1 hb _)]
    exact key _ (f1.sI ⟨rfl, Or.inl rfl⟩ _) (by rw [sI_e, hd]; rfl) (by rw [sI_n (by omega)]; exact a5) (by rw [sI_n (by omega)]; exact a9)
theorem ltr45 {b : Int32} (h : ltr b = true) : b ≠ -1 := by intro z; rw [z] at h; revert h; decide
theorem bA_pos (h : p < bs.length) (h256 : ∀ b, b ∈ bs → b < 256) : 0 ≤ bA bs p := by
  rw [bA_by h]
  have := h256 _ (List.mem_of_getElem? (by_i h))
  rw [q_le, q_i0, q_nT (by omega)]; omega
theorem c_tok {N : Nat} (hN : N = 4000) (hf : 5000 ≤ mpN P) (hT : LyT σ t) (hb : mpb P ≤ t) (h : TC σ t bs) (h4 : mxI σ t 4 = q_n p) (hp : p ≤ bs.length) : ∃ τ, f_X10_readToken P t σ = some τ ∧ TkC τ t bs (skN bs N p) ∧ Fz (fun q j => q = t ∧ 4 ≤ j ∧ j ≤ 9) σ τ := by
  have hl := h.1
  have h256 := TC_256 h
  obtain ⟨σ1, e1, a4, f1⟩ := c_skip (P := P) hN hf hT hb h h4 hp
  have hs := skN_le (bs := bs) N p hp
  generalize skN bs N p = s at a4 hs
  have f1' : Fz (fun q j => q = t ∧ 4 ≤ j ∧ j ≤ 9) σ σ1 := f1.mo fun q j z => by omega
  have hT1 := f1'.T hT
  obtain ⟨σ5, e5⟩ : ∃ σ5, σ5 = mx_setI (mx_setI (mx_setL (mx_setI σ1 t 6 (q_n s)) t 7 0) t 8 0) t 9 1 := ⟨_, rfl⟩
  have f5 : Fz (fun q j => q = t ∧ 4 ≤ j ∧ j ≤ 9) σ σ5 := by
    rw [e5]; exact (((f1'.sI ⟨rfl, by omega⟩ _).sL ⟨rfl, by omega⟩ _).sI ⟨rfl, by omega⟩ _).sI ⟨rfl, by omega⟩ _
  have hT5 := f5.T hT
  have hC5 : TC σ5 t bs := TC_f h f5 (fun q j z => by omega)
  have b4 : mxI σ5 t 4 = q_n s := by
    rw [e5, sI_n (by omega), sI_n (by omega)]
    show mxI (mx_setI σ1 t 6 (q_n s)) t 4 = _
    rw [sI_n (by omega)]; exact a4
  have b6 : mxI σ5 t 6 = q_n s := by
    rw [e5, sI_n (by omega), sI_n (by omega)]
    show mxI (mx_setI σ1 t 6 (q_n s)) t 6 = _
    exact sI_e
  have b7 : mxL σ5 t 7 = 0 := by rw [e5]; show mxL (mx_setL _ t 7 0) t 7 = 0; rw [q_LL, if_pos ⟨rfl, rfl⟩]
  have b9 : mxI σ5 t 9 = 1 := by rw [e5]; exact sI_e
  have hpre : f_X10_readToken P t σ = (if 0 ≤ bA bs s then (if bI (ltr (bA bs s)) = 0 then (if bI (dgt (bA bs s)) = 0 then (if bA bs s = (45 : Int32) then (if bI (dgt (bA bs (s + 1))) = 0 then f_X10_readToken_D109 P t (bA bs s) σ5 else f_X10_readToken_D91 P t (bA bs s) σ5) else f_X10_readToken_D109 P t (bA bs s) σ5) else f_X10_readToken_D91 P t (bA bs s) σ5) else (mx_is σ5 t 10).bind fun i58 => (f_X10_readWord P t σ5).bind fun σ60 => f_X10_readToken_D152 P  σ60) else (mp_I P σ5 t 10 5 (0 : Int32)).bind fun σ62 => f_X10_readToken_D152 P  σ62) := by
    unfold f_X10_readToken
    have hTa : LyT (mx_setI σ1 t 6 (q_n s)) t := hT1
    have hTb : LyT (mx_setL (mx_setI σ1 t 6 (q_n s)) t 7 0) t := hT1
    have hTc : LyT (mx_setI (mx_setL (mx_setI σ1 t 6 (q_n s)) t 7 0) t 8 0) t := hT1
    rw [bd (at_is hT), bd e1, bd (at_gI hT1), a4, bd (at_pI hT1 hb _), bd (at_pL hTa hb _), bd (at_pI hTb hb _), bd (at_pI hTc hb _), ← e5, bd (at_gI hT5), b4, bd (at_is hT5), bd2 (c_byte hT5 hC5 (by omega)), bd2 (c_ltr _), bd2 (c_dgt _), bd (at_gI hT5), b4, bd (at_is hT5), q_nS, bd2 (c_byte hT5 hC5 (by omega)), bd2 (c_dgt _)]
  rw [hpre]
  unfold TkC
  by_cases hend : bs.length ≤ s
  · rw [show kdA bs s = 0 by unfold kdA; rw [if_pos hend], show enA bs s = s by unfold enA; rw [if_pos hend], bA_no hend, if_neg (by decide), bd (at_pI hT5 hb _)]
    unfold f_X10_readToken_D152
    refine ⟨_, rfl, ⟨?_, sI_e, ?_, fun z => absurd z (by decide), fun z => absurd z (by decide)⟩, f5.sI ⟨rfl, by omega⟩ _⟩
    · rw [sI_n (by omega)]; exact b4
    · rw [sI_n (by omega)]; exact b6
  have hlt : s < bs.length := by omega
  rw [if_pos (bA_pos hlt h256)]
  cases hlr : ltr (bA bs s) with
  | true =>
    rw [show kdA bs s = 2 by unfold kdA; rw [if_neg hend, hlr, if_pos rfl], show enA bs s = wdN bs 8 s by unfold enA; rw [if_neg hend, hlr, if_pos rfl], if_neg (by decide), bd (at_is hT5)]
    obtain ⟨σ6, e6, c5, c4, c7, f6⟩ := c_rword (P := P) hf hT5 hb hC5 b4 b7 (by omega)
    unfold f_X10_readToken_D152
    rw [bd e6]
    refine ⟨σ6, rfl, ⟨c4, c5, ?_, fun _ => c7, fun z => absurd z (by decide)⟩, f5.tr (f6.mo fun q j z => by omega)⟩
    rw [(f6.2.2.2 _ _ (by omega)).1]; exact b6
  | false =>
    rw [if_pos (by rfl)]
    -- a number
    have num : isNm bs s = true → ∃ τ, f_X10_readToken_D91 P t (bA bs s) σ5 = some τ ∧ (mxI τ t 4 = q_n (nmX bs (nmD bs s)) ∧ mxI τ t 5 = (if nmB bs (nmD bs s) = 0 then 1 else 3) ∧ mxI τ t 6 = q_n s ∧ ((mxI τ t 8).toInt = tpA bs s ∧ mxI τ t 9 = q_n (nmB bs (nmD bs s)))) ∧ Fz (fun q j => q = t ∧ 4 ≤ j ∧ j ≤ 9) σ τ := by
      intro hn
      have hd : nmD bs s ≤ bs.length := by
        unfold nmD
        split
        · next c45 => unfold isNm at hn; rw [c45] at hn; have := (Bool.or_eq_true _ _).mp hn; rcases this with z | z; exact absurd z (by decide); rw [Bool.and_eq_true] at z; exact Nat.le_of_lt (dgt_lt z.2)
        · omega
      unfold f_X10_readToken_D91 f_X10_readToken_D103 f_X10_readToken_D152
      by_cases c45 : bA bs s = 45
      · rw [if_pos c45]
        obtain ⟨σ6, e6, c4, c5, c8, c9, f6⟩ := c_rnum (P := P) (ng := true) (d := nmD bs s) hf hT5 hb hC5 b4 b9 (by unfold nmD; rw [if_pos c45]; rfl) hd
        rw [bd (at_is hT5), bd (show f_X10_readNumber P t 1 σ5 = some σ6 from e6)]
        refine ⟨σ6, rfl, ⟨c4, c5, ?_, ?_, c9⟩, f5.tr (f6.mo fun q j z => by omega)⟩
        · rw [(f6.2.2.2 _ _ (by omega)).1]; exact b6
        · rw [c8]; unfold tpA; rw [if_pos c45]; rfl
      · rw [if_neg c45]
        obtain ⟨σ6, e6, c4, c5, c8, c9, f6⟩ := c_rnum (P := P) (ng := false) (d := nmD bs s) hf hT5 hb hC5 b4 b9 (by unfold nmD; rw [if_neg c45]; rfl) hd
        rw [bd (at_is hT5), bd (show f_X10_readNumber P t 0 σ5 = some σ6 from e6)]
        refine ⟨σ6, rfl, ⟨c4, c5, ?_, ?_, c9⟩, f5.tr (f6.mo fun q j z => by omega)⟩
        · rw [(f6.2.2.2 _ _ (by omega)).1]; exact b6
        · rw [c8]; unfold tpA; rw [if_neg c45]; rfl
    have hT6 : LyT (mx_setI σ5 t 4 (q_n (s + 1))) t := hT5
    -- a sign
    have sig : ∃ τ, f_X10_readToken_D109 P t (bA bs s) σ5 = some τ ∧ (mxI τ t 4 = q_n (s + 1) ∧ mxI τ t 5 = (if sgn (bA bs s) then bA bs s else 1) ∧ mxI τ t 6 = q_n s) ∧ Fz (fun q j => q = t ∧ 4 ≤ j ∧ j ≤ 9) σ τ := by
      have fin : ∀ v : Int32, f_X10_readToken_D149 P v t (mx_setI σ5 t 4 (q_n (s + 1))) = some (mx_setI (mx_setI σ5 t 4 (q_n (s + 1))) t 5 v) := fun v => by
        unfold f_X10_readToken_D149 f_X10_readToken_D152
        rw [bd (at_pI hT6 hb _)]
      refine ⟨mx_setI (mx_setI σ5 t 4 (q_n (s + 1))) t 5 (if sgn (bA bs s) then bA bs s else 1), ?_, ⟨?_, sI_e, ?_⟩, (f5.sI ⟨rfl, by omega⟩ _).sI ⟨rfl, by omega⟩ _⟩
      · unfold f_X10_readToken_D109 f_X10_readToken_D144
        rw [bd (at_gI hT5), b4, q_nS, bd (at_pI hT5 hb _), fin, fin]
        unfold sgn
        by_cases c1 : bA bs s = 43
        · rw [if_pos c1, decide_eq_true (Or.inl c1)]; rfl
        rw [if_neg c1]
        by_cases c2 : bA bs s = 45
        · rw [if_pos c2, decide_eq_true (Or.inr (Or.inl c2))]; rfl
        rw [if_neg c2]
        by_cases c3 : bA bs s = 63
        · rw [if_pos c3, decide_eq_true (Or.inr (Or.inr (Or.inl c3)))]; rfl
        rw [if_neg c3]
        by_cases c4 : bA bs s = 59
        · rw [if_pos c4, decide_eq_true (Or.inr (Or.inr (Or.inr c4)))]; rfl
        rw [if_neg c4, decide_eq_false (by rintro (z | z | z | z) <;> contradiction)]; rfl
      · rw [sI_n (by omega)]; exact sI_e
      · rw [sI_n (by omega), sI_n (by omega)]; exact b6
    cases hn : isNm bs s with
    | true =>
      rw [show kdA bs s = (if nmB bs (nmD bs s) = 0 then 1 else 3) by unfold kdA; rw [if_neg hend, hlr, if_neg (show ¬ (false = true) by decide), hn, if_pos rfl], show enA bs s = nmX bs (nmD bs s) by unfold enA; rw [if_neg hend, hlr, if_neg (show ¬ (false = true) by decide), hn, if_pos rfl]]
      obtain ⟨τ, e, ⟨k4, k5, k6, k8, k9⟩, f⟩ := num hn
      have ee : (if bI (dgt (bA bs s)) = 0 then (if bA bs s = (45 : Int32) then (if bI (dgt (bA bs (s + 1))) = 0 then f_X10_readToken_D109 P t (bA bs s) σ5 else f_X10_readToken_D91 P t (bA bs s) σ5) else f_X10_readToken_D109 P t (bA bs s) σ5) else f_X10_readToken_D91 P t (bA bs s) σ5) = f_X10_readToken_D91 P t (bA bs s) σ5 := by
        unfold isNm at hn
        cases hd : dgt (bA bs s) with
        | true => rw [if_neg (by decide)]
        | false =>
          rw [hd, Bool.false_or, Bool.and_eq_true] at hn
          rw [if_pos (by rfl), if_pos (of_decide_eq_true hn.1), hn.2, if_neg (by decide)]
      rw [ee]
      refine ⟨τ, e, ⟨k4, k5, k6, fun z => ?_, fun _ => ⟨k8, k9⟩⟩, f⟩
      split at z <;> exact absurd z (by decide)
    | false =>
      rw [show kdA bs s = (if sgn (bA bs s) then bA bs s else 1) by unfold kdA; rw [if_neg hend, hlr, if_neg (show ¬ (false = true) by decide), hn, if_neg (show ¬ (false = true) by decide)], show enA bs s = s + 1 by unfold enA; rw [if_neg hend, hlr, if_neg (show ¬ (false = true) by decide), hn, if_neg (show ¬ (false = true) by decide)]]
      obtain ⟨τ, e, ⟨k4, k5, k6⟩, f⟩ := sig
      have ee : (if bI (dgt (bA bs s)) = 0 then (if bA bs s = (45 : Int32) then (if bI (dgt (bA bs (s + 1))) = 0 then f_X10_readToken_D109 P t (bA bs s) σ5 else f_X10_readToken_D91 P t (bA bs s) σ5) else f_X10_readToken_D109 P t (bA bs s) σ5) else f_X10_readToken_D91 P t (bA bs s) σ5) = f_X10_readToken_D109 P t (bA bs s) σ5 := by
        unfold isNm at hn
        rw [Bool.or_eq_false_iff] at hn
        rw [hn.1, if_pos (by rfl)]
        by_cases c45 : bA bs s = 45
        · rw [if_pos c45]
          have := hn.2
          rw [decide_eq_true c45, Bool.true_and] at this
          rw [this, if_pos (by rfl)]
        · rw [if_neg c45]
      rw [ee]
      have hk : ∀ v : Int32, v = 2 ∨ v = 3 → ¬ (if sgn (bA bs s) = true then bA bs s else 1) = v := by
        intro v hv z
        cases hsg : sgn (bA bs s) with
        | true =>
          rw [hsg, if_pos rfl] at z
          unfold sgn at hsg
          have := of_decide_eq_true hsg
          rw [z] at this
          rcases hv with rfl | rfl <;> revert this <;> decide
        | false =>
          rw [hsg, if_neg (by decide)] at z
          rcases hv with rfl | rfl <;> revert z <;> decide
      exact ⟨τ, e, ⟨k4, k5, k6, fun z => absurd z (hk 2 (Or.inl rfl)), fun z => absurd z (hk 3 (Or.inr rfl))⟩, f⟩
end HMS
