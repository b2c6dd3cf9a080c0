/-! ===== gears: simple calls ===== -/
section GA
variable {P : mx_P} {σ : mx_S} {x : Nat}
/-- what stands at a call -/
def St (P : mx_P) (σ : mx_S) (x : Nat) : Prop := LyH (mxA σ) (mxR σ) x ∧ mpb P ≤ x ∧ 100000 ≤ mpN P ∧ Rm P σ 1 6
def Q32 (x : Nat) (σ : mx_S) (l : Option (Int32 × mx_S)) (f : mx_S → Option (Int32 × mx_S)) (ns : List Nat) (Post : mx_S → Prop) : Prop :=
  ∃ k v τ1 τ2, l = some (k, τ1) ∧ f τ1 = some (v, τ2) ∧ mxI τ2 (x + 1497) 0 = k ∧ (k = 0 → mxL τ2 (x + 1575) 0 = v.toInt64) ∧ mxA τ1 = mxA σ ∧ Fr x ns σ τ2 ∧ Post τ2
def Q64 (x : Nat) (σ : mx_S) (l : Option (Int32 × mx_S)) (f : mx_S → Option (Int64 × mx_S)) (ns : List Nat) (Post : mx_S → Prop) : Prop :=
  ∃ k v τ1 τ2, l = some (k, τ1) ∧ f τ1 = some (v, τ2) ∧ mxI τ2 (x + 1497) 0 = k ∧ (k = 0 → mxL τ2 (x + 1575) 0 = v) ∧ mxA τ1 = mxA σ ∧ Fr x ns σ τ2 ∧ Post τ2
def Q0 (x : Nat) (σ : mx_S) (l : Option (Int32 × mx_S)) (f : mx_S → Option mx_S) (ns : List Nat) (Post : mx_S → Prop) : Prop :=
  ∃ k τ1 τ2, l = some (k, τ1) ∧ f τ1 = some τ2 ∧ mxI τ2 (x + 1497) 0 = k ∧ mxA τ1 = mxA σ ∧ Fr x ns σ τ2 ∧ Post τ2
def Qc (x : Nat) (σ : mx_S) (l : Option (Int32 × mx_S)) (f : mx_S → Option (Int32 × mx_S)) (ns : List Nat) (Post : mx_S → Prop) : Prop :=
  ∃ v τ1 τ2, l = some (v, τ1) ∧ f τ1 = some (v, τ2) ∧ mxA τ1 = mxA σ ∧ Fr x ns σ τ2 ∧ Post τ2
def RG0 (σ : mx_S) (x : Nat) (gs : List (Nat × Nat)) (ms : List (Nat × Nat × Bool × Int32)) (sh : Nat → Nat × Int32 × Int32) : Prop :=
  (mxI σ (x + 9) 0 = q_n gs.length ∧ mxI σ (x + 1497) 57 = q_n gs.length ∧ gs.length ≤ 24 ∧
  ∀ j e, gs[j]? = some e → mxI σ (x + 9 + 1) j = q_n e.1 ∧ mxI σ (x + 1497 + 36) j = q_n e.1 ∧ mxI σ (x + 9 + 2) j = q_n e.2 ∧ mxI σ (x + 1497 + 37) j = q_n e.2 ∧ 4 ≤ e.1 ∧ e.1 ≤ 2000 ∧ e.2 < 12) ∧
  (mxI σ (x + 9) 1 = q_n ms.length ∧ mxI σ (x + 1497) 60 = q_n ms.length ∧ ms.length ≤ 20 ∧
  ∀ j e, ms[j]? = some e → (mxI σ (x + 9 + 3) (4 * j) = q_n e.1 ∧ mxI σ (x + 9 + 3) (4 * j + 1) = q_n e.2.1 ∧ mxI σ (x + 9 + 3) (4 * j + 2) = (if e.2.2.1 then -1 else 1) ∧ mxI σ (x + 9 + 3) (4 * j + 3) = e.2.2.2) ∧
    (mxI σ (x + 1497 + 38) j = q_n e.1 ∧ mxI σ (x + 1497 + 39) j = q_n e.2.1 ∧ mxI σ (x + 1497 + 40) j = e.2.2.2 ∧ mxI σ (x + 1497 + 41) j = (if e.2.2.1 then 1 else 0)) ∧ e.1 < gs.length ∧ e.2.1 < gs.length ∧ -1 ≤ e.2.2.2.toInt ∧ e.2.2.2.toInt ≤ 11) ∧
  ∀ s, s < 12 → mxI σ (x + 9 + 4) s = q_n (sh s).1 ∧ mxI σ (x + 1497 + 42) s = q_n (sh s).1 ∧ (sh s).1 ≤ 2 ∧ ((sh s).1 = 2 → mxI σ (x + 9 + 5) s = (sh s).2.1 ∧ mxI σ (x + 1497 + 43) s = (sh s).2.1 ∧ mxI σ (x + 9 + 6) s = (sh s).2.2 ∧ mxI σ (x + 1497 + 44) s = (sh s).2.2 ∧ -1000 ≤ (sh s).2.1.toInt ∧ (sh s).2.1.toInt ≤ 1000 ∧ 1 ≤ (sh s).2.2.toInt ∧ (sh s).2.2.toInt ≤ 1000)
theorem c_addGear {g k : Nat} (h : LyG (mxA σ) (mxR σ) g) (hb : mpb P ≤ g) (hk : mxI σ g 0 = q_n k) (hk2 : k < 24) (a b : Int32) : f_X4_addGear P g a b σ = some (q_n k, mx_setI (mx_setI (mx_setI σ (g + 1) k a) (g + 2) k b) g 0 (q_n (k + 1))) := by
  have h1 : q_n k < (24 : Int32) := (q_nLt (l := 24) (by omega) (by omega)).mpr hk2
  unfold f_X4_addGear
  simp (disch := first | assumption | omega | (simp only [q_AI, q_AL, q_RI, q_RL, tA, tR, tI, tL]; assumption)) only [Option.bind_some, q_b2, q_bxr, q_bxl, q_bx2r, q_bx2l, q_Ie, q_Le, q_In, q_Ln, q_IL, q_LI, tI, tL, q_nS, q_s2, q_s3, q_s4, q_m2, q_m3, q_m4, q_m24, q_p1, ag_gI, hk, h1, if_true, ag_r3, ag_s3, ag_r4, ag_s4, ag_pI]
/-- the reference says that it throws -/
theorem r_gear_t {m w : Nat} (h : LyO (mxA σ) (mxR σ) 12 al12 m) (hb : mpb P ≤ m) (hw : 0 < w) (hw2 : w < 10) (a b : Int32) : f_X12_gear_D45 P m a b (q_n w) m σ = some (0, mx_setI σ m 0 (q_n w)) := by
  have h1 : ¬ q_n w ≤ (0 : Int32) := fun z => by rw [q_n0, q_nLe (by omega) (by omega)] at z; omega
  unfold f_X12_gear_D45
  simp (disch := first | assumption | omega | (simp only [q_AI, q_AL, q_RI, q_RL, tA, tR, tI, tL]; assumption)) only [Option.bind_some, q_b2, q_bxr, q_bxl, q_bx2r, q_bx2l, q_Ie, q_Le, q_In, q_Ln, q_IL, q_LI, tI, tL, q_nS, q_s2, q_s3, q_s4, q_m2, q_m3, q_m4, q_m24, q_p1, am_pI, am_gI, h1, if_false]
theorem r_gear {m k : Nat} (h : LyO (mxA σ) (mxR σ) 12 al12 m) (hb : mpb P ≤ m) (hk : mxI σ m 57 = q_n k) (hk2 : k < 24) (a b : Int32) : f_X12_gear_D45 P m a b 0 m σ = some (q_n k, mx_setI (mx_setI (mx_setI (mx_setI σ m 0 0) (m + 36) k a) (m + 37) k b) m 57 (q_n (k + 1))) := by
  have h1 : (0 : Int32) ≤ 0 := by decide
  unfold f_X12_gear_D45
  simp (disch := first | assumption | omega | (simp only [q_AI, q_AL, q_RI, q_RL, tA, tR, tI, tL]; assumption)) only [Option.bind_some, q_b2, q_bxr, q_bxl, q_bx2r, q_bx2l, q_Ie, q_Le, q_In, q_Ln, q_IL, q_LI, tI, tL, q_nS, q_s2, q_s3, q_s4, q_m2, q_m3, q_m4, q_m24, q_p1, am_pI, am_gI, h1, if_true, am_r58, am_s58, am_r59, am_s59, hk]
end GA
