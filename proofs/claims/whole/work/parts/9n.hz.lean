/-! ===== hz: the end of becoming ===== -/
section HZS
variable {P : mx_P} {σ σ0 σ1 σ2 τ : mx_S} {x m n t l p a N i k j u K c np fm r : Nat} {bl : List Nat} {on : Nat → Nat} {E : Nat → BV} {inp pow msk mi bt mark fst : Int32} {lt tk : Nat → Nat}
/-- what follows the loop -/
def bTl (P : mx_P) (c t : Nat) (σ65 : mx_S) : Option mx_S := (mg_I σ65 c 5 1).bind fun x66 => (if x66 = (1 : Int32) then (mg_R σ65 c 5 10).bind fun b69 => (mg_I σ65 c 5 5).bind fun x71 => (mg_R σ65 t 10 16).bind fun b73 => (ma_I σ65 b73 0 (2 : Int32)).bind fun x75 => (mg_R σ65 t 10 17).bind fun b77 => (ma_I σ65 b77 0 (2 : Int32)).bind fun x79 => (mx_is σ65 b69 0).bind fun i81 => (f_X0_fraction P b69 ((x71.toInt64) * (x75.toInt64)) (x79.toInt64) σ65).bind fun σ83 => f_X5_become_D185 P  σ83 else f_X5_become_D185 P  σ65)
theorem bf_o (B : BC σ t bl l c N K n fm lt tk) (h1 : fm ≠ 1) (h6 : fm < 6) : bTl P c t σ = some σ := by
  have hJ := (BC_J B).1
  unfold bTl f_X5_become_D185
  rw [bd (q_gI (LyJ_o hJ)), B.2.2.2.2.2.1, if_neg (show ¬ q_n fm = (1 : Int32) from fun z => h1 (by rw [show (1 : Int32) = q_n 1 from rfl, q_nI (by omega) (by omega)] at z; exact z))]
theorem bf_1 {w : Int32} (hb : mpb P ≤ l) (hX : TxH bl N K) (B : BC σ t bl l c N K 6 1 lt tk) (h : JS σ l c np on inp w msk mi bt E) (hw1 : -8 ≤ w.toInt) (hw2 : w.toInt ≤ 8) (k2 : kdA bl (tk 2) = 3) :
    ∃ τ, bTl P c t σ = some τ ∧ BC τ t bl l c N K 6 1 lt tk ∧ JS τ l c np on inp w msk mi bt (up E (c + 3) (b_frac (w.toInt * tpA bl (tk 2)) (nmB bl (nmD bl (tk 2))))) ∧ Fz (jFb σ l c) σ τ := by
  have hJ := BC_J B
  have hP := B.2.2.2.2.2.2 2 (by omega)
  obtain ⟨m1, m2, m3, m4, m5, m6⟩ := NmI_of hX.1 hP k2
  obtain ⟨h3, hon, h4, h5, h8, h6, h7, hE⟩ := h
  have hT := B.1
  have ep : (w.toInt64 * (mxI σ (t + 5) 2).toInt64).toInt = w.toInt * tpA bl (tk 2) ∧ -1000000000000 ≤ w.toInt * tpA bl (tk 2) ∧ w.toInt * tpA bl (tk 2) ≤ 1000000000000 := by
    have hb1 : (w.toInt * tpA bl (tk 2)).natAbs ≤ 8 * 10000 := by
      rw [Int.natAbs_mul]; exact Nat.mul_le_mul (by omega) (by omega)
    generalize hv : w.toInt * tpA bl (tk 2) = v at hb1
    have e1 : w.toInt64.toInt * (mxI σ (t + 5) 2).toInt64.toInt = v := by rw [i64i, i64i, m1, hv]
    exact ⟨by rw [q_lmul (by rw [e1]; omega) (by rw [e1]; omega), e1], by omega, by omega⟩
  obtain ⟨rr, er, hr⟩ := c_frac (P := P) (σ := σ) (t := c + 3) (p := w.toInt64 * (mxI σ (t + 5) 2).toInt64) (q := (q_n (nmB bl (nmD bl (tk 2)))).toInt64) (by rw [ep.1]; exact ep.2.1) (by rw [ep.1]; exact ep.2.2) (by rw [i64i, q_nT (by omega)]; omega) (LyJ_a10 hJ.1) (by have := hJ.2.2; omega)
  rw [ep.1, i64i, q_nT (by omega)] at hr
  have f : Fz (jFb σ l c) σ (bs σ (c + 3) rr) := ⟨rfl, rfl, ⟨rfl, rfl⟩, fun q j' hq => by
    have nqe : q ≠ c + 3 := fun z => hq (Or.inl (Or.inr (by omega)))
    exact ⟨I_bs nqe, L_bs nqe⟩⟩
  refine ⟨bs σ (c + 3) rr, ?_, BC_f B f, ⟨by rw [I_bs (by omega)]; exact h3, fun j' hj' => by rw [I_bs (by omega)]; exact hon j' hj', by rw [I_bs (by omega)]; exact h4, by rw [I_bs (by omega)]; exact h5, by rw [I_bs (by omega)]; exact h8, by rw [I_bs (by omega)]; exact h6, by rw [I_bs (by omega)]; exact h7, bx_bs hE hr⟩, f⟩
  unfold bTl f_X5_become_D185
  rw [bd (q_gI (LyJ_o hJ.1)), B.2.2.2.2.2.1, if_pos (by rfl), bd ((q_gR (LyJ_o hJ.1)).trans (LyJ_r10 hJ.1)), bd (q_gI (LyJ_o hJ.1)), h5, bd (at_r16 hT), show (2 : Int32) = q_n 2 from rfl, bd (at_g16 hT (by omega)), bd (at_r17 hT), bd (at_g17 hT (by omega)), m2, bd (q_is (LyJ_a10 hJ.1)), bd er]
/-- the table of the grammar -/
theorem g0_tab : ∀ k : Fin 69, by' (gst 0) k.1 = 32 → (k.1 = 3 ∨ k.1 = 13 ∨ k.1 = 25 ∨ k.1 = 38 ∨ k.1 = 50 ∨ k.1 = 62) := by decide +kernel
theorem g0_fm : fmA (gst 0) 3 = 0 ∧ fmA (gst 0) 13 = 1 ∧ fmA (gst 0) 25 = 2 ∧ fmA (gst 0) 38 = 3 ∧ fmA (gst 0) 50 = 4 ∧ fmA (gst 0) 62 = 5 := by decide +kernel
theorem g0_n : nLt 0 3 = 3 ∧ nLt 0 13 = 6 ∧ nLt 0 25 = 6 ∧ nLt 0 38 = 6 ∧ nLt 0 50 = 5 ∧ nLt 0 62 = 5 := by decide +kernel
theorem g0_lt : (by' (gst 0) 4 = 67 ∧ by' (gst 0) 5 = 120 ∧ by' (gst 0) 6 = 120) ∧ (by' (gst 0) 14 = 67 ∧ by' (gst 0) 15 = 80 ∧ by' (gst 0) 16 = 114 ∧ by' (gst 0) 17 = 105 ∧ by' (gst 0) 18 = 110 ∧ by' (gst 0) 19 = 107) ∧ (by' (gst 0) 26 = 67 ∧ by' (gst 0) 27 = 80 ∧ by' (gst 0) 28 = 80 ∧ by' (gst 0) 29 = 114 ∧ by' (gst 0) 30 = 114 ∧ by' (gst 0) 31 = 83) ∧ (by' (gst 0) 39 = 67 ∧ by' (gst 0) 40 = 80 ∧ by' (gst 0) 41 = 114 ∧ by' (gst 0) 42 = 80 ∧ by' (gst 0) 43 = 80 ∧ by' (gst 0) 44 = 83) ∧ (by' (gst 0) 51 = 67 ∧ by' (gst 0) 52 = 80 ∧ by' (gst 0) 53 = 80 ∧ by' (gst 0) 54 = 120 ∧ by' (gst 0) 55 = 120) ∧ (by' (gst 0) 63 = 67 ∧ by' (gst 0) 64 = 80 ∧ by' (gst 0) 65 = 80 ∧ by' (gst 0) 66 = 80 ∧ by' (gst 0) 67 = 80) := by decide +kernel
end HZS
