/-! ===== qa: reads and writes, by the layout ===== -/
section QA
variable {P : mx_P} {σ : mx_S} {a j k : Nat}
theorem q_In {q : Nat} {x : Int32} (h : ¬ (q = a ∧ j = k)) : mxI (mx_setI σ a k x) q j = mxI σ q j := if_neg h
theorem q_Ln {q : Nat} {x : Int64} (h : ¬ (q = a ∧ j = k)) : mxL (mx_setL σ a k x) q j = mxL σ q j := if_neg h
theorem q_Rn {q x : Nat} (h : ¬ (q = a ∧ j = k)) : mxR (mx_setR σ a k x) q j = mxR σ q j := if_neg h
theorem q_Ie {x : Int32} : mxI (mx_setI σ a k x) a k = x := if_pos ⟨rfl, rfl⟩
theorem q_Le {x : Int64} : mxL (mx_setL σ a k x) a k = x := if_pos ⟨rfl, rfl⟩
theorem q_Re {x : Nat} : mxR (mx_setR σ a k x) a k = some x := if_pos ⟨rfl, rfl⟩
theorem q_c1 (i : Int32) : i + 1 - 1 = i := Int32.add_sub_cancel _ _
theorem q_s2 (k : Nat) : q_n k + 2 = q_n (k + 2) := q_nA k 2
theorem q_s3 (k : Nat) : q_n k + 3 = q_n (k + 3) := q_nA k 3
theorem q_s4 (k : Nat) : q_n k + 4 = q_n (k + 4) := q_nA k 4
theorem q_m2 (k : Nat) : (2 : Int32) * q_n k = q_n (2 * k) := q_nM 2 k
theorem q_m3 (k : Nat) : (3 : Int32) * q_n k = q_n (3 * k) := q_nM 3 k
theorem q_m4 (k : Nat) : (4 : Int32) * q_n k = q_n (4 * k) := q_nM 4 k
theorem q_m6 (k : Nat) : (6 : Int32) * q_n k = q_n (6 * k) := q_nM 6 k
theorem q_m8 (k : Nat) : (8 : Int32) * q_n k = q_n (8 * k) := q_nM 8 k
theorem q_m13 (k : Nat) : (13 : Int32) * q_n k = q_n (13 * k) := q_nM 13 k
theorem q_m24 (k : Nat) : (24 : Int32) * q_n k = q_n (24 * k) := q_nM 24 k
theorem am_is (h : LyO (mxA σ) (mxR σ) 12 al12 a) : mx_is σ a 12 = some () := q_is h.1
theorem am_gI (h : LyO (mxA σ) (mxR σ) 12 al12 a) : mg_I σ a 12 k = some (mxI σ a k) := q_gI h.1
theorem am_gL (h : LyO (mxA σ) (mxR σ) 12 al12 a) : mg_L σ a 12 k = some (mxL σ a k) := q_gL h.1
theorem am_pI (h : LyO (mxA σ) (mxR σ) 12 al12 a) (hb : mpb P ≤ a) (x : Int32) : mp_I P σ a 12 k x = some (mx_setI σ a k x) := q_pI h.1 hb x
theorem am_pZ (h : LyO (mxA σ) (mxR σ) 12 al12 a) (hb : mpb P ≤ a) {x : Int32} (hx : x = 0 ∨ x = 1) : mp_Z P σ a 12 k x = some (mx_setI σ a k x) := q_pZ h.1 hb hx
theorem am_pL (h : LyO (mxA σ) (mxR σ) 12 al12 a) (hb : mpb P ≤ a) (x : Int64) : mp_L P σ a 12 k x = some (mx_setL σ a k x) := q_pL h.1 hb x
theorem am_r1 (h : LyO (mxA σ) (mxR σ) 12 al12 a) : mg_R σ a 12 1 = some (a + 1) := (q_gR h.1).trans (h.2 0 1 0 4000 rfl).1
theorem am_g1 (h : LyO (mxA σ) (mxR σ) 12 al12 a) (hj : j < 4000) : ma_I σ (a + 1) 0 (q_n j) = some (mxI σ (a + 1) j) := q_aIn (h.2 0 1 0 4000 rfl).2 (by omega) hj
theorem am_s1 (h : LyO (mxA σ) (mxR σ) 12 al12 a) (hb : mpb P ≤ a) (hj : j < 4000) (x : Int32) : ms_I P σ (a + 1) 0 (q_n j) x = some (mx_setI σ (a + 1) j x) := q_sIn (h.2 0 1 0 4000 rfl).2 (by omega) hj (by omega) x
theorem am_r11 (h : LyO (mxA σ) (mxR σ) 12 al12 a) : mg_R σ a 12 11 = some (a + 2) := (q_gR h.1).trans (h.2 1 11 1 320 rfl).1
theorem am_g11 (h : LyO (mxA σ) (mxR σ) 12 al12 a) (hj : j < 320) : ma_L σ (a + 2) 1 (q_n j) = some (mxL σ (a + 2) j) := q_aLn (h.2 1 11 1 320 rfl).2 (by omega) hj
theorem am_s11 (h : LyO (mxA σ) (mxR σ) 12 al12 a) (hb : mpb P ≤ a) (hj : j < 320) (x : Int64) : ms_L P σ (a + 2) 1 (q_n j) x = some (mx_setL σ (a + 2) j x) := q_sLn (h.2 1 11 1 320 rfl).2 (by omega) hj (by omega) x
theorem am_r12 (h : LyO (mxA σ) (mxR σ) 12 al12 a) : mg_R σ a 12 12 = some (a + 3) := (q_gR h.1).trans (h.2 2 12 1 320 rfl).1
theorem am_g12 (h : LyO (mxA σ) (mxR σ) 12 al12 a) (hj : j < 320) : ma_L σ (a + 3) 1 (q_n j) = some (mxL σ (a + 3) j) := q_aLn (h.2 2 12 1 320 rfl).2 (by omega) hj
theorem am_s12 (h : LyO (mxA σ) (mxR σ) 12 al12 a) (hb : mpb P ≤ a) (hj : j < 320) (x : Int64) : ms_L P σ (a + 3) 1 (q_n j) x = some (mx_setL σ (a + 3) j x) := q_sLn (h.2 2 12 1 320 rfl).2 (by omega) hj (by omega) x
theorem am_r13 (h : LyO (mxA σ) (mxR σ) 12 al12 a) : mg_R σ a 12 13 = some (a + 4) := (q_gR h.1).trans (h.2 3 13 3 320 rfl).1
theorem am_g13 (h : LyO (mxA σ) (mxR σ) 12 al12 a) (hj : j < 320) : ma_I σ (a + 4) 3 (q_n j) = some (mxI σ (a + 4) j) := q_aIn (h.2 3 13 3 320 rfl).2 (by omega) hj
theorem am_s13 (h : LyO (mxA σ) (mxR σ) 12 al12 a) (hb : mpb P ≤ a) (hj : j < 320) (x : Int32) : ms_I P σ (a + 4) 3 (q_n j) x = some (mx_setI σ (a + 4) j x) := q_sIn (h.2 3 13 3 320 rfl).2 (by omega) hj (by omega) x
theorem am_r21 (h : LyO (mxA σ) (mxR σ) 12 al12 a) : mg_R σ a 12 21 = some (a + 5) := (q_gR h.1).trans (h.2 4 21 0 40 rfl).1
theorem am_g21 (h : LyO (mxA σ) (mxR σ) 12 al12 a) (hj : j < 40) : ma_I σ (a + 5) 0 (q_n j) = some (mxI σ (a + 5) j) := q_aIn (h.2 4 21 0 40 rfl).2 (by omega) hj
theorem am_s21 (h : LyO (mxA σ) (mxR σ) 12 al12 a) (hb : mpb P ≤ a) (hj : j < 40) (x : Int32) : ms_I P σ (a + 5) 0 (q_n j) x = some (mx_setI σ (a + 5) j x) := q_sIn (h.2 4 21 0 40 rfl).2 (by omega) hj (by omega) x
theorem am_r22 (h : LyO (mxA σ) (mxR σ) 12 al12 a) : mg_R σ a 12 22 = some (a + 6) := (q_gR h.1).trans (h.2 5 22 0 160 rfl).1
theorem am_g22 (h : LyO (mxA σ) (mxR σ) 12 al12 a) (hj : j < 160) : ma_I σ (a + 6) 0 (q_n j) = some (mxI σ (a + 6) j) := q_aIn (h.2 5 22 0 160 rfl).2 (by omega) hj
theorem am_s22 (h : LyO (mxA σ) (mxR σ) 12 al12 a) (hb : mpb P ≤ a) (hj : j < 160) (x : Int32) : ms_I P σ (a + 6) 0 (q_n j) x = some (mx_setI σ (a + 6) j x) := q_sIn (h.2 5 22 0 160 rfl).2 (by omega) hj (by omega) x
theorem am_r23 (h : LyO (mxA σ) (mxR σ) 12 al12 a) : mg_R σ a 12 23 = some (a + 7) := (q_gR h.1).trans (h.2 6 23 1 40 rfl).1
theorem am_g23 (h : LyO (mxA σ) (mxR σ) 12 al12 a) (hj : j < 40) : ma_L σ (a + 7) 1 (q_n j) = some (mxL σ (a + 7) j) := q_aLn (h.2 6 23 1 40 rfl).2 (by omega) hj
theorem am_s23 (h : LyO (mxA σ) (mxR σ) 12 al12 a) (hb : mpb P ≤ a) (hj : j < 40) (x : Int64) : ms_L P σ (a + 7) 1 (q_n j) x = some (mx_setL σ (a + 7) j x) := q_sLn (h.2 6 23 1 40 rfl).2 (by omega) hj (by omega) x
theorem am_r24 (h : LyO (mxA σ) (mxR σ) 12 al12 a) : mg_R σ a 12 24 = some (a + 8) := (q_gR h.1).trans (h.2 7 24 1 40 rfl).1
theorem am_g24 (h : LyO (mxA σ) (mxR σ) 12 al12 a) (hj : j < 40) : ma_L σ (a + 8) 1 (q_n j) = some (mxL σ (a + 8) j) := q_aLn (h.2 7 24 1 40 rfl).2 (by omega) hj
theorem am_s24 (h : LyO (mxA σ) (mxR σ) 12 al12 a) (hb : mpb P ≤ a) (hj : j < 40) (x : Int64) : ms_L P σ (a + 8) 1 (q_n j) x = some (mx_setL σ (a + 8) j x) := q_sLn (h.2 7 24 1 40 rfl).2 (by omega) hj (by omega) x
theorem am_r25 (h : LyO (mxA σ) (mxR σ) 12 al12 a) : mg_R σ a 12 25 = some (a + 9) := (q_gR h.1).trans (h.2 8 25 1 40 rfl).1
theorem am_g25 (h : LyO (mxA σ) (mxR σ) 12 al12 a) (hj : j < 40) : ma_L σ (a + 9) 1 (q_n j) = some (mxL σ (a + 9) j) := q_aLn (h.2 8 25 1 40 rfl).2 (by omega) hj
theorem am_s25 (h : LyO (mxA σ) (mxR σ) 12 al12 a) (hb : mpb P ≤ a) (hj : j < 40) (x : Int64) : ms_L P σ (a + 9) 1 (q_n j) x = some (mx_setL σ (a + 9) j x) := q_sLn (h.2 8 25 1 40 rfl).2 (by omega) hj (by omega) x
theorem am_r26 (h : LyO (mxA σ) (mxR σ) 12 al12 a) : mg_R σ a 12 26 = some (a + 10) := (q_gR h.1).trans (h.2 9 26 1 40 rfl).1
theorem am_g26 (h : LyO (mxA σ) (mxR σ) 12 al12 a) (hj : j < 40) : ma_L σ (a + 10) 1 (q_n j) = some (mxL σ (a + 10) j) := q_aLn (h.2 9 26 1 40 rfl).2 (by omega) hj
theorem am_s26 (h : LyO (mxA σ) (mxR σ) 12 al12 a) (hb : mpb P ≤ a) (hj : j < 40) (x : Int64) : ms_L P σ (a + 10) 1 (q_n j) x = some (mx_setL σ (a + 10) j x) := q_sLn (h.2 9 26 1 40 rfl).2 (by omega) hj (by omega) x
theorem am_r27 (h : LyO (mxA σ) (mxR σ) 12 al12 a) : mg_R σ a 12 27 = some (a + 11) := (q_gR h.1).trans (h.2 10 27 0 40 rfl).1
theorem am_g27 (h : LyO (mxA σ) (mxR σ) 12 al12 a) (hj : j < 40) : ma_I σ (a + 11) 0 (q_n j) = some (mxI σ (a + 11) j) := q_aIn (h.2 10 27 0 40 rfl).2 (by omega) hj
theorem am_s27 (h : LyO (mxA σ) (mxR σ) 12 al12 a) (hb : mpb P ≤ a) (hj : j < 40) (x : Int32) : ms_I P σ (a + 11) 0 (q_n j) x = some (mx_setI σ (a + 11) j x) := q_sIn (h.2 10 27 0 40 rfl).2 (by omega) hj (by omega) x
theorem am_r28 (h : LyO (mxA σ) (mxR σ) 12 al12 a) : mg_R σ a 12 28 = some (a + 12) := (q_gR h.1).trans (h.2 11 28 0 40 rfl).1
theorem am_g28 (h : LyO (mxA σ) (mxR σ) 12 al12 a) (hj : j < 40) : ma_I σ (a + 12) 0 (q_n j) = some (mxI σ (a + 12) j) := q_aIn (h.2 11 28 0 40 rfl).2 (by omega) hj
theorem am_s28 (h : LyO (mxA σ) (mxR σ) 12 al12 a) (hb : mpb P ≤ a) (hj : j < 40) (x : Int32) : ms_I P σ (a + 12) 0 (q_n j) x = some (mx_setI σ (a + 12) j x) := q_sIn (h.2 11 28 0 40 rfl).2 (by omega) hj (by omega) x
theorem am_r29 (h : LyO (mxA σ) (mxR σ) 12 al12 a) : mg_R σ a 12 29 = some (a + 13) := (q_gR h.1).trans (h.2 12 29 0 40 rfl).1
theorem am_g29 (h : LyO (mxA σ) (mxR σ) 12 al12 a) (hj : j < 40) : ma_I σ (a + 13) 0 (q_n j) = some (mxI σ (a + 13) j) := q_aIn (h.2 12 29 0 40 rfl).2 (by omega) hj
theorem am_s29 (h : LyO (mxA σ) (mxR σ) 12 al12 a) (hb : mpb P ≤ a) (hj : j < 40) (x : Int32) : ms_I P σ (a + 13) 0 (q_n j) x = some (mx_setI σ (a + 13) j x) := q_sIn (h.2 12 29 0 40 rfl).2 (by omega) hj (by omega) x
theorem am_r30 (h : LyO (mxA σ) (mxR σ) 12 al12 a) : mg_R σ a 12 30 = some (a + 14) := (q_gR h.1).trans (h.2 13 30 0 40 rfl).1
theorem am_g30 (h : LyO (mxA σ) (mxR σ) 12 al12 a) (hj : j < 40) : ma_I σ (a + 14) 0 (q_n j) = some (mxI σ (a + 14) j) := q_aIn (h.2 13 30 0 40 rfl).2 (by omega) hj
theorem am_s30 (h : LyO (mxA σ) (mxR σ) 12 al12 a) (hb : mpb P ≤ a) (hj : j < 40) (x : Int32) : ms_I P σ (a + 14) 0 (q_n j) x = some (mx_setI σ (a + 14) j x) := q_sIn (h.2 13 30 0 40 rfl).2 (by omega) hj (by omega) x
theorem am_r31 (h : LyO (mxA σ) (mxR σ) 12 al12 a) : mg_R σ a 12 31 = some (a + 15) := (q_gR h.1).trans (h.2 14 31 0 40 rfl).1
theorem am_g31 (h : LyO (mxA σ) (mxR σ) 12 al12 a) (hj : j < 40) : ma_I σ (a + 15) 0 (q_n j) = some (mxI σ (a + 15) j) := q_aIn (h.2 14 31 0 40 rfl).2 (by omega) hj
theorem am_s31 (h : LyO (mxA σ) (mxR σ) 12 al12 a) (hb : mpb P ≤ a) (hj : j < 40) (x : Int32) : ms_I P σ (a + 15) 0 (q_n j) x = some (mx_setI σ (a + 15) j x) := q_sIn (h.2 14 31 0 40 rfl).2 (by omega) hj (by omega) x
theorem am_r32 (h : LyO (mxA σ) (mxR σ) 12 al12 a) : mg_R σ a 12 32 = some (a + 16) := (q_gR h.1).trans (h.2 15 32 0 320 rfl).1
theorem am_g32 (h : LyO (mxA σ) (mxR σ) 12 al12 a) (hj : j < 320) : ma_I σ (a + 16) 0 (q_n j) = some (mxI σ (a + 16) j) := q_aIn (h.2 15 32 0 320 rfl).2 (by omega) hj
theorem am_s32 (h : LyO (mxA σ) (mxR σ) 12 al12 a) (hb : mpb P ≤ a) (hj : j < 320) (x : Int32) : ms_I P σ (a + 16) 0 (q_n j) x = some (mx_setI σ (a + 16) j x) := q_sIn (h.2 15 32 0 320 rfl).2 (by omega) hj (by omega) x
theorem am_r33 (h : LyO (mxA σ) (mxR σ) 12 al12 a) : mg_R σ a 12 33 = some (a + 17) := (q_gR h.1).trans (h.2 16 33 0 40 rfl).1
theorem am_g33 (h : LyO (mxA σ) (mxR σ) 12 al12 a) (hj : j < 40) : ma_I σ (a + 17) 0 (q_n j) = some (mxI σ (a + 17) j) := q_aIn (h.2 16 33 0 40 rfl).2 (by omega) hj
theorem am_s33 (h : LyO (mxA σ) (mxR σ) 12 al12 a) (hb : mpb P ≤ a) (hj : j < 40) (x : Int32) : ms_I P σ (a + 17) 0 (q_n j) x = some (mx_setI σ (a + 17) j x) := q_sIn (h.2 16 33 0 40 rfl).2 (by omega) hj (by omega) x
theorem am_r34 (h : LyO (mxA σ) (mxR σ) 12 al12 a) : mg_R σ a 12 34 = some (a + 18) := (q_gR h.1).trans (h.2 17 34 0 4 rfl).1
theorem am_g34 (h : LyO (mxA σ) (mxR σ) 12 al12 a) (hj : j < 4) : ma_I σ (a + 18) 0 (q_n j) = some (mxI σ (a + 18) j) := q_aIn (h.2 17 34 0 4 rfl).2 (by omega) hj
theorem am_s34 (h : LyO (mxA σ) (mxR σ) 12 al12 a) (hb : mpb P ≤ a) (hj : j < 4) (x : Int32) : ms_I P σ (a + 18) 0 (q_n j) x = some (mx_setI σ (a + 18) j x) := q_sIn (h.2 17 34 0 4 rfl).2 (by omega) hj (by omega) x
theorem am_r35 (h : LyO (mxA σ) (mxR σ) 12 al12 a) : mg_R σ a 12 35 = some (a + 19) := (q_gR h.1).trans (h.2 18 35 0 40 rfl).1
theorem am_g35 (h : LyO (mxA σ) (mxR σ) 12 al12 a) (hj : j < 40) : ma_I σ (a + 19) 0 (q_n j) = some (mxI σ (a + 19) j) := q_aIn (h.2 18 35 0 40 rfl).2 (by omega) hj
theorem am_s35 (h : LyO (mxA σ) (mxR σ) 12 al12 a) (hb : mpb P ≤ a) (hj : j < 40) (x : Int32) : ms_I P σ (a + 19) 0 (q_n j) x = some (mx_setI σ (a + 19) j x) := q_sIn (h.2 18 35 0 40 rfl).2 (by omega) hj (by omega) x
theorem am_r36 (h : LyO (mxA σ) (mxR σ) 12 al12 a) : mg_R σ a 12 36 = some (a + 20) := (q_gR h.1).trans (h.2 19 36 0 40 rfl).1
theorem am_g36 (h : LyO (mxA σ) (mxR σ) 12 al12 a) (hj : j < 40) : ma_I σ (a + 20) 0 (q_n j) = some (mxI σ (a + 20) j) := q_aIn (h.2 19 36 0 40 rfl).2 (by omega) hj
theorem am_s36 (h : LyO (mxA σ) (mxR σ) 12 al12 a) (hb : mpb P ≤ a) (hj : j < 40) (x : Int32) : ms_I P σ (a + 20) 0 (q_n j) x = some (mx_setI σ (a + 20) j x) := q_sIn (h.2 19 36 0 40 rfl).2 (by omega) hj (by omega) x
theorem am_r37 (h : LyO (mxA σ) (mxR σ) 12 al12 a) : mg_R σ a 12 37 = some (a + 21) := (q_gR h.1).trans (h.2 20 37 0 40 rfl).1
theorem am_g37 (h : LyO (mxA σ) (mxR σ) 12 al12 a) (hj : j < 40) : ma_I σ (a + 21) 0 (q_n j) = some (mxI σ (a + 21) j) := q_aIn (h.2 20 37 0 40 rfl).2 (by omega) hj
theorem am_s37 (h : LyO (mxA σ) (mxR σ) 12 al12 a) (hb : mpb P ≤ a) (hj : j < 40) (x : Int32) : ms_I P σ (a + 21) 0 (q_n j) x = some (mx_setI σ (a + 21) j x) := q_sIn (h.2 20 37 0 40 rfl).2 (by omega) hj (by omega) x
theorem am_r39 (h : LyO (mxA σ) (mxR σ) 12 al12 a) : mg_R σ a 12 39 = some (a + 22) := (q_gR h.1).trans (h.2 21 39 0 460 rfl).1
theorem am_g39 (h : LyO (mxA σ) (mxR σ) 12 al12 a) (hj : j < 460) : ma_I σ (a + 22) 0 (q_n j) = some (mxI σ (a + 22) j) := q_aIn (h.2 21 39 0 460 rfl).2 (by omega) hj
theorem am_s39 (h : LyO (mxA σ) (mxR σ) 12 al12 a) (hb : mpb P ≤ a) (hj : j < 460) (x : Int32) : ms_I P σ (a + 22) 0 (q_n j) x = some (mx_setI σ (a + 22) j x) := q_sIn (h.2 21 39 0 460 rfl).2 (by omega) hj (by omega) x
theorem am_r40 (h : LyO (mxA σ) (mxR σ) 12 al12 a) : mg_R σ a 12 40 = some (a + 23) := (q_gR h.1).trans (h.2 22 40 0 460 rfl).1
theorem am_g40 (h : LyO (mxA σ) (mxR σ) 12 al12 a) (hj : j < 460) : ma_I σ (a + 23) 0 (q_n j) = some (mxI σ (a + 23) j) := q_aIn (h.2 22 40 0 460 rfl).2 (by omega) hj
theorem am_s40 (h : LyO (mxA σ) (mxR σ) 12 al12 a) (hb : mpb P ≤ a) (hj : j < 460) (x : Int32) : ms_I P σ (a + 23) 0 (q_n j) x = some (mx_setI σ (a + 23) j x) := q_sIn (h.2 22 40 0 460 rfl).2 (by omega) hj (by omega) x
theorem am_r41 (h : LyO (mxA σ) (mxR σ) 12 al12 a) : mg_R σ a 12 41 = some (a + 24) := (q_gR h.1).trans (h.2 23 41 0 40 rfl).1
theorem am_g41 (h : LyO (mxA σ) (mxR σ) 12 al12 a) (hj : j < 40) : ma_I σ (a + 24) 0 (q_n j) = some (mxI σ (a + 24) j) := q_aIn (h.2 23 41 0 40 rfl).2 (by omega) hj
theorem am_s41 (h : LyO (mxA σ) (mxR σ) 12 al12 a) (hb : mpb P ≤ a) (hj : j < 40) (x : Int32) : ms_I P σ (a + 24) 0 (q_n j) x = some (mx_setI σ (a + 24) j x) := q_sIn (h.2 23 41 0 40 rfl).2 (by omega) hj (by omega) x
theorem am_r42 (h : LyO (mxA σ) (mxR σ) 12 al12 a) : mg_R σ a 12 42 = some (a + 25) := (q_gR h.1).trans (h.2 24 42 0 160 rfl).1
theorem am_g42 (h : LyO (mxA σ) (mxR σ) 12 al12 a) (hj : j < 160) : ma_I σ (a + 25) 0 (q_n j) = some (mxI σ (a + 25) j) := q_aIn (h.2 24 42 0 160 rfl).2 (by omega) hj
theorem am_s42 (h : LyO (mxA σ) (mxR σ) 12 al12 a) (hb : mpb P ≤ a) (hj : j < 160) (x : Int32) : ms_I P σ (a + 25) 0 (q_n j) x = some (mx_setI σ (a + 25) j x) := q_sIn (h.2 24 42 0 160 rfl).2 (by omega) hj (by omega) x
theorem am_r43 (h : LyO (mxA σ) (mxR σ) 12 al12 a) : mg_R σ a 12 43 = some (a + 26) := (q_gR h.1).trans (h.2 25 43 0 160 rfl).1
theorem am_g43 (h : LyO (mxA σ) (mxR σ) 12 al12 a) (hj : j < 160) : ma_I σ (a + 26) 0 (q_n j) = some (mxI σ (a + 26) j) := q_aIn (h.2 25 43 0 160 rfl).2 (by omega) hj
theorem am_s43 (h : LyO (mxA σ) (mxR σ) 12 al12 a) (hb : mpb P ≤ a) (hj : j < 160) (x : Int32) : ms_I P σ (a + 26) 0 (q_n j) x = some (mx_setI σ (a + 26) j x) := q_sIn (h.2 25 43 0 160 rfl).2 (by omega) hj (by omega) x
theorem am_r44 (h : LyO (mxA σ) (mxR σ) 12 al12 a) : mg_R σ a 12 44 = some (a + 27) := (q_gR h.1).trans (h.2 26 44 1 160 rfl).1
theorem am_g44 (h : LyO (mxA σ) (mxR σ) 12 al12 a) (hj : j < 160) : ma_L σ (a + 27) 1 (q_n j) = some (mxL σ (a + 27) j) := q_aLn (h.2 26 44 1 160 rfl).2 (by omega) hj
theorem am_s44 (h : LyO (mxA σ) (mxR σ) 12 al12 a) (hb : mpb P ≤ a) (hj : j < 160) (x : Int64) : ms_L P σ (a + 27) 1 (q_n j) x = some (mx_setL σ (a + 27) j x) := q_sLn (h.2 26 44 1 160 rfl).2 (by omega) hj (by omega) x
theorem am_r45 (h : LyO (mxA σ) (mxR σ) 12 al12 a) : mg_R σ a 12 45 = some (a + 28) := (q_gR h.1).trans (h.2 27 45 0 120 rfl).1
theorem am_g45 (h : LyO (mxA σ) (mxR σ) 12 al12 a) (hj : j < 120) : ma_I σ (a + 28) 0 (q_n j) = some (mxI σ (a + 28) j) := q_aIn (h.2 27 45 0 120 rfl).2 (by omega) hj
theorem am_s45 (h : LyO (mxA σ) (mxR σ) 12 al12 a) (hb : mpb P ≤ a) (hj : j < 120) (x : Int32) : ms_I P σ (a + 28) 0 (q_n j) x = some (mx_setI σ (a + 28) j x) := q_sIn (h.2 27 45 0 120 rfl).2 (by omega) hj (by omega) x
theorem am_r46 (h : LyO (mxA σ) (mxR σ) 12 al12 a) : mg_R σ a 12 46 = some (a + 29) := (q_gR h.1).trans (h.2 28 46 0 40 rfl).1
theorem am_g46 (h : LyO (mxA σ) (mxR σ) 12 al12 a) (hj : j < 40) : ma_I σ (a + 29) 0 (q_n j) = some (mxI σ (a + 29) j) := q_aIn (h.2 28 46 0 40 rfl).2 (by omega) hj
theorem am_s46 (h : LyO (mxA σ) (mxR σ) 12 al12 a) (hb : mpb P ≤ a) (hj : j < 40) (x : Int32) : ms_I P σ (a + 29) 0 (q_n j) x = some (mx_setI σ (a + 29) j x) := q_sIn (h.2 28 46 0 40 rfl).2 (by omega) hj (by omega) x
theorem am_r47 (h : LyO (mxA σ) (mxR σ) 12 al12 a) : mg_R σ a 12 47 = some (a + 30) := (q_gR h.1).trans (h.2 29 47 0 160 rfl).1
theorem am_g47 (h : LyO (mxA σ) (mxR σ) 12 al12 a) (hj : j < 160) : ma_I σ (a + 30) 0 (q_n j) = some (mxI σ (a + 30) j) := q_aIn (h.2 29 47 0 160 rfl).2 (by omega) hj
theorem am_s47 (h : LyO (mxA σ) (mxR σ) 12 al12 a) (hb : mpb P ≤ a) (hj : j < 160) (x : Int32) : ms_I P σ (a + 30) 0 (q_n j) x = some (mx_setI σ (a + 30) j x) := q_sIn (h.2 29 47 0 160 rfl).2 (by omega) hj (by omega) x
theorem am_r48 (h : LyO (mxA σ) (mxR σ) 12 al12 a) : mg_R σ a 12 48 = some (a + 31) := (q_gR h.1).trans (h.2 30 48 0 40 rfl).1
theorem am_g48 (h : LyO (mxA σ) (mxR σ) 12 al12 a) (hj : j < 40) : ma_I σ (a + 31) 0 (q_n j) = some (mxI σ (a + 31) j) := q_aIn (h.2 30 48 0 40 rfl).2 (by omega) hj
theorem am_s48 (h : LyO (mxA σ) (mxR σ) 12 al12 a) (hb : mpb P ≤ a) (hj : j < 40) (x : Int32) : ms_I P σ (a + 31) 0 (q_n j) x = some (mx_setI σ (a + 31) j x) := q_sIn (h.2 30 48 0 40 rfl).2 (by omega) hj (by omega) x
theorem am_r49 (h : LyO (mxA σ) (mxR σ) 12 al12 a) : mg_R σ a 12 49 = some (a + 32) := (q_gR h.1).trans (h.2 31 49 3 40 rfl).1
theorem am_g49 (h : LyO (mxA σ) (mxR σ) 12 al12 a) (hj : j < 40) : ma_I σ (a + 32) 3 (q_n j) = some (mxI σ (a + 32) j) := q_aIn (h.2 31 49 3 40 rfl).2 (by omega) hj
theorem am_s49 (h : LyO (mxA σ) (mxR σ) 12 al12 a) (hb : mpb P ≤ a) (hj : j < 40) (x : Int32) : ms_I P σ (a + 32) 3 (q_n j) x = some (mx_setI σ (a + 32) j x) := q_sIn (h.2 31 49 3 40 rfl).2 (by omega) hj (by omega) x
theorem am_r51 (h : LyO (mxA σ) (mxR σ) 12 al12 a) : mg_R σ a 12 51 = some (a + 33) := (q_gR h.1).trans (h.2 32 51 0 1400 rfl).1
theorem am_g51 (h : LyO (mxA σ) (mxR σ) 12 al12 a) (hj : j < 1400) : ma_I σ (a + 33) 0 (q_n j) = some (mxI σ (a + 33) j) := q_aIn (h.2 32 51 0 1400 rfl).2 (by omega) hj
theorem am_s51 (h : LyO (mxA σ) (mxR σ) 12 al12 a) (hb : mpb P ≤ a) (hj : j < 1400) (x : Int32) : ms_I P σ (a + 33) 0 (q_n j) x = some (mx_setI σ (a + 33) j x) := q_sIn (h.2 32 51 0 1400 rfl).2 (by omega) hj (by omega) x
theorem am_r52 (h : LyO (mxA σ) (mxR σ) 12 al12 a) : mg_R σ a 12 52 = some (a + 34) := (q_gR h.1).trans (h.2 33 52 0 1400 rfl).1
theorem am_g52 (h : LyO (mxA σ) (mxR σ) 12 al12 a) (hj : j < 1400) : ma_I σ (a + 34) 0 (q_n j) = some (mxI σ (a + 34) j) := q_aIn (h.2 33 52 0 1400 rfl).2 (by omega) hj
theorem am_s52 (h : LyO (mxA σ) (mxR σ) 12 al12 a) (hb : mpb P ≤ a) (hj : j < 1400) (x : Int32) : ms_I P σ (a + 34) 0 (q_n j) x = some (mx_setI σ (a + 34) j x) := q_sIn (h.2 33 52 0 1400 rfl).2 (by omega) hj (by omega) x
theorem am_r56 (h : LyO (mxA σ) (mxR σ) 12 al12 a) : mg_R σ a 12 56 = some (a + 35) := (q_gR h.1).trans (h.2 34 56 3 1024 rfl).1
theorem am_g56 (h : LyO (mxA σ) (mxR σ) 12 al12 a) (hj : j < 1024) : ma_I σ (a + 35) 3 (q_n j) = some (mxI σ (a + 35) j) := q_aIn (h.2 34 56 3 1024 rfl).2 (by omega) hj
theorem am_s56 (h : LyO (mxA σ) (mxR σ) 12 al12 a) (hb : mpb P ≤ a) (hj : j < 1024) (x : Int32) : ms_I P σ (a + 35) 3 (q_n j) x = some (mx_setI σ (a + 35) j x) := q_sIn (h.2 34 56 3 1024 rfl).2 (by omega) hj (by omega) x
theorem am_r58 (h : LyO (mxA σ) (mxR σ) 12 al12 a) : mg_R σ a 12 58 = some (a + 36) := (q_gR h.1).trans (h.2 35 58 0 24 rfl).1
theorem am_g58 (h : LyO (mxA σ) (mxR σ) 12 al12 a) (hj : j < 24) : ma_I σ (a + 36) 0 (q_n j) = some (mxI σ (a + 36) j) := q_aIn (h.2 35 58 0 24 rfl).2 (by omega) hj
theorem am_s58 (h : LyO (mxA σ) (mxR σ) 12 al12 a) (hb : mpb P ≤ a) (hj : j < 24) (x : Int32) : ms_I P σ (a + 36) 0 (q_n j) x = some (mx_setI σ (a + 36) j x) := q_sIn (h.2 35 58 0 24 rfl).2 (by omega) hj (by omega) x
theorem am_r59 (h : LyO (mxA σ) (mxR σ) 12 al12 a) : mg_R σ a 12 59 = some (a + 37) := (q_gR h.1).trans (h.2 36 59 0 24 rfl).1
theorem am_g59 (h : LyO (mxA σ) (mxR σ) 12 al12 a) (hj : j < 24) : ma_I σ (a + 37) 0 (q_n j) = some (mxI σ (a + 37) j) := q_aIn (h.2 36 59 0 24 rfl).2 (by omega) hj
theorem am_s59 (h : LyO (mxA σ) (mxR σ) 12 al12 a) (hb : mpb P ≤ a) (hj : j < 24) (x : Int32) : ms_I P σ (a + 37) 0 (q_n j) x = some (mx_setI σ (a + 37) j x) := q_sIn (h.2 36 59 0 24 rfl).2 (by omega) hj (by omega) x
theorem am_r61 (h : LyO (mxA σ) (mxR σ) 12 al12 a) : mg_R σ a 12 61 = some (a + 38) := (q_gR h.1).trans (h.2 37 61 0 20 rfl).1
theorem am_g61 (h : LyO (mxA σ) (mxR σ) 12 al12 a) (hj : j < 20) : ma_I σ (a + 38) 0 (q_n j) = some (mxI σ (a + 38) j) := q_aIn (h.2 37 61 0 20 rfl).2 (by omega) hj
theorem am_s61 (h : LyO (mxA σ) (mxR σ) 12 al12 a) (hb : mpb P ≤ a) (hj : j < 20) (x : Int32) : ms_I P σ (a + 38) 0 (q_n j) x = some (mx_setI σ (a + 38) j x) := q_sIn (h.2 37 61 0 20 rfl).2 (by omega) hj (by omega) x
theorem am_r62 (h : LyO (mxA σ) (mxR σ) 12 al12 a) : mg_R σ a 12 62 = some (a + 39) := (q_gR h.1).trans (h.2 38 62 0 20 rfl).1
theorem am_g62 (h : LyO (mxA σ) (mxR σ) 12 al12 a) (hj : j < 20) : ma_I σ (a + 39) 0 (q_n j) = some (mxI σ (a + 39) j) := q_aIn (h.2 38 62 0 20 rfl).2 (by omega) hj
theorem am_s62 (h : LyO (mxA σ) (mxR σ) 12 al12 a) (hb : mpb P ≤ a) (hj : j < 20) (x : Int32) : ms_I P σ (a + 39) 0 (q_n j) x = some (mx_setI σ (a + 39) j x) := q_sIn (h.2 38 62 0 20 rfl).2 (by omega) hj (by omega) x
theorem am_r63 (h : LyO (mxA σ) (mxR σ) 12 al12 a) : mg_R σ a 12 63 = some (a + 40) := (q_gR h.1).trans (h.2 39 63 0 20 rfl).1
theorem am_g63 (h : LyO (mxA σ) (mxR σ) 12 al12 a) (hj : j < 20) : ma_I σ (a + 40) 0 (q_n j) = some (mxI σ (a + 40) j) := q_aIn (h.2 39 63 0 20 rfl).2 (by omega) hj
theorem am_s63 (h : LyO (mxA σ) (mxR σ) 12 al12 a) (hb : mpb P ≤ a) (hj : j < 20) (x : Int32) : ms_I P σ (a + 40) 0 (q_n j) x = some (mx_setI σ (a + 40) j x) := q_sIn (h.2 39 63 0 20 rfl).2 (by omega) hj (by omega) x
theorem am_r64 (h : LyO (mxA σ) (mxR σ) 12 al12 a) : mg_R σ a 12 64 = some (a + 41) := (q_gR h.1).trans (h.2 40 64 3 20 rfl).1
theorem am_g64 (h : LyO (mxA σ) (mxR σ) 12 al12 a) (hj : j < 20) : ma_I σ (a + 41) 3 (q_n j) = some (mxI σ (a + 41) j) := q_aIn (h.2 40 64 3 20 rfl).2 (by omega) hj
theorem am_s64 (h : LyO (mxA σ) (mxR σ) 12 al12 a) (hb : mpb P ≤ a) (hj : j < 20) (x : Int32) : ms_I P σ (a + 41) 3 (q_n j) x = some (mx_setI σ (a + 41) j x) := q_sIn (h.2 40 64 3 20 rfl).2 (by omega) hj (by omega) x
theorem am_r65 (h : LyO (mxA σ) (mxR σ) 12 al12 a) : mg_R σ a 12 65 = some (a + 42) := (q_gR h.1).trans (h.2 41 65 0 12 rfl).1
theorem am_g65 (h : LyO (mxA σ) (mxR σ) 12 al12 a) (hj : j < 12) : ma_I σ (a + 42) 0 (q_n j) = some (mxI σ (a + 42) j) := q_aIn (h.2 41 65 0 12 rfl).2 (by omega) hj
theorem am_s65 (h : LyO (mxA σ) (mxR σ) 12 al12 a) (hb : mpb P ≤ a) (hj : j < 12) (x : Int32) : ms_I P σ (a + 42) 0 (q_n j) x = some (mx_setI σ (a + 42) j x) := q_sIn (h.2 41 65 0 12 rfl).2 (by omega) hj (by omega) x
theorem am_r66 (h : LyO (mxA σ) (mxR σ) 12 al12 a) : mg_R σ a 12 66 = some (a + 43) := (q_gR h.1).trans (h.2 42 66 0 12 rfl).1
theorem am_g66 (h : LyO (mxA σ) (mxR σ) 12 al12 a) (hj : j < 12) : ma_I σ (a + 43) 0 (q_n j) = some (mxI σ (a + 43) j) := q_aIn (h.2 42 66 0 12 rfl).2 (by omega) hj
theorem am_s66 (h : LyO (mxA σ) (mxR σ) 12 al12 a) (hb : mpb P ≤ a) (hj : j < 12) (x : Int32) : ms_I P σ (a + 43) 0 (q_n j) x = some (mx_setI σ (a + 43) j x) := q_sIn (h.2 42 66 0 12 rfl).2 (by omega) hj (by omega) x
theorem am_r67 (h : LyO (mxA σ) (mxR σ) 12 al12 a) : mg_R σ a 12 67 = some (a + 44) := (q_gR h.1).trans (h.2 43 67 0 12 rfl).1
theorem am_g67 (h : LyO (mxA σ) (mxR σ) 12 al12 a) (hj : j < 12) : ma_I σ (a + 44) 0 (q_n j) = some (mxI σ (a + 44) j) := q_aIn (h.2 43 67 0 12 rfl).2 (by omega) hj
theorem am_s67 (h : LyO (mxA σ) (mxR σ) 12 al12 a) (hb : mpb P ≤ a) (hj : j < 12) (x : Int32) : ms_I P σ (a + 44) 0 (q_n j) x = some (mx_setI σ (a + 44) j x) := q_sIn (h.2 43 67 0 12 rfl).2 (by omega) hj (by omega) x
theorem am_r69 (h : LyO (mxA σ) (mxR σ) 12 al12 a) : mg_R σ a 12 69 = some (a + 45) := (q_gR h.1).trans (h.2 44 69 1 416 rfl).1
theorem am_g69 (h : LyO (mxA σ) (mxR σ) 12 al12 a) (hj : j < 416) : ma_L σ (a + 45) 1 (q_n j) = some (mxL σ (a + 45) j) := q_aLn (h.2 44 69 1 416 rfl).2 (by omega) hj
theorem am_s69 (h : LyO (mxA σ) (mxR σ) 12 al12 a) (hb : mpb P ≤ a) (hj : j < 416) (x : Int64) : ms_L P σ (a + 45) 1 (q_n j) x = some (mx_setL σ (a + 45) j x) := q_sLn (h.2 44 69 1 416 rfl).2 (by omega) hj (by omega) x
theorem am_r70 (h : LyO (mxA σ) (mxR σ) 12 al12 a) : mg_R σ a 12 70 = some (a + 46) := (q_gR h.1).trans (h.2 45 70 1 416 rfl).1
theorem am_g70 (h : LyO (mxA σ) (mxR σ) 12 al12 a) (hj : j < 416) : ma_L σ (a + 46) 1 (q_n j) = some (mxL σ (a + 46) j) := q_aLn (h.2 45 70 1 416 rfl).2 (by omega) hj
theorem am_s70 (h : LyO (mxA σ) (mxR σ) 12 al12 a) (hb : mpb P ≤ a) (hj : j < 416) (x : Int64) : ms_L P σ (a + 46) 1 (q_n j) x = some (mx_setL σ (a + 46) j x) := q_sLn (h.2 45 70 1 416 rfl).2 (by omega) hj (by omega) x
theorem am_r71 (h : LyO (mxA σ) (mxR σ) 12 al12 a) : mg_R σ a 12 71 = some (a + 47) := (q_gR h.1).trans (h.2 46 71 0 12 rfl).1
theorem am_g71 (h : LyO (mxA σ) (mxR σ) 12 al12 a) (hj : j < 12) : ma_I σ (a + 47) 0 (q_n j) = some (mxI σ (a + 47) j) := q_aIn (h.2 46 71 0 12 rfl).2 (by omega) hj
theorem am_s71 (h : LyO (mxA σ) (mxR σ) 12 al12 a) (hb : mpb P ≤ a) (hj : j < 12) (x : Int32) : ms_I P σ (a + 47) 0 (q_n j) x = some (mx_setI σ (a + 47) j x) := q_sIn (h.2 46 71 0 12 rfl).2 (by omega) hj (by omega) x
theorem am_r73 (h : LyO (mxA σ) (mxR σ) 12 al12 a) : mg_R σ a 12 73 = some (a + 48) := (q_gR h.1).trans (h.2 47 73 0 1200 rfl).1
theorem am_g73 (h : LyO (mxA σ) (mxR σ) 12 al12 a) (hj : j < 1200) : ma_I σ (a + 48) 0 (q_n j) = some (mxI σ (a + 48) j) := q_aIn (h.2 47 73 0 1200 rfl).2 (by omega) hj
theorem am_s73 (h : LyO (mxA σ) (mxR σ) 12 al12 a) (hb : mpb P ≤ a) (hj : j < 1200) (x : Int32) : ms_I P σ (a + 48) 0 (q_n j) x = some (mx_setI σ (a + 48) j x) := q_sIn (h.2 47 73 0 1200 rfl).2 (by omega) hj (by omega) x
theorem am_r75 (h : LyO (mxA σ) (mxR σ) 12 al12 a) : mg_R σ a 12 75 = some (a + 49) := (q_gR h.1).trans (h.2 48 75 0 30 rfl).1
theorem am_g75 (h : LyO (mxA σ) (mxR σ) 12 al12 a) (hj : j < 30) : ma_I σ (a + 49) 0 (q_n j) = some (mxI σ (a + 49) j) := q_aIn (h.2 48 75 0 30 rfl).2 (by omega) hj
theorem am_s75 (h : LyO (mxA σ) (mxR σ) 12 al12 a) (hb : mpb P ≤ a) (hj : j < 30) (x : Int32) : ms_I P σ (a + 49) 0 (q_n j) x = some (mx_setI σ (a + 49) j x) := q_sIn (h.2 48 75 0 30 rfl).2 (by omega) hj (by omega) x
theorem am_r76 (h : LyO (mxA σ) (mxR σ) 12 al12 a) : mg_R σ a 12 76 = some (a + 50) := (q_gR h.1).trans (h.2 49 76 0 30 rfl).1
theorem am_g76 (h : LyO (mxA σ) (mxR σ) 12 al12 a) (hj : j < 30) : ma_I σ (a + 50) 0 (q_n j) = some (mxI σ (a + 50) j) := q_aIn (h.2 49 76 0 30 rfl).2 (by omega) hj
theorem am_s76 (h : LyO (mxA σ) (mxR σ) 12 al12 a) (hb : mpb P ≤ a) (hj : j < 30) (x : Int32) : ms_I P σ (a + 50) 0 (q_n j) x = some (mx_setI σ (a + 50) j x) := q_sIn (h.2 49 76 0 30 rfl).2 (by omega) hj (by omega) x
theorem am_r77 (h : LyO (mxA σ) (mxR σ) 12 al12 a) : mg_R σ a 12 77 = some (a + 51) := (q_gR h.1).trans (h.2 50 77 1 30 rfl).1
theorem am_g77 (h : LyO (mxA σ) (mxR σ) 12 al12 a) (hj : j < 30) : ma_L σ (a + 51) 1 (q_n j) = some (mxL σ (a + 51) j) := q_aLn (h.2 50 77 1 30 rfl).2 (by omega) hj
theorem am_s77 (h : LyO (mxA σ) (mxR σ) 12 al12 a) (hb : mpb P ≤ a) (hj : j < 30) (x : Int64) : ms_L P σ (a + 51) 1 (q_n j) x = some (mx_setL σ (a + 51) j x) := q_sLn (h.2 50 77 1 30 rfl).2 (by omega) hj (by omega) x
theorem am_r78 (h : LyO (mxA σ) (mxR σ) 12 al12 a) : mg_R σ a 12 78 = some (a + 52) := (q_gR h.1).trans (h.2 51 78 1 30 rfl).1
theorem am_g78 (h : LyO (mxA σ) (mxR σ) 12 al12 a) (hj : j < 30) : ma_L σ (a + 52) 1 (q_n j) = some (mxL σ (a + 52) j) := q_aLn (h.2 51 78 1 30 rfl).2 (by omega) hj
theorem am_s78 (h : LyO (mxA σ) (mxR σ) 12 al12 a) (hb : mpb P ≤ a) (hj : j < 30) (x : Int64) : ms_L P σ (a + 52) 1 (q_n j) x = some (mx_setL σ (a + 52) j x) := q_sLn (h.2 51 78 1 30 rfl).2 (by omega) hj (by omega) x
theorem am_r79 (h : LyO (mxA σ) (mxR σ) 12 al12 a) : mg_R σ a 12 79 = some (a + 53) := (q_gR h.1).trans (h.2 52 79 0 30 rfl).1
theorem am_g79 (h : LyO (mxA σ) (mxR σ) 12 al12 a) (hj : j < 30) : ma_I σ (a + 53) 0 (q_n j) = some (mxI σ (a + 53) j) := q_aIn (h.2 52 79 0 30 rfl).2 (by omega) hj
theorem am_s79 (h : LyO (mxA σ) (mxR σ) 12 al12 a) (hb : mpb P ≤ a) (hj : j < 30) (x : Int32) : ms_I P σ (a + 53) 0 (q_n j) x = some (mx_setI σ (a + 53) j x) := q_sIn (h.2 52 79 0 30 rfl).2 (by omega) hj (by omega) x
theorem am_r81 (h : LyO (mxA σ) (mxR σ) 12 al12 a) : mg_R σ a 12 81 = some (a + 54) := (q_gR h.1).trans (h.2 53 81 0 30 rfl).1
theorem am_g81 (h : LyO (mxA σ) (mxR σ) 12 al12 a) (hj : j < 30) : ma_I σ (a + 54) 0 (q_n j) = some (mxI σ (a + 54) j) := q_aIn (h.2 53 81 0 30 rfl).2 (by omega) hj
theorem am_s81 (h : LyO (mxA σ) (mxR σ) 12 al12 a) (hb : mpb P ≤ a) (hj : j < 30) (x : Int32) : ms_I P σ (a + 54) 0 (q_n j) x = some (mx_setI σ (a + 54) j x) := q_sIn (h.2 53 81 0 30 rfl).2 (by omega) hj (by omega) x
theorem am_r82 (h : LyO (mxA σ) (mxR σ) 12 al12 a) : mg_R σ a 12 82 = some (a + 55) := (q_gR h.1).trans (h.2 54 82 0 30 rfl).1
theorem am_g82 (h : LyO (mxA σ) (mxR σ) 12 al12 a) (hj : j < 30) : ma_I σ (a + 55) 0 (q_n j) = some (mxI σ (a + 55) j) := q_aIn (h.2 54 82 0 30 rfl).2 (by omega) hj
theorem am_s82 (h : LyO (mxA σ) (mxR σ) 12 al12 a) (hb : mpb P ≤ a) (hj : j < 30) (x : Int32) : ms_I P σ (a + 55) 0 (q_n j) x = some (mx_setI σ (a + 55) j x) := q_sIn (h.2 54 82 0 30 rfl).2 (by omega) hj (by omega) x
theorem am_r83 (h : LyO (mxA σ) (mxR σ) 12 al12 a) : mg_R σ a 12 83 = some (a + 56) := (q_gR h.1).trans (h.2 55 83 1 30 rfl).1
theorem am_g83 (h : LyO (mxA σ) (mxR σ) 12 al12 a) (hj : j < 30) : ma_L σ (a + 56) 1 (q_n j) = some (mxL σ (a + 56) j) := q_aLn (h.2 55 83 1 30 rfl).2 (by omega) hj
theorem am_s83 (h : LyO (mxA σ) (mxR σ) 12 al12 a) (hb : mpb P ≤ a) (hj : j < 30) (x : Int64) : ms_L P σ (a + 56) 1 (q_n j) x = some (mx_setL σ (a + 56) j x) := q_sLn (h.2 55 83 1 30 rfl).2 (by omega) hj (by omega) x
theorem am_r84 (h : LyO (mxA σ) (mxR σ) 12 al12 a) : mg_R σ a 12 84 = some (a + 57) := (q_gR h.1).trans (h.2 56 84 1 30 rfl).1
theorem am_g84 (h : LyO (mxA σ) (mxR σ) 12 al12 a) (hj : j < 30) : ma_L σ (a + 57) 1 (q_n j) = some (mxL σ (a + 57) j) := q_aLn (h.2 56 84 1 30 rfl).2 (by omega) hj
theorem am_s84 (h : LyO (mxA σ) (mxR σ) 12 al12 a) (hb : mpb P ≤ a) (hj : j < 30) (x : Int64) : ms_L P σ (a + 57) 1 (q_n j) x = some (mx_setL σ (a + 57) j x) := q_sLn (h.2 56 84 1 30 rfl).2 (by omega) hj (by omega) x
theorem am_r85 (h : LyO (mxA σ) (mxR σ) 12 al12 a) : mg_R σ a 12 85 = some (a + 58) := (q_gR h.1).trans (h.2 57 85 0 30 rfl).1
theorem am_g85 (h : LyO (mxA σ) (mxR σ) 12 al12 a) (hj : j < 30) : ma_I σ (a + 58) 0 (q_n j) = some (mxI σ (a + 58) j) := q_aIn (h.2 57 85 0 30 rfl).2 (by omega) hj
theorem am_s85 (h : LyO (mxA σ) (mxR σ) 12 al12 a) (hb : mpb P ≤ a) (hj : j < 30) (x : Int32) : ms_I P σ (a + 58) 0 (q_n j) x = some (mx_setI σ (a + 58) j x) := q_sIn (h.2 57 85 0 30 rfl).2 (by omega) hj (by omega) x
theorem am_r86 (h : LyO (mxA σ) (mxR σ) 12 al12 a) : mg_R σ a 12 86 = some (a + 59) := (q_gR h.1).trans (h.2 58 86 0 8 rfl).1
theorem am_g86 (h : LyO (mxA σ) (mxR σ) 12 al12 a) (hj : j < 8) : ma_I σ (a + 59) 0 (q_n j) = some (mxI σ (a + 59) j) := q_aIn (h.2 58 86 0 8 rfl).2 (by omega) hj
theorem am_s86 (h : LyO (mxA σ) (mxR σ) 12 al12 a) (hb : mpb P ≤ a) (hj : j < 8) (x : Int32) : ms_I P σ (a + 59) 0 (q_n j) x = some (mx_setI σ (a + 59) j x) := q_sIn (h.2 58 86 0 8 rfl).2 (by omega) hj (by omega) x
theorem am_r87 (h : LyO (mxA σ) (mxR σ) 12 al12 a) : mg_R σ a 12 87 = some (a + 60) := (q_gR h.1).trans (h.2 59 87 1 192 rfl).1
theorem am_g87 (h : LyO (mxA σ) (mxR σ) 12 al12 a) (hj : j < 192) : ma_L σ (a + 60) 1 (q_n j) = some (mxL σ (a + 60) j) := q_aLn (h.2 59 87 1 192 rfl).2 (by omega) hj
theorem am_s87 (h : LyO (mxA σ) (mxR σ) 12 al12 a) (hb : mpb P ≤ a) (hj : j < 192) (x : Int64) : ms_L P σ (a + 60) 1 (q_n j) x = some (mx_setL σ (a + 60) j x) := q_sLn (h.2 59 87 1 192 rfl).2 (by omega) hj (by omega) x
theorem am_r88 (h : LyO (mxA σ) (mxR σ) 12 al12 a) : mg_R σ a 12 88 = some (a + 61) := (q_gR h.1).trans (h.2 60 88 1 192 rfl).1
theorem am_g88 (h : LyO (mxA σ) (mxR σ) 12 al12 a) (hj : j < 192) : ma_L σ (a + 61) 1 (q_n j) = some (mxL σ (a + 61) j) := q_aLn (h.2 60 88 1 192 rfl).2 (by omega) hj
theorem am_s88 (h : LyO (mxA σ) (mxR σ) 12 al12 a) (hb : mpb P ≤ a) (hj : j < 192) (x : Int64) : ms_L P σ (a + 61) 1 (q_n j) x = some (mx_setL σ (a + 61) j x) := q_sLn (h.2 60 88 1 192 rfl).2 (by omega) hj (by omega) x
theorem am_r92 (h : LyO (mxA σ) (mxR σ) 12 al12 a) : mg_R σ a 12 92 = some (a + 62) := (q_gR h.1).trans (h.2 61 92 0 200 rfl).1
theorem am_g92 (h : LyO (mxA σ) (mxR σ) 12 al12 a) (hj : j < 200) : ma_I σ (a + 62) 0 (q_n j) = some (mxI σ (a + 62) j) := q_aIn (h.2 61 92 0 200 rfl).2 (by omega) hj
theorem am_s92 (h : LyO (mxA σ) (mxR σ) 12 al12 a) (hb : mpb P ≤ a) (hj : j < 200) (x : Int32) : ms_I P σ (a + 62) 0 (q_n j) x = some (mx_setI σ (a + 62) j x) := q_sIn (h.2 61 92 0 200 rfl).2 (by omega) hj (by omega) x
theorem am_r93 (h : LyO (mxA σ) (mxR σ) 12 al12 a) : mg_R σ a 12 93 = some (a + 63) := (q_gR h.1).trans (h.2 62 93 3 36 rfl).1
theorem am_g93 (h : LyO (mxA σ) (mxR σ) 12 al12 a) (hj : j < 36) : ma_I σ (a + 63) 3 (q_n j) = some (mxI σ (a + 63) j) := q_aIn (h.2 62 93 3 36 rfl).2 (by omega) hj
theorem am_s93 (h : LyO (mxA σ) (mxR σ) 12 al12 a) (hb : mpb P ≤ a) (hj : j < 36) (x : Int32) : ms_I P σ (a + 63) 3 (q_n j) x = some (mx_setI σ (a + 63) j x) := q_sIn (h.2 62 93 3 36 rfl).2 (by omega) hj (by omega) x
theorem am_r94 (h : LyO (mxA σ) (mxR σ) 12 al12 a) : mg_R σ a 12 94 = some (a + 64) := (q_gR h.1).trans (h.2 63 94 0 6 rfl).1
theorem am_g94 (h : LyO (mxA σ) (mxR σ) 12 al12 a) (hj : j < 6) : ma_I σ (a + 64) 0 (q_n j) = some (mxI σ (a + 64) j) := q_aIn (h.2 63 94 0 6 rfl).2 (by omega) hj
theorem am_s94 (h : LyO (mxA σ) (mxR σ) 12 al12 a) (hb : mpb P ≤ a) (hj : j < 6) (x : Int32) : ms_I P σ (a + 64) 0 (q_n j) x = some (mx_setI σ (a + 64) j x) := q_sIn (h.2 63 94 0 6 rfl).2 (by omega) hj (by omega) x
theorem am_r96 (h : LyO (mxA σ) (mxR σ) 12 al12 a) : mg_R σ a 12 96 = some (a + 65) := (q_gR h.1).trans (h.2 64 96 0 40 rfl).1
theorem am_g96 (h : LyO (mxA σ) (mxR σ) 12 al12 a) (hj : j < 40) : ma_I σ (a + 65) 0 (q_n j) = some (mxI σ (a + 65) j) := q_aIn (h.2 64 96 0 40 rfl).2 (by omega) hj
theorem am_s96 (h : LyO (mxA σ) (mxR σ) 12 al12 a) (hb : mpb P ≤ a) (hj : j < 40) (x : Int32) : ms_I P σ (a + 65) 0 (q_n j) x = some (mx_setI σ (a + 65) j x) := q_sIn (h.2 64 96 0 40 rfl).2 (by omega) hj (by omega) x
theorem am_r97 (h : LyO (mxA σ) (mxR σ) 12 al12 a) : mg_R σ a 12 97 = some (a + 66) := (q_gR h.1).trans (h.2 65 97 0 40 rfl).1
theorem am_g97 (h : LyO (mxA σ) (mxR σ) 12 al12 a) (hj : j < 40) : ma_I σ (a + 66) 0 (q_n j) = some (mxI σ (a + 66) j) := q_aIn (h.2 65 97 0 40 rfl).2 (by omega) hj
theorem am_s97 (h : LyO (mxA σ) (mxR σ) 12 al12 a) (hb : mpb P ≤ a) (hj : j < 40) (x : Int32) : ms_I P σ (a + 66) 0 (q_n j) x = some (mx_setI σ (a + 66) j x) := q_sIn (h.2 65 97 0 40 rfl).2 (by omega) hj (by omega) x
theorem am_r98 (h : LyO (mxA σ) (mxR σ) 12 al12 a) : mg_R σ a 12 98 = some (a + 67) := (q_gR h.1).trans (h.2 66 98 0 40 rfl).1
theorem am_g98 (h : LyO (mxA σ) (mxR σ) 12 al12 a) (hj : j < 40) : ma_I σ (a + 67) 0 (q_n j) = some (mxI σ (a + 67) j) := q_aIn (h.2 66 98 0 40 rfl).2 (by omega) hj
theorem am_s98 (h : LyO (mxA σ) (mxR σ) 12 al12 a) (hb : mpb P ≤ a) (hj : j < 40) (x : Int32) : ms_I P σ (a + 67) 0 (q_n j) x = some (mx_setI σ (a + 67) j x) := q_sIn (h.2 66 98 0 40 rfl).2 (by omega) hj (by omega) x
theorem am_r99 (h : LyO (mxA σ) (mxR σ) 12 al12 a) : mg_R σ a 12 99 = some (a + 68) := (q_gR h.1).trans (h.2 67 99 0 40 rfl).1
theorem am_g99 (h : LyO (mxA σ) (mxR σ) 12 al12 a) (hj : j < 40) : ma_I σ (a + 68) 0 (q_n j) = some (mxI σ (a + 68) j) := q_aIn (h.2 67 99 0 40 rfl).2 (by omega) hj
theorem am_s99 (h : LyO (mxA σ) (mxR σ) 12 al12 a) (hb : mpb P ≤ a) (hj : j < 40) (x : Int32) : ms_I P σ (a + 68) 0 (q_n j) x = some (mx_setI σ (a + 68) j x) := q_sIn (h.2 67 99 0 40 rfl).2 (by omega) hj (by omega) x
theorem am_r100 (h : LyO (mxA σ) (mxR σ) 12 al12 a) : mg_R σ a 12 100 = some (a + 69) := (q_gR h.1).trans (h.2 68 100 3 40 rfl).1
theorem am_g100 (h : LyO (mxA σ) (mxR σ) 12 al12 a) (hj : j < 40) : ma_I σ (a + 69) 3 (q_n j) = some (mxI σ (a + 69) j) := q_aIn (h.2 68 100 3 40 rfl).2 (by omega) hj
theorem am_s100 (h : LyO (mxA σ) (mxR σ) 12 al12 a) (hb : mpb P ≤ a) (hj : j < 40) (x : Int32) : ms_I P σ (a + 69) 3 (q_n j) x = some (mx_setI σ (a + 69) j x) := q_sIn (h.2 68 100 3 40 rfl).2 (by omega) hj (by omega) x
theorem am_r101 (h : LyO (mxA σ) (mxR σ) 12 al12 a) : mg_R σ a 12 101 = some (a + 70) := (q_gR h.1).trans (h.2 69 101 1 40 rfl).1
theorem am_g101 (h : LyO (mxA σ) (mxR σ) 12 al12 a) (hj : j < 40) : ma_L σ (a + 70) 1 (q_n j) = some (mxL σ (a + 70) j) := q_aLn (h.2 69 101 1 40 rfl).2 (by omega) hj
theorem am_s101 (h : LyO (mxA σ) (mxR σ) 12 al12 a) (hb : mpb P ≤ a) (hj : j < 40) (x : Int64) : ms_L P σ (a + 70) 1 (q_n j) x = some (mx_setL σ (a + 70) j x) := q_sLn (h.2 69 101 1 40 rfl).2 (by omega) hj (by omega) x
theorem am_r104 (h : LyO (mxA σ) (mxR σ) 12 al12 a) : mg_R σ a 12 104 = some (a + 71) := (q_gR h.1).trans (h.2 70 104 0 300 rfl).1
theorem am_g104 (h : LyO (mxA σ) (mxR σ) 12 al12 a) (hj : j < 300) : ma_I σ (a + 71) 0 (q_n j) = some (mxI σ (a + 71) j) := q_aIn (h.2 70 104 0 300 rfl).2 (by omega) hj
theorem am_s104 (h : LyO (mxA σ) (mxR σ) 12 al12 a) (hb : mpb P ≤ a) (hj : j < 300) (x : Int32) : ms_I P σ (a + 71) 0 (q_n j) x = some (mx_setI σ (a + 71) j x) := q_sIn (h.2 70 104 0 300 rfl).2 (by omega) hj (by omega) x
theorem am_r106 (h : LyO (mxA σ) (mxR σ) 12 al12 a) : mg_R σ a 12 106 = some (a + 72) := (q_gR h.1).trans (h.2 71 106 0 40 rfl).1
theorem am_g106 (h : LyO (mxA σ) (mxR σ) 12 al12 a) (hj : j < 40) : ma_I σ (a + 72) 0 (q_n j) = some (mxI σ (a + 72) j) := q_aIn (h.2 71 106 0 40 rfl).2 (by omega) hj
theorem am_s106 (h : LyO (mxA σ) (mxR σ) 12 al12 a) (hb : mpb P ≤ a) (hj : j < 40) (x : Int32) : ms_I P σ (a + 72) 0 (q_n j) x = some (mx_setI σ (a + 72) j x) := q_sIn (h.2 71 106 0 40 rfl).2 (by omega) hj (by omega) x
theorem am_r107 (h : LyO (mxA σ) (mxR σ) 12 al12 a) : mg_R σ a 12 107 = some (a + 73) := (q_gR h.1).trans (h.2 72 107 0 40 rfl).1
theorem am_g107 (h : LyO (mxA σ) (mxR σ) 12 al12 a) (hj : j < 40) : ma_I σ (a + 73) 0 (q_n j) = some (mxI σ (a + 73) j) := q_aIn (h.2 72 107 0 40 rfl).2 (by omega) hj
theorem am_s107 (h : LyO (mxA σ) (mxR σ) 12 al12 a) (hb : mpb P ≤ a) (hj : j < 40) (x : Int32) : ms_I P σ (a + 73) 0 (q_n j) x = some (mx_setI σ (a + 73) j x) := q_sIn (h.2 72 107 0 40 rfl).2 (by omega) hj (by omega) x
theorem am_r108 (h : LyO (mxA σ) (mxR σ) 12 al12 a) : mg_R σ a 12 108 = some (a + 74) := (q_gR h.1).trans (h.2 73 108 0 40 rfl).1
theorem am_g108 (h : LyO (mxA σ) (mxR σ) 12 al12 a) (hj : j < 40) : ma_I σ (a + 74) 0 (q_n j) = some (mxI σ (a + 74) j) := q_aIn (h.2 73 108 0 40 rfl).2 (by omega) hj
theorem am_s108 (h : LyO (mxA σ) (mxR σ) 12 al12 a) (hb : mpb P ≤ a) (hj : j < 40) (x : Int32) : ms_I P σ (a + 74) 0 (q_n j) x = some (mx_setI σ (a + 74) j x) := q_sIn (h.2 73 108 0 40 rfl).2 (by omega) hj (by omega) x
theorem am_r109 (h : LyO (mxA σ) (mxR σ) 12 al12 a) : mg_R σ a 12 109 = some (a + 75) := (q_gR h.1).trans (h.2 74 109 0 40 rfl).1
theorem am_g109 (h : LyO (mxA σ) (mxR σ) 12 al12 a) (hj : j < 40) : ma_I σ (a + 75) 0 (q_n j) = some (mxI σ (a + 75) j) := q_aIn (h.2 74 109 0 40 rfl).2 (by omega) hj
theorem am_s109 (h : LyO (mxA σ) (mxR σ) 12 al12 a) (hb : mpb P ≤ a) (hj : j < 40) (x : Int32) : ms_I P σ (a + 75) 0 (q_n j) x = some (mx_setI σ (a + 75) j x) := q_sIn (h.2 74 109 0 40 rfl).2 (by omega) hj (by omega) x
theorem am_r110 (h : LyO (mxA σ) (mxR σ) 12 al12 a) : mg_R σ a 12 110 = some (a + 76) := (q_gR h.1).trans (h.2 75 110 3 40 rfl).1
theorem am_g110 (h : LyO (mxA σ) (mxR σ) 12 al12 a) (hj : j < 40) : ma_I σ (a + 76) 3 (q_n j) = some (mxI σ (a + 76) j) := q_aIn (h.2 75 110 3 40 rfl).2 (by omega) hj
theorem am_s110 (h : LyO (mxA σ) (mxR σ) 12 al12 a) (hb : mpb P ≤ a) (hj : j < 40) (x : Int32) : ms_I P σ (a + 76) 3 (q_n j) x = some (mx_setI σ (a + 76) j x) := q_sIn (h.2 75 110 3 40 rfl).2 (by omega) hj (by omega) x
theorem am_r111 (h : LyO (mxA σ) (mxR σ) 12 al12 a) : mg_R σ a 12 111 = some (a + 77) := (q_gR h.1).trans (h.2 76 111 1 40 rfl).1
theorem am_g111 (h : LyO (mxA σ) (mxR σ) 12 al12 a) (hj : j < 40) : ma_L σ (a + 77) 1 (q_n j) = some (mxL σ (a + 77) j) := q_aLn (h.2 76 111 1 40 rfl).2 (by omega) hj
theorem am_s111 (h : LyO (mxA σ) (mxR σ) 12 al12 a) (hb : mpb P ≤ a) (hj : j < 40) (x : Int64) : ms_L P σ (a + 77) 1 (q_n j) x = some (mx_setL σ (a + 77) j x) := q_sLn (h.2 76 111 1 40 rfl).2 (by omega) hj (by omega) x
theorem at_is (h : LyO (mxA σ) (mxR σ) 10 al10 a) : mx_is σ a 10 = some () := q_is h.1
theorem at_gI (h : LyO (mxA σ) (mxR σ) 10 al10 a) : mg_I σ a 10 k = some (mxI σ a k) := q_gI h.1
theorem at_gL (h : LyO (mxA σ) (mxR σ) 10 al10 a) : mg_L σ a 10 k = some (mxL σ a k) := q_gL h.1
theorem at_pI (h : LyO (mxA σ) (mxR σ) 10 al10 a) (hb : mpb P ≤ a) (x : Int32) : mp_I P σ a 10 k x = some (mx_setI σ a k x) := q_pI h.1 hb x
theorem at_pZ (h : LyO (mxA σ) (mxR σ) 10 al10 a) (hb : mpb P ≤ a) {x : Int32} (hx : x = 0 ∨ x = 1) : mp_Z P σ a 10 k x = some (mx_setI σ a k x) := q_pZ h.1 hb hx
theorem at_pL (h : LyO (mxA σ) (mxR σ) 10 al10 a) (hb : mpb P ≤ a) (x : Int64) : mp_L P σ a 10 k x = some (mx_setL σ a k x) := q_pL h.1 hb x
theorem at_r0 (h : LyO (mxA σ) (mxR σ) 10 al10 a) : mg_R σ a 10 0 = some (a + 1) := (q_gR h.1).trans (h.2 0 0 2 4000 rfl).1
theorem at_g0 (h : LyO (mxA σ) (mxR σ) 10 al10 a) (hj : j < 4000) : ma_I σ (a + 1) 2 (q_n j) = some (mxI σ (a + 1) j) := q_aIn (h.2 0 0 2 4000 rfl).2 (by omega) hj
theorem at_s0 (h : LyO (mxA σ) (mxR σ) 10 al10 a) (hb : mpb P ≤ a) (hj : j < 4000) (x : Int32) : ms_I P σ (a + 1) 2 (q_n j) x = some (mx_setI σ (a + 1) j x) := q_sIn (h.2 0 0 2 4000 rfl).2 (by omega) hj (by omega) x
theorem at_r13 (h : LyO (mxA σ) (mxR σ) 10 al10 a) : mg_R σ a 10 13 = some (a + 2) := (q_gR h.1).trans (h.2 1 13 0 6 rfl).1
theorem at_g13 (h : LyO (mxA σ) (mxR σ) 10 al10 a) (hj : j < 6) : ma_I σ (a + 2) 0 (q_n j) = some (mxI σ (a + 2) j) := q_aIn (h.2 1 13 0 6 rfl).2 (by omega) hj
theorem at_s13 (h : LyO (mxA σ) (mxR σ) 10 al10 a) (hb : mpb P ≤ a) (hj : j < 6) (x : Int32) : ms_I P σ (a + 2) 0 (q_n j) x = some (mx_setI σ (a + 2) j x) := q_sIn (h.2 1 13 0 6 rfl).2 (by omega) hj (by omega) x
theorem at_r14 (h : LyO (mxA σ) (mxR σ) 10 al10 a) : mg_R σ a 10 14 = some (a + 3) := (q_gR h.1).trans (h.2 2 14 0 6 rfl).1
theorem at_g14 (h : LyO (mxA σ) (mxR σ) 10 al10 a) (hj : j < 6) : ma_I σ (a + 3) 0 (q_n j) = some (mxI σ (a + 3) j) := q_aIn (h.2 2 14 0 6 rfl).2 (by omega) hj
theorem at_s14 (h : LyO (mxA σ) (mxR σ) 10 al10 a) (hb : mpb P ≤ a) (hj : j < 6) (x : Int32) : ms_I P σ (a + 3) 0 (q_n j) x = some (mx_setI σ (a + 3) j x) := q_sIn (h.2 2 14 0 6 rfl).2 (by omega) hj (by omega) x
theorem at_r15 (h : LyO (mxA σ) (mxR σ) 10 al10 a) : mg_R σ a 10 15 = some (a + 4) := (q_gR h.1).trans (h.2 3 15 1 6 rfl).1
theorem at_g15 (h : LyO (mxA σ) (mxR σ) 10 al10 a) (hj : j < 6) : ma_L σ (a + 4) 1 (q_n j) = some (mxL σ (a + 4) j) := q_aLn (h.2 3 15 1 6 rfl).2 (by omega) hj
theorem at_s15 (h : LyO (mxA σ) (mxR σ) 10 al10 a) (hb : mpb P ≤ a) (hj : j < 6) (x : Int64) : ms_L P σ (a + 4) 1 (q_n j) x = some (mx_setL σ (a + 4) j x) := q_sLn (h.2 3 15 1 6 rfl).2 (by omega) hj (by omega) x
theorem at_r16 (h : LyO (mxA σ) (mxR σ) 10 al10 a) : mg_R σ a 10 16 = some (a + 5) := (q_gR h.1).trans (h.2 4 16 0 6 rfl).1
theorem at_g16 (h : LyO (mxA σ) (mxR σ) 10 al10 a) (hj : j < 6) : ma_I σ (a + 5) 0 (q_n j) = some (mxI σ (a + 5) j) := q_aIn (h.2 4 16 0 6 rfl).2 (by omega) hj
theorem at_s16 (h : LyO (mxA σ) (mxR σ) 10 al10 a) (hb : mpb P ≤ a) (hj : j < 6) (x : Int32) : ms_I P σ (a + 5) 0 (q_n j) x = some (mx_setI σ (a + 5) j x) := q_sIn (h.2 4 16 0 6 rfl).2 (by omega) hj (by omega) x
theorem at_r17 (h : LyO (mxA σ) (mxR σ) 10 al10 a) : mg_R σ a 10 17 = some (a + 6) := (q_gR h.1).trans (h.2 5 17 0 6 rfl).1
theorem at_g17 (h : LyO (mxA σ) (mxR σ) 10 al10 a) (hj : j < 6) : ma_I σ (a + 6) 0 (q_n j) = some (mxI σ (a + 6) j) := q_aIn (h.2 5 17 0 6 rfl).2 (by omega) hj
theorem at_s17 (h : LyO (mxA σ) (mxR σ) 10 al10 a) (hb : mpb P ≤ a) (hj : j < 6) (x : Int32) : ms_I P σ (a + 6) 0 (q_n j) x = some (mx_setI σ (a + 6) j x) := q_sIn (h.2 5 17 0 6 rfl).2 (by omega) hj (by omega) x
theorem at_r18 (h : LyO (mxA σ) (mxR σ) 10 al10 a) : mg_R σ a 10 18 = some (a + 7) := (q_gR h.1).trans (h.2 6 18 1 450 rfl).1
theorem at_g18 (h : LyO (mxA σ) (mxR σ) 10 al10 a) (hj : j < 450) : ma_L σ (a + 7) 1 (q_n j) = some (mxL σ (a + 7) j) := q_aLn (h.2 6 18 1 450 rfl).2 (by omega) hj
theorem at_s18 (h : LyO (mxA σ) (mxR σ) 10 al10 a) (hb : mpb P ≤ a) (hj : j < 450) (x : Int64) : ms_L P σ (a + 7) 1 (q_n j) x = some (mx_setL σ (a + 7) j x) := q_sLn (h.2 6 18 1 450 rfl).2 (by omega) hj (by omega) x
theorem ak_is (h : LyO (mxA σ) (mxR σ) 6 al6 a) : mx_is σ a 6 = some () := q_is h.1
theorem ak_gI (h : LyO (mxA σ) (mxR σ) 6 al6 a) : mg_I σ a 6 k = some (mxI σ a k) := q_gI h.1
theorem ak_gL (h : LyO (mxA σ) (mxR σ) 6 al6 a) : mg_L σ a 6 k = some (mxL σ a k) := q_gL h.1
theorem ak_pI (h : LyO (mxA σ) (mxR σ) 6 al6 a) (hb : mpb P ≤ a) (x : Int32) : mp_I P σ a 6 k x = some (mx_setI σ a k x) := q_pI h.1 hb x
theorem ak_pZ (h : LyO (mxA σ) (mxR σ) 6 al6 a) (hb : mpb P ≤ a) {x : Int32} (hx : x = 0 ∨ x = 1) : mp_Z P σ a 6 k x = some (mx_setI σ a k x) := q_pZ h.1 hb hx
theorem ak_pL (h : LyO (mxA σ) (mxR σ) 6 al6 a) (hb : mpb P ≤ a) (x : Int64) : mp_L P σ a 6 k x = some (mx_setL σ a k x) := q_pL h.1 hb x
theorem ak_r1 (h : LyO (mxA σ) (mxR σ) 6 al6 a) : mg_R σ a 6 1 = some (a + 1) := (q_gR h.1).trans (h.2 0 1 0 156 rfl).1
theorem ak_g1 (h : LyO (mxA σ) (mxR σ) 6 al6 a) (hj : j < 156) : ma_I σ (a + 1) 0 (q_n j) = some (mxI σ (a + 1) j) := q_aIn (h.2 0 1 0 156 rfl).2 (by omega) hj
theorem ak_s1 (h : LyO (mxA σ) (mxR σ) 6 al6 a) (hb : mpb P ≤ a) (hj : j < 156) (x : Int32) : ms_I P σ (a + 1) 0 (q_n j) x = some (mx_setI σ (a + 1) j x) := q_sIn (h.2 0 1 0 156 rfl).2 (by omega) hj (by omega) x
theorem ak_r4 (h : LyO (mxA σ) (mxR σ) 6 al6 a) : mg_R σ a 6 4 = some (a + 2) := (q_gR h.1).trans (h.2 1 4 0 15 rfl).1
theorem ak_g4 (h : LyO (mxA σ) (mxR σ) 6 al6 a) (hj : j < 15) : ma_I σ (a + 2) 0 (q_n j) = some (mxI σ (a + 2) j) := q_aIn (h.2 1 4 0 15 rfl).2 (by omega) hj
theorem ak_s4 (h : LyO (mxA σ) (mxR σ) 6 al6 a) (hb : mpb P ≤ a) (hj : j < 15) (x : Int32) : ms_I P σ (a + 2) 0 (q_n j) x = some (mx_setI σ (a + 2) j x) := q_sIn (h.2 1 4 0 15 rfl).2 (by omega) hj (by omega) x
theorem ak_r5 (h : LyO (mxA σ) (mxR σ) 6 al6 a) : mg_R σ a 6 5 = some (a + 3) := (q_gR h.1).trans (h.2 2 5 0 15 rfl).1
theorem ak_g5 (h : LyO (mxA σ) (mxR σ) 6 al6 a) (hj : j < 15) : ma_I σ (a + 3) 0 (q_n j) = some (mxI σ (a + 3) j) := q_aIn (h.2 2 5 0 15 rfl).2 (by omega) hj
theorem ak_s5 (h : LyO (mxA σ) (mxR σ) 6 al6 a) (hb : mpb P ≤ a) (hj : j < 15) (x : Int32) : ms_I P σ (a + 3) 0 (q_n j) x = some (mx_setI σ (a + 3) j x) := q_sIn (h.2 2 5 0 15 rfl).2 (by omega) hj (by omega) x
theorem ak_r6 (h : LyO (mxA σ) (mxR σ) 6 al6 a) : mg_R σ a 6 6 = some (a + 4) := (q_gR h.1).trans (h.2 3 6 0 36 rfl).1
theorem ak_g6 (h : LyO (mxA σ) (mxR σ) 6 al6 a) (hj : j < 36) : ma_I σ (a + 4) 0 (q_n j) = some (mxI σ (a + 4) j) := q_aIn (h.2 3 6 0 36 rfl).2 (by omega) hj
theorem ak_s6 (h : LyO (mxA σ) (mxR σ) 6 al6 a) (hb : mpb P ≤ a) (hj : j < 36) (x : Int32) : ms_I P σ (a + 4) 0 (q_n j) x = some (mx_setI σ (a + 4) j x) := q_sIn (h.2 3 6 0 36 rfl).2 (by omega) hj (by omega) x
theorem ak_r7 (h : LyO (mxA σ) (mxR σ) 6 al6 a) : mg_R σ a 6 7 = some (a + 5) := (q_gR h.1).trans (h.2 4 7 0 6 rfl).1
theorem ak_g7 (h : LyO (mxA σ) (mxR σ) 6 al6 a) (hj : j < 6) : ma_I σ (a + 5) 0 (q_n j) = some (mxI σ (a + 5) j) := q_aIn (h.2 4 7 0 6 rfl).2 (by omega) hj
theorem ak_s7 (h : LyO (mxA σ) (mxR σ) 6 al6 a) (hb : mpb P ≤ a) (hj : j < 6) (x : Int32) : ms_I P σ (a + 5) 0 (q_n j) x = some (mx_setI σ (a + 5) j x) := q_sIn (h.2 4 7 0 6 rfl).2 (by omega) hj (by omega) x
theorem ak_r8 (h : LyO (mxA σ) (mxR σ) 6 al6 a) : mg_R σ a 6 8 = some (a + 6) := (q_gR h.1).trans (h.2 5 8 0 6 rfl).1
theorem ak_g8 (h : LyO (mxA σ) (mxR σ) 6 al6 a) (hj : j < 6) : ma_I σ (a + 6) 0 (q_n j) = some (mxI σ (a + 6) j) := q_aIn (h.2 5 8 0 6 rfl).2 (by omega) hj
theorem ak_s8 (h : LyO (mxA σ) (mxR σ) 6 al6 a) (hb : mpb P ≤ a) (hj : j < 6) (x : Int32) : ms_I P σ (a + 6) 0 (q_n j) x = some (mx_setI σ (a + 6) j x) := q_sIn (h.2 5 8 0 6 rfl).2 (by omega) hj (by omega) x
theorem ak_r9 (h : LyO (mxA σ) (mxR σ) 6 al6 a) : mg_R σ a 6 9 = some (a + 7) := (q_gR h.1).trans (h.2 6 9 0 1024 rfl).1
theorem ak_g9 (h : LyO (mxA σ) (mxR σ) 6 al6 a) (hj : j < 1024) : ma_I σ (a + 7) 0 (q_n j) = some (mxI σ (a + 7) j) := q_aIn (h.2 6 9 0 1024 rfl).2 (by omega) hj
theorem ak_s9 (h : LyO (mxA σ) (mxR σ) 6 al6 a) (hb : mpb P ≤ a) (hj : j < 1024) (x : Int32) : ms_I P σ (a + 7) 0 (q_n j) x = some (mx_setI σ (a + 7) j x) := q_sIn (h.2 6 9 0 1024 rfl).2 (by omega) hj (by omega) x
theorem ad_is (h : LyO (mxA σ) (mxR σ) 2 al2 a) : mx_is σ a 2 = some () := q_is h.1
theorem ad_gI (h : LyO (mxA σ) (mxR σ) 2 al2 a) : mg_I σ a 2 k = some (mxI σ a k) := q_gI h.1
theorem ad_gL (h : LyO (mxA σ) (mxR σ) 2 al2 a) : mg_L σ a 2 k = some (mxL σ a k) := q_gL h.1
theorem ad_pI (h : LyO (mxA σ) (mxR σ) 2 al2 a) (hb : mpb P ≤ a) (x : Int32) : mp_I P σ a 2 k x = some (mx_setI σ a k x) := q_pI h.1 hb x
theorem ad_pZ (h : LyO (mxA σ) (mxR σ) 2 al2 a) (hb : mpb P ≤ a) {x : Int32} (hx : x = 0 ∨ x = 1) : mp_Z P σ a 2 k x = some (mx_setI σ a k x) := q_pZ h.1 hb hx
theorem ad_pL (h : LyO (mxA σ) (mxR σ) 2 al2 a) (hb : mpb P ≤ a) (x : Int64) : mp_L P σ a 2 k x = some (mx_setL σ a k x) := q_pL h.1 hb x
theorem ad_r2 (h : LyO (mxA σ) (mxR σ) 2 al2 a) : mg_R σ a 2 2 = some (a + 1) := (q_gR h.1).trans (h.2 0 2 0 300 rfl).1
theorem ad_g2 (h : LyO (mxA σ) (mxR σ) 2 al2 a) (hj : j < 300) : ma_I σ (a + 1) 0 (q_n j) = some (mxI σ (a + 1) j) := q_aIn (h.2 0 2 0 300 rfl).2 (by omega) hj
theorem ad_s2 (h : LyO (mxA σ) (mxR σ) 2 al2 a) (hb : mpb P ≤ a) (hj : j < 300) (x : Int32) : ms_I P σ (a + 1) 0 (q_n j) x = some (mx_setI σ (a + 1) j x) := q_sIn (h.2 0 2 0 300 rfl).2 (by omega) hj (by omega) x
theorem ad_r5 (h : LyO (mxA σ) (mxR σ) 2 al2 a) : mg_R σ a 2 5 = some (a + 2) := (q_gR h.1).trans (h.2 1 5 0 40 rfl).1
theorem ad_g5 (h : LyO (mxA σ) (mxR σ) 2 al2 a) (hj : j < 40) : ma_I σ (a + 2) 0 (q_n j) = some (mxI σ (a + 2) j) := q_aIn (h.2 1 5 0 40 rfl).2 (by omega) hj
theorem ad_s5 (h : LyO (mxA σ) (mxR σ) 2 al2 a) (hb : mpb P ≤ a) (hj : j < 40) (x : Int32) : ms_I P σ (a + 2) 0 (q_n j) x = some (mx_setI σ (a + 2) j x) := q_sIn (h.2 1 5 0 40 rfl).2 (by omega) hj (by omega) x
theorem ad_r6 (h : LyO (mxA σ) (mxR σ) 2 al2 a) : mg_R σ a 2 6 = some (a + 3) := (q_gR h.1).trans (h.2 2 6 0 40 rfl).1
theorem ad_g6 (h : LyO (mxA σ) (mxR σ) 2 al2 a) (hj : j < 40) : ma_I σ (a + 3) 0 (q_n j) = some (mxI σ (a + 3) j) := q_aIn (h.2 2 6 0 40 rfl).2 (by omega) hj
theorem ad_s6 (h : LyO (mxA σ) (mxR σ) 2 al2 a) (hb : mpb P ≤ a) (hj : j < 40) (x : Int32) : ms_I P σ (a + 3) 0 (q_n j) x = some (mx_setI σ (a + 3) j x) := q_sIn (h.2 2 6 0 40 rfl).2 (by omega) hj (by omega) x
theorem ad_r7 (h : LyO (mxA σ) (mxR σ) 2 al2 a) : mg_R σ a 2 7 = some (a + 4) := (q_gR h.1).trans (h.2 3 7 0 40 rfl).1
theorem ad_g7 (h : LyO (mxA σ) (mxR σ) 2 al2 a) (hj : j < 40) : ma_I σ (a + 4) 0 (q_n j) = some (mxI σ (a + 4) j) := q_aIn (h.2 3 7 0 40 rfl).2 (by omega) hj
theorem ad_s7 (h : LyO (mxA σ) (mxR σ) 2 al2 a) (hb : mpb P ≤ a) (hj : j < 40) (x : Int32) : ms_I P σ (a + 4) 0 (q_n j) x = some (mx_setI σ (a + 4) j x) := q_sIn (h.2 3 7 0 40 rfl).2 (by omega) hj (by omega) x
theorem ad_r8 (h : LyO (mxA σ) (mxR σ) 2 al2 a) : mg_R σ a 2 8 = some (a + 5) := (q_gR h.1).trans (h.2 4 8 0 40 rfl).1
theorem ad_g8 (h : LyO (mxA σ) (mxR σ) 2 al2 a) (hj : j < 40) : ma_I σ (a + 5) 0 (q_n j) = some (mxI σ (a + 5) j) := q_aIn (h.2 4 8 0 40 rfl).2 (by omega) hj
theorem ad_s8 (h : LyO (mxA σ) (mxR σ) 2 al2 a) (hb : mpb P ≤ a) (hj : j < 40) (x : Int32) : ms_I P σ (a + 5) 0 (q_n j) x = some (mx_setI σ (a + 5) j x) := q_sIn (h.2 4 8 0 40 rfl).2 (by omega) hj (by omega) x
theorem ad_r9 (h : LyO (mxA σ) (mxR σ) 2 al2 a) : mg_R σ a 2 9 = some (a + 6) := (q_gR h.1).trans (h.2 5 9 3 40 rfl).1
theorem ad_g9 (h : LyO (mxA σ) (mxR σ) 2 al2 a) (hj : j < 40) : ma_I σ (a + 6) 3 (q_n j) = some (mxI σ (a + 6) j) := q_aIn (h.2 5 9 3 40 rfl).2 (by omega) hj
theorem ad_s9 (h : LyO (mxA σ) (mxR σ) 2 al2 a) (hb : mpb P ≤ a) (hj : j < 40) (x : Int32) : ms_I P σ (a + 6) 3 (q_n j) x = some (mx_setI σ (a + 6) j x) := q_sIn (h.2 5 9 3 40 rfl).2 (by omega) hj (by omega) x
theorem ad_r10 (h : LyO (mxA σ) (mxR σ) 2 al2 a) : mg_R σ a 2 10 = some (a + 7) := (q_gR h.1).trans (h.2 6 10 1 40 rfl).1
theorem ad_g10 (h : LyO (mxA σ) (mxR σ) 2 al2 a) (hj : j < 40) : ma_L σ (a + 7) 1 (q_n j) = some (mxL σ (a + 7) j) := q_aLn (h.2 6 10 1 40 rfl).2 (by omega) hj
theorem ad_s10 (h : LyO (mxA σ) (mxR σ) 2 al2 a) (hb : mpb P ≤ a) (hj : j < 40) (x : Int64) : ms_L P σ (a + 7) 1 (q_n j) x = some (mx_setL σ (a + 7) j x) := q_sLn (h.2 6 10 1 40 rfl).2 (by omega) hj (by omega) x
theorem ap_is (h : LyO (mxA σ) (mxR σ) 9 al9 a) : mx_is σ a 9 = some () := q_is h.1
theorem ap_gI (h : LyO (mxA σ) (mxR σ) 9 al9 a) : mg_I σ a 9 k = some (mxI σ a k) := q_gI h.1
theorem ap_gL (h : LyO (mxA σ) (mxR σ) 9 al9 a) : mg_L σ a 9 k = some (mxL σ a k) := q_gL h.1
theorem ap_pI (h : LyO (mxA σ) (mxR σ) 9 al9 a) (hb : mpb P ≤ a) (x : Int32) : mp_I P σ a 9 k x = some (mx_setI σ a k x) := q_pI h.1 hb x
theorem ap_pZ (h : LyO (mxA σ) (mxR σ) 9 al9 a) (hb : mpb P ≤ a) {x : Int32} (hx : x = 0 ∨ x = 1) : mp_Z P σ a 9 k x = some (mx_setI σ a k x) := q_pZ h.1 hb hx
theorem ap_pL (h : LyO (mxA σ) (mxR σ) 9 al9 a) (hb : mpb P ≤ a) (x : Int64) : mp_L P σ a 9 k x = some (mx_setL σ a k x) := q_pL h.1 hb x
theorem ap_r1 (h : LyO (mxA σ) (mxR σ) 9 al9 a) : mg_R σ a 9 1 = some (a + 1) := (q_gR h.1).trans (h.2 0 1 1 24 rfl).1
theorem ap_g1 (h : LyO (mxA σ) (mxR σ) 9 al9 a) (hj : j < 24) : ma_L σ (a + 1) 1 (q_n j) = some (mxL σ (a + 1) j) := q_aLn (h.2 0 1 1 24 rfl).2 (by omega) hj
theorem ap_s1 (h : LyO (mxA σ) (mxR σ) 9 al9 a) (hb : mpb P ≤ a) (hj : j < 24) (x : Int64) : ms_L P σ (a + 1) 1 (q_n j) x = some (mx_setL σ (a + 1) j x) := q_sLn (h.2 0 1 1 24 rfl).2 (by omega) hj (by omega) x
theorem ap_r2 (h : LyO (mxA σ) (mxR σ) 9 al9 a) : mg_R σ a 9 2 = some (a + 2) := (q_gR h.1).trans (h.2 1 2 1 24 rfl).1
theorem ap_g2 (h : LyO (mxA σ) (mxR σ) 9 al9 a) (hj : j < 24) : ma_L σ (a + 2) 1 (q_n j) = some (mxL σ (a + 2) j) := q_aLn (h.2 1 2 1 24 rfl).2 (by omega) hj
theorem ap_s2 (h : LyO (mxA σ) (mxR σ) 9 al9 a) (hb : mpb P ≤ a) (hj : j < 24) (x : Int64) : ms_L P σ (a + 2) 1 (q_n j) x = some (mx_setL σ (a + 2) j x) := q_sLn (h.2 1 2 1 24 rfl).2 (by omega) hj (by omega) x
theorem ag_is (h : LyG (mxA σ) (mxR σ) a) : mx_is σ a 4 = some () := q_is (LyG_o h)
theorem ag_gI (h : LyG (mxA σ) (mxR σ) a) : mg_I σ a 4 k = some (mxI σ a k) := q_gI (LyG_o h)
theorem ag_gL (h : LyG (mxA σ) (mxR σ) a) : mg_L σ a 4 k = some (mxL σ a k) := q_gL (LyG_o h)
theorem ag_pI (h : LyG (mxA σ) (mxR σ) a) (hb : mpb P ≤ a) (x : Int32) : mp_I P σ a 4 k x = some (mx_setI σ a k x) := q_pI (LyG_o h) hb x
theorem ag_pZ (h : LyG (mxA σ) (mxR σ) a) (hb : mpb P ≤ a) {x : Int32} (hx : x = 0 ∨ x = 1) : mp_Z P σ a 4 k x = some (mx_setI σ a k x) := q_pZ (LyG_o h) hb hx
theorem ag_pL (h : LyG (mxA σ) (mxR σ) a) (hb : mpb P ≤ a) (x : Int64) : mp_L P σ a 4 k x = some (mx_setL σ a k x) := q_pL (LyG_o h) hb x
theorem ag_r3 (h : LyG (mxA σ) (mxR σ) a) : mg_R σ a 4 3 = some (a + 1) := (q_gR (LyG_o h)).trans (LyG_r3 h)
theorem ag_g3 (h : LyG (mxA σ) (mxR σ) a) (hj : j < 24) : ma_I σ (a + 1) 0 (q_n j) = some (mxI σ (a + 1) j) := q_aIn (LyG_a3 h) (by omega) hj
theorem ag_s3 (h : LyG (mxA σ) (mxR σ) a) (hb : mpb P ≤ a) (hj : j < 24) (x : Int32) : ms_I P σ (a + 1) 0 (q_n j) x = some (mx_setI σ (a + 1) j x) := q_sIn (LyG_a3 h) (by omega) hj (by omega) x
theorem ag_r4 (h : LyG (mxA σ) (mxR σ) a) : mg_R σ a 4 4 = some (a + 2) := (q_gR (LyG_o h)).trans (LyG_r4 h)
theorem ag_g4 (h : LyG (mxA σ) (mxR σ) a) (hj : j < 24) : ma_I σ (a + 2) 0 (q_n j) = some (mxI σ (a + 2) j) := q_aIn (LyG_a4 h) (by omega) hj
theorem ag_s4 (h : LyG (mxA σ) (mxR σ) a) (hb : mpb P ≤ a) (hj : j < 24) (x : Int32) : ms_I P σ (a + 2) 0 (q_n j) x = some (mx_setI σ (a + 2) j x) := q_sIn (LyG_a4 h) (by omega) hj (by omega) x
theorem ag_r5 (h : LyG (mxA σ) (mxR σ) a) : mg_R σ a 4 5 = some (a + 3) := (q_gR (LyG_o h)).trans (LyG_r5 h)
theorem ag_g5 (h : LyG (mxA σ) (mxR σ) a) (hj : j < 80) : ma_I σ (a + 3) 0 (q_n j) = some (mxI σ (a + 3) j) := q_aIn (LyG_a5 h) (by omega) hj
theorem ag_s5 (h : LyG (mxA σ) (mxR σ) a) (hb : mpb P ≤ a) (hj : j < 80) (x : Int32) : ms_I P σ (a + 3) 0 (q_n j) x = some (mx_setI σ (a + 3) j x) := q_sIn (LyG_a5 h) (by omega) hj (by omega) x
theorem ag_r6 (h : LyG (mxA σ) (mxR σ) a) : mg_R σ a 4 6 = some (a + 4) := (q_gR (LyG_o h)).trans (LyG_r6 h)
theorem ag_g6 (h : LyG (mxA σ) (mxR σ) a) (hj : j < 12) : ma_I σ (a + 4) 0 (q_n j) = some (mxI σ (a + 4) j) := q_aIn (LyG_a6 h) (by omega) hj
theorem ag_s6 (h : LyG (mxA σ) (mxR σ) a) (hb : mpb P ≤ a) (hj : j < 12) (x : Int32) : ms_I P σ (a + 4) 0 (q_n j) x = some (mx_setI σ (a + 4) j x) := q_sIn (LyG_a6 h) (by omega) hj (by omega) x
theorem ag_r7 (h : LyG (mxA σ) (mxR σ) a) : mg_R σ a 4 7 = some (a + 5) := (q_gR (LyG_o h)).trans (LyG_r7 h)
theorem ag_g7 (h : LyG (mxA σ) (mxR σ) a) (hj : j < 12) : ma_I σ (a + 5) 0 (q_n j) = some (mxI σ (a + 5) j) := q_aIn (LyG_a7 h) (by omega) hj
theorem ag_s7 (h : LyG (mxA σ) (mxR σ) a) (hb : mpb P ≤ a) (hj : j < 12) (x : Int32) : ms_I P σ (a + 5) 0 (q_n j) x = some (mx_setI σ (a + 5) j x) := q_sIn (LyG_a7 h) (by omega) hj (by omega) x
theorem ag_r8 (h : LyG (mxA σ) (mxR σ) a) : mg_R σ a 4 8 = some (a + 6) := (q_gR (LyG_o h)).trans (LyG_r8 h)
theorem ag_g8 (h : LyG (mxA σ) (mxR σ) a) (hj : j < 12) : ma_I σ (a + 6) 0 (q_n j) = some (mxI σ (a + 6) j) := q_aIn (LyG_a8 h) (by omega) hj
theorem ag_s8 (h : LyG (mxA σ) (mxR σ) a) (hb : mpb P ≤ a) (hj : j < 12) (x : Int32) : ms_I P σ (a + 6) 0 (q_n j) x = some (mx_setI σ (a + 6) j x) := q_sIn (LyG_a8 h) (by omega) hj (by omega) x
theorem ag_r9 (h : LyG (mxA σ) (mxR σ) a) : mg_R σ a 4 9 = some (a + 7) := (q_gR (LyG_o h)).trans (LyG_r9 h)
theorem ag_g9 (h : LyG (mxA σ) (mxR σ) a) (hj : j < 1200) : ma_I σ (a + 7) 0 (q_n j) = some (mxI σ (a + 7) j) := q_aIn (LyG_a9 h) (by omega) hj
theorem ag_s9 (h : LyG (mxA σ) (mxR σ) a) (hb : mpb P ≤ a) (hj : j < 1200) (x : Int32) : ms_I P σ (a + 7) 0 (q_n j) x = some (mx_setI σ (a + 7) j x) := q_sIn (LyG_a9 h) (by omega) hj (by omega) x
theorem ag_r12 (h : LyG (mxA σ) (mxR σ) a) : mg_R σ a 4 12 = some (a + 74) := (q_gR (LyG_o h)).trans (LyG_r12 h)
theorem ag_g12 (h : LyG (mxA σ) (mxR σ) a) (hj : j < 12) : ma_I σ (a + 74) 0 (q_n j) = some (mxI σ (a + 74) j) := q_aIn (LyG_a12 h) (by omega) hj
theorem ag_s12 (h : LyG (mxA σ) (mxR σ) a) (hb : mpb P ≤ a) (hj : j < 12) (x : Int32) : ms_I P σ (a + 74) 0 (q_n j) x = some (mx_setI σ (a + 74) j x) := q_sIn (LyG_a12 h) (by omega) hj (by omega) x
theorem al_is (h : LyL (mxA σ) (mxR σ) a) : mx_is σ a 7 = some () := q_is (LyL_o h)
theorem al_gI (h : LyL (mxA σ) (mxR σ) a) : mg_I σ a 7 k = some (mxI σ a k) := q_gI (LyL_o h)
theorem al_gL (h : LyL (mxA σ) (mxR σ) a) : mg_L σ a 7 k = some (mxL σ a k) := q_gL (LyL_o h)
theorem al_pI (h : LyL (mxA σ) (mxR σ) a) (hb : mpb P ≤ a) (x : Int32) : mp_I P σ a 7 k x = some (mx_setI σ a k x) := q_pI (LyL_o h) hb x
theorem al_pZ (h : LyL (mxA σ) (mxR σ) a) (hb : mpb P ≤ a) {x : Int32} (hx : x = 0 ∨ x = 1) : mp_Z P σ a 7 k x = some (mx_setI σ a k x) := q_pZ (LyL_o h) hb hx
theorem al_pL (h : LyL (mxA σ) (mxR σ) a) (hb : mpb P ≤ a) (x : Int64) : mp_L P σ a 7 k x = some (mx_setL σ a k x) := q_pL (LyL_o h) hb x
theorem al_r1 (h : LyL (mxA σ) (mxR σ) a) : mg_R σ a 7 1 = some (a + 642) := (q_gR (LyL_o h)).trans (LyL_r1 h)
theorem al_g1 (h : LyL (mxA σ) (mxR σ) a) (hj : j < 40) : ma_I σ (a + 642) 0 (q_n j) = some (mxI σ (a + 642) j) := q_aIn (LyL_a1 h) (by omega) hj
theorem al_s1 (h : LyL (mxA σ) (mxR σ) a) (hb : mpb P ≤ a) (hj : j < 40) (x : Int32) : ms_I P σ (a + 642) 0 (q_n j) x = some (mx_setI σ (a + 642) j x) := q_sIn (LyL_a1 h) (by omega) hj (by omega) x
theorem al_r4 (h : LyL (mxA σ) (mxR σ) a) : mg_R σ a 7 4 = some (a + 643) := (q_gR (LyL_o h)).trans (LyL_r4 h)
theorem al_g4 (h : LyL (mxA σ) (mxR σ) a) (hj : j < 4) : ma_I σ (a + 643) 0 (q_n j) = some (mxI σ (a + 643) j) := q_aIn (LyL_a4 h) (by omega) hj
theorem al_s4 (h : LyL (mxA σ) (mxR σ) a) (hb : mpb P ≤ a) (hj : j < 4) (x : Int32) : ms_I P σ (a + 643) 0 (q_n j) x = some (mx_setI σ (a + 643) j x) := q_sIn (LyL_a4 h) (by omega) hj (by omega) x
theorem al_r7 (h : LyL (mxA σ) (mxR σ) a) : mg_R σ a 7 7 = some (a + 657) := (q_gR (LyL_o h)).trans (LyL_r7 h)
theorem al_g7 (h : LyL (mxA σ) (mxR σ) a) (hj : j < 256) : ma_I σ (a + 657) 0 (q_n j) = some (mxI σ (a + 657) j) := q_aIn (LyL_a7 h) (by omega) hj
theorem al_s7 (h : LyL (mxA σ) (mxR σ) a) (hb : mpb P ≤ a) (hj : j < 256) (x : Int32) : ms_I P σ (a + 657) 0 (q_n j) x = some (mx_setI σ (a + 657) j x) := q_sIn (LyL_a7 h) (by omega) hj (by omega) x
theorem al_r8 (h : LyL (mxA σ) (mxR σ) a) : mg_R σ a 7 8 = some (a + 658) := (q_gR (LyL_o h)).trans (LyL_r8 h)
theorem al_g8 (h : LyL (mxA σ) (mxR σ) a) (hj : j < 256) : ma_I σ (a + 658) 0 (q_n j) = some (mxI σ (a + 658) j) := q_aIn (LyL_a8 h) (by omega) hj
theorem al_s8 (h : LyL (mxA σ) (mxR σ) a) (hb : mpb P ≤ a) (hj : j < 256) (x : Int32) : ms_I P σ (a + 658) 0 (q_n j) x = some (mx_setI σ (a + 658) j x) := q_sIn (LyL_a8 h) (by omega) hj (by omega) x
theorem ac_is (h : LyC (mxA σ) (mxR σ) a) : mx_is σ a 1 = some () := q_is (LyC_o h)
theorem ac_gI (h : LyC (mxA σ) (mxR σ) a) : mg_I σ a 1 k = some (mxI σ a k) := q_gI (LyC_o h)
theorem ac_gL (h : LyC (mxA σ) (mxR σ) a) : mg_L σ a 1 k = some (mxL σ a k) := q_gL (LyC_o h)
theorem ac_pI (h : LyC (mxA σ) (mxR σ) a) (hb : mpb P ≤ a) (x : Int32) : mp_I P σ a 1 k x = some (mx_setI σ a k x) := q_pI (LyC_o h) hb x
theorem ac_pZ (h : LyC (mxA σ) (mxR σ) a) (hb : mpb P ≤ a) {x : Int32} (hx : x = 0 ∨ x = 1) : mp_Z P σ a 1 k x = some (mx_setI σ a k x) := q_pZ (LyC_o h) hb hx
theorem ac_pL (h : LyC (mxA σ) (mxR σ) a) (hb : mpb P ≤ a) (x : Int64) : mp_L P σ a 1 k x = some (mx_setL σ a k x) := q_pL (LyC_o h) hb x
theorem ac_r1 (h : LyC (mxA σ) (mxR σ) a) : mg_R σ a 1 1 = some (a + 1) := (q_gR (LyC_o h)).trans (LyC_r1 h)
theorem ac_g1 (h : LyC (mxA σ) (mxR σ) a) (hj : j < 30) : ma_I σ (a + 1) 0 (q_n j) = some (mxI σ (a + 1) j) := q_aIn (LyC_a1 h) (by omega) hj
theorem ac_s1 (h : LyC (mxA σ) (mxR σ) a) (hb : mpb P ≤ a) (hj : j < 30) (x : Int32) : ms_I P σ (a + 1) 0 (q_n j) x = some (mx_setI σ (a + 1) j x) := q_sIn (LyC_a1 h) (by omega) hj (by omega) x
theorem ac_r2 (h : LyC (mxA σ) (mxR σ) a) : mg_R σ a 1 2 = some (a + 2) := (q_gR (LyC_o h)).trans (LyC_r2 h)
theorem ac_g2 (h : LyC (mxA σ) (mxR σ) a) (hj : j < 30) : ma_I σ (a + 2) 0 (q_n j) = some (mxI σ (a + 2) j) := q_aIn (LyC_a2 h) (by omega) hj
theorem ac_s2 (h : LyC (mxA σ) (mxR σ) a) (hb : mpb P ≤ a) (hj : j < 30) (x : Int32) : ms_I P σ (a + 2) 0 (q_n j) x = some (mx_setI σ (a + 2) j x) := q_sIn (LyC_a2 h) (by omega) hj (by omega) x
theorem ac_r3 (h : LyC (mxA σ) (mxR σ) a) : mg_R σ a 1 3 = some (a + 3) := (q_gR (LyC_o h)).trans (LyC_r3 h)
theorem ac_g3 (h : LyC (mxA σ) (mxR σ) a) (hj : j < 30) : ma_I σ (a + 3) 0 (q_n j) = some (mxI σ (a + 3) j) := q_aIn (LyC_a3 h) (by omega) hj
theorem ac_s3 (h : LyC (mxA σ) (mxR σ) a) (hb : mpb P ≤ a) (hj : j < 30) (x : Int32) : ms_I P σ (a + 3) 0 (q_n j) x = some (mx_setI σ (a + 3) j x) := q_sIn (LyC_a3 h) (by omega) hj (by omega) x
theorem ac_r4 (h : LyC (mxA σ) (mxR σ) a) : mg_R σ a 1 4 = some (a + 4) := (q_gR (LyC_o h)).trans (LyC_r4 h)
theorem ac_g4 (h : LyC (mxA σ) (mxR σ) a) (hj : j < 30) : ma_L σ (a + 4) 1 (q_n j) = some (mxL σ (a + 4) j) := q_aLn (LyC_a4 h) (by omega) hj
theorem ac_s4 (h : LyC (mxA σ) (mxR σ) a) (hb : mpb P ≤ a) (hj : j < 30) (x : Int64) : ms_L P σ (a + 4) 1 (q_n j) x = some (mx_setL σ (a + 4) j x) := q_sLn (LyC_a4 h) (by omega) hj (by omega) x
theorem ac_r5 (h : LyC (mxA σ) (mxR σ) a) : mg_R σ a 1 5 = some (a + 5) := (q_gR (LyC_o h)).trans (LyC_r5 h)
theorem ac_g5 (h : LyC (mxA σ) (mxR σ) a) (hj : j < 30) : ma_L σ (a + 5) 1 (q_n j) = some (mxL σ (a + 5) j) := q_aLn (LyC_a5 h) (by omega) hj
theorem ac_s5 (h : LyC (mxA σ) (mxR σ) a) (hb : mpb P ≤ a) (hj : j < 30) (x : Int64) : ms_L P σ (a + 5) 1 (q_n j) x = some (mx_setL σ (a + 5) j x) := q_sLn (LyC_a5 h) (by omega) hj (by omega) x
theorem ah_r0 (h : LyH (mxA σ) (mxR σ) a) : mg_R σ a 11 0 = some (a + 1) := (q_gR (LyH_o h)).trans (LyH_r0 h)
theorem ah_r1 (h : LyH (mxA σ) (mxR σ) a) : mg_R σ a 11 1 = some (a + 9) := (q_gR (LyH_o h)).trans (LyH_r1 h)
theorem ah_r2 (h : LyH (mxA σ) (mxR σ) a) : mg_R σ a 11 2 = some (a + 87) := (q_gR (LyH_o h)).trans (LyH_r2 h)
theorem ah_r3 (h : LyH (mxA σ) (mxR σ) a) : mg_R σ a 11 3 = some (a + 112) := (q_gR (LyH_o h)).trans (LyH_r3 h)
theorem ah_r4 (h : LyH (mxA σ) (mxR σ) a) : mg_R σ a 11 4 = some (a + 120) := (q_gR (LyH_o h)).trans (LyH_r4 h)
theorem ah_r5 (h : LyH (mxA σ) (mxR σ) a) : mg_R σ a 11 5 = some (a + 128) := (q_gR (LyH_o h)).trans (LyH_r5 h)
theorem ah_p (h : LyH (mxA σ) (mxR σ) a) (hj : j < 8) : ma_R σ (a + 87) 6 (q_n j) = some (a + 88 + 3 * j) := (q_aRn (LyH_a2 h) (by omega) hj).trans (LyH_p h j hj).1
end QA
