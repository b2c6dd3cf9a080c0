/-! ===== q8: the law, call by call ===== -/
section Q8
variable {P : mx_P} {L : Nat} {xs : Nat → Int32} {b x m o i : Nat} {τ τ1 τ2 : mx_S} {k : Int32}
theorem mt_xn (hL : L < 2147483648) {j : Nat} (h : i + j < L) : mt_x L xs (q_n i + q_n j) = some (xs (i + j)) := by
  unfold mt_x
  rw [q_nA, q_nT (by omega), if_pos ⟨by omega, by omega⟩]
  have : (q_n (i + j)).toNatClampNeg = i + j := Int32.toNatClampNeg_ofNat_of_lt (by omega)
  rw [this]
theorem mt_x0 (hL : L < 2147483648) (h : i < L) : mt_x L xs (q_n i) = some (xs i) := by
  unfold mt_x
  rw [q_nT (by omega), if_pos ⟨by omega, by omega⟩]
  have : (q_n i).toNatClampNeg = i := Int32.toNatClampNeg_ofNat_of_lt (by omega)
  rw [this]
theorem k_thrown (h : mxA τ m = some (.inl 12)) : f_X12_thrown P m τ = some (mxI τ m 0, τ) := by
  unfold f_X12_thrown
  rw [q_gI h]; rfl
theorem q_o0 (ho : mxA τ o = some (.inr (1, 1))) : ma_L τ o 1 (0 : Int32) = some (mxL τ o 0) := q_aLn (j := 0) ho (by omega) (by omega)
theorem lw_rest : f_L_law_D2910_23 P L xs b x m o (q_n i) τ = some (.inl (q_n (i + 7), τ)) := by
  unfold f_L_law_D2910_23
  rw [show (7 : Int32) = q_n 7 from rfl, q_nA]; rfl
theorem q_try_r {α β : Type} (v : α × mx_S) (h : String → mx_S → Option β) (g : α → mx_S → Option β) : mx_try (some (.inr v)) h g = g v.1 v.2 := rfl
theorem q_try_l {α β : Type} (e : String × mx_S) (h : String → mx_S → Option β) (g : α → mx_S → Option β) : mx_try (some (.inl e)) h g = h e.1 e.2 := rfl
theorem q_try0_r {β : Type} (v : mx_S) (h : String → mx_S → Option β) (g : mx_S → Option β) : mx_try0 (some (.inr v)) h g = g v := rfl
theorem q_try0_l {β : Type} (e : String × mx_S) (h : String → mx_S → Option β) (g : mx_S → Option β) : mx_try0 (some (.inl e)) h g = h e.1 e.2 := rfl
theorem lw_feed {r : Int32} (hL : L < 2147483648) (hi : i + 7 ≤ L) (hl : f_L_feed P x (xs (i + 1)) (xs (i + 2)) (xs (i + 3)) (xs (i + 4)) (xs (i + 5)) o τ = some (k, τ1)) (hm1 : mxA τ1 m = some (.inl 12)) (hr : f_X12_feed P m (xs (i + 1)) (xs (i + 2)) (xs (i + 3)) (xs (i + 4)) (xs (i + 5)) τ1 = some (r, τ2)) (hm : mxA τ2 m = some (.inl 12)) (ho : mxA τ2 o = some (.inr (1, 1))) (ht : mxI τ2 m 0 = k) (hv : k = 0 → mxL τ2 o 0 = r.toInt64) : f_L_law_D220_23 P L xs b x m o (q_n i) τ = some (.inl (q_n (i + 7), τ2)) := by
  have e1 : mt_x L xs (q_n i + (1 : Int32)) = some (xs (i + 1)) := mt_xn (j := 1) hL (by omega); have e2 : mt_x L xs (q_n i + (2 : Int32)) = some (xs (i + 2)) := mt_xn (j := 2) hL (by omega); have e3 : mt_x L xs (q_n i + (3 : Int32)) = some (xs (i + 3)) := mt_xn (j := 3) hL (by omega); have e4 : mt_x L xs (q_n i + (4 : Int32)) = some (xs (i + 4)) := mt_xn (j := 4) hL (by omega); have e5 : mt_x L xs (q_n i + (5 : Int32)) = some (xs (i + 5)) := mt_xn (j := 5) hL (by omega)
  unfold f_L_law_D220_23 f_L_law_D321_23
  simp only [e1, e2, e3, e4, e5, Option.bind_some, hl, q_b2, q_is hm1, hr, q_is hm, k_thrown hm, ht, if_true, lw_rest]
  by_cases hk : k = 0
  · rw [if_pos hk, q_o0 ho, hv hk, Option.bind_some, if_pos (q_cmp0.mpr rfl)]
  · rw [if_neg hk]
theorem hr_feed {r : Int32} {a1 : Int32} {a2 : Int32} {a3 : Int32} {a4 : Int32} {a5 : Int32} (hx : mxA τ x = some (.inl 11)) (hc : f_X11_feed P x a1 a2 a3 a4 a5 τ = some (.inr (r, τ1))) (ho : mxA τ1 o = some (.inr (1, 1))) (hob : mpb P ≤ o) : f_L_feed P x a1 a2 a3 a4 a5 o τ = some (0, mx_setL τ1 o 0 r.toInt64) := by
  unfold f_L_feed
  rw [q_is hx, Option.bind_some, hc, q_try_r, show (0 : Int32) = q_n 0 from rfl, q_sLn ho (by omega) (by omega) hob]; rfl
theorem ht_feed1 {a1 : Int32} {a2 : Int32} {a3 : Int32} {a4 : Int32} {a5 : Int32} (hx : mxA τ x = some (.inl 11)) (hc : f_X11_feed P x a1 a2 a3 a4 a5 τ = some (.inl ("java/lang/IndexOutOfBoundsException", τ1))) : f_L_feed P x a1 a2 a3 a4 a5 o τ = some (1, τ1) := by
  unfold f_L_feed
  rw [q_is hx, Option.bind_some, hc, q_try_l]; rfl
theorem lw_end {r : Int32} (hL : L < 2147483648) (hi : i + 7 ≤ L) (hl : f_L_end P x (xs (i + 1)) o τ = some (k, τ1)) (hm1 : mxA τ1 m = some (.inl 12)) (hr : f_X12_end P m (xs (i + 1)) τ1 = some (r, τ2)) (hm : mxA τ2 m = some (.inl 12)) (ho : mxA τ2 o = some (.inr (1, 1))) (ht : mxI τ2 m 0 = k) (hv : k = 0 → mxL τ2 o 0 = r.toInt64) : f_L_law_D324_23 P L xs b x m o (q_n i) τ = some (.inl (q_n (i + 7), τ2)) := by
  have e1 : mt_x L xs (q_n i + (1 : Int32)) = some (xs (i + 1)) := mt_xn (j := 1) hL (by omega)
  unfold f_L_law_D324_23 f_L_law_D377_23
  simp only [e1, Option.bind_some, hl, q_b2, q_is hm1, hr, q_is hm, k_thrown hm, ht, if_true, lw_rest]
  by_cases hk : k = 0
  · rw [if_pos hk, q_o0 ho, hv hk, Option.bind_some, if_pos (q_cmp0.mpr rfl)]
  · rw [if_neg hk]
theorem hr_end {r : Int32} {a1 : Int32} (hx : mxA τ x = some (.inl 11)) (hc : f_X11_end P x a1 τ = some (.inr (r, τ1))) (ho : mxA τ1 o = some (.inr (1, 1))) (hob : mpb P ≤ o) : f_L_end P x a1 o τ = some (0, mx_setL τ1 o 0 r.toInt64) := by
  unfold f_L_end
  rw [q_is hx, Option.bind_some, hc, q_try_r, show (0 : Int32) = q_n 0 from rfl, q_sLn ho (by omega) (by omega) hob]; rfl
theorem ht_end1 {a1 : Int32} (hx : mxA τ x = some (.inl 11)) (hc : f_X11_end P x a1 τ = some (.inl ("java/lang/IllegalArgumentException", τ1))) : f_L_end P x a1 o τ = some (1, τ1) := by
  unfold f_L_end
  rw [q_is hx, Option.bind_some, hc, q_try_l]; rfl
theorem lw_fault {r : Int32} (hL : L < 2147483648) (hi : i + 7 ≤ L) (hx : mxA τ x = some (.inl 11)) (hl : f_X11_fault P x (xs (i + 1)) τ = some (r, τ1)) (hm1 : mxA τ1 m = some (.inl 12)) (hr : f_X12_fault P m (xs (i + 1)) τ1 = some (r, τ2)) : f_L_law_D380_23 P L xs b x m o (q_n i) τ = some (.inl (q_n (i + 7), τ2)) := by
  have e1 : mt_x L xs (q_n i + (1 : Int32)) = some (xs (i + 1)) := mt_xn (j := 1) hL (by omega)
  unfold f_L_law_D380_23
  simp only [e1, Option.bind_some, q_is hx, hl, q_b2, q_is hm1, hr, if_true, lw_rest]
theorem lw_linkage {r : Int32} (hL : L < 2147483648) (hi : i + 7 ≤ L) (hl : f_L_linkage P x  o τ = some (k, τ1)) (hm1 : mxA τ1 m = some (.inl 12)) (hr : f_X12_linkage P m  τ1 = some (r, τ2)) (hm : mxA τ2 m = some (.inl 12)) (ho : mxA τ2 o = some (.inr (1, 1))) (ht : mxI τ2 m 0 = k) (hv : k = 0 → mxL τ2 o 0 = r.toInt64) : f_L_law_D405_23 P L xs b x m o (q_n i) τ = some (.inl (q_n (i + 7), τ2)) := by
  unfold f_L_law_D405_23 f_L_law_D446_23
  simp only [Option.bind_some, hl, q_b2, q_is hm1, hr, q_is hm, k_thrown hm, ht, if_true, lw_rest]
  by_cases hk : k = 0
  · rw [if_pos hk, q_o0 ho, hv hk, Option.bind_some, if_pos (q_cmp0.mpr rfl)]
  · rw [if_neg hk]
theorem hr_linkage {r : Int32} (hx : mxA τ x = some (.inl 11)) (hc : f_X11_linkage P x  τ = some (.inr (r, τ1))) (ho : mxA τ1 o = some (.inr (1, 1))) (hob : mpb P ≤ o) : f_L_linkage P x  o τ = some (0, mx_setL τ1 o 0 r.toInt64) := by
  unfold f_L_linkage
  rw [q_is hx, Option.bind_some, hc, q_try_r, show (0 : Int32) = q_n 0 from rfl, q_sLn ho (by omega) (by omega) hob]; rfl
theorem ht_linkage1 (hx : mxA τ x = some (.inl 11)) (hc : f_X11_linkage P x  τ = some (.inl ("java/lang/UnsupportedOperationException", τ1))) : f_L_linkage P x  o τ = some (1, τ1) := by
  unfold f_L_linkage
  rw [q_is hx, Option.bind_some, hc, q_try_l]; rfl
theorem lw_point {r : Int32} (hL : L < 2147483648) (hi : i + 7 ≤ L) (hx : mxA τ x = some (.inl 11)) (hl : f_X11_point P x  τ = some (r, τ1)) (hm1 : mxA τ1 m = some (.inl 12)) (hr : f_X12_point P m  τ1 = some (r, τ2)) : f_L_law_D449_23 P L xs b x m o (q_n i) τ = some (.inl (q_n (i + 7), τ2)) := by
  unfold f_L_law_D449_23
  simp only [Option.bind_some, q_is hx, hl, q_b2, q_is hm1, hr, if_true, lw_rest]
theorem lw_input (hL : L < 2147483648) (hi : i + 7 ≤ L) (hl : f_L_input P x (xs (i + 1)) (xs (i + 2)) τ = some (k, τ1)) (hm1 : mxA τ1 m = some (.inl 12)) (hr : f_X12_input P m (xs (i + 1)) (xs (i + 2)) τ1 = some τ2) (hm : mxA τ2 m = some (.inl 12)) (ht : mxI τ2 m 0 = k) : f_L_law_D462_23 P L xs b x m o (q_n i) τ = some (.inl (q_n (i + 7), τ2)) := by
  have e1 : mt_x L xs (q_n i + (1 : Int32)) = some (xs (i + 1)) := mt_xn (j := 1) hL (by omega); have e2 : mt_x L xs (q_n i + (2 : Int32)) = some (xs (i + 2)) := mt_xn (j := 2) hL (by omega)
  unfold f_L_law_D462_23
  simp only [e1, e2, Option.bind_some, hl, q_b2, q_is hm1, hr, q_is hm, k_thrown hm, ht, if_true, lw_rest]
theorem hr_input {a1 : Int32} {a2 : Int32} (hx : mxA τ x = some (.inl 11)) (hc : f_X11_input P x a1 a2 τ = some (.inr τ1)) : f_L_input P x a1 a2 τ = some (0, τ1) := by
  unfold f_L_input
  rw [q_is hx, Option.bind_some, hc, q_try0_r]
theorem ht_input1 {a1 : Int32} {a2 : Int32} (hx : mxA τ x = some (.inl 11)) (hc : f_X11_input P x a1 a2 τ = some (.inl ("java/lang/IllegalArgumentException", τ1))) : f_L_input P x a1 a2 τ = some (1, τ1) := by
  unfold f_L_input
  rw [q_is hx, Option.bind_some, hc, q_try0_l]; rfl
theorem lw_ways {r : Int32} (hL : L < 2147483648) (hi : i + 7 ≤ L) (hx : mxA τ x = some (.inl 11)) (hl : f_X11_ways P x  τ = some (r, τ1)) (hm1 : mxA τ1 m = some (.inl 12)) (hr : f_X12_ways P m  τ1 = some (r, τ2)) : f_L_law_D510_23 P L xs b x m o (q_n i) τ = some (.inl (q_n (i + 7), τ2)) := by
  unfold f_L_law_D510_23
  simp only [Option.bind_some, q_is hx, hl, q_b2, q_is hm1, hr, if_true, lw_rest]
theorem lw_way {r : Int32} (hL : L < 2147483648) (hi : i + 7 ≤ L) (hl : f_L_way P x (xs (i + 1)) (xs (i + 2)) o τ = some (k, τ1)) (hm1 : mxA τ1 m = some (.inl 12)) (hr : f_X12_way P m (xs (i + 1)) (xs (i + 2)) τ1 = some (r, τ2)) (hm : mxA τ2 m = some (.inl 12)) (ho : mxA τ2 o = some (.inr (1, 1))) (ht : mxI τ2 m 0 = k) (hv : k = 0 → mxL τ2 o 0 = r.toInt64) : f_L_law_D523_23 P L xs b x m o (q_n i) τ = some (.inl (q_n (i + 7), τ2)) := by
  have e1 : mt_x L xs (q_n i + (1 : Int32)) = some (xs (i + 1)) := mt_xn (j := 1) hL (by omega); have e2 : mt_x L xs (q_n i + (2 : Int32)) = some (xs (i + 2)) := mt_xn (j := 2) hL (by omega)
  unfold f_L_law_D523_23 f_L_law_D588_23
  simp only [e1, e2, Option.bind_some, hl, q_b2, q_is hm1, hr, q_is hm, k_thrown hm, ht, if_true, lw_rest]
  by_cases hk : k = 0
  · rw [if_pos hk, q_o0 ho, hv hk, Option.bind_some, if_pos (q_cmp0.mpr rfl)]
  · rw [if_neg hk]
theorem hr_way {r : Int32} {a1 : Int32} {a2 : Int32} (hx : mxA τ x = some (.inl 11)) (hc : f_X11_way P x a1 a2 τ = some (.inr (r, τ1))) (ho : mxA τ1 o = some (.inr (1, 1))) (hob : mpb P ≤ o) : f_L_way P x a1 a2 o τ = some (0, mx_setL τ1 o 0 r.toInt64) := by
  unfold f_L_way
  rw [q_is hx, Option.bind_some, hc, q_try_r, show (0 : Int32) = q_n 0 from rfl, q_sLn ho (by omega) (by omega) hob]; rfl
theorem ht_way1 {a1 : Int32} {a2 : Int32} (hx : mxA τ x = some (.inl 11)) (hc : f_X11_way P x a1 a2 τ = some (.inl ("java/lang/IllegalArgumentException", τ1))) : f_L_way P x a1 a2 o τ = some (1, τ1) := by
  unfold f_L_way
  rw [q_is hx, Option.bind_some, hc, q_try_l]; rfl
theorem ht_way2 {a1 : Int32} {a2 : Int32} (hx : mxA τ x = some (.inl 11)) (hc : f_X11_way P x a1 a2 τ = some (.inl ("java/util/NoSuchElementException", τ1))) : f_L_way P x a1 a2 o τ = some (2, τ1) := by
  unfold f_L_way
  rw [q_is hx, Option.bind_some, hc, q_try_l]; rfl
theorem lw_at {r : Int64} (hL : L < 2147483648) (hi : i + 7 ≤ L) (hl : f_L_at P x (xs (i + 1)) (xs (i + 2)) (xs (i + 3)) (xs (i + 4)) o τ = some (k, τ1)) (hm1 : mxA τ1 m = some (.inl 12)) (hr : f_X12_at P m (xs (i + 1)) (xs (i + 2)) (xs (i + 3)) (xs (i + 4)) τ1 = some (r, τ2)) (hm : mxA τ2 m = some (.inl 12)) (ho : mxA τ2 o = some (.inr (1, 1))) (ht : mxI τ2 m 0 = k) (hv : k = 0 → mxL τ2 o 0 = r) : f_L_law_D591_23 P L xs b x m o (q_n i) τ = some (.inl (q_n (i + 7), τ2)) := by
  have e1 : mt_x L xs (q_n i + (1 : Int32)) = some (xs (i + 1)) := mt_xn (j := 1) hL (by omega); have e2 : mt_x L xs (q_n i + (2 : Int32)) = some (xs (i + 2)) := mt_xn (j := 2) hL (by omega); have e3 : mt_x L xs (q_n i + (3 : Int32)) = some (xs (i + 3)) := mt_xn (j := 3) hL (by omega); have e4 : mt_x L xs (q_n i + (4 : Int32)) = some (xs (i + 4)) := mt_xn (j := 4) hL (by omega)
  unfold f_L_law_D591_23 f_L_law_D679_23
  simp only [e1, e2, e3, e4, Option.bind_some, hl, q_b2, q_is hm1, hr, q_is hm, k_thrown hm, ht, if_true, lw_rest]
  by_cases hk : k = 0
  · rw [if_pos hk, q_o0 ho, hv hk, Option.bind_some, if_pos (q_cmp0.mpr rfl)]
  · rw [if_neg hk]
theorem hr_at {r : Int64} {a1 : Int32} {a2 : Int32} {a3 : Int32} {a4 : Int32} (hx : mxA τ x = some (.inl 11)) (hc : f_X11_at P x a1 a2 a3 a4 τ = some (.inr (r, τ1))) (ho : mxA τ1 o = some (.inr (1, 1))) (hob : mpb P ≤ o) : f_L_at P x a1 a2 a3 a4 o τ = some (0, mx_setL τ1 o 0 r) := by
  unfold f_L_at
  rw [q_is hx, Option.bind_some, hc, q_try_r, show (0 : Int32) = q_n 0 from rfl, q_sLn ho (by omega) (by omega) hob]; rfl
theorem ht_at1 {a1 : Int32} {a2 : Int32} {a3 : Int32} {a4 : Int32} (hx : mxA τ x = some (.inl 11)) (hc : f_X11_at P x a1 a2 a3 a4 τ = some (.inl ("java/lang/IllegalArgumentException", τ1))) : f_L_at P x a1 a2 a3 a4 o τ = some (1, τ1) := by
  unfold f_L_at
  rw [q_is hx, Option.bind_some, hc, q_try_l]; rfl
theorem ht_at2 {a1 : Int32} {a2 : Int32} {a3 : Int32} {a4 : Int32} (hx : mxA τ x = some (.inl 11)) (hc : f_X11_at P x a1 a2 a3 a4 τ = some (.inl ("java/util/NoSuchElementException", τ1))) : f_L_at P x a1 a2 a3 a4 o τ = some (2, τ1) := by
  unfold f_L_at
  rw [q_is hx, Option.bind_some, hc, q_try_l]; rfl
theorem lw_step {r : Int32} (hL : L < 2147483648) (hi : i + 7 ≤ L) (hl : f_L_step P x (xs (i + 1)) (xs (i + 2)) (xs (i + 3)) o τ = some (k, τ1)) (hm1 : mxA τ1 m = some (.inl 12)) (hr : f_X12_step P m (xs (i + 1)) (xs (i + 2)) (xs (i + 3)) τ1 = some (r, τ2)) (hm : mxA τ2 m = some (.inl 12)) (ho : mxA τ2 o = some (.inr (1, 1))) (ht : mxI τ2 m 0 = k) (hv : k = 0 → mxL τ2 o 0 = r.toInt64) : f_L_law_D682_23 P L xs b x m o (q_n i) τ = some (.inl (q_n (i + 7), τ2)) := by
  have e1 : mt_x L xs (q_n i + (1 : Int32)) = some (xs (i + 1)) := mt_xn (j := 1) hL (by omega); have e2 : mt_x L xs (q_n i + (2 : Int32)) = some (xs (i + 2)) := mt_xn (j := 2) hL (by omega); have e3 : mt_x L xs (q_n i + (3 : Int32)) = some (xs (i + 3)) := mt_xn (j := 3) hL (by omega)
  unfold f_L_law_D682_23 f_L_law_D759_23
  simp only [e1, e2, e3, Option.bind_some, hl, q_b2, q_is hm1, hr, q_is hm, k_thrown hm, ht, if_true, lw_rest]
  by_cases hk : k = 0
  · rw [if_pos hk, q_o0 ho, hv hk, Option.bind_some, if_pos (q_cmp0.mpr rfl)]
  · rw [if_neg hk]
theorem hr_step {r : Int32} {a1 : Int32} {a2 : Int32} {a3 : Int32} (hx : mxA τ x = some (.inl 11)) (hc : f_X11_step P x a1 a2 a3 τ = some (.inr (r, τ1))) (ho : mxA τ1 o = some (.inr (1, 1))) (hob : mpb P ≤ o) : f_L_step P x a1 a2 a3 o τ = some (0, mx_setL τ1 o 0 r.toInt64) := by
  unfold f_L_step
  rw [q_is hx, Option.bind_some, hc, q_try_r, show (0 : Int32) = q_n 0 from rfl, q_sLn ho (by omega) (by omega) hob]; rfl
theorem ht_step1 {a1 : Int32} {a2 : Int32} {a3 : Int32} (hx : mxA τ x = some (.inl 11)) (hc : f_X11_step P x a1 a2 a3 τ = some (.inl ("java/lang/IllegalArgumentException", τ1))) : f_L_step P x a1 a2 a3 o τ = some (1, τ1) := by
  unfold f_L_step
  rw [q_is hx, Option.bind_some, hc, q_try_l]; rfl
theorem ht_step2 {a1 : Int32} {a2 : Int32} {a3 : Int32} (hx : mxA τ x = some (.inl 11)) (hc : f_X11_step P x a1 a2 a3 τ = some (.inl ("java/lang/IllegalStateException", τ1))) : f_L_step P x a1 a2 a3 o τ = some (2, τ1) := by
  unfold f_L_step
  rw [q_is hx, Option.bind_some, hc, q_try_l]; rfl
theorem lw_range {r : Int32} (hL : L < 2147483648) (hi : i + 7 ≤ L) (hl : f_L_range P x (xs (i + 1)) (xs (i + 2)) (xs (i + 3)) o τ = some (k, τ1)) (hm1 : mxA τ1 m = some (.inl 12)) (hr : f_X12_range P m (xs (i + 1)) (xs (i + 2)) (xs (i + 3)) τ1 = some (r, τ2)) (hm : mxA τ2 m = some (.inl 12)) (ho : mxA τ2 o = some (.inr (1, 1))) (ht : mxI τ2 m 0 = k) (hv : k = 0 → mxL τ2 o 0 = r.toInt64) : f_L_law_D762_23 P L xs b x m o (q_n i) τ = some (.inl (q_n (i + 7), τ2)) := by
  have e1 : mt_x L xs (q_n i + (1 : Int32)) = some (xs (i + 1)) := mt_xn (j := 1) hL (by omega); have e2 : mt_x L xs (q_n i + (2 : Int32)) = some (xs (i + 2)) := mt_xn (j := 2) hL (by omega); have e3 : mt_x L xs (q_n i + (3 : Int32)) = some (xs (i + 3)) := mt_xn (j := 3) hL (by omega)
  unfold f_L_law_D762_23 f_L_law_D839_23
  simp only [e1, e2, e3, Option.bind_some, hl, q_b2, q_is hm1, hr, q_is hm, k_thrown hm, ht, if_true, lw_rest]
  by_cases hk : k = 0
  · rw [if_pos hk, q_o0 ho, hv hk, Option.bind_some, if_pos (q_cmp0.mpr rfl)]
  · rw [if_neg hk]
theorem hr_range {r : Int32} {a1 : Int32} {a2 : Int32} {a3 : Int32} (hx : mxA τ x = some (.inl 11)) (hc : f_X11_range P x a1 a2 a3 τ = some (.inr (r, τ1))) (ho : mxA τ1 o = some (.inr (1, 1))) (hob : mpb P ≤ o) : f_L_range P x a1 a2 a3 o τ = some (0, mx_setL τ1 o 0 r.toInt64) := by
  unfold f_L_range
  rw [q_is hx, Option.bind_some, hc, q_try_r, show (0 : Int32) = q_n 0 from rfl, q_sLn ho (by omega) (by omega) hob]; rfl
theorem ht_range1 {a1 : Int32} {a2 : Int32} {a3 : Int32} (hx : mxA τ x = some (.inl 11)) (hc : f_X11_range P x a1 a2 a3 τ = some (.inl ("java/lang/IllegalArgumentException", τ1))) : f_L_range P x a1 a2 a3 o τ = some (1, τ1) := by
  unfold f_L_range
  rw [q_is hx, Option.bind_some, hc, q_try_l]; rfl
theorem lw_spread {r : Int64} (hL : L < 2147483648) (hi : i + 7 ≤ L) (hl : f_L_spread P x (xs (i + 1)) (xs (i + 2)) (xs (i + 3)) (xs (i + 4)) (xs (i + 5)) o τ = some (k, τ1)) (hm1 : mxA τ1 m = some (.inl 12)) (hr : f_X12_spread P m (xs (i + 1)) (xs (i + 2)) (xs (i + 3)) (xs (i + 4)) (xs (i + 5)) τ1 = some (r, τ2)) (hm : mxA τ2 m = some (.inl 12)) (ho : mxA τ2 o = some (.inr (1, 1))) (ht : mxI τ2 m 0 = k) (hv : k = 0 → mxL τ2 o 0 = r) : f_L_law_D842_23 P L xs b x m o (q_n i) τ = some (.inl (q_n (i + 7), τ2)) := by
  have e1 : mt_x L xs (q_n i + (1 : Int32)) = some (xs (i + 1)) := mt_xn (j := 1) hL (by omega); have e2 : mt_x L xs (q_n i + (2 : Int32)) = some (xs (i + 2)) := mt_xn (j := 2) hL (by omega); have e3 : mt_x L xs (q_n i + (3 : Int32)) = some (xs (i + 3)) := mt_xn (j := 3) hL (by omega); have e4 : mt_x L xs (q_n i + (4 : Int32)) = some (xs (i + 4)) := mt_xn (j := 4) hL (by omega); have e5 : mt_x L xs (q_n i + (5 : Int32)) = some (xs (i + 5)) := mt_xn (j := 5) hL (by omega)
  unfold f_L_law_D842_23 f_L_law_D942_23
  simp only [e1, e2, e3, e4, e5, Option.bind_some, hl, q_b2, q_is hm1, hr, q_is hm, k_thrown hm, ht, if_true, lw_rest]
  by_cases hk : k = 0
  · rw [if_pos hk, q_o0 ho, hv hk, Option.bind_some, if_pos (q_cmp0.mpr rfl)]
  · rw [if_neg hk]
theorem hr_spread {r : Int64} {a1 : Int32} {a2 : Int32} {a3 : Int32} {a4 : Int32} {a5 : Int32} (hx : mxA τ x = some (.inl 11)) (hc : f_X11_spread P x a1 a2 a3 a4 a5 τ = some (.inr (r, τ1))) (ho : mxA τ1 o = some (.inr (1, 1))) (hob : mpb P ≤ o) : f_L_spread P x a1 a2 a3 a4 a5 o τ = some (0, mx_setL τ1 o 0 r) := by
  unfold f_L_spread
  rw [q_is hx, Option.bind_some, hc, q_try_r, show (0 : Int32) = q_n 0 from rfl, q_sLn ho (by omega) (by omega) hob]; rfl
theorem ht_spread1 {a1 : Int32} {a2 : Int32} {a3 : Int32} {a4 : Int32} {a5 : Int32} (hx : mxA τ x = some (.inl 11)) (hc : f_X11_spread P x a1 a2 a3 a4 a5 τ = some (.inl ("java/lang/IllegalArgumentException", τ1))) : f_L_spread P x a1 a2 a3 a4 a5 o τ = some (1, τ1) := by
  unfold f_L_spread
  rw [q_is hx, Option.bind_some, hc, q_try_l]; rfl
theorem ht_spread2 {a1 : Int32} {a2 : Int32} {a3 : Int32} {a4 : Int32} {a5 : Int32} (hx : mxA τ x = some (.inl 11)) (hc : f_X11_spread P x a1 a2 a3 a4 a5 τ = some (.inl ("java/util/NoSuchElementException", τ1))) : f_L_spread P x a1 a2 a3 a4 a5 o τ = some (2, τ1) := by
  unfold f_L_spread
  rw [q_is hx, Option.bind_some, hc, q_try_l]; rfl
theorem lw_least {r : Int64} (hL : L < 2147483648) (hi : i + 7 ≤ L) (hl : f_L_least P x (xs (i + 1)) (xs (i + 2)) (xs (i + 3)) (xs (i + 4)) (xs (i + 5)) o τ = some (k, τ1)) (hm1 : mxA τ1 m = some (.inl 12)) (hr : f_X12_least P m (xs (i + 1)) (xs (i + 2)) (xs (i + 3)) (xs (i + 4)) (xs (i + 5)) τ1 = some (r, τ2)) (hm : mxA τ2 m = some (.inl 12)) (ho : mxA τ2 o = some (.inr (1, 1))) (ht : mxI τ2 m 0 = k) (hv : k = 0 → mxL τ2 o 0 = r) : f_L_law_D945_23 P L xs b x m o (q_n i) τ = some (.inl (q_n (i + 7), τ2)) := by
  have e1 : mt_x L xs (q_n i + (1 : Int32)) = some (xs (i + 1)) := mt_xn (j := 1) hL (by omega); have e2 : mt_x L xs (q_n i + (2 : Int32)) = some (xs (i + 2)) := mt_xn (j := 2) hL (by omega); have e3 : mt_x L xs (q_n i + (3 : Int32)) = some (xs (i + 3)) := mt_xn (j := 3) hL (by omega); have e4 : mt_x L xs (q_n i + (4 : Int32)) = some (xs (i + 4)) := mt_xn (j := 4) hL (by omega); have e5 : mt_x L xs (q_n i + (5 : Int32)) = some (xs (i + 5)) := mt_xn (j := 5) hL (by omega)
  unfold f_L_law_D945_23 f_L_law_D1045_23
  simp only [e1, e2, e3, e4, e5, Option.bind_some, hl, q_b2, q_is hm1, hr, q_is hm, k_thrown hm, ht, if_true, lw_rest]
  by_cases hk : k = 0
  · rw [if_pos hk, q_o0 ho, hv hk, Option.bind_some, if_pos (q_cmp0.mpr rfl)]
  · rw [if_neg hk]
theorem hr_least {r : Int64} {a1 : Int32} {a2 : Int32} {a3 : Int32} {a4 : Int32} {a5 : Int32} (hx : mxA τ x = some (.inl 11)) (hc : f_X11_least P x a1 a2 a3 a4 a5 τ = some (.inr (r, τ1))) (ho : mxA τ1 o = some (.inr (1, 1))) (hob : mpb P ≤ o) : f_L_least P x a1 a2 a3 a4 a5 o τ = some (0, mx_setL τ1 o 0 r) := by
  unfold f_L_least
  rw [q_is hx, Option.bind_some, hc, q_try_r, show (0 : Int32) = q_n 0 from rfl, q_sLn ho (by omega) (by omega) hob]; rfl
theorem ht_least1 {a1 : Int32} {a2 : Int32} {a3 : Int32} {a4 : Int32} {a5 : Int32} (hx : mxA τ x = some (.inl 11)) (hc : f_X11_least P x a1 a2 a3 a4 a5 τ = some (.inl ("java/lang/IllegalArgumentException", τ1))) : f_L_least P x a1 a2 a3 a4 a5 o τ = some (1, τ1) := by
  unfold f_L_least
  rw [q_is hx, Option.bind_some, hc, q_try_l]; rfl
theorem ht_least2 {a1 : Int32} {a2 : Int32} {a3 : Int32} {a4 : Int32} {a5 : Int32} (hx : mxA τ x = some (.inl 11)) (hc : f_X11_least P x a1 a2 a3 a4 a5 τ = some (.inl ("java/util/NoSuchElementException", τ1))) : f_L_least P x a1 a2 a3 a4 a5 o τ = some (2, τ1) := by
  unfold f_L_least
  rw [q_is hx, Option.bind_some, hc, q_try_l]; rfl
theorem lw_speed {r : Int64} (hL : L < 2147483648) (hi : i + 7 ≤ L) (hl : f_L_speed P x (xs (i + 1)) (xs (i + 2)) (xs (i + 3)) (xs (i + 4)) (xs (i + 5)) o τ = some (k, τ1)) (hm1 : mxA τ1 m = some (.inl 12)) (hr : f_X12_speed P m (xs (i + 1)) (xs (i + 2)) (xs (i + 3)) (xs (i + 4)) (xs (i + 5)) τ1 = some (r, τ2)) (hm : mxA τ2 m = some (.inl 12)) (ho : mxA τ2 o = some (.inr (1, 1))) (ht : mxI τ2 m 0 = k) (hv : k = 0 → mxL τ2 o 0 = r) : f_L_law_D1048_23 P L xs b x m o (q_n i) τ = some (.inl (q_n (i + 7), τ2)) := by
  have e1 : mt_x L xs (q_n i + (1 : Int32)) = some (xs (i + 1)) := mt_xn (j := 1) hL (by omega); have e2 : mt_x L xs (q_n i + (2 : Int32)) = some (xs (i + 2)) := mt_xn (j := 2) hL (by omega); have e3 : mt_x L xs (q_n i + (3 : Int32)) = some (xs (i + 3)) := mt_xn (j := 3) hL (by omega); have e4 : mt_x L xs (q_n i + (4 : Int32)) = some (xs (i + 4)) := mt_xn (j := 4) hL (by omega); have e5 : mt_x L xs (q_n i + (5 : Int32)) = some (xs (i + 5)) := mt_xn (j := 5) hL (by omega)
  unfold f_L_law_D1048_23 f_L_law_D1148_23
  simp only [e1, e2, e3, e4, e5, Option.bind_some, hl, q_b2, q_is hm1, hr, q_is hm, k_thrown hm, ht, if_true, lw_rest]
  by_cases hk : k = 0
  · rw [if_pos hk, q_o0 ho, hv hk, Option.bind_some, if_pos (q_cmp0.mpr rfl)]
  · rw [if_neg hk]
theorem hr_speed {r : Int64} {a1 : Int32} {a2 : Int32} {a3 : Int32} {a4 : Int32} {a5 : Int32} (hx : mxA τ x = some (.inl 11)) (hc : f_X11_speed P x a1 a2 a3 a4 a5 τ = some (.inr (r, τ1))) (ho : mxA τ1 o = some (.inr (1, 1))) (hob : mpb P ≤ o) : f_L_speed P x a1 a2 a3 a4 a5 o τ = some (0, mx_setL τ1 o 0 r) := by
  unfold f_L_speed
  rw [q_is hx, Option.bind_some, hc, q_try_r, show (0 : Int32) = q_n 0 from rfl, q_sLn ho (by omega) (by omega) hob]; rfl
theorem ht_speed1 {a1 : Int32} {a2 : Int32} {a3 : Int32} {a4 : Int32} {a5 : Int32} (hx : mxA τ x = some (.inl 11)) (hc : f_X11_speed P x a1 a2 a3 a4 a5 τ = some (.inl ("java/lang/IllegalArgumentException", τ1))) : f_L_speed P x a1 a2 a3 a4 a5 o τ = some (1, τ1) := by
  unfold f_L_speed
  rw [q_is hx, Option.bind_some, hc, q_try_l]; rfl
theorem ht_speed2 {a1 : Int32} {a2 : Int32} {a3 : Int32} {a4 : Int32} {a5 : Int32} (hx : mxA τ x = some (.inl 11)) (hc : f_X11_speed P x a1 a2 a3 a4 a5 τ = some (.inl ("java/util/NoSuchElementException", τ1))) : f_L_speed P x a1 a2 a3 a4 a5 o τ = some (2, τ1) := by
  unfold f_L_speed
  rw [q_is hx, Option.bind_some, hc, q_try_l]; rfl
theorem ht_speed3 {a1 : Int32} {a2 : Int32} {a3 : Int32} {a4 : Int32} {a5 : Int32} (hx : mxA τ x = some (.inl 11)) (hc : f_X11_speed P x a1 a2 a3 a4 a5 τ = some (.inl ("java/lang/IllegalStateException", τ1))) : f_L_speed P x a1 a2 a3 a4 a5 o τ = some (3, τ1) := by
  unfold f_L_speed
  rw [q_is hx, Option.bind_some, hc, q_try_l]; rfl
theorem lw_pole {r : Int64} (hL : L < 2147483648) (hi : i + 7 ≤ L) (hl : f_L_pole P x (xs (i + 1)) (xs (i + 2)) (xs (i + 3)) (xs (i + 4)) (xs (i + 5)) (xs (i + 6)) o τ = some (k, τ1)) (hm1 : mxA τ1 m = some (.inl 12)) (hr : f_X12_pole P m (xs (i + 1)) (xs (i + 2)) (xs (i + 3)) (xs (i + 4)) (xs (i + 5)) (xs (i + 6)) τ1 = some (r, τ2)) (hm : mxA τ2 m = some (.inl 12)) (ho : mxA τ2 o = some (.inr (1, 1))) (ht : mxI τ2 m 0 = k) (hv : k = 0 → mxL τ2 o 0 = r) : f_L_law_D1151_23 P L xs b x m o (q_n i) τ = some (.inl (q_n (i + 7), τ2)) := by
  have e1 : mt_x L xs (q_n i + (1 : Int32)) = some (xs (i + 1)) := mt_xn (j := 1) hL (by omega); have e2 : mt_x L xs (q_n i + (2 : Int32)) = some (xs (i + 2)) := mt_xn (j := 2) hL (by omega); have e3 : mt_x L xs (q_n i + (3 : Int32)) = some (xs (i + 3)) := mt_xn (j := 3) hL (by omega); have e4 : mt_x L xs (q_n i + (4 : Int32)) = some (xs (i + 4)) := mt_xn (j := 4) hL (by omega); have e5 : mt_x L xs (q_n i + (5 : Int32)) = some (xs (i + 5)) := mt_xn (j := 5) hL (by omega); have e6 : mt_x L xs (q_n i + (6 : Int32)) = some (xs (i + 6)) := mt_xn (j := 6) hL (by omega)
  unfold f_L_law_D1151_23 f_L_law_D1265_23
  simp only [e1, e2, e3, e4, e5, e6, Option.bind_some, hl, q_b2, q_is hm1, hr, q_is hm, k_thrown hm, ht, if_true, lw_rest]
  by_cases hk : k = 0
  · rw [if_pos hk, q_o0 ho, hv hk, Option.bind_some, if_pos (q_cmp0.mpr rfl)]
  · rw [if_neg hk]
theorem hr_pole {r : Int64} {a1 : Int32} {a2 : Int32} {a3 : Int32} {a4 : Int32} {a5 : Int32} {a6 : Int32} (hx : mxA τ x = some (.inl 11)) (hc : f_X11_pole P x a1 a2 a3 a4 a5 a6 τ = some (.inr (r, τ1))) (ho : mxA τ1 o = some (.inr (1, 1))) (hob : mpb P ≤ o) : f_L_pole P x a1 a2 a3 a4 a5 a6 o τ = some (0, mx_setL τ1 o 0 r) := by
  unfold f_L_pole
  rw [q_is hx, Option.bind_some, hc, q_try_r, show (0 : Int32) = q_n 0 from rfl, q_sLn ho (by omega) (by omega) hob]; rfl
theorem ht_pole1 {a1 : Int32} {a2 : Int32} {a3 : Int32} {a4 : Int32} {a5 : Int32} {a6 : Int32} (hx : mxA τ x = some (.inl 11)) (hc : f_X11_pole P x a1 a2 a3 a4 a5 a6 τ = some (.inl ("java/lang/IllegalArgumentException", τ1))) : f_L_pole P x a1 a2 a3 a4 a5 a6 o τ = some (1, τ1) := by
  unfold f_L_pole
  rw [q_is hx, Option.bind_some, hc, q_try_l]; rfl
theorem ht_pole2 {a1 : Int32} {a2 : Int32} {a3 : Int32} {a4 : Int32} {a5 : Int32} {a6 : Int32} (hx : mxA τ x = some (.inl 11)) (hc : f_X11_pole P x a1 a2 a3 a4 a5 a6 τ = some (.inl ("java/util/NoSuchElementException", τ1))) : f_L_pole P x a1 a2 a3 a4 a5 a6 o τ = some (2, τ1) := by
  unfold f_L_pole
  rw [q_is hx, Option.bind_some, hc, q_try_l]; rfl
theorem ht_pole3 {a1 : Int32} {a2 : Int32} {a3 : Int32} {a4 : Int32} {a5 : Int32} {a6 : Int32} (hx : mxA τ x = some (.inl 11)) (hc : f_X11_pole P x a1 a2 a3 a4 a5 a6 τ = some (.inl ("java/lang/IllegalStateException", τ1))) : f_L_pole P x a1 a2 a3 a4 a5 a6 o τ = some (3, τ1) := by
  unfold f_L_pole
  rw [q_is hx, Option.bind_some, hc, q_try_l]; rfl
theorem lw_load (hL : L < 2147483648) (hi : i + 7 ≤ L) (hl : f_L_load P x (xs (i + 1)) (xs (i + 2)) (xs (i + 3)) τ = some (k, τ1)) (hm1 : mxA τ1 m = some (.inl 12)) (hr : f_X12_load P m (xs (i + 1)) (xs (i + 2)) (xs (i + 3)) τ1 = some τ2) (hm : mxA τ2 m = some (.inl 12)) (ht : mxI τ2 m 0 = k) : f_L_law_D1268_23 P L xs b x m o (q_n i) τ = some (.inl (q_n (i + 7), τ2)) := by
  have e1 : mt_x L xs (q_n i + (1 : Int32)) = some (xs (i + 1)) := mt_xn (j := 1) hL (by omega); have e2 : mt_x L xs (q_n i + (2 : Int32)) = some (xs (i + 2)) := mt_xn (j := 2) hL (by omega); have e3 : mt_x L xs (q_n i + (3 : Int32)) = some (xs (i + 3)) := mt_xn (j := 3) hL (by omega)
  unfold f_L_law_D1268_23
  simp only [e1, e2, e3, Option.bind_some, hl, q_b2, q_is hm1, hr, q_is hm, k_thrown hm, ht, if_true, lw_rest]
theorem hr_load {a1 : Int32} {a2 : Int32} {a3 : Int32} (hx : mxA τ x = some (.inl 11)) (hc : f_X11_load P x a1 a2 a3 τ = some (.inr τ1)) : f_L_load P x a1 a2 a3 τ = some (0, τ1) := by
  unfold f_L_load
  rw [q_is hx, Option.bind_some, hc, q_try0_r]
theorem ht_load1 {a1 : Int32} {a2 : Int32} {a3 : Int32} (hx : mxA τ x = some (.inl 11)) (hc : f_X11_load P x a1 a2 a3 τ = some (.inl ("java/lang/IllegalArgumentException", τ1))) : f_L_load P x a1 a2 a3 τ = some (1, τ1) := by
  unfold f_L_load
  rw [q_is hx, Option.bind_some, hc, q_try0_l]; rfl
theorem ht_load2 {a1 : Int32} {a2 : Int32} {a3 : Int32} (hx : mxA τ x = some (.inl 11)) (hc : f_X11_load P x a1 a2 a3 τ = some (.inl ("java/util/NoSuchElementException", τ1))) : f_L_load P x a1 a2 a3 τ = some (2, τ1) := by
  unfold f_L_load
  rw [q_is hx, Option.bind_some, hc, q_try0_l]; rfl
theorem lw_mass (hL : L < 2147483648) (hi : i + 7 ≤ L) (hl : f_L_mass P x (xs (i + 1)) (xs (i + 2)) τ = some (k, τ1)) (hm1 : mxA τ1 m = some (.inl 12)) (hr : f_X12_mass P m (xs (i + 1)) (xs (i + 2)) τ1 = some τ2) (hm : mxA τ2 m = some (.inl 12)) (ht : mxI τ2 m 0 = k) : f_L_law_D1328_23 P L xs b x m o (q_n i) τ = some (.inl (q_n (i + 7), τ2)) := by
  have e1 : mt_x L xs (q_n i + (1 : Int32)) = some (xs (i + 1)) := mt_xn (j := 1) hL (by omega); have e2 : mt_x L xs (q_n i + (2 : Int32)) = some (xs (i + 2)) := mt_xn (j := 2) hL (by omega)
  unfold f_L_law_D1328_23
  simp only [e1, e2, Option.bind_some, hl, q_b2, q_is hm1, hr, q_is hm, k_thrown hm, ht, if_true, lw_rest]
theorem hr_mass {a1 : Int32} {a2 : Int32} (hx : mxA τ x = some (.inl 11)) (hc : f_X11_mass P x a1 a2 τ = some (.inr τ1)) : f_L_mass P x a1 a2 τ = some (0, τ1) := by
  unfold f_L_mass
  rw [q_is hx, Option.bind_some, hc, q_try0_r]
theorem ht_mass1 {a1 : Int32} {a2 : Int32} (hx : mxA τ x = some (.inl 11)) (hc : f_X11_mass P x a1 a2 τ = some (.inl ("java/lang/IllegalArgumentException", τ1))) : f_L_mass P x a1 a2 τ = some (1, τ1) := by
  unfold f_L_mass
  rw [q_is hx, Option.bind_some, hc, q_try0_l]; rfl
theorem ht_mass2 {a1 : Int32} {a2 : Int32} (hx : mxA τ x = some (.inl 11)) (hc : f_X11_mass P x a1 a2 τ = some (.inl ("java/util/NoSuchElementException", τ1))) : f_L_mass P x a1 a2 τ = some (2, τ1) := by
  unfold f_L_mass
  rw [q_is hx, Option.bind_some, hc, q_try0_l]; rfl
theorem lw_moment {r : Int64} (hL : L < 2147483648) (hi : i + 7 ≤ L) (hl : f_L_moment P x (xs (i + 1)) (xs (i + 2)) (xs (i + 3)) o τ = some (k, τ1)) (hm1 : mxA τ1 m = some (.inl 12)) (hr : f_X12_moment P m (xs (i + 1)) (xs (i + 2)) (xs (i + 3)) τ1 = some (r, τ2)) (hm : mxA τ2 m = some (.inl 12)) (ho : mxA τ2 o = some (.inr (1, 1))) (ht : mxI τ2 m 0 = k) (hv : k = 0 → mxL τ2 o 0 = r) : f_L_law_D1376_23 P L xs b x m o (q_n i) τ = some (.inl (q_n (i + 7), τ2)) := by
  have e1 : mt_x L xs (q_n i + (1 : Int32)) = some (xs (i + 1)) := mt_xn (j := 1) hL (by omega); have e2 : mt_x L xs (q_n i + (2 : Int32)) = some (xs (i + 2)) := mt_xn (j := 2) hL (by omega); have e3 : mt_x L xs (q_n i + (3 : Int32)) = some (xs (i + 3)) := mt_xn (j := 3) hL (by omega)
  unfold f_L_law_D1376_23 f_L_law_D1452_23
  simp only [e1, e2, e3, Option.bind_some, hl, q_b2, q_is hm1, hr, q_is hm, k_thrown hm, ht, if_true, lw_rest]
  by_cases hk : k = 0
  · rw [if_pos hk, q_o0 ho, hv hk, Option.bind_some, if_pos (q_cmp0.mpr rfl)]
  · rw [if_neg hk]
theorem hr_moment {r : Int64} {a1 : Int32} {a2 : Int32} {a3 : Int32} (hx : mxA τ x = some (.inl 11)) (hc : f_X11_moment P x a1 a2 a3 τ = some (.inr (r, τ1))) (ho : mxA τ1 o = some (.inr (1, 1))) (hob : mpb P ≤ o) : f_L_moment P x a1 a2 a3 o τ = some (0, mx_setL τ1 o 0 r) := by
  unfold f_L_moment
  rw [q_is hx, Option.bind_some, hc, q_try_r, show (0 : Int32) = q_n 0 from rfl, q_sLn ho (by omega) (by omega) hob]; rfl
theorem ht_moment1 {a1 : Int32} {a2 : Int32} {a3 : Int32} (hx : mxA τ x = some (.inl 11)) (hc : f_X11_moment P x a1 a2 a3 τ = some (.inl ("java/lang/IllegalArgumentException", τ1))) : f_L_moment P x a1 a2 a3 o τ = some (1, τ1) := by
  unfold f_L_moment
  rw [q_is hx, Option.bind_some, hc, q_try_l]; rfl
theorem ht_moment2 {a1 : Int32} {a2 : Int32} {a3 : Int32} (hx : mxA τ x = some (.inl 11)) (hc : f_X11_moment P x a1 a2 a3 τ = some (.inl ("java/util/NoSuchElementException", τ1))) : f_L_moment P x a1 a2 a3 o τ = some (2, τ1) := by
  unfold f_L_moment
  rw [q_is hx, Option.bind_some, hc, q_try_l]; rfl
theorem ht_moment3 {a1 : Int32} {a2 : Int32} {a3 : Int32} (hx : mxA τ x = some (.inl 11)) (hc : f_X11_moment P x a1 a2 a3 τ = some (.inl ("java/lang/IllegalStateException", τ1))) : f_L_moment P x a1 a2 a3 o τ = some (3, τ1) := by
  unfold f_L_moment
  rw [q_is hx, Option.bind_some, hc, q_try_l]; rfl
theorem lw_middle {r : Int64} (hL : L < 2147483648) (hi : i + 7 ≤ L) (hl : f_L_middle P x (xs (i + 1)) (xs (i + 2)) (xs (i + 3)) o τ = some (k, τ1)) (hm1 : mxA τ1 m = some (.inl 12)) (hr : f_X12_middle P m (xs (i + 1)) (xs (i + 2)) (xs (i + 3)) τ1 = some (r, τ2)) (hm : mxA τ2 m = some (.inl 12)) (ho : mxA τ2 o = some (.inr (1, 1))) (ht : mxI τ2 m 0 = k) (hv : k = 0 → mxL τ2 o 0 = r) : f_L_law_D1455_23 P L xs b x m o (q_n i) τ = some (.inl (q_n (i + 7), τ2)) := by
  have e1 : mt_x L xs (q_n i + (1 : Int32)) = some (xs (i + 1)) := mt_xn (j := 1) hL (by omega); have e2 : mt_x L xs (q_n i + (2 : Int32)) = some (xs (i + 2)) := mt_xn (j := 2) hL (by omega); have e3 : mt_x L xs (q_n i + (3 : Int32)) = some (xs (i + 3)) := mt_xn (j := 3) hL (by omega)
  unfold f_L_law_D1455_23 f_L_law_D1531_23
  simp only [e1, e2, e3, Option.bind_some, hl, q_b2, q_is hm1, hr, q_is hm, k_thrown hm, ht, if_true, lw_rest]
  by_cases hk : k = 0
  · rw [if_pos hk, q_o0 ho, hv hk, Option.bind_some, if_pos (q_cmp0.mpr rfl)]
  · rw [if_neg hk]
theorem hr_middle {r : Int64} {a1 : Int32} {a2 : Int32} {a3 : Int32} (hx : mxA τ x = some (.inl 11)) (hc : f_X11_middle P x a1 a2 a3 τ = some (.inr (r, τ1))) (ho : mxA τ1 o = some (.inr (1, 1))) (hob : mpb P ≤ o) : f_L_middle P x a1 a2 a3 o τ = some (0, mx_setL τ1 o 0 r) := by
  unfold f_L_middle
  rw [q_is hx, Option.bind_some, hc, q_try_r, show (0 : Int32) = q_n 0 from rfl, q_sLn ho (by omega) (by omega) hob]; rfl
theorem ht_middle1 {a1 : Int32} {a2 : Int32} {a3 : Int32} (hx : mxA τ x = some (.inl 11)) (hc : f_X11_middle P x a1 a2 a3 τ = some (.inl ("java/lang/IllegalArgumentException", τ1))) : f_L_middle P x a1 a2 a3 o τ = some (1, τ1) := by
  unfold f_L_middle
  rw [q_is hx, Option.bind_some, hc, q_try_l]; rfl
theorem ht_middle2 {a1 : Int32} {a2 : Int32} {a3 : Int32} (hx : mxA τ x = some (.inl 11)) (hc : f_X11_middle P x a1 a2 a3 τ = some (.inl ("java/util/NoSuchElementException", τ1))) : f_L_middle P x a1 a2 a3 o τ = some (2, τ1) := by
  unfold f_L_middle
  rw [q_is hx, Option.bind_some, hc, q_try_l]; rfl
theorem ht_middle3 {a1 : Int32} {a2 : Int32} {a3 : Int32} (hx : mxA τ x = some (.inl 11)) (hc : f_X11_middle P x a1 a2 a3 τ = some (.inl ("java/lang/IllegalStateException", τ1))) : f_L_middle P x a1 a2 a3 o τ = some (3, τ1) := by
  unfold f_L_middle
  rw [q_is hx, Option.bind_some, hc, q_try_l]; rfl
theorem lw_gear {r : Int32} (hL : L < 2147483648) (hi : i + 7 ≤ L) (hl : f_L_gear P x (xs (i + 1)) (xs (i + 2)) o τ = some (k, τ1)) (hm1 : mxA τ1 m = some (.inl 12)) (hr : f_X12_gear P m (xs (i + 1)) (xs (i + 2)) τ1 = some (r, τ2)) (hm : mxA τ2 m = some (.inl 12)) (ho : mxA τ2 o = some (.inr (1, 1))) (ht : mxI τ2 m 0 = k) (hv : k = 0 → mxL τ2 o 0 = r.toInt64) : f_L_law_D1534_23 P L xs b x m o (q_n i) τ = some (.inl (q_n (i + 7), τ2)) := by
  have e1 : mt_x L xs (q_n i + (1 : Int32)) = some (xs (i + 1)) := mt_xn (j := 1) hL (by omega); have e2 : mt_x L xs (q_n i + (2 : Int32)) = some (xs (i + 2)) := mt_xn (j := 2) hL (by omega)
  unfold f_L_law_D1534_23 f_L_law_D1599_23
  simp only [e1, e2, Option.bind_some, hl, q_b2, q_is hm1, hr, q_is hm, k_thrown hm, ht, if_true, lw_rest]
  by_cases hk : k = 0
  · rw [if_pos hk, q_o0 ho, hv hk, Option.bind_some, if_pos (q_cmp0.mpr rfl)]
  · rw [if_neg hk]
theorem hr_gear {r : Int32} {a1 : Int32} {a2 : Int32} (hx : mxA τ x = some (.inl 11)) (hc : f_X11_gear P x a1 a2 τ = some (.inr (r, τ1))) (ho : mxA τ1 o = some (.inr (1, 1))) (hob : mpb P ≤ o) : f_L_gear P x a1 a2 o τ = some (0, mx_setL τ1 o 0 r.toInt64) := by
  unfold f_L_gear
  rw [q_is hx, Option.bind_some, hc, q_try_r, show (0 : Int32) = q_n 0 from rfl, q_sLn ho (by omega) (by omega) hob]; rfl
theorem ht_gear1 {a1 : Int32} {a2 : Int32} (hx : mxA τ x = some (.inl 11)) (hc : f_X11_gear P x a1 a2 τ = some (.inl ("java/lang/IllegalArgumentException", τ1))) : f_L_gear P x a1 a2 o τ = some (1, τ1) := by
  unfold f_L_gear
  rw [q_is hx, Option.bind_some, hc, q_try_l]; rfl
theorem ht_gear2 {a1 : Int32} {a2 : Int32} (hx : mxA τ x = some (.inl 11)) (hc : f_X11_gear P x a1 a2 τ = some (.inl ("java/lang/IndexOutOfBoundsException", τ1))) : f_L_gear P x a1 a2 o τ = some (2, τ1) := by
  unfold f_L_gear
  rw [q_is hx, Option.bind_some, hc, q_try_l]; rfl
theorem lw_mesh {r : Int32} (hL : L < 2147483648) (hi : i + 7 ≤ L) (hl : f_L_mesh P x (xs (i + 1)) (xs (i + 2)) (if xs (i + 3) = 0 then 0 else 1) (xs (i + 4)) o τ = some (k, τ1)) (hm1 : mxA τ1 m = some (.inl 12)) (hr : f_X12_mesh P m (xs (i + 1)) (xs (i + 2)) (if xs (i + 3) = 0 then 0 else 1) (xs (i + 4)) τ1 = some (r, τ2)) (hm : mxA τ2 m = some (.inl 12)) (ho : mxA τ2 o = some (.inr (1, 1))) (ht : mxI τ2 m 0 = k) (hv : k = 0 → mxL τ2 o 0 = r.toInt64) : f_L_law_D1602_23 P L xs b x m o (q_n i) τ = some (.inl (q_n (i + 7), τ2)) := by
  have e1 : mt_x L xs (q_n i + (1 : Int32)) = some (xs (i + 1)) := mt_xn (j := 1) hL (by omega); have e2 : mt_x L xs (q_n i + (2 : Int32)) = some (xs (i + 2)) := mt_xn (j := 2) hL (by omega); have e3 : mt_x L xs (q_n i + (3 : Int32)) = some (xs (i + 3)) := mt_xn (j := 3) hL (by omega); have e4 : mt_x L xs (q_n i + (4 : Int32)) = some (xs (i + 4)) := mt_xn (j := 4) hL (by omega)
  unfold f_L_law_D1602_23 f_L_law_D1629_23 f_L_law_D1668_23 f_L_law_D1707_23
  by_cases hz : xs (i + 3) = 0
  all_goals
    first | rw [if_pos hz] at hl hr | rw [if_neg hz] at hl hr
    simp only [e1, e2, e3, e4, Option.bind_some, hl, q_b2, q_is hm1, hr, q_is hm, k_thrown hm, ht, if_true, lw_rest, hz, if_true, if_false]
    by_cases hk : k = 0
    · rw [if_pos hk, q_o0 ho, hv hk, Option.bind_some, if_pos (q_cmp0.mpr rfl)]
    · rw [if_neg hk]
theorem hr_mesh {r : Int32} {a1 : Int32} {a2 : Int32} {a3 : Int32} {a4 : Int32} (hx : mxA τ x = some (.inl 11)) (hc : f_X11_mesh P x a1 a2 a3 a4 τ = some (.inr (r, τ1))) (ho : mxA τ1 o = some (.inr (1, 1))) (hob : mpb P ≤ o) : f_L_mesh P x a1 a2 a3 a4 o τ = some (0, mx_setL τ1 o 0 r.toInt64) := by
  unfold f_L_mesh
  rw [q_is hx, Option.bind_some, hc, q_try_r, show (0 : Int32) = q_n 0 from rfl, q_sLn ho (by omega) (by omega) hob]; rfl
theorem ht_mesh1 {a1 : Int32} {a2 : Int32} {a3 : Int32} {a4 : Int32} (hx : mxA τ x = some (.inl 11)) (hc : f_X11_mesh P x a1 a2 a3 a4 τ = some (.inl ("java/lang/IllegalArgumentException", τ1))) : f_L_mesh P x a1 a2 a3 a4 o τ = some (1, τ1) := by
  unfold f_L_mesh
  rw [q_is hx, Option.bind_some, hc, q_try_l]; rfl
theorem ht_mesh2 {a1 : Int32} {a2 : Int32} {a3 : Int32} {a4 : Int32} (hx : mxA τ x = some (.inl 11)) (hc : f_X11_mesh P x a1 a2 a3 a4 τ = some (.inl ("java/util/NoSuchElementException", τ1))) : f_L_mesh P x a1 a2 a3 a4 o τ = some (2, τ1) := by
  unfold f_L_mesh
  rw [q_is hx, Option.bind_some, hc, q_try_l]; rfl
theorem ht_mesh3 {a1 : Int32} {a2 : Int32} {a3 : Int32} {a4 : Int32} (hx : mxA τ x = some (.inl 11)) (hc : f_X11_mesh P x a1 a2 a3 a4 τ = some (.inl ("java/lang/IllegalStateException", τ1))) : f_L_mesh P x a1 a2 a3 a4 o τ = some (3, τ1) := by
  unfold f_L_mesh
  rw [q_is hx, Option.bind_some, hc, q_try_l]; rfl
theorem ht_mesh4 {a1 : Int32} {a2 : Int32} {a3 : Int32} {a4 : Int32} (hx : mxA τ x = some (.inl 11)) (hc : f_X11_mesh P x a1 a2 a3 a4 τ = some (.inl ("java/lang/IndexOutOfBoundsException", τ1))) : f_L_mesh P x a1 a2 a3 a4 o τ = some (4, τ1) := by
  unfold f_L_mesh
  rw [q_is hx, Option.bind_some, hc, q_try_l]; rfl
theorem lw_shaft (hL : L < 2147483648) (hi : i + 7 ≤ L) (hl : f_L_shaft P x (xs (i + 1)) (xs (i + 2)) (xs (i + 3)) (xs (i + 4)) τ = some (k, τ1)) (hm1 : mxA τ1 m = some (.inl 12)) (hr : f_X12_shaft P m (xs (i + 1)) (xs (i + 2)) (xs (i + 3)) (xs (i + 4)) τ1 = some τ2) (hm : mxA τ2 m = some (.inl 12)) (ht : mxI τ2 m 0 = k) : f_L_law_D1710_23 P L xs b x m o (q_n i) τ = some (.inl (q_n (i + 7), τ2)) := by
  have e1 : mt_x L xs (q_n i + (1 : Int32)) = some (xs (i + 1)) := mt_xn (j := 1) hL (by omega); have e2 : mt_x L xs (q_n i + (2 : Int32)) = some (xs (i + 2)) := mt_xn (j := 2) hL (by omega); have e3 : mt_x L xs (q_n i + (3 : Int32)) = some (xs (i + 3)) := mt_xn (j := 3) hL (by omega); have e4 : mt_x L xs (q_n i + (4 : Int32)) = some (xs (i + 4)) := mt_xn (j := 4) hL (by omega)
  unfold f_L_law_D1710_23
  simp only [e1, e2, e3, e4, Option.bind_some, hl, q_b2, q_is hm1, hr, q_is hm, k_thrown hm, ht, if_true, lw_rest]
theorem hr_shaft {a1 : Int32} {a2 : Int32} {a3 : Int32} {a4 : Int32} (hx : mxA τ x = some (.inl 11)) (hc : f_X11_shaft P x a1 a2 a3 a4 τ = some (.inr τ1)) : f_L_shaft P x a1 a2 a3 a4 τ = some (0, τ1) := by
  unfold f_L_shaft
  rw [q_is hx, Option.bind_some, hc, q_try0_r]
theorem ht_shaft1 {a1 : Int32} {a2 : Int32} {a3 : Int32} {a4 : Int32} (hx : mxA τ x = some (.inl 11)) (hc : f_X11_shaft P x a1 a2 a3 a4 τ = some (.inl ("java/lang/IllegalArgumentException", τ1))) : f_L_shaft P x a1 a2 a3 a4 τ = some (1, τ1) := by
  unfold f_L_shaft
  rw [q_is hx, Option.bind_some, hc, q_try0_l]; rfl
theorem lw_clear (hx : mxA τ x = some (.inl 11)) (hl : f_X11_clear P x τ = some τ1) (hm1 : mxA τ1 m = some (.inl 12)) (hr : f_X12_clear P m τ1 = some τ2) : f_L_law_D1782_23 P L xs b x m o (q_n i) τ = some (.inl (q_n (i + 7), τ2)) := by
  unfold f_L_law_D1782_23
  rw [q_is hx, Option.bind_some, hl, Option.bind_some, q_is hm1, Option.bind_some, hr, Option.bind_some, lw_rest]
theorem lw_solved {r : Int32} (hL : L < 2147483648) (hi : i + 7 ≤ L) (hx : mxA τ x = some (.inl 11)) (hl : f_X11_solved P x  τ = some (r, τ1)) (hm1 : mxA τ1 m = some (.inl 12)) (hr : f_X12_solved P m  τ1 = some (r, τ2)) : f_L_law_D1793_23 P L xs b x m o (q_n i) τ = some (.inl (q_n (i + 7), τ2)) := by
  unfold f_L_law_D1793_23
  simp only [Option.bind_some, q_is hx, hl, q_b2, q_is hm1, hr, if_true, lw_rest]
theorem lw_turns {r : Int64} (hL : L < 2147483648) (hi : i + 7 ≤ L) (hl : f_L_turns P x (xs (i + 1)) (xs (i + 2)) o τ = some (k, τ1)) (hm1 : mxA τ1 m = some (.inl 12)) (hr : f_X12_turns P m (xs (i + 1)) (xs (i + 2)) τ1 = some (r, τ2)) (hm : mxA τ2 m = some (.inl 12)) (ho : mxA τ2 o = some (.inr (1, 1))) (ht : mxI τ2 m 0 = k) (hv : k = 0 → mxL τ2 o 0 = r) : f_L_law_D1806_23 P L xs b x m o (q_n i) τ = some (.inl (q_n (i + 7), τ2)) := by
  have e1 : mt_x L xs (q_n i + (1 : Int32)) = some (xs (i + 1)) := mt_xn (j := 1) hL (by omega); have e2 : mt_x L xs (q_n i + (2 : Int32)) = some (xs (i + 2)) := mt_xn (j := 2) hL (by omega)
  unfold f_L_law_D1806_23 f_L_law_D1870_23
  simp only [e1, e2, Option.bind_some, hl, q_b2, q_is hm1, hr, q_is hm, k_thrown hm, ht, if_true, lw_rest]
  by_cases hk : k = 0
  · rw [if_pos hk, q_o0 ho, hv hk, Option.bind_some, if_pos (q_cmp0.mpr rfl)]
  · rw [if_neg hk]
theorem hr_turns {r : Int64} {a1 : Int32} {a2 : Int32} (hx : mxA τ x = some (.inl 11)) (hc : f_X11_turns P x a1 a2 τ = some (.inr (r, τ1))) (ho : mxA τ1 o = some (.inr (1, 1))) (hob : mpb P ≤ o) : f_L_turns P x a1 a2 o τ = some (0, mx_setL τ1 o 0 r) := by
  unfold f_L_turns
  rw [q_is hx, Option.bind_some, hc, q_try_r, show (0 : Int32) = q_n 0 from rfl, q_sLn ho (by omega) (by omega) hob]; rfl
theorem ht_turns1 {a1 : Int32} {a2 : Int32} (hx : mxA τ x = some (.inl 11)) (hc : f_X11_turns P x a1 a2 τ = some (.inl ("java/lang/IllegalArgumentException", τ1))) : f_L_turns P x a1 a2 o τ = some (1, τ1) := by
  unfold f_L_turns
  rw [q_is hx, Option.bind_some, hc, q_try_l]; rfl
theorem ht_turns2 {a1 : Int32} {a2 : Int32} (hx : mxA τ x = some (.inl 11)) (hc : f_X11_turns P x a1 a2 τ = some (.inl ("java/util/NoSuchElementException", τ1))) : f_L_turns P x a1 a2 o τ = some (2, τ1) := by
  unfold f_L_turns
  rw [q_is hx, Option.bind_some, hc, q_try_l]; rfl
theorem ht_turns3 {a1 : Int32} {a2 : Int32} (hx : mxA τ x = some (.inl 11)) (hc : f_X11_turns P x a1 a2 τ = some (.inl ("java/lang/IllegalStateException", τ1))) : f_L_turns P x a1 a2 o τ = some (3, τ1) := by
  unfold f_L_turns
  rw [q_is hx, Option.bind_some, hc, q_try_l]; rfl
theorem lw_interference {r : Int32} (hL : L < 2147483648) (hi : i + 7 ≤ L) (hl : f_L_interference P x (xs (i + 1)) (xs (i + 2)) (if xs (i + 3) = 0 then 0 else 1) o τ = some (k, τ1)) (hm1 : mxA τ1 m = some (.inl 12)) (hr : f_X12_interference P m (xs (i + 1)) (xs (i + 2)) (if xs (i + 3) = 0 then 0 else 1) τ1 = some (r, τ2)) (hm : mxA τ2 m = some (.inl 12)) (ho : mxA τ2 o = some (.inr (1, 1))) (ht : mxI τ2 m 0 = k) (hv : k = 0 → mxL τ2 o 0 = r.toInt64) : f_L_law_D1873_23 P L xs b x m o (q_n i) τ = some (.inl (q_n (i + 7), τ2)) := by
  have e1 : mt_x L xs (q_n i + (1 : Int32)) = some (xs (i + 1)) := mt_xn (j := 1) hL (by omega); have e2 : mt_x L xs (q_n i + (2 : Int32)) = some (xs (i + 2)) := mt_xn (j := 2) hL (by omega); have e3 : mt_x L xs (q_n i + (3 : Int32)) = some (xs (i + 3)) := mt_xn (j := 3) hL (by omega)
  unfold f_L_law_D1873_23 f_L_law_D1900_23 f_L_law_D1933_23 f_L_law_D1966_23
  by_cases hz : xs (i + 3) = 0
  all_goals
    first | rw [if_pos hz] at hl hr | rw [if_neg hz] at hl hr
    simp only [e1, e2, e3, Option.bind_some, hl, q_b2, q_is hm1, hr, q_is hm, k_thrown hm, ht, if_true, lw_rest, hz, if_true, if_false]
    by_cases hk : k = 0
    · rw [if_pos hk, q_o0 ho, hv hk, Option.bind_some, if_pos (q_cmp0.mpr rfl)]
    · rw [if_neg hk]
theorem hr_interference {r : Int32} {a1 : Int32} {a2 : Int32} {a3 : Int32} (hx : mxA τ x = some (.inl 11)) (hc : f_X11_interference P x a1 a2 a3 τ = some (.inr (r, τ1))) (ho : mxA τ1 o = some (.inr (1, 1))) (hob : mpb P ≤ o) : f_L_interference P x a1 a2 a3 o τ = some (0, mx_setL τ1 o 0 r.toInt64) := by
  unfold f_L_interference
  rw [q_is hx, Option.bind_some, hc, q_try_r, show (0 : Int32) = q_n 0 from rfl, q_sLn ho (by omega) (by omega) hob]; rfl
theorem ht_interference1 {a1 : Int32} {a2 : Int32} {a3 : Int32} (hx : mxA τ x = some (.inl 11)) (hc : f_X11_interference P x a1 a2 a3 τ = some (.inl ("java/util/NoSuchElementException", τ1))) : f_L_interference P x a1 a2 a3 o τ = some (1, τ1) := by
  unfold f_L_interference
  rw [q_is hx, Option.bind_some, hc, q_try_l]; rfl
theorem lw_trains {r : Int32} (hL : L < 2147483648) (hi : i + 7 ≤ L) (hl : f_L_trains P x (xs (i + 1)) (xs (i + 2)) (xs (i + 3)) (xs (i + 4)) o τ = some (k, τ1)) (hm1 : mxA τ1 m = some (.inl 12)) (hr : f_X12_trains P m (xs (i + 1)) (xs (i + 2)) (xs (i + 3)) (xs (i + 4)) τ1 = some (r, τ2)) (hm : mxA τ2 m = some (.inl 12)) (ho : mxA τ2 o = some (.inr (1, 1))) (ht : mxI τ2 m 0 = k) (hv : k = 0 → mxL τ2 o 0 = r.toInt64) : f_L_law_D1969_23 P L xs b x m o (q_n i) τ = some (.inl (q_n (i + 7), τ2)) := by
  have e1 : mt_x L xs (q_n i + (1 : Int32)) = some (xs (i + 1)) := mt_xn (j := 1) hL (by omega); have e2 : mt_x L xs (q_n i + (2 : Int32)) = some (xs (i + 2)) := mt_xn (j := 2) hL (by omega); have e3 : mt_x L xs (q_n i + (3 : Int32)) = some (xs (i + 3)) := mt_xn (j := 3) hL (by omega); have e4 : mt_x L xs (q_n i + (4 : Int32)) = some (xs (i + 4)) := mt_xn (j := 4) hL (by omega)
  unfold f_L_law_D1969_23 f_L_law_D2058_23
  simp only [e1, e2, e3, e4, Option.bind_some, hl, q_b2, q_is hm1, hr, q_is hm, k_thrown hm, ht, if_true, lw_rest]
  by_cases hk : k = 0
  · rw [if_pos hk, q_o0 ho, hv hk, Option.bind_some, if_pos (q_cmp0.mpr rfl)]
  · rw [if_neg hk]
theorem hr_trains {r : Int32} {a1 : Int32} {a2 : Int32} {a3 : Int32} {a4 : Int32} (hx : mxA τ x = some (.inl 11)) (hc : f_X11_trains P x a1 a2 a3 a4 τ = some (.inr (r, τ1))) (ho : mxA τ1 o = some (.inr (1, 1))) (hob : mpb P ≤ o) : f_L_trains P x a1 a2 a3 a4 o τ = some (0, mx_setL τ1 o 0 r.toInt64) := by
  unfold f_L_trains
  rw [q_is hx, Option.bind_some, hc, q_try_r, show (0 : Int32) = q_n 0 from rfl, q_sLn ho (by omega) (by omega) hob]; rfl
theorem ht_trains1 {a1 : Int32} {a2 : Int32} {a3 : Int32} {a4 : Int32} (hx : mxA τ x = some (.inl 11)) (hc : f_X11_trains P x a1 a2 a3 a4 τ = some (.inl ("java/lang/IllegalArgumentException", τ1))) : f_L_trains P x a1 a2 a3 a4 o τ = some (1, τ1) := by
  unfold f_L_trains
  rw [q_is hx, Option.bind_some, hc, q_try_l]; rfl
theorem lw_train {r : Int32} (hL : L < 2147483648) (hi : i + 7 ≤ L) (hl : f_L_train P x (xs (i + 1)) (xs (i + 2)) o τ = some (k, τ1)) (hm1 : mxA τ1 m = some (.inl 12)) (hr : f_X12_train P m (xs (i + 1)) (xs (i + 2)) τ1 = some (r, τ2)) (hm : mxA τ2 m = some (.inl 12)) (ho : mxA τ2 o = some (.inr (1, 1))) (ht : mxI τ2 m 0 = k) (hv : k = 0 → mxL τ2 o 0 = r.toInt64) : f_L_law_D2061_23 P L xs b x m o (q_n i) τ = some (.inl (q_n (i + 7), τ2)) := by
  have e1 : mt_x L xs (q_n i + (1 : Int32)) = some (xs (i + 1)) := mt_xn (j := 1) hL (by omega); have e2 : mt_x L xs (q_n i + (2 : Int32)) = some (xs (i + 2)) := mt_xn (j := 2) hL (by omega)
  unfold f_L_law_D2061_23 f_L_law_D2126_23
  simp only [e1, e2, Option.bind_some, hl, q_b2, q_is hm1, hr, q_is hm, k_thrown hm, ht, if_true, lw_rest]
  by_cases hk : k = 0
  · rw [if_pos hk, q_o0 ho, hv hk, Option.bind_some, if_pos (q_cmp0.mpr rfl)]
  · rw [if_neg hk]
theorem hr_train {r : Int32} {a1 : Int32} {a2 : Int32} (hx : mxA τ x = some (.inl 11)) (hc : f_X11_train P x a1 a2 τ = some (.inr (r, τ1))) (ho : mxA τ1 o = some (.inr (1, 1))) (hob : mpb P ≤ o) : f_L_train P x a1 a2 o τ = some (0, mx_setL τ1 o 0 r.toInt64) := by
  unfold f_L_train
  rw [q_is hx, Option.bind_some, hc, q_try_r, show (0 : Int32) = q_n 0 from rfl, q_sLn ho (by omega) (by omega) hob]; rfl
theorem ht_train1 {a1 : Int32} {a2 : Int32} (hx : mxA τ x = some (.inl 11)) (hc : f_X11_train P x a1 a2 τ = some (.inl ("java/lang/IllegalArgumentException", τ1))) : f_L_train P x a1 a2 o τ = some (1, τ1) := by
  unfold f_L_train
  rw [q_is hx, Option.bind_some, hc, q_try_l]; rfl
theorem ht_train2 {a1 : Int32} {a2 : Int32} (hx : mxA τ x = some (.inl 11)) (hc : f_X11_train P x a1 a2 τ = some (.inl ("java/util/NoSuchElementException", τ1))) : f_L_train P x a1 a2 o τ = some (2, τ1) := by
  unfold f_L_train
  rw [q_is hx, Option.bind_some, hc, q_try_l]; rfl
theorem lw_cam {r : Int32} (hL : L < 2147483648) (hi : i + 7 ≤ L) (hl : f_L_cam P x  o τ = some (k, τ1)) (hm1 : mxA τ1 m = some (.inl 12)) (hr : f_X12_cam P m  τ1 = some (r, τ2)) (hm : mxA τ2 m = some (.inl 12)) (ho : mxA τ2 o = some (.inr (1, 1))) (ht : mxI τ2 m 0 = k) (hv : k = 0 → mxL τ2 o 0 = r.toInt64) : f_L_law_D2129_23 P L xs b x m o (q_n i) τ = some (.inl (q_n (i + 7), τ2)) := by
  unfold f_L_law_D2129_23 f_L_law_D2170_23
  simp only [Option.bind_some, hl, q_b2, q_is hm1, hr, q_is hm, k_thrown hm, ht, if_true, lw_rest]
  by_cases hk : k = 0
  · rw [if_pos hk, q_o0 ho, hv hk, Option.bind_some, if_pos (q_cmp0.mpr rfl)]
  · rw [if_neg hk]
theorem hr_cam {r : Int32} (hx : mxA τ x = some (.inl 11)) (hc : f_X11_cam P x  τ = some (.inr (r, τ1))) (ho : mxA τ1 o = some (.inr (1, 1))) (hob : mpb P ≤ o) : f_L_cam P x  o τ = some (0, mx_setL τ1 o 0 r.toInt64) := by
  unfold f_L_cam
  rw [q_is hx, Option.bind_some, hc, q_try_r, show (0 : Int32) = q_n 0 from rfl, q_sLn ho (by omega) (by omega) hob]; rfl
theorem ht_cam1 (hx : mxA τ x = some (.inl 11)) (hc : f_X11_cam P x  τ = some (.inl ("java/lang/UnsupportedOperationException", τ1))) : f_L_cam P x  o τ = some (1, τ1) := by
  unfold f_L_cam
  rw [q_is hx, Option.bind_some, hc, q_try_l]; rfl
theorem lw_lift {r : Int64} (hL : L < 2147483648) (hi : i + 7 ≤ L) (hl : f_L_lift P x (xs (i + 1)) (xs (i + 2)) (xs (i + 3)) o τ = some (k, τ1)) (hm1 : mxA τ1 m = some (.inl 12)) (hr : f_X12_lift P m (xs (i + 1)) (xs (i + 2)) (xs (i + 3)) τ1 = some (r, τ2)) (hm : mxA τ2 m = some (.inl 12)) (ho : mxA τ2 o = some (.inr (1, 1))) (ht : mxI τ2 m 0 = k) (hv : k = 0 → mxL τ2 o 0 = r) : f_L_law_D2173_23 P L xs b x m o (q_n i) τ = some (.inl (q_n (i + 7), τ2)) := by
  have e1 : mt_x L xs (q_n i + (1 : Int32)) = some (xs (i + 1)) := mt_xn (j := 1) hL (by omega); have e2 : mt_x L xs (q_n i + (2 : Int32)) = some (xs (i + 2)) := mt_xn (j := 2) hL (by omega); have e3 : mt_x L xs (q_n i + (3 : Int32)) = some (xs (i + 3)) := mt_xn (j := 3) hL (by omega)
  unfold f_L_law_D2173_23 f_L_law_D2249_23
  simp only [e1, e2, e3, Option.bind_some, hl, q_b2, q_is hm1, hr, q_is hm, k_thrown hm, ht, if_true, lw_rest]
  by_cases hk : k = 0
  · rw [if_pos hk, q_o0 ho, hv hk, Option.bind_some, if_pos (q_cmp0.mpr rfl)]
  · rw [if_neg hk]
theorem hr_lift {r : Int64} {a1 : Int32} {a2 : Int32} {a3 : Int32} (hx : mxA τ x = some (.inl 11)) (hc : f_X11_lift P x a1 a2 a3 τ = some (.inr (r, τ1))) (ho : mxA τ1 o = some (.inr (1, 1))) (hob : mpb P ≤ o) : f_L_lift P x a1 a2 a3 o τ = some (0, mx_setL τ1 o 0 r) := by
  unfold f_L_lift
  rw [q_is hx, Option.bind_some, hc, q_try_r, show (0 : Int32) = q_n 0 from rfl, q_sLn ho (by omega) (by omega) hob]; rfl
theorem ht_lift1 {a1 : Int32} {a2 : Int32} {a3 : Int32} (hx : mxA τ x = some (.inl 11)) (hc : f_X11_lift P x a1 a2 a3 τ = some (.inl ("java/lang/IllegalArgumentException", τ1))) : f_L_lift P x a1 a2 a3 o τ = some (1, τ1) := by
  unfold f_L_lift
  rw [q_is hx, Option.bind_some, hc, q_try_l]; rfl
theorem ht_lift2 {a1 : Int32} {a2 : Int32} {a3 : Int32} (hx : mxA τ x = some (.inl 11)) (hc : f_X11_lift P x a1 a2 a3 τ = some (.inl ("java/util/NoSuchElementException", τ1))) : f_L_lift P x a1 a2 a3 o τ = some (2, τ1) := by
  unfold f_L_lift
  rw [q_is hx, Option.bind_some, hc, q_try_l]; rfl
theorem ht_lift3 {a1 : Int32} {a2 : Int32} {a3 : Int32} (hx : mxA τ x = some (.inl 11)) (hc : f_X11_lift P x a1 a2 a3 τ = some (.inl ("java/lang/IllegalStateException", τ1))) : f_L_lift P x a1 a2 a3 o τ = some (3, τ1) := by
  unfold f_L_lift
  rw [q_is hx, Option.bind_some, hc, q_try_l]; rfl
theorem lw_camAbout {r : Int64} (hL : L < 2147483648) (hi : i + 7 ≤ L) (hl : f_L_camAbout P x (xs (i + 1)) o τ = some (k, τ1)) (hm1 : mxA τ1 m = some (.inl 12)) (hr : f_X12_camAbout P m (xs (i + 1)) τ1 = some (r, τ2)) (hm : mxA τ2 m = some (.inl 12)) (ho : mxA τ2 o = some (.inr (1, 1))) (ht : mxI τ2 m 0 = k) (hv : k = 0 → mxL τ2 o 0 = r) : f_L_law_D2252_23 P L xs b x m o (q_n i) τ = some (.inl (q_n (i + 7), τ2)) := by
  have e1 : mt_x L xs (q_n i + (1 : Int32)) = some (xs (i + 1)) := mt_xn (j := 1) hL (by omega)
  unfold f_L_law_D2252_23 f_L_law_D2304_23
  simp only [e1, Option.bind_some, hl, q_b2, q_is hm1, hr, q_is hm, k_thrown hm, ht, if_true, lw_rest]
  by_cases hk : k = 0
  · rw [if_pos hk, q_o0 ho, hv hk, Option.bind_some, if_pos (q_cmp0.mpr rfl)]
  · rw [if_neg hk]
theorem hr_camAbout {r : Int64} {a1 : Int32} (hx : mxA τ x = some (.inl 11)) (hc : f_X11_camAbout P x a1 τ = some (.inr (r, τ1))) (ho : mxA τ1 o = some (.inr (1, 1))) (hob : mpb P ≤ o) : f_L_camAbout P x a1 o τ = some (0, mx_setL τ1 o 0 r) := by
  unfold f_L_camAbout
  rw [q_is hx, Option.bind_some, hc, q_try_r, show (0 : Int32) = q_n 0 from rfl, q_sLn ho (by omega) (by omega) hob]; rfl
theorem ht_camAbout1 {a1 : Int32} (hx : mxA τ x = some (.inl 11)) (hc : f_X11_camAbout P x a1 τ = some (.inl ("java/lang/IllegalArgumentException", τ1))) : f_L_camAbout P x a1 o τ = some (1, τ1) := by
  unfold f_L_camAbout
  rw [q_is hx, Option.bind_some, hc, q_try_l]; rfl
theorem ht_camAbout2 {a1 : Int32} (hx : mxA τ x = some (.inl 11)) (hc : f_X11_camAbout P x a1 τ = some (.inl ("java/util/NoSuchElementException", τ1))) : f_L_camAbout P x a1 o τ = some (2, τ1) := by
  unfold f_L_camAbout
  rw [q_is hx, Option.bind_some, hc, q_try_l]; rfl
theorem lw_corner {r : Int32} (hL : L < 2147483648) (hi : i + 7 ≤ L) (hl : f_L_corner P x (xs (i + 1)) (xs (i + 2)) (xs (i + 3)) o τ = some (k, τ1)) (hm1 : mxA τ1 m = some (.inl 12)) (hr : f_X12_corner P m (xs (i + 1)) (xs (i + 2)) (xs (i + 3)) τ1 = some (r, τ2)) (hm : mxA τ2 m = some (.inl 12)) (ho : mxA τ2 o = some (.inr (1, 1))) (ht : mxI τ2 m 0 = k) (hv : k = 0 → mxL τ2 o 0 = r.toInt64) : f_L_law_D2307_23 P L xs b x m o (q_n i) τ = some (.inl (q_n (i + 7), τ2)) := by
  have e1 : mt_x L xs (q_n i + (1 : Int32)) = some (xs (i + 1)) := mt_xn (j := 1) hL (by omega); have e2 : mt_x L xs (q_n i + (2 : Int32)) = some (xs (i + 2)) := mt_xn (j := 2) hL (by omega); have e3 : mt_x L xs (q_n i + (3 : Int32)) = some (xs (i + 3)) := mt_xn (j := 3) hL (by omega)
  unfold f_L_law_D2307_23 f_L_law_D2384_23
  simp only [e1, e2, e3, Option.bind_some, hl, q_b2, q_is hm1, hr, q_is hm, k_thrown hm, ht, if_true, lw_rest]
  by_cases hk : k = 0
  · rw [if_pos hk, q_o0 ho, hv hk, Option.bind_some, if_pos (q_cmp0.mpr rfl)]
  · rw [if_neg hk]
theorem hr_corner {r : Int32} {a1 : Int32} {a2 : Int32} {a3 : Int32} (hx : mxA τ x = some (.inl 11)) (hc : f_X11_corner P x a1 a2 a3 τ = some (.inr (r, τ1))) (ho : mxA τ1 o = some (.inr (1, 1))) (hob : mpb P ≤ o) : f_L_corner P x a1 a2 a3 o τ = some (0, mx_setL τ1 o 0 r.toInt64) := by
  unfold f_L_corner
  rw [q_is hx, Option.bind_some, hc, q_try_r, show (0 : Int32) = q_n 0 from rfl, q_sLn ho (by omega) (by omega) hob]; rfl
theorem ht_corner1 {a1 : Int32} {a2 : Int32} {a3 : Int32} (hx : mxA τ x = some (.inl 11)) (hc : f_X11_corner P x a1 a2 a3 τ = some (.inl ("java/lang/IllegalArgumentException", τ1))) : f_L_corner P x a1 a2 a3 o τ = some (1, τ1) := by
  unfold f_L_corner
  rw [q_is hx, Option.bind_some, hc, q_try_l]; rfl
theorem ht_corner2 {a1 : Int32} {a2 : Int32} {a3 : Int32} (hx : mxA τ x = some (.inl 11)) (hc : f_X11_corner P x a1 a2 a3 τ = some (.inl ("java/lang/IndexOutOfBoundsException", τ1))) : f_L_corner P x a1 a2 a3 o τ = some (2, τ1) := by
  unfold f_L_corner
  rw [q_is hx, Option.bind_some, hc, q_try_l]; rfl
theorem lw_empty (hL : L < 2147483648) (hi : i + 7 ≤ L) (hl : f_L_empty P x (xs (i + 1)) τ = some (k, τ1)) (hm1 : mxA τ1 m = some (.inl 12)) (hr : f_X12_empty P m (xs (i + 1)) τ1 = some τ2) (hm : mxA τ2 m = some (.inl 12)) (ht : mxI τ2 m 0 = k) : f_L_law_D2387_23 P L xs b x m o (q_n i) τ = some (.inl (q_n (i + 7), τ2)) := by
  have e1 : mt_x L xs (q_n i + (1 : Int32)) = some (xs (i + 1)) := mt_xn (j := 1) hL (by omega)
  unfold f_L_law_D2387_23
  simp only [e1, Option.bind_some, hl, q_b2, q_is hm1, hr, q_is hm, k_thrown hm, ht, if_true, lw_rest]
theorem hr_empty {a1 : Int32} (hx : mxA τ x = some (.inl 11)) (hc : f_X11_empty P x a1 τ = some (.inr τ1)) : f_L_empty P x a1 τ = some (0, τ1) := by
  unfold f_L_empty
  rw [q_is hx, Option.bind_some, hc, q_try0_r]
theorem ht_empty1 {a1 : Int32} (hx : mxA τ x = some (.inl 11)) (hc : f_X11_empty P x a1 τ = some (.inl ("java/lang/IllegalArgumentException", τ1))) : f_L_empty P x a1 τ = some (1, τ1) := by
  unfold f_L_empty
  rw [q_is hx, Option.bind_some, hc, q_try0_l]; rfl
theorem lw_plate {r : Int64} (hL : L < 2147483648) (hi : i + 7 ≤ L) (hl : f_L_plate P x (xs (i + 1)) (xs (i + 2)) o τ = some (k, τ1)) (hm1 : mxA τ1 m = some (.inl 12)) (hr : f_X12_plate P m (xs (i + 1)) (xs (i + 2)) τ1 = some (r, τ2)) (hm : mxA τ2 m = some (.inl 12)) (ho : mxA τ2 o = some (.inr (1, 1))) (ht : mxI τ2 m 0 = k) (hv : k = 0 → mxL τ2 o 0 = r) : f_L_law_D2423_23 P L xs b x m o (q_n i) τ = some (.inl (q_n (i + 7), τ2)) := by
  have e1 : mt_x L xs (q_n i + (1 : Int32)) = some (xs (i + 1)) := mt_xn (j := 1) hL (by omega); have e2 : mt_x L xs (q_n i + (2 : Int32)) = some (xs (i + 2)) := mt_xn (j := 2) hL (by omega)
  unfold f_L_law_D2423_23 f_L_law_D2487_23
  simp only [e1, e2, Option.bind_some, hl, q_b2, q_is hm1, hr, q_is hm, k_thrown hm, ht, if_true, lw_rest]
  by_cases hk : k = 0
  · rw [if_pos hk, q_o0 ho, hv hk, Option.bind_some, if_pos (q_cmp0.mpr rfl)]
  · rw [if_neg hk]
theorem hr_plate {r : Int64} {a1 : Int32} {a2 : Int32} (hx : mxA τ x = some (.inl 11)) (hc : f_X11_plate P x a1 a2 τ = some (.inr (r, τ1))) (ho : mxA τ1 o = some (.inr (1, 1))) (hob : mpb P ≤ o) : f_L_plate P x a1 a2 o τ = some (0, mx_setL τ1 o 0 r) := by
  unfold f_L_plate
  rw [q_is hx, Option.bind_some, hc, q_try_r, show (0 : Int32) = q_n 0 from rfl, q_sLn ho (by omega) (by omega) hob]; rfl
theorem ht_plate1 {a1 : Int32} {a2 : Int32} (hx : mxA τ x = some (.inl 11)) (hc : f_X11_plate P x a1 a2 τ = some (.inl ("java/lang/IllegalArgumentException", τ1))) : f_L_plate P x a1 a2 o τ = some (1, τ1) := by
  unfold f_L_plate
  rw [q_is hx, Option.bind_some, hc, q_try_l]; rfl
theorem ht_plate2 {a1 : Int32} {a2 : Int32} (hx : mxA τ x = some (.inl 11)) (hc : f_X11_plate P x a1 a2 τ = some (.inl ("java/util/NoSuchElementException", τ1))) : f_L_plate P x a1 a2 o τ = some (2, τ1) := by
  unfold f_L_plate
  rw [q_is hx, Option.bind_some, hc, q_try_l]; rfl
theorem lw_inside {r : Int32} (hL : L < 2147483648) (hi : i + 7 ≤ L) (hl : f_L_inside P x (xs (i + 1)) (xs (i + 2)) (xs (i + 3)) o τ = some (k, τ1)) (hm1 : mxA τ1 m = some (.inl 12)) (hr : f_X12_inside P m (xs (i + 1)) (xs (i + 2)) (xs (i + 3)) τ1 = some (r, τ2)) (hm : mxA τ2 m = some (.inl 12)) (ho : mxA τ2 o = some (.inr (1, 1))) (ht : mxI τ2 m 0 = k) (hv : k = 0 → mxL τ2 o 0 = r.toInt64) : f_L_law_D2490_23 P L xs b x m o (q_n i) τ = some (.inl (q_n (i + 7), τ2)) := by
  have e1 : mt_x L xs (q_n i + (1 : Int32)) = some (xs (i + 1)) := mt_xn (j := 1) hL (by omega); have e2 : mt_x L xs (q_n i + (2 : Int32)) = some (xs (i + 2)) := mt_xn (j := 2) hL (by omega); have e3 : mt_x L xs (q_n i + (3 : Int32)) = some (xs (i + 3)) := mt_xn (j := 3) hL (by omega)
  unfold f_L_law_D2490_23 f_L_law_D2567_23
  simp only [e1, e2, e3, Option.bind_some, hl, q_b2, q_is hm1, hr, q_is hm, k_thrown hm, ht, if_true, lw_rest]
  by_cases hk : k = 0
  · rw [if_pos hk, q_o0 ho, hv hk, Option.bind_some, if_pos (q_cmp0.mpr rfl)]
  · rw [if_neg hk]
theorem hr_inside {r : Int32} {a1 : Int32} {a2 : Int32} {a3 : Int32} (hx : mxA τ x = some (.inl 11)) (hc : f_X11_inside P x a1 a2 a3 τ = some (.inr (r, τ1))) (ho : mxA τ1 o = some (.inr (1, 1))) (hob : mpb P ≤ o) : f_L_inside P x a1 a2 a3 o τ = some (0, mx_setL τ1 o 0 r.toInt64) := by
  unfold f_L_inside
  rw [q_is hx, Option.bind_some, hc, q_try_r, show (0 : Int32) = q_n 0 from rfl, q_sLn ho (by omega) (by omega) hob]; rfl
theorem ht_inside1 {a1 : Int32} {a2 : Int32} {a3 : Int32} (hx : mxA τ x = some (.inl 11)) (hc : f_X11_inside P x a1 a2 a3 τ = some (.inl ("java/lang/IllegalArgumentException", τ1))) : f_L_inside P x a1 a2 a3 o τ = some (1, τ1) := by
  unfold f_L_inside
  rw [q_is hx, Option.bind_some, hc, q_try_l]; rfl
theorem ht_inside2 {a1 : Int32} {a2 : Int32} {a3 : Int32} (hx : mxA τ x = some (.inl 11)) (hc : f_X11_inside P x a1 a2 a3 τ = some (.inl ("java/util/NoSuchElementException", τ1))) : f_L_inside P x a1 a2 a3 o τ = some (2, τ1) := by
  unfold f_L_inside
  rw [q_is hx, Option.bind_some, hc, q_try_l]; rfl
theorem lw_distance {r : Int64} (hL : L < 2147483648) (hi : i + 7 ≤ L) (hl : f_L_distance P x (xs (i + 1)) (xs (i + 2)) (xs (i + 3)) o τ = some (k, τ1)) (hm1 : mxA τ1 m = some (.inl 12)) (hr : f_X12_distance P m (xs (i + 1)) (xs (i + 2)) (xs (i + 3)) τ1 = some (r, τ2)) (hm : mxA τ2 m = some (.inl 12)) (ho : mxA τ2 o = some (.inr (1, 1))) (ht : mxI τ2 m 0 = k) (hv : k = 0 → mxL τ2 o 0 = r) : f_L_law_D2570_23 P L xs b x m o (q_n i) τ = some (.inl (q_n (i + 7), τ2)) := by
  have e1 : mt_x L xs (q_n i + (1 : Int32)) = some (xs (i + 1)) := mt_xn (j := 1) hL (by omega); have e2 : mt_x L xs (q_n i + (2 : Int32)) = some (xs (i + 2)) := mt_xn (j := 2) hL (by omega); have e3 : mt_x L xs (q_n i + (3 : Int32)) = some (xs (i + 3)) := mt_xn (j := 3) hL (by omega)
  unfold f_L_law_D2570_23 f_L_law_D2646_23
  simp only [e1, e2, e3, Option.bind_some, hl, q_b2, q_is hm1, hr, q_is hm, k_thrown hm, ht, if_true, lw_rest]
  by_cases hk : k = 0
  · rw [if_pos hk, q_o0 ho, hv hk, Option.bind_some, if_pos (q_cmp0.mpr rfl)]
  · rw [if_neg hk]
theorem hr_distance {r : Int64} {a1 : Int32} {a2 : Int32} {a3 : Int32} (hx : mxA τ x = some (.inl 11)) (hc : f_X11_distance P x a1 a2 a3 τ = some (.inr (r, τ1))) (ho : mxA τ1 o = some (.inr (1, 1))) (hob : mpb P ≤ o) : f_L_distance P x a1 a2 a3 o τ = some (0, mx_setL τ1 o 0 r) := by
  unfold f_L_distance
  rw [q_is hx, Option.bind_some, hc, q_try_r, show (0 : Int32) = q_n 0 from rfl, q_sLn ho (by omega) (by omega) hob]; rfl
theorem ht_distance1 {a1 : Int32} {a2 : Int32} {a3 : Int32} (hx : mxA τ x = some (.inl 11)) (hc : f_X11_distance P x a1 a2 a3 τ = some (.inl ("java/lang/IllegalArgumentException", τ1))) : f_L_distance P x a1 a2 a3 o τ = some (1, τ1) := by
  unfold f_L_distance
  rw [q_is hx, Option.bind_some, hc, q_try_l]; rfl
theorem ht_distance2 {a1 : Int32} {a2 : Int32} {a3 : Int32} (hx : mxA τ x = some (.inl 11)) (hc : f_X11_distance P x a1 a2 a3 τ = some (.inl ("java/util/NoSuchElementException", τ1))) : f_L_distance P x a1 a2 a3 o τ = some (2, τ1) := by
  unfold f_L_distance
  rw [q_is hx, Option.bind_some, hc, q_try_l]; rfl
theorem lw_kinds {r : Int32} (hL : L < 2147483648) (hi : i + 7 ≤ L) (hl : f_L_kinds P x (xs (i + 1)) (xs (i + 2)) o τ = some (k, τ1)) (hm1 : mxA τ1 m = some (.inl 12)) (hr : f_X12_kinds P m (xs (i + 1)) (xs (i + 2)) τ1 = some (r, τ2)) (hm : mxA τ2 m = some (.inl 12)) (ho : mxA τ2 o = some (.inr (1, 1))) (ht : mxI τ2 m 0 = k) (hv : k = 0 → mxL τ2 o 0 = r.toInt64) : f_L_law_D2649_23 P L xs b x m o (q_n i) τ = some (.inl (q_n (i + 7), τ2)) := by
  have e1 : mt_x L xs (q_n i + (1 : Int32)) = some (xs (i + 1)) := mt_xn (j := 1) hL (by omega); have e2 : mt_x L xs (q_n i + (2 : Int32)) = some (xs (i + 2)) := mt_xn (j := 2) hL (by omega)
  unfold f_L_law_D2649_23 f_L_law_D2714_23
  simp only [e1, e2, Option.bind_some, hl, q_b2, q_is hm1, hr, q_is hm, k_thrown hm, ht, if_true, lw_rest]
  by_cases hk : k = 0
  · rw [if_pos hk, q_o0 ho, hv hk, Option.bind_some, if_pos (q_cmp0.mpr rfl)]
  · rw [if_neg hk]
theorem hr_kinds {r : Int32} {a1 : Int32} {a2 : Int32} (hx : mxA τ x = some (.inl 11)) (hc : f_X11_kinds P x a1 a2 τ = some (.inr (r, τ1))) (ho : mxA τ1 o = some (.inr (1, 1))) (hob : mpb P ≤ o) : f_L_kinds P x a1 a2 o τ = some (0, mx_setL τ1 o 0 r.toInt64) := by
  unfold f_L_kinds
  rw [q_is hx, Option.bind_some, hc, q_try_r, show (0 : Int32) = q_n 0 from rfl, q_sLn ho (by omega) (by omega) hob]; rfl
theorem ht_kinds1 {a1 : Int32} {a2 : Int32} (hx : mxA τ x = some (.inl 11)) (hc : f_X11_kinds P x a1 a2 τ = some (.inl ("java/lang/IllegalArgumentException", τ1))) : f_L_kinds P x a1 a2 o τ = some (1, τ1) := by
  unfold f_L_kinds
  rw [q_is hx, Option.bind_some, hc, q_try_l]; rfl
theorem lw_kind {r : Int32} (hL : L < 2147483648) (hi : i + 7 ≤ L) (hl : f_L_kind P x (xs (i + 1)) o τ = some (k, τ1)) (hm1 : mxA τ1 m = some (.inl 12)) (hr : f_X12_kind P m (xs (i + 1)) τ1 = some (r, τ2)) (hm : mxA τ2 m = some (.inl 12)) (ho : mxA τ2 o = some (.inr (1, 1))) (ht : mxI τ2 m 0 = k) (hv : k = 0 → mxL τ2 o 0 = r.toInt64) : f_L_law_D2717_23 P L xs b x m o (q_n i) τ = some (.inl (q_n (i + 7), τ2)) := by
  have e1 : mt_x L xs (q_n i + (1 : Int32)) = some (xs (i + 1)) := mt_xn (j := 1) hL (by omega)
  unfold f_L_law_D2717_23 f_L_law_D2770_23
  simp only [e1, Option.bind_some, hl, q_b2, q_is hm1, hr, q_is hm, k_thrown hm, ht, if_true, lw_rest]
  by_cases hk : k = 0
  · rw [if_pos hk, q_o0 ho, hv hk, Option.bind_some, if_pos (q_cmp0.mpr rfl)]
  · rw [if_neg hk]
theorem hr_kind {r : Int32} {a1 : Int32} (hx : mxA τ x = some (.inl 11)) (hc : f_X11_kind P x a1 τ = some (.inr (r, τ1))) (ho : mxA τ1 o = some (.inr (1, 1))) (hob : mpb P ≤ o) : f_L_kind P x a1 o τ = some (0, mx_setL τ1 o 0 r.toInt64) := by
  unfold f_L_kind
  rw [q_is hx, Option.bind_some, hc, q_try_r, show (0 : Int32) = q_n 0 from rfl, q_sLn ho (by omega) (by omega) hob]; rfl
theorem ht_kind1 {a1 : Int32} (hx : mxA τ x = some (.inl 11)) (hc : f_X11_kind P x a1 τ = some (.inl ("java/util/NoSuchElementException", τ1))) : f_L_kind P x a1 o τ = some (1, τ1) := by
  unfold f_L_kind
  rw [q_is hx, Option.bind_some, hc, q_try_l]; rfl
theorem lw_drive {r : Int32} (hL : L < 2147483648) (hi : i + 7 ≤ L) (hl : f_L_drive P x  o τ = some (k, τ1)) (hm1 : mxA τ1 m = some (.inl 12)) (hr : f_X12_drive P m  τ1 = some (r, τ2)) (hm : mxA τ2 m = some (.inl 12)) (ho : mxA τ2 o = some (.inr (1, 1))) (ht : mxI τ2 m 0 = k) (hv : k = 0 → mxL τ2 o 0 = r.toInt64) : f_L_law_D2773_23 P L xs b x m o (q_n i) τ = some (.inl (q_n (i + 7), τ2)) := by
  unfold f_L_law_D2773_23 f_L_law_D2814_23
  simp only [Option.bind_some, hl, q_b2, q_is hm1, hr, q_is hm, k_thrown hm, ht, if_true, lw_rest]
  by_cases hk : k = 0
  · rw [if_pos hk, q_o0 ho, hv hk, Option.bind_some, if_pos (q_cmp0.mpr rfl)]
  · rw [if_neg hk]
theorem hr_drive {r : Int32} (hx : mxA τ x = some (.inl 11)) (hc : f_X11_drive P x  τ = some (.inr (r, τ1))) (ho : mxA τ1 o = some (.inr (1, 1))) (hob : mpb P ≤ o) : f_L_drive P x  o τ = some (0, mx_setL τ1 o 0 r.toInt64) := by
  unfold f_L_drive
  rw [q_is hx, Option.bind_some, hc, q_try_r, show (0 : Int32) = q_n 0 from rfl, q_sLn ho (by omega) (by omega) hob]; rfl
theorem ht_drive1 (hx : mxA τ x = some (.inl 11)) (hc : f_X11_drive P x  τ = some (.inl ("java/lang/UnsupportedOperationException", τ1))) : f_L_drive P x  o τ = some (1, τ1) := by
  unfold f_L_drive
  rw [q_is hx, Option.bind_some, hc, q_try_l]; rfl
theorem lw_event {r : Int32} (hL : L < 2147483648) (hi : i + 7 ≤ L) (hl : f_L_event P x (xs (i + 1)) (xs (i + 2)) o τ = some (k, τ1)) (hm1 : mxA τ1 m = some (.inl 12)) (hr : f_X12_event P m (xs (i + 1)) (xs (i + 2)) τ1 = some (r, τ2)) (hm : mxA τ2 m = some (.inl 12)) (ho : mxA τ2 o = some (.inr (1, 1))) (ht : mxI τ2 m 0 = k) (hv : k = 0 → mxL τ2 o 0 = r.toInt64) : f_L_law_D2817_23 P L xs b x m o (q_n i) τ = some (.inl (q_n (i + 7), τ2)) := by
  have e1 : mt_x L xs (q_n i + (1 : Int32)) = some (xs (i + 1)) := mt_xn (j := 1) hL (by omega); have e2 : mt_x L xs (q_n i + (2 : Int32)) = some (xs (i + 2)) := mt_xn (j := 2) hL (by omega)
  unfold f_L_law_D2817_23 f_L_law_D2882_23
  simp only [e1, e2, Option.bind_some, hl, q_b2, q_is hm1, hr, q_is hm, k_thrown hm, ht, if_true, lw_rest]
  by_cases hk : k = 0
  · rw [if_pos hk, q_o0 ho, hv hk, Option.bind_some, if_pos (q_cmp0.mpr rfl)]
  · rw [if_neg hk]
theorem hr_event {r : Int32} {a1 : Int32} {a2 : Int32} (hx : mxA τ x = some (.inl 11)) (hc : f_X11_event P x a1 a2 τ = some (.inr (r, τ1))) (ho : mxA τ1 o = some (.inr (1, 1))) (hob : mpb P ≤ o) : f_L_event P x a1 a2 o τ = some (0, mx_setL τ1 o 0 r.toInt64) := by
  unfold f_L_event
  rw [q_is hx, Option.bind_some, hc, q_try_r, show (0 : Int32) = q_n 0 from rfl, q_sLn ho (by omega) (by omega) hob]; rfl
theorem ht_event1 {a1 : Int32} {a2 : Int32} (hx : mxA τ x = some (.inl 11)) (hc : f_X11_event P x a1 a2 τ = some (.inl ("java/lang/IllegalArgumentException", τ1))) : f_L_event P x a1 a2 o τ = some (1, τ1) := by
  unfold f_L_event
  rw [q_is hx, Option.bind_some, hc, q_try_l]; rfl
theorem ht_event2 {a1 : Int32} {a2 : Int32} (hx : mxA τ x = some (.inl 11)) (hc : f_X11_event P x a1 a2 τ = some (.inl ("java/util/NoSuchElementException", τ1))) : f_L_event P x a1 a2 o τ = some (2, τ1) := by
  unfold f_L_event
  rw [q_is hx, Option.bind_some, hc, q_try_l]; rfl
theorem lw_count {r : Int32} (hL : L < 2147483648) (hi : i + 7 ≤ L) (hx : mxA τ x = some (.inl 11)) (hl : f_X11_count P x (xs (i + 1)) τ = some (r, τ1)) (hm1 : mxA τ1 m = some (.inl 12)) (hr : f_X12_count P m (xs (i + 1)) τ1 = some (r, τ2)) : f_L_law_D2885_23 P L xs b x m o (q_n i) τ = some (.inl (q_n (i + 7), τ2)) := by
  have e1 : mt_x L xs (q_n i + (1 : Int32)) = some (xs (i + 1)) := mt_xn (j := 1) hL (by omega)
  unfold f_L_law_D2885_23
  simp only [e1, Option.bind_some, q_is hx, hl, q_b2, q_is hm1, hr, if_true, lw_rest]
end Q8
