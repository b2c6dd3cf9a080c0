def hv_c : FieldType → Nat := fun t => match t with
  | .long => 1
  | .object _ => 2
  | .array _ => 2
  | _ => 0
theorem hv_i {ci k : Nat} (h : hv_c (mx_ty ci k) = 0) : ∀ x y r, mx_val (mx_ty ci k) x y r = .int x := by
  intro x y r
  generalize mx_ty ci k = t at h ⊢
  cases t <;> first | rfl | exact absurd (show (1 : Nat) = 0 from h) (by decide) | exact absurd (show (2 : Nat) = 0 from h) (by decide)
theorem hv_l {ci k : Nat} (h : hv_c (mx_ty ci k) = 1) : ∀ x y r, mx_val (mx_ty ci k) x y r = .long y := by
  intro x y r
  generalize mx_ty ci k = t at h ⊢
  cases t <;> first | rfl | exact absurd (show (0 : Nat) = 1 from h) (by decide) | exact absurd (show (2 : Nat) = 1 from h) (by decide)
theorem hv_r {ci k : Nat} (h : hv_c (mx_ty ci k) = 2) : ∀ x y r, mx_val (mx_ty ci k) x y r = va_rf r := by
  intro x y r
  generalize mx_ty ci k = t at h ⊢
  cases t <;> first | rfl | exact absurd (show (0 : Nat) = 2 from h) (by decide) | exact absurd (show (1 : Nat) = 2 from h) (by decide)
theorem hv_f {ci k : Nat} (h : hv_c (mx_ty ci k) = 2) : mx_ft ci k := by
  unfold mx_ft
  generalize mx_ty ci k = t at h ⊢
  cases t <;> first | exact ⟨fun _ => rfl, fun _ => rfl, fun _ _ _ => rfl⟩ | exact absurd (show (0 : Nat) = 2 from h) (by decide) | exact absurd (show (1 : Nat) = 2 from h) (by decide)
theorem ht_0_0 : mx_ty 0 0 = .long := by decide +kernel
theorem ht_0_1 : mx_ty 0 1 = .long := by decide +kernel
theorem ht_0_2 : mx_ty 0 2 = .boolean := by decide +kernel
theorem ht_1_0 : mx_ty 1 0 = .int := by decide +kernel
theorem ht_10_1 : mx_ty 10 1 = .int := by decide +kernel
theorem ht_10_10 : mx_ty 10 10 = .int := by decide +kernel
theorem ht_10_11 : mx_ty 10 11 = .int := by decide +kernel
theorem ht_10_12 : mx_ty 10 12 = .int := by decide +kernel
theorem ht_10_19 : mx_ty 10 19 = .int := by decide +kernel
theorem ht_10_2 : mx_ty 10 2 = .int := by decide +kernel
theorem ht_10_3 : mx_ty 10 3 = .int := by decide +kernel
theorem ht_10_4 : mx_ty 10 4 = .int := by decide +kernel
theorem ht_10_5 : mx_ty 10 5 = .int := by decide +kernel
theorem ht_10_6 : mx_ty 10 6 = .int := by decide +kernel
theorem ht_10_7 : mx_ty 10 7 = .long := by decide +kernel
theorem ht_10_8 : mx_ty 10 8 = .int := by decide +kernel
theorem ht_10_9 : mx_ty 10 9 = .int := by decide +kernel
theorem ht_12_0 : mx_ty 12 0 = .int := by decide +kernel
theorem ht_12_10 : mx_ty 12 10 = .boolean := by decide +kernel
theorem ht_12_102 : mx_ty 12 102 = .int := by decide +kernel
theorem ht_12_103 : mx_ty 12 103 = .int := by decide +kernel
theorem ht_12_105 : mx_ty 12 105 = .int := by decide +kernel
theorem ht_12_112 : mx_ty 12 112 = .int := by decide +kernel
theorem ht_12_113 : mx_ty 12 113 = .int := by decide +kernel
theorem ht_12_14 : mx_ty 12 14 = .int := by decide +kernel
theorem ht_12_15 : mx_ty 12 15 = .int := by decide +kernel
theorem ht_12_16 : mx_ty 12 16 = .int := by decide +kernel
theorem ht_12_17 : mx_ty 12 17 = .long := by decide +kernel
theorem ht_12_18 : mx_ty 12 18 = .long := by decide +kernel
theorem ht_12_19 : mx_ty 12 19 = .int := by decide +kernel
theorem ht_12_2 : mx_ty 12 2 = .int := by decide +kernel
theorem ht_12_20 : mx_ty 12 20 = .int := by decide +kernel
theorem ht_12_3 : mx_ty 12 3 = .int := by decide +kernel
theorem ht_12_38 : mx_ty 12 38 = .int := by decide +kernel
theorem ht_12_4 : mx_ty 12 4 = .int := by decide +kernel
theorem ht_12_5 : mx_ty 12 5 = .int := by decide +kernel
theorem ht_12_50 : mx_ty 12 50 = .int := by decide +kernel
theorem ht_12_53 : mx_ty 12 53 = .int := by decide +kernel
theorem ht_12_54 : mx_ty 12 54 = .boolean := by decide +kernel
theorem ht_12_55 : mx_ty 12 55 = .boolean := by decide +kernel
theorem ht_12_57 : mx_ty 12 57 = .int := by decide +kernel
theorem ht_12_6 : mx_ty 12 6 = .int := by decide +kernel
theorem ht_12_60 : mx_ty 12 60 = .int := by decide +kernel
theorem ht_12_68 : mx_ty 12 68 = .int := by decide +kernel
theorem ht_12_7 : mx_ty 12 7 = .int := by decide +kernel
theorem ht_12_72 : mx_ty 12 72 = .int := by decide +kernel
theorem ht_12_74 : mx_ty 12 74 = .int := by decide +kernel
theorem ht_12_8 : mx_ty 12 8 = .long := by decide +kernel
theorem ht_12_80 : mx_ty 12 80 = .int := by decide +kernel
theorem ht_12_89 : mx_ty 12 89 = .long := by decide +kernel
theorem ht_12_9 : mx_ty 12 9 = .long := by decide +kernel
theorem ht_12_90 : mx_ty 12 90 = .long := by decide +kernel
theorem ht_12_91 : mx_ty 12 91 = .int := by decide +kernel
theorem ht_12_95 : mx_ty 12 95 = .int := by decide +kernel
theorem ht_2_0 : mx_ty 2 0 = .int := by decide +kernel
theorem ht_2_1 : mx_ty 2 1 = .int := by decide +kernel
theorem ht_2_3 : mx_ty 2 3 = .int := by decide +kernel
theorem ht_2_4 : mx_ty 2 4 = .int := by decide +kernel
theorem ht_3_0 : mx_ty 3 0 = .long := by decide +kernel
theorem ht_3_1 : mx_ty 3 1 = .long := by decide +kernel
theorem ht_3_2 : mx_ty 3 2 = .boolean := by decide +kernel
theorem ht_4_0 : mx_ty 4 0 = .int := by decide +kernel
theorem ht_4_1 : mx_ty 4 1 = .int := by decide +kernel
theorem ht_4_13 : mx_ty 4 13 = .int := by decide +kernel
theorem ht_4_14 : mx_ty 4 14 = .int := by decide +kernel
theorem ht_4_2 : mx_ty 4 2 = .int := by decide +kernel
theorem ht_5_0 : mx_ty 5 0 = .long := by decide +kernel
theorem ht_5_1 : mx_ty 5 1 = .int := by decide +kernel
theorem ht_5_15 : mx_ty 5 15 = .int := by decide +kernel
theorem ht_5_16 : mx_ty 5 16 = .boolean := by decide +kernel
theorem ht_5_17 : mx_ty 5 17 = .int := by decide +kernel
theorem ht_5_18 : mx_ty 5 18 = .int := by decide +kernel
theorem ht_5_19 : mx_ty 5 19 = .int := by decide +kernel
theorem ht_5_3 : mx_ty 5 3 = .int := by decide +kernel
theorem ht_5_4 : mx_ty 5 4 = .int := by decide +kernel
theorem ht_5_5 : mx_ty 5 5 = .int := by decide +kernel
theorem ht_5_6 : mx_ty 5 6 = .boolean := by decide +kernel
theorem ht_5_7 : mx_ty 5 7 = .int := by decide +kernel
theorem ht_5_8 : mx_ty 5 8 = .int := by decide +kernel
theorem ht_6_0 : mx_ty 6 0 = .int := by decide +kernel
theorem ht_6_2 : mx_ty 6 2 = .int := by decide +kernel
theorem ht_6_3 : mx_ty 6 3 = .int := by decide +kernel
theorem ht_7_10 : mx_ty 7 10 = .boolean := by decide +kernel
theorem ht_7_2 : mx_ty 7 2 = .int := by decide +kernel
theorem ht_7_3 : mx_ty 7 3 = .int := by decide +kernel
theorem ht_7_6 : mx_ty 7 6 = .int := by decide +kernel
theorem ht_7_9 : mx_ty 7 9 = .int := by decide +kernel
theorem ht_9_0 : mx_ty 9 0 = .int := by decide +kernel
theorem hv_0_0 : ∀ x y r, mx_val (mx_ty 0 0) x y r = .long y := hv_l (by decide +kernel)
theorem hv_0_1 : ∀ x y r, mx_val (mx_ty 0 1) x y r = .long y := hv_l (by decide +kernel)
theorem hv_0_2 : ∀ x y r, mx_val (mx_ty 0 2) x y r = .int x := hv_i (by decide +kernel)
theorem hv_1_0 : ∀ x y r, mx_val (mx_ty 1 0) x y r = .int x := hv_i (by decide +kernel)
theorem hv_1_1 : ∀ x y r, mx_val (mx_ty 1 1) x y r = va_rf r := hv_r (by decide +kernel)
theorem hv_1_2 : ∀ x y r, mx_val (mx_ty 1 2) x y r = va_rf r := hv_r (by decide +kernel)
theorem hv_1_3 : ∀ x y r, mx_val (mx_ty 1 3) x y r = va_rf r := hv_r (by decide +kernel)
theorem hv_1_4 : ∀ x y r, mx_val (mx_ty 1 4) x y r = va_rf r := hv_r (by decide +kernel)
theorem hv_1_5 : ∀ x y r, mx_val (mx_ty 1 5) x y r = va_rf r := hv_r (by decide +kernel)
theorem hv_1_6 : ∀ x y r, mx_val (mx_ty 1 6) x y r = va_rf r := hv_r (by decide +kernel)
theorem hv_1_7 : ∀ x y r, mx_val (mx_ty 1 7) x y r = va_rf r := hv_r (by decide +kernel)
theorem hv_10_0 : ∀ x y r, mx_val (mx_ty 10 0) x y r = va_rf r := hv_r (by decide +kernel)
theorem hv_10_1 : ∀ x y r, mx_val (mx_ty 10 1) x y r = .int x := hv_i (by decide +kernel)
theorem hv_10_10 : ∀ x y r, mx_val (mx_ty 10 10) x y r = .int x := hv_i (by decide +kernel)
theorem hv_10_11 : ∀ x y r, mx_val (mx_ty 10 11) x y r = .int x := hv_i (by decide +kernel)
theorem hv_10_12 : ∀ x y r, mx_val (mx_ty 10 12) x y r = .int x := hv_i (by decide +kernel)
theorem hv_10_13 : ∀ x y r, mx_val (mx_ty 10 13) x y r = va_rf r := hv_r (by decide +kernel)
theorem hv_10_14 : ∀ x y r, mx_val (mx_ty 10 14) x y r = va_rf r := hv_r (by decide +kernel)
theorem hv_10_15 : ∀ x y r, mx_val (mx_ty 10 15) x y r = va_rf r := hv_r (by decide +kernel)
theorem hv_10_16 : ∀ x y r, mx_val (mx_ty 10 16) x y r = va_rf r := hv_r (by decide +kernel)
theorem hv_10_17 : ∀ x y r, mx_val (mx_ty 10 17) x y r = va_rf r := hv_r (by decide +kernel)
theorem hv_10_18 : ∀ x y r, mx_val (mx_ty 10 18) x y r = va_rf r := hv_r (by decide +kernel)
theorem hv_10_19 : ∀ x y r, mx_val (mx_ty 10 19) x y r = .int x := hv_i (by decide +kernel)
theorem hv_10_2 : ∀ x y r, mx_val (mx_ty 10 2) x y r = .int x := hv_i (by decide +kernel)
theorem hv_10_3 : ∀ x y r, mx_val (mx_ty 10 3) x y r = .int x := hv_i (by decide +kernel)
theorem hv_10_4 : ∀ x y r, mx_val (mx_ty 10 4) x y r = .int x := hv_i (by decide +kernel)
theorem hv_10_5 : ∀ x y r, mx_val (mx_ty 10 5) x y r = .int x := hv_i (by decide +kernel)
theorem hv_10_6 : ∀ x y r, mx_val (mx_ty 10 6) x y r = .int x := hv_i (by decide +kernel)
theorem hv_10_7 : ∀ x y r, mx_val (mx_ty 10 7) x y r = .long y := hv_l (by decide +kernel)
theorem hv_10_8 : ∀ x y r, mx_val (mx_ty 10 8) x y r = .int x := hv_i (by decide +kernel)
theorem hv_10_9 : ∀ x y r, mx_val (mx_ty 10 9) x y r = .int x := hv_i (by decide +kernel)
theorem hv_11_0 : ∀ x y r, mx_val (mx_ty 11 0) x y r = va_rf r := hv_r (by decide +kernel)
theorem hv_11_1 : ∀ x y r, mx_val (mx_ty 11 1) x y r = va_rf r := hv_r (by decide +kernel)
theorem hv_11_2 : ∀ x y r, mx_val (mx_ty 11 2) x y r = va_rf r := hv_r (by decide +kernel)
theorem hv_11_3 : ∀ x y r, mx_val (mx_ty 11 3) x y r = va_rf r := hv_r (by decide +kernel)
theorem hv_11_4 : ∀ x y r, mx_val (mx_ty 11 4) x y r = va_rf r := hv_r (by decide +kernel)
theorem hv_11_5 : ∀ x y r, mx_val (mx_ty 11 5) x y r = va_rf r := hv_r (by decide +kernel)
theorem hv_11_6 : ∀ x y r, mx_val (mx_ty 11 6) x y r = va_rf r := hv_r (by decide +kernel)
theorem hv_11_7 : ∀ x y r, mx_val (mx_ty 11 7) x y r = va_rf r := hv_r (by decide +kernel)
theorem hv_11_8 : ∀ x y r, mx_val (mx_ty 11 8) x y r = va_rf r := hv_r (by decide +kernel)
theorem hv_11_9 : ∀ x y r, mx_val (mx_ty 11 9) x y r = va_rf r := hv_r (by decide +kernel)
theorem hv_12_0 : ∀ x y r, mx_val (mx_ty 12 0) x y r = .int x := hv_i (by decide +kernel)
theorem hv_12_1 : ∀ x y r, mx_val (mx_ty 12 1) x y r = va_rf r := hv_r (by decide +kernel)
theorem hv_12_10 : ∀ x y r, mx_val (mx_ty 12 10) x y r = .int x := hv_i (by decide +kernel)
theorem hv_12_100 : ∀ x y r, mx_val (mx_ty 12 100) x y r = va_rf r := hv_r (by decide +kernel)
theorem hv_12_101 : ∀ x y r, mx_val (mx_ty 12 101) x y r = va_rf r := hv_r (by decide +kernel)
theorem hv_12_102 : ∀ x y r, mx_val (mx_ty 12 102) x y r = .int x := hv_i (by decide +kernel)
theorem hv_12_103 : ∀ x y r, mx_val (mx_ty 12 103) x y r = .int x := hv_i (by decide +kernel)
theorem hv_12_104 : ∀ x y r, mx_val (mx_ty 12 104) x y r = va_rf r := hv_r (by decide +kernel)
theorem hv_12_105 : ∀ x y r, mx_val (mx_ty 12 105) x y r = .int x := hv_i (by decide +kernel)
theorem hv_12_106 : ∀ x y r, mx_val (mx_ty 12 106) x y r = va_rf r := hv_r (by decide +kernel)
theorem hv_12_107 : ∀ x y r, mx_val (mx_ty 12 107) x y r = va_rf r := hv_r (by decide +kernel)
theorem hv_12_108 : ∀ x y r, mx_val (mx_ty 12 108) x y r = va_rf r := hv_r (by decide +kernel)
theorem hv_12_109 : ∀ x y r, mx_val (mx_ty 12 109) x y r = va_rf r := hv_r (by decide +kernel)
theorem hv_12_11 : ∀ x y r, mx_val (mx_ty 12 11) x y r = va_rf r := hv_r (by decide +kernel)
theorem hv_12_110 : ∀ x y r, mx_val (mx_ty 12 110) x y r = va_rf r := hv_r (by decide +kernel)
theorem hv_12_111 : ∀ x y r, mx_val (mx_ty 12 111) x y r = va_rf r := hv_r (by decide +kernel)
theorem hv_12_112 : ∀ x y r, mx_val (mx_ty 12 112) x y r = .int x := hv_i (by decide +kernel)
theorem hv_12_113 : ∀ x y r, mx_val (mx_ty 12 113) x y r = .int x := hv_i (by decide +kernel)
theorem hv_12_12 : ∀ x y r, mx_val (mx_ty 12 12) x y r = va_rf r := hv_r (by decide +kernel)
theorem hv_12_13 : ∀ x y r, mx_val (mx_ty 12 13) x y r = va_rf r := hv_r (by decide +kernel)
theorem hv_12_14 : ∀ x y r, mx_val (mx_ty 12 14) x y r = .int x := hv_i (by decide +kernel)
theorem hv_12_15 : ∀ x y r, mx_val (mx_ty 12 15) x y r = .int x := hv_i (by decide +kernel)
theorem hv_12_16 : ∀ x y r, mx_val (mx_ty 12 16) x y r = .int x := hv_i (by decide +kernel)
theorem hv_12_17 : ∀ x y r, mx_val (mx_ty 12 17) x y r = .long y := hv_l (by decide +kernel)
theorem hv_12_18 : ∀ x y r, mx_val (mx_ty 12 18) x y r = .long y := hv_l (by decide +kernel)
theorem hv_12_19 : ∀ x y r, mx_val (mx_ty 12 19) x y r = .int x := hv_i (by decide +kernel)
theorem hv_12_2 : ∀ x y r, mx_val (mx_ty 12 2) x y r = .int x := hv_i (by decide +kernel)
theorem hv_12_20 : ∀ x y r, mx_val (mx_ty 12 20) x y r = .int x := hv_i (by decide +kernel)
theorem hv_12_21 : ∀ x y r, mx_val (mx_ty 12 21) x y r = va_rf r := hv_r (by decide +kernel)
theorem hv_12_22 : ∀ x y r, mx_val (mx_ty 12 22) x y r = va_rf r := hv_r (by decide +kernel)
theorem hv_12_23 : ∀ x y r, mx_val (mx_ty 12 23) x y r = va_rf r := hv_r (by decide +kernel)
theorem hv_12_24 : ∀ x y r, mx_val (mx_ty 12 24) x y r = va_rf r := hv_r (by decide +kernel)
theorem hv_12_25 : ∀ x y r, mx_val (mx_ty 12 25) x y r = va_rf r := hv_r (by decide +kernel)
theorem hv_12_26 : ∀ x y r, mx_val (mx_ty 12 26) x y r = va_rf r := hv_r (by decide +kernel)
theorem hv_12_27 : ∀ x y r, mx_val (mx_ty 12 27) x y r = va_rf r := hv_r (by decide +kernel)
theorem hv_12_28 : ∀ x y r, mx_val (mx_ty 12 28) x y r = va_rf r := hv_r (by decide +kernel)
theorem hv_12_29 : ∀ x y r, mx_val (mx_ty 12 29) x y r = va_rf r := hv_r (by decide +kernel)
theorem hv_12_3 : ∀ x y r, mx_val (mx_ty 12 3) x y r = .int x := hv_i (by decide +kernel)
theorem hv_12_30 : ∀ x y r, mx_val (mx_ty 12 30) x y r = va_rf r := hv_r (by decide +kernel)
theorem hv_12_31 : ∀ x y r, mx_val (mx_ty 12 31) x y r = va_rf r := hv_r (by decide +kernel)
theorem hv_12_32 : ∀ x y r, mx_val (mx_ty 12 32) x y r = va_rf r := hv_r (by decide +kernel)
theorem hv_12_33 : ∀ x y r, mx_val (mx_ty 12 33) x y r = va_rf r := hv_r (by decide +kernel)
theorem hv_12_34 : ∀ x y r, mx_val (mx_ty 12 34) x y r = va_rf r := hv_r (by decide +kernel)
theorem hv_12_35 : ∀ x y r, mx_val (mx_ty 12 35) x y r = va_rf r := hv_r (by decide +kernel)
theorem hv_12_36 : ∀ x y r, mx_val (mx_ty 12 36) x y r = va_rf r := hv_r (by decide +kernel)
theorem hv_12_37 : ∀ x y r, mx_val (mx_ty 12 37) x y r = va_rf r := hv_r (by decide +kernel)
theorem hv_12_38 : ∀ x y r, mx_val (mx_ty 12 38) x y r = .int x := hv_i (by decide +kernel)
theorem hv_12_39 : ∀ x y r, mx_val (mx_ty 12 39) x y r = va_rf r := hv_r (by decide +kernel)
theorem hv_12_4 : ∀ x y r, mx_val (mx_ty 12 4) x y r = .int x := hv_i (by decide +kernel)
theorem hv_12_40 : ∀ x y r, mx_val (mx_ty 12 40) x y r = va_rf r := hv_r (by decide +kernel)
theorem hv_12_41 : ∀ x y r, mx_val (mx_ty 12 41) x y r = va_rf r := hv_r (by decide +kernel)
theorem hv_12_42 : ∀ x y r, mx_val (mx_ty 12 42) x y r = va_rf r := hv_r (by decide +kernel)
theorem hv_12_43 : ∀ x y r, mx_val (mx_ty 12 43) x y r = va_rf r := hv_r (by decide +kernel)
theorem hv_12_44 : ∀ x y r, mx_val (mx_ty 12 44) x y r = va_rf r := hv_r (by decide +kernel)
theorem hv_12_45 : ∀ x y r, mx_val (mx_ty 12 45) x y r = va_rf r := hv_r (by decide +kernel)
theorem hv_12_46 : ∀ x y r, mx_val (mx_ty 12 46) x y r = va_rf r := hv_r (by decide +kernel)
theorem hv_12_47 : ∀ x y r, mx_val (mx_ty 12 47) x y r = va_rf r := hv_r (by decide +kernel)
theorem hv_12_48 : ∀ x y r, mx_val (mx_ty 12 48) x y r = va_rf r := hv_r (by decide +kernel)
theorem hv_12_49 : ∀ x y r, mx_val (mx_ty 12 49) x y r = va_rf r := hv_r (by decide +kernel)
theorem hv_12_5 : ∀ x y r, mx_val (mx_ty 12 5) x y r = .int x := hv_i (by decide +kernel)
theorem hv_12_50 : ∀ x y r, mx_val (mx_ty 12 50) x y r = .int x := hv_i (by decide +kernel)
theorem hv_12_51 : ∀ x y r, mx_val (mx_ty 12 51) x y r = va_rf r := hv_r (by decide +kernel)
theorem hv_12_52 : ∀ x y r, mx_val (mx_ty 12 52) x y r = va_rf r := hv_r (by decide +kernel)
theorem hv_12_53 : ∀ x y r, mx_val (mx_ty 12 53) x y r = .int x := hv_i (by decide +kernel)
theorem hv_12_54 : ∀ x y r, mx_val (mx_ty 12 54) x y r = .int x := hv_i (by decide +kernel)
theorem hv_12_55 : ∀ x y r, mx_val (mx_ty 12 55) x y r = .int x := hv_i (by decide +kernel)
theorem hv_12_56 : ∀ x y r, mx_val (mx_ty 12 56) x y r = va_rf r := hv_r (by decide +kernel)
theorem hv_12_57 : ∀ x y r, mx_val (mx_ty 12 57) x y r = .int x := hv_i (by decide +kernel)
theorem hv_12_58 : ∀ x y r, mx_val (mx_ty 12 58) x y r = va_rf r := hv_r (by decide +kernel)
theorem hv_12_59 : ∀ x y r, mx_val (mx_ty 12 59) x y r = va_rf r := hv_r (by decide +kernel)
theorem hv_12_6 : ∀ x y r, mx_val (mx_ty 12 6) x y r = .int x := hv_i (by decide +kernel)
theorem hv_12_60 : ∀ x y r, mx_val (mx_ty 12 60) x y r = .int x := hv_i (by decide +kernel)
theorem hv_12_61 : ∀ x y r, mx_val (mx_ty 12 61) x y r = va_rf r := hv_r (by decide +kernel)
theorem hv_12_62 : ∀ x y r, mx_val (mx_ty 12 62) x y r = va_rf r := hv_r (by decide +kernel)
theorem hv_12_63 : ∀ x y r, mx_val (mx_ty 12 63) x y r = va_rf r := hv_r (by decide +kernel)
theorem hv_12_64 : ∀ x y r, mx_val (mx_ty 12 64) x y r = va_rf r := hv_r (by decide +kernel)
theorem hv_12_65 : ∀ x y r, mx_val (mx_ty 12 65) x y r = va_rf r := hv_r (by decide +kernel)
theorem hv_12_66 : ∀ x y r, mx_val (mx_ty 12 66) x y r = va_rf r := hv_r (by decide +kernel)
theorem hv_12_67 : ∀ x y r, mx_val (mx_ty 12 67) x y r = va_rf r := hv_r (by decide +kernel)
theorem hv_12_68 : ∀ x y r, mx_val (mx_ty 12 68) x y r = .int x := hv_i (by decide +kernel)
theorem hv_12_69 : ∀ x y r, mx_val (mx_ty 12 69) x y r = va_rf r := hv_r (by decide +kernel)
theorem hv_12_7 : ∀ x y r, mx_val (mx_ty 12 7) x y r = .int x := hv_i (by decide +kernel)
theorem hv_12_70 : ∀ x y r, mx_val (mx_ty 12 70) x y r = va_rf r := hv_r (by decide +kernel)
theorem hv_12_71 : ∀ x y r, mx_val (mx_ty 12 71) x y r = va_rf r := hv_r (by decide +kernel)
theorem hv_12_72 : ∀ x y r, mx_val (mx_ty 12 72) x y r = .int x := hv_i (by decide +kernel)
theorem hv_12_73 : ∀ x y r, mx_val (mx_ty 12 73) x y r = va_rf r := hv_r (by decide +kernel)
theorem hv_12_74 : ∀ x y r, mx_val (mx_ty 12 74) x y r = .int x := hv_i (by decide +kernel)
theorem hv_12_75 : ∀ x y r, mx_val (mx_ty 12 75) x y r = va_rf r := hv_r (by decide +kernel)
theorem hv_12_76 : ∀ x y r, mx_val (mx_ty 12 76) x y r = va_rf r := hv_r (by decide +kernel)
theorem hv_12_77 : ∀ x y r, mx_val (mx_ty 12 77) x y r = va_rf r := hv_r (by decide +kernel)
theorem hv_12_78 : ∀ x y r, mx_val (mx_ty 12 78) x y r = va_rf r := hv_r (by decide +kernel)
theorem hv_12_79 : ∀ x y r, mx_val (mx_ty 12 79) x y r = va_rf r := hv_r (by decide +kernel)
theorem hv_12_8 : ∀ x y r, mx_val (mx_ty 12 8) x y r = .long y := hv_l (by decide +kernel)
theorem hv_12_80 : ∀ x y r, mx_val (mx_ty 12 80) x y r = .int x := hv_i (by decide +kernel)
theorem hv_12_81 : ∀ x y r, mx_val (mx_ty 12 81) x y r = va_rf r := hv_r (by decide +kernel)
theorem hv_12_82 : ∀ x y r, mx_val (mx_ty 12 82) x y r = va_rf r := hv_r (by decide +kernel)
theorem hv_12_83 : ∀ x y r, mx_val (mx_ty 12 83) x y r = va_rf r := hv_r (by decide +kernel)
theorem hv_12_84 : ∀ x y r, mx_val (mx_ty 12 84) x y r = va_rf r := hv_r (by decide +kernel)
theorem hv_12_85 : ∀ x y r, mx_val (mx_ty 12 85) x y r = va_rf r := hv_r (by decide +kernel)
theorem hv_12_86 : ∀ x y r, mx_val (mx_ty 12 86) x y r = va_rf r := hv_r (by decide +kernel)
theorem hv_12_87 : ∀ x y r, mx_val (mx_ty 12 87) x y r = va_rf r := hv_r (by decide +kernel)
theorem hv_12_88 : ∀ x y r, mx_val (mx_ty 12 88) x y r = va_rf r := hv_r (by decide +kernel)
theorem hv_12_89 : ∀ x y r, mx_val (mx_ty 12 89) x y r = .long y := hv_l (by decide +kernel)
theorem hv_12_9 : ∀ x y r, mx_val (mx_ty 12 9) x y r = .long y := hv_l (by decide +kernel)
theorem hv_12_90 : ∀ x y r, mx_val (mx_ty 12 90) x y r = .long y := hv_l (by decide +kernel)
theorem hv_12_91 : ∀ x y r, mx_val (mx_ty 12 91) x y r = .int x := hv_i (by decide +kernel)
theorem hv_12_92 : ∀ x y r, mx_val (mx_ty 12 92) x y r = va_rf r := hv_r (by decide +kernel)
theorem hv_12_93 : ∀ x y r, mx_val (mx_ty 12 93) x y r = va_rf r := hv_r (by decide +kernel)
theorem hv_12_94 : ∀ x y r, mx_val (mx_ty 12 94) x y r = va_rf r := hv_r (by decide +kernel)
theorem hv_12_95 : ∀ x y r, mx_val (mx_ty 12 95) x y r = .int x := hv_i (by decide +kernel)
theorem hv_12_96 : ∀ x y r, mx_val (mx_ty 12 96) x y r = va_rf r := hv_r (by decide +kernel)
theorem hv_12_97 : ∀ x y r, mx_val (mx_ty 12 97) x y r = va_rf r := hv_r (by decide +kernel)
theorem hv_12_98 : ∀ x y r, mx_val (mx_ty 12 98) x y r = va_rf r := hv_r (by decide +kernel)
theorem hv_12_99 : ∀ x y r, mx_val (mx_ty 12 99) x y r = va_rf r := hv_r (by decide +kernel)
theorem hv_2_0 : ∀ x y r, mx_val (mx_ty 2 0) x y r = .int x := hv_i (by decide +kernel)
theorem hv_2_1 : ∀ x y r, mx_val (mx_ty 2 1) x y r = .int x := hv_i (by decide +kernel)
theorem hv_2_10 : ∀ x y r, mx_val (mx_ty 2 10) x y r = va_rf r := hv_r (by decide +kernel)
theorem hv_2_2 : ∀ x y r, mx_val (mx_ty 2 2) x y r = va_rf r := hv_r (by decide +kernel)
theorem hv_2_3 : ∀ x y r, mx_val (mx_ty 2 3) x y r = .int x := hv_i (by decide +kernel)
theorem hv_2_4 : ∀ x y r, mx_val (mx_ty 2 4) x y r = .int x := hv_i (by decide +kernel)
theorem hv_2_5 : ∀ x y r, mx_val (mx_ty 2 5) x y r = va_rf r := hv_r (by decide +kernel)
theorem hv_2_6 : ∀ x y r, mx_val (mx_ty 2 6) x y r = va_rf r := hv_r (by decide +kernel)
theorem hv_2_7 : ∀ x y r, mx_val (mx_ty 2 7) x y r = va_rf r := hv_r (by decide +kernel)
theorem hv_2_8 : ∀ x y r, mx_val (mx_ty 2 8) x y r = va_rf r := hv_r (by decide +kernel)
theorem hv_2_9 : ∀ x y r, mx_val (mx_ty 2 9) x y r = va_rf r := hv_r (by decide +kernel)
theorem hv_3_0 : ∀ x y r, mx_val (mx_ty 3 0) x y r = .long y := hv_l (by decide +kernel)
theorem hv_3_1 : ∀ x y r, mx_val (mx_ty 3 1) x y r = .long y := hv_l (by decide +kernel)
theorem hv_3_2 : ∀ x y r, mx_val (mx_ty 3 2) x y r = .int x := hv_i (by decide +kernel)
theorem hv_4_0 : ∀ x y r, mx_val (mx_ty 4 0) x y r = .int x := hv_i (by decide +kernel)
theorem hv_4_1 : ∀ x y r, mx_val (mx_ty 4 1) x y r = .int x := hv_i (by decide +kernel)
theorem hv_4_10 : ∀ x y r, mx_val (mx_ty 4 10) x y r = va_rf r := hv_r (by decide +kernel)
theorem hv_4_11 : ∀ x y r, mx_val (mx_ty 4 11) x y r = va_rf r := hv_r (by decide +kernel)
theorem hv_4_12 : ∀ x y r, mx_val (mx_ty 4 12) x y r = va_rf r := hv_r (by decide +kernel)
theorem hv_4_13 : ∀ x y r, mx_val (mx_ty 4 13) x y r = .int x := hv_i (by decide +kernel)
theorem hv_4_14 : ∀ x y r, mx_val (mx_ty 4 14) x y r = .int x := hv_i (by decide +kernel)
theorem hv_4_15 : ∀ x y r, mx_val (mx_ty 4 15) x y r = va_rf r := hv_r (by decide +kernel)
theorem hv_4_16 : ∀ x y r, mx_val (mx_ty 4 16) x y r = va_rf r := hv_r (by decide +kernel)
theorem hv_4_17 : ∀ x y r, mx_val (mx_ty 4 17) x y r = va_rf r := hv_r (by decide +kernel)
theorem hv_4_2 : ∀ x y r, mx_val (mx_ty 4 2) x y r = .int x := hv_i (by decide +kernel)
theorem hv_4_3 : ∀ x y r, mx_val (mx_ty 4 3) x y r = va_rf r := hv_r (by decide +kernel)
theorem hv_4_4 : ∀ x y r, mx_val (mx_ty 4 4) x y r = va_rf r := hv_r (by decide +kernel)
theorem hv_4_5 : ∀ x y r, mx_val (mx_ty 4 5) x y r = va_rf r := hv_r (by decide +kernel)
theorem hv_4_6 : ∀ x y r, mx_val (mx_ty 4 6) x y r = va_rf r := hv_r (by decide +kernel)
theorem hv_4_7 : ∀ x y r, mx_val (mx_ty 4 7) x y r = va_rf r := hv_r (by decide +kernel)
theorem hv_4_8 : ∀ x y r, mx_val (mx_ty 4 8) x y r = va_rf r := hv_r (by decide +kernel)
theorem hv_4_9 : ∀ x y r, mx_val (mx_ty 4 9) x y r = va_rf r := hv_r (by decide +kernel)
theorem hv_5_0 : ∀ x y r, mx_val (mx_ty 5 0) x y r = .long y := hv_l (by decide +kernel)
theorem hv_5_1 : ∀ x y r, mx_val (mx_ty 5 1) x y r = .int x := hv_i (by decide +kernel)
theorem hv_5_10 : ∀ x y r, mx_val (mx_ty 5 10) x y r = va_rf r := hv_r (by decide +kernel)
theorem hv_5_11 : ∀ x y r, mx_val (mx_ty 5 11) x y r = va_rf r := hv_r (by decide +kernel)
theorem hv_5_12 : ∀ x y r, mx_val (mx_ty 5 12) x y r = va_rf r := hv_r (by decide +kernel)
theorem hv_5_13 : ∀ x y r, mx_val (mx_ty 5 13) x y r = va_rf r := hv_r (by decide +kernel)
theorem hv_5_14 : ∀ x y r, mx_val (mx_ty 5 14) x y r = va_rf r := hv_r (by decide +kernel)
theorem hv_5_15 : ∀ x y r, mx_val (mx_ty 5 15) x y r = .int x := hv_i (by decide +kernel)
theorem hv_5_16 : ∀ x y r, mx_val (mx_ty 5 16) x y r = .int x := hv_i (by decide +kernel)
theorem hv_5_17 : ∀ x y r, mx_val (mx_ty 5 17) x y r = .int x := hv_i (by decide +kernel)
theorem hv_5_18 : ∀ x y r, mx_val (mx_ty 5 18) x y r = .int x := hv_i (by decide +kernel)
theorem hv_5_19 : ∀ x y r, mx_val (mx_ty 5 19) x y r = .int x := hv_i (by decide +kernel)
theorem hv_5_2 : ∀ x y r, mx_val (mx_ty 5 2) x y r = va_rf r := hv_r (by decide +kernel)
theorem hv_5_3 : ∀ x y r, mx_val (mx_ty 5 3) x y r = .int x := hv_i (by decide +kernel)
theorem hv_5_4 : ∀ x y r, mx_val (mx_ty 5 4) x y r = .int x := hv_i (by decide +kernel)
theorem hv_5_5 : ∀ x y r, mx_val (mx_ty 5 5) x y r = .int x := hv_i (by decide +kernel)
theorem hv_5_6 : ∀ x y r, mx_val (mx_ty 5 6) x y r = .int x := hv_i (by decide +kernel)
theorem hv_5_7 : ∀ x y r, mx_val (mx_ty 5 7) x y r = .int x := hv_i (by decide +kernel)
theorem hv_5_8 : ∀ x y r, mx_val (mx_ty 5 8) x y r = .int x := hv_i (by decide +kernel)
theorem hv_5_9 : ∀ x y r, mx_val (mx_ty 5 9) x y r = va_rf r := hv_r (by decide +kernel)
theorem hv_6_0 : ∀ x y r, mx_val (mx_ty 6 0) x y r = .int x := hv_i (by decide +kernel)
theorem hv_6_1 : ∀ x y r, mx_val (mx_ty 6 1) x y r = va_rf r := hv_r (by decide +kernel)
theorem hv_6_2 : ∀ x y r, mx_val (mx_ty 6 2) x y r = .int x := hv_i (by decide +kernel)
theorem hv_6_3 : ∀ x y r, mx_val (mx_ty 6 3) x y r = .int x := hv_i (by decide +kernel)
theorem hv_6_4 : ∀ x y r, mx_val (mx_ty 6 4) x y r = va_rf r := hv_r (by decide +kernel)
theorem hv_6_5 : ∀ x y r, mx_val (mx_ty 6 5) x y r = va_rf r := hv_r (by decide +kernel)
theorem hv_6_6 : ∀ x y r, mx_val (mx_ty 6 6) x y r = va_rf r := hv_r (by decide +kernel)
theorem hv_6_7 : ∀ x y r, mx_val (mx_ty 6 7) x y r = va_rf r := hv_r (by decide +kernel)
theorem hv_6_8 : ∀ x y r, mx_val (mx_ty 6 8) x y r = va_rf r := hv_r (by decide +kernel)
theorem hv_6_9 : ∀ x y r, mx_val (mx_ty 6 9) x y r = va_rf r := hv_r (by decide +kernel)
theorem hv_7_0 : ∀ x y r, mx_val (mx_ty 7 0) x y r = va_rf r := hv_r (by decide +kernel)
theorem hv_7_1 : ∀ x y r, mx_val (mx_ty 7 1) x y r = va_rf r := hv_r (by decide +kernel)
theorem hv_7_10 : ∀ x y r, mx_val (mx_ty 7 10) x y r = .int x := hv_i (by decide +kernel)
theorem hv_7_11 : ∀ x y r, mx_val (mx_ty 7 11) x y r = va_rf r := hv_r (by decide +kernel)
theorem hv_7_12 : ∀ x y r, mx_val (mx_ty 7 12) x y r = va_rf r := hv_r (by decide +kernel)
theorem hv_7_13 : ∀ x y r, mx_val (mx_ty 7 13) x y r = va_rf r := hv_r (by decide +kernel)
theorem hv_7_14 : ∀ x y r, mx_val (mx_ty 7 14) x y r = va_rf r := hv_r (by decide +kernel)
theorem hv_7_15 : ∀ x y r, mx_val (mx_ty 7 15) x y r = va_rf r := hv_r (by decide +kernel)
theorem hv_7_16 : ∀ x y r, mx_val (mx_ty 7 16) x y r = va_rf r := hv_r (by decide +kernel)
theorem hv_7_17 : ∀ x y r, mx_val (mx_ty 7 17) x y r = va_rf r := hv_r (by decide +kernel)
theorem hv_7_18 : ∀ x y r, mx_val (mx_ty 7 18) x y r = va_rf r := hv_r (by decide +kernel)
theorem hv_7_19 : ∀ x y r, mx_val (mx_ty 7 19) x y r = va_rf r := hv_r (by decide +kernel)
theorem hv_7_2 : ∀ x y r, mx_val (mx_ty 7 2) x y r = .int x := hv_i (by decide +kernel)
theorem hv_7_3 : ∀ x y r, mx_val (mx_ty 7 3) x y r = .int x := hv_i (by decide +kernel)
theorem hv_7_4 : ∀ x y r, mx_val (mx_ty 7 4) x y r = va_rf r := hv_r (by decide +kernel)
theorem hv_7_5 : ∀ x y r, mx_val (mx_ty 7 5) x y r = va_rf r := hv_r (by decide +kernel)
theorem hv_7_6 : ∀ x y r, mx_val (mx_ty 7 6) x y r = .int x := hv_i (by decide +kernel)
theorem hv_7_7 : ∀ x y r, mx_val (mx_ty 7 7) x y r = va_rf r := hv_r (by decide +kernel)
theorem hv_7_8 : ∀ x y r, mx_val (mx_ty 7 8) x y r = va_rf r := hv_r (by decide +kernel)
theorem hv_7_9 : ∀ x y r, mx_val (mx_ty 7 9) x y r = .int x := hv_i (by decide +kernel)
theorem hv_8_0 : ∀ x y r, mx_val (mx_ty 8 0) x y r = va_rf r := hv_r (by decide +kernel)
theorem hv_8_1 : ∀ x y r, mx_val (mx_ty 8 1) x y r = va_rf r := hv_r (by decide +kernel)
theorem hv_9_0 : ∀ x y r, mx_val (mx_ty 9 0) x y r = .int x := hv_i (by decide +kernel)
theorem hv_9_1 : ∀ x y r, mx_val (mx_ty 9 1) x y r = va_rf r := hv_r (by decide +kernel)
theorem hv_9_2 : ∀ x y r, mx_val (mx_ty 9 2) x y r = va_rf r := hv_r (by decide +kernel)
