theorem fl_s {Q : Nat → Prop} {n : Nat} (h : ∀ k, k < n → Q k) (p : Q n) (k : Nat) (hk : k < n + 1) : Q k := (Nat.lt_or_eq_of_le (Nat.le_of_lt_succ hk)).elim (h k) (fun e => e ▸ p)
theorem wi_j {R : String} {T : u_T} {n : Nat} (h : ∀ k, k < n → u_lay R T k ∈ mx_tbl) : ∀ w ∈ u_ws R T n, w ∈ mx_tbl := by
  intro w hw
  obtain ⟨k, hk, rfl⟩ := List.mem_map.mp hw
  exact h k (List.mem_range.mp hk)
theorem cd_0 : mx_cd 0 TX0 3 := ⟨tyX0_ok, nmX0⟩
theorem cd_1 : mx_cd 1 TX1 8 := ⟨tyX1_ok, nmX1⟩
theorem cd_10 : mx_cd 10 TX10 20 := ⟨tyX10_ok, nmX10⟩
theorem cd_11 : mx_cd 11 TX11 10 := ⟨tyX11_ok, nmX11⟩
theorem cd_12 : mx_cd 12 TX12 114 := ⟨tyX12_ok, nmX12⟩
theorem cd_2 : mx_cd 2 TX2 11 := ⟨tyX2_ok, nmX2⟩
theorem cd_3 : mx_cd 3 TX3 3 := ⟨tyX3_ok, nmX3⟩
theorem cd_4 : mx_cd 4 TX4 18 := ⟨tyX4_ok, nmX4⟩
theorem cd_5 : mx_cd 5 TX5 20 := ⟨tyX5_ok, nmX5⟩
theorem cd_6 : mx_cd 6 TX6 10 := ⟨tyX6_ok, nmX6⟩
theorem cd_7 : mx_cd 7 TX7 20 := ⟨tyX7_ok, nmX7⟩
theorem cd_8 : mx_cd 8 TX8 2 := ⟨tyX8_ok, nmX8⟩
theorem cd_9 : mx_cd 9 TX9 3 := ⟨tyX9_ok, nmX9⟩
theorem df_0 : ∀ j, j < 3 → defaultValue (mx_ty 0 j) = mx_val (mx_ty 0 j) 0 0 none := by decide +kernel
theorem df_1 : ∀ j, j < 8 → defaultValue (mx_ty 1 j) = mx_val (mx_ty 1 j) 0 0 none := by decide +kernel
theorem df_10 : ∀ j, j < 20 → defaultValue (mx_ty 10 j) = mx_val (mx_ty 10 j) 0 0 none := by decide +kernel
theorem df_11 : ∀ j, j < 10 → defaultValue (mx_ty 11 j) = mx_val (mx_ty 11 j) 0 0 none := by decide +kernel
theorem df_12 : ∀ j, j < 114 → defaultValue (mx_ty 12 j) = mx_val (mx_ty 12 j) 0 0 none := by decide +kernel
theorem df_2 : ∀ j, j < 11 → defaultValue (mx_ty 2 j) = mx_val (mx_ty 2 j) 0 0 none := by decide +kernel
theorem df_3 : ∀ j, j < 3 → defaultValue (mx_ty 3 j) = mx_val (mx_ty 3 j) 0 0 none := by decide +kernel
theorem df_4 : ∀ j, j < 18 → defaultValue (mx_ty 4 j) = mx_val (mx_ty 4 j) 0 0 none := by decide +kernel
theorem df_5 : ∀ j, j < 20 → defaultValue (mx_ty 5 j) = mx_val (mx_ty 5 j) 0 0 none := by decide +kernel
theorem df_6 : ∀ j, j < 10 → defaultValue (mx_ty 6 j) = mx_val (mx_ty 6 j) 0 0 none := by decide +kernel
theorem df_7 : ∀ j, j < 20 → defaultValue (mx_ty 7 j) = mx_val (mx_ty 7 j) 0 0 none := by decide +kernel
theorem df_8 : ∀ j, j < 2 → defaultValue (mx_ty 8 j) = mx_val (mx_ty 8 j) 0 0 none := by decide +kernel
theorem df_9 : ∀ j, j < 3 → defaultValue (mx_ty 9 j) = mx_val (mx_ty 9 j) 0 0 none := by decide +kernel
