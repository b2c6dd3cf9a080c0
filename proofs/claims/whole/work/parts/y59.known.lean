theorem cd_0 : mx_cd 0 TX0 3 := ⟨tyX0_ok, nmX0⟩
theorem cd_1 : mx_cd 1 TX1 8 := ⟨tyX1_ok, nmX1⟩
theorem cd_10 : mx_cd 10 TX10 20 := ⟨tyX10_ok, nmX10⟩
theorem cd_11 : mx_cd 11 TX11 10 := ⟨tyX11_ok, nmX11⟩
theorem cd_12 : mx_cd 12 TX12 114 := ⟨tyX12_ok, nmX12⟩
theorem cd_2 : mx_cd 2 TX2 11 := ⟨tyX2_ok, nmX2⟩
theorem cd_3 : mx_cd 3 TX3 3 := ⟨tyX3_ok, nmX3⟩
theorem cd_4 : mx_cd 4 TX4 18 := ⟨tyX4_ok, nmX4⟩
theorem cd_5 : mx_cd 5 TX5 20 := ⟨tyX5_ok, nmX5⟩
theorem cd_6 : mx_cd 6 TX6 10 := ⟨tyX6_ok, nmX6⟩
theorem cd_7 : mx_cd 7 TX7 20 := ⟨tyX7_ok, nmX7⟩
theorem cd_8 : mx_cd 8 TX8 2 := ⟨tyX8_ok, nmX8⟩
theorem cd_9 : mx_cd 9 TX9 3 := ⟨tyX9_ok, nmX9⟩
theorem df_0 : ∀ j, j < 3 → defaultValue (mx_ty 0 j) = mx_val (mx_ty 0 j) 0 0 none := by decide +kernel
theorem df_1 : ∀ j, j < 8 → defaultValue (mx_ty 1 j) = mx_val (mx_ty 1 j) 0 0 none := by decide +kernel
theorem df_10 : ∀ j, j < 20 → defaultValue (mx_ty 10 j) = mx_val (mx_ty 10 j) 0 0 none := by decide +kernel
theorem df_11 : ∀ j, j < 10 → defaultValue (mx_ty 11 j) = mx_val (mx_ty 11 j) 0 0 none := by decide +kernel
theorem df_12 : ∀ j, j < 114 → defaultValue (mx_ty 12 j) = mx_val (mx_ty 12 j) 0 0 none := by decide +kernel
theorem df_2 : ∀ j, j < 11 → defaultValue (mx_ty 2 j) = mx_val (mx_ty 2 j) 0 0 none := by decide +kernel
theorem df_3 : ∀ j, j < 3 → defaultValue (mx_ty 3 j) = mx_val (mx_ty 3 j) 0 0 none := by decide +kernel
theorem df_4 : ∀ j, j < 18 → defaultValue (mx_ty 4 j) = mx_val (mx_ty 4 j) 0 0 none := by decide +kernel
theorem df_5 : ∀ j, j < 20 → defaultValue (mx_ty 5 j) = mx_val (mx_ty 5 j) 0 0 none := by decide +kernel
theorem df_6 : ∀ j, j < 10 → defaultValue (mx_ty 6 j) = mx_val (mx_ty 6 j) 0 0 none := by decide +kernel
theorem df_7 : ∀ j, j < 20 → defaultValue (mx_ty 7 j) = mx_val (mx_ty 7 j) 0 0 none := by decide +kernel
theorem df_8 : ∀ j, j < 2 → defaultValue (mx_ty 8 j) = mx_val (mx_ty 8 j) 0 0 none := by decide +kernel
theorem df_9 : ∀ j, j < 3 → defaultValue (mx_ty 9 j) = mx_val (mx_ty 9 j) 0 0 none := by decide +kernel
theorem wi_0 : ∀ w ∈ u_ws RX0 TX0 3, w ∈ mx_tbl := by
  intro w hw
  obtain ⟨k, hk, rfl⟩ := List.mem_map.mp hw
  have hk := List.mem_range.mp hk
  match k, hk with
  | 0, _ => exact wl_0_0
  | 1, _ => exact wl_0_1
  | 2, _ => exact wl_0_2
  | k + 3, hk => exact absurd hk (by omega)
theorem fd_RX0_13 : mx_fd RX0 13 0 1 RX0 TX0 3 := ⟨rfl, by decide, wi_0, kw_355⟩
theorem fd_RX0_16 : mx_fd RX0 16 0 2 RX0 TX0 3 := ⟨rfl, by decide, wi_0, kw_357⟩
theorem wi_8 : ∀ w ∈ u_ws RX8 TX8 2, w ∈ mx_tbl := by
  intro w hw
  obtain ⟨k, hk, rfl⟩ := List.mem_map.mp hw
  have hk := List.mem_range.mp hk
  match k, hk with
  | 0, _ => exact wl_8_0
  | 1, _ => exact wl_8_1
  | k + 2, hk => exact absurd hk (by omega)
theorem fd_RX0_51 : mx_fd RX0 51 8 0 RX8 TX8 2 := ⟨rfl, by decide, wi_8, kw_379⟩
theorem fd_RX0_61 : mx_fd RX0 61 8 1 RX8 TX8 2 := ⟨rfl, by decide, wi_8, kw_384⟩
theorem fd_RX0_7 : mx_fd RX0 7 0 0 RX0 TX0 3 := ⟨rfl, by decide, wi_0, kw_352⟩
theorem wi_10 : ∀ w ∈ u_ws RX10 TX10 20, w ∈ mx_tbl := by
  intro w hw
  obtain ⟨k, hk, rfl⟩ := List.mem_map.mp hw
  have hk := List.mem_range.mp hk
  match k, hk with
  | 0, _ => exact wl_10_0
  | 1, _ => exact wl_10_1
  | 2, _ => exact wl_10_2
  | 3, _ => exact wl_10_3
  | 4, _ => exact wl_10_4
  | 5, _ => exact wl_10_5
  | 6, _ => exact wl_10_6
  | 7, _ => exact wl_10_7
  | 8, _ => exact wl_10_8
  | 9, _ => exact wl_10_9
  | 10, _ => exact wl_10_10
  | 11, _ => exact wl_10_11
  | 12, _ => exact wl_10_12
  | 13, _ => exact wl_10_13
  | 14, _ => exact wl_10_14
  | 15, _ => exact wl_10_15
  | 16, _ => exact wl_10_16
  | 17, _ => exact wl_10_17
  | 18, _ => exact wl_10_18
  | 19, _ => exact wl_10_19
  | k + 20, hk => exact absurd hk (by omega)
theorem fd_RX1_105 : mx_fd RX1 105 10 1 RX10 TX10 20 := ⟨rfl, by decide, wi_10, kw_46⟩
theorem wi_3 : ∀ w ∈ u_ws RX3 TX3 3, w ∈ mx_tbl := by
  intro w hw
  obtain ⟨k, hk, rfl⟩ := List.mem_map.mp hw
  have hk := List.mem_range.mp hk
  match k, hk with
  | 0, _ => exact wl_3_0
  | 1, _ => exact wl_3_1
  | 2, _ => exact wl_3_2
  | k + 3, hk => exact absurd hk (by omega)
theorem fd_RX1_108 : mx_fd RX1 108 3 2 RX3 TX3 3 := ⟨rfl, by decide, wi_3, kw_160⟩
theorem wi_1 : ∀ w ∈ u_ws RX1 TX1 8, w ∈ mx_tbl := by
  intro w hw
  obtain ⟨k, hk, rfl⟩ := List.mem_map.mp hw
  have hk := List.mem_range.mp hk
  match k, hk with
  | 0, _ => exact wl_1_0
  | 1, _ => exact wl_1_1
  | 2, _ => exact wl_1_2
  | 3, _ => exact wl_1_3
  | 4, _ => exact wl_1_4
  | 5, _ => exact wl_1_5
  | 6, _ => exact wl_1_6
  | 7, _ => exact wl_1_7
  | k + 8, hk => exact absurd hk (by omega)
theorem fd_RX1_13 : mx_fd RX1 13 1 2 RX1 TX1 8 := ⟨rfl, by decide, wi_1, kw_569⟩
theorem fd_RX1_16 : mx_fd RX1 16 1 3 RX1 TX1 8 := ⟨rfl, by decide, wi_1, kw_570⟩
theorem fd_RX1_19 : mx_fd RX1 19 1 4 RX1 TX1 8 := ⟨rfl, by decide, wi_1, kw_571⟩
theorem fd_RX1_23 : mx_fd RX1 23 1 5 RX1 TX1 8 := ⟨rfl, by decide, wi_1, kw_572⟩
theorem fd_RX1_29 : mx_fd RX1 29 1 6 RX1 TX1 8 := ⟨rfl, by decide, wi_1, kw_573⟩
theorem fd_RX1_33 : mx_fd RX1 33 1 7 RX1 TX1 8 := ⟨rfl, by decide, wi_1, kw_574⟩
theorem fd_RX1_36 : mx_fd RX1 36 1 0 RX1 TX1 8 := ⟨rfl, by decide, wi_1, kw_566⟩
theorem fd_RX1_55 : mx_fd RX1 55 10 2 RX10 TX10 20 := ⟨rfl, by decide, wi_10, kw_47⟩
theorem fd_RX1_62 : mx_fd RX1 62 10 11 RX10 TX10 20 := ⟨rfl, by decide, wi_10, kw_64⟩
theorem fd_RX1_69 : mx_fd RX1 69 10 12 RX10 TX10 20 := ⟨rfl, by decide, wi_10, kw_69⟩
theorem fd_RX1_76 : mx_fd RX1 76 10 14 RX10 TX10 20 := ⟨rfl, by decide, wi_10, kw_77⟩
theorem fd_RX1_83 : mx_fd RX1 83 10 10 RX10 TX10 20 := ⟨rfl, by decide, wi_10, kw_61⟩
theorem fd_RX1_86 : mx_fd RX1 86 10 16 RX10 TX10 20 := ⟨rfl, by decide, wi_10, kw_86⟩
theorem fd_RX1_88 : mx_fd RX1 88 10 17 RX10 TX10 20 := ⟨rfl, by decide, wi_10, kw_91⟩
theorem fd_RX1_9 : mx_fd RX1 9 1 1 RX1 TX1 8 := ⟨rfl, by decide, wi_1, kw_568⟩
theorem fd_RX1_94 : mx_fd RX1 94 3 0 RX3 TX3 3 := ⟨rfl, by decide, wi_3, kw_154⟩
theorem fd_RX1_98 : mx_fd RX1 98 3 1 RX3 TX3 3 := ⟨rfl, by decide, wi_3, kw_157⟩
theorem fd_RX2_104 : mx_fd RX2 104 10 16 RX10 TX10 20 := ⟨rfl, by decide, wi_10, kw_88⟩
theorem fd_RX2_107 : mx_fd RX2 107 10 17 RX10 TX10 20 := ⟨rfl, by decide, wi_10, kw_92⟩
theorem wi_2 : ∀ w ∈ u_ws RX2 TX2 11, w ∈ mx_tbl := by
  intro w hw
  obtain ⟨k, hk, rfl⟩ := List.mem_map.mp hw
  have hk := List.mem_range.mp hk
  match k, hk with
  | 0, _ => exact wl_2_0
  | 1, _ => exact wl_2_1
  | 2, _ => exact wl_2_2
  | 3, _ => exact wl_2_3
  | 4, _ => exact wl_2_4
  | 5, _ => exact wl_2_5
  | 6, _ => exact wl_2_6
  | 7, _ => exact wl_2_7
  | 8, _ => exact wl_2_8
  | 9, _ => exact wl_2_9
  | 10, _ => exact wl_2_10
  | k + 11, hk => exact absurd hk (by omega)
theorem fd_RX2_118 : mx_fd RX2 118 2 0 RX2 TX2 11 := ⟨rfl, by decide, wi_2, kw_293⟩
theorem fd_RX2_121 : mx_fd RX2 121 2 4 RX2 TX2 11 := ⟨rfl, by decide, wi_2, kw_300⟩
theorem fd_RX2_13 : mx_fd RX2 13 2 5 RX2 TX2 11 := ⟨rfl, by decide, wi_2, kw_301⟩
theorem wi_7 : ∀ w ∈ u_ws RX7 TX7 20, w ∈ mx_tbl := by
  intro w hw
  obtain ⟨k, hk, rfl⟩ := List.mem_map.mp hw
  have hk := List.mem_range.mp hk
  match k, hk with
  | 0, _ => exact wl_7_0
  | 1, _ => exact wl_7_1
  | 2, _ => exact wl_7_2
  | 3, _ => exact wl_7_3
  | 4, _ => exact wl_7_4
  | 5, _ => exact wl_7_5
  | 6, _ => exact wl_7_6
  | 7, _ => exact wl_7_7
  | 8, _ => exact wl_7_8
  | 9, _ => exact wl_7_9
  | 10, _ => exact wl_7_10
  | 11, _ => exact wl_7_11
  | 12, _ => exact wl_7_12
  | 13, _ => exact wl_7_13
  | 14, _ => exact wl_7_14
  | 15, _ => exact wl_7_15
  | 16, _ => exact wl_7_16
  | 17, _ => exact wl_7_17
  | 18, _ => exact wl_7_18
  | 19, _ => exact wl_7_19
  | k + 20, hk => exact absurd hk (by omega)
theorem fd_RX2_135 : mx_fd RX2 135 7 0 RX7 TX7 20 := ⟨rfl, by decide, wi_7, kw_488⟩
theorem wi_5 : ∀ w ∈ u_ws RX5 TX5 20, w ∈ mx_tbl := by
  intro w hw
  obtain ⟨k, hk, rfl⟩ := List.mem_map.mp hw
  have hk := List.mem_range.mp hk
  match k, hk with
  | 0, _ => exact wl_5_0
  | 1, _ => exact wl_5_1
  | 2, _ => exact wl_5_2
  | 3, _ => exact wl_5_3
  | 4, _ => exact wl_5_4
  | 5, _ => exact wl_5_5
  | 6, _ => exact wl_5_6
  | 7, _ => exact wl_5_7
  | 8, _ => exact wl_5_8
  | 9, _ => exact wl_5_9
  | 10, _ => exact wl_5_10
  | 11, _ => exact wl_5_11
  | 12, _ => exact wl_5_12
  | 13, _ => exact wl_5_13
  | 14, _ => exact wl_5_14
  | 15, _ => exact wl_5_15
  | 16, _ => exact wl_5_16
  | 17, _ => exact wl_5_17
  | 18, _ => exact wl_5_18
  | 19, _ => exact wl_5_19
  | k + 20, hk => exact absurd hk (by omega)
theorem fd_RX2_139 : mx_fd RX2 139 5 12 RX5 TX5 20 := ⟨rfl, by decide, wi_5, kw_414⟩
theorem fd_RX2_149 : mx_fd RX2 149 7 4 RX7 TX7 20 := ⟨rfl, by decide, wi_7, kw_496⟩
theorem fd_RX2_159 : mx_fd RX2 159 8 1 RX8 TX8 2 := ⟨rfl, by decide, wi_8, kw_382⟩
theorem fd_RX2_16 : mx_fd RX2 16 2 6 RX2 TX2 11 := ⟨rfl, by decide, wi_2, kw_302⟩
theorem fd_RX2_165 : mx_fd RX2 165 0 0 RX0 TX0 3 := ⟨rfl, by decide, wi_0, kw_353⟩
theorem fd_RX2_169 : mx_fd RX2 169 8 0 RX8 TX8 2 := ⟨rfl, by decide, wi_8, kw_378⟩
theorem fd_RX2_19 : mx_fd RX2 19 2 7 RX2 TX2 11 := ⟨rfl, by decide, wi_2, kw_303⟩
theorem fd_RX2_22 : mx_fd RX2 22 2 8 RX2 TX2 11 := ⟨rfl, by decide, wi_2, kw_304⟩
theorem fd_RX2_25 : mx_fd RX2 25 2 9 RX2 TX2 11 := ⟨rfl, by decide, wi_2, kw_305⟩
theorem fd_RX2_29 : mx_fd RX2 29 2 10 RX2 TX2 11 := ⟨rfl, by decide, wi_2, kw_306⟩
theorem fd_RX2_33 : mx_fd RX2 33 2 1 RX2 TX2 11 := ⟨rfl, by decide, wi_2, kw_295⟩
theorem fd_RX2_43 : mx_fd RX2 43 2 3 RX2 TX2 11 := ⟨rfl, by decide, wi_2, kw_299⟩
theorem fd_RX2_61 : mx_fd RX2 61 10 2 RX10 TX10 20 := ⟨rfl, by decide, wi_10, kw_49⟩
theorem fd_RX2_64 : mx_fd RX2 64 10 11 RX10 TX10 20 := ⟨rfl, by decide, wi_10, kw_65⟩
theorem fd_RX2_71 : mx_fd RX2 71 10 12 RX10 TX10 20 := ⟨rfl, by decide, wi_10, kw_70⟩
theorem fd_RX2_74 : mx_fd RX2 74 10 13 RX10 TX10 20 := ⟨rfl, by decide, wi_10, kw_75⟩
theorem fd_RX2_77 : mx_fd RX2 77 10 15 RX10 TX10 20 := ⟨rfl, by decide, wi_10, kw_82⟩
theorem fd_RX2_86 : mx_fd RX2 86 10 14 RX10 TX10 20 := ⟨rfl, by decide, wi_10, kw_79⟩
theorem fd_RX2_9 : mx_fd RX2 9 2 2 RX2 TX2 11 := ⟨rfl, by decide, wi_2, kw_297⟩
theorem fd_RX2_93 : mx_fd RX2 93 10 10 RX10 TX10 20 := ⟨rfl, by decide, wi_10, kw_62⟩
theorem fd_RX3_13 : mx_fd RX3 13 3 1 RX3 TX3 3 := ⟨rfl, by decide, wi_3, kw_156⟩
theorem fd_RX3_16 : mx_fd RX3 16 3 2 RX3 TX3 3 := ⟨rfl, by decide, wi_3, kw_159⟩
theorem fd_RX3_7 : mx_fd RX3 7 3 0 RX3 TX3 3 := ⟨rfl, by decide, wi_3, kw_153⟩
theorem fd_RX4_102 : mx_fd RX4 102 3 0 RX3 TX3 3 := ⟨rfl, by decide, wi_3, kw_155⟩
theorem fd_RX4_106 : mx_fd RX4 106 3 1 RX3 TX3 3 := ⟨rfl, by decide, wi_3, kw_158⟩
theorem fd_RX4_109 : mx_fd RX4 109 3 2 RX3 TX3 3 := ⟨rfl, by decide, wi_3, kw_161⟩
theorem wi_4 : ∀ w ∈ u_ws RX4 TX4 18, w ∈ mx_tbl := by
  intro w hw
  obtain ⟨k, hk, rfl⟩ := List.mem_map.mp hw
  have hk := List.mem_range.mp hk
  match k, hk with
  | 0, _ => exact wl_4_0
  | 1, _ => exact wl_4_1
  | 2, _ => exact wl_4_2
  | 3, _ => exact wl_4_3
  | 4, _ => exact wl_4_4
  | 5, _ => exact wl_4_5
  | 6, _ => exact wl_4_6
  | 7, _ => exact wl_4_7
  | 8, _ => exact wl_4_8
  | 9, _ => exact wl_4_9
  | 10, _ => exact wl_4_10
  | 11, _ => exact wl_4_11
  | 12, _ => exact wl_4_12
  | 13, _ => exact wl_4_13
  | 14, _ => exact wl_4_14
  | 15, _ => exact wl_4_15
  | 16, _ => exact wl_4_16
  | 17, _ => exact wl_4_17
  | k + 18, hk => exact absurd hk (by omega)
theorem fd_RX4_13 : mx_fd RX4 13 4 4 RX4 TX4 18 := ⟨rfl, by decide, wi_4, kw_177⟩
theorem fd_RX4_16 : mx_fd RX4 16 4 5 RX4 TX4 18 := ⟨rfl, by decide, wi_4, kw_179⟩
theorem fd_RX4_167 : mx_fd RX4 167 4 2 RX4 TX4 18 := ⟨rfl, by decide, wi_4, kw_174⟩
theorem fd_RX4_19 : mx_fd RX4 19 4 6 RX4 TX4 18 := ⟨rfl, by decide, wi_4, kw_180⟩
theorem fd_RX4_22 : mx_fd RX4 22 4 7 RX4 TX4 18 := ⟨rfl, by decide, wi_4, kw_181⟩
theorem fd_RX4_25 : mx_fd RX4 25 4 8 RX4 TX4 18 := ⟨rfl, by decide, wi_4, kw_182⟩
theorem fd_RX4_28 : mx_fd RX4 28 4 9 RX4 TX4 18 := ⟨rfl, by decide, wi_4, kw_183⟩
theorem fd_RX4_33 : mx_fd RX4 33 4 10 RX4 TX4 18 := ⟨rfl, by decide, wi_4, kw_185⟩
theorem fd_RX4_36 : mx_fd RX4 36 4 11 RX4 TX4 18 := ⟨rfl, by decide, wi_4, kw_186⟩
theorem fd_RX4_39 : mx_fd RX4 39 4 12 RX4 TX4 18 := ⟨rfl, by decide, wi_4, kw_187⟩
theorem fd_RX4_45 : mx_fd RX4 45 4 15 RX4 TX4 18 := ⟨rfl, by decide, wi_4, kw_190⟩
theorem fd_RX4_49 : mx_fd RX4 49 4 16 RX4 TX4 18 := ⟨rfl, by decide, wi_4, kw_191⟩
theorem fd_RX4_52 : mx_fd RX4 52 4 17 RX4 TX4 18 := ⟨rfl, by decide, wi_4, kw_192⟩
theorem fd_RX4_55 : mx_fd RX4 55 4 0 RX4 TX4 18 := ⟨rfl, by decide, wi_4, kw_170⟩
theorem fd_RX4_59 : mx_fd RX4 59 4 1 RX4 TX4 18 := ⟨rfl, by decide, wi_4, kw_172⟩
theorem fd_RX4_62 : mx_fd RX4 62 4 14 RX4 TX4 18 := ⟨rfl, by decide, wi_4, kw_189⟩
theorem fd_RX4_81 : mx_fd RX4 81 4 13 RX4 TX4 18 := ⟨rfl, by decide, wi_4, kw_188⟩
theorem fd_RX4_9 : mx_fd RX4 9 4 3 RX4 TX4 18 := ⟨rfl, by decide, wi_4, kw_176⟩
theorem fd_RX5_114 : mx_fd RX5 114 5 4 RX5 TX5 20 := ⟨rfl, by decide, wi_5, kw_399⟩
theorem fd_RX5_16 : mx_fd RX5 16 5 9 RX5 TX5 20 := ⟨rfl, by decide, wi_5, kw_407⟩
theorem fd_RX5_20 : mx_fd RX5 20 5 10 RX5 TX5 20 := ⟨rfl, by decide, wi_5, kw_409⟩
theorem fd_RX5_26 : mx_fd RX5 26 5 11 RX5 TX5 20 := ⟨rfl, by decide, wi_5, kw_411⟩
theorem fd_RX5_30 : mx_fd RX5 30 5 12 RX5 TX5 20 := ⟨rfl, by decide, wi_5, kw_413⟩
theorem fd_RX5_33 : mx_fd RX5 33 5 13 RX5 TX5 20 := ⟨rfl, by decide, wi_5, kw_417⟩
theorem fd_RX5_36 : mx_fd RX5 36 5 14 RX5 TX5 20 := ⟨rfl, by decide, wi_5, kw_419⟩
theorem fd_RX5_39 : mx_fd RX5 39 10 15 RX10 TX10 20 := ⟨rfl, by decide, wi_10, kw_81⟩
theorem fd_RX5_45 : mx_fd RX5 45 5 0 RX5 TX5 20 := ⟨rfl, by decide, wi_5, kw_391⟩
theorem fd_RX5_49 : mx_fd RX5 49 10 10 RX10 TX10 20 := ⟨rfl, by decide, wi_10, kw_60⟩
theorem fd_RX5_53 : mx_fd RX5 53 5 1 RX5 TX5 20 := ⟨rfl, by decide, wi_5, kw_393⟩
theorem fd_RX5_54 : mx_fd RX5 54 5 3 RX5 TX5 20 := ⟨rfl, by decide, wi_5, kw_397⟩
theorem fd_RX5_57 : mx_fd RX5 57 5 8 RX5 TX5 20 := ⟨rfl, by decide, wi_5, kw_405⟩
theorem fd_RX5_60 : mx_fd RX5 60 5 7 RX5 TX5 20 := ⟨rfl, by decide, wi_5, kw_404⟩
theorem fd_RX5_63 : mx_fd RX5 63 5 6 RX5 TX5 20 := ⟨rfl, by decide, wi_5, kw_403⟩
theorem fd_RX5_67 : mx_fd RX5 67 5 16 RX5 TX5 20 := ⟨rfl, by decide, wi_5, kw_423⟩
theorem fd_RX5_7 : mx_fd RX5 7 5 2 RX5 TX5 20 := ⟨rfl, by decide, wi_5, kw_395⟩
theorem fd_RX5_70 : mx_fd RX5 70 5 17 RX5 TX5 20 := ⟨rfl, by decide, wi_5, kw_425⟩
theorem fd_RX5_73 : mx_fd RX5 73 5 18 RX5 TX5 20 := ⟨rfl, by decide, wi_5, kw_428⟩
theorem fd_RX5_76 : mx_fd RX5 76 5 19 RX5 TX5 20 := ⟨rfl, by decide, wi_5, kw_431⟩
theorem fd_RX5_79 : mx_fd RX5 79 10 12 RX10 TX10 20 := ⟨rfl, by decide, wi_10, kw_67⟩
theorem fd_RX5_82 : mx_fd RX5 82 10 13 RX10 TX10 20 := ⟨rfl, by decide, wi_10, kw_73⟩
theorem fd_RX5_85 : mx_fd RX5 85 10 16 RX10 TX10 20 := ⟨rfl, by decide, wi_10, kw_85⟩
theorem fd_RX5_88 : mx_fd RX5 88 10 17 RX10 TX10 20 := ⟨rfl, by decide, wi_10, kw_90⟩
theorem fd_RX5_99 : mx_fd RX5 99 5 5 RX5 TX5 20 := ⟨rfl, by decide, wi_5, kw_401⟩
theorem wi_6 : ∀ w ∈ u_ws RX6 TX6 10, w ∈ mx_tbl := by
  intro w hw
  obtain ⟨k, hk, rfl⟩ := List.mem_map.mp hw
  have hk := List.mem_range.mp hk
  match k, hk with
  | 0, _ => exact wl_6_0
  | 1, _ => exact wl_6_1
  | 2, _ => exact wl_6_2
  | 3, _ => exact wl_6_3
  | 4, _ => exact wl_6_4
  | 5, _ => exact wl_6_5
  | 6, _ => exact wl_6_6
  | 7, _ => exact wl_6_7
  | 8, _ => exact wl_6_8
  | 9, _ => exact wl_6_9
  | k + 10, hk => exact absurd hk (by omega)
theorem fd_RX6_13 : mx_fd RX6 13 6 4 RX6 TX6 10 := ⟨rfl, by decide, wi_6, kw_260⟩
theorem fd_RX6_16 : mx_fd RX6 16 6 5 RX6 TX6 10 := ⟨rfl, by decide, wi_6, kw_261⟩
theorem fd_RX6_19 : mx_fd RX6 19 6 6 RX6 TX6 10 := ⟨rfl, by decide, wi_6, kw_262⟩
theorem fd_RX6_22 : mx_fd RX6 22 6 7 RX6 TX6 10 := ⟨rfl, by decide, wi_6, kw_263⟩
theorem fd_RX6_25 : mx_fd RX6 25 6 8 RX6 TX6 10 := ⟨rfl, by decide, wi_6, kw_264⟩
theorem fd_RX6_28 : mx_fd RX6 28 6 9 RX6 TX6 10 := ⟨rfl, by decide, wi_6, kw_265⟩
theorem fd_RX6_31 : mx_fd RX6 31 6 0 RX6 TX6 10 := ⟨rfl, by decide, wi_6, kw_254⟩
theorem fd_RX6_35 : mx_fd RX6 35 6 2 RX6 TX6 10 := ⟨rfl, by decide, wi_6, kw_258⟩
theorem fd_RX6_47 : mx_fd RX6 47 6 3 RX6 TX6 10 := ⟨rfl, by decide, wi_6, kw_259⟩
theorem fd_RX6_9 : mx_fd RX6 9 6 1 RX6 TX6 10 := ⟨rfl, by decide, wi_6, kw_256⟩
theorem fd_RX7_11 : mx_fd RX7 11 7 0 RX7 TX7 20 := ⟨rfl, by decide, wi_7, kw_487⟩
theorem fd_RX7_110 : mx_fd RX7 110 10 2 RX10 TX10 20 := ⟨rfl, by decide, wi_10, kw_48⟩
theorem fd_RX7_124 : mx_fd RX7 124 10 12 RX10 TX10 20 := ⟨rfl, by decide, wi_10, kw_68⟩
theorem fd_RX7_135 : mx_fd RX7 135 10 14 RX10 TX10 20 := ⟨rfl, by decide, wi_10, kw_78⟩
theorem fd_RX7_138 : mx_fd RX7 138 10 13 RX10 TX10 20 := ⟨rfl, by decide, wi_10, kw_74⟩
theorem fd_RX7_141 : mx_fd RX7 141 10 15 RX10 TX10 20 := ⟨rfl, by decide, wi_10, kw_83⟩
theorem fd_RX7_149 : mx_fd RX7 149 10 16 RX10 TX10 20 := ⟨rfl, by decide, wi_10, kw_87⟩
theorem fd_RX7_16 : mx_fd RX7 16 7 1 RX7 TX7 20 := ⟨rfl, by decide, wi_7, kw_490⟩
theorem fd_RX7_164 : mx_fd RX7 164 5 3 RX5 TX5 20 := ⟨rfl, by decide, wi_5, kw_398⟩
theorem fd_RX7_167 : mx_fd RX7 167 5 2 RX5 TX5 20 := ⟨rfl, by decide, wi_5, kw_396⟩
theorem fd_RX7_170 : mx_fd RX7 170 5 8 RX5 TX5 20 := ⟨rfl, by decide, wi_5, kw_406⟩
theorem fd_RX7_176 : mx_fd RX7 176 5 0 RX5 TX5 20 := ⟨rfl, by decide, wi_5, kw_392⟩
theorem fd_RX7_187 : mx_fd RX7 187 5 16 RX5 TX5 20 := ⟨rfl, by decide, wi_5, kw_424⟩
theorem fd_RX7_194 : mx_fd RX7 194 5 12 RX5 TX5 20 := ⟨rfl, by decide, wi_5, kw_416⟩
theorem fd_RX7_20 : mx_fd RX7 20 7 4 RX7 TX7 20 := ⟨rfl, by decide, wi_7, kw_495⟩
theorem fd_RX7_200 : mx_fd RX7 200 5 15 RX5 TX5 20 := ⟨rfl, by decide, wi_5, kw_422⟩
theorem fd_RX7_203 : mx_fd RX7 203 5 1 RX5 TX5 20 := ⟨rfl, by decide, wi_5, kw_394⟩
theorem fd_RX7_234 : mx_fd RX7 234 5 9 RX5 TX5 20 := ⟨rfl, by decide, wi_5, kw_408⟩
theorem fd_RX7_241 : mx_fd RX7 241 8 1 RX8 TX8 2 := ⟨rfl, by decide, wi_8, kw_383⟩
theorem fd_RX7_244 : mx_fd RX7 244 5 10 RX5 TX5 20 := ⟨rfl, by decide, wi_5, kw_410⟩
theorem fd_RX7_247 : mx_fd RX7 247 5 4 RX5 TX5 20 := ⟨rfl, by decide, wi_5, kw_400⟩
theorem fd_RX7_25 : mx_fd RX7 25 7 5 RX7 TX7 20 := ⟨rfl, by decide, wi_7, kw_498⟩
theorem fd_RX7_253 : mx_fd RX7 253 5 5 RX5 TX5 20 := ⟨rfl, by decide, wi_5, kw_402⟩
theorem fd_RX7_259 : mx_fd RX7 259 5 13 RX5 TX5 20 := ⟨rfl, by decide, wi_5, kw_418⟩
theorem fd_RX7_275 : mx_fd RX7 275 5 11 RX5 TX5 20 := ⟨rfl, by decide, wi_5, kw_412⟩
theorem fd_RX7_30 : mx_fd RX7 30 8 0 RX8 TX8 2 := ⟨rfl, by decide, wi_8, kw_377⟩
theorem fd_RX7_323 : mx_fd RX7 323 0 2 RX0 TX0 3 := ⟨rfl, by decide, wi_0, kw_360⟩
theorem fd_RX7_326 : mx_fd RX7 326 0 0 RX0 TX0 3 := ⟨rfl, by decide, wi_0, kw_354⟩
theorem fd_RX7_329 : mx_fd RX7 329 0 1 RX0 TX0 3 := ⟨rfl, by decide, wi_0, kw_356⟩
theorem fd_RX7_335 : mx_fd RX7 335 7 9 RX7 TX7 20 := ⟨rfl, by decide, wi_7, kw_505⟩
theorem fd_RX7_363 : mx_fd RX7 363 5 14 RX5 TX5 20 := ⟨rfl, by decide, wi_5, kw_421⟩
theorem fd_RX7_377 : mx_fd RX7 377 5 17 RX5 TX5 20 := ⟨rfl, by decide, wi_5, kw_427⟩
theorem fd_RX7_380 : mx_fd RX7 380 5 18 RX5 TX5 20 := ⟨rfl, by decide, wi_5, kw_430⟩
theorem fd_RX7_387 : mx_fd RX7 387 5 19 RX5 TX5 20 := ⟨rfl, by decide, wi_5, kw_433⟩
theorem fd_RX7_42 : mx_fd RX7 42 7 7 RX7 TX7 20 := ⟨rfl, by decide, wi_7, kw_500⟩
theorem fd_RX7_45 : mx_fd RX7 45 7 8 RX7 TX7 20 := ⟨rfl, by decide, wi_7, kw_502⟩
theorem fd_RX7_48 : mx_fd RX7 48 7 11 RX7 TX7 20 := ⟨rfl, by decide, wi_7, kw_507⟩
theorem fd_RX7_52 : mx_fd RX7 52 7 12 RX7 TX7 20 := ⟨rfl, by decide, wi_7, kw_508⟩
theorem fd_RX7_55 : mx_fd RX7 55 7 13 RX7 TX7 20 := ⟨rfl, by decide, wi_7, kw_509⟩
theorem fd_RX7_58 : mx_fd RX7 58 7 14 RX7 TX7 20 := ⟨rfl, by decide, wi_7, kw_510⟩
theorem fd_RX7_62 : mx_fd RX7 62 7 15 RX7 TX7 20 := ⟨rfl, by decide, wi_7, kw_511⟩
theorem fd_RX7_65 : mx_fd RX7 65 7 16 RX7 TX7 20 := ⟨rfl, by decide, wi_7, kw_512⟩
theorem fd_RX7_68 : mx_fd RX7 68 7 17 RX7 TX7 20 := ⟨rfl, by decide, wi_7, kw_513⟩
theorem fd_RX7_71 : mx_fd RX7 71 7 18 RX7 TX7 20 := ⟨rfl, by decide, wi_7, kw_514⟩
theorem fd_RX7_74 : mx_fd RX7 74 7 19 RX7 TX7 20 := ⟨rfl, by decide, wi_7, kw_515⟩
theorem fd_RX7_77 : mx_fd RX7 77 7 2 RX7 TX7 20 := ⟨rfl, by decide, wi_7, kw_491⟩
theorem fd_RX7_81 : mx_fd RX7 81 7 3 RX7 TX7 20 := ⟨rfl, by decide, wi_7, kw_493⟩
theorem fd_RX7_84 : mx_fd RX7 84 7 6 RX7 TX7 20 := ⟨rfl, by decide, wi_7, kw_499⟩
theorem fd_RX7_87 : mx_fd RX7 87 7 10 RX7 TX7 20 := ⟨rfl, by decide, wi_7, kw_506⟩
theorem fd_RX8_10 : mx_fd RX8 10 8 0 RX8 TX8 2 := ⟨rfl, by decide, wi_8, kw_376⟩
theorem fd_RX8_16 : mx_fd RX8 16 8 1 RX8 TX8 2 := ⟨rfl, by decide, wi_8, kw_381⟩
theorem fd_RX8_19 : mx_fd RX8 19 0 2 RX0 TX0 3 := ⟨rfl, by decide, wi_0, kw_358⟩
theorem wi_9 : ∀ w ∈ u_ws RX9 TX9 3, w ∈ mx_tbl := by
  intro w hw
  obtain ⟨k, hk, rfl⟩ := List.mem_map.mp hw
  have hk := List.mem_range.mp hk
  match k, hk with
  | 0, _ => exact wl_9_0
  | 1, _ => exact wl_9_1
  | 2, _ => exact wl_9_2
  | k + 3, hk => exact absurd hk (by omega)
theorem fd_RX9_13 : mx_fd RX9 13 9 2 RX9 TX9 3 := ⟨rfl, by decide, wi_9, kw_240⟩
theorem fd_RX9_16 : mx_fd RX9 16 9 0 RX9 TX9 3 := ⟨rfl, by decide, wi_9, kw_237⟩
theorem fd_RX9_9 : mx_fd RX9 9 9 1 RX9 TX9 3 := ⟨rfl, by decide, wi_9, kw_239⟩
theorem fd_RX10_107 : mx_fd RX10 107 10 10 RX10 TX10 20 := ⟨rfl, by decide, wi_10, kw_63⟩
theorem fd_RX10_110 : mx_fd RX10 110 10 7 RX10 TX10 20 := ⟨rfl, by decide, wi_10, kw_57⟩
theorem fd_RX10_114 : mx_fd RX10 114 10 8 RX10 TX10 20 := ⟨rfl, by decide, wi_10, kw_58⟩
theorem fd_RX10_117 : mx_fd RX10 117 10 9 RX10 TX10 20 := ⟨rfl, by decide, wi_10, kw_59⟩
theorem fd_RX10_13 : mx_fd RX10 13 10 13 RX10 TX10 20 := ⟨rfl, by decide, wi_10, kw_72⟩
theorem fd_RX10_17 : mx_fd RX10 17 10 14 RX10 TX10 20 := ⟨rfl, by decide, wi_10, kw_76⟩
theorem fd_RX10_20 : mx_fd RX10 20 10 15 RX10 TX10 20 := ⟨rfl, by decide, wi_10, kw_80⟩
theorem fd_RX10_24 : mx_fd RX10 24 10 16 RX10 TX10 20 := ⟨rfl, by decide, wi_10, kw_84⟩
theorem fd_RX10_27 : mx_fd RX10 27 10 17 RX10 TX10 20 := ⟨rfl, by decide, wi_10, kw_89⟩
theorem fd_RX10_30 : mx_fd RX10 30 10 18 RX10 TX10 20 := ⟨rfl, by decide, wi_10, kw_93⟩
theorem fd_RX10_33 : mx_fd RX10 33 10 1 RX10 TX10 20 := ⟨rfl, by decide, wi_10, kw_44⟩
theorem fd_RX10_48 : mx_fd RX10 48 10 2 RX10 TX10 20 := ⟨rfl, by decide, wi_10, kw_51⟩
theorem fd_RX10_51 : mx_fd RX10 51 10 3 RX10 TX10 20 := ⟨rfl, by decide, wi_10, kw_53⟩
theorem fd_RX10_54 : mx_fd RX10 54 10 4 RX10 TX10 20 := ⟨rfl, by decide, wi_10, kw_54⟩
theorem fd_RX10_57 : mx_fd RX10 57 10 19 RX10 TX10 20 := ⟨rfl, by decide, wi_10, kw_94⟩
theorem fd_RX10_70 : mx_fd RX10 70 10 6 RX10 TX10 20 := ⟨rfl, by decide, wi_10, kw_56⟩
theorem fd_RX10_73 : mx_fd RX10 73 10 11 RX10 TX10 20 := ⟨rfl, by decide, wi_10, kw_66⟩
theorem fd_RX10_76 : mx_fd RX10 76 10 5 RX10 TX10 20 := ⟨rfl, by decide, wi_10, kw_55⟩
theorem fd_RX10_87 : mx_fd RX10 87 10 12 RX10 TX10 20 := ⟨rfl, by decide, wi_10, kw_71⟩
theorem fd_RX10_9 : mx_fd RX10 9 10 0 RX10 TX10 20 := ⟨rfl, by decide, wi_10, kw_43⟩
theorem wi_11 : ∀ w ∈ u_ws RX11 TX11 10, w ∈ mx_tbl := by
  intro w hw
  obtain ⟨k, hk, rfl⟩ := List.mem_map.mp hw
  have hk := List.mem_range.mp hk
  match k, hk with
  | 0, _ => exact wl_11_0
  | 1, _ => exact wl_11_1
  | 2, _ => exact wl_11_2
  | 3, _ => exact wl_11_3
  | 4, _ => exact wl_11_4
  | 5, _ => exact wl_11_5
  | 6, _ => exact wl_11_6
  | 7, _ => exact wl_11_7
  | 8, _ => exact wl_11_8
  | 9, _ => exact wl_11_9
  | k + 10, hk => exact absurd hk (by omega)
theorem fd_RX11_10 : mx_fd RX11 10 11 0 RX11 TX11 10 := ⟨rfl, by decide, wi_11, kw_592⟩
theorem fd_RX11_103 : mx_fd RX11 103 7 2 RX7 TX7 20 := ⟨rfl, by decide, wi_7, kw_492⟩
theorem fd_RX11_121 : mx_fd RX11 121 7 9 RX7 TX7 20 := ⟨rfl, by decide, wi_7, kw_504⟩
theorem fd_RX11_132 : mx_fd RX11 132 7 7 RX7 TX7 20 := ⟨rfl, by decide, wi_7, kw_501⟩
theorem fd_RX11_136 : mx_fd RX11 136 7 8 RX7 TX7 20 := ⟨rfl, by decide, wi_7, kw_503⟩
theorem fd_RX11_143 : mx_fd RX11 143 7 0 RX7 TX7 20 := ⟨rfl, by decide, wi_7, kw_489⟩
theorem fd_RX11_147 : mx_fd RX11 147 5 12 RX5 TX5 20 := ⟨rfl, by decide, wi_5, kw_415⟩
theorem fd_RX11_163 : mx_fd RX11 163 7 4 RX7 TX7 20 := ⟨rfl, by decide, wi_7, kw_497⟩
theorem fd_RX11_174 : mx_fd RX11 174 7 19 RX7 TX7 20 := ⟨rfl, by decide, wi_7, kw_516⟩
theorem fd_RX11_178 : mx_fd RX11 178 0 2 RX0 TX0 3 := ⟨rfl, by decide, wi_0, kw_359⟩
theorem fd_RX11_19 : mx_fd RX11 19 11 1 RX11 TX11 10 := ⟨rfl, by decide, wi_11, kw_593⟩
theorem fd_RX11_194 : mx_fd RX11 194 5 14 RX5 TX5 20 := ⟨rfl, by decide, wi_5, kw_420⟩
theorem fd_RX11_201 : mx_fd RX11 201 5 17 RX5 TX5 20 := ⟨rfl, by decide, wi_5, kw_426⟩
theorem fd_RX11_204 : mx_fd RX11 204 5 18 RX5 TX5 20 := ⟨rfl, by decide, wi_5, kw_429⟩
theorem fd_RX11_207 : mx_fd RX11 207 5 19 RX5 TX5 20 := ⟨rfl, by decide, wi_5, kw_432⟩
theorem fd_RX11_220 : mx_fd RX11 220 4 0 RX4 TX4 18 := ⟨rfl, by decide, wi_4, kw_171⟩
theorem fd_RX11_230 : mx_fd RX11 230 4 4 RX4 TX4 18 := ⟨rfl, by decide, wi_4, kw_178⟩
theorem fd_RX11_236 : mx_fd RX11 236 4 1 RX4 TX4 18 := ⟨rfl, by decide, wi_4, kw_173⟩
theorem fd_RX11_25 : mx_fd RX11 25 11 2 RX11 TX11 10 := ⟨rfl, by decide, wi_11, kw_594⟩
theorem fd_RX11_265 : mx_fd RX11 265 4 2 RX4 TX4 18 := ⟨rfl, by decide, wi_4, kw_175⟩
theorem fd_RX11_268 : mx_fd RX11 268 4 9 RX4 TX4 18 := ⟨rfl, by decide, wi_4, kw_184⟩
theorem fd_RX11_272 : mx_fd RX11 272 1 0 RX1 TX1 8 := ⟨rfl, by decide, wi_1, kw_567⟩
theorem fd_RX11_277 : mx_fd RX11 277 3 2 RX3 TX3 3 := ⟨rfl, by decide, wi_3, kw_162⟩
theorem fd_RX11_287 : mx_fd RX11 287 9 0 RX9 TX9 3 := ⟨rfl, by decide, wi_9, kw_238⟩
theorem fd_RX11_313 : mx_fd RX11 313 6 0 RX6 TX6 10 := ⟨rfl, by decide, wi_6, kw_255⟩
theorem fd_RX11_314 : mx_fd RX11 314 6 1 RX6 TX6 10 := ⟨rfl, by decide, wi_6, kw_257⟩
theorem fd_RX11_327 : mx_fd RX11 327 2 2 RX2 TX2 11 := ⟨rfl, by decide, wi_2, kw_298⟩
theorem fd_RX11_329 : mx_fd RX11 329 7 3 RX7 TX7 20 := ⟨rfl, by decide, wi_7, kw_494⟩
theorem fd_RX11_33 : mx_fd RX11 33 11 3 RX11 TX11 10 := ⟨rfl, by decide, wi_11, kw_595⟩
theorem fd_RX11_332 : mx_fd RX11 332 2 0 RX2 TX2 11 := ⟨rfl, by decide, wi_2, kw_294⟩
theorem fd_RX11_335 : mx_fd RX11 335 2 1 RX2 TX2 11 := ⟨rfl, by decide, wi_2, kw_296⟩
theorem fd_RX11_353 : mx_fd RX11 353 8 0 RX8 TX8 2 := ⟨rfl, by decide, wi_8, kw_380⟩
theorem fd_RX11_356 : mx_fd RX11 356 8 1 RX8 TX8 2 := ⟨rfl, by decide, wi_8, kw_385⟩
theorem fd_RX11_40 : mx_fd RX11 40 11 4 RX11 TX11 10 := ⟨rfl, by decide, wi_11, kw_596⟩
theorem fd_RX11_47 : mx_fd RX11 47 11 5 RX11 TX11 10 := ⟨rfl, by decide, wi_11, kw_597⟩
theorem fd_RX11_54 : mx_fd RX11 54 11 6 RX11 TX11 10 := ⟨rfl, by decide, wi_11, kw_598⟩
theorem fd_RX11_58 : mx_fd RX11 58 11 7 RX11 TX11 10 := ⟨rfl, by decide, wi_11, kw_599⟩
theorem fd_RX11_64 : mx_fd RX11 64 11 8 RX11 TX11 10 := ⟨rfl, by decide, wi_11, kw_600⟩
theorem fd_RX11_68 : mx_fd RX11 68 11 9 RX11 TX11 10 := ⟨rfl, by decide, wi_11, kw_601⟩
theorem fd_RX11_82 : mx_fd RX11 82 10 1 RX10 TX10 20 := ⟨rfl, by decide, wi_10, kw_45⟩
theorem fd_RX11_90 : mx_fd RX11 90 10 2 RX10 TX10 20 := ⟨rfl, by decide, wi_10, kw_50⟩
theorem fd_RX11_93 : mx_fd RX11 93 10 3 RX10 TX10 20 := ⟨rfl, by decide, wi_10, kw_52⟩
theorem wi_12 : ∀ w ∈ u_ws RX12 TX12 114, w ∈ mx_tbl := by
  intro w hw
  obtain ⟨k, hk, rfl⟩ := List.mem_map.mp hw
  have hk := List.mem_range.mp hk
  match k, hk with
  | 0, _ => exact wl_12_0
  | 1, _ => exact wl_12_1
  | 2, _ => exact wl_12_2
  | 3, _ => exact wl_12_3
  | 4, _ => exact wl_12_4
  | 5, _ => exact wl_12_5
  | 6, _ => exact wl_12_6
  | 7, _ => exact wl_12_7
  | 8, _ => exact wl_12_8
  | 9, _ => exact wl_12_9
  | 10, _ => exact wl_12_10
  | 11, _ => exact wl_12_11
  | 12, _ => exact wl_12_12
  | 13, _ => exact wl_12_13
  | 14, _ => exact wl_12_14
  | 15, _ => exact wl_12_15
  | 16, _ => exact wl_12_16
  | 17, _ => exact wl_12_17
  | 18, _ => exact wl_12_18
  | 19, _ => exact wl_12_19
  | 20, _ => exact wl_12_20
  | 21, _ => exact wl_12_21
  | 22, _ => exact wl_12_22
  | 23, _ => exact wl_12_23
  | 24, _ => exact wl_12_24
  | 25, _ => exact wl_12_25
  | 26, _ => exact wl_12_26
  | 27, _ => exact wl_12_27
  | 28, _ => exact wl_12_28
  | 29, _ => exact wl_12_29
  | 30, _ => exact wl_12_30
  | 31, _ => exact wl_12_31
  | 32, _ => exact wl_12_32
  | 33, _ => exact wl_12_33
  | 34, _ => exact wl_12_34
  | 35, _ => exact wl_12_35
  | 36, _ => exact wl_12_36
  | 37, _ => exact wl_12_37
  | 38, _ => exact wl_12_38
  | 39, _ => exact wl_12_39
  | 40, _ => exact wl_12_40
  | 41, _ => exact wl_12_41
  | 42, _ => exact wl_12_42
  | 43, _ => exact wl_12_43
  | 44, _ => exact wl_12_44
  | 45, _ => exact wl_12_45
  | 46, _ => exact wl_12_46
  | 47, _ => exact wl_12_47
  | 48, _ => exact wl_12_48
  | 49, _ => exact wl_12_49
  | 50, _ => exact wl_12_50
  | 51, _ => exact wl_12_51
  | 52, _ => exact wl_12_52
  | 53, _ => exact wl_12_53
  | 54, _ => exact wl_12_54
  | 55, _ => exact wl_12_55
  | 56, _ => exact wl_12_56
  | 57, _ => exact wl_12_57
  | 58, _ => exact wl_12_58
  | 59, _ => exact wl_12_59
  | 60, _ => exact wl_12_60
  | 61, _ => exact wl_12_61
  | 62, _ => exact wl_12_62
  | 63, _ => exact wl_12_63
  | 64, _ => exact wl_12_64
  | 65, _ => exact wl_12_65
  | 66, _ => exact wl_12_66
  | 67, _ => exact wl_12_67
  | 68, _ => exact wl_12_68
  | 69, _ => exact wl_12_69
  | 70, _ => exact wl_12_70
  | 71, _ => exact wl_12_71
  | 72, _ => exact wl_12_72
  | 73, _ => exact wl_12_73
  | 74, _ => exact wl_12_74
  | 75, _ => exact wl_12_75
  | 76, _ => exact wl_12_76
  | 77, _ => exact wl_12_77
  | 78, _ => exact wl_12_78
  | 79, _ => exact wl_12_79
  | 80, _ => exact wl_12_80
  | 81, _ => exact wl_12_81
  | 82, _ => exact wl_12_82
  | 83, _ => exact wl_12_83
  | 84, _ => exact wl_12_84
  | 85, _ => exact wl_12_85
  | 86, _ => exact wl_12_86
  | 87, _ => exact wl_12_87
  | 88, _ => exact wl_12_88
  | 89, _ => exact wl_12_89
  | 90, _ => exact wl_12_90
  | 91, _ => exact wl_12_91
  | 92, _ => exact wl_12_92
  | 93, _ => exact wl_12_93
  | 94, _ => exact wl_12_94
  | 95, _ => exact wl_12_95
  | 96, _ => exact wl_12_96
  | 97, _ => exact wl_12_97
  | 98, _ => exact wl_12_98
  | 99, _ => exact wl_12_99
  | 100, _ => exact wl_12_100
  | 101, _ => exact wl_12_101
  | 102, _ => exact wl_12_102
  | 103, _ => exact wl_12_103
  | 104, _ => exact wl_12_104
  | 105, _ => exact wl_12_105
  | 106, _ => exact wl_12_106
  | 107, _ => exact wl_12_107
  | 108, _ => exact wl_12_108
  | 109, _ => exact wl_12_109
  | 110, _ => exact wl_12_110
  | 111, _ => exact wl_12_111
  | 112, _ => exact wl_12_112
  | 113, _ => exact wl_12_113
  | k + 114, hk => exact absurd hk (by omega)
theorem fd_RX12_102 : mx_fd RX12 102 12 48 RX12 TX12 114 := ⟨rfl, by decide, wi_12, kw_1911⟩
theorem fd_RX12_105 : mx_fd RX12 105 12 49 RX12 TX12 114 := ⟨rfl, by decide, wi_12, kw_1912⟩
theorem fd_RX12_108 : mx_fd RX12 108 12 51 RX12 TX12 114 := ⟨rfl, by decide, wi_12, kw_1914⟩
theorem fd_RX12_111 : mx_fd RX12 111 12 52 RX12 TX12 114 := ⟨rfl, by decide, wi_12, kw_1915⟩
theorem fd_RX12_114 : mx_fd RX12 114 12 56 RX12 TX12 114 := ⟨rfl, by decide, wi_12, kw_1919⟩
theorem fd_RX12_117 : mx_fd RX12 117 12 58 RX12 TX12 114 := ⟨rfl, by decide, wi_12, kw_1921⟩
theorem fd_RX12_120 : mx_fd RX12 120 12 59 RX12 TX12 114 := ⟨rfl, by decide, wi_12, kw_1922⟩
theorem fd_RX12_123 : mx_fd RX12 123 12 61 RX12 TX12 114 := ⟨rfl, by decide, wi_12, kw_1924⟩
theorem fd_RX12_126 : mx_fd RX12 126 12 62 RX12 TX12 114 := ⟨rfl, by decide, wi_12, kw_1925⟩
theorem fd_RX12_129 : mx_fd RX12 129 12 63 RX12 TX12 114 := ⟨rfl, by decide, wi_12, kw_1926⟩
theorem fd_RX12_13 : mx_fd RX12 13 12 11 RX12 TX12 114 := ⟨rfl, by decide, wi_12, kw_1874⟩
theorem fd_RX12_132 : mx_fd RX12 132 12 64 RX12 TX12 114 := ⟨rfl, by decide, wi_12, kw_1927⟩
theorem fd_RX12_135 : mx_fd RX12 135 12 65 RX12 TX12 114 := ⟨rfl, by decide, wi_12, kw_1928⟩
theorem fd_RX12_138 : mx_fd RX12 138 12 66 RX12 TX12 114 := ⟨rfl, by decide, wi_12, kw_1929⟩
theorem fd_RX12_141 : mx_fd RX12 141 12 67 RX12 TX12 114 := ⟨rfl, by decide, wi_12, kw_1930⟩
theorem fd_RX12_144 : mx_fd RX12 144 12 69 RX12 TX12 114 := ⟨rfl, by decide, wi_12, kw_1932⟩
theorem fd_RX12_147 : mx_fd RX12 147 12 70 RX12 TX12 114 := ⟨rfl, by decide, wi_12, kw_1933⟩
theorem fd_RX12_150 : mx_fd RX12 150 12 71 RX12 TX12 114 := ⟨rfl, by decide, wi_12, kw_1934⟩
theorem fd_RX12_153 : mx_fd RX12 153 12 73 RX12 TX12 114 := ⟨rfl, by decide, wi_12, kw_1936⟩
theorem fd_RX12_156 : mx_fd RX12 156 12 75 RX12 TX12 114 := ⟨rfl, by decide, wi_12, kw_1938⟩
theorem fd_RX12_159 : mx_fd RX12 159 12 76 RX12 TX12 114 := ⟨rfl, by decide, wi_12, kw_1939⟩
theorem fd_RX12_162 : mx_fd RX12 162 12 77 RX12 TX12 114 := ⟨rfl, by decide, wi_12, kw_1940⟩
theorem fd_RX12_165 : mx_fd RX12 165 12 78 RX12 TX12 114 := ⟨rfl, by decide, wi_12, kw_1941⟩
theorem fd_RX12_168 : mx_fd RX12 168 12 79 RX12 TX12 114 := ⟨rfl, by decide, wi_12, kw_1942⟩
theorem fd_RX12_17 : mx_fd RX12 17 12 12 RX12 TX12 114 := ⟨rfl, by decide, wi_12, kw_1875⟩
theorem fd_RX12_171 : mx_fd RX12 171 12 81 RX12 TX12 114 := ⟨rfl, by decide, wi_12, kw_1944⟩
theorem fd_RX12_174 : mx_fd RX12 174 12 82 RX12 TX12 114 := ⟨rfl, by decide, wi_12, kw_1945⟩
theorem fd_RX12_177 : mx_fd RX12 177 12 83 RX12 TX12 114 := ⟨rfl, by decide, wi_12, kw_1946⟩
theorem fd_RX12_180 : mx_fd RX12 180 12 84 RX12 TX12 114 := ⟨rfl, by decide, wi_12, kw_1947⟩
theorem fd_RX12_183 : mx_fd RX12 183 12 85 RX12 TX12 114 := ⟨rfl, by decide, wi_12, kw_1948⟩
theorem fd_RX12_186 : mx_fd RX12 186 12 86 RX12 TX12 114 := ⟨rfl, by decide, wi_12, kw_1949⟩
theorem fd_RX12_189 : mx_fd RX12 189 12 87 RX12 TX12 114 := ⟨rfl, by decide, wi_12, kw_1950⟩
theorem fd_RX12_192 : mx_fd RX12 192 12 88 RX12 TX12 114 := ⟨rfl, by decide, wi_12, kw_1951⟩
theorem fd_RX12_195 : mx_fd RX12 195 12 92 RX12 TX12 114 := ⟨rfl, by decide, wi_12, kw_1955⟩
theorem fd_RX12_198 : mx_fd RX12 198 12 93 RX12 TX12 114 := ⟨rfl, by decide, wi_12, kw_1956⟩
theorem fd_RX12_20 : mx_fd RX12 20 12 13 RX12 TX12 114 := ⟨rfl, by decide, wi_12, kw_1876⟩
theorem fd_RX12_201 : mx_fd RX12 201 12 94 RX12 TX12 114 := ⟨rfl, by decide, wi_12, kw_1957⟩
theorem fd_RX12_204 : mx_fd RX12 204 12 96 RX12 TX12 114 := ⟨rfl, by decide, wi_12, kw_1959⟩
theorem fd_RX12_207 : mx_fd RX12 207 12 97 RX12 TX12 114 := ⟨rfl, by decide, wi_12, kw_1960⟩
theorem fd_RX12_210 : mx_fd RX12 210 12 98 RX12 TX12 114 := ⟨rfl, by decide, wi_12, kw_1961⟩
theorem fd_RX12_213 : mx_fd RX12 213 12 99 RX12 TX12 114 := ⟨rfl, by decide, wi_12, kw_1962⟩
theorem fd_RX12_216 : mx_fd RX12 216 12 100 RX12 TX12 114 := ⟨rfl, by decide, wi_12, kw_1963⟩
theorem fd_RX12_219 : mx_fd RX12 219 12 101 RX12 TX12 114 := ⟨rfl, by decide, wi_12, kw_1964⟩
theorem fd_RX12_222 : mx_fd RX12 222 12 104 RX12 TX12 114 := ⟨rfl, by decide, wi_12, kw_1967⟩
theorem fd_RX12_225 : mx_fd RX12 225 12 106 RX12 TX12 114 := ⟨rfl, by decide, wi_12, kw_1969⟩
theorem fd_RX12_228 : mx_fd RX12 228 12 107 RX12 TX12 114 := ⟨rfl, by decide, wi_12, kw_1970⟩
theorem fd_RX12_231 : mx_fd RX12 231 12 108 RX12 TX12 114 := ⟨rfl, by decide, wi_12, kw_1971⟩
theorem fd_RX12_234 : mx_fd RX12 234 12 109 RX12 TX12 114 := ⟨rfl, by decide, wi_12, kw_1972⟩
theorem fd_RX12_237 : mx_fd RX12 237 12 110 RX12 TX12 114 := ⟨rfl, by decide, wi_12, kw_1973⟩
theorem fd_RX12_24 : mx_fd RX12 24 12 21 RX12 TX12 114 := ⟨rfl, by decide, wi_12, kw_1884⟩
theorem fd_RX12_240 : mx_fd RX12 240 12 111 RX12 TX12 114 := ⟨rfl, by decide, wi_12, kw_1974⟩
theorem fd_RX12_243 : mx_fd RX12 243 12 0 RX12 TX12 114 := ⟨rfl, by decide, wi_12, kw_1863⟩
theorem fd_RX12_255 : mx_fd RX12 255 12 2 RX12 TX12 114 := ⟨rfl, by decide, wi_12, kw_1865⟩
theorem fd_RX12_266 : mx_fd RX12 266 12 4 RX12 TX12 114 := ⟨rfl, by decide, wi_12, kw_1867⟩
theorem fd_RX12_269 : mx_fd RX12 269 12 5 RX12 TX12 114 := ⟨rfl, by decide, wi_12, kw_1868⟩
theorem fd_RX12_27 : mx_fd RX12 27 12 22 RX12 TX12 114 := ⟨rfl, by decide, wi_12, kw_1885⟩
theorem fd_RX12_272 : mx_fd RX12 272 12 3 RX12 TX12 114 := ⟨rfl, by decide, wi_12, kw_1866⟩
theorem fd_RX12_275 : mx_fd RX12 275 12 6 RX12 TX12 114 := ⟨rfl, by decide, wi_12, kw_1869⟩
theorem fd_RX12_278 : mx_fd RX12 278 12 7 RX12 TX12 114 := ⟨rfl, by decide, wi_12, kw_1870⟩
theorem fd_RX12_283 : mx_fd RX12 283 12 10 RX12 TX12 114 := ⟨rfl, by decide, wi_12, kw_1873⟩
theorem fd_RX12_287 : mx_fd RX12 287 12 8 RX12 TX12 114 := ⟨rfl, by decide, wi_12, kw_1871⟩
theorem fd_RX12_291 : mx_fd RX12 291 12 9 RX12 TX12 114 := ⟨rfl, by decide, wi_12, kw_1872⟩
theorem fd_RX12_30 : mx_fd RX12 30 12 23 RX12 TX12 114 := ⟨rfl, by decide, wi_12, kw_1886⟩
theorem fd_RX12_33 : mx_fd RX12 33 12 24 RX12 TX12 114 := ⟨rfl, by decide, wi_12, kw_1887⟩
theorem fd_RX12_330 : mx_fd RX12 330 12 14 RX12 TX12 114 := ⟨rfl, by decide, wi_12, kw_1877⟩
theorem fd_RX12_337 : mx_fd RX12 337 12 16 RX12 TX12 114 := ⟨rfl, by decide, wi_12, kw_1879⟩
theorem fd_RX12_340 : mx_fd RX12 340 12 15 RX12 TX12 114 := ⟨rfl, by decide, wi_12, kw_1878⟩
theorem fd_RX12_353 : mx_fd RX12 353 12 17 RX12 TX12 114 := ⟨rfl, by decide, wi_12, kw_1880⟩
theorem fd_RX12_356 : mx_fd RX12 356 12 18 RX12 TX12 114 := ⟨rfl, by decide, wi_12, kw_1881⟩
theorem fd_RX12_36 : mx_fd RX12 36 12 25 RX12 TX12 114 := ⟨rfl, by decide, wi_12, kw_1888⟩
theorem fd_RX12_39 : mx_fd RX12 39 12 26 RX12 TX12 114 := ⟨rfl, by decide, wi_12, kw_1889⟩
theorem fd_RX12_400 : mx_fd RX12 400 12 50 RX12 TX12 114 := ⟨rfl, by decide, wi_12, kw_1913⟩
theorem fd_RX12_403 : mx_fd RX12 403 12 38 RX12 TX12 114 := ⟨rfl, by decide, wi_12, kw_1901⟩
theorem fd_RX12_411 : mx_fd RX12 411 12 53 RX12 TX12 114 := ⟨rfl, by decide, wi_12, kw_1916⟩
theorem fd_RX12_42 : mx_fd RX12 42 12 27 RX12 TX12 114 := ⟨rfl, by decide, wi_12, kw_1890⟩
theorem fd_RX12_45 : mx_fd RX12 45 12 28 RX12 TX12 114 := ⟨rfl, by decide, wi_12, kw_1891⟩
theorem fd_RX12_460 : mx_fd RX12 460 12 19 RX12 TX12 114 := ⟨rfl, by decide, wi_12, kw_1882⟩
theorem fd_RX12_463 : mx_fd RX12 463 12 20 RX12 TX12 114 := ⟨rfl, by decide, wi_12, kw_1883⟩
theorem fd_RX12_48 : mx_fd RX12 48 12 29 RX12 TX12 114 := ⟨rfl, by decide, wi_12, kw_1892⟩
theorem fd_RX12_500 : mx_fd RX12 500 12 54 RX12 TX12 114 := ⟨rfl, by decide, wi_12, kw_1917⟩
theorem fd_RX12_503 : mx_fd RX12 503 12 55 RX12 TX12 114 := ⟨rfl, by decide, wi_12, kw_1918⟩
theorem fd_RX12_51 : mx_fd RX12 51 12 30 RX12 TX12 114 := ⟨rfl, by decide, wi_12, kw_1893⟩
theorem fd_RX12_54 : mx_fd RX12 54 12 31 RX12 TX12 114 := ⟨rfl, by decide, wi_12, kw_1894⟩
theorem fd_RX12_57 : mx_fd RX12 57 12 32 RX12 TX12 114 := ⟨rfl, by decide, wi_12, kw_1895⟩
theorem fd_RX12_60 : mx_fd RX12 60 12 33 RX12 TX12 114 := ⟨rfl, by decide, wi_12, kw_1896⟩
theorem fd_RX12_615 : mx_fd RX12 615 12 57 RX12 TX12 114 := ⟨rfl, by decide, wi_12, kw_1920⟩
theorem fd_RX12_623 : mx_fd RX12 623 12 60 RX12 TX12 114 := ⟨rfl, by decide, wi_12, kw_1923⟩
theorem fd_RX12_626 : mx_fd RX12 626 12 68 RX12 TX12 114 := ⟨rfl, by decide, wi_12, kw_1931⟩
theorem fd_RX12_63 : mx_fd RX12 63 12 34 RX12 TX12 114 := ⟨rfl, by decide, wi_12, kw_1897⟩
theorem fd_RX12_66 : mx_fd RX12 66 12 35 RX12 TX12 114 := ⟨rfl, by decide, wi_12, kw_1898⟩
theorem fd_RX12_665 : mx_fd RX12 665 12 72 RX12 TX12 114 := ⟨rfl, by decide, wi_12, kw_1935⟩
theorem fd_RX12_674 : mx_fd RX12 674 12 80 RX12 TX12 114 := ⟨rfl, by decide, wi_12, kw_1943⟩
theorem fd_RX12_685 : mx_fd RX12 685 12 74 RX12 TX12 114 := ⟨rfl, by decide, wi_12, kw_1937⟩
theorem fd_RX12_69 : mx_fd RX12 69 12 36 RX12 TX12 114 := ⟨rfl, by decide, wi_12, kw_1899⟩
theorem fd_RX12_7 : mx_fd RX12 7 12 1 RX12 TX12 114 := ⟨rfl, by decide, wi_12, kw_1864⟩
theorem fd_RX12_72 : mx_fd RX12 72 12 37 RX12 TX12 114 := ⟨rfl, by decide, wi_12, kw_1900⟩
theorem fd_RX12_75 : mx_fd RX12 75 12 39 RX12 TX12 114 := ⟨rfl, by decide, wi_12, kw_1902⟩
theorem fd_RX12_765 : mx_fd RX12 765 12 90 RX12 TX12 114 := ⟨rfl, by decide, wi_12, kw_1953⟩
theorem fd_RX12_768 : mx_fd RX12 768 12 89 RX12 TX12 114 := ⟨rfl, by decide, wi_12, kw_1952⟩
theorem fd_RX12_78 : mx_fd RX12 78 12 40 RX12 TX12 114 := ⟨rfl, by decide, wi_12, kw_1903⟩
theorem fd_RX12_780 : mx_fd RX12 780 12 91 RX12 TX12 114 := ⟨rfl, by decide, wi_12, kw_1954⟩
theorem fd_RX12_800 : mx_fd RX12 800 12 105 RX12 TX12 114 := ⟨rfl, by decide, wi_12, kw_1968⟩
theorem fd_RX12_809 : mx_fd RX12 809 12 112 RX12 TX12 114 := ⟨rfl, by decide, wi_12, kw_1975⟩
theorem fd_RX12_81 : mx_fd RX12 81 12 41 RX12 TX12 114 := ⟨rfl, by decide, wi_12, kw_1904⟩
theorem fd_RX12_815 : mx_fd RX12 815 12 102 RX12 TX12 114 := ⟨rfl, by decide, wi_12, kw_1965⟩
theorem fd_RX12_818 : mx_fd RX12 818 12 113 RX12 TX12 114 := ⟨rfl, by decide, wi_12, kw_1976⟩
theorem fd_RX12_821 : mx_fd RX12 821 12 103 RX12 TX12 114 := ⟨rfl, by decide, wi_12, kw_1966⟩
theorem fd_RX12_830 : mx_fd RX12 830 12 95 RX12 TX12 114 := ⟨rfl, by decide, wi_12, kw_1958⟩
theorem fd_RX12_84 : mx_fd RX12 84 12 42 RX12 TX12 114 := ⟨rfl, by decide, wi_12, kw_1905⟩
theorem fd_RX12_87 : mx_fd RX12 87 12 43 RX12 TX12 114 := ⟨rfl, by decide, wi_12, kw_1906⟩
theorem fd_RX12_90 : mx_fd RX12 90 12 44 RX12 TX12 114 := ⟨rfl, by decide, wi_12, kw_1907⟩
theorem fd_RX12_93 : mx_fd RX12 93 12 45 RX12 TX12 114 := ⟨rfl, by decide, wi_12, kw_1908⟩
theorem fd_RX12_96 : mx_fd RX12 96 12 46 RX12 TX12 114 := ⟨rfl, by decide, wi_12, kw_1909⟩
theorem fd_RX12_99 : mx_fd RX12 99 12 47 RX12 TX12 114 := ⟨rfl, by decide, wi_12, kw_1910⟩
theorem ft_1_1 : mx_ft 1 1 := ⟨fun _ => rfl, fun _ => rfl, fun _ _ _ => rfl⟩
theorem ft_1_2 : mx_ft 1 2 := ⟨fun _ => rfl, fun _ => rfl, fun _ _ _ => rfl⟩
theorem ft_1_3 : mx_ft 1 3 := ⟨fun _ => rfl, fun _ => rfl, fun _ _ _ => rfl⟩
theorem ft_1_4 : mx_ft 1 4 := ⟨fun _ => rfl, fun _ => rfl, fun _ _ _ => rfl⟩
theorem ft_1_5 : mx_ft 1 5 := ⟨fun _ => rfl, fun _ => rfl, fun _ _ _ => rfl⟩
theorem ft_1_6 : mx_ft 1 6 := ⟨fun _ => rfl, fun _ => rfl, fun _ _ _ => rfl⟩
theorem ft_1_7 : mx_ft 1 7 := ⟨fun _ => rfl, fun _ => rfl, fun _ _ _ => rfl⟩
theorem ft_10_0 : mx_ft 10 0 := ⟨fun _ => rfl, fun _ => rfl, fun _ _ _ => rfl⟩
theorem ft_10_13 : mx_ft 10 13 := ⟨fun _ => rfl, fun _ => rfl, fun _ _ _ => rfl⟩
theorem ft_10_14 : mx_ft 10 14 := ⟨fun _ => rfl, fun _ => rfl, fun _ _ _ => rfl⟩
theorem ft_10_15 : mx_ft 10 15 := ⟨fun _ => rfl, fun _ => rfl, fun _ _ _ => rfl⟩
theorem ft_10_16 : mx_ft 10 16 := ⟨fun _ => rfl, fun _ => rfl, fun _ _ _ => rfl⟩
theorem ft_10_17 : mx_ft 10 17 := ⟨fun _ => rfl, fun _ => rfl, fun _ _ _ => rfl⟩
theorem ft_10_18 : mx_ft 10 18 := ⟨fun _ => rfl, fun _ => rfl, fun _ _ _ => rfl⟩
theorem ft_11_0 : mx_ft 11 0 := ⟨fun _ => rfl, fun _ => rfl, fun _ _ _ => rfl⟩
theorem ft_11_1 : mx_ft 11 1 := ⟨fun _ => rfl, fun _ => rfl, fun _ _ _ => rfl⟩
theorem ft_11_2 : mx_ft 11 2 := ⟨fun _ => rfl, fun _ => rfl, fun _ _ _ => rfl⟩
theorem ft_11_3 : mx_ft 11 3 := ⟨fun _ => rfl, fun _ => rfl, fun _ _ _ => rfl⟩
theorem ft_11_4 : mx_ft 11 4 := ⟨fun _ => rfl, fun _ => rfl, fun _ _ _ => rfl⟩
theorem ft_11_5 : mx_ft 11 5 := ⟨fun _ => rfl, fun _ => rfl, fun _ _ _ => rfl⟩
theorem ft_11_6 : mx_ft 11 6 := ⟨fun _ => rfl, fun _ => rfl, fun _ _ _ => rfl⟩
theorem ft_11_7 : mx_ft 11 7 := ⟨fun _ => rfl, fun _ => rfl, fun _ _ _ => rfl⟩
theorem ft_11_8 : mx_ft 11 8 := ⟨fun _ => rfl, fun _ => rfl, fun _ _ _ => rfl⟩
theorem ft_11_9 : mx_ft 11 9 := ⟨fun _ => rfl, fun _ => rfl, fun _ _ _ => rfl⟩
theorem ft_12_1 : mx_ft 12 1 := ⟨fun _ => rfl, fun _ => rfl, fun _ _ _ => rfl⟩
theorem ft_12_100 : mx_ft 12 100 := ⟨fun _ => rfl, fun _ => rfl, fun _ _ _ => rfl⟩
theorem ft_12_101 : mx_ft 12 101 := ⟨fun _ => rfl, fun _ => rfl, fun _ _ _ => rfl⟩
theorem ft_12_104 : mx_ft 12 104 := ⟨fun _ => rfl, fun _ => rfl, fun _ _ _ => rfl⟩
theorem ft_12_106 : mx_ft 12 106 := ⟨fun _ => rfl, fun _ => rfl, fun _ _ _ => rfl⟩
theorem ft_12_107 : mx_ft 12 107 := ⟨fun _ => rfl, fun _ => rfl, fun _ _ _ => rfl⟩
theorem ft_12_108 : mx_ft 12 108 := ⟨fun _ => rfl, fun _ => rfl, fun _ _ _ => rfl⟩
theorem ft_12_109 : mx_ft 12 109 := ⟨fun _ => rfl, fun _ => rfl, fun _ _ _ => rfl⟩
theorem ft_12_11 : mx_ft 12 11 := ⟨fun _ => rfl, fun _ => rfl, fun _ _ _ => rfl⟩
theorem ft_12_110 : mx_ft 12 110 := ⟨fun _ => rfl, fun _ => rfl, fun _ _ _ => rfl⟩
theorem ft_12_111 : mx_ft 12 111 := ⟨fun _ => rfl, fun _ => rfl, fun _ _ _ => rfl⟩
theorem ft_12_12 : mx_ft 12 12 := ⟨fun _ => rfl, fun _ => rfl, fun _ _ _ => rfl⟩
theorem ft_12_13 : mx_ft 12 13 := ⟨fun _ => rfl, fun _ => rfl, fun _ _ _ => rfl⟩
theorem ft_12_21 : mx_ft 12 21 := ⟨fun _ => rfl, fun _ => rfl, fun _ _ _ => rfl⟩
theorem ft_12_22 : mx_ft 12 22 := ⟨fun _ => rfl, fun _ => rfl, fun _ _ _ => rfl⟩
theorem ft_12_23 : mx_ft 12 23 := ⟨fun _ => rfl, fun _ => rfl, fun _ _ _ => rfl⟩
theorem ft_12_24 : mx_ft 12 24 := ⟨fun _ => rfl, fun _ => rfl, fun _ _ _ => rfl⟩
theorem ft_12_25 : mx_ft 12 25 := ⟨fun _ => rfl, fun _ => rfl, fun _ _ _ => rfl⟩
theorem ft_12_26 : mx_ft 12 26 := ⟨fun _ => rfl, fun _ => rfl, fun _ _ _ => rfl⟩
theorem ft_12_27 : mx_ft 12 27 := ⟨fun _ => rfl, fun _ => rfl, fun _ _ _ => rfl⟩
theorem ft_12_28 : mx_ft 12 28 := ⟨fun _ => rfl, fun _ => rfl, fun _ _ _ => rfl⟩
theorem ft_12_29 : mx_ft 12 29 := ⟨fun _ => rfl, fun _ => rfl, fun _ _ _ => rfl⟩
theorem ft_12_30 : mx_ft 12 30 := ⟨fun _ => rfl, fun _ => rfl, fun _ _ _ => rfl⟩
theorem ft_12_31 : mx_ft 12 31 := ⟨fun _ => rfl, fun _ => rfl, fun _ _ _ => rfl⟩
theorem ft_12_32 : mx_ft 12 32 := ⟨fun _ => rfl, fun _ => rfl, fun _ _ _ => rfl⟩
theorem ft_12_33 : mx_ft 12 33 := ⟨fun _ => rfl, fun _ => rfl, fun _ _ _ => rfl⟩
theorem ft_12_34 : mx_ft 12 34 := ⟨fun _ => rfl, fun _ => rfl, fun _ _ _ => rfl⟩
theorem ft_12_35 : mx_ft 12 35 := ⟨fun _ => rfl, fun _ => rfl, fun _ _ _ => rfl⟩
theorem ft_12_36 : mx_ft 12 36 := ⟨fun _ => rfl, fun _ => rfl, fun _ _ _ => rfl⟩
theorem ft_12_37 : mx_ft 12 37 := ⟨fun _ => rfl, fun _ => rfl, fun _ _ _ => rfl⟩
theorem ft_12_39 : mx_ft 12 39 := ⟨fun _ => rfl, fun _ => rfl, fun _ _ _ => rfl⟩
theorem ft_12_40 : mx_ft 12 40 := ⟨fun _ => rfl, fun _ => rfl, fun _ _ _ => rfl⟩
theorem ft_12_41 : mx_ft 12 41 := ⟨fun _ => rfl, fun _ => rfl, fun _ _ _ => rfl⟩
theorem ft_12_42 : mx_ft 12 42 := ⟨fun _ => rfl, fun _ => rfl, fun _ _ _ => rfl⟩
theorem ft_12_43 : mx_ft 12 43 := ⟨fun _ => rfl, fun _ => rfl, fun _ _ _ => rfl⟩
theorem ft_12_44 : mx_ft 12 44 := ⟨fun _ => rfl, fun _ => rfl, fun _ _ _ => rfl⟩
theorem ft_12_45 : mx_ft 12 45 := ⟨fun _ => rfl, fun _ => rfl, fun _ _ _ => rfl⟩
theorem ft_12_46 : mx_ft 12 46 := ⟨fun _ => rfl, fun _ => rfl, fun _ _ _ => rfl⟩
theorem ft_12_47 : mx_ft 12 47 := ⟨fun _ => rfl, fun _ => rfl, fun _ _ _ => rfl⟩
theorem ft_12_48 : mx_ft 12 48 := ⟨fun _ => rfl, fun _ => rfl, fun _ _ _ => rfl⟩
theorem ft_12_49 : mx_ft 12 49 := ⟨fun _ => rfl, fun _ => rfl, fun _ _ _ => rfl⟩
theorem ft_12_51 : mx_ft 12 51 := ⟨fun _ => rfl, fun _ => rfl, fun _ _ _ => rfl⟩
theorem ft_12_52 : mx_ft 12 52 := ⟨fun _ => rfl, fun _ => rfl, fun _ _ _ => rfl⟩
theorem ft_12_56 : mx_ft 12 56 := ⟨fun _ => rfl, fun _ => rfl, fun _ _ _ => rfl⟩
theorem ft_12_58 : mx_ft 12 58 := ⟨fun _ => rfl, fun _ => rfl, fun _ _ _ => rfl⟩
theorem ft_12_59 : mx_ft 12 59 := ⟨fun _ => rfl, fun _ => rfl, fun _ _ _ => rfl⟩
theorem ft_12_61 : mx_ft 12 61 := ⟨fun _ => rfl, fun _ => rfl, fun _ _ _ => rfl⟩
theorem ft_12_62 : mx_ft 12 62 := ⟨fun _ => rfl, fun _ => rfl, fun _ _ _ => rfl⟩
theorem ft_12_63 : mx_ft 12 63 := ⟨fun _ => rfl, fun _ => rfl, fun _ _ _ => rfl⟩
theorem ft_12_64 : mx_ft 12 64 := ⟨fun _ => rfl, fun _ => rfl, fun _ _ _ => rfl⟩
theorem ft_12_65 : mx_ft 12 65 := ⟨fun _ => rfl, fun _ => rfl, fun _ _ _ => rfl⟩
theorem ft_12_66 : mx_ft 12 66 := ⟨fun _ => rfl, fun _ => rfl, fun _ _ _ => rfl⟩
theorem ft_12_67 : mx_ft 12 67 := ⟨fun _ => rfl, fun _ => rfl, fun _ _ _ => rfl⟩
theorem ft_12_69 : mx_ft 12 69 := ⟨fun _ => rfl, fun _ => rfl, fun _ _ _ => rfl⟩
theorem ft_12_70 : mx_ft 12 70 := ⟨fun _ => rfl, fun _ => rfl, fun _ _ _ => rfl⟩
theorem ft_12_71 : mx_ft 12 71 := ⟨fun _ => rfl, fun _ => rfl, fun _ _ _ => rfl⟩
theorem ft_12_73 : mx_ft 12 73 := ⟨fun _ => rfl, fun _ => rfl, fun _ _ _ => rfl⟩
theorem ft_12_75 : mx_ft 12 75 := ⟨fun _ => rfl, fun _ => rfl, fun _ _ _ => rfl⟩
theorem ft_12_76 : mx_ft 12 76 := ⟨fun _ => rfl, fun _ => rfl, fun _ _ _ => rfl⟩
theorem ft_12_77 : mx_ft 12 77 := ⟨fun _ => rfl, fun _ => rfl, fun _ _ _ => rfl⟩
theorem ft_12_78 : mx_ft 12 78 := ⟨fun _ => rfl, fun _ => rfl, fun _ _ _ => rfl⟩
theorem ft_12_79 : mx_ft 12 79 := ⟨fun _ => rfl, fun _ => rfl, fun _ _ _ => rfl⟩
theorem ft_12_81 : mx_ft 12 81 := ⟨fun _ => rfl, fun _ => rfl, fun _ _ _ => rfl⟩
theorem ft_12_82 : mx_ft 12 82 := ⟨fun _ => rfl, fun _ => rfl, fun _ _ _ => rfl⟩
theorem ft_12_83 : mx_ft 12 83 := ⟨fun _ => rfl, fun _ => rfl, fun _ _ _ => rfl⟩
theorem ft_12_84 : mx_ft 12 84 := ⟨fun _ => rfl, fun _ => rfl, fun _ _ _ => rfl⟩
theorem ft_12_85 : mx_ft 12 85 := ⟨fun _ => rfl, fun _ => rfl, fun _ _ _ => rfl⟩
theorem ft_12_86 : mx_ft 12 86 := ⟨fun _ => rfl, fun _ => rfl, fun _ _ _ => rfl⟩
theorem ft_12_87 : mx_ft 12 87 := ⟨fun _ => rfl, fun _ => rfl, fun _ _ _ => rfl⟩
theorem ft_12_88 : mx_ft 12 88 := ⟨fun _ => rfl, fun _ => rfl, fun _ _ _ => rfl⟩
theorem ft_12_92 : mx_ft 12 92 := ⟨fun _ => rfl, fun _ => rfl, fun _ _ _ => rfl⟩
theorem ft_12_93 : mx_ft 12 93 := ⟨fun _ => rfl, fun _ => rfl, fun _ _ _ => rfl⟩
theorem ft_12_94 : mx_ft 12 94 := ⟨fun _ => rfl, fun _ => rfl, fun _ _ _ => rfl⟩
theorem ft_12_96 : mx_ft 12 96 := ⟨fun _ => rfl, fun _ => rfl, fun _ _ _ => rfl⟩
theorem ft_12_97 : mx_ft 12 97 := ⟨fun _ => rfl, fun _ => rfl, fun _ _ _ => rfl⟩
theorem ft_12_98 : mx_ft 12 98 := ⟨fun _ => rfl, fun _ => rfl, fun _ _ _ => rfl⟩
theorem ft_12_99 : mx_ft 12 99 := ⟨fun _ => rfl, fun _ => rfl, fun _ _ _ => rfl⟩
theorem ft_2_10 : mx_ft 2 10 := ⟨fun _ => rfl, fun _ => rfl, fun _ _ _ => rfl⟩
theorem ft_2_2 : mx_ft 2 2 := ⟨fun _ => rfl, fun _ => rfl, fun _ _ _ => rfl⟩
theorem ft_2_5 : mx_ft 2 5 := ⟨fun _ => rfl, fun _ => rfl, fun _ _ _ => rfl⟩
theorem ft_2_6 : mx_ft 2 6 := ⟨fun _ => rfl, fun _ => rfl, fun _ _ _ => rfl⟩
theorem ft_2_7 : mx_ft 2 7 := ⟨fun _ => rfl, fun _ => rfl, fun _ _ _ => rfl⟩
theorem ft_2_8 : mx_ft 2 8 := ⟨fun _ => rfl, fun _ => rfl, fun _ _ _ => rfl⟩
theorem ft_2_9 : mx_ft 2 9 := ⟨fun _ => rfl, fun _ => rfl, fun _ _ _ => rfl⟩
theorem ft_4_10 : mx_ft 4 10 := ⟨fun _ => rfl, fun _ => rfl, fun _ _ _ => rfl⟩
theorem ft_4_11 : mx_ft 4 11 := ⟨fun _ => rfl, fun _ => rfl, fun _ _ _ => rfl⟩
theorem ft_4_12 : mx_ft 4 12 := ⟨fun _ => rfl, fun _ => rfl, fun _ _ _ => rfl⟩
theorem ft_4_15 : mx_ft 4 15 := ⟨fun _ => rfl, fun _ => rfl, fun _ _ _ => rfl⟩
theorem ft_4_16 : mx_ft 4 16 := ⟨fun _ => rfl, fun _ => rfl, fun _ _ _ => rfl⟩
theorem ft_4_17 : mx_ft 4 17 := ⟨fun _ => rfl, fun _ => rfl, fun _ _ _ => rfl⟩
theorem ft_4_3 : mx_ft 4 3 := ⟨fun _ => rfl, fun _ => rfl, fun _ _ _ => rfl⟩
theorem ft_4_4 : mx_ft 4 4 := ⟨fun _ => rfl, fun _ => rfl, fun _ _ _ => rfl⟩
theorem ft_4_5 : mx_ft 4 5 := ⟨fun _ => rfl, fun _ => rfl, fun _ _ _ => rfl⟩
theorem ft_4_6 : mx_ft 4 6 := ⟨fun _ => rfl, fun _ => rfl, fun _ _ _ => rfl⟩
theorem ft_4_7 : mx_ft 4 7 := ⟨fun _ => rfl, fun _ => rfl, fun _ _ _ => rfl⟩
theorem ft_4_8 : mx_ft 4 8 := ⟨fun _ => rfl, fun _ => rfl, fun _ _ _ => rfl⟩
theorem ft_4_9 : mx_ft 4 9 := ⟨fun _ => rfl, fun _ => rfl, fun _ _ _ => rfl⟩
theorem ft_5_10 : mx_ft 5 10 := ⟨fun _ => rfl, fun _ => rfl, fun _ _ _ => rfl⟩
theorem ft_5_11 : mx_ft 5 11 := ⟨fun _ => rfl, fun _ => rfl, fun _ _ _ => rfl⟩
theorem ft_5_12 : mx_ft 5 12 := ⟨fun _ => rfl, fun _ => rfl, fun _ _ _ => rfl⟩
theorem ft_5_13 : mx_ft 5 13 := ⟨fun _ => rfl, fun _ => rfl, fun _ _ _ => rfl⟩
theorem ft_5_14 : mx_ft 5 14 := ⟨fun _ => rfl, fun _ => rfl, fun _ _ _ => rfl⟩
theorem ft_5_2 : mx_ft 5 2 := ⟨fun _ => rfl, fun _ => rfl, fun _ _ _ => rfl⟩
theorem ft_5_9 : mx_ft 5 9 := ⟨fun _ => rfl, fun _ => rfl, fun _ _ _ => rfl⟩
theorem ft_6_1 : mx_ft 6 1 := ⟨fun _ => rfl, fun _ => rfl, fun _ _ _ => rfl⟩
theorem ft_6_4 : mx_ft 6 4 := ⟨fun _ => rfl, fun _ => rfl, fun _ _ _ => rfl⟩
theorem ft_6_5 : mx_ft 6 5 := ⟨fun _ => rfl, fun _ => rfl, fun _ _ _ => rfl⟩
theorem ft_6_6 : mx_ft 6 6 := ⟨fun _ => rfl, fun _ => rfl, fun _ _ _ => rfl⟩
theorem ft_6_7 : mx_ft 6 7 := ⟨fun _ => rfl, fun _ => rfl, fun _ _ _ => rfl⟩
theorem ft_6_8 : mx_ft 6 8 := ⟨fun _ => rfl, fun _ => rfl, fun _ _ _ => rfl⟩
theorem ft_6_9 : mx_ft 6 9 := ⟨fun _ => rfl, fun _ => rfl, fun _ _ _ => rfl⟩
theorem ft_7_0 : mx_ft 7 0 := ⟨fun _ => rfl, fun _ => rfl, fun _ _ _ => rfl⟩
theorem ft_7_1 : mx_ft 7 1 := ⟨fun _ => rfl, fun _ => rfl, fun _ _ _ => rfl⟩
theorem ft_7_11 : mx_ft 7 11 := ⟨fun _ => rfl, fun _ => rfl, fun _ _ _ => rfl⟩
theorem ft_7_12 : mx_ft 7 12 := ⟨fun _ => rfl, fun _ => rfl, fun _ _ _ => rfl⟩
theorem ft_7_13 : mx_ft 7 13 := ⟨fun _ => rfl, fun _ => rfl, fun _ _ _ => rfl⟩
theorem ft_7_14 : mx_ft 7 14 := ⟨fun _ => rfl, fun _ => rfl, fun _ _ _ => rfl⟩
theorem ft_7_15 : mx_ft 7 15 := ⟨fun _ => rfl, fun _ => rfl, fun _ _ _ => rfl⟩
theorem ft_7_16 : mx_ft 7 16 := ⟨fun _ => rfl, fun _ => rfl, fun _ _ _ => rfl⟩
theorem ft_7_17 : mx_ft 7 17 := ⟨fun _ => rfl, fun _ => rfl, fun _ _ _ => rfl⟩
theorem ft_7_18 : mx_ft 7 18 := ⟨fun _ => rfl, fun _ => rfl, fun _ _ _ => rfl⟩
theorem ft_7_19 : mx_ft 7 19 := ⟨fun _ => rfl, fun _ => rfl, fun _ _ _ => rfl⟩
theorem ft_7_4 : mx_ft 7 4 := ⟨fun _ => rfl, fun _ => rfl, fun _ _ _ => rfl⟩
theorem ft_7_5 : mx_ft 7 5 := ⟨fun _ => rfl, fun _ => rfl, fun _ _ _ => rfl⟩
theorem ft_7_7 : mx_ft 7 7 := ⟨fun _ => rfl, fun _ => rfl, fun _ _ _ => rfl⟩
theorem ft_7_8 : mx_ft 7 8 := ⟨fun _ => rfl, fun _ => rfl, fun _ _ _ => rfl⟩
theorem ft_8_0 : mx_ft 8 0 := ⟨fun _ => rfl, fun _ => rfl, fun _ _ _ => rfl⟩
theorem ft_8_1 : mx_ft 8 1 := ⟨fun _ => rfl, fun _ => rfl, fun _ _ _ => rfl⟩
theorem ft_9_1 : mx_ft 9 1 := ⟨fun _ => rfl, fun _ => rfl, fun _ _ _ => rfl⟩
theorem ft_9_2 : mx_ft 9 2 := ⟨fun _ => rfl, fun _ => rfl, fun _ _ _ => rfl⟩
theorem ht_0_0 : mx_ty 0 0 = .long := rfl
theorem ht_0_1 : mx_ty 0 1 = .long := rfl
theorem ht_0_2 : mx_ty 0 2 = .boolean := rfl
theorem ht_1_0 : mx_ty 1 0 = .int := rfl
theorem ht_10_1 : mx_ty 10 1 = .int := rfl
theorem ht_10_10 : mx_ty 10 10 = .int := rfl
theorem ht_10_11 : mx_ty 10 11 = .int := rfl
theorem ht_10_12 : mx_ty 10 12 = .int := rfl
theorem ht_10_19 : mx_ty 10 19 = .int := rfl
theorem ht_10_2 : mx_ty 10 2 = .int := rfl
theorem ht_10_3 : mx_ty 10 3 = .int := rfl
theorem ht_10_4 : mx_ty 10 4 = .int := rfl
theorem ht_10_5 : mx_ty 10 5 = .int := rfl
theorem ht_10_6 : mx_ty 10 6 = .int := rfl
theorem ht_10_7 : mx_ty 10 7 = .long := rfl
theorem ht_10_8 : mx_ty 10 8 = .int := rfl
theorem ht_10_9 : mx_ty 10 9 = .int := rfl
theorem ht_12_0 : mx_ty 12 0 = .int := rfl
theorem ht_12_10 : mx_ty 12 10 = .boolean := rfl
theorem ht_12_102 : mx_ty 12 102 = .int := rfl
theorem ht_12_103 : mx_ty 12 103 = .int := rfl
theorem ht_12_105 : mx_ty 12 105 = .int := rfl
theorem ht_12_112 : mx_ty 12 112 = .int := rfl
theorem ht_12_113 : mx_ty 12 113 = .int := rfl
theorem ht_12_14 : mx_ty 12 14 = .int := rfl
theorem ht_12_15 : mx_ty 12 15 = .int := rfl
theorem ht_12_16 : mx_ty 12 16 = .int := rfl
theorem ht_12_17 : mx_ty 12 17 = .long := rfl
theorem ht_12_18 : mx_ty 12 18 = .long := rfl
theorem ht_12_19 : mx_ty 12 19 = .int := rfl
theorem ht_12_2 : mx_ty 12 2 = .int := rfl
theorem ht_12_20 : mx_ty 12 20 = .int := rfl
theorem ht_12_3 : mx_ty 12 3 = .int := rfl
theorem ht_12_38 : mx_ty 12 38 = .int := rfl
theorem ht_12_4 : mx_ty 12 4 = .int := rfl
theorem ht_12_5 : mx_ty 12 5 = .int := rfl
theorem ht_12_50 : mx_ty 12 50 = .int := rfl
theorem ht_12_53 : mx_ty 12 53 = .int := rfl
theorem ht_12_54 : mx_ty 12 54 = .boolean := rfl
theorem ht_12_55 : mx_ty 12 55 = .boolean := rfl
theorem ht_12_57 : mx_ty 12 57 = .int := rfl
theorem ht_12_6 : mx_ty 12 6 = .int := rfl
theorem ht_12_60 : mx_ty 12 60 = .int := rfl
theorem ht_12_68 : mx_ty 12 68 = .int := rfl
theorem ht_12_7 : mx_ty 12 7 = .int := rfl
theorem ht_12_72 : mx_ty 12 72 = .int := rfl
theorem ht_12_74 : mx_ty 12 74 = .int := rfl
theorem ht_12_8 : mx_ty 12 8 = .long := rfl
theorem ht_12_80 : mx_ty 12 80 = .int := rfl
theorem ht_12_89 : mx_ty 12 89 = .long := rfl
theorem ht_12_9 : mx_ty 12 9 = .long := rfl
theorem ht_12_90 : mx_ty 12 90 = .long := rfl
theorem ht_12_91 : mx_ty 12 91 = .int := rfl
theorem ht_12_95 : mx_ty 12 95 = .int := rfl
theorem ht_2_0 : mx_ty 2 0 = .int := rfl
theorem ht_2_1 : mx_ty 2 1 = .int := rfl
theorem ht_2_3 : mx_ty 2 3 = .int := rfl
theorem ht_2_4 : mx_ty 2 4 = .int := rfl
theorem ht_3_0 : mx_ty 3 0 = .long := rfl
theorem ht_3_1 : mx_ty 3 1 = .long := rfl
theorem ht_3_2 : mx_ty 3 2 = .boolean := rfl
theorem ht_4_0 : mx_ty 4 0 = .int := rfl
theorem ht_4_1 : mx_ty 4 1 = .int := rfl
theorem ht_4_13 : mx_ty 4 13 = .int := rfl
theorem ht_4_14 : mx_ty 4 14 = .int := rfl
theorem ht_4_2 : mx_ty 4 2 = .int := rfl
theorem ht_5_0 : mx_ty 5 0 = .long := rfl
theorem ht_5_1 : mx_ty 5 1 = .int := rfl
theorem ht_5_15 : mx_ty 5 15 = .int := rfl
theorem ht_5_16 : mx_ty 5 16 = .boolean := rfl
theorem ht_5_17 : mx_ty 5 17 = .int := rfl
theorem ht_5_18 : mx_ty 5 18 = .int := rfl
theorem ht_5_19 : mx_ty 5 19 = .int := rfl
theorem ht_5_3 : mx_ty 5 3 = .int := rfl
theorem ht_5_4 : mx_ty 5 4 = .int := rfl
theorem ht_5_5 : mx_ty 5 5 = .int := rfl
theorem ht_5_6 : mx_ty 5 6 = .boolean := rfl
theorem ht_5_7 : mx_ty 5 7 = .int := rfl
theorem ht_5_8 : mx_ty 5 8 = .int := rfl
theorem ht_6_0 : mx_ty 6 0 = .int := rfl
theorem ht_6_2 : mx_ty 6 2 = .int := rfl
theorem ht_6_3 : mx_ty 6 3 = .int := rfl
theorem ht_7_10 : mx_ty 7 10 = .boolean := rfl
theorem ht_7_2 : mx_ty 7 2 = .int := rfl
theorem ht_7_3 : mx_ty 7 3 = .int := rfl
theorem ht_7_6 : mx_ty 7 6 = .int := rfl
theorem ht_7_9 : mx_ty 7 9 = .int := rfl
theorem ht_9_0 : mx_ty 9 0 = .int := rfl
theorem hv_0_0 : ∀ x y r, mx_val (mx_ty 0 0) x y r = .long y := fun _ _ _ => rfl
theorem hv_0_1 : ∀ x y r, mx_val (mx_ty 0 1) x y r = .long y := fun _ _ _ => rfl
theorem hv_0_2 : ∀ x y r, mx_val (mx_ty 0 2) x y r = .int x := fun _ _ _ => rfl
theorem hv_1_0 : ∀ x y r, mx_val (mx_ty 1 0) x y r = .int x := fun _ _ _ => rfl
theorem hv_1_1 : ∀ x y r, mx_val (mx_ty 1 1) x y r = va_rf r := fun _ _ _ => rfl
theorem hv_1_2 : ∀ x y r, mx_val (mx_ty 1 2) x y r = va_rf r := fun _ _ _ => rfl
theorem hv_1_3 : ∀ x y r, mx_val (mx_ty 1 3) x y r = va_rf r := fun _ _ _ => rfl
theorem hv_1_4 : ∀ x y r, mx_val (mx_ty 1 4) x y r = va_rf r := fun _ _ _ => rfl
theorem hv_1_5 : ∀ x y r, mx_val (mx_ty 1 5) x y r = va_rf r := fun _ _ _ => rfl
theorem hv_1_6 : ∀ x y r, mx_val (mx_ty 1 6) x y r = va_rf r := fun _ _ _ => rfl
theorem hv_1_7 : ∀ x y r, mx_val (mx_ty 1 7) x y r = va_rf r := fun _ _ _ => rfl
theorem hv_10_0 : ∀ x y r, mx_val (mx_ty 10 0) x y r = va_rf r := fun _ _ _ => rfl
theorem hv_10_1 : ∀ x y r, mx_val (mx_ty 10 1) x y r = .int x := fun _ _ _ => rfl
theorem hv_10_10 : ∀ x y r, mx_val (mx_ty 10 10) x y r = .int x := fun _ _ _ => rfl
theorem hv_10_11 : ∀ x y r, mx_val (mx_ty 10 11) x y r = .int x := fun _ _ _ => rfl
theorem hv_10_12 : ∀ x y r, mx_val (mx_ty 10 12) x y r = .int x := fun _ _ _ => rfl
theorem hv_10_13 : ∀ x y r, mx_val (mx_ty 10 13) x y r = va_rf r := fun _ _ _ => rfl
theorem hv_10_14 : ∀ x y r, mx_val (mx_ty 10 14) x y r = va_rf r := fun _ _ _ => rfl
theorem hv_10_15 : ∀ x y r, mx_val (mx_ty 10 15) x y r = va_rf r := fun _ _ _ => rfl
theorem hv_10_16 : ∀ x y r, mx_val (mx_ty 10 16) x y r = va_rf r := fun _ _ _ => rfl
theorem hv_10_17 : ∀ x y r, mx_val (mx_ty 10 17) x y r = va_rf r := fun _ _ _ => rfl
theorem hv_10_18 : ∀ x y r, mx_val (mx_ty 10 18) x y r = va_rf r := fun _ _ _ => rfl
theorem hv_10_19 : ∀ x y r, mx_val (mx_ty 10 19) x y r = .int x := fun _ _ _ => rfl
theorem hv_10_2 : ∀ x y r, mx_val (mx_ty 10 2) x y r = .int x := fun _ _ _ => rfl
theorem hv_10_3 : ∀ x y r, mx_val (mx_ty 10 3) x y r = .int x := fun _ _ _ => rfl
theorem hv_10_4 : ∀ x y r, mx_val (mx_ty 10 4) x y r = .int x := fun _ _ _ => rfl
theorem hv_10_5 : ∀ x y r, mx_val (mx_ty 10 5) x y r = .int x := fun _ _ _ => rfl
theorem hv_10_6 : ∀ x y r, mx_val (mx_ty 10 6) x y r = .int x := fun _ _ _ => rfl
theorem hv_10_7 : ∀ x y r, mx_val (mx_ty 10 7) x y r = .long y := fun _ _ _ => rfl
theorem hv_10_8 : ∀ x y r, mx_val (mx_ty 10 8) x y r = .int x := fun _ _ _ => rfl
theorem hv_10_9 : ∀ x y r, mx_val (mx_ty 10 9) x y r = .int x := fun _ _ _ => rfl
theorem hv_11_0 : ∀ x y r, mx_val (mx_ty 11 0) x y r = va_rf r := fun _ _ _ => rfl
theorem hv_11_1 : ∀ x y r, mx_val (mx_ty 11 1) x y r = va_rf r := fun _ _ _ => rfl
theorem hv_11_2 : ∀ x y r, mx_val (mx_ty 11 2) x y r = va_rf r := fun _ _ _ => rfl
theorem hv_11_3 : ∀ x y r, mx_val (mx_ty 11 3) x y r = va_rf r := fun _ _ _ => rfl
theorem hv_11_4 : ∀ x y r, mx_val (mx_ty 11 4) x y r = va_rf r := fun _ _ _ => rfl
theorem hv_11_5 : ∀ x y r, mx_val (mx_ty 11 5) x y r = va_rf r := fun _ _ _ => rfl
theorem hv_11_6 : ∀ x y r, mx_val (mx_ty 11 6) x y r = va_rf r := fun _ _ _ => rfl
theorem hv_11_7 : ∀ x y r, mx_val (mx_ty 11 7) x y r = va_rf r := fun _ _ _ => rfl
theorem hv_11_8 : ∀ x y r, mx_val (mx_ty 11 8) x y r = va_rf r := fun _ _ _ => rfl
theorem hv_11_9 : ∀ x y r, mx_val (mx_ty 11 9) x y r = va_rf r := fun _ _ _ => rfl
theorem hv_12_0 : ∀ x y r, mx_val (mx_ty 12 0) x y r = .int x := fun _ _ _ => rfl
theorem hv_12_1 : ∀ x y r, mx_val (mx_ty 12 1) x y r = va_rf r := fun _ _ _ => rfl
theorem hv_12_10 : ∀ x y r, mx_val (mx_ty 12 10) x y r = .int x := fun _ _ _ => rfl
theorem hv_12_100 : ∀ x y r, mx_val (mx_ty 12 100) x y r = va_rf r := fun _ _ _ => rfl
theorem hv_12_101 : ∀ x y r, mx_val (mx_ty 12 101) x y r = va_rf r := fun _ _ _ => rfl
theorem hv_12_102 : ∀ x y r, mx_val (mx_ty 12 102) x y r = .int x := fun _ _ _ => rfl
theorem hv_12_103 : ∀ x y r, mx_val (mx_ty 12 103) x y r = .int x := fun _ _ _ => rfl
theorem hv_12_104 : ∀ x y r, mx_val (mx_ty 12 104) x y r = va_rf r := fun _ _ _ => rfl
theorem hv_12_105 : ∀ x y r, mx_val (mx_ty 12 105) x y r = .int x := fun _ _ _ => rfl
theorem hv_12_106 : ∀ x y r, mx_val (mx_ty 12 106) x y r = va_rf r := fun _ _ _ => rfl
theorem hv_12_107 : ∀ x y r, mx_val (mx_ty 12 107) x y r = va_rf r := fun _ _ _ => rfl
theorem hv_12_108 : ∀ x y r, mx_val (mx_ty 12 108) x y r = va_rf r := fun _ _ _ => rfl
theorem hv_12_109 : ∀ x y r, mx_val (mx_ty 12 109) x y r = va_rf r := fun _ _ _ => rfl
theorem hv_12_11 : ∀ x y r, mx_val (mx_ty 12 11) x y r = va_rf r := fun _ _ _ => rfl
theorem hv_12_110 : ∀ x y r, mx_val (mx_ty 12 110) x y r = va_rf r := fun _ _ _ => rfl
theorem hv_12_111 : ∀ x y r, mx_val (mx_ty 12 111) x y r = va_rf r := fun _ _ _ => rfl
theorem hv_12_112 : ∀ x y r, mx_val (mx_ty 12 112) x y r = .int x := fun _ _ _ => rfl
theorem hv_12_113 : ∀ x y r, mx_val (mx_ty 12 113) x y r = .int x := fun _ _ _ => rfl
theorem hv_12_12 : ∀ x y r, mx_val (mx_ty 12 12) x y r = va_rf r := fun _ _ _ => rfl
theorem hv_12_13 : ∀ x y r, mx_val (mx_ty 12 13) x y r = va_rf r := fun _ _ _ => rfl
theorem hv_12_14 : ∀ x y r, mx_val (mx_ty 12 14) x y r = .int x := fun _ _ _ => rfl
theorem hv_12_15 : ∀ x y r, mx_val (mx_ty 12 15) x y r = .int x := fun _ _ _ => rfl
theorem hv_12_16 : ∀ x y r, mx_val (mx_ty 12 16) x y r = .int x := fun _ _ _ => rfl
theorem hv_12_17 : ∀ x y r, mx_val (mx_ty 12 17) x y r = .long y := fun _ _ _ => rfl
theorem hv_12_18 : ∀ x y r, mx_val (mx_ty 12 18) x y r = .long y := fun _ _ _ => rfl
theorem hv_12_19 : ∀ x y r, mx_val (mx_ty 12 19) x y r = .int x := fun _ _ _ => rfl
theorem hv_12_2 : ∀ x y r, mx_val (mx_ty 12 2) x y r = .int x := fun _ _ _ => rfl
theorem hv_12_20 : ∀ x y r, mx_val (mx_ty 12 20) x y r = .int x := fun _ _ _ => rfl
theorem hv_12_21 : ∀ x y r, mx_val (mx_ty 12 21) x y r = va_rf r := fun _ _ _ => rfl
theorem hv_12_22 : ∀ x y r, mx_val (mx_ty 12 22) x y r = va_rf r := fun _ _ _ => rfl
theorem hv_12_23 : ∀ x y r, mx_val (mx_ty 12 23) x y r = va_rf r := fun _ _ _ => rfl
theorem hv_12_24 : ∀ x y r, mx_val (mx_ty 12 24) x y r = va_rf r := fun _ _ _ => rfl
theorem hv_12_25 : ∀ x y r, mx_val (mx_ty 12 25) x y r = va_rf r := fun _ _ _ => rfl
theorem hv_12_26 : ∀ x y r, mx_val (mx_ty 12 26) x y r = va_rf r := fun _ _ _ => rfl
theorem hv_12_27 : ∀ x y r, mx_val (mx_ty 12 27) x y r = va_rf r := fun _ _ _ => rfl
theorem hv_12_28 : ∀ x y r, mx_val (mx_ty 12 28) x y r = va_rf r := fun _ _ _ => rfl
theorem hv_12_29 : ∀ x y r, mx_val (mx_ty 12 29) x y r = va_rf r := fun _ _ _ => rfl
theorem hv_12_3 : ∀ x y r, mx_val (mx_ty 12 3) x y r = .int x := fun _ _ _ => rfl
theorem hv_12_30 : ∀ x y r, mx_val (mx_ty 12 30) x y r = va_rf r := fun _ _ _ => rfl
theorem hv_12_31 : ∀ x y r, mx_val (mx_ty 12 31) x y r = va_rf r := fun _ _ _ => rfl
theorem hv_12_32 : ∀ x y r, mx_val (mx_ty 12 32) x y r = va_rf r := fun _ _ _ => rfl
theorem hv_12_33 : ∀ x y r, mx_val (mx_ty 12 33) x y r = va_rf r := fun _ _ _ => rfl
theorem hv_12_34 : ∀ x y r, mx_val (mx_ty 12 34) x y r = va_rf r := fun _ _ _ => rfl
theorem hv_12_35 : ∀ x y r, mx_val (mx_ty 12 35) x y r = va_rf r := fun _ _ _ => rfl
theorem hv_12_36 : ∀ x y r, mx_val (mx_ty 12 36) x y r = va_rf r := fun _ _ _ => rfl
theorem hv_12_37 : ∀ x y r, mx_val (mx_ty 12 37) x y r = va_rf r := fun _ _ _ => rfl
theorem hv_12_38 : ∀ x y r, mx_val (mx_ty 12 38) x y r = .int x := fun _ _ _ => rfl
theorem hv_12_39 : ∀ x y r, mx_val (mx_ty 12 39) x y r = va_rf r := fun _ _ _ => rfl
theorem hv_12_4 : ∀ x y r, mx_val (mx_ty 12 4) x y r = .int x := fun _ _ _ => rfl
theorem hv_12_40 : ∀ x y r, mx_val (mx_ty 12 40) x y r = va_rf r := fun _ _ _ => rfl
theorem hv_12_41 : ∀ x y r, mx_val (mx_ty 12 41) x y r = va_rf r := fun _ _ _ => rfl
theorem hv_12_42 : ∀ x y r, mx_val (mx_ty 12 42) x y r = va_rf r := fun _ _ _ => rfl
theorem hv_12_43 : ∀ x y r, mx_val (mx_ty 12 43) x y r = va_rf r := fun _ _ _ => rfl
theorem hv_12_44 : ∀ x y r, mx_val (mx_ty 12 44) x y r = va_rf r := fun _ _ _ => rfl
theorem hv_12_45 : ∀ x y r, mx_val (mx_ty 12 45) x y r = va_rf r := fun _ _ _ => rfl
theorem hv_12_46 : ∀ x y r, mx_val (mx_ty 12 46) x y r = va_rf r := fun _ _ _ => rfl
theorem hv_12_47 : ∀ x y r, mx_val (mx_ty 12 47) x y r = va_rf r := fun _ _ _ => rfl
theorem hv_12_48 : ∀ x y r, mx_val (mx_ty 12 48) x y r = va_rf r := fun _ _ _ => rfl
theorem hv_12_49 : ∀ x y r, mx_val (mx_ty 12 49) x y r = va_rf r := fun _ _ _ => rfl
theorem hv_12_5 : ∀ x y r, mx_val (mx_ty 12 5) x y r = .int x := fun _ _ _ => rfl
theorem hv_12_50 : ∀ x y r, mx_val (mx_ty 12 50) x y r = .int x := fun _ _ _ => rfl
theorem hv_12_51 : ∀ x y r, mx_val (mx_ty 12 51) x y r = va_rf r := fun _ _ _ => rfl
theorem hv_12_52 : ∀ x y r, mx_val (mx_ty 12 52) x y r = va_rf r := fun _ _ _ => rfl
theorem hv_12_53 : ∀ x y r, mx_val (mx_ty 12 53) x y r = .int x := fun _ _ _ => rfl
theorem hv_12_54 : ∀ x y r, mx_val (mx_ty 12 54) x y r = .int x := fun _ _ _ => rfl
theorem hv_12_55 : ∀ x y r, mx_val (mx_ty 12 55) x y r = .int x := fun _ _ _ => rfl
theorem hv_12_56 : ∀ x y r, mx_val (mx_ty 12 56) x y r = va_rf r := fun _ _ _ => rfl
theorem hv_12_57 : ∀ x y r, mx_val (mx_ty 12 57) x y r = .int x := fun _ _ _ => rfl
theorem hv_12_58 : ∀ x y r, mx_val (mx_ty 12 58) x y r = va_rf r := fun _ _ _ => rfl
theorem hv_12_59 : ∀ x y r, mx_val (mx_ty 12 59) x y r = va_rf r := fun _ _ _ => rfl
theorem hv_12_6 : ∀ x y r, mx_val (mx_ty 12 6) x y r = .int x := fun _ _ _ => rfl
theorem hv_12_60 : ∀ x y r, mx_val (mx_ty 12 60) x y r = .int x := fun _ _ _ => rfl
theorem hv_12_61 : ∀ x y r, mx_val (mx_ty 12 61) x y r = va_rf r := fun _ _ _ => rfl
theorem hv_12_62 : ∀ x y r, mx_val (mx_ty 12 62) x y r = va_rf r := fun _ _ _ => rfl
theorem hv_12_63 : ∀ x y r, mx_val (mx_ty 12 63) x y r = va_rf r := fun _ _ _ => rfl
theorem hv_12_64 : ∀ x y r, mx_val (mx_ty 12 64) x y r = va_rf r := fun _ _ _ => rfl
theorem hv_12_65 : ∀ x y r, mx_val (mx_ty 12 65) x y r = va_rf r := fun _ _ _ => rfl
theorem hv_12_66 : ∀ x y r, mx_val (mx_ty 12 66) x y r = va_rf r := fun _ _ _ => rfl
theorem hv_12_67 : ∀ x y r, mx_val (mx_ty 12 67) x y r = va_rf r := fun _ _ _ => rfl
theorem hv_12_68 : ∀ x y r, mx_val (mx_ty 12 68) x y r = .int x := fun _ _ _ => rfl
theorem hv_12_69 : ∀ x y r, mx_val (mx_ty 12 69) x y r = va_rf r := fun _ _ _ => rfl
theorem hv_12_7 : ∀ x y r, mx_val (mx_ty 12 7) x y r = .int x := fun _ _ _ => rfl
theorem hv_12_70 : ∀ x y r, mx_val (mx_ty 12 70) x y r = va_rf r := fun _ _ _ => rfl
theorem hv_12_71 : ∀ x y r, mx_val (mx_ty 12 71) x y r = va_rf r := fun _ _ _ => rfl
theorem hv_12_72 : ∀ x y r, mx_val (mx_ty 12 72) x y r = .int x := fun _ _ _ => rfl
theorem hv_12_73 : ∀ x y r, mx_val (mx_ty 12 73) x y r = va_rf r := fun _ _ _ => rfl
theorem hv_12_74 : ∀ x y r, mx_val (mx_ty 12 74) x y r = .int x := fun _ _ _ => rfl
theorem hv_12_75 : ∀ x y r, mx_val (mx_ty 12 75) x y r = va_rf r := fun _ _ _ => rfl
theorem hv_12_76 : ∀ x y r, mx_val (mx_ty 12 76) x y r = va_rf r := fun _ _ _ => rfl
theorem hv_12_77 : ∀ x y r, mx_val (mx_ty 12 77) x y r = va_rf r := fun _ _ _ => rfl
theorem hv_12_78 : ∀ x y r, mx_val (mx_ty 12 78) x y r = va_rf r := fun _ _ _ => rfl
theorem hv_12_79 : ∀ x y r, mx_val (mx_ty 12 79) x y r = va_rf r := fun _ _ _ => rfl
theorem hv_12_8 : ∀ x y r, mx_val (mx_ty 12 8) x y r = .long y := fun _ _ _ => rfl
theorem hv_12_80 : ∀ x y r, mx_val (mx_ty 12 80) x y r = .int x := fun _ _ _ => rfl
theorem hv_12_81 : ∀ x y r, mx_val (mx_ty 12 81) x y r = va_rf r := fun _ _ _ => rfl
theorem hv_12_82 : ∀ x y r, mx_val (mx_ty 12 82) x y r = va_rf r := fun _ _ _ => rfl
theorem hv_12_83 : ∀ x y r, mx_val (mx_ty 12 83) x y r = va_rf r := fun _ _ _ => rfl
theorem hv_12_84 : ∀ x y r, mx_val (mx_ty 12 84) x y r = va_rf r := fun _ _ _ => rfl
theorem hv_12_85 : ∀ x y r, mx_val (mx_ty 12 85) x y r = va_rf r := fun _ _ _ => rfl
theorem hv_12_86 : ∀ x y r, mx_val (mx_ty 12 86) x y r = va_rf r := fun _ _ _ => rfl
theorem hv_12_87 : ∀ x y r, mx_val (mx_ty 12 87) x y r = va_rf r := fun _ _ _ => rfl
theorem hv_12_88 : ∀ x y r, mx_val (mx_ty 12 88) x y r = va_rf r := fun _ _ _ => rfl
theorem hv_12_89 : ∀ x y r, mx_val (mx_ty 12 89) x y r = .long y := fun _ _ _ => rfl
theorem hv_12_9 : ∀ x y r, mx_val (mx_ty 12 9) x y r = .long y := fun _ _ _ => rfl
theorem hv_12_90 : ∀ x y r, mx_val (mx_ty 12 90) x y r = .long y := fun _ _ _ => rfl
theorem hv_12_91 : ∀ x y r, mx_val (mx_ty 12 91) x y r = .int x := fun _ _ _ => rfl
theorem hv_12_92 : ∀ x y r, mx_val (mx_ty 12 92) x y r = va_rf r := fun _ _ _ => rfl
theorem hv_12_93 : ∀ x y r, mx_val (mx_ty 12 93) x y r = va_rf r := fun _ _ _ => rfl
theorem hv_12_94 : ∀ x y r, mx_val (mx_ty 12 94) x y r = va_rf r := fun _ _ _ => rfl
theorem hv_12_95 : ∀ x y r, mx_val (mx_ty 12 95) x y r = .int x := fun _ _ _ => rfl
theorem hv_12_96 : ∀ x y r, mx_val (mx_ty 12 96) x y r = va_rf r := fun _ _ _ => rfl
theorem hv_12_97 : ∀ x y r, mx_val (mx_ty 12 97) x y r = va_rf r := fun _ _ _ => rfl
theorem hv_12_98 : ∀ x y r, mx_val (mx_ty 12 98) x y r = va_rf r := fun _ _ _ => rfl
theorem hv_12_99 : ∀ x y r, mx_val (mx_ty 12 99) x y r = va_rf r := fun _ _ _ => rfl
theorem hv_2_0 : ∀ x y r, mx_val (mx_ty 2 0) x y r = .int x := fun _ _ _ => rfl
theorem hv_2_1 : ∀ x y r, mx_val (mx_ty 2 1) x y r = .int x := fun _ _ _ => rfl
theorem hv_2_10 : ∀ x y r, mx_val (mx_ty 2 10) x y r = va_rf r := fun _ _ _ => rfl
theorem hv_2_2 : ∀ x y r, mx_val (mx_ty 2 2) x y r = va_rf r := fun _ _ _ => rfl
theorem hv_2_3 : ∀ x y r, mx_val (mx_ty 2 3) x y r = .int x := fun _ _ _ => rfl
theorem hv_2_4 : ∀ x y r, mx_val (mx_ty 2 4) x y r = .int x := fun _ _ _ => rfl
theorem hv_2_5 : ∀ x y r, mx_val (mx_ty 2 5) x y r = va_rf r := fun _ _ _ => rfl
theorem hv_2_6 : ∀ x y r, mx_val (mx_ty 2 6) x y r = va_rf r := fun _ _ _ => rfl
theorem hv_2_7 : ∀ x y r, mx_val (mx_ty 2 7) x y r = va_rf r := fun _ _ _ => rfl
theorem hv_2_8 : ∀ x y r, mx_val (mx_ty 2 8) x y r = va_rf r := fun _ _ _ => rfl
theorem hv_2_9 : ∀ x y r, mx_val (mx_ty 2 9) x y r = va_rf r := fun _ _ _ => rfl
theorem hv_3_0 : ∀ x y r, mx_val (mx_ty 3 0) x y r = .long y := fun _ _ _ => rfl
theorem hv_3_1 : ∀ x y r, mx_val (mx_ty 3 1) x y r = .long y := fun _ _ _ => rfl
theorem hv_3_2 : ∀ x y r, mx_val (mx_ty 3 2) x y r = .int x := fun _ _ _ => rfl
theorem hv_4_0 : ∀ x y r, mx_val (mx_ty 4 0) x y r = .int x := fun _ _ _ => rfl
theorem hv_4_1 : ∀ x y r, mx_val (mx_ty 4 1) x y r = .int x := fun _ _ _ => rfl
theorem hv_4_10 : ∀ x y r, mx_val (mx_ty 4 10) x y r = va_rf r := fun _ _ _ => rfl
theorem hv_4_11 : ∀ x y r, mx_val (mx_ty 4 11) x y r = va_rf r := fun _ _ _ => rfl
theorem hv_4_12 : ∀ x y r, mx_val (mx_ty 4 12) x y r = va_rf r := fun _ _ _ => rfl
theorem hv_4_13 : ∀ x y r, mx_val (mx_ty 4 13) x y r = .int x := fun _ _ _ => rfl
theorem hv_4_14 : ∀ x y r, mx_val (mx_ty 4 14) x y r = .int x := fun _ _ _ => rfl
theorem hv_4_15 : ∀ x y r, mx_val (mx_ty 4 15) x y r = va_rf r := fun _ _ _ => rfl
theorem hv_4_16 : ∀ x y r, mx_val (mx_ty 4 16) x y r = va_rf r := fun _ _ _ => rfl
theorem hv_4_17 : ∀ x y r, mx_val (mx_ty 4 17) x y r = va_rf r := fun _ _ _ => rfl
theorem hv_4_2 : ∀ x y r, mx_val (mx_ty 4 2) x y r = .int x := fun _ _ _ => rfl
theorem hv_4_3 : ∀ x y r, mx_val (mx_ty 4 3) x y r = va_rf r := fun _ _ _ => rfl
theorem hv_4_4 : ∀ x y r, mx_val (mx_ty 4 4) x y r = va_rf r := fun _ _ _ => rfl
theorem hv_4_5 : ∀ x y r, mx_val (mx_ty 4 5) x y r = va_rf r := fun _ _ _ => rfl
theorem hv_4_6 : ∀ x y r, mx_val (mx_ty 4 6) x y r = va_rf r := fun _ _ _ => rfl
theorem hv_4_7 : ∀ x y r, mx_val (mx_ty 4 7) x y r = va_rf r := fun _ _ _ => rfl
theorem hv_4_8 : ∀ x y r, mx_val (mx_ty 4 8) x y r = va_rf r := fun _ _ _ => rfl
theorem hv_4_9 : ∀ x y r, mx_val (mx_ty 4 9) x y r = va_rf r := fun _ _ _ => rfl
theorem hv_5_0 : ∀ x y r, mx_val (mx_ty 5 0) x y r = .long y := fun _ _ _ => rfl
theorem hv_5_1 : ∀ x y r, mx_val (mx_ty 5 1) x y r = .int x := fun _ _ _ => rfl
theorem hv_5_10 : ∀ x y r, mx_val (mx_ty 5 10) x y r = va_rf r := fun _ _ _ => rfl
theorem hv_5_11 : ∀ x y r, mx_val (mx_ty 5 11) x y r = va_rf r := fun _ _ _ => rfl
theorem hv_5_12 : ∀ x y r, mx_val (mx_ty 5 12) x y r = va_rf r := fun _ _ _ => rfl
theorem hv_5_13 : ∀ x y r, mx_val (mx_ty 5 13) x y r = va_rf r := fun _ _ _ => rfl
theorem hv_5_14 : ∀ x y r, mx_val (mx_ty 5 14) x y r = va_rf r := fun _ _ _ => rfl
theorem hv_5_15 : ∀ x y r, mx_val (mx_ty 5 15) x y r = .int x := fun _ _ _ => rfl
theorem hv_5_16 : ∀ x y r, mx_val (mx_ty 5 16) x y r = .int x := fun _ _ _ => rfl
theorem hv_5_17 : ∀ x y r, mx_val (mx_ty 5 17) x y r = .int x := fun _ _ _ => rfl
theorem hv_5_18 : ∀ x y r, mx_val (mx_ty 5 18) x y r = .int x := fun _ _ _ => rfl
theorem hv_5_19 : ∀ x y r, mx_val (mx_ty 5 19) x y r = .int x := fun _ _ _ => rfl
theorem hv_5_2 : ∀ x y r, mx_val (mx_ty 5 2) x y r = va_rf r := fun _ _ _ => rfl
theorem hv_5_3 : ∀ x y r, mx_val (mx_ty 5 3) x y r = .int x := fun _ _ _ => rfl
theorem hv_5_4 : ∀ x y r, mx_val (mx_ty 5 4) x y r = .int x := fun _ _ _ => rfl
theorem hv_5_5 : ∀ x y r, mx_val (mx_ty 5 5) x y r = .int x := fun _ _ _ => rfl
theorem hv_5_6 : ∀ x y r, mx_val (mx_ty 5 6) x y r = .int x := fun _ _ _ => rfl
theorem hv_5_7 : ∀ x y r, mx_val (mx_ty 5 7) x y r = .int x := fun _ _ _ => rfl
theorem hv_5_8 : ∀ x y r, mx_val (mx_ty 5 8) x y r = .int x := fun _ _ _ => rfl
theorem hv_5_9 : ∀ x y r, mx_val (mx_ty 5 9) x y r = va_rf r := fun _ _ _ => rfl
theorem hv_6_0 : ∀ x y r, mx_val (mx_ty 6 0) x y r = .int x := fun _ _ _ => rfl
theorem hv_6_1 : ∀ x y r, mx_val (mx_ty 6 1) x y r = va_rf r := fun _ _ _ => rfl
theorem hv_6_2 : ∀ x y r, mx_val (mx_ty 6 2) x y r = .int x := fun _ _ _ => rfl
theorem hv_6_3 : ∀ x y r, mx_val (mx_ty 6 3) x y r = .int x := fun _ _ _ => rfl
theorem hv_6_4 : ∀ x y r, mx_val (mx_ty 6 4) x y r = va_rf r := fun _ _ _ => rfl
theorem hv_6_5 : ∀ x y r, mx_val (mx_ty 6 5) x y r = va_rf r := fun _ _ _ => rfl
theorem hv_6_6 : ∀ x y r, mx_val (mx_ty 6 6) x y r = va_rf r := fun _ _ _ => rfl
theorem hv_6_7 : ∀ x y r, mx_val (mx_ty 6 7) x y r = va_rf r := fun _ _ _ => rfl
theorem hv_6_8 : ∀ x y r, mx_val (mx_ty 6 8) x y r = va_rf r := fun _ _ _ => rfl
theorem hv_6_9 : ∀ x y r, mx_val (mx_ty 6 9) x y r = va_rf r := fun _ _ _ => rfl
theorem hv_7_0 : ∀ x y r, mx_val (mx_ty 7 0) x y r = va_rf r := fun _ _ _ => rfl
theorem hv_7_1 : ∀ x y r, mx_val (mx_ty 7 1) x y r = va_rf r := fun _ _ _ => rfl
theorem hv_7_10 : ∀ x y r, mx_val (mx_ty 7 10) x y r = .int x := fun _ _ _ => rfl
theorem hv_7_11 : ∀ x y r, mx_val (mx_ty 7 11) x y r = va_rf r := fun _ _ _ => rfl
theorem hv_7_12 : ∀ x y r, mx_val (mx_ty 7 12) x y r = va_rf r := fun _ _ _ => rfl
theorem hv_7_13 : ∀ x y r, mx_val (mx_ty 7 13) x y r = va_rf r := fun _ _ _ => rfl
theorem hv_7_14 : ∀ x y r, mx_val (mx_ty 7 14) x y r = va_rf r := fun _ _ _ => rfl
theorem hv_7_15 : ∀ x y r, mx_val (mx_ty 7 15) x y r = va_rf r := fun _ _ _ => rfl
theorem hv_7_16 : ∀ x y r, mx_val (mx_ty 7 16) x y r = va_rf r := fun _ _ _ => rfl
theorem hv_7_17 : ∀ x y r, mx_val (mx_ty 7 17) x y r = va_rf r := fun _ _ _ => rfl
theorem hv_7_18 : ∀ x y r, mx_val (mx_ty 7 18) x y r = va_rf r := fun _ _ _ => rfl
theorem hv_7_19 : ∀ x y r, mx_val (mx_ty 7 19) x y r = va_rf r := fun _ _ _ => rfl
theorem hv_7_2 : ∀ x y r, mx_val (mx_ty 7 2) x y r = .int x := fun _ _ _ => rfl
theorem hv_7_3 : ∀ x y r, mx_val (mx_ty 7 3) x y r = .int x := fun _ _ _ => rfl
theorem hv_7_4 : ∀ x y r, mx_val (mx_ty 7 4) x y r = va_rf r := fun _ _ _ => rfl
theorem hv_7_5 : ∀ x y r, mx_val (mx_ty 7 5) x y r = va_rf r := fun _ _ _ => rfl
theorem hv_7_6 : ∀ x y r, mx_val (mx_ty 7 6) x y r = .int x := fun _ _ _ => rfl
theorem hv_7_7 : ∀ x y r, mx_val (mx_ty 7 7) x y r = va_rf r := fun _ _ _ => rfl
theorem hv_7_8 : ∀ x y r, mx_val (mx_ty 7 8) x y r = va_rf r := fun _ _ _ => rfl
theorem hv_7_9 : ∀ x y r, mx_val (mx_ty 7 9) x y r = .int x := fun _ _ _ => rfl
theorem hv_8_0 : ∀ x y r, mx_val (mx_ty 8 0) x y r = va_rf r := fun _ _ _ => rfl
theorem hv_8_1 : ∀ x y r, mx_val (mx_ty 8 1) x y r = va_rf r := fun _ _ _ => rfl
theorem hv_9_0 : ∀ x y r, mx_val (mx_ty 9 0) x y r = .int x := fun _ _ _ => rfl
theorem hv_9_1 : ∀ x y r, mx_val (mx_ty 9 1) x y r = va_rf r := fun _ _ _ => rfl
theorem hv_9_2 : ∀ x y r, mx_val (mx_ty 9 2) x y r = va_rf r := fun _ _ _ => rfl
theorem me_J0_charAt_5068e : mx_me yJ0_charAt_5068e cJ0_charAt_5068e 2 (some .char) 1 := ⟨kw_1103, kw_20, by decide +kernel, by decide +kernel⟩
theorem me_J0_checkIndex_df160 : mx_me yJ0_checkIndex_df160 cJ0_checkIndex_df160 2 none 2 := ⟨kw_1113, kw_20, by decide +kernel, by decide +kernel⟩
theorem me_J0_coder_7d493 : mx_me yJ0_coder_7d493 cJ0_coder_7d493 1 (some .byte) 0 := ⟨kw_1097, kw_20, by decide +kernel, by decide +kernel⟩
theorem me_J0_isLatin1_aae02 : mx_me yJ0_isLatin1_aae02 cJ0_isLatin1_aae02 1 (some .boolean) 0 := ⟨kw_1107, kw_20, by decide +kernel, by decide +kernel⟩
theorem me_J0_length_8abf5 : mx_me yJ0_length_8abf5 cJ0_length_8abf5 1 (some .int) 0 := ⟨kw_1093, kw_20, by decide +kernel, by decide +kernel⟩
theorem me_J1_charAt_3b067 : mx_me yJ1_charAt_3b067 cJ1_charAt_3b067 2 (some .char) 2 := ⟨kw_1110, kw_21, by decide +kernel, by decide +kernel⟩
theorem me_J3_checkIndex_8e157 : mx_me yJ3_checkIndex_8e157 cJ3_checkIndex_8e157 3 (some .int) 3 := ⟨kw_1118, kw_22, by decide +kernel, by decide +kernel⟩
theorem me_J6_bitCount_0f7a4 : mx_me yJ6_bitCount_0f7a4 cJ6_bitCount_0f7a4 1 (some .int) 1 := ⟨kw_1759, kw_28, by decide +kernel, by decide +kernel⟩
theorem me_J7_fill_53178 : mx_me yJ7_fill_53178 cJ7_fill_53178 4 none 2 := ⟨kw_818, kw_27, by decide +kernel, by decide +kernel⟩
theorem me_J7_fill_d0a16 : mx_me yJ7_fill_d0a16 cJ7_fill_d0a16 5 none 2 := ⟨kw_837, kw_27, by decide +kernel, by decide +kernel⟩
theorem me_J9_abs_067f4 : mx_me yJ9_abs_067f4 cJ9_abs_067f4 2 (some .long) 1 := ⟨kw_855, kw_19, by decide +kernel, by decide +kernel⟩
theorem me_J9_abs_0f7a4 : mx_me yJ9_abs_0f7a4 cJ9_abs_0f7a4 1 (some .int) 1 := ⟨kw_699, kw_19, by decide +kernel, by decide +kernel⟩
theorem me_J9_floorDiv_f86c9 : mx_me yJ9_floorDiv_f86c9 cJ9_floorDiv_f86c9 6 (some .long) 2 := ⟨kw_757, kw_19, by decide +kernel, by decide +kernel⟩
theorem me_J9_max_7cf53 : mx_me yJ9_max_7cf53 cJ9_max_7cf53 2 (some .int) 2 := ⟨kw_1508, kw_19, by decide +kernel, by decide +kernel⟩
theorem me_J9_max_f86c9 : mx_me yJ9_max_f86c9 cJ9_max_f86c9 4 (some .long) 2 := ⟨kw_713, kw_19, by decide +kernel, by decide +kernel⟩
theorem me_J9_min_7cf53 : mx_me yJ9_min_7cf53 cJ9_min_7cf53 2 (some .int) 2 := ⟨kw_1505, kw_19, by decide +kernel, by decide +kernel⟩
theorem me_J9_min_f86c9 : mx_me yJ9_min_f86c9 cJ9_min_f86c9 4 (some .long) 2 := ⟨kw_710, kw_19, by decide +kernel, by decide +kernel⟩
theorem me_X0_addProduct : mx_me yX0_addProduct cX0_addProduct 16 none 3 := ⟨kw_707, kw_10, by decide +kernel, by decide +kernel⟩
theorem me_X0_addSquare : mx_me yX0_addSquare cX0_addSquare 10 none 1 := ⟨kw_744, kw_10, by decide +kernel, by decide +kernel⟩
theorem me_X0_addWhole : mx_me yX0_addWhole cX0_addWhole 8 none 2 := ⟨kw_1424, kw_10, by decide +kernel, by decide +kernel⟩
theorem me_X0_copy : mx_me yX0_copy cX0_copy 2 none 1 := ⟨kw_685, kw_10, by decide +kernel, by decide +kernel⟩
theorem me_X0_cross : mx_me yX0_cross cX0_cross 3 none 2 := ⟨kw_804, kw_10, by decide +kernel, by decide +kernel⟩
theorem me_X0_dot : mx_me yX0_dot cX0_dot 3 none 2 := ⟨kw_791, kw_10, by decide +kernel, by decide +kernel⟩
theorem me_X0_fraction : mx_me yX0_fraction cX0_fraction 5 none 2 := ⟨kw_1046, kw_10, by decide +kernel, by decide +kernel⟩
theorem me_X0_init : mx_me yX0_init cX0_init 1 none 0 := ⟨kw_350, kw_10, by decide +kernel, by decide +kernel⟩
theorem me_X0_keep : mx_me yX0_keep cX0_keep 5 none 2 := ⟨kw_482, kw_10, by decide +kernel, by decide +kernel⟩
theorem me_X0_minus : mx_me yX0_minus cX0_minus 3 none 2 := ⟨kw_736, kw_10, by decide +kernel, by decide +kernel⟩
theorem me_X0_negative : mx_me yX0_negative cX0_negative 2 none 1 := ⟨kw_689, kw_10, by decide +kernel, by decide +kernel⟩
theorem me_X0_norm : mx_me yX0_norm cX0_norm 2 none 1 := ⟨kw_740, kw_10, by decide +kernel, by decide +kernel⟩
theorem me_X0_number : mx_me yX0_number cX0_number 2 (some .long) 1 := ⟨kw_1275, kw_10, by decide +kernel, by decide +kernel⟩
theorem me_X0_plus : mx_me yX0_plus cX0_plus 3 none 2 := ⟨kw_748, kw_10, by decide +kernel, by decide +kernel⟩
theorem me_X0_quotient : mx_me yX0_quotient cX0_quotient 12 none 2 := ⟨kw_761, kw_10, by decide +kernel, by decide +kernel⟩
theorem me_X0_rootBelow : mx_me yX0_rootBelow cX0_rootBelow 7 (some .long) 1 := ⟨kw_775, kw_10, by decide +kernel, by decide +kernel⟩
theorem me_X0_shareAmong : mx_me yX0_shareAmong cX0_shareAmong 3 none 1 := ⟨kw_754, kw_10, by decide +kernel, by decide +kernel⟩
theorem me_X0_shut : mx_me yX0_shut cX0_shut 1 none 0 := ⟨kw_673, kw_10, by decide +kernel, by decide +kernel⟩
theorem me_X0_takeRoot : mx_me yX0_takeRoot cX0_takeRoot 5 none 0 := ⟨kw_772, kw_10, by decide +kernel, by decide +kernel⟩
theorem me_X10_byteAt : mx_me yX10_byteAt cX10_byteAt 2 (some .int) 1 := ⟨kw_638, kw_2, by decide +kernel, by decide +kernel⟩
theorem me_X10_findForm : mx_me yX10_findForm cX10_findForm 6 (some .int) 1 := ⟨kw_1089, kw_2, by decide +kernel, by decide +kernel⟩
theorem me_X10_fits : mx_me yX10_fits cX10_fits 2 (some .boolean) 1 := ⟨kw_1145, kw_2, by decide +kernel, by decide +kernel⟩
theorem me_X10_gather : mx_me yX10_gather cX10_gather 2 none 1 := ⟨kw_994, kw_2, by decide +kernel, by decide +kernel⟩
theorem me_X10_hasRoom : mx_me yX10_hasRoom cX10_hasRoom 2 (some .boolean) 1 := ⟨kw_925, kw_2, by decide +kernel, by decide +kernel⟩
theorem me_X10_hasStatement : mx_me yX10_hasStatement cX10_hasStatement 3 (some .boolean) 1 := ⟨kw_1062, kw_2, by decide +kernel, by decide +kernel⟩
theorem me_X10_init : mx_me yX10_init cX10_init 1 none 0 := ⟨kw_41, kw_2, by decide +kernel, by decide +kernel⟩
theorem me_X10_isDigit : mx_me yX10_isDigit cX10_isDigit 1 (some .boolean) 1 := ⟨kw_1077, kw_2, by decide +kernel, by decide +kernel⟩
theorem me_X10_isGrammatical : mx_me yX10_isGrammatical cX10_isGrammatical 3 (some .boolean) 1 := ⟨kw_1054, kw_2, by decide +kernel, by decide +kernel⟩
theorem me_X10_isInRange : mx_me yX10_isInRange cX10_isInRange 2 (some .boolean) 1 := ⟨kw_1167, kw_2, by decide +kernel, by decide +kernel⟩
theorem me_X10_isLetter : mx_me yX10_isLetter cX10_isLetter 1 (some .boolean) 1 := ⟨kw_641, kw_2, by decide +kernel, by decide +kernel⟩
theorem me_X10_isWhole : mx_me yX10_isWhole cX10_isWhole 5 (some .boolean) 3 := ⟨kw_1172, kw_2, by decide +kernel, by decide +kernel⟩
theorem me_X10_keepPart : mx_me yX10_keepPart cX10_keepPart 2 none 1 := ⟨kw_1149, kw_2, by decide +kernel, by decide +kernel⟩
theorem me_X10_note : mx_me yX10_note cX10_note 3 none 2 := ⟨kw_1141, kw_2, by decide +kernel, by decide +kernel⟩
theorem me_X10_readDigits : mx_me yX10_readDigits cX10_readDigits 3 (some .int) 0 := ⟨kw_1085, kw_2, by decide +kernel, by decide +kernel⟩
theorem me_X10_readNumber : mx_me yX10_readNumber cX10_readNumber 3 none 1 := ⟨kw_1081, kw_2, by decide +kernel, by decide +kernel⟩
theorem me_X10_readToken : mx_me yX10_readToken cX10_readToken 2 none 0 := ⟨kw_1066, kw_2, by decide +kernel, by decide +kernel⟩
theorem me_X10_readWord : mx_me yX10_readWord cX10_readWord 2 none 0 := ⟨kw_1074, kw_2, by decide +kernel, by decide +kernel⟩
theorem me_X10_rewind : mx_me yX10_rewind cX10_rewind 1 none 0 := ⟨kw_1058, kw_2, by decide +kernel, by decide +kernel⟩
theorem me_X10_skipSpaces : mx_me yX10_skipSpaces cX10_skipSpaces 3 none 0 := ⟨kw_1070, kw_2, by decide +kernel, by decide +kernel⟩
theorem me_X10_tellerOf : mx_me yX10_tellerOf cX10_tellerOf 4 (some .int) 1 := ⟨kw_1162, kw_2, by decide +kernel, by decide +kernel⟩
theorem me_X10_whole : mx_me yX10_whole cX10_whole 2 (some .int) 1 := ⟨kw_1176, kw_2, by decide +kernel, by decide +kernel⟩
theorem me_X10_wholeName : mx_me yX10_wholeName cX10_wholeName 4 (some .long) 0 := ⟨kw_634, kw_2, by decide +kernel, by decide +kernel⟩
theorem me_X11_at : mx_me yX11_at cX11_at 5 (some .long) 4 := ⟨kw_1266, kw_1, by decide +kernel, by decide +kernel⟩
theorem me_X11_cam : mx_me yX11_cam cX11_cam 3 (some .int) 0 := ⟨kw_1546, kw_1, by decide +kernel, by decide +kernel⟩
theorem me_X11_camAbout : mx_me yX11_camAbout cX11_camAbout 2 (some .long) 1 := ⟨kw_1618, kw_1, by decide +kernel, by decide +kernel⟩
theorem me_X11_clear : mx_me yX11_clear cX11_clear 1 none 0 := ⟨kw_811, kw_1, by decide +kernel, by decide +kernel⟩
theorem me_X11_closedNumber : mx_me yX11_closedNumber cX11_closedNumber 3 (some .long) 3 := ⟨kw_1270, kw_1, by decide +kernel, by decide +kernel⟩
theorem me_X11_corner : mx_me yX11_corner cX11_corner 4 (some .int) 3 := ⟨kw_1641, kw_1, by decide +kernel, by decide +kernel⟩
theorem me_X11_count : mx_me yX11_count cX11_count 2 (some .int) 1 := ⟨kw_913, kw_1, by decide +kernel, by decide +kernel⟩
theorem me_X11_distance : mx_me yX11_distance cX11_distance 4 (some .long) 3 := ⟨kw_1723, kw_1, by decide +kernel, by decide +kernel⟩
theorem me_X11_drive : mx_me yX11_drive cX11_drive 2 (some .int) 0 := ⟨kw_1804, kw_1, by decide +kernel, by decide +kernel⟩
theorem me_X11_empty : mx_me yX11_empty cX11_empty 2 none 1 := ⟨kw_1652, kw_1, by decide +kernel, by decide +kernel⟩
theorem me_X11_end : mx_me yX11_end cX11_end 2 (some .int) 1 := ⟨kw_1003, kw_1, by decide +kernel, by decide +kernel⟩
theorem me_X11_event : mx_me yX11_event cX11_event 3 (some .int) 2 := ⟨kw_1851, kw_1, by decide +kernel, by decide +kernel⟩
theorem me_X11_fault : mx_me yX11_fault cX11_fault 2 (some .int) 1 := ⟨kw_626, kw_1, by decide +kernel, by decide +kernel⟩
theorem me_X11_feed : mx_me yX11_feed cX11_feed 6 (some .int) 5 := ⟨kw_921, kw_1, by decide +kernel, by decide +kernel⟩
theorem me_X11_gear : mx_me yX11_gear cX11_gear 3 (some .int) 2 := ⟨kw_1447, kw_1, by decide +kernel, by decide +kernel⟩
theorem me_X11_init : mx_me yX11_init cX11_init 2 none 0 := ⟨kw_33, kw_1, by decide +kernel, by decide +kernel⟩
theorem me_X11_input : mx_me yX11_input cX11_input 3 none 2 := ⟨kw_1229, kw_1, by decide +kernel, by decide +kernel⟩
theorem me_X11_inside : mx_me yX11_inside cX11_inside 4 (some .int) 3 := ⟨kw_1712, kw_1, by decide +kernel, by decide +kernel⟩
theorem me_X11_interference : mx_me yX11_interference cX11_interference 4 (some .int) 3 := ⟨kw_1498, kw_1, by decide +kernel, by decide +kernel⟩
theorem me_X11_isWithin : mx_me yX11_isWithin cX11_isWithin 2 (some .boolean) 2 := ⟨kw_1241, kw_1, by decide +kernel, by decide +kernel⟩
theorem me_X11_kind : mx_me yX11_kind cX11_kind 2 (some .int) 1 := ⟨kw_1797, kw_1, by decide +kernel, by decide +kernel⟩
theorem me_X11_kinds : mx_me yX11_kinds cX11_kinds 3 (some .int) 2 := ⟨kw_1747, kw_1, by decide +kernel, by decide +kernel⟩
theorem me_X11_least : mx_me yX11_least cX11_least 6 (some .long) 5 := ⟨kw_1341, kw_1, by decide +kernel, by decide +kernel⟩
theorem me_X11_lift : mx_me yX11_lift cX11_lift 4 (some .long) 3 := ⟨kw_1577, kw_1, by decide +kernel, by decide +kernel⟩
theorem me_X11_linkage : mx_me yX11_linkage cX11_linkage 3 (some .int) 0 := ⟨kw_1029, kw_1, by decide +kernel, by decide +kernel⟩
theorem me_X11_load : mx_me yX11_load cX11_load 4 none 3 := ⟨kw_1402, kw_1, by decide +kernel, by decide +kernel⟩
theorem me_X11_mass : mx_me yX11_mass cX11_mass 3 none 2 := ⟨kw_1409, kw_1, by decide +kernel, by decide +kernel⟩
theorem me_X11_mesh : mx_me yX11_mesh cX11_mesh 5 (some .int) 4 := ⟨kw_1461, kw_1, by decide +kernel, by decide +kernel⟩
theorem me_X11_middle : mx_me yX11_middle cX11_middle 4 (some .long) 3 := ⟨kw_1431, kw_1, by decide +kernel, by decide +kernel⟩
theorem me_X11_moment : mx_me yX11_moment cX11_moment 4 (some .long) 3 := ⟨kw_1416, kw_1, by decide +kernel, by decide +kernel⟩
theorem me_X11_needLeave : mx_me yX11_needLeave cX11_needLeave 1 none 1 := ⟨kw_1290, kw_1, by decide +kernel, by decide +kernel⟩
theorem me_X11_needPresence : mx_me yX11_needPresence cX11_needPresence 1 none 1 := ⟨kw_1244, kw_1, by decide +kernel, by decide +kernel⟩
theorem me_X11_needRange : mx_me yX11_needRange cX11_needRange 3 none 3 := ⟨kw_1006, kw_1, by decide +kernel, by decide +kernel⟩
theorem me_X11_needRoom : mx_me yX11_needRoom cX11_needRoom 1 none 1 := ⟨kw_1450, kw_1, by decide +kernel, by decide +kernel⟩
theorem me_X11_needSure : mx_me yX11_needSure cX11_needSure 2 none 1 := ⟨kw_1287, kw_1, by decide +kernel, by decide +kernel⟩
theorem me_X11_plate : mx_me yX11_plate cX11_plate 4 (some .long) 2 := ⟨kw_1659, kw_1, by decide +kernel, by decide +kernel⟩
theorem me_X11_point : mx_me yX11_point cX11_point 1 (some .int) 0 := ⟨kw_630, kw_1, by decide +kernel, by decide +kernel⟩
theorem me_X11_pole : mx_me yX11_pole cX11_pole 7 (some .long) 6 := ⟨kw_1391, kw_1, by decide +kernel, by decide +kernel⟩
theorem me_X11_range : mx_me yX11_range cX11_range 4 (some .int) 3 := ⟨kw_1316, kw_1, by decide +kernel, by decide +kernel⟩
theorem me_X11_shaft : mx_me yX11_shaft cX11_shaft 5 none 4 := ⟨kw_1472, kw_1, by decide +kernel, by decide +kernel⟩
theorem me_X11_solved : mx_me yX11_solved cX11_solved 1 (some .int) 0 := ⟨kw_822, kw_1, by decide +kernel, by decide +kernel⟩
theorem me_X11_speed : mx_me yX11_speed cX11_speed 6 (some .long) 5 := ⟨kw_1356, kw_1, by decide +kernel, by decide +kernel⟩
theorem me_X11_spread : mx_me yX11_spread cX11_spread 6 (some .long) 5 := ⟨kw_1327, kw_1, by decide +kernel, by decide +kernel⟩
theorem me_X11_step : mx_me yX11_step cX11_step 4 (some .int) 3 := ⟨kw_1283, kw_1, by decide +kernel, by decide +kernel⟩
theorem me_X11_train : mx_me yX11_train cX11_train 3 (some .int) 2 := ⟨kw_1539, kw_1, by decide +kernel, by decide +kernel⟩
theorem me_X11_trains : mx_me yX11_trains cX11_trains 5 (some .int) 4 := ⟨kw_1520, kw_1, by decide +kernel, by decide +kernel⟩
theorem me_X11_turns : mx_me yX11_turns cX11_turns 3 (some .long) 2 := ⟨kw_1483, kw_1, by decide +kernel, by decide +kernel⟩
theorem me_X11_way : mx_me yX11_way cX11_way 3 (some .int) 2 := ⟨kw_1238, kw_1, by decide +kernel, by decide +kernel⟩
theorem me_X11_ways : mx_me yX11_ways cX11_ways 1 (some .int) 0 := ⟨kw_649, kw_1, by decide +kernel, by decide +kernel⟩
theorem me_X12_add : mx_me yX12_add cX12_add 4 none 3 := ⟨kw_2422, kw_13, by decide +kernel, by decide +kernel⟩
theorem me_X12_after : mx_me yX12_after cX12_after 3 (some .int) 2 := ⟨kw_2766, kw_13, by decide +kernel, by decide +kernel⟩
theorem me_X12_askRoot : mx_me yX12_askRoot cX12_askRoot 2 none 1 := ⟨kw_2455, kw_13, by decide +kernel, by decide +kernel⟩
theorem me_X12_at : mx_me yX12_at cX12_at 6 (some .long) 4 := ⟨kw_2494, kw_13, by decide +kernel, by decide +kernel⟩
theorem me_X12_between : mx_me yX12_between cX12_between 4 none 3 := ⟨kw_2430, kw_13, by decide +kernel, by decide +kernel⟩
theorem me_X12_bodyOf : mx_me yX12_bodyOf cX12_bodyOf 4 none 3 := ⟨kw_2478, kw_13, by decide +kernel, by decide +kernel⟩
theorem me_X12_box : mx_me yX12_box cX12_box 7 none 4 := ⟨kw_2382, kw_13, by decide +kernel, by decide +kernel⟩
theorem me_X12_by : mx_me yX12_by cX12_by 9 none 4 := ⟨kw_2647, kw_13, by decide +kernel, by decide +kernel⟩
theorem me_X12_byT : mx_me yX12_byT cX12_byT 5 none 2 := ⟨kw_2713, kw_13, by decide +kernel, by decide +kernel⟩
theorem me_X12_cam : mx_me yX12_cam cX12_cam 2 (some .int) 0 := ⟨kw_2689, kw_13, by decide +kernel, by decide +kernel⟩
theorem me_X12_camAbout : mx_me yX12_camAbout cX12_camAbout 2 (some .long) 1 := ⟨kw_2728, kw_13, by decide +kernel, by decide +kernel⟩
theorem me_X12_camStatement : mx_me yX12_camStatement cX12_camStatement 3 none 0 := ⟨kw_2693, kw_13, by decide +kernel, by decide +kernel⟩
theorem me_X12_camSums : mx_me yX12_camSums cX12_camSums 7 none 0 := ⟨kw_2701, kw_13, by decide +kernel, by decide +kernel⟩
theorem me_X12_changeRows : mx_me yX12_changeRows cX12_changeRows 8 none 2 := ⟨kw_2639, kw_13, by decide +kernel, by decide +kernel⟩
theorem me_X12_clear : mx_me yX12_clear cX12_clear 2 none 0 := ⟨kw_2614, kw_13, by decide +kernel, by decide +kernel⟩
theorem me_X12_copy : mx_me yX12_copy cX12_copy 3 none 2 := ⟨kw_2400, kw_13, by decide +kernel, by decide +kernel⟩
theorem me_X12_corner : mx_me yX12_corner cX12_corner 5 (some .int) 3 := ⟨kw_2749, kw_13, by decide +kernel, by decide +kernel⟩
theorem me_X12_count : mx_me yX12_count cX12_count 2 (some .int) 1 := ⟨kw_2874, kw_13, by decide +kernel, by decide +kernel⟩
theorem me_X12_cross : mx_me yX12_cross cX12_cross 4 none 3 := ⟨kw_2482, kw_13, by decide +kernel, by decide +kernel⟩
theorem me_X12_crossSpeed : mx_me yX12_crossSpeed cX12_crossSpeed 7 none 6 := ⟨kw_2560, kw_13, by decide +kernel, by decide +kernel⟩
theorem me_X12_crossed : mx_me yX12_crossed cX12_crossed 6 (some .long) 2 := ⟨kw_2770, kw_13, by decide +kernel, by decide +kernel⟩
theorem me_X12_direction : mx_me yX12_direction cX12_direction 8 none 2 := ⟨kw_2391, kw_13, by decide +kernel, by decide +kernel⟩
theorem me_X12_distance : mx_me yX12_distance cX12_distance 5 (some .long) 3 := ⟨kw_2798, kw_13, by decide +kernel, by decide +kernel⟩
theorem me_X12_distances : mx_me yX12_distances cX12_distances 27 none 2 := ⟨kw_2806, kw_13, by decide +kernel, by decide +kernel⟩
theorem me_X12_divide : mx_me yX12_divide cX12_divide 13 none 3 := ⟨kw_2451, kw_13, by decide +kernel, by decide +kernel⟩
theorem me_X12_doOrder : mx_me yX12_doOrder cX12_doOrder 2 none 1 := ⟨kw_2858, kw_13, by decide +kernel, by decide +kernel⟩
theorem me_X12_dot : mx_me yX12_dot cX12_dot 4 none 3 := ⟨kw_2474, kw_13, by decide +kernel, by decide +kernel⟩
theorem me_X12_down : mx_me yX12_down cX12_down 6 (some .long) 2 := ⟨kw_2375, kw_13, by decide +kernel, by decide +kernel⟩
theorem me_X12_drive : mx_me yX12_drive cX12_drive 5 (some .int) 0 := ⟨kw_2838, kw_13, by decide +kernel, by decide +kernel⟩
theorem me_X12_driveStatement : mx_me yX12_driveStatement cX12_driveStatement 10 none 0 := ⟨kw_2842, kw_13, by decide +kernel, by decide +kernel⟩
theorem me_X12_dyadPlace : mx_me yX12_dyadPlace cX12_dyadPlace 6 none 4 := ⟨kw_2426, kw_13, by decide +kernel, by decide +kernel⟩
theorem me_X12_empty : mx_me yX12_empty cX12_empty 2 none 1 := ⟨kw_2754, kw_13, by decide +kernel, by decide +kernel⟩
theorem me_X12_emptyRow : mx_me yX12_emptyRow cX12_emptyRow 2 none 0 := ⟨kw_2630, kw_13, by decide +kernel, by decide +kernel⟩
theorem me_X12_end : mx_me yX12_end cX12_end 2 (some .int) 1 := ⟨kw_2221, kw_13, by decide +kernel, by decide +kernel⟩
theorem me_X12_ends : mx_me yX12_ends cX12_ends 1 none 0 := ⟨kw_2329, kw_13, by decide +kernel, by decide +kernel⟩
theorem me_X12_event : mx_me yX12_event cX12_event 3 (some .int) 2 := ⟨kw_2870, kw_13, by decide +kernel, by decide +kernel⟩
theorem me_X12_fault : mx_me yX12_fault cX12_fault 2 (some .int) 1 := ⟨kw_2228, kw_13, by decide +kernel, by decide +kernel⟩
theorem me_X12_feed : mx_me yX12_feed cX12_feed 6 (some .int) 5 := ⟨kw_2213, kw_13, by decide +kernel, by decide +kernel⟩
theorem me_X12_findNames : mx_me yX12_findNames cX12_findNames 2 none 0 := ⟨kw_2333, kw_13, by decide +kernel, by decide +kernel⟩
theorem me_X12_findOrder : mx_me yX12_findOrder cX12_findOrder 6 none 0 := ⟨kw_2341, kw_13, by decide +kernel, by decide +kernel⟩
theorem me_X12_found : mx_me yX12_found cX12_found 3 none 2 := ⟨kw_2300, kw_13, by decide +kernel, by decide +kernel⟩
theorem me_X12_fraction : mx_me yX12_fraction cX12_fraction 6 none 3 := ⟨kw_2371, kw_13, by decide +kernel, by decide +kernel⟩
theorem me_X12_gcd : mx_me yX12_gcd cX12_gcd 10 (some .long) 2 := ⟨kw_2261, kw_13, by decide +kernel, by decide +kernel⟩
theorem me_X12_gear : mx_me yX12_gear cX12_gear 3 (some .int) 2 := ⟨kw_2594, kw_13, by decide +kernel, by decide +kernel⟩
theorem me_X12_goOn : mx_me yX12_goOn cX12_goOn 6 none 1 := ⟨kw_2862, kw_13, by decide +kernel, by decide +kernel⟩
theorem me_X12_half : mx_me yX12_half cX12_half 3 none 2 := ⟨kw_2446, kw_13, by decide +kernel, by decide +kernel⟩
theorem me_X12_in : mx_me yX12_in cX12_in 6 (some .boolean) 3 := ⟨kw_2224, kw_13, by decide +kernel, by decide +kernel⟩
theorem me_X12_init : mx_me yX12_init cX12_init 1 none 0 := ⟨kw_1861, kw_13, by decide +kernel, by decide +kernel⟩
theorem me_X12_input : mx_me yX12_input cX12_input 3 none 2 := ⟨kw_2353, kw_13, by decide +kernel, by decide +kernel⟩
theorem me_X12_inside : mx_me yX12_inside cX12_inside 5 (some .int) 3 := ⟨kw_2790, kw_13, by decide +kernel, by decide +kernel⟩
theorem me_X12_insideOf : mx_me yX12_insideOf cX12_insideOf 19 (some .int) 3 := ⟨kw_2794, kw_13, by decide +kernel, by decide +kernel⟩
theorem me_X12_interference : mx_me yX12_interference cX12_interference 9 (some .int) 3 := ⟨kw_2671, kw_13, by decide +kernel, by decide +kernel⟩
theorem me_X12_isChain : mx_me yX12_isChain cX12_isChain 8 (some .boolean) 1 := ⟨kw_2822, kw_13, by decide +kernel, by decide +kernel⟩
theorem me_X12_isDigit : mx_me yX12_isDigit cX12_isDigit 1 (some .boolean) 1 := ⟨kw_2254, kw_13, by decide +kernel, by decide +kernel⟩
theorem me_X12_isGear : mx_me yX12_isGear cX12_isGear 2 (some .boolean) 1 := ⟨kw_2605, kw_13, by decide +kernel, by decide +kernel⟩
theorem me_X12_isGreatest : mx_me yX12_isGreatest cX12_isGreatest 7 (some .boolean) 2 := ⟨kw_2826, kw_13, by decide +kernel, by decide +kernel⟩
theorem me_X12_isLess : mx_me yX12_isLess cX12_isLess 23 (some .boolean) 4 := ⟨kw_2745, kw_13, by decide +kernel, by decide +kernel⟩
theorem me_X12_isLetter : mx_me yX12_isLetter cX12_isLetter 1 (some .boolean) 1 := ⟨kw_2251, kw_13, by decide +kernel, by decide +kernel⟩
theorem me_X12_isMinus : mx_me yX12_isMinus cX12_isMinus 3 (some .boolean) 2 := ⟨kw_2466, kw_13, by decide +kernel, by decide +kernel⟩
theorem me_X12_isOpen : mx_me yX12_isOpen cX12_isOpen 2 (some .boolean) 1 := ⟨kw_2486, kw_13, by decide +kernel, by decide +kernel⟩
theorem me_X12_isPoint : mx_me yX12_isPoint cX12_isPoint 2 (some .boolean) 1 := ⟨kw_2499, kw_13, by decide +kernel, by decide +kernel⟩
theorem me_X12_isReached : mx_me yX12_isReached cX12_isReached 2 (some .boolean) 1 := ⟨kw_2866, kw_13, by decide +kernel, by decide +kernel⟩
theorem me_X12_isSpeedOpen : mx_me yX12_isSpeedOpen cX12_isSpeedOpen 2 (some .boolean) 1 := ⟨kw_2564, kw_13, by decide +kernel, by decide +kernel⟩
theorem me_X12_isWay : mx_me yX12_isWay cX12_isWay 3 (some .boolean) 2 := ⟨kw_2511, kw_13, by decide +kernel, by decide +kernel⟩
theorem me_X12_isWord : mx_me yX12_isWord cX12_isWord 4 (some .boolean) 1 := ⟨kw_2277, kw_13, by decide +kernel, by decide +kernel⟩
theorem me_X12_keepFraction : mx_me yX12_keepFraction cX12_keepFraction 2 none 1 := ⟨kw_2659, kw_13, by decide +kernel, by decide +kernel⟩
theorem me_X12_kind : mx_me yX12_kind cX12_kind 2 (some .int) 1 := ⟨kw_2834, kw_13, by decide +kernel, by decide +kernel⟩
theorem me_X12_kindOf : mx_me yX12_kindOf cX12_kindOf 1 (some .int) 0 := ⟨kw_2272, kw_13, by decide +kernel, by decide +kernel⟩
theorem me_X12_kinds : mx_me yX12_kinds cX12_kinds 6 (some .int) 2 := ⟨kw_2814, kw_13, by decide +kernel, by decide +kernel⟩
theorem me_X12_lawAt : mx_me yX12_lawAt cX12_lawAt 10 none 3 := ⟨kw_2709, kw_13, by decide +kernel, by decide +kernel⟩
theorem me_X12_least : mx_me yX12_least cX12_least 13 (some .long) 5 := ⟨kw_2528, kw_13, by decide +kernel, by decide +kernel⟩
theorem me_X12_less : mx_me yX12_less cX12_less 4 none 3 := ⟨kw_2418, kw_13, by decide +kernel, by decide +kernel⟩
theorem me_X12_lift : mx_me yX12_lift cX12_lift 11 (some .long) 3 := ⟨kw_2705, kw_13, by decide +kernel, by decide +kernel⟩
theorem me_X12_lineSpeed : mx_me yX12_lineSpeed cX12_lineSpeed 6 none 5 := ⟨kw_2556, kw_13, by decide +kernel, by decide +kernel⟩
theorem me_X12_linkage : mx_me yX12_linkage cX12_linkage 3 (some .int) 0 := ⟨kw_2232, kw_13, by decide +kernel, by decide +kernel⟩
theorem me_X12_load : mx_me yX12_load cX12_load 4 none 3 := ⟨kw_2572, kw_13, by decide +kernel, by decide +kernel⟩
theorem me_X12_look : mx_me yX12_look cX12_look 2 (some .int) 1 := ⟨kw_2248, kw_13, by decide +kernel, by decide +kernel⟩
theorem me_X12_lowest : mx_me yX12_lowest cX12_lowest 7 none 2 := ⟨kw_2634, kw_13, by decide +kernel, by decide +kernel⟩
theorem me_X12_makeRows : mx_me yX12_makeRows cX12_makeRows 7 none 0 := ⟨kw_2626, kw_13, by decide +kernel, by decide +kernel⟩
theorem me_X12_mass : mx_me yX12_mass cX12_mass 3 none 2 := ⟨kw_2578, kw_13, by decide +kernel, by decide +kernel⟩
theorem me_X12_meet : mx_me yX12_meet cX12_meet 9 (some .boolean) 4 := ⟨kw_2774, kw_13, by decide +kernel, by decide +kernel⟩
theorem me_X12_mesh : mx_me yX12_mesh cX12_mesh 6 (some .int) 4 := ⟨kw_2601, kw_13, by decide +kernel, by decide +kernel⟩
theorem me_X12_middle : mx_me yX12_middle cX12_middle 8 (some .long) 3 := ⟨kw_2590, kw_13, by decide +kernel, by decide +kernel⟩
theorem me_X12_moment : mx_me yX12_moment cX12_moment 5 (some .long) 3 := ⟨kw_2582, kw_13, by decide +kernel, by decide +kernel⟩
theorem me_X12_most : mx_me yX12_most cX12_most 4 (some .long) 2 := ⟨kw_2414, kw_13, by decide +kernel, by decide +kernel⟩
theorem me_X12_multiply : mx_me yX12_multiply cX12_multiply 16 none 3 := ⟨kw_2408, kw_13, by decide +kernel, by decide +kernel⟩
theorem me_X12_nameUsed : mx_me yX12_nameUsed cX12_nameUsed 2 none 1 := ⟨kw_2308, kw_13, by decide +kernel, by decide +kernel⟩
theorem me_X12_nearer : mx_me yX12_nearer cX12_nearer 7 none 2 := ⟨kw_2810, kw_13, by decide +kernel, by decide +kernel⟩
theorem me_X12_nextRow : mx_me yX12_nextRow cX12_nextRow 7 (some .boolean) 1 := ⟨kw_2830, kw_13, by decide +kernel, by decide +kernel⟩
theorem me_X12_number : mx_me yX12_number cX12_number 6 none 0 := ⟨kw_2258, kw_13, by decide +kernel, by decide +kernel⟩
theorem me_X12_numberUsed : mx_me yX12_numberUsed cX12_numberUsed 4 none 2 := ⟨kw_2312, kw_13, by decide +kernel, by decide +kernel⟩
theorem me_X12_parts : mx_me yX12_parts cX12_parts 2 none 1 := ⟨kw_2304, kw_13, by decide +kernel, by decide +kernel⟩
theorem me_X12_pivot : mx_me yX12_pivot cX12_pivot 13 none 2 := ⟨kw_2643, kw_13, by decide +kernel, by decide +kernel⟩
theorem me_X12_placeOf : mx_me yX12_placeOf cX12_placeOf 8 none 2 := ⟨kw_2367, kw_13, by decide +kernel, by decide +kernel⟩
theorem me_X12_plate : mx_me yX12_plate cX12_plate 10 (some .long) 2 := ⟨kw_2758, kw_13, by decide +kernel, by decide +kernel⟩
theorem me_X12_plateSum : mx_me yX12_plateSum cX12_plateSum 16 (some .long) 2 := ⟨kw_2762, kw_13, by decide +kernel, by decide +kernel⟩
theorem me_X12_plus : mx_me yX12_plus cX12_plus 3 none 1 := ⟨kw_2721, kw_13, by decide +kernel, by decide +kernel⟩
theorem me_X12_point : mx_me yX12_point cX12_point 4 (some .int) 0 := ⟨kw_2349, kw_13, by decide +kernel, by decide +kernel⟩
theorem me_X12_pointNamed : mx_me yX12_pointNamed cX12_pointNamed 6 (some .int) 2 := ⟨kw_2854, kw_13, by decide +kernel, by decide +kernel⟩
theorem me_X12_pole : mx_me yX12_pole cX12_pole 7 (some .long) 6 := ⟨kw_2568, kw_13, by decide +kernel, by decide +kernel⟩
theorem me_X12_product : mx_me yX12_product cX12_product 5 (some .long) 2 := ⟨kw_2655, kw_13, by decide +kernel, by decide +kernel⟩
theorem me_X12_range : mx_me yX12_range cX12_range 8 (some .int) 3 := ⟨kw_2516, kw_13, by decide +kernel, by decide +kernel⟩
theorem me_X12_readCode : mx_me yX12_readCode cX12_readCode 7 none 2 := ⟨kw_2818, kw_13, by decide +kernel, by decide +kernel⟩
theorem me_X12_root : mx_me yX12_root cX12_root 6 (some .long) 1 := ⟨kw_2462, kw_13, by decide +kernel, by decide +kernel⟩
theorem me_X12_rootOf : mx_me yX12_rootOf cX12_rootOf 7 none 2 := ⟨kw_2459, kw_13, by decide +kernel, by decide +kernel⟩
theorem me_X12_sameWord : mx_me yX12_sameWord cX12_sameWord 5 (some .boolean) 3 := ⟨kw_2296, kw_13, by decide +kernel, by decide +kernel⟩
theorem me_X12_scan : mx_me yX12_scan cX12_scan 2 none 0 := ⟨kw_2244, kw_13, by decide +kernel, by decide +kernel⟩
theorem me_X12_shaft : mx_me yX12_shaft cX12_shaft 6 none 4 := ⟨kw_2610, kw_13, by decide +kernel, by decide +kernel⟩
theorem me_X12_side : mx_me yX12_side cX12_side 4 (some .int) 3 := ⟨kw_2778, kw_13, by decide +kernel, by decide +kernel⟩
theorem me_X12_sideOf : mx_me yX12_sideOf cX12_sideOf 3 (some .long) 2 := ⟨kw_2503, kw_13, by decide +kernel, by decide +kernel⟩
theorem me_X12_sign : mx_me yX12_sign cX12_sign 2 (some .int) 1 := ⟨kw_2781, kw_13, by decide +kernel, by decide +kernel⟩
theorem me_X12_signUsed : mx_me yX12_signUsed cX12_signUsed 2 none 0 := ⟨kw_2325, kw_13, by decide +kernel, by decide +kernel⟩
theorem me_X12_size : mx_me yX12_size cX12_size 2 (some .long) 1 := ⟨kw_2264, kw_13, by decide +kernel, by decide +kernel⟩
theorem me_X12_slidePlace : mx_me yX12_slidePlace cX12_slidePlace 7 none 5 := ⟨kw_2470, kw_13, by decide +kernel, by decide +kernel⟩
theorem me_X12_slideSpeed : mx_me yX12_slideSpeed cX12_slideSpeed 6 none 5 := ⟨kw_2548, kw_13, by decide +kernel, by decide +kernel⟩
theorem me_X12_slope : mx_me yX12_slope cX12_slope 2 none 1 := ⟨kw_2736, kw_13, by decide +kernel, by decide +kernel⟩
theorem me_X12_smaller : mx_me yX12_smaller cX12_smaller 4 (some .long) 2 := ⟨kw_2411, kw_13, by decide +kernel, by decide +kernel⟩
theorem me_X12_smooth : mx_me yX12_smooth cX12_smooth 7 (some .int) 0 := ⟨kw_2732, kw_13, by decide +kernel, by decide +kernel⟩
theorem me_X12_solution : mx_me yX12_solution cX12_solution 5 (some .int) 0 := ⟨kw_2622, kw_13, by decide +kernel, by decide +kernel⟩
theorem me_X12_solve : mx_me yX12_solve cX12_solve 6 none 5 := ⟨kw_2544, kw_13, by decide +kernel, by decide +kernel⟩
theorem me_X12_solved : mx_me yX12_solved cX12_solved 1 (some .int) 0 := ⟨kw_2618, kw_13, by decide +kernel, by decide +kernel⟩
theorem me_X12_speed : mx_me yX12_speed cX12_speed 6 (some .long) 5 := ⟨kw_2532, kw_13, by decide +kernel, by decide +kernel⟩
theorem me_X12_speedBetween : mx_me yX12_speedBetween cX12_speedBetween 4 none 3 := ⟨kw_2552, kw_13, by decide +kernel, by decide +kernel⟩
theorem me_X12_speedOf : mx_me yX12_speedOf cX12_speedOf 8 none 2 := ⟨kw_2540, kw_13, by decide +kernel, by decide +kernel⟩
theorem me_X12_speeds : mx_me yX12_speeds cX12_speeds 3 none 1 := ⟨kw_2536, kw_13, by decide +kernel, by decide +kernel⟩
theorem me_X12_spread : mx_me yX12_spread cX12_spread 13 (some .long) 5 := ⟨kw_2524, kw_13, by decide +kernel, by decide +kernel⟩
theorem me_X12_square : mx_me yX12_square cX12_square 9 none 2 := ⟨kw_2438, kw_13, by decide +kernel, by decide +kernel⟩
theorem me_X12_squared : mx_me yX12_squared cX12_squared 6 none 3 := ⟨kw_2442, kw_13, by decide +kernel, by decide +kernel⟩
theorem me_X12_squares : mx_me yX12_squares cX12_squares 3 none 2 := ⟨kw_2434, kw_13, by decide +kernel, by decide +kernel⟩
theorem me_X12_starts : mx_me yX12_starts cX12_starts 1 none 0 := ⟨kw_2236, kw_13, by decide +kernel, by decide +kernel⟩
theorem me_X12_statement : mx_me yX12_statement cX12_statement 3 none 0 := ⟨kw_2268, kw_13, by decide +kernel, by decide +kernel⟩
theorem me_X12_steepest : mx_me yX12_steepest cX12_steepest 7 none 0 := ⟨kw_2740, kw_13, by decide +kernel, by decide +kernel⟩
theorem me_X12_step : mx_me yX12_step cX12_step 7 (some .int) 3 := ⟨kw_2507, kw_13, by decide +kernel, by decide +kernel⟩
theorem me_X12_sum : mx_me yX12_sum cX12_sum 17 none 4 := ⟨kw_2663, kw_13, by decide +kernel, by decide +kernel⟩
theorem me_X12_sweep : mx_me yX12_sweep cX12_sweep 6 (some .int) 2 := ⟨kw_2520, kw_13, by decide +kernel, by decide +kernel⟩
theorem me_X12_takeInput : mx_me yX12_takeInput cX12_takeInput 1 none 0 := ⟨kw_2240, kw_13, by decide +kernel, by decide +kernel⟩
theorem me_X12_taken : mx_me yX12_taken cX12_taken 4 (some .int) 2 := ⟨kw_2850, kw_13, by decide +kernel, by decide +kernel⟩
theorem me_X12_takes : mx_me yX12_takes cX12_takes 2 (some .boolean) 1 := ⟨kw_2292, kw_13, by decide +kernel, by decide +kernel⟩
theorem me_X12_tapeWord : mx_me yX12_tapeWord cX12_tapeWord 3 none 1 := ⟨kw_2217, kw_13, by decide +kernel, by decide +kernel⟩
theorem me_X12_thrown : mx_me yX12_thrown cX12_thrown 1 (some .int) 0 := ⟨kw_2209, kw_13, by decide +kernel, by decide +kernel⟩
theorem me_X12_times : mx_me yX12_times cX12_times 17 none 4 := ⟨kw_2651, kw_13, by decide +kernel, by decide +kernel⟩
theorem me_X12_toldAs : mx_me yX12_toldAs cX12_toldAs 4 (some .int) 2 := ⟨kw_2337, kw_13, by decide +kernel, by decide +kernel⟩
theorem me_X12_tossFault : mx_me yX12_tossFault cX12_tossFault 1 none 0 := ⟨kw_2345, kw_13, by decide +kernel, by decide +kernel⟩
theorem me_X12_touch : mx_me yX12_touch cX12_touch 5 (some .boolean) 2 := ⟨kw_2802, kw_13, by decide +kernel, by decide +kernel⟩
theorem me_X12_train : mx_me yX12_train cX12_train 3 (some .int) 2 := ⟨kw_2685, kw_13, by decide +kernel, by decide +kernel⟩
theorem me_X12_trains : mx_me yX12_trains cX12_trains 12 (some .int) 4 := ⟨kw_2679, kw_13, by decide +kernel, by decide +kernel⟩
theorem me_X12_turnPair : mx_me yX12_turnPair cX12_turnPair 4 none 3 := ⟨kw_2404, kw_13, by decide +kernel, by decide +kernel⟩
theorem me_X12_turned : mx_me yX12_turned cX12_turned 3 none 2 := ⟨kw_2396, kw_13, by decide +kernel, by decide +kernel⟩
theorem me_X12_turns : mx_me yX12_turns cX12_turns 6 (some .long) 2 := ⟨kw_2667, kw_13, by decide +kernel, by decide +kernel⟩
theorem me_X12_up : mx_me yX12_up cX12_up 4 (some .long) 2 := ⟨kw_2378, kw_13, by decide +kernel, by decide +kernel⟩
theorem me_X12_way : mx_me yX12_way cX12_way 6 (some .int) 2 := ⟨kw_2490, kw_13, by decide +kernel, by decide +kernel⟩
theorem me_X12_wayOf : mx_me yX12_wayOf cX12_wayOf 5 none 2 := ⟨kw_2387, kw_13, by decide +kernel, by decide +kernel⟩
theorem me_X12_ways : mx_me yX12_ways cX12_ways 3 (some .int) 0 := ⟨kw_2359, kw_13, by decide +kernel, by decide +kernel⟩
theorem me_X12_whole : mx_me yX12_whole cX12_whole 5 none 3 := ⟨kw_2586, kw_13, by decide +kernel, by decide +kernel⟩
theorem me_X12_wholeNumber : mx_me yX12_wholeNumber cX12_wholeNumber 5 none 2 := ⟨kw_2321, kw_13, by decide +kernel, by decide +kernel⟩
theorem me_X12_wholeUsed : mx_me yX12_wholeUsed cX12_wholeUsed 4 none 3 := ⟨kw_2317, kw_13, by decide +kernel, by decide +kernel⟩
theorem me_X12_within : mx_me yX12_within cX12_within 4 (some .boolean) 3 := ⟨kw_2785, kw_13, by decide +kernel, by decide +kernel⟩
theorem me_X12_worked : mx_me yX12_worked cX12_worked 4 (some .int) 1 := ⟨kw_2363, kw_13, by decide +kernel, by decide +kernel⟩
theorem me_X12_wrong : mx_me yX12_wrong cX12_wrong 3 none 2 := ⟨kw_2288, kw_13, by decide +kernel, by decide +kernel⟩
theorem me_X1_addPart : mx_me yX1_addPart cX1_addPart 7 none 4 := ⟨kw_1585, kw_12, by decide +kernel, by decide +kernel⟩
theorem me_X1_addWhole : mx_me yX1_addWhole cX1_addWhole 3 none 2 := ⟨kw_1569, kw_12, by decide +kernel, by decide +kernel⟩
theorem me_X1_checkSums : mx_me yX1_checkSums cX1_checkSums 4 none 1 := ⟨kw_1565, kw_12, by decide +kernel, by decide +kernel⟩
theorem me_X1_climb : mx_me yX1_climb cX1_climb 3 none 1 := ⟨kw_1595, kw_12, by decide +kernel, by decide +kernel⟩
theorem me_X1_findSteepest : mx_me yX1_findSteepest cX1_findSteepest 3 none 1 := ⟨kw_1626, kw_12, by decide +kernel, by decide +kernel⟩
theorem me_X1_init : mx_me yX1_init cX1_init 1 none 0 := ⟨kw_562, kw_12, by decide +kernel, by decide +kernel⟩
theorem me_X1_isRead : mx_me yX1_isRead cX1_isRead 4 (some .boolean) 1 := ⟨kw_1550, kw_12, by decide +kernel, by decide +kernel⟩
theorem me_X1_isTaken : mx_me yX1_isTaken cX1_isTaken 4 (some .boolean) 2 := ⟨kw_1557, kw_12, by decide +kernel, by decide +kernel⟩
theorem me_X1_reckonFifth : mx_me yX1_reckonFifth cX1_reckonFifth 1 none 0 := ⟨kw_1599, kw_12, by decide +kernel, by decide +kernel⟩
theorem me_X1_reckonLift : mx_me yX1_reckonLift cX1_reckonLift 9 none 3 := ⟨kw_1581, kw_12, by decide +kernel, by decide +kernel⟩
theorem me_X1_reckonParabola : mx_me yX1_reckonParabola cX1_reckonParabola 2 none 0 := ⟨kw_1590, kw_12, by decide +kernel, by decide +kernel⟩
theorem me_X1_reckonSeventh : mx_me yX1_reckonSeventh cX1_reckonSeventh 1 none 0 := ⟨kw_1606, kw_12, by decide +kernel, by decide +kernel⟩
theorem me_X1_smoothness : mx_me yX1_smoothness cX1_smoothness 3 (some .int) 0 := ⟨kw_1622, kw_12, by decide +kernel, by decide +kernel⟩
theorem me_X2_init : mx_me yX2_init cX2_init 1 none 0 := ⟨kw_291, kw_7, by decide +kernel, by decide +kernel⟩
theorem me_X2_isReached : mx_me yX2_isReached cX2_isReached 3 (some .boolean) 2 := ⟨kw_1839, kw_7, by decide +kernel, by decide +kernel⟩
theorem me_X2_isRead : mx_me yX2_isRead cX2_isRead 5 (some .boolean) 2 := ⟨kw_1808, kw_7, by decide +kernel, by decide +kernel⟩
theorem me_X2_isTaken : mx_me yX2_isTaken cX2_isTaken 5 (some .boolean) 3 := ⟨kw_1815, kw_7, by decide +kernel, by decide +kernel⟩
theorem me_X2_keepEvent : mx_me yX2_keepEvent cX2_keepEvent 4 none 3 := ⟨kw_1844, kw_7, by decide +kernel, by decide +kernel⟩
theorem me_X2_keptEvents : mx_me yX2_keptEvents cX2_keptEvents 1 (some .int) 0 := ⟨kw_1855, kw_7, by decide +kernel, by decide +kernel⟩
theorem me_X2_move : mx_me yX2_move cX2_move 8 (some .int) 2 := ⟨kw_1833, kw_7, by decide +kernel, by decide +kernel⟩
theorem me_X2_run : mx_me yX2_run cX2_run 7 (some .int) 1 := ⟨kw_1829, kw_7, by decide +kernel, by decide +kernel⟩
theorem me_X2_takeGoal : mx_me yX2_takeGoal cX2_takeGoal 4 none 3 := ⟨kw_1823, kw_7, by decide +kernel, by decide +kernel⟩
theorem me_X3_add : mx_me yX3_add cX3_add 13 none 2 := ⟨kw_901, kw_4, by decide +kernel, by decide +kernel⟩
theorem me_X3_checked : mx_me yX3_checked cX3_checked 5 (some .long) 2 := ⟨kw_888, kw_4, by decide +kernel, by decide +kernel⟩
theorem me_X3_copy : mx_me yX3_copy cX3_copy 2 none 1 := ⟨kw_897, kw_4, by decide +kernel, by decide +kernel⟩
theorem me_X3_gcd : mx_me yX3_gcd cX3_gcd 11 (some .long) 2 := ⟨kw_852, kw_4, by decide +kernel, by decide +kernel⟩
theorem me_X3_init : mx_me yX3_init cX3_init 1 none 0 := ⟨kw_151, kw_4, by decide +kernel, by decide +kernel⟩
theorem me_X3_isAbove : mx_me yX3_isAbove cX3_isAbove 5 (some .boolean) 2 := ⟨kw_1634, kw_4, by decide +kernel, by decide +kernel⟩
theorem me_X3_number : mx_me yX3_number cX3_number 2 (some .long) 1 := ⟨kw_1491, kw_4, by decide +kernel, by decide +kernel⟩
theorem me_X3_reduce : mx_me yX3_reduce cX3_reduce 7 none 2 := ⟨kw_849, kw_4, by decide +kernel, by decide +kernel⟩
theorem me_X3_set : mx_me yX3_set cX3_set 5 none 2 := ⟨kw_845, kw_4, by decide +kernel, by decide +kernel⟩
theorem me_X3_times : mx_me yX3_times cX3_times 13 none 2 := ⟨kw_884, kw_4, by decide +kernel, by decide +kernel⟩
theorem me_X4_addGear : mx_me yX4_addGear cX4_addGear 3 (some .int) 2 := ⟨kw_1454, kw_3, by decide +kernel, by decide +kernel⟩
theorem me_X4_addMesh : mx_me yX4_addMesh cX4_addMesh 6 (some .int) 4 := ⟨kw_1465, kw_3, by decide +kernel, by decide +kernel⟩
theorem me_X4_changePlaces : mx_me yX4_changePlaces cX4_changePlaces 4 none 2 := ⟨kw_871, kw_3, by decide +kernel, by decide +kernel⟩
theorem me_X4_clash : mx_me yX4_clash cX4_clash 9 (some .int) 3 := ⟨kw_1502, kw_3, by decide +kernel, by decide +kernel⟩
theorem me_X4_contradicts : mx_me yX4_contradicts cX4_contradicts 2 (some .boolean) 0 := ⟨kw_905, kw_3, by decide +kernel, by decide +kernel⟩
theorem me_X4_emptyRow : mx_me yX4_emptyRow cX4_emptyRow 1 none 0 := ⟨kw_834, kw_3, by decide +kernel, by decide +kernel⟩
theorem me_X4_findDrivers : mx_me yX4_findDrivers cX4_findDrivers 9 (some .int) 5 := ⟨kw_1528, kw_3, by decide +kernel, by decide +kernel⟩
theorem me_X4_findTrains : mx_me yX4_findTrains cX4_findTrains 9 (some .int) 4 := ⟨kw_1524, kw_3, by decide +kernel, by decide +kernel⟩
theorem me_X4_firstWith : mx_me yX4_firstWith cX4_firstWith 4 (some .int) 2 := ⟨kw_867, kw_3, by decide +kernel, by decide +kernel⟩
theorem me_X4_forget : mx_me yX4_forget cX4_forget 1 none 0 := ⟨kw_815, kw_3, by decide +kernel, by decide +kernel⟩
theorem me_X4_init : mx_me yX4_init cX4_init 1 none 0 := ⟨kw_143, kw_3, by decide +kernel, by decide +kernel⟩
theorem me_X4_isDivided : mx_me yX4_isDivided cX4_isDivided 8 (some .boolean) 2 := ⟨kw_875, kw_3, by decide +kernel, by decide +kernel⟩
theorem me_X4_isKnown : mx_me yX4_isKnown cX4_isKnown 4 (some .boolean) 2 := ⟨kw_1487, kw_3, by decide +kernel, by decide +kernel⟩
theorem me_X4_isReduced : mx_me yX4_isReduced cX4_isReduced 5 (some .boolean) 0 := ⟨kw_863, kw_3, by decide +kernel, by decide +kernel⟩
theorem me_X4_isTaken : mx_me yX4_isTaken cX4_isTaken 5 (some .boolean) 3 := ⟨kw_893, kw_3, by decide +kernel, by decide +kernel⟩
theorem me_X4_keepTrain : mx_me yX4_keepTrain cX4_keepTrain 6 none 4 := ⟨kw_1532, kw_3, by decide +kernel, by decide +kernel⟩
theorem me_X4_othersAreZero : mx_me yX4_othersAreZero cX4_othersAreZero 4 (some .boolean) 2 := ⟨kw_909, kw_3, by decide +kernel, by decide +kernel⟩
theorem me_X4_outcome : mx_me yX4_outcome cX4_outcome 1 (some .int) 0 := ⟨kw_826, kw_3, by decide +kernel, by decide +kernel⟩
theorem me_X4_readCell : mx_me yX4_readCell cX4_readCell 4 none 3 := ⟨kw_880, kw_3, by decide +kernel, by decide +kernel⟩
theorem me_X4_setShaft : mx_me yX4_setShaft cX4_setShaft 5 none 4 := ⟨kw_1476, kw_3, by decide +kernel, by decide +kernel⟩
theorem me_X4_writeCell : mx_me yX4_writeCell cX4_writeCell 3 none 2 := ⟨kw_859, kw_3, by decide +kernel, by decide +kernel⟩
theorem me_X4_writeMesh : mx_me yX4_writeMesh cX4_writeMesh 6 none 1 := ⟨kw_841, kw_3, by decide +kernel, by decide +kernel⟩
theorem me_X4_writeRows : mx_me yX4_writeRows cX4_writeRows 2 none 0 := ⟨kw_830, kw_3, by decide +kernel, by decide +kernel⟩
theorem me_X5_become : mx_me yX5_become cX5_become 5 none 2 := ⟨kw_1180, kw_9, by decide +kernel, by decide +kernel⟩
theorem me_X5_init : mx_me yX5_init cX5_init 1 none 0 := ⟨kw_344, kw_9, by decide +kernel, by decide +kernel⟩
theorem me_X5_signIn : mx_me yX5_signIn cX5_signIn 3 (some .int) 1 := ⟨kw_779, kw_9, by decide +kernel, by decide +kernel⟩
theorem me_X5_takeNumber : mx_me yX5_takeNumber cX5_takeNumber 6 none 3 := ⟨kw_1184, kw_9, by decide +kernel, by decide +kernel⟩
theorem me_X5_takePart : mx_me yX5_takePart cX5_takePart 4 none 3 := ⟨kw_1189, kw_9, by decide +kernel, by decide +kernel⟩
theorem me_X6_hasStiffPart : mx_me yX6_hasStiffPart cX6_hasStiffPart 4 (some .boolean) 0 := ⟨kw_1778, kw_6, by decide +kernel, by decide +kernel⟩
theorem me_X6_init : mx_me yX6_init cX6_init 1 none 0 := ⟨kw_252, kw_6, by decide +kernel, by decide +kernel⟩
theorem me_X6_isChain : mx_me yX6_isChain cX6_isChain 3 (some .boolean) 1 := ⟨kw_1770, kw_6, by decide +kernel, by decide +kernel⟩
theorem me_X6_isInOnePiece : mx_me yX6_isInOnePiece cX6_isInOnePiece 4 (some .boolean) 0 := ⟨kw_1774, kw_6, by decide +kernel, by decide +kernel⟩
theorem me_X6_isSeen : mx_me yX6_isSeen cX6_isSeen 2 (some .boolean) 1 := ⟨kw_1766, kw_6, by decide +kernel, by decide +kernel⟩
theorem me_X6_listAll : mx_me yX6_listAll cX6_listAll 4 none 2 := ⟨kw_1751, kw_6, by decide +kernel, by decide +kernel⟩
theorem me_X6_numberPairs : mx_me yX6_numberPairs cX6_numberPairs 4 none 0 := ⟨kw_1755, kw_6, by decide +kernel, by decide +kernel⟩
theorem me_X6_renumbered : mx_me yX6_renumbered cX6_renumbered 4 (some .int) 1 := ⟨kw_1790, kw_6, by decide +kernel, by decide +kernel⟩
theorem me_X6_seeAllLike : mx_me yX6_seeAllLike cX6_seeAllLike 5 none 1 := ⟨kw_1782, kw_6, by decide +kernel, by decide +kernel⟩
theorem me_X6_writeSequence : mx_me yX6_writeSequence cX6_writeSequence 6 none 1 := ⟨kw_1786, kw_6, by decide +kernel, by decide +kernel⟩
theorem me_X7_approach : mx_me yX7_approach cX7_approach 7 none 4 := ⟨kw_1345, kw_8, by decide +kernel, by decide +kernel⟩
theorem me_X7_arrange : mx_me yX7_arrange cX7_arrange 6 (some .int) 0 := ⟨kw_1196, kw_8, by decide +kernel, by decide +kernel⟩
theorem me_X7_checkPart : mx_me yX7_checkPart cX7_checkPart 5 none 3 := ⟨kw_1158, kw_8, by decide +kernel, by decide +kernel⟩
theorem me_X7_drift : mx_me yX7_drift cX7_drift 6 none 5 := ⟨kw_1380, kw_8, by decide +kernel, by decide +kernel⟩
theorem me_X7_hangsOnOpen : mx_me yX7_hangsOnOpen cX7_hangsOnOpen 3 (some .boolean) 1 := ⟨kw_665, kw_8, by decide +kernel, by decide +kernel⟩
theorem me_X7_inheritMask : mx_me yX7_inheritMask cX7_inheritMask 3 none 1 := ⟨kw_1203, kw_8, by decide +kernel, by decide +kernel⟩
theorem me_X7_init : mx_me yX7_init cX7_init 2 none 0 := ⟨kw_337, kw_8, by decide +kernel, by decide +kernel⟩
theorem me_X7_isRead : mx_me yX7_isRead cX7_isRead 4 (some .boolean) 1 := ⟨kw_1033, kw_8, by decide +kernel, by decide +kernel⟩
theorem me_X7_isReady : mx_me yX7_isReady cX7_isReady 4 (some .boolean) 2 := ⟨kw_1199, kw_8, by decide +kernel, by decide +kernel⟩
theorem me_X7_isTaken : mx_me yX7_isTaken cX7_isTaken 5 (some .boolean) 2 := ⟨kw_1154, kw_8, by decide +kernel, by decide +kernel⟩
theorem me_X7_judgeRest : mx_me yX7_judgeRest cX7_judgeRest 1 (some .int) 0 := ⟨kw_768, kw_8, by decide +kernel, by decide +kernel⟩
theorem me_X7_listWays : mx_me yX7_listWays cX7_listWays 3 none 0 := ⟨kw_653, kw_8, by decide +kernel, by decide +kernel⟩
theorem me_X7_look : mx_me yX7_look cX7_look 7 (some .int) 2 := ⟨kw_657, kw_8, by decide +kernel, by decide +kernel⟩
theorem me_X7_massInAll : mx_me yX7_massInAll cX7_massInAll 3 (some .int) 0 := ⟨kw_1435, kw_8, by decide +kernel, by decide +kernel⟩
theorem me_X7_meet : mx_me yX7_meet cX7_meet 4 none 3 := ⟨kw_1372, kw_8, by decide +kernel, by decide +kernel⟩
theorem me_X7_moveTo : mx_me yX7_moveTo cX7_moveTo 3 none 2 := ⟨kw_1037, kw_8, by decide +kernel, by decide +kernel⟩
theorem me_X7_numberOf : mx_me yX7_numberOf cX7_numberOf 4 (some .int) 1 := ⟨kw_645, kw_8, by decide +kernel, by decide +kernel⟩
theorem me_X7_offerLeast : mx_me yX7_offerLeast cX7_offerLeast 2 none 0 := ⟨kw_1349, kw_8, by decide +kernel, by decide +kernel⟩
theorem me_X7_openOr : mx_me yX7_openOr cX7_openOr 2 (some .int) 2 := ⟨kw_720, kw_8, by decide +kernel, by decide +kernel⟩
theorem me_X7_placeCrank : mx_me yX7_placeCrank cX7_placeCrank 3 (some .int) 1 := ⟨kw_677, kw_8, by decide +kernel, by decide +kernel⟩
theorem me_X7_placeCross : mx_me yX7_placeCross cX7_placeCross 4 (some .int) 1 := ⟨kw_800, kw_8, by decide +kernel, by decide +kernel⟩
theorem me_X7_placeDyad : mx_me yX7_placeDyad cX7_placeDyad 4 (some .int) 1 := ⟨kw_728, kw_8, by decide +kernel, by decide +kernel⟩
theorem me_X7_placeFix : mx_me yX7_placeFix cX7_placeFix 1 (some .int) 1 := ⟨kw_807, kw_8, by decide +kernel, by decide +kernel⟩
theorem me_X7_placeOfTeller : mx_me yX7_placeOfTeller cX7_placeOfTeller 3 (some .int) 2 := ⟨kw_1206, kw_8, by decide +kernel, by decide +kernel⟩
theorem me_X7_placeSlide : mx_me yX7_placeSlide cX7_placeSlide 4 (some .int) 1 := ⟨kw_787, kw_8, by decide +kernel, by decide +kernel⟩
theorem me_X7_poleOf : mx_me yX7_poleOf cX7_poleOf 3 (some (.object "MechanismHouse$Pair")) 2 := ⟨kw_1395, kw_8, by decide +kernel, by decide +kernel⟩
theorem me_X7_reckonMiddle : mx_me yX7_reckonMiddle cX7_reckonMiddle 4 none 1 := ⟨kw_1439, kw_8, by decide +kernel, by decide +kernel⟩
theorem me_X7_reckonMoment : mx_me yX7_reckonMoment cX7_reckonMoment 3 none 0 := ⟨kw_1420, kw_8, by decide +kernel, by decide +kernel⟩
theorem me_X7_reckonSpeeds : mx_me yX7_reckonSpeeds cX7_reckonSpeeds 4 none 1 := ⟨kw_1360, kw_8, by decide +kernel, by decide +kernel⟩
theorem me_X7_runsOf : mx_me yX7_runsOf cX7_runsOf 11 (some .int) 3 := ⟨kw_1320, kw_8, by decide +kernel, by decide +kernel⟩
theorem me_X7_span : mx_me yX7_span cX7_span 5 none 4 := ⟨kw_796, kw_8, by decide +kernel, by decide +kernel⟩
theorem me_X7_speedCrank : mx_me yX7_speedCrank cX7_speedCrank 3 none 2 := ⟨kw_1364, kw_8, by decide +kernel, by decide +kernel⟩
theorem me_X7_speedCross : mx_me yX7_speedCross cX7_speedCross 2 none 1 := ⟨kw_1384, kw_8, by decide +kernel, by decide +kernel⟩
theorem me_X7_speedDyad : mx_me yX7_speedDyad cX7_speedDyad 4 none 1 := ⟨kw_1368, kw_8, by decide +kernel, by decide +kernel⟩
theorem me_X7_speedSlide : mx_me yX7_speedSlide cX7_speedSlide 3 none 1 := ⟨kw_1376, kw_8, by decide +kernel, by decide +kernel⟩
theorem me_X7_sweep : mx_me yX7_sweep cX7_sweep 9 none 4 := ⟨kw_1331, kw_8, by decide +kernel, by decide +kernel⟩
theorem me_X7_touch : mx_me yX7_touch cX7_touch 3 none 1 := ⟨kw_661, kw_8, by decide +kernel, by decide +kernel⟩
theorem me_X7_walk : mx_me yX7_walk cX7_walk 7 none 3 := ⟨kw_1309, kw_8, by decide +kernel, by decide +kernel⟩
theorem me_X8_add : mx_me yX8_add cX8_add 3 none 2 := ⟨kw_717, kw_11, by decide +kernel, by decide +kernel⟩
theorem me_X8_addTurned : mx_me yX8_addTurned cX8_addTurned 4 none 3 := ⟨kw_783, kw_11, by decide +kernel, by decide +kernel⟩
theorem me_X8_copy : mx_me yX8_copy cX8_copy 2 none 1 := ⟨kw_681, kw_11, by decide +kernel, by decide +kernel⟩
theorem me_X8_direct : mx_me yX8_direct cX8_direct 9 none 1 := ⟨kw_1041, kw_11, by decide +kernel, by decide +kernel⟩
theorem me_X8_init : mx_me yX8_init cX8_init 1 none 0 := ⟨kw_372, kw_11, by decide +kernel, by decide +kernel⟩
theorem me_X8_isOpen : mx_me yX8_isOpen cX8_isOpen 1 (some .boolean) 0 := ⟨kw_724, kw_11, by decide +kernel, by decide +kernel⟩
theorem me_X8_minus : mx_me yX8_minus cX8_minus 3 none 2 := ⟨kw_732, kw_11, by decide +kernel, by decide +kernel⟩
theorem me_X8_product : mx_me yX8_product cX8_product 3 none 2 := ⟨kw_703, kw_11, by decide +kernel, by decide +kernel⟩
theorem me_X8_shut : mx_me yX8_shut cX8_shut 1 none 0 := ⟨kw_669, kw_11, by decide +kernel, by decide +kernel⟩
theorem me_X8_zero : mx_me yX8_zero cX8_zero 1 none 0 := ⟨kw_695, kw_11, by decide +kernel, by decide +kernel⟩
theorem me_X9_addCorner : mx_me yX9_addCorner cX9_addCorner 3 (some .int) 2 := ⟨kw_1645, kw_5, by decide +kernel, by decide +kernel⟩
theorem me_X9_after : mx_me yX9_after cX9_after 2 (some .int) 1 := ⟨kw_1671, kw_5, by decide +kernel, by decide +kernel⟩
theorem me_X9_crossAt : mx_me yX9_crossAt cX9_crossAt 3 (some .long) 1 := ⟨kw_1667, kw_5, by decide +kernel, by decide +kernel⟩
theorem me_X9_crossing : mx_me yX9_crossing cX9_crossing 5 (some .int) 1 := ⟨kw_1675, kw_5, by decide +kernel, by decide +kernel⟩
theorem me_X9_holds : mx_me yX9_holds cX9_holds 7 (some .boolean) 3 := ⟨kw_1691, kw_5, by decide +kernel, by decide +kernel⟩
theorem me_X9_init : mx_me yX9_init cX9_init 1 none 0 := ⟨kw_235, kw_5, by decide +kernel, by decide +kernel⟩
theorem me_X9_isInReach : mx_me yX9_isInReach cX9_isInReach 4 (some .boolean) 1 := ⟨kw_1731, kw_5, by decide +kernel, by decide +kernel⟩
theorem me_X9_offer : mx_me yX9_offer cX9_offer 5 none 3 := ⟨kw_1739, kw_5, by decide +kernel, by decide +kernel⟩
theorem me_X9_offerFoot : mx_me yX9_offerFoot cX9_offerFoot 22 none 4 := ⟨kw_1736, kw_5, by decide +kernel, by decide +kernel⟩
theorem me_X9_parts : mx_me yX9_parts cX9_parts 9 (some .boolean) 3 := ⟨kw_1683, kw_5, by decide +kernel, by decide +kernel⟩
theorem me_X9_reckon : mx_me yX9_reckon cX9_reckon 6 none 2 := ⟨kw_1697, kw_5, by decide +kernel, by decide +kernel⟩
theorem me_X9_reckonGap : mx_me yX9_reckonGap cX9_reckonGap 9 none 2 := ⟨kw_1727, kw_5, by decide +kernel, by decide +kernel⟩
theorem me_X9_sideOf : mx_me yX9_sideOf cX9_sideOf 7 (some .long) 3 := ⟨kw_1687, kw_5, by decide +kernel, by decide +kernel⟩
theorem me_X9_standing : mx_me yX9_standing cX9_standing 9 (some .int) 2 := ⟨kw_1716, kw_5, by decide +kernel, by decide +kernel⟩
theorem me_X9_touches : mx_me yX9_touches cX9_touches 6 (some .boolean) 3 := ⟨kw_1679, kw_5, by decide +kernel, by decide +kernel⟩
theorem me_X9_twiceArea : mx_me yX9_twiceArea cX9_twiceArea 4 (some .long) 0 := ⟨kw_1663, kw_5, by decide +kernel, by decide +kernel⟩
theorem me_X9_weightAt : mx_me yX9_weightAt cX9_weightAt 4 (some .long) 2 := ⟨kw_1701, kw_5, by decide +kernel, by decide +kernel⟩
theorem mw_L_at : mx_meW yL_at cL_at 7 (some .int) [(0, 13, 16, 19), (0, 13, 20, 35)] 6 := ⟨mx_in (mx_t6 (List.mem_of_getElem? (i := 62) rfl)) rfl, kw_0, by decide +kernel, by decide +kernel⟩
theorem mw_L_cam : mx_meW yL_cam cL_cam 3 (some .int) [(0, 8, 11, 25)] 2 := ⟨mx_in (mx_t7 (List.mem_of_getElem? (i := 102) rfl)) rfl, kw_0, by decide +kernel, by decide +kernel⟩
theorem mw_L_camAbout : mx_meW yL_camAbout cL_camAbout 4 (some .int) [(0, 8, 11, 19), (0, 8, 14, 35)] 3 := ⟨mx_in (mx_t7 (List.mem_of_getElem? (i := 174) rfl)) rfl, kw_0, by decide +kernel, by decide +kernel⟩
theorem mw_L_corner : mx_meW yL_corner cL_corner 6 (some .int) [(0, 12, 15, 19), (0, 12, 19, 13)] 5 := ⟨mx_in (mx_t7 (List.mem_of_getElem? (i := 197) rfl)) rfl, kw_0, by decide +kernel, by decide +kernel⟩
theorem mw_L_distance : mx_meW yL_distance cL_distance 6 (some .int) [(0, 11, 14, 19), (0, 11, 18, 35)] 5 := ⟨mx_in (mx_t8 (List.mem_of_getElem? (i := 39) rfl)) rfl, kw_0, by decide +kernel, by decide +kernel⟩
theorem mw_L_drive : mx_meW yL_drive cL_drive 3 (some .int) [(0, 8, 11, 25)] 2 := ⟨mx_in (mx_t8 (List.mem_of_getElem? (i := 120) rfl)) rfl, kw_0, by decide +kernel, by decide +kernel⟩
theorem mw_L_empty : mx_meW yL_empty cL_empty 3 (some .int) [(0, 5, 8, 19)] 2 := ⟨mx_in (mx_t7 (List.mem_of_getElem? (i := 208) rfl)) rfl, kw_0, by decide +kernel, by decide +kernel⟩
theorem mw_L_end : mx_meW yL_end cL_end 4 (some .int) [(0, 9, 12, 19)] 3 := ⟨mx_in (mx_t5 (List.mem_of_getElem? (i := 38) rfl)) rfl, kw_0, by decide +kernel, by decide +kernel⟩
theorem mw_L_event : mx_meW yL_event cL_event 5 (some .int) [(0, 10, 13, 19), (0, 10, 17, 35)] 4 := ⟨mx_in (mx_t8 (List.mem_of_getElem? (i := 167) rfl)) rfl, kw_0, by decide +kernel, by decide +kernel⟩
theorem mw_L_feed : mx_meW yL_feed cL_feed 8 (some .int) [(0, 16, 19, 13)] 7 := ⟨mx_in (mx_t4 (List.mem_of_getElem? (i := 196) rfl)) rfl, kw_0, by decide +kernel, by decide +kernel⟩
theorem mw_L_gear : mx_meW yL_gear cL_gear 5 (some .int) [(0, 10, 13, 19), (0, 10, 17, 13)] 4 := ⟨mx_in (mx_t7 (List.mem_of_getElem? (i := 3) rfl)) rfl, kw_0, by decide +kernel, by decide +kernel⟩
theorem mw_L_input : mx_meW yL_input cL_input 4 (some .int) [(0, 6, 9, 19)] 3 := ⟨mx_in (mx_t6 (List.mem_of_getElem? (i := 25) rfl)) rfl, kw_0, by decide +kernel, by decide +kernel⟩
theorem mw_L_inside : mx_meW yL_inside cL_inside 6 (some .int) [(0, 12, 15, 19), (0, 12, 19, 35)] 5 := ⟨mx_in (mx_t8 (List.mem_of_getElem? (i := 28) rfl)) rfl, kw_0, by decide +kernel, by decide +kernel⟩
theorem mw_L_interference : mx_meW yL_interference cL_interference 6 (some .int) [(0, 12, 15, 35)] 5 := ⟨mx_in (mx_t7 (List.mem_of_getElem? (i := 54) rfl)) rfl, kw_0, by decide +kernel, by decide +kernel⟩
theorem mw_L_kind : mx_meW yL_kind cL_kind 4 (some .int) [(0, 9, 12, 35)] 3 := ⟨mx_in (mx_t8 (List.mem_of_getElem? (i := 113) rfl)) rfl, kw_0, by decide +kernel, by decide +kernel⟩
theorem mw_L_kinds : mx_meW yL_kinds cL_kinds 5 (some .int) [(0, 10, 13, 19)] 4 := ⟨mx_in (mx_t8 (List.mem_of_getElem? (i := 63) rfl)) rfl, kw_0, by decide +kernel, by decide +kernel⟩
theorem mw_L_least : mx_meW yL_least cL_least 8 (some .int) [(0, 15, 18, 19), (0, 15, 22, 35)] 7 := ⟨mx_in (mx_t6 (List.mem_of_getElem? (i := 137) rfl)) rfl, kw_0, by decide +kernel, by decide +kernel⟩
theorem mw_L_lift : mx_meW yL_lift cL_lift 6 (some .int) [(0, 11, 14, 19), (0, 11, 18, 35), (0, 11, 22, 45)] 5 := ⟨mx_in (mx_t7 (List.mem_of_getElem? (i := 133) rfl)) rfl, kw_0, by decide +kernel, by decide +kernel⟩
theorem mw_L_linkage : mx_meW yL_linkage cL_linkage 3 (some .int) [(0, 8, 11, 25)] 2 := ⟨mx_in (mx_t5 (List.mem_of_getElem? (i := 64) rfl)) rfl, kw_0, by decide +kernel, by decide +kernel⟩
theorem mw_L_load : mx_meW yL_load cL_load 5 (some .int) [(0, 7, 10, 19), (0, 7, 14, 35)] 4 := ⟨mx_in (mx_t6 (List.mem_of_getElem? (i := 198) rfl)) rfl, kw_0, by decide +kernel, by decide +kernel⟩
theorem mw_L_mass : mx_meW yL_mass cL_mass 4 (some .int) [(0, 6, 9, 19), (0, 6, 12, 35)] 3 := ⟨mx_in (mx_t6 (List.mem_of_getElem? (i := 205) rfl)) rfl, kw_0, by decide +kernel, by decide +kernel⟩
theorem mw_L_mesh : mx_meW yL_mesh cL_mesh 7 (some .int) [(0, 14, 17, 19), (0, 14, 21, 35), (0, 14, 25, 45), (0, 14, 29, 13)] 6 := ⟨mx_in (mx_t7 (List.mem_of_getElem? (i := 17) rfl)) rfl, kw_0, by decide +kernel, by decide +kernel⟩
theorem mw_L_middle : mx_meW yL_middle cL_middle 6 (some .int) [(0, 11, 14, 19), (0, 11, 18, 35), (0, 11, 22, 45)] 5 := ⟨mx_in (mx_t6 (List.mem_of_getElem? (i := 227) rfl)) rfl, kw_0, by decide +kernel, by decide +kernel⟩
theorem mw_L_moment : mx_meW yL_moment cL_moment 6 (some .int) [(0, 11, 14, 19), (0, 11, 18, 35), (0, 11, 22, 45)] 5 := ⟨mx_in (mx_t6 (List.mem_of_getElem? (i := 212) rfl)) rfl, kw_0, by decide +kernel, by decide +kernel⟩
theorem mw_L_plate : mx_meW yL_plate cL_plate 5 (some .int) [(0, 9, 12, 19), (0, 9, 16, 35)] 4 := ⟨mx_in (mx_t7 (List.mem_of_getElem? (i := 215) rfl)) rfl, kw_0, by decide +kernel, by decide +kernel⟩
theorem mw_L_pole : mx_meW yL_pole cL_pole 9 (some .int) [(0, 17, 20, 19), (0, 17, 24, 35), (0, 17, 28, 45)] 8 := ⟨mx_in (mx_t6 (List.mem_of_getElem? (i := 187) rfl)) rfl, kw_0, by decide +kernel, by decide +kernel⟩
theorem mw_L_range : mx_meW yL_range cL_range 6 (some .int) [(0, 12, 15, 19)] 5 := ⟨mx_in (mx_t6 (List.mem_of_getElem? (i := 112) rfl)) rfl, kw_0, by decide +kernel, by decide +kernel⟩
theorem mw_L_shaft : mx_meW yL_shaft cL_shaft 6 (some .int) [(0, 9, 12, 19)] 5 := ⟨mx_in (mx_t7 (List.mem_of_getElem? (i := 28) rfl)) rfl, kw_0, by decide +kernel, by decide +kernel⟩
theorem mw_L_speed : mx_meW yL_speed cL_speed 8 (some .int) [(0, 15, 18, 19), (0, 15, 22, 35), (0, 15, 26, 45)] 7 := ⟨mx_in (mx_t6 (List.mem_of_getElem? (i := 152) rfl)) rfl, kw_0, by decide +kernel, by decide +kernel⟩
theorem mw_L_spread : mx_meW yL_spread cL_spread 8 (some .int) [(0, 15, 18, 19), (0, 15, 22, 35)] 7 := ⟨mx_in (mx_t6 (List.mem_of_getElem? (i := 123) rfl)) rfl, kw_0, by decide +kernel, by decide +kernel⟩
theorem mw_L_step : mx_meW yL_step cL_step 6 (some .int) [(0, 12, 15, 19), (0, 12, 19, 45)] 5 := ⟨mx_in (mx_t6 (List.mem_of_getElem? (i := 78) rfl)) rfl, kw_0, by decide +kernel, by decide +kernel⟩
theorem mw_L_train : mx_meW yL_train cL_train 5 (some .int) [(0, 10, 13, 19), (0, 10, 17, 35)] 4 := ⟨mx_in (mx_t7 (List.mem_of_getElem? (i := 95) rfl)) rfl, kw_0, by decide +kernel, by decide +kernel⟩
theorem mw_L_trains : mx_meW yL_trains cL_trains 7 (some .int) [(0, 14, 17, 19)] 6 := ⟨mx_in (mx_t7 (List.mem_of_getElem? (i := 76) rfl)) rfl, kw_0, by decide +kernel, by decide +kernel⟩
theorem mw_L_turns : mx_meW yL_turns cL_turns 5 (some .int) [(0, 9, 12, 19), (0, 9, 16, 35), (0, 9, 20, 45)] 4 := ⟨mx_in (mx_t7 (List.mem_of_getElem? (i := 39) rfl)) rfl, kw_0, by decide +kernel, by decide +kernel⟩
theorem mw_L_way : mx_meW yL_way cL_way 5 (some .int) [(0, 10, 13, 19), (0, 10, 17, 35)] 4 := ⟨mx_in (mx_t6 (List.mem_of_getElem? (i := 33) rfl)) rfl, kw_0, by decide +kernel, by decide +kernel⟩
theorem tw_RX11_102 : mx_thw RX11 100 102 "java/lang/UnsupportedOperationException" ["java/lang/RuntimeException", "java/lang/Exception"] := ⟨mx_all2 (by decide +kernel), fun w hw => List.all_eq_true.mp (show List.all _ vx_ot = true by decide +kernel) w hw, by decide +kernel, by decide +kernel, kw_1208, kw_24, mx_wkT⟩
theorem tw_RX11_340 : mx_thw RX11 338 340 "java/lang/IllegalArgumentException" ["java/lang/RuntimeException", "java/lang/Exception"] := ⟨mx_all2 (by decide +kernel), fun w hw => List.all_eq_true.mp (show List.all _ vx_ot = true by decide +kernel) w hw, by decide +kernel, by decide +kernel, kw_1007, kw_18, mx_wkT⟩
theorem tw_RX11_343 : mx_thw RX11 341 343 "java/util/NoSuchElementException" ["java/lang/RuntimeException", "java/lang/Exception"] := ⟨mx_all2 (by decide +kernel), fun w hw => List.all_eq_true.mp (show List.all _ vx_ot = true by decide +kernel) w hw, by decide +kernel, by decide +kernel, kw_1245, kw_25, mx_wkT⟩
theorem tw_RX11_346 : mx_thw RX11 344 346 "java/lang/IllegalStateException" ["java/lang/RuntimeException", "java/lang/Exception"] := ⟨mx_all2 (by decide +kernel), fun w hw => List.all_eq_true.mp (show List.all _ vx_ot = true by decide +kernel) w hw, by decide +kernel, by decide +kernel, kw_1291, kw_26, mx_wkT⟩
theorem tw_RX11_77 : mx_thw RX11 75 77 "java/lang/IndexOutOfBoundsException" ["java/lang/RuntimeException", "java/lang/Exception"] := ⟨mx_all2 (by decide +kernel), fun w hw => List.all_eq_true.mp (show List.all _ vx_ot = true by decide +kernel) w hw, by decide +kernel, by decide +kernel, kw_926, kw_17, mx_wkT⟩
theorem mx_cast_0 : Cond.castable "java/lang/IllegalArgumentException" "java/lang/IllegalArgumentException" ∈ mx_wk := List.mem_filter.mpr ⟨List.mem_of_getElem? (i := 1009) (by decide +kernel), rfl⟩
theorem mx_cast_1 : Cond.castable "java/util/NoSuchElementException" "java/util/NoSuchElementException" ∈ mx_wk := List.mem_filter.mpr ⟨List.mem_of_getElem? (i := 1247) (by decide +kernel), rfl⟩
theorem mx_cast_2 : Cond.castable "java/lang/IllegalStateException" "java/lang/IllegalStateException" ∈ mx_wk := List.mem_filter.mpr ⟨List.mem_of_getElem? (i := 1293) (by decide +kernel), rfl⟩
theorem mx_cast_3 : Cond.castable "java/lang/IndexOutOfBoundsException" "java/lang/IndexOutOfBoundsException" ∈ mx_wk := List.mem_filter.mpr ⟨List.mem_of_getElem? (i := 928) (by decide +kernel), rfl⟩
theorem mx_cast_4 : Cond.castable "java/lang/UnsupportedOperationException" "java/lang/UnsupportedOperationException" ∈ mx_wk := List.mem_filter.mpr ⟨List.mem_of_getElem? (i := 1210) (by decide +kernel), rfl⟩
