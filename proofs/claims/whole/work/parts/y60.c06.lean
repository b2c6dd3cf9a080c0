set_option maxHeartbeats 4000000 in
set_option maxRecDepth 100000 in
theorem c_X7_speedCross (l : Launch) (G : mx_G) (P : mx_P) (a0 : Nat) (a1 : Nat) (σ : mx_S) (σ' : mx_S) (hf : f_X7_speedCross P a0 a1 σ = some σ') : mxz σ ≤ mpc P → mxu σ ≤ mps P → mx_M l yX7_speedCross cX7_speedCross 2 none 4 106 G P [.ref a0, .ref a1] σ none σ' := by
  intro hcap hcau
  refine mx_ofW (by decide +kernel) hcap hcau (Nat.le_of_ble_eq_true rfl) ?_
  intro p e s m below meth c hx hb hr hml hts hown hlocks hname hK hJ ls hl
  have hz0 := hJ.2.1
  have hown : s.vm.findClass RX7 = some m.cls := hown
  have hl : lv_has ls 2 [(0, .ref a0), (1, .ref a1)] := hl
  unfold f_X7_speedCross at hf
  refine lv_aload_n hx hb dX7_speedCross_0 rfl (lv_at hl 0 rfl) ?_
  refine lv_aload_n hx hb dX7_speedCross_1 rfl (lv_at hl 0 rfl) ?_
  obtain ⟨b1, e2, hf⟩ := mb0 hf
  refine my_gR hx hb hts hown hK hJ fd_RX7_65 hv_7_16 e2 dX7_speedCross_2 ?_
  refine lv_aload_n hx hb dX7_speedCross_5 rfl (lv_at hl 0 rfl) ?_
  obtain ⟨b3, e4, hf⟩ := mb0 hf
  refine my_gR hx hb hts hown hK hJ fd_RX7_48 hv_7_11 e4 dX7_speedCross_6 ?_
  refine lv_aload_n hx hb dX7_speedCross_9 rfl (lv_at hl 1 rfl) ?_
  refine lv_aload_n hx hb dX7_speedCross_10 rfl (lv_at hl 0 rfl) ?_
  obtain ⟨b5, e6, hf⟩ := mb0 hf
  refine my_gR hx hb hts hown hK hJ fd_RX7_11 hv_7_0 e6 dX7_speedCross_11 ?_
  refine lv_aload_n hx hb dX7_speedCross_14 rfl (lv_at hl 1 rfl) ?_
  obtain ⟨b7, e8, hf⟩ := mb0 hf
  refine my_gR hx hb hts hown hK hJ fd_RX7_167 hv_5_2 e8 dX7_speedCross_15 ?_
  refine lv_iconst (v := 0) hx hb dX7_speedCross_18 (by decide) ?_
  obtain ⟨x9, e10, hf⟩ := mb0 hf
  refine mx_aI hx hb hK hJ e10 dX7_speedCross_19 ?_
  obtain ⟨b11, e12, hf⟩ := mb0 hf
  refine mx_aR hx hb hK hJ (t := 4) rfl (fun _ _ _ => rfl) e12 dX7_speedCross_20 ?_
  refine lv_aload_n hx hb dX7_speedCross_21 rfl (lv_at hl 0 rfl) ?_
  obtain ⟨b13, e14, hf⟩ := mb0 hf
  refine my_gR hx hb hts hown hK hJ fd_RX7_11 hv_7_0 e14 dX7_speedCross_22 ?_
  refine lv_aload_n hx hb dX7_speedCross_25 rfl (lv_at hl 1 rfl) ?_
  obtain ⟨b15, e16, hf⟩ := mb0 hf
  refine my_gR hx hb hts hown hK hJ fd_RX7_167 hv_5_2 e16 dX7_speedCross_26 ?_
  refine lv_iconst (v := 1) hx hb dX7_speedCross_29 (by decide) ?_
  obtain ⟨x17, e18, hf⟩ := mb0 hf
  refine mx_aI hx hb hK hJ e18 dX7_speedCross_30 ?_
  obtain ⟨b19, e20, hf⟩ := mb0 hf
  refine mx_aR hx hb hK hJ (t := 4) rfl (fun _ _ _ => rfl) e20 dX7_speedCross_31 ?_
  obtain ⟨i21, e22, hf⟩ := mb0 hf
  obtain ⟨σ23, e24, hf⟩ := mb0 hf
  refine mx_callV (As := [.ref b1, .ref b3, .ref a1, .ref b11, .ref b19]) (rest := []) hx hb hml hts hown hK hJ rfl rfl (ci := 7) rfl e22 (c_X7_drift l G P a0 b1 b3 a1 b11 b19 σ σ23 e24) me_X7_drift kw_1379 ks_45 kw_1377 (Nat.le_of_ble_eq_true rfl) (Nat.le_of_ble_eq_true rfl) rfl hl.1 rfl (Nat.le_of_ble_eq_true rfl) dX7_speedCross_32 (fun H locs hJ => ?_)
  refine lv_aload_n hx hb dX7_speedCross_35 rfl (lv_at hl 0 rfl) ?_
  refine lv_aload_n hx hb dX7_speedCross_36 rfl (lv_at hl 0 rfl) ?_
  obtain ⟨b25, e26, hf⟩ := mb0 hf
  refine my_gR hx hb hts hown hK hJ fd_RX7_68 hv_7_17 e26 dX7_speedCross_37 ?_
  refine lv_aload_n hx hb dX7_speedCross_40 rfl (lv_at hl 0 rfl) ?_
  obtain ⟨b27, e28, hf⟩ := mb0 hf
  refine my_gR hx hb hts hown hK hJ fd_RX7_52 hv_7_12 e28 dX7_speedCross_41 ?_
  refine lv_aload_n hx hb dX7_speedCross_44 rfl (lv_at hl 1 rfl) ?_
  refine lv_aload_n hx hb dX7_speedCross_45 rfl (lv_at hl 0 rfl) ?_
  obtain ⟨b29, e30, hf⟩ := mb0 hf
  refine my_gR hx hb hts hown hK hJ fd_RX7_11 hv_7_0 e30 dX7_speedCross_46 ?_
  refine lv_aload_n hx hb dX7_speedCross_49 rfl (lv_at hl 1 rfl) ?_
  obtain ⟨b31, e32, hf⟩ := mb0 hf
  refine my_gR hx hb hts hown hK hJ fd_RX7_167 hv_5_2 e32 dX7_speedCross_50 ?_
  refine lv_iconst (v := 2) hx hb dX7_speedCross_53 (by decide) ?_
  obtain ⟨x33, e34, hf⟩ := mb0 hf
  refine mx_aI hx hb hK hJ e34 dX7_speedCross_54 ?_
  obtain ⟨b35, e36, hf⟩ := mb0 hf
  refine mx_aR hx hb hK hJ (t := 4) rfl (fun _ _ _ => rfl) e36 dX7_speedCross_55 ?_
  refine lv_aload_n hx hb dX7_speedCross_56 rfl (lv_at hl 0 rfl) ?_
  obtain ⟨b37, e38, hf⟩ := mb0 hf
  refine my_gR hx hb hts hown hK hJ fd_RX7_11 hv_7_0 e38 dX7_speedCross_57 ?_
  refine lv_aload_n hx hb dX7_speedCross_60 rfl (lv_at hl 1 rfl) ?_
  obtain ⟨b39, e40, hf⟩ := mb0 hf
  refine my_gR hx hb hts hown hK hJ fd_RX7_167 hv_5_2 e40 dX7_speedCross_61 ?_
  refine lv_iconst (v := 3) hx hb dX7_speedCross_64 (by decide) ?_
  obtain ⟨x41, e42, hf⟩ := mb0 hf
  refine mx_aI hx hb hK hJ e42 dX7_speedCross_65 ?_
  obtain ⟨b43, e44, hf⟩ := mb0 hf
  refine mx_aR hx hb hK hJ (t := 4) rfl (fun _ _ _ => rfl) e44 dX7_speedCross_66 ?_
  obtain ⟨i45, e46, hf⟩ := mb0 hf
  obtain ⟨σ47, e48, hf⟩ := mb0 hf
  refine mx_callV (As := [.ref b25, .ref b27, .ref a1, .ref b35, .ref b43]) (rest := []) hx hb hml hts hown hK hJ rfl rfl (ci := 7) rfl e46 (c_X7_drift l G P a0 b25 b27 a1 b35 b43 σ23 σ47 e48) me_X7_drift kw_1379 ks_45 kw_1377 (Nat.le_of_ble_eq_true rfl) (Nat.le_of_ble_eq_true rfl) rfl hl.1 rfl (Nat.le_of_ble_eq_true rfl) dX7_speedCross_67 (fun H locs hJ => ?_)
  refine lv_aload_n hx hb dX7_speedCross_70 rfl (lv_at hl 0 rfl) ?_
  obtain ⟨b49, e50, hf⟩ := mb0 hf
  refine my_gR hx hb hts hown hK hJ fd_RX7_62 hv_7_15 e50 dX7_speedCross_71 ?_
  refine lv_aload_n hx hb dX7_speedCross_74 rfl (lv_at hl 0 rfl) ?_
  obtain ⟨b51, e52, hf⟩ := mb0 hf
  refine my_gR hx hb hts hown hK hJ fd_RX7_48 hv_7_11 e52 dX7_speedCross_75 ?_
  refine lv_aload_n hx hb dX7_speedCross_78 rfl (lv_at hl 0 rfl) ?_
  obtain ⟨b53, e54, hf⟩ := mb0 hf
  refine my_gR hx hb hts hown hK hJ fd_RX7_52 hv_7_12 e54 dX7_speedCross_79 ?_
  obtain ⟨i55, e56, hf⟩ := mb0 hf
  obtain ⟨σ57, e58, hf⟩ := mb0 hf
  refine mx_callV (As := [.ref b51, .ref b53]) (rest := []) hx hb hml hts hown hK hJ rfl rfl (ci := 0) rfl e56 (c_X0_cross l G P b49 b51 b53 σ47 σ57 e58) me_X0_cross kw_802 kw_803 kw_801 (Nat.le_of_ble_eq_true rfl) (Nat.le_of_ble_eq_true rfl) rfl hl.1 rfl (Nat.le_of_ble_eq_true rfl) dX7_speedCross_82 (fun H locs hJ => ?_)
  refine lv_aload_n hx hb dX7_speedCross_85 rfl (lv_at hl 0 rfl) ?_
  obtain ⟨b59, e60, hf⟩ := mb0 hf
  refine my_gR hx hb hts hown hK hJ fd_RX7_71 hv_7_18 e60 dX7_speedCross_86 ?_
  refine lv_lconst (v := 0) hx hb dX7_speedCross_89 (by decide) ?_
  refine lv_lconst (v := 0) hx hb dX7_speedCross_90 (by decide) ?_
  obtain ⟨i61, e62, hf⟩ := mb0 hf
  obtain ⟨σ63, e64, hf⟩ := mb0 hf
  refine mx_callV (As := [.long (0 : Int64), .long (0 : Int64)]) (rest := []) hx hb hml hts hown hK hJ rfl rfl (ci := 0) rfl e62 (c_X0_keep l G P b59 (0 : Int64) (0 : Int64) σ57 σ63 e64) me_X0_keep kw_480 kw_481 kw_479 (Nat.le_of_ble_eq_true rfl) (Nat.le_of_ble_eq_true rfl) rfl hl.1 rfl (Nat.le_of_ble_eq_true rfl) dX7_speedCross_91 (fun H locs hJ => ?_)
  refine lv_aload_n hx hb dX7_speedCross_94 rfl (lv_at hl 0 rfl) ?_
  obtain ⟨b65, e66, hf⟩ := mb0 hf
  refine my_gR hx hb hts hown hK hJ fd_RX7_71 hv_7_18 e66 dX7_speedCross_95 ?_
  refine lv_iconst (v := 1) hx hb dX7_speedCross_98 (by decide) ?_
  refine lv_aload_n hx hb dX7_speedCross_99 rfl (lv_at hl 0 rfl) ?_
  obtain ⟨b67, e68, hf⟩ := mb0 hf
  refine my_gR hx hb hts hown hK hJ fd_RX7_48 hv_7_11 e68 dX7_speedCross_100 ?_
  obtain ⟨b69, e70, hf⟩ := mb0 hf
  refine my_gR hx hb hts hown hK hJ fd_RX7_30 hv_8_0 e70 dX7_speedCross_103 ?_
  refine lv_aload_n hx hb dX7_speedCross_106 rfl (lv_at hl 0 rfl) ?_
  obtain ⟨b71, e72, hf⟩ := mb0 hf
  refine my_gR hx hb hts hown hK hJ fd_RX7_68 hv_7_17 e72 dX7_speedCross_107 ?_
  obtain ⟨i73, e74, hf⟩ := mb0 hf
  obtain ⟨σ75, e76, hf⟩ := mb0 hf
  refine mx_callV (As := [.int (1 : Int32), .ref b69, .ref b71]) (rest := []) hx hb hml hts hown hK hJ rfl rfl (ci := 0) rfl e74 (c_X0_addProduct l G P b65 (1 : Int32) b69 b71 σ63 σ75 e76) me_X0_addProduct kw_705 kw_706 kw_764 (Nat.le_of_ble_eq_true rfl) (Nat.le_of_ble_eq_true rfl) rfl hl.1 rfl (Nat.le_of_ble_eq_true rfl) dX7_speedCross_110 (fun H locs hJ => ?_)
  refine lv_aload_n hx hb dX7_speedCross_113 rfl (lv_at hl 0 rfl) ?_
  obtain ⟨b77, e78, hf⟩ := mb0 hf
  refine my_gR hx hb hts hown hK hJ fd_RX7_71 hv_7_18 e78 dX7_speedCross_114 ?_
  refine lv_iconst (v := (-1)) hx hb dX7_speedCross_117 (by decide) ?_
  refine lv_aload_n hx hb dX7_speedCross_118 rfl (lv_at hl 0 rfl) ?_
  obtain ⟨b79, e80, hf⟩ := mb0 hf
  refine my_gR hx hb hts hown hK hJ fd_RX7_52 hv_7_12 e80 dX7_speedCross_119 ?_
  obtain ⟨b81, e82, hf⟩ := mb0 hf
  refine my_gR hx hb hts hown hK hJ fd_RX7_30 hv_8_0 e82 dX7_speedCross_122 ?_
  refine lv_aload_n hx hb dX7_speedCross_125 rfl (lv_at hl 0 rfl) ?_
  obtain ⟨b83, e84, hf⟩ := mb0 hf
  refine my_gR hx hb hts hown hK hJ fd_RX7_65 hv_7_16 e84 dX7_speedCross_126 ?_
  obtain ⟨i85, e86, hf⟩ := mb0 hf
  obtain ⟨σ87, e88, hf⟩ := mb0 hf
  refine mx_callV (As := [.int (-1 : Int32), .ref b81, .ref b83]) (rest := []) hx hb hml hts hown hK hJ rfl rfl (ci := 0) rfl e86 (c_X0_addProduct l G P b77 (-1 : Int32) b81 b83 σ75 σ87 e88) me_X0_addProduct kw_705 kw_706 kw_764 (Nat.le_of_ble_eq_true rfl) (Nat.le_of_ble_eq_true rfl) rfl hl.1 rfl (Nat.le_of_ble_eq_true rfl) dX7_speedCross_129 (fun H locs hJ => ?_)
  refine lv_aload_n hx hb dX7_speedCross_132 rfl (lv_at hl 1 rfl) ?_
  obtain ⟨b89, e90, hf⟩ := mb0 hf
  refine my_gR hx hb hts hown hK hJ fd_RX7_363 hv_5_14 e90 dX7_speedCross_133 ?_
  obtain ⟨b91, e92, hf⟩ := mb0 hf
  refine my_gR hx hb hts hown hK hJ fd_RX7_30 hv_8_0 e92 dX7_speedCross_136 ?_
  refine lv_aload_n hx hb dX7_speedCross_139 rfl (lv_at hl 0 rfl) ?_
  obtain ⟨b93, e94, hf⟩ := mb0 hf
  refine my_gR hx hb hts hown hK hJ fd_RX7_71 hv_7_18 e94 dX7_speedCross_140 ?_
  refine lv_aload_n hx hb dX7_speedCross_143 rfl (lv_at hl 0 rfl) ?_
  obtain ⟨b95, e96, hf⟩ := mb0 hf
  refine my_gR hx hb hts hown hK hJ fd_RX7_62 hv_7_15 e96 dX7_speedCross_144 ?_
  obtain ⟨i97, e98, hf⟩ := mb0 hf
  obtain ⟨σ99, e100, hf⟩ := mb0 hf
  refine mx_callV (As := [.ref b93, .ref b95]) (rest := []) hx hb hml hts hown hK hJ rfl rfl (ci := 0) rfl e98 (c_X0_quotient l G P b91 b93 b95 σ87 σ99 e100) me_X0_quotient kw_759 kw_760 kw_758 (Nat.le_of_ble_eq_true rfl) (Nat.le_of_ble_eq_true rfl) rfl hl.1 rfl (Nat.le_of_ble_eq_true rfl) dX7_speedCross_147 (fun H locs hJ => ?_)
  refine lv_aload_n hx hb dX7_speedCross_150 rfl (lv_at hl 0 rfl) ?_
  obtain ⟨b101, e102, hf⟩ := mb0 hf
  refine my_gR hx hb hts hown hK hJ fd_RX7_71 hv_7_18 e102 dX7_speedCross_151 ?_
  refine lv_lconst (v := 0) hx hb dX7_speedCross_154 (by decide) ?_
  refine lv_lconst (v := 0) hx hb dX7_speedCross_155 (by decide) ?_
  obtain ⟨i103, e104, hf⟩ := mb0 hf
  obtain ⟨σ105, e106, hf⟩ := mb0 hf
  refine mx_callV (As := [.long (0 : Int64), .long (0 : Int64)]) (rest := []) hx hb hml hts hown hK hJ rfl rfl (ci := 0) rfl e104 (c_X0_keep l G P b101 (0 : Int64) (0 : Int64) σ99 σ105 e106) me_X0_keep kw_480 kw_481 kw_479 (Nat.le_of_ble_eq_true rfl) (Nat.le_of_ble_eq_true rfl) rfl hl.1 rfl (Nat.le_of_ble_eq_true rfl) dX7_speedCross_156 (fun H locs hJ => ?_)
  refine lv_aload_n hx hb dX7_speedCross_159 rfl (lv_at hl 0 rfl) ?_
  obtain ⟨b107, e108, hf⟩ := mb0 hf
  refine my_gR hx hb hts hown hK hJ fd_RX7_71 hv_7_18 e108 dX7_speedCross_160 ?_
  refine lv_iconst (v := 1) hx hb dX7_speedCross_163 (by decide) ?_
  refine lv_aload_n hx hb dX7_speedCross_164 rfl (lv_at hl 0 rfl) ?_
  obtain ⟨b109, e110, hf⟩ := mb0 hf
  refine my_gR hx hb hts hown hK hJ fd_RX7_48 hv_7_11 e110 dX7_speedCross_165 ?_
  obtain ⟨b111, e112, hf⟩ := mb0 hf
  refine my_gR hx hb hts hown hK hJ fd_RX7_241 hv_8_1 e112 dX7_speedCross_168 ?_
  refine lv_aload_n hx hb dX7_speedCross_171 rfl (lv_at hl 0 rfl) ?_
  obtain ⟨b113, e114, hf⟩ := mb0 hf
  refine my_gR hx hb hts hown hK hJ fd_RX7_68 hv_7_17 e114 dX7_speedCross_172 ?_
  obtain ⟨i115, e116, hf⟩ := mb0 hf
  obtain ⟨σ117, e118, hf⟩ := mb0 hf
  refine mx_callV (As := [.int (1 : Int32), .ref b111, .ref b113]) (rest := []) hx hb hml hts hown hK hJ rfl rfl (ci := 0) rfl e116 (c_X0_addProduct l G P b107 (1 : Int32) b111 b113 σ105 σ117 e118) me_X0_addProduct kw_705 kw_706 kw_764 (Nat.le_of_ble_eq_true rfl) (Nat.le_of_ble_eq_true rfl) rfl hl.1 rfl (Nat.le_of_ble_eq_true rfl) dX7_speedCross_175 (fun H locs hJ => ?_)
  refine lv_aload_n hx hb dX7_speedCross_178 rfl (lv_at hl 0 rfl) ?_
  obtain ⟨b119, e120, hf⟩ := mb0 hf
  refine my_gR hx hb hts hown hK hJ fd_RX7_71 hv_7_18 e120 dX7_speedCross_179 ?_
  refine lv_iconst (v := (-1)) hx hb dX7_speedCross_182 (by decide) ?_
  refine lv_aload_n hx hb dX7_speedCross_183 rfl (lv_at hl 0 rfl) ?_
  obtain ⟨b121, e122, hf⟩ := mb0 hf
  refine my_gR hx hb hts hown hK hJ fd_RX7_52 hv_7_12 e122 dX7_speedCross_184 ?_
  obtain ⟨b123, e124, hf⟩ := mb0 hf
  refine my_gR hx hb hts hown hK hJ fd_RX7_241 hv_8_1 e124 dX7_speedCross_187 ?_
  refine lv_aload_n hx hb dX7_speedCross_190 rfl (lv_at hl 0 rfl) ?_
  obtain ⟨b125, e126, hf⟩ := mb0 hf
  refine my_gR hx hb hts hown hK hJ fd_RX7_65 hv_7_16 e126 dX7_speedCross_191 ?_
  obtain ⟨i127, e128, hf⟩ := mb0 hf
  obtain ⟨σ129, e130, hf⟩ := mb0 hf
  refine mx_callV (As := [.int (-1 : Int32), .ref b123, .ref b125]) (rest := []) hx hb hml hts hown hK hJ rfl rfl (ci := 0) rfl e128 (c_X0_addProduct l G P b119 (-1 : Int32) b123 b125 σ117 σ129 e130) me_X0_addProduct kw_705 kw_706 kw_764 (Nat.le_of_ble_eq_true rfl) (Nat.le_of_ble_eq_true rfl) rfl hl.1 rfl (Nat.le_of_ble_eq_true rfl) dX7_speedCross_194 (fun H locs hJ => ?_)
  refine lv_aload_n hx hb dX7_speedCross_197 rfl (lv_at hl 1 rfl) ?_
  obtain ⟨b131, e132, hf⟩ := mb0 hf
  refine my_gR hx hb hts hown hK hJ fd_RX7_363 hv_5_14 e132 dX7_speedCross_198 ?_
  obtain ⟨b133, e134, hf⟩ := mb0 hf
  refine my_gR hx hb hts hown hK hJ fd_RX7_241 hv_8_1 e134 dX7_speedCross_201 ?_
  refine lv_aload_n hx hb dX7_speedCross_204 rfl (lv_at hl 0 rfl) ?_
  obtain ⟨b135, e136, hf⟩ := mb0 hf
  refine my_gR hx hb hts hown hK hJ fd_RX7_71 hv_7_18 e136 dX7_speedCross_205 ?_
  refine lv_aload_n hx hb dX7_speedCross_208 rfl (lv_at hl 0 rfl) ?_
  obtain ⟨b137, e138, hf⟩ := mb0 hf
  refine my_gR hx hb hts hown hK hJ fd_RX7_62 hv_7_15 e138 dX7_speedCross_209 ?_
  obtain ⟨i139, e140, hf⟩ := mb0 hf
  obtain ⟨σ141, e142, hf⟩ := mb0 hf
  refine mx_callV (As := [.ref b135, .ref b137]) (rest := []) hx hb hml hts hown hK hJ rfl rfl (ci := 0) rfl e140 (c_X0_quotient l G P b133 b135 b137 σ129 σ141 e142) me_X0_quotient kw_759 kw_760 kw_758 (Nat.le_of_ble_eq_true rfl) (Nat.le_of_ble_eq_true rfl) rfl hl.1 rfl (Nat.le_of_ble_eq_true rfl) dX7_speedCross_212 (fun H locs hJ => ?_)
  exact my_vret hx hb hr hlocks hJ hf dX7_speedCross_215
set_option maxHeartbeats 4000000 in
set_option maxRecDepth 100000 in
theorem c_X7_reckonSpeeds (l : Launch) (G : mx_G) (P : mx_P) (a0 : Nat) (p1 : Int32) (σ : mx_S) (σ' : mx_S) (hf : f_X7_reckonSpeeds P a0 p1 σ = some σ') : mxz σ ≤ mpc P → mxu σ ≤ mps P → mx_M l yX7_reckonSpeeds cX7_reckonSpeeds 4 none 5 128 G P [.ref a0, .int p1] σ none σ' := by
  intro hcap hcau
  refine mx_ofW (by decide +kernel) hcap hcau (Nat.le_of_ble_eq_true rfl) ?_
  intro p e s m below meth c hx hb hr hml hts hown hlocks hname hK hJ ls hl
  have hz0 := hJ.2.1
  have hown : s.vm.findClass RX7 = some m.cls := hown
  have hl : lv_has ls 4 [(0, .ref a0), (1, .int p1)] := hl
  have D157_2 : ∀ (v0 : Nat) (v1 : Int32) (v2 : Int32) (τ : mx_S) (o : (Int32 × mx_S) ⊕ ((mx_S))), f_X7_reckonSpeeds_D157_2 P v0 v1 v2 τ = some o → (∀ (y2 : Int32) (υ : mx_S), o = .inl (y2, υ) → ∀ (H : Heap) (locs : List Loc), mx_J G P s.heap (mxz σ) (mxu σ) υ H locs → ∀ ls : Array Slot, lv_has ls 4 [(0, .ref v0), (1, .int v1), (2, .int y2)] → W p l e (mx_rm P 5 128 σ) s m ([.ref a0, .int p1] : List Value).toArray below meth c H locs (mxz υ - mxz σ) (mxu υ - mxu σ) (mx_Z below G P none σ σ' [.ref a0, .int p1] s) (F0 m 2 ls [])) → (∀  (υ : mx_S), o = .inr υ → ∀ (H : Heap) (locs : List Loc), mx_J G P s.heap (mxz σ) (mxu σ) υ H locs → ∀ ls : Array Slot, lv_has ls 4 [] → W p l e (mx_rm P 5 128 σ) s m ([.ref a0, .int p1] : List Value).toArray below meth c H locs (mxz υ - mxz σ) (mxu υ - mxu σ) (mx_Z below G P none σ σ' [.ref a0, .int p1] s) (F0 m 163 ls [])) → ∀ (H : Heap) (locs : List Loc), mx_J G P s.heap (mxz σ) (mxu σ) τ H locs → ∀ ls : Array Slot, lv_has ls 4 [(0, .ref v0), (1, .int v1), (2, .int v2)] → W p l e (mx_rm P 5 128 σ) s m ([.ref a0, .int p1] : List Value).toArray below meth c H locs (mxz τ - mxz σ) (mxu τ - mxu σ) (mx_Z below G P none σ σ' [.ref a0, .int p1] s) (F0 m 157 ls []) := by
    intro v0 v1 v2 τ o hf Kb Ke0 H locs hJ ls hl
    unfold f_X7_reckonSpeeds_D157_2 at hf
    obtain ⟨x27, e28, hf⟩ := mb0 hf
    refine lv_iinc (v := x27) (lv' := [(2, .int x27), (0, .ref v0), (1, .int v1)]) hx hb dX7_reckonSpeeds_157 hl (k := 2) rfl (by rw [← Option.some.inj e28]; rfl) (by decide) rfl (fun ls hl => ?_)
    refine lv_goto (tgt := 2) hx hb dX7_reckonSpeeds_160 (by decide) ?_
    exact Kb x27 τ (Option.some.inj hf).symm _ _ hJ ls (lv_sub hl [1, 2, 0] rfl)
  have D140_2 : ∀ (v0 : Nat) (v1 : Int32) (v2 : Int32) (v3 : Nat) (τ : mx_S) (o : (Int32 × mx_S) ⊕ ((mx_S))), f_X7_reckonSpeeds_D140_2 P v0 v1 v2 v3 τ = some o → (∀ (y2 : Int32) (υ : mx_S), o = .inl (y2, υ) → ∀ (H : Heap) (locs : List Loc), mx_J G P s.heap (mxz σ) (mxu σ) υ H locs → ∀ ls : Array Slot, lv_has ls 4 [(0, .ref v0), (1, .int v1), (2, .int y2)] → W p l e (mx_rm P 5 128 σ) s m ([.ref a0, .int p1] : List Value).toArray below meth c H locs (mxz υ - mxz σ) (mxu υ - mxu σ) (mx_Z below G P none σ σ' [.ref a0, .int p1] s) (F0 m 2 ls [])) → (∀  (υ : mx_S), o = .inr υ → ∀ (H : Heap) (locs : List Loc), mx_J G P s.heap (mxz σ) (mxu σ) υ H locs → ∀ ls : Array Slot, lv_has ls 4 [] → W p l e (mx_rm P 5 128 σ) s m ([.ref a0, .int p1] : List Value).toArray below meth c H locs (mxz υ - mxz σ) (mxu υ - mxu σ) (mx_Z below G P none σ σ' [.ref a0, .int p1] s) (F0 m 163 ls [])) → ∀ (H : Heap) (locs : List Loc), mx_J G P s.heap (mxz σ) (mxu σ) τ H locs → ∀ ls : Array Slot, lv_has ls 4 [(0, .ref v0), (1, .int v1), (2, .int v2), (3, .ref v3)] → W p l e (mx_rm P 5 128 σ) s m ([.ref a0, .int p1] : List Value).toArray below meth c H locs (mxz τ - mxz σ) (mxu τ - mxu σ) (mx_Z below G P none σ σ' [.ref a0, .int p1] s) (F0 m 140 ls []) := by
    intro v0 v1 v2 v3 τ o hf Kb Ke0 H locs hJ ls hl
    unfold f_X7_reckonSpeeds_D140_2 at hf
    refine lv_aload_n hx hb dX7_reckonSpeeds_140 rfl (lv_at hl 3 rfl) ?_
    obtain ⟨b19, e20, hf⟩ := mb0 hf
    refine my_gR hx hb hts hown hK hJ fd_RX7_363 hv_5_14 e20 dX7_reckonSpeeds_141 ?_
    obtain ⟨i21, e22, hf⟩ := mb0 hf
    obtain ⟨x24, σ23, e25, hf⟩ := mc0 hf
    refine mx_callV (As := []) (rest := []) hx hb hml hts hown hK hJ rfl rfl (ci := 8) rfl e22 (c_X8_isOpen l G P b19 τ x24 σ23 e25) me_X8_isOpen kw_722 kw_723 kw_721 (Nat.le_of_ble_eq_true rfl) (Nat.le_of_ble_eq_true rfl) rfl hl.1 rfl (Nat.le_of_ble_eq_true rfl) dX7_reckonSpeeds_144 (fun H locs hJ => ?_)
    refine lv_if_eq (tgt := 157) hx hb dX7_reckonSpeeds_147 (by decide) (fun c26 => ?_) (fun c26 => ?_)
    · rw [if_pos c26] at hf
      exact D157_2 v0 v1 v2 σ23 o hf Kb Ke0 _ _ hJ ls (lv_sub hl [0, 1, 2] rfl)
    · rw [if_neg c26] at hf
      refine lv_aload_n hx hb dX7_reckonSpeeds_150 rfl (lv_at hl 3 rfl) ?_
      obtain ⟨b29, e30, hf⟩ := mb0 hf
      refine my_gR hx hb hts hown hK hJ fd_RX7_363 hv_5_14 e30 dX7_reckonSpeeds_151 ?_
      obtain ⟨i31, e32, hf⟩ := mb0 hf
      obtain ⟨σ33, e34, hf⟩ := mb0 hf
      refine mx_callV (As := []) (rest := []) hx hb hml hts hown hK hJ rfl rfl (ci := 8) rfl e32 (c_X8_shut l G P b29 σ23 σ33 e34) me_X8_shut kw_667 kw_668 kw_666 (Nat.le_of_ble_eq_true rfl) (Nat.le_of_ble_eq_true rfl) rfl hl.1 rfl (Nat.le_of_ble_eq_true rfl) dX7_reckonSpeeds_154 (fun H locs hJ => ?_)
      exact D157_2 v0 v1 v2 σ33 o hf Kb Ke0 _ _ hJ ls (lv_sub hl [0, 1, 2] rfl)
  have B2 : ∀ (v0 : Nat) (v1 : Int32) (v2 : Int32) (τ : mx_S) (o : (Int32 × mx_S) ⊕ ((mx_S))), f_X7_reckonSpeeds_B2 P v0 v1 v2 τ = some o → (∀ (y2 : Int32) (υ : mx_S), o = .inl (y2, υ) → ∀ (H : Heap) (locs : List Loc), mx_J G P s.heap (mxz σ) (mxu σ) υ H locs → ∀ ls : Array Slot, lv_has ls 4 [(0, .ref v0), (1, .int v1), (2, .int y2)] → W p l e (mx_rm P 5 128 σ) s m ([.ref a0, .int p1] : List Value).toArray below meth c H locs (mxz υ - mxz σ) (mxu υ - mxu σ) (mx_Z below G P none σ σ' [.ref a0, .int p1] s) (F0 m 2 ls [])) → (∀  (υ : mx_S), o = .inr υ → ∀ (H : Heap) (locs : List Loc), mx_J G P s.heap (mxz σ) (mxu σ) υ H locs → ∀ ls : Array Slot, lv_has ls 4 [] → W p l e (mx_rm P 5 128 σ) s m ([.ref a0, .int p1] : List Value).toArray below meth c H locs (mxz υ - mxz σ) (mxu υ - mxu σ) (mx_Z below G P none σ σ' [.ref a0, .int p1] s) (F0 m 163 ls [])) → ∀ (H : Heap) (locs : List Loc), mx_J G P s.heap (mxz σ) (mxu σ) τ H locs → ∀ ls : Array Slot, lv_has ls 4 [(0, .ref v0), (1, .int v1), (2, .int v2)] → W p l e (mx_rm P 5 128 σ) s m ([.ref a0, .int p1] : List Value).toArray below meth c H locs (mxz τ - mxz σ) (mxu τ - mxu σ) (mx_Z below G P none σ σ' [.ref a0, .int p1] s) (F0 m 2 ls []) := by
    intro v0 v1 v2 τ o hf Kb Ke0 H locs hJ ls hl
    unfold f_X7_reckonSpeeds_B2 at hf
    refine lv_iload_n hx hb dX7_reckonSpeeds_2 rfl (lv_at hl 2 rfl) ?_
    refine lv_aload_n hx hb dX7_reckonSpeeds_3 rfl (lv_at hl 0 rfl) ?_
    obtain ⟨x1, e2, hf⟩ := mb0 hf
    refine my_gI hx hb hts hown hK hJ fd_RX7_77 hv_7_2 e2 dX7_reckonSpeeds_4 ?_
    refine lv_icmp_ge (tgt := 163) hx hb dX7_reckonSpeeds_7 (by decide) (fun c3 => ?_) (fun c3 => ?_)
    · rw [if_pos c3] at hf
      exact Ke0 τ (Option.some.inj hf).symm _ _ hJ ls (lv_sub hl [] rfl)
    · rw [if_neg c3] at hf
      refine lv_aload_n hx hb dX7_reckonSpeeds_10 rfl (lv_at hl 0 rfl) ?_
      obtain ⟨b4, e5, hf⟩ := mb0 hf
      refine my_gR hx hb hts hown hK hJ fd_RX7_11 hv_7_0 e5 dX7_reckonSpeeds_11 ?_
      refine lv_aload_n hx hb dX7_reckonSpeeds_14 rfl (lv_at hl 0 rfl) ?_
      obtain ⟨b6, e7, hf⟩ := mb0 hf
      refine my_gR hx hb hts hown hK hJ fd_RX7_16 hv_7_1 e7 dX7_reckonSpeeds_15 ?_
      refine lv_iload_n hx hb dX7_reckonSpeeds_18 rfl (lv_at hl 2 rfl) ?_
      obtain ⟨x8, e9, hf⟩ := mb0 hf
      refine mx_aI hx hb hK hJ e9 dX7_reckonSpeeds_19 ?_
      obtain ⟨b10, e11, hf⟩ := mb0 hf
      refine mx_aR hx hb hK hJ (t := 4) rfl (fun _ _ _ => rfl) e11 dX7_reckonSpeeds_20 ?_
      refine lv_astore_n (lv' := [(3, .ref b10), (0, .ref v0), (1, .int v1), (2, .int v2)]) hx hb dX7_reckonSpeeds_21 rfl hl (by decide) rfl (fun ls hl => ?_)
      refine lv_aload_n hx hb dX7_reckonSpeeds_22 rfl (lv_at hl 0 rfl) ?_
      obtain ⟨x12, e13, hf⟩ := mb0 hf
      refine my_gI hx hb hts hown hK hJ fd_RX7_203 hv_5_1 e13 dX7_reckonSpeeds_23 ?_
      by_cases c14 : x12 = (1 : Int32)
      · rw [if_pos c14] at hf
        refine lv_tableIn (tgt := 60) (off := 34) hx hb dX7_reckonSpeeds_26 (by rw [c14] <;> decide) (by rw [c14] <;> decide) (by rw [c14] <;> decide) (by decide) ?_
        refine lv_aload_n hx hb dX7_reckonSpeeds_60 rfl (lv_at hl 1 rfl) ?_
        refine lv_aload_n hx hb dX7_reckonSpeeds_61 rfl (lv_at hl 0 rfl) ?_
        refine lv_iload_n hx hb dX7_reckonSpeeds_62 rfl (lv_at hl 2 rfl) ?_
        obtain ⟨i15, e16, hf⟩ := mb0 hf
        obtain ⟨σ17, e18, hf⟩ := mb0 hf
        refine mx_callV (As := [.ref b10, .int v1]) (rest := []) hx hb hml hts hown hK hJ rfl rfl (ci := 7) rfl e16 (c_X7_speedCrank l G P v0 b10 v1 τ σ17 e18) me_X7_speedCrank kw_1363 ks_41 kw_1361 (Nat.le_of_ble_eq_true rfl) (Nat.le_of_ble_eq_true rfl) rfl hl.1 rfl (Nat.le_of_ble_eq_true rfl) dX7_reckonSpeeds_63 (fun H locs hJ => ?_)
        refine lv_goto (tgt := 140) hx hb dX7_reckonSpeeds_66 (by decide) ?_
        exact D140_2 v0 v1 v2 b10 σ17 o hf Kb Ke0 _ _ hJ ls (lv_sub hl [1, 2, 3, 0] rfl)
      rw [if_neg c14] at hf
      by_cases c35 : x12 = (2 : Int32)
      · rw [if_pos c35] at hf
        refine lv_tableIn (tgt := 69) (off := 43) hx hb dX7_reckonSpeeds_26 (by rw [c35] <;> decide) (by rw [c35] <;> decide) (by rw [c35] <;> decide) (by decide) ?_
        refine lv_aload_n hx hb dX7_reckonSpeeds_69 rfl (lv_at hl 1 rfl) ?_
        refine lv_aload_n hx hb dX7_reckonSpeeds_70 rfl (lv_at hl 0 rfl) ?_
        obtain ⟨i36, e37, hf⟩ := mb0 hf
        obtain ⟨σ38, e39, hf⟩ := mb0 hf
        refine mx_callV (As := [.ref b10]) (rest := []) hx hb hml hts hown hK hJ rfl rfl (ci := 7) rfl e37 (c_X7_speedDyad l G P v0 b10 τ σ38 e39) me_X7_speedDyad kw_1367 ks_42 kw_1365 (Nat.le_of_ble_eq_true rfl) (Nat.le_of_ble_eq_true rfl) rfl hl.1 rfl (Nat.le_of_ble_eq_true rfl) dX7_reckonSpeeds_71 (fun H locs hJ => ?_)
        refine lv_goto (tgt := 140) hx hb dX7_reckonSpeeds_74 (by decide) ?_
        exact D140_2 v0 v1 v2 b10 σ38 o hf Kb Ke0 _ _ hJ ls (lv_sub hl [1, 2, 3, 0] rfl)
      rw [if_neg c35] at hf
      by_cases c40 : x12 = (3 : Int32)
      · rw [if_pos c40] at hf
        refine lv_tableIn (tgt := 77) (off := 51) hx hb dX7_reckonSpeeds_26 (by rw [c40] <;> decide) (by rw [c40] <;> decide) (by rw [c40] <;> decide) (by decide) ?_
        refine lv_aload_n hx hb dX7_reckonSpeeds_77 rfl (lv_at hl 1 rfl) ?_
        refine lv_aload_n hx hb dX7_reckonSpeeds_78 rfl (lv_at hl 0 rfl) ?_
        obtain ⟨i41, e42, hf⟩ := mb0 hf
        obtain ⟨σ43, e44, hf⟩ := mb0 hf
        refine mx_callV (As := [.ref b10]) (rest := []) hx hb hml hts hown hK hJ rfl rfl (ci := 7) rfl e42 (c_X7_speedSlide l G P v0 b10 τ σ43 e44) me_X7_speedSlide kw_1375 ks_44 kw_1373 (Nat.le_of_ble_eq_true rfl) (Nat.le_of_ble_eq_true rfl) rfl hl.1 rfl (Nat.le_of_ble_eq_true rfl) dX7_reckonSpeeds_79 (fun H locs hJ => ?_)
        refine lv_goto (tgt := 140) hx hb dX7_reckonSpeeds_82 (by decide) ?_
        exact D140_2 v0 v1 v2 b10 σ43 o hf Kb Ke0 _ _ hJ ls (lv_sub hl [1, 2, 3, 0] rfl)
      rw [if_neg c40] at hf
      by_cases c45 : x12 = (4 : Int32)
      · rw [if_pos c45] at hf
        refine lv_tableIn (tgt := 85) (off := 59) hx hb dX7_reckonSpeeds_26 (by rw [c45] <;> decide) (by rw [c45] <;> decide) (by rw [c45] <;> decide) (by decide) ?_
        refine lv_aload_n hx hb dX7_reckonSpeeds_85 rfl (lv_at hl 1 rfl) ?_
        refine lv_aload_n hx hb dX7_reckonSpeeds_86 rfl (lv_at hl 0 rfl) ?_
        refine lv_aload_n hx hb dX7_reckonSpeeds_87 rfl (lv_at hl 0 rfl) ?_
        obtain ⟨b46, e47, hf⟩ := mb0 hf
        refine my_gR hx hb hts hown hK hJ fd_RX7_363 hv_5_14 e47 dX7_reckonSpeeds_88 ?_
        refine lv_aload_n hx hb dX7_reckonSpeeds_91 rfl (lv_at hl 1 rfl) ?_
        obtain ⟨b48, e49, hf⟩ := mb0 hf
        refine my_gR hx hb hts hown hK hJ fd_RX7_11 hv_7_0 e49 dX7_reckonSpeeds_92 ?_
        refine lv_aload_n hx hb dX7_reckonSpeeds_95 rfl (lv_at hl 0 rfl) ?_
        obtain ⟨b50, e51, hf⟩ := mb0 hf
        refine my_gR hx hb hts hown hK hJ fd_RX7_167 hv_5_2 e51 dX7_reckonSpeeds_96 ?_
        refine lv_iconst (v := 0) hx hb dX7_reckonSpeeds_99 (by decide) ?_
        obtain ⟨x52, e53, hf⟩ := mb0 hf
        refine mx_aI hx hb hK hJ e53 dX7_reckonSpeeds_100 ?_
        obtain ⟨b54, e55, hf⟩ := mb0 hf
        refine mx_aR hx hb hK hJ (t := 4) rfl (fun _ _ _ => rfl) e55 dX7_reckonSpeeds_101 ?_
        obtain ⟨b56, e57, hf⟩ := mb0 hf
        refine my_gR hx hb hts hown hK hJ fd_RX7_363 hv_5_14 e57 dX7_reckonSpeeds_102 ?_
        refine lv_aload_n hx hb dX7_reckonSpeeds_105 rfl (lv_at hl 1 rfl) ?_
        obtain ⟨b58, e59, hf⟩ := mb0 hf
        refine my_gR hx hb hts hown hK hJ fd_RX7_11 hv_7_0 e59 dX7_reckonSpeeds_106 ?_
        refine lv_aload_n hx hb dX7_reckonSpeeds_109 rfl (lv_at hl 0 rfl) ?_
        obtain ⟨b60, e61, hf⟩ := mb0 hf
        refine my_gR hx hb hts hown hK hJ fd_RX7_167 hv_5_2 e61 dX7_reckonSpeeds_110 ?_
        refine lv_iconst (v := 1) hx hb dX7_reckonSpeeds_113 (by decide) ?_
        obtain ⟨x62, e63, hf⟩ := mb0 hf
        refine mx_aI hx hb hK hJ e63 dX7_reckonSpeeds_114 ?_
        obtain ⟨b64, e65, hf⟩ := mb0 hf
        refine mx_aR hx hb hK hJ (t := 4) rfl (fun _ _ _ => rfl) e65 dX7_reckonSpeeds_115 ?_
        obtain ⟨b66, e67, hf⟩ := mb0 hf
        refine my_gR hx hb hts hown hK hJ fd_RX7_363 hv_5_14 e67 dX7_reckonSpeeds_116 ?_
        obtain ⟨i68, e69, hf⟩ := mb0 hf
        obtain ⟨σ70, e71, hf⟩ := mb0 hf
        refine mx_callV (As := [.ref b10, .ref b46, .ref b56, .ref b66]) (rest := []) hx hb hml hts hown hK hJ rfl rfl (ci := 7) rfl e69 (c_X7_span l G P v0 b10 b46 b56 b66 τ σ70 e71) me_X7_span kw_795 ks_7 kw_793 (Nat.le_of_ble_eq_true rfl) (Nat.le_of_ble_eq_true rfl) rfl hl.1 rfl (Nat.le_of_ble_eq_true rfl) dX7_reckonSpeeds_119 (fun H locs hJ => ?_)
        refine lv_goto (tgt := 140) hx hb dX7_reckonSpeeds_122 (by decide) ?_
        exact D140_2 v0 v1 v2 b10 σ70 o hf Kb Ke0 _ _ hJ ls (lv_sub hl [1, 2, 3, 0] rfl)
      rw [if_neg c45] at hf
      by_cases c72 : x12 = (5 : Int32)
      · rw [if_pos c72] at hf
        refine lv_tableIn (tgt := 125) (off := 99) hx hb dX7_reckonSpeeds_26 (by rw [c72] <;> decide) (by rw [c72] <;> decide) (by rw [c72] <;> decide) (by decide) ?_
        refine lv_aload_n hx hb dX7_reckonSpeeds_125 rfl (lv_at hl 1 rfl) ?_
        refine lv_aload_n hx hb dX7_reckonSpeeds_126 rfl (lv_at hl 0 rfl) ?_
        obtain ⟨i73, e74, hf⟩ := mb0 hf
        obtain ⟨σ75, e76, hf⟩ := mb0 hf
        refine mx_callV (As := [.ref b10]) (rest := []) hx hb hml hts hown hK hJ rfl rfl (ci := 7) rfl e74 (c_X7_speedCross l G P v0 b10 τ σ75 e76) me_X7_speedCross kw_1383 ks_46 kw_1381 (Nat.le_of_ble_eq_true rfl) (Nat.le_of_ble_eq_true rfl) rfl hl.1 rfl (Nat.le_of_ble_eq_true rfl) dX7_reckonSpeeds_127 (fun H locs hJ => ?_)
        refine lv_goto (tgt := 140) hx hb dX7_reckonSpeeds_130 (by decide) ?_
        exact D140_2 v0 v1 v2 b10 σ75 o hf Kb Ke0 _ _ hJ ls (lv_sub hl [1, 2, 3, 0] rfl)
      rw [if_neg c72] at hf
      refine lv_tableOut (tgt := 133) hx hb dX7_reckonSpeeds_26 (by have := lv_neT (a := (1)) c14 (by decide); have := lv_neT (a := (2)) c35 (by decide); have := lv_neT (a := (3)) c40 (by decide); have := lv_neT (a := (4)) c45 (by decide); have := lv_neT (a := (5)) c72 (by decide); omega) (by decide) ?_
      refine lv_aload_n hx hb dX7_reckonSpeeds_133 rfl (lv_at hl 0 rfl) ?_
      obtain ⟨b77, e78, hf⟩ := mb0 hf
      refine my_gR hx hb hts hown hK hJ fd_RX7_363 hv_5_14 e78 dX7_reckonSpeeds_134 ?_
      obtain ⟨i79, e80, hf⟩ := mb0 hf
      obtain ⟨σ81, e82, hf⟩ := mb0 hf
      refine mx_callV (As := []) (rest := []) hx hb hml hts hown hK hJ rfl rfl (ci := 8) rfl e80 (c_X8_zero l G P b77 τ σ81 e82) me_X8_zero kw_693 kw_694 kw_692 (Nat.le_of_ble_eq_true rfl) (Nat.le_of_ble_eq_true rfl) rfl hl.1 rfl (Nat.le_of_ble_eq_true rfl) dX7_reckonSpeeds_137 (fun H locs hJ => ?_)
      exact D140_2 v0 v1 v2 b10 σ81 o hf Kb Ke0 _ _ hJ ls (lv_sub hl [1, 2, 3, 0] rfl)
  have L2 : ∀ (v0 : Nat) (v1 : Int32) (n : Nat) (v2 : Int32) (τ : mx_S) (o : (mx_S)), mx_lp (f_X7_reckonSpeeds_L2 P v0 v1) n (v2, τ) = some o → (∀  (υ : mx_S), o = υ → ∀ (H : Heap) (locs : List Loc), mx_J G P s.heap (mxz σ) (mxu σ) υ H locs → ∀ ls : Array Slot, lv_has ls 4 [] → W p l e (mx_rm P 5 128 σ) s m ([.ref a0, .int p1] : List Value).toArray below meth c H locs (mxz υ - mxz σ) (mxu υ - mxu σ) (mx_Z below G P none σ σ' [.ref a0, .int p1] s) (F0 m 163 ls [])) → ∀ (H : Heap) (locs : List Loc), mx_J G P s.heap (mxz σ) (mxu σ) τ H locs → ∀ ls : Array Slot, lv_has ls 4 [(0, .ref v0), (1, .int v1), (2, .int v2)] → W p l e (mx_rm P 5 128 σ) s m ([.ref a0, .int p1] : List Value).toArray below meth c H locs (mxz τ - mxz σ) (mxu τ - mxu σ) (mx_Z below G P none σ σ' [.ref a0, .int p1] s) (F0 m 2 ls []) := by
    intro v0 v1 n
    induction n with
    | zero =>
      intro v2 τ o hf
      rw [mx_lp0] at hf
      cases hf
    | succ n ih =>
      intro v2 τ o hf Ke0 H locs hJ ls hl
      rw [mx_lpS] at hf
      obtain ⟨b, eb, hf⟩ := mb0 hf
      refine B2 v0 v1 v2 τ b eb (fun y2 υ ho H locs hJ ls hl => ?_) (fun  υ ho H locs hJ ls hl => ?_) H locs hJ ls hl
      · subst ho
        exact ih y2 υ o hf Ke0 H locs hJ ls hl
      · subst ho
        exact Ke0  υ (Option.some.inj hf).symm _ _ hJ ls hl
  unfold f_X7_reckonSpeeds at hf
  refine lv_iconst (v := 0) hx hb dX7_reckonSpeeds_0 (by decide) ?_
  refine lv_istore_n (lv' := [(2, .int (0 : Int32)), (0, .ref a0), (1, .int p1)]) hx hb dX7_reckonSpeeds_1 rfl hl (by decide) rfl (fun ls hl => ?_)
  obtain ⟨o83, e84, hf⟩ := mb0 hf
  refine L2 a0 p1 (mpN P) (0 : Int32) σ o83 e84 (fun σ85 ho H locs hJ ls hl => ?_) _ _ hJ ls (lv_sub hl [1, 2, 0] rfl)
  · rw [ho] at hf
    have hf : (some σ85) = some σ' := hf
    exact my_vret hx hb hr hlocks hJ hf dX7_reckonSpeeds_163
set_option maxHeartbeats 4000000 in
set_option maxRecDepth 100000 in
theorem c_X7_poleOf (l : Launch) (G : mx_G) (P : mx_P) (a0 : Nat) (p1 : Int32) (p2 : Int32) (σ : mx_S) (r : Nat) (σ' : mx_S) (hf : f_X7_poleOf P a0 p1 p2 σ = some (r, σ')) : mxz σ ≤ mpc P → mxu σ ≤ mps P → mx_M l yX7_poleOf cX7_poleOf 3 (some (.object "MechanismHouse$Pair")) 4 104 G P [.ref a0, .int p1, .int p2] σ (some (.ref r)) σ' := by
  intro hcap hcau
  refine mx_ofW (by decide +kernel) hcap hcau (Nat.le_of_ble_eq_true rfl) ?_
  intro p e s m below meth c hx hb hr hml hts hown hlocks hname hK hJ ls hl
  have hz0 := hJ.2.1
  have hown : s.vm.findClass RX7 = some m.cls := hown
  have hl : lv_has ls 3 [(0, .ref a0), (1, .int p1), (2, .int p2)] := hl
  unfold f_X7_poleOf at hf
  refine lv_aload_n hx hb dX7_poleOf_0 rfl (lv_at hl 0 rfl) ?_
  obtain ⟨b1, e2, hf⟩ := mb0 hf
  refine my_gR hx hb hts hown hK hJ fd_RX7_65 hv_7_16 e2 dX7_poleOf_1 ?_
  refine lv_aload_n hx hb dX7_poleOf_4 rfl (lv_at hl 0 rfl) ?_
  obtain ⟨b3, e4, hf⟩ := mb0 hf
  refine my_gR hx hb hts hown hK hJ fd_RX7_11 hv_7_0 e4 dX7_poleOf_5 ?_
  refine lv_iload_n hx hb dX7_poleOf_8 rfl (lv_at hl 1 rfl) ?_
  obtain ⟨b5, e6, hf⟩ := mb0 hf
  refine mx_aR hx hb hK hJ (t := 4) rfl (fun _ _ _ => rfl) e6 dX7_poleOf_9 ?_
  obtain ⟨b7, e8, hf⟩ := mb0 hf
  refine my_gR hx hb hts hown hK hJ fd_RX7_194 hv_5_12 e8 dX7_poleOf_10 ?_
  refine lv_aload_n hx hb dX7_poleOf_13 rfl (lv_at hl 0 rfl) ?_
  obtain ⟨b9, e10, hf⟩ := mb0 hf
  refine my_gR hx hb hts hown hK hJ fd_RX7_11 hv_7_0 e10 dX7_poleOf_14 ?_
  refine lv_iload_n hx hb dX7_poleOf_17 rfl (lv_at hl 1 rfl) ?_
  obtain ⟨b11, e12, hf⟩ := mb0 hf
  refine mx_aR hx hb hK hJ (t := 4) rfl (fun _ _ _ => rfl) e12 dX7_poleOf_18 ?_
  obtain ⟨b13, e14, hf⟩ := mb0 hf
  refine my_gR hx hb hts hown hK hJ fd_RX7_363 hv_5_14 e14 dX7_poleOf_19 ?_
  obtain ⟨i15, e16, hf⟩ := mb0 hf
  obtain ⟨σ17, e18, hf⟩ := mb0 hf
  refine mx_callV (As := [.ref b7, .ref b13]) (rest := []) hx hb hml hts hown hK hJ rfl rfl (ci := 0) rfl e16 (c_X0_dot l G P b1 b7 b13 σ σ17 e18) me_X0_dot kw_789 kw_790 kw_788 (Nat.le_of_ble_eq_true rfl) (Nat.le_of_ble_eq_true rfl) rfl hl.1 rfl (Nat.le_of_ble_eq_true rfl) dX7_poleOf_22 (fun H locs hJ => ?_)
  refine lv_aload_n hx hb dX7_poleOf_25 rfl (lv_at hl 0 rfl) ?_
  obtain ⟨b19, e20, hf⟩ := mb0 hf
  refine my_gR hx hb hts hown hK hJ fd_RX7_68 hv_7_17 e20 dX7_poleOf_26 ?_
  refine lv_aload_n hx hb dX7_poleOf_29 rfl (lv_at hl 0 rfl) ?_
  obtain ⟨b21, e22, hf⟩ := mb0 hf
  refine my_gR hx hb hts hown hK hJ fd_RX7_11 hv_7_0 e22 dX7_poleOf_30 ?_
  refine lv_iload_n hx hb dX7_poleOf_33 rfl (lv_at hl 2 rfl) ?_
  obtain ⟨b23, e24, hf⟩ := mb0 hf
  refine mx_aR hx hb hK hJ (t := 4) rfl (fun _ _ _ => rfl) e24 dX7_poleOf_34 ?_
  obtain ⟨b25, e26, hf⟩ := mb0 hf
  refine my_gR hx hb hts hown hK hJ fd_RX7_194 hv_5_12 e26 dX7_poleOf_35 ?_
  refine lv_aload_n hx hb dX7_poleOf_38 rfl (lv_at hl 0 rfl) ?_
  obtain ⟨b27, e28, hf⟩ := mb0 hf
  refine my_gR hx hb hts hown hK hJ fd_RX7_11 hv_7_0 e28 dX7_poleOf_39 ?_
  refine lv_iload_n hx hb dX7_poleOf_42 rfl (lv_at hl 2 rfl) ?_
  obtain ⟨b29, e30, hf⟩ := mb0 hf
  refine mx_aR hx hb hK hJ (t := 4) rfl (fun _ _ _ => rfl) e30 dX7_poleOf_43 ?_
  obtain ⟨b31, e32, hf⟩ := mb0 hf
  refine my_gR hx hb hts hown hK hJ fd_RX7_363 hv_5_14 e32 dX7_poleOf_44 ?_
  obtain ⟨i33, e34, hf⟩ := mb0 hf
  obtain ⟨σ35, e36, hf⟩ := mb0 hf
  refine mx_callV (As := [.ref b25, .ref b31]) (rest := []) hx hb hml hts hown hK hJ rfl rfl (ci := 0) rfl e34 (c_X0_dot l G P b19 b25 b31 σ17 σ35 e36) me_X0_dot kw_789 kw_790 kw_788 (Nat.le_of_ble_eq_true rfl) (Nat.le_of_ble_eq_true rfl) rfl hl.1 rfl (Nat.le_of_ble_eq_true rfl) dX7_poleOf_47 (fun H locs hJ => ?_)
  refine lv_aload_n hx hb dX7_poleOf_50 rfl (lv_at hl 0 rfl) ?_
  refine lv_aload_n hx hb dX7_poleOf_51 rfl (lv_at hl 0 rfl) ?_
  obtain ⟨b37, e38, hf⟩ := mb0 hf
  refine my_gR hx hb hts hown hK hJ fd_RX7_58 hv_7_14 e38 dX7_poleOf_52 ?_
  refine lv_aload_n hx hb dX7_poleOf_55 rfl (lv_at hl 0 rfl) ?_
  obtain ⟨b39, e40, hf⟩ := mb0 hf
  refine my_gR hx hb hts hown hK hJ fd_RX7_11 hv_7_0 e40 dX7_poleOf_56 ?_
  refine lv_iload_n hx hb dX7_poleOf_59 rfl (lv_at hl 1 rfl) ?_
  obtain ⟨b41, e42, hf⟩ := mb0 hf
  refine mx_aR hx hb hK hJ (t := 4) rfl (fun _ _ _ => rfl) e42 dX7_poleOf_60 ?_
  obtain ⟨b43, e44, hf⟩ := mb0 hf
  refine my_gR hx hb hts hown hK hJ fd_RX7_363 hv_5_14 e44 dX7_poleOf_61 ?_
  refine lv_aload_n hx hb dX7_poleOf_64 rfl (lv_at hl 0 rfl) ?_
  obtain ⟨b45, e46, hf⟩ := mb0 hf
  refine my_gR hx hb hts hown hK hJ fd_RX7_11 hv_7_0 e46 dX7_poleOf_65 ?_
  refine lv_iload_n hx hb dX7_poleOf_68 rfl (lv_at hl 2 rfl) ?_
  obtain ⟨b47, e48, hf⟩ := mb0 hf
  refine mx_aR hx hb hK hJ (t := 4) rfl (fun _ _ _ => rfl) e48 dX7_poleOf_69 ?_
  obtain ⟨b49, e50, hf⟩ := mb0 hf
  refine my_gR hx hb hts hown hK hJ fd_RX7_363 hv_5_14 e50 dX7_poleOf_70 ?_
  obtain ⟨i51, e52, hf⟩ := mb0 hf
  obtain ⟨σ53, e54, hf⟩ := mb0 hf
  refine mx_callV (As := [.ref b37, .ref b43, .ref b49]) (rest := []) hx hb hml hts hown hK hJ rfl rfl (ci := 7) rfl e52 (c_X7_meet l G P a0 b37 b43 b49 σ35 σ53 e54) me_X7_meet kw_1371 ks_43 kw_1369 (Nat.le_of_ble_eq_true rfl) (Nat.le_of_ble_eq_true rfl) rfl hl.1 rfl (Nat.le_of_ble_eq_true rfl) dX7_poleOf_73 (fun H locs hJ => ?_)
  refine lv_aload_n hx hb dX7_poleOf_76 rfl (lv_at hl 0 rfl) ?_
  obtain ⟨b55, e56, hf⟩ := mb0 hf
  refine my_gR hx hb hts hown hK hJ fd_RX7_58 hv_7_14 e56 dX7_poleOf_77 ?_
  exact my_aret hx hb hr (Or.inl ⟨_, rfl⟩) hlocks hJ hf dX7_poleOf_80
set_option maxHeartbeats 4000000 in
set_option maxRecDepth 100000 in
theorem c_X7_reckonMoment (l : Launch) (G : mx_G) (P : mx_P) (a0 : Nat) (σ : mx_S) (σ' : mx_S) (hf : f_X7_reckonMoment P a0 σ = some σ') : mxz σ ≤ mpc P → mxu σ ≤ mps P → mx_M l yX7_reckonMoment cX7_reckonMoment 3 none 2 51 G P [.ref a0] σ none σ' := by
  intro hcap hcau
  refine mx_ofW (by decide +kernel) hcap hcau (Nat.le_of_ble_eq_true rfl) ?_
  intro p e s m below meth c hx hb hr hml hts hown hlocks hname hK hJ ls hl
  have hz0 := hJ.2.1
  have hown : s.vm.findClass RX7 = some m.cls := hown
  have hl : lv_has ls 3 [(0, .ref a0)] := hl
  have D102_11 : ∀ (v0 : Nat) (v1 : Int32) (τ : mx_S) (o : (Int32 × mx_S) ⊕ ((mx_S))), f_X7_reckonMoment_D102_11 P v0 v1 τ = some o → (∀ (y1 : Int32) (υ : mx_S), o = .inl (y1, υ) → ∀ (H : Heap) (locs : List Loc), mx_J G P s.heap (mxz σ) (mxu σ) υ H locs → ∀ ls : Array Slot, lv_has ls 3 [(0, .ref v0), (1, .int y1)] → W p l e (mx_rm P 2 51 σ) s m ([.ref a0] : List Value).toArray below meth c H locs (mxz υ - mxz σ) (mxu υ - mxu σ) (mx_Z below G P none σ σ' [.ref a0] s) (F0 m 11 ls [])) → (∀  (υ : mx_S), o = .inr υ → ∀ (H : Heap) (locs : List Loc), mx_J G P s.heap (mxz σ) (mxu σ) υ H locs → ∀ ls : Array Slot, lv_has ls 3 [(0, .ref v0)] → W p l e (mx_rm P 2 51 σ) s m ([.ref a0] : List Value).toArray below meth c H locs (mxz υ - mxz σ) (mxu υ - mxu σ) (mx_Z below G P none σ σ' [.ref a0] s) (F0 m 108 ls [])) → ∀ (H : Heap) (locs : List Loc), mx_J G P s.heap (mxz σ) (mxu σ) τ H locs → ∀ ls : Array Slot, lv_has ls 3 [(0, .ref v0), (1, .int v1)] → W p l e (mx_rm P 2 51 σ) s m ([.ref a0] : List Value).toArray below meth c H locs (mxz τ - mxz σ) (mxu τ - mxu σ) (mx_Z below G P none σ σ' [.ref a0] s) (F0 m 102 ls []) := by
    intro v0 v1 τ o hf Kb Ke0 H locs hJ ls hl
    unfold f_X7_reckonMoment_D102_11 at hf
    obtain ⟨x57, e58, hf⟩ := mb0 hf
    refine lv_iinc (v := x57) (lv' := [(1, .int x57), (0, .ref v0)]) hx hb dX7_reckonMoment_102 hl (k := 1) rfl (by rw [← Option.some.inj e58]; rfl) (by decide) rfl (fun ls hl => ?_)
    refine lv_goto (tgt := 11) hx hb dX7_reckonMoment_105 (by decide) ?_
    exact Kb x57 τ (Option.some.inj hf).symm _ _ hJ ls (lv_sub hl [1, 0] rfl)
  have D40_11 : ∀ (v0 : Nat) (v1 : Int32) (v2 : Nat) (τ : mx_S) (o : (Int32 × mx_S) ⊕ ((mx_S))), f_X7_reckonMoment_D40_11 P v0 v1 v2 τ = some o → (∀ (y1 : Int32) (υ : mx_S), o = .inl (y1, υ) → ∀ (H : Heap) (locs : List Loc), mx_J G P s.heap (mxz σ) (mxu σ) υ H locs → ∀ ls : Array Slot, lv_has ls 3 [(0, .ref v0), (1, .int y1)] → W p l e (mx_rm P 2 51 σ) s m ([.ref a0] : List Value).toArray below meth c H locs (mxz υ - mxz σ) (mxu υ - mxu σ) (mx_Z below G P none σ σ' [.ref a0] s) (F0 m 11 ls [])) → (∀  (υ : mx_S), o = .inr υ → ∀ (H : Heap) (locs : List Loc), mx_J G P s.heap (mxz σ) (mxu σ) υ H locs → ∀ ls : Array Slot, lv_has ls 3 [(0, .ref v0)] → W p l e (mx_rm P 2 51 σ) s m ([.ref a0] : List Value).toArray below meth c H locs (mxz υ - mxz σ) (mxu υ - mxu σ) (mx_Z below G P none σ σ' [.ref a0] s) (F0 m 108 ls [])) → ∀ (H : Heap) (locs : List Loc), mx_J G P s.heap (mxz σ) (mxu σ) τ H locs → ∀ ls : Array Slot, lv_has ls 3 [(0, .ref v0), (1, .int v1), (2, .ref v2)] → W p l e (mx_rm P 2 51 σ) s m ([.ref a0] : List Value).toArray below meth c H locs (mxz τ - mxz σ) (mxu τ - mxu σ) (mx_Z below G P none σ σ' [.ref a0] s) (F0 m 40 ls []) := by
    intro v0 v1 v2 τ o hf Kb Ke0 H locs hJ ls hl
    unfold f_X7_reckonMoment_D40_11 at hf
    refine lv_aload_n hx hb dX7_reckonMoment_40 rfl (lv_at hl 0 rfl) ?_
    obtain ⟨b17, e18, hf⟩ := mb0 hf
    refine my_gR hx hb hts hown hK hJ fd_RX7_65 hv_7_16 e18 dX7_reckonMoment_41 ?_
    refine lv_lconst (v := 0) hx hb dX7_reckonMoment_44 (by decide) ?_
    refine lv_lconst (v := 0) hx hb dX7_reckonMoment_45 (by decide) ?_
    obtain ⟨i19, e20, hf⟩ := mb0 hf
    obtain ⟨σ21, e22, hf⟩ := mb0 hf
    refine mx_callV (As := [.long (0 : Int64), .long (0 : Int64)]) (rest := []) hx hb hml hts hown hK hJ rfl rfl (ci := 0) rfl e20 (c_X0_keep l G P b17 (0 : Int64) (0 : Int64) τ σ21 e22) me_X0_keep kw_480 kw_481 kw_479 (Nat.le_of_ble_eq_true rfl) (Nat.le_of_ble_eq_true rfl) rfl hl.1 rfl (Nat.le_of_ble_eq_true rfl) dX7_reckonMoment_46 (fun H locs hJ => ?_)
    refine lv_aload_n hx hb dX7_reckonMoment_49 rfl (lv_at hl 0 rfl) ?_
    obtain ⟨b23, e24, hf⟩ := mb0 hf
    refine my_gR hx hb hts hown hK hJ fd_RX7_65 hv_7_16 e24 dX7_reckonMoment_50 ?_
    refine lv_aload_n hx hb dX7_reckonMoment_53 rfl (lv_at hl 2 rfl) ?_
    obtain ⟨x25, e26, hf⟩ := mb0 hf
    refine my_gI hx hb hts hown hK hJ fd_RX7_377 hv_5_17 e26 dX7_reckonMoment_54 ?_
    refine lv_i2l hx hb dX7_reckonMoment_57 rfl ?_
    refine lv_aload_n hx hb dX7_reckonMoment_58 rfl (lv_at hl 2 rfl) ?_
    obtain ⟨b27, e28, hf⟩ := mb0 hf
    refine my_gR hx hb hts hown hK hJ fd_RX7_363 hv_5_14 e28 dX7_reckonMoment_59 ?_
    obtain ⟨b29, e30, hf⟩ := mb0 hf
    refine my_gR hx hb hts hown hK hJ fd_RX7_30 hv_8_0 e30 dX7_reckonMoment_62 ?_
    obtain ⟨i31, e32, hf⟩ := mb0 hf
    obtain ⟨σ33, e34, hf⟩ := mb0 hf
    refine mx_callV (As := [.long (x25.toInt64), .ref b29]) (rest := []) hx hb hml hts hown hK hJ rfl rfl (ci := 0) rfl e32 (c_X0_addWhole l G P b23 (x25.toInt64) b29 σ21 σ33 e34) me_X0_addWhole kw_1422 kw_1423 kw_1421 (Nat.le_of_ble_eq_true rfl) (Nat.le_of_ble_eq_true rfl) rfl hl.1 rfl (Nat.le_of_ble_eq_true rfl) dX7_reckonMoment_65 (fun H locs hJ => ?_)
    refine lv_aload_n hx hb dX7_reckonMoment_68 rfl (lv_at hl 0 rfl) ?_
    obtain ⟨b35, e36, hf⟩ := mb0 hf
    refine my_gR hx hb hts hown hK hJ fd_RX7_65 hv_7_16 e36 dX7_reckonMoment_69 ?_
    refine lv_aload_n hx hb dX7_reckonMoment_72 rfl (lv_at hl 2 rfl) ?_
    obtain ⟨x37, e38, hf⟩ := mb0 hf
    refine my_gI hx hb hts hown hK hJ fd_RX7_380 hv_5_18 e38 dX7_reckonMoment_73 ?_
    refine lv_i2l hx hb dX7_reckonMoment_76 rfl ?_
    refine lv_aload_n hx hb dX7_reckonMoment_77 rfl (lv_at hl 2 rfl) ?_
    obtain ⟨b39, e40, hf⟩ := mb0 hf
    refine my_gR hx hb hts hown hK hJ fd_RX7_363 hv_5_14 e40 dX7_reckonMoment_78 ?_
    obtain ⟨b41, e42, hf⟩ := mb0 hf
    refine my_gR hx hb hts hown hK hJ fd_RX7_241 hv_8_1 e42 dX7_reckonMoment_81 ?_
    obtain ⟨i43, e44, hf⟩ := mb0 hf
    obtain ⟨σ45, e46, hf⟩ := mb0 hf
    refine mx_callV (As := [.long (x37.toInt64), .ref b41]) (rest := []) hx hb hml hts hown hK hJ rfl rfl (ci := 0) rfl e44 (c_X0_addWhole l G P b35 (x37.toInt64) b41 σ33 σ45 e46) me_X0_addWhole kw_1422 kw_1423 kw_1421 (Nat.le_of_ble_eq_true rfl) (Nat.le_of_ble_eq_true rfl) rfl hl.1 rfl (Nat.le_of_ble_eq_true rfl) dX7_reckonMoment_84 (fun H locs hJ => ?_)
    refine lv_aload_n hx hb dX7_reckonMoment_87 rfl (lv_at hl 0 rfl) ?_
    obtain ⟨b47, e48, hf⟩ := mb0 hf
    refine my_gR hx hb hts hown hK hJ fd_RX7_74 hv_7_19 e48 dX7_reckonMoment_88 ?_
    refine lv_aload_n hx hb dX7_reckonMoment_91 rfl (lv_at hl 0 rfl) ?_
    obtain ⟨b49, e50, hf⟩ := mb0 hf
    refine my_gR hx hb hts hown hK hJ fd_RX7_74 hv_7_19 e50 dX7_reckonMoment_92 ?_
    refine lv_aload_n hx hb dX7_reckonMoment_95 rfl (lv_at hl 0 rfl) ?_
    obtain ⟨b51, e52, hf⟩ := mb0 hf
    refine my_gR hx hb hts hown hK hJ fd_RX7_65 hv_7_16 e52 dX7_reckonMoment_96 ?_
    obtain ⟨i53, e54, hf⟩ := mb0 hf
    obtain ⟨σ55, e56, hf⟩ := mb0 hf
    refine mx_callV (As := [.ref b49, .ref b51]) (rest := []) hx hb hml hts hown hK hJ rfl rfl (ci := 0) rfl e54 (c_X0_plus l G P b47 b49 b51 σ45 σ55 e56) me_X0_plus kw_746 kw_747 kw_745 (Nat.le_of_ble_eq_true rfl) (Nat.le_of_ble_eq_true rfl) rfl hl.1 rfl (Nat.le_of_ble_eq_true rfl) dX7_reckonMoment_99 (fun H locs hJ => ?_)
    exact D102_11 v0 v1 σ55 o hf Kb Ke0 _ _ hJ ls (lv_sub hl [0, 1] rfl)
  have B11 : ∀ (v0 : Nat) (v1 : Int32) (τ : mx_S) (o : (Int32 × mx_S) ⊕ ((mx_S))), f_X7_reckonMoment_B11 P v0 v1 τ = some o → (∀ (y1 : Int32) (υ : mx_S), o = .inl (y1, υ) → ∀ (H : Heap) (locs : List Loc), mx_J G P s.heap (mxz σ) (mxu σ) υ H locs → ∀ ls : Array Slot, lv_has ls 3 [(0, .ref v0), (1, .int y1)] → W p l e (mx_rm P 2 51 σ) s m ([.ref a0] : List Value).toArray below meth c H locs (mxz υ - mxz σ) (mxu υ - mxu σ) (mx_Z below G P none σ σ' [.ref a0] s) (F0 m 11 ls [])) → (∀  (υ : mx_S), o = .inr υ → ∀ (H : Heap) (locs : List Loc), mx_J G P s.heap (mxz σ) (mxu σ) υ H locs → ∀ ls : Array Slot, lv_has ls 3 [(0, .ref v0)] → W p l e (mx_rm P 2 51 σ) s m ([.ref a0] : List Value).toArray below meth c H locs (mxz υ - mxz σ) (mxu υ - mxu σ) (mx_Z below G P none σ σ' [.ref a0] s) (F0 m 108 ls [])) → ∀ (H : Heap) (locs : List Loc), mx_J G P s.heap (mxz σ) (mxu σ) τ H locs → ∀ ls : Array Slot, lv_has ls 3 [(0, .ref v0), (1, .int v1)] → W p l e (mx_rm P 2 51 σ) s m ([.ref a0] : List Value).toArray below meth c H locs (mxz τ - mxz σ) (mxu τ - mxu σ) (mx_Z below G P none σ σ' [.ref a0] s) (F0 m 11 ls []) := by
    intro v0 v1 τ o hf Kb Ke0 H locs hJ ls hl
    unfold f_X7_reckonMoment_B11 at hf
    refine lv_iload_n hx hb dX7_reckonMoment_11 rfl (lv_at hl 1 rfl) ?_
    refine lv_aload_n hx hb dX7_reckonMoment_12 rfl (lv_at hl 0 rfl) ?_
    obtain ⟨x7, e8, hf⟩ := mb0 hf
    refine my_gI hx hb hts hown hK hJ fd_RX7_77 hv_7_2 e8 dX7_reckonMoment_13 ?_
    refine lv_icmp_ge (tgt := 108) hx hb dX7_reckonMoment_16 (by decide) (fun c9 => ?_) (fun c9 => ?_)
    · rw [if_pos c9] at hf
      exact Ke0 τ (Option.some.inj hf).symm _ _ hJ ls (lv_sub hl [0] rfl)
    · rw [if_neg c9] at hf
      refine lv_aload_n hx hb dX7_reckonMoment_19 rfl (lv_at hl 0 rfl) ?_
      obtain ⟨b10, e11, hf⟩ := mb0 hf
      refine my_gR hx hb hts hown hK hJ fd_RX7_11 hv_7_0 e11 dX7_reckonMoment_20 ?_
      refine lv_iload_n hx hb dX7_reckonMoment_23 rfl (lv_at hl 1 rfl) ?_
      obtain ⟨b12, e13, hf⟩ := mb0 hf
      refine mx_aR hx hb hK hJ (t := 4) rfl (fun _ _ _ => rfl) e13 dX7_reckonMoment_24 ?_
      refine lv_astore_n (lv' := [(2, .ref b12), (0, .ref v0), (1, .int v1)]) hx hb dX7_reckonMoment_25 rfl hl (by decide) rfl (fun ls hl => ?_)
      refine lv_aload_n hx hb dX7_reckonMoment_26 rfl (lv_at hl 0 rfl) ?_
      obtain ⟨x14, e15, hf⟩ := mb0 hf
      refine my_gI hx hb hts hown hK hJ fd_RX7_377 hv_5_17 e15 dX7_reckonMoment_27 ?_
      refine lv_if_ne (tgt := 40) hx hb dX7_reckonMoment_30 (by decide) (fun c16 => ?_) (fun c16 => ?_)
      · rw [if_neg c16] at hf
        exact D40_11 v0 v1 b12 τ o hf Kb Ke0 _ _ hJ ls (lv_sub hl [1, 2, 0] rfl)
      · rw [if_pos c16] at hf
        refine lv_aload_n hx hb dX7_reckonMoment_33 rfl (lv_at hl 0 rfl) ?_
        obtain ⟨x59, e60, hf⟩ := mb0 hf
        refine my_gI hx hb hts hown hK hJ fd_RX7_380 hv_5_18 e60 dX7_reckonMoment_34 ?_
        refine lv_if_eq (tgt := 102) hx hb dX7_reckonMoment_37 (by decide) (fun c61 => ?_) (fun c61 => ?_)
        · rw [if_pos c61] at hf
          exact D102_11 v0 v1 τ o hf Kb Ke0 _ _ hJ ls (lv_sub hl [1, 2] rfl)
        · rw [if_neg c61] at hf
          exact D40_11 v0 v1 b12 τ o hf Kb Ke0 _ _ hJ ls (lv_sub hl [1, 2, 0] rfl)
  have L11 : ∀ (v0 : Nat) (n : Nat) (v1 : Int32) (τ : mx_S) (o : (mx_S)), mx_lp (f_X7_reckonMoment_L11 P v0) n (v1, τ) = some o → (∀  (υ : mx_S), o = υ → ∀ (H : Heap) (locs : List Loc), mx_J G P s.heap (mxz σ) (mxu σ) υ H locs → ∀ ls : Array Slot, lv_has ls 3 [(0, .ref v0)] → W p l e (mx_rm P 2 51 σ) s m ([.ref a0] : List Value).toArray below meth c H locs (mxz υ - mxz σ) (mxu υ - mxu σ) (mx_Z below G P none σ σ' [.ref a0] s) (F0 m 108 ls [])) → ∀ (H : Heap) (locs : List Loc), mx_J G P s.heap (mxz σ) (mxu σ) τ H locs → ∀ ls : Array Slot, lv_has ls 3 [(0, .ref v0), (1, .int v1)] → W p l e (mx_rm P 2 51 σ) s m ([.ref a0] : List Value).toArray below meth c H locs (mxz τ - mxz σ) (mxu τ - mxu σ) (mx_Z below G P none σ σ' [.ref a0] s) (F0 m 11 ls []) := by
    intro v0 n
    induction n with
    | zero =>
      intro v1 τ o hf
      rw [mx_lp0] at hf
      cases hf
    | succ n ih =>
      intro v1 τ o hf Ke0 H locs hJ ls hl
      rw [mx_lpS] at hf
      obtain ⟨b, eb, hf⟩ := mb0 hf
      refine B11 v0 v1 τ b eb (fun y1 υ ho H locs hJ ls hl => ?_) (fun  υ ho H locs hJ ls hl => ?_) H locs hJ ls hl
      · subst ho
        exact ih y1 υ o hf Ke0 H locs hJ ls hl
      · subst ho
        exact Ke0  υ (Option.some.inj hf).symm _ _ hJ ls hl
  unfold f_X7_reckonMoment at hf
  refine lv_aload_n hx hb dX7_reckonMoment_0 rfl (lv_at hl 0 rfl) ?_
  obtain ⟨b1, e2, hf⟩ := mb0 hf
  refine my_gR hx hb hts hown hK hJ fd_RX7_74 hv_7_19 e2 dX7_reckonMoment_1 ?_
  refine lv_lconst (v := 0) hx hb dX7_reckonMoment_4 (by decide) ?_
  refine lv_lconst (v := 0) hx hb dX7_reckonMoment_5 (by decide) ?_
  obtain ⟨i3, e4, hf⟩ := mb0 hf
  obtain ⟨σ5, e6, hf⟩ := mb0 hf
  refine mx_callV (As := [.long (0 : Int64), .long (0 : Int64)]) (rest := []) hx hb hml hts hown hK hJ rfl rfl (ci := 0) rfl e4 (c_X0_keep l G P b1 (0 : Int64) (0 : Int64) σ σ5 e6) me_X0_keep kw_480 kw_481 kw_479 (Nat.le_of_ble_eq_true rfl) (Nat.le_of_ble_eq_true rfl) rfl hl.1 rfl (Nat.le_of_ble_eq_true rfl) dX7_reckonMoment_6 (fun H locs hJ => ?_)
  refine lv_iconst (v := 0) hx hb dX7_reckonMoment_9 (by decide) ?_
  refine lv_istore_n (lv' := [(1, .int (0 : Int32)), (0, .ref a0)]) hx hb dX7_reckonMoment_10 rfl hl (by decide) rfl (fun ls hl => ?_)
  obtain ⟨o62, e63, hf⟩ := mb0 hf
  refine L11 a0 (mpN P) (0 : Int32) σ5 o62 e63 (fun σ64 ho H locs hJ ls hl => ?_) _ _ hJ ls (lv_sub hl [1, 0] rfl)
  · rw [ho] at hf
    have hf : ((mg_R σ64 a0 7 19).bind fun b65 => (mg_R σ64 a0 7 19).bind fun b67 => (mx_is σ64 b65 0).bind fun i69 => (f_X0_negative P b65 b67 σ64).bind fun σ71 => some σ71) = some σ' := hf
    refine lv_aload_n hx hb dX7_reckonMoment_108 rfl (lv_at hl 0 rfl) ?_
    obtain ⟨b65, e66, hf⟩ := mb0 hf
    refine my_gR hx hb hts hown hK hJ fd_RX7_74 hv_7_19 e66 dX7_reckonMoment_109 ?_
    refine lv_aload_n hx hb dX7_reckonMoment_112 rfl (lv_at hl 0 rfl) ?_
    obtain ⟨b67, e68, hf⟩ := mb0 hf
    refine my_gR hx hb hts hown hK hJ fd_RX7_74 hv_7_19 e68 dX7_reckonMoment_113 ?_
    obtain ⟨i69, e70, hf⟩ := mb0 hf
    obtain ⟨σ71, e72, hf⟩ := mb0 hf
    refine mx_callV (As := [.ref b67]) (rest := []) hx hb hml hts hown hK hJ rfl rfl (ci := 0) rfl e70 (c_X0_negative l G P b65 b67 σ64 σ71 e72) me_X0_negative kw_687 kw_688 kw_686 (Nat.le_of_ble_eq_true rfl) (Nat.le_of_ble_eq_true rfl) rfl hl.1 rfl (Nat.le_of_ble_eq_true rfl) dX7_reckonMoment_116 (fun H locs hJ => ?_)
    exact my_vret hx hb hr hlocks hJ hf dX7_reckonMoment_119
set_option maxHeartbeats 4000000 in
set_option maxRecDepth 100000 in
theorem c_X7_massInAll (l : Launch) (G : mx_G) (P : mx_P) (a0 : Nat) (σ : mx_S) (r : Int32) (σ' : mx_S) (hf : f_X7_massInAll P a0 σ = some (r, σ')) : mxz σ ≤ mpc P → mxu σ ≤ mps P → mx_M l yX7_massInAll cX7_massInAll 3 (some .int) 0 0 G P [.ref a0] σ (some (.int r)) σ' := by
  intro hcap hcau
  refine mx_ofW (by decide +kernel) hcap hcau (Nat.le_of_ble_eq_true rfl) ?_
  intro p e s m below meth c hx hb hr hml hts hown hlocks hname hK hJ ls hl
  have hz0 := hJ.2.1
  have hown : s.vm.findClass RX7 = some m.cls := hown
  have hl : lv_has ls 3 [(0, .ref a0)] := hl
  have B4 : ∀ (v0 : Nat) (v1 : Int32) (v2 : Int32) (τ : mx_S) (o : (Int32 × Int32 × mx_S) ⊕ ((Int32 × mx_S))), f_X7_massInAll_B4 P v0 v1 v2 τ = some o → (∀ (y1 : Int32) (y2 : Int32) (υ : mx_S), o = .inl (y1, y2, υ) → ∀ (H : Heap) (locs : List Loc), mx_J G P s.heap (mxz σ) (mxu σ) υ H locs → ∀ ls : Array Slot, lv_has ls 3 [(0, .ref v0), (1, .int y1), (2, .int y2)] → W p l e (mx_rm P 0 0 σ) s m ([.ref a0] : List Value).toArray below meth c H locs (mxz υ - mxz σ) (mxu υ - mxu σ) (mx_Z below G P (some (.int r)) σ σ' [.ref a0] s) (F0 m 4 ls [])) → (∀ (y1 : Int32) (υ : mx_S), o = .inr (y1, υ) → ∀ (H : Heap) (locs : List Loc), mx_J G P s.heap (mxz σ) (mxu σ) υ H locs → ∀ ls : Array Slot, lv_has ls 3 [(1, .int y1)] → W p l e (mx_rm P 0 0 σ) s m ([.ref a0] : List Value).toArray below meth c H locs (mxz υ - mxz σ) (mxu υ - mxu σ) (mx_Z below G P (some (.int r)) σ σ' [.ref a0] s) (F0 m 30 ls [])) → ∀ (H : Heap) (locs : List Loc), mx_J G P s.heap (mxz σ) (mxu σ) τ H locs → ∀ ls : Array Slot, lv_has ls 3 [(0, .ref v0), (1, .int v1), (2, .int v2)] → W p l e (mx_rm P 0 0 σ) s m ([.ref a0] : List Value).toArray below meth c H locs (mxz τ - mxz σ) (mxu τ - mxu σ) (mx_Z below G P (some (.int r)) σ σ' [.ref a0] s) (F0 m 4 ls []) := by
    intro v0 v1 v2 τ o hf Kb Ke0 H locs hJ ls hl
    unfold f_X7_massInAll_B4 at hf
    refine lv_iload_n hx hb dX7_massInAll_4 rfl (lv_at hl 2 rfl) ?_
    refine lv_aload_n hx hb dX7_massInAll_5 rfl (lv_at hl 0 rfl) ?_
    obtain ⟨x1, e2, hf⟩ := mb0 hf
    refine my_gI hx hb hts hown hK hJ fd_RX7_77 hv_7_2 e2 dX7_massInAll_6 ?_
    refine lv_icmp_ge (tgt := 30) hx hb dX7_massInAll_9 (by decide) (fun c3 => ?_) (fun c3 => ?_)
    · rw [if_pos c3] at hf
      exact Ke0 v1 τ (Option.some.inj hf).symm _ _ hJ ls (lv_sub hl [1] rfl)
    · rw [if_neg c3] at hf
      refine lv_iload_n hx hb dX7_massInAll_12 rfl (lv_at hl 1 rfl) ?_
      refine lv_aload_n hx hb dX7_massInAll_13 rfl (lv_at hl 0 rfl) ?_
      obtain ⟨b4, e5, hf⟩ := mb0 hf
      refine my_gR hx hb hts hown hK hJ fd_RX7_11 hv_7_0 e5 dX7_massInAll_14 ?_
      refine lv_iload_n hx hb dX7_massInAll_17 rfl (lv_at hl 2 rfl) ?_
      obtain ⟨b6, e7, hf⟩ := mb0 hf
      refine mx_aR hx hb hK hJ (t := 4) rfl (fun _ _ _ => rfl) e7 dX7_massInAll_18 ?_
      obtain ⟨x8, e9, hf⟩ := mb0 hf
      refine my_gI hx hb hts hown hK hJ fd_RX7_387 hv_5_19 e9 dX7_massInAll_19 ?_
      refine lv_iadd hx hb dX7_massInAll_22 ?_
      obtain ⟨x10, e11, hf⟩ := mb0 hf
      refine mx_nI e11 ?_
      refine lv_istore_n (lv' := [(1, .int x10), (0, .ref v0), (2, .int v2)]) hx hb dX7_massInAll_23 rfl hl (by decide) rfl (fun ls hl => ?_)
      obtain ⟨x12, e13, hf⟩ := mb0 hf
      refine lv_iinc (v := x12) (lv' := [(2, .int x12), (1, .int x10), (0, .ref v0)]) hx hb dX7_massInAll_24 hl (k := 2) rfl (by rw [← Option.some.inj e13]; rfl) (by decide) rfl (fun ls hl => ?_)
      refine lv_goto (tgt := 4) hx hb dX7_massInAll_27 (by decide) ?_
      exact Kb x10 x12 τ (Option.some.inj hf).symm _ _ hJ ls (lv_sub hl [2, 1, 0] rfl)
  have L4 : ∀ (v0 : Nat) (n : Nat) (v1 : Int32) (v2 : Int32) (τ : mx_S) (o : (Int32 × mx_S)), mx_lp (f_X7_massInAll_L4 P v0) n (v1, v2, τ) = some o → (∀ (y1 : Int32) (υ : mx_S), o = (y1, υ) → ∀ (H : Heap) (locs : List Loc), mx_J G P s.heap (mxz σ) (mxu σ) υ H locs → ∀ ls : Array Slot, lv_has ls 3 [(1, .int y1)] → W p l e (mx_rm P 0 0 σ) s m ([.ref a0] : List Value).toArray below meth c H locs (mxz υ - mxz σ) (mxu υ - mxu σ) (mx_Z below G P (some (.int r)) σ σ' [.ref a0] s) (F0 m 30 ls [])) → ∀ (H : Heap) (locs : List Loc), mx_J G P s.heap (mxz σ) (mxu σ) τ H locs → ∀ ls : Array Slot, lv_has ls 3 [(0, .ref v0), (1, .int v1), (2, .int v2)] → W p l e (mx_rm P 0 0 σ) s m ([.ref a0] : List Value).toArray below meth c H locs (mxz τ - mxz σ) (mxu τ - mxu σ) (mx_Z below G P (some (.int r)) σ σ' [.ref a0] s) (F0 m 4 ls []) := by
    intro v0 n
    induction n with
    | zero =>
      intro v1 v2 τ o hf
      rw [mx_lp0] at hf
      cases hf
    | succ n ih =>
      intro v1 v2 τ o hf Ke0 H locs hJ ls hl
      rw [mx_lpS] at hf
      obtain ⟨b, eb, hf⟩ := mb0 hf
      refine B4 v0 v1 v2 τ b eb (fun y1 y2 υ ho H locs hJ ls hl => ?_) (fun y1 υ ho H locs hJ ls hl => ?_) H locs hJ ls hl
      · subst ho
        exact ih y1 y2 υ o hf Ke0 H locs hJ ls hl
      · subst ho
        exact Ke0 y1 υ (Option.some.inj hf).symm _ _ hJ ls hl
  unfold f_X7_massInAll at hf
  refine lv_iconst (v := 0) hx hb dX7_massInAll_0 (by decide) ?_
  refine lv_istore_n (lv' := [(1, .int (0 : Int32)), (0, .ref a0)]) hx hb dX7_massInAll_1 rfl hl (by decide) rfl (fun ls hl => ?_)
  refine lv_iconst (v := 0) hx hb dX7_massInAll_2 (by decide) ?_
  refine lv_istore_n (lv' := [(2, .int (0 : Int32)), (1, .int (0 : Int32)), (0, .ref a0)]) hx hb dX7_massInAll_3 rfl hl (by decide) rfl (fun ls hl => ?_)
  obtain ⟨o14, e15, hf⟩ := mb0 hf
  refine L4 a0 (mpN P) (0 : Int32) (0 : Int32) σ o14 e15 (fun y16 σ17 ho H locs hJ ls hl => ?_) _ _ hJ ls (lv_sub hl [2, 1, 0] rfl)
  · rw [ho] at hf
    have hf : (some (y16, σ17)) = some (r, σ') := hf
    refine lv_iload_n hx hb dX7_massInAll_30 rfl (lv_at hl 0 rfl) ?_
    exact my_iret hx hb hr hlocks hJ hf dX7_massInAll_31
set_option maxHeartbeats 4000000 in
set_option maxRecDepth 100000 in
theorem c_X7_reckonMiddle (l : Launch) (G : mx_G) (P : mx_P) (a0 : Nat) (p1 : Int32) (σ : mx_S) (σ' : mx_S) (hf : f_X7_reckonMiddle P a0 p1 σ = some σ') : mxz σ ≤ mpc P → mxu σ ≤ mps P → mx_M l yX7_reckonMiddle cX7_reckonMiddle 4 none 2 51 G P [.ref a0, .int p1] σ none σ' := by
  intro hcap hcau
  refine mx_ofW (by decide +kernel) hcap hcau (Nat.le_of_ble_eq_true rfl) ?_
  intro p e s m below meth c hx hb hr hml hts hown hlocks hname hK hJ ls hl
  have hz0 := hJ.2.1
  have hown : s.vm.findClass RX7 = some m.cls := hown
  have hl : lv_has ls 4 [(0, .ref a0), (1, .int p1)] := hl
  have D66_11 : ∀ (v0 : Nat) (v1 : Int32) (v2 : Int32) (τ : mx_S) (o : (Int32 × mx_S) ⊕ ((mx_S))), f_X7_reckonMiddle_D66_11 P v0 v1 v2 τ = some o → (∀ (y2 : Int32) (υ : mx_S), o = .inl (y2, υ) → ∀ (H : Heap) (locs : List Loc), mx_J G P s.heap (mxz σ) (mxu σ) υ H locs → ∀ ls : Array Slot, lv_has ls 4 [(0, .ref v0), (1, .int v1), (2, .int y2)] → W p l e (mx_rm P 2 51 σ) s m ([.ref a0, .int p1] : List Value).toArray below meth c H locs (mxz υ - mxz σ) (mxu υ - mxu σ) (mx_Z below G P none σ σ' [.ref a0, .int p1] s) (F0 m 11 ls [])) → (∀  (υ : mx_S), o = .inr υ → ∀ (H : Heap) (locs : List Loc), mx_J G P s.heap (mxz σ) (mxu σ) υ H locs → ∀ ls : Array Slot, lv_has ls 4 [(0, .ref v0)] → W p l e (mx_rm P 2 51 σ) s m ([.ref a0, .int p1] : List Value).toArray below meth c H locs (mxz υ - mxz σ) (mxu υ - mxu σ) (mx_Z below G P none σ σ' [.ref a0, .int p1] s) (F0 m 72 ls [])) → ∀ (H : Heap) (locs : List Loc), mx_J G P s.heap (mxz σ) (mxu σ) τ H locs → ∀ ls : Array Slot, lv_has ls 4 [(0, .ref v0), (1, .int v1), (2, .int v2)] → W p l e (mx_rm P 2 51 σ) s m ([.ref a0, .int p1] : List Value).toArray below meth c H locs (mxz τ - mxz σ) (mxu τ - mxu σ) (mx_Z below G P none σ σ' [.ref a0, .int p1] s) (F0 m 66 ls []) := by
    intro v0 v1 v2 τ o hf Kb Ke0 H locs hJ ls hl
    unfold f_X7_reckonMiddle_D66_11 at hf
    obtain ⟨x17, e18, hf⟩ := mb0 hf
    refine lv_iinc (v := x17) (lv' := [(2, .int x17), (0, .ref v0), (1, .int v1)]) hx hb dX7_reckonMiddle_66 hl (k := 2) rfl (by rw [← Option.some.inj e18]; rfl) (by decide) rfl (fun ls hl => ?_)
    refine lv_goto (tgt := 11) hx hb dX7_reckonMiddle_69 (by decide) ?_
    exact Kb x17 τ (Option.some.inj hf).symm _ _ hJ ls (lv_sub hl [1, 2, 0] rfl)
  have D63_11 : ∀ (v0 : Nat) (v1 : Int32) (v2 : Int32) (w0 : Nat) (w1 : Int64) (w2 : Nat) (τ : mx_S) (o : (Int32 × mx_S) ⊕ ((mx_S))), f_X7_reckonMiddle_D63_11 P v0 v1 v2 w0 w1 w2 τ = some o → (∀ (y2 : Int32) (υ : mx_S), o = .inl (y2, υ) → ∀ (H : Heap) (locs : List Loc), mx_J G P s.heap (mxz σ) (mxu σ) υ H locs → ∀ ls : Array Slot, lv_has ls 4 [(0, .ref v0), (1, .int v1), (2, .int y2)] → W p l e (mx_rm P 2 51 σ) s m ([.ref a0, .int p1] : List Value).toArray below meth c H locs (mxz υ - mxz σ) (mxu υ - mxu σ) (mx_Z below G P none σ σ' [.ref a0, .int p1] s) (F0 m 11 ls [])) → (∀  (υ : mx_S), o = .inr υ → ∀ (H : Heap) (locs : List Loc), mx_J G P s.heap (mxz σ) (mxu σ) υ H locs → ∀ ls : Array Slot, lv_has ls 4 [(0, .ref v0)] → W p l e (mx_rm P 2 51 σ) s m ([.ref a0, .int p1] : List Value).toArray below meth c H locs (mxz υ - mxz σ) (mxu υ - mxu σ) (mx_Z below G P none σ σ' [.ref a0, .int p1] s) (F0 m 72 ls [])) → ∀ (H : Heap) (locs : List Loc), mx_J G P s.heap (mxz σ) (mxu σ) τ H locs → ∀ ls : Array Slot, lv_has ls 4 [(0, .ref v0), (1, .int v1), (2, .int v2)] → W p l e (mx_rm P 2 51 σ) s m ([.ref a0, .int p1] : List Value).toArray below meth c H locs (mxz τ - mxz σ) (mxu τ - mxu σ) (mx_Z below G P none σ σ' [.ref a0, .int p1] s) (F0 m 63 ls [.ref w0, .long w1, .ref w2]) := by
    intro v0 v1 v2 w0 w1 w2 τ o hf Kb Ke0 H locs hJ ls hl
    unfold f_X7_reckonMiddle_D63_11 at hf
    obtain ⟨i28, e29, hf⟩ := mb0 hf
    obtain ⟨σ30, e31, hf⟩ := mb0 hf
    refine mx_callV (As := [.long w1, .ref w0]) (rest := []) hx hb hml hts hown hK hJ rfl rfl (ci := 0) rfl e29 (c_X0_addWhole l G P w2 w1 w0 τ σ30 e31) me_X0_addWhole kw_1422 kw_1423 kw_1421 (Nat.le_of_ble_eq_true rfl) (Nat.le_of_ble_eq_true rfl) rfl hl.1 rfl (Nat.le_of_ble_eq_true rfl) dX7_reckonMiddle_63 (fun H locs hJ => ?_)
    exact D66_11 v0 v1 v2 σ30 o hf Kb Ke0 _ _ hJ ls (lv_sub hl [0, 1, 2] rfl)
  have B11 : ∀ (v0 : Nat) (v1 : Int32) (v2 : Int32) (τ : mx_S) (o : (Int32 × mx_S) ⊕ ((mx_S))), f_X7_reckonMiddle_B11 P v0 v1 v2 τ = some o → (∀ (y2 : Int32) (υ : mx_S), o = .inl (y2, υ) → ∀ (H : Heap) (locs : List Loc), mx_J G P s.heap (mxz σ) (mxu σ) υ H locs → ∀ ls : Array Slot, lv_has ls 4 [(0, .ref v0), (1, .int v1), (2, .int y2)] → W p l e (mx_rm P 2 51 σ) s m ([.ref a0, .int p1] : List Value).toArray below meth c H locs (mxz υ - mxz σ) (mxu υ - mxu σ) (mx_Z below G P none σ σ' [.ref a0, .int p1] s) (F0 m 11 ls [])) → (∀  (υ : mx_S), o = .inr υ → ∀ (H : Heap) (locs : List Loc), mx_J G P s.heap (mxz σ) (mxu σ) υ H locs → ∀ ls : Array Slot, lv_has ls 4 [(0, .ref v0)] → W p l e (mx_rm P 2 51 σ) s m ([.ref a0, .int p1] : List Value).toArray below meth c H locs (mxz υ - mxz σ) (mxu υ - mxu σ) (mx_Z below G P none σ σ' [.ref a0, .int p1] s) (F0 m 72 ls [])) → ∀ (H : Heap) (locs : List Loc), mx_J G P s.heap (mxz σ) (mxu σ) τ H locs → ∀ ls : Array Slot, lv_has ls 4 [(0, .ref v0), (1, .int v1), (2, .int v2)] → W p l e (mx_rm P 2 51 σ) s m ([.ref a0, .int p1] : List Value).toArray below meth c H locs (mxz τ - mxz σ) (mxu τ - mxu σ) (mx_Z below G P none σ σ' [.ref a0, .int p1] s) (F0 m 11 ls []) := by
    intro v0 v1 v2 τ o hf Kb Ke0 H locs hJ ls hl
    unfold f_X7_reckonMiddle_B11 at hf
    refine lv_iload_n hx hb dX7_reckonMiddle_11 rfl (lv_at hl 2 rfl) ?_
    refine lv_aload_n hx hb dX7_reckonMiddle_12 rfl (lv_at hl 0 rfl) ?_
    obtain ⟨x7, e8, hf⟩ := mb0 hf
    refine my_gI hx hb hts hown hK hJ fd_RX7_77 hv_7_2 e8 dX7_reckonMiddle_13 ?_
    refine lv_icmp_ge (tgt := 72) hx hb dX7_reckonMiddle_16 (by decide) (fun c9 => ?_) (fun c9 => ?_)
    · rw [if_pos c9] at hf
      exact Ke0 τ (Option.some.inj hf).symm _ _ hJ ls (lv_sub hl [0] rfl)
    · rw [if_neg c9] at hf
      refine lv_aload_n hx hb dX7_reckonMiddle_19 rfl (lv_at hl 0 rfl) ?_
      obtain ⟨b10, e11, hf⟩ := mb0 hf
      refine my_gR hx hb hts hown hK hJ fd_RX7_11 hv_7_0 e11 dX7_reckonMiddle_20 ?_
      refine lv_iload_n hx hb dX7_reckonMiddle_23 rfl (lv_at hl 2 rfl) ?_
      obtain ⟨b12, e13, hf⟩ := mb0 hf
      refine mx_aR hx hb hK hJ (t := 4) rfl (fun _ _ _ => rfl) e13 dX7_reckonMiddle_24 ?_
      refine lv_astore_n (lv' := [(3, .ref b12), (0, .ref v0), (1, .int v1), (2, .int v2)]) hx hb dX7_reckonMiddle_25 rfl hl (by decide) rfl (fun ls hl => ?_)
      refine lv_aload_n hx hb dX7_reckonMiddle_26 rfl (lv_at hl 0 rfl) ?_
      obtain ⟨x14, e15, hf⟩ := mb0 hf
      refine my_gI hx hb hts hown hK hJ fd_RX7_387 hv_5_19 e15 dX7_reckonMiddle_27 ?_
      refine lv_if_eq (tgt := 66) hx hb dX7_reckonMiddle_30 (by decide) (fun c16 => ?_) (fun c16 => ?_)
      · rw [if_pos c16] at hf
        exact D66_11 v0 v1 v2 τ o hf Kb Ke0 _ _ hJ ls (lv_sub hl [1, 2, 3] rfl)
      · rw [if_neg c16] at hf
        refine lv_aload_n hx hb dX7_reckonMiddle_33 rfl (lv_at hl 1 rfl) ?_
        obtain ⟨b19, e20, hf⟩ := mb0 hf
        refine my_gR hx hb hts hown hK hJ fd_RX7_74 hv_7_19 e20 dX7_reckonMiddle_34 ?_
        refine lv_aload_n hx hb dX7_reckonMiddle_37 rfl (lv_at hl 0 rfl) ?_
        obtain ⟨x21, e22, hf⟩ := mb0 hf
        refine my_gI hx hb hts hown hK hJ fd_RX7_387 hv_5_19 e22 dX7_reckonMiddle_38 ?_
        refine lv_i2l hx hb dX7_reckonMiddle_41 rfl ?_
        refine lv_iload_n hx hb dX7_reckonMiddle_42 rfl (lv_at hl 2 rfl) ?_
        refine lv_if_ne (tgt := 56) hx hb dX7_reckonMiddle_43 (by decide) (fun c23 => ?_) (fun c23 => ?_)
        · rw [if_neg c23] at hf
          refine lv_aload_n hx hb dX7_reckonMiddle_56 rfl (lv_at hl 0 rfl) ?_
          obtain ⟨b24, e25, hf⟩ := mb0 hf
          refine my_gR hx hb hts hown hK hJ fd_RX7_194 hv_5_12 e25 dX7_reckonMiddle_57 ?_
          obtain ⟨b26, e27, hf⟩ := mb0 hf
          refine my_gR hx hb hts hown hK hJ fd_RX7_241 hv_8_1 e27 dX7_reckonMiddle_60 ?_
          exact D63_11 v0 v1 v2 b26 (x21.toInt64) b19 τ o hf Kb Ke0 _ _ hJ ls (lv_sub hl [1, 2, 3] rfl)
        · rw [if_pos c23] at hf
          refine lv_aload_n hx hb dX7_reckonMiddle_46 rfl (lv_at hl 0 rfl) ?_
          obtain ⟨b32, e33, hf⟩ := mb0 hf
          refine my_gR hx hb hts hown hK hJ fd_RX7_194 hv_5_12 e33 dX7_reckonMiddle_47 ?_
          obtain ⟨b34, e35, hf⟩ := mb0 hf
          refine my_gR hx hb hts hown hK hJ fd_RX7_30 hv_8_0 e35 dX7_reckonMiddle_50 ?_
          refine lv_goto (tgt := 63) hx hb dX7_reckonMiddle_53 (by decide) ?_
          exact D63_11 v0 v1 v2 b34 (x21.toInt64) b19 τ o hf Kb Ke0 _ _ hJ ls (lv_sub hl [1, 2, 3] rfl)
  have L11 : ∀ (v0 : Nat) (v1 : Int32) (n : Nat) (v2 : Int32) (τ : mx_S) (o : (mx_S)), mx_lp (f_X7_reckonMiddle_L11 P v0 v1) n (v2, τ) = some o → (∀  (υ : mx_S), o = υ → ∀ (H : Heap) (locs : List Loc), mx_J G P s.heap (mxz σ) (mxu σ) υ H locs → ∀ ls : Array Slot, lv_has ls 4 [(0, .ref v0)] → W p l e (mx_rm P 2 51 σ) s m ([.ref a0, .int p1] : List Value).toArray below meth c H locs (mxz υ - mxz σ) (mxu υ - mxu σ) (mx_Z below G P none σ σ' [.ref a0, .int p1] s) (F0 m 72 ls [])) → ∀ (H : Heap) (locs : List Loc), mx_J G P s.heap (mxz σ) (mxu σ) τ H locs → ∀ ls : Array Slot, lv_has ls 4 [(0, .ref v0), (1, .int v1), (2, .int v2)] → W p l e (mx_rm P 2 51 σ) s m ([.ref a0, .int p1] : List Value).toArray below meth c H locs (mxz τ - mxz σ) (mxu τ - mxu σ) (mx_Z below G P none σ σ' [.ref a0, .int p1] s) (F0 m 11 ls []) := by
    intro v0 v1 n
    induction n with
    | zero =>
      intro v2 τ o hf
      rw [mx_lp0] at hf
      cases hf
    | succ n ih =>
      intro v2 τ o hf Ke0 H locs hJ ls hl
      rw [mx_lpS] at hf
      obtain ⟨b, eb, hf⟩ := mb0 hf
      refine B11 v0 v1 v2 τ b eb (fun y2 υ ho H locs hJ ls hl => ?_) (fun  υ ho H locs hJ ls hl => ?_) H locs hJ ls hl
      · subst ho
        exact ih y2 υ o hf Ke0 H locs hJ ls hl
      · subst ho
        exact Ke0  υ (Option.some.inj hf).symm _ _ hJ ls hl
  unfold f_X7_reckonMiddle at hf
  refine lv_aload_n hx hb dX7_reckonMiddle_0 rfl (lv_at hl 0 rfl) ?_
  obtain ⟨b1, e2, hf⟩ := mb0 hf
  refine my_gR hx hb hts hown hK hJ fd_RX7_74 hv_7_19 e2 dX7_reckonMiddle_1 ?_
  refine lv_lconst (v := 0) hx hb dX7_reckonMiddle_4 (by decide) ?_
  refine lv_lconst (v := 0) hx hb dX7_reckonMiddle_5 (by decide) ?_
  obtain ⟨i3, e4, hf⟩ := mb0 hf
  obtain ⟨σ5, e6, hf⟩ := mb0 hf
  refine mx_callV (As := [.long (0 : Int64), .long (0 : Int64)]) (rest := []) hx hb hml hts hown hK hJ rfl rfl (ci := 0) rfl e4 (c_X0_keep l G P b1 (0 : Int64) (0 : Int64) σ σ5 e6) me_X0_keep kw_480 kw_481 kw_479 (Nat.le_of_ble_eq_true rfl) (Nat.le_of_ble_eq_true rfl) rfl hl.1 rfl (Nat.le_of_ble_eq_true rfl) dX7_reckonMiddle_6 (fun H locs hJ => ?_)
  refine lv_iconst (v := 0) hx hb dX7_reckonMiddle_9 (by decide) ?_
  refine lv_istore_n (lv' := [(2, .int (0 : Int32)), (0, .ref a0), (1, .int p1)]) hx hb dX7_reckonMiddle_10 rfl hl (by decide) rfl (fun ls hl => ?_)
  obtain ⟨o36, e37, hf⟩ := mb0 hf
  refine L11 a0 p1 (mpN P) (0 : Int32) σ5 o36 e37 (fun σ38 ho H locs hJ ls hl => ?_) _ _ hJ ls (lv_sub hl [1, 2, 0] rfl)
  · rw [ho] at hf
    have hf : ((mg_R σ38 a0 7 19).bind fun b39 => (mx_is σ38 a0 7).bind fun i41 => mx_b2 (f_X7_massInAll P a0 σ38) fun x44 σ43 => (mx_is σ43 b39 0).bind fun i46 => (f_X0_shareAmong P b39 (x44.toInt64) σ43).bind fun σ48 => some σ48) = some σ' := hf
    refine lv_aload_n hx hb dX7_reckonMiddle_72 rfl (lv_at hl 0 rfl) ?_
    obtain ⟨b39, e40, hf⟩ := mb0 hf
    refine my_gR hx hb hts hown hK hJ fd_RX7_74 hv_7_19 e40 dX7_reckonMiddle_73 ?_
    refine lv_aload_n hx hb dX7_reckonMiddle_76 rfl (lv_at hl 0 rfl) ?_
    obtain ⟨i41, e42, hf⟩ := mb0 hf
    obtain ⟨x44, σ43, e45, hf⟩ := mc0 hf
    refine mx_callV (As := []) (rest := [.ref b39]) hx hb hml hts hown hK hJ rfl rfl (ci := 7) rfl e42 (c_X7_massInAll l G P a0 σ38 x44 σ43 e45) me_X7_massInAll kw_1433 kw_1434 kw_1440 (Nat.le_of_ble_eq_true rfl) (Nat.le_of_ble_eq_true rfl) rfl hl.1 rfl (Nat.le_of_ble_eq_true rfl) dX7_reckonMiddle_77 (fun H locs hJ => ?_)
    refine lv_i2l hx hb dX7_reckonMiddle_80 rfl ?_
    obtain ⟨i46, e47, hf⟩ := mb0 hf
    obtain ⟨σ48, e49, hf⟩ := mb0 hf
    refine mx_callV (As := [.long (x44.toInt64)]) (rest := []) hx hb hml hts hown hK hJ rfl rfl (ci := 0) rfl e47 (c_X0_shareAmong l G P b39 (x44.toInt64) σ43 σ48 e49) me_X0_shareAmong kw_752 kw_753 kw_751 (Nat.le_of_ble_eq_true rfl) (Nat.le_of_ble_eq_true rfl) rfl hl.1 rfl (Nat.le_of_ble_eq_true rfl) dX7_reckonMiddle_81 (fun H locs hJ => ?_)
    exact my_vret hx hb hr hlocks hJ hf dX7_reckonMiddle_84
set_option maxHeartbeats 4000000 in
set_option maxRecDepth 100000 in
theorem c_X9_init (l : Launch) (G : mx_G) (P : mx_P) (a0 : Nat) (σ : mx_S) (σ' : mx_S) (hf : f_X9_init P a0 σ = some σ') : mxz σ ≤ mpc P → mxu σ ≤ mps P → mx_M l yX9_init cX9_init 1 none 1 12 G P [.ref a0] σ none σ' := by
  intro hcap hcau
  refine mx_ofW (by decide +kernel) hcap hcau (Nat.le_of_ble_eq_true rfl) ?_
  intro p e s m below meth c hx hb hr hml hts hown hlocks hname hK hJ ls hl
  have hz0 := hJ.2.1
  have hown : s.vm.findClass RX9 = some m.cls := hown
  have hl : lv_has ls 1 [(0, .ref a0)] := hl
  unfold f_X9_init at hf
  refine lv_aload_n hx hb dX9_init_0 rfl (lv_at hl 0 rfl) ?_
  refine W.objInit hx hb hown (hts _ kw_236) (hts _ kw_35) (hts _ kw_36) rfl (by rw [hml]; exact hl.1) rfl dX9_init_1 (Nat.le_of_ble_eq_true rfl) (Nat.le_of_ble_eq_true rfl) ?_
  refine W.eq (g2 := F0 m 4 ls []) rfl ?_
  refine lv_aload_n hx hb dX9_init_4 rfl (lv_at hl 0 rfl) ?_
  refine lv_bipush (v := 24) hx hb dX9_init_5 (by decide) ?_
  obtain ⟨b1, σ2, e3, hf⟩ := mc0 hf
  refine mx_nA hx hb hts hK hJ rfl rfl (t := 1) (by decide) rfl (fun _ h => h) (by decide) rfl e3 kw_138 dX9_init_7 (fun H locs hJ => ?_)
  obtain ⟨σ4, e5, hf⟩ := mb0 hf
  refine my_pR hx hb hts hown hK hJ fd_RX9_9 cd_9 (Or.inr ⟨rfl, hname, rfl⟩) ft_9_1 e5 dX9_init_9 (fun H locs hJ => ?_)
  refine lv_aload_n hx hb dX9_init_12 rfl (lv_at hl 0 rfl) ?_
  refine lv_bipush (v := 24) hx hb dX9_init_13 (by decide) ?_
  obtain ⟨b6, σ7, e8, hf⟩ := mc0 hf
  refine mx_nA hx hb hts hK hJ rfl rfl (t := 1) (by decide) rfl (fun _ h => h) (by decide) rfl e8 kw_138 dX9_init_15 (fun H locs hJ => ?_)
  obtain ⟨σ9, e10, hf⟩ := mb0 hf
  refine my_pR hx hb hts hown hK hJ fd_RX9_13 cd_9 (Or.inr ⟨rfl, hname, rfl⟩) ft_9_2 e10 dX9_init_17 (fun H locs hJ => ?_)
  exact my_vret hx hb hr hlocks hJ hf dX9_init_20
set_option maxHeartbeats 4000000 in
set_option maxRecDepth 100000 in
theorem c_X9_addCorner (l : Launch) (G : mx_G) (P : mx_P) (a0 : Nat) (p1 : Int32) (p2 : Int32) (σ : mx_S) (r : Int32) (σ' : mx_S) (hf : f_X9_addCorner P a0 p1 p2 σ = some (r, σ')) : mxz σ ≤ mpc P → mxu σ ≤ mps P → mx_M l yX9_addCorner cX9_addCorner 3 (some .int) 0 0 G P [.ref a0, .int p1, .int p2] σ (some (.int r)) σ' := by
  intro hcap hcau
  refine mx_ofW (by decide +kernel) hcap hcau (Nat.le_of_ble_eq_true rfl) ?_
  intro p e s m below meth c hx hb hr hml hts hown hlocks hname hK hJ ls hl
  have hz0 := hJ.2.1
  have hown : s.vm.findClass RX9 = some m.cls := hown
  have hl : lv_has ls 3 [(0, .ref a0), (1, .int p1), (2, .int p2)] := hl
  have D41 : ∀ (v0 : Nat) (τ : mx_S), f_X9_addCorner_D41 P v0 τ = some (r, σ') → ∀ (H : Heap) (locs : List Loc), mx_J G P s.heap (mxz σ) (mxu σ) τ H locs → ∀ ls : Array Slot, lv_has ls 3 [(0, .ref v0)] → W p l e (mx_rm P 0 0 σ) s m ([.ref a0, .int p1, .int p2] : List Value).toArray below meth c H locs (mxz τ - mxz σ) (mxu τ - mxu σ) (mx_Z below G P (some (.int r)) σ σ' [.ref a0, .int p1, .int p2] s) (F0 m 41 ls []) := by
    intro v0 τ hf _ _ hJ ls hl
    unfold f_X9_addCorner_D41 at hf
    refine lv_aload_n hx hb dX9_addCorner_41 rfl (lv_at hl 0 rfl) ?_
    obtain ⟨x4, e5, hf⟩ := mb0 hf
    refine my_gI hx hb hts hown hK hJ fd_RX9_16 hv_9_0 e5 dX9_addCorner_42 ?_
    exact my_iret hx hb hr hlocks hJ hf dX9_addCorner_45
  unfold f_X9_addCorner at hf
  refine lv_aload_n hx hb dX9_addCorner_0 rfl (lv_at hl 0 rfl) ?_
  obtain ⟨x1, e2, hf⟩ := mb0 hf
  refine my_gI hx hb hts hown hK hJ fd_RX9_16 hv_9_0 e2 dX9_addCorner_1 ?_
  refine lv_bipush (v := 24) hx hb dX9_addCorner_4 (by decide) ?_
  refine lv_icmp_ge (tgt := 41) hx hb dX9_addCorner_6 (by decide) (fun c3 => ?_) (fun c3 => ?_)
  · rw [if_pos c3] at hf
    exact D41 a0 σ hf _ _ hJ ls (lv_sub hl [0] rfl)
  · rw [if_neg c3] at hf
    refine lv_aload_n hx hb dX9_addCorner_9 rfl (lv_at hl 0 rfl) ?_
    obtain ⟨b6, e7, hf⟩ := mb0 hf
    refine my_gR hx hb hts hown hK hJ fd_RX9_9 hv_9_1 e7 dX9_addCorner_10 ?_
    refine lv_aload_n hx hb dX9_addCorner_13 rfl (lv_at hl 0 rfl) ?_
    obtain ⟨x8, e9, hf⟩ := mb0 hf
    refine my_gI hx hb hts hown hK hJ fd_RX9_16 hv_9_0 e9 dX9_addCorner_14 ?_
    refine lv_iload_n hx hb dX9_addCorner_17 rfl (lv_at hl 1 rfl) ?_
    refine lv_i2l hx hb dX9_addCorner_18 rfl ?_
    obtain ⟨σ10, e11, hf⟩ := mb0 hf
    refine mx_sL hx hb hK hJ e11 dX9_addCorner_19 (fun H locs hJ => ?_)
    refine lv_aload_n hx hb dX9_addCorner_20 rfl (lv_at hl 0 rfl) ?_
    obtain ⟨b12, e13, hf⟩ := mb0 hf
    refine my_gR hx hb hts hown hK hJ fd_RX9_13 hv_9_2 e13 dX9_addCorner_21 ?_
    refine lv_aload_n hx hb dX9_addCorner_24 rfl (lv_at hl 0 rfl) ?_
    obtain ⟨x14, e15, hf⟩ := mb0 hf
    refine my_gI hx hb hts hown hK hJ fd_RX9_16 hv_9_0 e15 dX9_addCorner_25 ?_
    refine lv_iload_n hx hb dX9_addCorner_28 rfl (lv_at hl 2 rfl) ?_
    refine lv_i2l hx hb dX9_addCorner_29 rfl ?_
    obtain ⟨σ16, e17, hf⟩ := mb0 hf
    refine mx_sL hx hb hK hJ e17 dX9_addCorner_30 (fun H locs hJ => ?_)
    refine lv_aload_n hx hb dX9_addCorner_31 rfl (lv_at hl 0 rfl) ?_
    refine lv_dup hx hb dX9_addCorner_32 rfl ?_
    obtain ⟨x18, e19, hf⟩ := mb0 hf
    refine my_gI hx hb hts hown hK hJ fd_RX9_16 hv_9_0 e19 dX9_addCorner_33 ?_
    refine lv_iconst (v := 1) hx hb dX9_addCorner_36 (by decide) ?_
    refine lv_iadd hx hb dX9_addCorner_37 ?_
    obtain ⟨σ20, e21, hf⟩ := mb0 hf
    refine my_pI hx hb hts hown hK hJ fd_RX9_16 cd_9 (Or.inl rfl) ht_9_0 e21 dX9_addCorner_38 (fun H locs hJ => ?_)
    exact D41 a0 σ20 hf _ _ hJ ls (lv_sub hl [0] rfl)
set_option maxHeartbeats 4000000 in
set_option maxRecDepth 100000 in
theorem c_X9_after (l : Launch) (G : mx_G) (P : mx_P) (a0 : Nat) (p1 : Int32) (σ : mx_S) (r : Int32) (σ' : mx_S) (hf : f_X9_after P a0 p1 σ = some (r, σ')) : mxz σ ≤ mpc P → mxu σ ≤ mps P → mx_M l yX9_after cX9_after 2 (some .int) 0 0 G P [.ref a0, .int p1] σ (some (.int r)) σ' := by
  intro hcap hcau
  refine mx_ofW (by decide +kernel) hcap hcau (Nat.le_of_ble_eq_true rfl) ?_
  intro p e s m below meth c hx hb hr hml hts hown hlocks hname hK hJ ls hl
  have hz0 := hJ.2.1
  have hown : s.vm.findClass RX9 = some m.cls := hown
  have hl : lv_has ls 2 [(0, .ref a0), (1, .int p1)] := hl
  have D17 : ∀ (w0 : Int32) (τ : mx_S), f_X9_after_D17 P w0 τ = some (r, σ') → ∀ (H : Heap) (locs : List Loc), mx_J G P s.heap (mxz σ) (mxu σ) τ H locs → ∀ ls : Array Slot, lv_has ls 2 [] → W p l e (mx_rm P 0 0 σ) s m ([.ref a0, .int p1] : List Value).toArray below meth c H locs (mxz τ - mxz σ) (mxu τ - mxu σ) (mx_Z below G P (some (.int r)) σ σ' [.ref a0, .int p1] s) (F0 m 17 ls [.int w0]) := by
    intro w0 τ hf _ _ hJ ls hl
    unfold f_X9_after_D17 at hf
    exact my_iret hx hb hr hlocks hJ hf dX9_after_17
  unfold f_X9_after at hf
  refine lv_iload_n hx hb dX9_after_0 rfl (lv_at hl 1 rfl) ?_
  refine lv_iconst (v := 1) hx hb dX9_after_1 (by decide) ?_
  refine lv_iadd hx hb dX9_after_2 ?_
  refine lv_aload_n hx hb dX9_after_3 rfl (lv_at hl 0 rfl) ?_
  obtain ⟨x1, e2, hf⟩ := mb0 hf
  refine my_gI hx hb hts hown hK hJ fd_RX9_16 hv_9_0 e2 dX9_after_4 ?_
  refine lv_icmp_ge (tgt := 16) hx hb dX9_after_7 (by decide) (fun c3 => ?_) (fun c3 => ?_)
  · rw [if_pos c3] at hf
    refine lv_iconst (v := 0) hx hb dX9_after_16 (by decide) ?_
    exact D17 (0 : Int32) σ hf _ _ hJ ls (lv_sub hl [] rfl)
  · rw [if_neg c3] at hf
    refine lv_iload_n hx hb dX9_after_10 rfl (lv_at hl 1 rfl) ?_
    refine lv_iconst (v := 1) hx hb dX9_after_11 (by decide) ?_
    refine lv_iadd hx hb dX9_after_12 ?_
    refine lv_goto (tgt := 17) hx hb dX9_after_13 (by decide) ?_
    exact D17 (p1 + (1 : Int32)) σ hf _ _ hJ ls (lv_sub hl [] rfl)
set_option maxHeartbeats 4000000 in
set_option maxRecDepth 100000 in
theorem c_X9_crossAt (l : Launch) (G : mx_G) (P : mx_P) (a0 : Nat) (p1 : Int32) (σ : mx_S) (r : Int64) (σ' : mx_S) (hf : f_X9_crossAt P a0 p1 σ = some (r, σ')) : mxz σ ≤ mpc P → mxu σ ≤ mps P → mx_M l yX9_crossAt cX9_crossAt 3 (some .long) 1 21 G P [.ref a0, .int p1] σ (some (.long r)) σ' := by
  intro hcap hcau
  refine mx_ofW (by decide +kernel) hcap hcau (Nat.le_of_ble_eq_true rfl) ?_
  intro p e s m below meth c hx hb hr hml hts hown hlocks hname hK hJ ls hl
  have hz0 := hJ.2.1
  have hown : s.vm.findClass RX9 = some m.cls := hown
  have hl : lv_has ls 3 [(0, .ref a0), (1, .int p1)] := hl
  unfold f_X9_crossAt at hf
  refine lv_aload_n hx hb dX9_crossAt_0 rfl (lv_at hl 0 rfl) ?_
  refine lv_iload_n hx hb dX9_crossAt_1 rfl (lv_at hl 1 rfl) ?_
  obtain ⟨i1, e2, hf⟩ := mb0 hf
  obtain ⟨x4, σ3, e5, hf⟩ := mc0 hf
  refine mx_callV (As := [.int p1]) (rest := []) hx hb hml hts hown hK hJ rfl rfl (ci := 9) rfl e2 (c_X9_after l G P a0 p1 σ x4 σ3 e5) me_X9_after kw_1670 ks_58 kw_1668 (Nat.le_of_ble_eq_true rfl) (Nat.le_of_ble_eq_true rfl) rfl hl.1 rfl (Nat.le_of_ble_eq_true rfl) dX9_crossAt_2 (fun H locs hJ => ?_)
  refine lv_istore_n (lv' := [(2, .int x4), (0, .ref a0), (1, .int p1)]) hx hb dX9_crossAt_5 rfl hl (by decide) rfl (fun ls hl => ?_)
  refine lv_aload_n hx hb dX9_crossAt_6 rfl (lv_at hl 1 rfl) ?_
  obtain ⟨b6, e7, hf⟩ := mb0 hf
  refine my_gR hx hb hts hown hK hJ fd_RX9_9 hv_9_1 e7 dX9_crossAt_7 ?_
  refine lv_iload_n hx hb dX9_crossAt_10 rfl (lv_at hl 2 rfl) ?_
  obtain ⟨x8, e9, hf⟩ := mb0 hf
  refine mx_aL hx hb hK hJ e9 dX9_crossAt_11 ?_
  refine lv_aload_n hx hb dX9_crossAt_12 rfl (lv_at hl 1 rfl) ?_
  obtain ⟨b10, e11, hf⟩ := mb0 hf
  refine my_gR hx hb hts hown hK hJ fd_RX9_13 hv_9_2 e11 dX9_crossAt_13 ?_
  refine lv_iload_n hx hb dX9_crossAt_16 rfl (lv_at hl 0 rfl) ?_
  obtain ⟨x12, e13, hf⟩ := mb0 hf
  refine mx_aL hx hb hK hJ e13 dX9_crossAt_17 ?_
  refine lv_lmul hx hb dX9_crossAt_18 ?_
  refine lv_aload_n hx hb dX9_crossAt_19 rfl (lv_at hl 1 rfl) ?_
  obtain ⟨b14, e15, hf⟩ := mb0 hf
  refine my_gR hx hb hts hown hK hJ fd_RX9_9 hv_9_1 e15 dX9_crossAt_20 ?_
  refine lv_iload_n hx hb dX9_crossAt_23 rfl (lv_at hl 0 rfl) ?_
  obtain ⟨x16, e17, hf⟩ := mb0 hf
  refine mx_aL hx hb hK hJ e17 dX9_crossAt_24 ?_
  refine lv_aload_n hx hb dX9_crossAt_25 rfl (lv_at hl 1 rfl) ?_
  obtain ⟨b18, e19, hf⟩ := mb0 hf
  refine my_gR hx hb hts hown hK hJ fd_RX9_13 hv_9_2 e19 dX9_crossAt_26 ?_
  refine lv_iload_n hx hb dX9_crossAt_29 rfl (lv_at hl 2 rfl) ?_
  obtain ⟨x20, e21, hf⟩ := mb0 hf
  refine mx_aL hx hb hK hJ e21 dX9_crossAt_30 ?_
  refine lv_lmul hx hb dX9_crossAt_31 ?_
  refine lv_lsub hx hb dX9_crossAt_32 ?_
  exact my_lret hx hb hr hlocks hJ hf dX9_crossAt_33
set_option maxHeartbeats 4000000 in
set_option maxRecDepth 100000 in
theorem c_X9_twiceArea (l : Launch) (G : mx_G) (P : mx_P) (a0 : Nat) (σ : mx_S) (r : Int64) (σ' : mx_S) (hf : f_X9_twiceArea P a0 σ = some (r, σ')) : mxz σ ≤ mpc P → mxu σ ≤ mps P → mx_M l yX9_twiceArea cX9_twiceArea 4 (some .long) 2 43 G P [.ref a0] σ (some (.long r)) σ' := by
  intro hcap hcau
  refine mx_ofW (by decide +kernel) hcap hcau (Nat.le_of_ble_eq_true rfl) ?_
  intro p e s m below meth c hx hb hr hml hts hown hlocks hname hK hJ ls hl
  have hz0 := hJ.2.1
  have hown : s.vm.findClass RX9 = some m.cls := hown
  have hl : lv_has ls 4 [(0, .ref a0)] := hl
  have B4 : ∀ (v0 : Nat) (v1 : Int64) (v3 : Int32) (τ : mx_S) (o : (Int64 × Int32 × mx_S) ⊕ ((Int64 × mx_S))), f_X9_twiceArea_B4 P v0 v1 v3 τ = some o → (∀ (y1 : Int64) (y3 : Int32) (υ : mx_S), o = .inl (y1, y3, υ) → ∀ (H : Heap) (locs : List Loc), mx_J G P s.heap (mxz σ) (mxu σ) υ H locs → ∀ ls : Array Slot, lv_has ls 4 [(0, .ref v0), (1, .long y1), (3, .int y3)] → W p l e (mx_rm P 2 43 σ) s m ([.ref a0] : List Value).toArray below meth c H locs (mxz υ - mxz σ) (mxu υ - mxu σ) (mx_Z below G P (some (.long r)) σ σ' [.ref a0] s) (F0 m 4 ls [])) → (∀ (y1 : Int64) (υ : mx_S), o = .inr (y1, υ) → ∀ (H : Heap) (locs : List Loc), mx_J G P s.heap (mxz σ) (mxu σ) υ H locs → ∀ ls : Array Slot, lv_has ls 4 [(1, .long y1)] → W p l e (mx_rm P 2 43 σ) s m ([.ref a0] : List Value).toArray below meth c H locs (mxz υ - mxz σ) (mxu υ - mxu σ) (mx_Z below G P (some (.long r)) σ σ' [.ref a0] s) (F0 m 26 ls [])) → ∀ (H : Heap) (locs : List Loc), mx_J G P s.heap (mxz σ) (mxu σ) τ H locs → ∀ ls : Array Slot, lv_has ls 4 [(0, .ref v0), (1, .long v1), (3, .int v3)] → W p l e (mx_rm P 2 43 σ) s m ([.ref a0] : List Value).toArray below meth c H locs (mxz τ - mxz σ) (mxu τ - mxu σ) (mx_Z below G P (some (.long r)) σ σ' [.ref a0] s) (F0 m 4 ls []) := by
    intro v0 v1 v3 τ o hf Kb Ke0 H locs hJ ls hl
    unfold f_X9_twiceArea_B4 at hf
    refine lv_iload_n hx hb dX9_twiceArea_4 rfl (lv_at hl 2 rfl) ?_
    refine lv_aload_n hx hb dX9_twiceArea_5 rfl (lv_at hl 0 rfl) ?_
    obtain ⟨x1, e2, hf⟩ := mb0 hf
    refine my_gI hx hb hts hown hK hJ fd_RX9_16 hv_9_0 e2 dX9_twiceArea_6 ?_
    refine lv_icmp_ge (tgt := 26) hx hb dX9_twiceArea_9 (by decide) (fun c3 => ?_) (fun c3 => ?_)
    · rw [if_pos c3] at hf
      exact Ke0 v1 τ (Option.some.inj hf).symm _ _ hJ ls (lv_sub hl [1] rfl)
    · rw [if_neg c3] at hf
      refine lv_lload_n hx hb dX9_twiceArea_12 rfl (lv_at hl 1 rfl) ?_
      refine lv_aload_n hx hb dX9_twiceArea_13 rfl (lv_at hl 0 rfl) ?_
      refine lv_iload_n hx hb dX9_twiceArea_14 rfl (lv_at hl 2 rfl) ?_
      obtain ⟨i4, e5, hf⟩ := mb0 hf
      obtain ⟨x7, σ6, e8, hf⟩ := mc0 hf
      refine mx_callV (As := [.int v3]) (rest := [.long v1]) hx hb hml hts hown hK hJ rfl rfl (ci := 9) rfl e5 (c_X9_crossAt l G P v0 v3 τ x7 σ6 e8) me_X9_crossAt kw_1666 ks_57 kw_1664 (Nat.le_of_ble_eq_true rfl) (Nat.le_of_ble_eq_true rfl) rfl hl.1 rfl (Nat.le_of_ble_eq_true rfl) dX9_twiceArea_15 (fun H locs hJ => ?_)
      refine lv_ladd hx hb dX9_twiceArea_18 ?_
      obtain ⟨x9, e10, hf⟩ := mb0 hf
      refine mx_nL e10 ?_
      refine lv_lstore_n (lv' := [(1, .long x9), (0, .ref v0), (3, .int v3)]) hx hb dX9_twiceArea_19 rfl hl (by decide) rfl (fun ls hl => ?_)
      obtain ⟨x11, e12, hf⟩ := mb0 hf
      refine lv_iinc (v := x11) (lv' := [(3, .int x11), (1, .long x9), (0, .ref v0)]) hx hb dX9_twiceArea_20 hl (k := 2) rfl (by rw [← Option.some.inj e12]; rfl) (by decide) rfl (fun ls hl => ?_)
      refine lv_goto (tgt := 4) hx hb dX9_twiceArea_23 (by decide) ?_
      exact Kb x9 x11 σ6 (Option.some.inj hf).symm _ _ hJ ls (lv_sub hl [2, 1, 0] rfl)
  have L4 : ∀ (v0 : Nat) (n : Nat) (v1 : Int64) (v3 : Int32) (τ : mx_S) (o : (Int64 × mx_S)), mx_lp (f_X9_twiceArea_L4 P v0) n (v1, v3, τ) = some o → (∀ (y1 : Int64) (υ : mx_S), o = (y1, υ) → ∀ (H : Heap) (locs : List Loc), mx_J G P s.heap (mxz σ) (mxu σ) υ H locs → ∀ ls : Array Slot, lv_has ls 4 [(1, .long y1)] → W p l e (mx_rm P 2 43 σ) s m ([.ref a0] : List Value).toArray below meth c H locs (mxz υ - mxz σ) (mxu υ - mxu σ) (mx_Z below G P (some (.long r)) σ σ' [.ref a0] s) (F0 m 26 ls [])) → ∀ (H : Heap) (locs : List Loc), mx_J G P s.heap (mxz σ) (mxu σ) τ H locs → ∀ ls : Array Slot, lv_has ls 4 [(0, .ref v0), (1, .long v1), (3, .int v3)] → W p l e (mx_rm P 2 43 σ) s m ([.ref a0] : List Value).toArray below meth c H locs (mxz τ - mxz σ) (mxu τ - mxu σ) (mx_Z below G P (some (.long r)) σ σ' [.ref a0] s) (F0 m 4 ls []) := by
    intro v0 n
    induction n with
    | zero =>
      intro v1 v3 τ o hf
      rw [mx_lp0] at hf
      cases hf
    | succ n ih =>
      intro v1 v3 τ o hf Ke0 H locs hJ ls hl
      rw [mx_lpS] at hf
      obtain ⟨b, eb, hf⟩ := mb0 hf
      refine B4 v0 v1 v3 τ b eb (fun y1 y3 υ ho H locs hJ ls hl => ?_) (fun y1 υ ho H locs hJ ls hl => ?_) H locs hJ ls hl
      · subst ho
        exact ih y1 y3 υ o hf Ke0 H locs hJ ls hl
      · subst ho
        exact Ke0 y1 υ (Option.some.inj hf).symm _ _ hJ ls hl
  unfold f_X9_twiceArea at hf
  refine lv_lconst (v := 0) hx hb dX9_twiceArea_0 (by decide) ?_
  refine lv_lstore_n (lv' := [(1, .long (0 : Int64)), (0, .ref a0)]) hx hb dX9_twiceArea_1 rfl hl (by decide) rfl (fun ls hl => ?_)
  refine lv_iconst (v := 0) hx hb dX9_twiceArea_2 (by decide) ?_
  refine lv_istore_n (lv' := [(3, .int (0 : Int32)), (1, .long (0 : Int64)), (0, .ref a0)]) hx hb dX9_twiceArea_3 rfl hl (by decide) rfl (fun ls hl => ?_)
  obtain ⟨o13, e14, hf⟩ := mb0 hf
  refine L4 a0 (mpN P) (0 : Int64) (0 : Int32) σ o13 e14 (fun y15 σ16 ho H locs hJ ls hl => ?_) _ _ hJ ls (lv_sub hl [2, 1, 0] rfl)
  · rw [ho] at hf
    have hf : (some (y15, σ16)) = some (r, σ') := hf
    refine lv_lload_n hx hb dX9_twiceArea_26 rfl (lv_at hl 0 rfl) ?_
    exact my_lret hx hb hr hlocks hJ hf dX9_twiceArea_27
set_option maxHeartbeats 4000000 in
set_option maxRecDepth 100000 in
theorem c_X9_weightAt (l : Launch) (G : mx_G) (P : mx_P) (a0 : Nat) (p1 : Int32) (p2 : Int32) (σ : mx_S) (r : Int64) (σ' : mx_S) (hf : f_X9_weightAt P a0 p1 p2 σ = some (r, σ')) : mxz σ ≤ mpc P → mxu σ ≤ mps P → mx_M l yX9_weightAt cX9_weightAt 4 (some .long) 1 21 G P [.ref a0, .int p1, .int p2] σ (some (.long r)) σ' := by
  intro hcap hcau
  refine mx_ofW (by decide +kernel) hcap hcau (Nat.le_of_ble_eq_true rfl) ?_
  intro p e s m below meth c hx hb hr hml hts hown hlocks hname hK hJ ls hl
  have hz0 := hJ.2.1
  have hown : s.vm.findClass RX9 = some m.cls := hown
  have hl : lv_has ls 4 [(0, .ref a0), (1, .int p1), (2, .int p2)] := hl
  unfold f_X9_weightAt at hf
  refine lv_aload_n hx hb dX9_weightAt_0 rfl (lv_at hl 0 rfl) ?_
  refine lv_iload_n hx hb dX9_weightAt_1 rfl (lv_at hl 1 rfl) ?_
  obtain ⟨i1, e2, hf⟩ := mb0 hf
  obtain ⟨x4, σ3, e5, hf⟩ := mc0 hf
  refine mx_callV (As := [.int p1]) (rest := []) hx hb hml hts hown hK hJ rfl rfl (ci := 9) rfl e2 (c_X9_after l G P a0 p1 σ x4 σ3 e5) me_X9_after kw_1670 ks_58 kw_1668 (Nat.le_of_ble_eq_true rfl) (Nat.le_of_ble_eq_true rfl) rfl hl.1 rfl (Nat.le_of_ble_eq_true rfl) dX9_weightAt_2 (fun H locs hJ => ?_)
  refine lv_istore_n (lv' := [(3, .int x4), (0, .ref a0), (1, .int p1), (2, .int p2)]) hx hb dX9_weightAt_5 rfl hl (by decide) rfl (fun ls hl => ?_)
  refine lv_iload_n hx hb dX9_weightAt_6 rfl (lv_at hl 3 rfl) ?_
  refine lv_if_ne (tgt := 24) hx hb dX9_weightAt_7 (by decide) (fun c6 => ?_) (fun c6 => ?_)
  · rw [if_neg c6] at hf
    refine lv_iload_n hx hb dX9_weightAt_24 rfl (lv_at hl 3 rfl) ?_
    refine lv_iconst (v := 1) hx hb dX9_weightAt_25 (by decide) ?_
    refine lv_icmp_ne (tgt := 43) hx hb dX9_weightAt_26 (by decide) (fun c7 => ?_) (fun c7 => ?_)
    · rw [if_neg c7] at hf
      refine lv_aload_n hx hb dX9_weightAt_43 rfl (lv_at hl 1 rfl) ?_
      obtain ⟨b8, e9, hf⟩ := mb0 hf
      refine my_gR hx hb hts hown hK hJ fd_RX9_9 hv_9_1 e9 dX9_weightAt_44 ?_
      refine lv_iload_n hx hb dX9_weightAt_47 rfl (lv_at hl 2 rfl) ?_
      obtain ⟨x10, e11, hf⟩ := mb0 hf
      refine mx_aL hx hb hK hJ e11 dX9_weightAt_48 ?_
      refine lv_aload_n hx hb dX9_weightAt_49 rfl (lv_at hl 1 rfl) ?_
      obtain ⟨b12, e13, hf⟩ := mb0 hf
      refine my_gR hx hb hts hown hK hJ fd_RX9_9 hv_9_1 e13 dX9_weightAt_50 ?_
      refine lv_iload_n hx hb dX9_weightAt_53 rfl (lv_at hl 2 rfl) ?_
      obtain ⟨x14, e15, hf⟩ := mb0 hf
      refine mx_aL hx hb hK hJ e15 dX9_weightAt_54 ?_
      refine lv_lmul hx hb dX9_weightAt_55 ?_
      refine lv_aload_n hx hb dX9_weightAt_56 rfl (lv_at hl 1 rfl) ?_
      obtain ⟨b16, e17, hf⟩ := mb0 hf
      refine my_gR hx hb hts hown hK hJ fd_RX9_9 hv_9_1 e17 dX9_weightAt_57 ?_
      refine lv_iload_n hx hb dX9_weightAt_60 rfl (lv_at hl 2 rfl) ?_
      obtain ⟨x18, e19, hf⟩ := mb0 hf
      refine mx_aL hx hb hK hJ e19 dX9_weightAt_61 ?_
      refine lv_aload_n hx hb dX9_weightAt_62 rfl (lv_at hl 1 rfl) ?_
      obtain ⟨b20, e21, hf⟩ := mb0 hf
      refine my_gR hx hb hts hown hK hJ fd_RX9_9 hv_9_1 e21 dX9_weightAt_63 ?_
      refine lv_iload_n hx hb dX9_weightAt_66 rfl (lv_at hl 0 rfl) ?_
      obtain ⟨x22, e23, hf⟩ := mb0 hf
      refine mx_aL hx hb hK hJ e23 dX9_weightAt_67 ?_
      refine lv_lmul hx hb dX9_weightAt_68 ?_
      refine lv_ladd hx hb dX9_weightAt_69 ?_
      refine lv_aload_n hx hb dX9_weightAt_70 rfl (lv_at hl 1 rfl) ?_
      obtain ⟨b24, e25, hf⟩ := mb0 hf
      refine my_gR hx hb hts hown hK hJ fd_RX9_9 hv_9_1 e25 dX9_weightAt_71 ?_
      refine lv_iload_n hx hb dX9_weightAt_74 rfl (lv_at hl 0 rfl) ?_
      obtain ⟨x26, e27, hf⟩ := mb0 hf
      refine mx_aL hx hb hK hJ e27 dX9_weightAt_75 ?_
      refine lv_aload_n hx hb dX9_weightAt_76 rfl (lv_at hl 1 rfl) ?_
      obtain ⟨b28, e29, hf⟩ := mb0 hf
      refine my_gR hx hb hts hown hK hJ fd_RX9_9 hv_9_1 e29 dX9_weightAt_77 ?_
      refine lv_iload_n hx hb dX9_weightAt_80 rfl (lv_at hl 0 rfl) ?_
      obtain ⟨x30, e31, hf⟩ := mb0 hf
      refine mx_aL hx hb hK hJ e31 dX9_weightAt_81 ?_
      refine lv_lmul hx hb dX9_weightAt_82 ?_
      refine lv_ladd hx hb dX9_weightAt_83 ?_
      refine lv_aload_n hx hb dX9_weightAt_84 rfl (lv_at hl 1 rfl) ?_
      obtain ⟨b32, e33, hf⟩ := mb0 hf
      refine my_gR hx hb hts hown hK hJ fd_RX9_13 hv_9_2 e33 dX9_weightAt_85 ?_
      refine lv_iload_n hx hb dX9_weightAt_88 rfl (lv_at hl 2 rfl) ?_
      obtain ⟨x34, e35, hf⟩ := mb0 hf
      refine mx_aL hx hb hK hJ e35 dX9_weightAt_89 ?_
      refine lv_aload_n hx hb dX9_weightAt_90 rfl (lv_at hl 1 rfl) ?_
      obtain ⟨b36, e37, hf⟩ := mb0 hf
      refine my_gR hx hb hts hown hK hJ fd_RX9_13 hv_9_2 e37 dX9_weightAt_91 ?_
      refine lv_iload_n hx hb dX9_weightAt_94 rfl (lv_at hl 2 rfl) ?_
      obtain ⟨x38, e39, hf⟩ := mb0 hf
      refine mx_aL hx hb hK hJ e39 dX9_weightAt_95 ?_
      refine lv_lmul hx hb dX9_weightAt_96 ?_
      refine lv_ladd hx hb dX9_weightAt_97 ?_
      refine lv_aload_n hx hb dX9_weightAt_98 rfl (lv_at hl 1 rfl) ?_
      obtain ⟨b40, e41, hf⟩ := mb0 hf
      refine my_gR hx hb hts hown hK hJ fd_RX9_13 hv_9_2 e41 dX9_weightAt_99 ?_
      refine lv_iload_n hx hb dX9_weightAt_102 rfl (lv_at hl 2 rfl) ?_
      obtain ⟨x42, e43, hf⟩ := mb0 hf
      refine mx_aL hx hb hK hJ e43 dX9_weightAt_103 ?_
      refine lv_aload_n hx hb dX9_weightAt_104 rfl (lv_at hl 1 rfl) ?_
      obtain ⟨b44, e45, hf⟩ := mb0 hf
      refine my_gR hx hb hts hown hK hJ fd_RX9_13 hv_9_2 e45 dX9_weightAt_105 ?_
      refine lv_iload_n hx hb dX9_weightAt_108 rfl (lv_at hl 0 rfl) ?_
      obtain ⟨x46, e47, hf⟩ := mb0 hf
      refine mx_aL hx hb hK hJ e47 dX9_weightAt_109 ?_
      refine lv_lmul hx hb dX9_weightAt_110 ?_
      refine lv_ladd hx hb dX9_weightAt_111 ?_
      refine lv_aload_n hx hb dX9_weightAt_112 rfl (lv_at hl 1 rfl) ?_
      obtain ⟨b48, e49, hf⟩ := mb0 hf
      refine my_gR hx hb hts hown hK hJ fd_RX9_13 hv_9_2 e49 dX9_weightAt_113 ?_
      refine lv_iload_n hx hb dX9_weightAt_116 rfl (lv_at hl 0 rfl) ?_
      obtain ⟨x50, e51, hf⟩ := mb0 hf
      refine mx_aL hx hb hK hJ e51 dX9_weightAt_117 ?_
      refine lv_aload_n hx hb dX9_weightAt_118 rfl (lv_at hl 1 rfl) ?_
      obtain ⟨b52, e53, hf⟩ := mb0 hf
      refine my_gR hx hb hts hown hK hJ fd_RX9_13 hv_9_2 e53 dX9_weightAt_119 ?_
      refine lv_iload_n hx hb dX9_weightAt_122 rfl (lv_at hl 0 rfl) ?_
      obtain ⟨x54, e55, hf⟩ := mb0 hf
      refine mx_aL hx hb hK hJ e55 dX9_weightAt_123 ?_
      refine lv_lmul hx hb dX9_weightAt_124 ?_
      refine lv_ladd hx hb dX9_weightAt_125 ?_
      exact my_lret hx hb hr hlocks hJ hf dX9_weightAt_126
    · rw [if_pos c7] at hf
      refine lv_aload_n hx hb dX9_weightAt_29 rfl (lv_at hl 1 rfl) ?_
      obtain ⟨b56, e57, hf⟩ := mb0 hf
      refine my_gR hx hb hts hown hK hJ fd_RX9_13 hv_9_2 e57 dX9_weightAt_30 ?_
      refine lv_iload_n hx hb dX9_weightAt_33 rfl (lv_at hl 2 rfl) ?_
      obtain ⟨x58, e59, hf⟩ := mb0 hf
      refine mx_aL hx hb hK hJ e59 dX9_weightAt_34 ?_
      refine lv_aload_n hx hb dX9_weightAt_35 rfl (lv_at hl 1 rfl) ?_
      obtain ⟨b60, e61, hf⟩ := mb0 hf
      refine my_gR hx hb hts hown hK hJ fd_RX9_13 hv_9_2 e61 dX9_weightAt_36 ?_
      refine lv_iload_n hx hb dX9_weightAt_39 rfl (lv_at hl 0 rfl) ?_
      obtain ⟨x62, e63, hf⟩ := mb0 hf
      refine mx_aL hx hb hK hJ e63 dX9_weightAt_40 ?_
      refine lv_ladd hx hb dX9_weightAt_41 ?_
      exact my_lret hx hb hr hlocks hJ hf dX9_weightAt_42
  · rw [if_pos c6] at hf
    refine lv_aload_n hx hb dX9_weightAt_10 rfl (lv_at hl 1 rfl) ?_
    obtain ⟨b64, e65, hf⟩ := mb0 hf
    refine my_gR hx hb hts hown hK hJ fd_RX9_9 hv_9_1 e65 dX9_weightAt_11 ?_
    refine lv_iload_n hx hb dX9_weightAt_14 rfl (lv_at hl 2 rfl) ?_
    obtain ⟨x66, e67, hf⟩ := mb0 hf
    refine mx_aL hx hb hK hJ e67 dX9_weightAt_15 ?_
    refine lv_aload_n hx hb dX9_weightAt_16 rfl (lv_at hl 1 rfl) ?_
    obtain ⟨b68, e69, hf⟩ := mb0 hf
    refine my_gR hx hb hts hown hK hJ fd_RX9_9 hv_9_1 e69 dX9_weightAt_17 ?_
    refine lv_iload_n hx hb dX9_weightAt_20 rfl (lv_at hl 0 rfl) ?_
    obtain ⟨x70, e71, hf⟩ := mb0 hf
    refine mx_aL hx hb hK hJ e71 dX9_weightAt_21 ?_
    refine lv_ladd hx hb dX9_weightAt_22 ?_
    exact my_lret hx hb hr hlocks hJ hf dX9_weightAt_23
set_option maxHeartbeats 4000000 in
set_option maxRecDepth 100000 in
theorem c_X9_reckon (l : Launch) (G : mx_G) (P : mx_P) (a0 : Nat) (p1 : Int32) (a2 : Nat) (σ : mx_S) (σ' : mx_S) (hf : f_X9_reckon P a0 p1 a2 σ = some σ') : mxz σ ≤ mpc P → mxu σ ≤ mps P → mx_M l yX9_reckon cX9_reckon 6 none 4 101 G P [.ref a0, .int p1, .ref a2] σ none σ' := by
  intro hcap hcau
  refine mx_ofW (by decide +kernel) hcap hcau (Nat.le_of_ble_eq_true rfl) ?_
  intro p e s m below meth c hx hb hr hml hts hown hlocks hname hK hJ ls hl
  have hz0 := hJ.2.1
  have hown : s.vm.findClass RX9 = some m.cls := hown
  have hl : lv_has ls 6 [(0, .ref a0), (1, .int p1), (2, .ref a2)] := hl
  have B5 : ∀ (v0 : Nat) (v1 : Int32) (v2 : Nat) (v3 : Int64) (v5 : Int32) (τ : mx_S) (o : (Int64 × Int32 × mx_S) ⊕ ((Int64 × mx_S))), f_X9_reckon_B5 P v0 v1 v2 v3 v5 τ = some o → (∀ (y3 : Int64) (y5 : Int32) (υ : mx_S), o = .inl (y3, y5, υ) → ∀ (H : Heap) (locs : List Loc), mx_J G P s.heap (mxz σ) (mxu σ) υ H locs → ∀ ls : Array Slot, lv_has ls 6 [(0, .ref v0), (1, .int v1), (2, .ref v2), (3, .long y3), (5, .int y5)] → W p l e (mx_rm P 4 101 σ) s m ([.ref a0, .int p1, .ref a2] : List Value).toArray below meth c H locs (mxz υ - mxz σ) (mxu υ - mxu σ) (mx_Z below G P none σ σ' [.ref a0, .int p1, .ref a2] s) (F0 m 5 ls [])) → (∀ (y3 : Int64) (υ : mx_S), o = .inr (y3, υ) → ∀ (H : Heap) (locs : List Loc), mx_J G P s.heap (mxz σ) (mxu σ) υ H locs → ∀ ls : Array Slot, lv_has ls 6 [(0, .ref v0), (1, .int v1), (2, .ref v2), (3, .long y3)] → W p l e (mx_rm P 4 101 σ) s m ([.ref a0, .int p1, .ref a2] : List Value).toArray below meth c H locs (mxz υ - mxz σ) (mxu υ - mxu σ) (mx_Z below G P none σ σ' [.ref a0, .int p1, .ref a2] s) (F0 m 37 ls [])) → ∀ (H : Heap) (locs : List Loc), mx_J G P s.heap (mxz σ) (mxu σ) τ H locs → ∀ ls : Array Slot, lv_has ls 6 [(0, .ref v0), (1, .int v1), (2, .ref v2), (3, .long v3), (5, .int v5)] → W p l e (mx_rm P 4 101 σ) s m ([.ref a0, .int p1, .ref a2] : List Value).toArray below meth c H locs (mxz τ - mxz σ) (mxu τ - mxu σ) (mx_Z below G P none σ σ' [.ref a0, .int p1, .ref a2] s) (F0 m 5 ls []) := by
    intro v0 v1 v2 v3 v5 τ o hf Kb Ke0 H locs hJ ls hl
    unfold f_X9_reckon_B5 at hf
    refine lv_iload hx hb dX9_reckon_5 (lv_at hl 4 rfl) ?_
    refine lv_aload_n hx hb dX9_reckon_7 rfl (lv_at hl 0 rfl) ?_
    obtain ⟨x1, e2, hf⟩ := mb0 hf
    refine my_gI hx hb hts hown hK hJ fd_RX9_16 hv_9_0 e2 dX9_reckon_8 ?_
    refine lv_icmp_ge (tgt := 37) hx hb dX9_reckon_11 (by decide) (fun c3 => ?_) (fun c3 => ?_)
    · rw [if_pos c3] at hf
      exact Ke0 v3 τ (Option.some.inj hf).symm _ _ hJ ls (lv_sub hl [0, 1, 2, 3] rfl)
    · rw [if_neg c3] at hf
      refine lv_lload_n hx hb dX9_reckon_14 rfl (lv_at hl 3 rfl) ?_
      refine lv_aload_n hx hb dX9_reckon_15 rfl (lv_at hl 0 rfl) ?_
      refine lv_iload hx hb dX9_reckon_16 (lv_at hl 4 rfl) ?_
      obtain ⟨i4, e5, hf⟩ := mb0 hf
      obtain ⟨x7, σ6, e8, hf⟩ := mc0 hf
      refine mx_callV (As := [.int v5]) (rest := [.long v3]) hx hb hml hts hown hK hJ rfl rfl (ci := 9) rfl e5 (c_X9_crossAt l G P v0 v5 τ x7 σ6 e8) me_X9_crossAt kw_1666 ks_57 kw_1664 (Nat.le_of_ble_eq_true rfl) (Nat.le_of_ble_eq_true rfl) rfl hl.1 rfl (Nat.le_of_ble_eq_true rfl) dX9_reckon_18 (fun H locs hJ => ?_)
      refine lv_aload_n hx hb dX9_reckon_21 rfl (lv_at hl 0 rfl) ?_
      refine lv_iload hx hb dX9_reckon_22 (lv_at hl 4 rfl) ?_
      refine lv_iload_n hx hb dX9_reckon_24 rfl (lv_at hl 1 rfl) ?_
      obtain ⟨i9, e10, hf⟩ := mb0 hf
      obtain ⟨x12, σ11, e13, hf⟩ := mc0 hf
      refine mx_callV (As := [.int v5, .int v1]) (rest := [.long x7, .long v3]) hx hb hml hts hown hK hJ rfl rfl (ci := 9) rfl e10 (c_X9_weightAt l G P v0 v5 v1 σ6 x12 σ11 e13) me_X9_weightAt kw_1700 ks_63 kw_1698 (Nat.le_of_ble_eq_true rfl) (Nat.le_of_ble_eq_true rfl) rfl hl.1 rfl (Nat.le_of_ble_eq_true rfl) dX9_reckon_25 (fun H locs hJ => ?_)
      refine lv_lmul hx hb dX9_reckon_28 ?_
      refine lv_ladd hx hb dX9_reckon_29 ?_
      obtain ⟨x14, e15, hf⟩ := mb0 hf
      refine mx_nL e15 ?_
      refine lv_lstore_n (lv' := [(3, .long x14), (0, .ref v0), (1, .int v1), (2, .ref v2), (5, .int v5)]) hx hb dX9_reckon_30 rfl hl (by decide) rfl (fun ls hl => ?_)
      obtain ⟨x16, e17, hf⟩ := mb0 hf
      refine lv_iinc (v := x16) (lv' := [(5, .int x16), (3, .long x14), (0, .ref v0), (1, .int v1), (2, .ref v2)]) hx hb dX9_reckon_31 hl (k := 4) rfl (by rw [← Option.some.inj e17]; rfl) (by decide) rfl (fun ls hl => ?_)
      refine lv_goto (tgt := 5) hx hb dX9_reckon_34 (by decide) ?_
      exact Kb x14 x16 σ11 (Option.some.inj hf).symm _ _ hJ ls (lv_sub hl [2, 3, 4, 1, 0] rfl)
  have L5 : ∀ (v0 : Nat) (v1 : Int32) (v2 : Nat) (n : Nat) (v3 : Int64) (v5 : Int32) (τ : mx_S) (o : (Int64 × mx_S)), mx_lp (f_X9_reckon_L5 P v0 v1 v2) n (v3, v5, τ) = some o → (∀ (y3 : Int64) (υ : mx_S), o = (y3, υ) → ∀ (H : Heap) (locs : List Loc), mx_J G P s.heap (mxz σ) (mxu σ) υ H locs → ∀ ls : Array Slot, lv_has ls 6 [(0, .ref v0), (1, .int v1), (2, .ref v2), (3, .long y3)] → W p l e (mx_rm P 4 101 σ) s m ([.ref a0, .int p1, .ref a2] : List Value).toArray below meth c H locs (mxz υ - mxz σ) (mxu υ - mxu σ) (mx_Z below G P none σ σ' [.ref a0, .int p1, .ref a2] s) (F0 m 37 ls [])) → ∀ (H : Heap) (locs : List Loc), mx_J G P s.heap (mxz σ) (mxu σ) τ H locs → ∀ ls : Array Slot, lv_has ls 6 [(0, .ref v0), (1, .int v1), (2, .ref v2), (3, .long v3), (5, .int v5)] → W p l e (mx_rm P 4 101 σ) s m ([.ref a0, .int p1, .ref a2] : List Value).toArray below meth c H locs (mxz τ - mxz σ) (mxu τ - mxu σ) (mx_Z below G P none σ σ' [.ref a0, .int p1, .ref a2] s) (F0 m 5 ls []) := by
    intro v0 v1 v2 n
    induction n with
    | zero =>
      intro v3 v5 τ o hf
      rw [mx_lp0] at hf
      cases hf
    | succ n ih =>
      intro v3 v5 τ o hf Ke0 H locs hJ ls hl
      rw [mx_lpS] at hf
      obtain ⟨b, eb, hf⟩ := mb0 hf
      refine B5 v0 v1 v2 v3 v5 τ b eb (fun y3 y5 υ ho H locs hJ ls hl => ?_) (fun y3 υ ho H locs hJ ls hl => ?_) H locs hJ ls hl
      · subst ho
        exact ih y3 y5 υ o hf Ke0 H locs hJ ls hl
      · subst ho
        exact Ke0 y3 υ (Option.some.inj hf).symm _ _ hJ ls hl
  have D58 : ∀ (w0 : Int64) (w1 : Int64) (w2 : Nat) (τ : mx_S), f_X9_reckon_D58 P w0 w1 w2 τ = some σ' → ∀ (H : Heap) (locs : List Loc), mx_J G P s.heap (mxz σ) (mxu σ) τ H locs → ∀ ls : Array Slot, lv_has ls 6 [] → W p l e (mx_rm P 4 101 σ) s m ([.ref a0, .int p1, .ref a2] : List Value).toArray below meth c H locs (mxz τ - mxz σ) (mxu τ - mxu σ) (mx_Z below G P none σ σ' [.ref a0, .int p1, .ref a2] s) (F0 m 58 ls [.long w0, .long w1, .ref w2]) := by
    intro w0 w1 w2 τ hf _ _ hJ ls hl
    unfold f_X9_reckon_D58 at hf
    obtain ⟨i28, e29, hf⟩ := mb0 hf
    obtain ⟨σ30, e31, hf⟩ := mb0 hf
    refine mx_callV (As := [.long w1, .long w0]) (rest := []) hx hb hml hts hown hK hJ rfl rfl (ci := 3) rfl e29 (c_X3_set l G P w2 w1 w0 τ σ30 e31) me_X3_set kw_843 kw_844 kw_1705 (Nat.le_of_ble_eq_true rfl) (Nat.le_of_ble_eq_true rfl) rfl hl.1 rfl (Nat.le_of_ble_eq_true rfl) dX9_reckon_58 (fun H locs hJ => ?_)
    exact my_vret hx hb hr hlocks hJ hf dX9_reckon_61
  unfold f_X9_reckon at hf
  refine lv_lconst (v := 0) hx hb dX9_reckon_0 (by decide) ?_
  refine lv_lstore_n (lv' := [(3, .long (0 : Int64)), (0, .ref a0), (1, .int p1), (2, .ref a2)]) hx hb dX9_reckon_1 rfl hl (by decide) rfl (fun ls hl => ?_)
  refine lv_iconst (v := 0) hx hb dX9_reckon_2 (by decide) ?_
  refine lv_istore (lv' := [(5, .int (0 : Int32)), (3, .long (0 : Int64)), (0, .ref a0), (1, .int p1), (2, .ref a2)]) hx hb dX9_reckon_3 hl (by decide) rfl (fun ls hl => ?_)
  obtain ⟨o18, e19, hf⟩ := mb0 hf
  refine L5 a0 p1 a2 (mpN P) (0 : Int64) (0 : Int32) σ o18 e19 (fun y20 σ21 ho H locs hJ ls hl => ?_) _ _ hJ ls (lv_sub hl [2, 3, 4, 1, 0] rfl)
  · rw [ho] at hf
    have hf : ((if p1 = (2 : Int32) then f_X9_reckon_D58 P (12 : Int64) y20 a2 σ21 else (mx_is σ21 a0 9).bind fun i23 => mx_b2 (f_X9_twiceArea P a0 σ21) fun x26 σ25 => f_X9_reckon_D58 P ((3 : Int64) * x26) y20 a2 σ25)) = some σ' := hf
    refine lv_aload_n hx hb dX9_reckon_37 rfl (lv_at hl 2 rfl) ?_
    refine lv_lload_n hx hb dX9_reckon_38 rfl (lv_at hl 3 rfl) ?_
    refine lv_iload_n hx hb dX9_reckon_39 rfl (lv_at hl 1 rfl) ?_
    refine lv_iconst (v := 2) hx hb dX9_reckon_40 (by decide) ?_
    refine lv_icmp_ne (tgt := 50) hx hb dX9_reckon_41 (by decide) (fun c22 => ?_) (fun c22 => ?_)
    · rw [if_neg c22] at hf
      refine lv_ldc2 hx hb hown (hts _ kw_1703) dX9_reckon_50 ?_
      refine lv_aload_n hx hb dX9_reckon_53 rfl (lv_at hl 0 rfl) ?_
      obtain ⟨i23, e24, hf⟩ := mb0 hf
      obtain ⟨x26, σ25, e27, hf⟩ := mc0 hf
      refine mx_callV (As := []) (rest := [.long (3 : Int64), .long y20, .ref a2]) hx hb hml hts hown hK hJ rfl rfl (ci := 9) rfl e24 (c_X9_twiceArea l G P a0 σ21 x26 σ25 e27) me_X9_twiceArea kw_1661 kw_1662 kw_1704 (Nat.le_of_ble_eq_true rfl) (Nat.le_of_ble_eq_true rfl) rfl hl.1 rfl (Nat.le_of_ble_eq_true rfl) dX9_reckon_54 (fun H locs hJ => ?_)
      refine lv_lmul hx hb dX9_reckon_57 ?_
      exact D58 ((3 : Int64) * x26) y20 a2 σ25 hf _ _ hJ ls (lv_sub hl [] rfl)
    · rw [if_pos c22] at hf
      refine lv_ldc2 hx hb hown (hts _ kw_1702) dX9_reckon_44 ?_
      refine lv_goto (tgt := 58) hx hb dX9_reckon_47 (by decide) ?_
      exact D58 (12 : Int64) y20 a2 σ21 hf _ _ hJ ls (lv_sub hl [] rfl)
set_option maxHeartbeats 4000000 in
set_option maxRecDepth 100000 in
theorem c_X9_sideOf (l : Launch) (G : mx_G) (P : mx_P) (a0 : Nat) (p1 : Int32) (p2 : Int64) (p4 : Int64) (σ : mx_S) (r : Int64) (σ' : mx_S) (hf : f_X9_sideOf P a0 p1 p2 p4 σ = some (r, σ')) : mxz σ ≤ mpc P → mxu σ ≤ mps P → mx_M l yX9_sideOf cX9_sideOf 7 (some .long) 1 21 G P [.ref a0, .int p1, .long p2, .long p4] σ (some (.long r)) σ' := by
  intro hcap hcau
  refine mx_ofW (by decide +kernel) hcap hcau (Nat.le_of_ble_eq_true rfl) ?_
  intro p e s m below meth c hx hb hr hml hts hown hlocks hname hK hJ ls hl
  have hz0 := hJ.2.1
  have hown : s.vm.findClass RX9 = some m.cls := hown
  have hl : lv_has ls 7 [(0, .ref a0), (1, .int p1), (2, .long p2), (4, .long p4)] := hl
  unfold f_X9_sideOf at hf
  refine lv_aload_n hx hb dX9_sideOf_0 rfl (lv_at hl 0 rfl) ?_
  refine lv_iload_n hx hb dX9_sideOf_1 rfl (lv_at hl 1 rfl) ?_
  obtain ⟨i1, e2, hf⟩ := mb0 hf
  obtain ⟨x4, σ3, e5, hf⟩ := mc0 hf
  refine mx_callV (As := [.int p1]) (rest := []) hx hb hml hts hown hK hJ rfl rfl (ci := 9) rfl e2 (c_X9_after l G P a0 p1 σ x4 σ3 e5) me_X9_after kw_1670 ks_58 kw_1668 (Nat.le_of_ble_eq_true rfl) (Nat.le_of_ble_eq_true rfl) rfl hl.1 rfl (Nat.le_of_ble_eq_true rfl) dX9_sideOf_2 (fun H locs hJ => ?_)
  refine lv_istore (lv' := [(6, .int x4), (0, .ref a0), (1, .int p1), (2, .long p2), (4, .long p4)]) hx hb dX9_sideOf_5 hl (by decide) rfl (fun ls hl => ?_)
  refine lv_aload_n hx hb dX9_sideOf_7 rfl (lv_at hl 1 rfl) ?_
  obtain ⟨b6, e7, hf⟩ := mb0 hf
  refine my_gR hx hb hts hown hK hJ fd_RX9_9 hv_9_1 e7 dX9_sideOf_8 ?_
  refine lv_iload hx hb dX9_sideOf_11 (lv_at hl 0 rfl) ?_
  obtain ⟨x8, e9, hf⟩ := mb0 hf
  refine mx_aL hx hb hK hJ e9 dX9_sideOf_13 ?_
  refine lv_aload_n hx hb dX9_sideOf_14 rfl (lv_at hl 1 rfl) ?_
  obtain ⟨b10, e11, hf⟩ := mb0 hf
  refine my_gR hx hb hts hown hK hJ fd_RX9_9 hv_9_1 e11 dX9_sideOf_15 ?_
  refine lv_iload_n hx hb dX9_sideOf_18 rfl (lv_at hl 2 rfl) ?_
  obtain ⟨x12, e13, hf⟩ := mb0 hf
  refine mx_aL hx hb hK hJ e13 dX9_sideOf_19 ?_
  refine lv_lsub hx hb dX9_sideOf_20 ?_
  refine lv_lload hx hb dX9_sideOf_21 (lv_at hl 4 rfl) ?_
  refine lv_aload_n hx hb dX9_sideOf_23 rfl (lv_at hl 1 rfl) ?_
  obtain ⟨b14, e15, hf⟩ := mb0 hf
  refine my_gR hx hb hts hown hK hJ fd_RX9_13 hv_9_2 e15 dX9_sideOf_24 ?_
  refine lv_iload_n hx hb dX9_sideOf_27 rfl (lv_at hl 2 rfl) ?_
  obtain ⟨x16, e17, hf⟩ := mb0 hf
  refine mx_aL hx hb hK hJ e17 dX9_sideOf_28 ?_
  refine lv_lsub hx hb dX9_sideOf_29 ?_
  refine lv_lmul hx hb dX9_sideOf_30 ?_
  refine lv_aload_n hx hb dX9_sideOf_31 rfl (lv_at hl 1 rfl) ?_
  obtain ⟨b18, e19, hf⟩ := mb0 hf
  refine my_gR hx hb hts hown hK hJ fd_RX9_13 hv_9_2 e19 dX9_sideOf_32 ?_
  refine lv_iload hx hb dX9_sideOf_35 (lv_at hl 0 rfl) ?_
  obtain ⟨x20, e21, hf⟩ := mb0 hf
  refine mx_aL hx hb hK hJ e21 dX9_sideOf_37 ?_
  refine lv_aload_n hx hb dX9_sideOf_38 rfl (lv_at hl 1 rfl) ?_
  obtain ⟨b22, e23, hf⟩ := mb0 hf
  refine my_gR hx hb hts hown hK hJ fd_RX9_13 hv_9_2 e23 dX9_sideOf_39 ?_
  refine lv_iload_n hx hb dX9_sideOf_42 rfl (lv_at hl 2 rfl) ?_
  obtain ⟨x24, e25, hf⟩ := mb0 hf
  refine mx_aL hx hb hK hJ e25 dX9_sideOf_43 ?_
  refine lv_lsub hx hb dX9_sideOf_44 ?_
  refine lv_lload_n hx hb dX9_sideOf_45 rfl (lv_at hl 3 rfl) ?_
  refine lv_aload_n hx hb dX9_sideOf_46 rfl (lv_at hl 1 rfl) ?_
  obtain ⟨b26, e27, hf⟩ := mb0 hf
  refine my_gR hx hb hts hown hK hJ fd_RX9_9 hv_9_1 e27 dX9_sideOf_47 ?_
  refine lv_iload_n hx hb dX9_sideOf_50 rfl (lv_at hl 2 rfl) ?_
  obtain ⟨x28, e29, hf⟩ := mb0 hf
  refine mx_aL hx hb hK hJ e29 dX9_sideOf_51 ?_
  refine lv_lsub hx hb dX9_sideOf_52 ?_
  refine lv_lmul hx hb dX9_sideOf_53 ?_
  refine lv_lsub hx hb dX9_sideOf_54 ?_
  exact my_lret hx hb hr hlocks hJ hf dX9_sideOf_55
set_option maxHeartbeats 4000000 in
set_option maxRecDepth 100000 in
theorem c_X9_parts (l : Launch) (G : mx_G) (P : mx_P) (a0 : Nat) (p1 : Int32) (a2 : Nat) (p3 : Int32) (σ : mx_S) (r : Int32) (σ' : mx_S) (hf : f_X9_parts P a0 p1 a2 p3 σ = some (r, σ')) : mxz σ ≤ mpc P → mxu σ ≤ mps P → mx_M l yX9_parts cX9_parts 9 (some .boolean) 2 47 G P [.ref a0, .int p1, .ref a2, .int p3] σ (some (.int r)) σ' := by
  intro hcap hcau
  refine mx_ofW (by decide +kernel) hcap hcau (Nat.le_of_ble_eq_true rfl) ?_
  intro p e s m below meth c hx hb hr hml hts hown hlocks hname hK hJ ls hl
  have hz0 := hJ.2.1
  have hown : s.vm.findClass RX9 = some m.cls := hown
  have hl : lv_has ls 9 [(0, .ref a0), (1, .int p1), (2, .ref a2), (3, .int p3)] := hl
  have D80 : ∀ (w0 : Int32) (τ : mx_S), f_X9_parts_D80 P w0 τ = some (r, σ') → ∀ (H : Heap) (locs : List Loc), mx_J G P s.heap (mxz σ) (mxu σ) τ H locs → ∀ ls : Array Slot, lv_has ls 9 [] → W p l e (mx_rm P 2 47 σ) s m ([.ref a0, .int p1, .ref a2, .int p3] : List Value).toArray below meth c H locs (mxz τ - mxz σ) (mxu τ - mxu σ) (mx_Z below G P (some (.int r)) σ σ' [.ref a0, .int p1, .ref a2, .int p3] s) (F0 m 80 ls [.int w0]) := by
    intro w0 τ hf _ _ hJ ls hl
    unfold f_X9_parts_D80 at hf
    exact mx_zret hx hb hr hlocks hJ hf dX9_parts_80
  have D79 : ∀  (τ : mx_S), f_X9_parts_D79 P  τ = some (r, σ') → ∀ (H : Heap) (locs : List Loc), mx_J G P s.heap (mxz σ) (mxu σ) τ H locs → ∀ ls : Array Slot, lv_has ls 9 [] → W p l e (mx_rm P 2 47 σ) s m ([.ref a0, .int p1, .ref a2, .int p3] : List Value).toArray below meth c H locs (mxz τ - mxz σ) (mxu τ - mxu σ) (mx_Z below G P (some (.int r)) σ σ' [.ref a0, .int p1, .ref a2, .int p3] s) (F0 m 79 ls []) := by
    intro  τ hf _ _ hJ ls hl
    unfold f_X9_parts_D79 at hf
    refine lv_iconst (v := 0) hx hb dX9_parts_79 (by decide) ?_
    exact D80 (0 : Int32) τ hf _ _ hJ ls (lv_sub hl [] rfl)
  have D75 : ∀  (τ : mx_S), f_X9_parts_D75 P  τ = some (r, σ') → ∀ (H : Heap) (locs : List Loc), mx_J G P s.heap (mxz σ) (mxu σ) τ H locs → ∀ ls : Array Slot, lv_has ls 9 [] → W p l e (mx_rm P 2 47 σ) s m ([.ref a0, .int p1, .ref a2, .int p3] : List Value).toArray below meth c H locs (mxz τ - mxz σ) (mxu τ - mxu σ) (mx_Z below G P (some (.int r)) σ σ' [.ref a0, .int p1, .ref a2, .int p3] s) (F0 m 75 ls []) := by
    intro  τ hf _ _ hJ ls hl
    unfold f_X9_parts_D75 at hf
    refine lv_iconst (v := 1) hx hb dX9_parts_75 (by decide) ?_
    refine lv_goto (tgt := 80) hx hb dX9_parts_76 (by decide) ?_
    exact D80 (1 : Int32) τ hf _ _ hJ ls (lv_sub hl [] rfl)
  have D61 : ∀ (v5 : Int64) (v7 : Int64) (τ : mx_S), f_X9_parts_D61 P v5 v7 τ = some (r, σ') → ∀ (H : Heap) (locs : List Loc), mx_J G P s.heap (mxz σ) (mxu σ) τ H locs → ∀ ls : Array Slot, lv_has ls 9 [(5, .long v5), (7, .long v7)] → W p l e (mx_rm P 2 47 σ) s m ([.ref a0, .int p1, .ref a2, .int p3] : List Value).toArray below meth c H locs (mxz τ - mxz σ) (mxu τ - mxu σ) (mx_Z below G P (some (.int r)) σ σ' [.ref a0, .int p1, .ref a2, .int p3] s) (F0 m 61 ls []) := by
    intro v5 v7 τ hf _ _ hJ ls hl
    unfold f_X9_parts_D61 at hf
    refine lv_lload hx hb dX9_parts_61 (lv_at hl 0 rfl) ?_
    refine lv_lconst (v := 0) hx hb dX9_parts_63 (by decide) ?_
    refine W.lcmp hx hb dX9_parts_64 ?_
    refine lv_if_le (tgt := 79) hx hb dX9_parts_65 (by decide) (fun c33 => ?_) (fun c33 => ?_)
    · rw [if_pos c33] at hf
      exact D79  τ hf _ _ hJ ls (lv_sub hl [] rfl)
    · rw [if_neg c33] at hf
      refine lv_lload hx hb dX9_parts_68 (lv_at hl 1 rfl) ?_
      refine lv_lconst (v := 0) hx hb dX9_parts_70 (by decide) ?_
      refine W.lcmp hx hb dX9_parts_71 ?_
      refine lv_if_ge (tgt := 79) hx hb dX9_parts_72 (by decide) (fun c34 => ?_) (fun c34 => ?_)
      · rw [if_pos c34] at hf
        exact D79  τ hf _ _ hJ ls (lv_sub hl [] rfl)
      · rw [if_neg c34] at hf
        exact D75  τ hf _ _ hJ ls (lv_sub hl [] rfl)
  unfold f_X9_parts at hf
  refine lv_aload_n hx hb dX9_parts_0 rfl (lv_at hl 2 rfl) ?_
  refine lv_iload_n hx hb dX9_parts_1 rfl (lv_at hl 3 rfl) ?_
  obtain ⟨i1, e2, hf⟩ := mb0 hf
  obtain ⟨x4, σ3, e5, hf⟩ := mc0 hf
  refine mx_callV (As := [.int p3]) (rest := []) hx hb hml hts hown hK hJ rfl rfl (ci := 9) rfl e2 (c_X9_after l G P a2 p3 σ x4 σ3 e5) me_X9_after kw_1670 ks_58 kw_1668 (Nat.le_of_ble_eq_true rfl) (Nat.le_of_ble_eq_true rfl) rfl hl.1 rfl (Nat.le_of_ble_eq_true rfl) dX9_parts_2 (fun H locs hJ => ?_)
  refine lv_istore (lv' := [(4, .int x4), (0, .ref a0), (1, .int p1), (2, .ref a2), (3, .int p3)]) hx hb dX9_parts_5 hl (by decide) rfl (fun ls hl => ?_)
  refine lv_aload_n hx hb dX9_parts_7 rfl (lv_at hl 1 rfl) ?_
  refine lv_iload_n hx hb dX9_parts_8 rfl (lv_at hl 2 rfl) ?_
  refine lv_aload_n hx hb dX9_parts_9 rfl (lv_at hl 3 rfl) ?_
  obtain ⟨b6, e7, hf⟩ := mb0 hf
  refine my_gR hx hb hts hown hK hJ fd_RX9_9 hv_9_1 e7 dX9_parts_10 ?_
  refine lv_iload_n hx hb dX9_parts_13 rfl (lv_at hl 4 rfl) ?_
  obtain ⟨x8, e9, hf⟩ := mb0 hf
  refine mx_aL hx hb hK hJ e9 dX9_parts_14 ?_
  refine lv_aload_n hx hb dX9_parts_15 rfl (lv_at hl 3 rfl) ?_
  obtain ⟨b10, e11, hf⟩ := mb0 hf
  refine my_gR hx hb hts hown hK hJ fd_RX9_13 hv_9_2 e11 dX9_parts_16 ?_
  refine lv_iload_n hx hb dX9_parts_19 rfl (lv_at hl 4 rfl) ?_
  obtain ⟨x12, e13, hf⟩ := mb0 hf
  refine mx_aL hx hb hK hJ e13 dX9_parts_20 ?_
  obtain ⟨i14, e15, hf⟩ := mb0 hf
  obtain ⟨x17, σ16, e18, hf⟩ := mc0 hf
  refine mx_callV (As := [.int p1, .long x8, .long x12]) (rest := []) hx hb hml hts hown hK hJ rfl rfl (ci := 9) rfl e15 (c_X9_sideOf l G P a0 p1 x8 x12 σ3 x17 σ16 e18) me_X9_sideOf kw_1686 ks_61 kw_1684 (Nat.le_of_ble_eq_true rfl) (Nat.le_of_ble_eq_true rfl) rfl hl.1 rfl (Nat.le_of_ble_eq_true rfl) dX9_parts_21 (fun H locs hJ => ?_)
  refine lv_lstore (lv' := [(5, .long x17), (4, .int x4), (0, .ref a0), (1, .int p1), (2, .ref a2), (3, .int p3)]) hx hb dX9_parts_24 hl (by decide) rfl (fun ls hl => ?_)
  refine lv_aload_n hx hb dX9_parts_26 rfl (lv_at hl 2 rfl) ?_
  refine lv_iload_n hx hb dX9_parts_27 rfl (lv_at hl 3 rfl) ?_
  refine lv_aload_n hx hb dX9_parts_28 rfl (lv_at hl 4 rfl) ?_
  obtain ⟨b19, e20, hf⟩ := mb0 hf
  refine my_gR hx hb hts hown hK hJ fd_RX9_9 hv_9_1 e20 dX9_parts_29 ?_
  refine lv_iload hx hb dX9_parts_32 (lv_at hl 1 rfl) ?_
  obtain ⟨x21, e22, hf⟩ := mb0 hf
  refine mx_aL hx hb hK hJ e22 dX9_parts_34 ?_
  refine lv_aload_n hx hb dX9_parts_35 rfl (lv_at hl 4 rfl) ?_
  obtain ⟨b23, e24, hf⟩ := mb0 hf
  refine my_gR hx hb hts hown hK hJ fd_RX9_13 hv_9_2 e24 dX9_parts_36 ?_
  refine lv_iload hx hb dX9_parts_39 (lv_at hl 1 rfl) ?_
  obtain ⟨x25, e26, hf⟩ := mb0 hf
  refine mx_aL hx hb hK hJ e26 dX9_parts_41 ?_
  obtain ⟨i27, e28, hf⟩ := mb0 hf
  obtain ⟨x30, σ29, e31, hf⟩ := mc0 hf
  refine mx_callV (As := [.int p1, .long x21, .long x25]) (rest := []) hx hb hml hts hown hK hJ rfl rfl (ci := 9) rfl e28 (c_X9_sideOf l G P a0 p1 x21 x25 σ16 x30 σ29 e31) me_X9_sideOf kw_1686 ks_61 kw_1684 (Nat.le_of_ble_eq_true rfl) (Nat.le_of_ble_eq_true rfl) rfl hl.1 rfl (Nat.le_of_ble_eq_true rfl) dX9_parts_42 (fun H locs hJ => ?_)
  refine lv_lstore (lv' := [(7, .long x30), (5, .long x17), (4, .int x4), (0, .ref a0), (1, .int p1), (2, .ref a2), (3, .int p3)]) hx hb dX9_parts_45 hl (by decide) rfl (fun ls hl => ?_)
  refine lv_lload hx hb dX9_parts_47 (lv_at hl 1 rfl) ?_
  refine lv_lconst (v := 0) hx hb dX9_parts_49 (by decide) ?_
  refine W.lcmp hx hb dX9_parts_50 ?_
  refine lv_if_ge (tgt := 61) hx hb dX9_parts_51 (by decide) (fun c32 => ?_) (fun c32 => ?_)
  · rw [if_pos c32] at hf
    exact D61 x17 x30 σ29 hf _ _ hJ ls (lv_sub hl [1, 0] rfl)
  · rw [if_neg c32] at hf
    refine lv_lload hx hb dX9_parts_54 (lv_at hl 0 rfl) ?_
    refine lv_lconst (v := 0) hx hb dX9_parts_56 (by decide) ?_
    refine W.lcmp hx hb dX9_parts_57 ?_
    refine lv_if_gt (tgt := 75) hx hb dX9_parts_58 (by decide) (fun c35 => ?_) (fun c35 => ?_)
    · rw [if_pos c35] at hf
      exact D75  σ29 hf _ _ hJ ls (lv_sub hl [] rfl)
    · rw [if_neg c35] at hf
      exact D61 x17 x30 σ29 hf _ _ hJ ls (lv_sub hl [1, 0] rfl)
set_option maxHeartbeats 4000000 in
set_option maxRecDepth 100000 in
theorem c_X9_holds (l : Launch) (G : mx_G) (P : mx_P) (a0 : Nat) (p1 : Int32) (p2 : Int64) (p4 : Int64) (σ : mx_S) (r : Int32) (σ' : mx_S) (hf : f_X9_holds P a0 p1 p2 p4 σ = some (r, σ')) : mxz σ ≤ mpc P → mxu σ ≤ mps P → mx_M l yX9_holds cX9_holds 7 (some .boolean) 2 47 G P [.ref a0, .int p1, .long p2, .long p4] σ (some (.int r)) σ' := by
  intro hcap hcau
  refine mx_ofW (by decide +kernel) hcap hcau (Nat.le_of_ble_eq_true rfl) ?_
  intro p e s m below meth c hx hb hr hml hts hown hlocks hname hK hJ ls hl
  have hz0 := hJ.2.1
  have hown : s.vm.findClass RX9 = some m.cls := hown
  have hl : lv_has ls 7 [(0, .ref a0), (1, .int p1), (2, .long p2), (4, .long p4)] := hl
  have D111 : ∀ (w0 : Int32) (τ : mx_S), f_X9_holds_D111 P w0 τ = some (r, σ') → ∀ (H : Heap) (locs : List Loc), mx_J G P s.heap (mxz σ) (mxu σ) τ H locs → ∀ ls : Array Slot, lv_has ls 7 [] → W p l e (mx_rm P 2 47 σ) s m ([.ref a0, .int p1, .long p2, .long p4] : List Value).toArray below meth c H locs (mxz τ - mxz σ) (mxu τ - mxu σ) (mx_Z below G P (some (.int r)) σ σ' [.ref a0, .int p1, .long p2, .long p4] s) (F0 m 111 ls [.int w0]) := by
    intro w0 τ hf _ _ hJ ls hl
    unfold f_X9_holds_D111 at hf
    exact mx_zret hx hb hr hlocks hJ hf dX9_holds_111
  have D110 : ∀  (τ : mx_S), f_X9_holds_D110 P  τ = some (r, σ') → ∀ (H : Heap) (locs : List Loc), mx_J G P s.heap (mxz σ) (mxu σ) τ H locs → ∀ ls : Array Slot, lv_has ls 7 [] → W p l e (mx_rm P 2 47 σ) s m ([.ref a0, .int p1, .long p2, .long p4] : List Value).toArray below meth c H locs (mxz τ - mxz σ) (mxu τ - mxu σ) (mx_Z below G P (some (.int r)) σ σ' [.ref a0, .int p1, .long p2, .long p4] s) (F0 m 110 ls []) := by
    intro  τ hf _ _ hJ ls hl
    unfold f_X9_holds_D110 at hf
    refine lv_iconst (v := 0) hx hb dX9_holds_110 (by decide) ?_
    exact D111 (0 : Int32) τ hf _ _ hJ ls (lv_sub hl [] rfl)
  unfold f_X9_holds at hf
  refine lv_aload_n hx hb dX9_holds_0 rfl (lv_at hl 0 rfl) ?_
  refine lv_iload_n hx hb dX9_holds_1 rfl (lv_at hl 1 rfl) ?_
  obtain ⟨i1, e2, hf⟩ := mb0 hf
  obtain ⟨x4, σ3, e5, hf⟩ := mc0 hf
  refine mx_callV (As := [.int p1]) (rest := []) hx hb hml hts hown hK hJ rfl rfl (ci := 9) rfl e2 (c_X9_after l G P a0 p1 σ x4 σ3 e5) me_X9_after kw_1670 ks_58 kw_1668 (Nat.le_of_ble_eq_true rfl) (Nat.le_of_ble_eq_true rfl) rfl hl.1 rfl (Nat.le_of_ble_eq_true rfl) dX9_holds_2 (fun H locs hJ => ?_)
  refine lv_istore (lv' := [(6, .int x4), (0, .ref a0), (1, .int p1), (2, .long p2), (4, .long p4)]) hx hb dX9_holds_5 hl (by decide) rfl (fun ls hl => ?_)
  refine lv_aload_n hx hb dX9_holds_7 rfl (lv_at hl 1 rfl) ?_
  refine lv_iload_n hx hb dX9_holds_8 rfl (lv_at hl 2 rfl) ?_
  refine lv_lload_n hx hb dX9_holds_9 rfl (lv_at hl 3 rfl) ?_
  refine lv_lload hx hb dX9_holds_10 (lv_at hl 4 rfl) ?_
  obtain ⟨i6, e7, hf⟩ := mb0 hf
  obtain ⟨x9, σ8, e10, hf⟩ := mc0 hf
  refine mx_callV (As := [.int p1, .long p2, .long p4]) (rest := []) hx hb hml hts hown hK hJ rfl rfl (ci := 9) rfl e7 (c_X9_sideOf l G P a0 p1 p2 p4 σ3 x9 σ8 e10) me_X9_sideOf kw_1686 ks_61 kw_1684 (Nat.le_of_ble_eq_true rfl) (Nat.le_of_ble_eq_true rfl) rfl hl.1 rfl (Nat.le_of_ble_eq_true rfl) dX9_holds_12 (fun H locs hJ => ?_)
  refine lv_lconst (v := 0) hx hb dX9_holds_15 (by decide) ?_
  refine W.lcmp hx hb dX9_holds_16 ?_
  refine lv_if_ne (tgt := 110) hx hb dX9_holds_17 (by decide) (fun c11 => ?_) (fun c11 => ?_)
  · rw [if_neg c11] at hf
    exact D110  σ8 hf _ _ hJ ls (lv_sub hl [] rfl)
  · rw [if_pos c11] at hf
    refine lv_aload_n hx hb dX9_holds_20 rfl (lv_at hl 1 rfl) ?_
    obtain ⟨b12, e13, hf⟩ := mb0 hf
    refine my_gR hx hb hts hown hK hJ fd_RX9_9 hv_9_1 e13 dX9_holds_21 ?_
    refine lv_iload_n hx hb dX9_holds_24 rfl (lv_at hl 2 rfl) ?_
    obtain ⟨x14, e15, hf⟩ := mb0 hf
    refine mx_aL hx hb hK hJ e15 dX9_holds_25 ?_
    refine lv_aload_n hx hb dX9_holds_26 rfl (lv_at hl 1 rfl) ?_
    obtain ⟨b16, e17, hf⟩ := mb0 hf
    refine my_gR hx hb hts hown hK hJ fd_RX9_9 hv_9_1 e17 dX9_holds_27 ?_
    refine lv_iload hx hb dX9_holds_30 (lv_at hl 0 rfl) ?_
    obtain ⟨x18, e19, hf⟩ := mb0 hf
    refine mx_aL hx hb hK hJ e19 dX9_holds_32 ?_
    obtain ⟨x21, σ20, e22, hf⟩ := mc0 hf
    refine mx_callS (As := [.long x14, .long x18]) (rest := []) hx hb hml hts hown hK hJ rfl rfl (c_J9_min_f86c9 l G P x14 x18 σ8 x21 σ20 e22) me_J9_min_f86c9 kw_709 kw_1692 (Nat.le_of_ble_eq_true rfl) (Nat.le_of_ble_eq_true rfl) rfl hl.1 rfl (Nat.le_of_ble_eq_true rfl) dX9_holds_33 (fun H locs hJ => ?_)
    refine lv_lload_n hx hb dX9_holds_36 rfl (lv_at hl 3 rfl) ?_
    refine W.lcmp hx hb dX9_holds_37 ?_
    refine lv_if_gt (tgt := 110) hx hb dX9_holds_38 (by decide) (fun c23 => ?_) (fun c23 => ?_)
    · rw [if_pos c23] at hf
      exact D110  σ20 hf _ _ hJ ls (lv_sub hl [] rfl)
    · rw [if_neg c23] at hf
      refine lv_lload_n hx hb dX9_holds_41 rfl (lv_at hl 3 rfl) ?_
      refine lv_aload_n hx hb dX9_holds_42 rfl (lv_at hl 1 rfl) ?_
      obtain ⟨b24, e25, hf⟩ := mb0 hf
      refine my_gR hx hb hts hown hK hJ fd_RX9_9 hv_9_1 e25 dX9_holds_43 ?_
      refine lv_iload_n hx hb dX9_holds_46 rfl (lv_at hl 2 rfl) ?_
      obtain ⟨x26, e27, hf⟩ := mb0 hf
      refine mx_aL hx hb hK hJ e27 dX9_holds_47 ?_
      refine lv_aload_n hx hb dX9_holds_48 rfl (lv_at hl 1 rfl) ?_
      obtain ⟨b28, e29, hf⟩ := mb0 hf
      refine my_gR hx hb hts hown hK hJ fd_RX9_9 hv_9_1 e29 dX9_holds_49 ?_
      refine lv_iload hx hb dX9_holds_52 (lv_at hl 0 rfl) ?_
      obtain ⟨x30, e31, hf⟩ := mb0 hf
      refine mx_aL hx hb hK hJ e31 dX9_holds_54 ?_
      obtain ⟨x33, σ32, e34, hf⟩ := mc0 hf
      refine mx_callS (As := [.long x26, .long x30]) (rest := [.long p2]) hx hb hml hts hown hK hJ rfl rfl (c_J9_max_f86c9 l G P x26 x30 σ20 x33 σ32 e34) me_J9_max_f86c9 kw_712 kw_1693 (Nat.le_of_ble_eq_true rfl) (Nat.le_of_ble_eq_true rfl) rfl hl.1 rfl (Nat.le_of_ble_eq_true rfl) dX9_holds_55 (fun H locs hJ => ?_)
      refine W.lcmp hx hb dX9_holds_58 ?_
      refine lv_if_gt (tgt := 110) hx hb dX9_holds_59 (by decide) (fun c35 => ?_) (fun c35 => ?_)
      · rw [if_pos c35] at hf
        exact D110  σ32 hf _ _ hJ ls (lv_sub hl [] rfl)
      · rw [if_neg c35] at hf
        refine lv_aload_n hx hb dX9_holds_62 rfl (lv_at hl 1 rfl) ?_
        obtain ⟨b36, e37, hf⟩ := mb0 hf
        refine my_gR hx hb hts hown hK hJ fd_RX9_13 hv_9_2 e37 dX9_holds_63 ?_
        refine lv_iload_n hx hb dX9_holds_66 rfl (lv_at hl 2 rfl) ?_
        obtain ⟨x38, e39, hf⟩ := mb0 hf
        refine mx_aL hx hb hK hJ e39 dX9_holds_67 ?_
        refine lv_aload_n hx hb dX9_holds_68 rfl (lv_at hl 1 rfl) ?_
        obtain ⟨b40, e41, hf⟩ := mb0 hf
        refine my_gR hx hb hts hown hK hJ fd_RX9_13 hv_9_2 e41 dX9_holds_69 ?_
        refine lv_iload hx hb dX9_holds_72 (lv_at hl 0 rfl) ?_
        obtain ⟨x42, e43, hf⟩ := mb0 hf
        refine mx_aL hx hb hK hJ e43 dX9_holds_74 ?_
        obtain ⟨x45, σ44, e46, hf⟩ := mc0 hf
        refine mx_callS (As := [.long x38, .long x42]) (rest := []) hx hb hml hts hown hK hJ rfl rfl (c_J9_min_f86c9 l G P x38 x42 σ32 x45 σ44 e46) me_J9_min_f86c9 kw_709 kw_1692 (Nat.le_of_ble_eq_true rfl) (Nat.le_of_ble_eq_true rfl) rfl hl.1 rfl (Nat.le_of_ble_eq_true rfl) dX9_holds_75 (fun H locs hJ => ?_)
        refine lv_lload hx hb dX9_holds_78 (lv_at hl 4 rfl) ?_
        refine W.lcmp hx hb dX9_holds_80 ?_
        refine lv_if_gt (tgt := 110) hx hb dX9_holds_81 (by decide) (fun c47 => ?_) (fun c47 => ?_)
        · rw [if_pos c47] at hf
          exact D110  σ44 hf _ _ hJ ls (lv_sub hl [] rfl)
        · rw [if_neg c47] at hf
          refine lv_lload hx hb dX9_holds_84 (lv_at hl 4 rfl) ?_
          refine lv_aload_n hx hb dX9_holds_86 rfl (lv_at hl 1 rfl) ?_
          obtain ⟨b48, e49, hf⟩ := mb0 hf
          refine my_gR hx hb hts hown hK hJ fd_RX9_13 hv_9_2 e49 dX9_holds_87 ?_
          refine lv_iload_n hx hb dX9_holds_90 rfl (lv_at hl 2 rfl) ?_
          obtain ⟨x50, e51, hf⟩ := mb0 hf
          refine mx_aL hx hb hK hJ e51 dX9_holds_91 ?_
          refine lv_aload_n hx hb dX9_holds_92 rfl (lv_at hl 1 rfl) ?_
          obtain ⟨b52, e53, hf⟩ := mb0 hf
          refine my_gR hx hb hts hown hK hJ fd_RX9_13 hv_9_2 e53 dX9_holds_93 ?_
          refine lv_iload hx hb dX9_holds_96 (lv_at hl 0 rfl) ?_
          obtain ⟨x54, e55, hf⟩ := mb0 hf
          refine mx_aL hx hb hK hJ e55 dX9_holds_98 ?_
          obtain ⟨x57, σ56, e58, hf⟩ := mc0 hf
          refine mx_callS (As := [.long x50, .long x54]) (rest := [.long p4]) hx hb hml hts hown hK hJ rfl rfl (c_J9_max_f86c9 l G P x50 x54 σ44 x57 σ56 e58) me_J9_max_f86c9 kw_712 kw_1693 (Nat.le_of_ble_eq_true rfl) (Nat.le_of_ble_eq_true rfl) rfl hl.1 rfl (Nat.le_of_ble_eq_true rfl) dX9_holds_99 (fun H locs hJ => ?_)
          refine W.lcmp hx hb dX9_holds_102 ?_
          refine lv_if_gt (tgt := 110) hx hb dX9_holds_103 (by decide) (fun c59 => ?_) (fun c59 => ?_)
          · rw [if_pos c59] at hf
            exact D110  σ56 hf _ _ hJ ls (lv_sub hl [] rfl)
          · rw [if_neg c59] at hf
            refine lv_iconst (v := 1) hx hb dX9_holds_106 (by decide) ?_
            refine lv_goto (tgt := 111) hx hb dX9_holds_107 (by decide) ?_
            exact D111 (1 : Int32) σ56 hf _ _ hJ ls (lv_sub hl [] rfl)
set_option maxHeartbeats 4000000 in
set_option maxRecDepth 100000 in
theorem c_X9_touches (l : Launch) (G : mx_G) (P : mx_P) (a0 : Nat) (p1 : Int32) (a2 : Nat) (p3 : Int32) (σ : mx_S) (r : Int32) (σ' : mx_S) (hf : f_X9_touches P a0 p1 a2 p3 σ = some (r, σ')) : mxz σ ≤ mpc P → mxu σ ≤ mps P → mx_M l yX9_touches cX9_touches 6 (some .boolean) 3 75 G P [.ref a0, .int p1, .ref a2, .int p3] σ (some (.int r)) σ' := by
  intro hcap hcau
  refine mx_ofW (by decide +kernel) hcap hcau (Nat.le_of_ble_eq_true rfl) ?_
  intro p e s m below meth c hx hb hr hml hts hown hlocks hname hK hJ ls hl
  have hz0 := hJ.2.1
  have hown : s.vm.findClass RX9 = some m.cls := hown
  have hl : lv_has ls 6 [(0, .ref a0), (1, .int p1), (2, .ref a2), (3, .int p3)] := hl
  have D125 : ∀ (w0 : Int32) (τ : mx_S), f_X9_touches_D125 P w0 τ = some (r, σ') → ∀ (H : Heap) (locs : List Loc), mx_J G P s.heap (mxz σ) (mxu σ) τ H locs → ∀ ls : Array Slot, lv_has ls 6 [] → W p l e (mx_rm P 3 75 σ) s m ([.ref a0, .int p1, .ref a2, .int p3] : List Value).toArray below meth c H locs (mxz τ - mxz σ) (mxu τ - mxu σ) (mx_Z below G P (some (.int r)) σ σ' [.ref a0, .int p1, .ref a2, .int p3] s) (F0 m 125 ls [.int w0]) := by
    intro w0 τ hf _ _ hJ ls hl
    unfold f_X9_touches_D125 at hf
    exact mx_zret hx hb hr hlocks hJ hf dX9_touches_125
  have D120 : ∀  (τ : mx_S), f_X9_touches_D120 P  τ = some (r, σ') → ∀ (H : Heap) (locs : List Loc), mx_J G P s.heap (mxz σ) (mxu σ) τ H locs → ∀ ls : Array Slot, lv_has ls 6 [] → W p l e (mx_rm P 3 75 σ) s m ([.ref a0, .int p1, .ref a2, .int p3] : List Value).toArray below meth c H locs (mxz τ - mxz σ) (mxu τ - mxu σ) (mx_Z below G P (some (.int r)) σ σ' [.ref a0, .int p1, .ref a2, .int p3] s) (F0 m 120 ls []) := by
    intro  τ hf _ _ hJ ls hl
    unfold f_X9_touches_D120 at hf
    refine lv_iconst (v := 1) hx hb dX9_touches_120 (by decide) ?_
    refine lv_goto (tgt := 125) hx hb dX9_touches_121 (by decide) ?_
    exact D125 (1 : Int32) τ hf _ _ hJ ls (lv_sub hl [] rfl)
  have D22 : ∀ (v0 : Nat) (v1 : Int32) (v2 : Nat) (v3 : Int32) (τ : mx_S), f_X9_touches_D22 P v0 v1 v2 v3 τ = some (r, σ') → ∀ (H : Heap) (locs : List Loc), mx_J G P s.heap (mxz σ) (mxu σ) τ H locs → ∀ ls : Array Slot, lv_has ls 6 [(0, .ref v0), (1, .int v1), (2, .ref v2), (3, .int v3)] → W p l e (mx_rm P 3 75 σ) s m ([.ref a0, .int p1, .ref a2, .int p3] : List Value).toArray below meth c H locs (mxz τ - mxz σ) (mxu τ - mxu σ) (mx_Z below G P (some (.int r)) σ σ' [.ref a0, .int p1, .ref a2, .int p3] s) (F0 m 22 ls []) := by
    intro v0 v1 v2 v3 τ hf _ _ hJ ls hl
    unfold f_X9_touches_D22 at hf
    refine lv_aload_n hx hb dX9_touches_22 rfl (lv_at hl 0 rfl) ?_
    refine lv_iload_n hx hb dX9_touches_23 rfl (lv_at hl 1 rfl) ?_
    obtain ⟨i7, e8, hf⟩ := mb0 hf
    obtain ⟨x10, σ9, e11, hf⟩ := mc0 hf
    refine mx_callV (As := [.int v1]) (rest := []) hx hb hml hts hown hK hJ rfl rfl (ci := 9) rfl e8 (c_X9_after l G P v0 v1 τ x10 σ9 e11) me_X9_after kw_1670 ks_58 kw_1668 (Nat.le_of_ble_eq_true rfl) (Nat.le_of_ble_eq_true rfl) rfl hl.1 rfl (Nat.le_of_ble_eq_true rfl) dX9_touches_24 (fun H locs hJ => ?_)
    refine lv_istore (lv' := [(4, .int x10), (0, .ref v0), (1, .int v1), (2, .ref v2), (3, .int v3)]) hx hb dX9_touches_27 hl (by decide) rfl (fun ls hl => ?_)
    refine lv_aload_n hx hb dX9_touches_29 rfl (lv_at hl 3 rfl) ?_
    refine lv_iload_n hx hb dX9_touches_30 rfl (lv_at hl 4 rfl) ?_
    obtain ⟨i12, e13, hf⟩ := mb0 hf
    obtain ⟨x15, σ14, e16, hf⟩ := mc0 hf
    refine mx_callV (As := [.int v3]) (rest := []) hx hb hml hts hown hK hJ rfl rfl (ci := 9) rfl e13 (c_X9_after l G P v2 v3 σ9 x15 σ14 e16) me_X9_after kw_1670 ks_58 kw_1668 (Nat.le_of_ble_eq_true rfl) (Nat.le_of_ble_eq_true rfl) rfl hl.1 rfl (Nat.le_of_ble_eq_true rfl) dX9_touches_31 (fun H locs hJ => ?_)
    refine lv_istore (lv' := [(5, .int x15), (4, .int x10), (0, .ref v0), (1, .int v1), (2, .ref v2), (3, .int v3)]) hx hb dX9_touches_34 hl (by decide) rfl (fun ls hl => ?_)
    refine lv_aload_n hx hb dX9_touches_36 rfl (lv_at hl 2 rfl) ?_
    refine lv_iload_n hx hb dX9_touches_37 rfl (lv_at hl 3 rfl) ?_
    refine lv_aload_n hx hb dX9_touches_38 rfl (lv_at hl 4 rfl) ?_
    obtain ⟨b17, e18, hf⟩ := mb0 hf
    refine my_gR hx hb hts hown hK hJ fd_RX9_9 hv_9_1 e18 dX9_touches_39 ?_
    refine lv_iload_n hx hb dX9_touches_42 rfl (lv_at hl 5 rfl) ?_
    obtain ⟨x19, e20, hf⟩ := mb0 hf
    refine mx_aL hx hb hK hJ e20 dX9_touches_43 ?_
    refine lv_aload_n hx hb dX9_touches_44 rfl (lv_at hl 4 rfl) ?_
    obtain ⟨b21, e22, hf⟩ := mb0 hf
    refine my_gR hx hb hts hown hK hJ fd_RX9_13 hv_9_2 e22 dX9_touches_45 ?_
    refine lv_iload_n hx hb dX9_touches_48 rfl (lv_at hl 5 rfl) ?_
    obtain ⟨x23, e24, hf⟩ := mb0 hf
    refine mx_aL hx hb hK hJ e24 dX9_touches_49 ?_
    obtain ⟨i25, e26, hf⟩ := mb0 hf
    obtain ⟨x28, σ27, e29, hf⟩ := mc0 hf
    refine mx_callV (As := [.int v1, .long x19, .long x23]) (rest := []) hx hb hml hts hown hK hJ rfl rfl (ci := 9) rfl e26 (c_X9_holds l G P v0 v1 x19 x23 σ14 x28 σ27 e29) me_X9_holds kw_1690 ks_62 kw_1688 (Nat.le_of_ble_eq_true rfl) (Nat.le_of_ble_eq_true rfl) rfl hl.1 rfl (Nat.le_of_ble_eq_true rfl) dX9_touches_50 (fun H locs hJ => ?_)
    refine lv_if_ne (tgt := 120) hx hb dX9_touches_53 (by decide) (fun c30 => ?_) (fun c30 => ?_)
    · rw [if_neg c30] at hf
      exact D120  σ27 hf _ _ hJ ls (lv_sub hl [] rfl)
    · rw [if_pos c30] at hf
      refine lv_aload_n hx hb dX9_touches_56 rfl (lv_at hl 2 rfl) ?_
      refine lv_iload_n hx hb dX9_touches_57 rfl (lv_at hl 3 rfl) ?_
      refine lv_aload_n hx hb dX9_touches_58 rfl (lv_at hl 4 rfl) ?_
      obtain ⟨b31, e32, hf⟩ := mb0 hf
      refine my_gR hx hb hts hown hK hJ fd_RX9_9 hv_9_1 e32 dX9_touches_59 ?_
      refine lv_iload hx hb dX9_touches_62 (lv_at hl 0 rfl) ?_
      obtain ⟨x33, e34, hf⟩ := mb0 hf
      refine mx_aL hx hb hK hJ e34 dX9_touches_64 ?_
      refine lv_aload_n hx hb dX9_touches_65 rfl (lv_at hl 4 rfl) ?_
      obtain ⟨b35, e36, hf⟩ := mb0 hf
      refine my_gR hx hb hts hown hK hJ fd_RX9_13 hv_9_2 e36 dX9_touches_66 ?_
      refine lv_iload hx hb dX9_touches_69 (lv_at hl 0 rfl) ?_
      obtain ⟨x37, e38, hf⟩ := mb0 hf
      refine mx_aL hx hb hK hJ e38 dX9_touches_71 ?_
      obtain ⟨i39, e40, hf⟩ := mb0 hf
      obtain ⟨x42, σ41, e43, hf⟩ := mc0 hf
      refine mx_callV (As := [.int v1, .long x33, .long x37]) (rest := []) hx hb hml hts hown hK hJ rfl rfl (ci := 9) rfl e40 (c_X9_holds l G P v0 v1 x33 x37 σ27 x42 σ41 e43) me_X9_holds kw_1690 ks_62 kw_1688 (Nat.le_of_ble_eq_true rfl) (Nat.le_of_ble_eq_true rfl) rfl hl.1 rfl (Nat.le_of_ble_eq_true rfl) dX9_touches_72 (fun H locs hJ => ?_)
      refine lv_if_ne (tgt := 120) hx hb dX9_touches_75 (by decide) (fun c44 => ?_) (fun c44 => ?_)
      · rw [if_neg c44] at hf
        exact D120  σ41 hf _ _ hJ ls (lv_sub hl [] rfl)
      · rw [if_pos c44] at hf
        refine lv_aload_n hx hb dX9_touches_78 rfl (lv_at hl 4 rfl) ?_
        refine lv_iload_n hx hb dX9_touches_79 rfl (lv_at hl 5 rfl) ?_
        refine lv_aload_n hx hb dX9_touches_80 rfl (lv_at hl 2 rfl) ?_
        obtain ⟨b45, e46, hf⟩ := mb0 hf
        refine my_gR hx hb hts hown hK hJ fd_RX9_9 hv_9_1 e46 dX9_touches_81 ?_
        refine lv_iload_n hx hb dX9_touches_84 rfl (lv_at hl 3 rfl) ?_
        obtain ⟨x47, e48, hf⟩ := mb0 hf
        refine mx_aL hx hb hK hJ e48 dX9_touches_85 ?_
        refine lv_aload_n hx hb dX9_touches_86 rfl (lv_at hl 2 rfl) ?_
        obtain ⟨b49, e50, hf⟩ := mb0 hf
        refine my_gR hx hb hts hown hK hJ fd_RX9_13 hv_9_2 e50 dX9_touches_87 ?_
        refine lv_iload_n hx hb dX9_touches_90 rfl (lv_at hl 3 rfl) ?_
        obtain ⟨x51, e52, hf⟩ := mb0 hf
        refine mx_aL hx hb hK hJ e52 dX9_touches_91 ?_
        obtain ⟨i53, e54, hf⟩ := mb0 hf
        obtain ⟨x56, σ55, e57, hf⟩ := mc0 hf
        refine mx_callV (As := [.int v3, .long x47, .long x51]) (rest := []) hx hb hml hts hown hK hJ rfl rfl (ci := 9) rfl e54 (c_X9_holds l G P v2 v3 x47 x51 σ41 x56 σ55 e57) me_X9_holds kw_1690 ks_62 kw_1688 (Nat.le_of_ble_eq_true rfl) (Nat.le_of_ble_eq_true rfl) rfl hl.1 rfl (Nat.le_of_ble_eq_true rfl) dX9_touches_92 (fun H locs hJ => ?_)
        refine lv_if_ne (tgt := 120) hx hb dX9_touches_95 (by decide) (fun c58 => ?_) (fun c58 => ?_)
        · rw [if_neg c58] at hf
          exact D120  σ55 hf _ _ hJ ls (lv_sub hl [] rfl)
        · rw [if_pos c58] at hf
          refine lv_aload_n hx hb dX9_touches_98 rfl (lv_at hl 4 rfl) ?_
          refine lv_iload_n hx hb dX9_touches_99 rfl (lv_at hl 5 rfl) ?_
          refine lv_aload_n hx hb dX9_touches_100 rfl (lv_at hl 2 rfl) ?_
          obtain ⟨b59, e60, hf⟩ := mb0 hf
          refine my_gR hx hb hts hown hK hJ fd_RX9_9 hv_9_1 e60 dX9_touches_101 ?_
          refine lv_iload hx hb dX9_touches_104 (lv_at hl 1 rfl) ?_
          obtain ⟨x61, e62, hf⟩ := mb0 hf
          refine mx_aL hx hb hK hJ e62 dX9_touches_106 ?_
          refine lv_aload_n hx hb dX9_touches_107 rfl (lv_at hl 2 rfl) ?_
          obtain ⟨b63, e64, hf⟩ := mb0 hf
          refine my_gR hx hb hts hown hK hJ fd_RX9_13 hv_9_2 e64 dX9_touches_108 ?_
          refine lv_iload hx hb dX9_touches_111 (lv_at hl 1 rfl) ?_
          obtain ⟨x65, e66, hf⟩ := mb0 hf
          refine mx_aL hx hb hK hJ e66 dX9_touches_113 ?_
          obtain ⟨i67, e68, hf⟩ := mb0 hf
          obtain ⟨x70, σ69, e71, hf⟩ := mc0 hf
          refine mx_callV (As := [.int v3, .long x61, .long x65]) (rest := []) hx hb hml hts hown hK hJ rfl rfl (ci := 9) rfl e68 (c_X9_holds l G P v2 v3 x61 x65 σ55 x70 σ69 e71) me_X9_holds kw_1690 ks_62 kw_1688 (Nat.le_of_ble_eq_true rfl) (Nat.le_of_ble_eq_true rfl) rfl hl.1 rfl (Nat.le_of_ble_eq_true rfl) dX9_touches_114 (fun H locs hJ => ?_)
          refine lv_if_eq (tgt := 124) hx hb dX9_touches_117 (by decide) (fun c72 => ?_) (fun c72 => ?_)
          · rw [if_pos c72] at hf
            refine lv_iconst (v := 0) hx hb dX9_touches_124 (by decide) ?_
            exact D125 (0 : Int32) σ69 hf _ _ hJ ls (lv_sub hl [] rfl)
          · rw [if_neg c72] at hf
            exact D120  σ69 hf _ _ hJ ls (lv_sub hl [] rfl)
  unfold f_X9_touches at hf
  refine lv_aload_n hx hb dX9_touches_0 rfl (lv_at hl 0 rfl) ?_
  refine lv_iload_n hx hb dX9_touches_1 rfl (lv_at hl 1 rfl) ?_
  refine lv_aload_n hx hb dX9_touches_2 rfl (lv_at hl 2 rfl) ?_
  refine lv_iload_n hx hb dX9_touches_3 rfl (lv_at hl 3 rfl) ?_
  obtain ⟨i1, e2, hf⟩ := mb0 hf
  obtain ⟨x4, σ3, e5, hf⟩ := mc0 hf
  refine mx_callV (As := [.int p1, .ref a2, .int p3]) (rest := []) hx hb hml hts hown hK hJ rfl rfl (ci := 9) rfl e2 (c_X9_parts l G P a0 p1 a2 p3 σ x4 σ3 e5) me_X9_parts kw_1682 ks_60 kw_1680 (Nat.le_of_ble_eq_true rfl) (Nat.le_of_ble_eq_true rfl) rfl hl.1 rfl (Nat.le_of_ble_eq_true rfl) dX9_touches_4 (fun H locs hJ => ?_)
  refine lv_if_eq (tgt := 22) hx hb dX9_touches_7 (by decide) (fun c6 => ?_) (fun c6 => ?_)
  · rw [if_pos c6] at hf
    exact D22 a0 p1 a2 p3 σ3 hf _ _ hJ ls (lv_sub hl [0, 1, 2, 3] rfl)
  · rw [if_neg c6] at hf
    refine lv_aload_n hx hb dX9_touches_10 rfl (lv_at hl 2 rfl) ?_
    refine lv_iload_n hx hb dX9_touches_11 rfl (lv_at hl 3 rfl) ?_
    refine lv_aload_n hx hb dX9_touches_12 rfl (lv_at hl 0 rfl) ?_
    refine lv_iload_n hx hb dX9_touches_13 rfl (lv_at hl 1 rfl) ?_
    obtain ⟨i73, e74, hf⟩ := mb0 hf
    obtain ⟨x76, σ75, e77, hf⟩ := mc0 hf
    refine mx_callV (As := [.int p3, .ref a0, .int p1]) (rest := []) hx hb hml hts hown hK hJ rfl rfl (ci := 9) rfl e74 (c_X9_parts l G P a2 p3 a0 p1 σ3 x76 σ75 e77) me_X9_parts kw_1682 ks_60 kw_1680 (Nat.le_of_ble_eq_true rfl) (Nat.le_of_ble_eq_true rfl) rfl hl.1 rfl (Nat.le_of_ble_eq_true rfl) dX9_touches_14 (fun H locs hJ => ?_)
    refine lv_if_eq (tgt := 22) hx hb dX9_touches_17 (by decide) (fun c78 => ?_) (fun c78 => ?_)
    · rw [if_pos c78] at hf
      exact D22 a0 p1 a2 p3 σ75 hf _ _ hJ ls (lv_sub hl [0, 1, 2, 3] rfl)
    · rw [if_neg c78] at hf
      refine lv_iconst (v := 1) hx hb dX9_touches_20 (by decide) ?_
      exact mx_zret hx hb hr hlocks hJ hf dX9_touches_21
set_option maxHeartbeats 4000000 in
set_option maxRecDepth 100000 in
theorem c_X9_crossing (l : Launch) (G : mx_G) (P : mx_P) (a0 : Nat) (p1 : Int32) (σ : mx_S) (r : Int32) (σ' : mx_S) (hf : f_X9_crossing P a0 p1 σ = some (r, σ')) : mxz σ ≤ mpc P → mxu σ ≤ mps P → mx_M l yX9_crossing cX9_crossing 5 (some .int) 4 100 G P [.ref a0, .int p1] σ (some (.int r)) σ' := by
  intro hcap hcau
  refine mx_ofW (by decide +kernel) hcap hcau (Nat.le_of_ble_eq_true rfl) ?_
  intro p e s m below meth c hx hb hr hml hts hown hlocks hname hK hJ ls hl
  have hz0 := hJ.2.1
  have hown : s.vm.findClass RX9 = some m.cls := hown
  have hl : lv_has ls 5 [(0, .ref a0), (1, .int p1)] := hl
  have D68_14 : ∀ (v0 : Nat) (v1 : Int32) (v2 : Int32) (v3 : Int32) (τ : mx_S) (o : (Int32 × mx_S) ⊕ ((Int32 × mx_S) ⊕ (mx_S))), f_X9_crossing_D68_14 P v0 v1 v2 v3 τ = some o → (∀ (y3 : Int32) (υ : mx_S), o = .inl (y3, υ) → ∀ (H : Heap) (locs : List Loc), mx_J G P s.heap (mxz σ) (mxu σ) υ H locs → ∀ ls : Array Slot, lv_has ls 5 [(0, .ref v0), (1, .int v1), (2, .int v2), (3, .int y3)] → W p l e (mx_rm P 4 100 σ) s m ([.ref a0, .int p1] : List Value).toArray below meth c H locs (mxz υ - mxz σ) (mxu υ - mxu σ) (mx_Z below G P (some (.int r)) σ σ' [.ref a0, .int p1] s) (F0 m 14 ls [])) → (∀ (y3 : Int32) (υ : mx_S), o = .inr (.inl (y3, υ)) → ∀ (H : Heap) (locs : List Loc), mx_J G P s.heap (mxz σ) (mxu σ) υ H locs → ∀ ls : Array Slot, lv_has ls 5 [(1, .int v1), (2, .int v2), (3, .int y3)] → W p l e (mx_rm P 4 100 σ) s m ([.ref a0, .int p1] : List Value).toArray below meth c H locs (mxz υ - mxz σ) (mxu υ - mxu σ) (mx_Z below G P (some (.int r)) σ σ' [.ref a0, .int p1] s) (F0 m 58 ls [])) → (∀  (υ : mx_S), o = .inr (.inr υ) → ∀ (H : Heap) (locs : List Loc), mx_J G P s.heap (mxz σ) (mxu σ) υ H locs → ∀ ls : Array Slot, lv_has ls 5 [(0, .ref v0), (1, .int v1), (2, .int v2)] → W p l e (mx_rm P 4 100 σ) s m ([.ref a0, .int p1] : List Value).toArray below meth c H locs (mxz υ - mxz σ) (mxu υ - mxu σ) (mx_Z below G P (some (.int r)) σ σ' [.ref a0, .int p1] s) (F0 m 74 ls [])) → ∀ (H : Heap) (locs : List Loc), mx_J G P s.heap (mxz σ) (mxu σ) τ H locs → ∀ ls : Array Slot, lv_has ls 5 [(0, .ref v0), (1, .int v1), (2, .int v2), (3, .int v3)] → W p l e (mx_rm P 4 100 σ) s m ([.ref a0, .int p1] : List Value).toArray below meth c H locs (mxz τ - mxz σ) (mxu τ - mxu σ) (mx_Z below G P (some (.int r)) σ σ' [.ref a0, .int p1] s) (F0 m 68 ls []) := by
    intro v0 v1 v2 v3 τ o hf Kb Ke0 Ke1 H locs hJ ls hl
    unfold f_X9_crossing_D68_14 at hf
    obtain ⟨x11, e12, hf⟩ := mb0 hf
    refine lv_iinc (v := x11) (lv' := [(3, .int x11), (0, .ref v0), (1, .int v1), (2, .int v2)]) hx hb dX9_crossing_68 hl (k := 3) rfl (by rw [← Option.some.inj e12]; rfl) (by decide) rfl (fun ls hl => ?_)
    refine lv_goto (tgt := 14) hx hb dX9_crossing_71 (by decide) ?_
    exact Kb x11 τ (Option.some.inj hf).symm _ _ hJ ls (lv_sub hl [1, 2, 3, 0] rfl)
  have D41_14 : ∀ (v0 : Nat) (v1 : Int32) (v2 : Int32) (v3 : Int32) (w0 : Int32) (τ : mx_S) (o : (Int32 × mx_S) ⊕ ((Int32 × mx_S) ⊕ (mx_S))), f_X9_crossing_D41_14 P v0 v1 v2 v3 w0 τ = some o → (∀ (y3 : Int32) (υ : mx_S), o = .inl (y3, υ) → ∀ (H : Heap) (locs : List Loc), mx_J G P s.heap (mxz σ) (mxu σ) υ H locs → ∀ ls : Array Slot, lv_has ls 5 [(0, .ref v0), (1, .int v1), (2, .int v2), (3, .int y3)] → W p l e (mx_rm P 4 100 σ) s m ([.ref a0, .int p1] : List Value).toArray below meth c H locs (mxz υ - mxz σ) (mxu υ - mxu σ) (mx_Z below G P (some (.int r)) σ σ' [.ref a0, .int p1] s) (F0 m 14 ls [])) → (∀ (y3 : Int32) (υ : mx_S), o = .inr (.inl (y3, υ)) → ∀ (H : Heap) (locs : List Loc), mx_J G P s.heap (mxz σ) (mxu σ) υ H locs → ∀ ls : Array Slot, lv_has ls 5 [(1, .int v1), (2, .int v2), (3, .int y3)] → W p l e (mx_rm P 4 100 σ) s m ([.ref a0, .int p1] : List Value).toArray below meth c H locs (mxz υ - mxz σ) (mxu υ - mxu σ) (mx_Z below G P (some (.int r)) σ σ' [.ref a0, .int p1] s) (F0 m 58 ls [])) → (∀  (υ : mx_S), o = .inr (.inr υ) → ∀ (H : Heap) (locs : List Loc), mx_J G P s.heap (mxz σ) (mxu σ) υ H locs → ∀ ls : Array Slot, lv_has ls 5 [(0, .ref v0), (1, .int v1), (2, .int v2)] → W p l e (mx_rm P 4 100 σ) s m ([.ref a0, .int p1] : List Value).toArray below meth c H locs (mxz υ - mxz σ) (mxu υ - mxu σ) (mx_Z below G P (some (.int r)) σ σ' [.ref a0, .int p1] s) (F0 m 74 ls [])) → ∀ (H : Heap) (locs : List Loc), mx_J G P s.heap (mxz σ) (mxu σ) τ H locs → ∀ ls : Array Slot, lv_has ls 5 [(0, .ref v0), (1, .int v1), (2, .int v2), (3, .int v3)] → W p l e (mx_rm P 4 100 σ) s m ([.ref a0, .int p1] : List Value).toArray below meth c H locs (mxz τ - mxz σ) (mxu τ - mxu σ) (mx_Z below G P (some (.int r)) σ σ' [.ref a0, .int p1] s) (F0 m 41 ls [.int w0]) := by
    intro v0 v1 v2 v3 w0 τ o hf Kb Ke0 Ke1 H locs hJ ls hl
    unfold f_X9_crossing_D41_14 at hf
    refine lv_istore (lv' := [(4, .int w0), (0, .ref v0), (1, .int v1), (2, .int v2), (3, .int v3)]) hx hb dX9_crossing_41 hl (by decide) rfl (fun ls hl => ?_)
    refine lv_iload hx hb dX9_crossing_43 (lv_at hl 0 rfl) ?_
    refine lv_if_ne (tgt := 68) hx hb dX9_crossing_45 (by decide) (fun c10 => ?_) (fun c10 => ?_)
    · rw [if_neg c10] at hf
      exact D68_14 v0 v1 v2 v3 τ o hf Kb Ke0 Ke1 _ _ hJ ls (lv_sub hl [1, 2, 3, 4] rfl)
    · rw [if_pos c10] at hf
      refine lv_aload_n hx hb dX9_crossing_48 rfl (lv_at hl 1 rfl) ?_
      refine lv_iload_n hx hb dX9_crossing_49 rfl (lv_at hl 3 rfl) ?_
      refine lv_aload_n hx hb dX9_crossing_50 rfl (lv_at hl 1 rfl) ?_
      refine lv_iload_n hx hb dX9_crossing_51 rfl (lv_at hl 4 rfl) ?_
      obtain ⟨i13, e14, hf⟩ := mb0 hf
      obtain ⟨x16, σ15, e17, hf⟩ := mc0 hf
      refine mx_callV (As := [.int v2, .ref v0, .int v3]) (rest := []) hx hb hml hts hown hK hJ rfl rfl (ci := 9) rfl e14 (c_X9_touches l G P v0 v2 v0 v3 τ x16 σ15 e17) me_X9_touches kw_1678 ks_59 kw_1676 (Nat.le_of_ble_eq_true rfl) (Nat.le_of_ble_eq_true rfl) rfl hl.1 rfl (Nat.le_of_ble_eq_true rfl) dX9_crossing_52 (fun H locs hJ => ?_)
      refine lv_if_eq (tgt := 68) hx hb dX9_crossing_55 (by decide) (fun c18 => ?_) (fun c18 => ?_)
      · rw [if_pos c18] at hf
        exact D68_14 v0 v1 v2 v3 σ15 o hf Kb Ke0 Ke1 _ _ hJ ls (lv_sub hl [1, 2, 3, 4] rfl)
      · rw [if_neg c18] at hf
        exact Ke0 v3 σ15 (Option.some.inj hf).symm _ _ hJ ls (lv_sub hl [2, 3, 4] rfl)
  have D40_14 : ∀ (v0 : Nat) (v1 : Int32) (v2 : Int32) (v3 : Int32) (τ : mx_S) (o : (Int32 × mx_S) ⊕ ((Int32 × mx_S) ⊕ (mx_S))), f_X9_crossing_D40_14 P v0 v1 v2 v3 τ = some o → (∀ (y3 : Int32) (υ : mx_S), o = .inl (y3, υ) → ∀ (H : Heap) (locs : List Loc), mx_J G P s.heap (mxz σ) (mxu σ) υ H locs → ∀ ls : Array Slot, lv_has ls 5 [(0, .ref v0), (1, .int v1), (2, .int v2), (3, .int y3)] → W p l e (mx_rm P 4 100 σ) s m ([.ref a0, .int p1] : List Value).toArray below meth c H locs (mxz υ - mxz σ) (mxu υ - mxu σ) (mx_Z below G P (some (.int r)) σ σ' [.ref a0, .int p1] s) (F0 m 14 ls [])) → (∀ (y3 : Int32) (υ : mx_S), o = .inr (.inl (y3, υ)) → ∀ (H : Heap) (locs : List Loc), mx_J G P s.heap (mxz σ) (mxu σ) υ H locs → ∀ ls : Array Slot, lv_has ls 5 [(1, .int v1), (2, .int v2), (3, .int y3)] → W p l e (mx_rm P 4 100 σ) s m ([.ref a0, .int p1] : List Value).toArray below meth c H locs (mxz υ - mxz σ) (mxu υ - mxu σ) (mx_Z below G P (some (.int r)) σ σ' [.ref a0, .int p1] s) (F0 m 58 ls [])) → (∀  (υ : mx_S), o = .inr (.inr υ) → ∀ (H : Heap) (locs : List Loc), mx_J G P s.heap (mxz σ) (mxu σ) υ H locs → ∀ ls : Array Slot, lv_has ls 5 [(0, .ref v0), (1, .int v1), (2, .int v2)] → W p l e (mx_rm P 4 100 σ) s m ([.ref a0, .int p1] : List Value).toArray below meth c H locs (mxz υ - mxz σ) (mxu υ - mxu σ) (mx_Z below G P (some (.int r)) σ σ' [.ref a0, .int p1] s) (F0 m 74 ls [])) → ∀ (H : Heap) (locs : List Loc), mx_J G P s.heap (mxz σ) (mxu σ) τ H locs → ∀ ls : Array Slot, lv_has ls 5 [(0, .ref v0), (1, .int v1), (2, .int v2), (3, .int v3)] → W p l e (mx_rm P 4 100 σ) s m ([.ref a0, .int p1] : List Value).toArray below meth c H locs (mxz τ - mxz σ) (mxu τ - mxu σ) (mx_Z below G P (some (.int r)) σ σ' [.ref a0, .int p1] s) (F0 m 40 ls []) := by
    intro v0 v1 v2 v3 τ o hf Kb Ke0 Ke1 H locs hJ ls hl
    unfold f_X9_crossing_D40_14 at hf
    refine lv_iconst (v := 0) hx hb dX9_crossing_40 (by decide) ?_
    exact D41_14 v0 v1 v2 v3 (0 : Int32) τ o hf Kb Ke0 Ke1 _ _ hJ ls (lv_sub hl [0, 1, 2, 3] rfl)
  have B14 : ∀ (v0 : Nat) (v1 : Int32) (v2 : Int32) (v3 : Int32) (τ : mx_S) (o : (Int32 × mx_S) ⊕ ((Int32 × mx_S) ⊕ (mx_S))), f_X9_crossing_B14 P v0 v1 v2 v3 τ = some o → (∀ (y3 : Int32) (υ : mx_S), o = .inl (y3, υ) → ∀ (H : Heap) (locs : List Loc), mx_J G P s.heap (mxz σ) (mxu σ) υ H locs → ∀ ls : Array Slot, lv_has ls 5 [(0, .ref v0), (1, .int v1), (2, .int v2), (3, .int y3)] → W p l e (mx_rm P 4 100 σ) s m ([.ref a0, .int p1] : List Value).toArray below meth c H locs (mxz υ - mxz σ) (mxu υ - mxu σ) (mx_Z below G P (some (.int r)) σ σ' [.ref a0, .int p1] s) (F0 m 14 ls [])) → (∀ (y3 : Int32) (υ : mx_S), o = .inr (.inl (y3, υ)) → ∀ (H : Heap) (locs : List Loc), mx_J G P s.heap (mxz σ) (mxu σ) υ H locs → ∀ ls : Array Slot, lv_has ls 5 [(1, .int v1), (2, .int v2), (3, .int y3)] → W p l e (mx_rm P 4 100 σ) s m ([.ref a0, .int p1] : List Value).toArray below meth c H locs (mxz υ - mxz σ) (mxu υ - mxu σ) (mx_Z below G P (some (.int r)) σ σ' [.ref a0, .int p1] s) (F0 m 58 ls [])) → (∀  (υ : mx_S), o = .inr (.inr υ) → ∀ (H : Heap) (locs : List Loc), mx_J G P s.heap (mxz σ) (mxu σ) υ H locs → ∀ ls : Array Slot, lv_has ls 5 [(0, .ref v0), (1, .int v1), (2, .int v2)] → W p l e (mx_rm P 4 100 σ) s m ([.ref a0, .int p1] : List Value).toArray below meth c H locs (mxz υ - mxz σ) (mxu υ - mxu σ) (mx_Z below G P (some (.int r)) σ σ' [.ref a0, .int p1] s) (F0 m 74 ls [])) → ∀ (H : Heap) (locs : List Loc), mx_J G P s.heap (mxz σ) (mxu σ) τ H locs → ∀ ls : Array Slot, lv_has ls 5 [(0, .ref v0), (1, .int v1), (2, .int v2), (3, .int v3)] → W p l e (mx_rm P 4 100 σ) s m ([.ref a0, .int p1] : List Value).toArray below meth c H locs (mxz τ - mxz σ) (mxu τ - mxu σ) (mx_Z below G P (some (.int r)) σ σ' [.ref a0, .int p1] s) (F0 m 14 ls []) := by
    intro v0 v1 v2 v3 τ o hf Kb Ke0 Ke1 H locs hJ ls hl
    unfold f_X9_crossing_B14 at hf
    refine lv_iload_n hx hb dX9_crossing_14 rfl (lv_at hl 3 rfl) ?_
    refine lv_aload_n hx hb dX9_crossing_15 rfl (lv_at hl 0 rfl) ?_
    obtain ⟨x6, e7, hf⟩ := mb0 hf
    refine my_gI hx hb hts hown hK hJ fd_RX9_16 hv_9_0 e7 dX9_crossing_16 ?_
    refine lv_icmp_ge (tgt := 74) hx hb dX9_crossing_19 (by decide) (fun c8 => ?_) (fun c8 => ?_)
    · rw [if_pos c8] at hf
      exact Ke1 τ (Option.some.inj hf).symm _ _ hJ ls (lv_sub hl [0, 1, 2] rfl)
    · rw [if_neg c8] at hf
      refine lv_iload_n hx hb dX9_crossing_22 rfl (lv_at hl 2 rfl) ?_
      refine lv_if_ne (tgt := 40) hx hb dX9_crossing_23 (by decide) (fun c9 => ?_) (fun c9 => ?_)
      · rw [if_neg c9] at hf
        exact D40_14 v0 v1 v2 v3 τ o hf Kb Ke0 Ke1 _ _ hJ ls (lv_sub hl [0, 1, 2, 3] rfl)
      · rw [if_pos c9] at hf
        refine lv_iload_n hx hb dX9_crossing_26 rfl (lv_at hl 3 rfl) ?_
        refine lv_aload_n hx hb dX9_crossing_27 rfl (lv_at hl 0 rfl) ?_
        obtain ⟨x19, e20, hf⟩ := mb0 hf
        refine my_gI hx hb hts hown hK hJ fd_RX9_16 hv_9_0 e20 dX9_crossing_28 ?_
        refine lv_iconst (v := 1) hx hb dX9_crossing_31 (by decide) ?_
        refine lv_isub hx hb dX9_crossing_32 ?_
        refine lv_icmp_ne (tgt := 40) hx hb dX9_crossing_33 (by decide) (fun c21 => ?_) (fun c21 => ?_)
        · rw [if_neg c21] at hf
          exact D40_14 v0 v1 v2 v3 τ o hf Kb Ke0 Ke1 _ _ hJ ls (lv_sub hl [0, 1, 2, 3] rfl)
        · rw [if_pos c21] at hf
          refine lv_iconst (v := 1) hx hb dX9_crossing_36 (by decide) ?_
          refine lv_goto (tgt := 41) hx hb dX9_crossing_37 (by decide) ?_
          exact D41_14 v0 v1 v2 v3 (1 : Int32) τ o hf Kb Ke0 Ke1 _ _ hJ ls (lv_sub hl [0, 1, 2, 3] rfl)
  have L14 : ∀ (v0 : Nat) (v1 : Int32) (v2 : Int32) (n : Nat) (v3 : Int32) (τ : mx_S) (o : (Int32 × mx_S) ⊕ (mx_S)), mx_lp (f_X9_crossing_L14 P v0 v1 v2) n (v3, τ) = some o → (∀ (y3 : Int32) (υ : mx_S), o = (.inl (y3, υ)) → ∀ (H : Heap) (locs : List Loc), mx_J G P s.heap (mxz σ) (mxu σ) υ H locs → ∀ ls : Array Slot, lv_has ls 5 [(1, .int v1), (2, .int v2), (3, .int y3)] → W p l e (mx_rm P 4 100 σ) s m ([.ref a0, .int p1] : List Value).toArray below meth c H locs (mxz υ - mxz σ) (mxu υ - mxu σ) (mx_Z below G P (some (.int r)) σ σ' [.ref a0, .int p1] s) (F0 m 58 ls [])) → (∀  (υ : mx_S), o = (.inr υ) → ∀ (H : Heap) (locs : List Loc), mx_J G P s.heap (mxz σ) (mxu σ) υ H locs → ∀ ls : Array Slot, lv_has ls 5 [(0, .ref v0), (1, .int v1), (2, .int v2)] → W p l e (mx_rm P 4 100 σ) s m ([.ref a0, .int p1] : List Value).toArray below meth c H locs (mxz υ - mxz σ) (mxu υ - mxu σ) (mx_Z below G P (some (.int r)) σ σ' [.ref a0, .int p1] s) (F0 m 74 ls [])) → ∀ (H : Heap) (locs : List Loc), mx_J G P s.heap (mxz σ) (mxu σ) τ H locs → ∀ ls : Array Slot, lv_has ls 5 [(0, .ref v0), (1, .int v1), (2, .int v2), (3, .int v3)] → W p l e (mx_rm P 4 100 σ) s m ([.ref a0, .int p1] : List Value).toArray below meth c H locs (mxz τ - mxz σ) (mxu τ - mxu σ) (mx_Z below G P (some (.int r)) σ σ' [.ref a0, .int p1] s) (F0 m 14 ls []) := by
    intro v0 v1 v2 n
    induction n with
    | zero =>
      intro v3 τ o hf
      rw [mx_lp0] at hf
      cases hf
    | succ n ih =>
      intro v3 τ o hf Ke0 Ke1 H locs hJ ls hl
      rw [mx_lpS] at hf
      obtain ⟨b, eb, hf⟩ := mb0 hf
      refine B14 v0 v1 v2 v3 τ b eb (fun y3 υ ho H locs hJ ls hl => ?_) (fun y3 υ ho H locs hJ ls hl => ?_) (fun  υ ho H locs hJ ls hl => ?_) H locs hJ ls hl
      · subst ho
        exact ih y3 υ o hf Ke0 Ke1 H locs hJ ls hl
      · subst ho
        exact Ke0 y3 υ (Option.some.inj hf).symm _ _ hJ ls hl
      · subst ho
        exact Ke1  υ (Option.some.inj hf).symm _ _ hJ ls hl
  have B2 : ∀ (v0 : Nat) (v1 : Int32) (v2 : Int32) (τ : mx_S) (o : (Int32 × mx_S) ⊕ ((Int32 × Int32 × mx_S) ⊕ (mx_S))), f_X9_crossing_B2 P v0 v1 v2 τ = some o → (∀ (y2 : Int32) (υ : mx_S), o = .inl (y2, υ) → ∀ (H : Heap) (locs : List Loc), mx_J G P s.heap (mxz σ) (mxu σ) υ H locs → ∀ ls : Array Slot, lv_has ls 5 [(0, .ref v0), (1, .int v1), (2, .int y2)] → W p l e (mx_rm P 4 100 σ) s m ([.ref a0, .int p1] : List Value).toArray below meth c H locs (mxz υ - mxz σ) (mxu υ - mxu σ) (mx_Z below G P (some (.int r)) σ σ' [.ref a0, .int p1] s) (F0 m 2 ls [])) → (∀ (y2 : Int32) (y3 : Int32) (υ : mx_S), o = .inr (.inl (y2, y3, υ)) → ∀ (H : Heap) (locs : List Loc), mx_J G P s.heap (mxz σ) (mxu σ) υ H locs → ∀ ls : Array Slot, lv_has ls 5 [(1, .int v1), (2, .int y2), (3, .int y3)] → W p l e (mx_rm P 4 100 σ) s m ([.ref a0, .int p1] : List Value).toArray below meth c H locs (mxz υ - mxz σ) (mxu υ - mxu σ) (mx_Z below G P (some (.int r)) σ σ' [.ref a0, .int p1] s) (F0 m 58 ls [])) → (∀  (υ : mx_S), o = .inr (.inr υ) → ∀ (H : Heap) (locs : List Loc), mx_J G P s.heap (mxz σ) (mxu σ) υ H locs → ∀ ls : Array Slot, lv_has ls 5 [] → W p l e (mx_rm P 4 100 σ) s m ([.ref a0, .int p1] : List Value).toArray below meth c H locs (mxz υ - mxz σ) (mxu υ - mxu σ) (mx_Z below G P (some (.int r)) σ σ' [.ref a0, .int p1] s) (F0 m 80 ls [])) → ∀ (H : Heap) (locs : List Loc), mx_J G P s.heap (mxz σ) (mxu σ) τ H locs → ∀ ls : Array Slot, lv_has ls 5 [(0, .ref v0), (1, .int v1), (2, .int v2)] → W p l e (mx_rm P 4 100 σ) s m ([.ref a0, .int p1] : List Value).toArray below meth c H locs (mxz τ - mxz σ) (mxu τ - mxu σ) (mx_Z below G P (some (.int r)) σ σ' [.ref a0, .int p1] s) (F0 m 2 ls []) := by
    intro v0 v1 v2 τ o hf Kb Ke0 Ke1 H locs hJ ls hl
    unfold f_X9_crossing_B2 at hf
    refine lv_iload_n hx hb dX9_crossing_2 rfl (lv_at hl 2 rfl) ?_
    refine lv_aload_n hx hb dX9_crossing_3 rfl (lv_at hl 0 rfl) ?_
    obtain ⟨x1, e2, hf⟩ := mb0 hf
    refine my_gI hx hb hts hown hK hJ fd_RX9_16 hv_9_0 e2 dX9_crossing_4 ?_
    refine lv_icmp_ge (tgt := 80) hx hb dX9_crossing_7 (by decide) (fun c3 => ?_) (fun c3 => ?_)
    · rw [if_pos c3] at hf
      exact Ke1 τ (Option.some.inj hf).symm _ _ hJ ls (lv_sub hl [] rfl)
    · rw [if_neg c3] at hf
      refine lv_iload_n hx hb dX9_crossing_10 rfl (lv_at hl 2 rfl) ?_
      refine lv_iconst (v := 2) hx hb dX9_crossing_11 (by decide) ?_
      refine lv_iadd hx hb dX9_crossing_12 ?_
      obtain ⟨x4, e5, hf⟩ := mb0 hf
      refine mx_nI e5 ?_
      refine lv_istore_n (lv' := [(3, .int x4), (0, .ref v0), (1, .int v1), (2, .int v2)]) hx hb dX9_crossing_13 rfl hl (by decide) rfl (fun ls hl => ?_)
      obtain ⟨o22, e23, hf⟩ := mb0 hf
      refine L14 v0 v1 v2 (mpN P) x4 τ o22 e23 (fun y24 σ25 ho H locs hJ ls hl => ?_) (fun σ26 ho H locs hJ ls hl => ?_) _ _ hJ ls (lv_sub hl [1, 2, 3, 0] rfl)
      · rw [ho] at hf
        have hf : (some (.inr (.inl (v2, y24, σ25)))) = some o := hf
        exact Ke0 v2 y24 σ25 (Option.some.inj hf).symm _ _ hJ ls (lv_sub hl [0, 1, 2] rfl)
      · rw [ho] at hf
        have hf : ((some (v2 + (1 : Int32))).bind fun x27 => some (.inl (x27, σ26))) = some o := hf
        obtain ⟨x27, e28, hf⟩ := mb0 hf
        refine lv_iinc (v := x27) (lv' := [(2, .int x27), (0, .ref v0), (1, .int v1)]) hx hb dX9_crossing_74 hl (k := 2) rfl (by rw [← Option.some.inj e28]; rfl) (by decide) rfl (fun ls hl => ?_)
        refine lv_goto (tgt := 2) hx hb dX9_crossing_77 (by decide) ?_
        exact Kb x27 σ26 (Option.some.inj hf).symm _ _ hJ ls (lv_sub hl [1, 2, 0] rfl)
  have L2 : ∀ (v0 : Nat) (v1 : Int32) (n : Nat) (v2 : Int32) (τ : mx_S) (o : (Int32 × Int32 × mx_S) ⊕ (mx_S)), mx_lp (f_X9_crossing_L2 P v0 v1) n (v2, τ) = some o → (∀ (y2 : Int32) (y3 : Int32) (υ : mx_S), o = (.inl (y2, y3, υ)) → ∀ (H : Heap) (locs : List Loc), mx_J G P s.heap (mxz σ) (mxu σ) υ H locs → ∀ ls : Array Slot, lv_has ls 5 [(1, .int v1), (2, .int y2), (3, .int y3)] → W p l e (mx_rm P 4 100 σ) s m ([.ref a0, .int p1] : List Value).toArray below meth c H locs (mxz υ - mxz σ) (mxu υ - mxu σ) (mx_Z below G P (some (.int r)) σ σ' [.ref a0, .int p1] s) (F0 m 58 ls [])) → (∀  (υ : mx_S), o = (.inr υ) → ∀ (H : Heap) (locs : List Loc), mx_J G P s.heap (mxz σ) (mxu σ) υ H locs → ∀ ls : Array Slot, lv_has ls 5 [] → W p l e (mx_rm P 4 100 σ) s m ([.ref a0, .int p1] : List Value).toArray below meth c H locs (mxz υ - mxz σ) (mxu υ - mxu σ) (mx_Z below G P (some (.int r)) σ σ' [.ref a0, .int p1] s) (F0 m 80 ls [])) → ∀ (H : Heap) (locs : List Loc), mx_J G P s.heap (mxz σ) (mxu σ) τ H locs → ∀ ls : Array Slot, lv_has ls 5 [(0, .ref v0), (1, .int v1), (2, .int v2)] → W p l e (mx_rm P 4 100 σ) s m ([.ref a0, .int p1] : List Value).toArray below meth c H locs (mxz τ - mxz σ) (mxu τ - mxu σ) (mx_Z below G P (some (.int r)) σ σ' [.ref a0, .int p1] s) (F0 m 2 ls []) := by
    intro v0 v1 n
    induction n with
    | zero =>
      intro v2 τ o hf
      rw [mx_lp0] at hf
      cases hf
    | succ n ih =>
      intro v2 τ o hf Ke0 Ke1 H locs hJ ls hl
      rw [mx_lpS] at hf
      obtain ⟨b, eb, hf⟩ := mb0 hf
      refine B2 v0 v1 v2 τ b eb (fun y2 υ ho H locs hJ ls hl => ?_) (fun y2 y3 υ ho H locs hJ ls hl => ?_) (fun  υ ho H locs hJ ls hl => ?_) H locs hJ ls hl
      · subst ho
        exact ih y2 υ o hf Ke0 Ke1 H locs hJ ls hl
      · subst ho
        exact Ke0 y2 y3 υ (Option.some.inj hf).symm _ _ hJ ls hl
      · subst ho
        exact Ke1  υ (Option.some.inj hf).symm _ _ hJ ls hl
  have D67 : ∀ (w0 : Int32) (τ : mx_S), f_X9_crossing_D67 P w0 τ = some (r, σ') → ∀ (H : Heap) (locs : List Loc), mx_J G P s.heap (mxz σ) (mxu σ) τ H locs → ∀ ls : Array Slot, lv_has ls 5 [] → W p l e (mx_rm P 4 100 σ) s m ([.ref a0, .int p1] : List Value).toArray below meth c H locs (mxz τ - mxz σ) (mxu τ - mxu σ) (mx_Z below G P (some (.int r)) σ σ' [.ref a0, .int p1] s) (F0 m 67 ls [.int w0]) := by
    intro w0 τ hf _ _ hJ ls hl
    unfold f_X9_crossing_D67 at hf
    exact my_iret hx hb hr hlocks hJ hf dX9_crossing_67
  unfold f_X9_crossing at hf
  refine lv_iconst (v := 0) hx hb dX9_crossing_0 (by decide) ?_
  refine lv_istore_n (lv' := [(2, .int (0 : Int32)), (0, .ref a0), (1, .int p1)]) hx hb dX9_crossing_1 rfl hl (by decide) rfl (fun ls hl => ?_)
  obtain ⟨o29, e30, hf⟩ := mb0 hf
  refine L2 a0 p1 (mpN P) (0 : Int32) σ o29 e30 (fun y31 y32 σ33 ho H locs hJ ls hl => ?_) (fun σ35 ho H locs hJ ls hl => ?_) _ _ hJ ls (lv_sub hl [1, 2, 0] rfl)
  · rw [ho] at hf
    have hf : ((if p1 = 0 then f_X9_crossing_D67 P y32 σ33 else f_X9_crossing_D67 P y31 σ33)) = some (r, σ') := hf
    refine lv_iload_n hx hb dX9_crossing_58 rfl (lv_at hl 0 rfl) ?_
    refine lv_if_eq (tgt := 66) hx hb dX9_crossing_59 (by decide) (fun c34 => ?_) (fun c34 => ?_)
    · rw [if_pos c34] at hf
      refine lv_iload_n hx hb dX9_crossing_66 rfl (lv_at hl 2 rfl) ?_
      exact D67 y32 σ33 hf _ _ hJ ls (lv_sub hl [] rfl)
    · rw [if_neg c34] at hf
      refine lv_iload_n hx hb dX9_crossing_62 rfl (lv_at hl 1 rfl) ?_
      refine lv_goto (tgt := 67) hx hb dX9_crossing_63 (by decide) ?_
      exact D67 y31 σ33 hf _ _ hJ ls (lv_sub hl [] rfl)
  · rw [ho] at hf
    have hf : (some ((-1 : Int32), σ35)) = some (r, σ') := hf
    refine lv_iconst (v := (-1)) hx hb dX9_crossing_80 (by decide) ?_
    exact my_iret hx hb hr hlocks hJ hf dX9_crossing_81
set_option maxHeartbeats 4000000 in
set_option maxRecDepth 100000 in
theorem c_X9_standing (l : Launch) (G : mx_G) (P : mx_P) (a0 : Nat) (p1 : Int64) (p3 : Int64) (σ : mx_S) (r : Int32) (σ' : mx_S) (hf : f_X9_standing P a0 p1 p3 σ = some (r, σ')) : mxz σ ≤ mpc P → mxu σ ≤ mps P → mx_M l yX9_standing cX9_standing 9 (some .int) 3 73 G P [.ref a0, .long p1, .long p3] σ (some (.int r)) σ' := by
  intro hcap hcau
  refine mx_ofW (by decide +kernel) hcap hcau (Nat.le_of_ble_eq_true rfl) ?_
  intro p e s m below meth c hx hb hr hml hts hown hlocks hname hK hJ ls hl
  have hz0 := hJ.2.1
  have hown : s.vm.findClass RX9 = some m.cls := hown
  have hl : lv_has ls 9 [(0, .ref a0), (1, .long p1), (3, .long p3)] := hl
  have D125_6 : ∀ (v0 : Nat) (v1 : Int64) (v3 : Int64) (v5 : Int32) (v6 : Int32) (τ : mx_S) (o : (Int32 × Int32 × mx_S) ⊕ ((mx_S) ⊕ (Int32 × mx_S))), f_X9_standing_D125_6 P v0 v1 v3 v5 v6 τ = some o → (∀ (y5 : Int32) (y6 : Int32) (υ : mx_S), o = .inl (y5, y6, υ) → ∀ (H : Heap) (locs : List Loc), mx_J G P s.heap (mxz σ) (mxu σ) υ H locs → ∀ ls : Array Slot, lv_has ls 9 [(0, .ref v0), (1, .long v1), (3, .long v3), (5, .int y5), (6, .int y6)] → W p l e (mx_rm P 3 73 σ) s m ([.ref a0, .long p1, .long p3] : List Value).toArray below meth c H locs (mxz υ - mxz σ) (mxu υ - mxu σ) (mx_Z below G P (some (.int r)) σ σ' [.ref a0, .long p1, .long p3] s) (F0 m 6 ls [])) → (∀  (υ : mx_S), o = .inr (.inl υ) → ∀ (H : Heap) (locs : List Loc), mx_J G P s.heap (mxz σ) (mxu σ) υ H locs → ∀ ls : Array Slot, lv_has ls 9 [] → W p l e (mx_rm P 3 73 σ) s m ([.ref a0, .long p1, .long p3] : List Value).toArray below meth c H locs (mxz υ - mxz σ) (mxu υ - mxu σ) (mx_Z below G P (some (.int r)) σ σ' [.ref a0, .long p1, .long p3] s) (F0 m 26 ls [])) → (∀ (y5 : Int32) (υ : mx_S), o = .inr (.inr (y5, υ)) → ∀ (H : Heap) (locs : List Loc), mx_J G P s.heap (mxz σ) (mxu σ) υ H locs → ∀ ls : Array Slot, lv_has ls 9 [(5, .int y5)] → W p l e (mx_rm P 3 73 σ) s m ([.ref a0, .long p1, .long p3] : List Value).toArray below meth c H locs (mxz υ - mxz σ) (mxu υ - mxu σ) (mx_Z below G P (some (.int r)) σ σ' [.ref a0, .long p1, .long p3] s) (F0 m 131 ls [])) → ∀ (H : Heap) (locs : List Loc), mx_J G P s.heap (mxz σ) (mxu σ) τ H locs → ∀ ls : Array Slot, lv_has ls 9 [(0, .ref v0), (1, .long v1), (3, .long v3), (5, .int v5), (6, .int v6)] → W p l e (mx_rm P 3 73 σ) s m ([.ref a0, .long p1, .long p3] : List Value).toArray below meth c H locs (mxz τ - mxz σ) (mxu τ - mxu σ) (mx_Z below G P (some (.int r)) σ σ' [.ref a0, .long p1, .long p3] s) (F0 m 125 ls []) := by
    intro v0 v1 v3 v5 v6 τ o hf Kb Ke0 Ke1 H locs hJ ls hl
    unfold f_X9_standing_D125_6 at hf
    obtain ⟨x27, e28, hf⟩ := mb0 hf
    refine lv_iinc (v := x27) (lv' := [(6, .int x27), (0, .ref v0), (1, .long v1), (3, .long v3), (5, .int v5)]) hx hb dX9_standing_125 hl (k := 4) rfl (by rw [← Option.some.inj e28]; rfl) (by decide) rfl (fun ls hl => ?_)
    refine lv_goto (tgt := 6) hx hb dX9_standing_128 (by decide) ?_
    exact Kb v5 x27 τ (Option.some.inj hf).symm _ _ hJ ls (lv_sub hl [1, 2, 3, 4, 0] rfl)
  have D99_6 : ∀ (v0 : Nat) (v1 : Int64) (v3 : Int64) (v5 : Int32) (v6 : Int32) (v7 : Int32) (v8 : Int32) (τ : mx_S) (o : (Int32 × Int32 × mx_S) ⊕ ((mx_S) ⊕ (Int32 × mx_S))), f_X9_standing_D99_6 P v0 v1 v3 v5 v6 v7 v8 τ = some o → (∀ (y5 : Int32) (y6 : Int32) (υ : mx_S), o = .inl (y5, y6, υ) → ∀ (H : Heap) (locs : List Loc), mx_J G P s.heap (mxz σ) (mxu σ) υ H locs → ∀ ls : Array Slot, lv_has ls 9 [(0, .ref v0), (1, .long v1), (3, .long v3), (5, .int y5), (6, .int y6)] → W p l e (mx_rm P 3 73 σ) s m ([.ref a0, .long p1, .long p3] : List Value).toArray below meth c H locs (mxz υ - mxz σ) (mxu υ - mxu σ) (mx_Z below G P (some (.int r)) σ σ' [.ref a0, .long p1, .long p3] s) (F0 m 6 ls [])) → (∀  (υ : mx_S), o = .inr (.inl υ) → ∀ (H : Heap) (locs : List Loc), mx_J G P s.heap (mxz σ) (mxu σ) υ H locs → ∀ ls : Array Slot, lv_has ls 9 [] → W p l e (mx_rm P 3 73 σ) s m ([.ref a0, .long p1, .long p3] : List Value).toArray below meth c H locs (mxz υ - mxz σ) (mxu υ - mxu σ) (mx_Z below G P (some (.int r)) σ σ' [.ref a0, .long p1, .long p3] s) (F0 m 26 ls [])) → (∀ (y5 : Int32) (υ : mx_S), o = .inr (.inr (y5, υ)) → ∀ (H : Heap) (locs : List Loc), mx_J G P s.heap (mxz σ) (mxu σ) υ H locs → ∀ ls : Array Slot, lv_has ls 9 [(5, .int y5)] → W p l e (mx_rm P 3 73 σ) s m ([.ref a0, .long p1, .long p3] : List Value).toArray below meth c H locs (mxz υ - mxz σ) (mxu υ - mxu σ) (mx_Z below G P (some (.int r)) σ σ' [.ref a0, .long p1, .long p3] s) (F0 m 131 ls [])) → ∀ (H : Heap) (locs : List Loc), mx_J G P s.heap (mxz σ) (mxu σ) τ H locs → ∀ ls : Array Slot, lv_has ls 9 [(0, .ref v0), (1, .long v1), (3, .long v3), (5, .int v5), (6, .int v6), (7, .int v7), (8, .int v8)] → W p l e (mx_rm P 3 73 σ) s m ([.ref a0, .long p1, .long p3] : List Value).toArray below meth c H locs (mxz τ - mxz σ) (mxu τ - mxu σ) (mx_Z below G P (some (.int r)) σ σ' [.ref a0, .long p1, .long p3] s) (F0 m 99 ls []) := by
    intro v0 v1 v3 v5 v6 v7 v8 τ o hf Kb Ke0 Ke1 H locs hJ ls hl
    unfold f_X9_standing_D99_6 at hf
    refine lv_iload hx hb dX9_standing_99 (lv_at hl 5 rfl) ?_
    refine lv_if_ne (tgt := 125) hx hb dX9_standing_101 (by decide) (fun c26 => ?_) (fun c26 => ?_)
    · rw [if_neg c26] at hf
      exact D125_6 v0 v1 v3 v5 v6 τ o hf Kb Ke0 Ke1 _ _ hJ ls (lv_sub hl [0, 1, 2, 3, 4] rfl)
    · rw [if_pos c26] at hf
      refine lv_iload hx hb dX9_standing_104 (lv_at hl 6 rfl) ?_
      refine lv_if_eq (tgt := 125) hx hb dX9_standing_106 (by decide) (fun c29 => ?_) (fun c29 => ?_)
      · rw [if_pos c29] at hf
        exact D125_6 v0 v1 v3 v5 v6 τ o hf Kb Ke0 Ke1 _ _ hJ ls (lv_sub hl [0, 1, 2, 3, 4] rfl)
      · rw [if_neg c29] at hf
        refine lv_aload_n hx hb dX9_standing_109 rfl (lv_at hl 0 rfl) ?_
        refine lv_iload hx hb dX9_standing_110 (lv_at hl 4 rfl) ?_
        refine lv_lload_n hx hb dX9_standing_112 rfl (lv_at hl 1 rfl) ?_
        refine lv_lload_n hx hb dX9_standing_113 rfl (lv_at hl 2 rfl) ?_
        obtain ⟨i30, e31, hf⟩ := mb0 hf
        obtain ⟨x33, σ32, e34, hf⟩ := mc0 hf
        refine mx_callV (As := [.int v6, .long v1, .long v3]) (rest := []) hx hb hml hts hown hK hJ rfl rfl (ci := 9) rfl e31 (c_X9_sideOf l G P v0 v6 v1 v3 τ x33 σ32 e34) me_X9_sideOf kw_1686 ks_61 kw_1684 (Nat.le_of_ble_eq_true rfl) (Nat.le_of_ble_eq_true rfl) rfl hl.1 rfl (Nat.le_of_ble_eq_true rfl) dX9_standing_114 (fun H locs hJ => ?_)
        refine lv_lconst (v := 0) hx hb dX9_standing_117 (by decide) ?_
        refine W.lcmp hx hb dX9_standing_118 ?_
        refine lv_if_ge (tgt := 125) hx hb dX9_standing_119 (by decide) (fun c35 => ?_) (fun c35 => ?_)
        · rw [if_pos c35] at hf
          exact D125_6 v0 v1 v3 v5 v6 σ32 o hf Kb Ke0 Ke1 _ _ hJ ls (lv_sub hl [0, 1, 2, 3, 4] rfl)
        · rw [if_neg c35] at hf
          obtain ⟨x36, e37, hf⟩ := mb0 hf
          refine lv_iinc (v := x36) (lv' := [(5, .int x36), (0, .ref v0), (1, .long v1), (3, .long v3), (6, .int v6), (7, .int v7), (8, .int v8)]) hx hb dX9_standing_122 hl (k := 3) rfl (by rw [← Option.some.inj e37]; rfl) (by decide) rfl (fun ls hl => ?_)
          exact D125_6 v0 v1 v3 x36 v6 σ32 o hf Kb Ke0 Ke1 _ _ hJ ls (lv_sub hl [1, 2, 3, 0, 4] rfl)
  have D68_6 : ∀ (v0 : Nat) (v1 : Int64) (v3 : Int64) (v5 : Int32) (v6 : Int32) (v7 : Int32) (w0 : Int32) (τ : mx_S) (o : (Int32 × Int32 × mx_S) ⊕ ((mx_S) ⊕ (Int32 × mx_S))), f_X9_standing_D68_6 P v0 v1 v3 v5 v6 v7 w0 τ = some o → (∀ (y5 : Int32) (y6 : Int32) (υ : mx_S), o = .inl (y5, y6, υ) → ∀ (H : Heap) (locs : List Loc), mx_J G P s.heap (mxz σ) (mxu σ) υ H locs → ∀ ls : Array Slot, lv_has ls 9 [(0, .ref v0), (1, .long v1), (3, .long v3), (5, .int y5), (6, .int y6)] → W p l e (mx_rm P 3 73 σ) s m ([.ref a0, .long p1, .long p3] : List Value).toArray below meth c H locs (mxz υ - mxz σ) (mxu υ - mxu σ) (mx_Z below G P (some (.int r)) σ σ' [.ref a0, .long p1, .long p3] s) (F0 m 6 ls [])) → (∀  (υ : mx_S), o = .inr (.inl υ) → ∀ (H : Heap) (locs : List Loc), mx_J G P s.heap (mxz σ) (mxu σ) υ H locs → ∀ ls : Array Slot, lv_has ls 9 [] → W p l e (mx_rm P 3 73 σ) s m ([.ref a0, .long p1, .long p3] : List Value).toArray below meth c H locs (mxz υ - mxz σ) (mxu υ - mxu σ) (mx_Z below G P (some (.int r)) σ σ' [.ref a0, .long p1, .long p3] s) (F0 m 26 ls [])) → (∀ (y5 : Int32) (υ : mx_S), o = .inr (.inr (y5, υ)) → ∀ (H : Heap) (locs : List Loc), mx_J G P s.heap (mxz σ) (mxu σ) υ H locs → ∀ ls : Array Slot, lv_has ls 9 [(5, .int y5)] → W p l e (mx_rm P 3 73 σ) s m ([.ref a0, .long p1, .long p3] : List Value).toArray below meth c H locs (mxz υ - mxz σ) (mxu υ - mxu σ) (mx_Z below G P (some (.int r)) σ σ' [.ref a0, .long p1, .long p3] s) (F0 m 131 ls [])) → ∀ (H : Heap) (locs : List Loc), mx_J G P s.heap (mxz σ) (mxu σ) τ H locs → ∀ ls : Array Slot, lv_has ls 9 [(0, .ref v0), (1, .long v1), (3, .long v3), (5, .int v5), (6, .int v6), (7, .int v7)] → W p l e (mx_rm P 3 73 σ) s m ([.ref a0, .long p1, .long p3] : List Value).toArray below meth c H locs (mxz τ - mxz σ) (mxu τ - mxu σ) (mx_Z below G P (some (.int r)) σ σ' [.ref a0, .long p1, .long p3] s) (F0 m 68 ls [.int w0]) := by
    intro v0 v1 v3 v5 v6 v7 w0 τ o hf Kb Ke0 Ke1 H locs hJ ls hl
    unfold f_X9_standing_D68_6 at hf
    refine lv_istore (lv' := [(8, .int w0), (0, .ref v0), (1, .long v1), (3, .long v3), (5, .int v5), (6, .int v6), (7, .int v7)]) hx hb dX9_standing_68 hl (by decide) rfl (fun ls hl => ?_)
    refine lv_iload hx hb dX9_standing_70 (lv_at hl 6 rfl) ?_
    refine lv_if_eq (tgt := 99) hx hb dX9_standing_72 (by decide) (fun c25 => ?_) (fun c25 => ?_)
    · rw [if_pos c25] at hf
      exact D99_6 v0 v1 v3 v5 v6 v7 w0 τ o hf Kb Ke0 Ke1 _ _ hJ ls (lv_sub hl [1, 2, 3, 4, 5, 6, 0] rfl)
    · rw [if_neg c25] at hf
      refine lv_iload hx hb dX9_standing_75 (lv_at hl 0 rfl) ?_
      refine lv_if_ne (tgt := 99) hx hb dX9_standing_77 (by decide) (fun c38 => ?_) (fun c38 => ?_)
      · rw [if_neg c38] at hf
        exact D99_6 v0 v1 v3 v5 v6 v7 w0 τ o hf Kb Ke0 Ke1 _ _ hJ ls (lv_sub hl [1, 2, 3, 4, 5, 6, 0] rfl)
      · rw [if_pos c38] at hf
        refine lv_aload_n hx hb dX9_standing_80 rfl (lv_at hl 1 rfl) ?_
        refine lv_iload hx hb dX9_standing_81 (lv_at hl 5 rfl) ?_
        refine lv_lload_n hx hb dX9_standing_83 rfl (lv_at hl 2 rfl) ?_
        refine lv_lload_n hx hb dX9_standing_84 rfl (lv_at hl 3 rfl) ?_
        obtain ⟨i39, e40, hf⟩ := mb0 hf
        obtain ⟨x42, σ41, e43, hf⟩ := mc0 hf
        refine mx_callV (As := [.int v6, .long v1, .long v3]) (rest := []) hx hb hml hts hown hK hJ rfl rfl (ci := 9) rfl e40 (c_X9_sideOf l G P v0 v6 v1 v3 τ x42 σ41 e43) me_X9_sideOf kw_1686 ks_61 kw_1684 (Nat.le_of_ble_eq_true rfl) (Nat.le_of_ble_eq_true rfl) rfl hl.1 rfl (Nat.le_of_ble_eq_true rfl) dX9_standing_85 (fun H locs hJ => ?_)
        refine lv_lconst (v := 0) hx hb dX9_standing_88 (by decide) ?_
        refine W.lcmp hx hb dX9_standing_89 ?_
        refine lv_if_le (tgt := 99) hx hb dX9_standing_90 (by decide) (fun c44 => ?_) (fun c44 => ?_)
        · rw [if_pos c44] at hf
          exact D99_6 v0 v1 v3 v5 v6 v7 w0 σ41 o hf Kb Ke0 Ke1 _ _ hJ ls (lv_sub hl [1, 2, 3, 4, 5, 6, 0] rfl)
        · rw [if_neg c44] at hf
          obtain ⟨x45, e46, hf⟩ := mb0 hf
          refine lv_iinc (v := x45) (lv' := [(5, .int x45), (8, .int w0), (0, .ref v0), (1, .long v1), (3, .long v3), (6, .int v6), (7, .int v7)]) hx hb dX9_standing_93 hl (k := 4) rfl (by rw [← Option.some.inj e46]; rfl) (by decide) rfl (fun ls hl => ?_)
          refine lv_goto (tgt := 125) hx hb dX9_standing_96 (by decide) ?_
          exact D125_6 v0 v1 v3 x45 v6 σ41 o hf Kb Ke0 Ke1 _ _ hJ ls (lv_sub hl [2, 3, 4, 0, 5] rfl)
  have D45_6 : ∀ (v0 : Nat) (v1 : Int64) (v3 : Int64) (v5 : Int32) (v6 : Int32) (w0 : Int32) (τ : mx_S) (o : (Int32 × Int32 × mx_S) ⊕ ((mx_S) ⊕ (Int32 × mx_S))), f_X9_standing_D45_6 P v0 v1 v3 v5 v6 w0 τ = some o → (∀ (y5 : Int32) (y6 : Int32) (υ : mx_S), o = .inl (y5, y6, υ) → ∀ (H : Heap) (locs : List Loc), mx_J G P s.heap (mxz σ) (mxu σ) υ H locs → ∀ ls : Array Slot, lv_has ls 9 [(0, .ref v0), (1, .long v1), (3, .long v3), (5, .int y5), (6, .int y6)] → W p l e (mx_rm P 3 73 σ) s m ([.ref a0, .long p1, .long p3] : List Value).toArray below meth c H locs (mxz υ - mxz σ) (mxu υ - mxu σ) (mx_Z below G P (some (.int r)) σ σ' [.ref a0, .long p1, .long p3] s) (F0 m 6 ls [])) → (∀  (υ : mx_S), o = .inr (.inl υ) → ∀ (H : Heap) (locs : List Loc), mx_J G P s.heap (mxz σ) (mxu σ) υ H locs → ∀ ls : Array Slot, lv_has ls 9 [] → W p l e (mx_rm P 3 73 σ) s m ([.ref a0, .long p1, .long p3] : List Value).toArray below meth c H locs (mxz υ - mxz σ) (mxu υ - mxu σ) (mx_Z below G P (some (.int r)) σ σ' [.ref a0, .long p1, .long p3] s) (F0 m 26 ls [])) → (∀ (y5 : Int32) (υ : mx_S), o = .inr (.inr (y5, υ)) → ∀ (H : Heap) (locs : List Loc), mx_J G P s.heap (mxz σ) (mxu σ) υ H locs → ∀ ls : Array Slot, lv_has ls 9 [(5, .int y5)] → W p l e (mx_rm P 3 73 σ) s m ([.ref a0, .long p1, .long p3] : List Value).toArray below meth c H locs (mxz υ - mxz σ) (mxu υ - mxu σ) (mx_Z below G P (some (.int r)) σ σ' [.ref a0, .long p1, .long p3] s) (F0 m 131 ls [])) → ∀ (H : Heap) (locs : List Loc), mx_J G P s.heap (mxz σ) (mxu σ) τ H locs → ∀ ls : Array Slot, lv_has ls 9 [(0, .ref v0), (1, .long v1), (3, .long v3), (5, .int v5), (6, .int v6)] → W p l e (mx_rm P 3 73 σ) s m ([.ref a0, .long p1, .long p3] : List Value).toArray below meth c H locs (mxz τ - mxz σ) (mxu τ - mxu σ) (mx_Z below G P (some (.int r)) σ σ' [.ref a0, .long p1, .long p3] s) (F0 m 45 ls [.int w0]) := by
    intro v0 v1 v3 v5 v6 w0 τ o hf Kb Ke0 Ke1 H locs hJ ls hl
    unfold f_X9_standing_D45_6 at hf
    refine lv_istore (lv' := [(7, .int w0), (0, .ref v0), (1, .long v1), (3, .long v3), (5, .int v5), (6, .int v6)]) hx hb dX9_standing_45 hl (by decide) rfl (fun ls hl => ?_)
    refine lv_aload_n hx hb dX9_standing_47 rfl (lv_at hl 1 rfl) ?_
    obtain ⟨b15, e16, hf⟩ := mb0 hf
    refine my_gR hx hb hts hown hK hJ fd_RX9_13 hv_9_2 e16 dX9_standing_48 ?_
    refine lv_aload_n hx hb dX9_standing_51 rfl (lv_at hl 1 rfl) ?_
    refine lv_iload hx hb dX9_standing_52 (lv_at hl 5 rfl) ?_
    obtain ⟨i17, e18, hf⟩ := mb0 hf
    obtain ⟨x20, σ19, e21, hf⟩ := mc0 hf
    refine mx_callV (As := [.int v6]) (rest := [.ref b15]) hx hb hml hts hown hK hJ rfl rfl (ci := 9) rfl e18 (c_X9_after l G P v0 v6 τ x20 σ19 e21) me_X9_after kw_1670 ks_58 kw_1668 (Nat.le_of_ble_eq_true rfl) (Nat.le_of_ble_eq_true rfl) rfl hl.1 rfl (Nat.le_of_ble_eq_true rfl) dX9_standing_54 (fun H locs hJ => ?_)
    obtain ⟨x22, e23, hf⟩ := mb0 hf
    refine mx_aL hx hb hK hJ e23 dX9_standing_57 ?_
    refine lv_lload_n hx hb dX9_standing_58 rfl (lv_at hl 3 rfl) ?_
    refine W.lcmp hx hb dX9_standing_59 ?_
    refine lv_if_gt (tgt := 67) hx hb dX9_standing_60 (by decide) (fun c24 => ?_) (fun c24 => ?_)
    · rw [if_pos c24] at hf
      refine lv_iconst (v := 0) hx hb dX9_standing_67 (by decide) ?_
      exact D68_6 v0 v1 v3 v5 v6 w0 (0 : Int32) σ19 o hf Kb Ke0 Ke1 _ _ hJ ls (lv_sub hl [1, 2, 3, 4, 5, 0] rfl)
    · rw [if_neg c24] at hf
      refine lv_iconst (v := 1) hx hb dX9_standing_63 (by decide) ?_
      refine lv_goto (tgt := 68) hx hb dX9_standing_64 (by decide) ?_
      exact D68_6 v0 v1 v3 v5 v6 w0 (1 : Int32) σ19 o hf Kb Ke0 Ke1 _ _ hJ ls (lv_sub hl [1, 2, 3, 4, 5, 0] rfl)
  have B6 : ∀ (v0 : Nat) (v1 : Int64) (v3 : Int64) (v5 : Int32) (v6 : Int32) (τ : mx_S) (o : (Int32 × Int32 × mx_S) ⊕ ((mx_S) ⊕ (Int32 × mx_S))), f_X9_standing_B6 P v0 v1 v3 v5 v6 τ = some o → (∀ (y5 : Int32) (y6 : Int32) (υ : mx_S), o = .inl (y5, y6, υ) → ∀ (H : Heap) (locs : List Loc), mx_J G P s.heap (mxz σ) (mxu σ) υ H locs → ∀ ls : Array Slot, lv_has ls 9 [(0, .ref v0), (1, .long v1), (3, .long v3), (5, .int y5), (6, .int y6)] → W p l e (mx_rm P 3 73 σ) s m ([.ref a0, .long p1, .long p3] : List Value).toArray below meth c H locs (mxz υ - mxz σ) (mxu υ - mxu σ) (mx_Z below G P (some (.int r)) σ σ' [.ref a0, .long p1, .long p3] s) (F0 m 6 ls [])) → (∀  (υ : mx_S), o = .inr (.inl υ) → ∀ (H : Heap) (locs : List Loc), mx_J G P s.heap (mxz σ) (mxu σ) υ H locs → ∀ ls : Array Slot, lv_has ls 9 [] → W p l e (mx_rm P 3 73 σ) s m ([.ref a0, .long p1, .long p3] : List Value).toArray below meth c H locs (mxz υ - mxz σ) (mxu υ - mxu σ) (mx_Z below G P (some (.int r)) σ σ' [.ref a0, .long p1, .long p3] s) (F0 m 26 ls [])) → (∀ (y5 : Int32) (υ : mx_S), o = .inr (.inr (y5, υ)) → ∀ (H : Heap) (locs : List Loc), mx_J G P s.heap (mxz σ) (mxu σ) υ H locs → ∀ ls : Array Slot, lv_has ls 9 [(5, .int y5)] → W p l e (mx_rm P 3 73 σ) s m ([.ref a0, .long p1, .long p3] : List Value).toArray below meth c H locs (mxz υ - mxz σ) (mxu υ - mxu σ) (mx_Z below G P (some (.int r)) σ σ' [.ref a0, .long p1, .long p3] s) (F0 m 131 ls [])) → ∀ (H : Heap) (locs : List Loc), mx_J G P s.heap (mxz σ) (mxu σ) τ H locs → ∀ ls : Array Slot, lv_has ls 9 [(0, .ref v0), (1, .long v1), (3, .long v3), (5, .int v5), (6, .int v6)] → W p l e (mx_rm P 3 73 σ) s m ([.ref a0, .long p1, .long p3] : List Value).toArray below meth c H locs (mxz τ - mxz σ) (mxu τ - mxu σ) (mx_Z below G P (some (.int r)) σ σ' [.ref a0, .long p1, .long p3] s) (F0 m 6 ls []) := by
    intro v0 v1 v3 v5 v6 τ o hf Kb Ke0 Ke1 H locs hJ ls hl
    unfold f_X9_standing_B6 at hf
    refine lv_iload hx hb dX9_standing_6 (lv_at hl 4 rfl) ?_
    refine lv_aload_n hx hb dX9_standing_8 rfl (lv_at hl 0 rfl) ?_
    obtain ⟨x1, e2, hf⟩ := mb0 hf
    refine my_gI hx hb hts hown hK hJ fd_RX9_16 hv_9_0 e2 dX9_standing_9 ?_
    refine lv_icmp_ge (tgt := 131) hx hb dX9_standing_12 (by decide) (fun c3 => ?_) (fun c3 => ?_)
    · rw [if_pos c3] at hf
      exact Ke1 v5 τ (Option.some.inj hf).symm _ _ hJ ls (lv_sub hl [3] rfl)
    · rw [if_neg c3] at hf
      refine lv_aload_n hx hb dX9_standing_15 rfl (lv_at hl 0 rfl) ?_
      refine lv_iload hx hb dX9_standing_16 (lv_at hl 4 rfl) ?_
      refine lv_lload_n hx hb dX9_standing_18 rfl (lv_at hl 1 rfl) ?_
      refine lv_lload_n hx hb dX9_standing_19 rfl (lv_at hl 2 rfl) ?_
      obtain ⟨i4, e5, hf⟩ := mb0 hf
      obtain ⟨x7, σ6, e8, hf⟩ := mc0 hf
      refine mx_callV (As := [.int v6, .long v1, .long v3]) (rest := []) hx hb hml hts hown hK hJ rfl rfl (ci := 9) rfl e5 (c_X9_holds l G P v0 v6 v1 v3 τ x7 σ6 e8) me_X9_holds kw_1690 ks_62 kw_1688 (Nat.le_of_ble_eq_true rfl) (Nat.le_of_ble_eq_true rfl) rfl hl.1 rfl (Nat.le_of_ble_eq_true rfl) dX9_standing_20 (fun H locs hJ => ?_)
      refine lv_if_eq (tgt := 28) hx hb dX9_standing_23 (by decide) (fun c9 => ?_) (fun c9 => ?_)
      · rw [if_pos c9] at hf
        refine lv_aload_n hx hb dX9_standing_28 rfl (lv_at hl 0 rfl) ?_
        obtain ⟨b10, e11, hf⟩ := mb0 hf
        refine my_gR hx hb hts hown hK hJ fd_RX9_13 hv_9_2 e11 dX9_standing_29 ?_
        refine lv_iload hx hb dX9_standing_32 (lv_at hl 4 rfl) ?_
        obtain ⟨x12, e13, hf⟩ := mb0 hf
        refine mx_aL hx hb hK hJ e13 dX9_standing_34 ?_
        refine lv_lload_n hx hb dX9_standing_35 rfl (lv_at hl 2 rfl) ?_
        refine W.lcmp hx hb dX9_standing_36 ?_
        refine lv_if_gt (tgt := 44) hx hb dX9_standing_37 (by decide) (fun c14 => ?_) (fun c14 => ?_)
        · rw [if_pos c14] at hf
          refine lv_iconst (v := 0) hx hb dX9_standing_44 (by decide) ?_
          exact D45_6 v0 v1 v3 v5 v6 (0 : Int32) σ6 o hf Kb Ke0 Ke1 _ _ hJ ls (lv_sub hl [0, 1, 2, 3, 4] rfl)
        · rw [if_neg c14] at hf
          refine lv_iconst (v := 1) hx hb dX9_standing_40 (by decide) ?_
          refine lv_goto (tgt := 45) hx hb dX9_standing_41 (by decide) ?_
          exact D45_6 v0 v1 v3 v5 v6 (1 : Int32) σ6 o hf Kb Ke0 Ke1 _ _ hJ ls (lv_sub hl [0, 1, 2, 3, 4] rfl)
      · rw [if_neg c9] at hf
        exact Ke0 σ6 (Option.some.inj hf).symm _ _ hJ ls (lv_sub hl [] rfl)
  have L6 : ∀ (v0 : Nat) (v1 : Int64) (v3 : Int64) (n : Nat) (v5 : Int32) (v6 : Int32) (τ : mx_S) (o : (mx_S) ⊕ (Int32 × mx_S)), mx_lp (f_X9_standing_L6 P v0 v1 v3) n (v5, v6, τ) = some o → (∀  (υ : mx_S), o = (.inl υ) → ∀ (H : Heap) (locs : List Loc), mx_J G P s.heap (mxz σ) (mxu σ) υ H locs → ∀ ls : Array Slot, lv_has ls 9 [] → W p l e (mx_rm P 3 73 σ) s m ([.ref a0, .long p1, .long p3] : List Value).toArray below meth c H locs (mxz υ - mxz σ) (mxu υ - mxu σ) (mx_Z below G P (some (.int r)) σ σ' [.ref a0, .long p1, .long p3] s) (F0 m 26 ls [])) → (∀ (y5 : Int32) (υ : mx_S), o = (.inr (y5, υ)) → ∀ (H : Heap) (locs : List Loc), mx_J G P s.heap (mxz σ) (mxu σ) υ H locs → ∀ ls : Array Slot, lv_has ls 9 [(5, .int y5)] → W p l e (mx_rm P 3 73 σ) s m ([.ref a0, .long p1, .long p3] : List Value).toArray below meth c H locs (mxz υ - mxz σ) (mxu υ - mxu σ) (mx_Z below G P (some (.int r)) σ σ' [.ref a0, .long p1, .long p3] s) (F0 m 131 ls [])) → ∀ (H : Heap) (locs : List Loc), mx_J G P s.heap (mxz σ) (mxu σ) τ H locs → ∀ ls : Array Slot, lv_has ls 9 [(0, .ref v0), (1, .long v1), (3, .long v3), (5, .int v5), (6, .int v6)] → W p l e (mx_rm P 3 73 σ) s m ([.ref a0, .long p1, .long p3] : List Value).toArray below meth c H locs (mxz τ - mxz σ) (mxu τ - mxu σ) (mx_Z below G P (some (.int r)) σ σ' [.ref a0, .long p1, .long p3] s) (F0 m 6 ls []) := by
    intro v0 v1 v3 n
    induction n with
    | zero =>
      intro v5 v6 τ o hf
      rw [mx_lp0] at hf
      cases hf
    | succ n ih =>
      intro v5 v6 τ o hf Ke0 Ke1 H locs hJ ls hl
      rw [mx_lpS] at hf
      obtain ⟨b, eb, hf⟩ := mb0 hf
      refine B6 v0 v1 v3 v5 v6 τ b eb (fun y5 y6 υ ho H locs hJ ls hl => ?_) (fun  υ ho H locs hJ ls hl => ?_) (fun y5 υ ho H locs hJ ls hl => ?_) H locs hJ ls hl
      · subst ho
        exact ih y5 y6 υ o hf Ke0 Ke1 H locs hJ ls hl
      · subst ho
        exact Ke0  υ (Option.some.inj hf).symm _ _ hJ ls hl
      · subst ho
        exact Ke1 y5 υ (Option.some.inj hf).symm _ _ hJ ls hl
  have D141 : ∀ (w0 : Int32) (τ : mx_S), f_X9_standing_D141 P w0 τ = some (r, σ') → ∀ (H : Heap) (locs : List Loc), mx_J G P s.heap (mxz σ) (mxu σ) τ H locs → ∀ ls : Array Slot, lv_has ls 9 [] → W p l e (mx_rm P 3 73 σ) s m ([.ref a0, .long p1, .long p3] : List Value).toArray below meth c H locs (mxz τ - mxz σ) (mxu τ - mxu σ) (mx_Z below G P (some (.int r)) σ σ' [.ref a0, .long p1, .long p3] s) (F0 m 141 ls [.int w0]) := by
    intro w0 τ hf _ _ hJ ls hl
    unfold f_X9_standing_D141 at hf
    exact my_iret hx hb hr hlocks hJ hf dX9_standing_141
  unfold f_X9_standing at hf
  refine lv_iconst (v := 0) hx hb dX9_standing_0 (by decide) ?_
  refine lv_istore (lv' := [(5, .int (0 : Int32)), (0, .ref a0), (1, .long p1), (3, .long p3)]) hx hb dX9_standing_1 hl (by decide) rfl (fun ls hl => ?_)
  refine lv_iconst (v := 0) hx hb dX9_standing_3 (by decide) ?_
  refine lv_istore (lv' := [(6, .int (0 : Int32)), (5, .int (0 : Int32)), (0, .ref a0), (1, .long p1), (3, .long p3)]) hx hb dX9_standing_4 hl (by decide) rfl (fun ls hl => ?_)
  obtain ⟨o47, e48, hf⟩ := mb0 hf
  refine L6 a0 p1 p3 (mpN P) (0 : Int32) (0 : Int32) σ o47 e48 (fun σ49 ho H locs hJ ls hl => ?_) (fun y50 σ51 ho H locs hJ ls hl => ?_) _ _ hJ ls (lv_sub hl [2, 3, 4, 1, 0] rfl)
  · rw [ho] at hf
    have hf : (some ((2 : Int32), σ49)) = some (r, σ') := hf
    refine lv_iconst (v := 2) hx hb dX9_standing_26 (by decide) ?_
    exact my_iret hx hb hr hlocks hJ hf dX9_standing_27
  · rw [ho] at hf
    have hf : ((if y50 = 0 then f_X9_standing_D141 P (0 : Int32) σ51 else f_X9_standing_D141 P (1 : Int32) σ51)) = some (r, σ') := hf
    refine lv_iload hx hb dX9_standing_131 (lv_at hl 0 rfl) ?_
    refine lv_if_eq (tgt := 140) hx hb dX9_standing_133 (by decide) (fun c52 => ?_) (fun c52 => ?_)
    · rw [if_pos c52] at hf
      refine lv_iconst (v := 0) hx hb dX9_standing_140 (by decide) ?_
      exact D141 (0 : Int32) σ51 hf _ _ hJ ls (lv_sub hl [] rfl)
    · rw [if_neg c52] at hf
      refine lv_iconst (v := 1) hx hb dX9_standing_136 (by decide) ?_
      refine lv_goto (tgt := 141) hx hb dX9_standing_137 (by decide) ?_
      exact D141 (1 : Int32) σ51 hf _ _ hJ ls (lv_sub hl [] rfl)
set_option maxHeartbeats 4000000 in
set_option maxRecDepth 100000 in
theorem c_X9_isInReach (l : Launch) (G : mx_G) (P : mx_P) (a0 : Nat) (a1 : Nat) (σ : mx_S) (r : Int32) (σ' : mx_S) (hf : f_X9_isInReach P a0 a1 σ = some (r, σ')) : mxz σ ≤ mpc P → mxu σ ≤ mps P → mx_M l yX9_isInReach cX9_isInReach 4 (some .boolean) 4 101 G P [.ref a0, .ref a1] σ (some (.int r)) σ' := by
  intro hcap hcau
  refine mx_ofW (by decide +kernel) hcap hcau (Nat.le_of_ble_eq_true rfl) ?_
  intro p e s m below meth c hx hb hr hml hts hown hlocks hname hK hJ ls hl
  have hz0 := hJ.2.1
  have hown : s.vm.findClass RX9 = some m.cls := hown
  have hl : lv_has ls 4 [(0, .ref a0), (1, .ref a1)] := hl
  have B12 : ∀ (v0 : Nat) (v1 : Nat) (v2 : Int32) (v3 : Int32) (τ : mx_S) (o : (Int32 × mx_S) ⊕ ((mx_S) ⊕ (mx_S))), f_X9_isInReach_B12 P v0 v1 v2 v3 τ = some o → (∀ (y3 : Int32) (υ : mx_S), o = .inl (y3, υ) → ∀ (H : Heap) (locs : List Loc), mx_J G P s.heap (mxz σ) (mxu σ) υ H locs → ∀ ls : Array Slot, lv_has ls 4 [(0, .ref v0), (1, .ref v1), (2, .int v2), (3, .int y3)] → W p l e (mx_rm P 4 101 σ) s m ([.ref a0, .ref a1] : List Value).toArray below meth c H locs (mxz υ - mxz σ) (mxu υ - mxu σ) (mx_Z below G P (some (.int r)) σ σ' [.ref a0, .ref a1] s) (F0 m 12 ls [])) → (∀  (υ : mx_S), o = .inr (.inl υ) → ∀ (H : Heap) (locs : List Loc), mx_J G P s.heap (mxz σ) (mxu σ) υ H locs → ∀ ls : Array Slot, lv_has ls 4 [] → W p l e (mx_rm P 4 101 σ) s m ([.ref a0, .ref a1] : List Value).toArray below meth c H locs (mxz υ - mxz σ) (mxu υ - mxu σ) (mx_Z below G P (some (.int r)) σ σ' [.ref a0, .ref a1] s) (F0 m 30 ls [])) → (∀  (υ : mx_S), o = .inr (.inr υ) → ∀ (H : Heap) (locs : List Loc), mx_J G P s.heap (mxz σ) (mxu σ) υ H locs → ∀ ls : Array Slot, lv_has ls 4 [(0, .ref v0), (1, .ref v1), (2, .int v2)] → W p l e (mx_rm P 4 101 σ) s m ([.ref a0, .ref a1] : List Value).toArray below meth c H locs (mxz υ - mxz σ) (mxu υ - mxu σ) (mx_Z below G P (some (.int r)) σ σ' [.ref a0, .ref a1] s) (F0 m 38 ls [])) → ∀ (H : Heap) (locs : List Loc), mx_J G P s.heap (mxz σ) (mxu σ) τ H locs → ∀ ls : Array Slot, lv_has ls 4 [(0, .ref v0), (1, .ref v1), (2, .int v2), (3, .int v3)] → W p l e (mx_rm P 4 101 σ) s m ([.ref a0, .ref a1] : List Value).toArray below meth c H locs (mxz τ - mxz σ) (mxu τ - mxu σ) (mx_Z below G P (some (.int r)) σ σ' [.ref a0, .ref a1] s) (F0 m 12 ls []) := by
    intro v0 v1 v2 v3 τ o hf Kb Ke0 Ke1 H locs hJ ls hl
    unfold f_X9_isInReach_B12 at hf
    refine lv_iload_n hx hb dX9_isInReach_12 rfl (lv_at hl 3 rfl) ?_
    refine lv_aload_n hx hb dX9_isInReach_13 rfl (lv_at hl 1 rfl) ?_
    obtain ⟨x4, e5, hf⟩ := mb0 hf
    refine my_gI hx hb hts hown hK hJ fd_RX9_16 hv_9_0 e5 dX9_isInReach_14 ?_
    refine lv_icmp_ge (tgt := 38) hx hb dX9_isInReach_17 (by decide) (fun c6 => ?_) (fun c6 => ?_)
    · rw [if_pos c6] at hf
      exact Ke1 τ (Option.some.inj hf).symm _ _ hJ ls (lv_sub hl [0, 1, 2] rfl)
    · rw [if_neg c6] at hf
      refine lv_aload_n hx hb dX9_isInReach_20 rfl (lv_at hl 0 rfl) ?_
      refine lv_iload_n hx hb dX9_isInReach_21 rfl (lv_at hl 2 rfl) ?_
      refine lv_aload_n hx hb dX9_isInReach_22 rfl (lv_at hl 1 rfl) ?_
      refine lv_iload_n hx hb dX9_isInReach_23 rfl (lv_at hl 3 rfl) ?_
      obtain ⟨i7, e8, hf⟩ := mb0 hf
      obtain ⟨x10, σ9, e11, hf⟩ := mc0 hf
      refine mx_callV (As := [.int v2, .ref v1, .int v3]) (rest := []) hx hb hml hts hown hK hJ rfl rfl (ci := 9) rfl e8 (c_X9_touches l G P v0 v2 v1 v3 τ x10 σ9 e11) me_X9_touches kw_1678 ks_59 kw_1676 (Nat.le_of_ble_eq_true rfl) (Nat.le_of_ble_eq_true rfl) rfl hl.1 rfl (Nat.le_of_ble_eq_true rfl) dX9_isInReach_24 (fun H locs hJ => ?_)
      refine lv_if_eq (tgt := 32) hx hb dX9_isInReach_27 (by decide) (fun c12 => ?_) (fun c12 => ?_)
      · rw [if_pos c12] at hf
        obtain ⟨x13, e14, hf⟩ := mb0 hf
        refine lv_iinc (v := x13) (lv' := [(3, .int x13), (0, .ref v0), (1, .ref v1), (2, .int v2)]) hx hb dX9_isInReach_32 hl (k := 3) rfl (by rw [← Option.some.inj e14]; rfl) (by decide) rfl (fun ls hl => ?_)
        refine lv_goto (tgt := 12) hx hb dX9_isInReach_35 (by decide) ?_
        exact Kb x13 σ9 (Option.some.inj hf).symm _ _ hJ ls (lv_sub hl [1, 2, 3, 0] rfl)
      · rw [if_neg c12] at hf
        exact Ke0 σ9 (Option.some.inj hf).symm _ _ hJ ls (lv_sub hl [] rfl)
  have L12 : ∀ (v0 : Nat) (v1 : Nat) (v2 : Int32) (n : Nat) (v3 : Int32) (τ : mx_S) (o : (mx_S) ⊕ (mx_S)), mx_lp (f_X9_isInReach_L12 P v0 v1 v2) n (v3, τ) = some o → (∀  (υ : mx_S), o = (.inl υ) → ∀ (H : Heap) (locs : List Loc), mx_J G P s.heap (mxz σ) (mxu σ) υ H locs → ∀ ls : Array Slot, lv_has ls 4 [] → W p l e (mx_rm P 4 101 σ) s m ([.ref a0, .ref a1] : List Value).toArray below meth c H locs (mxz υ - mxz σ) (mxu υ - mxu σ) (mx_Z below G P (some (.int r)) σ σ' [.ref a0, .ref a1] s) (F0 m 30 ls [])) → (∀  (υ : mx_S), o = (.inr υ) → ∀ (H : Heap) (locs : List Loc), mx_J G P s.heap (mxz σ) (mxu σ) υ H locs → ∀ ls : Array Slot, lv_has ls 4 [(0, .ref v0), (1, .ref v1), (2, .int v2)] → W p l e (mx_rm P 4 101 σ) s m ([.ref a0, .ref a1] : List Value).toArray below meth c H locs (mxz υ - mxz σ) (mxu υ - mxu σ) (mx_Z below G P (some (.int r)) σ σ' [.ref a0, .ref a1] s) (F0 m 38 ls [])) → ∀ (H : Heap) (locs : List Loc), mx_J G P s.heap (mxz σ) (mxu σ) τ H locs → ∀ ls : Array Slot, lv_has ls 4 [(0, .ref v0), (1, .ref v1), (2, .int v2), (3, .int v3)] → W p l e (mx_rm P 4 101 σ) s m ([.ref a0, .ref a1] : List Value).toArray below meth c H locs (mxz τ - mxz σ) (mxu τ - mxu σ) (mx_Z below G P (some (.int r)) σ σ' [.ref a0, .ref a1] s) (F0 m 12 ls []) := by
    intro v0 v1 v2 n
    induction n with
    | zero =>
      intro v3 τ o hf
      rw [mx_lp0] at hf
      cases hf
    | succ n ih =>
      intro v3 τ o hf Ke0 Ke1 H locs hJ ls hl
      rw [mx_lpS] at hf
      obtain ⟨b, eb, hf⟩ := mb0 hf
      refine B12 v0 v1 v2 v3 τ b eb (fun y3 υ ho H locs hJ ls hl => ?_) (fun  υ ho H locs hJ ls hl => ?_) (fun  υ ho H locs hJ ls hl => ?_) H locs hJ ls hl
      · subst ho
        exact ih y3 υ o hf Ke0 Ke1 H locs hJ ls hl
      · subst ho
        exact Ke0  υ (Option.some.inj hf).symm _ _ hJ ls hl
      · subst ho
        exact Ke1  υ (Option.some.inj hf).symm _ _ hJ ls hl
  have B2 : ∀ (v0 : Nat) (v1 : Nat) (v2 : Int32) (τ : mx_S) (o : (Int32 × mx_S) ⊕ ((mx_S) ⊕ (mx_S))), f_X9_isInReach_B2 P v0 v1 v2 τ = some o → (∀ (y2 : Int32) (υ : mx_S), o = .inl (y2, υ) → ∀ (H : Heap) (locs : List Loc), mx_J G P s.heap (mxz σ) (mxu σ) υ H locs → ∀ ls : Array Slot, lv_has ls 4 [(0, .ref v0), (1, .ref v1), (2, .int y2)] → W p l e (mx_rm P 4 101 σ) s m ([.ref a0, .ref a1] : List Value).toArray below meth c H locs (mxz υ - mxz σ) (mxu υ - mxu σ) (mx_Z below G P (some (.int r)) σ σ' [.ref a0, .ref a1] s) (F0 m 2 ls [])) → (∀  (υ : mx_S), o = .inr (.inl υ) → ∀ (H : Heap) (locs : List Loc), mx_J G P s.heap (mxz σ) (mxu σ) υ H locs → ∀ ls : Array Slot, lv_has ls 4 [] → W p l e (mx_rm P 4 101 σ) s m ([.ref a0, .ref a1] : List Value).toArray below meth c H locs (mxz υ - mxz σ) (mxu υ - mxu σ) (mx_Z below G P (some (.int r)) σ σ' [.ref a0, .ref a1] s) (F0 m 30 ls [])) → (∀  (υ : mx_S), o = .inr (.inr υ) → ∀ (H : Heap) (locs : List Loc), mx_J G P s.heap (mxz σ) (mxu σ) υ H locs → ∀ ls : Array Slot, lv_has ls 4 [(0, .ref v0), (1, .ref v1)] → W p l e (mx_rm P 4 101 σ) s m ([.ref a0, .ref a1] : List Value).toArray below meth c H locs (mxz υ - mxz σ) (mxu υ - mxu σ) (mx_Z below G P (some (.int r)) σ σ' [.ref a0, .ref a1] s) (F0 m 44 ls [])) → ∀ (H : Heap) (locs : List Loc), mx_J G P s.heap (mxz σ) (mxu σ) τ H locs → ∀ ls : Array Slot, lv_has ls 4 [(0, .ref v0), (1, .ref v1), (2, .int v2)] → W p l e (mx_rm P 4 101 σ) s m ([.ref a0, .ref a1] : List Value).toArray below meth c H locs (mxz τ - mxz σ) (mxu τ - mxu σ) (mx_Z below G P (some (.int r)) σ σ' [.ref a0, .ref a1] s) (F0 m 2 ls []) := by
    intro v0 v1 v2 τ o hf Kb Ke0 Ke1 H locs hJ ls hl
    unfold f_X9_isInReach_B2 at hf
    refine lv_iload_n hx hb dX9_isInReach_2 rfl (lv_at hl 2 rfl) ?_
    refine lv_aload_n hx hb dX9_isInReach_3 rfl (lv_at hl 0 rfl) ?_
    obtain ⟨x1, e2, hf⟩ := mb0 hf
    refine my_gI hx hb hts hown hK hJ fd_RX9_16 hv_9_0 e2 dX9_isInReach_4 ?_
    refine lv_icmp_ge (tgt := 44) hx hb dX9_isInReach_7 (by decide) (fun c3 => ?_) (fun c3 => ?_)
    · rw [if_pos c3] at hf
      exact Ke1 τ (Option.some.inj hf).symm _ _ hJ ls (lv_sub hl [0, 1] rfl)
    · rw [if_neg c3] at hf
      refine lv_iconst (v := 0) hx hb dX9_isInReach_10 (by decide) ?_
      refine lv_istore_n (lv' := [(3, .int (0 : Int32)), (0, .ref v0), (1, .ref v1), (2, .int v2)]) hx hb dX9_isInReach_11 rfl hl (by decide) rfl (fun ls hl => ?_)
      obtain ⟨o15, e16, hf⟩ := mb0 hf
      refine L12 v0 v1 v2 (mpN P) (0 : Int32) τ o15 e16 (fun σ17 ho H locs hJ ls hl => ?_) (fun σ18 ho H locs hJ ls hl => ?_) _ _ hJ ls (lv_sub hl [1, 2, 3, 0] rfl)
      · rw [ho] at hf
        have hf : (some (.inr (.inl σ17))) = some o := hf
        exact Ke0 σ17 (Option.some.inj hf).symm _ _ hJ ls (lv_sub hl [] rfl)
      · rw [ho] at hf
        have hf : ((some (v2 + (1 : Int32))).bind fun x19 => some (.inl (x19, σ18))) = some o := hf
        obtain ⟨x19, e20, hf⟩ := mb0 hf
        refine lv_iinc (v := x19) (lv' := [(2, .int x19), (0, .ref v0), (1, .ref v1)]) hx hb dX9_isInReach_38 hl (k := 2) rfl (by rw [← Option.some.inj e20]; rfl) (by decide) rfl (fun ls hl => ?_)
        refine lv_goto (tgt := 2) hx hb dX9_isInReach_41 (by decide) ?_
        exact Kb x19 σ18 (Option.some.inj hf).symm _ _ hJ ls (lv_sub hl [1, 2, 0] rfl)
  have L2 : ∀ (v0 : Nat) (v1 : Nat) (n : Nat) (v2 : Int32) (τ : mx_S) (o : (mx_S) ⊕ (mx_S)), mx_lp (f_X9_isInReach_L2 P v0 v1) n (v2, τ) = some o → (∀  (υ : mx_S), o = (.inl υ) → ∀ (H : Heap) (locs : List Loc), mx_J G P s.heap (mxz σ) (mxu σ) υ H locs → ∀ ls : Array Slot, lv_has ls 4 [] → W p l e (mx_rm P 4 101 σ) s m ([.ref a0, .ref a1] : List Value).toArray below meth c H locs (mxz υ - mxz σ) (mxu υ - mxu σ) (mx_Z below G P (some (.int r)) σ σ' [.ref a0, .ref a1] s) (F0 m 30 ls [])) → (∀  (υ : mx_S), o = (.inr υ) → ∀ (H : Heap) (locs : List Loc), mx_J G P s.heap (mxz σ) (mxu σ) υ H locs → ∀ ls : Array Slot, lv_has ls 4 [(0, .ref v0), (1, .ref v1)] → W p l e (mx_rm P 4 101 σ) s m ([.ref a0, .ref a1] : List Value).toArray below meth c H locs (mxz υ - mxz σ) (mxu υ - mxu σ) (mx_Z below G P (some (.int r)) σ σ' [.ref a0, .ref a1] s) (F0 m 44 ls [])) → ∀ (H : Heap) (locs : List Loc), mx_J G P s.heap (mxz σ) (mxu σ) τ H locs → ∀ ls : Array Slot, lv_has ls 4 [(0, .ref v0), (1, .ref v1), (2, .int v2)] → W p l e (mx_rm P 4 101 σ) s m ([.ref a0, .ref a1] : List Value).toArray below meth c H locs (mxz τ - mxz σ) (mxu τ - mxu σ) (mx_Z below G P (some (.int r)) σ σ' [.ref a0, .ref a1] s) (F0 m 2 ls []) := by
    intro v0 v1 n
    induction n with
    | zero =>
      intro v2 τ o hf
      rw [mx_lp0] at hf
      cases hf
    | succ n ih =>
      intro v2 τ o hf Ke0 Ke1 H locs hJ ls hl
      rw [mx_lpS] at hf
      obtain ⟨b, eb, hf⟩ := mb0 hf
      refine B2 v0 v1 v2 τ b eb (fun y2 υ ho H locs hJ ls hl => ?_) (fun  υ ho H locs hJ ls hl => ?_) (fun  υ ho H locs hJ ls hl => ?_) H locs hJ ls hl
      · subst ho
        exact ih y2 υ o hf Ke0 Ke1 H locs hJ ls hl
      · subst ho
        exact Ke0  υ (Option.some.inj hf).symm _ _ hJ ls hl
      · subst ho
        exact Ke1  υ (Option.some.inj hf).symm _ _ hJ ls hl
  have D87 : ∀ (w0 : Int32) (τ : mx_S), f_X9_isInReach_D87 P w0 τ = some (r, σ') → ∀ (H : Heap) (locs : List Loc), mx_J G P s.heap (mxz σ) (mxu σ) τ H locs → ∀ ls : Array Slot, lv_has ls 4 [] → W p l e (mx_rm P 4 101 σ) s m ([.ref a0, .ref a1] : List Value).toArray below meth c H locs (mxz τ - mxz σ) (mxu τ - mxu σ) (mx_Z below G P (some (.int r)) σ σ' [.ref a0, .ref a1] s) (F0 m 87 ls [.int w0]) := by
    intro w0 τ hf _ _ hJ ls hl
    unfold f_X9_isInReach_D87 at hf
    exact mx_zret hx hb hr hlocks hJ hf dX9_isInReach_87
  have D82 : ∀  (τ : mx_S), f_X9_isInReach_D82 P  τ = some (r, σ') → ∀ (H : Heap) (locs : List Loc), mx_J G P s.heap (mxz σ) (mxu σ) τ H locs → ∀ ls : Array Slot, lv_has ls 4 [] → W p l e (mx_rm P 4 101 σ) s m ([.ref a0, .ref a1] : List Value).toArray below meth c H locs (mxz τ - mxz σ) (mxu τ - mxu σ) (mx_Z below G P (some (.int r)) σ σ' [.ref a0, .ref a1] s) (F0 m 82 ls []) := by
    intro  τ hf _ _ hJ ls hl
    unfold f_X9_isInReach_D82 at hf
    refine lv_iconst (v := 1) hx hb dX9_isInReach_82 (by decide) ?_
    refine lv_goto (tgt := 87) hx hb dX9_isInReach_83 (by decide) ?_
    exact D87 (1 : Int32) τ hf _ _ hJ ls (lv_sub hl [] rfl)
  unfold f_X9_isInReach at hf
  refine lv_iconst (v := 0) hx hb dX9_isInReach_0 (by decide) ?_
  refine lv_istore_n (lv' := [(2, .int (0 : Int32)), (0, .ref a0), (1, .ref a1)]) hx hb dX9_isInReach_1 rfl hl (by decide) rfl (fun ls hl => ?_)
  obtain ⟨o21, e22, hf⟩ := mb0 hf
  refine L2 a0 a1 (mpN P) (0 : Int32) σ o21 e22 (fun σ23 ho H locs hJ ls hl => ?_) (fun σ24 ho H locs hJ ls hl => ?_) _ _ hJ ls (lv_sub hl [1, 2, 0] rfl)
  · rw [ho] at hf
    have hf : (mr_Z (1 : Int32) σ23) = some (r, σ') := hf
    refine lv_iconst (v := 1) hx hb dX9_isInReach_30 (by decide) ?_
    exact mx_zret hx hb hr hlocks hJ hf dX9_isInReach_31
  · rw [ho] at hf
    have hf : ((mg_R σ24 a1 9 1).bind fun b25 => (ma_L σ24 b25 1 (0 : Int32)).bind fun x27 => (mg_R σ24 a1 9 2).bind fun b29 => (ma_L σ24 b29 1 (0 : Int32)).bind fun x31 => (mx_is σ24 a0 9).bind fun i33 => mx_b2 (f_X9_standing P a0 x27 x31 σ24) fun x36 σ35 => (if x36 = 0 then (mg_R σ35 a0 9 1).bind fun b39 => (ma_L σ35 b39 1 (0 : Int32)).bind fun x41 => (mg_R σ35 a0 9 2).bind fun b43 => (ma_L σ35 b43 1 (0 : Int32)).bind fun x45 => (mx_is σ35 a1 9).bind fun i47 => mx_b2 (f_X9_standing P a1 x41 x45 σ35) fun x50 σ49 => (if x50 = 0 then f_X9_isInReach_D87 P (0 : Int32) σ49 else f_X9_isInReach_D82 P  σ49) else f_X9_isInReach_D82 P  σ35)) = some (r, σ') := hf
    refine lv_aload_n hx hb dX9_isInReach_44 rfl (lv_at hl 0 rfl) ?_
    refine lv_aload_n hx hb dX9_isInReach_45 rfl (lv_at hl 1 rfl) ?_
    obtain ⟨b25, e26, hf⟩ := mb0 hf
    refine my_gR hx hb hts hown hK hJ fd_RX9_9 hv_9_1 e26 dX9_isInReach_46 ?_
    refine lv_iconst (v := 0) hx hb dX9_isInReach_49 (by decide) ?_
    obtain ⟨x27, e28, hf⟩ := mb0 hf
    refine mx_aL hx hb hK hJ e28 dX9_isInReach_50 ?_
    refine lv_aload_n hx hb dX9_isInReach_51 rfl (lv_at hl 1 rfl) ?_
    obtain ⟨b29, e30, hf⟩ := mb0 hf
    refine my_gR hx hb hts hown hK hJ fd_RX9_13 hv_9_2 e30 dX9_isInReach_52 ?_
    refine lv_iconst (v := 0) hx hb dX9_isInReach_55 (by decide) ?_
    obtain ⟨x31, e32, hf⟩ := mb0 hf
    refine mx_aL hx hb hK hJ e32 dX9_isInReach_56 ?_
    obtain ⟨i33, e34, hf⟩ := mb0 hf
    obtain ⟨x36, σ35, e37, hf⟩ := mc0 hf
    refine mx_callV (As := [.long x27, .long x31]) (rest := []) hx hb hml hts hown hK hJ rfl rfl (ci := 9) rfl e34 (c_X9_standing l G P a0 x27 x31 σ24 x36 σ35 e37) me_X9_standing kw_1714 kw_1715 kw_1732 (Nat.le_of_ble_eq_true rfl) (Nat.le_of_ble_eq_true rfl) rfl hl.1 rfl (Nat.le_of_ble_eq_true rfl) dX9_isInReach_57 (fun H locs hJ => ?_)
    refine lv_if_ne (tgt := 82) hx hb dX9_isInReach_60 (by decide) (fun c38 => ?_) (fun c38 => ?_)
    · rw [if_neg c38] at hf
      exact D82  σ35 hf _ _ hJ ls (lv_sub hl [] rfl)
    · rw [if_pos c38] at hf
      refine lv_aload_n hx hb dX9_isInReach_63 rfl (lv_at hl 1 rfl) ?_
      refine lv_aload_n hx hb dX9_isInReach_64 rfl (lv_at hl 0 rfl) ?_
      obtain ⟨b39, e40, hf⟩ := mb0 hf
      refine my_gR hx hb hts hown hK hJ fd_RX9_9 hv_9_1 e40 dX9_isInReach_65 ?_
      refine lv_iconst (v := 0) hx hb dX9_isInReach_68 (by decide) ?_
      obtain ⟨x41, e42, hf⟩ := mb0 hf
      refine mx_aL hx hb hK hJ e42 dX9_isInReach_69 ?_
      refine lv_aload_n hx hb dX9_isInReach_70 rfl (lv_at hl 0 rfl) ?_
      obtain ⟨b43, e44, hf⟩ := mb0 hf
      refine my_gR hx hb hts hown hK hJ fd_RX9_13 hv_9_2 e44 dX9_isInReach_71 ?_
      refine lv_iconst (v := 0) hx hb dX9_isInReach_74 (by decide) ?_
      obtain ⟨x45, e46, hf⟩ := mb0 hf
      refine mx_aL hx hb hK hJ e46 dX9_isInReach_75 ?_
      obtain ⟨i47, e48, hf⟩ := mb0 hf
      obtain ⟨x50, σ49, e51, hf⟩ := mc0 hf
      refine mx_callV (As := [.long x41, .long x45]) (rest := []) hx hb hml hts hown hK hJ rfl rfl (ci := 9) rfl e48 (c_X9_standing l G P a1 x41 x45 σ35 x50 σ49 e51) me_X9_standing kw_1714 kw_1715 kw_1732 (Nat.le_of_ble_eq_true rfl) (Nat.le_of_ble_eq_true rfl) rfl hl.1 rfl (Nat.le_of_ble_eq_true rfl) dX9_isInReach_76 (fun H locs hJ => ?_)
      refine lv_if_eq (tgt := 86) hx hb dX9_isInReach_79 (by decide) (fun c52 => ?_) (fun c52 => ?_)
      · rw [if_pos c52] at hf
        refine lv_iconst (v := 0) hx hb dX9_isInReach_86 (by decide) ?_
        exact D87 (0 : Int32) σ49 hf _ _ hJ ls (lv_sub hl [] rfl)
      · rw [if_neg c52] at hf
        exact D82  σ49 hf _ _ hJ ls (lv_sub hl [] rfl)
set_option maxHeartbeats 4000000 in
set_option maxRecDepth 100000 in
theorem c_X9_offer (l : Launch) (G : mx_G) (P : mx_P) (p0 : Int64) (p2 : Int64) (a4 : Nat) (σ : mx_S) (σ' : mx_S) (hf : f_X9_offer P p0 p2 a4 σ = some σ') : mxz σ ≤ mpc P → mxu σ ≤ mps P → mx_M l yX9_offer cX9_offer 5 none 4 101 G P [.long p0, .long p2, .ref a4] σ none σ' := by
  intro hcap hcau
  refine mx_ofW (by decide +kernel) hcap hcau (Nat.le_of_ble_eq_true rfl) ?_
  intro p e s m below meth c hx hb hr hml hts hown hlocks hname hK hJ ls hl
  have hz0 := hJ.2.1
  have hown : s.vm.findClass RX9 = some m.cls := hown
  have hl : lv_has ls 5 [(0, .long p0), (2, .long p2), (4, .ref a4)] := hl
  have D17 : ∀  (τ : mx_S), f_X9_offer_D17 P  τ = some σ' → ∀ (H : Heap) (locs : List Loc), mx_J G P s.heap (mxz σ) (mxu σ) τ H locs → ∀ ls : Array Slot, lv_has ls 5 [] → W p l e (mx_rm P 4 101 σ) s m ([.long p0, .long p2, .ref a4] : List Value).toArray below meth c H locs (mxz τ - mxz σ) (mxu τ - mxu σ) (mx_Z below G P none σ σ' [.long p0, .long p2, .ref a4] s) (F0 m 17 ls []) := by
    intro  τ hf _ _ hJ ls hl
    unfold f_X9_offer_D17 at hf
    exact my_vret hx hb hr hlocks hJ hf dX9_offer_17
  unfold f_X9_offer at hf
  refine lv_aload hx hb dX9_offer_0 (lv_at hl 2 rfl) ?_
  refine lv_lload_n hx hb dX9_offer_2 rfl (lv_at hl 0 rfl) ?_
  refine lv_lload_n hx hb dX9_offer_3 rfl (lv_at hl 1 rfl) ?_
  obtain ⟨i1, e2, hf⟩ := mb0 hf
  obtain ⟨x4, σ3, e5, hf⟩ := mc0 hf
  refine mx_callV (As := [.long p0, .long p2]) (rest := []) hx hb hml hts hown hK hJ rfl rfl (ci := 3) rfl e2 (c_X3_isAbove l G P a4 p0 p2 σ x4 σ3 e5) me_X3_isAbove kw_1632 kw_1633 kw_1740 (Nat.le_of_ble_eq_true rfl) (Nat.le_of_ble_eq_true rfl) rfl hl.1 rfl (Nat.le_of_ble_eq_true rfl) dX9_offer_4 (fun H locs hJ => ?_)
  refine lv_if_eq (tgt := 17) hx hb dX9_offer_7 (by decide) (fun c6 => ?_) (fun c6 => ?_)
  · rw [if_pos c6] at hf
    exact D17  σ3 hf _ _ hJ ls (lv_sub hl [] rfl)
  · rw [if_neg c6] at hf
    refine lv_aload hx hb dX9_offer_10 (lv_at hl 2 rfl) ?_
    refine lv_lload_n hx hb dX9_offer_12 rfl (lv_at hl 0 rfl) ?_
    refine lv_lload_n hx hb dX9_offer_13 rfl (lv_at hl 1 rfl) ?_
    obtain ⟨i7, e8, hf⟩ := mb0 hf
    obtain ⟨σ9, e10, hf⟩ := mb0 hf
    refine mx_callV (As := [.long p0, .long p2]) (rest := []) hx hb hml hts hown hK hJ rfl rfl (ci := 3) rfl e8 (c_X3_set l G P a4 p0 p2 σ3 σ9 e10) me_X3_set kw_843 kw_844 kw_1705 (Nat.le_of_ble_eq_true rfl) (Nat.le_of_ble_eq_true rfl) rfl hl.1 rfl (Nat.le_of_ble_eq_true rfl) dX9_offer_14 (fun H locs hJ => ?_)
    exact D17  σ9 hf _ _ hJ ls (lv_sub hl [] rfl)
set_option maxHeartbeats 4000000 in
set_option maxRecDepth 100000 in
theorem c_X9_offerFoot (l : Launch) (G : mx_G) (P : mx_P) (a0 : Nat) (p1 : Int32) (p2 : Int64) (p4 : Int64) (a6 : Nat) (σ : mx_S) (σ' : mx_S) (hf : f_X9_offerFoot P a0 p1 p2 p4 a6 σ = some σ') : mxz σ ≤ mpc P → mxu σ ≤ mps P → mx_M l yX9_offerFoot cX9_offerFoot 22 none 5 125 G P [.ref a0, .int p1, .long p2, .long p4, .ref a6] σ none σ' := by
  intro hcap hcau
  refine mx_ofW (by decide +kernel) hcap hcau (Nat.le_of_ble_eq_true rfl) ?_
  intro p e s m below meth c hx hb hr hml hts hown hlocks hname hK hJ ls hl
  have hz0 := hJ.2.1
  have hown : s.vm.findClass RX9 = some m.cls := hown
  have hl : lv_has ls 22 [(0, .ref a0), (1, .int p1), (2, .long p2), (4, .long p4), (6, .ref a6)] := hl
  have D178 : ∀  (τ : mx_S), f_X9_offerFoot_D178 P  τ = some σ' → ∀ (H : Heap) (locs : List Loc), mx_J G P s.heap (mxz σ) (mxu σ) τ H locs → ∀ ls : Array Slot, lv_has ls 22 [] → W p l e (mx_rm P 5 125 σ) s m ([.ref a0, .int p1, .long p2, .long p4, .ref a6] : List Value).toArray below meth c H locs (mxz τ - mxz σ) (mxu τ - mxu σ) (mx_Z below G P none σ σ' [.ref a0, .int p1, .long p2, .long p4, .ref a6] s) (F0 m 178 ls []) := by
    intro  τ hf _ _ hJ ls hl
    unfold f_X9_offerFoot_D178 at hf
    exact my_vret hx hb hr hlocks hJ hf dX9_offerFoot_178
  unfold f_X9_offerFoot at hf
  refine lv_aload_n hx hb dX9_offerFoot_0 rfl (lv_at hl 0 rfl) ?_
  refine lv_iload_n hx hb dX9_offerFoot_1 rfl (lv_at hl 1 rfl) ?_
  obtain ⟨i1, e2, hf⟩ := mb0 hf
  obtain ⟨x4, σ3, e5, hf⟩ := mc0 hf
  refine mx_callV (As := [.int p1]) (rest := []) hx hb hml hts hown hK hJ rfl rfl (ci := 9) rfl e2 (c_X9_after l G P a0 p1 σ x4 σ3 e5) me_X9_after kw_1670 ks_58 kw_1668 (Nat.le_of_ble_eq_true rfl) (Nat.le_of_ble_eq_true rfl) rfl hl.1 rfl (Nat.le_of_ble_eq_true rfl) dX9_offerFoot_2 (fun H locs hJ => ?_)
  refine lv_istore (lv' := [(7, .int x4), (0, .ref a0), (1, .int p1), (2, .long p2), (4, .long p4), (6, .ref a6)]) hx hb dX9_offerFoot_5 hl (by decide) rfl (fun ls hl => ?_)
  refine lv_aload_n hx hb dX9_offerFoot_7 rfl (lv_at hl 1 rfl) ?_
  obtain ⟨b6, e7, hf⟩ := mb0 hf
  refine my_gR hx hb hts hown hK hJ fd_RX9_9 hv_9_1 e7 dX9_offerFoot_8 ?_
  refine lv_iload hx hb dX9_offerFoot_11 (lv_at hl 0 rfl) ?_
  obtain ⟨x8, e9, hf⟩ := mb0 hf
  refine mx_aL hx hb hK hJ e9 dX9_offerFoot_13 ?_
  refine lv_aload_n hx hb dX9_offerFoot_14 rfl (lv_at hl 1 rfl) ?_
  obtain ⟨b10, e11, hf⟩ := mb0 hf
  refine my_gR hx hb hts hown hK hJ fd_RX9_9 hv_9_1 e11 dX9_offerFoot_15 ?_
  refine lv_iload_n hx hb dX9_offerFoot_18 rfl (lv_at hl 2 rfl) ?_
  obtain ⟨x12, e13, hf⟩ := mb0 hf
  refine mx_aL hx hb hK hJ e13 dX9_offerFoot_19 ?_
  refine lv_lsub hx hb dX9_offerFoot_20 ?_
  obtain ⟨x14, e15, hf⟩ := mb0 hf
  refine mx_nL e15 ?_
  refine lv_lstore (lv' := [(8, .long x14), (7, .int x4), (0, .ref a0), (1, .int p1), (2, .long p2), (4, .long p4), (6, .ref a6)]) hx hb dX9_offerFoot_21 hl (by decide) rfl (fun ls hl => ?_)
  refine lv_aload_n hx hb dX9_offerFoot_23 rfl (lv_at hl 2 rfl) ?_
  obtain ⟨b16, e17, hf⟩ := mb0 hf
  refine my_gR hx hb hts hown hK hJ fd_RX9_13 hv_9_2 e17 dX9_offerFoot_24 ?_
  refine lv_iload hx hb dX9_offerFoot_27 (lv_at hl 1 rfl) ?_
  obtain ⟨x18, e19, hf⟩ := mb0 hf
  refine mx_aL hx hb hK hJ e19 dX9_offerFoot_29 ?_
  refine lv_aload_n hx hb dX9_offerFoot_30 rfl (lv_at hl 2 rfl) ?_
  obtain ⟨b20, e21, hf⟩ := mb0 hf
  refine my_gR hx hb hts hown hK hJ fd_RX9_13 hv_9_2 e21 dX9_offerFoot_31 ?_
  refine lv_iload_n hx hb dX9_offerFoot_34 rfl (lv_at hl 3 rfl) ?_
  obtain ⟨x22, e23, hf⟩ := mb0 hf
  refine mx_aL hx hb hK hJ e23 dX9_offerFoot_35 ?_
  refine lv_lsub hx hb dX9_offerFoot_36 ?_
  obtain ⟨x24, e25, hf⟩ := mb0 hf
  refine mx_nL e25 ?_
  refine lv_lstore (lv' := [(10, .long x24), (8, .long x14), (7, .int x4), (0, .ref a0), (1, .int p1), (2, .long p2), (4, .long p4), (6, .ref a6)]) hx hb dX9_offerFoot_37 hl (by decide) rfl (fun ls hl => ?_)
  refine lv_lload_n hx hb dX9_offerFoot_39 rfl (lv_at hl 5 rfl) ?_
  refine lv_aload_n hx hb dX9_offerFoot_40 rfl (lv_at hl 3 rfl) ?_
  obtain ⟨b26, e27, hf⟩ := mb0 hf
  refine my_gR hx hb hts hown hK hJ fd_RX9_9 hv_9_1 e27 dX9_offerFoot_41 ?_
  refine lv_iload_n hx hb dX9_offerFoot_44 rfl (lv_at hl 4 rfl) ?_
  obtain ⟨x28, e29, hf⟩ := mb0 hf
  refine mx_aL hx hb hK hJ e29 dX9_offerFoot_45 ?_
  refine lv_lsub hx hb dX9_offerFoot_46 ?_
  obtain ⟨x30, e31, hf⟩ := mb0 hf
  refine mx_nL e31 ?_
  refine lv_lstore (lv' := [(12, .long x30), (10, .long x24), (8, .long x14), (7, .int x4), (0, .ref a0), (1, .int p1), (2, .long p2), (4, .long p4), (6, .ref a6)]) hx hb dX9_offerFoot_47 hl (by decide) rfl (fun ls hl => ?_)
  refine lv_lload hx hb dX9_offerFoot_49 (lv_at hl 7 rfl) ?_
  refine lv_aload_n hx hb dX9_offerFoot_51 rfl (lv_at hl 4 rfl) ?_
  obtain ⟨b32, e33, hf⟩ := mb0 hf
  refine my_gR hx hb hts hown hK hJ fd_RX9_13 hv_9_2 e33 dX9_offerFoot_52 ?_
  refine lv_iload_n hx hb dX9_offerFoot_55 rfl (lv_at hl 5 rfl) ?_
  obtain ⟨x34, e35, hf⟩ := mb0 hf
  refine mx_aL hx hb hK hJ e35 dX9_offerFoot_56 ?_
  refine lv_lsub hx hb dX9_offerFoot_57 ?_
  obtain ⟨x36, e37, hf⟩ := mb0 hf
  refine mx_nL e37 ?_
  refine lv_lstore (lv' := [(14, .long x36), (12, .long x30), (10, .long x24), (8, .long x14), (7, .int x4), (0, .ref a0), (1, .int p1), (2, .long p2), (4, .long p4), (6, .ref a6)]) hx hb dX9_offerFoot_58 hl (by decide) rfl (fun ls hl => ?_)
  refine lv_lload hx hb dX9_offerFoot_60 (lv_at hl 1 rfl) ?_
  refine lv_lload hx hb dX9_offerFoot_62 (lv_at hl 3 rfl) ?_
  refine lv_lmul hx hb dX9_offerFoot_64 ?_
  refine lv_lload hx hb dX9_offerFoot_65 (lv_at hl 0 rfl) ?_
  refine lv_lload hx hb dX9_offerFoot_67 (lv_at hl 2 rfl) ?_
  refine lv_lmul hx hb dX9_offerFoot_69 ?_
  refine lv_ladd hx hb dX9_offerFoot_70 ?_
  obtain ⟨x38, e39, hf⟩ := mb0 hf
  refine mx_nL e39 ?_
  refine lv_lstore (lv' := [(16, .long x38), (14, .long x36), (12, .long x30), (10, .long x24), (8, .long x14), (7, .int x4), (0, .ref a0), (1, .int p1), (2, .long p2), (4, .long p4), (6, .ref a6)]) hx hb dX9_offerFoot_71 hl (by decide) rfl (fun ls hl => ?_)
  refine lv_lload hx hb dX9_offerFoot_73 (lv_at hl 4 rfl) ?_
  refine lv_lload hx hb dX9_offerFoot_75 (lv_at hl 4 rfl) ?_
  refine lv_lmul hx hb dX9_offerFoot_77 ?_
  refine lv_lload hx hb dX9_offerFoot_78 (lv_at hl 3 rfl) ?_
  refine lv_lload hx hb dX9_offerFoot_80 (lv_at hl 3 rfl) ?_
  refine lv_lmul hx hb dX9_offerFoot_82 ?_
  refine lv_ladd hx hb dX9_offerFoot_83 ?_
  obtain ⟨x40, e41, hf⟩ := mb0 hf
  refine mx_nL e41 ?_
  refine lv_lstore (lv' := [(18, .long x40), (16, .long x38), (14, .long x36), (12, .long x30), (10, .long x24), (8, .long x14), (7, .int x4), (0, .ref a0), (1, .int p1), (2, .long p2), (4, .long p4), (6, .ref a6)]) hx hb dX9_offerFoot_84 hl (by decide) rfl (fun ls hl => ?_)
  refine lv_lload hx hb dX9_offerFoot_86 (lv_at hl 3 rfl) ?_
  refine lv_lload hx hb dX9_offerFoot_88 (lv_at hl 4 rfl) ?_
  refine lv_lmul hx hb dX9_offerFoot_90 ?_
  refine lv_lload hx hb dX9_offerFoot_91 (lv_at hl 2 rfl) ?_
  refine lv_lload hx hb dX9_offerFoot_93 (lv_at hl 5 rfl) ?_
  refine lv_lmul hx hb dX9_offerFoot_95 ?_
  refine lv_lsub hx hb dX9_offerFoot_96 ?_
  obtain ⟨x42, e43, hf⟩ := mb0 hf
  refine mx_nL e43 ?_
  refine lv_lstore (lv' := [(20, .long x42), (18, .long x40), (16, .long x38), (14, .long x36), (12, .long x30), (10, .long x24), (8, .long x14), (7, .int x4), (0, .ref a0), (1, .int p1), (2, .long p2), (4, .long p4), (6, .ref a6)]) hx hb dX9_offerFoot_97 hl (by decide) rfl (fun ls hl => ?_)
  refine lv_lload hx hb dX9_offerFoot_99 (lv_at hl 2 rfl) ?_
  refine lv_lconst (v := 0) hx hb dX9_offerFoot_101 (by decide) ?_
  refine W.lcmp hx hb dX9_offerFoot_102 ?_
  refine lv_if_gt (tgt := 126) hx hb dX9_offerFoot_103 (by decide) (fun c44 => ?_) (fun c44 => ?_)
  · rw [if_pos c44] at hf
    refine lv_lload hx hb dX9_offerFoot_126 (lv_at hl 2 rfl) ?_
    refine lv_lload hx hb dX9_offerFoot_128 (lv_at hl 1 rfl) ?_
    refine W.lcmp hx hb dX9_offerFoot_130 ?_
    refine lv_if_lt (tgt := 166) hx hb dX9_offerFoot_131 (by decide) (fun c45 => ?_) (fun c45 => ?_)
    · rw [if_pos c45] at hf
      refine lv_lload hx hb dX9_offerFoot_166 (lv_at hl 0 rfl) ?_
      refine lv_lload hx hb dX9_offerFoot_168 (lv_at hl 0 rfl) ?_
      refine lv_lmul hx hb dX9_offerFoot_170 ?_
      refine lv_lload hx hb dX9_offerFoot_171 (lv_at hl 1 rfl) ?_
      refine lv_aload hx hb dX9_offerFoot_173 (lv_at hl 12 rfl) ?_
      obtain ⟨σ46, e47, hf⟩ := mb0 hf
      refine mx_callS (As := [.long (x42 * x42), .long x40, .ref a6]) (rest := []) hx hb hml hts hown hK hJ rfl rfl (c_X9_offer l G P (x42 * x42) x40 a6 σ3 σ46 e47) me_X9_offer kw_1738 kw_1737 (Nat.le_of_ble_eq_true rfl) (Nat.le_of_ble_eq_true rfl) rfl hl.1 rfl (Nat.le_of_ble_eq_true rfl) dX9_offerFoot_175 (fun H locs hJ => ?_)
      exact D178  σ46 hf _ _ hJ ls (lv_sub hl [] rfl)
    · rw [if_neg c45] at hf
      refine lv_lload hx hb dX9_offerFoot_134 (lv_at hl 4 rfl) ?_
      refine lv_lload hx hb dX9_offerFoot_136 (lv_at hl 6 rfl) ?_
      refine lv_lsub hx hb dX9_offerFoot_138 ?_
      refine lv_lload hx hb dX9_offerFoot_139 (lv_at hl 4 rfl) ?_
      refine lv_lload hx hb dX9_offerFoot_141 (lv_at hl 6 rfl) ?_
      refine lv_lsub hx hb dX9_offerFoot_143 ?_
      refine lv_lmul hx hb dX9_offerFoot_144 ?_
      refine lv_lload hx hb dX9_offerFoot_145 (lv_at hl 3 rfl) ?_
      refine lv_lload hx hb dX9_offerFoot_147 (lv_at hl 5 rfl) ?_
      refine lv_lsub hx hb dX9_offerFoot_149 ?_
      refine lv_lload hx hb dX9_offerFoot_150 (lv_at hl 3 rfl) ?_
      refine lv_lload hx hb dX9_offerFoot_152 (lv_at hl 5 rfl) ?_
      refine lv_lsub hx hb dX9_offerFoot_154 ?_
      refine lv_lmul hx hb dX9_offerFoot_155 ?_
      refine lv_ladd hx hb dX9_offerFoot_156 ?_
      refine lv_lconst (v := 1) hx hb dX9_offerFoot_157 (by decide) ?_
      refine lv_aload hx hb dX9_offerFoot_158 (lv_at hl 12 rfl) ?_
      obtain ⟨σ48, e49, hf⟩ := mb0 hf
      refine mx_callS (As := [.long (((x30 - x14) * (x30 - x14)) + ((x36 - x24) * (x36 - x24))), .long (1 : Int64), .ref a6]) (rest := []) hx hb hml hts hown hK hJ rfl rfl (c_X9_offer l G P (((x30 - x14) * (x30 - x14)) + ((x36 - x24) * (x36 - x24))) (1 : Int64) a6 σ3 σ48 e49) me_X9_offer kw_1738 kw_1737 (Nat.le_of_ble_eq_true rfl) (Nat.le_of_ble_eq_true rfl) rfl hl.1 rfl (Nat.le_of_ble_eq_true rfl) dX9_offerFoot_160 (fun H locs hJ => ?_)
      refine lv_goto (tgt := 178) hx hb dX9_offerFoot_163 (by decide) ?_
      exact D178  σ48 hf _ _ hJ ls (lv_sub hl [] rfl)
  · rw [if_neg c44] at hf
    refine lv_lload hx hb dX9_offerFoot_106 (lv_at hl 4 rfl) ?_
    refine lv_lload hx hb dX9_offerFoot_108 (lv_at hl 4 rfl) ?_
    refine lv_lmul hx hb dX9_offerFoot_110 ?_
    refine lv_lload hx hb dX9_offerFoot_111 (lv_at hl 3 rfl) ?_
    refine lv_lload hx hb dX9_offerFoot_113 (lv_at hl 3 rfl) ?_
    refine lv_lmul hx hb dX9_offerFoot_115 ?_
    refine lv_ladd hx hb dX9_offerFoot_116 ?_
    refine lv_lconst (v := 1) hx hb dX9_offerFoot_117 (by decide) ?_
    refine lv_aload hx hb dX9_offerFoot_118 (lv_at hl 12 rfl) ?_
    obtain ⟨σ50, e51, hf⟩ := mb0 hf
    refine mx_callS (As := [.long ((x30 * x30) + (x36 * x36)), .long (1 : Int64), .ref a6]) (rest := []) hx hb hml hts hown hK hJ rfl rfl (c_X9_offer l G P ((x30 * x30) + (x36 * x36)) (1 : Int64) a6 σ3 σ50 e51) me_X9_offer kw_1738 kw_1737 (Nat.le_of_ble_eq_true rfl) (Nat.le_of_ble_eq_true rfl) rfl hl.1 rfl (Nat.le_of_ble_eq_true rfl) dX9_offerFoot_120 (fun H locs hJ => ?_)
    refine lv_goto (tgt := 178) hx hb dX9_offerFoot_123 (by decide) ?_
    exact D178  σ50 hf _ _ hJ ls (lv_sub hl [] rfl)
set_option maxHeartbeats 4000000 in
set_option maxRecDepth 100000 in
theorem c_X9_reckonGap (l : Launch) (G : mx_G) (P : mx_P) (a0 : Nat) (a1 : Nat) (a2 : Nat) (σ : mx_S) (σ' : mx_S) (hf : f_X9_reckonGap P a0 a1 a2 σ = some σ') : mxz σ ≤ mpc P → mxu σ ≤ mps P → mx_M l yX9_reckonGap cX9_reckonGap 9 none 6 166 G P [.ref a0, .ref a1, .ref a2] σ none σ' := by
  intro hcap hcau
  refine mx_ofW (by decide +kernel) hcap hcau (Nat.le_of_ble_eq_true rfl) ?_
  intro p e s m below meth c hx hb hr hml hts hown hlocks hname hK hJ ls hl
  have hz0 := hJ.2.1
  have hown : s.vm.findClass RX9 = some m.cls := hown
  have hl : lv_has ls 9 [(0, .ref a0), (1, .ref a1), (2, .ref a2)] := hl
  have B73 : ∀ (v0 : Nat) (v1 : Nat) (v2 : Nat) (v7 : Int32) (v8 : Int32) (τ : mx_S) (o : (Int32 × mx_S) ⊕ ((mx_S))), f_X9_reckonGap_B73 P v0 v1 v2 v7 v8 τ = some o → (∀ (y8 : Int32) (υ : mx_S), o = .inl (y8, υ) → ∀ (H : Heap) (locs : List Loc), mx_J G P s.heap (mxz σ) (mxu σ) υ H locs → ∀ ls : Array Slot, lv_has ls 9 [(0, .ref v0), (1, .ref v1), (2, .ref v2), (7, .int v7), (8, .int y8)] → W p l e (mx_rm P 6 166 σ) s m ([.ref a0, .ref a1, .ref a2] : List Value).toArray below meth c H locs (mxz υ - mxz σ) (mxu υ - mxu σ) (mx_Z below G P none σ σ' [.ref a0, .ref a1, .ref a2] s) (F0 m 73 ls [])) → (∀  (υ : mx_S), o = .inr υ → ∀ (H : Heap) (locs : List Loc), mx_J G P s.heap (mxz σ) (mxu σ) υ H locs → ∀ ls : Array Slot, lv_has ls 9 [(0, .ref v0), (1, .ref v1), (2, .ref v2), (7, .int v7)] → W p l e (mx_rm P 6 166 σ) s m ([.ref a0, .ref a1, .ref a2] : List Value).toArray below meth c H locs (mxz υ - mxz σ) (mxu υ - mxu σ) (mx_Z below G P none σ σ' [.ref a0, .ref a1, .ref a2] s) (F0 m 130 ls [])) → ∀ (H : Heap) (locs : List Loc), mx_J G P s.heap (mxz σ) (mxu σ) τ H locs → ∀ ls : Array Slot, lv_has ls 9 [(0, .ref v0), (1, .ref v1), (2, .ref v2), (7, .int v7), (8, .int v8)] → W p l e (mx_rm P 6 166 σ) s m ([.ref a0, .ref a1, .ref a2] : List Value).toArray below meth c H locs (mxz τ - mxz σ) (mxu τ - mxu σ) (mx_Z below G P none σ σ' [.ref a0, .ref a1, .ref a2] s) (F0 m 73 ls []) := by
    intro v0 v1 v2 v7 v8 τ o hf Kb Ke0 H locs hJ ls hl
    unfold f_X9_reckonGap_B73 at hf
    refine lv_iload hx hb dX9_reckonGap_73 (lv_at hl 4 rfl) ?_
    refine lv_aload_n hx hb dX9_reckonGap_75 rfl (lv_at hl 1 rfl) ?_
    obtain ⟨x34, e35, hf⟩ := mb0 hf
    refine my_gI hx hb hts hown hK hJ fd_RX9_16 hv_9_0 e35 dX9_reckonGap_76 ?_
    refine lv_icmp_ge (tgt := 130) hx hb dX9_reckonGap_79 (by decide) (fun c36 => ?_) (fun c36 => ?_)
    · rw [if_pos c36] at hf
      exact Ke0 τ (Option.some.inj hf).symm _ _ hJ ls (lv_sub hl [0, 1, 2, 3] rfl)
    · rw [if_neg c36] at hf
      refine lv_aload_n hx hb dX9_reckonGap_82 rfl (lv_at hl 0 rfl) ?_
      refine lv_iload hx hb dX9_reckonGap_83 (lv_at hl 3 rfl) ?_
      refine lv_aload_n hx hb dX9_reckonGap_85 rfl (lv_at hl 1 rfl) ?_
      obtain ⟨b37, e38, hf⟩ := mb0 hf
      refine my_gR hx hb hts hown hK hJ fd_RX9_9 hv_9_1 e38 dX9_reckonGap_86 ?_
      refine lv_iload hx hb dX9_reckonGap_89 (lv_at hl 4 rfl) ?_
      obtain ⟨x39, e40, hf⟩ := mb0 hf
      refine mx_aL hx hb hK hJ e40 dX9_reckonGap_91 ?_
      refine lv_aload_n hx hb dX9_reckonGap_92 rfl (lv_at hl 1 rfl) ?_
      obtain ⟨b41, e42, hf⟩ := mb0 hf
      refine my_gR hx hb hts hown hK hJ fd_RX9_13 hv_9_2 e42 dX9_reckonGap_93 ?_
      refine lv_iload hx hb dX9_reckonGap_96 (lv_at hl 4 rfl) ?_
      obtain ⟨x43, e44, hf⟩ := mb0 hf
      refine mx_aL hx hb hK hJ e44 dX9_reckonGap_98 ?_
      refine lv_aload_n hx hb dX9_reckonGap_99 rfl (lv_at hl 2 rfl) ?_
      obtain ⟨i45, e46, hf⟩ := mb0 hf
      obtain ⟨σ47, e48, hf⟩ := mb0 hf
      refine mx_callV (As := [.int v7, .long x39, .long x43, .ref v2]) (rest := []) hx hb hml hts hown hK hJ rfl rfl (ci := 9) rfl e46 (c_X9_offerFoot l G P v0 v7 x39 x43 v2 τ σ47 e48) me_X9_offerFoot kw_1735 ks_65 kw_1733 (Nat.le_of_ble_eq_true rfl) (Nat.le_of_ble_eq_true rfl) rfl hl.1 rfl (Nat.le_of_ble_eq_true rfl) dX9_reckonGap_100 (fun H locs hJ => ?_)
      refine lv_aload_n hx hb dX9_reckonGap_103 rfl (lv_at hl 1 rfl) ?_
      refine lv_iload hx hb dX9_reckonGap_104 (lv_at hl 4 rfl) ?_
      refine lv_aload_n hx hb dX9_reckonGap_106 rfl (lv_at hl 0 rfl) ?_
      obtain ⟨b49, e50, hf⟩ := mb0 hf
      refine my_gR hx hb hts hown hK hJ fd_RX9_9 hv_9_1 e50 dX9_reckonGap_107 ?_
      refine lv_iload hx hb dX9_reckonGap_110 (lv_at hl 3 rfl) ?_
      obtain ⟨x51, e52, hf⟩ := mb0 hf
      refine mx_aL hx hb hK hJ e52 dX9_reckonGap_112 ?_
      refine lv_aload_n hx hb dX9_reckonGap_113 rfl (lv_at hl 0 rfl) ?_
      obtain ⟨b53, e54, hf⟩ := mb0 hf
      refine my_gR hx hb hts hown hK hJ fd_RX9_13 hv_9_2 e54 dX9_reckonGap_114 ?_
      refine lv_iload hx hb dX9_reckonGap_117 (lv_at hl 3 rfl) ?_
      obtain ⟨x55, e56, hf⟩ := mb0 hf
      refine mx_aL hx hb hK hJ e56 dX9_reckonGap_119 ?_
      refine lv_aload_n hx hb dX9_reckonGap_120 rfl (lv_at hl 2 rfl) ?_
      obtain ⟨i57, e58, hf⟩ := mb0 hf
      obtain ⟨σ59, e60, hf⟩ := mb0 hf
      refine mx_callV (As := [.int v8, .long x51, .long x55, .ref v2]) (rest := []) hx hb hml hts hown hK hJ rfl rfl (ci := 9) rfl e58 (c_X9_offerFoot l G P v1 v8 x51 x55 v2 σ47 σ59 e60) me_X9_offerFoot kw_1735 ks_65 kw_1733 (Nat.le_of_ble_eq_true rfl) (Nat.le_of_ble_eq_true rfl) rfl hl.1 rfl (Nat.le_of_ble_eq_true rfl) dX9_reckonGap_121 (fun H locs hJ => ?_)
      obtain ⟨x61, e62, hf⟩ := mb0 hf
      refine lv_iinc (v := x61) (lv' := [(8, .int x61), (0, .ref v0), (1, .ref v1), (2, .ref v2), (7, .int v7)]) hx hb dX9_reckonGap_124 hl (k := 4) rfl (by rw [← Option.some.inj e62]; rfl) (by decide) rfl (fun ls hl => ?_)
      refine lv_goto (tgt := 73) hx hb dX9_reckonGap_127 (by decide) ?_
      exact Kb x61 σ59 (Option.some.inj hf).symm _ _ hJ ls (lv_sub hl [1, 2, 3, 4, 0] rfl)
  have L73 : ∀ (v0 : Nat) (v1 : Nat) (v2 : Nat) (v7 : Int32) (n : Nat) (v8 : Int32) (τ : mx_S) (o : (mx_S)), mx_lp (f_X9_reckonGap_L73 P v0 v1 v2 v7) n (v8, τ) = some o → (∀  (υ : mx_S), o = υ → ∀ (H : Heap) (locs : List Loc), mx_J G P s.heap (mxz σ) (mxu σ) υ H locs → ∀ ls : Array Slot, lv_has ls 9 [(0, .ref v0), (1, .ref v1), (2, .ref v2), (7, .int v7)] → W p l e (mx_rm P 6 166 σ) s m ([.ref a0, .ref a1, .ref a2] : List Value).toArray below meth c H locs (mxz υ - mxz σ) (mxu υ - mxu σ) (mx_Z below G P none σ σ' [.ref a0, .ref a1, .ref a2] s) (F0 m 130 ls [])) → ∀ (H : Heap) (locs : List Loc), mx_J G P s.heap (mxz σ) (mxu σ) τ H locs → ∀ ls : Array Slot, lv_has ls 9 [(0, .ref v0), (1, .ref v1), (2, .ref v2), (7, .int v7), (8, .int v8)] → W p l e (mx_rm P 6 166 σ) s m ([.ref a0, .ref a1, .ref a2] : List Value).toArray below meth c H locs (mxz τ - mxz σ) (mxu τ - mxu σ) (mx_Z below G P none σ σ' [.ref a0, .ref a1, .ref a2] s) (F0 m 73 ls []) := by
    intro v0 v1 v2 v7 n
    induction n with
    | zero =>
      intro v8 τ o hf
      rw [mx_lp0] at hf
      cases hf
    | succ n ih =>
      intro v8 τ o hf Ke0 H locs hJ ls hl
      rw [mx_lpS] at hf
      obtain ⟨b, eb, hf⟩ := mb0 hf
      refine B73 v0 v1 v2 v7 v8 τ b eb (fun y8 υ ho H locs hJ ls hl => ?_) (fun  υ ho H locs hJ ls hl => ?_) H locs hJ ls hl
      · subst ho
        exact ih y8 υ o hf Ke0 H locs hJ ls hl
      · subst ho
        exact Ke0  υ (Option.some.inj hf).symm _ _ hJ ls hl
  have B61 : ∀ (v0 : Nat) (v1 : Nat) (v2 : Nat) (v7 : Int32) (τ : mx_S) (o : (Int32 × mx_S) ⊕ ((mx_S))), f_X9_reckonGap_B61 P v0 v1 v2 v7 τ = some o → (∀ (y7 : Int32) (υ : mx_S), o = .inl (y7, υ) → ∀ (H : Heap) (locs : List Loc), mx_J G P s.heap (mxz σ) (mxu σ) υ H locs → ∀ ls : Array Slot, lv_has ls 9 [(0, .ref v0), (1, .ref v1), (2, .ref v2), (7, .int y7)] → W p l e (mx_rm P 6 166 σ) s m ([.ref a0, .ref a1, .ref a2] : List Value).toArray below meth c H locs (mxz υ - mxz σ) (mxu υ - mxu σ) (mx_Z below G P none σ σ' [.ref a0, .ref a1, .ref a2] s) (F0 m 61 ls [])) → (∀  (υ : mx_S), o = .inr υ → ∀ (H : Heap) (locs : List Loc), mx_J G P s.heap (mxz σ) (mxu σ) υ H locs → ∀ ls : Array Slot, lv_has ls 9 [] → W p l e (mx_rm P 6 166 σ) s m ([.ref a0, .ref a1, .ref a2] : List Value).toArray below meth c H locs (mxz υ - mxz σ) (mxu υ - mxu σ) (mx_Z below G P none σ σ' [.ref a0, .ref a1, .ref a2] s) (F0 m 136 ls [])) → ∀ (H : Heap) (locs : List Loc), mx_J G P s.heap (mxz σ) (mxu σ) τ H locs → ∀ ls : Array Slot, lv_has ls 9 [(0, .ref v0), (1, .ref v1), (2, .ref v2), (7, .int v7)] → W p l e (mx_rm P 6 166 σ) s m ([.ref a0, .ref a1, .ref a2] : List Value).toArray below meth c H locs (mxz τ - mxz σ) (mxu τ - mxu σ) (mx_Z below G P none σ σ' [.ref a0, .ref a1, .ref a2] s) (F0 m 61 ls []) := by
    intro v0 v1 v2 v7 τ o hf Kb Ke0 H locs hJ ls hl
    unfold f_X9_reckonGap_B61 at hf
    refine lv_iload hx hb dX9_reckonGap_61 (lv_at hl 3 rfl) ?_
    refine lv_aload_n hx hb dX9_reckonGap_63 rfl (lv_at hl 0 rfl) ?_
    obtain ⟨x31, e32, hf⟩ := mb0 hf
    refine my_gI hx hb hts hown hK hJ fd_RX9_16 hv_9_0 e32 dX9_reckonGap_64 ?_
    refine lv_icmp_ge (tgt := 136) hx hb dX9_reckonGap_67 (by decide) (fun c33 => ?_) (fun c33 => ?_)
    · rw [if_pos c33] at hf
      exact Ke0 τ (Option.some.inj hf).symm _ _ hJ ls (lv_sub hl [] rfl)
    · rw [if_neg c33] at hf
      refine lv_iconst (v := 0) hx hb dX9_reckonGap_70 (by decide) ?_
      refine lv_istore (lv' := [(8, .int (0 : Int32)), (0, .ref v0), (1, .ref v1), (2, .ref v2), (7, .int v7)]) hx hb dX9_reckonGap_71 hl (by decide) rfl (fun ls hl => ?_)
      obtain ⟨o63, e64, hf⟩ := mb0 hf
      refine L73 v0 v1 v2 v7 (mpN P) (0 : Int32) τ o63 e64 (fun σ65 ho H locs hJ ls hl => ?_) _ _ hJ ls (lv_sub hl [1, 2, 3, 4, 0] rfl)
      · rw [ho] at hf
        have hf : ((some (v7 + (1 : Int32))).bind fun x66 => some (.inl (x66, σ65))) = some o := hf
        obtain ⟨x66, e67, hf⟩ := mb0 hf
        refine lv_iinc (v := x66) (lv' := [(7, .int x66), (0, .ref v0), (1, .ref v1), (2, .ref v2)]) hx hb dX9_reckonGap_130 hl (k := 3) rfl (by rw [← Option.some.inj e67]; rfl) (by decide) rfl (fun ls hl => ?_)
        refine lv_goto (tgt := 61) hx hb dX9_reckonGap_133 (by decide) ?_
        exact Kb x66 σ65 (Option.some.inj hf).symm _ _ hJ ls (lv_sub hl [1, 2, 3, 0] rfl)
  have L61 : ∀ (v0 : Nat) (v1 : Nat) (v2 : Nat) (n : Nat) (v7 : Int32) (τ : mx_S) (o : (mx_S)), mx_lp (f_X9_reckonGap_L61 P v0 v1 v2) n (v7, τ) = some o → (∀  (υ : mx_S), o = υ → ∀ (H : Heap) (locs : List Loc), mx_J G P s.heap (mxz σ) (mxu σ) υ H locs → ∀ ls : Array Slot, lv_has ls 9 [] → W p l e (mx_rm P 6 166 σ) s m ([.ref a0, .ref a1, .ref a2] : List Value).toArray below meth c H locs (mxz υ - mxz σ) (mxu υ - mxu σ) (mx_Z below G P none σ σ' [.ref a0, .ref a1, .ref a2] s) (F0 m 136 ls [])) → ∀ (H : Heap) (locs : List Loc), mx_J G P s.heap (mxz σ) (mxu σ) τ H locs → ∀ ls : Array Slot, lv_has ls 9 [(0, .ref v0), (1, .ref v1), (2, .ref v2), (7, .int v7)] → W p l e (mx_rm P 6 166 σ) s m ([.ref a0, .ref a1, .ref a2] : List Value).toArray below meth c H locs (mxz τ - mxz σ) (mxu τ - mxu σ) (mx_Z below G P none σ σ' [.ref a0, .ref a1, .ref a2] s) (F0 m 61 ls []) := by
    intro v0 v1 v2 n
    induction n with
    | zero =>
      intro v7 τ o hf
      rw [mx_lp0] at hf
      cases hf
    | succ n ih =>
      intro v7 τ o hf Ke0 H locs hJ ls hl
      rw [mx_lpS] at hf
      obtain ⟨b, eb, hf⟩ := mb0 hf
      refine B61 v0 v1 v2 v7 τ b eb (fun y7 υ ho H locs hJ ls hl => ?_) (fun  υ ho H locs hJ ls hl => ?_) H locs hJ ls hl
      · subst ho
        exact ih y7 υ o hf Ke0 H locs hJ ls hl
      · subst ho
        exact Ke0  υ (Option.some.inj hf).symm _ _ hJ ls hl
  unfold f_X9_reckonGap at hf
  refine lv_aload_n hx hb dX9_reckonGap_0 rfl (lv_at hl 0 rfl) ?_
  refine lv_aload_n hx hb dX9_reckonGap_1 rfl (lv_at hl 1 rfl) ?_
  obtain ⟨i1, e2, hf⟩ := mb0 hf
  obtain ⟨x4, σ3, e5, hf⟩ := mc0 hf
  refine mx_callV (As := [.ref a1]) (rest := []) hx hb hml hts hown hK hJ rfl rfl (ci := 9) rfl e2 (c_X9_isInReach l G P a0 a1 σ x4 σ3 e5) me_X9_isInReach kw_1730 ks_64 kw_1728 (Nat.le_of_ble_eq_true rfl) (Nat.le_of_ble_eq_true rfl) rfl hl.1 rfl (Nat.le_of_ble_eq_true rfl) dX9_reckonGap_2 (fun H locs hJ => ?_)
  refine lv_if_eq (tgt := 15) hx hb dX9_reckonGap_5 (by decide) (fun c6 => ?_) (fun c6 => ?_)
  · rw [if_pos c6] at hf
    refine lv_aload_n hx hb dX9_reckonGap_15 rfl (lv_at hl 1 rfl) ?_
    obtain ⟨b7, e8, hf⟩ := mb0 hf
    refine my_gR hx hb hts hown hK hJ fd_RX9_9 hv_9_1 e8 dX9_reckonGap_16 ?_
    refine lv_iconst (v := 0) hx hb dX9_reckonGap_19 (by decide) ?_
    obtain ⟨x9, e10, hf⟩ := mb0 hf
    refine mx_aL hx hb hK hJ e10 dX9_reckonGap_20 ?_
    refine lv_aload_n hx hb dX9_reckonGap_21 rfl (lv_at hl 0 rfl) ?_
    obtain ⟨b11, e12, hf⟩ := mb0 hf
    refine my_gR hx hb hts hown hK hJ fd_RX9_9 hv_9_1 e12 dX9_reckonGap_22 ?_
    refine lv_iconst (v := 0) hx hb dX9_reckonGap_25 (by decide) ?_
    obtain ⟨x13, e14, hf⟩ := mb0 hf
    refine mx_aL hx hb hK hJ e14 dX9_reckonGap_26 ?_
    refine lv_lsub hx hb dX9_reckonGap_27 ?_
    obtain ⟨x15, e16, hf⟩ := mb0 hf
    refine mx_nL e16 ?_
    refine lv_lstore_n (lv' := [(3, .long x15), (0, .ref a0), (1, .ref a1), (2, .ref a2)]) hx hb dX9_reckonGap_28 rfl hl (by decide) rfl (fun ls hl => ?_)
    refine lv_aload_n hx hb dX9_reckonGap_29 rfl (lv_at hl 2 rfl) ?_
    obtain ⟨b17, e18, hf⟩ := mb0 hf
    refine my_gR hx hb hts hown hK hJ fd_RX9_13 hv_9_2 e18 dX9_reckonGap_30 ?_
    refine lv_iconst (v := 0) hx hb dX9_reckonGap_33 (by decide) ?_
    obtain ⟨x19, e20, hf⟩ := mb0 hf
    refine mx_aL hx hb hK hJ e20 dX9_reckonGap_34 ?_
    refine lv_aload_n hx hb dX9_reckonGap_35 rfl (lv_at hl 1 rfl) ?_
    obtain ⟨b21, e22, hf⟩ := mb0 hf
    refine my_gR hx hb hts hown hK hJ fd_RX9_13 hv_9_2 e22 dX9_reckonGap_36 ?_
    refine lv_iconst (v := 0) hx hb dX9_reckonGap_39 (by decide) ?_
    obtain ⟨x23, e24, hf⟩ := mb0 hf
    refine mx_aL hx hb hK hJ e24 dX9_reckonGap_40 ?_
    refine lv_lsub hx hb dX9_reckonGap_41 ?_
    obtain ⟨x25, e26, hf⟩ := mb0 hf
    refine mx_nL e26 ?_
    refine lv_lstore (lv' := [(5, .long x25), (3, .long x15), (0, .ref a0), (1, .ref a1), (2, .ref a2)]) hx hb dX9_reckonGap_42 hl (by decide) rfl (fun ls hl => ?_)
    refine lv_aload_n hx hb dX9_reckonGap_44 rfl (lv_at hl 4 rfl) ?_
    refine lv_lload_n hx hb dX9_reckonGap_45 rfl (lv_at hl 1 rfl) ?_
    refine lv_lload_n hx hb dX9_reckonGap_46 rfl (lv_at hl 1 rfl) ?_
    refine lv_lmul hx hb dX9_reckonGap_47 ?_
    refine lv_lload hx hb dX9_reckonGap_48 (lv_at hl 0 rfl) ?_
    refine lv_lload hx hb dX9_reckonGap_50 (lv_at hl 0 rfl) ?_
    refine lv_lmul hx hb dX9_reckonGap_52 ?_
    refine lv_ladd hx hb dX9_reckonGap_53 ?_
    refine lv_lconst (v := 1) hx hb dX9_reckonGap_54 (by decide) ?_
    obtain ⟨i27, e28, hf⟩ := mb0 hf
    obtain ⟨σ29, e30, hf⟩ := mb0 hf
    refine mx_callV (As := [.long ((x15 * x15) + (x25 * x25)), .long (1 : Int64)]) (rest := []) hx hb hml hts hown hK hJ rfl rfl (ci := 3) rfl e28 (c_X3_set l G P a2 ((x15 * x15) + (x25 * x25)) (1 : Int64) σ3 σ29 e30) me_X3_set kw_843 kw_844 kw_1705 (Nat.le_of_ble_eq_true rfl) (Nat.le_of_ble_eq_true rfl) rfl hl.1 rfl (Nat.le_of_ble_eq_true rfl) dX9_reckonGap_55 (fun H locs hJ => ?_)
    refine lv_iconst (v := 0) hx hb dX9_reckonGap_58 (by decide) ?_
    refine lv_istore (lv' := [(7, .int (0 : Int32)), (5, .long x25), (3, .long x15), (0, .ref a0), (1, .ref a1), (2, .ref a2)]) hx hb dX9_reckonGap_59 hl (by decide) rfl (fun ls hl => ?_)
    obtain ⟨o68, e69, hf⟩ := mb0 hf
    refine L61 a0 a1 a2 (mpN P) (0 : Int32) σ29 o68 e69 (fun σ70 ho H locs hJ ls hl => ?_) _ _ hJ ls (lv_sub hl [3, 4, 5, 0] rfl)
    · rw [ho] at hf
      have hf : (some σ70) = some σ' := hf
      exact my_vret hx hb hr hlocks hJ hf dX9_reckonGap_136
  · rw [if_neg c6] at hf
    refine lv_aload_n hx hb dX9_reckonGap_8 rfl (lv_at hl 2 rfl) ?_
    refine lv_lconst (v := 0) hx hb dX9_reckonGap_9 (by decide) ?_
    refine lv_lconst (v := 1) hx hb dX9_reckonGap_10 (by decide) ?_
    obtain ⟨i71, e72, hf⟩ := mb0 hf
    obtain ⟨σ73, e74, hf⟩ := mb0 hf
    refine mx_callV (As := [.long (0 : Int64), .long (1 : Int64)]) (rest := []) hx hb hml hts hown hK hJ rfl rfl (ci := 3) rfl e72 (c_X3_set l G P a2 (0 : Int64) (1 : Int64) σ3 σ73 e74) me_X3_set kw_843 kw_844 kw_1705 (Nat.le_of_ble_eq_true rfl) (Nat.le_of_ble_eq_true rfl) rfl hl.1 rfl (Nat.le_of_ble_eq_true rfl) dX9_reckonGap_11 (fun H locs hJ => ?_)
    exact my_vret hx hb hr hlocks hJ hf dX9_reckonGap_14
