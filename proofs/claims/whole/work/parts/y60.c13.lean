set_option maxHeartbeats 4000000 in
set_option maxRecDepth 100000 in
theorem c_X12_speed (l : Launch) (G : mx_G) (P : mx_P) (a0 : Nat) (p1 : Int32) (p2 : Int32) (p3 : Int32) (p4 : Int32) (p5 : Int32) (σ : mx_S) (r : Int64) (σ' : mx_S) (hf : f_X12_speed P a0 p1 p2 p3 p4 p5 σ = some (r, σ')) : mxz σ ≤ mpc P → mxu σ ≤ mps P → mx_M l yX12_speed cX12_speed 6 (some .long) 8 206 G P [.ref a0, .int p1, .int p2, .int p3, .int p4, .int p5] σ (some (.long r)) σ' := by
  intro hcap hcau
  refine mx_ofW (by decide +kernel) hcap hcau (Nat.le_of_ble_eq_true rfl) ?_
  intro p e s m below meth c hx hb hr hml hts hown hlocks hname hK hJ ls hl
  have hz0 := hJ.2.1
  have hown : s.vm.findClass RX12 = some m.cls := hown
  have hl : lv_has ls 6 [(0, .ref a0), (1, .int p1), (2, .int p2), (3, .int p3), (4, .int p4), (5, .int p5)] := hl
  have D125 : ∀ (w0 : Int64) (τ : mx_S), f_X12_speed_D125 P w0 τ = some (r, σ') → ∀ (H : Heap) (locs : List Loc), mx_J G P s.heap (mxz σ) (mxu σ) τ H locs → ∀ ls : Array Slot, lv_has ls 6 [] → W p l e (mx_rm P 8 206 σ) s m ([.ref a0, .int p1, .int p2, .int p3, .int p4, .int p5] : List Value).toArray below meth c H locs (mxz τ - mxz σ) (mxu τ - mxu σ) (mx_Z below G P (some (.long r)) σ σ' [.ref a0, .int p1, .int p2, .int p3, .int p4, .int p5] s) (F0 m 125 ls [.long w0]) := by
    intro w0 τ hf _ _ hJ ls hl
    unfold f_X12_speed_D125 at hf
    exact my_lret hx hb hr hlocks hJ hf dX12_speed_125
  have D96 : ∀ (v0 : Nat) (v3 : Int32) (v4 : Int32) (v5 : Int32) (w0 : Int32) (w1 : Nat) (τ : mx_S), f_X12_speed_D96 P v0 v3 v4 v5 w0 w1 τ = some (r, σ') → ∀ (H : Heap) (locs : List Loc), mx_J G P s.heap (mxz σ) (mxu σ) τ H locs → ∀ ls : Array Slot, lv_has ls 6 [(0, .ref v0), (3, .int v3), (4, .int v4), (5, .int v5)] → W p l e (mx_rm P 8 206 σ) s m ([.ref a0, .int p1, .int p2, .int p3, .int p4, .int p5] : List Value).toArray below meth c H locs (mxz τ - mxz σ) (mxu τ - mxu σ) (mx_Z below G P (some (.long r)) σ σ' [.ref a0, .int p1, .int p2, .int p3, .int p4, .int p5] s) (F0 m 96 ls [.int w0, .ref w1]) := by
    intro v0 v3 v4 v5 w0 w1 τ hf _ _ hJ ls hl
    unfold f_X12_speed_D96 at hf
    obtain ⟨σ28, e29, hf⟩ := mb0 hf
    refine my_pI hx hb hts hown hK hJ fd_RX12_243 cd_12 (Or.inl rfl) ht_12_0 e29 dX12_speed_96 (fun H locs hJ => ?_)
    refine lv_aload_n hx hb dX12_speed_99 rfl (lv_at hl 0 rfl) ?_
    obtain ⟨x30, e31, hf⟩ := mb0 hf
    refine my_gI hx hb hts hown hK hJ fd_RX12_243 hv_12_0 e31 dX12_speed_100 ?_
    refine lv_if_le (tgt := 110) hx hb dX12_speed_103 (by decide) (fun c32 => ?_) (fun c32 => ?_)
    · rw [if_pos c32] at hf
      refine lv_aload_n hx hb dX12_speed_110 rfl (lv_at hl 0 rfl) ?_
      refine lv_bipush (v := 80) hx hb dX12_speed_111 (by decide) ?_
      refine lv_iconst (v := 2) hx hb dX12_speed_113 (by decide) ?_
      refine lv_iload_n hx hb dX12_speed_114 rfl (lv_at hl 1 rfl) ?_
      refine lv_imul hx hb dX12_speed_115 ?_
      refine lv_iadd hx hb dX12_speed_116 ?_
      refine lv_iload hx hb dX12_speed_117 (lv_at hl 2 rfl) ?_
      refine lv_iadd hx hb dX12_speed_119 ?_
      refine lv_iload hx hb dX12_speed_120 (lv_at hl 3 rfl) ?_
      obtain ⟨i33, e34, hf⟩ := mb0 hf
      obtain ⟨x36, σ35, e37, hf⟩ := mc0 hf
      refine mx_callV (As := [.int (((80 : Int32) + ((2 : Int32) * v3)) + v4), .int v5]) (rest := []) hx hb hml hts hown hK hJ rfl rfl (ci := 12) rfl e34 (c_X12_sideOf l G P v0 (((80 : Int32) + ((2 : Int32) * v3)) + v4) v5 σ28 x36 σ35 e37) me_X12_sideOf kw_2502 ks_131 kw_2500 (Nat.le_of_ble_eq_true rfl) (Nat.le_of_ble_eq_true rfl) rfl hl.1 rfl (Nat.le_of_ble_eq_true rfl) dX12_speed_122 (fun H locs hJ => ?_)
      exact D125 x36 σ35 hf _ _ hJ ls (lv_sub hl [] rfl)
    · rw [if_neg c32] at hf
      refine lv_lconst (v := 0) hx hb dX12_speed_106 (by decide) ?_
      refine lv_goto (tgt := 125) hx hb dX12_speed_107 (by decide) ?_
      exact D125 (0 : Int64) σ28 hf _ _ hJ ls (lv_sub hl [] rfl)
  have D49 : ∀ (v0 : Nat) (v1 : Int32) (v2 : Int32) (v3 : Int32) (v4 : Int32) (v5 : Int32) (w0 : Int32) (w1 : Nat) (τ : mx_S), f_X12_speed_D49 P v0 v1 v2 v3 v4 v5 w0 w1 τ = some (r, σ') → ∀ (H : Heap) (locs : List Loc), mx_J G P s.heap (mxz σ) (mxu σ) τ H locs → ∀ ls : Array Slot, lv_has ls 6 [(0, .ref v0), (1, .int v1), (2, .int v2), (3, .int v3), (4, .int v4), (5, .int v5)] → W p l e (mx_rm P 8 206 σ) s m ([.ref a0, .int p1, .int p2, .int p3, .int p4, .int p5] : List Value).toArray below meth c H locs (mxz τ - mxz σ) (mxu τ - mxu σ) (mx_Z below G P (some (.long r)) σ σ' [.ref a0, .int p1, .int p2, .int p3, .int p4, .int p5] s) (F0 m 49 ls [.int w0, .ref w1]) := by
    intro v0 v1 v2 v3 v4 v5 w0 w1 τ hf _ _ hJ ls hl
    unfold f_X12_speed_D49 at hf
    obtain ⟨σ7, e8, hf⟩ := mb0 hf
    refine my_pI hx hb hts hown hK hJ fd_RX12_243 cd_12 (Or.inl rfl) ht_12_0 e8 dX12_speed_49 (fun H locs hJ => ?_)
    refine lv_aload_n hx hb dX12_speed_52 rfl (lv_at hl 0 rfl) ?_
    obtain ⟨x9, e10, hf⟩ := mb0 hf
    refine my_gI hx hb hts hown hK hJ fd_RX12_243 hv_12_0 e10 dX12_speed_53 ?_
    refine lv_if_le (tgt := 61) hx hb dX12_speed_56 (by decide) (fun c11 => ?_) (fun c11 => ?_)
    · rw [if_pos c11] at hf
      refine lv_aload_n hx hb dX12_speed_61 rfl (lv_at hl 0 rfl) ?_
      refine lv_iload_n hx hb dX12_speed_62 rfl (lv_at hl 1 rfl) ?_
      obtain ⟨i12, e13, hf⟩ := mb0 hf
      obtain ⟨x15, σ14, e16, hf⟩ := mc0 hf
      refine mx_callV (As := [.int v1]) (rest := []) hx hb hml hts hown hK hJ rfl rfl (ci := 12) rfl e13 (c_X12_worked l G P v0 v1 σ7 x15 σ14 e16) me_X12_worked kw_2362 ks_103 kw_2360 (Nat.le_of_ble_eq_true rfl) (Nat.le_of_ble_eq_true rfl) rfl hl.1 rfl (Nat.le_of_ble_eq_true rfl) dX12_speed_63 (fun H locs hJ => ?_)
      refine lv_iconst (v := 1) hx hb dX12_speed_66 (by decide) ?_
      refine lv_icmp_eq (tgt := 77) hx hb dX12_speed_67 (by decide) (fun c17 => ?_) (fun c17 => ?_)
      · rw [if_pos c17] at hf
        refine lv_aload_n hx hb dX12_speed_77 rfl (lv_at hl 0 rfl) ?_
        refine lv_iload_n hx hb dX12_speed_78 rfl (lv_at hl 2 rfl) ?_
        obtain ⟨i18, e19, hf⟩ := mb0 hf
        obtain ⟨σ20, e21, hf⟩ := mb0 hf
        refine mx_callV (As := [.int v2]) (rest := []) hx hb hml hts hown hK hJ rfl rfl (ci := 12) rfl e19 (c_X12_speeds l G P v0 v2 σ14 σ20 e21) me_X12_speeds kw_2535 ks_134 kw_2533 (Nat.le_of_ble_eq_true rfl) (Nat.le_of_ble_eq_true rfl) rfl hl.1 rfl (Nat.le_of_ble_eq_true rfl) dX12_speed_79 (fun H locs hJ => ?_)
        refine lv_aload_n hx hb dX12_speed_82 rfl (lv_at hl 0 rfl) ?_
        refine lv_aload_n hx hb dX12_speed_83 rfl (lv_at hl 0 rfl) ?_
        refine lv_iload_n hx hb dX12_speed_84 rfl (lv_at hl 3 rfl) ?_
        obtain ⟨i22, e23, hf⟩ := mb0 hf
        obtain ⟨x25, σ24, e26, hf⟩ := mc0 hf
        refine mx_callV (As := [.int v3]) (rest := [.ref v0]) hx hb hml hts hown hK hJ rfl rfl (ci := 12) rfl e23 (c_X12_isSpeedOpen l G P v0 v3 σ20 x25 σ24 e26) me_X12_isSpeedOpen kw_2563 ks_141 kw_2561 (Nat.le_of_ble_eq_true rfl) (Nat.le_of_ble_eq_true rfl) rfl hl.1 rfl (Nat.le_of_ble_eq_true rfl) dX12_speed_85 (fun H locs hJ => ?_)
        refine lv_if_eq (tgt := 95) hx hb dX12_speed_88 (by decide) (fun c27 => ?_) (fun c27 => ?_)
        · rw [if_pos c27] at hf
          refine lv_iconst (v := 0) hx hb dX12_speed_95 (by decide) ?_
          exact D96 v0 v3 v4 v5 (0 : Int32) v0 σ24 hf _ _ hJ ls (lv_sub hl [0, 3, 4, 5] rfl)
        · rw [if_neg c27] at hf
          refine lv_iconst (v := 2) hx hb dX12_speed_91 (by decide) ?_
          refine lv_goto (tgt := 96) hx hb dX12_speed_92 (by decide) ?_
          exact D96 v0 v3 v4 v5 (2 : Int32) v0 σ24 hf _ _ hJ ls (lv_sub hl [0, 3, 4, 5] rfl)
      · rw [if_neg c17] at hf
        refine lv_aload_n hx hb dX12_speed_70 rfl (lv_at hl 0 rfl) ?_
        refine lv_iconst (v := 3) hx hb dX12_speed_71 (by decide) ?_
        obtain ⟨σ38, e39, hf⟩ := mb0 hf
        refine my_pI hx hb hts hown hK hJ fd_RX12_243 cd_12 (Or.inl rfl) ht_12_0 e39 dX12_speed_72 (fun H locs hJ => ?_)
        refine lv_lconst (v := 0) hx hb dX12_speed_75 (by decide) ?_
        exact my_lret hx hb hr hlocks hJ hf dX12_speed_76
    · rw [if_neg c11] at hf
      refine lv_lconst (v := 0) hx hb dX12_speed_59 (by decide) ?_
      exact my_lret hx hb hr hlocks hJ hf dX12_speed_60
  have D32 : ∀ (v0 : Nat) (v1 : Int32) (v2 : Int32) (v3 : Int32) (v4 : Int32) (v5 : Int32) (w0 : Nat) (τ : mx_S), f_X12_speed_D32 P v0 v1 v2 v3 v4 v5 w0 τ = some (r, σ') → ∀ (H : Heap) (locs : List Loc), mx_J G P s.heap (mxz σ) (mxu σ) τ H locs → ∀ ls : Array Slot, lv_has ls 6 [(0, .ref v0), (1, .int v1), (2, .int v2), (3, .int v3), (4, .int v4), (5, .int v5)] → W p l e (mx_rm P 8 206 σ) s m ([.ref a0, .int p1, .int p2, .int p3, .int p4, .int p5] : List Value).toArray below meth c H locs (mxz τ - mxz σ) (mxu τ - mxu σ) (mx_Z below G P (some (.long r)) σ σ' [.ref a0, .int p1, .int p2, .int p3, .int p4, .int p5] s) (F0 m 32 ls [.ref w0]) := by
    intro v0 v1 v2 v3 v4 v5 w0 τ hf _ _ hJ ls hl
    unfold f_X12_speed_D32 at hf
    refine lv_iconst (v := 1) hx hb dX12_speed_32 (by decide) ?_
    refine lv_goto (tgt := 49) hx hb dX12_speed_33 (by decide) ?_
    exact D49 v0 v1 v2 v3 v4 v5 (1 : Int32) w0 τ hf _ _ hJ ls (lv_sub hl [0, 1, 2, 3, 4, 5] rfl)
  unfold f_X12_speed at hf
  refine lv_aload_n hx hb dX12_speed_0 rfl (lv_at hl 0 rfl) ?_
  refine lv_aload_n hx hb dX12_speed_1 rfl (lv_at hl 0 rfl) ?_
  refine lv_iload_n hx hb dX12_speed_2 rfl (lv_at hl 1 rfl) ?_
  refine lv_iload_n hx hb dX12_speed_3 rfl (lv_at hl 2 rfl) ?_
  obtain ⟨i1, e2, hf⟩ := mb0 hf
  obtain ⟨x4, σ3, e5, hf⟩ := mc0 hf
  refine mx_callV (As := [.int p1, .int p2]) (rest := [.ref a0]) hx hb hml hts hown hK hJ rfl rfl (ci := 12) rfl e2 (c_X12_isWay l G P a0 p1 p2 σ x4 σ3 e5) me_X12_isWay kw_2510 ks_132 kw_2508 (Nat.le_of_ble_eq_true rfl) (Nat.le_of_ble_eq_true rfl) rfl hl.1 rfl (Nat.le_of_ble_eq_true rfl) dX12_speed_4 (fun H locs hJ => ?_)
  refine lv_if_eq (tgt := 32) hx hb dX12_speed_7 (by decide) (fun c6 => ?_) (fun c6 => ?_)
  · rw [if_pos c6] at hf
    exact D32 a0 p1 p2 p3 p4 p5 a0 σ3 hf _ _ hJ ls (lv_sub hl [0, 1, 2, 3, 4, 5] rfl)
  · rw [if_neg c6] at hf
    refine lv_iload hx hb dX12_speed_10 (lv_at hl 4 rfl) ?_
    refine lv_i2l hx hb dX12_speed_12 rfl ?_
    refine lv_lconst (v := 0) hx hb dX12_speed_13 (by decide) ?_
    refine lv_lconst (v := 1) hx hb dX12_speed_14 (by decide) ?_
    obtain ⟨x41, σ40, e42, hf⟩ := mc0 hf
    refine mx_callS (As := [.long (p4.toInt64), .long (0 : Int64), .long (1 : Int64)]) (rest := [.ref a0]) hx hb hml hts hown hK hJ rfl rfl (c_X12_in l G P (p4.toInt64) (0 : Int64) (1 : Int64) σ3 x41 σ40 e42) me_X12_in kw_2223 kw_2222 (Nat.le_of_ble_eq_true rfl) (Nat.le_of_ble_eq_true rfl) rfl hl.1 rfl (Nat.le_of_ble_eq_true rfl) dX12_speed_15 (fun H locs hJ => ?_)
    refine lv_if_eq (tgt := 32) hx hb dX12_speed_18 (by decide) (fun c43 => ?_) (fun c43 => ?_)
    · rw [if_pos c43] at hf
      exact D32 a0 p1 p2 p3 p4 p5 a0 σ40 hf _ _ hJ ls (lv_sub hl [0, 1, 2, 3, 4, 5] rfl)
    · rw [if_neg c43] at hf
      refine lv_iload hx hb dX12_speed_21 (lv_at hl 5 rfl) ?_
      refine lv_i2l hx hb dX12_speed_23 rfl ?_
      refine lv_lconst (v := 0) hx hb dX12_speed_24 (by decide) ?_
      refine lv_lconst (v := 1) hx hb dX12_speed_25 (by decide) ?_
      obtain ⟨x45, σ44, e46, hf⟩ := mc0 hf
      refine mx_callS (As := [.long (p5.toInt64), .long (0 : Int64), .long (1 : Int64)]) (rest := [.ref a0]) hx hb hml hts hown hK hJ rfl rfl (c_X12_in l G P (p5.toInt64) (0 : Int64) (1 : Int64) σ40 x45 σ44 e46) me_X12_in kw_2223 kw_2222 (Nat.le_of_ble_eq_true rfl) (Nat.le_of_ble_eq_true rfl) rfl hl.1 rfl (Nat.le_of_ble_eq_true rfl) dX12_speed_26 (fun H locs hJ => ?_)
      refine lv_if_ne (tgt := 36) hx hb dX12_speed_29 (by decide) (fun c47 => ?_) (fun c47 => ?_)
      · rw [if_neg c47] at hf
        refine lv_aload_n hx hb dX12_speed_36 rfl (lv_at hl 0 rfl) ?_
        refine lv_iload_n hx hb dX12_speed_37 rfl (lv_at hl 3 rfl) ?_
        obtain ⟨i48, e49, hf⟩ := mb0 hf
        obtain ⟨x51, σ50, e52, hf⟩ := mc0 hf
        refine mx_callV (As := [.int p3]) (rest := [.ref a0]) hx hb hml hts hown hK hJ rfl rfl (ci := 12) rfl e49 (c_X12_isPoint l G P a0 p3 σ44 x51 σ50 e52) me_X12_isPoint kw_2498 ks_130 kw_2496 (Nat.le_of_ble_eq_true rfl) (Nat.le_of_ble_eq_true rfl) rfl hl.1 rfl (Nat.le_of_ble_eq_true rfl) dX12_speed_38 (fun H locs hJ => ?_)
        refine lv_if_eq (tgt := 48) hx hb dX12_speed_41 (by decide) (fun c53 => ?_) (fun c53 => ?_)
        · rw [if_pos c53] at hf
          refine lv_iconst (v := 2) hx hb dX12_speed_48 (by decide) ?_
          exact D49 a0 p1 p2 p3 p4 p5 (2 : Int32) a0 σ50 hf _ _ hJ ls (lv_sub hl [0, 1, 2, 3, 4, 5] rfl)
        · rw [if_neg c53] at hf
          refine lv_iconst (v := 0) hx hb dX12_speed_44 (by decide) ?_
          refine lv_goto (tgt := 49) hx hb dX12_speed_45 (by decide) ?_
          exact D49 a0 p1 p2 p3 p4 p5 (0 : Int32) a0 σ50 hf _ _ hJ ls (lv_sub hl [0, 1, 2, 3, 4, 5] rfl)
      · rw [if_pos c47] at hf
        exact D32 a0 p1 p2 p3 p4 p5 a0 σ44 hf _ _ hJ ls (lv_sub hl [0, 1, 2, 3, 4, 5] rfl)
set_option maxHeartbeats 4000000 in
set_option maxRecDepth 100000 in
theorem c_X12_pole (l : Launch) (G : mx_G) (P : mx_P) (a0 : Nat) (p1 : Int32) (p2 : Int32) (p3 : Int32) (p4 : Int32) (p5 : Int32) (p6 : Int32) (σ : mx_S) (r : Int64) (σ' : mx_S) (hf : f_X12_pole P a0 p1 p2 p3 p4 p5 p6 σ = some (r, σ')) : mxz σ ≤ mpc P → mxu σ ≤ mps P → mx_M l yX12_pole cX12_pole 7 (some .long) 8 206 G P [.ref a0, .int p1, .int p2, .int p3, .int p4, .int p5, .int p6] σ (some (.long r)) σ' := by
  intro hcap hcau
  refine mx_ofW (by decide +kernel) hcap hcau (Nat.le_of_ble_eq_true rfl) ?_
  intro p e s m below meth c hx hb hr hml hts hown hlocks hname hK hJ ls hl
  have hz0 := hJ.2.1
  have hown : s.vm.findClass RX12 = some m.cls := hown
  have hl : lv_has ls 7 [(0, .ref a0), (1, .int p1), (2, .int p2), (3, .int p3), (4, .int p4), (5, .int p5), (6, .int p6)] := hl
  have D205 : ∀ (w0 : Int64) (τ : mx_S), f_X12_pole_D205 P w0 τ = some (r, σ') → ∀ (H : Heap) (locs : List Loc), mx_J G P s.heap (mxz σ) (mxu σ) τ H locs → ∀ ls : Array Slot, lv_has ls 7 [] → W p l e (mx_rm P 8 206 σ) s m ([.ref a0, .int p1, .int p2, .int p3, .int p4, .int p5, .int p6] : List Value).toArray below meth c H locs (mxz τ - mxz σ) (mxu τ - mxu σ) (mx_Z below G P (some (.long r)) σ σ' [.ref a0, .int p1, .int p2, .int p3, .int p4, .int p5, .int p6] s) (F0 m 205 ls [.long w0]) := by
    intro w0 τ hf _ _ hJ ls hl
    unfold f_X12_pole_D205 at hf
    exact my_lret hx hb hr hlocks hJ hf dX12_pole_205
  have D179 : ∀ (v0 : Nat) (v5 : Int32) (v6 : Int32) (w0 : Int32) (w1 : Nat) (τ : mx_S), f_X12_pole_D179 P v0 v5 v6 w0 w1 τ = some (r, σ') → ∀ (H : Heap) (locs : List Loc), mx_J G P s.heap (mxz σ) (mxu σ) τ H locs → ∀ ls : Array Slot, lv_has ls 7 [(0, .ref v0), (5, .int v5), (6, .int v6)] → W p l e (mx_rm P 8 206 σ) s m ([.ref a0, .int p1, .int p2, .int p3, .int p4, .int p5, .int p6] : List Value).toArray below meth c H locs (mxz τ - mxz σ) (mxu τ - mxu σ) (mx_Z below G P (some (.long r)) σ σ' [.ref a0, .int p1, .int p2, .int p3, .int p4, .int p5, .int p6] s) (F0 m 179 ls [.int w0, .ref w1]) := by
    intro v0 v5 v6 w0 w1 τ hf _ _ hJ ls hl
    unfold f_X12_pole_D179 at hf
    obtain ⟨σ39, e40, hf⟩ := mb0 hf
    refine my_pI hx hb hts hown hK hJ fd_RX12_243 cd_12 (Or.inl rfl) ht_12_0 e40 dX12_pole_179 (fun H locs hJ => ?_)
    refine lv_aload_n hx hb dX12_pole_182 rfl (lv_at hl 0 rfl) ?_
    obtain ⟨x41, e42, hf⟩ := mb0 hf
    refine my_gI hx hb hts hown hK hJ fd_RX12_243 hv_12_0 e42 dX12_pole_183 ?_
    refine lv_if_le (tgt := 193) hx hb dX12_pole_186 (by decide) (fun c43 => ?_) (fun c43 => ?_)
    · rw [if_pos c43] at hf
      refine lv_aload_n hx hb dX12_pole_193 rfl (lv_at hl 0 rfl) ?_
      refine lv_sipush (v := 162) hx hb dX12_pole_194 (by decide) ?_
      refine lv_iload hx hb dX12_pole_197 (lv_at hl 1 rfl) ?_
      refine lv_iadd hx hb dX12_pole_199 ?_
      refine lv_iload hx hb dX12_pole_200 (lv_at hl 2 rfl) ?_
      obtain ⟨i44, e45, hf⟩ := mb0 hf
      obtain ⟨x47, σ46, e48, hf⟩ := mc0 hf
      refine mx_callV (As := [.int ((162 : Int32) + v5), .int v6]) (rest := []) hx hb hml hts hown hK hJ rfl rfl (ci := 12) rfl e45 (c_X12_sideOf l G P v0 ((162 : Int32) + v5) v6 σ39 x47 σ46 e48) me_X12_sideOf kw_2502 ks_131 kw_2500 (Nat.le_of_ble_eq_true rfl) (Nat.le_of_ble_eq_true rfl) rfl hl.1 rfl (Nat.le_of_ble_eq_true rfl) dX12_pole_202 (fun H locs hJ => ?_)
      exact D205 x47 σ46 hf _ _ hJ ls (lv_sub hl [] rfl)
    · rw [if_neg c43] at hf
      refine lv_lconst (v := 0) hx hb dX12_pole_189 (by decide) ?_
      refine lv_goto (tgt := 205) hx hb dX12_pole_190 (by decide) ?_
      exact D205 (0 : Int64) σ39 hf _ _ hJ ls (lv_sub hl [] rfl)
  have D174 : ∀ (v0 : Nat) (v5 : Int32) (v6 : Int32) (w0 : Nat) (τ : mx_S), f_X12_pole_D174 P v0 v5 v6 w0 τ = some (r, σ') → ∀ (H : Heap) (locs : List Loc), mx_J G P s.heap (mxz σ) (mxu σ) τ H locs → ∀ ls : Array Slot, lv_has ls 7 [(0, .ref v0), (5, .int v5), (6, .int v6)] → W p l e (mx_rm P 8 206 σ) s m ([.ref a0, .int p1, .int p2, .int p3, .int p4, .int p5, .int p6] : List Value).toArray below meth c H locs (mxz τ - mxz σ) (mxu τ - mxu σ) (mx_Z below G P (some (.long r)) σ σ' [.ref a0, .int p1, .int p2, .int p3, .int p4, .int p5, .int p6] s) (F0 m 174 ls [.ref w0]) := by
    intro v0 v5 v6 w0 τ hf _ _ hJ ls hl
    unfold f_X12_pole_D174 at hf
    refine lv_iconst (v := 2) hx hb dX12_pole_174 (by decide) ?_
    refine lv_goto (tgt := 179) hx hb dX12_pole_175 (by decide) ?_
    exact D179 v0 v5 v6 (2 : Int32) w0 τ hf _ _ hJ ls (lv_sub hl [0, 1, 2] rfl)
  have D58 : ∀ (v0 : Nat) (v1 : Int32) (v2 : Int32) (v3 : Int32) (v4 : Int32) (v5 : Int32) (v6 : Int32) (w0 : Int32) (w1 : Nat) (τ : mx_S), f_X12_pole_D58 P v0 v1 v2 v3 v4 v5 v6 w0 w1 τ = some (r, σ') → ∀ (H : Heap) (locs : List Loc), mx_J G P s.heap (mxz σ) (mxu σ) τ H locs → ∀ ls : Array Slot, lv_has ls 7 [(0, .ref v0), (1, .int v1), (2, .int v2), (3, .int v3), (4, .int v4), (5, .int v5), (6, .int v6)] → W p l e (mx_rm P 8 206 σ) s m ([.ref a0, .int p1, .int p2, .int p3, .int p4, .int p5, .int p6] : List Value).toArray below meth c H locs (mxz τ - mxz σ) (mxu τ - mxu σ) (mx_Z below G P (some (.long r)) σ σ' [.ref a0, .int p1, .int p2, .int p3, .int p4, .int p5, .int p6] s) (F0 m 58 ls [.int w0, .ref w1]) := by
    intro v0 v1 v2 v3 v4 v5 v6 w0 w1 τ hf _ _ hJ ls hl
    unfold f_X12_pole_D58 at hf
    obtain ⟨σ7, e8, hf⟩ := mb0 hf
    refine my_pI hx hb hts hown hK hJ fd_RX12_243 cd_12 (Or.inl rfl) ht_12_0 e8 dX12_pole_58 (fun H locs hJ => ?_)
    refine lv_aload_n hx hb dX12_pole_61 rfl (lv_at hl 0 rfl) ?_
    obtain ⟨x9, e10, hf⟩ := mb0 hf
    refine my_gI hx hb hts hown hK hJ fd_RX12_243 hv_12_0 e10 dX12_pole_62 ?_
    refine lv_if_le (tgt := 70) hx hb dX12_pole_65 (by decide) (fun c11 => ?_) (fun c11 => ?_)
    · rw [if_pos c11] at hf
      refine lv_aload_n hx hb dX12_pole_70 rfl (lv_at hl 0 rfl) ?_
      refine lv_iload_n hx hb dX12_pole_71 rfl (lv_at hl 1 rfl) ?_
      obtain ⟨i12, e13, hf⟩ := mb0 hf
      obtain ⟨x15, σ14, e16, hf⟩ := mc0 hf
      refine mx_callV (As := [.int v1]) (rest := []) hx hb hml hts hown hK hJ rfl rfl (ci := 12) rfl e13 (c_X12_worked l G P v0 v1 σ7 x15 σ14 e16) me_X12_worked kw_2362 ks_103 kw_2360 (Nat.le_of_ble_eq_true rfl) (Nat.le_of_ble_eq_true rfl) rfl hl.1 rfl (Nat.le_of_ble_eq_true rfl) dX12_pole_72 (fun H locs hJ => ?_)
      refine lv_iconst (v := 1) hx hb dX12_pole_75 (by decide) ?_
      refine lv_icmp_eq (tgt := 86) hx hb dX12_pole_76 (by decide) (fun c17 => ?_) (fun c17 => ?_)
      · rw [if_pos c17] at hf
        refine lv_aload_n hx hb dX12_pole_86 rfl (lv_at hl 0 rfl) ?_
        refine lv_iload_n hx hb dX12_pole_87 rfl (lv_at hl 2 rfl) ?_
        obtain ⟨i18, e19, hf⟩ := mb0 hf
        obtain ⟨σ20, e21, hf⟩ := mb0 hf
        refine mx_callV (As := [.int v2]) (rest := []) hx hb hml hts hown hK hJ rfl rfl (ci := 12) rfl e19 (c_X12_speeds l G P v0 v2 σ14 σ20 e21) me_X12_speeds kw_2535 ks_134 kw_2533 (Nat.le_of_ble_eq_true rfl) (Nat.le_of_ble_eq_true rfl) rfl hl.1 rfl (Nat.le_of_ble_eq_true rfl) dX12_pole_88 (fun H locs hJ => ?_)
        refine lv_aload_n hx hb dX12_pole_91 rfl (lv_at hl 0 rfl) ?_
        refine lv_sipush (v := 160) hx hb dX12_pole_92 (by decide) ?_
        refine lv_iconst (v := 2) hx hb dX12_pole_95 (by decide) ?_
        refine lv_iload_n hx hb dX12_pole_96 rfl (lv_at hl 3 rfl) ?_
        refine lv_imul hx hb dX12_pole_97 ?_
        refine lv_bipush (v := 80) hx hb dX12_pole_98 (by decide) ?_
        refine lv_iconst (v := 2) hx hb dX12_pole_100 (by decide) ?_
        refine lv_iload_n hx hb dX12_pole_101 rfl (lv_at hl 3 rfl) ?_
        refine lv_imul hx hb dX12_pole_102 ?_
        refine lv_iadd hx hb dX12_pole_103 ?_
        obtain ⟨i22, e23, hf⟩ := mb0 hf
        obtain ⟨σ24, e25, hf⟩ := mb0 hf
        refine mx_callV (As := [.int (160 : Int32), .int ((2 : Int32) * v3), .int ((80 : Int32) + ((2 : Int32) * v3))]) (rest := []) hx hb hml hts hown hK hJ rfl rfl (ci := 12) rfl e23 (c_X12_dot l G P v0 (160 : Int32) ((2 : Int32) * v3) ((80 : Int32) + ((2 : Int32) * v3)) σ20 σ24 e25) me_X12_dot kw_2473 ks_126 kw_2471 (Nat.le_of_ble_eq_true rfl) (Nat.le_of_ble_eq_true rfl) rfl hl.1 rfl (Nat.le_of_ble_eq_true rfl) dX12_pole_104 (fun H locs hJ => ?_)
        refine lv_aload_n hx hb dX12_pole_107 rfl (lv_at hl 0 rfl) ?_
        refine lv_sipush (v := 161) hx hb dX12_pole_108 (by decide) ?_
        refine lv_iconst (v := 2) hx hb dX12_pole_111 (by decide) ?_
        refine lv_iload hx hb dX12_pole_112 (lv_at hl 4 rfl) ?_
        refine lv_imul hx hb dX12_pole_114 ?_
        refine lv_bipush (v := 80) hx hb dX12_pole_115 (by decide) ?_
        refine lv_iconst (v := 2) hx hb dX12_pole_117 (by decide) ?_
        refine lv_iload hx hb dX12_pole_118 (lv_at hl 4 rfl) ?_
        refine lv_imul hx hb dX12_pole_120 ?_
        refine lv_iadd hx hb dX12_pole_121 ?_
        obtain ⟨i26, e27, hf⟩ := mb0 hf
        obtain ⟨σ28, e29, hf⟩ := mb0 hf
        refine mx_callV (As := [.int (161 : Int32), .int ((2 : Int32) * v4), .int ((80 : Int32) + ((2 : Int32) * v4))]) (rest := []) hx hb hml hts hown hK hJ rfl rfl (ci := 12) rfl e27 (c_X12_dot l G P v0 (161 : Int32) ((2 : Int32) * v4) ((80 : Int32) + ((2 : Int32) * v4)) σ24 σ28 e29) me_X12_dot kw_2473 ks_126 kw_2471 (Nat.le_of_ble_eq_true rfl) (Nat.le_of_ble_eq_true rfl) rfl hl.1 rfl (Nat.le_of_ble_eq_true rfl) dX12_pole_122 (fun H locs hJ => ?_)
        refine lv_aload_n hx hb dX12_pole_125 rfl (lv_at hl 0 rfl) ?_
        refine lv_sipush (v := 162) hx hb dX12_pole_126 (by decide) ?_
        refine lv_bipush (v := 80) hx hb dX12_pole_129 (by decide) ?_
        refine lv_iconst (v := 2) hx hb dX12_pole_131 (by decide) ?_
        refine lv_iload_n hx hb dX12_pole_132 rfl (lv_at hl 3 rfl) ?_
        refine lv_imul hx hb dX12_pole_133 ?_
        refine lv_iadd hx hb dX12_pole_134 ?_
        refine lv_bipush (v := 80) hx hb dX12_pole_135 (by decide) ?_
        refine lv_iconst (v := 2) hx hb dX12_pole_137 (by decide) ?_
        refine lv_iload hx hb dX12_pole_138 (lv_at hl 4 rfl) ?_
        refine lv_imul hx hb dX12_pole_140 ?_
        refine lv_iadd hx hb dX12_pole_141 ?_
        refine lv_sipush (v := 160) hx hb dX12_pole_142 (by decide) ?_
        refine lv_sipush (v := 161) hx hb dX12_pole_145 (by decide) ?_
        obtain ⟨i30, e31, hf⟩ := mb0 hf
        obtain ⟨σ32, e33, hf⟩ := mb0 hf
        refine mx_callV (As := [.int (162 : Int32), .int ((80 : Int32) + ((2 : Int32) * v3)), .int ((80 : Int32) + ((2 : Int32) * v4)), .int (160 : Int32), .int (161 : Int32)]) (rest := []) hx hb hml hts hown hK hJ rfl rfl (ci := 12) rfl e31 (c_X12_solve l G P v0 (162 : Int32) ((80 : Int32) + ((2 : Int32) * v3)) ((80 : Int32) + ((2 : Int32) * v4)) (160 : Int32) (161 : Int32) σ28 σ32 e33) me_X12_solve kw_2543 ks_136 kw_2541 (Nat.le_of_ble_eq_true rfl) (Nat.le_of_ble_eq_true rfl) rfl hl.1 rfl (Nat.le_of_ble_eq_true rfl) dX12_pole_148 (fun H locs hJ => ?_)
        refine lv_aload_n hx hb dX12_pole_151 rfl (lv_at hl 0 rfl) ?_
        refine lv_aload_n hx hb dX12_pole_152 rfl (lv_at hl 0 rfl) ?_
        obtain ⟨b34, e35, hf⟩ := mb0 hf
        refine my_gR hx hb hts hown hK hJ fd_RX12_20 hv_12_13 e35 dX12_pole_153 ?_
        refine lv_sipush (v := 162) hx hb dX12_pole_156 (by decide) ?_
        obtain ⟨x36, e37, hf⟩ := mb0 hf
        refine mx_aZ hx hb hK hJ e37 dX12_pole_159 ?_
        refine lv_if_ne (tgt := 174) hx hb dX12_pole_160 (by decide) (fun c38 => ?_) (fun c38 => ?_)
        · rw [if_neg c38] at hf
          exact D174 v0 v5 v6 v0 σ32 hf _ _ hJ ls (lv_sub hl [0, 5, 6] rfl)
        · rw [if_pos c38] at hf
          refine lv_aload_n hx hb dX12_pole_163 rfl (lv_at hl 0 rfl) ?_
          obtain ⟨b49, e50, hf⟩ := mb0 hf
          refine my_gR hx hb hts hown hK hJ fd_RX12_20 hv_12_13 e50 dX12_pole_164 ?_
          refine lv_sipush (v := 163) hx hb dX12_pole_167 (by decide) ?_
          obtain ⟨x51, e52, hf⟩ := mb0 hf
          refine mx_aZ hx hb hK hJ e52 dX12_pole_170 ?_
          refine lv_if_eq (tgt := 178) hx hb dX12_pole_171 (by decide) (fun c53 => ?_) (fun c53 => ?_)
          · rw [if_pos c53] at hf
            refine lv_iconst (v := 0) hx hb dX12_pole_178 (by decide) ?_
            exact D179 v0 v5 v6 (0 : Int32) v0 σ32 hf _ _ hJ ls (lv_sub hl [0, 5, 6] rfl)
          · rw [if_neg c53] at hf
            exact D174 v0 v5 v6 v0 σ32 hf _ _ hJ ls (lv_sub hl [0, 5, 6] rfl)
      · rw [if_neg c17] at hf
        refine lv_aload_n hx hb dX12_pole_79 rfl (lv_at hl 0 rfl) ?_
        refine lv_iconst (v := 3) hx hb dX12_pole_80 (by decide) ?_
        obtain ⟨σ54, e55, hf⟩ := mb0 hf
        refine my_pI hx hb hts hown hK hJ fd_RX12_243 cd_12 (Or.inl rfl) ht_12_0 e55 dX12_pole_81 (fun H locs hJ => ?_)
        refine lv_lconst (v := 0) hx hb dX12_pole_84 (by decide) ?_
        exact my_lret hx hb hr hlocks hJ hf dX12_pole_85
    · rw [if_neg c11] at hf
      refine lv_lconst (v := 0) hx hb dX12_pole_68 (by decide) ?_
      exact my_lret hx hb hr hlocks hJ hf dX12_pole_69
  have D32 : ∀ (v0 : Nat) (v1 : Int32) (v2 : Int32) (v3 : Int32) (v4 : Int32) (v5 : Int32) (v6 : Int32) (w0 : Nat) (τ : mx_S), f_X12_pole_D32 P v0 v1 v2 v3 v4 v5 v6 w0 τ = some (r, σ') → ∀ (H : Heap) (locs : List Loc), mx_J G P s.heap (mxz σ) (mxu σ) τ H locs → ∀ ls : Array Slot, lv_has ls 7 [(0, .ref v0), (1, .int v1), (2, .int v2), (3, .int v3), (4, .int v4), (5, .int v5), (6, .int v6)] → W p l e (mx_rm P 8 206 σ) s m ([.ref a0, .int p1, .int p2, .int p3, .int p4, .int p5, .int p6] : List Value).toArray below meth c H locs (mxz τ - mxz σ) (mxu τ - mxu σ) (mx_Z below G P (some (.long r)) σ σ' [.ref a0, .int p1, .int p2, .int p3, .int p4, .int p5, .int p6] s) (F0 m 32 ls [.ref w0]) := by
    intro v0 v1 v2 v3 v4 v5 v6 w0 τ hf _ _ hJ ls hl
    unfold f_X12_pole_D32 at hf
    refine lv_iconst (v := 1) hx hb dX12_pole_32 (by decide) ?_
    refine lv_goto (tgt := 58) hx hb dX12_pole_33 (by decide) ?_
    exact D58 v0 v1 v2 v3 v4 v5 v6 (1 : Int32) w0 τ hf _ _ hJ ls (lv_sub hl [0, 1, 2, 3, 4, 5, 6] rfl)
  have D57 : ∀ (v0 : Nat) (v1 : Int32) (v2 : Int32) (v3 : Int32) (v4 : Int32) (v5 : Int32) (v6 : Int32) (w0 : Nat) (τ : mx_S), f_X12_pole_D57 P v0 v1 v2 v3 v4 v5 v6 w0 τ = some (r, σ') → ∀ (H : Heap) (locs : List Loc), mx_J G P s.heap (mxz σ) (mxu σ) τ H locs → ∀ ls : Array Slot, lv_has ls 7 [(0, .ref v0), (1, .int v1), (2, .int v2), (3, .int v3), (4, .int v4), (5, .int v5), (6, .int v6)] → W p l e (mx_rm P 8 206 σ) s m ([.ref a0, .int p1, .int p2, .int p3, .int p4, .int p5, .int p6] : List Value).toArray below meth c H locs (mxz τ - mxz σ) (mxu τ - mxu σ) (mx_Z below G P (some (.long r)) σ σ' [.ref a0, .int p1, .int p2, .int p3, .int p4, .int p5, .int p6] s) (F0 m 57 ls [.ref w0]) := by
    intro v0 v1 v2 v3 v4 v5 v6 w0 τ hf _ _ hJ ls hl
    unfold f_X12_pole_D57 at hf
    refine lv_iconst (v := 2) hx hb dX12_pole_57 (by decide) ?_
    exact D58 v0 v1 v2 v3 v4 v5 v6 (2 : Int32) w0 τ hf _ _ hJ ls (lv_sub hl [0, 1, 2, 3, 4, 5, 6] rfl)
  unfold f_X12_pole at hf
  refine lv_aload_n hx hb dX12_pole_0 rfl (lv_at hl 0 rfl) ?_
  refine lv_aload_n hx hb dX12_pole_1 rfl (lv_at hl 0 rfl) ?_
  refine lv_iload_n hx hb dX12_pole_2 rfl (lv_at hl 1 rfl) ?_
  refine lv_iload_n hx hb dX12_pole_3 rfl (lv_at hl 2 rfl) ?_
  obtain ⟨i1, e2, hf⟩ := mb0 hf
  obtain ⟨x4, σ3, e5, hf⟩ := mc0 hf
  refine mx_callV (As := [.int p1, .int p2]) (rest := [.ref a0]) hx hb hml hts hown hK hJ rfl rfl (ci := 12) rfl e2 (c_X12_isWay l G P a0 p1 p2 σ x4 σ3 e5) me_X12_isWay kw_2510 ks_132 kw_2508 (Nat.le_of_ble_eq_true rfl) (Nat.le_of_ble_eq_true rfl) rfl hl.1 rfl (Nat.le_of_ble_eq_true rfl) dX12_pole_4 (fun H locs hJ => ?_)
  refine lv_if_eq (tgt := 32) hx hb dX12_pole_7 (by decide) (fun c6 => ?_) (fun c6 => ?_)
  · rw [if_pos c6] at hf
    exact D32 a0 p1 p2 p3 p4 p5 p6 a0 σ3 hf _ _ hJ ls (lv_sub hl [0, 1, 2, 3, 4, 5, 6] rfl)
  · rw [if_neg c6] at hf
    refine lv_iload hx hb dX12_pole_10 (lv_at hl 5 rfl) ?_
    refine lv_i2l hx hb dX12_pole_12 rfl ?_
    refine lv_lconst (v := 0) hx hb dX12_pole_13 (by decide) ?_
    refine lv_lconst (v := 1) hx hb dX12_pole_14 (by decide) ?_
    obtain ⟨x57, σ56, e58, hf⟩ := mc0 hf
    refine mx_callS (As := [.long (p5.toInt64), .long (0 : Int64), .long (1 : Int64)]) (rest := [.ref a0]) hx hb hml hts hown hK hJ rfl rfl (c_X12_in l G P (p5.toInt64) (0 : Int64) (1 : Int64) σ3 x57 σ56 e58) me_X12_in kw_2223 kw_2222 (Nat.le_of_ble_eq_true rfl) (Nat.le_of_ble_eq_true rfl) rfl hl.1 rfl (Nat.le_of_ble_eq_true rfl) dX12_pole_15 (fun H locs hJ => ?_)
    refine lv_if_eq (tgt := 32) hx hb dX12_pole_18 (by decide) (fun c59 => ?_) (fun c59 => ?_)
    · rw [if_pos c59] at hf
      exact D32 a0 p1 p2 p3 p4 p5 p6 a0 σ56 hf _ _ hJ ls (lv_sub hl [0, 1, 2, 3, 4, 5, 6] rfl)
    · rw [if_neg c59] at hf
      refine lv_iload hx hb dX12_pole_21 (lv_at hl 6 rfl) ?_
      refine lv_i2l hx hb dX12_pole_23 rfl ?_
      refine lv_lconst (v := 0) hx hb dX12_pole_24 (by decide) ?_
      refine lv_lconst (v := 1) hx hb dX12_pole_25 (by decide) ?_
      obtain ⟨x61, σ60, e62, hf⟩ := mc0 hf
      refine mx_callS (As := [.long (p6.toInt64), .long (0 : Int64), .long (1 : Int64)]) (rest := [.ref a0]) hx hb hml hts hown hK hJ rfl rfl (c_X12_in l G P (p6.toInt64) (0 : Int64) (1 : Int64) σ56 x61 σ60 e62) me_X12_in kw_2223 kw_2222 (Nat.le_of_ble_eq_true rfl) (Nat.le_of_ble_eq_true rfl) rfl hl.1 rfl (Nat.le_of_ble_eq_true rfl) dX12_pole_26 (fun H locs hJ => ?_)
      refine lv_if_ne (tgt := 36) hx hb dX12_pole_29 (by decide) (fun c63 => ?_) (fun c63 => ?_)
      · rw [if_neg c63] at hf
        refine lv_aload_n hx hb dX12_pole_36 rfl (lv_at hl 0 rfl) ?_
        refine lv_iload_n hx hb dX12_pole_37 rfl (lv_at hl 3 rfl) ?_
        obtain ⟨i64, e65, hf⟩ := mb0 hf
        obtain ⟨x67, σ66, e68, hf⟩ := mc0 hf
        refine mx_callV (As := [.int p3]) (rest := [.ref a0]) hx hb hml hts hown hK hJ rfl rfl (ci := 12) rfl e65 (c_X12_isPoint l G P a0 p3 σ60 x67 σ66 e68) me_X12_isPoint kw_2498 ks_130 kw_2496 (Nat.le_of_ble_eq_true rfl) (Nat.le_of_ble_eq_true rfl) rfl hl.1 rfl (Nat.le_of_ble_eq_true rfl) dX12_pole_38 (fun H locs hJ => ?_)
        refine lv_if_eq (tgt := 57) hx hb dX12_pole_41 (by decide) (fun c69 => ?_) (fun c69 => ?_)
        · rw [if_pos c69] at hf
          exact D57 a0 p1 p2 p3 p4 p5 p6 a0 σ66 hf _ _ hJ ls (lv_sub hl [0, 1, 2, 3, 4, 5, 6] rfl)
        · rw [if_neg c69] at hf
          refine lv_aload_n hx hb dX12_pole_44 rfl (lv_at hl 0 rfl) ?_
          refine lv_iload hx hb dX12_pole_45 (lv_at hl 4 rfl) ?_
          obtain ⟨i70, e71, hf⟩ := mb0 hf
          obtain ⟨x73, σ72, e74, hf⟩ := mc0 hf
          refine mx_callV (As := [.int p4]) (rest := [.ref a0]) hx hb hml hts hown hK hJ rfl rfl (ci := 12) rfl e71 (c_X12_isPoint l G P a0 p4 σ66 x73 σ72 e74) me_X12_isPoint kw_2498 ks_130 kw_2496 (Nat.le_of_ble_eq_true rfl) (Nat.le_of_ble_eq_true rfl) rfl hl.1 rfl (Nat.le_of_ble_eq_true rfl) dX12_pole_47 (fun H locs hJ => ?_)
          refine lv_if_eq (tgt := 57) hx hb dX12_pole_50 (by decide) (fun c75 => ?_) (fun c75 => ?_)
          · rw [if_pos c75] at hf
            exact D57 a0 p1 p2 p3 p4 p5 p6 a0 σ72 hf _ _ hJ ls (lv_sub hl [0, 1, 2, 3, 4, 5, 6] rfl)
          · rw [if_neg c75] at hf
            refine lv_iconst (v := 0) hx hb dX12_pole_53 (by decide) ?_
            refine lv_goto (tgt := 58) hx hb dX12_pole_54 (by decide) ?_
            exact D58 a0 p1 p2 p3 p4 p5 p6 (0 : Int32) a0 σ72 hf _ _ hJ ls (lv_sub hl [0, 1, 2, 3, 4, 5, 6] rfl)
      · rw [if_pos c63] at hf
        exact D32 a0 p1 p2 p3 p4 p5 p6 a0 σ60 hf _ _ hJ ls (lv_sub hl [0, 1, 2, 3, 4, 5, 6] rfl)
set_option maxHeartbeats 4000000 in
set_option maxRecDepth 100000 in
theorem c_X12_load (l : Launch) (G : mx_G) (P : mx_P) (a0 : Nat) (p1 : Int32) (p2 : Int32) (p3 : Int32) (σ : mx_S) (σ' : mx_S) (hf : f_X12_load P a0 p1 p2 p3 σ = some σ') : mxz σ ≤ mpc P → mxu σ ≤ mps P → mx_M l yX12_load cX12_load 4 none 1 25 G P [.ref a0, .int p1, .int p2, .int p3] σ none σ' := by
  intro hcap hcau
  refine mx_ofW (by decide +kernel) hcap hcau (Nat.le_of_ble_eq_true rfl) ?_
  intro p e s m below meth c hx hb hr hml hts hown hlocks hname hK hJ ls hl
  have hz0 := hJ.2.1
  have hown : s.vm.findClass RX12 = some m.cls := hown
  have hl : lv_has ls 4 [(0, .ref a0), (1, .int p1), (2, .int p2), (3, .int p3)] := hl
  have D46 : ∀ (v0 : Nat) (v1 : Int32) (v2 : Int32) (v3 : Int32) (w0 : Int32) (w1 : Nat) (τ : mx_S), f_X12_load_D46 P v0 v1 v2 v3 w0 w1 τ = some σ' → ∀ (H : Heap) (locs : List Loc), mx_J G P s.heap (mxz σ) (mxu σ) τ H locs → ∀ ls : Array Slot, lv_has ls 4 [(0, .ref v0), (1, .int v1), (2, .int v2), (3, .int v3)] → W p l e (mx_rm P 1 25 σ) s m ([.ref a0, .int p1, .int p2, .int p3] : List Value).toArray below meth c H locs (mxz τ - mxz σ) (mxu τ - mxu σ) (mx_Z below G P none σ σ' [.ref a0, .int p1, .int p2, .int p3] s) (F0 m 46 ls [.int w0, .ref w1]) := by
    intro v0 v1 v2 v3 w0 w1 τ hf _ _ hJ ls hl
    unfold f_X12_load_D46 at hf
    obtain ⟨σ5, e6, hf⟩ := mb0 hf
    refine my_pI hx hb hts hown hK hJ fd_RX12_243 cd_12 (Or.inl rfl) ht_12_0 e6 dX12_load_46 (fun H locs hJ => ?_)
    refine lv_aload_n hx hb dX12_load_49 rfl (lv_at hl 0 rfl) ?_
    obtain ⟨x7, e8, hf⟩ := mb0 hf
    refine my_gI hx hb hts hown hK hJ fd_RX12_243 hv_12_0 e8 dX12_load_50 ?_
    refine lv_if_le (tgt := 57) hx hb dX12_load_53 (by decide) (fun c9 => ?_) (fun c9 => ?_)
    · rw [if_pos c9] at hf
      refine lv_aload_n hx hb dX12_load_57 rfl (lv_at hl 0 rfl) ?_
      obtain ⟨b10, e11, hf⟩ := mb0 hf
      refine my_gR hx hb hts hown hK hJ fd_RX12_66 hv_12_35 e11 dX12_load_58 ?_
      refine lv_iload_n hx hb dX12_load_61 rfl (lv_at hl 1 rfl) ?_
      refine lv_iload_n hx hb dX12_load_62 rfl (lv_at hl 2 rfl) ?_
      obtain ⟨σ12, e13, hf⟩ := mb0 hf
      refine mx_sI hx hb hK hJ e13 dX12_load_63 (fun H locs hJ => ?_)
      refine lv_aload_n hx hb dX12_load_64 rfl (lv_at hl 0 rfl) ?_
      obtain ⟨b14, e15, hf⟩ := mb0 hf
      refine my_gR hx hb hts hown hK hJ fd_RX12_69 hv_12_36 e15 dX12_load_65 ?_
      refine lv_iload_n hx hb dX12_load_68 rfl (lv_at hl 1 rfl) ?_
      refine lv_iload_n hx hb dX12_load_69 rfl (lv_at hl 3 rfl) ?_
      obtain ⟨σ16, e17, hf⟩ := mb0 hf
      refine mx_sI hx hb hK hJ e17 dX12_load_70 (fun H locs hJ => ?_)
      exact my_vret hx hb hr hlocks hJ hf dX12_load_71
    · rw [if_neg c9] at hf
      exact my_vret hx hb hr hlocks hJ hf dX12_load_56
  have D29 : ∀ (v0 : Nat) (v1 : Int32) (v2 : Int32) (v3 : Int32) (w0 : Nat) (τ : mx_S), f_X12_load_D29 P v0 v1 v2 v3 w0 τ = some σ' → ∀ (H : Heap) (locs : List Loc), mx_J G P s.heap (mxz σ) (mxu σ) τ H locs → ∀ ls : Array Slot, lv_has ls 4 [(0, .ref v0), (1, .int v1), (2, .int v2), (3, .int v3)] → W p l e (mx_rm P 1 25 σ) s m ([.ref a0, .int p1, .int p2, .int p3] : List Value).toArray below meth c H locs (mxz τ - mxz σ) (mxu τ - mxu σ) (mx_Z below G P none σ σ' [.ref a0, .int p1, .int p2, .int p3] s) (F0 m 29 ls [.ref w0]) := by
    intro v0 v1 v2 v3 w0 τ hf _ _ hJ ls hl
    unfold f_X12_load_D29 at hf
    refine lv_iconst (v := 1) hx hb dX12_load_29 (by decide) ?_
    refine lv_goto (tgt := 46) hx hb dX12_load_30 (by decide) ?_
    exact D46 v0 v1 v2 v3 (1 : Int32) w0 τ hf _ _ hJ ls (lv_sub hl [0, 1, 2, 3] rfl)
  unfold f_X12_load at hf
  refine lv_aload_n hx hb dX12_load_0 rfl (lv_at hl 0 rfl) ?_
  refine lv_iload_n hx hb dX12_load_1 rfl (lv_at hl 2 rfl) ?_
  refine lv_i2l hx hb dX12_load_2 rfl ?_
  refine lv_ldc2 hx hb hown (hts _ kw_2573) dX12_load_3 ?_
  refine lv_ldc2 hx hb hown (hts _ kw_2574) dX12_load_6 ?_
  obtain ⟨x2, σ1, e3, hf⟩ := mc0 hf
  refine mx_callS (As := [.long (p2.toInt64), .long (-1000 : Int64), .long (1000 : Int64)]) (rest := [.ref a0]) hx hb hml hts hown hK hJ rfl rfl (c_X12_in l G P (p2.toInt64) (-1000 : Int64) (1000 : Int64) σ x2 σ1 e3) me_X12_in kw_2223 kw_2222 (Nat.le_of_ble_eq_true rfl) (Nat.le_of_ble_eq_true rfl) rfl hl.1 rfl (Nat.le_of_ble_eq_true rfl) dX12_load_9 (fun H locs hJ => ?_)
  refine lv_if_eq (tgt := 29) hx hb dX12_load_12 (by decide) (fun c4 => ?_) (fun c4 => ?_)
  · rw [if_pos c4] at hf
    exact D29 a0 p1 p2 p3 a0 σ1 hf _ _ hJ ls (lv_sub hl [0, 1, 2, 3] rfl)
  · rw [if_neg c4] at hf
    refine lv_iload_n hx hb dX12_load_15 rfl (lv_at hl 3 rfl) ?_
    refine lv_i2l hx hb dX12_load_16 rfl ?_
    refine lv_ldc2 hx hb hown (hts _ kw_2573) dX12_load_17 ?_
    refine lv_ldc2 hx hb hown (hts _ kw_2574) dX12_load_20 ?_
    obtain ⟨x19, σ18, e20, hf⟩ := mc0 hf
    refine mx_callS (As := [.long (p3.toInt64), .long (-1000 : Int64), .long (1000 : Int64)]) (rest := [.ref a0]) hx hb hml hts hown hK hJ rfl rfl (c_X12_in l G P (p3.toInt64) (-1000 : Int64) (1000 : Int64) σ1 x19 σ18 e20) me_X12_in kw_2223 kw_2222 (Nat.le_of_ble_eq_true rfl) (Nat.le_of_ble_eq_true rfl) rfl hl.1 rfl (Nat.le_of_ble_eq_true rfl) dX12_load_23 (fun H locs hJ => ?_)
    refine lv_if_ne (tgt := 33) hx hb dX12_load_26 (by decide) (fun c21 => ?_) (fun c21 => ?_)
    · rw [if_neg c21] at hf
      refine lv_aload_n hx hb dX12_load_33 rfl (lv_at hl 0 rfl) ?_
      refine lv_iload_n hx hb dX12_load_34 rfl (lv_at hl 1 rfl) ?_
      obtain ⟨i22, e23, hf⟩ := mb0 hf
      obtain ⟨x25, σ24, e26, hf⟩ := mc0 hf
      refine mx_callV (As := [.int p1]) (rest := [.ref a0]) hx hb hml hts hown hK hJ rfl rfl (ci := 12) rfl e23 (c_X12_isPoint l G P a0 p1 σ18 x25 σ24 e26) me_X12_isPoint kw_2498 ks_130 kw_2496 (Nat.le_of_ble_eq_true rfl) (Nat.le_of_ble_eq_true rfl) rfl hl.1 rfl (Nat.le_of_ble_eq_true rfl) dX12_load_35 (fun H locs hJ => ?_)
      refine lv_if_eq (tgt := 45) hx hb dX12_load_38 (by decide) (fun c27 => ?_) (fun c27 => ?_)
      · rw [if_pos c27] at hf
        refine lv_iconst (v := 2) hx hb dX12_load_45 (by decide) ?_
        exact D46 a0 p1 p2 p3 (2 : Int32) a0 σ24 hf _ _ hJ ls (lv_sub hl [0, 1, 2, 3] rfl)
      · rw [if_neg c27] at hf
        refine lv_iconst (v := 0) hx hb dX12_load_41 (by decide) ?_
        refine lv_goto (tgt := 46) hx hb dX12_load_42 (by decide) ?_
        exact D46 a0 p1 p2 p3 (0 : Int32) a0 σ24 hf _ _ hJ ls (lv_sub hl [0, 1, 2, 3] rfl)
    · rw [if_pos c21] at hf
      exact D29 a0 p1 p2 p3 a0 σ18 hf _ _ hJ ls (lv_sub hl [0, 1, 2, 3] rfl)
set_option maxHeartbeats 4000000 in
set_option maxRecDepth 100000 in
theorem c_X12_mass (l : Launch) (G : mx_G) (P : mx_P) (a0 : Nat) (p1 : Int32) (p2 : Int32) (σ : mx_S) (σ' : mx_S) (hf : f_X12_mass P a0 p1 p2 σ = some σ') : mxz σ ≤ mpc P → mxu σ ≤ mps P → mx_M l yX12_mass cX12_mass 3 none 1 25 G P [.ref a0, .int p1, .int p2] σ none σ' := by
  intro hcap hcau
  refine mx_ofW (by decide +kernel) hcap hcau (Nat.le_of_ble_eq_true rfl) ?_
  intro p e s m below meth c hx hb hr hml hts hown hlocks hname hK hJ ls hl
  have hz0 := hJ.2.1
  have hown : s.vm.findClass RX12 = some m.cls := hown
  have hl : lv_has ls 3 [(0, .ref a0), (1, .int p1), (2, .int p2)] := hl
  have D47 : ∀  (τ : mx_S), f_X12_mass_D47 P  τ = some σ' → ∀ (H : Heap) (locs : List Loc), mx_J G P s.heap (mxz σ) (mxu σ) τ H locs → ∀ ls : Array Slot, lv_has ls 3 [] → W p l e (mx_rm P 1 25 σ) s m ([.ref a0, .int p1, .int p2] : List Value).toArray below meth c H locs (mxz τ - mxz σ) (mxu τ - mxu σ) (mx_Z below G P none σ σ' [.ref a0, .int p1, .int p2] s) (F0 m 47 ls []) := by
    intro  τ hf _ _ hJ ls hl
    unfold f_X12_mass_D47 at hf
    exact my_vret hx hb hr hlocks hJ hf dX12_mass_47
  have D30 : ∀ (v0 : Nat) (v1 : Int32) (v2 : Int32) (w0 : Int32) (w1 : Nat) (τ : mx_S), f_X12_mass_D30 P v0 v1 v2 w0 w1 τ = some σ' → ∀ (H : Heap) (locs : List Loc), mx_J G P s.heap (mxz σ) (mxu σ) τ H locs → ∀ ls : Array Slot, lv_has ls 3 [(0, .ref v0), (1, .int v1), (2, .int v2)] → W p l e (mx_rm P 1 25 σ) s m ([.ref a0, .int p1, .int p2] : List Value).toArray below meth c H locs (mxz τ - mxz σ) (mxu τ - mxu σ) (mx_Z below G P none σ σ' [.ref a0, .int p1, .int p2] s) (F0 m 30 ls [.int w0, .ref w1]) := by
    intro v0 v1 v2 w0 w1 τ hf _ _ hJ ls hl
    unfold f_X12_mass_D30 at hf
    obtain ⟨σ11, e12, hf⟩ := mb0 hf
    refine my_pI hx hb hts hown hK hJ fd_RX12_243 cd_12 (Or.inl rfl) ht_12_0 e12 dX12_mass_30 (fun H locs hJ => ?_)
    refine lv_aload_n hx hb dX12_mass_33 rfl (lv_at hl 0 rfl) ?_
    obtain ⟨x13, e14, hf⟩ := mb0 hf
    refine my_gI hx hb hts hown hK hJ fd_RX12_243 hv_12_0 e14 dX12_mass_34 ?_
    refine lv_if_ne (tgt := 47) hx hb dX12_mass_37 (by decide) (fun c15 => ?_) (fun c15 => ?_)
    · rw [if_neg c15] at hf
      exact D47  σ11 hf _ _ hJ ls (lv_sub hl [] rfl)
    · rw [if_pos c15] at hf
      refine lv_aload_n hx hb dX12_mass_40 rfl (lv_at hl 0 rfl) ?_
      obtain ⟨b16, e17, hf⟩ := mb0 hf
      refine my_gR hx hb hts hown hK hJ fd_RX12_72 hv_12_37 e17 dX12_mass_41 ?_
      refine lv_iload_n hx hb dX12_mass_44 rfl (lv_at hl 1 rfl) ?_
      refine lv_iload_n hx hb dX12_mass_45 rfl (lv_at hl 2 rfl) ?_
      obtain ⟨σ18, e19, hf⟩ := mb0 hf
      refine mx_sI hx hb hK hJ e19 dX12_mass_46 (fun H locs hJ => ?_)
      exact D47  σ18 hf _ _ hJ ls (lv_sub hl [] rfl)
  unfold f_X12_mass at hf
  refine lv_aload_n hx hb dX12_mass_0 rfl (lv_at hl 0 rfl) ?_
  refine lv_iload_n hx hb dX12_mass_1 rfl (lv_at hl 2 rfl) ?_
  refine lv_i2l hx hb dX12_mass_2 rfl ?_
  refine lv_lconst (v := 0) hx hb dX12_mass_3 (by decide) ?_
  refine lv_ldc2 hx hb hown (hts _ kw_2574) dX12_mass_4 ?_
  obtain ⟨x2, σ1, e3, hf⟩ := mc0 hf
  refine mx_callS (As := [.long (p2.toInt64), .long (0 : Int64), .long (1000 : Int64)]) (rest := [.ref a0]) hx hb hml hts hown hK hJ rfl rfl (c_X12_in l G P (p2.toInt64) (0 : Int64) (1000 : Int64) σ x2 σ1 e3) me_X12_in kw_2223 kw_2222 (Nat.le_of_ble_eq_true rfl) (Nat.le_of_ble_eq_true rfl) rfl hl.1 rfl (Nat.le_of_ble_eq_true rfl) dX12_mass_7 (fun H locs hJ => ?_)
  refine lv_if_ne (tgt := 17) hx hb dX12_mass_10 (by decide) (fun c4 => ?_) (fun c4 => ?_)
  · rw [if_neg c4] at hf
    refine lv_aload_n hx hb dX12_mass_17 rfl (lv_at hl 0 rfl) ?_
    refine lv_iload_n hx hb dX12_mass_18 rfl (lv_at hl 1 rfl) ?_
    obtain ⟨i5, e6, hf⟩ := mb0 hf
    obtain ⟨x8, σ7, e9, hf⟩ := mc0 hf
    refine mx_callV (As := [.int p1]) (rest := [.ref a0]) hx hb hml hts hown hK hJ rfl rfl (ci := 12) rfl e6 (c_X12_isPoint l G P a0 p1 σ1 x8 σ7 e9) me_X12_isPoint kw_2498 ks_130 kw_2496 (Nat.le_of_ble_eq_true rfl) (Nat.le_of_ble_eq_true rfl) rfl hl.1 rfl (Nat.le_of_ble_eq_true rfl) dX12_mass_19 (fun H locs hJ => ?_)
    refine lv_if_eq (tgt := 29) hx hb dX12_mass_22 (by decide) (fun c10 => ?_) (fun c10 => ?_)
    · rw [if_pos c10] at hf
      refine lv_iconst (v := 2) hx hb dX12_mass_29 (by decide) ?_
      exact D30 a0 p1 p2 (2 : Int32) a0 σ7 hf _ _ hJ ls (lv_sub hl [0, 1, 2] rfl)
    · rw [if_neg c10] at hf
      refine lv_iconst (v := 0) hx hb dX12_mass_25 (by decide) ?_
      refine lv_goto (tgt := 30) hx hb dX12_mass_26 (by decide) ?_
      exact D30 a0 p1 p2 (0 : Int32) a0 σ7 hf _ _ hJ ls (lv_sub hl [0, 1, 2] rfl)
  · rw [if_pos c4] at hf
    refine lv_iconst (v := 1) hx hb dX12_mass_13 (by decide) ?_
    refine lv_goto (tgt := 30) hx hb dX12_mass_14 (by decide) ?_
    exact D30 a0 p1 p2 (1 : Int32) a0 σ1 hf _ _ hJ ls (lv_sub hl [0, 1, 2] rfl)
set_option maxHeartbeats 4000000 in
set_option maxRecDepth 100000 in
theorem c_X12_moment (l : Launch) (G : mx_G) (P : mx_P) (a0 : Nat) (p1 : Int32) (p2 : Int32) (p3 : Int32) (σ : mx_S) (r : Int64) (σ' : mx_S) (hf : f_X12_moment P a0 p1 p2 p3 σ = some (r, σ')) : mxz σ ≤ mpc P → mxu σ ≤ mps P → mx_M l yX12_moment cX12_moment 5 (some .long) 8 206 G P [.ref a0, .int p1, .int p2, .int p3] σ (some (.long r)) σ' := by
  intro hcap hcau
  refine mx_ofW (by decide +kernel) hcap hcau (Nat.le_of_ble_eq_true rfl) ?_
  intro p e s m below meth c hx hb hr hml hts hown hlocks hname hK hJ ls hl
  have hz0 := hJ.2.1
  have hown : s.vm.findClass RX12 = some m.cls := hown
  have hl : lv_has ls 5 [(0, .ref a0), (1, .int p1), (2, .int p2), (3, .int p3)] := hl
  have D172_68 : ∀ (v0 : Nat) (v3 : Int32) (v4 : Int32) (τ : mx_S) (o : (Int32 × mx_S) ⊕ ((mx_S))), f_X12_moment_D172_68 P v0 v3 v4 τ = some o → (∀ (y4 : Int32) (υ : mx_S), o = .inl (y4, υ) → ∀ (H : Heap) (locs : List Loc), mx_J G P s.heap (mxz σ) (mxu σ) υ H locs → ∀ ls : Array Slot, lv_has ls 5 [(0, .ref v0), (3, .int v3), (4, .int y4)] → W p l e (mx_rm P 8 206 σ) s m ([.ref a0, .int p1, .int p2, .int p3] : List Value).toArray below meth c H locs (mxz υ - mxz σ) (mxu υ - mxu σ) (mx_Z below G P (some (.long r)) σ σ' [.ref a0, .int p1, .int p2, .int p3] s) (F0 m 68 ls [])) → (∀  (υ : mx_S), o = .inr υ → ∀ (H : Heap) (locs : List Loc), mx_J G P s.heap (mxz σ) (mxu σ) υ H locs → ∀ ls : Array Slot, lv_has ls 5 [(0, .ref v0), (3, .int v3)] → W p l e (mx_rm P 8 206 σ) s m ([.ref a0, .int p1, .int p2, .int p3] : List Value).toArray below meth c H locs (mxz υ - mxz σ) (mxu υ - mxu σ) (mx_Z below G P (some (.long r)) σ σ' [.ref a0, .int p1, .int p2, .int p3] s) (F0 m 178 ls [])) → ∀ (H : Heap) (locs : List Loc), mx_J G P s.heap (mxz σ) (mxu σ) τ H locs → ∀ ls : Array Slot, lv_has ls 5 [(0, .ref v0), (3, .int v3), (4, .int v4)] → W p l e (mx_rm P 8 206 σ) s m ([.ref a0, .int p1, .int p2, .int p3] : List Value).toArray below meth c H locs (mxz τ - mxz σ) (mxu τ - mxu σ) (mx_Z below G P (some (.long r)) σ σ' [.ref a0, .int p1, .int p2, .int p3] s) (F0 m 172 ls []) := by
    intro v0 v3 v4 τ o hf Kb Ke0 H locs hJ ls hl
    unfold f_X12_moment_D172_68 at hf
    obtain ⟨x52, e53, hf⟩ := mb0 hf
    refine lv_iinc (v := x52) (lv' := [(4, .int x52), (0, .ref v0), (3, .int v3)]) hx hb dX12_moment_172 hl (k := 2) rfl (by rw [← Option.some.inj e53]; rfl) (by decide) rfl (fun ls hl => ?_)
    refine lv_goto (tgt := 68) hx hb dX12_moment_175 (by decide) ?_
    exact Kb x52 τ (Option.some.inj hf).symm _ _ hJ ls (lv_sub hl [1, 2, 0] rfl)
  have D100_68 : ∀ (v0 : Nat) (v3 : Int32) (v4 : Int32) (τ : mx_S) (o : (Int32 × mx_S) ⊕ ((mx_S))), f_X12_moment_D100_68 P v0 v3 v4 τ = some o → (∀ (y4 : Int32) (υ : mx_S), o = .inl (y4, υ) → ∀ (H : Heap) (locs : List Loc), mx_J G P s.heap (mxz σ) (mxu σ) υ H locs → ∀ ls : Array Slot, lv_has ls 5 [(0, .ref v0), (3, .int v3), (4, .int y4)] → W p l e (mx_rm P 8 206 σ) s m ([.ref a0, .int p1, .int p2, .int p3] : List Value).toArray below meth c H locs (mxz υ - mxz σ) (mxu υ - mxu σ) (mx_Z below G P (some (.long r)) σ σ' [.ref a0, .int p1, .int p2, .int p3] s) (F0 m 68 ls [])) → (∀  (υ : mx_S), o = .inr υ → ∀ (H : Heap) (locs : List Loc), mx_J G P s.heap (mxz σ) (mxu σ) υ H locs → ∀ ls : Array Slot, lv_has ls 5 [(0, .ref v0), (3, .int v3)] → W p l e (mx_rm P 8 206 σ) s m ([.ref a0, .int p1, .int p2, .int p3] : List Value).toArray below meth c H locs (mxz υ - mxz σ) (mxu υ - mxu σ) (mx_Z below G P (some (.long r)) σ σ' [.ref a0, .int p1, .int p2, .int p3] s) (F0 m 178 ls [])) → ∀ (H : Heap) (locs : List Loc), mx_J G P s.heap (mxz σ) (mxu σ) τ H locs → ∀ ls : Array Slot, lv_has ls 5 [(0, .ref v0), (3, .int v3), (4, .int v4)] → W p l e (mx_rm P 8 206 σ) s m ([.ref a0, .int p1, .int p2, .int p3] : List Value).toArray below meth c H locs (mxz τ - mxz σ) (mxu τ - mxu σ) (mx_Z below G P (some (.long r)) σ σ' [.ref a0, .int p1, .int p2, .int p3] s) (F0 m 100 ls []) := by
    intro v0 v3 v4 τ o hf Kb Ke0 H locs hJ ls hl
    unfold f_X12_moment_D100_68 at hf
    refine lv_aload_n hx hb dX12_moment_100 rfl (lv_at hl 0 rfl) ?_
    refine lv_sipush (v := 201) hx hb dX12_moment_101 (by decide) ?_
    refine lv_aload_n hx hb dX12_moment_104 rfl (lv_at hl 0 rfl) ?_
    obtain ⟨b28, e29, hf⟩ := mb0 hf
    refine my_gR hx hb hts hown hK hJ fd_RX12_66 hv_12_35 e29 dX12_moment_105 ?_
    refine lv_iload hx hb dX12_moment_108 (lv_at hl 2 rfl) ?_
    obtain ⟨x30, e31, hf⟩ := mb0 hf
    refine mx_aI hx hb hK hJ e31 dX12_moment_110 ?_
    refine lv_i2l hx hb dX12_moment_111 rfl ?_
    refine lv_bipush (v := 80) hx hb dX12_moment_112 (by decide) ?_
    refine lv_iconst (v := 2) hx hb dX12_moment_114 (by decide) ?_
    refine lv_iload hx hb dX12_moment_115 (lv_at hl 2 rfl) ?_
    refine lv_imul hx hb dX12_moment_117 ?_
    refine lv_iadd hx hb dX12_moment_118 ?_
    obtain ⟨i32, e33, hf⟩ := mb0 hf
    obtain ⟨σ34, e35, hf⟩ := mb0 hf
    refine mx_callV (As := [.int (201 : Int32), .long (x30.toInt64), .int ((80 : Int32) + ((2 : Int32) * v4))]) (rest := []) hx hb hml hts hown hK hJ rfl rfl (ci := 12) rfl e33 (c_X12_whole l G P v0 (201 : Int32) (x30.toInt64) ((80 : Int32) + ((2 : Int32) * v4)) τ σ34 e35) me_X12_whole kw_2585 ks_142 kw_2583 (Nat.le_of_ble_eq_true rfl) (Nat.le_of_ble_eq_true rfl) rfl hl.1 rfl (Nat.le_of_ble_eq_true rfl) dX12_moment_119 (fun H locs hJ => ?_)
    refine lv_aload_n hx hb dX12_moment_122 rfl (lv_at hl 0 rfl) ?_
    refine lv_sipush (v := 202) hx hb dX12_moment_123 (by decide) ?_
    refine lv_aload_n hx hb dX12_moment_126 rfl (lv_at hl 0 rfl) ?_
    obtain ⟨b36, e37, hf⟩ := mb0 hf
    refine my_gR hx hb hts hown hK hJ fd_RX12_69 hv_12_36 e37 dX12_moment_127 ?_
    refine lv_iload hx hb dX12_moment_130 (lv_at hl 2 rfl) ?_
    obtain ⟨x38, e39, hf⟩ := mb0 hf
    refine mx_aI hx hb hK hJ e39 dX12_moment_132 ?_
    refine lv_i2l hx hb dX12_moment_133 rfl ?_
    refine lv_bipush (v := 80) hx hb dX12_moment_134 (by decide) ?_
    refine lv_iconst (v := 2) hx hb dX12_moment_136 (by decide) ?_
    refine lv_iload hx hb dX12_moment_137 (lv_at hl 2 rfl) ?_
    refine lv_imul hx hb dX12_moment_139 ?_
    refine lv_iadd hx hb dX12_moment_140 ?_
    refine lv_iconst (v := 1) hx hb dX12_moment_141 (by decide) ?_
    refine lv_iadd hx hb dX12_moment_142 ?_
    obtain ⟨i40, e41, hf⟩ := mb0 hf
    obtain ⟨σ42, e43, hf⟩ := mb0 hf
    refine mx_callV (As := [.int (202 : Int32), .long (x38.toInt64), .int (((80 : Int32) + ((2 : Int32) * v4)) + (1 : Int32))]) (rest := []) hx hb hml hts hown hK hJ rfl rfl (ci := 12) rfl e41 (c_X12_whole l G P v0 (202 : Int32) (x38.toInt64) (((80 : Int32) + ((2 : Int32) * v4)) + (1 : Int32)) σ34 σ42 e43) me_X12_whole kw_2585 ks_142 kw_2583 (Nat.le_of_ble_eq_true rfl) (Nat.le_of_ble_eq_true rfl) rfl hl.1 rfl (Nat.le_of_ble_eq_true rfl) dX12_moment_143 (fun H locs hJ => ?_)
    refine lv_aload_n hx hb dX12_moment_146 rfl (lv_at hl 0 rfl) ?_
    refine lv_sipush (v := 201) hx hb dX12_moment_147 (by decide) ?_
    refine lv_sipush (v := 201) hx hb dX12_moment_150 (by decide) ?_
    refine lv_sipush (v := 202) hx hb dX12_moment_153 (by decide) ?_
    obtain ⟨i44, e45, hf⟩ := mb0 hf
    obtain ⟨σ46, e47, hf⟩ := mb0 hf
    refine mx_callV (As := [.int (201 : Int32), .int (201 : Int32), .int (202 : Int32)]) (rest := []) hx hb hml hts hown hK hJ rfl rfl (ci := 12) rfl e45 (c_X12_add l G P v0 (201 : Int32) (201 : Int32) (202 : Int32) σ42 σ46 e47) me_X12_add kw_2421 ks_114 kw_2419 (Nat.le_of_ble_eq_true rfl) (Nat.le_of_ble_eq_true rfl) rfl hl.1 rfl (Nat.le_of_ble_eq_true rfl) dX12_moment_156 (fun H locs hJ => ?_)
    refine lv_aload_n hx hb dX12_moment_159 rfl (lv_at hl 0 rfl) ?_
    refine lv_sipush (v := 200) hx hb dX12_moment_160 (by decide) ?_
    refine lv_sipush (v := 200) hx hb dX12_moment_163 (by decide) ?_
    refine lv_sipush (v := 201) hx hb dX12_moment_166 (by decide) ?_
    obtain ⟨i48, e49, hf⟩ := mb0 hf
    obtain ⟨σ50, e51, hf⟩ := mb0 hf
    refine mx_callV (As := [.int (200 : Int32), .int (200 : Int32), .int (201 : Int32)]) (rest := []) hx hb hml hts hown hK hJ rfl rfl (ci := 12) rfl e49 (c_X12_add l G P v0 (200 : Int32) (200 : Int32) (201 : Int32) σ46 σ50 e51) me_X12_add kw_2421 ks_114 kw_2419 (Nat.le_of_ble_eq_true rfl) (Nat.le_of_ble_eq_true rfl) rfl hl.1 rfl (Nat.le_of_ble_eq_true rfl) dX12_moment_169 (fun H locs hJ => ?_)
    exact D172_68 v0 v3 v4 σ50 o hf Kb Ke0 _ _ hJ ls (lv_sub hl [0, 1, 2] rfl)
  have B68 : ∀ (v0 : Nat) (v3 : Int32) (v4 : Int32) (τ : mx_S) (o : (Int32 × mx_S) ⊕ ((mx_S))), f_X12_moment_B68 P v0 v3 v4 τ = some o → (∀ (y4 : Int32) (υ : mx_S), o = .inl (y4, υ) → ∀ (H : Heap) (locs : List Loc), mx_J G P s.heap (mxz σ) (mxu σ) υ H locs → ∀ ls : Array Slot, lv_has ls 5 [(0, .ref v0), (3, .int v3), (4, .int y4)] → W p l e (mx_rm P 8 206 σ) s m ([.ref a0, .int p1, .int p2, .int p3] : List Value).toArray below meth c H locs (mxz υ - mxz σ) (mxu υ - mxu σ) (mx_Z below G P (some (.long r)) σ σ' [.ref a0, .int p1, .int p2, .int p3] s) (F0 m 68 ls [])) → (∀  (υ : mx_S), o = .inr υ → ∀ (H : Heap) (locs : List Loc), mx_J G P s.heap (mxz σ) (mxu σ) υ H locs → ∀ ls : Array Slot, lv_has ls 5 [(0, .ref v0), (3, .int v3)] → W p l e (mx_rm P 8 206 σ) s m ([.ref a0, .int p1, .int p2, .int p3] : List Value).toArray below meth c H locs (mxz υ - mxz σ) (mxu υ - mxu σ) (mx_Z below G P (some (.long r)) σ σ' [.ref a0, .int p1, .int p2, .int p3] s) (F0 m 178 ls [])) → ∀ (H : Heap) (locs : List Loc), mx_J G P s.heap (mxz σ) (mxu σ) τ H locs → ∀ ls : Array Slot, lv_has ls 5 [(0, .ref v0), (3, .int v3), (4, .int v4)] → W p l e (mx_rm P 8 206 σ) s m ([.ref a0, .int p1, .int p2, .int p3] : List Value).toArray below meth c H locs (mxz τ - mxz σ) (mxu τ - mxu σ) (mx_Z below G P (some (.long r)) σ σ' [.ref a0, .int p1, .int p2, .int p3] s) (F0 m 68 ls []) := by
    intro v0 v3 v4 τ o hf Kb Ke0 H locs hJ ls hl
    unfold f_X12_moment_B68 at hf
    refine lv_iload hx hb dX12_moment_68 (lv_at hl 2 rfl) ?_
    refine lv_aload_n hx hb dX12_moment_70 rfl (lv_at hl 0 rfl) ?_
    obtain ⟨x20, e21, hf⟩ := mb0 hf
    refine my_gI hx hb hts hown hK hJ fd_RX12_460 hv_12_19 e21 dX12_moment_71 ?_
    refine lv_icmp_ge (tgt := 178) hx hb dX12_moment_74 (by decide) (fun c22 => ?_) (fun c22 => ?_)
    · rw [if_pos c22] at hf
      exact Ke0 τ (Option.some.inj hf).symm _ _ hJ ls (lv_sub hl [0, 1] rfl)
    · rw [if_neg c22] at hf
      refine lv_aload_n hx hb dX12_moment_77 rfl (lv_at hl 0 rfl) ?_
      obtain ⟨b23, e24, hf⟩ := mb0 hf
      refine my_gR hx hb hts hown hK hJ fd_RX12_66 hv_12_35 e24 dX12_moment_78 ?_
      refine lv_iload hx hb dX12_moment_81 (lv_at hl 2 rfl) ?_
      obtain ⟨x25, e26, hf⟩ := mb0 hf
      refine mx_aI hx hb hK hJ e26 dX12_moment_83 ?_
      refine lv_if_ne (tgt := 100) hx hb dX12_moment_84 (by decide) (fun c27 => ?_) (fun c27 => ?_)
      · rw [if_neg c27] at hf
        exact D100_68 v0 v3 v4 τ o hf Kb Ke0 _ _ hJ ls (lv_sub hl [0, 1, 2] rfl)
      · rw [if_pos c27] at hf
        refine lv_aload_n hx hb dX12_moment_87 rfl (lv_at hl 0 rfl) ?_
        obtain ⟨b54, e55, hf⟩ := mb0 hf
        refine my_gR hx hb hts hown hK hJ fd_RX12_69 hv_12_36 e55 dX12_moment_88 ?_
        refine lv_iload hx hb dX12_moment_91 (lv_at hl 2 rfl) ?_
        obtain ⟨x56, e57, hf⟩ := mb0 hf
        refine mx_aI hx hb hK hJ e57 dX12_moment_93 ?_
        refine lv_if_ne (tgt := 100) hx hb dX12_moment_94 (by decide) (fun c58 => ?_) (fun c58 => ?_)
        · rw [if_neg c58] at hf
          exact D100_68 v0 v3 v4 τ o hf Kb Ke0 _ _ hJ ls (lv_sub hl [0, 1, 2] rfl)
        · rw [if_pos c58] at hf
          refine lv_goto (tgt := 172) hx hb dX12_moment_97 (by decide) ?_
          exact D172_68 v0 v3 v4 τ o hf Kb Ke0 _ _ hJ ls (lv_sub hl [0, 1, 2] rfl)
  have L68 : ∀ (v0 : Nat) (v3 : Int32) (n : Nat) (v4 : Int32) (τ : mx_S) (o : (mx_S)), mx_lp (f_X12_moment_L68 P v0 v3) n (v4, τ) = some o → (∀  (υ : mx_S), o = υ → ∀ (H : Heap) (locs : List Loc), mx_J G P s.heap (mxz σ) (mxu σ) υ H locs → ∀ ls : Array Slot, lv_has ls 5 [(0, .ref v0), (3, .int v3)] → W p l e (mx_rm P 8 206 σ) s m ([.ref a0, .int p1, .int p2, .int p3] : List Value).toArray below meth c H locs (mxz υ - mxz σ) (mxu υ - mxu σ) (mx_Z below G P (some (.long r)) σ σ' [.ref a0, .int p1, .int p2, .int p3] s) (F0 m 178 ls [])) → ∀ (H : Heap) (locs : List Loc), mx_J G P s.heap (mxz σ) (mxu σ) τ H locs → ∀ ls : Array Slot, lv_has ls 5 [(0, .ref v0), (3, .int v3), (4, .int v4)] → W p l e (mx_rm P 8 206 σ) s m ([.ref a0, .int p1, .int p2, .int p3] : List Value).toArray below meth c H locs (mxz τ - mxz σ) (mxu τ - mxu σ) (mx_Z below G P (some (.long r)) σ σ' [.ref a0, .int p1, .int p2, .int p3] s) (F0 m 68 ls []) := by
    intro v0 v3 n
    induction n with
    | zero =>
      intro v4 τ o hf
      rw [mx_lp0] at hf
      cases hf
    | succ n ih =>
      intro v4 τ o hf Ke0 H locs hJ ls hl
      rw [mx_lpS] at hf
      obtain ⟨b, eb, hf⟩ := mb0 hf
      refine B68 v0 v3 v4 τ b eb (fun y4 υ ho H locs hJ ls hl => ?_) (fun  υ ho H locs hJ ls hl => ?_) H locs hJ ls hl
      · subst ho
        exact ih y4 υ o hf Ke0 H locs hJ ls hl
      · subst ho
        exact Ke0  υ (Option.some.inj hf).symm _ _ hJ ls hl
  have D227 : ∀ (w0 : Int64) (τ : mx_S), f_X12_moment_D227 P w0 τ = some (r, σ') → ∀ (H : Heap) (locs : List Loc), mx_J G P s.heap (mxz σ) (mxu σ) τ H locs → ∀ ls : Array Slot, lv_has ls 5 [] → W p l e (mx_rm P 8 206 σ) s m ([.ref a0, .int p1, .int p2, .int p3] : List Value).toArray below meth c H locs (mxz τ - mxz σ) (mxu τ - mxu σ) (mx_Z below G P (some (.long r)) σ σ' [.ref a0, .int p1, .int p2, .int p3] s) (F0 m 227 ls [.long w0]) := by
    intro w0 τ hf _ _ hJ ls hl
    unfold f_X12_moment_D227 at hf
    exact my_lret hx hb hr hlocks hJ hf dX12_moment_227
  have D205 : ∀ (v0 : Nat) (v3 : Int32) (w0 : Int32) (w1 : Nat) (τ : mx_S), f_X12_moment_D205 P v0 v3 w0 w1 τ = some (r, σ') → ∀ (H : Heap) (locs : List Loc), mx_J G P s.heap (mxz σ) (mxu σ) τ H locs → ∀ ls : Array Slot, lv_has ls 5 [(0, .ref v0), (3, .int v3)] → W p l e (mx_rm P 8 206 σ) s m ([.ref a0, .int p1, .int p2, .int p3] : List Value).toArray below meth c H locs (mxz τ - mxz σ) (mxu τ - mxu σ) (mx_Z below G P (some (.long r)) σ σ' [.ref a0, .int p1, .int p2, .int p3] s) (F0 m 205 ls [.int w0, .ref w1]) := by
    intro v0 v3 w0 w1 τ hf _ _ hJ ls hl
    unfold f_X12_moment_D205 at hf
    obtain ⟨σ71, e72, hf⟩ := mb0 hf
    refine my_pI hx hb hts hown hK hJ fd_RX12_243 cd_12 (Or.inl rfl) ht_12_0 e72 dX12_moment_205 (fun H locs hJ => ?_)
    refine lv_aload_n hx hb dX12_moment_208 rfl (lv_at hl 0 rfl) ?_
    obtain ⟨x73, e74, hf⟩ := mb0 hf
    refine my_gI hx hb hts hown hK hJ fd_RX12_243 hv_12_0 e74 dX12_moment_209 ?_
    refine lv_if_le (tgt := 219) hx hb dX12_moment_212 (by decide) (fun c75 => ?_) (fun c75 => ?_)
    · rw [if_pos c75] at hf
      refine lv_aload_n hx hb dX12_moment_219 rfl (lv_at hl 0 rfl) ?_
      refine lv_sipush (v := 200) hx hb dX12_moment_220 (by decide) ?_
      refine lv_iload_n hx hb dX12_moment_223 rfl (lv_at hl 1 rfl) ?_
      obtain ⟨i76, e77, hf⟩ := mb0 hf
      obtain ⟨x79, σ78, e80, hf⟩ := mc0 hf
      refine mx_callV (As := [.int (200 : Int32), .int v3]) (rest := []) hx hb hml hts hown hK hJ rfl rfl (ci := 12) rfl e77 (c_X12_sideOf l G P v0 (200 : Int32) v3 σ71 x79 σ78 e80) me_X12_sideOf kw_2502 ks_131 kw_2500 (Nat.le_of_ble_eq_true rfl) (Nat.le_of_ble_eq_true rfl) rfl hl.1 rfl (Nat.le_of_ble_eq_true rfl) dX12_moment_224 (fun H locs hJ => ?_)
      exact D227 x79 σ78 hf _ _ hJ ls (lv_sub hl [] rfl)
    · rw [if_neg c75] at hf
      refine lv_lconst (v := 0) hx hb dX12_moment_215 (by decide) ?_
      refine lv_goto (tgt := 227) hx hb dX12_moment_216 (by decide) ?_
      exact D227 (0 : Int64) σ71 hf _ _ hJ ls (lv_sub hl [] rfl)
  have D38 : ∀ (v0 : Nat) (v2 : Int32) (v3 : Int32) (w0 : Int32) (w1 : Nat) (τ : mx_S), f_X12_moment_D38 P v0 v2 v3 w0 w1 τ = some (r, σ') → ∀ (H : Heap) (locs : List Loc), mx_J G P s.heap (mxz σ) (mxu σ) τ H locs → ∀ ls : Array Slot, lv_has ls 5 [(0, .ref v0), (2, .int v2), (3, .int v3)] → W p l e (mx_rm P 8 206 σ) s m ([.ref a0, .int p1, .int p2, .int p3] : List Value).toArray below meth c H locs (mxz τ - mxz σ) (mxu τ - mxu σ) (mx_Z below G P (some (.long r)) σ σ' [.ref a0, .int p1, .int p2, .int p3] s) (F0 m 38 ls [.int w0, .ref w1]) := by
    intro v0 v2 v3 w0 w1 τ hf _ _ hJ ls hl
    unfold f_X12_moment_D38 at hf
    obtain ⟨σ7, e8, hf⟩ := mb0 hf
    refine my_pI hx hb hts hown hK hJ fd_RX12_243 cd_12 (Or.inl rfl) ht_12_0 e8 dX12_moment_38 (fun H locs hJ => ?_)
    refine lv_aload_n hx hb dX12_moment_41 rfl (lv_at hl 0 rfl) ?_
    obtain ⟨x9, e10, hf⟩ := mb0 hf
    refine my_gI hx hb hts hown hK hJ fd_RX12_243 hv_12_0 e10 dX12_moment_42 ?_
    refine lv_if_le (tgt := 50) hx hb dX12_moment_45 (by decide) (fun c11 => ?_) (fun c11 => ?_)
    · rw [if_pos c11] at hf
      refine lv_aload_n hx hb dX12_moment_50 rfl (lv_at hl 0 rfl) ?_
      refine lv_iload_n hx hb dX12_moment_51 rfl (lv_at hl 1 rfl) ?_
      obtain ⟨i12, e13, hf⟩ := mb0 hf
      obtain ⟨σ14, e15, hf⟩ := mb0 hf
      refine mx_callV (As := [.int v2]) (rest := []) hx hb hml hts hown hK hJ rfl rfl (ci := 12) rfl e13 (c_X12_speeds l G P v0 v2 σ7 σ14 e15) me_X12_speeds kw_2535 ks_134 kw_2533 (Nat.le_of_ble_eq_true rfl) (Nat.le_of_ble_eq_true rfl) rfl hl.1 rfl (Nat.le_of_ble_eq_true rfl) dX12_moment_52 (fun H locs hJ => ?_)
      refine lv_aload_n hx hb dX12_moment_55 rfl (lv_at hl 0 rfl) ?_
      refine lv_sipush (v := 200) hx hb dX12_moment_56 (by decide) ?_
      refine lv_lconst (v := 0) hx hb dX12_moment_59 (by decide) ?_
      refine lv_lconst (v := 0) hx hb dX12_moment_60 (by decide) ?_
      refine lv_iconst (v := 0) hx hb dX12_moment_61 (by decide) ?_
      obtain ⟨i16, e17, hf⟩ := mb0 hf
      obtain ⟨σ18, e19, hf⟩ := mb0 hf
      refine mx_callV (As := [.int (200 : Int32), .long (0 : Int64), .long (0 : Int64), .int (0 : Int32)]) (rest := []) hx hb hml hts hown hK hJ rfl rfl (ci := 12) rfl e17 (c_X12_box l G P v0 (200 : Int32) (0 : Int64) (0 : Int64) (0 : Int32) σ14 σ18 e19) me_X12_box kw_2381 ks_106 kw_2379 (Nat.le_of_ble_eq_true rfl) (Nat.le_of_ble_eq_true rfl) rfl hl.1 rfl (Nat.le_of_ble_eq_true rfl) dX12_moment_62 (fun H locs hJ => ?_)
      refine lv_iconst (v := 0) hx hb dX12_moment_65 (by decide) ?_
      refine lv_istore (lv' := [(4, .int (0 : Int32)), (0, .ref v0), (2, .int v2), (3, .int v3)]) hx hb dX12_moment_66 hl (by decide) rfl (fun ls hl => ?_)
      obtain ⟨o59, e60, hf⟩ := mb0 hf
      refine L68 v0 v3 (mpN P) (0 : Int32) σ18 o59 e60 (fun σ61 ho H locs hJ ls hl => ?_) _ _ hJ ls (lv_sub hl [1, 3, 0] rfl)
      · rw [ho] at hf
        have hf : ((mx_is σ61 v0 12).bind fun i62 => (f_X12_turned P v0 (200 : Int32) (200 : Int32) σ61).bind fun σ64 => (mg_R σ64 v0 12 13).bind fun b66 => (ma_I σ64 b66 3 (200 : Int32)).bind fun x68 => (if x68 = 0 then f_X12_moment_D205 P v0 v3 (0 : Int32) v0 σ64 else f_X12_moment_D205 P v0 v3 (2 : Int32) v0 σ64)) = some (r, σ') := hf
        refine lv_aload_n hx hb dX12_moment_178 rfl (lv_at hl 0 rfl) ?_
        refine lv_sipush (v := 200) hx hb dX12_moment_179 (by decide) ?_
        refine lv_sipush (v := 200) hx hb dX12_moment_182 (by decide) ?_
        obtain ⟨i62, e63, hf⟩ := mb0 hf
        obtain ⟨σ64, e65, hf⟩ := mb0 hf
        refine mx_callV (As := [.int (200 : Int32), .int (200 : Int32)]) (rest := []) hx hb hml hts hown hK hJ rfl rfl (ci := 12) rfl e63 (c_X12_turned l G P v0 (200 : Int32) (200 : Int32) σ61 σ64 e65) me_X12_turned kw_2395 ks_109 kw_2393 (Nat.le_of_ble_eq_true rfl) (Nat.le_of_ble_eq_true rfl) rfl hl.1 rfl (Nat.le_of_ble_eq_true rfl) dX12_moment_185 (fun H locs hJ => ?_)
        refine lv_aload_n hx hb dX12_moment_188 rfl (lv_at hl 0 rfl) ?_
        refine lv_aload_n hx hb dX12_moment_189 rfl (lv_at hl 0 rfl) ?_
        obtain ⟨b66, e67, hf⟩ := mb0 hf
        refine my_gR hx hb hts hown hK hJ fd_RX12_20 hv_12_13 e67 dX12_moment_190 ?_
        refine lv_sipush (v := 200) hx hb dX12_moment_193 (by decide) ?_
        obtain ⟨x68, e69, hf⟩ := mb0 hf
        refine mx_aZ hx hb hK hJ e69 dX12_moment_196 ?_
        refine lv_if_eq (tgt := 204) hx hb dX12_moment_197 (by decide) (fun c70 => ?_) (fun c70 => ?_)
        · rw [if_pos c70] at hf
          refine lv_iconst (v := 0) hx hb dX12_moment_204 (by decide) ?_
          exact D205 v0 v3 (0 : Int32) v0 σ64 hf _ _ hJ ls (lv_sub hl [0, 1] rfl)
        · rw [if_neg c70] at hf
          refine lv_iconst (v := 2) hx hb dX12_moment_200 (by decide) ?_
          refine lv_goto (tgt := 205) hx hb dX12_moment_201 (by decide) ?_
          exact D205 v0 v3 (2 : Int32) v0 σ64 hf _ _ hJ ls (lv_sub hl [0, 1] rfl)
    · rw [if_neg c11] at hf
      refine lv_lconst (v := 0) hx hb dX12_moment_48 (by decide) ?_
      exact my_lret hx hb hr hlocks hJ hf dX12_moment_49
  have D20 : ∀ (v0 : Nat) (v2 : Int32) (v3 : Int32) (w0 : Nat) (τ : mx_S), f_X12_moment_D20 P v0 v2 v3 w0 τ = some (r, σ') → ∀ (H : Heap) (locs : List Loc), mx_J G P s.heap (mxz σ) (mxu σ) τ H locs → ∀ ls : Array Slot, lv_has ls 5 [(0, .ref v0), (2, .int v2), (3, .int v3)] → W p l e (mx_rm P 8 206 σ) s m ([.ref a0, .int p1, .int p2, .int p3] : List Value).toArray below meth c H locs (mxz τ - mxz σ) (mxu τ - mxu σ) (mx_Z below G P (some (.long r)) σ σ' [.ref a0, .int p1, .int p2, .int p3] s) (F0 m 20 ls [.ref w0]) := by
    intro v0 v2 v3 w0 τ hf _ _ hJ ls hl
    unfold f_X12_moment_D20 at hf
    refine lv_iconst (v := 1) hx hb dX12_moment_20 (by decide) ?_
    refine lv_goto (tgt := 38) hx hb dX12_moment_21 (by decide) ?_
    exact D38 v0 v2 v3 (1 : Int32) w0 τ hf _ _ hJ ls (lv_sub hl [0, 1, 2] rfl)
  unfold f_X12_moment at hf
  refine lv_aload_n hx hb dX12_moment_0 rfl (lv_at hl 0 rfl) ?_
  refine lv_aload_n hx hb dX12_moment_1 rfl (lv_at hl 0 rfl) ?_
  refine lv_iload_n hx hb dX12_moment_2 rfl (lv_at hl 1 rfl) ?_
  refine lv_iload_n hx hb dX12_moment_3 rfl (lv_at hl 2 rfl) ?_
  obtain ⟨i1, e2, hf⟩ := mb0 hf
  obtain ⟨x4, σ3, e5, hf⟩ := mc0 hf
  refine mx_callV (As := [.int p1, .int p2]) (rest := [.ref a0]) hx hb hml hts hown hK hJ rfl rfl (ci := 12) rfl e2 (c_X12_isWay l G P a0 p1 p2 σ x4 σ3 e5) me_X12_isWay kw_2510 ks_132 kw_2508 (Nat.le_of_ble_eq_true rfl) (Nat.le_of_ble_eq_true rfl) rfl hl.1 rfl (Nat.le_of_ble_eq_true rfl) dX12_moment_4 (fun H locs hJ => ?_)
  refine lv_if_eq (tgt := 20) hx hb dX12_moment_7 (by decide) (fun c6 => ?_) (fun c6 => ?_)
  · rw [if_pos c6] at hf
    exact D20 a0 p2 p3 a0 σ3 hf _ _ hJ ls (lv_sub hl [0, 2, 3] rfl)
  · rw [if_neg c6] at hf
    refine lv_iload_n hx hb dX12_moment_10 rfl (lv_at hl 3 rfl) ?_
    refine lv_i2l hx hb dX12_moment_11 rfl ?_
    refine lv_lconst (v := 0) hx hb dX12_moment_12 (by decide) ?_
    refine lv_lconst (v := 1) hx hb dX12_moment_13 (by decide) ?_
    obtain ⟨x82, σ81, e83, hf⟩ := mc0 hf
    refine mx_callS (As := [.long (p3.toInt64), .long (0 : Int64), .long (1 : Int64)]) (rest := [.ref a0]) hx hb hml hts hown hK hJ rfl rfl (c_X12_in l G P (p3.toInt64) (0 : Int64) (1 : Int64) σ3 x82 σ81 e83) me_X12_in kw_2223 kw_2222 (Nat.le_of_ble_eq_true rfl) (Nat.le_of_ble_eq_true rfl) rfl hl.1 rfl (Nat.le_of_ble_eq_true rfl) dX12_moment_14 (fun H locs hJ => ?_)
    refine lv_if_ne (tgt := 24) hx hb dX12_moment_17 (by decide) (fun c84 => ?_) (fun c84 => ?_)
    · rw [if_neg c84] at hf
      refine lv_aload_n hx hb dX12_moment_24 rfl (lv_at hl 0 rfl) ?_
      refine lv_iload_n hx hb dX12_moment_25 rfl (lv_at hl 1 rfl) ?_
      obtain ⟨i85, e86, hf⟩ := mb0 hf
      obtain ⟨x88, σ87, e89, hf⟩ := mc0 hf
      refine mx_callV (As := [.int p1]) (rest := [.ref a0]) hx hb hml hts hown hK hJ rfl rfl (ci := 12) rfl e86 (c_X12_worked l G P a0 p1 σ81 x88 σ87 e89) me_X12_worked kw_2362 ks_103 kw_2360 (Nat.le_of_ble_eq_true rfl) (Nat.le_of_ble_eq_true rfl) rfl hl.1 rfl (Nat.le_of_ble_eq_true rfl) dX12_moment_26 (fun H locs hJ => ?_)
      refine lv_iconst (v := 1) hx hb dX12_moment_29 (by decide) ?_
      refine lv_icmp_eq (tgt := 37) hx hb dX12_moment_30 (by decide) (fun c90 => ?_) (fun c90 => ?_)
      · rw [if_pos c90] at hf
        refine lv_iconst (v := 0) hx hb dX12_moment_37 (by decide) ?_
        exact D38 a0 p2 p3 (0 : Int32) a0 σ87 hf _ _ hJ ls (lv_sub hl [0, 2, 3] rfl)
      · rw [if_neg c90] at hf
        refine lv_iconst (v := 3) hx hb dX12_moment_33 (by decide) ?_
        refine lv_goto (tgt := 38) hx hb dX12_moment_34 (by decide) ?_
        exact D38 a0 p2 p3 (3 : Int32) a0 σ87 hf _ _ hJ ls (lv_sub hl [0, 2, 3] rfl)
    · rw [if_pos c84] at hf
      exact D20 a0 p2 p3 a0 σ81 hf _ _ hJ ls (lv_sub hl [0, 2, 3] rfl)
set_option maxHeartbeats 4000000 in
set_option maxRecDepth 100000 in
theorem c_X12_middle (l : Launch) (G : mx_G) (P : mx_P) (a0 : Nat) (p1 : Int32) (p2 : Int32) (p3 : Int32) (σ : mx_S) (r : Int64) (σ' : mx_S) (hf : f_X12_middle P a0 p1 p2 p3 σ = some (r, σ')) : mxz σ ≤ mpc P → mxu σ ≤ mps P → mx_M l yX12_middle cX12_middle 8 (some .long) 7 182 G P [.ref a0, .int p1, .int p2, .int p3] σ (some (.long r)) σ' := by
  intro hcap hcau
  refine mx_ofW (by decide +kernel) hcap hcau (Nat.le_of_ble_eq_true rfl) ?_
  intro p e s m below meth c hx hb hr hml hts hown hlocks hname hK hJ ls hl
  have hz0 := hJ.2.1
  have hown : s.vm.findClass RX12 = some m.cls := hown
  have hl : lv_has ls 8 [(0, .ref a0), (1, .int p1), (2, .int p2), (3, .int p3)] := hl
  have B56 : ∀ (v0 : Nat) (v1 : Int32) (v2 : Int32) (v3 : Int32) (v4 : Int64) (v6 : Int32) (τ : mx_S) (o : (Int64 × Int32 × mx_S) ⊕ ((Int64 × mx_S))), f_X12_middle_B56 P v0 v1 v2 v3 v4 v6 τ = some o → (∀ (y4 : Int64) (y6 : Int32) (υ : mx_S), o = .inl (y4, y6, υ) → ∀ (H : Heap) (locs : List Loc), mx_J G P s.heap (mxz σ) (mxu σ) υ H locs → ∀ ls : Array Slot, lv_has ls 8 [(0, .ref v0), (1, .int v1), (2, .int v2), (3, .int v3), (4, .long y4), (6, .int y6)] → W p l e (mx_rm P 7 182 σ) s m ([.ref a0, .int p1, .int p2, .int p3] : List Value).toArray below meth c H locs (mxz υ - mxz σ) (mxu υ - mxu σ) (mx_Z below G P (some (.long r)) σ σ' [.ref a0, .int p1, .int p2, .int p3] s) (F0 m 56 ls [])) → (∀ (y4 : Int64) (υ : mx_S), o = .inr (y4, υ) → ∀ (H : Heap) (locs : List Loc), mx_J G P s.heap (mxz σ) (mxu σ) υ H locs → ∀ ls : Array Slot, lv_has ls 8 [(0, .ref v0), (1, .int v1), (2, .int v2), (3, .int v3), (4, .long y4)] → W p l e (mx_rm P 7 182 σ) s m ([.ref a0, .int p1, .int p2, .int p3] : List Value).toArray below meth c H locs (mxz υ - mxz σ) (mxu υ - mxu σ) (mx_Z below G P (some (.long r)) σ σ' [.ref a0, .int p1, .int p2, .int p3] s) (F0 m 84 ls [])) → ∀ (H : Heap) (locs : List Loc), mx_J G P s.heap (mxz σ) (mxu σ) τ H locs → ∀ ls : Array Slot, lv_has ls 8 [(0, .ref v0), (1, .int v1), (2, .int v2), (3, .int v3), (4, .long v4), (6, .int v6)] → W p l e (mx_rm P 7 182 σ) s m ([.ref a0, .int p1, .int p2, .int p3] : List Value).toArray below meth c H locs (mxz τ - mxz σ) (mxu τ - mxu σ) (mx_Z below G P (some (.long r)) σ σ' [.ref a0, .int p1, .int p2, .int p3] s) (F0 m 56 ls []) := by
    intro v0 v1 v2 v3 v4 v6 τ o hf Kb Ke0 H locs hJ ls hl
    unfold f_X12_middle_B56 at hf
    refine lv_iload hx hb dX12_middle_56 (lv_at hl 5 rfl) ?_
    refine lv_aload_n hx hb dX12_middle_58 rfl (lv_at hl 0 rfl) ?_
    obtain ⟨x10, e11, hf⟩ := mb0 hf
    refine my_gI hx hb hts hown hK hJ fd_RX12_460 hv_12_19 e11 dX12_middle_59 ?_
    refine lv_icmp_ge (tgt := 84) hx hb dX12_middle_62 (by decide) (fun c12 => ?_) (fun c12 => ?_)
    · rw [if_pos c12] at hf
      exact Ke0 v4 τ (Option.some.inj hf).symm _ _ hJ ls (lv_sub hl [0, 1, 2, 3, 4] rfl)
    · rw [if_neg c12] at hf
      refine lv_lload hx hb dX12_middle_65 (lv_at hl 4 rfl) ?_
      refine lv_aload_n hx hb dX12_middle_67 rfl (lv_at hl 0 rfl) ?_
      obtain ⟨b13, e14, hf⟩ := mb0 hf
      refine my_gR hx hb hts hown hK hJ fd_RX12_72 hv_12_37 e14 dX12_middle_68 ?_
      refine lv_iload hx hb dX12_middle_71 (lv_at hl 5 rfl) ?_
      obtain ⟨x15, e16, hf⟩ := mb0 hf
      refine mx_aI hx hb hK hJ e16 dX12_middle_73 ?_
      refine lv_i2l hx hb dX12_middle_74 rfl ?_
      refine lv_ladd hx hb dX12_middle_75 ?_
      obtain ⟨x17, e18, hf⟩ := mb0 hf
      refine mx_nL e18 ?_
      refine lv_lstore (lv' := [(4, .long x17), (0, .ref v0), (1, .int v1), (2, .int v2), (3, .int v3), (6, .int v6)]) hx hb dX12_middle_76 hl (by decide) rfl (fun ls hl => ?_)
      obtain ⟨x19, e20, hf⟩ := mb0 hf
      refine lv_iinc (v := x19) (lv' := [(6, .int x19), (4, .long x17), (0, .ref v0), (1, .int v1), (2, .int v2), (3, .int v3)]) hx hb dX12_middle_78 hl (k := 5) rfl (by rw [← Option.some.inj e20]; rfl) (by decide) rfl (fun ls hl => ?_)
      refine lv_goto (tgt := 56) hx hb dX12_middle_81 (by decide) ?_
      exact Kb x17 x19 τ (Option.some.inj hf).symm _ _ hJ ls (lv_sub hl [2, 3, 4, 5, 1, 0] rfl)
  have L56 : ∀ (v0 : Nat) (v1 : Int32) (v2 : Int32) (v3 : Int32) (n : Nat) (v4 : Int64) (v6 : Int32) (τ : mx_S) (o : (Int64 × mx_S)), mx_lp (f_X12_middle_L56 P v0 v1 v2 v3) n (v4, v6, τ) = some o → (∀ (y4 : Int64) (υ : mx_S), o = (y4, υ) → ∀ (H : Heap) (locs : List Loc), mx_J G P s.heap (mxz σ) (mxu σ) υ H locs → ∀ ls : Array Slot, lv_has ls 8 [(0, .ref v0), (1, .int v1), (2, .int v2), (3, .int v3), (4, .long y4)] → W p l e (mx_rm P 7 182 σ) s m ([.ref a0, .int p1, .int p2, .int p3] : List Value).toArray below meth c H locs (mxz υ - mxz σ) (mxu υ - mxu σ) (mx_Z below G P (some (.long r)) σ σ' [.ref a0, .int p1, .int p2, .int p3] s) (F0 m 84 ls [])) → ∀ (H : Heap) (locs : List Loc), mx_J G P s.heap (mxz σ) (mxu σ) τ H locs → ∀ ls : Array Slot, lv_has ls 8 [(0, .ref v0), (1, .int v1), (2, .int v2), (3, .int v3), (4, .long v4), (6, .int v6)] → W p l e (mx_rm P 7 182 σ) s m ([.ref a0, .int p1, .int p2, .int p3] : List Value).toArray below meth c H locs (mxz τ - mxz σ) (mxu τ - mxu σ) (mx_Z below G P (some (.long r)) σ σ' [.ref a0, .int p1, .int p2, .int p3] s) (F0 m 56 ls []) := by
    intro v0 v1 v2 v3 n
    induction n with
    | zero =>
      intro v4 v6 τ o hf
      rw [mx_lp0] at hf
      cases hf
    | succ n ih =>
      intro v4 v6 τ o hf Ke0 H locs hJ ls hl
      rw [mx_lpS] at hf
      obtain ⟨b, eb, hf⟩ := mb0 hf
      refine B56 v0 v1 v2 v3 v4 v6 τ b eb (fun y4 y6 υ ho H locs hJ ls hl => ?_) (fun y4 υ ho H locs hJ ls hl => ?_) H locs hJ ls hl
      · subst ho
        exact ih y4 y6 υ o hf Ke0 H locs hJ ls hl
      · subst ho
        exact Ke0 y4 υ (Option.some.inj hf).symm _ _ hJ ls hl
  have D166_104 : ∀ (v0 : Nat) (v2 : Int32) (v3 : Int32) (v4 : Int64) (v6 : Int32) (v7 : Int32) (τ : mx_S) (o : (Int32 × mx_S) ⊕ ((mx_S))), f_X12_middle_D166_104 P v0 v2 v3 v4 v6 v7 τ = some o → (∀ (y7 : Int32) (υ : mx_S), o = .inl (y7, υ) → ∀ (H : Heap) (locs : List Loc), mx_J G P s.heap (mxz σ) (mxu σ) υ H locs → ∀ ls : Array Slot, lv_has ls 8 [(0, .ref v0), (2, .int v2), (3, .int v3), (4, .long v4), (6, .int v6), (7, .int y7)] → W p l e (mx_rm P 7 182 σ) s m ([.ref a0, .int p1, .int p2, .int p3] : List Value).toArray below meth c H locs (mxz υ - mxz σ) (mxu υ - mxu σ) (mx_Z below G P (some (.long r)) σ σ' [.ref a0, .int p1, .int p2, .int p3] s) (F0 m 104 ls [])) → (∀  (υ : mx_S), o = .inr υ → ∀ (H : Heap) (locs : List Loc), mx_J G P s.heap (mxz σ) (mxu σ) υ H locs → ∀ ls : Array Slot, lv_has ls 8 [(0, .ref v0), (3, .int v3), (4, .long v4), (6, .int v6)] → W p l e (mx_rm P 7 182 σ) s m ([.ref a0, .int p1, .int p2, .int p3] : List Value).toArray below meth c H locs (mxz υ - mxz σ) (mxu υ - mxu σ) (mx_Z below G P (some (.long r)) σ σ' [.ref a0, .int p1, .int p2, .int p3] s) (F0 m 172 ls [])) → ∀ (H : Heap) (locs : List Loc), mx_J G P s.heap (mxz σ) (mxu σ) τ H locs → ∀ ls : Array Slot, lv_has ls 8 [(0, .ref v0), (2, .int v2), (3, .int v3), (4, .long v4), (6, .int v6), (7, .int v7)] → W p l e (mx_rm P 7 182 σ) s m ([.ref a0, .int p1, .int p2, .int p3] : List Value).toArray below meth c H locs (mxz τ - mxz σ) (mxu τ - mxu σ) (mx_Z below G P (some (.long r)) σ σ' [.ref a0, .int p1, .int p2, .int p3] s) (F0 m 166 ls []) := by
    intro v0 v2 v3 v4 v6 v7 τ o hf Kb Ke0 H locs hJ ls hl
    unfold f_X12_middle_D166_104 at hf
    obtain ⟨x55, e56, hf⟩ := mb0 hf
    refine lv_iinc (v := x55) (lv' := [(7, .int x55), (0, .ref v0), (2, .int v2), (3, .int v3), (4, .long v4), (6, .int v6)]) hx hb dX12_middle_166 hl (k := 5) rfl (by rw [← Option.some.inj e56]; rfl) (by decide) rfl (fun ls hl => ?_)
    refine lv_goto (tgt := 104) hx hb dX12_middle_169 (by decide) ?_
    exact Kb x55 τ (Option.some.inj hf).symm _ _ hJ ls (lv_sub hl [1, 2, 3, 4, 5, 0] rfl)
  have B104 : ∀ (v0 : Nat) (v2 : Int32) (v3 : Int32) (v4 : Int64) (v6 : Int32) (v7 : Int32) (τ : mx_S) (o : (Int32 × mx_S) ⊕ ((mx_S))), f_X12_middle_B104 P v0 v2 v3 v4 v6 v7 τ = some o → (∀ (y7 : Int32) (υ : mx_S), o = .inl (y7, υ) → ∀ (H : Heap) (locs : List Loc), mx_J G P s.heap (mxz σ) (mxu σ) υ H locs → ∀ ls : Array Slot, lv_has ls 8 [(0, .ref v0), (2, .int v2), (3, .int v3), (4, .long v4), (6, .int v6), (7, .int y7)] → W p l e (mx_rm P 7 182 σ) s m ([.ref a0, .int p1, .int p2, .int p3] : List Value).toArray below meth c H locs (mxz υ - mxz σ) (mxu υ - mxu σ) (mx_Z below G P (some (.long r)) σ σ' [.ref a0, .int p1, .int p2, .int p3] s) (F0 m 104 ls [])) → (∀  (υ : mx_S), o = .inr υ → ∀ (H : Heap) (locs : List Loc), mx_J G P s.heap (mxz σ) (mxu σ) υ H locs → ∀ ls : Array Slot, lv_has ls 8 [(0, .ref v0), (3, .int v3), (4, .long v4), (6, .int v6)] → W p l e (mx_rm P 7 182 σ) s m ([.ref a0, .int p1, .int p2, .int p3] : List Value).toArray below meth c H locs (mxz υ - mxz σ) (mxu υ - mxu σ) (mx_Z below G P (some (.long r)) σ σ' [.ref a0, .int p1, .int p2, .int p3] s) (F0 m 172 ls [])) → ∀ (H : Heap) (locs : List Loc), mx_J G P s.heap (mxz σ) (mxu σ) τ H locs → ∀ ls : Array Slot, lv_has ls 8 [(0, .ref v0), (2, .int v2), (3, .int v3), (4, .long v4), (6, .int v6), (7, .int v7)] → W p l e (mx_rm P 7 182 σ) s m ([.ref a0, .int p1, .int p2, .int p3] : List Value).toArray below meth c H locs (mxz τ - mxz σ) (mxu τ - mxu σ) (mx_Z below G P (some (.long r)) σ σ' [.ref a0, .int p1, .int p2, .int p3] s) (F0 m 104 ls []) := by
    intro v0 v2 v3 v4 v6 v7 τ o hf Kb Ke0 H locs hJ ls hl
    unfold f_X12_middle_B104 at hf
    refine lv_iload hx hb dX12_middle_104 (lv_at hl 5 rfl) ?_
    refine lv_aload_n hx hb dX12_middle_106 rfl (lv_at hl 0 rfl) ?_
    obtain ⟨x34, e35, hf⟩ := mb0 hf
    refine my_gI hx hb hts hown hK hJ fd_RX12_460 hv_12_19 e35 dX12_middle_107 ?_
    refine lv_icmp_ge (tgt := 172) hx hb dX12_middle_110 (by decide) (fun c36 => ?_) (fun c36 => ?_)
    · rw [if_pos c36] at hf
      exact Ke0 τ (Option.some.inj hf).symm _ _ hJ ls (lv_sub hl [0, 2, 3, 4] rfl)
    · rw [if_neg c36] at hf
      refine lv_iload hx hb dX12_middle_113 (lv_at hl 4 rfl) ?_
      refine lv_iconst (v := 1) hx hb dX12_middle_115 (by decide) ?_
      refine lv_icmp_ne (tgt := 172) hx hb dX12_middle_116 (by decide) (fun c37 => ?_) (fun c37 => ?_)
      · rw [if_neg c37] at hf
        exact Ke0 τ (Option.some.inj hf).symm _ _ hJ ls (lv_sub hl [0, 2, 3, 4] rfl)
      · rw [if_pos c37] at hf
        refine lv_aload_n hx hb dX12_middle_119 rfl (lv_at hl 0 rfl) ?_
        obtain ⟨b38, e39, hf⟩ := mb0 hf
        refine my_gR hx hb hts hown hK hJ fd_RX12_72 hv_12_37 e39 dX12_middle_120 ?_
        refine lv_iload hx hb dX12_middle_123 (lv_at hl 5 rfl) ?_
        obtain ⟨x40, e41, hf⟩ := mb0 hf
        refine mx_aI hx hb hK hJ e41 dX12_middle_125 ?_
        refine lv_if_ne (tgt := 132) hx hb dX12_middle_126 (by decide) (fun c42 => ?_) (fun c42 => ?_)
        · rw [if_neg c42] at hf
          refine lv_aload_n hx hb dX12_middle_132 rfl (lv_at hl 0 rfl) ?_
          refine lv_sipush (v := 201) hx hb dX12_middle_133 (by decide) ?_
          refine lv_aload_n hx hb dX12_middle_136 rfl (lv_at hl 0 rfl) ?_
          obtain ⟨b43, e44, hf⟩ := mb0 hf
          refine my_gR hx hb hts hown hK hJ fd_RX12_72 hv_12_37 e44 dX12_middle_137 ?_
          refine lv_iload hx hb dX12_middle_140 (lv_at hl 5 rfl) ?_
          obtain ⟨x45, e46, hf⟩ := mb0 hf
          refine mx_aI hx hb hK hJ e46 dX12_middle_142 ?_
          refine lv_i2l hx hb dX12_middle_143 rfl ?_
          refine lv_iconst (v := 2) hx hb dX12_middle_144 (by decide) ?_
          refine lv_iload hx hb dX12_middle_145 (lv_at hl 5 rfl) ?_
          refine lv_imul hx hb dX12_middle_147 ?_
          refine lv_iload_n hx hb dX12_middle_148 rfl (lv_at hl 1 rfl) ?_
          refine lv_iadd hx hb dX12_middle_149 ?_
          obtain ⟨i47, e48, hf⟩ := mb0 hf
          obtain ⟨σ49, e50, hf⟩ := mb0 hf
          refine mx_callV (As := [.int (201 : Int32), .long (x45.toInt64), .int (((2 : Int32) * v7) + v2)]) (rest := []) hx hb hml hts hown hK hJ rfl rfl (ci := 12) rfl e48 (c_X12_whole l G P v0 (201 : Int32) (x45.toInt64) (((2 : Int32) * v7) + v2) τ σ49 e50) me_X12_whole kw_2585 ks_142 kw_2583 (Nat.le_of_ble_eq_true rfl) (Nat.le_of_ble_eq_true rfl) rfl hl.1 rfl (Nat.le_of_ble_eq_true rfl) dX12_middle_150 (fun H locs hJ => ?_)
          refine lv_aload_n hx hb dX12_middle_153 rfl (lv_at hl 0 rfl) ?_
          refine lv_sipush (v := 200) hx hb dX12_middle_154 (by decide) ?_
          refine lv_sipush (v := 200) hx hb dX12_middle_157 (by decide) ?_
          refine lv_sipush (v := 201) hx hb dX12_middle_160 (by decide) ?_
          obtain ⟨i51, e52, hf⟩ := mb0 hf
          obtain ⟨σ53, e54, hf⟩ := mb0 hf
          refine mx_callV (As := [.int (200 : Int32), .int (200 : Int32), .int (201 : Int32)]) (rest := []) hx hb hml hts hown hK hJ rfl rfl (ci := 12) rfl e52 (c_X12_add l G P v0 (200 : Int32) (200 : Int32) (201 : Int32) σ49 σ53 e54) me_X12_add kw_2421 ks_114 kw_2419 (Nat.le_of_ble_eq_true rfl) (Nat.le_of_ble_eq_true rfl) rfl hl.1 rfl (Nat.le_of_ble_eq_true rfl) dX12_middle_163 (fun H locs hJ => ?_)
          exact D166_104 v0 v2 v3 v4 v6 v7 σ53 o hf Kb Ke0 _ _ hJ ls (lv_sub hl [0, 1, 2, 3, 4, 5] rfl)
        · rw [if_pos c42] at hf
          refine lv_goto (tgt := 166) hx hb dX12_middle_129 (by decide) ?_
          exact D166_104 v0 v2 v3 v4 v6 v7 τ o hf Kb Ke0 _ _ hJ ls (lv_sub hl [0, 1, 2, 3, 4, 5] rfl)
  have L104 : ∀ (v0 : Nat) (v2 : Int32) (v3 : Int32) (v4 : Int64) (v6 : Int32) (n : Nat) (v7 : Int32) (τ : mx_S) (o : (mx_S)), mx_lp (f_X12_middle_L104 P v0 v2 v3 v4 v6) n (v7, τ) = some o → (∀  (υ : mx_S), o = υ → ∀ (H : Heap) (locs : List Loc), mx_J G P s.heap (mxz σ) (mxu σ) υ H locs → ∀ ls : Array Slot, lv_has ls 8 [(0, .ref v0), (3, .int v3), (4, .long v4), (6, .int v6)] → W p l e (mx_rm P 7 182 σ) s m ([.ref a0, .int p1, .int p2, .int p3] : List Value).toArray below meth c H locs (mxz υ - mxz σ) (mxu υ - mxu σ) (mx_Z below G P (some (.long r)) σ σ' [.ref a0, .int p1, .int p2, .int p3] s) (F0 m 172 ls [])) → ∀ (H : Heap) (locs : List Loc), mx_J G P s.heap (mxz σ) (mxu σ) τ H locs → ∀ ls : Array Slot, lv_has ls 8 [(0, .ref v0), (2, .int v2), (3, .int v3), (4, .long v4), (6, .int v6), (7, .int v7)] → W p l e (mx_rm P 7 182 σ) s m ([.ref a0, .int p1, .int p2, .int p3] : List Value).toArray below meth c H locs (mxz τ - mxz σ) (mxu τ - mxu σ) (mx_Z below G P (some (.long r)) σ σ' [.ref a0, .int p1, .int p2, .int p3] s) (F0 m 104 ls []) := by
    intro v0 v2 v3 v4 v6 n
    induction n with
    | zero =>
      intro v7 τ o hf
      rw [mx_lp0] at hf
      cases hf
    | succ n ih =>
      intro v7 τ o hf Ke0 H locs hJ ls hl
      rw [mx_lpS] at hf
      obtain ⟨b, eb, hf⟩ := mb0 hf
      refine B104 v0 v2 v3 v4 v6 v7 τ b eb (fun y7 υ ho H locs hJ ls hl => ?_) (fun  υ ho H locs hJ ls hl => ?_) H locs hJ ls hl
      · subst ho
        exact ih y7 υ o hf Ke0 H locs hJ ls hl
      · subst ho
        exact Ke0  υ (Option.some.inj hf).symm _ _ hJ ls hl
  have D255 : ∀ (w0 : Int64) (τ : mx_S), f_X12_middle_D255 P w0 τ = some (r, σ') → ∀ (H : Heap) (locs : List Loc), mx_J G P s.heap (mxz σ) (mxu σ) τ H locs → ∀ ls : Array Slot, lv_has ls 8 [] → W p l e (mx_rm P 7 182 σ) s m ([.ref a0, .int p1, .int p2, .int p3] : List Value).toArray below meth c H locs (mxz τ - mxz σ) (mxu τ - mxu σ) (mx_Z below G P (some (.long r)) σ σ' [.ref a0, .int p1, .int p2, .int p3] s) (F0 m 255 ls [.long w0]) := by
    intro w0 τ hf _ _ hJ ls hl
    unfold f_X12_middle_D255 at hf
    exact my_lret hx hb hr hlocks hJ hf dX12_middle_255
  have D210 : ∀ (v0 : Nat) (v3 : Int32) (v4 : Int64) (w0 : Int32) (w1 : Nat) (τ : mx_S), f_X12_middle_D210 P v0 v3 v4 w0 w1 τ = some (r, σ') → ∀ (H : Heap) (locs : List Loc), mx_J G P s.heap (mxz σ) (mxu σ) τ H locs → ∀ ls : Array Slot, lv_has ls 8 [(0, .ref v0), (3, .int v3), (4, .long v4)] → W p l e (mx_rm P 7 182 σ) s m ([.ref a0, .int p1, .int p2, .int p3] : List Value).toArray below meth c H locs (mxz τ - mxz σ) (mxu τ - mxu σ) (mx_Z below G P (some (.long r)) σ σ' [.ref a0, .int p1, .int p2, .int p3] s) (F0 m 210 ls [.int w0, .ref w1]) := by
    intro v0 v3 v4 w0 w1 τ hf _ _ hJ ls hl
    unfold f_X12_middle_D210 at hf
    obtain ⟨σ67, e68, hf⟩ := mb0 hf
    refine my_pI hx hb hts hown hK hJ fd_RX12_243 cd_12 (Or.inl rfl) ht_12_0 e68 dX12_middle_210 (fun H locs hJ => ?_)
    refine lv_aload_n hx hb dX12_middle_213 rfl (lv_at hl 0 rfl) ?_
    obtain ⟨x69, e70, hf⟩ := mb0 hf
    refine my_gI hx hb hts hown hK hJ fd_RX12_243 hv_12_0 e70 dX12_middle_214 ?_
    refine lv_if_le (tgt := 222) hx hb dX12_middle_217 (by decide) (fun c71 => ?_) (fun c71 => ?_)
    · rw [if_pos c71] at hf
      refine lv_iload_n hx hb dX12_middle_222 rfl (lv_at hl 1 rfl) ?_
      refine lv_if_ne (tgt := 242) hx hb dX12_middle_223 (by decide) (fun c72 => ?_) (fun c72 => ?_)
      · rw [if_neg c72] at hf
        refine lv_aload_n hx hb dX12_middle_242 rfl (lv_at hl 0 rfl) ?_
        obtain ⟨b73, e74, hf⟩ := mb0 hf
        refine my_gR hx hb hts hown hK hJ fd_RX12_17 hv_12_12 e74 dX12_middle_243 ?_
        refine lv_sipush (v := 200) hx hb dX12_middle_246 (by decide) ?_
        obtain ⟨x75, e76, hf⟩ := mb0 hf
        refine mx_aL hx hb hK hJ e76 dX12_middle_249 ?_
        refine lv_lload hx hb dX12_middle_250 (lv_at hl 2 rfl) ?_
        obtain ⟨x78, σ77, e79, hf⟩ := mc0 hf
        refine mx_callS (As := [.long x75, .long v4]) (rest := []) hx hb hml hts hown hK hJ rfl rfl (c_X12_up l G P x75 v4 σ67 x78 σ77 e79) me_X12_up kw_2377 kw_2376 (Nat.le_of_ble_eq_true rfl) (Nat.le_of_ble_eq_true rfl) rfl hl.1 rfl (Nat.le_of_ble_eq_true rfl) dX12_middle_252 (fun H locs hJ => ?_)
        exact D255 x78 σ77 hf _ _ hJ ls (lv_sub hl [] rfl)
      · rw [if_pos c72] at hf
        refine lv_aload_n hx hb dX12_middle_226 rfl (lv_at hl 0 rfl) ?_
        obtain ⟨b80, e81, hf⟩ := mb0 hf
        refine my_gR hx hb hts hown hK hJ fd_RX12_13 hv_12_11 e81 dX12_middle_227 ?_
        refine lv_sipush (v := 200) hx hb dX12_middle_230 (by decide) ?_
        obtain ⟨x82, e83, hf⟩ := mb0 hf
        refine mx_aL hx hb hK hJ e83 dX12_middle_233 ?_
        refine lv_lload hx hb dX12_middle_234 (lv_at hl 2 rfl) ?_
        obtain ⟨x85, σ84, e86, hf⟩ := mc0 hf
        refine mx_callS (As := [.long x82, .long v4]) (rest := []) hx hb hml hts hown hK hJ rfl rfl (c_X12_down l G P x82 v4 σ67 x85 σ84 e86) me_X12_down kw_2374 kw_2373 (Nat.le_of_ble_eq_true rfl) (Nat.le_of_ble_eq_true rfl) rfl hl.1 rfl (Nat.le_of_ble_eq_true rfl) dX12_middle_236 (fun H locs hJ => ?_)
        refine lv_goto (tgt := 255) hx hb dX12_middle_239 (by decide) ?_
        exact D255 x85 σ84 hf _ _ hJ ls (lv_sub hl [] rfl)
    · rw [if_neg c71] at hf
      refine lv_lconst (v := 0) hx hb dX12_middle_220 (by decide) ?_
      exact my_lret hx hb hr hlocks hJ hf dX12_middle_221
  have D172 : ∀ (v0 : Nat) (v3 : Int32) (v4 : Int64) (v6 : Int32) (τ : mx_S), f_X12_middle_D172 P v0 v3 v4 v6 τ = some (r, σ') → ∀ (H : Heap) (locs : List Loc), mx_J G P s.heap (mxz σ) (mxu σ) τ H locs → ∀ ls : Array Slot, lv_has ls 8 [(0, .ref v0), (3, .int v3), (4, .long v4), (6, .int v6)] → W p l e (mx_rm P 7 182 σ) s m ([.ref a0, .int p1, .int p2, .int p3] : List Value).toArray below meth c H locs (mxz τ - mxz σ) (mxu τ - mxu σ) (mx_Z below G P (some (.long r)) σ σ' [.ref a0, .int p1, .int p2, .int p3] s) (F0 m 172 ls []) := by
    intro v0 v3 v4 v6 τ hf _ _ hJ ls hl
    unfold f_X12_middle_D172 at hf
    refine lv_aload_n hx hb dX12_middle_172 rfl (lv_at hl 0 rfl) ?_
    refine lv_lload hx hb dX12_middle_173 (lv_at hl 2 rfl) ?_
    refine lv_lconst (v := 0) hx hb dX12_middle_175 (by decide) ?_
    refine W.lcmp hx hb dX12_middle_176 ?_
    refine lv_if_ne (tgt := 184) hx hb dX12_middle_177 (by decide) (fun c60 => ?_) (fun c60 => ?_)
    · rw [if_neg c60] at hf
      refine lv_iload hx hb dX12_middle_184 (lv_at hl 3 rfl) ?_
      refine lv_iconst (v := 1) hx hb dX12_middle_186 (by decide) ?_
      refine lv_icmp_eq (tgt := 194) hx hb dX12_middle_187 (by decide) (fun c61 => ?_) (fun c61 => ?_)
      · rw [if_pos c61] at hf
        refine lv_aload_n hx hb dX12_middle_194 rfl (lv_at hl 0 rfl) ?_
        obtain ⟨b62, e63, hf⟩ := mb0 hf
        refine my_gR hx hb hts hown hK hJ fd_RX12_20 hv_12_13 e63 dX12_middle_195 ?_
        refine lv_sipush (v := 200) hx hb dX12_middle_198 (by decide) ?_
        obtain ⟨x64, e65, hf⟩ := mb0 hf
        refine mx_aZ hx hb hK hJ e65 dX12_middle_201 ?_
        refine lv_if_eq (tgt := 209) hx hb dX12_middle_202 (by decide) (fun c66 => ?_) (fun c66 => ?_)
        · rw [if_pos c66] at hf
          refine lv_iconst (v := 0) hx hb dX12_middle_209 (by decide) ?_
          exact D210 v0 v3 v4 (0 : Int32) v0 τ hf _ _ hJ ls (lv_sub hl [0, 1, 2] rfl)
        · rw [if_neg c66] at hf
          refine lv_iconst (v := 2) hx hb dX12_middle_205 (by decide) ?_
          refine lv_goto (tgt := 210) hx hb dX12_middle_206 (by decide) ?_
          exact D210 v0 v3 v4 (2 : Int32) v0 τ hf _ _ hJ ls (lv_sub hl [0, 1, 2] rfl)
      · rw [if_neg c61] at hf
        refine lv_iconst (v := 3) hx hb dX12_middle_190 (by decide) ?_
        refine lv_goto (tgt := 210) hx hb dX12_middle_191 (by decide) ?_
        exact D210 v0 v3 v4 (3 : Int32) v0 τ hf _ _ hJ ls (lv_sub hl [0, 1, 2] rfl)
    · rw [if_pos c60] at hf
      refine lv_iconst (v := 2) hx hb dX12_middle_180 (by decide) ?_
      refine lv_goto (tgt := 210) hx hb dX12_middle_181 (by decide) ?_
      exact D210 v0 v3 v4 (2 : Int32) v0 τ hf _ _ hJ ls (lv_sub hl [0, 1, 2] rfl)
  have D38 : ∀ (v0 : Nat) (v1 : Int32) (v2 : Int32) (v3 : Int32) (w0 : Int32) (w1 : Nat) (τ : mx_S), f_X12_middle_D38 P v0 v1 v2 v3 w0 w1 τ = some (r, σ') → ∀ (H : Heap) (locs : List Loc), mx_J G P s.heap (mxz σ) (mxu σ) τ H locs → ∀ ls : Array Slot, lv_has ls 8 [(0, .ref v0), (1, .int v1), (2, .int v2), (3, .int v3)] → W p l e (mx_rm P 7 182 σ) s m ([.ref a0, .int p1, .int p2, .int p3] : List Value).toArray below meth c H locs (mxz τ - mxz σ) (mxu τ - mxu σ) (mx_Z below G P (some (.long r)) σ σ' [.ref a0, .int p1, .int p2, .int p3] s) (F0 m 38 ls [.int w0, .ref w1]) := by
    intro v0 v1 v2 v3 w0 w1 τ hf _ _ hJ ls hl
    unfold f_X12_middle_D38 at hf
    obtain ⟨σ5, e6, hf⟩ := mb0 hf
    refine my_pI hx hb hts hown hK hJ fd_RX12_243 cd_12 (Or.inl rfl) ht_12_0 e6 dX12_middle_38 (fun H locs hJ => ?_)
    refine lv_aload_n hx hb dX12_middle_41 rfl (lv_at hl 0 rfl) ?_
    obtain ⟨x7, e8, hf⟩ := mb0 hf
    refine my_gI hx hb hts hown hK hJ fd_RX12_243 hv_12_0 e8 dX12_middle_42 ?_
    refine lv_if_le (tgt := 50) hx hb dX12_middle_45 (by decide) (fun c9 => ?_) (fun c9 => ?_)
    · rw [if_pos c9] at hf
      refine lv_lconst (v := 0) hx hb dX12_middle_50 (by decide) ?_
      refine lv_lstore (lv' := [(4, .long (0 : Int64)), (0, .ref v0), (1, .int v1), (2, .int v2), (3, .int v3)]) hx hb dX12_middle_51 hl (by decide) rfl (fun ls hl => ?_)
      refine lv_iconst (v := 0) hx hb dX12_middle_53 (by decide) ?_
      refine lv_istore (lv' := [(6, .int (0 : Int32)), (4, .long (0 : Int64)), (0, .ref v0), (1, .int v1), (2, .int v2), (3, .int v3)]) hx hb dX12_middle_54 hl (by decide) rfl (fun ls hl => ?_)
      obtain ⟨o21, e22, hf⟩ := mb0 hf
      refine L56 v0 v1 v2 v3 (mpN P) (0 : Int64) (0 : Int32) σ5 o21 e22 (fun y23 σ24 ho H locs hJ ls hl => ?_) _ _ hJ ls (lv_sub hl [2, 3, 4, 5, 1, 0] rfl)
      · rw [ho] at hf
        have hf : ((mx_is σ24 v0 12).bind fun i25 => mx_b2 (f_X12_worked P v0 v1 σ24) fun x28 σ27 => (mx_is σ27 v0 12).bind fun i30 => (f_X12_box P v0 (200 : Int32) (0 : Int64) (0 : Int64) (0 : Int32) σ27).bind fun σ32 => (mx_lp (f_X12_middle_L104 P v0 v2 v3 y23 x28) (mpN P) ((0 : Int32), σ32)).bind (fun t => (fun σ59 => f_X12_middle_D172 P v0 v3 y23 x28 σ59) t)) = some (r, σ') := hf
        refine lv_aload_n hx hb dX12_middle_84 rfl (lv_at hl 0 rfl) ?_
        refine lv_iload_n hx hb dX12_middle_85 rfl (lv_at hl 1 rfl) ?_
        obtain ⟨i25, e26, hf⟩ := mb0 hf
        obtain ⟨x28, σ27, e29, hf⟩ := mc0 hf
        refine mx_callV (As := [.int v1]) (rest := []) hx hb hml hts hown hK hJ rfl rfl (ci := 12) rfl e26 (c_X12_worked l G P v0 v1 σ24 x28 σ27 e29) me_X12_worked kw_2362 ks_103 kw_2360 (Nat.le_of_ble_eq_true rfl) (Nat.le_of_ble_eq_true rfl) rfl hl.1 rfl (Nat.le_of_ble_eq_true rfl) dX12_middle_86 (fun H locs hJ => ?_)
        refine lv_istore (lv' := [(6, .int x28), (0, .ref v0), (1, .int v1), (2, .int v2), (3, .int v3), (4, .long y23)]) hx hb dX12_middle_89 hl (by decide) rfl (fun ls hl => ?_)
        refine lv_aload_n hx hb dX12_middle_91 rfl (lv_at hl 1 rfl) ?_
        refine lv_sipush (v := 200) hx hb dX12_middle_92 (by decide) ?_
        refine lv_lconst (v := 0) hx hb dX12_middle_95 (by decide) ?_
        refine lv_lconst (v := 0) hx hb dX12_middle_96 (by decide) ?_
        refine lv_iconst (v := 0) hx hb dX12_middle_97 (by decide) ?_
        obtain ⟨i30, e31, hf⟩ := mb0 hf
        obtain ⟨σ32, e33, hf⟩ := mb0 hf
        refine mx_callV (As := [.int (200 : Int32), .long (0 : Int64), .long (0 : Int64), .int (0 : Int32)]) (rest := []) hx hb hml hts hown hK hJ rfl rfl (ci := 12) rfl e31 (c_X12_box l G P v0 (200 : Int32) (0 : Int64) (0 : Int64) (0 : Int32) σ27 σ32 e33) me_X12_box kw_2381 ks_106 kw_2379 (Nat.le_of_ble_eq_true rfl) (Nat.le_of_ble_eq_true rfl) rfl hl.1 rfl (Nat.le_of_ble_eq_true rfl) dX12_middle_98 (fun H locs hJ => ?_)
        refine lv_iconst (v := 0) hx hb dX12_middle_101 (by decide) ?_
        refine lv_istore (lv' := [(7, .int (0 : Int32)), (6, .int x28), (0, .ref v0), (1, .int v1), (2, .int v2), (3, .int v3), (4, .long y23)]) hx hb dX12_middle_102 hl (by decide) rfl (fun ls hl => ?_)
        obtain ⟨o57, e58, hf⟩ := mb0 hf
        refine L104 v0 v2 v3 y23 x28 (mpN P) (0 : Int32) σ32 o57 e58 (fun σ59 ho H locs hJ ls hl => ?_) _ _ hJ ls (lv_sub hl [2, 4, 5, 6, 1, 0] rfl)
        · rw [ho] at hf
          have hf : (f_X12_middle_D172 P v0 v3 y23 x28 σ59) = some (r, σ') := hf
          exact D172 v0 v3 y23 x28 σ59 hf _ _ hJ ls (lv_sub hl [0, 1, 2, 3] rfl)
    · rw [if_neg c9] at hf
      refine lv_lconst (v := 0) hx hb dX12_middle_48 (by decide) ?_
      exact my_lret hx hb hr hlocks hJ hf dX12_middle_49
  have D37 : ∀ (v0 : Nat) (v1 : Int32) (v2 : Int32) (v3 : Int32) (w0 : Nat) (τ : mx_S), f_X12_middle_D37 P v0 v1 v2 v3 w0 τ = some (r, σ') → ∀ (H : Heap) (locs : List Loc), mx_J G P s.heap (mxz σ) (mxu σ) τ H locs → ∀ ls : Array Slot, lv_has ls 8 [(0, .ref v0), (1, .int v1), (2, .int v2), (3, .int v3)] → W p l e (mx_rm P 7 182 σ) s m ([.ref a0, .int p1, .int p2, .int p3] : List Value).toArray below meth c H locs (mxz τ - mxz σ) (mxu τ - mxu σ) (mx_Z below G P (some (.long r)) σ σ' [.ref a0, .int p1, .int p2, .int p3] s) (F0 m 37 ls [.ref w0]) := by
    intro v0 v1 v2 v3 w0 τ hf _ _ hJ ls hl
    unfold f_X12_middle_D37 at hf
    refine lv_iconst (v := 1) hx hb dX12_middle_37 (by decide) ?_
    exact D38 v0 v1 v2 v3 (1 : Int32) w0 τ hf _ _ hJ ls (lv_sub hl [0, 1, 2, 3] rfl)
  unfold f_X12_middle at hf
  refine lv_aload_n hx hb dX12_middle_0 rfl (lv_at hl 0 rfl) ?_
  refine lv_iload_n hx hb dX12_middle_1 rfl (lv_at hl 1 rfl) ?_
  refine lv_i2l hx hb dX12_middle_2 rfl ?_
  refine lv_lconst (v := 0) hx hb dX12_middle_3 (by decide) ?_
  refine lv_ldc2 hx hb hown (hts _ kw_2495) dX12_middle_4 ?_
  obtain ⟨x2, σ1, e3, hf⟩ := mc0 hf
  refine mx_callS (As := [.long (p1.toInt64), .long (0 : Int64), .long (255 : Int64)]) (rest := [.ref a0]) hx hb hml hts hown hK hJ rfl rfl (c_X12_in l G P (p1.toInt64) (0 : Int64) (255 : Int64) σ x2 σ1 e3) me_X12_in kw_2223 kw_2222 (Nat.le_of_ble_eq_true rfl) (Nat.le_of_ble_eq_true rfl) rfl hl.1 rfl (Nat.le_of_ble_eq_true rfl) dX12_middle_7 (fun H locs hJ => ?_)
  refine lv_if_eq (tgt := 37) hx hb dX12_middle_10 (by decide) (fun c4 => ?_) (fun c4 => ?_)
  · rw [if_pos c4] at hf
    exact D37 a0 p1 p2 p3 a0 σ1 hf _ _ hJ ls (lv_sub hl [0, 1, 2, 3] rfl)
  · rw [if_neg c4] at hf
    refine lv_iload_n hx hb dX12_middle_13 rfl (lv_at hl 2 rfl) ?_
    refine lv_i2l hx hb dX12_middle_14 rfl ?_
    refine lv_lconst (v := 0) hx hb dX12_middle_15 (by decide) ?_
    refine lv_lconst (v := 1) hx hb dX12_middle_16 (by decide) ?_
    obtain ⟨x88, σ87, e89, hf⟩ := mc0 hf
    refine mx_callS (As := [.long (p2.toInt64), .long (0 : Int64), .long (1 : Int64)]) (rest := [.ref a0]) hx hb hml hts hown hK hJ rfl rfl (c_X12_in l G P (p2.toInt64) (0 : Int64) (1 : Int64) σ1 x88 σ87 e89) me_X12_in kw_2223 kw_2222 (Nat.le_of_ble_eq_true rfl) (Nat.le_of_ble_eq_true rfl) rfl hl.1 rfl (Nat.le_of_ble_eq_true rfl) dX12_middle_17 (fun H locs hJ => ?_)
    refine lv_if_eq (tgt := 37) hx hb dX12_middle_20 (by decide) (fun c90 => ?_) (fun c90 => ?_)
    · rw [if_pos c90] at hf
      exact D37 a0 p1 p2 p3 a0 σ87 hf _ _ hJ ls (lv_sub hl [0, 1, 2, 3] rfl)
    · rw [if_neg c90] at hf
      refine lv_iload_n hx hb dX12_middle_23 rfl (lv_at hl 3 rfl) ?_
      refine lv_i2l hx hb dX12_middle_24 rfl ?_
      refine lv_lconst (v := 0) hx hb dX12_middle_25 (by decide) ?_
      refine lv_lconst (v := 1) hx hb dX12_middle_26 (by decide) ?_
      obtain ⟨x92, σ91, e93, hf⟩ := mc0 hf
      refine mx_callS (As := [.long (p3.toInt64), .long (0 : Int64), .long (1 : Int64)]) (rest := [.ref a0]) hx hb hml hts hown hK hJ rfl rfl (c_X12_in l G P (p3.toInt64) (0 : Int64) (1 : Int64) σ87 x92 σ91 e93) me_X12_in kw_2223 kw_2222 (Nat.le_of_ble_eq_true rfl) (Nat.le_of_ble_eq_true rfl) rfl hl.1 rfl (Nat.le_of_ble_eq_true rfl) dX12_middle_27 (fun H locs hJ => ?_)
      refine lv_if_eq (tgt := 37) hx hb dX12_middle_30 (by decide) (fun c94 => ?_) (fun c94 => ?_)
      · rw [if_pos c94] at hf
        exact D37 a0 p1 p2 p3 a0 σ91 hf _ _ hJ ls (lv_sub hl [0, 1, 2, 3] rfl)
      · rw [if_neg c94] at hf
        refine lv_iconst (v := 0) hx hb dX12_middle_33 (by decide) ?_
        refine lv_goto (tgt := 38) hx hb dX12_middle_34 (by decide) ?_
        exact D38 a0 p1 p2 p3 (0 : Int32) a0 σ91 hf _ _ hJ ls (lv_sub hl [0, 1, 2, 3] rfl)
set_option maxHeartbeats 4000000 in
set_option maxRecDepth 100000 in
theorem c_X12_gear (l : Launch) (G : mx_G) (P : mx_P) (a0 : Nat) (p1 : Int32) (p2 : Int32) (σ : mx_S) (r : Int32) (σ' : mx_S) (hf : f_X12_gear P a0 p1 p2 σ = some (r, σ')) : mxz σ ≤ mpc P → mxu σ ≤ mps P → mx_M l yX12_gear cX12_gear 3 (some .int) 1 25 G P [.ref a0, .int p1, .int p2] σ (some (.int r)) σ' := by
  intro hcap hcau
  refine mx_ofW (by decide +kernel) hcap hcau (Nat.le_of_ble_eq_true rfl) ?_
  intro p e s m below meth c hx hb hr hml hts hown hlocks hname hK hJ ls hl
  have hz0 := hJ.2.1
  have hown : s.vm.findClass RX12 = some m.cls := hown
  have hl : lv_has ls 3 [(0, .ref a0), (1, .int p1), (2, .int p2)] := hl
  have D45 : ∀ (v0 : Nat) (v1 : Int32) (v2 : Int32) (w0 : Int32) (w1 : Nat) (τ : mx_S), f_X12_gear_D45 P v0 v1 v2 w0 w1 τ = some (r, σ') → ∀ (H : Heap) (locs : List Loc), mx_J G P s.heap (mxz σ) (mxu σ) τ H locs → ∀ ls : Array Slot, lv_has ls 3 [(0, .ref v0), (1, .int v1), (2, .int v2)] → W p l e (mx_rm P 1 25 σ) s m ([.ref a0, .int p1, .int p2] : List Value).toArray below meth c H locs (mxz τ - mxz σ) (mxu τ - mxu σ) (mx_Z below G P (some (.int r)) σ σ' [.ref a0, .int p1, .int p2] s) (F0 m 45 ls [.int w0, .ref w1]) := by
    intro v0 v1 v2 w0 w1 τ hf _ _ hJ ls hl
    unfold f_X12_gear_D45 at hf
    obtain ⟨σ5, e6, hf⟩ := mb0 hf
    refine my_pI hx hb hts hown hK hJ fd_RX12_243 cd_12 (Or.inl rfl) ht_12_0 e6 dX12_gear_45 (fun H locs hJ => ?_)
    refine lv_aload_n hx hb dX12_gear_48 rfl (lv_at hl 0 rfl) ?_
    obtain ⟨x7, e8, hf⟩ := mb0 hf
    refine my_gI hx hb hts hown hK hJ fd_RX12_243 hv_12_0 e8 dX12_gear_49 ?_
    refine lv_if_le (tgt := 57) hx hb dX12_gear_52 (by decide) (fun c9 => ?_) (fun c9 => ?_)
    · rw [if_pos c9] at hf
      refine lv_aload_n hx hb dX12_gear_57 rfl (lv_at hl 0 rfl) ?_
      obtain ⟨b10, e11, hf⟩ := mb0 hf
      refine my_gR hx hb hts hown hK hJ fd_RX12_117 hv_12_58 e11 dX12_gear_58 ?_
      refine lv_aload_n hx hb dX12_gear_61 rfl (lv_at hl 0 rfl) ?_
      obtain ⟨x12, e13, hf⟩ := mb0 hf
      refine my_gI hx hb hts hown hK hJ fd_RX12_615 hv_12_57 e13 dX12_gear_62 ?_
      refine lv_iload_n hx hb dX12_gear_65 rfl (lv_at hl 1 rfl) ?_
      obtain ⟨σ14, e15, hf⟩ := mb0 hf
      refine mx_sI hx hb hK hJ e15 dX12_gear_66 (fun H locs hJ => ?_)
      refine lv_aload_n hx hb dX12_gear_67 rfl (lv_at hl 0 rfl) ?_
      obtain ⟨b16, e17, hf⟩ := mb0 hf
      refine my_gR hx hb hts hown hK hJ fd_RX12_120 hv_12_59 e17 dX12_gear_68 ?_
      refine lv_aload_n hx hb dX12_gear_71 rfl (lv_at hl 0 rfl) ?_
      obtain ⟨x18, e19, hf⟩ := mb0 hf
      refine my_gI hx hb hts hown hK hJ fd_RX12_615 hv_12_57 e19 dX12_gear_72 ?_
      refine lv_iload_n hx hb dX12_gear_75 rfl (lv_at hl 2 rfl) ?_
      obtain ⟨σ20, e21, hf⟩ := mb0 hf
      refine mx_sI hx hb hK hJ e21 dX12_gear_76 (fun H locs hJ => ?_)
      refine lv_aload_n hx hb dX12_gear_77 rfl (lv_at hl 0 rfl) ?_
      refine lv_dup hx hb dX12_gear_78 rfl ?_
      obtain ⟨x22, e23, hf⟩ := mb0 hf
      refine my_gI hx hb hts hown hK hJ fd_RX12_615 hv_12_57 e23 dX12_gear_79 ?_
      refine lv_iconst (v := 1) hx hb dX12_gear_82 (by decide) ?_
      refine lv_iadd hx hb dX12_gear_83 ?_
      obtain ⟨σ24, e25, hf⟩ := mb0 hf
      refine my_pI hx hb hts hown hK hJ fd_RX12_615 cd_12 (Or.inl rfl) ht_12_57 e25 dX12_gear_84 (fun H locs hJ => ?_)
      refine lv_aload_n hx hb dX12_gear_87 rfl (lv_at hl 0 rfl) ?_
      obtain ⟨x26, e27, hf⟩ := mb0 hf
      refine my_gI hx hb hts hown hK hJ fd_RX12_615 hv_12_57 e27 dX12_gear_88 ?_
      refine lv_iconst (v := 1) hx hb dX12_gear_91 (by decide) ?_
      refine lv_isub hx hb dX12_gear_92 ?_
      exact my_iret hx hb hr hlocks hJ hf dX12_gear_93
    · rw [if_neg c9] at hf
      refine lv_iconst (v := 0) hx hb dX12_gear_55 (by decide) ?_
      exact my_iret hx hb hr hlocks hJ hf dX12_gear_56
  have D27 : ∀ (v0 : Nat) (v1 : Int32) (v2 : Int32) (w0 : Nat) (τ : mx_S), f_X12_gear_D27 P v0 v1 v2 w0 τ = some (r, σ') → ∀ (H : Heap) (locs : List Loc), mx_J G P s.heap (mxz σ) (mxu σ) τ H locs → ∀ ls : Array Slot, lv_has ls 3 [(0, .ref v0), (1, .int v1), (2, .int v2)] → W p l e (mx_rm P 1 25 σ) s m ([.ref a0, .int p1, .int p2] : List Value).toArray below meth c H locs (mxz τ - mxz σ) (mxu τ - mxu σ) (mx_Z below G P (some (.int r)) σ σ' [.ref a0, .int p1, .int p2] s) (F0 m 27 ls [.ref w0]) := by
    intro v0 v1 v2 w0 τ hf _ _ hJ ls hl
    unfold f_X12_gear_D27 at hf
    refine lv_iconst (v := 1) hx hb dX12_gear_27 (by decide) ?_
    refine lv_goto (tgt := 45) hx hb dX12_gear_28 (by decide) ?_
    exact D45 v0 v1 v2 (1 : Int32) w0 τ hf _ _ hJ ls (lv_sub hl [0, 1, 2] rfl)
  unfold f_X12_gear at hf
  refine lv_aload_n hx hb dX12_gear_0 rfl (lv_at hl 0 rfl) ?_
  refine lv_iload_n hx hb dX12_gear_1 rfl (lv_at hl 1 rfl) ?_
  refine lv_i2l hx hb dX12_gear_2 rfl ?_
  refine lv_ldc2 hx hb hown (hts _ kw_2595) dX12_gear_3 ?_
  refine lv_ldc2 hx hb hown (hts _ kw_2596) dX12_gear_6 ?_
  obtain ⟨x2, σ1, e3, hf⟩ := mc0 hf
  refine mx_callS (As := [.long (p1.toInt64), .long (4 : Int64), .long (2000 : Int64)]) (rest := [.ref a0]) hx hb hml hts hown hK hJ rfl rfl (c_X12_in l G P (p1.toInt64) (4 : Int64) (2000 : Int64) σ x2 σ1 e3) me_X12_in kw_2223 kw_2222 (Nat.le_of_ble_eq_true rfl) (Nat.le_of_ble_eq_true rfl) rfl hl.1 rfl (Nat.le_of_ble_eq_true rfl) dX12_gear_9 (fun H locs hJ => ?_)
  refine lv_if_eq (tgt := 27) hx hb dX12_gear_12 (by decide) (fun c4 => ?_) (fun c4 => ?_)
  · rw [if_pos c4] at hf
    exact D27 a0 p1 p2 a0 σ1 hf _ _ hJ ls (lv_sub hl [0, 1, 2] rfl)
  · rw [if_neg c4] at hf
    refine lv_iload_n hx hb dX12_gear_15 rfl (lv_at hl 2 rfl) ?_
    refine lv_i2l hx hb dX12_gear_16 rfl ?_
    refine lv_lconst (v := 0) hx hb dX12_gear_17 (by decide) ?_
    refine lv_ldc2 hx hb hown (hts _ kw_2597) dX12_gear_18 ?_
    obtain ⟨x29, σ28, e30, hf⟩ := mc0 hf
    refine mx_callS (As := [.long (p2.toInt64), .long (0 : Int64), .long (11 : Int64)]) (rest := [.ref a0]) hx hb hml hts hown hK hJ rfl rfl (c_X12_in l G P (p2.toInt64) (0 : Int64) (11 : Int64) σ1 x29 σ28 e30) me_X12_in kw_2223 kw_2222 (Nat.le_of_ble_eq_true rfl) (Nat.le_of_ble_eq_true rfl) rfl hl.1 rfl (Nat.le_of_ble_eq_true rfl) dX12_gear_21 (fun H locs hJ => ?_)
    refine lv_if_ne (tgt := 31) hx hb dX12_gear_24 (by decide) (fun c31 => ?_) (fun c31 => ?_)
    · rw [if_neg c31] at hf
      refine lv_aload_n hx hb dX12_gear_31 rfl (lv_at hl 0 rfl) ?_
      obtain ⟨x32, e33, hf⟩ := mb0 hf
      refine my_gI hx hb hts hown hK hJ fd_RX12_615 hv_12_57 e33 dX12_gear_32 ?_
      refine lv_bipush (v := 24) hx hb dX12_gear_35 (by decide) ?_
      refine lv_icmp_ne (tgt := 44) hx hb dX12_gear_37 (by decide) (fun c34 => ?_) (fun c34 => ?_)
      · rw [if_neg c34] at hf
        refine lv_iconst (v := 0) hx hb dX12_gear_44 (by decide) ?_
        exact D45 a0 p1 p2 (0 : Int32) a0 σ28 hf _ _ hJ ls (lv_sub hl [0, 1, 2] rfl)
      · rw [if_pos c34] at hf
        refine lv_iconst (v := 2) hx hb dX12_gear_40 (by decide) ?_
        refine lv_goto (tgt := 45) hx hb dX12_gear_41 (by decide) ?_
        exact D45 a0 p1 p2 (2 : Int32) a0 σ28 hf _ _ hJ ls (lv_sub hl [0, 1, 2] rfl)
    · rw [if_pos c31] at hf
      exact D27 a0 p1 p2 a0 σ28 hf _ _ hJ ls (lv_sub hl [0, 1, 2] rfl)
set_option maxHeartbeats 4000000 in
set_option maxRecDepth 100000 in
theorem c_X12_isGear (l : Launch) (G : mx_G) (P : mx_P) (a0 : Nat) (p1 : Int32) (σ : mx_S) (r : Int32) (σ' : mx_S) (hf : f_X12_isGear P a0 p1 σ = some (r, σ')) : mxz σ ≤ mpc P → mxu σ ≤ mps P → mx_M l yX12_isGear cX12_isGear 2 (some .boolean) 0 0 G P [.ref a0, .int p1] σ (some (.int r)) σ' := by
  intro hcap hcau
  refine mx_ofW (by decide +kernel) hcap hcau (Nat.le_of_ble_eq_true rfl) ?_
  intro p e s m below meth c hx hb hr hml hts hown hlocks hname hK hJ ls hl
  have hz0 := hJ.2.1
  have hown : s.vm.findClass RX12 = some m.cls := hown
  have hl : lv_has ls 2 [(0, .ref a0), (1, .int p1)] := hl
  have D17 : ∀ (w0 : Int32) (τ : mx_S), f_X12_isGear_D17 P w0 τ = some (r, σ') → ∀ (H : Heap) (locs : List Loc), mx_J G P s.heap (mxz σ) (mxu σ) τ H locs → ∀ ls : Array Slot, lv_has ls 2 [] → W p l e (mx_rm P 0 0 σ) s m ([.ref a0, .int p1] : List Value).toArray below meth c H locs (mxz τ - mxz σ) (mxu τ - mxu σ) (mx_Z below G P (some (.int r)) σ σ' [.ref a0, .int p1] s) (F0 m 17 ls [.int w0]) := by
    intro w0 τ hf _ _ hJ ls hl
    unfold f_X12_isGear_D17 at hf
    exact mx_zret hx hb hr hlocks hJ hf dX12_isGear_17
  have D16 : ∀  (τ : mx_S), f_X12_isGear_D16 P  τ = some (r, σ') → ∀ (H : Heap) (locs : List Loc), mx_J G P s.heap (mxz σ) (mxu σ) τ H locs → ∀ ls : Array Slot, lv_has ls 2 [] → W p l e (mx_rm P 0 0 σ) s m ([.ref a0, .int p1] : List Value).toArray below meth c H locs (mxz τ - mxz σ) (mxu τ - mxu σ) (mx_Z below G P (some (.int r)) σ σ' [.ref a0, .int p1] s) (F0 m 16 ls []) := by
    intro  τ hf _ _ hJ ls hl
    unfold f_X12_isGear_D16 at hf
    refine lv_iconst (v := 0) hx hb dX12_isGear_16 (by decide) ?_
    exact D17 (0 : Int32) τ hf _ _ hJ ls (lv_sub hl [] rfl)
  unfold f_X12_isGear at hf
  refine lv_iload_n hx hb dX12_isGear_0 rfl (lv_at hl 1 rfl) ?_
  refine lv_if_lt (tgt := 16) hx hb dX12_isGear_1 (by decide) (fun c1 => ?_) (fun c1 => ?_)
  · rw [if_pos c1] at hf
    exact D16  σ hf _ _ hJ ls (lv_sub hl [] rfl)
  · rw [if_neg c1] at hf
    refine lv_iload_n hx hb dX12_isGear_4 rfl (lv_at hl 1 rfl) ?_
    refine lv_aload_n hx hb dX12_isGear_5 rfl (lv_at hl 0 rfl) ?_
    obtain ⟨x2, e3, hf⟩ := mb0 hf
    refine my_gI hx hb hts hown hK hJ fd_RX12_615 hv_12_57 e3 dX12_isGear_6 ?_
    refine lv_icmp_ge (tgt := 16) hx hb dX12_isGear_9 (by decide) (fun c4 => ?_) (fun c4 => ?_)
    · rw [if_pos c4] at hf
      exact D16  σ hf _ _ hJ ls (lv_sub hl [] rfl)
    · rw [if_neg c4] at hf
      refine lv_iconst (v := 1) hx hb dX12_isGear_12 (by decide) ?_
      refine lv_goto (tgt := 17) hx hb dX12_isGear_13 (by decide) ?_
      exact D17 (1 : Int32) σ hf _ _ hJ ls (lv_sub hl [] rfl)
set_option maxHeartbeats 4000000 in
set_option maxRecDepth 100000 in
theorem c_X12_mesh (l : Launch) (G : mx_G) (P : mx_P) (a0 : Nat) (p1 : Int32) (p2 : Int32) (p3 : Int32) (p4 : Int32) (σ : mx_S) (r : Int32) (σ' : mx_S) (hf : f_X12_mesh P a0 p1 p2 p3 p4 σ = some (r, σ')) : mxz σ ≤ mpc P → mxu σ ≤ mps P → mx_M l yX12_mesh cX12_mesh 6 (some .int) 1 25 G P [.ref a0, .int p1, .int p2, .int p3, .int p4] σ (some (.int r)) σ' := by
  intro hcap hcau
  refine mx_ofW (by decide +kernel) hcap hcau (Nat.le_of_ble_eq_true rfl) ?_
  intro p e s m below meth c hx hb hr hml hts hown hlocks hname hK hJ ls hl
  have hz0 := hJ.2.1
  have hown : s.vm.findClass RX12 = some m.cls := hown
  have hl : lv_has ls 6 [(0, .ref a0), (1, .int p1), (2, .int p2), (3, .int p3), (4, .int p4)] := hl
  have D85 : ∀ (v0 : Nat) (v1 : Int32) (v2 : Int32) (v3 : Int32) (v4 : Int32) (w0 : Int32) (w1 : Nat) (τ : mx_S), f_X12_mesh_D85 P v0 v1 v2 v3 v4 w0 w1 τ = some (r, σ') → ∀ (H : Heap) (locs : List Loc), mx_J G P s.heap (mxz σ) (mxu σ) τ H locs → ∀ ls : Array Slot, lv_has ls 6 [(0, .ref v0), (1, .int v1), (2, .int v2), (3, .int v3), (4, .int v4)] → W p l e (mx_rm P 1 25 σ) s m ([.ref a0, .int p1, .int p2, .int p3, .int p4] : List Value).toArray below meth c H locs (mxz τ - mxz σ) (mxu τ - mxu σ) (mx_Z below G P (some (.int r)) σ σ' [.ref a0, .int p1, .int p2, .int p3, .int p4] s) (F0 m 85 ls [.int w0, .ref w1]) := by
    intro v0 v1 v2 v3 v4 w0 w1 τ hf _ _ hJ ls hl
    unfold f_X12_mesh_D85 at hf
    obtain ⟨σ24, e25, hf⟩ := mb0 hf
    refine my_pI hx hb hts hown hK hJ fd_RX12_243 cd_12 (Or.inl rfl) ht_12_0 e25 dX12_mesh_85 (fun H locs hJ => ?_)
    refine lv_aload_n hx hb dX12_mesh_88 rfl (lv_at hl 0 rfl) ?_
    obtain ⟨x26, e27, hf⟩ := mb0 hf
    refine my_gI hx hb hts hown hK hJ fd_RX12_243 hv_12_0 e27 dX12_mesh_89 ?_
    refine lv_if_le (tgt := 97) hx hb dX12_mesh_92 (by decide) (fun c28 => ?_) (fun c28 => ?_)
    · rw [if_pos c28] at hf
      refine lv_aload_n hx hb dX12_mesh_97 rfl (lv_at hl 0 rfl) ?_
      obtain ⟨b29, e30, hf⟩ := mb0 hf
      refine my_gR hx hb hts hown hK hJ fd_RX12_123 hv_12_61 e30 dX12_mesh_98 ?_
      refine lv_aload_n hx hb dX12_mesh_101 rfl (lv_at hl 0 rfl) ?_
      obtain ⟨x31, e32, hf⟩ := mb0 hf
      refine my_gI hx hb hts hown hK hJ fd_RX12_623 hv_12_60 e32 dX12_mesh_102 ?_
      refine lv_iload_n hx hb dX12_mesh_105 rfl (lv_at hl 1 rfl) ?_
      obtain ⟨σ33, e34, hf⟩ := mb0 hf
      refine mx_sI hx hb hK hJ e34 dX12_mesh_106 (fun H locs hJ => ?_)
      refine lv_aload_n hx hb dX12_mesh_107 rfl (lv_at hl 0 rfl) ?_
      obtain ⟨b35, e36, hf⟩ := mb0 hf
      refine my_gR hx hb hts hown hK hJ fd_RX12_126 hv_12_62 e36 dX12_mesh_108 ?_
      refine lv_aload_n hx hb dX12_mesh_111 rfl (lv_at hl 0 rfl) ?_
      obtain ⟨x37, e38, hf⟩ := mb0 hf
      refine my_gI hx hb hts hown hK hJ fd_RX12_623 hv_12_60 e38 dX12_mesh_112 ?_
      refine lv_iload_n hx hb dX12_mesh_115 rfl (lv_at hl 2 rfl) ?_
      obtain ⟨σ39, e40, hf⟩ := mb0 hf
      refine mx_sI hx hb hK hJ e40 dX12_mesh_116 (fun H locs hJ => ?_)
      refine lv_aload_n hx hb dX12_mesh_117 rfl (lv_at hl 0 rfl) ?_
      obtain ⟨b41, e42, hf⟩ := mb0 hf
      refine my_gR hx hb hts hown hK hJ fd_RX12_129 hv_12_63 e42 dX12_mesh_118 ?_
      refine lv_aload_n hx hb dX12_mesh_121 rfl (lv_at hl 0 rfl) ?_
      obtain ⟨x43, e44, hf⟩ := mb0 hf
      refine my_gI hx hb hts hown hK hJ fd_RX12_623 hv_12_60 e44 dX12_mesh_122 ?_
      refine lv_iload hx hb dX12_mesh_125 (lv_at hl 4 rfl) ?_
      obtain ⟨σ45, e46, hf⟩ := mb0 hf
      refine mx_sI hx hb hK hJ e46 dX12_mesh_127 (fun H locs hJ => ?_)
      refine lv_aload_n hx hb dX12_mesh_128 rfl (lv_at hl 0 rfl) ?_
      obtain ⟨b47, e48, hf⟩ := mb0 hf
      refine my_gR hx hb hts hown hK hJ fd_RX12_132 hv_12_64 e48 dX12_mesh_129 ?_
      refine lv_aload_n hx hb dX12_mesh_132 rfl (lv_at hl 0 rfl) ?_
      obtain ⟨x49, e50, hf⟩ := mb0 hf
      refine my_gI hx hb hts hown hK hJ fd_RX12_623 hv_12_60 e50 dX12_mesh_133 ?_
      refine lv_iload_n hx hb dX12_mesh_136 rfl (lv_at hl 3 rfl) ?_
      obtain ⟨σ51, e52, hf⟩ := mb0 hf
      refine mx_sZ hx hb hK hJ e52 dX12_mesh_137 (fun H locs hJ => ?_)
      refine lv_aload_n hx hb dX12_mesh_138 rfl (lv_at hl 0 rfl) ?_
      refine lv_dup hx hb dX12_mesh_139 rfl ?_
      obtain ⟨x53, e54, hf⟩ := mb0 hf
      refine my_gI hx hb hts hown hK hJ fd_RX12_623 hv_12_60 e54 dX12_mesh_140 ?_
      refine lv_iconst (v := 1) hx hb dX12_mesh_143 (by decide) ?_
      refine lv_iadd hx hb dX12_mesh_144 ?_
      obtain ⟨σ55, e56, hf⟩ := mb0 hf
      refine my_pI hx hb hts hown hK hJ fd_RX12_623 cd_12 (Or.inl rfl) ht_12_60 e56 dX12_mesh_145 (fun H locs hJ => ?_)
      refine lv_aload_n hx hb dX12_mesh_148 rfl (lv_at hl 0 rfl) ?_
      obtain ⟨x57, e58, hf⟩ := mb0 hf
      refine my_gI hx hb hts hown hK hJ fd_RX12_623 hv_12_60 e58 dX12_mesh_149 ?_
      refine lv_iconst (v := 1) hx hb dX12_mesh_152 (by decide) ?_
      refine lv_isub hx hb dX12_mesh_153 ?_
      exact my_iret hx hb hr hlocks hJ hf dX12_mesh_154
    · rw [if_neg c28] at hf
      refine lv_iconst (v := 0) hx hb dX12_mesh_95 (by decide) ?_
      exact my_iret hx hb hr hlocks hJ hf dX12_mesh_96
  have D21 : ∀ (v0 : Nat) (v1 : Int32) (v2 : Int32) (v3 : Int32) (v4 : Int32) (w0 : Int32) (τ : mx_S), f_X12_mesh_D21 P v0 v1 v2 v3 v4 w0 τ = some (r, σ') → ∀ (H : Heap) (locs : List Loc), mx_J G P s.heap (mxz σ) (mxu σ) τ H locs → ∀ ls : Array Slot, lv_has ls 6 [(0, .ref v0), (1, .int v1), (2, .int v2), (3, .int v3), (4, .int v4)] → W p l e (mx_rm P 1 25 σ) s m ([.ref a0, .int p1, .int p2, .int p3, .int p4] : List Value).toArray below meth c H locs (mxz τ - mxz σ) (mxu τ - mxu σ) (mx_Z below G P (some (.int r)) σ σ' [.ref a0, .int p1, .int p2, .int p3, .int p4] s) (F0 m 21 ls [.int w0]) := by
    intro v0 v1 v2 v3 v4 w0 τ hf _ _ hJ ls hl
    unfold f_X12_mesh_D21 at hf
    refine lv_istore (lv' := [(5, .int w0), (0, .ref v0), (1, .int v1), (2, .int v2), (3, .int v3), (4, .int v4)]) hx hb dX12_mesh_21 hl (by decide) rfl (fun ls hl => ?_)
    refine lv_aload_n hx hb dX12_mesh_23 rfl (lv_at hl 1 rfl) ?_
    refine lv_iload hx hb dX12_mesh_24 (lv_at hl 5 rfl) ?_
    refine lv_i2l hx hb dX12_mesh_26 rfl ?_
    refine lv_ldc2 hx hb hown (hts _ kw_2606) dX12_mesh_27 ?_
    refine lv_ldc2 hx hb hown (hts _ kw_2597) dX12_mesh_30 ?_
    obtain ⟨x8, σ7, e9, hf⟩ := mc0 hf
    refine mx_callS (As := [.long (v4.toInt64), .long (-1 : Int64), .long (11 : Int64)]) (rest := [.ref v0]) hx hb hml hts hown hK hJ rfl rfl (c_X12_in l G P (v4.toInt64) (-1 : Int64) (11 : Int64) τ x8 σ7 e9) me_X12_in kw_2223 kw_2222 (Nat.le_of_ble_eq_true rfl) (Nat.le_of_ble_eq_true rfl) rfl hl.1 rfl (Nat.le_of_ble_eq_true rfl) dX12_mesh_33 (fun H locs hJ => ?_)
    refine lv_if_ne (tgt := 43) hx hb dX12_mesh_36 (by decide) (fun c10 => ?_) (fun c10 => ?_)
    · rw [if_neg c10] at hf
      refine lv_iload hx hb dX12_mesh_43 (lv_at hl 0 rfl) ?_
      refine lv_if_ne (tgt := 52) hx hb dX12_mesh_45 (by decide) (fun c11 => ?_) (fun c11 => ?_)
      · rw [if_neg c11] at hf
        refine lv_aload_n hx hb dX12_mesh_52 rfl (lv_at hl 1 rfl) ?_
        obtain ⟨b12, e13, hf⟩ := mb0 hf
        refine my_gR hx hb hts hown hK hJ fd_RX12_120 hv_12_59 e13 dX12_mesh_53 ?_
        refine lv_iload_n hx hb dX12_mesh_56 rfl (lv_at hl 2 rfl) ?_
        obtain ⟨x14, e15, hf⟩ := mb0 hf
        refine mx_aI hx hb hK hJ e15 dX12_mesh_57 ?_
        refine lv_aload_n hx hb dX12_mesh_58 rfl (lv_at hl 1 rfl) ?_
        obtain ⟨b16, e17, hf⟩ := mb0 hf
        refine my_gR hx hb hts hown hK hJ fd_RX12_120 hv_12_59 e17 dX12_mesh_59 ?_
        refine lv_iload_n hx hb dX12_mesh_62 rfl (lv_at hl 3 rfl) ?_
        obtain ⟨x18, e19, hf⟩ := mb0 hf
        refine mx_aI hx hb hK hJ e19 dX12_mesh_63 ?_
        refine lv_icmp_ne (tgt := 71) hx hb dX12_mesh_64 (by decide) (fun c20 => ?_) (fun c20 => ?_)
        · rw [if_neg c20] at hf
          refine lv_aload_n hx hb dX12_mesh_71 rfl (lv_at hl 1 rfl) ?_
          obtain ⟨x21, e22, hf⟩ := mb0 hf
          refine my_gI hx hb hts hown hK hJ fd_RX12_623 hv_12_60 e22 dX12_mesh_72 ?_
          refine lv_bipush (v := 20) hx hb dX12_mesh_75 (by decide) ?_
          refine lv_icmp_ne (tgt := 84) hx hb dX12_mesh_77 (by decide) (fun c23 => ?_) (fun c23 => ?_)
          · rw [if_neg c23] at hf
            refine lv_iconst (v := 0) hx hb dX12_mesh_84 (by decide) ?_
            exact D85 v0 v1 v2 v3 v4 (0 : Int32) v0 σ7 hf _ _ hJ ls (lv_sub hl [1, 2, 3, 4, 5] rfl)
          · rw [if_pos c23] at hf
            refine lv_iconst (v := 4) hx hb dX12_mesh_80 (by decide) ?_
            refine lv_goto (tgt := 85) hx hb dX12_mesh_81 (by decide) ?_
            exact D85 v0 v1 v2 v3 v4 (4 : Int32) v0 σ7 hf _ _ hJ ls (lv_sub hl [1, 2, 3, 4, 5] rfl)
        · rw [if_pos c20] at hf
          refine lv_iconst (v := 3) hx hb dX12_mesh_67 (by decide) ?_
          refine lv_goto (tgt := 85) hx hb dX12_mesh_68 (by decide) ?_
          exact D85 v0 v1 v2 v3 v4 (3 : Int32) v0 σ7 hf _ _ hJ ls (lv_sub hl [1, 2, 3, 4, 5] rfl)
      · rw [if_pos c11] at hf
        refine lv_iconst (v := 2) hx hb dX12_mesh_48 (by decide) ?_
        refine lv_goto (tgt := 85) hx hb dX12_mesh_49 (by decide) ?_
        exact D85 v0 v1 v2 v3 v4 (2 : Int32) v0 σ7 hf _ _ hJ ls (lv_sub hl [1, 2, 3, 4, 5] rfl)
    · rw [if_pos c10] at hf
      refine lv_iconst (v := 1) hx hb dX12_mesh_39 (by decide) ?_
      refine lv_goto (tgt := 85) hx hb dX12_mesh_40 (by decide) ?_
      exact D85 v0 v1 v2 v3 v4 (1 : Int32) v0 σ7 hf _ _ hJ ls (lv_sub hl [1, 2, 3, 4, 5] rfl)
  have D20 : ∀ (v0 : Nat) (v1 : Int32) (v2 : Int32) (v3 : Int32) (v4 : Int32) (τ : mx_S), f_X12_mesh_D20 P v0 v1 v2 v3 v4 τ = some (r, σ') → ∀ (H : Heap) (locs : List Loc), mx_J G P s.heap (mxz σ) (mxu σ) τ H locs → ∀ ls : Array Slot, lv_has ls 6 [(0, .ref v0), (1, .int v1), (2, .int v2), (3, .int v3), (4, .int v4)] → W p l e (mx_rm P 1 25 σ) s m ([.ref a0, .int p1, .int p2, .int p3, .int p4] : List Value).toArray below meth c H locs (mxz τ - mxz σ) (mxu τ - mxu σ) (mx_Z below G P (some (.int r)) σ σ' [.ref a0, .int p1, .int p2, .int p3, .int p4] s) (F0 m 20 ls []) := by
    intro v0 v1 v2 v3 v4 τ hf _ _ hJ ls hl
    unfold f_X12_mesh_D20 at hf
    refine lv_iconst (v := 0) hx hb dX12_mesh_20 (by decide) ?_
    exact D21 v0 v1 v2 v3 v4 (0 : Int32) τ hf _ _ hJ ls (lv_sub hl [0, 1, 2, 3, 4] rfl)
  unfold f_X12_mesh at hf
  refine lv_aload_n hx hb dX12_mesh_0 rfl (lv_at hl 0 rfl) ?_
  refine lv_iload_n hx hb dX12_mesh_1 rfl (lv_at hl 1 rfl) ?_
  obtain ⟨i1, e2, hf⟩ := mb0 hf
  obtain ⟨x4, σ3, e5, hf⟩ := mc0 hf
  refine mx_callV (As := [.int p1]) (rest := []) hx hb hml hts hown hK hJ rfl rfl (ci := 12) rfl e2 (c_X12_isGear l G P a0 p1 σ x4 σ3 e5) me_X12_isGear kw_2604 ks_143 kw_2602 (Nat.le_of_ble_eq_true rfl) (Nat.le_of_ble_eq_true rfl) rfl hl.1 rfl (Nat.le_of_ble_eq_true rfl) dX12_mesh_2 (fun H locs hJ => ?_)
  refine lv_if_eq (tgt := 20) hx hb dX12_mesh_5 (by decide) (fun c6 => ?_) (fun c6 => ?_)
  · rw [if_pos c6] at hf
    exact D20 a0 p1 p2 p3 p4 σ3 hf _ _ hJ ls (lv_sub hl [0, 1, 2, 3, 4] rfl)
  · rw [if_neg c6] at hf
    refine lv_aload_n hx hb dX12_mesh_8 rfl (lv_at hl 0 rfl) ?_
    refine lv_iload_n hx hb dX12_mesh_9 rfl (lv_at hl 2 rfl) ?_
    obtain ⟨i59, e60, hf⟩ := mb0 hf
    obtain ⟨x62, σ61, e63, hf⟩ := mc0 hf
    refine mx_callV (As := [.int p2]) (rest := []) hx hb hml hts hown hK hJ rfl rfl (ci := 12) rfl e60 (c_X12_isGear l G P a0 p2 σ3 x62 σ61 e63) me_X12_isGear kw_2604 ks_143 kw_2602 (Nat.le_of_ble_eq_true rfl) (Nat.le_of_ble_eq_true rfl) rfl hl.1 rfl (Nat.le_of_ble_eq_true rfl) dX12_mesh_10 (fun H locs hJ => ?_)
    refine lv_if_eq (tgt := 20) hx hb dX12_mesh_13 (by decide) (fun c64 => ?_) (fun c64 => ?_)
    · rw [if_pos c64] at hf
      exact D20 a0 p1 p2 p3 p4 σ61 hf _ _ hJ ls (lv_sub hl [0, 1, 2, 3, 4] rfl)
    · rw [if_neg c64] at hf
      refine lv_iconst (v := 1) hx hb dX12_mesh_16 (by decide) ?_
      refine lv_goto (tgt := 21) hx hb dX12_mesh_17 (by decide) ?_
      exact D21 a0 p1 p2 p3 p4 (1 : Int32) σ61 hf _ _ hJ ls (lv_sub hl [0, 1, 2, 3, 4] rfl)
set_option maxHeartbeats 4000000 in
set_option maxRecDepth 100000 in
theorem c_X12_shaft (l : Launch) (G : mx_G) (P : mx_P) (a0 : Nat) (p1 : Int32) (p2 : Int32) (p3 : Int32) (p4 : Int32) (σ : mx_S) (σ' : mx_S) (hf : f_X12_shaft P a0 p1 p2 p3 p4 σ = some σ') : mxz σ ≤ mpc P → mxu σ ≤ mps P → mx_M l yX12_shaft cX12_shaft 6 none 1 25 G P [.ref a0, .int p1, .int p2, .int p3, .int p4] σ none σ' := by
  intro hcap hcau
  refine mx_ofW (by decide +kernel) hcap hcau (Nat.le_of_ble_eq_true rfl) ?_
  intro p e s m below meth c hx hb hr hml hts hown hlocks hname hK hJ ls hl
  have hz0 := hJ.2.1
  have hown : s.vm.findClass RX12 = some m.cls := hown
  have hl : lv_has ls 6 [(0, .ref a0), (1, .int p1), (2, .int p2), (3, .int p3), (4, .int p4)] := hl
  have D124 : ∀ (w0 : Int32) (w1 : Int32) (w2 : Nat) (τ : mx_S), f_X12_shaft_D124 P w0 w1 w2 τ = some σ' → ∀ (H : Heap) (locs : List Loc), mx_J G P s.heap (mxz σ) (mxu σ) τ H locs → ∀ ls : Array Slot, lv_has ls 6 [] → W p l e (mx_rm P 1 25 σ) s m ([.ref a0, .int p1, .int p2, .int p3, .int p4] : List Value).toArray below meth c H locs (mxz τ - mxz σ) (mxu τ - mxu σ) (mx_Z below G P none σ σ' [.ref a0, .int p1, .int p2, .int p3, .int p4] s) (F0 m 124 ls [.int w0, .int w1, .ref w2]) := by
    intro w0 w1 w2 τ hf _ _ hJ ls hl
    unfold f_X12_shaft_D124 at hf
    obtain ⟨σ23, e24, hf⟩ := mb0 hf
    refine mx_sI hx hb hK hJ e24 dX12_shaft_124 (fun H locs hJ => ?_)
    exact my_vret hx hb hr hlocks hJ hf dX12_shaft_125
  have D107 : ∀ (v0 : Nat) (v1 : Int32) (v2 : Int32) (v4 : Int32) (w0 : Int32) (w1 : Int32) (w2 : Nat) (τ : mx_S), f_X12_shaft_D107 P v0 v1 v2 v4 w0 w1 w2 τ = some σ' → ∀ (H : Heap) (locs : List Loc), mx_J G P s.heap (mxz σ) (mxu σ) τ H locs → ∀ ls : Array Slot, lv_has ls 6 [(0, .ref v0), (1, .int v1), (2, .int v2), (4, .int v4)] → W p l e (mx_rm P 1 25 σ) s m ([.ref a0, .int p1, .int p2, .int p3, .int p4] : List Value).toArray below meth c H locs (mxz τ - mxz σ) (mxu τ - mxu σ) (mx_Z below G P none σ σ' [.ref a0, .int p1, .int p2, .int p3, .int p4] s) (F0 m 107 ls [.int w0, .int w1, .ref w2]) := by
    intro v0 v1 v2 v4 w0 w1 w2 τ hf _ _ hJ ls hl
    unfold f_X12_shaft_D107 at hf
    obtain ⟨σ18, e19, hf⟩ := mb0 hf
    refine mx_sI hx hb hK hJ e19 dX12_shaft_107 (fun H locs hJ => ?_)
    refine lv_aload_n hx hb dX12_shaft_108 rfl (lv_at hl 0 rfl) ?_
    obtain ⟨b20, e21, hf⟩ := mb0 hf
    refine my_gR hx hb hts hown hK hJ fd_RX12_141 hv_12_67 e21 dX12_shaft_109 ?_
    refine lv_iload_n hx hb dX12_shaft_112 rfl (lv_at hl 1 rfl) ?_
    refine lv_iload_n hx hb dX12_shaft_113 rfl (lv_at hl 2 rfl) ?_
    refine lv_iconst (v := 2) hx hb dX12_shaft_114 (by decide) ?_
    refine lv_icmp_ne (tgt := 123) hx hb dX12_shaft_115 (by decide) (fun c22 => ?_) (fun c22 => ?_)
    · rw [if_neg c22] at hf
      refine lv_iconst (v := 1) hx hb dX12_shaft_123 (by decide) ?_
      exact D124 (1 : Int32) v1 b20 σ18 hf _ _ hJ ls (lv_sub hl [] rfl)
    · rw [if_pos c22] at hf
      refine lv_iload hx hb dX12_shaft_118 (lv_at hl 3 rfl) ?_
      refine lv_goto (tgt := 124) hx hb dX12_shaft_120 (by decide) ?_
      exact D124 v4 v1 b20 σ18 hf _ _ hJ ls (lv_sub hl [] rfl)
  have D74 : ∀ (v0 : Nat) (v1 : Int32) (v2 : Int32) (v3 : Int32) (v4 : Int32) (w0 : Int32) (w1 : Nat) (τ : mx_S), f_X12_shaft_D74 P v0 v1 v2 v3 v4 w0 w1 τ = some σ' → ∀ (H : Heap) (locs : List Loc), mx_J G P s.heap (mxz σ) (mxu σ) τ H locs → ∀ ls : Array Slot, lv_has ls 6 [(0, .ref v0), (1, .int v1), (2, .int v2), (3, .int v3), (4, .int v4)] → W p l e (mx_rm P 1 25 σ) s m ([.ref a0, .int p1, .int p2, .int p3, .int p4] : List Value).toArray below meth c H locs (mxz τ - mxz σ) (mxu τ - mxu σ) (mx_Z below G P none σ σ' [.ref a0, .int p1, .int p2, .int p3, .int p4] s) (F0 m 74 ls [.int w0, .ref w1]) := by
    intro v0 v1 v2 v3 v4 w0 w1 τ hf _ _ hJ ls hl
    unfold f_X12_shaft_D74 at hf
    obtain ⟨σ6, e7, hf⟩ := mb0 hf
    refine my_pI hx hb hts hown hK hJ fd_RX12_243 cd_12 (Or.inl rfl) ht_12_0 e7 dX12_shaft_74 (fun H locs hJ => ?_)
    refine lv_aload_n hx hb dX12_shaft_77 rfl (lv_at hl 0 rfl) ?_
    obtain ⟨x8, e9, hf⟩ := mb0 hf
    refine my_gI hx hb hts hown hK hJ fd_RX12_243 hv_12_0 e9 dX12_shaft_78 ?_
    refine lv_if_le (tgt := 85) hx hb dX12_shaft_81 (by decide) (fun c10 => ?_) (fun c10 => ?_)
    · rw [if_pos c10] at hf
      refine lv_aload_n hx hb dX12_shaft_85 rfl (lv_at hl 0 rfl) ?_
      obtain ⟨b11, e12, hf⟩ := mb0 hf
      refine my_gR hx hb hts hown hK hJ fd_RX12_135 hv_12_65 e12 dX12_shaft_86 ?_
      refine lv_iload_n hx hb dX12_shaft_89 rfl (lv_at hl 1 rfl) ?_
      refine lv_iload_n hx hb dX12_shaft_90 rfl (lv_at hl 2 rfl) ?_
      obtain ⟨σ13, e14, hf⟩ := mb0 hf
      refine mx_sI hx hb hK hJ e14 dX12_shaft_91 (fun H locs hJ => ?_)
      refine lv_aload_n hx hb dX12_shaft_92 rfl (lv_at hl 0 rfl) ?_
      obtain ⟨b15, e16, hf⟩ := mb0 hf
      refine my_gR hx hb hts hown hK hJ fd_RX12_138 hv_12_66 e16 dX12_shaft_93 ?_
      refine lv_iload_n hx hb dX12_shaft_96 rfl (lv_at hl 1 rfl) ?_
      refine lv_iload_n hx hb dX12_shaft_97 rfl (lv_at hl 2 rfl) ?_
      refine lv_iconst (v := 2) hx hb dX12_shaft_98 (by decide) ?_
      refine lv_icmp_ne (tgt := 106) hx hb dX12_shaft_99 (by decide) (fun c17 => ?_) (fun c17 => ?_)
      · rw [if_neg c17] at hf
        refine lv_iconst (v := 0) hx hb dX12_shaft_106 (by decide) ?_
        exact D107 v0 v1 v2 v4 (0 : Int32) v1 b15 σ13 hf _ _ hJ ls (lv_sub hl [0, 1, 2, 4] rfl)
      · rw [if_pos c17] at hf
        refine lv_iload_n hx hb dX12_shaft_102 rfl (lv_at hl 3 rfl) ?_
        refine lv_goto (tgt := 107) hx hb dX12_shaft_103 (by decide) ?_
        exact D107 v0 v1 v2 v4 v3 v1 b15 σ13 hf _ _ hJ ls (lv_sub hl [0, 1, 2, 4] rfl)
    · rw [if_neg c10] at hf
      exact my_vret hx hb hr hlocks hJ hf dX12_shaft_84
  have D61 : ∀ (v0 : Nat) (v1 : Int32) (v2 : Int32) (v3 : Int32) (v4 : Int32) (w0 : Int32) (τ : mx_S), f_X12_shaft_D61 P v0 v1 v2 v3 v4 w0 τ = some σ' → ∀ (H : Heap) (locs : List Loc), mx_J G P s.heap (mxz σ) (mxu σ) τ H locs → ∀ ls : Array Slot, lv_has ls 6 [(0, .ref v0), (1, .int v1), (2, .int v2), (3, .int v3), (4, .int v4)] → W p l e (mx_rm P 1 25 σ) s m ([.ref a0, .int p1, .int p2, .int p3, .int p4] : List Value).toArray below meth c H locs (mxz τ - mxz σ) (mxu τ - mxu σ) (mx_Z below G P none σ σ' [.ref a0, .int p1, .int p2, .int p3, .int p4] s) (F0 m 61 ls [.int w0]) := by
    intro v0 v1 v2 v3 v4 w0 τ hf _ _ hJ ls hl
    unfold f_X12_shaft_D61 at hf
    refine lv_istore (lv' := [(5, .int w0), (0, .ref v0), (1, .int v1), (2, .int v2), (3, .int v3), (4, .int v4)]) hx hb dX12_shaft_61 hl (by decide) rfl (fun ls hl => ?_)
    refine lv_aload_n hx hb dX12_shaft_63 rfl (lv_at hl 1 rfl) ?_
    refine lv_iload hx hb dX12_shaft_64 (lv_at hl 0 rfl) ?_
    refine lv_if_eq (tgt := 73) hx hb dX12_shaft_66 (by decide) (fun c5 => ?_) (fun c5 => ?_)
    · rw [if_pos c5] at hf
      refine lv_iconst (v := 1) hx hb dX12_shaft_73 (by decide) ?_
      exact D74 v0 v1 v2 v3 v4 (1 : Int32) v0 τ hf _ _ hJ ls (lv_sub hl [1, 2, 3, 4, 5] rfl)
    · rw [if_neg c5] at hf
      refine lv_iconst (v := 0) hx hb dX12_shaft_69 (by decide) ?_
      refine lv_goto (tgt := 74) hx hb dX12_shaft_70 (by decide) ?_
      exact D74 v0 v1 v2 v3 v4 (0 : Int32) v0 τ hf _ _ hJ ls (lv_sub hl [1, 2, 3, 4, 5] rfl)
  have D60 : ∀ (v0 : Nat) (v1 : Int32) (v2 : Int32) (v3 : Int32) (v4 : Int32) (τ : mx_S), f_X12_shaft_D60 P v0 v1 v2 v3 v4 τ = some σ' → ∀ (H : Heap) (locs : List Loc), mx_J G P s.heap (mxz σ) (mxu σ) τ H locs → ∀ ls : Array Slot, lv_has ls 6 [(0, .ref v0), (1, .int v1), (2, .int v2), (3, .int v3), (4, .int v4)] → W p l e (mx_rm P 1 25 σ) s m ([.ref a0, .int p1, .int p2, .int p3, .int p4] : List Value).toArray below meth c H locs (mxz τ - mxz σ) (mxu τ - mxu σ) (mx_Z below G P none σ σ' [.ref a0, .int p1, .int p2, .int p3, .int p4] s) (F0 m 60 ls []) := by
    intro v0 v1 v2 v3 v4 τ hf _ _ hJ ls hl
    unfold f_X12_shaft_D60 at hf
    refine lv_iconst (v := 0) hx hb dX12_shaft_60 (by decide) ?_
    exact D61 v0 v1 v2 v3 v4 (0 : Int32) τ hf _ _ hJ ls (lv_sub hl [0, 1, 2, 3, 4] rfl)
  have D56 : ∀ (v0 : Nat) (v1 : Int32) (v2 : Int32) (v3 : Int32) (v4 : Int32) (τ : mx_S), f_X12_shaft_D56 P v0 v1 v2 v3 v4 τ = some σ' → ∀ (H : Heap) (locs : List Loc), mx_J G P s.heap (mxz σ) (mxu σ) τ H locs → ∀ ls : Array Slot, lv_has ls 6 [(0, .ref v0), (1, .int v1), (2, .int v2), (3, .int v3), (4, .int v4)] → W p l e (mx_rm P 1 25 σ) s m ([.ref a0, .int p1, .int p2, .int p3, .int p4] : List Value).toArray below meth c H locs (mxz τ - mxz σ) (mxu τ - mxu σ) (mx_Z below G P none σ σ' [.ref a0, .int p1, .int p2, .int p3, .int p4] s) (F0 m 56 ls []) := by
    intro v0 v1 v2 v3 v4 τ hf _ _ hJ ls hl
    unfold f_X12_shaft_D56 at hf
    refine lv_iconst (v := 1) hx hb dX12_shaft_56 (by decide) ?_
    refine lv_goto (tgt := 61) hx hb dX12_shaft_57 (by decide) ?_
    exact D61 v0 v1 v2 v3 v4 (1 : Int32) τ hf _ _ hJ ls (lv_sub hl [0, 1, 2, 3, 4] rfl)
  unfold f_X12_shaft at hf
  refine lv_iload_n hx hb dX12_shaft_0 rfl (lv_at hl 1 rfl) ?_
  refine lv_i2l hx hb dX12_shaft_1 rfl ?_
  refine lv_lconst (v := 0) hx hb dX12_shaft_2 (by decide) ?_
  refine lv_ldc2 hx hb hown (hts _ kw_2597) dX12_shaft_3 ?_
  obtain ⟨x2, σ1, e3, hf⟩ := mc0 hf
  refine mx_callS (As := [.long (p1.toInt64), .long (0 : Int64), .long (11 : Int64)]) (rest := []) hx hb hml hts hown hK hJ rfl rfl (c_X12_in l G P (p1.toInt64) (0 : Int64) (11 : Int64) σ x2 σ1 e3) me_X12_in kw_2223 kw_2222 (Nat.le_of_ble_eq_true rfl) (Nat.le_of_ble_eq_true rfl) rfl hl.1 rfl (Nat.le_of_ble_eq_true rfl) dX12_shaft_6 (fun H locs hJ => ?_)
  refine lv_if_eq (tgt := 60) hx hb dX12_shaft_9 (by decide) (fun c4 => ?_) (fun c4 => ?_)
  · rw [if_pos c4] at hf
    exact D60 a0 p1 p2 p3 p4 σ1 hf _ _ hJ ls (lv_sub hl [0, 1, 2, 3, 4] rfl)
  · rw [if_neg c4] at hf
    refine lv_iload_n hx hb dX12_shaft_12 rfl (lv_at hl 2 rfl) ?_
    refine lv_i2l hx hb dX12_shaft_13 rfl ?_
    refine lv_lconst (v := 0) hx hb dX12_shaft_14 (by decide) ?_
    refine lv_ldc2 hx hb hown (hts _ kw_2447) dX12_shaft_15 ?_
    obtain ⟨x26, σ25, e27, hf⟩ := mc0 hf
    refine mx_callS (As := [.long (p2.toInt64), .long (0 : Int64), .long (2 : Int64)]) (rest := []) hx hb hml hts hown hK hJ rfl rfl (c_X12_in l G P (p2.toInt64) (0 : Int64) (2 : Int64) σ1 x26 σ25 e27) me_X12_in kw_2223 kw_2222 (Nat.le_of_ble_eq_true rfl) (Nat.le_of_ble_eq_true rfl) rfl hl.1 rfl (Nat.le_of_ble_eq_true rfl) dX12_shaft_18 (fun H locs hJ => ?_)
    refine lv_if_eq (tgt := 60) hx hb dX12_shaft_21 (by decide) (fun c28 => ?_) (fun c28 => ?_)
    · rw [if_pos c28] at hf
      exact D60 a0 p1 p2 p3 p4 σ25 hf _ _ hJ ls (lv_sub hl [0, 1, 2, 3, 4] rfl)
    · rw [if_neg c28] at hf
      refine lv_iload_n hx hb dX12_shaft_24 rfl (lv_at hl 2 rfl) ?_
      refine lv_iconst (v := 2) hx hb dX12_shaft_25 (by decide) ?_
      refine lv_icmp_ne (tgt := 56) hx hb dX12_shaft_26 (by decide) (fun c29 => ?_) (fun c29 => ?_)
      · rw [if_neg c29] at hf
        exact D56 a0 p1 p2 p3 p4 σ25 hf _ _ hJ ls (lv_sub hl [0, 1, 2, 3, 4] rfl)
      · rw [if_pos c29] at hf
        refine lv_iload_n hx hb dX12_shaft_29 rfl (lv_at hl 3 rfl) ?_
        refine lv_i2l hx hb dX12_shaft_30 rfl ?_
        refine lv_ldc2 hx hb hown (hts _ kw_2573) dX12_shaft_31 ?_
        refine lv_ldc2 hx hb hown (hts _ kw_2574) dX12_shaft_34 ?_
        obtain ⟨x31, σ30, e32, hf⟩ := mc0 hf
        refine mx_callS (As := [.long (p3.toInt64), .long (-1000 : Int64), .long (1000 : Int64)]) (rest := []) hx hb hml hts hown hK hJ rfl rfl (c_X12_in l G P (p3.toInt64) (-1000 : Int64) (1000 : Int64) σ25 x31 σ30 e32) me_X12_in kw_2223 kw_2222 (Nat.le_of_ble_eq_true rfl) (Nat.le_of_ble_eq_true rfl) rfl hl.1 rfl (Nat.le_of_ble_eq_true rfl) dX12_shaft_37 (fun H locs hJ => ?_)
        refine lv_if_eq (tgt := 60) hx hb dX12_shaft_40 (by decide) (fun c33 => ?_) (fun c33 => ?_)
        · rw [if_pos c33] at hf
          exact D60 a0 p1 p2 p3 p4 σ30 hf _ _ hJ ls (lv_sub hl [0, 1, 2, 3, 4] rfl)
        · rw [if_neg c33] at hf
          refine lv_iload hx hb dX12_shaft_43 (lv_at hl 4 rfl) ?_
          refine lv_i2l hx hb dX12_shaft_45 rfl ?_
          refine lv_lconst (v := 1) hx hb dX12_shaft_46 (by decide) ?_
          refine lv_ldc2 hx hb hown (hts _ kw_2574) dX12_shaft_47 ?_
          obtain ⟨x35, σ34, e36, hf⟩ := mc0 hf
          refine mx_callS (As := [.long (p4.toInt64), .long (1 : Int64), .long (1000 : Int64)]) (rest := []) hx hb hml hts hown hK hJ rfl rfl (c_X12_in l G P (p4.toInt64) (1 : Int64) (1000 : Int64) σ30 x35 σ34 e36) me_X12_in kw_2223 kw_2222 (Nat.le_of_ble_eq_true rfl) (Nat.le_of_ble_eq_true rfl) rfl hl.1 rfl (Nat.le_of_ble_eq_true rfl) dX12_shaft_50 (fun H locs hJ => ?_)
          refine lv_if_eq (tgt := 60) hx hb dX12_shaft_53 (by decide) (fun c37 => ?_) (fun c37 => ?_)
          · rw [if_pos c37] at hf
            exact D60 a0 p1 p2 p3 p4 σ34 hf _ _ hJ ls (lv_sub hl [0, 1, 2, 3, 4] rfl)
          · rw [if_neg c37] at hf
            exact D56 a0 p1 p2 p3 p4 σ34 hf _ _ hJ ls (lv_sub hl [0, 1, 2, 3, 4] rfl)
set_option maxHeartbeats 4000000 in
set_option maxRecDepth 100000 in
theorem c_X12_clear (l : Launch) (G : mx_G) (P : mx_P) (a0 : Nat) (σ : mx_S) (σ' : mx_S) (hf : f_X12_clear P a0 σ = some σ') : mxz σ ≤ mpc P → mxu σ ≤ mps P → mx_M l yX12_clear cX12_clear 2 none 0 0 G P [.ref a0] σ none σ' := by
  intro hcap hcau
  refine mx_ofW (by decide +kernel) hcap hcau (Nat.le_of_ble_eq_true rfl) ?_
  intro p e s m below meth c hx hb hr hml hts hown hlocks hname hK hJ ls hl
  have hz0 := hJ.2.1
  have hown : s.vm.findClass RX12 = some m.cls := hown
  have hl : lv_has ls 2 [(0, .ref a0)] := hl
  have B17 : ∀ (v0 : Nat) (v1 : Int32) (τ : mx_S) (o : (Int32 × mx_S) ⊕ ((mx_S))), f_X12_clear_B17 P v0 v1 τ = some o → (∀ (y1 : Int32) (υ : mx_S), o = .inl (y1, υ) → ∀ (H : Heap) (locs : List Loc), mx_J G P s.heap (mxz σ) (mxu σ) υ H locs → ∀ ls : Array Slot, lv_has ls 2 [(0, .ref v0), (1, .int y1)] → W p l e (mx_rm P 0 0 σ) s m ([.ref a0] : List Value).toArray below meth c H locs (mxz υ - mxz σ) (mxu υ - mxu σ) (mx_Z below G P none σ σ' [.ref a0] s) (F0 m 17 ls [])) → (∀  (υ : mx_S), o = .inr υ → ∀ (H : Heap) (locs : List Loc), mx_J G P s.heap (mxz σ) (mxu σ) υ H locs → ∀ ls : Array Slot, lv_has ls 2 [] → W p l e (mx_rm P 0 0 σ) s m ([.ref a0] : List Value).toArray below meth c H locs (mxz υ - mxz σ) (mxu υ - mxu σ) (mx_Z below G P none σ σ' [.ref a0] s) (F0 m 36 ls [])) → ∀ (H : Heap) (locs : List Loc), mx_J G P s.heap (mxz σ) (mxu σ) τ H locs → ∀ ls : Array Slot, lv_has ls 2 [(0, .ref v0), (1, .int v1)] → W p l e (mx_rm P 0 0 σ) s m ([.ref a0] : List Value).toArray below meth c H locs (mxz τ - mxz σ) (mxu τ - mxu σ) (mx_Z below G P none σ σ' [.ref a0] s) (F0 m 17 ls []) := by
    intro v0 v1 τ o hf Kb Ke0 H locs hJ ls hl
    unfold f_X12_clear_B17 at hf
    refine lv_iload_n hx hb dX12_clear_17 rfl (lv_at hl 1 rfl) ?_
    refine lv_bipush (v := 12) hx hb dX12_clear_18 (by decide) ?_
    refine lv_icmp_ge (tgt := 36) hx hb dX12_clear_20 (by decide) (fun c7 => ?_) (fun c7 => ?_)
    · rw [if_pos c7] at hf
      exact Ke0 τ (Option.some.inj hf).symm _ _ hJ ls (lv_sub hl [] rfl)
    · rw [if_neg c7] at hf
      refine lv_aload_n hx hb dX12_clear_23 rfl (lv_at hl 0 rfl) ?_
      obtain ⟨b8, e9, hf⟩ := mb0 hf
      refine my_gR hx hb hts hown hK hJ fd_RX12_135 hv_12_65 e9 dX12_clear_24 ?_
      refine lv_iload_n hx hb dX12_clear_27 rfl (lv_at hl 1 rfl) ?_
      refine lv_iconst (v := 0) hx hb dX12_clear_28 (by decide) ?_
      obtain ⟨σ10, e11, hf⟩ := mb0 hf
      refine mx_sI hx hb hK hJ e11 dX12_clear_29 (fun H locs hJ => ?_)
      obtain ⟨x12, e13, hf⟩ := mb0 hf
      refine lv_iinc (v := x12) (lv' := [(1, .int x12), (0, .ref v0)]) hx hb dX12_clear_30 hl (k := 1) rfl (by rw [← Option.some.inj e13]; rfl) (by decide) rfl (fun ls hl => ?_)
      refine lv_goto (tgt := 17) hx hb dX12_clear_33 (by decide) ?_
      exact Kb x12 σ10 (Option.some.inj hf).symm _ _ hJ ls (lv_sub hl [1, 0] rfl)
  have L17 : ∀ (v0 : Nat) (n : Nat) (v1 : Int32) (τ : mx_S) (o : (mx_S)), mx_lp (f_X12_clear_L17 P v0) n (v1, τ) = some o → (∀  (υ : mx_S), o = υ → ∀ (H : Heap) (locs : List Loc), mx_J G P s.heap (mxz σ) (mxu σ) υ H locs → ∀ ls : Array Slot, lv_has ls 2 [] → W p l e (mx_rm P 0 0 σ) s m ([.ref a0] : List Value).toArray below meth c H locs (mxz υ - mxz σ) (mxu υ - mxu σ) (mx_Z below G P none σ σ' [.ref a0] s) (F0 m 36 ls [])) → ∀ (H : Heap) (locs : List Loc), mx_J G P s.heap (mxz σ) (mxu σ) τ H locs → ∀ ls : Array Slot, lv_has ls 2 [(0, .ref v0), (1, .int v1)] → W p l e (mx_rm P 0 0 σ) s m ([.ref a0] : List Value).toArray below meth c H locs (mxz τ - mxz σ) (mxu τ - mxu σ) (mx_Z below G P none σ σ' [.ref a0] s) (F0 m 17 ls []) := by
    intro v0 n
    induction n with
    | zero =>
      intro v1 τ o hf
      rw [mx_lp0] at hf
      cases hf
    | succ n ih =>
      intro v1 τ o hf Ke0 H locs hJ ls hl
      rw [mx_lpS] at hf
      obtain ⟨b, eb, hf⟩ := mb0 hf
      refine B17 v0 v1 τ b eb (fun y1 υ ho H locs hJ ls hl => ?_) (fun  υ ho H locs hJ ls hl => ?_) H locs hJ ls hl
      · subst ho
        exact ih y1 υ o hf Ke0 H locs hJ ls hl
      · subst ho
        exact Ke0  υ (Option.some.inj hf).symm _ _ hJ ls hl
  unfold f_X12_clear at hf
  refine lv_aload_n hx hb dX12_clear_0 rfl (lv_at hl 0 rfl) ?_
  refine lv_iconst (v := 0) hx hb dX12_clear_1 (by decide) ?_
  obtain ⟨σ1, e2, hf⟩ := mb0 hf
  refine my_pI hx hb hts hown hK hJ fd_RX12_243 cd_12 (Or.inl rfl) ht_12_0 e2 dX12_clear_2 (fun H locs hJ => ?_)
  refine lv_aload_n hx hb dX12_clear_5 rfl (lv_at hl 0 rfl) ?_
  refine lv_iconst (v := 0) hx hb dX12_clear_6 (by decide) ?_
  obtain ⟨σ3, e4, hf⟩ := mb0 hf
  refine my_pI hx hb hts hown hK hJ fd_RX12_615 cd_12 (Or.inl rfl) ht_12_57 e4 dX12_clear_7 (fun H locs hJ => ?_)
  refine lv_aload_n hx hb dX12_clear_10 rfl (lv_at hl 0 rfl) ?_
  refine lv_iconst (v := 0) hx hb dX12_clear_11 (by decide) ?_
  obtain ⟨σ5, e6, hf⟩ := mb0 hf
  refine my_pI hx hb hts hown hK hJ fd_RX12_623 cd_12 (Or.inl rfl) ht_12_60 e6 dX12_clear_12 (fun H locs hJ => ?_)
  refine lv_iconst (v := 0) hx hb dX12_clear_15 (by decide) ?_
  refine lv_istore_n (lv' := [(1, .int (0 : Int32)), (0, .ref a0)]) hx hb dX12_clear_16 rfl hl (by decide) rfl (fun ls hl => ?_)
  obtain ⟨o14, e15, hf⟩ := mb0 hf
  refine L17 a0 (mpN P) (0 : Int32) σ5 o14 e15 (fun σ16 ho H locs hJ ls hl => ?_) _ _ hJ ls (lv_sub hl [1, 0] rfl)
  · rw [ho] at hf
    have hf : (some σ16) = some σ' := hf
    exact my_vret hx hb hr hlocks hJ hf dX12_clear_36
set_option maxHeartbeats 4000000 in
set_option maxRecDepth 100000 in
theorem c_X12_emptyRow (l : Launch) (G : mx_G) (P : mx_P) (a0 : Nat) (σ : mx_S) (σ' : mx_S) (hf : f_X12_emptyRow P a0 σ = some σ') : mxz σ ≤ mpc P → mxu σ ≤ mps P → mx_M l yX12_emptyRow cX12_emptyRow 2 none 0 0 G P [.ref a0] σ none σ' := by
  intro hcap hcau
  refine mx_ofW (by decide +kernel) hcap hcau (Nat.le_of_ble_eq_true rfl) ?_
  intro p e s m below meth c hx hb hr hml hts hown hlocks hname hK hJ ls hl
  have hz0 := hJ.2.1
  have hown : s.vm.findClass RX12 = some m.cls := hown
  have hl : lv_has ls 2 [(0, .ref a0)] := hl
  have B2 : ∀ (v0 : Nat) (v1 : Int32) (τ : mx_S) (o : (Int32 × mx_S) ⊕ ((mx_S))), f_X12_emptyRow_B2 P v0 v1 τ = some o → (∀ (y1 : Int32) (υ : mx_S), o = .inl (y1, υ) → ∀ (H : Heap) (locs : List Loc), mx_J G P s.heap (mxz σ) (mxu σ) υ H locs → ∀ ls : Array Slot, lv_has ls 2 [(0, .ref v0), (1, .int y1)] → W p l e (mx_rm P 0 0 σ) s m ([.ref a0] : List Value).toArray below meth c H locs (mxz υ - mxz σ) (mxu υ - mxu σ) (mx_Z below G P none σ σ' [.ref a0] s) (F0 m 2 ls [])) → (∀  (υ : mx_S), o = .inr υ → ∀ (H : Heap) (locs : List Loc), mx_J G P s.heap (mxz σ) (mxu σ) υ H locs → ∀ ls : Array Slot, lv_has ls 2 [(0, .ref v0)] → W p l e (mx_rm P 0 0 σ) s m ([.ref a0] : List Value).toArray below meth c H locs (mxz υ - mxz σ) (mxu υ - mxu σ) (mx_Z below G P none σ σ' [.ref a0] s) (F0 m 44 ls [])) → ∀ (H : Heap) (locs : List Loc), mx_J G P s.heap (mxz σ) (mxu σ) τ H locs → ∀ ls : Array Slot, lv_has ls 2 [(0, .ref v0), (1, .int v1)] → W p l e (mx_rm P 0 0 σ) s m ([.ref a0] : List Value).toArray below meth c H locs (mxz τ - mxz σ) (mxu τ - mxu σ) (mx_Z below G P none σ σ' [.ref a0] s) (F0 m 2 ls []) := by
    intro v0 v1 τ o hf Kb Ke0 H locs hJ ls hl
    unfold f_X12_emptyRow_B2 at hf
    refine lv_iload_n hx hb dX12_emptyRow_2 rfl (lv_at hl 1 rfl) ?_
    refine lv_bipush (v := 13) hx hb dX12_emptyRow_3 (by decide) ?_
    refine lv_icmp_ge (tgt := 44) hx hb dX12_emptyRow_5 (by decide) (fun c1 => ?_) (fun c1 => ?_)
    · rw [if_pos c1] at hf
      exact Ke0 τ (Option.some.inj hf).symm _ _ hJ ls (lv_sub hl [0] rfl)
    · rw [if_neg c1] at hf
      refine lv_aload_n hx hb dX12_emptyRow_8 rfl (lv_at hl 0 rfl) ?_
      obtain ⟨b2, e3, hf⟩ := mb0 hf
      refine my_gR hx hb hts hown hK hJ fd_RX12_144 hv_12_69 e3 dX12_emptyRow_9 ?_
      refine lv_bipush (v := 13) hx hb dX12_emptyRow_12 (by decide) ?_
      refine lv_aload_n hx hb dX12_emptyRow_14 rfl (lv_at hl 0 rfl) ?_
      obtain ⟨x4, e5, hf⟩ := mb0 hf
      refine my_gI hx hb hts hown hK hJ fd_RX12_626 hv_12_68 e5 dX12_emptyRow_15 ?_
      refine lv_imul hx hb dX12_emptyRow_18 ?_
      refine lv_iload_n hx hb dX12_emptyRow_19 rfl (lv_at hl 1 rfl) ?_
      refine lv_iadd hx hb dX12_emptyRow_20 ?_
      refine lv_lconst (v := 0) hx hb dX12_emptyRow_21 (by decide) ?_
      obtain ⟨σ6, e7, hf⟩ := mb0 hf
      refine mx_sL hx hb hK hJ e7 dX12_emptyRow_22 (fun H locs hJ => ?_)
      refine lv_aload_n hx hb dX12_emptyRow_23 rfl (lv_at hl 0 rfl) ?_
      obtain ⟨b8, e9, hf⟩ := mb0 hf
      refine my_gR hx hb hts hown hK hJ fd_RX12_147 hv_12_70 e9 dX12_emptyRow_24 ?_
      refine lv_bipush (v := 13) hx hb dX12_emptyRow_27 (by decide) ?_
      refine lv_aload_n hx hb dX12_emptyRow_29 rfl (lv_at hl 0 rfl) ?_
      obtain ⟨x10, e11, hf⟩ := mb0 hf
      refine my_gI hx hb hts hown hK hJ fd_RX12_626 hv_12_68 e11 dX12_emptyRow_30 ?_
      refine lv_imul hx hb dX12_emptyRow_33 ?_
      refine lv_iload_n hx hb dX12_emptyRow_34 rfl (lv_at hl 1 rfl) ?_
      refine lv_iadd hx hb dX12_emptyRow_35 ?_
      refine lv_lconst (v := 1) hx hb dX12_emptyRow_36 (by decide) ?_
      obtain ⟨σ12, e13, hf⟩ := mb0 hf
      refine mx_sL hx hb hK hJ e13 dX12_emptyRow_37 (fun H locs hJ => ?_)
      obtain ⟨x14, e15, hf⟩ := mb0 hf
      refine lv_iinc (v := x14) (lv' := [(1, .int x14), (0, .ref v0)]) hx hb dX12_emptyRow_38 hl (k := 1) rfl (by rw [← Option.some.inj e15]; rfl) (by decide) rfl (fun ls hl => ?_)
      refine lv_goto (tgt := 2) hx hb dX12_emptyRow_41 (by decide) ?_
      exact Kb x14 σ12 (Option.some.inj hf).symm _ _ hJ ls (lv_sub hl [1, 0] rfl)
  have L2 : ∀ (v0 : Nat) (n : Nat) (v1 : Int32) (τ : mx_S) (o : (mx_S)), mx_lp (f_X12_emptyRow_L2 P v0) n (v1, τ) = some o → (∀  (υ : mx_S), o = υ → ∀ (H : Heap) (locs : List Loc), mx_J G P s.heap (mxz σ) (mxu σ) υ H locs → ∀ ls : Array Slot, lv_has ls 2 [(0, .ref v0)] → W p l e (mx_rm P 0 0 σ) s m ([.ref a0] : List Value).toArray below meth c H locs (mxz υ - mxz σ) (mxu υ - mxu σ) (mx_Z below G P none σ σ' [.ref a0] s) (F0 m 44 ls [])) → ∀ (H : Heap) (locs : List Loc), mx_J G P s.heap (mxz σ) (mxu σ) τ H locs → ∀ ls : Array Slot, lv_has ls 2 [(0, .ref v0), (1, .int v1)] → W p l e (mx_rm P 0 0 σ) s m ([.ref a0] : List Value).toArray below meth c H locs (mxz τ - mxz σ) (mxu τ - mxu σ) (mx_Z below G P none σ σ' [.ref a0] s) (F0 m 2 ls []) := by
    intro v0 n
    induction n with
    | zero =>
      intro v1 τ o hf
      rw [mx_lp0] at hf
      cases hf
    | succ n ih =>
      intro v1 τ o hf Ke0 H locs hJ ls hl
      rw [mx_lpS] at hf
      obtain ⟨b, eb, hf⟩ := mb0 hf
      refine B2 v0 v1 τ b eb (fun y1 υ ho H locs hJ ls hl => ?_) (fun  υ ho H locs hJ ls hl => ?_) H locs hJ ls hl
      · subst ho
        exact ih y1 υ o hf Ke0 H locs hJ ls hl
      · subst ho
        exact Ke0  υ (Option.some.inj hf).symm _ _ hJ ls hl
  unfold f_X12_emptyRow at hf
  refine lv_iconst (v := 0) hx hb dX12_emptyRow_0 (by decide) ?_
  refine lv_istore_n (lv' := [(1, .int (0 : Int32)), (0, .ref a0)]) hx hb dX12_emptyRow_1 rfl hl (by decide) rfl (fun ls hl => ?_)
  obtain ⟨o16, e17, hf⟩ := mb0 hf
  refine L2 a0 (mpN P) (0 : Int32) σ o16 e17 (fun σ18 ho H locs hJ ls hl => ?_) _ _ hJ ls (lv_sub hl [1, 0] rfl)
  · rw [ho] at hf
    have hf : ((mg_I σ18 a0 12 68).bind fun x19 => (mp_I P σ18 a0 12 68 (x19 + (1 : Int32))).bind fun σ21 => some σ21) = some σ' := hf
    refine lv_aload_n hx hb dX12_emptyRow_44 rfl (lv_at hl 0 rfl) ?_
    refine lv_dup hx hb dX12_emptyRow_45 rfl ?_
    obtain ⟨x19, e20, hf⟩ := mb0 hf
    refine my_gI hx hb hts hown hK hJ fd_RX12_626 hv_12_68 e20 dX12_emptyRow_46 ?_
    refine lv_iconst (v := 1) hx hb dX12_emptyRow_49 (by decide) ?_
    refine lv_iadd hx hb dX12_emptyRow_50 ?_
    obtain ⟨σ21, e22, hf⟩ := mb0 hf
    refine my_pI hx hb hts hown hK hJ fd_RX12_626 cd_12 (Or.inl rfl) ht_12_68 e22 dX12_emptyRow_51 (fun H locs hJ => ?_)
    exact my_vret hx hb hr hlocks hJ hf dX12_emptyRow_54
set_option maxHeartbeats 4000000 in
set_option maxRecDepth 100000 in
theorem c_X12_makeRows (l : Launch) (G : mx_G) (P : mx_P) (a0 : Nat) (σ : mx_S) (σ' : mx_S) (hf : f_X12_makeRows P a0 σ = some σ') : mxz σ ≤ mpc P → mxu σ ≤ mps P → mx_M l yX12_makeRows cX12_makeRows 7 none 3 76 G P [.ref a0] σ none σ' := by
  intro hcap hcau
  refine mx_ofW (by decide +kernel) hcap hcau (Nat.le_of_ble_eq_true rfl) ?_
  intro p e s m below meth c hx hb hr hml hts hown hlocks hname hK hJ ls hl
  have hz0 := hJ.2.1
  have hown : s.vm.findClass RX12 = some m.cls := hown
  have hl : lv_has ls 7 [(0, .ref a0)] := hl
  have D155_7 : ∀ (v0 : Nat) (v1 : Int32) (τ : mx_S) (o : (Int32 × mx_S) ⊕ ((mx_S))), f_X12_makeRows_D155_7 P v0 v1 τ = some o → (∀ (y1 : Int32) (υ : mx_S), o = .inl (y1, υ) → ∀ (H : Heap) (locs : List Loc), mx_J G P s.heap (mxz σ) (mxu σ) υ H locs → ∀ ls : Array Slot, lv_has ls 7 [(0, .ref v0), (1, .int y1)] → W p l e (mx_rm P 3 76 σ) s m ([.ref a0] : List Value).toArray below meth c H locs (mxz υ - mxz σ) (mxu υ - mxu σ) (mx_Z below G P none σ σ' [.ref a0] s) (F0 m 7 ls [])) → (∀  (υ : mx_S), o = .inr υ → ∀ (H : Heap) (locs : List Loc), mx_J G P s.heap (mxz σ) (mxu σ) υ H locs → ∀ ls : Array Slot, lv_has ls 7 [(0, .ref v0)] → W p l e (mx_rm P 3 76 σ) s m ([.ref a0] : List Value).toArray below meth c H locs (mxz υ - mxz σ) (mxu υ - mxu σ) (mx_Z below G P none σ σ' [.ref a0] s) (F0 m 161 ls [])) → ∀ (H : Heap) (locs : List Loc), mx_J G P s.heap (mxz σ) (mxu σ) τ H locs → ∀ ls : Array Slot, lv_has ls 7 [(0, .ref v0), (1, .int v1)] → W p l e (mx_rm P 3 76 σ) s m ([.ref a0] : List Value).toArray below meth c H locs (mxz τ - mxz σ) (mxu τ - mxu σ) (mx_Z below G P none σ σ' [.ref a0] s) (F0 m 155 ls []) := by
    intro v0 v1 τ o hf Kb Ke0 H locs hJ ls hl
    unfold f_X12_makeRows_D155_7 at hf
    obtain ⟨x70, e71, hf⟩ := mb0 hf
    refine lv_iinc (v := x70) (lv' := [(1, .int x70), (0, .ref v0)]) hx hb dX12_makeRows_155 hl (k := 1) rfl (by rw [← Option.some.inj e71]; rfl) (by decide) rfl (fun ls hl => ?_)
    refine lv_goto (tgt := 7) hx hb dX12_makeRows_158 (by decide) ?_
    exact Kb x70 τ (Option.some.inj hf).symm _ _ hJ ls (lv_sub hl [1, 0] rfl)
  have D79_7 : ∀ (v0 : Nat) (v1 : Int32) (v2 : Int32) (v3 : Int64) (w0 : Int64) (τ : mx_S) (o : (Int32 × mx_S) ⊕ ((mx_S))), f_X12_makeRows_D79_7 P v0 v1 v2 v3 w0 τ = some o → (∀ (y1 : Int32) (υ : mx_S), o = .inl (y1, υ) → ∀ (H : Heap) (locs : List Loc), mx_J G P s.heap (mxz σ) (mxu σ) υ H locs → ∀ ls : Array Slot, lv_has ls 7 [(0, .ref v0), (1, .int y1)] → W p l e (mx_rm P 3 76 σ) s m ([.ref a0] : List Value).toArray below meth c H locs (mxz υ - mxz σ) (mxu υ - mxu σ) (mx_Z below G P none σ σ' [.ref a0] s) (F0 m 7 ls [])) → (∀  (υ : mx_S), o = .inr υ → ∀ (H : Heap) (locs : List Loc), mx_J G P s.heap (mxz σ) (mxu σ) υ H locs → ∀ ls : Array Slot, lv_has ls 7 [(0, .ref v0)] → W p l e (mx_rm P 3 76 σ) s m ([.ref a0] : List Value).toArray below meth c H locs (mxz υ - mxz σ) (mxu υ - mxu σ) (mx_Z below G P none σ σ' [.ref a0] s) (F0 m 161 ls [])) → ∀ (H : Heap) (locs : List Loc), mx_J G P s.heap (mxz σ) (mxu σ) τ H locs → ∀ ls : Array Slot, lv_has ls 7 [(0, .ref v0), (1, .int v1), (2, .int v2), (3, .long v3)] → W p l e (mx_rm P 3 76 σ) s m ([.ref a0] : List Value).toArray below meth c H locs (mxz τ - mxz σ) (mxu τ - mxu σ) (mx_Z below G P none σ σ' [.ref a0] s) (F0 m 79 ls [.long w0]) := by
    intro v0 v1 v2 v3 w0 τ o hf Kb Ke0 H locs hJ ls hl
    unfold f_X12_makeRows_D79_7 at hf
    refine lv_lstore (lv' := [(5, .long w0), (0, .ref v0), (1, .int v1), (2, .int v2), (3, .long v3)]) hx hb dX12_makeRows_79 hl (by decide) rfl (fun ls hl => ?_)
    refine lv_aload_n hx hb dX12_makeRows_81 rfl (lv_at hl 1 rfl) ?_
    obtain ⟨b37, e38, hf⟩ := mb0 hf
    refine my_gR hx hb hts hown hK hJ fd_RX12_144 hv_12_69 e38 dX12_makeRows_82 ?_
    refine lv_iload_n hx hb dX12_makeRows_85 rfl (lv_at hl 3 rfl) ?_
    refine lv_aload_n hx hb dX12_makeRows_86 rfl (lv_at hl 1 rfl) ?_
    obtain ⟨b39, e40, hf⟩ := mb0 hf
    refine my_gR hx hb hts hown hK hJ fd_RX12_120 hv_12_59 e40 dX12_makeRows_87 ?_
    refine lv_aload_n hx hb dX12_makeRows_90 rfl (lv_at hl 1 rfl) ?_
    obtain ⟨b41, e42, hf⟩ := mb0 hf
    refine my_gR hx hb hts hown hK hJ fd_RX12_123 hv_12_61 e42 dX12_makeRows_91 ?_
    refine lv_iload_n hx hb dX12_makeRows_94 rfl (lv_at hl 2 rfl) ?_
    obtain ⟨x43, e44, hf⟩ := mb0 hf
    refine mx_aI hx hb hK hJ e44 dX12_makeRows_95 ?_
    obtain ⟨x45, e46, hf⟩ := mb0 hf
    refine mx_aI hx hb hK hJ e46 dX12_makeRows_96 ?_
    refine lv_iadd hx hb dX12_makeRows_97 ?_
    refine lv_dup2_11 hx hb dX12_makeRows_98 rfl rfl ?_
    obtain ⟨x47, e48, hf⟩ := mb0 hf
    refine mx_aL hx hb hK hJ e48 dX12_makeRows_99 ?_
    refine lv_lload_n hx hb dX12_makeRows_100 rfl (lv_at hl 4 rfl) ?_
    refine lv_ladd hx hb dX12_makeRows_101 ?_
    obtain ⟨σ49, e50, hf⟩ := mb0 hf
    refine mx_sL hx hb hK hJ e50 dX12_makeRows_102 (fun H locs hJ => ?_)
    refine lv_aload_n hx hb dX12_makeRows_103 rfl (lv_at hl 1 rfl) ?_
    obtain ⟨b51, e52, hf⟩ := mb0 hf
    refine my_gR hx hb hts hown hK hJ fd_RX12_144 hv_12_69 e52 dX12_makeRows_104 ?_
    refine lv_iload_n hx hb dX12_makeRows_107 rfl (lv_at hl 3 rfl) ?_
    refine lv_aload_n hx hb dX12_makeRows_108 rfl (lv_at hl 1 rfl) ?_
    obtain ⟨b53, e54, hf⟩ := mb0 hf
    refine my_gR hx hb hts hown hK hJ fd_RX12_120 hv_12_59 e54 dX12_makeRows_109 ?_
    refine lv_aload_n hx hb dX12_makeRows_112 rfl (lv_at hl 1 rfl) ?_
    obtain ⟨b55, e56, hf⟩ := mb0 hf
    refine my_gR hx hb hts hown hK hJ fd_RX12_126 hv_12_62 e56 dX12_makeRows_113 ?_
    refine lv_iload_n hx hb dX12_makeRows_116 rfl (lv_at hl 2 rfl) ?_
    obtain ⟨x57, e58, hf⟩ := mb0 hf
    refine mx_aI hx hb hK hJ e58 dX12_makeRows_117 ?_
    obtain ⟨x59, e60, hf⟩ := mb0 hf
    refine mx_aI hx hb hK hJ e60 dX12_makeRows_118 ?_
    refine lv_iadd hx hb dX12_makeRows_119 ?_
    refine lv_dup2_11 hx hb dX12_makeRows_120 rfl rfl ?_
    obtain ⟨x61, e62, hf⟩ := mb0 hf
    refine mx_aL hx hb hK hJ e62 dX12_makeRows_121 ?_
    refine lv_lload hx hb dX12_makeRows_122 (lv_at hl 0 rfl) ?_
    refine lv_ladd hx hb dX12_makeRows_124 ?_
    obtain ⟨σ63, e64, hf⟩ := mb0 hf
    refine mx_sL hx hb hK hJ e64 dX12_makeRows_125 (fun H locs hJ => ?_)
    refine lv_aload_n hx hb dX12_makeRows_126 rfl (lv_at hl 1 rfl) ?_
    obtain ⟨b65, e66, hf⟩ := mb0 hf
    refine my_gR hx hb hts hown hK hJ fd_RX12_129 hv_12_63 e66 dX12_makeRows_127 ?_
    refine lv_iload_n hx hb dX12_makeRows_130 rfl (lv_at hl 2 rfl) ?_
    obtain ⟨x67, e68, hf⟩ := mb0 hf
    refine mx_aI hx hb hK hJ e68 dX12_makeRows_131 ?_
    refine lv_if_lt (tgt := 155) hx hb dX12_makeRows_132 (by decide) (fun c69 => ?_) (fun c69 => ?_)
    · rw [if_pos c69] at hf
      exact D155_7 v0 v1 σ63 o hf Kb Ke0 _ _ hJ ls (lv_sub hl [1, 2] rfl)
    · rw [if_neg c69] at hf
      refine lv_aload_n hx hb dX12_makeRows_135 rfl (lv_at hl 1 rfl) ?_
      obtain ⟨b72, e73, hf⟩ := mb0 hf
      refine my_gR hx hb hts hown hK hJ fd_RX12_144 hv_12_69 e73 dX12_makeRows_136 ?_
      refine lv_iload_n hx hb dX12_makeRows_139 rfl (lv_at hl 3 rfl) ?_
      refine lv_aload_n hx hb dX12_makeRows_140 rfl (lv_at hl 1 rfl) ?_
      obtain ⟨b74, e75, hf⟩ := mb0 hf
      refine my_gR hx hb hts hown hK hJ fd_RX12_129 hv_12_63 e75 dX12_makeRows_141 ?_
      refine lv_iload_n hx hb dX12_makeRows_144 rfl (lv_at hl 2 rfl) ?_
      obtain ⟨x76, e77, hf⟩ := mb0 hf
      refine mx_aI hx hb hK hJ e77 dX12_makeRows_145 ?_
      refine lv_iadd hx hb dX12_makeRows_146 ?_
      refine lv_dup2_11 hx hb dX12_makeRows_147 rfl rfl ?_
      obtain ⟨x78, e79, hf⟩ := mb0 hf
      refine mx_aL hx hb hK hJ e79 dX12_makeRows_148 ?_
      refine lv_lload_n hx hb dX12_makeRows_149 rfl (lv_at hl 4 rfl) ?_
      refine lv_lload hx hb dX12_makeRows_150 (lv_at hl 0 rfl) ?_
      refine lv_ladd hx hb dX12_makeRows_152 ?_
      refine lv_lsub hx hb dX12_makeRows_153 ?_
      obtain ⟨σ80, e81, hf⟩ := mb0 hf
      refine mx_sL hx hb hK hJ e81 dX12_makeRows_154 (fun H locs hJ => ?_)
      exact D155_7 v0 v1 σ80 o hf Kb Ke0 _ _ hJ ls (lv_sub hl [1, 2] rfl)
  have B7 : ∀ (v0 : Nat) (v1 : Int32) (τ : mx_S) (o : (Int32 × mx_S) ⊕ ((mx_S))), f_X12_makeRows_B7 P v0 v1 τ = some o → (∀ (y1 : Int32) (υ : mx_S), o = .inl (y1, υ) → ∀ (H : Heap) (locs : List Loc), mx_J G P s.heap (mxz σ) (mxu σ) υ H locs → ∀ ls : Array Slot, lv_has ls 7 [(0, .ref v0), (1, .int y1)] → W p l e (mx_rm P 3 76 σ) s m ([.ref a0] : List Value).toArray below meth c H locs (mxz υ - mxz σ) (mxu υ - mxu σ) (mx_Z below G P none σ σ' [.ref a0] s) (F0 m 7 ls [])) → (∀  (υ : mx_S), o = .inr υ → ∀ (H : Heap) (locs : List Loc), mx_J G P s.heap (mxz σ) (mxu σ) υ H locs → ∀ ls : Array Slot, lv_has ls 7 [(0, .ref v0)] → W p l e (mx_rm P 3 76 σ) s m ([.ref a0] : List Value).toArray below meth c H locs (mxz υ - mxz σ) (mxu υ - mxu σ) (mx_Z below G P none σ σ' [.ref a0] s) (F0 m 161 ls [])) → ∀ (H : Heap) (locs : List Loc), mx_J G P s.heap (mxz σ) (mxu σ) τ H locs → ∀ ls : Array Slot, lv_has ls 7 [(0, .ref v0), (1, .int v1)] → W p l e (mx_rm P 3 76 σ) s m ([.ref a0] : List Value).toArray below meth c H locs (mxz τ - mxz σ) (mxu τ - mxu σ) (mx_Z below G P none σ σ' [.ref a0] s) (F0 m 7 ls []) := by
    intro v0 v1 τ o hf Kb Ke0 H locs hJ ls hl
    unfold f_X12_makeRows_B7 at hf
    refine lv_iload_n hx hb dX12_makeRows_7 rfl (lv_at hl 1 rfl) ?_
    refine lv_aload_n hx hb dX12_makeRows_8 rfl (lv_at hl 0 rfl) ?_
    obtain ⟨x3, e4, hf⟩ := mb0 hf
    refine my_gI hx hb hts hown hK hJ fd_RX12_623 hv_12_60 e4 dX12_makeRows_9 ?_
    refine lv_icmp_ge (tgt := 161) hx hb dX12_makeRows_12 (by decide) (fun c5 => ?_) (fun c5 => ?_)
    · rw [if_pos c5] at hf
      exact Ke0 τ (Option.some.inj hf).symm _ _ hJ ls (lv_sub hl [0] rfl)
    · rw [if_neg c5] at hf
      refine lv_aload_n hx hb dX12_makeRows_15 rfl (lv_at hl 0 rfl) ?_
      obtain ⟨i6, e7, hf⟩ := mb0 hf
      obtain ⟨σ8, e9, hf⟩ := mb0 hf
      refine mx_callV (As := []) (rest := []) hx hb hml hts hown hK hJ rfl rfl (ci := 12) rfl e7 (c_X12_emptyRow l G P v0 τ σ8 e9) me_X12_emptyRow kw_2629 ks_146 kw_2627 (Nat.le_of_ble_eq_true rfl) (Nat.le_of_ble_eq_true rfl) rfl hl.1 rfl (Nat.le_of_ble_eq_true rfl) dX12_makeRows_16 (fun H locs hJ => ?_)
      refine lv_bipush (v := 13) hx hb dX12_makeRows_19 (by decide) ?_
      refine lv_aload_n hx hb dX12_makeRows_21 rfl (lv_at hl 0 rfl) ?_
      obtain ⟨x10, e11, hf⟩ := mb0 hf
      refine my_gI hx hb hts hown hK hJ fd_RX12_626 hv_12_68 e11 dX12_makeRows_22 ?_
      refine lv_iconst (v := 1) hx hb dX12_makeRows_25 (by decide) ?_
      refine lv_isub hx hb dX12_makeRows_26 ?_
      refine lv_imul hx hb dX12_makeRows_27 ?_
      obtain ⟨x12, e13, hf⟩ := mb0 hf
      refine mx_nI e13 ?_
      refine lv_istore_n (lv' := [(2, .int x12), (0, .ref v0), (1, .int v1)]) hx hb dX12_makeRows_28 rfl hl (by decide) rfl (fun ls hl => ?_)
      refine lv_aload_n hx hb dX12_makeRows_29 rfl (lv_at hl 1 rfl) ?_
      obtain ⟨b14, e15, hf⟩ := mb0 hf
      refine my_gR hx hb hts hown hK hJ fd_RX12_117 hv_12_58 e15 dX12_makeRows_30 ?_
      refine lv_aload_n hx hb dX12_makeRows_33 rfl (lv_at hl 1 rfl) ?_
      obtain ⟨b16, e17, hf⟩ := mb0 hf
      refine my_gR hx hb hts hown hK hJ fd_RX12_123 hv_12_61 e17 dX12_makeRows_34 ?_
      refine lv_iload_n hx hb dX12_makeRows_37 rfl (lv_at hl 2 rfl) ?_
      obtain ⟨x18, e19, hf⟩ := mb0 hf
      refine mx_aI hx hb hK hJ e19 dX12_makeRows_38 ?_
      obtain ⟨x20, e21, hf⟩ := mb0 hf
      refine mx_aI hx hb hK hJ e21 dX12_makeRows_39 ?_
      refine lv_i2l hx hb dX12_makeRows_40 rfl ?_
      obtain ⟨x22, e23, hf⟩ := mb0 hf
      refine mx_nL e23 ?_
      refine lv_lstore_n (lv' := [(3, .long x22), (2, .int x12), (0, .ref v0), (1, .int v1)]) hx hb dX12_makeRows_41 rfl hl (by decide) rfl (fun ls hl => ?_)
      refine lv_aload_n hx hb dX12_makeRows_42 rfl (lv_at hl 2 rfl) ?_
      obtain ⟨b24, e25, hf⟩ := mb0 hf
      refine my_gR hx hb hts hown hK hJ fd_RX12_132 hv_12_64 e25 dX12_makeRows_43 ?_
      refine lv_iload_n hx hb dX12_makeRows_46 rfl (lv_at hl 3 rfl) ?_
      obtain ⟨x26, e27, hf⟩ := mb0 hf
      refine mx_aZ hx hb hK hJ e27 dX12_makeRows_47 ?_
      refine lv_if_eq (tgt := 67) hx hb dX12_makeRows_48 (by decide) (fun c28 => ?_) (fun c28 => ?_)
      · rw [if_pos c28] at hf
        refine lv_aload_n hx hb dX12_makeRows_67 rfl (lv_at hl 2 rfl) ?_
        obtain ⟨b29, e30, hf⟩ := mb0 hf
        refine my_gR hx hb hts hown hK hJ fd_RX12_117 hv_12_58 e30 dX12_makeRows_68 ?_
        refine lv_aload_n hx hb dX12_makeRows_71 rfl (lv_at hl 2 rfl) ?_
        obtain ⟨b31, e32, hf⟩ := mb0 hf
        refine my_gR hx hb hts hown hK hJ fd_RX12_126 hv_12_62 e32 dX12_makeRows_72 ?_
        refine lv_iload_n hx hb dX12_makeRows_75 rfl (lv_at hl 3 rfl) ?_
        obtain ⟨x33, e34, hf⟩ := mb0 hf
        refine mx_aI hx hb hK hJ e34 dX12_makeRows_76 ?_
        obtain ⟨x35, e36, hf⟩ := mb0 hf
        refine mx_aI hx hb hK hJ e36 dX12_makeRows_77 ?_
        refine lv_i2l hx hb dX12_makeRows_78 rfl ?_
        exact D79_7 v0 v1 x12 x22 (x35.toInt64) σ8 o hf Kb Ke0 _ _ hJ ls (lv_sub hl [2, 3, 1, 0] rfl)
      · rw [if_neg c28] at hf
        refine lv_aload_n hx hb dX12_makeRows_51 rfl (lv_at hl 2 rfl) ?_
        obtain ⟨b82, e83, hf⟩ := mb0 hf
        refine my_gR hx hb hts hown hK hJ fd_RX12_117 hv_12_58 e83 dX12_makeRows_52 ?_
        refine lv_aload_n hx hb dX12_makeRows_55 rfl (lv_at hl 2 rfl) ?_
        obtain ⟨b84, e85, hf⟩ := mb0 hf
        refine my_gR hx hb hts hown hK hJ fd_RX12_126 hv_12_62 e85 dX12_makeRows_56 ?_
        refine lv_iload_n hx hb dX12_makeRows_59 rfl (lv_at hl 3 rfl) ?_
        obtain ⟨x86, e87, hf⟩ := mb0 hf
        refine mx_aI hx hb hK hJ e87 dX12_makeRows_60 ?_
        obtain ⟨x88, e89, hf⟩ := mb0 hf
        refine mx_aI hx hb hK hJ e89 dX12_makeRows_61 ?_
        refine lv_ineg hx hb dX12_makeRows_62 ?_
        refine lv_i2l hx hb dX12_makeRows_63 rfl ?_
        refine lv_goto (tgt := 79) hx hb dX12_makeRows_64 (by decide) ?_
        exact D79_7 v0 v1 x12 x22 ((-x88).toInt64) σ8 o hf Kb Ke0 _ _ hJ ls (lv_sub hl [2, 3, 1, 0] rfl)
  have L7 : ∀ (v0 : Nat) (n : Nat) (v1 : Int32) (τ : mx_S) (o : (mx_S)), mx_lp (f_X12_makeRows_L7 P v0) n (v1, τ) = some o → (∀  (υ : mx_S), o = υ → ∀ (H : Heap) (locs : List Loc), mx_J G P s.heap (mxz σ) (mxu σ) υ H locs → ∀ ls : Array Slot, lv_has ls 7 [(0, .ref v0)] → W p l e (mx_rm P 3 76 σ) s m ([.ref a0] : List Value).toArray below meth c H locs (mxz υ - mxz σ) (mxu υ - mxu σ) (mx_Z below G P none σ σ' [.ref a0] s) (F0 m 161 ls [])) → ∀ (H : Heap) (locs : List Loc), mx_J G P s.heap (mxz σ) (mxu σ) τ H locs → ∀ ls : Array Slot, lv_has ls 7 [(0, .ref v0), (1, .int v1)] → W p l e (mx_rm P 3 76 σ) s m ([.ref a0] : List Value).toArray below meth c H locs (mxz τ - mxz σ) (mxu τ - mxu σ) (mx_Z below G P none σ σ' [.ref a0] s) (F0 m 7 ls []) := by
    intro v0 n
    induction n with
    | zero =>
      intro v1 τ o hf
      rw [mx_lp0] at hf
      cases hf
    | succ n ih =>
      intro v1 τ o hf Ke0 H locs hJ ls hl
      rw [mx_lpS] at hf
      obtain ⟨b, eb, hf⟩ := mb0 hf
      refine B7 v0 v1 τ b eb (fun y1 υ ho H locs hJ ls hl => ?_) (fun  υ ho H locs hJ ls hl => ?_) H locs hJ ls hl
      · subst ho
        exact ih y1 υ o hf Ke0 H locs hJ ls hl
      · subst ho
        exact Ke0  υ (Option.some.inj hf).symm _ _ hJ ls hl
  have D290_163 : ∀ (v0 : Nat) (v1 : Int32) (τ : mx_S) (o : (Int32 × mx_S) ⊕ ((mx_S))), f_X12_makeRows_D290_163 P v0 v1 τ = some o → (∀ (y1 : Int32) (υ : mx_S), o = .inl (y1, υ) → ∀ (H : Heap) (locs : List Loc), mx_J G P s.heap (mxz σ) (mxu σ) υ H locs → ∀ ls : Array Slot, lv_has ls 7 [(0, .ref v0), (1, .int y1)] → W p l e (mx_rm P 3 76 σ) s m ([.ref a0] : List Value).toArray below meth c H locs (mxz υ - mxz σ) (mxu υ - mxu σ) (mx_Z below G P none σ σ' [.ref a0] s) (F0 m 163 ls [])) → (∀  (υ : mx_S), o = .inr υ → ∀ (H : Heap) (locs : List Loc), mx_J G P s.heap (mxz σ) (mxu σ) υ H locs → ∀ ls : Array Slot, lv_has ls 7 [] → W p l e (mx_rm P 3 76 σ) s m ([.ref a0] : List Value).toArray below meth c H locs (mxz υ - mxz σ) (mxu υ - mxu σ) (mx_Z below G P none σ σ' [.ref a0] s) (F0 m 296 ls [])) → ∀ (H : Heap) (locs : List Loc), mx_J G P s.heap (mxz σ) (mxu σ) τ H locs → ∀ ls : Array Slot, lv_has ls 7 [(0, .ref v0), (1, .int v1)] → W p l e (mx_rm P 3 76 σ) s m ([.ref a0] : List Value).toArray below meth c H locs (mxz τ - mxz σ) (mxu τ - mxu σ) (mx_Z below G P none σ σ' [.ref a0] s) (F0 m 290 ls []) := by
    intro v0 v1 τ o hf Kb Ke0 H locs hJ ls hl
    unfold f_X12_makeRows_D290_163 at hf
    obtain ⟨x139, e140, hf⟩ := mb0 hf
    refine lv_iinc (v := x139) (lv' := [(1, .int x139), (0, .ref v0)]) hx hb dX12_makeRows_290 hl (k := 1) rfl (by rw [← Option.some.inj e140]; rfl) (by decide) rfl (fun ls hl => ?_)
    refine lv_goto (tgt := 163) hx hb dX12_makeRows_293 (by decide) ?_
    exact Kb x139 τ (Option.some.inj hf).symm _ _ hJ ls (lv_sub hl [1, 0] rfl)
  have D245_163 : ∀ (v0 : Nat) (v1 : Int32) (w0 : Int64) (w1 : Int64) (w2 : Nat) (τ : mx_S) (o : (Int32 × mx_S) ⊕ ((mx_S))), f_X12_makeRows_D245_163 P v0 v1 w0 w1 w2 τ = some o → (∀ (y1 : Int32) (υ : mx_S), o = .inl (y1, υ) → ∀ (H : Heap) (locs : List Loc), mx_J G P s.heap (mxz σ) (mxu σ) υ H locs → ∀ ls : Array Slot, lv_has ls 7 [(0, .ref v0), (1, .int y1)] → W p l e (mx_rm P 3 76 σ) s m ([.ref a0] : List Value).toArray below meth c H locs (mxz υ - mxz σ) (mxu υ - mxu σ) (mx_Z below G P none σ σ' [.ref a0] s) (F0 m 163 ls [])) → (∀  (υ : mx_S), o = .inr υ → ∀ (H : Heap) (locs : List Loc), mx_J G P s.heap (mxz σ) (mxu σ) υ H locs → ∀ ls : Array Slot, lv_has ls 7 [] → W p l e (mx_rm P 3 76 σ) s m ([.ref a0] : List Value).toArray below meth c H locs (mxz υ - mxz σ) (mxu υ - mxu σ) (mx_Z below G P none σ σ' [.ref a0] s) (F0 m 296 ls [])) → ∀ (H : Heap) (locs : List Loc), mx_J G P s.heap (mxz σ) (mxu σ) τ H locs → ∀ ls : Array Slot, lv_has ls 7 [(0, .ref v0), (1, .int v1)] → W p l e (mx_rm P 3 76 σ) s m ([.ref a0] : List Value).toArray below meth c H locs (mxz τ - mxz σ) (mxu τ - mxu σ) (mx_Z below G P none σ σ' [.ref a0] s) (F0 m 245 ls [.long w0, .long w1, .ref w2]) := by
    intro v0 v1 w0 w1 w2 τ o hf Kb Ke0 H locs hJ ls hl
    unfold f_X12_makeRows_D245_163 at hf
    obtain ⟨i119, e120, hf⟩ := mb0 hf
    obtain ⟨σ121, e122, hf⟩ := mb0 hf
    refine mx_callV (As := [.long w1, .long w0]) (rest := []) hx hb hml hts hown hK hJ rfl rfl (ci := 12) rfl e120 (c_X12_lowest l G P w2 w1 w0 τ σ121 e122) me_X12_lowest kw_2633 ks_147 kw_2631 (Nat.le_of_ble_eq_true rfl) (Nat.le_of_ble_eq_true rfl) rfl hl.1 rfl (Nat.le_of_ble_eq_true rfl) dX12_makeRows_245 (fun H locs hJ => ?_)
    refine lv_aload_n hx hb dX12_makeRows_248 rfl (lv_at hl 0 rfl) ?_
    obtain ⟨b123, e124, hf⟩ := mb0 hf
    refine my_gR hx hb hts hown hK hJ fd_RX12_144 hv_12_69 e124 dX12_makeRows_249 ?_
    refine lv_bipush (v := 13) hx hb dX12_makeRows_252 (by decide) ?_
    refine lv_aload_n hx hb dX12_makeRows_254 rfl (lv_at hl 0 rfl) ?_
    obtain ⟨x125, e126, hf⟩ := mb0 hf
    refine my_gI hx hb hts hown hK hJ fd_RX12_626 hv_12_68 e126 dX12_makeRows_255 ?_
    refine lv_iconst (v := 1) hx hb dX12_makeRows_258 (by decide) ?_
    refine lv_isub hx hb dX12_makeRows_259 ?_
    refine lv_imul hx hb dX12_makeRows_260 ?_
    refine lv_bipush (v := 12) hx hb dX12_makeRows_261 (by decide) ?_
    refine lv_iadd hx hb dX12_makeRows_263 ?_
    refine lv_aload_n hx hb dX12_makeRows_264 rfl (lv_at hl 0 rfl) ?_
    obtain ⟨x127, e128, hf⟩ := mb0 hf
    refine my_gL hx hb hts hown hK hJ fd_RX12_287 hv_12_8 e128 dX12_makeRows_265 ?_
    obtain ⟨σ129, e130, hf⟩ := mb0 hf
    refine mx_sL hx hb hK hJ e130 dX12_makeRows_268 (fun H locs hJ => ?_)
    refine lv_aload_n hx hb dX12_makeRows_269 rfl (lv_at hl 0 rfl) ?_
    obtain ⟨b131, e132, hf⟩ := mb0 hf
    refine my_gR hx hb hts hown hK hJ fd_RX12_147 hv_12_70 e132 dX12_makeRows_270 ?_
    refine lv_bipush (v := 13) hx hb dX12_makeRows_273 (by decide) ?_
    refine lv_aload_n hx hb dX12_makeRows_275 rfl (lv_at hl 0 rfl) ?_
    obtain ⟨x133, e134, hf⟩ := mb0 hf
    refine my_gI hx hb hts hown hK hJ fd_RX12_626 hv_12_68 e134 dX12_makeRows_276 ?_
    refine lv_iconst (v := 1) hx hb dX12_makeRows_279 (by decide) ?_
    refine lv_isub hx hb dX12_makeRows_280 ?_
    refine lv_imul hx hb dX12_makeRows_281 ?_
    refine lv_bipush (v := 12) hx hb dX12_makeRows_282 (by decide) ?_
    refine lv_iadd hx hb dX12_makeRows_284 ?_
    refine lv_aload_n hx hb dX12_makeRows_285 rfl (lv_at hl 0 rfl) ?_
    obtain ⟨x135, e136, hf⟩ := mb0 hf
    refine my_gL hx hb hts hown hK hJ fd_RX12_291 hv_12_9 e136 dX12_makeRows_286 ?_
    obtain ⟨σ137, e138, hf⟩ := mb0 hf
    refine mx_sL hx hb hK hJ e138 dX12_makeRows_289 (fun H locs hJ => ?_)
    exact D290_163 v0 v1 σ137 o hf Kb Ke0 _ _ hJ ls (lv_sub hl [0, 1] rfl)
  have D224_163 : ∀ (v0 : Nat) (v1 : Int32) (w0 : Int64) (w1 : Nat) (τ : mx_S) (o : (Int32 × mx_S) ⊕ ((mx_S))), f_X12_makeRows_D224_163 P v0 v1 w0 w1 τ = some o → (∀ (y1 : Int32) (υ : mx_S), o = .inl (y1, υ) → ∀ (H : Heap) (locs : List Loc), mx_J G P s.heap (mxz σ) (mxu σ) υ H locs → ∀ ls : Array Slot, lv_has ls 7 [(0, .ref v0), (1, .int y1)] → W p l e (mx_rm P 3 76 σ) s m ([.ref a0] : List Value).toArray below meth c H locs (mxz υ - mxz σ) (mxu υ - mxu σ) (mx_Z below G P none σ σ' [.ref a0] s) (F0 m 163 ls [])) → (∀  (υ : mx_S), o = .inr υ → ∀ (H : Heap) (locs : List Loc), mx_J G P s.heap (mxz σ) (mxu σ) υ H locs → ∀ ls : Array Slot, lv_has ls 7 [] → W p l e (mx_rm P 3 76 σ) s m ([.ref a0] : List Value).toArray below meth c H locs (mxz υ - mxz σ) (mxu υ - mxu σ) (mx_Z below G P none σ σ' [.ref a0] s) (F0 m 296 ls [])) → ∀ (H : Heap) (locs : List Loc), mx_J G P s.heap (mxz σ) (mxu σ) τ H locs → ∀ ls : Array Slot, lv_has ls 7 [(0, .ref v0), (1, .int v1)] → W p l e (mx_rm P 3 76 σ) s m ([.ref a0] : List Value).toArray below meth c H locs (mxz τ - mxz σ) (mxu τ - mxu σ) (mx_Z below G P none σ σ' [.ref a0] s) (F0 m 224 ls [.long w0, .ref w1]) := by
    intro v0 v1 w0 w1 τ o hf Kb Ke0 H locs hJ ls hl
    unfold f_X12_makeRows_D224_163 at hf
    refine lv_aload_n hx hb dX12_makeRows_224 rfl (lv_at hl 0 rfl) ?_
    obtain ⟨b114, e115, hf⟩ := mb0 hf
    refine my_gR hx hb hts hown hK hJ fd_RX12_135 hv_12_65 e115 dX12_makeRows_225 ?_
    refine lv_iload_n hx hb dX12_makeRows_228 rfl (lv_at hl 1 rfl) ?_
    obtain ⟨x116, e117, hf⟩ := mb0 hf
    refine mx_aI hx hb hK hJ e117 dX12_makeRows_229 ?_
    refine lv_iconst (v := 2) hx hb dX12_makeRows_230 (by decide) ?_
    refine lv_icmp_ne (tgt := 244) hx hb dX12_makeRows_231 (by decide) (fun c118 => ?_) (fun c118 => ?_)
    · rw [if_neg c118] at hf
      refine lv_lconst (v := 1) hx hb dX12_makeRows_244 (by decide) ?_
      exact D245_163 v0 v1 (1 : Int64) w0 w1 τ o hf Kb Ke0 _ _ hJ ls (lv_sub hl [0, 1] rfl)
    · rw [if_pos c118] at hf
      refine lv_aload_n hx hb dX12_makeRows_234 rfl (lv_at hl 0 rfl) ?_
      obtain ⟨b141, e142, hf⟩ := mb0 hf
      refine my_gR hx hb hts hown hK hJ fd_RX12_141 hv_12_67 e142 dX12_makeRows_235 ?_
      refine lv_iload_n hx hb dX12_makeRows_238 rfl (lv_at hl 1 rfl) ?_
      obtain ⟨x143, e144, hf⟩ := mb0 hf
      refine mx_aI hx hb hK hJ e144 dX12_makeRows_239 ?_
      refine lv_i2l hx hb dX12_makeRows_240 rfl ?_
      refine lv_goto (tgt := 245) hx hb dX12_makeRows_241 (by decide) ?_
      exact D245_163 v0 v1 (x143.toInt64) w0 w1 τ o hf Kb Ke0 _ _ hJ ls (lv_sub hl [0, 1] rfl)
  have B163 : ∀ (v0 : Nat) (v1 : Int32) (τ : mx_S) (o : (Int32 × mx_S) ⊕ ((mx_S))), f_X12_makeRows_B163 P v0 v1 τ = some o → (∀ (y1 : Int32) (υ : mx_S), o = .inl (y1, υ) → ∀ (H : Heap) (locs : List Loc), mx_J G P s.heap (mxz σ) (mxu σ) υ H locs → ∀ ls : Array Slot, lv_has ls 7 [(0, .ref v0), (1, .int y1)] → W p l e (mx_rm P 3 76 σ) s m ([.ref a0] : List Value).toArray below meth c H locs (mxz υ - mxz σ) (mxu υ - mxu σ) (mx_Z below G P none σ σ' [.ref a0] s) (F0 m 163 ls [])) → (∀  (υ : mx_S), o = .inr υ → ∀ (H : Heap) (locs : List Loc), mx_J G P s.heap (mxz σ) (mxu σ) υ H locs → ∀ ls : Array Slot, lv_has ls 7 [] → W p l e (mx_rm P 3 76 σ) s m ([.ref a0] : List Value).toArray below meth c H locs (mxz υ - mxz σ) (mxu υ - mxu σ) (mx_Z below G P none σ σ' [.ref a0] s) (F0 m 296 ls [])) → ∀ (H : Heap) (locs : List Loc), mx_J G P s.heap (mxz σ) (mxu σ) τ H locs → ∀ ls : Array Slot, lv_has ls 7 [(0, .ref v0), (1, .int v1)] → W p l e (mx_rm P 3 76 σ) s m ([.ref a0] : List Value).toArray below meth c H locs (mxz τ - mxz σ) (mxu τ - mxu σ) (mx_Z below G P none σ σ' [.ref a0] s) (F0 m 163 ls []) := by
    intro v0 v1 τ o hf Kb Ke0 H locs hJ ls hl
    unfold f_X12_makeRows_B163 at hf
    refine lv_iload_n hx hb dX12_makeRows_163 rfl (lv_at hl 1 rfl) ?_
    refine lv_bipush (v := 12) hx hb dX12_makeRows_164 (by decide) ?_
    refine lv_icmp_ge (tgt := 296) hx hb dX12_makeRows_166 (by decide) (fun c93 => ?_) (fun c93 => ?_)
    · rw [if_pos c93] at hf
      exact Ke0 τ (Option.some.inj hf).symm _ _ hJ ls (lv_sub hl [] rfl)
    · rw [if_neg c93] at hf
      refine lv_aload_n hx hb dX12_makeRows_169 rfl (lv_at hl 0 rfl) ?_
      obtain ⟨b94, e95, hf⟩ := mb0 hf
      refine my_gR hx hb hts hown hK hJ fd_RX12_135 hv_12_65 e95 dX12_makeRows_170 ?_
      refine lv_iload_n hx hb dX12_makeRows_173 rfl (lv_at hl 1 rfl) ?_
      obtain ⟨x96, e97, hf⟩ := mb0 hf
      refine mx_aI hx hb hK hJ e97 dX12_makeRows_174 ?_
      refine lv_if_ne (tgt := 181) hx hb dX12_makeRows_175 (by decide) (fun c98 => ?_) (fun c98 => ?_)
      · rw [if_neg c98] at hf
        refine lv_aload_n hx hb dX12_makeRows_181 rfl (lv_at hl 0 rfl) ?_
        obtain ⟨i99, e100, hf⟩ := mb0 hf
        obtain ⟨σ101, e102, hf⟩ := mb0 hf
        refine mx_callV (As := []) (rest := []) hx hb hml hts hown hK hJ rfl rfl (ci := 12) rfl e100 (c_X12_emptyRow l G P v0 τ σ101 e102) me_X12_emptyRow kw_2629 ks_146 kw_2627 (Nat.le_of_ble_eq_true rfl) (Nat.le_of_ble_eq_true rfl) rfl hl.1 rfl (Nat.le_of_ble_eq_true rfl) dX12_makeRows_182 (fun H locs hJ => ?_)
        refine lv_aload_n hx hb dX12_makeRows_185 rfl (lv_at hl 0 rfl) ?_
        obtain ⟨b103, e104, hf⟩ := mb0 hf
        refine my_gR hx hb hts hown hK hJ fd_RX12_144 hv_12_69 e104 dX12_makeRows_186 ?_
        refine lv_bipush (v := 13) hx hb dX12_makeRows_189 (by decide) ?_
        refine lv_aload_n hx hb dX12_makeRows_191 rfl (lv_at hl 0 rfl) ?_
        obtain ⟨x105, e106, hf⟩ := mb0 hf
        refine my_gI hx hb hts hown hK hJ fd_RX12_626 hv_12_68 e106 dX12_makeRows_192 ?_
        refine lv_iconst (v := 1) hx hb dX12_makeRows_195 (by decide) ?_
        refine lv_isub hx hb dX12_makeRows_196 ?_
        refine lv_imul hx hb dX12_makeRows_197 ?_
        refine lv_iload_n hx hb dX12_makeRows_198 rfl (lv_at hl 1 rfl) ?_
        refine lv_iadd hx hb dX12_makeRows_199 ?_
        refine lv_lconst (v := 1) hx hb dX12_makeRows_200 (by decide) ?_
        obtain ⟨σ107, e108, hf⟩ := mb0 hf
        refine mx_sL hx hb hK hJ e108 dX12_makeRows_201 (fun H locs hJ => ?_)
        refine lv_aload_n hx hb dX12_makeRows_202 rfl (lv_at hl 0 rfl) ?_
        refine lv_aload_n hx hb dX12_makeRows_203 rfl (lv_at hl 0 rfl) ?_
        obtain ⟨b109, e110, hf⟩ := mb0 hf
        refine my_gR hx hb hts hown hK hJ fd_RX12_135 hv_12_65 e110 dX12_makeRows_204 ?_
        refine lv_iload_n hx hb dX12_makeRows_207 rfl (lv_at hl 1 rfl) ?_
        obtain ⟨x111, e112, hf⟩ := mb0 hf
        refine mx_aI hx hb hK hJ e112 dX12_makeRows_208 ?_
        refine lv_iconst (v := 2) hx hb dX12_makeRows_209 (by decide) ?_
        refine lv_icmp_ne (tgt := 223) hx hb dX12_makeRows_210 (by decide) (fun c113 => ?_) (fun c113 => ?_)
        · rw [if_neg c113] at hf
          refine lv_lconst (v := 0) hx hb dX12_makeRows_223 (by decide) ?_
          exact D224_163 v0 v1 (0 : Int64) v0 σ107 o hf Kb Ke0 _ _ hJ ls (lv_sub hl [0, 1] rfl)
        · rw [if_pos c113] at hf
          refine lv_aload_n hx hb dX12_makeRows_213 rfl (lv_at hl 0 rfl) ?_
          obtain ⟨b145, e146, hf⟩ := mb0 hf
          refine my_gR hx hb hts hown hK hJ fd_RX12_138 hv_12_66 e146 dX12_makeRows_214 ?_
          refine lv_iload_n hx hb dX12_makeRows_217 rfl (lv_at hl 1 rfl) ?_
          obtain ⟨x147, e148, hf⟩ := mb0 hf
          refine mx_aI hx hb hK hJ e148 dX12_makeRows_218 ?_
          refine lv_i2l hx hb dX12_makeRows_219 rfl ?_
          refine lv_goto (tgt := 224) hx hb dX12_makeRows_220 (by decide) ?_
          exact D224_163 v0 v1 (x147.toInt64) v0 σ107 o hf Kb Ke0 _ _ hJ ls (lv_sub hl [0, 1] rfl)
      · rw [if_pos c98] at hf
        refine lv_goto (tgt := 290) hx hb dX12_makeRows_178 (by decide) ?_
        exact D290_163 v0 v1 τ o hf Kb Ke0 _ _ hJ ls (lv_sub hl [0, 1] rfl)
  have L163 : ∀ (v0 : Nat) (n : Nat) (v1 : Int32) (τ : mx_S) (o : (mx_S)), mx_lp (f_X12_makeRows_L163 P v0) n (v1, τ) = some o → (∀  (υ : mx_S), o = υ → ∀ (H : Heap) (locs : List Loc), mx_J G P s.heap (mxz σ) (mxu σ) υ H locs → ∀ ls : Array Slot, lv_has ls 7 [] → W p l e (mx_rm P 3 76 σ) s m ([.ref a0] : List Value).toArray below meth c H locs (mxz υ - mxz σ) (mxu υ - mxu σ) (mx_Z below G P none σ σ' [.ref a0] s) (F0 m 296 ls [])) → ∀ (H : Heap) (locs : List Loc), mx_J G P s.heap (mxz σ) (mxu σ) τ H locs → ∀ ls : Array Slot, lv_has ls 7 [(0, .ref v0), (1, .int v1)] → W p l e (mx_rm P 3 76 σ) s m ([.ref a0] : List Value).toArray below meth c H locs (mxz τ - mxz σ) (mxu τ - mxu σ) (mx_Z below G P none σ σ' [.ref a0] s) (F0 m 163 ls []) := by
    intro v0 n
    induction n with
    | zero =>
      intro v1 τ o hf
      rw [mx_lp0] at hf
      cases hf
    | succ n ih =>
      intro v1 τ o hf Ke0 H locs hJ ls hl
      rw [mx_lpS] at hf
      obtain ⟨b, eb, hf⟩ := mb0 hf
      refine B163 v0 v1 τ b eb (fun y1 υ ho H locs hJ ls hl => ?_) (fun  υ ho H locs hJ ls hl => ?_) H locs hJ ls hl
      · subst ho
        exact ih y1 υ o hf Ke0 H locs hJ ls hl
      · subst ho
        exact Ke0  υ (Option.some.inj hf).symm _ _ hJ ls hl
  unfold f_X12_makeRows at hf
  refine lv_aload_n hx hb dX12_makeRows_0 rfl (lv_at hl 0 rfl) ?_
  refine lv_iconst (v := 0) hx hb dX12_makeRows_1 (by decide) ?_
  obtain ⟨σ1, e2, hf⟩ := mb0 hf
  refine my_pI hx hb hts hown hK hJ fd_RX12_626 cd_12 (Or.inl rfl) ht_12_68 e2 dX12_makeRows_2 (fun H locs hJ => ?_)
  refine lv_iconst (v := 0) hx hb dX12_makeRows_5 (by decide) ?_
  refine lv_istore_n (lv' := [(1, .int (0 : Int32)), (0, .ref a0)]) hx hb dX12_makeRows_6 rfl hl (by decide) rfl (fun ls hl => ?_)
  obtain ⟨o90, e91, hf⟩ := mb0 hf
  refine L7 a0 (mpN P) (0 : Int32) σ1 o90 e91 (fun σ92 ho H locs hJ ls hl => ?_) _ _ hJ ls (lv_sub hl [1, 0] rfl)
  · rw [ho] at hf
    have hf : ((mx_lp (f_X12_makeRows_L163 P a0) (mpN P) ((0 : Int32), σ92)).bind (fun t => (fun σ151 => some σ151) t)) = some σ' := hf
    refine lv_iconst (v := 0) hx hb dX12_makeRows_161 (by decide) ?_
    refine lv_istore_n (lv' := [(1, .int (0 : Int32)), (0, .ref a0)]) hx hb dX12_makeRows_162 rfl hl (by decide) rfl (fun ls hl => ?_)
    obtain ⟨o149, e150, hf⟩ := mb0 hf
    refine L163 a0 (mpN P) (0 : Int32) σ92 o149 e150 (fun σ151 ho H locs hJ ls hl => ?_) _ _ hJ ls (lv_sub hl [1, 0] rfl)
    · rw [ho] at hf
      have hf : (some σ151) = some σ' := hf
      exact my_vret hx hb hr hlocks hJ hf dX12_makeRows_296
set_option maxHeartbeats 4000000 in
set_option maxRecDepth 100000 in
theorem c_X12_keepFraction (l : Launch) (G : mx_G) (P : mx_P) (a0 : Nat) (p1 : Int32) (σ : mx_S) (σ' : mx_S) (hf : f_X12_keepFraction P a0 p1 σ = some σ') : mxz σ ≤ mpc P → mxu σ ≤ mps P → mx_M l yX12_keepFraction cX12_keepFraction 2 none 0 0 G P [.ref a0, .int p1] σ none σ' := by
  intro hcap hcau
  refine mx_ofW (by decide +kernel) hcap hcau (Nat.le_of_ble_eq_true rfl) ?_
  intro p e s m below meth c hx hb hr hml hts hown hlocks hname hK hJ ls hl
  have hz0 := hJ.2.1
  have hown : s.vm.findClass RX12 = some m.cls := hown
  have hl : lv_has ls 2 [(0, .ref a0), (1, .int p1)] := hl
  unfold f_X12_keepFraction at hf
  refine lv_aload_n hx hb dX12_keepFraction_0 rfl (lv_at hl 0 rfl) ?_
  obtain ⟨b1, e2, hf⟩ := mb0 hf
  refine my_gR hx hb hts hown hK hJ fd_RX12_144 hv_12_69 e2 dX12_keepFraction_1 ?_
  refine lv_iload_n hx hb dX12_keepFraction_4 rfl (lv_at hl 1 rfl) ?_
  refine lv_aload_n hx hb dX12_keepFraction_5 rfl (lv_at hl 0 rfl) ?_
  obtain ⟨x3, e4, hf⟩ := mb0 hf
  refine my_gL hx hb hts hown hK hJ fd_RX12_287 hv_12_8 e4 dX12_keepFraction_6 ?_
  obtain ⟨σ5, e6, hf⟩ := mb0 hf
  refine mx_sL hx hb hK hJ e6 dX12_keepFraction_9 (fun H locs hJ => ?_)
  refine lv_aload_n hx hb dX12_keepFraction_10 rfl (lv_at hl 0 rfl) ?_
  obtain ⟨b7, e8, hf⟩ := mb0 hf
  refine my_gR hx hb hts hown hK hJ fd_RX12_147 hv_12_70 e8 dX12_keepFraction_11 ?_
  refine lv_iload_n hx hb dX12_keepFraction_14 rfl (lv_at hl 1 rfl) ?_
  refine lv_aload_n hx hb dX12_keepFraction_15 rfl (lv_at hl 0 rfl) ?_
  obtain ⟨x9, e10, hf⟩ := mb0 hf
  refine my_gL hx hb hts hown hK hJ fd_RX12_291 hv_12_9 e10 dX12_keepFraction_16 ?_
  obtain ⟨σ11, e12, hf⟩ := mb0 hf
  refine mx_sL hx hb hK hJ e12 dX12_keepFraction_19 (fun H locs hJ => ?_)
  exact my_vret hx hb hr hlocks hJ hf dX12_keepFraction_20
set_option maxHeartbeats 4000000 in
set_option maxRecDepth 100000 in
theorem c_X12_changeRows (l : Launch) (G : mx_G) (P : mx_P) (a0 : Nat) (p1 : Int32) (p2 : Int32) (σ : mx_S) (σ' : mx_S) (hf : f_X12_changeRows P a0 p1 p2 σ = some σ') : mxz σ ≤ mpc P → mxu σ ≤ mps P → mx_M l yX12_changeRows cX12_changeRows 8 none 0 0 G P [.ref a0, .int p1, .int p2] σ none σ' := by
  intro hcap hcau
  refine mx_ofW (by decide +kernel) hcap hcau (Nat.le_of_ble_eq_true rfl) ?_
  intro p e s m below meth c hx hb hr hml hts hown hlocks hname hK hJ ls hl
  have hz0 := hJ.2.1
  have hown : s.vm.findClass RX12 = some m.cls := hown
  have hl : lv_has ls 8 [(0, .ref a0), (1, .int p1), (2, .int p2)] := hl
  have B2 : ∀ (v0 : Nat) (v1 : Int32) (v2 : Int32) (v3 : Int32) (τ : mx_S) (o : (Int32 × mx_S) ⊕ ((mx_S))), f_X12_changeRows_B2 P v0 v1 v2 v3 τ = some o → (∀ (y3 : Int32) (υ : mx_S), o = .inl (y3, υ) → ∀ (H : Heap) (locs : List Loc), mx_J G P s.heap (mxz σ) (mxu σ) υ H locs → ∀ ls : Array Slot, lv_has ls 8 [(0, .ref v0), (1, .int v1), (2, .int v2), (3, .int y3)] → W p l e (mx_rm P 0 0 σ) s m ([.ref a0, .int p1, .int p2] : List Value).toArray below meth c H locs (mxz υ - mxz σ) (mxu υ - mxu σ) (mx_Z below G P none σ σ' [.ref a0, .int p1, .int p2] s) (F0 m 2 ls [])) → (∀  (υ : mx_S), o = .inr υ → ∀ (H : Heap) (locs : List Loc), mx_J G P s.heap (mxz σ) (mxu σ) υ H locs → ∀ ls : Array Slot, lv_has ls 8 [] → W p l e (mx_rm P 0 0 σ) s m ([.ref a0, .int p1, .int p2] : List Value).toArray below meth c H locs (mxz υ - mxz σ) (mxu υ - mxu σ) (mx_Z below G P none σ σ' [.ref a0, .int p1, .int p2] s) (F0 m 110 ls [])) → ∀ (H : Heap) (locs : List Loc), mx_J G P s.heap (mxz σ) (mxu σ) τ H locs → ∀ ls : Array Slot, lv_has ls 8 [(0, .ref v0), (1, .int v1), (2, .int v2), (3, .int v3)] → W p l e (mx_rm P 0 0 σ) s m ([.ref a0, .int p1, .int p2] : List Value).toArray below meth c H locs (mxz τ - mxz σ) (mxu τ - mxu σ) (mx_Z below G P none σ σ' [.ref a0, .int p1, .int p2] s) (F0 m 2 ls []) := by
    intro v0 v1 v2 v3 τ o hf Kb Ke0 H locs hJ ls hl
    unfold f_X12_changeRows_B2 at hf
    refine lv_iload_n hx hb dX12_changeRows_2 rfl (lv_at hl 3 rfl) ?_
    refine lv_bipush (v := 13) hx hb dX12_changeRows_3 (by decide) ?_
    refine lv_icmp_ge (tgt := 110) hx hb dX12_changeRows_5 (by decide) (fun c1 => ?_) (fun c1 => ?_)
    · rw [if_pos c1] at hf
      exact Ke0 τ (Option.some.inj hf).symm _ _ hJ ls (lv_sub hl [] rfl)
    · rw [if_neg c1] at hf
      refine lv_aload_n hx hb dX12_changeRows_8 rfl (lv_at hl 0 rfl) ?_
      obtain ⟨b2, e3, hf⟩ := mb0 hf
      refine my_gR hx hb hts hown hK hJ fd_RX12_144 hv_12_69 e3 dX12_changeRows_9 ?_
      refine lv_bipush (v := 13) hx hb dX12_changeRows_12 (by decide) ?_
      refine lv_iload_n hx hb dX12_changeRows_14 rfl (lv_at hl 1 rfl) ?_
      refine lv_imul hx hb dX12_changeRows_15 ?_
      refine lv_iload_n hx hb dX12_changeRows_16 rfl (lv_at hl 3 rfl) ?_
      refine lv_iadd hx hb dX12_changeRows_17 ?_
      obtain ⟨x4, e5, hf⟩ := mb0 hf
      refine mx_aL hx hb hK hJ e5 dX12_changeRows_18 ?_
      refine lv_lstore (lv' := [(4, .long x4), (0, .ref v0), (1, .int v1), (2, .int v2), (3, .int v3)]) hx hb dX12_changeRows_19 hl (by decide) rfl (fun ls hl => ?_)
      refine lv_aload_n hx hb dX12_changeRows_21 rfl (lv_at hl 1 rfl) ?_
      obtain ⟨b6, e7, hf⟩ := mb0 hf
      refine my_gR hx hb hts hown hK hJ fd_RX12_147 hv_12_70 e7 dX12_changeRows_22 ?_
      refine lv_bipush (v := 13) hx hb dX12_changeRows_25 (by decide) ?_
      refine lv_iload_n hx hb dX12_changeRows_27 rfl (lv_at hl 2 rfl) ?_
      refine lv_imul hx hb dX12_changeRows_28 ?_
      refine lv_iload_n hx hb dX12_changeRows_29 rfl (lv_at hl 4 rfl) ?_
      refine lv_iadd hx hb dX12_changeRows_30 ?_
      obtain ⟨x8, e9, hf⟩ := mb0 hf
      refine mx_aL hx hb hK hJ e9 dX12_changeRows_31 ?_
      refine lv_lstore (lv' := [(6, .long x8), (4, .long x4), (0, .ref v0), (1, .int v1), (2, .int v2), (3, .int v3)]) hx hb dX12_changeRows_32 hl (by decide) rfl (fun ls hl => ?_)
      refine lv_aload_n hx hb dX12_changeRows_34 rfl (lv_at hl 2 rfl) ?_
      obtain ⟨b10, e11, hf⟩ := mb0 hf
      refine my_gR hx hb hts hown hK hJ fd_RX12_144 hv_12_69 e11 dX12_changeRows_35 ?_
      refine lv_bipush (v := 13) hx hb dX12_changeRows_38 (by decide) ?_
      refine lv_iload_n hx hb dX12_changeRows_40 rfl (lv_at hl 3 rfl) ?_
      refine lv_imul hx hb dX12_changeRows_41 ?_
      refine lv_iload_n hx hb dX12_changeRows_42 rfl (lv_at hl 5 rfl) ?_
      refine lv_iadd hx hb dX12_changeRows_43 ?_
      refine lv_aload_n hx hb dX12_changeRows_44 rfl (lv_at hl 2 rfl) ?_
      obtain ⟨b12, e13, hf⟩ := mb0 hf
      refine my_gR hx hb hts hown hK hJ fd_RX12_144 hv_12_69 e13 dX12_changeRows_45 ?_
      refine lv_bipush (v := 13) hx hb dX12_changeRows_48 (by decide) ?_
      refine lv_iload_n hx hb dX12_changeRows_50 rfl (lv_at hl 4 rfl) ?_
      refine lv_imul hx hb dX12_changeRows_51 ?_
      refine lv_iload_n hx hb dX12_changeRows_52 rfl (lv_at hl 5 rfl) ?_
      refine lv_iadd hx hb dX12_changeRows_53 ?_
      obtain ⟨x14, e15, hf⟩ := mb0 hf
      refine mx_aL hx hb hK hJ e15 dX12_changeRows_54 ?_
      obtain ⟨σ16, e17, hf⟩ := mb0 hf
      refine mx_sL hx hb hK hJ e17 dX12_changeRows_55 (fun H locs hJ => ?_)
      refine lv_aload_n hx hb dX12_changeRows_56 rfl (lv_at hl 2 rfl) ?_
      obtain ⟨b18, e19, hf⟩ := mb0 hf
      refine my_gR hx hb hts hown hK hJ fd_RX12_147 hv_12_70 e19 dX12_changeRows_57 ?_
      refine lv_bipush (v := 13) hx hb dX12_changeRows_60 (by decide) ?_
      refine lv_iload_n hx hb dX12_changeRows_62 rfl (lv_at hl 3 rfl) ?_
      refine lv_imul hx hb dX12_changeRows_63 ?_
      refine lv_iload_n hx hb dX12_changeRows_64 rfl (lv_at hl 5 rfl) ?_
      refine lv_iadd hx hb dX12_changeRows_65 ?_
      refine lv_aload_n hx hb dX12_changeRows_66 rfl (lv_at hl 2 rfl) ?_
      obtain ⟨b20, e21, hf⟩ := mb0 hf
      refine my_gR hx hb hts hown hK hJ fd_RX12_147 hv_12_70 e21 dX12_changeRows_67 ?_
      refine lv_bipush (v := 13) hx hb dX12_changeRows_70 (by decide) ?_
      refine lv_iload_n hx hb dX12_changeRows_72 rfl (lv_at hl 4 rfl) ?_
      refine lv_imul hx hb dX12_changeRows_73 ?_
      refine lv_iload_n hx hb dX12_changeRows_74 rfl (lv_at hl 5 rfl) ?_
      refine lv_iadd hx hb dX12_changeRows_75 ?_
      obtain ⟨x22, e23, hf⟩ := mb0 hf
      refine mx_aL hx hb hK hJ e23 dX12_changeRows_76 ?_
      obtain ⟨σ24, e25, hf⟩ := mb0 hf
      refine mx_sL hx hb hK hJ e25 dX12_changeRows_77 (fun H locs hJ => ?_)
      refine lv_aload_n hx hb dX12_changeRows_78 rfl (lv_at hl 2 rfl) ?_
      obtain ⟨b26, e27, hf⟩ := mb0 hf
      refine my_gR hx hb hts hown hK hJ fd_RX12_144 hv_12_69 e27 dX12_changeRows_79 ?_
      refine lv_bipush (v := 13) hx hb dX12_changeRows_82 (by decide) ?_
      refine lv_iload_n hx hb dX12_changeRows_84 rfl (lv_at hl 4 rfl) ?_
      refine lv_imul hx hb dX12_changeRows_85 ?_
      refine lv_iload_n hx hb dX12_changeRows_86 rfl (lv_at hl 5 rfl) ?_
      refine lv_iadd hx hb dX12_changeRows_87 ?_
      refine lv_lload hx hb dX12_changeRows_88 (lv_at hl 1 rfl) ?_
      obtain ⟨σ28, e29, hf⟩ := mb0 hf
      refine mx_sL hx hb hK hJ e29 dX12_changeRows_90 (fun H locs hJ => ?_)
      refine lv_aload_n hx hb dX12_changeRows_91 rfl (lv_at hl 2 rfl) ?_
      obtain ⟨b30, e31, hf⟩ := mb0 hf
      refine my_gR hx hb hts hown hK hJ fd_RX12_147 hv_12_70 e31 dX12_changeRows_92 ?_
      refine lv_bipush (v := 13) hx hb dX12_changeRows_95 (by decide) ?_
      refine lv_iload_n hx hb dX12_changeRows_97 rfl (lv_at hl 4 rfl) ?_
      refine lv_imul hx hb dX12_changeRows_98 ?_
      refine lv_iload_n hx hb dX12_changeRows_99 rfl (lv_at hl 5 rfl) ?_
      refine lv_iadd hx hb dX12_changeRows_100 ?_
      refine lv_lload hx hb dX12_changeRows_101 (lv_at hl 0 rfl) ?_
      obtain ⟨σ32, e33, hf⟩ := mb0 hf
      refine mx_sL hx hb hK hJ e33 dX12_changeRows_103 (fun H locs hJ => ?_)
      obtain ⟨x34, e35, hf⟩ := mb0 hf
      refine lv_iinc (v := x34) (lv' := [(3, .int x34), (6, .long x8), (4, .long x4), (0, .ref v0), (1, .int v1), (2, .int v2)]) hx hb dX12_changeRows_104 hl (k := 5) rfl (by rw [← Option.some.inj e35]; rfl) (by decide) rfl (fun ls hl => ?_)
      refine lv_goto (tgt := 2) hx hb dX12_changeRows_107 (by decide) ?_
      exact Kb x34 σ32 (Option.some.inj hf).symm _ _ hJ ls (lv_sub hl [3, 4, 5, 0] rfl)
  have L2 : ∀ (v0 : Nat) (v1 : Int32) (v2 : Int32) (n : Nat) (v3 : Int32) (τ : mx_S) (o : (mx_S)), mx_lp (f_X12_changeRows_L2 P v0 v1 v2) n (v3, τ) = some o → (∀  (υ : mx_S), o = υ → ∀ (H : Heap) (locs : List Loc), mx_J G P s.heap (mxz σ) (mxu σ) υ H locs → ∀ ls : Array Slot, lv_has ls 8 [] → W p l e (mx_rm P 0 0 σ) s m ([.ref a0, .int p1, .int p2] : List Value).toArray below meth c H locs (mxz υ - mxz σ) (mxu υ - mxu σ) (mx_Z below G P none σ σ' [.ref a0, .int p1, .int p2] s) (F0 m 110 ls [])) → ∀ (H : Heap) (locs : List Loc), mx_J G P s.heap (mxz σ) (mxu σ) τ H locs → ∀ ls : Array Slot, lv_has ls 8 [(0, .ref v0), (1, .int v1), (2, .int v2), (3, .int v3)] → W p l e (mx_rm P 0 0 σ) s m ([.ref a0, .int p1, .int p2] : List Value).toArray below meth c H locs (mxz τ - mxz σ) (mxu τ - mxu σ) (mx_Z below G P none σ σ' [.ref a0, .int p1, .int p2] s) (F0 m 2 ls []) := by
    intro v0 v1 v2 n
    induction n with
    | zero =>
      intro v3 τ o hf
      rw [mx_lp0] at hf
      cases hf
    | succ n ih =>
      intro v3 τ o hf Ke0 H locs hJ ls hl
      rw [mx_lpS] at hf
      obtain ⟨b, eb, hf⟩ := mb0 hf
      refine B2 v0 v1 v2 v3 τ b eb (fun y3 υ ho H locs hJ ls hl => ?_) (fun  υ ho H locs hJ ls hl => ?_) H locs hJ ls hl
      · subst ho
        exact ih y3 υ o hf Ke0 H locs hJ ls hl
      · subst ho
        exact Ke0  υ (Option.some.inj hf).symm _ _ hJ ls hl
  unfold f_X12_changeRows at hf
  refine lv_iconst (v := 0) hx hb dX12_changeRows_0 (by decide) ?_
  refine lv_istore_n (lv' := [(3, .int (0 : Int32)), (0, .ref a0), (1, .int p1), (2, .int p2)]) hx hb dX12_changeRows_1 rfl hl (by decide) rfl (fun ls hl => ?_)
  obtain ⟨o36, e37, hf⟩ := mb0 hf
  refine L2 a0 p1 p2 (mpN P) (0 : Int32) σ o36 e37 (fun σ38 ho H locs hJ ls hl => ?_) _ _ hJ ls (lv_sub hl [1, 2, 3, 0] rfl)
  · rw [ho] at hf
    have hf : (some σ38) = some σ' := hf
    exact my_vret hx hb hr hlocks hJ hf dX12_changeRows_110
set_option maxHeartbeats 4000000 in
set_option maxRecDepth 100000 in
theorem c_X12_pivot (l : Launch) (G : mx_G) (P : mx_P) (a0 : Nat) (p1 : Int32) (p2 : Int32) (σ : mx_S) (σ' : mx_S) (hf : f_X12_pivot P a0 p1 p2 σ = some σ') : mxz σ ≤ mpc P → mxu σ ≤ mps P → mx_M l yX12_pivot cX12_pivot 13 none 5 140 G P [.ref a0, .int p1, .int p2] σ none σ' := by
  intro hcap hcau
  refine mx_ofW (by decide +kernel) hcap hcau (Nat.le_of_ble_eq_true rfl) ?_
  intro p e s m below meth c hx hb hr hml hts hown hlocks hname hK hJ ls hl
  have hz0 := hJ.2.1
  have hown : s.vm.findClass RX12 = some m.cls := hown
  have hl : lv_has ls 13 [(0, .ref a0), (1, .int p1), (2, .int p2)] := hl
  have D104_28 : ∀ (v0 : Nat) (v1 : Int32) (v2 : Int32) (v3 : Int64) (v5 : Int64) (v7 : Int32) (τ : mx_S) (o : (Int32 × mx_S) ⊕ ((mx_S))), f_X12_pivot_D104_28 P v0 v1 v2 v3 v5 v7 τ = some o → (∀ (y7 : Int32) (υ : mx_S), o = .inl (y7, υ) → ∀ (H : Heap) (locs : List Loc), mx_J G P s.heap (mxz σ) (mxu σ) υ H locs → ∀ ls : Array Slot, lv_has ls 13 [(0, .ref v0), (1, .int v1), (2, .int v2), (3, .long v3), (5, .long v5), (7, .int y7)] → W p l e (mx_rm P 5 140 σ) s m ([.ref a0, .int p1, .int p2] : List Value).toArray below meth c H locs (mxz υ - mxz σ) (mxu υ - mxu σ) (mx_Z below G P none σ σ' [.ref a0, .int p1, .int p2] s) (F0 m 28 ls [])) → (∀  (υ : mx_S), o = .inr υ → ∀ (H : Heap) (locs : List Loc), mx_J G P s.heap (mxz σ) (mxu σ) υ H locs → ∀ ls : Array Slot, lv_has ls 13 [(0, .ref v0), (1, .int v1), (2, .int v2)] → W p l e (mx_rm P 5 140 σ) s m ([.ref a0, .int p1, .int p2] : List Value).toArray below meth c H locs (mxz υ - mxz σ) (mxu υ - mxu σ) (mx_Z below G P none σ σ' [.ref a0, .int p1, .int p2] s) (F0 m 110 ls [])) → ∀ (H : Heap) (locs : List Loc), mx_J G P s.heap (mxz σ) (mxu σ) τ H locs → ∀ ls : Array Slot, lv_has ls 13 [(0, .ref v0), (1, .int v1), (2, .int v2), (3, .long v3), (5, .long v5), (7, .int v7)] → W p l e (mx_rm P 5 140 σ) s m ([.ref a0, .int p1, .int p2] : List Value).toArray below meth c H locs (mxz τ - mxz σ) (mxu τ - mxu σ) (mx_Z below G P none σ σ' [.ref a0, .int p1, .int p2] s) (F0 m 104 ls []) := by
    intro v0 v1 v2 v3 v5 v7 τ o hf Kb Ke0 H locs hJ ls hl
    unfold f_X12_pivot_D104_28 at hf
    obtain ⟨x34, e35, hf⟩ := mb0 hf
    refine lv_iinc (v := x34) (lv' := [(7, .int x34), (0, .ref v0), (1, .int v1), (2, .int v2), (3, .long v3), (5, .long v5)]) hx hb dX12_pivot_104 hl (k := 5) rfl (by rw [← Option.some.inj e35]; rfl) (by decide) rfl (fun ls hl => ?_)
    refine lv_goto (tgt := 28) hx hb dX12_pivot_107 (by decide) ?_
    exact Kb x34 τ (Option.some.inj hf).symm _ _ hJ ls (lv_sub hl [1, 2, 3, 4, 5, 0] rfl)
  have B28 : ∀ (v0 : Nat) (v1 : Int32) (v2 : Int32) (v3 : Int64) (v5 : Int64) (v7 : Int32) (τ : mx_S) (o : (Int32 × mx_S) ⊕ ((mx_S))), f_X12_pivot_B28 P v0 v1 v2 v3 v5 v7 τ = some o → (∀ (y7 : Int32) (υ : mx_S), o = .inl (y7, υ) → ∀ (H : Heap) (locs : List Loc), mx_J G P s.heap (mxz σ) (mxu σ) υ H locs → ∀ ls : Array Slot, lv_has ls 13 [(0, .ref v0), (1, .int v1), (2, .int v2), (3, .long v3), (5, .long v5), (7, .int y7)] → W p l e (mx_rm P 5 140 σ) s m ([.ref a0, .int p1, .int p2] : List Value).toArray below meth c H locs (mxz υ - mxz σ) (mxu υ - mxu σ) (mx_Z below G P none σ σ' [.ref a0, .int p1, .int p2] s) (F0 m 28 ls [])) → (∀  (υ : mx_S), o = .inr υ → ∀ (H : Heap) (locs : List Loc), mx_J G P s.heap (mxz σ) (mxu σ) υ H locs → ∀ ls : Array Slot, lv_has ls 13 [(0, .ref v0), (1, .int v1), (2, .int v2)] → W p l e (mx_rm P 5 140 σ) s m ([.ref a0, .int p1, .int p2] : List Value).toArray below meth c H locs (mxz υ - mxz σ) (mxu υ - mxu σ) (mx_Z below G P none σ σ' [.ref a0, .int p1, .int p2] s) (F0 m 110 ls [])) → ∀ (H : Heap) (locs : List Loc), mx_J G P s.heap (mxz σ) (mxu σ) τ H locs → ∀ ls : Array Slot, lv_has ls 13 [(0, .ref v0), (1, .int v1), (2, .int v2), (3, .long v3), (5, .long v5), (7, .int v7)] → W p l e (mx_rm P 5 140 σ) s m ([.ref a0, .int p1, .int p2] : List Value).toArray below meth c H locs (mxz τ - mxz σ) (mxu τ - mxu σ) (mx_Z below G P none σ σ' [.ref a0, .int p1, .int p2] s) (F0 m 28 ls []) := by
    intro v0 v1 v2 v3 v5 v7 τ o hf Kb Ke0 H locs hJ ls hl
    unfold f_X12_pivot_B28 at hf
    refine lv_iload hx hb dX12_pivot_28 (lv_at hl 5 rfl) ?_
    refine lv_bipush (v := 13) hx hb dX12_pivot_30 (by decide) ?_
    refine lv_icmp_ge (tgt := 110) hx hb dX12_pivot_32 (by decide) (fun c9 => ?_) (fun c9 => ?_)
    · rw [if_pos c9] at hf
      exact Ke0 τ (Option.some.inj hf).symm _ _ hJ ls (lv_sub hl [0, 1, 2] rfl)
    · rw [if_neg c9] at hf
      refine lv_aload_n hx hb dX12_pivot_35 rfl (lv_at hl 0 rfl) ?_
      obtain ⟨x10, e11, hf⟩ := mb0 hf
      refine my_gI hx hb hts hown hK hJ fd_RX12_283 hv_12_10 e11 dX12_pivot_36 ?_
      refine lv_if_ne (tgt := 110) hx hb dX12_pivot_39 (by decide) (fun c12 => ?_) (fun c12 => ?_)
      · rw [if_neg c12] at hf
        exact Ke0 τ (Option.some.inj hf).symm _ _ hJ ls (lv_sub hl [0, 1, 2] rfl)
      · rw [if_pos c12] at hf
        refine lv_aload_n hx hb dX12_pivot_42 rfl (lv_at hl 0 rfl) ?_
        obtain ⟨b13, e14, hf⟩ := mb0 hf
        refine my_gR hx hb hts hown hK hJ fd_RX12_144 hv_12_69 e14 dX12_pivot_43 ?_
        refine lv_bipush (v := 13) hx hb dX12_pivot_46 (by decide) ?_
        refine lv_iload_n hx hb dX12_pivot_48 rfl (lv_at hl 1 rfl) ?_
        refine lv_imul hx hb dX12_pivot_49 ?_
        refine lv_iload hx hb dX12_pivot_50 (lv_at hl 5 rfl) ?_
        refine lv_iadd hx hb dX12_pivot_52 ?_
        obtain ⟨x15, e16, hf⟩ := mb0 hf
        refine mx_aL hx hb hK hJ e16 dX12_pivot_53 ?_
        refine lv_lconst (v := 0) hx hb dX12_pivot_54 (by decide) ?_
        refine W.lcmp hx hb dX12_pivot_55 ?_
        refine lv_if_ne (tgt := 62) hx hb dX12_pivot_56 (by decide) (fun c17 => ?_) (fun c17 => ?_)
        · rw [if_neg c17] at hf
          refine lv_aload_n hx hb dX12_pivot_62 rfl (lv_at hl 0 rfl) ?_
          refine lv_aload_n hx hb dX12_pivot_63 rfl (lv_at hl 0 rfl) ?_
          obtain ⟨b18, e19, hf⟩ := mb0 hf
          refine my_gR hx hb hts hown hK hJ fd_RX12_144 hv_12_69 e19 dX12_pivot_64 ?_
          refine lv_bipush (v := 13) hx hb dX12_pivot_67 (by decide) ?_
          refine lv_iload_n hx hb dX12_pivot_69 rfl (lv_at hl 1 rfl) ?_
          refine lv_imul hx hb dX12_pivot_70 ?_
          refine lv_iload hx hb dX12_pivot_71 (lv_at hl 5 rfl) ?_
          refine lv_iadd hx hb dX12_pivot_73 ?_
          obtain ⟨x20, e21, hf⟩ := mb0 hf
          refine mx_aL hx hb hK hJ e21 dX12_pivot_74 ?_
          refine lv_aload_n hx hb dX12_pivot_75 rfl (lv_at hl 0 rfl) ?_
          obtain ⟨b22, e23, hf⟩ := mb0 hf
          refine my_gR hx hb hts hown hK hJ fd_RX12_147 hv_12_70 e23 dX12_pivot_76 ?_
          refine lv_bipush (v := 13) hx hb dX12_pivot_79 (by decide) ?_
          refine lv_iload_n hx hb dX12_pivot_81 rfl (lv_at hl 1 rfl) ?_
          refine lv_imul hx hb dX12_pivot_82 ?_
          refine lv_iload hx hb dX12_pivot_83 (lv_at hl 5 rfl) ?_
          refine lv_iadd hx hb dX12_pivot_85 ?_
          obtain ⟨x24, e25, hf⟩ := mb0 hf
          refine mx_aL hx hb hK hJ e25 dX12_pivot_86 ?_
          refine lv_lload_n hx hb dX12_pivot_87 rfl (lv_at hl 3 rfl) ?_
          refine lv_lload hx hb dX12_pivot_88 (lv_at hl 4 rfl) ?_
          obtain ⟨i26, e27, hf⟩ := mb0 hf
          obtain ⟨σ28, e29, hf⟩ := mb0 hf
          refine mx_callV (As := [.long x20, .long x24, .long v3, .long v5]) (rest := []) hx hb hml hts hown hK hJ rfl rfl (ci := 12) rfl e27 (c_X12_by l G P v0 x20 x24 v3 v5 τ σ28 e29) me_X12_by kw_2646 ks_150 kw_2644 (Nat.le_of_ble_eq_true rfl) (Nat.le_of_ble_eq_true rfl) rfl hl.1 rfl (Nat.le_of_ble_eq_true rfl) dX12_pivot_90 (fun H locs hJ => ?_)
          refine lv_aload_n hx hb dX12_pivot_93 rfl (lv_at hl 0 rfl) ?_
          refine lv_bipush (v := 13) hx hb dX12_pivot_94 (by decide) ?_
          refine lv_iload_n hx hb dX12_pivot_96 rfl (lv_at hl 1 rfl) ?_
          refine lv_imul hx hb dX12_pivot_97 ?_
          refine lv_iload hx hb dX12_pivot_98 (lv_at hl 5 rfl) ?_
          refine lv_iadd hx hb dX12_pivot_100 ?_
          obtain ⟨i30, e31, hf⟩ := mb0 hf
          obtain ⟨σ32, e33, hf⟩ := mb0 hf
          refine mx_callV (As := [.int (((13 : Int32) * v1) + v7)]) (rest := []) hx hb hml hts hown hK hJ rfl rfl (ci := 12) rfl e31 (c_X12_keepFraction l G P v0 (((13 : Int32) * v1) + v7) σ28 σ32 e33) me_X12_keepFraction kw_2658 ks_153 kw_2656 (Nat.le_of_ble_eq_true rfl) (Nat.le_of_ble_eq_true rfl) rfl hl.1 rfl (Nat.le_of_ble_eq_true rfl) dX12_pivot_101 (fun H locs hJ => ?_)
          exact D104_28 v0 v1 v2 v3 v5 v7 σ32 o hf Kb Ke0 _ _ hJ ls (lv_sub hl [0, 1, 2, 3, 4, 5] rfl)
        · rw [if_pos c17] at hf
          refine lv_goto (tgt := 104) hx hb dX12_pivot_59 (by decide) ?_
          exact D104_28 v0 v1 v2 v3 v5 v7 τ o hf Kb Ke0 _ _ hJ ls (lv_sub hl [0, 1, 2, 3, 4, 5] rfl)
  have L28 : ∀ (v0 : Nat) (v1 : Int32) (v2 : Int32) (v3 : Int64) (v5 : Int64) (n : Nat) (v7 : Int32) (τ : mx_S) (o : (mx_S)), mx_lp (f_X12_pivot_L28 P v0 v1 v2 v3 v5) n (v7, τ) = some o → (∀  (υ : mx_S), o = υ → ∀ (H : Heap) (locs : List Loc), mx_J G P s.heap (mxz σ) (mxu σ) υ H locs → ∀ ls : Array Slot, lv_has ls 13 [(0, .ref v0), (1, .int v1), (2, .int v2)] → W p l e (mx_rm P 5 140 σ) s m ([.ref a0, .int p1, .int p2] : List Value).toArray below meth c H locs (mxz υ - mxz σ) (mxu υ - mxu σ) (mx_Z below G P none σ σ' [.ref a0, .int p1, .int p2] s) (F0 m 110 ls [])) → ∀ (H : Heap) (locs : List Loc), mx_J G P s.heap (mxz σ) (mxu σ) τ H locs → ∀ ls : Array Slot, lv_has ls 13 [(0, .ref v0), (1, .int v1), (2, .int v2), (3, .long v3), (5, .long v5), (7, .int v7)] → W p l e (mx_rm P 5 140 σ) s m ([.ref a0, .int p1, .int p2] : List Value).toArray below meth c H locs (mxz τ - mxz σ) (mxu τ - mxu σ) (mx_Z below G P none σ σ' [.ref a0, .int p1, .int p2] s) (F0 m 28 ls []) := by
    intro v0 v1 v2 v3 v5 n
    induction n with
    | zero =>
      intro v7 τ o hf
      rw [mx_lp0] at hf
      cases hf
    | succ n ih =>
      intro v7 τ o hf Ke0 H locs hJ ls hl
      rw [mx_lpS] at hf
      obtain ⟨b, eb, hf⟩ := mb0 hf
      refine B28 v0 v1 v2 v3 v5 v7 τ b eb (fun y7 υ ho H locs hJ ls hl => ?_) (fun  υ ho H locs hJ ls hl => ?_) H locs hJ ls hl
      · subst ho
        exact ih y7 υ o hf Ke0 H locs hJ ls hl
      · subst ho
        exact Ke0  υ (Option.some.inj hf).symm _ _ hJ ls hl
  have D299_113 : ∀ (v0 : Nat) (v1 : Int32) (v2 : Int32) (v7 : Int32) (τ : mx_S) (o : (Int32 × mx_S) ⊕ ((mx_S))), f_X12_pivot_D299_113 P v0 v1 v2 v7 τ = some o → (∀ (y7 : Int32) (υ : mx_S), o = .inl (y7, υ) → ∀ (H : Heap) (locs : List Loc), mx_J G P s.heap (mxz σ) (mxu σ) υ H locs → ∀ ls : Array Slot, lv_has ls 13 [(0, .ref v0), (1, .int v1), (2, .int v2), (7, .int y7)] → W p l e (mx_rm P 5 140 σ) s m ([.ref a0, .int p1, .int p2] : List Value).toArray below meth c H locs (mxz υ - mxz σ) (mxu υ - mxu σ) (mx_Z below G P none σ σ' [.ref a0, .int p1, .int p2] s) (F0 m 113 ls [])) → (∀  (υ : mx_S), o = .inr υ → ∀ (H : Heap) (locs : List Loc), mx_J G P s.heap (mxz σ) (mxu σ) υ H locs → ∀ ls : Array Slot, lv_has ls 13 [] → W p l e (mx_rm P 5 140 σ) s m ([.ref a0, .int p1, .int p2] : List Value).toArray below meth c H locs (mxz υ - mxz σ) (mxu υ - mxu σ) (mx_Z below G P none σ σ' [.ref a0, .int p1, .int p2] s) (F0 m 305 ls [])) → ∀ (H : Heap) (locs : List Loc), mx_J G P s.heap (mxz σ) (mxu σ) τ H locs → ∀ ls : Array Slot, lv_has ls 13 [(0, .ref v0), (1, .int v1), (2, .int v2), (7, .int v7)] → W p l e (mx_rm P 5 140 σ) s m ([.ref a0, .int p1, .int p2] : List Value).toArray below meth c H locs (mxz τ - mxz σ) (mxu τ - mxu σ) (mx_Z below G P none σ σ' [.ref a0, .int p1, .int p2] s) (F0 m 299 ls []) := by
    intro v0 v1 v2 v7 τ o hf Kb Ke0 H locs hJ ls hl
    unfold f_X12_pivot_D299_113 at hf
    obtain ⟨x54, e55, hf⟩ := mb0 hf
    refine lv_iinc (v := x54) (lv' := [(7, .int x54), (0, .ref v0), (1, .int v1), (2, .int v2)]) hx hb dX12_pivot_299 hl (k := 3) rfl (by rw [← Option.some.inj e55]; rfl) (by decide) rfl (fun ls hl => ?_)
    refine lv_goto (tgt := 113) hx hb dX12_pivot_302 (by decide) ?_
    exact Kb x54 τ (Option.some.inj hf).symm _ _ hJ ls (lv_sub hl [1, 2, 3, 0] rfl)
  have D293_176 : ∀ (v0 : Nat) (v1 : Int32) (v2 : Int32) (v7 : Int32) (v8 : Int64) (v10 : Int64) (v12 : Int32) (τ : mx_S) (o : (Int32 × mx_S) ⊕ ((mx_S))), f_X12_pivot_D293_176 P v0 v1 v2 v7 v8 v10 v12 τ = some o → (∀ (y12 : Int32) (υ : mx_S), o = .inl (y12, υ) → ∀ (H : Heap) (locs : List Loc), mx_J G P s.heap (mxz σ) (mxu σ) υ H locs → ∀ ls : Array Slot, lv_has ls 13 [(0, .ref v0), (1, .int v1), (2, .int v2), (7, .int v7), (8, .long v8), (10, .long v10), (12, .int y12)] → W p l e (mx_rm P 5 140 σ) s m ([.ref a0, .int p1, .int p2] : List Value).toArray below meth c H locs (mxz υ - mxz σ) (mxu υ - mxu σ) (mx_Z below G P none σ σ' [.ref a0, .int p1, .int p2] s) (F0 m 176 ls [])) → (∀  (υ : mx_S), o = .inr υ → ∀ (H : Heap) (locs : List Loc), mx_J G P s.heap (mxz σ) (mxu σ) υ H locs → ∀ ls : Array Slot, lv_has ls 13 [(0, .ref v0), (1, .int v1), (2, .int v2), (7, .int v7)] → W p l e (mx_rm P 5 140 σ) s m ([.ref a0, .int p1, .int p2] : List Value).toArray below meth c H locs (mxz υ - mxz σ) (mxu υ - mxu σ) (mx_Z below G P none σ σ' [.ref a0, .int p1, .int p2] s) (F0 m 299 ls [])) → ∀ (H : Heap) (locs : List Loc), mx_J G P s.heap (mxz σ) (mxu σ) τ H locs → ∀ ls : Array Slot, lv_has ls 13 [(0, .ref v0), (1, .int v1), (2, .int v2), (7, .int v7), (8, .long v8), (10, .long v10), (12, .int v12)] → W p l e (mx_rm P 5 140 σ) s m ([.ref a0, .int p1, .int p2] : List Value).toArray below meth c H locs (mxz τ - mxz σ) (mxu τ - mxu σ) (mx_Z below G P none σ σ' [.ref a0, .int p1, .int p2] s) (F0 m 293 ls []) := by
    intro v0 v1 v2 v7 v8 v10 v12 τ o hf Kb Ke0 H locs hJ ls hl
    unfold f_X12_pivot_D293_176 at hf
    obtain ⟨x98, e99, hf⟩ := mb0 hf
    refine lv_iinc (v := x98) (lv' := [(12, .int x98), (0, .ref v0), (1, .int v1), (2, .int v2), (7, .int v7), (8, .long v8), (10, .long v10)]) hx hb dX12_pivot_293 hl (k := 6) rfl (by rw [← Option.some.inj e99]; rfl) (by decide) rfl (fun ls hl => ?_)
    refine lv_goto (tgt := 176) hx hb dX12_pivot_296 (by decide) ?_
    exact Kb x98 τ (Option.some.inj hf).symm _ _ hJ ls (lv_sub hl [1, 2, 3, 4, 5, 6, 0] rfl)
  have B176 : ∀ (v0 : Nat) (v1 : Int32) (v2 : Int32) (v7 : Int32) (v8 : Int64) (v10 : Int64) (v12 : Int32) (τ : mx_S) (o : (Int32 × mx_S) ⊕ ((mx_S))), f_X12_pivot_B176 P v0 v1 v2 v7 v8 v10 v12 τ = some o → (∀ (y12 : Int32) (υ : mx_S), o = .inl (y12, υ) → ∀ (H : Heap) (locs : List Loc), mx_J G P s.heap (mxz σ) (mxu σ) υ H locs → ∀ ls : Array Slot, lv_has ls 13 [(0, .ref v0), (1, .int v1), (2, .int v2), (7, .int v7), (8, .long v8), (10, .long v10), (12, .int y12)] → W p l e (mx_rm P 5 140 σ) s m ([.ref a0, .int p1, .int p2] : List Value).toArray below meth c H locs (mxz υ - mxz σ) (mxu υ - mxu σ) (mx_Z below G P none σ σ' [.ref a0, .int p1, .int p2] s) (F0 m 176 ls [])) → (∀  (υ : mx_S), o = .inr υ → ∀ (H : Heap) (locs : List Loc), mx_J G P s.heap (mxz σ) (mxu σ) υ H locs → ∀ ls : Array Slot, lv_has ls 13 [(0, .ref v0), (1, .int v1), (2, .int v2), (7, .int v7)] → W p l e (mx_rm P 5 140 σ) s m ([.ref a0, .int p1, .int p2] : List Value).toArray below meth c H locs (mxz υ - mxz σ) (mxu υ - mxu σ) (mx_Z below G P none σ σ' [.ref a0, .int p1, .int p2] s) (F0 m 299 ls [])) → ∀ (H : Heap) (locs : List Loc), mx_J G P s.heap (mxz σ) (mxu σ) τ H locs → ∀ ls : Array Slot, lv_has ls 13 [(0, .ref v0), (1, .int v1), (2, .int v2), (7, .int v7), (8, .long v8), (10, .long v10), (12, .int v12)] → W p l e (mx_rm P 5 140 σ) s m ([.ref a0, .int p1, .int p2] : List Value).toArray below meth c H locs (mxz τ - mxz σ) (mxu τ - mxu σ) (mx_Z below G P none σ σ' [.ref a0, .int p1, .int p2] s) (F0 m 176 ls []) := by
    intro v0 v1 v2 v7 v8 v10 v12 τ o hf Kb Ke0 H locs hJ ls hl
    unfold f_X12_pivot_B176 at hf
    refine lv_iload hx hb dX12_pivot_176 (lv_at hl 6 rfl) ?_
    refine lv_bipush (v := 13) hx hb dX12_pivot_178 (by decide) ?_
    refine lv_icmp_ge (tgt := 299) hx hb dX12_pivot_180 (by decide) (fun c57 => ?_) (fun c57 => ?_)
    · rw [if_pos c57] at hf
      exact Ke0 τ (Option.some.inj hf).symm _ _ hJ ls (lv_sub hl [0, 1, 2, 3] rfl)
    · rw [if_neg c57] at hf
      refine lv_aload_n hx hb dX12_pivot_183 rfl (lv_at hl 0 rfl) ?_
      obtain ⟨x58, e59, hf⟩ := mb0 hf
      refine my_gI hx hb hts hown hK hJ fd_RX12_283 hv_12_10 e59 dX12_pivot_184 ?_
      refine lv_if_ne (tgt := 299) hx hb dX12_pivot_187 (by decide) (fun c60 => ?_) (fun c60 => ?_)
      · rw [if_neg c60] at hf
        exact Ke0 τ (Option.some.inj hf).symm _ _ hJ ls (lv_sub hl [0, 1, 2, 3] rfl)
      · rw [if_pos c60] at hf
        refine lv_aload_n hx hb dX12_pivot_190 rfl (lv_at hl 0 rfl) ?_
        obtain ⟨b61, e62, hf⟩ := mb0 hf
        refine my_gR hx hb hts hown hK hJ fd_RX12_144 hv_12_69 e62 dX12_pivot_191 ?_
        refine lv_bipush (v := 13) hx hb dX12_pivot_194 (by decide) ?_
        refine lv_iload_n hx hb dX12_pivot_196 rfl (lv_at hl 1 rfl) ?_
        refine lv_imul hx hb dX12_pivot_197 ?_
        refine lv_iload hx hb dX12_pivot_198 (lv_at hl 6 rfl) ?_
        refine lv_iadd hx hb dX12_pivot_200 ?_
        obtain ⟨x63, e64, hf⟩ := mb0 hf
        refine mx_aL hx hb hK hJ e64 dX12_pivot_201 ?_
        refine lv_lconst (v := 0) hx hb dX12_pivot_202 (by decide) ?_
        refine W.lcmp hx hb dX12_pivot_203 ?_
        refine lv_if_ne (tgt := 210) hx hb dX12_pivot_204 (by decide) (fun c65 => ?_) (fun c65 => ?_)
        · rw [if_neg c65] at hf
          refine lv_aload_n hx hb dX12_pivot_210 rfl (lv_at hl 0 rfl) ?_
          refine lv_lload hx hb dX12_pivot_211 (lv_at hl 4 rfl) ?_
          refine lv_lload hx hb dX12_pivot_213 (lv_at hl 5 rfl) ?_
          refine lv_aload_n hx hb dX12_pivot_215 rfl (lv_at hl 0 rfl) ?_
          obtain ⟨b66, e67, hf⟩ := mb0 hf
          refine my_gR hx hb hts hown hK hJ fd_RX12_144 hv_12_69 e67 dX12_pivot_216 ?_
          refine lv_bipush (v := 13) hx hb dX12_pivot_219 (by decide) ?_
          refine lv_iload_n hx hb dX12_pivot_221 rfl (lv_at hl 1 rfl) ?_
          refine lv_imul hx hb dX12_pivot_222 ?_
          refine lv_iload hx hb dX12_pivot_223 (lv_at hl 6 rfl) ?_
          refine lv_iadd hx hb dX12_pivot_225 ?_
          obtain ⟨x68, e69, hf⟩ := mb0 hf
          refine mx_aL hx hb hK hJ e69 dX12_pivot_226 ?_
          refine lv_aload_n hx hb dX12_pivot_227 rfl (lv_at hl 0 rfl) ?_
          obtain ⟨b70, e71, hf⟩ := mb0 hf
          refine my_gR hx hb hts hown hK hJ fd_RX12_147 hv_12_70 e71 dX12_pivot_228 ?_
          refine lv_bipush (v := 13) hx hb dX12_pivot_231 (by decide) ?_
          refine lv_iload_n hx hb dX12_pivot_233 rfl (lv_at hl 1 rfl) ?_
          refine lv_imul hx hb dX12_pivot_234 ?_
          refine lv_iload hx hb dX12_pivot_235 (lv_at hl 6 rfl) ?_
          refine lv_iadd hx hb dX12_pivot_237 ?_
          obtain ⟨x72, e73, hf⟩ := mb0 hf
          refine mx_aL hx hb hK hJ e73 dX12_pivot_238 ?_
          obtain ⟨i74, e75, hf⟩ := mb0 hf
          obtain ⟨σ76, e77, hf⟩ := mb0 hf
          refine mx_callV (As := [.long v8, .long v10, .long x68, .long x72]) (rest := []) hx hb hml hts hown hK hJ rfl rfl (ci := 12) rfl e75 (c_X12_times l G P v0 v8 v10 x68 x72 τ σ76 e77) me_X12_times kw_2650 ks_151 kw_2648 (Nat.le_of_ble_eq_true rfl) (Nat.le_of_ble_eq_true rfl) rfl hl.1 rfl (Nat.le_of_ble_eq_true rfl) dX12_pivot_239 (fun H locs hJ => ?_)
          refine lv_aload_n hx hb dX12_pivot_242 rfl (lv_at hl 0 rfl) ?_
          refine lv_aload_n hx hb dX12_pivot_243 rfl (lv_at hl 0 rfl) ?_
          obtain ⟨b78, e79, hf⟩ := mb0 hf
          refine my_gR hx hb hts hown hK hJ fd_RX12_144 hv_12_69 e79 dX12_pivot_244 ?_
          refine lv_bipush (v := 13) hx hb dX12_pivot_247 (by decide) ?_
          refine lv_iload hx hb dX12_pivot_249 (lv_at hl 3 rfl) ?_
          refine lv_imul hx hb dX12_pivot_251 ?_
          refine lv_iload hx hb dX12_pivot_252 (lv_at hl 6 rfl) ?_
          refine lv_iadd hx hb dX12_pivot_254 ?_
          obtain ⟨x80, e81, hf⟩ := mb0 hf
          refine mx_aL hx hb hK hJ e81 dX12_pivot_255 ?_
          refine lv_aload_n hx hb dX12_pivot_256 rfl (lv_at hl 0 rfl) ?_
          obtain ⟨b82, e83, hf⟩ := mb0 hf
          refine my_gR hx hb hts hown hK hJ fd_RX12_147 hv_12_70 e83 dX12_pivot_257 ?_
          refine lv_bipush (v := 13) hx hb dX12_pivot_260 (by decide) ?_
          refine lv_iload hx hb dX12_pivot_262 (lv_at hl 3 rfl) ?_
          refine lv_imul hx hb dX12_pivot_264 ?_
          refine lv_iload hx hb dX12_pivot_265 (lv_at hl 6 rfl) ?_
          refine lv_iadd hx hb dX12_pivot_267 ?_
          obtain ⟨x84, e85, hf⟩ := mb0 hf
          refine mx_aL hx hb hK hJ e85 dX12_pivot_268 ?_
          refine lv_aload_n hx hb dX12_pivot_269 rfl (lv_at hl 0 rfl) ?_
          obtain ⟨x86, e87, hf⟩ := mb0 hf
          refine my_gL hx hb hts hown hK hJ fd_RX12_287 hv_12_8 e87 dX12_pivot_270 ?_
          refine lv_lneg hx hb dX12_pivot_273 ?_
          refine lv_aload_n hx hb dX12_pivot_274 rfl (lv_at hl 0 rfl) ?_
          obtain ⟨x88, e89, hf⟩ := mb0 hf
          refine my_gL hx hb hts hown hK hJ fd_RX12_291 hv_12_9 e89 dX12_pivot_275 ?_
          obtain ⟨i90, e91, hf⟩ := mb0 hf
          obtain ⟨σ92, e93, hf⟩ := mb0 hf
          refine mx_callV (As := [.long x80, .long x84, .long (-x86), .long x88]) (rest := []) hx hb hml hts hown hK hJ rfl rfl (ci := 12) rfl e91 (c_X12_sum l G P v0 x80 x84 (-x86) x88 σ76 σ92 e93) me_X12_sum kw_2662 ks_154 kw_2660 (Nat.le_of_ble_eq_true rfl) (Nat.le_of_ble_eq_true rfl) rfl hl.1 rfl (Nat.le_of_ble_eq_true rfl) dX12_pivot_278 (fun H locs hJ => ?_)
          refine lv_aload_n hx hb dX12_pivot_281 rfl (lv_at hl 0 rfl) ?_
          refine lv_bipush (v := 13) hx hb dX12_pivot_282 (by decide) ?_
          refine lv_iload hx hb dX12_pivot_284 (lv_at hl 3 rfl) ?_
          refine lv_imul hx hb dX12_pivot_286 ?_
          refine lv_iload hx hb dX12_pivot_287 (lv_at hl 6 rfl) ?_
          refine lv_iadd hx hb dX12_pivot_289 ?_
          obtain ⟨i94, e95, hf⟩ := mb0 hf
          obtain ⟨σ96, e97, hf⟩ := mb0 hf
          refine mx_callV (As := [.int (((13 : Int32) * v7) + v12)]) (rest := []) hx hb hml hts hown hK hJ rfl rfl (ci := 12) rfl e95 (c_X12_keepFraction l G P v0 (((13 : Int32) * v7) + v12) σ92 σ96 e97) me_X12_keepFraction kw_2658 ks_153 kw_2656 (Nat.le_of_ble_eq_true rfl) (Nat.le_of_ble_eq_true rfl) rfl hl.1 rfl (Nat.le_of_ble_eq_true rfl) dX12_pivot_290 (fun H locs hJ => ?_)
          exact D293_176 v0 v1 v2 v7 v8 v10 v12 σ96 o hf Kb Ke0 _ _ hJ ls (lv_sub hl [0, 1, 2, 3, 4, 5, 6] rfl)
        · rw [if_pos c65] at hf
          refine lv_goto (tgt := 293) hx hb dX12_pivot_207 (by decide) ?_
          exact D293_176 v0 v1 v2 v7 v8 v10 v12 τ o hf Kb Ke0 _ _ hJ ls (lv_sub hl [0, 1, 2, 3, 4, 5, 6] rfl)
  have L176 : ∀ (v0 : Nat) (v1 : Int32) (v2 : Int32) (v7 : Int32) (v8 : Int64) (v10 : Int64) (n : Nat) (v12 : Int32) (τ : mx_S) (o : (mx_S)), mx_lp (f_X12_pivot_L176 P v0 v1 v2 v7 v8 v10) n (v12, τ) = some o → (∀  (υ : mx_S), o = υ → ∀ (H : Heap) (locs : List Loc), mx_J G P s.heap (mxz σ) (mxu σ) υ H locs → ∀ ls : Array Slot, lv_has ls 13 [(0, .ref v0), (1, .int v1), (2, .int v2), (7, .int v7)] → W p l e (mx_rm P 5 140 σ) s m ([.ref a0, .int p1, .int p2] : List Value).toArray below meth c H locs (mxz υ - mxz σ) (mxu υ - mxu σ) (mx_Z below G P none σ σ' [.ref a0, .int p1, .int p2] s) (F0 m 299 ls [])) → ∀ (H : Heap) (locs : List Loc), mx_J G P s.heap (mxz σ) (mxu σ) τ H locs → ∀ ls : Array Slot, lv_has ls 13 [(0, .ref v0), (1, .int v1), (2, .int v2), (7, .int v7), (8, .long v8), (10, .long v10), (12, .int v12)] → W p l e (mx_rm P 5 140 σ) s m ([.ref a0, .int p1, .int p2] : List Value).toArray below meth c H locs (mxz τ - mxz σ) (mxu τ - mxu σ) (mx_Z below G P none σ σ' [.ref a0, .int p1, .int p2] s) (F0 m 176 ls []) := by
    intro v0 v1 v2 v7 v8 v10 n
    induction n with
    | zero =>
      intro v12 τ o hf
      rw [mx_lp0] at hf
      cases hf
    | succ n ih =>
      intro v12 τ o hf Ke0 H locs hJ ls hl
      rw [mx_lpS] at hf
      obtain ⟨b, eb, hf⟩ := mb0 hf
      refine B176 v0 v1 v2 v7 v8 v10 v12 τ b eb (fun y12 υ ho H locs hJ ls hl => ?_) (fun  υ ho H locs hJ ls hl => ?_) H locs hJ ls hl
      · subst ho
        exact ih y12 υ o hf Ke0 H locs hJ ls hl
      · subst ho
        exact Ke0  υ (Option.some.inj hf).symm _ _ hJ ls hl
  have B113 : ∀ (v0 : Nat) (v1 : Int32) (v2 : Int32) (v7 : Int32) (τ : mx_S) (o : (Int32 × mx_S) ⊕ ((mx_S))), f_X12_pivot_B113 P v0 v1 v2 v7 τ = some o → (∀ (y7 : Int32) (υ : mx_S), o = .inl (y7, υ) → ∀ (H : Heap) (locs : List Loc), mx_J G P s.heap (mxz σ) (mxu σ) υ H locs → ∀ ls : Array Slot, lv_has ls 13 [(0, .ref v0), (1, .int v1), (2, .int v2), (7, .int y7)] → W p l e (mx_rm P 5 140 σ) s m ([.ref a0, .int p1, .int p2] : List Value).toArray below meth c H locs (mxz υ - mxz σ) (mxu υ - mxu σ) (mx_Z below G P none σ σ' [.ref a0, .int p1, .int p2] s) (F0 m 113 ls [])) → (∀  (υ : mx_S), o = .inr υ → ∀ (H : Heap) (locs : List Loc), mx_J G P s.heap (mxz σ) (mxu σ) υ H locs → ∀ ls : Array Slot, lv_has ls 13 [] → W p l e (mx_rm P 5 140 σ) s m ([.ref a0, .int p1, .int p2] : List Value).toArray below meth c H locs (mxz υ - mxz σ) (mxu υ - mxu σ) (mx_Z below G P none σ σ' [.ref a0, .int p1, .int p2] s) (F0 m 305 ls [])) → ∀ (H : Heap) (locs : List Loc), mx_J G P s.heap (mxz σ) (mxu σ) τ H locs → ∀ ls : Array Slot, lv_has ls 13 [(0, .ref v0), (1, .int v1), (2, .int v2), (7, .int v7)] → W p l e (mx_rm P 5 140 σ) s m ([.ref a0, .int p1, .int p2] : List Value).toArray below meth c H locs (mxz τ - mxz σ) (mxu τ - mxu σ) (mx_Z below G P none σ σ' [.ref a0, .int p1, .int p2] s) (F0 m 113 ls []) := by
    intro v0 v1 v2 v7 τ o hf Kb Ke0 H locs hJ ls hl
    unfold f_X12_pivot_B113 at hf
    refine lv_iload hx hb dX12_pivot_113 (lv_at hl 3 rfl) ?_
    refine lv_aload_n hx hb dX12_pivot_115 rfl (lv_at hl 0 rfl) ?_
    obtain ⟨x39, e40, hf⟩ := mb0 hf
    refine my_gI hx hb hts hown hK hJ fd_RX12_626 hv_12_68 e40 dX12_pivot_116 ?_
    refine lv_icmp_ge (tgt := 305) hx hb dX12_pivot_119 (by decide) (fun c41 => ?_) (fun c41 => ?_)
    · rw [if_pos c41] at hf
      exact Ke0 τ (Option.some.inj hf).symm _ _ hJ ls (lv_sub hl [] rfl)
    · rw [if_neg c41] at hf
      refine lv_aload_n hx hb dX12_pivot_122 rfl (lv_at hl 0 rfl) ?_
      obtain ⟨x42, e43, hf⟩ := mb0 hf
      refine my_gI hx hb hts hown hK hJ fd_RX12_283 hv_12_10 e43 dX12_pivot_123 ?_
      refine lv_if_ne (tgt := 305) hx hb dX12_pivot_126 (by decide) (fun c44 => ?_) (fun c44 => ?_)
      · rw [if_neg c44] at hf
        exact Ke0 τ (Option.some.inj hf).symm _ _ hJ ls (lv_sub hl [] rfl)
      · rw [if_pos c44] at hf
        refine lv_aload_n hx hb dX12_pivot_129 rfl (lv_at hl 0 rfl) ?_
        obtain ⟨b45, e46, hf⟩ := mb0 hf
        refine my_gR hx hb hts hown hK hJ fd_RX12_144 hv_12_69 e46 dX12_pivot_130 ?_
        refine lv_bipush (v := 13) hx hb dX12_pivot_133 (by decide) ?_
        refine lv_iload hx hb dX12_pivot_135 (lv_at hl 3 rfl) ?_
        refine lv_imul hx hb dX12_pivot_137 ?_
        refine lv_iload_n hx hb dX12_pivot_138 rfl (lv_at hl 2 rfl) ?_
        refine lv_iadd hx hb dX12_pivot_139 ?_
        obtain ⟨x47, e48, hf⟩ := mb0 hf
        refine mx_aL hx hb hK hJ e48 dX12_pivot_140 ?_
        refine lv_lstore (lv' := [(8, .long x47), (0, .ref v0), (1, .int v1), (2, .int v2), (7, .int v7)]) hx hb dX12_pivot_141 hl (by decide) rfl (fun ls hl => ?_)
        refine lv_aload_n hx hb dX12_pivot_143 rfl (lv_at hl 1 rfl) ?_
        obtain ⟨b49, e50, hf⟩ := mb0 hf
        refine my_gR hx hb hts hown hK hJ fd_RX12_147 hv_12_70 e50 dX12_pivot_144 ?_
        refine lv_bipush (v := 13) hx hb dX12_pivot_147 (by decide) ?_
        refine lv_iload hx hb dX12_pivot_149 (lv_at hl 4 rfl) ?_
        refine lv_imul hx hb dX12_pivot_151 ?_
        refine lv_iload_n hx hb dX12_pivot_152 rfl (lv_at hl 3 rfl) ?_
        refine lv_iadd hx hb dX12_pivot_153 ?_
        obtain ⟨x51, e52, hf⟩ := mb0 hf
        refine mx_aL hx hb hK hJ e52 dX12_pivot_154 ?_
        refine lv_lstore (lv' := [(10, .long x51), (8, .long x47), (0, .ref v0), (1, .int v1), (2, .int v2), (7, .int v7)]) hx hb dX12_pivot_155 hl (by decide) rfl (fun ls hl => ?_)
        refine lv_iload hx hb dX12_pivot_157 (lv_at hl 5 rfl) ?_
        refine lv_iload_n hx hb dX12_pivot_159 rfl (lv_at hl 3 rfl) ?_
        refine lv_icmp_eq (tgt := 299) hx hb dX12_pivot_160 (by decide) (fun c53 => ?_) (fun c53 => ?_)
        · rw [if_pos c53] at hf
          exact D299_113 v0 v1 v2 v7 τ o hf Kb Ke0 _ _ hJ ls (lv_sub hl [2, 3, 4, 5] rfl)
        · rw [if_neg c53] at hf
          refine lv_lload hx hb dX12_pivot_163 (lv_at hl 1 rfl) ?_
          refine lv_lconst (v := 0) hx hb dX12_pivot_165 (by decide) ?_
          refine W.lcmp hx hb dX12_pivot_166 ?_
          refine lv_if_ne (tgt := 173) hx hb dX12_pivot_167 (by decide) (fun c56 => ?_) (fun c56 => ?_)
          · rw [if_neg c56] at hf
            refine lv_iconst (v := 0) hx hb dX12_pivot_173 (by decide) ?_
            refine lv_istore (lv' := [(12, .int (0 : Int32)), (10, .long x51), (8, .long x47), (0, .ref v0), (1, .int v1), (2, .int v2), (7, .int v7)]) hx hb dX12_pivot_174 hl (by decide) rfl (fun ls hl => ?_)
            obtain ⟨o100, e101, hf⟩ := mb0 hf
            refine L176 v0 v1 v2 v7 x47 x51 (mpN P) (0 : Int32) τ o100 e101 (fun σ102 ho H locs hJ ls hl => ?_) _ _ hJ ls (lv_sub hl [3, 4, 5, 6, 2, 1, 0] rfl)
            · rw [ho] at hf
              have hf : (f_X12_pivot_D299_113 P v0 v1 v2 v7 σ102) = some o := hf
              exact D299_113 v0 v1 v2 v7 σ102 o hf Kb Ke0 _ _ hJ ls (lv_sub hl [0, 1, 2, 3] rfl)
          · rw [if_pos c56] at hf
            refine lv_goto (tgt := 299) hx hb dX12_pivot_170 (by decide) ?_
            exact D299_113 v0 v1 v2 v7 τ o hf Kb Ke0 _ _ hJ ls (lv_sub hl [2, 3, 4, 5] rfl)
  have L113 : ∀ (v0 : Nat) (v1 : Int32) (v2 : Int32) (n : Nat) (v7 : Int32) (τ : mx_S) (o : (mx_S)), mx_lp (f_X12_pivot_L113 P v0 v1 v2) n (v7, τ) = some o → (∀  (υ : mx_S), o = υ → ∀ (H : Heap) (locs : List Loc), mx_J G P s.heap (mxz σ) (mxu σ) υ H locs → ∀ ls : Array Slot, lv_has ls 13 [] → W p l e (mx_rm P 5 140 σ) s m ([.ref a0, .int p1, .int p2] : List Value).toArray below meth c H locs (mxz υ - mxz σ) (mxu υ - mxu σ) (mx_Z below G P none σ σ' [.ref a0, .int p1, .int p2] s) (F0 m 305 ls [])) → ∀ (H : Heap) (locs : List Loc), mx_J G P s.heap (mxz σ) (mxu σ) τ H locs → ∀ ls : Array Slot, lv_has ls 13 [(0, .ref v0), (1, .int v1), (2, .int v2), (7, .int v7)] → W p l e (mx_rm P 5 140 σ) s m ([.ref a0, .int p1, .int p2] : List Value).toArray below meth c H locs (mxz τ - mxz σ) (mxu τ - mxu σ) (mx_Z below G P none σ σ' [.ref a0, .int p1, .int p2] s) (F0 m 113 ls []) := by
    intro v0 v1 v2 n
    induction n with
    | zero =>
      intro v7 τ o hf
      rw [mx_lp0] at hf
      cases hf
    | succ n ih =>
      intro v7 τ o hf Ke0 H locs hJ ls hl
      rw [mx_lpS] at hf
      obtain ⟨b, eb, hf⟩ := mb0 hf
      refine B113 v0 v1 v2 v7 τ b eb (fun y7 υ ho H locs hJ ls hl => ?_) (fun  υ ho H locs hJ ls hl => ?_) H locs hJ ls hl
      · subst ho
        exact ih y7 υ o hf Ke0 H locs hJ ls hl
      · subst ho
        exact Ke0  υ (Option.some.inj hf).symm _ _ hJ ls hl
  have D305 : ∀  (τ : mx_S), f_X12_pivot_D305 P  τ = some σ' → ∀ (H : Heap) (locs : List Loc), mx_J G P s.heap (mxz σ) (mxu σ) τ H locs → ∀ ls : Array Slot, lv_has ls 13 [] → W p l e (mx_rm P 5 140 σ) s m ([.ref a0, .int p1, .int p2] : List Value).toArray below meth c H locs (mxz τ - mxz σ) (mxu τ - mxu σ) (mx_Z below G P none σ σ' [.ref a0, .int p1, .int p2] s) (F0 m 305 ls []) := by
    intro  τ hf _ _ hJ ls hl
    unfold f_X12_pivot_D305 at hf
    exact my_vret hx hb hr hlocks hJ hf dX12_pivot_305
  have D110 : ∀ (v0 : Nat) (v1 : Int32) (v2 : Int32) (τ : mx_S), f_X12_pivot_D110 P v0 v1 v2 τ = some σ' → ∀ (H : Heap) (locs : List Loc), mx_J G P s.heap (mxz σ) (mxu σ) τ H locs → ∀ ls : Array Slot, lv_has ls 13 [(0, .ref v0), (1, .int v1), (2, .int v2)] → W p l e (mx_rm P 5 140 σ) s m ([.ref a0, .int p1, .int p2] : List Value).toArray below meth c H locs (mxz τ - mxz σ) (mxu τ - mxu σ) (mx_Z below G P none σ σ' [.ref a0, .int p1, .int p2] s) (F0 m 110 ls []) := by
    intro v0 v1 v2 τ hf _ _ hJ ls hl
    unfold f_X12_pivot_D110 at hf
    refine lv_iconst (v := 0) hx hb dX12_pivot_110 (by decide) ?_
    refine lv_istore (lv' := [(7, .int (0 : Int32)), (0, .ref v0), (1, .int v1), (2, .int v2)]) hx hb dX12_pivot_111 hl (by decide) rfl (fun ls hl => ?_)
    obtain ⟨o103, e104, hf⟩ := mb0 hf
    refine L113 v0 v1 v2 (mpN P) (0 : Int32) τ o103 e104 (fun σ105 ho H locs hJ ls hl => ?_) _ _ hJ ls (lv_sub hl [1, 2, 3, 0] rfl)
    · rw [ho] at hf
      have hf : (f_X12_pivot_D305 P  σ105) = some σ' := hf
      exact D305  σ105 hf _ _ hJ ls (lv_sub hl [] rfl)
  unfold f_X12_pivot at hf
  refine lv_aload_n hx hb dX12_pivot_0 rfl (lv_at hl 0 rfl) ?_
  obtain ⟨b1, e2, hf⟩ := mb0 hf
  refine my_gR hx hb hts hown hK hJ fd_RX12_144 hv_12_69 e2 dX12_pivot_1 ?_
  refine lv_bipush (v := 13) hx hb dX12_pivot_4 (by decide) ?_
  refine lv_iload_n hx hb dX12_pivot_6 rfl (lv_at hl 1 rfl) ?_
  refine lv_imul hx hb dX12_pivot_7 ?_
  refine lv_iload_n hx hb dX12_pivot_8 rfl (lv_at hl 2 rfl) ?_
  refine lv_iadd hx hb dX12_pivot_9 ?_
  obtain ⟨x3, e4, hf⟩ := mb0 hf
  refine mx_aL hx hb hK hJ e4 dX12_pivot_10 ?_
  refine lv_lstore_n (lv' := [(3, .long x3), (0, .ref a0), (1, .int p1), (2, .int p2)]) hx hb dX12_pivot_11 rfl hl (by decide) rfl (fun ls hl => ?_)
  refine lv_aload_n hx hb dX12_pivot_12 rfl (lv_at hl 1 rfl) ?_
  obtain ⟨b5, e6, hf⟩ := mb0 hf
  refine my_gR hx hb hts hown hK hJ fd_RX12_147 hv_12_70 e6 dX12_pivot_13 ?_
  refine lv_bipush (v := 13) hx hb dX12_pivot_16 (by decide) ?_
  refine lv_iload_n hx hb dX12_pivot_18 rfl (lv_at hl 2 rfl) ?_
  refine lv_imul hx hb dX12_pivot_19 ?_
  refine lv_iload_n hx hb dX12_pivot_20 rfl (lv_at hl 3 rfl) ?_
  refine lv_iadd hx hb dX12_pivot_21 ?_
  obtain ⟨x7, e8, hf⟩ := mb0 hf
  refine mx_aL hx hb hK hJ e8 dX12_pivot_22 ?_
  refine lv_lstore (lv' := [(5, .long x7), (3, .long x3), (0, .ref a0), (1, .int p1), (2, .int p2)]) hx hb dX12_pivot_23 hl (by decide) rfl (fun ls hl => ?_)
  refine lv_iconst (v := 0) hx hb dX12_pivot_25 (by decide) ?_
  refine lv_istore (lv' := [(7, .int (0 : Int32)), (5, .long x7), (3, .long x3), (0, .ref a0), (1, .int p1), (2, .int p2)]) hx hb dX12_pivot_26 hl (by decide) rfl (fun ls hl => ?_)
  obtain ⟨o36, e37, hf⟩ := mb0 hf
  refine L28 a0 p1 p2 x3 x7 (mpN P) (0 : Int32) σ o36 e37 (fun σ38 ho H locs hJ ls hl => ?_) _ _ hJ ls (lv_sub hl [3, 4, 5, 2, 1, 0] rfl)
  · rw [ho] at hf
    have hf : (f_X12_pivot_D110 P a0 p1 p2 σ38) = some σ' := hf
    exact D110 a0 p1 p2 σ38 hf _ _ hJ ls (lv_sub hl [0, 1, 2] rfl)
