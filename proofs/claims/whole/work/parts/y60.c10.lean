set_option maxHeartbeats 4000000 in
set_option maxRecDepth 100000 in
theorem c_X12_fraction (l : Launch) (G : mx_G) (P : mx_P) (a0 : Nat) (p1 : Int32) (p2 : Int64) (p4 : Int64) (σ : mx_S) (σ' : mx_S) (hf : f_X12_fraction P a0 p1 p2 p4 σ = some σ') : mxz σ ≤ mpc P → mxu σ ≤ mps P → mx_M l yX12_fraction cX12_fraction 6 none 2 48 G P [.ref a0, .int p1, .long p2, .long p4] σ none σ' := by
  intro hcap hcau
  refine mx_ofW (by decide +kernel) hcap hcau (Nat.le_of_ble_eq_true rfl) ?_
  intro p e s m below meth c hx hb hr hml hts hown hlocks hname hK hJ ls hl
  have hz0 := hJ.2.1
  have hown : s.vm.findClass RX12 = some m.cls := hown
  have hl : lv_has ls 6 [(0, .ref a0), (1, .int p1), (2, .long p2), (4, .long p4)] := hl
  unfold f_X12_fraction at hf
  refine lv_aload_n hx hb dX12_fraction_0 rfl (lv_at hl 0 rfl) ?_
  refine lv_iload_n hx hb dX12_fraction_1 rfl (lv_at hl 1 rfl) ?_
  refine lv_ldc2 hx hb hown (hts _ kw_2372) dX12_fraction_2 ?_
  refine lv_lload_n hx hb dX12_fraction_5 rfl (lv_at hl 2 rfl) ?_
  refine lv_lmul hx hb dX12_fraction_6 ?_
  refine lv_lload hx hb dX12_fraction_7 (lv_at hl 3 rfl) ?_
  obtain ⟨x2, σ1, e3, hf⟩ := mc0 hf
  refine mx_callS (As := [.long ((65536 : Int64) * p2), .long p4]) (rest := [.int p1, .ref a0]) hx hb hml hts hown hK hJ rfl rfl (c_X12_down l G P ((65536 : Int64) * p2) p4 σ x2 σ1 e3) me_X12_down kw_2374 kw_2373 (Nat.le_of_ble_eq_true rfl) (Nat.le_of_ble_eq_true rfl) rfl hl.1 rfl (Nat.le_of_ble_eq_true rfl) dX12_fraction_9 (fun H locs hJ => ?_)
  refine lv_ldc2 hx hb hown (hts _ kw_2372) dX12_fraction_12 ?_
  refine lv_lload_n hx hb dX12_fraction_15 rfl (lv_at hl 2 rfl) ?_
  refine lv_lmul hx hb dX12_fraction_16 ?_
  refine lv_lload hx hb dX12_fraction_17 (lv_at hl 3 rfl) ?_
  obtain ⟨x5, σ4, e6, hf⟩ := mc0 hf
  refine mx_callS (As := [.long ((65536 : Int64) * p2), .long p4]) (rest := [.long x2, .int p1, .ref a0]) hx hb hml hts hown hK hJ rfl rfl (c_X12_up l G P ((65536 : Int64) * p2) p4 σ1 x5 σ4 e6) me_X12_up kw_2377 kw_2376 (Nat.le_of_ble_eq_true rfl) (Nat.le_of_ble_eq_true rfl) rfl hl.1 rfl (Nat.le_of_ble_eq_true rfl) dX12_fraction_19 (fun H locs hJ => ?_)
  refine lv_iconst (v := 0) hx hb dX12_fraction_22 (by decide) ?_
  obtain ⟨i7, e8, hf⟩ := mb0 hf
  obtain ⟨σ9, e10, hf⟩ := mb0 hf
  refine mx_callV (As := [.int p1, .long x2, .long x5, .int (0 : Int32)]) (rest := []) hx hb hml hts hown hK hJ rfl rfl (ci := 12) rfl e8 (c_X12_box l G P a0 p1 x2 x5 (0 : Int32) σ4 σ9 e10) me_X12_box kw_2381 ks_106 kw_2379 (Nat.le_of_ble_eq_true rfl) (Nat.le_of_ble_eq_true rfl) rfl hl.1 rfl (Nat.le_of_ble_eq_true rfl) dX12_fraction_23 (fun H locs hJ => ?_)
  exact my_vret hx hb hr hlocks hJ hf dX12_fraction_26
set_option maxHeartbeats 4000000 in
set_option maxRecDepth 100000 in
theorem c_X12_whole (l : Launch) (G : mx_G) (P : mx_P) (a0 : Nat) (p1 : Int32) (p2 : Int64) (p4 : Int32) (σ : mx_S) (σ' : mx_S) (hf : f_X12_whole P a0 p1 p2 p4 σ = some σ') : mxz σ ≤ mpc P → mxu σ ≤ mps P → mx_M l yX12_whole cX12_whole 5 none 2 47 G P [.ref a0, .int p1, .long p2, .int p4] σ none σ' := by
  intro hcap hcau
  refine mx_ofW (by decide +kernel) hcap hcau (Nat.le_of_ble_eq_true rfl) ?_
  intro p e s m below meth c hx hb hr hml hts hown hlocks hname hK hJ ls hl
  have hz0 := hJ.2.1
  have hown : s.vm.findClass RX12 = some m.cls := hown
  have hl : lv_has ls 5 [(0, .ref a0), (1, .int p1), (2, .long p2), (4, .int p4)] := hl
  have D56 : ∀ (v0 : Nat) (v4 : Int32) (w0 : Int64) (w1 : Int64) (w2 : Int32) (w3 : Nat) (τ : mx_S), f_X12_whole_D56 P v0 v4 w0 w1 w2 w3 τ = some σ' → ∀ (H : Heap) (locs : List Loc), mx_J G P s.heap (mxz σ) (mxu σ) τ H locs → ∀ ls : Array Slot, lv_has ls 5 [(0, .ref v0), (4, .int v4)] → W p l e (mx_rm P 2 47 σ) s m ([.ref a0, .int p1, .long p2, .int p4] : List Value).toArray below meth c H locs (mxz τ - mxz σ) (mxu τ - mxu σ) (mx_Z below G P none σ σ' [.ref a0, .int p1, .long p2, .int p4] s) (F0 m 56 ls [.long w0, .long w1, .int w2, .ref w3]) := by
    intro v0 v4 w0 w1 w2 w3 τ hf _ _ hJ ls hl
    unfold f_X12_whole_D56 at hf
    refine lv_aload_n hx hb dX12_whole_56 rfl (lv_at hl 0 rfl) ?_
    obtain ⟨b11, e12, hf⟩ := mb0 hf
    refine my_gR hx hb hts hown hK hJ fd_RX12_20 hv_12_13 e12 dX12_whole_57 ?_
    refine lv_iload hx hb dX12_whole_60 (lv_at hl 1 rfl) ?_
    obtain ⟨x13, e14, hf⟩ := mb0 hf
    refine mx_aZ hx hb hK hJ e14 dX12_whole_62 ?_
    obtain ⟨i15, e16, hf⟩ := mb0 hf
    obtain ⟨σ17, e18, hf⟩ := mb0 hf
    refine mx_callV (As := [.int w2, .long w1, .long w0, .int x13]) (rest := []) hx hb hml hts hown hK hJ rfl rfl (ci := 12) rfl e16 (c_X12_box l G P w3 w2 w1 w0 x13 τ σ17 e18) me_X12_box kw_2381 ks_106 kw_2379 (Nat.le_of_ble_eq_true rfl) (Nat.le_of_ble_eq_true rfl) rfl hl.1 rfl (Nat.le_of_ble_eq_true rfl) dX12_whole_63 (fun H locs hJ => ?_)
    exact my_vret hx hb hr hlocks hJ hf dX12_whole_66
  have D29 : ∀ (v0 : Nat) (v2 : Int64) (v4 : Int32) (w0 : Int64) (w1 : Int32) (w2 : Nat) (τ : mx_S), f_X12_whole_D29 P v0 v2 v4 w0 w1 w2 τ = some σ' → ∀ (H : Heap) (locs : List Loc), mx_J G P s.heap (mxz σ) (mxu σ) τ H locs → ∀ ls : Array Slot, lv_has ls 5 [(0, .ref v0), (2, .long v2), (4, .int v4)] → W p l e (mx_rm P 2 47 σ) s m ([.ref a0, .int p1, .long p2, .int p4] : List Value).toArray below meth c H locs (mxz τ - mxz σ) (mxu τ - mxu σ) (mx_Z below G P none σ σ' [.ref a0, .int p1, .long p2, .int p4] s) (F0 m 29 ls [.long w0, .int w1, .ref w2]) := by
    intro v0 v2 v4 w0 w1 w2 τ hf _ _ hJ ls hl
    unfold f_X12_whole_D29 at hf
    refine lv_lload_n hx hb dX12_whole_29 rfl (lv_at hl 1 rfl) ?_
    refine lv_lconst (v := 0) hx hb dX12_whole_30 (by decide) ?_
    refine W.lcmp hx hb dX12_whole_31 ?_
    refine lv_if_ge (tgt := 47) hx hb dX12_whole_32 (by decide) (fun c6 => ?_) (fun c6 => ?_)
    · rw [if_pos c6] at hf
      refine lv_lload_n hx hb dX12_whole_47 rfl (lv_at hl 1 rfl) ?_
      refine lv_aload_n hx hb dX12_whole_48 rfl (lv_at hl 0 rfl) ?_
      obtain ⟨b7, e8, hf⟩ := mb0 hf
      refine my_gR hx hb hts hown hK hJ fd_RX12_17 hv_12_12 e8 dX12_whole_49 ?_
      refine lv_iload hx hb dX12_whole_52 (lv_at hl 2 rfl) ?_
      obtain ⟨x9, e10, hf⟩ := mb0 hf
      refine mx_aL hx hb hK hJ e10 dX12_whole_54 ?_
      refine lv_lmul hx hb dX12_whole_55 ?_
      exact D56 v0 v4 (v2 * x9) w0 w1 w2 τ hf _ _ hJ ls (lv_sub hl [0, 2] rfl)
    · rw [if_neg c6] at hf
      refine lv_lload_n hx hb dX12_whole_35 rfl (lv_at hl 1 rfl) ?_
      refine lv_aload_n hx hb dX12_whole_36 rfl (lv_at hl 0 rfl) ?_
      obtain ⟨b19, e20, hf⟩ := mb0 hf
      refine my_gR hx hb hts hown hK hJ fd_RX12_13 hv_12_11 e20 dX12_whole_37 ?_
      refine lv_iload hx hb dX12_whole_40 (lv_at hl 2 rfl) ?_
      obtain ⟨x21, e22, hf⟩ := mb0 hf
      refine mx_aL hx hb hK hJ e22 dX12_whole_42 ?_
      refine lv_lmul hx hb dX12_whole_43 ?_
      refine lv_goto (tgt := 56) hx hb dX12_whole_44 (by decide) ?_
      exact D56 v0 v4 (v2 * x21) w0 w1 w2 τ hf _ _ hJ ls (lv_sub hl [0, 2] rfl)
  unfold f_X12_whole at hf
  refine lv_aload_n hx hb dX12_whole_0 rfl (lv_at hl 0 rfl) ?_
  refine lv_iload_n hx hb dX12_whole_1 rfl (lv_at hl 1 rfl) ?_
  refine lv_lload_n hx hb dX12_whole_2 rfl (lv_at hl 2 rfl) ?_
  refine lv_lconst (v := 0) hx hb dX12_whole_3 (by decide) ?_
  refine W.lcmp hx hb dX12_whole_4 ?_
  refine lv_if_ge (tgt := 20) hx hb dX12_whole_5 (by decide) (fun c1 => ?_) (fun c1 => ?_)
  · rw [if_pos c1] at hf
    refine lv_lload_n hx hb dX12_whole_20 rfl (lv_at hl 2 rfl) ?_
    refine lv_aload_n hx hb dX12_whole_21 rfl (lv_at hl 0 rfl) ?_
    obtain ⟨b2, e3, hf⟩ := mb0 hf
    refine my_gR hx hb hts hown hK hJ fd_RX12_13 hv_12_11 e3 dX12_whole_22 ?_
    refine lv_iload hx hb dX12_whole_25 (lv_at hl 3 rfl) ?_
    obtain ⟨x4, e5, hf⟩ := mb0 hf
    refine mx_aL hx hb hK hJ e5 dX12_whole_27 ?_
    refine lv_lmul hx hb dX12_whole_28 ?_
    exact D29 a0 p2 p4 (p2 * x4) p1 a0 σ hf _ _ hJ ls (lv_sub hl [0, 2, 3] rfl)
  · rw [if_neg c1] at hf
    refine lv_lload_n hx hb dX12_whole_8 rfl (lv_at hl 2 rfl) ?_
    refine lv_aload_n hx hb dX12_whole_9 rfl (lv_at hl 0 rfl) ?_
    obtain ⟨b23, e24, hf⟩ := mb0 hf
    refine my_gR hx hb hts hown hK hJ fd_RX12_17 hv_12_12 e24 dX12_whole_10 ?_
    refine lv_iload hx hb dX12_whole_13 (lv_at hl 3 rfl) ?_
    obtain ⟨x25, e26, hf⟩ := mb0 hf
    refine mx_aL hx hb hK hJ e26 dX12_whole_15 ?_
    refine lv_lmul hx hb dX12_whole_16 ?_
    refine lv_goto (tgt := 29) hx hb dX12_whole_17 (by decide) ?_
    exact D29 a0 p2 p4 (p2 * x25) p1 a0 σ hf _ _ hJ ls (lv_sub hl [0, 2, 3] rfl)
set_option maxHeartbeats 4000000 in
set_option maxRecDepth 100000 in
theorem c_X12_half (l : Launch) (G : mx_G) (P : mx_P) (a0 : Nat) (p1 : Int32) (p2 : Int32) (σ : mx_S) (σ' : mx_S) (hf : f_X12_half P a0 p1 p2 σ = some σ') : mxz σ ≤ mpc P → mxu σ ≤ mps P → mx_M l yX12_half cX12_half 3 none 2 48 G P [.ref a0, .int p1, .int p2] σ none σ' := by
  intro hcap hcau
  refine mx_ofW (by decide +kernel) hcap hcau (Nat.le_of_ble_eq_true rfl) ?_
  intro p e s m below meth c hx hb hr hml hts hown hlocks hname hK hJ ls hl
  have hz0 := hJ.2.1
  have hown : s.vm.findClass RX12 = some m.cls := hown
  have hl : lv_has ls 3 [(0, .ref a0), (1, .int p1), (2, .int p2)] := hl
  unfold f_X12_half at hf
  refine lv_aload_n hx hb dX12_half_0 rfl (lv_at hl 0 rfl) ?_
  refine lv_iload_n hx hb dX12_half_1 rfl (lv_at hl 1 rfl) ?_
  refine lv_aload_n hx hb dX12_half_2 rfl (lv_at hl 0 rfl) ?_
  obtain ⟨b1, e2, hf⟩ := mb0 hf
  refine my_gR hx hb hts hown hK hJ fd_RX12_13 hv_12_11 e2 dX12_half_3 ?_
  refine lv_iload_n hx hb dX12_half_6 rfl (lv_at hl 2 rfl) ?_
  obtain ⟨x3, e4, hf⟩ := mb0 hf
  refine mx_aL hx hb hK hJ e4 dX12_half_7 ?_
  refine lv_ldc2 hx hb hown (hts _ kw_2447) dX12_half_8 ?_
  obtain ⟨x6, σ5, e7, hf⟩ := mc0 hf
  refine mx_callS (As := [.long x3, .long (2 : Int64)]) (rest := [.int p1, .ref a0]) hx hb hml hts hown hK hJ rfl rfl (c_X12_down l G P x3 (2 : Int64) σ x6 σ5 e7) me_X12_down kw_2374 kw_2373 (Nat.le_of_ble_eq_true rfl) (Nat.le_of_ble_eq_true rfl) rfl hl.1 rfl (Nat.le_of_ble_eq_true rfl) dX12_half_11 (fun H locs hJ => ?_)
  refine lv_aload_n hx hb dX12_half_14 rfl (lv_at hl 0 rfl) ?_
  obtain ⟨b8, e9, hf⟩ := mb0 hf
  refine my_gR hx hb hts hown hK hJ fd_RX12_17 hv_12_12 e9 dX12_half_15 ?_
  refine lv_iload_n hx hb dX12_half_18 rfl (lv_at hl 2 rfl) ?_
  obtain ⟨x10, e11, hf⟩ := mb0 hf
  refine mx_aL hx hb hK hJ e11 dX12_half_19 ?_
  refine lv_ldc2 hx hb hown (hts _ kw_2447) dX12_half_20 ?_
  obtain ⟨x13, σ12, e14, hf⟩ := mc0 hf
  refine mx_callS (As := [.long x10, .long (2 : Int64)]) (rest := [.long x6, .int p1, .ref a0]) hx hb hml hts hown hK hJ rfl rfl (c_X12_up l G P x10 (2 : Int64) σ5 x13 σ12 e14) me_X12_up kw_2377 kw_2376 (Nat.le_of_ble_eq_true rfl) (Nat.le_of_ble_eq_true rfl) rfl hl.1 rfl (Nat.le_of_ble_eq_true rfl) dX12_half_23 (fun H locs hJ => ?_)
  refine lv_aload_n hx hb dX12_half_26 rfl (lv_at hl 0 rfl) ?_
  obtain ⟨b15, e16, hf⟩ := mb0 hf
  refine my_gR hx hb hts hown hK hJ fd_RX12_20 hv_12_13 e16 dX12_half_27 ?_
  refine lv_iload_n hx hb dX12_half_30 rfl (lv_at hl 2 rfl) ?_
  obtain ⟨x17, e18, hf⟩ := mb0 hf
  refine mx_aZ hx hb hK hJ e18 dX12_half_31 ?_
  obtain ⟨i19, e20, hf⟩ := mb0 hf
  obtain ⟨σ21, e22, hf⟩ := mb0 hf
  refine mx_callV (As := [.int p1, .long x6, .long x13, .int x17]) (rest := []) hx hb hml hts hown hK hJ rfl rfl (ci := 12) rfl e20 (c_X12_box l G P a0 p1 x6 x13 x17 σ12 σ21 e22) me_X12_box kw_2381 ks_106 kw_2379 (Nat.le_of_ble_eq_true rfl) (Nat.le_of_ble_eq_true rfl) rfl hl.1 rfl (Nat.le_of_ble_eq_true rfl) dX12_half_32 (fun H locs hJ => ?_)
  exact my_vret hx hb hr hlocks hJ hf dX12_half_35
set_option maxHeartbeats 4000000 in
set_option maxRecDepth 100000 in
theorem c_X12_look (l : Launch) (G : mx_G) (P : mx_P) (a0 : Nat) (p1 : Int32) (σ : mx_S) (r : Int32) (σ' : mx_S) (hf : f_X12_look P a0 p1 σ = some (r, σ')) : mxz σ ≤ mpc P → mxu σ ≤ mps P → mx_M l yX12_look cX12_look 2 (some .int) 0 0 G P [.ref a0, .int p1] σ (some (.int r)) σ' := by
  intro hcap hcau
  refine mx_ofW (by decide +kernel) hcap hcau (Nat.le_of_ble_eq_true rfl) ?_
  intro p e s m below meth c hx hb hr hml hts hown hlocks hname hK hJ ls hl
  have hz0 := hJ.2.1
  have hown : s.vm.findClass RX12 = some m.cls := hown
  have hl : lv_has ls 2 [(0, .ref a0), (1, .int p1)] := hl
  have D18 : ∀ (w0 : Int32) (τ : mx_S), f_X12_look_D18 P w0 τ = some (r, σ') → ∀ (H : Heap) (locs : List Loc), mx_J G P s.heap (mxz σ) (mxu σ) τ H locs → ∀ ls : Array Slot, lv_has ls 2 [] → W p l e (mx_rm P 0 0 σ) s m ([.ref a0, .int p1] : List Value).toArray below meth c H locs (mxz τ - mxz σ) (mxu τ - mxu σ) (mx_Z below G P (some (.int r)) σ σ' [.ref a0, .int p1] s) (F0 m 18 ls [.int w0]) := by
    intro w0 τ hf _ _ hJ ls hl
    unfold f_X12_look_D18 at hf
    exact my_iret hx hb hr hlocks hJ hf dX12_look_18
  unfold f_X12_look at hf
  refine lv_iload_n hx hb dX12_look_0 rfl (lv_at hl 1 rfl) ?_
  refine lv_aload_n hx hb dX12_look_1 rfl (lv_at hl 0 rfl) ?_
  obtain ⟨x1, e2, hf⟩ := mb0 hf
  refine my_gI hx hb hts hown hK hJ fd_RX12_272 hv_12_3 e2 dX12_look_2 ?_
  refine lv_icmp_ge (tgt := 17) hx hb dX12_look_5 (by decide) (fun c3 => ?_) (fun c3 => ?_)
  · rw [if_pos c3] at hf
    refine lv_iconst (v := (-1)) hx hb dX12_look_17 (by decide) ?_
    exact D18 (-1 : Int32) σ hf _ _ hJ ls (lv_sub hl [] rfl)
  · rw [if_neg c3] at hf
    refine lv_aload_n hx hb dX12_look_8 rfl (lv_at hl 0 rfl) ?_
    obtain ⟨b4, e5, hf⟩ := mb0 hf
    refine my_gR hx hb hts hown hK hJ fd_RX12_7 hv_12_1 e5 dX12_look_9 ?_
    refine lv_iload_n hx hb dX12_look_12 rfl (lv_at hl 1 rfl) ?_
    obtain ⟨x6, e7, hf⟩ := mb0 hf
    refine mx_aI hx hb hK hJ e7 dX12_look_13 ?_
    refine lv_goto (tgt := 18) hx hb dX12_look_14 (by decide) ?_
    exact D18 x6 σ hf _ _ hJ ls (lv_sub hl [] rfl)
set_option maxHeartbeats 4000000 in
set_option maxRecDepth 100000 in
theorem c_X12_isDigit (l : Launch) (G : mx_G) (P : mx_P) (p0 : Int32) (σ : mx_S) (r : Int32) (σ' : mx_S) (hf : f_X12_isDigit P p0 σ = some (r, σ')) : mxz σ ≤ mpc P → mxu σ ≤ mps P → mx_M l yX12_isDigit cX12_isDigit 1 (some .boolean) 0 0 G P [.int p0] σ (some (.int r)) σ' := by
  intro hcap hcau
  refine mx_ofW (by decide +kernel) hcap hcau (Nat.le_of_ble_eq_true rfl) ?_
  intro p e s m below meth c hx hb hr hml hts hown hlocks hname hK hJ ls hl
  have hz0 := hJ.2.1
  have hown : s.vm.findClass RX12 = some m.cls := hown
  have hl : lv_has ls 1 [(0, .int p0)] := hl
  have D17 : ∀ (w0 : Int32) (τ : mx_S), f_X12_isDigit_D17 P w0 τ = some (r, σ') → ∀ (H : Heap) (locs : List Loc), mx_J G P s.heap (mxz σ) (mxu σ) τ H locs → ∀ ls : Array Slot, lv_has ls 1 [] → W p l e (mx_rm P 0 0 σ) s m ([.int p0] : List Value).toArray below meth c H locs (mxz τ - mxz σ) (mxu τ - mxu σ) (mx_Z below G P (some (.int r)) σ σ' [.int p0] s) (F0 m 17 ls [.int w0]) := by
    intro w0 τ hf _ _ hJ ls hl
    unfold f_X12_isDigit_D17 at hf
    exact mx_zret hx hb hr hlocks hJ hf dX12_isDigit_17
  have D16 : ∀  (τ : mx_S), f_X12_isDigit_D16 P  τ = some (r, σ') → ∀ (H : Heap) (locs : List Loc), mx_J G P s.heap (mxz σ) (mxu σ) τ H locs → ∀ ls : Array Slot, lv_has ls 1 [] → W p l e (mx_rm P 0 0 σ) s m ([.int p0] : List Value).toArray below meth c H locs (mxz τ - mxz σ) (mxu τ - mxu σ) (mx_Z below G P (some (.int r)) σ σ' [.int p0] s) (F0 m 16 ls []) := by
    intro  τ hf _ _ hJ ls hl
    unfold f_X12_isDigit_D16 at hf
    refine lv_iconst (v := 0) hx hb dX12_isDigit_16 (by decide) ?_
    exact D17 (0 : Int32) τ hf _ _ hJ ls (lv_sub hl [] rfl)
  unfold f_X12_isDigit at hf
  refine lv_iload_n hx hb dX12_isDigit_0 rfl (lv_at hl 0 rfl) ?_
  refine lv_bipush (v := 48) hx hb dX12_isDigit_1 (by decide) ?_
  refine lv_icmp_lt (tgt := 16) hx hb dX12_isDigit_3 (by decide) (fun c1 => ?_) (fun c1 => ?_)
  · rw [if_pos c1] at hf
    exact D16  σ hf _ _ hJ ls (lv_sub hl [] rfl)
  · rw [if_neg c1] at hf
    refine lv_iload_n hx hb dX12_isDigit_6 rfl (lv_at hl 0 rfl) ?_
    refine lv_bipush (v := 57) hx hb dX12_isDigit_7 (by decide) ?_
    refine lv_icmp_gt (tgt := 16) hx hb dX12_isDigit_9 (by decide) (fun c2 => ?_) (fun c2 => ?_)
    · rw [if_pos c2] at hf
      exact D16  σ hf _ _ hJ ls (lv_sub hl [] rfl)
    · rw [if_neg c2] at hf
      refine lv_iconst (v := 1) hx hb dX12_isDigit_12 (by decide) ?_
      refine lv_goto (tgt := 17) hx hb dX12_isDigit_13 (by decide) ?_
      exact D17 (1 : Int32) σ hf _ _ hJ ls (lv_sub hl [] rfl)
set_option maxHeartbeats 4000000 in
set_option maxRecDepth 100000 in
theorem c_X12_isLetter (l : Launch) (G : mx_G) (P : mx_P) (p0 : Int32) (σ : mx_S) (r : Int32) (σ' : mx_S) (hf : f_X12_isLetter P p0 σ = some (r, σ')) : mxz σ ≤ mpc P → mxu σ ≤ mps P → mx_M l yX12_isLetter cX12_isLetter 1 (some .boolean) 0 0 G P [.int p0] σ (some (.int r)) σ' := by
  intro hcap hcau
  refine mx_ofW (by decide +kernel) hcap hcau (Nat.le_of_ble_eq_true rfl) ?_
  intro p e s m below meth c hx hb hr hml hts hown hlocks hname hK hJ ls hl
  have hz0 := hJ.2.1
  have hown : s.vm.findClass RX12 = some m.cls := hown
  have hl : lv_has ls 1 [(0, .int p0)] := hl
  have D29 : ∀ (w0 : Int32) (τ : mx_S), f_X12_isLetter_D29 P w0 τ = some (r, σ') → ∀ (H : Heap) (locs : List Loc), mx_J G P s.heap (mxz σ) (mxu σ) τ H locs → ∀ ls : Array Slot, lv_has ls 1 [] → W p l e (mx_rm P 0 0 σ) s m ([.int p0] : List Value).toArray below meth c H locs (mxz τ - mxz σ) (mxu τ - mxu σ) (mx_Z below G P (some (.int r)) σ σ' [.int p0] s) (F0 m 29 ls [.int w0]) := by
    intro w0 τ hf _ _ hJ ls hl
    unfold f_X12_isLetter_D29 at hf
    exact mx_zret hx hb hr hlocks hJ hf dX12_isLetter_29
  have D28 : ∀  (τ : mx_S), f_X12_isLetter_D28 P  τ = some (r, σ') → ∀ (H : Heap) (locs : List Loc), mx_J G P s.heap (mxz σ) (mxu σ) τ H locs → ∀ ls : Array Slot, lv_has ls 1 [] → W p l e (mx_rm P 0 0 σ) s m ([.int p0] : List Value).toArray below meth c H locs (mxz τ - mxz σ) (mxu τ - mxu σ) (mx_Z below G P (some (.int r)) σ σ' [.int p0] s) (F0 m 28 ls []) := by
    intro  τ hf _ _ hJ ls hl
    unfold f_X12_isLetter_D28 at hf
    refine lv_iconst (v := 0) hx hb dX12_isLetter_28 (by decide) ?_
    exact D29 (0 : Int32) τ hf _ _ hJ ls (lv_sub hl [] rfl)
  have D24 : ∀  (τ : mx_S), f_X12_isLetter_D24 P  τ = some (r, σ') → ∀ (H : Heap) (locs : List Loc), mx_J G P s.heap (mxz σ) (mxu σ) τ H locs → ∀ ls : Array Slot, lv_has ls 1 [] → W p l e (mx_rm P 0 0 σ) s m ([.int p0] : List Value).toArray below meth c H locs (mxz τ - mxz σ) (mxu τ - mxu σ) (mx_Z below G P (some (.int r)) σ σ' [.int p0] s) (F0 m 24 ls []) := by
    intro  τ hf _ _ hJ ls hl
    unfold f_X12_isLetter_D24 at hf
    refine lv_iconst (v := 1) hx hb dX12_isLetter_24 (by decide) ?_
    refine lv_goto (tgt := 29) hx hb dX12_isLetter_25 (by decide) ?_
    exact D29 (1 : Int32) τ hf _ _ hJ ls (lv_sub hl [] rfl)
  have D12 : ∀ (v0 : Int32) (τ : mx_S), f_X12_isLetter_D12 P v0 τ = some (r, σ') → ∀ (H : Heap) (locs : List Loc), mx_J G P s.heap (mxz σ) (mxu σ) τ H locs → ∀ ls : Array Slot, lv_has ls 1 [(0, .int v0)] → W p l e (mx_rm P 0 0 σ) s m ([.int p0] : List Value).toArray below meth c H locs (mxz τ - mxz σ) (mxu τ - mxu σ) (mx_Z below G P (some (.int r)) σ σ' [.int p0] s) (F0 m 12 ls []) := by
    intro v0 τ hf _ _ hJ ls hl
    unfold f_X12_isLetter_D12 at hf
    refine lv_iload_n hx hb dX12_isLetter_12 rfl (lv_at hl 0 rfl) ?_
    refine lv_bipush (v := 65) hx hb dX12_isLetter_13 (by decide) ?_
    refine lv_icmp_lt (tgt := 28) hx hb dX12_isLetter_15 (by decide) (fun c2 => ?_) (fun c2 => ?_)
    · rw [if_pos c2] at hf
      exact D28  τ hf _ _ hJ ls (lv_sub hl [] rfl)
    · rw [if_neg c2] at hf
      refine lv_iload_n hx hb dX12_isLetter_18 rfl (lv_at hl 0 rfl) ?_
      refine lv_bipush (v := 90) hx hb dX12_isLetter_19 (by decide) ?_
      refine lv_icmp_gt (tgt := 28) hx hb dX12_isLetter_21 (by decide) (fun c3 => ?_) (fun c3 => ?_)
      · rw [if_pos c3] at hf
        exact D28  τ hf _ _ hJ ls (lv_sub hl [] rfl)
      · rw [if_neg c3] at hf
        exact D24  τ hf _ _ hJ ls (lv_sub hl [] rfl)
  unfold f_X12_isLetter at hf
  refine lv_iload_n hx hb dX12_isLetter_0 rfl (lv_at hl 0 rfl) ?_
  refine lv_bipush (v := 97) hx hb dX12_isLetter_1 (by decide) ?_
  refine lv_icmp_lt (tgt := 12) hx hb dX12_isLetter_3 (by decide) (fun c1 => ?_) (fun c1 => ?_)
  · rw [if_pos c1] at hf
    exact D12 p0 σ hf _ _ hJ ls (lv_sub hl [0] rfl)
  · rw [if_neg c1] at hf
    refine lv_iload_n hx hb dX12_isLetter_6 rfl (lv_at hl 0 rfl) ?_
    refine lv_bipush (v := 122) hx hb dX12_isLetter_7 (by decide) ?_
    refine lv_icmp_le (tgt := 24) hx hb dX12_isLetter_9 (by decide) (fun c4 => ?_) (fun c4 => ?_)
    · rw [if_pos c4] at hf
      exact D24  σ hf _ _ hJ ls (lv_sub hl [] rfl)
    · rw [if_neg c4] at hf
      exact D12 p0 σ hf _ _ hJ ls (lv_sub hl [0] rfl)
set_option maxHeartbeats 4000000 in
set_option maxRecDepth 100000 in
theorem c_X12_number (l : Launch) (G : mx_G) (P : mx_P) (a0 : Nat) (σ : mx_S) (σ' : mx_S) (hf : f_X12_number P a0 σ = some σ') : mxz σ ≤ mpc P → mxu σ ≤ mps P → mx_M l yX12_number cX12_number 6 none 2 50 G P [.ref a0] σ none σ' := by
  intro hcap hcau
  refine mx_ofW (by decide +kernel) hcap hcau (Nat.le_of_ble_eq_true rfl) ?_
  intro p e s m below meth c hx hb hr hml hts hown hlocks hname hK hJ ls hl
  have hz0 := hJ.2.1
  have hown : s.vm.findClass RX12 = some m.cls := hown
  have hl : lv_has ls 6 [(0, .ref a0)] := hl
  have B42 : ∀ (v0 : Nat) (v1 : Int32) (v2 : Int32) (v3 : Int32) (τ : mx_S) (o : (Int32 × Int32 × mx_S) ⊕ ((Int32 × mx_S))), f_X12_number_B42 P v0 v1 v2 v3 τ = some o → (∀ (y2 : Int32) (y3 : Int32) (υ : mx_S), o = .inl (y2, y3, υ) → ∀ (H : Heap) (locs : List Loc), mx_J G P s.heap (mxz σ) (mxu σ) υ H locs → ∀ ls : Array Slot, lv_has ls 6 [(0, .ref v0), (1, .int v1), (2, .int y2), (3, .int y3)] → W p l e (mx_rm P 2 50 σ) s m ([.ref a0] : List Value).toArray below meth c H locs (mxz υ - mxz σ) (mxu υ - mxu σ) (mx_Z below G P none σ σ' [.ref a0] s) (F0 m 42 ls [])) → (∀ (y2 : Int32) (υ : mx_S), o = .inr (y2, υ) → ∀ (H : Heap) (locs : List Loc), mx_J G P s.heap (mxz σ) (mxu σ) υ H locs → ∀ ls : Array Slot, lv_has ls 6 [(0, .ref v0), (1, .int v1), (2, .int y2)] → W p l e (mx_rm P 2 50 σ) s m ([.ref a0] : List Value).toArray below meth c H locs (mxz υ - mxz σ) (mxu υ - mxu σ) (mx_Z below G P none σ σ' [.ref a0] s) (F0 m 94 ls [])) → ∀ (H : Heap) (locs : List Loc), mx_J G P s.heap (mxz σ) (mxu σ) τ H locs → ∀ ls : Array Slot, lv_has ls 6 [(0, .ref v0), (1, .int v1), (2, .int v2), (3, .int v3)] → W p l e (mx_rm P 2 50 σ) s m ([.ref a0] : List Value).toArray below meth c H locs (mxz τ - mxz σ) (mxu τ - mxu σ) (mx_Z below G P none σ σ' [.ref a0] s) (F0 m 42 ls []) := by
    intro v0 v1 v2 v3 τ o hf Kb Ke0 H locs hJ ls hl
    unfold f_X12_number_B42 at hf
    refine lv_iload_n hx hb dX12_number_42 rfl (lv_at hl 3 rfl) ?_
    refine lv_iconst (v := 4) hx hb dX12_number_43 (by decide) ?_
    refine lv_icmp_ge (tgt := 94) hx hb dX12_number_44 (by decide) (fun c12 => ?_) (fun c12 => ?_)
    · rw [if_pos c12] at hf
      exact Ke0 v2 τ (Option.some.inj hf).symm _ _ hJ ls (lv_sub hl [0, 1, 2] rfl)
    · rw [if_neg c12] at hf
      refine lv_aload_n hx hb dX12_number_47 rfl (lv_at hl 0 rfl) ?_
      refine lv_aload_n hx hb dX12_number_48 rfl (lv_at hl 0 rfl) ?_
      obtain ⟨x13, e14, hf⟩ := mb0 hf
      refine my_gI hx hb hts hown hK hJ fd_RX12_330 hv_12_14 e14 dX12_number_49 ?_
      obtain ⟨i15, e16, hf⟩ := mb0 hf
      obtain ⟨x18, σ17, e19, hf⟩ := mc0 hf
      refine mx_callV (As := [.int x13]) (rest := []) hx hb hml hts hown hK hJ rfl rfl (ci := 12) rfl e16 (c_X12_look l G P v0 x13 τ x18 σ17 e19) me_X12_look kw_2247 ks_83 kw_2245 (Nat.le_of_ble_eq_true rfl) (Nat.le_of_ble_eq_true rfl) rfl hl.1 rfl (Nat.le_of_ble_eq_true rfl) dX12_number_52 (fun H locs hJ => ?_)
      obtain ⟨x21, σ20, e22, hf⟩ := mc0 hf
      refine mx_callS (As := [.int x18]) (rest := []) hx hb hml hts hown hK hJ rfl rfl (c_X12_isDigit l G P x18 σ17 x21 σ20 e22) me_X12_isDigit kw_2253 kw_2252 (Nat.le_of_ble_eq_true rfl) (Nat.le_of_ble_eq_true rfl) rfl hl.1 rfl (Nat.le_of_ble_eq_true rfl) dX12_number_55 (fun H locs hJ => ?_)
      refine lv_if_eq (tgt := 94) hx hb dX12_number_58 (by decide) (fun c23 => ?_) (fun c23 => ?_)
      · rw [if_pos c23] at hf
        exact Ke0 v2 σ20 (Option.some.inj hf).symm _ _ hJ ls (lv_sub hl [0, 1, 2] rfl)
      · rw [if_neg c23] at hf
        refine lv_bipush (v := 10) hx hb dX12_number_61 (by decide) ?_
        refine lv_iload_n hx hb dX12_number_63 rfl (lv_at hl 2 rfl) ?_
        refine lv_imul hx hb dX12_number_64 ?_
        refine lv_aload_n hx hb dX12_number_65 rfl (lv_at hl 0 rfl) ?_
        refine lv_aload_n hx hb dX12_number_66 rfl (lv_at hl 0 rfl) ?_
        obtain ⟨x24, e25, hf⟩ := mb0 hf
        refine my_gI hx hb hts hown hK hJ fd_RX12_330 hv_12_14 e25 dX12_number_67 ?_
        obtain ⟨i26, e27, hf⟩ := mb0 hf
        obtain ⟨x29, σ28, e30, hf⟩ := mc0 hf
        refine mx_callV (As := [.int x24]) (rest := [.int ((10 : Int32) * v2)]) hx hb hml hts hown hK hJ rfl rfl (ci := 12) rfl e27 (c_X12_look l G P v0 x24 σ20 x29 σ28 e30) me_X12_look kw_2247 ks_83 kw_2245 (Nat.le_of_ble_eq_true rfl) (Nat.le_of_ble_eq_true rfl) rfl hl.1 rfl (Nat.le_of_ble_eq_true rfl) dX12_number_70 (fun H locs hJ => ?_)
        refine lv_iadd hx hb dX12_number_73 ?_
        refine lv_bipush (v := 48) hx hb dX12_number_74 (by decide) ?_
        refine lv_isub hx hb dX12_number_76 ?_
        obtain ⟨x31, e32, hf⟩ := mb0 hf
        refine mx_nI e32 ?_
        refine lv_istore_n (lv' := [(2, .int x31), (0, .ref v0), (1, .int v1), (3, .int v3)]) hx hb dX12_number_77 rfl hl (by decide) rfl (fun ls hl => ?_)
        refine lv_aload_n hx hb dX12_number_78 rfl (lv_at hl 1 rfl) ?_
        refine lv_dup hx hb dX12_number_79 rfl ?_
        obtain ⟨x33, e34, hf⟩ := mb0 hf
        refine my_gI hx hb hts hown hK hJ fd_RX12_330 hv_12_14 e34 dX12_number_80 ?_
        refine lv_iconst (v := 1) hx hb dX12_number_83 (by decide) ?_
        refine lv_iadd hx hb dX12_number_84 ?_
        obtain ⟨σ35, e36, hf⟩ := mb0 hf
        refine my_pI hx hb hts hown hK hJ fd_RX12_330 cd_12 (Or.inl rfl) ht_12_14 e36 dX12_number_85 (fun H locs hJ => ?_)
        obtain ⟨x37, e38, hf⟩ := mb0 hf
        refine lv_iinc (v := x37) (lv' := [(3, .int x37), (2, .int x31), (0, .ref v0), (1, .int v1)]) hx hb dX12_number_88 hl (k := 3) rfl (by rw [← Option.some.inj e38]; rfl) (by decide) rfl (fun ls hl => ?_)
        refine lv_goto (tgt := 42) hx hb dX12_number_91 (by decide) ?_
        exact Kb x31 x37 σ35 (Option.some.inj hf).symm _ _ hJ ls (lv_sub hl [2, 3, 1, 0] rfl)
  have L42 : ∀ (v0 : Nat) (v1 : Int32) (n : Nat) (v2 : Int32) (v3 : Int32) (τ : mx_S) (o : (Int32 × mx_S)), mx_lp (f_X12_number_L42 P v0 v1) n (v2, v3, τ) = some o → (∀ (y2 : Int32) (υ : mx_S), o = (y2, υ) → ∀ (H : Heap) (locs : List Loc), mx_J G P s.heap (mxz σ) (mxu σ) υ H locs → ∀ ls : Array Slot, lv_has ls 6 [(0, .ref v0), (1, .int v1), (2, .int y2)] → W p l e (mx_rm P 2 50 σ) s m ([.ref a0] : List Value).toArray below meth c H locs (mxz υ - mxz σ) (mxu υ - mxu σ) (mx_Z below G P none σ σ' [.ref a0] s) (F0 m 94 ls [])) → ∀ (H : Heap) (locs : List Loc), mx_J G P s.heap (mxz σ) (mxu σ) τ H locs → ∀ ls : Array Slot, lv_has ls 6 [(0, .ref v0), (1, .int v1), (2, .int v2), (3, .int v3)] → W p l e (mx_rm P 2 50 σ) s m ([.ref a0] : List Value).toArray below meth c H locs (mxz τ - mxz σ) (mxu τ - mxu σ) (mx_Z below G P none σ σ' [.ref a0] s) (F0 m 42 ls []) := by
    intro v0 v1 n
    induction n with
    | zero =>
      intro v2 v3 τ o hf
      rw [mx_lp0] at hf
      cases hf
    | succ n ih =>
      intro v2 v3 τ o hf Ke0 H locs hJ ls hl
      rw [mx_lpS] at hf
      obtain ⟨b, eb, hf⟩ := mb0 hf
      refine B42 v0 v1 v2 v3 τ b eb (fun y2 y3 υ ho H locs hJ ls hl => ?_) (fun y2 υ ho H locs hJ ls hl => ?_) H locs hJ ls hl
      · subst ho
        exact ih y2 y3 υ o hf Ke0 H locs hJ ls hl
      · subst ho
        exact Ke0 y2 υ (Option.some.inj hf).symm _ _ hJ ls hl
  have D252 : ∀ (w0 : Int64) (w1 : Nat) (τ : mx_S), f_X12_number_D252 P w0 w1 τ = some σ' → ∀ (H : Heap) (locs : List Loc), mx_J G P s.heap (mxz σ) (mxu σ) τ H locs → ∀ ls : Array Slot, lv_has ls 6 [] → W p l e (mx_rm P 2 50 σ) s m ([.ref a0] : List Value).toArray below meth c H locs (mxz τ - mxz σ) (mxu τ - mxu σ) (mx_Z below G P none σ σ' [.ref a0] s) (F0 m 252 ls [.long w0, .ref w1]) := by
    intro w0 w1 τ hf _ _ hJ ls hl
    unfold f_X12_number_D252 at hf
    obtain ⟨σ63, e64, hf⟩ := mb0 hf
    refine my_pL hx hb hts hown hK hJ fd_RX12_356 cd_12 (Or.inl rfl) ht_12_18 e64 dX12_number_252 (fun H locs hJ => ?_)
    exact my_vret hx hb hr hlocks hJ hf dX12_number_255
  have D235 : ∀ (v0 : Nat) (v2 : Int32) (v3 : Int32) (v4 : Int64) (w0 : Int64) (w1 : Nat) (τ : mx_S), f_X12_number_D235 P v0 v2 v3 v4 w0 w1 τ = some σ' → ∀ (H : Heap) (locs : List Loc), mx_J G P s.heap (mxz σ) (mxu σ) τ H locs → ∀ ls : Array Slot, lv_has ls 6 [(0, .ref v0), (2, .int v2), (3, .int v3), (4, .long v4)] → W p l e (mx_rm P 2 50 σ) s m ([.ref a0] : List Value).toArray below meth c H locs (mxz τ - mxz σ) (mxu τ - mxu σ) (mx_Z below G P none σ σ' [.ref a0] s) (F0 m 235 ls [.long w0, .ref w1]) := by
    intro v0 v2 v3 v4 w0 w1 τ hf _ _ hJ ls hl
    unfold f_X12_number_D235 at hf
    obtain ⟨σ58, e59, hf⟩ := mb0 hf
    refine my_pL hx hb hts hown hK hJ fd_RX12_353 cd_12 (Or.inl rfl) ht_12_17 e59 dX12_number_235 (fun H locs hJ => ?_)
    refine lv_aload_n hx hb dX12_number_238 rfl (lv_at hl 0 rfl) ?_
    refine lv_iload_n hx hb dX12_number_239 rfl (lv_at hl 1 rfl) ?_
    refine lv_if_ne (tgt := 247) hx hb dX12_number_240 (by decide) (fun c60 => ?_) (fun c60 => ?_)
    · rw [if_neg c60] at hf
      refine lv_iload_n hx hb dX12_number_247 rfl (lv_at hl 2 rfl) ?_
      refine lv_i2l hx hb dX12_number_248 rfl ?_
      refine lv_lload hx hb dX12_number_249 (lv_at hl 3 rfl) ?_
      obtain ⟨x61, e62, hf⟩ := mb0 hf
      refine lv_ldiv hx hb dX12_number_251 (md_Ls e62).1 ?_
      refine mx_eL (md_Ls e62).2 ?_
      exact D252 x61 v0 σ58 hf _ _ hJ ls (lv_sub hl [] rfl)
    · rw [if_pos c60] at hf
      refine lv_lconst (v := 1) hx hb dX12_number_243 (by decide) ?_
      refine lv_goto (tgt := 252) hx hb dX12_number_244 (by decide) ?_
      exact D252 (1 : Int64) v0 σ58 hf _ _ hJ ls (lv_sub hl [] rfl)
  have D231 : ∀ (v0 : Nat) (v2 : Int32) (v3 : Int32) (v4 : Int64) (w0 : Int32) (w1 : Nat) (τ : mx_S), f_X12_number_D231 P v0 v2 v3 v4 w0 w1 τ = some σ' → ∀ (H : Heap) (locs : List Loc), mx_J G P s.heap (mxz σ) (mxu σ) τ H locs → ∀ ls : Array Slot, lv_has ls 6 [(0, .ref v0), (2, .int v2), (3, .int v3), (4, .long v4)] → W p l e (mx_rm P 2 50 σ) s m ([.ref a0] : List Value).toArray below meth c H locs (mxz τ - mxz σ) (mxu τ - mxu σ) (mx_Z below G P none σ σ' [.ref a0] s) (F0 m 231 ls [.int w0, .ref w1]) := by
    intro v0 v2 v3 v4 w0 w1 τ hf _ _ hJ ls hl
    unfold f_X12_number_D231 at hf
    refine lv_i2l hx hb dX12_number_231 rfl ?_
    refine lv_lload hx hb dX12_number_232 (lv_at hl 3 rfl) ?_
    obtain ⟨x56, e57, hf⟩ := mb0 hf
    refine lv_ldiv hx hb dX12_number_234 (md_Ls e57).1 ?_
    refine mx_eL (md_Ls e57).2 ?_
    exact D235 v0 v2 v3 v4 x56 w1 τ hf _ _ hJ ls (lv_sub hl [0, 1, 2, 3] rfl)
  have D203 : ∀ (v0 : Nat) (v1 : Int32) (v2 : Int32) (v3 : Int32) (τ : mx_S), f_X12_number_D203 P v0 v1 v2 v3 τ = some σ' → ∀ (H : Heap) (locs : List Loc), mx_J G P s.heap (mxz σ) (mxu σ) τ H locs → ∀ ls : Array Slot, lv_has ls 6 [(0, .ref v0), (1, .int v1), (2, .int v2), (3, .int v3)] → W p l e (mx_rm P 2 50 σ) s m ([.ref a0] : List Value).toArray below meth c H locs (mxz τ - mxz σ) (mxu τ - mxu σ) (mx_Z below G P none σ σ' [.ref a0] s) (F0 m 203 ls []) := by
    intro v0 v1 v2 v3 τ hf _ _ hJ ls hl
    unfold f_X12_number_D203 at hf
    refine lv_iload_n hx hb dX12_number_203 rfl (lv_at hl 2 rfl) ?_
    refine lv_i2l hx hb dX12_number_204 rfl ?_
    refine lv_iload_n hx hb dX12_number_205 rfl (lv_at hl 3 rfl) ?_
    refine lv_i2l hx hb dX12_number_206 rfl ?_
    obtain ⟨x52, σ51, e53, hf⟩ := mc0 hf
    refine mx_callS (As := [.long (v2.toInt64), .long (v3.toInt64)]) (rest := []) hx hb hml hts hown hK hJ rfl rfl (c_X12_gcd l G P (v2.toInt64) (v3.toInt64) τ x52 σ51 e53) me_X12_gcd kw_2260 kw_2259 (Nat.le_of_ble_eq_true rfl) (Nat.le_of_ble_eq_true rfl) rfl hl.1 rfl (Nat.le_of_ble_eq_true rfl) dX12_number_207 (fun H locs hJ => ?_)
    refine lv_lstore (lv' := [(4, .long x52), (0, .ref v0), (1, .int v1), (2, .int v2), (3, .int v3)]) hx hb dX12_number_210 hl (by decide) rfl (fun ls hl => ?_)
    refine lv_aload_n hx hb dX12_number_212 rfl (lv_at hl 1 rfl) ?_
    refine lv_iload_n hx hb dX12_number_213 rfl (lv_at hl 3 rfl) ?_
    refine lv_if_ne (tgt := 221) hx hb dX12_number_214 (by decide) (fun c54 => ?_) (fun c54 => ?_)
    · rw [if_neg c54] at hf
      refine lv_iload_n hx hb dX12_number_221 rfl (lv_at hl 2 rfl) ?_
      refine lv_if_eq (tgt := 230) hx hb dX12_number_222 (by decide) (fun c55 => ?_) (fun c55 => ?_)
      · rw [if_pos c55] at hf
        refine lv_iload_n hx hb dX12_number_230 rfl (lv_at hl 3 rfl) ?_
        exact D231 v0 v2 v3 x52 v2 v0 σ51 hf _ _ hJ ls (lv_sub hl [1, 3, 4, 0] rfl)
      · rw [if_neg c55] at hf
        refine lv_iload_n hx hb dX12_number_225 rfl (lv_at hl 3 rfl) ?_
        refine lv_ineg hx hb dX12_number_226 ?_
        refine lv_goto (tgt := 231) hx hb dX12_number_227 (by decide) ?_
        exact D231 v0 v2 v3 x52 (-v2) v0 σ51 hf _ _ hJ ls (lv_sub hl [1, 3, 4, 0] rfl)
    · rw [if_pos c54] at hf
      refine lv_lconst (v := 0) hx hb dX12_number_217 (by decide) ?_
      refine lv_goto (tgt := 235) hx hb dX12_number_218 (by decide) ?_
      exact D235 v0 v2 v3 x52 (0 : Int64) v0 σ51 hf _ _ hJ ls (lv_sub hl [1, 3, 4, 0] rfl)
  have B140 : ∀ (v0 : Nat) (v1 : Int32) (v2 : Int32) (v3 : Int32) (v4 : Int32) (τ : mx_S) (o : (Int32 × Int32 × mx_S) ⊕ ((Int32 × mx_S))), f_X12_number_B140 P v0 v1 v2 v3 v4 τ = some o → (∀ (y3 : Int32) (y4 : Int32) (υ : mx_S), o = .inl (y3, y4, υ) → ∀ (H : Heap) (locs : List Loc), mx_J G P s.heap (mxz σ) (mxu σ) υ H locs → ∀ ls : Array Slot, lv_has ls 6 [(0, .ref v0), (1, .int v1), (2, .int v2), (3, .int y3), (4, .int y4)] → W p l e (mx_rm P 2 50 σ) s m ([.ref a0] : List Value).toArray below meth c H locs (mxz υ - mxz σ) (mxu υ - mxu σ) (mx_Z below G P none σ σ' [.ref a0] s) (F0 m 140 ls [])) → (∀ (y3 : Int32) (υ : mx_S), o = .inr (y3, υ) → ∀ (H : Heap) (locs : List Loc), mx_J G P s.heap (mxz σ) (mxu σ) υ H locs → ∀ ls : Array Slot, lv_has ls 6 [(0, .ref v0), (1, .int v1), (2, .int v2), (3, .int y3)] → W p l e (mx_rm P 2 50 σ) s m ([.ref a0] : List Value).toArray below meth c H locs (mxz υ - mxz σ) (mxu υ - mxu σ) (mx_Z below G P none σ σ' [.ref a0] s) (F0 m 193 ls [])) → ∀ (H : Heap) (locs : List Loc), mx_J G P s.heap (mxz σ) (mxu σ) τ H locs → ∀ ls : Array Slot, lv_has ls 6 [(0, .ref v0), (1, .int v1), (2, .int v2), (3, .int v3), (4, .int v4)] → W p l e (mx_rm P 2 50 σ) s m ([.ref a0] : List Value).toArray below meth c H locs (mxz τ - mxz σ) (mxu τ - mxu σ) (mx_Z below G P none σ σ' [.ref a0] s) (F0 m 140 ls []) := by
    intro v0 v1 v2 v3 v4 τ o hf Kb Ke0 H locs hJ ls hl
    unfold f_X12_number_B140 at hf
    refine lv_iload hx hb dX12_number_140 (lv_at hl 4 rfl) ?_
    refine lv_iconst (v := 4) hx hb dX12_number_142 (by decide) ?_
    refine lv_icmp_ge (tgt := 193) hx hb dX12_number_143 (by decide) (fun c80 => ?_) (fun c80 => ?_)
    · rw [if_pos c80] at hf
      exact Ke0 v3 τ (Option.some.inj hf).symm _ _ hJ ls (lv_sub hl [0, 1, 2, 3] rfl)
    · rw [if_neg c80] at hf
      refine lv_aload_n hx hb dX12_number_146 rfl (lv_at hl 0 rfl) ?_
      refine lv_aload_n hx hb dX12_number_147 rfl (lv_at hl 0 rfl) ?_
      obtain ⟨x81, e82, hf⟩ := mb0 hf
      refine my_gI hx hb hts hown hK hJ fd_RX12_330 hv_12_14 e82 dX12_number_148 ?_
      obtain ⟨i83, e84, hf⟩ := mb0 hf
      obtain ⟨x86, σ85, e87, hf⟩ := mc0 hf
      refine mx_callV (As := [.int x81]) (rest := []) hx hb hml hts hown hK hJ rfl rfl (ci := 12) rfl e84 (c_X12_look l G P v0 x81 τ x86 σ85 e87) me_X12_look kw_2247 ks_83 kw_2245 (Nat.le_of_ble_eq_true rfl) (Nat.le_of_ble_eq_true rfl) rfl hl.1 rfl (Nat.le_of_ble_eq_true rfl) dX12_number_151 (fun H locs hJ => ?_)
      obtain ⟨x89, σ88, e90, hf⟩ := mc0 hf
      refine mx_callS (As := [.int x86]) (rest := []) hx hb hml hts hown hK hJ rfl rfl (c_X12_isDigit l G P x86 σ85 x89 σ88 e90) me_X12_isDigit kw_2253 kw_2252 (Nat.le_of_ble_eq_true rfl) (Nat.le_of_ble_eq_true rfl) rfl hl.1 rfl (Nat.le_of_ble_eq_true rfl) dX12_number_154 (fun H locs hJ => ?_)
      refine lv_if_eq (tgt := 193) hx hb dX12_number_157 (by decide) (fun c91 => ?_) (fun c91 => ?_)
      · rw [if_pos c91] at hf
        exact Ke0 v3 σ88 (Option.some.inj hf).symm _ _ hJ ls (lv_sub hl [0, 1, 2, 3] rfl)
      · rw [if_neg c91] at hf
        refine lv_bipush (v := 10) hx hb dX12_number_160 (by decide) ?_
        refine lv_iload_n hx hb dX12_number_162 rfl (lv_at hl 3 rfl) ?_
        refine lv_imul hx hb dX12_number_163 ?_
        refine lv_aload_n hx hb dX12_number_164 rfl (lv_at hl 0 rfl) ?_
        refine lv_aload_n hx hb dX12_number_165 rfl (lv_at hl 0 rfl) ?_
        obtain ⟨x92, e93, hf⟩ := mb0 hf
        refine my_gI hx hb hts hown hK hJ fd_RX12_330 hv_12_14 e93 dX12_number_166 ?_
        obtain ⟨i94, e95, hf⟩ := mb0 hf
        obtain ⟨x97, σ96, e98, hf⟩ := mc0 hf
        refine mx_callV (As := [.int x92]) (rest := [.int ((10 : Int32) * v3)]) hx hb hml hts hown hK hJ rfl rfl (ci := 12) rfl e95 (c_X12_look l G P v0 x92 σ88 x97 σ96 e98) me_X12_look kw_2247 ks_83 kw_2245 (Nat.le_of_ble_eq_true rfl) (Nat.le_of_ble_eq_true rfl) rfl hl.1 rfl (Nat.le_of_ble_eq_true rfl) dX12_number_169 (fun H locs hJ => ?_)
        refine lv_iadd hx hb dX12_number_172 ?_
        refine lv_bipush (v := 48) hx hb dX12_number_173 (by decide) ?_
        refine lv_isub hx hb dX12_number_175 ?_
        obtain ⟨x99, e100, hf⟩ := mb0 hf
        refine mx_nI e100 ?_
        refine lv_istore_n (lv' := [(3, .int x99), (0, .ref v0), (1, .int v1), (2, .int v2), (4, .int v4)]) hx hb dX12_number_176 rfl hl (by decide) rfl (fun ls hl => ?_)
        refine lv_aload_n hx hb dX12_number_177 rfl (lv_at hl 1 rfl) ?_
        refine lv_dup hx hb dX12_number_178 rfl ?_
        obtain ⟨x101, e102, hf⟩ := mb0 hf
        refine my_gI hx hb hts hown hK hJ fd_RX12_330 hv_12_14 e102 dX12_number_179 ?_
        refine lv_iconst (v := 1) hx hb dX12_number_182 (by decide) ?_
        refine lv_iadd hx hb dX12_number_183 ?_
        obtain ⟨σ103, e104, hf⟩ := mb0 hf
        refine my_pI hx hb hts hown hK hJ fd_RX12_330 cd_12 (Or.inl rfl) ht_12_14 e104 dX12_number_184 (fun H locs hJ => ?_)
        obtain ⟨x105, e106, hf⟩ := mb0 hf
        refine lv_iinc (v := x105) (lv' := [(4, .int x105), (3, .int x99), (0, .ref v0), (1, .int v1), (2, .int v2)]) hx hb dX12_number_187 hl (k := 4) rfl (by rw [← Option.some.inj e106]; rfl) (by decide) rfl (fun ls hl => ?_)
        refine lv_goto (tgt := 140) hx hb dX12_number_190 (by decide) ?_
        exact Kb x99 x105 σ103 (Option.some.inj hf).symm _ _ hJ ls (lv_sub hl [2, 3, 4, 1, 0] rfl)
  have L140 : ∀ (v0 : Nat) (v1 : Int32) (v2 : Int32) (n : Nat) (v3 : Int32) (v4 : Int32) (τ : mx_S) (o : (Int32 × mx_S)), mx_lp (f_X12_number_L140 P v0 v1 v2) n (v3, v4, τ) = some o → (∀ (y3 : Int32) (υ : mx_S), o = (y3, υ) → ∀ (H : Heap) (locs : List Loc), mx_J G P s.heap (mxz σ) (mxu σ) υ H locs → ∀ ls : Array Slot, lv_has ls 6 [(0, .ref v0), (1, .int v1), (2, .int v2), (3, .int y3)] → W p l e (mx_rm P 2 50 σ) s m ([.ref a0] : List Value).toArray below meth c H locs (mxz υ - mxz σ) (mxu υ - mxu σ) (mx_Z below G P none σ σ' [.ref a0] s) (F0 m 193 ls [])) → ∀ (H : Heap) (locs : List Loc), mx_J G P s.heap (mxz σ) (mxu σ) τ H locs → ∀ ls : Array Slot, lv_has ls 6 [(0, .ref v0), (1, .int v1), (2, .int v2), (3, .int v3), (4, .int v4)] → W p l e (mx_rm P 2 50 σ) s m ([.ref a0] : List Value).toArray below meth c H locs (mxz τ - mxz σ) (mxu τ - mxu σ) (mx_Z below G P none σ σ' [.ref a0] s) (F0 m 140 ls []) := by
    intro v0 v1 v2 n
    induction n with
    | zero =>
      intro v3 v4 τ o hf
      rw [mx_lp0] at hf
      cases hf
    | succ n ih =>
      intro v3 v4 τ o hf Ke0 H locs hJ ls hl
      rw [mx_lpS] at hf
      obtain ⟨b, eb, hf⟩ := mb0 hf
      refine B140 v0 v1 v2 v3 v4 τ b eb (fun y3 y4 υ ho H locs hJ ls hl => ?_) (fun y3 υ ho H locs hJ ls hl => ?_) H locs hJ ls hl
      · subst ho
        exact ih y3 y4 υ o hf Ke0 H locs hJ ls hl
      · subst ho
        exact Ke0 y3 υ (Option.some.inj hf).symm _ _ hJ ls hl
  have D193 : ∀ (v0 : Nat) (v1 : Int32) (v2 : Int32) (v3 : Int32) (τ : mx_S), f_X12_number_D193 P v0 v1 v2 v3 τ = some σ' → ∀ (H : Heap) (locs : List Loc), mx_J G P s.heap (mxz σ) (mxu σ) τ H locs → ∀ ls : Array Slot, lv_has ls 6 [(0, .ref v0), (1, .int v1), (2, .int v2), (3, .int v3)] → W p l e (mx_rm P 2 50 σ) s m ([.ref a0] : List Value).toArray below meth c H locs (mxz τ - mxz σ) (mxu τ - mxu σ) (mx_Z below G P none σ σ' [.ref a0] s) (F0 m 193 ls []) := by
    intro v0 v1 v2 v3 τ hf _ _ hJ ls hl
    unfold f_X12_number_D193 at hf
    refine lv_iload_n hx hb dX12_number_193 rfl (lv_at hl 3 rfl) ?_
    refine lv_if_ne (tgt := 203) hx hb dX12_number_194 (by decide) (fun c111 => ?_) (fun c111 => ?_)
    · rw [if_neg c111] at hf
      exact D203 v0 v1 v2 v3 τ hf _ _ hJ ls (lv_sub hl [0, 1, 2, 3] rfl)
    · rw [if_pos c111] at hf
      refine lv_aload_n hx hb dX12_number_197 rfl (lv_at hl 0 rfl) ?_
      refine lv_iconst (v := 3) hx hb dX12_number_198 (by decide) ?_
      obtain ⟨σ112, e113, hf⟩ := mb0 hf
      refine my_pI hx hb hts hown hK hJ fd_RX12_340 cd_12 (Or.inl rfl) ht_12_15 e113 dX12_number_199 (fun H locs hJ => ?_)
      exact my_vret hx hb hr hlocks hJ hf dX12_number_202
  have D94 : ∀ (v0 : Nat) (v1 : Int32) (v2 : Int32) (τ : mx_S), f_X12_number_D94 P v0 v1 v2 τ = some σ' → ∀ (H : Heap) (locs : List Loc), mx_J G P s.heap (mxz σ) (mxu σ) τ H locs → ∀ ls : Array Slot, lv_has ls 6 [(0, .ref v0), (1, .int v1), (2, .int v2)] → W p l e (mx_rm P 2 50 σ) s m ([.ref a0] : List Value).toArray below meth c H locs (mxz τ - mxz σ) (mxu τ - mxu σ) (mx_Z below G P none σ σ' [.ref a0] s) (F0 m 94 ls []) := by
    intro v0 v1 v2 τ hf _ _ hJ ls hl
    unfold f_X12_number_D94 at hf
    refine lv_iconst (v := 1) hx hb dX12_number_94 (by decide) ?_
    refine lv_istore_n (lv' := [(3, .int (1 : Int32)), (0, .ref v0), (1, .int v1), (2, .int v2)]) hx hb dX12_number_95 rfl hl (by decide) rfl (fun ls hl => ?_)
    refine lv_aload_n hx hb dX12_number_96 rfl (lv_at hl 1 rfl) ?_
    refine lv_aload_n hx hb dX12_number_97 rfl (lv_at hl 1 rfl) ?_
    obtain ⟨x43, e44, hf⟩ := mb0 hf
    refine my_gI hx hb hts hown hK hJ fd_RX12_330 hv_12_14 e44 dX12_number_98 ?_
    obtain ⟨i45, e46, hf⟩ := mb0 hf
    obtain ⟨x48, σ47, e49, hf⟩ := mc0 hf
    refine mx_callV (As := [.int x43]) (rest := []) hx hb hml hts hown hK hJ rfl rfl (ci := 12) rfl e46 (c_X12_look l G P v0 x43 τ x48 σ47 e49) me_X12_look kw_2247 ks_83 kw_2245 (Nat.le_of_ble_eq_true rfl) (Nat.le_of_ble_eq_true rfl) rfl hl.1 rfl (Nat.le_of_ble_eq_true rfl) dX12_number_101 (fun H locs hJ => ?_)
    refine lv_bipush (v := 47) hx hb dX12_number_104 (by decide) ?_
    refine lv_icmp_ne (tgt := 203) hx hb dX12_number_106 (by decide) (fun c50 => ?_) (fun c50 => ?_)
    · rw [if_neg c50] at hf
      exact D203 v0 v1 v2 (1 : Int32) σ47 hf _ _ hJ ls (lv_sub hl [1, 2, 3, 0] rfl)
    · rw [if_pos c50] at hf
      refine lv_aload_n hx hb dX12_number_109 rfl (lv_at hl 1 rfl) ?_
      refine lv_aload_n hx hb dX12_number_110 rfl (lv_at hl 1 rfl) ?_
      obtain ⟨x65, e66, hf⟩ := mb0 hf
      refine my_gI hx hb hts hown hK hJ fd_RX12_330 hv_12_14 e66 dX12_number_111 ?_
      refine lv_iconst (v := 1) hx hb dX12_number_114 (by decide) ?_
      refine lv_iadd hx hb dX12_number_115 ?_
      obtain ⟨i67, e68, hf⟩ := mb0 hf
      obtain ⟨x70, σ69, e71, hf⟩ := mc0 hf
      refine mx_callV (As := [.int (x65 + (1 : Int32))]) (rest := []) hx hb hml hts hown hK hJ rfl rfl (ci := 12) rfl e68 (c_X12_look l G P v0 (x65 + (1 : Int32)) σ47 x70 σ69 e71) me_X12_look kw_2247 ks_83 kw_2245 (Nat.le_of_ble_eq_true rfl) (Nat.le_of_ble_eq_true rfl) rfl hl.1 rfl (Nat.le_of_ble_eq_true rfl) dX12_number_116 (fun H locs hJ => ?_)
      obtain ⟨x73, σ72, e74, hf⟩ := mc0 hf
      refine mx_callS (As := [.int x70]) (rest := []) hx hb hml hts hown hK hJ rfl rfl (c_X12_isDigit l G P x70 σ69 x73 σ72 e74) me_X12_isDigit kw_2253 kw_2252 (Nat.le_of_ble_eq_true rfl) (Nat.le_of_ble_eq_true rfl) rfl hl.1 rfl (Nat.le_of_ble_eq_true rfl) dX12_number_119 (fun H locs hJ => ?_)
      refine lv_if_eq (tgt := 203) hx hb dX12_number_122 (by decide) (fun c75 => ?_) (fun c75 => ?_)
      · rw [if_pos c75] at hf
        exact D203 v0 v1 v2 (1 : Int32) σ72 hf _ _ hJ ls (lv_sub hl [1, 2, 3, 0] rfl)
      · rw [if_neg c75] at hf
        refine lv_aload_n hx hb dX12_number_125 rfl (lv_at hl 1 rfl) ?_
        refine lv_dup hx hb dX12_number_126 rfl ?_
        obtain ⟨x76, e77, hf⟩ := mb0 hf
        refine my_gI hx hb hts hown hK hJ fd_RX12_330 hv_12_14 e77 dX12_number_127 ?_
        refine lv_iconst (v := 1) hx hb dX12_number_130 (by decide) ?_
        refine lv_iadd hx hb dX12_number_131 ?_
        obtain ⟨σ78, e79, hf⟩ := mb0 hf
        refine my_pI hx hb hts hown hK hJ fd_RX12_330 cd_12 (Or.inl rfl) ht_12_14 e79 dX12_number_132 (fun H locs hJ => ?_)
        refine lv_iconst (v := 0) hx hb dX12_number_135 (by decide) ?_
        refine lv_istore_n (lv' := [(3, .int (0 : Int32)), (0, .ref v0), (1, .int v1), (2, .int v2)]) hx hb dX12_number_136 rfl hl (by decide) rfl (fun ls hl => ?_)
        refine lv_iconst (v := 0) hx hb dX12_number_137 (by decide) ?_
        refine lv_istore (lv' := [(4, .int (0 : Int32)), (3, .int (0 : Int32)), (0, .ref v0), (1, .int v1), (2, .int v2)]) hx hb dX12_number_138 hl (by decide) rfl (fun ls hl => ?_)
        obtain ⟨o107, e108, hf⟩ := mb0 hf
        refine L140 v0 v1 v2 (mpN P) (0 : Int32) (0 : Int32) σ78 o107 e108 (fun y109 σ110 ho H locs hJ ls hl => ?_) _ _ hJ ls (lv_sub hl [2, 3, 4, 1, 0] rfl)
        · rw [ho] at hf
          have hf : (f_X12_number_D193 P v0 v1 v2 y109 σ110) = some σ' := hf
          exact D193 v0 v1 v2 y109 σ110 hf _ _ hJ ls (lv_sub hl [0, 1, 2, 3] rfl)
  have D38 : ∀ (v0 : Nat) (v1 : Int32) (τ : mx_S), f_X12_number_D38 P v0 v1 τ = some σ' → ∀ (H : Heap) (locs : List Loc), mx_J G P s.heap (mxz σ) (mxu σ) τ H locs → ∀ ls : Array Slot, lv_has ls 6 [(0, .ref v0), (1, .int v1)] → W p l e (mx_rm P 2 50 σ) s m ([.ref a0] : List Value).toArray below meth c H locs (mxz τ - mxz σ) (mxu τ - mxu σ) (mx_Z below G P none σ σ' [.ref a0] s) (F0 m 38 ls []) := by
    intro v0 v1 τ hf _ _ hJ ls hl
    unfold f_X12_number_D38 at hf
    refine lv_iconst (v := 0) hx hb dX12_number_38 (by decide) ?_
    refine lv_istore_n (lv' := [(2, .int (0 : Int32)), (0, .ref v0), (1, .int v1)]) hx hb dX12_number_39 rfl hl (by decide) rfl (fun ls hl => ?_)
    refine lv_iconst (v := 0) hx hb dX12_number_40 (by decide) ?_
    refine lv_istore_n (lv' := [(3, .int (0 : Int32)), (2, .int (0 : Int32)), (0, .ref v0), (1, .int v1)]) hx hb dX12_number_41 rfl hl (by decide) rfl (fun ls hl => ?_)
    obtain ⟨o39, e40, hf⟩ := mb0 hf
    refine L42 v0 v1 (mpN P) (0 : Int32) (0 : Int32) τ o39 e40 (fun y41 σ42 ho H locs hJ ls hl => ?_) _ _ hJ ls (lv_sub hl [2, 3, 1, 0] rfl)
    · rw [ho] at hf
      have hf : (f_X12_number_D94 P v0 v1 y41 σ42) = some σ' := hf
      exact D94 v0 v1 y41 σ42 hf _ _ hJ ls (lv_sub hl [0, 1, 2] rfl)
  have D23 : ∀ (v0 : Nat) (w0 : Int32) (τ : mx_S), f_X12_number_D23 P v0 w0 τ = some σ' → ∀ (H : Heap) (locs : List Loc), mx_J G P s.heap (mxz σ) (mxu σ) τ H locs → ∀ ls : Array Slot, lv_has ls 6 [(0, .ref v0)] → W p l e (mx_rm P 2 50 σ) s m ([.ref a0] : List Value).toArray below meth c H locs (mxz τ - mxz σ) (mxu τ - mxu σ) (mx_Z below G P none σ σ' [.ref a0] s) (F0 m 23 ls [.int w0]) := by
    intro v0 w0 τ hf _ _ hJ ls hl
    unfold f_X12_number_D23 at hf
    refine lv_istore_n (lv' := [(1, .int w0), (0, .ref v0)]) hx hb dX12_number_23 rfl hl (by decide) rfl (fun ls hl => ?_)
    refine lv_iload_n hx hb dX12_number_24 rfl (lv_at hl 0 rfl) ?_
    refine lv_if_eq (tgt := 38) hx hb dX12_number_25 (by decide) (fun c11 => ?_) (fun c11 => ?_)
    · rw [if_pos c11] at hf
      exact D38 v0 w0 τ hf _ _ hJ ls (lv_sub hl [1, 0] rfl)
    · rw [if_neg c11] at hf
      refine lv_aload_n hx hb dX12_number_28 rfl (lv_at hl 1 rfl) ?_
      refine lv_dup hx hb dX12_number_29 rfl ?_
      obtain ⟨x114, e115, hf⟩ := mb0 hf
      refine my_gI hx hb hts hown hK hJ fd_RX12_330 hv_12_14 e115 dX12_number_30 ?_
      refine lv_iconst (v := 1) hx hb dX12_number_33 (by decide) ?_
      refine lv_iadd hx hb dX12_number_34 ?_
      obtain ⟨σ116, e117, hf⟩ := mb0 hf
      refine my_pI hx hb hts hown hK hJ fd_RX12_330 cd_12 (Or.inl rfl) ht_12_14 e117 dX12_number_35 (fun H locs hJ => ?_)
      exact D38 v0 w0 σ116 hf _ _ hJ ls (lv_sub hl [1, 0] rfl)
  unfold f_X12_number at hf
  refine lv_aload_n hx hb dX12_number_0 rfl (lv_at hl 0 rfl) ?_
  refine lv_iconst (v := 2) hx hb dX12_number_1 (by decide) ?_
  obtain ⟨σ1, e2, hf⟩ := mb0 hf
  refine my_pI hx hb hts hown hK hJ fd_RX12_340 cd_12 (Or.inl rfl) ht_12_15 e2 dX12_number_2 (fun H locs hJ => ?_)
  refine lv_aload_n hx hb dX12_number_5 rfl (lv_at hl 0 rfl) ?_
  refine lv_aload_n hx hb dX12_number_6 rfl (lv_at hl 0 rfl) ?_
  obtain ⟨x3, e4, hf⟩ := mb0 hf
  refine my_gI hx hb hts hown hK hJ fd_RX12_330 hv_12_14 e4 dX12_number_7 ?_
  obtain ⟨i5, e6, hf⟩ := mb0 hf
  obtain ⟨x8, σ7, e9, hf⟩ := mc0 hf
  refine mx_callV (As := [.int x3]) (rest := []) hx hb hml hts hown hK hJ rfl rfl (ci := 12) rfl e6 (c_X12_look l G P a0 x3 σ1 x8 σ7 e9) me_X12_look kw_2247 ks_83 kw_2245 (Nat.le_of_ble_eq_true rfl) (Nat.le_of_ble_eq_true rfl) rfl hl.1 rfl (Nat.le_of_ble_eq_true rfl) dX12_number_10 (fun H locs hJ => ?_)
  refine lv_bipush (v := 45) hx hb dX12_number_13 (by decide) ?_
  refine lv_icmp_ne (tgt := 22) hx hb dX12_number_15 (by decide) (fun c10 => ?_) (fun c10 => ?_)
  · rw [if_neg c10] at hf
    refine lv_iconst (v := 0) hx hb dX12_number_22 (by decide) ?_
    exact D23 a0 (0 : Int32) σ7 hf _ _ hJ ls (lv_sub hl [0] rfl)
  · rw [if_pos c10] at hf
    refine lv_iconst (v := 1) hx hb dX12_number_18 (by decide) ?_
    refine lv_goto (tgt := 23) hx hb dX12_number_19 (by decide) ?_
    exact D23 a0 (1 : Int32) σ7 hf _ _ hJ ls (lv_sub hl [0] rfl)
set_option maxHeartbeats 4000000 in
set_option maxRecDepth 100000 in
theorem c_X12_scan (l : Launch) (G : mx_G) (P : mx_P) (a0 : Nat) (σ : mx_S) (σ' : mx_S) (hf : f_X12_scan P a0 σ = some σ') : mxz σ ≤ mpc P → mxu σ ≤ mps P → mx_M l yX12_scan cX12_scan 2 none 3 75 G P [.ref a0] σ none σ' := by
  intro hcap hcau
  refine mx_ofW (by decide +kernel) hcap hcau (Nat.le_of_ble_eq_true rfl) ?_
  intro p e s m below meth c hx hb hr hml hts hown hlocks hname hK hJ ls hl
  have hz0 := hJ.2.1
  have hown : s.vm.findClass RX12 = some m.cls := hown
  have hl : lv_has ls 2 [(0, .ref a0)] := hl
  have D52_0 : ∀ (v0 : Nat) (τ : mx_S) (o : (mx_S) ⊕ ((mx_S))), f_X12_scan_D52_0 P v0 τ = some o → (∀  (υ : mx_S), o = .inl υ → ∀ (H : Heap) (locs : List Loc), mx_J G P s.heap (mxz σ) (mxu σ) υ H locs → ∀ ls : Array Slot, lv_has ls 2 [(0, .ref v0)] → W p l e (mx_rm P 3 75 σ) s m ([.ref a0] : List Value).toArray below meth c H locs (mxz υ - mxz σ) (mxu υ - mxu σ) (mx_Z below G P none σ σ' [.ref a0] s) (F0 m 0 ls [])) → (∀  (υ : mx_S), o = .inr υ → ∀ (H : Heap) (locs : List Loc), mx_J G P s.heap (mxz σ) (mxu σ) υ H locs → ∀ ls : Array Slot, lv_has ls 2 [(0, .ref v0)] → W p l e (mx_rm P 3 75 σ) s m ([.ref a0] : List Value).toArray below meth c H locs (mxz υ - mxz σ) (mxu υ - mxu σ) (mx_Z below G P none σ σ' [.ref a0] s) (F0 m 65 ls [])) → ∀ (H : Heap) (locs : List Loc), mx_J G P s.heap (mxz σ) (mxu σ) τ H locs → ∀ ls : Array Slot, lv_has ls 2 [(0, .ref v0)] → W p l e (mx_rm P 3 75 σ) s m ([.ref a0] : List Value).toArray below meth c H locs (mxz τ - mxz σ) (mxu τ - mxu σ) (mx_Z below G P none σ σ' [.ref a0] s) (F0 m 52 ls []) := by
    intro v0 τ o hf Kb Ke0 H locs hJ ls hl
    unfold f_X12_scan_D52_0 at hf
    refine lv_aload_n hx hb dX12_scan_52 rfl (lv_at hl 0 rfl) ?_
    refine lv_dup hx hb dX12_scan_53 rfl ?_
    obtain ⟨x9, e10, hf⟩ := mb0 hf
    refine my_gI hx hb hts hown hK hJ fd_RX12_330 hv_12_14 e10 dX12_scan_54 ?_
    refine lv_iconst (v := 1) hx hb dX12_scan_57 (by decide) ?_
    refine lv_iadd hx hb dX12_scan_58 ?_
    obtain ⟨σ11, e12, hf⟩ := mb0 hf
    refine my_pI hx hb hts hown hK hJ fd_RX12_330 cd_12 (Or.inl rfl) ht_12_14 e12 dX12_scan_59 (fun H locs hJ => ?_)
    refine lv_goto (tgt := 0) hx hb dX12_scan_62 (by decide) ?_
    exact Kb σ11 (Option.some.inj hf).symm _ _ hJ ls (lv_sub hl [0] rfl)
  have B0 : ∀ (v0 : Nat) (τ : mx_S) (o : (mx_S) ⊕ ((mx_S))), f_X12_scan_B0 P v0  τ = some o → (∀  (υ : mx_S), o = .inl υ → ∀ (H : Heap) (locs : List Loc), mx_J G P s.heap (mxz σ) (mxu σ) υ H locs → ∀ ls : Array Slot, lv_has ls 2 [(0, .ref v0)] → W p l e (mx_rm P 3 75 σ) s m ([.ref a0] : List Value).toArray below meth c H locs (mxz υ - mxz σ) (mxu υ - mxu σ) (mx_Z below G P none σ σ' [.ref a0] s) (F0 m 0 ls [])) → (∀  (υ : mx_S), o = .inr υ → ∀ (H : Heap) (locs : List Loc), mx_J G P s.heap (mxz σ) (mxu σ) υ H locs → ∀ ls : Array Slot, lv_has ls 2 [(0, .ref v0)] → W p l e (mx_rm P 3 75 σ) s m ([.ref a0] : List Value).toArray below meth c H locs (mxz υ - mxz σ) (mxu υ - mxu σ) (mx_Z below G P none σ σ' [.ref a0] s) (F0 m 65 ls [])) → ∀ (H : Heap) (locs : List Loc), mx_J G P s.heap (mxz σ) (mxu σ) τ H locs → ∀ ls : Array Slot, lv_has ls 2 [(0, .ref v0)] → W p l e (mx_rm P 3 75 σ) s m ([.ref a0] : List Value).toArray below meth c H locs (mxz τ - mxz σ) (mxu τ - mxu σ) (mx_Z below G P none σ σ' [.ref a0] s) (F0 m 0 ls []) := by
    intro v0  τ o hf Kb Ke0 H locs hJ ls hl
    unfold f_X12_scan_B0 at hf
    refine lv_aload_n hx hb dX12_scan_0 rfl (lv_at hl 0 rfl) ?_
    refine lv_aload_n hx hb dX12_scan_1 rfl (lv_at hl 0 rfl) ?_
    obtain ⟨x1, e2, hf⟩ := mb0 hf
    refine my_gI hx hb hts hown hK hJ fd_RX12_330 hv_12_14 e2 dX12_scan_2 ?_
    obtain ⟨i3, e4, hf⟩ := mb0 hf
    obtain ⟨x6, σ5, e7, hf⟩ := mc0 hf
    refine mx_callV (As := [.int x1]) (rest := []) hx hb hml hts hown hK hJ rfl rfl (ci := 12) rfl e4 (c_X12_look l G P v0 x1 τ x6 σ5 e7) me_X12_look kw_2247 ks_83 kw_2245 (Nat.le_of_ble_eq_true rfl) (Nat.le_of_ble_eq_true rfl) rfl hl.1 rfl (Nat.le_of_ble_eq_true rfl) dX12_scan_5 (fun H locs hJ => ?_)
    refine lv_bipush (v := 9) hx hb dX12_scan_8 (by decide) ?_
    refine lv_icmp_eq (tgt := 52) hx hb dX12_scan_10 (by decide) (fun c8 => ?_) (fun c8 => ?_)
    · rw [if_pos c8] at hf
      exact D52_0 v0 σ5 o hf Kb Ke0 _ _ hJ ls (lv_sub hl [0] rfl)
    · rw [if_neg c8] at hf
      refine lv_aload_n hx hb dX12_scan_13 rfl (lv_at hl 0 rfl) ?_
      refine lv_aload_n hx hb dX12_scan_14 rfl (lv_at hl 0 rfl) ?_
      obtain ⟨x13, e14, hf⟩ := mb0 hf
      refine my_gI hx hb hts hown hK hJ fd_RX12_330 hv_12_14 e14 dX12_scan_15 ?_
      obtain ⟨i15, e16, hf⟩ := mb0 hf
      obtain ⟨x18, σ17, e19, hf⟩ := mc0 hf
      refine mx_callV (As := [.int x13]) (rest := []) hx hb hml hts hown hK hJ rfl rfl (ci := 12) rfl e16 (c_X12_look l G P v0 x13 σ5 x18 σ17 e19) me_X12_look kw_2247 ks_83 kw_2245 (Nat.le_of_ble_eq_true rfl) (Nat.le_of_ble_eq_true rfl) rfl hl.1 rfl (Nat.le_of_ble_eq_true rfl) dX12_scan_18 (fun H locs hJ => ?_)
      refine lv_bipush (v := 10) hx hb dX12_scan_21 (by decide) ?_
      refine lv_icmp_eq (tgt := 52) hx hb dX12_scan_23 (by decide) (fun c20 => ?_) (fun c20 => ?_)
      · rw [if_pos c20] at hf
        exact D52_0 v0 σ17 o hf Kb Ke0 _ _ hJ ls (lv_sub hl [0] rfl)
      · rw [if_neg c20] at hf
        refine lv_aload_n hx hb dX12_scan_26 rfl (lv_at hl 0 rfl) ?_
        refine lv_aload_n hx hb dX12_scan_27 rfl (lv_at hl 0 rfl) ?_
        obtain ⟨x21, e22, hf⟩ := mb0 hf
        refine my_gI hx hb hts hown hK hJ fd_RX12_330 hv_12_14 e22 dX12_scan_28 ?_
        obtain ⟨i23, e24, hf⟩ := mb0 hf
        obtain ⟨x26, σ25, e27, hf⟩ := mc0 hf
        refine mx_callV (As := [.int x21]) (rest := []) hx hb hml hts hown hK hJ rfl rfl (ci := 12) rfl e24 (c_X12_look l G P v0 x21 σ17 x26 σ25 e27) me_X12_look kw_2247 ks_83 kw_2245 (Nat.le_of_ble_eq_true rfl) (Nat.le_of_ble_eq_true rfl) rfl hl.1 rfl (Nat.le_of_ble_eq_true rfl) dX12_scan_31 (fun H locs hJ => ?_)
        refine lv_bipush (v := 13) hx hb dX12_scan_34 (by decide) ?_
        refine lv_icmp_eq (tgt := 52) hx hb dX12_scan_36 (by decide) (fun c28 => ?_) (fun c28 => ?_)
        · rw [if_pos c28] at hf
          exact D52_0 v0 σ25 o hf Kb Ke0 _ _ hJ ls (lv_sub hl [0] rfl)
        · rw [if_neg c28] at hf
          refine lv_aload_n hx hb dX12_scan_39 rfl (lv_at hl 0 rfl) ?_
          refine lv_aload_n hx hb dX12_scan_40 rfl (lv_at hl 0 rfl) ?_
          obtain ⟨x29, e30, hf⟩ := mb0 hf
          refine my_gI hx hb hts hown hK hJ fd_RX12_330 hv_12_14 e30 dX12_scan_41 ?_
          obtain ⟨i31, e32, hf⟩ := mb0 hf
          obtain ⟨x34, σ33, e35, hf⟩ := mc0 hf
          refine mx_callV (As := [.int x29]) (rest := []) hx hb hml hts hown hK hJ rfl rfl (ci := 12) rfl e32 (c_X12_look l G P v0 x29 σ25 x34 σ33 e35) me_X12_look kw_2247 ks_83 kw_2245 (Nat.le_of_ble_eq_true rfl) (Nat.le_of_ble_eq_true rfl) rfl hl.1 rfl (Nat.le_of_ble_eq_true rfl) dX12_scan_44 (fun H locs hJ => ?_)
          refine lv_bipush (v := 32) hx hb dX12_scan_47 (by decide) ?_
          refine lv_icmp_ne (tgt := 65) hx hb dX12_scan_49 (by decide) (fun c36 => ?_) (fun c36 => ?_)
          · rw [if_neg c36] at hf
            exact Ke0 σ33 (Option.some.inj hf).symm _ _ hJ ls (lv_sub hl [0] rfl)
          · rw [if_pos c36] at hf
            exact D52_0 v0 σ33 o hf Kb Ke0 _ _ hJ ls (lv_sub hl [0] rfl)
  have L0 : ∀ (v0 : Nat) (n : Nat)  (τ : mx_S) (o : (mx_S)), mx_lp (f_X12_scan_L0 P v0) n τ = some o → (∀  (υ : mx_S), o = υ → ∀ (H : Heap) (locs : List Loc), mx_J G P s.heap (mxz σ) (mxu σ) υ H locs → ∀ ls : Array Slot, lv_has ls 2 [(0, .ref v0)] → W p l e (mx_rm P 3 75 σ) s m ([.ref a0] : List Value).toArray below meth c H locs (mxz υ - mxz σ) (mxu υ - mxu σ) (mx_Z below G P none σ σ' [.ref a0] s) (F0 m 65 ls [])) → ∀ (H : Heap) (locs : List Loc), mx_J G P s.heap (mxz σ) (mxu σ) τ H locs → ∀ ls : Array Slot, lv_has ls 2 [(0, .ref v0)] → W p l e (mx_rm P 3 75 σ) s m ([.ref a0] : List Value).toArray below meth c H locs (mxz τ - mxz σ) (mxu τ - mxu σ) (mx_Z below G P none σ σ' [.ref a0] s) (F0 m 0 ls []) := by
    intro v0 n
    induction n with
    | zero =>
      intro  τ o hf
      rw [mx_lp0] at hf
      cases hf
    | succ n ih =>
      intro  τ o hf Ke0 H locs hJ ls hl
      rw [mx_lpS] at hf
      obtain ⟨b, eb, hf⟩ := mb0 hf
      refine B0 v0  τ b eb (fun  υ ho H locs hJ ls hl => ?_) (fun  υ ho H locs hJ ls hl => ?_) H locs hJ ls hl
      · subst ho
        exact ih  υ o hf Ke0 H locs hJ ls hl
      · subst ho
        exact Ke0  υ (Option.some.inj hf).symm _ _ hJ ls hl
  have D233 : ∀  (τ : mx_S), f_X12_scan_D233 P  τ = some σ' → ∀ (H : Heap) (locs : List Loc), mx_J G P s.heap (mxz σ) (mxu σ) τ H locs → ∀ ls : Array Slot, lv_has ls 2 [] → W p l e (mx_rm P 3 75 σ) s m ([.ref a0] : List Value).toArray below meth c H locs (mxz τ - mxz σ) (mxu τ - mxu σ) (mx_Z below G P none σ σ' [.ref a0] s) (F0 m 233 ls []) := by
    intro  τ hf _ _ hJ ls hl
    unfold f_X12_scan_D233 at hf
    exact my_vret hx hb hr hlocks hJ hf dX12_scan_233
  have D179 : ∀ (v0 : Nat) (τ : mx_S), f_X12_scan_D179 P v0 τ = some σ' → ∀ (H : Heap) (locs : List Loc), mx_J G P s.heap (mxz σ) (mxu σ) τ H locs → ∀ ls : Array Slot, lv_has ls 2 [(0, .ref v0)] → W p l e (mx_rm P 3 75 σ) s m ([.ref a0] : List Value).toArray below meth c H locs (mxz τ - mxz σ) (mxu τ - mxu σ) (mx_Z below G P none σ σ' [.ref a0] s) (F0 m 179 ls []) := by
    intro v0 τ hf _ _ hJ ls hl
    unfold f_X12_scan_D179 at hf
    refine lv_aload_n hx hb dX12_scan_179 rfl (lv_at hl 0 rfl) ?_
    obtain ⟨i60, e61, hf⟩ := mb0 hf
    obtain ⟨σ62, e63, hf⟩ := mb0 hf
    refine mx_callV (As := []) (rest := []) hx hb hml hts hown hK hJ rfl rfl (ci := 12) rfl e61 (c_X12_number l G P v0 τ σ62 e63) me_X12_number kw_2257 ks_84 kw_2255 (Nat.le_of_ble_eq_true rfl) (Nat.le_of_ble_eq_true rfl) rfl hl.1 rfl (Nat.le_of_ble_eq_true rfl) dX12_scan_180 (fun H locs hJ => ?_)
    refine lv_goto (tgt := 233) hx hb dX12_scan_183 (by decide) ?_
    exact D233  σ62 hf _ _ hJ ls (lv_sub hl [] rfl)
  have D210 : ∀ (v0 : Nat) (v1 : Int32) (τ : mx_S), f_X12_scan_D210 P v0 v1 τ = some σ' → ∀ (H : Heap) (locs : List Loc), mx_J G P s.heap (mxz σ) (mxu σ) τ H locs → ∀ ls : Array Slot, lv_has ls 2 [(0, .ref v0), (1, .int v1)] → W p l e (mx_rm P 3 75 σ) s m ([.ref a0] : List Value).toArray below meth c H locs (mxz τ - mxz σ) (mxu τ - mxu σ) (mx_Z below G P none σ σ' [.ref a0] s) (F0 m 210 ls []) := by
    intro v0 v1 τ hf _ _ hJ ls hl
    unfold f_X12_scan_D210 at hf
    refine lv_aload_n hx hb dX12_scan_210 rfl (lv_at hl 0 rfl) ?_
    refine lv_iload_n hx hb dX12_scan_211 rfl (lv_at hl 1 rfl) ?_
    obtain ⟨σ66, e67, hf⟩ := mb0 hf
    refine my_pI hx hb hts hown hK hJ fd_RX12_340 cd_12 (Or.inl rfl) ht_12_15 e67 dX12_scan_212 (fun H locs hJ => ?_)
    refine lv_aload_n hx hb dX12_scan_215 rfl (lv_at hl 0 rfl) ?_
    refine lv_dup hx hb dX12_scan_216 rfl ?_
    obtain ⟨x68, e69, hf⟩ := mb0 hf
    refine my_gI hx hb hts hown hK hJ fd_RX12_330 hv_12_14 e69 dX12_scan_217 ?_
    refine lv_iconst (v := 1) hx hb dX12_scan_220 (by decide) ?_
    refine lv_iadd hx hb dX12_scan_221 ?_
    obtain ⟨σ70, e71, hf⟩ := mb0 hf
    refine my_pI hx hb hts hown hK hJ fd_RX12_330 cd_12 (Or.inl rfl) ht_12_14 e71 dX12_scan_222 (fun H locs hJ => ?_)
    refine lv_goto (tgt := 233) hx hb dX12_scan_225 (by decide) ?_
    exact D233  σ70 hf _ _ hJ ls (lv_sub hl [] rfl)
  have D186 : ∀ (v0 : Nat) (v1 : Int32) (τ : mx_S), f_X12_scan_D186 P v0 v1 τ = some σ' → ∀ (H : Heap) (locs : List Loc), mx_J G P s.heap (mxz σ) (mxu σ) τ H locs → ∀ ls : Array Slot, lv_has ls 2 [(0, .ref v0), (1, .int v1)] → W p l e (mx_rm P 3 75 σ) s m ([.ref a0] : List Value).toArray below meth c H locs (mxz τ - mxz σ) (mxu τ - mxu σ) (mx_Z below G P none σ σ' [.ref a0] s) (F0 m 186 ls []) := by
    intro v0 v1 τ hf _ _ hJ ls hl
    unfold f_X12_scan_D186 at hf
    refine lv_iload_n hx hb dX12_scan_186 rfl (lv_at hl 1 rfl) ?_
    refine lv_bipush (v := 43) hx hb dX12_scan_187 (by decide) ?_
    refine lv_icmp_eq (tgt := 210) hx hb dX12_scan_189 (by decide) (fun c65 => ?_) (fun c65 => ?_)
    · rw [if_pos c65] at hf
      exact D210 v0 v1 τ hf _ _ hJ ls (lv_sub hl [0, 1] rfl)
    · rw [if_neg c65] at hf
      refine lv_iload_n hx hb dX12_scan_192 rfl (lv_at hl 1 rfl) ?_
      refine lv_bipush (v := 45) hx hb dX12_scan_193 (by decide) ?_
      refine lv_icmp_eq (tgt := 210) hx hb dX12_scan_195 (by decide) (fun c72 => ?_) (fun c72 => ?_)
      · rw [if_pos c72] at hf
        exact D210 v0 v1 τ hf _ _ hJ ls (lv_sub hl [0, 1] rfl)
      · rw [if_neg c72] at hf
        refine lv_iload_n hx hb dX12_scan_198 rfl (lv_at hl 1 rfl) ?_
        refine lv_bipush (v := 63) hx hb dX12_scan_199 (by decide) ?_
        refine lv_icmp_eq (tgt := 210) hx hb dX12_scan_201 (by decide) (fun c73 => ?_) (fun c73 => ?_)
        · rw [if_pos c73] at hf
          exact D210 v0 v1 τ hf _ _ hJ ls (lv_sub hl [0, 1] rfl)
        · rw [if_neg c73] at hf
          refine lv_iload_n hx hb dX12_scan_204 rfl (lv_at hl 1 rfl) ?_
          refine lv_bipush (v := 59) hx hb dX12_scan_205 (by decide) ?_
          refine lv_icmp_ne (tgt := 228) hx hb dX12_scan_207 (by decide) (fun c74 => ?_) (fun c74 => ?_)
          · rw [if_neg c74] at hf
            refine lv_aload_n hx hb dX12_scan_228 rfl (lv_at hl 0 rfl) ?_
            refine lv_iconst (v := 3) hx hb dX12_scan_229 (by decide) ?_
            obtain ⟨σ75, e76, hf⟩ := mb0 hf
            refine my_pI hx hb hts hown hK hJ fd_RX12_340 cd_12 (Or.inl rfl) ht_12_15 e76 dX12_scan_230 (fun H locs hJ => ?_)
            exact D233  σ75 hf _ _ hJ ls (lv_sub hl [] rfl)
          · rw [if_pos c74] at hf
            exact D210 v0 v1 τ hf _ _ hJ ls (lv_sub hl [0, 1] rfl)
  have B101 : ∀ (v0 : Nat) (τ : mx_S) (o : (mx_S) ⊕ ((mx_S))), f_X12_scan_B101 P v0  τ = some o → (∀  (υ : mx_S), o = .inl υ → ∀ (H : Heap) (locs : List Loc), mx_J G P s.heap (mxz σ) (mxu σ) υ H locs → ∀ ls : Array Slot, lv_has ls 2 [(0, .ref v0)] → W p l e (mx_rm P 3 75 σ) s m ([.ref a0] : List Value).toArray below meth c H locs (mxz υ - mxz σ) (mxu υ - mxu σ) (mx_Z below G P none σ σ' [.ref a0] s) (F0 m 101 ls [])) → (∀  (υ : mx_S), o = .inr υ → ∀ (H : Heap) (locs : List Loc), mx_J G P s.heap (mxz σ) (mxu σ) υ H locs → ∀ ls : Array Slot, lv_has ls 2 [(0, .ref v0)] → W p l e (mx_rm P 3 75 σ) s m ([.ref a0] : List Value).toArray below meth c H locs (mxz υ - mxz σ) (mxu υ - mxu σ) (mx_Z below G P none σ σ' [.ref a0] s) (F0 m 142 ls [])) → ∀ (H : Heap) (locs : List Loc), mx_J G P s.heap (mxz σ) (mxu σ) τ H locs → ∀ ls : Array Slot, lv_has ls 2 [(0, .ref v0)] → W p l e (mx_rm P 3 75 σ) s m ([.ref a0] : List Value).toArray below meth c H locs (mxz τ - mxz σ) (mxu τ - mxu σ) (mx_Z below G P none σ σ' [.ref a0] s) (F0 m 101 ls []) := by
    intro v0  τ o hf Kb Ke0 H locs hJ ls hl
    unfold f_X12_scan_B101 at hf
    refine lv_aload_n hx hb dX12_scan_101 rfl (lv_at hl 0 rfl) ?_
    obtain ⟨x88, e89, hf⟩ := mb0 hf
    refine my_gI hx hb hts hown hK hJ fd_RX12_330 hv_12_14 e89 dX12_scan_102 ?_
    refine lv_aload_n hx hb dX12_scan_105 rfl (lv_at hl 0 rfl) ?_
    obtain ⟨x90, e91, hf⟩ := mb0 hf
    refine my_gI hx hb hts hown hK hJ fd_RX12_337 hv_12_16 e91 dX12_scan_106 ?_
    refine lv_isub hx hb dX12_scan_109 ?_
    refine lv_bipush (v := 8) hx hb dX12_scan_110 (by decide) ?_
    refine lv_icmp_ge (tgt := 142) hx hb dX12_scan_112 (by decide) (fun c92 => ?_) (fun c92 => ?_)
    · rw [if_pos c92] at hf
      exact Ke0 τ (Option.some.inj hf).symm _ _ hJ ls (lv_sub hl [0] rfl)
    · rw [if_neg c92] at hf
      refine lv_aload_n hx hb dX12_scan_115 rfl (lv_at hl 0 rfl) ?_
      refine lv_aload_n hx hb dX12_scan_116 rfl (lv_at hl 0 rfl) ?_
      obtain ⟨x93, e94, hf⟩ := mb0 hf
      refine my_gI hx hb hts hown hK hJ fd_RX12_330 hv_12_14 e94 dX12_scan_117 ?_
      obtain ⟨i95, e96, hf⟩ := mb0 hf
      obtain ⟨x98, σ97, e99, hf⟩ := mc0 hf
      refine mx_callV (As := [.int x93]) (rest := []) hx hb hml hts hown hK hJ rfl rfl (ci := 12) rfl e96 (c_X12_look l G P v0 x93 τ x98 σ97 e99) me_X12_look kw_2247 ks_83 kw_2245 (Nat.le_of_ble_eq_true rfl) (Nat.le_of_ble_eq_true rfl) rfl hl.1 rfl (Nat.le_of_ble_eq_true rfl) dX12_scan_120 (fun H locs hJ => ?_)
      obtain ⟨x101, σ100, e102, hf⟩ := mc0 hf
      refine mx_callS (As := [.int x98]) (rest := []) hx hb hml hts hown hK hJ rfl rfl (c_X12_isLetter l G P x98 σ97 x101 σ100 e102) me_X12_isLetter kw_2250 kw_2249 (Nat.le_of_ble_eq_true rfl) (Nat.le_of_ble_eq_true rfl) rfl hl.1 rfl (Nat.le_of_ble_eq_true rfl) dX12_scan_123 (fun H locs hJ => ?_)
      refine lv_if_eq (tgt := 142) hx hb dX12_scan_126 (by decide) (fun c103 => ?_) (fun c103 => ?_)
      · rw [if_pos c103] at hf
        exact Ke0 σ100 (Option.some.inj hf).symm _ _ hJ ls (lv_sub hl [0] rfl)
      · rw [if_neg c103] at hf
        refine lv_aload_n hx hb dX12_scan_129 rfl (lv_at hl 0 rfl) ?_
        refine lv_dup hx hb dX12_scan_130 rfl ?_
        obtain ⟨x104, e105, hf⟩ := mb0 hf
        refine my_gI hx hb hts hown hK hJ fd_RX12_330 hv_12_14 e105 dX12_scan_131 ?_
        refine lv_iconst (v := 1) hx hb dX12_scan_134 (by decide) ?_
        refine lv_iadd hx hb dX12_scan_135 ?_
        obtain ⟨σ106, e107, hf⟩ := mb0 hf
        refine my_pI hx hb hts hown hK hJ fd_RX12_330 cd_12 (Or.inl rfl) ht_12_14 e107 dX12_scan_136 (fun H locs hJ => ?_)
        refine lv_goto (tgt := 101) hx hb dX12_scan_139 (by decide) ?_
        exact Kb σ106 (Option.some.inj hf).symm _ _ hJ ls (lv_sub hl [0] rfl)
  have L101 : ∀ (v0 : Nat) (n : Nat)  (τ : mx_S) (o : (mx_S)), mx_lp (f_X12_scan_L101 P v0) n τ = some o → (∀  (υ : mx_S), o = υ → ∀ (H : Heap) (locs : List Loc), mx_J G P s.heap (mxz σ) (mxu σ) υ H locs → ∀ ls : Array Slot, lv_has ls 2 [(0, .ref v0)] → W p l e (mx_rm P 3 75 σ) s m ([.ref a0] : List Value).toArray below meth c H locs (mxz υ - mxz σ) (mxu υ - mxu σ) (mx_Z below G P none σ σ' [.ref a0] s) (F0 m 142 ls [])) → ∀ (H : Heap) (locs : List Loc), mx_J G P s.heap (mxz σ) (mxu σ) τ H locs → ∀ ls : Array Slot, lv_has ls 2 [(0, .ref v0)] → W p l e (mx_rm P 3 75 σ) s m ([.ref a0] : List Value).toArray below meth c H locs (mxz τ - mxz σ) (mxu τ - mxu σ) (mx_Z below G P none σ σ' [.ref a0] s) (F0 m 101 ls []) := by
    intro v0 n
    induction n with
    | zero =>
      intro  τ o hf
      rw [mx_lp0] at hf
      cases hf
    | succ n ih =>
      intro  τ o hf Ke0 H locs hJ ls hl
      rw [mx_lpS] at hf
      obtain ⟨b, eb, hf⟩ := mb0 hf
      refine B101 v0  τ b eb (fun  υ ho H locs hJ ls hl => ?_) (fun  υ ho H locs hJ ls hl => ?_) H locs hJ ls hl
      · subst ho
        exact ih  υ o hf Ke0 H locs hJ ls hl
      · subst ho
        exact Ke0  υ (Option.some.inj hf).symm _ _ hJ ls hl
  have D142 : ∀ (v0 : Nat) (τ : mx_S), f_X12_scan_D142 P v0 τ = some σ' → ∀ (H : Heap) (locs : List Loc), mx_J G P s.heap (mxz σ) (mxu σ) τ H locs → ∀ ls : Array Slot, lv_has ls 2 [(0, .ref v0)] → W p l e (mx_rm P 3 75 σ) s m ([.ref a0] : List Value).toArray below meth c H locs (mxz τ - mxz σ) (mxu τ - mxu σ) (mx_Z below G P none σ σ' [.ref a0] s) (F0 m 142 ls []) := by
    intro v0 τ hf _ _ hJ ls hl
    unfold f_X12_scan_D142 at hf
    refine lv_aload_n hx hb dX12_scan_142 rfl (lv_at hl 0 rfl) ?_
    refine lv_iconst (v := 1) hx hb dX12_scan_143 (by decide) ?_
    obtain ⟨σ111, e112, hf⟩ := mb0 hf
    refine my_pI hx hb hts hown hK hJ fd_RX12_340 cd_12 (Or.inl rfl) ht_12_15 e112 dX12_scan_144 (fun H locs hJ => ?_)
    refine lv_goto (tgt := 233) hx hb dX12_scan_147 (by decide) ?_
    exact D233  σ111 hf _ _ hJ ls (lv_sub hl [] rfl)
  unfold f_X12_scan at hf
  obtain ⟨o37, e38, hf⟩ := mb0 hf
  refine L0 a0 (mpN P)  σ o37 e38 (fun σ39 ho H locs hJ ls hl => ?_) _ _ hJ ls (lv_sub hl [0] rfl)
  · rw [ho] at hf
    have hf : ((mg_I σ39 a0 12 14).bind fun x40 => (mp_I P σ39 a0 12 16 x40).bind fun σ42 => (mg_I σ42 a0 12 14).bind fun x44 => (mx_is σ42 a0 12).bind fun i46 => mx_b2 (f_X12_look P a0 x44 σ42) fun x49 σ48 => (if 0 ≤ x49 then mx_b2 (f_X12_isLetter P x49 σ48) fun x53 σ52 => (if x53 = 0 then mx_b2 (f_X12_isDigit P x49 σ52) fun x57 σ56 => (if x57 = 0 then (if x49 = (45 : Int32) then (mg_I σ56 a0 12 14).bind fun x77 => (mx_is σ56 a0 12).bind fun i79 => mx_b2 (f_X12_look P a0 (x77 + (1 : Int32)) σ56) fun x82 σ81 => mx_b2 (f_X12_isDigit P x82 σ81) fun x85 σ84 => (if x85 = 0 then f_X12_scan_D186 P a0 x49 σ84 else f_X12_scan_D179 P a0 σ84) else f_X12_scan_D186 P a0 x49 σ56) else f_X12_scan_D179 P a0 σ56) else (mx_lp (f_X12_scan_L101 P a0) (mpN P) σ52).bind (fun t => (fun σ110 => f_X12_scan_D142 P a0 σ110) t)) else (mp_I P σ48 a0 12 15 (0 : Int32)).bind fun σ113 => f_X12_scan_D233 P  σ113)) = some σ' := hf
    refine lv_aload_n hx hb dX12_scan_65 rfl (lv_at hl 0 rfl) ?_
    refine lv_aload_n hx hb dX12_scan_66 rfl (lv_at hl 0 rfl) ?_
    obtain ⟨x40, e41, hf⟩ := mb0 hf
    refine my_gI hx hb hts hown hK hJ fd_RX12_330 hv_12_14 e41 dX12_scan_67 ?_
    obtain ⟨σ42, e43, hf⟩ := mb0 hf
    refine my_pI hx hb hts hown hK hJ fd_RX12_337 cd_12 (Or.inl rfl) ht_12_16 e43 dX12_scan_70 (fun H locs hJ => ?_)
    refine lv_aload_n hx hb dX12_scan_73 rfl (lv_at hl 0 rfl) ?_
    refine lv_aload_n hx hb dX12_scan_74 rfl (lv_at hl 0 rfl) ?_
    obtain ⟨x44, e45, hf⟩ := mb0 hf
    refine my_gI hx hb hts hown hK hJ fd_RX12_330 hv_12_14 e45 dX12_scan_75 ?_
    obtain ⟨i46, e47, hf⟩ := mb0 hf
    obtain ⟨x49, σ48, e50, hf⟩ := mc0 hf
    refine mx_callV (As := [.int x44]) (rest := []) hx hb hml hts hown hK hJ rfl rfl (ci := 12) rfl e47 (c_X12_look l G P a0 x44 σ42 x49 σ48 e50) me_X12_look kw_2247 ks_83 kw_2245 (Nat.le_of_ble_eq_true rfl) (Nat.le_of_ble_eq_true rfl) rfl hl.1 rfl (Nat.le_of_ble_eq_true rfl) dX12_scan_78 (fun H locs hJ => ?_)
    refine lv_istore_n (lv' := [(1, .int x49), (0, .ref a0)]) hx hb dX12_scan_81 rfl hl (by decide) rfl (fun ls hl => ?_)
    refine lv_iload_n hx hb dX12_scan_82 rfl (lv_at hl 0 rfl) ?_
    refine lv_if_ge (tgt := 94) hx hb dX12_scan_83 (by decide) (fun c51 => ?_) (fun c51 => ?_)
    · rw [if_pos c51] at hf
      refine lv_iload_n hx hb dX12_scan_94 rfl (lv_at hl 0 rfl) ?_
      obtain ⟨x53, σ52, e54, hf⟩ := mc0 hf
      refine mx_callS (As := [.int x49]) (rest := []) hx hb hml hts hown hK hJ rfl rfl (c_X12_isLetter l G P x49 σ48 x53 σ52 e54) me_X12_isLetter kw_2250 kw_2249 (Nat.le_of_ble_eq_true rfl) (Nat.le_of_ble_eq_true rfl) rfl hl.1 rfl (Nat.le_of_ble_eq_true rfl) dX12_scan_95 (fun H locs hJ => ?_)
      refine lv_if_eq (tgt := 150) hx hb dX12_scan_98 (by decide) (fun c55 => ?_) (fun c55 => ?_)
      · rw [if_pos c55] at hf
        refine lv_iload_n hx hb dX12_scan_150 rfl (lv_at hl 0 rfl) ?_
        obtain ⟨x57, σ56, e58, hf⟩ := mc0 hf
        refine mx_callS (As := [.int x49]) (rest := []) hx hb hml hts hown hK hJ rfl rfl (c_X12_isDigit l G P x49 σ52 x57 σ56 e58) me_X12_isDigit kw_2253 kw_2252 (Nat.le_of_ble_eq_true rfl) (Nat.le_of_ble_eq_true rfl) rfl hl.1 rfl (Nat.le_of_ble_eq_true rfl) dX12_scan_151 (fun H locs hJ => ?_)
        refine lv_if_ne (tgt := 179) hx hb dX12_scan_154 (by decide) (fun c59 => ?_) (fun c59 => ?_)
        · rw [if_neg c59] at hf
          exact D179 a0 σ56 hf _ _ hJ ls (lv_sub hl [1] rfl)
        · rw [if_pos c59] at hf
          refine lv_iload_n hx hb dX12_scan_157 rfl (lv_at hl 0 rfl) ?_
          refine lv_bipush (v := 45) hx hb dX12_scan_158 (by decide) ?_
          refine lv_icmp_ne (tgt := 186) hx hb dX12_scan_160 (by decide) (fun c64 => ?_) (fun c64 => ?_)
          · rw [if_neg c64] at hf
            exact D186 a0 x49 σ56 hf _ _ hJ ls (lv_sub hl [1, 0] rfl)
          · rw [if_pos c64] at hf
            refine lv_aload_n hx hb dX12_scan_163 rfl (lv_at hl 1 rfl) ?_
            refine lv_aload_n hx hb dX12_scan_164 rfl (lv_at hl 1 rfl) ?_
            obtain ⟨x77, e78, hf⟩ := mb0 hf
            refine my_gI hx hb hts hown hK hJ fd_RX12_330 hv_12_14 e78 dX12_scan_165 ?_
            refine lv_iconst (v := 1) hx hb dX12_scan_168 (by decide) ?_
            refine lv_iadd hx hb dX12_scan_169 ?_
            obtain ⟨i79, e80, hf⟩ := mb0 hf
            obtain ⟨x82, σ81, e83, hf⟩ := mc0 hf
            refine mx_callV (As := [.int (x77 + (1 : Int32))]) (rest := []) hx hb hml hts hown hK hJ rfl rfl (ci := 12) rfl e80 (c_X12_look l G P a0 (x77 + (1 : Int32)) σ56 x82 σ81 e83) me_X12_look kw_2247 ks_83 kw_2245 (Nat.le_of_ble_eq_true rfl) (Nat.le_of_ble_eq_true rfl) rfl hl.1 rfl (Nat.le_of_ble_eq_true rfl) dX12_scan_170 (fun H locs hJ => ?_)
            obtain ⟨x85, σ84, e86, hf⟩ := mc0 hf
            refine mx_callS (As := [.int x82]) (rest := []) hx hb hml hts hown hK hJ rfl rfl (c_X12_isDigit l G P x82 σ81 x85 σ84 e86) me_X12_isDigit kw_2253 kw_2252 (Nat.le_of_ble_eq_true rfl) (Nat.le_of_ble_eq_true rfl) rfl hl.1 rfl (Nat.le_of_ble_eq_true rfl) dX12_scan_173 (fun H locs hJ => ?_)
            refine lv_if_eq (tgt := 186) hx hb dX12_scan_176 (by decide) (fun c87 => ?_) (fun c87 => ?_)
            · rw [if_pos c87] at hf
              exact D186 a0 x49 σ84 hf _ _ hJ ls (lv_sub hl [1, 0] rfl)
            · rw [if_neg c87] at hf
              exact D179 a0 σ84 hf _ _ hJ ls (lv_sub hl [1] rfl)
      · rw [if_neg c55] at hf
        obtain ⟨o108, e109, hf⟩ := mb0 hf
        refine L101 a0 (mpN P)  σ52 o108 e109 (fun σ110 ho H locs hJ ls hl => ?_) _ _ hJ ls (lv_sub hl [1] rfl)
        · rw [ho] at hf
          have hf : (f_X12_scan_D142 P a0 σ110) = some σ' := hf
          exact D142 a0 σ110 hf _ _ hJ ls (lv_sub hl [0] rfl)
    · rw [if_neg c51] at hf
      refine lv_aload_n hx hb dX12_scan_86 rfl (lv_at hl 1 rfl) ?_
      refine lv_iconst (v := 0) hx hb dX12_scan_87 (by decide) ?_
      obtain ⟨σ113, e114, hf⟩ := mb0 hf
      refine my_pI hx hb hts hown hK hJ fd_RX12_340 cd_12 (Or.inl rfl) ht_12_15 e114 dX12_scan_88 (fun H locs hJ => ?_)
      refine lv_goto (tgt := 233) hx hb dX12_scan_91 (by decide) ?_
      exact D233  σ113 hf _ _ hJ ls (lv_sub hl [] rfl)
set_option maxHeartbeats 4000000 in
set_option maxRecDepth 100000 in
theorem c_X12_isWord (l : Launch) (G : mx_G) (P : mx_P) (a0 : Nat) (p1 : Nat) (σ : mx_S) (r : Int32) (σ' : mx_S) (hf : f_X12_isWord P a0 p1 σ = some (r, σ')) : mxz σ ≤ mpc P → mxu σ ≤ mps P → mx_M l yX12_isWord cX12_isWord 4 (some .boolean) 4 85 G P [.ref a0, .ref (mgK G p1)] σ (some (.int r)) σ' := by
  intro hcap hcau
  refine mx_ofW (by decide +kernel) hcap hcau (Nat.le_of_ble_eq_true rfl) ?_
  intro p e s m below meth c hx hb hr hml hts hown hlocks hname hK hJ ls hl
  have hz0 := hJ.2.1
  have hown : s.vm.findClass RX12 = some m.cls := hown
  have hl : lv_has ls 4 [(0, .ref a0), (1, .ref (mgK G p1))] := hl
  have D68_32 : ∀ (v0 : Nat) (v1 : Nat) (v3 : Int32) (w0 : Int32) (τ : mx_S) (o : (Int32 × Int32 × mx_S) ⊕ ((Int32 × mx_S))), f_X12_isWord_D68_32 P v0 v1 v3 w0 τ = some o → (∀ (y2 : Int32) (y3 : Int32) (υ : mx_S), o = .inl (y2, y3, υ) → ∀ (H : Heap) (locs : List Loc), mx_J G P s.heap (mxz σ) (mxu σ) υ H locs → ∀ ls : Array Slot, lv_has ls 4 [(0, .ref v0), (1, .ref (mgK G v1)), (2, .int y2), (3, .int y3)] → W p l e (mx_rm P 4 85 σ) s m ([.ref a0, .ref (mgK G p1)] : List Value).toArray below meth c H locs (mxz υ - mxz σ) (mxu υ - mxu σ) (mx_Z below G P (some (.int r)) σ σ' [.ref a0, .ref (mgK G p1)] s) (F0 m 32 ls [])) → (∀ (y2 : Int32) (υ : mx_S), o = .inr (y2, υ) → ∀ (H : Heap) (locs : List Loc), mx_J G P s.heap (mxz σ) (mxu σ) υ H locs → ∀ ls : Array Slot, lv_has ls 4 [(2, .int y2)] → W p l e (mx_rm P 4 85 σ) s m ([.ref a0, .ref (mgK G p1)] : List Value).toArray below meth c H locs (mxz υ - mxz σ) (mxu υ - mxu σ) (mx_Z below G P (some (.int r)) σ σ' [.ref a0, .ref (mgK G p1)] s) (F0 m 75 ls [])) → ∀ (H : Heap) (locs : List Loc), mx_J G P s.heap (mxz σ) (mxu σ) τ H locs → ∀ ls : Array Slot, lv_has ls 4 [(0, .ref v0), (1, .ref (mgK G v1)), (3, .int v3)] → W p l e (mx_rm P 4 85 σ) s m ([.ref a0, .ref (mgK G p1)] : List Value).toArray below meth c H locs (mxz τ - mxz σ) (mxu τ - mxu σ) (mx_Z below G P (some (.int r)) σ σ' [.ref a0, .ref (mgK G p1)] s) (F0 m 68 ls [.int w0]) := by
    intro v0 v1 v3 w0 τ o hf Kb Ke0 H locs hJ ls hl
    unfold f_X12_isWord_D68_32 at hf
    refine lv_istore_n (lv' := [(2, .int w0), (0, .ref v0), (1, .ref (mgK G v1)), (3, .int v3)]) hx hb dX12_isWord_68 rfl hl (by decide) rfl (fun ls hl => ?_)
    obtain ⟨x23, e24, hf⟩ := mb0 hf
    refine lv_iinc (v := x23) (lv' := [(3, .int x23), (2, .int w0), (0, .ref v0), (1, .ref (mgK G v1))]) hx hb dX12_isWord_69 hl (k := 3) rfl (by rw [← Option.some.inj e24]; rfl) (by decide) rfl (fun ls hl => ?_)
    refine lv_goto (tgt := 32) hx hb dX12_isWord_72 (by decide) ?_
    exact Kb w0 x23 τ (Option.some.inj hf).symm _ _ hJ ls (lv_sub hl [2, 3, 1, 0] rfl)
  have B32 : ∀ (v0 : Nat) (v1 : Nat) (v2 : Int32) (v3 : Int32) (τ : mx_S) (o : (Int32 × Int32 × mx_S) ⊕ ((Int32 × mx_S))), f_X12_isWord_B32 P v0 v1 v2 v3 τ = some o → (∀ (y2 : Int32) (y3 : Int32) (υ : mx_S), o = .inl (y2, y3, υ) → ∀ (H : Heap) (locs : List Loc), mx_J G P s.heap (mxz σ) (mxu σ) υ H locs → ∀ ls : Array Slot, lv_has ls 4 [(0, .ref v0), (1, .ref (mgK G v1)), (2, .int y2), (3, .int y3)] → W p l e (mx_rm P 4 85 σ) s m ([.ref a0, .ref (mgK G p1)] : List Value).toArray below meth c H locs (mxz υ - mxz σ) (mxu υ - mxu σ) (mx_Z below G P (some (.int r)) σ σ' [.ref a0, .ref (mgK G p1)] s) (F0 m 32 ls [])) → (∀ (y2 : Int32) (υ : mx_S), o = .inr (y2, υ) → ∀ (H : Heap) (locs : List Loc), mx_J G P s.heap (mxz σ) (mxu σ) υ H locs → ∀ ls : Array Slot, lv_has ls 4 [(2, .int y2)] → W p l e (mx_rm P 4 85 σ) s m ([.ref a0, .ref (mgK G p1)] : List Value).toArray below meth c H locs (mxz υ - mxz σ) (mxu υ - mxu σ) (mx_Z below G P (some (.int r)) σ σ' [.ref a0, .ref (mgK G p1)] s) (F0 m 75 ls [])) → ∀ (H : Heap) (locs : List Loc), mx_J G P s.heap (mxz σ) (mxu σ) τ H locs → ∀ ls : Array Slot, lv_has ls 4 [(0, .ref v0), (1, .ref (mgK G v1)), (2, .int v2), (3, .int v3)] → W p l e (mx_rm P 4 85 σ) s m ([.ref a0, .ref (mgK G p1)] : List Value).toArray below meth c H locs (mxz τ - mxz σ) (mxu τ - mxu σ) (mx_Z below G P (some (.int r)) σ σ' [.ref a0, .ref (mgK G p1)] s) (F0 m 32 ls []) := by
    intro v0 v1 v2 v3 τ o hf Kb Ke0 H locs hJ ls hl
    unfold f_X12_isWord_B32 at hf
    refine lv_iload_n hx hb dX12_isWord_32 rfl (lv_at hl 3 rfl) ?_
    refine lv_aload_n hx hb dX12_isWord_33 rfl (lv_at hl 1 rfl) ?_
    obtain ⟨i4, e5, hf⟩ := mb0 hf
    obtain ⟨x7, σ6, e8, hf⟩ := mc0 hf
    refine mx_callVS (As := []) (rest := [.int v3]) hx hb hml hts hown hK hz0 hJ rfl rfl e5 (c_J0_length_8abf5 l G P v1 τ x7 σ6 e8) me_J0_length_8abf5 kw_1091 kw_1092 kw_2278 (Nat.le_of_ble_eq_true rfl) (Nat.le_of_ble_eq_true rfl) rfl hl.1 rfl (Nat.le_of_ble_eq_true rfl) dX12_isWord_34 (fun H locs hJ => ?_)
    refine lv_icmp_ge (tgt := 75) hx hb dX12_isWord_37 (by decide) (fun c9 => ?_) (fun c9 => ?_)
    · rw [if_pos c9] at hf
      exact Ke0 v2 σ6 (Option.some.inj hf).symm _ _ hJ ls (lv_sub hl [2] rfl)
    · rw [if_neg c9] at hf
      refine lv_iload_n hx hb dX12_isWord_40 rfl (lv_at hl 2 rfl) ?_
      refine lv_if_eq (tgt := 75) hx hb dX12_isWord_41 (by decide) (fun c10 => ?_) (fun c10 => ?_)
      · rw [if_pos c10] at hf
        exact Ke0 v2 σ6 (Option.some.inj hf).symm _ _ hJ ls (lv_sub hl [2] rfl)
      · rw [if_neg c10] at hf
        refine lv_aload_n hx hb dX12_isWord_44 rfl (lv_at hl 0 rfl) ?_
        obtain ⟨b11, e12, hf⟩ := mb0 hf
        refine my_gR hx hb hts hown hK hJ fd_RX12_7 hv_12_1 e12 dX12_isWord_45 ?_
        refine lv_aload_n hx hb dX12_isWord_48 rfl (lv_at hl 0 rfl) ?_
        obtain ⟨x13, e14, hf⟩ := mb0 hf
        refine my_gI hx hb hts hown hK hJ fd_RX12_337 hv_12_16 e14 dX12_isWord_49 ?_
        refine lv_iload_n hx hb dX12_isWord_52 rfl (lv_at hl 3 rfl) ?_
        refine lv_iadd hx hb dX12_isWord_53 ?_
        obtain ⟨x15, e16, hf⟩ := mb0 hf
        refine mx_aI hx hb hK hJ e16 dX12_isWord_54 ?_
        refine lv_aload_n hx hb dX12_isWord_55 rfl (lv_at hl 1 rfl) ?_
        refine lv_iload_n hx hb dX12_isWord_56 rfl (lv_at hl 3 rfl) ?_
        obtain ⟨i17, e18, hf⟩ := mb0 hf
        obtain ⟨x20, σ19, e21, hf⟩ := mc0 hf
        refine mx_callVS (As := [.int v3]) (rest := [.int x15]) hx hb hml hts hown hK hz0 hJ rfl rfl e18 (c_J0_charAt_5068e l G P v1 v3 σ6 x20 σ19 e21) me_J0_charAt_5068e kw_1101 kw_1102 kw_2279 (Nat.le_of_ble_eq_true rfl) (Nat.le_of_ble_eq_true rfl) rfl hl.1 rfl (Nat.le_of_ble_eq_true rfl) dX12_isWord_57 (fun H locs hJ => ?_)
        refine lv_icmp_ne (tgt := 67) hx hb dX12_isWord_60 (by decide) (fun c22 => ?_) (fun c22 => ?_)
        · rw [if_neg c22] at hf
          refine lv_iconst (v := 0) hx hb dX12_isWord_67 (by decide) ?_
          exact D68_32 v0 v1 v3 (0 : Int32) σ19 o hf Kb Ke0 _ _ hJ ls (lv_sub hl [0, 1, 3] rfl)
        · rw [if_pos c22] at hf
          refine lv_iconst (v := 1) hx hb dX12_isWord_63 (by decide) ?_
          refine lv_goto (tgt := 68) hx hb dX12_isWord_64 (by decide) ?_
          exact D68_32 v0 v1 v3 (1 : Int32) σ19 o hf Kb Ke0 _ _ hJ ls (lv_sub hl [0, 1, 3] rfl)
  have L32 : ∀ (v0 : Nat) (v1 : Nat) (n : Nat) (v2 : Int32) (v3 : Int32) (τ : mx_S) (o : (Int32 × mx_S)), mx_lp (f_X12_isWord_L32 P v0 v1) n (v2, v3, τ) = some o → (∀ (y2 : Int32) (υ : mx_S), o = (y2, υ) → ∀ (H : Heap) (locs : List Loc), mx_J G P s.heap (mxz σ) (mxu σ) υ H locs → ∀ ls : Array Slot, lv_has ls 4 [(2, .int y2)] → W p l e (mx_rm P 4 85 σ) s m ([.ref a0, .ref (mgK G p1)] : List Value).toArray below meth c H locs (mxz υ - mxz σ) (mxu υ - mxu σ) (mx_Z below G P (some (.int r)) σ σ' [.ref a0, .ref (mgK G p1)] s) (F0 m 75 ls [])) → ∀ (H : Heap) (locs : List Loc), mx_J G P s.heap (mxz σ) (mxu σ) τ H locs → ∀ ls : Array Slot, lv_has ls 4 [(0, .ref v0), (1, .ref (mgK G v1)), (2, .int v2), (3, .int v3)] → W p l e (mx_rm P 4 85 σ) s m ([.ref a0, .ref (mgK G p1)] : List Value).toArray below meth c H locs (mxz τ - mxz σ) (mxu τ - mxu σ) (mx_Z below G P (some (.int r)) σ σ' [.ref a0, .ref (mgK G p1)] s) (F0 m 32 ls []) := by
    intro v0 v1 n
    induction n with
    | zero =>
      intro v2 v3 τ o hf
      rw [mx_lp0] at hf
      cases hf
    | succ n ih =>
      intro v2 v3 τ o hf Ke0 H locs hJ ls hl
      rw [mx_lpS] at hf
      obtain ⟨b, eb, hf⟩ := mb0 hf
      refine B32 v0 v1 v2 v3 τ b eb (fun y2 y3 υ ho H locs hJ ls hl => ?_) (fun y2 υ ho H locs hJ ls hl => ?_) H locs hJ ls hl
      · subst ho
        exact ih y2 y3 υ o hf Ke0 H locs hJ ls hl
      · subst ho
        exact Ke0 y2 υ (Option.some.inj hf).symm _ _ hJ ls hl
  have D75 : ∀ (v2 : Int32) (τ : mx_S), f_X12_isWord_D75 P v2 τ = some (r, σ') → ∀ (H : Heap) (locs : List Loc), mx_J G P s.heap (mxz σ) (mxu σ) τ H locs → ∀ ls : Array Slot, lv_has ls 4 [(2, .int v2)] → W p l e (mx_rm P 4 85 σ) s m ([.ref a0, .ref (mgK G p1)] : List Value).toArray below meth c H locs (mxz τ - mxz σ) (mxu τ - mxu σ) (mx_Z below G P (some (.int r)) σ σ' [.ref a0, .ref (mgK G p1)] s) (F0 m 75 ls []) := by
    intro v2 τ hf _ _ hJ ls hl
    unfold f_X12_isWord_D75 at hf
    refine lv_iload_n hx hb dX12_isWord_75 rfl (lv_at hl 0 rfl) ?_
    exact mx_zret hx hb hr hlocks hJ hf dX12_isWord_76
  have D29 : ∀ (v0 : Nat) (v1 : Nat) (w0 : Int32) (τ : mx_S), f_X12_isWord_D29 P v0 v1 w0 τ = some (r, σ') → ∀ (H : Heap) (locs : List Loc), mx_J G P s.heap (mxz σ) (mxu σ) τ H locs → ∀ ls : Array Slot, lv_has ls 4 [(0, .ref v0), (1, .ref (mgK G v1))] → W p l e (mx_rm P 4 85 σ) s m ([.ref a0, .ref (mgK G p1)] : List Value).toArray below meth c H locs (mxz τ - mxz σ) (mxu τ - mxu σ) (mx_Z below G P (some (.int r)) σ σ' [.ref a0, .ref (mgK G p1)] s) (F0 m 29 ls [.int w0]) := by
    intro v0 v1 w0 τ hf _ _ hJ ls hl
    unfold f_X12_isWord_D29 at hf
    refine lv_istore_n (lv' := [(2, .int w0), (0, .ref v0), (1, .ref (mgK G v1))]) hx hb dX12_isWord_29 rfl hl (by decide) rfl (fun ls hl => ?_)
    refine lv_iconst (v := 0) hx hb dX12_isWord_30 (by decide) ?_
    refine lv_istore_n (lv' := [(3, .int (0 : Int32)), (2, .int w0), (0, .ref v0), (1, .ref (mgK G v1))]) hx hb dX12_isWord_31 rfl hl (by decide) rfl (fun ls hl => ?_)
    obtain ⟨o25, e26, hf⟩ := mb0 hf
    refine L32 v0 v1 (mpN P) w0 (0 : Int32) τ o25 e26 (fun y27 σ28 ho H locs hJ ls hl => ?_) _ _ hJ ls (lv_sub hl [2, 3, 1, 0] rfl)
    · rw [ho] at hf
      have hf : (f_X12_isWord_D75 P y27 σ28) = some (r, σ') := hf
      exact D75 y27 σ28 hf _ _ hJ ls (lv_sub hl [0] rfl)
  have D28 : ∀ (v0 : Nat) (v1 : Nat) (τ : mx_S), f_X12_isWord_D28 P v0 v1 τ = some (r, σ') → ∀ (H : Heap) (locs : List Loc), mx_J G P s.heap (mxz σ) (mxu σ) τ H locs → ∀ ls : Array Slot, lv_has ls 4 [(0, .ref v0), (1, .ref (mgK G v1))] → W p l e (mx_rm P 4 85 σ) s m ([.ref a0, .ref (mgK G p1)] : List Value).toArray below meth c H locs (mxz τ - mxz σ) (mxu τ - mxu σ) (mx_Z below G P (some (.int r)) σ σ' [.ref a0, .ref (mgK G p1)] s) (F0 m 28 ls []) := by
    intro v0 v1 τ hf _ _ hJ ls hl
    unfold f_X12_isWord_D28 at hf
    refine lv_iconst (v := 0) hx hb dX12_isWord_28 (by decide) ?_
    exact D29 v0 v1 (0 : Int32) τ hf _ _ hJ ls (lv_sub hl [0, 1] rfl)
  unfold f_X12_isWord at hf
  refine lv_aload_n hx hb dX12_isWord_0 rfl (lv_at hl 0 rfl) ?_
  obtain ⟨x1, e2, hf⟩ := mb0 hf
  refine my_gI hx hb hts hown hK hJ fd_RX12_340 hv_12_15 e2 dX12_isWord_1 ?_
  refine lv_iconst (v := 1) hx hb dX12_isWord_4 (by decide) ?_
  refine lv_icmp_ne (tgt := 28) hx hb dX12_isWord_5 (by decide) (fun c3 => ?_) (fun c3 => ?_)
  · rw [if_neg c3] at hf
    exact D28 a0 p1 σ hf _ _ hJ ls (lv_sub hl [0, 1] rfl)
  · rw [if_pos c3] at hf
    refine lv_aload_n hx hb dX12_isWord_8 rfl (lv_at hl 0 rfl) ?_
    obtain ⟨x29, e30, hf⟩ := mb0 hf
    refine my_gI hx hb hts hown hK hJ fd_RX12_330 hv_12_14 e30 dX12_isWord_9 ?_
    refine lv_aload_n hx hb dX12_isWord_12 rfl (lv_at hl 0 rfl) ?_
    obtain ⟨x31, e32, hf⟩ := mb0 hf
    refine my_gI hx hb hts hown hK hJ fd_RX12_337 hv_12_16 e32 dX12_isWord_13 ?_
    refine lv_isub hx hb dX12_isWord_16 ?_
    refine lv_aload_n hx hb dX12_isWord_17 rfl (lv_at hl 1 rfl) ?_
    obtain ⟨i33, e34, hf⟩ := mb0 hf
    obtain ⟨x36, σ35, e37, hf⟩ := mc0 hf
    refine mx_callVS (As := []) (rest := [.int (x29 - x31)]) hx hb hml hts hown hK hz0 hJ rfl rfl e34 (c_J0_length_8abf5 l G P p1 σ x36 σ35 e37) me_J0_length_8abf5 kw_1091 kw_1092 kw_2278 (Nat.le_of_ble_eq_true rfl) (Nat.le_of_ble_eq_true rfl) rfl hl.1 rfl (Nat.le_of_ble_eq_true rfl) dX12_isWord_18 (fun H locs hJ => ?_)
    refine lv_icmp_ne (tgt := 28) hx hb dX12_isWord_21 (by decide) (fun c38 => ?_) (fun c38 => ?_)
    · rw [if_neg c38] at hf
      exact D28 a0 p1 σ35 hf _ _ hJ ls (lv_sub hl [0, 1] rfl)
    · rw [if_pos c38] at hf
      refine lv_iconst (v := 1) hx hb dX12_isWord_24 (by decide) ?_
      refine lv_goto (tgt := 29) hx hb dX12_isWord_25 (by decide) ?_
      exact D29 a0 p1 (1 : Int32) σ35 hf _ _ hJ ls (lv_sub hl [0, 1] rfl)
set_option maxHeartbeats 4000000 in
set_option maxRecDepth 100000 in
theorem c_X12_sameWord (l : Launch) (G : mx_G) (P : mx_P) (a0 : Nat) (p1 : Int32) (p2 : Int32) (p3 : Int32) (σ : mx_S) (r : Int32) (σ' : mx_S) (hf : f_X12_sameWord P a0 p1 p2 p3 σ = some (r, σ')) : mxz σ ≤ mpc P → mxu σ ≤ mps P → mx_M l yX12_sameWord cX12_sameWord 5 (some .boolean) 0 0 G P [.ref a0, .int p1, .int p2, .int p3] σ (some (.int r)) σ' := by
  intro hcap hcau
  refine mx_ofW (by decide +kernel) hcap hcau (Nat.le_of_ble_eq_true rfl) ?_
  intro p e s m below meth c hx hb hr hml hts hown hlocks hname hK hJ ls hl
  have hz0 := hJ.2.1
  have hown : s.vm.findClass RX12 = some m.cls := hown
  have hl : lv_has ls 5 [(0, .ref a0), (1, .int p1), (2, .int p2), (3, .int p3)] := hl
  have B3 : ∀ (v0 : Nat) (v1 : Int32) (v2 : Int32) (v3 : Int32) (v4 : Int32) (τ : mx_S) (o : (Int32 × mx_S) ⊕ ((mx_S) ⊕ (mx_S))), f_X12_sameWord_B3 P v0 v1 v2 v3 v4 τ = some o → (∀ (y4 : Int32) (υ : mx_S), o = .inl (y4, υ) → ∀ (H : Heap) (locs : List Loc), mx_J G P s.heap (mxz σ) (mxu σ) υ H locs → ∀ ls : Array Slot, lv_has ls 5 [(0, .ref v0), (1, .int v1), (2, .int v2), (3, .int v3), (4, .int y4)] → W p l e (mx_rm P 0 0 σ) s m ([.ref a0, .int p1, .int p2, .int p3] : List Value).toArray below meth c H locs (mxz υ - mxz σ) (mxu υ - mxu σ) (mx_Z below G P (some (.int r)) σ σ' [.ref a0, .int p1, .int p2, .int p3] s) (F0 m 3 ls [])) → (∀  (υ : mx_S), o = .inr (.inl υ) → ∀ (H : Heap) (locs : List Loc), mx_J G P s.heap (mxz σ) (mxu σ) υ H locs → ∀ ls : Array Slot, lv_has ls 5 [] → W p l e (mx_rm P 0 0 σ) s m ([.ref a0, .int p1, .int p2, .int p3] : List Value).toArray below meth c H locs (mxz υ - mxz σ) (mxu υ - mxu σ) (mx_Z below G P (some (.int r)) σ σ' [.ref a0, .int p1, .int p2, .int p3] s) (F0 m 30 ls [])) → (∀  (υ : mx_S), o = .inr (.inr υ) → ∀ (H : Heap) (locs : List Loc), mx_J G P s.heap (mxz σ) (mxu σ) υ H locs → ∀ ls : Array Slot, lv_has ls 5 [] → W p l e (mx_rm P 0 0 σ) s m ([.ref a0, .int p1, .int p2, .int p3] : List Value).toArray below meth c H locs (mxz υ - mxz σ) (mxu υ - mxu σ) (mx_Z below G P (some (.int r)) σ σ' [.ref a0, .int p1, .int p2, .int p3] s) (F0 m 38 ls [])) → ∀ (H : Heap) (locs : List Loc), mx_J G P s.heap (mxz σ) (mxu σ) τ H locs → ∀ ls : Array Slot, lv_has ls 5 [(0, .ref v0), (1, .int v1), (2, .int v2), (3, .int v3), (4, .int v4)] → W p l e (mx_rm P 0 0 σ) s m ([.ref a0, .int p1, .int p2, .int p3] : List Value).toArray below meth c H locs (mxz τ - mxz σ) (mxu τ - mxu σ) (mx_Z below G P (some (.int r)) σ σ' [.ref a0, .int p1, .int p2, .int p3] s) (F0 m 3 ls []) := by
    intro v0 v1 v2 v3 v4 τ o hf Kb Ke0 Ke1 H locs hJ ls hl
    unfold f_X12_sameWord_B3 at hf
    refine lv_iload hx hb dX12_sameWord_3 (lv_at hl 4 rfl) ?_
    refine lv_iload_n hx hb dX12_sameWord_5 rfl (lv_at hl 3 rfl) ?_
    refine lv_icmp_ge (tgt := 38) hx hb dX12_sameWord_6 (by decide) (fun c1 => ?_) (fun c1 => ?_)
    · rw [if_pos c1] at hf
      exact Ke1 τ (Option.some.inj hf).symm _ _ hJ ls (lv_sub hl [] rfl)
    · rw [if_neg c1] at hf
      refine lv_aload_n hx hb dX12_sameWord_9 rfl (lv_at hl 0 rfl) ?_
      obtain ⟨b2, e3, hf⟩ := mb0 hf
      refine my_gR hx hb hts hown hK hJ fd_RX12_7 hv_12_1 e3 dX12_sameWord_10 ?_
      refine lv_iload_n hx hb dX12_sameWord_13 rfl (lv_at hl 1 rfl) ?_
      refine lv_iload hx hb dX12_sameWord_14 (lv_at hl 4 rfl) ?_
      refine lv_iadd hx hb dX12_sameWord_16 ?_
      obtain ⟨x4, e5, hf⟩ := mb0 hf
      refine mx_aI hx hb hK hJ e5 dX12_sameWord_17 ?_
      refine lv_aload_n hx hb dX12_sameWord_18 rfl (lv_at hl 0 rfl) ?_
      obtain ⟨b6, e7, hf⟩ := mb0 hf
      refine my_gR hx hb hts hown hK hJ fd_RX12_7 hv_12_1 e7 dX12_sameWord_19 ?_
      refine lv_iload_n hx hb dX12_sameWord_22 rfl (lv_at hl 2 rfl) ?_
      refine lv_iload hx hb dX12_sameWord_23 (lv_at hl 4 rfl) ?_
      refine lv_iadd hx hb dX12_sameWord_25 ?_
      obtain ⟨x8, e9, hf⟩ := mb0 hf
      refine mx_aI hx hb hK hJ e9 dX12_sameWord_26 ?_
      refine lv_icmp_eq (tgt := 32) hx hb dX12_sameWord_27 (by decide) (fun c10 => ?_) (fun c10 => ?_)
      · rw [if_pos c10] at hf
        obtain ⟨x11, e12, hf⟩ := mb0 hf
        refine lv_iinc (v := x11) (lv' := [(4, .int x11), (0, .ref v0), (1, .int v1), (2, .int v2), (3, .int v3)]) hx hb dX12_sameWord_32 hl (k := 4) rfl (by rw [← Option.some.inj e12]; rfl) (by decide) rfl (fun ls hl => ?_)
        refine lv_goto (tgt := 3) hx hb dX12_sameWord_35 (by decide) ?_
        exact Kb x11 τ (Option.some.inj hf).symm _ _ hJ ls (lv_sub hl [1, 2, 3, 4, 0] rfl)
      · rw [if_neg c10] at hf
        exact Ke0 τ (Option.some.inj hf).symm _ _ hJ ls (lv_sub hl [] rfl)
  have L3 : ∀ (v0 : Nat) (v1 : Int32) (v2 : Int32) (v3 : Int32) (n : Nat) (v4 : Int32) (τ : mx_S) (o : (mx_S) ⊕ (mx_S)), mx_lp (f_X12_sameWord_L3 P v0 v1 v2 v3) n (v4, τ) = some o → (∀  (υ : mx_S), o = (.inl υ) → ∀ (H : Heap) (locs : List Loc), mx_J G P s.heap (mxz σ) (mxu σ) υ H locs → ∀ ls : Array Slot, lv_has ls 5 [] → W p l e (mx_rm P 0 0 σ) s m ([.ref a0, .int p1, .int p2, .int p3] : List Value).toArray below meth c H locs (mxz υ - mxz σ) (mxu υ - mxu σ) (mx_Z below G P (some (.int r)) σ σ' [.ref a0, .int p1, .int p2, .int p3] s) (F0 m 30 ls [])) → (∀  (υ : mx_S), o = (.inr υ) → ∀ (H : Heap) (locs : List Loc), mx_J G P s.heap (mxz σ) (mxu σ) υ H locs → ∀ ls : Array Slot, lv_has ls 5 [] → W p l e (mx_rm P 0 0 σ) s m ([.ref a0, .int p1, .int p2, .int p3] : List Value).toArray below meth c H locs (mxz υ - mxz σ) (mxu υ - mxu σ) (mx_Z below G P (some (.int r)) σ σ' [.ref a0, .int p1, .int p2, .int p3] s) (F0 m 38 ls [])) → ∀ (H : Heap) (locs : List Loc), mx_J G P s.heap (mxz σ) (mxu σ) τ H locs → ∀ ls : Array Slot, lv_has ls 5 [(0, .ref v0), (1, .int v1), (2, .int v2), (3, .int v3), (4, .int v4)] → W p l e (mx_rm P 0 0 σ) s m ([.ref a0, .int p1, .int p2, .int p3] : List Value).toArray below meth c H locs (mxz τ - mxz σ) (mxu τ - mxu σ) (mx_Z below G P (some (.int r)) σ σ' [.ref a0, .int p1, .int p2, .int p3] s) (F0 m 3 ls []) := by
    intro v0 v1 v2 v3 n
    induction n with
    | zero =>
      intro v4 τ o hf
      rw [mx_lp0] at hf
      cases hf
    | succ n ih =>
      intro v4 τ o hf Ke0 Ke1 H locs hJ ls hl
      rw [mx_lpS] at hf
      obtain ⟨b, eb, hf⟩ := mb0 hf
      refine B3 v0 v1 v2 v3 v4 τ b eb (fun y4 υ ho H locs hJ ls hl => ?_) (fun  υ ho H locs hJ ls hl => ?_) (fun  υ ho H locs hJ ls hl => ?_) H locs hJ ls hl
      · subst ho
        exact ih y4 υ o hf Ke0 Ke1 H locs hJ ls hl
      · subst ho
        exact Ke0  υ (Option.some.inj hf).symm _ _ hJ ls hl
      · subst ho
        exact Ke1  υ (Option.some.inj hf).symm _ _ hJ ls hl
  unfold f_X12_sameWord at hf
  refine lv_iconst (v := 0) hx hb dX12_sameWord_0 (by decide) ?_
  refine lv_istore (lv' := [(4, .int (0 : Int32)), (0, .ref a0), (1, .int p1), (2, .int p2), (3, .int p3)]) hx hb dX12_sameWord_1 hl (by decide) rfl (fun ls hl => ?_)
  obtain ⟨o13, e14, hf⟩ := mb0 hf
  refine L3 a0 p1 p2 p3 (mpN P) (0 : Int32) σ o13 e14 (fun σ15 ho H locs hJ ls hl => ?_) (fun σ16 ho H locs hJ ls hl => ?_) _ _ hJ ls (lv_sub hl [1, 2, 3, 4, 0] rfl)
  · rw [ho] at hf
    have hf : (mr_Z (0 : Int32) σ15) = some (r, σ') := hf
    refine lv_iconst (v := 0) hx hb dX12_sameWord_30 (by decide) ?_
    exact mx_zret hx hb hr hlocks hJ hf dX12_sameWord_31
  · rw [ho] at hf
    have hf : (mr_Z (1 : Int32) σ16) = some (r, σ') := hf
    refine lv_iconst (v := 1) hx hb dX12_sameWord_38 (by decide) ?_
    exact mx_zret hx hb hr hlocks hJ hf dX12_sameWord_39
set_option maxHeartbeats 4000000 in
set_option maxRecDepth 100000 in
theorem c_X12_starts (l : Launch) (G : mx_G) (P : mx_P) (a0 : Nat) (σ : mx_S) (σ' : mx_S) (hf : f_X12_starts P a0 σ = some σ') : mxz σ ≤ mpc P → mxu σ ≤ mps P → mx_M l yX12_starts cX12_starts 1 none 4 96 G P [.ref a0] σ none σ' := by
  intro hcap hcau
  refine mx_ofW (by decide +kernel) hcap hcau (Nat.le_of_ble_eq_true rfl) ?_
  intro p e s m below meth c hx hb hr hml hts hown hlocks hname hK hJ ls hl
  have hz0 := hJ.2.1
  have hown : s.vm.findClass RX12 = some m.cls := hown
  have hl : lv_has ls 1 [(0, .ref a0)] := hl
  unfold f_X12_starts at hf
  refine lv_aload_n hx hb dX12_starts_0 rfl (lv_at hl 0 rfl) ?_
  obtain ⟨i1, e2, hf⟩ := mb0 hf
  obtain ⟨σ3, e4, hf⟩ := mb0 hf
  refine mx_callV (As := []) (rest := []) hx hb hml hts hown hK hJ rfl rfl (ci := 12) rfl e2 (c_X12_takeInput l G P a0 σ σ3 e4) me_X12_takeInput kw_2239 ks_81 kw_2237 (Nat.le_of_ble_eq_true rfl) (Nat.le_of_ble_eq_true rfl) rfl hl.1 rfl (Nat.le_of_ble_eq_true rfl) dX12_starts_1 (fun H locs hJ => ?_)
  refine lv_aload_n hx hb dX12_starts_4 rfl (lv_at hl 0 rfl) ?_
  refine lv_iconst (v := 0) hx hb dX12_starts_5 (by decide) ?_
  obtain ⟨σ5, e6, hf⟩ := mb0 hf
  refine my_pI hx hb hts hown hK hJ fd_RX12_330 cd_12 (Or.inl rfl) ht_12_14 e6 dX12_starts_6 (fun H locs hJ => ?_)
  refine lv_aload_n hx hb dX12_starts_9 rfl (lv_at hl 0 rfl) ?_
  refine lv_iconst (v := 0) hx hb dX12_starts_10 (by decide) ?_
  obtain ⟨σ7, e8, hf⟩ := mb0 hf
  refine my_pI hx hb hts hown hK hJ fd_RX12_275 cd_12 (Or.inl rfl) ht_12_6 e8 dX12_starts_11 (fun H locs hJ => ?_)
  refine lv_aload_n hx hb dX12_starts_14 rfl (lv_at hl 0 rfl) ?_
  obtain ⟨i9, e10, hf⟩ := mb0 hf
  obtain ⟨σ11, e12, hf⟩ := mb0 hf
  refine mx_callV (As := []) (rest := []) hx hb hml hts hown hK hJ rfl rfl (ci := 12) rfl e10 (c_X12_scan l G P a0 σ7 σ11 e12) me_X12_scan kw_2243 ks_82 kw_2241 (Nat.le_of_ble_eq_true rfl) (Nat.le_of_ble_eq_true rfl) rfl hl.1 rfl (Nat.le_of_ble_eq_true rfl) dX12_starts_15 (fun H locs hJ => ?_)
  exact my_vret hx hb hr hlocks hJ hf dX12_starts_18
set_option maxHeartbeats 4000000 in
set_option maxRecDepth 100000 in
theorem c_X12_takes (l : Launch) (G : mx_G) (P : mx_P) (a0 : Nat) (p1 : Int32) (σ : mx_S) (r : Int32) (σ' : mx_S) (hf : f_X12_takes P a0 p1 σ = some (r, σ')) : mxz σ ≤ mpc P → mxu σ ≤ mps P → mx_M l yX12_takes cX12_takes 2 (some .boolean) 1 22 G P [.ref a0, .int p1] σ (some (.int r)) σ' := by
  intro hcap hcau
  refine mx_ofW (by decide +kernel) hcap hcau (Nat.le_of_ble_eq_true rfl) ?_
  intro p e s m below meth c hx hb hr hml hts hown hlocks hname hK hJ ls hl
  have hz0 := hJ.2.1
  have hown : s.vm.findClass RX12 = some m.cls := hown
  have hl : lv_has ls 2 [(0, .ref a0), (1, .int p1)] := hl
  unfold f_X12_takes at hf
  refine lv_aload_n hx hb dX12_takes_0 rfl (lv_at hl 0 rfl) ?_
  obtain ⟨x1, e2, hf⟩ := mb0 hf
  refine my_gI hx hb hts hown hK hJ fd_RX12_266 hv_12_4 e2 dX12_takes_1 ?_
  refine lv_if_le (tgt := 9) hx hb dX12_takes_4 (by decide) (fun c3 => ?_) (fun c3 => ?_)
  · rw [if_pos c3] at hf
    refine lv_aload_n hx hb dX12_takes_9 rfl (lv_at hl 0 rfl) ?_
    obtain ⟨x4, e5, hf⟩ := mb0 hf
    refine my_gI hx hb hts hown hK hJ fd_RX12_340 hv_12_15 e5 dX12_takes_10 ?_
    refine lv_iload_n hx hb dX12_takes_13 rfl (lv_at hl 1 rfl) ?_
    refine lv_icmp_eq (tgt := 28) hx hb dX12_takes_14 (by decide) (fun c6 => ?_) (fun c6 => ?_)
    · rw [if_pos c6] at hf
      refine lv_iconst (v := 1) hx hb dX12_takes_28 (by decide) ?_
      exact mx_zret hx hb hr hlocks hJ hf dX12_takes_29
    · rw [if_neg c6] at hf
      refine lv_aload_n hx hb dX12_takes_17 rfl (lv_at hl 0 rfl) ?_
      refine lv_iconst (v := 1) hx hb dX12_takes_18 (by decide) ?_
      refine lv_aload_n hx hb dX12_takes_19 rfl (lv_at hl 0 rfl) ?_
      obtain ⟨x7, e8, hf⟩ := mb0 hf
      refine my_gI hx hb hts hown hK hJ fd_RX12_337 hv_12_16 e8 dX12_takes_20 ?_
      obtain ⟨i9, e10, hf⟩ := mb0 hf
      obtain ⟨σ11, e12, hf⟩ := mb0 hf
      refine mx_callV (As := [.int (1 : Int32), .int x7]) (rest := []) hx hb hml hts hown hK hJ rfl rfl (ci := 12) rfl e10 (c_X12_wrong l G P a0 (1 : Int32) x7 σ σ11 e12) me_X12_wrong kw_2287 ks_88 kw_2285 (Nat.le_of_ble_eq_true rfl) (Nat.le_of_ble_eq_true rfl) rfl hl.1 rfl (Nat.le_of_ble_eq_true rfl) dX12_takes_23 (fun H locs hJ => ?_)
      refine lv_iconst (v := 0) hx hb dX12_takes_26 (by decide) ?_
      exact mx_zret hx hb hr hlocks hJ hf dX12_takes_27
  · rw [if_neg c3] at hf
    refine lv_iconst (v := 0) hx hb dX12_takes_7 (by decide) ?_
    exact mx_zret hx hb hr hlocks hJ hf dX12_takes_8
set_option maxHeartbeats 4000000 in
set_option maxRecDepth 100000 in
theorem c_X12_wholeNumber (l : Launch) (G : mx_G) (P : mx_P) (a0 : Nat) (p1 : Int64) (p3 : Int64) (σ : mx_S) (σ' : mx_S) (hf : f_X12_wholeNumber P a0 p1 p3 σ = some σ') : mxz σ ≤ mpc P → mxu σ ≤ mps P → mx_M l yX12_wholeNumber cX12_wholeNumber 5 none 1 25 G P [.ref a0, .long p1, .long p3] σ none σ' := by
  intro hcap hcau
  refine mx_ofW (by decide +kernel) hcap hcau (Nat.le_of_ble_eq_true rfl) ?_
  intro p e s m below meth c hx hb hr hml hts hown hlocks hname hK hJ ls hl
  have hz0 := hJ.2.1
  have hown : s.vm.findClass RX12 = some m.cls := hown
  have hl : lv_has ls 5 [(0, .ref a0), (1, .long p1), (3, .long p3)] := hl
  have D30 : ∀  (τ : mx_S), f_X12_wholeNumber_D30 P  τ = some σ' → ∀ (H : Heap) (locs : List Loc), mx_J G P s.heap (mxz σ) (mxu σ) τ H locs → ∀ ls : Array Slot, lv_has ls 5 [] → W p l e (mx_rm P 1 25 σ) s m ([.ref a0, .long p1, .long p3] : List Value).toArray below meth c H locs (mxz τ - mxz σ) (mxu τ - mxu σ) (mx_Z below G P none σ σ' [.ref a0, .long p1, .long p3] s) (F0 m 30 ls []) := by
    intro  τ hf _ _ hJ ls hl
    unfold f_X12_wholeNumber_D30 at hf
    exact my_vret hx hb hr hlocks hJ hf dX12_wholeNumber_30
  have D21 : ∀ (v0 : Nat) (τ : mx_S), f_X12_wholeNumber_D21 P v0 τ = some σ' → ∀ (H : Heap) (locs : List Loc), mx_J G P s.heap (mxz σ) (mxu σ) τ H locs → ∀ ls : Array Slot, lv_has ls 5 [(0, .ref v0)] → W p l e (mx_rm P 1 25 σ) s m ([.ref a0, .long p1, .long p3] : List Value).toArray below meth c H locs (mxz τ - mxz σ) (mxu τ - mxu σ) (mx_Z below G P none σ σ' [.ref a0, .long p1, .long p3] s) (F0 m 21 ls []) := by
    intro v0 τ hf _ _ hJ ls hl
    unfold f_X12_wholeNumber_D21 at hf
    refine lv_aload_n hx hb dX12_wholeNumber_21 rfl (lv_at hl 0 rfl) ?_
    refine lv_iconst (v := 5) hx hb dX12_wholeNumber_22 (by decide) ?_
    refine lv_aload_n hx hb dX12_wholeNumber_23 rfl (lv_at hl 0 rfl) ?_
    obtain ⟨x4, e5, hf⟩ := mb0 hf
    refine my_gI hx hb hts hown hK hJ fd_RX12_337 hv_12_16 e5 dX12_wholeNumber_24 ?_
    obtain ⟨i6, e7, hf⟩ := mb0 hf
    obtain ⟨σ8, e9, hf⟩ := mb0 hf
    refine mx_callV (As := [.int (5 : Int32), .int x4]) (rest := []) hx hb hml hts hown hK hJ rfl rfl (ci := 12) rfl e7 (c_X12_found l G P v0 (5 : Int32) x4 τ σ8 e9) me_X12_found kw_2299 ks_91 kw_2297 (Nat.le_of_ble_eq_true rfl) (Nat.le_of_ble_eq_true rfl) rfl hl.1 rfl (Nat.le_of_ble_eq_true rfl) dX12_wholeNumber_27 (fun H locs hJ => ?_)
    exact D30  σ8 hf _ _ hJ ls (lv_sub hl [] rfl)
  unfold f_X12_wholeNumber at hf
  refine lv_aload_n hx hb dX12_wholeNumber_0 rfl (lv_at hl 0 rfl) ?_
  obtain ⟨x1, e2, hf⟩ := mb0 hf
  refine my_gL hx hb hts hown hK hJ fd_RX12_356 hv_12_18 e2 dX12_wholeNumber_1 ?_
  refine lv_lconst (v := 1) hx hb dX12_wholeNumber_4 (by decide) ?_
  refine W.lcmp hx hb dX12_wholeNumber_5 ?_
  refine lv_if_ne (tgt := 21) hx hb dX12_wholeNumber_6 (by decide) (fun c3 => ?_) (fun c3 => ?_)
  · rw [if_neg c3] at hf
    exact D21 a0 σ hf _ _ hJ ls (lv_sub hl [0] rfl)
  · rw [if_pos c3] at hf
    refine lv_aload_n hx hb dX12_wholeNumber_9 rfl (lv_at hl 0 rfl) ?_
    obtain ⟨x10, e11, hf⟩ := mb0 hf
    refine my_gL hx hb hts hown hK hJ fd_RX12_353 hv_12_17 e11 dX12_wholeNumber_10 ?_
    refine lv_lload_n hx hb dX12_wholeNumber_13 rfl (lv_at hl 1 rfl) ?_
    refine lv_lload_n hx hb dX12_wholeNumber_14 rfl (lv_at hl 2 rfl) ?_
    obtain ⟨x13, σ12, e14, hf⟩ := mc0 hf
    refine mx_callS (As := [.long x10, .long p1, .long p3]) (rest := []) hx hb hml hts hown hK hJ rfl rfl (c_X12_in l G P x10 p1 p3 σ x13 σ12 e14) me_X12_in kw_2223 kw_2222 (Nat.le_of_ble_eq_true rfl) (Nat.le_of_ble_eq_true rfl) rfl hl.1 rfl (Nat.le_of_ble_eq_true rfl) dX12_wholeNumber_15 (fun H locs hJ => ?_)
    refine lv_if_ne (tgt := 30) hx hb dX12_wholeNumber_18 (by decide) (fun c15 => ?_) (fun c15 => ?_)
    · rw [if_neg c15] at hf
      exact D30  σ12 hf _ _ hJ ls (lv_sub hl [] rfl)
    · rw [if_pos c15] at hf
      exact D21 a0 σ12 hf _ _ hJ ls (lv_sub hl [0] rfl)
set_option maxHeartbeats 4000000 in
set_option maxRecDepth 100000 in
theorem c_X12_ends (l : Launch) (G : mx_G) (P : mx_P) (a0 : Nat) (σ : mx_S) (σ' : mx_S) (hf : f_X12_ends P a0 σ = some σ') : mxz σ ≤ mpc P → mxu σ ≤ mps P → mx_M l yX12_ends cX12_ends 1 none 4 96 G P [.ref a0] σ none σ' := by
  intro hcap hcau
  refine mx_ofW (by decide +kernel) hcap hcau (Nat.le_of_ble_eq_true rfl) ?_
  intro p e s m below meth c hx hb hr hml hts hown hlocks hname hK hJ ls hl
  have hz0 := hJ.2.1
  have hown : s.vm.findClass RX12 = some m.cls := hown
  have hl : lv_has ls 1 [(0, .ref a0)] := hl
  have D13 : ∀  (τ : mx_S), f_X12_ends_D13 P  τ = some σ' → ∀ (H : Heap) (locs : List Loc), mx_J G P s.heap (mxz σ) (mxu σ) τ H locs → ∀ ls : Array Slot, lv_has ls 1 [] → W p l e (mx_rm P 4 96 σ) s m ([.ref a0] : List Value).toArray below meth c H locs (mxz τ - mxz σ) (mxu τ - mxu σ) (mx_Z below G P none σ σ' [.ref a0] s) (F0 m 13 ls []) := by
    intro  τ hf _ _ hJ ls hl
    unfold f_X12_ends_D13 at hf
    exact my_vret hx hb hr hlocks hJ hf dX12_ends_13
  unfold f_X12_ends at hf
  refine lv_aload_n hx hb dX12_ends_0 rfl (lv_at hl 0 rfl) ?_
  refine lv_bipush (v := 59) hx hb dX12_ends_1 (by decide) ?_
  obtain ⟨i1, e2, hf⟩ := mb0 hf
  obtain ⟨x4, σ3, e5, hf⟩ := mc0 hf
  refine mx_callV (As := [.int (59 : Int32)]) (rest := []) hx hb hml hts hown hK hJ rfl rfl (ci := 12) rfl e2 (c_X12_takes l G P a0 (59 : Int32) σ x4 σ3 e5) me_X12_takes kw_2291 ks_89 kw_2289 (Nat.le_of_ble_eq_true rfl) (Nat.le_of_ble_eq_true rfl) rfl hl.1 rfl (Nat.le_of_ble_eq_true rfl) dX12_ends_3 (fun H locs hJ => ?_)
  refine lv_if_eq (tgt := 13) hx hb dX12_ends_6 (by decide) (fun c6 => ?_) (fun c6 => ?_)
  · rw [if_pos c6] at hf
    exact D13  σ3 hf _ _ hJ ls (lv_sub hl [] rfl)
  · rw [if_neg c6] at hf
    refine lv_aload_n hx hb dX12_ends_9 rfl (lv_at hl 0 rfl) ?_
    obtain ⟨i7, e8, hf⟩ := mb0 hf
    obtain ⟨σ9, e10, hf⟩ := mb0 hf
    refine mx_callV (As := []) (rest := []) hx hb hml hts hown hK hJ rfl rfl (ci := 12) rfl e8 (c_X12_scan l G P a0 σ3 σ9 e10) me_X12_scan kw_2243 ks_82 kw_2241 (Nat.le_of_ble_eq_true rfl) (Nat.le_of_ble_eq_true rfl) rfl hl.1 rfl (Nat.le_of_ble_eq_true rfl) dX12_ends_10 (fun H locs hJ => ?_)
    exact D13  σ9 hf _ _ hJ ls (lv_sub hl [] rfl)
set_option maxHeartbeats 4000000 in
set_option maxRecDepth 100000 in
theorem c_X12_tossFault (l : Launch) (G : mx_G) (P : mx_P) (a0 : Nat) (σ : mx_S) (σ' : mx_S) (hf : f_X12_tossFault P a0 σ = some σ') : mxz σ ≤ mpc P → mxu σ ≤ mps P → mx_M l yX12_tossFault cX12_tossFault 1 none 1 22 G P [.ref a0] σ none σ' := by
  intro hcap hcau
  refine mx_ofW (by decide +kernel) hcap hcau (Nat.le_of_ble_eq_true rfl) ?_
  intro p e s m below meth c hx hb hr hml hts hown hlocks hname hK hJ ls hl
  have hz0 := hJ.2.1
  have hown : s.vm.findClass RX12 = some m.cls := hown
  have hl : lv_has ls 1 [(0, .ref a0)] := hl
  have D39 : ∀ (w0 : Int32) (w1 : Nat) (τ : mx_S), f_X12_tossFault_D39 P w0 w1 τ = some σ' → ∀ (H : Heap) (locs : List Loc), mx_J G P s.heap (mxz σ) (mxu σ) τ H locs → ∀ ls : Array Slot, lv_has ls 1 [] → W p l e (mx_rm P 1 22 σ) s m ([.ref a0] : List Value).toArray below meth c H locs (mxz τ - mxz σ) (mxu τ - mxu σ) (mx_Z below G P none σ σ' [.ref a0] s) (F0 m 39 ls [.int w0, .ref w1]) := by
    intro w0 w1 τ hf _ _ hJ ls hl
    unfold f_X12_tossFault_D39 at hf
    obtain ⟨σ7, e8, hf⟩ := mb0 hf
    refine my_pI hx hb hts hown hK hJ fd_RX12_243 cd_12 (Or.inl rfl) ht_12_0 e8 dX12_tossFault_39 (fun H locs hJ => ?_)
    exact my_vret hx hb hr hlocks hJ hf dX12_tossFault_42
  have D26 : ∀ (v0 : Nat) (τ : mx_S), f_X12_tossFault_D26 P v0 τ = some σ' → ∀ (H : Heap) (locs : List Loc), mx_J G P s.heap (mxz σ) (mxu σ) τ H locs → ∀ ls : Array Slot, lv_has ls 1 [(0, .ref v0)] → W p l e (mx_rm P 1 22 σ) s m ([.ref a0] : List Value).toArray below meth c H locs (mxz τ - mxz σ) (mxu τ - mxu σ) (mx_Z below G P none σ σ' [.ref a0] s) (F0 m 26 ls []) := by
    intro v0 τ hf _ _ hJ ls hl
    unfold f_X12_tossFault_D26 at hf
    refine lv_aload_n hx hb dX12_tossFault_26 rfl (lv_at hl 0 rfl) ?_
    refine lv_aload_n hx hb dX12_tossFault_27 rfl (lv_at hl 0 rfl) ?_
    obtain ⟨x4, e5, hf⟩ := mb0 hf
    refine my_gI hx hb hts hown hK hJ fd_RX12_266 hv_12_4 e5 dX12_tossFault_28 ?_
    refine lv_if_le (tgt := 38) hx hb dX12_tossFault_31 (by decide) (fun c6 => ?_) (fun c6 => ?_)
    · rw [if_pos c6] at hf
      refine lv_iconst (v := 0) hx hb dX12_tossFault_38 (by decide) ?_
      exact D39 (0 : Int32) v0 τ hf _ _ hJ ls (lv_sub hl [] rfl)
    · rw [if_neg c6] at hf
      refine lv_iconst (v := 1) hx hb dX12_tossFault_34 (by decide) ?_
      refine lv_goto (tgt := 39) hx hb dX12_tossFault_35 (by decide) ?_
      exact D39 (1 : Int32) v0 τ hf _ _ hJ ls (lv_sub hl [] rfl)
  unfold f_X12_tossFault at hf
  refine lv_aload_n hx hb dX12_tossFault_0 rfl (lv_at hl 0 rfl) ?_
  obtain ⟨x1, e2, hf⟩ := mb0 hf
  refine my_gI hx hb hts hown hK hJ fd_RX12_266 hv_12_4 e2 dX12_tossFault_1 ?_
  refine lv_if_ne (tgt := 26) hx hb dX12_tossFault_4 (by decide) (fun c3 => ?_) (fun c3 => ?_)
  · rw [if_neg c3] at hf
    exact D26 a0 σ hf _ _ hJ ls (lv_sub hl [0] rfl)
  · rw [if_pos c3] at hf
    refine lv_aload_n hx hb dX12_tossFault_7 rfl (lv_at hl 0 rfl) ?_
    obtain ⟨x9, e10, hf⟩ := mb0 hf
    refine my_gI hx hb hts hown hK hJ fd_RX12_275 hv_12_6 e10 dX12_tossFault_8 ?_
    refine lv_if_le (tgt := 26) hx hb dX12_tossFault_11 (by decide) (fun c11 => ?_) (fun c11 => ?_)
    · rw [if_pos c11] at hf
      exact D26 a0 σ hf _ _ hJ ls (lv_sub hl [0] rfl)
    · rw [if_neg c11] at hf
      refine lv_aload_n hx hb dX12_tossFault_14 rfl (lv_at hl 0 rfl) ?_
      refine lv_aload_n hx hb dX12_tossFault_15 rfl (lv_at hl 0 rfl) ?_
      obtain ⟨x12, e13, hf⟩ := mb0 hf
      refine my_gI hx hb hts hown hK hJ fd_RX12_275 hv_12_6 e13 dX12_tossFault_16 ?_
      refine lv_aload_n hx hb dX12_tossFault_19 rfl (lv_at hl 0 rfl) ?_
      obtain ⟨x14, e15, hf⟩ := mb0 hf
      refine my_gI hx hb hts hown hK hJ fd_RX12_278 hv_12_7 e15 dX12_tossFault_20 ?_
      obtain ⟨i16, e17, hf⟩ := mb0 hf
      obtain ⟨σ18, e19, hf⟩ := mb0 hf
      refine mx_callV (As := [.int x12, .int x14]) (rest := []) hx hb hml hts hown hK hJ rfl rfl (ci := 12) rfl e17 (c_X12_wrong l G P a0 x12 x14 σ σ18 e19) me_X12_wrong kw_2287 ks_88 kw_2285 (Nat.le_of_ble_eq_true rfl) (Nat.le_of_ble_eq_true rfl) rfl hl.1 rfl (Nat.le_of_ble_eq_true rfl) dX12_tossFault_23 (fun H locs hJ => ?_)
      exact D26 a0 σ18 hf _ _ hJ ls (lv_sub hl [0] rfl)
set_option maxHeartbeats 4000000 in
set_option maxRecDepth 100000 in
theorem c_X12_kindOf (l : Launch) (G : mx_G) (P : mx_P) (a0 : Nat) (σ : mx_S) (r : Int32) (σ' : mx_S) (hf : f_X12_kindOf P a0 σ = some (r, σ')) : mxz σ ≤ mpc P → mxu σ ≤ mps P → mx_M l yX12_kindOf cX12_kindOf 1 (some .int) 5 108 G P [.ref a0] σ (some (.int r)) σ' := by
  intro hcap hcau
  refine mx_ofW (by decide +kernel) hcap hcau (Nat.le_of_ble_eq_true rfl) ?_
  intro p e s m below meth c hx hb hr hml hts hown hlocks hname hK hJ ls hl
  have hz0 := hJ.2.1
  have hown : s.vm.findClass RX12 = some m.cls := hown
  have hl : lv_has ls 1 [(0, .ref a0)] := hl
  have D75 : ∀ (w0 : Int32) (τ : mx_S), f_X12_kindOf_D75 P w0 τ = some (r, σ') → ∀ (H : Heap) (locs : List Loc), mx_J G P s.heap (mxz σ) (mxu σ) τ H locs → ∀ ls : Array Slot, lv_has ls 1 [] → W p l e (mx_rm P 5 108 σ) s m ([.ref a0] : List Value).toArray below meth c H locs (mxz τ - mxz σ) (mxu τ - mxu σ) (mx_Z below G P (some (.int r)) σ σ' [.ref a0] s) (F0 m 75 ls [.int w0]) := by
    intro w0 τ hf _ _ hJ ls hl
    unfold f_X12_kindOf_D75 at hf
    exact my_iret hx hb hr hlocks hJ hf dX12_kindOf_75
  unfold f_X12_kindOf at hf
  refine lv_aload_n hx hb dX12_kindOf_0 rfl (lv_at hl 0 rfl) ?_
  refine mx_ldcw hx hb hown (show vk_R RX12 384 "fix" (mgK G 3) s from mxe_str hK 3 (by decide)) dX12_kindOf_1 ?_
  obtain ⟨i1, e2, hf⟩ := mb0 hf
  obtain ⟨x4, σ3, e5, hf⟩ := mc0 hf
  refine mx_callV (As := [.ref (mgK G 3)]) (rest := []) hx hb hml hts hown hK hJ rfl rfl (ci := 12) rfl e2 (c_X12_isWord l G P a0 3 σ x4 σ3 e5) me_X12_isWord kw_2276 ks_87 kw_2274 (Nat.le_of_ble_eq_true rfl) (Nat.le_of_ble_eq_true rfl) rfl hl.1 rfl (Nat.le_of_ble_eq_true rfl) dX12_kindOf_4 (fun H locs hJ => ?_)
  refine lv_if_eq (tgt := 12) hx hb dX12_kindOf_7 (by decide) (fun c6 => ?_) (fun c6 => ?_)
  · rw [if_pos c6] at hf
    refine lv_aload_n hx hb dX12_kindOf_12 rfl (lv_at hl 0 rfl) ?_
    refine mx_ldcw hx hb hown (show vk_R RX12 390 "crank" (mgK G 4) s from mxe_str hK 4 (by decide)) dX12_kindOf_13 ?_
    obtain ⟨i7, e8, hf⟩ := mb0 hf
    obtain ⟨x10, σ9, e11, hf⟩ := mc0 hf
    refine mx_callV (As := [.ref (mgK G 4)]) (rest := []) hx hb hml hts hown hK hJ rfl rfl (ci := 12) rfl e8 (c_X12_isWord l G P a0 4 σ3 x10 σ9 e11) me_X12_isWord kw_2276 ks_87 kw_2274 (Nat.le_of_ble_eq_true rfl) (Nat.le_of_ble_eq_true rfl) rfl hl.1 rfl (Nat.le_of_ble_eq_true rfl) dX12_kindOf_16 (fun H locs hJ => ?_)
    refine lv_if_eq (tgt := 24) hx hb dX12_kindOf_19 (by decide) (fun c12 => ?_) (fun c12 => ?_)
    · rw [if_pos c12] at hf
      refine lv_aload_n hx hb dX12_kindOf_24 rfl (lv_at hl 0 rfl) ?_
      refine mx_ldcw hx hb hown (show vk_R RX12 392 "dyad" (mgK G 5) s from mxe_str hK 5 (by decide)) dX12_kindOf_25 ?_
      obtain ⟨i13, e14, hf⟩ := mb0 hf
      obtain ⟨x16, σ15, e17, hf⟩ := mc0 hf
      refine mx_callV (As := [.ref (mgK G 5)]) (rest := []) hx hb hml hts hown hK hJ rfl rfl (ci := 12) rfl e14 (c_X12_isWord l G P a0 5 σ9 x16 σ15 e17) me_X12_isWord kw_2276 ks_87 kw_2274 (Nat.le_of_ble_eq_true rfl) (Nat.le_of_ble_eq_true rfl) rfl hl.1 rfl (Nat.le_of_ble_eq_true rfl) dX12_kindOf_28 (fun H locs hJ => ?_)
      refine lv_if_eq (tgt := 36) hx hb dX12_kindOf_31 (by decide) (fun c18 => ?_) (fun c18 => ?_)
      · rw [if_pos c18] at hf
        refine lv_aload_n hx hb dX12_kindOf_36 rfl (lv_at hl 0 rfl) ?_
        refine mx_ldcw hx hb hown (show vk_R RX12 394 "slide" (mgK G 6) s from mxe_str hK 6 (by decide)) dX12_kindOf_37 ?_
        obtain ⟨i19, e20, hf⟩ := mb0 hf
        obtain ⟨x22, σ21, e23, hf⟩ := mc0 hf
        refine mx_callV (As := [.ref (mgK G 6)]) (rest := []) hx hb hml hts hown hK hJ rfl rfl (ci := 12) rfl e20 (c_X12_isWord l G P a0 6 σ15 x22 σ21 e23) me_X12_isWord kw_2276 ks_87 kw_2274 (Nat.le_of_ble_eq_true rfl) (Nat.le_of_ble_eq_true rfl) rfl hl.1 rfl (Nat.le_of_ble_eq_true rfl) dX12_kindOf_40 (fun H locs hJ => ?_)
        refine lv_if_eq (tgt := 48) hx hb dX12_kindOf_43 (by decide) (fun c24 => ?_) (fun c24 => ?_)
        · rw [if_pos c24] at hf
          refine lv_aload_n hx hb dX12_kindOf_48 rfl (lv_at hl 0 rfl) ?_
          refine mx_ldcw hx hb hown (show vk_R RX12 396 "body" (mgK G 7) s from mxe_str hK 7 (by decide)) dX12_kindOf_49 ?_
          obtain ⟨i25, e26, hf⟩ := mb0 hf
          obtain ⟨x28, σ27, e29, hf⟩ := mc0 hf
          refine mx_callV (As := [.ref (mgK G 7)]) (rest := []) hx hb hml hts hown hK hJ rfl rfl (ci := 12) rfl e26 (c_X12_isWord l G P a0 7 σ21 x28 σ27 e29) me_X12_isWord kw_2276 ks_87 kw_2274 (Nat.le_of_ble_eq_true rfl) (Nat.le_of_ble_eq_true rfl) rfl hl.1 rfl (Nat.le_of_ble_eq_true rfl) dX12_kindOf_52 (fun H locs hJ => ?_)
          refine lv_if_eq (tgt := 60) hx hb dX12_kindOf_55 (by decide) (fun c30 => ?_) (fun c30 => ?_)
          · rw [if_pos c30] at hf
            refine lv_aload_n hx hb dX12_kindOf_60 rfl (lv_at hl 0 rfl) ?_
            refine mx_ldcw hx hb hown (show vk_R RX12 398 "cross" (mgK G 8) s from mxe_str hK 8 (by decide)) dX12_kindOf_61 ?_
            obtain ⟨i31, e32, hf⟩ := mb0 hf
            obtain ⟨x34, σ33, e35, hf⟩ := mc0 hf
            refine mx_callV (As := [.ref (mgK G 8)]) (rest := []) hx hb hml hts hown hK hJ rfl rfl (ci := 12) rfl e32 (c_X12_isWord l G P a0 8 σ27 x34 σ33 e35) me_X12_isWord kw_2276 ks_87 kw_2274 (Nat.le_of_ble_eq_true rfl) (Nat.le_of_ble_eq_true rfl) rfl hl.1 rfl (Nat.le_of_ble_eq_true rfl) dX12_kindOf_64 (fun H locs hJ => ?_)
            refine lv_if_eq (tgt := 74) hx hb dX12_kindOf_67 (by decide) (fun c36 => ?_) (fun c36 => ?_)
            · rw [if_pos c36] at hf
              refine lv_iconst (v := (-1)) hx hb dX12_kindOf_74 (by decide) ?_
              exact D75 (-1 : Int32) σ33 hf _ _ hJ ls (lv_sub hl [] rfl)
            · rw [if_neg c36] at hf
              refine lv_iconst (v := 5) hx hb dX12_kindOf_70 (by decide) ?_
              refine lv_goto (tgt := 75) hx hb dX12_kindOf_71 (by decide) ?_
              exact D75 (5 : Int32) σ33 hf _ _ hJ ls (lv_sub hl [] rfl)
          · rw [if_neg c30] at hf
            refine lv_iconst (v := 4) hx hb dX12_kindOf_58 (by decide) ?_
            exact my_iret hx hb hr hlocks hJ hf dX12_kindOf_59
        · rw [if_neg c24] at hf
          refine lv_iconst (v := 3) hx hb dX12_kindOf_46 (by decide) ?_
          exact my_iret hx hb hr hlocks hJ hf dX12_kindOf_47
      · rw [if_neg c18] at hf
        refine lv_iconst (v := 2) hx hb dX12_kindOf_34 (by decide) ?_
        exact my_iret hx hb hr hlocks hJ hf dX12_kindOf_35
    · rw [if_neg c12] at hf
      refine lv_iconst (v := 1) hx hb dX12_kindOf_22 (by decide) ?_
      exact my_iret hx hb hr hlocks hJ hf dX12_kindOf_23
  · rw [if_neg c6] at hf
    refine lv_iconst (v := 0) hx hb dX12_kindOf_10 (by decide) ?_
    exact my_iret hx hb hr hlocks hJ hf dX12_kindOf_11
set_option maxHeartbeats 4000000 in
set_option maxRecDepth 100000 in
theorem c_X12_nameUsed (l : Launch) (G : mx_G) (P : mx_P) (a0 : Nat) (p1 : Int32) (σ : mx_S) (σ' : mx_S) (hf : f_X12_nameUsed P a0 p1 σ = some σ') : mxz σ ≤ mpc P → mxu σ ≤ mps P → mx_M l yX12_nameUsed cX12_nameUsed 2 none 4 96 G P [.ref a0, .int p1] σ none σ' := by
  intro hcap hcau
  refine mx_ofW (by decide +kernel) hcap hcau (Nat.le_of_ble_eq_true rfl) ?_
  intro p e s m below meth c hx hb hr hml hts hown hlocks hname hK hJ ls hl
  have hz0 := hJ.2.1
  have hown : s.vm.findClass RX12 = some m.cls := hown
  have hl : lv_has ls 2 [(0, .ref a0), (1, .int p1)] := hl
  have D102 : ∀ (v0 : Nat) (τ : mx_S), f_X12_nameUsed_D102 P v0 τ = some σ' → ∀ (H : Heap) (locs : List Loc), mx_J G P s.heap (mxz σ) (mxu σ) τ H locs → ∀ ls : Array Slot, lv_has ls 2 [(0, .ref v0)] → W p l e (mx_rm P 4 96 σ) s m ([.ref a0, .int p1] : List Value).toArray below meth c H locs (mxz τ - mxz σ) (mxu τ - mxu σ) (mx_Z below G P none σ σ' [.ref a0, .int p1] s) (F0 m 102 ls []) := by
    intro v0 τ hf _ _ hJ ls hl
    unfold f_X12_nameUsed_D102 at hf
    refine lv_aload_n hx hb dX12_nameUsed_102 rfl (lv_at hl 0 rfl) ?_
    obtain ⟨i32, e33, hf⟩ := mb0 hf
    obtain ⟨σ34, e35, hf⟩ := mb0 hf
    refine mx_callV (As := []) (rest := []) hx hb hml hts hown hK hJ rfl rfl (ci := 12) rfl e33 (c_X12_scan l G P v0 τ σ34 e35) me_X12_scan kw_2243 ks_82 kw_2241 (Nat.le_of_ble_eq_true rfl) (Nat.le_of_ble_eq_true rfl) rfl hl.1 rfl (Nat.le_of_ble_eq_true rfl) dX12_nameUsed_103 (fun H locs hJ => ?_)
    exact my_vret hx hb hr hlocks hJ hf dX12_nameUsed_106
  unfold f_X12_nameUsed at hf
  refine lv_aload_n hx hb dX12_nameUsed_0 rfl (lv_at hl 0 rfl) ?_
  refine lv_iconst (v := 1) hx hb dX12_nameUsed_1 (by decide) ?_
  obtain ⟨i1, e2, hf⟩ := mb0 hf
  obtain ⟨x4, σ3, e5, hf⟩ := mc0 hf
  refine mx_callV (As := [.int (1 : Int32)]) (rest := []) hx hb hml hts hown hK hJ rfl rfl (ci := 12) rfl e2 (c_X12_takes l G P a0 (1 : Int32) σ x4 σ3 e5) me_X12_takes kw_2291 ks_89 kw_2289 (Nat.le_of_ble_eq_true rfl) (Nat.le_of_ble_eq_true rfl) rfl hl.1 rfl (Nat.le_of_ble_eq_true rfl) dX12_nameUsed_2 (fun H locs hJ => ?_)
  refine lv_if_ne (tgt := 9) hx hb dX12_nameUsed_5 (by decide) (fun c6 => ?_) (fun c6 => ?_)
  · rw [if_neg c6] at hf
    refine lv_aload_n hx hb dX12_nameUsed_9 rfl (lv_at hl 0 rfl) ?_
    obtain ⟨b7, e8, hf⟩ := mb0 hf
    refine my_gR hx hb hts hown hK hJ fd_RX12_108 hv_12_51 e8 dX12_nameUsed_10 ?_
    refine lv_aload_n hx hb dX12_nameUsed_13 rfl (lv_at hl 0 rfl) ?_
    obtain ⟨x9, e10, hf⟩ := mb0 hf
    refine my_gI hx hb hts hown hK hJ fd_RX12_400 hv_12_50 e10 dX12_nameUsed_14 ?_
    refine lv_aload_n hx hb dX12_nameUsed_17 rfl (lv_at hl 0 rfl) ?_
    obtain ⟨x11, e12, hf⟩ := mb0 hf
    refine my_gI hx hb hts hown hK hJ fd_RX12_337 hv_12_16 e12 dX12_nameUsed_18 ?_
    obtain ⟨σ13, e14, hf⟩ := mb0 hf
    refine mx_sI hx hb hK hJ e14 dX12_nameUsed_21 (fun H locs hJ => ?_)
    refine lv_aload_n hx hb dX12_nameUsed_22 rfl (lv_at hl 0 rfl) ?_
    obtain ⟨b15, e16, hf⟩ := mb0 hf
    refine my_gR hx hb hts hown hK hJ fd_RX12_111 hv_12_52 e16 dX12_nameUsed_23 ?_
    refine lv_aload_n hx hb dX12_nameUsed_26 rfl (lv_at hl 0 rfl) ?_
    obtain ⟨x17, e18, hf⟩ := mb0 hf
    refine my_gI hx hb hts hown hK hJ fd_RX12_400 hv_12_50 e18 dX12_nameUsed_27 ?_
    refine lv_aload_n hx hb dX12_nameUsed_30 rfl (lv_at hl 0 rfl) ?_
    obtain ⟨x19, e20, hf⟩ := mb0 hf
    refine my_gI hx hb hts hown hK hJ fd_RX12_330 hv_12_14 e20 dX12_nameUsed_31 ?_
    refine lv_aload_n hx hb dX12_nameUsed_34 rfl (lv_at hl 0 rfl) ?_
    obtain ⟨x21, e22, hf⟩ := mb0 hf
    refine my_gI hx hb hts hown hK hJ fd_RX12_337 hv_12_16 e22 dX12_nameUsed_35 ?_
    refine lv_isub hx hb dX12_nameUsed_38 ?_
    obtain ⟨σ23, e24, hf⟩ := mb0 hf
    refine mx_sI hx hb hK hJ e24 dX12_nameUsed_39 (fun H locs hJ => ?_)
    refine lv_aload_n hx hb dX12_nameUsed_40 rfl (lv_at hl 0 rfl) ?_
    refine lv_dup hx hb dX12_nameUsed_41 rfl ?_
    obtain ⟨x25, e26, hf⟩ := mb0 hf
    refine my_gI hx hb hts hown hK hJ fd_RX12_400 hv_12_50 e26 dX12_nameUsed_42 ?_
    refine lv_iconst (v := 1) hx hb dX12_nameUsed_45 (by decide) ?_
    refine lv_iadd hx hb dX12_nameUsed_46 ?_
    obtain ⟨σ27, e28, hf⟩ := mb0 hf
    refine my_pI hx hb hts hown hK hJ fd_RX12_400 cd_12 (Or.inl rfl) ht_12_50 e28 dX12_nameUsed_47 (fun H locs hJ => ?_)
    refine lv_aload_n hx hb dX12_nameUsed_50 rfl (lv_at hl 0 rfl) ?_
    obtain ⟨x29, e30, hf⟩ := mb0 hf
    refine my_gI hx hb hts hown hK hJ fd_RX12_403 hv_12_38 e30 dX12_nameUsed_51 ?_
    refine lv_bipush (v := 40) hx hb dX12_nameUsed_54 (by decide) ?_
    refine lv_icmp_gt (tgt := 102) hx hb dX12_nameUsed_56 (by decide) (fun c31 => ?_) (fun c31 => ?_)
    · rw [if_pos c31] at hf
      exact D102 a0 σ27 hf _ _ hJ ls (lv_sub hl [0] rfl)
    · rw [if_neg c31] at hf
      refine lv_aload_n hx hb dX12_nameUsed_59 rfl (lv_at hl 0 rfl) ?_
      obtain ⟨b36, e37, hf⟩ := mb0 hf
      refine my_gR hx hb hts hown hK hJ fd_RX12_84 hv_12_42 e37 dX12_nameUsed_60 ?_
      refine lv_iconst (v := 4) hx hb dX12_nameUsed_63 (by decide) ?_
      refine lv_aload_n hx hb dX12_nameUsed_64 rfl (lv_at hl 0 rfl) ?_
      obtain ⟨x38, e39, hf⟩ := mb0 hf
      refine my_gI hx hb hts hown hK hJ fd_RX12_403 hv_12_38 e39 dX12_nameUsed_65 ?_
      refine lv_iconst (v := 1) hx hb dX12_nameUsed_68 (by decide) ?_
      refine lv_isub hx hb dX12_nameUsed_69 ?_
      refine lv_imul hx hb dX12_nameUsed_70 ?_
      refine lv_iload_n hx hb dX12_nameUsed_71 rfl (lv_at hl 1 rfl) ?_
      refine lv_iadd hx hb dX12_nameUsed_72 ?_
      refine lv_aload_n hx hb dX12_nameUsed_73 rfl (lv_at hl 0 rfl) ?_
      obtain ⟨x40, e41, hf⟩ := mb0 hf
      refine my_gI hx hb hts hown hK hJ fd_RX12_337 hv_12_16 e41 dX12_nameUsed_74 ?_
      obtain ⟨σ42, e43, hf⟩ := mb0 hf
      refine mx_sI hx hb hK hJ e43 dX12_nameUsed_77 (fun H locs hJ => ?_)
      refine lv_aload_n hx hb dX12_nameUsed_78 rfl (lv_at hl 0 rfl) ?_
      obtain ⟨b44, e45, hf⟩ := mb0 hf
      refine my_gR hx hb hts hown hK hJ fd_RX12_87 hv_12_43 e45 dX12_nameUsed_79 ?_
      refine lv_iconst (v := 4) hx hb dX12_nameUsed_82 (by decide) ?_
      refine lv_aload_n hx hb dX12_nameUsed_83 rfl (lv_at hl 0 rfl) ?_
      obtain ⟨x46, e47, hf⟩ := mb0 hf
      refine my_gI hx hb hts hown hK hJ fd_RX12_403 hv_12_38 e47 dX12_nameUsed_84 ?_
      refine lv_iconst (v := 1) hx hb dX12_nameUsed_87 (by decide) ?_
      refine lv_isub hx hb dX12_nameUsed_88 ?_
      refine lv_imul hx hb dX12_nameUsed_89 ?_
      refine lv_iload_n hx hb dX12_nameUsed_90 rfl (lv_at hl 1 rfl) ?_
      refine lv_iadd hx hb dX12_nameUsed_91 ?_
      refine lv_aload_n hx hb dX12_nameUsed_92 rfl (lv_at hl 0 rfl) ?_
      obtain ⟨x48, e49, hf⟩ := mb0 hf
      refine my_gI hx hb hts hown hK hJ fd_RX12_330 hv_12_14 e49 dX12_nameUsed_93 ?_
      refine lv_aload_n hx hb dX12_nameUsed_96 rfl (lv_at hl 0 rfl) ?_
      obtain ⟨x50, e51, hf⟩ := mb0 hf
      refine my_gI hx hb hts hown hK hJ fd_RX12_337 hv_12_16 e51 dX12_nameUsed_97 ?_
      refine lv_isub hx hb dX12_nameUsed_100 ?_
      obtain ⟨σ52, e53, hf⟩ := mb0 hf
      refine mx_sI hx hb hK hJ e53 dX12_nameUsed_101 (fun H locs hJ => ?_)
      exact D102 a0 σ52 hf _ _ hJ ls (lv_sub hl [0] rfl)
  · rw [if_pos c6] at hf
    exact my_vret hx hb hr hlocks hJ hf dX12_nameUsed_8
set_option maxHeartbeats 4000000 in
set_option maxRecDepth 100000 in
theorem c_X12_numberUsed (l : Launch) (G : mx_G) (P : mx_P) (a0 : Nat) (p1 : Int32) (p2 : Int32) (σ : mx_S) (σ' : mx_S) (hf : f_X12_numberUsed P a0 p1 p2 σ = some σ') : mxz σ ≤ mpc P → mxu σ ≤ mps P → mx_M l yX12_numberUsed cX12_numberUsed 4 none 4 96 G P [.ref a0, .int p1, .int p2] σ none σ' := by
  intro hcap hcau
  refine mx_ofW (by decide +kernel) hcap hcau (Nat.le_of_ble_eq_true rfl) ?_
  intro p e s m below meth c hx hb hr hml hts hown hlocks hname hK hJ ls hl
  have hz0 := hJ.2.1
  have hown : s.vm.findClass RX12 = some m.cls := hown
  have hl : lv_has ls 4 [(0, .ref a0), (1, .int p1), (2, .int p2)] := hl
  have D113 : ∀ (v0 : Nat) (τ : mx_S), f_X12_numberUsed_D113 P v0 τ = some σ' → ∀ (H : Heap) (locs : List Loc), mx_J G P s.heap (mxz σ) (mxu σ) τ H locs → ∀ ls : Array Slot, lv_has ls 4 [(0, .ref v0)] → W p l e (mx_rm P 4 96 σ) s m ([.ref a0, .int p1, .int p2] : List Value).toArray below meth c H locs (mxz τ - mxz σ) (mxu τ - mxu σ) (mx_Z below G P none σ σ' [.ref a0, .int p1, .int p2] s) (F0 m 113 ls []) := by
    intro v0 τ hf _ _ hJ ls hl
    unfold f_X12_numberUsed_D113 at hf
    refine lv_aload_n hx hb dX12_numberUsed_113 rfl (lv_at hl 0 rfl) ?_
    obtain ⟨i19, e20, hf⟩ := mb0 hf
    obtain ⟨σ21, e22, hf⟩ := mb0 hf
    refine mx_callV (As := []) (rest := []) hx hb hml hts hown hK hJ rfl rfl (ci := 12) rfl e20 (c_X12_scan l G P v0 τ σ21 e22) me_X12_scan kw_2243 ks_82 kw_2241 (Nat.le_of_ble_eq_true rfl) (Nat.le_of_ble_eq_true rfl) rfl hl.1 rfl (Nat.le_of_ble_eq_true rfl) dX12_numberUsed_114 (fun H locs hJ => ?_)
    exact my_vret hx hb hr hlocks hJ hf dX12_numberUsed_117
  have D60 : ∀ (v0 : Nat) (v1 : Int32) (τ : mx_S), f_X12_numberUsed_D60 P v0 v1 τ = some σ' → ∀ (H : Heap) (locs : List Loc), mx_J G P s.heap (mxz σ) (mxu σ) τ H locs → ∀ ls : Array Slot, lv_has ls 4 [(0, .ref v0), (1, .int v1)] → W p l e (mx_rm P 4 96 σ) s m ([.ref a0, .int p1, .int p2] : List Value).toArray below meth c H locs (mxz τ - mxz σ) (mxu τ - mxu σ) (mx_Z below G P none σ σ' [.ref a0, .int p1, .int p2] s) (F0 m 60 ls []) := by
    intro v0 v1 τ hf _ _ hJ ls hl
    unfold f_X12_numberUsed_D60 at hf
    refine lv_aload_n hx hb dX12_numberUsed_60 rfl (lv_at hl 0 rfl) ?_
    obtain ⟨x16, e17, hf⟩ := mb0 hf
    refine my_gI hx hb hts hown hK hJ fd_RX12_403 hv_12_38 e17 dX12_numberUsed_61 ?_
    refine lv_bipush (v := 40) hx hb dX12_numberUsed_64 (by decide) ?_
    refine lv_icmp_gt (tgt := 113) hx hb dX12_numberUsed_66 (by decide) (fun c18 => ?_) (fun c18 => ?_)
    · rw [if_pos c18] at hf
      exact D113 v0 τ hf _ _ hJ ls (lv_sub hl [0] rfl)
    · rw [if_neg c18] at hf
      refine lv_aload_n hx hb dX12_numberUsed_69 rfl (lv_at hl 0 rfl) ?_
      obtain ⟨b23, e24, hf⟩ := mb0 hf
      refine my_gR hx hb hts hown hK hJ fd_RX12_90 hv_12_44 e24 dX12_numberUsed_70 ?_
      refine lv_iconst (v := 4) hx hb dX12_numberUsed_73 (by decide) ?_
      refine lv_aload_n hx hb dX12_numberUsed_74 rfl (lv_at hl 0 rfl) ?_
      obtain ⟨x25, e26, hf⟩ := mb0 hf
      refine my_gI hx hb hts hown hK hJ fd_RX12_403 hv_12_38 e26 dX12_numberUsed_75 ?_
      refine lv_iconst (v := 1) hx hb dX12_numberUsed_78 (by decide) ?_
      refine lv_isub hx hb dX12_numberUsed_79 ?_
      refine lv_imul hx hb dX12_numberUsed_80 ?_
      refine lv_iconst (v := 2) hx hb dX12_numberUsed_81 (by decide) ?_
      refine lv_iload_n hx hb dX12_numberUsed_82 rfl (lv_at hl 1 rfl) ?_
      refine lv_imul hx hb dX12_numberUsed_83 ?_
      refine lv_iadd hx hb dX12_numberUsed_84 ?_
      refine lv_aload_n hx hb dX12_numberUsed_85 rfl (lv_at hl 0 rfl) ?_
      obtain ⟨x27, e28, hf⟩ := mb0 hf
      refine my_gL hx hb hts hown hK hJ fd_RX12_353 hv_12_17 e28 dX12_numberUsed_86 ?_
      obtain ⟨σ29, e30, hf⟩ := mb0 hf
      refine mx_sL hx hb hK hJ e30 dX12_numberUsed_89 (fun H locs hJ => ?_)
      refine lv_aload_n hx hb dX12_numberUsed_90 rfl (lv_at hl 0 rfl) ?_
      obtain ⟨b31, e32, hf⟩ := mb0 hf
      refine my_gR hx hb hts hown hK hJ fd_RX12_90 hv_12_44 e32 dX12_numberUsed_91 ?_
      refine lv_iconst (v := 4) hx hb dX12_numberUsed_94 (by decide) ?_
      refine lv_aload_n hx hb dX12_numberUsed_95 rfl (lv_at hl 0 rfl) ?_
      obtain ⟨x33, e34, hf⟩ := mb0 hf
      refine my_gI hx hb hts hown hK hJ fd_RX12_403 hv_12_38 e34 dX12_numberUsed_96 ?_
      refine lv_iconst (v := 1) hx hb dX12_numberUsed_99 (by decide) ?_
      refine lv_isub hx hb dX12_numberUsed_100 ?_
      refine lv_imul hx hb dX12_numberUsed_101 ?_
      refine lv_iconst (v := 2) hx hb dX12_numberUsed_102 (by decide) ?_
      refine lv_iload_n hx hb dX12_numberUsed_103 rfl (lv_at hl 1 rfl) ?_
      refine lv_imul hx hb dX12_numberUsed_104 ?_
      refine lv_iadd hx hb dX12_numberUsed_105 ?_
      refine lv_iconst (v := 1) hx hb dX12_numberUsed_106 (by decide) ?_
      refine lv_iadd hx hb dX12_numberUsed_107 ?_
      refine lv_aload_n hx hb dX12_numberUsed_108 rfl (lv_at hl 0 rfl) ?_
      obtain ⟨x35, e36, hf⟩ := mb0 hf
      refine my_gL hx hb hts hown hK hJ fd_RX12_356 hv_12_18 e36 dX12_numberUsed_109 ?_
      obtain ⟨σ37, e38, hf⟩ := mb0 hf
      refine mx_sL hx hb hK hJ e38 dX12_numberUsed_112 (fun H locs hJ => ?_)
      exact D113 v0 σ37 hf _ _ hJ ls (lv_sub hl [0] rfl)
  have D46 : ∀ (v0 : Nat) (v1 : Int32) (w0 : Int32) (τ : mx_S), f_X12_numberUsed_D46 P v0 v1 w0 τ = some σ' → ∀ (H : Heap) (locs : List Loc), mx_J G P s.heap (mxz σ) (mxu σ) τ H locs → ∀ ls : Array Slot, lv_has ls 4 [(0, .ref v0), (1, .int v1)] → W p l e (mx_rm P 4 96 σ) s m ([.ref a0, .int p1, .int p2] : List Value).toArray below meth c H locs (mxz τ - mxz σ) (mxu τ - mxu σ) (mx_Z below G P none σ σ' [.ref a0, .int p1, .int p2] s) (F0 m 46 ls [.int w0]) := by
    intro v0 v1 w0 τ hf _ _ hJ ls hl
    unfold f_X12_numberUsed_D46 at hf
    refine lv_istore_n (lv' := [(3, .int w0), (0, .ref v0), (1, .int v1)]) hx hb dX12_numberUsed_46 rfl hl (by decide) rfl (fun ls hl => ?_)
    refine lv_iload_n hx hb dX12_numberUsed_47 rfl (lv_at hl 0 rfl) ?_
    refine lv_if_ne (tgt := 60) hx hb dX12_numberUsed_48 (by decide) (fun c15 => ?_) (fun c15 => ?_)
    · rw [if_neg c15] at hf
      exact D60 v0 v1 τ hf _ _ hJ ls (lv_sub hl [1, 2] rfl)
    · rw [if_pos c15] at hf
      refine lv_aload_n hx hb dX12_numberUsed_51 rfl (lv_at hl 1 rfl) ?_
      refine lv_iconst (v := 5) hx hb dX12_numberUsed_52 (by decide) ?_
      refine lv_aload_n hx hb dX12_numberUsed_53 rfl (lv_at hl 1 rfl) ?_
      obtain ⟨x39, e40, hf⟩ := mb0 hf
      refine my_gI hx hb hts hown hK hJ fd_RX12_337 hv_12_16 e40 dX12_numberUsed_54 ?_
      obtain ⟨i41, e42, hf⟩ := mb0 hf
      obtain ⟨σ43, e44, hf⟩ := mb0 hf
      refine mx_callV (As := [.int (5 : Int32), .int x39]) (rest := []) hx hb hml hts hown hK hJ rfl rfl (ci := 12) rfl e42 (c_X12_found l G P v0 (5 : Int32) x39 τ σ43 e44) me_X12_found kw_2299 ks_91 kw_2297 (Nat.le_of_ble_eq_true rfl) (Nat.le_of_ble_eq_true rfl) rfl hl.1 rfl (Nat.le_of_ble_eq_true rfl) dX12_numberUsed_57 (fun H locs hJ => ?_)
      exact D60 v0 v1 σ43 hf _ _ hJ ls (lv_sub hl [1, 2] rfl)
  have D45 : ∀ (v0 : Nat) (v1 : Int32) (τ : mx_S), f_X12_numberUsed_D45 P v0 v1 τ = some σ' → ∀ (H : Heap) (locs : List Loc), mx_J G P s.heap (mxz σ) (mxu σ) τ H locs → ∀ ls : Array Slot, lv_has ls 4 [(0, .ref v0), (1, .int v1)] → W p l e (mx_rm P 4 96 σ) s m ([.ref a0, .int p1, .int p2] : List Value).toArray below meth c H locs (mxz τ - mxz σ) (mxu τ - mxu σ) (mx_Z below G P none σ σ' [.ref a0, .int p1, .int p2] s) (F0 m 45 ls []) := by
    intro v0 v1 τ hf _ _ hJ ls hl
    unfold f_X12_numberUsed_D45 at hf
    refine lv_iconst (v := 0) hx hb dX12_numberUsed_45 (by decide) ?_
    exact D46 v0 v1 (0 : Int32) τ hf _ _ hJ ls (lv_sub hl [0, 1] rfl)
  have D41 : ∀ (v0 : Nat) (v1 : Int32) (τ : mx_S), f_X12_numberUsed_D41 P v0 v1 τ = some σ' → ∀ (H : Heap) (locs : List Loc), mx_J G P s.heap (mxz σ) (mxu σ) τ H locs → ∀ ls : Array Slot, lv_has ls 4 [(0, .ref v0), (1, .int v1)] → W p l e (mx_rm P 4 96 σ) s m ([.ref a0, .int p1, .int p2] : List Value).toArray below meth c H locs (mxz τ - mxz σ) (mxu τ - mxu σ) (mx_Z below G P none σ σ' [.ref a0, .int p1, .int p2] s) (F0 m 41 ls []) := by
    intro v0 v1 τ hf _ _ hJ ls hl
    unfold f_X12_numberUsed_D41 at hf
    refine lv_iconst (v := 1) hx hb dX12_numberUsed_41 (by decide) ?_
    refine lv_goto (tgt := 46) hx hb dX12_numberUsed_42 (by decide) ?_
    exact D46 v0 v1 (1 : Int32) τ hf _ _ hJ ls (lv_sub hl [0, 1] rfl)
  unfold f_X12_numberUsed at hf
  refine lv_aload_n hx hb dX12_numberUsed_0 rfl (lv_at hl 0 rfl) ?_
  refine lv_iconst (v := 2) hx hb dX12_numberUsed_1 (by decide) ?_
  obtain ⟨i1, e2, hf⟩ := mb0 hf
  obtain ⟨x4, σ3, e5, hf⟩ := mc0 hf
  refine mx_callV (As := [.int (2 : Int32)]) (rest := []) hx hb hml hts hown hK hJ rfl rfl (ci := 12) rfl e2 (c_X12_takes l G P a0 (2 : Int32) σ x4 σ3 e5) me_X12_takes kw_2291 ks_89 kw_2289 (Nat.le_of_ble_eq_true rfl) (Nat.le_of_ble_eq_true rfl) rfl hl.1 rfl (Nat.le_of_ble_eq_true rfl) dX12_numberUsed_2 (fun H locs hJ => ?_)
  refine lv_if_ne (tgt := 9) hx hb dX12_numberUsed_5 (by decide) (fun c6 => ?_) (fun c6 => ?_)
  · rw [if_neg c6] at hf
    refine lv_aload_n hx hb dX12_numberUsed_9 rfl (lv_at hl 0 rfl) ?_
    obtain ⟨x7, e8, hf⟩ := mb0 hf
    refine my_gL hx hb hts hown hK hJ fd_RX12_353 hv_12_17 e8 dX12_numberUsed_10 ?_
    obtain ⟨x10, σ9, e11, hf⟩ := mc0 hf
    refine mx_callS (As := [.long x7]) (rest := []) hx hb hml hts hown hK hJ rfl rfl (c_X12_size l G P x7 σ3 x10 σ9 e11) me_X12_size kw_2263 kw_2262 (Nat.le_of_ble_eq_true rfl) (Nat.le_of_ble_eq_true rfl) rfl hl.1 rfl (Nat.le_of_ble_eq_true rfl) dX12_numberUsed_13 (fun H locs hJ => ?_)
    refine lv_ldc2 hx hb hown (hts _ kw_2313) dX12_numberUsed_16 ?_
    refine lv_aload_n hx hb dX12_numberUsed_19 rfl (lv_at hl 0 rfl) ?_
    obtain ⟨x12, e13, hf⟩ := mb0 hf
    refine my_gL hx hb hts hown hK hJ fd_RX12_356 hv_12_18 e13 dX12_numberUsed_20 ?_
    refine lv_lmul hx hb dX12_numberUsed_23 ?_
    refine W.lcmp hx hb dX12_numberUsed_24 ?_
    refine lv_if_gt (tgt := 45) hx hb dX12_numberUsed_25 (by decide) (fun c14 => ?_) (fun c14 => ?_)
    · rw [if_pos c14] at hf
      exact D45 a0 p1 σ9 hf _ _ hJ ls (lv_sub hl [0, 1] rfl)
    · rw [if_neg c14] at hf
      refine lv_iload_n hx hb dX12_numberUsed_28 rfl (lv_at hl 2 rfl) ?_
      refine lv_if_eq (tgt := 41) hx hb dX12_numberUsed_29 (by decide) (fun c45 => ?_) (fun c45 => ?_)
      · rw [if_pos c45] at hf
        exact D41 a0 p1 σ9 hf _ _ hJ ls (lv_sub hl [0, 1] rfl)
      · rw [if_neg c45] at hf
        refine lv_aload_n hx hb dX12_numberUsed_32 rfl (lv_at hl 0 rfl) ?_
        obtain ⟨x46, e47, hf⟩ := mb0 hf
        refine my_gL hx hb hts hown hK hJ fd_RX12_353 hv_12_17 e47 dX12_numberUsed_33 ?_
        refine lv_lconst (v := 0) hx hb dX12_numberUsed_36 (by decide) ?_
        refine W.lcmp hx hb dX12_numberUsed_37 ?_
        refine lv_if_le (tgt := 45) hx hb dX12_numberUsed_38 (by decide) (fun c48 => ?_) (fun c48 => ?_)
        · rw [if_pos c48] at hf
          exact D45 a0 p1 σ9 hf _ _ hJ ls (lv_sub hl [0, 1] rfl)
        · rw [if_neg c48] at hf
          exact D41 a0 p1 σ9 hf _ _ hJ ls (lv_sub hl [0, 1] rfl)
  · rw [if_pos c6] at hf
    exact my_vret hx hb hr hlocks hJ hf dX12_numberUsed_8
set_option maxHeartbeats 4000000 in
set_option maxRecDepth 100000 in
theorem c_X12_wholeUsed (l : Launch) (G : mx_G) (P : mx_P) (a0 : Nat) (p1 : Int32) (p2 : Int32) (p3 : Int32) (σ : mx_S) (σ' : mx_S) (hf : f_X12_wholeUsed P a0 p1 p2 p3 σ = some σ') : mxz σ ≤ mpc P → mxu σ ≤ mps P → mx_M l yX12_wholeUsed cX12_wholeUsed 4 none 4 96 G P [.ref a0, .int p1, .int p2, .int p3] σ none σ' := by
  intro hcap hcau
  refine mx_ofW (by decide +kernel) hcap hcau (Nat.le_of_ble_eq_true rfl) ?_
  intro p e s m below meth c hx hb hr hml hts hown hlocks hname hK hJ ls hl
  have hz0 := hJ.2.1
  have hown : s.vm.findClass RX12 = some m.cls := hown
  have hl : lv_has ls 4 [(0, .ref a0), (1, .int p1), (2, .int p2), (3, .int p3)] := hl
  have D46 : ∀ (v0 : Nat) (τ : mx_S), f_X12_wholeUsed_D46 P v0 τ = some σ' → ∀ (H : Heap) (locs : List Loc), mx_J G P s.heap (mxz σ) (mxu σ) τ H locs → ∀ ls : Array Slot, lv_has ls 4 [(0, .ref v0)] → W p l e (mx_rm P 4 96 σ) s m ([.ref a0, .int p1, .int p2, .int p3] : List Value).toArray below meth c H locs (mxz τ - mxz σ) (mxu τ - mxu σ) (mx_Z below G P none σ σ' [.ref a0, .int p1, .int p2, .int p3] s) (F0 m 46 ls []) := by
    intro v0 τ hf _ _ hJ ls hl
    unfold f_X12_wholeUsed_D46 at hf
    refine lv_aload_n hx hb dX12_wholeUsed_46 rfl (lv_at hl 0 rfl) ?_
    obtain ⟨i14, e15, hf⟩ := mb0 hf
    obtain ⟨σ16, e17, hf⟩ := mb0 hf
    refine mx_callV (As := []) (rest := []) hx hb hml hts hown hK hJ rfl rfl (ci := 12) rfl e15 (c_X12_scan l G P v0 τ σ16 e17) me_X12_scan kw_2243 ks_82 kw_2241 (Nat.le_of_ble_eq_true rfl) (Nat.le_of_ble_eq_true rfl) rfl hl.1 rfl (Nat.le_of_ble_eq_true rfl) dX12_wholeUsed_47 (fun H locs hJ => ?_)
    exact my_vret hx hb hr hlocks hJ hf dX12_wholeUsed_50
  unfold f_X12_wholeUsed at hf
  refine lv_aload_n hx hb dX12_wholeUsed_0 rfl (lv_at hl 0 rfl) ?_
  refine lv_iconst (v := 2) hx hb dX12_wholeUsed_1 (by decide) ?_
  obtain ⟨i1, e2, hf⟩ := mb0 hf
  obtain ⟨x4, σ3, e5, hf⟩ := mc0 hf
  refine mx_callV (As := [.int (2 : Int32)]) (rest := []) hx hb hml hts hown hK hJ rfl rfl (ci := 12) rfl e2 (c_X12_takes l G P a0 (2 : Int32) σ x4 σ3 e5) me_X12_takes kw_2291 ks_89 kw_2289 (Nat.le_of_ble_eq_true rfl) (Nat.le_of_ble_eq_true rfl) rfl hl.1 rfl (Nat.le_of_ble_eq_true rfl) dX12_wholeUsed_2 (fun H locs hJ => ?_)
  refine lv_if_ne (tgt := 9) hx hb dX12_wholeUsed_5 (by decide) (fun c6 => ?_) (fun c6 => ?_)
  · rw [if_neg c6] at hf
    refine lv_aload_n hx hb dX12_wholeUsed_9 rfl (lv_at hl 0 rfl) ?_
    refine lv_iload_n hx hb dX12_wholeUsed_10 rfl (lv_at hl 2 rfl) ?_
    refine lv_i2l hx hb dX12_wholeUsed_11 rfl ?_
    refine lv_iload_n hx hb dX12_wholeUsed_12 rfl (lv_at hl 3 rfl) ?_
    refine lv_i2l hx hb dX12_wholeUsed_13 rfl ?_
    obtain ⟨i7, e8, hf⟩ := mb0 hf
    obtain ⟨σ9, e10, hf⟩ := mb0 hf
    refine mx_callV (As := [.long (p2.toInt64), .long (p3.toInt64)]) (rest := []) hx hb hml hts hown hK hJ rfl rfl (ci := 12) rfl e8 (c_X12_wholeNumber l G P a0 (p2.toInt64) (p3.toInt64) σ3 σ9 e10) me_X12_wholeNumber kw_2320 ks_96 kw_2318 (Nat.le_of_ble_eq_true rfl) (Nat.le_of_ble_eq_true rfl) rfl hl.1 rfl (Nat.le_of_ble_eq_true rfl) dX12_wholeUsed_14 (fun H locs hJ => ?_)
    refine lv_aload_n hx hb dX12_wholeUsed_17 rfl (lv_at hl 0 rfl) ?_
    obtain ⟨x11, e12, hf⟩ := mb0 hf
    refine my_gI hx hb hts hown hK hJ fd_RX12_403 hv_12_38 e12 dX12_wholeUsed_18 ?_
    refine lv_bipush (v := 40) hx hb dX12_wholeUsed_21 (by decide) ?_
    refine lv_icmp_gt (tgt := 46) hx hb dX12_wholeUsed_23 (by decide) (fun c13 => ?_) (fun c13 => ?_)
    · rw [if_pos c13] at hf
      exact D46 a0 σ9 hf _ _ hJ ls (lv_sub hl [0] rfl)
    · rw [if_neg c13] at hf
      refine lv_aload_n hx hb dX12_wholeUsed_26 rfl (lv_at hl 0 rfl) ?_
      obtain ⟨b18, e19, hf⟩ := mb0 hf
      refine my_gR hx hb hts hown hK hJ fd_RX12_93 hv_12_45 e19 dX12_wholeUsed_27 ?_
      refine lv_iconst (v := 3) hx hb dX12_wholeUsed_30 (by decide) ?_
      refine lv_aload_n hx hb dX12_wholeUsed_31 rfl (lv_at hl 0 rfl) ?_
      obtain ⟨x20, e21, hf⟩ := mb0 hf
      refine my_gI hx hb hts hown hK hJ fd_RX12_403 hv_12_38 e21 dX12_wholeUsed_32 ?_
      refine lv_iconst (v := 1) hx hb dX12_wholeUsed_35 (by decide) ?_
      refine lv_isub hx hb dX12_wholeUsed_36 ?_
      refine lv_imul hx hb dX12_wholeUsed_37 ?_
      refine lv_iload_n hx hb dX12_wholeUsed_38 rfl (lv_at hl 1 rfl) ?_
      refine lv_iadd hx hb dX12_wholeUsed_39 ?_
      refine lv_aload_n hx hb dX12_wholeUsed_40 rfl (lv_at hl 0 rfl) ?_
      obtain ⟨x22, e23, hf⟩ := mb0 hf
      refine my_gL hx hb hts hown hK hJ fd_RX12_353 hv_12_17 e23 dX12_wholeUsed_41 ?_
      refine lv_l2i hx hb dX12_wholeUsed_44 rfl ?_
      obtain ⟨σ24, e25, hf⟩ := mb0 hf
      refine mx_sI hx hb hK hJ e25 dX12_wholeUsed_45 (fun H locs hJ => ?_)
      exact D46 a0 σ24 hf _ _ hJ ls (lv_sub hl [0] rfl)
  · rw [if_pos c6] at hf
    exact my_vret hx hb hr hlocks hJ hf dX12_wholeUsed_8
set_option maxHeartbeats 4000000 in
set_option maxRecDepth 100000 in
theorem c_X12_signUsed (l : Launch) (G : mx_G) (P : mx_P) (a0 : Nat) (σ : mx_S) (σ' : mx_S) (hf : f_X12_signUsed P a0 σ = some σ') : mxz σ ≤ mpc P → mxu σ ≤ mps P → mx_M l yX12_signUsed cX12_signUsed 2 none 4 96 G P [.ref a0] σ none σ' := by
  intro hcap hcau
  refine mx_ofW (by decide +kernel) hcap hcau (Nat.le_of_ble_eq_true rfl) ?_
  intro p e s m below meth c hx hb hr hml hts hown hlocks hname hK hJ ls hl
  have hz0 := hJ.2.1
  have hown : s.vm.findClass RX12 = some m.cls := hown
  have hl : lv_has ls 2 [(0, .ref a0)] := hl
  have D135 : ∀ (v0 : Nat) (τ : mx_S), f_X12_signUsed_D135 P v0 τ = some σ' → ∀ (H : Heap) (locs : List Loc), mx_J G P s.heap (mxz σ) (mxu σ) τ H locs → ∀ ls : Array Slot, lv_has ls 2 [(0, .ref v0)] → W p l e (mx_rm P 4 96 σ) s m ([.ref a0] : List Value).toArray below meth c H locs (mxz τ - mxz σ) (mxu τ - mxu σ) (mx_Z below G P none σ σ' [.ref a0] s) (F0 m 135 ls []) := by
    intro v0 τ hf _ _ hJ ls hl
    unfold f_X12_signUsed_D135 at hf
    refine lv_aload_n hx hb dX12_signUsed_135 rfl (lv_at hl 0 rfl) ?_
    obtain ⟨i16, e17, hf⟩ := mb0 hf
    obtain ⟨σ18, e19, hf⟩ := mb0 hf
    refine mx_callV (As := []) (rest := []) hx hb hml hts hown hK hJ rfl rfl (ci := 12) rfl e17 (c_X12_scan l G P v0 τ σ18 e19) me_X12_scan kw_2243 ks_82 kw_2241 (Nat.le_of_ble_eq_true rfl) (Nat.le_of_ble_eq_true rfl) rfl hl.1 rfl (Nat.le_of_ble_eq_true rfl) dX12_signUsed_136 (fun H locs hJ => ?_)
    exact my_vret hx hb hr hlocks hJ hf dX12_signUsed_139
  have D114 : ∀ (v0 : Nat) (v1 : Int32) (τ : mx_S), f_X12_signUsed_D114 P v0 v1 τ = some σ' → ∀ (H : Heap) (locs : List Loc), mx_J G P s.heap (mxz σ) (mxu σ) τ H locs → ∀ ls : Array Slot, lv_has ls 2 [(0, .ref v0), (1, .int v1)] → W p l e (mx_rm P 4 96 σ) s m ([.ref a0] : List Value).toArray below meth c H locs (mxz τ - mxz σ) (mxu τ - mxu σ) (mx_Z below G P none σ σ' [.ref a0] s) (F0 m 114 ls []) := by
    intro v0 v1 τ hf _ _ hJ ls hl
    unfold f_X12_signUsed_D114 at hf
    refine lv_aload_n hx hb dX12_signUsed_114 rfl (lv_at hl 0 rfl) ?_
    obtain ⟨x13, e14, hf⟩ := mb0 hf
    refine my_gI hx hb hts hown hK hJ fd_RX12_403 hv_12_38 e14 dX12_signUsed_115 ?_
    refine lv_bipush (v := 40) hx hb dX12_signUsed_118 (by decide) ?_
    refine lv_icmp_gt (tgt := 135) hx hb dX12_signUsed_120 (by decide) (fun c15 => ?_) (fun c15 => ?_)
    · rw [if_pos c15] at hf
      exact D135 v0 τ hf _ _ hJ ls (lv_sub hl [0] rfl)
    · rw [if_neg c15] at hf
      refine lv_aload_n hx hb dX12_signUsed_123 rfl (lv_at hl 0 rfl) ?_
      obtain ⟨b20, e21, hf⟩ := mb0 hf
      refine my_gR hx hb hts hown hK hJ fd_RX12_96 hv_12_46 e21 dX12_signUsed_124 ?_
      refine lv_aload_n hx hb dX12_signUsed_127 rfl (lv_at hl 0 rfl) ?_
      obtain ⟨x22, e23, hf⟩ := mb0 hf
      refine my_gI hx hb hts hown hK hJ fd_RX12_403 hv_12_38 e23 dX12_signUsed_128 ?_
      refine lv_iconst (v := 1) hx hb dX12_signUsed_131 (by decide) ?_
      refine lv_isub hx hb dX12_signUsed_132 ?_
      refine lv_iload_n hx hb dX12_signUsed_133 rfl (lv_at hl 1 rfl) ?_
      obtain ⟨σ24, e25, hf⟩ := mb0 hf
      refine mx_sI hx hb hK hJ e25 dX12_signUsed_134 (fun H locs hJ => ?_)
      exact D135 v0 σ24 hf _ _ hJ ls (lv_sub hl [0] rfl)
  have D88 : ∀ (v0 : Nat) (τ : mx_S), f_X12_signUsed_D88 P v0 τ = some σ' → ∀ (H : Heap) (locs : List Loc), mx_J G P s.heap (mxz σ) (mxu σ) τ H locs → ∀ ls : Array Slot, lv_has ls 2 [(0, .ref v0)] → W p l e (mx_rm P 4 96 σ) s m ([.ref a0] : List Value).toArray below meth c H locs (mxz τ - mxz σ) (mxu τ - mxu σ) (mx_Z below G P none σ σ' [.ref a0] s) (F0 m 88 ls []) := by
    intro v0 τ hf _ _ hJ ls hl
    unfold f_X12_signUsed_D88 at hf
    refine lv_iconst (v := 2) hx hb dX12_signUsed_88 (by decide) ?_
    refine lv_aload_n hx hb dX12_signUsed_89 rfl (lv_at hl 0 rfl) ?_
    obtain ⟨x29, e30, hf⟩ := mb0 hf
    refine my_gI hx hb hts hown hK hJ fd_RX12_411 hv_12_53 e30 dX12_signUsed_90 ?_
    refine lv_iadd hx hb dX12_signUsed_93 ?_
    obtain ⟨x31, e32, hf⟩ := mb0 hf
    refine mx_nI e32 ?_
    refine lv_istore_n (lv' := [(1, .int x31), (0, .ref v0)]) hx hb dX12_signUsed_94 rfl hl (by decide) rfl (fun ls hl => ?_)
    refine lv_aload_n hx hb dX12_signUsed_95 rfl (lv_at hl 1 rfl) ?_
    obtain ⟨x33, e34, hf⟩ := mb0 hf
    refine my_gI hx hb hts hown hK hJ fd_RX12_411 hv_12_53 e34 dX12_signUsed_96 ?_
    refine lv_bipush (v := 8) hx hb dX12_signUsed_99 (by decide) ?_
    refine lv_icmp_ge (tgt := 114) hx hb dX12_signUsed_101 (by decide) (fun c35 => ?_) (fun c35 => ?_)
    · rw [if_pos c35] at hf
      exact D114 v0 x31 τ hf _ _ hJ ls (lv_sub hl [1, 0] rfl)
    · rw [if_neg c35] at hf
      refine lv_aload_n hx hb dX12_signUsed_104 rfl (lv_at hl 1 rfl) ?_
      refine lv_dup hx hb dX12_signUsed_105 rfl ?_
      obtain ⟨x36, e37, hf⟩ := mb0 hf
      refine my_gI hx hb hts hown hK hJ fd_RX12_411 hv_12_53 e37 dX12_signUsed_106 ?_
      refine lv_iconst (v := 1) hx hb dX12_signUsed_109 (by decide) ?_
      refine lv_iadd hx hb dX12_signUsed_110 ?_
      obtain ⟨σ38, e39, hf⟩ := mb0 hf
      refine my_pI hx hb hts hown hK hJ fd_RX12_411 cd_12 (Or.inl rfl) ht_12_53 e39 dX12_signUsed_111 (fun H locs hJ => ?_)
      exact D114 v0 x31 σ38 hf _ _ hJ ls (lv_sub hl [1, 0] rfl)
  have D59 : ∀ (v0 : Nat) (w0 : Int32) (τ : mx_S), f_X12_signUsed_D59 P v0 w0 τ = some σ' → ∀ (H : Heap) (locs : List Loc), mx_J G P s.heap (mxz σ) (mxu σ) τ H locs → ∀ ls : Array Slot, lv_has ls 2 [(0, .ref v0)] → W p l e (mx_rm P 4 96 σ) s m ([.ref a0] : List Value).toArray below meth c H locs (mxz τ - mxz σ) (mxu τ - mxu σ) (mx_Z below G P none σ σ' [.ref a0] s) (F0 m 59 ls [.int w0]) := by
    intro v0 w0 τ hf _ _ hJ ls hl
    unfold f_X12_signUsed_D59 at hf
    refine lv_istore_n (lv' := [(1, .int w0), (0, .ref v0)]) hx hb dX12_signUsed_59 rfl hl (by decide) rfl (fun ls hl => ?_)
    refine lv_aload_n hx hb dX12_signUsed_60 rfl (lv_at hl 1 rfl) ?_
    obtain ⟨x10, e11, hf⟩ := mb0 hf
    refine my_gI hx hb hts hown hK hJ fd_RX12_340 hv_12_15 e11 dX12_signUsed_61 ?_
    refine lv_bipush (v := 63) hx hb dX12_signUsed_64 (by decide) ?_
    refine lv_icmp_ne (tgt := 114) hx hb dX12_signUsed_66 (by decide) (fun c12 => ?_) (fun c12 => ?_)
    · rw [if_neg c12] at hf
      exact D114 v0 w0 τ hf _ _ hJ ls (lv_sub hl [1, 0] rfl)
    · rw [if_pos c12] at hf
      refine lv_aload_n hx hb dX12_signUsed_69 rfl (lv_at hl 1 rfl) ?_
      obtain ⟨x26, e27, hf⟩ := mb0 hf
      refine my_gI hx hb hts hown hK hJ fd_RX12_411 hv_12_53 e27 dX12_signUsed_70 ?_
      refine lv_bipush (v := 8) hx hb dX12_signUsed_73 (by decide) ?_
      refine lv_icmp_ne (tgt := 88) hx hb dX12_signUsed_75 (by decide) (fun c28 => ?_) (fun c28 => ?_)
      · rw [if_neg c28] at hf
        exact D88 v0 τ hf _ _ hJ ls (lv_sub hl [1] rfl)
      · rw [if_pos c28] at hf
        refine lv_aload_n hx hb dX12_signUsed_78 rfl (lv_at hl 1 rfl) ?_
        refine lv_bipush (v := 6) hx hb dX12_signUsed_79 (by decide) ?_
        refine lv_aload_n hx hb dX12_signUsed_81 rfl (lv_at hl 1 rfl) ?_
        obtain ⟨x40, e41, hf⟩ := mb0 hf
        refine my_gI hx hb hts hown hK hJ fd_RX12_337 hv_12_16 e41 dX12_signUsed_82 ?_
        obtain ⟨i42, e43, hf⟩ := mb0 hf
        obtain ⟨σ44, e45, hf⟩ := mb0 hf
        refine mx_callV (As := [.int (6 : Int32), .int x40]) (rest := []) hx hb hml hts hown hK hJ rfl rfl (ci := 12) rfl e43 (c_X12_found l G P v0 (6 : Int32) x40 τ σ44 e45) me_X12_found kw_2299 ks_91 kw_2297 (Nat.le_of_ble_eq_true rfl) (Nat.le_of_ble_eq_true rfl) rfl hl.1 rfl (Nat.le_of_ble_eq_true rfl) dX12_signUsed_85 (fun H locs hJ => ?_)
        exact D88 v0 σ44 hf _ _ hJ ls (lv_sub hl [1] rfl)
  have D45 : ∀ (v0 : Nat) (τ : mx_S), f_X12_signUsed_D45 P v0 τ = some σ' → ∀ (H : Heap) (locs : List Loc), mx_J G P s.heap (mxz σ) (mxu σ) τ H locs → ∀ ls : Array Slot, lv_has ls 2 [(0, .ref v0)] → W p l e (mx_rm P 4 96 σ) s m ([.ref a0] : List Value).toArray below meth c H locs (mxz τ - mxz σ) (mxu τ - mxu σ) (mx_Z below G P none σ σ' [.ref a0] s) (F0 m 45 ls []) := by
    intro v0 τ hf _ _ hJ ls hl
    unfold f_X12_signUsed_D45 at hf
    refine lv_aload_n hx hb dX12_signUsed_45 rfl (lv_at hl 0 rfl) ?_
    obtain ⟨x7, e8, hf⟩ := mb0 hf
    refine my_gI hx hb hts hown hK hJ fd_RX12_340 hv_12_15 e8 dX12_signUsed_46 ?_
    refine lv_bipush (v := 43) hx hb dX12_signUsed_49 (by decide) ?_
    refine lv_icmp_ne (tgt := 58) hx hb dX12_signUsed_51 (by decide) (fun c9 => ?_) (fun c9 => ?_)
    · rw [if_neg c9] at hf
      refine lv_iconst (v := 1) hx hb dX12_signUsed_58 (by decide) ?_
      exact D59 v0 (1 : Int32) τ hf _ _ hJ ls (lv_sub hl [0] rfl)
    · rw [if_pos c9] at hf
      refine lv_iconst (v := 0) hx hb dX12_signUsed_54 (by decide) ?_
      refine lv_goto (tgt := 59) hx hb dX12_signUsed_55 (by decide) ?_
      exact D59 v0 (0 : Int32) τ hf _ _ hJ ls (lv_sub hl [0] rfl)
  unfold f_X12_signUsed at hf
  refine lv_aload_n hx hb dX12_signUsed_0 rfl (lv_at hl 0 rfl) ?_
  obtain ⟨x1, e2, hf⟩ := mb0 hf
  refine my_gI hx hb hts hown hK hJ fd_RX12_266 hv_12_4 e2 dX12_signUsed_1 ?_
  refine lv_if_le (tgt := 8) hx hb dX12_signUsed_4 (by decide) (fun c3 => ?_) (fun c3 => ?_)
  · rw [if_pos c3] at hf
    refine lv_aload_n hx hb dX12_signUsed_8 rfl (lv_at hl 0 rfl) ?_
    obtain ⟨x4, e5, hf⟩ := mb0 hf
    refine my_gI hx hb hts hown hK hJ fd_RX12_340 hv_12_15 e5 dX12_signUsed_9 ?_
    refine lv_bipush (v := 43) hx hb dX12_signUsed_12 (by decide) ?_
    refine lv_icmp_eq (tgt := 45) hx hb dX12_signUsed_14 (by decide) (fun c6 => ?_) (fun c6 => ?_)
    · rw [if_pos c6] at hf
      exact D45 a0 σ hf _ _ hJ ls (lv_sub hl [0] rfl)
    · rw [if_neg c6] at hf
      refine lv_aload_n hx hb dX12_signUsed_17 rfl (lv_at hl 0 rfl) ?_
      obtain ⟨x46, e47, hf⟩ := mb0 hf
      refine my_gI hx hb hts hown hK hJ fd_RX12_340 hv_12_15 e47 dX12_signUsed_18 ?_
      refine lv_bipush (v := 45) hx hb dX12_signUsed_21 (by decide) ?_
      refine lv_icmp_eq (tgt := 45) hx hb dX12_signUsed_23 (by decide) (fun c48 => ?_) (fun c48 => ?_)
      · rw [if_pos c48] at hf
        exact D45 a0 σ hf _ _ hJ ls (lv_sub hl [0] rfl)
      · rw [if_neg c48] at hf
        refine lv_aload_n hx hb dX12_signUsed_26 rfl (lv_at hl 0 rfl) ?_
        obtain ⟨x49, e50, hf⟩ := mb0 hf
        refine my_gI hx hb hts hown hK hJ fd_RX12_340 hv_12_15 e50 dX12_signUsed_27 ?_
        refine lv_bipush (v := 63) hx hb dX12_signUsed_30 (by decide) ?_
        refine lv_icmp_eq (tgt := 45) hx hb dX12_signUsed_32 (by decide) (fun c51 => ?_) (fun c51 => ?_)
        · rw [if_pos c51] at hf
          exact D45 a0 σ hf _ _ hJ ls (lv_sub hl [0] rfl)
        · rw [if_neg c51] at hf
          refine lv_aload_n hx hb dX12_signUsed_35 rfl (lv_at hl 0 rfl) ?_
          refine lv_iconst (v := 1) hx hb dX12_signUsed_36 (by decide) ?_
          refine lv_aload_n hx hb dX12_signUsed_37 rfl (lv_at hl 0 rfl) ?_
          obtain ⟨x52, e53, hf⟩ := mb0 hf
          refine my_gI hx hb hts hown hK hJ fd_RX12_337 hv_12_16 e53 dX12_signUsed_38 ?_
          obtain ⟨i54, e55, hf⟩ := mb0 hf
          obtain ⟨σ56, e57, hf⟩ := mb0 hf
          refine mx_callV (As := [.int (1 : Int32), .int x52]) (rest := []) hx hb hml hts hown hK hJ rfl rfl (ci := 12) rfl e55 (c_X12_wrong l G P a0 (1 : Int32) x52 σ σ56 e57) me_X12_wrong kw_2287 ks_88 kw_2285 (Nat.le_of_ble_eq_true rfl) (Nat.le_of_ble_eq_true rfl) rfl hl.1 rfl (Nat.le_of_ble_eq_true rfl) dX12_signUsed_41 (fun H locs hJ => ?_)
          exact my_vret hx hb hr hlocks hJ hf dX12_signUsed_44
  · rw [if_neg c3] at hf
    exact my_vret hx hb hr hlocks hJ hf dX12_signUsed_7
set_option maxHeartbeats 4000000 in
set_option maxRecDepth 100000 in
theorem c_X12_parts (l : Launch) (G : mx_G) (P : mx_P) (a0 : Nat) (p1 : Int32) (σ : mx_S) (σ' : mx_S) (hf : f_X12_parts P a0 p1 σ = some σ') : mxz σ ≤ mpc P → mxu σ ≤ mps P → mx_M l yX12_parts cX12_parts 2 none 5 119 G P [.ref a0, .int p1] σ none σ' := by
  intro hcap hcau
  refine mx_ofW (by decide +kernel) hcap hcau (Nat.le_of_ble_eq_true rfl) ?_
  intro p e s m below meth c hx hb hr hml hts hown hlocks hname hK hJ ls hl
  have hz0 := hJ.2.1
  have hown : s.vm.findClass RX12 = some m.cls := hown
  have hl : lv_has ls 2 [(0, .ref a0), (1, .int p1)] := hl
  have D64 : ∀ (v0 : Nat) (τ : mx_S), f_X12_parts_D64 P v0 τ = some σ' → ∀ (H : Heap) (locs : List Loc), mx_J G P s.heap (mxz σ) (mxu σ) τ H locs → ∀ ls : Array Slot, lv_has ls 2 [(0, .ref v0)] → W p l e (mx_rm P 5 119 σ) s m ([.ref a0, .int p1] : List Value).toArray below meth c H locs (mxz τ - mxz σ) (mxu τ - mxu σ) (mx_Z below G P none σ σ' [.ref a0, .int p1] s) (F0 m 64 ls []) := by
    intro v0 τ hf _ _ hJ ls hl
    unfold f_X12_parts_D64 at hf
    refine lv_aload_n hx hb dX12_parts_64 rfl (lv_at hl 0 rfl) ?_
    refine lv_iconst (v := 0) hx hb dX12_parts_65 (by decide) ?_
    refine lv_iconst (v := 0) hx hb dX12_parts_66 (by decide) ?_
    obtain ⟨i8, e9, hf⟩ := mb0 hf
    obtain ⟨σ10, e11, hf⟩ := mb0 hf
    refine mx_callV (As := [.int (0 : Int32), .int (0 : Int32)]) (rest := []) hx hb hml hts hown hK hJ rfl rfl (ci := 12) rfl e9 (c_X12_numberUsed l G P v0 (0 : Int32) (0 : Int32) τ σ10 e11) me_X12_numberUsed kw_2311 ks_94 kw_2309 (Nat.le_of_ble_eq_true rfl) (Nat.le_of_ble_eq_true rfl) rfl hl.1 rfl (Nat.le_of_ble_eq_true rfl) dX12_parts_67 (fun H locs hJ => ?_)
    refine lv_aload_n hx hb dX12_parts_70 rfl (lv_at hl 0 rfl) ?_
    refine lv_iconst (v := 1) hx hb dX12_parts_71 (by decide) ?_
    refine lv_iconst (v := 0) hx hb dX12_parts_72 (by decide) ?_
    obtain ⟨i12, e13, hf⟩ := mb0 hf
    obtain ⟨σ14, e15, hf⟩ := mb0 hf
    refine mx_callV (As := [.int (1 : Int32), .int (0 : Int32)]) (rest := []) hx hb hml hts hown hK hJ rfl rfl (ci := 12) rfl e13 (c_X12_numberUsed l G P v0 (1 : Int32) (0 : Int32) σ10 σ14 e15) me_X12_numberUsed kw_2311 ks_94 kw_2309 (Nat.le_of_ble_eq_true rfl) (Nat.le_of_ble_eq_true rfl) rfl hl.1 rfl (Nat.le_of_ble_eq_true rfl) dX12_parts_73 (fun H locs hJ => ?_)
    exact my_vret hx hb hr hlocks hJ hf dX12_parts_76
  have D29 : ∀ (v0 : Nat) (v1 : Int32) (τ : mx_S), f_X12_parts_D29 P v0 v1 τ = some σ' → ∀ (H : Heap) (locs : List Loc), mx_J G P s.heap (mxz σ) (mxu σ) τ H locs → ∀ ls : Array Slot, lv_has ls 2 [(0, .ref v0), (1, .int v1)] → W p l e (mx_rm P 5 119 σ) s m ([.ref a0, .int p1] : List Value).toArray below meth c H locs (mxz τ - mxz σ) (mxu τ - mxu σ) (mx_Z below G P none σ σ' [.ref a0, .int p1] s) (F0 m 29 ls []) := by
    intro v0 v1 τ hf _ _ hJ ls hl
    unfold f_X12_parts_D29 at hf
    refine lv_iload_n hx hb dX12_parts_29 rfl (lv_at hl 1 rfl) ?_
    by_cases c7 : v1 = (0 : Int32)
    · rw [if_pos c7] at hf
      refine lv_tableIn (tgt := 64) (off := 34) hx hb dX12_parts_30 (by rw [c7] <;> decide) (by rw [c7] <;> decide) (by rw [c7] <;> decide) (by decide) ?_
      exact D64 v0 τ hf _ _ hJ ls (lv_sub hl [0] rfl)
    rw [if_neg c7] at hf
    by_cases c16 : v1 = (1 : Int32)
    · rw [if_pos c16] at hf
      refine lv_tableIn (tgt := 77) (off := 47) hx hb dX12_parts_30 (by rw [c16] <;> decide) (by rw [c16] <;> decide) (by rw [c16] <;> decide) (by decide) ?_
      refine lv_aload_n hx hb dX12_parts_77 rfl (lv_at hl 0 rfl) ?_
      refine lv_iconst (v := 0) hx hb dX12_parts_78 (by decide) ?_
      refine lv_iconst (v := 1) hx hb dX12_parts_79 (by decide) ?_
      obtain ⟨i17, e18, hf⟩ := mb0 hf
      obtain ⟨σ19, e20, hf⟩ := mb0 hf
      refine mx_callV (As := [.int (0 : Int32), .int (1 : Int32)]) (rest := []) hx hb hml hts hown hK hJ rfl rfl (ci := 12) rfl e18 (c_X12_numberUsed l G P v0 (0 : Int32) (1 : Int32) τ σ19 e20) me_X12_numberUsed kw_2311 ks_94 kw_2309 (Nat.le_of_ble_eq_true rfl) (Nat.le_of_ble_eq_true rfl) rfl hl.1 rfl (Nat.le_of_ble_eq_true rfl) dX12_parts_80 (fun H locs hJ => ?_)
      refine lv_aload_n hx hb dX12_parts_83 rfl (lv_at hl 0 rfl) ?_
      refine lv_iconst (v := 0) hx hb dX12_parts_84 (by decide) ?_
      refine lv_iconst (v := 0) hx hb dX12_parts_85 (by decide) ?_
      refine lv_iconst (v := 3) hx hb dX12_parts_86 (by decide) ?_
      obtain ⟨i21, e22, hf⟩ := mb0 hf
      obtain ⟨σ23, e24, hf⟩ := mb0 hf
      refine mx_callV (As := [.int (0 : Int32), .int (0 : Int32), .int (3 : Int32)]) (rest := []) hx hb hml hts hown hK hJ rfl rfl (ci := 12) rfl e22 (c_X12_wholeUsed l G P v0 (0 : Int32) (0 : Int32) (3 : Int32) σ19 σ23 e24) me_X12_wholeUsed kw_2316 ks_95 kw_2314 (Nat.le_of_ble_eq_true rfl) (Nat.le_of_ble_eq_true rfl) rfl hl.1 rfl (Nat.le_of_ble_eq_true rfl) dX12_parts_87 (fun H locs hJ => ?_)
      refine lv_aload_n hx hb dX12_parts_90 rfl (lv_at hl 0 rfl) ?_
      refine lv_iconst (v := 1) hx hb dX12_parts_91 (by decide) ?_
      refine lv_bipush (v := (-8)) hx hb dX12_parts_92 (by decide) ?_
      refine lv_bipush (v := 8) hx hb dX12_parts_94 (by decide) ?_
      obtain ⟨i25, e26, hf⟩ := mb0 hf
      obtain ⟨σ27, e28, hf⟩ := mb0 hf
      refine mx_callV (As := [.int (1 : Int32), .int (-8 : Int32), .int (8 : Int32)]) (rest := []) hx hb hml hts hown hK hJ rfl rfl (ci := 12) rfl e26 (c_X12_wholeUsed l G P v0 (1 : Int32) (-8 : Int32) (8 : Int32) σ23 σ27 e28) me_X12_wholeUsed kw_2316 ks_95 kw_2314 (Nat.le_of_ble_eq_true rfl) (Nat.le_of_ble_eq_true rfl) rfl hl.1 rfl (Nat.le_of_ble_eq_true rfl) dX12_parts_96 (fun H locs hJ => ?_)
      refine lv_aload_n hx hb dX12_parts_99 rfl (lv_at hl 0 rfl) ?_
      refine lv_iconst (v := 2) hx hb dX12_parts_100 (by decide) ?_
      refine lv_iconst (v := 0) hx hb dX12_parts_101 (by decide) ?_
      refine lv_sipush (v := 1023) hx hb dX12_parts_102 (by decide) ?_
      obtain ⟨i29, e30, hf⟩ := mb0 hf
      obtain ⟨σ31, e32, hf⟩ := mb0 hf
      refine mx_callV (As := [.int (2 : Int32), .int (0 : Int32), .int (1023 : Int32)]) (rest := []) hx hb hml hts hown hK hJ rfl rfl (ci := 12) rfl e30 (c_X12_wholeUsed l G P v0 (2 : Int32) (0 : Int32) (1023 : Int32) σ27 σ31 e32) me_X12_wholeUsed kw_2316 ks_95 kw_2314 (Nat.le_of_ble_eq_true rfl) (Nat.le_of_ble_eq_true rfl) rfl hl.1 rfl (Nat.le_of_ble_eq_true rfl) dX12_parts_105 (fun H locs hJ => ?_)
      exact my_vret hx hb hr hlocks hJ hf dX12_parts_108
    rw [if_neg c16] at hf
    by_cases c33 : v1 = (2 : Int32)
    · rw [if_pos c33] at hf
      refine lv_tableIn (tgt := 109) (off := 79) hx hb dX12_parts_30 (by rw [c33] <;> decide) (by rw [c33] <;> decide) (by rw [c33] <;> decide) (by decide) ?_
      refine lv_aload_n hx hb dX12_parts_109 rfl (lv_at hl 0 rfl) ?_
      refine lv_iconst (v := 0) hx hb dX12_parts_110 (by decide) ?_
      refine lv_iconst (v := 1) hx hb dX12_parts_111 (by decide) ?_
      obtain ⟨i34, e35, hf⟩ := mb0 hf
      obtain ⟨σ36, e37, hf⟩ := mb0 hf
      refine mx_callV (As := [.int (0 : Int32), .int (1 : Int32)]) (rest := []) hx hb hml hts hown hK hJ rfl rfl (ci := 12) rfl e35 (c_X12_numberUsed l G P v0 (0 : Int32) (1 : Int32) τ σ36 e37) me_X12_numberUsed kw_2311 ks_94 kw_2309 (Nat.le_of_ble_eq_true rfl) (Nat.le_of_ble_eq_true rfl) rfl hl.1 rfl (Nat.le_of_ble_eq_true rfl) dX12_parts_112 (fun H locs hJ => ?_)
      refine lv_aload_n hx hb dX12_parts_115 rfl (lv_at hl 0 rfl) ?_
      refine lv_iconst (v := 1) hx hb dX12_parts_116 (by decide) ?_
      refine lv_iconst (v := 1) hx hb dX12_parts_117 (by decide) ?_
      obtain ⟨i38, e39, hf⟩ := mb0 hf
      obtain ⟨σ40, e41, hf⟩ := mb0 hf
      refine mx_callV (As := [.int (1 : Int32), .int (1 : Int32)]) (rest := []) hx hb hml hts hown hK hJ rfl rfl (ci := 12) rfl e39 (c_X12_numberUsed l G P v0 (1 : Int32) (1 : Int32) σ36 σ40 e41) me_X12_numberUsed kw_2311 ks_94 kw_2309 (Nat.le_of_ble_eq_true rfl) (Nat.le_of_ble_eq_true rfl) rfl hl.1 rfl (Nat.le_of_ble_eq_true rfl) dX12_parts_118 (fun H locs hJ => ?_)
      refine lv_aload_n hx hb dX12_parts_121 rfl (lv_at hl 0 rfl) ?_
      obtain ⟨i42, e43, hf⟩ := mb0 hf
      obtain ⟨σ44, e45, hf⟩ := mb0 hf
      refine mx_callV (As := []) (rest := []) hx hb hml hts hown hK hJ rfl rfl (ci := 12) rfl e43 (c_X12_signUsed l G P v0 σ40 σ44 e45) me_X12_signUsed kw_2324 ks_97 kw_2322 (Nat.le_of_ble_eq_true rfl) (Nat.le_of_ble_eq_true rfl) rfl hl.1 rfl (Nat.le_of_ble_eq_true rfl) dX12_parts_122 (fun H locs hJ => ?_)
      exact my_vret hx hb hr hlocks hJ hf dX12_parts_125
    rw [if_neg c33] at hf
    by_cases c46 : v1 = (3 : Int32)
    · rw [if_pos c46] at hf
      refine lv_tableIn (tgt := 126) (off := 96) hx hb dX12_parts_30 (by rw [c46] <;> decide) (by rw [c46] <;> decide) (by rw [c46] <;> decide) (by decide) ?_
      refine lv_aload_n hx hb dX12_parts_126 rfl (lv_at hl 0 rfl) ?_
      refine lv_iconst (v := 0) hx hb dX12_parts_127 (by decide) ?_
      refine lv_iconst (v := 1) hx hb dX12_parts_128 (by decide) ?_
      obtain ⟨i47, e48, hf⟩ := mb0 hf
      obtain ⟨σ49, e50, hf⟩ := mb0 hf
      refine mx_callV (As := [.int (0 : Int32), .int (1 : Int32)]) (rest := []) hx hb hml hts hown hK hJ rfl rfl (ci := 12) rfl e48 (c_X12_numberUsed l G P v0 (0 : Int32) (1 : Int32) τ σ49 e50) me_X12_numberUsed kw_2311 ks_94 kw_2309 (Nat.le_of_ble_eq_true rfl) (Nat.le_of_ble_eq_true rfl) rfl hl.1 rfl (Nat.le_of_ble_eq_true rfl) dX12_parts_129 (fun H locs hJ => ?_)
      refine lv_aload_n hx hb dX12_parts_132 rfl (lv_at hl 0 rfl) ?_
      refine lv_iconst (v := 2) hx hb dX12_parts_133 (by decide) ?_
      obtain ⟨i51, e52, hf⟩ := mb0 hf
      obtain ⟨σ53, e54, hf⟩ := mb0 hf
      refine mx_callV (As := [.int (2 : Int32)]) (rest := []) hx hb hml hts hown hK hJ rfl rfl (ci := 12) rfl e52 (c_X12_nameUsed l G P v0 (2 : Int32) σ49 σ53 e54) me_X12_nameUsed kw_2307 ks_93 kw_2305 (Nat.le_of_ble_eq_true rfl) (Nat.le_of_ble_eq_true rfl) rfl hl.1 rfl (Nat.le_of_ble_eq_true rfl) dX12_parts_134 (fun H locs hJ => ?_)
      refine lv_aload_n hx hb dX12_parts_137 rfl (lv_at hl 0 rfl) ?_
      refine lv_iconst (v := 3) hx hb dX12_parts_138 (by decide) ?_
      obtain ⟨i55, e56, hf⟩ := mb0 hf
      obtain ⟨σ57, e58, hf⟩ := mb0 hf
      refine mx_callV (As := [.int (3 : Int32)]) (rest := []) hx hb hml hts hown hK hJ rfl rfl (ci := 12) rfl e56 (c_X12_nameUsed l G P v0 (3 : Int32) σ53 σ57 e58) me_X12_nameUsed kw_2307 ks_93 kw_2305 (Nat.le_of_ble_eq_true rfl) (Nat.le_of_ble_eq_true rfl) rfl hl.1 rfl (Nat.le_of_ble_eq_true rfl) dX12_parts_139 (fun H locs hJ => ?_)
      refine lv_aload_n hx hb dX12_parts_142 rfl (lv_at hl 0 rfl) ?_
      obtain ⟨i59, e60, hf⟩ := mb0 hf
      obtain ⟨σ61, e62, hf⟩ := mb0 hf
      refine mx_callV (As := []) (rest := []) hx hb hml hts hown hK hJ rfl rfl (ci := 12) rfl e60 (c_X12_signUsed l G P v0 σ57 σ61 e62) me_X12_signUsed kw_2324 ks_97 kw_2322 (Nat.le_of_ble_eq_true rfl) (Nat.le_of_ble_eq_true rfl) rfl hl.1 rfl (Nat.le_of_ble_eq_true rfl) dX12_parts_143 (fun H locs hJ => ?_)
      exact my_vret hx hb hr hlocks hJ hf dX12_parts_146
    rw [if_neg c46] at hf
    by_cases c63 : v1 = (4 : Int32)
    · rw [if_pos c63] at hf
      refine lv_tableIn (tgt := 64) (off := 34) hx hb dX12_parts_30 (by rw [c63] <;> decide) (by rw [c63] <;> decide) (by rw [c63] <;> decide) (by decide) ?_
      exact D64 v0 τ hf _ _ hJ ls (lv_sub hl [0] rfl)
    rw [if_neg c63] at hf
    refine lv_tableOut (tgt := 147) hx hb dX12_parts_30 (by have := lv_neT (a := (0)) c7 (by decide); have := lv_neT (a := (1)) c16 (by decide); have := lv_neT (a := (2)) c33 (by decide); have := lv_neT (a := (3)) c46 (by decide); have := lv_neT (a := (4)) c63 (by decide); omega) (by decide) ?_
    refine lv_aload_n hx hb dX12_parts_147 rfl (lv_at hl 0 rfl) ?_
    refine lv_iconst (v := 2) hx hb dX12_parts_148 (by decide) ?_
    obtain ⟨i64, e65, hf⟩ := mb0 hf
    obtain ⟨σ66, e67, hf⟩ := mb0 hf
    refine mx_callV (As := [.int (2 : Int32)]) (rest := []) hx hb hml hts hown hK hJ rfl rfl (ci := 12) rfl e65 (c_X12_nameUsed l G P v0 (2 : Int32) τ σ66 e67) me_X12_nameUsed kw_2307 ks_93 kw_2305 (Nat.le_of_ble_eq_true rfl) (Nat.le_of_ble_eq_true rfl) rfl hl.1 rfl (Nat.le_of_ble_eq_true rfl) dX12_parts_149 (fun H locs hJ => ?_)
    refine lv_aload_n hx hb dX12_parts_152 rfl (lv_at hl 0 rfl) ?_
    refine lv_iconst (v := 3) hx hb dX12_parts_153 (by decide) ?_
    obtain ⟨i68, e69, hf⟩ := mb0 hf
    obtain ⟨σ70, e71, hf⟩ := mb0 hf
    refine mx_callV (As := [.int (3 : Int32)]) (rest := []) hx hb hml hts hown hK hJ rfl rfl (ci := 12) rfl e69 (c_X12_nameUsed l G P v0 (3 : Int32) σ66 σ70 e71) me_X12_nameUsed kw_2307 ks_93 kw_2305 (Nat.le_of_ble_eq_true rfl) (Nat.le_of_ble_eq_true rfl) rfl hl.1 rfl (Nat.le_of_ble_eq_true rfl) dX12_parts_154 (fun H locs hJ => ?_)
    exact my_vret hx hb hr hlocks hJ hf dX12_parts_157
  have D24 : ∀ (v0 : Nat) (v1 : Int32) (τ : mx_S), f_X12_parts_D24 P v0 v1 τ = some σ' → ∀ (H : Heap) (locs : List Loc), mx_J G P s.heap (mxz σ) (mxu σ) τ H locs → ∀ ls : Array Slot, lv_has ls 2 [(0, .ref v0), (1, .int v1)] → W p l e (mx_rm P 5 119 σ) s m ([.ref a0, .int p1] : List Value).toArray below meth c H locs (mxz τ - mxz σ) (mxu τ - mxu σ) (mx_Z below G P none σ σ' [.ref a0, .int p1] s) (F0 m 24 ls []) := by
    intro v0 v1 τ hf _ _ hJ ls hl
    unfold f_X12_parts_D24 at hf
    refine lv_aload_n hx hb dX12_parts_24 rfl (lv_at hl 0 rfl) ?_
    refine lv_iconst (v := 1) hx hb dX12_parts_25 (by decide) ?_
    obtain ⟨i3, e4, hf⟩ := mb0 hf
    obtain ⟨σ5, e6, hf⟩ := mb0 hf
    refine mx_callV (As := [.int (1 : Int32)]) (rest := []) hx hb hml hts hown hK hJ rfl rfl (ci := 12) rfl e4 (c_X12_nameUsed l G P v0 (1 : Int32) τ σ5 e6) me_X12_nameUsed kw_2307 ks_93 kw_2305 (Nat.le_of_ble_eq_true rfl) (Nat.le_of_ble_eq_true rfl) rfl hl.1 rfl (Nat.le_of_ble_eq_true rfl) dX12_parts_26 (fun H locs hJ => ?_)
    exact D29 v0 v1 σ5 hf _ _ hJ ls (lv_sub hl [0, 1] rfl)
  have D9 : ∀ (v0 : Nat) (v1 : Int32) (τ : mx_S), f_X12_parts_D9 P v0 v1 τ = some σ' → ∀ (H : Heap) (locs : List Loc), mx_J G P s.heap (mxz σ) (mxu σ) τ H locs → ∀ ls : Array Slot, lv_has ls 2 [(0, .ref v0), (1, .int v1)] → W p l e (mx_rm P 5 119 σ) s m ([.ref a0, .int p1] : List Value).toArray below meth c H locs (mxz τ - mxz σ) (mxu τ - mxu σ) (mx_Z below G P none σ σ' [.ref a0, .int p1] s) (F0 m 9 ls []) := by
    intro v0 v1 τ hf _ _ hJ ls hl
    unfold f_X12_parts_D9 at hf
    refine lv_iload_n hx hb dX12_parts_9 rfl (lv_at hl 1 rfl) ?_
    refine lv_iconst (v := 2) hx hb dX12_parts_10 (by decide) ?_
    refine lv_icmp_eq (tgt := 24) hx hb dX12_parts_11 (by decide) (fun c2 => ?_) (fun c2 => ?_)
    · rw [if_pos c2] at hf
      exact D24 v0 v1 τ hf _ _ hJ ls (lv_sub hl [0, 1] rfl)
    · rw [if_neg c2] at hf
      refine lv_iload_n hx hb dX12_parts_14 rfl (lv_at hl 1 rfl) ?_
      refine lv_iconst (v := 4) hx hb dX12_parts_15 (by decide) ?_
      refine lv_icmp_eq (tgt := 24) hx hb dX12_parts_16 (by decide) (fun c72 => ?_) (fun c72 => ?_)
      · rw [if_pos c72] at hf
        exact D24 v0 v1 τ hf _ _ hJ ls (lv_sub hl [0, 1] rfl)
      · rw [if_neg c72] at hf
        refine lv_iload_n hx hb dX12_parts_19 rfl (lv_at hl 1 rfl) ?_
        refine lv_iconst (v := 5) hx hb dX12_parts_20 (by decide) ?_
        refine lv_icmp_ne (tgt := 29) hx hb dX12_parts_21 (by decide) (fun c73 => ?_) (fun c73 => ?_)
        · rw [if_neg c73] at hf
          exact D29 v0 v1 τ hf _ _ hJ ls (lv_sub hl [0, 1] rfl)
        · rw [if_pos c73] at hf
          exact D24 v0 v1 τ hf _ _ hJ ls (lv_sub hl [0, 1] rfl)
  unfold f_X12_parts at hf
  refine lv_iload_n hx hb dX12_parts_0 rfl (lv_at hl 1 rfl) ?_
  refine lv_if_eq (tgt := 9) hx hb dX12_parts_1 (by decide) (fun c1 => ?_) (fun c1 => ?_)
  · rw [if_pos c1] at hf
    exact D9 a0 p1 σ hf _ _ hJ ls (lv_sub hl [0, 1] rfl)
  · rw [if_neg c1] at hf
    refine lv_aload_n hx hb dX12_parts_4 rfl (lv_at hl 0 rfl) ?_
    refine lv_iconst (v := 0) hx hb dX12_parts_5 (by decide) ?_
    obtain ⟨i74, e75, hf⟩ := mb0 hf
    obtain ⟨σ76, e77, hf⟩ := mb0 hf
    refine mx_callV (As := [.int (0 : Int32)]) (rest := []) hx hb hml hts hown hK hJ rfl rfl (ci := 12) rfl e75 (c_X12_nameUsed l G P a0 (0 : Int32) σ σ76 e77) me_X12_nameUsed kw_2307 ks_93 kw_2305 (Nat.le_of_ble_eq_true rfl) (Nat.le_of_ble_eq_true rfl) rfl hl.1 rfl (Nat.le_of_ble_eq_true rfl) dX12_parts_6 (fun H locs hJ => ?_)
    exact D9 a0 p1 σ76 hf _ _ hJ ls (lv_sub hl [0, 1] rfl)
set_option maxHeartbeats 4000000 in
set_option maxRecDepth 100000 in
theorem c_X12_statement (l : Launch) (G : mx_G) (P : mx_P) (a0 : Nat) (σ : mx_S) (σ' : mx_S) (hf : f_X12_statement P a0 σ = some σ') : mxz σ ≤ mpc P → mxu σ ≤ mps P → mx_M l yX12_statement cX12_statement 3 none 6 140 G P [.ref a0] σ none σ' := by
  intro hcap hcau
  refine mx_ofW (by decide +kernel) hcap hcau (Nat.le_of_ble_eq_true rfl) ?_
  intro p e s m below meth c hx hb hr hml hts hown hlocks hname hK hJ ls hl
  have hz0 := hJ.2.1
  have hown : s.vm.findClass RX12 = some m.cls := hown
  have hl : lv_has ls 3 [(0, .ref a0)] := hl
  have D95_34 : ∀ (v0 : Nat) (v1 : Int32) (v2 : Int32) (τ : mx_S) (o : (Int32 × mx_S) ⊕ ((mx_S))), f_X12_statement_D95_34 P v0 v1 v2 τ = some o → (∀ (y2 : Int32) (υ : mx_S), o = .inl (y2, υ) → ∀ (H : Heap) (locs : List Loc), mx_J G P s.heap (mxz σ) (mxu σ) υ H locs → ∀ ls : Array Slot, lv_has ls 3 [(0, .ref v0), (1, .int v1), (2, .int y2)] → W p l e (mx_rm P 6 140 σ) s m ([.ref a0] : List Value).toArray below meth c H locs (mxz υ - mxz σ) (mxu υ - mxu σ) (mx_Z below G P none σ σ' [.ref a0] s) (F0 m 34 ls [])) → (∀  (υ : mx_S), o = .inr υ → ∀ (H : Heap) (locs : List Loc), mx_J G P s.heap (mxz σ) (mxu σ) υ H locs → ∀ ls : Array Slot, lv_has ls 3 [(0, .ref v0), (1, .int v1)] → W p l e (mx_rm P 6 140 σ) s m ([.ref a0] : List Value).toArray below meth c H locs (mxz υ - mxz σ) (mxu υ - mxu σ) (mx_Z below G P none σ σ' [.ref a0] s) (F0 m 101 ls [])) → ∀ (H : Heap) (locs : List Loc), mx_J G P s.heap (mxz σ) (mxu σ) τ H locs → ∀ ls : Array Slot, lv_has ls 3 [(0, .ref v0), (1, .int v1), (2, .int v2)] → W p l e (mx_rm P 6 140 σ) s m ([.ref a0] : List Value).toArray below meth c H locs (mxz τ - mxz σ) (mxu τ - mxu σ) (mx_Z below G P none σ σ' [.ref a0] s) (F0 m 95 ls []) := by
    intro v0 v1 v2 τ o hf Kb Ke0 H locs hJ ls hl
    unfold f_X12_statement_D95_34 at hf
    obtain ⟨x29, e30, hf⟩ := mb0 hf
    refine lv_iinc (v := x29) (lv' := [(2, .int x29), (0, .ref v0), (1, .int v1)]) hx hb dX12_statement_95 hl (k := 2) rfl (by rw [← Option.some.inj e30]; rfl) (by decide) rfl (fun ls hl => ?_)
    refine lv_goto (tgt := 34) hx hb dX12_statement_98 (by decide) ?_
    exact Kb x29 τ (Option.some.inj hf).symm _ _ hJ ls (lv_sub hl [1, 2, 0] rfl)
  have B34 : ∀ (v0 : Nat) (v1 : Int32) (v2 : Int32) (τ : mx_S) (o : (Int32 × mx_S) ⊕ ((mx_S))), f_X12_statement_B34 P v0 v1 v2 τ = some o → (∀ (y2 : Int32) (υ : mx_S), o = .inl (y2, υ) → ∀ (H : Heap) (locs : List Loc), mx_J G P s.heap (mxz σ) (mxu σ) υ H locs → ∀ ls : Array Slot, lv_has ls 3 [(0, .ref v0), (1, .int v1), (2, .int y2)] → W p l e (mx_rm P 6 140 σ) s m ([.ref a0] : List Value).toArray below meth c H locs (mxz υ - mxz σ) (mxu υ - mxu σ) (mx_Z below G P none σ σ' [.ref a0] s) (F0 m 34 ls [])) → (∀  (υ : mx_S), o = .inr υ → ∀ (H : Heap) (locs : List Loc), mx_J G P s.heap (mxz σ) (mxu σ) υ H locs → ∀ ls : Array Slot, lv_has ls 3 [(0, .ref v0), (1, .int v1)] → W p l e (mx_rm P 6 140 σ) s m ([.ref a0] : List Value).toArray below meth c H locs (mxz υ - mxz σ) (mxu υ - mxu σ) (mx_Z below G P none σ σ' [.ref a0] s) (F0 m 101 ls [])) → ∀ (H : Heap) (locs : List Loc), mx_J G P s.heap (mxz σ) (mxu σ) τ H locs → ∀ ls : Array Slot, lv_has ls 3 [(0, .ref v0), (1, .int v1), (2, .int v2)] → W p l e (mx_rm P 6 140 σ) s m ([.ref a0] : List Value).toArray below meth c H locs (mxz τ - mxz σ) (mxu τ - mxu σ) (mx_Z below G P none σ σ' [.ref a0] s) (F0 m 34 ls []) := by
    intro v0 v1 v2 τ o hf Kb Ke0 H locs hJ ls hl
    unfold f_X12_statement_B34 at hf
    refine lv_iload_n hx hb dX12_statement_34 rfl (lv_at hl 2 rfl) ?_
    refine lv_aload_n hx hb dX12_statement_35 rfl (lv_at hl 0 rfl) ?_
    obtain ⟨x17, e18, hf⟩ := mb0 hf
    refine my_gI hx hb hts hown hK hJ fd_RX12_403 hv_12_38 e18 dX12_statement_36 ?_
    refine lv_icmp_ge (tgt := 101) hx hb dX12_statement_39 (by decide) (fun c19 => ?_) (fun c19 => ?_)
    · rw [if_pos c19] at hf
      exact Ke0 τ (Option.some.inj hf).symm _ _ hJ ls (lv_sub hl [0, 1] rfl)
    · rw [if_neg c19] at hf
      refine lv_aload_n hx hb dX12_statement_42 rfl (lv_at hl 0 rfl) ?_
      obtain ⟨b20, e21, hf⟩ := mb0 hf
      refine my_gR hx hb hts hown hK hJ fd_RX12_78 hv_12_40 e21 dX12_statement_43 ?_
      refine lv_iload_n hx hb dX12_statement_46 rfl (lv_at hl 2 rfl) ?_
      obtain ⟨x22, e23, hf⟩ := mb0 hf
      refine mx_aI hx hb hK hJ e23 dX12_statement_47 ?_
      refine lv_aload_n hx hb dX12_statement_48 rfl (lv_at hl 0 rfl) ?_
      obtain ⟨x24, e25, hf⟩ := mb0 hf
      refine my_gI hx hb hts hown hK hJ fd_RX12_330 hv_12_14 e25 dX12_statement_49 ?_
      refine lv_aload_n hx hb dX12_statement_52 rfl (lv_at hl 0 rfl) ?_
      obtain ⟨x26, e27, hf⟩ := mb0 hf
      refine my_gI hx hb hts hown hK hJ fd_RX12_337 hv_12_16 e27 dX12_statement_53 ?_
      refine lv_isub hx hb dX12_statement_56 ?_
      refine lv_icmp_ne (tgt := 95) hx hb dX12_statement_57 (by decide) (fun c28 => ?_) (fun c28 => ?_)
      · rw [if_neg c28] at hf
        exact D95_34 v0 v1 v2 τ o hf Kb Ke0 _ _ hJ ls (lv_sub hl [0, 1, 2] rfl)
      · rw [if_pos c28] at hf
        refine lv_aload_n hx hb dX12_statement_60 rfl (lv_at hl 0 rfl) ?_
        refine lv_aload_n hx hb dX12_statement_61 rfl (lv_at hl 0 rfl) ?_
        obtain ⟨b31, e32, hf⟩ := mb0 hf
        refine my_gR hx hb hts hown hK hJ fd_RX12_75 hv_12_39 e32 dX12_statement_62 ?_
        refine lv_iload_n hx hb dX12_statement_65 rfl (lv_at hl 2 rfl) ?_
        obtain ⟨x33, e34, hf⟩ := mb0 hf
        refine mx_aI hx hb hK hJ e34 dX12_statement_66 ?_
        refine lv_aload_n hx hb dX12_statement_67 rfl (lv_at hl 0 rfl) ?_
        obtain ⟨x35, e36, hf⟩ := mb0 hf
        refine my_gI hx hb hts hown hK hJ fd_RX12_337 hv_12_16 e36 dX12_statement_68 ?_
        refine lv_aload_n hx hb dX12_statement_71 rfl (lv_at hl 0 rfl) ?_
        obtain ⟨x37, e38, hf⟩ := mb0 hf
        refine my_gI hx hb hts hown hK hJ fd_RX12_330 hv_12_14 e38 dX12_statement_72 ?_
        refine lv_aload_n hx hb dX12_statement_75 rfl (lv_at hl 0 rfl) ?_
        obtain ⟨x39, e40, hf⟩ := mb0 hf
        refine my_gI hx hb hts hown hK hJ fd_RX12_337 hv_12_16 e40 dX12_statement_76 ?_
        refine lv_isub hx hb dX12_statement_79 ?_
        obtain ⟨i41, e42, hf⟩ := mb0 hf
        obtain ⟨x44, σ43, e45, hf⟩ := mc0 hf
        refine mx_callV (As := [.int x33, .int x35, .int (x37 - x39)]) (rest := []) hx hb hml hts hown hK hJ rfl rfl (ci := 12) rfl e42 (c_X12_sameWord l G P v0 x33 x35 (x37 - x39) τ x44 σ43 e45) me_X12_sameWord kw_2295 ks_90 kw_2293 (Nat.le_of_ble_eq_true rfl) (Nat.le_of_ble_eq_true rfl) rfl hl.1 rfl (Nat.le_of_ble_eq_true rfl) dX12_statement_80 (fun H locs hJ => ?_)
        refine lv_if_eq (tgt := 95) hx hb dX12_statement_83 (by decide) (fun c46 => ?_) (fun c46 => ?_)
        · rw [if_pos c46] at hf
          exact D95_34 v0 v1 v2 σ43 o hf Kb Ke0 _ _ hJ ls (lv_sub hl [0, 1, 2] rfl)
        · rw [if_neg c46] at hf
          refine lv_aload_n hx hb dX12_statement_86 rfl (lv_at hl 0 rfl) ?_
          refine lv_iconst (v := 2) hx hb dX12_statement_87 (by decide) ?_
          refine lv_aload_n hx hb dX12_statement_88 rfl (lv_at hl 0 rfl) ?_
          obtain ⟨x47, e48, hf⟩ := mb0 hf
          refine my_gI hx hb hts hown hK hJ fd_RX12_337 hv_12_16 e48 dX12_statement_89 ?_
          obtain ⟨i49, e50, hf⟩ := mb0 hf
          obtain ⟨σ51, e52, hf⟩ := mb0 hf
          refine mx_callV (As := [.int (2 : Int32), .int x47]) (rest := []) hx hb hml hts hown hK hJ rfl rfl (ci := 12) rfl e50 (c_X12_found l G P v0 (2 : Int32) x47 σ43 σ51 e52) me_X12_found kw_2299 ks_91 kw_2297 (Nat.le_of_ble_eq_true rfl) (Nat.le_of_ble_eq_true rfl) rfl hl.1 rfl (Nat.le_of_ble_eq_true rfl) dX12_statement_92 (fun H locs hJ => ?_)
          exact D95_34 v0 v1 v2 σ51 o hf Kb Ke0 _ _ hJ ls (lv_sub hl [0, 1, 2] rfl)
  have L34 : ∀ (v0 : Nat) (v1 : Int32) (n : Nat) (v2 : Int32) (τ : mx_S) (o : (mx_S)), mx_lp (f_X12_statement_L34 P v0 v1) n (v2, τ) = some o → (∀  (υ : mx_S), o = υ → ∀ (H : Heap) (locs : List Loc), mx_J G P s.heap (mxz σ) (mxu σ) υ H locs → ∀ ls : Array Slot, lv_has ls 3 [(0, .ref v0), (1, .int v1)] → W p l e (mx_rm P 6 140 σ) s m ([.ref a0] : List Value).toArray below meth c H locs (mxz υ - mxz σ) (mxu υ - mxu σ) (mx_Z below G P none σ σ' [.ref a0] s) (F0 m 101 ls [])) → ∀ (H : Heap) (locs : List Loc), mx_J G P s.heap (mxz σ) (mxu σ) τ H locs → ∀ ls : Array Slot, lv_has ls 3 [(0, .ref v0), (1, .int v1), (2, .int v2)] → W p l e (mx_rm P 6 140 σ) s m ([.ref a0] : List Value).toArray below meth c H locs (mxz τ - mxz σ) (mxu τ - mxu σ) (mx_Z below G P none σ σ' [.ref a0] s) (F0 m 34 ls []) := by
    intro v0 v1 n
    induction n with
    | zero =>
      intro v2 τ o hf
      rw [mx_lp0] at hf
      cases hf
    | succ n ih =>
      intro v2 τ o hf Ke0 H locs hJ ls hl
      rw [mx_lpS] at hf
      obtain ⟨b, eb, hf⟩ := mb0 hf
      refine B34 v0 v1 v2 τ b eb (fun y2 υ ho H locs hJ ls hl => ?_) (fun  υ ho H locs hJ ls hl => ?_) H locs hJ ls hl
      · subst ho
        exact ih y2 υ o hf Ke0 H locs hJ ls hl
      · subst ho
        exact Ke0  υ (Option.some.inj hf).symm _ _ hJ ls hl
  have D223 : ∀ (v0 : Nat) (v1 : Int32) (τ : mx_S), f_X12_statement_D223 P v0 v1 τ = some σ' → ∀ (H : Heap) (locs : List Loc), mx_J G P s.heap (mxz σ) (mxu σ) τ H locs → ∀ ls : Array Slot, lv_has ls 3 [(0, .ref v0), (1, .int v1)] → W p l e (mx_rm P 6 140 σ) s m ([.ref a0] : List Value).toArray below meth c H locs (mxz τ - mxz σ) (mxu τ - mxu σ) (mx_Z below G P none σ σ' [.ref a0] s) (F0 m 223 ls []) := by
    intro v0 v1 τ hf _ _ hJ ls hl
    unfold f_X12_statement_D223 at hf
    refine lv_aload_n hx hb dX12_statement_223 rfl (lv_at hl 0 rfl) ?_
    obtain ⟨i84, e85, hf⟩ := mb0 hf
    obtain ⟨σ86, e87, hf⟩ := mb0 hf
    refine mx_callV (As := []) (rest := []) hx hb hml hts hown hK hJ rfl rfl (ci := 12) rfl e85 (c_X12_scan l G P v0 τ σ86 e87) me_X12_scan kw_2243 ks_82 kw_2241 (Nat.le_of_ble_eq_true rfl) (Nat.le_of_ble_eq_true rfl) rfl hl.1 rfl (Nat.le_of_ble_eq_true rfl) dX12_statement_224 (fun H locs hJ => ?_)
    refine lv_aload_n hx hb dX12_statement_227 rfl (lv_at hl 0 rfl) ?_
    refine lv_iload_n hx hb dX12_statement_228 rfl (lv_at hl 1 rfl) ?_
    obtain ⟨i88, e89, hf⟩ := mb0 hf
    obtain ⟨σ90, e91, hf⟩ := mb0 hf
    refine mx_callV (As := [.int v1]) (rest := []) hx hb hml hts hown hK hJ rfl rfl (ci := 12) rfl e89 (c_X12_parts l G P v0 v1 σ86 σ90 e91) me_X12_parts kw_2303 ks_92 kw_2301 (Nat.le_of_ble_eq_true rfl) (Nat.le_of_ble_eq_true rfl) rfl hl.1 rfl (Nat.le_of_ble_eq_true rfl) dX12_statement_229 (fun H locs hJ => ?_)
    refine lv_aload_n hx hb dX12_statement_232 rfl (lv_at hl 0 rfl) ?_
    obtain ⟨i92, e93, hf⟩ := mb0 hf
    obtain ⟨σ94, e95, hf⟩ := mb0 hf
    refine mx_callV (As := []) (rest := []) hx hb hml hts hown hK hJ rfl rfl (ci := 12) rfl e93 (c_X12_ends l G P v0 σ90 σ94 e95) me_X12_ends kw_2328 ks_98 kw_2326 (Nat.le_of_ble_eq_true rfl) (Nat.le_of_ble_eq_true rfl) rfl hl.1 rfl (Nat.le_of_ble_eq_true rfl) dX12_statement_233 (fun H locs hJ => ?_)
    exact my_vret hx hb hr hlocks hJ hf dX12_statement_236
  have B184 : ∀ (v0 : Nat) (v1 : Int32) (v2 : Int32) (τ : mx_S) (o : (Int32 × mx_S) ⊕ ((mx_S))), f_X12_statement_B184 P v0 v1 v2 τ = some o → (∀ (y2 : Int32) (υ : mx_S), o = .inl (y2, υ) → ∀ (H : Heap) (locs : List Loc), mx_J G P s.heap (mxz σ) (mxu σ) υ H locs → ∀ ls : Array Slot, lv_has ls 3 [(0, .ref v0), (1, .int v1), (2, .int y2)] → W p l e (mx_rm P 6 140 σ) s m ([.ref a0] : List Value).toArray below meth c H locs (mxz υ - mxz σ) (mxu υ - mxu σ) (mx_Z below G P none σ σ' [.ref a0] s) (F0 m 184 ls [])) → (∀  (υ : mx_S), o = .inr υ → ∀ (H : Heap) (locs : List Loc), mx_J G P s.heap (mxz σ) (mxu σ) υ H locs → ∀ ls : Array Slot, lv_has ls 3 [(0, .ref v0), (1, .int v1)] → W p l e (mx_rm P 6 140 σ) s m ([.ref a0] : List Value).toArray below meth c H locs (mxz υ - mxz σ) (mxu υ - mxu σ) (mx_Z below G P none σ σ' [.ref a0] s) (F0 m 211 ls [])) → ∀ (H : Heap) (locs : List Loc), mx_J G P s.heap (mxz σ) (mxu σ) τ H locs → ∀ ls : Array Slot, lv_has ls 3 [(0, .ref v0), (1, .int v1), (2, .int v2)] → W p l e (mx_rm P 6 140 σ) s m ([.ref a0] : List Value).toArray below meth c H locs (mxz τ - mxz σ) (mxu τ - mxu σ) (mx_Z below G P none σ σ' [.ref a0] s) (F0 m 184 ls []) := by
    intro v0 v1 v2 τ o hf Kb Ke0 H locs hJ ls hl
    unfold f_X12_statement_B184 at hf
    refine lv_iload_n hx hb dX12_statement_184 rfl (lv_at hl 2 rfl) ?_
    refine lv_iconst (v := 4) hx hb dX12_statement_185 (by decide) ?_
    refine lv_icmp_ge (tgt := 211) hx hb dX12_statement_186 (by decide) (fun c102 => ?_) (fun c102 => ?_)
    · rw [if_pos c102] at hf
      exact Ke0 τ (Option.some.inj hf).symm _ _ hJ ls (lv_sub hl [0, 1] rfl)
    · rw [if_neg c102] at hf
      refine lv_aload_n hx hb dX12_statement_189 rfl (lv_at hl 0 rfl) ?_
      obtain ⟨b103, e104, hf⟩ := mb0 hf
      refine my_gR hx hb hts hown hK hJ fd_RX12_87 hv_12_43 e104 dX12_statement_190 ?_
      refine lv_iconst (v := 4) hx hb dX12_statement_193 (by decide) ?_
      refine lv_aload_n hx hb dX12_statement_194 rfl (lv_at hl 0 rfl) ?_
      obtain ⟨x105, e106, hf⟩ := mb0 hf
      refine my_gI hx hb hts hown hK hJ fd_RX12_403 hv_12_38 e106 dX12_statement_195 ?_
      refine lv_iconst (v := 1) hx hb dX12_statement_198 (by decide) ?_
      refine lv_isub hx hb dX12_statement_199 ?_
      refine lv_imul hx hb dX12_statement_200 ?_
      refine lv_iload_n hx hb dX12_statement_201 rfl (lv_at hl 2 rfl) ?_
      refine lv_iadd hx hb dX12_statement_202 ?_
      refine lv_iconst (v := 0) hx hb dX12_statement_203 (by decide) ?_
      obtain ⟨σ107, e108, hf⟩ := mb0 hf
      refine mx_sI hx hb hK hJ e108 dX12_statement_204 (fun H locs hJ => ?_)
      obtain ⟨x109, e110, hf⟩ := mb0 hf
      refine lv_iinc (v := x109) (lv' := [(2, .int x109), (0, .ref v0), (1, .int v1)]) hx hb dX12_statement_205 hl (k := 2) rfl (by rw [← Option.some.inj e110]; rfl) (by decide) rfl (fun ls hl => ?_)
      refine lv_goto (tgt := 184) hx hb dX12_statement_208 (by decide) ?_
      exact Kb x109 σ107 (Option.some.inj hf).symm _ _ hJ ls (lv_sub hl [1, 2, 0] rfl)
  have L184 : ∀ (v0 : Nat) (v1 : Int32) (n : Nat) (v2 : Int32) (τ : mx_S) (o : (mx_S)), mx_lp (f_X12_statement_L184 P v0 v1) n (v2, τ) = some o → (∀  (υ : mx_S), o = υ → ∀ (H : Heap) (locs : List Loc), mx_J G P s.heap (mxz σ) (mxu σ) υ H locs → ∀ ls : Array Slot, lv_has ls 3 [(0, .ref v0), (1, .int v1)] → W p l e (mx_rm P 6 140 σ) s m ([.ref a0] : List Value).toArray below meth c H locs (mxz υ - mxz σ) (mxu υ - mxu σ) (mx_Z below G P none σ σ' [.ref a0] s) (F0 m 211 ls [])) → ∀ (H : Heap) (locs : List Loc), mx_J G P s.heap (mxz σ) (mxu σ) τ H locs → ∀ ls : Array Slot, lv_has ls 3 [(0, .ref v0), (1, .int v1), (2, .int v2)] → W p l e (mx_rm P 6 140 σ) s m ([.ref a0] : List Value).toArray below meth c H locs (mxz τ - mxz σ) (mxu τ - mxu σ) (mx_Z below G P none σ σ' [.ref a0] s) (F0 m 184 ls []) := by
    intro v0 v1 n
    induction n with
    | zero =>
      intro v2 τ o hf
      rw [mx_lp0] at hf
      cases hf
    | succ n ih =>
      intro v2 τ o hf Ke0 H locs hJ ls hl
      rw [mx_lpS] at hf
      obtain ⟨b, eb, hf⟩ := mb0 hf
      refine B184 v0 v1 v2 τ b eb (fun y2 υ ho H locs hJ ls hl => ?_) (fun  υ ho H locs hJ ls hl => ?_) H locs hJ ls hl
      · subst ho
        exact ih y2 υ o hf Ke0 H locs hJ ls hl
      · subst ho
        exact Ke0  υ (Option.some.inj hf).symm _ _ hJ ls hl
  have D120 : ∀ (v0 : Nat) (v1 : Int32) (τ : mx_S), f_X12_statement_D120 P v0 v1 τ = some σ' → ∀ (H : Heap) (locs : List Loc), mx_J G P s.heap (mxz σ) (mxu σ) τ H locs → ∀ ls : Array Slot, lv_has ls 3 [(0, .ref v0), (1, .int v1)] → W p l e (mx_rm P 6 140 σ) s m ([.ref a0] : List Value).toArray below meth c H locs (mxz τ - mxz σ) (mxu τ - mxu σ) (mx_Z below G P none σ σ' [.ref a0] s) (F0 m 120 ls []) := by
    intro v0 v1 τ hf _ _ hJ ls hl
    unfold f_X12_statement_D120 at hf
    refine lv_aload_n hx hb dX12_statement_120 rfl (lv_at hl 0 rfl) ?_
    obtain ⟨b59, e60, hf⟩ := mb0 hf
    refine my_gR hx hb hts hown hK hJ fd_RX12_75 hv_12_39 e60 dX12_statement_121 ?_
    refine lv_aload_n hx hb dX12_statement_124 rfl (lv_at hl 0 rfl) ?_
    obtain ⟨x61, e62, hf⟩ := mb0 hf
    refine my_gI hx hb hts hown hK hJ fd_RX12_403 hv_12_38 e62 dX12_statement_125 ?_
    refine lv_aload_n hx hb dX12_statement_128 rfl (lv_at hl 0 rfl) ?_
    obtain ⟨x63, e64, hf⟩ := mb0 hf
    refine my_gI hx hb hts hown hK hJ fd_RX12_337 hv_12_16 e64 dX12_statement_129 ?_
    obtain ⟨σ65, e66, hf⟩ := mb0 hf
    refine mx_sI hx hb hK hJ e66 dX12_statement_132 (fun H locs hJ => ?_)
    refine lv_aload_n hx hb dX12_statement_133 rfl (lv_at hl 0 rfl) ?_
    obtain ⟨b67, e68, hf⟩ := mb0 hf
    refine my_gR hx hb hts hown hK hJ fd_RX12_78 hv_12_40 e68 dX12_statement_134 ?_
    refine lv_aload_n hx hb dX12_statement_137 rfl (lv_at hl 0 rfl) ?_
    obtain ⟨x69, e70, hf⟩ := mb0 hf
    refine my_gI hx hb hts hown hK hJ fd_RX12_403 hv_12_38 e70 dX12_statement_138 ?_
    refine lv_aload_n hx hb dX12_statement_141 rfl (lv_at hl 0 rfl) ?_
    obtain ⟨x71, e72, hf⟩ := mb0 hf
    refine my_gI hx hb hts hown hK hJ fd_RX12_330 hv_12_14 e72 dX12_statement_142 ?_
    refine lv_aload_n hx hb dX12_statement_145 rfl (lv_at hl 0 rfl) ?_
    obtain ⟨x73, e74, hf⟩ := mb0 hf
    refine my_gI hx hb hts hown hK hJ fd_RX12_337 hv_12_16 e74 dX12_statement_146 ?_
    refine lv_isub hx hb dX12_statement_149 ?_
    obtain ⟨σ75, e76, hf⟩ := mb0 hf
    refine mx_sI hx hb hK hJ e76 dX12_statement_150 (fun H locs hJ => ?_)
    refine lv_aload_n hx hb dX12_statement_151 rfl (lv_at hl 0 rfl) ?_
    refine lv_dup hx hb dX12_statement_152 rfl ?_
    obtain ⟨x77, e78, hf⟩ := mb0 hf
    refine my_gI hx hb hts hown hK hJ fd_RX12_403 hv_12_38 e78 dX12_statement_153 ?_
    refine lv_iconst (v := 1) hx hb dX12_statement_156 (by decide) ?_
    refine lv_iadd hx hb dX12_statement_157 ?_
    obtain ⟨σ79, e80, hf⟩ := mb0 hf
    refine my_pI hx hb hts hown hK hJ fd_RX12_403 cd_12 (Or.inl rfl) ht_12_38 e80 dX12_statement_158 (fun H locs hJ => ?_)
    refine lv_aload_n hx hb dX12_statement_161 rfl (lv_at hl 0 rfl) ?_
    obtain ⟨x81, e82, hf⟩ := mb0 hf
    refine my_gI hx hb hts hown hK hJ fd_RX12_403 hv_12_38 e82 dX12_statement_162 ?_
    refine lv_bipush (v := 40) hx hb dX12_statement_165 (by decide) ?_
    refine lv_icmp_gt (tgt := 223) hx hb dX12_statement_167 (by decide) (fun c83 => ?_) (fun c83 => ?_)
    · rw [if_pos c83] at hf
      exact D223 v0 v1 σ79 hf _ _ hJ ls (lv_sub hl [0, 1] rfl)
    · rw [if_neg c83] at hf
      refine lv_aload_n hx hb dX12_statement_170 rfl (lv_at hl 0 rfl) ?_
      obtain ⟨b96, e97, hf⟩ := mb0 hf
      refine my_gR hx hb hts hown hK hJ fd_RX12_81 hv_12_41 e97 dX12_statement_171 ?_
      refine lv_aload_n hx hb dX12_statement_174 rfl (lv_at hl 0 rfl) ?_
      obtain ⟨x98, e99, hf⟩ := mb0 hf
      refine my_gI hx hb hts hown hK hJ fd_RX12_403 hv_12_38 e99 dX12_statement_175 ?_
      refine lv_iconst (v := 1) hx hb dX12_statement_178 (by decide) ?_
      refine lv_isub hx hb dX12_statement_179 ?_
      refine lv_iload_n hx hb dX12_statement_180 rfl (lv_at hl 1 rfl) ?_
      obtain ⟨σ100, e101, hf⟩ := mb0 hf
      refine mx_sI hx hb hK hJ e101 dX12_statement_181 (fun H locs hJ => ?_)
      refine lv_iconst (v := 0) hx hb dX12_statement_182 (by decide) ?_
      refine lv_istore_n (lv' := [(2, .int (0 : Int32)), (0, .ref v0), (1, .int v1)]) hx hb dX12_statement_183 rfl hl (by decide) rfl (fun ls hl => ?_)
      obtain ⟨o111, e112, hf⟩ := mb0 hf
      refine L184 v0 v1 (mpN P) (0 : Int32) σ100 o111 e112 (fun σ113 ho H locs hJ ls hl => ?_) _ _ hJ ls (lv_sub hl [1, 2, 0] rfl)
      · rw [ho] at hf
        have hf : ((mg_R σ113 v0 12 46).bind fun b114 => (mg_I σ113 v0 12 38).bind fun x116 => (ms_I P σ113 b114 0 (x116 - (1 : Int32)) (0 : Int32)).bind fun σ118 => f_X12_statement_D223 P v0 v1 σ118) = some σ' := hf
        refine lv_aload_n hx hb dX12_statement_211 rfl (lv_at hl 0 rfl) ?_
        obtain ⟨b114, e115, hf⟩ := mb0 hf
        refine my_gR hx hb hts hown hK hJ fd_RX12_96 hv_12_46 e115 dX12_statement_212 ?_
        refine lv_aload_n hx hb dX12_statement_215 rfl (lv_at hl 0 rfl) ?_
        obtain ⟨x116, e117, hf⟩ := mb0 hf
        refine my_gI hx hb hts hown hK hJ fd_RX12_403 hv_12_38 e117 dX12_statement_216 ?_
        refine lv_iconst (v := 1) hx hb dX12_statement_219 (by decide) ?_
        refine lv_isub hx hb dX12_statement_220 ?_
        refine lv_iconst (v := 0) hx hb dX12_statement_221 (by decide) ?_
        obtain ⟨σ118, e119, hf⟩ := mb0 hf
        refine mx_sI hx hb hK hJ e119 dX12_statement_222 (fun H locs hJ => ?_)
        exact D223 v0 v1 σ118 hf _ _ hJ ls (lv_sub hl [0, 1] rfl)
  unfold f_X12_statement at hf
  refine lv_aload_n hx hb dX12_statement_0 rfl (lv_at hl 0 rfl) ?_
  obtain ⟨i1, e2, hf⟩ := mb0 hf
  obtain ⟨x4, σ3, e5, hf⟩ := mc0 hf
  refine mx_callV (As := []) (rest := []) hx hb hml hts hown hK hJ rfl rfl (ci := 12) rfl e2 (c_X12_kindOf l G P a0 σ x4 σ3 e5) me_X12_kindOf kw_2271 ks_86 kw_2269 (Nat.le_of_ble_eq_true rfl) (Nat.le_of_ble_eq_true rfl) rfl hl.1 rfl (Nat.le_of_ble_eq_true rfl) dX12_statement_1 (fun H locs hJ => ?_)
  refine lv_istore_n (lv' := [(1, .int x4), (0, .ref a0)]) hx hb dX12_statement_4 rfl hl (by decide) rfl (fun ls hl => ?_)
  refine lv_iload_n hx hb dX12_statement_5 rfl (lv_at hl 0 rfl) ?_
  refine lv_if_ge (tgt := 19) hx hb dX12_statement_6 (by decide) (fun c6 => ?_) (fun c6 => ?_)
  · rw [if_pos c6] at hf
    refine lv_aload_n hx hb dX12_statement_19 rfl (lv_at hl 1 rfl) ?_
    obtain ⟨i7, e8, hf⟩ := mb0 hf
    obtain ⟨σ9, e10, hf⟩ := mb0 hf
    refine mx_callV (As := []) (rest := []) hx hb hml hts hown hK hJ rfl rfl (ci := 12) rfl e8 (c_X12_scan l G P a0 σ3 σ9 e10) me_X12_scan kw_2243 ks_82 kw_2241 (Nat.le_of_ble_eq_true rfl) (Nat.le_of_ble_eq_true rfl) rfl hl.1 rfl (Nat.le_of_ble_eq_true rfl) dX12_statement_20 (fun H locs hJ => ?_)
    refine lv_aload_n hx hb dX12_statement_23 rfl (lv_at hl 1 rfl) ?_
    refine lv_iconst (v := 1) hx hb dX12_statement_24 (by decide) ?_
    obtain ⟨i11, e12, hf⟩ := mb0 hf
    obtain ⟨x14, σ13, e15, hf⟩ := mc0 hf
    refine mx_callV (As := [.int (1 : Int32)]) (rest := []) hx hb hml hts hown hK hJ rfl rfl (ci := 12) rfl e12 (c_X12_takes l G P a0 (1 : Int32) σ9 x14 σ13 e15) me_X12_takes kw_2291 ks_89 kw_2289 (Nat.le_of_ble_eq_true rfl) (Nat.le_of_ble_eq_true rfl) rfl hl.1 rfl (Nat.le_of_ble_eq_true rfl) dX12_statement_25 (fun H locs hJ => ?_)
    refine lv_if_ne (tgt := 32) hx hb dX12_statement_28 (by decide) (fun c16 => ?_) (fun c16 => ?_)
    · rw [if_neg c16] at hf
      refine lv_iconst (v := 0) hx hb dX12_statement_32 (by decide) ?_
      refine lv_istore_n (lv' := [(2, .int (0 : Int32)), (1, .int x4), (0, .ref a0)]) hx hb dX12_statement_33 rfl hl (by decide) rfl (fun ls hl => ?_)
      obtain ⟨o53, e54, hf⟩ := mb0 hf
      refine L34 a0 x4 (mpN P) (0 : Int32) σ13 o53 e54 (fun σ55 ho H locs hJ ls hl => ?_) _ _ hJ ls (lv_sub hl [2, 1, 0] rfl)
      · rw [ho] at hf
        have hf : ((mg_I σ55 a0 12 38).bind fun x56 => (if x56 < (40 : Int32) then f_X12_statement_D120 P a0 x4 σ55 else (mg_I σ55 a0 12 16).bind fun x120 => (mx_is σ55 a0 12).bind fun i122 => (f_X12_found P a0 (6 : Int32) x120 σ55).bind fun σ124 => f_X12_statement_D120 P a0 x4 σ124)) = some σ' := hf
        refine lv_aload_n hx hb dX12_statement_101 rfl (lv_at hl 0 rfl) ?_
        obtain ⟨x56, e57, hf⟩ := mb0 hf
        refine my_gI hx hb hts hown hK hJ fd_RX12_403 hv_12_38 e57 dX12_statement_102 ?_
        refine lv_bipush (v := 40) hx hb dX12_statement_105 (by decide) ?_
        refine lv_icmp_lt (tgt := 120) hx hb dX12_statement_107 (by decide) (fun c58 => ?_) (fun c58 => ?_)
        · rw [if_pos c58] at hf
          exact D120 a0 x4 σ55 hf _ _ hJ ls (lv_sub hl [0, 1] rfl)
        · rw [if_neg c58] at hf
          refine lv_aload_n hx hb dX12_statement_110 rfl (lv_at hl 0 rfl) ?_
          refine lv_bipush (v := 6) hx hb dX12_statement_111 (by decide) ?_
          refine lv_aload_n hx hb dX12_statement_113 rfl (lv_at hl 0 rfl) ?_
          obtain ⟨x120, e121, hf⟩ := mb0 hf
          refine my_gI hx hb hts hown hK hJ fd_RX12_337 hv_12_16 e121 dX12_statement_114 ?_
          obtain ⟨i122, e123, hf⟩ := mb0 hf
          obtain ⟨σ124, e125, hf⟩ := mb0 hf
          refine mx_callV (As := [.int (6 : Int32), .int x120]) (rest := []) hx hb hml hts hown hK hJ rfl rfl (ci := 12) rfl e123 (c_X12_found l G P a0 (6 : Int32) x120 σ55 σ124 e125) me_X12_found kw_2299 ks_91 kw_2297 (Nat.le_of_ble_eq_true rfl) (Nat.le_of_ble_eq_true rfl) rfl hl.1 rfl (Nat.le_of_ble_eq_true rfl) dX12_statement_117 (fun H locs hJ => ?_)
          exact D120 a0 x4 σ124 hf _ _ hJ ls (lv_sub hl [0, 1] rfl)
    · rw [if_pos c16] at hf
      exact my_vret hx hb hr hlocks hJ hf dX12_statement_31
  · rw [if_neg c6] at hf
    refine lv_aload_n hx hb dX12_statement_9 rfl (lv_at hl 1 rfl) ?_
    refine lv_iconst (v := 1) hx hb dX12_statement_10 (by decide) ?_
    refine lv_aload_n hx hb dX12_statement_11 rfl (lv_at hl 1 rfl) ?_
    obtain ⟨x126, e127, hf⟩ := mb0 hf
    refine my_gI hx hb hts hown hK hJ fd_RX12_337 hv_12_16 e127 dX12_statement_12 ?_
    obtain ⟨i128, e129, hf⟩ := mb0 hf
    obtain ⟨σ130, e131, hf⟩ := mb0 hf
    refine mx_callV (As := [.int (1 : Int32), .int x126]) (rest := []) hx hb hml hts hown hK hJ rfl rfl (ci := 12) rfl e129 (c_X12_wrong l G P a0 (1 : Int32) x126 σ3 σ130 e131) me_X12_wrong kw_2287 ks_88 kw_2285 (Nat.le_of_ble_eq_true rfl) (Nat.le_of_ble_eq_true rfl) rfl hl.1 rfl (Nat.le_of_ble_eq_true rfl) dX12_statement_15 (fun H locs hJ => ?_)
    exact my_vret hx hb hr hlocks hJ hf dX12_statement_18
set_option maxHeartbeats 4000000 in
set_option maxRecDepth 100000 in
theorem c_X12_toldAs (l : Launch) (G : mx_G) (P : mx_P) (a0 : Nat) (p1 : Int32) (p2 : Int32) (σ : mx_S) (r : Int32) (σ' : mx_S) (hf : f_X12_toldAs P a0 p1 p2 σ = some (r, σ')) : mxz σ ≤ mpc P → mxu σ ≤ mps P → mx_M l yX12_toldAs cX12_toldAs 4 (some .int) 1 24 G P [.ref a0, .int p1, .int p2] σ (some (.int r)) σ' := by
  intro hcap hcau
  refine mx_ofW (by decide +kernel) hcap hcau (Nat.le_of_ble_eq_true rfl) ?_
  intro p e s m below meth c hx hb hr hml hts hown hlocks hname hK hJ ls hl
  have hz0 := hJ.2.1
  have hown : s.vm.findClass RX12 = some m.cls := hown
  have hl : lv_has ls 4 [(0, .ref a0), (1, .int p1), (2, .int p2)] := hl
  have D37_2 : ∀ (v0 : Nat) (v1 : Int32) (v2 : Int32) (v3 : Int32) (τ : mx_S) (o : (Int32 × mx_S) ⊕ ((Int32 × mx_S) ⊕ (mx_S))), f_X12_toldAs_D37_2 P v0 v1 v2 v3 τ = some o → (∀ (y3 : Int32) (υ : mx_S), o = .inl (y3, υ) → ∀ (H : Heap) (locs : List Loc), mx_J G P s.heap (mxz σ) (mxu σ) υ H locs → ∀ ls : Array Slot, lv_has ls 4 [(0, .ref v0), (1, .int v1), (2, .int v2), (3, .int y3)] → W p l e (mx_rm P 1 24 σ) s m ([.ref a0, .int p1, .int p2] : List Value).toArray below meth c H locs (mxz υ - mxz σ) (mxu υ - mxu σ) (mx_Z below G P (some (.int r)) σ σ' [.ref a0, .int p1, .int p2] s) (F0 m 2 ls [])) → (∀ (y3 : Int32) (υ : mx_S), o = .inr (.inl (y3, υ)) → ∀ (H : Heap) (locs : List Loc), mx_J G P s.heap (mxz σ) (mxu σ) υ H locs → ∀ ls : Array Slot, lv_has ls 4 [(3, .int y3)] → W p l e (mx_rm P 1 24 σ) s m ([.ref a0, .int p1, .int p2] : List Value).toArray below meth c H locs (mxz υ - mxz σ) (mxu υ - mxu σ) (mx_Z below G P (some (.int r)) σ σ' [.ref a0, .int p1, .int p2] s) (F0 m 35 ls [])) → (∀  (υ : mx_S), o = .inr (.inr υ) → ∀ (H : Heap) (locs : List Loc), mx_J G P s.heap (mxz σ) (mxu σ) υ H locs → ∀ ls : Array Slot, lv_has ls 4 [] → W p l e (mx_rm P 1 24 σ) s m ([.ref a0, .int p1, .int p2] : List Value).toArray below meth c H locs (mxz υ - mxz σ) (mxu υ - mxu σ) (mx_Z below G P (some (.int r)) σ σ' [.ref a0, .int p1, .int p2] s) (F0 m 43 ls [])) → ∀ (H : Heap) (locs : List Loc), mx_J G P s.heap (mxz σ) (mxu σ) τ H locs → ∀ ls : Array Slot, lv_has ls 4 [(0, .ref v0), (1, .int v1), (2, .int v2), (3, .int v3)] → W p l e (mx_rm P 1 24 σ) s m ([.ref a0, .int p1, .int p2] : List Value).toArray below meth c H locs (mxz τ - mxz σ) (mxu τ - mxu σ) (mx_Z below G P (some (.int r)) σ σ' [.ref a0, .int p1, .int p2] s) (F0 m 37 ls []) := by
    intro v0 v1 v2 v3 τ o hf Kb Ke0 Ke1 H locs hJ ls hl
    unfold f_X12_toldAs_D37_2 at hf
    obtain ⟨x9, e10, hf⟩ := mb0 hf
    refine lv_iinc (v := x9) (lv' := [(3, .int x9), (0, .ref v0), (1, .int v1), (2, .int v2)]) hx hb dX12_toldAs_37 hl (k := 3) rfl (by rw [← Option.some.inj e10]; rfl) (by decide) rfl (fun ls hl => ?_)
    refine lv_goto (tgt := 2) hx hb dX12_toldAs_40 (by decide) ?_
    exact Kb x9 τ (Option.some.inj hf).symm _ _ hJ ls (lv_sub hl [1, 2, 3, 0] rfl)
  have B2 : ∀ (v0 : Nat) (v1 : Int32) (v2 : Int32) (v3 : Int32) (τ : mx_S) (o : (Int32 × mx_S) ⊕ ((Int32 × mx_S) ⊕ (mx_S))), f_X12_toldAs_B2 P v0 v1 v2 v3 τ = some o → (∀ (y3 : Int32) (υ : mx_S), o = .inl (y3, υ) → ∀ (H : Heap) (locs : List Loc), mx_J G P s.heap (mxz σ) (mxu σ) υ H locs → ∀ ls : Array Slot, lv_has ls 4 [(0, .ref v0), (1, .int v1), (2, .int v2), (3, .int y3)] → W p l e (mx_rm P 1 24 σ) s m ([.ref a0, .int p1, .int p2] : List Value).toArray below meth c H locs (mxz υ - mxz σ) (mxu υ - mxu σ) (mx_Z below G P (some (.int r)) σ σ' [.ref a0, .int p1, .int p2] s) (F0 m 2 ls [])) → (∀ (y3 : Int32) (υ : mx_S), o = .inr (.inl (y3, υ)) → ∀ (H : Heap) (locs : List Loc), mx_J G P s.heap (mxz σ) (mxu σ) υ H locs → ∀ ls : Array Slot, lv_has ls 4 [(3, .int y3)] → W p l e (mx_rm P 1 24 σ) s m ([.ref a0, .int p1, .int p2] : List Value).toArray below meth c H locs (mxz υ - mxz σ) (mxu υ - mxu σ) (mx_Z below G P (some (.int r)) σ σ' [.ref a0, .int p1, .int p2] s) (F0 m 35 ls [])) → (∀  (υ : mx_S), o = .inr (.inr υ) → ∀ (H : Heap) (locs : List Loc), mx_J G P s.heap (mxz σ) (mxu σ) υ H locs → ∀ ls : Array Slot, lv_has ls 4 [] → W p l e (mx_rm P 1 24 σ) s m ([.ref a0, .int p1, .int p2] : List Value).toArray below meth c H locs (mxz υ - mxz σ) (mxu υ - mxu σ) (mx_Z below G P (some (.int r)) σ σ' [.ref a0, .int p1, .int p2] s) (F0 m 43 ls [])) → ∀ (H : Heap) (locs : List Loc), mx_J G P s.heap (mxz σ) (mxu σ) τ H locs → ∀ ls : Array Slot, lv_has ls 4 [(0, .ref v0), (1, .int v1), (2, .int v2), (3, .int v3)] → W p l e (mx_rm P 1 24 σ) s m ([.ref a0, .int p1, .int p2] : List Value).toArray below meth c H locs (mxz τ - mxz σ) (mxu τ - mxu σ) (mx_Z below G P (some (.int r)) σ σ' [.ref a0, .int p1, .int p2] s) (F0 m 2 ls []) := by
    intro v0 v1 v2 v3 τ o hf Kb Ke0 Ke1 H locs hJ ls hl
    unfold f_X12_toldAs_B2 at hf
    refine lv_iload_n hx hb dX12_toldAs_2 rfl (lv_at hl 3 rfl) ?_
    refine lv_aload_n hx hb dX12_toldAs_3 rfl (lv_at hl 0 rfl) ?_
    obtain ⟨x1, e2, hf⟩ := mb0 hf
    refine my_gI hx hb hts hown hK hJ fd_RX12_403 hv_12_38 e2 dX12_toldAs_4 ?_
    refine lv_icmp_ge (tgt := 43) hx hb dX12_toldAs_7 (by decide) (fun c3 => ?_) (fun c3 => ?_)
    · rw [if_pos c3] at hf
      exact Ke1 τ (Option.some.inj hf).symm _ _ hJ ls (lv_sub hl [] rfl)
    · rw [if_neg c3] at hf
      refine lv_aload_n hx hb dX12_toldAs_10 rfl (lv_at hl 0 rfl) ?_
      obtain ⟨b4, e5, hf⟩ := mb0 hf
      refine my_gR hx hb hts hown hK hJ fd_RX12_78 hv_12_40 e5 dX12_toldAs_11 ?_
      refine lv_iload_n hx hb dX12_toldAs_14 rfl (lv_at hl 3 rfl) ?_
      obtain ⟨x6, e7, hf⟩ := mb0 hf
      refine mx_aI hx hb hK hJ e7 dX12_toldAs_15 ?_
      refine lv_iload_n hx hb dX12_toldAs_16 rfl (lv_at hl 2 rfl) ?_
      refine lv_icmp_ne (tgt := 37) hx hb dX12_toldAs_17 (by decide) (fun c8 => ?_) (fun c8 => ?_)
      · rw [if_neg c8] at hf
        exact D37_2 v0 v1 v2 v3 τ o hf Kb Ke0 Ke1 _ _ hJ ls (lv_sub hl [0, 1, 2, 3] rfl)
      · rw [if_pos c8] at hf
        refine lv_aload_n hx hb dX12_toldAs_20 rfl (lv_at hl 0 rfl) ?_
        refine lv_aload_n hx hb dX12_toldAs_21 rfl (lv_at hl 0 rfl) ?_
        obtain ⟨b11, e12, hf⟩ := mb0 hf
        refine my_gR hx hb hts hown hK hJ fd_RX12_75 hv_12_39 e12 dX12_toldAs_22 ?_
        refine lv_iload_n hx hb dX12_toldAs_25 rfl (lv_at hl 3 rfl) ?_
        obtain ⟨x13, e14, hf⟩ := mb0 hf
        refine mx_aI hx hb hK hJ e14 dX12_toldAs_26 ?_
        refine lv_iload_n hx hb dX12_toldAs_27 rfl (lv_at hl 1 rfl) ?_
        refine lv_iload_n hx hb dX12_toldAs_28 rfl (lv_at hl 2 rfl) ?_
        obtain ⟨i15, e16, hf⟩ := mb0 hf
        obtain ⟨x18, σ17, e19, hf⟩ := mc0 hf
        refine mx_callV (As := [.int x13, .int v1, .int v2]) (rest := []) hx hb hml hts hown hK hJ rfl rfl (ci := 12) rfl e16 (c_X12_sameWord l G P v0 x13 v1 v2 τ x18 σ17 e19) me_X12_sameWord kw_2295 ks_90 kw_2293 (Nat.le_of_ble_eq_true rfl) (Nat.le_of_ble_eq_true rfl) rfl hl.1 rfl (Nat.le_of_ble_eq_true rfl) dX12_toldAs_29 (fun H locs hJ => ?_)
        refine lv_if_eq (tgt := 37) hx hb dX12_toldAs_32 (by decide) (fun c20 => ?_) (fun c20 => ?_)
        · rw [if_pos c20] at hf
          exact D37_2 v0 v1 v2 v3 σ17 o hf Kb Ke0 Ke1 _ _ hJ ls (lv_sub hl [0, 1, 2, 3] rfl)
        · rw [if_neg c20] at hf
          exact Ke0 v3 σ17 (Option.some.inj hf).symm _ _ hJ ls (lv_sub hl [3] rfl)
  have L2 : ∀ (v0 : Nat) (v1 : Int32) (v2 : Int32) (n : Nat) (v3 : Int32) (τ : mx_S) (o : (Int32 × mx_S) ⊕ (mx_S)), mx_lp (f_X12_toldAs_L2 P v0 v1 v2) n (v3, τ) = some o → (∀ (y3 : Int32) (υ : mx_S), o = (.inl (y3, υ)) → ∀ (H : Heap) (locs : List Loc), mx_J G P s.heap (mxz σ) (mxu σ) υ H locs → ∀ ls : Array Slot, lv_has ls 4 [(3, .int y3)] → W p l e (mx_rm P 1 24 σ) s m ([.ref a0, .int p1, .int p2] : List Value).toArray below meth c H locs (mxz υ - mxz σ) (mxu υ - mxu σ) (mx_Z below G P (some (.int r)) σ σ' [.ref a0, .int p1, .int p2] s) (F0 m 35 ls [])) → (∀  (υ : mx_S), o = (.inr υ) → ∀ (H : Heap) (locs : List Loc), mx_J G P s.heap (mxz σ) (mxu σ) υ H locs → ∀ ls : Array Slot, lv_has ls 4 [] → W p l e (mx_rm P 1 24 σ) s m ([.ref a0, .int p1, .int p2] : List Value).toArray below meth c H locs (mxz υ - mxz σ) (mxu υ - mxu σ) (mx_Z below G P (some (.int r)) σ σ' [.ref a0, .int p1, .int p2] s) (F0 m 43 ls [])) → ∀ (H : Heap) (locs : List Loc), mx_J G P s.heap (mxz σ) (mxu σ) τ H locs → ∀ ls : Array Slot, lv_has ls 4 [(0, .ref v0), (1, .int v1), (2, .int v2), (3, .int v3)] → W p l e (mx_rm P 1 24 σ) s m ([.ref a0, .int p1, .int p2] : List Value).toArray below meth c H locs (mxz τ - mxz σ) (mxu τ - mxu σ) (mx_Z below G P (some (.int r)) σ σ' [.ref a0, .int p1, .int p2] s) (F0 m 2 ls []) := by
    intro v0 v1 v2 n
    induction n with
    | zero =>
      intro v3 τ o hf
      rw [mx_lp0] at hf
      cases hf
    | succ n ih =>
      intro v3 τ o hf Ke0 Ke1 H locs hJ ls hl
      rw [mx_lpS] at hf
      obtain ⟨b, eb, hf⟩ := mb0 hf
      refine B2 v0 v1 v2 v3 τ b eb (fun y3 υ ho H locs hJ ls hl => ?_) (fun y3 υ ho H locs hJ ls hl => ?_) (fun  υ ho H locs hJ ls hl => ?_) H locs hJ ls hl
      · subst ho
        exact ih y3 υ o hf Ke0 Ke1 H locs hJ ls hl
      · subst ho
        exact Ke0 y3 υ (Option.some.inj hf).symm _ _ hJ ls hl
      · subst ho
        exact Ke1  υ (Option.some.inj hf).symm _ _ hJ ls hl
  unfold f_X12_toldAs at hf
  refine lv_iconst (v := 0) hx hb dX12_toldAs_0 (by decide) ?_
  refine lv_istore_n (lv' := [(3, .int (0 : Int32)), (0, .ref a0), (1, .int p1), (2, .int p2)]) hx hb dX12_toldAs_1 rfl hl (by decide) rfl (fun ls hl => ?_)
  obtain ⟨o21, e22, hf⟩ := mb0 hf
  refine L2 a0 p1 p2 (mpN P) (0 : Int32) σ o21 e22 (fun y23 σ24 ho H locs hJ ls hl => ?_) (fun σ25 ho H locs hJ ls hl => ?_) _ _ hJ ls (lv_sub hl [1, 2, 3, 0] rfl)
  · rw [ho] at hf
    have hf : (some (y23, σ24)) = some (r, σ') := hf
    refine lv_iload_n hx hb dX12_toldAs_35 rfl (lv_at hl 0 rfl) ?_
    exact my_iret hx hb hr hlocks hJ hf dX12_toldAs_36
  · rw [ho] at hf
    have hf : (some ((-1 : Int32), σ25)) = some (r, σ') := hf
    refine lv_iconst (v := (-1)) hx hb dX12_toldAs_43 (by decide) ?_
    exact my_iret hx hb hr hlocks hJ hf dX12_toldAs_44
set_option maxHeartbeats 4000000 in
set_option maxRecDepth 100000 in
theorem c_X12_findNames (l : Launch) (G : mx_G) (P : mx_P) (a0 : Nat) (σ : mx_S) (σ' : mx_S) (hf : f_X12_findNames P a0 σ = some σ') : mxz σ ≤ mpc P → mxu σ ≤ mps P → mx_M l yX12_findNames cX12_findNames 2 none 2 47 G P [.ref a0] σ none σ' := by
  intro hcap hcau
  refine mx_ofW (by decide +kernel) hcap hcau (Nat.le_of_ble_eq_true rfl) ?_
  intro p e s m below meth c hx hb hr hml hts hown hlocks hname hK hJ ls hl
  have hz0 := hJ.2.1
  have hown : s.vm.findClass RX12 = some m.cls := hown
  have hl : lv_has ls 2 [(0, .ref a0)] := hl
  have D40_2 : ∀ (v0 : Nat) (v1 : Int32) (τ : mx_S) (o : (Int32 × mx_S) ⊕ ((mx_S))), f_X12_findNames_D40_2 P v0 v1 τ = some o → (∀ (y1 : Int32) (υ : mx_S), o = .inl (y1, υ) → ∀ (H : Heap) (locs : List Loc), mx_J G P s.heap (mxz σ) (mxu σ) υ H locs → ∀ ls : Array Slot, lv_has ls 2 [(0, .ref v0), (1, .int y1)] → W p l e (mx_rm P 2 47 σ) s m ([.ref a0] : List Value).toArray below meth c H locs (mxz υ - mxz σ) (mxu υ - mxu σ) (mx_Z below G P none σ σ' [.ref a0] s) (F0 m 2 ls [])) → (∀  (υ : mx_S), o = .inr υ → ∀ (H : Heap) (locs : List Loc), mx_J G P s.heap (mxz σ) (mxu σ) υ H locs → ∀ ls : Array Slot, lv_has ls 2 [] → W p l e (mx_rm P 2 47 σ) s m ([.ref a0] : List Value).toArray below meth c H locs (mxz υ - mxz σ) (mxu υ - mxu σ) (mx_Z below G P none σ σ' [.ref a0] s) (F0 m 46 ls [])) → ∀ (H : Heap) (locs : List Loc), mx_J G P s.heap (mxz σ) (mxu σ) τ H locs → ∀ ls : Array Slot, lv_has ls 2 [(0, .ref v0), (1, .int v1)] → W p l e (mx_rm P 2 47 σ) s m ([.ref a0] : List Value).toArray below meth c H locs (mxz τ - mxz σ) (mxu τ - mxu σ) (mx_Z below G P none σ σ' [.ref a0] s) (F0 m 40 ls []) := by
    intro v0 v1 τ o hf Kb Ke0 H locs hJ ls hl
    unfold f_X12_findNames_D40_2 at hf
    obtain ⟨x18, e19, hf⟩ := mb0 hf
    refine lv_iinc (v := x18) (lv' := [(1, .int x18), (0, .ref v0)]) hx hb dX12_findNames_40 hl (k := 1) rfl (by rw [← Option.some.inj e19]; rfl) (by decide) rfl (fun ls hl => ?_)
    refine lv_goto (tgt := 2) hx hb dX12_findNames_43 (by decide) ?_
    exact Kb x18 τ (Option.some.inj hf).symm _ _ hJ ls (lv_sub hl [1, 0] rfl)
  have B2 : ∀ (v0 : Nat) (v1 : Int32) (τ : mx_S) (o : (Int32 × mx_S) ⊕ ((mx_S))), f_X12_findNames_B2 P v0 v1 τ = some o → (∀ (y1 : Int32) (υ : mx_S), o = .inl (y1, υ) → ∀ (H : Heap) (locs : List Loc), mx_J G P s.heap (mxz σ) (mxu σ) υ H locs → ∀ ls : Array Slot, lv_has ls 2 [(0, .ref v0), (1, .int y1)] → W p l e (mx_rm P 2 47 σ) s m ([.ref a0] : List Value).toArray below meth c H locs (mxz υ - mxz σ) (mxu υ - mxu σ) (mx_Z below G P none σ σ' [.ref a0] s) (F0 m 2 ls [])) → (∀  (υ : mx_S), o = .inr υ → ∀ (H : Heap) (locs : List Loc), mx_J G P s.heap (mxz σ) (mxu σ) υ H locs → ∀ ls : Array Slot, lv_has ls 2 [] → W p l e (mx_rm P 2 47 σ) s m ([.ref a0] : List Value).toArray below meth c H locs (mxz υ - mxz σ) (mxu υ - mxu σ) (mx_Z below G P none σ σ' [.ref a0] s) (F0 m 46 ls [])) → ∀ (H : Heap) (locs : List Loc), mx_J G P s.heap (mxz σ) (mxu σ) τ H locs → ∀ ls : Array Slot, lv_has ls 2 [(0, .ref v0), (1, .int v1)] → W p l e (mx_rm P 2 47 σ) s m ([.ref a0] : List Value).toArray below meth c H locs (mxz τ - mxz σ) (mxu τ - mxu σ) (mx_Z below G P none σ σ' [.ref a0] s) (F0 m 2 ls []) := by
    intro v0 v1 τ o hf Kb Ke0 H locs hJ ls hl
    unfold f_X12_findNames_B2 at hf
    refine lv_iload_n hx hb dX12_findNames_2 rfl (lv_at hl 1 rfl) ?_
    refine lv_aload_n hx hb dX12_findNames_3 rfl (lv_at hl 0 rfl) ?_
    obtain ⟨x1, e2, hf⟩ := mb0 hf
    refine my_gI hx hb hts hown hK hJ fd_RX12_400 hv_12_50 e2 dX12_findNames_4 ?_
    refine lv_icmp_ge (tgt := 46) hx hb dX12_findNames_7 (by decide) (fun c3 => ?_) (fun c3 => ?_)
    · rw [if_pos c3] at hf
      exact Ke0 τ (Option.some.inj hf).symm _ _ hJ ls (lv_sub hl [] rfl)
    · rw [if_neg c3] at hf
      refine lv_aload_n hx hb dX12_findNames_10 rfl (lv_at hl 0 rfl) ?_
      refine lv_aload_n hx hb dX12_findNames_11 rfl (lv_at hl 0 rfl) ?_
      obtain ⟨b4, e5, hf⟩ := mb0 hf
      refine my_gR hx hb hts hown hK hJ fd_RX12_108 hv_12_51 e5 dX12_findNames_12 ?_
      refine lv_iload_n hx hb dX12_findNames_15 rfl (lv_at hl 1 rfl) ?_
      obtain ⟨x6, e7, hf⟩ := mb0 hf
      refine mx_aI hx hb hK hJ e7 dX12_findNames_16 ?_
      refine lv_aload_n hx hb dX12_findNames_17 rfl (lv_at hl 0 rfl) ?_
      obtain ⟨b8, e9, hf⟩ := mb0 hf
      refine my_gR hx hb hts hown hK hJ fd_RX12_111 hv_12_52 e9 dX12_findNames_18 ?_
      refine lv_iload_n hx hb dX12_findNames_21 rfl (lv_at hl 1 rfl) ?_
      obtain ⟨x10, e11, hf⟩ := mb0 hf
      refine mx_aI hx hb hK hJ e11 dX12_findNames_22 ?_
      obtain ⟨i12, e13, hf⟩ := mb0 hf
      obtain ⟨x15, σ14, e16, hf⟩ := mc0 hf
      refine mx_callV (As := [.int x6, .int x10]) (rest := []) hx hb hml hts hown hK hJ rfl rfl (ci := 12) rfl e13 (c_X12_toldAs l G P v0 x6 x10 τ x15 σ14 e16) me_X12_toldAs kw_2336 ks_100 kw_2334 (Nat.le_of_ble_eq_true rfl) (Nat.le_of_ble_eq_true rfl) rfl hl.1 rfl (Nat.le_of_ble_eq_true rfl) dX12_findNames_23 (fun H locs hJ => ?_)
      refine lv_if_ge (tgt := 40) hx hb dX12_findNames_26 (by decide) (fun c17 => ?_) (fun c17 => ?_)
      · rw [if_pos c17] at hf
        exact D40_2 v0 v1 σ14 o hf Kb Ke0 _ _ hJ ls (lv_sub hl [0, 1] rfl)
      · rw [if_neg c17] at hf
        refine lv_aload_n hx hb dX12_findNames_29 rfl (lv_at hl 0 rfl) ?_
        refine lv_iconst (v := 3) hx hb dX12_findNames_30 (by decide) ?_
        refine lv_aload_n hx hb dX12_findNames_31 rfl (lv_at hl 0 rfl) ?_
        obtain ⟨b20, e21, hf⟩ := mb0 hf
        refine my_gR hx hb hts hown hK hJ fd_RX12_108 hv_12_51 e21 dX12_findNames_32 ?_
        refine lv_iload_n hx hb dX12_findNames_35 rfl (lv_at hl 1 rfl) ?_
        obtain ⟨x22, e23, hf⟩ := mb0 hf
        refine mx_aI hx hb hK hJ e23 dX12_findNames_36 ?_
        obtain ⟨i24, e25, hf⟩ := mb0 hf
        obtain ⟨σ26, e27, hf⟩ := mb0 hf
        refine mx_callV (As := [.int (3 : Int32), .int x22]) (rest := []) hx hb hml hts hown hK hJ rfl rfl (ci := 12) rfl e25 (c_X12_found l G P v0 (3 : Int32) x22 σ14 σ26 e27) me_X12_found kw_2299 ks_91 kw_2297 (Nat.le_of_ble_eq_true rfl) (Nat.le_of_ble_eq_true rfl) rfl hl.1 rfl (Nat.le_of_ble_eq_true rfl) dX12_findNames_37 (fun H locs hJ => ?_)
        exact D40_2 v0 v1 σ26 o hf Kb Ke0 _ _ hJ ls (lv_sub hl [0, 1] rfl)
  have L2 : ∀ (v0 : Nat) (n : Nat) (v1 : Int32) (τ : mx_S) (o : (mx_S)), mx_lp (f_X12_findNames_L2 P v0) n (v1, τ) = some o → (∀  (υ : mx_S), o = υ → ∀ (H : Heap) (locs : List Loc), mx_J G P s.heap (mxz σ) (mxu σ) υ H locs → ∀ ls : Array Slot, lv_has ls 2 [] → W p l e (mx_rm P 2 47 σ) s m ([.ref a0] : List Value).toArray below meth c H locs (mxz υ - mxz σ) (mxu υ - mxu σ) (mx_Z below G P none σ σ' [.ref a0] s) (F0 m 46 ls [])) → ∀ (H : Heap) (locs : List Loc), mx_J G P s.heap (mxz σ) (mxu σ) τ H locs → ∀ ls : Array Slot, lv_has ls 2 [(0, .ref v0), (1, .int v1)] → W p l e (mx_rm P 2 47 σ) s m ([.ref a0] : List Value).toArray below meth c H locs (mxz τ - mxz σ) (mxu τ - mxu σ) (mx_Z below G P none σ σ' [.ref a0] s) (F0 m 2 ls []) := by
    intro v0 n
    induction n with
    | zero =>
      intro v1 τ o hf
      rw [mx_lp0] at hf
      cases hf
    | succ n ih =>
      intro v1 τ o hf Ke0 H locs hJ ls hl
      rw [mx_lpS] at hf
      obtain ⟨b, eb, hf⟩ := mb0 hf
      refine B2 v0 v1 τ b eb (fun y1 υ ho H locs hJ ls hl => ?_) (fun  υ ho H locs hJ ls hl => ?_) H locs hJ ls hl
      · subst ho
        exact ih y1 υ o hf Ke0 H locs hJ ls hl
      · subst ho
        exact Ke0  υ (Option.some.inj hf).symm _ _ hJ ls hl
  unfold f_X12_findNames at hf
  refine lv_iconst (v := 0) hx hb dX12_findNames_0 (by decide) ?_
  refine lv_istore_n (lv' := [(1, .int (0 : Int32)), (0, .ref a0)]) hx hb dX12_findNames_1 rfl hl (by decide) rfl (fun ls hl => ?_)
  obtain ⟨o28, e29, hf⟩ := mb0 hf
  refine L2 a0 (mpN P) (0 : Int32) σ o28 e29 (fun σ30 ho H locs hJ ls hl => ?_) _ _ hJ ls (lv_sub hl [1, 0] rfl)
  · rw [ho] at hf
    have hf : (some σ30) = some σ' := hf
    exact my_vret hx hb hr hlocks hJ hf dX12_findNames_46
set_option maxHeartbeats 4000000 in
set_option maxRecDepth 100000 in
theorem c_X12_findOrder (l : Launch) (G : mx_G) (P : mx_P) (a0 : Nat) (σ : mx_S) (σ' : mx_S) (hf : f_X12_findOrder P a0 σ = some σ') : mxz σ ≤ mpc P → mxu σ ≤ mps P → mx_M l yX12_findOrder cX12_findOrder 6 none 1 22 G P [.ref a0] σ none σ' := by
  intro hcap hcau
  refine mx_ofW (by decide +kernel) hcap hcau (Nat.le_of_ble_eq_true rfl) ?_
  intro p e s m below meth c hx hb hr hml hts hown hlocks hname hK hJ ls hl
  have hz0 := hJ.2.1
  have hown : s.vm.findClass RX12 = some m.cls := hown
  have hl : lv_has ls 6 [(0, .ref a0)] := hl
  have B2 : ∀ (v0 : Nat) (v1 : Int32) (τ : mx_S) (o : (Int32 × mx_S) ⊕ ((mx_S))), f_X12_findOrder_B2 P v0 v1 τ = some o → (∀ (y1 : Int32) (υ : mx_S), o = .inl (y1, υ) → ∀ (H : Heap) (locs : List Loc), mx_J G P s.heap (mxz σ) (mxu σ) υ H locs → ∀ ls : Array Slot, lv_has ls 6 [(0, .ref v0), (1, .int y1)] → W p l e (mx_rm P 1 22 σ) s m ([.ref a0] : List Value).toArray below meth c H locs (mxz υ - mxz σ) (mxu υ - mxu σ) (mx_Z below G P none σ σ' [.ref a0] s) (F0 m 2 ls [])) → (∀  (υ : mx_S), o = .inr υ → ∀ (H : Heap) (locs : List Loc), mx_J G P s.heap (mxz σ) (mxu σ) υ H locs → ∀ ls : Array Slot, lv_has ls 6 [(0, .ref v0)] → W p l e (mx_rm P 1 22 σ) s m ([.ref a0] : List Value).toArray below meth c H locs (mxz υ - mxz σ) (mxu υ - mxu σ) (mx_Z below G P none σ σ' [.ref a0] s) (F0 m 23 ls [])) → ∀ (H : Heap) (locs : List Loc), mx_J G P s.heap (mxz σ) (mxu σ) τ H locs → ∀ ls : Array Slot, lv_has ls 6 [(0, .ref v0), (1, .int v1)] → W p l e (mx_rm P 1 22 σ) s m ([.ref a0] : List Value).toArray below meth c H locs (mxz τ - mxz σ) (mxu τ - mxu σ) (mx_Z below G P none σ σ' [.ref a0] s) (F0 m 2 ls []) := by
    intro v0 v1 τ o hf Kb Ke0 H locs hJ ls hl
    unfold f_X12_findOrder_B2 at hf
    refine lv_iload_n hx hb dX12_findOrder_2 rfl (lv_at hl 1 rfl) ?_
    refine lv_aload_n hx hb dX12_findOrder_3 rfl (lv_at hl 0 rfl) ?_
    obtain ⟨x1, e2, hf⟩ := mb0 hf
    refine my_gI hx hb hts hown hK hJ fd_RX12_403 hv_12_38 e2 dX12_findOrder_4 ?_
    refine lv_icmp_ge (tgt := 23) hx hb dX12_findOrder_7 (by decide) (fun c3 => ?_) (fun c3 => ?_)
    · rw [if_pos c3] at hf
      exact Ke0 τ (Option.some.inj hf).symm _ _ hJ ls (lv_sub hl [0] rfl)
    · rw [if_neg c3] at hf
      refine lv_aload_n hx hb dX12_findOrder_10 rfl (lv_at hl 0 rfl) ?_
      obtain ⟨b4, e5, hf⟩ := mb0 hf
      refine my_gR hx hb hts hown hK hJ fd_RX12_105 hv_12_49 e5 dX12_findOrder_11 ?_
      refine lv_iload_n hx hb dX12_findOrder_14 rfl (lv_at hl 1 rfl) ?_
      refine lv_iconst (v := 0) hx hb dX12_findOrder_15 (by decide) ?_
      obtain ⟨σ6, e7, hf⟩ := mb0 hf
      refine mx_sZ hx hb hK hJ e7 dX12_findOrder_16 (fun H locs hJ => ?_)
      obtain ⟨x8, e9, hf⟩ := mb0 hf
      refine lv_iinc (v := x8) (lv' := [(1, .int x8), (0, .ref v0)]) hx hb dX12_findOrder_17 hl (k := 1) rfl (by rw [← Option.some.inj e9]; rfl) (by decide) rfl (fun ls hl => ?_)
      refine lv_goto (tgt := 2) hx hb dX12_findOrder_20 (by decide) ?_
      exact Kb x8 σ6 (Option.some.inj hf).symm _ _ hJ ls (lv_sub hl [1, 0] rfl)
  have L2 : ∀ (v0 : Nat) (n : Nat) (v1 : Int32) (τ : mx_S) (o : (mx_S)), mx_lp (f_X12_findOrder_L2 P v0) n (v1, τ) = some o → (∀  (υ : mx_S), o = υ → ∀ (H : Heap) (locs : List Loc), mx_J G P s.heap (mxz σ) (mxu σ) υ H locs → ∀ ls : Array Slot, lv_has ls 6 [(0, .ref v0)] → W p l e (mx_rm P 1 22 σ) s m ([.ref a0] : List Value).toArray below meth c H locs (mxz υ - mxz σ) (mxu υ - mxu σ) (mx_Z below G P none σ σ' [.ref a0] s) (F0 m 23 ls [])) → ∀ (H : Heap) (locs : List Loc), mx_J G P s.heap (mxz σ) (mxu σ) τ H locs → ∀ ls : Array Slot, lv_has ls 6 [(0, .ref v0), (1, .int v1)] → W p l e (mx_rm P 1 22 σ) s m ([.ref a0] : List Value).toArray below meth c H locs (mxz τ - mxz σ) (mxu τ - mxu σ) (mx_Z below G P none σ σ' [.ref a0] s) (F0 m 2 ls []) := by
    intro v0 n
    induction n with
    | zero =>
      intro v1 τ o hf
      rw [mx_lp0] at hf
      cases hf
    | succ n ih =>
      intro v1 τ o hf Ke0 H locs hJ ls hl
      rw [mx_lpS] at hf
      obtain ⟨b, eb, hf⟩ := mb0 hf
      refine B2 v0 v1 τ b eb (fun y1 υ ho H locs hJ ls hl => ?_) (fun  υ ho H locs hJ ls hl => ?_) H locs hJ ls hl
      · subst ho
        exact ih y1 υ o hf Ke0 H locs hJ ls hl
      · subst ho
        exact Ke0  υ (Option.some.inj hf).symm _ _ hJ ls hl
  have D110_61 : ∀ (v0 : Nat) (v1 : Int32) (v2 : Int32) (v3 : Int32) (v5 : Int32) (w0 : Int32) (τ : mx_S) (o : (Int32 × Int32 × mx_S) ⊕ ((Int32 × mx_S))), f_X12_findOrder_D110_61 P v0 v1 v2 v3 v5 w0 τ = some o → (∀ (y4 : Int32) (y5 : Int32) (υ : mx_S), o = .inl (y4, y5, υ) → ∀ (H : Heap) (locs : List Loc), mx_J G P s.heap (mxz σ) (mxu σ) υ H locs → ∀ ls : Array Slot, lv_has ls 6 [(0, .ref v0), (1, .int v1), (2, .int v2), (3, .int v3), (4, .int y4), (5, .int y5)] → W p l e (mx_rm P 1 22 σ) s m ([.ref a0] : List Value).toArray below meth c H locs (mxz υ - mxz σ) (mxu υ - mxu σ) (mx_Z below G P none σ σ' [.ref a0] s) (F0 m 61 ls [])) → (∀ (y4 : Int32) (υ : mx_S), o = .inr (y4, υ) → ∀ (H : Heap) (locs : List Loc), mx_J G P s.heap (mxz σ) (mxu σ) υ H locs → ∀ ls : Array Slot, lv_has ls 6 [(0, .ref v0), (1, .int v1), (2, .int v2), (3, .int v3), (4, .int y4)] → W p l e (mx_rm P 1 22 σ) s m ([.ref a0] : List Value).toArray below meth c H locs (mxz υ - mxz σ) (mxu υ - mxu σ) (mx_Z below G P none σ σ' [.ref a0] s) (F0 m 118 ls [])) → ∀ (H : Heap) (locs : List Loc), mx_J G P s.heap (mxz σ) (mxu σ) τ H locs → ∀ ls : Array Slot, lv_has ls 6 [(0, .ref v0), (1, .int v1), (2, .int v2), (3, .int v3), (5, .int v5)] → W p l e (mx_rm P 1 22 σ) s m ([.ref a0] : List Value).toArray below meth c H locs (mxz τ - mxz σ) (mxu τ - mxu σ) (mx_Z below G P none σ σ' [.ref a0] s) (F0 m 110 ls [.int w0]) := by
    intro v0 v1 v2 v3 v5 w0 τ o hf Kb Ke0 H locs hJ ls hl
    unfold f_X12_findOrder_D110_61 at hf
    refine lv_istore (lv' := [(4, .int w0), (0, .ref v0), (1, .int v1), (2, .int v2), (3, .int v3), (5, .int v5)]) hx hb dX12_findOrder_110 hl (by decide) rfl (fun ls hl => ?_)
    obtain ⟨x24, e25, hf⟩ := mb0 hf
    refine lv_iinc (v := x24) (lv' := [(5, .int x24), (4, .int w0), (0, .ref v0), (1, .int v1), (2, .int v2), (3, .int v3)]) hx hb dX12_findOrder_112 hl (k := 5) rfl (by rw [← Option.some.inj e25]; rfl) (by decide) rfl (fun ls hl => ?_)
    refine lv_goto (tgt := 61) hx hb dX12_findOrder_115 (by decide) ?_
    exact Kb w0 x24 τ (Option.some.inj hf).symm _ _ hJ ls (lv_sub hl [2, 3, 4, 5, 1, 0] rfl)
  have D109_61 : ∀ (v0 : Nat) (v1 : Int32) (v2 : Int32) (v3 : Int32) (v5 : Int32) (τ : mx_S) (o : (Int32 × Int32 × mx_S) ⊕ ((Int32 × mx_S))), f_X12_findOrder_D109_61 P v0 v1 v2 v3 v5 τ = some o → (∀ (y4 : Int32) (y5 : Int32) (υ : mx_S), o = .inl (y4, y5, υ) → ∀ (H : Heap) (locs : List Loc), mx_J G P s.heap (mxz σ) (mxu σ) υ H locs → ∀ ls : Array Slot, lv_has ls 6 [(0, .ref v0), (1, .int v1), (2, .int v2), (3, .int v3), (4, .int y4), (5, .int y5)] → W p l e (mx_rm P 1 22 σ) s m ([.ref a0] : List Value).toArray below meth c H locs (mxz υ - mxz σ) (mxu υ - mxu σ) (mx_Z below G P none σ σ' [.ref a0] s) (F0 m 61 ls [])) → (∀ (y4 : Int32) (υ : mx_S), o = .inr (y4, υ) → ∀ (H : Heap) (locs : List Loc), mx_J G P s.heap (mxz σ) (mxu σ) υ H locs → ∀ ls : Array Slot, lv_has ls 6 [(0, .ref v0), (1, .int v1), (2, .int v2), (3, .int v3), (4, .int y4)] → W p l e (mx_rm P 1 22 σ) s m ([.ref a0] : List Value).toArray below meth c H locs (mxz υ - mxz σ) (mxu υ - mxu σ) (mx_Z below G P none σ σ' [.ref a0] s) (F0 m 118 ls [])) → ∀ (H : Heap) (locs : List Loc), mx_J G P s.heap (mxz σ) (mxu σ) τ H locs → ∀ ls : Array Slot, lv_has ls 6 [(0, .ref v0), (1, .int v1), (2, .int v2), (3, .int v3), (5, .int v5)] → W p l e (mx_rm P 1 22 σ) s m ([.ref a0] : List Value).toArray below meth c H locs (mxz τ - mxz σ) (mxu τ - mxu σ) (mx_Z below G P none σ σ' [.ref a0] s) (F0 m 109 ls []) := by
    intro v0 v1 v2 v3 v5 τ o hf Kb Ke0 H locs hJ ls hl
    unfold f_X12_findOrder_D109_61 at hf
    refine lv_iconst (v := 0) hx hb dX12_findOrder_109 (by decide) ?_
    exact D110_61 v0 v1 v2 v3 v5 (0 : Int32) τ o hf Kb Ke0 _ _ hJ ls (lv_sub hl [0, 1, 2, 3, 4] rfl)
  have D105_61 : ∀ (v0 : Nat) (v1 : Int32) (v2 : Int32) (v3 : Int32) (v5 : Int32) (τ : mx_S) (o : (Int32 × Int32 × mx_S) ⊕ ((Int32 × mx_S))), f_X12_findOrder_D105_61 P v0 v1 v2 v3 v5 τ = some o → (∀ (y4 : Int32) (y5 : Int32) (υ : mx_S), o = .inl (y4, y5, υ) → ∀ (H : Heap) (locs : List Loc), mx_J G P s.heap (mxz σ) (mxu σ) υ H locs → ∀ ls : Array Slot, lv_has ls 6 [(0, .ref v0), (1, .int v1), (2, .int v2), (3, .int v3), (4, .int y4), (5, .int y5)] → W p l e (mx_rm P 1 22 σ) s m ([.ref a0] : List Value).toArray below meth c H locs (mxz υ - mxz σ) (mxu υ - mxu σ) (mx_Z below G P none σ σ' [.ref a0] s) (F0 m 61 ls [])) → (∀ (y4 : Int32) (υ : mx_S), o = .inr (y4, υ) → ∀ (H : Heap) (locs : List Loc), mx_J G P s.heap (mxz σ) (mxu σ) υ H locs → ∀ ls : Array Slot, lv_has ls 6 [(0, .ref v0), (1, .int v1), (2, .int v2), (3, .int v3), (4, .int y4)] → W p l e (mx_rm P 1 22 σ) s m ([.ref a0] : List Value).toArray below meth c H locs (mxz υ - mxz σ) (mxu υ - mxu σ) (mx_Z below G P none σ σ' [.ref a0] s) (F0 m 118 ls [])) → ∀ (H : Heap) (locs : List Loc), mx_J G P s.heap (mxz σ) (mxu σ) τ H locs → ∀ ls : Array Slot, lv_has ls 6 [(0, .ref v0), (1, .int v1), (2, .int v2), (3, .int v3), (5, .int v5)] → W p l e (mx_rm P 1 22 σ) s m ([.ref a0] : List Value).toArray below meth c H locs (mxz τ - mxz σ) (mxu τ - mxu σ) (mx_Z below G P none σ σ' [.ref a0] s) (F0 m 105 ls []) := by
    intro v0 v1 v2 v3 v5 τ o hf Kb Ke0 H locs hJ ls hl
    unfold f_X12_findOrder_D105_61 at hf
    refine lv_iconst (v := 1) hx hb dX12_findOrder_105 (by decide) ?_
    refine lv_goto (tgt := 110) hx hb dX12_findOrder_106 (by decide) ?_
    exact D110_61 v0 v1 v2 v3 v5 (1 : Int32) τ o hf Kb Ke0 _ _ hJ ls (lv_sub hl [0, 1, 2, 3, 4] rfl)
  have B61 : ∀ (v0 : Nat) (v1 : Int32) (v2 : Int32) (v3 : Int32) (v4 : Int32) (v5 : Int32) (τ : mx_S) (o : (Int32 × Int32 × mx_S) ⊕ ((Int32 × mx_S))), f_X12_findOrder_B61 P v0 v1 v2 v3 v4 v5 τ = some o → (∀ (y4 : Int32) (y5 : Int32) (υ : mx_S), o = .inl (y4, y5, υ) → ∀ (H : Heap) (locs : List Loc), mx_J G P s.heap (mxz σ) (mxu σ) υ H locs → ∀ ls : Array Slot, lv_has ls 6 [(0, .ref v0), (1, .int v1), (2, .int v2), (3, .int v3), (4, .int y4), (5, .int y5)] → W p l e (mx_rm P 1 22 σ) s m ([.ref a0] : List Value).toArray below meth c H locs (mxz υ - mxz σ) (mxu υ - mxu σ) (mx_Z below G P none σ σ' [.ref a0] s) (F0 m 61 ls [])) → (∀ (y4 : Int32) (υ : mx_S), o = .inr (y4, υ) → ∀ (H : Heap) (locs : List Loc), mx_J G P s.heap (mxz σ) (mxu σ) υ H locs → ∀ ls : Array Slot, lv_has ls 6 [(0, .ref v0), (1, .int v1), (2, .int v2), (3, .int v3), (4, .int y4)] → W p l e (mx_rm P 1 22 σ) s m ([.ref a0] : List Value).toArray below meth c H locs (mxz υ - mxz σ) (mxu υ - mxu σ) (mx_Z below G P none σ σ' [.ref a0] s) (F0 m 118 ls [])) → ∀ (H : Heap) (locs : List Loc), mx_J G P s.heap (mxz σ) (mxu σ) τ H locs → ∀ ls : Array Slot, lv_has ls 6 [(0, .ref v0), (1, .int v1), (2, .int v2), (3, .int v3), (4, .int v4), (5, .int v5)] → W p l e (mx_rm P 1 22 σ) s m ([.ref a0] : List Value).toArray below meth c H locs (mxz τ - mxz σ) (mxu τ - mxu σ) (mx_Z below G P none σ σ' [.ref a0] s) (F0 m 61 ls []) := by
    intro v0 v1 v2 v3 v4 v5 τ o hf Kb Ke0 H locs hJ ls hl
    unfold f_X12_findOrder_B61 at hf
    refine lv_iload hx hb dX12_findOrder_61 (lv_at hl 5 rfl) ?_
    refine lv_iconst (v := 4) hx hb dX12_findOrder_63 (by decide) ?_
    refine lv_icmp_ge (tgt := 118) hx hb dX12_findOrder_64 (by decide) (fun c22 => ?_) (fun c22 => ?_)
    · rw [if_pos c22] at hf
      exact Ke0 v4 τ (Option.some.inj hf).symm _ _ hJ ls (lv_sub hl [0, 1, 2, 3, 4] rfl)
    · rw [if_neg c22] at hf
      refine lv_iload hx hb dX12_findOrder_67 (lv_at hl 4 rfl) ?_
      refine lv_if_eq (tgt := 109) hx hb dX12_findOrder_69 (by decide) (fun c23 => ?_) (fun c23 => ?_)
      · rw [if_pos c23] at hf
        exact D109_61 v0 v1 v2 v3 v5 τ o hf Kb Ke0 _ _ hJ ls (lv_sub hl [0, 1, 2, 3, 5] rfl)
      · rw [if_neg c23] at hf
        refine lv_aload_n hx hb dX12_findOrder_72 rfl (lv_at hl 0 rfl) ?_
        obtain ⟨b26, e27, hf⟩ := mb0 hf
        refine my_gR hx hb hts hown hK hJ fd_RX12_99 hv_12_47 e27 dX12_findOrder_73 ?_
        refine lv_iconst (v := 4) hx hb dX12_findOrder_76 (by decide) ?_
        refine lv_iload_n hx hb dX12_findOrder_77 rfl (lv_at hl 3 rfl) ?_
        refine lv_imul hx hb dX12_findOrder_78 ?_
        refine lv_iload hx hb dX12_findOrder_79 (lv_at hl 5 rfl) ?_
        refine lv_iadd hx hb dX12_findOrder_81 ?_
        obtain ⟨x28, e29, hf⟩ := mb0 hf
        refine mx_aI hx hb hK hJ e29 dX12_findOrder_82 ?_
        refine lv_if_lt (tgt := 105) hx hb dX12_findOrder_83 (by decide) (fun c30 => ?_) (fun c30 => ?_)
        · rw [if_pos c30] at hf
          exact D105_61 v0 v1 v2 v3 v5 τ o hf Kb Ke0 _ _ hJ ls (lv_sub hl [0, 1, 2, 3, 5] rfl)
        · rw [if_neg c30] at hf
          refine lv_aload_n hx hb dX12_findOrder_86 rfl (lv_at hl 0 rfl) ?_
          obtain ⟨b31, e32, hf⟩ := mb0 hf
          refine my_gR hx hb hts hown hK hJ fd_RX12_105 hv_12_49 e32 dX12_findOrder_87 ?_
          refine lv_aload_n hx hb dX12_findOrder_90 rfl (lv_at hl 0 rfl) ?_
          obtain ⟨b33, e34, hf⟩ := mb0 hf
          refine my_gR hx hb hts hown hK hJ fd_RX12_99 hv_12_47 e34 dX12_findOrder_91 ?_
          refine lv_iconst (v := 4) hx hb dX12_findOrder_94 (by decide) ?_
          refine lv_iload_n hx hb dX12_findOrder_95 rfl (lv_at hl 3 rfl) ?_
          refine lv_imul hx hb dX12_findOrder_96 ?_
          refine lv_iload hx hb dX12_findOrder_97 (lv_at hl 5 rfl) ?_
          refine lv_iadd hx hb dX12_findOrder_99 ?_
          obtain ⟨x35, e36, hf⟩ := mb0 hf
          refine mx_aI hx hb hK hJ e36 dX12_findOrder_100 ?_
          obtain ⟨x37, e38, hf⟩ := mb0 hf
          refine mx_aZ hx hb hK hJ e38 dX12_findOrder_101 ?_
          refine lv_if_eq (tgt := 109) hx hb dX12_findOrder_102 (by decide) (fun c39 => ?_) (fun c39 => ?_)
          · rw [if_pos c39] at hf
            exact D109_61 v0 v1 v2 v3 v5 τ o hf Kb Ke0 _ _ hJ ls (lv_sub hl [0, 1, 2, 3, 5] rfl)
          · rw [if_neg c39] at hf
            exact D105_61 v0 v1 v2 v3 v5 τ o hf Kb Ke0 _ _ hJ ls (lv_sub hl [0, 1, 2, 3, 5] rfl)
  have L61 : ∀ (v0 : Nat) (v1 : Int32) (v2 : Int32) (v3 : Int32) (n : Nat) (v4 : Int32) (v5 : Int32) (τ : mx_S) (o : (Int32 × mx_S)), mx_lp (f_X12_findOrder_L61 P v0 v1 v2 v3) n (v4, v5, τ) = some o → (∀ (y4 : Int32) (υ : mx_S), o = (y4, υ) → ∀ (H : Heap) (locs : List Loc), mx_J G P s.heap (mxz σ) (mxu σ) υ H locs → ∀ ls : Array Slot, lv_has ls 6 [(0, .ref v0), (1, .int v1), (2, .int v2), (3, .int v3), (4, .int y4)] → W p l e (mx_rm P 1 22 σ) s m ([.ref a0] : List Value).toArray below meth c H locs (mxz υ - mxz σ) (mxu υ - mxu σ) (mx_Z below G P none σ σ' [.ref a0] s) (F0 m 118 ls [])) → ∀ (H : Heap) (locs : List Loc), mx_J G P s.heap (mxz σ) (mxu σ) τ H locs → ∀ ls : Array Slot, lv_has ls 6 [(0, .ref v0), (1, .int v1), (2, .int v2), (3, .int v3), (4, .int v4), (5, .int v5)] → W p l e (mx_rm P 1 22 σ) s m ([.ref a0] : List Value).toArray below meth c H locs (mxz τ - mxz σ) (mxu τ - mxu σ) (mx_Z below G P none σ σ' [.ref a0] s) (F0 m 61 ls []) := by
    intro v0 v1 v2 v3 n
    induction n with
    | zero =>
      intro v4 v5 τ o hf
      rw [mx_lp0] at hf
      cases hf
    | succ n ih =>
      intro v4 v5 τ o hf Ke0 H locs hJ ls hl
      rw [mx_lpS] at hf
      obtain ⟨b, eb, hf⟩ := mb0 hf
      refine B61 v0 v1 v2 v3 v4 v5 τ b eb (fun y4 y5 υ ho H locs hJ ls hl => ?_) (fun y4 υ ho H locs hJ ls hl => ?_) H locs hJ ls hl
      · subst ho
        exact ih y4 y5 υ o hf Ke0 H locs hJ ls hl
      · subst ho
        exact Ke0 y4 υ (Option.some.inj hf).symm _ _ hJ ls hl
  have D145_35 : ∀ (v0 : Nat) (v1 : Int32) (v2 : Int32) (v3 : Int32) (τ : mx_S) (o : (Int32 × Int32 × Int32 × mx_S) ⊕ ((Int32 × Int32 × mx_S))), f_X12_findOrder_D145_35 P v0 v1 v2 v3 τ = some o → (∀ (y1 : Int32) (y2 : Int32) (y3 : Int32) (υ : mx_S), o = .inl (y1, y2, y3, υ) → ∀ (H : Heap) (locs : List Loc), mx_J G P s.heap (mxz σ) (mxu σ) υ H locs → ∀ ls : Array Slot, lv_has ls 6 [(0, .ref v0), (1, .int y1), (2, .int y2), (3, .int y3)] → W p l e (mx_rm P 1 22 σ) s m ([.ref a0] : List Value).toArray below meth c H locs (mxz υ - mxz σ) (mxu υ - mxu σ) (mx_Z below G P none σ σ' [.ref a0] s) (F0 m 35 ls [])) → (∀ (y1 : Int32) (y2 : Int32) (υ : mx_S), o = .inr (y1, y2, υ) → ∀ (H : Heap) (locs : List Loc), mx_J G P s.heap (mxz σ) (mxu σ) υ H locs → ∀ ls : Array Slot, lv_has ls 6 [(0, .ref v0), (1, .int y1), (2, .int y2)] → W p l e (mx_rm P 1 22 σ) s m ([.ref a0] : List Value).toArray below meth c H locs (mxz υ - mxz σ) (mxu υ - mxu σ) (mx_Z below G P none σ σ' [.ref a0] s) (F0 m 151 ls [])) → ∀ (H : Heap) (locs : List Loc), mx_J G P s.heap (mxz σ) (mxu σ) τ H locs → ∀ ls : Array Slot, lv_has ls 6 [(0, .ref v0), (1, .int v1), (2, .int v2), (3, .int v3)] → W p l e (mx_rm P 1 22 σ) s m ([.ref a0] : List Value).toArray below meth c H locs (mxz τ - mxz σ) (mxu τ - mxu σ) (mx_Z below G P none σ σ' [.ref a0] s) (F0 m 145 ls []) := by
    intro v0 v1 v2 v3 τ o hf Kb Ke0 H locs hJ ls hl
    unfold f_X12_findOrder_D145_35 at hf
    obtain ⟨x55, e56, hf⟩ := mb0 hf
    refine lv_iinc (v := x55) (lv' := [(3, .int x55), (0, .ref v0), (1, .int v1), (2, .int v2)]) hx hb dX12_findOrder_145 hl (k := 3) rfl (by rw [← Option.some.inj e56]; rfl) (by decide) rfl (fun ls hl => ?_)
    refine lv_goto (tgt := 35) hx hb dX12_findOrder_148 (by decide) ?_
    exact Kb v1 v2 x55 τ (Option.some.inj hf).symm _ _ hJ ls (lv_sub hl [1, 2, 3, 0] rfl)
  have B35 : ∀ (v0 : Nat) (v1 : Int32) (v2 : Int32) (v3 : Int32) (τ : mx_S) (o : (Int32 × Int32 × Int32 × mx_S) ⊕ ((Int32 × Int32 × mx_S))), f_X12_findOrder_B35 P v0 v1 v2 v3 τ = some o → (∀ (y1 : Int32) (y2 : Int32) (y3 : Int32) (υ : mx_S), o = .inl (y1, y2, y3, υ) → ∀ (H : Heap) (locs : List Loc), mx_J G P s.heap (mxz σ) (mxu σ) υ H locs → ∀ ls : Array Slot, lv_has ls 6 [(0, .ref v0), (1, .int y1), (2, .int y2), (3, .int y3)] → W p l e (mx_rm P 1 22 σ) s m ([.ref a0] : List Value).toArray below meth c H locs (mxz υ - mxz σ) (mxu υ - mxu σ) (mx_Z below G P none σ σ' [.ref a0] s) (F0 m 35 ls [])) → (∀ (y1 : Int32) (y2 : Int32) (υ : mx_S), o = .inr (y1, y2, υ) → ∀ (H : Heap) (locs : List Loc), mx_J G P s.heap (mxz σ) (mxu σ) υ H locs → ∀ ls : Array Slot, lv_has ls 6 [(0, .ref v0), (1, .int y1), (2, .int y2)] → W p l e (mx_rm P 1 22 σ) s m ([.ref a0] : List Value).toArray below meth c H locs (mxz υ - mxz σ) (mxu υ - mxu σ) (mx_Z below G P none σ σ' [.ref a0] s) (F0 m 151 ls [])) → ∀ (H : Heap) (locs : List Loc), mx_J G P s.heap (mxz σ) (mxu σ) τ H locs → ∀ ls : Array Slot, lv_has ls 6 [(0, .ref v0), (1, .int v1), (2, .int v2), (3, .int v3)] → W p l e (mx_rm P 1 22 σ) s m ([.ref a0] : List Value).toArray below meth c H locs (mxz τ - mxz σ) (mxu τ - mxu σ) (mx_Z below G P none σ σ' [.ref a0] s) (F0 m 35 ls []) := by
    intro v0 v1 v2 v3 τ o hf Kb Ke0 H locs hJ ls hl
    unfold f_X12_findOrder_B35 at hf
    refine lv_iload_n hx hb dX12_findOrder_35 rfl (lv_at hl 3 rfl) ?_
    refine lv_aload_n hx hb dX12_findOrder_36 rfl (lv_at hl 0 rfl) ?_
    obtain ⟨x14, e15, hf⟩ := mb0 hf
    refine my_gI hx hb hts hown hK hJ fd_RX12_403 hv_12_38 e15 dX12_findOrder_37 ?_
    refine lv_icmp_ge (tgt := 151) hx hb dX12_findOrder_40 (by decide) (fun c16 => ?_) (fun c16 => ?_)
    · rw [if_pos c16] at hf
      exact Ke0 v1 v2 τ (Option.some.inj hf).symm _ _ hJ ls (lv_sub hl [0, 1, 2] rfl)
    · rw [if_neg c16] at hf
      refine lv_aload_n hx hb dX12_findOrder_43 rfl (lv_at hl 0 rfl) ?_
      obtain ⟨b17, e18, hf⟩ := mb0 hf
      refine my_gR hx hb hts hown hK hJ fd_RX12_105 hv_12_49 e18 dX12_findOrder_44 ?_
      refine lv_iload_n hx hb dX12_findOrder_47 rfl (lv_at hl 3 rfl) ?_
      obtain ⟨x19, e20, hf⟩ := mb0 hf
      refine mx_aZ hx hb hK hJ e20 dX12_findOrder_48 ?_
      refine lv_if_eq (tgt := 55) hx hb dX12_findOrder_49 (by decide) (fun c21 => ?_) (fun c21 => ?_)
      · rw [if_pos c21] at hf
        refine lv_iconst (v := 1) hx hb dX12_findOrder_55 (by decide) ?_
        refine lv_istore (lv' := [(4, .int (1 : Int32)), (0, .ref v0), (1, .int v1), (2, .int v2), (3, .int v3)]) hx hb dX12_findOrder_56 hl (by decide) rfl (fun ls hl => ?_)
        refine lv_iconst (v := 0) hx hb dX12_findOrder_58 (by decide) ?_
        refine lv_istore (lv' := [(5, .int (0 : Int32)), (4, .int (1 : Int32)), (0, .ref v0), (1, .int v1), (2, .int v2), (3, .int v3)]) hx hb dX12_findOrder_59 hl (by decide) rfl (fun ls hl => ?_)
        obtain ⟨o40, e41, hf⟩ := mb0 hf
        refine L61 v0 v1 v2 v3 (mpN P) (1 : Int32) (0 : Int32) τ o40 e41 (fun y42 σ43 ho H locs hJ ls hl => ?_) _ _ hJ ls (lv_sub hl [2, 3, 4, 5, 1, 0] rfl)
        · rw [ho] at hf
          have hf : ((if y42 = 0 then f_X12_findOrder_D145_35 P v0 v1 v2 v3 σ43 else (mg_R σ43 v0 12 49).bind fun b45 => (ms_I P σ43 b45 3 v3 (vp_nar .boolean (1 : Int32))).bind fun σ47 => (mg_R σ47 v0 12 48).bind fun b49 => (ms_I P σ47 b49 0 v1 v3).bind fun σ51 => (some (v1 + (1 : Int32))).bind fun x53 => f_X12_findOrder_D145_35 P v0 x53 (1 : Int32) v3 σ51)) = some o := hf
          refine lv_iload hx hb dX12_findOrder_118 (lv_at hl 4 rfl) ?_
          refine lv_if_ne (tgt := 126) hx hb dX12_findOrder_120 (by decide) (fun c44 => ?_) (fun c44 => ?_)
          · rw [if_neg c44] at hf
            refine lv_aload_n hx hb dX12_findOrder_126 rfl (lv_at hl 0 rfl) ?_
            obtain ⟨b45, e46, hf⟩ := mb0 hf
            refine my_gR hx hb hts hown hK hJ fd_RX12_105 hv_12_49 e46 dX12_findOrder_127 ?_
            refine lv_iload_n hx hb dX12_findOrder_130 rfl (lv_at hl 3 rfl) ?_
            refine lv_iconst (v := 1) hx hb dX12_findOrder_131 (by decide) ?_
            obtain ⟨σ47, e48, hf⟩ := mb0 hf
            refine mx_sZ hx hb hK hJ e48 dX12_findOrder_132 (fun H locs hJ => ?_)
            refine lv_aload_n hx hb dX12_findOrder_133 rfl (lv_at hl 0 rfl) ?_
            obtain ⟨b49, e50, hf⟩ := mb0 hf
            refine my_gR hx hb hts hown hK hJ fd_RX12_102 hv_12_48 e50 dX12_findOrder_134 ?_
            refine lv_iload_n hx hb dX12_findOrder_137 rfl (lv_at hl 1 rfl) ?_
            refine lv_iload_n hx hb dX12_findOrder_138 rfl (lv_at hl 3 rfl) ?_
            obtain ⟨σ51, e52, hf⟩ := mb0 hf
            refine mx_sI hx hb hK hJ e52 dX12_findOrder_139 (fun H locs hJ => ?_)
            obtain ⟨x53, e54, hf⟩ := mb0 hf
            refine lv_iinc (v := x53) (lv' := [(1, .int x53), (0, .ref v0), (2, .int v2), (3, .int v3), (4, .int y42)]) hx hb dX12_findOrder_140 hl (k := 1) rfl (by rw [← Option.some.inj e54]; rfl) (by decide) rfl (fun ls hl => ?_)
            refine lv_iconst (v := 1) hx hb dX12_findOrder_143 (by decide) ?_
            refine lv_istore_n (lv' := [(2, .int (1 : Int32)), (1, .int x53), (0, .ref v0), (3, .int v3), (4, .int y42)]) hx hb dX12_findOrder_144 rfl hl (by decide) rfl (fun ls hl => ?_)
            exact D145_35 v0 x53 (1 : Int32) v3 σ51 o hf Kb Ke0 _ _ hJ ls (lv_sub hl [2, 1, 0, 3] rfl)
          · rw [if_pos c44] at hf
            refine lv_goto (tgt := 145) hx hb dX12_findOrder_123 (by decide) ?_
            exact D145_35 v0 v1 v2 v3 σ43 o hf Kb Ke0 _ _ hJ ls (lv_sub hl [0, 1, 2, 3] rfl)
      · rw [if_neg c21] at hf
        refine lv_goto (tgt := 145) hx hb dX12_findOrder_52 (by decide) ?_
        exact D145_35 v0 v1 v2 v3 τ o hf Kb Ke0 _ _ hJ ls (lv_sub hl [0, 1, 2, 3] rfl)
  have L35 : ∀ (v0 : Nat) (n : Nat) (v1 : Int32) (v2 : Int32) (v3 : Int32) (τ : mx_S) (o : (Int32 × Int32 × mx_S)), mx_lp (f_X12_findOrder_L35 P v0) n (v1, v2, v3, τ) = some o → (∀ (y1 : Int32) (y2 : Int32) (υ : mx_S), o = (y1, y2, υ) → ∀ (H : Heap) (locs : List Loc), mx_J G P s.heap (mxz σ) (mxu σ) υ H locs → ∀ ls : Array Slot, lv_has ls 6 [(0, .ref v0), (1, .int y1), (2, .int y2)] → W p l e (mx_rm P 1 22 σ) s m ([.ref a0] : List Value).toArray below meth c H locs (mxz υ - mxz σ) (mxu υ - mxu σ) (mx_Z below G P none σ σ' [.ref a0] s) (F0 m 151 ls [])) → ∀ (H : Heap) (locs : List Loc), mx_J G P s.heap (mxz σ) (mxu σ) τ H locs → ∀ ls : Array Slot, lv_has ls 6 [(0, .ref v0), (1, .int v1), (2, .int v2), (3, .int v3)] → W p l e (mx_rm P 1 22 σ) s m ([.ref a0] : List Value).toArray below meth c H locs (mxz τ - mxz σ) (mxu τ - mxu σ) (mx_Z below G P none σ σ' [.ref a0] s) (F0 m 35 ls []) := by
    intro v0 n
    induction n with
    | zero =>
      intro v1 v2 v3 τ o hf
      rw [mx_lp0] at hf
      cases hf
    | succ n ih =>
      intro v1 v2 v3 τ o hf Ke0 H locs hJ ls hl
      rw [mx_lpS] at hf
      obtain ⟨b, eb, hf⟩ := mb0 hf
      refine B35 v0 v1 v2 v3 τ b eb (fun y1 y2 y3 υ ho H locs hJ ls hl => ?_) (fun y1 y2 υ ho H locs hJ ls hl => ?_) H locs hJ ls hl
      · subst ho
        exact ih y1 y2 y3 υ o hf Ke0 H locs hJ ls hl
      · subst ho
        exact Ke0 y1 y2 υ (Option.some.inj hf).symm _ _ hJ ls hl
  have B27 : ∀ (v0 : Nat) (v1 : Int32) (v2 : Int32) (τ : mx_S) (o : (Int32 × Int32 × mx_S) ⊕ ((mx_S))), f_X12_findOrder_B27 P v0 v1 v2 τ = some o → (∀ (y1 : Int32) (y2 : Int32) (υ : mx_S), o = .inl (y1, y2, υ) → ∀ (H : Heap) (locs : List Loc), mx_J G P s.heap (mxz σ) (mxu σ) υ H locs → ∀ ls : Array Slot, lv_has ls 6 [(0, .ref v0), (1, .int y1), (2, .int y2)] → W p l e (mx_rm P 1 22 σ) s m ([.ref a0] : List Value).toArray below meth c H locs (mxz υ - mxz σ) (mxu υ - mxu σ) (mx_Z below G P none σ σ' [.ref a0] s) (F0 m 27 ls [])) → (∀  (υ : mx_S), o = .inr υ → ∀ (H : Heap) (locs : List Loc), mx_J G P s.heap (mxz σ) (mxu σ) υ H locs → ∀ ls : Array Slot, lv_has ls 6 [(0, .ref v0)] → W p l e (mx_rm P 1 22 σ) s m ([.ref a0] : List Value).toArray below meth c H locs (mxz υ - mxz σ) (mxu υ - mxu σ) (mx_Z below G P none σ σ' [.ref a0] s) (F0 m 154 ls [])) → ∀ (H : Heap) (locs : List Loc), mx_J G P s.heap (mxz σ) (mxu σ) τ H locs → ∀ ls : Array Slot, lv_has ls 6 [(0, .ref v0), (1, .int v1), (2, .int v2)] → W p l e (mx_rm P 1 22 σ) s m ([.ref a0] : List Value).toArray below meth c H locs (mxz τ - mxz σ) (mxu τ - mxu σ) (mx_Z below G P none σ σ' [.ref a0] s) (F0 m 27 ls []) := by
    intro v0 v1 v2 τ o hf Kb Ke0 H locs hJ ls hl
    unfold f_X12_findOrder_B27 at hf
    refine lv_iload_n hx hb dX12_findOrder_27 rfl (lv_at hl 2 rfl) ?_
    refine lv_if_eq (tgt := 154) hx hb dX12_findOrder_28 (by decide) (fun c13 => ?_) (fun c13 => ?_)
    · rw [if_pos c13] at hf
      exact Ke0 τ (Option.some.inj hf).symm _ _ hJ ls (lv_sub hl [0] rfl)
    · rw [if_neg c13] at hf
      refine lv_iconst (v := 0) hx hb dX12_findOrder_31 (by decide) ?_
      refine lv_istore_n (lv' := [(2, .int (0 : Int32)), (0, .ref v0), (1, .int v1)]) hx hb dX12_findOrder_32 rfl hl (by decide) rfl (fun ls hl => ?_)
      refine lv_iconst (v := 0) hx hb dX12_findOrder_33 (by decide) ?_
      refine lv_istore_n (lv' := [(3, .int (0 : Int32)), (2, .int (0 : Int32)), (0, .ref v0), (1, .int v1)]) hx hb dX12_findOrder_34 rfl hl (by decide) rfl (fun ls hl => ?_)
      obtain ⟨o57, e58, hf⟩ := mb0 hf
      refine L35 v0 (mpN P) v1 (0 : Int32) (0 : Int32) τ o57 e58 (fun y59 y60 σ61 ho H locs hJ ls hl => ?_) _ _ hJ ls (lv_sub hl [2, 3, 1, 0] rfl)
      · rw [ho] at hf
        have hf : (some (.inl (y59, y60, σ61))) = some o := hf
        refine lv_goto (tgt := 27) hx hb dX12_findOrder_151 (by decide) ?_
        exact Kb y59 y60 σ61 (Option.some.inj hf).symm _ _ hJ ls (lv_sub hl [0, 1, 2] rfl)
  have L27 : ∀ (v0 : Nat) (n : Nat) (v1 : Int32) (v2 : Int32) (τ : mx_S) (o : (mx_S)), mx_lp (f_X12_findOrder_L27 P v0) n (v1, v2, τ) = some o → (∀  (υ : mx_S), o = υ → ∀ (H : Heap) (locs : List Loc), mx_J G P s.heap (mxz σ) (mxu σ) υ H locs → ∀ ls : Array Slot, lv_has ls 6 [(0, .ref v0)] → W p l e (mx_rm P 1 22 σ) s m ([.ref a0] : List Value).toArray below meth c H locs (mxz υ - mxz σ) (mxu υ - mxu σ) (mx_Z below G P none σ σ' [.ref a0] s) (F0 m 154 ls [])) → ∀ (H : Heap) (locs : List Loc), mx_J G P s.heap (mxz σ) (mxu σ) τ H locs → ∀ ls : Array Slot, lv_has ls 6 [(0, .ref v0), (1, .int v1), (2, .int v2)] → W p l e (mx_rm P 1 22 σ) s m ([.ref a0] : List Value).toArray below meth c H locs (mxz τ - mxz σ) (mxu τ - mxu σ) (mx_Z below G P none σ σ' [.ref a0] s) (F0 m 27 ls []) := by
    intro v0 n
    induction n with
    | zero =>
      intro v1 v2 τ o hf
      rw [mx_lp0] at hf
      cases hf
    | succ n ih =>
      intro v1 v2 τ o hf Ke0 H locs hJ ls hl
      rw [mx_lpS] at hf
      obtain ⟨b, eb, hf⟩ := mb0 hf
      refine B27 v0 v1 v2 τ b eb (fun y1 y2 υ ho H locs hJ ls hl => ?_) (fun  υ ho H locs hJ ls hl => ?_) H locs hJ ls hl
      · subst ho
        exact ih y1 y2 υ o hf Ke0 H locs hJ ls hl
      · subst ho
        exact Ke0  υ (Option.some.inj hf).symm _ _ hJ ls hl
  have D184_156 : ∀ (v0 : Nat) (v3 : Int32) (τ : mx_S) (o : (Int32 × mx_S) ⊕ ((mx_S))), f_X12_findOrder_D184_156 P v0 v3 τ = some o → (∀ (y3 : Int32) (υ : mx_S), o = .inl (y3, υ) → ∀ (H : Heap) (locs : List Loc), mx_J G P s.heap (mxz σ) (mxu σ) υ H locs → ∀ ls : Array Slot, lv_has ls 6 [(0, .ref v0), (3, .int y3)] → W p l e (mx_rm P 1 22 σ) s m ([.ref a0] : List Value).toArray below meth c H locs (mxz υ - mxz σ) (mxu υ - mxu σ) (mx_Z below G P none σ σ' [.ref a0] s) (F0 m 156 ls [])) → (∀  (υ : mx_S), o = .inr υ → ∀ (H : Heap) (locs : List Loc), mx_J G P s.heap (mxz σ) (mxu σ) υ H locs → ∀ ls : Array Slot, lv_has ls 6 [] → W p l e (mx_rm P 1 22 σ) s m ([.ref a0] : List Value).toArray below meth c H locs (mxz υ - mxz σ) (mxu υ - mxu σ) (mx_Z below G P none σ σ' [.ref a0] s) (F0 m 190 ls [])) → ∀ (H : Heap) (locs : List Loc), mx_J G P s.heap (mxz σ) (mxu σ) τ H locs → ∀ ls : Array Slot, lv_has ls 6 [(0, .ref v0), (3, .int v3)] → W p l e (mx_rm P 1 22 σ) s m ([.ref a0] : List Value).toArray below meth c H locs (mxz τ - mxz σ) (mxu τ - mxu σ) (mx_Z below G P none σ σ' [.ref a0] s) (F0 m 184 ls []) := by
    intro v0 v3 τ o hf Kb Ke0 H locs hJ ls hl
    unfold f_X12_findOrder_D184_156 at hf
    obtain ⟨x73, e74, hf⟩ := mb0 hf
    refine lv_iinc (v := x73) (lv' := [(3, .int x73), (0, .ref v0)]) hx hb dX12_findOrder_184 hl (k := 1) rfl (by rw [← Option.some.inj e74]; rfl) (by decide) rfl (fun ls hl => ?_)
    refine lv_goto (tgt := 156) hx hb dX12_findOrder_187 (by decide) ?_
    exact Kb x73 τ (Option.some.inj hf).symm _ _ hJ ls (lv_sub hl [1, 0] rfl)
  have B156 : ∀ (v0 : Nat) (v3 : Int32) (τ : mx_S) (o : (Int32 × mx_S) ⊕ ((mx_S))), f_X12_findOrder_B156 P v0 v3 τ = some o → (∀ (y3 : Int32) (υ : mx_S), o = .inl (y3, υ) → ∀ (H : Heap) (locs : List Loc), mx_J G P s.heap (mxz σ) (mxu σ) υ H locs → ∀ ls : Array Slot, lv_has ls 6 [(0, .ref v0), (3, .int y3)] → W p l e (mx_rm P 1 22 σ) s m ([.ref a0] : List Value).toArray below meth c H locs (mxz υ - mxz σ) (mxu υ - mxu σ) (mx_Z below G P none σ σ' [.ref a0] s) (F0 m 156 ls [])) → (∀  (υ : mx_S), o = .inr υ → ∀ (H : Heap) (locs : List Loc), mx_J G P s.heap (mxz σ) (mxu σ) υ H locs → ∀ ls : Array Slot, lv_has ls 6 [] → W p l e (mx_rm P 1 22 σ) s m ([.ref a0] : List Value).toArray below meth c H locs (mxz υ - mxz σ) (mxu υ - mxu σ) (mx_Z below G P none σ σ' [.ref a0] s) (F0 m 190 ls [])) → ∀ (H : Heap) (locs : List Loc), mx_J G P s.heap (mxz σ) (mxu σ) τ H locs → ∀ ls : Array Slot, lv_has ls 6 [(0, .ref v0), (3, .int v3)] → W p l e (mx_rm P 1 22 σ) s m ([.ref a0] : List Value).toArray below meth c H locs (mxz τ - mxz σ) (mxu τ - mxu σ) (mx_Z below G P none σ σ' [.ref a0] s) (F0 m 156 ls []) := by
    intro v0 v3 τ o hf Kb Ke0 H locs hJ ls hl
    unfold f_X12_findOrder_B156 at hf
    refine lv_iload_n hx hb dX12_findOrder_156 rfl (lv_at hl 1 rfl) ?_
    refine lv_aload_n hx hb dX12_findOrder_157 rfl (lv_at hl 0 rfl) ?_
    obtain ⟨x65, e66, hf⟩ := mb0 hf
    refine my_gI hx hb hts hown hK hJ fd_RX12_403 hv_12_38 e66 dX12_findOrder_158 ?_
    refine lv_icmp_ge (tgt := 190) hx hb dX12_findOrder_161 (by decide) (fun c67 => ?_) (fun c67 => ?_)
    · rw [if_pos c67] at hf
      exact Ke0 τ (Option.some.inj hf).symm _ _ hJ ls (lv_sub hl [] rfl)
    · rw [if_neg c67] at hf
      refine lv_aload_n hx hb dX12_findOrder_164 rfl (lv_at hl 0 rfl) ?_
      obtain ⟨b68, e69, hf⟩ := mb0 hf
      refine my_gR hx hb hts hown hK hJ fd_RX12_105 hv_12_49 e69 dX12_findOrder_165 ?_
      refine lv_iload_n hx hb dX12_findOrder_168 rfl (lv_at hl 1 rfl) ?_
      obtain ⟨x70, e71, hf⟩ := mb0 hf
      refine mx_aZ hx hb hK hJ e71 dX12_findOrder_169 ?_
      refine lv_if_ne (tgt := 184) hx hb dX12_findOrder_170 (by decide) (fun c72 => ?_) (fun c72 => ?_)
      · rw [if_neg c72] at hf
        exact D184_156 v0 v3 τ o hf Kb Ke0 _ _ hJ ls (lv_sub hl [0, 1] rfl)
      · rw [if_pos c72] at hf
        refine lv_aload_n hx hb dX12_findOrder_173 rfl (lv_at hl 0 rfl) ?_
        refine lv_iconst (v := 4) hx hb dX12_findOrder_174 (by decide) ?_
        refine lv_aload_n hx hb dX12_findOrder_175 rfl (lv_at hl 0 rfl) ?_
        obtain ⟨b75, e76, hf⟩ := mb0 hf
        refine my_gR hx hb hts hown hK hJ fd_RX12_75 hv_12_39 e76 dX12_findOrder_176 ?_
        refine lv_iload_n hx hb dX12_findOrder_179 rfl (lv_at hl 1 rfl) ?_
        obtain ⟨x77, e78, hf⟩ := mb0 hf
        refine mx_aI hx hb hK hJ e78 dX12_findOrder_180 ?_
        obtain ⟨i79, e80, hf⟩ := mb0 hf
        obtain ⟨σ81, e82, hf⟩ := mb0 hf
        refine mx_callV (As := [.int (4 : Int32), .int x77]) (rest := []) hx hb hml hts hown hK hJ rfl rfl (ci := 12) rfl e80 (c_X12_wrong l G P v0 (4 : Int32) x77 τ σ81 e82) me_X12_wrong kw_2287 ks_88 kw_2285 (Nat.le_of_ble_eq_true rfl) (Nat.le_of_ble_eq_true rfl) rfl hl.1 rfl (Nat.le_of_ble_eq_true rfl) dX12_findOrder_181 (fun H locs hJ => ?_)
        exact D184_156 v0 v3 σ81 o hf Kb Ke0 _ _ hJ ls (lv_sub hl [0, 1] rfl)
  have L156 : ∀ (v0 : Nat) (n : Nat) (v3 : Int32) (τ : mx_S) (o : (mx_S)), mx_lp (f_X12_findOrder_L156 P v0) n (v3, τ) = some o → (∀  (υ : mx_S), o = υ → ∀ (H : Heap) (locs : List Loc), mx_J G P s.heap (mxz σ) (mxu σ) υ H locs → ∀ ls : Array Slot, lv_has ls 6 [] → W p l e (mx_rm P 1 22 σ) s m ([.ref a0] : List Value).toArray below meth c H locs (mxz υ - mxz σ) (mxu υ - mxu σ) (mx_Z below G P none σ σ' [.ref a0] s) (F0 m 190 ls [])) → ∀ (H : Heap) (locs : List Loc), mx_J G P s.heap (mxz σ) (mxu σ) τ H locs → ∀ ls : Array Slot, lv_has ls 6 [(0, .ref v0), (3, .int v3)] → W p l e (mx_rm P 1 22 σ) s m ([.ref a0] : List Value).toArray below meth c H locs (mxz τ - mxz σ) (mxu τ - mxu σ) (mx_Z below G P none σ σ' [.ref a0] s) (F0 m 156 ls []) := by
    intro v0 n
    induction n with
    | zero =>
      intro v3 τ o hf
      rw [mx_lp0] at hf
      cases hf
    | succ n ih =>
      intro v3 τ o hf Ke0 H locs hJ ls hl
      rw [mx_lpS] at hf
      obtain ⟨b, eb, hf⟩ := mb0 hf
      refine B156 v0 v3 τ b eb (fun y3 υ ho H locs hJ ls hl => ?_) (fun  υ ho H locs hJ ls hl => ?_) H locs hJ ls hl
      · subst ho
        exact ih y3 υ o hf Ke0 H locs hJ ls hl
      · subst ho
        exact Ke0  υ (Option.some.inj hf).symm _ _ hJ ls hl
  unfold f_X12_findOrder at hf
  refine lv_iconst (v := 0) hx hb dX12_findOrder_0 (by decide) ?_
  refine lv_istore_n (lv' := [(1, .int (0 : Int32)), (0, .ref a0)]) hx hb dX12_findOrder_1 rfl hl (by decide) rfl (fun ls hl => ?_)
  obtain ⟨o10, e11, hf⟩ := mb0 hf
  refine L2 a0 (mpN P) (0 : Int32) σ o10 e11 (fun σ12 ho H locs hJ ls hl => ?_) _ _ hJ ls (lv_sub hl [1, 0] rfl)
  · rw [ho] at hf
    have hf : ((mx_lp (f_X12_findOrder_L27 P a0) (mpN P) ((0 : Int32), (1 : Int32), σ12)).bind (fun t => (fun σ64 => (mx_lp (f_X12_findOrder_L156 P a0) (mpN P) ((0 : Int32), σ64)).bind (fun t => (fun σ85 => some σ85) t)) t)) = some σ' := hf
    refine lv_iconst (v := 0) hx hb dX12_findOrder_23 (by decide) ?_
    refine lv_istore_n (lv' := [(1, .int (0 : Int32)), (0, .ref a0)]) hx hb dX12_findOrder_24 rfl hl (by decide) rfl (fun ls hl => ?_)
    refine lv_iconst (v := 1) hx hb dX12_findOrder_25 (by decide) ?_
    refine lv_istore_n (lv' := [(2, .int (1 : Int32)), (1, .int (0 : Int32)), (0, .ref a0)]) hx hb dX12_findOrder_26 rfl hl (by decide) rfl (fun ls hl => ?_)
    obtain ⟨o62, e63, hf⟩ := mb0 hf
    refine L27 a0 (mpN P) (0 : Int32) (1 : Int32) σ12 o62 e63 (fun σ64 ho H locs hJ ls hl => ?_) _ _ hJ ls (lv_sub hl [2, 1, 0] rfl)
    · rw [ho] at hf
      have hf : ((mx_lp (f_X12_findOrder_L156 P a0) (mpN P) ((0 : Int32), σ64)).bind (fun t => (fun σ85 => some σ85) t)) = some σ' := hf
      refine lv_iconst (v := 0) hx hb dX12_findOrder_154 (by decide) ?_
      refine lv_istore_n (lv' := [(3, .int (0 : Int32)), (0, .ref a0)]) hx hb dX12_findOrder_155 rfl hl (by decide) rfl (fun ls hl => ?_)
      obtain ⟨o83, e84, hf⟩ := mb0 hf
      refine L156 a0 (mpN P) (0 : Int32) σ64 o83 e84 (fun σ85 ho H locs hJ ls hl => ?_) _ _ hJ ls (lv_sub hl [1, 0] rfl)
      · rw [ho] at hf
        have hf : (some σ85) = some σ' := hf
        exact my_vret hx hb hr hlocks hJ hf dX12_findOrder_190
