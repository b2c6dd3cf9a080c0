set_option maxHeartbeats 4000000 in
set_option maxRecDepth 100000 in
theorem c_X11_moment (l : Launch) (G : mx_G) (P : mx_P) (a0 : Nat) (p1 : Int32) (p2 : Int32) (p3 : Int32) (σ : mx_S) (r : Int64) (σ' : mx_S) (hf : f_X11_moment P a0 p1 p2 p3 σ = some (.inr (r, σ'))) : mxz σ ≤ mpc P → mxu σ ≤ mps P → mx_M l yX11_moment cX11_moment 4 (some .long) 8 153 G P [.ref a0, .int p1, .int p2, .int p3] σ (some (.long r)) σ' := by
  intro hcap hcau
  refine mx_ofW (by decide +kernel) hcap hcau (Nat.le_of_ble_eq_true rfl) ?_
  intro p e s m below meth c hx hb hr hml hts hown hlocks hname hK hJ ls hl
  have hz0 := hJ.2.1
  have hown : s.vm.findClass RX11 = some m.cls := hown
  have hl : lv_has ls 4 [(0, .ref a0), (1, .int p1), (2, .int p2), (3, .int p3)] := hl
  have D58 : ∀ (v0 : Nat) (v3 : Int32) (w0 : Int32) (τ : mx_S), f_X11_moment_D58 P v0 v3 w0 τ = some (.inr (r, σ')) → ∀ (H : Heap) (locs : List Loc), mx_J G P s.heap (mxz σ) (mxu σ) τ H locs → ∀ ls : Array Slot, lv_has ls 4 [(0, .ref v0), (3, .int v3)] → W p l e (mx_rm P 8 153 σ) s m ([.ref a0, .int p1, .int p2, .int p3] : List Value).toArray below meth c H locs (mxz τ - mxz σ) (mxu τ - mxu σ) (mx_Z below G P (some (.long r)) σ σ' [.ref a0, .int p1, .int p2, .int p3] s) (F0 m 58 ls [.int w0]) := by
    intro v0 v3 w0 τ hf _ _ hJ ls hl
    unfold f_X11_moment_D58 at hf
    obtain ⟨σ30, e31, hf⟩ := mbx_n hf
    refine mx_callS (As := [.int w0]) (rest := []) hx hb hml hts hown hK hJ rfl rfl (c_X11_needPresence l G P w0 τ σ30 e31) me_X11_needPresence kw_1243 kw_1242 (Nat.le_of_ble_eq_true rfl) (Nat.le_of_ble_eq_true rfl) rfl hl.1 rfl (Nat.le_of_ble_eq_true rfl) dX11_moment_58 (fun H locs hJ => ?_)
    refine lv_aload_n hx hb dX11_moment_61 rfl (lv_at hl 0 rfl) ?_
    obtain ⟨b32, e33, hf⟩ := mb0 hf
    refine my_gR hx hb hts hown hK hJ fd_RX11_54 hv_11_6 e33 dX11_moment_62 ?_
    obtain ⟨b34, e35, hf⟩ := mb0 hf
    refine my_gR hx hb hts hown hK hJ fd_RX11_174 hv_7_19 e35 dX11_moment_65 ?_
    refine lv_iload_n hx hb dX11_moment_68 rfl (lv_at hl 1 rfl) ?_
    obtain ⟨i36, e37, hf⟩ := mb0 hf
    obtain ⟨x39, σ38, e40, hf⟩ := mc0 hf
    refine mx_callV (As := [.int v3]) (rest := []) hx hb hml hts hown hK hJ rfl rfl (ci := 0) rfl e37 (c_X0_number l G P b34 v3 σ30 x39 σ38 e40) me_X0_number kw_1273 kw_1274 kw_1272 (Nat.le_of_ble_eq_true rfl) (Nat.le_of_ble_eq_true rfl) rfl hl.1 rfl (Nat.le_of_ble_eq_true rfl) dX11_moment_69 (fun H locs hJ => ?_)
    exact my_lret hx hb hr hlocks hJ (mx_inr hf) dX11_moment_72
  unfold f_X11_moment at hf
  refine lv_iload_n hx hb dX11_moment_0 rfl (lv_at hl 1 rfl) ?_
  refine lv_iconst (v := 0) hx hb dX11_moment_1 (by decide) ?_
  refine lv_sipush (v := 255) hx hb dX11_moment_2 (by decide) ?_
  obtain ⟨σ1, e2, hf⟩ := mbx_n hf
  refine mx_callS (As := [.int p1, .int (0 : Int32), .int (255 : Int32)]) (rest := []) hx hb hml hts hown hK hJ rfl rfl (c_X11_needRange l G P p1 (0 : Int32) (255 : Int32) σ σ1 e2) me_X11_needRange kw_1005 kw_1004 (Nat.le_of_ble_eq_true rfl) (Nat.le_of_ble_eq_true rfl) rfl hl.1 rfl (Nat.le_of_ble_eq_true rfl) dX11_moment_5 (fun H locs hJ => ?_)
  refine lv_iload_n hx hb dX11_moment_8 rfl (lv_at hl 2 rfl) ?_
  refine lv_iconst (v := 0) hx hb dX11_moment_9 (by decide) ?_
  refine lv_iconst (v := 3) hx hb dX11_moment_10 (by decide) ?_
  obtain ⟨σ3, e4, hf⟩ := mbx_n hf
  refine mx_callS (As := [.int p2, .int (0 : Int32), .int (3 : Int32)]) (rest := []) hx hb hml hts hown hK hJ rfl rfl (c_X11_needRange l G P p2 (0 : Int32) (3 : Int32) σ1 σ3 e4) me_X11_needRange kw_1005 kw_1004 (Nat.le_of_ble_eq_true rfl) (Nat.le_of_ble_eq_true rfl) rfl hl.1 rfl (Nat.le_of_ble_eq_true rfl) dX11_moment_11 (fun H locs hJ => ?_)
  refine lv_iload_n hx hb dX11_moment_14 rfl (lv_at hl 3 rfl) ?_
  refine lv_iconst (v := 0) hx hb dX11_moment_15 (by decide) ?_
  refine lv_iconst (v := 1) hx hb dX11_moment_16 (by decide) ?_
  obtain ⟨σ5, e6, hf⟩ := mbx_n hf
  refine mx_callS (As := [.int p3, .int (0 : Int32), .int (1 : Int32)]) (rest := []) hx hb hml hts hown hK hJ rfl rfl (c_X11_needRange l G P p3 (0 : Int32) (1 : Int32) σ3 σ5 e6) me_X11_needRange kw_1005 kw_1004 (Nat.le_of_ble_eq_true rfl) (Nat.le_of_ble_eq_true rfl) rfl hl.1 rfl (Nat.le_of_ble_eq_true rfl) dX11_moment_17 (fun H locs hJ => ?_)
  refine lv_aload_n hx hb dX11_moment_20 rfl (lv_at hl 0 rfl) ?_
  refine lv_iload_n hx hb dX11_moment_21 rfl (lv_at hl 1 rfl) ?_
  obtain ⟨i7, e8, hf⟩ := mb0 hf
  obtain ⟨σ9, e10, hf⟩ := mbx_n hf
  refine mx_callV (As := [.int p1]) (rest := []) hx hb hml hts hown hK hJ rfl rfl (ci := 11) rfl e8 (c_X11_needSure l G P a0 p1 σ5 σ9 e10) me_X11_needSure kw_1286 ks_39 kw_1284 (Nat.le_of_ble_eq_true rfl) (Nat.le_of_ble_eq_true rfl) rfl hl.1 rfl (Nat.le_of_ble_eq_true rfl) dX11_moment_22 (fun H locs hJ => ?_)
  refine lv_aload_n hx hb dX11_moment_25 rfl (lv_at hl 0 rfl) ?_
  obtain ⟨b11, e12, hf⟩ := mb0 hf
  refine my_gR hx hb hts hown hK hJ fd_RX11_54 hv_11_6 e12 dX11_moment_26 ?_
  refine lv_iload_n hx hb dX11_moment_29 rfl (lv_at hl 2 rfl) ?_
  obtain ⟨i13, e14, hf⟩ := mb0 hf
  obtain ⟨σ15, e16, hf⟩ := mb0 hf
  refine mx_callV (As := [.int p2]) (rest := []) hx hb hml hts hown hK hJ rfl rfl (ci := 7) rfl e14 (c_X7_reckonSpeeds l G P b11 p2 σ9 σ15 e16) me_X7_reckonSpeeds kw_1358 kw_1359 kw_1357 (Nat.le_of_ble_eq_true rfl) (Nat.le_of_ble_eq_true rfl) rfl hl.1 rfl (Nat.le_of_ble_eq_true rfl) dX11_moment_30 (fun H locs hJ => ?_)
  refine lv_aload_n hx hb dX11_moment_33 rfl (lv_at hl 0 rfl) ?_
  obtain ⟨b17, e18, hf⟩ := mb0 hf
  refine my_gR hx hb hts hown hK hJ fd_RX11_54 hv_11_6 e18 dX11_moment_34 ?_
  obtain ⟨i19, e20, hf⟩ := mb0 hf
  obtain ⟨σ21, e22, hf⟩ := mb0 hf
  refine mx_callV (As := []) (rest := []) hx hb hml hts hown hK hJ rfl rfl (ci := 7) rfl e20 (c_X7_reckonMoment l G P b17 σ15 σ21 e22) me_X7_reckonMoment kw_1418 kw_1419 kw_1417 (Nat.le_of_ble_eq_true rfl) (Nat.le_of_ble_eq_true rfl) rfl hl.1 rfl (Nat.le_of_ble_eq_true rfl) dX11_moment_37 (fun H locs hJ => ?_)
  refine lv_aload_n hx hb dX11_moment_40 rfl (lv_at hl 0 rfl) ?_
  obtain ⟨b23, e24, hf⟩ := mb0 hf
  refine my_gR hx hb hts hown hK hJ fd_RX11_54 hv_11_6 e24 dX11_moment_41 ?_
  obtain ⟨b25, e26, hf⟩ := mb0 hf
  refine my_gR hx hb hts hown hK hJ fd_RX11_174 hv_7_19 e26 dX11_moment_44 ?_
  obtain ⟨x27, e28, hf⟩ := mb0 hf
  refine my_gI hx hb hts hown hK hJ fd_RX11_178 hv_0_2 e28 dX11_moment_47 ?_
  refine lv_if_ne (tgt := 57) hx hb dX11_moment_50 (by decide) (fun c29 => ?_) (fun c29 => ?_)
  · rw [if_neg c29] at hf
    refine lv_iconst (v := 0) hx hb dX11_moment_57 (by decide) ?_
    exact D58 a0 p3 (0 : Int32) σ21 hf _ _ hJ ls (lv_sub hl [0, 3] rfl)
  · rw [if_pos c29] at hf
    refine lv_iconst (v := 1) hx hb dX11_moment_53 (by decide) ?_
    refine lv_goto (tgt := 58) hx hb dX11_moment_54 (by decide) ?_
    exact D58 a0 p3 (1 : Int32) σ21 hf _ _ hJ ls (lv_sub hl [0, 3] rfl)
set_option maxHeartbeats 4000000 in
set_option maxRecDepth 100000 in
theorem ct_X11_moment (l : Launch) (hlt : l.stackTraces = false) (G : mx_G) (P : mx_P) (a0 : Nat) (p1 : Int32) (p2 : Int32) (p3 : Int32) (σ : mx_S) (E : String) (σ' : mx_S) (hf : f_X11_moment P a0 p1 p2 p3 σ = some (.inl (E, σ'))) : mxz σ ≤ mpc P → mxu σ ≤ mps P → mx_Mt l yX11_moment cX11_moment 4 (some .long) 8 153 G P [.ref a0, .int p1, .int p2, .int p3] σ E σ' := by
  intro hcap hcau
  refine mx_ofWt (by decide +kernel) hcap hcau (Nat.le_of_ble_eq_true rfl) ?_
  intro p e s m below meth c hx hb hr hml hts hown hlocks hname hnt hK hJ ls hl
  have hz0 := hJ.2.1
  have hown : s.vm.findClass RX11 = some m.cls := hown
  have hl : lv_has ls 4 [(0, .ref a0), (1, .int p1), (2, .int p2), (3, .int p3)] := hl
  have D58 : ∀ (v0 : Nat) (v3 : Int32) (w0 : Int32) (τ : mx_S), f_X11_moment_D58 P v0 v3 w0 τ = some (.inl (E, σ')) → ∀ (H : Heap) (locs : List Loc), mx_J G P s.heap (mxz σ) (mxu σ) τ H locs → ∀ ls : Array Slot, lv_has ls 4 [(0, .ref v0), (3, .int v3)] → W p l e (mx_rm P 8 153 σ) s m ([.ref a0, .int p1, .int p2, .int p3] : List Value).toArray below meth c H locs (mxz τ - mxz σ) (mxu τ - mxu σ) (mx_Zt below G P E σ σ' [.ref a0, .int p1, .int p2, .int p3] s) (F0 m 58 ls [.int w0]) := by
    intro v0 v3 w0 τ hf _ _ hJ ls hl
    unfold f_X11_moment_D58 at hf
    rcases mbx_t hf with e31 | ⟨σ30, e31, hf⟩
    · exact mx_callST (As := [.int w0]) (rest := []) hx hb hml hts hown hK hJ rfl rfl hnt hlocks (ct_X11_needPresence l hlt G P w0 τ E σ' e31) me_X11_needPresence kw_1243 kw_1242 (Nat.le_of_ble_eq_true rfl) (Nat.le_of_ble_eq_true rfl) rfl hl.1 rfl (Nat.le_of_ble_eq_true rfl) dX11_moment_58
    refine mx_callS (As := [.int w0]) (rest := []) hx hb hml hts hown hK hJ rfl rfl (c_X11_needPresence l G P w0 τ σ30 e31) me_X11_needPresence kw_1243 kw_1242 (Nat.le_of_ble_eq_true rfl) (Nat.le_of_ble_eq_true rfl) rfl hl.1 rfl (Nat.le_of_ble_eq_true rfl) dX11_moment_58 (fun H locs hJ => ?_)
    refine lv_aload_n hx hb dX11_moment_61 rfl (lv_at hl 0 rfl) ?_
    obtain ⟨b32, e33, hf⟩ := mb0 hf
    refine my_gR hx hb hts hown hK hJ fd_RX11_54 hv_11_6 e33 dX11_moment_62 ?_
    obtain ⟨b34, e35, hf⟩ := mb0 hf
    refine my_gR hx hb hts hown hK hJ fd_RX11_174 hv_7_19 e35 dX11_moment_65 ?_
    refine lv_iload_n hx hb dX11_moment_68 rfl (lv_at hl 1 rfl) ?_
    obtain ⟨i36, e37, hf⟩ := mb0 hf
    obtain ⟨x39, σ38, e40, hf⟩ := mc0 hf
    refine mx_callV (As := [.int v3]) (rest := []) hx hb hml hts hown hK hJ rfl rfl (ci := 0) rfl e37 (c_X0_number l G P b34 v3 σ30 x39 σ38 e40) me_X0_number kw_1273 kw_1274 kw_1272 (Nat.le_of_ble_eq_true rfl) (Nat.le_of_ble_eq_true rfl) rfl hl.1 rfl (Nat.le_of_ble_eq_true rfl) dX11_moment_69 (fun H locs hJ => ?_)
    cases hf
  unfold f_X11_moment at hf
  refine lv_iload_n hx hb dX11_moment_0 rfl (lv_at hl 1 rfl) ?_
  refine lv_iconst (v := 0) hx hb dX11_moment_1 (by decide) ?_
  refine lv_sipush (v := 255) hx hb dX11_moment_2 (by decide) ?_
  rcases mbx_t hf with e2 | ⟨σ1, e2, hf⟩
  · exact mx_callST (As := [.int p1, .int (0 : Int32), .int (255 : Int32)]) (rest := []) hx hb hml hts hown hK hJ rfl rfl hnt hlocks (ct_X11_needRange l hlt G P p1 (0 : Int32) (255 : Int32) σ E σ' e2) me_X11_needRange kw_1005 kw_1004 (Nat.le_of_ble_eq_true rfl) (Nat.le_of_ble_eq_true rfl) rfl hl.1 rfl (Nat.le_of_ble_eq_true rfl) dX11_moment_5
  refine mx_callS (As := [.int p1, .int (0 : Int32), .int (255 : Int32)]) (rest := []) hx hb hml hts hown hK hJ rfl rfl (c_X11_needRange l G P p1 (0 : Int32) (255 : Int32) σ σ1 e2) me_X11_needRange kw_1005 kw_1004 (Nat.le_of_ble_eq_true rfl) (Nat.le_of_ble_eq_true rfl) rfl hl.1 rfl (Nat.le_of_ble_eq_true rfl) dX11_moment_5 (fun H locs hJ => ?_)
  refine lv_iload_n hx hb dX11_moment_8 rfl (lv_at hl 2 rfl) ?_
  refine lv_iconst (v := 0) hx hb dX11_moment_9 (by decide) ?_
  refine lv_iconst (v := 3) hx hb dX11_moment_10 (by decide) ?_
  rcases mbx_t hf with e4 | ⟨σ3, e4, hf⟩
  · exact mx_callST (As := [.int p2, .int (0 : Int32), .int (3 : Int32)]) (rest := []) hx hb hml hts hown hK hJ rfl rfl hnt hlocks (ct_X11_needRange l hlt G P p2 (0 : Int32) (3 : Int32) σ1 E σ' e4) me_X11_needRange kw_1005 kw_1004 (Nat.le_of_ble_eq_true rfl) (Nat.le_of_ble_eq_true rfl) rfl hl.1 rfl (Nat.le_of_ble_eq_true rfl) dX11_moment_11
  refine mx_callS (As := [.int p2, .int (0 : Int32), .int (3 : Int32)]) (rest := []) hx hb hml hts hown hK hJ rfl rfl (c_X11_needRange l G P p2 (0 : Int32) (3 : Int32) σ1 σ3 e4) me_X11_needRange kw_1005 kw_1004 (Nat.le_of_ble_eq_true rfl) (Nat.le_of_ble_eq_true rfl) rfl hl.1 rfl (Nat.le_of_ble_eq_true rfl) dX11_moment_11 (fun H locs hJ => ?_)
  refine lv_iload_n hx hb dX11_moment_14 rfl (lv_at hl 3 rfl) ?_
  refine lv_iconst (v := 0) hx hb dX11_moment_15 (by decide) ?_
  refine lv_iconst (v := 1) hx hb dX11_moment_16 (by decide) ?_
  rcases mbx_t hf with e6 | ⟨σ5, e6, hf⟩
  · exact mx_callST (As := [.int p3, .int (0 : Int32), .int (1 : Int32)]) (rest := []) hx hb hml hts hown hK hJ rfl rfl hnt hlocks (ct_X11_needRange l hlt G P p3 (0 : Int32) (1 : Int32) σ3 E σ' e6) me_X11_needRange kw_1005 kw_1004 (Nat.le_of_ble_eq_true rfl) (Nat.le_of_ble_eq_true rfl) rfl hl.1 rfl (Nat.le_of_ble_eq_true rfl) dX11_moment_17
  refine mx_callS (As := [.int p3, .int (0 : Int32), .int (1 : Int32)]) (rest := []) hx hb hml hts hown hK hJ rfl rfl (c_X11_needRange l G P p3 (0 : Int32) (1 : Int32) σ3 σ5 e6) me_X11_needRange kw_1005 kw_1004 (Nat.le_of_ble_eq_true rfl) (Nat.le_of_ble_eq_true rfl) rfl hl.1 rfl (Nat.le_of_ble_eq_true rfl) dX11_moment_17 (fun H locs hJ => ?_)
  refine lv_aload_n hx hb dX11_moment_20 rfl (lv_at hl 0 rfl) ?_
  refine lv_iload_n hx hb dX11_moment_21 rfl (lv_at hl 1 rfl) ?_
  obtain ⟨i7, e8, hf⟩ := mb0 hf
  rcases mbx_t hf with e10 | ⟨σ9, e10, hf⟩
  · exact mx_callVT (As := [.int p1]) (rest := []) hx hb hml hts hown hK hJ rfl rfl hnt hlocks (ci := 11) rfl e8 (ct_X11_needSure l hlt G P a0 p1 σ5 E σ' e10) me_X11_needSure kw_1286 ks_39 kw_1284 (Nat.le_of_ble_eq_true rfl) (Nat.le_of_ble_eq_true rfl) rfl hl.1 rfl (Nat.le_of_ble_eq_true rfl) dX11_moment_22
  refine mx_callV (As := [.int p1]) (rest := []) hx hb hml hts hown hK hJ rfl rfl (ci := 11) rfl e8 (c_X11_needSure l G P a0 p1 σ5 σ9 e10) me_X11_needSure kw_1286 ks_39 kw_1284 (Nat.le_of_ble_eq_true rfl) (Nat.le_of_ble_eq_true rfl) rfl hl.1 rfl (Nat.le_of_ble_eq_true rfl) dX11_moment_22 (fun H locs hJ => ?_)
  refine lv_aload_n hx hb dX11_moment_25 rfl (lv_at hl 0 rfl) ?_
  obtain ⟨b11, e12, hf⟩ := mb0 hf
  refine my_gR hx hb hts hown hK hJ fd_RX11_54 hv_11_6 e12 dX11_moment_26 ?_
  refine lv_iload_n hx hb dX11_moment_29 rfl (lv_at hl 2 rfl) ?_
  obtain ⟨i13, e14, hf⟩ := mb0 hf
  obtain ⟨σ15, e16, hf⟩ := mb0 hf
  refine mx_callV (As := [.int p2]) (rest := []) hx hb hml hts hown hK hJ rfl rfl (ci := 7) rfl e14 (c_X7_reckonSpeeds l G P b11 p2 σ9 σ15 e16) me_X7_reckonSpeeds kw_1358 kw_1359 kw_1357 (Nat.le_of_ble_eq_true rfl) (Nat.le_of_ble_eq_true rfl) rfl hl.1 rfl (Nat.le_of_ble_eq_true rfl) dX11_moment_30 (fun H locs hJ => ?_)
  refine lv_aload_n hx hb dX11_moment_33 rfl (lv_at hl 0 rfl) ?_
  obtain ⟨b17, e18, hf⟩ := mb0 hf
  refine my_gR hx hb hts hown hK hJ fd_RX11_54 hv_11_6 e18 dX11_moment_34 ?_
  obtain ⟨i19, e20, hf⟩ := mb0 hf
  obtain ⟨σ21, e22, hf⟩ := mb0 hf
  refine mx_callV (As := []) (rest := []) hx hb hml hts hown hK hJ rfl rfl (ci := 7) rfl e20 (c_X7_reckonMoment l G P b17 σ15 σ21 e22) me_X7_reckonMoment kw_1418 kw_1419 kw_1417 (Nat.le_of_ble_eq_true rfl) (Nat.le_of_ble_eq_true rfl) rfl hl.1 rfl (Nat.le_of_ble_eq_true rfl) dX11_moment_37 (fun H locs hJ => ?_)
  refine lv_aload_n hx hb dX11_moment_40 rfl (lv_at hl 0 rfl) ?_
  obtain ⟨b23, e24, hf⟩ := mb0 hf
  refine my_gR hx hb hts hown hK hJ fd_RX11_54 hv_11_6 e24 dX11_moment_41 ?_
  obtain ⟨b25, e26, hf⟩ := mb0 hf
  refine my_gR hx hb hts hown hK hJ fd_RX11_174 hv_7_19 e26 dX11_moment_44 ?_
  obtain ⟨x27, e28, hf⟩ := mb0 hf
  refine my_gI hx hb hts hown hK hJ fd_RX11_178 hv_0_2 e28 dX11_moment_47 ?_
  refine lv_if_ne (tgt := 57) hx hb dX11_moment_50 (by decide) (fun c29 => ?_) (fun c29 => ?_)
  · rw [if_neg c29] at hf
    refine lv_iconst (v := 0) hx hb dX11_moment_57 (by decide) ?_
    exact D58 a0 p3 (0 : Int32) σ21 hf _ _ hJ ls (lv_sub hl [0, 3] rfl)
  · rw [if_pos c29] at hf
    refine lv_iconst (v := 1) hx hb dX11_moment_53 (by decide) ?_
    refine lv_goto (tgt := 58) hx hb dX11_moment_54 (by decide) ?_
    exact D58 a0 p3 (1 : Int32) σ21 hf _ _ hJ ls (lv_sub hl [0, 3] rfl)
set_option maxHeartbeats 4000000 in
set_option maxRecDepth 100000 in
theorem c_X11_middle (l : Launch) (G : mx_G) (P : mx_P) (a0 : Nat) (p1 : Int32) (p2 : Int32) (p3 : Int32) (σ : mx_S) (r : Int64) (σ' : mx_S) (hf : f_X11_middle P a0 p1 p2 p3 σ = some (.inr (r, σ'))) : mxz σ ≤ mpc P → mxu σ ≤ mps P → mx_M l yX11_middle cX11_middle 4 (some .long) 8 153 G P [.ref a0, .int p1, .int p2, .int p3] σ (some (.long r)) σ' := by
  intro hcap hcau
  refine mx_ofW (by decide +kernel) hcap hcau (Nat.le_of_ble_eq_true rfl) ?_
  intro p e s m below meth c hx hb hr hml hts hown hlocks hname hK hJ ls hl
  have hz0 := hJ.2.1
  have hown : s.vm.findClass RX11 = some m.cls := hown
  have hl : lv_has ls 4 [(0, .ref a0), (1, .int p1), (2, .int p2), (3, .int p3)] := hl
  have D69 : ∀ (v0 : Nat) (v3 : Int32) (w0 : Int32) (τ : mx_S), f_X11_middle_D69 P v0 v3 w0 τ = some (.inr (r, σ')) → ∀ (H : Heap) (locs : List Loc), mx_J G P s.heap (mxz σ) (mxu σ) τ H locs → ∀ ls : Array Slot, lv_has ls 4 [(0, .ref v0), (3, .int v3)] → W p l e (mx_rm P 8 153 σ) s m ([.ref a0, .int p1, .int p2, .int p3] : List Value).toArray below meth c H locs (mxz τ - mxz σ) (mxu τ - mxu σ) (mx_Z below G P (some (.long r)) σ σ' [.ref a0, .int p1, .int p2, .int p3] s) (F0 m 69 ls [.int w0]) := by
    intro v0 v3 w0 τ hf _ _ hJ ls hl
    unfold f_X11_middle_D69 at hf
    obtain ⟨σ34, e35, hf⟩ := mbx_n hf
    refine mx_callS (As := [.int w0]) (rest := []) hx hb hml hts hown hK hJ rfl rfl (c_X11_needPresence l G P w0 τ σ34 e35) me_X11_needPresence kw_1243 kw_1242 (Nat.le_of_ble_eq_true rfl) (Nat.le_of_ble_eq_true rfl) rfl hl.1 rfl (Nat.le_of_ble_eq_true rfl) dX11_middle_69 (fun H locs hJ => ?_)
    refine lv_aload_n hx hb dX11_middle_72 rfl (lv_at hl 0 rfl) ?_
    obtain ⟨b36, e37, hf⟩ := mb0 hf
    refine my_gR hx hb hts hown hK hJ fd_RX11_54 hv_11_6 e37 dX11_middle_73 ?_
    obtain ⟨b38, e39, hf⟩ := mb0 hf
    refine my_gR hx hb hts hown hK hJ fd_RX11_174 hv_7_19 e39 dX11_middle_76 ?_
    refine lv_iload_n hx hb dX11_middle_79 rfl (lv_at hl 1 rfl) ?_
    obtain ⟨i40, e41, hf⟩ := mb0 hf
    obtain ⟨x43, σ42, e44, hf⟩ := mc0 hf
    refine mx_callV (As := [.int v3]) (rest := []) hx hb hml hts hown hK hJ rfl rfl (ci := 0) rfl e41 (c_X0_number l G P b38 v3 σ34 x43 σ42 e44) me_X0_number kw_1273 kw_1274 kw_1272 (Nat.le_of_ble_eq_true rfl) (Nat.le_of_ble_eq_true rfl) rfl hl.1 rfl (Nat.le_of_ble_eq_true rfl) dX11_middle_80 (fun H locs hJ => ?_)
    exact my_lret hx hb hr hlocks hJ (mx_inr hf) dX11_middle_83
  have D35 : ∀ (v0 : Nat) (v1 : Int32) (v2 : Int32) (v3 : Int32) (w0 : Int32) (τ : mx_S), f_X11_middle_D35 P v0 v1 v2 v3 w0 τ = some (.inr (r, σ')) → ∀ (H : Heap) (locs : List Loc), mx_J G P s.heap (mxz σ) (mxu σ) τ H locs → ∀ ls : Array Slot, lv_has ls 4 [(0, .ref v0), (1, .int v1), (2, .int v2), (3, .int v3)] → W p l e (mx_rm P 8 153 σ) s m ([.ref a0, .int p1, .int p2, .int p3] : List Value).toArray below meth c H locs (mxz τ - mxz σ) (mxu τ - mxu σ) (mx_Z below G P (some (.long r)) σ σ' [.ref a0, .int p1, .int p2, .int p3] s) (F0 m 35 ls [.int w0]) := by
    intro v0 v1 v2 v3 w0 τ hf _ _ hJ ls hl
    unfold f_X11_middle_D35 at hf
    obtain ⟨σ15, e16, hf⟩ := mbx_n hf
    refine mx_callS (As := [.int w0]) (rest := []) hx hb hml hts hown hK hJ rfl rfl (c_X11_needPresence l G P w0 τ σ15 e16) me_X11_needPresence kw_1243 kw_1242 (Nat.le_of_ble_eq_true rfl) (Nat.le_of_ble_eq_true rfl) rfl hl.1 rfl (Nat.le_of_ble_eq_true rfl) dX11_middle_35 (fun H locs hJ => ?_)
    refine lv_aload_n hx hb dX11_middle_38 rfl (lv_at hl 0 rfl) ?_
    refine lv_iload_n hx hb dX11_middle_39 rfl (lv_at hl 1 rfl) ?_
    obtain ⟨i17, e18, hf⟩ := mb0 hf
    obtain ⟨σ19, e20, hf⟩ := mbx_n hf
    refine mx_callV (As := [.int v1]) (rest := []) hx hb hml hts hown hK hJ rfl rfl (ci := 11) rfl e18 (c_X11_needSure l G P v0 v1 σ15 σ19 e20) me_X11_needSure kw_1286 ks_39 kw_1284 (Nat.le_of_ble_eq_true rfl) (Nat.le_of_ble_eq_true rfl) rfl hl.1 rfl (Nat.le_of_ble_eq_true rfl) dX11_middle_40 (fun H locs hJ => ?_)
    refine lv_aload_n hx hb dX11_middle_43 rfl (lv_at hl 0 rfl) ?_
    obtain ⟨b21, e22, hf⟩ := mb0 hf
    refine my_gR hx hb hts hown hK hJ fd_RX11_54 hv_11_6 e22 dX11_middle_44 ?_
    refine lv_iload_n hx hb dX11_middle_47 rfl (lv_at hl 2 rfl) ?_
    obtain ⟨i23, e24, hf⟩ := mb0 hf
    obtain ⟨σ25, e26, hf⟩ := mb0 hf
    refine mx_callV (As := [.int v2]) (rest := []) hx hb hml hts hown hK hJ rfl rfl (ci := 7) rfl e24 (c_X7_reckonMiddle l G P b21 v2 σ19 σ25 e26) me_X7_reckonMiddle kw_1437 kw_1438 kw_1436 (Nat.le_of_ble_eq_true rfl) (Nat.le_of_ble_eq_true rfl) rfl hl.1 rfl (Nat.le_of_ble_eq_true rfl) dX11_middle_48 (fun H locs hJ => ?_)
    refine lv_aload_n hx hb dX11_middle_51 rfl (lv_at hl 0 rfl) ?_
    obtain ⟨b27, e28, hf⟩ := mb0 hf
    refine my_gR hx hb hts hown hK hJ fd_RX11_54 hv_11_6 e28 dX11_middle_52 ?_
    obtain ⟨b29, e30, hf⟩ := mb0 hf
    refine my_gR hx hb hts hown hK hJ fd_RX11_174 hv_7_19 e30 dX11_middle_55 ?_
    obtain ⟨x31, e32, hf⟩ := mb0 hf
    refine my_gI hx hb hts hown hK hJ fd_RX11_178 hv_0_2 e32 dX11_middle_58 ?_
    refine lv_if_ne (tgt := 68) hx hb dX11_middle_61 (by decide) (fun c33 => ?_) (fun c33 => ?_)
    · rw [if_neg c33] at hf
      refine lv_iconst (v := 0) hx hb dX11_middle_68 (by decide) ?_
      exact D69 v0 v3 (0 : Int32) σ25 hf _ _ hJ ls (lv_sub hl [0, 3] rfl)
    · rw [if_pos c33] at hf
      refine lv_iconst (v := 1) hx hb dX11_middle_64 (by decide) ?_
      refine lv_goto (tgt := 69) hx hb dX11_middle_65 (by decide) ?_
      exact D69 v0 v3 (1 : Int32) σ25 hf _ _ hJ ls (lv_sub hl [0, 3] rfl)
  unfold f_X11_middle at hf
  refine lv_iload_n hx hb dX11_middle_0 rfl (lv_at hl 1 rfl) ?_
  refine lv_iconst (v := 0) hx hb dX11_middle_1 (by decide) ?_
  refine lv_sipush (v := 255) hx hb dX11_middle_2 (by decide) ?_
  obtain ⟨σ1, e2, hf⟩ := mbx_n hf
  refine mx_callS (As := [.int p1, .int (0 : Int32), .int (255 : Int32)]) (rest := []) hx hb hml hts hown hK hJ rfl rfl (c_X11_needRange l G P p1 (0 : Int32) (255 : Int32) σ σ1 e2) me_X11_needRange kw_1005 kw_1004 (Nat.le_of_ble_eq_true rfl) (Nat.le_of_ble_eq_true rfl) rfl hl.1 rfl (Nat.le_of_ble_eq_true rfl) dX11_middle_5 (fun H locs hJ => ?_)
  refine lv_iload_n hx hb dX11_middle_8 rfl (lv_at hl 2 rfl) ?_
  refine lv_iconst (v := 0) hx hb dX11_middle_9 (by decide) ?_
  refine lv_iconst (v := 1) hx hb dX11_middle_10 (by decide) ?_
  obtain ⟨σ3, e4, hf⟩ := mbx_n hf
  refine mx_callS (As := [.int p2, .int (0 : Int32), .int (1 : Int32)]) (rest := []) hx hb hml hts hown hK hJ rfl rfl (c_X11_needRange l G P p2 (0 : Int32) (1 : Int32) σ1 σ3 e4) me_X11_needRange kw_1005 kw_1004 (Nat.le_of_ble_eq_true rfl) (Nat.le_of_ble_eq_true rfl) rfl hl.1 rfl (Nat.le_of_ble_eq_true rfl) dX11_middle_11 (fun H locs hJ => ?_)
  refine lv_iload_n hx hb dX11_middle_14 rfl (lv_at hl 3 rfl) ?_
  refine lv_iconst (v := 0) hx hb dX11_middle_15 (by decide) ?_
  refine lv_iconst (v := 1) hx hb dX11_middle_16 (by decide) ?_
  obtain ⟨σ5, e6, hf⟩ := mbx_n hf
  refine mx_callS (As := [.int p3, .int (0 : Int32), .int (1 : Int32)]) (rest := []) hx hb hml hts hown hK hJ rfl rfl (c_X11_needRange l G P p3 (0 : Int32) (1 : Int32) σ3 σ5 e6) me_X11_needRange kw_1005 kw_1004 (Nat.le_of_ble_eq_true rfl) (Nat.le_of_ble_eq_true rfl) rfl hl.1 rfl (Nat.le_of_ble_eq_true rfl) dX11_middle_17 (fun H locs hJ => ?_)
  refine lv_aload_n hx hb dX11_middle_20 rfl (lv_at hl 0 rfl) ?_
  obtain ⟨b7, e8, hf⟩ := mb0 hf
  refine my_gR hx hb hts hown hK hJ fd_RX11_54 hv_11_6 e8 dX11_middle_21 ?_
  obtain ⟨i9, e10, hf⟩ := mb0 hf
  obtain ⟨x12, σ11, e13, hf⟩ := mc0 hf
  refine mx_callV (As := []) (rest := []) hx hb hml hts hown hK hJ rfl rfl (ci := 7) rfl e10 (c_X7_massInAll l G P b7 σ5 x12 σ11 e13) me_X7_massInAll kw_1433 kw_1434 kw_1432 (Nat.le_of_ble_eq_true rfl) (Nat.le_of_ble_eq_true rfl) rfl hl.1 rfl (Nat.le_of_ble_eq_true rfl) dX11_middle_24 (fun H locs hJ => ?_)
  refine lv_if_le (tgt := 34) hx hb dX11_middle_27 (by decide) (fun c14 => ?_) (fun c14 => ?_)
  · rw [if_pos c14] at hf
    refine lv_iconst (v := 0) hx hb dX11_middle_34 (by decide) ?_
    exact D35 a0 p1 p2 p3 (0 : Int32) σ11 hf _ _ hJ ls (lv_sub hl [0, 1, 2, 3] rfl)
  · rw [if_neg c14] at hf
    refine lv_iconst (v := 1) hx hb dX11_middle_30 (by decide) ?_
    refine lv_goto (tgt := 35) hx hb dX11_middle_31 (by decide) ?_
    exact D35 a0 p1 p2 p3 (1 : Int32) σ11 hf _ _ hJ ls (lv_sub hl [0, 1, 2, 3] rfl)
set_option maxHeartbeats 4000000 in
set_option maxRecDepth 100000 in
theorem ct_X11_middle (l : Launch) (hlt : l.stackTraces = false) (G : mx_G) (P : mx_P) (a0 : Nat) (p1 : Int32) (p2 : Int32) (p3 : Int32) (σ : mx_S) (E : String) (σ' : mx_S) (hf : f_X11_middle P a0 p1 p2 p3 σ = some (.inl (E, σ'))) : mxz σ ≤ mpc P → mxu σ ≤ mps P → mx_Mt l yX11_middle cX11_middle 4 (some .long) 8 153 G P [.ref a0, .int p1, .int p2, .int p3] σ E σ' := by
  intro hcap hcau
  refine mx_ofWt (by decide +kernel) hcap hcau (Nat.le_of_ble_eq_true rfl) ?_
  intro p e s m below meth c hx hb hr hml hts hown hlocks hname hnt hK hJ ls hl
  have hz0 := hJ.2.1
  have hown : s.vm.findClass RX11 = some m.cls := hown
  have hl : lv_has ls 4 [(0, .ref a0), (1, .int p1), (2, .int p2), (3, .int p3)] := hl
  have D69 : ∀ (v0 : Nat) (v3 : Int32) (w0 : Int32) (τ : mx_S), f_X11_middle_D69 P v0 v3 w0 τ = some (.inl (E, σ')) → ∀ (H : Heap) (locs : List Loc), mx_J G P s.heap (mxz σ) (mxu σ) τ H locs → ∀ ls : Array Slot, lv_has ls 4 [(0, .ref v0), (3, .int v3)] → W p l e (mx_rm P 8 153 σ) s m ([.ref a0, .int p1, .int p2, .int p3] : List Value).toArray below meth c H locs (mxz τ - mxz σ) (mxu τ - mxu σ) (mx_Zt below G P E σ σ' [.ref a0, .int p1, .int p2, .int p3] s) (F0 m 69 ls [.int w0]) := by
    intro v0 v3 w0 τ hf _ _ hJ ls hl
    unfold f_X11_middle_D69 at hf
    rcases mbx_t hf with e35 | ⟨σ34, e35, hf⟩
    · exact mx_callST (As := [.int w0]) (rest := []) hx hb hml hts hown hK hJ rfl rfl hnt hlocks (ct_X11_needPresence l hlt G P w0 τ E σ' e35) me_X11_needPresence kw_1243 kw_1242 (Nat.le_of_ble_eq_true rfl) (Nat.le_of_ble_eq_true rfl) rfl hl.1 rfl (Nat.le_of_ble_eq_true rfl) dX11_middle_69
    refine mx_callS (As := [.int w0]) (rest := []) hx hb hml hts hown hK hJ rfl rfl (c_X11_needPresence l G P w0 τ σ34 e35) me_X11_needPresence kw_1243 kw_1242 (Nat.le_of_ble_eq_true rfl) (Nat.le_of_ble_eq_true rfl) rfl hl.1 rfl (Nat.le_of_ble_eq_true rfl) dX11_middle_69 (fun H locs hJ => ?_)
    refine lv_aload_n hx hb dX11_middle_72 rfl (lv_at hl 0 rfl) ?_
    obtain ⟨b36, e37, hf⟩ := mb0 hf
    refine my_gR hx hb hts hown hK hJ fd_RX11_54 hv_11_6 e37 dX11_middle_73 ?_
    obtain ⟨b38, e39, hf⟩ := mb0 hf
    refine my_gR hx hb hts hown hK hJ fd_RX11_174 hv_7_19 e39 dX11_middle_76 ?_
    refine lv_iload_n hx hb dX11_middle_79 rfl (lv_at hl 1 rfl) ?_
    obtain ⟨i40, e41, hf⟩ := mb0 hf
    obtain ⟨x43, σ42, e44, hf⟩ := mc0 hf
    refine mx_callV (As := [.int v3]) (rest := []) hx hb hml hts hown hK hJ rfl rfl (ci := 0) rfl e41 (c_X0_number l G P b38 v3 σ34 x43 σ42 e44) me_X0_number kw_1273 kw_1274 kw_1272 (Nat.le_of_ble_eq_true rfl) (Nat.le_of_ble_eq_true rfl) rfl hl.1 rfl (Nat.le_of_ble_eq_true rfl) dX11_middle_80 (fun H locs hJ => ?_)
    cases hf
  have D35 : ∀ (v0 : Nat) (v1 : Int32) (v2 : Int32) (v3 : Int32) (w0 : Int32) (τ : mx_S), f_X11_middle_D35 P v0 v1 v2 v3 w0 τ = some (.inl (E, σ')) → ∀ (H : Heap) (locs : List Loc), mx_J G P s.heap (mxz σ) (mxu σ) τ H locs → ∀ ls : Array Slot, lv_has ls 4 [(0, .ref v0), (1, .int v1), (2, .int v2), (3, .int v3)] → W p l e (mx_rm P 8 153 σ) s m ([.ref a0, .int p1, .int p2, .int p3] : List Value).toArray below meth c H locs (mxz τ - mxz σ) (mxu τ - mxu σ) (mx_Zt below G P E σ σ' [.ref a0, .int p1, .int p2, .int p3] s) (F0 m 35 ls [.int w0]) := by
    intro v0 v1 v2 v3 w0 τ hf _ _ hJ ls hl
    unfold f_X11_middle_D35 at hf
    rcases mbx_t hf with e16 | ⟨σ15, e16, hf⟩
    · exact mx_callST (As := [.int w0]) (rest := []) hx hb hml hts hown hK hJ rfl rfl hnt hlocks (ct_X11_needPresence l hlt G P w0 τ E σ' e16) me_X11_needPresence kw_1243 kw_1242 (Nat.le_of_ble_eq_true rfl) (Nat.le_of_ble_eq_true rfl) rfl hl.1 rfl (Nat.le_of_ble_eq_true rfl) dX11_middle_35
    refine mx_callS (As := [.int w0]) (rest := []) hx hb hml hts hown hK hJ rfl rfl (c_X11_needPresence l G P w0 τ σ15 e16) me_X11_needPresence kw_1243 kw_1242 (Nat.le_of_ble_eq_true rfl) (Nat.le_of_ble_eq_true rfl) rfl hl.1 rfl (Nat.le_of_ble_eq_true rfl) dX11_middle_35 (fun H locs hJ => ?_)
    refine lv_aload_n hx hb dX11_middle_38 rfl (lv_at hl 0 rfl) ?_
    refine lv_iload_n hx hb dX11_middle_39 rfl (lv_at hl 1 rfl) ?_
    obtain ⟨i17, e18, hf⟩ := mb0 hf
    rcases mbx_t hf with e20 | ⟨σ19, e20, hf⟩
    · exact mx_callVT (As := [.int v1]) (rest := []) hx hb hml hts hown hK hJ rfl rfl hnt hlocks (ci := 11) rfl e18 (ct_X11_needSure l hlt G P v0 v1 σ15 E σ' e20) me_X11_needSure kw_1286 ks_39 kw_1284 (Nat.le_of_ble_eq_true rfl) (Nat.le_of_ble_eq_true rfl) rfl hl.1 rfl (Nat.le_of_ble_eq_true rfl) dX11_middle_40
    refine mx_callV (As := [.int v1]) (rest := []) hx hb hml hts hown hK hJ rfl rfl (ci := 11) rfl e18 (c_X11_needSure l G P v0 v1 σ15 σ19 e20) me_X11_needSure kw_1286 ks_39 kw_1284 (Nat.le_of_ble_eq_true rfl) (Nat.le_of_ble_eq_true rfl) rfl hl.1 rfl (Nat.le_of_ble_eq_true rfl) dX11_middle_40 (fun H locs hJ => ?_)
    refine lv_aload_n hx hb dX11_middle_43 rfl (lv_at hl 0 rfl) ?_
    obtain ⟨b21, e22, hf⟩ := mb0 hf
    refine my_gR hx hb hts hown hK hJ fd_RX11_54 hv_11_6 e22 dX11_middle_44 ?_
    refine lv_iload_n hx hb dX11_middle_47 rfl (lv_at hl 2 rfl) ?_
    obtain ⟨i23, e24, hf⟩ := mb0 hf
    obtain ⟨σ25, e26, hf⟩ := mb0 hf
    refine mx_callV (As := [.int v2]) (rest := []) hx hb hml hts hown hK hJ rfl rfl (ci := 7) rfl e24 (c_X7_reckonMiddle l G P b21 v2 σ19 σ25 e26) me_X7_reckonMiddle kw_1437 kw_1438 kw_1436 (Nat.le_of_ble_eq_true rfl) (Nat.le_of_ble_eq_true rfl) rfl hl.1 rfl (Nat.le_of_ble_eq_true rfl) dX11_middle_48 (fun H locs hJ => ?_)
    refine lv_aload_n hx hb dX11_middle_51 rfl (lv_at hl 0 rfl) ?_
    obtain ⟨b27, e28, hf⟩ := mb0 hf
    refine my_gR hx hb hts hown hK hJ fd_RX11_54 hv_11_6 e28 dX11_middle_52 ?_
    obtain ⟨b29, e30, hf⟩ := mb0 hf
    refine my_gR hx hb hts hown hK hJ fd_RX11_174 hv_7_19 e30 dX11_middle_55 ?_
    obtain ⟨x31, e32, hf⟩ := mb0 hf
    refine my_gI hx hb hts hown hK hJ fd_RX11_178 hv_0_2 e32 dX11_middle_58 ?_
    refine lv_if_ne (tgt := 68) hx hb dX11_middle_61 (by decide) (fun c33 => ?_) (fun c33 => ?_)
    · rw [if_neg c33] at hf
      refine lv_iconst (v := 0) hx hb dX11_middle_68 (by decide) ?_
      exact D69 v0 v3 (0 : Int32) σ25 hf _ _ hJ ls (lv_sub hl [0, 3] rfl)
    · rw [if_pos c33] at hf
      refine lv_iconst (v := 1) hx hb dX11_middle_64 (by decide) ?_
      refine lv_goto (tgt := 69) hx hb dX11_middle_65 (by decide) ?_
      exact D69 v0 v3 (1 : Int32) σ25 hf _ _ hJ ls (lv_sub hl [0, 3] rfl)
  unfold f_X11_middle at hf
  refine lv_iload_n hx hb dX11_middle_0 rfl (lv_at hl 1 rfl) ?_
  refine lv_iconst (v := 0) hx hb dX11_middle_1 (by decide) ?_
  refine lv_sipush (v := 255) hx hb dX11_middle_2 (by decide) ?_
  rcases mbx_t hf with e2 | ⟨σ1, e2, hf⟩
  · exact mx_callST (As := [.int p1, .int (0 : Int32), .int (255 : Int32)]) (rest := []) hx hb hml hts hown hK hJ rfl rfl hnt hlocks (ct_X11_needRange l hlt G P p1 (0 : Int32) (255 : Int32) σ E σ' e2) me_X11_needRange kw_1005 kw_1004 (Nat.le_of_ble_eq_true rfl) (Nat.le_of_ble_eq_true rfl) rfl hl.1 rfl (Nat.le_of_ble_eq_true rfl) dX11_middle_5
  refine mx_callS (As := [.int p1, .int (0 : Int32), .int (255 : Int32)]) (rest := []) hx hb hml hts hown hK hJ rfl rfl (c_X11_needRange l G P p1 (0 : Int32) (255 : Int32) σ σ1 e2) me_X11_needRange kw_1005 kw_1004 (Nat.le_of_ble_eq_true rfl) (Nat.le_of_ble_eq_true rfl) rfl hl.1 rfl (Nat.le_of_ble_eq_true rfl) dX11_middle_5 (fun H locs hJ => ?_)
  refine lv_iload_n hx hb dX11_middle_8 rfl (lv_at hl 2 rfl) ?_
  refine lv_iconst (v := 0) hx hb dX11_middle_9 (by decide) ?_
  refine lv_iconst (v := 1) hx hb dX11_middle_10 (by decide) ?_
  rcases mbx_t hf with e4 | ⟨σ3, e4, hf⟩
  · exact mx_callST (As := [.int p2, .int (0 : Int32), .int (1 : Int32)]) (rest := []) hx hb hml hts hown hK hJ rfl rfl hnt hlocks (ct_X11_needRange l hlt G P p2 (0 : Int32) (1 : Int32) σ1 E σ' e4) me_X11_needRange kw_1005 kw_1004 (Nat.le_of_ble_eq_true rfl) (Nat.le_of_ble_eq_true rfl) rfl hl.1 rfl (Nat.le_of_ble_eq_true rfl) dX11_middle_11
  refine mx_callS (As := [.int p2, .int (0 : Int32), .int (1 : Int32)]) (rest := []) hx hb hml hts hown hK hJ rfl rfl (c_X11_needRange l G P p2 (0 : Int32) (1 : Int32) σ1 σ3 e4) me_X11_needRange kw_1005 kw_1004 (Nat.le_of_ble_eq_true rfl) (Nat.le_of_ble_eq_true rfl) rfl hl.1 rfl (Nat.le_of_ble_eq_true rfl) dX11_middle_11 (fun H locs hJ => ?_)
  refine lv_iload_n hx hb dX11_middle_14 rfl (lv_at hl 3 rfl) ?_
  refine lv_iconst (v := 0) hx hb dX11_middle_15 (by decide) ?_
  refine lv_iconst (v := 1) hx hb dX11_middle_16 (by decide) ?_
  rcases mbx_t hf with e6 | ⟨σ5, e6, hf⟩
  · exact mx_callST (As := [.int p3, .int (0 : Int32), .int (1 : Int32)]) (rest := []) hx hb hml hts hown hK hJ rfl rfl hnt hlocks (ct_X11_needRange l hlt G P p3 (0 : Int32) (1 : Int32) σ3 E σ' e6) me_X11_needRange kw_1005 kw_1004 (Nat.le_of_ble_eq_true rfl) (Nat.le_of_ble_eq_true rfl) rfl hl.1 rfl (Nat.le_of_ble_eq_true rfl) dX11_middle_17
  refine mx_callS (As := [.int p3, .int (0 : Int32), .int (1 : Int32)]) (rest := []) hx hb hml hts hown hK hJ rfl rfl (c_X11_needRange l G P p3 (0 : Int32) (1 : Int32) σ3 σ5 e6) me_X11_needRange kw_1005 kw_1004 (Nat.le_of_ble_eq_true rfl) (Nat.le_of_ble_eq_true rfl) rfl hl.1 rfl (Nat.le_of_ble_eq_true rfl) dX11_middle_17 (fun H locs hJ => ?_)
  refine lv_aload_n hx hb dX11_middle_20 rfl (lv_at hl 0 rfl) ?_
  obtain ⟨b7, e8, hf⟩ := mb0 hf
  refine my_gR hx hb hts hown hK hJ fd_RX11_54 hv_11_6 e8 dX11_middle_21 ?_
  obtain ⟨i9, e10, hf⟩ := mb0 hf
  obtain ⟨x12, σ11, e13, hf⟩ := mc0 hf
  refine mx_callV (As := []) (rest := []) hx hb hml hts hown hK hJ rfl rfl (ci := 7) rfl e10 (c_X7_massInAll l G P b7 σ5 x12 σ11 e13) me_X7_massInAll kw_1433 kw_1434 kw_1432 (Nat.le_of_ble_eq_true rfl) (Nat.le_of_ble_eq_true rfl) rfl hl.1 rfl (Nat.le_of_ble_eq_true rfl) dX11_middle_24 (fun H locs hJ => ?_)
  refine lv_if_le (tgt := 34) hx hb dX11_middle_27 (by decide) (fun c14 => ?_) (fun c14 => ?_)
  · rw [if_pos c14] at hf
    refine lv_iconst (v := 0) hx hb dX11_middle_34 (by decide) ?_
    exact D35 a0 p1 p2 p3 (0 : Int32) σ11 hf _ _ hJ ls (lv_sub hl [0, 1, 2, 3] rfl)
  · rw [if_neg c14] at hf
    refine lv_iconst (v := 1) hx hb dX11_middle_30 (by decide) ?_
    refine lv_goto (tgt := 35) hx hb dX11_middle_31 (by decide) ?_
    exact D35 a0 p1 p2 p3 (1 : Int32) σ11 hf _ _ hJ ls (lv_sub hl [0, 1, 2, 3] rfl)
set_option maxHeartbeats 4000000 in
set_option maxRecDepth 100000 in
theorem c_X11_needRoom (l : Launch) (G : mx_G) (P : mx_P) (p0 : Int32) (σ : mx_S) (σ' : mx_S) (hf : f_X11_needRoom P p0 σ = some (.inr σ')) : mxz σ ≤ mpc P → mxu σ ≤ mps P → mx_M l yX11_needRoom cX11_needRoom 1 none 6 81 G P [.int p0] σ none σ' := by
  intro hcap hcau
  refine mx_ofW (by decide +kernel) hcap hcau (Nat.le_of_ble_eq_true rfl) ?_
  intro p e s m below meth c hx hb hr hml hts hown hlocks hname hK hJ ls hl
  have hz0 := hJ.2.1
  have hown : s.vm.findClass RX11 = some m.cls := hown
  have hl : lv_has ls 1 [(0, .int p0)] := hl
  unfold f_X11_needRoom at hf
  refine lv_iload_n hx hb dX11_needRoom_0 rfl (lv_at hl 0 rfl) ?_
  refine lv_if_ne (tgt := 12) hx hb dX11_needRoom_1 (by decide) (fun c1 => ?_) (fun c1 => ?_)
  · rw [if_neg c1] at hf
    exact my_vret hx hb hr hlocks hJ (mx_inr hf) dX11_needRoom_12
  · rw [if_pos c1] at hf
    obtain ⟨σ2, e3, hf⟩ := mb0 hf
    cases hf
set_option maxHeartbeats 4000000 in
set_option maxRecDepth 100000 in
theorem ct_X11_needRoom (l : Launch) (hlt : l.stackTraces = false) (G : mx_G) (P : mx_P) (p0 : Int32) (σ : mx_S) (E : String) (σ' : mx_S) (hf : f_X11_needRoom P p0 σ = some (.inl (E, σ'))) : mxz σ ≤ mpc P → mxu σ ≤ mps P → mx_Mt l yX11_needRoom cX11_needRoom 1 none 6 81 G P [.int p0] σ E σ' := by
  intro hcap hcau
  refine mx_ofWt (by decide +kernel) hcap hcau (Nat.le_of_ble_eq_true rfl) ?_
  intro p e s m below meth c hx hb hr hml hts hown hlocks hname hnt hK hJ ls hl
  have hz0 := hJ.2.1
  have hown : s.vm.findClass RX11 = some m.cls := hown
  have hl : lv_has ls 1 [(0, .int p0)] := hl
  unfold f_X11_needRoom at hf
  refine lv_iload_n hx hb dX11_needRoom_0 rfl (lv_at hl 0 rfl) ?_
  refine lv_if_ne (tgt := 12) hx hb dX11_needRoom_1 (by decide) (fun c1 => ?_) (fun c1 => ?_)
  · rw [if_neg c1] at hf
    cases hf
  · rw [if_pos c1] at hf
    obtain ⟨σ2, e3, hf⟩ := mb0 hf
    have hE : some (Sum.inl ("java/lang/IndexOutOfBoundsException", σ2) : (String × mx_S) ⊕ _) = some (.inl (E, σ')) := hf
    obtain ⟨rfl, rfl⟩ := mx_inl hE
    exact mx_thr hx hb hlt hts hown hK hz0 hJ rfl rfl hnt hlocks tw_RX11_77 (by rw [hml]; exact hl.1.symm) dX11_needRoom_4 dX11_needRoom_7 dX11_needRoom_8 dX11_needRoom_11 (Nat.le_of_ble_eq_true rfl) (Nat.le_of_ble_eq_true rfl) e3
set_option maxHeartbeats 4000000 in
set_option maxRecDepth 100000 in
theorem c_X11_gear (l : Launch) (G : mx_G) (P : mx_P) (a0 : Nat) (p1 : Int32) (p2 : Int32) (σ : mx_S) (r : Int32) (σ' : mx_S) (hf : f_X11_gear P a0 p1 p2 σ = some (.inr (r, σ'))) : mxz σ ≤ mpc P → mxu σ ≤ mps P → mx_M l yX11_gear cX11_gear 3 (some .int) 7 103 G P [.ref a0, .int p1, .int p2] σ (some (.int r)) σ' := by
  intro hcap hcau
  refine mx_ofW (by decide +kernel) hcap hcau (Nat.le_of_ble_eq_true rfl) ?_
  intro p e s m below meth c hx hb hr hml hts hown hlocks hname hK hJ ls hl
  have hz0 := hJ.2.1
  have hown : s.vm.findClass RX11 = some m.cls := hown
  have hl : lv_has ls 3 [(0, .ref a0), (1, .int p1), (2, .int p2)] := hl
  have D32 : ∀ (v0 : Nat) (v1 : Int32) (v2 : Int32) (w0 : Int32) (τ : mx_S), f_X11_gear_D32 P v0 v1 v2 w0 τ = some (.inr (r, σ')) → ∀ (H : Heap) (locs : List Loc), mx_J G P s.heap (mxz σ) (mxu σ) τ H locs → ∀ ls : Array Slot, lv_has ls 3 [(0, .ref v0), (1, .int v1), (2, .int v2)] → W p l e (mx_rm P 7 103 σ) s m ([.ref a0, .int p1, .int p2] : List Value).toArray below meth c H locs (mxz τ - mxz σ) (mxu τ - mxu σ) (mx_Z below G P (some (.int r)) σ σ' [.ref a0, .int p1, .int p2] s) (F0 m 32 ls [.int w0]) := by
    intro v0 v1 v2 w0 τ hf _ _ hJ ls hl
    unfold f_X11_gear_D32 at hf
    obtain ⟨σ10, e11, hf⟩ := mbx_n hf
    refine mx_callS (As := [.int w0]) (rest := []) hx hb hml hts hown hK hJ rfl rfl (c_X11_needRoom l G P w0 τ σ10 e11) me_X11_needRoom kw_1449 kw_1448 (Nat.le_of_ble_eq_true rfl) (Nat.le_of_ble_eq_true rfl) rfl hl.1 rfl (Nat.le_of_ble_eq_true rfl) dX11_gear_32 (fun H locs hJ => ?_)
    refine lv_aload_n hx hb dX11_gear_35 rfl (lv_at hl 0 rfl) ?_
    obtain ⟨b12, e13, hf⟩ := mb0 hf
    refine my_gR hx hb hts hown hK hJ fd_RX11_19 hv_11_1 e13 dX11_gear_36 ?_
    refine lv_iload_n hx hb dX11_gear_39 rfl (lv_at hl 1 rfl) ?_
    refine lv_iload_n hx hb dX11_gear_40 rfl (lv_at hl 2 rfl) ?_
    obtain ⟨i14, e15, hf⟩ := mb0 hf
    obtain ⟨x17, σ16, e18, hf⟩ := mc0 hf
    refine mx_callV (As := [.int v1, .int v2]) (rest := []) hx hb hml hts hown hK hJ rfl rfl (ci := 4) rfl e15 (c_X4_addGear l G P b12 v1 v2 σ10 x17 σ16 e18) me_X4_addGear kw_1452 kw_1453 kw_1451 (Nat.le_of_ble_eq_true rfl) (Nat.le_of_ble_eq_true rfl) rfl hl.1 rfl (Nat.le_of_ble_eq_true rfl) dX11_gear_41 (fun H locs hJ => ?_)
    exact my_iret hx hb hr hlocks hJ (mx_inr hf) dX11_gear_44
  unfold f_X11_gear at hf
  refine lv_iload_n hx hb dX11_gear_0 rfl (lv_at hl 1 rfl) ?_
  refine lv_iconst (v := 4) hx hb dX11_gear_1 (by decide) ?_
  refine lv_sipush (v := 2000) hx hb dX11_gear_2 (by decide) ?_
  obtain ⟨σ1, e2, hf⟩ := mbx_n hf
  refine mx_callS (As := [.int p1, .int (4 : Int32), .int (2000 : Int32)]) (rest := []) hx hb hml hts hown hK hJ rfl rfl (c_X11_needRange l G P p1 (4 : Int32) (2000 : Int32) σ σ1 e2) me_X11_needRange kw_1005 kw_1004 (Nat.le_of_ble_eq_true rfl) (Nat.le_of_ble_eq_true rfl) rfl hl.1 rfl (Nat.le_of_ble_eq_true rfl) dX11_gear_5 (fun H locs hJ => ?_)
  refine lv_iload_n hx hb dX11_gear_8 rfl (lv_at hl 2 rfl) ?_
  refine lv_iconst (v := 0) hx hb dX11_gear_9 (by decide) ?_
  refine lv_bipush (v := 11) hx hb dX11_gear_10 (by decide) ?_
  obtain ⟨σ3, e4, hf⟩ := mbx_n hf
  refine mx_callS (As := [.int p2, .int (0 : Int32), .int (11 : Int32)]) (rest := []) hx hb hml hts hown hK hJ rfl rfl (c_X11_needRange l G P p2 (0 : Int32) (11 : Int32) σ1 σ3 e4) me_X11_needRange kw_1005 kw_1004 (Nat.le_of_ble_eq_true rfl) (Nat.le_of_ble_eq_true rfl) rfl hl.1 rfl (Nat.le_of_ble_eq_true rfl) dX11_gear_12 (fun H locs hJ => ?_)
  refine lv_aload_n hx hb dX11_gear_15 rfl (lv_at hl 0 rfl) ?_
  obtain ⟨b5, e6, hf⟩ := mb0 hf
  refine my_gR hx hb hts hown hK hJ fd_RX11_19 hv_11_1 e6 dX11_gear_16 ?_
  obtain ⟨x7, e8, hf⟩ := mb0 hf
  refine my_gI hx hb hts hown hK hJ fd_RX11_220 hv_4_0 e8 dX11_gear_19 ?_
  refine lv_bipush (v := 24) hx hb dX11_gear_22 (by decide) ?_
  refine lv_icmp_ge (tgt := 31) hx hb dX11_gear_24 (by decide) (fun c9 => ?_) (fun c9 => ?_)
  · rw [if_pos c9] at hf
    refine lv_iconst (v := 0) hx hb dX11_gear_31 (by decide) ?_
    exact D32 a0 p1 p2 (0 : Int32) σ3 hf _ _ hJ ls (lv_sub hl [0, 1, 2] rfl)
  · rw [if_neg c9] at hf
    refine lv_iconst (v := 1) hx hb dX11_gear_27 (by decide) ?_
    refine lv_goto (tgt := 32) hx hb dX11_gear_28 (by decide) ?_
    exact D32 a0 p1 p2 (1 : Int32) σ3 hf _ _ hJ ls (lv_sub hl [0, 1, 2] rfl)
set_option maxHeartbeats 4000000 in
set_option maxRecDepth 100000 in
theorem ct_X11_gear (l : Launch) (hlt : l.stackTraces = false) (G : mx_G) (P : mx_P) (a0 : Nat) (p1 : Int32) (p2 : Int32) (σ : mx_S) (E : String) (σ' : mx_S) (hf : f_X11_gear P a0 p1 p2 σ = some (.inl (E, σ'))) : mxz σ ≤ mpc P → mxu σ ≤ mps P → mx_Mt l yX11_gear cX11_gear 3 (some .int) 7 103 G P [.ref a0, .int p1, .int p2] σ E σ' := by
  intro hcap hcau
  refine mx_ofWt (by decide +kernel) hcap hcau (Nat.le_of_ble_eq_true rfl) ?_
  intro p e s m below meth c hx hb hr hml hts hown hlocks hname hnt hK hJ ls hl
  have hz0 := hJ.2.1
  have hown : s.vm.findClass RX11 = some m.cls := hown
  have hl : lv_has ls 3 [(0, .ref a0), (1, .int p1), (2, .int p2)] := hl
  have D32 : ∀ (v0 : Nat) (v1 : Int32) (v2 : Int32) (w0 : Int32) (τ : mx_S), f_X11_gear_D32 P v0 v1 v2 w0 τ = some (.inl (E, σ')) → ∀ (H : Heap) (locs : List Loc), mx_J G P s.heap (mxz σ) (mxu σ) τ H locs → ∀ ls : Array Slot, lv_has ls 3 [(0, .ref v0), (1, .int v1), (2, .int v2)] → W p l e (mx_rm P 7 103 σ) s m ([.ref a0, .int p1, .int p2] : List Value).toArray below meth c H locs (mxz τ - mxz σ) (mxu τ - mxu σ) (mx_Zt below G P E σ σ' [.ref a0, .int p1, .int p2] s) (F0 m 32 ls [.int w0]) := by
    intro v0 v1 v2 w0 τ hf _ _ hJ ls hl
    unfold f_X11_gear_D32 at hf
    rcases mbx_t hf with e11 | ⟨σ10, e11, hf⟩
    · exact mx_callST (As := [.int w0]) (rest := []) hx hb hml hts hown hK hJ rfl rfl hnt hlocks (ct_X11_needRoom l hlt G P w0 τ E σ' e11) me_X11_needRoom kw_1449 kw_1448 (Nat.le_of_ble_eq_true rfl) (Nat.le_of_ble_eq_true rfl) rfl hl.1 rfl (Nat.le_of_ble_eq_true rfl) dX11_gear_32
    refine mx_callS (As := [.int w0]) (rest := []) hx hb hml hts hown hK hJ rfl rfl (c_X11_needRoom l G P w0 τ σ10 e11) me_X11_needRoom kw_1449 kw_1448 (Nat.le_of_ble_eq_true rfl) (Nat.le_of_ble_eq_true rfl) rfl hl.1 rfl (Nat.le_of_ble_eq_true rfl) dX11_gear_32 (fun H locs hJ => ?_)
    refine lv_aload_n hx hb dX11_gear_35 rfl (lv_at hl 0 rfl) ?_
    obtain ⟨b12, e13, hf⟩ := mb0 hf
    refine my_gR hx hb hts hown hK hJ fd_RX11_19 hv_11_1 e13 dX11_gear_36 ?_
    refine lv_iload_n hx hb dX11_gear_39 rfl (lv_at hl 1 rfl) ?_
    refine lv_iload_n hx hb dX11_gear_40 rfl (lv_at hl 2 rfl) ?_
    obtain ⟨i14, e15, hf⟩ := mb0 hf
    obtain ⟨x17, σ16, e18, hf⟩ := mc0 hf
    refine mx_callV (As := [.int v1, .int v2]) (rest := []) hx hb hml hts hown hK hJ rfl rfl (ci := 4) rfl e15 (c_X4_addGear l G P b12 v1 v2 σ10 x17 σ16 e18) me_X4_addGear kw_1452 kw_1453 kw_1451 (Nat.le_of_ble_eq_true rfl) (Nat.le_of_ble_eq_true rfl) rfl hl.1 rfl (Nat.le_of_ble_eq_true rfl) dX11_gear_41 (fun H locs hJ => ?_)
    cases hf
  unfold f_X11_gear at hf
  refine lv_iload_n hx hb dX11_gear_0 rfl (lv_at hl 1 rfl) ?_
  refine lv_iconst (v := 4) hx hb dX11_gear_1 (by decide) ?_
  refine lv_sipush (v := 2000) hx hb dX11_gear_2 (by decide) ?_
  rcases mbx_t hf with e2 | ⟨σ1, e2, hf⟩
  · exact mx_callST (As := [.int p1, .int (4 : Int32), .int (2000 : Int32)]) (rest := []) hx hb hml hts hown hK hJ rfl rfl hnt hlocks (ct_X11_needRange l hlt G P p1 (4 : Int32) (2000 : Int32) σ E σ' e2) me_X11_needRange kw_1005 kw_1004 (Nat.le_of_ble_eq_true rfl) (Nat.le_of_ble_eq_true rfl) rfl hl.1 rfl (Nat.le_of_ble_eq_true rfl) dX11_gear_5
  refine mx_callS (As := [.int p1, .int (4 : Int32), .int (2000 : Int32)]) (rest := []) hx hb hml hts hown hK hJ rfl rfl (c_X11_needRange l G P p1 (4 : Int32) (2000 : Int32) σ σ1 e2) me_X11_needRange kw_1005 kw_1004 (Nat.le_of_ble_eq_true rfl) (Nat.le_of_ble_eq_true rfl) rfl hl.1 rfl (Nat.le_of_ble_eq_true rfl) dX11_gear_5 (fun H locs hJ => ?_)
  refine lv_iload_n hx hb dX11_gear_8 rfl (lv_at hl 2 rfl) ?_
  refine lv_iconst (v := 0) hx hb dX11_gear_9 (by decide) ?_
  refine lv_bipush (v := 11) hx hb dX11_gear_10 (by decide) ?_
  rcases mbx_t hf with e4 | ⟨σ3, e4, hf⟩
  · exact mx_callST (As := [.int p2, .int (0 : Int32), .int (11 : Int32)]) (rest := []) hx hb hml hts hown hK hJ rfl rfl hnt hlocks (ct_X11_needRange l hlt G P p2 (0 : Int32) (11 : Int32) σ1 E σ' e4) me_X11_needRange kw_1005 kw_1004 (Nat.le_of_ble_eq_true rfl) (Nat.le_of_ble_eq_true rfl) rfl hl.1 rfl (Nat.le_of_ble_eq_true rfl) dX11_gear_12
  refine mx_callS (As := [.int p2, .int (0 : Int32), .int (11 : Int32)]) (rest := []) hx hb hml hts hown hK hJ rfl rfl (c_X11_needRange l G P p2 (0 : Int32) (11 : Int32) σ1 σ3 e4) me_X11_needRange kw_1005 kw_1004 (Nat.le_of_ble_eq_true rfl) (Nat.le_of_ble_eq_true rfl) rfl hl.1 rfl (Nat.le_of_ble_eq_true rfl) dX11_gear_12 (fun H locs hJ => ?_)
  refine lv_aload_n hx hb dX11_gear_15 rfl (lv_at hl 0 rfl) ?_
  obtain ⟨b5, e6, hf⟩ := mb0 hf
  refine my_gR hx hb hts hown hK hJ fd_RX11_19 hv_11_1 e6 dX11_gear_16 ?_
  obtain ⟨x7, e8, hf⟩ := mb0 hf
  refine my_gI hx hb hts hown hK hJ fd_RX11_220 hv_4_0 e8 dX11_gear_19 ?_
  refine lv_bipush (v := 24) hx hb dX11_gear_22 (by decide) ?_
  refine lv_icmp_ge (tgt := 31) hx hb dX11_gear_24 (by decide) (fun c9 => ?_) (fun c9 => ?_)
  · rw [if_pos c9] at hf
    refine lv_iconst (v := 0) hx hb dX11_gear_31 (by decide) ?_
    exact D32 a0 p1 p2 (0 : Int32) σ3 hf _ _ hJ ls (lv_sub hl [0, 1, 2] rfl)
  · rw [if_neg c9] at hf
    refine lv_iconst (v := 1) hx hb dX11_gear_27 (by decide) ?_
    refine lv_goto (tgt := 32) hx hb dX11_gear_28 (by decide) ?_
    exact D32 a0 p1 p2 (1 : Int32) σ3 hf _ _ hJ ls (lv_sub hl [0, 1, 2] rfl)
set_option maxHeartbeats 4000000 in
set_option maxRecDepth 100000 in
theorem c_X11_mesh (l : Launch) (G : mx_G) (P : mx_P) (a0 : Nat) (p1 : Int32) (p2 : Int32) (p3 : Int32) (p4 : Int32) (σ : mx_S) (r : Int32) (σ' : mx_S) (hf : f_X11_mesh P a0 p1 p2 p3 p4 σ = some (.inr (r, σ'))) : mxz σ ≤ mpc P → mxu σ ≤ mps P → mx_M l yX11_mesh cX11_mesh 5 (some .int) 7 103 G P [.ref a0, .int p1, .int p2, .int p3, .int p4] σ (some (.int r)) σ' := by
  intro hcap hcau
  refine mx_ofW (by decide +kernel) hcap hcau (Nat.le_of_ble_eq_true rfl) ?_
  intro p e s m below meth c hx hb hr hml hts hown hlocks hname hK hJ ls hl
  have hz0 := hJ.2.1
  have hown : s.vm.findClass RX11 = some m.cls := hown
  have hl : lv_has ls 5 [(0, .ref a0), (1, .int p1), (2, .int p2), (3, .int p3), (4, .int p4)] := hl
  have D90 : ∀ (v0 : Nat) (v1 : Int32) (v2 : Int32) (v3 : Int32) (v4 : Int32) (w0 : Int32) (τ : mx_S), f_X11_mesh_D90 P v0 v1 v2 v3 v4 w0 τ = some (.inr (r, σ')) → ∀ (H : Heap) (locs : List Loc), mx_J G P s.heap (mxz σ) (mxu σ) τ H locs → ∀ ls : Array Slot, lv_has ls 5 [(0, .ref v0), (1, .int v1), (2, .int v2), (3, .int v3), (4, .int v4)] → W p l e (mx_rm P 7 103 σ) s m ([.ref a0, .int p1, .int p2, .int p3, .int p4] : List Value).toArray below meth c H locs (mxz τ - mxz σ) (mxu τ - mxu σ) (mx_Z below G P (some (.int r)) σ σ' [.ref a0, .int p1, .int p2, .int p3, .int p4] s) (F0 m 90 ls [.int w0]) := by
    intro v0 v1 v2 v3 v4 w0 τ hf _ _ hJ ls hl
    unfold f_X11_mesh_D90 at hf
    obtain ⟨σ33, e34, hf⟩ := mbx_n hf
    refine mx_callS (As := [.int w0]) (rest := []) hx hb hml hts hown hK hJ rfl rfl (c_X11_needRoom l G P w0 τ σ33 e34) me_X11_needRoom kw_1449 kw_1448 (Nat.le_of_ble_eq_true rfl) (Nat.le_of_ble_eq_true rfl) rfl hl.1 rfl (Nat.le_of_ble_eq_true rfl) dX11_mesh_90 (fun H locs hJ => ?_)
    refine lv_aload_n hx hb dX11_mesh_93 rfl (lv_at hl 0 rfl) ?_
    obtain ⟨b35, e36, hf⟩ := mb0 hf
    refine my_gR hx hb hts hown hK hJ fd_RX11_19 hv_11_1 e36 dX11_mesh_94 ?_
    refine lv_iload_n hx hb dX11_mesh_97 rfl (lv_at hl 1 rfl) ?_
    refine lv_iload_n hx hb dX11_mesh_98 rfl (lv_at hl 2 rfl) ?_
    refine lv_iload_n hx hb dX11_mesh_99 rfl (lv_at hl 3 rfl) ?_
    refine lv_iload hx hb dX11_mesh_100 (lv_at hl 4 rfl) ?_
    obtain ⟨i37, e38, hf⟩ := mb0 hf
    obtain ⟨x40, σ39, e41, hf⟩ := mc0 hf
    refine mx_callV (As := [.int v1, .int v2, .int v3, .int v4]) (rest := []) hx hb hml hts hown hK hJ rfl rfl (ci := 4) rfl e38 (c_X4_addMesh l G P b35 v1 v2 v3 v4 σ33 x40 σ39 e41) me_X4_addMesh kw_1463 kw_1464 kw_1462 (Nat.le_of_ble_eq_true rfl) (Nat.le_of_ble_eq_true rfl) rfl hl.1 rfl (Nat.le_of_ble_eq_true rfl) dX11_mesh_102 (fun H locs hJ => ?_)
    exact my_iret hx hb hr hlocks hJ (mx_inr hf) dX11_mesh_105
  have D70 : ∀ (v0 : Nat) (v1 : Int32) (v2 : Int32) (v3 : Int32) (v4 : Int32) (w0 : Int32) (τ : mx_S), f_X11_mesh_D70 P v0 v1 v2 v3 v4 w0 τ = some (.inr (r, σ')) → ∀ (H : Heap) (locs : List Loc), mx_J G P s.heap (mxz σ) (mxu σ) τ H locs → ∀ ls : Array Slot, lv_has ls 5 [(0, .ref v0), (1, .int v1), (2, .int v2), (3, .int v3), (4, .int v4)] → W p l e (mx_rm P 7 103 σ) s m ([.ref a0, .int p1, .int p2, .int p3, .int p4] : List Value).toArray below meth c H locs (mxz τ - mxz σ) (mxu τ - mxu σ) (mx_Z below G P (some (.int r)) σ σ' [.ref a0, .int p1, .int p2, .int p3, .int p4] s) (F0 m 70 ls [.int w0]) := by
    intro v0 v1 v2 v3 v4 w0 τ hf _ _ hJ ls hl
    unfold f_X11_mesh_D70 at hf
    obtain ⟨σ26, e27, hf⟩ := mbx_n hf
    refine mx_callS (As := [.int w0]) (rest := []) hx hb hml hts hown hK hJ rfl rfl (c_X11_needLeave l G P w0 τ σ26 e27) me_X11_needLeave kw_1289 kw_1288 (Nat.le_of_ble_eq_true rfl) (Nat.le_of_ble_eq_true rfl) rfl hl.1 rfl (Nat.le_of_ble_eq_true rfl) dX11_mesh_70 (fun H locs hJ => ?_)
    refine lv_aload_n hx hb dX11_mesh_73 rfl (lv_at hl 0 rfl) ?_
    obtain ⟨b28, e29, hf⟩ := mb0 hf
    refine my_gR hx hb hts hown hK hJ fd_RX11_19 hv_11_1 e29 dX11_mesh_74 ?_
    obtain ⟨x30, e31, hf⟩ := mb0 hf
    refine my_gI hx hb hts hown hK hJ fd_RX11_236 hv_4_1 e31 dX11_mesh_77 ?_
    refine lv_bipush (v := 20) hx hb dX11_mesh_80 (by decide) ?_
    refine lv_icmp_ge (tgt := 89) hx hb dX11_mesh_82 (by decide) (fun c32 => ?_) (fun c32 => ?_)
    · rw [if_pos c32] at hf
      refine lv_iconst (v := 0) hx hb dX11_mesh_89 (by decide) ?_
      exact D90 v0 v1 v2 v3 v4 (0 : Int32) σ26 hf _ _ hJ ls (lv_sub hl [0, 1, 2, 3, 4] rfl)
    · rw [if_neg c32] at hf
      refine lv_iconst (v := 1) hx hb dX11_mesh_85 (by decide) ?_
      refine lv_goto (tgt := 90) hx hb dX11_mesh_86 (by decide) ?_
      exact D90 v0 v1 v2 v3 v4 (1 : Int32) σ26 hf _ _ hJ ls (lv_sub hl [0, 1, 2, 3, 4] rfl)
  have D41 : ∀ (v0 : Nat) (v1 : Int32) (v2 : Int32) (v3 : Int32) (v4 : Int32) (w0 : Int32) (τ : mx_S), f_X11_mesh_D41 P v0 v1 v2 v3 v4 w0 τ = some (.inr (r, σ')) → ∀ (H : Heap) (locs : List Loc), mx_J G P s.heap (mxz σ) (mxu σ) τ H locs → ∀ ls : Array Slot, lv_has ls 5 [(0, .ref v0), (1, .int v1), (2, .int v2), (3, .int v3), (4, .int v4)] → W p l e (mx_rm P 7 103 σ) s m ([.ref a0, .int p1, .int p2, .int p3, .int p4] : List Value).toArray below meth c H locs (mxz τ - mxz σ) (mxu τ - mxu σ) (mx_Z below G P (some (.int r)) σ σ' [.ref a0, .int p1, .int p2, .int p3, .int p4] s) (F0 m 41 ls [.int w0]) := by
    intro v0 v1 v2 v3 v4 w0 τ hf _ _ hJ ls hl
    unfold f_X11_mesh_D41 at hf
    obtain ⟨σ11, e12, hf⟩ := mbx_n hf
    refine mx_callS (As := [.int w0]) (rest := []) hx hb hml hts hown hK hJ rfl rfl (c_X11_needPresence l G P w0 τ σ11 e12) me_X11_needPresence kw_1243 kw_1242 (Nat.le_of_ble_eq_true rfl) (Nat.le_of_ble_eq_true rfl) rfl hl.1 rfl (Nat.le_of_ble_eq_true rfl) dX11_mesh_41 (fun H locs hJ => ?_)
    refine lv_aload_n hx hb dX11_mesh_44 rfl (lv_at hl 0 rfl) ?_
    obtain ⟨b13, e14, hf⟩ := mb0 hf
    refine my_gR hx hb hts hown hK hJ fd_RX11_19 hv_11_1 e14 dX11_mesh_45 ?_
    obtain ⟨b15, e16, hf⟩ := mb0 hf
    refine my_gR hx hb hts hown hK hJ fd_RX11_230 hv_4_4 e16 dX11_mesh_48 ?_
    refine lv_iload_n hx hb dX11_mesh_51 rfl (lv_at hl 1 rfl) ?_
    obtain ⟨x17, e18, hf⟩ := mb0 hf
    refine mx_aI hx hb hK hJ e18 dX11_mesh_52 ?_
    refine lv_aload_n hx hb dX11_mesh_53 rfl (lv_at hl 0 rfl) ?_
    obtain ⟨b19, e20, hf⟩ := mb0 hf
    refine my_gR hx hb hts hown hK hJ fd_RX11_19 hv_11_1 e20 dX11_mesh_54 ?_
    obtain ⟨b21, e22, hf⟩ := mb0 hf
    refine my_gR hx hb hts hown hK hJ fd_RX11_230 hv_4_4 e22 dX11_mesh_57 ?_
    refine lv_iload_n hx hb dX11_mesh_60 rfl (lv_at hl 2 rfl) ?_
    obtain ⟨x23, e24, hf⟩ := mb0 hf
    refine mx_aI hx hb hK hJ e24 dX11_mesh_61 ?_
    refine lv_icmp_eq (tgt := 69) hx hb dX11_mesh_62 (by decide) (fun c25 => ?_) (fun c25 => ?_)
    · rw [if_pos c25] at hf
      refine lv_iconst (v := 0) hx hb dX11_mesh_69 (by decide) ?_
      exact D70 v0 v1 v2 v3 v4 (0 : Int32) σ11 hf _ _ hJ ls (lv_sub hl [0, 1, 2, 3, 4] rfl)
    · rw [if_neg c25] at hf
      refine lv_iconst (v := 1) hx hb dX11_mesh_65 (by decide) ?_
      refine lv_goto (tgt := 70) hx hb dX11_mesh_66 (by decide) ?_
      exact D70 v0 v1 v2 v3 v4 (1 : Int32) σ11 hf _ _ hJ ls (lv_sub hl [0, 1, 2, 3, 4] rfl)
  have D40 : ∀ (v0 : Nat) (v1 : Int32) (v2 : Int32) (v3 : Int32) (v4 : Int32) (τ : mx_S), f_X11_mesh_D40 P v0 v1 v2 v3 v4 τ = some (.inr (r, σ')) → ∀ (H : Heap) (locs : List Loc), mx_J G P s.heap (mxz σ) (mxu σ) τ H locs → ∀ ls : Array Slot, lv_has ls 5 [(0, .ref v0), (1, .int v1), (2, .int v2), (3, .int v3), (4, .int v4)] → W p l e (mx_rm P 7 103 σ) s m ([.ref a0, .int p1, .int p2, .int p3, .int p4] : List Value).toArray below meth c H locs (mxz τ - mxz σ) (mxu τ - mxu σ) (mx_Z below G P (some (.int r)) σ σ' [.ref a0, .int p1, .int p2, .int p3, .int p4] s) (F0 m 40 ls []) := by
    intro v0 v1 v2 v3 v4 τ hf _ _ hJ ls hl
    unfold f_X11_mesh_D40 at hf
    refine lv_iconst (v := 0) hx hb dX11_mesh_40 (by decide) ?_
    exact D41 v0 v1 v2 v3 v4 (0 : Int32) τ hf _ _ hJ ls (lv_sub hl [0, 1, 2, 3, 4] rfl)
  unfold f_X11_mesh at hf
  refine lv_iload hx hb dX11_mesh_0 (lv_at hl 4 rfl) ?_
  refine lv_iconst (v := (-1)) hx hb dX11_mesh_2 (by decide) ?_
  refine lv_bipush (v := 11) hx hb dX11_mesh_3 (by decide) ?_
  obtain ⟨σ1, e2, hf⟩ := mbx_n hf
  refine mx_callS (As := [.int p4, .int (-1 : Int32), .int (11 : Int32)]) (rest := []) hx hb hml hts hown hK hJ rfl rfl (c_X11_needRange l G P p4 (-1 : Int32) (11 : Int32) σ σ1 e2) me_X11_needRange kw_1005 kw_1004 (Nat.le_of_ble_eq_true rfl) (Nat.le_of_ble_eq_true rfl) rfl hl.1 rfl (Nat.le_of_ble_eq_true rfl) dX11_mesh_5 (fun H locs hJ => ?_)
  refine lv_iload_n hx hb dX11_mesh_8 rfl (lv_at hl 1 rfl) ?_
  refine lv_aload_n hx hb dX11_mesh_9 rfl (lv_at hl 0 rfl) ?_
  obtain ⟨b3, e4, hf⟩ := mb0 hf
  refine my_gR hx hb hts hown hK hJ fd_RX11_19 hv_11_1 e4 dX11_mesh_10 ?_
  obtain ⟨x5, e6, hf⟩ := mb0 hf
  refine my_gI hx hb hts hown hK hJ fd_RX11_220 hv_4_0 e6 dX11_mesh_13 ?_
  obtain ⟨x8, σ7, e9, hf⟩ := mc0 hf
  refine mx_callS (As := [.int p1, .int x5]) (rest := []) hx hb hml hts hown hK hJ rfl rfl (c_X11_isWithin l G P p1 x5 σ1 x8 σ7 e9) me_X11_isWithin kw_1240 kw_1239 (Nat.le_of_ble_eq_true rfl) (Nat.le_of_ble_eq_true rfl) rfl hl.1 rfl (Nat.le_of_ble_eq_true rfl) dX11_mesh_16 (fun H locs hJ => ?_)
  refine lv_if_eq (tgt := 40) hx hb dX11_mesh_19 (by decide) (fun c10 => ?_) (fun c10 => ?_)
  · rw [if_pos c10] at hf
    exact D40 a0 p1 p2 p3 p4 σ7 hf _ _ hJ ls (lv_sub hl [0, 1, 2, 3, 4] rfl)
  · rw [if_neg c10] at hf
    refine lv_iload_n hx hb dX11_mesh_22 rfl (lv_at hl 2 rfl) ?_
    refine lv_aload_n hx hb dX11_mesh_23 rfl (lv_at hl 0 rfl) ?_
    obtain ⟨b42, e43, hf⟩ := mb0 hf
    refine my_gR hx hb hts hown hK hJ fd_RX11_19 hv_11_1 e43 dX11_mesh_24 ?_
    obtain ⟨x44, e45, hf⟩ := mb0 hf
    refine my_gI hx hb hts hown hK hJ fd_RX11_220 hv_4_0 e45 dX11_mesh_27 ?_
    obtain ⟨x47, σ46, e48, hf⟩ := mc0 hf
    refine mx_callS (As := [.int p2, .int x44]) (rest := []) hx hb hml hts hown hK hJ rfl rfl (c_X11_isWithin l G P p2 x44 σ7 x47 σ46 e48) me_X11_isWithin kw_1240 kw_1239 (Nat.le_of_ble_eq_true rfl) (Nat.le_of_ble_eq_true rfl) rfl hl.1 rfl (Nat.le_of_ble_eq_true rfl) dX11_mesh_30 (fun H locs hJ => ?_)
    refine lv_if_eq (tgt := 40) hx hb dX11_mesh_33 (by decide) (fun c49 => ?_) (fun c49 => ?_)
    · rw [if_pos c49] at hf
      exact D40 a0 p1 p2 p3 p4 σ46 hf _ _ hJ ls (lv_sub hl [0, 1, 2, 3, 4] rfl)
    · rw [if_neg c49] at hf
      refine lv_iconst (v := 1) hx hb dX11_mesh_36 (by decide) ?_
      refine lv_goto (tgt := 41) hx hb dX11_mesh_37 (by decide) ?_
      exact D41 a0 p1 p2 p3 p4 (1 : Int32) σ46 hf _ _ hJ ls (lv_sub hl [0, 1, 2, 3, 4] rfl)
set_option maxHeartbeats 4000000 in
set_option maxRecDepth 100000 in
theorem ct_X11_mesh (l : Launch) (hlt : l.stackTraces = false) (G : mx_G) (P : mx_P) (a0 : Nat) (p1 : Int32) (p2 : Int32) (p3 : Int32) (p4 : Int32) (σ : mx_S) (E : String) (σ' : mx_S) (hf : f_X11_mesh P a0 p1 p2 p3 p4 σ = some (.inl (E, σ'))) : mxz σ ≤ mpc P → mxu σ ≤ mps P → mx_Mt l yX11_mesh cX11_mesh 5 (some .int) 7 103 G P [.ref a0, .int p1, .int p2, .int p3, .int p4] σ E σ' := by
  intro hcap hcau
  refine mx_ofWt (by decide +kernel) hcap hcau (Nat.le_of_ble_eq_true rfl) ?_
  intro p e s m below meth c hx hb hr hml hts hown hlocks hname hnt hK hJ ls hl
  have hz0 := hJ.2.1
  have hown : s.vm.findClass RX11 = some m.cls := hown
  have hl : lv_has ls 5 [(0, .ref a0), (1, .int p1), (2, .int p2), (3, .int p3), (4, .int p4)] := hl
  have D90 : ∀ (v0 : Nat) (v1 : Int32) (v2 : Int32) (v3 : Int32) (v4 : Int32) (w0 : Int32) (τ : mx_S), f_X11_mesh_D90 P v0 v1 v2 v3 v4 w0 τ = some (.inl (E, σ')) → ∀ (H : Heap) (locs : List Loc), mx_J G P s.heap (mxz σ) (mxu σ) τ H locs → ∀ ls : Array Slot, lv_has ls 5 [(0, .ref v0), (1, .int v1), (2, .int v2), (3, .int v3), (4, .int v4)] → W p l e (mx_rm P 7 103 σ) s m ([.ref a0, .int p1, .int p2, .int p3, .int p4] : List Value).toArray below meth c H locs (mxz τ - mxz σ) (mxu τ - mxu σ) (mx_Zt below G P E σ σ' [.ref a0, .int p1, .int p2, .int p3, .int p4] s) (F0 m 90 ls [.int w0]) := by
    intro v0 v1 v2 v3 v4 w0 τ hf _ _ hJ ls hl
    unfold f_X11_mesh_D90 at hf
    rcases mbx_t hf with e34 | ⟨σ33, e34, hf⟩
    · exact mx_callST (As := [.int w0]) (rest := []) hx hb hml hts hown hK hJ rfl rfl hnt hlocks (ct_X11_needRoom l hlt G P w0 τ E σ' e34) me_X11_needRoom kw_1449 kw_1448 (Nat.le_of_ble_eq_true rfl) (Nat.le_of_ble_eq_true rfl) rfl hl.1 rfl (Nat.le_of_ble_eq_true rfl) dX11_mesh_90
    refine mx_callS (As := [.int w0]) (rest := []) hx hb hml hts hown hK hJ rfl rfl (c_X11_needRoom l G P w0 τ σ33 e34) me_X11_needRoom kw_1449 kw_1448 (Nat.le_of_ble_eq_true rfl) (Nat.le_of_ble_eq_true rfl) rfl hl.1 rfl (Nat.le_of_ble_eq_true rfl) dX11_mesh_90 (fun H locs hJ => ?_)
    refine lv_aload_n hx hb dX11_mesh_93 rfl (lv_at hl 0 rfl) ?_
    obtain ⟨b35, e36, hf⟩ := mb0 hf
    refine my_gR hx hb hts hown hK hJ fd_RX11_19 hv_11_1 e36 dX11_mesh_94 ?_
    refine lv_iload_n hx hb dX11_mesh_97 rfl (lv_at hl 1 rfl) ?_
    refine lv_iload_n hx hb dX11_mesh_98 rfl (lv_at hl 2 rfl) ?_
    refine lv_iload_n hx hb dX11_mesh_99 rfl (lv_at hl 3 rfl) ?_
    refine lv_iload hx hb dX11_mesh_100 (lv_at hl 4 rfl) ?_
    obtain ⟨i37, e38, hf⟩ := mb0 hf
    obtain ⟨x40, σ39, e41, hf⟩ := mc0 hf
    refine mx_callV (As := [.int v1, .int v2, .int v3, .int v4]) (rest := []) hx hb hml hts hown hK hJ rfl rfl (ci := 4) rfl e38 (c_X4_addMesh l G P b35 v1 v2 v3 v4 σ33 x40 σ39 e41) me_X4_addMesh kw_1463 kw_1464 kw_1462 (Nat.le_of_ble_eq_true rfl) (Nat.le_of_ble_eq_true rfl) rfl hl.1 rfl (Nat.le_of_ble_eq_true rfl) dX11_mesh_102 (fun H locs hJ => ?_)
    cases hf
  have D70 : ∀ (v0 : Nat) (v1 : Int32) (v2 : Int32) (v3 : Int32) (v4 : Int32) (w0 : Int32) (τ : mx_S), f_X11_mesh_D70 P v0 v1 v2 v3 v4 w0 τ = some (.inl (E, σ')) → ∀ (H : Heap) (locs : List Loc), mx_J G P s.heap (mxz σ) (mxu σ) τ H locs → ∀ ls : Array Slot, lv_has ls 5 [(0, .ref v0), (1, .int v1), (2, .int v2), (3, .int v3), (4, .int v4)] → W p l e (mx_rm P 7 103 σ) s m ([.ref a0, .int p1, .int p2, .int p3, .int p4] : List Value).toArray below meth c H locs (mxz τ - mxz σ) (mxu τ - mxu σ) (mx_Zt below G P E σ σ' [.ref a0, .int p1, .int p2, .int p3, .int p4] s) (F0 m 70 ls [.int w0]) := by
    intro v0 v1 v2 v3 v4 w0 τ hf _ _ hJ ls hl
    unfold f_X11_mesh_D70 at hf
    rcases mbx_t hf with e27 | ⟨σ26, e27, hf⟩
    · exact mx_callST (As := [.int w0]) (rest := []) hx hb hml hts hown hK hJ rfl rfl hnt hlocks (ct_X11_needLeave l hlt G P w0 τ E σ' e27) me_X11_needLeave kw_1289 kw_1288 (Nat.le_of_ble_eq_true rfl) (Nat.le_of_ble_eq_true rfl) rfl hl.1 rfl (Nat.le_of_ble_eq_true rfl) dX11_mesh_70
    refine mx_callS (As := [.int w0]) (rest := []) hx hb hml hts hown hK hJ rfl rfl (c_X11_needLeave l G P w0 τ σ26 e27) me_X11_needLeave kw_1289 kw_1288 (Nat.le_of_ble_eq_true rfl) (Nat.le_of_ble_eq_true rfl) rfl hl.1 rfl (Nat.le_of_ble_eq_true rfl) dX11_mesh_70 (fun H locs hJ => ?_)
    refine lv_aload_n hx hb dX11_mesh_73 rfl (lv_at hl 0 rfl) ?_
    obtain ⟨b28, e29, hf⟩ := mb0 hf
    refine my_gR hx hb hts hown hK hJ fd_RX11_19 hv_11_1 e29 dX11_mesh_74 ?_
    obtain ⟨x30, e31, hf⟩ := mb0 hf
    refine my_gI hx hb hts hown hK hJ fd_RX11_236 hv_4_1 e31 dX11_mesh_77 ?_
    refine lv_bipush (v := 20) hx hb dX11_mesh_80 (by decide) ?_
    refine lv_icmp_ge (tgt := 89) hx hb dX11_mesh_82 (by decide) (fun c32 => ?_) (fun c32 => ?_)
    · rw [if_pos c32] at hf
      refine lv_iconst (v := 0) hx hb dX11_mesh_89 (by decide) ?_
      exact D90 v0 v1 v2 v3 v4 (0 : Int32) σ26 hf _ _ hJ ls (lv_sub hl [0, 1, 2, 3, 4] rfl)
    · rw [if_neg c32] at hf
      refine lv_iconst (v := 1) hx hb dX11_mesh_85 (by decide) ?_
      refine lv_goto (tgt := 90) hx hb dX11_mesh_86 (by decide) ?_
      exact D90 v0 v1 v2 v3 v4 (1 : Int32) σ26 hf _ _ hJ ls (lv_sub hl [0, 1, 2, 3, 4] rfl)
  have D41 : ∀ (v0 : Nat) (v1 : Int32) (v2 : Int32) (v3 : Int32) (v4 : Int32) (w0 : Int32) (τ : mx_S), f_X11_mesh_D41 P v0 v1 v2 v3 v4 w0 τ = some (.inl (E, σ')) → ∀ (H : Heap) (locs : List Loc), mx_J G P s.heap (mxz σ) (mxu σ) τ H locs → ∀ ls : Array Slot, lv_has ls 5 [(0, .ref v0), (1, .int v1), (2, .int v2), (3, .int v3), (4, .int v4)] → W p l e (mx_rm P 7 103 σ) s m ([.ref a0, .int p1, .int p2, .int p3, .int p4] : List Value).toArray below meth c H locs (mxz τ - mxz σ) (mxu τ - mxu σ) (mx_Zt below G P E σ σ' [.ref a0, .int p1, .int p2, .int p3, .int p4] s) (F0 m 41 ls [.int w0]) := by
    intro v0 v1 v2 v3 v4 w0 τ hf _ _ hJ ls hl
    unfold f_X11_mesh_D41 at hf
    rcases mbx_t hf with e12 | ⟨σ11, e12, hf⟩
    · exact mx_callST (As := [.int w0]) (rest := []) hx hb hml hts hown hK hJ rfl rfl hnt hlocks (ct_X11_needPresence l hlt G P w0 τ E σ' e12) me_X11_needPresence kw_1243 kw_1242 (Nat.le_of_ble_eq_true rfl) (Nat.le_of_ble_eq_true rfl) rfl hl.1 rfl (Nat.le_of_ble_eq_true rfl) dX11_mesh_41
    refine mx_callS (As := [.int w0]) (rest := []) hx hb hml hts hown hK hJ rfl rfl (c_X11_needPresence l G P w0 τ σ11 e12) me_X11_needPresence kw_1243 kw_1242 (Nat.le_of_ble_eq_true rfl) (Nat.le_of_ble_eq_true rfl) rfl hl.1 rfl (Nat.le_of_ble_eq_true rfl) dX11_mesh_41 (fun H locs hJ => ?_)
    refine lv_aload_n hx hb dX11_mesh_44 rfl (lv_at hl 0 rfl) ?_
    obtain ⟨b13, e14, hf⟩ := mb0 hf
    refine my_gR hx hb hts hown hK hJ fd_RX11_19 hv_11_1 e14 dX11_mesh_45 ?_
    obtain ⟨b15, e16, hf⟩ := mb0 hf
    refine my_gR hx hb hts hown hK hJ fd_RX11_230 hv_4_4 e16 dX11_mesh_48 ?_
    refine lv_iload_n hx hb dX11_mesh_51 rfl (lv_at hl 1 rfl) ?_
    obtain ⟨x17, e18, hf⟩ := mb0 hf
    refine mx_aI hx hb hK hJ e18 dX11_mesh_52 ?_
    refine lv_aload_n hx hb dX11_mesh_53 rfl (lv_at hl 0 rfl) ?_
    obtain ⟨b19, e20, hf⟩ := mb0 hf
    refine my_gR hx hb hts hown hK hJ fd_RX11_19 hv_11_1 e20 dX11_mesh_54 ?_
    obtain ⟨b21, e22, hf⟩ := mb0 hf
    refine my_gR hx hb hts hown hK hJ fd_RX11_230 hv_4_4 e22 dX11_mesh_57 ?_
    refine lv_iload_n hx hb dX11_mesh_60 rfl (lv_at hl 2 rfl) ?_
    obtain ⟨x23, e24, hf⟩ := mb0 hf
    refine mx_aI hx hb hK hJ e24 dX11_mesh_61 ?_
    refine lv_icmp_eq (tgt := 69) hx hb dX11_mesh_62 (by decide) (fun c25 => ?_) (fun c25 => ?_)
    · rw [if_pos c25] at hf
      refine lv_iconst (v := 0) hx hb dX11_mesh_69 (by decide) ?_
      exact D70 v0 v1 v2 v3 v4 (0 : Int32) σ11 hf _ _ hJ ls (lv_sub hl [0, 1, 2, 3, 4] rfl)
    · rw [if_neg c25] at hf
      refine lv_iconst (v := 1) hx hb dX11_mesh_65 (by decide) ?_
      refine lv_goto (tgt := 70) hx hb dX11_mesh_66 (by decide) ?_
      exact D70 v0 v1 v2 v3 v4 (1 : Int32) σ11 hf _ _ hJ ls (lv_sub hl [0, 1, 2, 3, 4] rfl)
  have D40 : ∀ (v0 : Nat) (v1 : Int32) (v2 : Int32) (v3 : Int32) (v4 : Int32) (τ : mx_S), f_X11_mesh_D40 P v0 v1 v2 v3 v4 τ = some (.inl (E, σ')) → ∀ (H : Heap) (locs : List Loc), mx_J G P s.heap (mxz σ) (mxu σ) τ H locs → ∀ ls : Array Slot, lv_has ls 5 [(0, .ref v0), (1, .int v1), (2, .int v2), (3, .int v3), (4, .int v4)] → W p l e (mx_rm P 7 103 σ) s m ([.ref a0, .int p1, .int p2, .int p3, .int p4] : List Value).toArray below meth c H locs (mxz τ - mxz σ) (mxu τ - mxu σ) (mx_Zt below G P E σ σ' [.ref a0, .int p1, .int p2, .int p3, .int p4] s) (F0 m 40 ls []) := by
    intro v0 v1 v2 v3 v4 τ hf _ _ hJ ls hl
    unfold f_X11_mesh_D40 at hf
    refine lv_iconst (v := 0) hx hb dX11_mesh_40 (by decide) ?_
    exact D41 v0 v1 v2 v3 v4 (0 : Int32) τ hf _ _ hJ ls (lv_sub hl [0, 1, 2, 3, 4] rfl)
  unfold f_X11_mesh at hf
  refine lv_iload hx hb dX11_mesh_0 (lv_at hl 4 rfl) ?_
  refine lv_iconst (v := (-1)) hx hb dX11_mesh_2 (by decide) ?_
  refine lv_bipush (v := 11) hx hb dX11_mesh_3 (by decide) ?_
  rcases mbx_t hf with e2 | ⟨σ1, e2, hf⟩
  · exact mx_callST (As := [.int p4, .int (-1 : Int32), .int (11 : Int32)]) (rest := []) hx hb hml hts hown hK hJ rfl rfl hnt hlocks (ct_X11_needRange l hlt G P p4 (-1 : Int32) (11 : Int32) σ E σ' e2) me_X11_needRange kw_1005 kw_1004 (Nat.le_of_ble_eq_true rfl) (Nat.le_of_ble_eq_true rfl) rfl hl.1 rfl (Nat.le_of_ble_eq_true rfl) dX11_mesh_5
  refine mx_callS (As := [.int p4, .int (-1 : Int32), .int (11 : Int32)]) (rest := []) hx hb hml hts hown hK hJ rfl rfl (c_X11_needRange l G P p4 (-1 : Int32) (11 : Int32) σ σ1 e2) me_X11_needRange kw_1005 kw_1004 (Nat.le_of_ble_eq_true rfl) (Nat.le_of_ble_eq_true rfl) rfl hl.1 rfl (Nat.le_of_ble_eq_true rfl) dX11_mesh_5 (fun H locs hJ => ?_)
  refine lv_iload_n hx hb dX11_mesh_8 rfl (lv_at hl 1 rfl) ?_
  refine lv_aload_n hx hb dX11_mesh_9 rfl (lv_at hl 0 rfl) ?_
  obtain ⟨b3, e4, hf⟩ := mb0 hf
  refine my_gR hx hb hts hown hK hJ fd_RX11_19 hv_11_1 e4 dX11_mesh_10 ?_
  obtain ⟨x5, e6, hf⟩ := mb0 hf
  refine my_gI hx hb hts hown hK hJ fd_RX11_220 hv_4_0 e6 dX11_mesh_13 ?_
  obtain ⟨x8, σ7, e9, hf⟩ := mc0 hf
  refine mx_callS (As := [.int p1, .int x5]) (rest := []) hx hb hml hts hown hK hJ rfl rfl (c_X11_isWithin l G P p1 x5 σ1 x8 σ7 e9) me_X11_isWithin kw_1240 kw_1239 (Nat.le_of_ble_eq_true rfl) (Nat.le_of_ble_eq_true rfl) rfl hl.1 rfl (Nat.le_of_ble_eq_true rfl) dX11_mesh_16 (fun H locs hJ => ?_)
  refine lv_if_eq (tgt := 40) hx hb dX11_mesh_19 (by decide) (fun c10 => ?_) (fun c10 => ?_)
  · rw [if_pos c10] at hf
    exact D40 a0 p1 p2 p3 p4 σ7 hf _ _ hJ ls (lv_sub hl [0, 1, 2, 3, 4] rfl)
  · rw [if_neg c10] at hf
    refine lv_iload_n hx hb dX11_mesh_22 rfl (lv_at hl 2 rfl) ?_
    refine lv_aload_n hx hb dX11_mesh_23 rfl (lv_at hl 0 rfl) ?_
    obtain ⟨b42, e43, hf⟩ := mb0 hf
    refine my_gR hx hb hts hown hK hJ fd_RX11_19 hv_11_1 e43 dX11_mesh_24 ?_
    obtain ⟨x44, e45, hf⟩ := mb0 hf
    refine my_gI hx hb hts hown hK hJ fd_RX11_220 hv_4_0 e45 dX11_mesh_27 ?_
    obtain ⟨x47, σ46, e48, hf⟩ := mc0 hf
    refine mx_callS (As := [.int p2, .int x44]) (rest := []) hx hb hml hts hown hK hJ rfl rfl (c_X11_isWithin l G P p2 x44 σ7 x47 σ46 e48) me_X11_isWithin kw_1240 kw_1239 (Nat.le_of_ble_eq_true rfl) (Nat.le_of_ble_eq_true rfl) rfl hl.1 rfl (Nat.le_of_ble_eq_true rfl) dX11_mesh_30 (fun H locs hJ => ?_)
    refine lv_if_eq (tgt := 40) hx hb dX11_mesh_33 (by decide) (fun c49 => ?_) (fun c49 => ?_)
    · rw [if_pos c49] at hf
      exact D40 a0 p1 p2 p3 p4 σ46 hf _ _ hJ ls (lv_sub hl [0, 1, 2, 3, 4] rfl)
    · rw [if_neg c49] at hf
      refine lv_iconst (v := 1) hx hb dX11_mesh_36 (by decide) ?_
      refine lv_goto (tgt := 41) hx hb dX11_mesh_37 (by decide) ?_
      exact D41 a0 p1 p2 p3 p4 (1 : Int32) σ46 hf _ _ hJ ls (lv_sub hl [0, 1, 2, 3, 4] rfl)
set_option maxHeartbeats 4000000 in
set_option maxRecDepth 100000 in
theorem c_X11_shaft (l : Launch) (G : mx_G) (P : mx_P) (a0 : Nat) (p1 : Int32) (p2 : Int32) (p3 : Int32) (p4 : Int32) (σ : mx_S) (σ' : mx_S) (hf : f_X11_shaft P a0 p1 p2 p3 p4 σ = some (.inr σ')) : mxz σ ≤ mpc P → mxu σ ≤ mps P → mx_M l yX11_shaft cX11_shaft 5 none 7 103 G P [.ref a0, .int p1, .int p2, .int p3, .int p4] σ none σ' := by
  intro hcap hcau
  refine mx_ofW (by decide +kernel) hcap hcau (Nat.le_of_ble_eq_true rfl) ?_
  intro p e s m below meth c hx hb hr hml hts hown hlocks hname hK hJ ls hl
  have hz0 := hJ.2.1
  have hown : s.vm.findClass RX11 = some m.cls := hown
  have hl : lv_has ls 5 [(0, .ref a0), (1, .int p1), (2, .int p2), (3, .int p3), (4, .int p4)] := hl
  have D37 : ∀ (v0 : Nat) (v1 : Int32) (v2 : Int32) (v3 : Int32) (v4 : Int32) (τ : mx_S), f_X11_shaft_D37 P v0 v1 v2 v3 v4 τ = some (.inr σ') → ∀ (H : Heap) (locs : List Loc), mx_J G P s.heap (mxz σ) (mxu σ) τ H locs → ∀ ls : Array Slot, lv_has ls 5 [(0, .ref v0), (1, .int v1), (2, .int v2), (3, .int v3), (4, .int v4)] → W p l e (mx_rm P 7 103 σ) s m ([.ref a0, .int p1, .int p2, .int p3, .int p4] : List Value).toArray below meth c H locs (mxz τ - mxz σ) (mxu τ - mxu σ) (mx_Z below G P none σ σ' [.ref a0, .int p1, .int p2, .int p3, .int p4] s) (F0 m 37 ls []) := by
    intro v0 v1 v2 v3 v4 τ hf _ _ hJ ls hl
    unfold f_X11_shaft_D37 at hf
    refine lv_aload_n hx hb dX11_shaft_37 rfl (lv_at hl 0 rfl) ?_
    obtain ⟨b6, e7, hf⟩ := mb0 hf
    refine my_gR hx hb hts hown hK hJ fd_RX11_19 hv_11_1 e7 dX11_shaft_38 ?_
    refine lv_iload_n hx hb dX11_shaft_41 rfl (lv_at hl 1 rfl) ?_
    refine lv_iload_n hx hb dX11_shaft_42 rfl (lv_at hl 2 rfl) ?_
    refine lv_iload_n hx hb dX11_shaft_43 rfl (lv_at hl 3 rfl) ?_
    refine lv_iload hx hb dX11_shaft_44 (lv_at hl 4 rfl) ?_
    obtain ⟨i8, e9, hf⟩ := mb0 hf
    obtain ⟨σ10, e11, hf⟩ := mb0 hf
    refine mx_callV (As := [.int v1, .int v2, .int v3, .int v4]) (rest := []) hx hb hml hts hown hK hJ rfl rfl (ci := 4) rfl e9 (c_X4_setShaft l G P b6 v1 v2 v3 v4 τ σ10 e11) me_X4_setShaft kw_1474 kw_1475 kw_1473 (Nat.le_of_ble_eq_true rfl) (Nat.le_of_ble_eq_true rfl) rfl hl.1 rfl (Nat.le_of_ble_eq_true rfl) dX11_shaft_46 (fun H locs hJ => ?_)
    exact my_vret hx hb hr hlocks hJ (mx_inr hf) dX11_shaft_49
  unfold f_X11_shaft at hf
  refine lv_iload_n hx hb dX11_shaft_0 rfl (lv_at hl 1 rfl) ?_
  refine lv_iconst (v := 0) hx hb dX11_shaft_1 (by decide) ?_
  refine lv_bipush (v := 11) hx hb dX11_shaft_2 (by decide) ?_
  obtain ⟨σ1, e2, hf⟩ := mbx_n hf
  refine mx_callS (As := [.int p1, .int (0 : Int32), .int (11 : Int32)]) (rest := []) hx hb hml hts hown hK hJ rfl rfl (c_X11_needRange l G P p1 (0 : Int32) (11 : Int32) σ σ1 e2) me_X11_needRange kw_1005 kw_1004 (Nat.le_of_ble_eq_true rfl) (Nat.le_of_ble_eq_true rfl) rfl hl.1 rfl (Nat.le_of_ble_eq_true rfl) dX11_shaft_4 (fun H locs hJ => ?_)
  refine lv_iload_n hx hb dX11_shaft_7 rfl (lv_at hl 2 rfl) ?_
  refine lv_iconst (v := 0) hx hb dX11_shaft_8 (by decide) ?_
  refine lv_iconst (v := 2) hx hb dX11_shaft_9 (by decide) ?_
  obtain ⟨σ3, e4, hf⟩ := mbx_n hf
  refine mx_callS (As := [.int p2, .int (0 : Int32), .int (2 : Int32)]) (rest := []) hx hb hml hts hown hK hJ rfl rfl (c_X11_needRange l G P p2 (0 : Int32) (2 : Int32) σ1 σ3 e4) me_X11_needRange kw_1005 kw_1004 (Nat.le_of_ble_eq_true rfl) (Nat.le_of_ble_eq_true rfl) rfl hl.1 rfl (Nat.le_of_ble_eq_true rfl) dX11_shaft_10 (fun H locs hJ => ?_)
  refine lv_iload_n hx hb dX11_shaft_13 rfl (lv_at hl 2 rfl) ?_
  refine lv_iconst (v := 2) hx hb dX11_shaft_14 (by decide) ?_
  refine lv_icmp_ne (tgt := 37) hx hb dX11_shaft_15 (by decide) (fun c5 => ?_) (fun c5 => ?_)
  · rw [if_neg c5] at hf
    exact D37 a0 p1 p2 p3 p4 σ3 hf _ _ hJ ls (lv_sub hl [0, 1, 2, 3, 4] rfl)
  · rw [if_pos c5] at hf
    refine lv_iload_n hx hb dX11_shaft_18 rfl (lv_at hl 3 rfl) ?_
    refine lv_sipush (v := (-1000)) hx hb dX11_shaft_19 (by decide) ?_
    refine lv_sipush (v := 1000) hx hb dX11_shaft_22 (by decide) ?_
    obtain ⟨σ12, e13, hf⟩ := mbx_n hf
    refine mx_callS (As := [.int p3, .int (-1000 : Int32), .int (1000 : Int32)]) (rest := []) hx hb hml hts hown hK hJ rfl rfl (c_X11_needRange l G P p3 (-1000 : Int32) (1000 : Int32) σ3 σ12 e13) me_X11_needRange kw_1005 kw_1004 (Nat.le_of_ble_eq_true rfl) (Nat.le_of_ble_eq_true rfl) rfl hl.1 rfl (Nat.le_of_ble_eq_true rfl) dX11_shaft_25 (fun H locs hJ => ?_)
    refine lv_iload hx hb dX11_shaft_28 (lv_at hl 4 rfl) ?_
    refine lv_iconst (v := 1) hx hb dX11_shaft_30 (by decide) ?_
    refine lv_sipush (v := 1000) hx hb dX11_shaft_31 (by decide) ?_
    obtain ⟨σ14, e15, hf⟩ := mbx_n hf
    refine mx_callS (As := [.int p4, .int (1 : Int32), .int (1000 : Int32)]) (rest := []) hx hb hml hts hown hK hJ rfl rfl (c_X11_needRange l G P p4 (1 : Int32) (1000 : Int32) σ12 σ14 e15) me_X11_needRange kw_1005 kw_1004 (Nat.le_of_ble_eq_true rfl) (Nat.le_of_ble_eq_true rfl) rfl hl.1 rfl (Nat.le_of_ble_eq_true rfl) dX11_shaft_34 (fun H locs hJ => ?_)
    exact D37 a0 p1 p2 p3 p4 σ14 hf _ _ hJ ls (lv_sub hl [0, 1, 2, 3, 4] rfl)
set_option maxHeartbeats 4000000 in
set_option maxRecDepth 100000 in
theorem ct_X11_shaft (l : Launch) (hlt : l.stackTraces = false) (G : mx_G) (P : mx_P) (a0 : Nat) (p1 : Int32) (p2 : Int32) (p3 : Int32) (p4 : Int32) (σ : mx_S) (E : String) (σ' : mx_S) (hf : f_X11_shaft P a0 p1 p2 p3 p4 σ = some (.inl (E, σ'))) : mxz σ ≤ mpc P → mxu σ ≤ mps P → mx_Mt l yX11_shaft cX11_shaft 5 none 7 103 G P [.ref a0, .int p1, .int p2, .int p3, .int p4] σ E σ' := by
  intro hcap hcau
  refine mx_ofWt (by decide +kernel) hcap hcau (Nat.le_of_ble_eq_true rfl) ?_
  intro p e s m below meth c hx hb hr hml hts hown hlocks hname hnt hK hJ ls hl
  have hz0 := hJ.2.1
  have hown : s.vm.findClass RX11 = some m.cls := hown
  have hl : lv_has ls 5 [(0, .ref a0), (1, .int p1), (2, .int p2), (3, .int p3), (4, .int p4)] := hl
  have D37 : ∀ (v0 : Nat) (v1 : Int32) (v2 : Int32) (v3 : Int32) (v4 : Int32) (τ : mx_S), f_X11_shaft_D37 P v0 v1 v2 v3 v4 τ = some (.inl (E, σ')) → ∀ (H : Heap) (locs : List Loc), mx_J G P s.heap (mxz σ) (mxu σ) τ H locs → ∀ ls : Array Slot, lv_has ls 5 [(0, .ref v0), (1, .int v1), (2, .int v2), (3, .int v3), (4, .int v4)] → W p l e (mx_rm P 7 103 σ) s m ([.ref a0, .int p1, .int p2, .int p3, .int p4] : List Value).toArray below meth c H locs (mxz τ - mxz σ) (mxu τ - mxu σ) (mx_Zt below G P E σ σ' [.ref a0, .int p1, .int p2, .int p3, .int p4] s) (F0 m 37 ls []) := by
    intro v0 v1 v2 v3 v4 τ hf _ _ hJ ls hl
    unfold f_X11_shaft_D37 at hf
    refine lv_aload_n hx hb dX11_shaft_37 rfl (lv_at hl 0 rfl) ?_
    obtain ⟨b6, e7, hf⟩ := mb0 hf
    refine my_gR hx hb hts hown hK hJ fd_RX11_19 hv_11_1 e7 dX11_shaft_38 ?_
    refine lv_iload_n hx hb dX11_shaft_41 rfl (lv_at hl 1 rfl) ?_
    refine lv_iload_n hx hb dX11_shaft_42 rfl (lv_at hl 2 rfl) ?_
    refine lv_iload_n hx hb dX11_shaft_43 rfl (lv_at hl 3 rfl) ?_
    refine lv_iload hx hb dX11_shaft_44 (lv_at hl 4 rfl) ?_
    obtain ⟨i8, e9, hf⟩ := mb0 hf
    obtain ⟨σ10, e11, hf⟩ := mb0 hf
    refine mx_callV (As := [.int v1, .int v2, .int v3, .int v4]) (rest := []) hx hb hml hts hown hK hJ rfl rfl (ci := 4) rfl e9 (c_X4_setShaft l G P b6 v1 v2 v3 v4 τ σ10 e11) me_X4_setShaft kw_1474 kw_1475 kw_1473 (Nat.le_of_ble_eq_true rfl) (Nat.le_of_ble_eq_true rfl) rfl hl.1 rfl (Nat.le_of_ble_eq_true rfl) dX11_shaft_46 (fun H locs hJ => ?_)
    cases hf
  unfold f_X11_shaft at hf
  refine lv_iload_n hx hb dX11_shaft_0 rfl (lv_at hl 1 rfl) ?_
  refine lv_iconst (v := 0) hx hb dX11_shaft_1 (by decide) ?_
  refine lv_bipush (v := 11) hx hb dX11_shaft_2 (by decide) ?_
  rcases mbx_t hf with e2 | ⟨σ1, e2, hf⟩
  · exact mx_callST (As := [.int p1, .int (0 : Int32), .int (11 : Int32)]) (rest := []) hx hb hml hts hown hK hJ rfl rfl hnt hlocks (ct_X11_needRange l hlt G P p1 (0 : Int32) (11 : Int32) σ E σ' e2) me_X11_needRange kw_1005 kw_1004 (Nat.le_of_ble_eq_true rfl) (Nat.le_of_ble_eq_true rfl) rfl hl.1 rfl (Nat.le_of_ble_eq_true rfl) dX11_shaft_4
  refine mx_callS (As := [.int p1, .int (0 : Int32), .int (11 : Int32)]) (rest := []) hx hb hml hts hown hK hJ rfl rfl (c_X11_needRange l G P p1 (0 : Int32) (11 : Int32) σ σ1 e2) me_X11_needRange kw_1005 kw_1004 (Nat.le_of_ble_eq_true rfl) (Nat.le_of_ble_eq_true rfl) rfl hl.1 rfl (Nat.le_of_ble_eq_true rfl) dX11_shaft_4 (fun H locs hJ => ?_)
  refine lv_iload_n hx hb dX11_shaft_7 rfl (lv_at hl 2 rfl) ?_
  refine lv_iconst (v := 0) hx hb dX11_shaft_8 (by decide) ?_
  refine lv_iconst (v := 2) hx hb dX11_shaft_9 (by decide) ?_
  rcases mbx_t hf with e4 | ⟨σ3, e4, hf⟩
  · exact mx_callST (As := [.int p2, .int (0 : Int32), .int (2 : Int32)]) (rest := []) hx hb hml hts hown hK hJ rfl rfl hnt hlocks (ct_X11_needRange l hlt G P p2 (0 : Int32) (2 : Int32) σ1 E σ' e4) me_X11_needRange kw_1005 kw_1004 (Nat.le_of_ble_eq_true rfl) (Nat.le_of_ble_eq_true rfl) rfl hl.1 rfl (Nat.le_of_ble_eq_true rfl) dX11_shaft_10
  refine mx_callS (As := [.int p2, .int (0 : Int32), .int (2 : Int32)]) (rest := []) hx hb hml hts hown hK hJ rfl rfl (c_X11_needRange l G P p2 (0 : Int32) (2 : Int32) σ1 σ3 e4) me_X11_needRange kw_1005 kw_1004 (Nat.le_of_ble_eq_true rfl) (Nat.le_of_ble_eq_true rfl) rfl hl.1 rfl (Nat.le_of_ble_eq_true rfl) dX11_shaft_10 (fun H locs hJ => ?_)
  refine lv_iload_n hx hb dX11_shaft_13 rfl (lv_at hl 2 rfl) ?_
  refine lv_iconst (v := 2) hx hb dX11_shaft_14 (by decide) ?_
  refine lv_icmp_ne (tgt := 37) hx hb dX11_shaft_15 (by decide) (fun c5 => ?_) (fun c5 => ?_)
  · rw [if_neg c5] at hf
    exact D37 a0 p1 p2 p3 p4 σ3 hf _ _ hJ ls (lv_sub hl [0, 1, 2, 3, 4] rfl)
  · rw [if_pos c5] at hf
    refine lv_iload_n hx hb dX11_shaft_18 rfl (lv_at hl 3 rfl) ?_
    refine lv_sipush (v := (-1000)) hx hb dX11_shaft_19 (by decide) ?_
    refine lv_sipush (v := 1000) hx hb dX11_shaft_22 (by decide) ?_
    rcases mbx_t hf with e13 | ⟨σ12, e13, hf⟩
    · exact mx_callST (As := [.int p3, .int (-1000 : Int32), .int (1000 : Int32)]) (rest := []) hx hb hml hts hown hK hJ rfl rfl hnt hlocks (ct_X11_needRange l hlt G P p3 (-1000 : Int32) (1000 : Int32) σ3 E σ' e13) me_X11_needRange kw_1005 kw_1004 (Nat.le_of_ble_eq_true rfl) (Nat.le_of_ble_eq_true rfl) rfl hl.1 rfl (Nat.le_of_ble_eq_true rfl) dX11_shaft_25
    refine mx_callS (As := [.int p3, .int (-1000 : Int32), .int (1000 : Int32)]) (rest := []) hx hb hml hts hown hK hJ rfl rfl (c_X11_needRange l G P p3 (-1000 : Int32) (1000 : Int32) σ3 σ12 e13) me_X11_needRange kw_1005 kw_1004 (Nat.le_of_ble_eq_true rfl) (Nat.le_of_ble_eq_true rfl) rfl hl.1 rfl (Nat.le_of_ble_eq_true rfl) dX11_shaft_25 (fun H locs hJ => ?_)
    refine lv_iload hx hb dX11_shaft_28 (lv_at hl 4 rfl) ?_
    refine lv_iconst (v := 1) hx hb dX11_shaft_30 (by decide) ?_
    refine lv_sipush (v := 1000) hx hb dX11_shaft_31 (by decide) ?_
    rcases mbx_t hf with e15 | ⟨σ14, e15, hf⟩
    · exact mx_callST (As := [.int p4, .int (1 : Int32), .int (1000 : Int32)]) (rest := []) hx hb hml hts hown hK hJ rfl rfl hnt hlocks (ct_X11_needRange l hlt G P p4 (1 : Int32) (1000 : Int32) σ12 E σ' e15) me_X11_needRange kw_1005 kw_1004 (Nat.le_of_ble_eq_true rfl) (Nat.le_of_ble_eq_true rfl) rfl hl.1 rfl (Nat.le_of_ble_eq_true rfl) dX11_shaft_34
    refine mx_callS (As := [.int p4, .int (1 : Int32), .int (1000 : Int32)]) (rest := []) hx hb hml hts hown hK hJ rfl rfl (c_X11_needRange l G P p4 (1 : Int32) (1000 : Int32) σ12 σ14 e15) me_X11_needRange kw_1005 kw_1004 (Nat.le_of_ble_eq_true rfl) (Nat.le_of_ble_eq_true rfl) rfl hl.1 rfl (Nat.le_of_ble_eq_true rfl) dX11_shaft_34 (fun H locs hJ => ?_)
    exact D37 a0 p1 p2 p3 p4 σ14 hf _ _ hJ ls (lv_sub hl [0, 1, 2, 3, 4] rfl)
set_option maxHeartbeats 4000000 in
set_option maxRecDepth 100000 in
theorem c_X11_clear (l : Launch) (G : mx_G) (P : mx_P) (a0 : Nat) (σ : mx_S) (σ' : mx_S) (hf : f_X11_clear P a0 σ = some σ') : mxz σ ≤ mpc P → mxu σ ≤ mps P → mx_M l yX11_clear cX11_clear 1 none 2 43 G P [.ref a0] σ none σ' := by
  intro hcap hcau
  refine mx_ofW (by decide +kernel) hcap hcau (Nat.le_of_ble_eq_true rfl) ?_
  intro p e s m below meth c hx hb hr hml hts hown hlocks hname hK hJ ls hl
  have hz0 := hJ.2.1
  have hown : s.vm.findClass RX11 = some m.cls := hown
  have hl : lv_has ls 1 [(0, .ref a0)] := hl
  unfold f_X11_clear at hf
  refine lv_aload_n hx hb dX11_clear_0 rfl (lv_at hl 0 rfl) ?_
  obtain ⟨b1, e2, hf⟩ := mb0 hf
  refine my_gR hx hb hts hown hK hJ fd_RX11_19 hv_11_1 e2 dX11_clear_1 ?_
  obtain ⟨i3, e4, hf⟩ := mb0 hf
  obtain ⟨σ5, e6, hf⟩ := mb0 hf
  refine mx_callV (As := []) (rest := []) hx hb hml hts hown hK hJ rfl rfl (ci := 4) rfl e4 (c_X4_forget l G P b1 σ σ5 e6) me_X4_forget kw_813 kw_814 kw_812 (Nat.le_of_ble_eq_true rfl) (Nat.le_of_ble_eq_true rfl) rfl hl.1 rfl (Nat.le_of_ble_eq_true rfl) dX11_clear_4 (fun H locs hJ => ?_)
  exact my_vret hx hb hr hlocks hJ hf dX11_clear_7
set_option maxHeartbeats 4000000 in
set_option maxRecDepth 100000 in
theorem c_X11_solved (l : Launch) (G : mx_G) (P : mx_P) (a0 : Nat) (σ : mx_S) (r : Int32) (σ' : mx_S) (hf : f_X11_solved P a0 σ = some (r, σ')) : mxz σ ≤ mpc P → mxu σ ≤ mps P → mx_M l yX11_solved cX11_solved 1 (some .int) 7 177 G P [.ref a0] σ (some (.int r)) σ' := by
  intro hcap hcau
  refine mx_ofW (by decide +kernel) hcap hcau (Nat.le_of_ble_eq_true rfl) ?_
  intro p e s m below meth c hx hb hr hml hts hown hlocks hname hK hJ ls hl
  have hz0 := hJ.2.1
  have hown : s.vm.findClass RX11 = some m.cls := hown
  have hl : lv_has ls 1 [(0, .ref a0)] := hl
  unfold f_X11_solved at hf
  refine lv_aload_n hx hb dX11_solved_0 rfl (lv_at hl 0 rfl) ?_
  obtain ⟨b1, e2, hf⟩ := mb0 hf
  refine my_gR hx hb hts hown hK hJ fd_RX11_19 hv_11_1 e2 dX11_solved_1 ?_
  obtain ⟨i3, e4, hf⟩ := mb0 hf
  obtain ⟨x6, σ5, e7, hf⟩ := mc0 hf
  refine mx_callV (As := []) (rest := []) hx hb hml hts hown hK hJ rfl rfl (ci := 4) rfl e4 (c_X4_outcome l G P b1 σ x6 σ5 e7) me_X4_outcome kw_824 kw_825 kw_823 (Nat.le_of_ble_eq_true rfl) (Nat.le_of_ble_eq_true rfl) rfl hl.1 rfl (Nat.le_of_ble_eq_true rfl) dX11_solved_4 (fun H locs hJ => ?_)
  exact my_iret hx hb hr hlocks hJ hf dX11_solved_7
set_option maxHeartbeats 4000000 in
set_option maxRecDepth 100000 in
theorem c_X11_turns (l : Launch) (G : mx_G) (P : mx_P) (a0 : Nat) (p1 : Int32) (p2 : Int32) (σ : mx_S) (r : Int64) (σ' : mx_S) (hf : f_X11_turns P a0 p1 p2 σ = some (.inr (r, σ'))) : mxz σ ≤ mpc P → mxu σ ≤ mps P → mx_M l yX11_turns cX11_turns 3 (some .long) 7 177 G P [.ref a0, .int p1, .int p2] σ (some (.long r)) σ' := by
  intro hcap hcau
  refine mx_ofW (by decide +kernel) hcap hcau (Nat.le_of_ble_eq_true rfl) ?_
  intro p e s m below meth c hx hb hr hml hts hown hlocks hname hK hJ ls hl
  have hz0 := hJ.2.1
  have hown : s.vm.findClass RX11 = some m.cls := hown
  have hl : lv_has ls 3 [(0, .ref a0), (1, .int p1), (2, .int p2)] := hl
  have D29 : ∀ (v0 : Nat) (v1 : Int32) (v2 : Int32) (w0 : Int32) (τ : mx_S), f_X11_turns_D29 P v0 v1 v2 w0 τ = some (.inr (r, σ')) → ∀ (H : Heap) (locs : List Loc), mx_J G P s.heap (mxz σ) (mxu σ) τ H locs → ∀ ls : Array Slot, lv_has ls 3 [(0, .ref v0), (1, .int v1), (2, .int v2)] → W p l e (mx_rm P 7 177 σ) s m ([.ref a0, .int p1, .int p2] : List Value).toArray below meth c H locs (mxz τ - mxz σ) (mxu τ - mxu σ) (mx_Z below G P (some (.long r)) σ σ' [.ref a0, .int p1, .int p2] s) (F0 m 29 ls [.int w0]) := by
    intro v0 v1 v2 w0 τ hf _ _ hJ ls hl
    unfold f_X11_turns_D29 at hf
    obtain ⟨σ13, e14, hf⟩ := mbx_n hf
    refine mx_callS (As := [.int w0]) (rest := []) hx hb hml hts hown hK hJ rfl rfl (c_X11_needLeave l G P w0 τ σ13 e14) me_X11_needLeave kw_1289 kw_1288 (Nat.le_of_ble_eq_true rfl) (Nat.le_of_ble_eq_true rfl) rfl hl.1 rfl (Nat.le_of_ble_eq_true rfl) dX11_turns_29 (fun H locs hJ => ?_)
    refine lv_aload_n hx hb dX11_turns_32 rfl (lv_at hl 0 rfl) ?_
    obtain ⟨b15, e16, hf⟩ := mb0 hf
    refine my_gR hx hb hts hown hK hJ fd_RX11_19 hv_11_1 e16 dX11_turns_33 ?_
    refine lv_iload_n hx hb dX11_turns_36 rfl (lv_at hl 1 rfl) ?_
    refine lv_aload_n hx hb dX11_turns_37 rfl (lv_at hl 0 rfl) ?_
    obtain ⟨b17, e18, hf⟩ := mb0 hf
    refine my_gR hx hb hts hown hK hJ fd_RX11_47 hv_11_5 e18 dX11_turns_38 ?_
    obtain ⟨i19, e20, hf⟩ := mb0 hf
    obtain ⟨x22, σ21, e23, hf⟩ := mc0 hf
    refine mx_callV (As := [.int v1, .ref b17]) (rest := []) hx hb hml hts hown hK hJ rfl rfl (ci := 4) rfl e20 (c_X4_isKnown l G P b15 v1 b17 σ13 x22 σ21 e23) me_X4_isKnown kw_1485 kw_1486 kw_1484 (Nat.le_of_ble_eq_true rfl) (Nat.le_of_ble_eq_true rfl) rfl hl.1 rfl (Nat.le_of_ble_eq_true rfl) dX11_turns_41 (fun H locs hJ => ?_)
    obtain ⟨σ24, e25, hf⟩ := mbx_n hf
    refine mx_callS (As := [.int x22]) (rest := []) hx hb hml hts hown hK hJ rfl rfl (c_X11_needPresence l G P x22 σ21 σ24 e25) me_X11_needPresence kw_1243 kw_1242 (Nat.le_of_ble_eq_true rfl) (Nat.le_of_ble_eq_true rfl) rfl hl.1 rfl (Nat.le_of_ble_eq_true rfl) dX11_turns_44 (fun H locs hJ => ?_)
    refine lv_aload_n hx hb dX11_turns_47 rfl (lv_at hl 0 rfl) ?_
    obtain ⟨b26, e27, hf⟩ := mb0 hf
    refine my_gR hx hb hts hown hK hJ fd_RX11_47 hv_11_5 e27 dX11_turns_48 ?_
    refine lv_iload_n hx hb dX11_turns_51 rfl (lv_at hl 2 rfl) ?_
    obtain ⟨i28, e29, hf⟩ := mb0 hf
    obtain ⟨x31, σ30, e32, hf⟩ := mc0 hf
    refine mx_callV (As := [.int v2]) (rest := []) hx hb hml hts hown hK hJ rfl rfl (ci := 3) rfl e29 (c_X3_number l G P b26 v2 σ24 x31 σ30 e32) me_X3_number kw_1489 kw_1490 kw_1488 (Nat.le_of_ble_eq_true rfl) (Nat.le_of_ble_eq_true rfl) rfl hl.1 rfl (Nat.le_of_ble_eq_true rfl) dX11_turns_52 (fun H locs hJ => ?_)
    exact my_lret hx hb hr hlocks hJ (mx_inr hf) dX11_turns_55
  unfold f_X11_turns at hf
  refine lv_iload_n hx hb dX11_turns_0 rfl (lv_at hl 1 rfl) ?_
  refine lv_iconst (v := 0) hx hb dX11_turns_1 (by decide) ?_
  refine lv_bipush (v := 11) hx hb dX11_turns_2 (by decide) ?_
  obtain ⟨σ1, e2, hf⟩ := mbx_n hf
  refine mx_callS (As := [.int p1, .int (0 : Int32), .int (11 : Int32)]) (rest := []) hx hb hml hts hown hK hJ rfl rfl (c_X11_needRange l G P p1 (0 : Int32) (11 : Int32) σ σ1 e2) me_X11_needRange kw_1005 kw_1004 (Nat.le_of_ble_eq_true rfl) (Nat.le_of_ble_eq_true rfl) rfl hl.1 rfl (Nat.le_of_ble_eq_true rfl) dX11_turns_4 (fun H locs hJ => ?_)
  refine lv_iload_n hx hb dX11_turns_7 rfl (lv_at hl 2 rfl) ?_
  refine lv_iconst (v := 0) hx hb dX11_turns_8 (by decide) ?_
  refine lv_iconst (v := 1) hx hb dX11_turns_9 (by decide) ?_
  obtain ⟨σ3, e4, hf⟩ := mbx_n hf
  refine mx_callS (As := [.int p2, .int (0 : Int32), .int (1 : Int32)]) (rest := []) hx hb hml hts hown hK hJ rfl rfl (c_X11_needRange l G P p2 (0 : Int32) (1 : Int32) σ1 σ3 e4) me_X11_needRange kw_1005 kw_1004 (Nat.le_of_ble_eq_true rfl) (Nat.le_of_ble_eq_true rfl) rfl hl.1 rfl (Nat.le_of_ble_eq_true rfl) dX11_turns_10 (fun H locs hJ => ?_)
  refine lv_aload_n hx hb dX11_turns_13 rfl (lv_at hl 0 rfl) ?_
  obtain ⟨b5, e6, hf⟩ := mb0 hf
  refine my_gR hx hb hts hown hK hJ fd_RX11_19 hv_11_1 e6 dX11_turns_14 ?_
  obtain ⟨i7, e8, hf⟩ := mb0 hf
  obtain ⟨x10, σ9, e11, hf⟩ := mc0 hf
  refine mx_callV (As := []) (rest := []) hx hb hml hts hown hK hJ rfl rfl (ci := 4) rfl e8 (c_X4_outcome l G P b5 σ3 x10 σ9 e11) me_X4_outcome kw_824 kw_825 kw_823 (Nat.le_of_ble_eq_true rfl) (Nat.le_of_ble_eq_true rfl) rfl hl.1 rfl (Nat.le_of_ble_eq_true rfl) dX11_turns_17 (fun H locs hJ => ?_)
  refine lv_iconst (v := 1) hx hb dX11_turns_20 (by decide) ?_
  refine lv_icmp_ne (tgt := 28) hx hb dX11_turns_21 (by decide) (fun c12 => ?_) (fun c12 => ?_)
  · rw [if_neg c12] at hf
    refine lv_iconst (v := 0) hx hb dX11_turns_28 (by decide) ?_
    exact D29 a0 p1 p2 (0 : Int32) σ9 hf _ _ hJ ls (lv_sub hl [0, 1, 2] rfl)
  · rw [if_pos c12] at hf
    refine lv_iconst (v := 1) hx hb dX11_turns_24 (by decide) ?_
    refine lv_goto (tgt := 29) hx hb dX11_turns_25 (by decide) ?_
    exact D29 a0 p1 p2 (1 : Int32) σ9 hf _ _ hJ ls (lv_sub hl [0, 1, 2] rfl)
set_option maxHeartbeats 4000000 in
set_option maxRecDepth 100000 in
theorem ct_X11_turns (l : Launch) (hlt : l.stackTraces = false) (G : mx_G) (P : mx_P) (a0 : Nat) (p1 : Int32) (p2 : Int32) (σ : mx_S) (E : String) (σ' : mx_S) (hf : f_X11_turns P a0 p1 p2 σ = some (.inl (E, σ'))) : mxz σ ≤ mpc P → mxu σ ≤ mps P → mx_Mt l yX11_turns cX11_turns 3 (some .long) 7 177 G P [.ref a0, .int p1, .int p2] σ E σ' := by
  intro hcap hcau
  refine mx_ofWt (by decide +kernel) hcap hcau (Nat.le_of_ble_eq_true rfl) ?_
  intro p e s m below meth c hx hb hr hml hts hown hlocks hname hnt hK hJ ls hl
  have hz0 := hJ.2.1
  have hown : s.vm.findClass RX11 = some m.cls := hown
  have hl : lv_has ls 3 [(0, .ref a0), (1, .int p1), (2, .int p2)] := hl
  have D29 : ∀ (v0 : Nat) (v1 : Int32) (v2 : Int32) (w0 : Int32) (τ : mx_S), f_X11_turns_D29 P v0 v1 v2 w0 τ = some (.inl (E, σ')) → ∀ (H : Heap) (locs : List Loc), mx_J G P s.heap (mxz σ) (mxu σ) τ H locs → ∀ ls : Array Slot, lv_has ls 3 [(0, .ref v0), (1, .int v1), (2, .int v2)] → W p l e (mx_rm P 7 177 σ) s m ([.ref a0, .int p1, .int p2] : List Value).toArray below meth c H locs (mxz τ - mxz σ) (mxu τ - mxu σ) (mx_Zt below G P E σ σ' [.ref a0, .int p1, .int p2] s) (F0 m 29 ls [.int w0]) := by
    intro v0 v1 v2 w0 τ hf _ _ hJ ls hl
    unfold f_X11_turns_D29 at hf
    rcases mbx_t hf with e14 | ⟨σ13, e14, hf⟩
    · exact mx_callST (As := [.int w0]) (rest := []) hx hb hml hts hown hK hJ rfl rfl hnt hlocks (ct_X11_needLeave l hlt G P w0 τ E σ' e14) me_X11_needLeave kw_1289 kw_1288 (Nat.le_of_ble_eq_true rfl) (Nat.le_of_ble_eq_true rfl) rfl hl.1 rfl (Nat.le_of_ble_eq_true rfl) dX11_turns_29
    refine mx_callS (As := [.int w0]) (rest := []) hx hb hml hts hown hK hJ rfl rfl (c_X11_needLeave l G P w0 τ σ13 e14) me_X11_needLeave kw_1289 kw_1288 (Nat.le_of_ble_eq_true rfl) (Nat.le_of_ble_eq_true rfl) rfl hl.1 rfl (Nat.le_of_ble_eq_true rfl) dX11_turns_29 (fun H locs hJ => ?_)
    refine lv_aload_n hx hb dX11_turns_32 rfl (lv_at hl 0 rfl) ?_
    obtain ⟨b15, e16, hf⟩ := mb0 hf
    refine my_gR hx hb hts hown hK hJ fd_RX11_19 hv_11_1 e16 dX11_turns_33 ?_
    refine lv_iload_n hx hb dX11_turns_36 rfl (lv_at hl 1 rfl) ?_
    refine lv_aload_n hx hb dX11_turns_37 rfl (lv_at hl 0 rfl) ?_
    obtain ⟨b17, e18, hf⟩ := mb0 hf
    refine my_gR hx hb hts hown hK hJ fd_RX11_47 hv_11_5 e18 dX11_turns_38 ?_
    obtain ⟨i19, e20, hf⟩ := mb0 hf
    obtain ⟨x22, σ21, e23, hf⟩ := mc0 hf
    refine mx_callV (As := [.int v1, .ref b17]) (rest := []) hx hb hml hts hown hK hJ rfl rfl (ci := 4) rfl e20 (c_X4_isKnown l G P b15 v1 b17 σ13 x22 σ21 e23) me_X4_isKnown kw_1485 kw_1486 kw_1484 (Nat.le_of_ble_eq_true rfl) (Nat.le_of_ble_eq_true rfl) rfl hl.1 rfl (Nat.le_of_ble_eq_true rfl) dX11_turns_41 (fun H locs hJ => ?_)
    rcases mbx_t hf with e25 | ⟨σ24, e25, hf⟩
    · exact mx_callST (As := [.int x22]) (rest := []) hx hb hml hts hown hK hJ rfl rfl hnt hlocks (ct_X11_needPresence l hlt G P x22 σ21 E σ' e25) me_X11_needPresence kw_1243 kw_1242 (Nat.le_of_ble_eq_true rfl) (Nat.le_of_ble_eq_true rfl) rfl hl.1 rfl (Nat.le_of_ble_eq_true rfl) dX11_turns_44
    refine mx_callS (As := [.int x22]) (rest := []) hx hb hml hts hown hK hJ rfl rfl (c_X11_needPresence l G P x22 σ21 σ24 e25) me_X11_needPresence kw_1243 kw_1242 (Nat.le_of_ble_eq_true rfl) (Nat.le_of_ble_eq_true rfl) rfl hl.1 rfl (Nat.le_of_ble_eq_true rfl) dX11_turns_44 (fun H locs hJ => ?_)
    refine lv_aload_n hx hb dX11_turns_47 rfl (lv_at hl 0 rfl) ?_
    obtain ⟨b26, e27, hf⟩ := mb0 hf
    refine my_gR hx hb hts hown hK hJ fd_RX11_47 hv_11_5 e27 dX11_turns_48 ?_
    refine lv_iload_n hx hb dX11_turns_51 rfl (lv_at hl 2 rfl) ?_
    obtain ⟨i28, e29, hf⟩ := mb0 hf
    obtain ⟨x31, σ30, e32, hf⟩ := mc0 hf
    refine mx_callV (As := [.int v2]) (rest := []) hx hb hml hts hown hK hJ rfl rfl (ci := 3) rfl e29 (c_X3_number l G P b26 v2 σ24 x31 σ30 e32) me_X3_number kw_1489 kw_1490 kw_1488 (Nat.le_of_ble_eq_true rfl) (Nat.le_of_ble_eq_true rfl) rfl hl.1 rfl (Nat.le_of_ble_eq_true rfl) dX11_turns_52 (fun H locs hJ => ?_)
    cases hf
  unfold f_X11_turns at hf
  refine lv_iload_n hx hb dX11_turns_0 rfl (lv_at hl 1 rfl) ?_
  refine lv_iconst (v := 0) hx hb dX11_turns_1 (by decide) ?_
  refine lv_bipush (v := 11) hx hb dX11_turns_2 (by decide) ?_
  rcases mbx_t hf with e2 | ⟨σ1, e2, hf⟩
  · exact mx_callST (As := [.int p1, .int (0 : Int32), .int (11 : Int32)]) (rest := []) hx hb hml hts hown hK hJ rfl rfl hnt hlocks (ct_X11_needRange l hlt G P p1 (0 : Int32) (11 : Int32) σ E σ' e2) me_X11_needRange kw_1005 kw_1004 (Nat.le_of_ble_eq_true rfl) (Nat.le_of_ble_eq_true rfl) rfl hl.1 rfl (Nat.le_of_ble_eq_true rfl) dX11_turns_4
  refine mx_callS (As := [.int p1, .int (0 : Int32), .int (11 : Int32)]) (rest := []) hx hb hml hts hown hK hJ rfl rfl (c_X11_needRange l G P p1 (0 : Int32) (11 : Int32) σ σ1 e2) me_X11_needRange kw_1005 kw_1004 (Nat.le_of_ble_eq_true rfl) (Nat.le_of_ble_eq_true rfl) rfl hl.1 rfl (Nat.le_of_ble_eq_true rfl) dX11_turns_4 (fun H locs hJ => ?_)
  refine lv_iload_n hx hb dX11_turns_7 rfl (lv_at hl 2 rfl) ?_
  refine lv_iconst (v := 0) hx hb dX11_turns_8 (by decide) ?_
  refine lv_iconst (v := 1) hx hb dX11_turns_9 (by decide) ?_
  rcases mbx_t hf with e4 | ⟨σ3, e4, hf⟩
  · exact mx_callST (As := [.int p2, .int (0 : Int32), .int (1 : Int32)]) (rest := []) hx hb hml hts hown hK hJ rfl rfl hnt hlocks (ct_X11_needRange l hlt G P p2 (0 : Int32) (1 : Int32) σ1 E σ' e4) me_X11_needRange kw_1005 kw_1004 (Nat.le_of_ble_eq_true rfl) (Nat.le_of_ble_eq_true rfl) rfl hl.1 rfl (Nat.le_of_ble_eq_true rfl) dX11_turns_10
  refine mx_callS (As := [.int p2, .int (0 : Int32), .int (1 : Int32)]) (rest := []) hx hb hml hts hown hK hJ rfl rfl (c_X11_needRange l G P p2 (0 : Int32) (1 : Int32) σ1 σ3 e4) me_X11_needRange kw_1005 kw_1004 (Nat.le_of_ble_eq_true rfl) (Nat.le_of_ble_eq_true rfl) rfl hl.1 rfl (Nat.le_of_ble_eq_true rfl) dX11_turns_10 (fun H locs hJ => ?_)
  refine lv_aload_n hx hb dX11_turns_13 rfl (lv_at hl 0 rfl) ?_
  obtain ⟨b5, e6, hf⟩ := mb0 hf
  refine my_gR hx hb hts hown hK hJ fd_RX11_19 hv_11_1 e6 dX11_turns_14 ?_
  obtain ⟨i7, e8, hf⟩ := mb0 hf
  obtain ⟨x10, σ9, e11, hf⟩ := mc0 hf
  refine mx_callV (As := []) (rest := []) hx hb hml hts hown hK hJ rfl rfl (ci := 4) rfl e8 (c_X4_outcome l G P b5 σ3 x10 σ9 e11) me_X4_outcome kw_824 kw_825 kw_823 (Nat.le_of_ble_eq_true rfl) (Nat.le_of_ble_eq_true rfl) rfl hl.1 rfl (Nat.le_of_ble_eq_true rfl) dX11_turns_17 (fun H locs hJ => ?_)
  refine lv_iconst (v := 1) hx hb dX11_turns_20 (by decide) ?_
  refine lv_icmp_ne (tgt := 28) hx hb dX11_turns_21 (by decide) (fun c12 => ?_) (fun c12 => ?_)
  · rw [if_neg c12] at hf
    refine lv_iconst (v := 0) hx hb dX11_turns_28 (by decide) ?_
    exact D29 a0 p1 p2 (0 : Int32) σ9 hf _ _ hJ ls (lv_sub hl [0, 1, 2] rfl)
  · rw [if_pos c12] at hf
    refine lv_iconst (v := 1) hx hb dX11_turns_24 (by decide) ?_
    refine lv_goto (tgt := 29) hx hb dX11_turns_25 (by decide) ?_
    exact D29 a0 p1 p2 (1 : Int32) σ9 hf _ _ hJ ls (lv_sub hl [0, 1, 2] rfl)
set_option maxHeartbeats 4000000 in
set_option maxRecDepth 100000 in
theorem c_X11_interference (l : Launch) (G : mx_G) (P : mx_P) (a0 : Nat) (p1 : Int32) (p2 : Int32) (p3 : Int32) (σ : mx_S) (r : Int32) (σ' : mx_S) (hf : f_X11_interference P a0 p1 p2 p3 σ = some (.inr (r, σ'))) : mxz σ ≤ mpc P → mxu σ ≤ mps P → mx_M l yX11_interference cX11_interference 4 (some .int) 7 101 G P [.ref a0, .int p1, .int p2, .int p3] σ (some (.int r)) σ' := by
  intro hcap hcau
  refine mx_ofW (by decide +kernel) hcap hcau (Nat.le_of_ble_eq_true rfl) ?_
  intro p e s m below meth c hx hb hr hml hts hown hlocks hname hK hJ ls hl
  have hz0 := hJ.2.1
  have hown : s.vm.findClass RX11 = some m.cls := hown
  have hl : lv_has ls 4 [(0, .ref a0), (1, .int p1), (2, .int p2), (3, .int p3)] := hl
  have D33 : ∀ (v0 : Nat) (v1 : Int32) (v2 : Int32) (v3 : Int32) (w0 : Int32) (τ : mx_S), f_X11_interference_D33 P v0 v1 v2 v3 w0 τ = some (.inr (r, σ')) → ∀ (H : Heap) (locs : List Loc), mx_J G P s.heap (mxz σ) (mxu σ) τ H locs → ∀ ls : Array Slot, lv_has ls 4 [(0, .ref v0), (1, .int v1), (2, .int v2), (3, .int v3)] → W p l e (mx_rm P 7 101 σ) s m ([.ref a0, .int p1, .int p2, .int p3] : List Value).toArray below meth c H locs (mxz τ - mxz σ) (mxu τ - mxu σ) (mx_Z below G P (some (.int r)) σ σ' [.ref a0, .int p1, .int p2, .int p3] s) (F0 m 33 ls [.int w0]) := by
    intro v0 v1 v2 v3 w0 τ hf _ _ hJ ls hl
    unfold f_X11_interference_D33 at hf
    obtain ⟨σ9, e10, hf⟩ := mbx_n hf
    refine mx_callS (As := [.int w0]) (rest := []) hx hb hml hts hown hK hJ rfl rfl (c_X11_needPresence l G P w0 τ σ9 e10) me_X11_needPresence kw_1243 kw_1242 (Nat.le_of_ble_eq_true rfl) (Nat.le_of_ble_eq_true rfl) rfl hl.1 rfl (Nat.le_of_ble_eq_true rfl) dX11_interference_33 (fun H locs hJ => ?_)
    refine lv_aload_n hx hb dX11_interference_36 rfl (lv_at hl 0 rfl) ?_
    obtain ⟨b11, e12, hf⟩ := mb0 hf
    refine my_gR hx hb hts hown hK hJ fd_RX11_19 hv_11_1 e12 dX11_interference_37 ?_
    refine lv_iload_n hx hb dX11_interference_40 rfl (lv_at hl 1 rfl) ?_
    refine lv_iload_n hx hb dX11_interference_41 rfl (lv_at hl 2 rfl) ?_
    refine lv_iload_n hx hb dX11_interference_42 rfl (lv_at hl 3 rfl) ?_
    obtain ⟨i13, e14, hf⟩ := mb0 hf
    obtain ⟨x16, σ15, e17, hf⟩ := mc0 hf
    refine mx_callV (As := [.int v1, .int v2, .int v3]) (rest := []) hx hb hml hts hown hK hJ rfl rfl (ci := 4) rfl e14 (c_X4_clash l G P b11 v1 v2 v3 σ9 x16 σ15 e17) me_X4_clash kw_1500 kw_1501 kw_1499 (Nat.le_of_ble_eq_true rfl) (Nat.le_of_ble_eq_true rfl) rfl hl.1 rfl (Nat.le_of_ble_eq_true rfl) dX11_interference_43 (fun H locs hJ => ?_)
    exact my_iret hx hb hr hlocks hJ (mx_inr hf) dX11_interference_46
  have D32 : ∀ (v0 : Nat) (v1 : Int32) (v2 : Int32) (v3 : Int32) (τ : mx_S), f_X11_interference_D32 P v0 v1 v2 v3 τ = some (.inr (r, σ')) → ∀ (H : Heap) (locs : List Loc), mx_J G P s.heap (mxz σ) (mxu σ) τ H locs → ∀ ls : Array Slot, lv_has ls 4 [(0, .ref v0), (1, .int v1), (2, .int v2), (3, .int v3)] → W p l e (mx_rm P 7 101 σ) s m ([.ref a0, .int p1, .int p2, .int p3] : List Value).toArray below meth c H locs (mxz τ - mxz σ) (mxu τ - mxu σ) (mx_Z below G P (some (.int r)) σ σ' [.ref a0, .int p1, .int p2, .int p3] s) (F0 m 32 ls []) := by
    intro v0 v1 v2 v3 τ hf _ _ hJ ls hl
    unfold f_X11_interference_D32 at hf
    refine lv_iconst (v := 0) hx hb dX11_interference_32 (by decide) ?_
    exact D33 v0 v1 v2 v3 (0 : Int32) τ hf _ _ hJ ls (lv_sub hl [0, 1, 2, 3] rfl)
  unfold f_X11_interference at hf
  refine lv_iload_n hx hb dX11_interference_0 rfl (lv_at hl 1 rfl) ?_
  refine lv_aload_n hx hb dX11_interference_1 rfl (lv_at hl 0 rfl) ?_
  obtain ⟨b1, e2, hf⟩ := mb0 hf
  refine my_gR hx hb hts hown hK hJ fd_RX11_19 hv_11_1 e2 dX11_interference_2 ?_
  obtain ⟨x3, e4, hf⟩ := mb0 hf
  refine my_gI hx hb hts hown hK hJ fd_RX11_220 hv_4_0 e4 dX11_interference_5 ?_
  obtain ⟨x6, σ5, e7, hf⟩ := mc0 hf
  refine mx_callS (As := [.int p1, .int x3]) (rest := []) hx hb hml hts hown hK hJ rfl rfl (c_X11_isWithin l G P p1 x3 σ x6 σ5 e7) me_X11_isWithin kw_1240 kw_1239 (Nat.le_of_ble_eq_true rfl) (Nat.le_of_ble_eq_true rfl) rfl hl.1 rfl (Nat.le_of_ble_eq_true rfl) dX11_interference_8 (fun H locs hJ => ?_)
  refine lv_if_eq (tgt := 32) hx hb dX11_interference_11 (by decide) (fun c8 => ?_) (fun c8 => ?_)
  · rw [if_pos c8] at hf
    exact D32 a0 p1 p2 p3 σ5 hf _ _ hJ ls (lv_sub hl [0, 1, 2, 3] rfl)
  · rw [if_neg c8] at hf
    refine lv_iload_n hx hb dX11_interference_14 rfl (lv_at hl 2 rfl) ?_
    refine lv_aload_n hx hb dX11_interference_15 rfl (lv_at hl 0 rfl) ?_
    obtain ⟨b18, e19, hf⟩ := mb0 hf
    refine my_gR hx hb hts hown hK hJ fd_RX11_19 hv_11_1 e19 dX11_interference_16 ?_
    obtain ⟨x20, e21, hf⟩ := mb0 hf
    refine my_gI hx hb hts hown hK hJ fd_RX11_220 hv_4_0 e21 dX11_interference_19 ?_
    obtain ⟨x23, σ22, e24, hf⟩ := mc0 hf
    refine mx_callS (As := [.int p2, .int x20]) (rest := []) hx hb hml hts hown hK hJ rfl rfl (c_X11_isWithin l G P p2 x20 σ5 x23 σ22 e24) me_X11_isWithin kw_1240 kw_1239 (Nat.le_of_ble_eq_true rfl) (Nat.le_of_ble_eq_true rfl) rfl hl.1 rfl (Nat.le_of_ble_eq_true rfl) dX11_interference_22 (fun H locs hJ => ?_)
    refine lv_if_eq (tgt := 32) hx hb dX11_interference_25 (by decide) (fun c25 => ?_) (fun c25 => ?_)
    · rw [if_pos c25] at hf
      exact D32 a0 p1 p2 p3 σ22 hf _ _ hJ ls (lv_sub hl [0, 1, 2, 3] rfl)
    · rw [if_neg c25] at hf
      refine lv_iconst (v := 1) hx hb dX11_interference_28 (by decide) ?_
      refine lv_goto (tgt := 33) hx hb dX11_interference_29 (by decide) ?_
      exact D33 a0 p1 p2 p3 (1 : Int32) σ22 hf _ _ hJ ls (lv_sub hl [0, 1, 2, 3] rfl)
set_option maxHeartbeats 4000000 in
set_option maxRecDepth 100000 in
theorem ct_X11_interference (l : Launch) (hlt : l.stackTraces = false) (G : mx_G) (P : mx_P) (a0 : Nat) (p1 : Int32) (p2 : Int32) (p3 : Int32) (σ : mx_S) (E : String) (σ' : mx_S) (hf : f_X11_interference P a0 p1 p2 p3 σ = some (.inl (E, σ'))) : mxz σ ≤ mpc P → mxu σ ≤ mps P → mx_Mt l yX11_interference cX11_interference 4 (some .int) 7 101 G P [.ref a0, .int p1, .int p2, .int p3] σ E σ' := by
  intro hcap hcau
  refine mx_ofWt (by decide +kernel) hcap hcau (Nat.le_of_ble_eq_true rfl) ?_
  intro p e s m below meth c hx hb hr hml hts hown hlocks hname hnt hK hJ ls hl
  have hz0 := hJ.2.1
  have hown : s.vm.findClass RX11 = some m.cls := hown
  have hl : lv_has ls 4 [(0, .ref a0), (1, .int p1), (2, .int p2), (3, .int p3)] := hl
  have D33 : ∀ (v0 : Nat) (v1 : Int32) (v2 : Int32) (v3 : Int32) (w0 : Int32) (τ : mx_S), f_X11_interference_D33 P v0 v1 v2 v3 w0 τ = some (.inl (E, σ')) → ∀ (H : Heap) (locs : List Loc), mx_J G P s.heap (mxz σ) (mxu σ) τ H locs → ∀ ls : Array Slot, lv_has ls 4 [(0, .ref v0), (1, .int v1), (2, .int v2), (3, .int v3)] → W p l e (mx_rm P 7 101 σ) s m ([.ref a0, .int p1, .int p2, .int p3] : List Value).toArray below meth c H locs (mxz τ - mxz σ) (mxu τ - mxu σ) (mx_Zt below G P E σ σ' [.ref a0, .int p1, .int p2, .int p3] s) (F0 m 33 ls [.int w0]) := by
    intro v0 v1 v2 v3 w0 τ hf _ _ hJ ls hl
    unfold f_X11_interference_D33 at hf
    rcases mbx_t hf with e10 | ⟨σ9, e10, hf⟩
    · exact mx_callST (As := [.int w0]) (rest := []) hx hb hml hts hown hK hJ rfl rfl hnt hlocks (ct_X11_needPresence l hlt G P w0 τ E σ' e10) me_X11_needPresence kw_1243 kw_1242 (Nat.le_of_ble_eq_true rfl) (Nat.le_of_ble_eq_true rfl) rfl hl.1 rfl (Nat.le_of_ble_eq_true rfl) dX11_interference_33
    refine mx_callS (As := [.int w0]) (rest := []) hx hb hml hts hown hK hJ rfl rfl (c_X11_needPresence l G P w0 τ σ9 e10) me_X11_needPresence kw_1243 kw_1242 (Nat.le_of_ble_eq_true rfl) (Nat.le_of_ble_eq_true rfl) rfl hl.1 rfl (Nat.le_of_ble_eq_true rfl) dX11_interference_33 (fun H locs hJ => ?_)
    refine lv_aload_n hx hb dX11_interference_36 rfl (lv_at hl 0 rfl) ?_
    obtain ⟨b11, e12, hf⟩ := mb0 hf
    refine my_gR hx hb hts hown hK hJ fd_RX11_19 hv_11_1 e12 dX11_interference_37 ?_
    refine lv_iload_n hx hb dX11_interference_40 rfl (lv_at hl 1 rfl) ?_
    refine lv_iload_n hx hb dX11_interference_41 rfl (lv_at hl 2 rfl) ?_
    refine lv_iload_n hx hb dX11_interference_42 rfl (lv_at hl 3 rfl) ?_
    obtain ⟨i13, e14, hf⟩ := mb0 hf
    obtain ⟨x16, σ15, e17, hf⟩ := mc0 hf
    refine mx_callV (As := [.int v1, .int v2, .int v3]) (rest := []) hx hb hml hts hown hK hJ rfl rfl (ci := 4) rfl e14 (c_X4_clash l G P b11 v1 v2 v3 σ9 x16 σ15 e17) me_X4_clash kw_1500 kw_1501 kw_1499 (Nat.le_of_ble_eq_true rfl) (Nat.le_of_ble_eq_true rfl) rfl hl.1 rfl (Nat.le_of_ble_eq_true rfl) dX11_interference_43 (fun H locs hJ => ?_)
    cases hf
  have D32 : ∀ (v0 : Nat) (v1 : Int32) (v2 : Int32) (v3 : Int32) (τ : mx_S), f_X11_interference_D32 P v0 v1 v2 v3 τ = some (.inl (E, σ')) → ∀ (H : Heap) (locs : List Loc), mx_J G P s.heap (mxz σ) (mxu σ) τ H locs → ∀ ls : Array Slot, lv_has ls 4 [(0, .ref v0), (1, .int v1), (2, .int v2), (3, .int v3)] → W p l e (mx_rm P 7 101 σ) s m ([.ref a0, .int p1, .int p2, .int p3] : List Value).toArray below meth c H locs (mxz τ - mxz σ) (mxu τ - mxu σ) (mx_Zt below G P E σ σ' [.ref a0, .int p1, .int p2, .int p3] s) (F0 m 32 ls []) := by
    intro v0 v1 v2 v3 τ hf _ _ hJ ls hl
    unfold f_X11_interference_D32 at hf
    refine lv_iconst (v := 0) hx hb dX11_interference_32 (by decide) ?_
    exact D33 v0 v1 v2 v3 (0 : Int32) τ hf _ _ hJ ls (lv_sub hl [0, 1, 2, 3] rfl)
  unfold f_X11_interference at hf
  refine lv_iload_n hx hb dX11_interference_0 rfl (lv_at hl 1 rfl) ?_
  refine lv_aload_n hx hb dX11_interference_1 rfl (lv_at hl 0 rfl) ?_
  obtain ⟨b1, e2, hf⟩ := mb0 hf
  refine my_gR hx hb hts hown hK hJ fd_RX11_19 hv_11_1 e2 dX11_interference_2 ?_
  obtain ⟨x3, e4, hf⟩ := mb0 hf
  refine my_gI hx hb hts hown hK hJ fd_RX11_220 hv_4_0 e4 dX11_interference_5 ?_
  obtain ⟨x6, σ5, e7, hf⟩ := mc0 hf
  refine mx_callS (As := [.int p1, .int x3]) (rest := []) hx hb hml hts hown hK hJ rfl rfl (c_X11_isWithin l G P p1 x3 σ x6 σ5 e7) me_X11_isWithin kw_1240 kw_1239 (Nat.le_of_ble_eq_true rfl) (Nat.le_of_ble_eq_true rfl) rfl hl.1 rfl (Nat.le_of_ble_eq_true rfl) dX11_interference_8 (fun H locs hJ => ?_)
  refine lv_if_eq (tgt := 32) hx hb dX11_interference_11 (by decide) (fun c8 => ?_) (fun c8 => ?_)
  · rw [if_pos c8] at hf
    exact D32 a0 p1 p2 p3 σ5 hf _ _ hJ ls (lv_sub hl [0, 1, 2, 3] rfl)
  · rw [if_neg c8] at hf
    refine lv_iload_n hx hb dX11_interference_14 rfl (lv_at hl 2 rfl) ?_
    refine lv_aload_n hx hb dX11_interference_15 rfl (lv_at hl 0 rfl) ?_
    obtain ⟨b18, e19, hf⟩ := mb0 hf
    refine my_gR hx hb hts hown hK hJ fd_RX11_19 hv_11_1 e19 dX11_interference_16 ?_
    obtain ⟨x20, e21, hf⟩ := mb0 hf
    refine my_gI hx hb hts hown hK hJ fd_RX11_220 hv_4_0 e21 dX11_interference_19 ?_
    obtain ⟨x23, σ22, e24, hf⟩ := mc0 hf
    refine mx_callS (As := [.int p2, .int x20]) (rest := []) hx hb hml hts hown hK hJ rfl rfl (c_X11_isWithin l G P p2 x20 σ5 x23 σ22 e24) me_X11_isWithin kw_1240 kw_1239 (Nat.le_of_ble_eq_true rfl) (Nat.le_of_ble_eq_true rfl) rfl hl.1 rfl (Nat.le_of_ble_eq_true rfl) dX11_interference_22 (fun H locs hJ => ?_)
    refine lv_if_eq (tgt := 32) hx hb dX11_interference_25 (by decide) (fun c25 => ?_) (fun c25 => ?_)
    · rw [if_pos c25] at hf
      exact D32 a0 p1 p2 p3 σ22 hf _ _ hJ ls (lv_sub hl [0, 1, 2, 3] rfl)
    · rw [if_neg c25] at hf
      refine lv_iconst (v := 1) hx hb dX11_interference_28 (by decide) ?_
      refine lv_goto (tgt := 33) hx hb dX11_interference_29 (by decide) ?_
      exact D33 a0 p1 p2 p3 (1 : Int32) σ22 hf _ _ hJ ls (lv_sub hl [0, 1, 2, 3] rfl)
set_option maxHeartbeats 4000000 in
set_option maxRecDepth 100000 in
theorem c_X11_trains (l : Launch) (G : mx_G) (P : mx_P) (a0 : Nat) (p1 : Int32) (p2 : Int32) (p3 : Int32) (p4 : Int32) (σ : mx_S) (r : Int32) (σ' : mx_S) (hf : f_X11_trains P a0 p1 p2 p3 p4 σ = some (.inr (r, σ'))) : mxz σ ≤ mpc P → mxu σ ≤ mps P → mx_M l yX11_trains cX11_trains 5 (some .int) 7 103 G P [.ref a0, .int p1, .int p2, .int p3, .int p4] σ (some (.int r)) σ' := by
  intro hcap hcau
  refine mx_ofW (by decide +kernel) hcap hcau (Nat.le_of_ble_eq_true rfl) ?_
  intro p e s m below meth c hx hb hr hml hts hown hlocks hname hK hJ ls hl
  have hz0 := hJ.2.1
  have hown : s.vm.findClass RX11 = some m.cls := hown
  have hl : lv_has ls 5 [(0, .ref a0), (1, .int p1), (2, .int p2), (3, .int p3), (4, .int p4)] := hl
  unfold f_X11_trains at hf
  refine lv_iload_n hx hb dX11_trains_0 rfl (lv_at hl 1 rfl) ?_
  refine lv_iconst (v := 1) hx hb dX11_trains_1 (by decide) ?_
  refine lv_sipush (v := 10000) hx hb dX11_trains_2 (by decide) ?_
  obtain ⟨σ1, e2, hf⟩ := mbx_n hf
  refine mx_callS (As := [.int p1, .int (1 : Int32), .int (10000 : Int32)]) (rest := []) hx hb hml hts hown hK hJ rfl rfl (c_X11_needRange l G P p1 (1 : Int32) (10000 : Int32) σ σ1 e2) me_X11_needRange kw_1005 kw_1004 (Nat.le_of_ble_eq_true rfl) (Nat.le_of_ble_eq_true rfl) rfl hl.1 rfl (Nat.le_of_ble_eq_true rfl) dX11_trains_5 (fun H locs hJ => ?_)
  refine lv_iload_n hx hb dX11_trains_8 rfl (lv_at hl 2 rfl) ?_
  refine lv_iconst (v := 1) hx hb dX11_trains_9 (by decide) ?_
  refine lv_sipush (v := 10000) hx hb dX11_trains_10 (by decide) ?_
  obtain ⟨σ3, e4, hf⟩ := mbx_n hf
  refine mx_callS (As := [.int p2, .int (1 : Int32), .int (10000 : Int32)]) (rest := []) hx hb hml hts hown hK hJ rfl rfl (c_X11_needRange l G P p2 (1 : Int32) (10000 : Int32) σ1 σ3 e4) me_X11_needRange kw_1005 kw_1004 (Nat.le_of_ble_eq_true rfl) (Nat.le_of_ble_eq_true rfl) rfl hl.1 rfl (Nat.le_of_ble_eq_true rfl) dX11_trains_13 (fun H locs hJ => ?_)
  refine lv_iload_n hx hb dX11_trains_16 rfl (lv_at hl 3 rfl) ?_
  refine lv_iconst (v := 4) hx hb dX11_trains_17 (by decide) ?_
  refine lv_bipush (v := 120) hx hb dX11_trains_18 (by decide) ?_
  obtain ⟨σ5, e6, hf⟩ := mbx_n hf
  refine mx_callS (As := [.int p3, .int (4 : Int32), .int (120 : Int32)]) (rest := []) hx hb hml hts hown hK hJ rfl rfl (c_X11_needRange l G P p3 (4 : Int32) (120 : Int32) σ3 σ5 e6) me_X11_needRange kw_1005 kw_1004 (Nat.le_of_ble_eq_true rfl) (Nat.le_of_ble_eq_true rfl) rfl hl.1 rfl (Nat.le_of_ble_eq_true rfl) dX11_trains_20 (fun H locs hJ => ?_)
  refine lv_iload hx hb dX11_trains_23 (lv_at hl 4 rfl) ?_
  refine lv_iload_n hx hb dX11_trains_25 rfl (lv_at hl 3 rfl) ?_
  refine lv_bipush (v := 120) hx hb dX11_trains_26 (by decide) ?_
  obtain ⟨σ7, e8, hf⟩ := mbx_n hf
  refine mx_callS (As := [.int p4, .int p3, .int (120 : Int32)]) (rest := []) hx hb hml hts hown hK hJ rfl rfl (c_X11_needRange l G P p4 p3 (120 : Int32) σ5 σ7 e8) me_X11_needRange kw_1005 kw_1004 (Nat.le_of_ble_eq_true rfl) (Nat.le_of_ble_eq_true rfl) rfl hl.1 rfl (Nat.le_of_ble_eq_true rfl) dX11_trains_28 (fun H locs hJ => ?_)
  refine lv_aload_n hx hb dX11_trains_31 rfl (lv_at hl 0 rfl) ?_
  obtain ⟨b9, e10, hf⟩ := mb0 hf
  refine my_gR hx hb hts hown hK hJ fd_RX11_19 hv_11_1 e10 dX11_trains_32 ?_
  refine lv_iload_n hx hb dX11_trains_35 rfl (lv_at hl 1 rfl) ?_
  refine lv_iload_n hx hb dX11_trains_36 rfl (lv_at hl 2 rfl) ?_
  refine lv_iload_n hx hb dX11_trains_37 rfl (lv_at hl 3 rfl) ?_
  refine lv_iload hx hb dX11_trains_38 (lv_at hl 4 rfl) ?_
  obtain ⟨i11, e12, hf⟩ := mb0 hf
  obtain ⟨x14, σ13, e15, hf⟩ := mc0 hf
  refine mx_callV (As := [.int p1, .int p2, .int p3, .int p4]) (rest := []) hx hb hml hts hown hK hJ rfl rfl (ci := 4) rfl e12 (c_X4_findTrains l G P b9 p1 p2 p3 p4 σ7 x14 σ13 e15) me_X4_findTrains kw_1522 kw_1523 kw_1521 (Nat.le_of_ble_eq_true rfl) (Nat.le_of_ble_eq_true rfl) rfl hl.1 rfl (Nat.le_of_ble_eq_true rfl) dX11_trains_40 (fun H locs hJ => ?_)
  exact my_iret hx hb hr hlocks hJ (mx_inr hf) dX11_trains_43
set_option maxHeartbeats 4000000 in
set_option maxRecDepth 100000 in
theorem ct_X11_trains (l : Launch) (hlt : l.stackTraces = false) (G : mx_G) (P : mx_P) (a0 : Nat) (p1 : Int32) (p2 : Int32) (p3 : Int32) (p4 : Int32) (σ : mx_S) (E : String) (σ' : mx_S) (hf : f_X11_trains P a0 p1 p2 p3 p4 σ = some (.inl (E, σ'))) : mxz σ ≤ mpc P → mxu σ ≤ mps P → mx_Mt l yX11_trains cX11_trains 5 (some .int) 7 103 G P [.ref a0, .int p1, .int p2, .int p3, .int p4] σ E σ' := by
  intro hcap hcau
  refine mx_ofWt (by decide +kernel) hcap hcau (Nat.le_of_ble_eq_true rfl) ?_
  intro p e s m below meth c hx hb hr hml hts hown hlocks hname hnt hK hJ ls hl
  have hz0 := hJ.2.1
  have hown : s.vm.findClass RX11 = some m.cls := hown
  have hl : lv_has ls 5 [(0, .ref a0), (1, .int p1), (2, .int p2), (3, .int p3), (4, .int p4)] := hl
  unfold f_X11_trains at hf
  refine lv_iload_n hx hb dX11_trains_0 rfl (lv_at hl 1 rfl) ?_
  refine lv_iconst (v := 1) hx hb dX11_trains_1 (by decide) ?_
  refine lv_sipush (v := 10000) hx hb dX11_trains_2 (by decide) ?_
  rcases mbx_t hf with e2 | ⟨σ1, e2, hf⟩
  · exact mx_callST (As := [.int p1, .int (1 : Int32), .int (10000 : Int32)]) (rest := []) hx hb hml hts hown hK hJ rfl rfl hnt hlocks (ct_X11_needRange l hlt G P p1 (1 : Int32) (10000 : Int32) σ E σ' e2) me_X11_needRange kw_1005 kw_1004 (Nat.le_of_ble_eq_true rfl) (Nat.le_of_ble_eq_true rfl) rfl hl.1 rfl (Nat.le_of_ble_eq_true rfl) dX11_trains_5
  refine mx_callS (As := [.int p1, .int (1 : Int32), .int (10000 : Int32)]) (rest := []) hx hb hml hts hown hK hJ rfl rfl (c_X11_needRange l G P p1 (1 : Int32) (10000 : Int32) σ σ1 e2) me_X11_needRange kw_1005 kw_1004 (Nat.le_of_ble_eq_true rfl) (Nat.le_of_ble_eq_true rfl) rfl hl.1 rfl (Nat.le_of_ble_eq_true rfl) dX11_trains_5 (fun H locs hJ => ?_)
  refine lv_iload_n hx hb dX11_trains_8 rfl (lv_at hl 2 rfl) ?_
  refine lv_iconst (v := 1) hx hb dX11_trains_9 (by decide) ?_
  refine lv_sipush (v := 10000) hx hb dX11_trains_10 (by decide) ?_
  rcases mbx_t hf with e4 | ⟨σ3, e4, hf⟩
  · exact mx_callST (As := [.int p2, .int (1 : Int32), .int (10000 : Int32)]) (rest := []) hx hb hml hts hown hK hJ rfl rfl hnt hlocks (ct_X11_needRange l hlt G P p2 (1 : Int32) (10000 : Int32) σ1 E σ' e4) me_X11_needRange kw_1005 kw_1004 (Nat.le_of_ble_eq_true rfl) (Nat.le_of_ble_eq_true rfl) rfl hl.1 rfl (Nat.le_of_ble_eq_true rfl) dX11_trains_13
  refine mx_callS (As := [.int p2, .int (1 : Int32), .int (10000 : Int32)]) (rest := []) hx hb hml hts hown hK hJ rfl rfl (c_X11_needRange l G P p2 (1 : Int32) (10000 : Int32) σ1 σ3 e4) me_X11_needRange kw_1005 kw_1004 (Nat.le_of_ble_eq_true rfl) (Nat.le_of_ble_eq_true rfl) rfl hl.1 rfl (Nat.le_of_ble_eq_true rfl) dX11_trains_13 (fun H locs hJ => ?_)
  refine lv_iload_n hx hb dX11_trains_16 rfl (lv_at hl 3 rfl) ?_
  refine lv_iconst (v := 4) hx hb dX11_trains_17 (by decide) ?_
  refine lv_bipush (v := 120) hx hb dX11_trains_18 (by decide) ?_
  rcases mbx_t hf with e6 | ⟨σ5, e6, hf⟩
  · exact mx_callST (As := [.int p3, .int (4 : Int32), .int (120 : Int32)]) (rest := []) hx hb hml hts hown hK hJ rfl rfl hnt hlocks (ct_X11_needRange l hlt G P p3 (4 : Int32) (120 : Int32) σ3 E σ' e6) me_X11_needRange kw_1005 kw_1004 (Nat.le_of_ble_eq_true rfl) (Nat.le_of_ble_eq_true rfl) rfl hl.1 rfl (Nat.le_of_ble_eq_true rfl) dX11_trains_20
  refine mx_callS (As := [.int p3, .int (4 : Int32), .int (120 : Int32)]) (rest := []) hx hb hml hts hown hK hJ rfl rfl (c_X11_needRange l G P p3 (4 : Int32) (120 : Int32) σ3 σ5 e6) me_X11_needRange kw_1005 kw_1004 (Nat.le_of_ble_eq_true rfl) (Nat.le_of_ble_eq_true rfl) rfl hl.1 rfl (Nat.le_of_ble_eq_true rfl) dX11_trains_20 (fun H locs hJ => ?_)
  refine lv_iload hx hb dX11_trains_23 (lv_at hl 4 rfl) ?_
  refine lv_iload_n hx hb dX11_trains_25 rfl (lv_at hl 3 rfl) ?_
  refine lv_bipush (v := 120) hx hb dX11_trains_26 (by decide) ?_
  rcases mbx_t hf with e8 | ⟨σ7, e8, hf⟩
  · exact mx_callST (As := [.int p4, .int p3, .int (120 : Int32)]) (rest := []) hx hb hml hts hown hK hJ rfl rfl hnt hlocks (ct_X11_needRange l hlt G P p4 p3 (120 : Int32) σ5 E σ' e8) me_X11_needRange kw_1005 kw_1004 (Nat.le_of_ble_eq_true rfl) (Nat.le_of_ble_eq_true rfl) rfl hl.1 rfl (Nat.le_of_ble_eq_true rfl) dX11_trains_28
  refine mx_callS (As := [.int p4, .int p3, .int (120 : Int32)]) (rest := []) hx hb hml hts hown hK hJ rfl rfl (c_X11_needRange l G P p4 p3 (120 : Int32) σ5 σ7 e8) me_X11_needRange kw_1005 kw_1004 (Nat.le_of_ble_eq_true rfl) (Nat.le_of_ble_eq_true rfl) rfl hl.1 rfl (Nat.le_of_ble_eq_true rfl) dX11_trains_28 (fun H locs hJ => ?_)
  refine lv_aload_n hx hb dX11_trains_31 rfl (lv_at hl 0 rfl) ?_
  obtain ⟨b9, e10, hf⟩ := mb0 hf
  refine my_gR hx hb hts hown hK hJ fd_RX11_19 hv_11_1 e10 dX11_trains_32 ?_
  refine lv_iload_n hx hb dX11_trains_35 rfl (lv_at hl 1 rfl) ?_
  refine lv_iload_n hx hb dX11_trains_36 rfl (lv_at hl 2 rfl) ?_
  refine lv_iload_n hx hb dX11_trains_37 rfl (lv_at hl 3 rfl) ?_
  refine lv_iload hx hb dX11_trains_38 (lv_at hl 4 rfl) ?_
  obtain ⟨i11, e12, hf⟩ := mb0 hf
  obtain ⟨x14, σ13, e15, hf⟩ := mc0 hf
  refine mx_callV (As := [.int p1, .int p2, .int p3, .int p4]) (rest := []) hx hb hml hts hown hK hJ rfl rfl (ci := 4) rfl e12 (c_X4_findTrains l G P b9 p1 p2 p3 p4 σ7 x14 σ13 e15) me_X4_findTrains kw_1522 kw_1523 kw_1521 (Nat.le_of_ble_eq_true rfl) (Nat.le_of_ble_eq_true rfl) rfl hl.1 rfl (Nat.le_of_ble_eq_true rfl) dX11_trains_40 (fun H locs hJ => ?_)
  cases hf
set_option maxHeartbeats 4000000 in
set_option maxRecDepth 100000 in
theorem c_X11_train (l : Launch) (G : mx_G) (P : mx_P) (a0 : Nat) (p1 : Int32) (p2 : Int32) (σ : mx_S) (r : Int32) (σ' : mx_S) (hf : f_X11_train P a0 p1 p2 σ = some (.inr (r, σ'))) : mxz σ ≤ mpc P → mxu σ ≤ mps P → mx_M l yX11_train cX11_train 3 (some .int) 7 103 G P [.ref a0, .int p1, .int p2] σ (some (.int r)) σ' := by
  intro hcap hcau
  refine mx_ofW (by decide +kernel) hcap hcau (Nat.le_of_ble_eq_true rfl) ?_
  intro p e s m below meth c hx hb hr hml hts hown hlocks hname hK hJ ls hl
  have hz0 := hJ.2.1
  have hown : s.vm.findClass RX11 = some m.cls := hown
  have hl : lv_has ls 3 [(0, .ref a0), (1, .int p1), (2, .int p2)] := hl
  unfold f_X11_train at hf
  refine lv_iload_n hx hb dX11_train_0 rfl (lv_at hl 2 rfl) ?_
  refine lv_iconst (v := 0) hx hb dX11_train_1 (by decide) ?_
  refine lv_iconst (v := 3) hx hb dX11_train_2 (by decide) ?_
  obtain ⟨σ1, e2, hf⟩ := mbx_n hf
  refine mx_callS (As := [.int p2, .int (0 : Int32), .int (3 : Int32)]) (rest := []) hx hb hml hts hown hK hJ rfl rfl (c_X11_needRange l G P p2 (0 : Int32) (3 : Int32) σ σ1 e2) me_X11_needRange kw_1005 kw_1004 (Nat.le_of_ble_eq_true rfl) (Nat.le_of_ble_eq_true rfl) rfl hl.1 rfl (Nat.le_of_ble_eq_true rfl) dX11_train_3 (fun H locs hJ => ?_)
  refine lv_iload_n hx hb dX11_train_6 rfl (lv_at hl 1 rfl) ?_
  refine lv_aload_n hx hb dX11_train_7 rfl (lv_at hl 0 rfl) ?_
  obtain ⟨b3, e4, hf⟩ := mb0 hf
  refine my_gR hx hb hts hown hK hJ fd_RX11_19 hv_11_1 e4 dX11_train_8 ?_
  obtain ⟨x5, e6, hf⟩ := mb0 hf
  refine my_gI hx hb hts hown hK hJ fd_RX11_265 hv_4_2 e6 dX11_train_11 ?_
  obtain ⟨x8, σ7, e9, hf⟩ := mc0 hf
  refine mx_callS (As := [.int p1, .int x5]) (rest := []) hx hb hml hts hown hK hJ rfl rfl (c_X11_isWithin l G P p1 x5 σ1 x8 σ7 e9) me_X11_isWithin kw_1240 kw_1239 (Nat.le_of_ble_eq_true rfl) (Nat.le_of_ble_eq_true rfl) rfl hl.1 rfl (Nat.le_of_ble_eq_true rfl) dX11_train_14 (fun H locs hJ => ?_)
  obtain ⟨σ10, e11, hf⟩ := mbx_n hf
  refine mx_callS (As := [.int x8]) (rest := []) hx hb hml hts hown hK hJ rfl rfl (c_X11_needPresence l G P x8 σ7 σ10 e11) me_X11_needPresence kw_1243 kw_1242 (Nat.le_of_ble_eq_true rfl) (Nat.le_of_ble_eq_true rfl) rfl hl.1 rfl (Nat.le_of_ble_eq_true rfl) dX11_train_17 (fun H locs hJ => ?_)
  refine lv_aload_n hx hb dX11_train_20 rfl (lv_at hl 0 rfl) ?_
  obtain ⟨b12, e13, hf⟩ := mb0 hf
  refine my_gR hx hb hts hown hK hJ fd_RX11_19 hv_11_1 e13 dX11_train_21 ?_
  obtain ⟨b14, e15, hf⟩ := mb0 hf
  refine my_gR hx hb hts hown hK hJ fd_RX11_268 hv_4_9 e15 dX11_train_24 ?_
  refine lv_iconst (v := 4) hx hb dX11_train_27 (by decide) ?_
  refine lv_iload_n hx hb dX11_train_28 rfl (lv_at hl 1 rfl) ?_
  refine lv_imul hx hb dX11_train_29 ?_
  refine lv_iload_n hx hb dX11_train_30 rfl (lv_at hl 2 rfl) ?_
  refine lv_iadd hx hb dX11_train_31 ?_
  obtain ⟨x16, e17, hf⟩ := mb0 hf
  refine mx_aI hx hb hK hJ e17 dX11_train_32 ?_
  exact my_iret hx hb hr hlocks hJ (mx_inr hf) dX11_train_33
set_option maxHeartbeats 4000000 in
set_option maxRecDepth 100000 in
theorem ct_X11_train (l : Launch) (hlt : l.stackTraces = false) (G : mx_G) (P : mx_P) (a0 : Nat) (p1 : Int32) (p2 : Int32) (σ : mx_S) (E : String) (σ' : mx_S) (hf : f_X11_train P a0 p1 p2 σ = some (.inl (E, σ'))) : mxz σ ≤ mpc P → mxu σ ≤ mps P → mx_Mt l yX11_train cX11_train 3 (some .int) 7 103 G P [.ref a0, .int p1, .int p2] σ E σ' := by
  intro hcap hcau
  refine mx_ofWt (by decide +kernel) hcap hcau (Nat.le_of_ble_eq_true rfl) ?_
  intro p e s m below meth c hx hb hr hml hts hown hlocks hname hnt hK hJ ls hl
  have hz0 := hJ.2.1
  have hown : s.vm.findClass RX11 = some m.cls := hown
  have hl : lv_has ls 3 [(0, .ref a0), (1, .int p1), (2, .int p2)] := hl
  unfold f_X11_train at hf
  refine lv_iload_n hx hb dX11_train_0 rfl (lv_at hl 2 rfl) ?_
  refine lv_iconst (v := 0) hx hb dX11_train_1 (by decide) ?_
  refine lv_iconst (v := 3) hx hb dX11_train_2 (by decide) ?_
  rcases mbx_t hf with e2 | ⟨σ1, e2, hf⟩
  · exact mx_callST (As := [.int p2, .int (0 : Int32), .int (3 : Int32)]) (rest := []) hx hb hml hts hown hK hJ rfl rfl hnt hlocks (ct_X11_needRange l hlt G P p2 (0 : Int32) (3 : Int32) σ E σ' e2) me_X11_needRange kw_1005 kw_1004 (Nat.le_of_ble_eq_true rfl) (Nat.le_of_ble_eq_true rfl) rfl hl.1 rfl (Nat.le_of_ble_eq_true rfl) dX11_train_3
  refine mx_callS (As := [.int p2, .int (0 : Int32), .int (3 : Int32)]) (rest := []) hx hb hml hts hown hK hJ rfl rfl (c_X11_needRange l G P p2 (0 : Int32) (3 : Int32) σ σ1 e2) me_X11_needRange kw_1005 kw_1004 (Nat.le_of_ble_eq_true rfl) (Nat.le_of_ble_eq_true rfl) rfl hl.1 rfl (Nat.le_of_ble_eq_true rfl) dX11_train_3 (fun H locs hJ => ?_)
  refine lv_iload_n hx hb dX11_train_6 rfl (lv_at hl 1 rfl) ?_
  refine lv_aload_n hx hb dX11_train_7 rfl (lv_at hl 0 rfl) ?_
  obtain ⟨b3, e4, hf⟩ := mb0 hf
  refine my_gR hx hb hts hown hK hJ fd_RX11_19 hv_11_1 e4 dX11_train_8 ?_
  obtain ⟨x5, e6, hf⟩ := mb0 hf
  refine my_gI hx hb hts hown hK hJ fd_RX11_265 hv_4_2 e6 dX11_train_11 ?_
  obtain ⟨x8, σ7, e9, hf⟩ := mc0 hf
  refine mx_callS (As := [.int p1, .int x5]) (rest := []) hx hb hml hts hown hK hJ rfl rfl (c_X11_isWithin l G P p1 x5 σ1 x8 σ7 e9) me_X11_isWithin kw_1240 kw_1239 (Nat.le_of_ble_eq_true rfl) (Nat.le_of_ble_eq_true rfl) rfl hl.1 rfl (Nat.le_of_ble_eq_true rfl) dX11_train_14 (fun H locs hJ => ?_)
  rcases mbx_t hf with e11 | ⟨σ10, e11, hf⟩
  · exact mx_callST (As := [.int x8]) (rest := []) hx hb hml hts hown hK hJ rfl rfl hnt hlocks (ct_X11_needPresence l hlt G P x8 σ7 E σ' e11) me_X11_needPresence kw_1243 kw_1242 (Nat.le_of_ble_eq_true rfl) (Nat.le_of_ble_eq_true rfl) rfl hl.1 rfl (Nat.le_of_ble_eq_true rfl) dX11_train_17
  refine mx_callS (As := [.int x8]) (rest := []) hx hb hml hts hown hK hJ rfl rfl (c_X11_needPresence l G P x8 σ7 σ10 e11) me_X11_needPresence kw_1243 kw_1242 (Nat.le_of_ble_eq_true rfl) (Nat.le_of_ble_eq_true rfl) rfl hl.1 rfl (Nat.le_of_ble_eq_true rfl) dX11_train_17 (fun H locs hJ => ?_)
  refine lv_aload_n hx hb dX11_train_20 rfl (lv_at hl 0 rfl) ?_
  obtain ⟨b12, e13, hf⟩ := mb0 hf
  refine my_gR hx hb hts hown hK hJ fd_RX11_19 hv_11_1 e13 dX11_train_21 ?_
  obtain ⟨b14, e15, hf⟩ := mb0 hf
  refine my_gR hx hb hts hown hK hJ fd_RX11_268 hv_4_9 e15 dX11_train_24 ?_
  refine lv_iconst (v := 4) hx hb dX11_train_27 (by decide) ?_
  refine lv_iload_n hx hb dX11_train_28 rfl (lv_at hl 1 rfl) ?_
  refine lv_imul hx hb dX11_train_29 ?_
  refine lv_iload_n hx hb dX11_train_30 rfl (lv_at hl 2 rfl) ?_
  refine lv_iadd hx hb dX11_train_31 ?_
  obtain ⟨x16, e17, hf⟩ := mb0 hf
  refine mx_aI hx hb hK hJ e17 dX11_train_32 ?_
  cases hf
set_option maxHeartbeats 4000000 in
set_option maxRecDepth 100000 in
theorem c_X11_cam (l : Launch) (G : mx_G) (P : mx_P) (a0 : Nat) (σ : mx_S) (r : Int32) (σ' : mx_S) (hf : f_X11_cam P a0 σ = some (.inr (r, σ'))) : mxz σ ≤ mpc P → mxu σ ≤ mps P → mx_M l yX11_cam cX11_cam 3 (some .int) 8 177 G P [.ref a0] σ (some (.int r)) σ' := by
  intro hcap hcau
  refine mx_ofW (by decide +kernel) hcap hcau (Nat.le_of_ble_eq_true rfl) ?_
  intro p e s m below meth c hx hb hr hml hts hown hlocks hname hK hJ ls hl
  have hz0 := hJ.2.1
  have hown : s.vm.findClass RX11 = some m.cls := hown
  have hl : lv_has ls 3 [(0, .ref a0)] := hl
  unfold f_X11_cam at hf
  refine lv_aload_n hx hb dX11_cam_0 rfl (lv_at hl 0 rfl) ?_
  obtain ⟨b1, e2, hf⟩ := mb0 hf
  refine my_gR hx hb hts hown hK hJ fd_RX11_68 hv_11_9 e2 dX11_cam_1 ?_
  refine lv_aload_n hx hb dX11_cam_4 rfl (lv_at hl 0 rfl) ?_
  obtain ⟨b3, e4, hf⟩ := mb0 hf
  refine my_gR hx hb hts hown hK hJ fd_RX11_10 hv_11_0 e4 dX11_cam_5 ?_
  obtain ⟨i5, e6, hf⟩ := mb0 hf
  obtain ⟨x8, σ7, e9, hf⟩ := mc0 hf
  refine mx_callV (As := [.ref b3]) (rest := []) hx hb hml hts hown hK hJ rfl rfl (ci := 1) rfl e6 (c_X1_isRead l G P b1 b3 σ x8 σ7 e9) me_X1_isRead kw_1548 kw_1549 kw_1547 (Nat.le_of_ble_eq_true rfl) (Nat.le_of_ble_eq_true rfl) rfl hl.1 rfl (Nat.le_of_ble_eq_true rfl) dX11_cam_8 (fun H locs hJ => ?_)
  refine lv_istore_n (lv' := [(1, .int x8), (0, .ref a0)]) hx hb dX11_cam_11 rfl hl (by decide) rfl (fun ls hl => ?_)
  refine lv_aload_n hx hb dX11_cam_12 rfl (lv_at hl 1 rfl) ?_
  obtain ⟨b10, e11, hf⟩ := mb0 hf
  refine my_gR hx hb hts hown hK hJ fd_RX11_10 hv_11_0 e11 dX11_cam_13 ?_
  refine lv_iconst (v := 0) hx hb dX11_cam_16 (by decide) ?_
  obtain ⟨σ12, e13, hf⟩ := mb0 hf
  refine my_pI hx hb hts hown hK hJ fd_RX11_82 cd_10 (Or.inl rfl) ht_10_1 e13 dX11_cam_17 (fun H locs hJ => ?_)
  refine lv_iload_n hx hb dX11_cam_20 rfl (lv_at hl 0 rfl) ?_
  refine lv_if_ne (tgt := 32) hx hb dX11_cam_21 (by decide) (fun c14 => ?_) (fun c14 => ?_)
  · rw [if_neg c14] at hf
    refine lv_aload_n hx hb dX11_cam_32 rfl (lv_at hl 1 rfl) ?_
    obtain ⟨b15, e16, hf⟩ := mb0 hf
    refine my_gR hx hb hts hown hK hJ fd_RX11_64 hv_11_8 e16 dX11_cam_33 ?_
    refine lv_astore_n (lv' := [(2, .ref b15), (1, .int x8), (0, .ref a0)]) hx hb dX11_cam_36 rfl hl (by decide) rfl (fun ls hl => ?_)
    refine lv_aload_n hx hb dX11_cam_37 rfl (lv_at hl 2 rfl) ?_
    refine lv_aload_n hx hb dX11_cam_38 rfl (lv_at hl 2 rfl) ?_
    obtain ⟨b17, e18, hf⟩ := mb0 hf
    refine my_gR hx hb hts hown hK hJ fd_RX11_68 hv_11_9 e18 dX11_cam_39 ?_
    obtain ⟨σ19, e20, hf⟩ := mb0 hf
    refine my_pR hx hb hts hown hK hJ fd_RX11_64 cd_11 (Or.inl rfl) ft_11_8 e20 dX11_cam_42 (fun H locs hJ => ?_)
    refine lv_aload_n hx hb dX11_cam_45 rfl (lv_at hl 2 rfl) ?_
    refine lv_aload_n hx hb dX11_cam_46 rfl (lv_at hl 0 rfl) ?_
    obtain ⟨σ21, e22, hf⟩ := mb0 hf
    refine my_pR hx hb hts hown hK hJ fd_RX11_68 cd_11 (Or.inl rfl) ft_11_9 e22 dX11_cam_47 (fun H locs hJ => ?_)
    refine lv_aload_n hx hb dX11_cam_50 rfl (lv_at hl 2 rfl) ?_
    obtain ⟨b23, e24, hf⟩ := mb0 hf
    refine my_gR hx hb hts hown hK hJ fd_RX11_64 hv_11_8 e24 dX11_cam_51 ?_
    obtain ⟨x25, e26, hf⟩ := mb0 hf
    refine my_gI hx hb hts hown hK hJ fd_RX11_272 hv_1_0 e26 dX11_cam_54 ?_
    exact my_iret hx hb hr hlocks hJ (mx_inr hf) dX11_cam_57
  · rw [if_pos c14] at hf
    obtain ⟨σ27, e28, hf⟩ := mb0 hf
    cases hf
set_option maxHeartbeats 4000000 in
set_option maxRecDepth 100000 in
theorem ct_X11_cam (l : Launch) (hlt : l.stackTraces = false) (G : mx_G) (P : mx_P) (a0 : Nat) (σ : mx_S) (E : String) (σ' : mx_S) (hf : f_X11_cam P a0 σ = some (.inl (E, σ'))) : mxz σ ≤ mpc P → mxu σ ≤ mps P → mx_Mt l yX11_cam cX11_cam 3 (some .int) 8 177 G P [.ref a0] σ E σ' := by
  intro hcap hcau
  refine mx_ofWt (by decide +kernel) hcap hcau (Nat.le_of_ble_eq_true rfl) ?_
  intro p e s m below meth c hx hb hr hml hts hown hlocks hname hnt hK hJ ls hl
  have hz0 := hJ.2.1
  have hown : s.vm.findClass RX11 = some m.cls := hown
  have hl : lv_has ls 3 [(0, .ref a0)] := hl
  unfold f_X11_cam at hf
  refine lv_aload_n hx hb dX11_cam_0 rfl (lv_at hl 0 rfl) ?_
  obtain ⟨b1, e2, hf⟩ := mb0 hf
  refine my_gR hx hb hts hown hK hJ fd_RX11_68 hv_11_9 e2 dX11_cam_1 ?_
  refine lv_aload_n hx hb dX11_cam_4 rfl (lv_at hl 0 rfl) ?_
  obtain ⟨b3, e4, hf⟩ := mb0 hf
  refine my_gR hx hb hts hown hK hJ fd_RX11_10 hv_11_0 e4 dX11_cam_5 ?_
  obtain ⟨i5, e6, hf⟩ := mb0 hf
  obtain ⟨x8, σ7, e9, hf⟩ := mc0 hf
  refine mx_callV (As := [.ref b3]) (rest := []) hx hb hml hts hown hK hJ rfl rfl (ci := 1) rfl e6 (c_X1_isRead l G P b1 b3 σ x8 σ7 e9) me_X1_isRead kw_1548 kw_1549 kw_1547 (Nat.le_of_ble_eq_true rfl) (Nat.le_of_ble_eq_true rfl) rfl hl.1 rfl (Nat.le_of_ble_eq_true rfl) dX11_cam_8 (fun H locs hJ => ?_)
  refine lv_istore_n (lv' := [(1, .int x8), (0, .ref a0)]) hx hb dX11_cam_11 rfl hl (by decide) rfl (fun ls hl => ?_)
  refine lv_aload_n hx hb dX11_cam_12 rfl (lv_at hl 1 rfl) ?_
  obtain ⟨b10, e11, hf⟩ := mb0 hf
  refine my_gR hx hb hts hown hK hJ fd_RX11_10 hv_11_0 e11 dX11_cam_13 ?_
  refine lv_iconst (v := 0) hx hb dX11_cam_16 (by decide) ?_
  obtain ⟨σ12, e13, hf⟩ := mb0 hf
  refine my_pI hx hb hts hown hK hJ fd_RX11_82 cd_10 (Or.inl rfl) ht_10_1 e13 dX11_cam_17 (fun H locs hJ => ?_)
  refine lv_iload_n hx hb dX11_cam_20 rfl (lv_at hl 0 rfl) ?_
  refine lv_if_ne (tgt := 32) hx hb dX11_cam_21 (by decide) (fun c14 => ?_) (fun c14 => ?_)
  · rw [if_neg c14] at hf
    refine lv_aload_n hx hb dX11_cam_32 rfl (lv_at hl 1 rfl) ?_
    obtain ⟨b15, e16, hf⟩ := mb0 hf
    refine my_gR hx hb hts hown hK hJ fd_RX11_64 hv_11_8 e16 dX11_cam_33 ?_
    refine lv_astore_n (lv' := [(2, .ref b15), (1, .int x8), (0, .ref a0)]) hx hb dX11_cam_36 rfl hl (by decide) rfl (fun ls hl => ?_)
    refine lv_aload_n hx hb dX11_cam_37 rfl (lv_at hl 2 rfl) ?_
    refine lv_aload_n hx hb dX11_cam_38 rfl (lv_at hl 2 rfl) ?_
    obtain ⟨b17, e18, hf⟩ := mb0 hf
    refine my_gR hx hb hts hown hK hJ fd_RX11_68 hv_11_9 e18 dX11_cam_39 ?_
    obtain ⟨σ19, e20, hf⟩ := mb0 hf
    refine my_pR hx hb hts hown hK hJ fd_RX11_64 cd_11 (Or.inl rfl) ft_11_8 e20 dX11_cam_42 (fun H locs hJ => ?_)
    refine lv_aload_n hx hb dX11_cam_45 rfl (lv_at hl 2 rfl) ?_
    refine lv_aload_n hx hb dX11_cam_46 rfl (lv_at hl 0 rfl) ?_
    obtain ⟨σ21, e22, hf⟩ := mb0 hf
    refine my_pR hx hb hts hown hK hJ fd_RX11_68 cd_11 (Or.inl rfl) ft_11_9 e22 dX11_cam_47 (fun H locs hJ => ?_)
    refine lv_aload_n hx hb dX11_cam_50 rfl (lv_at hl 2 rfl) ?_
    obtain ⟨b23, e24, hf⟩ := mb0 hf
    refine my_gR hx hb hts hown hK hJ fd_RX11_64 hv_11_8 e24 dX11_cam_51 ?_
    obtain ⟨x25, e26, hf⟩ := mb0 hf
    refine my_gI hx hb hts hown hK hJ fd_RX11_272 hv_1_0 e26 dX11_cam_54 ?_
    cases hf
  · rw [if_pos c14] at hf
    obtain ⟨σ27, e28, hf⟩ := mb0 hf
    have hE : some (Sum.inl ("java/lang/UnsupportedOperationException", σ27) : (String × mx_S) ⊕ _) = some (.inl (E, σ')) := hf
    obtain ⟨rfl, rfl⟩ := mx_inl hE
    exact mx_thr hx hb hlt hts hown hK hz0 hJ rfl rfl hnt hlocks tw_RX11_102 (by rw [hml]; exact hl.1.symm) dX11_cam_24 dX11_cam_27 dX11_cam_28 dX11_cam_31 (Nat.le_of_ble_eq_true rfl) (Nat.le_of_ble_eq_true rfl) e28
set_option maxHeartbeats 4000000 in
set_option maxRecDepth 100000 in
theorem c_X11_lift (l : Launch) (G : mx_G) (P : mx_P) (a0 : Nat) (p1 : Int32) (p2 : Int32) (p3 : Int32) (σ : mx_S) (r : Int64) (σ' : mx_S) (hf : f_X11_lift P a0 p1 p2 p3 σ = some (.inr (r, σ'))) : mxz σ ≤ mpc P → mxu σ ≤ mps P → mx_M l yX11_lift cX11_lift 4 (some .long) 7 184 G P [.ref a0, .int p1, .int p2, .int p3] σ (some (.long r)) σ' := by
  intro hcap hcau
  refine mx_ofW (by decide +kernel) hcap hcau (Nat.le_of_ble_eq_true rfl) ?_
  intro p e s m below meth c hx hb hr hml hts hown hlocks hname hK hJ ls hl
  have hz0 := hJ.2.1
  have hown : s.vm.findClass RX11 = some m.cls := hown
  have hl : lv_has ls 4 [(0, .ref a0), (1, .int p1), (2, .int p2), (3, .int p3)] := hl
  have D74 : ∀ (v0 : Nat) (v3 : Int32) (w0 : Int32) (τ : mx_S), f_X11_lift_D74 P v0 v3 w0 τ = some (.inr (r, σ')) → ∀ (H : Heap) (locs : List Loc), mx_J G P s.heap (mxz σ) (mxu σ) τ H locs → ∀ ls : Array Slot, lv_has ls 4 [(0, .ref v0), (3, .int v3)] → W p l e (mx_rm P 7 184 σ) s m ([.ref a0, .int p1, .int p2, .int p3] : List Value).toArray below meth c H locs (mxz τ - mxz σ) (mxu τ - mxu σ) (mx_Z below G P (some (.long r)) σ σ' [.ref a0, .int p1, .int p2, .int p3] s) (F0 m 74 ls [.int w0]) := by
    intro v0 v3 w0 τ hf _ _ hJ ls hl
    unfold f_X11_lift_D74 at hf
    obtain ⟨σ27, e28, hf⟩ := mbx_n hf
    refine mx_callS (As := [.int w0]) (rest := []) hx hb hml hts hown hK hJ rfl rfl (c_X11_needLeave l G P w0 τ σ27 e28) me_X11_needLeave kw_1289 kw_1288 (Nat.le_of_ble_eq_true rfl) (Nat.le_of_ble_eq_true rfl) rfl hl.1 rfl (Nat.le_of_ble_eq_true rfl) dX11_lift_74 (fun H locs hJ => ?_)
    refine lv_aload_n hx hb dX11_lift_77 rfl (lv_at hl 0 rfl) ?_
    obtain ⟨b29, e30, hf⟩ := mb0 hf
    refine my_gR hx hb hts hown hK hJ fd_RX11_47 hv_11_5 e30 dX11_lift_78 ?_
    refine lv_iload_n hx hb dX11_lift_81 rfl (lv_at hl 1 rfl) ?_
    obtain ⟨i31, e32, hf⟩ := mb0 hf
    obtain ⟨x34, σ33, e35, hf⟩ := mc0 hf
    refine mx_callV (As := [.int v3]) (rest := []) hx hb hml hts hown hK hJ rfl rfl (ci := 3) rfl e32 (c_X3_number l G P b29 v3 σ27 x34 σ33 e35) me_X3_number kw_1489 kw_1490 kw_1488 (Nat.le_of_ble_eq_true rfl) (Nat.le_of_ble_eq_true rfl) rfl hl.1 rfl (Nat.le_of_ble_eq_true rfl) dX11_lift_82 (fun H locs hJ => ?_)
    exact my_lret hx hb hr hlocks hJ (mx_inr hf) dX11_lift_85
  have D41 : ∀ (v0 : Nat) (v1 : Int32) (v2 : Int32) (v3 : Int32) (w0 : Int32) (τ : mx_S), f_X11_lift_D41 P v0 v1 v2 v3 w0 τ = some (.inr (r, σ')) → ∀ (H : Heap) (locs : List Loc), mx_J G P s.heap (mxz σ) (mxu σ) τ H locs → ∀ ls : Array Slot, lv_has ls 4 [(0, .ref v0), (1, .int v1), (2, .int v2), (3, .int v3)] → W p l e (mx_rm P 7 184 σ) s m ([.ref a0, .int p1, .int p2, .int p3] : List Value).toArray below meth c H locs (mxz τ - mxz σ) (mxu τ - mxu σ) (mx_Z below G P (some (.long r)) σ σ' [.ref a0, .int p1, .int p2, .int p3] s) (F0 m 41 ls [.int w0]) := by
    intro v0 v1 v2 v3 w0 τ hf _ _ hJ ls hl
    unfold f_X11_lift_D41 at hf
    obtain ⟨σ12, e13, hf⟩ := mbx_n hf
    refine mx_callS (As := [.int w0]) (rest := []) hx hb hml hts hown hK hJ rfl rfl (c_X11_needPresence l G P w0 τ σ12 e13) me_X11_needPresence kw_1243 kw_1242 (Nat.le_of_ble_eq_true rfl) (Nat.le_of_ble_eq_true rfl) rfl hl.1 rfl (Nat.le_of_ble_eq_true rfl) dX11_lift_41 (fun H locs hJ => ?_)
    refine lv_aload_n hx hb dX11_lift_44 rfl (lv_at hl 0 rfl) ?_
    obtain ⟨b14, e15, hf⟩ := mb0 hf
    refine my_gR hx hb hts hown hK hJ fd_RX11_64 hv_11_8 e15 dX11_lift_45 ?_
    refine lv_iload_n hx hb dX11_lift_48 rfl (lv_at hl 1 rfl) ?_
    refine lv_i2l hx hb dX11_lift_49 rfl ?_
    refine lv_iload_n hx hb dX11_lift_50 rfl (lv_at hl 2 rfl) ?_
    refine lv_i2l hx hb dX11_lift_51 rfl ?_
    refine lv_aload_n hx hb dX11_lift_52 rfl (lv_at hl 0 rfl) ?_
    obtain ⟨b16, e17, hf⟩ := mb0 hf
    refine my_gR hx hb hts hown hK hJ fd_RX11_47 hv_11_5 e17 dX11_lift_53 ?_
    obtain ⟨i18, e19, hf⟩ := mb0 hf
    obtain ⟨σ20, e21, hf⟩ := mb0 hf
    refine mx_callV (As := [.long (v1.toInt64), .long (v2.toInt64), .ref b16]) (rest := []) hx hb hml hts hown hK hJ rfl rfl (ci := 1) rfl e19 (c_X1_reckonLift l G P b14 (v1.toInt64) (v2.toInt64) b16 σ12 σ20 e21) me_X1_reckonLift kw_1579 kw_1580 kw_1578 (Nat.le_of_ble_eq_true rfl) (Nat.le_of_ble_eq_true rfl) rfl hl.1 rfl (Nat.le_of_ble_eq_true rfl) dX11_lift_56 (fun H locs hJ => ?_)
    refine lv_aload_n hx hb dX11_lift_59 rfl (lv_at hl 0 rfl) ?_
    obtain ⟨b22, e23, hf⟩ := mb0 hf
    refine my_gR hx hb hts hown hK hJ fd_RX11_47 hv_11_5 e23 dX11_lift_60 ?_
    obtain ⟨x24, e25, hf⟩ := mb0 hf
    refine my_gI hx hb hts hown hK hJ fd_RX11_277 hv_3_2 e25 dX11_lift_63 ?_
    refine lv_if_ne (tgt := 73) hx hb dX11_lift_66 (by decide) (fun c26 => ?_) (fun c26 => ?_)
    · rw [if_neg c26] at hf
      refine lv_iconst (v := 0) hx hb dX11_lift_73 (by decide) ?_
      exact D74 v0 v3 (0 : Int32) σ20 hf _ _ hJ ls (lv_sub hl [0, 3] rfl)
    · rw [if_pos c26] at hf
      refine lv_iconst (v := 1) hx hb dX11_lift_69 (by decide) ?_
      refine lv_goto (tgt := 74) hx hb dX11_lift_70 (by decide) ?_
      exact D74 v0 v3 (1 : Int32) σ20 hf _ _ hJ ls (lv_sub hl [0, 3] rfl)
  unfold f_X11_lift at hf
  refine lv_iload_n hx hb dX11_lift_0 rfl (lv_at hl 3 rfl) ?_
  refine lv_iconst (v := 0) hx hb dX11_lift_1 (by decide) ?_
  refine lv_iconst (v := 1) hx hb dX11_lift_2 (by decide) ?_
  obtain ⟨σ1, e2, hf⟩ := mbx_n hf
  refine mx_callS (As := [.int p3, .int (0 : Int32), .int (1 : Int32)]) (rest := []) hx hb hml hts hown hK hJ rfl rfl (c_X11_needRange l G P p3 (0 : Int32) (1 : Int32) σ σ1 e2) me_X11_needRange kw_1005 kw_1004 (Nat.le_of_ble_eq_true rfl) (Nat.le_of_ble_eq_true rfl) rfl hl.1 rfl (Nat.le_of_ble_eq_true rfl) dX11_lift_3 (fun H locs hJ => ?_)
  refine lv_iload_n hx hb dX11_lift_6 rfl (lv_at hl 2 rfl) ?_
  refine lv_iconst (v := 1) hx hb dX11_lift_7 (by decide) ?_
  refine lv_sipush (v := 1000) hx hb dX11_lift_8 (by decide) ?_
  obtain ⟨σ3, e4, hf⟩ := mbx_n hf
  refine mx_callS (As := [.int p2, .int (1 : Int32), .int (1000 : Int32)]) (rest := []) hx hb hml hts hown hK hJ rfl rfl (c_X11_needRange l G P p2 (1 : Int32) (1000 : Int32) σ1 σ3 e4) me_X11_needRange kw_1005 kw_1004 (Nat.le_of_ble_eq_true rfl) (Nat.le_of_ble_eq_true rfl) rfl hl.1 rfl (Nat.le_of_ble_eq_true rfl) dX11_lift_11 (fun H locs hJ => ?_)
  refine lv_iload_n hx hb dX11_lift_14 rfl (lv_at hl 1 rfl) ?_
  refine lv_iconst (v := 0) hx hb dX11_lift_15 (by decide) ?_
  refine lv_sipush (v := 360) hx hb dX11_lift_16 (by decide) ?_
  refine lv_iload_n hx hb dX11_lift_19 rfl (lv_at hl 2 rfl) ?_
  refine lv_imul hx hb dX11_lift_20 ?_
  refine lv_iconst (v := 1) hx hb dX11_lift_21 (by decide) ?_
  refine lv_isub hx hb dX11_lift_22 ?_
  obtain ⟨σ5, e6, hf⟩ := mbx_n hf
  refine mx_callS (As := [.int p1, .int (0 : Int32), .int (((360 : Int32) * p2) - (1 : Int32))]) (rest := []) hx hb hml hts hown hK hJ rfl rfl (c_X11_needRange l G P p1 (0 : Int32) (((360 : Int32) * p2) - (1 : Int32)) σ3 σ5 e6) me_X11_needRange kw_1005 kw_1004 (Nat.le_of_ble_eq_true rfl) (Nat.le_of_ble_eq_true rfl) rfl hl.1 rfl (Nat.le_of_ble_eq_true rfl) dX11_lift_23 (fun H locs hJ => ?_)
  refine lv_aload_n hx hb dX11_lift_26 rfl (lv_at hl 0 rfl) ?_
  obtain ⟨b7, e8, hf⟩ := mb0 hf
  refine my_gR hx hb hts hown hK hJ fd_RX11_64 hv_11_8 e8 dX11_lift_27 ?_
  obtain ⟨x9, e10, hf⟩ := mb0 hf
  refine my_gI hx hb hts hown hK hJ fd_RX11_272 hv_1_0 e10 dX11_lift_30 ?_
  refine lv_if_le (tgt := 40) hx hb dX11_lift_33 (by decide) (fun c11 => ?_) (fun c11 => ?_)
  · rw [if_pos c11] at hf
    refine lv_iconst (v := 0) hx hb dX11_lift_40 (by decide) ?_
    exact D41 a0 p1 p2 p3 (0 : Int32) σ5 hf _ _ hJ ls (lv_sub hl [0, 1, 2, 3] rfl)
  · rw [if_neg c11] at hf
    refine lv_iconst (v := 1) hx hb dX11_lift_36 (by decide) ?_
    refine lv_goto (tgt := 41) hx hb dX11_lift_37 (by decide) ?_
    exact D41 a0 p1 p2 p3 (1 : Int32) σ5 hf _ _ hJ ls (lv_sub hl [0, 1, 2, 3] rfl)
set_option maxHeartbeats 4000000 in
set_option maxRecDepth 100000 in
theorem ct_X11_lift (l : Launch) (hlt : l.stackTraces = false) (G : mx_G) (P : mx_P) (a0 : Nat) (p1 : Int32) (p2 : Int32) (p3 : Int32) (σ : mx_S) (E : String) (σ' : mx_S) (hf : f_X11_lift P a0 p1 p2 p3 σ = some (.inl (E, σ'))) : mxz σ ≤ mpc P → mxu σ ≤ mps P → mx_Mt l yX11_lift cX11_lift 4 (some .long) 7 184 G P [.ref a0, .int p1, .int p2, .int p3] σ E σ' := by
  intro hcap hcau
  refine mx_ofWt (by decide +kernel) hcap hcau (Nat.le_of_ble_eq_true rfl) ?_
  intro p e s m below meth c hx hb hr hml hts hown hlocks hname hnt hK hJ ls hl
  have hz0 := hJ.2.1
  have hown : s.vm.findClass RX11 = some m.cls := hown
  have hl : lv_has ls 4 [(0, .ref a0), (1, .int p1), (2, .int p2), (3, .int p3)] := hl
  have D74 : ∀ (v0 : Nat) (v3 : Int32) (w0 : Int32) (τ : mx_S), f_X11_lift_D74 P v0 v3 w0 τ = some (.inl (E, σ')) → ∀ (H : Heap) (locs : List Loc), mx_J G P s.heap (mxz σ) (mxu σ) τ H locs → ∀ ls : Array Slot, lv_has ls 4 [(0, .ref v0), (3, .int v3)] → W p l e (mx_rm P 7 184 σ) s m ([.ref a0, .int p1, .int p2, .int p3] : List Value).toArray below meth c H locs (mxz τ - mxz σ) (mxu τ - mxu σ) (mx_Zt below G P E σ σ' [.ref a0, .int p1, .int p2, .int p3] s) (F0 m 74 ls [.int w0]) := by
    intro v0 v3 w0 τ hf _ _ hJ ls hl
    unfold f_X11_lift_D74 at hf
    rcases mbx_t hf with e28 | ⟨σ27, e28, hf⟩
    · exact mx_callST (As := [.int w0]) (rest := []) hx hb hml hts hown hK hJ rfl rfl hnt hlocks (ct_X11_needLeave l hlt G P w0 τ E σ' e28) me_X11_needLeave kw_1289 kw_1288 (Nat.le_of_ble_eq_true rfl) (Nat.le_of_ble_eq_true rfl) rfl hl.1 rfl (Nat.le_of_ble_eq_true rfl) dX11_lift_74
    refine mx_callS (As := [.int w0]) (rest := []) hx hb hml hts hown hK hJ rfl rfl (c_X11_needLeave l G P w0 τ σ27 e28) me_X11_needLeave kw_1289 kw_1288 (Nat.le_of_ble_eq_true rfl) (Nat.le_of_ble_eq_true rfl) rfl hl.1 rfl (Nat.le_of_ble_eq_true rfl) dX11_lift_74 (fun H locs hJ => ?_)
    refine lv_aload_n hx hb dX11_lift_77 rfl (lv_at hl 0 rfl) ?_
    obtain ⟨b29, e30, hf⟩ := mb0 hf
    refine my_gR hx hb hts hown hK hJ fd_RX11_47 hv_11_5 e30 dX11_lift_78 ?_
    refine lv_iload_n hx hb dX11_lift_81 rfl (lv_at hl 1 rfl) ?_
    obtain ⟨i31, e32, hf⟩ := mb0 hf
    obtain ⟨x34, σ33, e35, hf⟩ := mc0 hf
    refine mx_callV (As := [.int v3]) (rest := []) hx hb hml hts hown hK hJ rfl rfl (ci := 3) rfl e32 (c_X3_number l G P b29 v3 σ27 x34 σ33 e35) me_X3_number kw_1489 kw_1490 kw_1488 (Nat.le_of_ble_eq_true rfl) (Nat.le_of_ble_eq_true rfl) rfl hl.1 rfl (Nat.le_of_ble_eq_true rfl) dX11_lift_82 (fun H locs hJ => ?_)
    cases hf
  have D41 : ∀ (v0 : Nat) (v1 : Int32) (v2 : Int32) (v3 : Int32) (w0 : Int32) (τ : mx_S), f_X11_lift_D41 P v0 v1 v2 v3 w0 τ = some (.inl (E, σ')) → ∀ (H : Heap) (locs : List Loc), mx_J G P s.heap (mxz σ) (mxu σ) τ H locs → ∀ ls : Array Slot, lv_has ls 4 [(0, .ref v0), (1, .int v1), (2, .int v2), (3, .int v3)] → W p l e (mx_rm P 7 184 σ) s m ([.ref a0, .int p1, .int p2, .int p3] : List Value).toArray below meth c H locs (mxz τ - mxz σ) (mxu τ - mxu σ) (mx_Zt below G P E σ σ' [.ref a0, .int p1, .int p2, .int p3] s) (F0 m 41 ls [.int w0]) := by
    intro v0 v1 v2 v3 w0 τ hf _ _ hJ ls hl
    unfold f_X11_lift_D41 at hf
    rcases mbx_t hf with e13 | ⟨σ12, e13, hf⟩
    · exact mx_callST (As := [.int w0]) (rest := []) hx hb hml hts hown hK hJ rfl rfl hnt hlocks (ct_X11_needPresence l hlt G P w0 τ E σ' e13) me_X11_needPresence kw_1243 kw_1242 (Nat.le_of_ble_eq_true rfl) (Nat.le_of_ble_eq_true rfl) rfl hl.1 rfl (Nat.le_of_ble_eq_true rfl) dX11_lift_41
    refine mx_callS (As := [.int w0]) (rest := []) hx hb hml hts hown hK hJ rfl rfl (c_X11_needPresence l G P w0 τ σ12 e13) me_X11_needPresence kw_1243 kw_1242 (Nat.le_of_ble_eq_true rfl) (Nat.le_of_ble_eq_true rfl) rfl hl.1 rfl (Nat.le_of_ble_eq_true rfl) dX11_lift_41 (fun H locs hJ => ?_)
    refine lv_aload_n hx hb dX11_lift_44 rfl (lv_at hl 0 rfl) ?_
    obtain ⟨b14, e15, hf⟩ := mb0 hf
    refine my_gR hx hb hts hown hK hJ fd_RX11_64 hv_11_8 e15 dX11_lift_45 ?_
    refine lv_iload_n hx hb dX11_lift_48 rfl (lv_at hl 1 rfl) ?_
    refine lv_i2l hx hb dX11_lift_49 rfl ?_
    refine lv_iload_n hx hb dX11_lift_50 rfl (lv_at hl 2 rfl) ?_
    refine lv_i2l hx hb dX11_lift_51 rfl ?_
    refine lv_aload_n hx hb dX11_lift_52 rfl (lv_at hl 0 rfl) ?_
    obtain ⟨b16, e17, hf⟩ := mb0 hf
    refine my_gR hx hb hts hown hK hJ fd_RX11_47 hv_11_5 e17 dX11_lift_53 ?_
    obtain ⟨i18, e19, hf⟩ := mb0 hf
    obtain ⟨σ20, e21, hf⟩ := mb0 hf
    refine mx_callV (As := [.long (v1.toInt64), .long (v2.toInt64), .ref b16]) (rest := []) hx hb hml hts hown hK hJ rfl rfl (ci := 1) rfl e19 (c_X1_reckonLift l G P b14 (v1.toInt64) (v2.toInt64) b16 σ12 σ20 e21) me_X1_reckonLift kw_1579 kw_1580 kw_1578 (Nat.le_of_ble_eq_true rfl) (Nat.le_of_ble_eq_true rfl) rfl hl.1 rfl (Nat.le_of_ble_eq_true rfl) dX11_lift_56 (fun H locs hJ => ?_)
    refine lv_aload_n hx hb dX11_lift_59 rfl (lv_at hl 0 rfl) ?_
    obtain ⟨b22, e23, hf⟩ := mb0 hf
    refine my_gR hx hb hts hown hK hJ fd_RX11_47 hv_11_5 e23 dX11_lift_60 ?_
    obtain ⟨x24, e25, hf⟩ := mb0 hf
    refine my_gI hx hb hts hown hK hJ fd_RX11_277 hv_3_2 e25 dX11_lift_63 ?_
    refine lv_if_ne (tgt := 73) hx hb dX11_lift_66 (by decide) (fun c26 => ?_) (fun c26 => ?_)
    · rw [if_neg c26] at hf
      refine lv_iconst (v := 0) hx hb dX11_lift_73 (by decide) ?_
      exact D74 v0 v3 (0 : Int32) σ20 hf _ _ hJ ls (lv_sub hl [0, 3] rfl)
    · rw [if_pos c26] at hf
      refine lv_iconst (v := 1) hx hb dX11_lift_69 (by decide) ?_
      refine lv_goto (tgt := 74) hx hb dX11_lift_70 (by decide) ?_
      exact D74 v0 v3 (1 : Int32) σ20 hf _ _ hJ ls (lv_sub hl [0, 3] rfl)
  unfold f_X11_lift at hf
  refine lv_iload_n hx hb dX11_lift_0 rfl (lv_at hl 3 rfl) ?_
  refine lv_iconst (v := 0) hx hb dX11_lift_1 (by decide) ?_
  refine lv_iconst (v := 1) hx hb dX11_lift_2 (by decide) ?_
  rcases mbx_t hf with e2 | ⟨σ1, e2, hf⟩
  · exact mx_callST (As := [.int p3, .int (0 : Int32), .int (1 : Int32)]) (rest := []) hx hb hml hts hown hK hJ rfl rfl hnt hlocks (ct_X11_needRange l hlt G P p3 (0 : Int32) (1 : Int32) σ E σ' e2) me_X11_needRange kw_1005 kw_1004 (Nat.le_of_ble_eq_true rfl) (Nat.le_of_ble_eq_true rfl) rfl hl.1 rfl (Nat.le_of_ble_eq_true rfl) dX11_lift_3
  refine mx_callS (As := [.int p3, .int (0 : Int32), .int (1 : Int32)]) (rest := []) hx hb hml hts hown hK hJ rfl rfl (c_X11_needRange l G P p3 (0 : Int32) (1 : Int32) σ σ1 e2) me_X11_needRange kw_1005 kw_1004 (Nat.le_of_ble_eq_true rfl) (Nat.le_of_ble_eq_true rfl) rfl hl.1 rfl (Nat.le_of_ble_eq_true rfl) dX11_lift_3 (fun H locs hJ => ?_)
  refine lv_iload_n hx hb dX11_lift_6 rfl (lv_at hl 2 rfl) ?_
  refine lv_iconst (v := 1) hx hb dX11_lift_7 (by decide) ?_
  refine lv_sipush (v := 1000) hx hb dX11_lift_8 (by decide) ?_
  rcases mbx_t hf with e4 | ⟨σ3, e4, hf⟩
  · exact mx_callST (As := [.int p2, .int (1 : Int32), .int (1000 : Int32)]) (rest := []) hx hb hml hts hown hK hJ rfl rfl hnt hlocks (ct_X11_needRange l hlt G P p2 (1 : Int32) (1000 : Int32) σ1 E σ' e4) me_X11_needRange kw_1005 kw_1004 (Nat.le_of_ble_eq_true rfl) (Nat.le_of_ble_eq_true rfl) rfl hl.1 rfl (Nat.le_of_ble_eq_true rfl) dX11_lift_11
  refine mx_callS (As := [.int p2, .int (1 : Int32), .int (1000 : Int32)]) (rest := []) hx hb hml hts hown hK hJ rfl rfl (c_X11_needRange l G P p2 (1 : Int32) (1000 : Int32) σ1 σ3 e4) me_X11_needRange kw_1005 kw_1004 (Nat.le_of_ble_eq_true rfl) (Nat.le_of_ble_eq_true rfl) rfl hl.1 rfl (Nat.le_of_ble_eq_true rfl) dX11_lift_11 (fun H locs hJ => ?_)
  refine lv_iload_n hx hb dX11_lift_14 rfl (lv_at hl 1 rfl) ?_
  refine lv_iconst (v := 0) hx hb dX11_lift_15 (by decide) ?_
  refine lv_sipush (v := 360) hx hb dX11_lift_16 (by decide) ?_
  refine lv_iload_n hx hb dX11_lift_19 rfl (lv_at hl 2 rfl) ?_
  refine lv_imul hx hb dX11_lift_20 ?_
  refine lv_iconst (v := 1) hx hb dX11_lift_21 (by decide) ?_
  refine lv_isub hx hb dX11_lift_22 ?_
  rcases mbx_t hf with e6 | ⟨σ5, e6, hf⟩
  · exact mx_callST (As := [.int p1, .int (0 : Int32), .int (((360 : Int32) * p2) - (1 : Int32))]) (rest := []) hx hb hml hts hown hK hJ rfl rfl hnt hlocks (ct_X11_needRange l hlt G P p1 (0 : Int32) (((360 : Int32) * p2) - (1 : Int32)) σ3 E σ' e6) me_X11_needRange kw_1005 kw_1004 (Nat.le_of_ble_eq_true rfl) (Nat.le_of_ble_eq_true rfl) rfl hl.1 rfl (Nat.le_of_ble_eq_true rfl) dX11_lift_23
  refine mx_callS (As := [.int p1, .int (0 : Int32), .int (((360 : Int32) * p2) - (1 : Int32))]) (rest := []) hx hb hml hts hown hK hJ rfl rfl (c_X11_needRange l G P p1 (0 : Int32) (((360 : Int32) * p2) - (1 : Int32)) σ3 σ5 e6) me_X11_needRange kw_1005 kw_1004 (Nat.le_of_ble_eq_true rfl) (Nat.le_of_ble_eq_true rfl) rfl hl.1 rfl (Nat.le_of_ble_eq_true rfl) dX11_lift_23 (fun H locs hJ => ?_)
  refine lv_aload_n hx hb dX11_lift_26 rfl (lv_at hl 0 rfl) ?_
  obtain ⟨b7, e8, hf⟩ := mb0 hf
  refine my_gR hx hb hts hown hK hJ fd_RX11_64 hv_11_8 e8 dX11_lift_27 ?_
  obtain ⟨x9, e10, hf⟩ := mb0 hf
  refine my_gI hx hb hts hown hK hJ fd_RX11_272 hv_1_0 e10 dX11_lift_30 ?_
  refine lv_if_le (tgt := 40) hx hb dX11_lift_33 (by decide) (fun c11 => ?_) (fun c11 => ?_)
  · rw [if_pos c11] at hf
    refine lv_iconst (v := 0) hx hb dX11_lift_40 (by decide) ?_
    exact D41 a0 p1 p2 p3 (0 : Int32) σ5 hf _ _ hJ ls (lv_sub hl [0, 1, 2, 3] rfl)
  · rw [if_neg c11] at hf
    refine lv_iconst (v := 1) hx hb dX11_lift_36 (by decide) ?_
    refine lv_goto (tgt := 41) hx hb dX11_lift_37 (by decide) ?_
    exact D41 a0 p1 p2 p3 (1 : Int32) σ5 hf _ _ hJ ls (lv_sub hl [0, 1, 2, 3] rfl)
set_option maxHeartbeats 4000000 in
set_option maxRecDepth 100000 in
theorem c_X11_camAbout (l : Launch) (G : mx_G) (P : mx_P) (a0 : Nat) (p1 : Int32) (σ : mx_S) (r : Int64) (σ' : mx_S) (hf : f_X11_camAbout P a0 p1 σ = some (.inr (r, σ'))) : mxz σ ≤ mpc P → mxu σ ≤ mps P → mx_M l yX11_camAbout cX11_camAbout 2 (some .long) 7 123 G P [.ref a0, .int p1] σ (some (.long r)) σ' := by
  intro hcap hcau
  refine mx_ofW (by decide +kernel) hcap hcau (Nat.le_of_ble_eq_true rfl) ?_
  intro p e s m below meth c hx hb hr hml hts hown hlocks hname hK hJ ls hl
  have hz0 := hJ.2.1
  have hown : s.vm.findClass RX11 = some m.cls := hown
  have hl : lv_has ls 2 [(0, .ref a0), (1, .int p1)] := hl
  have D21 : ∀ (v0 : Nat) (v1 : Int32) (w0 : Int32) (τ : mx_S), f_X11_camAbout_D21 P v0 v1 w0 τ = some (.inr (r, σ')) → ∀ (H : Heap) (locs : List Loc), mx_J G P s.heap (mxz σ) (mxu σ) τ H locs → ∀ ls : Array Slot, lv_has ls 2 [(0, .ref v0), (1, .int v1)] → W p l e (mx_rm P 7 123 σ) s m ([.ref a0, .int p1] : List Value).toArray below meth c H locs (mxz τ - mxz σ) (mxu τ - mxu σ) (mx_Z below G P (some (.long r)) σ σ' [.ref a0, .int p1] s) (F0 m 21 ls [.int w0]) := by
    intro v0 v1 w0 τ hf _ _ hJ ls hl
    unfold f_X11_camAbout_D21 at hf
    obtain ⟨σ8, e9, hf⟩ := mbx_n hf
    refine mx_callS (As := [.int w0]) (rest := []) hx hb hml hts hown hK hJ rfl rfl (c_X11_needPresence l G P w0 τ σ8 e9) me_X11_needPresence kw_1243 kw_1242 (Nat.le_of_ble_eq_true rfl) (Nat.le_of_ble_eq_true rfl) rfl hl.1 rfl (Nat.le_of_ble_eq_true rfl) dX11_camAbout_21 (fun H locs hJ => ?_)
    refine lv_iload_n hx hb dX11_camAbout_24 rfl (lv_at hl 1 rfl) ?_
    refine lv_if_ne (tgt := 37) hx hb dX11_camAbout_25 (by decide) (fun c10 => ?_) (fun c10 => ?_)
    · rw [if_neg c10] at hf
      refine lv_iload_n hx hb dX11_camAbout_37 rfl (lv_at hl 1 rfl) ?_
      refine lv_iconst (v := 3) hx hb dX11_camAbout_38 (by decide) ?_
      refine lv_icmp_ne (tgt := 51) hx hb dX11_camAbout_39 (by decide) (fun c11 => ?_) (fun c11 => ?_)
      · rw [if_neg c11] at hf
        refine lv_aload_n hx hb dX11_camAbout_51 rfl (lv_at hl 0 rfl) ?_
        obtain ⟨b12, e13, hf⟩ := mb0 hf
        refine my_gR hx hb hts hown hK hJ fd_RX11_64 hv_11_8 e13 dX11_camAbout_52 ?_
        refine lv_aload_n hx hb dX11_camAbout_55 rfl (lv_at hl 0 rfl) ?_
        obtain ⟨b14, e15, hf⟩ := mb0 hf
        refine my_gR hx hb hts hown hK hJ fd_RX11_47 hv_11_5 e15 dX11_camAbout_56 ?_
        obtain ⟨i16, e17, hf⟩ := mb0 hf
        obtain ⟨σ18, e19, hf⟩ := mb0 hf
        refine mx_callV (As := [.ref b14]) (rest := []) hx hb hml hts hown hK hJ rfl rfl (ci := 1) rfl e17 (c_X1_findSteepest l G P b12 b14 σ8 σ18 e19) me_X1_findSteepest kw_1624 kw_1625 kw_1623 (Nat.le_of_ble_eq_true rfl) (Nat.le_of_ble_eq_true rfl) rfl hl.1 rfl (Nat.le_of_ble_eq_true rfl) dX11_camAbout_59 (fun H locs hJ => ?_)
        refine lv_aload_n hx hb dX11_camAbout_62 rfl (lv_at hl 0 rfl) ?_
        obtain ⟨b20, e21, hf⟩ := mb0 hf
        refine my_gR hx hb hts hown hK hJ fd_RX11_47 hv_11_5 e21 dX11_camAbout_63 ?_
        refine lv_iload_n hx hb dX11_camAbout_66 rfl (lv_at hl 1 rfl) ?_
        refine lv_iconst (v := 1) hx hb dX11_camAbout_67 (by decide) ?_
        refine lv_isub hx hb dX11_camAbout_68 ?_
        obtain ⟨i22, e23, hf⟩ := mb0 hf
        obtain ⟨x25, σ24, e26, hf⟩ := mc0 hf
        refine mx_callV (As := [.int (v1 - (1 : Int32))]) (rest := []) hx hb hml hts hown hK hJ rfl rfl (ci := 3) rfl e23 (c_X3_number l G P b20 (v1 - (1 : Int32)) σ18 x25 σ24 e26) me_X3_number kw_1489 kw_1490 kw_1488 (Nat.le_of_ble_eq_true rfl) (Nat.le_of_ble_eq_true rfl) rfl hl.1 rfl (Nat.le_of_ble_eq_true rfl) dX11_camAbout_69 (fun H locs hJ => ?_)
        exact my_lret hx hb hr hlocks hJ (mx_inr hf) dX11_camAbout_72
      · rw [if_pos c11] at hf
        refine lv_aload_n hx hb dX11_camAbout_42 rfl (lv_at hl 0 rfl) ?_
        obtain ⟨b27, e28, hf⟩ := mb0 hf
        refine my_gR hx hb hts hown hK hJ fd_RX11_64 hv_11_8 e28 dX11_camAbout_43 ?_
        obtain ⟨x29, e30, hf⟩ := mb0 hf
        refine my_gI hx hb hts hown hK hJ fd_RX11_272 hv_1_0 e30 dX11_camAbout_46 ?_
        refine lv_i2l hx hb dX11_camAbout_49 rfl ?_
        exact my_lret hx hb hr hlocks hJ (mx_inr hf) dX11_camAbout_50
    · rw [if_pos c10] at hf
      refine lv_aload_n hx hb dX11_camAbout_28 rfl (lv_at hl 0 rfl) ?_
      obtain ⟨b31, e32, hf⟩ := mb0 hf
      refine my_gR hx hb hts hown hK hJ fd_RX11_64 hv_11_8 e32 dX11_camAbout_29 ?_
      obtain ⟨i33, e34, hf⟩ := mb0 hf
      obtain ⟨x36, σ35, e37, hf⟩ := mc0 hf
      refine mx_callV (As := []) (rest := []) hx hb hml hts hown hK hJ rfl rfl (ci := 1) rfl e34 (c_X1_smoothness l G P b31 σ8 x36 σ35 e37) me_X1_smoothness kw_1620 kw_1621 kw_1619 (Nat.le_of_ble_eq_true rfl) (Nat.le_of_ble_eq_true rfl) rfl hl.1 rfl (Nat.le_of_ble_eq_true rfl) dX11_camAbout_32 (fun H locs hJ => ?_)
      refine lv_i2l hx hb dX11_camAbout_35 rfl ?_
      exact my_lret hx hb hr hlocks hJ (mx_inr hf) dX11_camAbout_36
  unfold f_X11_camAbout at hf
  refine lv_iload_n hx hb dX11_camAbout_0 rfl (lv_at hl 1 rfl) ?_
  refine lv_iconst (v := 0) hx hb dX11_camAbout_1 (by decide) ?_
  refine lv_iconst (v := 3) hx hb dX11_camAbout_2 (by decide) ?_
  obtain ⟨σ1, e2, hf⟩ := mbx_n hf
  refine mx_callS (As := [.int p1, .int (0 : Int32), .int (3 : Int32)]) (rest := []) hx hb hml hts hown hK hJ rfl rfl (c_X11_needRange l G P p1 (0 : Int32) (3 : Int32) σ σ1 e2) me_X11_needRange kw_1005 kw_1004 (Nat.le_of_ble_eq_true rfl) (Nat.le_of_ble_eq_true rfl) rfl hl.1 rfl (Nat.le_of_ble_eq_true rfl) dX11_camAbout_3 (fun H locs hJ => ?_)
  refine lv_aload_n hx hb dX11_camAbout_6 rfl (lv_at hl 0 rfl) ?_
  obtain ⟨b3, e4, hf⟩ := mb0 hf
  refine my_gR hx hb hts hown hK hJ fd_RX11_64 hv_11_8 e4 dX11_camAbout_7 ?_
  obtain ⟨x5, e6, hf⟩ := mb0 hf
  refine my_gI hx hb hts hown hK hJ fd_RX11_272 hv_1_0 e6 dX11_camAbout_10 ?_
  refine lv_if_le (tgt := 20) hx hb dX11_camAbout_13 (by decide) (fun c7 => ?_) (fun c7 => ?_)
  · rw [if_pos c7] at hf
    refine lv_iconst (v := 0) hx hb dX11_camAbout_20 (by decide) ?_
    exact D21 a0 p1 (0 : Int32) σ1 hf _ _ hJ ls (lv_sub hl [0, 1] rfl)
  · rw [if_neg c7] at hf
    refine lv_iconst (v := 1) hx hb dX11_camAbout_16 (by decide) ?_
    refine lv_goto (tgt := 21) hx hb dX11_camAbout_17 (by decide) ?_
    exact D21 a0 p1 (1 : Int32) σ1 hf _ _ hJ ls (lv_sub hl [0, 1] rfl)
set_option maxHeartbeats 4000000 in
set_option maxRecDepth 100000 in
theorem ct_X11_camAbout (l : Launch) (hlt : l.stackTraces = false) (G : mx_G) (P : mx_P) (a0 : Nat) (p1 : Int32) (σ : mx_S) (E : String) (σ' : mx_S) (hf : f_X11_camAbout P a0 p1 σ = some (.inl (E, σ'))) : mxz σ ≤ mpc P → mxu σ ≤ mps P → mx_Mt l yX11_camAbout cX11_camAbout 2 (some .long) 7 123 G P [.ref a0, .int p1] σ E σ' := by
  intro hcap hcau
  refine mx_ofWt (by decide +kernel) hcap hcau (Nat.le_of_ble_eq_true rfl) ?_
  intro p e s m below meth c hx hb hr hml hts hown hlocks hname hnt hK hJ ls hl
  have hz0 := hJ.2.1
  have hown : s.vm.findClass RX11 = some m.cls := hown
  have hl : lv_has ls 2 [(0, .ref a0), (1, .int p1)] := hl
  have D21 : ∀ (v0 : Nat) (v1 : Int32) (w0 : Int32) (τ : mx_S), f_X11_camAbout_D21 P v0 v1 w0 τ = some (.inl (E, σ')) → ∀ (H : Heap) (locs : List Loc), mx_J G P s.heap (mxz σ) (mxu σ) τ H locs → ∀ ls : Array Slot, lv_has ls 2 [(0, .ref v0), (1, .int v1)] → W p l e (mx_rm P 7 123 σ) s m ([.ref a0, .int p1] : List Value).toArray below meth c H locs (mxz τ - mxz σ) (mxu τ - mxu σ) (mx_Zt below G P E σ σ' [.ref a0, .int p1] s) (F0 m 21 ls [.int w0]) := by
    intro v0 v1 w0 τ hf _ _ hJ ls hl
    unfold f_X11_camAbout_D21 at hf
    rcases mbx_t hf with e9 | ⟨σ8, e9, hf⟩
    · exact mx_callST (As := [.int w0]) (rest := []) hx hb hml hts hown hK hJ rfl rfl hnt hlocks (ct_X11_needPresence l hlt G P w0 τ E σ' e9) me_X11_needPresence kw_1243 kw_1242 (Nat.le_of_ble_eq_true rfl) (Nat.le_of_ble_eq_true rfl) rfl hl.1 rfl (Nat.le_of_ble_eq_true rfl) dX11_camAbout_21
    refine mx_callS (As := [.int w0]) (rest := []) hx hb hml hts hown hK hJ rfl rfl (c_X11_needPresence l G P w0 τ σ8 e9) me_X11_needPresence kw_1243 kw_1242 (Nat.le_of_ble_eq_true rfl) (Nat.le_of_ble_eq_true rfl) rfl hl.1 rfl (Nat.le_of_ble_eq_true rfl) dX11_camAbout_21 (fun H locs hJ => ?_)
    refine lv_iload_n hx hb dX11_camAbout_24 rfl (lv_at hl 1 rfl) ?_
    refine lv_if_ne (tgt := 37) hx hb dX11_camAbout_25 (by decide) (fun c10 => ?_) (fun c10 => ?_)
    · rw [if_neg c10] at hf
      refine lv_iload_n hx hb dX11_camAbout_37 rfl (lv_at hl 1 rfl) ?_
      refine lv_iconst (v := 3) hx hb dX11_camAbout_38 (by decide) ?_
      refine lv_icmp_ne (tgt := 51) hx hb dX11_camAbout_39 (by decide) (fun c11 => ?_) (fun c11 => ?_)
      · rw [if_neg c11] at hf
        refine lv_aload_n hx hb dX11_camAbout_51 rfl (lv_at hl 0 rfl) ?_
        obtain ⟨b12, e13, hf⟩ := mb0 hf
        refine my_gR hx hb hts hown hK hJ fd_RX11_64 hv_11_8 e13 dX11_camAbout_52 ?_
        refine lv_aload_n hx hb dX11_camAbout_55 rfl (lv_at hl 0 rfl) ?_
        obtain ⟨b14, e15, hf⟩ := mb0 hf
        refine my_gR hx hb hts hown hK hJ fd_RX11_47 hv_11_5 e15 dX11_camAbout_56 ?_
        obtain ⟨i16, e17, hf⟩ := mb0 hf
        obtain ⟨σ18, e19, hf⟩ := mb0 hf
        refine mx_callV (As := [.ref b14]) (rest := []) hx hb hml hts hown hK hJ rfl rfl (ci := 1) rfl e17 (c_X1_findSteepest l G P b12 b14 σ8 σ18 e19) me_X1_findSteepest kw_1624 kw_1625 kw_1623 (Nat.le_of_ble_eq_true rfl) (Nat.le_of_ble_eq_true rfl) rfl hl.1 rfl (Nat.le_of_ble_eq_true rfl) dX11_camAbout_59 (fun H locs hJ => ?_)
        refine lv_aload_n hx hb dX11_camAbout_62 rfl (lv_at hl 0 rfl) ?_
        obtain ⟨b20, e21, hf⟩ := mb0 hf
        refine my_gR hx hb hts hown hK hJ fd_RX11_47 hv_11_5 e21 dX11_camAbout_63 ?_
        refine lv_iload_n hx hb dX11_camAbout_66 rfl (lv_at hl 1 rfl) ?_
        refine lv_iconst (v := 1) hx hb dX11_camAbout_67 (by decide) ?_
        refine lv_isub hx hb dX11_camAbout_68 ?_
        obtain ⟨i22, e23, hf⟩ := mb0 hf
        obtain ⟨x25, σ24, e26, hf⟩ := mc0 hf
        refine mx_callV (As := [.int (v1 - (1 : Int32))]) (rest := []) hx hb hml hts hown hK hJ rfl rfl (ci := 3) rfl e23 (c_X3_number l G P b20 (v1 - (1 : Int32)) σ18 x25 σ24 e26) me_X3_number kw_1489 kw_1490 kw_1488 (Nat.le_of_ble_eq_true rfl) (Nat.le_of_ble_eq_true rfl) rfl hl.1 rfl (Nat.le_of_ble_eq_true rfl) dX11_camAbout_69 (fun H locs hJ => ?_)
        cases hf
      · rw [if_pos c11] at hf
        refine lv_aload_n hx hb dX11_camAbout_42 rfl (lv_at hl 0 rfl) ?_
        obtain ⟨b27, e28, hf⟩ := mb0 hf
        refine my_gR hx hb hts hown hK hJ fd_RX11_64 hv_11_8 e28 dX11_camAbout_43 ?_
        obtain ⟨x29, e30, hf⟩ := mb0 hf
        refine my_gI hx hb hts hown hK hJ fd_RX11_272 hv_1_0 e30 dX11_camAbout_46 ?_
        refine lv_i2l hx hb dX11_camAbout_49 rfl ?_
        cases hf
    · rw [if_pos c10] at hf
      refine lv_aload_n hx hb dX11_camAbout_28 rfl (lv_at hl 0 rfl) ?_
      obtain ⟨b31, e32, hf⟩ := mb0 hf
      refine my_gR hx hb hts hown hK hJ fd_RX11_64 hv_11_8 e32 dX11_camAbout_29 ?_
      obtain ⟨i33, e34, hf⟩ := mb0 hf
      obtain ⟨x36, σ35, e37, hf⟩ := mc0 hf
      refine mx_callV (As := []) (rest := []) hx hb hml hts hown hK hJ rfl rfl (ci := 1) rfl e34 (c_X1_smoothness l G P b31 σ8 x36 σ35 e37) me_X1_smoothness kw_1620 kw_1621 kw_1619 (Nat.le_of_ble_eq_true rfl) (Nat.le_of_ble_eq_true rfl) rfl hl.1 rfl (Nat.le_of_ble_eq_true rfl) dX11_camAbout_32 (fun H locs hJ => ?_)
      refine lv_i2l hx hb dX11_camAbout_35 rfl ?_
      cases hf
  unfold f_X11_camAbout at hf
  refine lv_iload_n hx hb dX11_camAbout_0 rfl (lv_at hl 1 rfl) ?_
  refine lv_iconst (v := 0) hx hb dX11_camAbout_1 (by decide) ?_
  refine lv_iconst (v := 3) hx hb dX11_camAbout_2 (by decide) ?_
  rcases mbx_t hf with e2 | ⟨σ1, e2, hf⟩
  · exact mx_callST (As := [.int p1, .int (0 : Int32), .int (3 : Int32)]) (rest := []) hx hb hml hts hown hK hJ rfl rfl hnt hlocks (ct_X11_needRange l hlt G P p1 (0 : Int32) (3 : Int32) σ E σ' e2) me_X11_needRange kw_1005 kw_1004 (Nat.le_of_ble_eq_true rfl) (Nat.le_of_ble_eq_true rfl) rfl hl.1 rfl (Nat.le_of_ble_eq_true rfl) dX11_camAbout_3
  refine mx_callS (As := [.int p1, .int (0 : Int32), .int (3 : Int32)]) (rest := []) hx hb hml hts hown hK hJ rfl rfl (c_X11_needRange l G P p1 (0 : Int32) (3 : Int32) σ σ1 e2) me_X11_needRange kw_1005 kw_1004 (Nat.le_of_ble_eq_true rfl) (Nat.le_of_ble_eq_true rfl) rfl hl.1 rfl (Nat.le_of_ble_eq_true rfl) dX11_camAbout_3 (fun H locs hJ => ?_)
  refine lv_aload_n hx hb dX11_camAbout_6 rfl (lv_at hl 0 rfl) ?_
  obtain ⟨b3, e4, hf⟩ := mb0 hf
  refine my_gR hx hb hts hown hK hJ fd_RX11_64 hv_11_8 e4 dX11_camAbout_7 ?_
  obtain ⟨x5, e6, hf⟩ := mb0 hf
  refine my_gI hx hb hts hown hK hJ fd_RX11_272 hv_1_0 e6 dX11_camAbout_10 ?_
  refine lv_if_le (tgt := 20) hx hb dX11_camAbout_13 (by decide) (fun c7 => ?_) (fun c7 => ?_)
  · rw [if_pos c7] at hf
    refine lv_iconst (v := 0) hx hb dX11_camAbout_20 (by decide) ?_
    exact D21 a0 p1 (0 : Int32) σ1 hf _ _ hJ ls (lv_sub hl [0, 1] rfl)
  · rw [if_neg c7] at hf
    refine lv_iconst (v := 1) hx hb dX11_camAbout_16 (by decide) ?_
    refine lv_goto (tgt := 21) hx hb dX11_camAbout_17 (by decide) ?_
    exact D21 a0 p1 (1 : Int32) σ1 hf _ _ hJ ls (lv_sub hl [0, 1] rfl)
set_option maxHeartbeats 4000000 in
set_option maxRecDepth 100000 in
theorem c_X11_corner (l : Launch) (G : mx_G) (P : mx_P) (a0 : Nat) (p1 : Int32) (p2 : Int32) (p3 : Int32) (σ : mx_S) (r : Int32) (σ' : mx_S) (hf : f_X11_corner P a0 p1 p2 p3 σ = some (.inr (r, σ'))) : mxz σ ≤ mpc P → mxu σ ≤ mps P → mx_M l yX11_corner cX11_corner 4 (some .int) 7 103 G P [.ref a0, .int p1, .int p2, .int p3] σ (some (.int r)) σ' := by
  intro hcap hcau
  refine mx_ofW (by decide +kernel) hcap hcau (Nat.le_of_ble_eq_true rfl) ?_
  intro p e s m below meth c hx hb hr hml hts hown hlocks hname hK hJ ls hl
  have hz0 := hJ.2.1
  have hown : s.vm.findClass RX11 = some m.cls := hown
  have hl : lv_has ls 4 [(0, .ref a0), (1, .int p1), (2, .int p2), (3, .int p3)] := hl
  have D46 : ∀ (v0 : Nat) (v1 : Int32) (v2 : Int32) (v3 : Int32) (w0 : Int32) (τ : mx_S), f_X11_corner_D46 P v0 v1 v2 v3 w0 τ = some (.inr (r, σ')) → ∀ (H : Heap) (locs : List Loc), mx_J G P s.heap (mxz σ) (mxu σ) τ H locs → ∀ ls : Array Slot, lv_has ls 4 [(0, .ref v0), (1, .int v1), (2, .int v2), (3, .int v3)] → W p l e (mx_rm P 7 103 σ) s m ([.ref a0, .int p1, .int p2, .int p3] : List Value).toArray below meth c H locs (mxz τ - mxz σ) (mxu τ - mxu σ) (mx_Z below G P (some (.int r)) σ σ' [.ref a0, .int p1, .int p2, .int p3] s) (F0 m 46 ls [.int w0]) := by
    intro v0 v1 v2 v3 w0 τ hf _ _ hJ ls hl
    unfold f_X11_corner_D46 at hf
    obtain ⟨σ14, e15, hf⟩ := mbx_n hf
    refine mx_callS (As := [.int w0]) (rest := []) hx hb hml hts hown hK hJ rfl rfl (c_X11_needRoom l G P w0 τ σ14 e15) me_X11_needRoom kw_1449 kw_1448 (Nat.le_of_ble_eq_true rfl) (Nat.le_of_ble_eq_true rfl) rfl hl.1 rfl (Nat.le_of_ble_eq_true rfl) dX11_corner_46 (fun H locs hJ => ?_)
    refine lv_aload_n hx hb dX11_corner_49 rfl (lv_at hl 0 rfl) ?_
    obtain ⟨b16, e17, hf⟩ := mb0 hf
    refine my_gR hx hb hts hown hK hJ fd_RX11_25 hv_11_2 e17 dX11_corner_50 ?_
    refine lv_iload_n hx hb dX11_corner_53 rfl (lv_at hl 1 rfl) ?_
    obtain ⟨b18, e19, hf⟩ := mb0 hf
    refine mx_aR hx hb hK hJ (t := 6) rfl (fun _ _ _ => rfl) e19 dX11_corner_54 ?_
    refine lv_iload_n hx hb dX11_corner_55 rfl (lv_at hl 2 rfl) ?_
    refine lv_iload_n hx hb dX11_corner_56 rfl (lv_at hl 3 rfl) ?_
    obtain ⟨i20, e21, hf⟩ := mb0 hf
    obtain ⟨x23, σ22, e24, hf⟩ := mc0 hf
    refine mx_callV (As := [.int v2, .int v3]) (rest := []) hx hb hml hts hown hK hJ rfl rfl (ci := 9) rfl e21 (c_X9_addCorner l G P b18 v2 v3 σ14 x23 σ22 e24) me_X9_addCorner kw_1643 kw_1644 kw_1642 (Nat.le_of_ble_eq_true rfl) (Nat.le_of_ble_eq_true rfl) rfl hl.1 rfl (Nat.le_of_ble_eq_true rfl) dX11_corner_57 (fun H locs hJ => ?_)
    exact my_iret hx hb hr hlocks hJ (mx_inr hf) dX11_corner_60
  unfold f_X11_corner at hf
  refine lv_iload_n hx hb dX11_corner_0 rfl (lv_at hl 1 rfl) ?_
  refine lv_iconst (v := 0) hx hb dX11_corner_1 (by decide) ?_
  refine lv_bipush (v := 7) hx hb dX11_corner_2 (by decide) ?_
  obtain ⟨σ1, e2, hf⟩ := mbx_n hf
  refine mx_callS (As := [.int p1, .int (0 : Int32), .int (7 : Int32)]) (rest := []) hx hb hml hts hown hK hJ rfl rfl (c_X11_needRange l G P p1 (0 : Int32) (7 : Int32) σ σ1 e2) me_X11_needRange kw_1005 kw_1004 (Nat.le_of_ble_eq_true rfl) (Nat.le_of_ble_eq_true rfl) rfl hl.1 rfl (Nat.le_of_ble_eq_true rfl) dX11_corner_4 (fun H locs hJ => ?_)
  refine lv_iload_n hx hb dX11_corner_7 rfl (lv_at hl 2 rfl) ?_
  refine lv_sipush (v := (-1000)) hx hb dX11_corner_8 (by decide) ?_
  refine lv_sipush (v := 1000) hx hb dX11_corner_11 (by decide) ?_
  obtain ⟨σ3, e4, hf⟩ := mbx_n hf
  refine mx_callS (As := [.int p2, .int (-1000 : Int32), .int (1000 : Int32)]) (rest := []) hx hb hml hts hown hK hJ rfl rfl (c_X11_needRange l G P p2 (-1000 : Int32) (1000 : Int32) σ1 σ3 e4) me_X11_needRange kw_1005 kw_1004 (Nat.le_of_ble_eq_true rfl) (Nat.le_of_ble_eq_true rfl) rfl hl.1 rfl (Nat.le_of_ble_eq_true rfl) dX11_corner_14 (fun H locs hJ => ?_)
  refine lv_iload_n hx hb dX11_corner_17 rfl (lv_at hl 3 rfl) ?_
  refine lv_sipush (v := (-1000)) hx hb dX11_corner_18 (by decide) ?_
  refine lv_sipush (v := 1000) hx hb dX11_corner_21 (by decide) ?_
  obtain ⟨σ5, e6, hf⟩ := mbx_n hf
  refine mx_callS (As := [.int p3, .int (-1000 : Int32), .int (1000 : Int32)]) (rest := []) hx hb hml hts hown hK hJ rfl rfl (c_X11_needRange l G P p3 (-1000 : Int32) (1000 : Int32) σ3 σ5 e6) me_X11_needRange kw_1005 kw_1004 (Nat.le_of_ble_eq_true rfl) (Nat.le_of_ble_eq_true rfl) rfl hl.1 rfl (Nat.le_of_ble_eq_true rfl) dX11_corner_24 (fun H locs hJ => ?_)
  refine lv_aload_n hx hb dX11_corner_27 rfl (lv_at hl 0 rfl) ?_
  obtain ⟨b7, e8, hf⟩ := mb0 hf
  refine my_gR hx hb hts hown hK hJ fd_RX11_25 hv_11_2 e8 dX11_corner_28 ?_
  refine lv_iload_n hx hb dX11_corner_31 rfl (lv_at hl 1 rfl) ?_
  obtain ⟨b9, e10, hf⟩ := mb0 hf
  refine mx_aR hx hb hK hJ (t := 6) rfl (fun _ _ _ => rfl) e10 dX11_corner_32 ?_
  obtain ⟨x11, e12, hf⟩ := mb0 hf
  refine my_gI hx hb hts hown hK hJ fd_RX11_287 hv_9_0 e12 dX11_corner_33 ?_
  refine lv_bipush (v := 24) hx hb dX11_corner_36 (by decide) ?_
  refine lv_icmp_ge (tgt := 45) hx hb dX11_corner_38 (by decide) (fun c13 => ?_) (fun c13 => ?_)
  · rw [if_pos c13] at hf
    refine lv_iconst (v := 0) hx hb dX11_corner_45 (by decide) ?_
    exact D46 a0 p1 p2 p3 (0 : Int32) σ5 hf _ _ hJ ls (lv_sub hl [0, 1, 2, 3] rfl)
  · rw [if_neg c13] at hf
    refine lv_iconst (v := 1) hx hb dX11_corner_41 (by decide) ?_
    refine lv_goto (tgt := 46) hx hb dX11_corner_42 (by decide) ?_
    exact D46 a0 p1 p2 p3 (1 : Int32) σ5 hf _ _ hJ ls (lv_sub hl [0, 1, 2, 3] rfl)
set_option maxHeartbeats 4000000 in
set_option maxRecDepth 100000 in
theorem ct_X11_corner (l : Launch) (hlt : l.stackTraces = false) (G : mx_G) (P : mx_P) (a0 : Nat) (p1 : Int32) (p2 : Int32) (p3 : Int32) (σ : mx_S) (E : String) (σ' : mx_S) (hf : f_X11_corner P a0 p1 p2 p3 σ = some (.inl (E, σ'))) : mxz σ ≤ mpc P → mxu σ ≤ mps P → mx_Mt l yX11_corner cX11_corner 4 (some .int) 7 103 G P [.ref a0, .int p1, .int p2, .int p3] σ E σ' := by
  intro hcap hcau
  refine mx_ofWt (by decide +kernel) hcap hcau (Nat.le_of_ble_eq_true rfl) ?_
  intro p e s m below meth c hx hb hr hml hts hown hlocks hname hnt hK hJ ls hl
  have hz0 := hJ.2.1
  have hown : s.vm.findClass RX11 = some m.cls := hown
  have hl : lv_has ls 4 [(0, .ref a0), (1, .int p1), (2, .int p2), (3, .int p3)] := hl
  have D46 : ∀ (v0 : Nat) (v1 : Int32) (v2 : Int32) (v3 : Int32) (w0 : Int32) (τ : mx_S), f_X11_corner_D46 P v0 v1 v2 v3 w0 τ = some (.inl (E, σ')) → ∀ (H : Heap) (locs : List Loc), mx_J G P s.heap (mxz σ) (mxu σ) τ H locs → ∀ ls : Array Slot, lv_has ls 4 [(0, .ref v0), (1, .int v1), (2, .int v2), (3, .int v3)] → W p l e (mx_rm P 7 103 σ) s m ([.ref a0, .int p1, .int p2, .int p3] : List Value).toArray below meth c H locs (mxz τ - mxz σ) (mxu τ - mxu σ) (mx_Zt below G P E σ σ' [.ref a0, .int p1, .int p2, .int p3] s) (F0 m 46 ls [.int w0]) := by
    intro v0 v1 v2 v3 w0 τ hf _ _ hJ ls hl
    unfold f_X11_corner_D46 at hf
    rcases mbx_t hf with e15 | ⟨σ14, e15, hf⟩
    · exact mx_callST (As := [.int w0]) (rest := []) hx hb hml hts hown hK hJ rfl rfl hnt hlocks (ct_X11_needRoom l hlt G P w0 τ E σ' e15) me_X11_needRoom kw_1449 kw_1448 (Nat.le_of_ble_eq_true rfl) (Nat.le_of_ble_eq_true rfl) rfl hl.1 rfl (Nat.le_of_ble_eq_true rfl) dX11_corner_46
    refine mx_callS (As := [.int w0]) (rest := []) hx hb hml hts hown hK hJ rfl rfl (c_X11_needRoom l G P w0 τ σ14 e15) me_X11_needRoom kw_1449 kw_1448 (Nat.le_of_ble_eq_true rfl) (Nat.le_of_ble_eq_true rfl) rfl hl.1 rfl (Nat.le_of_ble_eq_true rfl) dX11_corner_46 (fun H locs hJ => ?_)
    refine lv_aload_n hx hb dX11_corner_49 rfl (lv_at hl 0 rfl) ?_
    obtain ⟨b16, e17, hf⟩ := mb0 hf
    refine my_gR hx hb hts hown hK hJ fd_RX11_25 hv_11_2 e17 dX11_corner_50 ?_
    refine lv_iload_n hx hb dX11_corner_53 rfl (lv_at hl 1 rfl) ?_
    obtain ⟨b18, e19, hf⟩ := mb0 hf
    refine mx_aR hx hb hK hJ (t := 6) rfl (fun _ _ _ => rfl) e19 dX11_corner_54 ?_
    refine lv_iload_n hx hb dX11_corner_55 rfl (lv_at hl 2 rfl) ?_
    refine lv_iload_n hx hb dX11_corner_56 rfl (lv_at hl 3 rfl) ?_
    obtain ⟨i20, e21, hf⟩ := mb0 hf
    obtain ⟨x23, σ22, e24, hf⟩ := mc0 hf
    refine mx_callV (As := [.int v2, .int v3]) (rest := []) hx hb hml hts hown hK hJ rfl rfl (ci := 9) rfl e21 (c_X9_addCorner l G P b18 v2 v3 σ14 x23 σ22 e24) me_X9_addCorner kw_1643 kw_1644 kw_1642 (Nat.le_of_ble_eq_true rfl) (Nat.le_of_ble_eq_true rfl) rfl hl.1 rfl (Nat.le_of_ble_eq_true rfl) dX11_corner_57 (fun H locs hJ => ?_)
    cases hf
  unfold f_X11_corner at hf
  refine lv_iload_n hx hb dX11_corner_0 rfl (lv_at hl 1 rfl) ?_
  refine lv_iconst (v := 0) hx hb dX11_corner_1 (by decide) ?_
  refine lv_bipush (v := 7) hx hb dX11_corner_2 (by decide) ?_
  rcases mbx_t hf with e2 | ⟨σ1, e2, hf⟩
  · exact mx_callST (As := [.int p1, .int (0 : Int32), .int (7 : Int32)]) (rest := []) hx hb hml hts hown hK hJ rfl rfl hnt hlocks (ct_X11_needRange l hlt G P p1 (0 : Int32) (7 : Int32) σ E σ' e2) me_X11_needRange kw_1005 kw_1004 (Nat.le_of_ble_eq_true rfl) (Nat.le_of_ble_eq_true rfl) rfl hl.1 rfl (Nat.le_of_ble_eq_true rfl) dX11_corner_4
  refine mx_callS (As := [.int p1, .int (0 : Int32), .int (7 : Int32)]) (rest := []) hx hb hml hts hown hK hJ rfl rfl (c_X11_needRange l G P p1 (0 : Int32) (7 : Int32) σ σ1 e2) me_X11_needRange kw_1005 kw_1004 (Nat.le_of_ble_eq_true rfl) (Nat.le_of_ble_eq_true rfl) rfl hl.1 rfl (Nat.le_of_ble_eq_true rfl) dX11_corner_4 (fun H locs hJ => ?_)
  refine lv_iload_n hx hb dX11_corner_7 rfl (lv_at hl 2 rfl) ?_
  refine lv_sipush (v := (-1000)) hx hb dX11_corner_8 (by decide) ?_
  refine lv_sipush (v := 1000) hx hb dX11_corner_11 (by decide) ?_
  rcases mbx_t hf with e4 | ⟨σ3, e4, hf⟩
  · exact mx_callST (As := [.int p2, .int (-1000 : Int32), .int (1000 : Int32)]) (rest := []) hx hb hml hts hown hK hJ rfl rfl hnt hlocks (ct_X11_needRange l hlt G P p2 (-1000 : Int32) (1000 : Int32) σ1 E σ' e4) me_X11_needRange kw_1005 kw_1004 (Nat.le_of_ble_eq_true rfl) (Nat.le_of_ble_eq_true rfl) rfl hl.1 rfl (Nat.le_of_ble_eq_true rfl) dX11_corner_14
  refine mx_callS (As := [.int p2, .int (-1000 : Int32), .int (1000 : Int32)]) (rest := []) hx hb hml hts hown hK hJ rfl rfl (c_X11_needRange l G P p2 (-1000 : Int32) (1000 : Int32) σ1 σ3 e4) me_X11_needRange kw_1005 kw_1004 (Nat.le_of_ble_eq_true rfl) (Nat.le_of_ble_eq_true rfl) rfl hl.1 rfl (Nat.le_of_ble_eq_true rfl) dX11_corner_14 (fun H locs hJ => ?_)
  refine lv_iload_n hx hb dX11_corner_17 rfl (lv_at hl 3 rfl) ?_
  refine lv_sipush (v := (-1000)) hx hb dX11_corner_18 (by decide) ?_
  refine lv_sipush (v := 1000) hx hb dX11_corner_21 (by decide) ?_
  rcases mbx_t hf with e6 | ⟨σ5, e6, hf⟩
  · exact mx_callST (As := [.int p3, .int (-1000 : Int32), .int (1000 : Int32)]) (rest := []) hx hb hml hts hown hK hJ rfl rfl hnt hlocks (ct_X11_needRange l hlt G P p3 (-1000 : Int32) (1000 : Int32) σ3 E σ' e6) me_X11_needRange kw_1005 kw_1004 (Nat.le_of_ble_eq_true rfl) (Nat.le_of_ble_eq_true rfl) rfl hl.1 rfl (Nat.le_of_ble_eq_true rfl) dX11_corner_24
  refine mx_callS (As := [.int p3, .int (-1000 : Int32), .int (1000 : Int32)]) (rest := []) hx hb hml hts hown hK hJ rfl rfl (c_X11_needRange l G P p3 (-1000 : Int32) (1000 : Int32) σ3 σ5 e6) me_X11_needRange kw_1005 kw_1004 (Nat.le_of_ble_eq_true rfl) (Nat.le_of_ble_eq_true rfl) rfl hl.1 rfl (Nat.le_of_ble_eq_true rfl) dX11_corner_24 (fun H locs hJ => ?_)
  refine lv_aload_n hx hb dX11_corner_27 rfl (lv_at hl 0 rfl) ?_
  obtain ⟨b7, e8, hf⟩ := mb0 hf
  refine my_gR hx hb hts hown hK hJ fd_RX11_25 hv_11_2 e8 dX11_corner_28 ?_
  refine lv_iload_n hx hb dX11_corner_31 rfl (lv_at hl 1 rfl) ?_
  obtain ⟨b9, e10, hf⟩ := mb0 hf
  refine mx_aR hx hb hK hJ (t := 6) rfl (fun _ _ _ => rfl) e10 dX11_corner_32 ?_
  obtain ⟨x11, e12, hf⟩ := mb0 hf
  refine my_gI hx hb hts hown hK hJ fd_RX11_287 hv_9_0 e12 dX11_corner_33 ?_
  refine lv_bipush (v := 24) hx hb dX11_corner_36 (by decide) ?_
  refine lv_icmp_ge (tgt := 45) hx hb dX11_corner_38 (by decide) (fun c13 => ?_) (fun c13 => ?_)
  · rw [if_pos c13] at hf
    refine lv_iconst (v := 0) hx hb dX11_corner_45 (by decide) ?_
    exact D46 a0 p1 p2 p3 (0 : Int32) σ5 hf _ _ hJ ls (lv_sub hl [0, 1, 2, 3] rfl)
  · rw [if_neg c13] at hf
    refine lv_iconst (v := 1) hx hb dX11_corner_41 (by decide) ?_
    refine lv_goto (tgt := 46) hx hb dX11_corner_42 (by decide) ?_
    exact D46 a0 p1 p2 p3 (1 : Int32) σ5 hf _ _ hJ ls (lv_sub hl [0, 1, 2, 3] rfl)
set_option maxHeartbeats 4000000 in
set_option maxRecDepth 100000 in
theorem c_X11_empty (l : Launch) (G : mx_G) (P : mx_P) (a0 : Nat) (p1 : Int32) (σ : mx_S) (σ' : mx_S) (hf : f_X11_empty P a0 p1 σ = some (.inr σ')) : mxz σ ≤ mpc P → mxu σ ≤ mps P → mx_M l yX11_empty cX11_empty 2 none 7 103 G P [.ref a0, .int p1] σ none σ' := by
  intro hcap hcau
  refine mx_ofW (by decide +kernel) hcap hcau (Nat.le_of_ble_eq_true rfl) ?_
  intro p e s m below meth c hx hb hr hml hts hown hlocks hname hK hJ ls hl
  have hz0 := hJ.2.1
  have hown : s.vm.findClass RX11 = some m.cls := hown
  have hl : lv_has ls 2 [(0, .ref a0), (1, .int p1)] := hl
  unfold f_X11_empty at hf
  refine lv_iload_n hx hb dX11_empty_0 rfl (lv_at hl 1 rfl) ?_
  refine lv_iconst (v := 0) hx hb dX11_empty_1 (by decide) ?_
  refine lv_bipush (v := 7) hx hb dX11_empty_2 (by decide) ?_
  obtain ⟨σ1, e2, hf⟩ := mbx_n hf
  refine mx_callS (As := [.int p1, .int (0 : Int32), .int (7 : Int32)]) (rest := []) hx hb hml hts hown hK hJ rfl rfl (c_X11_needRange l G P p1 (0 : Int32) (7 : Int32) σ σ1 e2) me_X11_needRange kw_1005 kw_1004 (Nat.le_of_ble_eq_true rfl) (Nat.le_of_ble_eq_true rfl) rfl hl.1 rfl (Nat.le_of_ble_eq_true rfl) dX11_empty_4 (fun H locs hJ => ?_)
  refine lv_aload_n hx hb dX11_empty_7 rfl (lv_at hl 0 rfl) ?_
  obtain ⟨b3, e4, hf⟩ := mb0 hf
  refine my_gR hx hb hts hown hK hJ fd_RX11_25 hv_11_2 e4 dX11_empty_8 ?_
  refine lv_iload_n hx hb dX11_empty_11 rfl (lv_at hl 1 rfl) ?_
  obtain ⟨b5, e6, hf⟩ := mb0 hf
  refine mx_aR hx hb hK hJ (t := 6) rfl (fun _ _ _ => rfl) e6 dX11_empty_12 ?_
  refine lv_iconst (v := 0) hx hb dX11_empty_13 (by decide) ?_
  obtain ⟨σ7, e8, hf⟩ := mb0 hf
  refine my_pI hx hb hts hown hK hJ fd_RX11_287 cd_9 (Or.inl rfl) ht_9_0 e8 dX11_empty_14 (fun H locs hJ => ?_)
  exact my_vret hx hb hr hlocks hJ (mx_inr hf) dX11_empty_17
set_option maxHeartbeats 4000000 in
set_option maxRecDepth 100000 in
theorem ct_X11_empty (l : Launch) (hlt : l.stackTraces = false) (G : mx_G) (P : mx_P) (a0 : Nat) (p1 : Int32) (σ : mx_S) (E : String) (σ' : mx_S) (hf : f_X11_empty P a0 p1 σ = some (.inl (E, σ'))) : mxz σ ≤ mpc P → mxu σ ≤ mps P → mx_Mt l yX11_empty cX11_empty 2 none 7 103 G P [.ref a0, .int p1] σ E σ' := by
  intro hcap hcau
  refine mx_ofWt (by decide +kernel) hcap hcau (Nat.le_of_ble_eq_true rfl) ?_
  intro p e s m below meth c hx hb hr hml hts hown hlocks hname hnt hK hJ ls hl
  have hz0 := hJ.2.1
  have hown : s.vm.findClass RX11 = some m.cls := hown
  have hl : lv_has ls 2 [(0, .ref a0), (1, .int p1)] := hl
  unfold f_X11_empty at hf
  refine lv_iload_n hx hb dX11_empty_0 rfl (lv_at hl 1 rfl) ?_
  refine lv_iconst (v := 0) hx hb dX11_empty_1 (by decide) ?_
  refine lv_bipush (v := 7) hx hb dX11_empty_2 (by decide) ?_
  rcases mbx_t hf with e2 | ⟨σ1, e2, hf⟩
  · exact mx_callST (As := [.int p1, .int (0 : Int32), .int (7 : Int32)]) (rest := []) hx hb hml hts hown hK hJ rfl rfl hnt hlocks (ct_X11_needRange l hlt G P p1 (0 : Int32) (7 : Int32) σ E σ' e2) me_X11_needRange kw_1005 kw_1004 (Nat.le_of_ble_eq_true rfl) (Nat.le_of_ble_eq_true rfl) rfl hl.1 rfl (Nat.le_of_ble_eq_true rfl) dX11_empty_4
  refine mx_callS (As := [.int p1, .int (0 : Int32), .int (7 : Int32)]) (rest := []) hx hb hml hts hown hK hJ rfl rfl (c_X11_needRange l G P p1 (0 : Int32) (7 : Int32) σ σ1 e2) me_X11_needRange kw_1005 kw_1004 (Nat.le_of_ble_eq_true rfl) (Nat.le_of_ble_eq_true rfl) rfl hl.1 rfl (Nat.le_of_ble_eq_true rfl) dX11_empty_4 (fun H locs hJ => ?_)
  refine lv_aload_n hx hb dX11_empty_7 rfl (lv_at hl 0 rfl) ?_
  obtain ⟨b3, e4, hf⟩ := mb0 hf
  refine my_gR hx hb hts hown hK hJ fd_RX11_25 hv_11_2 e4 dX11_empty_8 ?_
  refine lv_iload_n hx hb dX11_empty_11 rfl (lv_at hl 1 rfl) ?_
  obtain ⟨b5, e6, hf⟩ := mb0 hf
  refine mx_aR hx hb hK hJ (t := 6) rfl (fun _ _ _ => rfl) e6 dX11_empty_12 ?_
  refine lv_iconst (v := 0) hx hb dX11_empty_13 (by decide) ?_
  obtain ⟨σ7, e8, hf⟩ := mb0 hf
  refine my_pI hx hb hts hown hK hJ fd_RX11_287 cd_9 (Or.inl rfl) ht_9_0 e8 dX11_empty_14 (fun H locs hJ => ?_)
  cases hf
set_option maxHeartbeats 4000000 in
set_option maxRecDepth 100000 in
theorem c_X11_plate (l : Launch) (G : mx_G) (P : mx_P) (a0 : Nat) (p1 : Int32) (p2 : Int32) (σ : mx_S) (r : Int64) (σ' : mx_S) (hf : f_X11_plate P a0 p1 p2 σ = some (.inr (r, σ'))) : mxz σ ≤ mpc P → mxu σ ≤ mps P → mx_M l yX11_plate cX11_plate 4 (some .long) 7 126 G P [.ref a0, .int p1, .int p2] σ (some (.long r)) σ' := by
  intro hcap hcau
  refine mx_ofW (by decide +kernel) hcap hcau (Nat.le_of_ble_eq_true rfl) ?_
  intro p e s m below meth c hx hb hr hml hts hown hlocks hname hK hJ ls hl
  have hz0 := hJ.2.1
  have hown : s.vm.findClass RX11 = some m.cls := hown
  have hl : lv_has ls 4 [(0, .ref a0), (1, .int p1), (2, .int p2)] := hl
  have D88 : ∀ (v0 : Nat) (v2 : Int32) (v3 : Nat) (w0 : Int32) (τ : mx_S), f_X11_plate_D88 P v0 v2 v3 w0 τ = some (.inr (r, σ')) → ∀ (H : Heap) (locs : List Loc), mx_J G P s.heap (mxz σ) (mxu σ) τ H locs → ∀ ls : Array Slot, lv_has ls 4 [(0, .ref v0), (2, .int v2), (3, .ref v3)] → W p l e (mx_rm P 7 126 σ) s m ([.ref a0, .int p1, .int p2] : List Value).toArray below meth c H locs (mxz τ - mxz σ) (mxu τ - mxu σ) (mx_Z below G P (some (.long r)) σ σ' [.ref a0, .int p1, .int p2] s) (F0 m 88 ls [.int w0]) := by
    intro v0 v2 v3 w0 τ hf _ _ hJ ls hl
    unfold f_X11_plate_D88 at hf
    obtain ⟨σ17, e18, hf⟩ := mbx_n hf
    refine mx_callS (As := [.int w0]) (rest := []) hx hb hml hts hown hK hJ rfl rfl (c_X11_needPresence l G P w0 τ σ17 e18) me_X11_needPresence kw_1243 kw_1242 (Nat.le_of_ble_eq_true rfl) (Nat.le_of_ble_eq_true rfl) rfl hl.1 rfl (Nat.le_of_ble_eq_true rfl) dX11_plate_88 (fun H locs hJ => ?_)
    refine lv_aload_n hx hb dX11_plate_91 rfl (lv_at hl 2 rfl) ?_
    refine lv_iload_n hx hb dX11_plate_92 rfl (lv_at hl 1 rfl) ?_
    refine lv_iconst (v := 1) hx hb dX11_plate_93 (by decide) ?_
    refine lv_isub hx hb dX11_plate_94 ?_
    refine lv_iconst (v := 2) hx hb dX11_plate_95 (by decide) ?_
    obtain ⟨x19, e20, hf⟩ := mb0 hf
    refine lv_idiv hx hb dX11_plate_96 (md_Is e20).1 ?_
    refine mx_eI (md_Is e20).2 ?_
    refine lv_aload_n hx hb dX11_plate_97 rfl (lv_at hl 0 rfl) ?_
    obtain ⟨b21, e22, hf⟩ := mb0 hf
    refine my_gR hx hb hts hown hK hJ fd_RX11_47 hv_11_5 e22 dX11_plate_98 ?_
    obtain ⟨i23, e24, hf⟩ := mb0 hf
    obtain ⟨σ25, e26, hf⟩ := mb0 hf
    refine mx_callV (As := [.int x19, .ref b21]) (rest := []) hx hb hml hts hown hK hJ rfl rfl (ci := 9) rfl e24 (c_X9_reckon l G P v3 x19 b21 σ17 σ25 e26) me_X9_reckon kw_1695 kw_1696 kw_1694 (Nat.le_of_ble_eq_true rfl) (Nat.le_of_ble_eq_true rfl) rfl hl.1 rfl (Nat.le_of_ble_eq_true rfl) dX11_plate_101 (fun H locs hJ => ?_)
    refine lv_aload_n hx hb dX11_plate_104 rfl (lv_at hl 0 rfl) ?_
    obtain ⟨b27, e28, hf⟩ := mb0 hf
    refine my_gR hx hb hts hown hK hJ fd_RX11_47 hv_11_5 e28 dX11_plate_105 ?_
    refine lv_iload_n hx hb dX11_plate_108 rfl (lv_at hl 1 rfl) ?_
    refine lv_iconst (v := 1) hx hb dX11_plate_109 (by decide) ?_
    refine lv_isub hx hb dX11_plate_110 ?_
    refine lv_iconst (v := 2) hx hb dX11_plate_111 (by decide) ?_
    obtain ⟨x29, e30, hf⟩ := mb0 hf
    refine lv_irem hx hb dX11_plate_112 (mm_Is e30).1 ?_
    refine mx_eI (mm_Is e30).2 ?_
    obtain ⟨i31, e32, hf⟩ := mb0 hf
    obtain ⟨x34, σ33, e35, hf⟩ := mc0 hf
    refine mx_callV (As := [.int x29]) (rest := []) hx hb hml hts hown hK hJ rfl rfl (ci := 3) rfl e32 (c_X3_number l G P b27 x29 σ25 x34 σ33 e35) me_X3_number kw_1489 kw_1490 kw_1488 (Nat.le_of_ble_eq_true rfl) (Nat.le_of_ble_eq_true rfl) rfl hl.1 rfl (Nat.le_of_ble_eq_true rfl) dX11_plate_113 (fun H locs hJ => ?_)
    exact my_lret hx hb hr hlocks hJ (mx_inr hf) dX11_plate_116
  have D83 : ∀ (v0 : Nat) (v2 : Int32) (v3 : Nat) (τ : mx_S), f_X11_plate_D83 P v0 v2 v3 τ = some (.inr (r, σ')) → ∀ (H : Heap) (locs : List Loc), mx_J G P s.heap (mxz σ) (mxu σ) τ H locs → ∀ ls : Array Slot, lv_has ls 4 [(0, .ref v0), (2, .int v2), (3, .ref v3)] → W p l e (mx_rm P 7 126 σ) s m ([.ref a0, .int p1, .int p2] : List Value).toArray below meth c H locs (mxz τ - mxz σ) (mxu τ - mxu σ) (mx_Z below G P (some (.long r)) σ σ' [.ref a0, .int p1, .int p2] s) (F0 m 83 ls []) := by
    intro v0 v2 v3 τ hf _ _ hJ ls hl
    unfold f_X11_plate_D83 at hf
    refine lv_iconst (v := 1) hx hb dX11_plate_83 (by decide) ?_
    refine lv_goto (tgt := 88) hx hb dX11_plate_84 (by decide) ?_
    exact D88 v0 v2 v3 (1 : Int32) τ hf _ _ hJ ls (lv_sub hl [0, 1, 2] rfl)
  have D64 : ∀ (w0 : Int32) (w1 : Nat) (τ : mx_S), f_X11_plate_D64 P w0 w1 τ = some (.inr (r, σ')) → ∀ (H : Heap) (locs : List Loc), mx_J G P s.heap (mxz σ) (mxu σ) τ H locs → ∀ ls : Array Slot, lv_has ls 4 [] → W p l e (mx_rm P 7 126 σ) s m ([.ref a0, .int p1, .int p2] : List Value).toArray below meth c H locs (mxz τ - mxz σ) (mxu τ - mxu σ) (mx_Z below G P (some (.long r)) σ σ' [.ref a0, .int p1, .int p2] s) (F0 m 64 ls [.int w0, .ref w1]) := by
    intro w0 w1 τ hf _ _ hJ ls hl
    unfold f_X11_plate_D64 at hf
    obtain ⟨i43, e44, hf⟩ := mb0 hf
    obtain ⟨x46, σ45, e47, hf⟩ := mc0 hf
    refine mx_callV (As := [.int w0]) (rest := []) hx hb hml hts hown hK hJ rfl rfl (ci := 9) rfl e44 (c_X9_crossing l G P w1 w0 τ x46 σ45 e47) me_X9_crossing kw_1673 kw_1674 kw_1672 (Nat.le_of_ble_eq_true rfl) (Nat.le_of_ble_eq_true rfl) rfl hl.1 rfl (Nat.le_of_ble_eq_true rfl) dX11_plate_64 (fun H locs hJ => ?_)
    refine lv_i2l hx hb dX11_plate_67 rfl ?_
    exact my_lret hx hb hr hlocks hJ (mx_inr hf) dX11_plate_68
  have D34 : ∀ (v0 : Nat) (v2 : Int32) (v3 : Nat) (w0 : Int32) (τ : mx_S), f_X11_plate_D34 P v0 v2 v3 w0 τ = some (.inr (r, σ')) → ∀ (H : Heap) (locs : List Loc), mx_J G P s.heap (mxz σ) (mxu σ) τ H locs → ∀ ls : Array Slot, lv_has ls 4 [(0, .ref v0), (2, .int v2), (3, .ref v3)] → W p l e (mx_rm P 7 126 σ) s m ([.ref a0, .int p1, .int p2] : List Value).toArray below meth c H locs (mxz τ - mxz σ) (mxu τ - mxu σ) (mx_Z below G P (some (.long r)) σ σ' [.ref a0, .int p1, .int p2] s) (F0 m 34 ls [.int w0]) := by
    intro v0 v2 v3 w0 τ hf _ _ hJ ls hl
    unfold f_X11_plate_D34 at hf
    obtain ⟨σ12, e13, hf⟩ := mbx_n hf
    refine mx_callS (As := [.int w0]) (rest := []) hx hb hml hts hown hK hJ rfl rfl (c_X11_needPresence l G P w0 τ σ12 e13) me_X11_needPresence kw_1243 kw_1242 (Nat.le_of_ble_eq_true rfl) (Nat.le_of_ble_eq_true rfl) rfl hl.1 rfl (Nat.le_of_ble_eq_true rfl) dX11_plate_34 (fun H locs hJ => ?_)
    refine lv_iload_n hx hb dX11_plate_37 rfl (lv_at hl 1 rfl) ?_
    refine lv_if_ne (tgt := 46) hx hb dX11_plate_38 (by decide) (fun c14 => ?_) (fun c14 => ?_)
    · rw [if_neg c14] at hf
      refine lv_iload_n hx hb dX11_plate_46 rfl (lv_at hl 1 rfl) ?_
      refine lv_bipush (v := 7) hx hb dX11_plate_47 (by decide) ?_
      refine lv_icmp_lt (tgt := 69) hx hb dX11_plate_49 (by decide) (fun c15 => ?_) (fun c15 => ?_)
      · rw [if_pos c15] at hf
        refine lv_iload_n hx hb dX11_plate_69 rfl (lv_at hl 1 rfl) ?_
        refine lv_iconst (v := 5) hx hb dX11_plate_70 (by decide) ?_
        refine lv_icmp_ge (tgt := 83) hx hb dX11_plate_71 (by decide) (fun c16 => ?_) (fun c16 => ?_)
        · rw [if_pos c16] at hf
          exact D83 v0 v2 v3 σ12 hf _ _ hJ ls (lv_sub hl [0, 1, 2] rfl)
        · rw [if_neg c16] at hf
          refine lv_aload_n hx hb dX11_plate_74 rfl (lv_at hl 2 rfl) ?_
          obtain ⟨i36, e37, hf⟩ := mb0 hf
          obtain ⟨x39, σ38, e40, hf⟩ := mc0 hf
          refine mx_callV (As := []) (rest := []) hx hb hml hts hown hK hJ rfl rfl (ci := 9) rfl e37 (c_X9_twiceArea l G P v3 σ12 x39 σ38 e40) me_X9_twiceArea kw_1661 kw_1662 kw_1660 (Nat.le_of_ble_eq_true rfl) (Nat.le_of_ble_eq_true rfl) rfl hl.1 rfl (Nat.le_of_ble_eq_true rfl) dX11_plate_75 (fun H locs hJ => ?_)
          refine lv_lconst (v := 0) hx hb dX11_plate_78 (by decide) ?_
          refine W.lcmp hx hb dX11_plate_79 ?_
          refine lv_if_eq (tgt := 87) hx hb dX11_plate_80 (by decide) (fun c41 => ?_) (fun c41 => ?_)
          · rw [if_pos c41] at hf
            refine lv_iconst (v := 0) hx hb dX11_plate_87 (by decide) ?_
            exact D88 v0 v2 v3 (0 : Int32) σ38 hf _ _ hJ ls (lv_sub hl [0, 1, 2] rfl)
          · rw [if_neg c41] at hf
            exact D83 v0 v2 v3 σ38 hf _ _ hJ ls (lv_sub hl [0, 1, 2] rfl)
      · rw [if_neg c15] at hf
        refine lv_aload_n hx hb dX11_plate_52 rfl (lv_at hl 2 rfl) ?_
        refine lv_iload_n hx hb dX11_plate_53 rfl (lv_at hl 1 rfl) ?_
        refine lv_bipush (v := 7) hx hb dX11_plate_54 (by decide) ?_
        refine lv_icmp_ne (tgt := 63) hx hb dX11_plate_56 (by decide) (fun c42 => ?_) (fun c42 => ?_)
        · rw [if_neg c42] at hf
          refine lv_iconst (v := 0) hx hb dX11_plate_63 (by decide) ?_
          exact D64 (0 : Int32) v3 σ12 hf _ _ hJ ls (lv_sub hl [] rfl)
        · rw [if_pos c42] at hf
          refine lv_iconst (v := 1) hx hb dX11_plate_59 (by decide) ?_
          refine lv_goto (tgt := 64) hx hb dX11_plate_60 (by decide) ?_
          exact D64 (1 : Int32) v3 σ12 hf _ _ hJ ls (lv_sub hl [] rfl)
    · rw [if_pos c14] at hf
      refine lv_aload_n hx hb dX11_plate_41 rfl (lv_at hl 2 rfl) ?_
      obtain ⟨i48, e49, hf⟩ := mb0 hf
      obtain ⟨x51, σ50, e52, hf⟩ := mc0 hf
      refine mx_callV (As := []) (rest := []) hx hb hml hts hown hK hJ rfl rfl (ci := 9) rfl e49 (c_X9_twiceArea l G P v3 σ12 x51 σ50 e52) me_X9_twiceArea kw_1661 kw_1662 kw_1660 (Nat.le_of_ble_eq_true rfl) (Nat.le_of_ble_eq_true rfl) rfl hl.1 rfl (Nat.le_of_ble_eq_true rfl) dX11_plate_42 (fun H locs hJ => ?_)
      exact my_lret hx hb hr hlocks hJ (mx_inr hf) dX11_plate_45
  unfold f_X11_plate at hf
  refine lv_iload_n hx hb dX11_plate_0 rfl (lv_at hl 1 rfl) ?_
  refine lv_iconst (v := 0) hx hb dX11_plate_1 (by decide) ?_
  refine lv_bipush (v := 7) hx hb dX11_plate_2 (by decide) ?_
  obtain ⟨σ1, e2, hf⟩ := mbx_n hf
  refine mx_callS (As := [.int p1, .int (0 : Int32), .int (7 : Int32)]) (rest := []) hx hb hml hts hown hK hJ rfl rfl (c_X11_needRange l G P p1 (0 : Int32) (7 : Int32) σ σ1 e2) me_X11_needRange kw_1005 kw_1004 (Nat.le_of_ble_eq_true rfl) (Nat.le_of_ble_eq_true rfl) rfl hl.1 rfl (Nat.le_of_ble_eq_true rfl) dX11_plate_4 (fun H locs hJ => ?_)
  refine lv_iload_n hx hb dX11_plate_7 rfl (lv_at hl 2 rfl) ?_
  refine lv_iconst (v := 0) hx hb dX11_plate_8 (by decide) ?_
  refine lv_bipush (v := 8) hx hb dX11_plate_9 (by decide) ?_
  obtain ⟨σ3, e4, hf⟩ := mbx_n hf
  refine mx_callS (As := [.int p2, .int (0 : Int32), .int (8 : Int32)]) (rest := []) hx hb hml hts hown hK hJ rfl rfl (c_X11_needRange l G P p2 (0 : Int32) (8 : Int32) σ1 σ3 e4) me_X11_needRange kw_1005 kw_1004 (Nat.le_of_ble_eq_true rfl) (Nat.le_of_ble_eq_true rfl) rfl hl.1 rfl (Nat.le_of_ble_eq_true rfl) dX11_plate_11 (fun H locs hJ => ?_)
  refine lv_aload_n hx hb dX11_plate_14 rfl (lv_at hl 0 rfl) ?_
  obtain ⟨b5, e6, hf⟩ := mb0 hf
  refine my_gR hx hb hts hown hK hJ fd_RX11_25 hv_11_2 e6 dX11_plate_15 ?_
  refine lv_iload_n hx hb dX11_plate_18 rfl (lv_at hl 1 rfl) ?_
  obtain ⟨b7, e8, hf⟩ := mb0 hf
  refine mx_aR hx hb hK hJ (t := 6) rfl (fun _ _ _ => rfl) e8 dX11_plate_19 ?_
  refine lv_astore_n (lv' := [(3, .ref b7), (0, .ref a0), (1, .int p1), (2, .int p2)]) hx hb dX11_plate_20 rfl hl (by decide) rfl (fun ls hl => ?_)
  refine lv_aload_n hx hb dX11_plate_21 rfl (lv_at hl 0 rfl) ?_
  obtain ⟨x9, e10, hf⟩ := mb0 hf
  refine my_gI hx hb hts hown hK hJ fd_RX11_287 hv_9_0 e10 dX11_plate_22 ?_
  refine lv_iconst (v := 3) hx hb dX11_plate_25 (by decide) ?_
  refine lv_icmp_lt (tgt := 33) hx hb dX11_plate_26 (by decide) (fun c11 => ?_) (fun c11 => ?_)
  · rw [if_pos c11] at hf
    refine lv_iconst (v := 0) hx hb dX11_plate_33 (by decide) ?_
    exact D34 a0 p2 b7 (0 : Int32) σ3 hf _ _ hJ ls (lv_sub hl [1, 3, 0] rfl)
  · rw [if_neg c11] at hf
    refine lv_iconst (v := 1) hx hb dX11_plate_29 (by decide) ?_
    refine lv_goto (tgt := 34) hx hb dX11_plate_30 (by decide) ?_
    exact D34 a0 p2 b7 (1 : Int32) σ3 hf _ _ hJ ls (lv_sub hl [1, 3, 0] rfl)
set_option maxHeartbeats 4000000 in
set_option maxRecDepth 100000 in
theorem ct_X11_plate (l : Launch) (hlt : l.stackTraces = false) (G : mx_G) (P : mx_P) (a0 : Nat) (p1 : Int32) (p2 : Int32) (σ : mx_S) (E : String) (σ' : mx_S) (hf : f_X11_plate P a0 p1 p2 σ = some (.inl (E, σ'))) : mxz σ ≤ mpc P → mxu σ ≤ mps P → mx_Mt l yX11_plate cX11_plate 4 (some .long) 7 126 G P [.ref a0, .int p1, .int p2] σ E σ' := by
  intro hcap hcau
  refine mx_ofWt (by decide +kernel) hcap hcau (Nat.le_of_ble_eq_true rfl) ?_
  intro p e s m below meth c hx hb hr hml hts hown hlocks hname hnt hK hJ ls hl
  have hz0 := hJ.2.1
  have hown : s.vm.findClass RX11 = some m.cls := hown
  have hl : lv_has ls 4 [(0, .ref a0), (1, .int p1), (2, .int p2)] := hl
  have D88 : ∀ (v0 : Nat) (v2 : Int32) (v3 : Nat) (w0 : Int32) (τ : mx_S), f_X11_plate_D88 P v0 v2 v3 w0 τ = some (.inl (E, σ')) → ∀ (H : Heap) (locs : List Loc), mx_J G P s.heap (mxz σ) (mxu σ) τ H locs → ∀ ls : Array Slot, lv_has ls 4 [(0, .ref v0), (2, .int v2), (3, .ref v3)] → W p l e (mx_rm P 7 126 σ) s m ([.ref a0, .int p1, .int p2] : List Value).toArray below meth c H locs (mxz τ - mxz σ) (mxu τ - mxu σ) (mx_Zt below G P E σ σ' [.ref a0, .int p1, .int p2] s) (F0 m 88 ls [.int w0]) := by
    intro v0 v2 v3 w0 τ hf _ _ hJ ls hl
    unfold f_X11_plate_D88 at hf
    rcases mbx_t hf with e18 | ⟨σ17, e18, hf⟩
    · exact mx_callST (As := [.int w0]) (rest := []) hx hb hml hts hown hK hJ rfl rfl hnt hlocks (ct_X11_needPresence l hlt G P w0 τ E σ' e18) me_X11_needPresence kw_1243 kw_1242 (Nat.le_of_ble_eq_true rfl) (Nat.le_of_ble_eq_true rfl) rfl hl.1 rfl (Nat.le_of_ble_eq_true rfl) dX11_plate_88
    refine mx_callS (As := [.int w0]) (rest := []) hx hb hml hts hown hK hJ rfl rfl (c_X11_needPresence l G P w0 τ σ17 e18) me_X11_needPresence kw_1243 kw_1242 (Nat.le_of_ble_eq_true rfl) (Nat.le_of_ble_eq_true rfl) rfl hl.1 rfl (Nat.le_of_ble_eq_true rfl) dX11_plate_88 (fun H locs hJ => ?_)
    refine lv_aload_n hx hb dX11_plate_91 rfl (lv_at hl 2 rfl) ?_
    refine lv_iload_n hx hb dX11_plate_92 rfl (lv_at hl 1 rfl) ?_
    refine lv_iconst (v := 1) hx hb dX11_plate_93 (by decide) ?_
    refine lv_isub hx hb dX11_plate_94 ?_
    refine lv_iconst (v := 2) hx hb dX11_plate_95 (by decide) ?_
    obtain ⟨x19, e20, hf⟩ := mb0 hf
    refine lv_idiv hx hb dX11_plate_96 (md_Is e20).1 ?_
    refine mx_eI (md_Is e20).2 ?_
    refine lv_aload_n hx hb dX11_plate_97 rfl (lv_at hl 0 rfl) ?_
    obtain ⟨b21, e22, hf⟩ := mb0 hf
    refine my_gR hx hb hts hown hK hJ fd_RX11_47 hv_11_5 e22 dX11_plate_98 ?_
    obtain ⟨i23, e24, hf⟩ := mb0 hf
    obtain ⟨σ25, e26, hf⟩ := mb0 hf
    refine mx_callV (As := [.int x19, .ref b21]) (rest := []) hx hb hml hts hown hK hJ rfl rfl (ci := 9) rfl e24 (c_X9_reckon l G P v3 x19 b21 σ17 σ25 e26) me_X9_reckon kw_1695 kw_1696 kw_1694 (Nat.le_of_ble_eq_true rfl) (Nat.le_of_ble_eq_true rfl) rfl hl.1 rfl (Nat.le_of_ble_eq_true rfl) dX11_plate_101 (fun H locs hJ => ?_)
    refine lv_aload_n hx hb dX11_plate_104 rfl (lv_at hl 0 rfl) ?_
    obtain ⟨b27, e28, hf⟩ := mb0 hf
    refine my_gR hx hb hts hown hK hJ fd_RX11_47 hv_11_5 e28 dX11_plate_105 ?_
    refine lv_iload_n hx hb dX11_plate_108 rfl (lv_at hl 1 rfl) ?_
    refine lv_iconst (v := 1) hx hb dX11_plate_109 (by decide) ?_
    refine lv_isub hx hb dX11_plate_110 ?_
    refine lv_iconst (v := 2) hx hb dX11_plate_111 (by decide) ?_
    obtain ⟨x29, e30, hf⟩ := mb0 hf
    refine lv_irem hx hb dX11_plate_112 (mm_Is e30).1 ?_
    refine mx_eI (mm_Is e30).2 ?_
    obtain ⟨i31, e32, hf⟩ := mb0 hf
    obtain ⟨x34, σ33, e35, hf⟩ := mc0 hf
    refine mx_callV (As := [.int x29]) (rest := []) hx hb hml hts hown hK hJ rfl rfl (ci := 3) rfl e32 (c_X3_number l G P b27 x29 σ25 x34 σ33 e35) me_X3_number kw_1489 kw_1490 kw_1488 (Nat.le_of_ble_eq_true rfl) (Nat.le_of_ble_eq_true rfl) rfl hl.1 rfl (Nat.le_of_ble_eq_true rfl) dX11_plate_113 (fun H locs hJ => ?_)
    cases hf
  have D83 : ∀ (v0 : Nat) (v2 : Int32) (v3 : Nat) (τ : mx_S), f_X11_plate_D83 P v0 v2 v3 τ = some (.inl (E, σ')) → ∀ (H : Heap) (locs : List Loc), mx_J G P s.heap (mxz σ) (mxu σ) τ H locs → ∀ ls : Array Slot, lv_has ls 4 [(0, .ref v0), (2, .int v2), (3, .ref v3)] → W p l e (mx_rm P 7 126 σ) s m ([.ref a0, .int p1, .int p2] : List Value).toArray below meth c H locs (mxz τ - mxz σ) (mxu τ - mxu σ) (mx_Zt below G P E σ σ' [.ref a0, .int p1, .int p2] s) (F0 m 83 ls []) := by
    intro v0 v2 v3 τ hf _ _ hJ ls hl
    unfold f_X11_plate_D83 at hf
    refine lv_iconst (v := 1) hx hb dX11_plate_83 (by decide) ?_
    refine lv_goto (tgt := 88) hx hb dX11_plate_84 (by decide) ?_
    exact D88 v0 v2 v3 (1 : Int32) τ hf _ _ hJ ls (lv_sub hl [0, 1, 2] rfl)
  have D64 : ∀ (w0 : Int32) (w1 : Nat) (τ : mx_S), f_X11_plate_D64 P w0 w1 τ = some (.inl (E, σ')) → ∀ (H : Heap) (locs : List Loc), mx_J G P s.heap (mxz σ) (mxu σ) τ H locs → ∀ ls : Array Slot, lv_has ls 4 [] → W p l e (mx_rm P 7 126 σ) s m ([.ref a0, .int p1, .int p2] : List Value).toArray below meth c H locs (mxz τ - mxz σ) (mxu τ - mxu σ) (mx_Zt below G P E σ σ' [.ref a0, .int p1, .int p2] s) (F0 m 64 ls [.int w0, .ref w1]) := by
    intro w0 w1 τ hf _ _ hJ ls hl
    unfold f_X11_plate_D64 at hf
    obtain ⟨i43, e44, hf⟩ := mb0 hf
    obtain ⟨x46, σ45, e47, hf⟩ := mc0 hf
    refine mx_callV (As := [.int w0]) (rest := []) hx hb hml hts hown hK hJ rfl rfl (ci := 9) rfl e44 (c_X9_crossing l G P w1 w0 τ x46 σ45 e47) me_X9_crossing kw_1673 kw_1674 kw_1672 (Nat.le_of_ble_eq_true rfl) (Nat.le_of_ble_eq_true rfl) rfl hl.1 rfl (Nat.le_of_ble_eq_true rfl) dX11_plate_64 (fun H locs hJ => ?_)
    refine lv_i2l hx hb dX11_plate_67 rfl ?_
    cases hf
  have D34 : ∀ (v0 : Nat) (v2 : Int32) (v3 : Nat) (w0 : Int32) (τ : mx_S), f_X11_plate_D34 P v0 v2 v3 w0 τ = some (.inl (E, σ')) → ∀ (H : Heap) (locs : List Loc), mx_J G P s.heap (mxz σ) (mxu σ) τ H locs → ∀ ls : Array Slot, lv_has ls 4 [(0, .ref v0), (2, .int v2), (3, .ref v3)] → W p l e (mx_rm P 7 126 σ) s m ([.ref a0, .int p1, .int p2] : List Value).toArray below meth c H locs (mxz τ - mxz σ) (mxu τ - mxu σ) (mx_Zt below G P E σ σ' [.ref a0, .int p1, .int p2] s) (F0 m 34 ls [.int w0]) := by
    intro v0 v2 v3 w0 τ hf _ _ hJ ls hl
    unfold f_X11_plate_D34 at hf
    rcases mbx_t hf with e13 | ⟨σ12, e13, hf⟩
    · exact mx_callST (As := [.int w0]) (rest := []) hx hb hml hts hown hK hJ rfl rfl hnt hlocks (ct_X11_needPresence l hlt G P w0 τ E σ' e13) me_X11_needPresence kw_1243 kw_1242 (Nat.le_of_ble_eq_true rfl) (Nat.le_of_ble_eq_true rfl) rfl hl.1 rfl (Nat.le_of_ble_eq_true rfl) dX11_plate_34
    refine mx_callS (As := [.int w0]) (rest := []) hx hb hml hts hown hK hJ rfl rfl (c_X11_needPresence l G P w0 τ σ12 e13) me_X11_needPresence kw_1243 kw_1242 (Nat.le_of_ble_eq_true rfl) (Nat.le_of_ble_eq_true rfl) rfl hl.1 rfl (Nat.le_of_ble_eq_true rfl) dX11_plate_34 (fun H locs hJ => ?_)
    refine lv_iload_n hx hb dX11_plate_37 rfl (lv_at hl 1 rfl) ?_
    refine lv_if_ne (tgt := 46) hx hb dX11_plate_38 (by decide) (fun c14 => ?_) (fun c14 => ?_)
    · rw [if_neg c14] at hf
      refine lv_iload_n hx hb dX11_plate_46 rfl (lv_at hl 1 rfl) ?_
      refine lv_bipush (v := 7) hx hb dX11_plate_47 (by decide) ?_
      refine lv_icmp_lt (tgt := 69) hx hb dX11_plate_49 (by decide) (fun c15 => ?_) (fun c15 => ?_)
      · rw [if_pos c15] at hf
        refine lv_iload_n hx hb dX11_plate_69 rfl (lv_at hl 1 rfl) ?_
        refine lv_iconst (v := 5) hx hb dX11_plate_70 (by decide) ?_
        refine lv_icmp_ge (tgt := 83) hx hb dX11_plate_71 (by decide) (fun c16 => ?_) (fun c16 => ?_)
        · rw [if_pos c16] at hf
          exact D83 v0 v2 v3 σ12 hf _ _ hJ ls (lv_sub hl [0, 1, 2] rfl)
        · rw [if_neg c16] at hf
          refine lv_aload_n hx hb dX11_plate_74 rfl (lv_at hl 2 rfl) ?_
          obtain ⟨i36, e37, hf⟩ := mb0 hf
          obtain ⟨x39, σ38, e40, hf⟩ := mc0 hf
          refine mx_callV (As := []) (rest := []) hx hb hml hts hown hK hJ rfl rfl (ci := 9) rfl e37 (c_X9_twiceArea l G P v3 σ12 x39 σ38 e40) me_X9_twiceArea kw_1661 kw_1662 kw_1660 (Nat.le_of_ble_eq_true rfl) (Nat.le_of_ble_eq_true rfl) rfl hl.1 rfl (Nat.le_of_ble_eq_true rfl) dX11_plate_75 (fun H locs hJ => ?_)
          refine lv_lconst (v := 0) hx hb dX11_plate_78 (by decide) ?_
          refine W.lcmp hx hb dX11_plate_79 ?_
          refine lv_if_eq (tgt := 87) hx hb dX11_plate_80 (by decide) (fun c41 => ?_) (fun c41 => ?_)
          · rw [if_pos c41] at hf
            refine lv_iconst (v := 0) hx hb dX11_plate_87 (by decide) ?_
            exact D88 v0 v2 v3 (0 : Int32) σ38 hf _ _ hJ ls (lv_sub hl [0, 1, 2] rfl)
          · rw [if_neg c41] at hf
            exact D83 v0 v2 v3 σ38 hf _ _ hJ ls (lv_sub hl [0, 1, 2] rfl)
      · rw [if_neg c15] at hf
        refine lv_aload_n hx hb dX11_plate_52 rfl (lv_at hl 2 rfl) ?_
        refine lv_iload_n hx hb dX11_plate_53 rfl (lv_at hl 1 rfl) ?_
        refine lv_bipush (v := 7) hx hb dX11_plate_54 (by decide) ?_
        refine lv_icmp_ne (tgt := 63) hx hb dX11_plate_56 (by decide) (fun c42 => ?_) (fun c42 => ?_)
        · rw [if_neg c42] at hf
          refine lv_iconst (v := 0) hx hb dX11_plate_63 (by decide) ?_
          exact D64 (0 : Int32) v3 σ12 hf _ _ hJ ls (lv_sub hl [] rfl)
        · rw [if_pos c42] at hf
          refine lv_iconst (v := 1) hx hb dX11_plate_59 (by decide) ?_
          refine lv_goto (tgt := 64) hx hb dX11_plate_60 (by decide) ?_
          exact D64 (1 : Int32) v3 σ12 hf _ _ hJ ls (lv_sub hl [] rfl)
    · rw [if_pos c14] at hf
      refine lv_aload_n hx hb dX11_plate_41 rfl (lv_at hl 2 rfl) ?_
      obtain ⟨i48, e49, hf⟩ := mb0 hf
      obtain ⟨x51, σ50, e52, hf⟩ := mc0 hf
      refine mx_callV (As := []) (rest := []) hx hb hml hts hown hK hJ rfl rfl (ci := 9) rfl e49 (c_X9_twiceArea l G P v3 σ12 x51 σ50 e52) me_X9_twiceArea kw_1661 kw_1662 kw_1660 (Nat.le_of_ble_eq_true rfl) (Nat.le_of_ble_eq_true rfl) rfl hl.1 rfl (Nat.le_of_ble_eq_true rfl) dX11_plate_42 (fun H locs hJ => ?_)
      cases hf
  unfold f_X11_plate at hf
  refine lv_iload_n hx hb dX11_plate_0 rfl (lv_at hl 1 rfl) ?_
  refine lv_iconst (v := 0) hx hb dX11_plate_1 (by decide) ?_
  refine lv_bipush (v := 7) hx hb dX11_plate_2 (by decide) ?_
  rcases mbx_t hf with e2 | ⟨σ1, e2, hf⟩
  · exact mx_callST (As := [.int p1, .int (0 : Int32), .int (7 : Int32)]) (rest := []) hx hb hml hts hown hK hJ rfl rfl hnt hlocks (ct_X11_needRange l hlt G P p1 (0 : Int32) (7 : Int32) σ E σ' e2) me_X11_needRange kw_1005 kw_1004 (Nat.le_of_ble_eq_true rfl) (Nat.le_of_ble_eq_true rfl) rfl hl.1 rfl (Nat.le_of_ble_eq_true rfl) dX11_plate_4
  refine mx_callS (As := [.int p1, .int (0 : Int32), .int (7 : Int32)]) (rest := []) hx hb hml hts hown hK hJ rfl rfl (c_X11_needRange l G P p1 (0 : Int32) (7 : Int32) σ σ1 e2) me_X11_needRange kw_1005 kw_1004 (Nat.le_of_ble_eq_true rfl) (Nat.le_of_ble_eq_true rfl) rfl hl.1 rfl (Nat.le_of_ble_eq_true rfl) dX11_plate_4 (fun H locs hJ => ?_)
  refine lv_iload_n hx hb dX11_plate_7 rfl (lv_at hl 2 rfl) ?_
  refine lv_iconst (v := 0) hx hb dX11_plate_8 (by decide) ?_
  refine lv_bipush (v := 8) hx hb dX11_plate_9 (by decide) ?_
  rcases mbx_t hf with e4 | ⟨σ3, e4, hf⟩
  · exact mx_callST (As := [.int p2, .int (0 : Int32), .int (8 : Int32)]) (rest := []) hx hb hml hts hown hK hJ rfl rfl hnt hlocks (ct_X11_needRange l hlt G P p2 (0 : Int32) (8 : Int32) σ1 E σ' e4) me_X11_needRange kw_1005 kw_1004 (Nat.le_of_ble_eq_true rfl) (Nat.le_of_ble_eq_true rfl) rfl hl.1 rfl (Nat.le_of_ble_eq_true rfl) dX11_plate_11
  refine mx_callS (As := [.int p2, .int (0 : Int32), .int (8 : Int32)]) (rest := []) hx hb hml hts hown hK hJ rfl rfl (c_X11_needRange l G P p2 (0 : Int32) (8 : Int32) σ1 σ3 e4) me_X11_needRange kw_1005 kw_1004 (Nat.le_of_ble_eq_true rfl) (Nat.le_of_ble_eq_true rfl) rfl hl.1 rfl (Nat.le_of_ble_eq_true rfl) dX11_plate_11 (fun H locs hJ => ?_)
  refine lv_aload_n hx hb dX11_plate_14 rfl (lv_at hl 0 rfl) ?_
  obtain ⟨b5, e6, hf⟩ := mb0 hf
  refine my_gR hx hb hts hown hK hJ fd_RX11_25 hv_11_2 e6 dX11_plate_15 ?_
  refine lv_iload_n hx hb dX11_plate_18 rfl (lv_at hl 1 rfl) ?_
  obtain ⟨b7, e8, hf⟩ := mb0 hf
  refine mx_aR hx hb hK hJ (t := 6) rfl (fun _ _ _ => rfl) e8 dX11_plate_19 ?_
  refine lv_astore_n (lv' := [(3, .ref b7), (0, .ref a0), (1, .int p1), (2, .int p2)]) hx hb dX11_plate_20 rfl hl (by decide) rfl (fun ls hl => ?_)
  refine lv_aload_n hx hb dX11_plate_21 rfl (lv_at hl 0 rfl) ?_
  obtain ⟨x9, e10, hf⟩ := mb0 hf
  refine my_gI hx hb hts hown hK hJ fd_RX11_287 hv_9_0 e10 dX11_plate_22 ?_
  refine lv_iconst (v := 3) hx hb dX11_plate_25 (by decide) ?_
  refine lv_icmp_lt (tgt := 33) hx hb dX11_plate_26 (by decide) (fun c11 => ?_) (fun c11 => ?_)
  · rw [if_pos c11] at hf
    refine lv_iconst (v := 0) hx hb dX11_plate_33 (by decide) ?_
    exact D34 a0 p2 b7 (0 : Int32) σ3 hf _ _ hJ ls (lv_sub hl [1, 3, 0] rfl)
  · rw [if_neg c11] at hf
    refine lv_iconst (v := 1) hx hb dX11_plate_29 (by decide) ?_
    refine lv_goto (tgt := 34) hx hb dX11_plate_30 (by decide) ?_
    exact D34 a0 p2 b7 (1 : Int32) σ3 hf _ _ hJ ls (lv_sub hl [1, 3, 0] rfl)
set_option maxHeartbeats 4000000 in
set_option maxRecDepth 100000 in
theorem c_X11_inside (l : Launch) (G : mx_G) (P : mx_P) (a0 : Nat) (p1 : Int32) (p2 : Int32) (p3 : Int32) (σ : mx_S) (r : Int32) (σ' : mx_S) (hf : f_X11_inside P a0 p1 p2 p3 σ = some (.inr (r, σ'))) : mxz σ ≤ mpc P → mxu σ ≤ mps P → mx_M l yX11_inside cX11_inside 4 (some .int) 7 103 G P [.ref a0, .int p1, .int p2, .int p3] σ (some (.int r)) σ' := by
  intro hcap hcau
  refine mx_ofW (by decide +kernel) hcap hcau (Nat.le_of_ble_eq_true rfl) ?_
  intro p e s m below meth c hx hb hr hml hts hown hlocks hname hK hJ ls hl
  have hz0 := hJ.2.1
  have hown : s.vm.findClass RX11 = some m.cls := hown
  have hl : lv_has ls 4 [(0, .ref a0), (1, .int p1), (2, .int p2), (3, .int p3)] := hl
  have D45 : ∀ (v0 : Nat) (v1 : Int32) (v2 : Int32) (v3 : Int32) (w0 : Int32) (τ : mx_S), f_X11_inside_D45 P v0 v1 v2 v3 w0 τ = some (.inr (r, σ')) → ∀ (H : Heap) (locs : List Loc), mx_J G P s.heap (mxz σ) (mxu σ) τ H locs → ∀ ls : Array Slot, lv_has ls 4 [(0, .ref v0), (1, .int v1), (2, .int v2), (3, .int v3)] → W p l e (mx_rm P 7 103 σ) s m ([.ref a0, .int p1, .int p2, .int p3] : List Value).toArray below meth c H locs (mxz τ - mxz σ) (mxu τ - mxu σ) (mx_Z below G P (some (.int r)) σ σ' [.ref a0, .int p1, .int p2, .int p3] s) (F0 m 45 ls [.int w0]) := by
    intro v0 v1 v2 v3 w0 τ hf _ _ hJ ls hl
    unfold f_X11_inside_D45 at hf
    obtain ⟨σ14, e15, hf⟩ := mbx_n hf
    refine mx_callS (As := [.int w0]) (rest := []) hx hb hml hts hown hK hJ rfl rfl (c_X11_needPresence l G P w0 τ σ14 e15) me_X11_needPresence kw_1243 kw_1242 (Nat.le_of_ble_eq_true rfl) (Nat.le_of_ble_eq_true rfl) rfl hl.1 rfl (Nat.le_of_ble_eq_true rfl) dX11_inside_45 (fun H locs hJ => ?_)
    refine lv_aload_n hx hb dX11_inside_48 rfl (lv_at hl 0 rfl) ?_
    obtain ⟨b16, e17, hf⟩ := mb0 hf
    refine my_gR hx hb hts hown hK hJ fd_RX11_25 hv_11_2 e17 dX11_inside_49 ?_
    refine lv_iload_n hx hb dX11_inside_52 rfl (lv_at hl 1 rfl) ?_
    obtain ⟨b18, e19, hf⟩ := mb0 hf
    refine mx_aR hx hb hK hJ (t := 6) rfl (fun _ _ _ => rfl) e19 dX11_inside_53 ?_
    refine lv_iload_n hx hb dX11_inside_54 rfl (lv_at hl 2 rfl) ?_
    refine lv_i2l hx hb dX11_inside_55 rfl ?_
    refine lv_iload_n hx hb dX11_inside_56 rfl (lv_at hl 3 rfl) ?_
    refine lv_i2l hx hb dX11_inside_57 rfl ?_
    obtain ⟨i20, e21, hf⟩ := mb0 hf
    obtain ⟨x23, σ22, e24, hf⟩ := mc0 hf
    refine mx_callV (As := [.long (v2.toInt64), .long (v3.toInt64)]) (rest := []) hx hb hml hts hown hK hJ rfl rfl (ci := 9) rfl e21 (c_X9_standing l G P b18 (v2.toInt64) (v3.toInt64) σ14 x23 σ22 e24) me_X9_standing kw_1714 kw_1715 kw_1713 (Nat.le_of_ble_eq_true rfl) (Nat.le_of_ble_eq_true rfl) rfl hl.1 rfl (Nat.le_of_ble_eq_true rfl) dX11_inside_58 (fun H locs hJ => ?_)
    exact my_iret hx hb hr hlocks hJ (mx_inr hf) dX11_inside_61
  unfold f_X11_inside at hf
  refine lv_iload_n hx hb dX11_inside_0 rfl (lv_at hl 1 rfl) ?_
  refine lv_iconst (v := 0) hx hb dX11_inside_1 (by decide) ?_
  refine lv_bipush (v := 7) hx hb dX11_inside_2 (by decide) ?_
  obtain ⟨σ1, e2, hf⟩ := mbx_n hf
  refine mx_callS (As := [.int p1, .int (0 : Int32), .int (7 : Int32)]) (rest := []) hx hb hml hts hown hK hJ rfl rfl (c_X11_needRange l G P p1 (0 : Int32) (7 : Int32) σ σ1 e2) me_X11_needRange kw_1005 kw_1004 (Nat.le_of_ble_eq_true rfl) (Nat.le_of_ble_eq_true rfl) rfl hl.1 rfl (Nat.le_of_ble_eq_true rfl) dX11_inside_4 (fun H locs hJ => ?_)
  refine lv_iload_n hx hb dX11_inside_7 rfl (lv_at hl 2 rfl) ?_
  refine lv_sipush (v := (-1000)) hx hb dX11_inside_8 (by decide) ?_
  refine lv_sipush (v := 1000) hx hb dX11_inside_11 (by decide) ?_
  obtain ⟨σ3, e4, hf⟩ := mbx_n hf
  refine mx_callS (As := [.int p2, .int (-1000 : Int32), .int (1000 : Int32)]) (rest := []) hx hb hml hts hown hK hJ rfl rfl (c_X11_needRange l G P p2 (-1000 : Int32) (1000 : Int32) σ1 σ3 e4) me_X11_needRange kw_1005 kw_1004 (Nat.le_of_ble_eq_true rfl) (Nat.le_of_ble_eq_true rfl) rfl hl.1 rfl (Nat.le_of_ble_eq_true rfl) dX11_inside_14 (fun H locs hJ => ?_)
  refine lv_iload_n hx hb dX11_inside_17 rfl (lv_at hl 3 rfl) ?_
  refine lv_sipush (v := (-1000)) hx hb dX11_inside_18 (by decide) ?_
  refine lv_sipush (v := 1000) hx hb dX11_inside_21 (by decide) ?_
  obtain ⟨σ5, e6, hf⟩ := mbx_n hf
  refine mx_callS (As := [.int p3, .int (-1000 : Int32), .int (1000 : Int32)]) (rest := []) hx hb hml hts hown hK hJ rfl rfl (c_X11_needRange l G P p3 (-1000 : Int32) (1000 : Int32) σ3 σ5 e6) me_X11_needRange kw_1005 kw_1004 (Nat.le_of_ble_eq_true rfl) (Nat.le_of_ble_eq_true rfl) rfl hl.1 rfl (Nat.le_of_ble_eq_true rfl) dX11_inside_24 (fun H locs hJ => ?_)
  refine lv_aload_n hx hb dX11_inside_27 rfl (lv_at hl 0 rfl) ?_
  obtain ⟨b7, e8, hf⟩ := mb0 hf
  refine my_gR hx hb hts hown hK hJ fd_RX11_25 hv_11_2 e8 dX11_inside_28 ?_
  refine lv_iload_n hx hb dX11_inside_31 rfl (lv_at hl 1 rfl) ?_
  obtain ⟨b9, e10, hf⟩ := mb0 hf
  refine mx_aR hx hb hK hJ (t := 6) rfl (fun _ _ _ => rfl) e10 dX11_inside_32 ?_
  obtain ⟨x11, e12, hf⟩ := mb0 hf
  refine my_gI hx hb hts hown hK hJ fd_RX11_287 hv_9_0 e12 dX11_inside_33 ?_
  refine lv_iconst (v := 3) hx hb dX11_inside_36 (by decide) ?_
  refine lv_icmp_lt (tgt := 44) hx hb dX11_inside_37 (by decide) (fun c13 => ?_) (fun c13 => ?_)
  · rw [if_pos c13] at hf
    refine lv_iconst (v := 0) hx hb dX11_inside_44 (by decide) ?_
    exact D45 a0 p1 p2 p3 (0 : Int32) σ5 hf _ _ hJ ls (lv_sub hl [0, 1, 2, 3] rfl)
  · rw [if_neg c13] at hf
    refine lv_iconst (v := 1) hx hb dX11_inside_40 (by decide) ?_
    refine lv_goto (tgt := 45) hx hb dX11_inside_41 (by decide) ?_
    exact D45 a0 p1 p2 p3 (1 : Int32) σ5 hf _ _ hJ ls (lv_sub hl [0, 1, 2, 3] rfl)
set_option maxHeartbeats 4000000 in
set_option maxRecDepth 100000 in
theorem ct_X11_inside (l : Launch) (hlt : l.stackTraces = false) (G : mx_G) (P : mx_P) (a0 : Nat) (p1 : Int32) (p2 : Int32) (p3 : Int32) (σ : mx_S) (E : String) (σ' : mx_S) (hf : f_X11_inside P a0 p1 p2 p3 σ = some (.inl (E, σ'))) : mxz σ ≤ mpc P → mxu σ ≤ mps P → mx_Mt l yX11_inside cX11_inside 4 (some .int) 7 103 G P [.ref a0, .int p1, .int p2, .int p3] σ E σ' := by
  intro hcap hcau
  refine mx_ofWt (by decide +kernel) hcap hcau (Nat.le_of_ble_eq_true rfl) ?_
  intro p e s m below meth c hx hb hr hml hts hown hlocks hname hnt hK hJ ls hl
  have hz0 := hJ.2.1
  have hown : s.vm.findClass RX11 = some m.cls := hown
  have hl : lv_has ls 4 [(0, .ref a0), (1, .int p1), (2, .int p2), (3, .int p3)] := hl
  have D45 : ∀ (v0 : Nat) (v1 : Int32) (v2 : Int32) (v3 : Int32) (w0 : Int32) (τ : mx_S), f_X11_inside_D45 P v0 v1 v2 v3 w0 τ = some (.inl (E, σ')) → ∀ (H : Heap) (locs : List Loc), mx_J G P s.heap (mxz σ) (mxu σ) τ H locs → ∀ ls : Array Slot, lv_has ls 4 [(0, .ref v0), (1, .int v1), (2, .int v2), (3, .int v3)] → W p l e (mx_rm P 7 103 σ) s m ([.ref a0, .int p1, .int p2, .int p3] : List Value).toArray below meth c H locs (mxz τ - mxz σ) (mxu τ - mxu σ) (mx_Zt below G P E σ σ' [.ref a0, .int p1, .int p2, .int p3] s) (F0 m 45 ls [.int w0]) := by
    intro v0 v1 v2 v3 w0 τ hf _ _ hJ ls hl
    unfold f_X11_inside_D45 at hf
    rcases mbx_t hf with e15 | ⟨σ14, e15, hf⟩
    · exact mx_callST (As := [.int w0]) (rest := []) hx hb hml hts hown hK hJ rfl rfl hnt hlocks (ct_X11_needPresence l hlt G P w0 τ E σ' e15) me_X11_needPresence kw_1243 kw_1242 (Nat.le_of_ble_eq_true rfl) (Nat.le_of_ble_eq_true rfl) rfl hl.1 rfl (Nat.le_of_ble_eq_true rfl) dX11_inside_45
    refine mx_callS (As := [.int w0]) (rest := []) hx hb hml hts hown hK hJ rfl rfl (c_X11_needPresence l G P w0 τ σ14 e15) me_X11_needPresence kw_1243 kw_1242 (Nat.le_of_ble_eq_true rfl) (Nat.le_of_ble_eq_true rfl) rfl hl.1 rfl (Nat.le_of_ble_eq_true rfl) dX11_inside_45 (fun H locs hJ => ?_)
    refine lv_aload_n hx hb dX11_inside_48 rfl (lv_at hl 0 rfl) ?_
    obtain ⟨b16, e17, hf⟩ := mb0 hf
    refine my_gR hx hb hts hown hK hJ fd_RX11_25 hv_11_2 e17 dX11_inside_49 ?_
    refine lv_iload_n hx hb dX11_inside_52 rfl (lv_at hl 1 rfl) ?_
    obtain ⟨b18, e19, hf⟩ := mb0 hf
    refine mx_aR hx hb hK hJ (t := 6) rfl (fun _ _ _ => rfl) e19 dX11_inside_53 ?_
    refine lv_iload_n hx hb dX11_inside_54 rfl (lv_at hl 2 rfl) ?_
    refine lv_i2l hx hb dX11_inside_55 rfl ?_
    refine lv_iload_n hx hb dX11_inside_56 rfl (lv_at hl 3 rfl) ?_
    refine lv_i2l hx hb dX11_inside_57 rfl ?_
    obtain ⟨i20, e21, hf⟩ := mb0 hf
    obtain ⟨x23, σ22, e24, hf⟩ := mc0 hf
    refine mx_callV (As := [.long (v2.toInt64), .long (v3.toInt64)]) (rest := []) hx hb hml hts hown hK hJ rfl rfl (ci := 9) rfl e21 (c_X9_standing l G P b18 (v2.toInt64) (v3.toInt64) σ14 x23 σ22 e24) me_X9_standing kw_1714 kw_1715 kw_1713 (Nat.le_of_ble_eq_true rfl) (Nat.le_of_ble_eq_true rfl) rfl hl.1 rfl (Nat.le_of_ble_eq_true rfl) dX11_inside_58 (fun H locs hJ => ?_)
    cases hf
  unfold f_X11_inside at hf
  refine lv_iload_n hx hb dX11_inside_0 rfl (lv_at hl 1 rfl) ?_
  refine lv_iconst (v := 0) hx hb dX11_inside_1 (by decide) ?_
  refine lv_bipush (v := 7) hx hb dX11_inside_2 (by decide) ?_
  rcases mbx_t hf with e2 | ⟨σ1, e2, hf⟩
  · exact mx_callST (As := [.int p1, .int (0 : Int32), .int (7 : Int32)]) (rest := []) hx hb hml hts hown hK hJ rfl rfl hnt hlocks (ct_X11_needRange l hlt G P p1 (0 : Int32) (7 : Int32) σ E σ' e2) me_X11_needRange kw_1005 kw_1004 (Nat.le_of_ble_eq_true rfl) (Nat.le_of_ble_eq_true rfl) rfl hl.1 rfl (Nat.le_of_ble_eq_true rfl) dX11_inside_4
  refine mx_callS (As := [.int p1, .int (0 : Int32), .int (7 : Int32)]) (rest := []) hx hb hml hts hown hK hJ rfl rfl (c_X11_needRange l G P p1 (0 : Int32) (7 : Int32) σ σ1 e2) me_X11_needRange kw_1005 kw_1004 (Nat.le_of_ble_eq_true rfl) (Nat.le_of_ble_eq_true rfl) rfl hl.1 rfl (Nat.le_of_ble_eq_true rfl) dX11_inside_4 (fun H locs hJ => ?_)
  refine lv_iload_n hx hb dX11_inside_7 rfl (lv_at hl 2 rfl) ?_
  refine lv_sipush (v := (-1000)) hx hb dX11_inside_8 (by decide) ?_
  refine lv_sipush (v := 1000) hx hb dX11_inside_11 (by decide) ?_
  rcases mbx_t hf with e4 | ⟨σ3, e4, hf⟩
  · exact mx_callST (As := [.int p2, .int (-1000 : Int32), .int (1000 : Int32)]) (rest := []) hx hb hml hts hown hK hJ rfl rfl hnt hlocks (ct_X11_needRange l hlt G P p2 (-1000 : Int32) (1000 : Int32) σ1 E σ' e4) me_X11_needRange kw_1005 kw_1004 (Nat.le_of_ble_eq_true rfl) (Nat.le_of_ble_eq_true rfl) rfl hl.1 rfl (Nat.le_of_ble_eq_true rfl) dX11_inside_14
  refine mx_callS (As := [.int p2, .int (-1000 : Int32), .int (1000 : Int32)]) (rest := []) hx hb hml hts hown hK hJ rfl rfl (c_X11_needRange l G P p2 (-1000 : Int32) (1000 : Int32) σ1 σ3 e4) me_X11_needRange kw_1005 kw_1004 (Nat.le_of_ble_eq_true rfl) (Nat.le_of_ble_eq_true rfl) rfl hl.1 rfl (Nat.le_of_ble_eq_true rfl) dX11_inside_14 (fun H locs hJ => ?_)
  refine lv_iload_n hx hb dX11_inside_17 rfl (lv_at hl 3 rfl) ?_
  refine lv_sipush (v := (-1000)) hx hb dX11_inside_18 (by decide) ?_
  refine lv_sipush (v := 1000) hx hb dX11_inside_21 (by decide) ?_
  rcases mbx_t hf with e6 | ⟨σ5, e6, hf⟩
  · exact mx_callST (As := [.int p3, .int (-1000 : Int32), .int (1000 : Int32)]) (rest := []) hx hb hml hts hown hK hJ rfl rfl hnt hlocks (ct_X11_needRange l hlt G P p3 (-1000 : Int32) (1000 : Int32) σ3 E σ' e6) me_X11_needRange kw_1005 kw_1004 (Nat.le_of_ble_eq_true rfl) (Nat.le_of_ble_eq_true rfl) rfl hl.1 rfl (Nat.le_of_ble_eq_true rfl) dX11_inside_24
  refine mx_callS (As := [.int p3, .int (-1000 : Int32), .int (1000 : Int32)]) (rest := []) hx hb hml hts hown hK hJ rfl rfl (c_X11_needRange l G P p3 (-1000 : Int32) (1000 : Int32) σ3 σ5 e6) me_X11_needRange kw_1005 kw_1004 (Nat.le_of_ble_eq_true rfl) (Nat.le_of_ble_eq_true rfl) rfl hl.1 rfl (Nat.le_of_ble_eq_true rfl) dX11_inside_24 (fun H locs hJ => ?_)
  refine lv_aload_n hx hb dX11_inside_27 rfl (lv_at hl 0 rfl) ?_
  obtain ⟨b7, e8, hf⟩ := mb0 hf
  refine my_gR hx hb hts hown hK hJ fd_RX11_25 hv_11_2 e8 dX11_inside_28 ?_
  refine lv_iload_n hx hb dX11_inside_31 rfl (lv_at hl 1 rfl) ?_
  obtain ⟨b9, e10, hf⟩ := mb0 hf
  refine mx_aR hx hb hK hJ (t := 6) rfl (fun _ _ _ => rfl) e10 dX11_inside_32 ?_
  obtain ⟨x11, e12, hf⟩ := mb0 hf
  refine my_gI hx hb hts hown hK hJ fd_RX11_287 hv_9_0 e12 dX11_inside_33 ?_
  refine lv_iconst (v := 3) hx hb dX11_inside_36 (by decide) ?_
  refine lv_icmp_lt (tgt := 44) hx hb dX11_inside_37 (by decide) (fun c13 => ?_) (fun c13 => ?_)
  · rw [if_pos c13] at hf
    refine lv_iconst (v := 0) hx hb dX11_inside_44 (by decide) ?_
    exact D45 a0 p1 p2 p3 (0 : Int32) σ5 hf _ _ hJ ls (lv_sub hl [0, 1, 2, 3] rfl)
  · rw [if_neg c13] at hf
    refine lv_iconst (v := 1) hx hb dX11_inside_40 (by decide) ?_
    refine lv_goto (tgt := 45) hx hb dX11_inside_41 (by decide) ?_
    exact D45 a0 p1 p2 p3 (1 : Int32) σ5 hf _ _ hJ ls (lv_sub hl [0, 1, 2, 3] rfl)
set_option maxHeartbeats 4000000 in
set_option maxRecDepth 100000 in
theorem c_X11_distance (l : Launch) (G : mx_G) (P : mx_P) (a0 : Nat) (p1 : Int32) (p2 : Int32) (p3 : Int32) (σ : mx_S) (r : Int64) (σ' : mx_S) (hf : f_X11_distance P a0 p1 p2 p3 σ = some (.inr (r, σ'))) : mxz σ ≤ mpc P → mxu σ ≤ mps P → mx_M l yX11_distance cX11_distance 4 (some .long) 7 194 G P [.ref a0, .int p1, .int p2, .int p3] σ (some (.long r)) σ' := by
  intro hcap hcau
  refine mx_ofW (by decide +kernel) hcap hcau (Nat.le_of_ble_eq_true rfl) ?_
  intro p e s m below meth c hx hb hr hml hts hown hlocks hname hK hJ ls hl
  have hz0 := hJ.2.1
  have hown : s.vm.findClass RX11 = some m.cls := hown
  have hl : lv_has ls 4 [(0, .ref a0), (1, .int p1), (2, .int p2), (3, .int p3)] := hl
  have D51 : ∀ (v0 : Nat) (v1 : Int32) (v2 : Int32) (v3 : Int32) (w0 : Int32) (τ : mx_S), f_X11_distance_D51 P v0 v1 v2 v3 w0 τ = some (.inr (r, σ')) → ∀ (H : Heap) (locs : List Loc), mx_J G P s.heap (mxz σ) (mxu σ) τ H locs → ∀ ls : Array Slot, lv_has ls 4 [(0, .ref v0), (1, .int v1), (2, .int v2), (3, .int v3)] → W p l e (mx_rm P 7 194 σ) s m ([.ref a0, .int p1, .int p2, .int p3] : List Value).toArray below meth c H locs (mxz τ - mxz σ) (mxu τ - mxu σ) (mx_Z below G P (some (.long r)) σ σ' [.ref a0, .int p1, .int p2, .int p3] s) (F0 m 51 ls [.int w0]) := by
    intro v0 v1 v2 v3 w0 τ hf _ _ hJ ls hl
    unfold f_X11_distance_D51 at hf
    obtain ⟨σ14, e15, hf⟩ := mbx_n hf
    refine mx_callS (As := [.int w0]) (rest := []) hx hb hml hts hown hK hJ rfl rfl (c_X11_needPresence l G P w0 τ σ14 e15) me_X11_needPresence kw_1243 kw_1242 (Nat.le_of_ble_eq_true rfl) (Nat.le_of_ble_eq_true rfl) rfl hl.1 rfl (Nat.le_of_ble_eq_true rfl) dX11_distance_51 (fun H locs hJ => ?_)
    refine lv_aload_n hx hb dX11_distance_54 rfl (lv_at hl 0 rfl) ?_
    obtain ⟨b16, e17, hf⟩ := mb0 hf
    refine my_gR hx hb hts hown hK hJ fd_RX11_25 hv_11_2 e17 dX11_distance_55 ?_
    refine lv_iload_n hx hb dX11_distance_58 rfl (lv_at hl 1 rfl) ?_
    obtain ⟨b18, e19, hf⟩ := mb0 hf
    refine mx_aR hx hb hK hJ (t := 6) rfl (fun _ _ _ => rfl) e19 dX11_distance_59 ?_
    refine lv_aload_n hx hb dX11_distance_60 rfl (lv_at hl 0 rfl) ?_
    obtain ⟨b20, e21, hf⟩ := mb0 hf
    refine my_gR hx hb hts hown hK hJ fd_RX11_25 hv_11_2 e21 dX11_distance_61 ?_
    refine lv_iload_n hx hb dX11_distance_64 rfl (lv_at hl 2 rfl) ?_
    obtain ⟨b22, e23, hf⟩ := mb0 hf
    refine mx_aR hx hb hK hJ (t := 6) rfl (fun _ _ _ => rfl) e23 dX11_distance_65 ?_
    refine lv_aload_n hx hb dX11_distance_66 rfl (lv_at hl 0 rfl) ?_
    obtain ⟨b24, e25, hf⟩ := mb0 hf
    refine my_gR hx hb hts hown hK hJ fd_RX11_47 hv_11_5 e25 dX11_distance_67 ?_
    obtain ⟨i26, e27, hf⟩ := mb0 hf
    obtain ⟨σ28, e29, hf⟩ := mb0 hf
    refine mx_callV (As := [.ref b22, .ref b24]) (rest := []) hx hb hml hts hown hK hJ rfl rfl (ci := 9) rfl e27 (c_X9_reckonGap l G P b18 b22 b24 σ14 σ28 e29) me_X9_reckonGap kw_1725 kw_1726 kw_1724 (Nat.le_of_ble_eq_true rfl) (Nat.le_of_ble_eq_true rfl) rfl hl.1 rfl (Nat.le_of_ble_eq_true rfl) dX11_distance_70 (fun H locs hJ => ?_)
    refine lv_aload_n hx hb dX11_distance_73 rfl (lv_at hl 0 rfl) ?_
    obtain ⟨b30, e31, hf⟩ := mb0 hf
    refine my_gR hx hb hts hown hK hJ fd_RX11_47 hv_11_5 e31 dX11_distance_74 ?_
    refine lv_iload_n hx hb dX11_distance_77 rfl (lv_at hl 3 rfl) ?_
    obtain ⟨i32, e33, hf⟩ := mb0 hf
    obtain ⟨x35, σ34, e36, hf⟩ := mc0 hf
    refine mx_callV (As := [.int v3]) (rest := []) hx hb hml hts hown hK hJ rfl rfl (ci := 3) rfl e33 (c_X3_number l G P b30 v3 σ28 x35 σ34 e36) me_X3_number kw_1489 kw_1490 kw_1488 (Nat.le_of_ble_eq_true rfl) (Nat.le_of_ble_eq_true rfl) rfl hl.1 rfl (Nat.le_of_ble_eq_true rfl) dX11_distance_78 (fun H locs hJ => ?_)
    exact my_lret hx hb hr hlocks hJ (mx_inr hf) dX11_distance_81
  have D50 : ∀ (v0 : Nat) (v1 : Int32) (v2 : Int32) (v3 : Int32) (τ : mx_S), f_X11_distance_D50 P v0 v1 v2 v3 τ = some (.inr (r, σ')) → ∀ (H : Heap) (locs : List Loc), mx_J G P s.heap (mxz σ) (mxu σ) τ H locs → ∀ ls : Array Slot, lv_has ls 4 [(0, .ref v0), (1, .int v1), (2, .int v2), (3, .int v3)] → W p l e (mx_rm P 7 194 σ) s m ([.ref a0, .int p1, .int p2, .int p3] : List Value).toArray below meth c H locs (mxz τ - mxz σ) (mxu τ - mxu σ) (mx_Z below G P (some (.long r)) σ σ' [.ref a0, .int p1, .int p2, .int p3] s) (F0 m 50 ls []) := by
    intro v0 v1 v2 v3 τ hf _ _ hJ ls hl
    unfold f_X11_distance_D50 at hf
    refine lv_iconst (v := 0) hx hb dX11_distance_50 (by decide) ?_
    exact D51 v0 v1 v2 v3 (0 : Int32) τ hf _ _ hJ ls (lv_sub hl [0, 1, 2, 3] rfl)
  unfold f_X11_distance at hf
  refine lv_iload_n hx hb dX11_distance_0 rfl (lv_at hl 1 rfl) ?_
  refine lv_iconst (v := 0) hx hb dX11_distance_1 (by decide) ?_
  refine lv_bipush (v := 7) hx hb dX11_distance_2 (by decide) ?_
  obtain ⟨σ1, e2, hf⟩ := mbx_n hf
  refine mx_callS (As := [.int p1, .int (0 : Int32), .int (7 : Int32)]) (rest := []) hx hb hml hts hown hK hJ rfl rfl (c_X11_needRange l G P p1 (0 : Int32) (7 : Int32) σ σ1 e2) me_X11_needRange kw_1005 kw_1004 (Nat.le_of_ble_eq_true rfl) (Nat.le_of_ble_eq_true rfl) rfl hl.1 rfl (Nat.le_of_ble_eq_true rfl) dX11_distance_4 (fun H locs hJ => ?_)
  refine lv_iload_n hx hb dX11_distance_7 rfl (lv_at hl 2 rfl) ?_
  refine lv_iconst (v := 0) hx hb dX11_distance_8 (by decide) ?_
  refine lv_bipush (v := 7) hx hb dX11_distance_9 (by decide) ?_
  obtain ⟨σ3, e4, hf⟩ := mbx_n hf
  refine mx_callS (As := [.int p2, .int (0 : Int32), .int (7 : Int32)]) (rest := []) hx hb hml hts hown hK hJ rfl rfl (c_X11_needRange l G P p2 (0 : Int32) (7 : Int32) σ1 σ3 e4) me_X11_needRange kw_1005 kw_1004 (Nat.le_of_ble_eq_true rfl) (Nat.le_of_ble_eq_true rfl) rfl hl.1 rfl (Nat.le_of_ble_eq_true rfl) dX11_distance_11 (fun H locs hJ => ?_)
  refine lv_iload_n hx hb dX11_distance_14 rfl (lv_at hl 3 rfl) ?_
  refine lv_iconst (v := 0) hx hb dX11_distance_15 (by decide) ?_
  refine lv_iconst (v := 1) hx hb dX11_distance_16 (by decide) ?_
  obtain ⟨σ5, e6, hf⟩ := mbx_n hf
  refine mx_callS (As := [.int p3, .int (0 : Int32), .int (1 : Int32)]) (rest := []) hx hb hml hts hown hK hJ rfl rfl (c_X11_needRange l G P p3 (0 : Int32) (1 : Int32) σ3 σ5 e6) me_X11_needRange kw_1005 kw_1004 (Nat.le_of_ble_eq_true rfl) (Nat.le_of_ble_eq_true rfl) rfl hl.1 rfl (Nat.le_of_ble_eq_true rfl) dX11_distance_17 (fun H locs hJ => ?_)
  refine lv_aload_n hx hb dX11_distance_20 rfl (lv_at hl 0 rfl) ?_
  obtain ⟨b7, e8, hf⟩ := mb0 hf
  refine my_gR hx hb hts hown hK hJ fd_RX11_25 hv_11_2 e8 dX11_distance_21 ?_
  refine lv_iload_n hx hb dX11_distance_24 rfl (lv_at hl 1 rfl) ?_
  obtain ⟨b9, e10, hf⟩ := mb0 hf
  refine mx_aR hx hb hK hJ (t := 6) rfl (fun _ _ _ => rfl) e10 dX11_distance_25 ?_
  obtain ⟨x11, e12, hf⟩ := mb0 hf
  refine my_gI hx hb hts hown hK hJ fd_RX11_287 hv_9_0 e12 dX11_distance_26 ?_
  refine lv_iconst (v := 3) hx hb dX11_distance_29 (by decide) ?_
  refine lv_icmp_lt (tgt := 50) hx hb dX11_distance_30 (by decide) (fun c13 => ?_) (fun c13 => ?_)
  · rw [if_pos c13] at hf
    exact D50 a0 p1 p2 p3 σ5 hf _ _ hJ ls (lv_sub hl [0, 1, 2, 3] rfl)
  · rw [if_neg c13] at hf
    refine lv_aload_n hx hb dX11_distance_33 rfl (lv_at hl 0 rfl) ?_
    obtain ⟨b37, e38, hf⟩ := mb0 hf
    refine my_gR hx hb hts hown hK hJ fd_RX11_25 hv_11_2 e38 dX11_distance_34 ?_
    refine lv_iload_n hx hb dX11_distance_37 rfl (lv_at hl 2 rfl) ?_
    obtain ⟨b39, e40, hf⟩ := mb0 hf
    refine mx_aR hx hb hK hJ (t := 6) rfl (fun _ _ _ => rfl) e40 dX11_distance_38 ?_
    obtain ⟨x41, e42, hf⟩ := mb0 hf
    refine my_gI hx hb hts hown hK hJ fd_RX11_287 hv_9_0 e42 dX11_distance_39 ?_
    refine lv_iconst (v := 3) hx hb dX11_distance_42 (by decide) ?_
    refine lv_icmp_lt (tgt := 50) hx hb dX11_distance_43 (by decide) (fun c43 => ?_) (fun c43 => ?_)
    · rw [if_pos c43] at hf
      exact D50 a0 p1 p2 p3 σ5 hf _ _ hJ ls (lv_sub hl [0, 1, 2, 3] rfl)
    · rw [if_neg c43] at hf
      refine lv_iconst (v := 1) hx hb dX11_distance_46 (by decide) ?_
      refine lv_goto (tgt := 51) hx hb dX11_distance_47 (by decide) ?_
      exact D51 a0 p1 p2 p3 (1 : Int32) σ5 hf _ _ hJ ls (lv_sub hl [0, 1, 2, 3] rfl)
set_option maxHeartbeats 4000000 in
set_option maxRecDepth 100000 in
theorem ct_X11_distance (l : Launch) (hlt : l.stackTraces = false) (G : mx_G) (P : mx_P) (a0 : Nat) (p1 : Int32) (p2 : Int32) (p3 : Int32) (σ : mx_S) (E : String) (σ' : mx_S) (hf : f_X11_distance P a0 p1 p2 p3 σ = some (.inl (E, σ'))) : mxz σ ≤ mpc P → mxu σ ≤ mps P → mx_Mt l yX11_distance cX11_distance 4 (some .long) 7 194 G P [.ref a0, .int p1, .int p2, .int p3] σ E σ' := by
  intro hcap hcau
  refine mx_ofWt (by decide +kernel) hcap hcau (Nat.le_of_ble_eq_true rfl) ?_
  intro p e s m below meth c hx hb hr hml hts hown hlocks hname hnt hK hJ ls hl
  have hz0 := hJ.2.1
  have hown : s.vm.findClass RX11 = some m.cls := hown
  have hl : lv_has ls 4 [(0, .ref a0), (1, .int p1), (2, .int p2), (3, .int p3)] := hl
  have D51 : ∀ (v0 : Nat) (v1 : Int32) (v2 : Int32) (v3 : Int32) (w0 : Int32) (τ : mx_S), f_X11_distance_D51 P v0 v1 v2 v3 w0 τ = some (.inl (E, σ')) → ∀ (H : Heap) (locs : List Loc), mx_J G P s.heap (mxz σ) (mxu σ) τ H locs → ∀ ls : Array Slot, lv_has ls 4 [(0, .ref v0), (1, .int v1), (2, .int v2), (3, .int v3)] → W p l e (mx_rm P 7 194 σ) s m ([.ref a0, .int p1, .int p2, .int p3] : List Value).toArray below meth c H locs (mxz τ - mxz σ) (mxu τ - mxu σ) (mx_Zt below G P E σ σ' [.ref a0, .int p1, .int p2, .int p3] s) (F0 m 51 ls [.int w0]) := by
    intro v0 v1 v2 v3 w0 τ hf _ _ hJ ls hl
    unfold f_X11_distance_D51 at hf
    rcases mbx_t hf with e15 | ⟨σ14, e15, hf⟩
    · exact mx_callST (As := [.int w0]) (rest := []) hx hb hml hts hown hK hJ rfl rfl hnt hlocks (ct_X11_needPresence l hlt G P w0 τ E σ' e15) me_X11_needPresence kw_1243 kw_1242 (Nat.le_of_ble_eq_true rfl) (Nat.le_of_ble_eq_true rfl) rfl hl.1 rfl (Nat.le_of_ble_eq_true rfl) dX11_distance_51
    refine mx_callS (As := [.int w0]) (rest := []) hx hb hml hts hown hK hJ rfl rfl (c_X11_needPresence l G P w0 τ σ14 e15) me_X11_needPresence kw_1243 kw_1242 (Nat.le_of_ble_eq_true rfl) (Nat.le_of_ble_eq_true rfl) rfl hl.1 rfl (Nat.le_of_ble_eq_true rfl) dX11_distance_51 (fun H locs hJ => ?_)
    refine lv_aload_n hx hb dX11_distance_54 rfl (lv_at hl 0 rfl) ?_
    obtain ⟨b16, e17, hf⟩ := mb0 hf
    refine my_gR hx hb hts hown hK hJ fd_RX11_25 hv_11_2 e17 dX11_distance_55 ?_
    refine lv_iload_n hx hb dX11_distance_58 rfl (lv_at hl 1 rfl) ?_
    obtain ⟨b18, e19, hf⟩ := mb0 hf
    refine mx_aR hx hb hK hJ (t := 6) rfl (fun _ _ _ => rfl) e19 dX11_distance_59 ?_
    refine lv_aload_n hx hb dX11_distance_60 rfl (lv_at hl 0 rfl) ?_
    obtain ⟨b20, e21, hf⟩ := mb0 hf
    refine my_gR hx hb hts hown hK hJ fd_RX11_25 hv_11_2 e21 dX11_distance_61 ?_
    refine lv_iload_n hx hb dX11_distance_64 rfl (lv_at hl 2 rfl) ?_
    obtain ⟨b22, e23, hf⟩ := mb0 hf
    refine mx_aR hx hb hK hJ (t := 6) rfl (fun _ _ _ => rfl) e23 dX11_distance_65 ?_
    refine lv_aload_n hx hb dX11_distance_66 rfl (lv_at hl 0 rfl) ?_
    obtain ⟨b24, e25, hf⟩ := mb0 hf
    refine my_gR hx hb hts hown hK hJ fd_RX11_47 hv_11_5 e25 dX11_distance_67 ?_
    obtain ⟨i26, e27, hf⟩ := mb0 hf
    obtain ⟨σ28, e29, hf⟩ := mb0 hf
    refine mx_callV (As := [.ref b22, .ref b24]) (rest := []) hx hb hml hts hown hK hJ rfl rfl (ci := 9) rfl e27 (c_X9_reckonGap l G P b18 b22 b24 σ14 σ28 e29) me_X9_reckonGap kw_1725 kw_1726 kw_1724 (Nat.le_of_ble_eq_true rfl) (Nat.le_of_ble_eq_true rfl) rfl hl.1 rfl (Nat.le_of_ble_eq_true rfl) dX11_distance_70 (fun H locs hJ => ?_)
    refine lv_aload_n hx hb dX11_distance_73 rfl (lv_at hl 0 rfl) ?_
    obtain ⟨b30, e31, hf⟩ := mb0 hf
    refine my_gR hx hb hts hown hK hJ fd_RX11_47 hv_11_5 e31 dX11_distance_74 ?_
    refine lv_iload_n hx hb dX11_distance_77 rfl (lv_at hl 3 rfl) ?_
    obtain ⟨i32, e33, hf⟩ := mb0 hf
    obtain ⟨x35, σ34, e36, hf⟩ := mc0 hf
    refine mx_callV (As := [.int v3]) (rest := []) hx hb hml hts hown hK hJ rfl rfl (ci := 3) rfl e33 (c_X3_number l G P b30 v3 σ28 x35 σ34 e36) me_X3_number kw_1489 kw_1490 kw_1488 (Nat.le_of_ble_eq_true rfl) (Nat.le_of_ble_eq_true rfl) rfl hl.1 rfl (Nat.le_of_ble_eq_true rfl) dX11_distance_78 (fun H locs hJ => ?_)
    cases hf
  have D50 : ∀ (v0 : Nat) (v1 : Int32) (v2 : Int32) (v3 : Int32) (τ : mx_S), f_X11_distance_D50 P v0 v1 v2 v3 τ = some (.inl (E, σ')) → ∀ (H : Heap) (locs : List Loc), mx_J G P s.heap (mxz σ) (mxu σ) τ H locs → ∀ ls : Array Slot, lv_has ls 4 [(0, .ref v0), (1, .int v1), (2, .int v2), (3, .int v3)] → W p l e (mx_rm P 7 194 σ) s m ([.ref a0, .int p1, .int p2, .int p3] : List Value).toArray below meth c H locs (mxz τ - mxz σ) (mxu τ - mxu σ) (mx_Zt below G P E σ σ' [.ref a0, .int p1, .int p2, .int p3] s) (F0 m 50 ls []) := by
    intro v0 v1 v2 v3 τ hf _ _ hJ ls hl
    unfold f_X11_distance_D50 at hf
    refine lv_iconst (v := 0) hx hb dX11_distance_50 (by decide) ?_
    exact D51 v0 v1 v2 v3 (0 : Int32) τ hf _ _ hJ ls (lv_sub hl [0, 1, 2, 3] rfl)
  unfold f_X11_distance at hf
  refine lv_iload_n hx hb dX11_distance_0 rfl (lv_at hl 1 rfl) ?_
  refine lv_iconst (v := 0) hx hb dX11_distance_1 (by decide) ?_
  refine lv_bipush (v := 7) hx hb dX11_distance_2 (by decide) ?_
  rcases mbx_t hf with e2 | ⟨σ1, e2, hf⟩
  · exact mx_callST (As := [.int p1, .int (0 : Int32), .int (7 : Int32)]) (rest := []) hx hb hml hts hown hK hJ rfl rfl hnt hlocks (ct_X11_needRange l hlt G P p1 (0 : Int32) (7 : Int32) σ E σ' e2) me_X11_needRange kw_1005 kw_1004 (Nat.le_of_ble_eq_true rfl) (Nat.le_of_ble_eq_true rfl) rfl hl.1 rfl (Nat.le_of_ble_eq_true rfl) dX11_distance_4
  refine mx_callS (As := [.int p1, .int (0 : Int32), .int (7 : Int32)]) (rest := []) hx hb hml hts hown hK hJ rfl rfl (c_X11_needRange l G P p1 (0 : Int32) (7 : Int32) σ σ1 e2) me_X11_needRange kw_1005 kw_1004 (Nat.le_of_ble_eq_true rfl) (Nat.le_of_ble_eq_true rfl) rfl hl.1 rfl (Nat.le_of_ble_eq_true rfl) dX11_distance_4 (fun H locs hJ => ?_)
  refine lv_iload_n hx hb dX11_distance_7 rfl (lv_at hl 2 rfl) ?_
  refine lv_iconst (v := 0) hx hb dX11_distance_8 (by decide) ?_
  refine lv_bipush (v := 7) hx hb dX11_distance_9 (by decide) ?_
  rcases mbx_t hf with e4 | ⟨σ3, e4, hf⟩
  · exact mx_callST (As := [.int p2, .int (0 : Int32), .int (7 : Int32)]) (rest := []) hx hb hml hts hown hK hJ rfl rfl hnt hlocks (ct_X11_needRange l hlt G P p2 (0 : Int32) (7 : Int32) σ1 E σ' e4) me_X11_needRange kw_1005 kw_1004 (Nat.le_of_ble_eq_true rfl) (Nat.le_of_ble_eq_true rfl) rfl hl.1 rfl (Nat.le_of_ble_eq_true rfl) dX11_distance_11
  refine mx_callS (As := [.int p2, .int (0 : Int32), .int (7 : Int32)]) (rest := []) hx hb hml hts hown hK hJ rfl rfl (c_X11_needRange l G P p2 (0 : Int32) (7 : Int32) σ1 σ3 e4) me_X11_needRange kw_1005 kw_1004 (Nat.le_of_ble_eq_true rfl) (Nat.le_of_ble_eq_true rfl) rfl hl.1 rfl (Nat.le_of_ble_eq_true rfl) dX11_distance_11 (fun H locs hJ => ?_)
  refine lv_iload_n hx hb dX11_distance_14 rfl (lv_at hl 3 rfl) ?_
  refine lv_iconst (v := 0) hx hb dX11_distance_15 (by decide) ?_
  refine lv_iconst (v := 1) hx hb dX11_distance_16 (by decide) ?_
  rcases mbx_t hf with e6 | ⟨σ5, e6, hf⟩
  · exact mx_callST (As := [.int p3, .int (0 : Int32), .int (1 : Int32)]) (rest := []) hx hb hml hts hown hK hJ rfl rfl hnt hlocks (ct_X11_needRange l hlt G P p3 (0 : Int32) (1 : Int32) σ3 E σ' e6) me_X11_needRange kw_1005 kw_1004 (Nat.le_of_ble_eq_true rfl) (Nat.le_of_ble_eq_true rfl) rfl hl.1 rfl (Nat.le_of_ble_eq_true rfl) dX11_distance_17
  refine mx_callS (As := [.int p3, .int (0 : Int32), .int (1 : Int32)]) (rest := []) hx hb hml hts hown hK hJ rfl rfl (c_X11_needRange l G P p3 (0 : Int32) (1 : Int32) σ3 σ5 e6) me_X11_needRange kw_1005 kw_1004 (Nat.le_of_ble_eq_true rfl) (Nat.le_of_ble_eq_true rfl) rfl hl.1 rfl (Nat.le_of_ble_eq_true rfl) dX11_distance_17 (fun H locs hJ => ?_)
  refine lv_aload_n hx hb dX11_distance_20 rfl (lv_at hl 0 rfl) ?_
  obtain ⟨b7, e8, hf⟩ := mb0 hf
  refine my_gR hx hb hts hown hK hJ fd_RX11_25 hv_11_2 e8 dX11_distance_21 ?_
  refine lv_iload_n hx hb dX11_distance_24 rfl (lv_at hl 1 rfl) ?_
  obtain ⟨b9, e10, hf⟩ := mb0 hf
  refine mx_aR hx hb hK hJ (t := 6) rfl (fun _ _ _ => rfl) e10 dX11_distance_25 ?_
  obtain ⟨x11, e12, hf⟩ := mb0 hf
  refine my_gI hx hb hts hown hK hJ fd_RX11_287 hv_9_0 e12 dX11_distance_26 ?_
  refine lv_iconst (v := 3) hx hb dX11_distance_29 (by decide) ?_
  refine lv_icmp_lt (tgt := 50) hx hb dX11_distance_30 (by decide) (fun c13 => ?_) (fun c13 => ?_)
  · rw [if_pos c13] at hf
    exact D50 a0 p1 p2 p3 σ5 hf _ _ hJ ls (lv_sub hl [0, 1, 2, 3] rfl)
  · rw [if_neg c13] at hf
    refine lv_aload_n hx hb dX11_distance_33 rfl (lv_at hl 0 rfl) ?_
    obtain ⟨b37, e38, hf⟩ := mb0 hf
    refine my_gR hx hb hts hown hK hJ fd_RX11_25 hv_11_2 e38 dX11_distance_34 ?_
    refine lv_iload_n hx hb dX11_distance_37 rfl (lv_at hl 2 rfl) ?_
    obtain ⟨b39, e40, hf⟩ := mb0 hf
    refine mx_aR hx hb hK hJ (t := 6) rfl (fun _ _ _ => rfl) e40 dX11_distance_38 ?_
    obtain ⟨x41, e42, hf⟩ := mb0 hf
    refine my_gI hx hb hts hown hK hJ fd_RX11_287 hv_9_0 e42 dX11_distance_39 ?_
    refine lv_iconst (v := 3) hx hb dX11_distance_42 (by decide) ?_
    refine lv_icmp_lt (tgt := 50) hx hb dX11_distance_43 (by decide) (fun c43 => ?_) (fun c43 => ?_)
    · rw [if_pos c43] at hf
      exact D50 a0 p1 p2 p3 σ5 hf _ _ hJ ls (lv_sub hl [0, 1, 2, 3] rfl)
    · rw [if_neg c43] at hf
      refine lv_iconst (v := 1) hx hb dX11_distance_46 (by decide) ?_
      refine lv_goto (tgt := 51) hx hb dX11_distance_47 (by decide) ?_
      exact D51 a0 p1 p2 p3 (1 : Int32) σ5 hf _ _ hJ ls (lv_sub hl [0, 1, 2, 3] rfl)
