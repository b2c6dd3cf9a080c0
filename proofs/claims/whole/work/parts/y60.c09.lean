set_option maxHeartbeats 4000000 in
set_option maxRecDepth 100000 in
theorem c_X11_kinds (l : Launch) (G : mx_G) (P : mx_P) (a0 : Nat) (p1 : Int32) (p2 : Int32) (σ : mx_S) (r : Int32) (σ' : mx_S) (hf : f_X11_kinds P a0 p1 p2 σ = some (.inr (r, σ'))) : mxz σ ≤ mpc P → mxu σ ≤ mps P → mx_M l yX11_kinds cX11_kinds 3 (some .int) 7 103 G P [.ref a0, .int p1, .int p2] σ (some (.int r)) σ' := by
  intro hcap hcau
  refine mx_ofW (by decide +kernel) hcap hcau (Nat.le_of_ble_eq_true rfl) ?_
  intro p e s m below meth c hx hb hr hml hts hown hlocks hname hK hJ ls hl
  have hz0 := hJ.2.1
  have hown : s.vm.findClass RX11 = some m.cls := hown
  have hl : lv_has ls 3 [(0, .ref a0), (1, .int p1), (2, .int p2)] := hl
  unfold f_X11_kinds at hf
  refine lv_iload_n hx hb dX11_kinds_0 rfl (lv_at hl 1 rfl) ?_
  refine lv_iconst (v := 3) hx hb dX11_kinds_1 (by decide) ?_
  refine lv_bipush (v := 6) hx hb dX11_kinds_2 (by decide) ?_
  obtain ⟨σ1, e2, hf⟩ := mbx_n hf
  refine mx_callS (As := [.int p1, .int (3 : Int32), .int (6 : Int32)]) (rest := []) hx hb hml hts hown hK hJ rfl rfl (c_X11_needRange l G P p1 (3 : Int32) (6 : Int32) σ σ1 e2) me_X11_needRange kw_1005 kw_1004 (Nat.le_of_ble_eq_true rfl) (Nat.le_of_ble_eq_true rfl) rfl hl.1 rfl (Nat.le_of_ble_eq_true rfl) dX11_kinds_4 (fun H locs hJ => ?_)
  refine lv_iload_n hx hb dX11_kinds_7 rfl (lv_at hl 2 rfl) ?_
  refine lv_iconst (v := 0) hx hb dX11_kinds_8 (by decide) ?_
  refine lv_bipush (v := 15) hx hb dX11_kinds_9 (by decide) ?_
  obtain ⟨σ3, e4, hf⟩ := mbx_n hf
  refine mx_callS (As := [.int p2, .int (0 : Int32), .int (15 : Int32)]) (rest := []) hx hb hml hts hown hK hJ rfl rfl (c_X11_needRange l G P p2 (0 : Int32) (15 : Int32) σ1 σ3 e4) me_X11_needRange kw_1005 kw_1004 (Nat.le_of_ble_eq_true rfl) (Nat.le_of_ble_eq_true rfl) rfl hl.1 rfl (Nat.le_of_ble_eq_true rfl) dX11_kinds_11 (fun H locs hJ => ?_)
  refine lv_aload_n hx hb dX11_kinds_14 rfl (lv_at hl 0 rfl) ?_
  obtain ⟨b5, e6, hf⟩ := mb0 hf
  refine my_gR hx hb hts hown hK hJ fd_RX11_33 hv_11_3 e6 dX11_kinds_15 ?_
  refine lv_iload_n hx hb dX11_kinds_18 rfl (lv_at hl 1 rfl) ?_
  refine lv_iload_n hx hb dX11_kinds_19 rfl (lv_at hl 2 rfl) ?_
  obtain ⟨i7, e8, hf⟩ := mb0 hf
  obtain ⟨σ9, e10, hf⟩ := mb0 hf
  refine mx_callV (As := [.int p1, .int p2]) (rest := []) hx hb hml hts hown hK hJ rfl rfl (ci := 6) rfl e8 (c_X6_listAll l G P b5 p1 p2 σ3 σ9 e10) me_X6_listAll kw_1749 kw_1750 kw_1748 (Nat.le_of_ble_eq_true rfl) (Nat.le_of_ble_eq_true rfl) rfl hl.1 rfl (Nat.le_of_ble_eq_true rfl) dX11_kinds_20 (fun H locs hJ => ?_)
  refine lv_aload_n hx hb dX11_kinds_23 rfl (lv_at hl 0 rfl) ?_
  obtain ⟨b11, e12, hf⟩ := mb0 hf
  refine my_gR hx hb hts hown hK hJ fd_RX11_33 hv_11_3 e12 dX11_kinds_24 ?_
  obtain ⟨x13, e14, hf⟩ := mb0 hf
  refine my_gI hx hb hts hown hK hJ fd_RX11_313 hv_6_0 e14 dX11_kinds_27 ?_
  exact my_iret hx hb hr hlocks hJ (mx_inr hf) dX11_kinds_30
set_option maxHeartbeats 4000000 in
set_option maxRecDepth 100000 in
theorem ct_X11_kinds (l : Launch) (hlt : l.stackTraces = false) (G : mx_G) (P : mx_P) (a0 : Nat) (p1 : Int32) (p2 : Int32) (σ : mx_S) (E : String) (σ' : mx_S) (hf : f_X11_kinds P a0 p1 p2 σ = some (.inl (E, σ'))) : mxz σ ≤ mpc P → mxu σ ≤ mps P → mx_Mt l yX11_kinds cX11_kinds 3 (some .int) 7 103 G P [.ref a0, .int p1, .int p2] σ E σ' := by
  intro hcap hcau
  refine mx_ofWt (by decide +kernel) hcap hcau (Nat.le_of_ble_eq_true rfl) ?_
  intro p e s m below meth c hx hb hr hml hts hown hlocks hname hnt hK hJ ls hl
  have hz0 := hJ.2.1
  have hown : s.vm.findClass RX11 = some m.cls := hown
  have hl : lv_has ls 3 [(0, .ref a0), (1, .int p1), (2, .int p2)] := hl
  unfold f_X11_kinds at hf
  refine lv_iload_n hx hb dX11_kinds_0 rfl (lv_at hl 1 rfl) ?_
  refine lv_iconst (v := 3) hx hb dX11_kinds_1 (by decide) ?_
  refine lv_bipush (v := 6) hx hb dX11_kinds_2 (by decide) ?_
  rcases mbx_t hf with e2 | ⟨σ1, e2, hf⟩
  · exact mx_callST (As := [.int p1, .int (3 : Int32), .int (6 : Int32)]) (rest := []) hx hb hml hts hown hK hJ rfl rfl hnt hlocks (ct_X11_needRange l hlt G P p1 (3 : Int32) (6 : Int32) σ E σ' e2) me_X11_needRange kw_1005 kw_1004 (Nat.le_of_ble_eq_true rfl) (Nat.le_of_ble_eq_true rfl) rfl hl.1 rfl (Nat.le_of_ble_eq_true rfl) dX11_kinds_4
  refine mx_callS (As := [.int p1, .int (3 : Int32), .int (6 : Int32)]) (rest := []) hx hb hml hts hown hK hJ rfl rfl (c_X11_needRange l G P p1 (3 : Int32) (6 : Int32) σ σ1 e2) me_X11_needRange kw_1005 kw_1004 (Nat.le_of_ble_eq_true rfl) (Nat.le_of_ble_eq_true rfl) rfl hl.1 rfl (Nat.le_of_ble_eq_true rfl) dX11_kinds_4 (fun H locs hJ => ?_)
  refine lv_iload_n hx hb dX11_kinds_7 rfl (lv_at hl 2 rfl) ?_
  refine lv_iconst (v := 0) hx hb dX11_kinds_8 (by decide) ?_
  refine lv_bipush (v := 15) hx hb dX11_kinds_9 (by decide) ?_
  rcases mbx_t hf with e4 | ⟨σ3, e4, hf⟩
  · exact mx_callST (As := [.int p2, .int (0 : Int32), .int (15 : Int32)]) (rest := []) hx hb hml hts hown hK hJ rfl rfl hnt hlocks (ct_X11_needRange l hlt G P p2 (0 : Int32) (15 : Int32) σ1 E σ' e4) me_X11_needRange kw_1005 kw_1004 (Nat.le_of_ble_eq_true rfl) (Nat.le_of_ble_eq_true rfl) rfl hl.1 rfl (Nat.le_of_ble_eq_true rfl) dX11_kinds_11
  refine mx_callS (As := [.int p2, .int (0 : Int32), .int (15 : Int32)]) (rest := []) hx hb hml hts hown hK hJ rfl rfl (c_X11_needRange l G P p2 (0 : Int32) (15 : Int32) σ1 σ3 e4) me_X11_needRange kw_1005 kw_1004 (Nat.le_of_ble_eq_true rfl) (Nat.le_of_ble_eq_true rfl) rfl hl.1 rfl (Nat.le_of_ble_eq_true rfl) dX11_kinds_11 (fun H locs hJ => ?_)
  refine lv_aload_n hx hb dX11_kinds_14 rfl (lv_at hl 0 rfl) ?_
  obtain ⟨b5, e6, hf⟩ := mb0 hf
  refine my_gR hx hb hts hown hK hJ fd_RX11_33 hv_11_3 e6 dX11_kinds_15 ?_
  refine lv_iload_n hx hb dX11_kinds_18 rfl (lv_at hl 1 rfl) ?_
  refine lv_iload_n hx hb dX11_kinds_19 rfl (lv_at hl 2 rfl) ?_
  obtain ⟨i7, e8, hf⟩ := mb0 hf
  obtain ⟨σ9, e10, hf⟩ := mb0 hf
  refine mx_callV (As := [.int p1, .int p2]) (rest := []) hx hb hml hts hown hK hJ rfl rfl (ci := 6) rfl e8 (c_X6_listAll l G P b5 p1 p2 σ3 σ9 e10) me_X6_listAll kw_1749 kw_1750 kw_1748 (Nat.le_of_ble_eq_true rfl) (Nat.le_of_ble_eq_true rfl) rfl hl.1 rfl (Nat.le_of_ble_eq_true rfl) dX11_kinds_20 (fun H locs hJ => ?_)
  refine lv_aload_n hx hb dX11_kinds_23 rfl (lv_at hl 0 rfl) ?_
  obtain ⟨b11, e12, hf⟩ := mb0 hf
  refine my_gR hx hb hts hown hK hJ fd_RX11_33 hv_11_3 e12 dX11_kinds_24 ?_
  obtain ⟨x13, e14, hf⟩ := mb0 hf
  refine my_gI hx hb hts hown hK hJ fd_RX11_313 hv_6_0 e14 dX11_kinds_27 ?_
  cases hf
set_option maxHeartbeats 4000000 in
set_option maxRecDepth 100000 in
theorem c_X11_kind (l : Launch) (G : mx_G) (P : mx_P) (a0 : Nat) (p1 : Int32) (σ : mx_S) (r : Int32) (σ' : mx_S) (hf : f_X11_kind P a0 p1 σ = some (.inr (r, σ'))) : mxz σ ≤ mpc P → mxu σ ≤ mps P → mx_M l yX11_kind cX11_kind 2 (some .int) 7 101 G P [.ref a0, .int p1] σ (some (.int r)) σ' := by
  intro hcap hcau
  refine mx_ofW (by decide +kernel) hcap hcau (Nat.le_of_ble_eq_true rfl) ?_
  intro p e s m below meth c hx hb hr hml hts hown hlocks hname hK hJ ls hl
  have hz0 := hJ.2.1
  have hown : s.vm.findClass RX11 = some m.cls := hown
  have hl : lv_has ls 2 [(0, .ref a0), (1, .int p1)] := hl
  unfold f_X11_kind at hf
  refine lv_iload_n hx hb dX11_kind_0 rfl (lv_at hl 1 rfl) ?_
  refine lv_aload_n hx hb dX11_kind_1 rfl (lv_at hl 0 rfl) ?_
  obtain ⟨b1, e2, hf⟩ := mb0 hf
  refine my_gR hx hb hts hown hK hJ fd_RX11_33 hv_11_3 e2 dX11_kind_2 ?_
  obtain ⟨x3, e4, hf⟩ := mb0 hf
  refine my_gI hx hb hts hown hK hJ fd_RX11_313 hv_6_0 e4 dX11_kind_5 ?_
  obtain ⟨x6, σ5, e7, hf⟩ := mc0 hf
  refine mx_callS (As := [.int p1, .int x3]) (rest := []) hx hb hml hts hown hK hJ rfl rfl (c_X11_isWithin l G P p1 x3 σ x6 σ5 e7) me_X11_isWithin kw_1240 kw_1239 (Nat.le_of_ble_eq_true rfl) (Nat.le_of_ble_eq_true rfl) rfl hl.1 rfl (Nat.le_of_ble_eq_true rfl) dX11_kind_8 (fun H locs hJ => ?_)
  obtain ⟨σ8, e9, hf⟩ := mbx_n hf
  refine mx_callS (As := [.int x6]) (rest := []) hx hb hml hts hown hK hJ rfl rfl (c_X11_needPresence l G P x6 σ5 σ8 e9) me_X11_needPresence kw_1243 kw_1242 (Nat.le_of_ble_eq_true rfl) (Nat.le_of_ble_eq_true rfl) rfl hl.1 rfl (Nat.le_of_ble_eq_true rfl) dX11_kind_11 (fun H locs hJ => ?_)
  refine lv_aload_n hx hb dX11_kind_14 rfl (lv_at hl 0 rfl) ?_
  obtain ⟨b10, e11, hf⟩ := mb0 hf
  refine my_gR hx hb hts hown hK hJ fd_RX11_33 hv_11_3 e11 dX11_kind_15 ?_
  obtain ⟨b12, e13, hf⟩ := mb0 hf
  refine my_gR hx hb hts hown hK hJ fd_RX11_314 hv_6_1 e13 dX11_kind_18 ?_
  refine lv_iload_n hx hb dX11_kind_21 rfl (lv_at hl 1 rfl) ?_
  obtain ⟨x14, e15, hf⟩ := mb0 hf
  refine mx_aI hx hb hK hJ e15 dX11_kind_22 ?_
  exact my_iret hx hb hr hlocks hJ (mx_inr hf) dX11_kind_23
set_option maxHeartbeats 4000000 in
set_option maxRecDepth 100000 in
theorem ct_X11_kind (l : Launch) (hlt : l.stackTraces = false) (G : mx_G) (P : mx_P) (a0 : Nat) (p1 : Int32) (σ : mx_S) (E : String) (σ' : mx_S) (hf : f_X11_kind P a0 p1 σ = some (.inl (E, σ'))) : mxz σ ≤ mpc P → mxu σ ≤ mps P → mx_Mt l yX11_kind cX11_kind 2 (some .int) 7 101 G P [.ref a0, .int p1] σ E σ' := by
  intro hcap hcau
  refine mx_ofWt (by decide +kernel) hcap hcau (Nat.le_of_ble_eq_true rfl) ?_
  intro p e s m below meth c hx hb hr hml hts hown hlocks hname hnt hK hJ ls hl
  have hz0 := hJ.2.1
  have hown : s.vm.findClass RX11 = some m.cls := hown
  have hl : lv_has ls 2 [(0, .ref a0), (1, .int p1)] := hl
  unfold f_X11_kind at hf
  refine lv_iload_n hx hb dX11_kind_0 rfl (lv_at hl 1 rfl) ?_
  refine lv_aload_n hx hb dX11_kind_1 rfl (lv_at hl 0 rfl) ?_
  obtain ⟨b1, e2, hf⟩ := mb0 hf
  refine my_gR hx hb hts hown hK hJ fd_RX11_33 hv_11_3 e2 dX11_kind_2 ?_
  obtain ⟨x3, e4, hf⟩ := mb0 hf
  refine my_gI hx hb hts hown hK hJ fd_RX11_313 hv_6_0 e4 dX11_kind_5 ?_
  obtain ⟨x6, σ5, e7, hf⟩ := mc0 hf
  refine mx_callS (As := [.int p1, .int x3]) (rest := []) hx hb hml hts hown hK hJ rfl rfl (c_X11_isWithin l G P p1 x3 σ x6 σ5 e7) me_X11_isWithin kw_1240 kw_1239 (Nat.le_of_ble_eq_true rfl) (Nat.le_of_ble_eq_true rfl) rfl hl.1 rfl (Nat.le_of_ble_eq_true rfl) dX11_kind_8 (fun H locs hJ => ?_)
  rcases mbx_t hf with e9 | ⟨σ8, e9, hf⟩
  · exact mx_callST (As := [.int x6]) (rest := []) hx hb hml hts hown hK hJ rfl rfl hnt hlocks (ct_X11_needPresence l hlt G P x6 σ5 E σ' e9) me_X11_needPresence kw_1243 kw_1242 (Nat.le_of_ble_eq_true rfl) (Nat.le_of_ble_eq_true rfl) rfl hl.1 rfl (Nat.le_of_ble_eq_true rfl) dX11_kind_11
  refine mx_callS (As := [.int x6]) (rest := []) hx hb hml hts hown hK hJ rfl rfl (c_X11_needPresence l G P x6 σ5 σ8 e9) me_X11_needPresence kw_1243 kw_1242 (Nat.le_of_ble_eq_true rfl) (Nat.le_of_ble_eq_true rfl) rfl hl.1 rfl (Nat.le_of_ble_eq_true rfl) dX11_kind_11 (fun H locs hJ => ?_)
  refine lv_aload_n hx hb dX11_kind_14 rfl (lv_at hl 0 rfl) ?_
  obtain ⟨b10, e11, hf⟩ := mb0 hf
  refine my_gR hx hb hts hown hK hJ fd_RX11_33 hv_11_3 e11 dX11_kind_15 ?_
  obtain ⟨b12, e13, hf⟩ := mb0 hf
  refine my_gR hx hb hts hown hK hJ fd_RX11_314 hv_6_1 e13 dX11_kind_18 ?_
  refine lv_iload_n hx hb dX11_kind_21 rfl (lv_at hl 1 rfl) ?_
  obtain ⟨x14, e15, hf⟩ := mb0 hf
  refine mx_aI hx hb hK hJ e15 dX11_kind_22 ?_
  cases hf
set_option maxHeartbeats 4000000 in
set_option maxRecDepth 100000 in
theorem c_X11_drive (l : Launch) (G : mx_G) (P : mx_P) (a0 : Nat) (σ : mx_S) (r : Int32) (σ' : mx_S) (hf : f_X11_drive P a0 σ = some (.inr (r, σ'))) : mxz σ ≤ mpc P → mxu σ ≤ mps P → mx_M l yX11_drive cX11_drive 2 (some .int) 8 185 G P [.ref a0] σ (some (.int r)) σ' := by
  intro hcap hcau
  refine mx_ofW (by decide +kernel) hcap hcau (Nat.le_of_ble_eq_true rfl) ?_
  intro p e s m below meth c hx hb hr hml hts hown hlocks hname hK hJ ls hl
  have hz0 := hJ.2.1
  have hown : s.vm.findClass RX11 = some m.cls := hown
  have hl : lv_has ls 2 [(0, .ref a0)] := hl
  unfold f_X11_drive at hf
  refine lv_aload_n hx hb dX11_drive_0 rfl (lv_at hl 0 rfl) ?_
  obtain ⟨b1, e2, hf⟩ := mb0 hf
  refine my_gR hx hb hts hown hK hJ fd_RX11_40 hv_11_4 e2 dX11_drive_1 ?_
  refine lv_aload_n hx hb dX11_drive_4 rfl (lv_at hl 0 rfl) ?_
  obtain ⟨b3, e4, hf⟩ := mb0 hf
  refine my_gR hx hb hts hown hK hJ fd_RX11_10 hv_11_0 e4 dX11_drive_5 ?_
  refine lv_aload_n hx hb dX11_drive_8 rfl (lv_at hl 0 rfl) ?_
  obtain ⟨b5, e6, hf⟩ := mb0 hf
  refine my_gR hx hb hts hown hK hJ fd_RX11_54 hv_11_6 e6 dX11_drive_9 ?_
  obtain ⟨i7, e8, hf⟩ := mb0 hf
  obtain ⟨x10, σ9, e11, hf⟩ := mc0 hf
  refine mx_callV (As := [.ref b3, .ref b5]) (rest := []) hx hb hml hts hown hK hJ rfl rfl (ci := 2) rfl e8 (c_X2_isRead l G P b1 b3 b5 σ x10 σ9 e11) me_X2_isRead kw_1806 kw_1807 kw_1805 (Nat.le_of_ble_eq_true rfl) (Nat.le_of_ble_eq_true rfl) rfl hl.1 rfl (Nat.le_of_ble_eq_true rfl) dX11_drive_12 (fun H locs hJ => ?_)
  refine lv_istore_n (lv' := [(1, .int x10), (0, .ref a0)]) hx hb dX11_drive_15 rfl hl (by decide) rfl (fun ls hl => ?_)
  refine lv_aload_n hx hb dX11_drive_16 rfl (lv_at hl 1 rfl) ?_
  obtain ⟨b12, e13, hf⟩ := mb0 hf
  refine my_gR hx hb hts hown hK hJ fd_RX11_10 hv_11_0 e13 dX11_drive_17 ?_
  refine lv_iconst (v := 0) hx hb dX11_drive_20 (by decide) ?_
  obtain ⟨σ14, e15, hf⟩ := mb0 hf
  refine my_pI hx hb hts hown hK hJ fd_RX11_82 cd_10 (Or.inl rfl) ht_10_1 e15 dX11_drive_21 (fun H locs hJ => ?_)
  refine lv_iload_n hx hb dX11_drive_24 rfl (lv_at hl 0 rfl) ?_
  refine lv_if_ne (tgt := 36) hx hb dX11_drive_25 (by decide) (fun c16 => ?_) (fun c16 => ?_)
  · rw [if_neg c16] at hf
    refine lv_aload_n hx hb dX11_drive_36 rfl (lv_at hl 1 rfl) ?_
    obtain ⟨b17, e18, hf⟩ := mb0 hf
    refine my_gR hx hb hts hown hK hJ fd_RX11_40 hv_11_4 e18 dX11_drive_37 ?_
    refine lv_aload_n hx hb dX11_drive_40 rfl (lv_at hl 1 rfl) ?_
    obtain ⟨b19, e20, hf⟩ := mb0 hf
    refine my_gR hx hb hts hown hK hJ fd_RX11_54 hv_11_6 e20 dX11_drive_41 ?_
    obtain ⟨i21, e22, hf⟩ := mb0 hf
    obtain ⟨x24, σ23, e25, hf⟩ := mc0 hf
    refine mx_callV (As := [.ref b19]) (rest := []) hx hb hml hts hown hK hJ rfl rfl (ci := 2) rfl e22 (c_X2_run l G P b17 b19 σ14 x24 σ23 e25) me_X2_run kw_1827 kw_1828 kw_1826 (Nat.le_of_ble_eq_true rfl) (Nat.le_of_ble_eq_true rfl) rfl hl.1 rfl (Nat.le_of_ble_eq_true rfl) dX11_drive_44 (fun H locs hJ => ?_)
    exact my_iret hx hb hr hlocks hJ (mx_inr hf) dX11_drive_47
  · rw [if_pos c16] at hf
    obtain ⟨σ26, e27, hf⟩ := mb0 hf
    cases hf
set_option maxHeartbeats 4000000 in
set_option maxRecDepth 100000 in
theorem ct_X11_drive (l : Launch) (hlt : l.stackTraces = false) (G : mx_G) (P : mx_P) (a0 : Nat) (σ : mx_S) (E : String) (σ' : mx_S) (hf : f_X11_drive P a0 σ = some (.inl (E, σ'))) : mxz σ ≤ mpc P → mxu σ ≤ mps P → mx_Mt l yX11_drive cX11_drive 2 (some .int) 8 185 G P [.ref a0] σ E σ' := by
  intro hcap hcau
  refine mx_ofWt (by decide +kernel) hcap hcau (Nat.le_of_ble_eq_true rfl) ?_
  intro p e s m below meth c hx hb hr hml hts hown hlocks hname hnt hK hJ ls hl
  have hz0 := hJ.2.1
  have hown : s.vm.findClass RX11 = some m.cls := hown
  have hl : lv_has ls 2 [(0, .ref a0)] := hl
  unfold f_X11_drive at hf
  refine lv_aload_n hx hb dX11_drive_0 rfl (lv_at hl 0 rfl) ?_
  obtain ⟨b1, e2, hf⟩ := mb0 hf
  refine my_gR hx hb hts hown hK hJ fd_RX11_40 hv_11_4 e2 dX11_drive_1 ?_
  refine lv_aload_n hx hb dX11_drive_4 rfl (lv_at hl 0 rfl) ?_
  obtain ⟨b3, e4, hf⟩ := mb0 hf
  refine my_gR hx hb hts hown hK hJ fd_RX11_10 hv_11_0 e4 dX11_drive_5 ?_
  refine lv_aload_n hx hb dX11_drive_8 rfl (lv_at hl 0 rfl) ?_
  obtain ⟨b5, e6, hf⟩ := mb0 hf
  refine my_gR hx hb hts hown hK hJ fd_RX11_54 hv_11_6 e6 dX11_drive_9 ?_
  obtain ⟨i7, e8, hf⟩ := mb0 hf
  obtain ⟨x10, σ9, e11, hf⟩ := mc0 hf
  refine mx_callV (As := [.ref b3, .ref b5]) (rest := []) hx hb hml hts hown hK hJ rfl rfl (ci := 2) rfl e8 (c_X2_isRead l G P b1 b3 b5 σ x10 σ9 e11) me_X2_isRead kw_1806 kw_1807 kw_1805 (Nat.le_of_ble_eq_true rfl) (Nat.le_of_ble_eq_true rfl) rfl hl.1 rfl (Nat.le_of_ble_eq_true rfl) dX11_drive_12 (fun H locs hJ => ?_)
  refine lv_istore_n (lv' := [(1, .int x10), (0, .ref a0)]) hx hb dX11_drive_15 rfl hl (by decide) rfl (fun ls hl => ?_)
  refine lv_aload_n hx hb dX11_drive_16 rfl (lv_at hl 1 rfl) ?_
  obtain ⟨b12, e13, hf⟩ := mb0 hf
  refine my_gR hx hb hts hown hK hJ fd_RX11_10 hv_11_0 e13 dX11_drive_17 ?_
  refine lv_iconst (v := 0) hx hb dX11_drive_20 (by decide) ?_
  obtain ⟨σ14, e15, hf⟩ := mb0 hf
  refine my_pI hx hb hts hown hK hJ fd_RX11_82 cd_10 (Or.inl rfl) ht_10_1 e15 dX11_drive_21 (fun H locs hJ => ?_)
  refine lv_iload_n hx hb dX11_drive_24 rfl (lv_at hl 0 rfl) ?_
  refine lv_if_ne (tgt := 36) hx hb dX11_drive_25 (by decide) (fun c16 => ?_) (fun c16 => ?_)
  · rw [if_neg c16] at hf
    refine lv_aload_n hx hb dX11_drive_36 rfl (lv_at hl 1 rfl) ?_
    obtain ⟨b17, e18, hf⟩ := mb0 hf
    refine my_gR hx hb hts hown hK hJ fd_RX11_40 hv_11_4 e18 dX11_drive_37 ?_
    refine lv_aload_n hx hb dX11_drive_40 rfl (lv_at hl 1 rfl) ?_
    obtain ⟨b19, e20, hf⟩ := mb0 hf
    refine my_gR hx hb hts hown hK hJ fd_RX11_54 hv_11_6 e20 dX11_drive_41 ?_
    obtain ⟨i21, e22, hf⟩ := mb0 hf
    obtain ⟨x24, σ23, e25, hf⟩ := mc0 hf
    refine mx_callV (As := [.ref b19]) (rest := []) hx hb hml hts hown hK hJ rfl rfl (ci := 2) rfl e22 (c_X2_run l G P b17 b19 σ14 x24 σ23 e25) me_X2_run kw_1827 kw_1828 kw_1826 (Nat.le_of_ble_eq_true rfl) (Nat.le_of_ble_eq_true rfl) rfl hl.1 rfl (Nat.le_of_ble_eq_true rfl) dX11_drive_44 (fun H locs hJ => ?_)
    cases hf
  · rw [if_pos c16] at hf
    obtain ⟨σ26, e27, hf⟩ := mb0 hf
    have hE : some (Sum.inl ("java/lang/UnsupportedOperationException", σ26) : (String × mx_S) ⊕ _) = some (.inl (E, σ')) := hf
    obtain ⟨rfl, rfl⟩ := mx_inl hE
    exact mx_thr hx hb hlt hts hown hK hz0 hJ rfl rfl hnt hlocks tw_RX11_102 (by rw [hml]; exact hl.1.symm) dX11_drive_28 dX11_drive_31 dX11_drive_32 dX11_drive_35 (Nat.le_of_ble_eq_true rfl) (Nat.le_of_ble_eq_true rfl) e27
set_option maxHeartbeats 4000000 in
set_option maxRecDepth 100000 in
theorem c_X11_event (l : Launch) (G : mx_G) (P : mx_P) (a0 : Nat) (p1 : Int32) (p2 : Int32) (σ : mx_S) (r : Int32) (σ' : mx_S) (hf : f_X11_event P a0 p1 p2 σ = some (.inr (r, σ'))) : mxz σ ≤ mpc P → mxu σ ≤ mps P → mx_M l yX11_event cX11_event 3 (some .int) 7 103 G P [.ref a0, .int p1, .int p2] σ (some (.int r)) σ' := by
  intro hcap hcau
  refine mx_ofW (by decide +kernel) hcap hcau (Nat.le_of_ble_eq_true rfl) ?_
  intro p e s m below meth c hx hb hr hml hts hown hlocks hname hK hJ ls hl
  have hz0 := hJ.2.1
  have hown : s.vm.findClass RX11 = some m.cls := hown
  have hl : lv_has ls 3 [(0, .ref a0), (1, .int p1), (2, .int p2)] := hl
  unfold f_X11_event at hf
  refine lv_iload_n hx hb dX11_event_0 rfl (lv_at hl 2 rfl) ?_
  refine lv_iconst (v := 0) hx hb dX11_event_1 (by decide) ?_
  refine lv_iconst (v := 2) hx hb dX11_event_2 (by decide) ?_
  obtain ⟨σ1, e2, hf⟩ := mbx_n hf
  refine mx_callS (As := [.int p2, .int (0 : Int32), .int (2 : Int32)]) (rest := []) hx hb hml hts hown hK hJ rfl rfl (c_X11_needRange l G P p2 (0 : Int32) (2 : Int32) σ σ1 e2) me_X11_needRange kw_1005 kw_1004 (Nat.le_of_ble_eq_true rfl) (Nat.le_of_ble_eq_true rfl) rfl hl.1 rfl (Nat.le_of_ble_eq_true rfl) dX11_event_3 (fun H locs hJ => ?_)
  refine lv_iload_n hx hb dX11_event_6 rfl (lv_at hl 1 rfl) ?_
  refine lv_aload_n hx hb dX11_event_7 rfl (lv_at hl 0 rfl) ?_
  obtain ⟨b3, e4, hf⟩ := mb0 hf
  refine my_gR hx hb hts hown hK hJ fd_RX11_40 hv_11_4 e4 dX11_event_8 ?_
  obtain ⟨i5, e6, hf⟩ := mb0 hf
  obtain ⟨x8, σ7, e9, hf⟩ := mc0 hf
  refine mx_callV (As := []) (rest := [.int p1]) hx hb hml hts hown hK hJ rfl rfl (ci := 2) rfl e6 (c_X2_keptEvents l G P b3 σ1 x8 σ7 e9) me_X2_keptEvents kw_1853 kw_1854 kw_1852 (Nat.le_of_ble_eq_true rfl) (Nat.le_of_ble_eq_true rfl) rfl hl.1 rfl (Nat.le_of_ble_eq_true rfl) dX11_event_11 (fun H locs hJ => ?_)
  obtain ⟨x11, σ10, e12, hf⟩ := mc0 hf
  refine mx_callS (As := [.int p1, .int x8]) (rest := []) hx hb hml hts hown hK hJ rfl rfl (c_X11_isWithin l G P p1 x8 σ7 x11 σ10 e12) me_X11_isWithin kw_1240 kw_1239 (Nat.le_of_ble_eq_true rfl) (Nat.le_of_ble_eq_true rfl) rfl hl.1 rfl (Nat.le_of_ble_eq_true rfl) dX11_event_14 (fun H locs hJ => ?_)
  obtain ⟨σ13, e14, hf⟩ := mbx_n hf
  refine mx_callS (As := [.int x11]) (rest := []) hx hb hml hts hown hK hJ rfl rfl (c_X11_needPresence l G P x11 σ10 σ13 e14) me_X11_needPresence kw_1243 kw_1242 (Nat.le_of_ble_eq_true rfl) (Nat.le_of_ble_eq_true rfl) rfl hl.1 rfl (Nat.le_of_ble_eq_true rfl) dX11_event_17 (fun H locs hJ => ?_)
  refine lv_aload_n hx hb dX11_event_20 rfl (lv_at hl 0 rfl) ?_
  obtain ⟨b15, e16, hf⟩ := mb0 hf
  refine my_gR hx hb hts hown hK hJ fd_RX11_40 hv_11_4 e16 dX11_event_21 ?_
  obtain ⟨b17, e18, hf⟩ := mb0 hf
  refine my_gR hx hb hts hown hK hJ fd_RX11_327 hv_2_2 e18 dX11_event_24 ?_
  refine lv_iconst (v := 3) hx hb dX11_event_27 (by decide) ?_
  refine lv_iload_n hx hb dX11_event_28 rfl (lv_at hl 1 rfl) ?_
  refine lv_imul hx hb dX11_event_29 ?_
  refine lv_iload_n hx hb dX11_event_30 rfl (lv_at hl 2 rfl) ?_
  refine lv_iadd hx hb dX11_event_31 ?_
  obtain ⟨x19, e20, hf⟩ := mb0 hf
  refine mx_aI hx hb hK hJ e20 dX11_event_32 ?_
  exact my_iret hx hb hr hlocks hJ (mx_inr hf) dX11_event_33
set_option maxHeartbeats 4000000 in
set_option maxRecDepth 100000 in
theorem ct_X11_event (l : Launch) (hlt : l.stackTraces = false) (G : mx_G) (P : mx_P) (a0 : Nat) (p1 : Int32) (p2 : Int32) (σ : mx_S) (E : String) (σ' : mx_S) (hf : f_X11_event P a0 p1 p2 σ = some (.inl (E, σ'))) : mxz σ ≤ mpc P → mxu σ ≤ mps P → mx_Mt l yX11_event cX11_event 3 (some .int) 7 103 G P [.ref a0, .int p1, .int p2] σ E σ' := by
  intro hcap hcau
  refine mx_ofWt (by decide +kernel) hcap hcau (Nat.le_of_ble_eq_true rfl) ?_
  intro p e s m below meth c hx hb hr hml hts hown hlocks hname hnt hK hJ ls hl
  have hz0 := hJ.2.1
  have hown : s.vm.findClass RX11 = some m.cls := hown
  have hl : lv_has ls 3 [(0, .ref a0), (1, .int p1), (2, .int p2)] := hl
  unfold f_X11_event at hf
  refine lv_iload_n hx hb dX11_event_0 rfl (lv_at hl 2 rfl) ?_
  refine lv_iconst (v := 0) hx hb dX11_event_1 (by decide) ?_
  refine lv_iconst (v := 2) hx hb dX11_event_2 (by decide) ?_
  rcases mbx_t hf with e2 | ⟨σ1, e2, hf⟩
  · exact mx_callST (As := [.int p2, .int (0 : Int32), .int (2 : Int32)]) (rest := []) hx hb hml hts hown hK hJ rfl rfl hnt hlocks (ct_X11_needRange l hlt G P p2 (0 : Int32) (2 : Int32) σ E σ' e2) me_X11_needRange kw_1005 kw_1004 (Nat.le_of_ble_eq_true rfl) (Nat.le_of_ble_eq_true rfl) rfl hl.1 rfl (Nat.le_of_ble_eq_true rfl) dX11_event_3
  refine mx_callS (As := [.int p2, .int (0 : Int32), .int (2 : Int32)]) (rest := []) hx hb hml hts hown hK hJ rfl rfl (c_X11_needRange l G P p2 (0 : Int32) (2 : Int32) σ σ1 e2) me_X11_needRange kw_1005 kw_1004 (Nat.le_of_ble_eq_true rfl) (Nat.le_of_ble_eq_true rfl) rfl hl.1 rfl (Nat.le_of_ble_eq_true rfl) dX11_event_3 (fun H locs hJ => ?_)
  refine lv_iload_n hx hb dX11_event_6 rfl (lv_at hl 1 rfl) ?_
  refine lv_aload_n hx hb dX11_event_7 rfl (lv_at hl 0 rfl) ?_
  obtain ⟨b3, e4, hf⟩ := mb0 hf
  refine my_gR hx hb hts hown hK hJ fd_RX11_40 hv_11_4 e4 dX11_event_8 ?_
  obtain ⟨i5, e6, hf⟩ := mb0 hf
  obtain ⟨x8, σ7, e9, hf⟩ := mc0 hf
  refine mx_callV (As := []) (rest := [.int p1]) hx hb hml hts hown hK hJ rfl rfl (ci := 2) rfl e6 (c_X2_keptEvents l G P b3 σ1 x8 σ7 e9) me_X2_keptEvents kw_1853 kw_1854 kw_1852 (Nat.le_of_ble_eq_true rfl) (Nat.le_of_ble_eq_true rfl) rfl hl.1 rfl (Nat.le_of_ble_eq_true rfl) dX11_event_11 (fun H locs hJ => ?_)
  obtain ⟨x11, σ10, e12, hf⟩ := mc0 hf
  refine mx_callS (As := [.int p1, .int x8]) (rest := []) hx hb hml hts hown hK hJ rfl rfl (c_X11_isWithin l G P p1 x8 σ7 x11 σ10 e12) me_X11_isWithin kw_1240 kw_1239 (Nat.le_of_ble_eq_true rfl) (Nat.le_of_ble_eq_true rfl) rfl hl.1 rfl (Nat.le_of_ble_eq_true rfl) dX11_event_14 (fun H locs hJ => ?_)
  rcases mbx_t hf with e14 | ⟨σ13, e14, hf⟩
  · exact mx_callST (As := [.int x11]) (rest := []) hx hb hml hts hown hK hJ rfl rfl hnt hlocks (ct_X11_needPresence l hlt G P x11 σ10 E σ' e14) me_X11_needPresence kw_1243 kw_1242 (Nat.le_of_ble_eq_true rfl) (Nat.le_of_ble_eq_true rfl) rfl hl.1 rfl (Nat.le_of_ble_eq_true rfl) dX11_event_17
  refine mx_callS (As := [.int x11]) (rest := []) hx hb hml hts hown hK hJ rfl rfl (c_X11_needPresence l G P x11 σ10 σ13 e14) me_X11_needPresence kw_1243 kw_1242 (Nat.le_of_ble_eq_true rfl) (Nat.le_of_ble_eq_true rfl) rfl hl.1 rfl (Nat.le_of_ble_eq_true rfl) dX11_event_17 (fun H locs hJ => ?_)
  refine lv_aload_n hx hb dX11_event_20 rfl (lv_at hl 0 rfl) ?_
  obtain ⟨b15, e16, hf⟩ := mb0 hf
  refine my_gR hx hb hts hown hK hJ fd_RX11_40 hv_11_4 e16 dX11_event_21 ?_
  obtain ⟨b17, e18, hf⟩ := mb0 hf
  refine my_gR hx hb hts hown hK hJ fd_RX11_327 hv_2_2 e18 dX11_event_24 ?_
  refine lv_iconst (v := 3) hx hb dX11_event_27 (by decide) ?_
  refine lv_iload_n hx hb dX11_event_28 rfl (lv_at hl 1 rfl) ?_
  refine lv_imul hx hb dX11_event_29 ?_
  refine lv_iload_n hx hb dX11_event_30 rfl (lv_at hl 2 rfl) ?_
  refine lv_iadd hx hb dX11_event_31 ?_
  obtain ⟨x19, e20, hf⟩ := mb0 hf
  refine mx_aI hx hb hK hJ e20 dX11_event_32 ?_
  cases hf
set_option maxHeartbeats 4000000 in
set_option maxRecDepth 100000 in
theorem c_X11_count (l : Launch) (G : mx_G) (P : mx_P) (a0 : Nat) (p1 : Int32) (σ : mx_S) (r : Int32) (σ' : mx_S) (hf : f_X11_count P a0 p1 σ = some (r, σ')) : mxz σ ≤ mpc P → mxu σ ≤ mps P → mx_M l yX11_count cX11_count 2 (some .int) 0 0 G P [.ref a0, .int p1] σ (some (.int r)) σ' := by
  intro hcap hcau
  refine mx_ofW (by decide +kernel) hcap hcau (Nat.le_of_ble_eq_true rfl) ?_
  intro p e s m below meth c hx hb hr hml hts hown hlocks hname hK hJ ls hl
  have hz0 := hJ.2.1
  have hown : s.vm.findClass RX11 = some m.cls := hown
  have hl : lv_has ls 2 [(0, .ref a0), (1, .int p1)] := hl
  unfold f_X11_count at hf
  refine lv_iload_n hx hb dX11_count_0 rfl (lv_at hl 1 rfl) ?_
  by_cases c1 : p1 = (0 : Int32)
  · rw [if_pos c1] at hf
    refine lv_tableIn (tgt := 68) (off := 67) hx hb dX11_count_1 (by rw [c1] <;> decide) (by rw [c1] <;> decide) (by rw [c1] <;> decide) (by decide) ?_
    refine lv_aload_n hx hb dX11_count_68 rfl (lv_at hl 0 rfl) ?_
    obtain ⟨b2, e3, hf⟩ := mb0 hf
    refine my_gR hx hb hts hown hK hJ fd_RX11_54 hv_11_6 e3 dX11_count_69 ?_
    obtain ⟨x4, e5, hf⟩ := mb0 hf
    refine my_gI hx hb hts hown hK hJ fd_RX11_103 hv_7_2 e5 dX11_count_72 ?_
    exact my_iret hx hb hr hlocks hJ hf dX11_count_75
  rw [if_neg c1] at hf
  by_cases c6 : p1 = (1 : Int32)
  · rw [if_pos c6] at hf
    refine lv_tableIn (tgt := 76) (off := 75) hx hb dX11_count_1 (by rw [c6] <;> decide) (by rw [c6] <;> decide) (by rw [c6] <;> decide) (by decide) ?_
    refine lv_aload_n hx hb dX11_count_76 rfl (lv_at hl 0 rfl) ?_
    obtain ⟨b7, e8, hf⟩ := mb0 hf
    refine my_gR hx hb hts hown hK hJ fd_RX11_54 hv_11_6 e8 dX11_count_77 ?_
    obtain ⟨x9, e10, hf⟩ := mb0 hf
    refine my_gI hx hb hts hown hK hJ fd_RX11_329 hv_7_3 e10 dX11_count_80 ?_
    exact my_iret hx hb hr hlocks hJ hf dX11_count_83
  rw [if_neg c6] at hf
  by_cases c11 : p1 = (2 : Int32)
  · rw [if_pos c11] at hf
    refine lv_tableIn (tgt := 84) (off := 83) hx hb dX11_count_1 (by rw [c11] <;> decide) (by rw [c11] <;> decide) (by rw [c11] <;> decide) (by decide) ?_
    refine lv_aload_n hx hb dX11_count_84 rfl (lv_at hl 0 rfl) ?_
    obtain ⟨b12, e13, hf⟩ := mb0 hf
    refine my_gR hx hb hts hown hK hJ fd_RX11_54 hv_11_6 e13 dX11_count_85 ?_
    obtain ⟨b14, e15, hf⟩ := mb0 hf
    refine my_gR hx hb hts hown hK hJ fd_RX11_163 hv_7_4 e15 dX11_count_88 ?_
    refine lv_iconst (v := 0) hx hb dX11_count_91 (by decide) ?_
    obtain ⟨x16, e17, hf⟩ := mb0 hf
    refine mx_aI hx hb hK hJ e17 dX11_count_92 ?_
    exact my_iret hx hb hr hlocks hJ hf dX11_count_93
  rw [if_neg c11] at hf
  by_cases c18 : p1 = (3 : Int32)
  · rw [if_pos c18] at hf
    refine lv_tableIn (tgt := 94) (off := 93) hx hb dX11_count_1 (by rw [c18] <;> decide) (by rw [c18] <;> decide) (by rw [c18] <;> decide) (by decide) ?_
    refine lv_aload_n hx hb dX11_count_94 rfl (lv_at hl 0 rfl) ?_
    obtain ⟨b19, e20, hf⟩ := mb0 hf
    refine my_gR hx hb hts hown hK hJ fd_RX11_54 hv_11_6 e20 dX11_count_95 ?_
    obtain ⟨b21, e22, hf⟩ := mb0 hf
    refine my_gR hx hb hts hown hK hJ fd_RX11_163 hv_7_4 e22 dX11_count_98 ?_
    refine lv_iconst (v := 1) hx hb dX11_count_101 (by decide) ?_
    obtain ⟨x23, e24, hf⟩ := mb0 hf
    refine mx_aI hx hb hK hJ e24 dX11_count_102 ?_
    exact my_iret hx hb hr hlocks hJ hf dX11_count_103
  rw [if_neg c18] at hf
  by_cases c25 : p1 = (4 : Int32)
  · rw [if_pos c25] at hf
    refine lv_tableIn (tgt := 104) (off := 103) hx hb dX11_count_1 (by rw [c25] <;> decide) (by rw [c25] <;> decide) (by rw [c25] <;> decide) (by decide) ?_
    refine lv_aload_n hx hb dX11_count_104 rfl (lv_at hl 0 rfl) ?_
    obtain ⟨b26, e27, hf⟩ := mb0 hf
    refine my_gR hx hb hts hown hK hJ fd_RX11_54 hv_11_6 e27 dX11_count_105 ?_
    obtain ⟨b28, e29, hf⟩ := mb0 hf
    refine my_gR hx hb hts hown hK hJ fd_RX11_163 hv_7_4 e29 dX11_count_108 ?_
    refine lv_iconst (v := 2) hx hb dX11_count_111 (by decide) ?_
    obtain ⟨x30, e31, hf⟩ := mb0 hf
    refine mx_aI hx hb hK hJ e31 dX11_count_112 ?_
    exact my_iret hx hb hr hlocks hJ hf dX11_count_113
  rw [if_neg c25] at hf
  by_cases c32 : p1 = (5 : Int32)
  · rw [if_pos c32] at hf
    refine lv_tableIn (tgt := 114) (off := 113) hx hb dX11_count_1 (by rw [c32] <;> decide) (by rw [c32] <;> decide) (by rw [c32] <;> decide) (by decide) ?_
    refine lv_aload_n hx hb dX11_count_114 rfl (lv_at hl 0 rfl) ?_
    obtain ⟨b33, e34, hf⟩ := mb0 hf
    refine my_gR hx hb hts hown hK hJ fd_RX11_54 hv_11_6 e34 dX11_count_115 ?_
    obtain ⟨b35, e36, hf⟩ := mb0 hf
    refine my_gR hx hb hts hown hK hJ fd_RX11_163 hv_7_4 e36 dX11_count_118 ?_
    refine lv_iconst (v := 3) hx hb dX11_count_121 (by decide) ?_
    obtain ⟨x37, e38, hf⟩ := mb0 hf
    refine mx_aI hx hb hK hJ e38 dX11_count_122 ?_
    exact my_iret hx hb hr hlocks hJ hf dX11_count_123
  rw [if_neg c32] at hf
  by_cases c39 : p1 = (6 : Int32)
  · rw [if_pos c39] at hf
    refine lv_tableIn (tgt := 124) (off := 123) hx hb dX11_count_1 (by rw [c39] <;> decide) (by rw [c39] <;> decide) (by rw [c39] <;> decide) (by decide) ?_
    refine lv_aload_n hx hb dX11_count_124 rfl (lv_at hl 0 rfl) ?_
    obtain ⟨b40, e41, hf⟩ := mb0 hf
    refine my_gR hx hb hts hown hK hJ fd_RX11_19 hv_11_1 e41 dX11_count_125 ?_
    obtain ⟨x42, e43, hf⟩ := mb0 hf
    refine my_gI hx hb hts hown hK hJ fd_RX11_220 hv_4_0 e43 dX11_count_128 ?_
    exact my_iret hx hb hr hlocks hJ hf dX11_count_131
  rw [if_neg c39] at hf
  by_cases c44 : p1 = (7 : Int32)
  · rw [if_pos c44] at hf
    refine lv_tableIn (tgt := 132) (off := 131) hx hb dX11_count_1 (by rw [c44] <;> decide) (by rw [c44] <;> decide) (by rw [c44] <;> decide) (by decide) ?_
    refine lv_aload_n hx hb dX11_count_132 rfl (lv_at hl 0 rfl) ?_
    obtain ⟨b45, e46, hf⟩ := mb0 hf
    refine my_gR hx hb hts hown hK hJ fd_RX11_19 hv_11_1 e46 dX11_count_133 ?_
    obtain ⟨x47, e48, hf⟩ := mb0 hf
    refine my_gI hx hb hts hown hK hJ fd_RX11_236 hv_4_1 e48 dX11_count_136 ?_
    exact my_iret hx hb hr hlocks hJ hf dX11_count_139
  rw [if_neg c44] at hf
  by_cases c49 : p1 = (8 : Int32)
  · rw [if_pos c49] at hf
    refine lv_tableIn (tgt := 140) (off := 139) hx hb dX11_count_1 (by rw [c49] <;> decide) (by rw [c49] <;> decide) (by rw [c49] <;> decide) (by decide) ?_
    refine lv_aload_n hx hb dX11_count_140 rfl (lv_at hl 0 rfl) ?_
    obtain ⟨b50, e51, hf⟩ := mb0 hf
    refine my_gR hx hb hts hown hK hJ fd_RX11_40 hv_11_4 e51 dX11_count_141 ?_
    obtain ⟨x52, e53, hf⟩ := mb0 hf
    refine my_gI hx hb hts hown hK hJ fd_RX11_332 hv_2_0 e53 dX11_count_144 ?_
    exact my_iret hx hb hr hlocks hJ hf dX11_count_147
  rw [if_neg c49] at hf
  by_cases c54 : p1 = (9 : Int32)
  · rw [if_pos c54] at hf
    refine lv_tableIn (tgt := 148) (off := 147) hx hb dX11_count_1 (by rw [c54] <;> decide) (by rw [c54] <;> decide) (by rw [c54] <;> decide) (by decide) ?_
    refine lv_aload_n hx hb dX11_count_148 rfl (lv_at hl 0 rfl) ?_
    obtain ⟨b55, e56, hf⟩ := mb0 hf
    refine my_gR hx hb hts hown hK hJ fd_RX11_40 hv_11_4 e56 dX11_count_149 ?_
    obtain ⟨x57, e58, hf⟩ := mb0 hf
    refine my_gI hx hb hts hown hK hJ fd_RX11_335 hv_2_1 e58 dX11_count_152 ?_
    exact my_iret hx hb hr hlocks hJ hf dX11_count_155
  rw [if_neg c54] at hf
  by_cases c59 : p1 = (10 : Int32)
  · rw [if_pos c59] at hf
    refine lv_tableIn (tgt := 156) (off := 155) hx hb dX11_count_1 (by rw [c59] <;> decide) (by rw [c59] <;> decide) (by rw [c59] <;> decide) (by decide) ?_
    refine lv_aload_n hx hb dX11_count_156 rfl (lv_at hl 0 rfl) ?_
    obtain ⟨b60, e61, hf⟩ := mb0 hf
    refine my_gR hx hb hts hown hK hJ fd_RX11_10 hv_11_0 e61 dX11_count_157 ?_
    obtain ⟨x62, e63, hf⟩ := mb0 hf
    refine my_gI hx hb hts hown hK hJ fd_RX11_82 hv_10_1 e63 dX11_count_160 ?_
    exact my_iret hx hb hr hlocks hJ hf dX11_count_163
  rw [if_neg c59] at hf
  by_cases c64 : p1 = (11 : Int32)
  · rw [if_pos c64] at hf
    refine lv_tableIn (tgt := 164) (off := 163) hx hb dX11_count_1 (by rw [c64] <;> decide) (by rw [c64] <;> decide) (by rw [c64] <;> decide) (by decide) ?_
    refine lv_aload_n hx hb dX11_count_164 rfl (lv_at hl 0 rfl) ?_
    obtain ⟨b65, e66, hf⟩ := mb0 hf
    refine my_gR hx hb hts hown hK hJ fd_RX11_19 hv_11_1 e66 dX11_count_165 ?_
    obtain ⟨x67, e68, hf⟩ := mb0 hf
    refine my_gI hx hb hts hown hK hJ fd_RX11_265 hv_4_2 e68 dX11_count_168 ?_
    exact my_iret hx hb hr hlocks hJ hf dX11_count_171
  rw [if_neg c64] at hf
  by_cases c69 : p1 = (12 : Int32)
  · rw [if_pos c69] at hf
    refine lv_tableIn (tgt := 172) (off := 171) hx hb dX11_count_1 (by rw [c69] <;> decide) (by rw [c69] <;> decide) (by rw [c69] <;> decide) (by decide) ?_
    refine lv_aload_n hx hb dX11_count_172 rfl (lv_at hl 0 rfl) ?_
    obtain ⟨b70, e71, hf⟩ := mb0 hf
    refine my_gR hx hb hts hown hK hJ fd_RX11_33 hv_11_3 e71 dX11_count_173 ?_
    obtain ⟨x72, e73, hf⟩ := mb0 hf
    refine my_gI hx hb hts hown hK hJ fd_RX11_313 hv_6_0 e73 dX11_count_176 ?_
    exact my_iret hx hb hr hlocks hJ hf dX11_count_179
  rw [if_neg c69] at hf
  refine lv_tableOut (tgt := 180) hx hb dX11_count_1 (by have := lv_neT (a := (0)) c1 (by decide); have := lv_neT (a := (1)) c6 (by decide); have := lv_neT (a := (2)) c11 (by decide); have := lv_neT (a := (3)) c18 (by decide); have := lv_neT (a := (4)) c25 (by decide); have := lv_neT (a := (5)) c32 (by decide); have := lv_neT (a := (6)) c39 (by decide); have := lv_neT (a := (7)) c44 (by decide); have := lv_neT (a := (8)) c49 (by decide); have := lv_neT (a := (9)) c54 (by decide); have := lv_neT (a := (10)) c59 (by decide); have := lv_neT (a := (11)) c64 (by decide); have := lv_neT (a := (12)) c69 (by decide); omega) (by decide) ?_
  refine lv_iconst (v := (-1)) hx hb dX11_count_180 (by decide) ?_
  exact my_iret hx hb hr hlocks hJ hf dX11_count_181
set_option maxHeartbeats 4000000 in
set_option maxRecDepth 100000 in
theorem c_X12_init (l : Launch) (G : mx_G) (P : mx_P) (a0 : Nat) (σ : mx_S) (σ' : mx_S) (hf : f_X12_init P a0 σ = some σ') : mxz σ ≤ mpc P → mxu σ ≤ mps P → mx_M l yX12_init cX12_init 1 none 1 12 G P [.ref a0] σ none σ' := by
  intro hcap hcau
  refine mx_ofW (by decide +kernel) hcap hcau (Nat.le_of_ble_eq_true rfl) ?_
  intro p e s m below meth c hx hb hr hml hts hown hlocks hname hK hJ ls hl
  have hz0 := hJ.2.1
  have hown : s.vm.findClass RX12 = some m.cls := hown
  have hl : lv_has ls 1 [(0, .ref a0)] := hl
  unfold f_X12_init at hf
  refine lv_aload_n hx hb dX12_init_0 rfl (lv_at hl 0 rfl) ?_
  refine W.objInit hx hb hown (hts _ kw_1862) (hts _ kw_35) (hts _ kw_36) rfl (by rw [hml]; exact hl.1) rfl dX12_init_1 (Nat.le_of_ble_eq_true rfl) (Nat.le_of_ble_eq_true rfl) ?_
  refine W.eq (g2 := F0 m 4 ls []) rfl ?_
  refine lv_aload_n hx hb dX12_init_4 rfl (lv_at hl 0 rfl) ?_
  refine lv_sipush (v := 4000) hx hb dX12_init_5 (by decide) ?_
  obtain ⟨b1, σ2, e3, hf⟩ := mc0 hf
  refine mx_nA hx hb hts hK hJ rfl rfl (t := 0) (by decide) rfl (fun _ h => h) (by decide) rfl e3 kw_137 dX12_init_8 (fun H locs hJ => ?_)
  obtain ⟨σ4, e5, hf⟩ := mb0 hf
  refine my_pR hx hb hts hown hK hJ fd_RX12_7 cd_12 (Or.inr ⟨rfl, hname, rfl⟩) ft_12_1 e5 dX12_init_10 (fun H locs hJ => ?_)
  refine lv_aload_n hx hb dX12_init_13 rfl (lv_at hl 0 rfl) ?_
  refine lv_sipush (v := 320) hx hb dX12_init_14 (by decide) ?_
  obtain ⟨b6, σ7, e8, hf⟩ := mc0 hf
  refine mx_nA hx hb hts hK hJ rfl rfl (t := 1) (by decide) rfl (fun _ h => h) (by decide) rfl e8 kw_138 dX12_init_17 (fun H locs hJ => ?_)
  obtain ⟨σ9, e10, hf⟩ := mb0 hf
  refine my_pR hx hb hts hown hK hJ fd_RX12_13 cd_12 (Or.inr ⟨rfl, hname, rfl⟩) ft_12_11 e10 dX12_init_19 (fun H locs hJ => ?_)
  refine lv_aload_n hx hb dX12_init_22 rfl (lv_at hl 0 rfl) ?_
  refine lv_sipush (v := 320) hx hb dX12_init_23 (by decide) ?_
  obtain ⟨b11, σ12, e13, hf⟩ := mc0 hf
  refine mx_nA hx hb hts hK hJ rfl rfl (t := 1) (by decide) rfl (fun _ h => h) (by decide) rfl e13 kw_138 dX12_init_26 (fun H locs hJ => ?_)
  obtain ⟨σ14, e15, hf⟩ := mb0 hf
  refine my_pR hx hb hts hown hK hJ fd_RX12_17 cd_12 (Or.inr ⟨rfl, hname, rfl⟩) ft_12_12 e15 dX12_init_28 (fun H locs hJ => ?_)
  refine lv_aload_n hx hb dX12_init_31 rfl (lv_at hl 0 rfl) ?_
  refine lv_sipush (v := 320) hx hb dX12_init_32 (by decide) ?_
  obtain ⟨b16, σ17, e18, hf⟩ := mc0 hf
  refine mx_nA hx hb hts hK hJ rfl rfl (t := 3) (by decide) rfl (fun _ h => h) (by decide) rfl e18 kw_330 dX12_init_35 (fun H locs hJ => ?_)
  obtain ⟨σ19, e20, hf⟩ := mb0 hf
  refine my_pR hx hb hts hown hK hJ fd_RX12_20 cd_12 (Or.inr ⟨rfl, hname, rfl⟩) ft_12_13 e20 dX12_init_37 (fun H locs hJ => ?_)
  refine lv_aload_n hx hb dX12_init_40 rfl (lv_at hl 0 rfl) ?_
  refine lv_bipush (v := 40) hx hb dX12_init_41 (by decide) ?_
  obtain ⟨b21, σ22, e23, hf⟩ := mc0 hf
  refine mx_nA hx hb hts hK hJ rfl rfl (t := 0) (by decide) rfl (fun _ h => h) (by decide) rfl e23 kw_137 dX12_init_43 (fun H locs hJ => ?_)
  obtain ⟨σ24, e25, hf⟩ := mb0 hf
  refine my_pR hx hb hts hown hK hJ fd_RX12_24 cd_12 (Or.inr ⟨rfl, hname, rfl⟩) ft_12_21 e25 dX12_init_45 (fun H locs hJ => ?_)
  refine lv_aload_n hx hb dX12_init_48 rfl (lv_at hl 0 rfl) ?_
  refine lv_sipush (v := 160) hx hb dX12_init_49 (by decide) ?_
  obtain ⟨b26, σ27, e28, hf⟩ := mc0 hf
  refine mx_nA hx hb hts hK hJ rfl rfl (t := 0) (by decide) rfl (fun _ h => h) (by decide) rfl e28 kw_137 dX12_init_52 (fun H locs hJ => ?_)
  obtain ⟨σ29, e30, hf⟩ := mb0 hf
  refine my_pR hx hb hts hown hK hJ fd_RX12_27 cd_12 (Or.inr ⟨rfl, hname, rfl⟩) ft_12_22 e30 dX12_init_54 (fun H locs hJ => ?_)
  refine lv_aload_n hx hb dX12_init_57 rfl (lv_at hl 0 rfl) ?_
  refine lv_bipush (v := 40) hx hb dX12_init_58 (by decide) ?_
  obtain ⟨b31, σ32, e33, hf⟩ := mc0 hf
  refine mx_nA hx hb hts hK hJ rfl rfl (t := 1) (by decide) rfl (fun _ h => h) (by decide) rfl e33 kw_138 dX12_init_60 (fun H locs hJ => ?_)
  obtain ⟨σ34, e35, hf⟩ := mb0 hf
  refine my_pR hx hb hts hown hK hJ fd_RX12_30 cd_12 (Or.inr ⟨rfl, hname, rfl⟩) ft_12_23 e35 dX12_init_62 (fun H locs hJ => ?_)
  refine lv_aload_n hx hb dX12_init_65 rfl (lv_at hl 0 rfl) ?_
  refine lv_bipush (v := 40) hx hb dX12_init_66 (by decide) ?_
  obtain ⟨b36, σ37, e38, hf⟩ := mc0 hf
  refine mx_nA hx hb hts hK hJ rfl rfl (t := 1) (by decide) rfl (fun _ h => h) (by decide) rfl e38 kw_138 dX12_init_68 (fun H locs hJ => ?_)
  obtain ⟨σ39, e40, hf⟩ := mb0 hf
  refine my_pR hx hb hts hown hK hJ fd_RX12_33 cd_12 (Or.inr ⟨rfl, hname, rfl⟩) ft_12_24 e40 dX12_init_70 (fun H locs hJ => ?_)
  refine lv_aload_n hx hb dX12_init_73 rfl (lv_at hl 0 rfl) ?_
  refine lv_bipush (v := 40) hx hb dX12_init_74 (by decide) ?_
  obtain ⟨b41, σ42, e43, hf⟩ := mc0 hf
  refine mx_nA hx hb hts hK hJ rfl rfl (t := 1) (by decide) rfl (fun _ h => h) (by decide) rfl e43 kw_138 dX12_init_76 (fun H locs hJ => ?_)
  obtain ⟨σ44, e45, hf⟩ := mb0 hf
  refine my_pR hx hb hts hown hK hJ fd_RX12_36 cd_12 (Or.inr ⟨rfl, hname, rfl⟩) ft_12_25 e45 dX12_init_78 (fun H locs hJ => ?_)
  refine lv_aload_n hx hb dX12_init_81 rfl (lv_at hl 0 rfl) ?_
  refine lv_bipush (v := 40) hx hb dX12_init_82 (by decide) ?_
  obtain ⟨b46, σ47, e48, hf⟩ := mc0 hf
  refine mx_nA hx hb hts hK hJ rfl rfl (t := 1) (by decide) rfl (fun _ h => h) (by decide) rfl e48 kw_138 dX12_init_84 (fun H locs hJ => ?_)
  obtain ⟨σ49, e50, hf⟩ := mb0 hf
  refine my_pR hx hb hts hown hK hJ fd_RX12_39 cd_12 (Or.inr ⟨rfl, hname, rfl⟩) ft_12_26 e50 dX12_init_86 (fun H locs hJ => ?_)
  refine lv_aload_n hx hb dX12_init_89 rfl (lv_at hl 0 rfl) ?_
  refine lv_bipush (v := 40) hx hb dX12_init_90 (by decide) ?_
  obtain ⟨b51, σ52, e53, hf⟩ := mc0 hf
  refine mx_nA hx hb hts hK hJ rfl rfl (t := 0) (by decide) rfl (fun _ h => h) (by decide) rfl e53 kw_137 dX12_init_92 (fun H locs hJ => ?_)
  obtain ⟨σ54, e55, hf⟩ := mb0 hf
  refine my_pR hx hb hts hown hK hJ fd_RX12_42 cd_12 (Or.inr ⟨rfl, hname, rfl⟩) ft_12_27 e55 dX12_init_94 (fun H locs hJ => ?_)
  refine lv_aload_n hx hb dX12_init_97 rfl (lv_at hl 0 rfl) ?_
  refine lv_bipush (v := 40) hx hb dX12_init_98 (by decide) ?_
  obtain ⟨b56, σ57, e58, hf⟩ := mc0 hf
  refine mx_nA hx hb hts hK hJ rfl rfl (t := 0) (by decide) rfl (fun _ h => h) (by decide) rfl e58 kw_137 dX12_init_100 (fun H locs hJ => ?_)
  obtain ⟨σ59, e60, hf⟩ := mb0 hf
  refine my_pR hx hb hts hown hK hJ fd_RX12_45 cd_12 (Or.inr ⟨rfl, hname, rfl⟩) ft_12_28 e60 dX12_init_102 (fun H locs hJ => ?_)
  refine lv_aload_n hx hb dX12_init_105 rfl (lv_at hl 0 rfl) ?_
  refine lv_bipush (v := 40) hx hb dX12_init_106 (by decide) ?_
  obtain ⟨b61, σ62, e63, hf⟩ := mc0 hf
  refine mx_nA hx hb hts hK hJ rfl rfl (t := 0) (by decide) rfl (fun _ h => h) (by decide) rfl e63 kw_137 dX12_init_108 (fun H locs hJ => ?_)
  obtain ⟨σ64, e65, hf⟩ := mb0 hf
  refine my_pR hx hb hts hown hK hJ fd_RX12_48 cd_12 (Or.inr ⟨rfl, hname, rfl⟩) ft_12_29 e65 dX12_init_110 (fun H locs hJ => ?_)
  refine lv_aload_n hx hb dX12_init_113 rfl (lv_at hl 0 rfl) ?_
  refine lv_bipush (v := 40) hx hb dX12_init_114 (by decide) ?_
  obtain ⟨b66, σ67, e68, hf⟩ := mc0 hf
  refine mx_nA hx hb hts hK hJ rfl rfl (t := 0) (by decide) rfl (fun _ h => h) (by decide) rfl e68 kw_137 dX12_init_116 (fun H locs hJ => ?_)
  obtain ⟨σ69, e70, hf⟩ := mb0 hf
  refine my_pR hx hb hts hown hK hJ fd_RX12_51 cd_12 (Or.inr ⟨rfl, hname, rfl⟩) ft_12_30 e70 dX12_init_118 (fun H locs hJ => ?_)
  refine lv_aload_n hx hb dX12_init_121 rfl (lv_at hl 0 rfl) ?_
  refine lv_bipush (v := 40) hx hb dX12_init_122 (by decide) ?_
  obtain ⟨b71, σ72, e73, hf⟩ := mc0 hf
  refine mx_nA hx hb hts hK hJ rfl rfl (t := 0) (by decide) rfl (fun _ h => h) (by decide) rfl e73 kw_137 dX12_init_124 (fun H locs hJ => ?_)
  obtain ⟨σ74, e75, hf⟩ := mb0 hf
  refine my_pR hx hb hts hown hK hJ fd_RX12_54 cd_12 (Or.inr ⟨rfl, hname, rfl⟩) ft_12_31 e75 dX12_init_126 (fun H locs hJ => ?_)
  refine lv_aload_n hx hb dX12_init_129 rfl (lv_at hl 0 rfl) ?_
  refine lv_sipush (v := 320) hx hb dX12_init_130 (by decide) ?_
  obtain ⟨b76, σ77, e78, hf⟩ := mc0 hf
  refine mx_nA hx hb hts hK hJ rfl rfl (t := 0) (by decide) rfl (fun _ h => h) (by decide) rfl e78 kw_137 dX12_init_133 (fun H locs hJ => ?_)
  obtain ⟨σ79, e80, hf⟩ := mb0 hf
  refine my_pR hx hb hts hown hK hJ fd_RX12_57 cd_12 (Or.inr ⟨rfl, hname, rfl⟩) ft_12_32 e80 dX12_init_135 (fun H locs hJ => ?_)
  refine lv_aload_n hx hb dX12_init_138 rfl (lv_at hl 0 rfl) ?_
  refine lv_bipush (v := 40) hx hb dX12_init_139 (by decide) ?_
  obtain ⟨b81, σ82, e83, hf⟩ := mc0 hf
  refine mx_nA hx hb hts hK hJ rfl rfl (t := 0) (by decide) rfl (fun _ h => h) (by decide) rfl e83 kw_137 dX12_init_141 (fun H locs hJ => ?_)
  obtain ⟨σ84, e85, hf⟩ := mb0 hf
  refine my_pR hx hb hts hown hK hJ fd_RX12_60 cd_12 (Or.inr ⟨rfl, hname, rfl⟩) ft_12_33 e85 dX12_init_143 (fun H locs hJ => ?_)
  refine lv_aload_n hx hb dX12_init_146 rfl (lv_at hl 0 rfl) ?_
  refine lv_iconst (v := 4) hx hb dX12_init_147 (by decide) ?_
  obtain ⟨b86, σ87, e88, hf⟩ := mc0 hf
  refine mx_nA hx hb hts hK hJ rfl rfl (t := 0) (by decide) rfl (fun _ h => h) (by decide) rfl e88 kw_137 dX12_init_148 (fun H locs hJ => ?_)
  obtain ⟨σ89, e90, hf⟩ := mb0 hf
  refine my_pR hx hb hts hown hK hJ fd_RX12_63 cd_12 (Or.inr ⟨rfl, hname, rfl⟩) ft_12_34 e90 dX12_init_150 (fun H locs hJ => ?_)
  refine lv_aload_n hx hb dX12_init_153 rfl (lv_at hl 0 rfl) ?_
  refine lv_bipush (v := 40) hx hb dX12_init_154 (by decide) ?_
  obtain ⟨b91, σ92, e93, hf⟩ := mc0 hf
  refine mx_nA hx hb hts hK hJ rfl rfl (t := 0) (by decide) rfl (fun _ h => h) (by decide) rfl e93 kw_137 dX12_init_156 (fun H locs hJ => ?_)
  obtain ⟨σ94, e95, hf⟩ := mb0 hf
  refine my_pR hx hb hts hown hK hJ fd_RX12_66 cd_12 (Or.inr ⟨rfl, hname, rfl⟩) ft_12_35 e95 dX12_init_158 (fun H locs hJ => ?_)
  refine lv_aload_n hx hb dX12_init_161 rfl (lv_at hl 0 rfl) ?_
  refine lv_bipush (v := 40) hx hb dX12_init_162 (by decide) ?_
  obtain ⟨b96, σ97, e98, hf⟩ := mc0 hf
  refine mx_nA hx hb hts hK hJ rfl rfl (t := 0) (by decide) rfl (fun _ h => h) (by decide) rfl e98 kw_137 dX12_init_164 (fun H locs hJ => ?_)
  obtain ⟨σ99, e100, hf⟩ := mb0 hf
  refine my_pR hx hb hts hown hK hJ fd_RX12_69 cd_12 (Or.inr ⟨rfl, hname, rfl⟩) ft_12_36 e100 dX12_init_166 (fun H locs hJ => ?_)
  refine lv_aload_n hx hb dX12_init_169 rfl (lv_at hl 0 rfl) ?_
  refine lv_bipush (v := 40) hx hb dX12_init_170 (by decide) ?_
  obtain ⟨b101, σ102, e103, hf⟩ := mc0 hf
  refine mx_nA hx hb hts hK hJ rfl rfl (t := 0) (by decide) rfl (fun _ h => h) (by decide) rfl e103 kw_137 dX12_init_172 (fun H locs hJ => ?_)
  obtain ⟨σ104, e105, hf⟩ := mb0 hf
  refine my_pR hx hb hts hown hK hJ fd_RX12_72 cd_12 (Or.inr ⟨rfl, hname, rfl⟩) ft_12_37 e105 dX12_init_174 (fun H locs hJ => ?_)
  refine lv_aload_n hx hb dX12_init_177 rfl (lv_at hl 0 rfl) ?_
  refine lv_sipush (v := 460) hx hb dX12_init_178 (by decide) ?_
  obtain ⟨b106, σ107, e108, hf⟩ := mc0 hf
  refine mx_nA hx hb hts hK hJ rfl rfl (t := 0) (by decide) rfl (fun _ h => h) (by decide) rfl e108 kw_137 dX12_init_181 (fun H locs hJ => ?_)
  obtain ⟨σ109, e110, hf⟩ := mb0 hf
  refine my_pR hx hb hts hown hK hJ fd_RX12_75 cd_12 (Or.inr ⟨rfl, hname, rfl⟩) ft_12_39 e110 dX12_init_183 (fun H locs hJ => ?_)
  refine lv_aload_n hx hb dX12_init_186 rfl (lv_at hl 0 rfl) ?_
  refine lv_sipush (v := 460) hx hb dX12_init_187 (by decide) ?_
  obtain ⟨b111, σ112, e113, hf⟩ := mc0 hf
  refine mx_nA hx hb hts hK hJ rfl rfl (t := 0) (by decide) rfl (fun _ h => h) (by decide) rfl e113 kw_137 dX12_init_190 (fun H locs hJ => ?_)
  obtain ⟨σ114, e115, hf⟩ := mb0 hf
  refine my_pR hx hb hts hown hK hJ fd_RX12_78 cd_12 (Or.inr ⟨rfl, hname, rfl⟩) ft_12_40 e115 dX12_init_192 (fun H locs hJ => ?_)
  refine lv_aload_n hx hb dX12_init_195 rfl (lv_at hl 0 rfl) ?_
  refine lv_bipush (v := 40) hx hb dX12_init_196 (by decide) ?_
  obtain ⟨b116, σ117, e118, hf⟩ := mc0 hf
  refine mx_nA hx hb hts hK hJ rfl rfl (t := 0) (by decide) rfl (fun _ h => h) (by decide) rfl e118 kw_137 dX12_init_198 (fun H locs hJ => ?_)
  obtain ⟨σ119, e120, hf⟩ := mb0 hf
  refine my_pR hx hb hts hown hK hJ fd_RX12_81 cd_12 (Or.inr ⟨rfl, hname, rfl⟩) ft_12_41 e120 dX12_init_200 (fun H locs hJ => ?_)
  refine lv_aload_n hx hb dX12_init_203 rfl (lv_at hl 0 rfl) ?_
  refine lv_sipush (v := 160) hx hb dX12_init_204 (by decide) ?_
  obtain ⟨b121, σ122, e123, hf⟩ := mc0 hf
  refine mx_nA hx hb hts hK hJ rfl rfl (t := 0) (by decide) rfl (fun _ h => h) (by decide) rfl e123 kw_137 dX12_init_207 (fun H locs hJ => ?_)
  obtain ⟨σ124, e125, hf⟩ := mb0 hf
  refine my_pR hx hb hts hown hK hJ fd_RX12_84 cd_12 (Or.inr ⟨rfl, hname, rfl⟩) ft_12_42 e125 dX12_init_209 (fun H locs hJ => ?_)
  refine lv_aload_n hx hb dX12_init_212 rfl (lv_at hl 0 rfl) ?_
  refine lv_sipush (v := 160) hx hb dX12_init_213 (by decide) ?_
  obtain ⟨b126, σ127, e128, hf⟩ := mc0 hf
  refine mx_nA hx hb hts hK hJ rfl rfl (t := 0) (by decide) rfl (fun _ h => h) (by decide) rfl e128 kw_137 dX12_init_216 (fun H locs hJ => ?_)
  obtain ⟨σ129, e130, hf⟩ := mb0 hf
  refine my_pR hx hb hts hown hK hJ fd_RX12_87 cd_12 (Or.inr ⟨rfl, hname, rfl⟩) ft_12_43 e130 dX12_init_218 (fun H locs hJ => ?_)
  refine lv_aload_n hx hb dX12_init_221 rfl (lv_at hl 0 rfl) ?_
  refine lv_sipush (v := 160) hx hb dX12_init_222 (by decide) ?_
  obtain ⟨b131, σ132, e133, hf⟩ := mc0 hf
  refine mx_nA hx hb hts hK hJ rfl rfl (t := 1) (by decide) rfl (fun _ h => h) (by decide) rfl e133 kw_138 dX12_init_225 (fun H locs hJ => ?_)
  obtain ⟨σ134, e135, hf⟩ := mb0 hf
  refine my_pR hx hb hts hown hK hJ fd_RX12_90 cd_12 (Or.inr ⟨rfl, hname, rfl⟩) ft_12_44 e135 dX12_init_227 (fun H locs hJ => ?_)
  refine lv_aload_n hx hb dX12_init_230 rfl (lv_at hl 0 rfl) ?_
  refine lv_bipush (v := 120) hx hb dX12_init_231 (by decide) ?_
  obtain ⟨b136, σ137, e138, hf⟩ := mc0 hf
  refine mx_nA hx hb hts hK hJ rfl rfl (t := 0) (by decide) rfl (fun _ h => h) (by decide) rfl e138 kw_137 dX12_init_233 (fun H locs hJ => ?_)
  obtain ⟨σ139, e140, hf⟩ := mb0 hf
  refine my_pR hx hb hts hown hK hJ fd_RX12_93 cd_12 (Or.inr ⟨rfl, hname, rfl⟩) ft_12_45 e140 dX12_init_235 (fun H locs hJ => ?_)
  refine lv_aload_n hx hb dX12_init_238 rfl (lv_at hl 0 rfl) ?_
  refine lv_bipush (v := 40) hx hb dX12_init_239 (by decide) ?_
  obtain ⟨b141, σ142, e143, hf⟩ := mc0 hf
  refine mx_nA hx hb hts hK hJ rfl rfl (t := 0) (by decide) rfl (fun _ h => h) (by decide) rfl e143 kw_137 dX12_init_241 (fun H locs hJ => ?_)
  obtain ⟨σ144, e145, hf⟩ := mb0 hf
  refine my_pR hx hb hts hown hK hJ fd_RX12_96 cd_12 (Or.inr ⟨rfl, hname, rfl⟩) ft_12_46 e145 dX12_init_243 (fun H locs hJ => ?_)
  refine lv_aload_n hx hb dX12_init_246 rfl (lv_at hl 0 rfl) ?_
  refine lv_sipush (v := 160) hx hb dX12_init_247 (by decide) ?_
  obtain ⟨b146, σ147, e148, hf⟩ := mc0 hf
  refine mx_nA hx hb hts hK hJ rfl rfl (t := 0) (by decide) rfl (fun _ h => h) (by decide) rfl e148 kw_137 dX12_init_250 (fun H locs hJ => ?_)
  obtain ⟨σ149, e150, hf⟩ := mb0 hf
  refine my_pR hx hb hts hown hK hJ fd_RX12_99 cd_12 (Or.inr ⟨rfl, hname, rfl⟩) ft_12_47 e150 dX12_init_252 (fun H locs hJ => ?_)
  refine lv_aload_n hx hb dX12_init_255 rfl (lv_at hl 0 rfl) ?_
  refine lv_bipush (v := 40) hx hb dX12_init_256 (by decide) ?_
  obtain ⟨b151, σ152, e153, hf⟩ := mc0 hf
  refine mx_nA hx hb hts hK hJ rfl rfl (t := 0) (by decide) rfl (fun _ h => h) (by decide) rfl e153 kw_137 dX12_init_258 (fun H locs hJ => ?_)
  obtain ⟨σ154, e155, hf⟩ := mb0 hf
  refine my_pR hx hb hts hown hK hJ fd_RX12_102 cd_12 (Or.inr ⟨rfl, hname, rfl⟩) ft_12_48 e155 dX12_init_260 (fun H locs hJ => ?_)
  refine lv_aload_n hx hb dX12_init_263 rfl (lv_at hl 0 rfl) ?_
  refine lv_bipush (v := 40) hx hb dX12_init_264 (by decide) ?_
  obtain ⟨b156, σ157, e158, hf⟩ := mc0 hf
  refine mx_nA hx hb hts hK hJ rfl rfl (t := 3) (by decide) rfl (fun _ h => h) (by decide) rfl e158 kw_330 dX12_init_266 (fun H locs hJ => ?_)
  obtain ⟨σ159, e160, hf⟩ := mb0 hf
  refine my_pR hx hb hts hown hK hJ fd_RX12_105 cd_12 (Or.inr ⟨rfl, hname, rfl⟩) ft_12_49 e160 dX12_init_268 (fun H locs hJ => ?_)
  refine lv_aload_n hx hb dX12_init_271 rfl (lv_at hl 0 rfl) ?_
  refine lv_sipush (v := 1400) hx hb dX12_init_272 (by decide) ?_
  obtain ⟨b161, σ162, e163, hf⟩ := mc0 hf
  refine mx_nA hx hb hts hK hJ rfl rfl (t := 0) (by decide) rfl (fun _ h => h) (by decide) rfl e163 kw_137 dX12_init_275 (fun H locs hJ => ?_)
  obtain ⟨σ164, e165, hf⟩ := mb0 hf
  refine my_pR hx hb hts hown hK hJ fd_RX12_108 cd_12 (Or.inr ⟨rfl, hname, rfl⟩) ft_12_51 e165 dX12_init_277 (fun H locs hJ => ?_)
  refine lv_aload_n hx hb dX12_init_280 rfl (lv_at hl 0 rfl) ?_
  refine lv_sipush (v := 1400) hx hb dX12_init_281 (by decide) ?_
  obtain ⟨b166, σ167, e168, hf⟩ := mc0 hf
  refine mx_nA hx hb hts hK hJ rfl rfl (t := 0) (by decide) rfl (fun _ h => h) (by decide) rfl e168 kw_137 dX12_init_284 (fun H locs hJ => ?_)
  obtain ⟨σ169, e170, hf⟩ := mb0 hf
  refine my_pR hx hb hts hown hK hJ fd_RX12_111 cd_12 (Or.inr ⟨rfl, hname, rfl⟩) ft_12_52 e170 dX12_init_286 (fun H locs hJ => ?_)
  refine lv_aload_n hx hb dX12_init_289 rfl (lv_at hl 0 rfl) ?_
  refine lv_sipush (v := 1024) hx hb dX12_init_290 (by decide) ?_
  obtain ⟨b171, σ172, e173, hf⟩ := mc0 hf
  refine mx_nA hx hb hts hK hJ rfl rfl (t := 3) (by decide) rfl (fun _ h => h) (by decide) rfl e173 kw_330 dX12_init_293 (fun H locs hJ => ?_)
  obtain ⟨σ174, e175, hf⟩ := mb0 hf
  refine my_pR hx hb hts hown hK hJ fd_RX12_114 cd_12 (Or.inr ⟨rfl, hname, rfl⟩) ft_12_56 e175 dX12_init_295 (fun H locs hJ => ?_)
  refine lv_aload_n hx hb dX12_init_298 rfl (lv_at hl 0 rfl) ?_
  refine lv_bipush (v := 24) hx hb dX12_init_299 (by decide) ?_
  obtain ⟨b176, σ177, e178, hf⟩ := mc0 hf
  refine mx_nA hx hb hts hK hJ rfl rfl (t := 0) (by decide) rfl (fun _ h => h) (by decide) rfl e178 kw_137 dX12_init_301 (fun H locs hJ => ?_)
  obtain ⟨σ179, e180, hf⟩ := mb0 hf
  refine my_pR hx hb hts hown hK hJ fd_RX12_117 cd_12 (Or.inr ⟨rfl, hname, rfl⟩) ft_12_58 e180 dX12_init_303 (fun H locs hJ => ?_)
  refine lv_aload_n hx hb dX12_init_306 rfl (lv_at hl 0 rfl) ?_
  refine lv_bipush (v := 24) hx hb dX12_init_307 (by decide) ?_
  obtain ⟨b181, σ182, e183, hf⟩ := mc0 hf
  refine mx_nA hx hb hts hK hJ rfl rfl (t := 0) (by decide) rfl (fun _ h => h) (by decide) rfl e183 kw_137 dX12_init_309 (fun H locs hJ => ?_)
  obtain ⟨σ184, e185, hf⟩ := mb0 hf
  refine my_pR hx hb hts hown hK hJ fd_RX12_120 cd_12 (Or.inr ⟨rfl, hname, rfl⟩) ft_12_59 e185 dX12_init_311 (fun H locs hJ => ?_)
  refine lv_aload_n hx hb dX12_init_314 rfl (lv_at hl 0 rfl) ?_
  refine lv_bipush (v := 20) hx hb dX12_init_315 (by decide) ?_
  obtain ⟨b186, σ187, e188, hf⟩ := mc0 hf
  refine mx_nA hx hb hts hK hJ rfl rfl (t := 0) (by decide) rfl (fun _ h => h) (by decide) rfl e188 kw_137 dX12_init_317 (fun H locs hJ => ?_)
  obtain ⟨σ189, e190, hf⟩ := mb0 hf
  refine my_pR hx hb hts hown hK hJ fd_RX12_123 cd_12 (Or.inr ⟨rfl, hname, rfl⟩) ft_12_61 e190 dX12_init_319 (fun H locs hJ => ?_)
  refine lv_aload_n hx hb dX12_init_322 rfl (lv_at hl 0 rfl) ?_
  refine lv_bipush (v := 20) hx hb dX12_init_323 (by decide) ?_
  obtain ⟨b191, σ192, e193, hf⟩ := mc0 hf
  refine mx_nA hx hb hts hK hJ rfl rfl (t := 0) (by decide) rfl (fun _ h => h) (by decide) rfl e193 kw_137 dX12_init_325 (fun H locs hJ => ?_)
  obtain ⟨σ194, e195, hf⟩ := mb0 hf
  refine my_pR hx hb hts hown hK hJ fd_RX12_126 cd_12 (Or.inr ⟨rfl, hname, rfl⟩) ft_12_62 e195 dX12_init_327 (fun H locs hJ => ?_)
  refine lv_aload_n hx hb dX12_init_330 rfl (lv_at hl 0 rfl) ?_
  refine lv_bipush (v := 20) hx hb dX12_init_331 (by decide) ?_
  obtain ⟨b196, σ197, e198, hf⟩ := mc0 hf
  refine mx_nA hx hb hts hK hJ rfl rfl (t := 0) (by decide) rfl (fun _ h => h) (by decide) rfl e198 kw_137 dX12_init_333 (fun H locs hJ => ?_)
  obtain ⟨σ199, e200, hf⟩ := mb0 hf
  refine my_pR hx hb hts hown hK hJ fd_RX12_129 cd_12 (Or.inr ⟨rfl, hname, rfl⟩) ft_12_63 e200 dX12_init_335 (fun H locs hJ => ?_)
  refine lv_aload_n hx hb dX12_init_338 rfl (lv_at hl 0 rfl) ?_
  refine lv_bipush (v := 20) hx hb dX12_init_339 (by decide) ?_
  obtain ⟨b201, σ202, e203, hf⟩ := mc0 hf
  refine mx_nA hx hb hts hK hJ rfl rfl (t := 3) (by decide) rfl (fun _ h => h) (by decide) rfl e203 kw_330 dX12_init_341 (fun H locs hJ => ?_)
  obtain ⟨σ204, e205, hf⟩ := mb0 hf
  refine my_pR hx hb hts hown hK hJ fd_RX12_132 cd_12 (Or.inr ⟨rfl, hname, rfl⟩) ft_12_64 e205 dX12_init_343 (fun H locs hJ => ?_)
  refine lv_aload_n hx hb dX12_init_346 rfl (lv_at hl 0 rfl) ?_
  refine lv_bipush (v := 12) hx hb dX12_init_347 (by decide) ?_
  obtain ⟨b206, σ207, e208, hf⟩ := mc0 hf
  refine mx_nA hx hb hts hK hJ rfl rfl (t := 0) (by decide) rfl (fun _ h => h) (by decide) rfl e208 kw_137 dX12_init_349 (fun H locs hJ => ?_)
  obtain ⟨σ209, e210, hf⟩ := mb0 hf
  refine my_pR hx hb hts hown hK hJ fd_RX12_135 cd_12 (Or.inr ⟨rfl, hname, rfl⟩) ft_12_65 e210 dX12_init_351 (fun H locs hJ => ?_)
  refine lv_aload_n hx hb dX12_init_354 rfl (lv_at hl 0 rfl) ?_
  refine lv_bipush (v := 12) hx hb dX12_init_355 (by decide) ?_
  obtain ⟨b211, σ212, e213, hf⟩ := mc0 hf
  refine mx_nA hx hb hts hK hJ rfl rfl (t := 0) (by decide) rfl (fun _ h => h) (by decide) rfl e213 kw_137 dX12_init_357 (fun H locs hJ => ?_)
  obtain ⟨σ214, e215, hf⟩ := mb0 hf
  refine my_pR hx hb hts hown hK hJ fd_RX12_138 cd_12 (Or.inr ⟨rfl, hname, rfl⟩) ft_12_66 e215 dX12_init_359 (fun H locs hJ => ?_)
  refine lv_aload_n hx hb dX12_init_362 rfl (lv_at hl 0 rfl) ?_
  refine lv_bipush (v := 12) hx hb dX12_init_363 (by decide) ?_
  obtain ⟨b216, σ217, e218, hf⟩ := mc0 hf
  refine mx_nA hx hb hts hK hJ rfl rfl (t := 0) (by decide) rfl (fun _ h => h) (by decide) rfl e218 kw_137 dX12_init_365 (fun H locs hJ => ?_)
  obtain ⟨σ219, e220, hf⟩ := mb0 hf
  refine my_pR hx hb hts hown hK hJ fd_RX12_141 cd_12 (Or.inr ⟨rfl, hname, rfl⟩) ft_12_67 e220 dX12_init_367 (fun H locs hJ => ?_)
  refine lv_aload_n hx hb dX12_init_370 rfl (lv_at hl 0 rfl) ?_
  refine lv_sipush (v := 416) hx hb dX12_init_371 (by decide) ?_
  obtain ⟨b221, σ222, e223, hf⟩ := mc0 hf
  refine mx_nA hx hb hts hK hJ rfl rfl (t := 1) (by decide) rfl (fun _ h => h) (by decide) rfl e223 kw_138 dX12_init_374 (fun H locs hJ => ?_)
  obtain ⟨σ224, e225, hf⟩ := mb0 hf
  refine my_pR hx hb hts hown hK hJ fd_RX12_144 cd_12 (Or.inr ⟨rfl, hname, rfl⟩) ft_12_69 e225 dX12_init_376 (fun H locs hJ => ?_)
  refine lv_aload_n hx hb dX12_init_379 rfl (lv_at hl 0 rfl) ?_
  refine lv_sipush (v := 416) hx hb dX12_init_380 (by decide) ?_
  obtain ⟨b226, σ227, e228, hf⟩ := mc0 hf
  refine mx_nA hx hb hts hK hJ rfl rfl (t := 1) (by decide) rfl (fun _ h => h) (by decide) rfl e228 kw_138 dX12_init_383 (fun H locs hJ => ?_)
  obtain ⟨σ229, e230, hf⟩ := mb0 hf
  refine my_pR hx hb hts hown hK hJ fd_RX12_147 cd_12 (Or.inr ⟨rfl, hname, rfl⟩) ft_12_70 e230 dX12_init_385 (fun H locs hJ => ?_)
  refine lv_aload_n hx hb dX12_init_388 rfl (lv_at hl 0 rfl) ?_
  refine lv_bipush (v := 12) hx hb dX12_init_389 (by decide) ?_
  obtain ⟨b231, σ232, e233, hf⟩ := mc0 hf
  refine mx_nA hx hb hts hK hJ rfl rfl (t := 0) (by decide) rfl (fun _ h => h) (by decide) rfl e233 kw_137 dX12_init_391 (fun H locs hJ => ?_)
  obtain ⟨σ234, e235, hf⟩ := mb0 hf
  refine my_pR hx hb hts hown hK hJ fd_RX12_150 cd_12 (Or.inr ⟨rfl, hname, rfl⟩) ft_12_71 e235 dX12_init_393 (fun H locs hJ => ?_)
  refine lv_aload_n hx hb dX12_init_396 rfl (lv_at hl 0 rfl) ?_
  refine lv_sipush (v := 1200) hx hb dX12_init_397 (by decide) ?_
  obtain ⟨b236, σ237, e238, hf⟩ := mc0 hf
  refine mx_nA hx hb hts hK hJ rfl rfl (t := 0) (by decide) rfl (fun _ h => h) (by decide) rfl e238 kw_137 dX12_init_400 (fun H locs hJ => ?_)
  obtain ⟨σ239, e240, hf⟩ := mb0 hf
  refine my_pR hx hb hts hown hK hJ fd_RX12_153 cd_12 (Or.inr ⟨rfl, hname, rfl⟩) ft_12_73 e240 dX12_init_402 (fun H locs hJ => ?_)
  refine lv_aload_n hx hb dX12_init_405 rfl (lv_at hl 0 rfl) ?_
  refine lv_bipush (v := 30) hx hb dX12_init_406 (by decide) ?_
  obtain ⟨b241, σ242, e243, hf⟩ := mc0 hf
  refine mx_nA hx hb hts hK hJ rfl rfl (t := 0) (by decide) rfl (fun _ h => h) (by decide) rfl e243 kw_137 dX12_init_408 (fun H locs hJ => ?_)
  obtain ⟨σ244, e245, hf⟩ := mb0 hf
  refine my_pR hx hb hts hown hK hJ fd_RX12_156 cd_12 (Or.inr ⟨rfl, hname, rfl⟩) ft_12_75 e245 dX12_init_410 (fun H locs hJ => ?_)
  refine lv_aload_n hx hb dX12_init_413 rfl (lv_at hl 0 rfl) ?_
  refine lv_bipush (v := 30) hx hb dX12_init_414 (by decide) ?_
  obtain ⟨b246, σ247, e248, hf⟩ := mc0 hf
  refine mx_nA hx hb hts hK hJ rfl rfl (t := 0) (by decide) rfl (fun _ h => h) (by decide) rfl e248 kw_137 dX12_init_416 (fun H locs hJ => ?_)
  obtain ⟨σ249, e250, hf⟩ := mb0 hf
  refine my_pR hx hb hts hown hK hJ fd_RX12_159 cd_12 (Or.inr ⟨rfl, hname, rfl⟩) ft_12_76 e250 dX12_init_418 (fun H locs hJ => ?_)
  refine lv_aload_n hx hb dX12_init_421 rfl (lv_at hl 0 rfl) ?_
  refine lv_bipush (v := 30) hx hb dX12_init_422 (by decide) ?_
  obtain ⟨b251, σ252, e253, hf⟩ := mc0 hf
  refine mx_nA hx hb hts hK hJ rfl rfl (t := 1) (by decide) rfl (fun _ h => h) (by decide) rfl e253 kw_138 dX12_init_424 (fun H locs hJ => ?_)
  obtain ⟨σ254, e255, hf⟩ := mb0 hf
  refine my_pR hx hb hts hown hK hJ fd_RX12_162 cd_12 (Or.inr ⟨rfl, hname, rfl⟩) ft_12_77 e255 dX12_init_426 (fun H locs hJ => ?_)
  refine lv_aload_n hx hb dX12_init_429 rfl (lv_at hl 0 rfl) ?_
  refine lv_bipush (v := 30) hx hb dX12_init_430 (by decide) ?_
  obtain ⟨b256, σ257, e258, hf⟩ := mc0 hf
  refine mx_nA hx hb hts hK hJ rfl rfl (t := 1) (by decide) rfl (fun _ h => h) (by decide) rfl e258 kw_138 dX12_init_432 (fun H locs hJ => ?_)
  obtain ⟨σ259, e260, hf⟩ := mb0 hf
  refine my_pR hx hb hts hown hK hJ fd_RX12_165 cd_12 (Or.inr ⟨rfl, hname, rfl⟩) ft_12_78 e260 dX12_init_434 (fun H locs hJ => ?_)
  refine lv_aload_n hx hb dX12_init_437 rfl (lv_at hl 0 rfl) ?_
  refine lv_bipush (v := 30) hx hb dX12_init_438 (by decide) ?_
  obtain ⟨b261, σ262, e263, hf⟩ := mc0 hf
  refine mx_nA hx hb hts hK hJ rfl rfl (t := 0) (by decide) rfl (fun _ h => h) (by decide) rfl e263 kw_137 dX12_init_440 (fun H locs hJ => ?_)
  obtain ⟨σ264, e265, hf⟩ := mb0 hf
  refine my_pR hx hb hts hown hK hJ fd_RX12_168 cd_12 (Or.inr ⟨rfl, hname, rfl⟩) ft_12_79 e265 dX12_init_442 (fun H locs hJ => ?_)
  refine lv_aload_n hx hb dX12_init_445 rfl (lv_at hl 0 rfl) ?_
  refine lv_bipush (v := 30) hx hb dX12_init_446 (by decide) ?_
  obtain ⟨b266, σ267, e268, hf⟩ := mc0 hf
  refine mx_nA hx hb hts hK hJ rfl rfl (t := 0) (by decide) rfl (fun _ h => h) (by decide) rfl e268 kw_137 dX12_init_448 (fun H locs hJ => ?_)
  obtain ⟨σ269, e270, hf⟩ := mb0 hf
  refine my_pR hx hb hts hown hK hJ fd_RX12_171 cd_12 (Or.inr ⟨rfl, hname, rfl⟩) ft_12_81 e270 dX12_init_450 (fun H locs hJ => ?_)
  refine lv_aload_n hx hb dX12_init_453 rfl (lv_at hl 0 rfl) ?_
  refine lv_bipush (v := 30) hx hb dX12_init_454 (by decide) ?_
  obtain ⟨b271, σ272, e273, hf⟩ := mc0 hf
  refine mx_nA hx hb hts hK hJ rfl rfl (t := 0) (by decide) rfl (fun _ h => h) (by decide) rfl e273 kw_137 dX12_init_456 (fun H locs hJ => ?_)
  obtain ⟨σ274, e275, hf⟩ := mb0 hf
  refine my_pR hx hb hts hown hK hJ fd_RX12_174 cd_12 (Or.inr ⟨rfl, hname, rfl⟩) ft_12_82 e275 dX12_init_458 (fun H locs hJ => ?_)
  refine lv_aload_n hx hb dX12_init_461 rfl (lv_at hl 0 rfl) ?_
  refine lv_bipush (v := 30) hx hb dX12_init_462 (by decide) ?_
  obtain ⟨b276, σ277, e278, hf⟩ := mc0 hf
  refine mx_nA hx hb hts hK hJ rfl rfl (t := 1) (by decide) rfl (fun _ h => h) (by decide) rfl e278 kw_138 dX12_init_464 (fun H locs hJ => ?_)
  obtain ⟨σ279, e280, hf⟩ := mb0 hf
  refine my_pR hx hb hts hown hK hJ fd_RX12_177 cd_12 (Or.inr ⟨rfl, hname, rfl⟩) ft_12_83 e280 dX12_init_466 (fun H locs hJ => ?_)
  refine lv_aload_n hx hb dX12_init_469 rfl (lv_at hl 0 rfl) ?_
  refine lv_bipush (v := 30) hx hb dX12_init_470 (by decide) ?_
  obtain ⟨b281, σ282, e283, hf⟩ := mc0 hf
  refine mx_nA hx hb hts hK hJ rfl rfl (t := 1) (by decide) rfl (fun _ h => h) (by decide) rfl e283 kw_138 dX12_init_472 (fun H locs hJ => ?_)
  obtain ⟨σ284, e285, hf⟩ := mb0 hf
  refine my_pR hx hb hts hown hK hJ fd_RX12_180 cd_12 (Or.inr ⟨rfl, hname, rfl⟩) ft_12_84 e285 dX12_init_474 (fun H locs hJ => ?_)
  refine lv_aload_n hx hb dX12_init_477 rfl (lv_at hl 0 rfl) ?_
  refine lv_bipush (v := 30) hx hb dX12_init_478 (by decide) ?_
  obtain ⟨b286, σ287, e288, hf⟩ := mc0 hf
  refine mx_nA hx hb hts hK hJ rfl rfl (t := 0) (by decide) rfl (fun _ h => h) (by decide) rfl e288 kw_137 dX12_init_480 (fun H locs hJ => ?_)
  obtain ⟨σ289, e290, hf⟩ := mb0 hf
  refine my_pR hx hb hts hown hK hJ fd_RX12_183 cd_12 (Or.inr ⟨rfl, hname, rfl⟩) ft_12_85 e290 dX12_init_482 (fun H locs hJ => ?_)
  refine lv_aload_n hx hb dX12_init_485 rfl (lv_at hl 0 rfl) ?_
  refine lv_bipush (v := 8) hx hb dX12_init_486 (by decide) ?_
  obtain ⟨b291, σ292, e293, hf⟩ := mc0 hf
  refine mx_nA hx hb hts hK hJ rfl rfl (t := 0) (by decide) rfl (fun _ h => h) (by decide) rfl e293 kw_137 dX12_init_488 (fun H locs hJ => ?_)
  obtain ⟨σ294, e295, hf⟩ := mb0 hf
  refine my_pR hx hb hts hown hK hJ fd_RX12_186 cd_12 (Or.inr ⟨rfl, hname, rfl⟩) ft_12_86 e295 dX12_init_490 (fun H locs hJ => ?_)
  refine lv_aload_n hx hb dX12_init_493 rfl (lv_at hl 0 rfl) ?_
  refine lv_sipush (v := 192) hx hb dX12_init_494 (by decide) ?_
  obtain ⟨b296, σ297, e298, hf⟩ := mc0 hf
  refine mx_nA hx hb hts hK hJ rfl rfl (t := 1) (by decide) rfl (fun _ h => h) (by decide) rfl e298 kw_138 dX12_init_497 (fun H locs hJ => ?_)
  obtain ⟨σ299, e300, hf⟩ := mb0 hf
  refine my_pR hx hb hts hown hK hJ fd_RX12_189 cd_12 (Or.inr ⟨rfl, hname, rfl⟩) ft_12_87 e300 dX12_init_499 (fun H locs hJ => ?_)
  refine lv_aload_n hx hb dX12_init_502 rfl (lv_at hl 0 rfl) ?_
  refine lv_sipush (v := 192) hx hb dX12_init_503 (by decide) ?_
  obtain ⟨b301, σ302, e303, hf⟩ := mc0 hf
  refine mx_nA hx hb hts hK hJ rfl rfl (t := 1) (by decide) rfl (fun _ h => h) (by decide) rfl e303 kw_138 dX12_init_506 (fun H locs hJ => ?_)
  obtain ⟨σ304, e305, hf⟩ := mb0 hf
  refine my_pR hx hb hts hown hK hJ fd_RX12_192 cd_12 (Or.inr ⟨rfl, hname, rfl⟩) ft_12_88 e305 dX12_init_508 (fun H locs hJ => ?_)
  refine lv_aload_n hx hb dX12_init_511 rfl (lv_at hl 0 rfl) ?_
  refine lv_sipush (v := 200) hx hb dX12_init_512 (by decide) ?_
  obtain ⟨b306, σ307, e308, hf⟩ := mc0 hf
  refine mx_nA hx hb hts hK hJ rfl rfl (t := 0) (by decide) rfl (fun _ h => h) (by decide) rfl e308 kw_137 dX12_init_515 (fun H locs hJ => ?_)
  obtain ⟨σ309, e310, hf⟩ := mb0 hf
  refine my_pR hx hb hts hown hK hJ fd_RX12_195 cd_12 (Or.inr ⟨rfl, hname, rfl⟩) ft_12_92 e310 dX12_init_517 (fun H locs hJ => ?_)
  refine lv_aload_n hx hb dX12_init_520 rfl (lv_at hl 0 rfl) ?_
  refine lv_bipush (v := 36) hx hb dX12_init_521 (by decide) ?_
  obtain ⟨b311, σ312, e313, hf⟩ := mc0 hf
  refine mx_nA hx hb hts hK hJ rfl rfl (t := 3) (by decide) rfl (fun _ h => h) (by decide) rfl e313 kw_330 dX12_init_523 (fun H locs hJ => ?_)
  obtain ⟨σ314, e315, hf⟩ := mb0 hf
  refine my_pR hx hb hts hown hK hJ fd_RX12_198 cd_12 (Or.inr ⟨rfl, hname, rfl⟩) ft_12_93 e315 dX12_init_525 (fun H locs hJ => ?_)
  refine lv_aload_n hx hb dX12_init_528 rfl (lv_at hl 0 rfl) ?_
  refine lv_bipush (v := 6) hx hb dX12_init_529 (by decide) ?_
  obtain ⟨b316, σ317, e318, hf⟩ := mc0 hf
  refine mx_nA hx hb hts hK hJ rfl rfl (t := 0) (by decide) rfl (fun _ h => h) (by decide) rfl e318 kw_137 dX12_init_531 (fun H locs hJ => ?_)
  obtain ⟨σ319, e320, hf⟩ := mb0 hf
  refine my_pR hx hb hts hown hK hJ fd_RX12_201 cd_12 (Or.inr ⟨rfl, hname, rfl⟩) ft_12_94 e320 dX12_init_533 (fun H locs hJ => ?_)
  refine lv_aload_n hx hb dX12_init_536 rfl (lv_at hl 0 rfl) ?_
  refine lv_bipush (v := 40) hx hb dX12_init_537 (by decide) ?_
  obtain ⟨b321, σ322, e323, hf⟩ := mc0 hf
  refine mx_nA hx hb hts hK hJ rfl rfl (t := 0) (by decide) rfl (fun _ h => h) (by decide) rfl e323 kw_137 dX12_init_539 (fun H locs hJ => ?_)
  obtain ⟨σ324, e325, hf⟩ := mb0 hf
  refine my_pR hx hb hts hown hK hJ fd_RX12_204 cd_12 (Or.inr ⟨rfl, hname, rfl⟩) ft_12_96 e325 dX12_init_541 (fun H locs hJ => ?_)
  refine lv_aload_n hx hb dX12_init_544 rfl (lv_at hl 0 rfl) ?_
  refine lv_bipush (v := 40) hx hb dX12_init_545 (by decide) ?_
  obtain ⟨b326, σ327, e328, hf⟩ := mc0 hf
  refine mx_nA hx hb hts hK hJ rfl rfl (t := 0) (by decide) rfl (fun _ h => h) (by decide) rfl e328 kw_137 dX12_init_547 (fun H locs hJ => ?_)
  obtain ⟨σ329, e330, hf⟩ := mb0 hf
  refine my_pR hx hb hts hown hK hJ fd_RX12_207 cd_12 (Or.inr ⟨rfl, hname, rfl⟩) ft_12_97 e330 dX12_init_549 (fun H locs hJ => ?_)
  refine lv_aload_n hx hb dX12_init_552 rfl (lv_at hl 0 rfl) ?_
  refine lv_bipush (v := 40) hx hb dX12_init_553 (by decide) ?_
  obtain ⟨b331, σ332, e333, hf⟩ := mc0 hf
  refine mx_nA hx hb hts hK hJ rfl rfl (t := 0) (by decide) rfl (fun _ h => h) (by decide) rfl e333 kw_137 dX12_init_555 (fun H locs hJ => ?_)
  obtain ⟨σ334, e335, hf⟩ := mb0 hf
  refine my_pR hx hb hts hown hK hJ fd_RX12_210 cd_12 (Or.inr ⟨rfl, hname, rfl⟩) ft_12_98 e335 dX12_init_557 (fun H locs hJ => ?_)
  refine lv_aload_n hx hb dX12_init_560 rfl (lv_at hl 0 rfl) ?_
  refine lv_bipush (v := 40) hx hb dX12_init_561 (by decide) ?_
  obtain ⟨b336, σ337, e338, hf⟩ := mc0 hf
  refine mx_nA hx hb hts hK hJ rfl rfl (t := 0) (by decide) rfl (fun _ h => h) (by decide) rfl e338 kw_137 dX12_init_563 (fun H locs hJ => ?_)
  obtain ⟨σ339, e340, hf⟩ := mb0 hf
  refine my_pR hx hb hts hown hK hJ fd_RX12_213 cd_12 (Or.inr ⟨rfl, hname, rfl⟩) ft_12_99 e340 dX12_init_565 (fun H locs hJ => ?_)
  refine lv_aload_n hx hb dX12_init_568 rfl (lv_at hl 0 rfl) ?_
  refine lv_bipush (v := 40) hx hb dX12_init_569 (by decide) ?_
  obtain ⟨b341, σ342, e343, hf⟩ := mc0 hf
  refine mx_nA hx hb hts hK hJ rfl rfl (t := 3) (by decide) rfl (fun _ h => h) (by decide) rfl e343 kw_330 dX12_init_571 (fun H locs hJ => ?_)
  obtain ⟨σ344, e345, hf⟩ := mb0 hf
  refine my_pR hx hb hts hown hK hJ fd_RX12_216 cd_12 (Or.inr ⟨rfl, hname, rfl⟩) ft_12_100 e345 dX12_init_573 (fun H locs hJ => ?_)
  refine lv_aload_n hx hb dX12_init_576 rfl (lv_at hl 0 rfl) ?_
  refine lv_bipush (v := 40) hx hb dX12_init_577 (by decide) ?_
  obtain ⟨b346, σ347, e348, hf⟩ := mc0 hf
  refine mx_nA hx hb hts hK hJ rfl rfl (t := 1) (by decide) rfl (fun _ h => h) (by decide) rfl e348 kw_138 dX12_init_579 (fun H locs hJ => ?_)
  obtain ⟨σ349, e350, hf⟩ := mb0 hf
  refine my_pR hx hb hts hown hK hJ fd_RX12_219 cd_12 (Or.inr ⟨rfl, hname, rfl⟩) ft_12_101 e350 dX12_init_581 (fun H locs hJ => ?_)
  refine lv_aload_n hx hb dX12_init_584 rfl (lv_at hl 0 rfl) ?_
  refine lv_sipush (v := 300) hx hb dX12_init_585 (by decide) ?_
  obtain ⟨b351, σ352, e353, hf⟩ := mc0 hf
  refine mx_nA hx hb hts hK hJ rfl rfl (t := 0) (by decide) rfl (fun _ h => h) (by decide) rfl e353 kw_137 dX12_init_588 (fun H locs hJ => ?_)
  obtain ⟨σ354, e355, hf⟩ := mb0 hf
  refine my_pR hx hb hts hown hK hJ fd_RX12_222 cd_12 (Or.inr ⟨rfl, hname, rfl⟩) ft_12_104 e355 dX12_init_590 (fun H locs hJ => ?_)
  refine lv_aload_n hx hb dX12_init_593 rfl (lv_at hl 0 rfl) ?_
  refine lv_bipush (v := 40) hx hb dX12_init_594 (by decide) ?_
  obtain ⟨b356, σ357, e358, hf⟩ := mc0 hf
  refine mx_nA hx hb hts hK hJ rfl rfl (t := 0) (by decide) rfl (fun _ h => h) (by decide) rfl e358 kw_137 dX12_init_596 (fun H locs hJ => ?_)
  obtain ⟨σ359, e360, hf⟩ := mb0 hf
  refine my_pR hx hb hts hown hK hJ fd_RX12_225 cd_12 (Or.inr ⟨rfl, hname, rfl⟩) ft_12_106 e360 dX12_init_598 (fun H locs hJ => ?_)
  refine lv_aload_n hx hb dX12_init_601 rfl (lv_at hl 0 rfl) ?_
  refine lv_bipush (v := 40) hx hb dX12_init_602 (by decide) ?_
  obtain ⟨b361, σ362, e363, hf⟩ := mc0 hf
  refine mx_nA hx hb hts hK hJ rfl rfl (t := 0) (by decide) rfl (fun _ h => h) (by decide) rfl e363 kw_137 dX12_init_604 (fun H locs hJ => ?_)
  obtain ⟨σ364, e365, hf⟩ := mb0 hf
  refine my_pR hx hb hts hown hK hJ fd_RX12_228 cd_12 (Or.inr ⟨rfl, hname, rfl⟩) ft_12_107 e365 dX12_init_606 (fun H locs hJ => ?_)
  refine lv_aload_n hx hb dX12_init_609 rfl (lv_at hl 0 rfl) ?_
  refine lv_bipush (v := 40) hx hb dX12_init_610 (by decide) ?_
  obtain ⟨b366, σ367, e368, hf⟩ := mc0 hf
  refine mx_nA hx hb hts hK hJ rfl rfl (t := 0) (by decide) rfl (fun _ h => h) (by decide) rfl e368 kw_137 dX12_init_612 (fun H locs hJ => ?_)
  obtain ⟨σ369, e370, hf⟩ := mb0 hf
  refine my_pR hx hb hts hown hK hJ fd_RX12_231 cd_12 (Or.inr ⟨rfl, hname, rfl⟩) ft_12_108 e370 dX12_init_614 (fun H locs hJ => ?_)
  refine lv_aload_n hx hb dX12_init_617 rfl (lv_at hl 0 rfl) ?_
  refine lv_bipush (v := 40) hx hb dX12_init_618 (by decide) ?_
  obtain ⟨b371, σ372, e373, hf⟩ := mc0 hf
  refine mx_nA hx hb hts hK hJ rfl rfl (t := 0) (by decide) rfl (fun _ h => h) (by decide) rfl e373 kw_137 dX12_init_620 (fun H locs hJ => ?_)
  obtain ⟨σ374, e375, hf⟩ := mb0 hf
  refine my_pR hx hb hts hown hK hJ fd_RX12_234 cd_12 (Or.inr ⟨rfl, hname, rfl⟩) ft_12_109 e375 dX12_init_622 (fun H locs hJ => ?_)
  refine lv_aload_n hx hb dX12_init_625 rfl (lv_at hl 0 rfl) ?_
  refine lv_bipush (v := 40) hx hb dX12_init_626 (by decide) ?_
  obtain ⟨b376, σ377, e378, hf⟩ := mc0 hf
  refine mx_nA hx hb hts hK hJ rfl rfl (t := 3) (by decide) rfl (fun _ h => h) (by decide) rfl e378 kw_330 dX12_init_628 (fun H locs hJ => ?_)
  obtain ⟨σ379, e380, hf⟩ := mb0 hf
  refine my_pR hx hb hts hown hK hJ fd_RX12_237 cd_12 (Or.inr ⟨rfl, hname, rfl⟩) ft_12_110 e380 dX12_init_630 (fun H locs hJ => ?_)
  refine lv_aload_n hx hb dX12_init_633 rfl (lv_at hl 0 rfl) ?_
  refine lv_bipush (v := 40) hx hb dX12_init_634 (by decide) ?_
  obtain ⟨b381, σ382, e383, hf⟩ := mc0 hf
  refine mx_nA hx hb hts hK hJ rfl rfl (t := 1) (by decide) rfl (fun _ h => h) (by decide) rfl e383 kw_138 dX12_init_636 (fun H locs hJ => ?_)
  obtain ⟨σ384, e385, hf⟩ := mb0 hf
  refine my_pR hx hb hts hown hK hJ fd_RX12_240 cd_12 (Or.inr ⟨rfl, hname, rfl⟩) ft_12_111 e385 dX12_init_638 (fun H locs hJ => ?_)
  exact my_vret hx hb hr hlocks hJ hf dX12_init_641
set_option maxHeartbeats 4000000 in
set_option maxRecDepth 100000 in
theorem c_X12_thrown (l : Launch) (G : mx_G) (P : mx_P) (a0 : Nat) (σ : mx_S) (r : Int32) (σ' : mx_S) (hf : f_X12_thrown P a0 σ = some (r, σ')) : mxz σ ≤ mpc P → mxu σ ≤ mps P → mx_M l yX12_thrown cX12_thrown 1 (some .int) 0 0 G P [.ref a0] σ (some (.int r)) σ' := by
  intro hcap hcau
  refine mx_ofW (by decide +kernel) hcap hcau (Nat.le_of_ble_eq_true rfl) ?_
  intro p e s m below meth c hx hb hr hml hts hown hlocks hname hK hJ ls hl
  have hz0 := hJ.2.1
  have hown : s.vm.findClass RX12 = some m.cls := hown
  have hl : lv_has ls 1 [(0, .ref a0)] := hl
  unfold f_X12_thrown at hf
  refine lv_aload_n hx hb dX12_thrown_0 rfl (lv_at hl 0 rfl) ?_
  obtain ⟨x1, e2, hf⟩ := mb0 hf
  refine my_gI hx hb hts hown hK hJ fd_RX12_243 hv_12_0 e2 dX12_thrown_1 ?_
  exact my_iret hx hb hr hlocks hJ hf dX12_thrown_4
set_option maxHeartbeats 4000000 in
set_option maxRecDepth 100000 in
theorem c_X12_in (l : Launch) (G : mx_G) (P : mx_P) (p0 : Int64) (p2 : Int64) (p4 : Int64) (σ : mx_S) (r : Int32) (σ' : mx_S) (hf : f_X12_in P p0 p2 p4 σ = some (r, σ')) : mxz σ ≤ mpc P → mxu σ ≤ mps P → mx_M l yX12_in cX12_in 6 (some .boolean) 0 0 G P [.long p0, .long p2, .long p4] σ (some (.int r)) σ' := by
  intro hcap hcau
  refine mx_ofW (by decide +kernel) hcap hcau (Nat.le_of_ble_eq_true rfl) ?_
  intro p e s m below meth c hx hb hr hml hts hown hlocks hname hK hJ ls hl
  have hz0 := hJ.2.1
  have hown : s.vm.findClass RX12 = some m.cls := hown
  have hl : lv_has ls 6 [(0, .long p0), (2, .long p2), (4, .long p4)] := hl
  have D18 : ∀ (w0 : Int32) (τ : mx_S), f_X12_in_D18 P w0 τ = some (r, σ') → ∀ (H : Heap) (locs : List Loc), mx_J G P s.heap (mxz σ) (mxu σ) τ H locs → ∀ ls : Array Slot, lv_has ls 6 [] → W p l e (mx_rm P 0 0 σ) s m ([.long p0, .long p2, .long p4] : List Value).toArray below meth c H locs (mxz τ - mxz σ) (mxu τ - mxu σ) (mx_Z below G P (some (.int r)) σ σ' [.long p0, .long p2, .long p4] s) (F0 m 18 ls [.int w0]) := by
    intro w0 τ hf _ _ hJ ls hl
    unfold f_X12_in_D18 at hf
    exact mx_zret hx hb hr hlocks hJ hf dX12_in_18
  have D17 : ∀  (τ : mx_S), f_X12_in_D17 P  τ = some (r, σ') → ∀ (H : Heap) (locs : List Loc), mx_J G P s.heap (mxz σ) (mxu σ) τ H locs → ∀ ls : Array Slot, lv_has ls 6 [] → W p l e (mx_rm P 0 0 σ) s m ([.long p0, .long p2, .long p4] : List Value).toArray below meth c H locs (mxz τ - mxz σ) (mxu τ - mxu σ) (mx_Z below G P (some (.int r)) σ σ' [.long p0, .long p2, .long p4] s) (F0 m 17 ls []) := by
    intro  τ hf _ _ hJ ls hl
    unfold f_X12_in_D17 at hf
    refine lv_iconst (v := 0) hx hb dX12_in_17 (by decide) ?_
    exact D18 (0 : Int32) τ hf _ _ hJ ls (lv_sub hl [] rfl)
  unfold f_X12_in at hf
  refine lv_lload_n hx hb dX12_in_0 rfl (lv_at hl 0 rfl) ?_
  refine lv_lload_n hx hb dX12_in_1 rfl (lv_at hl 1 rfl) ?_
  refine W.lcmp hx hb dX12_in_2 ?_
  refine lv_if_lt (tgt := 17) hx hb dX12_in_3 (by decide) (fun c1 => ?_) (fun c1 => ?_)
  · rw [if_pos c1] at hf
    exact D17  σ hf _ _ hJ ls (lv_sub hl [] rfl)
  · rw [if_neg c1] at hf
    refine lv_lload_n hx hb dX12_in_6 rfl (lv_at hl 0 rfl) ?_
    refine lv_lload hx hb dX12_in_7 (lv_at hl 2 rfl) ?_
    refine W.lcmp hx hb dX12_in_9 ?_
    refine lv_if_gt (tgt := 17) hx hb dX12_in_10 (by decide) (fun c2 => ?_) (fun c2 => ?_)
    · rw [if_pos c2] at hf
      exact D17  σ hf _ _ hJ ls (lv_sub hl [] rfl)
    · rw [if_neg c2] at hf
      refine lv_iconst (v := 1) hx hb dX12_in_13 (by decide) ?_
      refine lv_goto (tgt := 18) hx hb dX12_in_14 (by decide) ?_
      exact D18 (1 : Int32) σ hf _ _ hJ ls (lv_sub hl [] rfl)
set_option maxHeartbeats 4000000 in
set_option maxRecDepth 100000 in
theorem c_X12_size (l : Launch) (G : mx_G) (P : mx_P) (p0 : Int64) (σ : mx_S) (r : Int64) (σ' : mx_S) (hf : f_X12_size P p0 σ = some (r, σ')) : mxz σ ≤ mpc P → mxu σ ≤ mps P → mx_M l yX12_size cX12_size 2 (some .long) 0 0 G P [.long p0] σ (some (.long r)) σ' := by
  intro hcap hcau
  refine mx_ofW (by decide +kernel) hcap hcau (Nat.le_of_ble_eq_true rfl) ?_
  intro p e s m below meth c hx hb hr hml hts hown hlocks hname hK hJ ls hl
  have hz0 := hJ.2.1
  have hown : s.vm.findClass RX12 = some m.cls := hown
  have hl : lv_has ls 2 [(0, .long p0)] := hl
  have D12 : ∀ (w0 : Int64) (τ : mx_S), f_X12_size_D12 P w0 τ = some (r, σ') → ∀ (H : Heap) (locs : List Loc), mx_J G P s.heap (mxz σ) (mxu σ) τ H locs → ∀ ls : Array Slot, lv_has ls 2 [] → W p l e (mx_rm P 0 0 σ) s m ([.long p0] : List Value).toArray below meth c H locs (mxz τ - mxz σ) (mxu τ - mxu σ) (mx_Z below G P (some (.long r)) σ σ' [.long p0] s) (F0 m 12 ls [.long w0]) := by
    intro w0 τ hf _ _ hJ ls hl
    unfold f_X12_size_D12 at hf
    exact my_lret hx hb hr hlocks hJ hf dX12_size_12
  unfold f_X12_size at hf
  refine lv_lload_n hx hb dX12_size_0 rfl (lv_at hl 0 rfl) ?_
  refine lv_lconst (v := 0) hx hb dX12_size_1 (by decide) ?_
  refine W.lcmp hx hb dX12_size_2 ?_
  refine lv_if_ge (tgt := 11) hx hb dX12_size_3 (by decide) (fun c1 => ?_) (fun c1 => ?_)
  · rw [if_pos c1] at hf
    refine lv_lload_n hx hb dX12_size_11 rfl (lv_at hl 0 rfl) ?_
    exact D12 p0 σ hf _ _ hJ ls (lv_sub hl [] rfl)
  · rw [if_neg c1] at hf
    refine lv_lload_n hx hb dX12_size_6 rfl (lv_at hl 0 rfl) ?_
    refine lv_lneg hx hb dX12_size_7 ?_
    refine lv_goto (tgt := 12) hx hb dX12_size_8 (by decide) ?_
    exact D12 (-p0) σ hf _ _ hJ ls (lv_sub hl [] rfl)
set_option maxHeartbeats 4000000 in
set_option maxRecDepth 100000 in
theorem c_X12_down (l : Launch) (G : mx_G) (P : mx_P) (p0 : Int64) (p2 : Int64) (σ : mx_S) (r : Int64) (σ' : mx_S) (hf : f_X12_down P p0 p2 σ = some (r, σ')) : mxz σ ≤ mpc P → mxu σ ≤ mps P → mx_M l yX12_down cX12_down 6 (some .long) 0 0 G P [.long p0, .long p2] σ (some (.long r)) σ' := by
  intro hcap hcau
  refine mx_ofW (by decide +kernel) hcap hcau (Nat.le_of_ble_eq_true rfl) ?_
  intro p e s m below meth c hx hb hr hml hts hown hlocks hname hK hJ ls hl
  have hz0 := hJ.2.1
  have hown : s.vm.findClass RX12 = some m.cls := hown
  have hl : lv_has ls 6 [(0, .long p0), (2, .long p2)] := hl
  have D47 : ∀ (w0 : Int64) (τ : mx_S), f_X12_down_D47 P w0 τ = some (r, σ') → ∀ (H : Heap) (locs : List Loc), mx_J G P s.heap (mxz σ) (mxu σ) τ H locs → ∀ ls : Array Slot, lv_has ls 6 [] → W p l e (mx_rm P 0 0 σ) s m ([.long p0, .long p2] : List Value).toArray below meth c H locs (mxz τ - mxz σ) (mxu τ - mxu σ) (mx_Z below G P (some (.long r)) σ σ' [.long p0, .long p2] s) (F0 m 47 ls [.long w0]) := by
    intro w0 τ hf _ _ hJ ls hl
    unfold f_X12_down_D47 at hf
    exact my_lret hx hb hr hlocks hJ hf dX12_down_47
  have D45 : ∀ (v4 : Int64) (τ : mx_S), f_X12_down_D45 P v4 τ = some (r, σ') → ∀ (H : Heap) (locs : List Loc), mx_J G P s.heap (mxz σ) (mxu σ) τ H locs → ∀ ls : Array Slot, lv_has ls 6 [(4, .long v4)] → W p l e (mx_rm P 0 0 σ) s m ([.long p0, .long p2] : List Value).toArray below meth c H locs (mxz τ - mxz σ) (mxu τ - mxu σ) (mx_Z below G P (some (.long r)) σ σ' [.long p0, .long p2] s) (F0 m 45 ls []) := by
    intro v4 τ hf _ _ hJ ls hl
    unfold f_X12_down_D45 at hf
    refine lv_lload hx hb dX12_down_45 (lv_at hl 0 rfl) ?_
    exact D47 v4 τ hf _ _ hJ ls (lv_sub hl [] rfl)
  have D35 : ∀ (v4 : Int64) (w0 : Int32) (w1 : Int32) (τ : mx_S), f_X12_down_D35 P v4 w0 w1 τ = some (r, σ') → ∀ (H : Heap) (locs : List Loc), mx_J G P s.heap (mxz σ) (mxu σ) τ H locs → ∀ ls : Array Slot, lv_has ls 6 [(4, .long v4)] → W p l e (mx_rm P 0 0 σ) s m ([.long p0, .long p2] : List Value).toArray below meth c H locs (mxz τ - mxz σ) (mxu τ - mxu σ) (mx_Z below G P (some (.long r)) σ σ' [.long p0, .long p2] s) (F0 m 35 ls [.int w0, .int w1]) := by
    intro v4 w0 w1 τ hf _ _ hJ ls hl
    unfold f_X12_down_D35 at hf
    refine lv_icmp_eq (tgt := 45) hx hb dX12_down_35 (by decide) (fun c8 => ?_) (fun c8 => ?_)
    · rw [if_pos c8] at hf
      exact D45 v4 τ hf _ _ hJ ls (lv_sub hl [0] rfl)
    · rw [if_neg c8] at hf
      refine lv_lload hx hb dX12_down_38 (lv_at hl 0 rfl) ?_
      refine lv_lconst (v := 1) hx hb dX12_down_40 (by decide) ?_
      refine lv_lsub hx hb dX12_down_41 ?_
      refine lv_goto (tgt := 47) hx hb dX12_down_42 (by decide) ?_
      exact D47 (v4 - (1 : Int64)) τ hf _ _ hJ ls (lv_sub hl [] rfl)
  have D24 : ∀ (v2 : Int64) (v4 : Int64) (w0 : Int32) (τ : mx_S), f_X12_down_D24 P v2 v4 w0 τ = some (r, σ') → ∀ (H : Heap) (locs : List Loc), mx_J G P s.heap (mxz σ) (mxu σ) τ H locs → ∀ ls : Array Slot, lv_has ls 6 [(2, .long v2), (4, .long v4)] → W p l e (mx_rm P 0 0 σ) s m ([.long p0, .long p2] : List Value).toArray below meth c H locs (mxz τ - mxz σ) (mxu τ - mxu σ) (mx_Z below G P (some (.long r)) σ σ' [.long p0, .long p2] s) (F0 m 24 ls [.int w0]) := by
    intro v2 v4 w0 τ hf _ _ hJ ls hl
    unfold f_X12_down_D24 at hf
    refine lv_lload_n hx hb dX12_down_24 rfl (lv_at hl 0 rfl) ?_
    refine lv_lconst (v := 0) hx hb dX12_down_25 (by decide) ?_
    refine W.lcmp hx hb dX12_down_26 ?_
    refine lv_if_ge (tgt := 34) hx hb dX12_down_27 (by decide) (fun c7 => ?_) (fun c7 => ?_)
    · rw [if_pos c7] at hf
      refine lv_iconst (v := 0) hx hb dX12_down_34 (by decide) ?_
      exact D35 v4 (0 : Int32) w0 τ hf _ _ hJ ls (lv_sub hl [1] rfl)
    · rw [if_neg c7] at hf
      refine lv_iconst (v := 1) hx hb dX12_down_30 (by decide) ?_
      refine lv_goto (tgt := 35) hx hb dX12_down_31 (by decide) ?_
      exact D35 v4 (1 : Int32) w0 τ hf _ _ hJ ls (lv_sub hl [1] rfl)
  unfold f_X12_down at hf
  refine lv_lload_n hx hb dX12_down_0 rfl (lv_at hl 0 rfl) ?_
  refine lv_lload_n hx hb dX12_down_1 rfl (lv_at hl 1 rfl) ?_
  obtain ⟨x1, e2, hf⟩ := mb0 hf
  refine lv_ldiv hx hb dX12_down_2 (md_Ls e2).1 ?_
  refine mx_eL (md_Ls e2).2 ?_
  refine lv_lstore (lv' := [(4, .long x1), (0, .long p0), (2, .long p2)]) hx hb dX12_down_3 hl (by decide) rfl (fun ls hl => ?_)
  refine lv_lload_n hx hb dX12_down_5 rfl (lv_at hl 1 rfl) ?_
  refine lv_lload_n hx hb dX12_down_6 rfl (lv_at hl 2 rfl) ?_
  obtain ⟨x3, e4, hf⟩ := mb0 hf
  refine lv_lrem hx hb dX12_down_7 (mm_Ls e4).1 ?_
  refine mx_eL (mm_Ls e4).2 ?_
  refine lv_lconst (v := 0) hx hb dX12_down_8 (by decide) ?_
  refine W.lcmp hx hb dX12_down_9 ?_
  refine lv_if_eq (tgt := 45) hx hb dX12_down_10 (by decide) (fun c5 => ?_) (fun c5 => ?_)
  · rw [if_pos c5] at hf
    exact D45 x1 σ hf _ _ hJ ls (lv_sub hl [0] rfl)
  · rw [if_neg c5] at hf
    refine lv_lload_n hx hb dX12_down_13 rfl (lv_at hl 1 rfl) ?_
    refine lv_lconst (v := 0) hx hb dX12_down_14 (by decide) ?_
    refine W.lcmp hx hb dX12_down_15 ?_
    refine lv_if_ge (tgt := 23) hx hb dX12_down_16 (by decide) (fun c6 => ?_) (fun c6 => ?_)
    · rw [if_pos c6] at hf
      refine lv_iconst (v := 0) hx hb dX12_down_23 (by decide) ?_
      exact D24 p2 x1 (0 : Int32) σ hf _ _ hJ ls (lv_sub hl [2, 0] rfl)
    · rw [if_neg c6] at hf
      refine lv_iconst (v := 1) hx hb dX12_down_19 (by decide) ?_
      refine lv_goto (tgt := 24) hx hb dX12_down_20 (by decide) ?_
      exact D24 p2 x1 (1 : Int32) σ hf _ _ hJ ls (lv_sub hl [2, 0] rfl)
set_option maxHeartbeats 4000000 in
set_option maxRecDepth 100000 in
theorem c_X12_up (l : Launch) (G : mx_G) (P : mx_P) (p0 : Int64) (p2 : Int64) (σ : mx_S) (r : Int64) (σ' : mx_S) (hf : f_X12_up P p0 p2 σ = some (r, σ')) : mxz σ ≤ mpc P → mxu σ ≤ mps P → mx_M l yX12_up cX12_up 4 (some .long) 1 25 G P [.long p0, .long p2] σ (some (.long r)) σ' := by
  intro hcap hcau
  refine mx_ofW (by decide +kernel) hcap hcau (Nat.le_of_ble_eq_true rfl) ?_
  intro p e s m below meth c hx hb hr hml hts hown hlocks hname hK hJ ls hl
  have hz0 := hJ.2.1
  have hown : s.vm.findClass RX12 = some m.cls := hown
  have hl : lv_has ls 4 [(0, .long p0), (2, .long p2)] := hl
  unfold f_X12_up at hf
  refine lv_lload_n hx hb dX12_up_0 rfl (lv_at hl 0 rfl) ?_
  refine lv_lneg hx hb dX12_up_1 ?_
  refine lv_lload_n hx hb dX12_up_2 rfl (lv_at hl 1 rfl) ?_
  obtain ⟨x2, σ1, e3, hf⟩ := mc0 hf
  refine mx_callS (As := [.long (-p0), .long p2]) (rest := []) hx hb hml hts hown hK hJ rfl rfl (c_X12_down l G P (-p0) p2 σ x2 σ1 e3) me_X12_down kw_2374 kw_2373 (Nat.le_of_ble_eq_true rfl) (Nat.le_of_ble_eq_true rfl) rfl hl.1 rfl (Nat.le_of_ble_eq_true rfl) dX12_up_3 (fun H locs hJ => ?_)
  refine lv_lneg hx hb dX12_up_6 ?_
  exact my_lret hx hb hr hlocks hJ hf dX12_up_7
set_option maxHeartbeats 4000000 in
set_option maxRecDepth 100000 in
theorem c_X12_gcd (l : Launch) (G : mx_G) (P : mx_P) (p0 : Int64) (p2 : Int64) (σ : mx_S) (r : Int64) (σ' : mx_S) (hf : f_X12_gcd P p0 p2 σ = some (r, σ')) : mxz σ ≤ mpc P → mxu σ ≤ mps P → mx_M l yX12_gcd cX12_gcd 10 (some .long) 1 21 G P [.long p0, .long p2] σ (some (.long r)) σ' := by
  intro hcap hcau
  refine mx_ofW (by decide +kernel) hcap hcau (Nat.le_of_ble_eq_true rfl) ?_
  intro p e s m below meth c hx hb hr hml hts hown hlocks hname hK hJ ls hl
  have hz0 := hJ.2.1
  have hown : s.vm.findClass RX12 = some m.cls := hown
  have hl : lv_has ls 10 [(0, .long p0), (2, .long p2)] := hl
  have B12 : ∀ (v4 : Int64) (v6 : Int64) (τ : mx_S) (o : (Int64 × Int64 × mx_S) ⊕ ((Int64 × mx_S))), f_X12_gcd_B12 P  v4 v6 τ = some o → (∀ (y4 : Int64) (y6 : Int64) (υ : mx_S), o = .inl (y4, y6, υ) → ∀ (H : Heap) (locs : List Loc), mx_J G P s.heap (mxz σ) (mxu σ) υ H locs → ∀ ls : Array Slot, lv_has ls 10 [(4, .long y4), (6, .long y6)] → W p l e (mx_rm P 1 21 σ) s m ([.long p0, .long p2] : List Value).toArray below meth c H locs (mxz υ - mxz σ) (mxu υ - mxu σ) (mx_Z below G P (some (.long r)) σ σ' [.long p0, .long p2] s) (F0 m 12 ls [])) → (∀ (y4 : Int64) (υ : mx_S), o = .inr (y4, υ) → ∀ (H : Heap) (locs : List Loc), mx_J G P s.heap (mxz σ) (mxu σ) υ H locs → ∀ ls : Array Slot, lv_has ls 10 [(4, .long y4)] → W p l e (mx_rm P 1 21 σ) s m ([.long p0, .long p2] : List Value).toArray below meth c H locs (mxz υ - mxz σ) (mxu υ - mxu σ) (mx_Z below G P (some (.long r)) σ σ' [.long p0, .long p2] s) (F0 m 37 ls [])) → ∀ (H : Heap) (locs : List Loc), mx_J G P s.heap (mxz σ) (mxu σ) τ H locs → ∀ ls : Array Slot, lv_has ls 10 [(4, .long v4), (6, .long v6)] → W p l e (mx_rm P 1 21 σ) s m ([.long p0, .long p2] : List Value).toArray below meth c H locs (mxz τ - mxz σ) (mxu τ - mxu σ) (mx_Z below G P (some (.long r)) σ σ' [.long p0, .long p2] s) (F0 m 12 ls []) := by
    intro  v4 v6 τ o hf Kb Ke0 H locs hJ ls hl
    unfold f_X12_gcd_B12 at hf
    refine lv_lload hx hb dX12_gcd_12 (lv_at hl 1 rfl) ?_
    refine lv_lconst (v := 0) hx hb dX12_gcd_14 (by decide) ?_
    refine W.lcmp hx hb dX12_gcd_15 ?_
    refine lv_if_eq (tgt := 37) hx hb dX12_gcd_16 (by decide) (fun c7 => ?_) (fun c7 => ?_)
    · rw [if_pos c7] at hf
      exact Ke0 v4 τ (Option.some.inj hf).symm _ _ hJ ls (lv_sub hl [0] rfl)
    · rw [if_neg c7] at hf
      refine lv_lload hx hb dX12_gcd_19 (lv_at hl 0 rfl) ?_
      refine lv_lload hx hb dX12_gcd_21 (lv_at hl 1 rfl) ?_
      obtain ⟨x8, e9, hf⟩ := mb0 hf
      refine lv_lrem hx hb dX12_gcd_23 (mm_Ls e9).1 ?_
      refine mx_eL (mm_Ls e9).2 ?_
      refine lv_lstore (lv' := [(8, .long x8), (4, .long v4), (6, .long v6)]) hx hb dX12_gcd_24 hl (by decide) rfl (fun ls hl => ?_)
      refine lv_lload hx hb dX12_gcd_26 (lv_at hl 2 rfl) ?_
      refine lv_lstore (lv' := [(4, .long v6), (8, .long x8), (6, .long v6)]) hx hb dX12_gcd_28 hl (by decide) rfl (fun ls hl => ?_)
      refine lv_lload hx hb dX12_gcd_30 (lv_at hl 1 rfl) ?_
      refine lv_lstore (lv' := [(6, .long x8), (4, .long v6), (8, .long x8)]) hx hb dX12_gcd_32 hl (by decide) rfl (fun ls hl => ?_)
      refine lv_goto (tgt := 12) hx hb dX12_gcd_34 (by decide) ?_
      exact Kb v6 x8 τ (Option.some.inj hf).symm _ _ hJ ls (lv_sub hl [1, 0] rfl)
  have L12 : ∀  (n : Nat) (v4 : Int64) (v6 : Int64) (τ : mx_S) (o : (Int64 × mx_S)), mx_lp (f_X12_gcd_L12 P ) n (v4, v6, τ) = some o → (∀ (y4 : Int64) (υ : mx_S), o = (y4, υ) → ∀ (H : Heap) (locs : List Loc), mx_J G P s.heap (mxz σ) (mxu σ) υ H locs → ∀ ls : Array Slot, lv_has ls 10 [(4, .long y4)] → W p l e (mx_rm P 1 21 σ) s m ([.long p0, .long p2] : List Value).toArray below meth c H locs (mxz υ - mxz σ) (mxu υ - mxu σ) (mx_Z below G P (some (.long r)) σ σ' [.long p0, .long p2] s) (F0 m 37 ls [])) → ∀ (H : Heap) (locs : List Loc), mx_J G P s.heap (mxz σ) (mxu σ) τ H locs → ∀ ls : Array Slot, lv_has ls 10 [(4, .long v4), (6, .long v6)] → W p l e (mx_rm P 1 21 σ) s m ([.long p0, .long p2] : List Value).toArray below meth c H locs (mxz τ - mxz σ) (mxu τ - mxu σ) (mx_Z below G P (some (.long r)) σ σ' [.long p0, .long p2] s) (F0 m 12 ls []) := by
    intro  n
    induction n with
    | zero =>
      intro v4 v6 τ o hf
      rw [mx_lp0] at hf
      cases hf
    | succ n ih =>
      intro v4 v6 τ o hf Ke0 H locs hJ ls hl
      rw [mx_lpS] at hf
      obtain ⟨b, eb, hf⟩ := mb0 hf
      refine B12  v4 v6 τ b eb (fun y4 y6 υ ho H locs hJ ls hl => ?_) (fun y4 υ ho H locs hJ ls hl => ?_) H locs hJ ls hl
      · subst ho
        exact ih y4 y6 υ o hf Ke0 H locs hJ ls hl
      · subst ho
        exact Ke0 y4 υ (Option.some.inj hf).symm _ _ hJ ls hl
  unfold f_X12_gcd at hf
  refine lv_lload_n hx hb dX12_gcd_0 rfl (lv_at hl 0 rfl) ?_
  obtain ⟨x2, σ1, e3, hf⟩ := mc0 hf
  refine mx_callS (As := [.long p0]) (rest := []) hx hb hml hts hown hK hJ rfl rfl (c_X12_size l G P p0 σ x2 σ1 e3) me_X12_size kw_2263 kw_2262 (Nat.le_of_ble_eq_true rfl) (Nat.le_of_ble_eq_true rfl) rfl hl.1 rfl (Nat.le_of_ble_eq_true rfl) dX12_gcd_1 (fun H locs hJ => ?_)
  refine lv_lstore (lv' := [(4, .long x2), (0, .long p0), (2, .long p2)]) hx hb dX12_gcd_4 hl (by decide) rfl (fun ls hl => ?_)
  refine lv_lload_n hx hb dX12_gcd_6 rfl (lv_at hl 2 rfl) ?_
  obtain ⟨x5, σ4, e6, hf⟩ := mc0 hf
  refine mx_callS (As := [.long p2]) (rest := []) hx hb hml hts hown hK hJ rfl rfl (c_X12_size l G P p2 σ1 x5 σ4 e6) me_X12_size kw_2263 kw_2262 (Nat.le_of_ble_eq_true rfl) (Nat.le_of_ble_eq_true rfl) rfl hl.1 rfl (Nat.le_of_ble_eq_true rfl) dX12_gcd_7 (fun H locs hJ => ?_)
  refine lv_lstore (lv' := [(6, .long x5), (4, .long x2), (0, .long p0), (2, .long p2)]) hx hb dX12_gcd_10 hl (by decide) rfl (fun ls hl => ?_)
  obtain ⟨o10, e11, hf⟩ := mb0 hf
  refine L12  (mpN P) x2 x5 σ4 o10 e11 (fun y12 σ13 ho H locs hJ ls hl => ?_) _ _ hJ ls (lv_sub hl [1, 0] rfl)
  · rw [ho] at hf
    have hf : (some (y12, σ13)) = some (r, σ') := hf
    refine lv_lload hx hb dX12_gcd_37 (lv_at hl 0 rfl) ?_
    exact my_lret hx hb hr hlocks hJ hf dX12_gcd_39
set_option maxHeartbeats 4000000 in
set_option maxRecDepth 100000 in
theorem c_X12_tapeWord (l : Launch) (G : mx_G) (P : mx_P) (a0 : Nat) (p1 : Int32) (σ : mx_S) (σ' : mx_S) (hf : f_X12_tapeWord P a0 p1 σ = some σ') : mxz σ ≤ mpc P → mxu σ ≤ mps P → mx_M l yX12_tapeWord cX12_tapeWord 3 none 0 0 G P [.ref a0, .int p1] σ none σ' := by
  intro hcap hcau
  refine mx_ofW (by decide +kernel) hcap hcau (Nat.le_of_ble_eq_true rfl) ?_
  intro p e s m below meth c hx hb hr hml hts hown hlocks hname hK hJ ls hl
  have hz0 := hJ.2.1
  have hown : s.vm.findClass RX12 = some m.cls := hown
  have hl : lv_has ls 3 [(0, .ref a0), (1, .int p1)] := hl
  have B3 : ∀ (v0 : Nat) (v1 : Int32) (v2 : Int32) (τ : mx_S) (o : (Int32 × mx_S) ⊕ ((mx_S))), f_X12_tapeWord_B3 P v0 v1 v2 τ = some o → (∀ (y2 : Int32) (υ : mx_S), o = .inl (y2, υ) → ∀ (H : Heap) (locs : List Loc), mx_J G P s.heap (mxz σ) (mxu σ) υ H locs → ∀ ls : Array Slot, lv_has ls 3 [(0, .ref v0), (1, .int v1), (2, .int y2)] → W p l e (mx_rm P 0 0 σ) s m ([.ref a0, .int p1] : List Value).toArray below meth c H locs (mxz υ - mxz σ) (mxu υ - mxu σ) (mx_Z below G P none σ σ' [.ref a0, .int p1] s) (F0 m 3 ls [])) → (∀  (υ : mx_S), o = .inr υ → ∀ (H : Heap) (locs : List Loc), mx_J G P s.heap (mxz σ) (mxu σ) υ H locs → ∀ ls : Array Slot, lv_has ls 3 [] → W p l e (mx_rm P 0 0 σ) s m ([.ref a0, .int p1] : List Value).toArray below meth c H locs (mxz υ - mxz σ) (mxu υ - mxu σ) (mx_Z below G P none σ σ' [.ref a0, .int p1] s) (F0 m 39 ls [])) → ∀ (H : Heap) (locs : List Loc), mx_J G P s.heap (mxz σ) (mxu σ) τ H locs → ∀ ls : Array Slot, lv_has ls 3 [(0, .ref v0), (1, .int v1), (2, .int v2)] → W p l e (mx_rm P 0 0 σ) s m ([.ref a0, .int p1] : List Value).toArray below meth c H locs (mxz τ - mxz σ) (mxu τ - mxu σ) (mx_Z below G P none σ σ' [.ref a0, .int p1] s) (F0 m 3 ls []) := by
    intro v0 v1 v2 τ o hf Kb Ke0 H locs hJ ls hl
    unfold f_X12_tapeWord_B3 at hf
    refine lv_iload_n hx hb dX12_tapeWord_3 rfl (lv_at hl 2 rfl) ?_
    refine lv_if_lt (tgt := 39) hx hb dX12_tapeWord_4 (by decide) (fun c1 => ?_) (fun c1 => ?_)
    · rw [if_pos c1] at hf
      exact Ke0 τ (Option.some.inj hf).symm _ _ hJ ls (lv_sub hl [] rfl)
    · rw [if_neg c1] at hf
      refine lv_aload_n hx hb dX12_tapeWord_7 rfl (lv_at hl 0 rfl) ?_
      obtain ⟨b2, e3, hf⟩ := mb0 hf
      refine my_gR hx hb hts hown hK hJ fd_RX12_7 hv_12_1 e3 dX12_tapeWord_8 ?_
      refine lv_aload_n hx hb dX12_tapeWord_11 rfl (lv_at hl 0 rfl) ?_
      obtain ⟨x4, e5, hf⟩ := mb0 hf
      refine my_gI hx hb hts hown hK hJ fd_RX12_255 hv_12_2 e5 dX12_tapeWord_12 ?_
      refine lv_iload_n hx hb dX12_tapeWord_15 rfl (lv_at hl 1 rfl) ?_
      refine lv_iload_n hx hb dX12_tapeWord_16 rfl (lv_at hl 2 rfl) ?_
      refine lv_ishr hx hb dX12_tapeWord_17 ?_
      refine lv_sipush (v := 255) hx hb dX12_tapeWord_18 (by decide) ?_
      refine lv_iand hx hb dX12_tapeWord_21 ?_
      obtain ⟨σ6, e7, hf⟩ := mb0 hf
      refine mx_sI hx hb hK hJ e7 dX12_tapeWord_22 (fun H locs hJ => ?_)
      refine lv_aload_n hx hb dX12_tapeWord_23 rfl (lv_at hl 0 rfl) ?_
      refine lv_dup hx hb dX12_tapeWord_24 rfl ?_
      obtain ⟨x8, e9, hf⟩ := mb0 hf
      refine my_gI hx hb hts hown hK hJ fd_RX12_255 hv_12_2 e9 dX12_tapeWord_25 ?_
      refine lv_iconst (v := 1) hx hb dX12_tapeWord_28 (by decide) ?_
      refine lv_iadd hx hb dX12_tapeWord_29 ?_
      obtain ⟨σ10, e11, hf⟩ := mb0 hf
      refine my_pI hx hb hts hown hK hJ fd_RX12_255 cd_12 (Or.inl rfl) ht_12_2 e11 dX12_tapeWord_30 (fun H locs hJ => ?_)
      obtain ⟨x12, e13, hf⟩ := mb0 hf
      refine lv_iinc (v := x12) (lv' := [(2, .int x12), (0, .ref v0), (1, .int v1)]) hx hb dX12_tapeWord_33 hl (k := 2) rfl (by rw [← Option.some.inj e13]; rfl) (by decide) rfl (fun ls hl => ?_)
      refine lv_goto (tgt := 3) hx hb dX12_tapeWord_36 (by decide) ?_
      exact Kb x12 σ10 (Option.some.inj hf).symm _ _ hJ ls (lv_sub hl [1, 2, 0] rfl)
  have L3 : ∀ (v0 : Nat) (v1 : Int32) (n : Nat) (v2 : Int32) (τ : mx_S) (o : (mx_S)), mx_lp (f_X12_tapeWord_L3 P v0 v1) n (v2, τ) = some o → (∀  (υ : mx_S), o = υ → ∀ (H : Heap) (locs : List Loc), mx_J G P s.heap (mxz σ) (mxu σ) υ H locs → ∀ ls : Array Slot, lv_has ls 3 [] → W p l e (mx_rm P 0 0 σ) s m ([.ref a0, .int p1] : List Value).toArray below meth c H locs (mxz υ - mxz σ) (mxu υ - mxu σ) (mx_Z below G P none σ σ' [.ref a0, .int p1] s) (F0 m 39 ls [])) → ∀ (H : Heap) (locs : List Loc), mx_J G P s.heap (mxz σ) (mxu σ) τ H locs → ∀ ls : Array Slot, lv_has ls 3 [(0, .ref v0), (1, .int v1), (2, .int v2)] → W p l e (mx_rm P 0 0 σ) s m ([.ref a0, .int p1] : List Value).toArray below meth c H locs (mxz τ - mxz σ) (mxu τ - mxu σ) (mx_Z below G P none σ σ' [.ref a0, .int p1] s) (F0 m 3 ls []) := by
    intro v0 v1 n
    induction n with
    | zero =>
      intro v2 τ o hf
      rw [mx_lp0] at hf
      cases hf
    | succ n ih =>
      intro v2 τ o hf Ke0 H locs hJ ls hl
      rw [mx_lpS] at hf
      obtain ⟨b, eb, hf⟩ := mb0 hf
      refine B3 v0 v1 v2 τ b eb (fun y2 υ ho H locs hJ ls hl => ?_) (fun  υ ho H locs hJ ls hl => ?_) H locs hJ ls hl
      · subst ho
        exact ih y2 υ o hf Ke0 H locs hJ ls hl
      · subst ho
        exact Ke0  υ (Option.some.inj hf).symm _ _ hJ ls hl
  unfold f_X12_tapeWord at hf
  refine lv_bipush (v := 24) hx hb dX12_tapeWord_0 (by decide) ?_
  refine lv_istore_n (lv' := [(2, .int (24 : Int32)), (0, .ref a0), (1, .int p1)]) hx hb dX12_tapeWord_2 rfl hl (by decide) rfl (fun ls hl => ?_)
  obtain ⟨o14, e15, hf⟩ := mb0 hf
  refine L3 a0 p1 (mpN P) (24 : Int32) σ o14 e15 (fun σ16 ho H locs hJ ls hl => ?_) _ _ hJ ls (lv_sub hl [1, 2, 0] rfl)
  · rw [ho] at hf
    have hf : (some σ16) = some σ' := hf
    exact my_vret hx hb hr hlocks hJ hf dX12_tapeWord_39
set_option maxHeartbeats 4000000 in
set_option maxRecDepth 100000 in
theorem c_X12_feed (l : Launch) (G : mx_G) (P : mx_P) (a0 : Nat) (p1 : Int32) (p2 : Int32) (p3 : Int32) (p4 : Int32) (p5 : Int32) (σ : mx_S) (r : Int32) (σ' : mx_S) (hf : f_X12_feed P a0 p1 p2 p3 p4 p5 σ = some (r, σ')) : mxz σ ≤ mpc P → mxu σ ≤ mps P → mx_M l yX12_feed cX12_feed 6 (some .int) 1 22 G P [.ref a0, .int p1, .int p2, .int p3, .int p4, .int p5] σ (some (.int r)) σ' := by
  intro hcap hcau
  refine mx_ofW (by decide +kernel) hcap hcau (Nat.le_of_ble_eq_true rfl) ?_
  intro p e s m below meth c hx hb hr hml hts hown hlocks hname hK hJ ls hl
  have hz0 := hJ.2.1
  have hown : s.vm.findClass RX12 = some m.cls := hown
  have hl : lv_has ls 6 [(0, .ref a0), (1, .int p1), (2, .int p2), (3, .int p3), (4, .int p4), (5, .int p5)] := hl
  have D19 : ∀ (v0 : Nat) (v1 : Int32) (v2 : Int32) (v3 : Int32) (v4 : Int32) (v5 : Int32) (w0 : Int32) (w1 : Nat) (τ : mx_S), f_X12_feed_D19 P v0 v1 v2 v3 v4 v5 w0 w1 τ = some (r, σ') → ∀ (H : Heap) (locs : List Loc), mx_J G P s.heap (mxz σ) (mxu σ) τ H locs → ∀ ls : Array Slot, lv_has ls 6 [(0, .ref v0), (1, .int v1), (2, .int v2), (3, .int v3), (4, .int v4), (5, .int v5)] → W p l e (mx_rm P 1 22 σ) s m ([.ref a0, .int p1, .int p2, .int p3, .int p4, .int p5] : List Value).toArray below meth c H locs (mxz τ - mxz σ) (mxu τ - mxu σ) (mx_Z below G P (some (.int r)) σ σ' [.ref a0, .int p1, .int p2, .int p3, .int p4, .int p5] s) (F0 m 19 ls [.int w0, .ref w1]) := by
    intro v0 v1 v2 v3 v4 v5 w0 w1 τ hf _ _ hJ ls hl
    unfold f_X12_feed_D19 at hf
    obtain ⟨σ4, e5, hf⟩ := mb0 hf
    refine my_pI hx hb hts hown hK hJ fd_RX12_243 cd_12 (Or.inl rfl) ht_12_0 e5 dX12_feed_19 (fun H locs hJ => ?_)
    refine lv_aload_n hx hb dX12_feed_22 rfl (lv_at hl 0 rfl) ?_
    obtain ⟨x6, e7, hf⟩ := mb0 hf
    refine my_gI hx hb hts hown hK hJ fd_RX12_243 hv_12_0 e7 dX12_feed_23 ?_
    refine lv_if_le (tgt := 31) hx hb dX12_feed_26 (by decide) (fun c8 => ?_) (fun c8 => ?_)
    · rw [if_pos c8] at hf
      refine lv_aload_n hx hb dX12_feed_31 rfl (lv_at hl 0 rfl) ?_
      refine lv_iload_n hx hb dX12_feed_32 rfl (lv_at hl 1 rfl) ?_
      obtain ⟨i9, e10, hf⟩ := mb0 hf
      obtain ⟨σ11, e12, hf⟩ := mb0 hf
      refine mx_callV (As := [.int v1]) (rest := []) hx hb hml hts hown hK hJ rfl rfl (ci := 12) rfl e10 (c_X12_tapeWord l G P v0 v1 σ4 σ11 e12) me_X12_tapeWord kw_2216 ks_79 kw_2214 (Nat.le_of_ble_eq_true rfl) (Nat.le_of_ble_eq_true rfl) rfl hl.1 rfl (Nat.le_of_ble_eq_true rfl) dX12_feed_33 (fun H locs hJ => ?_)
      refine lv_aload_n hx hb dX12_feed_36 rfl (lv_at hl 0 rfl) ?_
      refine lv_iload_n hx hb dX12_feed_37 rfl (lv_at hl 2 rfl) ?_
      obtain ⟨i13, e14, hf⟩ := mb0 hf
      obtain ⟨σ15, e16, hf⟩ := mb0 hf
      refine mx_callV (As := [.int v2]) (rest := []) hx hb hml hts hown hK hJ rfl rfl (ci := 12) rfl e14 (c_X12_tapeWord l G P v0 v2 σ11 σ15 e16) me_X12_tapeWord kw_2216 ks_79 kw_2214 (Nat.le_of_ble_eq_true rfl) (Nat.le_of_ble_eq_true rfl) rfl hl.1 rfl (Nat.le_of_ble_eq_true rfl) dX12_feed_38 (fun H locs hJ => ?_)
      refine lv_aload_n hx hb dX12_feed_41 rfl (lv_at hl 0 rfl) ?_
      refine lv_iload_n hx hb dX12_feed_42 rfl (lv_at hl 3 rfl) ?_
      obtain ⟨i17, e18, hf⟩ := mb0 hf
      obtain ⟨σ19, e20, hf⟩ := mb0 hf
      refine mx_callV (As := [.int v3]) (rest := []) hx hb hml hts hown hK hJ rfl rfl (ci := 12) rfl e18 (c_X12_tapeWord l G P v0 v3 σ15 σ19 e20) me_X12_tapeWord kw_2216 ks_79 kw_2214 (Nat.le_of_ble_eq_true rfl) (Nat.le_of_ble_eq_true rfl) rfl hl.1 rfl (Nat.le_of_ble_eq_true rfl) dX12_feed_43 (fun H locs hJ => ?_)
      refine lv_aload_n hx hb dX12_feed_46 rfl (lv_at hl 0 rfl) ?_
      refine lv_iload hx hb dX12_feed_47 (lv_at hl 4 rfl) ?_
      obtain ⟨i21, e22, hf⟩ := mb0 hf
      obtain ⟨σ23, e24, hf⟩ := mb0 hf
      refine mx_callV (As := [.int v4]) (rest := []) hx hb hml hts hown hK hJ rfl rfl (ci := 12) rfl e22 (c_X12_tapeWord l G P v0 v4 σ19 σ23 e24) me_X12_tapeWord kw_2216 ks_79 kw_2214 (Nat.le_of_ble_eq_true rfl) (Nat.le_of_ble_eq_true rfl) rfl hl.1 rfl (Nat.le_of_ble_eq_true rfl) dX12_feed_49 (fun H locs hJ => ?_)
      refine lv_aload_n hx hb dX12_feed_52 rfl (lv_at hl 0 rfl) ?_
      refine lv_iload hx hb dX12_feed_53 (lv_at hl 5 rfl) ?_
      obtain ⟨i25, e26, hf⟩ := mb0 hf
      obtain ⟨σ27, e28, hf⟩ := mb0 hf
      refine mx_callV (As := [.int v5]) (rest := []) hx hb hml hts hown hK hJ rfl rfl (ci := 12) rfl e26 (c_X12_tapeWord l G P v0 v5 σ23 σ27 e28) me_X12_tapeWord kw_2216 ks_79 kw_2214 (Nat.le_of_ble_eq_true rfl) (Nat.le_of_ble_eq_true rfl) rfl hl.1 rfl (Nat.le_of_ble_eq_true rfl) dX12_feed_55 (fun H locs hJ => ?_)
      refine lv_aload_n hx hb dX12_feed_58 rfl (lv_at hl 0 rfl) ?_
      obtain ⟨x29, e30, hf⟩ := mb0 hf
      refine my_gI hx hb hts hown hK hJ fd_RX12_255 hv_12_2 e30 dX12_feed_59 ?_
      exact my_iret hx hb hr hlocks hJ hf dX12_feed_62
    · rw [if_neg c8] at hf
      refine lv_iconst (v := 0) hx hb dX12_feed_29 (by decide) ?_
      exact my_iret hx hb hr hlocks hJ hf dX12_feed_30
  unfold f_X12_feed at hf
  refine lv_aload_n hx hb dX12_feed_0 rfl (lv_at hl 0 rfl) ?_
  refine lv_aload_n hx hb dX12_feed_1 rfl (lv_at hl 0 rfl) ?_
  obtain ⟨x1, e2, hf⟩ := mb0 hf
  refine my_gI hx hb hts hown hK hJ fd_RX12_255 hv_12_2 e2 dX12_feed_2 ?_
  refine lv_bipush (v := 20) hx hb dX12_feed_5 (by decide) ?_
  refine lv_iadd hx hb dX12_feed_7 ?_
  refine lv_sipush (v := 4000) hx hb dX12_feed_8 (by decide) ?_
  refine lv_icmp_le (tgt := 18) hx hb dX12_feed_11 (by decide) (fun c3 => ?_) (fun c3 => ?_)
  · rw [if_pos c3] at hf
    refine lv_iconst (v := 0) hx hb dX12_feed_18 (by decide) ?_
    exact D19 a0 p1 p2 p3 p4 p5 (0 : Int32) a0 σ hf _ _ hJ ls (lv_sub hl [0, 1, 2, 3, 4, 5] rfl)
  · rw [if_neg c3] at hf
    refine lv_iconst (v := 1) hx hb dX12_feed_14 (by decide) ?_
    refine lv_goto (tgt := 19) hx hb dX12_feed_15 (by decide) ?_
    exact D19 a0 p1 p2 p3 p4 p5 (1 : Int32) a0 σ hf _ _ hJ ls (lv_sub hl [0, 1, 2, 3, 4, 5] rfl)
set_option maxHeartbeats 4000000 in
set_option maxRecDepth 100000 in
theorem c_X12_end (l : Launch) (G : mx_G) (P : mx_P) (a0 : Nat) (p1 : Int32) (σ : mx_S) (r : Int32) (σ' : mx_S) (hf : f_X12_end P a0 p1 σ = some (r, σ')) : mxz σ ≤ mpc P → mxu σ ≤ mps P → mx_M l yX12_end cX12_end 2 (some .int) 1 25 G P [.ref a0, .int p1] σ (some (.int r)) σ' := by
  intro hcap hcau
  refine mx_ofW (by decide +kernel) hcap hcau (Nat.le_of_ble_eq_true rfl) ?_
  intro p e s m below meth c hx hb hr hml hts hown hlocks hname hK hJ ls hl
  have hz0 := hJ.2.1
  have hown : s.vm.findClass RX12 = some m.cls := hown
  have hl : lv_has ls 2 [(0, .ref a0), (1, .int p1)] := hl
  have D20 : ∀ (v0 : Nat) (v1 : Int32) (w0 : Int32) (w1 : Nat) (τ : mx_S), f_X12_end_D20 P v0 v1 w0 w1 τ = some (r, σ') → ∀ (H : Heap) (locs : List Loc), mx_J G P s.heap (mxz σ) (mxu σ) τ H locs → ∀ ls : Array Slot, lv_has ls 2 [(0, .ref v0), (1, .int v1)] → W p l e (mx_rm P 1 25 σ) s m ([.ref a0, .int p1] : List Value).toArray below meth c H locs (mxz τ - mxz σ) (mxu τ - mxu σ) (mx_Z below G P (some (.int r)) σ σ' [.ref a0, .int p1] s) (F0 m 20 ls [.int w0, .ref w1]) := by
    intro v0 v1 w0 w1 τ hf _ _ hJ ls hl
    unfold f_X12_end_D20 at hf
    obtain ⟨σ7, e8, hf⟩ := mb0 hf
    refine my_pI hx hb hts hown hK hJ fd_RX12_243 cd_12 (Or.inl rfl) ht_12_0 e8 dX12_end_20 (fun H locs hJ => ?_)
    refine lv_aload_n hx hb dX12_end_23 rfl (lv_at hl 0 rfl) ?_
    obtain ⟨x9, e10, hf⟩ := mb0 hf
    refine my_gI hx hb hts hown hK hJ fd_RX12_243 hv_12_0 e10 dX12_end_24 ?_
    refine lv_if_le (tgt := 32) hx hb dX12_end_27 (by decide) (fun c11 => ?_) (fun c11 => ?_)
    · rw [if_pos c11] at hf
      refine lv_aload_n hx hb dX12_end_32 rfl (lv_at hl 0 rfl) ?_
      refine lv_iload_n hx hb dX12_end_33 rfl (lv_at hl 1 rfl) ?_
      obtain ⟨σ12, e13, hf⟩ := mb0 hf
      refine my_pI hx hb hts hown hK hJ fd_RX12_255 cd_12 (Or.inl rfl) ht_12_2 e13 dX12_end_34 (fun H locs hJ => ?_)
      refine lv_iload_n hx hb dX12_end_37 rfl (lv_at hl 1 rfl) ?_
      exact my_iret hx hb hr hlocks hJ hf dX12_end_38
    · rw [if_neg c11] at hf
      refine lv_iconst (v := 0) hx hb dX12_end_30 (by decide) ?_
      exact my_iret hx hb hr hlocks hJ hf dX12_end_31
  unfold f_X12_end at hf
  refine lv_aload_n hx hb dX12_end_0 rfl (lv_at hl 0 rfl) ?_
  refine lv_iload_n hx hb dX12_end_1 rfl (lv_at hl 1 rfl) ?_
  refine lv_i2l hx hb dX12_end_2 rfl ?_
  refine lv_lconst (v := 0) hx hb dX12_end_3 (by decide) ?_
  refine lv_aload_n hx hb dX12_end_4 rfl (lv_at hl 0 rfl) ?_
  obtain ⟨x1, e2, hf⟩ := mb0 hf
  refine my_gI hx hb hts hown hK hJ fd_RX12_255 hv_12_2 e2 dX12_end_5 ?_
  refine lv_i2l hx hb dX12_end_8 rfl ?_
  obtain ⟨x4, σ3, e5, hf⟩ := mc0 hf
  refine mx_callS (As := [.long (p1.toInt64), .long (0 : Int64), .long (x1.toInt64)]) (rest := [.ref a0]) hx hb hml hts hown hK hJ rfl rfl (c_X12_in l G P (p1.toInt64) (0 : Int64) (x1.toInt64) σ x4 σ3 e5) me_X12_in kw_2223 kw_2222 (Nat.le_of_ble_eq_true rfl) (Nat.le_of_ble_eq_true rfl) rfl hl.1 rfl (Nat.le_of_ble_eq_true rfl) dX12_end_9 (fun H locs hJ => ?_)
  refine lv_if_eq (tgt := 19) hx hb dX12_end_12 (by decide) (fun c6 => ?_) (fun c6 => ?_)
  · rw [if_pos c6] at hf
    refine lv_iconst (v := 1) hx hb dX12_end_19 (by decide) ?_
    exact D20 a0 p1 (1 : Int32) a0 σ3 hf _ _ hJ ls (lv_sub hl [0, 1] rfl)
  · rw [if_neg c6] at hf
    refine lv_iconst (v := 0) hx hb dX12_end_15 (by decide) ?_
    refine lv_goto (tgt := 20) hx hb dX12_end_16 (by decide) ?_
    exact D20 a0 p1 (0 : Int32) a0 σ3 hf _ _ hJ ls (lv_sub hl [0, 1] rfl)
set_option maxHeartbeats 4000000 in
set_option maxRecDepth 100000 in
theorem c_X12_fault (l : Launch) (G : mx_G) (P : mx_P) (a0 : Nat) (p1 : Int32) (σ : mx_S) (r : Int32) (σ' : mx_S) (hf : f_X12_fault P a0 p1 σ = some (r, σ')) : mxz σ ≤ mpc P → mxu σ ≤ mps P → mx_M l yX12_fault cX12_fault 2 (some .int) 0 0 G P [.ref a0, .int p1] σ (some (.int r)) σ' := by
  intro hcap hcau
  refine mx_ofW (by decide +kernel) hcap hcau (Nat.le_of_ble_eq_true rfl) ?_
  intro p e s m below meth c hx hb hr hml hts hown hlocks hname hK hJ ls hl
  have hz0 := hJ.2.1
  have hown : s.vm.findClass RX12 = some m.cls := hown
  have hl : lv_has ls 2 [(0, .ref a0), (1, .int p1)] := hl
  have D29 : ∀ (w0 : Int32) (τ : mx_S), f_X12_fault_D29 P w0 τ = some (r, σ') → ∀ (H : Heap) (locs : List Loc), mx_J G P s.heap (mxz σ) (mxu σ) τ H locs → ∀ ls : Array Slot, lv_has ls 2 [] → W p l e (mx_rm P 0 0 σ) s m ([.ref a0, .int p1] : List Value).toArray below meth c H locs (mxz τ - mxz σ) (mxu τ - mxu σ) (mx_Z below G P (some (.int r)) σ σ' [.ref a0, .int p1] s) (F0 m 29 ls [.int w0]) := by
    intro w0 τ hf _ _ hJ ls hl
    unfold f_X12_fault_D29 at hf
    exact my_iret hx hb hr hlocks hJ hf dX12_fault_29
  unfold f_X12_fault at hf
  refine lv_aload_n hx hb dX12_fault_0 rfl (lv_at hl 0 rfl) ?_
  refine lv_iconst (v := 0) hx hb dX12_fault_1 (by decide) ?_
  obtain ⟨σ1, e2, hf⟩ := mb0 hf
  refine my_pI hx hb hts hown hK hJ fd_RX12_243 cd_12 (Or.inl rfl) ht_12_0 e2 dX12_fault_2 (fun H locs hJ => ?_)
  refine lv_iload_n hx hb dX12_fault_5 rfl (lv_at hl 1 rfl) ?_
  refine lv_if_ne (tgt := 16) hx hb dX12_fault_6 (by decide) (fun c3 => ?_) (fun c3 => ?_)
  · rw [if_neg c3] at hf
    refine lv_iload_n hx hb dX12_fault_16 rfl (lv_at hl 1 rfl) ?_
    refine lv_iconst (v := 1) hx hb dX12_fault_17 (by decide) ?_
    refine lv_icmp_ne (tgt := 28) hx hb dX12_fault_18 (by decide) (fun c4 => ?_) (fun c4 => ?_)
    · rw [if_neg c4] at hf
      refine lv_iconst (v := (-1)) hx hb dX12_fault_28 (by decide) ?_
      exact D29 (-1 : Int32) σ1 hf _ _ hJ ls (lv_sub hl [] rfl)
    · rw [if_pos c4] at hf
      refine lv_aload_n hx hb dX12_fault_21 rfl (lv_at hl 0 rfl) ?_
      obtain ⟨x5, e6, hf⟩ := mb0 hf
      refine my_gI hx hb hts hown hK hJ fd_RX12_269 hv_12_5 e6 dX12_fault_22 ?_
      refine lv_goto (tgt := 29) hx hb dX12_fault_25 (by decide) ?_
      exact D29 x5 σ1 hf _ _ hJ ls (lv_sub hl [] rfl)
  · rw [if_pos c3] at hf
    refine lv_aload_n hx hb dX12_fault_9 rfl (lv_at hl 0 rfl) ?_
    obtain ⟨x7, e8, hf⟩ := mb0 hf
    refine my_gI hx hb hts hown hK hJ fd_RX12_266 hv_12_4 e8 dX12_fault_10 ?_
    refine lv_goto (tgt := 29) hx hb dX12_fault_13 (by decide) ?_
    exact D29 x7 σ1 hf _ _ hJ ls (lv_sub hl [] rfl)
set_option maxHeartbeats 4000000 in
set_option maxRecDepth 100000 in
theorem c_X12_takeInput (l : Launch) (G : mx_G) (P : mx_P) (a0 : Nat) (σ : mx_S) (σ' : mx_S) (hf : f_X12_takeInput P a0 σ = some σ') : mxz σ ≤ mpc P → mxu σ ≤ mps P → mx_M l yX12_takeInput cX12_takeInput 1 none 0 0 G P [.ref a0] σ none σ' := by
  intro hcap hcau
  refine mx_ofW (by decide +kernel) hcap hcau (Nat.le_of_ble_eq_true rfl) ?_
  intro p e s m below meth c hx hb hr hml hts hown hlocks hname hK hJ ls hl
  have hz0 := hJ.2.1
  have hown : s.vm.findClass RX12 = some m.cls := hown
  have hl : lv_has ls 1 [(0, .ref a0)] := hl
  unfold f_X12_takeInput at hf
  refine lv_aload_n hx hb dX12_takeInput_0 rfl (lv_at hl 0 rfl) ?_
  refine lv_aload_n hx hb dX12_takeInput_1 rfl (lv_at hl 0 rfl) ?_
  obtain ⟨x1, e2, hf⟩ := mb0 hf
  refine my_gI hx hb hts hown hK hJ fd_RX12_255 hv_12_2 e2 dX12_takeInput_2 ?_
  obtain ⟨σ3, e4, hf⟩ := mb0 hf
  refine my_pI hx hb hts hown hK hJ fd_RX12_272 cd_12 (Or.inl rfl) ht_12_3 e4 dX12_takeInput_5 (fun H locs hJ => ?_)
  refine lv_aload_n hx hb dX12_takeInput_8 rfl (lv_at hl 0 rfl) ?_
  refine lv_iconst (v := 0) hx hb dX12_takeInput_9 (by decide) ?_
  obtain ⟨σ5, e6, hf⟩ := mb0 hf
  refine my_pI hx hb hts hown hK hJ fd_RX12_255 cd_12 (Or.inl rfl) ht_12_2 e6 dX12_takeInput_10 (fun H locs hJ => ?_)
  refine lv_aload_n hx hb dX12_takeInput_13 rfl (lv_at hl 0 rfl) ?_
  refine lv_iconst (v := 0) hx hb dX12_takeInput_14 (by decide) ?_
  obtain ⟨σ7, e8, hf⟩ := mb0 hf
  refine my_pI hx hb hts hown hK hJ fd_RX12_266 cd_12 (Or.inl rfl) ht_12_4 e8 dX12_takeInput_15 (fun H locs hJ => ?_)
  refine lv_aload_n hx hb dX12_takeInput_18 rfl (lv_at hl 0 rfl) ?_
  refine lv_iconst (v := 0) hx hb dX12_takeInput_19 (by decide) ?_
  obtain ⟨σ9, e10, hf⟩ := mb0 hf
  refine my_pI hx hb hts hown hK hJ fd_RX12_269 cd_12 (Or.inl rfl) ht_12_5 e10 dX12_takeInput_20 (fun H locs hJ => ?_)
  exact my_vret hx hb hr hlocks hJ hf dX12_takeInput_23
set_option maxHeartbeats 4000000 in
set_option maxRecDepth 100000 in
theorem c_X12_wrong (l : Launch) (G : mx_G) (P : mx_P) (a0 : Nat) (p1 : Int32) (p2 : Int32) (σ : mx_S) (σ' : mx_S) (hf : f_X12_wrong P a0 p1 p2 σ = some σ') : mxz σ ≤ mpc P → mxu σ ≤ mps P → mx_M l yX12_wrong cX12_wrong 3 none 0 0 G P [.ref a0, .int p1, .int p2] σ none σ' := by
  intro hcap hcau
  refine mx_ofW (by decide +kernel) hcap hcau (Nat.le_of_ble_eq_true rfl) ?_
  intro p e s m below meth c hx hb hr hml hts hown hlocks hname hK hJ ls hl
  have hz0 := hJ.2.1
  have hown : s.vm.findClass RX12 = some m.cls := hown
  have hl : lv_has ls 3 [(0, .ref a0), (1, .int p1), (2, .int p2)] := hl
  unfold f_X12_wrong at hf
  refine lv_aload_n hx hb dX12_wrong_0 rfl (lv_at hl 0 rfl) ?_
  obtain ⟨x1, e2, hf⟩ := mb0 hf
  refine my_gI hx hb hts hown hK hJ fd_RX12_266 hv_12_4 e2 dX12_wrong_1 ?_
  refine lv_if_le (tgt := 8) hx hb dX12_wrong_4 (by decide) (fun c3 => ?_) (fun c3 => ?_)
  · rw [if_pos c3] at hf
    refine lv_aload_n hx hb dX12_wrong_8 rfl (lv_at hl 0 rfl) ?_
    refine lv_iload_n hx hb dX12_wrong_9 rfl (lv_at hl 1 rfl) ?_
    obtain ⟨σ4, e5, hf⟩ := mb0 hf
    refine my_pI hx hb hts hown hK hJ fd_RX12_266 cd_12 (Or.inl rfl) ht_12_4 e5 dX12_wrong_10 (fun H locs hJ => ?_)
    refine lv_aload_n hx hb dX12_wrong_13 rfl (lv_at hl 0 rfl) ?_
    refine lv_iload_n hx hb dX12_wrong_14 rfl (lv_at hl 2 rfl) ?_
    obtain ⟨σ6, e7, hf⟩ := mb0 hf
    refine my_pI hx hb hts hown hK hJ fd_RX12_269 cd_12 (Or.inl rfl) ht_12_5 e7 dX12_wrong_15 (fun H locs hJ => ?_)
    exact my_vret hx hb hr hlocks hJ hf dX12_wrong_18
  · rw [if_neg c3] at hf
    exact my_vret hx hb hr hlocks hJ hf dX12_wrong_7
set_option maxHeartbeats 4000000 in
set_option maxRecDepth 100000 in
theorem c_X12_found (l : Launch) (G : mx_G) (P : mx_P) (a0 : Nat) (p1 : Int32) (p2 : Int32) (σ : mx_S) (σ' : mx_S) (hf : f_X12_found P a0 p1 p2 σ = some σ') : mxz σ ≤ mpc P → mxu σ ≤ mps P → mx_M l yX12_found cX12_found 3 none 0 0 G P [.ref a0, .int p1, .int p2] σ none σ' := by
  intro hcap hcau
  refine mx_ofW (by decide +kernel) hcap hcau (Nat.le_of_ble_eq_true rfl) ?_
  intro p e s m below meth c hx hb hr hml hts hown hlocks hname hK hJ ls hl
  have hz0 := hJ.2.1
  have hown : s.vm.findClass RX12 = some m.cls := hown
  have hl : lv_has ls 3 [(0, .ref a0), (1, .int p1), (2, .int p2)] := hl
  have D16 : ∀ (v0 : Nat) (v1 : Int32) (v2 : Int32) (τ : mx_S), f_X12_found_D16 P v0 v1 v2 τ = some σ' → ∀ (H : Heap) (locs : List Loc), mx_J G P s.heap (mxz σ) (mxu σ) τ H locs → ∀ ls : Array Slot, lv_has ls 3 [(0, .ref v0), (1, .int v1), (2, .int v2)] → W p l e (mx_rm P 0 0 σ) s m ([.ref a0, .int p1, .int p2] : List Value).toArray below meth c H locs (mxz τ - mxz σ) (mxu τ - mxu σ) (mx_Z below G P none σ σ' [.ref a0, .int p1, .int p2] s) (F0 m 16 ls []) := by
    intro v0 v1 v2 τ hf _ _ hJ ls hl
    unfold f_X12_found_D16 at hf
    refine lv_aload_n hx hb dX12_found_16 rfl (lv_at hl 0 rfl) ?_
    refine lv_iload_n hx hb dX12_found_17 rfl (lv_at hl 1 rfl) ?_
    obtain ⟨σ4, e5, hf⟩ := mb0 hf
    refine my_pI hx hb hts hown hK hJ fd_RX12_275 cd_12 (Or.inl rfl) ht_12_6 e5 dX12_found_18 (fun H locs hJ => ?_)
    refine lv_aload_n hx hb dX12_found_21 rfl (lv_at hl 0 rfl) ?_
    refine lv_iload_n hx hb dX12_found_22 rfl (lv_at hl 2 rfl) ?_
    obtain ⟨σ6, e7, hf⟩ := mb0 hf
    refine my_pI hx hb hts hown hK hJ fd_RX12_278 cd_12 (Or.inl rfl) ht_12_7 e7 dX12_found_23 (fun H locs hJ => ?_)
    exact my_vret hx hb hr hlocks hJ hf dX12_found_26
  unfold f_X12_found at hf
  refine lv_aload_n hx hb dX12_found_0 rfl (lv_at hl 0 rfl) ?_
  obtain ⟨x1, e2, hf⟩ := mb0 hf
  refine my_gI hx hb hts hown hK hJ fd_RX12_275 hv_12_6 e2 dX12_found_1 ?_
  refine lv_if_le (tgt := 16) hx hb dX12_found_4 (by decide) (fun c3 => ?_) (fun c3 => ?_)
  · rw [if_pos c3] at hf
    exact D16 a0 p1 p2 σ hf _ _ hJ ls (lv_sub hl [0, 1, 2] rfl)
  · rw [if_neg c3] at hf
    refine lv_iload_n hx hb dX12_found_7 rfl (lv_at hl 2 rfl) ?_
    refine lv_aload_n hx hb dX12_found_8 rfl (lv_at hl 0 rfl) ?_
    obtain ⟨x8, e9, hf⟩ := mb0 hf
    refine my_gI hx hb hts hown hK hJ fd_RX12_278 hv_12_7 e9 dX12_found_9 ?_
    refine lv_icmp_lt (tgt := 16) hx hb dX12_found_12 (by decide) (fun c10 => ?_) (fun c10 => ?_)
    · rw [if_pos c10] at hf
      exact D16 a0 p1 p2 σ hf _ _ hJ ls (lv_sub hl [0, 1, 2] rfl)
    · rw [if_neg c10] at hf
      exact my_vret hx hb hr hlocks hJ hf dX12_found_15
set_option maxHeartbeats 4000000 in
set_option maxRecDepth 100000 in
theorem c_X12_product (l : Launch) (G : mx_G) (P : mx_P) (a0 : Nat) (p1 : Int64) (p3 : Int64) (σ : mx_S) (r : Int64) (σ' : mx_S) (hf : f_X12_product P a0 p1 p3 σ = some (r, σ')) : mxz σ ≤ mpc P → mxu σ ≤ mps P → mx_M l yX12_product cX12_product 5 (some .long) 1 21 G P [.ref a0, .long p1, .long p3] σ (some (.long r)) σ' := by
  intro hcap hcau
  refine mx_ofW (by decide +kernel) hcap hcau (Nat.le_of_ble_eq_true rfl) ?_
  intro p e s m below meth c hx hb hr hml hts hown hlocks hname hK hJ ls hl
  have hz0 := hJ.2.1
  have hown : s.vm.findClass RX12 = some m.cls := hown
  have hl : lv_has ls 5 [(0, .ref a0), (1, .long p1), (3, .long p3)] := hl
  have D12 : ∀  (τ : mx_S), f_X12_product_D12 P  τ = some (r, σ') → ∀ (H : Heap) (locs : List Loc), mx_J G P s.heap (mxz σ) (mxu σ) τ H locs → ∀ ls : Array Slot, lv_has ls 5 [] → W p l e (mx_rm P 1 21 σ) s m ([.ref a0, .long p1, .long p3] : List Value).toArray below meth c H locs (mxz τ - mxz σ) (mxu τ - mxu σ) (mx_Z below G P (some (.long r)) σ σ' [.ref a0, .long p1, .long p3] s) (F0 m 12 ls []) := by
    intro  τ hf _ _ hJ ls hl
    unfold f_X12_product_D12 at hf
    refine lv_lconst (v := 0) hx hb dX12_product_12 (by decide) ?_
    exact my_lret hx hb hr hlocks hJ hf dX12_product_13
  unfold f_X12_product at hf
  refine lv_lload_n hx hb dX12_product_0 rfl (lv_at hl 1 rfl) ?_
  refine lv_lconst (v := 0) hx hb dX12_product_1 (by decide) ?_
  refine W.lcmp hx hb dX12_product_2 ?_
  refine lv_if_eq (tgt := 12) hx hb dX12_product_3 (by decide) (fun c1 => ?_) (fun c1 => ?_)
  · rw [if_pos c1] at hf
    exact D12  σ hf _ _ hJ ls (lv_sub hl [] rfl)
  · rw [if_neg c1] at hf
    refine lv_lload_n hx hb dX12_product_6 rfl (lv_at hl 2 rfl) ?_
    refine lv_lconst (v := 0) hx hb dX12_product_7 (by decide) ?_
    refine W.lcmp hx hb dX12_product_8 ?_
    refine lv_if_ne (tgt := 14) hx hb dX12_product_9 (by decide) (fun c2 => ?_) (fun c2 => ?_)
    · rw [if_neg c2] at hf
      refine lv_lload_n hx hb dX12_product_14 rfl (lv_at hl 2 rfl) ?_
      obtain ⟨x4, σ3, e5, hf⟩ := mc0 hf
      refine mx_callS (As := [.long p3]) (rest := []) hx hb hml hts hown hK hJ rfl rfl (c_X12_size l G P p3 σ x4 σ3 e5) me_X12_size kw_2263 kw_2262 (Nat.le_of_ble_eq_true rfl) (Nat.le_of_ble_eq_true rfl) rfl hl.1 rfl (Nat.le_of_ble_eq_true rfl) dX12_product_15 (fun H locs hJ => ?_)
      refine lv_ldc2 hx hb hown (hts _ kw_2635) dX12_product_18 ?_
      refine lv_lload_n hx hb dX12_product_21 rfl (lv_at hl 1 rfl) ?_
      obtain ⟨x7, σ6, e8, hf⟩ := mc0 hf
      refine mx_callS (As := [.long p1]) (rest := [.long (1000000000000000 : Int64), .long x4]) hx hb hml hts hown hK hJ rfl rfl (c_X12_size l G P p1 σ3 x7 σ6 e8) me_X12_size kw_2263 kw_2262 (Nat.le_of_ble_eq_true rfl) (Nat.le_of_ble_eq_true rfl) rfl hl.1 rfl (Nat.le_of_ble_eq_true rfl) dX12_product_22 (fun H locs hJ => ?_)
      obtain ⟨x9, e10, hf⟩ := mb0 hf
      refine lv_ldiv hx hb dX12_product_25 (md_Ls e10).1 ?_
      refine mx_eL (md_Ls e10).2 ?_
      refine W.lcmp hx hb dX12_product_26 ?_
      refine lv_if_le (tgt := 37) hx hb dX12_product_27 (by decide) (fun c11 => ?_) (fun c11 => ?_)
      · rw [if_pos c11] at hf
        refine lv_lload_n hx hb dX12_product_37 rfl (lv_at hl 1 rfl) ?_
        refine lv_lload_n hx hb dX12_product_38 rfl (lv_at hl 2 rfl) ?_
        refine lv_lmul hx hb dX12_product_39 ?_
        exact my_lret hx hb hr hlocks hJ hf dX12_product_40
      · rw [if_neg c11] at hf
        refine lv_aload_n hx hb dX12_product_30 rfl (lv_at hl 0 rfl) ?_
        refine lv_iconst (v := 1) hx hb dX12_product_31 (by decide) ?_
        obtain ⟨σ12, e13, hf⟩ := mb0 hf
        refine my_pZ hx hb hts hown hK hJ fd_RX12_283 cd_12 (Or.inl rfl) ht_12_10 e13 dX12_product_32 (fun H locs hJ => ?_)
        refine lv_lconst (v := 0) hx hb dX12_product_35 (by decide) ?_
        exact my_lret hx hb hr hlocks hJ hf dX12_product_36
    · rw [if_pos c2] at hf
      exact D12  σ hf _ _ hJ ls (lv_sub hl [] rfl)
set_option maxHeartbeats 4000000 in
set_option maxRecDepth 100000 in
theorem c_X12_lowest (l : Launch) (G : mx_G) (P : mx_P) (a0 : Nat) (p1 : Int64) (p3 : Int64) (σ : mx_S) (σ' : mx_S) (hf : f_X12_lowest P a0 p1 p3 σ = some σ') : mxz σ ≤ mpc P → mxu σ ≤ mps P → mx_M l yX12_lowest cX12_lowest 7 none 2 50 G P [.ref a0, .long p1, .long p3] σ none σ' := by
  intro hcap hcau
  refine mx_ofW (by decide +kernel) hcap hcau (Nat.le_of_ble_eq_true rfl) ?_
  intro p e s m below meth c hx hb hr hml hts hown hlocks hname hK hJ ls hl
  have hz0 := hJ.2.1
  have hown : s.vm.findClass RX12 = some m.cls := hown
  have hl : lv_has ls 7 [(0, .ref a0), (1, .long p1), (3, .long p3)] := hl
  have D29 : ∀ (v0 : Nat) (τ : mx_S), f_X12_lowest_D29 P v0 τ = some σ' → ∀ (H : Heap) (locs : List Loc), mx_J G P s.heap (mxz σ) (mxu σ) τ H locs → ∀ ls : Array Slot, lv_has ls 7 [(0, .ref v0)] → W p l e (mx_rm P 2 50 σ) s m ([.ref a0, .long p1, .long p3] : List Value).toArray below meth c H locs (mxz τ - mxz σ) (mxu τ - mxu σ) (mx_Z below G P none σ σ' [.ref a0, .long p1, .long p3] s) (F0 m 29 ls []) := by
    intro v0 τ hf _ _ hJ ls hl
    unfold f_X12_lowest_D29 at hf
    refine lv_aload_n hx hb dX12_lowest_29 rfl (lv_at hl 0 rfl) ?_
    refine lv_lconst (v := 0) hx hb dX12_lowest_30 (by decide) ?_
    obtain ⟨σ8, e9, hf⟩ := mb0 hf
    refine my_pL hx hb hts hown hK hJ fd_RX12_287 cd_12 (Or.inl rfl) ht_12_8 e9 dX12_lowest_31 (fun H locs hJ => ?_)
    refine lv_aload_n hx hb dX12_lowest_34 rfl (lv_at hl 0 rfl) ?_
    refine lv_lconst (v := 1) hx hb dX12_lowest_35 (by decide) ?_
    obtain ⟨σ10, e11, hf⟩ := mb0 hf
    refine my_pL hx hb hts hown hK hJ fd_RX12_291 cd_12 (Or.inl rfl) ht_12_9 e11 dX12_lowest_36 (fun H locs hJ => ?_)
    exact my_vret hx hb hr hlocks hJ hf dX12_lowest_39
  have D16 : ∀ (v0 : Nat) (v1 : Int64) (v3 : Int64) (τ : mx_S), f_X12_lowest_D16 P v0 v1 v3 τ = some σ' → ∀ (H : Heap) (locs : List Loc), mx_J G P s.heap (mxz σ) (mxu σ) τ H locs → ∀ ls : Array Slot, lv_has ls 7 [(0, .ref v0), (1, .long v1), (3, .long v3)] → W p l e (mx_rm P 2 50 σ) s m ([.ref a0, .long p1, .long p3] : List Value).toArray below meth c H locs (mxz τ - mxz σ) (mxu τ - mxu σ) (mx_Z below G P none σ σ' [.ref a0, .long p1, .long p3] s) (F0 m 16 ls []) := by
    intro v0 v1 v3 τ hf _ _ hJ ls hl
    unfold f_X12_lowest_D16 at hf
    refine lv_aload_n hx hb dX12_lowest_16 rfl (lv_at hl 0 rfl) ?_
    obtain ⟨x5, e6, hf⟩ := mb0 hf
    refine my_gI hx hb hts hown hK hJ fd_RX12_283 hv_12_10 e6 dX12_lowest_17 ?_
    refine lv_if_ne (tgt := 29) hx hb dX12_lowest_20 (by decide) (fun c7 => ?_) (fun c7 => ?_)
    · rw [if_neg c7] at hf
      exact D29 v0 τ hf _ _ hJ ls (lv_sub hl [0] rfl)
    · rw [if_pos c7] at hf
      refine lv_lload_n hx hb dX12_lowest_23 rfl (lv_at hl 1 rfl) ?_
      refine lv_lconst (v := 0) hx hb dX12_lowest_24 (by decide) ?_
      refine W.lcmp hx hb dX12_lowest_25 ?_
      refine lv_if_ne (tgt := 40) hx hb dX12_lowest_26 (by decide) (fun c12 => ?_) (fun c12 => ?_)
      · rw [if_neg c12] at hf
        refine lv_lload_n hx hb dX12_lowest_40 rfl (lv_at hl 1 rfl) ?_
        refine lv_lload_n hx hb dX12_lowest_41 rfl (lv_at hl 2 rfl) ?_
        obtain ⟨x14, σ13, e15, hf⟩ := mc0 hf
        refine mx_callS (As := [.long v1, .long v3]) (rest := []) hx hb hml hts hown hK hJ rfl rfl (c_X12_gcd l G P v1 v3 τ x14 σ13 e15) me_X12_gcd kw_2260 kw_2259 (Nat.le_of_ble_eq_true rfl) (Nat.le_of_ble_eq_true rfl) rfl hl.1 rfl (Nat.le_of_ble_eq_true rfl) dX12_lowest_42 (fun H locs hJ => ?_)
        refine lv_lstore (lv' := [(5, .long x14), (0, .ref v0), (1, .long v1), (3, .long v3)]) hx hb dX12_lowest_45 hl (by decide) rfl (fun ls hl => ?_)
        refine lv_aload_n hx hb dX12_lowest_47 rfl (lv_at hl 1 rfl) ?_
        refine lv_lload_n hx hb dX12_lowest_48 rfl (lv_at hl 2 rfl) ?_
        refine lv_lload hx hb dX12_lowest_49 (lv_at hl 0 rfl) ?_
        obtain ⟨x16, e17, hf⟩ := mb0 hf
        refine lv_ldiv hx hb dX12_lowest_51 (md_Ls e17).1 ?_
        refine mx_eL (md_Ls e17).2 ?_
        obtain ⟨σ18, e19, hf⟩ := mb0 hf
        refine my_pL hx hb hts hown hK hJ fd_RX12_287 cd_12 (Or.inl rfl) ht_12_8 e19 dX12_lowest_52 (fun H locs hJ => ?_)
        refine lv_aload_n hx hb dX12_lowest_55 rfl (lv_at hl 1 rfl) ?_
        refine lv_lload_n hx hb dX12_lowest_56 rfl (lv_at hl 3 rfl) ?_
        refine lv_lload hx hb dX12_lowest_57 (lv_at hl 0 rfl) ?_
        obtain ⟨x20, e21, hf⟩ := mb0 hf
        refine lv_ldiv hx hb dX12_lowest_59 (md_Ls e21).1 ?_
        refine mx_eL (md_Ls e21).2 ?_
        obtain ⟨σ22, e23, hf⟩ := mb0 hf
        refine my_pL hx hb hts hown hK hJ fd_RX12_291 cd_12 (Or.inl rfl) ht_12_9 e23 dX12_lowest_60 (fun H locs hJ => ?_)
        exact my_vret hx hb hr hlocks hJ hf dX12_lowest_63
      · rw [if_pos c12] at hf
        exact D29 v0 τ hf _ _ hJ ls (lv_sub hl [0] rfl)
  unfold f_X12_lowest at hf
  refine lv_lload_n hx hb dX12_lowest_0 rfl (lv_at hl 1 rfl) ?_
  obtain ⟨x2, σ1, e3, hf⟩ := mc0 hf
  refine mx_callS (As := [.long p1]) (rest := []) hx hb hml hts hown hK hJ rfl rfl (c_X12_size l G P p1 σ x2 σ1 e3) me_X12_size kw_2263 kw_2262 (Nat.le_of_ble_eq_true rfl) (Nat.le_of_ble_eq_true rfl) rfl hl.1 rfl (Nat.le_of_ble_eq_true rfl) dX12_lowest_1 (fun H locs hJ => ?_)
  refine lv_ldc2 hx hb hown (hts _ kw_2635) dX12_lowest_4 ?_
  refine W.lcmp hx hb dX12_lowest_7 ?_
  refine lv_if_le (tgt := 16) hx hb dX12_lowest_8 (by decide) (fun c4 => ?_) (fun c4 => ?_)
  · rw [if_pos c4] at hf
    exact D16 a0 p1 p3 σ1 hf _ _ hJ ls (lv_sub hl [0, 1, 2] rfl)
  · rw [if_neg c4] at hf
    refine lv_aload_n hx hb dX12_lowest_11 rfl (lv_at hl 0 rfl) ?_
    refine lv_iconst (v := 1) hx hb dX12_lowest_12 (by decide) ?_
    obtain ⟨σ24, e25, hf⟩ := mb0 hf
    refine my_pZ hx hb hts hown hK hJ fd_RX12_283 cd_12 (Or.inl rfl) ht_12_10 e25 dX12_lowest_13 (fun H locs hJ => ?_)
    exact D16 a0 p1 p3 σ24 hf _ _ hJ ls (lv_sub hl [0, 1, 2] rfl)
set_option maxHeartbeats 4000000 in
set_option maxRecDepth 100000 in
theorem c_X12_sum (l : Launch) (G : mx_G) (P : mx_P) (a0 : Nat) (p1 : Int64) (p3 : Int64) (p5 : Int64) (p7 : Int64) (σ : mx_S) (σ' : mx_S) (hf : f_X12_sum P a0 p1 p3 p5 p7 σ = some σ') : mxz σ ≤ mpc P → mxu σ ≤ mps P → mx_M l yX12_sum cX12_sum 17 none 3 76 G P [.ref a0, .long p1, .long p3, .long p5, .long p7] σ none σ' := by
  intro hcap hcau
  refine mx_ofW (by decide +kernel) hcap hcau (Nat.le_of_ble_eq_true rfl) ?_
  intro p e s m below meth c hx hb hr hml hts hown hlocks hname hK hJ ls hl
  have hz0 := hJ.2.1
  have hown : s.vm.findClass RX12 = some m.cls := hown
  have hl : lv_has ls 17 [(0, .ref a0), (1, .long p1), (3, .long p3), (5, .long p5), (7, .long p7)] := hl
  unfold f_X12_sum at hf
  refine lv_lload_n hx hb dX12_sum_0 rfl (lv_at hl 2 rfl) ?_
  refine lv_lload hx hb dX12_sum_1 (lv_at hl 4 rfl) ?_
  obtain ⟨x2, σ1, e3, hf⟩ := mc0 hf
  refine mx_callS (As := [.long p3, .long p7]) (rest := []) hx hb hml hts hown hK hJ rfl rfl (c_X12_gcd l G P p3 p7 σ x2 σ1 e3) me_X12_gcd kw_2260 kw_2259 (Nat.le_of_ble_eq_true rfl) (Nat.le_of_ble_eq_true rfl) rfl hl.1 rfl (Nat.le_of_ble_eq_true rfl) dX12_sum_3 (fun H locs hJ => ?_)
  refine lv_lstore (lv' := [(9, .long x2), (0, .ref a0), (1, .long p1), (3, .long p3), (5, .long p5), (7, .long p7)]) hx hb dX12_sum_6 hl (by decide) rfl (fun ls hl => ?_)
  refine lv_aload_n hx hb dX12_sum_8 rfl (lv_at hl 1 rfl) ?_
  refine lv_lload_n hx hb dX12_sum_9 rfl (lv_at hl 2 rfl) ?_
  refine lv_lload hx hb dX12_sum_10 (lv_at hl 5 rfl) ?_
  refine lv_lload hx hb dX12_sum_12 (lv_at hl 0 rfl) ?_
  obtain ⟨x4, e5, hf⟩ := mb0 hf
  refine lv_ldiv hx hb dX12_sum_14 (md_Ls e5).1 ?_
  refine mx_eL (md_Ls e5).2 ?_
  obtain ⟨i6, e7, hf⟩ := mb0 hf
  obtain ⟨x9, σ8, e10, hf⟩ := mc0 hf
  refine mx_callV (As := [.long p1, .long x4]) (rest := []) hx hb hml hts hown hK hJ rfl rfl (ci := 12) rfl e7 (c_X12_product l G P a0 p1 x4 σ1 x9 σ8 e10) me_X12_product kw_2654 ks_152 kw_2652 (Nat.le_of_ble_eq_true rfl) (Nat.le_of_ble_eq_true rfl) rfl hl.1 rfl (Nat.le_of_ble_eq_true rfl) dX12_sum_15 (fun H locs hJ => ?_)
  refine lv_lstore (lv' := [(11, .long x9), (9, .long x2), (0, .ref a0), (1, .long p1), (3, .long p3), (5, .long p5), (7, .long p7)]) hx hb dX12_sum_18 hl (by decide) rfl (fun ls hl => ?_)
  refine lv_aload_n hx hb dX12_sum_20 rfl (lv_at hl 2 rfl) ?_
  refine lv_lload hx hb dX12_sum_21 (lv_at hl 5 rfl) ?_
  refine lv_lload_n hx hb dX12_sum_23 rfl (lv_at hl 4 rfl) ?_
  refine lv_lload hx hb dX12_sum_24 (lv_at hl 1 rfl) ?_
  obtain ⟨x11, e12, hf⟩ := mb0 hf
  refine lv_ldiv hx hb dX12_sum_26 (md_Ls e12).1 ?_
  refine mx_eL (md_Ls e12).2 ?_
  obtain ⟨i13, e14, hf⟩ := mb0 hf
  obtain ⟨x16, σ15, e17, hf⟩ := mc0 hf
  refine mx_callV (As := [.long p5, .long x11]) (rest := []) hx hb hml hts hown hK hJ rfl rfl (ci := 12) rfl e14 (c_X12_product l G P a0 p5 x11 σ8 x16 σ15 e17) me_X12_product kw_2654 ks_152 kw_2652 (Nat.le_of_ble_eq_true rfl) (Nat.le_of_ble_eq_true rfl) rfl hl.1 rfl (Nat.le_of_ble_eq_true rfl) dX12_sum_27 (fun H locs hJ => ?_)
  refine lv_lstore (lv' := [(13, .long x16), (11, .long x9), (9, .long x2), (0, .ref a0), (1, .long p1), (3, .long p3), (5, .long p5), (7, .long p7)]) hx hb dX12_sum_30 hl (by decide) rfl (fun ls hl => ?_)
  refine lv_aload_n hx hb dX12_sum_32 rfl (lv_at hl 3 rfl) ?_
  refine lv_lload_n hx hb dX12_sum_33 rfl (lv_at hl 5 rfl) ?_
  refine lv_lload hx hb dX12_sum_34 (lv_at hl 7 rfl) ?_
  refine lv_lload hx hb dX12_sum_36 (lv_at hl 2 rfl) ?_
  obtain ⟨x18, e19, hf⟩ := mb0 hf
  refine lv_ldiv hx hb dX12_sum_38 (md_Ls e19).1 ?_
  refine mx_eL (md_Ls e19).2 ?_
  obtain ⟨i20, e21, hf⟩ := mb0 hf
  obtain ⟨x23, σ22, e24, hf⟩ := mc0 hf
  refine mx_callV (As := [.long p3, .long x18]) (rest := []) hx hb hml hts hown hK hJ rfl rfl (ci := 12) rfl e21 (c_X12_product l G P a0 p3 x18 σ15 x23 σ22 e24) me_X12_product kw_2654 ks_152 kw_2652 (Nat.le_of_ble_eq_true rfl) (Nat.le_of_ble_eq_true rfl) rfl hl.1 rfl (Nat.le_of_ble_eq_true rfl) dX12_sum_39 (fun H locs hJ => ?_)
  refine lv_lstore (lv' := [(15, .long x23), (13, .long x16), (11, .long x9), (9, .long x2), (0, .ref a0), (1, .long p1), (3, .long p3), (5, .long p5), (7, .long p7)]) hx hb dX12_sum_42 hl (by decide) rfl (fun ls hl => ?_)
  refine lv_aload_n hx hb dX12_sum_44 rfl (lv_at hl 4 rfl) ?_
  refine lv_lload hx hb dX12_sum_45 (lv_at hl 2 rfl) ?_
  refine lv_lload hx hb dX12_sum_47 (lv_at hl 1 rfl) ?_
  refine lv_ladd hx hb dX12_sum_49 ?_
  refine lv_lload hx hb dX12_sum_50 (lv_at hl 0 rfl) ?_
  obtain ⟨i25, e26, hf⟩ := mb0 hf
  obtain ⟨σ27, e28, hf⟩ := mb0 hf
  refine mx_callV (As := [.long (x9 + x16), .long x23]) (rest := []) hx hb hml hts hown hK hJ rfl rfl (ci := 12) rfl e26 (c_X12_lowest l G P a0 (x9 + x16) x23 σ22 σ27 e28) me_X12_lowest kw_2633 ks_147 kw_2631 (Nat.le_of_ble_eq_true rfl) (Nat.le_of_ble_eq_true rfl) rfl hl.1 rfl (Nat.le_of_ble_eq_true rfl) dX12_sum_52 (fun H locs hJ => ?_)
  exact my_vret hx hb hr hlocks hJ hf dX12_sum_55
set_option maxHeartbeats 4000000 in
set_option maxRecDepth 100000 in
theorem c_X12_times (l : Launch) (G : mx_G) (P : mx_P) (a0 : Nat) (p1 : Int64) (p3 : Int64) (p5 : Int64) (p7 : Int64) (σ : mx_S) (σ' : mx_S) (hf : f_X12_times P a0 p1 p3 p5 p7 σ = some σ') : mxz σ ≤ mpc P → mxu σ ≤ mps P → mx_M l yX12_times cX12_times 17 none 3 76 G P [.ref a0, .long p1, .long p3, .long p5, .long p7] σ none σ' := by
  intro hcap hcau
  refine mx_ofW (by decide +kernel) hcap hcau (Nat.le_of_ble_eq_true rfl) ?_
  intro p e s m below meth c hx hb hr hml hts hown hlocks hname hK hJ ls hl
  have hz0 := hJ.2.1
  have hown : s.vm.findClass RX12 = some m.cls := hown
  have hl : lv_has ls 17 [(0, .ref a0), (1, .long p1), (3, .long p3), (5, .long p5), (7, .long p7)] := hl
  unfold f_X12_times at hf
  refine lv_lload_n hx hb dX12_times_0 rfl (lv_at hl 1 rfl) ?_
  refine lv_lload hx hb dX12_times_1 (lv_at hl 4 rfl) ?_
  obtain ⟨x2, σ1, e3, hf⟩ := mc0 hf
  refine mx_callS (As := [.long p1, .long p7]) (rest := []) hx hb hml hts hown hK hJ rfl rfl (c_X12_gcd l G P p1 p7 σ x2 σ1 e3) me_X12_gcd kw_2260 kw_2259 (Nat.le_of_ble_eq_true rfl) (Nat.le_of_ble_eq_true rfl) rfl hl.1 rfl (Nat.le_of_ble_eq_true rfl) dX12_times_3 (fun H locs hJ => ?_)
  refine lv_lstore (lv' := [(9, .long x2), (0, .ref a0), (1, .long p1), (3, .long p3), (5, .long p5), (7, .long p7)]) hx hb dX12_times_6 hl (by decide) rfl (fun ls hl => ?_)
  refine lv_lload hx hb dX12_times_8 (lv_at hl 4 rfl) ?_
  refine lv_lload_n hx hb dX12_times_10 rfl (lv_at hl 3 rfl) ?_
  obtain ⟨x5, σ4, e6, hf⟩ := mc0 hf
  refine mx_callS (As := [.long p5, .long p3]) (rest := []) hx hb hml hts hown hK hJ rfl rfl (c_X12_gcd l G P p5 p3 σ1 x5 σ4 e6) me_X12_gcd kw_2260 kw_2259 (Nat.le_of_ble_eq_true rfl) (Nat.le_of_ble_eq_true rfl) rfl hl.1 rfl (Nat.le_of_ble_eq_true rfl) dX12_times_11 (fun H locs hJ => ?_)
  refine lv_lstore (lv' := [(11, .long x5), (9, .long x2), (0, .ref a0), (1, .long p1), (3, .long p3), (5, .long p5), (7, .long p7)]) hx hb dX12_times_14 hl (by decide) rfl (fun ls hl => ?_)
  refine lv_aload_n hx hb dX12_times_16 rfl (lv_at hl 2 rfl) ?_
  refine lv_lload_n hx hb dX12_times_17 rfl (lv_at hl 3 rfl) ?_
  refine lv_lload hx hb dX12_times_18 (lv_at hl 1 rfl) ?_
  obtain ⟨x7, e8, hf⟩ := mb0 hf
  refine lv_ldiv hx hb dX12_times_20 (md_Ls e8).1 ?_
  refine mx_eL (md_Ls e8).2 ?_
  refine lv_lload hx hb dX12_times_21 (lv_at hl 5 rfl) ?_
  refine lv_lload hx hb dX12_times_23 (lv_at hl 0 rfl) ?_
  obtain ⟨x9, e10, hf⟩ := mb0 hf
  refine lv_ldiv hx hb dX12_times_25 (md_Ls e10).1 ?_
  refine mx_eL (md_Ls e10).2 ?_
  obtain ⟨i11, e12, hf⟩ := mb0 hf
  obtain ⟨x14, σ13, e15, hf⟩ := mc0 hf
  refine mx_callV (As := [.long x7, .long x9]) (rest := []) hx hb hml hts hown hK hJ rfl rfl (ci := 12) rfl e12 (c_X12_product l G P a0 x7 x9 σ4 x14 σ13 e15) me_X12_product kw_2654 ks_152 kw_2652 (Nat.le_of_ble_eq_true rfl) (Nat.le_of_ble_eq_true rfl) rfl hl.1 rfl (Nat.le_of_ble_eq_true rfl) dX12_times_26 (fun H locs hJ => ?_)
  refine lv_lstore (lv' := [(13, .long x14), (11, .long x5), (9, .long x2), (0, .ref a0), (1, .long p1), (3, .long p3), (5, .long p5), (7, .long p7)]) hx hb dX12_times_29 hl (by decide) rfl (fun ls hl => ?_)
  refine lv_aload_n hx hb dX12_times_31 rfl (lv_at hl 3 rfl) ?_
  refine lv_lload_n hx hb dX12_times_32 rfl (lv_at hl 5 rfl) ?_
  refine lv_lload hx hb dX12_times_33 (lv_at hl 1 rfl) ?_
  obtain ⟨x16, e17, hf⟩ := mb0 hf
  refine lv_ldiv hx hb dX12_times_35 (md_Ls e17).1 ?_
  refine mx_eL (md_Ls e17).2 ?_
  refine lv_lload hx hb dX12_times_36 (lv_at hl 7 rfl) ?_
  refine lv_lload hx hb dX12_times_38 (lv_at hl 2 rfl) ?_
  obtain ⟨x18, e19, hf⟩ := mb0 hf
  refine lv_ldiv hx hb dX12_times_40 (md_Ls e19).1 ?_
  refine mx_eL (md_Ls e19).2 ?_
  obtain ⟨i20, e21, hf⟩ := mb0 hf
  obtain ⟨x23, σ22, e24, hf⟩ := mc0 hf
  refine mx_callV (As := [.long x16, .long x18]) (rest := []) hx hb hml hts hown hK hJ rfl rfl (ci := 12) rfl e21 (c_X12_product l G P a0 x16 x18 σ13 x23 σ22 e24) me_X12_product kw_2654 ks_152 kw_2652 (Nat.le_of_ble_eq_true rfl) (Nat.le_of_ble_eq_true rfl) rfl hl.1 rfl (Nat.le_of_ble_eq_true rfl) dX12_times_41 (fun H locs hJ => ?_)
  refine lv_lstore (lv' := [(15, .long x23), (13, .long x14), (11, .long x5), (9, .long x2), (0, .ref a0), (1, .long p1), (3, .long p3), (5, .long p5), (7, .long p7)]) hx hb dX12_times_44 hl (by decide) rfl (fun ls hl => ?_)
  refine lv_aload_n hx hb dX12_times_46 rfl (lv_at hl 4 rfl) ?_
  refine lv_lload hx hb dX12_times_47 (lv_at hl 1 rfl) ?_
  refine lv_lload hx hb dX12_times_49 (lv_at hl 0 rfl) ?_
  obtain ⟨i25, e26, hf⟩ := mb0 hf
  obtain ⟨σ27, e28, hf⟩ := mb0 hf
  refine mx_callV (As := [.long x14, .long x23]) (rest := []) hx hb hml hts hown hK hJ rfl rfl (ci := 12) rfl e26 (c_X12_lowest l G P a0 x14 x23 σ22 σ27 e28) me_X12_lowest kw_2633 ks_147 kw_2631 (Nat.le_of_ble_eq_true rfl) (Nat.le_of_ble_eq_true rfl) rfl hl.1 rfl (Nat.le_of_ble_eq_true rfl) dX12_times_51 (fun H locs hJ => ?_)
  exact my_vret hx hb hr hlocks hJ hf dX12_times_54
set_option maxHeartbeats 4000000 in
set_option maxRecDepth 100000 in
theorem c_X12_by (l : Launch) (G : mx_G) (P : mx_P) (a0 : Nat) (p1 : Int64) (p3 : Int64) (p5 : Int64) (p7 : Int64) (σ : mx_S) (σ' : mx_S) (hf : f_X12_by P a0 p1 p3 p5 p7 σ = some σ') : mxz σ ≤ mpc P → mxu σ ≤ mps P → mx_M l yX12_by cX12_by 9 none 4 112 G P [.ref a0, .long p1, .long p3, .long p5, .long p7] σ none σ' := by
  intro hcap hcau
  refine mx_ofW (by decide +kernel) hcap hcau (Nat.le_of_ble_eq_true rfl) ?_
  intro p e s m below meth c hx hb hr hml hts hown hlocks hname hK hJ ls hl
  have hz0 := hJ.2.1
  have hown : s.vm.findClass RX12 = some m.cls := hown
  have hl : lv_has ls 9 [(0, .ref a0), (1, .long p1), (3, .long p3), (5, .long p5), (7, .long p7)] := hl
  have D32 : ∀  (τ : mx_S), f_X12_by_D32 P  τ = some σ' → ∀ (H : Heap) (locs : List Loc), mx_J G P s.heap (mxz σ) (mxu σ) τ H locs → ∀ ls : Array Slot, lv_has ls 9 [] → W p l e (mx_rm P 4 112 σ) s m ([.ref a0, .long p1, .long p3, .long p5, .long p7] : List Value).toArray below meth c H locs (mxz τ - mxz σ) (mxu τ - mxu σ) (mx_Z below G P none σ σ' [.ref a0, .long p1, .long p3, .long p5, .long p7] s) (F0 m 32 ls []) := by
    intro  τ hf _ _ hJ ls hl
    unfold f_X12_by_D32 at hf
    exact my_vret hx hb hr hlocks hJ hf dX12_by_32
  unfold f_X12_by at hf
  refine lv_lload hx hb dX12_by_0 (lv_at hl 3 rfl) ?_
  refine lv_lconst (v := 0) hx hb dX12_by_2 (by decide) ?_
  refine W.lcmp hx hb dX12_by_3 ?_
  refine lv_if_ge (tgt := 22) hx hb dX12_by_4 (by decide) (fun c1 => ?_) (fun c1 => ?_)
  · rw [if_pos c1] at hf
    refine lv_aload_n hx hb dX12_by_22 rfl (lv_at hl 0 rfl) ?_
    refine lv_lload_n hx hb dX12_by_23 rfl (lv_at hl 1 rfl) ?_
    refine lv_lload_n hx hb dX12_by_24 rfl (lv_at hl 2 rfl) ?_
    refine lv_lload hx hb dX12_by_25 (lv_at hl 4 rfl) ?_
    refine lv_lload hx hb dX12_by_27 (lv_at hl 3 rfl) ?_
    obtain ⟨i2, e3, hf⟩ := mb0 hf
    obtain ⟨σ4, e5, hf⟩ := mb0 hf
    refine mx_callV (As := [.long p1, .long p3, .long p7, .long p5]) (rest := []) hx hb hml hts hown hK hJ rfl rfl (ci := 12) rfl e3 (c_X12_times l G P a0 p1 p3 p7 p5 σ σ4 e5) me_X12_times kw_2650 ks_151 kw_2648 (Nat.le_of_ble_eq_true rfl) (Nat.le_of_ble_eq_true rfl) rfl hl.1 rfl (Nat.le_of_ble_eq_true rfl) dX12_by_29 (fun H locs hJ => ?_)
    exact D32  σ4 hf _ _ hJ ls (lv_sub hl [] rfl)
  · rw [if_neg c1] at hf
    refine lv_aload_n hx hb dX12_by_7 rfl (lv_at hl 0 rfl) ?_
    refine lv_lload_n hx hb dX12_by_8 rfl (lv_at hl 1 rfl) ?_
    refine lv_lload_n hx hb dX12_by_9 rfl (lv_at hl 2 rfl) ?_
    refine lv_lload hx hb dX12_by_10 (lv_at hl 4 rfl) ?_
    refine lv_lneg hx hb dX12_by_12 ?_
    refine lv_lload hx hb dX12_by_13 (lv_at hl 3 rfl) ?_
    refine lv_lneg hx hb dX12_by_15 ?_
    obtain ⟨i6, e7, hf⟩ := mb0 hf
    obtain ⟨σ8, e9, hf⟩ := mb0 hf
    refine mx_callV (As := [.long p1, .long p3, .long (-p7), .long (-p5)]) (rest := []) hx hb hml hts hown hK hJ rfl rfl (ci := 12) rfl e7 (c_X12_times l G P a0 p1 p3 (-p7) (-p5) σ σ8 e9) me_X12_times kw_2650 ks_151 kw_2648 (Nat.le_of_ble_eq_true rfl) (Nat.le_of_ble_eq_true rfl) rfl hl.1 rfl (Nat.le_of_ble_eq_true rfl) dX12_by_16 (fun H locs hJ => ?_)
    refine lv_goto (tgt := 32) hx hb dX12_by_19 (by decide) ?_
    exact D32  σ8 hf _ _ hJ ls (lv_sub hl [] rfl)
set_option maxHeartbeats 4000000 in
set_option maxRecDepth 100000 in
theorem c_X12_box (l : Launch) (G : mx_G) (P : mx_P) (a0 : Nat) (p1 : Int32) (p2 : Int64) (p4 : Int64) (p6 : Int32) (σ : mx_S) (σ' : mx_S) (hf : f_X12_box P a0 p1 p2 p4 p6 σ = some σ') : mxz σ ≤ mpc P → mxu σ ≤ mps P → mx_M l yX12_box cX12_box 7 none 1 21 G P [.ref a0, .int p1, .long p2, .long p4, .int p6] σ none σ' := by
  intro hcap hcau
  refine mx_ofW (by decide +kernel) hcap hcau (Nat.le_of_ble_eq_true rfl) ?_
  intro p e s m below meth c hx hb hr hml hts hown hlocks hname hK hJ ls hl
  have hz0 := hJ.2.1
  have hown : s.vm.findClass RX12 = some m.cls := hown
  have hl : lv_has ls 7 [(0, .ref a0), (1, .int p1), (2, .long p2), (4, .long p4), (6, .int p6)] := hl
  have D79 : ∀ (w0 : Int64) (w1 : Int32) (w2 : Nat) (τ : mx_S), f_X12_box_D79 P w0 w1 w2 τ = some σ' → ∀ (H : Heap) (locs : List Loc), mx_J G P s.heap (mxz σ) (mxu σ) τ H locs → ∀ ls : Array Slot, lv_has ls 7 [] → W p l e (mx_rm P 1 21 σ) s m ([.ref a0, .int p1, .long p2, .long p4, .int p6] : List Value).toArray below meth c H locs (mxz τ - mxz σ) (mxu τ - mxu σ) (mx_Z below G P none σ σ' [.ref a0, .int p1, .long p2, .long p4, .int p6] s) (F0 m 79 ls [.long w0, .int w1, .ref w2]) := by
    intro w0 w1 w2 τ hf _ _ hJ ls hl
    unfold f_X12_box_D79 at hf
    obtain ⟨σ22, e23, hf⟩ := mb0 hf
    refine mx_sL hx hb hK hJ e23 dX12_box_79 (fun H locs hJ => ?_)
    exact my_vret hx hb hr hlocks hJ hf dX12_box_80
  have D58 : ∀ (v0 : Nat) (v1 : Int32) (v4 : Int64) (w0 : Int64) (w1 : Int32) (w2 : Nat) (τ : mx_S), f_X12_box_D58 P v0 v1 v4 w0 w1 w2 τ = some σ' → ∀ (H : Heap) (locs : List Loc), mx_J G P s.heap (mxz σ) (mxu σ) τ H locs → ∀ ls : Array Slot, lv_has ls 7 [(0, .ref v0), (1, .int v1), (4, .long v4)] → W p l e (mx_rm P 1 21 σ) s m ([.ref a0, .int p1, .long p2, .long p4, .int p6] : List Value).toArray below meth c H locs (mxz τ - mxz σ) (mxu τ - mxu σ) (mx_Z below G P none σ σ' [.ref a0, .int p1, .long p2, .long p4, .int p6] s) (F0 m 58 ls [.long w0, .int w1, .ref w2]) := by
    intro v0 v1 v4 w0 w1 w2 τ hf _ _ hJ ls hl
    unfold f_X12_box_D58 at hf
    obtain ⟨σ13, e14, hf⟩ := mb0 hf
    refine mx_sL hx hb hK hJ e14 dX12_box_58 (fun H locs hJ => ?_)
    refine lv_aload_n hx hb dX12_box_59 rfl (lv_at hl 0 rfl) ?_
    obtain ⟨b15, e16, hf⟩ := mb0 hf
    refine my_gR hx hb hts hown hK hJ fd_RX12_17 hv_12_12 e16 dX12_box_60 ?_
    refine lv_iload_n hx hb dX12_box_63 rfl (lv_at hl 1 rfl) ?_
    refine lv_aload_n hx hb dX12_box_64 rfl (lv_at hl 0 rfl) ?_
    obtain ⟨b17, e18, hf⟩ := mb0 hf
    refine my_gR hx hb hts hown hK hJ fd_RX12_20 hv_12_13 e18 dX12_box_65 ?_
    refine lv_iload_n hx hb dX12_box_68 rfl (lv_at hl 1 rfl) ?_
    obtain ⟨x19, e20, hf⟩ := mb0 hf
    refine mx_aZ hx hb hK hJ e20 dX12_box_69 ?_
    refine lv_if_eq (tgt := 77) hx hb dX12_box_70 (by decide) (fun c21 => ?_) (fun c21 => ?_)
    · rw [if_pos c21] at hf
      refine lv_lload hx hb dX12_box_77 (lv_at hl 2 rfl) ?_
      exact D79 v4 v1 b15 σ13 hf _ _ hJ ls (lv_sub hl [] rfl)
    · rw [if_neg c21] at hf
      refine lv_lconst (v := 0) hx hb dX12_box_73 (by decide) ?_
      refine lv_goto (tgt := 79) hx hb dX12_box_74 (by decide) ?_
      exact D79 (0 : Int64) v1 b15 σ13 hf _ _ hJ ls (lv_sub hl [] rfl)
  have D38 : ∀ (v0 : Nat) (v1 : Int32) (v2 : Int64) (v4 : Int64) (w0 : Int32) (w1 : Int32) (w2 : Nat) (τ : mx_S), f_X12_box_D38 P v0 v1 v2 v4 w0 w1 w2 τ = some σ' → ∀ (H : Heap) (locs : List Loc), mx_J G P s.heap (mxz σ) (mxu σ) τ H locs → ∀ ls : Array Slot, lv_has ls 7 [(0, .ref v0), (1, .int v1), (2, .long v2), (4, .long v4)] → W p l e (mx_rm P 1 21 σ) s m ([.ref a0, .int p1, .long p2, .long p4, .int p6] : List Value).toArray below meth c H locs (mxz τ - mxz σ) (mxu τ - mxu σ) (mx_Z below G P none σ σ' [.ref a0, .int p1, .long p2, .long p4, .int p6] s) (F0 m 38 ls [.int w0, .int w1, .ref w2]) := by
    intro v0 v1 v2 v4 w0 w1 w2 τ hf _ _ hJ ls hl
    unfold f_X12_box_D38 at hf
    obtain ⟨σ4, e5, hf⟩ := mb0 hf
    refine mx_sZ hx hb hK hJ e5 dX12_box_38 (fun H locs hJ => ?_)
    refine lv_aload_n hx hb dX12_box_39 rfl (lv_at hl 0 rfl) ?_
    obtain ⟨b6, e7, hf⟩ := mb0 hf
    refine my_gR hx hb hts hown hK hJ fd_RX12_13 hv_12_11 e7 dX12_box_40 ?_
    refine lv_iload_n hx hb dX12_box_43 rfl (lv_at hl 1 rfl) ?_
    refine lv_aload_n hx hb dX12_box_44 rfl (lv_at hl 0 rfl) ?_
    obtain ⟨b8, e9, hf⟩ := mb0 hf
    refine my_gR hx hb hts hown hK hJ fd_RX12_20 hv_12_13 e9 dX12_box_45 ?_
    refine lv_iload_n hx hb dX12_box_48 rfl (lv_at hl 1 rfl) ?_
    obtain ⟨x10, e11, hf⟩ := mb0 hf
    refine mx_aZ hx hb hK hJ e11 dX12_box_49 ?_
    refine lv_if_eq (tgt := 57) hx hb dX12_box_50 (by decide) (fun c12 => ?_) (fun c12 => ?_)
    · rw [if_pos c12] at hf
      refine lv_lload_n hx hb dX12_box_57 rfl (lv_at hl 2 rfl) ?_
      exact D58 v0 v1 v4 v2 v1 b6 σ4 hf _ _ hJ ls (lv_sub hl [0, 1, 3] rfl)
    · rw [if_neg c12] at hf
      refine lv_lconst (v := 0) hx hb dX12_box_53 (by decide) ?_
      refine lv_goto (tgt := 58) hx hb dX12_box_54 (by decide) ?_
      exact D58 v0 v1 v4 (0 : Int64) v1 b6 σ4 hf _ _ hJ ls (lv_sub hl [0, 1, 3] rfl)
  have D33 : ∀ (v0 : Nat) (v1 : Int32) (v2 : Int64) (v4 : Int64) (w0 : Int32) (w1 : Nat) (τ : mx_S), f_X12_box_D33 P v0 v1 v2 v4 w0 w1 τ = some σ' → ∀ (H : Heap) (locs : List Loc), mx_J G P s.heap (mxz σ) (mxu σ) τ H locs → ∀ ls : Array Slot, lv_has ls 7 [(0, .ref v0), (1, .int v1), (2, .long v2), (4, .long v4)] → W p l e (mx_rm P 1 21 σ) s m ([.ref a0, .int p1, .long p2, .long p4, .int p6] : List Value).toArray below meth c H locs (mxz τ - mxz σ) (mxu τ - mxu σ) (mx_Z below G P none σ σ' [.ref a0, .int p1, .long p2, .long p4, .int p6] s) (F0 m 33 ls [.int w0, .ref w1]) := by
    intro v0 v1 v2 v4 w0 w1 τ hf _ _ hJ ls hl
    unfold f_X12_box_D33 at hf
    refine lv_iconst (v := 1) hx hb dX12_box_33 (by decide) ?_
    refine lv_goto (tgt := 38) hx hb dX12_box_34 (by decide) ?_
    exact D38 v0 v1 v2 v4 (1 : Int32) w0 w1 τ hf _ _ hJ ls (lv_sub hl [0, 1, 2, 3] rfl)
  unfold f_X12_box at hf
  refine lv_aload_n hx hb dX12_box_0 rfl (lv_at hl 0 rfl) ?_
  obtain ⟨b1, e2, hf⟩ := mb0 hf
  refine my_gR hx hb hts hown hK hJ fd_RX12_20 hv_12_13 e2 dX12_box_1 ?_
  refine lv_iload_n hx hb dX12_box_4 rfl (lv_at hl 1 rfl) ?_
  refine lv_iload hx hb dX12_box_5 (lv_at hl 4 rfl) ?_
  refine lv_if_ne (tgt := 33) hx hb dX12_box_7 (by decide) (fun c3 => ?_) (fun c3 => ?_)
  · rw [if_neg c3] at hf
    exact D33 a0 p1 p2 p4 p1 b1 σ hf _ _ hJ ls (lv_sub hl [0, 1, 2, 3] rfl)
  · rw [if_pos c3] at hf
    refine lv_lload_n hx hb dX12_box_10 rfl (lv_at hl 2 rfl) ?_
    obtain ⟨x25, σ24, e26, hf⟩ := mc0 hf
    refine mx_callS (As := [.long p2]) (rest := [.int p1, .ref b1]) hx hb hml hts hown hK hJ rfl rfl (c_X12_size l G P p2 σ x25 σ24 e26) me_X12_size kw_2263 kw_2262 (Nat.le_of_ble_eq_true rfl) (Nat.le_of_ble_eq_true rfl) rfl hl.1 rfl (Nat.le_of_ble_eq_true rfl) dX12_box_11 (fun H locs hJ => ?_)
    refine lv_ldc2 hx hb hown (hts _ kw_2383) dX12_box_14 ?_
    refine W.lcmp hx hb dX12_box_17 ?_
    refine lv_if_gt (tgt := 33) hx hb dX12_box_18 (by decide) (fun c27 => ?_) (fun c27 => ?_)
    · rw [if_pos c27] at hf
      exact D33 a0 p1 p2 p4 p1 b1 σ24 hf _ _ hJ ls (lv_sub hl [0, 1, 2, 3] rfl)
    · rw [if_neg c27] at hf
      refine lv_lload hx hb dX12_box_21 (lv_at hl 3 rfl) ?_
      obtain ⟨x29, σ28, e30, hf⟩ := mc0 hf
      refine mx_callS (As := [.long p4]) (rest := [.int p1, .ref b1]) hx hb hml hts hown hK hJ rfl rfl (c_X12_size l G P p4 σ24 x29 σ28 e30) me_X12_size kw_2263 kw_2262 (Nat.le_of_ble_eq_true rfl) (Nat.le_of_ble_eq_true rfl) rfl hl.1 rfl (Nat.le_of_ble_eq_true rfl) dX12_box_23 (fun H locs hJ => ?_)
      refine lv_ldc2 hx hb hown (hts _ kw_2383) dX12_box_26 ?_
      refine W.lcmp hx hb dX12_box_29 ?_
      refine lv_if_le (tgt := 37) hx hb dX12_box_30 (by decide) (fun c31 => ?_) (fun c31 => ?_)
      · rw [if_pos c31] at hf
        refine lv_iconst (v := 0) hx hb dX12_box_37 (by decide) ?_
        exact D38 a0 p1 p2 p4 (0 : Int32) p1 b1 σ28 hf _ _ hJ ls (lv_sub hl [0, 1, 2, 3] rfl)
      · rw [if_neg c31] at hf
        exact D33 a0 p1 p2 p4 p1 b1 σ28 hf _ _ hJ ls (lv_sub hl [0, 1, 2, 3] rfl)
set_option maxHeartbeats 4000000 in
set_option maxRecDepth 100000 in
theorem c_X12_add (l : Launch) (G : mx_G) (P : mx_P) (a0 : Nat) (p1 : Int32) (p2 : Int32) (p3 : Int32) (σ : mx_S) (σ' : mx_S) (hf : f_X12_add P a0 p1 p2 p3 σ = some σ') : mxz σ ≤ mpc P → mxu σ ≤ mps P → mx_M l yX12_add cX12_add 4 none 2 47 G P [.ref a0, .int p1, .int p2, .int p3] σ none σ' := by
  intro hcap hcau
  refine mx_ofW (by decide +kernel) hcap hcau (Nat.le_of_ble_eq_true rfl) ?_
  intro p e s m below meth c hx hb hr hml hts hown hlocks hname hK hJ ls hl
  have hz0 := hJ.2.1
  have hown : s.vm.findClass RX12 = some m.cls := hown
  have hl : lv_has ls 4 [(0, .ref a0), (1, .int p1), (2, .int p2), (3, .int p3)] := hl
  have D51 : ∀ (w0 : Int32) (w1 : Int64) (w2 : Int64) (w3 : Int32) (w4 : Nat) (τ : mx_S), f_X12_add_D51 P w0 w1 w2 w3 w4 τ = some σ' → ∀ (H : Heap) (locs : List Loc), mx_J G P s.heap (mxz σ) (mxu σ) τ H locs → ∀ ls : Array Slot, lv_has ls 4 [] → W p l e (mx_rm P 2 47 σ) s m ([.ref a0, .int p1, .int p2, .int p3] : List Value).toArray below meth c H locs (mxz τ - mxz σ) (mxu τ - mxu σ) (mx_Z below G P none σ σ' [.ref a0, .int p1, .int p2, .int p3] s) (F0 m 51 ls [.int w0, .long w1, .long w2, .int w3, .ref w4]) := by
    intro w0 w1 w2 w3 w4 τ hf _ _ hJ ls hl
    unfold f_X12_add_D51 at hf
    obtain ⟨i22, e23, hf⟩ := mb0 hf
    obtain ⟨σ24, e25, hf⟩ := mb0 hf
    refine mx_callV (As := [.int w3, .long w2, .long w1, .int w0]) (rest := []) hx hb hml hts hown hK hJ rfl rfl (ci := 12) rfl e23 (c_X12_box l G P w4 w3 w2 w1 w0 τ σ24 e25) me_X12_box kw_2381 ks_106 kw_2379 (Nat.le_of_ble_eq_true rfl) (Nat.le_of_ble_eq_true rfl) rfl hl.1 rfl (Nat.le_of_ble_eq_true rfl) dX12_add_51 (fun H locs hJ => ?_)
    exact my_vret hx hb hr hlocks hJ hf dX12_add_54
  have D46 : ∀ (w0 : Int64) (w1 : Int64) (w2 : Int32) (w3 : Nat) (τ : mx_S), f_X12_add_D46 P w0 w1 w2 w3 τ = some σ' → ∀ (H : Heap) (locs : List Loc), mx_J G P s.heap (mxz σ) (mxu σ) τ H locs → ∀ ls : Array Slot, lv_has ls 4 [] → W p l e (mx_rm P 2 47 σ) s m ([.ref a0, .int p1, .int p2, .int p3] : List Value).toArray below meth c H locs (mxz τ - mxz σ) (mxu τ - mxu σ) (mx_Z below G P none σ σ' [.ref a0, .int p1, .int p2, .int p3] s) (F0 m 46 ls [.long w0, .long w1, .int w2, .ref w3]) := by
    intro w0 w1 w2 w3 τ hf _ _ hJ ls hl
    unfold f_X12_add_D46 at hf
    refine lv_iconst (v := 1) hx hb dX12_add_46 (by decide) ?_
    refine lv_goto (tgt := 51) hx hb dX12_add_47 (by decide) ?_
    exact D51 (1 : Int32) w0 w1 w2 w3 τ hf _ _ hJ ls (lv_sub hl [] rfl)
  unfold f_X12_add at hf
  refine lv_aload_n hx hb dX12_add_0 rfl (lv_at hl 0 rfl) ?_
  refine lv_iload_n hx hb dX12_add_1 rfl (lv_at hl 1 rfl) ?_
  refine lv_aload_n hx hb dX12_add_2 rfl (lv_at hl 0 rfl) ?_
  obtain ⟨b1, e2, hf⟩ := mb0 hf
  refine my_gR hx hb hts hown hK hJ fd_RX12_13 hv_12_11 e2 dX12_add_3 ?_
  refine lv_iload_n hx hb dX12_add_6 rfl (lv_at hl 2 rfl) ?_
  obtain ⟨x3, e4, hf⟩ := mb0 hf
  refine mx_aL hx hb hK hJ e4 dX12_add_7 ?_
  refine lv_aload_n hx hb dX12_add_8 rfl (lv_at hl 0 rfl) ?_
  obtain ⟨b5, e6, hf⟩ := mb0 hf
  refine my_gR hx hb hts hown hK hJ fd_RX12_13 hv_12_11 e6 dX12_add_9 ?_
  refine lv_iload_n hx hb dX12_add_12 rfl (lv_at hl 3 rfl) ?_
  obtain ⟨x7, e8, hf⟩ := mb0 hf
  refine mx_aL hx hb hK hJ e8 dX12_add_13 ?_
  refine lv_ladd hx hb dX12_add_14 ?_
  refine lv_aload_n hx hb dX12_add_15 rfl (lv_at hl 0 rfl) ?_
  obtain ⟨b9, e10, hf⟩ := mb0 hf
  refine my_gR hx hb hts hown hK hJ fd_RX12_17 hv_12_12 e10 dX12_add_16 ?_
  refine lv_iload_n hx hb dX12_add_19 rfl (lv_at hl 2 rfl) ?_
  obtain ⟨x11, e12, hf⟩ := mb0 hf
  refine mx_aL hx hb hK hJ e12 dX12_add_20 ?_
  refine lv_aload_n hx hb dX12_add_21 rfl (lv_at hl 0 rfl) ?_
  obtain ⟨b13, e14, hf⟩ := mb0 hf
  refine my_gR hx hb hts hown hK hJ fd_RX12_17 hv_12_12 e14 dX12_add_22 ?_
  refine lv_iload_n hx hb dX12_add_25 rfl (lv_at hl 3 rfl) ?_
  obtain ⟨x15, e16, hf⟩ := mb0 hf
  refine mx_aL hx hb hK hJ e16 dX12_add_26 ?_
  refine lv_ladd hx hb dX12_add_27 ?_
  refine lv_aload_n hx hb dX12_add_28 rfl (lv_at hl 0 rfl) ?_
  obtain ⟨b17, e18, hf⟩ := mb0 hf
  refine my_gR hx hb hts hown hK hJ fd_RX12_20 hv_12_13 e18 dX12_add_29 ?_
  refine lv_iload_n hx hb dX12_add_32 rfl (lv_at hl 2 rfl) ?_
  obtain ⟨x19, e20, hf⟩ := mb0 hf
  refine mx_aZ hx hb hK hJ e20 dX12_add_33 ?_
  refine lv_if_ne (tgt := 46) hx hb dX12_add_34 (by decide) (fun c21 => ?_) (fun c21 => ?_)
  · rw [if_neg c21] at hf
    exact D46 (x11 + x15) (x3 + x7) p1 a0 σ hf _ _ hJ ls (lv_sub hl [] rfl)
  · rw [if_pos c21] at hf
    refine lv_aload_n hx hb dX12_add_37 rfl (lv_at hl 0 rfl) ?_
    obtain ⟨b26, e27, hf⟩ := mb0 hf
    refine my_gR hx hb hts hown hK hJ fd_RX12_20 hv_12_13 e27 dX12_add_38 ?_
    refine lv_iload_n hx hb dX12_add_41 rfl (lv_at hl 3 rfl) ?_
    obtain ⟨x28, e29, hf⟩ := mb0 hf
    refine mx_aZ hx hb hK hJ e29 dX12_add_42 ?_
    refine lv_if_eq (tgt := 50) hx hb dX12_add_43 (by decide) (fun c30 => ?_) (fun c30 => ?_)
    · rw [if_pos c30] at hf
      refine lv_iconst (v := 0) hx hb dX12_add_50 (by decide) ?_
      exact D51 (0 : Int32) (x11 + x15) (x3 + x7) p1 a0 σ hf _ _ hJ ls (lv_sub hl [] rfl)
    · rw [if_neg c30] at hf
      exact D46 (x11 + x15) (x3 + x7) p1 a0 σ hf _ _ hJ ls (lv_sub hl [] rfl)
set_option maxHeartbeats 4000000 in
set_option maxRecDepth 100000 in
theorem c_X12_less (l : Launch) (G : mx_G) (P : mx_P) (a0 : Nat) (p1 : Int32) (p2 : Int32) (p3 : Int32) (σ : mx_S) (σ' : mx_S) (hf : f_X12_less P a0 p1 p2 p3 σ = some σ') : mxz σ ≤ mpc P → mxu σ ≤ mps P → mx_M l yX12_less cX12_less 4 none 2 47 G P [.ref a0, .int p1, .int p2, .int p3] σ none σ' := by
  intro hcap hcau
  refine mx_ofW (by decide +kernel) hcap hcau (Nat.le_of_ble_eq_true rfl) ?_
  intro p e s m below meth c hx hb hr hml hts hown hlocks hname hK hJ ls hl
  have hz0 := hJ.2.1
  have hown : s.vm.findClass RX12 = some m.cls := hown
  have hl : lv_has ls 4 [(0, .ref a0), (1, .int p1), (2, .int p2), (3, .int p3)] := hl
  have D51 : ∀ (w0 : Int32) (w1 : Int64) (w2 : Int64) (w3 : Int32) (w4 : Nat) (τ : mx_S), f_X12_less_D51 P w0 w1 w2 w3 w4 τ = some σ' → ∀ (H : Heap) (locs : List Loc), mx_J G P s.heap (mxz σ) (mxu σ) τ H locs → ∀ ls : Array Slot, lv_has ls 4 [] → W p l e (mx_rm P 2 47 σ) s m ([.ref a0, .int p1, .int p2, .int p3] : List Value).toArray below meth c H locs (mxz τ - mxz σ) (mxu τ - mxu σ) (mx_Z below G P none σ σ' [.ref a0, .int p1, .int p2, .int p3] s) (F0 m 51 ls [.int w0, .long w1, .long w2, .int w3, .ref w4]) := by
    intro w0 w1 w2 w3 w4 τ hf _ _ hJ ls hl
    unfold f_X12_less_D51 at hf
    obtain ⟨i22, e23, hf⟩ := mb0 hf
    obtain ⟨σ24, e25, hf⟩ := mb0 hf
    refine mx_callV (As := [.int w3, .long w2, .long w1, .int w0]) (rest := []) hx hb hml hts hown hK hJ rfl rfl (ci := 12) rfl e23 (c_X12_box l G P w4 w3 w2 w1 w0 τ σ24 e25) me_X12_box kw_2381 ks_106 kw_2379 (Nat.le_of_ble_eq_true rfl) (Nat.le_of_ble_eq_true rfl) rfl hl.1 rfl (Nat.le_of_ble_eq_true rfl) dX12_less_51 (fun H locs hJ => ?_)
    exact my_vret hx hb hr hlocks hJ hf dX12_less_54
  have D46 : ∀ (w0 : Int64) (w1 : Int64) (w2 : Int32) (w3 : Nat) (τ : mx_S), f_X12_less_D46 P w0 w1 w2 w3 τ = some σ' → ∀ (H : Heap) (locs : List Loc), mx_J G P s.heap (mxz σ) (mxu σ) τ H locs → ∀ ls : Array Slot, lv_has ls 4 [] → W p l e (mx_rm P 2 47 σ) s m ([.ref a0, .int p1, .int p2, .int p3] : List Value).toArray below meth c H locs (mxz τ - mxz σ) (mxu τ - mxu σ) (mx_Z below G P none σ σ' [.ref a0, .int p1, .int p2, .int p3] s) (F0 m 46 ls [.long w0, .long w1, .int w2, .ref w3]) := by
    intro w0 w1 w2 w3 τ hf _ _ hJ ls hl
    unfold f_X12_less_D46 at hf
    refine lv_iconst (v := 1) hx hb dX12_less_46 (by decide) ?_
    refine lv_goto (tgt := 51) hx hb dX12_less_47 (by decide) ?_
    exact D51 (1 : Int32) w0 w1 w2 w3 τ hf _ _ hJ ls (lv_sub hl [] rfl)
  unfold f_X12_less at hf
  refine lv_aload_n hx hb dX12_less_0 rfl (lv_at hl 0 rfl) ?_
  refine lv_iload_n hx hb dX12_less_1 rfl (lv_at hl 1 rfl) ?_
  refine lv_aload_n hx hb dX12_less_2 rfl (lv_at hl 0 rfl) ?_
  obtain ⟨b1, e2, hf⟩ := mb0 hf
  refine my_gR hx hb hts hown hK hJ fd_RX12_13 hv_12_11 e2 dX12_less_3 ?_
  refine lv_iload_n hx hb dX12_less_6 rfl (lv_at hl 2 rfl) ?_
  obtain ⟨x3, e4, hf⟩ := mb0 hf
  refine mx_aL hx hb hK hJ e4 dX12_less_7 ?_
  refine lv_aload_n hx hb dX12_less_8 rfl (lv_at hl 0 rfl) ?_
  obtain ⟨b5, e6, hf⟩ := mb0 hf
  refine my_gR hx hb hts hown hK hJ fd_RX12_17 hv_12_12 e6 dX12_less_9 ?_
  refine lv_iload_n hx hb dX12_less_12 rfl (lv_at hl 3 rfl) ?_
  obtain ⟨x7, e8, hf⟩ := mb0 hf
  refine mx_aL hx hb hK hJ e8 dX12_less_13 ?_
  refine lv_lsub hx hb dX12_less_14 ?_
  refine lv_aload_n hx hb dX12_less_15 rfl (lv_at hl 0 rfl) ?_
  obtain ⟨b9, e10, hf⟩ := mb0 hf
  refine my_gR hx hb hts hown hK hJ fd_RX12_17 hv_12_12 e10 dX12_less_16 ?_
  refine lv_iload_n hx hb dX12_less_19 rfl (lv_at hl 2 rfl) ?_
  obtain ⟨x11, e12, hf⟩ := mb0 hf
  refine mx_aL hx hb hK hJ e12 dX12_less_20 ?_
  refine lv_aload_n hx hb dX12_less_21 rfl (lv_at hl 0 rfl) ?_
  obtain ⟨b13, e14, hf⟩ := mb0 hf
  refine my_gR hx hb hts hown hK hJ fd_RX12_13 hv_12_11 e14 dX12_less_22 ?_
  refine lv_iload_n hx hb dX12_less_25 rfl (lv_at hl 3 rfl) ?_
  obtain ⟨x15, e16, hf⟩ := mb0 hf
  refine mx_aL hx hb hK hJ e16 dX12_less_26 ?_
  refine lv_lsub hx hb dX12_less_27 ?_
  refine lv_aload_n hx hb dX12_less_28 rfl (lv_at hl 0 rfl) ?_
  obtain ⟨b17, e18, hf⟩ := mb0 hf
  refine my_gR hx hb hts hown hK hJ fd_RX12_20 hv_12_13 e18 dX12_less_29 ?_
  refine lv_iload_n hx hb dX12_less_32 rfl (lv_at hl 2 rfl) ?_
  obtain ⟨x19, e20, hf⟩ := mb0 hf
  refine mx_aZ hx hb hK hJ e20 dX12_less_33 ?_
  refine lv_if_ne (tgt := 46) hx hb dX12_less_34 (by decide) (fun c21 => ?_) (fun c21 => ?_)
  · rw [if_neg c21] at hf
    exact D46 (x11 - x15) (x3 - x7) p1 a0 σ hf _ _ hJ ls (lv_sub hl [] rfl)
  · rw [if_pos c21] at hf
    refine lv_aload_n hx hb dX12_less_37 rfl (lv_at hl 0 rfl) ?_
    obtain ⟨b26, e27, hf⟩ := mb0 hf
    refine my_gR hx hb hts hown hK hJ fd_RX12_20 hv_12_13 e27 dX12_less_38 ?_
    refine lv_iload_n hx hb dX12_less_41 rfl (lv_at hl 3 rfl) ?_
    obtain ⟨x28, e29, hf⟩ := mb0 hf
    refine mx_aZ hx hb hK hJ e29 dX12_less_42 ?_
    refine lv_if_eq (tgt := 50) hx hb dX12_less_43 (by decide) (fun c30 => ?_) (fun c30 => ?_)
    · rw [if_pos c30] at hf
      refine lv_iconst (v := 0) hx hb dX12_less_50 (by decide) ?_
      exact D51 (0 : Int32) (x11 - x15) (x3 - x7) p1 a0 σ hf _ _ hJ ls (lv_sub hl [] rfl)
    · rw [if_neg c30] at hf
      exact D46 (x11 - x15) (x3 - x7) p1 a0 σ hf _ _ hJ ls (lv_sub hl [] rfl)
set_option maxHeartbeats 4000000 in
set_option maxRecDepth 100000 in
theorem c_X12_turned (l : Launch) (G : mx_G) (P : mx_P) (a0 : Nat) (p1 : Int32) (p2 : Int32) (σ : mx_S) (σ' : mx_S) (hf : f_X12_turned P a0 p1 p2 σ = some σ') : mxz σ ≤ mpc P → mxu σ ≤ mps P → mx_M l yX12_turned cX12_turned 3 none 2 47 G P [.ref a0, .int p1, .int p2] σ none σ' := by
  intro hcap hcau
  refine mx_ofW (by decide +kernel) hcap hcau (Nat.le_of_ble_eq_true rfl) ?_
  intro p e s m below meth c hx hb hr hml hts hown hlocks hname hK hJ ls hl
  have hz0 := hJ.2.1
  have hown : s.vm.findClass RX12 = some m.cls := hown
  have hl : lv_has ls 3 [(0, .ref a0), (1, .int p1), (2, .int p2)] := hl
  unfold f_X12_turned at hf
  refine lv_aload_n hx hb dX12_turned_0 rfl (lv_at hl 0 rfl) ?_
  refine lv_iload_n hx hb dX12_turned_1 rfl (lv_at hl 1 rfl) ?_
  refine lv_aload_n hx hb dX12_turned_2 rfl (lv_at hl 0 rfl) ?_
  obtain ⟨b1, e2, hf⟩ := mb0 hf
  refine my_gR hx hb hts hown hK hJ fd_RX12_17 hv_12_12 e2 dX12_turned_3 ?_
  refine lv_iload_n hx hb dX12_turned_6 rfl (lv_at hl 2 rfl) ?_
  obtain ⟨x3, e4, hf⟩ := mb0 hf
  refine mx_aL hx hb hK hJ e4 dX12_turned_7 ?_
  refine lv_lneg hx hb dX12_turned_8 ?_
  refine lv_aload_n hx hb dX12_turned_9 rfl (lv_at hl 0 rfl) ?_
  obtain ⟨b5, e6, hf⟩ := mb0 hf
  refine my_gR hx hb hts hown hK hJ fd_RX12_13 hv_12_11 e6 dX12_turned_10 ?_
  refine lv_iload_n hx hb dX12_turned_13 rfl (lv_at hl 2 rfl) ?_
  obtain ⟨x7, e8, hf⟩ := mb0 hf
  refine mx_aL hx hb hK hJ e8 dX12_turned_14 ?_
  refine lv_lneg hx hb dX12_turned_15 ?_
  refine lv_aload_n hx hb dX12_turned_16 rfl (lv_at hl 0 rfl) ?_
  obtain ⟨b9, e10, hf⟩ := mb0 hf
  refine my_gR hx hb hts hown hK hJ fd_RX12_20 hv_12_13 e10 dX12_turned_17 ?_
  refine lv_iload_n hx hb dX12_turned_20 rfl (lv_at hl 2 rfl) ?_
  obtain ⟨x11, e12, hf⟩ := mb0 hf
  refine mx_aZ hx hb hK hJ e12 dX12_turned_21 ?_
  obtain ⟨i13, e14, hf⟩ := mb0 hf
  obtain ⟨σ15, e16, hf⟩ := mb0 hf
  refine mx_callV (As := [.int p1, .long (-x3), .long (-x7), .int x11]) (rest := []) hx hb hml hts hown hK hJ rfl rfl (ci := 12) rfl e14 (c_X12_box l G P a0 p1 (-x3) (-x7) x11 σ σ15 e16) me_X12_box kw_2381 ks_106 kw_2379 (Nat.le_of_ble_eq_true rfl) (Nat.le_of_ble_eq_true rfl) rfl hl.1 rfl (Nat.le_of_ble_eq_true rfl) dX12_turned_22 (fun H locs hJ => ?_)
  exact my_vret hx hb hr hlocks hJ hf dX12_turned_25
set_option maxHeartbeats 4000000 in
set_option maxRecDepth 100000 in
theorem c_X12_copy (l : Launch) (G : mx_G) (P : mx_P) (a0 : Nat) (p1 : Int32) (p2 : Int32) (σ : mx_S) (σ' : mx_S) (hf : f_X12_copy P a0 p1 p2 σ = some σ') : mxz σ ≤ mpc P → mxu σ ≤ mps P → mx_M l yX12_copy cX12_copy 3 none 2 47 G P [.ref a0, .int p1, .int p2] σ none σ' := by
  intro hcap hcau
  refine mx_ofW (by decide +kernel) hcap hcau (Nat.le_of_ble_eq_true rfl) ?_
  intro p e s m below meth c hx hb hr hml hts hown hlocks hname hK hJ ls hl
  have hz0 := hJ.2.1
  have hown : s.vm.findClass RX12 = some m.cls := hown
  have hl : lv_has ls 3 [(0, .ref a0), (1, .int p1), (2, .int p2)] := hl
  unfold f_X12_copy at hf
  refine lv_aload_n hx hb dX12_copy_0 rfl (lv_at hl 0 rfl) ?_
  refine lv_iload_n hx hb dX12_copy_1 rfl (lv_at hl 1 rfl) ?_
  refine lv_aload_n hx hb dX12_copy_2 rfl (lv_at hl 0 rfl) ?_
  obtain ⟨b1, e2, hf⟩ := mb0 hf
  refine my_gR hx hb hts hown hK hJ fd_RX12_13 hv_12_11 e2 dX12_copy_3 ?_
  refine lv_iload_n hx hb dX12_copy_6 rfl (lv_at hl 2 rfl) ?_
  obtain ⟨x3, e4, hf⟩ := mb0 hf
  refine mx_aL hx hb hK hJ e4 dX12_copy_7 ?_
  refine lv_aload_n hx hb dX12_copy_8 rfl (lv_at hl 0 rfl) ?_
  obtain ⟨b5, e6, hf⟩ := mb0 hf
  refine my_gR hx hb hts hown hK hJ fd_RX12_17 hv_12_12 e6 dX12_copy_9 ?_
  refine lv_iload_n hx hb dX12_copy_12 rfl (lv_at hl 2 rfl) ?_
  obtain ⟨x7, e8, hf⟩ := mb0 hf
  refine mx_aL hx hb hK hJ e8 dX12_copy_13 ?_
  refine lv_aload_n hx hb dX12_copy_14 rfl (lv_at hl 0 rfl) ?_
  obtain ⟨b9, e10, hf⟩ := mb0 hf
  refine my_gR hx hb hts hown hK hJ fd_RX12_20 hv_12_13 e10 dX12_copy_15 ?_
  refine lv_iload_n hx hb dX12_copy_18 rfl (lv_at hl 2 rfl) ?_
  obtain ⟨x11, e12, hf⟩ := mb0 hf
  refine mx_aZ hx hb hK hJ e12 dX12_copy_19 ?_
  obtain ⟨i13, e14, hf⟩ := mb0 hf
  obtain ⟨σ15, e16, hf⟩ := mb0 hf
  refine mx_callV (As := [.int p1, .long x3, .long x7, .int x11]) (rest := []) hx hb hml hts hown hK hJ rfl rfl (ci := 12) rfl e14 (c_X12_box l G P a0 p1 x3 x7 x11 σ σ15 e16) me_X12_box kw_2381 ks_106 kw_2379 (Nat.le_of_ble_eq_true rfl) (Nat.le_of_ble_eq_true rfl) rfl hl.1 rfl (Nat.le_of_ble_eq_true rfl) dX12_copy_20 (fun H locs hJ => ?_)
  exact my_vret hx hb hr hlocks hJ hf dX12_copy_23
set_option maxHeartbeats 4000000 in
set_option maxRecDepth 100000 in
theorem c_X12_smaller (l : Launch) (G : mx_G) (P : mx_P) (p0 : Int64) (p2 : Int64) (σ : mx_S) (r : Int64) (σ' : mx_S) (hf : f_X12_smaller P p0 p2 σ = some (r, σ')) : mxz σ ≤ mpc P → mxu σ ≤ mps P → mx_M l yX12_smaller cX12_smaller 4 (some .long) 0 0 G P [.long p0, .long p2] σ (some (.long r)) σ' := by
  intro hcap hcau
  refine mx_ofW (by decide +kernel) hcap hcau (Nat.le_of_ble_eq_true rfl) ?_
  intro p e s m below meth c hx hb hr hml hts hown hlocks hname hK hJ ls hl
  have hz0 := hJ.2.1
  have hown : s.vm.findClass RX12 = some m.cls := hown
  have hl : lv_has ls 4 [(0, .long p0), (2, .long p2)] := hl
  have D11 : ∀ (w0 : Int64) (τ : mx_S), f_X12_smaller_D11 P w0 τ = some (r, σ') → ∀ (H : Heap) (locs : List Loc), mx_J G P s.heap (mxz σ) (mxu σ) τ H locs → ∀ ls : Array Slot, lv_has ls 4 [] → W p l e (mx_rm P 0 0 σ) s m ([.long p0, .long p2] : List Value).toArray below meth c H locs (mxz τ - mxz σ) (mxu τ - mxu σ) (mx_Z below G P (some (.long r)) σ σ' [.long p0, .long p2] s) (F0 m 11 ls [.long w0]) := by
    intro w0 τ hf _ _ hJ ls hl
    unfold f_X12_smaller_D11 at hf
    exact my_lret hx hb hr hlocks hJ hf dX12_smaller_11
  unfold f_X12_smaller at hf
  refine lv_lload_n hx hb dX12_smaller_0 rfl (lv_at hl 0 rfl) ?_
  refine lv_lload_n hx hb dX12_smaller_1 rfl (lv_at hl 1 rfl) ?_
  refine W.lcmp hx hb dX12_smaller_2 ?_
  refine lv_if_ge (tgt := 10) hx hb dX12_smaller_3 (by decide) (fun c1 => ?_) (fun c1 => ?_)
  · rw [if_pos c1] at hf
    refine lv_lload_n hx hb dX12_smaller_10 rfl (lv_at hl 1 rfl) ?_
    exact D11 p2 σ hf _ _ hJ ls (lv_sub hl [] rfl)
  · rw [if_neg c1] at hf
    refine lv_lload_n hx hb dX12_smaller_6 rfl (lv_at hl 0 rfl) ?_
    refine lv_goto (tgt := 11) hx hb dX12_smaller_7 (by decide) ?_
    exact D11 p0 σ hf _ _ hJ ls (lv_sub hl [] rfl)
set_option maxHeartbeats 4000000 in
set_option maxRecDepth 100000 in
theorem c_X12_most (l : Launch) (G : mx_G) (P : mx_P) (p0 : Int64) (p2 : Int64) (σ : mx_S) (r : Int64) (σ' : mx_S) (hf : f_X12_most P p0 p2 σ = some (r, σ')) : mxz σ ≤ mpc P → mxu σ ≤ mps P → mx_M l yX12_most cX12_most 4 (some .long) 0 0 G P [.long p0, .long p2] σ (some (.long r)) σ' := by
  intro hcap hcau
  refine mx_ofW (by decide +kernel) hcap hcau (Nat.le_of_ble_eq_true rfl) ?_
  intro p e s m below meth c hx hb hr hml hts hown hlocks hname hK hJ ls hl
  have hz0 := hJ.2.1
  have hown : s.vm.findClass RX12 = some m.cls := hown
  have hl : lv_has ls 4 [(0, .long p0), (2, .long p2)] := hl
  have D11 : ∀ (w0 : Int64) (τ : mx_S), f_X12_most_D11 P w0 τ = some (r, σ') → ∀ (H : Heap) (locs : List Loc), mx_J G P s.heap (mxz σ) (mxu σ) τ H locs → ∀ ls : Array Slot, lv_has ls 4 [] → W p l e (mx_rm P 0 0 σ) s m ([.long p0, .long p2] : List Value).toArray below meth c H locs (mxz τ - mxz σ) (mxu τ - mxu σ) (mx_Z below G P (some (.long r)) σ σ' [.long p0, .long p2] s) (F0 m 11 ls [.long w0]) := by
    intro w0 τ hf _ _ hJ ls hl
    unfold f_X12_most_D11 at hf
    exact my_lret hx hb hr hlocks hJ hf dX12_most_11
  unfold f_X12_most at hf
  refine lv_lload_n hx hb dX12_most_0 rfl (lv_at hl 0 rfl) ?_
  refine lv_lload_n hx hb dX12_most_1 rfl (lv_at hl 1 rfl) ?_
  refine W.lcmp hx hb dX12_most_2 ?_
  refine lv_if_le (tgt := 10) hx hb dX12_most_3 (by decide) (fun c1 => ?_) (fun c1 => ?_)
  · rw [if_pos c1] at hf
    refine lv_lload_n hx hb dX12_most_10 rfl (lv_at hl 1 rfl) ?_
    exact D11 p2 σ hf _ _ hJ ls (lv_sub hl [] rfl)
  · rw [if_neg c1] at hf
    refine lv_lload_n hx hb dX12_most_6 rfl (lv_at hl 0 rfl) ?_
    refine lv_goto (tgt := 11) hx hb dX12_most_7 (by decide) ?_
    exact D11 p0 σ hf _ _ hJ ls (lv_sub hl [] rfl)
set_option maxHeartbeats 4000000 in
set_option maxRecDepth 100000 in
theorem c_X12_multiply (l : Launch) (G : mx_G) (P : mx_P) (a0 : Nat) (p1 : Int32) (p2 : Int32) (p3 : Int32) (σ : mx_S) (σ' : mx_S) (hf : f_X12_multiply P a0 p1 p2 p3 σ = some σ') : mxz σ ≤ mpc P → mxu σ ≤ mps P → mx_M l yX12_multiply cX12_multiply 16 none 2 48 G P [.ref a0, .int p1, .int p2, .int p3] σ none σ' := by
  intro hcap hcau
  refine mx_ofW (by decide +kernel) hcap hcau (Nat.le_of_ble_eq_true rfl) ?_
  intro p e s m below meth c hx hb hr hml hts hown hlocks hname hK hJ ls hl
  have hz0 := hJ.2.1
  have hown : s.vm.findClass RX12 = some m.cls := hown
  have hl : lv_has ls 16 [(0, .ref a0), (1, .int p1), (2, .int p2), (3, .int p3)] := hl
  have D139 : ∀ (w0 : Int32) (w1 : Int64) (w2 : Int64) (w3 : Int32) (w4 : Nat) (τ : mx_S), f_X12_multiply_D139 P w0 w1 w2 w3 w4 τ = some σ' → ∀ (H : Heap) (locs : List Loc), mx_J G P s.heap (mxz σ) (mxu σ) τ H locs → ∀ ls : Array Slot, lv_has ls 16 [] → W p l e (mx_rm P 2 48 σ) s m ([.ref a0, .int p1, .int p2, .int p3] : List Value).toArray below meth c H locs (mxz τ - mxz σ) (mxu τ - mxu σ) (mx_Z below G P none σ σ' [.ref a0, .int p1, .int p2, .int p3] s) (F0 m 139 ls [.int w0, .long w1, .long w2, .int w3, .ref w4]) := by
    intro w0 w1 w2 w3 w4 τ hf _ _ hJ ls hl
    unfold f_X12_multiply_D139 at hf
    obtain ⟨i70, e71, hf⟩ := mb0 hf
    obtain ⟨σ72, e73, hf⟩ := mb0 hf
    refine mx_callV (As := [.int w3, .long w2, .long w1, .int w0]) (rest := []) hx hb hml hts hown hK hJ rfl rfl (ci := 12) rfl e71 (c_X12_box l G P w4 w3 w2 w1 w0 τ σ72 e73) me_X12_box kw_2381 ks_106 kw_2379 (Nat.le_of_ble_eq_true rfl) (Nat.le_of_ble_eq_true rfl) rfl hl.1 rfl (Nat.le_of_ble_eq_true rfl) dX12_multiply_139 (fun H locs hJ => ?_)
    exact my_vret hx hb hr hlocks hJ hf dX12_multiply_142
  have D134 : ∀ (w0 : Int64) (w1 : Int64) (w2 : Int32) (w3 : Nat) (τ : mx_S), f_X12_multiply_D134 P w0 w1 w2 w3 τ = some σ' → ∀ (H : Heap) (locs : List Loc), mx_J G P s.heap (mxz σ) (mxu σ) τ H locs → ∀ ls : Array Slot, lv_has ls 16 [] → W p l e (mx_rm P 2 48 σ) s m ([.ref a0, .int p1, .int p2, .int p3] : List Value).toArray below meth c H locs (mxz τ - mxz σ) (mxu τ - mxu σ) (mx_Z below G P none σ σ' [.ref a0, .int p1, .int p2, .int p3] s) (F0 m 134 ls [.long w0, .long w1, .int w2, .ref w3]) := by
    intro w0 w1 w2 w3 τ hf _ _ hJ ls hl
    unfold f_X12_multiply_D134 at hf
    refine lv_iconst (v := 1) hx hb dX12_multiply_134 (by decide) ?_
    refine lv_goto (tgt := 139) hx hb dX12_multiply_135 (by decide) ?_
    exact D139 (1 : Int32) w0 w1 w2 w3 τ hf _ _ hJ ls (lv_sub hl [] rfl)
  unfold f_X12_multiply at hf
  refine lv_aload_n hx hb dX12_multiply_0 rfl (lv_at hl 0 rfl) ?_
  obtain ⟨b1, e2, hf⟩ := mb0 hf
  refine my_gR hx hb hts hown hK hJ fd_RX12_13 hv_12_11 e2 dX12_multiply_1 ?_
  refine lv_iload_n hx hb dX12_multiply_4 rfl (lv_at hl 2 rfl) ?_
  obtain ⟨x3, e4, hf⟩ := mb0 hf
  refine mx_aL hx hb hK hJ e4 dX12_multiply_5 ?_
  refine lv_aload_n hx hb dX12_multiply_6 rfl (lv_at hl 0 rfl) ?_
  obtain ⟨b5, e6, hf⟩ := mb0 hf
  refine my_gR hx hb hts hown hK hJ fd_RX12_13 hv_12_11 e6 dX12_multiply_7 ?_
  refine lv_iload_n hx hb dX12_multiply_10 rfl (lv_at hl 3 rfl) ?_
  obtain ⟨x7, e8, hf⟩ := mb0 hf
  refine mx_aL hx hb hK hJ e8 dX12_multiply_11 ?_
  refine lv_lmul hx hb dX12_multiply_12 ?_
  obtain ⟨x9, e10, hf⟩ := mb0 hf
  refine mx_nL e10 ?_
  refine lv_lstore (lv' := [(4, .long x9), (0, .ref a0), (1, .int p1), (2, .int p2), (3, .int p3)]) hx hb dX12_multiply_13 hl (by decide) rfl (fun ls hl => ?_)
  refine lv_aload_n hx hb dX12_multiply_15 rfl (lv_at hl 1 rfl) ?_
  obtain ⟨b11, e12, hf⟩ := mb0 hf
  refine my_gR hx hb hts hown hK hJ fd_RX12_13 hv_12_11 e12 dX12_multiply_16 ?_
  refine lv_iload_n hx hb dX12_multiply_19 rfl (lv_at hl 3 rfl) ?_
  obtain ⟨x13, e14, hf⟩ := mb0 hf
  refine mx_aL hx hb hK hJ e14 dX12_multiply_20 ?_
  refine lv_aload_n hx hb dX12_multiply_21 rfl (lv_at hl 1 rfl) ?_
  obtain ⟨b15, e16, hf⟩ := mb0 hf
  refine my_gR hx hb hts hown hK hJ fd_RX12_17 hv_12_12 e16 dX12_multiply_22 ?_
  refine lv_iload_n hx hb dX12_multiply_25 rfl (lv_at hl 4 rfl) ?_
  obtain ⟨x17, e18, hf⟩ := mb0 hf
  refine mx_aL hx hb hK hJ e18 dX12_multiply_26 ?_
  refine lv_lmul hx hb dX12_multiply_27 ?_
  obtain ⟨x19, e20, hf⟩ := mb0 hf
  refine mx_nL e20 ?_
  refine lv_lstore (lv' := [(6, .long x19), (4, .long x9), (0, .ref a0), (1, .int p1), (2, .int p2), (3, .int p3)]) hx hb dX12_multiply_28 hl (by decide) rfl (fun ls hl => ?_)
  refine lv_aload_n hx hb dX12_multiply_30 rfl (lv_at hl 2 rfl) ?_
  obtain ⟨b21, e22, hf⟩ := mb0 hf
  refine my_gR hx hb hts hown hK hJ fd_RX12_17 hv_12_12 e22 dX12_multiply_31 ?_
  refine lv_iload_n hx hb dX12_multiply_34 rfl (lv_at hl 4 rfl) ?_
  obtain ⟨x23, e24, hf⟩ := mb0 hf
  refine mx_aL hx hb hK hJ e24 dX12_multiply_35 ?_
  refine lv_aload_n hx hb dX12_multiply_36 rfl (lv_at hl 2 rfl) ?_
  obtain ⟨b25, e26, hf⟩ := mb0 hf
  refine my_gR hx hb hts hown hK hJ fd_RX12_13 hv_12_11 e26 dX12_multiply_37 ?_
  refine lv_iload_n hx hb dX12_multiply_40 rfl (lv_at hl 5 rfl) ?_
  obtain ⟨x27, e28, hf⟩ := mb0 hf
  refine mx_aL hx hb hK hJ e28 dX12_multiply_41 ?_
  refine lv_lmul hx hb dX12_multiply_42 ?_
  obtain ⟨x29, e30, hf⟩ := mb0 hf
  refine mx_nL e30 ?_
  refine lv_lstore (lv' := [(8, .long x29), (6, .long x19), (4, .long x9), (0, .ref a0), (1, .int p1), (2, .int p2), (3, .int p3)]) hx hb dX12_multiply_43 hl (by decide) rfl (fun ls hl => ?_)
  refine lv_aload_n hx hb dX12_multiply_45 rfl (lv_at hl 3 rfl) ?_
  obtain ⟨b31, e32, hf⟩ := mb0 hf
  refine my_gR hx hb hts hown hK hJ fd_RX12_17 hv_12_12 e32 dX12_multiply_46 ?_
  refine lv_iload_n hx hb dX12_multiply_49 rfl (lv_at hl 5 rfl) ?_
  obtain ⟨x33, e34, hf⟩ := mb0 hf
  refine mx_aL hx hb hK hJ e34 dX12_multiply_50 ?_
  refine lv_aload_n hx hb dX12_multiply_51 rfl (lv_at hl 3 rfl) ?_
  obtain ⟨b35, e36, hf⟩ := mb0 hf
  refine my_gR hx hb hts hown hK hJ fd_RX12_17 hv_12_12 e36 dX12_multiply_52 ?_
  refine lv_iload_n hx hb dX12_multiply_55 rfl (lv_at hl 6 rfl) ?_
  obtain ⟨x37, e38, hf⟩ := mb0 hf
  refine mx_aL hx hb hK hJ e38 dX12_multiply_56 ?_
  refine lv_lmul hx hb dX12_multiply_57 ?_
  obtain ⟨x39, e40, hf⟩ := mb0 hf
  refine mx_nL e40 ?_
  refine lv_lstore (lv' := [(10, .long x39), (8, .long x29), (6, .long x19), (4, .long x9), (0, .ref a0), (1, .int p1), (2, .int p2), (3, .int p3)]) hx hb dX12_multiply_58 hl (by decide) rfl (fun ls hl => ?_)
  refine lv_lload hx hb dX12_multiply_60 (lv_at hl 3 rfl) ?_
  refine lv_lload hx hb dX12_multiply_62 (lv_at hl 2 rfl) ?_
  obtain ⟨x42, σ41, e43, hf⟩ := mc0 hf
  refine mx_callS (As := [.long x9, .long x19]) (rest := []) hx hb hml hts hown hK hJ rfl rfl (c_X12_smaller l G P x9 x19 σ x42 σ41 e43) me_X12_smaller kw_2410 kw_2409 (Nat.le_of_ble_eq_true rfl) (Nat.le_of_ble_eq_true rfl) rfl hl.1 rfl (Nat.le_of_ble_eq_true rfl) dX12_multiply_64 (fun H locs hJ => ?_)
  refine lv_lload hx hb dX12_multiply_67 (lv_at hl 1 rfl) ?_
  refine lv_lload hx hb dX12_multiply_69 (lv_at hl 0 rfl) ?_
  obtain ⟨x45, σ44, e46, hf⟩ := mc0 hf
  refine mx_callS (As := [.long x29, .long x39]) (rest := [.long x42]) hx hb hml hts hown hK hJ rfl rfl (c_X12_smaller l G P x29 x39 σ41 x45 σ44 e46) me_X12_smaller kw_2410 kw_2409 (Nat.le_of_ble_eq_true rfl) (Nat.le_of_ble_eq_true rfl) rfl hl.1 rfl (Nat.le_of_ble_eq_true rfl) dX12_multiply_71 (fun H locs hJ => ?_)
  obtain ⟨x48, σ47, e49, hf⟩ := mc0 hf
  refine mx_callS (As := [.long x42, .long x45]) (rest := []) hx hb hml hts hown hK hJ rfl rfl (c_X12_smaller l G P x42 x45 σ44 x48 σ47 e49) me_X12_smaller kw_2410 kw_2409 (Nat.le_of_ble_eq_true rfl) (Nat.le_of_ble_eq_true rfl) rfl hl.1 rfl (Nat.le_of_ble_eq_true rfl) dX12_multiply_74 (fun H locs hJ => ?_)
  refine lv_lstore (lv' := [(12, .long x48), (10, .long x39), (8, .long x29), (6, .long x19), (4, .long x9), (0, .ref a0), (1, .int p1), (2, .int p2), (3, .int p3)]) hx hb dX12_multiply_77 hl (by decide) rfl (fun ls hl => ?_)
  refine lv_lload hx hb dX12_multiply_79 (lv_at hl 4 rfl) ?_
  refine lv_lload hx hb dX12_multiply_81 (lv_at hl 3 rfl) ?_
  obtain ⟨x51, σ50, e52, hf⟩ := mc0 hf
  refine mx_callS (As := [.long x9, .long x19]) (rest := []) hx hb hml hts hown hK hJ rfl rfl (c_X12_most l G P x9 x19 σ47 x51 σ50 e52) me_X12_most kw_2413 kw_2412 (Nat.le_of_ble_eq_true rfl) (Nat.le_of_ble_eq_true rfl) rfl hl.1 rfl (Nat.le_of_ble_eq_true rfl) dX12_multiply_83 (fun H locs hJ => ?_)
  refine lv_lload hx hb dX12_multiply_86 (lv_at hl 2 rfl) ?_
  refine lv_lload hx hb dX12_multiply_88 (lv_at hl 1 rfl) ?_
  obtain ⟨x54, σ53, e55, hf⟩ := mc0 hf
  refine mx_callS (As := [.long x29, .long x39]) (rest := [.long x51]) hx hb hml hts hown hK hJ rfl rfl (c_X12_most l G P x29 x39 σ50 x54 σ53 e55) me_X12_most kw_2413 kw_2412 (Nat.le_of_ble_eq_true rfl) (Nat.le_of_ble_eq_true rfl) rfl hl.1 rfl (Nat.le_of_ble_eq_true rfl) dX12_multiply_90 (fun H locs hJ => ?_)
  obtain ⟨x57, σ56, e58, hf⟩ := mc0 hf
  refine mx_callS (As := [.long x51, .long x54]) (rest := []) hx hb hml hts hown hK hJ rfl rfl (c_X12_most l G P x51 x54 σ53 x57 σ56 e58) me_X12_most kw_2413 kw_2412 (Nat.le_of_ble_eq_true rfl) (Nat.le_of_ble_eq_true rfl) rfl hl.1 rfl (Nat.le_of_ble_eq_true rfl) dX12_multiply_93 (fun H locs hJ => ?_)
  refine lv_lstore (lv' := [(14, .long x57), (12, .long x48), (10, .long x39), (8, .long x29), (6, .long x19), (4, .long x9), (0, .ref a0), (1, .int p1), (2, .int p2), (3, .int p3)]) hx hb dX12_multiply_96 hl (by decide) rfl (fun ls hl => ?_)
  refine lv_aload_n hx hb dX12_multiply_98 rfl (lv_at hl 6 rfl) ?_
  refine lv_iload_n hx hb dX12_multiply_99 rfl (lv_at hl 7 rfl) ?_
  refine lv_lload hx hb dX12_multiply_100 (lv_at hl 1 rfl) ?_
  refine lv_ldc2 hx hb hown (hts _ kw_2372) dX12_multiply_102 ?_
  obtain ⟨x60, σ59, e61, hf⟩ := mc0 hf
  refine mx_callS (As := [.long x48, .long (65536 : Int64)]) (rest := [.int p1, .ref a0]) hx hb hml hts hown hK hJ rfl rfl (c_X12_down l G P x48 (65536 : Int64) σ56 x60 σ59 e61) me_X12_down kw_2374 kw_2373 (Nat.le_of_ble_eq_true rfl) (Nat.le_of_ble_eq_true rfl) rfl hl.1 rfl (Nat.le_of_ble_eq_true rfl) dX12_multiply_105 (fun H locs hJ => ?_)
  refine lv_lload hx hb dX12_multiply_108 (lv_at hl 0 rfl) ?_
  refine lv_ldc2 hx hb hown (hts _ kw_2372) dX12_multiply_110 ?_
  obtain ⟨x63, σ62, e64, hf⟩ := mc0 hf
  refine mx_callS (As := [.long x57, .long (65536 : Int64)]) (rest := [.long x60, .int p1, .ref a0]) hx hb hml hts hown hK hJ rfl rfl (c_X12_up l G P x57 (65536 : Int64) σ59 x63 σ62 e64) me_X12_up kw_2377 kw_2376 (Nat.le_of_ble_eq_true rfl) (Nat.le_of_ble_eq_true rfl) rfl hl.1 rfl (Nat.le_of_ble_eq_true rfl) dX12_multiply_113 (fun H locs hJ => ?_)
  refine lv_aload_n hx hb dX12_multiply_116 rfl (lv_at hl 6 rfl) ?_
  obtain ⟨b65, e66, hf⟩ := mb0 hf
  refine my_gR hx hb hts hown hK hJ fd_RX12_20 hv_12_13 e66 dX12_multiply_117 ?_
  refine lv_iload_n hx hb dX12_multiply_120 rfl (lv_at hl 8 rfl) ?_
  obtain ⟨x67, e68, hf⟩ := mb0 hf
  refine mx_aZ hx hb hK hJ e68 dX12_multiply_121 ?_
  refine lv_if_ne (tgt := 134) hx hb dX12_multiply_122 (by decide) (fun c69 => ?_) (fun c69 => ?_)
  · rw [if_neg c69] at hf
    exact D134 x63 x60 p1 a0 σ62 hf _ _ hJ ls (lv_sub hl [] rfl)
  · rw [if_pos c69] at hf
    refine lv_aload_n hx hb dX12_multiply_125 rfl (lv_at hl 6 rfl) ?_
    obtain ⟨b74, e75, hf⟩ := mb0 hf
    refine my_gR hx hb hts hown hK hJ fd_RX12_20 hv_12_13 e75 dX12_multiply_126 ?_
    refine lv_iload_n hx hb dX12_multiply_129 rfl (lv_at hl 9 rfl) ?_
    obtain ⟨x76, e77, hf⟩ := mb0 hf
    refine mx_aZ hx hb hK hJ e77 dX12_multiply_130 ?_
    refine lv_if_eq (tgt := 138) hx hb dX12_multiply_131 (by decide) (fun c78 => ?_) (fun c78 => ?_)
    · rw [if_pos c78] at hf
      refine lv_iconst (v := 0) hx hb dX12_multiply_138 (by decide) ?_
      exact D139 (0 : Int32) x63 x60 p1 a0 σ62 hf _ _ hJ ls (lv_sub hl [] rfl)
    · rw [if_neg c78] at hf
      exact D134 x63 x60 p1 a0 σ62 hf _ _ hJ ls (lv_sub hl [] rfl)
set_option maxHeartbeats 4000000 in
set_option maxRecDepth 100000 in
theorem c_X12_square (l : Launch) (G : mx_G) (P : mx_P) (a0 : Nat) (p1 : Int32) (p2 : Int32) (σ : mx_S) (σ' : mx_S) (hf : f_X12_square P a0 p1 p2 σ = some σ') : mxz σ ≤ mpc P → mxu σ ≤ mps P → mx_M l yX12_square cX12_square 9 none 2 48 G P [.ref a0, .int p1, .int p2] σ none σ' := by
  intro hcap hcau
  refine mx_ofW (by decide +kernel) hcap hcau (Nat.le_of_ble_eq_true rfl) ?_
  intro p e s m below meth c hx hb hr hml hts hown hlocks hname hK hJ ls hl
  have hz0 := hJ.2.1
  have hown : s.vm.findClass RX12 = some m.cls := hown
  have hl : lv_has ls 9 [(0, .ref a0), (1, .int p1), (2, .int p2)] := hl
  have D61 : ∀ (v0 : Nat) (v1 : Int32) (v2 : Int32) (v3 : Int64) (v5 : Int64) (w0 : Int64) (τ : mx_S), f_X12_square_D61 P v0 v1 v2 v3 v5 w0 τ = some σ' → ∀ (H : Heap) (locs : List Loc), mx_J G P s.heap (mxz σ) (mxu σ) τ H locs → ∀ ls : Array Slot, lv_has ls 9 [(0, .ref v0), (1, .int v1), (2, .int v2), (3, .long v3), (5, .long v5)] → W p l e (mx_rm P 2 48 σ) s m ([.ref a0, .int p1, .int p2] : List Value).toArray below meth c H locs (mxz τ - mxz σ) (mxu τ - mxu σ) (mx_Z below G P none σ σ' [.ref a0, .int p1, .int p2] s) (F0 m 61 ls [.long w0]) := by
    intro v0 v1 v2 v3 v5 w0 τ hf _ _ hJ ls hl
    unfold f_X12_square_D61 at hf
    refine lv_lstore (lv' := [(7, .long w0), (0, .ref v0), (1, .int v1), (2, .int v2), (3, .long v3), (5, .long v5)]) hx hb dX12_square_61 hl (by decide) rfl (fun ls hl => ?_)
    refine lv_aload_n hx hb dX12_square_63 rfl (lv_at hl 1 rfl) ?_
    refine lv_iload_n hx hb dX12_square_64 rfl (lv_at hl 2 rfl) ?_
    refine lv_lload hx hb dX12_square_65 (lv_at hl 0 rfl) ?_
    refine lv_ldc2 hx hb hown (hts _ kw_2372) dX12_square_67 ?_
    obtain ⟨x30, σ29, e31, hf⟩ := mc0 hf
    refine mx_callS (As := [.long w0, .long (65536 : Int64)]) (rest := [.int v1, .ref v0]) hx hb hml hts hown hK hJ rfl rfl (c_X12_down l G P w0 (65536 : Int64) τ x30 σ29 e31) me_X12_down kw_2374 kw_2373 (Nat.le_of_ble_eq_true rfl) (Nat.le_of_ble_eq_true rfl) rfl hl.1 rfl (Nat.le_of_ble_eq_true rfl) dX12_square_70 (fun H locs hJ => ?_)
    refine lv_lload_n hx hb dX12_square_73 rfl (lv_at hl 4 rfl) ?_
    refine lv_lload hx hb dX12_square_74 (lv_at hl 5 rfl) ?_
    obtain ⟨x33, σ32, e34, hf⟩ := mc0 hf
    refine mx_callS (As := [.long v3, .long v5]) (rest := [.long x30, .int v1, .ref v0]) hx hb hml hts hown hK hJ rfl rfl (c_X12_most l G P v3 v5 σ29 x33 σ32 e34) me_X12_most kw_2413 kw_2412 (Nat.le_of_ble_eq_true rfl) (Nat.le_of_ble_eq_true rfl) rfl hl.1 rfl (Nat.le_of_ble_eq_true rfl) dX12_square_76 (fun H locs hJ => ?_)
    refine lv_ldc2 hx hb hown (hts _ kw_2372) dX12_square_79 ?_
    obtain ⟨x36, σ35, e37, hf⟩ := mc0 hf
    refine mx_callS (As := [.long x33, .long (65536 : Int64)]) (rest := [.long x30, .int v1, .ref v0]) hx hb hml hts hown hK hJ rfl rfl (c_X12_up l G P x33 (65536 : Int64) σ32 x36 σ35 e37) me_X12_up kw_2377 kw_2376 (Nat.le_of_ble_eq_true rfl) (Nat.le_of_ble_eq_true rfl) rfl hl.1 rfl (Nat.le_of_ble_eq_true rfl) dX12_square_82 (fun H locs hJ => ?_)
    refine lv_aload_n hx hb dX12_square_85 rfl (lv_at hl 1 rfl) ?_
    obtain ⟨b38, e39, hf⟩ := mb0 hf
    refine my_gR hx hb hts hown hK hJ fd_RX12_20 hv_12_13 e39 dX12_square_86 ?_
    refine lv_iload_n hx hb dX12_square_89 rfl (lv_at hl 3 rfl) ?_
    obtain ⟨x40, e41, hf⟩ := mb0 hf
    refine mx_aZ hx hb hK hJ e41 dX12_square_90 ?_
    obtain ⟨i42, e43, hf⟩ := mb0 hf
    obtain ⟨σ44, e45, hf⟩ := mb0 hf
    refine mx_callV (As := [.int v1, .long x30, .long x36, .int x40]) (rest := []) hx hb hml hts hown hK hJ rfl rfl (ci := 12) rfl e43 (c_X12_box l G P v0 v1 x30 x36 x40 σ35 σ44 e45) me_X12_box kw_2381 ks_106 kw_2379 (Nat.le_of_ble_eq_true rfl) (Nat.le_of_ble_eq_true rfl) rfl hl.1 rfl (Nat.le_of_ble_eq_true rfl) dX12_square_91 (fun H locs hJ => ?_)
    exact my_vret hx hb hr hlocks hJ hf dX12_square_94
  have D55 : ∀ (v0 : Nat) (v1 : Int32) (v2 : Int32) (v3 : Int64) (v5 : Int64) (τ : mx_S), f_X12_square_D55 P v0 v1 v2 v3 v5 τ = some σ' → ∀ (H : Heap) (locs : List Loc), mx_J G P s.heap (mxz σ) (mxu σ) τ H locs → ∀ ls : Array Slot, lv_has ls 9 [(0, .ref v0), (1, .int v1), (2, .int v2), (3, .long v3), (5, .long v5)] → W p l e (mx_rm P 2 48 σ) s m ([.ref a0, .int p1, .int p2] : List Value).toArray below meth c H locs (mxz τ - mxz σ) (mxu τ - mxu σ) (mx_Z below G P none σ σ' [.ref a0, .int p1, .int p2] s) (F0 m 55 ls []) := by
    intro v0 v1 v2 v3 v5 τ hf _ _ hJ ls hl
    unfold f_X12_square_D55 at hf
    refine lv_lload_n hx hb dX12_square_55 rfl (lv_at hl 3 rfl) ?_
    refine lv_lload hx hb dX12_square_56 (lv_at hl 4 rfl) ?_
    obtain ⟨x27, σ26, e28, hf⟩ := mc0 hf
    refine mx_callS (As := [.long v3, .long v5]) (rest := []) hx hb hml hts hown hK hJ rfl rfl (c_X12_smaller l G P v3 v5 τ x27 σ26 e28) me_X12_smaller kw_2410 kw_2409 (Nat.le_of_ble_eq_true rfl) (Nat.le_of_ble_eq_true rfl) rfl hl.1 rfl (Nat.le_of_ble_eq_true rfl) dX12_square_58 (fun H locs hJ => ?_)
    exact D61 v0 v1 v2 v3 v5 x27 σ26 hf _ _ hJ ls (lv_sub hl [0, 1, 2, 3, 4] rfl)
  unfold f_X12_square at hf
  refine lv_aload_n hx hb dX12_square_0 rfl (lv_at hl 0 rfl) ?_
  obtain ⟨b1, e2, hf⟩ := mb0 hf
  refine my_gR hx hb hts hown hK hJ fd_RX12_13 hv_12_11 e2 dX12_square_1 ?_
  refine lv_iload_n hx hb dX12_square_4 rfl (lv_at hl 2 rfl) ?_
  obtain ⟨x3, e4, hf⟩ := mb0 hf
  refine mx_aL hx hb hK hJ e4 dX12_square_5 ?_
  refine lv_aload_n hx hb dX12_square_6 rfl (lv_at hl 0 rfl) ?_
  obtain ⟨b5, e6, hf⟩ := mb0 hf
  refine my_gR hx hb hts hown hK hJ fd_RX12_13 hv_12_11 e6 dX12_square_7 ?_
  refine lv_iload_n hx hb dX12_square_10 rfl (lv_at hl 2 rfl) ?_
  obtain ⟨x7, e8, hf⟩ := mb0 hf
  refine mx_aL hx hb hK hJ e8 dX12_square_11 ?_
  refine lv_lmul hx hb dX12_square_12 ?_
  obtain ⟨x9, e10, hf⟩ := mb0 hf
  refine mx_nL e10 ?_
  refine lv_lstore_n (lv' := [(3, .long x9), (0, .ref a0), (1, .int p1), (2, .int p2)]) hx hb dX12_square_13 rfl hl (by decide) rfl (fun ls hl => ?_)
  refine lv_aload_n hx hb dX12_square_14 rfl (lv_at hl 1 rfl) ?_
  obtain ⟨b11, e12, hf⟩ := mb0 hf
  refine my_gR hx hb hts hown hK hJ fd_RX12_17 hv_12_12 e12 dX12_square_15 ?_
  refine lv_iload_n hx hb dX12_square_18 rfl (lv_at hl 3 rfl) ?_
  obtain ⟨x13, e14, hf⟩ := mb0 hf
  refine mx_aL hx hb hK hJ e14 dX12_square_19 ?_
  refine lv_aload_n hx hb dX12_square_20 rfl (lv_at hl 1 rfl) ?_
  obtain ⟨b15, e16, hf⟩ := mb0 hf
  refine my_gR hx hb hts hown hK hJ fd_RX12_17 hv_12_12 e16 dX12_square_21 ?_
  refine lv_iload_n hx hb dX12_square_24 rfl (lv_at hl 3 rfl) ?_
  obtain ⟨x17, e18, hf⟩ := mb0 hf
  refine mx_aL hx hb hK hJ e18 dX12_square_25 ?_
  refine lv_lmul hx hb dX12_square_26 ?_
  obtain ⟨x19, e20, hf⟩ := mb0 hf
  refine mx_nL e20 ?_
  refine lv_lstore (lv' := [(5, .long x19), (3, .long x9), (0, .ref a0), (1, .int p1), (2, .int p2)]) hx hb dX12_square_27 hl (by decide) rfl (fun ls hl => ?_)
  refine lv_aload_n hx hb dX12_square_29 rfl (lv_at hl 2 rfl) ?_
  obtain ⟨b21, e22, hf⟩ := mb0 hf
  refine my_gR hx hb hts hown hK hJ fd_RX12_13 hv_12_11 e22 dX12_square_30 ?_
  refine lv_iload_n hx hb dX12_square_33 rfl (lv_at hl 4 rfl) ?_
  obtain ⟨x23, e24, hf⟩ := mb0 hf
  refine mx_aL hx hb hK hJ e24 dX12_square_34 ?_
  refine lv_lconst (v := 0) hx hb dX12_square_35 (by decide) ?_
  refine W.lcmp hx hb dX12_square_36 ?_
  refine lv_if_gt (tgt := 55) hx hb dX12_square_37 (by decide) (fun c25 => ?_) (fun c25 => ?_)
  · rw [if_pos c25] at hf
    exact D55 a0 p1 p2 x9 x19 σ hf _ _ hJ ls (lv_sub hl [2, 3, 4, 1, 0] rfl)
  · rw [if_neg c25] at hf
    refine lv_aload_n hx hb dX12_square_40 rfl (lv_at hl 2 rfl) ?_
    obtain ⟨b46, e47, hf⟩ := mb0 hf
    refine my_gR hx hb hts hown hK hJ fd_RX12_17 hv_12_12 e47 dX12_square_41 ?_
    refine lv_iload_n hx hb dX12_square_44 rfl (lv_at hl 4 rfl) ?_
    obtain ⟨x48, e49, hf⟩ := mb0 hf
    refine mx_aL hx hb hK hJ e49 dX12_square_45 ?_
    refine lv_lconst (v := 0) hx hb dX12_square_46 (by decide) ?_
    refine W.lcmp hx hb dX12_square_47 ?_
    refine lv_if_lt (tgt := 55) hx hb dX12_square_48 (by decide) (fun c50 => ?_) (fun c50 => ?_)
    · rw [if_pos c50] at hf
      exact D55 a0 p1 p2 x9 x19 σ hf _ _ hJ ls (lv_sub hl [2, 3, 4, 1, 0] rfl)
    · rw [if_neg c50] at hf
      refine lv_lconst (v := 0) hx hb dX12_square_51 (by decide) ?_
      refine lv_goto (tgt := 61) hx hb dX12_square_52 (by decide) ?_
      exact D61 a0 p1 p2 x9 x19 (0 : Int64) σ hf _ _ hJ ls (lv_sub hl [2, 3, 4, 1, 0] rfl)
set_option maxHeartbeats 4000000 in
set_option maxRecDepth 100000 in
theorem c_X12_divide (l : Launch) (G : mx_G) (P : mx_P) (a0 : Nat) (p1 : Int32) (p2 : Int32) (p3 : Int32) (σ : mx_S) (σ' : mx_S) (hf : f_X12_divide P a0 p1 p2 p3 σ = some σ') : mxz σ ≤ mpc P → mxu σ ≤ mps P → mx_M l yX12_divide cX12_divide 13 none 2 48 G P [.ref a0, .int p1, .int p2, .int p3] σ none σ' := by
  intro hcap hcau
  refine mx_ofW (by decide +kernel) hcap hcau (Nat.le_of_ble_eq_true rfl) ?_
  intro p e s m below meth c hx hb hr hml hts hown hlocks hname hK hJ ls hl
  have hz0 := hJ.2.1
  have hown : s.vm.findClass RX12 = some m.cls := hown
  have hl : lv_has ls 13 [(0, .ref a0), (1, .int p1), (2, .int p2), (3, .int p3)] := hl
  have D45 : ∀ (v0 : Nat) (v1 : Int32) (v2 : Int32) (v3 : Int32) (w0 : Int32) (τ : mx_S), f_X12_divide_D45 P v0 v1 v2 v3 w0 τ = some σ' → ∀ (H : Heap) (locs : List Loc), mx_J G P s.heap (mxz σ) (mxu σ) τ H locs → ∀ ls : Array Slot, lv_has ls 13 [(0, .ref v0), (1, .int v1), (2, .int v2), (3, .int v3)] → W p l e (mx_rm P 2 48 σ) s m ([.ref a0, .int p1, .int p2, .int p3] : List Value).toArray below meth c H locs (mxz τ - mxz σ) (mxu τ - mxu σ) (mx_Z below G P none σ σ' [.ref a0, .int p1, .int p2, .int p3] s) (F0 m 45 ls [.int w0]) := by
    intro v0 v1 v2 v3 w0 τ hf _ _ hJ ls hl
    unfold f_X12_divide_D45 at hf
    refine lv_istore (lv' := [(4, .int w0), (0, .ref v0), (1, .int v1), (2, .int v2), (3, .int v3)]) hx hb dX12_divide_45 hl (by decide) rfl (fun ls hl => ?_)
    refine lv_iload hx hb dX12_divide_47 (lv_at hl 0 rfl) ?_
    refine lv_if_eq (tgt := 61) hx hb dX12_divide_49 (by decide) (fun c6 => ?_) (fun c6 => ?_)
    · rw [if_pos c6] at hf
      refine lv_ldc2 hx hb hown (hts _ kw_2372) dX12_divide_61 ?_
      refine lv_aload_n hx hb dX12_divide_64 rfl (lv_at hl 1 rfl) ?_
      obtain ⟨b7, e8, hf⟩ := mb0 hf
      refine my_gR hx hb hts hown hK hJ fd_RX12_13 hv_12_11 e8 dX12_divide_65 ?_
      refine lv_iload_n hx hb dX12_divide_68 rfl (lv_at hl 3 rfl) ?_
      obtain ⟨x9, e10, hf⟩ := mb0 hf
      refine mx_aL hx hb hK hJ e10 dX12_divide_69 ?_
      refine lv_lmul hx hb dX12_divide_70 ?_
      obtain ⟨x11, e12, hf⟩ := mb0 hf
      refine mx_nL e12 ?_
      refine lv_lstore (lv' := [(5, .long x11), (4, .int w0), (0, .ref v0), (1, .int v1), (2, .int v2), (3, .int v3)]) hx hb dX12_divide_71 hl (by decide) rfl (fun ls hl => ?_)
      refine lv_ldc2 hx hb hown (hts _ kw_2372) dX12_divide_73 ?_
      refine lv_aload_n hx hb dX12_divide_76 rfl (lv_at hl 2 rfl) ?_
      obtain ⟨b13, e14, hf⟩ := mb0 hf
      refine my_gR hx hb hts hown hK hJ fd_RX12_17 hv_12_12 e14 dX12_divide_77 ?_
      refine lv_iload_n hx hb dX12_divide_80 rfl (lv_at hl 4 rfl) ?_
      obtain ⟨x15, e16, hf⟩ := mb0 hf
      refine mx_aL hx hb hK hJ e16 dX12_divide_81 ?_
      refine lv_lmul hx hb dX12_divide_82 ?_
      obtain ⟨x17, e18, hf⟩ := mb0 hf
      refine mx_nL e18 ?_
      refine lv_lstore (lv' := [(7, .long x17), (5, .long x11), (4, .int w0), (0, .ref v0), (1, .int v1), (2, .int v2), (3, .int v3)]) hx hb dX12_divide_83 hl (by decide) rfl (fun ls hl => ?_)
      refine lv_lload hx hb dX12_divide_85 (lv_at hl 1 rfl) ?_
      refine lv_aload_n hx hb dX12_divide_87 rfl (lv_at hl 3 rfl) ?_
      obtain ⟨b19, e20, hf⟩ := mb0 hf
      refine my_gR hx hb hts hown hK hJ fd_RX12_13 hv_12_11 e20 dX12_divide_88 ?_
      refine lv_iload_n hx hb dX12_divide_91 rfl (lv_at hl 6 rfl) ?_
      obtain ⟨x21, e22, hf⟩ := mb0 hf
      refine mx_aL hx hb hK hJ e22 dX12_divide_92 ?_
      obtain ⟨x24, σ23, e25, hf⟩ := mc0 hf
      refine mx_callS (As := [.long x11, .long x21]) (rest := []) hx hb hml hts hown hK hJ rfl rfl (c_X12_down l G P x11 x21 τ x24 σ23 e25) me_X12_down kw_2374 kw_2373 (Nat.le_of_ble_eq_true rfl) (Nat.le_of_ble_eq_true rfl) rfl hl.1 rfl (Nat.le_of_ble_eq_true rfl) dX12_divide_93 (fun H locs hJ => ?_)
      refine lv_lload hx hb dX12_divide_96 (lv_at hl 1 rfl) ?_
      refine lv_aload_n hx hb dX12_divide_98 rfl (lv_at hl 3 rfl) ?_
      obtain ⟨b26, e27, hf⟩ := mb0 hf
      refine my_gR hx hb hts hown hK hJ fd_RX12_17 hv_12_12 e27 dX12_divide_99 ?_
      refine lv_iload_n hx hb dX12_divide_102 rfl (lv_at hl 6 rfl) ?_
      obtain ⟨x28, e29, hf⟩ := mb0 hf
      refine mx_aL hx hb hK hJ e29 dX12_divide_103 ?_
      obtain ⟨x31, σ30, e32, hf⟩ := mc0 hf
      refine mx_callS (As := [.long x11, .long x28]) (rest := [.long x24]) hx hb hml hts hown hK hJ rfl rfl (c_X12_down l G P x11 x28 σ23 x31 σ30 e32) me_X12_down kw_2374 kw_2373 (Nat.le_of_ble_eq_true rfl) (Nat.le_of_ble_eq_true rfl) rfl hl.1 rfl (Nat.le_of_ble_eq_true rfl) dX12_divide_104 (fun H locs hJ => ?_)
      obtain ⟨x34, σ33, e35, hf⟩ := mc0 hf
      refine mx_callS (As := [.long x24, .long x31]) (rest := []) hx hb hml hts hown hK hJ rfl rfl (c_X12_smaller l G P x24 x31 σ30 x34 σ33 e35) me_X12_smaller kw_2410 kw_2409 (Nat.le_of_ble_eq_true rfl) (Nat.le_of_ble_eq_true rfl) rfl hl.1 rfl (Nat.le_of_ble_eq_true rfl) dX12_divide_107 (fun H locs hJ => ?_)
      refine lv_lload hx hb dX12_divide_110 (lv_at hl 0 rfl) ?_
      refine lv_aload_n hx hb dX12_divide_112 rfl (lv_at hl 3 rfl) ?_
      obtain ⟨b36, e37, hf⟩ := mb0 hf
      refine my_gR hx hb hts hown hK hJ fd_RX12_13 hv_12_11 e37 dX12_divide_113 ?_
      refine lv_iload_n hx hb dX12_divide_116 rfl (lv_at hl 6 rfl) ?_
      obtain ⟨x38, e39, hf⟩ := mb0 hf
      refine mx_aL hx hb hK hJ e39 dX12_divide_117 ?_
      obtain ⟨x41, σ40, e42, hf⟩ := mc0 hf
      refine mx_callS (As := [.long x17, .long x38]) (rest := [.long x34]) hx hb hml hts hown hK hJ rfl rfl (c_X12_down l G P x17 x38 σ33 x41 σ40 e42) me_X12_down kw_2374 kw_2373 (Nat.le_of_ble_eq_true rfl) (Nat.le_of_ble_eq_true rfl) rfl hl.1 rfl (Nat.le_of_ble_eq_true rfl) dX12_divide_118 (fun H locs hJ => ?_)
      refine lv_lload hx hb dX12_divide_121 (lv_at hl 0 rfl) ?_
      refine lv_aload_n hx hb dX12_divide_123 rfl (lv_at hl 3 rfl) ?_
      obtain ⟨b43, e44, hf⟩ := mb0 hf
      refine my_gR hx hb hts hown hK hJ fd_RX12_17 hv_12_12 e44 dX12_divide_124 ?_
      refine lv_iload_n hx hb dX12_divide_127 rfl (lv_at hl 6 rfl) ?_
      obtain ⟨x45, e46, hf⟩ := mb0 hf
      refine mx_aL hx hb hK hJ e46 dX12_divide_128 ?_
      obtain ⟨x48, σ47, e49, hf⟩ := mc0 hf
      refine mx_callS (As := [.long x17, .long x45]) (rest := [.long x41, .long x34]) hx hb hml hts hown hK hJ rfl rfl (c_X12_down l G P x17 x45 σ40 x48 σ47 e49) me_X12_down kw_2374 kw_2373 (Nat.le_of_ble_eq_true rfl) (Nat.le_of_ble_eq_true rfl) rfl hl.1 rfl (Nat.le_of_ble_eq_true rfl) dX12_divide_129 (fun H locs hJ => ?_)
      obtain ⟨x51, σ50, e52, hf⟩ := mc0 hf
      refine mx_callS (As := [.long x41, .long x48]) (rest := [.long x34]) hx hb hml hts hown hK hJ rfl rfl (c_X12_smaller l G P x41 x48 σ47 x51 σ50 e52) me_X12_smaller kw_2410 kw_2409 (Nat.le_of_ble_eq_true rfl) (Nat.le_of_ble_eq_true rfl) rfl hl.1 rfl (Nat.le_of_ble_eq_true rfl) dX12_divide_132 (fun H locs hJ => ?_)
      obtain ⟨x54, σ53, e55, hf⟩ := mc0 hf
      refine mx_callS (As := [.long x34, .long x51]) (rest := []) hx hb hml hts hown hK hJ rfl rfl (c_X12_smaller l G P x34 x51 σ50 x54 σ53 e55) me_X12_smaller kw_2410 kw_2409 (Nat.le_of_ble_eq_true rfl) (Nat.le_of_ble_eq_true rfl) rfl hl.1 rfl (Nat.le_of_ble_eq_true rfl) dX12_divide_135 (fun H locs hJ => ?_)
      refine lv_lstore (lv' := [(9, .long x54), (7, .long x17), (5, .long x11), (4, .int w0), (0, .ref v0), (1, .int v1), (2, .int v2), (3, .int v3)]) hx hb dX12_divide_138 hl (by decide) rfl (fun ls hl => ?_)
      refine lv_lload hx hb dX12_divide_140 (lv_at hl 2 rfl) ?_
      refine lv_aload_n hx hb dX12_divide_142 rfl (lv_at hl 4 rfl) ?_
      obtain ⟨b56, e57, hf⟩ := mb0 hf
      refine my_gR hx hb hts hown hK hJ fd_RX12_13 hv_12_11 e57 dX12_divide_143 ?_
      refine lv_iload_n hx hb dX12_divide_146 rfl (lv_at hl 7 rfl) ?_
      obtain ⟨x58, e59, hf⟩ := mb0 hf
      refine mx_aL hx hb hK hJ e59 dX12_divide_147 ?_
      obtain ⟨x61, σ60, e62, hf⟩ := mc0 hf
      refine mx_callS (As := [.long x11, .long x58]) (rest := []) hx hb hml hts hown hK hJ rfl rfl (c_X12_up l G P x11 x58 σ53 x61 σ60 e62) me_X12_up kw_2377 kw_2376 (Nat.le_of_ble_eq_true rfl) (Nat.le_of_ble_eq_true rfl) rfl hl.1 rfl (Nat.le_of_ble_eq_true rfl) dX12_divide_148 (fun H locs hJ => ?_)
      refine lv_lload hx hb dX12_divide_151 (lv_at hl 2 rfl) ?_
      refine lv_aload_n hx hb dX12_divide_153 rfl (lv_at hl 4 rfl) ?_
      obtain ⟨b63, e64, hf⟩ := mb0 hf
      refine my_gR hx hb hts hown hK hJ fd_RX12_17 hv_12_12 e64 dX12_divide_154 ?_
      refine lv_iload_n hx hb dX12_divide_157 rfl (lv_at hl 7 rfl) ?_
      obtain ⟨x65, e66, hf⟩ := mb0 hf
      refine mx_aL hx hb hK hJ e66 dX12_divide_158 ?_
      obtain ⟨x68, σ67, e69, hf⟩ := mc0 hf
      refine mx_callS (As := [.long x11, .long x65]) (rest := [.long x61]) hx hb hml hts hown hK hJ rfl rfl (c_X12_up l G P x11 x65 σ60 x68 σ67 e69) me_X12_up kw_2377 kw_2376 (Nat.le_of_ble_eq_true rfl) (Nat.le_of_ble_eq_true rfl) rfl hl.1 rfl (Nat.le_of_ble_eq_true rfl) dX12_divide_159 (fun H locs hJ => ?_)
      obtain ⟨x71, σ70, e72, hf⟩ := mc0 hf
      refine mx_callS (As := [.long x61, .long x68]) (rest := []) hx hb hml hts hown hK hJ rfl rfl (c_X12_most l G P x61 x68 σ67 x71 σ70 e72) me_X12_most kw_2413 kw_2412 (Nat.le_of_ble_eq_true rfl) (Nat.le_of_ble_eq_true rfl) rfl hl.1 rfl (Nat.le_of_ble_eq_true rfl) dX12_divide_162 (fun H locs hJ => ?_)
      refine lv_lload hx hb dX12_divide_165 (lv_at hl 1 rfl) ?_
      refine lv_aload_n hx hb dX12_divide_167 rfl (lv_at hl 4 rfl) ?_
      obtain ⟨b73, e74, hf⟩ := mb0 hf
      refine my_gR hx hb hts hown hK hJ fd_RX12_13 hv_12_11 e74 dX12_divide_168 ?_
      refine lv_iload_n hx hb dX12_divide_171 rfl (lv_at hl 7 rfl) ?_
      obtain ⟨x75, e76, hf⟩ := mb0 hf
      refine mx_aL hx hb hK hJ e76 dX12_divide_172 ?_
      obtain ⟨x78, σ77, e79, hf⟩ := mc0 hf
      refine mx_callS (As := [.long x17, .long x75]) (rest := [.long x71]) hx hb hml hts hown hK hJ rfl rfl (c_X12_up l G P x17 x75 σ70 x78 σ77 e79) me_X12_up kw_2377 kw_2376 (Nat.le_of_ble_eq_true rfl) (Nat.le_of_ble_eq_true rfl) rfl hl.1 rfl (Nat.le_of_ble_eq_true rfl) dX12_divide_173 (fun H locs hJ => ?_)
      refine lv_lload hx hb dX12_divide_176 (lv_at hl 1 rfl) ?_
      refine lv_aload_n hx hb dX12_divide_178 rfl (lv_at hl 4 rfl) ?_
      obtain ⟨b80, e81, hf⟩ := mb0 hf
      refine my_gR hx hb hts hown hK hJ fd_RX12_17 hv_12_12 e81 dX12_divide_179 ?_
      refine lv_iload_n hx hb dX12_divide_182 rfl (lv_at hl 7 rfl) ?_
      obtain ⟨x82, e83, hf⟩ := mb0 hf
      refine mx_aL hx hb hK hJ e83 dX12_divide_183 ?_
      obtain ⟨x85, σ84, e86, hf⟩ := mc0 hf
      refine mx_callS (As := [.long x17, .long x82]) (rest := [.long x78, .long x71]) hx hb hml hts hown hK hJ rfl rfl (c_X12_up l G P x17 x82 σ77 x85 σ84 e86) me_X12_up kw_2377 kw_2376 (Nat.le_of_ble_eq_true rfl) (Nat.le_of_ble_eq_true rfl) rfl hl.1 rfl (Nat.le_of_ble_eq_true rfl) dX12_divide_184 (fun H locs hJ => ?_)
      obtain ⟨x88, σ87, e89, hf⟩ := mc0 hf
      refine mx_callS (As := [.long x78, .long x85]) (rest := [.long x71]) hx hb hml hts hown hK hJ rfl rfl (c_X12_most l G P x78 x85 σ84 x88 σ87 e89) me_X12_most kw_2413 kw_2412 (Nat.le_of_ble_eq_true rfl) (Nat.le_of_ble_eq_true rfl) rfl hl.1 rfl (Nat.le_of_ble_eq_true rfl) dX12_divide_187 (fun H locs hJ => ?_)
      obtain ⟨x91, σ90, e92, hf⟩ := mc0 hf
      refine mx_callS (As := [.long x71, .long x88]) (rest := []) hx hb hml hts hown hK hJ rfl rfl (c_X12_most l G P x71 x88 σ87 x91 σ90 e92) me_X12_most kw_2413 kw_2412 (Nat.le_of_ble_eq_true rfl) (Nat.le_of_ble_eq_true rfl) rfl hl.1 rfl (Nat.le_of_ble_eq_true rfl) dX12_divide_190 (fun H locs hJ => ?_)
      refine lv_lstore (lv' := [(11, .long x91), (9, .long x54), (7, .long x17), (5, .long x11), (4, .int w0), (0, .ref v0), (1, .int v1), (2, .int v2), (3, .int v3)]) hx hb dX12_divide_193 hl (by decide) rfl (fun ls hl => ?_)
      refine lv_aload_n hx hb dX12_divide_195 rfl (lv_at hl 5 rfl) ?_
      refine lv_iload_n hx hb dX12_divide_196 rfl (lv_at hl 6 rfl) ?_
      refine lv_lload hx hb dX12_divide_197 (lv_at hl 1 rfl) ?_
      refine lv_lload hx hb dX12_divide_199 (lv_at hl 0 rfl) ?_
      refine lv_iconst (v := 0) hx hb dX12_divide_201 (by decide) ?_
      obtain ⟨i93, e94, hf⟩ := mb0 hf
      obtain ⟨σ95, e96, hf⟩ := mb0 hf
      refine mx_callV (As := [.int v1, .long x54, .long x91, .int (0 : Int32)]) (rest := []) hx hb hml hts hown hK hJ rfl rfl (ci := 12) rfl e94 (c_X12_box l G P v0 v1 x54 x91 (0 : Int32) σ90 σ95 e96) me_X12_box kw_2381 ks_106 kw_2379 (Nat.le_of_ble_eq_true rfl) (Nat.le_of_ble_eq_true rfl) rfl hl.1 rfl (Nat.le_of_ble_eq_true rfl) dX12_divide_202 (fun H locs hJ => ?_)
      exact my_vret hx hb hr hlocks hJ hf dX12_divide_205
    · rw [if_neg c6] at hf
      refine lv_aload_n hx hb dX12_divide_52 rfl (lv_at hl 1 rfl) ?_
      refine lv_iload_n hx hb dX12_divide_53 rfl (lv_at hl 2 rfl) ?_
      refine lv_lconst (v := 0) hx hb dX12_divide_54 (by decide) ?_
      refine lv_lconst (v := 0) hx hb dX12_divide_55 (by decide) ?_
      refine lv_iconst (v := 1) hx hb dX12_divide_56 (by decide) ?_
      obtain ⟨i97, e98, hf⟩ := mb0 hf
      obtain ⟨σ99, e100, hf⟩ := mb0 hf
      refine mx_callV (As := [.int v1, .long (0 : Int64), .long (0 : Int64), .int (1 : Int32)]) (rest := []) hx hb hml hts hown hK hJ rfl rfl (ci := 12) rfl e98 (c_X12_box l G P v0 v1 (0 : Int64) (0 : Int64) (1 : Int32) τ σ99 e100) me_X12_box kw_2381 ks_106 kw_2379 (Nat.le_of_ble_eq_true rfl) (Nat.le_of_ble_eq_true rfl) rfl hl.1 rfl (Nat.le_of_ble_eq_true rfl) dX12_divide_57 (fun H locs hJ => ?_)
      exact my_vret hx hb hr hlocks hJ hf dX12_divide_60
  have D40 : ∀ (v0 : Nat) (v1 : Int32) (v2 : Int32) (v3 : Int32) (τ : mx_S), f_X12_divide_D40 P v0 v1 v2 v3 τ = some σ' → ∀ (H : Heap) (locs : List Loc), mx_J G P s.heap (mxz σ) (mxu σ) τ H locs → ∀ ls : Array Slot, lv_has ls 13 [(0, .ref v0), (1, .int v1), (2, .int v2), (3, .int v3)] → W p l e (mx_rm P 2 48 σ) s m ([.ref a0, .int p1, .int p2, .int p3] : List Value).toArray below meth c H locs (mxz τ - mxz σ) (mxu τ - mxu σ) (mx_Z below G P none σ σ' [.ref a0, .int p1, .int p2, .int p3] s) (F0 m 40 ls []) := by
    intro v0 v1 v2 v3 τ hf _ _ hJ ls hl
    unfold f_X12_divide_D40 at hf
    refine lv_iconst (v := 1) hx hb dX12_divide_40 (by decide) ?_
    refine lv_goto (tgt := 45) hx hb dX12_divide_41 (by decide) ?_
    exact D45 v0 v1 v2 v3 (1 : Int32) τ hf _ _ hJ ls (lv_sub hl [0, 1, 2, 3] rfl)
  have D44 : ∀ (v0 : Nat) (v1 : Int32) (v2 : Int32) (v3 : Int32) (τ : mx_S), f_X12_divide_D44 P v0 v1 v2 v3 τ = some σ' → ∀ (H : Heap) (locs : List Loc), mx_J G P s.heap (mxz σ) (mxu σ) τ H locs → ∀ ls : Array Slot, lv_has ls 13 [(0, .ref v0), (1, .int v1), (2, .int v2), (3, .int v3)] → W p l e (mx_rm P 2 48 σ) s m ([.ref a0, .int p1, .int p2, .int p3] : List Value).toArray below meth c H locs (mxz τ - mxz σ) (mxu τ - mxu σ) (mx_Z below G P none σ σ' [.ref a0, .int p1, .int p2, .int p3] s) (F0 m 44 ls []) := by
    intro v0 v1 v2 v3 τ hf _ _ hJ ls hl
    unfold f_X12_divide_D44 at hf
    refine lv_iconst (v := 0) hx hb dX12_divide_44 (by decide) ?_
    exact D45 v0 v1 v2 v3 (0 : Int32) τ hf _ _ hJ ls (lv_sub hl [0, 1, 2, 3] rfl)
  unfold f_X12_divide at hf
  refine lv_aload_n hx hb dX12_divide_0 rfl (lv_at hl 0 rfl) ?_
  obtain ⟨b1, e2, hf⟩ := mb0 hf
  refine my_gR hx hb hts hown hK hJ fd_RX12_20 hv_12_13 e2 dX12_divide_1 ?_
  refine lv_iload_n hx hb dX12_divide_4 rfl (lv_at hl 2 rfl) ?_
  obtain ⟨x3, e4, hf⟩ := mb0 hf
  refine mx_aZ hx hb hK hJ e4 dX12_divide_5 ?_
  refine lv_if_ne (tgt := 40) hx hb dX12_divide_6 (by decide) (fun c5 => ?_) (fun c5 => ?_)
  · rw [if_neg c5] at hf
    exact D40 a0 p1 p2 p3 σ hf _ _ hJ ls (lv_sub hl [0, 1, 2, 3] rfl)
  · rw [if_pos c5] at hf
    refine lv_aload_n hx hb dX12_divide_9 rfl (lv_at hl 0 rfl) ?_
    obtain ⟨b101, e102, hf⟩ := mb0 hf
    refine my_gR hx hb hts hown hK hJ fd_RX12_20 hv_12_13 e102 dX12_divide_10 ?_
    refine lv_iload_n hx hb dX12_divide_13 rfl (lv_at hl 3 rfl) ?_
    obtain ⟨x103, e104, hf⟩ := mb0 hf
    refine mx_aZ hx hb hK hJ e104 dX12_divide_14 ?_
    refine lv_if_ne (tgt := 40) hx hb dX12_divide_15 (by decide) (fun c105 => ?_) (fun c105 => ?_)
    · rw [if_neg c105] at hf
      exact D40 a0 p1 p2 p3 σ hf _ _ hJ ls (lv_sub hl [0, 1, 2, 3] rfl)
    · rw [if_pos c105] at hf
      refine lv_aload_n hx hb dX12_divide_18 rfl (lv_at hl 0 rfl) ?_
      obtain ⟨b106, e107, hf⟩ := mb0 hf
      refine my_gR hx hb hts hown hK hJ fd_RX12_13 hv_12_11 e107 dX12_divide_19 ?_
      refine lv_iload_n hx hb dX12_divide_22 rfl (lv_at hl 3 rfl) ?_
      obtain ⟨x108, e109, hf⟩ := mb0 hf
      refine mx_aL hx hb hK hJ e109 dX12_divide_23 ?_
      refine lv_lconst (v := 0) hx hb dX12_divide_24 (by decide) ?_
      refine W.lcmp hx hb dX12_divide_25 ?_
      refine lv_if_gt (tgt := 44) hx hb dX12_divide_26 (by decide) (fun c110 => ?_) (fun c110 => ?_)
      · rw [if_pos c110] at hf
        exact D44 a0 p1 p2 p3 σ hf _ _ hJ ls (lv_sub hl [0, 1, 2, 3] rfl)
      · rw [if_neg c110] at hf
        refine lv_aload_n hx hb dX12_divide_29 rfl (lv_at hl 0 rfl) ?_
        obtain ⟨b111, e112, hf⟩ := mb0 hf
        refine my_gR hx hb hts hown hK hJ fd_RX12_17 hv_12_12 e112 dX12_divide_30 ?_
        refine lv_iload_n hx hb dX12_divide_33 rfl (lv_at hl 3 rfl) ?_
        obtain ⟨x113, e114, hf⟩ := mb0 hf
        refine mx_aL hx hb hK hJ e114 dX12_divide_34 ?_
        refine lv_lconst (v := 0) hx hb dX12_divide_35 (by decide) ?_
        refine W.lcmp hx hb dX12_divide_36 ?_
        refine lv_if_lt (tgt := 44) hx hb dX12_divide_37 (by decide) (fun c115 => ?_) (fun c115 => ?_)
        · rw [if_pos c115] at hf
          exact D44 a0 p1 p2 p3 σ hf _ _ hJ ls (lv_sub hl [0, 1, 2, 3] rfl)
        · rw [if_neg c115] at hf
          exact D40 a0 p1 p2 p3 σ hf _ _ hJ ls (lv_sub hl [0, 1, 2, 3] rfl)
set_option maxHeartbeats 4000000 in
set_option maxRecDepth 100000 in
theorem c_X12_root (l : Launch) (G : mx_G) (P : mx_P) (p0 : Int64) (σ : mx_S) (r : Int64) (σ' : mx_S) (hf : f_X12_root P p0 σ = some (r, σ')) : mxz σ ≤ mpc P → mxu σ ≤ mps P → mx_M l yX12_root cX12_root 6 (some .long) 0 0 G P [.long p0] σ (some (.long r)) σ' := by
  intro hcap hcau
  refine mx_ofW (by decide +kernel) hcap hcau (Nat.le_of_ble_eq_true rfl) ?_
  intro p e s m below meth c hx hb hr hml hts hown hlocks hname hK hJ ls hl
  have hz0 := hJ.2.1
  have hown : s.vm.findClass RX12 = some m.cls := hown
  have hl : lv_has ls 6 [(0, .long p0)] := hl
  have D33_7 : ∀ (v0 : Int64) (v2 : Int64) (v4 : Int64) (τ : mx_S) (o : (Int64 × Int64 × mx_S) ⊕ ((Int64 × mx_S))), f_X12_root_D33_7 P v0 v2 v4 τ = some o → (∀ (y2 : Int64) (y4 : Int64) (υ : mx_S), o = .inl (y2, y4, υ) → ∀ (H : Heap) (locs : List Loc), mx_J G P s.heap (mxz σ) (mxu σ) υ H locs → ∀ ls : Array Slot, lv_has ls 6 [(0, .long v0), (2, .long y2), (4, .long y4)] → W p l e (mx_rm P 0 0 σ) s m ([.long p0] : List Value).toArray below meth c H locs (mxz υ - mxz σ) (mxu υ - mxu σ) (mx_Z below G P (some (.long r)) σ σ' [.long p0] s) (F0 m 7 ls [])) → (∀ (y2 : Int64) (υ : mx_S), o = .inr (y2, υ) → ∀ (H : Heap) (locs : List Loc), mx_J G P s.heap (mxz σ) (mxu σ) υ H locs → ∀ ls : Array Slot, lv_has ls 6 [(2, .long y2)] → W p l e (mx_rm P 0 0 σ) s m ([.long p0] : List Value).toArray below meth c H locs (mxz υ - mxz σ) (mxu υ - mxu σ) (mx_Z below G P (some (.long r)) σ σ' [.long p0] s) (F0 m 44 ls [])) → ∀ (H : Heap) (locs : List Loc), mx_J G P s.heap (mxz σ) (mxu σ) τ H locs → ∀ ls : Array Slot, lv_has ls 6 [(0, .long v0), (2, .long v2), (4, .long v4)] → W p l e (mx_rm P 0 0 σ) s m ([.long p0] : List Value).toArray below meth c H locs (mxz τ - mxz σ) (mxu τ - mxu σ) (mx_Z below G P (some (.long r)) σ σ' [.long p0] s) (F0 m 33 ls []) := by
    intro v0 v2 v4 τ o hf Kb Ke0 H locs hJ ls hl
    unfold f_X12_root_D33_7 at hf
    refine lv_lload hx hb dX12_root_33 (lv_at hl 2 rfl) ?_
    refine lv_ldc2 hx hb hown (hts _ kw_2447) dX12_root_35 ?_
    obtain ⟨x3, e4, hf⟩ := mb0 hf
    refine lv_ldiv hx hb dX12_root_38 (md_Ls e4).1 ?_
    refine mx_eL (md_Ls e4).2 ?_
    refine lv_lstore (lv' := [(4, .long x3), (0, .long v0), (2, .long v2)]) hx hb dX12_root_39 hl (by decide) rfl (fun ls hl => ?_)
    refine lv_goto (tgt := 7) hx hb dX12_root_41 (by decide) ?_
    exact Kb v2 x3 τ (Option.some.inj hf).symm _ _ hJ ls (lv_sub hl [1, 2, 0] rfl)
  have B7 : ∀ (v0 : Int64) (v2 : Int64) (v4 : Int64) (τ : mx_S) (o : (Int64 × Int64 × mx_S) ⊕ ((Int64 × mx_S))), f_X12_root_B7 P v0 v2 v4 τ = some o → (∀ (y2 : Int64) (y4 : Int64) (υ : mx_S), o = .inl (y2, y4, υ) → ∀ (H : Heap) (locs : List Loc), mx_J G P s.heap (mxz σ) (mxu σ) υ H locs → ∀ ls : Array Slot, lv_has ls 6 [(0, .long v0), (2, .long y2), (4, .long y4)] → W p l e (mx_rm P 0 0 σ) s m ([.long p0] : List Value).toArray below meth c H locs (mxz υ - mxz σ) (mxu υ - mxu σ) (mx_Z below G P (some (.long r)) σ σ' [.long p0] s) (F0 m 7 ls [])) → (∀ (y2 : Int64) (υ : mx_S), o = .inr (y2, υ) → ∀ (H : Heap) (locs : List Loc), mx_J G P s.heap (mxz σ) (mxu σ) υ H locs → ∀ ls : Array Slot, lv_has ls 6 [(2, .long y2)] → W p l e (mx_rm P 0 0 σ) s m ([.long p0] : List Value).toArray below meth c H locs (mxz υ - mxz σ) (mxu υ - mxu σ) (mx_Z below G P (some (.long r)) σ σ' [.long p0] s) (F0 m 44 ls [])) → ∀ (H : Heap) (locs : List Loc), mx_J G P s.heap (mxz σ) (mxu σ) τ H locs → ∀ ls : Array Slot, lv_has ls 6 [(0, .long v0), (2, .long v2), (4, .long v4)] → W p l e (mx_rm P 0 0 σ) s m ([.long p0] : List Value).toArray below meth c H locs (mxz τ - mxz σ) (mxu τ - mxu σ) (mx_Z below G P (some (.long r)) σ σ' [.long p0] s) (F0 m 7 ls []) := by
    intro v0 v2 v4 τ o hf Kb Ke0 H locs hJ ls hl
    unfold f_X12_root_B7 at hf
    refine lv_lload hx hb dX12_root_7 (lv_at hl 2 rfl) ?_
    refine lv_lconst (v := 0) hx hb dX12_root_9 (by decide) ?_
    refine W.lcmp hx hb dX12_root_10 ?_
    refine lv_if_le (tgt := 44) hx hb dX12_root_11 (by decide) (fun c1 => ?_) (fun c1 => ?_)
    · rw [if_pos c1] at hf
      exact Ke0 v2 τ (Option.some.inj hf).symm _ _ hJ ls (lv_sub hl [1] rfl)
    · rw [if_neg c1] at hf
      refine lv_lload_n hx hb dX12_root_14 rfl (lv_at hl 1 rfl) ?_
      refine lv_lload hx hb dX12_root_15 (lv_at hl 2 rfl) ?_
      refine lv_ladd hx hb dX12_root_17 ?_
      refine lv_lload_n hx hb dX12_root_18 rfl (lv_at hl 1 rfl) ?_
      refine lv_lload hx hb dX12_root_19 (lv_at hl 2 rfl) ?_
      refine lv_ladd hx hb dX12_root_21 ?_
      refine lv_lmul hx hb dX12_root_22 ?_
      refine lv_lload_n hx hb dX12_root_23 rfl (lv_at hl 0 rfl) ?_
      refine W.lcmp hx hb dX12_root_24 ?_
      refine lv_if_gt (tgt := 33) hx hb dX12_root_25 (by decide) (fun c2 => ?_) (fun c2 => ?_)
      · rw [if_pos c2] at hf
        exact D33_7 v0 v2 v4 τ o hf Kb Ke0 _ _ hJ ls (lv_sub hl [0, 1, 2] rfl)
      · rw [if_neg c2] at hf
        refine lv_lload_n hx hb dX12_root_28 rfl (lv_at hl 1 rfl) ?_
        refine lv_lload hx hb dX12_root_29 (lv_at hl 2 rfl) ?_
        refine lv_ladd hx hb dX12_root_31 ?_
        obtain ⟨x5, e6, hf⟩ := mb0 hf
        refine mx_nL e6 ?_
        refine lv_lstore_n (lv' := [(2, .long x5), (0, .long v0), (4, .long v4)]) hx hb dX12_root_32 rfl hl (by decide) rfl (fun ls hl => ?_)
        exact D33_7 v0 x5 v4 τ o hf Kb Ke0 _ _ hJ ls (lv_sub hl [1, 0, 2] rfl)
  have L7 : ∀ (v0 : Int64) (n : Nat) (v2 : Int64) (v4 : Int64) (τ : mx_S) (o : (Int64 × mx_S)), mx_lp (f_X12_root_L7 P v0) n (v2, v4, τ) = some o → (∀ (y2 : Int64) (υ : mx_S), o = (y2, υ) → ∀ (H : Heap) (locs : List Loc), mx_J G P s.heap (mxz σ) (mxu σ) υ H locs → ∀ ls : Array Slot, lv_has ls 6 [(2, .long y2)] → W p l e (mx_rm P 0 0 σ) s m ([.long p0] : List Value).toArray below meth c H locs (mxz υ - mxz σ) (mxu υ - mxu σ) (mx_Z below G P (some (.long r)) σ σ' [.long p0] s) (F0 m 44 ls [])) → ∀ (H : Heap) (locs : List Loc), mx_J G P s.heap (mxz σ) (mxu σ) τ H locs → ∀ ls : Array Slot, lv_has ls 6 [(0, .long v0), (2, .long v2), (4, .long v4)] → W p l e (mx_rm P 0 0 σ) s m ([.long p0] : List Value).toArray below meth c H locs (mxz τ - mxz σ) (mxu τ - mxu σ) (mx_Z below G P (some (.long r)) σ σ' [.long p0] s) (F0 m 7 ls []) := by
    intro v0 n
    induction n with
    | zero =>
      intro v2 v4 τ o hf
      rw [mx_lp0] at hf
      cases hf
    | succ n ih =>
      intro v2 v4 τ o hf Ke0 H locs hJ ls hl
      rw [mx_lpS] at hf
      obtain ⟨b, eb, hf⟩ := mb0 hf
      refine B7 v0 v2 v4 τ b eb (fun y2 y4 υ ho H locs hJ ls hl => ?_) (fun y2 υ ho H locs hJ ls hl => ?_) H locs hJ ls hl
      · subst ho
        exact ih y2 y4 υ o hf Ke0 H locs hJ ls hl
      · subst ho
        exact Ke0 y2 υ (Option.some.inj hf).symm _ _ hJ ls hl
  unfold f_X12_root at hf
  refine lv_lconst (v := 0) hx hb dX12_root_0 (by decide) ?_
  refine lv_lstore_n (lv' := [(2, .long (0 : Int64)), (0, .long p0)]) hx hb dX12_root_1 rfl hl (by decide) rfl (fun ls hl => ?_)
  refine lv_ldc2 hx hb hown (hts _ kw_2383) dX12_root_2 ?_
  refine lv_lstore (lv' := [(4, .long (2147483648 : Int64)), (2, .long (0 : Int64)), (0, .long p0)]) hx hb dX12_root_5 hl (by decide) rfl (fun ls hl => ?_)
  obtain ⟨o7, e8, hf⟩ := mb0 hf
  refine L7 p0 (mpN P) (0 : Int64) (2147483648 : Int64) σ o7 e8 (fun y9 σ10 ho H locs hJ ls hl => ?_) _ _ hJ ls (lv_sub hl [2, 1, 0] rfl)
  · rw [ho] at hf
    have hf : (some (y9, σ10)) = some (r, σ') := hf
    refine lv_lload_n hx hb dX12_root_44 rfl (lv_at hl 0 rfl) ?_
    exact my_lret hx hb hr hlocks hJ hf dX12_root_45
set_option maxHeartbeats 4000000 in
set_option maxRecDepth 100000 in
theorem c_X12_rootOf (l : Launch) (G : mx_G) (P : mx_P) (a0 : Nat) (p1 : Int32) (p2 : Int32) (σ : mx_S) (σ' : mx_S) (hf : f_X12_rootOf P a0 p1 p2 σ = some σ') : mxz σ ≤ mpc P → mxu σ ≤ mps P → mx_M l yX12_rootOf cX12_rootOf 7 none 2 47 G P [.ref a0, .int p1, .int p2] σ none σ' := by
  intro hcap hcau
  refine mx_ofW (by decide +kernel) hcap hcau (Nat.le_of_ble_eq_true rfl) ?_
  intro p e s m below meth c hx hb hr hml hts hown hlocks hname hK hJ ls hl
  have hz0 := hJ.2.1
  have hown : s.vm.findClass RX12 = some m.cls := hown
  have hl : lv_has ls 7 [(0, .ref a0), (1, .int p1), (2, .int p2)] := hl
  have D72 : ∀ (v0 : Nat) (v1 : Int32) (v3 : Int64) (v5 : Int64) (τ : mx_S), f_X12_rootOf_D72 P v0 v1 v3 v5 τ = some σ' → ∀ (H : Heap) (locs : List Loc), mx_J G P s.heap (mxz σ) (mxu σ) τ H locs → ∀ ls : Array Slot, lv_has ls 7 [(0, .ref v0), (1, .int v1), (3, .long v3), (5, .long v5)] → W p l e (mx_rm P 2 47 σ) s m ([.ref a0, .int p1, .int p2] : List Value).toArray below meth c H locs (mxz τ - mxz σ) (mxu τ - mxu σ) (mx_Z below G P none σ σ' [.ref a0, .int p1, .int p2] s) (F0 m 72 ls []) := by
    intro v0 v1 v3 v5 τ hf _ _ hJ ls hl
    unfold f_X12_rootOf_D72 at hf
    refine lv_aload_n hx hb dX12_rootOf_72 rfl (lv_at hl 0 rfl) ?_
    refine lv_iload_n hx hb dX12_rootOf_73 rfl (lv_at hl 1 rfl) ?_
    refine lv_lload_n hx hb dX12_rootOf_74 rfl (lv_at hl 2 rfl) ?_
    refine lv_lload hx hb dX12_rootOf_75 (lv_at hl 3 rfl) ?_
    refine lv_iconst (v := 0) hx hb dX12_rootOf_77 (by decide) ?_
    obtain ⟨i25, e26, hf⟩ := mb0 hf
    obtain ⟨σ27, e28, hf⟩ := mb0 hf
    refine mx_callV (As := [.int v1, .long v3, .long v5, .int (0 : Int32)]) (rest := []) hx hb hml hts hown hK hJ rfl rfl (ci := 12) rfl e26 (c_X12_box l G P v0 v1 v3 v5 (0 : Int32) τ σ27 e28) me_X12_box kw_2381 ks_106 kw_2379 (Nat.le_of_ble_eq_true rfl) (Nat.le_of_ble_eq_true rfl) rfl hl.1 rfl (Nat.le_of_ble_eq_true rfl) dX12_rootOf_78 (fun H locs hJ => ?_)
    exact my_vret hx hb hr hlocks hJ hf dX12_rootOf_81
  unfold f_X12_rootOf at hf
  refine lv_aload_n hx hb dX12_rootOf_0 rfl (lv_at hl 0 rfl) ?_
  obtain ⟨b1, e2, hf⟩ := mb0 hf
  refine my_gR hx hb hts hown hK hJ fd_RX12_20 hv_12_13 e2 dX12_rootOf_1 ?_
  refine lv_iload_n hx hb dX12_rootOf_4 rfl (lv_at hl 2 rfl) ?_
  obtain ⟨x3, e4, hf⟩ := mb0 hf
  refine mx_aZ hx hb hK hJ e4 dX12_rootOf_5 ?_
  refine lv_if_eq (tgt := 18) hx hb dX12_rootOf_6 (by decide) (fun c5 => ?_) (fun c5 => ?_)
  · rw [if_pos c5] at hf
    refine lv_ldc2 hx hb hown (hts _ kw_2372) dX12_rootOf_18 ?_
    refine lv_aload_n hx hb dX12_rootOf_21 rfl (lv_at hl 0 rfl) ?_
    obtain ⟨b6, e7, hf⟩ := mb0 hf
    refine my_gR hx hb hts hown hK hJ fd_RX12_13 hv_12_11 e7 dX12_rootOf_22 ?_
    refine lv_iload_n hx hb dX12_rootOf_25 rfl (lv_at hl 2 rfl) ?_
    obtain ⟨x8, e9, hf⟩ := mb0 hf
    refine mx_aL hx hb hK hJ e9 dX12_rootOf_26 ?_
    refine lv_lmul hx hb dX12_rootOf_27 ?_
    obtain ⟨x11, σ10, e12, hf⟩ := mc0 hf
    refine mx_callS (As := [.long ((65536 : Int64) * x8)]) (rest := []) hx hb hml hts hown hK hJ rfl rfl (c_X12_root l G P ((65536 : Int64) * x8) σ x11 σ10 e12) me_X12_root kw_2461 kw_2460 (Nat.le_of_ble_eq_true rfl) (Nat.le_of_ble_eq_true rfl) rfl hl.1 rfl (Nat.le_of_ble_eq_true rfl) dX12_rootOf_28 (fun H locs hJ => ?_)
    refine lv_lstore_n (lv' := [(3, .long x11), (0, .ref a0), (1, .int p1), (2, .int p2)]) hx hb dX12_rootOf_31 rfl hl (by decide) rfl (fun ls hl => ?_)
    refine lv_ldc2 hx hb hown (hts _ kw_2372) dX12_rootOf_32 ?_
    refine lv_aload_n hx hb dX12_rootOf_35 rfl (lv_at hl 1 rfl) ?_
    obtain ⟨b13, e14, hf⟩ := mb0 hf
    refine my_gR hx hb hts hown hK hJ fd_RX12_17 hv_12_12 e14 dX12_rootOf_36 ?_
    refine lv_iload_n hx hb dX12_rootOf_39 rfl (lv_at hl 3 rfl) ?_
    obtain ⟨x15, e16, hf⟩ := mb0 hf
    refine mx_aL hx hb hK hJ e16 dX12_rootOf_40 ?_
    refine lv_lmul hx hb dX12_rootOf_41 ?_
    obtain ⟨x18, σ17, e19, hf⟩ := mc0 hf
    refine mx_callS (As := [.long ((65536 : Int64) * x15)]) (rest := []) hx hb hml hts hown hK hJ rfl rfl (c_X12_root l G P ((65536 : Int64) * x15) σ10 x18 σ17 e19) me_X12_root kw_2461 kw_2460 (Nat.le_of_ble_eq_true rfl) (Nat.le_of_ble_eq_true rfl) rfl hl.1 rfl (Nat.le_of_ble_eq_true rfl) dX12_rootOf_42 (fun H locs hJ => ?_)
    refine lv_lstore (lv' := [(5, .long x18), (3, .long x11), (0, .ref a0), (1, .int p1), (2, .int p2)]) hx hb dX12_rootOf_45 hl (by decide) rfl (fun ls hl => ?_)
    refine lv_lload hx hb dX12_rootOf_47 (lv_at hl 0 rfl) ?_
    refine lv_lload hx hb dX12_rootOf_49 (lv_at hl 0 rfl) ?_
    refine lv_lmul hx hb dX12_rootOf_51 ?_
    refine lv_ldc2 hx hb hown (hts _ kw_2372) dX12_rootOf_52 ?_
    refine lv_aload_n hx hb dX12_rootOf_55 rfl (lv_at hl 2 rfl) ?_
    obtain ⟨b20, e21, hf⟩ := mb0 hf
    refine my_gR hx hb hts hown hK hJ fd_RX12_17 hv_12_12 e21 dX12_rootOf_56 ?_
    refine lv_iload_n hx hb dX12_rootOf_59 rfl (lv_at hl 4 rfl) ?_
    obtain ⟨x22, e23, hf⟩ := mb0 hf
    refine mx_aL hx hb hK hJ e23 dX12_rootOf_60 ?_
    refine lv_lmul hx hb dX12_rootOf_61 ?_
    refine W.lcmp hx hb dX12_rootOf_62 ?_
    refine lv_if_ge (tgt := 72) hx hb dX12_rootOf_63 (by decide) (fun c24 => ?_) (fun c24 => ?_)
    · rw [if_pos c24] at hf
      exact D72 a0 p1 x11 x18 σ17 hf _ _ hJ ls (lv_sub hl [2, 3, 1, 0] rfl)
    · rw [if_neg c24] at hf
      refine lv_lload hx hb dX12_rootOf_66 (lv_at hl 0 rfl) ?_
      refine lv_lconst (v := 1) hx hb dX12_rootOf_68 (by decide) ?_
      refine lv_ladd hx hb dX12_rootOf_69 ?_
      obtain ⟨x29, e30, hf⟩ := mb0 hf
      refine mx_nL e30 ?_
      refine lv_lstore (lv' := [(5, .long x29), (3, .long x11), (0, .ref a0), (1, .int p1), (2, .int p2)]) hx hb dX12_rootOf_70 hl (by decide) rfl (fun ls hl => ?_)
      exact D72 a0 p1 x11 x29 σ17 hf _ _ hJ ls (lv_sub hl [2, 3, 1, 0] rfl)
  · rw [if_neg c5] at hf
    refine lv_aload_n hx hb dX12_rootOf_9 rfl (lv_at hl 0 rfl) ?_
    refine lv_iload_n hx hb dX12_rootOf_10 rfl (lv_at hl 1 rfl) ?_
    refine lv_lconst (v := 0) hx hb dX12_rootOf_11 (by decide) ?_
    refine lv_lconst (v := 0) hx hb dX12_rootOf_12 (by decide) ?_
    refine lv_iconst (v := 1) hx hb dX12_rootOf_13 (by decide) ?_
    obtain ⟨i31, e32, hf⟩ := mb0 hf
    obtain ⟨σ33, e34, hf⟩ := mb0 hf
    refine mx_callV (As := [.int p1, .long (0 : Int64), .long (0 : Int64), .int (1 : Int32)]) (rest := []) hx hb hml hts hown hK hJ rfl rfl (ci := 12) rfl e32 (c_X12_box l G P a0 p1 (0 : Int64) (0 : Int64) (1 : Int32) σ σ33 e34) me_X12_box kw_2381 ks_106 kw_2379 (Nat.le_of_ble_eq_true rfl) (Nat.le_of_ble_eq_true rfl) rfl hl.1 rfl (Nat.le_of_ble_eq_true rfl) dX12_rootOf_14 (fun H locs hJ => ?_)
    exact my_vret hx hb hr hlocks hJ hf dX12_rootOf_17
