set_option maxHeartbeats 4000000 in
set_option maxRecDepth 100000 in
theorem c_X10_init (l : Launch) (G : mx_G) (P : mx_P) (a0 : Nat) (σ : mx_S) (σ' : mx_S) (hf : f_X10_init P a0 σ = some σ') : mxz σ ≤ mpc P → mxu σ ≤ mps P → mx_M l yX10_init cX10_init 1 none 1 12 G P [.ref a0] σ none σ' := by
  intro hcap hcau
  refine mx_ofW (by decide +kernel) hcap hcau (Nat.le_of_ble_eq_true rfl) ?_
  intro p e s m below meth c hx hb hr hml hts hown hlocks hname hK hJ ls hl
  have hz0 := hJ.2.1
  have hown : s.vm.findClass RX10 = some m.cls := hown
  have hl : lv_has ls 1 [(0, .ref a0)] := hl
  unfold f_X10_init at hf
  refine lv_aload_n hx hb dX10_init_0 rfl (lv_at hl 0 rfl) ?_
  refine W.objInit hx hb hown (hts _ kw_42) (hts _ kw_35) (hts _ kw_36) rfl (by rw [hml]; exact hl.1) rfl dX10_init_1 (Nat.le_of_ble_eq_true rfl) (Nat.le_of_ble_eq_true rfl) ?_
  refine W.eq (g2 := F0 m 4 ls []) rfl ?_
  refine lv_aload_n hx hb dX10_init_4 rfl (lv_at hl 0 rfl) ?_
  refine lv_sipush (v := 4000) hx hb dX10_init_5 (by decide) ?_
  obtain ⟨b1, σ2, e3, hf⟩ := mc0 hf
  refine mx_nA hx hb hts hK hJ rfl rfl (t := 2) (by decide) rfl (fun _ h => h) (by decide) rfl e3 kw_136 dX10_init_8 (fun H locs hJ => ?_)
  obtain ⟨σ4, e5, hf⟩ := mb0 hf
  refine my_pR hx hb hts hown hK hJ fd_RX10_9 cd_10 (Or.inr ⟨rfl, hname, rfl⟩) ft_10_0 e5 dX10_init_10 (fun H locs hJ => ?_)
  refine lv_aload_n hx hb dX10_init_13 rfl (lv_at hl 0 rfl) ?_
  refine lv_bipush (v := 6) hx hb dX10_init_14 (by decide) ?_
  obtain ⟨b6, σ7, e8, hf⟩ := mc0 hf
  refine mx_nA hx hb hts hK hJ rfl rfl (t := 0) (by decide) rfl (fun _ h => h) (by decide) rfl e8 kw_137 dX10_init_16 (fun H locs hJ => ?_)
  obtain ⟨σ9, e10, hf⟩ := mb0 hf
  refine my_pR hx hb hts hown hK hJ fd_RX10_13 cd_10 (Or.inr ⟨rfl, hname, rfl⟩) ft_10_13 e10 dX10_init_18 (fun H locs hJ => ?_)
  refine lv_aload_n hx hb dX10_init_21 rfl (lv_at hl 0 rfl) ?_
  refine lv_bipush (v := 6) hx hb dX10_init_22 (by decide) ?_
  obtain ⟨b11, σ12, e13, hf⟩ := mc0 hf
  refine mx_nA hx hb hts hK hJ rfl rfl (t := 0) (by decide) rfl (fun _ h => h) (by decide) rfl e13 kw_137 dX10_init_24 (fun H locs hJ => ?_)
  obtain ⟨σ14, e15, hf⟩ := mb0 hf
  refine my_pR hx hb hts hown hK hJ fd_RX10_17 cd_10 (Or.inr ⟨rfl, hname, rfl⟩) ft_10_14 e15 dX10_init_26 (fun H locs hJ => ?_)
  refine lv_aload_n hx hb dX10_init_29 rfl (lv_at hl 0 rfl) ?_
  refine lv_bipush (v := 6) hx hb dX10_init_30 (by decide) ?_
  obtain ⟨b16, σ17, e18, hf⟩ := mc0 hf
  refine mx_nA hx hb hts hK hJ rfl rfl (t := 1) (by decide) rfl (fun _ h => h) (by decide) rfl e18 kw_138 dX10_init_32 (fun H locs hJ => ?_)
  obtain ⟨σ19, e20, hf⟩ := mb0 hf
  refine my_pR hx hb hts hown hK hJ fd_RX10_20 cd_10 (Or.inr ⟨rfl, hname, rfl⟩) ft_10_15 e20 dX10_init_34 (fun H locs hJ => ?_)
  refine lv_aload_n hx hb dX10_init_37 rfl (lv_at hl 0 rfl) ?_
  refine lv_bipush (v := 6) hx hb dX10_init_38 (by decide) ?_
  obtain ⟨b21, σ22, e23, hf⟩ := mc0 hf
  refine mx_nA hx hb hts hK hJ rfl rfl (t := 0) (by decide) rfl (fun _ h => h) (by decide) rfl e23 kw_137 dX10_init_40 (fun H locs hJ => ?_)
  obtain ⟨σ24, e25, hf⟩ := mb0 hf
  refine my_pR hx hb hts hown hK hJ fd_RX10_24 cd_10 (Or.inr ⟨rfl, hname, rfl⟩) ft_10_16 e25 dX10_init_42 (fun H locs hJ => ?_)
  refine lv_aload_n hx hb dX10_init_45 rfl (lv_at hl 0 rfl) ?_
  refine lv_bipush (v := 6) hx hb dX10_init_46 (by decide) ?_
  obtain ⟨b26, σ27, e28, hf⟩ := mc0 hf
  refine mx_nA hx hb hts hK hJ rfl rfl (t := 0) (by decide) rfl (fun _ h => h) (by decide) rfl e28 kw_137 dX10_init_48 (fun H locs hJ => ?_)
  obtain ⟨σ29, e30, hf⟩ := mb0 hf
  refine my_pR hx hb hts hown hK hJ fd_RX10_27 cd_10 (Or.inr ⟨rfl, hname, rfl⟩) ft_10_17 e30 dX10_init_50 (fun H locs hJ => ?_)
  refine lv_aload_n hx hb dX10_init_53 rfl (lv_at hl 0 rfl) ?_
  refine lv_sipush (v := 450) hx hb dX10_init_54 (by decide) ?_
  obtain ⟨b31, σ32, e33, hf⟩ := mc0 hf
  refine mx_nA hx hb hts hK hJ rfl rfl (t := 1) (by decide) rfl (fun _ h => h) (by decide) rfl e33 kw_138 dX10_init_57 (fun H locs hJ => ?_)
  obtain ⟨σ34, e35, hf⟩ := mb0 hf
  refine my_pR hx hb hts hown hK hJ fd_RX10_30 cd_10 (Or.inr ⟨rfl, hname, rfl⟩) ft_10_18 e35 dX10_init_59 (fun H locs hJ => ?_)
  exact my_vret hx hb hr hlocks hJ hf dX10_init_62
set_option maxHeartbeats 4000000 in
set_option maxRecDepth 100000 in
theorem c_X10_hasRoom (l : Launch) (G : mx_G) (P : mx_P) (a0 : Nat) (p1 : Int32) (σ : mx_S) (r : Int32) (σ' : mx_S) (hf : f_X10_hasRoom P a0 p1 σ = some (r, σ')) : mxz σ ≤ mpc P → mxu σ ≤ mps P → mx_M l yX10_hasRoom cX10_hasRoom 2 (some .boolean) 0 0 G P [.ref a0, .int p1] σ (some (.int r)) σ' := by
  intro hcap hcau
  refine mx_ofW (by decide +kernel) hcap hcau (Nat.le_of_ble_eq_true rfl) ?_
  intro p e s m below meth c hx hb hr hml hts hown hlocks hname hK hJ ls hl
  have hz0 := hJ.2.1
  have hown : s.vm.findClass RX10 = some m.cls := hown
  have hl : lv_has ls 2 [(0, .ref a0), (1, .int p1)] := hl
  have D17 : ∀ (w0 : Int32) (τ : mx_S), f_X10_hasRoom_D17 P w0 τ = some (r, σ') → ∀ (H : Heap) (locs : List Loc), mx_J G P s.heap (mxz σ) (mxu σ) τ H locs → ∀ ls : Array Slot, lv_has ls 2 [] → W p l e (mx_rm P 0 0 σ) s m ([.ref a0, .int p1] : List Value).toArray below meth c H locs (mxz τ - mxz σ) (mxu τ - mxu σ) (mx_Z below G P (some (.int r)) σ σ' [.ref a0, .int p1] s) (F0 m 17 ls [.int w0]) := by
    intro w0 τ hf _ _ hJ ls hl
    unfold f_X10_hasRoom_D17 at hf
    exact mx_zret hx hb hr hlocks hJ hf dX10_hasRoom_17
  unfold f_X10_hasRoom at hf
  refine lv_aload_n hx hb dX10_hasRoom_0 rfl (lv_at hl 0 rfl) ?_
  obtain ⟨x1, e2, hf⟩ := mb0 hf
  refine my_gI hx hb hts hown hK hJ fd_RX10_33 hv_10_1 e2 dX10_hasRoom_1 ?_
  refine lv_iload_n hx hb dX10_hasRoom_4 rfl (lv_at hl 1 rfl) ?_
  refine lv_iadd hx hb dX10_hasRoom_5 ?_
  refine lv_sipush (v := 4000) hx hb dX10_hasRoom_6 (by decide) ?_
  refine lv_icmp_gt (tgt := 16) hx hb dX10_hasRoom_9 (by decide) (fun c3 => ?_) (fun c3 => ?_)
  · rw [if_pos c3] at hf
    refine lv_iconst (v := 0) hx hb dX10_hasRoom_16 (by decide) ?_
    exact D17 (0 : Int32) σ hf _ _ hJ ls (lv_sub hl [] rfl)
  · rw [if_neg c3] at hf
    refine lv_iconst (v := 1) hx hb dX10_hasRoom_12 (by decide) ?_
    refine lv_goto (tgt := 17) hx hb dX10_hasRoom_13 (by decide) ?_
    exact D17 (1 : Int32) σ hf _ _ hJ ls (lv_sub hl [] rfl)
set_option maxHeartbeats 4000000 in
set_option maxRecDepth 100000 in
theorem c_X10_gather (l : Launch) (G : mx_G) (P : mx_P) (a0 : Nat) (p1 : Int32) (σ : mx_S) (σ' : mx_S) (hf : f_X10_gather P a0 p1 σ = some σ') : mxz σ ≤ mpc P → mxu σ ≤ mps P → mx_M l yX10_gather cX10_gather 2 none 1 21 G P [.ref a0, .int p1] σ none σ' := by
  intro hcap hcau
  refine mx_ofW (by decide +kernel) hcap hcau (Nat.le_of_ble_eq_true rfl) ?_
  intro p e s m below meth c hx hb hr hml hts hown hlocks hname hK hJ ls hl
  have hz0 := hJ.2.1
  have hown : s.vm.findClass RX10 = some m.cls := hown
  have hl : lv_has ls 2 [(0, .ref a0), (1, .int p1)] := hl
  unfold f_X10_gather at hf
  refine lv_aload_n hx hb dX10_gather_0 rfl (lv_at hl 0 rfl) ?_
  refine lv_iconst (v := 4) hx hb dX10_gather_1 (by decide) ?_
  obtain ⟨i1, e2, hf⟩ := mb0 hf
  obtain ⟨x4, σ3, e5, hf⟩ := mc0 hf
  refine mx_callV (As := [.int (4 : Int32)]) (rest := []) hx hb hml hts hown hK hJ rfl rfl (ci := 10) rfl e2 (c_X10_hasRoom l G P a0 (4 : Int32) σ x4 σ3 e5) me_X10_hasRoom kw_923 kw_924 kw_995 (Nat.le_of_ble_eq_true rfl) (Nat.le_of_ble_eq_true rfl) rfl hl.1 rfl (Nat.le_of_ble_eq_true rfl) dX10_gather_2 (fun H locs hJ => ?_)
  refine lv_if_ne (tgt := 9) hx hb dX10_gather_5 (by decide) (fun c6 => ?_) (fun c6 => ?_)
  · rw [if_neg c6] at hf
    refine lv_aload_n hx hb dX10_gather_9 rfl (lv_at hl 0 rfl) ?_
    obtain ⟨b7, e8, hf⟩ := mb0 hf
    refine my_gR hx hb hts hown hK hJ fd_RX10_9 hv_10_0 e8 dX10_gather_10 ?_
    refine lv_aload_n hx hb dX10_gather_13 rfl (lv_at hl 0 rfl) ?_
    obtain ⟨x9, e10, hf⟩ := mb0 hf
    refine my_gI hx hb hts hown hK hJ fd_RX10_33 hv_10_1 e10 dX10_gather_14 ?_
    refine lv_iload_n hx hb dX10_gather_17 rfl (lv_at hl 1 rfl) ?_
    refine lv_bipush (v := 24) hx hb dX10_gather_18 (by decide) ?_
    refine lv_ishr hx hb dX10_gather_20 ?_
    refine lv_i2b hx hb dX10_gather_21 rfl ?_
    obtain ⟨σ11, e12, hf⟩ := mb0 hf
    refine mx_sB hx hb hK hJ e12 dX10_gather_22 (fun H locs hJ => ?_)
    refine lv_aload_n hx hb dX10_gather_23 rfl (lv_at hl 0 rfl) ?_
    obtain ⟨b13, e14, hf⟩ := mb0 hf
    refine my_gR hx hb hts hown hK hJ fd_RX10_9 hv_10_0 e14 dX10_gather_24 ?_
    refine lv_aload_n hx hb dX10_gather_27 rfl (lv_at hl 0 rfl) ?_
    obtain ⟨x15, e16, hf⟩ := mb0 hf
    refine my_gI hx hb hts hown hK hJ fd_RX10_33 hv_10_1 e16 dX10_gather_28 ?_
    refine lv_iconst (v := 1) hx hb dX10_gather_31 (by decide) ?_
    refine lv_iadd hx hb dX10_gather_32 ?_
    refine lv_iload_n hx hb dX10_gather_33 rfl (lv_at hl 1 rfl) ?_
    refine lv_bipush (v := 16) hx hb dX10_gather_34 (by decide) ?_
    refine lv_ishr hx hb dX10_gather_36 ?_
    refine lv_i2b hx hb dX10_gather_37 rfl ?_
    obtain ⟨σ17, e18, hf⟩ := mb0 hf
    refine mx_sB hx hb hK hJ e18 dX10_gather_38 (fun H locs hJ => ?_)
    refine lv_aload_n hx hb dX10_gather_39 rfl (lv_at hl 0 rfl) ?_
    obtain ⟨b19, e20, hf⟩ := mb0 hf
    refine my_gR hx hb hts hown hK hJ fd_RX10_9 hv_10_0 e20 dX10_gather_40 ?_
    refine lv_aload_n hx hb dX10_gather_43 rfl (lv_at hl 0 rfl) ?_
    obtain ⟨x21, e22, hf⟩ := mb0 hf
    refine my_gI hx hb hts hown hK hJ fd_RX10_33 hv_10_1 e22 dX10_gather_44 ?_
    refine lv_iconst (v := 2) hx hb dX10_gather_47 (by decide) ?_
    refine lv_iadd hx hb dX10_gather_48 ?_
    refine lv_iload_n hx hb dX10_gather_49 rfl (lv_at hl 1 rfl) ?_
    refine lv_bipush (v := 8) hx hb dX10_gather_50 (by decide) ?_
    refine lv_ishr hx hb dX10_gather_52 ?_
    refine lv_i2b hx hb dX10_gather_53 rfl ?_
    obtain ⟨σ23, e24, hf⟩ := mb0 hf
    refine mx_sB hx hb hK hJ e24 dX10_gather_54 (fun H locs hJ => ?_)
    refine lv_aload_n hx hb dX10_gather_55 rfl (lv_at hl 0 rfl) ?_
    obtain ⟨b25, e26, hf⟩ := mb0 hf
    refine my_gR hx hb hts hown hK hJ fd_RX10_9 hv_10_0 e26 dX10_gather_56 ?_
    refine lv_aload_n hx hb dX10_gather_59 rfl (lv_at hl 0 rfl) ?_
    obtain ⟨x27, e28, hf⟩ := mb0 hf
    refine my_gI hx hb hts hown hK hJ fd_RX10_33 hv_10_1 e28 dX10_gather_60 ?_
    refine lv_iconst (v := 3) hx hb dX10_gather_63 (by decide) ?_
    refine lv_iadd hx hb dX10_gather_64 ?_
    refine lv_iload_n hx hb dX10_gather_65 rfl (lv_at hl 1 rfl) ?_
    refine lv_i2b hx hb dX10_gather_66 rfl ?_
    obtain ⟨σ29, e30, hf⟩ := mb0 hf
    refine mx_sB hx hb hK hJ e30 dX10_gather_67 (fun H locs hJ => ?_)
    refine lv_aload_n hx hb dX10_gather_68 rfl (lv_at hl 0 rfl) ?_
    refine lv_dup hx hb dX10_gather_69 rfl ?_
    obtain ⟨x31, e32, hf⟩ := mb0 hf
    refine my_gI hx hb hts hown hK hJ fd_RX10_33 hv_10_1 e32 dX10_gather_70 ?_
    refine lv_iconst (v := 4) hx hb dX10_gather_73 (by decide) ?_
    refine lv_iadd hx hb dX10_gather_74 ?_
    obtain ⟨σ33, e34, hf⟩ := mb0 hf
    refine my_pI hx hb hts hown hK hJ fd_RX10_33 cd_10 (Or.inl rfl) ht_10_1 e34 dX10_gather_75 (fun H locs hJ => ?_)
    exact my_vret hx hb hr hlocks hJ hf dX10_gather_78
  · rw [if_pos c6] at hf
    exact my_vret hx hb hr hlocks hJ hf dX10_gather_8
set_option maxHeartbeats 4000000 in
set_option maxRecDepth 100000 in
theorem c_X10_wholeName (l : Launch) (G : mx_G) (P : mx_P) (a0 : Nat) (σ : mx_S) (r : Int64) (σ' : mx_S) (hf : f_X10_wholeName P a0 σ = some (r, σ')) : mxz σ ≤ mpc P → mxu σ ≤ mps P → mx_M l yX10_wholeName cX10_wholeName 4 (some .long) 1 21 G P [.ref a0] σ (some (.long r)) σ' := by
  intro hcap hcau
  refine mx_ofW (by decide +kernel) hcap hcau (Nat.le_of_ble_eq_true rfl) ?_
  intro p e s m below meth c hx hb hr hml hts hown hlocks hname hK hJ ls hl
  have hz0 := hJ.2.1
  have hown : s.vm.findClass RX10 = some m.cls := hown
  have hl : lv_has ls 4 [(0, .ref a0)] := hl
  have D17 : ∀  (τ : mx_S), f_X10_wholeName_D17 P  τ = some (r, σ') → ∀ (H : Heap) (locs : List Loc), mx_J G P s.heap (mxz σ) (mxu σ) τ H locs → ∀ ls : Array Slot, lv_has ls 4 [] → W p l e (mx_rm P 1 21 σ) s m ([.ref a0] : List Value).toArray below meth c H locs (mxz τ - mxz σ) (mxu τ - mxu σ) (mx_Z below G P (some (.long r)) σ σ' [.ref a0] s) (F0 m 17 ls []) := by
    intro  τ hf _ _ hJ ls hl
    unfold f_X10_wholeName_D17 at hf
    refine lv_lconst (v := 0) hx hb dX10_wholeName_17 (by decide) ?_
    exact my_lret hx hb hr hlocks hJ hf dX10_wholeName_18
  have B23 : ∀ (v0 : Nat) (v1 : Int64) (v3 : Int32) (τ : mx_S) (o : (Int64 × Int32 × mx_S) ⊕ ((mx_S) ⊕ (Int64 × mx_S))), f_X10_wholeName_B23 P v0 v1 v3 τ = some o → (∀ (y1 : Int64) (y3 : Int32) (υ : mx_S), o = .inl (y1, y3, υ) → ∀ (H : Heap) (locs : List Loc), mx_J G P s.heap (mxz σ) (mxu σ) υ H locs → ∀ ls : Array Slot, lv_has ls 4 [(0, .ref v0), (1, .long y1), (3, .int y3)] → W p l e (mx_rm P 1 21 σ) s m ([.ref a0] : List Value).toArray below meth c H locs (mxz υ - mxz σ) (mxu υ - mxu σ) (mx_Z below G P (some (.long r)) σ σ' [.ref a0] s) (F0 m 23 ls [])) → (∀  (υ : mx_S), o = .inr (.inl υ) → ∀ (H : Heap) (locs : List Loc), mx_J G P s.heap (mxz σ) (mxu σ) υ H locs → ∀ ls : Array Slot, lv_has ls 4 [] → W p l e (mx_rm P 1 21 σ) s m ([.ref a0] : List Value).toArray below meth c H locs (mxz υ - mxz σ) (mxu υ - mxu σ) (mx_Z below G P (some (.long r)) σ σ' [.ref a0] s) (F0 m 42 ls [])) → (∀ (y1 : Int64) (υ : mx_S), o = .inr (.inr (y1, υ)) → ∀ (H : Heap) (locs : List Loc), mx_J G P s.heap (mxz σ) (mxu σ) υ H locs → ∀ ls : Array Slot, lv_has ls 4 [(1, .long y1)] → W p l e (mx_rm P 1 21 σ) s m ([.ref a0] : List Value).toArray below meth c H locs (mxz υ - mxz σ) (mxu υ - mxu σ) (mx_Z below G P (some (.long r)) σ σ' [.ref a0] s) (F0 m 62 ls [])) → ∀ (H : Heap) (locs : List Loc), mx_J G P s.heap (mxz σ) (mxu σ) τ H locs → ∀ ls : Array Slot, lv_has ls 4 [(0, .ref v0), (1, .long v1), (3, .int v3)] → W p l e (mx_rm P 1 21 σ) s m ([.ref a0] : List Value).toArray below meth c H locs (mxz τ - mxz σ) (mxu τ - mxu σ) (mx_Z below G P (some (.long r)) σ σ' [.ref a0] s) (F0 m 23 ls []) := by
    intro v0 v1 v3 τ o hf Kb Ke0 Ke1 H locs hJ ls hl
    unfold f_X10_wholeName_B23 at hf
    refine lv_iload_n hx hb dX10_wholeName_23 rfl (lv_at hl 2 rfl) ?_
    refine lv_aload_n hx hb dX10_wholeName_24 rfl (lv_at hl 0 rfl) ?_
    obtain ⟨x7, e8, hf⟩ := mb0 hf
    refine my_gI hx hb hts hown hK hJ fd_RX10_33 hv_10_1 e8 dX10_wholeName_25 ?_
    refine lv_icmp_ge (tgt := 62) hx hb dX10_wholeName_28 (by decide) (fun c9 => ?_) (fun c9 => ?_)
    · rw [if_pos c9] at hf
      exact Ke1 v1 τ (Option.some.inj hf).symm _ _ hJ ls (lv_sub hl [1] rfl)
    · rw [if_neg c9] at hf
      refine lv_aload_n hx hb dX10_wholeName_31 rfl (lv_at hl 0 rfl) ?_
      refine lv_iload_n hx hb dX10_wholeName_32 rfl (lv_at hl 2 rfl) ?_
      obtain ⟨i10, e11, hf⟩ := mb0 hf
      obtain ⟨x13, σ12, e14, hf⟩ := mc0 hf
      refine mx_callV (As := [.int v3]) (rest := []) hx hb hml hts hown hK hJ rfl rfl (ci := 10) rfl e11 (c_X10_byteAt l G P v0 v3 τ x13 σ12 e14) me_X10_byteAt kw_637 ks_0 kw_635 (Nat.le_of_ble_eq_true rfl) (Nat.le_of_ble_eq_true rfl) rfl hl.1 rfl (Nat.le_of_ble_eq_true rfl) dX10_wholeName_33 (fun H locs hJ => ?_)
      obtain ⟨x16, σ15, e17, hf⟩ := mc0 hf
      refine mx_callS (As := [.int x13]) (rest := []) hx hb hml hts hown hK hJ rfl rfl (c_X10_isLetter l G P x13 σ12 x16 σ15 e17) me_X10_isLetter kw_640 kw_639 (Nat.le_of_ble_eq_true rfl) (Nat.le_of_ble_eq_true rfl) rfl hl.1 rfl (Nat.le_of_ble_eq_true rfl) dX10_wholeName_36 (fun H locs hJ => ?_)
      refine lv_if_ne (tgt := 44) hx hb dX10_wholeName_39 (by decide) (fun c18 => ?_) (fun c18 => ?_)
      · rw [if_neg c18] at hf
        refine lv_lload_n hx hb dX10_wholeName_44 rfl (lv_at hl 1 rfl) ?_
        refine lv_bipush (v := 8) hx hb dX10_wholeName_45 (by decide) ?_
        refine lv_lshl hx hb dX10_wholeName_47 rfl ?_
        refine lv_aload_n hx hb dX10_wholeName_48 rfl (lv_at hl 0 rfl) ?_
        refine lv_iload_n hx hb dX10_wholeName_49 rfl (lv_at hl 2 rfl) ?_
        obtain ⟨i19, e20, hf⟩ := mb0 hf
        obtain ⟨x22, σ21, e23, hf⟩ := mc0 hf
        refine mx_callV (As := [.int v3]) (rest := [.long (v1 <<< ((8 : Int32).toInt64 &&& 63))]) hx hb hml hts hown hK hJ rfl rfl (ci := 10) rfl e20 (c_X10_byteAt l G P v0 v3 σ15 x22 σ21 e23) me_X10_byteAt kw_637 ks_0 kw_635 (Nat.le_of_ble_eq_true rfl) (Nat.le_of_ble_eq_true rfl) rfl hl.1 rfl (Nat.le_of_ble_eq_true rfl) dX10_wholeName_50 (fun H locs hJ => ?_)
        refine lv_i2l hx hb dX10_wholeName_53 rfl ?_
        refine lv_lor hx hb dX10_wholeName_54 ?_
        obtain ⟨x24, e25, hf⟩ := mb0 hf
        refine mx_nL e25 ?_
        refine lv_lstore_n (lv' := [(1, .long x24), (0, .ref v0), (3, .int v3)]) hx hb dX10_wholeName_55 rfl hl (by decide) rfl (fun ls hl => ?_)
        obtain ⟨x26, e27, hf⟩ := mb0 hf
        refine lv_iinc (v := x26) (lv' := [(3, .int x26), (1, .long x24), (0, .ref v0)]) hx hb dX10_wholeName_56 hl (k := 2) rfl (by rw [← Option.some.inj e27]; rfl) (by decide) rfl (fun ls hl => ?_)
        refine lv_goto (tgt := 23) hx hb dX10_wholeName_59 (by decide) ?_
        exact Kb x24 x26 σ21 (Option.some.inj hf).symm _ _ hJ ls (lv_sub hl [2, 1, 0] rfl)
      · rw [if_pos c18] at hf
        exact Ke0 σ15 (Option.some.inj hf).symm _ _ hJ ls (lv_sub hl [] rfl)
  have L23 : ∀ (v0 : Nat) (n : Nat) (v1 : Int64) (v3 : Int32) (τ : mx_S) (o : (mx_S) ⊕ (Int64 × mx_S)), mx_lp (f_X10_wholeName_L23 P v0) n (v1, v3, τ) = some o → (∀  (υ : mx_S), o = (.inl υ) → ∀ (H : Heap) (locs : List Loc), mx_J G P s.heap (mxz σ) (mxu σ) υ H locs → ∀ ls : Array Slot, lv_has ls 4 [] → W p l e (mx_rm P 1 21 σ) s m ([.ref a0] : List Value).toArray below meth c H locs (mxz υ - mxz σ) (mxu υ - mxu σ) (mx_Z below G P (some (.long r)) σ σ' [.ref a0] s) (F0 m 42 ls [])) → (∀ (y1 : Int64) (υ : mx_S), o = (.inr (y1, υ)) → ∀ (H : Heap) (locs : List Loc), mx_J G P s.heap (mxz σ) (mxu σ) υ H locs → ∀ ls : Array Slot, lv_has ls 4 [(1, .long y1)] → W p l e (mx_rm P 1 21 σ) s m ([.ref a0] : List Value).toArray below meth c H locs (mxz υ - mxz σ) (mxu υ - mxu σ) (mx_Z below G P (some (.long r)) σ σ' [.ref a0] s) (F0 m 62 ls [])) → ∀ (H : Heap) (locs : List Loc), mx_J G P s.heap (mxz σ) (mxu σ) τ H locs → ∀ ls : Array Slot, lv_has ls 4 [(0, .ref v0), (1, .long v1), (3, .int v3)] → W p l e (mx_rm P 1 21 σ) s m ([.ref a0] : List Value).toArray below meth c H locs (mxz τ - mxz σ) (mxu τ - mxu σ) (mx_Z below G P (some (.long r)) σ σ' [.ref a0] s) (F0 m 23 ls []) := by
    intro v0 n
    induction n with
    | zero =>
      intro v1 v3 τ o hf
      rw [mx_lp0] at hf
      cases hf
    | succ n ih =>
      intro v1 v3 τ o hf Ke0 Ke1 H locs hJ ls hl
      rw [mx_lpS] at hf
      obtain ⟨b, eb, hf⟩ := mb0 hf
      refine B23 v0 v1 v3 τ b eb (fun y1 y3 υ ho H locs hJ ls hl => ?_) (fun  υ ho H locs hJ ls hl => ?_) (fun y1 υ ho H locs hJ ls hl => ?_) H locs hJ ls hl
      · subst ho
        exact ih y1 y3 υ o hf Ke0 Ke1 H locs hJ ls hl
      · subst ho
        exact Ke0  υ (Option.some.inj hf).symm _ _ hJ ls hl
      · subst ho
        exact Ke1 y1 υ (Option.some.inj hf).symm _ _ hJ ls hl
  unfold f_X10_wholeName at hf
  refine lv_aload_n hx hb dX10_wholeName_0 rfl (lv_at hl 0 rfl) ?_
  obtain ⟨x1, e2, hf⟩ := mb0 hf
  refine my_gI hx hb hts hown hK hJ fd_RX10_33 hv_10_1 e2 dX10_wholeName_1 ?_
  refine lv_iconst (v := 1) hx hb dX10_wholeName_4 (by decide) ?_
  refine lv_icmp_lt (tgt := 17) hx hb dX10_wholeName_5 (by decide) (fun c3 => ?_) (fun c3 => ?_)
  · rw [if_pos c3] at hf
    exact D17  σ hf _ _ hJ ls (lv_sub hl [] rfl)
  · rw [if_neg c3] at hf
    refine lv_aload_n hx hb dX10_wholeName_8 rfl (lv_at hl 0 rfl) ?_
    obtain ⟨x4, e5, hf⟩ := mb0 hf
    refine my_gI hx hb hts hown hK hJ fd_RX10_33 hv_10_1 e5 dX10_wholeName_9 ?_
    refine lv_bipush (v := 8) hx hb dX10_wholeName_12 (by decide) ?_
    refine lv_icmp_le (tgt := 19) hx hb dX10_wholeName_14 (by decide) (fun c6 => ?_) (fun c6 => ?_)
    · rw [if_pos c6] at hf
      refine lv_lconst (v := 0) hx hb dX10_wholeName_19 (by decide) ?_
      refine lv_lstore_n (lv' := [(1, .long (0 : Int64)), (0, .ref a0)]) hx hb dX10_wholeName_20 rfl hl (by decide) rfl (fun ls hl => ?_)
      refine lv_iconst (v := 0) hx hb dX10_wholeName_21 (by decide) ?_
      refine lv_istore_n (lv' := [(3, .int (0 : Int32)), (1, .long (0 : Int64)), (0, .ref a0)]) hx hb dX10_wholeName_22 rfl hl (by decide) rfl (fun ls hl => ?_)
      obtain ⟨o28, e29, hf⟩ := mb0 hf
      refine L23 a0 (mpN P) (0 : Int64) (0 : Int32) σ o28 e29 (fun σ30 ho H locs hJ ls hl => ?_) (fun y31 σ32 ho H locs hJ ls hl => ?_) _ _ hJ ls (lv_sub hl [2, 1, 0] rfl)
      · rw [ho] at hf
        have hf : (some ((0 : Int64), σ30)) = some (r, σ') := hf
        refine lv_lconst (v := 0) hx hb dX10_wholeName_42 (by decide) ?_
        exact my_lret hx hb hr hlocks hJ hf dX10_wholeName_43
      · rw [ho] at hf
        have hf : (some (y31, σ32)) = some (r, σ') := hf
        refine lv_lload_n hx hb dX10_wholeName_62 rfl (lv_at hl 0 rfl) ?_
        exact my_lret hx hb hr hlocks hJ hf dX10_wholeName_63
    · rw [if_neg c6] at hf
      exact D17  σ hf _ _ hJ ls (lv_sub hl [] rfl)
set_option maxHeartbeats 4000000 in
set_option maxRecDepth 100000 in
theorem c_X11_init (l : Launch) (G : mx_G) (P : mx_P) (a0 : Nat) (σ : mx_S) (σ' : mx_S) (hf : f_X11_init P a0 σ = some σ') : mxz σ ≤ mpc P → mxu σ ≤ mps P → mx_M l yX11_init cX11_init 2 none 5 93 G P [.ref a0] σ none σ' := by
  intro hcap hcau
  refine mx_ofW (by decide +kernel) hcap hcau (Nat.le_of_ble_eq_true rfl) ?_
  intro p e s m below meth c hx hb hr hml hts hown hlocks hname hK hJ ls hl
  have hz0 := hJ.2.1
  have hown : s.vm.findClass RX11 = some m.cls := hown
  have hl : lv_has ls 2 [(0, .ref a0)] := hl
  have B37 : ∀ (v0 : Nat) (v1 : Int32) (τ : mx_S) (o : (Int32 × mx_S) ⊕ ((mx_S))), f_X11_init_B37 P v0 v1 τ = some o → (∀ (y1 : Int32) (υ : mx_S), o = .inl (y1, υ) → ∀ (H : Heap) (locs : List Loc), mx_J G P s.heap (mxz σ) (mxu σ) υ H locs → ∀ ls : Array Slot, lv_has ls 2 [(0, .ref v0), (1, .int y1)] → W p l e (mx_rm P 5 93 σ) s m ([.ref a0] : List Value).toArray below meth c H locs (mxz υ - mxz σ) (mxu υ - mxu σ) (mx_Z below G P none σ σ' [.ref a0] s) (F0 m 37 ls [])) → (∀  (υ : mx_S), o = .inr υ → ∀ (H : Heap) (locs : List Loc), mx_J G P s.heap (mxz σ) (mxu σ) υ H locs → ∀ ls : Array Slot, lv_has ls 2 [(0, .ref v0)] → W p l e (mx_rm P 5 93 σ) s m ([.ref a0] : List Value).toArray below meth c H locs (mxz υ - mxz σ) (mxu υ - mxu σ) (mx_Z below G P none σ σ' [.ref a0] s) (F0 m 62 ls [])) → ∀ (H : Heap) (locs : List Loc), mx_J G P s.heap (mxz σ) (mxu σ) τ H locs → ∀ ls : Array Slot, lv_has ls 2 [(0, .ref v0), (1, .int v1)] → W p l e (mx_rm P 5 93 σ) s m ([.ref a0] : List Value).toArray below meth c H locs (mxz τ - mxz σ) (mxu τ - mxu σ) (mx_Z below G P none σ σ' [.ref a0] s) (F0 m 37 ls []) := by
    intro v0 v1 τ o hf Kb Ke0 H locs hJ ls hl
    unfold f_X11_init_B37 at hf
    refine lv_iload_n hx hb dX11_init_37 rfl (lv_at hl 1 rfl) ?_
    refine lv_bipush (v := 8) hx hb dX11_init_38 (by decide) ?_
    refine lv_icmp_ge (tgt := 62) hx hb dX11_init_40 (by decide) (fun c20 => ?_) (fun c20 => ?_)
    · rw [if_pos c20] at hf
      exact Ke0 τ (Option.some.inj hf).symm _ _ hJ ls (lv_sub hl [0] rfl)
    · rw [if_neg c20] at hf
      refine lv_aload_n hx hb dX11_init_43 rfl (lv_at hl 0 rfl) ?_
      obtain ⟨b21, e22, hf⟩ := mb0 hf
      refine my_gR hx hb hts hown hK hJ fd_RX11_25 hv_11_2 e22 dX11_init_44 ?_
      refine lv_iload_n hx hb dX11_init_47 rfl (lv_at hl 1 rfl) ?_
      obtain ⟨b23, σ24, e25, hf⟩ := mc0 hf
      refine mx_nO hx hb hts wi_9 cd_9.1 hown hK hJ rfl rfl (ci := 9) rfl e25 kw_230 kw_232 kw_5 df_9 dX11_init_48 (fun H locs hJ => ?_)
      refine lv_dup hx hb dX11_init_51 rfl ?_
      obtain ⟨σ26, e27, hf⟩ := mb0 hf
      refine mx_callI (As := []) (rest := [.ref b23, .int v1, .ref b21]) hx hb hml hts hown hK hJ rfl rfl (c_X9_init l G P b23 σ24 σ26 e27) me_X9_init kw_234 rfl kw_233 (Nat.le_of_ble_eq_true rfl) (Nat.le_of_ble_eq_true rfl) rfl hl.1 rfl (Nat.le_of_ble_eq_true rfl) dX11_init_52 (fun H locs hJ => ?_)
      obtain ⟨σ28, e29, hf⟩ := mb0 hf
      refine mx_sR hx hb hK hJ (ci := 9) rfl rfl e29 dX11_init_55 (fun H locs hJ => ?_)
      obtain ⟨x30, e31, hf⟩ := mb0 hf
      refine lv_iinc (v := x30) (lv' := [(1, .int x30), (0, .ref v0)]) hx hb dX11_init_56 hl (k := 1) rfl (by rw [← Option.some.inj e31]; rfl) (by decide) rfl (fun ls hl => ?_)
      refine lv_goto (tgt := 37) hx hb dX11_init_59 (by decide) ?_
      exact Kb x30 σ28 (Option.some.inj hf).symm _ _ hJ ls (lv_sub hl [1, 0] rfl)
  have L37 : ∀ (v0 : Nat) (n : Nat) (v1 : Int32) (τ : mx_S) (o : (mx_S)), mx_lp (f_X11_init_L37 P v0) n (v1, τ) = some o → (∀  (υ : mx_S), o = υ → ∀ (H : Heap) (locs : List Loc), mx_J G P s.heap (mxz σ) (mxu σ) υ H locs → ∀ ls : Array Slot, lv_has ls 2 [(0, .ref v0)] → W p l e (mx_rm P 5 93 σ) s m ([.ref a0] : List Value).toArray below meth c H locs (mxz υ - mxz σ) (mxu υ - mxu σ) (mx_Z below G P none σ σ' [.ref a0] s) (F0 m 62 ls [])) → ∀ (H : Heap) (locs : List Loc), mx_J G P s.heap (mxz σ) (mxu σ) τ H locs → ∀ ls : Array Slot, lv_has ls 2 [(0, .ref v0), (1, .int v1)] → W p l e (mx_rm P 5 93 σ) s m ([.ref a0] : List Value).toArray below meth c H locs (mxz τ - mxz σ) (mxu τ - mxu σ) (mx_Z below G P none σ σ' [.ref a0] s) (F0 m 37 ls []) := by
    intro v0 n
    induction n with
    | zero =>
      intro v1 τ o hf
      rw [mx_lp0] at hf
      cases hf
    | succ n ih =>
      intro v1 τ o hf Ke0 H locs hJ ls hl
      rw [mx_lpS] at hf
      obtain ⟨b, eb, hf⟩ := mb0 hf
      refine B37 v0 v1 τ b eb (fun y1 υ ho H locs hJ ls hl => ?_) (fun  υ ho H locs hJ ls hl => ?_) H locs hJ ls hl
      · subst ho
        exact ih y1 υ o hf Ke0 H locs hJ ls hl
      · subst ho
        exact Ke0  υ (Option.some.inj hf).symm _ _ hJ ls hl
  unfold f_X11_init at hf
  refine lv_aload_n hx hb dX11_init_0 rfl (lv_at hl 0 rfl) ?_
  refine W.objInit hx hb hown (hts _ kw_34) (hts _ kw_35) (hts _ kw_36) rfl (by rw [hml]; exact hl.1) rfl dX11_init_1 (Nat.le_of_ble_eq_true rfl) (Nat.le_of_ble_eq_true rfl) ?_
  refine W.eq (g2 := F0 m 4 ls []) rfl ?_
  refine lv_aload_n hx hb dX11_init_4 rfl (lv_at hl 0 rfl) ?_
  obtain ⟨b1, σ2, e3, hf⟩ := mc0 hf
  refine mx_nO hx hb hts wi_10 cd_10.1 hown hK hJ rfl rfl (ci := 10) rfl e3 kw_37 kw_38 kw_2 df_10 dX11_init_5 (fun H locs hJ => ?_)
  refine lv_dup hx hb dX11_init_8 rfl ?_
  obtain ⟨σ4, e5, hf⟩ := mb0 hf
  refine mx_callI (As := []) (rest := [.ref b1, .ref a0]) hx hb hml hts hown hK hJ rfl rfl (c_X10_init l G P b1 σ2 σ4 e5) me_X10_init kw_40 rfl kw_39 (Nat.le_of_ble_eq_true rfl) (Nat.le_of_ble_eq_true rfl) rfl hl.1 rfl (Nat.le_of_ble_eq_true rfl) dX11_init_9 (fun H locs hJ => ?_)
  obtain ⟨σ6, e7, hf⟩ := mb0 hf
  refine my_pR hx hb hts hown hK hJ fd_RX11_10 cd_11 (Or.inr ⟨rfl, hname, rfl⟩) ft_11_0 e7 dX11_init_12 (fun H locs hJ => ?_)
  refine lv_aload_n hx hb dX11_init_15 rfl (lv_at hl 0 rfl) ?_
  obtain ⟨b8, σ9, e10, hf⟩ := mc0 hf
  refine mx_nO hx hb hts wi_4 cd_4.1 hown hK hJ rfl rfl (ci := 4) rfl e10 kw_139 kw_140 kw_3 df_4 dX11_init_16 (fun H locs hJ => ?_)
  refine lv_dup hx hb dX11_init_19 rfl ?_
  obtain ⟨σ11, e12, hf⟩ := mb0 hf
  refine mx_callI (As := []) (rest := [.ref b8, .ref a0]) hx hb hml hts hown hK hJ rfl rfl (c_X4_init l G P b8 σ9 σ11 e12) me_X4_init kw_142 rfl kw_141 (Nat.le_of_ble_eq_true rfl) (Nat.le_of_ble_eq_true rfl) rfl hl.1 rfl (Nat.le_of_ble_eq_true rfl) dX11_init_20 (fun H locs hJ => ?_)
  obtain ⟨σ13, e14, hf⟩ := mb0 hf
  refine my_pR hx hb hts hown hK hJ fd_RX11_19 cd_11 (Or.inr ⟨rfl, hname, rfl⟩) ft_11_1 e14 dX11_init_23 (fun H locs hJ => ?_)
  refine lv_aload_n hx hb dX11_init_26 rfl (lv_at hl 0 rfl) ?_
  refine lv_bipush (v := 8) hx hb dX11_init_27 (by decide) ?_
  obtain ⟨b15, σ16, e17, hf⟩ := mc0 hf
  refine mx_nR hx hb hts hown hK hJ rfl rfl (t := 6) (by decide) rfl hK.2.1.2.2 e17 kw_230 dX11_init_29 (fun H locs hJ => ?_)
  obtain ⟨σ18, e19, hf⟩ := mb0 hf
  refine my_pR hx hb hts hown hK hJ fd_RX11_25 cd_11 (Or.inr ⟨rfl, hname, rfl⟩) ft_11_2 e19 dX11_init_32 (fun H locs hJ => ?_)
  refine lv_iconst (v := 0) hx hb dX11_init_35 (by decide) ?_
  refine lv_istore_n (lv' := [(1, .int (0 : Int32)), (0, .ref a0)]) hx hb dX11_init_36 rfl hl (by decide) rfl (fun ls hl => ?_)
  obtain ⟨o32, e33, hf⟩ := mb0 hf
  refine L37 a0 (mpN P) (0 : Int32) σ18 o32 e33 (fun σ34 ho H locs hJ ls hl => ?_) _ _ hJ ls (lv_sub hl [1, 0] rfl)
  · rw [ho] at hf
    have hf : (mx_b2 (mn_O P σ34 6 10) fun b35 σ36 => (f_X6_init P b35 σ36).bind fun σ38 => (mp_R P σ38 a0 11 3 b35).bind fun σ40 => mx_b2 (mn_O P σ40 2 11) fun b42 σ43 => (f_X2_init P b42 σ43).bind fun σ45 => (mp_R P σ45 a0 11 4 b42).bind fun σ47 => mx_b2 (mn_O P σ47 3 3) fun b49 σ50 => (f_X3_init P b49 σ50).bind fun σ52 => (mp_R P σ52 a0 11 5 b49).bind fun σ54 => mx_b2 (mn_O P σ54 7 20) fun b56 σ57 => (f_X7_init P b56 σ57).bind fun σ59 => (mp_R P σ59 a0 11 6 b56).bind fun σ61 => mx_b2 (mn_O P σ61 7 20) fun b63 σ64 => (f_X7_init P b63 σ64).bind fun σ66 => (mp_R P σ66 a0 11 7 b63).bind fun σ68 => mx_b2 (mn_O P σ68 1 8) fun b70 σ71 => (f_X1_init P b70 σ71).bind fun σ73 => (mp_R P σ73 a0 11 8 b70).bind fun σ75 => mx_b2 (mn_O P σ75 1 8) fun b77 σ78 => (f_X1_init P b77 σ78).bind fun σ80 => (mp_R P σ80 a0 11 9 b77).bind fun σ82 => some σ82) = some σ' := hf
    refine lv_aload_n hx hb dX11_init_62 rfl (lv_at hl 0 rfl) ?_
    obtain ⟨b35, σ36, e37, hf⟩ := mc0 hf
    refine mx_nO hx hb hts wi_6 cd_6.1 hown hK hJ rfl rfl (ci := 6) rfl e37 kw_248 kw_249 kw_6 df_6 dX11_init_63 (fun H locs hJ => ?_)
    refine lv_dup hx hb dX11_init_66 rfl ?_
    obtain ⟨σ38, e39, hf⟩ := mb0 hf
    refine mx_callI (As := []) (rest := [.ref b35, .ref a0]) hx hb hml hts hown hK hJ rfl rfl (c_X6_init l G P b35 σ36 σ38 e39) me_X6_init kw_251 rfl kw_250 (Nat.le_of_ble_eq_true rfl) (Nat.le_of_ble_eq_true rfl) rfl hl.1 rfl (Nat.le_of_ble_eq_true rfl) dX11_init_67 (fun H locs hJ => ?_)
    obtain ⟨σ40, e41, hf⟩ := mb0 hf
    refine my_pR hx hb hts hown hK hJ fd_RX11_33 cd_11 (Or.inr ⟨rfl, hname, rfl⟩) ft_11_3 e41 dX11_init_70 (fun H locs hJ => ?_)
    refine lv_aload_n hx hb dX11_init_73 rfl (lv_at hl 0 rfl) ?_
    obtain ⟨b42, σ43, e44, hf⟩ := mc0 hf
    refine mx_nO hx hb hts wi_2 cd_2.1 hown hK hJ rfl rfl (ci := 2) rfl e44 kw_287 kw_288 kw_7 df_2 dX11_init_74 (fun H locs hJ => ?_)
    refine lv_dup hx hb dX11_init_77 rfl ?_
    obtain ⟨σ45, e46, hf⟩ := mb0 hf
    refine mx_callI (As := []) (rest := [.ref b42, .ref a0]) hx hb hml hts hown hK hJ rfl rfl (c_X2_init l G P b42 σ43 σ45 e46) me_X2_init kw_290 rfl kw_289 (Nat.le_of_ble_eq_true rfl) (Nat.le_of_ble_eq_true rfl) rfl hl.1 rfl (Nat.le_of_ble_eq_true rfl) dX11_init_78 (fun H locs hJ => ?_)
    obtain ⟨σ47, e48, hf⟩ := mb0 hf
    refine my_pR hx hb hts hown hK hJ fd_RX11_40 cd_11 (Or.inr ⟨rfl, hname, rfl⟩) ft_11_4 e48 dX11_init_81 (fun H locs hJ => ?_)
    refine lv_aload_n hx hb dX11_init_84 rfl (lv_at hl 0 rfl) ?_
    obtain ⟨b49, σ50, e51, hf⟩ := mc0 hf
    refine mx_nO hx hb hts wi_3 cd_3.1 hown hK hJ rfl rfl (ci := 3) rfl e51 kw_331 kw_148 kw_4 df_3 dX11_init_85 (fun H locs hJ => ?_)
    refine lv_dup hx hb dX11_init_88 rfl ?_
    obtain ⟨σ52, e53, hf⟩ := mb0 hf
    refine mx_callI (As := []) (rest := [.ref b49, .ref a0]) hx hb hml hts hown hK hJ rfl rfl (c_X3_init l G P b49 σ50 σ52 e53) me_X3_init kw_150 rfl kw_332 (Nat.le_of_ble_eq_true rfl) (Nat.le_of_ble_eq_true rfl) rfl hl.1 rfl (Nat.le_of_ble_eq_true rfl) dX11_init_89 (fun H locs hJ => ?_)
    obtain ⟨σ54, e55, hf⟩ := mb0 hf
    refine my_pR hx hb hts hown hK hJ fd_RX11_47 cd_11 (Or.inr ⟨rfl, hname, rfl⟩) ft_11_5 e55 dX11_init_92 (fun H locs hJ => ?_)
    refine lv_aload_n hx hb dX11_init_95 rfl (lv_at hl 0 rfl) ?_
    obtain ⟨b56, σ57, e58, hf⟩ := mc0 hf
    refine mx_nO hx hb hts wi_7 cd_7.1 hown hK hJ rfl rfl (ci := 7) rfl e58 kw_333 kw_334 kw_8 df_7 dX11_init_96 (fun H locs hJ => ?_)
    refine lv_dup hx hb dX11_init_99 rfl ?_
    obtain ⟨σ59, e60, hf⟩ := mb0 hf
    refine mx_callI (As := []) (rest := [.ref b56, .ref a0]) hx hb hml hts hown hK hJ rfl rfl (c_X7_init l G P b56 σ57 σ59 e60) me_X7_init kw_336 rfl kw_335 (Nat.le_of_ble_eq_true rfl) (Nat.le_of_ble_eq_true rfl) rfl hl.1 rfl (Nat.le_of_ble_eq_true rfl) dX11_init_100 (fun H locs hJ => ?_)
    obtain ⟨σ61, e62, hf⟩ := mb0 hf
    refine my_pR hx hb hts hown hK hJ fd_RX11_54 cd_11 (Or.inl rfl) ft_11_6 e62 dX11_init_103 (fun H locs hJ => ?_)
    refine lv_aload_n hx hb dX11_init_106 rfl (lv_at hl 0 rfl) ?_
    obtain ⟨b63, σ64, e65, hf⟩ := mc0 hf
    refine mx_nO hx hb hts wi_7 cd_7.1 hown hK hJ rfl rfl (ci := 7) rfl e65 kw_333 kw_334 kw_8 df_7 dX11_init_107 (fun H locs hJ => ?_)
    refine lv_dup hx hb dX11_init_110 rfl ?_
    obtain ⟨σ66, e67, hf⟩ := mb0 hf
    refine mx_callI (As := []) (rest := [.ref b63, .ref a0]) hx hb hml hts hown hK hJ rfl rfl (c_X7_init l G P b63 σ64 σ66 e67) me_X7_init kw_336 rfl kw_335 (Nat.le_of_ble_eq_true rfl) (Nat.le_of_ble_eq_true rfl) rfl hl.1 rfl (Nat.le_of_ble_eq_true rfl) dX11_init_111 (fun H locs hJ => ?_)
    obtain ⟨σ68, e69, hf⟩ := mb0 hf
    refine my_pR hx hb hts hown hK hJ fd_RX11_58 cd_11 (Or.inl rfl) ft_11_7 e69 dX11_init_114 (fun H locs hJ => ?_)
    refine lv_aload_n hx hb dX11_init_117 rfl (lv_at hl 0 rfl) ?_
    obtain ⟨b70, σ71, e72, hf⟩ := mc0 hf
    refine mx_nO hx hb hts wi_1 cd_1.1 hown hK hJ rfl rfl (ci := 1) rfl e72 kw_558 kw_559 kw_12 df_1 dX11_init_118 (fun H locs hJ => ?_)
    refine lv_dup hx hb dX11_init_121 rfl ?_
    obtain ⟨σ73, e74, hf⟩ := mb0 hf
    refine mx_callI (As := []) (rest := [.ref b70, .ref a0]) hx hb hml hts hown hK hJ rfl rfl (c_X1_init l G P b70 σ71 σ73 e74) me_X1_init kw_561 rfl kw_560 (Nat.le_of_ble_eq_true rfl) (Nat.le_of_ble_eq_true rfl) rfl hl.1 rfl (Nat.le_of_ble_eq_true rfl) dX11_init_122 (fun H locs hJ => ?_)
    obtain ⟨σ75, e76, hf⟩ := mb0 hf
    refine my_pR hx hb hts hown hK hJ fd_RX11_64 cd_11 (Or.inl rfl) ft_11_8 e76 dX11_init_125 (fun H locs hJ => ?_)
    refine lv_aload_n hx hb dX11_init_128 rfl (lv_at hl 0 rfl) ?_
    obtain ⟨b77, σ78, e79, hf⟩ := mc0 hf
    refine mx_nO hx hb hts wi_1 cd_1.1 hown hK hJ rfl rfl (ci := 1) rfl e79 kw_558 kw_559 kw_12 df_1 dX11_init_129 (fun H locs hJ => ?_)
    refine lv_dup hx hb dX11_init_132 rfl ?_
    obtain ⟨σ80, e81, hf⟩ := mb0 hf
    refine mx_callI (As := []) (rest := [.ref b77, .ref a0]) hx hb hml hts hown hK hJ rfl rfl (c_X1_init l G P b77 σ78 σ80 e81) me_X1_init kw_561 rfl kw_560 (Nat.le_of_ble_eq_true rfl) (Nat.le_of_ble_eq_true rfl) rfl hl.1 rfl (Nat.le_of_ble_eq_true rfl) dX11_init_133 (fun H locs hJ => ?_)
    obtain ⟨σ82, e83, hf⟩ := mb0 hf
    refine my_pR hx hb hts hown hK hJ fd_RX11_68 cd_11 (Or.inl rfl) ft_11_9 e83 dX11_init_136 (fun H locs hJ => ?_)
    exact my_vret hx hb hr hlocks hJ hf dX11_init_139
set_option maxHeartbeats 4000000 in
set_option maxRecDepth 100000 in
theorem c_X11_feed (l : Launch) (G : mx_G) (P : mx_P) (a0 : Nat) (p1 : Int32) (p2 : Int32) (p3 : Int32) (p4 : Int32) (p5 : Int32) (σ : mx_S) (r : Int32) (σ' : mx_S) (hf : f_X11_feed P a0 p1 p2 p3 p4 p5 σ = some (.inr (r, σ'))) : mxz σ ≤ mpc P → mxu σ ≤ mps P → mx_M l yX11_feed cX11_feed 6 (some .int) 6 81 G P [.ref a0, .int p1, .int p2, .int p3, .int p4, .int p5] σ (some (.int r)) σ' := by
  intro hcap hcau
  refine mx_ofW (by decide +kernel) hcap hcau (Nat.le_of_ble_eq_true rfl) ?_
  intro p e s m below meth c hx hb hr hml hts hown hlocks hname hK hJ ls hl
  have hz0 := hJ.2.1
  have hown : s.vm.findClass RX11 = some m.cls := hown
  have hl : lv_has ls 6 [(0, .ref a0), (1, .int p1), (2, .int p2), (3, .int p3), (4, .int p4), (5, .int p5)] := hl
  unfold f_X11_feed at hf
  refine lv_aload_n hx hb dX11_feed_0 rfl (lv_at hl 0 rfl) ?_
  obtain ⟨b1, e2, hf⟩ := mb0 hf
  refine my_gR hx hb hts hown hK hJ fd_RX11_10 hv_11_0 e2 dX11_feed_1 ?_
  refine lv_bipush (v := 20) hx hb dX11_feed_4 (by decide) ?_
  obtain ⟨i3, e4, hf⟩ := mb0 hf
  obtain ⟨x6, σ5, e7, hf⟩ := mc0 hf
  refine mx_callV (As := [.int (20 : Int32)]) (rest := []) hx hb hml hts hown hK hJ rfl rfl (ci := 10) rfl e4 (c_X10_hasRoom l G P b1 (20 : Int32) σ x6 σ5 e7) me_X10_hasRoom kw_923 kw_924 kw_922 (Nat.le_of_ble_eq_true rfl) (Nat.le_of_ble_eq_true rfl) rfl hl.1 rfl (Nat.le_of_ble_eq_true rfl) dX11_feed_6 (fun H locs hJ => ?_)
  refine lv_if_ne (tgt := 20) hx hb dX11_feed_9 (by decide) (fun c8 => ?_) (fun c8 => ?_)
  · rw [if_neg c8] at hf
    refine lv_aload_n hx hb dX11_feed_20 rfl (lv_at hl 0 rfl) ?_
    obtain ⟨b9, e10, hf⟩ := mb0 hf
    refine my_gR hx hb hts hown hK hJ fd_RX11_10 hv_11_0 e10 dX11_feed_21 ?_
    refine lv_iload_n hx hb dX11_feed_24 rfl (lv_at hl 1 rfl) ?_
    obtain ⟨i11, e12, hf⟩ := mb0 hf
    obtain ⟨σ13, e14, hf⟩ := mb0 hf
    refine mx_callV (As := [.int p1]) (rest := []) hx hb hml hts hown hK hJ rfl rfl (ci := 10) rfl e12 (c_X10_gather l G P b9 p1 σ5 σ13 e14) me_X10_gather kw_992 kw_993 kw_991 (Nat.le_of_ble_eq_true rfl) (Nat.le_of_ble_eq_true rfl) rfl hl.1 rfl (Nat.le_of_ble_eq_true rfl) dX11_feed_25 (fun H locs hJ => ?_)
    refine lv_aload_n hx hb dX11_feed_28 rfl (lv_at hl 0 rfl) ?_
    obtain ⟨b15, e16, hf⟩ := mb0 hf
    refine my_gR hx hb hts hown hK hJ fd_RX11_10 hv_11_0 e16 dX11_feed_29 ?_
    refine lv_iload_n hx hb dX11_feed_32 rfl (lv_at hl 2 rfl) ?_
    obtain ⟨i17, e18, hf⟩ := mb0 hf
    obtain ⟨σ19, e20, hf⟩ := mb0 hf
    refine mx_callV (As := [.int p2]) (rest := []) hx hb hml hts hown hK hJ rfl rfl (ci := 10) rfl e18 (c_X10_gather l G P b15 p2 σ13 σ19 e20) me_X10_gather kw_992 kw_993 kw_991 (Nat.le_of_ble_eq_true rfl) (Nat.le_of_ble_eq_true rfl) rfl hl.1 rfl (Nat.le_of_ble_eq_true rfl) dX11_feed_33 (fun H locs hJ => ?_)
    refine lv_aload_n hx hb dX11_feed_36 rfl (lv_at hl 0 rfl) ?_
    obtain ⟨b21, e22, hf⟩ := mb0 hf
    refine my_gR hx hb hts hown hK hJ fd_RX11_10 hv_11_0 e22 dX11_feed_37 ?_
    refine lv_iload_n hx hb dX11_feed_40 rfl (lv_at hl 3 rfl) ?_
    obtain ⟨i23, e24, hf⟩ := mb0 hf
    obtain ⟨σ25, e26, hf⟩ := mb0 hf
    refine mx_callV (As := [.int p3]) (rest := []) hx hb hml hts hown hK hJ rfl rfl (ci := 10) rfl e24 (c_X10_gather l G P b21 p3 σ19 σ25 e26) me_X10_gather kw_992 kw_993 kw_991 (Nat.le_of_ble_eq_true rfl) (Nat.le_of_ble_eq_true rfl) rfl hl.1 rfl (Nat.le_of_ble_eq_true rfl) dX11_feed_41 (fun H locs hJ => ?_)
    refine lv_aload_n hx hb dX11_feed_44 rfl (lv_at hl 0 rfl) ?_
    obtain ⟨b27, e28, hf⟩ := mb0 hf
    refine my_gR hx hb hts hown hK hJ fd_RX11_10 hv_11_0 e28 dX11_feed_45 ?_
    refine lv_iload hx hb dX11_feed_48 (lv_at hl 4 rfl) ?_
    obtain ⟨i29, e30, hf⟩ := mb0 hf
    obtain ⟨σ31, e32, hf⟩ := mb0 hf
    refine mx_callV (As := [.int p4]) (rest := []) hx hb hml hts hown hK hJ rfl rfl (ci := 10) rfl e30 (c_X10_gather l G P b27 p4 σ25 σ31 e32) me_X10_gather kw_992 kw_993 kw_991 (Nat.le_of_ble_eq_true rfl) (Nat.le_of_ble_eq_true rfl) rfl hl.1 rfl (Nat.le_of_ble_eq_true rfl) dX11_feed_50 (fun H locs hJ => ?_)
    refine lv_aload_n hx hb dX11_feed_53 rfl (lv_at hl 0 rfl) ?_
    obtain ⟨b33, e34, hf⟩ := mb0 hf
    refine my_gR hx hb hts hown hK hJ fd_RX11_10 hv_11_0 e34 dX11_feed_54 ?_
    refine lv_iload hx hb dX11_feed_57 (lv_at hl 5 rfl) ?_
    obtain ⟨i35, e36, hf⟩ := mb0 hf
    obtain ⟨σ37, e38, hf⟩ := mb0 hf
    refine mx_callV (As := [.int p5]) (rest := []) hx hb hml hts hown hK hJ rfl rfl (ci := 10) rfl e36 (c_X10_gather l G P b33 p5 σ31 σ37 e38) me_X10_gather kw_992 kw_993 kw_991 (Nat.le_of_ble_eq_true rfl) (Nat.le_of_ble_eq_true rfl) rfl hl.1 rfl (Nat.le_of_ble_eq_true rfl) dX11_feed_59 (fun H locs hJ => ?_)
    refine lv_aload_n hx hb dX11_feed_62 rfl (lv_at hl 0 rfl) ?_
    obtain ⟨b39, e40, hf⟩ := mb0 hf
    refine my_gR hx hb hts hown hK hJ fd_RX11_10 hv_11_0 e40 dX11_feed_63 ?_
    obtain ⟨x41, e42, hf⟩ := mb0 hf
    refine my_gI hx hb hts hown hK hJ fd_RX11_82 hv_10_1 e42 dX11_feed_66 ?_
    exact my_iret hx hb hr hlocks hJ (mx_inr hf) dX11_feed_69
  · rw [if_pos c8] at hf
    obtain ⟨σ43, e44, hf⟩ := mb0 hf
    cases hf
set_option maxHeartbeats 4000000 in
set_option maxRecDepth 100000 in
theorem ct_X11_feed (l : Launch) (hlt : l.stackTraces = false) (G : mx_G) (P : mx_P) (a0 : Nat) (p1 : Int32) (p2 : Int32) (p3 : Int32) (p4 : Int32) (p5 : Int32) (σ : mx_S) (E : String) (σ' : mx_S) (hf : f_X11_feed P a0 p1 p2 p3 p4 p5 σ = some (.inl (E, σ'))) : mxz σ ≤ mpc P → mxu σ ≤ mps P → mx_Mt l yX11_feed cX11_feed 6 (some .int) 6 81 G P [.ref a0, .int p1, .int p2, .int p3, .int p4, .int p5] σ E σ' := by
  intro hcap hcau
  refine mx_ofWt (by decide +kernel) hcap hcau (Nat.le_of_ble_eq_true rfl) ?_
  intro p e s m below meth c hx hb hr hml hts hown hlocks hname hnt hK hJ ls hl
  have hz0 := hJ.2.1
  have hown : s.vm.findClass RX11 = some m.cls := hown
  have hl : lv_has ls 6 [(0, .ref a0), (1, .int p1), (2, .int p2), (3, .int p3), (4, .int p4), (5, .int p5)] := hl
  unfold f_X11_feed at hf
  refine lv_aload_n hx hb dX11_feed_0 rfl (lv_at hl 0 rfl) ?_
  obtain ⟨b1, e2, hf⟩ := mb0 hf
  refine my_gR hx hb hts hown hK hJ fd_RX11_10 hv_11_0 e2 dX11_feed_1 ?_
  refine lv_bipush (v := 20) hx hb dX11_feed_4 (by decide) ?_
  obtain ⟨i3, e4, hf⟩ := mb0 hf
  obtain ⟨x6, σ5, e7, hf⟩ := mc0 hf
  refine mx_callV (As := [.int (20 : Int32)]) (rest := []) hx hb hml hts hown hK hJ rfl rfl (ci := 10) rfl e4 (c_X10_hasRoom l G P b1 (20 : Int32) σ x6 σ5 e7) me_X10_hasRoom kw_923 kw_924 kw_922 (Nat.le_of_ble_eq_true rfl) (Nat.le_of_ble_eq_true rfl) rfl hl.1 rfl (Nat.le_of_ble_eq_true rfl) dX11_feed_6 (fun H locs hJ => ?_)
  refine lv_if_ne (tgt := 20) hx hb dX11_feed_9 (by decide) (fun c8 => ?_) (fun c8 => ?_)
  · rw [if_neg c8] at hf
    refine lv_aload_n hx hb dX11_feed_20 rfl (lv_at hl 0 rfl) ?_
    obtain ⟨b9, e10, hf⟩ := mb0 hf
    refine my_gR hx hb hts hown hK hJ fd_RX11_10 hv_11_0 e10 dX11_feed_21 ?_
    refine lv_iload_n hx hb dX11_feed_24 rfl (lv_at hl 1 rfl) ?_
    obtain ⟨i11, e12, hf⟩ := mb0 hf
    obtain ⟨σ13, e14, hf⟩ := mb0 hf
    refine mx_callV (As := [.int p1]) (rest := []) hx hb hml hts hown hK hJ rfl rfl (ci := 10) rfl e12 (c_X10_gather l G P b9 p1 σ5 σ13 e14) me_X10_gather kw_992 kw_993 kw_991 (Nat.le_of_ble_eq_true rfl) (Nat.le_of_ble_eq_true rfl) rfl hl.1 rfl (Nat.le_of_ble_eq_true rfl) dX11_feed_25 (fun H locs hJ => ?_)
    refine lv_aload_n hx hb dX11_feed_28 rfl (lv_at hl 0 rfl) ?_
    obtain ⟨b15, e16, hf⟩ := mb0 hf
    refine my_gR hx hb hts hown hK hJ fd_RX11_10 hv_11_0 e16 dX11_feed_29 ?_
    refine lv_iload_n hx hb dX11_feed_32 rfl (lv_at hl 2 rfl) ?_
    obtain ⟨i17, e18, hf⟩ := mb0 hf
    obtain ⟨σ19, e20, hf⟩ := mb0 hf
    refine mx_callV (As := [.int p2]) (rest := []) hx hb hml hts hown hK hJ rfl rfl (ci := 10) rfl e18 (c_X10_gather l G P b15 p2 σ13 σ19 e20) me_X10_gather kw_992 kw_993 kw_991 (Nat.le_of_ble_eq_true rfl) (Nat.le_of_ble_eq_true rfl) rfl hl.1 rfl (Nat.le_of_ble_eq_true rfl) dX11_feed_33 (fun H locs hJ => ?_)
    refine lv_aload_n hx hb dX11_feed_36 rfl (lv_at hl 0 rfl) ?_
    obtain ⟨b21, e22, hf⟩ := mb0 hf
    refine my_gR hx hb hts hown hK hJ fd_RX11_10 hv_11_0 e22 dX11_feed_37 ?_
    refine lv_iload_n hx hb dX11_feed_40 rfl (lv_at hl 3 rfl) ?_
    obtain ⟨i23, e24, hf⟩ := mb0 hf
    obtain ⟨σ25, e26, hf⟩ := mb0 hf
    refine mx_callV (As := [.int p3]) (rest := []) hx hb hml hts hown hK hJ rfl rfl (ci := 10) rfl e24 (c_X10_gather l G P b21 p3 σ19 σ25 e26) me_X10_gather kw_992 kw_993 kw_991 (Nat.le_of_ble_eq_true rfl) (Nat.le_of_ble_eq_true rfl) rfl hl.1 rfl (Nat.le_of_ble_eq_true rfl) dX11_feed_41 (fun H locs hJ => ?_)
    refine lv_aload_n hx hb dX11_feed_44 rfl (lv_at hl 0 rfl) ?_
    obtain ⟨b27, e28, hf⟩ := mb0 hf
    refine my_gR hx hb hts hown hK hJ fd_RX11_10 hv_11_0 e28 dX11_feed_45 ?_
    refine lv_iload hx hb dX11_feed_48 (lv_at hl 4 rfl) ?_
    obtain ⟨i29, e30, hf⟩ := mb0 hf
    obtain ⟨σ31, e32, hf⟩ := mb0 hf
    refine mx_callV (As := [.int p4]) (rest := []) hx hb hml hts hown hK hJ rfl rfl (ci := 10) rfl e30 (c_X10_gather l G P b27 p4 σ25 σ31 e32) me_X10_gather kw_992 kw_993 kw_991 (Nat.le_of_ble_eq_true rfl) (Nat.le_of_ble_eq_true rfl) rfl hl.1 rfl (Nat.le_of_ble_eq_true rfl) dX11_feed_50 (fun H locs hJ => ?_)
    refine lv_aload_n hx hb dX11_feed_53 rfl (lv_at hl 0 rfl) ?_
    obtain ⟨b33, e34, hf⟩ := mb0 hf
    refine my_gR hx hb hts hown hK hJ fd_RX11_10 hv_11_0 e34 dX11_feed_54 ?_
    refine lv_iload hx hb dX11_feed_57 (lv_at hl 5 rfl) ?_
    obtain ⟨i35, e36, hf⟩ := mb0 hf
    obtain ⟨σ37, e38, hf⟩ := mb0 hf
    refine mx_callV (As := [.int p5]) (rest := []) hx hb hml hts hown hK hJ rfl rfl (ci := 10) rfl e36 (c_X10_gather l G P b33 p5 σ31 σ37 e38) me_X10_gather kw_992 kw_993 kw_991 (Nat.le_of_ble_eq_true rfl) (Nat.le_of_ble_eq_true rfl) rfl hl.1 rfl (Nat.le_of_ble_eq_true rfl) dX11_feed_59 (fun H locs hJ => ?_)
    refine lv_aload_n hx hb dX11_feed_62 rfl (lv_at hl 0 rfl) ?_
    obtain ⟨b39, e40, hf⟩ := mb0 hf
    refine my_gR hx hb hts hown hK hJ fd_RX11_10 hv_11_0 e40 dX11_feed_63 ?_
    obtain ⟨x41, e42, hf⟩ := mb0 hf
    refine my_gI hx hb hts hown hK hJ fd_RX11_82 hv_10_1 e42 dX11_feed_66 ?_
    cases hf
  · rw [if_pos c8] at hf
    obtain ⟨σ43, e44, hf⟩ := mb0 hf
    have hE : some (Sum.inl ("java/lang/IndexOutOfBoundsException", σ43) : (String × mx_S) ⊕ _) = some (.inl (E, σ')) := hf
    obtain ⟨rfl, rfl⟩ := mx_inl hE
    exact mx_thr hx hb hlt hts hown hK hz0 hJ rfl rfl hnt hlocks tw_RX11_77 (by rw [hml]; exact hl.1.symm) dX11_feed_12 dX11_feed_15 dX11_feed_16 dX11_feed_19 (Nat.le_of_ble_eq_true rfl) (Nat.le_of_ble_eq_true rfl) e44
set_option maxHeartbeats 4000000 in
set_option maxRecDepth 100000 in
theorem c_X11_needRange (l : Launch) (G : mx_G) (P : mx_P) (p0 : Int32) (p1 : Int32) (p2 : Int32) (σ : mx_S) (σ' : mx_S) (hf : f_X11_needRange P p0 p1 p2 σ = some (.inr σ')) : mxz σ ≤ mpc P → mxu σ ≤ mps P → mx_M l yX11_needRange cX11_needRange 3 none 6 81 G P [.int p0, .int p1, .int p2] σ none σ' := by
  intro hcap hcau
  refine mx_ofW (by decide +kernel) hcap hcau (Nat.le_of_ble_eq_true rfl) ?_
  intro p e s m below meth c hx hb hr hml hts hown hlocks hname hK hJ ls hl
  have hz0 := hJ.2.1
  have hown : s.vm.findClass RX11 = some m.cls := hown
  have hl : lv_has ls 3 [(0, .int p0), (1, .int p1), (2, .int p2)] := hl
  have D10 : ∀  (τ : mx_S), f_X11_needRange_D10 P  τ = some (.inr σ') → ∀ (H : Heap) (locs : List Loc), mx_J G P s.heap (mxz σ) (mxu σ) τ H locs → ∀ ls : Array Slot, lv_has ls 3 [] → W p l e (mx_rm P 6 81 σ) s m ([.int p0, .int p1, .int p2] : List Value).toArray below meth c H locs (mxz τ - mxz σ) (mxu τ - mxu σ) (mx_Z below G P none σ σ' [.int p0, .int p1, .int p2] s) (F0 m 10 ls []) := by
    intro  τ hf _ _ hJ ls hl
    unfold f_X11_needRange_D10 at hf
    obtain ⟨σ2, e3, hf⟩ := mb0 hf
    cases hf
  unfold f_X11_needRange at hf
  refine lv_iload_n hx hb dX11_needRange_0 rfl (lv_at hl 0 rfl) ?_
  refine lv_iload_n hx hb dX11_needRange_1 rfl (lv_at hl 1 rfl) ?_
  refine lv_icmp_lt (tgt := 10) hx hb dX11_needRange_2 (by decide) (fun c1 => ?_) (fun c1 => ?_)
  · rw [if_pos c1] at hf
    exact D10  σ hf _ _ hJ ls (lv_sub hl [] rfl)
  · rw [if_neg c1] at hf
    refine lv_iload_n hx hb dX11_needRange_5 rfl (lv_at hl 0 rfl) ?_
    refine lv_iload_n hx hb dX11_needRange_6 rfl (lv_at hl 2 rfl) ?_
    refine lv_icmp_le (tgt := 18) hx hb dX11_needRange_7 (by decide) (fun c4 => ?_) (fun c4 => ?_)
    · rw [if_pos c4] at hf
      exact my_vret hx hb hr hlocks hJ (mx_inr hf) dX11_needRange_18
    · rw [if_neg c4] at hf
      exact D10  σ hf _ _ hJ ls (lv_sub hl [] rfl)
set_option maxHeartbeats 4000000 in
set_option maxRecDepth 100000 in
theorem ct_X11_needRange (l : Launch) (hlt : l.stackTraces = false) (G : mx_G) (P : mx_P) (p0 : Int32) (p1 : Int32) (p2 : Int32) (σ : mx_S) (E : String) (σ' : mx_S) (hf : f_X11_needRange P p0 p1 p2 σ = some (.inl (E, σ'))) : mxz σ ≤ mpc P → mxu σ ≤ mps P → mx_Mt l yX11_needRange cX11_needRange 3 none 6 81 G P [.int p0, .int p1, .int p2] σ E σ' := by
  intro hcap hcau
  refine mx_ofWt (by decide +kernel) hcap hcau (Nat.le_of_ble_eq_true rfl) ?_
  intro p e s m below meth c hx hb hr hml hts hown hlocks hname hnt hK hJ ls hl
  have hz0 := hJ.2.1
  have hown : s.vm.findClass RX11 = some m.cls := hown
  have hl : lv_has ls 3 [(0, .int p0), (1, .int p1), (2, .int p2)] := hl
  have D10 : ∀  (τ : mx_S), f_X11_needRange_D10 P  τ = some (.inl (E, σ')) → ∀ (H : Heap) (locs : List Loc), mx_J G P s.heap (mxz σ) (mxu σ) τ H locs → ∀ ls : Array Slot, lv_has ls 3 [] → W p l e (mx_rm P 6 81 σ) s m ([.int p0, .int p1, .int p2] : List Value).toArray below meth c H locs (mxz τ - mxz σ) (mxu τ - mxu σ) (mx_Zt below G P E σ σ' [.int p0, .int p1, .int p2] s) (F0 m 10 ls []) := by
    intro  τ hf _ _ hJ ls hl
    unfold f_X11_needRange_D10 at hf
    obtain ⟨σ2, e3, hf⟩ := mb0 hf
    have hE : some (Sum.inl ("java/lang/IllegalArgumentException", σ2) : (String × mx_S) ⊕ _) = some (.inl (E, σ')) := hf
    obtain ⟨rfl, rfl⟩ := mx_inl hE
    exact mx_thr hx hb hlt hts hown hK hz0 hJ rfl rfl hnt hlocks tw_RX11_340 (by rw [hml]; exact hl.1.symm) dX11_needRange_10 dX11_needRange_13 dX11_needRange_14 dX11_needRange_17 (Nat.le_of_ble_eq_true rfl) (Nat.le_of_ble_eq_true rfl) e3
  unfold f_X11_needRange at hf
  refine lv_iload_n hx hb dX11_needRange_0 rfl (lv_at hl 0 rfl) ?_
  refine lv_iload_n hx hb dX11_needRange_1 rfl (lv_at hl 1 rfl) ?_
  refine lv_icmp_lt (tgt := 10) hx hb dX11_needRange_2 (by decide) (fun c1 => ?_) (fun c1 => ?_)
  · rw [if_pos c1] at hf
    exact D10  σ hf _ _ hJ ls (lv_sub hl [] rfl)
  · rw [if_neg c1] at hf
    refine lv_iload_n hx hb dX11_needRange_5 rfl (lv_at hl 0 rfl) ?_
    refine lv_iload_n hx hb dX11_needRange_6 rfl (lv_at hl 2 rfl) ?_
    refine lv_icmp_le (tgt := 18) hx hb dX11_needRange_7 (by decide) (fun c4 => ?_) (fun c4 => ?_)
    · rw [if_pos c4] at hf
      cases hf
    · rw [if_neg c4] at hf
      exact D10  σ hf _ _ hJ ls (lv_sub hl [] rfl)
set_option maxHeartbeats 4000000 in
set_option maxRecDepth 100000 in
theorem c_X11_end (l : Launch) (G : mx_G) (P : mx_P) (a0 : Nat) (p1 : Int32) (σ : mx_S) (r : Int32) (σ' : mx_S) (hf : f_X11_end P a0 p1 σ = some (.inr (r, σ'))) : mxz σ ≤ mpc P → mxu σ ≤ mps P → mx_M l yX11_end cX11_end 2 (some .int) 7 103 G P [.ref a0, .int p1] σ (some (.int r)) σ' := by
  intro hcap hcau
  refine mx_ofW (by decide +kernel) hcap hcau (Nat.le_of_ble_eq_true rfl) ?_
  intro p e s m below meth c hx hb hr hml hts hown hlocks hname hK hJ ls hl
  have hz0 := hJ.2.1
  have hown : s.vm.findClass RX11 = some m.cls := hown
  have hl : lv_has ls 2 [(0, .ref a0), (1, .int p1)] := hl
  unfold f_X11_end at hf
  refine lv_iload_n hx hb dX11_end_0 rfl (lv_at hl 1 rfl) ?_
  refine lv_iconst (v := 0) hx hb dX11_end_1 (by decide) ?_
  refine lv_aload_n hx hb dX11_end_2 rfl (lv_at hl 0 rfl) ?_
  obtain ⟨b1, e2, hf⟩ := mb0 hf
  refine my_gR hx hb hts hown hK hJ fd_RX11_10 hv_11_0 e2 dX11_end_3 ?_
  obtain ⟨x3, e4, hf⟩ := mb0 hf
  refine my_gI hx hb hts hown hK hJ fd_RX11_82 hv_10_1 e4 dX11_end_6 ?_
  obtain ⟨σ5, e6, hf⟩ := mbx_n hf
  refine mx_callS (As := [.int p1, .int (0 : Int32), .int x3]) (rest := []) hx hb hml hts hown hK hJ rfl rfl (c_X11_needRange l G P p1 (0 : Int32) x3 σ σ5 e6) me_X11_needRange kw_1005 kw_1004 (Nat.le_of_ble_eq_true rfl) (Nat.le_of_ble_eq_true rfl) rfl hl.1 rfl (Nat.le_of_ble_eq_true rfl) dX11_end_9 (fun H locs hJ => ?_)
  refine lv_aload_n hx hb dX11_end_12 rfl (lv_at hl 0 rfl) ?_
  obtain ⟨b7, e8, hf⟩ := mb0 hf
  refine my_gR hx hb hts hown hK hJ fd_RX11_10 hv_11_0 e8 dX11_end_13 ?_
  refine lv_iload_n hx hb dX11_end_16 rfl (lv_at hl 1 rfl) ?_
  obtain ⟨σ9, e10, hf⟩ := mb0 hf
  refine my_pI hx hb hts hown hK hJ fd_RX11_82 cd_10 (Or.inl rfl) ht_10_1 e10 dX11_end_17 (fun H locs hJ => ?_)
  refine lv_iload_n hx hb dX11_end_20 rfl (lv_at hl 1 rfl) ?_
  exact my_iret hx hb hr hlocks hJ (mx_inr hf) dX11_end_21
set_option maxHeartbeats 4000000 in
set_option maxRecDepth 100000 in
theorem ct_X11_end (l : Launch) (hlt : l.stackTraces = false) (G : mx_G) (P : mx_P) (a0 : Nat) (p1 : Int32) (σ : mx_S) (E : String) (σ' : mx_S) (hf : f_X11_end P a0 p1 σ = some (.inl (E, σ'))) : mxz σ ≤ mpc P → mxu σ ≤ mps P → mx_Mt l yX11_end cX11_end 2 (some .int) 7 103 G P [.ref a0, .int p1] σ E σ' := by
  intro hcap hcau
  refine mx_ofWt (by decide +kernel) hcap hcau (Nat.le_of_ble_eq_true rfl) ?_
  intro p e s m below meth c hx hb hr hml hts hown hlocks hname hnt hK hJ ls hl
  have hz0 := hJ.2.1
  have hown : s.vm.findClass RX11 = some m.cls := hown
  have hl : lv_has ls 2 [(0, .ref a0), (1, .int p1)] := hl
  unfold f_X11_end at hf
  refine lv_iload_n hx hb dX11_end_0 rfl (lv_at hl 1 rfl) ?_
  refine lv_iconst (v := 0) hx hb dX11_end_1 (by decide) ?_
  refine lv_aload_n hx hb dX11_end_2 rfl (lv_at hl 0 rfl) ?_
  obtain ⟨b1, e2, hf⟩ := mb0 hf
  refine my_gR hx hb hts hown hK hJ fd_RX11_10 hv_11_0 e2 dX11_end_3 ?_
  obtain ⟨x3, e4, hf⟩ := mb0 hf
  refine my_gI hx hb hts hown hK hJ fd_RX11_82 hv_10_1 e4 dX11_end_6 ?_
  rcases mbx_t hf with e6 | ⟨σ5, e6, hf⟩
  · exact mx_callST (As := [.int p1, .int (0 : Int32), .int x3]) (rest := []) hx hb hml hts hown hK hJ rfl rfl hnt hlocks (ct_X11_needRange l hlt G P p1 (0 : Int32) x3 σ E σ' e6) me_X11_needRange kw_1005 kw_1004 (Nat.le_of_ble_eq_true rfl) (Nat.le_of_ble_eq_true rfl) rfl hl.1 rfl (Nat.le_of_ble_eq_true rfl) dX11_end_9
  refine mx_callS (As := [.int p1, .int (0 : Int32), .int x3]) (rest := []) hx hb hml hts hown hK hJ rfl rfl (c_X11_needRange l G P p1 (0 : Int32) x3 σ σ5 e6) me_X11_needRange kw_1005 kw_1004 (Nat.le_of_ble_eq_true rfl) (Nat.le_of_ble_eq_true rfl) rfl hl.1 rfl (Nat.le_of_ble_eq_true rfl) dX11_end_9 (fun H locs hJ => ?_)
  refine lv_aload_n hx hb dX11_end_12 rfl (lv_at hl 0 rfl) ?_
  obtain ⟨b7, e8, hf⟩ := mb0 hf
  refine my_gR hx hb hts hown hK hJ fd_RX11_10 hv_11_0 e8 dX11_end_13 ?_
  refine lv_iload_n hx hb dX11_end_16 rfl (lv_at hl 1 rfl) ?_
  obtain ⟨σ9, e10, hf⟩ := mb0 hf
  refine my_pI hx hb hts hown hK hJ fd_RX11_82 cd_10 (Or.inl rfl) ht_10_1 e10 dX11_end_17 (fun H locs hJ => ?_)
  refine lv_iload_n hx hb dX11_end_20 rfl (lv_at hl 1 rfl) ?_
  cases hf
set_option maxHeartbeats 4000000 in
set_option maxRecDepth 100000 in
theorem c_X11_fault (l : Launch) (G : mx_G) (P : mx_P) (a0 : Nat) (p1 : Int32) (σ : mx_S) (r : Int32) (σ' : mx_S) (hf : f_X11_fault P a0 p1 σ = some (r, σ')) : mxz σ ≤ mpc P → mxu σ ≤ mps P → mx_M l yX11_fault cX11_fault 2 (some .int) 0 0 G P [.ref a0, .int p1] σ (some (.int r)) σ' := by
  intro hcap hcau
  refine mx_ofW (by decide +kernel) hcap hcau (Nat.le_of_ble_eq_true rfl) ?_
  intro p e s m below meth c hx hb hr hml hts hown hlocks hname hK hJ ls hl
  have hz0 := hJ.2.1
  have hown : s.vm.findClass RX11 = some m.cls := hown
  have hl : lv_has ls 2 [(0, .ref a0), (1, .int p1)] := hl
  have D28 : ∀ (w0 : Int32) (τ : mx_S), f_X11_fault_D28 P w0 τ = some (r, σ') → ∀ (H : Heap) (locs : List Loc), mx_J G P s.heap (mxz σ) (mxu σ) τ H locs → ∀ ls : Array Slot, lv_has ls 2 [] → W p l e (mx_rm P 0 0 σ) s m ([.ref a0, .int p1] : List Value).toArray below meth c H locs (mxz τ - mxz σ) (mxu τ - mxu σ) (mx_Z below G P (some (.int r)) σ σ' [.ref a0, .int p1] s) (F0 m 28 ls [.int w0]) := by
    intro w0 τ hf _ _ hJ ls hl
    unfold f_X11_fault_D28 at hf
    exact my_iret hx hb hr hlocks hJ hf dX11_fault_28
  unfold f_X11_fault at hf
  refine lv_iload_n hx hb dX11_fault_0 rfl (lv_at hl 1 rfl) ?_
  refine lv_if_ne (tgt := 12) hx hb dX11_fault_1 (by decide) (fun c1 => ?_) (fun c1 => ?_)
  · rw [if_neg c1] at hf
    refine lv_iload_n hx hb dX11_fault_12 rfl (lv_at hl 1 rfl) ?_
    refine lv_iconst (v := 1) hx hb dX11_fault_13 (by decide) ?_
    refine lv_icmp_ne (tgt := 27) hx hb dX11_fault_14 (by decide) (fun c2 => ?_) (fun c2 => ?_)
    · rw [if_neg c2] at hf
      refine lv_iconst (v := (-1)) hx hb dX11_fault_27 (by decide) ?_
      exact D28 (-1 : Int32) σ hf _ _ hJ ls (lv_sub hl [] rfl)
    · rw [if_pos c2] at hf
      refine lv_aload_n hx hb dX11_fault_17 rfl (lv_at hl 0 rfl) ?_
      obtain ⟨b3, e4, hf⟩ := mb0 hf
      refine my_gR hx hb hts hown hK hJ fd_RX11_10 hv_11_0 e4 dX11_fault_18 ?_
      obtain ⟨x5, e6, hf⟩ := mb0 hf
      refine my_gI hx hb hts hown hK hJ fd_RX11_93 hv_10_3 e6 dX11_fault_21 ?_
      refine lv_goto (tgt := 28) hx hb dX11_fault_24 (by decide) ?_
      exact D28 x5 σ hf _ _ hJ ls (lv_sub hl [] rfl)
  · rw [if_pos c1] at hf
    refine lv_aload_n hx hb dX11_fault_4 rfl (lv_at hl 0 rfl) ?_
    obtain ⟨b7, e8, hf⟩ := mb0 hf
    refine my_gR hx hb hts hown hK hJ fd_RX11_10 hv_11_0 e8 dX11_fault_5 ?_
    obtain ⟨x9, e10, hf⟩ := mb0 hf
    refine my_gI hx hb hts hown hK hJ fd_RX11_90 hv_10_2 e10 dX11_fault_8 ?_
    exact my_iret hx hb hr hlocks hJ hf dX11_fault_11
set_option maxHeartbeats 4000000 in
set_option maxRecDepth 100000 in
theorem c_X11_linkage (l : Launch) (G : mx_G) (P : mx_P) (a0 : Nat) (σ : mx_S) (r : Int32) (σ' : mx_S) (hf : f_X11_linkage P a0 σ = some (.inr (r, σ'))) : mxz σ ≤ mpc P → mxu σ ≤ mps P → mx_M l yX11_linkage cX11_linkage 3 (some .int) 8 177 G P [.ref a0] σ (some (.int r)) σ' := by
  intro hcap hcau
  refine mx_ofW (by decide +kernel) hcap hcau (Nat.le_of_ble_eq_true rfl) ?_
  intro p e s m below meth c hx hb hr hml hts hown hlocks hname hK hJ ls hl
  have hz0 := hJ.2.1
  have hown : s.vm.findClass RX11 = some m.cls := hown
  have hl : lv_has ls 3 [(0, .ref a0)] := hl
  unfold f_X11_linkage at hf
  refine lv_aload_n hx hb dX11_linkage_0 rfl (lv_at hl 0 rfl) ?_
  obtain ⟨b1, e2, hf⟩ := mb0 hf
  refine my_gR hx hb hts hown hK hJ fd_RX11_58 hv_11_7 e2 dX11_linkage_1 ?_
  refine lv_aload_n hx hb dX11_linkage_4 rfl (lv_at hl 0 rfl) ?_
  obtain ⟨b3, e4, hf⟩ := mb0 hf
  refine my_gR hx hb hts hown hK hJ fd_RX11_10 hv_11_0 e4 dX11_linkage_5 ?_
  obtain ⟨i5, e6, hf⟩ := mb0 hf
  obtain ⟨x8, σ7, e9, hf⟩ := mc0 hf
  refine mx_callV (As := [.ref b3]) (rest := []) hx hb hml hts hown hK hJ rfl rfl (ci := 7) rfl e6 (c_X7_isRead l G P b1 b3 σ x8 σ7 e9) me_X7_isRead kw_1031 kw_1032 kw_1030 (Nat.le_of_ble_eq_true rfl) (Nat.le_of_ble_eq_true rfl) rfl hl.1 rfl (Nat.le_of_ble_eq_true rfl) dX11_linkage_8 (fun H locs hJ => ?_)
  refine lv_istore_n (lv' := [(1, .int x8), (0, .ref a0)]) hx hb dX11_linkage_11 rfl hl (by decide) rfl (fun ls hl => ?_)
  refine lv_aload_n hx hb dX11_linkage_12 rfl (lv_at hl 1 rfl) ?_
  obtain ⟨b10, e11, hf⟩ := mb0 hf
  refine my_gR hx hb hts hown hK hJ fd_RX11_10 hv_11_0 e11 dX11_linkage_13 ?_
  refine lv_iconst (v := 0) hx hb dX11_linkage_16 (by decide) ?_
  obtain ⟨σ12, e13, hf⟩ := mb0 hf
  refine my_pI hx hb hts hown hK hJ fd_RX11_82 cd_10 (Or.inl rfl) ht_10_1 e13 dX11_linkage_17 (fun H locs hJ => ?_)
  refine lv_iload_n hx hb dX11_linkage_20 rfl (lv_at hl 0 rfl) ?_
  refine lv_if_ne (tgt := 32) hx hb dX11_linkage_21 (by decide) (fun c14 => ?_) (fun c14 => ?_)
  · rw [if_neg c14] at hf
    refine lv_aload_n hx hb dX11_linkage_32 rfl (lv_at hl 1 rfl) ?_
    obtain ⟨b15, e16, hf⟩ := mb0 hf
    refine my_gR hx hb hts hown hK hJ fd_RX11_54 hv_11_6 e16 dX11_linkage_33 ?_
    refine lv_astore_n (lv' := [(2, .ref b15), (1, .int x8), (0, .ref a0)]) hx hb dX11_linkage_36 rfl hl (by decide) rfl (fun ls hl => ?_)
    refine lv_aload_n hx hb dX11_linkage_37 rfl (lv_at hl 2 rfl) ?_
    refine lv_aload_n hx hb dX11_linkage_38 rfl (lv_at hl 2 rfl) ?_
    obtain ⟨b17, e18, hf⟩ := mb0 hf
    refine my_gR hx hb hts hown hK hJ fd_RX11_58 hv_11_7 e18 dX11_linkage_39 ?_
    obtain ⟨σ19, e20, hf⟩ := mb0 hf
    refine my_pR hx hb hts hown hK hJ fd_RX11_54 cd_11 (Or.inl rfl) ft_11_6 e20 dX11_linkage_42 (fun H locs hJ => ?_)
    refine lv_aload_n hx hb dX11_linkage_45 rfl (lv_at hl 2 rfl) ?_
    refine lv_aload_n hx hb dX11_linkage_46 rfl (lv_at hl 0 rfl) ?_
    obtain ⟨σ21, e22, hf⟩ := mb0 hf
    refine my_pR hx hb hts hown hK hJ fd_RX11_58 cd_11 (Or.inl rfl) ft_11_7 e22 dX11_linkage_47 (fun H locs hJ => ?_)
    refine lv_aload_n hx hb dX11_linkage_50 rfl (lv_at hl 2 rfl) ?_
    obtain ⟨b23, e24, hf⟩ := mb0 hf
    refine my_gR hx hb hts hown hK hJ fd_RX11_54 hv_11_6 e24 dX11_linkage_51 ?_
    obtain ⟨x25, e26, hf⟩ := mb0 hf
    refine my_gI hx hb hts hown hK hJ fd_RX11_103 hv_7_2 e26 dX11_linkage_54 ?_
    exact my_iret hx hb hr hlocks hJ (mx_inr hf) dX11_linkage_57
  · rw [if_pos c14] at hf
    obtain ⟨σ27, e28, hf⟩ := mb0 hf
    cases hf
set_option maxHeartbeats 4000000 in
set_option maxRecDepth 100000 in
theorem ct_X11_linkage (l : Launch) (hlt : l.stackTraces = false) (G : mx_G) (P : mx_P) (a0 : Nat) (σ : mx_S) (E : String) (σ' : mx_S) (hf : f_X11_linkage P a0 σ = some (.inl (E, σ'))) : mxz σ ≤ mpc P → mxu σ ≤ mps P → mx_Mt l yX11_linkage cX11_linkage 3 (some .int) 8 177 G P [.ref a0] σ E σ' := by
  intro hcap hcau
  refine mx_ofWt (by decide +kernel) hcap hcau (Nat.le_of_ble_eq_true rfl) ?_
  intro p e s m below meth c hx hb hr hml hts hown hlocks hname hnt hK hJ ls hl
  have hz0 := hJ.2.1
  have hown : s.vm.findClass RX11 = some m.cls := hown
  have hl : lv_has ls 3 [(0, .ref a0)] := hl
  unfold f_X11_linkage at hf
  refine lv_aload_n hx hb dX11_linkage_0 rfl (lv_at hl 0 rfl) ?_
  obtain ⟨b1, e2, hf⟩ := mb0 hf
  refine my_gR hx hb hts hown hK hJ fd_RX11_58 hv_11_7 e2 dX11_linkage_1 ?_
  refine lv_aload_n hx hb dX11_linkage_4 rfl (lv_at hl 0 rfl) ?_
  obtain ⟨b3, e4, hf⟩ := mb0 hf
  refine my_gR hx hb hts hown hK hJ fd_RX11_10 hv_11_0 e4 dX11_linkage_5 ?_
  obtain ⟨i5, e6, hf⟩ := mb0 hf
  obtain ⟨x8, σ7, e9, hf⟩ := mc0 hf
  refine mx_callV (As := [.ref b3]) (rest := []) hx hb hml hts hown hK hJ rfl rfl (ci := 7) rfl e6 (c_X7_isRead l G P b1 b3 σ x8 σ7 e9) me_X7_isRead kw_1031 kw_1032 kw_1030 (Nat.le_of_ble_eq_true rfl) (Nat.le_of_ble_eq_true rfl) rfl hl.1 rfl (Nat.le_of_ble_eq_true rfl) dX11_linkage_8 (fun H locs hJ => ?_)
  refine lv_istore_n (lv' := [(1, .int x8), (0, .ref a0)]) hx hb dX11_linkage_11 rfl hl (by decide) rfl (fun ls hl => ?_)
  refine lv_aload_n hx hb dX11_linkage_12 rfl (lv_at hl 1 rfl) ?_
  obtain ⟨b10, e11, hf⟩ := mb0 hf
  refine my_gR hx hb hts hown hK hJ fd_RX11_10 hv_11_0 e11 dX11_linkage_13 ?_
  refine lv_iconst (v := 0) hx hb dX11_linkage_16 (by decide) ?_
  obtain ⟨σ12, e13, hf⟩ := mb0 hf
  refine my_pI hx hb hts hown hK hJ fd_RX11_82 cd_10 (Or.inl rfl) ht_10_1 e13 dX11_linkage_17 (fun H locs hJ => ?_)
  refine lv_iload_n hx hb dX11_linkage_20 rfl (lv_at hl 0 rfl) ?_
  refine lv_if_ne (tgt := 32) hx hb dX11_linkage_21 (by decide) (fun c14 => ?_) (fun c14 => ?_)
  · rw [if_neg c14] at hf
    refine lv_aload_n hx hb dX11_linkage_32 rfl (lv_at hl 1 rfl) ?_
    obtain ⟨b15, e16, hf⟩ := mb0 hf
    refine my_gR hx hb hts hown hK hJ fd_RX11_54 hv_11_6 e16 dX11_linkage_33 ?_
    refine lv_astore_n (lv' := [(2, .ref b15), (1, .int x8), (0, .ref a0)]) hx hb dX11_linkage_36 rfl hl (by decide) rfl (fun ls hl => ?_)
    refine lv_aload_n hx hb dX11_linkage_37 rfl (lv_at hl 2 rfl) ?_
    refine lv_aload_n hx hb dX11_linkage_38 rfl (lv_at hl 2 rfl) ?_
    obtain ⟨b17, e18, hf⟩ := mb0 hf
    refine my_gR hx hb hts hown hK hJ fd_RX11_58 hv_11_7 e18 dX11_linkage_39 ?_
    obtain ⟨σ19, e20, hf⟩ := mb0 hf
    refine my_pR hx hb hts hown hK hJ fd_RX11_54 cd_11 (Or.inl rfl) ft_11_6 e20 dX11_linkage_42 (fun H locs hJ => ?_)
    refine lv_aload_n hx hb dX11_linkage_45 rfl (lv_at hl 2 rfl) ?_
    refine lv_aload_n hx hb dX11_linkage_46 rfl (lv_at hl 0 rfl) ?_
    obtain ⟨σ21, e22, hf⟩ := mb0 hf
    refine my_pR hx hb hts hown hK hJ fd_RX11_58 cd_11 (Or.inl rfl) ft_11_7 e22 dX11_linkage_47 (fun H locs hJ => ?_)
    refine lv_aload_n hx hb dX11_linkage_50 rfl (lv_at hl 2 rfl) ?_
    obtain ⟨b23, e24, hf⟩ := mb0 hf
    refine my_gR hx hb hts hown hK hJ fd_RX11_54 hv_11_6 e24 dX11_linkage_51 ?_
    obtain ⟨x25, e26, hf⟩ := mb0 hf
    refine my_gI hx hb hts hown hK hJ fd_RX11_103 hv_7_2 e26 dX11_linkage_54 ?_
    cases hf
  · rw [if_pos c14] at hf
    obtain ⟨σ27, e28, hf⟩ := mb0 hf
    have hE : some (Sum.inl ("java/lang/UnsupportedOperationException", σ27) : (String × mx_S) ⊕ _) = some (.inl (E, σ')) := hf
    obtain ⟨rfl, rfl⟩ := mx_inl hE
    exact mx_thr hx hb hlt hts hown hK hz0 hJ rfl rfl hnt hlocks tw_RX11_102 (by rw [hml]; exact hl.1.symm) dX11_linkage_24 dX11_linkage_27 dX11_linkage_28 dX11_linkage_31 (Nat.le_of_ble_eq_true rfl) (Nat.le_of_ble_eq_true rfl) e28
set_option maxHeartbeats 4000000 in
set_option maxRecDepth 100000 in
theorem c_X11_point (l : Launch) (G : mx_G) (P : mx_P) (a0 : Nat) (σ : mx_S) (r : Int32) (σ' : mx_S) (hf : f_X11_point P a0 σ = some (r, σ')) : mxz σ ≤ mpc P → mxu σ ≤ mps P → mx_M l yX11_point cX11_point 1 (some .int) 2 44 G P [.ref a0] σ (some (.int r)) σ' := by
  intro hcap hcau
  refine mx_ofW (by decide +kernel) hcap hcau (Nat.le_of_ble_eq_true rfl) ?_
  intro p e s m below meth c hx hb hr hml hts hown hlocks hname hK hJ ls hl
  have hz0 := hJ.2.1
  have hown : s.vm.findClass RX11 = some m.cls := hown
  have hl : lv_has ls 1 [(0, .ref a0)] := hl
  unfold f_X11_point at hf
  refine lv_aload_n hx hb dX11_point_0 rfl (lv_at hl 0 rfl) ?_
  obtain ⟨b1, e2, hf⟩ := mb0 hf
  refine my_gR hx hb hts hown hK hJ fd_RX11_54 hv_11_6 e2 dX11_point_1 ?_
  refine lv_aload_n hx hb dX11_point_4 rfl (lv_at hl 0 rfl) ?_
  obtain ⟨b3, e4, hf⟩ := mb0 hf
  refine my_gR hx hb hts hown hK hJ fd_RX11_10 hv_11_0 e4 dX11_point_5 ?_
  obtain ⟨i5, e6, hf⟩ := mb0 hf
  obtain ⟨x8, σ7, e9, hf⟩ := mc0 hf
  refine mx_callV (As := []) (rest := [.ref b1]) hx hb hml hts hown hK hJ rfl rfl (ci := 10) rfl e6 (c_X10_wholeName l G P b3 σ x8 σ7 e9) me_X10_wholeName kw_632 kw_633 kw_631 (Nat.le_of_ble_eq_true rfl) (Nat.le_of_ble_eq_true rfl) rfl hl.1 rfl (Nat.le_of_ble_eq_true rfl) dX11_point_8 (fun H locs hJ => ?_)
  obtain ⟨i10, e11, hf⟩ := mb0 hf
  obtain ⟨x13, σ12, e14, hf⟩ := mc0 hf
  refine mx_callV (As := [.long x8]) (rest := []) hx hb hml hts hown hK hJ rfl rfl (ci := 7) rfl e11 (c_X7_numberOf l G P b1 x8 σ7 x13 σ12 e14) me_X7_numberOf kw_643 kw_644 kw_642 (Nat.le_of_ble_eq_true rfl) (Nat.le_of_ble_eq_true rfl) rfl hl.1 rfl (Nat.le_of_ble_eq_true rfl) dX11_point_11 (fun H locs hJ => ?_)
  exact my_iret hx hb hr hlocks hJ hf dX11_point_14
set_option maxHeartbeats 4000000 in
set_option maxRecDepth 100000 in
theorem c_X11_input (l : Launch) (G : mx_G) (P : mx_P) (a0 : Nat) (p1 : Int32) (p2 : Int32) (σ : mx_S) (σ' : mx_S) (hf : f_X11_input P a0 p1 p2 σ = some (.inr σ')) : mxz σ ≤ mpc P → mxu σ ≤ mps P → mx_M l yX11_input cX11_input 3 none 7 103 G P [.ref a0, .int p1, .int p2] σ none σ' := by
  intro hcap hcau
  refine mx_ofW (by decide +kernel) hcap hcau (Nat.le_of_ble_eq_true rfl) ?_
  intro p e s m below meth c hx hb hr hml hts hown hlocks hname hK hJ ls hl
  have hz0 := hJ.2.1
  have hown : s.vm.findClass RX11 = some m.cls := hown
  have hl : lv_has ls 3 [(0, .ref a0), (1, .int p1), (2, .int p2)] := hl
  unfold f_X11_input at hf
  refine lv_iload_n hx hb dX11_input_0 rfl (lv_at hl 1 rfl) ?_
  refine lv_iconst (v := 0) hx hb dX11_input_1 (by decide) ?_
  refine lv_iconst (v := 3) hx hb dX11_input_2 (by decide) ?_
  obtain ⟨σ1, e2, hf⟩ := mbx_n hf
  refine mx_callS (As := [.int p1, .int (0 : Int32), .int (3 : Int32)]) (rest := []) hx hb hml hts hown hK hJ rfl rfl (c_X11_needRange l G P p1 (0 : Int32) (3 : Int32) σ σ1 e2) me_X11_needRange kw_1005 kw_1004 (Nat.le_of_ble_eq_true rfl) (Nat.le_of_ble_eq_true rfl) rfl hl.1 rfl (Nat.le_of_ble_eq_true rfl) dX11_input_3 (fun H locs hJ => ?_)
  refine lv_iload_n hx hb dX11_input_6 rfl (lv_at hl 2 rfl) ?_
  refine lv_iconst (v := 0) hx hb dX11_input_7 (by decide) ?_
  refine lv_sipush (v := 1023) hx hb dX11_input_8 (by decide) ?_
  obtain ⟨σ3, e4, hf⟩ := mbx_n hf
  refine mx_callS (As := [.int p2, .int (0 : Int32), .int (1023 : Int32)]) (rest := []) hx hb hml hts hown hK hJ rfl rfl (c_X11_needRange l G P p2 (0 : Int32) (1023 : Int32) σ1 σ3 e4) me_X11_needRange kw_1005 kw_1004 (Nat.le_of_ble_eq_true rfl) (Nat.le_of_ble_eq_true rfl) rfl hl.1 rfl (Nat.le_of_ble_eq_true rfl) dX11_input_11 (fun H locs hJ => ?_)
  refine lv_aload_n hx hb dX11_input_14 rfl (lv_at hl 0 rfl) ?_
  obtain ⟨b5, e6, hf⟩ := mb0 hf
  refine my_gR hx hb hts hown hK hJ fd_RX11_54 hv_11_6 e6 dX11_input_15 ?_
  refine lv_iload_n hx hb dX11_input_18 rfl (lv_at hl 1 rfl) ?_
  refine lv_iload_n hx hb dX11_input_19 rfl (lv_at hl 2 rfl) ?_
  obtain ⟨i7, e8, hf⟩ := mb0 hf
  obtain ⟨σ9, e10, hf⟩ := mb0 hf
  refine mx_callV (As := [.int p1, .int p2]) (rest := []) hx hb hml hts hown hK hJ rfl rfl (ci := 7) rfl e8 (c_X7_moveTo l G P b5 p1 p2 σ3 σ9 e10) me_X7_moveTo kw_1035 kw_1036 kw_1230 (Nat.le_of_ble_eq_true rfl) (Nat.le_of_ble_eq_true rfl) rfl hl.1 rfl (Nat.le_of_ble_eq_true rfl) dX11_input_20 (fun H locs hJ => ?_)
  exact my_vret hx hb hr hlocks hJ (mx_inr hf) dX11_input_23
set_option maxHeartbeats 4000000 in
set_option maxRecDepth 100000 in
theorem ct_X11_input (l : Launch) (hlt : l.stackTraces = false) (G : mx_G) (P : mx_P) (a0 : Nat) (p1 : Int32) (p2 : Int32) (σ : mx_S) (E : String) (σ' : mx_S) (hf : f_X11_input P a0 p1 p2 σ = some (.inl (E, σ'))) : mxz σ ≤ mpc P → mxu σ ≤ mps P → mx_Mt l yX11_input cX11_input 3 none 7 103 G P [.ref a0, .int p1, .int p2] σ E σ' := by
  intro hcap hcau
  refine mx_ofWt (by decide +kernel) hcap hcau (Nat.le_of_ble_eq_true rfl) ?_
  intro p e s m below meth c hx hb hr hml hts hown hlocks hname hnt hK hJ ls hl
  have hz0 := hJ.2.1
  have hown : s.vm.findClass RX11 = some m.cls := hown
  have hl : lv_has ls 3 [(0, .ref a0), (1, .int p1), (2, .int p2)] := hl
  unfold f_X11_input at hf
  refine lv_iload_n hx hb dX11_input_0 rfl (lv_at hl 1 rfl) ?_
  refine lv_iconst (v := 0) hx hb dX11_input_1 (by decide) ?_
  refine lv_iconst (v := 3) hx hb dX11_input_2 (by decide) ?_
  rcases mbx_t hf with e2 | ⟨σ1, e2, hf⟩
  · exact mx_callST (As := [.int p1, .int (0 : Int32), .int (3 : Int32)]) (rest := []) hx hb hml hts hown hK hJ rfl rfl hnt hlocks (ct_X11_needRange l hlt G P p1 (0 : Int32) (3 : Int32) σ E σ' e2) me_X11_needRange kw_1005 kw_1004 (Nat.le_of_ble_eq_true rfl) (Nat.le_of_ble_eq_true rfl) rfl hl.1 rfl (Nat.le_of_ble_eq_true rfl) dX11_input_3
  refine mx_callS (As := [.int p1, .int (0 : Int32), .int (3 : Int32)]) (rest := []) hx hb hml hts hown hK hJ rfl rfl (c_X11_needRange l G P p1 (0 : Int32) (3 : Int32) σ σ1 e2) me_X11_needRange kw_1005 kw_1004 (Nat.le_of_ble_eq_true rfl) (Nat.le_of_ble_eq_true rfl) rfl hl.1 rfl (Nat.le_of_ble_eq_true rfl) dX11_input_3 (fun H locs hJ => ?_)
  refine lv_iload_n hx hb dX11_input_6 rfl (lv_at hl 2 rfl) ?_
  refine lv_iconst (v := 0) hx hb dX11_input_7 (by decide) ?_
  refine lv_sipush (v := 1023) hx hb dX11_input_8 (by decide) ?_
  rcases mbx_t hf with e4 | ⟨σ3, e4, hf⟩
  · exact mx_callST (As := [.int p2, .int (0 : Int32), .int (1023 : Int32)]) (rest := []) hx hb hml hts hown hK hJ rfl rfl hnt hlocks (ct_X11_needRange l hlt G P p2 (0 : Int32) (1023 : Int32) σ1 E σ' e4) me_X11_needRange kw_1005 kw_1004 (Nat.le_of_ble_eq_true rfl) (Nat.le_of_ble_eq_true rfl) rfl hl.1 rfl (Nat.le_of_ble_eq_true rfl) dX11_input_11
  refine mx_callS (As := [.int p2, .int (0 : Int32), .int (1023 : Int32)]) (rest := []) hx hb hml hts hown hK hJ rfl rfl (c_X11_needRange l G P p2 (0 : Int32) (1023 : Int32) σ1 σ3 e4) me_X11_needRange kw_1005 kw_1004 (Nat.le_of_ble_eq_true rfl) (Nat.le_of_ble_eq_true rfl) rfl hl.1 rfl (Nat.le_of_ble_eq_true rfl) dX11_input_11 (fun H locs hJ => ?_)
  refine lv_aload_n hx hb dX11_input_14 rfl (lv_at hl 0 rfl) ?_
  obtain ⟨b5, e6, hf⟩ := mb0 hf
  refine my_gR hx hb hts hown hK hJ fd_RX11_54 hv_11_6 e6 dX11_input_15 ?_
  refine lv_iload_n hx hb dX11_input_18 rfl (lv_at hl 1 rfl) ?_
  refine lv_iload_n hx hb dX11_input_19 rfl (lv_at hl 2 rfl) ?_
  obtain ⟨i7, e8, hf⟩ := mb0 hf
  obtain ⟨σ9, e10, hf⟩ := mb0 hf
  refine mx_callV (As := [.int p1, .int p2]) (rest := []) hx hb hml hts hown hK hJ rfl rfl (ci := 7) rfl e8 (c_X7_moveTo l G P b5 p1 p2 σ3 σ9 e10) me_X7_moveTo kw_1035 kw_1036 kw_1230 (Nat.le_of_ble_eq_true rfl) (Nat.le_of_ble_eq_true rfl) rfl hl.1 rfl (Nat.le_of_ble_eq_true rfl) dX11_input_20 (fun H locs hJ => ?_)
  cases hf
set_option maxHeartbeats 4000000 in
set_option maxRecDepth 100000 in
theorem c_X11_ways (l : Launch) (G : mx_G) (P : mx_P) (a0 : Nat) (σ : mx_S) (r : Int32) (σ' : mx_S) (hf : f_X11_ways P a0 σ = some (r, σ')) : mxz σ ≤ mpc P → mxu σ ≤ mps P → mx_M l yX11_ways cX11_ways 1 (some .int) 6 154 G P [.ref a0] σ (some (.int r)) σ' := by
  intro hcap hcau
  refine mx_ofW (by decide +kernel) hcap hcau (Nat.le_of_ble_eq_true rfl) ?_
  intro p e s m below meth c hx hb hr hml hts hown hlocks hname hK hJ ls hl
  have hz0 := hJ.2.1
  have hown : s.vm.findClass RX11 = some m.cls := hown
  have hl : lv_has ls 1 [(0, .ref a0)] := hl
  unfold f_X11_ways at hf
  refine lv_aload_n hx hb dX11_ways_0 rfl (lv_at hl 0 rfl) ?_
  obtain ⟨b1, e2, hf⟩ := mb0 hf
  refine my_gR hx hb hts hown hK hJ fd_RX11_54 hv_11_6 e2 dX11_ways_1 ?_
  obtain ⟨i3, e4, hf⟩ := mb0 hf
  obtain ⟨σ5, e6, hf⟩ := mb0 hf
  refine mx_callV (As := []) (rest := []) hx hb hml hts hown hK hJ rfl rfl (ci := 7) rfl e4 (c_X7_listWays l G P b1 σ σ5 e6) me_X7_listWays kw_651 kw_652 kw_650 (Nat.le_of_ble_eq_true rfl) (Nat.le_of_ble_eq_true rfl) rfl hl.1 rfl (Nat.le_of_ble_eq_true rfl) dX11_ways_4 (fun H locs hJ => ?_)
  refine lv_aload_n hx hb dX11_ways_7 rfl (lv_at hl 0 rfl) ?_
  obtain ⟨b7, e8, hf⟩ := mb0 hf
  refine my_gR hx hb hts hown hK hJ fd_RX11_54 hv_11_6 e8 dX11_ways_8 ?_
  obtain ⟨x9, e10, hf⟩ := mb0 hf
  refine my_gI hx hb hts hown hK hJ fd_RX11_121 hv_7_9 e10 dX11_ways_11 ?_
  exact my_iret hx hb hr hlocks hJ hf dX11_ways_14
set_option maxHeartbeats 4000000 in
set_option maxRecDepth 100000 in
theorem c_X11_isWithin (l : Launch) (G : mx_G) (P : mx_P) (p0 : Int32) (p1 : Int32) (σ : mx_S) (r : Int32) (σ' : mx_S) (hf : f_X11_isWithin P p0 p1 σ = some (r, σ')) : mxz σ ≤ mpc P → mxu σ ≤ mps P → mx_M l yX11_isWithin cX11_isWithin 2 (some .boolean) 0 0 G P [.int p0, .int p1] σ (some (.int r)) σ' := by
  intro hcap hcau
  refine mx_ofW (by decide +kernel) hcap hcau (Nat.le_of_ble_eq_true rfl) ?_
  intro p e s m below meth c hx hb hr hml hts hown hlocks hname hK hJ ls hl
  have hz0 := hJ.2.1
  have hown : s.vm.findClass RX11 = some m.cls := hown
  have hl : lv_has ls 2 [(0, .int p0), (1, .int p1)] := hl
  have D14 : ∀ (w0 : Int32) (τ : mx_S), f_X11_isWithin_D14 P w0 τ = some (r, σ') → ∀ (H : Heap) (locs : List Loc), mx_J G P s.heap (mxz σ) (mxu σ) τ H locs → ∀ ls : Array Slot, lv_has ls 2 [] → W p l e (mx_rm P 0 0 σ) s m ([.int p0, .int p1] : List Value).toArray below meth c H locs (mxz τ - mxz σ) (mxu τ - mxu σ) (mx_Z below G P (some (.int r)) σ σ' [.int p0, .int p1] s) (F0 m 14 ls [.int w0]) := by
    intro w0 τ hf _ _ hJ ls hl
    unfold f_X11_isWithin_D14 at hf
    exact mx_zret hx hb hr hlocks hJ hf dX11_isWithin_14
  have D13 : ∀  (τ : mx_S), f_X11_isWithin_D13 P  τ = some (r, σ') → ∀ (H : Heap) (locs : List Loc), mx_J G P s.heap (mxz σ) (mxu σ) τ H locs → ∀ ls : Array Slot, lv_has ls 2 [] → W p l e (mx_rm P 0 0 σ) s m ([.int p0, .int p1] : List Value).toArray below meth c H locs (mxz τ - mxz σ) (mxu τ - mxu σ) (mx_Z below G P (some (.int r)) σ σ' [.int p0, .int p1] s) (F0 m 13 ls []) := by
    intro  τ hf _ _ hJ ls hl
    unfold f_X11_isWithin_D13 at hf
    refine lv_iconst (v := 0) hx hb dX11_isWithin_13 (by decide) ?_
    exact D14 (0 : Int32) τ hf _ _ hJ ls (lv_sub hl [] rfl)
  unfold f_X11_isWithin at hf
  refine lv_iload_n hx hb dX11_isWithin_0 rfl (lv_at hl 0 rfl) ?_
  refine lv_if_lt (tgt := 13) hx hb dX11_isWithin_1 (by decide) (fun c1 => ?_) (fun c1 => ?_)
  · rw [if_pos c1] at hf
    exact D13  σ hf _ _ hJ ls (lv_sub hl [] rfl)
  · rw [if_neg c1] at hf
    refine lv_iload_n hx hb dX11_isWithin_4 rfl (lv_at hl 0 rfl) ?_
    refine lv_iload_n hx hb dX11_isWithin_5 rfl (lv_at hl 1 rfl) ?_
    refine lv_icmp_ge (tgt := 13) hx hb dX11_isWithin_6 (by decide) (fun c2 => ?_) (fun c2 => ?_)
    · rw [if_pos c2] at hf
      exact D13  σ hf _ _ hJ ls (lv_sub hl [] rfl)
    · rw [if_neg c2] at hf
      refine lv_iconst (v := 1) hx hb dX11_isWithin_9 (by decide) ?_
      refine lv_goto (tgt := 14) hx hb dX11_isWithin_10 (by decide) ?_
      exact D14 (1 : Int32) σ hf _ _ hJ ls (lv_sub hl [] rfl)
set_option maxHeartbeats 4000000 in
set_option maxRecDepth 100000 in
theorem c_X11_needPresence (l : Launch) (G : mx_G) (P : mx_P) (p0 : Int32) (σ : mx_S) (σ' : mx_S) (hf : f_X11_needPresence P p0 σ = some (.inr σ')) : mxz σ ≤ mpc P → mxu σ ≤ mps P → mx_M l yX11_needPresence cX11_needPresence 1 none 6 81 G P [.int p0] σ none σ' := by
  intro hcap hcau
  refine mx_ofW (by decide +kernel) hcap hcau (Nat.le_of_ble_eq_true rfl) ?_
  intro p e s m below meth c hx hb hr hml hts hown hlocks hname hK hJ ls hl
  have hz0 := hJ.2.1
  have hown : s.vm.findClass RX11 = some m.cls := hown
  have hl : lv_has ls 1 [(0, .int p0)] := hl
  unfold f_X11_needPresence at hf
  refine lv_iload_n hx hb dX11_needPresence_0 rfl (lv_at hl 0 rfl) ?_
  refine lv_if_ne (tgt := 12) hx hb dX11_needPresence_1 (by decide) (fun c1 => ?_) (fun c1 => ?_)
  · rw [if_neg c1] at hf
    exact my_vret hx hb hr hlocks hJ (mx_inr hf) dX11_needPresence_12
  · rw [if_pos c1] at hf
    obtain ⟨σ2, e3, hf⟩ := mb0 hf
    cases hf
set_option maxHeartbeats 4000000 in
set_option maxRecDepth 100000 in
theorem ct_X11_needPresence (l : Launch) (hlt : l.stackTraces = false) (G : mx_G) (P : mx_P) (p0 : Int32) (σ : mx_S) (E : String) (σ' : mx_S) (hf : f_X11_needPresence P p0 σ = some (.inl (E, σ'))) : mxz σ ≤ mpc P → mxu σ ≤ mps P → mx_Mt l yX11_needPresence cX11_needPresence 1 none 6 81 G P [.int p0] σ E σ' := by
  intro hcap hcau
  refine mx_ofWt (by decide +kernel) hcap hcau (Nat.le_of_ble_eq_true rfl) ?_
  intro p e s m below meth c hx hb hr hml hts hown hlocks hname hnt hK hJ ls hl
  have hz0 := hJ.2.1
  have hown : s.vm.findClass RX11 = some m.cls := hown
  have hl : lv_has ls 1 [(0, .int p0)] := hl
  unfold f_X11_needPresence at hf
  refine lv_iload_n hx hb dX11_needPresence_0 rfl (lv_at hl 0 rfl) ?_
  refine lv_if_ne (tgt := 12) hx hb dX11_needPresence_1 (by decide) (fun c1 => ?_) (fun c1 => ?_)
  · rw [if_neg c1] at hf
    cases hf
  · rw [if_pos c1] at hf
    obtain ⟨σ2, e3, hf⟩ := mb0 hf
    have hE : some (Sum.inl ("java/util/NoSuchElementException", σ2) : (String × mx_S) ⊕ _) = some (.inl (E, σ')) := hf
    obtain ⟨rfl, rfl⟩ := mx_inl hE
    exact mx_thr hx hb hlt hts hown hK hz0 hJ rfl rfl hnt hlocks tw_RX11_343 (by rw [hml]; exact hl.1.symm) dX11_needPresence_4 dX11_needPresence_7 dX11_needPresence_8 dX11_needPresence_11 (Nat.le_of_ble_eq_true rfl) (Nat.le_of_ble_eq_true rfl) e3
set_option maxHeartbeats 4000000 in
set_option maxRecDepth 100000 in
theorem c_X11_way (l : Launch) (G : mx_G) (P : mx_P) (a0 : Nat) (p1 : Int32) (p2 : Int32) (σ : mx_S) (r : Int32) (σ' : mx_S) (hf : f_X11_way P a0 p1 p2 σ = some (.inr (r, σ'))) : mxz σ ≤ mpc P → mxu σ ≤ mps P → mx_M l yX11_way cX11_way 3 (some .int) 7 154 G P [.ref a0, .int p1, .int p2] σ (some (.int r)) σ' := by
  intro hcap hcau
  refine mx_ofW (by decide +kernel) hcap hcau (Nat.le_of_ble_eq_true rfl) ?_
  intro p e s m below meth c hx hb hr hml hts hown hlocks hname hK hJ ls hl
  have hz0 := hJ.2.1
  have hown : s.vm.findClass RX11 = some m.cls := hown
  have hl : lv_has ls 3 [(0, .ref a0), (1, .int p1), (2, .int p2)] := hl
  have D52 : ∀ (w0 : Int32) (τ : mx_S), f_X11_way_D52 P w0 τ = some (.inr (r, σ')) → ∀ (H : Heap) (locs : List Loc), mx_J G P s.heap (mxz σ) (mxu σ) τ H locs → ∀ ls : Array Slot, lv_has ls 3 [] → W p l e (mx_rm P 7 154 σ) s m ([.ref a0, .int p1, .int p2] : List Value).toArray below meth c H locs (mxz τ - mxz σ) (mxu τ - mxu σ) (mx_Z below G P (some (.int r)) σ σ' [.ref a0, .int p1, .int p2] s) (F0 m 52 ls [.int w0]) := by
    intro w0 τ hf _ _ hJ ls hl
    unfold f_X11_way_D52 at hf
    exact my_iret hx hb hr hlocks hJ (mx_inr hf) dX11_way_52
  unfold f_X11_way at hf
  refine lv_iload_n hx hb dX11_way_0 rfl (lv_at hl 2 rfl) ?_
  refine lv_iconst (v := 0) hx hb dX11_way_1 (by decide) ?_
  refine lv_iconst (v := 1) hx hb dX11_way_2 (by decide) ?_
  obtain ⟨σ1, e2, hf⟩ := mbx_n hf
  refine mx_callS (As := [.int p2, .int (0 : Int32), .int (1 : Int32)]) (rest := []) hx hb hml hts hown hK hJ rfl rfl (c_X11_needRange l G P p2 (0 : Int32) (1 : Int32) σ σ1 e2) me_X11_needRange kw_1005 kw_1004 (Nat.le_of_ble_eq_true rfl) (Nat.le_of_ble_eq_true rfl) rfl hl.1 rfl (Nat.le_of_ble_eq_true rfl) dX11_way_3 (fun H locs hJ => ?_)
  refine lv_aload_n hx hb dX11_way_6 rfl (lv_at hl 0 rfl) ?_
  obtain ⟨b3, e4, hf⟩ := mb0 hf
  refine my_gR hx hb hts hown hK hJ fd_RX11_54 hv_11_6 e4 dX11_way_7 ?_
  obtain ⟨i5, e6, hf⟩ := mb0 hf
  obtain ⟨σ7, e8, hf⟩ := mb0 hf
  refine mx_callV (As := []) (rest := []) hx hb hml hts hown hK hJ rfl rfl (ci := 7) rfl e6 (c_X7_listWays l G P b3 σ1 σ7 e8) me_X7_listWays kw_651 kw_652 kw_650 (Nat.le_of_ble_eq_true rfl) (Nat.le_of_ble_eq_true rfl) rfl hl.1 rfl (Nat.le_of_ble_eq_true rfl) dX11_way_10 (fun H locs hJ => ?_)
  refine lv_iload_n hx hb dX11_way_13 rfl (lv_at hl 1 rfl) ?_
  refine lv_aload_n hx hb dX11_way_14 rfl (lv_at hl 0 rfl) ?_
  obtain ⟨b9, e10, hf⟩ := mb0 hf
  refine my_gR hx hb hts hown hK hJ fd_RX11_54 hv_11_6 e10 dX11_way_15 ?_
  obtain ⟨x11, e12, hf⟩ := mb0 hf
  refine my_gI hx hb hts hown hK hJ fd_RX11_121 hv_7_9 e12 dX11_way_18 ?_
  obtain ⟨x14, σ13, e15, hf⟩ := mc0 hf
  refine mx_callS (As := [.int p1, .int x11]) (rest := []) hx hb hml hts hown hK hJ rfl rfl (c_X11_isWithin l G P p1 x11 σ7 x14 σ13 e15) me_X11_isWithin kw_1240 kw_1239 (Nat.le_of_ble_eq_true rfl) (Nat.le_of_ble_eq_true rfl) rfl hl.1 rfl (Nat.le_of_ble_eq_true rfl) dX11_way_21 (fun H locs hJ => ?_)
  obtain ⟨σ16, e17, hf⟩ := mbx_n hf
  refine mx_callS (As := [.int x14]) (rest := []) hx hb hml hts hown hK hJ rfl rfl (c_X11_needPresence l G P x14 σ13 σ16 e17) me_X11_needPresence kw_1243 kw_1242 (Nat.le_of_ble_eq_true rfl) (Nat.le_of_ble_eq_true rfl) rfl hl.1 rfl (Nat.le_of_ble_eq_true rfl) dX11_way_24 (fun H locs hJ => ?_)
  refine lv_iload_n hx hb dX11_way_27 rfl (lv_at hl 2 rfl) ?_
  refine lv_if_ne (tgt := 43) hx hb dX11_way_28 (by decide) (fun c18 => ?_) (fun c18 => ?_)
  · rw [if_neg c18] at hf
    refine lv_aload_n hx hb dX11_way_43 rfl (lv_at hl 0 rfl) ?_
    obtain ⟨b19, e20, hf⟩ := mb0 hf
    refine my_gR hx hb hts hown hK hJ fd_RX11_54 hv_11_6 e20 dX11_way_44 ?_
    obtain ⟨b21, e22, hf⟩ := mb0 hf
    refine my_gR hx hb hts hown hK hJ fd_RX11_136 hv_7_8 e22 dX11_way_47 ?_
    refine lv_iload_n hx hb dX11_way_50 rfl (lv_at hl 1 rfl) ?_
    obtain ⟨x23, e24, hf⟩ := mb0 hf
    refine mx_aI hx hb hK hJ e24 dX11_way_51 ?_
    exact D52 x23 σ16 hf _ _ hJ ls (lv_sub hl [] rfl)
  · rw [if_pos c18] at hf
    refine lv_aload_n hx hb dX11_way_31 rfl (lv_at hl 0 rfl) ?_
    obtain ⟨b25, e26, hf⟩ := mb0 hf
    refine my_gR hx hb hts hown hK hJ fd_RX11_54 hv_11_6 e26 dX11_way_32 ?_
    obtain ⟨b27, e28, hf⟩ := mb0 hf
    refine my_gR hx hb hts hown hK hJ fd_RX11_132 hv_7_7 e28 dX11_way_35 ?_
    refine lv_iload_n hx hb dX11_way_38 rfl (lv_at hl 1 rfl) ?_
    obtain ⟨x29, e30, hf⟩ := mb0 hf
    refine mx_aI hx hb hK hJ e30 dX11_way_39 ?_
    refine lv_goto (tgt := 52) hx hb dX11_way_40 (by decide) ?_
    exact D52 x29 σ16 hf _ _ hJ ls (lv_sub hl [] rfl)
set_option maxHeartbeats 4000000 in
set_option maxRecDepth 100000 in
theorem ct_X11_way (l : Launch) (hlt : l.stackTraces = false) (G : mx_G) (P : mx_P) (a0 : Nat) (p1 : Int32) (p2 : Int32) (σ : mx_S) (E : String) (σ' : mx_S) (hf : f_X11_way P a0 p1 p2 σ = some (.inl (E, σ'))) : mxz σ ≤ mpc P → mxu σ ≤ mps P → mx_Mt l yX11_way cX11_way 3 (some .int) 7 154 G P [.ref a0, .int p1, .int p2] σ E σ' := by
  intro hcap hcau
  refine mx_ofWt (by decide +kernel) hcap hcau (Nat.le_of_ble_eq_true rfl) ?_
  intro p e s m below meth c hx hb hr hml hts hown hlocks hname hnt hK hJ ls hl
  have hz0 := hJ.2.1
  have hown : s.vm.findClass RX11 = some m.cls := hown
  have hl : lv_has ls 3 [(0, .ref a0), (1, .int p1), (2, .int p2)] := hl
  have D52 : ∀ (w0 : Int32) (τ : mx_S), f_X11_way_D52 P w0 τ = some (.inl (E, σ')) → ∀ (H : Heap) (locs : List Loc), mx_J G P s.heap (mxz σ) (mxu σ) τ H locs → ∀ ls : Array Slot, lv_has ls 3 [] → W p l e (mx_rm P 7 154 σ) s m ([.ref a0, .int p1, .int p2] : List Value).toArray below meth c H locs (mxz τ - mxz σ) (mxu τ - mxu σ) (mx_Zt below G P E σ σ' [.ref a0, .int p1, .int p2] s) (F0 m 52 ls [.int w0]) := by
    intro w0 τ hf _ _ hJ ls hl
    unfold f_X11_way_D52 at hf
    cases hf
  unfold f_X11_way at hf
  refine lv_iload_n hx hb dX11_way_0 rfl (lv_at hl 2 rfl) ?_
  refine lv_iconst (v := 0) hx hb dX11_way_1 (by decide) ?_
  refine lv_iconst (v := 1) hx hb dX11_way_2 (by decide) ?_
  rcases mbx_t hf with e2 | ⟨σ1, e2, hf⟩
  · exact mx_callST (As := [.int p2, .int (0 : Int32), .int (1 : Int32)]) (rest := []) hx hb hml hts hown hK hJ rfl rfl hnt hlocks (ct_X11_needRange l hlt G P p2 (0 : Int32) (1 : Int32) σ E σ' e2) me_X11_needRange kw_1005 kw_1004 (Nat.le_of_ble_eq_true rfl) (Nat.le_of_ble_eq_true rfl) rfl hl.1 rfl (Nat.le_of_ble_eq_true rfl) dX11_way_3
  refine mx_callS (As := [.int p2, .int (0 : Int32), .int (1 : Int32)]) (rest := []) hx hb hml hts hown hK hJ rfl rfl (c_X11_needRange l G P p2 (0 : Int32) (1 : Int32) σ σ1 e2) me_X11_needRange kw_1005 kw_1004 (Nat.le_of_ble_eq_true rfl) (Nat.le_of_ble_eq_true rfl) rfl hl.1 rfl (Nat.le_of_ble_eq_true rfl) dX11_way_3 (fun H locs hJ => ?_)
  refine lv_aload_n hx hb dX11_way_6 rfl (lv_at hl 0 rfl) ?_
  obtain ⟨b3, e4, hf⟩ := mb0 hf
  refine my_gR hx hb hts hown hK hJ fd_RX11_54 hv_11_6 e4 dX11_way_7 ?_
  obtain ⟨i5, e6, hf⟩ := mb0 hf
  obtain ⟨σ7, e8, hf⟩ := mb0 hf
  refine mx_callV (As := []) (rest := []) hx hb hml hts hown hK hJ rfl rfl (ci := 7) rfl e6 (c_X7_listWays l G P b3 σ1 σ7 e8) me_X7_listWays kw_651 kw_652 kw_650 (Nat.le_of_ble_eq_true rfl) (Nat.le_of_ble_eq_true rfl) rfl hl.1 rfl (Nat.le_of_ble_eq_true rfl) dX11_way_10 (fun H locs hJ => ?_)
  refine lv_iload_n hx hb dX11_way_13 rfl (lv_at hl 1 rfl) ?_
  refine lv_aload_n hx hb dX11_way_14 rfl (lv_at hl 0 rfl) ?_
  obtain ⟨b9, e10, hf⟩ := mb0 hf
  refine my_gR hx hb hts hown hK hJ fd_RX11_54 hv_11_6 e10 dX11_way_15 ?_
  obtain ⟨x11, e12, hf⟩ := mb0 hf
  refine my_gI hx hb hts hown hK hJ fd_RX11_121 hv_7_9 e12 dX11_way_18 ?_
  obtain ⟨x14, σ13, e15, hf⟩ := mc0 hf
  refine mx_callS (As := [.int p1, .int x11]) (rest := []) hx hb hml hts hown hK hJ rfl rfl (c_X11_isWithin l G P p1 x11 σ7 x14 σ13 e15) me_X11_isWithin kw_1240 kw_1239 (Nat.le_of_ble_eq_true rfl) (Nat.le_of_ble_eq_true rfl) rfl hl.1 rfl (Nat.le_of_ble_eq_true rfl) dX11_way_21 (fun H locs hJ => ?_)
  rcases mbx_t hf with e17 | ⟨σ16, e17, hf⟩
  · exact mx_callST (As := [.int x14]) (rest := []) hx hb hml hts hown hK hJ rfl rfl hnt hlocks (ct_X11_needPresence l hlt G P x14 σ13 E σ' e17) me_X11_needPresence kw_1243 kw_1242 (Nat.le_of_ble_eq_true rfl) (Nat.le_of_ble_eq_true rfl) rfl hl.1 rfl (Nat.le_of_ble_eq_true rfl) dX11_way_24
  refine mx_callS (As := [.int x14]) (rest := []) hx hb hml hts hown hK hJ rfl rfl (c_X11_needPresence l G P x14 σ13 σ16 e17) me_X11_needPresence kw_1243 kw_1242 (Nat.le_of_ble_eq_true rfl) (Nat.le_of_ble_eq_true rfl) rfl hl.1 rfl (Nat.le_of_ble_eq_true rfl) dX11_way_24 (fun H locs hJ => ?_)
  refine lv_iload_n hx hb dX11_way_27 rfl (lv_at hl 2 rfl) ?_
  refine lv_if_ne (tgt := 43) hx hb dX11_way_28 (by decide) (fun c18 => ?_) (fun c18 => ?_)
  · rw [if_neg c18] at hf
    refine lv_aload_n hx hb dX11_way_43 rfl (lv_at hl 0 rfl) ?_
    obtain ⟨b19, e20, hf⟩ := mb0 hf
    refine my_gR hx hb hts hown hK hJ fd_RX11_54 hv_11_6 e20 dX11_way_44 ?_
    obtain ⟨b21, e22, hf⟩ := mb0 hf
    refine my_gR hx hb hts hown hK hJ fd_RX11_136 hv_7_8 e22 dX11_way_47 ?_
    refine lv_iload_n hx hb dX11_way_50 rfl (lv_at hl 1 rfl) ?_
    obtain ⟨x23, e24, hf⟩ := mb0 hf
    refine mx_aI hx hb hK hJ e24 dX11_way_51 ?_
    exact D52 x23 σ16 hf _ _ hJ ls (lv_sub hl [] rfl)
  · rw [if_pos c18] at hf
    refine lv_aload_n hx hb dX11_way_31 rfl (lv_at hl 0 rfl) ?_
    obtain ⟨b25, e26, hf⟩ := mb0 hf
    refine my_gR hx hb hts hown hK hJ fd_RX11_54 hv_11_6 e26 dX11_way_32 ?_
    obtain ⟨b27, e28, hf⟩ := mb0 hf
    refine my_gR hx hb hts hown hK hJ fd_RX11_132 hv_7_7 e28 dX11_way_35 ?_
    refine lv_iload_n hx hb dX11_way_38 rfl (lv_at hl 1 rfl) ?_
    obtain ⟨x29, e30, hf⟩ := mb0 hf
    refine mx_aI hx hb hK hJ e30 dX11_way_39 ?_
    refine lv_goto (tgt := 52) hx hb dX11_way_40 (by decide) ?_
    exact D52 x29 σ16 hf _ _ hJ ls (lv_sub hl [] rfl)
set_option maxHeartbeats 4000000 in
set_option maxRecDepth 100000 in
theorem c_X11_closedNumber (l : Launch) (G : mx_G) (P : mx_P) (a0 : Nat) (p1 : Int32) (p2 : Int32) (σ : mx_S) (r : Int64) (σ' : mx_S) (hf : f_X11_closedNumber P a0 p1 p2 σ = some (.inr (r, σ'))) : mxz σ ≤ mpc P → mxu σ ≤ mps P → mx_M l yX11_closedNumber cX11_closedNumber 3 (some .long) 7 101 G P [.ref a0, .int p1, .int p2] σ (some (.long r)) σ' := by
  intro hcap hcau
  refine mx_ofW (by decide +kernel) hcap hcau (Nat.le_of_ble_eq_true rfl) ?_
  intro p e s m below meth c hx hb hr hml hts hown hlocks hname hK hJ ls hl
  have hz0 := hJ.2.1
  have hown : s.vm.findClass RX11 = some m.cls := hown
  have hl : lv_has ls 3 [(0, .ref a0), (1, .int p1), (2, .int p2)] := hl
  have D30 : ∀ (v2 : Int32) (w0 : Nat) (τ : mx_S), f_X11_closedNumber_D30 P v2 w0 τ = some (.inr (r, σ')) → ∀ (H : Heap) (locs : List Loc), mx_J G P s.heap (mxz σ) (mxu σ) τ H locs → ∀ ls : Array Slot, lv_has ls 3 [(2, .int v2)] → W p l e (mx_rm P 7 101 σ) s m ([.ref a0, .int p1, .int p2] : List Value).toArray below meth c H locs (mxz τ - mxz σ) (mxu τ - mxu σ) (mx_Z below G P (some (.long r)) σ σ' [.ref a0, .int p1, .int p2] s) (F0 m 30 ls [.ref w0]) := by
    intro v2 w0 τ hf _ _ hJ ls hl
    unfold f_X11_closedNumber_D30 at hf
    refine lv_iload_n hx hb dX11_closedNumber_30 rfl (lv_at hl 0 rfl) ?_
    obtain ⟨i12, e13, hf⟩ := mb0 hf
    obtain ⟨x15, σ14, e16, hf⟩ := mc0 hf
    refine mx_callV (As := [.int v2]) (rest := []) hx hb hml hts hown hK hJ rfl rfl (ci := 0) rfl e13 (c_X0_number l G P w0 v2 τ x15 σ14 e16) me_X0_number kw_1273 kw_1274 kw_1272 (Nat.le_of_ble_eq_true rfl) (Nat.le_of_ble_eq_true rfl) rfl hl.1 rfl (Nat.le_of_ble_eq_true rfl) dX11_closedNumber_31 (fun H locs hJ => ?_)
    exact my_lret hx hb hr hlocks hJ (mx_inr hf) dX11_closedNumber_34
  have D12 : ∀ (v0 : Nat) (v1 : Int32) (v2 : Int32) (w0 : Int32) (τ : mx_S), f_X11_closedNumber_D12 P v0 v1 v2 w0 τ = some (.inr (r, σ')) → ∀ (H : Heap) (locs : List Loc), mx_J G P s.heap (mxz σ) (mxu σ) τ H locs → ∀ ls : Array Slot, lv_has ls 3 [(0, .ref v0), (1, .int v1), (2, .int v2)] → W p l e (mx_rm P 7 101 σ) s m ([.ref a0, .int p1, .int p2] : List Value).toArray below meth c H locs (mxz τ - mxz σ) (mxu τ - mxu σ) (mx_Z below G P (some (.long r)) σ σ' [.ref a0, .int p1, .int p2] s) (F0 m 12 ls [.int w0]) := by
    intro v0 v1 v2 w0 τ hf _ _ hJ ls hl
    unfold f_X11_closedNumber_D12 at hf
    obtain ⟨σ7, e8, hf⟩ := mbx_n hf
    refine mx_callS (As := [.int w0]) (rest := []) hx hb hml hts hown hK hJ rfl rfl (c_X11_needPresence l G P w0 τ σ7 e8) me_X11_needPresence kw_1243 kw_1242 (Nat.le_of_ble_eq_true rfl) (Nat.le_of_ble_eq_true rfl) rfl hl.1 rfl (Nat.le_of_ble_eq_true rfl) dX11_closedNumber_12 (fun H locs hJ => ?_)
    refine lv_iload_n hx hb dX11_closedNumber_15 rfl (lv_at hl 1 rfl) ?_
    refine lv_if_ne (tgt := 26) hx hb dX11_closedNumber_16 (by decide) (fun c9 => ?_) (fun c9 => ?_)
    · rw [if_neg c9] at hf
      refine lv_aload_n hx hb dX11_closedNumber_26 rfl (lv_at hl 0 rfl) ?_
      obtain ⟨b10, e11, hf⟩ := mb0 hf
      refine my_gR hx hb hts hown hK hJ fd_RX11_356 hv_8_1 e11 dX11_closedNumber_27 ?_
      exact D30 v2 b10 σ7 hf _ _ hJ ls (lv_sub hl [2] rfl)
    · rw [if_pos c9] at hf
      refine lv_aload_n hx hb dX11_closedNumber_19 rfl (lv_at hl 0 rfl) ?_
      obtain ⟨b17, e18, hf⟩ := mb0 hf
      refine my_gR hx hb hts hown hK hJ fd_RX11_353 hv_8_0 e18 dX11_closedNumber_20 ?_
      refine lv_goto (tgt := 30) hx hb dX11_closedNumber_23 (by decide) ?_
      exact D30 v2 b17 σ7 hf _ _ hJ ls (lv_sub hl [2] rfl)
  unfold f_X11_closedNumber at hf
  refine lv_aload_n hx hb dX11_closedNumber_0 rfl (lv_at hl 0 rfl) ?_
  obtain ⟨i1, e2, hf⟩ := mb0 hf
  obtain ⟨x4, σ3, e5, hf⟩ := mc0 hf
  refine mx_callV (As := []) (rest := []) hx hb hml hts hown hK hJ rfl rfl (ci := 8) rfl e2 (c_X8_isOpen l G P a0 σ x4 σ3 e5) me_X8_isOpen kw_722 kw_723 kw_1271 (Nat.le_of_ble_eq_true rfl) (Nat.le_of_ble_eq_true rfl) rfl hl.1 rfl (Nat.le_of_ble_eq_true rfl) dX11_closedNumber_1 (fun H locs hJ => ?_)
  refine lv_if_ne (tgt := 11) hx hb dX11_closedNumber_4 (by decide) (fun c6 => ?_) (fun c6 => ?_)
  · rw [if_neg c6] at hf
    refine lv_iconst (v := 0) hx hb dX11_closedNumber_11 (by decide) ?_
    exact D12 a0 p1 p2 (0 : Int32) σ3 hf _ _ hJ ls (lv_sub hl [0, 1, 2] rfl)
  · rw [if_pos c6] at hf
    refine lv_iconst (v := 1) hx hb dX11_closedNumber_7 (by decide) ?_
    refine lv_goto (tgt := 12) hx hb dX11_closedNumber_8 (by decide) ?_
    exact D12 a0 p1 p2 (1 : Int32) σ3 hf _ _ hJ ls (lv_sub hl [0, 1, 2] rfl)
set_option maxHeartbeats 4000000 in
set_option maxRecDepth 100000 in
theorem ct_X11_closedNumber (l : Launch) (hlt : l.stackTraces = false) (G : mx_G) (P : mx_P) (a0 : Nat) (p1 : Int32) (p2 : Int32) (σ : mx_S) (E : String) (σ' : mx_S) (hf : f_X11_closedNumber P a0 p1 p2 σ = some (.inl (E, σ'))) : mxz σ ≤ mpc P → mxu σ ≤ mps P → mx_Mt l yX11_closedNumber cX11_closedNumber 3 (some .long) 7 101 G P [.ref a0, .int p1, .int p2] σ E σ' := by
  intro hcap hcau
  refine mx_ofWt (by decide +kernel) hcap hcau (Nat.le_of_ble_eq_true rfl) ?_
  intro p e s m below meth c hx hb hr hml hts hown hlocks hname hnt hK hJ ls hl
  have hz0 := hJ.2.1
  have hown : s.vm.findClass RX11 = some m.cls := hown
  have hl : lv_has ls 3 [(0, .ref a0), (1, .int p1), (2, .int p2)] := hl
  have D30 : ∀ (v2 : Int32) (w0 : Nat) (τ : mx_S), f_X11_closedNumber_D30 P v2 w0 τ = some (.inl (E, σ')) → ∀ (H : Heap) (locs : List Loc), mx_J G P s.heap (mxz σ) (mxu σ) τ H locs → ∀ ls : Array Slot, lv_has ls 3 [(2, .int v2)] → W p l e (mx_rm P 7 101 σ) s m ([.ref a0, .int p1, .int p2] : List Value).toArray below meth c H locs (mxz τ - mxz σ) (mxu τ - mxu σ) (mx_Zt below G P E σ σ' [.ref a0, .int p1, .int p2] s) (F0 m 30 ls [.ref w0]) := by
    intro v2 w0 τ hf _ _ hJ ls hl
    unfold f_X11_closedNumber_D30 at hf
    refine lv_iload_n hx hb dX11_closedNumber_30 rfl (lv_at hl 0 rfl) ?_
    obtain ⟨i12, e13, hf⟩ := mb0 hf
    obtain ⟨x15, σ14, e16, hf⟩ := mc0 hf
    refine mx_callV (As := [.int v2]) (rest := []) hx hb hml hts hown hK hJ rfl rfl (ci := 0) rfl e13 (c_X0_number l G P w0 v2 τ x15 σ14 e16) me_X0_number kw_1273 kw_1274 kw_1272 (Nat.le_of_ble_eq_true rfl) (Nat.le_of_ble_eq_true rfl) rfl hl.1 rfl (Nat.le_of_ble_eq_true rfl) dX11_closedNumber_31 (fun H locs hJ => ?_)
    cases hf
  have D12 : ∀ (v0 : Nat) (v1 : Int32) (v2 : Int32) (w0 : Int32) (τ : mx_S), f_X11_closedNumber_D12 P v0 v1 v2 w0 τ = some (.inl (E, σ')) → ∀ (H : Heap) (locs : List Loc), mx_J G P s.heap (mxz σ) (mxu σ) τ H locs → ∀ ls : Array Slot, lv_has ls 3 [(0, .ref v0), (1, .int v1), (2, .int v2)] → W p l e (mx_rm P 7 101 σ) s m ([.ref a0, .int p1, .int p2] : List Value).toArray below meth c H locs (mxz τ - mxz σ) (mxu τ - mxu σ) (mx_Zt below G P E σ σ' [.ref a0, .int p1, .int p2] s) (F0 m 12 ls [.int w0]) := by
    intro v0 v1 v2 w0 τ hf _ _ hJ ls hl
    unfold f_X11_closedNumber_D12 at hf
    rcases mbx_t hf with e8 | ⟨σ7, e8, hf⟩
    · exact mx_callST (As := [.int w0]) (rest := []) hx hb hml hts hown hK hJ rfl rfl hnt hlocks (ct_X11_needPresence l hlt G P w0 τ E σ' e8) me_X11_needPresence kw_1243 kw_1242 (Nat.le_of_ble_eq_true rfl) (Nat.le_of_ble_eq_true rfl) rfl hl.1 rfl (Nat.le_of_ble_eq_true rfl) dX11_closedNumber_12
    refine mx_callS (As := [.int w0]) (rest := []) hx hb hml hts hown hK hJ rfl rfl (c_X11_needPresence l G P w0 τ σ7 e8) me_X11_needPresence kw_1243 kw_1242 (Nat.le_of_ble_eq_true rfl) (Nat.le_of_ble_eq_true rfl) rfl hl.1 rfl (Nat.le_of_ble_eq_true rfl) dX11_closedNumber_12 (fun H locs hJ => ?_)
    refine lv_iload_n hx hb dX11_closedNumber_15 rfl (lv_at hl 1 rfl) ?_
    refine lv_if_ne (tgt := 26) hx hb dX11_closedNumber_16 (by decide) (fun c9 => ?_) (fun c9 => ?_)
    · rw [if_neg c9] at hf
      refine lv_aload_n hx hb dX11_closedNumber_26 rfl (lv_at hl 0 rfl) ?_
      obtain ⟨b10, e11, hf⟩ := mb0 hf
      refine my_gR hx hb hts hown hK hJ fd_RX11_356 hv_8_1 e11 dX11_closedNumber_27 ?_
      exact D30 v2 b10 σ7 hf _ _ hJ ls (lv_sub hl [2] rfl)
    · rw [if_pos c9] at hf
      refine lv_aload_n hx hb dX11_closedNumber_19 rfl (lv_at hl 0 rfl) ?_
      obtain ⟨b17, e18, hf⟩ := mb0 hf
      refine my_gR hx hb hts hown hK hJ fd_RX11_353 hv_8_0 e18 dX11_closedNumber_20 ?_
      refine lv_goto (tgt := 30) hx hb dX11_closedNumber_23 (by decide) ?_
      exact D30 v2 b17 σ7 hf _ _ hJ ls (lv_sub hl [2] rfl)
  unfold f_X11_closedNumber at hf
  refine lv_aload_n hx hb dX11_closedNumber_0 rfl (lv_at hl 0 rfl) ?_
  obtain ⟨i1, e2, hf⟩ := mb0 hf
  obtain ⟨x4, σ3, e5, hf⟩ := mc0 hf
  refine mx_callV (As := []) (rest := []) hx hb hml hts hown hK hJ rfl rfl (ci := 8) rfl e2 (c_X8_isOpen l G P a0 σ x4 σ3 e5) me_X8_isOpen kw_722 kw_723 kw_1271 (Nat.le_of_ble_eq_true rfl) (Nat.le_of_ble_eq_true rfl) rfl hl.1 rfl (Nat.le_of_ble_eq_true rfl) dX11_closedNumber_1 (fun H locs hJ => ?_)
  refine lv_if_ne (tgt := 11) hx hb dX11_closedNumber_4 (by decide) (fun c6 => ?_) (fun c6 => ?_)
  · rw [if_neg c6] at hf
    refine lv_iconst (v := 0) hx hb dX11_closedNumber_11 (by decide) ?_
    exact D12 a0 p1 p2 (0 : Int32) σ3 hf _ _ hJ ls (lv_sub hl [0, 1, 2] rfl)
  · rw [if_pos c6] at hf
    refine lv_iconst (v := 1) hx hb dX11_closedNumber_7 (by decide) ?_
    refine lv_goto (tgt := 12) hx hb dX11_closedNumber_8 (by decide) ?_
    exact D12 a0 p1 p2 (1 : Int32) σ3 hf _ _ hJ ls (lv_sub hl [0, 1, 2] rfl)
set_option maxHeartbeats 4000000 in
set_option maxRecDepth 100000 in
theorem c_X11_at (l : Launch) (G : mx_G) (P : mx_P) (a0 : Nat) (p1 : Int32) (p2 : Int32) (p3 : Int32) (p4 : Int32) (σ : mx_S) (r : Int64) (σ' : mx_S) (hf : f_X11_at P a0 p1 p2 p3 p4 σ = some (.inr (r, σ'))) : mxz σ ≤ mpc P → mxu σ ≤ mps P → mx_M l yX11_at cX11_at 5 (some .long) 8 132 G P [.ref a0, .int p1, .int p2, .int p3, .int p4] σ (some (.long r)) σ' := by
  intro hcap hcau
  refine mx_ofW (by decide +kernel) hcap hcau (Nat.le_of_ble_eq_true rfl) ?_
  intro p e s m below meth c hx hb hr hml hts hown hlocks hname hK hJ ls hl
  have hz0 := hJ.2.1
  have hown : s.vm.findClass RX11 = some m.cls := hown
  have hl : lv_has ls 5 [(0, .ref a0), (1, .int p1), (2, .int p2), (3, .int p3), (4, .int p4)] := hl
  have D53 : ∀ (v0 : Nat) (v2 : Int32) (v3 : Int32) (v4 : Int32) (w0 : Int32) (τ : mx_S), f_X11_at_D53 P v0 v2 v3 v4 w0 τ = some (.inr (r, σ')) → ∀ (H : Heap) (locs : List Loc), mx_J G P s.heap (mxz σ) (mxu σ) τ H locs → ∀ ls : Array Slot, lv_has ls 5 [(0, .ref v0), (2, .int v2), (3, .int v3), (4, .int v4)] → W p l e (mx_rm P 8 132 σ) s m ([.ref a0, .int p1, .int p2, .int p3, .int p4] : List Value).toArray below meth c H locs (mxz τ - mxz σ) (mxu τ - mxu σ) (mx_Z below G P (some (.long r)) σ σ' [.ref a0, .int p1, .int p2, .int p3, .int p4] s) (F0 m 53 ls [.int w0]) := by
    intro v0 v2 v3 v4 w0 τ hf _ _ hJ ls hl
    unfold f_X11_at_D53 at hf
    obtain ⟨σ24, e25, hf⟩ := mbx_n hf
    refine mx_callS (As := [.int w0]) (rest := []) hx hb hml hts hown hK hJ rfl rfl (c_X11_needPresence l G P w0 τ σ24 e25) me_X11_needPresence kw_1243 kw_1242 (Nat.le_of_ble_eq_true rfl) (Nat.le_of_ble_eq_true rfl) rfl hl.1 rfl (Nat.le_of_ble_eq_true rfl) dX11_at_53 (fun H locs hJ => ?_)
    refine lv_aload_n hx hb dX11_at_56 rfl (lv_at hl 0 rfl) ?_
    obtain ⟨b26, e27, hf⟩ := mb0 hf
    refine my_gR hx hb hts hown hK hJ fd_RX11_54 hv_11_6 e27 dX11_at_57 ?_
    obtain ⟨b28, e29, hf⟩ := mb0 hf
    refine my_gR hx hb hts hown hK hJ fd_RX11_143 hv_7_0 e29 dX11_at_60 ?_
    refine lv_iload_n hx hb dX11_at_63 rfl (lv_at hl 1 rfl) ?_
    obtain ⟨b30, e31, hf⟩ := mb0 hf
    refine mx_aR hx hb hK hJ (t := 4) rfl (fun _ _ _ => rfl) e31 dX11_at_64 ?_
    obtain ⟨b32, e33, hf⟩ := mb0 hf
    refine my_gR hx hb hts hown hK hJ fd_RX11_147 hv_5_12 e33 dX11_at_65 ?_
    refine lv_iload_n hx hb dX11_at_68 rfl (lv_at hl 2 rfl) ?_
    refine lv_iload hx hb dX11_at_69 (lv_at hl 3 rfl) ?_
    obtain ⟨x36, σ34, e35, hf⟩ := mbx2_n hf
    refine mx_callS (As := [.ref b32, .int v3, .int v4]) (rest := []) hx hb hml hts hown hK hJ rfl rfl (c_X11_closedNumber l G P b32 v3 v4 σ24 x36 σ34 e35) me_X11_closedNumber kw_1269 kw_1268 (Nat.le_of_ble_eq_true rfl) (Nat.le_of_ble_eq_true rfl) rfl hl.1 rfl (Nat.le_of_ble_eq_true rfl) dX11_at_71 (fun H locs hJ => ?_)
    exact my_lret hx hb hr hlocks hJ (mx_inr hf) dX11_at_74
  unfold f_X11_at at hf
  refine lv_iload_n hx hb dX11_at_0 rfl (lv_at hl 1 rfl) ?_
  refine lv_iconst (v := 0) hx hb dX11_at_1 (by decide) ?_
  refine lv_sipush (v := 255) hx hb dX11_at_2 (by decide) ?_
  obtain ⟨σ1, e2, hf⟩ := mbx_n hf
  refine mx_callS (As := [.int p1, .int (0 : Int32), .int (255 : Int32)]) (rest := []) hx hb hml hts hown hK hJ rfl rfl (c_X11_needRange l G P p1 (0 : Int32) (255 : Int32) σ σ1 e2) me_X11_needRange kw_1005 kw_1004 (Nat.le_of_ble_eq_true rfl) (Nat.le_of_ble_eq_true rfl) rfl hl.1 rfl (Nat.le_of_ble_eq_true rfl) dX11_at_5 (fun H locs hJ => ?_)
  refine lv_iload_n hx hb dX11_at_8 rfl (lv_at hl 3 rfl) ?_
  refine lv_iconst (v := 0) hx hb dX11_at_9 (by decide) ?_
  refine lv_iconst (v := 1) hx hb dX11_at_10 (by decide) ?_
  obtain ⟨σ3, e4, hf⟩ := mbx_n hf
  refine mx_callS (As := [.int p3, .int (0 : Int32), .int (1 : Int32)]) (rest := []) hx hb hml hts hown hK hJ rfl rfl (c_X11_needRange l G P p3 (0 : Int32) (1 : Int32) σ1 σ3 e4) me_X11_needRange kw_1005 kw_1004 (Nat.le_of_ble_eq_true rfl) (Nat.le_of_ble_eq_true rfl) rfl hl.1 rfl (Nat.le_of_ble_eq_true rfl) dX11_at_11 (fun H locs hJ => ?_)
  refine lv_iload hx hb dX11_at_14 (lv_at hl 4 rfl) ?_
  refine lv_iconst (v := 0) hx hb dX11_at_16 (by decide) ?_
  refine lv_iconst (v := 1) hx hb dX11_at_17 (by decide) ?_
  obtain ⟨σ5, e6, hf⟩ := mbx_n hf
  refine mx_callS (As := [.int p4, .int (0 : Int32), .int (1 : Int32)]) (rest := []) hx hb hml hts hown hK hJ rfl rfl (c_X11_needRange l G P p4 (0 : Int32) (1 : Int32) σ3 σ5 e6) me_X11_needRange kw_1005 kw_1004 (Nat.le_of_ble_eq_true rfl) (Nat.le_of_ble_eq_true rfl) rfl hl.1 rfl (Nat.le_of_ble_eq_true rfl) dX11_at_18 (fun H locs hJ => ?_)
  refine lv_iload_n hx hb dX11_at_21 rfl (lv_at hl 2 rfl) ?_
  refine lv_aload_n hx hb dX11_at_22 rfl (lv_at hl 0 rfl) ?_
  obtain ⟨b7, e8, hf⟩ := mb0 hf
  refine my_gR hx hb hts hown hK hJ fd_RX11_54 hv_11_6 e8 dX11_at_23 ?_
  obtain ⟨x9, e10, hf⟩ := mb0 hf
  refine my_gI hx hb hts hown hK hJ fd_RX11_103 hv_7_2 e10 dX11_at_26 ?_
  obtain ⟨x12, σ11, e13, hf⟩ := mc0 hf
  refine mx_callS (As := [.int p2, .int x9]) (rest := []) hx hb hml hts hown hK hJ rfl rfl (c_X11_isWithin l G P p2 x9 σ5 x12 σ11 e13) me_X11_isWithin kw_1240 kw_1239 (Nat.le_of_ble_eq_true rfl) (Nat.le_of_ble_eq_true rfl) rfl hl.1 rfl (Nat.le_of_ble_eq_true rfl) dX11_at_29 (fun H locs hJ => ?_)
  obtain ⟨σ14, e15, hf⟩ := mbx_n hf
  refine mx_callS (As := [.int x12]) (rest := []) hx hb hml hts hown hK hJ rfl rfl (c_X11_needPresence l G P x12 σ11 σ14 e15) me_X11_needPresence kw_1243 kw_1242 (Nat.le_of_ble_eq_true rfl) (Nat.le_of_ble_eq_true rfl) rfl hl.1 rfl (Nat.le_of_ble_eq_true rfl) dX11_at_32 (fun H locs hJ => ?_)
  refine lv_aload_n hx hb dX11_at_35 rfl (lv_at hl 0 rfl) ?_
  obtain ⟨b16, e17, hf⟩ := mb0 hf
  refine my_gR hx hb hts hown hK hJ fd_RX11_54 hv_11_6 e17 dX11_at_36 ?_
  refine lv_iload_n hx hb dX11_at_39 rfl (lv_at hl 1 rfl) ?_
  refine lv_iconst (v := 0) hx hb dX11_at_40 (by decide) ?_
  obtain ⟨i18, e19, hf⟩ := mb0 hf
  obtain ⟨x21, σ20, e22, hf⟩ := mc0 hf
  refine mx_callV (As := [.int p1, .int (0 : Int32)]) (rest := []) hx hb hml hts hown hK hJ rfl rfl (ci := 7) rfl e19 (c_X7_look l G P b16 p1 (0 : Int32) σ14 x21 σ20 e22) me_X7_look kw_655 kw_656 kw_1267 (Nat.le_of_ble_eq_true rfl) (Nat.le_of_ble_eq_true rfl) rfl hl.1 rfl (Nat.le_of_ble_eq_true rfl) dX11_at_41 (fun H locs hJ => ?_)
  refine lv_iconst (v := 3) hx hb dX11_at_44 (by decide) ?_
  refine lv_icmp_eq (tgt := 52) hx hb dX11_at_45 (by decide) (fun c23 => ?_) (fun c23 => ?_)
  · rw [if_pos c23] at hf
    refine lv_iconst (v := 0) hx hb dX11_at_52 (by decide) ?_
    exact D53 a0 p2 p3 p4 (0 : Int32) σ20 hf _ _ hJ ls (lv_sub hl [0, 2, 3, 4] rfl)
  · rw [if_neg c23] at hf
    refine lv_iconst (v := 1) hx hb dX11_at_48 (by decide) ?_
    refine lv_goto (tgt := 53) hx hb dX11_at_49 (by decide) ?_
    exact D53 a0 p2 p3 p4 (1 : Int32) σ20 hf _ _ hJ ls (lv_sub hl [0, 2, 3, 4] rfl)
set_option maxHeartbeats 4000000 in
set_option maxRecDepth 100000 in
theorem ct_X11_at (l : Launch) (hlt : l.stackTraces = false) (G : mx_G) (P : mx_P) (a0 : Nat) (p1 : Int32) (p2 : Int32) (p3 : Int32) (p4 : Int32) (σ : mx_S) (E : String) (σ' : mx_S) (hf : f_X11_at P a0 p1 p2 p3 p4 σ = some (.inl (E, σ'))) : mxz σ ≤ mpc P → mxu σ ≤ mps P → mx_Mt l yX11_at cX11_at 5 (some .long) 8 132 G P [.ref a0, .int p1, .int p2, .int p3, .int p4] σ E σ' := by
  intro hcap hcau
  refine mx_ofWt (by decide +kernel) hcap hcau (Nat.le_of_ble_eq_true rfl) ?_
  intro p e s m below meth c hx hb hr hml hts hown hlocks hname hnt hK hJ ls hl
  have hz0 := hJ.2.1
  have hown : s.vm.findClass RX11 = some m.cls := hown
  have hl : lv_has ls 5 [(0, .ref a0), (1, .int p1), (2, .int p2), (3, .int p3), (4, .int p4)] := hl
  have D53 : ∀ (v0 : Nat) (v2 : Int32) (v3 : Int32) (v4 : Int32) (w0 : Int32) (τ : mx_S), f_X11_at_D53 P v0 v2 v3 v4 w0 τ = some (.inl (E, σ')) → ∀ (H : Heap) (locs : List Loc), mx_J G P s.heap (mxz σ) (mxu σ) τ H locs → ∀ ls : Array Slot, lv_has ls 5 [(0, .ref v0), (2, .int v2), (3, .int v3), (4, .int v4)] → W p l e (mx_rm P 8 132 σ) s m ([.ref a0, .int p1, .int p2, .int p3, .int p4] : List Value).toArray below meth c H locs (mxz τ - mxz σ) (mxu τ - mxu σ) (mx_Zt below G P E σ σ' [.ref a0, .int p1, .int p2, .int p3, .int p4] s) (F0 m 53 ls [.int w0]) := by
    intro v0 v2 v3 v4 w0 τ hf _ _ hJ ls hl
    unfold f_X11_at_D53 at hf
    rcases mbx_t hf with e25 | ⟨σ24, e25, hf⟩
    · exact mx_callST (As := [.int w0]) (rest := []) hx hb hml hts hown hK hJ rfl rfl hnt hlocks (ct_X11_needPresence l hlt G P w0 τ E σ' e25) me_X11_needPresence kw_1243 kw_1242 (Nat.le_of_ble_eq_true rfl) (Nat.le_of_ble_eq_true rfl) rfl hl.1 rfl (Nat.le_of_ble_eq_true rfl) dX11_at_53
    refine mx_callS (As := [.int w0]) (rest := []) hx hb hml hts hown hK hJ rfl rfl (c_X11_needPresence l G P w0 τ σ24 e25) me_X11_needPresence kw_1243 kw_1242 (Nat.le_of_ble_eq_true rfl) (Nat.le_of_ble_eq_true rfl) rfl hl.1 rfl (Nat.le_of_ble_eq_true rfl) dX11_at_53 (fun H locs hJ => ?_)
    refine lv_aload_n hx hb dX11_at_56 rfl (lv_at hl 0 rfl) ?_
    obtain ⟨b26, e27, hf⟩ := mb0 hf
    refine my_gR hx hb hts hown hK hJ fd_RX11_54 hv_11_6 e27 dX11_at_57 ?_
    obtain ⟨b28, e29, hf⟩ := mb0 hf
    refine my_gR hx hb hts hown hK hJ fd_RX11_143 hv_7_0 e29 dX11_at_60 ?_
    refine lv_iload_n hx hb dX11_at_63 rfl (lv_at hl 1 rfl) ?_
    obtain ⟨b30, e31, hf⟩ := mb0 hf
    refine mx_aR hx hb hK hJ (t := 4) rfl (fun _ _ _ => rfl) e31 dX11_at_64 ?_
    obtain ⟨b32, e33, hf⟩ := mb0 hf
    refine my_gR hx hb hts hown hK hJ fd_RX11_147 hv_5_12 e33 dX11_at_65 ?_
    refine lv_iload_n hx hb dX11_at_68 rfl (lv_at hl 2 rfl) ?_
    refine lv_iload hx hb dX11_at_69 (lv_at hl 3 rfl) ?_
    rcases mbx2_t hf with e35 | ⟨x36, σ34, e35, hf⟩
    · exact mx_callST (As := [.ref b32, .int v3, .int v4]) (rest := []) hx hb hml hts hown hK hJ rfl rfl hnt hlocks (ct_X11_closedNumber l hlt G P b32 v3 v4 σ24 E σ' e35) me_X11_closedNumber kw_1269 kw_1268 (Nat.le_of_ble_eq_true rfl) (Nat.le_of_ble_eq_true rfl) rfl hl.1 rfl (Nat.le_of_ble_eq_true rfl) dX11_at_71
    refine mx_callS (As := [.ref b32, .int v3, .int v4]) (rest := []) hx hb hml hts hown hK hJ rfl rfl (c_X11_closedNumber l G P b32 v3 v4 σ24 x36 σ34 e35) me_X11_closedNumber kw_1269 kw_1268 (Nat.le_of_ble_eq_true rfl) (Nat.le_of_ble_eq_true rfl) rfl hl.1 rfl (Nat.le_of_ble_eq_true rfl) dX11_at_71 (fun H locs hJ => ?_)
    cases hf
  unfold f_X11_at at hf
  refine lv_iload_n hx hb dX11_at_0 rfl (lv_at hl 1 rfl) ?_
  refine lv_iconst (v := 0) hx hb dX11_at_1 (by decide) ?_
  refine lv_sipush (v := 255) hx hb dX11_at_2 (by decide) ?_
  rcases mbx_t hf with e2 | ⟨σ1, e2, hf⟩
  · exact mx_callST (As := [.int p1, .int (0 : Int32), .int (255 : Int32)]) (rest := []) hx hb hml hts hown hK hJ rfl rfl hnt hlocks (ct_X11_needRange l hlt G P p1 (0 : Int32) (255 : Int32) σ E σ' e2) me_X11_needRange kw_1005 kw_1004 (Nat.le_of_ble_eq_true rfl) (Nat.le_of_ble_eq_true rfl) rfl hl.1 rfl (Nat.le_of_ble_eq_true rfl) dX11_at_5
  refine mx_callS (As := [.int p1, .int (0 : Int32), .int (255 : Int32)]) (rest := []) hx hb hml hts hown hK hJ rfl rfl (c_X11_needRange l G P p1 (0 : Int32) (255 : Int32) σ σ1 e2) me_X11_needRange kw_1005 kw_1004 (Nat.le_of_ble_eq_true rfl) (Nat.le_of_ble_eq_true rfl) rfl hl.1 rfl (Nat.le_of_ble_eq_true rfl) dX11_at_5 (fun H locs hJ => ?_)
  refine lv_iload_n hx hb dX11_at_8 rfl (lv_at hl 3 rfl) ?_
  refine lv_iconst (v := 0) hx hb dX11_at_9 (by decide) ?_
  refine lv_iconst (v := 1) hx hb dX11_at_10 (by decide) ?_
  rcases mbx_t hf with e4 | ⟨σ3, e4, hf⟩
  · exact mx_callST (As := [.int p3, .int (0 : Int32), .int (1 : Int32)]) (rest := []) hx hb hml hts hown hK hJ rfl rfl hnt hlocks (ct_X11_needRange l hlt G P p3 (0 : Int32) (1 : Int32) σ1 E σ' e4) me_X11_needRange kw_1005 kw_1004 (Nat.le_of_ble_eq_true rfl) (Nat.le_of_ble_eq_true rfl) rfl hl.1 rfl (Nat.le_of_ble_eq_true rfl) dX11_at_11
  refine mx_callS (As := [.int p3, .int (0 : Int32), .int (1 : Int32)]) (rest := []) hx hb hml hts hown hK hJ rfl rfl (c_X11_needRange l G P p3 (0 : Int32) (1 : Int32) σ1 σ3 e4) me_X11_needRange kw_1005 kw_1004 (Nat.le_of_ble_eq_true rfl) (Nat.le_of_ble_eq_true rfl) rfl hl.1 rfl (Nat.le_of_ble_eq_true rfl) dX11_at_11 (fun H locs hJ => ?_)
  refine lv_iload hx hb dX11_at_14 (lv_at hl 4 rfl) ?_
  refine lv_iconst (v := 0) hx hb dX11_at_16 (by decide) ?_
  refine lv_iconst (v := 1) hx hb dX11_at_17 (by decide) ?_
  rcases mbx_t hf with e6 | ⟨σ5, e6, hf⟩
  · exact mx_callST (As := [.int p4, .int (0 : Int32), .int (1 : Int32)]) (rest := []) hx hb hml hts hown hK hJ rfl rfl hnt hlocks (ct_X11_needRange l hlt G P p4 (0 : Int32) (1 : Int32) σ3 E σ' e6) me_X11_needRange kw_1005 kw_1004 (Nat.le_of_ble_eq_true rfl) (Nat.le_of_ble_eq_true rfl) rfl hl.1 rfl (Nat.le_of_ble_eq_true rfl) dX11_at_18
  refine mx_callS (As := [.int p4, .int (0 : Int32), .int (1 : Int32)]) (rest := []) hx hb hml hts hown hK hJ rfl rfl (c_X11_needRange l G P p4 (0 : Int32) (1 : Int32) σ3 σ5 e6) me_X11_needRange kw_1005 kw_1004 (Nat.le_of_ble_eq_true rfl) (Nat.le_of_ble_eq_true rfl) rfl hl.1 rfl (Nat.le_of_ble_eq_true rfl) dX11_at_18 (fun H locs hJ => ?_)
  refine lv_iload_n hx hb dX11_at_21 rfl (lv_at hl 2 rfl) ?_
  refine lv_aload_n hx hb dX11_at_22 rfl (lv_at hl 0 rfl) ?_
  obtain ⟨b7, e8, hf⟩ := mb0 hf
  refine my_gR hx hb hts hown hK hJ fd_RX11_54 hv_11_6 e8 dX11_at_23 ?_
  obtain ⟨x9, e10, hf⟩ := mb0 hf
  refine my_gI hx hb hts hown hK hJ fd_RX11_103 hv_7_2 e10 dX11_at_26 ?_
  obtain ⟨x12, σ11, e13, hf⟩ := mc0 hf
  refine mx_callS (As := [.int p2, .int x9]) (rest := []) hx hb hml hts hown hK hJ rfl rfl (c_X11_isWithin l G P p2 x9 σ5 x12 σ11 e13) me_X11_isWithin kw_1240 kw_1239 (Nat.le_of_ble_eq_true rfl) (Nat.le_of_ble_eq_true rfl) rfl hl.1 rfl (Nat.le_of_ble_eq_true rfl) dX11_at_29 (fun H locs hJ => ?_)
  rcases mbx_t hf with e15 | ⟨σ14, e15, hf⟩
  · exact mx_callST (As := [.int x12]) (rest := []) hx hb hml hts hown hK hJ rfl rfl hnt hlocks (ct_X11_needPresence l hlt G P x12 σ11 E σ' e15) me_X11_needPresence kw_1243 kw_1242 (Nat.le_of_ble_eq_true rfl) (Nat.le_of_ble_eq_true rfl) rfl hl.1 rfl (Nat.le_of_ble_eq_true rfl) dX11_at_32
  refine mx_callS (As := [.int x12]) (rest := []) hx hb hml hts hown hK hJ rfl rfl (c_X11_needPresence l G P x12 σ11 σ14 e15) me_X11_needPresence kw_1243 kw_1242 (Nat.le_of_ble_eq_true rfl) (Nat.le_of_ble_eq_true rfl) rfl hl.1 rfl (Nat.le_of_ble_eq_true rfl) dX11_at_32 (fun H locs hJ => ?_)
  refine lv_aload_n hx hb dX11_at_35 rfl (lv_at hl 0 rfl) ?_
  obtain ⟨b16, e17, hf⟩ := mb0 hf
  refine my_gR hx hb hts hown hK hJ fd_RX11_54 hv_11_6 e17 dX11_at_36 ?_
  refine lv_iload_n hx hb dX11_at_39 rfl (lv_at hl 1 rfl) ?_
  refine lv_iconst (v := 0) hx hb dX11_at_40 (by decide) ?_
  obtain ⟨i18, e19, hf⟩ := mb0 hf
  obtain ⟨x21, σ20, e22, hf⟩ := mc0 hf
  refine mx_callV (As := [.int p1, .int (0 : Int32)]) (rest := []) hx hb hml hts hown hK hJ rfl rfl (ci := 7) rfl e19 (c_X7_look l G P b16 p1 (0 : Int32) σ14 x21 σ20 e22) me_X7_look kw_655 kw_656 kw_1267 (Nat.le_of_ble_eq_true rfl) (Nat.le_of_ble_eq_true rfl) rfl hl.1 rfl (Nat.le_of_ble_eq_true rfl) dX11_at_41 (fun H locs hJ => ?_)
  refine lv_iconst (v := 3) hx hb dX11_at_44 (by decide) ?_
  refine lv_icmp_eq (tgt := 52) hx hb dX11_at_45 (by decide) (fun c23 => ?_) (fun c23 => ?_)
  · rw [if_pos c23] at hf
    refine lv_iconst (v := 0) hx hb dX11_at_52 (by decide) ?_
    exact D53 a0 p2 p3 p4 (0 : Int32) σ20 hf _ _ hJ ls (lv_sub hl [0, 2, 3, 4] rfl)
  · rw [if_neg c23] at hf
    refine lv_iconst (v := 1) hx hb dX11_at_48 (by decide) ?_
    refine lv_goto (tgt := 53) hx hb dX11_at_49 (by decide) ?_
    exact D53 a0 p2 p3 p4 (1 : Int32) σ20 hf _ _ hJ ls (lv_sub hl [0, 2, 3, 4] rfl)
set_option maxHeartbeats 4000000 in
set_option maxRecDepth 100000 in
theorem c_X11_needLeave (l : Launch) (G : mx_G) (P : mx_P) (p0 : Int32) (σ : mx_S) (σ' : mx_S) (hf : f_X11_needLeave P p0 σ = some (.inr σ')) : mxz σ ≤ mpc P → mxu σ ≤ mps P → mx_M l yX11_needLeave cX11_needLeave 1 none 6 81 G P [.int p0] σ none σ' := by
  intro hcap hcau
  refine mx_ofW (by decide +kernel) hcap hcau (Nat.le_of_ble_eq_true rfl) ?_
  intro p e s m below meth c hx hb hr hml hts hown hlocks hname hK hJ ls hl
  have hz0 := hJ.2.1
  have hown : s.vm.findClass RX11 = some m.cls := hown
  have hl : lv_has ls 1 [(0, .int p0)] := hl
  unfold f_X11_needLeave at hf
  refine lv_iload_n hx hb dX11_needLeave_0 rfl (lv_at hl 0 rfl) ?_
  refine lv_if_ne (tgt := 12) hx hb dX11_needLeave_1 (by decide) (fun c1 => ?_) (fun c1 => ?_)
  · rw [if_neg c1] at hf
    exact my_vret hx hb hr hlocks hJ (mx_inr hf) dX11_needLeave_12
  · rw [if_pos c1] at hf
    obtain ⟨σ2, e3, hf⟩ := mb0 hf
    cases hf
set_option maxHeartbeats 4000000 in
set_option maxRecDepth 100000 in
theorem ct_X11_needLeave (l : Launch) (hlt : l.stackTraces = false) (G : mx_G) (P : mx_P) (p0 : Int32) (σ : mx_S) (E : String) (σ' : mx_S) (hf : f_X11_needLeave P p0 σ = some (.inl (E, σ'))) : mxz σ ≤ mpc P → mxu σ ≤ mps P → mx_Mt l yX11_needLeave cX11_needLeave 1 none 6 81 G P [.int p0] σ E σ' := by
  intro hcap hcau
  refine mx_ofWt (by decide +kernel) hcap hcau (Nat.le_of_ble_eq_true rfl) ?_
  intro p e s m below meth c hx hb hr hml hts hown hlocks hname hnt hK hJ ls hl
  have hz0 := hJ.2.1
  have hown : s.vm.findClass RX11 = some m.cls := hown
  have hl : lv_has ls 1 [(0, .int p0)] := hl
  unfold f_X11_needLeave at hf
  refine lv_iload_n hx hb dX11_needLeave_0 rfl (lv_at hl 0 rfl) ?_
  refine lv_if_ne (tgt := 12) hx hb dX11_needLeave_1 (by decide) (fun c1 => ?_) (fun c1 => ?_)
  · rw [if_neg c1] at hf
    cases hf
  · rw [if_pos c1] at hf
    obtain ⟨σ2, e3, hf⟩ := mb0 hf
    have hE : some (Sum.inl ("java/lang/IllegalStateException", σ2) : (String × mx_S) ⊕ _) = some (.inl (E, σ')) := hf
    obtain ⟨rfl, rfl⟩ := mx_inl hE
    exact mx_thr hx hb hlt hts hown hK hz0 hJ rfl rfl hnt hlocks tw_RX11_346 (by rw [hml]; exact hl.1.symm) dX11_needLeave_4 dX11_needLeave_7 dX11_needLeave_8 dX11_needLeave_11 (Nat.le_of_ble_eq_true rfl) (Nat.le_of_ble_eq_true rfl) e3
set_option maxHeartbeats 4000000 in
set_option maxRecDepth 100000 in
theorem c_X11_needSure (l : Launch) (G : mx_G) (P : mx_P) (a0 : Nat) (p1 : Int32) (σ : mx_S) (σ' : mx_S) (hf : f_X11_needSure P a0 p1 σ = some (.inr σ')) : mxz σ ≤ mpc P → mxu σ ≤ mps P → mx_M l yX11_needSure cX11_needSure 2 none 7 132 G P [.ref a0, .int p1] σ none σ' := by
  intro hcap hcau
  refine mx_ofW (by decide +kernel) hcap hcau (Nat.le_of_ble_eq_true rfl) ?_
  intro p e s m below meth c hx hb hr hml hts hown hlocks hname hK hJ ls hl
  have hz0 := hJ.2.1
  have hown : s.vm.findClass RX11 = some m.cls := hown
  have hl : lv_has ls 2 [(0, .ref a0), (1, .int p1)] := hl
  have D17 : ∀ (w0 : Int32) (τ : mx_S), f_X11_needSure_D17 P w0 τ = some (.inr σ') → ∀ (H : Heap) (locs : List Loc), mx_J G P s.heap (mxz σ) (mxu σ) τ H locs → ∀ ls : Array Slot, lv_has ls 2 [] → W p l e (mx_rm P 7 132 σ) s m ([.ref a0, .int p1] : List Value).toArray below meth c H locs (mxz τ - mxz σ) (mxu τ - mxu σ) (mx_Z below G P none σ σ' [.ref a0, .int p1] s) (F0 m 17 ls [.int w0]) := by
    intro w0 τ hf _ _ hJ ls hl
    unfold f_X11_needSure_D17 at hf
    obtain ⟨σ9, e10, hf⟩ := mbx_n hf
    refine mx_callS (As := [.int w0]) (rest := []) hx hb hml hts hown hK hJ rfl rfl (c_X11_needLeave l G P w0 τ σ9 e10) me_X11_needLeave kw_1289 kw_1288 (Nat.le_of_ble_eq_true rfl) (Nat.le_of_ble_eq_true rfl) rfl hl.1 rfl (Nat.le_of_ble_eq_true rfl) dX11_needSure_17 (fun H locs hJ => ?_)
    exact my_vret hx hb hr hlocks hJ (mx_inr hf) dX11_needSure_20
  unfold f_X11_needSure at hf
  refine lv_aload_n hx hb dX11_needSure_0 rfl (lv_at hl 0 rfl) ?_
  obtain ⟨b1, e2, hf⟩ := mb0 hf
  refine my_gR hx hb hts hown hK hJ fd_RX11_54 hv_11_6 e2 dX11_needSure_1 ?_
  refine lv_iload_n hx hb dX11_needSure_4 rfl (lv_at hl 1 rfl) ?_
  refine lv_iconst (v := 1) hx hb dX11_needSure_5 (by decide) ?_
  obtain ⟨i3, e4, hf⟩ := mb0 hf
  obtain ⟨x6, σ5, e7, hf⟩ := mc0 hf
  refine mx_callV (As := [.int p1, .int (1 : Int32)]) (rest := []) hx hb hml hts hown hK hJ rfl rfl (ci := 7) rfl e4 (c_X7_look l G P b1 p1 (1 : Int32) σ x6 σ5 e7) me_X7_look kw_655 kw_656 kw_1267 (Nat.le_of_ble_eq_true rfl) (Nat.le_of_ble_eq_true rfl) rfl hl.1 rfl (Nat.le_of_ble_eq_true rfl) dX11_needSure_6 (fun H locs hJ => ?_)
  refine lv_if_ne (tgt := 16) hx hb dX11_needSure_9 (by decide) (fun c8 => ?_) (fun c8 => ?_)
  · rw [if_neg c8] at hf
    refine lv_iconst (v := 0) hx hb dX11_needSure_16 (by decide) ?_
    exact D17 (0 : Int32) σ5 hf _ _ hJ ls (lv_sub hl [] rfl)
  · rw [if_pos c8] at hf
    refine lv_iconst (v := 1) hx hb dX11_needSure_12 (by decide) ?_
    refine lv_goto (tgt := 17) hx hb dX11_needSure_13 (by decide) ?_
    exact D17 (1 : Int32) σ5 hf _ _ hJ ls (lv_sub hl [] rfl)
set_option maxHeartbeats 4000000 in
set_option maxRecDepth 100000 in
theorem ct_X11_needSure (l : Launch) (hlt : l.stackTraces = false) (G : mx_G) (P : mx_P) (a0 : Nat) (p1 : Int32) (σ : mx_S) (E : String) (σ' : mx_S) (hf : f_X11_needSure P a0 p1 σ = some (.inl (E, σ'))) : mxz σ ≤ mpc P → mxu σ ≤ mps P → mx_Mt l yX11_needSure cX11_needSure 2 none 7 132 G P [.ref a0, .int p1] σ E σ' := by
  intro hcap hcau
  refine mx_ofWt (by decide +kernel) hcap hcau (Nat.le_of_ble_eq_true rfl) ?_
  intro p e s m below meth c hx hb hr hml hts hown hlocks hname hnt hK hJ ls hl
  have hz0 := hJ.2.1
  have hown : s.vm.findClass RX11 = some m.cls := hown
  have hl : lv_has ls 2 [(0, .ref a0), (1, .int p1)] := hl
  have D17 : ∀ (w0 : Int32) (τ : mx_S), f_X11_needSure_D17 P w0 τ = some (.inl (E, σ')) → ∀ (H : Heap) (locs : List Loc), mx_J G P s.heap (mxz σ) (mxu σ) τ H locs → ∀ ls : Array Slot, lv_has ls 2 [] → W p l e (mx_rm P 7 132 σ) s m ([.ref a0, .int p1] : List Value).toArray below meth c H locs (mxz τ - mxz σ) (mxu τ - mxu σ) (mx_Zt below G P E σ σ' [.ref a0, .int p1] s) (F0 m 17 ls [.int w0]) := by
    intro w0 τ hf _ _ hJ ls hl
    unfold f_X11_needSure_D17 at hf
    rcases mbx_t hf with e10 | ⟨σ9, e10, hf⟩
    · exact mx_callST (As := [.int w0]) (rest := []) hx hb hml hts hown hK hJ rfl rfl hnt hlocks (ct_X11_needLeave l hlt G P w0 τ E σ' e10) me_X11_needLeave kw_1289 kw_1288 (Nat.le_of_ble_eq_true rfl) (Nat.le_of_ble_eq_true rfl) rfl hl.1 rfl (Nat.le_of_ble_eq_true rfl) dX11_needSure_17
    refine mx_callS (As := [.int w0]) (rest := []) hx hb hml hts hown hK hJ rfl rfl (c_X11_needLeave l G P w0 τ σ9 e10) me_X11_needLeave kw_1289 kw_1288 (Nat.le_of_ble_eq_true rfl) (Nat.le_of_ble_eq_true rfl) rfl hl.1 rfl (Nat.le_of_ble_eq_true rfl) dX11_needSure_17 (fun H locs hJ => ?_)
    cases hf
  unfold f_X11_needSure at hf
  refine lv_aload_n hx hb dX11_needSure_0 rfl (lv_at hl 0 rfl) ?_
  obtain ⟨b1, e2, hf⟩ := mb0 hf
  refine my_gR hx hb hts hown hK hJ fd_RX11_54 hv_11_6 e2 dX11_needSure_1 ?_
  refine lv_iload_n hx hb dX11_needSure_4 rfl (lv_at hl 1 rfl) ?_
  refine lv_iconst (v := 1) hx hb dX11_needSure_5 (by decide) ?_
  obtain ⟨i3, e4, hf⟩ := mb0 hf
  obtain ⟨x6, σ5, e7, hf⟩ := mc0 hf
  refine mx_callV (As := [.int p1, .int (1 : Int32)]) (rest := []) hx hb hml hts hown hK hJ rfl rfl (ci := 7) rfl e4 (c_X7_look l G P b1 p1 (1 : Int32) σ x6 σ5 e7) me_X7_look kw_655 kw_656 kw_1267 (Nat.le_of_ble_eq_true rfl) (Nat.le_of_ble_eq_true rfl) rfl hl.1 rfl (Nat.le_of_ble_eq_true rfl) dX11_needSure_6 (fun H locs hJ => ?_)
  refine lv_if_ne (tgt := 16) hx hb dX11_needSure_9 (by decide) (fun c8 => ?_) (fun c8 => ?_)
  · rw [if_neg c8] at hf
    refine lv_iconst (v := 0) hx hb dX11_needSure_16 (by decide) ?_
    exact D17 (0 : Int32) σ5 hf _ _ hJ ls (lv_sub hl [] rfl)
  · rw [if_pos c8] at hf
    refine lv_iconst (v := 1) hx hb dX11_needSure_12 (by decide) ?_
    refine lv_goto (tgt := 17) hx hb dX11_needSure_13 (by decide) ?_
    exact D17 (1 : Int32) σ5 hf _ _ hJ ls (lv_sub hl [] rfl)
set_option maxHeartbeats 4000000 in
set_option maxRecDepth 100000 in
theorem c_X11_step (l : Launch) (G : mx_G) (P : mx_P) (a0 : Nat) (p1 : Int32) (p2 : Int32) (p3 : Int32) (σ : mx_S) (r : Int32) (σ' : mx_S) (hf : f_X11_step P a0 p1 p2 p3 σ = some (.inr (r, σ'))) : mxz σ ≤ mpc P → mxu σ ≤ mps P → mx_M l yX11_step cX11_step 4 (some .int) 8 158 G P [.ref a0, .int p1, .int p2, .int p3] σ (some (.int r)) σ' := by
  intro hcap hcau
  refine mx_ofW (by decide +kernel) hcap hcau (Nat.le_of_ble_eq_true rfl) ?_
  intro p e s m below meth c hx hb hr hml hts hown hlocks hname hK hJ ls hl
  have hz0 := hJ.2.1
  have hown : s.vm.findClass RX11 = some m.cls := hown
  have hl : lv_has ls 4 [(0, .ref a0), (1, .int p1), (2, .int p2), (3, .int p3)] := hl
  unfold f_X11_step at hf
  refine lv_iload_n hx hb dX11_step_0 rfl (lv_at hl 1 rfl) ?_
  refine lv_iconst (v := 0) hx hb dX11_step_1 (by decide) ?_
  refine lv_sipush (v := 255) hx hb dX11_step_2 (by decide) ?_
  obtain ⟨σ1, e2, hf⟩ := mbx_n hf
  refine mx_callS (As := [.int p1, .int (0 : Int32), .int (255 : Int32)]) (rest := []) hx hb hml hts hown hK hJ rfl rfl (c_X11_needRange l G P p1 (0 : Int32) (255 : Int32) σ σ1 e2) me_X11_needRange kw_1005 kw_1004 (Nat.le_of_ble_eq_true rfl) (Nat.le_of_ble_eq_true rfl) rfl hl.1 rfl (Nat.le_of_ble_eq_true rfl) dX11_step_5 (fun H locs hJ => ?_)
  refine lv_iload_n hx hb dX11_step_8 rfl (lv_at hl 2 rfl) ?_
  refine lv_iconst (v := 0) hx hb dX11_step_9 (by decide) ?_
  refine lv_iconst (v := 3) hx hb dX11_step_10 (by decide) ?_
  obtain ⟨σ3, e4, hf⟩ := mbx_n hf
  refine mx_callS (As := [.int p2, .int (0 : Int32), .int (3 : Int32)]) (rest := []) hx hb hml hts hown hK hJ rfl rfl (c_X11_needRange l G P p2 (0 : Int32) (3 : Int32) σ1 σ3 e4) me_X11_needRange kw_1005 kw_1004 (Nat.le_of_ble_eq_true rfl) (Nat.le_of_ble_eq_true rfl) rfl hl.1 rfl (Nat.le_of_ble_eq_true rfl) dX11_step_11 (fun H locs hJ => ?_)
  refine lv_iload_n hx hb dX11_step_14 rfl (lv_at hl 3 rfl) ?_
  refine lv_sipush (v := (-1023)) hx hb dX11_step_15 (by decide) ?_
  refine lv_sipush (v := 1023) hx hb dX11_step_18 (by decide) ?_
  obtain ⟨σ5, e6, hf⟩ := mbx_n hf
  refine mx_callS (As := [.int p3, .int (-1023 : Int32), .int (1023 : Int32)]) (rest := []) hx hb hml hts hown hK hJ rfl rfl (c_X11_needRange l G P p3 (-1023 : Int32) (1023 : Int32) σ3 σ5 e6) me_X11_needRange kw_1005 kw_1004 (Nat.le_of_ble_eq_true rfl) (Nat.le_of_ble_eq_true rfl) rfl hl.1 rfl (Nat.le_of_ble_eq_true rfl) dX11_step_21 (fun H locs hJ => ?_)
  refine lv_aload_n hx hb dX11_step_24 rfl (lv_at hl 0 rfl) ?_
  refine lv_iload_n hx hb dX11_step_25 rfl (lv_at hl 1 rfl) ?_
  obtain ⟨i7, e8, hf⟩ := mb0 hf
  obtain ⟨σ9, e10, hf⟩ := mbx_n hf
  refine mx_callV (As := [.int p1]) (rest := []) hx hb hml hts hown hK hJ rfl rfl (ci := 11) rfl e8 (c_X11_needSure l G P a0 p1 σ5 σ9 e10) me_X11_needSure kw_1286 ks_39 kw_1284 (Nat.le_of_ble_eq_true rfl) (Nat.le_of_ble_eq_true rfl) rfl hl.1 rfl (Nat.le_of_ble_eq_true rfl) dX11_step_26 (fun H locs hJ => ?_)
  refine lv_aload_n hx hb dX11_step_29 rfl (lv_at hl 0 rfl) ?_
  obtain ⟨b11, e12, hf⟩ := mb0 hf
  refine my_gR hx hb hts hown hK hJ fd_RX11_54 hv_11_6 e12 dX11_step_30 ?_
  refine lv_iload_n hx hb dX11_step_33 rfl (lv_at hl 1 rfl) ?_
  refine lv_iload_n hx hb dX11_step_34 rfl (lv_at hl 2 rfl) ?_
  refine lv_iload_n hx hb dX11_step_35 rfl (lv_at hl 3 rfl) ?_
  obtain ⟨i13, e14, hf⟩ := mb0 hf
  obtain ⟨σ15, e16, hf⟩ := mb0 hf
  refine mx_callV (As := [.int p1, .int p2, .int p3]) (rest := []) hx hb hml hts hown hK hJ rfl rfl (ci := 7) rfl e14 (c_X7_walk l G P b11 p1 p2 p3 σ9 σ15 e16) me_X7_walk kw_1307 kw_1308 kw_1306 (Nat.le_of_ble_eq_true rfl) (Nat.le_of_ble_eq_true rfl) rfl hl.1 rfl (Nat.le_of_ble_eq_true rfl) dX11_step_36 (fun H locs hJ => ?_)
  refine lv_aload_n hx hb dX11_step_39 rfl (lv_at hl 0 rfl) ?_
  obtain ⟨b17, e18, hf⟩ := mb0 hf
  refine my_gR hx hb hts hown hK hJ fd_RX11_54 hv_11_6 e18 dX11_step_40 ?_
  obtain ⟨b19, e20, hf⟩ := mb0 hf
  refine my_gR hx hb hts hown hK hJ fd_RX11_163 hv_7_4 e20 dX11_step_43 ?_
  refine lv_iload_n hx hb dX11_step_46 rfl (lv_at hl 2 rfl) ?_
  obtain ⟨x21, e22, hf⟩ := mb0 hf
  refine mx_aI hx hb hK hJ e22 dX11_step_47 ?_
  exact my_iret hx hb hr hlocks hJ (mx_inr hf) dX11_step_48
set_option maxHeartbeats 4000000 in
set_option maxRecDepth 100000 in
theorem ct_X11_step (l : Launch) (hlt : l.stackTraces = false) (G : mx_G) (P : mx_P) (a0 : Nat) (p1 : Int32) (p2 : Int32) (p3 : Int32) (σ : mx_S) (E : String) (σ' : mx_S) (hf : f_X11_step P a0 p1 p2 p3 σ = some (.inl (E, σ'))) : mxz σ ≤ mpc P → mxu σ ≤ mps P → mx_Mt l yX11_step cX11_step 4 (some .int) 8 158 G P [.ref a0, .int p1, .int p2, .int p3] σ E σ' := by
  intro hcap hcau
  refine mx_ofWt (by decide +kernel) hcap hcau (Nat.le_of_ble_eq_true rfl) ?_
  intro p e s m below meth c hx hb hr hml hts hown hlocks hname hnt hK hJ ls hl
  have hz0 := hJ.2.1
  have hown : s.vm.findClass RX11 = some m.cls := hown
  have hl : lv_has ls 4 [(0, .ref a0), (1, .int p1), (2, .int p2), (3, .int p3)] := hl
  unfold f_X11_step at hf
  refine lv_iload_n hx hb dX11_step_0 rfl (lv_at hl 1 rfl) ?_
  refine lv_iconst (v := 0) hx hb dX11_step_1 (by decide) ?_
  refine lv_sipush (v := 255) hx hb dX11_step_2 (by decide) ?_
  rcases mbx_t hf with e2 | ⟨σ1, e2, hf⟩
  · exact mx_callST (As := [.int p1, .int (0 : Int32), .int (255 : Int32)]) (rest := []) hx hb hml hts hown hK hJ rfl rfl hnt hlocks (ct_X11_needRange l hlt G P p1 (0 : Int32) (255 : Int32) σ E σ' e2) me_X11_needRange kw_1005 kw_1004 (Nat.le_of_ble_eq_true rfl) (Nat.le_of_ble_eq_true rfl) rfl hl.1 rfl (Nat.le_of_ble_eq_true rfl) dX11_step_5
  refine mx_callS (As := [.int p1, .int (0 : Int32), .int (255 : Int32)]) (rest := []) hx hb hml hts hown hK hJ rfl rfl (c_X11_needRange l G P p1 (0 : Int32) (255 : Int32) σ σ1 e2) me_X11_needRange kw_1005 kw_1004 (Nat.le_of_ble_eq_true rfl) (Nat.le_of_ble_eq_true rfl) rfl hl.1 rfl (Nat.le_of_ble_eq_true rfl) dX11_step_5 (fun H locs hJ => ?_)
  refine lv_iload_n hx hb dX11_step_8 rfl (lv_at hl 2 rfl) ?_
  refine lv_iconst (v := 0) hx hb dX11_step_9 (by decide) ?_
  refine lv_iconst (v := 3) hx hb dX11_step_10 (by decide) ?_
  rcases mbx_t hf with e4 | ⟨σ3, e4, hf⟩
  · exact mx_callST (As := [.int p2, .int (0 : Int32), .int (3 : Int32)]) (rest := []) hx hb hml hts hown hK hJ rfl rfl hnt hlocks (ct_X11_needRange l hlt G P p2 (0 : Int32) (3 : Int32) σ1 E σ' e4) me_X11_needRange kw_1005 kw_1004 (Nat.le_of_ble_eq_true rfl) (Nat.le_of_ble_eq_true rfl) rfl hl.1 rfl (Nat.le_of_ble_eq_true rfl) dX11_step_11
  refine mx_callS (As := [.int p2, .int (0 : Int32), .int (3 : Int32)]) (rest := []) hx hb hml hts hown hK hJ rfl rfl (c_X11_needRange l G P p2 (0 : Int32) (3 : Int32) σ1 σ3 e4) me_X11_needRange kw_1005 kw_1004 (Nat.le_of_ble_eq_true rfl) (Nat.le_of_ble_eq_true rfl) rfl hl.1 rfl (Nat.le_of_ble_eq_true rfl) dX11_step_11 (fun H locs hJ => ?_)
  refine lv_iload_n hx hb dX11_step_14 rfl (lv_at hl 3 rfl) ?_
  refine lv_sipush (v := (-1023)) hx hb dX11_step_15 (by decide) ?_
  refine lv_sipush (v := 1023) hx hb dX11_step_18 (by decide) ?_
  rcases mbx_t hf with e6 | ⟨σ5, e6, hf⟩
  · exact mx_callST (As := [.int p3, .int (-1023 : Int32), .int (1023 : Int32)]) (rest := []) hx hb hml hts hown hK hJ rfl rfl hnt hlocks (ct_X11_needRange l hlt G P p3 (-1023 : Int32) (1023 : Int32) σ3 E σ' e6) me_X11_needRange kw_1005 kw_1004 (Nat.le_of_ble_eq_true rfl) (Nat.le_of_ble_eq_true rfl) rfl hl.1 rfl (Nat.le_of_ble_eq_true rfl) dX11_step_21
  refine mx_callS (As := [.int p3, .int (-1023 : Int32), .int (1023 : Int32)]) (rest := []) hx hb hml hts hown hK hJ rfl rfl (c_X11_needRange l G P p3 (-1023 : Int32) (1023 : Int32) σ3 σ5 e6) me_X11_needRange kw_1005 kw_1004 (Nat.le_of_ble_eq_true rfl) (Nat.le_of_ble_eq_true rfl) rfl hl.1 rfl (Nat.le_of_ble_eq_true rfl) dX11_step_21 (fun H locs hJ => ?_)
  refine lv_aload_n hx hb dX11_step_24 rfl (lv_at hl 0 rfl) ?_
  refine lv_iload_n hx hb dX11_step_25 rfl (lv_at hl 1 rfl) ?_
  obtain ⟨i7, e8, hf⟩ := mb0 hf
  rcases mbx_t hf with e10 | ⟨σ9, e10, hf⟩
  · exact mx_callVT (As := [.int p1]) (rest := []) hx hb hml hts hown hK hJ rfl rfl hnt hlocks (ci := 11) rfl e8 (ct_X11_needSure l hlt G P a0 p1 σ5 E σ' e10) me_X11_needSure kw_1286 ks_39 kw_1284 (Nat.le_of_ble_eq_true rfl) (Nat.le_of_ble_eq_true rfl) rfl hl.1 rfl (Nat.le_of_ble_eq_true rfl) dX11_step_26
  refine mx_callV (As := [.int p1]) (rest := []) hx hb hml hts hown hK hJ rfl rfl (ci := 11) rfl e8 (c_X11_needSure l G P a0 p1 σ5 σ9 e10) me_X11_needSure kw_1286 ks_39 kw_1284 (Nat.le_of_ble_eq_true rfl) (Nat.le_of_ble_eq_true rfl) rfl hl.1 rfl (Nat.le_of_ble_eq_true rfl) dX11_step_26 (fun H locs hJ => ?_)
  refine lv_aload_n hx hb dX11_step_29 rfl (lv_at hl 0 rfl) ?_
  obtain ⟨b11, e12, hf⟩ := mb0 hf
  refine my_gR hx hb hts hown hK hJ fd_RX11_54 hv_11_6 e12 dX11_step_30 ?_
  refine lv_iload_n hx hb dX11_step_33 rfl (lv_at hl 1 rfl) ?_
  refine lv_iload_n hx hb dX11_step_34 rfl (lv_at hl 2 rfl) ?_
  refine lv_iload_n hx hb dX11_step_35 rfl (lv_at hl 3 rfl) ?_
  obtain ⟨i13, e14, hf⟩ := mb0 hf
  obtain ⟨σ15, e16, hf⟩ := mb0 hf
  refine mx_callV (As := [.int p1, .int p2, .int p3]) (rest := []) hx hb hml hts hown hK hJ rfl rfl (ci := 7) rfl e14 (c_X7_walk l G P b11 p1 p2 p3 σ9 σ15 e16) me_X7_walk kw_1307 kw_1308 kw_1306 (Nat.le_of_ble_eq_true rfl) (Nat.le_of_ble_eq_true rfl) rfl hl.1 rfl (Nat.le_of_ble_eq_true rfl) dX11_step_36 (fun H locs hJ => ?_)
  refine lv_aload_n hx hb dX11_step_39 rfl (lv_at hl 0 rfl) ?_
  obtain ⟨b17, e18, hf⟩ := mb0 hf
  refine my_gR hx hb hts hown hK hJ fd_RX11_54 hv_11_6 e18 dX11_step_40 ?_
  obtain ⟨b19, e20, hf⟩ := mb0 hf
  refine my_gR hx hb hts hown hK hJ fd_RX11_163 hv_7_4 e20 dX11_step_43 ?_
  refine lv_iload_n hx hb dX11_step_46 rfl (lv_at hl 2 rfl) ?_
  obtain ⟨x21, e22, hf⟩ := mb0 hf
  refine mx_aI hx hb hK hJ e22 dX11_step_47 ?_
  cases hf
set_option maxHeartbeats 4000000 in
set_option maxRecDepth 100000 in
theorem c_X11_range (l : Launch) (G : mx_G) (P : mx_P) (a0 : Nat) (p1 : Int32) (p2 : Int32) (p3 : Int32) (σ : mx_S) (r : Int32) (σ' : mx_S) (hf : f_X11_range P a0 p1 p2 p3 σ = some (.inr (r, σ'))) : mxz σ ≤ mpc P → mxu σ ≤ mps P → mx_M l yX11_range cX11_range 4 (some .int) 7 162 G P [.ref a0, .int p1, .int p2, .int p3] σ (some (.int r)) σ' := by
  intro hcap hcau
  refine mx_ofW (by decide +kernel) hcap hcau (Nat.le_of_ble_eq_true rfl) ?_
  intro p e s m below meth c hx hb hr hml hts hown hlocks hname hK hJ ls hl
  have hz0 := hJ.2.1
  have hown : s.vm.findClass RX11 = some m.cls := hown
  have hl : lv_has ls 4 [(0, .ref a0), (1, .int p1), (2, .int p2), (3, .int p3)] := hl
  unfold f_X11_range at hf
  refine lv_iload_n hx hb dX11_range_0 rfl (lv_at hl 1 rfl) ?_
  refine lv_iconst (v := 0) hx hb dX11_range_1 (by decide) ?_
  refine lv_sipush (v := 255) hx hb dX11_range_2 (by decide) ?_
  obtain ⟨σ1, e2, hf⟩ := mbx_n hf
  refine mx_callS (As := [.int p1, .int (0 : Int32), .int (255 : Int32)]) (rest := []) hx hb hml hts hown hK hJ rfl rfl (c_X11_needRange l G P p1 (0 : Int32) (255 : Int32) σ σ1 e2) me_X11_needRange kw_1005 kw_1004 (Nat.le_of_ble_eq_true rfl) (Nat.le_of_ble_eq_true rfl) rfl hl.1 rfl (Nat.le_of_ble_eq_true rfl) dX11_range_5 (fun H locs hJ => ?_)
  refine lv_iload_n hx hb dX11_range_8 rfl (lv_at hl 2 rfl) ?_
  refine lv_iconst (v := 0) hx hb dX11_range_9 (by decide) ?_
  refine lv_iconst (v := 3) hx hb dX11_range_10 (by decide) ?_
  obtain ⟨σ3, e4, hf⟩ := mbx_n hf
  refine mx_callS (As := [.int p2, .int (0 : Int32), .int (3 : Int32)]) (rest := []) hx hb hml hts hown hK hJ rfl rfl (c_X11_needRange l G P p2 (0 : Int32) (3 : Int32) σ1 σ3 e4) me_X11_needRange kw_1005 kw_1004 (Nat.le_of_ble_eq_true rfl) (Nat.le_of_ble_eq_true rfl) rfl hl.1 rfl (Nat.le_of_ble_eq_true rfl) dX11_range_11 (fun H locs hJ => ?_)
  refine lv_iload_n hx hb dX11_range_14 rfl (lv_at hl 3 rfl) ?_
  refine lv_iconst (v := 0) hx hb dX11_range_15 (by decide) ?_
  refine lv_iconst (v := 2) hx hb dX11_range_16 (by decide) ?_
  obtain ⟨σ5, e6, hf⟩ := mbx_n hf
  refine mx_callS (As := [.int p3, .int (0 : Int32), .int (2 : Int32)]) (rest := []) hx hb hml hts hown hK hJ rfl rfl (c_X11_needRange l G P p3 (0 : Int32) (2 : Int32) σ3 σ5 e6) me_X11_needRange kw_1005 kw_1004 (Nat.le_of_ble_eq_true rfl) (Nat.le_of_ble_eq_true rfl) rfl hl.1 rfl (Nat.le_of_ble_eq_true rfl) dX11_range_17 (fun H locs hJ => ?_)
  refine lv_aload_n hx hb dX11_range_20 rfl (lv_at hl 0 rfl) ?_
  obtain ⟨b7, e8, hf⟩ := mb0 hf
  refine my_gR hx hb hts hown hK hJ fd_RX11_54 hv_11_6 e8 dX11_range_21 ?_
  refine lv_iload_n hx hb dX11_range_24 rfl (lv_at hl 1 rfl) ?_
  refine lv_iload_n hx hb dX11_range_25 rfl (lv_at hl 2 rfl) ?_
  refine lv_iload_n hx hb dX11_range_26 rfl (lv_at hl 3 rfl) ?_
  obtain ⟨i9, e10, hf⟩ := mb0 hf
  obtain ⟨x12, σ11, e13, hf⟩ := mc0 hf
  refine mx_callV (As := [.int p1, .int p2, .int p3]) (rest := []) hx hb hml hts hown hK hJ rfl rfl (ci := 7) rfl e10 (c_X7_runsOf l G P b7 p1 p2 p3 σ5 x12 σ11 e13) me_X7_runsOf kw_1318 kw_1319 kw_1317 (Nat.le_of_ble_eq_true rfl) (Nat.le_of_ble_eq_true rfl) rfl hl.1 rfl (Nat.le_of_ble_eq_true rfl) dX11_range_27 (fun H locs hJ => ?_)
  exact my_iret hx hb hr hlocks hJ (mx_inr hf) dX11_range_30
set_option maxHeartbeats 4000000 in
set_option maxRecDepth 100000 in
theorem ct_X11_range (l : Launch) (hlt : l.stackTraces = false) (G : mx_G) (P : mx_P) (a0 : Nat) (p1 : Int32) (p2 : Int32) (p3 : Int32) (σ : mx_S) (E : String) (σ' : mx_S) (hf : f_X11_range P a0 p1 p2 p3 σ = some (.inl (E, σ'))) : mxz σ ≤ mpc P → mxu σ ≤ mps P → mx_Mt l yX11_range cX11_range 4 (some .int) 7 162 G P [.ref a0, .int p1, .int p2, .int p3] σ E σ' := by
  intro hcap hcau
  refine mx_ofWt (by decide +kernel) hcap hcau (Nat.le_of_ble_eq_true rfl) ?_
  intro p e s m below meth c hx hb hr hml hts hown hlocks hname hnt hK hJ ls hl
  have hz0 := hJ.2.1
  have hown : s.vm.findClass RX11 = some m.cls := hown
  have hl : lv_has ls 4 [(0, .ref a0), (1, .int p1), (2, .int p2), (3, .int p3)] := hl
  unfold f_X11_range at hf
  refine lv_iload_n hx hb dX11_range_0 rfl (lv_at hl 1 rfl) ?_
  refine lv_iconst (v := 0) hx hb dX11_range_1 (by decide) ?_
  refine lv_sipush (v := 255) hx hb dX11_range_2 (by decide) ?_
  rcases mbx_t hf with e2 | ⟨σ1, e2, hf⟩
  · exact mx_callST (As := [.int p1, .int (0 : Int32), .int (255 : Int32)]) (rest := []) hx hb hml hts hown hK hJ rfl rfl hnt hlocks (ct_X11_needRange l hlt G P p1 (0 : Int32) (255 : Int32) σ E σ' e2) me_X11_needRange kw_1005 kw_1004 (Nat.le_of_ble_eq_true rfl) (Nat.le_of_ble_eq_true rfl) rfl hl.1 rfl (Nat.le_of_ble_eq_true rfl) dX11_range_5
  refine mx_callS (As := [.int p1, .int (0 : Int32), .int (255 : Int32)]) (rest := []) hx hb hml hts hown hK hJ rfl rfl (c_X11_needRange l G P p1 (0 : Int32) (255 : Int32) σ σ1 e2) me_X11_needRange kw_1005 kw_1004 (Nat.le_of_ble_eq_true rfl) (Nat.le_of_ble_eq_true rfl) rfl hl.1 rfl (Nat.le_of_ble_eq_true rfl) dX11_range_5 (fun H locs hJ => ?_)
  refine lv_iload_n hx hb dX11_range_8 rfl (lv_at hl 2 rfl) ?_
  refine lv_iconst (v := 0) hx hb dX11_range_9 (by decide) ?_
  refine lv_iconst (v := 3) hx hb dX11_range_10 (by decide) ?_
  rcases mbx_t hf with e4 | ⟨σ3, e4, hf⟩
  · exact mx_callST (As := [.int p2, .int (0 : Int32), .int (3 : Int32)]) (rest := []) hx hb hml hts hown hK hJ rfl rfl hnt hlocks (ct_X11_needRange l hlt G P p2 (0 : Int32) (3 : Int32) σ1 E σ' e4) me_X11_needRange kw_1005 kw_1004 (Nat.le_of_ble_eq_true rfl) (Nat.le_of_ble_eq_true rfl) rfl hl.1 rfl (Nat.le_of_ble_eq_true rfl) dX11_range_11
  refine mx_callS (As := [.int p2, .int (0 : Int32), .int (3 : Int32)]) (rest := []) hx hb hml hts hown hK hJ rfl rfl (c_X11_needRange l G P p2 (0 : Int32) (3 : Int32) σ1 σ3 e4) me_X11_needRange kw_1005 kw_1004 (Nat.le_of_ble_eq_true rfl) (Nat.le_of_ble_eq_true rfl) rfl hl.1 rfl (Nat.le_of_ble_eq_true rfl) dX11_range_11 (fun H locs hJ => ?_)
  refine lv_iload_n hx hb dX11_range_14 rfl (lv_at hl 3 rfl) ?_
  refine lv_iconst (v := 0) hx hb dX11_range_15 (by decide) ?_
  refine lv_iconst (v := 2) hx hb dX11_range_16 (by decide) ?_
  rcases mbx_t hf with e6 | ⟨σ5, e6, hf⟩
  · exact mx_callST (As := [.int p3, .int (0 : Int32), .int (2 : Int32)]) (rest := []) hx hb hml hts hown hK hJ rfl rfl hnt hlocks (ct_X11_needRange l hlt G P p3 (0 : Int32) (2 : Int32) σ3 E σ' e6) me_X11_needRange kw_1005 kw_1004 (Nat.le_of_ble_eq_true rfl) (Nat.le_of_ble_eq_true rfl) rfl hl.1 rfl (Nat.le_of_ble_eq_true rfl) dX11_range_17
  refine mx_callS (As := [.int p3, .int (0 : Int32), .int (2 : Int32)]) (rest := []) hx hb hml hts hown hK hJ rfl rfl (c_X11_needRange l G P p3 (0 : Int32) (2 : Int32) σ3 σ5 e6) me_X11_needRange kw_1005 kw_1004 (Nat.le_of_ble_eq_true rfl) (Nat.le_of_ble_eq_true rfl) rfl hl.1 rfl (Nat.le_of_ble_eq_true rfl) dX11_range_17 (fun H locs hJ => ?_)
  refine lv_aload_n hx hb dX11_range_20 rfl (lv_at hl 0 rfl) ?_
  obtain ⟨b7, e8, hf⟩ := mb0 hf
  refine my_gR hx hb hts hown hK hJ fd_RX11_54 hv_11_6 e8 dX11_range_21 ?_
  refine lv_iload_n hx hb dX11_range_24 rfl (lv_at hl 1 rfl) ?_
  refine lv_iload_n hx hb dX11_range_25 rfl (lv_at hl 2 rfl) ?_
  refine lv_iload_n hx hb dX11_range_26 rfl (lv_at hl 3 rfl) ?_
  obtain ⟨i9, e10, hf⟩ := mb0 hf
  obtain ⟨x12, σ11, e13, hf⟩ := mc0 hf
  refine mx_callV (As := [.int p1, .int p2, .int p3]) (rest := []) hx hb hml hts hown hK hJ rfl rfl (ci := 7) rfl e10 (c_X7_runsOf l G P b7 p1 p2 p3 σ5 x12 σ11 e13) me_X7_runsOf kw_1318 kw_1319 kw_1317 (Nat.le_of_ble_eq_true rfl) (Nat.le_of_ble_eq_true rfl) rfl hl.1 rfl (Nat.le_of_ble_eq_true rfl) dX11_range_27 (fun H locs hJ => ?_)
  cases hf
set_option maxHeartbeats 4000000 in
set_option maxRecDepth 100000 in
theorem c_X11_spread (l : Launch) (G : mx_G) (P : mx_P) (a0 : Nat) (p1 : Int32) (p2 : Int32) (p3 : Int32) (p4 : Int32) (p5 : Int32) (σ : mx_S) (r : Int64) (σ' : mx_S) (hf : f_X11_spread P a0 p1 p2 p3 p4 p5 σ = some (.inr (r, σ'))) : mxz σ ≤ mpc P → mxu σ ≤ mps P → mx_M l yX11_spread cX11_spread 6 (some .long) 7 160 G P [.ref a0, .int p1, .int p2, .int p3, .int p4, .int p5] σ (some (.long r)) σ' := by
  intro hcap hcau
  refine mx_ofW (by decide +kernel) hcap hcau (Nat.le_of_ble_eq_true rfl) ?_
  intro p e s m below meth c hx hb hr hml hts hown hlocks hname hK hJ ls hl
  have hz0 := hJ.2.1
  have hown : s.vm.findClass RX11 = some m.cls := hown
  have hl : lv_has ls 6 [(0, .ref a0), (1, .int p1), (2, .int p2), (3, .int p3), (4, .int p4), (5, .int p5)] := hl
  have D72 : ∀ (v0 : Nat) (v5 : Int32) (w0 : Int32) (τ : mx_S), f_X11_spread_D72 P v0 v5 w0 τ = some (.inr (r, σ')) → ∀ (H : Heap) (locs : List Loc), mx_J G P s.heap (mxz σ) (mxu σ) τ H locs → ∀ ls : Array Slot, lv_has ls 6 [(0, .ref v0), (5, .int v5)] → W p l e (mx_rm P 7 160 σ) s m ([.ref a0, .int p1, .int p2, .int p3, .int p4, .int p5] : List Value).toArray below meth c H locs (mxz τ - mxz σ) (mxu τ - mxu σ) (mx_Z below G P (some (.long r)) σ σ' [.ref a0, .int p1, .int p2, .int p3, .int p4, .int p5] s) (F0 m 72 ls [.int w0]) := by
    intro v0 v5 w0 τ hf _ _ hJ ls hl
    unfold f_X11_spread_D72 at hf
    obtain ⟨σ31, e32, hf⟩ := mbx_n hf
    refine mx_callS (As := [.int w0]) (rest := []) hx hb hml hts hown hK hJ rfl rfl (c_X11_needPresence l G P w0 τ σ31 e32) me_X11_needPresence kw_1243 kw_1242 (Nat.le_of_ble_eq_true rfl) (Nat.le_of_ble_eq_true rfl) rfl hl.1 rfl (Nat.le_of_ble_eq_true rfl) dX11_spread_72 (fun H locs hJ => ?_)
    refine lv_aload_n hx hb dX11_spread_75 rfl (lv_at hl 0 rfl) ?_
    obtain ⟨b33, e34, hf⟩ := mb0 hf
    refine my_gR hx hb hts hown hK hJ fd_RX11_54 hv_11_6 e34 dX11_spread_76 ?_
    obtain ⟨b35, e36, hf⟩ := mb0 hf
    refine my_gR hx hb hts hown hK hJ fd_RX11_174 hv_7_19 e36 dX11_spread_79 ?_
    refine lv_iload hx hb dX11_spread_82 (lv_at hl 1 rfl) ?_
    obtain ⟨i37, e38, hf⟩ := mb0 hf
    obtain ⟨x40, σ39, e41, hf⟩ := mc0 hf
    refine mx_callV (As := [.int v5]) (rest := []) hx hb hml hts hown hK hJ rfl rfl (ci := 0) rfl e38 (c_X0_number l G P b35 v5 σ31 x40 σ39 e41) me_X0_number kw_1273 kw_1274 kw_1272 (Nat.le_of_ble_eq_true rfl) (Nat.le_of_ble_eq_true rfl) rfl hl.1 rfl (Nat.le_of_ble_eq_true rfl) dX11_spread_84 (fun H locs hJ => ?_)
    exact my_lret hx hb hr hlocks hJ (mx_inr hf) dX11_spread_87
  unfold f_X11_spread at hf
  refine lv_iload_n hx hb dX11_spread_0 rfl (lv_at hl 1 rfl) ?_
  refine lv_iconst (v := 0) hx hb dX11_spread_1 (by decide) ?_
  refine lv_sipush (v := 255) hx hb dX11_spread_2 (by decide) ?_
  obtain ⟨σ1, e2, hf⟩ := mbx_n hf
  refine mx_callS (As := [.int p1, .int (0 : Int32), .int (255 : Int32)]) (rest := []) hx hb hml hts hown hK hJ rfl rfl (c_X11_needRange l G P p1 (0 : Int32) (255 : Int32) σ σ1 e2) me_X11_needRange kw_1005 kw_1004 (Nat.le_of_ble_eq_true rfl) (Nat.le_of_ble_eq_true rfl) rfl hl.1 rfl (Nat.le_of_ble_eq_true rfl) dX11_spread_5 (fun H locs hJ => ?_)
  refine lv_iload_n hx hb dX11_spread_8 rfl (lv_at hl 2 rfl) ?_
  refine lv_iconst (v := 0) hx hb dX11_spread_9 (by decide) ?_
  refine lv_iconst (v := 3) hx hb dX11_spread_10 (by decide) ?_
  obtain ⟨σ3, e4, hf⟩ := mbx_n hf
  refine mx_callS (As := [.int p2, .int (0 : Int32), .int (3 : Int32)]) (rest := []) hx hb hml hts hown hK hJ rfl rfl (c_X11_needRange l G P p2 (0 : Int32) (3 : Int32) σ1 σ3 e4) me_X11_needRange kw_1005 kw_1004 (Nat.le_of_ble_eq_true rfl) (Nat.le_of_ble_eq_true rfl) rfl hl.1 rfl (Nat.le_of_ble_eq_true rfl) dX11_spread_11 (fun H locs hJ => ?_)
  refine lv_iload hx hb dX11_spread_14 (lv_at hl 4 rfl) ?_
  refine lv_iconst (v := 0) hx hb dX11_spread_16 (by decide) ?_
  refine lv_iconst (v := 1) hx hb dX11_spread_17 (by decide) ?_
  obtain ⟨σ5, e6, hf⟩ := mbx_n hf
  refine mx_callS (As := [.int p4, .int (0 : Int32), .int (1 : Int32)]) (rest := []) hx hb hml hts hown hK hJ rfl rfl (c_X11_needRange l G P p4 (0 : Int32) (1 : Int32) σ3 σ5 e6) me_X11_needRange kw_1005 kw_1004 (Nat.le_of_ble_eq_true rfl) (Nat.le_of_ble_eq_true rfl) rfl hl.1 rfl (Nat.le_of_ble_eq_true rfl) dX11_spread_18 (fun H locs hJ => ?_)
  refine lv_iload hx hb dX11_spread_21 (lv_at hl 5 rfl) ?_
  refine lv_iconst (v := 0) hx hb dX11_spread_23 (by decide) ?_
  refine lv_iconst (v := 1) hx hb dX11_spread_24 (by decide) ?_
  obtain ⟨σ7, e8, hf⟩ := mbx_n hf
  refine mx_callS (As := [.int p5, .int (0 : Int32), .int (1 : Int32)]) (rest := []) hx hb hml hts hown hK hJ rfl rfl (c_X11_needRange l G P p5 (0 : Int32) (1 : Int32) σ5 σ7 e8) me_X11_needRange kw_1005 kw_1004 (Nat.le_of_ble_eq_true rfl) (Nat.le_of_ble_eq_true rfl) rfl hl.1 rfl (Nat.le_of_ble_eq_true rfl) dX11_spread_25 (fun H locs hJ => ?_)
  refine lv_iload_n hx hb dX11_spread_28 rfl (lv_at hl 3 rfl) ?_
  refine lv_aload_n hx hb dX11_spread_29 rfl (lv_at hl 0 rfl) ?_
  obtain ⟨b9, e10, hf⟩ := mb0 hf
  refine my_gR hx hb hts hown hK hJ fd_RX11_54 hv_11_6 e10 dX11_spread_30 ?_
  obtain ⟨x11, e12, hf⟩ := mb0 hf
  refine my_gI hx hb hts hown hK hJ fd_RX11_103 hv_7_2 e12 dX11_spread_33 ?_
  obtain ⟨x14, σ13, e15, hf⟩ := mc0 hf
  refine mx_callS (As := [.int p3, .int x11]) (rest := []) hx hb hml hts hown hK hJ rfl rfl (c_X11_isWithin l G P p3 x11 σ7 x14 σ13 e15) me_X11_isWithin kw_1240 kw_1239 (Nat.le_of_ble_eq_true rfl) (Nat.le_of_ble_eq_true rfl) rfl hl.1 rfl (Nat.le_of_ble_eq_true rfl) dX11_spread_36 (fun H locs hJ => ?_)
  obtain ⟨σ16, e17, hf⟩ := mbx_n hf
  refine mx_callS (As := [.int x14]) (rest := []) hx hb hml hts hown hK hJ rfl rfl (c_X11_needPresence l G P x14 σ13 σ16 e17) me_X11_needPresence kw_1243 kw_1242 (Nat.le_of_ble_eq_true rfl) (Nat.le_of_ble_eq_true rfl) rfl hl.1 rfl (Nat.le_of_ble_eq_true rfl) dX11_spread_39 (fun H locs hJ => ?_)
  refine lv_aload_n hx hb dX11_spread_42 rfl (lv_at hl 0 rfl) ?_
  obtain ⟨b18, e19, hf⟩ := mb0 hf
  refine my_gR hx hb hts hown hK hJ fd_RX11_54 hv_11_6 e19 dX11_spread_43 ?_
  refine lv_iload_n hx hb dX11_spread_46 rfl (lv_at hl 1 rfl) ?_
  refine lv_iload_n hx hb dX11_spread_47 rfl (lv_at hl 2 rfl) ?_
  refine lv_iload_n hx hb dX11_spread_48 rfl (lv_at hl 3 rfl) ?_
  refine lv_iload hx hb dX11_spread_49 (lv_at hl 4 rfl) ?_
  obtain ⟨i20, e21, hf⟩ := mb0 hf
  obtain ⟨σ22, e23, hf⟩ := mb0 hf
  refine mx_callV (As := [.int p1, .int p2, .int p3, .int p4]) (rest := []) hx hb hml hts hown hK hJ rfl rfl (ci := 7) rfl e21 (c_X7_sweep l G P b18 p1 p2 p3 p4 σ16 σ22 e23) me_X7_sweep kw_1329 kw_1330 kw_1328 (Nat.le_of_ble_eq_true rfl) (Nat.le_of_ble_eq_true rfl) rfl hl.1 rfl (Nat.le_of_ble_eq_true rfl) dX11_spread_51 (fun H locs hJ => ?_)
  refine lv_aload_n hx hb dX11_spread_54 rfl (lv_at hl 0 rfl) ?_
  obtain ⟨b24, e25, hf⟩ := mb0 hf
  refine my_gR hx hb hts hown hK hJ fd_RX11_54 hv_11_6 e25 dX11_spread_55 ?_
  obtain ⟨b26, e27, hf⟩ := mb0 hf
  refine my_gR hx hb hts hown hK hJ fd_RX11_174 hv_7_19 e27 dX11_spread_58 ?_
  obtain ⟨x28, e29, hf⟩ := mb0 hf
  refine my_gI hx hb hts hown hK hJ fd_RX11_178 hv_0_2 e29 dX11_spread_61 ?_
  refine lv_if_ne (tgt := 71) hx hb dX11_spread_64 (by decide) (fun c30 => ?_) (fun c30 => ?_)
  · rw [if_neg c30] at hf
    refine lv_iconst (v := 0) hx hb dX11_spread_71 (by decide) ?_
    exact D72 a0 p5 (0 : Int32) σ22 hf _ _ hJ ls (lv_sub hl [0, 5] rfl)
  · rw [if_pos c30] at hf
    refine lv_iconst (v := 1) hx hb dX11_spread_67 (by decide) ?_
    refine lv_goto (tgt := 72) hx hb dX11_spread_68 (by decide) ?_
    exact D72 a0 p5 (1 : Int32) σ22 hf _ _ hJ ls (lv_sub hl [0, 5] rfl)
set_option maxHeartbeats 4000000 in
set_option maxRecDepth 100000 in
theorem ct_X11_spread (l : Launch) (hlt : l.stackTraces = false) (G : mx_G) (P : mx_P) (a0 : Nat) (p1 : Int32) (p2 : Int32) (p3 : Int32) (p4 : Int32) (p5 : Int32) (σ : mx_S) (E : String) (σ' : mx_S) (hf : f_X11_spread P a0 p1 p2 p3 p4 p5 σ = some (.inl (E, σ'))) : mxz σ ≤ mpc P → mxu σ ≤ mps P → mx_Mt l yX11_spread cX11_spread 6 (some .long) 7 160 G P [.ref a0, .int p1, .int p2, .int p3, .int p4, .int p5] σ E σ' := by
  intro hcap hcau
  refine mx_ofWt (by decide +kernel) hcap hcau (Nat.le_of_ble_eq_true rfl) ?_
  intro p e s m below meth c hx hb hr hml hts hown hlocks hname hnt hK hJ ls hl
  have hz0 := hJ.2.1
  have hown : s.vm.findClass RX11 = some m.cls := hown
  have hl : lv_has ls 6 [(0, .ref a0), (1, .int p1), (2, .int p2), (3, .int p3), (4, .int p4), (5, .int p5)] := hl
  have D72 : ∀ (v0 : Nat) (v5 : Int32) (w0 : Int32) (τ : mx_S), f_X11_spread_D72 P v0 v5 w0 τ = some (.inl (E, σ')) → ∀ (H : Heap) (locs : List Loc), mx_J G P s.heap (mxz σ) (mxu σ) τ H locs → ∀ ls : Array Slot, lv_has ls 6 [(0, .ref v0), (5, .int v5)] → W p l e (mx_rm P 7 160 σ) s m ([.ref a0, .int p1, .int p2, .int p3, .int p4, .int p5] : List Value).toArray below meth c H locs (mxz τ - mxz σ) (mxu τ - mxu σ) (mx_Zt below G P E σ σ' [.ref a0, .int p1, .int p2, .int p3, .int p4, .int p5] s) (F0 m 72 ls [.int w0]) := by
    intro v0 v5 w0 τ hf _ _ hJ ls hl
    unfold f_X11_spread_D72 at hf
    rcases mbx_t hf with e32 | ⟨σ31, e32, hf⟩
    · exact mx_callST (As := [.int w0]) (rest := []) hx hb hml hts hown hK hJ rfl rfl hnt hlocks (ct_X11_needPresence l hlt G P w0 τ E σ' e32) me_X11_needPresence kw_1243 kw_1242 (Nat.le_of_ble_eq_true rfl) (Nat.le_of_ble_eq_true rfl) rfl hl.1 rfl (Nat.le_of_ble_eq_true rfl) dX11_spread_72
    refine mx_callS (As := [.int w0]) (rest := []) hx hb hml hts hown hK hJ rfl rfl (c_X11_needPresence l G P w0 τ σ31 e32) me_X11_needPresence kw_1243 kw_1242 (Nat.le_of_ble_eq_true rfl) (Nat.le_of_ble_eq_true rfl) rfl hl.1 rfl (Nat.le_of_ble_eq_true rfl) dX11_spread_72 (fun H locs hJ => ?_)
    refine lv_aload_n hx hb dX11_spread_75 rfl (lv_at hl 0 rfl) ?_
    obtain ⟨b33, e34, hf⟩ := mb0 hf
    refine my_gR hx hb hts hown hK hJ fd_RX11_54 hv_11_6 e34 dX11_spread_76 ?_
    obtain ⟨b35, e36, hf⟩ := mb0 hf
    refine my_gR hx hb hts hown hK hJ fd_RX11_174 hv_7_19 e36 dX11_spread_79 ?_
    refine lv_iload hx hb dX11_spread_82 (lv_at hl 1 rfl) ?_
    obtain ⟨i37, e38, hf⟩ := mb0 hf
    obtain ⟨x40, σ39, e41, hf⟩ := mc0 hf
    refine mx_callV (As := [.int v5]) (rest := []) hx hb hml hts hown hK hJ rfl rfl (ci := 0) rfl e38 (c_X0_number l G P b35 v5 σ31 x40 σ39 e41) me_X0_number kw_1273 kw_1274 kw_1272 (Nat.le_of_ble_eq_true rfl) (Nat.le_of_ble_eq_true rfl) rfl hl.1 rfl (Nat.le_of_ble_eq_true rfl) dX11_spread_84 (fun H locs hJ => ?_)
    cases hf
  unfold f_X11_spread at hf
  refine lv_iload_n hx hb dX11_spread_0 rfl (lv_at hl 1 rfl) ?_
  refine lv_iconst (v := 0) hx hb dX11_spread_1 (by decide) ?_
  refine lv_sipush (v := 255) hx hb dX11_spread_2 (by decide) ?_
  rcases mbx_t hf with e2 | ⟨σ1, e2, hf⟩
  · exact mx_callST (As := [.int p1, .int (0 : Int32), .int (255 : Int32)]) (rest := []) hx hb hml hts hown hK hJ rfl rfl hnt hlocks (ct_X11_needRange l hlt G P p1 (0 : Int32) (255 : Int32) σ E σ' e2) me_X11_needRange kw_1005 kw_1004 (Nat.le_of_ble_eq_true rfl) (Nat.le_of_ble_eq_true rfl) rfl hl.1 rfl (Nat.le_of_ble_eq_true rfl) dX11_spread_5
  refine mx_callS (As := [.int p1, .int (0 : Int32), .int (255 : Int32)]) (rest := []) hx hb hml hts hown hK hJ rfl rfl (c_X11_needRange l G P p1 (0 : Int32) (255 : Int32) σ σ1 e2) me_X11_needRange kw_1005 kw_1004 (Nat.le_of_ble_eq_true rfl) (Nat.le_of_ble_eq_true rfl) rfl hl.1 rfl (Nat.le_of_ble_eq_true rfl) dX11_spread_5 (fun H locs hJ => ?_)
  refine lv_iload_n hx hb dX11_spread_8 rfl (lv_at hl 2 rfl) ?_
  refine lv_iconst (v := 0) hx hb dX11_spread_9 (by decide) ?_
  refine lv_iconst (v := 3) hx hb dX11_spread_10 (by decide) ?_
  rcases mbx_t hf with e4 | ⟨σ3, e4, hf⟩
  · exact mx_callST (As := [.int p2, .int (0 : Int32), .int (3 : Int32)]) (rest := []) hx hb hml hts hown hK hJ rfl rfl hnt hlocks (ct_X11_needRange l hlt G P p2 (0 : Int32) (3 : Int32) σ1 E σ' e4) me_X11_needRange kw_1005 kw_1004 (Nat.le_of_ble_eq_true rfl) (Nat.le_of_ble_eq_true rfl) rfl hl.1 rfl (Nat.le_of_ble_eq_true rfl) dX11_spread_11
  refine mx_callS (As := [.int p2, .int (0 : Int32), .int (3 : Int32)]) (rest := []) hx hb hml hts hown hK hJ rfl rfl (c_X11_needRange l G P p2 (0 : Int32) (3 : Int32) σ1 σ3 e4) me_X11_needRange kw_1005 kw_1004 (Nat.le_of_ble_eq_true rfl) (Nat.le_of_ble_eq_true rfl) rfl hl.1 rfl (Nat.le_of_ble_eq_true rfl) dX11_spread_11 (fun H locs hJ => ?_)
  refine lv_iload hx hb dX11_spread_14 (lv_at hl 4 rfl) ?_
  refine lv_iconst (v := 0) hx hb dX11_spread_16 (by decide) ?_
  refine lv_iconst (v := 1) hx hb dX11_spread_17 (by decide) ?_
  rcases mbx_t hf with e6 | ⟨σ5, e6, hf⟩
  · exact mx_callST (As := [.int p4, .int (0 : Int32), .int (1 : Int32)]) (rest := []) hx hb hml hts hown hK hJ rfl rfl hnt hlocks (ct_X11_needRange l hlt G P p4 (0 : Int32) (1 : Int32) σ3 E σ' e6) me_X11_needRange kw_1005 kw_1004 (Nat.le_of_ble_eq_true rfl) (Nat.le_of_ble_eq_true rfl) rfl hl.1 rfl (Nat.le_of_ble_eq_true rfl) dX11_spread_18
  refine mx_callS (As := [.int p4, .int (0 : Int32), .int (1 : Int32)]) (rest := []) hx hb hml hts hown hK hJ rfl rfl (c_X11_needRange l G P p4 (0 : Int32) (1 : Int32) σ3 σ5 e6) me_X11_needRange kw_1005 kw_1004 (Nat.le_of_ble_eq_true rfl) (Nat.le_of_ble_eq_true rfl) rfl hl.1 rfl (Nat.le_of_ble_eq_true rfl) dX11_spread_18 (fun H locs hJ => ?_)
  refine lv_iload hx hb dX11_spread_21 (lv_at hl 5 rfl) ?_
  refine lv_iconst (v := 0) hx hb dX11_spread_23 (by decide) ?_
  refine lv_iconst (v := 1) hx hb dX11_spread_24 (by decide) ?_
  rcases mbx_t hf with e8 | ⟨σ7, e8, hf⟩
  · exact mx_callST (As := [.int p5, .int (0 : Int32), .int (1 : Int32)]) (rest := []) hx hb hml hts hown hK hJ rfl rfl hnt hlocks (ct_X11_needRange l hlt G P p5 (0 : Int32) (1 : Int32) σ5 E σ' e8) me_X11_needRange kw_1005 kw_1004 (Nat.le_of_ble_eq_true rfl) (Nat.le_of_ble_eq_true rfl) rfl hl.1 rfl (Nat.le_of_ble_eq_true rfl) dX11_spread_25
  refine mx_callS (As := [.int p5, .int (0 : Int32), .int (1 : Int32)]) (rest := []) hx hb hml hts hown hK hJ rfl rfl (c_X11_needRange l G P p5 (0 : Int32) (1 : Int32) σ5 σ7 e8) me_X11_needRange kw_1005 kw_1004 (Nat.le_of_ble_eq_true rfl) (Nat.le_of_ble_eq_true rfl) rfl hl.1 rfl (Nat.le_of_ble_eq_true rfl) dX11_spread_25 (fun H locs hJ => ?_)
  refine lv_iload_n hx hb dX11_spread_28 rfl (lv_at hl 3 rfl) ?_
  refine lv_aload_n hx hb dX11_spread_29 rfl (lv_at hl 0 rfl) ?_
  obtain ⟨b9, e10, hf⟩ := mb0 hf
  refine my_gR hx hb hts hown hK hJ fd_RX11_54 hv_11_6 e10 dX11_spread_30 ?_
  obtain ⟨x11, e12, hf⟩ := mb0 hf
  refine my_gI hx hb hts hown hK hJ fd_RX11_103 hv_7_2 e12 dX11_spread_33 ?_
  obtain ⟨x14, σ13, e15, hf⟩ := mc0 hf
  refine mx_callS (As := [.int p3, .int x11]) (rest := []) hx hb hml hts hown hK hJ rfl rfl (c_X11_isWithin l G P p3 x11 σ7 x14 σ13 e15) me_X11_isWithin kw_1240 kw_1239 (Nat.le_of_ble_eq_true rfl) (Nat.le_of_ble_eq_true rfl) rfl hl.1 rfl (Nat.le_of_ble_eq_true rfl) dX11_spread_36 (fun H locs hJ => ?_)
  rcases mbx_t hf with e17 | ⟨σ16, e17, hf⟩
  · exact mx_callST (As := [.int x14]) (rest := []) hx hb hml hts hown hK hJ rfl rfl hnt hlocks (ct_X11_needPresence l hlt G P x14 σ13 E σ' e17) me_X11_needPresence kw_1243 kw_1242 (Nat.le_of_ble_eq_true rfl) (Nat.le_of_ble_eq_true rfl) rfl hl.1 rfl (Nat.le_of_ble_eq_true rfl) dX11_spread_39
  refine mx_callS (As := [.int x14]) (rest := []) hx hb hml hts hown hK hJ rfl rfl (c_X11_needPresence l G P x14 σ13 σ16 e17) me_X11_needPresence kw_1243 kw_1242 (Nat.le_of_ble_eq_true rfl) (Nat.le_of_ble_eq_true rfl) rfl hl.1 rfl (Nat.le_of_ble_eq_true rfl) dX11_spread_39 (fun H locs hJ => ?_)
  refine lv_aload_n hx hb dX11_spread_42 rfl (lv_at hl 0 rfl) ?_
  obtain ⟨b18, e19, hf⟩ := mb0 hf
  refine my_gR hx hb hts hown hK hJ fd_RX11_54 hv_11_6 e19 dX11_spread_43 ?_
  refine lv_iload_n hx hb dX11_spread_46 rfl (lv_at hl 1 rfl) ?_
  refine lv_iload_n hx hb dX11_spread_47 rfl (lv_at hl 2 rfl) ?_
  refine lv_iload_n hx hb dX11_spread_48 rfl (lv_at hl 3 rfl) ?_
  refine lv_iload hx hb dX11_spread_49 (lv_at hl 4 rfl) ?_
  obtain ⟨i20, e21, hf⟩ := mb0 hf
  obtain ⟨σ22, e23, hf⟩ := mb0 hf
  refine mx_callV (As := [.int p1, .int p2, .int p3, .int p4]) (rest := []) hx hb hml hts hown hK hJ rfl rfl (ci := 7) rfl e21 (c_X7_sweep l G P b18 p1 p2 p3 p4 σ16 σ22 e23) me_X7_sweep kw_1329 kw_1330 kw_1328 (Nat.le_of_ble_eq_true rfl) (Nat.le_of_ble_eq_true rfl) rfl hl.1 rfl (Nat.le_of_ble_eq_true rfl) dX11_spread_51 (fun H locs hJ => ?_)
  refine lv_aload_n hx hb dX11_spread_54 rfl (lv_at hl 0 rfl) ?_
  obtain ⟨b24, e25, hf⟩ := mb0 hf
  refine my_gR hx hb hts hown hK hJ fd_RX11_54 hv_11_6 e25 dX11_spread_55 ?_
  obtain ⟨b26, e27, hf⟩ := mb0 hf
  refine my_gR hx hb hts hown hK hJ fd_RX11_174 hv_7_19 e27 dX11_spread_58 ?_
  obtain ⟨x28, e29, hf⟩ := mb0 hf
  refine my_gI hx hb hts hown hK hJ fd_RX11_178 hv_0_2 e29 dX11_spread_61 ?_
  refine lv_if_ne (tgt := 71) hx hb dX11_spread_64 (by decide) (fun c30 => ?_) (fun c30 => ?_)
  · rw [if_neg c30] at hf
    refine lv_iconst (v := 0) hx hb dX11_spread_71 (by decide) ?_
    exact D72 a0 p5 (0 : Int32) σ22 hf _ _ hJ ls (lv_sub hl [0, 5] rfl)
  · rw [if_pos c30] at hf
    refine lv_iconst (v := 1) hx hb dX11_spread_67 (by decide) ?_
    refine lv_goto (tgt := 72) hx hb dX11_spread_68 (by decide) ?_
    exact D72 a0 p5 (1 : Int32) σ22 hf _ _ hJ ls (lv_sub hl [0, 5] rfl)
set_option maxHeartbeats 4000000 in
set_option maxRecDepth 100000 in
theorem c_X11_least (l : Launch) (G : mx_G) (P : mx_P) (a0 : Nat) (p1 : Int32) (p2 : Int32) (p3 : Int32) (p4 : Int32) (p5 : Int32) (σ : mx_S) (r : Int64) (σ' : mx_S) (hf : f_X11_least P a0 p1 p2 p3 p4 p5 σ = some (.inr (r, σ'))) : mxz σ ≤ mpc P → mxu σ ≤ mps P → mx_M l yX11_least cX11_least 6 (some .long) 7 158 G P [.ref a0, .int p1, .int p2, .int p3, .int p4, .int p5] σ (some (.long r)) σ' := by
  intro hcap hcau
  refine mx_ofW (by decide +kernel) hcap hcau (Nat.le_of_ble_eq_true rfl) ?_
  intro p e s m below meth c hx hb hr hml hts hown hlocks hname hK hJ ls hl
  have hz0 := hJ.2.1
  have hown : s.vm.findClass RX11 = some m.cls := hown
  have hl : lv_has ls 6 [(0, .ref a0), (1, .int p1), (2, .int p2), (3, .int p3), (4, .int p4), (5, .int p5)] := hl
  have D88 : ∀ (v0 : Nat) (v5 : Int32) (w0 : Int32) (τ : mx_S), f_X11_least_D88 P v0 v5 w0 τ = some (.inr (r, σ')) → ∀ (H : Heap) (locs : List Loc), mx_J G P s.heap (mxz σ) (mxu σ) τ H locs → ∀ ls : Array Slot, lv_has ls 6 [(0, .ref v0), (5, .int v5)] → W p l e (mx_rm P 7 158 σ) s m ([.ref a0, .int p1, .int p2, .int p3, .int p4, .int p5] : List Value).toArray below meth c H locs (mxz τ - mxz σ) (mxu τ - mxu σ) (mx_Z below G P (some (.long r)) σ σ' [.ref a0, .int p1, .int p2, .int p3, .int p4, .int p5] s) (F0 m 88 ls [.int w0]) := by
    intro v0 v5 w0 τ hf _ _ hJ ls hl
    unfold f_X11_least_D88 at hf
    obtain ⟨σ30, e31, hf⟩ := mbx_n hf
    refine mx_callS (As := [.int w0]) (rest := []) hx hb hml hts hown hK hJ rfl rfl (c_X11_needPresence l G P w0 τ σ30 e31) me_X11_needPresence kw_1243 kw_1242 (Nat.le_of_ble_eq_true rfl) (Nat.le_of_ble_eq_true rfl) rfl hl.1 rfl (Nat.le_of_ble_eq_true rfl) dX11_least_88 (fun H locs hJ => ?_)
    refine lv_aload_n hx hb dX11_least_91 rfl (lv_at hl 0 rfl) ?_
    obtain ⟨b32, e33, hf⟩ := mb0 hf
    refine my_gR hx hb hts hown hK hJ fd_RX11_54 hv_11_6 e33 dX11_least_92 ?_
    obtain ⟨b34, e35, hf⟩ := mb0 hf
    refine my_gR hx hb hts hown hK hJ fd_RX11_174 hv_7_19 e35 dX11_least_95 ?_
    refine lv_iload hx hb dX11_least_98 (lv_at hl 1 rfl) ?_
    obtain ⟨i36, e37, hf⟩ := mb0 hf
    obtain ⟨x39, σ38, e40, hf⟩ := mc0 hf
    refine mx_callV (As := [.int v5]) (rest := []) hx hb hml hts hown hK hJ rfl rfl (ci := 0) rfl e37 (c_X0_number l G P b34 v5 σ30 x39 σ38 e40) me_X0_number kw_1273 kw_1274 kw_1272 (Nat.le_of_ble_eq_true rfl) (Nat.le_of_ble_eq_true rfl) rfl hl.1 rfl (Nat.le_of_ble_eq_true rfl) dX11_least_100 (fun H locs hJ => ?_)
    exact my_lret hx hb hr hlocks hJ (mx_inr hf) dX11_least_103
  have D55 : ∀ (v0 : Nat) (v1 : Int32) (v2 : Int32) (v3 : Int32) (v4 : Int32) (v5 : Int32) (w0 : Int32) (τ : mx_S), f_X11_least_D55 P v0 v1 v2 v3 v4 v5 w0 τ = some (.inr (r, σ')) → ∀ (H : Heap) (locs : List Loc), mx_J G P s.heap (mxz σ) (mxu σ) τ H locs → ∀ ls : Array Slot, lv_has ls 6 [(0, .ref v0), (1, .int v1), (2, .int v2), (3, .int v3), (4, .int v4), (5, .int v5)] → W p l e (mx_rm P 7 158 σ) s m ([.ref a0, .int p1, .int p2, .int p3, .int p4, .int p5] : List Value).toArray below meth c H locs (mxz τ - mxz σ) (mxu τ - mxu σ) (mx_Z below G P (some (.long r)) σ σ' [.ref a0, .int p1, .int p2, .int p3, .int p4, .int p5] s) (F0 m 55 ls [.int w0]) := by
    intro v0 v1 v2 v3 v4 v5 w0 τ hf _ _ hJ ls hl
    unfold f_X11_least_D55 at hf
    obtain ⟨σ15, e16, hf⟩ := mbx_n hf
    refine mx_callS (As := [.int w0]) (rest := []) hx hb hml hts hown hK hJ rfl rfl (c_X11_needPresence l G P w0 τ σ15 e16) me_X11_needPresence kw_1243 kw_1242 (Nat.le_of_ble_eq_true rfl) (Nat.le_of_ble_eq_true rfl) rfl hl.1 rfl (Nat.le_of_ble_eq_true rfl) dX11_least_55 (fun H locs hJ => ?_)
    refine lv_aload_n hx hb dX11_least_58 rfl (lv_at hl 0 rfl) ?_
    obtain ⟨b17, e18, hf⟩ := mb0 hf
    refine my_gR hx hb hts hown hK hJ fd_RX11_54 hv_11_6 e18 dX11_least_59 ?_
    refine lv_iload_n hx hb dX11_least_62 rfl (lv_at hl 1 rfl) ?_
    refine lv_iload_n hx hb dX11_least_63 rfl (lv_at hl 2 rfl) ?_
    refine lv_iload_n hx hb dX11_least_64 rfl (lv_at hl 3 rfl) ?_
    refine lv_iload hx hb dX11_least_65 (lv_at hl 4 rfl) ?_
    obtain ⟨i19, e20, hf⟩ := mb0 hf
    obtain ⟨σ21, e22, hf⟩ := mb0 hf
    refine mx_callV (As := [.int v1, .int v2, .int v3, .int v4]) (rest := []) hx hb hml hts hown hK hJ rfl rfl (ci := 7) rfl e20 (c_X7_approach l G P b17 v1 v2 v3 v4 σ15 σ21 e22) me_X7_approach kw_1343 kw_1344 kw_1342 (Nat.le_of_ble_eq_true rfl) (Nat.le_of_ble_eq_true rfl) rfl hl.1 rfl (Nat.le_of_ble_eq_true rfl) dX11_least_67 (fun H locs hJ => ?_)
    refine lv_aload_n hx hb dX11_least_70 rfl (lv_at hl 0 rfl) ?_
    obtain ⟨b23, e24, hf⟩ := mb0 hf
    refine my_gR hx hb hts hown hK hJ fd_RX11_54 hv_11_6 e24 dX11_least_71 ?_
    obtain ⟨b25, e26, hf⟩ := mb0 hf
    refine my_gR hx hb hts hown hK hJ fd_RX11_174 hv_7_19 e26 dX11_least_74 ?_
    obtain ⟨x27, e28, hf⟩ := mb0 hf
    refine my_gI hx hb hts hown hK hJ fd_RX11_178 hv_0_2 e28 dX11_least_77 ?_
    refine lv_if_ne (tgt := 87) hx hb dX11_least_80 (by decide) (fun c29 => ?_) (fun c29 => ?_)
    · rw [if_neg c29] at hf
      refine lv_iconst (v := 0) hx hb dX11_least_87 (by decide) ?_
      exact D88 v0 v5 (0 : Int32) σ21 hf _ _ hJ ls (lv_sub hl [0, 5] rfl)
    · rw [if_pos c29] at hf
      refine lv_iconst (v := 1) hx hb dX11_least_83 (by decide) ?_
      refine lv_goto (tgt := 88) hx hb dX11_least_84 (by decide) ?_
      exact D88 v0 v5 (1 : Int32) σ21 hf _ _ hJ ls (lv_sub hl [0, 5] rfl)
  have D54 : ∀ (v0 : Nat) (v1 : Int32) (v2 : Int32) (v3 : Int32) (v4 : Int32) (v5 : Int32) (τ : mx_S), f_X11_least_D54 P v0 v1 v2 v3 v4 v5 τ = some (.inr (r, σ')) → ∀ (H : Heap) (locs : List Loc), mx_J G P s.heap (mxz σ) (mxu σ) τ H locs → ∀ ls : Array Slot, lv_has ls 6 [(0, .ref v0), (1, .int v1), (2, .int v2), (3, .int v3), (4, .int v4), (5, .int v5)] → W p l e (mx_rm P 7 158 σ) s m ([.ref a0, .int p1, .int p2, .int p3, .int p4, .int p5] : List Value).toArray below meth c H locs (mxz τ - mxz σ) (mxu τ - mxu σ) (mx_Z below G P (some (.long r)) σ σ' [.ref a0, .int p1, .int p2, .int p3, .int p4, .int p5] s) (F0 m 54 ls []) := by
    intro v0 v1 v2 v3 v4 v5 τ hf _ _ hJ ls hl
    unfold f_X11_least_D54 at hf
    refine lv_iconst (v := 0) hx hb dX11_least_54 (by decide) ?_
    exact D55 v0 v1 v2 v3 v4 v5 (0 : Int32) τ hf _ _ hJ ls (lv_sub hl [0, 1, 2, 3, 4, 5] rfl)
  unfold f_X11_least at hf
  refine lv_iload_n hx hb dX11_least_0 rfl (lv_at hl 1 rfl) ?_
  refine lv_iconst (v := 0) hx hb dX11_least_1 (by decide) ?_
  refine lv_sipush (v := 255) hx hb dX11_least_2 (by decide) ?_
  obtain ⟨σ1, e2, hf⟩ := mbx_n hf
  refine mx_callS (As := [.int p1, .int (0 : Int32), .int (255 : Int32)]) (rest := []) hx hb hml hts hown hK hJ rfl rfl (c_X11_needRange l G P p1 (0 : Int32) (255 : Int32) σ σ1 e2) me_X11_needRange kw_1005 kw_1004 (Nat.le_of_ble_eq_true rfl) (Nat.le_of_ble_eq_true rfl) rfl hl.1 rfl (Nat.le_of_ble_eq_true rfl) dX11_least_5 (fun H locs hJ => ?_)
  refine lv_iload_n hx hb dX11_least_8 rfl (lv_at hl 2 rfl) ?_
  refine lv_iconst (v := 0) hx hb dX11_least_9 (by decide) ?_
  refine lv_iconst (v := 3) hx hb dX11_least_10 (by decide) ?_
  obtain ⟨σ3, e4, hf⟩ := mbx_n hf
  refine mx_callS (As := [.int p2, .int (0 : Int32), .int (3 : Int32)]) (rest := []) hx hb hml hts hown hK hJ rfl rfl (c_X11_needRange l G P p2 (0 : Int32) (3 : Int32) σ1 σ3 e4) me_X11_needRange kw_1005 kw_1004 (Nat.le_of_ble_eq_true rfl) (Nat.le_of_ble_eq_true rfl) rfl hl.1 rfl (Nat.le_of_ble_eq_true rfl) dX11_least_11 (fun H locs hJ => ?_)
  refine lv_iload hx hb dX11_least_14 (lv_at hl 5 rfl) ?_
  refine lv_iconst (v := 0) hx hb dX11_least_16 (by decide) ?_
  refine lv_iconst (v := 1) hx hb dX11_least_17 (by decide) ?_
  obtain ⟨σ5, e6, hf⟩ := mbx_n hf
  refine mx_callS (As := [.int p5, .int (0 : Int32), .int (1 : Int32)]) (rest := []) hx hb hml hts hown hK hJ rfl rfl (c_X11_needRange l G P p5 (0 : Int32) (1 : Int32) σ3 σ5 e6) me_X11_needRange kw_1005 kw_1004 (Nat.le_of_ble_eq_true rfl) (Nat.le_of_ble_eq_true rfl) rfl hl.1 rfl (Nat.le_of_ble_eq_true rfl) dX11_least_18 (fun H locs hJ => ?_)
  refine lv_iload_n hx hb dX11_least_21 rfl (lv_at hl 3 rfl) ?_
  refine lv_aload_n hx hb dX11_least_22 rfl (lv_at hl 0 rfl) ?_
  obtain ⟨b7, e8, hf⟩ := mb0 hf
  refine my_gR hx hb hts hown hK hJ fd_RX11_54 hv_11_6 e8 dX11_least_23 ?_
  obtain ⟨x9, e10, hf⟩ := mb0 hf
  refine my_gI hx hb hts hown hK hJ fd_RX11_103 hv_7_2 e10 dX11_least_26 ?_
  obtain ⟨x12, σ11, e13, hf⟩ := mc0 hf
  refine mx_callS (As := [.int p3, .int x9]) (rest := []) hx hb hml hts hown hK hJ rfl rfl (c_X11_isWithin l G P p3 x9 σ5 x12 σ11 e13) me_X11_isWithin kw_1240 kw_1239 (Nat.le_of_ble_eq_true rfl) (Nat.le_of_ble_eq_true rfl) rfl hl.1 rfl (Nat.le_of_ble_eq_true rfl) dX11_least_29 (fun H locs hJ => ?_)
  refine lv_if_eq (tgt := 54) hx hb dX11_least_32 (by decide) (fun c14 => ?_) (fun c14 => ?_)
  · rw [if_pos c14] at hf
    exact D54 a0 p1 p2 p3 p4 p5 σ11 hf _ _ hJ ls (lv_sub hl [0, 1, 2, 3, 4, 5] rfl)
  · rw [if_neg c14] at hf
    refine lv_iload hx hb dX11_least_35 (lv_at hl 4 rfl) ?_
    refine lv_aload_n hx hb dX11_least_37 rfl (lv_at hl 0 rfl) ?_
    obtain ⟨b41, e42, hf⟩ := mb0 hf
    refine my_gR hx hb hts hown hK hJ fd_RX11_54 hv_11_6 e42 dX11_least_38 ?_
    obtain ⟨x43, e44, hf⟩ := mb0 hf
    refine my_gI hx hb hts hown hK hJ fd_RX11_103 hv_7_2 e44 dX11_least_41 ?_
    obtain ⟨x46, σ45, e47, hf⟩ := mc0 hf
    refine mx_callS (As := [.int p4, .int x43]) (rest := []) hx hb hml hts hown hK hJ rfl rfl (c_X11_isWithin l G P p4 x43 σ11 x46 σ45 e47) me_X11_isWithin kw_1240 kw_1239 (Nat.le_of_ble_eq_true rfl) (Nat.le_of_ble_eq_true rfl) rfl hl.1 rfl (Nat.le_of_ble_eq_true rfl) dX11_least_44 (fun H locs hJ => ?_)
    refine lv_if_eq (tgt := 54) hx hb dX11_least_47 (by decide) (fun c48 => ?_) (fun c48 => ?_)
    · rw [if_pos c48] at hf
      exact D54 a0 p1 p2 p3 p4 p5 σ45 hf _ _ hJ ls (lv_sub hl [0, 1, 2, 3, 4, 5] rfl)
    · rw [if_neg c48] at hf
      refine lv_iconst (v := 1) hx hb dX11_least_50 (by decide) ?_
      refine lv_goto (tgt := 55) hx hb dX11_least_51 (by decide) ?_
      exact D55 a0 p1 p2 p3 p4 p5 (1 : Int32) σ45 hf _ _ hJ ls (lv_sub hl [0, 1, 2, 3, 4, 5] rfl)
set_option maxHeartbeats 4000000 in
set_option maxRecDepth 100000 in
theorem ct_X11_least (l : Launch) (hlt : l.stackTraces = false) (G : mx_G) (P : mx_P) (a0 : Nat) (p1 : Int32) (p2 : Int32) (p3 : Int32) (p4 : Int32) (p5 : Int32) (σ : mx_S) (E : String) (σ' : mx_S) (hf : f_X11_least P a0 p1 p2 p3 p4 p5 σ = some (.inl (E, σ'))) : mxz σ ≤ mpc P → mxu σ ≤ mps P → mx_Mt l yX11_least cX11_least 6 (some .long) 7 158 G P [.ref a0, .int p1, .int p2, .int p3, .int p4, .int p5] σ E σ' := by
  intro hcap hcau
  refine mx_ofWt (by decide +kernel) hcap hcau (Nat.le_of_ble_eq_true rfl) ?_
  intro p e s m below meth c hx hb hr hml hts hown hlocks hname hnt hK hJ ls hl
  have hz0 := hJ.2.1
  have hown : s.vm.findClass RX11 = some m.cls := hown
  have hl : lv_has ls 6 [(0, .ref a0), (1, .int p1), (2, .int p2), (3, .int p3), (4, .int p4), (5, .int p5)] := hl
  have D88 : ∀ (v0 : Nat) (v5 : Int32) (w0 : Int32) (τ : mx_S), f_X11_least_D88 P v0 v5 w0 τ = some (.inl (E, σ')) → ∀ (H : Heap) (locs : List Loc), mx_J G P s.heap (mxz σ) (mxu σ) τ H locs → ∀ ls : Array Slot, lv_has ls 6 [(0, .ref v0), (5, .int v5)] → W p l e (mx_rm P 7 158 σ) s m ([.ref a0, .int p1, .int p2, .int p3, .int p4, .int p5] : List Value).toArray below meth c H locs (mxz τ - mxz σ) (mxu τ - mxu σ) (mx_Zt below G P E σ σ' [.ref a0, .int p1, .int p2, .int p3, .int p4, .int p5] s) (F0 m 88 ls [.int w0]) := by
    intro v0 v5 w0 τ hf _ _ hJ ls hl
    unfold f_X11_least_D88 at hf
    rcases mbx_t hf with e31 | ⟨σ30, e31, hf⟩
    · exact mx_callST (As := [.int w0]) (rest := []) hx hb hml hts hown hK hJ rfl rfl hnt hlocks (ct_X11_needPresence l hlt G P w0 τ E σ' e31) me_X11_needPresence kw_1243 kw_1242 (Nat.le_of_ble_eq_true rfl) (Nat.le_of_ble_eq_true rfl) rfl hl.1 rfl (Nat.le_of_ble_eq_true rfl) dX11_least_88
    refine mx_callS (As := [.int w0]) (rest := []) hx hb hml hts hown hK hJ rfl rfl (c_X11_needPresence l G P w0 τ σ30 e31) me_X11_needPresence kw_1243 kw_1242 (Nat.le_of_ble_eq_true rfl) (Nat.le_of_ble_eq_true rfl) rfl hl.1 rfl (Nat.le_of_ble_eq_true rfl) dX11_least_88 (fun H locs hJ => ?_)
    refine lv_aload_n hx hb dX11_least_91 rfl (lv_at hl 0 rfl) ?_
    obtain ⟨b32, e33, hf⟩ := mb0 hf
    refine my_gR hx hb hts hown hK hJ fd_RX11_54 hv_11_6 e33 dX11_least_92 ?_
    obtain ⟨b34, e35, hf⟩ := mb0 hf
    refine my_gR hx hb hts hown hK hJ fd_RX11_174 hv_7_19 e35 dX11_least_95 ?_
    refine lv_iload hx hb dX11_least_98 (lv_at hl 1 rfl) ?_
    obtain ⟨i36, e37, hf⟩ := mb0 hf
    obtain ⟨x39, σ38, e40, hf⟩ := mc0 hf
    refine mx_callV (As := [.int v5]) (rest := []) hx hb hml hts hown hK hJ rfl rfl (ci := 0) rfl e37 (c_X0_number l G P b34 v5 σ30 x39 σ38 e40) me_X0_number kw_1273 kw_1274 kw_1272 (Nat.le_of_ble_eq_true rfl) (Nat.le_of_ble_eq_true rfl) rfl hl.1 rfl (Nat.le_of_ble_eq_true rfl) dX11_least_100 (fun H locs hJ => ?_)
    cases hf
  have D55 : ∀ (v0 : Nat) (v1 : Int32) (v2 : Int32) (v3 : Int32) (v4 : Int32) (v5 : Int32) (w0 : Int32) (τ : mx_S), f_X11_least_D55 P v0 v1 v2 v3 v4 v5 w0 τ = some (.inl (E, σ')) → ∀ (H : Heap) (locs : List Loc), mx_J G P s.heap (mxz σ) (mxu σ) τ H locs → ∀ ls : Array Slot, lv_has ls 6 [(0, .ref v0), (1, .int v1), (2, .int v2), (3, .int v3), (4, .int v4), (5, .int v5)] → W p l e (mx_rm P 7 158 σ) s m ([.ref a0, .int p1, .int p2, .int p3, .int p4, .int p5] : List Value).toArray below meth c H locs (mxz τ - mxz σ) (mxu τ - mxu σ) (mx_Zt below G P E σ σ' [.ref a0, .int p1, .int p2, .int p3, .int p4, .int p5] s) (F0 m 55 ls [.int w0]) := by
    intro v0 v1 v2 v3 v4 v5 w0 τ hf _ _ hJ ls hl
    unfold f_X11_least_D55 at hf
    rcases mbx_t hf with e16 | ⟨σ15, e16, hf⟩
    · exact mx_callST (As := [.int w0]) (rest := []) hx hb hml hts hown hK hJ rfl rfl hnt hlocks (ct_X11_needPresence l hlt G P w0 τ E σ' e16) me_X11_needPresence kw_1243 kw_1242 (Nat.le_of_ble_eq_true rfl) (Nat.le_of_ble_eq_true rfl) rfl hl.1 rfl (Nat.le_of_ble_eq_true rfl) dX11_least_55
    refine mx_callS (As := [.int w0]) (rest := []) hx hb hml hts hown hK hJ rfl rfl (c_X11_needPresence l G P w0 τ σ15 e16) me_X11_needPresence kw_1243 kw_1242 (Nat.le_of_ble_eq_true rfl) (Nat.le_of_ble_eq_true rfl) rfl hl.1 rfl (Nat.le_of_ble_eq_true rfl) dX11_least_55 (fun H locs hJ => ?_)
    refine lv_aload_n hx hb dX11_least_58 rfl (lv_at hl 0 rfl) ?_
    obtain ⟨b17, e18, hf⟩ := mb0 hf
    refine my_gR hx hb hts hown hK hJ fd_RX11_54 hv_11_6 e18 dX11_least_59 ?_
    refine lv_iload_n hx hb dX11_least_62 rfl (lv_at hl 1 rfl) ?_
    refine lv_iload_n hx hb dX11_least_63 rfl (lv_at hl 2 rfl) ?_
    refine lv_iload_n hx hb dX11_least_64 rfl (lv_at hl 3 rfl) ?_
    refine lv_iload hx hb dX11_least_65 (lv_at hl 4 rfl) ?_
    obtain ⟨i19, e20, hf⟩ := mb0 hf
    obtain ⟨σ21, e22, hf⟩ := mb0 hf
    refine mx_callV (As := [.int v1, .int v2, .int v3, .int v4]) (rest := []) hx hb hml hts hown hK hJ rfl rfl (ci := 7) rfl e20 (c_X7_approach l G P b17 v1 v2 v3 v4 σ15 σ21 e22) me_X7_approach kw_1343 kw_1344 kw_1342 (Nat.le_of_ble_eq_true rfl) (Nat.le_of_ble_eq_true rfl) rfl hl.1 rfl (Nat.le_of_ble_eq_true rfl) dX11_least_67 (fun H locs hJ => ?_)
    refine lv_aload_n hx hb dX11_least_70 rfl (lv_at hl 0 rfl) ?_
    obtain ⟨b23, e24, hf⟩ := mb0 hf
    refine my_gR hx hb hts hown hK hJ fd_RX11_54 hv_11_6 e24 dX11_least_71 ?_
    obtain ⟨b25, e26, hf⟩ := mb0 hf
    refine my_gR hx hb hts hown hK hJ fd_RX11_174 hv_7_19 e26 dX11_least_74 ?_
    obtain ⟨x27, e28, hf⟩ := mb0 hf
    refine my_gI hx hb hts hown hK hJ fd_RX11_178 hv_0_2 e28 dX11_least_77 ?_
    refine lv_if_ne (tgt := 87) hx hb dX11_least_80 (by decide) (fun c29 => ?_) (fun c29 => ?_)
    · rw [if_neg c29] at hf
      refine lv_iconst (v := 0) hx hb dX11_least_87 (by decide) ?_
      exact D88 v0 v5 (0 : Int32) σ21 hf _ _ hJ ls (lv_sub hl [0, 5] rfl)
    · rw [if_pos c29] at hf
      refine lv_iconst (v := 1) hx hb dX11_least_83 (by decide) ?_
      refine lv_goto (tgt := 88) hx hb dX11_least_84 (by decide) ?_
      exact D88 v0 v5 (1 : Int32) σ21 hf _ _ hJ ls (lv_sub hl [0, 5] rfl)
  have D54 : ∀ (v0 : Nat) (v1 : Int32) (v2 : Int32) (v3 : Int32) (v4 : Int32) (v5 : Int32) (τ : mx_S), f_X11_least_D54 P v0 v1 v2 v3 v4 v5 τ = some (.inl (E, σ')) → ∀ (H : Heap) (locs : List Loc), mx_J G P s.heap (mxz σ) (mxu σ) τ H locs → ∀ ls : Array Slot, lv_has ls 6 [(0, .ref v0), (1, .int v1), (2, .int v2), (3, .int v3), (4, .int v4), (5, .int v5)] → W p l e (mx_rm P 7 158 σ) s m ([.ref a0, .int p1, .int p2, .int p3, .int p4, .int p5] : List Value).toArray below meth c H locs (mxz τ - mxz σ) (mxu τ - mxu σ) (mx_Zt below G P E σ σ' [.ref a0, .int p1, .int p2, .int p3, .int p4, .int p5] s) (F0 m 54 ls []) := by
    intro v0 v1 v2 v3 v4 v5 τ hf _ _ hJ ls hl
    unfold f_X11_least_D54 at hf
    refine lv_iconst (v := 0) hx hb dX11_least_54 (by decide) ?_
    exact D55 v0 v1 v2 v3 v4 v5 (0 : Int32) τ hf _ _ hJ ls (lv_sub hl [0, 1, 2, 3, 4, 5] rfl)
  unfold f_X11_least at hf
  refine lv_iload_n hx hb dX11_least_0 rfl (lv_at hl 1 rfl) ?_
  refine lv_iconst (v := 0) hx hb dX11_least_1 (by decide) ?_
  refine lv_sipush (v := 255) hx hb dX11_least_2 (by decide) ?_
  rcases mbx_t hf with e2 | ⟨σ1, e2, hf⟩
  · exact mx_callST (As := [.int p1, .int (0 : Int32), .int (255 : Int32)]) (rest := []) hx hb hml hts hown hK hJ rfl rfl hnt hlocks (ct_X11_needRange l hlt G P p1 (0 : Int32) (255 : Int32) σ E σ' e2) me_X11_needRange kw_1005 kw_1004 (Nat.le_of_ble_eq_true rfl) (Nat.le_of_ble_eq_true rfl) rfl hl.1 rfl (Nat.le_of_ble_eq_true rfl) dX11_least_5
  refine mx_callS (As := [.int p1, .int (0 : Int32), .int (255 : Int32)]) (rest := []) hx hb hml hts hown hK hJ rfl rfl (c_X11_needRange l G P p1 (0 : Int32) (255 : Int32) σ σ1 e2) me_X11_needRange kw_1005 kw_1004 (Nat.le_of_ble_eq_true rfl) (Nat.le_of_ble_eq_true rfl) rfl hl.1 rfl (Nat.le_of_ble_eq_true rfl) dX11_least_5 (fun H locs hJ => ?_)
  refine lv_iload_n hx hb dX11_least_8 rfl (lv_at hl 2 rfl) ?_
  refine lv_iconst (v := 0) hx hb dX11_least_9 (by decide) ?_
  refine lv_iconst (v := 3) hx hb dX11_least_10 (by decide) ?_
  rcases mbx_t hf with e4 | ⟨σ3, e4, hf⟩
  · exact mx_callST (As := [.int p2, .int (0 : Int32), .int (3 : Int32)]) (rest := []) hx hb hml hts hown hK hJ rfl rfl hnt hlocks (ct_X11_needRange l hlt G P p2 (0 : Int32) (3 : Int32) σ1 E σ' e4) me_X11_needRange kw_1005 kw_1004 (Nat.le_of_ble_eq_true rfl) (Nat.le_of_ble_eq_true rfl) rfl hl.1 rfl (Nat.le_of_ble_eq_true rfl) dX11_least_11
  refine mx_callS (As := [.int p2, .int (0 : Int32), .int (3 : Int32)]) (rest := []) hx hb hml hts hown hK hJ rfl rfl (c_X11_needRange l G P p2 (0 : Int32) (3 : Int32) σ1 σ3 e4) me_X11_needRange kw_1005 kw_1004 (Nat.le_of_ble_eq_true rfl) (Nat.le_of_ble_eq_true rfl) rfl hl.1 rfl (Nat.le_of_ble_eq_true rfl) dX11_least_11 (fun H locs hJ => ?_)
  refine lv_iload hx hb dX11_least_14 (lv_at hl 5 rfl) ?_
  refine lv_iconst (v := 0) hx hb dX11_least_16 (by decide) ?_
  refine lv_iconst (v := 1) hx hb dX11_least_17 (by decide) ?_
  rcases mbx_t hf with e6 | ⟨σ5, e6, hf⟩
  · exact mx_callST (As := [.int p5, .int (0 : Int32), .int (1 : Int32)]) (rest := []) hx hb hml hts hown hK hJ rfl rfl hnt hlocks (ct_X11_needRange l hlt G P p5 (0 : Int32) (1 : Int32) σ3 E σ' e6) me_X11_needRange kw_1005 kw_1004 (Nat.le_of_ble_eq_true rfl) (Nat.le_of_ble_eq_true rfl) rfl hl.1 rfl (Nat.le_of_ble_eq_true rfl) dX11_least_18
  refine mx_callS (As := [.int p5, .int (0 : Int32), .int (1 : Int32)]) (rest := []) hx hb hml hts hown hK hJ rfl rfl (c_X11_needRange l G P p5 (0 : Int32) (1 : Int32) σ3 σ5 e6) me_X11_needRange kw_1005 kw_1004 (Nat.le_of_ble_eq_true rfl) (Nat.le_of_ble_eq_true rfl) rfl hl.1 rfl (Nat.le_of_ble_eq_true rfl) dX11_least_18 (fun H locs hJ => ?_)
  refine lv_iload_n hx hb dX11_least_21 rfl (lv_at hl 3 rfl) ?_
  refine lv_aload_n hx hb dX11_least_22 rfl (lv_at hl 0 rfl) ?_
  obtain ⟨b7, e8, hf⟩ := mb0 hf
  refine my_gR hx hb hts hown hK hJ fd_RX11_54 hv_11_6 e8 dX11_least_23 ?_
  obtain ⟨x9, e10, hf⟩ := mb0 hf
  refine my_gI hx hb hts hown hK hJ fd_RX11_103 hv_7_2 e10 dX11_least_26 ?_
  obtain ⟨x12, σ11, e13, hf⟩ := mc0 hf
  refine mx_callS (As := [.int p3, .int x9]) (rest := []) hx hb hml hts hown hK hJ rfl rfl (c_X11_isWithin l G P p3 x9 σ5 x12 σ11 e13) me_X11_isWithin kw_1240 kw_1239 (Nat.le_of_ble_eq_true rfl) (Nat.le_of_ble_eq_true rfl) rfl hl.1 rfl (Nat.le_of_ble_eq_true rfl) dX11_least_29 (fun H locs hJ => ?_)
  refine lv_if_eq (tgt := 54) hx hb dX11_least_32 (by decide) (fun c14 => ?_) (fun c14 => ?_)
  · rw [if_pos c14] at hf
    exact D54 a0 p1 p2 p3 p4 p5 σ11 hf _ _ hJ ls (lv_sub hl [0, 1, 2, 3, 4, 5] rfl)
  · rw [if_neg c14] at hf
    refine lv_iload hx hb dX11_least_35 (lv_at hl 4 rfl) ?_
    refine lv_aload_n hx hb dX11_least_37 rfl (lv_at hl 0 rfl) ?_
    obtain ⟨b41, e42, hf⟩ := mb0 hf
    refine my_gR hx hb hts hown hK hJ fd_RX11_54 hv_11_6 e42 dX11_least_38 ?_
    obtain ⟨x43, e44, hf⟩ := mb0 hf
    refine my_gI hx hb hts hown hK hJ fd_RX11_103 hv_7_2 e44 dX11_least_41 ?_
    obtain ⟨x46, σ45, e47, hf⟩ := mc0 hf
    refine mx_callS (As := [.int p4, .int x43]) (rest := []) hx hb hml hts hown hK hJ rfl rfl (c_X11_isWithin l G P p4 x43 σ11 x46 σ45 e47) me_X11_isWithin kw_1240 kw_1239 (Nat.le_of_ble_eq_true rfl) (Nat.le_of_ble_eq_true rfl) rfl hl.1 rfl (Nat.le_of_ble_eq_true rfl) dX11_least_44 (fun H locs hJ => ?_)
    refine lv_if_eq (tgt := 54) hx hb dX11_least_47 (by decide) (fun c48 => ?_) (fun c48 => ?_)
    · rw [if_pos c48] at hf
      exact D54 a0 p1 p2 p3 p4 p5 σ45 hf _ _ hJ ls (lv_sub hl [0, 1, 2, 3, 4, 5] rfl)
    · rw [if_neg c48] at hf
      refine lv_iconst (v := 1) hx hb dX11_least_50 (by decide) ?_
      refine lv_goto (tgt := 55) hx hb dX11_least_51 (by decide) ?_
      exact D55 a0 p1 p2 p3 p4 p5 (1 : Int32) σ45 hf _ _ hJ ls (lv_sub hl [0, 1, 2, 3, 4, 5] rfl)
set_option maxHeartbeats 4000000 in
set_option maxRecDepth 100000 in
theorem c_X11_speed (l : Launch) (G : mx_G) (P : mx_P) (a0 : Nat) (p1 : Int32) (p2 : Int32) (p3 : Int32) (p4 : Int32) (p5 : Int32) (σ : mx_S) (r : Int64) (σ' : mx_S) (hf : f_X11_speed P a0 p1 p2 p3 p4 p5 σ = some (.inr (r, σ'))) : mxz σ ≤ mpc P → mxu σ ≤ mps P → mx_M l yX11_speed cX11_speed 6 (some .long) 8 153 G P [.ref a0, .int p1, .int p2, .int p3, .int p4, .int p5] σ (some (.long r)) σ' := by
  intro hcap hcau
  refine mx_ofW (by decide +kernel) hcap hcau (Nat.le_of_ble_eq_true rfl) ?_
  intro p e s m below meth c hx hb hr hml hts hown hlocks hname hK hJ ls hl
  have hz0 := hJ.2.1
  have hown : s.vm.findClass RX11 = some m.cls := hown
  have hl : lv_has ls 6 [(0, .ref a0), (1, .int p1), (2, .int p2), (3, .int p3), (4, .int p4), (5, .int p5)] := hl
  unfold f_X11_speed at hf
  refine lv_iload_n hx hb dX11_speed_0 rfl (lv_at hl 1 rfl) ?_
  refine lv_iconst (v := 0) hx hb dX11_speed_1 (by decide) ?_
  refine lv_sipush (v := 255) hx hb dX11_speed_2 (by decide) ?_
  obtain ⟨σ1, e2, hf⟩ := mbx_n hf
  refine mx_callS (As := [.int p1, .int (0 : Int32), .int (255 : Int32)]) (rest := []) hx hb hml hts hown hK hJ rfl rfl (c_X11_needRange l G P p1 (0 : Int32) (255 : Int32) σ σ1 e2) me_X11_needRange kw_1005 kw_1004 (Nat.le_of_ble_eq_true rfl) (Nat.le_of_ble_eq_true rfl) rfl hl.1 rfl (Nat.le_of_ble_eq_true rfl) dX11_speed_5 (fun H locs hJ => ?_)
  refine lv_iload_n hx hb dX11_speed_8 rfl (lv_at hl 2 rfl) ?_
  refine lv_iconst (v := 0) hx hb dX11_speed_9 (by decide) ?_
  refine lv_iconst (v := 3) hx hb dX11_speed_10 (by decide) ?_
  obtain ⟨σ3, e4, hf⟩ := mbx_n hf
  refine mx_callS (As := [.int p2, .int (0 : Int32), .int (3 : Int32)]) (rest := []) hx hb hml hts hown hK hJ rfl rfl (c_X11_needRange l G P p2 (0 : Int32) (3 : Int32) σ1 σ3 e4) me_X11_needRange kw_1005 kw_1004 (Nat.le_of_ble_eq_true rfl) (Nat.le_of_ble_eq_true rfl) rfl hl.1 rfl (Nat.le_of_ble_eq_true rfl) dX11_speed_11 (fun H locs hJ => ?_)
  refine lv_iload hx hb dX11_speed_14 (lv_at hl 4 rfl) ?_
  refine lv_iconst (v := 0) hx hb dX11_speed_16 (by decide) ?_
  refine lv_iconst (v := 1) hx hb dX11_speed_17 (by decide) ?_
  obtain ⟨σ5, e6, hf⟩ := mbx_n hf
  refine mx_callS (As := [.int p4, .int (0 : Int32), .int (1 : Int32)]) (rest := []) hx hb hml hts hown hK hJ rfl rfl (c_X11_needRange l G P p4 (0 : Int32) (1 : Int32) σ3 σ5 e6) me_X11_needRange kw_1005 kw_1004 (Nat.le_of_ble_eq_true rfl) (Nat.le_of_ble_eq_true rfl) rfl hl.1 rfl (Nat.le_of_ble_eq_true rfl) dX11_speed_18 (fun H locs hJ => ?_)
  refine lv_iload hx hb dX11_speed_21 (lv_at hl 5 rfl) ?_
  refine lv_iconst (v := 0) hx hb dX11_speed_23 (by decide) ?_
  refine lv_iconst (v := 1) hx hb dX11_speed_24 (by decide) ?_
  obtain ⟨σ7, e8, hf⟩ := mbx_n hf
  refine mx_callS (As := [.int p5, .int (0 : Int32), .int (1 : Int32)]) (rest := []) hx hb hml hts hown hK hJ rfl rfl (c_X11_needRange l G P p5 (0 : Int32) (1 : Int32) σ5 σ7 e8) me_X11_needRange kw_1005 kw_1004 (Nat.le_of_ble_eq_true rfl) (Nat.le_of_ble_eq_true rfl) rfl hl.1 rfl (Nat.le_of_ble_eq_true rfl) dX11_speed_25 (fun H locs hJ => ?_)
  refine lv_iload_n hx hb dX11_speed_28 rfl (lv_at hl 3 rfl) ?_
  refine lv_aload_n hx hb dX11_speed_29 rfl (lv_at hl 0 rfl) ?_
  obtain ⟨b9, e10, hf⟩ := mb0 hf
  refine my_gR hx hb hts hown hK hJ fd_RX11_54 hv_11_6 e10 dX11_speed_30 ?_
  obtain ⟨x11, e12, hf⟩ := mb0 hf
  refine my_gI hx hb hts hown hK hJ fd_RX11_103 hv_7_2 e12 dX11_speed_33 ?_
  obtain ⟨x14, σ13, e15, hf⟩ := mc0 hf
  refine mx_callS (As := [.int p3, .int x11]) (rest := []) hx hb hml hts hown hK hJ rfl rfl (c_X11_isWithin l G P p3 x11 σ7 x14 σ13 e15) me_X11_isWithin kw_1240 kw_1239 (Nat.le_of_ble_eq_true rfl) (Nat.le_of_ble_eq_true rfl) rfl hl.1 rfl (Nat.le_of_ble_eq_true rfl) dX11_speed_36 (fun H locs hJ => ?_)
  obtain ⟨σ16, e17, hf⟩ := mbx_n hf
  refine mx_callS (As := [.int x14]) (rest := []) hx hb hml hts hown hK hJ rfl rfl (c_X11_needPresence l G P x14 σ13 σ16 e17) me_X11_needPresence kw_1243 kw_1242 (Nat.le_of_ble_eq_true rfl) (Nat.le_of_ble_eq_true rfl) rfl hl.1 rfl (Nat.le_of_ble_eq_true rfl) dX11_speed_39 (fun H locs hJ => ?_)
  refine lv_aload_n hx hb dX11_speed_42 rfl (lv_at hl 0 rfl) ?_
  refine lv_iload_n hx hb dX11_speed_43 rfl (lv_at hl 1 rfl) ?_
  obtain ⟨i18, e19, hf⟩ := mb0 hf
  obtain ⟨σ20, e21, hf⟩ := mbx_n hf
  refine mx_callV (As := [.int p1]) (rest := []) hx hb hml hts hown hK hJ rfl rfl (ci := 11) rfl e19 (c_X11_needSure l G P a0 p1 σ16 σ20 e21) me_X11_needSure kw_1286 ks_39 kw_1284 (Nat.le_of_ble_eq_true rfl) (Nat.le_of_ble_eq_true rfl) rfl hl.1 rfl (Nat.le_of_ble_eq_true rfl) dX11_speed_44 (fun H locs hJ => ?_)
  refine lv_aload_n hx hb dX11_speed_47 rfl (lv_at hl 0 rfl) ?_
  obtain ⟨b22, e23, hf⟩ := mb0 hf
  refine my_gR hx hb hts hown hK hJ fd_RX11_54 hv_11_6 e23 dX11_speed_48 ?_
  refine lv_iload_n hx hb dX11_speed_51 rfl (lv_at hl 2 rfl) ?_
  obtain ⟨i24, e25, hf⟩ := mb0 hf
  obtain ⟨σ26, e27, hf⟩ := mb0 hf
  refine mx_callV (As := [.int p2]) (rest := []) hx hb hml hts hown hK hJ rfl rfl (ci := 7) rfl e25 (c_X7_reckonSpeeds l G P b22 p2 σ20 σ26 e27) me_X7_reckonSpeeds kw_1358 kw_1359 kw_1357 (Nat.le_of_ble_eq_true rfl) (Nat.le_of_ble_eq_true rfl) rfl hl.1 rfl (Nat.le_of_ble_eq_true rfl) dX11_speed_52 (fun H locs hJ => ?_)
  refine lv_aload_n hx hb dX11_speed_55 rfl (lv_at hl 0 rfl) ?_
  obtain ⟨b28, e29, hf⟩ := mb0 hf
  refine my_gR hx hb hts hown hK hJ fd_RX11_54 hv_11_6 e29 dX11_speed_56 ?_
  obtain ⟨b30, e31, hf⟩ := mb0 hf
  refine my_gR hx hb hts hown hK hJ fd_RX11_143 hv_7_0 e31 dX11_speed_59 ?_
  refine lv_iload_n hx hb dX11_speed_62 rfl (lv_at hl 3 rfl) ?_
  obtain ⟨b32, e33, hf⟩ := mb0 hf
  refine mx_aR hx hb hK hJ (t := 4) rfl (fun _ _ _ => rfl) e33 dX11_speed_63 ?_
  obtain ⟨b34, e35, hf⟩ := mb0 hf
  refine my_gR hx hb hts hown hK hJ fd_RX11_194 hv_5_14 e35 dX11_speed_64 ?_
  refine lv_iload hx hb dX11_speed_67 (lv_at hl 4 rfl) ?_
  refine lv_iload hx hb dX11_speed_69 (lv_at hl 5 rfl) ?_
  obtain ⟨x38, σ36, e37, hf⟩ := mbx2_n hf
  refine mx_callS (As := [.ref b34, .int p4, .int p5]) (rest := []) hx hb hml hts hown hK hJ rfl rfl (c_X11_closedNumber l G P b34 p4 p5 σ26 x38 σ36 e37) me_X11_closedNumber kw_1269 kw_1268 (Nat.le_of_ble_eq_true rfl) (Nat.le_of_ble_eq_true rfl) rfl hl.1 rfl (Nat.le_of_ble_eq_true rfl) dX11_speed_71 (fun H locs hJ => ?_)
  exact my_lret hx hb hr hlocks hJ (mx_inr hf) dX11_speed_74
set_option maxHeartbeats 4000000 in
set_option maxRecDepth 100000 in
theorem ct_X11_speed (l : Launch) (hlt : l.stackTraces = false) (G : mx_G) (P : mx_P) (a0 : Nat) (p1 : Int32) (p2 : Int32) (p3 : Int32) (p4 : Int32) (p5 : Int32) (σ : mx_S) (E : String) (σ' : mx_S) (hf : f_X11_speed P a0 p1 p2 p3 p4 p5 σ = some (.inl (E, σ'))) : mxz σ ≤ mpc P → mxu σ ≤ mps P → mx_Mt l yX11_speed cX11_speed 6 (some .long) 8 153 G P [.ref a0, .int p1, .int p2, .int p3, .int p4, .int p5] σ E σ' := by
  intro hcap hcau
  refine mx_ofWt (by decide +kernel) hcap hcau (Nat.le_of_ble_eq_true rfl) ?_
  intro p e s m below meth c hx hb hr hml hts hown hlocks hname hnt hK hJ ls hl
  have hz0 := hJ.2.1
  have hown : s.vm.findClass RX11 = some m.cls := hown
  have hl : lv_has ls 6 [(0, .ref a0), (1, .int p1), (2, .int p2), (3, .int p3), (4, .int p4), (5, .int p5)] := hl
  unfold f_X11_speed at hf
  refine lv_iload_n hx hb dX11_speed_0 rfl (lv_at hl 1 rfl) ?_
  refine lv_iconst (v := 0) hx hb dX11_speed_1 (by decide) ?_
  refine lv_sipush (v := 255) hx hb dX11_speed_2 (by decide) ?_
  rcases mbx_t hf with e2 | ⟨σ1, e2, hf⟩
  · exact mx_callST (As := [.int p1, .int (0 : Int32), .int (255 : Int32)]) (rest := []) hx hb hml hts hown hK hJ rfl rfl hnt hlocks (ct_X11_needRange l hlt G P p1 (0 : Int32) (255 : Int32) σ E σ' e2) me_X11_needRange kw_1005 kw_1004 (Nat.le_of_ble_eq_true rfl) (Nat.le_of_ble_eq_true rfl) rfl hl.1 rfl (Nat.le_of_ble_eq_true rfl) dX11_speed_5
  refine mx_callS (As := [.int p1, .int (0 : Int32), .int (255 : Int32)]) (rest := []) hx hb hml hts hown hK hJ rfl rfl (c_X11_needRange l G P p1 (0 : Int32) (255 : Int32) σ σ1 e2) me_X11_needRange kw_1005 kw_1004 (Nat.le_of_ble_eq_true rfl) (Nat.le_of_ble_eq_true rfl) rfl hl.1 rfl (Nat.le_of_ble_eq_true rfl) dX11_speed_5 (fun H locs hJ => ?_)
  refine lv_iload_n hx hb dX11_speed_8 rfl (lv_at hl 2 rfl) ?_
  refine lv_iconst (v := 0) hx hb dX11_speed_9 (by decide) ?_
  refine lv_iconst (v := 3) hx hb dX11_speed_10 (by decide) ?_
  rcases mbx_t hf with e4 | ⟨σ3, e4, hf⟩
  · exact mx_callST (As := [.int p2, .int (0 : Int32), .int (3 : Int32)]) (rest := []) hx hb hml hts hown hK hJ rfl rfl hnt hlocks (ct_X11_needRange l hlt G P p2 (0 : Int32) (3 : Int32) σ1 E σ' e4) me_X11_needRange kw_1005 kw_1004 (Nat.le_of_ble_eq_true rfl) (Nat.le_of_ble_eq_true rfl) rfl hl.1 rfl (Nat.le_of_ble_eq_true rfl) dX11_speed_11
  refine mx_callS (As := [.int p2, .int (0 : Int32), .int (3 : Int32)]) (rest := []) hx hb hml hts hown hK hJ rfl rfl (c_X11_needRange l G P p2 (0 : Int32) (3 : Int32) σ1 σ3 e4) me_X11_needRange kw_1005 kw_1004 (Nat.le_of_ble_eq_true rfl) (Nat.le_of_ble_eq_true rfl) rfl hl.1 rfl (Nat.le_of_ble_eq_true rfl) dX11_speed_11 (fun H locs hJ => ?_)
  refine lv_iload hx hb dX11_speed_14 (lv_at hl 4 rfl) ?_
  refine lv_iconst (v := 0) hx hb dX11_speed_16 (by decide) ?_
  refine lv_iconst (v := 1) hx hb dX11_speed_17 (by decide) ?_
  rcases mbx_t hf with e6 | ⟨σ5, e6, hf⟩
  · exact mx_callST (As := [.int p4, .int (0 : Int32), .int (1 : Int32)]) (rest := []) hx hb hml hts hown hK hJ rfl rfl hnt hlocks (ct_X11_needRange l hlt G P p4 (0 : Int32) (1 : Int32) σ3 E σ' e6) me_X11_needRange kw_1005 kw_1004 (Nat.le_of_ble_eq_true rfl) (Nat.le_of_ble_eq_true rfl) rfl hl.1 rfl (Nat.le_of_ble_eq_true rfl) dX11_speed_18
  refine mx_callS (As := [.int p4, .int (0 : Int32), .int (1 : Int32)]) (rest := []) hx hb hml hts hown hK hJ rfl rfl (c_X11_needRange l G P p4 (0 : Int32) (1 : Int32) σ3 σ5 e6) me_X11_needRange kw_1005 kw_1004 (Nat.le_of_ble_eq_true rfl) (Nat.le_of_ble_eq_true rfl) rfl hl.1 rfl (Nat.le_of_ble_eq_true rfl) dX11_speed_18 (fun H locs hJ => ?_)
  refine lv_iload hx hb dX11_speed_21 (lv_at hl 5 rfl) ?_
  refine lv_iconst (v := 0) hx hb dX11_speed_23 (by decide) ?_
  refine lv_iconst (v := 1) hx hb dX11_speed_24 (by decide) ?_
  rcases mbx_t hf with e8 | ⟨σ7, e8, hf⟩
  · exact mx_callST (As := [.int p5, .int (0 : Int32), .int (1 : Int32)]) (rest := []) hx hb hml hts hown hK hJ rfl rfl hnt hlocks (ct_X11_needRange l hlt G P p5 (0 : Int32) (1 : Int32) σ5 E σ' e8) me_X11_needRange kw_1005 kw_1004 (Nat.le_of_ble_eq_true rfl) (Nat.le_of_ble_eq_true rfl) rfl hl.1 rfl (Nat.le_of_ble_eq_true rfl) dX11_speed_25
  refine mx_callS (As := [.int p5, .int (0 : Int32), .int (1 : Int32)]) (rest := []) hx hb hml hts hown hK hJ rfl rfl (c_X11_needRange l G P p5 (0 : Int32) (1 : Int32) σ5 σ7 e8) me_X11_needRange kw_1005 kw_1004 (Nat.le_of_ble_eq_true rfl) (Nat.le_of_ble_eq_true rfl) rfl hl.1 rfl (Nat.le_of_ble_eq_true rfl) dX11_speed_25 (fun H locs hJ => ?_)
  refine lv_iload_n hx hb dX11_speed_28 rfl (lv_at hl 3 rfl) ?_
  refine lv_aload_n hx hb dX11_speed_29 rfl (lv_at hl 0 rfl) ?_
  obtain ⟨b9, e10, hf⟩ := mb0 hf
  refine my_gR hx hb hts hown hK hJ fd_RX11_54 hv_11_6 e10 dX11_speed_30 ?_
  obtain ⟨x11, e12, hf⟩ := mb0 hf
  refine my_gI hx hb hts hown hK hJ fd_RX11_103 hv_7_2 e12 dX11_speed_33 ?_
  obtain ⟨x14, σ13, e15, hf⟩ := mc0 hf
  refine mx_callS (As := [.int p3, .int x11]) (rest := []) hx hb hml hts hown hK hJ rfl rfl (c_X11_isWithin l G P p3 x11 σ7 x14 σ13 e15) me_X11_isWithin kw_1240 kw_1239 (Nat.le_of_ble_eq_true rfl) (Nat.le_of_ble_eq_true rfl) rfl hl.1 rfl (Nat.le_of_ble_eq_true rfl) dX11_speed_36 (fun H locs hJ => ?_)
  rcases mbx_t hf with e17 | ⟨σ16, e17, hf⟩
  · exact mx_callST (As := [.int x14]) (rest := []) hx hb hml hts hown hK hJ rfl rfl hnt hlocks (ct_X11_needPresence l hlt G P x14 σ13 E σ' e17) me_X11_needPresence kw_1243 kw_1242 (Nat.le_of_ble_eq_true rfl) (Nat.le_of_ble_eq_true rfl) rfl hl.1 rfl (Nat.le_of_ble_eq_true rfl) dX11_speed_39
  refine mx_callS (As := [.int x14]) (rest := []) hx hb hml hts hown hK hJ rfl rfl (c_X11_needPresence l G P x14 σ13 σ16 e17) me_X11_needPresence kw_1243 kw_1242 (Nat.le_of_ble_eq_true rfl) (Nat.le_of_ble_eq_true rfl) rfl hl.1 rfl (Nat.le_of_ble_eq_true rfl) dX11_speed_39 (fun H locs hJ => ?_)
  refine lv_aload_n hx hb dX11_speed_42 rfl (lv_at hl 0 rfl) ?_
  refine lv_iload_n hx hb dX11_speed_43 rfl (lv_at hl 1 rfl) ?_
  obtain ⟨i18, e19, hf⟩ := mb0 hf
  rcases mbx_t hf with e21 | ⟨σ20, e21, hf⟩
  · exact mx_callVT (As := [.int p1]) (rest := []) hx hb hml hts hown hK hJ rfl rfl hnt hlocks (ci := 11) rfl e19 (ct_X11_needSure l hlt G P a0 p1 σ16 E σ' e21) me_X11_needSure kw_1286 ks_39 kw_1284 (Nat.le_of_ble_eq_true rfl) (Nat.le_of_ble_eq_true rfl) rfl hl.1 rfl (Nat.le_of_ble_eq_true rfl) dX11_speed_44
  refine mx_callV (As := [.int p1]) (rest := []) hx hb hml hts hown hK hJ rfl rfl (ci := 11) rfl e19 (c_X11_needSure l G P a0 p1 σ16 σ20 e21) me_X11_needSure kw_1286 ks_39 kw_1284 (Nat.le_of_ble_eq_true rfl) (Nat.le_of_ble_eq_true rfl) rfl hl.1 rfl (Nat.le_of_ble_eq_true rfl) dX11_speed_44 (fun H locs hJ => ?_)
  refine lv_aload_n hx hb dX11_speed_47 rfl (lv_at hl 0 rfl) ?_
  obtain ⟨b22, e23, hf⟩ := mb0 hf
  refine my_gR hx hb hts hown hK hJ fd_RX11_54 hv_11_6 e23 dX11_speed_48 ?_
  refine lv_iload_n hx hb dX11_speed_51 rfl (lv_at hl 2 rfl) ?_
  obtain ⟨i24, e25, hf⟩ := mb0 hf
  obtain ⟨σ26, e27, hf⟩ := mb0 hf
  refine mx_callV (As := [.int p2]) (rest := []) hx hb hml hts hown hK hJ rfl rfl (ci := 7) rfl e25 (c_X7_reckonSpeeds l G P b22 p2 σ20 σ26 e27) me_X7_reckonSpeeds kw_1358 kw_1359 kw_1357 (Nat.le_of_ble_eq_true rfl) (Nat.le_of_ble_eq_true rfl) rfl hl.1 rfl (Nat.le_of_ble_eq_true rfl) dX11_speed_52 (fun H locs hJ => ?_)
  refine lv_aload_n hx hb dX11_speed_55 rfl (lv_at hl 0 rfl) ?_
  obtain ⟨b28, e29, hf⟩ := mb0 hf
  refine my_gR hx hb hts hown hK hJ fd_RX11_54 hv_11_6 e29 dX11_speed_56 ?_
  obtain ⟨b30, e31, hf⟩ := mb0 hf
  refine my_gR hx hb hts hown hK hJ fd_RX11_143 hv_7_0 e31 dX11_speed_59 ?_
  refine lv_iload_n hx hb dX11_speed_62 rfl (lv_at hl 3 rfl) ?_
  obtain ⟨b32, e33, hf⟩ := mb0 hf
  refine mx_aR hx hb hK hJ (t := 4) rfl (fun _ _ _ => rfl) e33 dX11_speed_63 ?_
  obtain ⟨b34, e35, hf⟩ := mb0 hf
  refine my_gR hx hb hts hown hK hJ fd_RX11_194 hv_5_14 e35 dX11_speed_64 ?_
  refine lv_iload hx hb dX11_speed_67 (lv_at hl 4 rfl) ?_
  refine lv_iload hx hb dX11_speed_69 (lv_at hl 5 rfl) ?_
  rcases mbx2_t hf with e37 | ⟨x38, σ36, e37, hf⟩
  · exact mx_callST (As := [.ref b34, .int p4, .int p5]) (rest := []) hx hb hml hts hown hK hJ rfl rfl hnt hlocks (ct_X11_closedNumber l hlt G P b34 p4 p5 σ26 E σ' e37) me_X11_closedNumber kw_1269 kw_1268 (Nat.le_of_ble_eq_true rfl) (Nat.le_of_ble_eq_true rfl) rfl hl.1 rfl (Nat.le_of_ble_eq_true rfl) dX11_speed_71
  refine mx_callS (As := [.ref b34, .int p4, .int p5]) (rest := []) hx hb hml hts hown hK hJ rfl rfl (c_X11_closedNumber l G P b34 p4 p5 σ26 x38 σ36 e37) me_X11_closedNumber kw_1269 kw_1268 (Nat.le_of_ble_eq_true rfl) (Nat.le_of_ble_eq_true rfl) rfl hl.1 rfl (Nat.le_of_ble_eq_true rfl) dX11_speed_71 (fun H locs hJ => ?_)
  cases hf
set_option maxHeartbeats 4000000 in
set_option maxRecDepth 100000 in
theorem c_X11_pole (l : Launch) (G : mx_G) (P : mx_P) (a0 : Nat) (p1 : Int32) (p2 : Int32) (p3 : Int32) (p4 : Int32) (p5 : Int32) (p6 : Int32) (σ : mx_S) (r : Int64) (σ' : mx_S) (hf : f_X11_pole P a0 p1 p2 p3 p4 p5 p6 σ = some (.inr (r, σ'))) : mxz σ ≤ mpc P → mxu σ ≤ mps P → mx_M l yX11_pole cX11_pole 7 (some .long) 8 153 G P [.ref a0, .int p1, .int p2, .int p3, .int p4, .int p5, .int p6] σ (some (.long r)) σ' := by
  intro hcap hcau
  refine mx_ofW (by decide +kernel) hcap hcau (Nat.le_of_ble_eq_true rfl) ?_
  intro p e s m below meth c hx hb hr hml hts hown hlocks hname hK hJ ls hl
  have hz0 := hJ.2.1
  have hown : s.vm.findClass RX11 = some m.cls := hown
  have hl : lv_has ls 7 [(0, .ref a0), (1, .int p1), (2, .int p2), (3, .int p3), (4, .int p4), (5, .int p5), (6, .int p6)] := hl
  have D62 : ∀ (v0 : Nat) (v1 : Int32) (v2 : Int32) (v3 : Int32) (v4 : Int32) (v5 : Int32) (v6 : Int32) (w0 : Int32) (τ : mx_S), f_X11_pole_D62 P v0 v1 v2 v3 v4 v5 v6 w0 τ = some (.inr (r, σ')) → ∀ (H : Heap) (locs : List Loc), mx_J G P s.heap (mxz σ) (mxu σ) τ H locs → ∀ ls : Array Slot, lv_has ls 7 [(0, .ref v0), (1, .int v1), (2, .int v2), (3, .int v3), (4, .int v4), (5, .int v5), (6, .int v6)] → W p l e (mx_rm P 8 153 σ) s m ([.ref a0, .int p1, .int p2, .int p3, .int p4, .int p5, .int p6] : List Value).toArray below meth c H locs (mxz τ - mxz σ) (mxu τ - mxu σ) (mx_Z below G P (some (.long r)) σ σ' [.ref a0, .int p1, .int p2, .int p3, .int p4, .int p5, .int p6] s) (F0 m 62 ls [.int w0]) := by
    intro v0 v1 v2 v3 v4 v5 v6 w0 τ hf _ _ hJ ls hl
    unfold f_X11_pole_D62 at hf
    obtain ⟨σ17, e18, hf⟩ := mbx_n hf
    refine mx_callS (As := [.int w0]) (rest := []) hx hb hml hts hown hK hJ rfl rfl (c_X11_needPresence l G P w0 τ σ17 e18) me_X11_needPresence kw_1243 kw_1242 (Nat.le_of_ble_eq_true rfl) (Nat.le_of_ble_eq_true rfl) rfl hl.1 rfl (Nat.le_of_ble_eq_true rfl) dX11_pole_62 (fun H locs hJ => ?_)
    refine lv_aload_n hx hb dX11_pole_65 rfl (lv_at hl 0 rfl) ?_
    refine lv_iload_n hx hb dX11_pole_66 rfl (lv_at hl 1 rfl) ?_
    obtain ⟨i19, e20, hf⟩ := mb0 hf
    obtain ⟨σ21, e22, hf⟩ := mbx_n hf
    refine mx_callV (As := [.int v1]) (rest := []) hx hb hml hts hown hK hJ rfl rfl (ci := 11) rfl e20 (c_X11_needSure l G P v0 v1 σ17 σ21 e22) me_X11_needSure kw_1286 ks_39 kw_1284 (Nat.le_of_ble_eq_true rfl) (Nat.le_of_ble_eq_true rfl) rfl hl.1 rfl (Nat.le_of_ble_eq_true rfl) dX11_pole_67 (fun H locs hJ => ?_)
    refine lv_aload_n hx hb dX11_pole_70 rfl (lv_at hl 0 rfl) ?_
    obtain ⟨b23, e24, hf⟩ := mb0 hf
    refine my_gR hx hb hts hown hK hJ fd_RX11_54 hv_11_6 e24 dX11_pole_71 ?_
    refine lv_iload_n hx hb dX11_pole_74 rfl (lv_at hl 2 rfl) ?_
    obtain ⟨i25, e26, hf⟩ := mb0 hf
    obtain ⟨σ27, e28, hf⟩ := mb0 hf
    refine mx_callV (As := [.int v2]) (rest := []) hx hb hml hts hown hK hJ rfl rfl (ci := 7) rfl e26 (c_X7_reckonSpeeds l G P b23 v2 σ21 σ27 e28) me_X7_reckonSpeeds kw_1358 kw_1359 kw_1357 (Nat.le_of_ble_eq_true rfl) (Nat.le_of_ble_eq_true rfl) rfl hl.1 rfl (Nat.le_of_ble_eq_true rfl) dX11_pole_75 (fun H locs hJ => ?_)
    refine lv_aload_n hx hb dX11_pole_78 rfl (lv_at hl 0 rfl) ?_
    obtain ⟨b29, e30, hf⟩ := mb0 hf
    refine my_gR hx hb hts hown hK hJ fd_RX11_54 hv_11_6 e30 dX11_pole_79 ?_
    refine lv_iload_n hx hb dX11_pole_82 rfl (lv_at hl 3 rfl) ?_
    refine lv_iload hx hb dX11_pole_83 (lv_at hl 4 rfl) ?_
    obtain ⟨i31, e32, hf⟩ := mb0 hf
    obtain ⟨b34, σ33, e35, hf⟩ := mc0 hf
    refine mx_callV (As := [.int v3, .int v4]) (rest := []) hx hb hml hts hown hK hJ rfl rfl (ci := 7) rfl e32 (c_X7_poleOf l G P b29 v3 v4 σ27 b34 σ33 e35) me_X7_poleOf kw_1393 kw_1394 kw_1392 (Nat.le_of_ble_eq_true rfl) (Nat.le_of_ble_eq_true rfl) rfl hl.1 rfl (Nat.le_of_ble_eq_true rfl) dX11_pole_85 (fun H locs hJ => ?_)
    refine lv_iload hx hb dX11_pole_88 (lv_at hl 5 rfl) ?_
    refine lv_iload hx hb dX11_pole_90 (lv_at hl 6 rfl) ?_
    obtain ⟨x38, σ36, e37, hf⟩ := mbx2_n hf
    refine mx_callS (As := [.ref b34, .int v5, .int v6]) (rest := []) hx hb hml hts hown hK hJ rfl rfl (c_X11_closedNumber l G P b34 v5 v6 σ33 x38 σ36 e37) me_X11_closedNumber kw_1269 kw_1268 (Nat.le_of_ble_eq_true rfl) (Nat.le_of_ble_eq_true rfl) rfl hl.1 rfl (Nat.le_of_ble_eq_true rfl) dX11_pole_92 (fun H locs hJ => ?_)
    exact my_lret hx hb hr hlocks hJ (mx_inr hf) dX11_pole_95
  have D61 : ∀ (v0 : Nat) (v1 : Int32) (v2 : Int32) (v3 : Int32) (v4 : Int32) (v5 : Int32) (v6 : Int32) (τ : mx_S), f_X11_pole_D61 P v0 v1 v2 v3 v4 v5 v6 τ = some (.inr (r, σ')) → ∀ (H : Heap) (locs : List Loc), mx_J G P s.heap (mxz σ) (mxu σ) τ H locs → ∀ ls : Array Slot, lv_has ls 7 [(0, .ref v0), (1, .int v1), (2, .int v2), (3, .int v3), (4, .int v4), (5, .int v5), (6, .int v6)] → W p l e (mx_rm P 8 153 σ) s m ([.ref a0, .int p1, .int p2, .int p3, .int p4, .int p5, .int p6] : List Value).toArray below meth c H locs (mxz τ - mxz σ) (mxu τ - mxu σ) (mx_Z below G P (some (.long r)) σ σ' [.ref a0, .int p1, .int p2, .int p3, .int p4, .int p5, .int p6] s) (F0 m 61 ls []) := by
    intro v0 v1 v2 v3 v4 v5 v6 τ hf _ _ hJ ls hl
    unfold f_X11_pole_D61 at hf
    refine lv_iconst (v := 0) hx hb dX11_pole_61 (by decide) ?_
    exact D62 v0 v1 v2 v3 v4 v5 v6 (0 : Int32) τ hf _ _ hJ ls (lv_sub hl [0, 1, 2, 3, 4, 5, 6] rfl)
  unfold f_X11_pole at hf
  refine lv_iload_n hx hb dX11_pole_0 rfl (lv_at hl 1 rfl) ?_
  refine lv_iconst (v := 0) hx hb dX11_pole_1 (by decide) ?_
  refine lv_sipush (v := 255) hx hb dX11_pole_2 (by decide) ?_
  obtain ⟨σ1, e2, hf⟩ := mbx_n hf
  refine mx_callS (As := [.int p1, .int (0 : Int32), .int (255 : Int32)]) (rest := []) hx hb hml hts hown hK hJ rfl rfl (c_X11_needRange l G P p1 (0 : Int32) (255 : Int32) σ σ1 e2) me_X11_needRange kw_1005 kw_1004 (Nat.le_of_ble_eq_true rfl) (Nat.le_of_ble_eq_true rfl) rfl hl.1 rfl (Nat.le_of_ble_eq_true rfl) dX11_pole_5 (fun H locs hJ => ?_)
  refine lv_iload_n hx hb dX11_pole_8 rfl (lv_at hl 2 rfl) ?_
  refine lv_iconst (v := 0) hx hb dX11_pole_9 (by decide) ?_
  refine lv_iconst (v := 3) hx hb dX11_pole_10 (by decide) ?_
  obtain ⟨σ3, e4, hf⟩ := mbx_n hf
  refine mx_callS (As := [.int p2, .int (0 : Int32), .int (3 : Int32)]) (rest := []) hx hb hml hts hown hK hJ rfl rfl (c_X11_needRange l G P p2 (0 : Int32) (3 : Int32) σ1 σ3 e4) me_X11_needRange kw_1005 kw_1004 (Nat.le_of_ble_eq_true rfl) (Nat.le_of_ble_eq_true rfl) rfl hl.1 rfl (Nat.le_of_ble_eq_true rfl) dX11_pole_11 (fun H locs hJ => ?_)
  refine lv_iload hx hb dX11_pole_14 (lv_at hl 5 rfl) ?_
  refine lv_iconst (v := 0) hx hb dX11_pole_16 (by decide) ?_
  refine lv_iconst (v := 1) hx hb dX11_pole_17 (by decide) ?_
  obtain ⟨σ5, e6, hf⟩ := mbx_n hf
  refine mx_callS (As := [.int p5, .int (0 : Int32), .int (1 : Int32)]) (rest := []) hx hb hml hts hown hK hJ rfl rfl (c_X11_needRange l G P p5 (0 : Int32) (1 : Int32) σ3 σ5 e6) me_X11_needRange kw_1005 kw_1004 (Nat.le_of_ble_eq_true rfl) (Nat.le_of_ble_eq_true rfl) rfl hl.1 rfl (Nat.le_of_ble_eq_true rfl) dX11_pole_18 (fun H locs hJ => ?_)
  refine lv_iload hx hb dX11_pole_21 (lv_at hl 6 rfl) ?_
  refine lv_iconst (v := 0) hx hb dX11_pole_23 (by decide) ?_
  refine lv_iconst (v := 1) hx hb dX11_pole_24 (by decide) ?_
  obtain ⟨σ7, e8, hf⟩ := mbx_n hf
  refine mx_callS (As := [.int p6, .int (0 : Int32), .int (1 : Int32)]) (rest := []) hx hb hml hts hown hK hJ rfl rfl (c_X11_needRange l G P p6 (0 : Int32) (1 : Int32) σ5 σ7 e8) me_X11_needRange kw_1005 kw_1004 (Nat.le_of_ble_eq_true rfl) (Nat.le_of_ble_eq_true rfl) rfl hl.1 rfl (Nat.le_of_ble_eq_true rfl) dX11_pole_25 (fun H locs hJ => ?_)
  refine lv_iload_n hx hb dX11_pole_28 rfl (lv_at hl 3 rfl) ?_
  refine lv_aload_n hx hb dX11_pole_29 rfl (lv_at hl 0 rfl) ?_
  obtain ⟨b9, e10, hf⟩ := mb0 hf
  refine my_gR hx hb hts hown hK hJ fd_RX11_54 hv_11_6 e10 dX11_pole_30 ?_
  obtain ⟨x11, e12, hf⟩ := mb0 hf
  refine my_gI hx hb hts hown hK hJ fd_RX11_103 hv_7_2 e12 dX11_pole_33 ?_
  obtain ⟨x14, σ13, e15, hf⟩ := mc0 hf
  refine mx_callS (As := [.int p3, .int x11]) (rest := []) hx hb hml hts hown hK hJ rfl rfl (c_X11_isWithin l G P p3 x11 σ7 x14 σ13 e15) me_X11_isWithin kw_1240 kw_1239 (Nat.le_of_ble_eq_true rfl) (Nat.le_of_ble_eq_true rfl) rfl hl.1 rfl (Nat.le_of_ble_eq_true rfl) dX11_pole_36 (fun H locs hJ => ?_)
  refine lv_if_eq (tgt := 61) hx hb dX11_pole_39 (by decide) (fun c16 => ?_) (fun c16 => ?_)
  · rw [if_pos c16] at hf
    exact D61 a0 p1 p2 p3 p4 p5 p6 σ13 hf _ _ hJ ls (lv_sub hl [0, 1, 2, 3, 4, 5, 6] rfl)
  · rw [if_neg c16] at hf
    refine lv_iload hx hb dX11_pole_42 (lv_at hl 4 rfl) ?_
    refine lv_aload_n hx hb dX11_pole_44 rfl (lv_at hl 0 rfl) ?_
    obtain ⟨b39, e40, hf⟩ := mb0 hf
    refine my_gR hx hb hts hown hK hJ fd_RX11_54 hv_11_6 e40 dX11_pole_45 ?_
    obtain ⟨x41, e42, hf⟩ := mb0 hf
    refine my_gI hx hb hts hown hK hJ fd_RX11_103 hv_7_2 e42 dX11_pole_48 ?_
    obtain ⟨x44, σ43, e45, hf⟩ := mc0 hf
    refine mx_callS (As := [.int p4, .int x41]) (rest := []) hx hb hml hts hown hK hJ rfl rfl (c_X11_isWithin l G P p4 x41 σ13 x44 σ43 e45) me_X11_isWithin kw_1240 kw_1239 (Nat.le_of_ble_eq_true rfl) (Nat.le_of_ble_eq_true rfl) rfl hl.1 rfl (Nat.le_of_ble_eq_true rfl) dX11_pole_51 (fun H locs hJ => ?_)
    refine lv_if_eq (tgt := 61) hx hb dX11_pole_54 (by decide) (fun c46 => ?_) (fun c46 => ?_)
    · rw [if_pos c46] at hf
      exact D61 a0 p1 p2 p3 p4 p5 p6 σ43 hf _ _ hJ ls (lv_sub hl [0, 1, 2, 3, 4, 5, 6] rfl)
    · rw [if_neg c46] at hf
      refine lv_iconst (v := 1) hx hb dX11_pole_57 (by decide) ?_
      refine lv_goto (tgt := 62) hx hb dX11_pole_58 (by decide) ?_
      exact D62 a0 p1 p2 p3 p4 p5 p6 (1 : Int32) σ43 hf _ _ hJ ls (lv_sub hl [0, 1, 2, 3, 4, 5, 6] rfl)
set_option maxHeartbeats 4000000 in
set_option maxRecDepth 100000 in
theorem ct_X11_pole (l : Launch) (hlt : l.stackTraces = false) (G : mx_G) (P : mx_P) (a0 : Nat) (p1 : Int32) (p2 : Int32) (p3 : Int32) (p4 : Int32) (p5 : Int32) (p6 : Int32) (σ : mx_S) (E : String) (σ' : mx_S) (hf : f_X11_pole P a0 p1 p2 p3 p4 p5 p6 σ = some (.inl (E, σ'))) : mxz σ ≤ mpc P → mxu σ ≤ mps P → mx_Mt l yX11_pole cX11_pole 7 (some .long) 8 153 G P [.ref a0, .int p1, .int p2, .int p3, .int p4, .int p5, .int p6] σ E σ' := by
  intro hcap hcau
  refine mx_ofWt (by decide +kernel) hcap hcau (Nat.le_of_ble_eq_true rfl) ?_
  intro p e s m below meth c hx hb hr hml hts hown hlocks hname hnt hK hJ ls hl
  have hz0 := hJ.2.1
  have hown : s.vm.findClass RX11 = some m.cls := hown
  have hl : lv_has ls 7 [(0, .ref a0), (1, .int p1), (2, .int p2), (3, .int p3), (4, .int p4), (5, .int p5), (6, .int p6)] := hl
  have D62 : ∀ (v0 : Nat) (v1 : Int32) (v2 : Int32) (v3 : Int32) (v4 : Int32) (v5 : Int32) (v6 : Int32) (w0 : Int32) (τ : mx_S), f_X11_pole_D62 P v0 v1 v2 v3 v4 v5 v6 w0 τ = some (.inl (E, σ')) → ∀ (H : Heap) (locs : List Loc), mx_J G P s.heap (mxz σ) (mxu σ) τ H locs → ∀ ls : Array Slot, lv_has ls 7 [(0, .ref v0), (1, .int v1), (2, .int v2), (3, .int v3), (4, .int v4), (5, .int v5), (6, .int v6)] → W p l e (mx_rm P 8 153 σ) s m ([.ref a0, .int p1, .int p2, .int p3, .int p4, .int p5, .int p6] : List Value).toArray below meth c H locs (mxz τ - mxz σ) (mxu τ - mxu σ) (mx_Zt below G P E σ σ' [.ref a0, .int p1, .int p2, .int p3, .int p4, .int p5, .int p6] s) (F0 m 62 ls [.int w0]) := by
    intro v0 v1 v2 v3 v4 v5 v6 w0 τ hf _ _ hJ ls hl
    unfold f_X11_pole_D62 at hf
    rcases mbx_t hf with e18 | ⟨σ17, e18, hf⟩
    · exact mx_callST (As := [.int w0]) (rest := []) hx hb hml hts hown hK hJ rfl rfl hnt hlocks (ct_X11_needPresence l hlt G P w0 τ E σ' e18) me_X11_needPresence kw_1243 kw_1242 (Nat.le_of_ble_eq_true rfl) (Nat.le_of_ble_eq_true rfl) rfl hl.1 rfl (Nat.le_of_ble_eq_true rfl) dX11_pole_62
    refine mx_callS (As := [.int w0]) (rest := []) hx hb hml hts hown hK hJ rfl rfl (c_X11_needPresence l G P w0 τ σ17 e18) me_X11_needPresence kw_1243 kw_1242 (Nat.le_of_ble_eq_true rfl) (Nat.le_of_ble_eq_true rfl) rfl hl.1 rfl (Nat.le_of_ble_eq_true rfl) dX11_pole_62 (fun H locs hJ => ?_)
    refine lv_aload_n hx hb dX11_pole_65 rfl (lv_at hl 0 rfl) ?_
    refine lv_iload_n hx hb dX11_pole_66 rfl (lv_at hl 1 rfl) ?_
    obtain ⟨i19, e20, hf⟩ := mb0 hf
    rcases mbx_t hf with e22 | ⟨σ21, e22, hf⟩
    · exact mx_callVT (As := [.int v1]) (rest := []) hx hb hml hts hown hK hJ rfl rfl hnt hlocks (ci := 11) rfl e20 (ct_X11_needSure l hlt G P v0 v1 σ17 E σ' e22) me_X11_needSure kw_1286 ks_39 kw_1284 (Nat.le_of_ble_eq_true rfl) (Nat.le_of_ble_eq_true rfl) rfl hl.1 rfl (Nat.le_of_ble_eq_true rfl) dX11_pole_67
    refine mx_callV (As := [.int v1]) (rest := []) hx hb hml hts hown hK hJ rfl rfl (ci := 11) rfl e20 (c_X11_needSure l G P v0 v1 σ17 σ21 e22) me_X11_needSure kw_1286 ks_39 kw_1284 (Nat.le_of_ble_eq_true rfl) (Nat.le_of_ble_eq_true rfl) rfl hl.1 rfl (Nat.le_of_ble_eq_true rfl) dX11_pole_67 (fun H locs hJ => ?_)
    refine lv_aload_n hx hb dX11_pole_70 rfl (lv_at hl 0 rfl) ?_
    obtain ⟨b23, e24, hf⟩ := mb0 hf
    refine my_gR hx hb hts hown hK hJ fd_RX11_54 hv_11_6 e24 dX11_pole_71 ?_
    refine lv_iload_n hx hb dX11_pole_74 rfl (lv_at hl 2 rfl) ?_
    obtain ⟨i25, e26, hf⟩ := mb0 hf
    obtain ⟨σ27, e28, hf⟩ := mb0 hf
    refine mx_callV (As := [.int v2]) (rest := []) hx hb hml hts hown hK hJ rfl rfl (ci := 7) rfl e26 (c_X7_reckonSpeeds l G P b23 v2 σ21 σ27 e28) me_X7_reckonSpeeds kw_1358 kw_1359 kw_1357 (Nat.le_of_ble_eq_true rfl) (Nat.le_of_ble_eq_true rfl) rfl hl.1 rfl (Nat.le_of_ble_eq_true rfl) dX11_pole_75 (fun H locs hJ => ?_)
    refine lv_aload_n hx hb dX11_pole_78 rfl (lv_at hl 0 rfl) ?_
    obtain ⟨b29, e30, hf⟩ := mb0 hf
    refine my_gR hx hb hts hown hK hJ fd_RX11_54 hv_11_6 e30 dX11_pole_79 ?_
    refine lv_iload_n hx hb dX11_pole_82 rfl (lv_at hl 3 rfl) ?_
    refine lv_iload hx hb dX11_pole_83 (lv_at hl 4 rfl) ?_
    obtain ⟨i31, e32, hf⟩ := mb0 hf
    obtain ⟨b34, σ33, e35, hf⟩ := mc0 hf
    refine mx_callV (As := [.int v3, .int v4]) (rest := []) hx hb hml hts hown hK hJ rfl rfl (ci := 7) rfl e32 (c_X7_poleOf l G P b29 v3 v4 σ27 b34 σ33 e35) me_X7_poleOf kw_1393 kw_1394 kw_1392 (Nat.le_of_ble_eq_true rfl) (Nat.le_of_ble_eq_true rfl) rfl hl.1 rfl (Nat.le_of_ble_eq_true rfl) dX11_pole_85 (fun H locs hJ => ?_)
    refine lv_iload hx hb dX11_pole_88 (lv_at hl 5 rfl) ?_
    refine lv_iload hx hb dX11_pole_90 (lv_at hl 6 rfl) ?_
    rcases mbx2_t hf with e37 | ⟨x38, σ36, e37, hf⟩
    · exact mx_callST (As := [.ref b34, .int v5, .int v6]) (rest := []) hx hb hml hts hown hK hJ rfl rfl hnt hlocks (ct_X11_closedNumber l hlt G P b34 v5 v6 σ33 E σ' e37) me_X11_closedNumber kw_1269 kw_1268 (Nat.le_of_ble_eq_true rfl) (Nat.le_of_ble_eq_true rfl) rfl hl.1 rfl (Nat.le_of_ble_eq_true rfl) dX11_pole_92
    refine mx_callS (As := [.ref b34, .int v5, .int v6]) (rest := []) hx hb hml hts hown hK hJ rfl rfl (c_X11_closedNumber l G P b34 v5 v6 σ33 x38 σ36 e37) me_X11_closedNumber kw_1269 kw_1268 (Nat.le_of_ble_eq_true rfl) (Nat.le_of_ble_eq_true rfl) rfl hl.1 rfl (Nat.le_of_ble_eq_true rfl) dX11_pole_92 (fun H locs hJ => ?_)
    cases hf
  have D61 : ∀ (v0 : Nat) (v1 : Int32) (v2 : Int32) (v3 : Int32) (v4 : Int32) (v5 : Int32) (v6 : Int32) (τ : mx_S), f_X11_pole_D61 P v0 v1 v2 v3 v4 v5 v6 τ = some (.inl (E, σ')) → ∀ (H : Heap) (locs : List Loc), mx_J G P s.heap (mxz σ) (mxu σ) τ H locs → ∀ ls : Array Slot, lv_has ls 7 [(0, .ref v0), (1, .int v1), (2, .int v2), (3, .int v3), (4, .int v4), (5, .int v5), (6, .int v6)] → W p l e (mx_rm P 8 153 σ) s m ([.ref a0, .int p1, .int p2, .int p3, .int p4, .int p5, .int p6] : List Value).toArray below meth c H locs (mxz τ - mxz σ) (mxu τ - mxu σ) (mx_Zt below G P E σ σ' [.ref a0, .int p1, .int p2, .int p3, .int p4, .int p5, .int p6] s) (F0 m 61 ls []) := by
    intro v0 v1 v2 v3 v4 v5 v6 τ hf _ _ hJ ls hl
    unfold f_X11_pole_D61 at hf
    refine lv_iconst (v := 0) hx hb dX11_pole_61 (by decide) ?_
    exact D62 v0 v1 v2 v3 v4 v5 v6 (0 : Int32) τ hf _ _ hJ ls (lv_sub hl [0, 1, 2, 3, 4, 5, 6] rfl)
  unfold f_X11_pole at hf
  refine lv_iload_n hx hb dX11_pole_0 rfl (lv_at hl 1 rfl) ?_
  refine lv_iconst (v := 0) hx hb dX11_pole_1 (by decide) ?_
  refine lv_sipush (v := 255) hx hb dX11_pole_2 (by decide) ?_
  rcases mbx_t hf with e2 | ⟨σ1, e2, hf⟩
  · exact mx_callST (As := [.int p1, .int (0 : Int32), .int (255 : Int32)]) (rest := []) hx hb hml hts hown hK hJ rfl rfl hnt hlocks (ct_X11_needRange l hlt G P p1 (0 : Int32) (255 : Int32) σ E σ' e2) me_X11_needRange kw_1005 kw_1004 (Nat.le_of_ble_eq_true rfl) (Nat.le_of_ble_eq_true rfl) rfl hl.1 rfl (Nat.le_of_ble_eq_true rfl) dX11_pole_5
  refine mx_callS (As := [.int p1, .int (0 : Int32), .int (255 : Int32)]) (rest := []) hx hb hml hts hown hK hJ rfl rfl (c_X11_needRange l G P p1 (0 : Int32) (255 : Int32) σ σ1 e2) me_X11_needRange kw_1005 kw_1004 (Nat.le_of_ble_eq_true rfl) (Nat.le_of_ble_eq_true rfl) rfl hl.1 rfl (Nat.le_of_ble_eq_true rfl) dX11_pole_5 (fun H locs hJ => ?_)
  refine lv_iload_n hx hb dX11_pole_8 rfl (lv_at hl 2 rfl) ?_
  refine lv_iconst (v := 0) hx hb dX11_pole_9 (by decide) ?_
  refine lv_iconst (v := 3) hx hb dX11_pole_10 (by decide) ?_
  rcases mbx_t hf with e4 | ⟨σ3, e4, hf⟩
  · exact mx_callST (As := [.int p2, .int (0 : Int32), .int (3 : Int32)]) (rest := []) hx hb hml hts hown hK hJ rfl rfl hnt hlocks (ct_X11_needRange l hlt G P p2 (0 : Int32) (3 : Int32) σ1 E σ' e4) me_X11_needRange kw_1005 kw_1004 (Nat.le_of_ble_eq_true rfl) (Nat.le_of_ble_eq_true rfl) rfl hl.1 rfl (Nat.le_of_ble_eq_true rfl) dX11_pole_11
  refine mx_callS (As := [.int p2, .int (0 : Int32), .int (3 : Int32)]) (rest := []) hx hb hml hts hown hK hJ rfl rfl (c_X11_needRange l G P p2 (0 : Int32) (3 : Int32) σ1 σ3 e4) me_X11_needRange kw_1005 kw_1004 (Nat.le_of_ble_eq_true rfl) (Nat.le_of_ble_eq_true rfl) rfl hl.1 rfl (Nat.le_of_ble_eq_true rfl) dX11_pole_11 (fun H locs hJ => ?_)
  refine lv_iload hx hb dX11_pole_14 (lv_at hl 5 rfl) ?_
  refine lv_iconst (v := 0) hx hb dX11_pole_16 (by decide) ?_
  refine lv_iconst (v := 1) hx hb dX11_pole_17 (by decide) ?_
  rcases mbx_t hf with e6 | ⟨σ5, e6, hf⟩
  · exact mx_callST (As := [.int p5, .int (0 : Int32), .int (1 : Int32)]) (rest := []) hx hb hml hts hown hK hJ rfl rfl hnt hlocks (ct_X11_needRange l hlt G P p5 (0 : Int32) (1 : Int32) σ3 E σ' e6) me_X11_needRange kw_1005 kw_1004 (Nat.le_of_ble_eq_true rfl) (Nat.le_of_ble_eq_true rfl) rfl hl.1 rfl (Nat.le_of_ble_eq_true rfl) dX11_pole_18
  refine mx_callS (As := [.int p5, .int (0 : Int32), .int (1 : Int32)]) (rest := []) hx hb hml hts hown hK hJ rfl rfl (c_X11_needRange l G P p5 (0 : Int32) (1 : Int32) σ3 σ5 e6) me_X11_needRange kw_1005 kw_1004 (Nat.le_of_ble_eq_true rfl) (Nat.le_of_ble_eq_true rfl) rfl hl.1 rfl (Nat.le_of_ble_eq_true rfl) dX11_pole_18 (fun H locs hJ => ?_)
  refine lv_iload hx hb dX11_pole_21 (lv_at hl 6 rfl) ?_
  refine lv_iconst (v := 0) hx hb dX11_pole_23 (by decide) ?_
  refine lv_iconst (v := 1) hx hb dX11_pole_24 (by decide) ?_
  rcases mbx_t hf with e8 | ⟨σ7, e8, hf⟩
  · exact mx_callST (As := [.int p6, .int (0 : Int32), .int (1 : Int32)]) (rest := []) hx hb hml hts hown hK hJ rfl rfl hnt hlocks (ct_X11_needRange l hlt G P p6 (0 : Int32) (1 : Int32) σ5 E σ' e8) me_X11_needRange kw_1005 kw_1004 (Nat.le_of_ble_eq_true rfl) (Nat.le_of_ble_eq_true rfl) rfl hl.1 rfl (Nat.le_of_ble_eq_true rfl) dX11_pole_25
  refine mx_callS (As := [.int p6, .int (0 : Int32), .int (1 : Int32)]) (rest := []) hx hb hml hts hown hK hJ rfl rfl (c_X11_needRange l G P p6 (0 : Int32) (1 : Int32) σ5 σ7 e8) me_X11_needRange kw_1005 kw_1004 (Nat.le_of_ble_eq_true rfl) (Nat.le_of_ble_eq_true rfl) rfl hl.1 rfl (Nat.le_of_ble_eq_true rfl) dX11_pole_25 (fun H locs hJ => ?_)
  refine lv_iload_n hx hb dX11_pole_28 rfl (lv_at hl 3 rfl) ?_
  refine lv_aload_n hx hb dX11_pole_29 rfl (lv_at hl 0 rfl) ?_
  obtain ⟨b9, e10, hf⟩ := mb0 hf
  refine my_gR hx hb hts hown hK hJ fd_RX11_54 hv_11_6 e10 dX11_pole_30 ?_
  obtain ⟨x11, e12, hf⟩ := mb0 hf
  refine my_gI hx hb hts hown hK hJ fd_RX11_103 hv_7_2 e12 dX11_pole_33 ?_
  obtain ⟨x14, σ13, e15, hf⟩ := mc0 hf
  refine mx_callS (As := [.int p3, .int x11]) (rest := []) hx hb hml hts hown hK hJ rfl rfl (c_X11_isWithin l G P p3 x11 σ7 x14 σ13 e15) me_X11_isWithin kw_1240 kw_1239 (Nat.le_of_ble_eq_true rfl) (Nat.le_of_ble_eq_true rfl) rfl hl.1 rfl (Nat.le_of_ble_eq_true rfl) dX11_pole_36 (fun H locs hJ => ?_)
  refine lv_if_eq (tgt := 61) hx hb dX11_pole_39 (by decide) (fun c16 => ?_) (fun c16 => ?_)
  · rw [if_pos c16] at hf
    exact D61 a0 p1 p2 p3 p4 p5 p6 σ13 hf _ _ hJ ls (lv_sub hl [0, 1, 2, 3, 4, 5, 6] rfl)
  · rw [if_neg c16] at hf
    refine lv_iload hx hb dX11_pole_42 (lv_at hl 4 rfl) ?_
    refine lv_aload_n hx hb dX11_pole_44 rfl (lv_at hl 0 rfl) ?_
    obtain ⟨b39, e40, hf⟩ := mb0 hf
    refine my_gR hx hb hts hown hK hJ fd_RX11_54 hv_11_6 e40 dX11_pole_45 ?_
    obtain ⟨x41, e42, hf⟩ := mb0 hf
    refine my_gI hx hb hts hown hK hJ fd_RX11_103 hv_7_2 e42 dX11_pole_48 ?_
    obtain ⟨x44, σ43, e45, hf⟩ := mc0 hf
    refine mx_callS (As := [.int p4, .int x41]) (rest := []) hx hb hml hts hown hK hJ rfl rfl (c_X11_isWithin l G P p4 x41 σ13 x44 σ43 e45) me_X11_isWithin kw_1240 kw_1239 (Nat.le_of_ble_eq_true rfl) (Nat.le_of_ble_eq_true rfl) rfl hl.1 rfl (Nat.le_of_ble_eq_true rfl) dX11_pole_51 (fun H locs hJ => ?_)
    refine lv_if_eq (tgt := 61) hx hb dX11_pole_54 (by decide) (fun c46 => ?_) (fun c46 => ?_)
    · rw [if_pos c46] at hf
      exact D61 a0 p1 p2 p3 p4 p5 p6 σ43 hf _ _ hJ ls (lv_sub hl [0, 1, 2, 3, 4, 5, 6] rfl)
    · rw [if_neg c46] at hf
      refine lv_iconst (v := 1) hx hb dX11_pole_57 (by decide) ?_
      refine lv_goto (tgt := 62) hx hb dX11_pole_58 (by decide) ?_
      exact D62 a0 p1 p2 p3 p4 p5 p6 (1 : Int32) σ43 hf _ _ hJ ls (lv_sub hl [0, 1, 2, 3, 4, 5, 6] rfl)
set_option maxHeartbeats 4000000 in
set_option maxRecDepth 100000 in
theorem c_X11_load (l : Launch) (G : mx_G) (P : mx_P) (a0 : Nat) (p1 : Int32) (p2 : Int32) (p3 : Int32) (σ : mx_S) (σ' : mx_S) (hf : f_X11_load P a0 p1 p2 p3 σ = some (.inr σ')) : mxz σ ≤ mpc P → mxu σ ≤ mps P → mx_M l yX11_load cX11_load 4 none 7 103 G P [.ref a0, .int p1, .int p2, .int p3] σ none σ' := by
  intro hcap hcau
  refine mx_ofW (by decide +kernel) hcap hcau (Nat.le_of_ble_eq_true rfl) ?_
  intro p e s m below meth c hx hb hr hml hts hown hlocks hname hK hJ ls hl
  have hz0 := hJ.2.1
  have hown : s.vm.findClass RX11 = some m.cls := hown
  have hl : lv_has ls 4 [(0, .ref a0), (1, .int p1), (2, .int p2), (3, .int p3)] := hl
  unfold f_X11_load at hf
  refine lv_iload_n hx hb dX11_load_0 rfl (lv_at hl 2 rfl) ?_
  refine lv_sipush (v := (-1000)) hx hb dX11_load_1 (by decide) ?_
  refine lv_sipush (v := 1000) hx hb dX11_load_4 (by decide) ?_
  obtain ⟨σ1, e2, hf⟩ := mbx_n hf
  refine mx_callS (As := [.int p2, .int (-1000 : Int32), .int (1000 : Int32)]) (rest := []) hx hb hml hts hown hK hJ rfl rfl (c_X11_needRange l G P p2 (-1000 : Int32) (1000 : Int32) σ σ1 e2) me_X11_needRange kw_1005 kw_1004 (Nat.le_of_ble_eq_true rfl) (Nat.le_of_ble_eq_true rfl) rfl hl.1 rfl (Nat.le_of_ble_eq_true rfl) dX11_load_7 (fun H locs hJ => ?_)
  refine lv_iload_n hx hb dX11_load_10 rfl (lv_at hl 3 rfl) ?_
  refine lv_sipush (v := (-1000)) hx hb dX11_load_11 (by decide) ?_
  refine lv_sipush (v := 1000) hx hb dX11_load_14 (by decide) ?_
  obtain ⟨σ3, e4, hf⟩ := mbx_n hf
  refine mx_callS (As := [.int p3, .int (-1000 : Int32), .int (1000 : Int32)]) (rest := []) hx hb hml hts hown hK hJ rfl rfl (c_X11_needRange l G P p3 (-1000 : Int32) (1000 : Int32) σ1 σ3 e4) me_X11_needRange kw_1005 kw_1004 (Nat.le_of_ble_eq_true rfl) (Nat.le_of_ble_eq_true rfl) rfl hl.1 rfl (Nat.le_of_ble_eq_true rfl) dX11_load_17 (fun H locs hJ => ?_)
  refine lv_iload_n hx hb dX11_load_20 rfl (lv_at hl 1 rfl) ?_
  refine lv_aload_n hx hb dX11_load_21 rfl (lv_at hl 0 rfl) ?_
  obtain ⟨b5, e6, hf⟩ := mb0 hf
  refine my_gR hx hb hts hown hK hJ fd_RX11_54 hv_11_6 e6 dX11_load_22 ?_
  obtain ⟨x7, e8, hf⟩ := mb0 hf
  refine my_gI hx hb hts hown hK hJ fd_RX11_103 hv_7_2 e8 dX11_load_25 ?_
  obtain ⟨x10, σ9, e11, hf⟩ := mc0 hf
  refine mx_callS (As := [.int p1, .int x7]) (rest := []) hx hb hml hts hown hK hJ rfl rfl (c_X11_isWithin l G P p1 x7 σ3 x10 σ9 e11) me_X11_isWithin kw_1240 kw_1239 (Nat.le_of_ble_eq_true rfl) (Nat.le_of_ble_eq_true rfl) rfl hl.1 rfl (Nat.le_of_ble_eq_true rfl) dX11_load_28 (fun H locs hJ => ?_)
  obtain ⟨σ12, e13, hf⟩ := mbx_n hf
  refine mx_callS (As := [.int x10]) (rest := []) hx hb hml hts hown hK hJ rfl rfl (c_X11_needPresence l G P x10 σ9 σ12 e13) me_X11_needPresence kw_1243 kw_1242 (Nat.le_of_ble_eq_true rfl) (Nat.le_of_ble_eq_true rfl) rfl hl.1 rfl (Nat.le_of_ble_eq_true rfl) dX11_load_31 (fun H locs hJ => ?_)
  refine lv_aload_n hx hb dX11_load_34 rfl (lv_at hl 0 rfl) ?_
  obtain ⟨b14, e15, hf⟩ := mb0 hf
  refine my_gR hx hb hts hown hK hJ fd_RX11_54 hv_11_6 e15 dX11_load_35 ?_
  obtain ⟨b16, e17, hf⟩ := mb0 hf
  refine my_gR hx hb hts hown hK hJ fd_RX11_143 hv_7_0 e17 dX11_load_38 ?_
  refine lv_iload_n hx hb dX11_load_41 rfl (lv_at hl 1 rfl) ?_
  obtain ⟨b18, e19, hf⟩ := mb0 hf
  refine mx_aR hx hb hK hJ (t := 4) rfl (fun _ _ _ => rfl) e19 dX11_load_42 ?_
  refine lv_iload_n hx hb dX11_load_43 rfl (lv_at hl 2 rfl) ?_
  obtain ⟨σ20, e21, hf⟩ := mb0 hf
  refine my_pI hx hb hts hown hK hJ fd_RX11_201 cd_5 (Or.inl rfl) ht_5_17 e21 dX11_load_44 (fun H locs hJ => ?_)
  refine lv_aload_n hx hb dX11_load_47 rfl (lv_at hl 0 rfl) ?_
  obtain ⟨b22, e23, hf⟩ := mb0 hf
  refine my_gR hx hb hts hown hK hJ fd_RX11_54 hv_11_6 e23 dX11_load_48 ?_
  obtain ⟨b24, e25, hf⟩ := mb0 hf
  refine my_gR hx hb hts hown hK hJ fd_RX11_143 hv_7_0 e25 dX11_load_51 ?_
  refine lv_iload_n hx hb dX11_load_54 rfl (lv_at hl 1 rfl) ?_
  obtain ⟨b26, e27, hf⟩ := mb0 hf
  refine mx_aR hx hb hK hJ (t := 4) rfl (fun _ _ _ => rfl) e27 dX11_load_55 ?_
  refine lv_iload_n hx hb dX11_load_56 rfl (lv_at hl 3 rfl) ?_
  obtain ⟨σ28, e29, hf⟩ := mb0 hf
  refine my_pI hx hb hts hown hK hJ fd_RX11_204 cd_5 (Or.inl rfl) ht_5_18 e29 dX11_load_57 (fun H locs hJ => ?_)
  exact my_vret hx hb hr hlocks hJ (mx_inr hf) dX11_load_60
set_option maxHeartbeats 4000000 in
set_option maxRecDepth 100000 in
theorem ct_X11_load (l : Launch) (hlt : l.stackTraces = false) (G : mx_G) (P : mx_P) (a0 : Nat) (p1 : Int32) (p2 : Int32) (p3 : Int32) (σ : mx_S) (E : String) (σ' : mx_S) (hf : f_X11_load P a0 p1 p2 p3 σ = some (.inl (E, σ'))) : mxz σ ≤ mpc P → mxu σ ≤ mps P → mx_Mt l yX11_load cX11_load 4 none 7 103 G P [.ref a0, .int p1, .int p2, .int p3] σ E σ' := by
  intro hcap hcau
  refine mx_ofWt (by decide +kernel) hcap hcau (Nat.le_of_ble_eq_true rfl) ?_
  intro p e s m below meth c hx hb hr hml hts hown hlocks hname hnt hK hJ ls hl
  have hz0 := hJ.2.1
  have hown : s.vm.findClass RX11 = some m.cls := hown
  have hl : lv_has ls 4 [(0, .ref a0), (1, .int p1), (2, .int p2), (3, .int p3)] := hl
  unfold f_X11_load at hf
  refine lv_iload_n hx hb dX11_load_0 rfl (lv_at hl 2 rfl) ?_
  refine lv_sipush (v := (-1000)) hx hb dX11_load_1 (by decide) ?_
  refine lv_sipush (v := 1000) hx hb dX11_load_4 (by decide) ?_
  rcases mbx_t hf with e2 | ⟨σ1, e2, hf⟩
  · exact mx_callST (As := [.int p2, .int (-1000 : Int32), .int (1000 : Int32)]) (rest := []) hx hb hml hts hown hK hJ rfl rfl hnt hlocks (ct_X11_needRange l hlt G P p2 (-1000 : Int32) (1000 : Int32) σ E σ' e2) me_X11_needRange kw_1005 kw_1004 (Nat.le_of_ble_eq_true rfl) (Nat.le_of_ble_eq_true rfl) rfl hl.1 rfl (Nat.le_of_ble_eq_true rfl) dX11_load_7
  refine mx_callS (As := [.int p2, .int (-1000 : Int32), .int (1000 : Int32)]) (rest := []) hx hb hml hts hown hK hJ rfl rfl (c_X11_needRange l G P p2 (-1000 : Int32) (1000 : Int32) σ σ1 e2) me_X11_needRange kw_1005 kw_1004 (Nat.le_of_ble_eq_true rfl) (Nat.le_of_ble_eq_true rfl) rfl hl.1 rfl (Nat.le_of_ble_eq_true rfl) dX11_load_7 (fun H locs hJ => ?_)
  refine lv_iload_n hx hb dX11_load_10 rfl (lv_at hl 3 rfl) ?_
  refine lv_sipush (v := (-1000)) hx hb dX11_load_11 (by decide) ?_
  refine lv_sipush (v := 1000) hx hb dX11_load_14 (by decide) ?_
  rcases mbx_t hf with e4 | ⟨σ3, e4, hf⟩
  · exact mx_callST (As := [.int p3, .int (-1000 : Int32), .int (1000 : Int32)]) (rest := []) hx hb hml hts hown hK hJ rfl rfl hnt hlocks (ct_X11_needRange l hlt G P p3 (-1000 : Int32) (1000 : Int32) σ1 E σ' e4) me_X11_needRange kw_1005 kw_1004 (Nat.le_of_ble_eq_true rfl) (Nat.le_of_ble_eq_true rfl) rfl hl.1 rfl (Nat.le_of_ble_eq_true rfl) dX11_load_17
  refine mx_callS (As := [.int p3, .int (-1000 : Int32), .int (1000 : Int32)]) (rest := []) hx hb hml hts hown hK hJ rfl rfl (c_X11_needRange l G P p3 (-1000 : Int32) (1000 : Int32) σ1 σ3 e4) me_X11_needRange kw_1005 kw_1004 (Nat.le_of_ble_eq_true rfl) (Nat.le_of_ble_eq_true rfl) rfl hl.1 rfl (Nat.le_of_ble_eq_true rfl) dX11_load_17 (fun H locs hJ => ?_)
  refine lv_iload_n hx hb dX11_load_20 rfl (lv_at hl 1 rfl) ?_
  refine lv_aload_n hx hb dX11_load_21 rfl (lv_at hl 0 rfl) ?_
  obtain ⟨b5, e6, hf⟩ := mb0 hf
  refine my_gR hx hb hts hown hK hJ fd_RX11_54 hv_11_6 e6 dX11_load_22 ?_
  obtain ⟨x7, e8, hf⟩ := mb0 hf
  refine my_gI hx hb hts hown hK hJ fd_RX11_103 hv_7_2 e8 dX11_load_25 ?_
  obtain ⟨x10, σ9, e11, hf⟩ := mc0 hf
  refine mx_callS (As := [.int p1, .int x7]) (rest := []) hx hb hml hts hown hK hJ rfl rfl (c_X11_isWithin l G P p1 x7 σ3 x10 σ9 e11) me_X11_isWithin kw_1240 kw_1239 (Nat.le_of_ble_eq_true rfl) (Nat.le_of_ble_eq_true rfl) rfl hl.1 rfl (Nat.le_of_ble_eq_true rfl) dX11_load_28 (fun H locs hJ => ?_)
  rcases mbx_t hf with e13 | ⟨σ12, e13, hf⟩
  · exact mx_callST (As := [.int x10]) (rest := []) hx hb hml hts hown hK hJ rfl rfl hnt hlocks (ct_X11_needPresence l hlt G P x10 σ9 E σ' e13) me_X11_needPresence kw_1243 kw_1242 (Nat.le_of_ble_eq_true rfl) (Nat.le_of_ble_eq_true rfl) rfl hl.1 rfl (Nat.le_of_ble_eq_true rfl) dX11_load_31
  refine mx_callS (As := [.int x10]) (rest := []) hx hb hml hts hown hK hJ rfl rfl (c_X11_needPresence l G P x10 σ9 σ12 e13) me_X11_needPresence kw_1243 kw_1242 (Nat.le_of_ble_eq_true rfl) (Nat.le_of_ble_eq_true rfl) rfl hl.1 rfl (Nat.le_of_ble_eq_true rfl) dX11_load_31 (fun H locs hJ => ?_)
  refine lv_aload_n hx hb dX11_load_34 rfl (lv_at hl 0 rfl) ?_
  obtain ⟨b14, e15, hf⟩ := mb0 hf
  refine my_gR hx hb hts hown hK hJ fd_RX11_54 hv_11_6 e15 dX11_load_35 ?_
  obtain ⟨b16, e17, hf⟩ := mb0 hf
  refine my_gR hx hb hts hown hK hJ fd_RX11_143 hv_7_0 e17 dX11_load_38 ?_
  refine lv_iload_n hx hb dX11_load_41 rfl (lv_at hl 1 rfl) ?_
  obtain ⟨b18, e19, hf⟩ := mb0 hf
  refine mx_aR hx hb hK hJ (t := 4) rfl (fun _ _ _ => rfl) e19 dX11_load_42 ?_
  refine lv_iload_n hx hb dX11_load_43 rfl (lv_at hl 2 rfl) ?_
  obtain ⟨σ20, e21, hf⟩ := mb0 hf
  refine my_pI hx hb hts hown hK hJ fd_RX11_201 cd_5 (Or.inl rfl) ht_5_17 e21 dX11_load_44 (fun H locs hJ => ?_)
  refine lv_aload_n hx hb dX11_load_47 rfl (lv_at hl 0 rfl) ?_
  obtain ⟨b22, e23, hf⟩ := mb0 hf
  refine my_gR hx hb hts hown hK hJ fd_RX11_54 hv_11_6 e23 dX11_load_48 ?_
  obtain ⟨b24, e25, hf⟩ := mb0 hf
  refine my_gR hx hb hts hown hK hJ fd_RX11_143 hv_7_0 e25 dX11_load_51 ?_
  refine lv_iload_n hx hb dX11_load_54 rfl (lv_at hl 1 rfl) ?_
  obtain ⟨b26, e27, hf⟩ := mb0 hf
  refine mx_aR hx hb hK hJ (t := 4) rfl (fun _ _ _ => rfl) e27 dX11_load_55 ?_
  refine lv_iload_n hx hb dX11_load_56 rfl (lv_at hl 3 rfl) ?_
  obtain ⟨σ28, e29, hf⟩ := mb0 hf
  refine my_pI hx hb hts hown hK hJ fd_RX11_204 cd_5 (Or.inl rfl) ht_5_18 e29 dX11_load_57 (fun H locs hJ => ?_)
  cases hf
set_option maxHeartbeats 4000000 in
set_option maxRecDepth 100000 in
theorem c_X11_mass (l : Launch) (G : mx_G) (P : mx_P) (a0 : Nat) (p1 : Int32) (p2 : Int32) (σ : mx_S) (σ' : mx_S) (hf : f_X11_mass P a0 p1 p2 σ = some (.inr σ')) : mxz σ ≤ mpc P → mxu σ ≤ mps P → mx_M l yX11_mass cX11_mass 3 none 7 103 G P [.ref a0, .int p1, .int p2] σ none σ' := by
  intro hcap hcau
  refine mx_ofW (by decide +kernel) hcap hcau (Nat.le_of_ble_eq_true rfl) ?_
  intro p e s m below meth c hx hb hr hml hts hown hlocks hname hK hJ ls hl
  have hz0 := hJ.2.1
  have hown : s.vm.findClass RX11 = some m.cls := hown
  have hl : lv_has ls 3 [(0, .ref a0), (1, .int p1), (2, .int p2)] := hl
  unfold f_X11_mass at hf
  refine lv_iload_n hx hb dX11_mass_0 rfl (lv_at hl 2 rfl) ?_
  refine lv_iconst (v := 0) hx hb dX11_mass_1 (by decide) ?_
  refine lv_sipush (v := 1000) hx hb dX11_mass_2 (by decide) ?_
  obtain ⟨σ1, e2, hf⟩ := mbx_n hf
  refine mx_callS (As := [.int p2, .int (0 : Int32), .int (1000 : Int32)]) (rest := []) hx hb hml hts hown hK hJ rfl rfl (c_X11_needRange l G P p2 (0 : Int32) (1000 : Int32) σ σ1 e2) me_X11_needRange kw_1005 kw_1004 (Nat.le_of_ble_eq_true rfl) (Nat.le_of_ble_eq_true rfl) rfl hl.1 rfl (Nat.le_of_ble_eq_true rfl) dX11_mass_5 (fun H locs hJ => ?_)
  refine lv_iload_n hx hb dX11_mass_8 rfl (lv_at hl 1 rfl) ?_
  refine lv_aload_n hx hb dX11_mass_9 rfl (lv_at hl 0 rfl) ?_
  obtain ⟨b3, e4, hf⟩ := mb0 hf
  refine my_gR hx hb hts hown hK hJ fd_RX11_54 hv_11_6 e4 dX11_mass_10 ?_
  obtain ⟨x5, e6, hf⟩ := mb0 hf
  refine my_gI hx hb hts hown hK hJ fd_RX11_103 hv_7_2 e6 dX11_mass_13 ?_
  obtain ⟨x8, σ7, e9, hf⟩ := mc0 hf
  refine mx_callS (As := [.int p1, .int x5]) (rest := []) hx hb hml hts hown hK hJ rfl rfl (c_X11_isWithin l G P p1 x5 σ1 x8 σ7 e9) me_X11_isWithin kw_1240 kw_1239 (Nat.le_of_ble_eq_true rfl) (Nat.le_of_ble_eq_true rfl) rfl hl.1 rfl (Nat.le_of_ble_eq_true rfl) dX11_mass_16 (fun H locs hJ => ?_)
  obtain ⟨σ10, e11, hf⟩ := mbx_n hf
  refine mx_callS (As := [.int x8]) (rest := []) hx hb hml hts hown hK hJ rfl rfl (c_X11_needPresence l G P x8 σ7 σ10 e11) me_X11_needPresence kw_1243 kw_1242 (Nat.le_of_ble_eq_true rfl) (Nat.le_of_ble_eq_true rfl) rfl hl.1 rfl (Nat.le_of_ble_eq_true rfl) dX11_mass_19 (fun H locs hJ => ?_)
  refine lv_aload_n hx hb dX11_mass_22 rfl (lv_at hl 0 rfl) ?_
  obtain ⟨b12, e13, hf⟩ := mb0 hf
  refine my_gR hx hb hts hown hK hJ fd_RX11_54 hv_11_6 e13 dX11_mass_23 ?_
  obtain ⟨b14, e15, hf⟩ := mb0 hf
  refine my_gR hx hb hts hown hK hJ fd_RX11_143 hv_7_0 e15 dX11_mass_26 ?_
  refine lv_iload_n hx hb dX11_mass_29 rfl (lv_at hl 1 rfl) ?_
  obtain ⟨b16, e17, hf⟩ := mb0 hf
  refine mx_aR hx hb hK hJ (t := 4) rfl (fun _ _ _ => rfl) e17 dX11_mass_30 ?_
  refine lv_iload_n hx hb dX11_mass_31 rfl (lv_at hl 2 rfl) ?_
  obtain ⟨σ18, e19, hf⟩ := mb0 hf
  refine my_pI hx hb hts hown hK hJ fd_RX11_207 cd_5 (Or.inl rfl) ht_5_19 e19 dX11_mass_32 (fun H locs hJ => ?_)
  exact my_vret hx hb hr hlocks hJ (mx_inr hf) dX11_mass_35
set_option maxHeartbeats 4000000 in
set_option maxRecDepth 100000 in
theorem ct_X11_mass (l : Launch) (hlt : l.stackTraces = false) (G : mx_G) (P : mx_P) (a0 : Nat) (p1 : Int32) (p2 : Int32) (σ : mx_S) (E : String) (σ' : mx_S) (hf : f_X11_mass P a0 p1 p2 σ = some (.inl (E, σ'))) : mxz σ ≤ mpc P → mxu σ ≤ mps P → mx_Mt l yX11_mass cX11_mass 3 none 7 103 G P [.ref a0, .int p1, .int p2] σ E σ' := by
  intro hcap hcau
  refine mx_ofWt (by decide +kernel) hcap hcau (Nat.le_of_ble_eq_true rfl) ?_
  intro p e s m below meth c hx hb hr hml hts hown hlocks hname hnt hK hJ ls hl
  have hz0 := hJ.2.1
  have hown : s.vm.findClass RX11 = some m.cls := hown
  have hl : lv_has ls 3 [(0, .ref a0), (1, .int p1), (2, .int p2)] := hl
  unfold f_X11_mass at hf
  refine lv_iload_n hx hb dX11_mass_0 rfl (lv_at hl 2 rfl) ?_
  refine lv_iconst (v := 0) hx hb dX11_mass_1 (by decide) ?_
  refine lv_sipush (v := 1000) hx hb dX11_mass_2 (by decide) ?_
  rcases mbx_t hf with e2 | ⟨σ1, e2, hf⟩
  · exact mx_callST (As := [.int p2, .int (0 : Int32), .int (1000 : Int32)]) (rest := []) hx hb hml hts hown hK hJ rfl rfl hnt hlocks (ct_X11_needRange l hlt G P p2 (0 : Int32) (1000 : Int32) σ E σ' e2) me_X11_needRange kw_1005 kw_1004 (Nat.le_of_ble_eq_true rfl) (Nat.le_of_ble_eq_true rfl) rfl hl.1 rfl (Nat.le_of_ble_eq_true rfl) dX11_mass_5
  refine mx_callS (As := [.int p2, .int (0 : Int32), .int (1000 : Int32)]) (rest := []) hx hb hml hts hown hK hJ rfl rfl (c_X11_needRange l G P p2 (0 : Int32) (1000 : Int32) σ σ1 e2) me_X11_needRange kw_1005 kw_1004 (Nat.le_of_ble_eq_true rfl) (Nat.le_of_ble_eq_true rfl) rfl hl.1 rfl (Nat.le_of_ble_eq_true rfl) dX11_mass_5 (fun H locs hJ => ?_)
  refine lv_iload_n hx hb dX11_mass_8 rfl (lv_at hl 1 rfl) ?_
  refine lv_aload_n hx hb dX11_mass_9 rfl (lv_at hl 0 rfl) ?_
  obtain ⟨b3, e4, hf⟩ := mb0 hf
  refine my_gR hx hb hts hown hK hJ fd_RX11_54 hv_11_6 e4 dX11_mass_10 ?_
  obtain ⟨x5, e6, hf⟩ := mb0 hf
  refine my_gI hx hb hts hown hK hJ fd_RX11_103 hv_7_2 e6 dX11_mass_13 ?_
  obtain ⟨x8, σ7, e9, hf⟩ := mc0 hf
  refine mx_callS (As := [.int p1, .int x5]) (rest := []) hx hb hml hts hown hK hJ rfl rfl (c_X11_isWithin l G P p1 x5 σ1 x8 σ7 e9) me_X11_isWithin kw_1240 kw_1239 (Nat.le_of_ble_eq_true rfl) (Nat.le_of_ble_eq_true rfl) rfl hl.1 rfl (Nat.le_of_ble_eq_true rfl) dX11_mass_16 (fun H locs hJ => ?_)
  rcases mbx_t hf with e11 | ⟨σ10, e11, hf⟩
  · exact mx_callST (As := [.int x8]) (rest := []) hx hb hml hts hown hK hJ rfl rfl hnt hlocks (ct_X11_needPresence l hlt G P x8 σ7 E σ' e11) me_X11_needPresence kw_1243 kw_1242 (Nat.le_of_ble_eq_true rfl) (Nat.le_of_ble_eq_true rfl) rfl hl.1 rfl (Nat.le_of_ble_eq_true rfl) dX11_mass_19
  refine mx_callS (As := [.int x8]) (rest := []) hx hb hml hts hown hK hJ rfl rfl (c_X11_needPresence l G P x8 σ7 σ10 e11) me_X11_needPresence kw_1243 kw_1242 (Nat.le_of_ble_eq_true rfl) (Nat.le_of_ble_eq_true rfl) rfl hl.1 rfl (Nat.le_of_ble_eq_true rfl) dX11_mass_19 (fun H locs hJ => ?_)
  refine lv_aload_n hx hb dX11_mass_22 rfl (lv_at hl 0 rfl) ?_
  obtain ⟨b12, e13, hf⟩ := mb0 hf
  refine my_gR hx hb hts hown hK hJ fd_RX11_54 hv_11_6 e13 dX11_mass_23 ?_
  obtain ⟨b14, e15, hf⟩ := mb0 hf
  refine my_gR hx hb hts hown hK hJ fd_RX11_143 hv_7_0 e15 dX11_mass_26 ?_
  refine lv_iload_n hx hb dX11_mass_29 rfl (lv_at hl 1 rfl) ?_
  obtain ⟨b16, e17, hf⟩ := mb0 hf
  refine mx_aR hx hb hK hJ (t := 4) rfl (fun _ _ _ => rfl) e17 dX11_mass_30 ?_
  refine lv_iload_n hx hb dX11_mass_31 rfl (lv_at hl 2 rfl) ?_
  obtain ⟨σ18, e19, hf⟩ := mb0 hf
  refine my_pI hx hb hts hown hK hJ fd_RX11_207 cd_5 (Or.inl rfl) ht_5_19 e19 dX11_mass_32 (fun H locs hJ => ?_)
  cases hf
