set_option maxHeartbeats 4000000 in
set_option maxRecDepth 100000 in
theorem c_X4_keepTrain (l : Launch) (G : mx_G) (P : mx_P) (a0 : Nat) (p1 : Int32) (p2 : Int32) (p3 : Int32) (p4 : Int32) (σ : mx_S) (σ' : mx_S) (hf : f_X4_keepTrain P a0 p1 p2 p3 p4 σ = some σ') : mxz σ ≤ mpc P → mxu σ ≤ mps P → mx_M l yX4_keepTrain cX4_keepTrain 6 none 0 0 G P [.ref a0, .int p1, .int p2, .int p3, .int p4] σ none σ' := by
  intro hcap hcau
  refine mx_ofW (by decide +kernel) hcap hcau (Nat.le_of_ble_eq_true rfl) ?_
  intro p e s m below meth c hx hb hr hml hts hown hlocks hname hK hJ ls hl
  have hz0 := hJ.2.1
  have hown : s.vm.findClass RX4 = some m.cls := hown
  have hl : lv_has ls 6 [(0, .ref a0), (1, .int p1), (2, .int p2), (3, .int p3), (4, .int p4)] := hl
  unfold f_X4_keepTrain at hf
  refine lv_aload_n hx hb dX4_keepTrain_0 rfl (lv_at hl 0 rfl) ?_
  obtain ⟨x1, e2, hf⟩ := mb0 hf
  refine my_gI hx hb hts hown hK hJ fd_RX4_167 hv_4_2 e2 dX4_keepTrain_1 ?_
  refine lv_sipush (v := 300) hx hb dX4_keepTrain_4 (by decide) ?_
  refine lv_icmp_lt (tgt := 11) hx hb dX4_keepTrain_7 (by decide) (fun c3 => ?_) (fun c3 => ?_)
  · rw [if_pos c3] at hf
    refine lv_iconst (v := 4) hx hb dX4_keepTrain_11 (by decide) ?_
    refine lv_aload_n hx hb dX4_keepTrain_12 rfl (lv_at hl 0 rfl) ?_
    obtain ⟨x4, e5, hf⟩ := mb0 hf
    refine my_gI hx hb hts hown hK hJ fd_RX4_167 hv_4_2 e5 dX4_keepTrain_13 ?_
    refine lv_imul hx hb dX4_keepTrain_16 ?_
    obtain ⟨x6, e7, hf⟩ := mb0 hf
    refine mx_nI e7 ?_
    refine lv_istore (lv' := [(5, .int x6), (0, .ref a0), (1, .int p1), (2, .int p2), (3, .int p3), (4, .int p4)]) hx hb dX4_keepTrain_17 hl (by decide) rfl (fun ls hl => ?_)
    refine lv_aload_n hx hb dX4_keepTrain_19 rfl (lv_at hl 1 rfl) ?_
    obtain ⟨b8, e9, hf⟩ := mb0 hf
    refine my_gR hx hb hts hown hK hJ fd_RX4_28 hv_4_9 e9 dX4_keepTrain_20 ?_
    refine lv_iload hx hb dX4_keepTrain_23 (lv_at hl 0 rfl) ?_
    refine lv_iload_n hx hb dX4_keepTrain_25 rfl (lv_at hl 2 rfl) ?_
    obtain ⟨σ10, e11, hf⟩ := mb0 hf
    refine mx_sI hx hb hK hJ e11 dX4_keepTrain_26 (fun H locs hJ => ?_)
    refine lv_aload_n hx hb dX4_keepTrain_27 rfl (lv_at hl 1 rfl) ?_
    obtain ⟨b12, e13, hf⟩ := mb0 hf
    refine my_gR hx hb hts hown hK hJ fd_RX4_28 hv_4_9 e13 dX4_keepTrain_28 ?_
    refine lv_iload hx hb dX4_keepTrain_31 (lv_at hl 0 rfl) ?_
    refine lv_iconst (v := 1) hx hb dX4_keepTrain_33 (by decide) ?_
    refine lv_iadd hx hb dX4_keepTrain_34 ?_
    refine lv_iload_n hx hb dX4_keepTrain_35 rfl (lv_at hl 3 rfl) ?_
    obtain ⟨σ14, e15, hf⟩ := mb0 hf
    refine mx_sI hx hb hK hJ e15 dX4_keepTrain_36 (fun H locs hJ => ?_)
    refine lv_aload_n hx hb dX4_keepTrain_37 rfl (lv_at hl 1 rfl) ?_
    obtain ⟨b16, e17, hf⟩ := mb0 hf
    refine my_gR hx hb hts hown hK hJ fd_RX4_28 hv_4_9 e17 dX4_keepTrain_38 ?_
    refine lv_iload hx hb dX4_keepTrain_41 (lv_at hl 0 rfl) ?_
    refine lv_iconst (v := 2) hx hb dX4_keepTrain_43 (by decide) ?_
    refine lv_iadd hx hb dX4_keepTrain_44 ?_
    refine lv_iload_n hx hb dX4_keepTrain_45 rfl (lv_at hl 4 rfl) ?_
    obtain ⟨σ18, e19, hf⟩ := mb0 hf
    refine mx_sI hx hb hK hJ e19 dX4_keepTrain_46 (fun H locs hJ => ?_)
    refine lv_aload_n hx hb dX4_keepTrain_47 rfl (lv_at hl 1 rfl) ?_
    obtain ⟨b20, e21, hf⟩ := mb0 hf
    refine my_gR hx hb hts hown hK hJ fd_RX4_28 hv_4_9 e21 dX4_keepTrain_48 ?_
    refine lv_iload hx hb dX4_keepTrain_51 (lv_at hl 0 rfl) ?_
    refine lv_iconst (v := 3) hx hb dX4_keepTrain_53 (by decide) ?_
    refine lv_iadd hx hb dX4_keepTrain_54 ?_
    refine lv_iload hx hb dX4_keepTrain_55 (lv_at hl 5 rfl) ?_
    obtain ⟨σ22, e23, hf⟩ := mb0 hf
    refine mx_sI hx hb hK hJ e23 dX4_keepTrain_57 (fun H locs hJ => ?_)
    refine lv_aload_n hx hb dX4_keepTrain_58 rfl (lv_at hl 1 rfl) ?_
    refine lv_dup hx hb dX4_keepTrain_59 rfl ?_
    obtain ⟨x24, e25, hf⟩ := mb0 hf
    refine my_gI hx hb hts hown hK hJ fd_RX4_167 hv_4_2 e25 dX4_keepTrain_60 ?_
    refine lv_iconst (v := 1) hx hb dX4_keepTrain_63 (by decide) ?_
    refine lv_iadd hx hb dX4_keepTrain_64 ?_
    obtain ⟨σ26, e27, hf⟩ := mb0 hf
    refine my_pI hx hb hts hown hK hJ fd_RX4_167 cd_4 (Or.inl rfl) ht_4_2 e27 dX4_keepTrain_65 (fun H locs hJ => ?_)
    exact my_vret hx hb hr hlocks hJ hf dX4_keepTrain_68
  · rw [if_neg c3] at hf
    exact my_vret hx hb hr hlocks hJ hf dX4_keepTrain_10
set_option maxHeartbeats 4000000 in
set_option maxRecDepth 100000 in
theorem c_X4_findDrivers (l : Launch) (G : mx_G) (P : mx_P) (a0 : Nat) (p1 : Int32) (p2 : Int32) (p3 : Int32) (p4 : Int32) (p5 : Int32) (σ : mx_S) (r : Int32) (σ' : mx_S) (hf : f_X4_findDrivers P a0 p1 p2 p3 p4 p5 σ = some (r, σ')) : mxz σ ≤ mpc P → mxu σ ≤ mps P → mx_M l yX4_findDrivers cX4_findDrivers 9 (some .int) 1 25 G P [.ref a0, .int p1, .int p2, .int p3, .int p4, .int p5] σ (some (.int r)) σ' := by
  intro hcap hcau
  refine mx_ofW (by decide +kernel) hcap hcau (Nat.le_of_ble_eq_true rfl) ?_
  intro p e s m below meth c hx hb hr hml hts hown hlocks hname hK hJ ls hl
  have hz0 := hJ.2.1
  have hown : s.vm.findClass RX4 = some m.cls := hown
  have hl : lv_has ls 9 [(0, .ref a0), (1, .int p1), (2, .int p2), (3, .int p3), (4, .int p4), (5, .int p5)] := hl
  have D17 : ∀  (τ : mx_S), f_X4_findDrivers_D17 P  τ = some (r, σ') → ∀ (H : Heap) (locs : List Loc), mx_J G P s.heap (mxz σ) (mxu σ) τ H locs → ∀ ls : Array Slot, lv_has ls 9 [] → W p l e (mx_rm P 1 25 σ) s m ([.ref a0, .int p1, .int p2, .int p3, .int p4, .int p5] : List Value).toArray below meth c H locs (mxz τ - mxz σ) (mxu τ - mxu σ) (mx_Z below G P (some (.int r)) σ σ' [.ref a0, .int p1, .int p2, .int p3, .int p4, .int p5] s) (F0 m 17 ls []) := by
    intro  τ hf _ _ hJ ls hl
    unfold f_X4_findDrivers_D17 at hf
    refine lv_iconst (v := 0) hx hb dX4_findDrivers_17 (by decide) ?_
    exact my_iret hx hb hr hlocks hJ hf dX4_findDrivers_18
  have D82_39 : ∀ (v0 : Nat) (v1 : Int32) (v2 : Int32) (v3 : Int32) (v5 : Int32) (v6 : Int32) (v8 : Int32) (τ : mx_S) (o : (Int32 × Int32 × mx_S) ⊕ ((Int32 × mx_S))), f_X4_findDrivers_D82_39 P v0 v1 v2 v3 v5 v6 v8 τ = some o → (∀ (y6 : Int32) (y8 : Int32) (υ : mx_S), o = .inl (y6, y8, υ) → ∀ (H : Heap) (locs : List Loc), mx_J G P s.heap (mxz σ) (mxu σ) υ H locs → ∀ ls : Array Slot, lv_has ls 9 [(0, .ref v0), (1, .int v1), (2, .int v2), (3, .int v3), (5, .int v5), (6, .int y6), (8, .int y8)] → W p l e (mx_rm P 1 25 σ) s m ([.ref a0, .int p1, .int p2, .int p3, .int p4, .int p5] : List Value).toArray below meth c H locs (mxz υ - mxz σ) (mxu υ - mxu σ) (mx_Z below G P (some (.int r)) σ σ' [.ref a0, .int p1, .int p2, .int p3, .int p4, .int p5] s) (F0 m 39 ls [])) → (∀ (y6 : Int32) (υ : mx_S), o = .inr (y6, υ) → ∀ (H : Heap) (locs : List Loc), mx_J G P s.heap (mxz σ) (mxu σ) υ H locs → ∀ ls : Array Slot, lv_has ls 9 [(6, .int y6)] → W p l e (mx_rm P 1 25 σ) s m ([.ref a0, .int p1, .int p2, .int p3, .int p4, .int p5] : List Value).toArray below meth c H locs (mxz υ - mxz σ) (mxu υ - mxu σ) (mx_Z below G P (some (.int r)) σ σ' [.ref a0, .int p1, .int p2, .int p3, .int p4, .int p5] s) (F0 m 88 ls [])) → ∀ (H : Heap) (locs : List Loc), mx_J G P s.heap (mxz σ) (mxu σ) τ H locs → ∀ ls : Array Slot, lv_has ls 9 [(0, .ref v0), (1, .int v1), (2, .int v2), (3, .int v3), (5, .int v5), (6, .int v6), (8, .int v8)] → W p l e (mx_rm P 1 25 σ) s m ([.ref a0, .int p1, .int p2, .int p3, .int p4, .int p5] : List Value).toArray below meth c H locs (mxz τ - mxz σ) (mxu τ - mxu σ) (mx_Z below G P (some (.int r)) σ σ' [.ref a0, .int p1, .int p2, .int p3, .int p4, .int p5] s) (F0 m 82 ls []) := by
    intro v0 v1 v2 v3 v5 v6 v8 τ o hf Kb Ke0 H locs hJ ls hl
    unfold f_X4_findDrivers_D82_39 at hf
    obtain ⟨x14, e15, hf⟩ := mb0 hf
    refine lv_iinc (v := x14) (lv' := [(8, .int x14), (0, .ref v0), (1, .int v1), (2, .int v2), (3, .int v3), (5, .int v5), (6, .int v6)]) hx hb dX4_findDrivers_82 hl (k := 6) rfl (by rw [← Option.some.inj e15]; rfl) (by decide) rfl (fun ls hl => ?_)
    refine lv_goto (tgt := 39) hx hb dX4_findDrivers_85 (by decide) ?_
    exact Kb v6 x14 τ (Option.some.inj hf).symm _ _ hJ ls (lv_sub hl [1, 2, 3, 4, 5, 6, 0] rfl)
  have B39 : ∀ (v0 : Nat) (v1 : Int32) (v2 : Int32) (v3 : Int32) (v5 : Int32) (v6 : Int32) (v8 : Int32) (τ : mx_S) (o : (Int32 × Int32 × mx_S) ⊕ ((Int32 × mx_S))), f_X4_findDrivers_B39 P v0 v1 v2 v3 v5 v6 v8 τ = some o → (∀ (y6 : Int32) (y8 : Int32) (υ : mx_S), o = .inl (y6, y8, υ) → ∀ (H : Heap) (locs : List Loc), mx_J G P s.heap (mxz σ) (mxu σ) υ H locs → ∀ ls : Array Slot, lv_has ls 9 [(0, .ref v0), (1, .int v1), (2, .int v2), (3, .int v3), (5, .int v5), (6, .int y6), (8, .int y8)] → W p l e (mx_rm P 1 25 σ) s m ([.ref a0, .int p1, .int p2, .int p3, .int p4, .int p5] : List Value).toArray below meth c H locs (mxz υ - mxz σ) (mxu υ - mxu σ) (mx_Z below G P (some (.int r)) σ σ' [.ref a0, .int p1, .int p2, .int p3, .int p4, .int p5] s) (F0 m 39 ls [])) → (∀ (y6 : Int32) (υ : mx_S), o = .inr (y6, υ) → ∀ (H : Heap) (locs : List Loc), mx_J G P s.heap (mxz σ) (mxu σ) υ H locs → ∀ ls : Array Slot, lv_has ls 9 [(6, .int y6)] → W p l e (mx_rm P 1 25 σ) s m ([.ref a0, .int p1, .int p2, .int p3, .int p4, .int p5] : List Value).toArray below meth c H locs (mxz υ - mxz σ) (mxu υ - mxu σ) (mx_Z below G P (some (.int r)) σ σ' [.ref a0, .int p1, .int p2, .int p3, .int p4, .int p5] s) (F0 m 88 ls [])) → ∀ (H : Heap) (locs : List Loc), mx_J G P s.heap (mxz σ) (mxu σ) τ H locs → ∀ ls : Array Slot, lv_has ls 9 [(0, .ref v0), (1, .int v1), (2, .int v2), (3, .int v3), (5, .int v5), (6, .int v6), (8, .int v8)] → W p l e (mx_rm P 1 25 σ) s m ([.ref a0, .int p1, .int p2, .int p3, .int p4, .int p5] : List Value).toArray below meth c H locs (mxz τ - mxz σ) (mxu τ - mxu σ) (mx_Z below G P (some (.int r)) σ σ' [.ref a0, .int p1, .int p2, .int p3, .int p4, .int p5] s) (F0 m 39 ls []) := by
    intro v0 v1 v2 v3 v5 v6 v8 τ o hf Kb Ke0 H locs hJ ls hl
    unfold f_X4_findDrivers_B39 at hf
    refine lv_iload hx hb dX4_findDrivers_39 (lv_at hl 6 rfl) ?_
    refine lv_iload hx hb dX4_findDrivers_41 (lv_at hl 4 rfl) ?_
    refine lv_icmp_gt (tgt := 88) hx hb dX4_findDrivers_43 (by decide) (fun c8 => ?_) (fun c8 => ?_)
    · rw [if_pos c8] at hf
      exact Ke0 v6 τ (Option.some.inj hf).symm _ _ hJ ls (lv_sub hl [5] rfl)
    · rw [if_neg c8] at hf
      refine lv_iload hx hb dX4_findDrivers_46 (lv_at hl 6 rfl) ?_
      refine lv_if_le (tgt := 88) hx hb dX4_findDrivers_48 (by decide) (fun c9 => ?_) (fun c9 => ?_)
      · rw [if_pos c9] at hf
        exact Ke0 v6 τ (Option.some.inj hf).symm _ _ hJ ls (lv_sub hl [5] rfl)
      · rw [if_neg c9] at hf
        refine lv_iload hx hb dX4_findDrivers_51 (lv_at hl 6 rfl) ?_
        refine lv_iload hx hb dX4_findDrivers_53 (lv_at hl 6 rfl) ?_
        refine lv_imul hx hb dX4_findDrivers_55 ?_
        refine lv_iload_n hx hb dX4_findDrivers_56 rfl (lv_at hl 3 rfl) ?_
        refine lv_icmp_gt (tgt := 88) hx hb dX4_findDrivers_57 (by decide) (fun c10 => ?_) (fun c10 => ?_)
        · rw [if_pos c10] at hf
          exact Ke0 v6 τ (Option.some.inj hf).symm _ _ hJ ls (lv_sub hl [5] rfl)
        · rw [if_neg c10] at hf
          refine lv_iload_n hx hb dX4_findDrivers_60 rfl (lv_at hl 3 rfl) ?_
          refine lv_iload hx hb dX4_findDrivers_61 (lv_at hl 6 rfl) ?_
          obtain ⟨x11, e12, hf⟩ := mb0 hf
          refine lv_irem hx hb dX4_findDrivers_63 (mm_Is e12).1 ?_
          refine mx_eI (mm_Is e12).2 ?_
          refine lv_if_ne (tgt := 82) hx hb dX4_findDrivers_64 (by decide) (fun c13 => ?_) (fun c13 => ?_)
          · rw [if_neg c13] at hf
            exact D82_39 v0 v1 v2 v3 v5 v6 v8 τ o hf Kb Ke0 _ _ hJ ls (lv_sub hl [0, 1, 2, 3, 4, 5, 6] rfl)
          · rw [if_pos c13] at hf
            obtain ⟨x16, e17, hf⟩ := mb0 hf
            refine lv_iinc (v := x16) (lv' := [(6, .int x16), (0, .ref v0), (1, .int v1), (2, .int v2), (3, .int v3), (5, .int v5), (8, .int v8)]) hx hb dX4_findDrivers_67 hl (k := 5) rfl (by rw [← Option.some.inj e17]; rfl) (by decide) rfl (fun ls hl => ?_)
            refine lv_aload_n hx hb dX4_findDrivers_70 rfl (lv_at hl 1 rfl) ?_
            refine lv_iload_n hx hb dX4_findDrivers_71 rfl (lv_at hl 2 rfl) ?_
            refine lv_iload hx hb dX4_findDrivers_72 (lv_at hl 6 rfl) ?_
            refine lv_iload_n hx hb dX4_findDrivers_74 rfl (lv_at hl 3 rfl) ?_
            refine lv_iload_n hx hb dX4_findDrivers_75 rfl (lv_at hl 4 rfl) ?_
            refine lv_iload hx hb dX4_findDrivers_76 (lv_at hl 6 rfl) ?_
            obtain ⟨x18, e19, hf⟩ := mb0 hf
            refine lv_idiv hx hb dX4_findDrivers_78 (md_Is e19).1 ?_
            refine mx_eI (md_Is e19).2 ?_
            obtain ⟨i20, e21, hf⟩ := mb0 hf
            obtain ⟨σ22, e23, hf⟩ := mb0 hf
            refine mx_callV (As := [.int v1, .int v8, .int v2, .int x18]) (rest := []) hx hb hml hts hown hK hJ rfl rfl (ci := 4) rfl e21 (c_X4_keepTrain l G P v0 v1 v8 v2 x18 τ σ22 e23) me_X4_keepTrain kw_1531 ks_48 kw_1529 (Nat.le_of_ble_eq_true rfl) (Nat.le_of_ble_eq_true rfl) rfl hl.1 rfl (Nat.le_of_ble_eq_true rfl) dX4_findDrivers_79 (fun H locs hJ => ?_)
            exact D82_39 v0 v1 v2 v3 v5 x16 v8 σ22 o hf Kb Ke0 _ _ hJ ls (lv_sub hl [1, 2, 3, 4, 5, 0, 6] rfl)
  have L39 : ∀ (v0 : Nat) (v1 : Int32) (v2 : Int32) (v3 : Int32) (v5 : Int32) (n : Nat) (v6 : Int32) (v8 : Int32) (τ : mx_S) (o : (Int32 × mx_S)), mx_lp (f_X4_findDrivers_L39 P v0 v1 v2 v3 v5) n (v6, v8, τ) = some o → (∀ (y6 : Int32) (υ : mx_S), o = (y6, υ) → ∀ (H : Heap) (locs : List Loc), mx_J G P s.heap (mxz σ) (mxu σ) υ H locs → ∀ ls : Array Slot, lv_has ls 9 [(6, .int y6)] → W p l e (mx_rm P 1 25 σ) s m ([.ref a0, .int p1, .int p2, .int p3, .int p4, .int p5] : List Value).toArray below meth c H locs (mxz υ - mxz σ) (mxu υ - mxu σ) (mx_Z below G P (some (.int r)) σ σ' [.ref a0, .int p1, .int p2, .int p3, .int p4, .int p5] s) (F0 m 88 ls [])) → ∀ (H : Heap) (locs : List Loc), mx_J G P s.heap (mxz σ) (mxu σ) τ H locs → ∀ ls : Array Slot, lv_has ls 9 [(0, .ref v0), (1, .int v1), (2, .int v2), (3, .int v3), (5, .int v5), (6, .int v6), (8, .int v8)] → W p l e (mx_rm P 1 25 σ) s m ([.ref a0, .int p1, .int p2, .int p3, .int p4, .int p5] : List Value).toArray below meth c H locs (mxz τ - mxz σ) (mxu τ - mxu σ) (mx_Z below G P (some (.int r)) σ σ' [.ref a0, .int p1, .int p2, .int p3, .int p4, .int p5] s) (F0 m 39 ls []) := by
    intro v0 v1 v2 v3 v5 n
    induction n with
    | zero =>
      intro v6 v8 τ o hf
      rw [mx_lp0] at hf
      cases hf
    | succ n ih =>
      intro v6 v8 τ o hf Ke0 H locs hJ ls hl
      rw [mx_lpS] at hf
      obtain ⟨b, eb, hf⟩ := mb0 hf
      refine B39 v0 v1 v2 v3 v5 v6 v8 τ b eb (fun y6 y8 υ ho H locs hJ ls hl => ?_) (fun y6 υ ho H locs hJ ls hl => ?_) H locs hJ ls hl
      · subst ho
        exact ih y6 y8 υ o hf Ke0 H locs hJ ls hl
      · subst ho
        exact Ke0 y6 υ (Option.some.inj hf).symm _ _ hJ ls hl
  have D88 : ∀ (v6 : Int32) (τ : mx_S), f_X4_findDrivers_D88 P v6 τ = some (r, σ') → ∀ (H : Heap) (locs : List Loc), mx_J G P s.heap (mxz σ) (mxu σ) τ H locs → ∀ ls : Array Slot, lv_has ls 9 [(6, .int v6)] → W p l e (mx_rm P 1 25 σ) s m ([.ref a0, .int p1, .int p2, .int p3, .int p4, .int p5] : List Value).toArray below meth c H locs (mxz τ - mxz σ) (mxu τ - mxu σ) (mx_Z below G P (some (.int r)) σ σ' [.ref a0, .int p1, .int p2, .int p3, .int p4, .int p5] s) (F0 m 88 ls []) := by
    intro v6 τ hf _ _ hJ ls hl
    unfold f_X4_findDrivers_D88 at hf
    refine lv_iload hx hb dX4_findDrivers_88 (lv_at hl 0 rfl) ?_
    exact my_iret hx hb hr hlocks hJ hf dX4_findDrivers_90
  unfold f_X4_findDrivers at hf
  refine lv_iconst (v := 0) hx hb dX4_findDrivers_0 (by decide) ?_
  refine lv_istore (lv' := [(6, .int (0 : Int32)), (0, .ref a0), (1, .int p1), (2, .int p2), (3, .int p3), (4, .int p4), (5, .int p5)]) hx hb dX4_findDrivers_1 hl (by decide) rfl (fun ls hl => ?_)
  refine lv_iload hx hb dX4_findDrivers_3 (lv_at hl 6 rfl) ?_
  refine lv_if_le (tgt := 17) hx hb dX4_findDrivers_5 (by decide) (fun c1 => ?_) (fun c1 => ?_)
  · rw [if_pos c1] at hf
    exact D17  σ hf _ _ hJ ls (lv_sub hl [] rfl)
  · rw [if_neg c1] at hf
    refine lv_iload_n hx hb dX4_findDrivers_8 rfl (lv_at hl 4 rfl) ?_
    refine lv_iload hx hb dX4_findDrivers_9 (lv_at hl 6 rfl) ?_
    refine lv_iload hx hb dX4_findDrivers_11 (lv_at hl 6 rfl) ?_
    refine lv_imul hx hb dX4_findDrivers_13 ?_
    refine lv_icmp_le (tgt := 19) hx hb dX4_findDrivers_14 (by decide) (fun c2 => ?_) (fun c2 => ?_)
    · rw [if_pos c2] at hf
      refine lv_iload hx hb dX4_findDrivers_19 (lv_at hl 5 rfl) ?_
      refine lv_iload_n hx hb dX4_findDrivers_21 rfl (lv_at hl 4 rfl) ?_
      refine lv_iload hx hb dX4_findDrivers_22 (lv_at hl 6 rfl) ?_
      refine lv_iadd hx hb dX4_findDrivers_24 ?_
      refine lv_iconst (v := 1) hx hb dX4_findDrivers_25 (by decide) ?_
      refine lv_isub hx hb dX4_findDrivers_26 ?_
      refine lv_iload hx hb dX4_findDrivers_27 (lv_at hl 6 rfl) ?_
      obtain ⟨x3, e4, hf⟩ := mb0 hf
      refine lv_idiv hx hb dX4_findDrivers_29 (md_Is e4).1 ?_
      refine mx_eI (md_Is e4).2 ?_
      obtain ⟨x6, σ5, e7, hf⟩ := mc0 hf
      refine mx_callS (As := [.int p4, .int x3]) (rest := []) hx hb hml hts hown hK hJ rfl rfl (c_J9_max_7cf53 l G P p4 x3 σ x6 σ5 e7) me_J9_max_7cf53 kw_1507 kw_1506 (Nat.le_of_ble_eq_true rfl) (Nat.le_of_ble_eq_true rfl) rfl hl.1 rfl (Nat.le_of_ble_eq_true rfl) dX4_findDrivers_30 (fun H locs hJ => ?_)
      refine lv_istore (lv' := [(7, .int x6), (6, .int (0 : Int32)), (0, .ref a0), (1, .int p1), (2, .int p2), (3, .int p3), (4, .int p4), (5, .int p5)]) hx hb dX4_findDrivers_33 hl (by decide) rfl (fun ls hl => ?_)
      refine lv_iload hx hb dX4_findDrivers_35 (lv_at hl 0 rfl) ?_
      refine lv_istore (lv' := [(8, .int x6), (7, .int x6), (6, .int (0 : Int32)), (0, .ref a0), (1, .int p1), (2, .int p2), (3, .int p3), (4, .int p4), (5, .int p5)]) hx hb dX4_findDrivers_37 hl (by decide) rfl (fun ls hl => ?_)
      obtain ⟨o24, e25, hf⟩ := mb0 hf
      refine L39 a0 p1 p2 p3 p5 (mpN P) (0 : Int32) x6 σ5 o24 e25 (fun y26 σ27 ho H locs hJ ls hl => ?_) _ _ hJ ls (lv_sub hl [3, 4, 5, 6, 8, 2, 0] rfl)
      · rw [ho] at hf
        have hf : (f_X4_findDrivers_D88 P y26 σ27) = some (r, σ') := hf
        exact D88 y26 σ27 hf _ _ hJ ls (lv_sub hl [0] rfl)
    · rw [if_neg c2] at hf
      exact D17  σ hf _ _ hJ ls (lv_sub hl [] rfl)
set_option maxHeartbeats 4000000 in
set_option maxRecDepth 100000 in
theorem c_X4_findTrains (l : Launch) (G : mx_G) (P : mx_P) (a0 : Nat) (p1 : Int32) (p2 : Int32) (p3 : Int32) (p4 : Int32) (σ : mx_S) (r : Int32) (σ' : mx_S) (hf : f_X4_findTrains P a0 p1 p2 p3 p4 σ = some (r, σ')) : mxz σ ≤ mpc P → mxu σ ≤ mps P → mx_M l yX4_findTrains cX4_findTrains 9 (some .int) 2 53 G P [.ref a0, .int p1, .int p2, .int p3, .int p4] σ (some (.int r)) σ' := by
  intro hcap hcau
  refine mx_ofW (by decide +kernel) hcap hcau (Nat.le_of_ble_eq_true rfl) ?_
  intro p e s m below meth c hx hb hr hml hts hown hlocks hname hK hJ ls hl
  have hz0 := hJ.2.1
  have hown : s.vm.findClass RX4 = some m.cls := hown
  have hl : lv_has ls 9 [(0, .ref a0), (1, .int p1), (2, .int p2), (3, .int p3), (4, .int p4)] := hl
  have D69_26 : ∀ (v0 : Nat) (v1 : Int32) (v2 : Int32) (v3 : Int32) (v4 : Int32) (v5 : Int32) (v6 : Int32) (v7 : Int32) (τ : mx_S) (o : (Int32 × Int32 × mx_S) ⊕ ((Int32 × mx_S))), f_X4_findTrains_D69_26 P v0 v1 v2 v3 v4 v5 v6 v7 τ = some o → (∀ (y5 : Int32) (y7 : Int32) (υ : mx_S), o = .inl (y5, y7, υ) → ∀ (H : Heap) (locs : List Loc), mx_J G P s.heap (mxz σ) (mxu σ) υ H locs → ∀ ls : Array Slot, lv_has ls 9 [(0, .ref v0), (1, .int v1), (2, .int v2), (3, .int v3), (4, .int v4), (5, .int y5), (6, .int v6), (7, .int y7)] → W p l e (mx_rm P 2 53 σ) s m ([.ref a0, .int p1, .int p2, .int p3, .int p4] : List Value).toArray below meth c H locs (mxz υ - mxz σ) (mxu υ - mxu σ) (mx_Z below G P (some (.int r)) σ σ' [.ref a0, .int p1, .int p2, .int p3, .int p4] s) (F0 m 26 ls [])) → (∀ (y5 : Int32) (υ : mx_S), o = .inr (y5, υ) → ∀ (H : Heap) (locs : List Loc), mx_J G P s.heap (mxz σ) (mxu σ) υ H locs → ∀ ls : Array Slot, lv_has ls 9 [(0, .ref v0), (1, .int v1), (2, .int v2), (3, .int v3), (4, .int v4), (5, .int y5), (6, .int v6)] → W p l e (mx_rm P 2 53 σ) s m ([.ref a0, .int p1, .int p2, .int p3, .int p4] : List Value).toArray below meth c H locs (mxz υ - mxz σ) (mxu υ - mxu σ) (mx_Z below G P (some (.int r)) σ σ' [.ref a0, .int p1, .int p2, .int p3, .int p4] s) (F0 m 75 ls [])) → ∀ (H : Heap) (locs : List Loc), mx_J G P s.heap (mxz σ) (mxu σ) τ H locs → ∀ ls : Array Slot, lv_has ls 9 [(0, .ref v0), (1, .int v1), (2, .int v2), (3, .int v3), (4, .int v4), (5, .int v5), (6, .int v6), (7, .int v7)] → W p l e (mx_rm P 2 53 σ) s m ([.ref a0, .int p1, .int p2, .int p3, .int p4] : List Value).toArray below meth c H locs (mxz τ - mxz σ) (mxu τ - mxu σ) (mx_Z below G P (some (.int r)) σ σ' [.ref a0, .int p1, .int p2, .int p3, .int p4] s) (F0 m 69 ls []) := by
    intro v0 v1 v2 v3 v4 v5 v6 v7 τ o hf Kb Ke0 H locs hJ ls hl
    unfold f_X4_findTrains_D69_26 at hf
    obtain ⟨x11, e12, hf⟩ := mb0 hf
    refine lv_iinc (v := x11) (lv' := [(7, .int x11), (0, .ref v0), (1, .int v1), (2, .int v2), (3, .int v3), (4, .int v4), (5, .int v5), (6, .int v6)]) hx hb dX4_findTrains_69 hl (k := 7) rfl (by rw [← Option.some.inj e12]; rfl) (by decide) rfl (fun ls hl => ?_)
    refine lv_goto (tgt := 26) hx hb dX4_findTrains_72 (by decide) ?_
    exact Kb v5 x11 τ (Option.some.inj hf).symm _ _ hJ ls (lv_sub hl [1, 2, 3, 4, 5, 6, 7, 0] rfl)
  have B26 : ∀ (v0 : Nat) (v1 : Int32) (v2 : Int32) (v3 : Int32) (v4 : Int32) (v6 : Int32) (v5 : Int32) (v7 : Int32) (τ : mx_S) (o : (Int32 × Int32 × mx_S) ⊕ ((Int32 × mx_S))), f_X4_findTrains_B26 P v0 v1 v2 v3 v4 v6 v5 v7 τ = some o → (∀ (y5 : Int32) (y7 : Int32) (υ : mx_S), o = .inl (y5, y7, υ) → ∀ (H : Heap) (locs : List Loc), mx_J G P s.heap (mxz σ) (mxu σ) υ H locs → ∀ ls : Array Slot, lv_has ls 9 [(0, .ref v0), (1, .int v1), (2, .int v2), (3, .int v3), (4, .int v4), (5, .int y5), (6, .int v6), (7, .int y7)] → W p l e (mx_rm P 2 53 σ) s m ([.ref a0, .int p1, .int p2, .int p3, .int p4] : List Value).toArray below meth c H locs (mxz υ - mxz σ) (mxu υ - mxu σ) (mx_Z below G P (some (.int r)) σ σ' [.ref a0, .int p1, .int p2, .int p3, .int p4] s) (F0 m 26 ls [])) → (∀ (y5 : Int32) (υ : mx_S), o = .inr (y5, υ) → ∀ (H : Heap) (locs : List Loc), mx_J G P s.heap (mxz σ) (mxu σ) υ H locs → ∀ ls : Array Slot, lv_has ls 9 [(0, .ref v0), (1, .int v1), (2, .int v2), (3, .int v3), (4, .int v4), (5, .int y5), (6, .int v6)] → W p l e (mx_rm P 2 53 σ) s m ([.ref a0, .int p1, .int p2, .int p3, .int p4] : List Value).toArray below meth c H locs (mxz υ - mxz σ) (mxu υ - mxu σ) (mx_Z below G P (some (.int r)) σ σ' [.ref a0, .int p1, .int p2, .int p3, .int p4] s) (F0 m 75 ls [])) → ∀ (H : Heap) (locs : List Loc), mx_J G P s.heap (mxz σ) (mxu σ) τ H locs → ∀ ls : Array Slot, lv_has ls 9 [(0, .ref v0), (1, .int v1), (2, .int v2), (3, .int v3), (4, .int v4), (5, .int v5), (6, .int v6), (7, .int v7)] → W p l e (mx_rm P 2 53 σ) s m ([.ref a0, .int p1, .int p2, .int p3, .int p4] : List Value).toArray below meth c H locs (mxz τ - mxz σ) (mxu τ - mxu σ) (mx_Z below G P (some (.int r)) σ σ' [.ref a0, .int p1, .int p2, .int p3, .int p4] s) (F0 m 26 ls []) := by
    intro v0 v1 v2 v3 v4 v6 v5 v7 τ o hf Kb Ke0 H locs hJ ls hl
    unfold f_X4_findTrains_B26 at hf
    refine lv_iload hx hb dX4_findTrains_26 (lv_at hl 7 rfl) ?_
    refine lv_iload hx hb dX4_findTrains_28 (lv_at hl 4 rfl) ?_
    refine lv_icmp_gt (tgt := 75) hx hb dX4_findTrains_30 (by decide) (fun c5 => ?_) (fun c5 => ?_)
    · rw [if_pos c5] at hf
      exact Ke0 v5 τ (Option.some.inj hf).symm _ _ hJ ls (lv_sub hl [0, 1, 2, 3, 4, 5, 6] rfl)
    · rw [if_neg c5] at hf
      refine lv_iload hx hb dX4_findTrains_33 (lv_at hl 6 rfl) ?_
      refine lv_iload hx hb dX4_findTrains_35 (lv_at hl 7 rfl) ?_
      refine lv_imul hx hb dX4_findTrains_37 ?_
      refine lv_iload_n hx hb dX4_findTrains_38 rfl (lv_at hl 2 rfl) ?_
      refine lv_imul hx hb dX4_findTrains_39 ?_
      obtain ⟨x6, e7, hf⟩ := mb0 hf
      refine mx_nI e7 ?_
      refine lv_istore (lv' := [(8, .int x6), (0, .ref v0), (1, .int v1), (2, .int v2), (3, .int v3), (4, .int v4), (5, .int v5), (6, .int v6), (7, .int v7)]) hx hb dX4_findTrains_40 hl (by decide) rfl (fun ls hl => ?_)
      refine lv_iload hx hb dX4_findTrains_42 (lv_at hl 0 rfl) ?_
      refine lv_iload_n hx hb dX4_findTrains_44 rfl (lv_at hl 2 rfl) ?_
      obtain ⟨x8, e9, hf⟩ := mb0 hf
      refine lv_irem hx hb dX4_findTrains_45 (mm_Is e9).1 ?_
      refine mx_eI (mm_Is e9).2 ?_
      refine lv_if_ne (tgt := 69) hx hb dX4_findTrains_46 (by decide) (fun c10 => ?_) (fun c10 => ?_)
      · rw [if_neg c10] at hf
        exact D69_26 v0 v1 v2 v3 v4 v5 v6 v7 τ o hf Kb Ke0 _ _ hJ ls (lv_sub hl [1, 2, 3, 4, 5, 6, 7, 8] rfl)
      · rw [if_pos c10] at hf
        refine lv_iload hx hb dX4_findTrains_49 (lv_at hl 6 rfl) ?_
        refine lv_aload_n hx hb dX4_findTrains_51 rfl (lv_at hl 1 rfl) ?_
        refine lv_iload hx hb dX4_findTrains_52 (lv_at hl 7 rfl) ?_
        refine lv_iload hx hb dX4_findTrains_54 (lv_at hl 8 rfl) ?_
        refine lv_iload hx hb dX4_findTrains_56 (lv_at hl 0 rfl) ?_
        refine lv_iload_n hx hb dX4_findTrains_58 rfl (lv_at hl 2 rfl) ?_
        obtain ⟨x13, e14, hf⟩ := mb0 hf
        refine lv_idiv hx hb dX4_findTrains_59 (md_Is e14).1 ?_
        refine mx_eI (md_Is e14).2 ?_
        refine lv_iload_n hx hb dX4_findTrains_60 rfl (lv_at hl 4 rfl) ?_
        refine lv_iload hx hb dX4_findTrains_61 (lv_at hl 5 rfl) ?_
        obtain ⟨i15, e16, hf⟩ := mb0 hf
        obtain ⟨x18, σ17, e19, hf⟩ := mc0 hf
        refine mx_callV (As := [.int v6, .int v7, .int x13, .int v3, .int v4]) (rest := [.int v5]) hx hb hml hts hown hK hJ rfl rfl (ci := 4) rfl e16 (c_X4_findDrivers l G P v0 v6 v7 x13 v3 v4 τ x18 σ17 e19) me_X4_findDrivers kw_1527 ks_47 kw_1525 (Nat.le_of_ble_eq_true rfl) (Nat.le_of_ble_eq_true rfl) rfl hl.1 rfl (Nat.le_of_ble_eq_true rfl) dX4_findTrains_63 (fun H locs hJ => ?_)
        refine lv_iadd hx hb dX4_findTrains_66 ?_
        obtain ⟨x20, e21, hf⟩ := mb0 hf
        refine mx_nI e21 ?_
        refine lv_istore (lv' := [(5, .int x20), (8, .int x6), (0, .ref v0), (1, .int v1), (2, .int v2), (3, .int v3), (4, .int v4), (6, .int v6), (7, .int v7)]) hx hb dX4_findTrains_67 hl (by decide) rfl (fun ls hl => ?_)
        exact D69_26 v0 v1 v2 v3 v4 x20 v6 v7 σ17 o hf Kb Ke0 _ _ hJ ls (lv_sub hl [2, 3, 4, 5, 6, 0, 7, 8] rfl)
  have L26 : ∀ (v0 : Nat) (v1 : Int32) (v2 : Int32) (v3 : Int32) (v4 : Int32) (v6 : Int32) (n : Nat) (v5 : Int32) (v7 : Int32) (τ : mx_S) (o : (Int32 × mx_S)), mx_lp (f_X4_findTrains_L26 P v0 v1 v2 v3 v4 v6) n (v5, v7, τ) = some o → (∀ (y5 : Int32) (υ : mx_S), o = (y5, υ) → ∀ (H : Heap) (locs : List Loc), mx_J G P s.heap (mxz σ) (mxu σ) υ H locs → ∀ ls : Array Slot, lv_has ls 9 [(0, .ref v0), (1, .int v1), (2, .int v2), (3, .int v3), (4, .int v4), (5, .int y5), (6, .int v6)] → W p l e (mx_rm P 2 53 σ) s m ([.ref a0, .int p1, .int p2, .int p3, .int p4] : List Value).toArray below meth c H locs (mxz υ - mxz σ) (mxu υ - mxu σ) (mx_Z below G P (some (.int r)) σ σ' [.ref a0, .int p1, .int p2, .int p3, .int p4] s) (F0 m 75 ls [])) → ∀ (H : Heap) (locs : List Loc), mx_J G P s.heap (mxz σ) (mxu σ) τ H locs → ∀ ls : Array Slot, lv_has ls 9 [(0, .ref v0), (1, .int v1), (2, .int v2), (3, .int v3), (4, .int v4), (5, .int v5), (6, .int v6), (7, .int v7)] → W p l e (mx_rm P 2 53 σ) s m ([.ref a0, .int p1, .int p2, .int p3, .int p4] : List Value).toArray below meth c H locs (mxz τ - mxz σ) (mxu τ - mxu σ) (mx_Z below G P (some (.int r)) σ σ' [.ref a0, .int p1, .int p2, .int p3, .int p4] s) (F0 m 26 ls []) := by
    intro v0 v1 v2 v3 v4 v6 n
    induction n with
    | zero =>
      intro v5 v7 τ o hf
      rw [mx_lp0] at hf
      cases hf
    | succ n ih =>
      intro v5 v7 τ o hf Ke0 H locs hJ ls hl
      rw [mx_lpS] at hf
      obtain ⟨b, eb, hf⟩ := mb0 hf
      refine B26 v0 v1 v2 v3 v4 v6 v5 v7 τ b eb (fun y5 y7 υ ho H locs hJ ls hl => ?_) (fun y5 υ ho H locs hJ ls hl => ?_) H locs hJ ls hl
      · subst ho
        exact ih y5 y7 υ o hf Ke0 H locs hJ ls hl
      · subst ho
        exact Ke0 y5 υ (Option.some.inj hf).symm _ _ hJ ls hl
  have B11 : ∀ (v0 : Nat) (v1 : Int32) (v2 : Int32) (v3 : Int32) (v4 : Int32) (v5 : Int32) (v6 : Int32) (τ : mx_S) (o : (Int32 × Int32 × mx_S) ⊕ ((Int32 × mx_S))), f_X4_findTrains_B11 P v0 v1 v2 v3 v4 v5 v6 τ = some o → (∀ (y5 : Int32) (y6 : Int32) (υ : mx_S), o = .inl (y5, y6, υ) → ∀ (H : Heap) (locs : List Loc), mx_J G P s.heap (mxz σ) (mxu σ) υ H locs → ∀ ls : Array Slot, lv_has ls 9 [(0, .ref v0), (1, .int v1), (2, .int v2), (3, .int v3), (4, .int v4), (5, .int y5), (6, .int y6)] → W p l e (mx_rm P 2 53 σ) s m ([.ref a0, .int p1, .int p2, .int p3, .int p4] : List Value).toArray below meth c H locs (mxz υ - mxz σ) (mxu υ - mxu σ) (mx_Z below G P (some (.int r)) σ σ' [.ref a0, .int p1, .int p2, .int p3, .int p4] s) (F0 m 11 ls [])) → (∀ (y5 : Int32) (υ : mx_S), o = .inr (y5, υ) → ∀ (H : Heap) (locs : List Loc), mx_J G P s.heap (mxz σ) (mxu σ) υ H locs → ∀ ls : Array Slot, lv_has ls 9 [(5, .int y5)] → W p l e (mx_rm P 2 53 σ) s m ([.ref a0, .int p1, .int p2, .int p3, .int p4] : List Value).toArray below meth c H locs (mxz υ - mxz σ) (mxu υ - mxu σ) (mx_Z below G P (some (.int r)) σ σ' [.ref a0, .int p1, .int p2, .int p3, .int p4] s) (F0 m 81 ls [])) → ∀ (H : Heap) (locs : List Loc), mx_J G P s.heap (mxz σ) (mxu σ) τ H locs → ∀ ls : Array Slot, lv_has ls 9 [(0, .ref v0), (1, .int v1), (2, .int v2), (3, .int v3), (4, .int v4), (5, .int v5), (6, .int v6)] → W p l e (mx_rm P 2 53 σ) s m ([.ref a0, .int p1, .int p2, .int p3, .int p4] : List Value).toArray below meth c H locs (mxz τ - mxz σ) (mxu τ - mxu σ) (mx_Z below G P (some (.int r)) σ σ' [.ref a0, .int p1, .int p2, .int p3, .int p4] s) (F0 m 11 ls []) := by
    intro v0 v1 v2 v3 v4 v5 v6 τ o hf Kb Ke0 H locs hJ ls hl
    unfold f_X4_findTrains_B11 at hf
    refine lv_iload hx hb dX4_findTrains_11 (lv_at hl 6 rfl) ?_
    refine lv_iload hx hb dX4_findTrains_13 (lv_at hl 4 rfl) ?_
    refine lv_icmp_gt (tgt := 81) hx hb dX4_findTrains_15 (by decide) (fun c3 => ?_) (fun c3 => ?_)
    · rw [if_pos c3] at hf
      exact Ke0 v5 τ (Option.some.inj hf).symm _ _ hJ ls (lv_sub hl [5] rfl)
    · rw [if_neg c3] at hf
      refine lv_iload_n hx hb dX4_findTrains_18 rfl (lv_at hl 1 rfl) ?_
      refine lv_if_le (tgt := 81) hx hb dX4_findTrains_19 (by decide) (fun c4 => ?_) (fun c4 => ?_)
      · rw [if_pos c4] at hf
        exact Ke0 v5 τ (Option.some.inj hf).symm _ _ hJ ls (lv_sub hl [5] rfl)
      · rw [if_neg c4] at hf
        refine lv_iload hx hb dX4_findTrains_22 (lv_at hl 6 rfl) ?_
        refine lv_istore (lv' := [(7, .int v6), (0, .ref v0), (1, .int v1), (2, .int v2), (3, .int v3), (4, .int v4), (5, .int v5), (6, .int v6)]) hx hb dX4_findTrains_24 hl (by decide) rfl (fun ls hl => ?_)
        obtain ⟨o22, e23, hf⟩ := mb0 hf
        refine L26 v0 v1 v2 v3 v4 v6 (mpN P) v5 v6 τ o22 e23 (fun y24 σ25 ho H locs hJ ls hl => ?_) _ _ hJ ls (lv_sub hl [1, 2, 3, 4, 5, 6, 7, 0] rfl)
        · rw [ho] at hf
          have hf : ((some (v6 + (1 : Int32))).bind fun x26 => some (.inl (y24, x26, σ25))) = some o := hf
          obtain ⟨x26, e27, hf⟩ := mb0 hf
          refine lv_iinc (v := x26) (lv' := [(6, .int x26), (0, .ref v0), (1, .int v1), (2, .int v2), (3, .int v3), (4, .int v4), (5, .int y24)]) hx hb dX4_findTrains_75 hl (k := 6) rfl (by rw [← Option.some.inj e27]; rfl) (by decide) rfl (fun ls hl => ?_)
          refine lv_goto (tgt := 11) hx hb dX4_findTrains_78 (by decide) ?_
          exact Kb y24 x26 σ25 (Option.some.inj hf).symm _ _ hJ ls (lv_sub hl [1, 2, 3, 4, 5, 6, 0] rfl)
  have L11 : ∀ (v0 : Nat) (v1 : Int32) (v2 : Int32) (v3 : Int32) (v4 : Int32) (n : Nat) (v5 : Int32) (v6 : Int32) (τ : mx_S) (o : (Int32 × mx_S)), mx_lp (f_X4_findTrains_L11 P v0 v1 v2 v3 v4) n (v5, v6, τ) = some o → (∀ (y5 : Int32) (υ : mx_S), o = (y5, υ) → ∀ (H : Heap) (locs : List Loc), mx_J G P s.heap (mxz σ) (mxu σ) υ H locs → ∀ ls : Array Slot, lv_has ls 9 [(5, .int y5)] → W p l e (mx_rm P 2 53 σ) s m ([.ref a0, .int p1, .int p2, .int p3, .int p4] : List Value).toArray below meth c H locs (mxz υ - mxz σ) (mxu υ - mxu σ) (mx_Z below G P (some (.int r)) σ σ' [.ref a0, .int p1, .int p2, .int p3, .int p4] s) (F0 m 81 ls [])) → ∀ (H : Heap) (locs : List Loc), mx_J G P s.heap (mxz σ) (mxu σ) τ H locs → ∀ ls : Array Slot, lv_has ls 9 [(0, .ref v0), (1, .int v1), (2, .int v2), (3, .int v3), (4, .int v4), (5, .int v5), (6, .int v6)] → W p l e (mx_rm P 2 53 σ) s m ([.ref a0, .int p1, .int p2, .int p3, .int p4] : List Value).toArray below meth c H locs (mxz τ - mxz σ) (mxu τ - mxu σ) (mx_Z below G P (some (.int r)) σ σ' [.ref a0, .int p1, .int p2, .int p3, .int p4] s) (F0 m 11 ls []) := by
    intro v0 v1 v2 v3 v4 n
    induction n with
    | zero =>
      intro v5 v6 τ o hf
      rw [mx_lp0] at hf
      cases hf
    | succ n ih =>
      intro v5 v6 τ o hf Ke0 H locs hJ ls hl
      rw [mx_lpS] at hf
      obtain ⟨b, eb, hf⟩ := mb0 hf
      refine B11 v0 v1 v2 v3 v4 v5 v6 τ b eb (fun y5 y6 υ ho H locs hJ ls hl => ?_) (fun y5 υ ho H locs hJ ls hl => ?_) H locs hJ ls hl
      · subst ho
        exact ih y5 y6 υ o hf Ke0 H locs hJ ls hl
      · subst ho
        exact Ke0 y5 υ (Option.some.inj hf).symm _ _ hJ ls hl
  have D81 : ∀ (v5 : Int32) (τ : mx_S), f_X4_findTrains_D81 P v5 τ = some (r, σ') → ∀ (H : Heap) (locs : List Loc), mx_J G P s.heap (mxz σ) (mxu σ) τ H locs → ∀ ls : Array Slot, lv_has ls 9 [(5, .int v5)] → W p l e (mx_rm P 2 53 σ) s m ([.ref a0, .int p1, .int p2, .int p3, .int p4] : List Value).toArray below meth c H locs (mxz τ - mxz σ) (mxu τ - mxu σ) (mx_Z below G P (some (.int r)) σ σ' [.ref a0, .int p1, .int p2, .int p3, .int p4] s) (F0 m 81 ls []) := by
    intro v5 τ hf _ _ hJ ls hl
    unfold f_X4_findTrains_D81 at hf
    refine lv_iload hx hb dX4_findTrains_81 (lv_at hl 0 rfl) ?_
    exact my_iret hx hb hr hlocks hJ hf dX4_findTrains_83
  unfold f_X4_findTrains at hf
  refine lv_iconst (v := 0) hx hb dX4_findTrains_0 (by decide) ?_
  refine lv_istore (lv' := [(5, .int (0 : Int32)), (0, .ref a0), (1, .int p1), (2, .int p2), (3, .int p3), (4, .int p4)]) hx hb dX4_findTrains_1 hl (by decide) rfl (fun ls hl => ?_)
  refine lv_aload_n hx hb dX4_findTrains_3 rfl (lv_at hl 1 rfl) ?_
  refine lv_iconst (v := 0) hx hb dX4_findTrains_4 (by decide) ?_
  obtain ⟨σ1, e2, hf⟩ := mb0 hf
  refine my_pI hx hb hts hown hK hJ fd_RX4_167 cd_4 (Or.inl rfl) ht_4_2 e2 dX4_findTrains_5 (fun H locs hJ => ?_)
  refine lv_iload_n hx hb dX4_findTrains_8 rfl (lv_at hl 4 rfl) ?_
  refine lv_istore (lv' := [(6, .int p3), (5, .int (0 : Int32)), (0, .ref a0), (1, .int p1), (2, .int p2), (3, .int p3), (4, .int p4)]) hx hb dX4_findTrains_9 hl (by decide) rfl (fun ls hl => ?_)
  obtain ⟨o28, e29, hf⟩ := mb0 hf
  refine L11 a0 p1 p2 p3 p4 (mpN P) (0 : Int32) p3 σ1 o28 e29 (fun y30 σ31 ho H locs hJ ls hl => ?_) _ _ hJ ls (lv_sub hl [2, 3, 4, 5, 6, 1, 0] rfl)
  · rw [ho] at hf
    have hf : (f_X4_findTrains_D81 P y30 σ31) = some (r, σ') := hf
    exact D81 y30 σ31 hf _ _ hJ ls (lv_sub hl [0] rfl)
set_option maxHeartbeats 4000000 in
set_option maxRecDepth 100000 in
theorem c_X8_init (l : Launch) (G : mx_G) (P : mx_P) (a0 : Nat) (σ : mx_S) (σ' : mx_S) (hf : f_X8_init P a0 σ = some σ') : mxz σ ≤ mpc P → mxu σ ≤ mps P → mx_M l yX8_init cX8_init 1 none 2 32 G P [.ref a0] σ none σ' := by
  intro hcap hcau
  refine mx_ofW (by decide +kernel) hcap hcau (Nat.le_of_ble_eq_true rfl) ?_
  intro p e s m below meth c hx hb hr hml hts hown hlocks hname hK hJ ls hl
  have hz0 := hJ.2.1
  have hown : s.vm.findClass RX8 = some m.cls := hown
  have hl : lv_has ls 1 [(0, .ref a0)] := hl
  unfold f_X8_init at hf
  refine lv_aload_n hx hb dX8_init_0 rfl (lv_at hl 0 rfl) ?_
  refine W.objInit hx hb hown (hts _ kw_373) (hts _ kw_35) (hts _ kw_36) rfl (by rw [hml]; exact hl.1) rfl dX8_init_1 (Nat.le_of_ble_eq_true rfl) (Nat.le_of_ble_eq_true rfl) ?_
  refine W.eq (g2 := F0 m 4 ls []) rfl ?_
  refine lv_aload_n hx hb dX8_init_4 rfl (lv_at hl 0 rfl) ?_
  obtain ⟨b1, σ2, e3, hf⟩ := mc0 hf
  refine mx_nO hx hb hts wi_0 cd_0.1 hown hK hJ rfl rfl (ci := 0) rfl e3 kw_374 kw_347 kw_10 df_0 dX8_init_5 (fun H locs hJ => ?_)
  refine lv_dup hx hb dX8_init_8 rfl ?_
  obtain ⟨σ4, e5, hf⟩ := mb0 hf
  refine mx_callI (As := []) (rest := [.ref b1, .ref a0]) hx hb hml hts hown hK hJ rfl rfl (c_X0_init l G P b1 σ2 σ4 e5) me_X0_init kw_349 rfl kw_375 (Nat.le_of_ble_eq_true rfl) (Nat.le_of_ble_eq_true rfl) rfl hl.1 rfl (Nat.le_of_ble_eq_true rfl) dX8_init_9 (fun H locs hJ => ?_)
  obtain ⟨σ6, e7, hf⟩ := mb0 hf
  refine my_pR hx hb hts hown hK hJ fd_RX8_10 cd_8 (Or.inr ⟨rfl, hname, rfl⟩) ft_8_0 e7 dX8_init_12 (fun H locs hJ => ?_)
  refine lv_aload_n hx hb dX8_init_15 rfl (lv_at hl 0 rfl) ?_
  obtain ⟨b8, σ9, e10, hf⟩ := mc0 hf
  refine mx_nO hx hb hts wi_0 cd_0.1 hown hK hJ rfl rfl (ci := 0) rfl e10 kw_374 kw_347 kw_10 df_0 dX8_init_16 (fun H locs hJ => ?_)
  refine lv_dup hx hb dX8_init_19 rfl ?_
  obtain ⟨σ11, e12, hf⟩ := mb0 hf
  refine mx_callI (As := []) (rest := [.ref b8, .ref a0]) hx hb hml hts hown hK hJ rfl rfl (c_X0_init l G P b8 σ9 σ11 e12) me_X0_init kw_349 rfl kw_375 (Nat.le_of_ble_eq_true rfl) (Nat.le_of_ble_eq_true rfl) rfl hl.1 rfl (Nat.le_of_ble_eq_true rfl) dX8_init_20 (fun H locs hJ => ?_)
  obtain ⟨σ13, e14, hf⟩ := mb0 hf
  refine my_pR hx hb hts hown hK hJ fd_RX8_16 cd_8 (Or.inr ⟨rfl, hname, rfl⟩) ft_8_1 e14 dX8_init_23 (fun H locs hJ => ?_)
  exact my_vret hx hb hr hlocks hJ hf dX8_init_26
set_option maxHeartbeats 4000000 in
set_option maxRecDepth 100000 in
theorem c_X5_init (l : Launch) (G : mx_G) (P : mx_P) (a0 : Nat) (σ : mx_S) (σ' : mx_S) (hf : f_X5_init P a0 σ = some σ') : mxz σ ≤ mpc P → mxu σ ≤ mps P → mx_M l yX5_init cX5_init 1 none 3 52 G P [.ref a0] σ none σ' := by
  intro hcap hcau
  refine mx_ofW (by decide +kernel) hcap hcau (Nat.le_of_ble_eq_true rfl) ?_
  intro p e s m below meth c hx hb hr hml hts hown hlocks hname hK hJ ls hl
  have hz0 := hJ.2.1
  have hown : s.vm.findClass RX5 = some m.cls := hown
  have hl : lv_has ls 1 [(0, .ref a0)] := hl
  unfold f_X5_init at hf
  refine lv_aload_n hx hb dX5_init_0 rfl (lv_at hl 0 rfl) ?_
  refine W.objInit hx hb hown (hts _ kw_345) (hts _ kw_35) (hts _ kw_36) rfl (by rw [hml]; exact hl.1) rfl dX5_init_1 (Nat.le_of_ble_eq_true rfl) (Nat.le_of_ble_eq_true rfl) ?_
  refine W.eq (g2 := F0 m 4 ls []) rfl ?_
  refine lv_aload_n hx hb dX5_init_4 rfl (lv_at hl 0 rfl) ?_
  refine lv_iconst (v := 4) hx hb dX5_init_5 (by decide) ?_
  obtain ⟨b1, σ2, e3, hf⟩ := mc0 hf
  refine mx_nA hx hb hts hK hJ rfl rfl (t := 0) (by decide) rfl (fun _ h => h) (by decide) rfl e3 kw_137 dX5_init_6 (fun H locs hJ => ?_)
  obtain ⟨σ4, e5, hf⟩ := mb0 hf
  refine my_pR hx hb hts hown hK hJ fd_RX5_7 cd_5 (Or.inr ⟨rfl, hname, rfl⟩) ft_5_2 e5 dX5_init_8 (fun H locs hJ => ?_)
  refine lv_aload_n hx hb dX5_init_11 rfl (lv_at hl 0 rfl) ?_
  obtain ⟨b6, σ7, e8, hf⟩ := mc0 hf
  refine mx_nO hx hb hts wi_0 cd_0.1 hown hK hJ rfl rfl (ci := 0) rfl e8 kw_346 kw_347 kw_10 df_0 dX5_init_12 (fun H locs hJ => ?_)
  refine lv_dup hx hb dX5_init_15 rfl ?_
  obtain ⟨σ9, e10, hf⟩ := mb0 hf
  refine mx_callI (As := []) (rest := [.ref b6, .ref a0]) hx hb hml hts hown hK hJ rfl rfl (c_X0_init l G P b6 σ7 σ9 e10) me_X0_init kw_349 rfl kw_348 (Nat.le_of_ble_eq_true rfl) (Nat.le_of_ble_eq_true rfl) rfl hl.1 rfl (Nat.le_of_ble_eq_true rfl) dX5_init_16 (fun H locs hJ => ?_)
  obtain ⟨σ11, e12, hf⟩ := mb0 hf
  refine my_pR hx hb hts hown hK hJ fd_RX5_16 cd_5 (Or.inr ⟨rfl, hname, rfl⟩) ft_5_9 e12 dX5_init_19 (fun H locs hJ => ?_)
  refine lv_aload_n hx hb dX5_init_22 rfl (lv_at hl 0 rfl) ?_
  obtain ⟨b13, σ14, e15, hf⟩ := mc0 hf
  refine mx_nO hx hb hts wi_0 cd_0.1 hown hK hJ rfl rfl (ci := 0) rfl e15 kw_346 kw_347 kw_10 df_0 dX5_init_23 (fun H locs hJ => ?_)
  refine lv_dup hx hb dX5_init_26 rfl ?_
  obtain ⟨σ16, e17, hf⟩ := mb0 hf
  refine mx_callI (As := []) (rest := [.ref b13, .ref a0]) hx hb hml hts hown hK hJ rfl rfl (c_X0_init l G P b13 σ14 σ16 e17) me_X0_init kw_349 rfl kw_348 (Nat.le_of_ble_eq_true rfl) (Nat.le_of_ble_eq_true rfl) rfl hl.1 rfl (Nat.le_of_ble_eq_true rfl) dX5_init_27 (fun H locs hJ => ?_)
  obtain ⟨σ18, e19, hf⟩ := mb0 hf
  refine my_pR hx hb hts hown hK hJ fd_RX5_20 cd_5 (Or.inr ⟨rfl, hname, rfl⟩) ft_5_10 e19 dX5_init_30 (fun H locs hJ => ?_)
  refine lv_aload_n hx hb dX5_init_33 rfl (lv_at hl 0 rfl) ?_
  obtain ⟨b20, σ21, e22, hf⟩ := mc0 hf
  refine mx_nO hx hb hts wi_8 cd_8.1 hown hK hJ rfl rfl (ci := 8) rfl e22 kw_368 kw_369 kw_11 df_8 dX5_init_34 (fun H locs hJ => ?_)
  refine lv_dup hx hb dX5_init_37 rfl ?_
  obtain ⟨σ23, e24, hf⟩ := mb0 hf
  refine mx_callI (As := []) (rest := [.ref b20, .ref a0]) hx hb hml hts hown hK hJ rfl rfl (c_X8_init l G P b20 σ21 σ23 e24) me_X8_init kw_371 rfl kw_370 (Nat.le_of_ble_eq_true rfl) (Nat.le_of_ble_eq_true rfl) rfl hl.1 rfl (Nat.le_of_ble_eq_true rfl) dX5_init_38 (fun H locs hJ => ?_)
  obtain ⟨σ25, e26, hf⟩ := mb0 hf
  refine my_pR hx hb hts hown hK hJ fd_RX5_26 cd_5 (Or.inr ⟨rfl, hname, rfl⟩) ft_5_11 e26 dX5_init_41 (fun H locs hJ => ?_)
  refine lv_aload_n hx hb dX5_init_44 rfl (lv_at hl 0 rfl) ?_
  obtain ⟨b27, σ28, e29, hf⟩ := mc0 hf
  refine mx_nO hx hb hts wi_8 cd_8.1 hown hK hJ rfl rfl (ci := 8) rfl e29 kw_368 kw_369 kw_11 df_8 dX5_init_45 (fun H locs hJ => ?_)
  refine lv_dup hx hb dX5_init_48 rfl ?_
  obtain ⟨σ30, e31, hf⟩ := mb0 hf
  refine mx_callI (As := []) (rest := [.ref b27, .ref a0]) hx hb hml hts hown hK hJ rfl rfl (c_X8_init l G P b27 σ28 σ30 e31) me_X8_init kw_371 rfl kw_370 (Nat.le_of_ble_eq_true rfl) (Nat.le_of_ble_eq_true rfl) rfl hl.1 rfl (Nat.le_of_ble_eq_true rfl) dX5_init_49 (fun H locs hJ => ?_)
  obtain ⟨σ32, e33, hf⟩ := mb0 hf
  refine my_pR hx hb hts hown hK hJ fd_RX5_30 cd_5 (Or.inr ⟨rfl, hname, rfl⟩) ft_5_12 e33 dX5_init_52 (fun H locs hJ => ?_)
  refine lv_aload_n hx hb dX5_init_55 rfl (lv_at hl 0 rfl) ?_
  obtain ⟨b34, σ35, e36, hf⟩ := mc0 hf
  refine mx_nO hx hb hts wi_8 cd_8.1 hown hK hJ rfl rfl (ci := 8) rfl e36 kw_368 kw_369 kw_11 df_8 dX5_init_56 (fun H locs hJ => ?_)
  refine lv_dup hx hb dX5_init_59 rfl ?_
  obtain ⟨σ37, e38, hf⟩ := mb0 hf
  refine mx_callI (As := []) (rest := [.ref b34, .ref a0]) hx hb hml hts hown hK hJ rfl rfl (c_X8_init l G P b34 σ35 σ37 e38) me_X8_init kw_371 rfl kw_370 (Nat.le_of_ble_eq_true rfl) (Nat.le_of_ble_eq_true rfl) rfl hl.1 rfl (Nat.le_of_ble_eq_true rfl) dX5_init_60 (fun H locs hJ => ?_)
  obtain ⟨σ39, e40, hf⟩ := mb0 hf
  refine my_pR hx hb hts hown hK hJ fd_RX5_33 cd_5 (Or.inr ⟨rfl, hname, rfl⟩) ft_5_13 e40 dX5_init_63 (fun H locs hJ => ?_)
  refine lv_aload_n hx hb dX5_init_66 rfl (lv_at hl 0 rfl) ?_
  obtain ⟨b41, σ42, e43, hf⟩ := mc0 hf
  refine mx_nO hx hb hts wi_8 cd_8.1 hown hK hJ rfl rfl (ci := 8) rfl e43 kw_368 kw_369 kw_11 df_8 dX5_init_67 (fun H locs hJ => ?_)
  refine lv_dup hx hb dX5_init_70 rfl ?_
  obtain ⟨σ44, e45, hf⟩ := mb0 hf
  refine mx_callI (As := []) (rest := [.ref b41, .ref a0]) hx hb hml hts hown hK hJ rfl rfl (c_X8_init l G P b41 σ42 σ44 e45) me_X8_init kw_371 rfl kw_370 (Nat.le_of_ble_eq_true rfl) (Nat.le_of_ble_eq_true rfl) rfl hl.1 rfl (Nat.le_of_ble_eq_true rfl) dX5_init_71 (fun H locs hJ => ?_)
  obtain ⟨σ46, e47, hf⟩ := mb0 hf
  refine my_pR hx hb hts hown hK hJ fd_RX5_36 cd_5 (Or.inr ⟨rfl, hname, rfl⟩) ft_5_14 e47 dX5_init_74 (fun H locs hJ => ?_)
  exact my_vret hx hb hr hlocks hJ hf dX5_init_77
set_option maxHeartbeats 4000000 in
set_option maxRecDepth 100000 in
theorem c_X5_takeNumber (l : Launch) (G : mx_G) (P : mx_P) (a0 : Nat) (a1 : Nat) (p2 : Int64) (p4 : Int64) (σ : mx_S) (σ' : mx_S) (hf : f_X5_takeNumber P a0 a1 p2 p4 σ = some σ') : mxz σ ≤ mpc P → mxu σ ≤ mps P → mx_M l yX5_takeNumber cX5_takeNumber 6 none 2 49 G P [.ref a0, .ref a1, .long p2, .long p4] σ none σ' := by
  intro hcap hcau
  refine mx_ofW (by decide +kernel) hcap hcau (Nat.le_of_ble_eq_true rfl) ?_
  intro p e s m below meth c hx hb hr hml hts hown hlocks hname hK hJ ls hl
  have hz0 := hJ.2.1
  have hown : s.vm.findClass RX5 = some m.cls := hown
  have hl : lv_has ls 6 [(0, .ref a0), (1, .ref a1), (2, .long p2), (4, .long p4)] := hl
  have D38 : ∀  (τ : mx_S), f_X5_takeNumber_D38 P  τ = some σ' → ∀ (H : Heap) (locs : List Loc), mx_J G P s.heap (mxz σ) (mxu σ) τ H locs → ∀ ls : Array Slot, lv_has ls 6 [] → W p l e (mx_rm P 2 49 σ) s m ([.ref a0, .ref a1, .long p2, .long p4] : List Value).toArray below meth c H locs (mxz τ - mxz σ) (mxu τ - mxu σ) (mx_Z below G P none σ σ' [.ref a0, .ref a1, .long p2, .long p4] s) (F0 m 38 ls []) := by
    intro  τ hf _ _ hJ ls hl
    unfold f_X5_takeNumber_D38 at hf
    exact my_vret hx hb hr hlocks hJ hf dX5_takeNumber_38
  have D16 : ∀ (v1 : Nat) (v2 : Int64) (v4 : Int64) (τ : mx_S), f_X5_takeNumber_D16 P v1 v2 v4 τ = some σ' → ∀ (H : Heap) (locs : List Loc), mx_J G P s.heap (mxz σ) (mxu σ) τ H locs → ∀ ls : Array Slot, lv_has ls 6 [(1, .ref v1), (2, .long v2), (4, .long v4)] → W p l e (mx_rm P 2 49 σ) s m ([.ref a0, .ref a1, .long p2, .long p4] : List Value).toArray below meth c H locs (mxz τ - mxz σ) (mxu τ - mxu σ) (mx_Z below G P none σ σ' [.ref a0, .ref a1, .long p2, .long p4] s) (F0 m 16 ls []) := by
    intro v1 v2 v4 τ hf _ _ hJ ls hl
    unfold f_X5_takeNumber_D16 at hf
    refine lv_aload_n hx hb dX5_takeNumber_16 rfl (lv_at hl 0 rfl) ?_
    refine lv_lload_n hx hb dX5_takeNumber_17 rfl (lv_at hl 1 rfl) ?_
    refine lv_lload_n hx hb dX5_takeNumber_18 rfl (lv_at hl 1 rfl) ?_
    refine lv_lmul hx hb dX5_takeNumber_19 ?_
    refine lv_lload hx hb dX5_takeNumber_20 (lv_at hl 2 rfl) ?_
    refine lv_lload hx hb dX5_takeNumber_22 (lv_at hl 2 rfl) ?_
    refine lv_lmul hx hb dX5_takeNumber_24 ?_
    obtain ⟨i4, e5, hf⟩ := mb0 hf
    obtain ⟨σ6, e7, hf⟩ := mb0 hf
    refine mx_callV (As := [.long (v2 * v2), .long (v4 * v4)]) (rest := []) hx hb hml hts hown hK hJ rfl rfl (ci := 0) rfl e5 (c_X0_fraction l G P v1 (v2 * v2) (v4 * v4) τ σ6 e7) me_X0_fraction kw_1044 kw_1045 kw_1185 (Nat.le_of_ble_eq_true rfl) (Nat.le_of_ble_eq_true rfl) rfl hl.1 rfl (Nat.le_of_ble_eq_true rfl) dX5_takeNumber_25 (fun H locs hJ => ?_)
    refine lv_goto (tgt := 38) hx hb dX5_takeNumber_28 (by decide) ?_
    exact D38  σ6 hf _ _ hJ ls (lv_sub hl [] rfl)
  unfold f_X5_takeNumber at hf
  refine lv_aload_n hx hb dX5_takeNumber_0 rfl (lv_at hl 0 rfl) ?_
  obtain ⟨x1, e2, hf⟩ := mb0 hf
  refine my_gI hx hb hts hown hK hJ fd_RX5_53 hv_5_1 e2 dX5_takeNumber_1 ?_
  refine lv_iconst (v := 2) hx hb dX5_takeNumber_4 (by decide) ?_
  refine lv_icmp_eq (tgt := 16) hx hb dX5_takeNumber_5 (by decide) (fun c3 => ?_) (fun c3 => ?_)
  · rw [if_pos c3] at hf
    exact D16 a1 p2 p4 σ hf _ _ hJ ls (lv_sub hl [1, 2, 3] rfl)
  · rw [if_neg c3] at hf
    refine lv_aload_n hx hb dX5_takeNumber_8 rfl (lv_at hl 0 rfl) ?_
    obtain ⟨x8, e9, hf⟩ := mb0 hf
    refine my_gI hx hb hts hown hK hJ fd_RX5_53 hv_5_1 e9 dX5_takeNumber_9 ?_
    refine lv_iconst (v := 3) hx hb dX5_takeNumber_12 (by decide) ?_
    refine lv_icmp_ne (tgt := 31) hx hb dX5_takeNumber_13 (by decide) (fun c10 => ?_) (fun c10 => ?_)
    · rw [if_neg c10] at hf
      refine lv_aload_n hx hb dX5_takeNumber_31 rfl (lv_at hl 1 rfl) ?_
      refine lv_lload_n hx hb dX5_takeNumber_32 rfl (lv_at hl 2 rfl) ?_
      refine lv_lload hx hb dX5_takeNumber_33 (lv_at hl 3 rfl) ?_
      obtain ⟨i11, e12, hf⟩ := mb0 hf
      obtain ⟨σ13, e14, hf⟩ := mb0 hf
      refine mx_callV (As := [.long p2, .long p4]) (rest := []) hx hb hml hts hown hK hJ rfl rfl (ci := 0) rfl e12 (c_X0_fraction l G P a1 p2 p4 σ σ13 e14) me_X0_fraction kw_1044 kw_1045 kw_1185 (Nat.le_of_ble_eq_true rfl) (Nat.le_of_ble_eq_true rfl) rfl hl.1 rfl (Nat.le_of_ble_eq_true rfl) dX5_takeNumber_35 (fun H locs hJ => ?_)
      exact D38  σ13 hf _ _ hJ ls (lv_sub hl [] rfl)
    · rw [if_pos c10] at hf
      exact D16 a1 p2 p4 σ hf _ _ hJ ls (lv_sub hl [1, 2, 3] rfl)
set_option maxHeartbeats 4000000 in
set_option maxRecDepth 100000 in
theorem c_X10_tellerOf (l : Launch) (G : mx_G) (P : mx_P) (a0 : Nat) (p1 : Int64) (σ : mx_S) (r : Int32) (σ' : mx_S) (hf : f_X10_tellerOf P a0 p1 σ = some (r, σ')) : mxz σ ≤ mpc P → mxu σ ≤ mps P → mx_M l yX10_tellerOf cX10_tellerOf 4 (some .int) 0 0 G P [.ref a0, .long p1] σ (some (.int r)) σ' := by
  intro hcap hcau
  refine mx_ofW (by decide +kernel) hcap hcau (Nat.le_of_ble_eq_true rfl) ?_
  intro p e s m below meth c hx hb hr hml hts hown hlocks hname hK hJ ls hl
  have hz0 := hJ.2.1
  have hown : s.vm.findClass RX10 = some m.cls := hown
  have hl : lv_has ls 4 [(0, .ref a0), (1, .long p1)] := hl
  have B2 : ∀ (v0 : Nat) (v1 : Int64) (v3 : Int32) (τ : mx_S) (o : (Int32 × mx_S) ⊕ ((Int32 × mx_S) ⊕ (mx_S))), f_X10_tellerOf_B2 P v0 v1 v3 τ = some o → (∀ (y3 : Int32) (υ : mx_S), o = .inl (y3, υ) → ∀ (H : Heap) (locs : List Loc), mx_J G P s.heap (mxz σ) (mxu σ) υ H locs → ∀ ls : Array Slot, lv_has ls 4 [(0, .ref v0), (1, .long v1), (3, .int y3)] → W p l e (mx_rm P 0 0 σ) s m ([.ref a0, .long p1] : List Value).toArray below meth c H locs (mxz υ - mxz σ) (mxu υ - mxu σ) (mx_Z below G P (some (.int r)) σ σ' [.ref a0, .long p1] s) (F0 m 2 ls [])) → (∀ (y3 : Int32) (υ : mx_S), o = .inr (.inl (y3, υ)) → ∀ (H : Heap) (locs : List Loc), mx_J G P s.heap (mxz σ) (mxu σ) υ H locs → ∀ ls : Array Slot, lv_has ls 4 [(3, .int y3)] → W p l e (mx_rm P 0 0 σ) s m ([.ref a0, .long p1] : List Value).toArray below meth c H locs (mxz υ - mxz σ) (mxu υ - mxu σ) (mx_Z below G P (some (.int r)) σ σ' [.ref a0, .long p1] s) (F0 m 21 ls [])) → (∀  (υ : mx_S), o = .inr (.inr υ) → ∀ (H : Heap) (locs : List Loc), mx_J G P s.heap (mxz σ) (mxu σ) υ H locs → ∀ ls : Array Slot, lv_has ls 4 [] → W p l e (mx_rm P 0 0 σ) s m ([.ref a0, .long p1] : List Value).toArray below meth c H locs (mxz υ - mxz σ) (mxu υ - mxu σ) (mx_Z below G P (some (.int r)) σ σ' [.ref a0, .long p1] s) (F0 m 29 ls [])) → ∀ (H : Heap) (locs : List Loc), mx_J G P s.heap (mxz σ) (mxu σ) τ H locs → ∀ ls : Array Slot, lv_has ls 4 [(0, .ref v0), (1, .long v1), (3, .int v3)] → W p l e (mx_rm P 0 0 σ) s m ([.ref a0, .long p1] : List Value).toArray below meth c H locs (mxz τ - mxz σ) (mxu τ - mxu σ) (mx_Z below G P (some (.int r)) σ σ' [.ref a0, .long p1] s) (F0 m 2 ls []) := by
    intro v0 v1 v3 τ o hf Kb Ke0 Ke1 H locs hJ ls hl
    unfold f_X10_tellerOf_B2 at hf
    refine lv_iload_n hx hb dX10_tellerOf_2 rfl (lv_at hl 2 rfl) ?_
    refine lv_aload_n hx hb dX10_tellerOf_3 rfl (lv_at hl 0 rfl) ?_
    obtain ⟨x1, e2, hf⟩ := mb0 hf
    refine my_gI hx hb hts hown hK hJ fd_RX10_57 hv_10_19 e2 dX10_tellerOf_4 ?_
    refine lv_icmp_ge (tgt := 29) hx hb dX10_tellerOf_7 (by decide) (fun c3 => ?_) (fun c3 => ?_)
    · rw [if_pos c3] at hf
      exact Ke1 τ (Option.some.inj hf).symm _ _ hJ ls (lv_sub hl [] rfl)
    · rw [if_neg c3] at hf
      refine lv_aload_n hx hb dX10_tellerOf_10 rfl (lv_at hl 0 rfl) ?_
      obtain ⟨b4, e5, hf⟩ := mb0 hf
      refine my_gR hx hb hts hown hK hJ fd_RX10_30 hv_10_18 e5 dX10_tellerOf_11 ?_
      refine lv_iload_n hx hb dX10_tellerOf_14 rfl (lv_at hl 2 rfl) ?_
      obtain ⟨x6, e7, hf⟩ := mb0 hf
      refine mx_aL hx hb hK hJ e7 dX10_tellerOf_15 ?_
      refine lv_lload_n hx hb dX10_tellerOf_16 rfl (lv_at hl 1 rfl) ?_
      refine W.lcmp hx hb dX10_tellerOf_17 ?_
      refine lv_if_ne (tgt := 23) hx hb dX10_tellerOf_18 (by decide) (fun c8 => ?_) (fun c8 => ?_)
      · rw [if_neg c8] at hf
        obtain ⟨x9, e10, hf⟩ := mb0 hf
        refine lv_iinc (v := x9) (lv' := [(3, .int x9), (0, .ref v0), (1, .long v1)]) hx hb dX10_tellerOf_23 hl (k := 2) rfl (by rw [← Option.some.inj e10]; rfl) (by decide) rfl (fun ls hl => ?_)
        refine lv_goto (tgt := 2) hx hb dX10_tellerOf_26 (by decide) ?_
        exact Kb x9 τ (Option.some.inj hf).symm _ _ hJ ls (lv_sub hl [1, 2, 0] rfl)
      · rw [if_pos c8] at hf
        exact Ke0 v3 τ (Option.some.inj hf).symm _ _ hJ ls (lv_sub hl [2] rfl)
  have L2 : ∀ (v0 : Nat) (v1 : Int64) (n : Nat) (v3 : Int32) (τ : mx_S) (o : (Int32 × mx_S) ⊕ (mx_S)), mx_lp (f_X10_tellerOf_L2 P v0 v1) n (v3, τ) = some o → (∀ (y3 : Int32) (υ : mx_S), o = (.inl (y3, υ)) → ∀ (H : Heap) (locs : List Loc), mx_J G P s.heap (mxz σ) (mxu σ) υ H locs → ∀ ls : Array Slot, lv_has ls 4 [(3, .int y3)] → W p l e (mx_rm P 0 0 σ) s m ([.ref a0, .long p1] : List Value).toArray below meth c H locs (mxz υ - mxz σ) (mxu υ - mxu σ) (mx_Z below G P (some (.int r)) σ σ' [.ref a0, .long p1] s) (F0 m 21 ls [])) → (∀  (υ : mx_S), o = (.inr υ) → ∀ (H : Heap) (locs : List Loc), mx_J G P s.heap (mxz σ) (mxu σ) υ H locs → ∀ ls : Array Slot, lv_has ls 4 [] → W p l e (mx_rm P 0 0 σ) s m ([.ref a0, .long p1] : List Value).toArray below meth c H locs (mxz υ - mxz σ) (mxu υ - mxu σ) (mx_Z below G P (some (.int r)) σ σ' [.ref a0, .long p1] s) (F0 m 29 ls [])) → ∀ (H : Heap) (locs : List Loc), mx_J G P s.heap (mxz σ) (mxu σ) τ H locs → ∀ ls : Array Slot, lv_has ls 4 [(0, .ref v0), (1, .long v1), (3, .int v3)] → W p l e (mx_rm P 0 0 σ) s m ([.ref a0, .long p1] : List Value).toArray below meth c H locs (mxz τ - mxz σ) (mxu τ - mxu σ) (mx_Z below G P (some (.int r)) σ σ' [.ref a0, .long p1] s) (F0 m 2 ls []) := by
    intro v0 v1 n
    induction n with
    | zero =>
      intro v3 τ o hf
      rw [mx_lp0] at hf
      cases hf
    | succ n ih =>
      intro v3 τ o hf Ke0 Ke1 H locs hJ ls hl
      rw [mx_lpS] at hf
      obtain ⟨b, eb, hf⟩ := mb0 hf
      refine B2 v0 v1 v3 τ b eb (fun y3 υ ho H locs hJ ls hl => ?_) (fun y3 υ ho H locs hJ ls hl => ?_) (fun  υ ho H locs hJ ls hl => ?_) H locs hJ ls hl
      · subst ho
        exact ih y3 υ o hf Ke0 Ke1 H locs hJ ls hl
      · subst ho
        exact Ke0 y3 υ (Option.some.inj hf).symm _ _ hJ ls hl
      · subst ho
        exact Ke1  υ (Option.some.inj hf).symm _ _ hJ ls hl
  unfold f_X10_tellerOf at hf
  refine lv_iconst (v := 0) hx hb dX10_tellerOf_0 (by decide) ?_
  refine lv_istore_n (lv' := [(3, .int (0 : Int32)), (0, .ref a0), (1, .long p1)]) hx hb dX10_tellerOf_1 rfl hl (by decide) rfl (fun ls hl => ?_)
  obtain ⟨o11, e12, hf⟩ := mb0 hf
  refine L2 a0 p1 (mpN P) (0 : Int32) σ o11 e12 (fun y13 σ14 ho H locs hJ ls hl => ?_) (fun σ15 ho H locs hJ ls hl => ?_) _ _ hJ ls (lv_sub hl [1, 2, 0] rfl)
  · rw [ho] at hf
    have hf : (some (y13, σ14)) = some (r, σ') := hf
    refine lv_iload_n hx hb dX10_tellerOf_21 rfl (lv_at hl 0 rfl) ?_
    exact my_iret hx hb hr hlocks hJ hf dX10_tellerOf_22
  · rw [ho] at hf
    have hf : (some ((-1 : Int32), σ15)) = some (r, σ') := hf
    refine lv_iconst (v := (-1)) hx hb dX10_tellerOf_29 (by decide) ?_
    exact my_iret hx hb hr hlocks hJ hf dX10_tellerOf_30
set_option maxHeartbeats 4000000 in
set_option maxRecDepth 100000 in
theorem c_X5_takePart (l : Launch) (G : mx_G) (P : mx_P) (a0 : Nat) (a1 : Nat) (p2 : Int32) (p3 : Int32) (σ : mx_S) (σ' : mx_S) (hf : f_X5_takePart P a0 a1 p2 p3 σ = some σ') : mxz σ ≤ mpc P → mxu σ ≤ mps P → mx_M l yX5_takePart cX5_takePart 4 none 3 77 G P [.ref a0, .ref a1, .int p2, .int p3] σ none σ' := by
  intro hcap hcau
  refine mx_ofW (by decide +kernel) hcap hcau (Nat.le_of_ble_eq_true rfl) ?_
  intro p e s m below meth c hx hb hr hml hts hown hlocks hname hK hJ ls hl
  have hz0 := hJ.2.1
  have hown : s.vm.findClass RX5 = some m.cls := hown
  have hl : lv_has ls 4 [(0, .ref a0), (1, .ref a1), (2, .int p2), (3, .int p3)] := hl
  have D186 : ∀  (τ : mx_S), f_X5_takePart_D186 P  τ = some σ' → ∀ (H : Heap) (locs : List Loc), mx_J G P s.heap (mxz σ) (mxu σ) τ H locs → ∀ ls : Array Slot, lv_has ls 4 [] → W p l e (mx_rm P 3 77 σ) s m ([.ref a0, .ref a1, .int p2, .int p3] : List Value).toArray below meth c H locs (mxz τ - mxz σ) (mxu τ - mxu σ) (mx_Z below G P none σ σ' [.ref a0, .ref a1, .int p2, .int p3] s) (F0 m 186 ls []) := by
    intro  τ hf _ _ hJ ls hl
    unfold f_X5_takePart_D186 at hf
    exact my_vret hx hb hr hlocks hJ hf dX5_takePart_186
  have D160 : ∀ (v0 : Nat) (v1 : Nat) (v2 : Int32) (v3 : Int32) (w0 : Int32) (w1 : Nat) (τ : mx_S), f_X5_takePart_D160 P v0 v1 v2 v3 w0 w1 τ = some σ' → ∀ (H : Heap) (locs : List Loc), mx_J G P s.heap (mxz σ) (mxu σ) τ H locs → ∀ ls : Array Slot, lv_has ls 4 [(0, .ref v0), (1, .ref v1), (2, .int v2), (3, .int v3)] → W p l e (mx_rm P 3 77 σ) s m ([.ref a0, .ref a1, .int p2, .int p3] : List Value).toArray below meth c H locs (mxz τ - mxz σ) (mxu τ - mxu σ) (mx_Z below G P none σ σ' [.ref a0, .ref a1, .int p2, .int p3] s) (F0 m 160 ls [.int w0, .ref w1]) := by
    intro v0 v1 v2 v3 w0 w1 τ hf _ _ hJ ls hl
    unfold f_X5_takePart_D160 at hf
    obtain ⟨σ69, e70, hf⟩ := mb0 hf
    refine my_pZ hx hb hts hown hK hJ fd_RX5_63 cd_5 (Or.inl rfl) ht_5_6 e70 dX5_takePart_160 (fun H locs hJ => ?_)
    refine lv_aload_n hx hb dX5_takePart_163 rfl (lv_at hl 1 rfl) ?_
    obtain ⟨b71, e72, hf⟩ := mb0 hf
    refine my_gR hx hb hts hown hK hJ fd_RX5_85 hv_10_16 e72 dX5_takePart_164 ?_
    refine lv_iload_n hx hb dX5_takePart_167 rfl (lv_at hl 2 rfl) ?_
    obtain ⟨x73, e74, hf⟩ := mb0 hf
    refine mx_aI hx hb hK hJ e74 dX5_takePart_168 ?_
    refine lv_bipush (v := 63) hx hb dX5_takePart_169 (by decide) ?_
    refine lv_icmp_ne (tgt := 186) hx hb dX5_takePart_171 (by decide) (fun c75 => ?_) (fun c75 => ?_)
    · rw [if_neg c75] at hf
      exact D186  σ69 hf _ _ hJ ls (lv_sub hl [] rfl)
    · rw [if_pos c75] at hf
      refine lv_aload_n hx hb dX5_takePart_174 rfl (lv_at hl 0 rfl) ?_
      refine lv_iload_n hx hb dX5_takePart_175 rfl (lv_at hl 3 rfl) ?_
      obtain ⟨σ76, e77, hf⟩ := mb0 hf
      refine my_pI hx hb hts hown hK hJ fd_RX5_60 cd_5 (Or.inl rfl) ht_5_7 e77 dX5_takePart_176 (fun H locs hJ => ?_)
      refine lv_aload_n hx hb dX5_takePart_179 rfl (lv_at hl 0 rfl) ?_
      refine lv_iconst (v := 1) hx hb dX5_takePart_180 (by decide) ?_
      refine lv_iload_n hx hb dX5_takePart_181 rfl (lv_at hl 3 rfl) ?_
      refine lv_ishl hx hb dX5_takePart_182 ?_
      obtain ⟨σ78, e79, hf⟩ := mb0 hf
      refine my_pI hx hb hts hown hK hJ fd_RX5_57 cd_5 (Or.inl rfl) ht_5_8 e79 dX5_takePart_183 (fun H locs hJ => ?_)
      exact D186  σ78 hf _ _ hJ ls (lv_sub hl [] rfl)
  unfold f_X5_takePart at hf
  refine lv_aload_n hx hb dX5_takePart_0 rfl (lv_at hl 1 rfl) ?_
  obtain ⟨b1, e2, hf⟩ := mb0 hf
  refine my_gR hx hb hts hown hK hJ fd_RX5_82 hv_10_13 e2 dX5_takePart_1 ?_
  refine lv_iload_n hx hb dX5_takePart_4 rfl (lv_at hl 2 rfl) ?_
  obtain ⟨x3, e4, hf⟩ := mb0 hf
  refine mx_aI hx hb hK hJ e4 dX5_takePart_5 ?_
  by_cases c5 : x3 = (80 : Int32)
  · rw [if_pos c5] at hf
    refine lv_lookup (tgt := 48) (off := 42) hx hb dX5_takePart_6 (by decide) (by rw [c5] <;> decide) (by decide) ?_
    refine lv_aload_n hx hb dX5_takePart_48 rfl (lv_at hl 0 rfl) ?_
    obtain ⟨x6, e7, hf⟩ := mb0 hf
    refine my_gI hx hb hts hown hK hJ fd_RX5_54 hv_5_3 e7 dX5_takePart_49 ?_
    refine lv_aload_n hx hb dX5_takePart_52 rfl (lv_at hl 0 rfl) ?_
    obtain ⟨b8, e9, hf⟩ := mb0 hf
    refine my_gR hx hb hts hown hK hJ fd_RX5_7 hv_5_2 e9 dX5_takePart_53 ?_
    obtain ⟨x10, e11, hf⟩ := mb0 hf
    refine mx_alen hx hb hK hJ e11 dX5_takePart_56 ?_
    refine lv_icmp_ge (tgt := 186) hx hb dX5_takePart_57 (by decide) (fun c12 => ?_) (fun c12 => ?_)
    · rw [if_pos c12] at hf
      exact D186  σ hf _ _ hJ ls (lv_sub hl [] rfl)
    · rw [if_neg c12] at hf
      refine lv_aload_n hx hb dX5_takePart_60 rfl (lv_at hl 0 rfl) ?_
      obtain ⟨b13, e14, hf⟩ := mb0 hf
      refine my_gR hx hb hts hown hK hJ fd_RX5_7 hv_5_2 e14 dX5_takePart_61 ?_
      refine lv_aload_n hx hb dX5_takePart_64 rfl (lv_at hl 0 rfl) ?_
      obtain ⟨x15, e16, hf⟩ := mb0 hf
      refine my_gI hx hb hts hown hK hJ fd_RX5_54 hv_5_3 e16 dX5_takePart_65 ?_
      refine lv_aload_n hx hb dX5_takePart_68 rfl (lv_at hl 1 rfl) ?_
      refine lv_aload_n hx hb dX5_takePart_69 rfl (lv_at hl 1 rfl) ?_
      obtain ⟨b17, e18, hf⟩ := mb0 hf
      refine my_gR hx hb hts hown hK hJ fd_RX5_39 hv_10_15 e18 dX5_takePart_70 ?_
      refine lv_iload_n hx hb dX5_takePart_73 rfl (lv_at hl 2 rfl) ?_
      obtain ⟨x19, e20, hf⟩ := mb0 hf
      refine mx_aL hx hb hK hJ e20 dX5_takePart_74 ?_
      obtain ⟨i21, e22, hf⟩ := mb0 hf
      obtain ⟨x24, σ23, e25, hf⟩ := mc0 hf
      refine mx_callV (As := [.long x19]) (rest := [.int x15, .ref b13]) hx hb hml hts hown hK hJ rfl rfl (ci := 10) rfl e22 (c_X10_tellerOf l G P a1 x19 σ x24 σ23 e25) me_X10_tellerOf kw_1160 kw_1161 kw_1190 (Nat.le_of_ble_eq_true rfl) (Nat.le_of_ble_eq_true rfl) rfl hl.1 rfl (Nat.le_of_ble_eq_true rfl) dX5_takePart_75 (fun H locs hJ => ?_)
      obtain ⟨σ26, e27, hf⟩ := mb0 hf
      refine mx_sI hx hb hK hJ e27 dX5_takePart_78 (fun H locs hJ => ?_)
      refine lv_aload_n hx hb dX5_takePart_79 rfl (lv_at hl 0 rfl) ?_
      refine lv_dup hx hb dX5_takePart_80 rfl ?_
      obtain ⟨x28, e29, hf⟩ := mb0 hf
      refine my_gI hx hb hts hown hK hJ fd_RX5_54 hv_5_3 e29 dX5_takePart_81 ?_
      refine lv_iconst (v := 1) hx hb dX5_takePart_84 (by decide) ?_
      refine lv_iadd hx hb dX5_takePart_85 ?_
      obtain ⟨σ30, e31, hf⟩ := mb0 hf
      refine my_pI hx hb hts hown hK hJ fd_RX5_54 cd_5 (Or.inl rfl) ht_5_3 e31 dX5_takePart_86 (fun H locs hJ => ?_)
      refine lv_goto (tgt := 186) hx hb dX5_takePart_89 (by decide) ?_
      exact D186  σ30 hf _ _ hJ ls (lv_sub hl [] rfl)
  rw [if_neg c5] at hf
  by_cases c32 : x3 = (105 : Int32)
  · rw [if_pos c32] at hf
    refine lv_lookup (tgt := 92) (off := 86) hx hb dX5_takePart_6 (by decide) (by rw [c32] <;> decide) (by decide) ?_
    refine lv_aload_n hx hb dX5_takePart_92 rfl (lv_at hl 0 rfl) ?_
    refine lv_aload_n hx hb dX5_takePart_93 rfl (lv_at hl 1 rfl) ?_
    refine lv_iload_n hx hb dX5_takePart_94 rfl (lv_at hl 2 rfl) ?_
    obtain ⟨i33, e34, hf⟩ := mb0 hf
    obtain ⟨x36, σ35, e37, hf⟩ := mc0 hf
    refine mx_callV (As := [.int p2]) (rest := [.ref a0]) hx hb hml hts hown hK hJ rfl rfl (ci := 10) rfl e34 (c_X10_whole l G P a1 p2 σ x36 σ35 e37) me_X10_whole kw_1174 kw_1175 kw_1191 (Nat.le_of_ble_eq_true rfl) (Nat.le_of_ble_eq_true rfl) rfl hl.1 rfl (Nat.le_of_ble_eq_true rfl) dX5_takePart_95 (fun H locs hJ => ?_)
    obtain ⟨σ38, e39, hf⟩ := mb0 hf
    refine my_pI hx hb hts hown hK hJ fd_RX5_114 cd_5 (Or.inl rfl) ht_5_4 e39 dX5_takePart_98 (fun H locs hJ => ?_)
    refine lv_aload_n hx hb dX5_takePart_101 rfl (lv_at hl 0 rfl) ?_
    refine lv_sipush (v := 256) hx hb dX5_takePart_102 (by decide) ?_
    refine lv_aload_n hx hb dX5_takePart_105 rfl (lv_at hl 0 rfl) ?_
    obtain ⟨x40, e41, hf⟩ := mb0 hf
    refine my_gI hx hb hts hown hK hJ fd_RX5_114 hv_5_4 e41 dX5_takePart_106 ?_
    refine lv_ishl hx hb dX5_takePart_109 ?_
    obtain ⟨σ42, e43, hf⟩ := mb0 hf
    refine my_pI hx hb hts hown hK hJ fd_RX5_57 cd_5 (Or.inl rfl) ht_5_8 e43 dX5_takePart_110 (fun H locs hJ => ?_)
    refine lv_goto (tgt := 186) hx hb dX5_takePart_113 (by decide) ?_
    exact D186  σ42 hf _ _ hJ ls (lv_sub hl [] rfl)
  rw [if_neg c32] at hf
  by_cases c44 : x3 = (107 : Int32)
  · rw [if_pos c44] at hf
    refine lv_lookup (tgt := 128) (off := 122) hx hb dX5_takePart_6 (by decide) (by rw [c44] <;> decide) (by decide) ?_
    refine lv_aload_n hx hb dX5_takePart_128 rfl (lv_at hl 0 rfl) ?_
    obtain ⟨b45, e46, hf⟩ := mb0 hf
    refine my_gR hx hb hts hown hK hJ fd_RX5_26 hv_5_11 e46 dX5_takePart_129 ?_
    refine lv_aload_n hx hb dX5_takePart_132 rfl (lv_at hl 1 rfl) ?_
    refine lv_iload_n hx hb dX5_takePart_133 rfl (lv_at hl 2 rfl) ?_
    obtain ⟨i47, e48, hf⟩ := mb0 hf
    obtain ⟨x50, σ49, e51, hf⟩ := mc0 hf
    refine mx_callV (As := [.int p2]) (rest := [.ref b45]) hx hb hml hts hown hK hJ rfl rfl (ci := 10) rfl e48 (c_X10_whole l G P a1 p2 σ x50 σ49 e51) me_X10_whole kw_1174 kw_1175 kw_1191 (Nat.le_of_ble_eq_true rfl) (Nat.le_of_ble_eq_true rfl) rfl hl.1 rfl (Nat.le_of_ble_eq_true rfl) dX5_takePart_134 (fun H locs hJ => ?_)
    obtain ⟨i52, e53, hf⟩ := mb0 hf
    obtain ⟨σ54, e55, hf⟩ := mb0 hf
    refine mx_callV (As := [.int x50]) (rest := []) hx hb hml hts hown hK hJ rfl rfl (ci := 8) rfl e53 (c_X8_direct l G P b45 x50 σ49 σ54 e55) me_X8_direct kw_1039 kw_1040 kw_1192 (Nat.le_of_ble_eq_true rfl) (Nat.le_of_ble_eq_true rfl) rfl hl.1 rfl (Nat.le_of_ble_eq_true rfl) dX5_takePart_137 (fun H locs hJ => ?_)
    refine lv_goto (tgt := 186) hx hb dX5_takePart_140 (by decide) ?_
    exact D186  σ54 hf _ _ hJ ls (lv_sub hl [] rfl)
  rw [if_neg c44] at hf
  by_cases c56 : x3 = (110 : Int32)
  · rw [if_pos c56] at hf
    refine lv_lookup (tgt := 116) (off := 110) hx hb dX5_takePart_6 (by decide) (by rw [c56] <;> decide) (by decide) ?_
    refine lv_aload_n hx hb dX5_takePart_116 rfl (lv_at hl 0 rfl) ?_
    refine lv_aload_n hx hb dX5_takePart_117 rfl (lv_at hl 1 rfl) ?_
    refine lv_iload_n hx hb dX5_takePart_118 rfl (lv_at hl 2 rfl) ?_
    obtain ⟨i57, e58, hf⟩ := mb0 hf
    obtain ⟨x60, σ59, e61, hf⟩ := mc0 hf
    refine mx_callV (As := [.int p2]) (rest := [.ref a0]) hx hb hml hts hown hK hJ rfl rfl (ci := 10) rfl e58 (c_X10_whole l G P a1 p2 σ x60 σ59 e61) me_X10_whole kw_1174 kw_1175 kw_1191 (Nat.le_of_ble_eq_true rfl) (Nat.le_of_ble_eq_true rfl) rfl hl.1 rfl (Nat.le_of_ble_eq_true rfl) dX5_takePart_119 (fun H locs hJ => ?_)
    obtain ⟨σ62, e63, hf⟩ := mb0 hf
    refine my_pI hx hb hts hown hK hJ fd_RX5_99 cd_5 (Or.inl rfl) ht_5_5 e63 dX5_takePart_122 (fun H locs hJ => ?_)
    refine lv_goto (tgt := 186) hx hb dX5_takePart_125 (by decide) ?_
    exact D186  σ62 hf _ _ hJ ls (lv_sub hl [] rfl)
  rw [if_neg c56] at hf
  refine lv_lookup (tgt := 143) (off := 137) hx hb dX5_takePart_6 (by decide) (by rw [lv_osw c5 (by decide)]; rw [lv_osw c32 (by decide)]; rw [lv_osw c44 (by decide)]; rw [lv_osw c56 (by decide)] <;> rfl) (by decide) ?_
  refine lv_aload_n hx hb dX5_takePart_143 rfl (lv_at hl 0 rfl) ?_
  refine lv_aload_n hx hb dX5_takePart_144 rfl (lv_at hl 1 rfl) ?_
  obtain ⟨b64, e65, hf⟩ := mb0 hf
  refine my_gR hx hb hts hown hK hJ fd_RX5_85 hv_10_16 e65 dX5_takePart_145 ?_
  refine lv_iload_n hx hb dX5_takePart_148 rfl (lv_at hl 2 rfl) ?_
  obtain ⟨x66, e67, hf⟩ := mb0 hf
  refine mx_aI hx hb hK hJ e67 dX5_takePart_149 ?_
  refine lv_bipush (v := 45) hx hb dX5_takePart_150 (by decide) ?_
  refine lv_icmp_ne (tgt := 159) hx hb dX5_takePart_152 (by decide) (fun c68 => ?_) (fun c68 => ?_)
  · rw [if_neg c68] at hf
    refine lv_iconst (v := 0) hx hb dX5_takePart_159 (by decide) ?_
    exact D160 a0 a1 p2 p3 (0 : Int32) a0 σ hf _ _ hJ ls (lv_sub hl [0, 1, 2, 3] rfl)
  · rw [if_pos c68] at hf
    refine lv_iconst (v := 1) hx hb dX5_takePart_155 (by decide) ?_
    refine lv_goto (tgt := 160) hx hb dX5_takePart_156 (by decide) ?_
    exact D160 a0 a1 p2 p3 (1 : Int32) a0 σ hf _ _ hJ ls (lv_sub hl [0, 1, 2, 3] rfl)
set_option maxHeartbeats 4000000 in
set_option maxRecDepth 100000 in
theorem c_X5_become (l : Launch) (G : mx_G) (P : mx_P) (a0 : Nat) (a1 : Nat) (p2 : Int32) (σ : mx_S) (σ' : mx_S) (hf : f_X5_become P a0 a1 p2 σ = some σ') : mxz σ ≤ mpc P → mxu σ ≤ mps P → mx_M l yX5_become cX5_become 5 none 4 100 G P [.ref a0, .ref a1, .int p2] σ none σ' := by
  intro hcap hcau
  refine mx_ofW (by decide +kernel) hcap hcau (Nat.le_of_ble_eq_true rfl) ?_
  intro p e s m below meth c hx hb hr hml hts hown hlocks hname hK hJ ls hl
  have hz0 := hJ.2.1
  have hown : s.vm.findClass RX5 = some m.cls := hown
  have hl : lv_has ls 5 [(0, .ref a0), (1, .ref a1), (2, .int p2)] := hl
  have D144_63 : ∀ (v0 : Nat) (v1 : Nat) (v2 : Int32) (v3 : Int32) (v4 : Int32) (τ : mx_S) (o : (Int32 × Int32 × mx_S) ⊕ ((mx_S))), f_X5_become_D144_63 P v0 v1 v2 v3 v4 τ = some o → (∀ (y3 : Int32) (y4 : Int32) (υ : mx_S), o = .inl (y3, y4, υ) → ∀ (H : Heap) (locs : List Loc), mx_J G P s.heap (mxz σ) (mxu σ) υ H locs → ∀ ls : Array Slot, lv_has ls 5 [(0, .ref v0), (1, .ref v1), (2, .int v2), (3, .int y3), (4, .int y4)] → W p l e (mx_rm P 4 100 σ) s m ([.ref a0, .ref a1, .int p2] : List Value).toArray below meth c H locs (mxz υ - mxz σ) (mxu υ - mxu σ) (mx_Z below G P none σ σ' [.ref a0, .ref a1, .int p2] s) (F0 m 63 ls [])) → (∀  (υ : mx_S), o = .inr υ → ∀ (H : Heap) (locs : List Loc), mx_J G P s.heap (mxz σ) (mxu σ) υ H locs → ∀ ls : Array Slot, lv_has ls 5 [(0, .ref v0), (1, .ref v1)] → W p l e (mx_rm P 4 100 σ) s m ([.ref a0, .ref a1, .int p2] : List Value).toArray below meth c H locs (mxz υ - mxz σ) (mxu υ - mxu σ) (mx_Z below G P none σ σ' [.ref a0, .ref a1, .int p2] s) (F0 m 150 ls [])) → ∀ (H : Heap) (locs : List Loc), mx_J G P s.heap (mxz σ) (mxu σ) τ H locs → ∀ ls : Array Slot, lv_has ls 5 [(0, .ref v0), (1, .ref v1), (2, .int v2), (3, .int v3), (4, .int v4)] → W p l e (mx_rm P 4 100 σ) s m ([.ref a0, .ref a1, .int p2] : List Value).toArray below meth c H locs (mxz τ - mxz σ) (mxu τ - mxu σ) (mx_Z below G P none σ σ' [.ref a0, .ref a1, .int p2] s) (F0 m 144 ls []) := by
    intro v0 v1 v2 v3 v4 τ o hf Kb Ke0 H locs hJ ls hl
    unfold f_X5_become_D144_63 at hf
    obtain ⟨x50, e51, hf⟩ := mb0 hf
    refine lv_iinc (v := x50) (lv' := [(4, .int x50), (0, .ref v0), (1, .ref v1), (2, .int v2), (3, .int v3)]) hx hb dX5_become_144 hl (k := 4) rfl (by rw [← Option.some.inj e51]; rfl) (by decide) rfl (fun ls hl => ?_)
    refine lv_goto (tgt := 63) hx hb dX5_become_147 (by decide) ?_
    exact Kb v3 x50 τ (Option.some.inj hf).symm _ _ hJ ls (lv_sub hl [1, 2, 3, 4, 0] rfl)
  have D112_63 : ∀ (v0 : Nat) (v1 : Nat) (v2 : Int32) (v4 : Int32) (w0 : Nat) (w1 : Nat) (τ : mx_S) (o : (Int32 × Int32 × mx_S) ⊕ ((mx_S))), f_X5_become_D112_63 P v0 v1 v2 v4 w0 w1 τ = some o → (∀ (y3 : Int32) (y4 : Int32) (υ : mx_S), o = .inl (y3, y4, υ) → ∀ (H : Heap) (locs : List Loc), mx_J G P s.heap (mxz σ) (mxu σ) υ H locs → ∀ ls : Array Slot, lv_has ls 5 [(0, .ref v0), (1, .ref v1), (2, .int v2), (3, .int y3), (4, .int y4)] → W p l e (mx_rm P 4 100 σ) s m ([.ref a0, .ref a1, .int p2] : List Value).toArray below meth c H locs (mxz υ - mxz σ) (mxu υ - mxu σ) (mx_Z below G P none σ σ' [.ref a0, .ref a1, .int p2] s) (F0 m 63 ls [])) → (∀  (υ : mx_S), o = .inr υ → ∀ (H : Heap) (locs : List Loc), mx_J G P s.heap (mxz σ) (mxu σ) υ H locs → ∀ ls : Array Slot, lv_has ls 5 [(0, .ref v0), (1, .ref v1)] → W p l e (mx_rm P 4 100 σ) s m ([.ref a0, .ref a1, .int p2] : List Value).toArray below meth c H locs (mxz υ - mxz σ) (mxu υ - mxu σ) (mx_Z below G P none σ σ' [.ref a0, .ref a1, .int p2] s) (F0 m 150 ls [])) → ∀ (H : Heap) (locs : List Loc), mx_J G P s.heap (mxz σ) (mxu σ) τ H locs → ∀ ls : Array Slot, lv_has ls 5 [(0, .ref v0), (1, .ref v1), (2, .int v2), (4, .int v4)] → W p l e (mx_rm P 4 100 σ) s m ([.ref a0, .ref a1, .int p2] : List Value).toArray below meth c H locs (mxz τ - mxz σ) (mxu τ - mxu σ) (mx_Z below G P none σ σ' [.ref a0, .ref a1, .int p2] s) (F0 m 112 ls [.ref w0, .ref w1]) := by
    intro v0 v1 v2 v4 w0 w1 τ o hf Kb Ke0 H locs hJ ls hl
    unfold f_X5_become_D112_63 at hf
    refine lv_aload_n hx hb dX5_become_112 rfl (lv_at hl 1 rfl) ?_
    obtain ⟨b38, e39, hf⟩ := mb0 hf
    refine my_gR hx hb hts hown hK hJ fd_RX5_85 hv_10_16 e39 dX5_become_113 ?_
    refine lv_iload hx hb dX5_become_116 (lv_at hl 3 rfl) ?_
    obtain ⟨x40, e41, hf⟩ := mb0 hf
    refine mx_aI hx hb hK hJ e41 dX5_become_118 ?_
    refine lv_i2l hx hb dX5_become_119 rfl ?_
    refine lv_aload_n hx hb dX5_become_120 rfl (lv_at hl 1 rfl) ?_
    obtain ⟨b42, e43, hf⟩ := mb0 hf
    refine my_gR hx hb hts hown hK hJ fd_RX5_88 hv_10_17 e43 dX5_become_121 ?_
    refine lv_iload hx hb dX5_become_124 (lv_at hl 3 rfl) ?_
    obtain ⟨x44, e45, hf⟩ := mb0 hf
    refine mx_aI hx hb hK hJ e45 dX5_become_126 ?_
    refine lv_i2l hx hb dX5_become_127 rfl ?_
    obtain ⟨i46, e47, hf⟩ := mb0 hf
    obtain ⟨σ48, e49, hf⟩ := mb0 hf
    refine mx_callV (As := [.ref w0, .long (x40.toInt64), .long (x44.toInt64)]) (rest := []) hx hb hml hts hown hK hJ rfl rfl (ci := 5) rfl e47 (c_X5_takeNumber l G P w1 w0 (x40.toInt64) (x44.toInt64) τ σ48 e49) me_X5_takeNumber kw_1183 ks_35 kw_1181 (Nat.le_of_ble_eq_true rfl) (Nat.le_of_ble_eq_true rfl) rfl hl.1 rfl (Nat.le_of_ble_eq_true rfl) dX5_become_128 (fun H locs hJ => ?_)
    refine lv_iconst (v := 0) hx hb dX5_become_131 (by decide) ?_
    refine lv_istore_n (lv' := [(3, .int (0 : Int32)), (0, .ref v0), (1, .ref v1), (2, .int v2), (4, .int v4)]) hx hb dX5_become_132 rfl hl (by decide) rfl (fun ls hl => ?_)
    refine lv_goto (tgt := 144) hx hb dX5_become_133 (by decide) ?_
    exact D144_63 v0 v1 v2 (0 : Int32) v4 σ48 o hf Kb Ke0 _ _ hJ ls (lv_sub hl [1, 2, 3, 0, 4] rfl)
  have D96_63 : ∀ (v0 : Nat) (v1 : Nat) (v2 : Int32) (v3 : Int32) (v4 : Int32) (τ : mx_S) (o : (Int32 × Int32 × mx_S) ⊕ ((mx_S))), f_X5_become_D96_63 P v0 v1 v2 v3 v4 τ = some o → (∀ (y3 : Int32) (y4 : Int32) (υ : mx_S), o = .inl (y3, y4, υ) → ∀ (H : Heap) (locs : List Loc), mx_J G P s.heap (mxz σ) (mxu σ) υ H locs → ∀ ls : Array Slot, lv_has ls 5 [(0, .ref v0), (1, .ref v1), (2, .int v2), (3, .int y3), (4, .int y4)] → W p l e (mx_rm P 4 100 σ) s m ([.ref a0, .ref a1, .int p2] : List Value).toArray below meth c H locs (mxz υ - mxz σ) (mxu υ - mxu σ) (mx_Z below G P none σ σ' [.ref a0, .ref a1, .int p2] s) (F0 m 63 ls [])) → (∀  (υ : mx_S), o = .inr υ → ∀ (H : Heap) (locs : List Loc), mx_J G P s.heap (mxz σ) (mxu σ) υ H locs → ∀ ls : Array Slot, lv_has ls 5 [(0, .ref v0), (1, .ref v1)] → W p l e (mx_rm P 4 100 σ) s m ([.ref a0, .ref a1, .int p2] : List Value).toArray below meth c H locs (mxz υ - mxz σ) (mxu υ - mxu σ) (mx_Z below G P none σ σ' [.ref a0, .ref a1, .int p2] s) (F0 m 150 ls [])) → ∀ (H : Heap) (locs : List Loc), mx_J G P s.heap (mxz σ) (mxu σ) τ H locs → ∀ ls : Array Slot, lv_has ls 5 [(0, .ref v0), (1, .ref v1), (2, .int v2), (3, .int v3), (4, .int v4)] → W p l e (mx_rm P 4 100 σ) s m ([.ref a0, .ref a1, .int p2] : List Value).toArray below meth c H locs (mxz τ - mxz σ) (mxu τ - mxu σ) (mx_Z below G P none σ σ' [.ref a0, .ref a1, .int p2] s) (F0 m 96 ls []) := by
    intro v0 v1 v2 v3 v4 τ o hf Kb Ke0 H locs hJ ls hl
    unfold f_X5_become_D96_63 at hf
    refine lv_aload_n hx hb dX5_become_96 rfl (lv_at hl 0 rfl) ?_
    refine lv_iload_n hx hb dX5_become_97 rfl (lv_at hl 3 rfl) ?_
    refine lv_if_eq (tgt := 108) hx hb dX5_become_98 (by decide) (fun c35 => ?_) (fun c35 => ?_)
    · rw [if_pos c35] at hf
      refine lv_aload_n hx hb dX5_become_108 rfl (lv_at hl 0 rfl) ?_
      obtain ⟨b36, e37, hf⟩ := mb0 hf
      refine my_gR hx hb hts hown hK hJ fd_RX5_20 hv_5_10 e37 dX5_become_109 ?_
      exact D112_63 v0 v1 v2 v4 b36 v0 τ o hf Kb Ke0 _ _ hJ ls (lv_sub hl [0, 1, 2, 4] rfl)
    · rw [if_neg c35] at hf
      refine lv_aload_n hx hb dX5_become_101 rfl (lv_at hl 0 rfl) ?_
      obtain ⟨b52, e53, hf⟩ := mb0 hf
      refine my_gR hx hb hts hown hK hJ fd_RX5_16 hv_5_9 e53 dX5_become_102 ?_
      refine lv_goto (tgt := 112) hx hb dX5_become_105 (by decide) ?_
      exact D112_63 v0 v1 v2 v4 b52 v0 τ o hf Kb Ke0 _ _ hJ ls (lv_sub hl [0, 1, 2, 4] rfl)
  have B63 : ∀ (v0 : Nat) (v1 : Nat) (v2 : Int32) (v3 : Int32) (v4 : Int32) (τ : mx_S) (o : (Int32 × Int32 × mx_S) ⊕ ((mx_S))), f_X5_become_B63 P v0 v1 v2 v3 v4 τ = some o → (∀ (y3 : Int32) (y4 : Int32) (υ : mx_S), o = .inl (y3, y4, υ) → ∀ (H : Heap) (locs : List Loc), mx_J G P s.heap (mxz σ) (mxu σ) υ H locs → ∀ ls : Array Slot, lv_has ls 5 [(0, .ref v0), (1, .ref v1), (2, .int v2), (3, .int y3), (4, .int y4)] → W p l e (mx_rm P 4 100 σ) s m ([.ref a0, .ref a1, .int p2] : List Value).toArray below meth c H locs (mxz υ - mxz σ) (mxu υ - mxu σ) (mx_Z below G P none σ σ' [.ref a0, .ref a1, .int p2] s) (F0 m 63 ls [])) → (∀  (υ : mx_S), o = .inr υ → ∀ (H : Heap) (locs : List Loc), mx_J G P s.heap (mxz σ) (mxu σ) υ H locs → ∀ ls : Array Slot, lv_has ls 5 [(0, .ref v0), (1, .ref v1)] → W p l e (mx_rm P 4 100 σ) s m ([.ref a0, .ref a1, .int p2] : List Value).toArray below meth c H locs (mxz υ - mxz σ) (mxu υ - mxu σ) (mx_Z below G P none σ σ' [.ref a0, .ref a1, .int p2] s) (F0 m 150 ls [])) → ∀ (H : Heap) (locs : List Loc), mx_J G P s.heap (mxz σ) (mxu σ) τ H locs → ∀ ls : Array Slot, lv_has ls 5 [(0, .ref v0), (1, .ref v1), (2, .int v2), (3, .int v3), (4, .int v4)] → W p l e (mx_rm P 4 100 σ) s m ([.ref a0, .ref a1, .int p2] : List Value).toArray below meth c H locs (mxz τ - mxz σ) (mxu τ - mxu σ) (mx_Z below G P none σ σ' [.ref a0, .ref a1, .int p2] s) (F0 m 63 ls []) := by
    intro v0 v1 v2 v3 v4 τ o hf Kb Ke0 H locs hJ ls hl
    unfold f_X5_become_B63 at hf
    refine lv_iload hx hb dX5_become_63 (lv_at hl 4 rfl) ?_
    refine lv_aload_n hx hb dX5_become_65 rfl (lv_at hl 1 rfl) ?_
    obtain ⟨x27, e28, hf⟩ := mb0 hf
    refine my_gI hx hb hts hown hK hJ fd_RX5_79 hv_10_12 e28 dX5_become_66 ?_
    refine lv_icmp_ge (tgt := 150) hx hb dX5_become_69 (by decide) (fun c29 => ?_) (fun c29 => ?_)
    · rw [if_pos c29] at hf
      exact Ke0 τ (Option.some.inj hf).symm _ _ hJ ls (lv_sub hl [0, 1] rfl)
    · rw [if_neg c29] at hf
      refine lv_aload_n hx hb dX5_become_72 rfl (lv_at hl 1 rfl) ?_
      obtain ⟨b30, e31, hf⟩ := mb0 hf
      refine my_gR hx hb hts hown hK hJ fd_RX5_82 hv_10_13 e31 dX5_become_73 ?_
      refine lv_iload hx hb dX5_become_76 (lv_at hl 4 rfl) ?_
      obtain ⟨x32, e33, hf⟩ := mb0 hf
      refine mx_aI hx hb hK hJ e33 dX5_become_78 ?_
      refine lv_bipush (v := 120) hx hb dX5_become_79 (by decide) ?_
      refine lv_icmp_eq (tgt := 96) hx hb dX5_become_81 (by decide) (fun c34 => ?_) (fun c34 => ?_)
      · rw [if_pos c34] at hf
        exact D96_63 v0 v1 v2 v3 v4 τ o hf Kb Ke0 _ _ hJ ls (lv_sub hl [0, 1, 2, 3, 4] rfl)
      · rw [if_neg c34] at hf
        refine lv_aload_n hx hb dX5_become_84 rfl (lv_at hl 1 rfl) ?_
        obtain ⟨b54, e55, hf⟩ := mb0 hf
        refine my_gR hx hb hts hown hK hJ fd_RX5_82 hv_10_13 e55 dX5_become_85 ?_
        refine lv_iload hx hb dX5_become_88 (lv_at hl 4 rfl) ?_
        obtain ⟨x56, e57, hf⟩ := mb0 hf
        refine mx_aI hx hb hK hJ e57 dX5_become_90 ?_
        refine lv_bipush (v := 114) hx hb dX5_become_91 (by decide) ?_
        refine lv_icmp_ne (tgt := 136) hx hb dX5_become_93 (by decide) (fun c58 => ?_) (fun c58 => ?_)
        · rw [if_neg c58] at hf
          refine lv_aload_n hx hb dX5_become_136 rfl (lv_at hl 0 rfl) ?_
          refine lv_aload_n hx hb dX5_become_137 rfl (lv_at hl 1 rfl) ?_
          refine lv_iload hx hb dX5_become_138 (lv_at hl 4 rfl) ?_
          refine lv_iload_n hx hb dX5_become_140 rfl (lv_at hl 2 rfl) ?_
          obtain ⟨i59, e60, hf⟩ := mb0 hf
          obtain ⟨σ61, e62, hf⟩ := mb0 hf
          refine mx_callV (As := [.ref v1, .int v4, .int v2]) (rest := []) hx hb hml hts hown hK hJ rfl rfl (ci := 5) rfl e60 (c_X5_takePart l G P v0 v1 v4 v2 τ σ61 e62) me_X5_takePart kw_1188 ks_36 kw_1186 (Nat.le_of_ble_eq_true rfl) (Nat.le_of_ble_eq_true rfl) rfl hl.1 rfl (Nat.le_of_ble_eq_true rfl) dX5_become_141 (fun H locs hJ => ?_)
          exact D144_63 v0 v1 v2 v3 v4 σ61 o hf Kb Ke0 _ _ hJ ls (lv_sub hl [0, 1, 2, 3, 4] rfl)
        · rw [if_pos c58] at hf
          exact D96_63 v0 v1 v2 v3 v4 τ o hf Kb Ke0 _ _ hJ ls (lv_sub hl [0, 1, 2, 3, 4] rfl)
  have L63 : ∀ (v0 : Nat) (v1 : Nat) (v2 : Int32) (n : Nat) (v3 : Int32) (v4 : Int32) (τ : mx_S) (o : (mx_S)), mx_lp (f_X5_become_L63 P v0 v1 v2) n (v3, v4, τ) = some o → (∀  (υ : mx_S), o = υ → ∀ (H : Heap) (locs : List Loc), mx_J G P s.heap (mxz σ) (mxu σ) υ H locs → ∀ ls : Array Slot, lv_has ls 5 [(0, .ref v0), (1, .ref v1)] → W p l e (mx_rm P 4 100 σ) s m ([.ref a0, .ref a1, .int p2] : List Value).toArray below meth c H locs (mxz υ - mxz σ) (mxu υ - mxu σ) (mx_Z below G P none σ σ' [.ref a0, .ref a1, .int p2] s) (F0 m 150 ls [])) → ∀ (H : Heap) (locs : List Loc), mx_J G P s.heap (mxz σ) (mxu σ) τ H locs → ∀ ls : Array Slot, lv_has ls 5 [(0, .ref v0), (1, .ref v1), (2, .int v2), (3, .int v3), (4, .int v4)] → W p l e (mx_rm P 4 100 σ) s m ([.ref a0, .ref a1, .int p2] : List Value).toArray below meth c H locs (mxz τ - mxz σ) (mxu τ - mxu σ) (mx_Z below G P none σ σ' [.ref a0, .ref a1, .int p2] s) (F0 m 63 ls []) := by
    intro v0 v1 v2 n
    induction n with
    | zero =>
      intro v3 v4 τ o hf
      rw [mx_lp0] at hf
      cases hf
    | succ n ih =>
      intro v3 v4 τ o hf Ke0 H locs hJ ls hl
      rw [mx_lpS] at hf
      obtain ⟨b, eb, hf⟩ := mb0 hf
      refine B63 v0 v1 v2 v3 v4 τ b eb (fun y3 y4 υ ho H locs hJ ls hl => ?_) (fun  υ ho H locs hJ ls hl => ?_) H locs hJ ls hl
      · subst ho
        exact ih y3 y4 υ o hf Ke0 H locs hJ ls hl
      · subst ho
        exact Ke0  υ (Option.some.inj hf).symm _ _ hJ ls hl
  have D185 : ∀  (τ : mx_S), f_X5_become_D185 P  τ = some σ' → ∀ (H : Heap) (locs : List Loc), mx_J G P s.heap (mxz σ) (mxu σ) τ H locs → ∀ ls : Array Slot, lv_has ls 5 [] → W p l e (mx_rm P 4 100 σ) s m ([.ref a0, .ref a1, .int p2] : List Value).toArray below meth c H locs (mxz τ - mxz σ) (mxu τ - mxu σ) (mx_Z below G P none σ σ' [.ref a0, .ref a1, .int p2] s) (F0 m 185 ls []) := by
    intro  τ hf _ _ hJ ls hl
    unfold f_X5_become_D185 at hf
    exact my_vret hx hb hr hlocks hJ hf dX5_become_185
  unfold f_X5_become at hf
  refine lv_aload_n hx hb dX5_become_0 rfl (lv_at hl 0 rfl) ?_
  refine lv_aload_n hx hb dX5_become_1 rfl (lv_at hl 1 rfl) ?_
  obtain ⟨b1, e2, hf⟩ := mb0 hf
  refine my_gR hx hb hts hown hK hJ fd_RX5_39 hv_10_15 e2 dX5_become_2 ?_
  refine lv_iconst (v := 0) hx hb dX5_become_5 (by decide) ?_
  obtain ⟨x3, e4, hf⟩ := mb0 hf
  refine mx_aL hx hb hK hJ e4 dX5_become_6 ?_
  obtain ⟨σ5, e6, hf⟩ := mb0 hf
  refine my_pL hx hb hts hown hK hJ fd_RX5_45 cd_5 (Or.inl rfl) ht_5_0 e6 dX5_become_7 (fun H locs hJ => ?_)
  refine lv_aload_n hx hb dX5_become_10 rfl (lv_at hl 0 rfl) ?_
  refine lv_aload_n hx hb dX5_become_11 rfl (lv_at hl 1 rfl) ?_
  obtain ⟨x7, e8, hf⟩ := mb0 hf
  refine my_gI hx hb hts hown hK hJ fd_RX5_49 hv_10_10 e8 dX5_become_12 ?_
  obtain ⟨σ9, e10, hf⟩ := mb0 hf
  refine my_pI hx hb hts hown hK hJ fd_RX5_53 cd_5 (Or.inl rfl) ht_5_1 e10 dX5_become_15 (fun H locs hJ => ?_)
  refine lv_aload_n hx hb dX5_become_18 rfl (lv_at hl 0 rfl) ?_
  refine lv_iconst (v := 0) hx hb dX5_become_19 (by decide) ?_
  obtain ⟨σ11, e12, hf⟩ := mb0 hf
  refine my_pI hx hb hts hown hK hJ fd_RX5_54 cd_5 (Or.inl rfl) ht_5_3 e12 dX5_become_20 (fun H locs hJ => ?_)
  refine lv_aload_n hx hb dX5_become_23 rfl (lv_at hl 0 rfl) ?_
  refine lv_iconst (v := 0) hx hb dX5_become_24 (by decide) ?_
  obtain ⟨σ13, e14, hf⟩ := mb0 hf
  refine my_pI hx hb hts hown hK hJ fd_RX5_57 cd_5 (Or.inl rfl) ht_5_8 e14 dX5_become_25 (fun H locs hJ => ?_)
  refine lv_aload_n hx hb dX5_become_28 rfl (lv_at hl 0 rfl) ?_
  refine lv_iconst (v := (-1)) hx hb dX5_become_29 (by decide) ?_
  obtain ⟨σ15, e16, hf⟩ := mb0 hf
  refine my_pI hx hb hts hown hK hJ fd_RX5_60 cd_5 (Or.inl rfl) ht_5_7 e16 dX5_become_30 (fun H locs hJ => ?_)
  refine lv_aload_n hx hb dX5_become_33 rfl (lv_at hl 0 rfl) ?_
  refine lv_iconst (v := 0) hx hb dX5_become_34 (by decide) ?_
  obtain ⟨σ17, e18, hf⟩ := mb0 hf
  refine my_pZ hx hb hts hown hK hJ fd_RX5_63 cd_5 (Or.inl rfl) ht_5_6 e18 dX5_become_35 (fun H locs hJ => ?_)
  refine lv_aload_n hx hb dX5_become_38 rfl (lv_at hl 0 rfl) ?_
  refine lv_iconst (v := 0) hx hb dX5_become_39 (by decide) ?_
  obtain ⟨σ19, e20, hf⟩ := mb0 hf
  refine my_pZ hx hb hts hown hK hJ fd_RX5_67 cd_5 (Or.inl rfl) ht_5_16 e20 dX5_become_40 (fun H locs hJ => ?_)
  refine lv_aload_n hx hb dX5_become_43 rfl (lv_at hl 0 rfl) ?_
  refine lv_iconst (v := 0) hx hb dX5_become_44 (by decide) ?_
  obtain ⟨σ21, e22, hf⟩ := mb0 hf
  refine my_pI hx hb hts hown hK hJ fd_RX5_70 cd_5 (Or.inl rfl) ht_5_17 e22 dX5_become_45 (fun H locs hJ => ?_)
  refine lv_aload_n hx hb dX5_become_48 rfl (lv_at hl 0 rfl) ?_
  refine lv_iconst (v := 0) hx hb dX5_become_49 (by decide) ?_
  obtain ⟨σ23, e24, hf⟩ := mb0 hf
  refine my_pI hx hb hts hown hK hJ fd_RX5_73 cd_5 (Or.inl rfl) ht_5_18 e24 dX5_become_50 (fun H locs hJ => ?_)
  refine lv_aload_n hx hb dX5_become_53 rfl (lv_at hl 0 rfl) ?_
  refine lv_iconst (v := 0) hx hb dX5_become_54 (by decide) ?_
  obtain ⟨σ25, e26, hf⟩ := mb0 hf
  refine my_pI hx hb hts hown hK hJ fd_RX5_76 cd_5 (Or.inl rfl) ht_5_19 e26 dX5_become_55 (fun H locs hJ => ?_)
  refine lv_iconst (v := 1) hx hb dX5_become_58 (by decide) ?_
  refine lv_istore_n (lv' := [(3, .int (1 : Int32)), (0, .ref a0), (1, .ref a1), (2, .int p2)]) hx hb dX5_become_59 rfl hl (by decide) rfl (fun ls hl => ?_)
  refine lv_iconst (v := 1) hx hb dX5_become_60 (by decide) ?_
  refine lv_istore (lv' := [(4, .int (1 : Int32)), (3, .int (1 : Int32)), (0, .ref a0), (1, .ref a1), (2, .int p2)]) hx hb dX5_become_61 hl (by decide) rfl (fun ls hl => ?_)
  obtain ⟨o63, e64, hf⟩ := mb0 hf
  refine L63 a0 a1 p2 (mpN P) (1 : Int32) (1 : Int32) σ25 o63 e64 (fun σ65 ho H locs hJ ls hl => ?_) _ _ hJ ls (lv_sub hl [2, 3, 4, 1, 0] rfl)
  · rw [ho] at hf
    have hf : ((mg_I σ65 a0 5 1).bind fun x66 => (if x66 = (1 : Int32) then (mg_R σ65 a0 5 10).bind fun b69 => (mg_I σ65 a0 5 5).bind fun x71 => (mg_R σ65 a1 10 16).bind fun b73 => (ma_I σ65 b73 0 (2 : Int32)).bind fun x75 => (mg_R σ65 a1 10 17).bind fun b77 => (ma_I σ65 b77 0 (2 : Int32)).bind fun x79 => (mx_is σ65 b69 0).bind fun i81 => (f_X0_fraction P b69 ((x71.toInt64) * (x75.toInt64)) (x79.toInt64) σ65).bind fun σ83 => f_X5_become_D185 P  σ83 else f_X5_become_D185 P  σ65)) = some σ' := hf
    refine lv_aload_n hx hb dX5_become_150 rfl (lv_at hl 0 rfl) ?_
    obtain ⟨x66, e67, hf⟩ := mb0 hf
    refine my_gI hx hb hts hown hK hJ fd_RX5_53 hv_5_1 e67 dX5_become_151 ?_
    refine lv_iconst (v := 1) hx hb dX5_become_154 (by decide) ?_
    refine lv_icmp_ne (tgt := 185) hx hb dX5_become_155 (by decide) (fun c68 => ?_) (fun c68 => ?_)
    · rw [if_neg c68] at hf
      exact D185  σ65 hf _ _ hJ ls (lv_sub hl [] rfl)
    · rw [if_pos c68] at hf
      refine lv_aload_n hx hb dX5_become_158 rfl (lv_at hl 0 rfl) ?_
      obtain ⟨b69, e70, hf⟩ := mb0 hf
      refine my_gR hx hb hts hown hK hJ fd_RX5_20 hv_5_10 e70 dX5_become_159 ?_
      refine lv_aload_n hx hb dX5_become_162 rfl (lv_at hl 0 rfl) ?_
      obtain ⟨x71, e72, hf⟩ := mb0 hf
      refine my_gI hx hb hts hown hK hJ fd_RX5_99 hv_5_5 e72 dX5_become_163 ?_
      refine lv_i2l hx hb dX5_become_166 rfl ?_
      refine lv_aload_n hx hb dX5_become_167 rfl (lv_at hl 1 rfl) ?_
      obtain ⟨b73, e74, hf⟩ := mb0 hf
      refine my_gR hx hb hts hown hK hJ fd_RX5_85 hv_10_16 e74 dX5_become_168 ?_
      refine lv_iconst (v := 2) hx hb dX5_become_171 (by decide) ?_
      obtain ⟨x75, e76, hf⟩ := mb0 hf
      refine mx_aI hx hb hK hJ e76 dX5_become_172 ?_
      refine lv_i2l hx hb dX5_become_173 rfl ?_
      refine lv_lmul hx hb dX5_become_174 ?_
      refine lv_aload_n hx hb dX5_become_175 rfl (lv_at hl 1 rfl) ?_
      obtain ⟨b77, e78, hf⟩ := mb0 hf
      refine my_gR hx hb hts hown hK hJ fd_RX5_88 hv_10_17 e78 dX5_become_176 ?_
      refine lv_iconst (v := 2) hx hb dX5_become_179 (by decide) ?_
      obtain ⟨x79, e80, hf⟩ := mb0 hf
      refine mx_aI hx hb hK hJ e80 dX5_become_180 ?_
      refine lv_i2l hx hb dX5_become_181 rfl ?_
      obtain ⟨i81, e82, hf⟩ := mb0 hf
      obtain ⟨σ83, e84, hf⟩ := mb0 hf
      refine mx_callV (As := [.long ((x71.toInt64) * (x75.toInt64)), .long (x79.toInt64)]) (rest := []) hx hb hml hts hown hK hJ rfl rfl (ci := 0) rfl e82 (c_X0_fraction l G P b69 ((x71.toInt64) * (x75.toInt64)) (x79.toInt64) σ65 σ83 e84) me_X0_fraction kw_1044 kw_1045 kw_1185 (Nat.le_of_ble_eq_true rfl) (Nat.le_of_ble_eq_true rfl) rfl hl.1 rfl (Nat.le_of_ble_eq_true rfl) dX5_become_182 (fun H locs hJ => ?_)
      exact D185  σ83 hf _ _ hJ ls (lv_sub hl [] rfl)
set_option maxHeartbeats 4000000 in
set_option maxRecDepth 100000 in
theorem c_X6_init (l : Launch) (G : mx_G) (P : mx_P) (a0 : Nat) (σ : mx_S) (σ' : mx_S) (hf : f_X6_init P a0 σ = some σ') : mxz σ ≤ mpc P → mxu σ ≤ mps P → mx_M l yX6_init cX6_init 1 none 1 12 G P [.ref a0] σ none σ' := by
  intro hcap hcau
  refine mx_ofW (by decide +kernel) hcap hcau (Nat.le_of_ble_eq_true rfl) ?_
  intro p e s m below meth c hx hb hr hml hts hown hlocks hname hK hJ ls hl
  have hz0 := hJ.2.1
  have hown : s.vm.findClass RX6 = some m.cls := hown
  have hl : lv_has ls 1 [(0, .ref a0)] := hl
  unfold f_X6_init at hf
  refine lv_aload_n hx hb dX6_init_0 rfl (lv_at hl 0 rfl) ?_
  refine W.objInit hx hb hown (hts _ kw_253) (hts _ kw_35) (hts _ kw_36) rfl (by rw [hml]; exact hl.1) rfl dX6_init_1 (Nat.le_of_ble_eq_true rfl) (Nat.le_of_ble_eq_true rfl) ?_
  refine W.eq (g2 := F0 m 4 ls []) rfl ?_
  refine lv_aload_n hx hb dX6_init_4 rfl (lv_at hl 0 rfl) ?_
  refine lv_sipush (v := 156) hx hb dX6_init_5 (by decide) ?_
  obtain ⟨b1, σ2, e3, hf⟩ := mc0 hf
  refine mx_nA hx hb hts hK hJ rfl rfl (t := 0) (by decide) rfl (fun _ h => h) (by decide) rfl e3 kw_137 dX6_init_8 (fun H locs hJ => ?_)
  obtain ⟨σ4, e5, hf⟩ := mb0 hf
  refine my_pR hx hb hts hown hK hJ fd_RX6_9 cd_6 (Or.inr ⟨rfl, hname, rfl⟩) ft_6_1 e5 dX6_init_10 (fun H locs hJ => ?_)
  refine lv_aload_n hx hb dX6_init_13 rfl (lv_at hl 0 rfl) ?_
  refine lv_bipush (v := 15) hx hb dX6_init_14 (by decide) ?_
  obtain ⟨b6, σ7, e8, hf⟩ := mc0 hf
  refine mx_nA hx hb hts hK hJ rfl rfl (t := 0) (by decide) rfl (fun _ h => h) (by decide) rfl e8 kw_137 dX6_init_16 (fun H locs hJ => ?_)
  obtain ⟨σ9, e10, hf⟩ := mb0 hf
  refine my_pR hx hb hts hown hK hJ fd_RX6_13 cd_6 (Or.inr ⟨rfl, hname, rfl⟩) ft_6_4 e10 dX6_init_18 (fun H locs hJ => ?_)
  refine lv_aload_n hx hb dX6_init_21 rfl (lv_at hl 0 rfl) ?_
  refine lv_bipush (v := 15) hx hb dX6_init_22 (by decide) ?_
  obtain ⟨b11, σ12, e13, hf⟩ := mc0 hf
  refine mx_nA hx hb hts hK hJ rfl rfl (t := 0) (by decide) rfl (fun _ h => h) (by decide) rfl e13 kw_137 dX6_init_24 (fun H locs hJ => ?_)
  obtain ⟨σ14, e15, hf⟩ := mb0 hf
  refine my_pR hx hb hts hown hK hJ fd_RX6_16 cd_6 (Or.inr ⟨rfl, hname, rfl⟩) ft_6_5 e15 dX6_init_26 (fun H locs hJ => ?_)
  refine lv_aload_n hx hb dX6_init_29 rfl (lv_at hl 0 rfl) ?_
  refine lv_bipush (v := 36) hx hb dX6_init_30 (by decide) ?_
  obtain ⟨b16, σ17, e18, hf⟩ := mc0 hf
  refine mx_nA hx hb hts hK hJ rfl rfl (t := 0) (by decide) rfl (fun _ h => h) (by decide) rfl e18 kw_137 dX6_init_32 (fun H locs hJ => ?_)
  obtain ⟨σ19, e20, hf⟩ := mb0 hf
  refine my_pR hx hb hts hown hK hJ fd_RX6_19 cd_6 (Or.inr ⟨rfl, hname, rfl⟩) ft_6_6 e20 dX6_init_34 (fun H locs hJ => ?_)
  refine lv_aload_n hx hb dX6_init_37 rfl (lv_at hl 0 rfl) ?_
  refine lv_bipush (v := 6) hx hb dX6_init_38 (by decide) ?_
  obtain ⟨b21, σ22, e23, hf⟩ := mc0 hf
  refine mx_nA hx hb hts hK hJ rfl rfl (t := 0) (by decide) rfl (fun _ h => h) (by decide) rfl e23 kw_137 dX6_init_40 (fun H locs hJ => ?_)
  obtain ⟨σ24, e25, hf⟩ := mb0 hf
  refine my_pR hx hb hts hown hK hJ fd_RX6_22 cd_6 (Or.inr ⟨rfl, hname, rfl⟩) ft_6_7 e25 dX6_init_42 (fun H locs hJ => ?_)
  refine lv_aload_n hx hb dX6_init_45 rfl (lv_at hl 0 rfl) ?_
  refine lv_bipush (v := 6) hx hb dX6_init_46 (by decide) ?_
  obtain ⟨b26, σ27, e28, hf⟩ := mc0 hf
  refine mx_nA hx hb hts hK hJ rfl rfl (t := 0) (by decide) rfl (fun _ h => h) (by decide) rfl e28 kw_137 dX6_init_48 (fun H locs hJ => ?_)
  obtain ⟨σ29, e30, hf⟩ := mb0 hf
  refine my_pR hx hb hts hown hK hJ fd_RX6_25 cd_6 (Or.inr ⟨rfl, hname, rfl⟩) ft_6_8 e30 dX6_init_50 (fun H locs hJ => ?_)
  refine lv_aload_n hx hb dX6_init_53 rfl (lv_at hl 0 rfl) ?_
  refine lv_sipush (v := 1024) hx hb dX6_init_54 (by decide) ?_
  obtain ⟨b31, σ32, e33, hf⟩ := mc0 hf
  refine mx_nA hx hb hts hK hJ rfl rfl (t := 0) (by decide) rfl (fun _ h => h) (by decide) rfl e33 kw_137 dX6_init_57 (fun H locs hJ => ?_)
  obtain ⟨σ34, e35, hf⟩ := mb0 hf
  refine my_pR hx hb hts hown hK hJ fd_RX6_28 cd_6 (Or.inr ⟨rfl, hname, rfl⟩) ft_6_9 e35 dX6_init_59 (fun H locs hJ => ?_)
  exact my_vret hx hb hr hlocks hJ hf dX6_init_62
set_option maxHeartbeats 4000000 in
set_option maxRecDepth 100000 in
theorem c_X6_numberPairs (l : Launch) (G : mx_G) (P : mx_P) (a0 : Nat) (σ : mx_S) (σ' : mx_S) (hf : f_X6_numberPairs P a0 σ = some σ') : mxz σ ≤ mpc P → mxu σ ≤ mps P → mx_M l yX6_numberPairs cX6_numberPairs 4 none 0 0 G P [.ref a0] σ none σ' := by
  intro hcap hcau
  refine mx_ofW (by decide +kernel) hcap hcau (Nat.le_of_ble_eq_true rfl) ?_
  intro p e s m below meth c hx hb hr hml hts hown hlocks hname hK hJ ls hl
  have hz0 := hJ.2.1
  have hown : s.vm.findClass RX6 = some m.cls := hown
  have hl : lv_has ls 4 [(0, .ref a0)] := hl
  have B38 : ∀ (v0 : Nat) (v2 : Int32) (v1 : Int32) (v3 : Int32) (τ : mx_S) (o : (Int32 × Int32 × mx_S) ⊕ ((Int32 × mx_S))), f_X6_numberPairs_B38 P v0 v2 v1 v3 τ = some o → (∀ (y1 : Int32) (y3 : Int32) (υ : mx_S), o = .inl (y1, y3, υ) → ∀ (H : Heap) (locs : List Loc), mx_J G P s.heap (mxz σ) (mxu σ) υ H locs → ∀ ls : Array Slot, lv_has ls 4 [(0, .ref v0), (1, .int y1), (2, .int v2), (3, .int y3)] → W p l e (mx_rm P 0 0 σ) s m ([.ref a0] : List Value).toArray below meth c H locs (mxz υ - mxz σ) (mxu υ - mxu σ) (mx_Z below G P none σ σ' [.ref a0] s) (F0 m 38 ls [])) → (∀ (y1 : Int32) (υ : mx_S), o = .inr (y1, υ) → ∀ (H : Heap) (locs : List Loc), mx_J G P s.heap (mxz σ) (mxu σ) υ H locs → ∀ ls : Array Slot, lv_has ls 4 [(0, .ref v0), (1, .int y1), (2, .int v2)] → W p l e (mx_rm P 0 0 σ) s m ([.ref a0] : List Value).toArray below meth c H locs (mxz υ - mxz σ) (mxu υ - mxu σ) (mx_Z below G P none σ σ' [.ref a0] s) (F0 m 97 ls [])) → ∀ (H : Heap) (locs : List Loc), mx_J G P s.heap (mxz σ) (mxu σ) τ H locs → ∀ ls : Array Slot, lv_has ls 4 [(0, .ref v0), (1, .int v1), (2, .int v2), (3, .int v3)] → W p l e (mx_rm P 0 0 σ) s m ([.ref a0] : List Value).toArray below meth c H locs (mxz τ - mxz σ) (mxu τ - mxu σ) (mx_Z below G P none σ σ' [.ref a0] s) (F0 m 38 ls []) := by
    intro v0 v2 v1 v3 τ o hf Kb Ke0 H locs hJ ls hl
    unfold f_X6_numberPairs_B38 at hf
    refine lv_iload_n hx hb dX6_numberPairs_38 rfl (lv_at hl 3 rfl) ?_
    refine lv_aload_n hx hb dX6_numberPairs_39 rfl (lv_at hl 0 rfl) ?_
    obtain ⟨x18, e19, hf⟩ := mb0 hf
    refine my_gI hx hb hts hown hK hJ fd_RX6_35 hv_6_2 e19 dX6_numberPairs_40 ?_
    refine lv_icmp_ge (tgt := 97) hx hb dX6_numberPairs_43 (by decide) (fun c20 => ?_) (fun c20 => ?_)
    · rw [if_pos c20] at hf
      exact Ke0 v1 τ (Option.some.inj hf).symm _ _ hJ ls (lv_sub hl [0, 1, 2] rfl)
    · rw [if_neg c20] at hf
      refine lv_aload_n hx hb dX6_numberPairs_46 rfl (lv_at hl 0 rfl) ?_
      obtain ⟨b21, e22, hf⟩ := mb0 hf
      refine my_gR hx hb hts hown hK hJ fd_RX6_13 hv_6_4 e22 dX6_numberPairs_47 ?_
      refine lv_iload_n hx hb dX6_numberPairs_50 rfl (lv_at hl 1 rfl) ?_
      refine lv_iload_n hx hb dX6_numberPairs_51 rfl (lv_at hl 2 rfl) ?_
      obtain ⟨σ23, e24, hf⟩ := mb0 hf
      refine mx_sI hx hb hK hJ e24 dX6_numberPairs_52 (fun H locs hJ => ?_)
      refine lv_aload_n hx hb dX6_numberPairs_53 rfl (lv_at hl 0 rfl) ?_
      obtain ⟨b25, e26, hf⟩ := mb0 hf
      refine my_gR hx hb hts hown hK hJ fd_RX6_16 hv_6_5 e26 dX6_numberPairs_54 ?_
      refine lv_iload_n hx hb dX6_numberPairs_57 rfl (lv_at hl 1 rfl) ?_
      refine lv_iload_n hx hb dX6_numberPairs_58 rfl (lv_at hl 3 rfl) ?_
      obtain ⟨σ27, e28, hf⟩ := mb0 hf
      refine mx_sI hx hb hK hJ e28 dX6_numberPairs_59 (fun H locs hJ => ?_)
      refine lv_aload_n hx hb dX6_numberPairs_60 rfl (lv_at hl 0 rfl) ?_
      obtain ⟨b29, e30, hf⟩ := mb0 hf
      refine my_gR hx hb hts hown hK hJ fd_RX6_19 hv_6_6 e30 dX6_numberPairs_61 ?_
      refine lv_iload_n hx hb dX6_numberPairs_64 rfl (lv_at hl 2 rfl) ?_
      refine lv_bipush (v := 6) hx hb dX6_numberPairs_65 (by decide) ?_
      refine lv_imul hx hb dX6_numberPairs_67 ?_
      refine lv_iload_n hx hb dX6_numberPairs_68 rfl (lv_at hl 3 rfl) ?_
      refine lv_iadd hx hb dX6_numberPairs_69 ?_
      refine lv_iconst (v := 1) hx hb dX6_numberPairs_70 (by decide) ?_
      refine lv_iload_n hx hb dX6_numberPairs_71 rfl (lv_at hl 1 rfl) ?_
      refine lv_ishl hx hb dX6_numberPairs_72 ?_
      obtain ⟨σ31, e32, hf⟩ := mb0 hf
      refine mx_sI hx hb hK hJ e32 dX6_numberPairs_73 (fun H locs hJ => ?_)
      refine lv_aload_n hx hb dX6_numberPairs_74 rfl (lv_at hl 0 rfl) ?_
      obtain ⟨b33, e34, hf⟩ := mb0 hf
      refine my_gR hx hb hts hown hK hJ fd_RX6_19 hv_6_6 e34 dX6_numberPairs_75 ?_
      refine lv_iload_n hx hb dX6_numberPairs_78 rfl (lv_at hl 3 rfl) ?_
      refine lv_bipush (v := 6) hx hb dX6_numberPairs_79 (by decide) ?_
      refine lv_imul hx hb dX6_numberPairs_81 ?_
      refine lv_iload_n hx hb dX6_numberPairs_82 rfl (lv_at hl 2 rfl) ?_
      refine lv_iadd hx hb dX6_numberPairs_83 ?_
      refine lv_iconst (v := 1) hx hb dX6_numberPairs_84 (by decide) ?_
      refine lv_iload_n hx hb dX6_numberPairs_85 rfl (lv_at hl 1 rfl) ?_
      refine lv_ishl hx hb dX6_numberPairs_86 ?_
      obtain ⟨σ35, e36, hf⟩ := mb0 hf
      refine mx_sI hx hb hK hJ e36 dX6_numberPairs_87 (fun H locs hJ => ?_)
      obtain ⟨x37, e38, hf⟩ := mb0 hf
      refine lv_iinc (v := x37) (lv' := [(1, .int x37), (0, .ref v0), (2, .int v2), (3, .int v3)]) hx hb dX6_numberPairs_88 hl (k := 1) rfl (by rw [← Option.some.inj e38]; rfl) (by decide) rfl (fun ls hl => ?_)
      obtain ⟨x39, e40, hf⟩ := mb0 hf
      refine lv_iinc (v := x39) (lv' := [(3, .int x39), (1, .int x37), (0, .ref v0), (2, .int v2)]) hx hb dX6_numberPairs_91 hl (k := 3) rfl (by rw [← Option.some.inj e40]; rfl) (by decide) rfl (fun ls hl => ?_)
      refine lv_goto (tgt := 38) hx hb dX6_numberPairs_94 (by decide) ?_
      exact Kb x37 x39 σ35 (Option.some.inj hf).symm _ _ hJ ls (lv_sub hl [2, 1, 3, 0] rfl)
  have L38 : ∀ (v0 : Nat) (v2 : Int32) (n : Nat) (v1 : Int32) (v3 : Int32) (τ : mx_S) (o : (Int32 × mx_S)), mx_lp (f_X6_numberPairs_L38 P v0 v2) n (v1, v3, τ) = some o → (∀ (y1 : Int32) (υ : mx_S), o = (y1, υ) → ∀ (H : Heap) (locs : List Loc), mx_J G P s.heap (mxz σ) (mxu σ) υ H locs → ∀ ls : Array Slot, lv_has ls 4 [(0, .ref v0), (1, .int y1), (2, .int v2)] → W p l e (mx_rm P 0 0 σ) s m ([.ref a0] : List Value).toArray below meth c H locs (mxz υ - mxz σ) (mxu υ - mxu σ) (mx_Z below G P none σ σ' [.ref a0] s) (F0 m 97 ls [])) → ∀ (H : Heap) (locs : List Loc), mx_J G P s.heap (mxz σ) (mxu σ) τ H locs → ∀ ls : Array Slot, lv_has ls 4 [(0, .ref v0), (1, .int v1), (2, .int v2), (3, .int v3)] → W p l e (mx_rm P 0 0 σ) s m ([.ref a0] : List Value).toArray below meth c H locs (mxz τ - mxz σ) (mxu τ - mxu σ) (mx_Z below G P none σ σ' [.ref a0] s) (F0 m 38 ls []) := by
    intro v0 v2 n
    induction n with
    | zero =>
      intro v1 v3 τ o hf
      rw [mx_lp0] at hf
      cases hf
    | succ n ih =>
      intro v1 v3 τ o hf Ke0 H locs hJ ls hl
      rw [mx_lpS] at hf
      obtain ⟨b, eb, hf⟩ := mb0 hf
      refine B38 v0 v2 v1 v3 τ b eb (fun y1 y3 υ ho H locs hJ ls hl => ?_) (fun y1 υ ho H locs hJ ls hl => ?_) H locs hJ ls hl
      · subst ho
        exact ih y1 y3 υ o hf Ke0 H locs hJ ls hl
      · subst ho
        exact Ke0 y1 υ (Option.some.inj hf).symm _ _ hJ ls hl
  have B26 : ∀ (v0 : Nat) (v1 : Int32) (v2 : Int32) (τ : mx_S) (o : (Int32 × Int32 × mx_S) ⊕ ((mx_S))), f_X6_numberPairs_B26 P v0 v1 v2 τ = some o → (∀ (y1 : Int32) (y2 : Int32) (υ : mx_S), o = .inl (y1, y2, υ) → ∀ (H : Heap) (locs : List Loc), mx_J G P s.heap (mxz σ) (mxu σ) υ H locs → ∀ ls : Array Slot, lv_has ls 4 [(0, .ref v0), (1, .int y1), (2, .int y2)] → W p l e (mx_rm P 0 0 σ) s m ([.ref a0] : List Value).toArray below meth c H locs (mxz υ - mxz σ) (mxu υ - mxu σ) (mx_Z below G P none σ σ' [.ref a0] s) (F0 m 26 ls [])) → (∀  (υ : mx_S), o = .inr υ → ∀ (H : Heap) (locs : List Loc), mx_J G P s.heap (mxz σ) (mxu σ) υ H locs → ∀ ls : Array Slot, lv_has ls 4 [] → W p l e (mx_rm P 0 0 σ) s m ([.ref a0] : List Value).toArray below meth c H locs (mxz υ - mxz σ) (mxu υ - mxu σ) (mx_Z below G P none σ σ' [.ref a0] s) (F0 m 103 ls [])) → ∀ (H : Heap) (locs : List Loc), mx_J G P s.heap (mxz σ) (mxu σ) τ H locs → ∀ ls : Array Slot, lv_has ls 4 [(0, .ref v0), (1, .int v1), (2, .int v2)] → W p l e (mx_rm P 0 0 σ) s m ([.ref a0] : List Value).toArray below meth c H locs (mxz τ - mxz σ) (mxu τ - mxu σ) (mx_Z below G P none σ σ' [.ref a0] s) (F0 m 26 ls []) := by
    intro v0 v1 v2 τ o hf Kb Ke0 H locs hJ ls hl
    unfold f_X6_numberPairs_B26 at hf
    refine lv_iload_n hx hb dX6_numberPairs_26 rfl (lv_at hl 2 rfl) ?_
    refine lv_aload_n hx hb dX6_numberPairs_27 rfl (lv_at hl 0 rfl) ?_
    obtain ⟨x13, e14, hf⟩ := mb0 hf
    refine my_gI hx hb hts hown hK hJ fd_RX6_35 hv_6_2 e14 dX6_numberPairs_28 ?_
    refine lv_icmp_ge (tgt := 103) hx hb dX6_numberPairs_31 (by decide) (fun c15 => ?_) (fun c15 => ?_)
    · rw [if_pos c15] at hf
      exact Ke0 τ (Option.some.inj hf).symm _ _ hJ ls (lv_sub hl [] rfl)
    · rw [if_neg c15] at hf
      refine lv_iload_n hx hb dX6_numberPairs_34 rfl (lv_at hl 2 rfl) ?_
      refine lv_iconst (v := 1) hx hb dX6_numberPairs_35 (by decide) ?_
      refine lv_iadd hx hb dX6_numberPairs_36 ?_
      obtain ⟨x16, e17, hf⟩ := mb0 hf
      refine mx_nI e17 ?_
      refine lv_istore_n (lv' := [(3, .int x16), (0, .ref v0), (1, .int v1), (2, .int v2)]) hx hb dX6_numberPairs_37 rfl hl (by decide) rfl (fun ls hl => ?_)
      obtain ⟨o41, e42, hf⟩ := mb0 hf
      refine L38 v0 v2 (mpN P) v1 x16 τ o41 e42 (fun y43 σ44 ho H locs hJ ls hl => ?_) _ _ hJ ls (lv_sub hl [1, 2, 3, 0] rfl)
      · rw [ho] at hf
        have hf : ((some (v2 + (1 : Int32))).bind fun x45 => some (.inl (y43, x45, σ44))) = some o := hf
        obtain ⟨x45, e46, hf⟩ := mb0 hf
        refine lv_iinc (v := x45) (lv' := [(2, .int x45), (0, .ref v0), (1, .int y43)]) hx hb dX6_numberPairs_97 hl (k := 2) rfl (by rw [← Option.some.inj e46]; rfl) (by decide) rfl (fun ls hl => ?_)
        refine lv_goto (tgt := 26) hx hb dX6_numberPairs_100 (by decide) ?_
        exact Kb y43 x45 σ44 (Option.some.inj hf).symm _ _ hJ ls (lv_sub hl [1, 2, 0] rfl)
  have L26 : ∀ (v0 : Nat) (n : Nat) (v1 : Int32) (v2 : Int32) (τ : mx_S) (o : (mx_S)), mx_lp (f_X6_numberPairs_L26 P v0) n (v1, v2, τ) = some o → (∀  (υ : mx_S), o = υ → ∀ (H : Heap) (locs : List Loc), mx_J G P s.heap (mxz σ) (mxu σ) υ H locs → ∀ ls : Array Slot, lv_has ls 4 [] → W p l e (mx_rm P 0 0 σ) s m ([.ref a0] : List Value).toArray below meth c H locs (mxz υ - mxz σ) (mxu υ - mxu σ) (mx_Z below G P none σ σ' [.ref a0] s) (F0 m 103 ls [])) → ∀ (H : Heap) (locs : List Loc), mx_J G P s.heap (mxz σ) (mxu σ) τ H locs → ∀ ls : Array Slot, lv_has ls 4 [(0, .ref v0), (1, .int v1), (2, .int v2)] → W p l e (mx_rm P 0 0 σ) s m ([.ref a0] : List Value).toArray below meth c H locs (mxz τ - mxz σ) (mxu τ - mxu σ) (mx_Z below G P none σ σ' [.ref a0] s) (F0 m 26 ls []) := by
    intro v0 n
    induction n with
    | zero =>
      intro v1 v2 τ o hf
      rw [mx_lp0] at hf
      cases hf
    | succ n ih =>
      intro v1 v2 τ o hf Ke0 H locs hJ ls hl
      rw [mx_lpS] at hf
      obtain ⟨b, eb, hf⟩ := mb0 hf
      refine B26 v0 v1 v2 τ b eb (fun y1 y2 υ ho H locs hJ ls hl => ?_) (fun  υ ho H locs hJ ls hl => ?_) H locs hJ ls hl
      · subst ho
        exact ih y1 y2 υ o hf Ke0 H locs hJ ls hl
      · subst ho
        exact Ke0  υ (Option.some.inj hf).symm _ _ hJ ls hl
  unfold f_X6_numberPairs at hf
  refine lv_aload_n hx hb dX6_numberPairs_0 rfl (lv_at hl 0 rfl) ?_
  refine lv_aload_n hx hb dX6_numberPairs_1 rfl (lv_at hl 0 rfl) ?_
  obtain ⟨x1, e2, hf⟩ := mb0 hf
  refine my_gI hx hb hts hown hK hJ fd_RX6_35 hv_6_2 e2 dX6_numberPairs_2 ?_
  refine lv_aload_n hx hb dX6_numberPairs_5 rfl (lv_at hl 0 rfl) ?_
  obtain ⟨x3, e4, hf⟩ := mb0 hf
  refine my_gI hx hb hts hown hK hJ fd_RX6_35 hv_6_2 e4 dX6_numberPairs_6 ?_
  refine lv_iconst (v := 1) hx hb dX6_numberPairs_9 (by decide) ?_
  refine lv_isub hx hb dX6_numberPairs_10 ?_
  refine lv_imul hx hb dX6_numberPairs_11 ?_
  refine lv_iconst (v := 2) hx hb dX6_numberPairs_12 (by decide) ?_
  obtain ⟨x5, e6, hf⟩ := mb0 hf
  refine lv_idiv hx hb dX6_numberPairs_13 (md_Is e6).1 ?_
  refine mx_eI (md_Is e6).2 ?_
  obtain ⟨σ7, e8, hf⟩ := mb0 hf
  refine my_pI hx hb hts hown hK hJ fd_RX6_47 cd_6 (Or.inl rfl) ht_6_3 e8 dX6_numberPairs_14 (fun H locs hJ => ?_)
  refine lv_aload_n hx hb dX6_numberPairs_17 rfl (lv_at hl 0 rfl) ?_
  obtain ⟨x9, e10, hf⟩ := mb0 hf
  refine my_gI hx hb hts hown hK hJ fd_RX6_47 hv_6_3 e10 dX6_numberPairs_18 ?_
  refine lv_iconst (v := 1) hx hb dX6_numberPairs_21 (by decide) ?_
  refine lv_isub hx hb dX6_numberPairs_22 ?_
  obtain ⟨x11, e12, hf⟩ := mb0 hf
  refine mx_nI e12 ?_
  refine lv_istore_n (lv' := [(1, .int x11), (0, .ref a0)]) hx hb dX6_numberPairs_23 rfl hl (by decide) rfl (fun ls hl => ?_)
  refine lv_iconst (v := 0) hx hb dX6_numberPairs_24 (by decide) ?_
  refine lv_istore_n (lv' := [(2, .int (0 : Int32)), (1, .int x11), (0, .ref a0)]) hx hb dX6_numberPairs_25 rfl hl (by decide) rfl (fun ls hl => ?_)
  obtain ⟨o47, e48, hf⟩ := mb0 hf
  refine L26 a0 (mpN P) x11 (0 : Int32) σ7 o47 e48 (fun σ49 ho H locs hJ ls hl => ?_) _ _ hJ ls (lv_sub hl [2, 1, 0] rfl)
  · rw [ho] at hf
    have hf : (some σ49) = some σ' := hf
    exact my_vret hx hb hr hlocks hJ hf dX6_numberPairs_103
set_option maxHeartbeats 4000000 in
set_option maxRecDepth 100000 in
theorem c_J6_bitCount_0f7a4 (l : Launch) (G : mx_G) (P : mx_P) (p0 : Int32) (σ : mx_S) (r : Int32) (σ' : mx_S) (hf : f_J6_bitCount_0f7a4 P p0 σ = some (r, σ')) : mxz σ ≤ mpc P → mxu σ ≤ mps P → mx_M l yJ6_bitCount_0f7a4 cJ6_bitCount_0f7a4 1 (some .int) 0 0 G P [.int p0] σ (some (.int r)) σ' := by
  intro hcap hcau
  refine mx_ofW (by decide +kernel) hcap hcau (Nat.le_of_ble_eq_true rfl) ?_
  intro p e s m below meth c hx hb hr hml hts hown hlocks hname hK hJ ls hl
  have hz0 := hJ.2.1
  have hown : s.vm.findClass RJ6 = some m.cls := hown
  have hl : lv_has ls 1 [(0, .int p0)] := hl
  unfold f_J6_bitCount_0f7a4 at hf
  refine lv_iload_n hx hb dJ6_bitCount_0f7a4_0 rfl (lv_at hl 0 rfl) ?_
  refine lv_iload_n hx hb dJ6_bitCount_0f7a4_1 rfl (lv_at hl 0 rfl) ?_
  refine lv_iconst (v := 1) hx hb dJ6_bitCount_0f7a4_2 (by decide) ?_
  refine lv_iushr hx hb dJ6_bitCount_0f7a4_3 rfl ?_
  refine lv_ldcw hx hb hown (hts _ kw_1760) dJ6_bitCount_0f7a4_4 ?_
  refine lv_iand hx hb dJ6_bitCount_0f7a4_7 ?_
  refine lv_isub hx hb dJ6_bitCount_0f7a4_8 ?_
  obtain ⟨x1, e2, hf⟩ := mb0 hf
  refine mx_nI e2 ?_
  refine lv_istore_n (lv' := [(0, .int x1)]) hx hb dJ6_bitCount_0f7a4_9 rfl hl (by decide) rfl (fun ls hl => ?_)
  refine lv_iload_n hx hb dJ6_bitCount_0f7a4_10 rfl (lv_at hl 0 rfl) ?_
  refine lv_ldcw hx hb hown (hts _ kw_1761) dJ6_bitCount_0f7a4_11 ?_
  refine lv_iand hx hb dJ6_bitCount_0f7a4_14 ?_
  refine lv_iload_n hx hb dJ6_bitCount_0f7a4_15 rfl (lv_at hl 0 rfl) ?_
  refine lv_iconst (v := 2) hx hb dJ6_bitCount_0f7a4_16 (by decide) ?_
  refine lv_iushr hx hb dJ6_bitCount_0f7a4_17 rfl ?_
  refine lv_ldcw hx hb hown (hts _ kw_1761) dJ6_bitCount_0f7a4_18 ?_
  refine lv_iand hx hb dJ6_bitCount_0f7a4_21 ?_
  refine lv_iadd hx hb dJ6_bitCount_0f7a4_22 ?_
  obtain ⟨x3, e4, hf⟩ := mb0 hf
  refine mx_nI e4 ?_
  refine lv_istore_n (lv' := [(0, .int x3)]) hx hb dJ6_bitCount_0f7a4_23 rfl hl (by decide) rfl (fun ls hl => ?_)
  refine lv_iload_n hx hb dJ6_bitCount_0f7a4_24 rfl (lv_at hl 0 rfl) ?_
  refine lv_iload_n hx hb dJ6_bitCount_0f7a4_25 rfl (lv_at hl 0 rfl) ?_
  refine lv_iconst (v := 4) hx hb dJ6_bitCount_0f7a4_26 (by decide) ?_
  refine lv_iushr hx hb dJ6_bitCount_0f7a4_27 rfl ?_
  refine lv_iadd hx hb dJ6_bitCount_0f7a4_28 ?_
  refine lv_ldcw hx hb hown (hts _ kw_1762) dJ6_bitCount_0f7a4_29 ?_
  refine lv_iand hx hb dJ6_bitCount_0f7a4_32 ?_
  obtain ⟨x5, e6, hf⟩ := mb0 hf
  refine mx_nI e6 ?_
  refine lv_istore_n (lv' := [(0, .int x5)]) hx hb dJ6_bitCount_0f7a4_33 rfl hl (by decide) rfl (fun ls hl => ?_)
  refine lv_iload_n hx hb dJ6_bitCount_0f7a4_34 rfl (lv_at hl 0 rfl) ?_
  refine lv_iload_n hx hb dJ6_bitCount_0f7a4_35 rfl (lv_at hl 0 rfl) ?_
  refine lv_bipush (v := 8) hx hb dJ6_bitCount_0f7a4_36 (by decide) ?_
  refine lv_iushr hx hb dJ6_bitCount_0f7a4_38 rfl ?_
  refine lv_iadd hx hb dJ6_bitCount_0f7a4_39 ?_
  obtain ⟨x7, e8, hf⟩ := mb0 hf
  refine mx_nI e8 ?_
  refine lv_istore_n (lv' := [(0, .int x7)]) hx hb dJ6_bitCount_0f7a4_40 rfl hl (by decide) rfl (fun ls hl => ?_)
  refine lv_iload_n hx hb dJ6_bitCount_0f7a4_41 rfl (lv_at hl 0 rfl) ?_
  refine lv_iload_n hx hb dJ6_bitCount_0f7a4_42 rfl (lv_at hl 0 rfl) ?_
  refine lv_bipush (v := 16) hx hb dJ6_bitCount_0f7a4_43 (by decide) ?_
  refine lv_iushr hx hb dJ6_bitCount_0f7a4_45 rfl ?_
  refine lv_iadd hx hb dJ6_bitCount_0f7a4_46 ?_
  obtain ⟨x9, e10, hf⟩ := mb0 hf
  refine mx_nI e10 ?_
  refine lv_istore_n (lv' := [(0, .int x9)]) hx hb dJ6_bitCount_0f7a4_47 rfl hl (by decide) rfl (fun ls hl => ?_)
  refine lv_iload_n hx hb dJ6_bitCount_0f7a4_48 rfl (lv_at hl 0 rfl) ?_
  refine lv_bipush (v := 63) hx hb dJ6_bitCount_0f7a4_49 (by decide) ?_
  refine lv_iand hx hb dJ6_bitCount_0f7a4_51 ?_
  exact my_iret hx hb hr hlocks hJ hf dJ6_bitCount_0f7a4_52
set_option maxHeartbeats 4000000 in
set_option maxRecDepth 100000 in
theorem c_X6_isSeen (l : Launch) (G : mx_G) (P : mx_P) (a0 : Nat) (p1 : Int32) (σ : mx_S) (r : Int32) (σ' : mx_S) (hf : f_X6_isSeen P a0 p1 σ = some (r, σ')) : mxz σ ≤ mpc P → mxu σ ≤ mps P → mx_M l yX6_isSeen cX6_isSeen 2 (some .boolean) 0 0 G P [.ref a0, .int p1] σ (some (.int r)) σ' := by
  intro hcap hcau
  refine mx_ofW (by decide +kernel) hcap hcau (Nat.le_of_ble_eq_true rfl) ?_
  intro p e s m below meth c hx hb hr hml hts hown hlocks hname hK hJ ls hl
  have hz0 := hJ.2.1
  have hown : s.vm.findClass RX6 = some m.cls := hown
  have hl : lv_has ls 2 [(0, .ref a0), (1, .int p1)] := hl
  have D24 : ∀ (w0 : Int32) (τ : mx_S), f_X6_isSeen_D24 P w0 τ = some (r, σ') → ∀ (H : Heap) (locs : List Loc), mx_J G P s.heap (mxz σ) (mxu σ) τ H locs → ∀ ls : Array Slot, lv_has ls 2 [] → W p l e (mx_rm P 0 0 σ) s m ([.ref a0, .int p1] : List Value).toArray below meth c H locs (mxz τ - mxz σ) (mxu τ - mxu σ) (mx_Z below G P (some (.int r)) σ σ' [.ref a0, .int p1] s) (F0 m 24 ls [.int w0]) := by
    intro w0 τ hf _ _ hJ ls hl
    unfold f_X6_isSeen_D24 at hf
    exact mx_zret hx hb hr hlocks hJ hf dX6_isSeen_24
  unfold f_X6_isSeen at hf
  refine lv_aload_n hx hb dX6_isSeen_0 rfl (lv_at hl 0 rfl) ?_
  obtain ⟨b1, e2, hf⟩ := mb0 hf
  refine my_gR hx hb hts hown hK hJ fd_RX6_28 hv_6_9 e2 dX6_isSeen_1 ?_
  refine lv_iload_n hx hb dX6_isSeen_4 rfl (lv_at hl 1 rfl) ?_
  refine lv_iconst (v := 5) hx hb dX6_isSeen_5 (by decide) ?_
  refine lv_ishr hx hb dX6_isSeen_6 ?_
  obtain ⟨x3, e4, hf⟩ := mb0 hf
  refine mx_aI hx hb hK hJ e4 dX6_isSeen_7 ?_
  refine lv_iload_n hx hb dX6_isSeen_8 rfl (lv_at hl 1 rfl) ?_
  refine lv_bipush (v := 31) hx hb dX6_isSeen_9 (by decide) ?_
  refine lv_iand hx hb dX6_isSeen_11 ?_
  refine lv_ishr hx hb dX6_isSeen_12 ?_
  refine lv_iconst (v := 1) hx hb dX6_isSeen_13 (by decide) ?_
  refine lv_iand hx hb dX6_isSeen_14 ?_
  refine lv_iconst (v := 1) hx hb dX6_isSeen_15 (by decide) ?_
  refine lv_icmp_ne (tgt := 23) hx hb dX6_isSeen_16 (by decide) (fun c5 => ?_) (fun c5 => ?_)
  · rw [if_neg c5] at hf
    refine lv_iconst (v := 0) hx hb dX6_isSeen_23 (by decide) ?_
    exact D24 (0 : Int32) σ hf _ _ hJ ls (lv_sub hl [] rfl)
  · rw [if_pos c5] at hf
    refine lv_iconst (v := 1) hx hb dX6_isSeen_19 (by decide) ?_
    refine lv_goto (tgt := 24) hx hb dX6_isSeen_20 (by decide) ?_
    exact D24 (1 : Int32) σ hf _ _ hJ ls (lv_sub hl [] rfl)
set_option maxHeartbeats 4000000 in
set_option maxRecDepth 100000 in
theorem c_X6_isInOnePiece (l : Launch) (G : mx_G) (P : mx_P) (a0 : Nat) (σ : mx_S) (r : Int32) (σ' : mx_S) (hf : f_X6_isInOnePiece P a0 σ = some (r, σ')) : mxz σ ≤ mpc P → mxu σ ≤ mps P → mx_M l yX6_isInOnePiece cX6_isInOnePiece 4 (some .boolean) 0 0 G P [.ref a0] σ (some (.int r)) σ' := by
  intro hcap hcau
  refine mx_ofW (by decide +kernel) hcap hcau (Nat.le_of_ble_eq_true rfl) ?_
  intro p e s m below meth c hx hb hr hml hts hown hlocks hname hK hJ ls hl
  have hz0 := hJ.2.1
  have hown : s.vm.findClass RX6 = some m.cls := hown
  have hl : lv_has ls 4 [(0, .ref a0)] := hl
  have D40_14 : ∀ (v0 : Nat) (v1 : Int32) (v2 : Int32) (v3 : Int32) (τ : mx_S) (o : (Int32 × Int32 × mx_S) ⊕ ((Int32 × mx_S))), f_X6_isInOnePiece_D40_14 P v0 v1 v2 v3 τ = some o → (∀ (y1 : Int32) (y3 : Int32) (υ : mx_S), o = .inl (y1, y3, υ) → ∀ (H : Heap) (locs : List Loc), mx_J G P s.heap (mxz σ) (mxu σ) υ H locs → ∀ ls : Array Slot, lv_has ls 4 [(0, .ref v0), (1, .int y1), (2, .int v2), (3, .int y3)] → W p l e (mx_rm P 0 0 σ) s m ([.ref a0] : List Value).toArray below meth c H locs (mxz υ - mxz σ) (mxu υ - mxu σ) (mx_Z below G P (some (.int r)) σ σ' [.ref a0] s) (F0 m 14 ls [])) → (∀ (y1 : Int32) (υ : mx_S), o = .inr (y1, υ) → ∀ (H : Heap) (locs : List Loc), mx_J G P s.heap (mxz σ) (mxu σ) υ H locs → ∀ ls : Array Slot, lv_has ls 4 [(0, .ref v0), (1, .int y1), (2, .int v2)] → W p l e (mx_rm P 0 0 σ) s m ([.ref a0] : List Value).toArray below meth c H locs (mxz υ - mxz σ) (mxu υ - mxu σ) (mx_Z below G P (some (.int r)) σ σ' [.ref a0] s) (F0 m 46 ls [])) → ∀ (H : Heap) (locs : List Loc), mx_J G P s.heap (mxz σ) (mxu σ) τ H locs → ∀ ls : Array Slot, lv_has ls 4 [(0, .ref v0), (1, .int v1), (2, .int v2), (3, .int v3)] → W p l e (mx_rm P 0 0 σ) s m ([.ref a0] : List Value).toArray below meth c H locs (mxz τ - mxz σ) (mxu τ - mxu σ) (mx_Z below G P (some (.int r)) σ σ' [.ref a0] s) (F0 m 40 ls []) := by
    intro v0 v1 v2 v3 τ o hf Kb Ke0 H locs hJ ls hl
    unfold f_X6_isInOnePiece_D40_14 at hf
    obtain ⟨x8, e9, hf⟩ := mb0 hf
    refine lv_iinc (v := x8) (lv' := [(3, .int x8), (0, .ref v0), (1, .int v1), (2, .int v2)]) hx hb dX6_isInOnePiece_40 hl (k := 3) rfl (by rw [← Option.some.inj e9]; rfl) (by decide) rfl (fun ls hl => ?_)
    refine lv_goto (tgt := 14) hx hb dX6_isInOnePiece_43 (by decide) ?_
    exact Kb v1 x8 τ (Option.some.inj hf).symm _ _ hJ ls (lv_sub hl [1, 2, 3, 0] rfl)
  have B14 : ∀ (v0 : Nat) (v2 : Int32) (v1 : Int32) (v3 : Int32) (τ : mx_S) (o : (Int32 × Int32 × mx_S) ⊕ ((Int32 × mx_S))), f_X6_isInOnePiece_B14 P v0 v2 v1 v3 τ = some o → (∀ (y1 : Int32) (y3 : Int32) (υ : mx_S), o = .inl (y1, y3, υ) → ∀ (H : Heap) (locs : List Loc), mx_J G P s.heap (mxz σ) (mxu σ) υ H locs → ∀ ls : Array Slot, lv_has ls 4 [(0, .ref v0), (1, .int y1), (2, .int v2), (3, .int y3)] → W p l e (mx_rm P 0 0 σ) s m ([.ref a0] : List Value).toArray below meth c H locs (mxz υ - mxz σ) (mxu υ - mxu σ) (mx_Z below G P (some (.int r)) σ σ' [.ref a0] s) (F0 m 14 ls [])) → (∀ (y1 : Int32) (υ : mx_S), o = .inr (y1, υ) → ∀ (H : Heap) (locs : List Loc), mx_J G P s.heap (mxz σ) (mxu σ) υ H locs → ∀ ls : Array Slot, lv_has ls 4 [(0, .ref v0), (1, .int y1), (2, .int v2)] → W p l e (mx_rm P 0 0 σ) s m ([.ref a0] : List Value).toArray below meth c H locs (mxz υ - mxz σ) (mxu υ - mxu σ) (mx_Z below G P (some (.int r)) σ σ' [.ref a0] s) (F0 m 46 ls [])) → ∀ (H : Heap) (locs : List Loc), mx_J G P s.heap (mxz σ) (mxu σ) τ H locs → ∀ ls : Array Slot, lv_has ls 4 [(0, .ref v0), (1, .int v1), (2, .int v2), (3, .int v3)] → W p l e (mx_rm P 0 0 σ) s m ([.ref a0] : List Value).toArray below meth c H locs (mxz τ - mxz σ) (mxu τ - mxu σ) (mx_Z below G P (some (.int r)) σ σ' [.ref a0] s) (F0 m 14 ls []) := by
    intro v0 v2 v1 v3 τ o hf Kb Ke0 H locs hJ ls hl
    unfold f_X6_isInOnePiece_B14 at hf
    refine lv_iload_n hx hb dX6_isInOnePiece_14 rfl (lv_at hl 3 rfl) ?_
    refine lv_aload_n hx hb dX6_isInOnePiece_15 rfl (lv_at hl 0 rfl) ?_
    obtain ⟨x4, e5, hf⟩ := mb0 hf
    refine my_gI hx hb hts hown hK hJ fd_RX6_35 hv_6_2 e5 dX6_isInOnePiece_16 ?_
    refine lv_icmp_ge (tgt := 46) hx hb dX6_isInOnePiece_19 (by decide) (fun c6 => ?_) (fun c6 => ?_)
    · rw [if_pos c6] at hf
      exact Ke0 v1 τ (Option.some.inj hf).symm _ _ hJ ls (lv_sub hl [0, 1, 2] rfl)
    · rw [if_neg c6] at hf
      refine lv_iload_n hx hb dX6_isInOnePiece_22 rfl (lv_at hl 1 rfl) ?_
      refine lv_iload_n hx hb dX6_isInOnePiece_23 rfl (lv_at hl 3 rfl) ?_
      refine lv_ishr hx hb dX6_isInOnePiece_24 ?_
      refine lv_iconst (v := 1) hx hb dX6_isInOnePiece_25 (by decide) ?_
      refine lv_iand hx hb dX6_isInOnePiece_26 ?_
      refine lv_iconst (v := 1) hx hb dX6_isInOnePiece_27 (by decide) ?_
      refine lv_icmp_ne (tgt := 40) hx hb dX6_isInOnePiece_28 (by decide) (fun c7 => ?_) (fun c7 => ?_)
      · rw [if_neg c7] at hf
        exact D40_14 v0 v1 v2 v3 τ o hf Kb Ke0 _ _ hJ ls (lv_sub hl [0, 1, 2, 3] rfl)
      · rw [if_pos c7] at hf
        refine lv_iload_n hx hb dX6_isInOnePiece_31 rfl (lv_at hl 1 rfl) ?_
        refine lv_aload_n hx hb dX6_isInOnePiece_32 rfl (lv_at hl 0 rfl) ?_
        obtain ⟨b10, e11, hf⟩ := mb0 hf
        refine my_gR hx hb hts hown hK hJ fd_RX6_22 hv_6_7 e11 dX6_isInOnePiece_33 ?_
        refine lv_iload_n hx hb dX6_isInOnePiece_36 rfl (lv_at hl 3 rfl) ?_
        obtain ⟨x12, e13, hf⟩ := mb0 hf
        refine mx_aI hx hb hK hJ e13 dX6_isInOnePiece_37 ?_
        refine lv_ior hx hb dX6_isInOnePiece_38 ?_
        obtain ⟨x14, e15, hf⟩ := mb0 hf
        refine mx_nI e15 ?_
        refine lv_istore_n (lv' := [(1, .int x14), (0, .ref v0), (2, .int v2), (3, .int v3)]) hx hb dX6_isInOnePiece_39 rfl hl (by decide) rfl (fun ls hl => ?_)
        exact D40_14 v0 x14 v2 v3 τ o hf Kb Ke0 _ _ hJ ls (lv_sub hl [1, 0, 2, 3] rfl)
  have L14 : ∀ (v0 : Nat) (v2 : Int32) (n : Nat) (v1 : Int32) (v3 : Int32) (τ : mx_S) (o : (Int32 × mx_S)), mx_lp (f_X6_isInOnePiece_L14 P v0 v2) n (v1, v3, τ) = some o → (∀ (y1 : Int32) (υ : mx_S), o = (y1, υ) → ∀ (H : Heap) (locs : List Loc), mx_J G P s.heap (mxz σ) (mxu σ) υ H locs → ∀ ls : Array Slot, lv_has ls 4 [(0, .ref v0), (1, .int y1), (2, .int v2)] → W p l e (mx_rm P 0 0 σ) s m ([.ref a0] : List Value).toArray below meth c H locs (mxz υ - mxz σ) (mxu υ - mxu σ) (mx_Z below G P (some (.int r)) σ σ' [.ref a0] s) (F0 m 46 ls [])) → ∀ (H : Heap) (locs : List Loc), mx_J G P s.heap (mxz σ) (mxu σ) τ H locs → ∀ ls : Array Slot, lv_has ls 4 [(0, .ref v0), (1, .int v1), (2, .int v2), (3, .int v3)] → W p l e (mx_rm P 0 0 σ) s m ([.ref a0] : List Value).toArray below meth c H locs (mxz τ - mxz σ) (mxu τ - mxu σ) (mx_Z below G P (some (.int r)) σ σ' [.ref a0] s) (F0 m 14 ls []) := by
    intro v0 v2 n
    induction n with
    | zero =>
      intro v1 v3 τ o hf
      rw [mx_lp0] at hf
      cases hf
    | succ n ih =>
      intro v1 v3 τ o hf Ke0 H locs hJ ls hl
      rw [mx_lpS] at hf
      obtain ⟨b, eb, hf⟩ := mb0 hf
      refine B14 v0 v2 v1 v3 τ b eb (fun y1 y3 υ ho H locs hJ ls hl => ?_) (fun y1 υ ho H locs hJ ls hl => ?_) H locs hJ ls hl
      · subst ho
        exact ih y1 y3 υ o hf Ke0 H locs hJ ls hl
      · subst ho
        exact Ke0 y1 υ (Option.some.inj hf).symm _ _ hJ ls hl
  have B4 : ∀ (v0 : Nat) (v1 : Int32) (v2 : Int32) (τ : mx_S) (o : (Int32 × Int32 × mx_S) ⊕ ((Int32 × mx_S))), f_X6_isInOnePiece_B4 P v0 v1 v2 τ = some o → (∀ (y1 : Int32) (y2 : Int32) (υ : mx_S), o = .inl (y1, y2, υ) → ∀ (H : Heap) (locs : List Loc), mx_J G P s.heap (mxz σ) (mxu σ) υ H locs → ∀ ls : Array Slot, lv_has ls 4 [(0, .ref v0), (1, .int y1), (2, .int y2)] → W p l e (mx_rm P 0 0 σ) s m ([.ref a0] : List Value).toArray below meth c H locs (mxz υ - mxz σ) (mxu υ - mxu σ) (mx_Z below G P (some (.int r)) σ σ' [.ref a0] s) (F0 m 4 ls [])) → (∀ (y1 : Int32) (υ : mx_S), o = .inr (y1, υ) → ∀ (H : Heap) (locs : List Loc), mx_J G P s.heap (mxz σ) (mxu σ) υ H locs → ∀ ls : Array Slot, lv_has ls 4 [(0, .ref v0), (1, .int y1)] → W p l e (mx_rm P 0 0 σ) s m ([.ref a0] : List Value).toArray below meth c H locs (mxz υ - mxz σ) (mxu υ - mxu σ) (mx_Z below G P (some (.int r)) σ σ' [.ref a0] s) (F0 m 52 ls [])) → ∀ (H : Heap) (locs : List Loc), mx_J G P s.heap (mxz σ) (mxu σ) τ H locs → ∀ ls : Array Slot, lv_has ls 4 [(0, .ref v0), (1, .int v1), (2, .int v2)] → W p l e (mx_rm P 0 0 σ) s m ([.ref a0] : List Value).toArray below meth c H locs (mxz τ - mxz σ) (mxu τ - mxu σ) (mx_Z below G P (some (.int r)) σ σ' [.ref a0] s) (F0 m 4 ls []) := by
    intro v0 v1 v2 τ o hf Kb Ke0 H locs hJ ls hl
    unfold f_X6_isInOnePiece_B4 at hf
    refine lv_iload_n hx hb dX6_isInOnePiece_4 rfl (lv_at hl 2 rfl) ?_
    refine lv_aload_n hx hb dX6_isInOnePiece_5 rfl (lv_at hl 0 rfl) ?_
    obtain ⟨x1, e2, hf⟩ := mb0 hf
    refine my_gI hx hb hts hown hK hJ fd_RX6_35 hv_6_2 e2 dX6_isInOnePiece_6 ?_
    refine lv_icmp_ge (tgt := 52) hx hb dX6_isInOnePiece_9 (by decide) (fun c3 => ?_) (fun c3 => ?_)
    · rw [if_pos c3] at hf
      exact Ke0 v1 τ (Option.some.inj hf).symm _ _ hJ ls (lv_sub hl [0, 1] rfl)
    · rw [if_neg c3] at hf
      refine lv_iconst (v := 0) hx hb dX6_isInOnePiece_12 (by decide) ?_
      refine lv_istore_n (lv' := [(3, .int (0 : Int32)), (0, .ref v0), (1, .int v1), (2, .int v2)]) hx hb dX6_isInOnePiece_13 rfl hl (by decide) rfl (fun ls hl => ?_)
      obtain ⟨o16, e17, hf⟩ := mb0 hf
      refine L14 v0 v2 (mpN P) v1 (0 : Int32) τ o16 e17 (fun y18 σ19 ho H locs hJ ls hl => ?_) _ _ hJ ls (lv_sub hl [1, 2, 3, 0] rfl)
      · rw [ho] at hf
        have hf : ((some (v2 + (1 : Int32))).bind fun x20 => some (.inl (y18, x20, σ19))) = some o := hf
        obtain ⟨x20, e21, hf⟩ := mb0 hf
        refine lv_iinc (v := x20) (lv' := [(2, .int x20), (0, .ref v0), (1, .int y18)]) hx hb dX6_isInOnePiece_46 hl (k := 2) rfl (by rw [← Option.some.inj e21]; rfl) (by decide) rfl (fun ls hl => ?_)
        refine lv_goto (tgt := 4) hx hb dX6_isInOnePiece_49 (by decide) ?_
        exact Kb y18 x20 σ19 (Option.some.inj hf).symm _ _ hJ ls (lv_sub hl [1, 2, 0] rfl)
  have L4 : ∀ (v0 : Nat) (n : Nat) (v1 : Int32) (v2 : Int32) (τ : mx_S) (o : (Int32 × mx_S)), mx_lp (f_X6_isInOnePiece_L4 P v0) n (v1, v2, τ) = some o → (∀ (y1 : Int32) (υ : mx_S), o = (y1, υ) → ∀ (H : Heap) (locs : List Loc), mx_J G P s.heap (mxz σ) (mxu σ) υ H locs → ∀ ls : Array Slot, lv_has ls 4 [(0, .ref v0), (1, .int y1)] → W p l e (mx_rm P 0 0 σ) s m ([.ref a0] : List Value).toArray below meth c H locs (mxz υ - mxz σ) (mxu υ - mxu σ) (mx_Z below G P (some (.int r)) σ σ' [.ref a0] s) (F0 m 52 ls [])) → ∀ (H : Heap) (locs : List Loc), mx_J G P s.heap (mxz σ) (mxu σ) τ H locs → ∀ ls : Array Slot, lv_has ls 4 [(0, .ref v0), (1, .int v1), (2, .int v2)] → W p l e (mx_rm P 0 0 σ) s m ([.ref a0] : List Value).toArray below meth c H locs (mxz τ - mxz σ) (mxu τ - mxu σ) (mx_Z below G P (some (.int r)) σ σ' [.ref a0] s) (F0 m 4 ls []) := by
    intro v0 n
    induction n with
    | zero =>
      intro v1 v2 τ o hf
      rw [mx_lp0] at hf
      cases hf
    | succ n ih =>
      intro v1 v2 τ o hf Ke0 H locs hJ ls hl
      rw [mx_lpS] at hf
      obtain ⟨b, eb, hf⟩ := mb0 hf
      refine B4 v0 v1 v2 τ b eb (fun y1 y2 υ ho H locs hJ ls hl => ?_) (fun y1 υ ho H locs hJ ls hl => ?_) H locs hJ ls hl
      · subst ho
        exact ih y1 y2 υ o hf Ke0 H locs hJ ls hl
      · subst ho
        exact Ke0 y1 υ (Option.some.inj hf).symm _ _ hJ ls hl
  have D69 : ∀ (w0 : Int32) (τ : mx_S), f_X6_isInOnePiece_D69 P w0 τ = some (r, σ') → ∀ (H : Heap) (locs : List Loc), mx_J G P s.heap (mxz σ) (mxu σ) τ H locs → ∀ ls : Array Slot, lv_has ls 4 [] → W p l e (mx_rm P 0 0 σ) s m ([.ref a0] : List Value).toArray below meth c H locs (mxz τ - mxz σ) (mxu τ - mxu σ) (mx_Z below G P (some (.int r)) σ σ' [.ref a0] s) (F0 m 69 ls [.int w0]) := by
    intro w0 τ hf _ _ hJ ls hl
    unfold f_X6_isInOnePiece_D69 at hf
    exact mx_zret hx hb hr hlocks hJ hf dX6_isInOnePiece_69
  unfold f_X6_isInOnePiece at hf
  refine lv_iconst (v := 1) hx hb dX6_isInOnePiece_0 (by decide) ?_
  refine lv_istore_n (lv' := [(1, .int (1 : Int32)), (0, .ref a0)]) hx hb dX6_isInOnePiece_1 rfl hl (by decide) rfl (fun ls hl => ?_)
  refine lv_iconst (v := 0) hx hb dX6_isInOnePiece_2 (by decide) ?_
  refine lv_istore_n (lv' := [(2, .int (0 : Int32)), (1, .int (1 : Int32)), (0, .ref a0)]) hx hb dX6_isInOnePiece_3 rfl hl (by decide) rfl (fun ls hl => ?_)
  obtain ⟨o22, e23, hf⟩ := mb0 hf
  refine L4 a0 (mpN P) (1 : Int32) (0 : Int32) σ o22 e23 (fun y24 σ25 ho H locs hJ ls hl => ?_) _ _ hJ ls (lv_sub hl [2, 1, 0] rfl)
  · rw [ho] at hf
    have hf : ((mg_I σ25 a0 6 2).bind fun x26 => (if y24 = (((1 : Int32) <<< (x26 &&& 31)) - (1 : Int32)) then f_X6_isInOnePiece_D69 P (1 : Int32) σ25 else f_X6_isInOnePiece_D69 P (0 : Int32) σ25)) = some (r, σ') := hf
    refine lv_iload_n hx hb dX6_isInOnePiece_52 rfl (lv_at hl 1 rfl) ?_
    refine lv_iconst (v := 1) hx hb dX6_isInOnePiece_53 (by decide) ?_
    refine lv_aload_n hx hb dX6_isInOnePiece_54 rfl (lv_at hl 0 rfl) ?_
    obtain ⟨x26, e27, hf⟩ := mb0 hf
    refine my_gI hx hb hts hown hK hJ fd_RX6_35 hv_6_2 e27 dX6_isInOnePiece_55 ?_
    refine lv_ishl hx hb dX6_isInOnePiece_58 ?_
    refine lv_iconst (v := 1) hx hb dX6_isInOnePiece_59 (by decide) ?_
    refine lv_isub hx hb dX6_isInOnePiece_60 ?_
    refine lv_icmp_ne (tgt := 68) hx hb dX6_isInOnePiece_61 (by decide) (fun c28 => ?_) (fun c28 => ?_)
    · rw [if_neg c28] at hf
      refine lv_iconst (v := 0) hx hb dX6_isInOnePiece_68 (by decide) ?_
      exact D69 (0 : Int32) σ25 hf _ _ hJ ls (lv_sub hl [] rfl)
    · rw [if_pos c28] at hf
      refine lv_iconst (v := 1) hx hb dX6_isInOnePiece_64 (by decide) ?_
      refine lv_goto (tgt := 69) hx hb dX6_isInOnePiece_65 (by decide) ?_
      exact D69 (1 : Int32) σ25 hf _ _ hJ ls (lv_sub hl [] rfl)
set_option maxHeartbeats 4000000 in
set_option maxRecDepth 100000 in
theorem c_X6_hasStiffPart (l : Launch) (G : mx_G) (P : mx_P) (a0 : Nat) (σ : mx_S) (r : Int32) (σ' : mx_S) (hf : f_X6_hasStiffPart P a0 σ = some (r, σ')) : mxz σ ≤ mpc P → mxu σ ≤ mps P → mx_M l yX6_hasStiffPart cX6_hasStiffPart 4 (some .boolean) 1 20 G P [.ref a0] σ (some (.int r)) σ' := by
  intro hcap hcau
  refine mx_ofW (by decide +kernel) hcap hcau (Nat.le_of_ble_eq_true rfl) ?_
  intro p e s m below meth c hx hb hr hml hts hown hlocks hname hK hJ ls hl
  have hz0 := hJ.2.1
  have hown : s.vm.findClass RX6 = some m.cls := hown
  have hl : lv_has ls 4 [(0, .ref a0)] := hl
  have D49_18 : ∀ (v0 : Nat) (v1 : Int32) (v2 : Int32) (v3 : Int32) (τ : mx_S) (o : (Int32 × Int32 × mx_S) ⊕ ((Int32 × mx_S))), f_X6_hasStiffPart_D49_18 P v0 v1 v2 v3 τ = some o → (∀ (y2 : Int32) (y3 : Int32) (υ : mx_S), o = .inl (y2, y3, υ) → ∀ (H : Heap) (locs : List Loc), mx_J G P s.heap (mxz σ) (mxu σ) υ H locs → ∀ ls : Array Slot, lv_has ls 4 [(0, .ref v0), (1, .int v1), (2, .int y2), (3, .int y3)] → W p l e (mx_rm P 1 20 σ) s m ([.ref a0] : List Value).toArray below meth c H locs (mxz υ - mxz σ) (mxu υ - mxu σ) (mx_Z below G P (some (.int r)) σ σ' [.ref a0] s) (F0 m 18 ls [])) → (∀ (y2 : Int32) (υ : mx_S), o = .inr (y2, υ) → ∀ (H : Heap) (locs : List Loc), mx_J G P s.heap (mxz σ) (mxu σ) υ H locs → ∀ ls : Array Slot, lv_has ls 4 [(0, .ref v0), (1, .int v1), (2, .int y2)] → W p l e (mx_rm P 1 20 σ) s m ([.ref a0] : List Value).toArray below meth c H locs (mxz υ - mxz σ) (mxu υ - mxu σ) (mx_Z below G P (some (.int r)) σ σ' [.ref a0] s) (F0 m 55 ls [])) → ∀ (H : Heap) (locs : List Loc), mx_J G P s.heap (mxz σ) (mxu σ) τ H locs → ∀ ls : Array Slot, lv_has ls 4 [(0, .ref v0), (1, .int v1), (2, .int v2), (3, .int v3)] → W p l e (mx_rm P 1 20 σ) s m ([.ref a0] : List Value).toArray below meth c H locs (mxz τ - mxz σ) (mxu τ - mxu σ) (mx_Z below G P (some (.int r)) σ σ' [.ref a0] s) (F0 m 49 ls []) := by
    intro v0 v1 v2 v3 τ o hf Kb Ke0 H locs hJ ls hl
    unfold f_X6_hasStiffPart_D49_18 at hf
    obtain ⟨x8, e9, hf⟩ := mb0 hf
    refine lv_iinc (v := x8) (lv' := [(3, .int x8), (0, .ref v0), (1, .int v1), (2, .int v2)]) hx hb dX6_hasStiffPart_49 hl (k := 3) rfl (by rw [← Option.some.inj e9]; rfl) (by decide) rfl (fun ls hl => ?_)
    refine lv_goto (tgt := 18) hx hb dX6_hasStiffPart_52 (by decide) ?_
    exact Kb v2 x8 τ (Option.some.inj hf).symm _ _ hJ ls (lv_sub hl [1, 2, 3, 0] rfl)
  have B18 : ∀ (v0 : Nat) (v1 : Int32) (v2 : Int32) (v3 : Int32) (τ : mx_S) (o : (Int32 × Int32 × mx_S) ⊕ ((Int32 × mx_S))), f_X6_hasStiffPart_B18 P v0 v1 v2 v3 τ = some o → (∀ (y2 : Int32) (y3 : Int32) (υ : mx_S), o = .inl (y2, y3, υ) → ∀ (H : Heap) (locs : List Loc), mx_J G P s.heap (mxz σ) (mxu σ) υ H locs → ∀ ls : Array Slot, lv_has ls 4 [(0, .ref v0), (1, .int v1), (2, .int y2), (3, .int y3)] → W p l e (mx_rm P 1 20 σ) s m ([.ref a0] : List Value).toArray below meth c H locs (mxz υ - mxz σ) (mxu υ - mxu σ) (mx_Z below G P (some (.int r)) σ σ' [.ref a0] s) (F0 m 18 ls [])) → (∀ (y2 : Int32) (υ : mx_S), o = .inr (y2, υ) → ∀ (H : Heap) (locs : List Loc), mx_J G P s.heap (mxz σ) (mxu σ) υ H locs → ∀ ls : Array Slot, lv_has ls 4 [(0, .ref v0), (1, .int v1), (2, .int y2)] → W p l e (mx_rm P 1 20 σ) s m ([.ref a0] : List Value).toArray below meth c H locs (mxz υ - mxz σ) (mxu υ - mxu σ) (mx_Z below G P (some (.int r)) σ σ' [.ref a0] s) (F0 m 55 ls [])) → ∀ (H : Heap) (locs : List Loc), mx_J G P s.heap (mxz σ) (mxu σ) τ H locs → ∀ ls : Array Slot, lv_has ls 4 [(0, .ref v0), (1, .int v1), (2, .int v2), (3, .int v3)] → W p l e (mx_rm P 1 20 σ) s m ([.ref a0] : List Value).toArray below meth c H locs (mxz τ - mxz σ) (mxu τ - mxu σ) (mx_Z below G P (some (.int r)) σ σ' [.ref a0] s) (F0 m 18 ls []) := by
    intro v0 v1 v2 v3 τ o hf Kb Ke0 H locs hJ ls hl
    unfold f_X6_hasStiffPart_B18 at hf
    refine lv_iload_n hx hb dX6_hasStiffPart_18 rfl (lv_at hl 3 rfl) ?_
    refine lv_aload_n hx hb dX6_hasStiffPart_19 rfl (lv_at hl 0 rfl) ?_
    obtain ⟨x4, e5, hf⟩ := mb0 hf
    refine my_gI hx hb hts hown hK hJ fd_RX6_35 hv_6_2 e5 dX6_hasStiffPart_20 ?_
    refine lv_icmp_ge (tgt := 55) hx hb dX6_hasStiffPart_23 (by decide) (fun c6 => ?_) (fun c6 => ?_)
    · rw [if_pos c6] at hf
      exact Ke0 v2 τ (Option.some.inj hf).symm _ _ hJ ls (lv_sub hl [0, 1, 2] rfl)
    · rw [if_neg c6] at hf
      refine lv_iload_n hx hb dX6_hasStiffPart_26 rfl (lv_at hl 1 rfl) ?_
      refine lv_iload_n hx hb dX6_hasStiffPart_27 rfl (lv_at hl 3 rfl) ?_
      refine lv_ishr hx hb dX6_hasStiffPart_28 ?_
      refine lv_iconst (v := 1) hx hb dX6_hasStiffPart_29 (by decide) ?_
      refine lv_iand hx hb dX6_hasStiffPart_30 ?_
      refine lv_iconst (v := 1) hx hb dX6_hasStiffPart_31 (by decide) ?_
      refine lv_icmp_ne (tgt := 49) hx hb dX6_hasStiffPart_32 (by decide) (fun c7 => ?_) (fun c7 => ?_)
      · rw [if_neg c7] at hf
        exact D49_18 v0 v1 v2 v3 τ o hf Kb Ke0 _ _ hJ ls (lv_sub hl [0, 1, 2, 3] rfl)
      · rw [if_pos c7] at hf
        refine lv_iload_n hx hb dX6_hasStiffPart_35 rfl (lv_at hl 2 rfl) ?_
        refine lv_aload_n hx hb dX6_hasStiffPart_36 rfl (lv_at hl 0 rfl) ?_
        obtain ⟨b10, e11, hf⟩ := mb0 hf
        refine my_gR hx hb hts hown hK hJ fd_RX6_22 hv_6_7 e11 dX6_hasStiffPart_37 ?_
        refine lv_iload_n hx hb dX6_hasStiffPart_40 rfl (lv_at hl 3 rfl) ?_
        obtain ⟨x12, e13, hf⟩ := mb0 hf
        refine mx_aI hx hb hK hJ e13 dX6_hasStiffPart_41 ?_
        refine lv_iload_n hx hb dX6_hasStiffPart_42 rfl (lv_at hl 1 rfl) ?_
        refine lv_iand hx hb dX6_hasStiffPart_43 ?_
        obtain ⟨x15, σ14, e16, hf⟩ := mc0 hf
        refine mx_callS (As := [.int (x12 &&& v1)]) (rest := [.int v2]) hx hb hml hts hown hK hJ rfl rfl (c_J6_bitCount_0f7a4 l G P (x12 &&& v1) τ x15 σ14 e16) me_J6_bitCount_0f7a4 kw_1758 kw_1757 (Nat.le_of_ble_eq_true rfl) (Nat.le_of_ble_eq_true rfl) rfl hl.1 rfl (Nat.le_of_ble_eq_true rfl) dX6_hasStiffPart_44 (fun H locs hJ => ?_)
        refine lv_iadd hx hb dX6_hasStiffPart_47 ?_
        obtain ⟨x17, e18, hf⟩ := mb0 hf
        refine mx_nI e18 ?_
        refine lv_istore_n (lv' := [(2, .int x17), (0, .ref v0), (1, .int v1), (3, .int v3)]) hx hb dX6_hasStiffPart_48 rfl hl (by decide) rfl (fun ls hl => ?_)
        exact D49_18 v0 v1 x17 v3 σ14 o hf Kb Ke0 _ _ hJ ls (lv_sub hl [1, 2, 0, 3] rfl)
  have L18 : ∀ (v0 : Nat) (v1 : Int32) (n : Nat) (v2 : Int32) (v3 : Int32) (τ : mx_S) (o : (Int32 × mx_S)), mx_lp (f_X6_hasStiffPart_L18 P v0 v1) n (v2, v3, τ) = some o → (∀ (y2 : Int32) (υ : mx_S), o = (y2, υ) → ∀ (H : Heap) (locs : List Loc), mx_J G P s.heap (mxz σ) (mxu σ) υ H locs → ∀ ls : Array Slot, lv_has ls 4 [(0, .ref v0), (1, .int v1), (2, .int y2)] → W p l e (mx_rm P 1 20 σ) s m ([.ref a0] : List Value).toArray below meth c H locs (mxz υ - mxz σ) (mxu υ - mxu σ) (mx_Z below G P (some (.int r)) σ σ' [.ref a0] s) (F0 m 55 ls [])) → ∀ (H : Heap) (locs : List Loc), mx_J G P s.heap (mxz σ) (mxu σ) τ H locs → ∀ ls : Array Slot, lv_has ls 4 [(0, .ref v0), (1, .int v1), (2, .int v2), (3, .int v3)] → W p l e (mx_rm P 1 20 σ) s m ([.ref a0] : List Value).toArray below meth c H locs (mxz τ - mxz σ) (mxu τ - mxu σ) (mx_Z below G P (some (.int r)) σ σ' [.ref a0] s) (F0 m 18 ls []) := by
    intro v0 v1 n
    induction n with
    | zero =>
      intro v2 v3 τ o hf
      rw [mx_lp0] at hf
      cases hf
    | succ n ih =>
      intro v2 v3 τ o hf Ke0 H locs hJ ls hl
      rw [mx_lpS] at hf
      obtain ⟨b, eb, hf⟩ := mb0 hf
      refine B18 v0 v1 v2 v3 τ b eb (fun y2 y3 υ ho H locs hJ ls hl => ?_) (fun y2 υ ho H locs hJ ls hl => ?_) H locs hJ ls hl
      · subst ho
        exact ih y2 y3 υ o hf Ke0 H locs hJ ls hl
      · subst ho
        exact Ke0 y2 υ (Option.some.inj hf).symm _ _ hJ ls hl
  have D76_2 : ∀ (v0 : Nat) (v1 : Int32) (τ : mx_S) (o : (Int32 × mx_S) ⊕ ((mx_S) ⊕ (mx_S))), f_X6_hasStiffPart_D76_2 P v0 v1 τ = some o → (∀ (y1 : Int32) (υ : mx_S), o = .inl (y1, υ) → ∀ (H : Heap) (locs : List Loc), mx_J G P s.heap (mxz σ) (mxu σ) υ H locs → ∀ ls : Array Slot, lv_has ls 4 [(0, .ref v0), (1, .int y1)] → W p l e (mx_rm P 1 20 σ) s m ([.ref a0] : List Value).toArray below meth c H locs (mxz υ - mxz σ) (mxu υ - mxu σ) (mx_Z below G P (some (.int r)) σ σ' [.ref a0] s) (F0 m 2 ls [])) → (∀  (υ : mx_S), o = .inr (.inl υ) → ∀ (H : Heap) (locs : List Loc), mx_J G P s.heap (mxz σ) (mxu σ) υ H locs → ∀ ls : Array Slot, lv_has ls 4 [] → W p l e (mx_rm P 1 20 σ) s m ([.ref a0] : List Value).toArray below meth c H locs (mxz υ - mxz σ) (mxu υ - mxu σ) (mx_Z below G P (some (.int r)) σ σ' [.ref a0] s) (F0 m 74 ls [])) → (∀  (υ : mx_S), o = .inr (.inr υ) → ∀ (H : Heap) (locs : List Loc), mx_J G P s.heap (mxz σ) (mxu σ) υ H locs → ∀ ls : Array Slot, lv_has ls 4 [] → W p l e (mx_rm P 1 20 σ) s m ([.ref a0] : List Value).toArray below meth c H locs (mxz υ - mxz σ) (mxu υ - mxu σ) (mx_Z below G P (some (.int r)) σ σ' [.ref a0] s) (F0 m 82 ls [])) → ∀ (H : Heap) (locs : List Loc), mx_J G P s.heap (mxz σ) (mxu σ) τ H locs → ∀ ls : Array Slot, lv_has ls 4 [(0, .ref v0), (1, .int v1)] → W p l e (mx_rm P 1 20 σ) s m ([.ref a0] : List Value).toArray below meth c H locs (mxz τ - mxz σ) (mxu τ - mxu σ) (mx_Z below G P (some (.int r)) σ σ' [.ref a0] s) (F0 m 76 ls []) := by
    intro v0 v1 τ o hf Kb Ke0 Ke1 H locs hJ ls hl
    unfold f_X6_hasStiffPart_D76_2 at hf
    obtain ⟨x27, e28, hf⟩ := mb0 hf
    refine lv_iinc (v := x27) (lv' := [(1, .int x27), (0, .ref v0)]) hx hb dX6_hasStiffPart_76 hl (k := 1) rfl (by rw [← Option.some.inj e28]; rfl) (by decide) rfl (fun ls hl => ?_)
    refine lv_goto (tgt := 2) hx hb dX6_hasStiffPart_79 (by decide) ?_
    exact Kb x27 τ (Option.some.inj hf).symm _ _ hJ ls (lv_sub hl [1, 0] rfl)
  have B2 : ∀ (v0 : Nat) (v1 : Int32) (τ : mx_S) (o : (Int32 × mx_S) ⊕ ((mx_S) ⊕ (mx_S))), f_X6_hasStiffPart_B2 P v0 v1 τ = some o → (∀ (y1 : Int32) (υ : mx_S), o = .inl (y1, υ) → ∀ (H : Heap) (locs : List Loc), mx_J G P s.heap (mxz σ) (mxu σ) υ H locs → ∀ ls : Array Slot, lv_has ls 4 [(0, .ref v0), (1, .int y1)] → W p l e (mx_rm P 1 20 σ) s m ([.ref a0] : List Value).toArray below meth c H locs (mxz υ - mxz σ) (mxu υ - mxu σ) (mx_Z below G P (some (.int r)) σ σ' [.ref a0] s) (F0 m 2 ls [])) → (∀  (υ : mx_S), o = .inr (.inl υ) → ∀ (H : Heap) (locs : List Loc), mx_J G P s.heap (mxz σ) (mxu σ) υ H locs → ∀ ls : Array Slot, lv_has ls 4 [] → W p l e (mx_rm P 1 20 σ) s m ([.ref a0] : List Value).toArray below meth c H locs (mxz υ - mxz σ) (mxu υ - mxu σ) (mx_Z below G P (some (.int r)) σ σ' [.ref a0] s) (F0 m 74 ls [])) → (∀  (υ : mx_S), o = .inr (.inr υ) → ∀ (H : Heap) (locs : List Loc), mx_J G P s.heap (mxz σ) (mxu σ) υ H locs → ∀ ls : Array Slot, lv_has ls 4 [] → W p l e (mx_rm P 1 20 σ) s m ([.ref a0] : List Value).toArray below meth c H locs (mxz υ - mxz σ) (mxu υ - mxu σ) (mx_Z below G P (some (.int r)) σ σ' [.ref a0] s) (F0 m 82 ls [])) → ∀ (H : Heap) (locs : List Loc), mx_J G P s.heap (mxz σ) (mxu σ) τ H locs → ∀ ls : Array Slot, lv_has ls 4 [(0, .ref v0), (1, .int v1)] → W p l e (mx_rm P 1 20 σ) s m ([.ref a0] : List Value).toArray below meth c H locs (mxz τ - mxz σ) (mxu τ - mxu σ) (mx_Z below G P (some (.int r)) σ σ' [.ref a0] s) (F0 m 2 ls []) := by
    intro v0 v1 τ o hf Kb Ke0 Ke1 H locs hJ ls hl
    unfold f_X6_hasStiffPart_B2 at hf
    refine lv_iload_n hx hb dX6_hasStiffPart_2 rfl (lv_at hl 1 rfl) ?_
    refine lv_iconst (v := 1) hx hb dX6_hasStiffPart_3 (by decide) ?_
    refine lv_aload_n hx hb dX6_hasStiffPart_4 rfl (lv_at hl 0 rfl) ?_
    obtain ⟨x1, e2, hf⟩ := mb0 hf
    refine my_gI hx hb hts hown hK hJ fd_RX6_35 hv_6_2 e2 dX6_hasStiffPart_5 ?_
    refine lv_ishl hx hb dX6_hasStiffPart_8 ?_
    refine lv_iconst (v := 1) hx hb dX6_hasStiffPart_9 (by decide) ?_
    refine lv_isub hx hb dX6_hasStiffPart_10 ?_
    refine lv_icmp_ge (tgt := 82) hx hb dX6_hasStiffPart_11 (by decide) (fun c3 => ?_) (fun c3 => ?_)
    · rw [if_pos c3] at hf
      exact Ke1 τ (Option.some.inj hf).symm _ _ hJ ls (lv_sub hl [] rfl)
    · rw [if_neg c3] at hf
      refine lv_iconst (v := 0) hx hb dX6_hasStiffPart_14 (by decide) ?_
      refine lv_istore_n (lv' := [(2, .int (0 : Int32)), (0, .ref v0), (1, .int v1)]) hx hb dX6_hasStiffPart_15 rfl hl (by decide) rfl (fun ls hl => ?_)
      refine lv_iconst (v := 0) hx hb dX6_hasStiffPart_16 (by decide) ?_
      refine lv_istore_n (lv' := [(3, .int (0 : Int32)), (2, .int (0 : Int32)), (0, .ref v0), (1, .int v1)]) hx hb dX6_hasStiffPart_17 rfl hl (by decide) rfl (fun ls hl => ?_)
      obtain ⟨o19, e20, hf⟩ := mb0 hf
      refine L18 v0 v1 (mpN P) (0 : Int32) (0 : Int32) τ o19 e20 (fun y21 σ22 ho H locs hJ ls hl => ?_) _ _ hJ ls (lv_sub hl [2, 3, 1, 0] rfl)
      · rw [ho] at hf
        have hf : (mx_b2 (f_J6_bitCount_0f7a4 P v1 σ22) fun x24 σ23 => (if x24 < (2 : Int32) then f_X6_hasStiffPart_D76_2 P v0 v1 σ23 else (if y21 ≤ (((3 : Int32) * x24) - (3 : Int32)) then f_X6_hasStiffPart_D76_2 P v0 v1 σ23 else some (.inr (.inl σ23))))) = some o := hf
        refine lv_iload_n hx hb dX6_hasStiffPart_55 rfl (lv_at hl 1 rfl) ?_
        obtain ⟨x24, σ23, e25, hf⟩ := mc0 hf
        refine mx_callS (As := [.int v1]) (rest := []) hx hb hml hts hown hK hJ rfl rfl (c_J6_bitCount_0f7a4 l G P v1 σ22 x24 σ23 e25) me_J6_bitCount_0f7a4 kw_1758 kw_1757 (Nat.le_of_ble_eq_true rfl) (Nat.le_of_ble_eq_true rfl) rfl hl.1 rfl (Nat.le_of_ble_eq_true rfl) dX6_hasStiffPart_56 (fun H locs hJ => ?_)
        refine lv_istore_n (lv' := [(3, .int x24), (0, .ref v0), (1, .int v1), (2, .int y21)]) hx hb dX6_hasStiffPart_59 rfl hl (by decide) rfl (fun ls hl => ?_)
        refine lv_iload_n hx hb dX6_hasStiffPart_60 rfl (lv_at hl 0 rfl) ?_
        refine lv_iconst (v := 2) hx hb dX6_hasStiffPart_61 (by decide) ?_
        refine lv_icmp_lt (tgt := 76) hx hb dX6_hasStiffPart_62 (by decide) (fun c26 => ?_) (fun c26 => ?_)
        · rw [if_pos c26] at hf
          exact D76_2 v0 v1 σ23 o hf Kb Ke0 Ke1 _ _ hJ ls (lv_sub hl [1, 2] rfl)
        · rw [if_neg c26] at hf
          refine lv_iload_n hx hb dX6_hasStiffPart_65 rfl (lv_at hl 3 rfl) ?_
          refine lv_iconst (v := 3) hx hb dX6_hasStiffPart_66 (by decide) ?_
          refine lv_iload_n hx hb dX6_hasStiffPart_67 rfl (lv_at hl 0 rfl) ?_
          refine lv_imul hx hb dX6_hasStiffPart_68 ?_
          refine lv_iconst (v := 3) hx hb dX6_hasStiffPart_69 (by decide) ?_
          refine lv_isub hx hb dX6_hasStiffPart_70 ?_
          refine lv_icmp_le (tgt := 76) hx hb dX6_hasStiffPart_71 (by decide) (fun c29 => ?_) (fun c29 => ?_)
          · rw [if_pos c29] at hf
            exact D76_2 v0 v1 σ23 o hf Kb Ke0 Ke1 _ _ hJ ls (lv_sub hl [1, 2] rfl)
          · rw [if_neg c29] at hf
            exact Ke0 σ23 (Option.some.inj hf).symm _ _ hJ ls (lv_sub hl [] rfl)
  have L2 : ∀ (v0 : Nat) (n : Nat) (v1 : Int32) (τ : mx_S) (o : (mx_S) ⊕ (mx_S)), mx_lp (f_X6_hasStiffPart_L2 P v0) n (v1, τ) = some o → (∀  (υ : mx_S), o = (.inl υ) → ∀ (H : Heap) (locs : List Loc), mx_J G P s.heap (mxz σ) (mxu σ) υ H locs → ∀ ls : Array Slot, lv_has ls 4 [] → W p l e (mx_rm P 1 20 σ) s m ([.ref a0] : List Value).toArray below meth c H locs (mxz υ - mxz σ) (mxu υ - mxu σ) (mx_Z below G P (some (.int r)) σ σ' [.ref a0] s) (F0 m 74 ls [])) → (∀  (υ : mx_S), o = (.inr υ) → ∀ (H : Heap) (locs : List Loc), mx_J G P s.heap (mxz σ) (mxu σ) υ H locs → ∀ ls : Array Slot, lv_has ls 4 [] → W p l e (mx_rm P 1 20 σ) s m ([.ref a0] : List Value).toArray below meth c H locs (mxz υ - mxz σ) (mxu υ - mxu σ) (mx_Z below G P (some (.int r)) σ σ' [.ref a0] s) (F0 m 82 ls [])) → ∀ (H : Heap) (locs : List Loc), mx_J G P s.heap (mxz σ) (mxu σ) τ H locs → ∀ ls : Array Slot, lv_has ls 4 [(0, .ref v0), (1, .int v1)] → W p l e (mx_rm P 1 20 σ) s m ([.ref a0] : List Value).toArray below meth c H locs (mxz τ - mxz σ) (mxu τ - mxu σ) (mx_Z below G P (some (.int r)) σ σ' [.ref a0] s) (F0 m 2 ls []) := by
    intro v0 n
    induction n with
    | zero =>
      intro v1 τ o hf
      rw [mx_lp0] at hf
      cases hf
    | succ n ih =>
      intro v1 τ o hf Ke0 Ke1 H locs hJ ls hl
      rw [mx_lpS] at hf
      obtain ⟨b, eb, hf⟩ := mb0 hf
      refine B2 v0 v1 τ b eb (fun y1 υ ho H locs hJ ls hl => ?_) (fun  υ ho H locs hJ ls hl => ?_) (fun  υ ho H locs hJ ls hl => ?_) H locs hJ ls hl
      · subst ho
        exact ih y1 υ o hf Ke0 Ke1 H locs hJ ls hl
      · subst ho
        exact Ke0  υ (Option.some.inj hf).symm _ _ hJ ls hl
      · subst ho
        exact Ke1  υ (Option.some.inj hf).symm _ _ hJ ls hl
  unfold f_X6_hasStiffPart at hf
  refine lv_iconst (v := 1) hx hb dX6_hasStiffPart_0 (by decide) ?_
  refine lv_istore_n (lv' := [(1, .int (1 : Int32)), (0, .ref a0)]) hx hb dX6_hasStiffPart_1 rfl hl (by decide) rfl (fun ls hl => ?_)
  obtain ⟨o30, e31, hf⟩ := mb0 hf
  refine L2 a0 (mpN P) (1 : Int32) σ o30 e31 (fun σ32 ho H locs hJ ls hl => ?_) (fun σ33 ho H locs hJ ls hl => ?_) _ _ hJ ls (lv_sub hl [1, 0] rfl)
  · rw [ho] at hf
    have hf : (mr_Z (1 : Int32) σ32) = some (r, σ') := hf
    refine lv_iconst (v := 1) hx hb dX6_hasStiffPart_74 (by decide) ?_
    exact mx_zret hx hb hr hlocks hJ hf dX6_hasStiffPart_75
  · rw [ho] at hf
    have hf : (mr_Z (0 : Int32) σ33) = some (r, σ') := hf
    refine lv_iconst (v := 0) hx hb dX6_hasStiffPart_82 (by decide) ?_
    exact mx_zret hx hb hr hlocks hJ hf dX6_hasStiffPart_83
set_option maxHeartbeats 4000000 in
set_option maxRecDepth 100000 in
theorem c_X6_isChain (l : Launch) (G : mx_G) (P : mx_P) (a0 : Nat) (p1 : Int32) (σ : mx_S) (r : Int32) (σ' : mx_S) (hf : f_X6_isChain P a0 p1 σ = some (r, σ')) : mxz σ ≤ mpc P → mxu σ ≤ mps P → mx_M l yX6_isChain cX6_isChain 3 (some .boolean) 2 43 G P [.ref a0, .int p1] σ (some (.int r)) σ' := by
  intro hcap hcau
  refine mx_ofW (by decide +kernel) hcap hcau (Nat.le_of_ble_eq_true rfl) ?_
  intro p e s m below meth c hx hb hr hml hts hown hlocks hname hK hJ ls hl
  have hz0 := hJ.2.1
  have hown : s.vm.findClass RX6 = some m.cls := hown
  have hl : lv_has ls 3 [(0, .ref a0), (1, .int p1)] := hl
  have D71_10 : ∀ (v0 : Nat) (v1 : Int32) (v2 : Int32) (τ : mx_S) (o : (Int32 × mx_S) ⊕ ((mx_S))), f_X6_isChain_D71_10 P v0 v1 v2 τ = some o → (∀ (y2 : Int32) (υ : mx_S), o = .inl (y2, υ) → ∀ (H : Heap) (locs : List Loc), mx_J G P s.heap (mxz σ) (mxu σ) υ H locs → ∀ ls : Array Slot, lv_has ls 3 [(0, .ref v0), (1, .int v1), (2, .int y2)] → W p l e (mx_rm P 2 43 σ) s m ([.ref a0, .int p1] : List Value).toArray below meth c H locs (mxz υ - mxz σ) (mxu υ - mxu σ) (mx_Z below G P (some (.int r)) σ σ' [.ref a0, .int p1] s) (F0 m 10 ls [])) → (∀  (υ : mx_S), o = .inr υ → ∀ (H : Heap) (locs : List Loc), mx_J G P s.heap (mxz σ) (mxu σ) υ H locs → ∀ ls : Array Slot, lv_has ls 3 [(0, .ref v0)] → W p l e (mx_rm P 2 43 σ) s m ([.ref a0, .int p1] : List Value).toArray below meth c H locs (mxz υ - mxz σ) (mxu υ - mxu σ) (mx_Z below G P (some (.int r)) σ σ' [.ref a0, .int p1] s) (F0 m 77 ls [])) → ∀ (H : Heap) (locs : List Loc), mx_J G P s.heap (mxz σ) (mxu σ) τ H locs → ∀ ls : Array Slot, lv_has ls 3 [(0, .ref v0), (1, .int v1), (2, .int v2)] → W p l e (mx_rm P 2 43 σ) s m ([.ref a0, .int p1] : List Value).toArray below meth c H locs (mxz τ - mxz σ) (mxu τ - mxu σ) (mx_Z below G P (some (.int r)) σ σ' [.ref a0, .int p1] s) (F0 m 71 ls []) := by
    intro v0 v1 v2 τ o hf Kb Ke0 H locs hJ ls hl
    unfold f_X6_isChain_D71_10 at hf
    obtain ⟨x9, e10, hf⟩ := mb0 hf
    refine lv_iinc (v := x9) (lv' := [(2, .int x9), (0, .ref v0), (1, .int v1)]) hx hb dX6_isChain_71 hl (k := 2) rfl (by rw [← Option.some.inj e10]; rfl) (by decide) rfl (fun ls hl => ?_)
    refine lv_goto (tgt := 10) hx hb dX6_isChain_74 (by decide) ?_
    exact Kb x9 τ (Option.some.inj hf).symm _ _ hJ ls (lv_sub hl [1, 2, 0] rfl)
  have B10 : ∀ (v0 : Nat) (v1 : Int32) (v2 : Int32) (τ : mx_S) (o : (Int32 × mx_S) ⊕ ((mx_S))), f_X6_isChain_B10 P v0 v1 v2 τ = some o → (∀ (y2 : Int32) (υ : mx_S), o = .inl (y2, υ) → ∀ (H : Heap) (locs : List Loc), mx_J G P s.heap (mxz σ) (mxu σ) υ H locs → ∀ ls : Array Slot, lv_has ls 3 [(0, .ref v0), (1, .int v1), (2, .int y2)] → W p l e (mx_rm P 2 43 σ) s m ([.ref a0, .int p1] : List Value).toArray below meth c H locs (mxz υ - mxz σ) (mxu υ - mxu σ) (mx_Z below G P (some (.int r)) σ σ' [.ref a0, .int p1] s) (F0 m 10 ls [])) → (∀  (υ : mx_S), o = .inr υ → ∀ (H : Heap) (locs : List Loc), mx_J G P s.heap (mxz σ) (mxu σ) υ H locs → ∀ ls : Array Slot, lv_has ls 3 [(0, .ref v0)] → W p l e (mx_rm P 2 43 σ) s m ([.ref a0, .int p1] : List Value).toArray below meth c H locs (mxz υ - mxz σ) (mxu υ - mxu σ) (mx_Z below G P (some (.int r)) σ σ' [.ref a0, .int p1] s) (F0 m 77 ls [])) → ∀ (H : Heap) (locs : List Loc), mx_J G P s.heap (mxz σ) (mxu σ) τ H locs → ∀ ls : Array Slot, lv_has ls 3 [(0, .ref v0), (1, .int v1), (2, .int v2)] → W p l e (mx_rm P 2 43 σ) s m ([.ref a0, .int p1] : List Value).toArray below meth c H locs (mxz τ - mxz σ) (mxu τ - mxu σ) (mx_Z below G P (some (.int r)) σ σ' [.ref a0, .int p1] s) (F0 m 10 ls []) := by
    intro v0 v1 v2 τ o hf Kb Ke0 H locs hJ ls hl
    unfold f_X6_isChain_B10 at hf
    refine lv_iload_n hx hb dX6_isChain_10 rfl (lv_at hl 2 rfl) ?_
    refine lv_aload_n hx hb dX6_isChain_11 rfl (lv_at hl 0 rfl) ?_
    obtain ⟨x5, e6, hf⟩ := mb0 hf
    refine my_gI hx hb hts hown hK hJ fd_RX6_47 hv_6_3 e6 dX6_isChain_12 ?_
    refine lv_icmp_ge (tgt := 77) hx hb dX6_isChain_15 (by decide) (fun c7 => ?_) (fun c7 => ?_)
    · rw [if_pos c7] at hf
      exact Ke0 τ (Option.some.inj hf).symm _ _ hJ ls (lv_sub hl [0] rfl)
    · rw [if_neg c7] at hf
      refine lv_iload_n hx hb dX6_isChain_18 rfl (lv_at hl 1 rfl) ?_
      refine lv_iload_n hx hb dX6_isChain_19 rfl (lv_at hl 2 rfl) ?_
      refine lv_ishr hx hb dX6_isChain_20 ?_
      refine lv_iconst (v := 1) hx hb dX6_isChain_21 (by decide) ?_
      refine lv_iand hx hb dX6_isChain_22 ?_
      refine lv_iconst (v := 1) hx hb dX6_isChain_23 (by decide) ?_
      refine lv_icmp_ne (tgt := 71) hx hb dX6_isChain_24 (by decide) (fun c8 => ?_) (fun c8 => ?_)
      · rw [if_neg c8] at hf
        exact D71_10 v0 v1 v2 τ o hf Kb Ke0 _ _ hJ ls (lv_sub hl [0, 1, 2] rfl)
      · rw [if_pos c8] at hf
        refine lv_aload_n hx hb dX6_isChain_27 rfl (lv_at hl 0 rfl) ?_
        obtain ⟨b11, e12, hf⟩ := mb0 hf
        refine my_gR hx hb hts hown hK hJ fd_RX6_22 hv_6_7 e12 dX6_isChain_28 ?_
        refine lv_aload_n hx hb dX6_isChain_31 rfl (lv_at hl 0 rfl) ?_
        obtain ⟨b13, e14, hf⟩ := mb0 hf
        refine my_gR hx hb hts hown hK hJ fd_RX6_13 hv_6_4 e14 dX6_isChain_32 ?_
        refine lv_iload_n hx hb dX6_isChain_35 rfl (lv_at hl 2 rfl) ?_
        obtain ⟨x15, e16, hf⟩ := mb0 hf
        refine mx_aI hx hb hK hJ e16 dX6_isChain_36 ?_
        refine lv_dup2_11 hx hb dX6_isChain_37 rfl rfl ?_
        obtain ⟨x17, e18, hf⟩ := mb0 hf
        refine mx_aI hx hb hK hJ e18 dX6_isChain_38 ?_
        refine lv_iconst (v := 1) hx hb dX6_isChain_39 (by decide) ?_
        refine lv_aload_n hx hb dX6_isChain_40 rfl (lv_at hl 0 rfl) ?_
        obtain ⟨b19, e20, hf⟩ := mb0 hf
        refine my_gR hx hb hts hown hK hJ fd_RX6_16 hv_6_5 e20 dX6_isChain_41 ?_
        refine lv_iload_n hx hb dX6_isChain_44 rfl (lv_at hl 2 rfl) ?_
        obtain ⟨x21, e22, hf⟩ := mb0 hf
        refine mx_aI hx hb hK hJ e22 dX6_isChain_45 ?_
        refine lv_ishl hx hb dX6_isChain_46 ?_
        refine lv_ior hx hb dX6_isChain_47 ?_
        obtain ⟨σ23, e24, hf⟩ := mb0 hf
        refine mx_sI hx hb hK hJ e24 dX6_isChain_48 (fun H locs hJ => ?_)
        refine lv_aload_n hx hb dX6_isChain_49 rfl (lv_at hl 0 rfl) ?_
        obtain ⟨b25, e26, hf⟩ := mb0 hf
        refine my_gR hx hb hts hown hK hJ fd_RX6_22 hv_6_7 e26 dX6_isChain_50 ?_
        refine lv_aload_n hx hb dX6_isChain_53 rfl (lv_at hl 0 rfl) ?_
        obtain ⟨b27, e28, hf⟩ := mb0 hf
        refine my_gR hx hb hts hown hK hJ fd_RX6_16 hv_6_5 e28 dX6_isChain_54 ?_
        refine lv_iload_n hx hb dX6_isChain_57 rfl (lv_at hl 2 rfl) ?_
        obtain ⟨x29, e30, hf⟩ := mb0 hf
        refine mx_aI hx hb hK hJ e30 dX6_isChain_58 ?_
        refine lv_dup2_11 hx hb dX6_isChain_59 rfl rfl ?_
        obtain ⟨x31, e32, hf⟩ := mb0 hf
        refine mx_aI hx hb hK hJ e32 dX6_isChain_60 ?_
        refine lv_iconst (v := 1) hx hb dX6_isChain_61 (by decide) ?_
        refine lv_aload_n hx hb dX6_isChain_62 rfl (lv_at hl 0 rfl) ?_
        obtain ⟨b33, e34, hf⟩ := mb0 hf
        refine my_gR hx hb hts hown hK hJ fd_RX6_13 hv_6_4 e34 dX6_isChain_63 ?_
        refine lv_iload_n hx hb dX6_isChain_66 rfl (lv_at hl 2 rfl) ?_
        obtain ⟨x35, e36, hf⟩ := mb0 hf
        refine mx_aI hx hb hK hJ e36 dX6_isChain_67 ?_
        refine lv_ishl hx hb dX6_isChain_68 ?_
        refine lv_ior hx hb dX6_isChain_69 ?_
        obtain ⟨σ37, e38, hf⟩ := mb0 hf
        refine mx_sI hx hb hK hJ e38 dX6_isChain_70 (fun H locs hJ => ?_)
        exact D71_10 v0 v1 v2 σ37 o hf Kb Ke0 _ _ hJ ls (lv_sub hl [0, 1, 2] rfl)
  have L10 : ∀ (v0 : Nat) (v1 : Int32) (n : Nat) (v2 : Int32) (τ : mx_S) (o : (mx_S)), mx_lp (f_X6_isChain_L10 P v0 v1) n (v2, τ) = some o → (∀  (υ : mx_S), o = υ → ∀ (H : Heap) (locs : List Loc), mx_J G P s.heap (mxz σ) (mxu σ) υ H locs → ∀ ls : Array Slot, lv_has ls 3 [(0, .ref v0)] → W p l e (mx_rm P 2 43 σ) s m ([.ref a0, .int p1] : List Value).toArray below meth c H locs (mxz υ - mxz σ) (mxu υ - mxu σ) (mx_Z below G P (some (.int r)) σ σ' [.ref a0, .int p1] s) (F0 m 77 ls [])) → ∀ (H : Heap) (locs : List Loc), mx_J G P s.heap (mxz σ) (mxu σ) τ H locs → ∀ ls : Array Slot, lv_has ls 3 [(0, .ref v0), (1, .int v1), (2, .int v2)] → W p l e (mx_rm P 2 43 σ) s m ([.ref a0, .int p1] : List Value).toArray below meth c H locs (mxz τ - mxz σ) (mxu τ - mxu σ) (mx_Z below G P (some (.int r)) σ σ' [.ref a0, .int p1] s) (F0 m 10 ls []) := by
    intro v0 v1 n
    induction n with
    | zero =>
      intro v2 τ o hf
      rw [mx_lp0] at hf
      cases hf
    | succ n ih =>
      intro v2 τ o hf Ke0 H locs hJ ls hl
      rw [mx_lpS] at hf
      obtain ⟨b, eb, hf⟩ := mb0 hf
      refine B10 v0 v1 v2 τ b eb (fun y2 υ ho H locs hJ ls hl => ?_) (fun  υ ho H locs hJ ls hl => ?_) H locs hJ ls hl
      · subst ho
        exact ih y2 υ o hf Ke0 H locs hJ ls hl
      · subst ho
        exact Ke0  υ (Option.some.inj hf).symm _ _ hJ ls hl
  have B79 : ∀ (v0 : Nat) (v2 : Int32) (τ : mx_S) (o : (Int32 × mx_S) ⊕ ((mx_S) ⊕ (mx_S))), f_X6_isChain_B79 P v0 v2 τ = some o → (∀ (y2 : Int32) (υ : mx_S), o = .inl (y2, υ) → ∀ (H : Heap) (locs : List Loc), mx_J G P s.heap (mxz σ) (mxu σ) υ H locs → ∀ ls : Array Slot, lv_has ls 3 [(0, .ref v0), (2, .int y2)] → W p l e (mx_rm P 2 43 σ) s m ([.ref a0, .int p1] : List Value).toArray below meth c H locs (mxz υ - mxz σ) (mxu υ - mxu σ) (mx_Z below G P (some (.int r)) σ σ' [.ref a0, .int p1] s) (F0 m 79 ls [])) → (∀  (υ : mx_S), o = .inr (.inl υ) → ∀ (H : Heap) (locs : List Loc), mx_J G P s.heap (mxz σ) (mxu σ) υ H locs → ∀ ls : Array Slot, lv_has ls 3 [] → W p l e (mx_rm P 2 43 σ) s m ([.ref a0, .int p1] : List Value).toArray below meth c H locs (mxz υ - mxz σ) (mxu υ - mxu σ) (mx_Z below G P (some (.int r)) σ σ' [.ref a0, .int p1] s) (F0 m 100 ls [])) → (∀  (υ : mx_S), o = .inr (.inr υ) → ∀ (H : Heap) (locs : List Loc), mx_J G P s.heap (mxz σ) (mxu σ) υ H locs → ∀ ls : Array Slot, lv_has ls 3 [(0, .ref v0)] → W p l e (mx_rm P 2 43 σ) s m ([.ref a0, .int p1] : List Value).toArray below meth c H locs (mxz υ - mxz σ) (mxu υ - mxu σ) (mx_Z below G P (some (.int r)) σ σ' [.ref a0, .int p1] s) (F0 m 108 ls [])) → ∀ (H : Heap) (locs : List Loc), mx_J G P s.heap (mxz σ) (mxu σ) τ H locs → ∀ ls : Array Slot, lv_has ls 3 [(0, .ref v0), (2, .int v2)] → W p l e (mx_rm P 2 43 σ) s m ([.ref a0, .int p1] : List Value).toArray below meth c H locs (mxz τ - mxz σ) (mxu τ - mxu σ) (mx_Z below G P (some (.int r)) σ σ' [.ref a0, .int p1] s) (F0 m 79 ls []) := by
    intro v0 v2 τ o hf Kb Ke0 Ke1 H locs hJ ls hl
    unfold f_X6_isChain_B79 at hf
    refine lv_iload_n hx hb dX6_isChain_79 rfl (lv_at hl 1 rfl) ?_
    refine lv_aload_n hx hb dX6_isChain_80 rfl (lv_at hl 0 rfl) ?_
    obtain ⟨x42, e43, hf⟩ := mb0 hf
    refine my_gI hx hb hts hown hK hJ fd_RX6_35 hv_6_2 e43 dX6_isChain_81 ?_
    refine lv_icmp_ge (tgt := 108) hx hb dX6_isChain_84 (by decide) (fun c44 => ?_) (fun c44 => ?_)
    · rw [if_pos c44] at hf
      exact Ke1 τ (Option.some.inj hf).symm _ _ hJ ls (lv_sub hl [0] rfl)
    · rw [if_neg c44] at hf
      refine lv_aload_n hx hb dX6_isChain_87 rfl (lv_at hl 0 rfl) ?_
      obtain ⟨b45, e46, hf⟩ := mb0 hf
      refine my_gR hx hb hts hown hK hJ fd_RX6_22 hv_6_7 e46 dX6_isChain_88 ?_
      refine lv_iload_n hx hb dX6_isChain_91 rfl (lv_at hl 1 rfl) ?_
      obtain ⟨x47, e48, hf⟩ := mb0 hf
      refine mx_aI hx hb hK hJ e48 dX6_isChain_92 ?_
      obtain ⟨x50, σ49, e51, hf⟩ := mc0 hf
      refine mx_callS (As := [.int x47]) (rest := []) hx hb hml hts hown hK hJ rfl rfl (c_J6_bitCount_0f7a4 l G P x47 τ x50 σ49 e51) me_J6_bitCount_0f7a4 kw_1758 kw_1757 (Nat.le_of_ble_eq_true rfl) (Nat.le_of_ble_eq_true rfl) rfl hl.1 rfl (Nat.le_of_ble_eq_true rfl) dX6_isChain_93 (fun H locs hJ => ?_)
      refine lv_iconst (v := 2) hx hb dX6_isChain_96 (by decide) ?_
      refine lv_icmp_ge (tgt := 102) hx hb dX6_isChain_97 (by decide) (fun c52 => ?_) (fun c52 => ?_)
      · rw [if_pos c52] at hf
        obtain ⟨x53, e54, hf⟩ := mb0 hf
        refine lv_iinc (v := x53) (lv' := [(2, .int x53), (0, .ref v0)]) hx hb dX6_isChain_102 hl (k := 1) rfl (by rw [← Option.some.inj e54]; rfl) (by decide) rfl (fun ls hl => ?_)
        refine lv_goto (tgt := 79) hx hb dX6_isChain_105 (by decide) ?_
        exact Kb x53 σ49 (Option.some.inj hf).symm _ _ hJ ls (lv_sub hl [1, 0] rfl)
      · rw [if_neg c52] at hf
        exact Ke0 σ49 (Option.some.inj hf).symm _ _ hJ ls (lv_sub hl [] rfl)
  have L79 : ∀ (v0 : Nat) (n : Nat) (v2 : Int32) (τ : mx_S) (o : (mx_S) ⊕ (mx_S)), mx_lp (f_X6_isChain_L79 P v0) n (v2, τ) = some o → (∀  (υ : mx_S), o = (.inl υ) → ∀ (H : Heap) (locs : List Loc), mx_J G P s.heap (mxz σ) (mxu σ) υ H locs → ∀ ls : Array Slot, lv_has ls 3 [] → W p l e (mx_rm P 2 43 σ) s m ([.ref a0, .int p1] : List Value).toArray below meth c H locs (mxz υ - mxz σ) (mxu υ - mxu σ) (mx_Z below G P (some (.int r)) σ σ' [.ref a0, .int p1] s) (F0 m 100 ls [])) → (∀  (υ : mx_S), o = (.inr υ) → ∀ (H : Heap) (locs : List Loc), mx_J G P s.heap (mxz σ) (mxu σ) υ H locs → ∀ ls : Array Slot, lv_has ls 3 [(0, .ref v0)] → W p l e (mx_rm P 2 43 σ) s m ([.ref a0, .int p1] : List Value).toArray below meth c H locs (mxz υ - mxz σ) (mxu υ - mxu σ) (mx_Z below G P (some (.int r)) σ σ' [.ref a0, .int p1] s) (F0 m 108 ls [])) → ∀ (H : Heap) (locs : List Loc), mx_J G P s.heap (mxz σ) (mxu σ) τ H locs → ∀ ls : Array Slot, lv_has ls 3 [(0, .ref v0), (2, .int v2)] → W p l e (mx_rm P 2 43 σ) s m ([.ref a0, .int p1] : List Value).toArray below meth c H locs (mxz τ - mxz σ) (mxu τ - mxu σ) (mx_Z below G P (some (.int r)) σ σ' [.ref a0, .int p1] s) (F0 m 79 ls []) := by
    intro v0 n
    induction n with
    | zero =>
      intro v2 τ o hf
      rw [mx_lp0] at hf
      cases hf
    | succ n ih =>
      intro v2 τ o hf Ke0 Ke1 H locs hJ ls hl
      rw [mx_lpS] at hf
      obtain ⟨b, eb, hf⟩ := mb0 hf
      refine B79 v0 v2 τ b eb (fun y2 υ ho H locs hJ ls hl => ?_) (fun  υ ho H locs hJ ls hl => ?_) (fun  υ ho H locs hJ ls hl => ?_) H locs hJ ls hl
      · subst ho
        exact ih y2 υ o hf Ke0 Ke1 H locs hJ ls hl
      · subst ho
        exact Ke0  υ (Option.some.inj hf).symm _ _ hJ ls hl
      · subst ho
        exact Ke1  υ (Option.some.inj hf).symm _ _ hJ ls hl
  have D127 : ∀ (w0 : Int32) (τ : mx_S), f_X6_isChain_D127 P w0 τ = some (r, σ') → ∀ (H : Heap) (locs : List Loc), mx_J G P s.heap (mxz σ) (mxu σ) τ H locs → ∀ ls : Array Slot, lv_has ls 3 [] → W p l e (mx_rm P 2 43 σ) s m ([.ref a0, .int p1] : List Value).toArray below meth c H locs (mxz τ - mxz σ) (mxu τ - mxu σ) (mx_Z below G P (some (.int r)) σ σ' [.ref a0, .int p1] s) (F0 m 127 ls [.int w0]) := by
    intro w0 τ hf _ _ hJ ls hl
    unfold f_X6_isChain_D127 at hf
    exact mx_zret hx hb hr hlocks hJ hf dX6_isChain_127
  have D126 : ∀  (τ : mx_S), f_X6_isChain_D126 P  τ = some (r, σ') → ∀ (H : Heap) (locs : List Loc), mx_J G P s.heap (mxz σ) (mxu σ) τ H locs → ∀ ls : Array Slot, lv_has ls 3 [] → W p l e (mx_rm P 2 43 σ) s m ([.ref a0, .int p1] : List Value).toArray below meth c H locs (mxz τ - mxz σ) (mxu τ - mxu σ) (mx_Z below G P (some (.int r)) σ σ' [.ref a0, .int p1] s) (F0 m 126 ls []) := by
    intro  τ hf _ _ hJ ls hl
    unfold f_X6_isChain_D126 at hf
    refine lv_iconst (v := 0) hx hb dX6_isChain_126 (by decide) ?_
    exact D127 (0 : Int32) τ hf _ _ hJ ls (lv_sub hl [] rfl)
  unfold f_X6_isChain at hf
  refine lv_aload_n hx hb dX6_isChain_0 rfl (lv_at hl 0 rfl) ?_
  obtain ⟨b1, e2, hf⟩ := mb0 hf
  refine my_gR hx hb hts hown hK hJ fd_RX6_22 hv_6_7 e2 dX6_isChain_1 ?_
  refine lv_iconst (v := 0) hx hb dX6_isChain_4 (by decide) ?_
  obtain ⟨σ3, e4, hf⟩ := mb0 hf
  refine mx_callS (As := [.ref b1, .int (0 : Int32)]) (rest := []) hx hb hml hts hown hK hJ rfl rfl (c_J7_fill_53178 l G P b1 (0 : Int32) σ σ3 e4) me_J7_fill_53178 kw_817 kw_1756 (Nat.le_of_ble_eq_true rfl) (Nat.le_of_ble_eq_true rfl) rfl hl.1 rfl (Nat.le_of_ble_eq_true rfl) dX6_isChain_5 (fun H locs hJ => ?_)
  refine lv_iconst (v := 0) hx hb dX6_isChain_8 (by decide) ?_
  refine lv_istore_n (lv' := [(2, .int (0 : Int32)), (0, .ref a0), (1, .int p1)]) hx hb dX6_isChain_9 rfl hl (by decide) rfl (fun ls hl => ?_)
  obtain ⟨o39, e40, hf⟩ := mb0 hf
  refine L10 a0 p1 (mpN P) (0 : Int32) σ3 o39 e40 (fun σ41 ho H locs hJ ls hl => ?_) _ _ hJ ls (lv_sub hl [1, 2, 0] rfl)
  · rw [ho] at hf
    have hf : ((mx_lp (f_X6_isChain_L79 P a0) (mpN P) ((0 : Int32), σ41)).bind (Sum.elim (fun t => (fun σ57 => mr_Z (0 : Int32) σ57) t) (fun t => (fun σ58 => (mx_is σ58 a0 6).bind fun i59 => mx_b2 (f_X6_isInOnePiece P a0 σ58) fun x62 σ61 => (if x62 = 0 then f_X6_isChain_D126 P  σ61 else (mx_is σ61 a0 6).bind fun i65 => mx_b2 (f_X6_hasStiffPart P a0 σ61) fun x68 σ67 => (if x68 = 0 then f_X6_isChain_D127 P (1 : Int32) σ67 else f_X6_isChain_D126 P  σ67))) t))) = some (r, σ') := hf
    refine lv_iconst (v := 0) hx hb dX6_isChain_77 (by decide) ?_
    refine lv_istore_n (lv' := [(2, .int (0 : Int32)), (0, .ref a0)]) hx hb dX6_isChain_78 rfl hl (by decide) rfl (fun ls hl => ?_)
    obtain ⟨o55, e56, hf⟩ := mb0 hf
    refine L79 a0 (mpN P) (0 : Int32) σ41 o55 e56 (fun σ57 ho H locs hJ ls hl => ?_) (fun σ58 ho H locs hJ ls hl => ?_) _ _ hJ ls (lv_sub hl [1, 0] rfl)
    · rw [ho] at hf
      have hf : (mr_Z (0 : Int32) σ57) = some (r, σ') := hf
      refine lv_iconst (v := 0) hx hb dX6_isChain_100 (by decide) ?_
      exact mx_zret hx hb hr hlocks hJ hf dX6_isChain_101
    · rw [ho] at hf
      have hf : ((mx_is σ58 a0 6).bind fun i59 => mx_b2 (f_X6_isInOnePiece P a0 σ58) fun x62 σ61 => (if x62 = 0 then f_X6_isChain_D126 P  σ61 else (mx_is σ61 a0 6).bind fun i65 => mx_b2 (f_X6_hasStiffPart P a0 σ61) fun x68 σ67 => (if x68 = 0 then f_X6_isChain_D127 P (1 : Int32) σ67 else f_X6_isChain_D126 P  σ67))) = some (r, σ') := hf
      refine lv_aload_n hx hb dX6_isChain_108 rfl (lv_at hl 0 rfl) ?_
      obtain ⟨i59, e60, hf⟩ := mb0 hf
      obtain ⟨x62, σ61, e63, hf⟩ := mc0 hf
      refine mx_callV (As := []) (rest := []) hx hb hml hts hown hK hJ rfl rfl (ci := 6) rfl e60 (c_X6_isInOnePiece l G P a0 σ58 x62 σ61 e63) me_X6_isInOnePiece kw_1773 ks_69 kw_1771 (Nat.le_of_ble_eq_true rfl) (Nat.le_of_ble_eq_true rfl) rfl hl.1 rfl (Nat.le_of_ble_eq_true rfl) dX6_isChain_109 (fun H locs hJ => ?_)
      refine lv_if_eq (tgt := 126) hx hb dX6_isChain_112 (by decide) (fun c64 => ?_) (fun c64 => ?_)
      · rw [if_pos c64] at hf
        exact D126  σ61 hf _ _ hJ ls (lv_sub hl [] rfl)
      · rw [if_neg c64] at hf
        refine lv_aload_n hx hb dX6_isChain_115 rfl (lv_at hl 0 rfl) ?_
        obtain ⟨i65, e66, hf⟩ := mb0 hf
        obtain ⟨x68, σ67, e69, hf⟩ := mc0 hf
        refine mx_callV (As := []) (rest := []) hx hb hml hts hown hK hJ rfl rfl (ci := 6) rfl e66 (c_X6_hasStiffPart l G P a0 σ61 x68 σ67 e69) me_X6_hasStiffPart kw_1777 ks_70 kw_1775 (Nat.le_of_ble_eq_true rfl) (Nat.le_of_ble_eq_true rfl) rfl hl.1 rfl (Nat.le_of_ble_eq_true rfl) dX6_isChain_116 (fun H locs hJ => ?_)
        refine lv_if_ne (tgt := 126) hx hb dX6_isChain_119 (by decide) (fun c70 => ?_) (fun c70 => ?_)
        · rw [if_neg c70] at hf
          exact D126  σ67 hf _ _ hJ ls (lv_sub hl [] rfl)
        · rw [if_pos c70] at hf
          refine lv_iconst (v := 1) hx hb dX6_isChain_122 (by decide) ?_
          refine lv_goto (tgt := 127) hx hb dX6_isChain_123 (by decide) ?_
          exact D127 (1 : Int32) σ67 hf _ _ hJ ls (lv_sub hl [] rfl)
set_option maxHeartbeats 4000000 in
set_option maxRecDepth 100000 in
theorem c_X6_writeSequence (l : Launch) (G : mx_G) (P : mx_P) (a0 : Nat) (p1 : Int32) (σ : mx_S) (σ' : mx_S) (hf : f_X6_writeSequence P a0 p1 σ = some σ') : mxz σ ≤ mpc P → mxu σ ≤ mps P → mx_M l yX6_writeSequence cX6_writeSequence 6 none 0 0 G P [.ref a0, .int p1] σ none σ' := by
  intro hcap hcau
  refine mx_ofW (by decide +kernel) hcap hcau (Nat.le_of_ble_eq_true rfl) ?_
  intro p e s m below meth c hx hb hr hml hts hown hlocks hname hK hJ ls hl
  have hz0 := hJ.2.1
  have hown : s.vm.findClass RX6 = some m.cls := hown
  have hl : lv_has ls 6 [(0, .ref a0), (1, .int p1)] := hl
  have B4 : ∀ (v0 : Nat) (v2 : Int32) (v3 : Int32) (τ : mx_S) (o : (Int32 × mx_S) ⊕ ((mx_S))), f_X6_writeSequence_B4 P v0 v2 v3 τ = some o → (∀ (y3 : Int32) (υ : mx_S), o = .inl (y3, υ) → ∀ (H : Heap) (locs : List Loc), mx_J G P s.heap (mxz σ) (mxu σ) υ H locs → ∀ ls : Array Slot, lv_has ls 6 [(0, .ref v0), (2, .int v2), (3, .int y3)] → W p l e (mx_rm P 0 0 σ) s m ([.ref a0, .int p1] : List Value).toArray below meth c H locs (mxz υ - mxz σ) (mxu υ - mxu σ) (mx_Z below G P none σ σ' [.ref a0, .int p1] s) (F0 m 4 ls [])) → (∀  (υ : mx_S), o = .inr υ → ∀ (H : Heap) (locs : List Loc), mx_J G P s.heap (mxz σ) (mxu σ) υ H locs → ∀ ls : Array Slot, lv_has ls 6 [(0, .ref v0), (2, .int v2)] → W p l e (mx_rm P 0 0 σ) s m ([.ref a0, .int p1] : List Value).toArray below meth c H locs (mxz υ - mxz σ) (mxu υ - mxu σ) (mx_Z below G P none σ σ' [.ref a0, .int p1] s) (F0 m 25 ls [])) → ∀ (H : Heap) (locs : List Loc), mx_J G P s.heap (mxz σ) (mxu σ) τ H locs → ∀ ls : Array Slot, lv_has ls 6 [(0, .ref v0), (2, .int v2), (3, .int v3)] → W p l e (mx_rm P 0 0 σ) s m ([.ref a0, .int p1] : List Value).toArray below meth c H locs (mxz τ - mxz σ) (mxu τ - mxu σ) (mx_Z below G P none σ σ' [.ref a0, .int p1] s) (F0 m 4 ls []) := by
    intro v0 v2 v3 τ o hf Kb Ke0 H locs hJ ls hl
    unfold f_X6_writeSequence_B4 at hf
    refine lv_iload_n hx hb dX6_writeSequence_4 rfl (lv_at hl 2 rfl) ?_
    refine lv_aload_n hx hb dX6_writeSequence_5 rfl (lv_at hl 0 rfl) ?_
    obtain ⟨x1, e2, hf⟩ := mb0 hf
    refine my_gI hx hb hts hown hK hJ fd_RX6_35 hv_6_2 e2 dX6_writeSequence_6 ?_
    refine lv_icmp_ge (tgt := 25) hx hb dX6_writeSequence_9 (by decide) (fun c3 => ?_) (fun c3 => ?_)
    · rw [if_pos c3] at hf
      exact Ke0 τ (Option.some.inj hf).symm _ _ hJ ls (lv_sub hl [0, 1] rfl)
    · rw [if_neg c3] at hf
      refine lv_aload_n hx hb dX6_writeSequence_12 rfl (lv_at hl 0 rfl) ?_
      obtain ⟨b4, e5, hf⟩ := mb0 hf
      refine my_gR hx hb hts hown hK hJ fd_RX6_25 hv_6_8 e5 dX6_writeSequence_13 ?_
      refine lv_iload_n hx hb dX6_writeSequence_16 rfl (lv_at hl 2 rfl) ?_
      refine lv_iload_n hx hb dX6_writeSequence_17 rfl (lv_at hl 2 rfl) ?_
      obtain ⟨σ6, e7, hf⟩ := mb0 hf
      refine mx_sI hx hb hK hJ e7 dX6_writeSequence_18 (fun H locs hJ => ?_)
      obtain ⟨x8, e9, hf⟩ := mb0 hf
      refine lv_iinc (v := x8) (lv' := [(3, .int x8), (0, .ref v0), (2, .int v2)]) hx hb dX6_writeSequence_19 hl (k := 2) rfl (by rw [← Option.some.inj e9]; rfl) (by decide) rfl (fun ls hl => ?_)
      refine lv_goto (tgt := 4) hx hb dX6_writeSequence_22 (by decide) ?_
      exact Kb x8 σ6 (Option.some.inj hf).symm _ _ hJ ls (lv_sub hl [1, 2, 0] rfl)
  have L4 : ∀ (v0 : Nat) (v2 : Int32) (n : Nat) (v3 : Int32) (τ : mx_S) (o : (mx_S)), mx_lp (f_X6_writeSequence_L4 P v0 v2) n (v3, τ) = some o → (∀  (υ : mx_S), o = υ → ∀ (H : Heap) (locs : List Loc), mx_J G P s.heap (mxz σ) (mxu σ) υ H locs → ∀ ls : Array Slot, lv_has ls 6 [(0, .ref v0), (2, .int v2)] → W p l e (mx_rm P 0 0 σ) s m ([.ref a0, .int p1] : List Value).toArray below meth c H locs (mxz υ - mxz σ) (mxu υ - mxu σ) (mx_Z below G P none σ σ' [.ref a0, .int p1] s) (F0 m 25 ls [])) → ∀ (H : Heap) (locs : List Loc), mx_J G P s.heap (mxz σ) (mxu σ) τ H locs → ∀ ls : Array Slot, lv_has ls 6 [(0, .ref v0), (2, .int v2), (3, .int v3)] → W p l e (mx_rm P 0 0 σ) s m ([.ref a0, .int p1] : List Value).toArray below meth c H locs (mxz τ - mxz σ) (mxu τ - mxu σ) (mx_Z below G P none σ σ' [.ref a0, .int p1] s) (F0 m 4 ls []) := by
    intro v0 v2 n
    induction n with
    | zero =>
      intro v3 τ o hf
      rw [mx_lp0] at hf
      cases hf
    | succ n ih =>
      intro v3 τ o hf Ke0 H locs hJ ls hl
      rw [mx_lpS] at hf
      obtain ⟨b, eb, hf⟩ := mb0 hf
      refine B4 v0 v2 v3 τ b eb (fun y3 υ ho H locs hJ ls hl => ?_) (fun  υ ho H locs hJ ls hl => ?_) H locs hJ ls hl
      · subst ho
        exact ih y3 υ o hf Ke0 H locs hJ ls hl
      · subst ho
        exact Ke0  υ (Option.some.inj hf).symm _ _ hJ ls hl
  have B27 : ∀ (v0 : Nat) (v2 : Int32) (v3 : Int32) (τ : mx_S) (o : (Int32 × Int32 × mx_S) ⊕ ((mx_S))), f_X6_writeSequence_B27 P v0 v2 v3 τ = some o → (∀ (y2 : Int32) (y3 : Int32) (υ : mx_S), o = .inl (y2, y3, υ) → ∀ (H : Heap) (locs : List Loc), mx_J G P s.heap (mxz σ) (mxu σ) υ H locs → ∀ ls : Array Slot, lv_has ls 6 [(0, .ref v0), (2, .int y2), (3, .int y3)] → W p l e (mx_rm P 0 0 σ) s m ([.ref a0, .int p1] : List Value).toArray below meth c H locs (mxz υ - mxz σ) (mxu υ - mxu σ) (mx_Z below G P none σ σ' [.ref a0, .int p1] s) (F0 m 27 ls [])) → (∀  (υ : mx_S), o = .inr υ → ∀ (H : Heap) (locs : List Loc), mx_J G P s.heap (mxz σ) (mxu σ) υ H locs → ∀ ls : Array Slot, lv_has ls 6 [] → W p l e (mx_rm P 0 0 σ) s m ([.ref a0, .int p1] : List Value).toArray below meth c H locs (mxz υ - mxz σ) (mxu υ - mxu σ) (mx_Z below G P none σ σ' [.ref a0, .int p1] s) (F0 m 84 ls [])) → ∀ (H : Heap) (locs : List Loc), mx_J G P s.heap (mxz σ) (mxu σ) τ H locs → ∀ ls : Array Slot, lv_has ls 6 [(0, .ref v0), (2, .int v2), (3, .int v3)] → W p l e (mx_rm P 0 0 σ) s m ([.ref a0, .int p1] : List Value).toArray below meth c H locs (mxz τ - mxz σ) (mxu τ - mxu σ) (mx_Z below G P none σ σ' [.ref a0, .int p1] s) (F0 m 27 ls []) := by
    intro v0 v2 v3 τ o hf Kb Ke0 H locs hJ ls hl
    unfold f_X6_writeSequence_B27 at hf
    refine lv_iload_n hx hb dX6_writeSequence_27 rfl (lv_at hl 2 rfl) ?_
    refine lv_aload_n hx hb dX6_writeSequence_28 rfl (lv_at hl 0 rfl) ?_
    obtain ⟨x13, e14, hf⟩ := mb0 hf
    refine my_gI hx hb hts hown hK hJ fd_RX6_35 hv_6_2 e14 dX6_writeSequence_29 ?_
    refine lv_icmp_ge (tgt := 84) hx hb dX6_writeSequence_32 (by decide) (fun c15 => ?_) (fun c15 => ?_)
    · rw [if_pos c15] at hf
      exact Ke0 τ (Option.some.inj hf).symm _ _ hJ ls (lv_sub hl [] rfl)
    · rw [if_neg c15] at hf
      refine lv_iload_n hx hb dX6_writeSequence_35 rfl (lv_at hl 1 rfl) ?_
      refine lv_iload_n hx hb dX6_writeSequence_36 rfl (lv_at hl 2 rfl) ?_
      refine lv_iconst (v := 1) hx hb dX6_writeSequence_37 (by decide) ?_
      refine lv_iadd hx hb dX6_writeSequence_38 ?_
      obtain ⟨x16, e17, hf⟩ := mb0 hf
      refine lv_irem hx hb dX6_writeSequence_39 (mm_Is e17).1 ?_
      refine mx_eI (mm_Is e17).2 ?_
      refine lv_istore (lv' := [(4, .int x16), (0, .ref v0), (2, .int v2), (3, .int v3)]) hx hb dX6_writeSequence_40 hl (by decide) rfl (fun ls hl => ?_)
      refine lv_iload_n hx hb dX6_writeSequence_42 rfl (lv_at hl 2 rfl) ?_
      refine lv_iload_n hx hb dX6_writeSequence_43 rfl (lv_at hl 3 rfl) ?_
      refine lv_iconst (v := 1) hx hb dX6_writeSequence_44 (by decide) ?_
      refine lv_iadd hx hb dX6_writeSequence_45 ?_
      obtain ⟨x18, e19, hf⟩ := mb0 hf
      refine lv_idiv hx hb dX6_writeSequence_46 (md_Is e19).1 ?_
      refine mx_eI (md_Is e19).2 ?_
      refine lv_istore_n (lv' := [(2, .int x18), (4, .int x16), (0, .ref v0), (3, .int v3)]) hx hb dX6_writeSequence_47 rfl hl (by decide) rfl (fun ls hl => ?_)
      refine lv_aload_n hx hb dX6_writeSequence_48 rfl (lv_at hl 2 rfl) ?_
      obtain ⟨b20, e21, hf⟩ := mb0 hf
      refine my_gR hx hb hts hown hK hJ fd_RX6_25 hv_6_8 e21 dX6_writeSequence_49 ?_
      refine lv_iload_n hx hb dX6_writeSequence_52 rfl (lv_at hl 3 rfl) ?_
      obtain ⟨x22, e23, hf⟩ := mb0 hf
      refine mx_aI hx hb hK hJ e23 dX6_writeSequence_53 ?_
      refine lv_istore (lv' := [(5, .int x22), (2, .int x18), (4, .int x16), (0, .ref v0), (3, .int v3)]) hx hb dX6_writeSequence_54 hl (by decide) rfl (fun ls hl => ?_)
      refine lv_aload_n hx hb dX6_writeSequence_56 rfl (lv_at hl 3 rfl) ?_
      obtain ⟨b24, e25, hf⟩ := mb0 hf
      refine my_gR hx hb hts hown hK hJ fd_RX6_25 hv_6_8 e25 dX6_writeSequence_57 ?_
      refine lv_iload_n hx hb dX6_writeSequence_60 rfl (lv_at hl 4 rfl) ?_
      refine lv_aload_n hx hb dX6_writeSequence_61 rfl (lv_at hl 3 rfl) ?_
      obtain ⟨b26, e27, hf⟩ := mb0 hf
      refine my_gR hx hb hts hown hK hJ fd_RX6_25 hv_6_8 e27 dX6_writeSequence_62 ?_
      refine lv_iload hx hb dX6_writeSequence_65 (lv_at hl 2 rfl) ?_
      obtain ⟨x28, e29, hf⟩ := mb0 hf
      refine mx_aI hx hb hK hJ e29 dX6_writeSequence_67 ?_
      obtain ⟨σ30, e31, hf⟩ := mb0 hf
      refine mx_sI hx hb hK hJ e31 dX6_writeSequence_68 (fun H locs hJ => ?_)
      refine lv_aload_n hx hb dX6_writeSequence_69 rfl (lv_at hl 3 rfl) ?_
      obtain ⟨b32, e33, hf⟩ := mb0 hf
      refine my_gR hx hb hts hown hK hJ fd_RX6_25 hv_6_8 e33 dX6_writeSequence_70 ?_
      refine lv_iload hx hb dX6_writeSequence_73 (lv_at hl 2 rfl) ?_
      refine lv_iload hx hb dX6_writeSequence_75 (lv_at hl 0 rfl) ?_
      obtain ⟨σ34, e35, hf⟩ := mb0 hf
      refine mx_sI hx hb hK hJ e35 dX6_writeSequence_77 (fun H locs hJ => ?_)
      obtain ⟨x36, e37, hf⟩ := mb0 hf
      refine lv_iinc (v := x36) (lv' := [(3, .int x36), (5, .int x22), (2, .int x18), (4, .int x16), (0, .ref v0)]) hx hb dX6_writeSequence_78 hl (k := 4) rfl (by rw [← Option.some.inj e37]; rfl) (by decide) rfl (fun ls hl => ?_)
      refine lv_goto (tgt := 27) hx hb dX6_writeSequence_81 (by decide) ?_
      exact Kb x18 x36 σ34 (Option.some.inj hf).symm _ _ hJ ls (lv_sub hl [4, 2, 0] rfl)
  have L27 : ∀ (v0 : Nat) (n : Nat) (v2 : Int32) (v3 : Int32) (τ : mx_S) (o : (mx_S)), mx_lp (f_X6_writeSequence_L27 P v0) n (v2, v3, τ) = some o → (∀  (υ : mx_S), o = υ → ∀ (H : Heap) (locs : List Loc), mx_J G P s.heap (mxz σ) (mxu σ) υ H locs → ∀ ls : Array Slot, lv_has ls 6 [] → W p l e (mx_rm P 0 0 σ) s m ([.ref a0, .int p1] : List Value).toArray below meth c H locs (mxz υ - mxz σ) (mxu υ - mxu σ) (mx_Z below G P none σ σ' [.ref a0, .int p1] s) (F0 m 84 ls [])) → ∀ (H : Heap) (locs : List Loc), mx_J G P s.heap (mxz σ) (mxu σ) τ H locs → ∀ ls : Array Slot, lv_has ls 6 [(0, .ref v0), (2, .int v2), (3, .int v3)] → W p l e (mx_rm P 0 0 σ) s m ([.ref a0, .int p1] : List Value).toArray below meth c H locs (mxz τ - mxz σ) (mxu τ - mxu σ) (mx_Z below G P none σ σ' [.ref a0, .int p1] s) (F0 m 27 ls []) := by
    intro v0 n
    induction n with
    | zero =>
      intro v2 v3 τ o hf
      rw [mx_lp0] at hf
      cases hf
    | succ n ih =>
      intro v2 v3 τ o hf Ke0 H locs hJ ls hl
      rw [mx_lpS] at hf
      obtain ⟨b, eb, hf⟩ := mb0 hf
      refine B27 v0 v2 v3 τ b eb (fun y2 y3 υ ho H locs hJ ls hl => ?_) (fun  υ ho H locs hJ ls hl => ?_) H locs hJ ls hl
      · subst ho
        exact ih y2 y3 υ o hf Ke0 H locs hJ ls hl
      · subst ho
        exact Ke0  υ (Option.some.inj hf).symm _ _ hJ ls hl
  unfold f_X6_writeSequence at hf
  refine lv_iload_n hx hb dX6_writeSequence_0 rfl (lv_at hl 1 rfl) ?_
  refine lv_istore_n (lv' := [(2, .int p1), (0, .ref a0), (1, .int p1)]) hx hb dX6_writeSequence_1 rfl hl (by decide) rfl (fun ls hl => ?_)
  refine lv_iconst (v := 0) hx hb dX6_writeSequence_2 (by decide) ?_
  refine lv_istore_n (lv' := [(3, .int (0 : Int32)), (2, .int p1), (0, .ref a0), (1, .int p1)]) hx hb dX6_writeSequence_3 rfl hl (by decide) rfl (fun ls hl => ?_)
  obtain ⟨o10, e11, hf⟩ := mb0 hf
  refine L4 a0 p1 (mpN P) (0 : Int32) σ o10 e11 (fun σ12 ho H locs hJ ls hl => ?_) _ _ hJ ls (lv_sub hl [2, 1, 0] rfl)
  · rw [ho] at hf
    have hf : ((mx_lp (f_X6_writeSequence_L27 P a0) (mpN P) (p1, (1 : Int32), σ12)).bind (fun t => (fun σ40 => some σ40) t)) = some σ' := hf
    refine lv_iconst (v := 1) hx hb dX6_writeSequence_25 (by decide) ?_
    refine lv_istore_n (lv' := [(3, .int (1 : Int32)), (0, .ref a0), (2, .int p1)]) hx hb dX6_writeSequence_26 rfl hl (by decide) rfl (fun ls hl => ?_)
    obtain ⟨o38, e39, hf⟩ := mb0 hf
    refine L27 a0 (mpN P) p1 (1 : Int32) σ12 o38 e39 (fun σ40 ho H locs hJ ls hl => ?_) _ _ hJ ls (lv_sub hl [1, 2, 0] rfl)
    · rw [ho] at hf
      have hf : (some σ40) = some σ' := hf
      exact my_vret hx hb hr hlocks hJ hf dX6_writeSequence_84
set_option maxHeartbeats 4000000 in
set_option maxRecDepth 100000 in
theorem c_X6_renumbered (l : Launch) (G : mx_G) (P : mx_P) (a0 : Nat) (p1 : Int32) (σ : mx_S) (r : Int32) (σ' : mx_S) (hf : f_X6_renumbered P a0 p1 σ = some (r, σ')) : mxz σ ≤ mpc P → mxu σ ≤ mps P → mx_M l yX6_renumbered cX6_renumbered 4 (some .int) 0 0 G P [.ref a0, .int p1] σ (some (.int r)) σ' := by
  intro hcap hcau
  refine mx_ofW (by decide +kernel) hcap hcau (Nat.le_of_ble_eq_true rfl) ?_
  intro p e s m below meth c hx hb hr hml hts hown hlocks hname hK hJ ls hl
  have hz0 := hJ.2.1
  have hown : s.vm.findClass RX6 = some m.cls := hown
  have hl : lv_has ls 4 [(0, .ref a0), (1, .int p1)] := hl
  have D55_4 : ∀ (v0 : Nat) (v1 : Int32) (v2 : Int32) (v3 : Int32) (τ : mx_S) (o : (Int32 × Int32 × mx_S) ⊕ ((Int32 × mx_S))), f_X6_renumbered_D55_4 P v0 v1 v2 v3 τ = some o → (∀ (y2 : Int32) (y3 : Int32) (υ : mx_S), o = .inl (y2, y3, υ) → ∀ (H : Heap) (locs : List Loc), mx_J G P s.heap (mxz σ) (mxu σ) υ H locs → ∀ ls : Array Slot, lv_has ls 4 [(0, .ref v0), (1, .int v1), (2, .int y2), (3, .int y3)] → W p l e (mx_rm P 0 0 σ) s m ([.ref a0, .int p1] : List Value).toArray below meth c H locs (mxz υ - mxz σ) (mxu υ - mxu σ) (mx_Z below G P (some (.int r)) σ σ' [.ref a0, .int p1] s) (F0 m 4 ls [])) → (∀ (y2 : Int32) (υ : mx_S), o = .inr (y2, υ) → ∀ (H : Heap) (locs : List Loc), mx_J G P s.heap (mxz σ) (mxu σ) υ H locs → ∀ ls : Array Slot, lv_has ls 4 [(2, .int y2)] → W p l e (mx_rm P 0 0 σ) s m ([.ref a0, .int p1] : List Value).toArray below meth c H locs (mxz υ - mxz σ) (mxu υ - mxu σ) (mx_Z below G P (some (.int r)) σ σ' [.ref a0, .int p1] s) (F0 m 61 ls [])) → ∀ (H : Heap) (locs : List Loc), mx_J G P s.heap (mxz σ) (mxu σ) τ H locs → ∀ ls : Array Slot, lv_has ls 4 [(0, .ref v0), (1, .int v1), (2, .int v2), (3, .int v3)] → W p l e (mx_rm P 0 0 σ) s m ([.ref a0, .int p1] : List Value).toArray below meth c H locs (mxz τ - mxz σ) (mxu τ - mxu σ) (mx_Z below G P (some (.int r)) σ σ' [.ref a0, .int p1] s) (F0 m 55 ls []) := by
    intro v0 v1 v2 v3 τ o hf Kb Ke0 H locs hJ ls hl
    unfold f_X6_renumbered_D55_4 at hf
    obtain ⟨x5, e6, hf⟩ := mb0 hf
    refine lv_iinc (v := x5) (lv' := [(3, .int x5), (0, .ref v0), (1, .int v1), (2, .int v2)]) hx hb dX6_renumbered_55 hl (k := 3) rfl (by rw [← Option.some.inj e6]; rfl) (by decide) rfl (fun ls hl => ?_)
    refine lv_goto (tgt := 4) hx hb dX6_renumbered_58 (by decide) ?_
    exact Kb v2 x5 τ (Option.some.inj hf).symm _ _ hJ ls (lv_sub hl [1, 2, 3, 0] rfl)
  have B4 : ∀ (v0 : Nat) (v1 : Int32) (v2 : Int32) (v3 : Int32) (τ : mx_S) (o : (Int32 × Int32 × mx_S) ⊕ ((Int32 × mx_S))), f_X6_renumbered_B4 P v0 v1 v2 v3 τ = some o → (∀ (y2 : Int32) (y3 : Int32) (υ : mx_S), o = .inl (y2, y3, υ) → ∀ (H : Heap) (locs : List Loc), mx_J G P s.heap (mxz σ) (mxu σ) υ H locs → ∀ ls : Array Slot, lv_has ls 4 [(0, .ref v0), (1, .int v1), (2, .int y2), (3, .int y3)] → W p l e (mx_rm P 0 0 σ) s m ([.ref a0, .int p1] : List Value).toArray below meth c H locs (mxz υ - mxz σ) (mxu υ - mxu σ) (mx_Z below G P (some (.int r)) σ σ' [.ref a0, .int p1] s) (F0 m 4 ls [])) → (∀ (y2 : Int32) (υ : mx_S), o = .inr (y2, υ) → ∀ (H : Heap) (locs : List Loc), mx_J G P s.heap (mxz σ) (mxu σ) υ H locs → ∀ ls : Array Slot, lv_has ls 4 [(2, .int y2)] → W p l e (mx_rm P 0 0 σ) s m ([.ref a0, .int p1] : List Value).toArray below meth c H locs (mxz υ - mxz σ) (mxu υ - mxu σ) (mx_Z below G P (some (.int r)) σ σ' [.ref a0, .int p1] s) (F0 m 61 ls [])) → ∀ (H : Heap) (locs : List Loc), mx_J G P s.heap (mxz σ) (mxu σ) τ H locs → ∀ ls : Array Slot, lv_has ls 4 [(0, .ref v0), (1, .int v1), (2, .int v2), (3, .int v3)] → W p l e (mx_rm P 0 0 σ) s m ([.ref a0, .int p1] : List Value).toArray below meth c H locs (mxz τ - mxz σ) (mxu τ - mxu σ) (mx_Z below G P (some (.int r)) σ σ' [.ref a0, .int p1] s) (F0 m 4 ls []) := by
    intro v0 v1 v2 v3 τ o hf Kb Ke0 H locs hJ ls hl
    unfold f_X6_renumbered_B4 at hf
    refine lv_iload_n hx hb dX6_renumbered_4 rfl (lv_at hl 3 rfl) ?_
    refine lv_aload_n hx hb dX6_renumbered_5 rfl (lv_at hl 0 rfl) ?_
    obtain ⟨x1, e2, hf⟩ := mb0 hf
    refine my_gI hx hb hts hown hK hJ fd_RX6_47 hv_6_3 e2 dX6_renumbered_6 ?_
    refine lv_icmp_ge (tgt := 61) hx hb dX6_renumbered_9 (by decide) (fun c3 => ?_) (fun c3 => ?_)
    · rw [if_pos c3] at hf
      exact Ke0 v2 τ (Option.some.inj hf).symm _ _ hJ ls (lv_sub hl [2] rfl)
    · rw [if_neg c3] at hf
      refine lv_iload_n hx hb dX6_renumbered_12 rfl (lv_at hl 1 rfl) ?_
      refine lv_iload_n hx hb dX6_renumbered_13 rfl (lv_at hl 3 rfl) ?_
      refine lv_ishr hx hb dX6_renumbered_14 ?_
      refine lv_iconst (v := 1) hx hb dX6_renumbered_15 (by decide) ?_
      refine lv_iand hx hb dX6_renumbered_16 ?_
      refine lv_iconst (v := 1) hx hb dX6_renumbered_17 (by decide) ?_
      refine lv_icmp_ne (tgt := 55) hx hb dX6_renumbered_18 (by decide) (fun c4 => ?_) (fun c4 => ?_)
      · rw [if_neg c4] at hf
        exact D55_4 v0 v1 v2 v3 τ o hf Kb Ke0 _ _ hJ ls (lv_sub hl [0, 1, 2, 3] rfl)
      · rw [if_pos c4] at hf
        refine lv_iload_n hx hb dX6_renumbered_21 rfl (lv_at hl 2 rfl) ?_
        refine lv_aload_n hx hb dX6_renumbered_22 rfl (lv_at hl 0 rfl) ?_
        obtain ⟨b7, e8, hf⟩ := mb0 hf
        refine my_gR hx hb hts hown hK hJ fd_RX6_19 hv_6_6 e8 dX6_renumbered_23 ?_
        refine lv_aload_n hx hb dX6_renumbered_26 rfl (lv_at hl 0 rfl) ?_
        obtain ⟨b9, e10, hf⟩ := mb0 hf
        refine my_gR hx hb hts hown hK hJ fd_RX6_25 hv_6_8 e10 dX6_renumbered_27 ?_
        refine lv_aload_n hx hb dX6_renumbered_30 rfl (lv_at hl 0 rfl) ?_
        obtain ⟨b11, e12, hf⟩ := mb0 hf
        refine my_gR hx hb hts hown hK hJ fd_RX6_13 hv_6_4 e12 dX6_renumbered_31 ?_
        refine lv_iload_n hx hb dX6_renumbered_34 rfl (lv_at hl 3 rfl) ?_
        obtain ⟨x13, e14, hf⟩ := mb0 hf
        refine mx_aI hx hb hK hJ e14 dX6_renumbered_35 ?_
        obtain ⟨x15, e16, hf⟩ := mb0 hf
        refine mx_aI hx hb hK hJ e16 dX6_renumbered_36 ?_
        refine lv_bipush (v := 6) hx hb dX6_renumbered_37 (by decide) ?_
        refine lv_imul hx hb dX6_renumbered_39 ?_
        refine lv_aload_n hx hb dX6_renumbered_40 rfl (lv_at hl 0 rfl) ?_
        obtain ⟨b17, e18, hf⟩ := mb0 hf
        refine my_gR hx hb hts hown hK hJ fd_RX6_25 hv_6_8 e18 dX6_renumbered_41 ?_
        refine lv_aload_n hx hb dX6_renumbered_44 rfl (lv_at hl 0 rfl) ?_
        obtain ⟨b19, e20, hf⟩ := mb0 hf
        refine my_gR hx hb hts hown hK hJ fd_RX6_16 hv_6_5 e20 dX6_renumbered_45 ?_
        refine lv_iload_n hx hb dX6_renumbered_48 rfl (lv_at hl 3 rfl) ?_
        obtain ⟨x21, e22, hf⟩ := mb0 hf
        refine mx_aI hx hb hK hJ e22 dX6_renumbered_49 ?_
        obtain ⟨x23, e24, hf⟩ := mb0 hf
        refine mx_aI hx hb hK hJ e24 dX6_renumbered_50 ?_
        refine lv_iadd hx hb dX6_renumbered_51 ?_
        obtain ⟨x25, e26, hf⟩ := mb0 hf
        refine mx_aI hx hb hK hJ e26 dX6_renumbered_52 ?_
        refine lv_ior hx hb dX6_renumbered_53 ?_
        obtain ⟨x27, e28, hf⟩ := mb0 hf
        refine mx_nI e28 ?_
        refine lv_istore_n (lv' := [(2, .int x27), (0, .ref v0), (1, .int v1), (3, .int v3)]) hx hb dX6_renumbered_54 rfl hl (by decide) rfl (fun ls hl => ?_)
        exact D55_4 v0 v1 x27 v3 τ o hf Kb Ke0 _ _ hJ ls (lv_sub hl [1, 2, 0, 3] rfl)
  have L4 : ∀ (v0 : Nat) (v1 : Int32) (n : Nat) (v2 : Int32) (v3 : Int32) (τ : mx_S) (o : (Int32 × mx_S)), mx_lp (f_X6_renumbered_L4 P v0 v1) n (v2, v3, τ) = some o → (∀ (y2 : Int32) (υ : mx_S), o = (y2, υ) → ∀ (H : Heap) (locs : List Loc), mx_J G P s.heap (mxz σ) (mxu σ) υ H locs → ∀ ls : Array Slot, lv_has ls 4 [(2, .int y2)] → W p l e (mx_rm P 0 0 σ) s m ([.ref a0, .int p1] : List Value).toArray below meth c H locs (mxz υ - mxz σ) (mxu υ - mxu σ) (mx_Z below G P (some (.int r)) σ σ' [.ref a0, .int p1] s) (F0 m 61 ls [])) → ∀ (H : Heap) (locs : List Loc), mx_J G P s.heap (mxz σ) (mxu σ) τ H locs → ∀ ls : Array Slot, lv_has ls 4 [(0, .ref v0), (1, .int v1), (2, .int v2), (3, .int v3)] → W p l e (mx_rm P 0 0 σ) s m ([.ref a0, .int p1] : List Value).toArray below meth c H locs (mxz τ - mxz σ) (mxu τ - mxu σ) (mx_Z below G P (some (.int r)) σ σ' [.ref a0, .int p1] s) (F0 m 4 ls []) := by
    intro v0 v1 n
    induction n with
    | zero =>
      intro v2 v3 τ o hf
      rw [mx_lp0] at hf
      cases hf
    | succ n ih =>
      intro v2 v3 τ o hf Ke0 H locs hJ ls hl
      rw [mx_lpS] at hf
      obtain ⟨b, eb, hf⟩ := mb0 hf
      refine B4 v0 v1 v2 v3 τ b eb (fun y2 y3 υ ho H locs hJ ls hl => ?_) (fun y2 υ ho H locs hJ ls hl => ?_) H locs hJ ls hl
      · subst ho
        exact ih y2 y3 υ o hf Ke0 H locs hJ ls hl
      · subst ho
        exact Ke0 y2 υ (Option.some.inj hf).symm _ _ hJ ls hl
  unfold f_X6_renumbered at hf
  refine lv_iconst (v := 0) hx hb dX6_renumbered_0 (by decide) ?_
  refine lv_istore_n (lv' := [(2, .int (0 : Int32)), (0, .ref a0), (1, .int p1)]) hx hb dX6_renumbered_1 rfl hl (by decide) rfl (fun ls hl => ?_)
  refine lv_iconst (v := 0) hx hb dX6_renumbered_2 (by decide) ?_
  refine lv_istore_n (lv' := [(3, .int (0 : Int32)), (2, .int (0 : Int32)), (0, .ref a0), (1, .int p1)]) hx hb dX6_renumbered_3 rfl hl (by decide) rfl (fun ls hl => ?_)
  obtain ⟨o29, e30, hf⟩ := mb0 hf
  refine L4 a0 p1 (mpN P) (0 : Int32) (0 : Int32) σ o29 e30 (fun y31 σ32 ho H locs hJ ls hl => ?_) _ _ hJ ls (lv_sub hl [2, 3, 1, 0] rfl)
  · rw [ho] at hf
    have hf : (some (y31, σ32)) = some (r, σ') := hf
    refine lv_iload_n hx hb dX6_renumbered_61 rfl (lv_at hl 0 rfl) ?_
    exact my_iret hx hb hr hlocks hJ hf dX6_renumbered_62
set_option maxHeartbeats 4000000 in
set_option maxRecDepth 100000 in
theorem c_X6_seeAllLike (l : Launch) (G : mx_G) (P : mx_P) (a0 : Nat) (p1 : Int32) (σ : mx_S) (σ' : mx_S) (hf : f_X6_seeAllLike P a0 p1 σ = some σ') : mxz σ ≤ mpc P → mxu σ ≤ mps P → mx_M l yX6_seeAllLike cX6_seeAllLike 5 none 1 25 G P [.ref a0, .int p1] σ none σ' := by
  intro hcap hcau
  refine mx_ofW (by decide +kernel) hcap hcau (Nat.le_of_ble_eq_true rfl) ?_
  intro p e s m below meth c hx hb hr hml hts hown hlocks hname hK hJ ls hl
  have hz0 := hJ.2.1
  have hown : s.vm.findClass RX6 = some m.cls := hown
  have hl : lv_has ls 5 [(0, .ref a0), (1, .int p1)] := hl
  have B4 : ∀ (v0 : Nat) (v1 : Int32) (v2 : Int32) (v3 : Int32) (τ : mx_S) (o : (Int32 × Int32 × mx_S) ⊕ ((Int32 × mx_S))), f_X6_seeAllLike_B4 P v0 v1 v2 v3 τ = some o → (∀ (y2 : Int32) (y3 : Int32) (υ : mx_S), o = .inl (y2, y3, υ) → ∀ (H : Heap) (locs : List Loc), mx_J G P s.heap (mxz σ) (mxu σ) υ H locs → ∀ ls : Array Slot, lv_has ls 5 [(0, .ref v0), (1, .int v1), (2, .int y2), (3, .int y3)] → W p l e (mx_rm P 1 25 σ) s m ([.ref a0, .int p1] : List Value).toArray below meth c H locs (mxz υ - mxz σ) (mxu υ - mxu σ) (mx_Z below G P none σ σ' [.ref a0, .int p1] s) (F0 m 4 ls [])) → (∀ (y2 : Int32) (υ : mx_S), o = .inr (y2, υ) → ∀ (H : Heap) (locs : List Loc), mx_J G P s.heap (mxz σ) (mxu σ) υ H locs → ∀ ls : Array Slot, lv_has ls 5 [(0, .ref v0), (1, .int v1), (2, .int y2)] → W p l e (mx_rm P 1 25 σ) s m ([.ref a0, .int p1] : List Value).toArray below meth c H locs (mxz υ - mxz σ) (mxu υ - mxu σ) (mx_Z below G P none σ σ' [.ref a0, .int p1] s) (F0 m 22 ls [])) → ∀ (H : Heap) (locs : List Loc), mx_J G P s.heap (mxz σ) (mxu σ) τ H locs → ∀ ls : Array Slot, lv_has ls 5 [(0, .ref v0), (1, .int v1), (2, .int v2), (3, .int v3)] → W p l e (mx_rm P 1 25 σ) s m ([.ref a0, .int p1] : List Value).toArray below meth c H locs (mxz τ - mxz σ) (mxu τ - mxu σ) (mx_Z below G P none σ σ' [.ref a0, .int p1] s) (F0 m 4 ls []) := by
    intro v0 v1 v2 v3 τ o hf Kb Ke0 H locs hJ ls hl
    unfold f_X6_seeAllLike_B4 at hf
    refine lv_iload_n hx hb dX6_seeAllLike_4 rfl (lv_at hl 3 rfl) ?_
    refine lv_aload_n hx hb dX6_seeAllLike_5 rfl (lv_at hl 0 rfl) ?_
    obtain ⟨x1, e2, hf⟩ := mb0 hf
    refine my_gI hx hb hts hown hK hJ fd_RX6_35 hv_6_2 e2 dX6_seeAllLike_6 ?_
    refine lv_icmp_gt (tgt := 22) hx hb dX6_seeAllLike_9 (by decide) (fun c3 => ?_) (fun c3 => ?_)
    · rw [if_pos c3] at hf
      exact Ke0 v2 τ (Option.some.inj hf).symm _ _ hJ ls (lv_sub hl [0, 1, 2] rfl)
    · rw [if_neg c3] at hf
      refine lv_iload_n hx hb dX6_seeAllLike_12 rfl (lv_at hl 2 rfl) ?_
      refine lv_iload_n hx hb dX6_seeAllLike_13 rfl (lv_at hl 3 rfl) ?_
      refine lv_imul hx hb dX6_seeAllLike_14 ?_
      obtain ⟨x4, e5, hf⟩ := mb0 hf
      refine mx_nI e5 ?_
      refine lv_istore_n (lv' := [(2, .int x4), (0, .ref v0), (1, .int v1), (3, .int v3)]) hx hb dX6_seeAllLike_15 rfl hl (by decide) rfl (fun ls hl => ?_)
      obtain ⟨x6, e7, hf⟩ := mb0 hf
      refine lv_iinc (v := x6) (lv' := [(3, .int x6), (2, .int x4), (0, .ref v0), (1, .int v1)]) hx hb dX6_seeAllLike_16 hl (k := 3) rfl (by rw [← Option.some.inj e7]; rfl) (by decide) rfl (fun ls hl => ?_)
      refine lv_goto (tgt := 4) hx hb dX6_seeAllLike_19 (by decide) ?_
      exact Kb x4 x6 τ (Option.some.inj hf).symm _ _ hJ ls (lv_sub hl [2, 3, 1, 0] rfl)
  have L4 : ∀ (v0 : Nat) (v1 : Int32) (n : Nat) (v2 : Int32) (v3 : Int32) (τ : mx_S) (o : (Int32 × mx_S)), mx_lp (f_X6_seeAllLike_L4 P v0 v1) n (v2, v3, τ) = some o → (∀ (y2 : Int32) (υ : mx_S), o = (y2, υ) → ∀ (H : Heap) (locs : List Loc), mx_J G P s.heap (mxz σ) (mxu σ) υ H locs → ∀ ls : Array Slot, lv_has ls 5 [(0, .ref v0), (1, .int v1), (2, .int y2)] → W p l e (mx_rm P 1 25 σ) s m ([.ref a0, .int p1] : List Value).toArray below meth c H locs (mxz υ - mxz σ) (mxu υ - mxu σ) (mx_Z below G P none σ σ' [.ref a0, .int p1] s) (F0 m 22 ls [])) → ∀ (H : Heap) (locs : List Loc), mx_J G P s.heap (mxz σ) (mxu σ) τ H locs → ∀ ls : Array Slot, lv_has ls 5 [(0, .ref v0), (1, .int v1), (2, .int v2), (3, .int v3)] → W p l e (mx_rm P 1 25 σ) s m ([.ref a0, .int p1] : List Value).toArray below meth c H locs (mxz τ - mxz σ) (mxu τ - mxu σ) (mx_Z below G P none σ σ' [.ref a0, .int p1] s) (F0 m 4 ls []) := by
    intro v0 v1 n
    induction n with
    | zero =>
      intro v2 v3 τ o hf
      rw [mx_lp0] at hf
      cases hf
    | succ n ih =>
      intro v2 v3 τ o hf Ke0 H locs hJ ls hl
      rw [mx_lpS] at hf
      obtain ⟨b, eb, hf⟩ := mb0 hf
      refine B4 v0 v1 v2 v3 τ b eb (fun y2 y3 υ ho H locs hJ ls hl => ?_) (fun y2 υ ho H locs hJ ls hl => ?_) H locs hJ ls hl
      · subst ho
        exact ih y2 y3 υ o hf Ke0 H locs hJ ls hl
      · subst ho
        exact Ke0 y2 υ (Option.some.inj hf).symm _ _ hJ ls hl
  have B24 : ∀ (v0 : Nat) (v1 : Int32) (v2 : Int32) (v3 : Int32) (τ : mx_S) (o : (Int32 × mx_S) ⊕ ((mx_S))), f_X6_seeAllLike_B24 P v0 v1 v2 v3 τ = some o → (∀ (y3 : Int32) (υ : mx_S), o = .inl (y3, υ) → ∀ (H : Heap) (locs : List Loc), mx_J G P s.heap (mxz σ) (mxu σ) υ H locs → ∀ ls : Array Slot, lv_has ls 5 [(0, .ref v0), (1, .int v1), (2, .int v2), (3, .int y3)] → W p l e (mx_rm P 1 25 σ) s m ([.ref a0, .int p1] : List Value).toArray below meth c H locs (mxz υ - mxz σ) (mxu υ - mxu σ) (mx_Z below G P none σ σ' [.ref a0, .int p1] s) (F0 m 24 ls [])) → (∀  (υ : mx_S), o = .inr υ → ∀ (H : Heap) (locs : List Loc), mx_J G P s.heap (mxz σ) (mxu σ) υ H locs → ∀ ls : Array Slot, lv_has ls 5 [] → W p l e (mx_rm P 1 25 σ) s m ([.ref a0, .int p1] : List Value).toArray below meth c H locs (mxz υ - mxz σ) (mxu υ - mxu σ) (mx_Z below G P none σ σ' [.ref a0, .int p1] s) (F0 m 66 ls [])) → ∀ (H : Heap) (locs : List Loc), mx_J G P s.heap (mxz σ) (mxu σ) τ H locs → ∀ ls : Array Slot, lv_has ls 5 [(0, .ref v0), (1, .int v1), (2, .int v2), (3, .int v3)] → W p l e (mx_rm P 1 25 σ) s m ([.ref a0, .int p1] : List Value).toArray below meth c H locs (mxz τ - mxz σ) (mxu τ - mxu σ) (mx_Z below G P none σ σ' [.ref a0, .int p1] s) (F0 m 24 ls []) := by
    intro v0 v1 v2 v3 τ o hf Kb Ke0 H locs hJ ls hl
    unfold f_X6_seeAllLike_B24 at hf
    refine lv_iload_n hx hb dX6_seeAllLike_24 rfl (lv_at hl 3 rfl) ?_
    refine lv_iload_n hx hb dX6_seeAllLike_25 rfl (lv_at hl 2 rfl) ?_
    refine lv_icmp_ge (tgt := 66) hx hb dX6_seeAllLike_26 (by decide) (fun c12 => ?_) (fun c12 => ?_)
    · rw [if_pos c12] at hf
      exact Ke0 τ (Option.some.inj hf).symm _ _ hJ ls (lv_sub hl [] rfl)
    · rw [if_neg c12] at hf
      refine lv_aload_n hx hb dX6_seeAllLike_29 rfl (lv_at hl 0 rfl) ?_
      refine lv_iload_n hx hb dX6_seeAllLike_30 rfl (lv_at hl 3 rfl) ?_
      obtain ⟨i13, e14, hf⟩ := mb0 hf
      obtain ⟨σ15, e16, hf⟩ := mb0 hf
      refine mx_callV (As := [.int v3]) (rest := []) hx hb hml hts hown hK hJ rfl rfl (ci := 6) rfl e14 (c_X6_writeSequence l G P v0 v3 τ σ15 e16) me_X6_writeSequence kw_1785 ks_72 kw_1783 (Nat.le_of_ble_eq_true rfl) (Nat.le_of_ble_eq_true rfl) rfl hl.1 rfl (Nat.le_of_ble_eq_true rfl) dX6_seeAllLike_31 (fun H locs hJ => ?_)
      refine lv_aload_n hx hb dX6_seeAllLike_34 rfl (lv_at hl 0 rfl) ?_
      refine lv_iload_n hx hb dX6_seeAllLike_35 rfl (lv_at hl 1 rfl) ?_
      obtain ⟨i17, e18, hf⟩ := mb0 hf
      obtain ⟨x20, σ19, e21, hf⟩ := mc0 hf
      refine mx_callV (As := [.int v1]) (rest := []) hx hb hml hts hown hK hJ rfl rfl (ci := 6) rfl e18 (c_X6_renumbered l G P v0 v1 σ15 x20 σ19 e21) me_X6_renumbered kw_1789 ks_73 kw_1787 (Nat.le_of_ble_eq_true rfl) (Nat.le_of_ble_eq_true rfl) rfl hl.1 rfl (Nat.le_of_ble_eq_true rfl) dX6_seeAllLike_36 (fun H locs hJ => ?_)
      refine lv_istore (lv' := [(4, .int x20), (0, .ref v0), (1, .int v1), (2, .int v2), (3, .int v3)]) hx hb dX6_seeAllLike_39 hl (by decide) rfl (fun ls hl => ?_)
      refine lv_aload_n hx hb dX6_seeAllLike_41 rfl (lv_at hl 1 rfl) ?_
      obtain ⟨b22, e23, hf⟩ := mb0 hf
      refine my_gR hx hb hts hown hK hJ fd_RX6_28 hv_6_9 e23 dX6_seeAllLike_42 ?_
      refine lv_iload hx hb dX6_seeAllLike_45 (lv_at hl 0 rfl) ?_
      refine lv_iconst (v := 5) hx hb dX6_seeAllLike_47 (by decide) ?_
      refine lv_ishr hx hb dX6_seeAllLike_48 ?_
      refine lv_dup2_11 hx hb dX6_seeAllLike_49 rfl rfl ?_
      obtain ⟨x24, e25, hf⟩ := mb0 hf
      refine mx_aI hx hb hK hJ e25 dX6_seeAllLike_50 ?_
      refine lv_iconst (v := 1) hx hb dX6_seeAllLike_51 (by decide) ?_
      refine lv_iload hx hb dX6_seeAllLike_52 (lv_at hl 0 rfl) ?_
      refine lv_bipush (v := 31) hx hb dX6_seeAllLike_54 (by decide) ?_
      refine lv_iand hx hb dX6_seeAllLike_56 ?_
      refine lv_ishl hx hb dX6_seeAllLike_57 ?_
      refine lv_ior hx hb dX6_seeAllLike_58 ?_
      obtain ⟨σ26, e27, hf⟩ := mb0 hf
      refine mx_sI hx hb hK hJ e27 dX6_seeAllLike_59 (fun H locs hJ => ?_)
      obtain ⟨x28, e29, hf⟩ := mb0 hf
      refine lv_iinc (v := x28) (lv' := [(3, .int x28), (4, .int x20), (0, .ref v0), (1, .int v1), (2, .int v2)]) hx hb dX6_seeAllLike_60 hl (k := 4) rfl (by rw [← Option.some.inj e29]; rfl) (by decide) rfl (fun ls hl => ?_)
      refine lv_goto (tgt := 24) hx hb dX6_seeAllLike_63 (by decide) ?_
      exact Kb x28 σ26 (Option.some.inj hf).symm _ _ hJ ls (lv_sub hl [2, 3, 4, 0] rfl)
  have L24 : ∀ (v0 : Nat) (v1 : Int32) (v2 : Int32) (n : Nat) (v3 : Int32) (τ : mx_S) (o : (mx_S)), mx_lp (f_X6_seeAllLike_L24 P v0 v1 v2) n (v3, τ) = some o → (∀  (υ : mx_S), o = υ → ∀ (H : Heap) (locs : List Loc), mx_J G P s.heap (mxz σ) (mxu σ) υ H locs → ∀ ls : Array Slot, lv_has ls 5 [] → W p l e (mx_rm P 1 25 σ) s m ([.ref a0, .int p1] : List Value).toArray below meth c H locs (mxz υ - mxz σ) (mxu υ - mxu σ) (mx_Z below G P none σ σ' [.ref a0, .int p1] s) (F0 m 66 ls [])) → ∀ (H : Heap) (locs : List Loc), mx_J G P s.heap (mxz σ) (mxu σ) τ H locs → ∀ ls : Array Slot, lv_has ls 5 [(0, .ref v0), (1, .int v1), (2, .int v2), (3, .int v3)] → W p l e (mx_rm P 1 25 σ) s m ([.ref a0, .int p1] : List Value).toArray below meth c H locs (mxz τ - mxz σ) (mxu τ - mxu σ) (mx_Z below G P none σ σ' [.ref a0, .int p1] s) (F0 m 24 ls []) := by
    intro v0 v1 v2 n
    induction n with
    | zero =>
      intro v3 τ o hf
      rw [mx_lp0] at hf
      cases hf
    | succ n ih =>
      intro v3 τ o hf Ke0 H locs hJ ls hl
      rw [mx_lpS] at hf
      obtain ⟨b, eb, hf⟩ := mb0 hf
      refine B24 v0 v1 v2 v3 τ b eb (fun y3 υ ho H locs hJ ls hl => ?_) (fun  υ ho H locs hJ ls hl => ?_) H locs hJ ls hl
      · subst ho
        exact ih y3 υ o hf Ke0 H locs hJ ls hl
      · subst ho
        exact Ke0  υ (Option.some.inj hf).symm _ _ hJ ls hl
  unfold f_X6_seeAllLike at hf
  refine lv_iconst (v := 1) hx hb dX6_seeAllLike_0 (by decide) ?_
  refine lv_istore_n (lv' := [(2, .int (1 : Int32)), (0, .ref a0), (1, .int p1)]) hx hb dX6_seeAllLike_1 rfl hl (by decide) rfl (fun ls hl => ?_)
  refine lv_iconst (v := 2) hx hb dX6_seeAllLike_2 (by decide) ?_
  refine lv_istore_n (lv' := [(3, .int (2 : Int32)), (2, .int (1 : Int32)), (0, .ref a0), (1, .int p1)]) hx hb dX6_seeAllLike_3 rfl hl (by decide) rfl (fun ls hl => ?_)
  obtain ⟨o8, e9, hf⟩ := mb0 hf
  refine L4 a0 p1 (mpN P) (1 : Int32) (2 : Int32) σ o8 e9 (fun y10 σ11 ho H locs hJ ls hl => ?_) _ _ hJ ls (lv_sub hl [2, 3, 1, 0] rfl)
  · rw [ho] at hf
    have hf : ((mx_lp (f_X6_seeAllLike_L24 P a0 p1 y10) (mpN P) ((0 : Int32), σ11)).bind (fun t => (fun σ32 => some σ32) t)) = some σ' := hf
    refine lv_iconst (v := 0) hx hb dX6_seeAllLike_22 (by decide) ?_
    refine lv_istore_n (lv' := [(3, .int (0 : Int32)), (0, .ref a0), (1, .int p1), (2, .int y10)]) hx hb dX6_seeAllLike_23 rfl hl (by decide) rfl (fun ls hl => ?_)
    obtain ⟨o30, e31, hf⟩ := mb0 hf
    refine L24 a0 p1 y10 (mpN P) (0 : Int32) σ11 o30 e31 (fun σ32 ho H locs hJ ls hl => ?_) _ _ hJ ls (lv_sub hl [1, 2, 3, 0] rfl)
    · rw [ho] at hf
      have hf : (some σ32) = some σ' := hf
      exact my_vret hx hb hr hlocks hJ hf dX6_seeAllLike_66
set_option maxHeartbeats 4000000 in
set_option maxRecDepth 100000 in
theorem c_X6_listAll (l : Launch) (G : mx_G) (P : mx_P) (a0 : Nat) (p1 : Int32) (p2 : Int32) (σ : mx_S) (σ' : mx_S) (hf : f_X6_listAll P a0 p1 p2 σ = some σ') : mxz σ ≤ mpc P → mxu σ ≤ mps P → mx_M l yX6_listAll cX6_listAll 4 none 3 65 G P [.ref a0, .int p1, .int p2] σ none σ' := by
  intro hcap hcau
  refine mx_ofW (by decide +kernel) hcap hcau (Nat.le_of_ble_eq_true rfl) ?_
  intro p e s m below meth c hx hb hr hml hts hown hlocks hname hK hJ ls hl
  have hz0 := hJ.2.1
  have hown : s.vm.findClass RX6 = some m.cls := hown
  have hl : lv_has ls 4 [(0, .ref a0), (1, .int p1), (2, .int p2)] := hl
  have D94_31 : ∀ (v0 : Nat) (v2 : Int32) (v3 : Int32) (τ : mx_S) (o : (Int32 × mx_S) ⊕ ((mx_S))), f_X6_listAll_D94_31 P v0 v2 v3 τ = some o → (∀ (y3 : Int32) (υ : mx_S), o = .inl (y3, υ) → ∀ (H : Heap) (locs : List Loc), mx_J G P s.heap (mxz σ) (mxu σ) υ H locs → ∀ ls : Array Slot, lv_has ls 4 [(0, .ref v0), (2, .int v2), (3, .int y3)] → W p l e (mx_rm P 3 65 σ) s m ([.ref a0, .int p1, .int p2] : List Value).toArray below meth c H locs (mxz υ - mxz σ) (mxu υ - mxu σ) (mx_Z below G P none σ σ' [.ref a0, .int p1, .int p2] s) (F0 m 31 ls [])) → (∀  (υ : mx_S), o = .inr υ → ∀ (H : Heap) (locs : List Loc), mx_J G P s.heap (mxz σ) (mxu σ) υ H locs → ∀ ls : Array Slot, lv_has ls 4 [] → W p l e (mx_rm P 3 65 σ) s m ([.ref a0, .int p1, .int p2] : List Value).toArray below meth c H locs (mxz υ - mxz σ) (mxu υ - mxu σ) (mx_Z below G P none σ σ' [.ref a0, .int p1, .int p2] s) (F0 m 100 ls [])) → ∀ (H : Heap) (locs : List Loc), mx_J G P s.heap (mxz σ) (mxu σ) τ H locs → ∀ ls : Array Slot, lv_has ls 4 [(0, .ref v0), (2, .int v2), (3, .int v3)] → W p l e (mx_rm P 3 65 σ) s m ([.ref a0, .int p1, .int p2] : List Value).toArray below meth c H locs (mxz τ - mxz σ) (mxu τ - mxu σ) (mx_Z below G P none σ σ' [.ref a0, .int p1, .int p2] s) (F0 m 94 ls []) := by
    intro v0 v2 v3 τ o hf Kb Ke0 H locs hJ ls hl
    unfold f_X6_listAll_D94_31 at hf
    obtain ⟨x22, e23, hf⟩ := mb0 hf
    refine lv_iinc (v := x22) (lv' := [(3, .int x22), (0, .ref v0), (2, .int v2)]) hx hb dX6_listAll_94 hl (k := 2) rfl (by rw [← Option.some.inj e23]; rfl) (by decide) rfl (fun ls hl => ?_)
    refine lv_goto (tgt := 31) hx hb dX6_listAll_97 (by decide) ?_
    exact Kb x22 τ (Option.some.inj hf).symm _ _ hJ ls (lv_sub hl [1, 2, 0] rfl)
  have B31 : ∀ (v0 : Nat) (v2 : Int32) (v3 : Int32) (τ : mx_S) (o : (Int32 × mx_S) ⊕ ((mx_S))), f_X6_listAll_B31 P v0 v2 v3 τ = some o → (∀ (y3 : Int32) (υ : mx_S), o = .inl (y3, υ) → ∀ (H : Heap) (locs : List Loc), mx_J G P s.heap (mxz σ) (mxu σ) υ H locs → ∀ ls : Array Slot, lv_has ls 4 [(0, .ref v0), (2, .int v2), (3, .int y3)] → W p l e (mx_rm P 3 65 σ) s m ([.ref a0, .int p1, .int p2] : List Value).toArray below meth c H locs (mxz υ - mxz σ) (mxu υ - mxu σ) (mx_Z below G P none σ σ' [.ref a0, .int p1, .int p2] s) (F0 m 31 ls [])) → (∀  (υ : mx_S), o = .inr υ → ∀ (H : Heap) (locs : List Loc), mx_J G P s.heap (mxz σ) (mxu σ) υ H locs → ∀ ls : Array Slot, lv_has ls 4 [] → W p l e (mx_rm P 3 65 σ) s m ([.ref a0, .int p1, .int p2] : List Value).toArray below meth c H locs (mxz υ - mxz σ) (mxu υ - mxu σ) (mx_Z below G P none σ σ' [.ref a0, .int p1, .int p2] s) (F0 m 100 ls [])) → ∀ (H : Heap) (locs : List Loc), mx_J G P s.heap (mxz σ) (mxu σ) τ H locs → ∀ ls : Array Slot, lv_has ls 4 [(0, .ref v0), (2, .int v2), (3, .int v3)] → W p l e (mx_rm P 3 65 σ) s m ([.ref a0, .int p1, .int p2] : List Value).toArray below meth c H locs (mxz τ - mxz σ) (mxu τ - mxu σ) (mx_Z below G P none σ σ' [.ref a0, .int p1, .int p2] s) (F0 m 31 ls []) := by
    intro v0 v2 v3 τ o hf Kb Ke0 H locs hJ ls hl
    unfold f_X6_listAll_B31 at hf
    refine lv_iload_n hx hb dX6_listAll_31 rfl (lv_at hl 2 rfl) ?_
    refine lv_if_lt (tgt := 100) hx hb dX6_listAll_32 (by decide) (fun c17 => ?_) (fun c17 => ?_)
    · rw [if_pos c17] at hf
      exact Ke0 τ (Option.some.inj hf).symm _ _ hJ ls (lv_sub hl [] rfl)
    · rw [if_neg c17] at hf
      refine lv_iload_n hx hb dX6_listAll_35 rfl (lv_at hl 2 rfl) ?_
      obtain ⟨x19, σ18, e20, hf⟩ := mc0 hf
      refine mx_callS (As := [.int v3]) (rest := []) hx hb hml hts hown hK hJ rfl rfl (c_J6_bitCount_0f7a4 l G P v3 τ x19 σ18 e20) me_J6_bitCount_0f7a4 kw_1758 kw_1757 (Nat.le_of_ble_eq_true rfl) (Nat.le_of_ble_eq_true rfl) rfl hl.1 rfl (Nat.le_of_ble_eq_true rfl) dX6_listAll_36 (fun H locs hJ => ?_)
      refine lv_iload_n hx hb dX6_listAll_39 rfl (lv_at hl 1 rfl) ?_
      refine lv_icmp_ne (tgt := 94) hx hb dX6_listAll_40 (by decide) (fun c21 => ?_) (fun c21 => ?_)
      · rw [if_neg c21] at hf
        exact D94_31 v0 v2 v3 σ18 o hf Kb Ke0 _ _ hJ ls (lv_sub hl [0, 1, 2] rfl)
      · rw [if_pos c21] at hf
        refine lv_aload_n hx hb dX6_listAll_43 rfl (lv_at hl 0 rfl) ?_
        refine lv_iload_n hx hb dX6_listAll_44 rfl (lv_at hl 2 rfl) ?_
        obtain ⟨i24, e25, hf⟩ := mb0 hf
        obtain ⟨x27, σ26, e28, hf⟩ := mc0 hf
        refine mx_callV (As := [.int v3]) (rest := []) hx hb hml hts hown hK hJ rfl rfl (ci := 6) rfl e25 (c_X6_isSeen l G P v0 v3 σ18 x27 σ26 e28) me_X6_isSeen kw_1765 ks_67 kw_1763 (Nat.le_of_ble_eq_true rfl) (Nat.le_of_ble_eq_true rfl) rfl hl.1 rfl (Nat.le_of_ble_eq_true rfl) dX6_listAll_45 (fun H locs hJ => ?_)
        refine lv_if_ne (tgt := 94) hx hb dX6_listAll_48 (by decide) (fun c29 => ?_) (fun c29 => ?_)
        · rw [if_neg c29] at hf
          exact D94_31 v0 v2 v3 σ26 o hf Kb Ke0 _ _ hJ ls (lv_sub hl [0, 1, 2] rfl)
        · rw [if_pos c29] at hf
          refine lv_aload_n hx hb dX6_listAll_51 rfl (lv_at hl 0 rfl) ?_
          refine lv_iload_n hx hb dX6_listAll_52 rfl (lv_at hl 2 rfl) ?_
          obtain ⟨i30, e31, hf⟩ := mb0 hf
          obtain ⟨x33, σ32, e34, hf⟩ := mc0 hf
          refine mx_callV (As := [.int v3]) (rest := []) hx hb hml hts hown hK hJ rfl rfl (ci := 6) rfl e31 (c_X6_isChain l G P v0 v3 σ26 x33 σ32 e34) me_X6_isChain kw_1769 ks_68 kw_1767 (Nat.le_of_ble_eq_true rfl) (Nat.le_of_ble_eq_true rfl) rfl hl.1 rfl (Nat.le_of_ble_eq_true rfl) dX6_listAll_53 (fun H locs hJ => ?_)
          refine lv_if_eq (tgt := 94) hx hb dX6_listAll_56 (by decide) (fun c35 => ?_) (fun c35 => ?_)
          · rw [if_pos c35] at hf
            exact D94_31 v0 v2 v3 σ32 o hf Kb Ke0 _ _ hJ ls (lv_sub hl [0, 1, 2] rfl)
          · rw [if_neg c35] at hf
            refine lv_aload_n hx hb dX6_listAll_59 rfl (lv_at hl 0 rfl) ?_
            obtain ⟨x36, e37, hf⟩ := mb0 hf
            refine my_gI hx hb hts hown hK hJ fd_RX6_31 hv_6_0 e37 dX6_listAll_60 ?_
            refine lv_sipush (v := 156) hx hb dX6_listAll_63 (by decide) ?_
            refine lv_icmp_ge (tgt := 94) hx hb dX6_listAll_66 (by decide) (fun c38 => ?_) (fun c38 => ?_)
            · rw [if_pos c38] at hf
              exact D94_31 v0 v2 v3 σ32 o hf Kb Ke0 _ _ hJ ls (lv_sub hl [0, 1, 2] rfl)
            · rw [if_neg c38] at hf
              refine lv_aload_n hx hb dX6_listAll_69 rfl (lv_at hl 0 rfl) ?_
              obtain ⟨b39, e40, hf⟩ := mb0 hf
              refine my_gR hx hb hts hown hK hJ fd_RX6_9 hv_6_1 e40 dX6_listAll_70 ?_
              refine lv_aload_n hx hb dX6_listAll_73 rfl (lv_at hl 0 rfl) ?_
              obtain ⟨x41, e42, hf⟩ := mb0 hf
              refine my_gI hx hb hts hown hK hJ fd_RX6_31 hv_6_0 e42 dX6_listAll_74 ?_
              refine lv_iload_n hx hb dX6_listAll_77 rfl (lv_at hl 2 rfl) ?_
              obtain ⟨σ43, e44, hf⟩ := mb0 hf
              refine mx_sI hx hb hK hJ e44 dX6_listAll_78 (fun H locs hJ => ?_)
              refine lv_aload_n hx hb dX6_listAll_79 rfl (lv_at hl 0 rfl) ?_
              refine lv_dup hx hb dX6_listAll_80 rfl ?_
              obtain ⟨x45, e46, hf⟩ := mb0 hf
              refine my_gI hx hb hts hown hK hJ fd_RX6_31 hv_6_0 e46 dX6_listAll_81 ?_
              refine lv_iconst (v := 1) hx hb dX6_listAll_84 (by decide) ?_
              refine lv_iadd hx hb dX6_listAll_85 ?_
              obtain ⟨σ47, e48, hf⟩ := mb0 hf
              refine my_pI hx hb hts hown hK hJ fd_RX6_31 cd_6 (Or.inl rfl) ht_6_0 e48 dX6_listAll_86 (fun H locs hJ => ?_)
              refine lv_aload_n hx hb dX6_listAll_89 rfl (lv_at hl 0 rfl) ?_
              refine lv_iload_n hx hb dX6_listAll_90 rfl (lv_at hl 2 rfl) ?_
              obtain ⟨i49, e50, hf⟩ := mb0 hf
              obtain ⟨σ51, e52, hf⟩ := mb0 hf
              refine mx_callV (As := [.int v3]) (rest := []) hx hb hml hts hown hK hJ rfl rfl (ci := 6) rfl e50 (c_X6_seeAllLike l G P v0 v3 σ47 σ51 e52) me_X6_seeAllLike kw_1781 ks_71 kw_1779 (Nat.le_of_ble_eq_true rfl) (Nat.le_of_ble_eq_true rfl) rfl hl.1 rfl (Nat.le_of_ble_eq_true rfl) dX6_listAll_91 (fun H locs hJ => ?_)
              exact D94_31 v0 v2 v3 σ51 o hf Kb Ke0 _ _ hJ ls (lv_sub hl [0, 1, 2] rfl)
  have L31 : ∀ (v0 : Nat) (v2 : Int32) (n : Nat) (v3 : Int32) (τ : mx_S) (o : (mx_S)), mx_lp (f_X6_listAll_L31 P v0 v2) n (v3, τ) = some o → (∀  (υ : mx_S), o = υ → ∀ (H : Heap) (locs : List Loc), mx_J G P s.heap (mxz σ) (mxu σ) υ H locs → ∀ ls : Array Slot, lv_has ls 4 [] → W p l e (mx_rm P 3 65 σ) s m ([.ref a0, .int p1, .int p2] : List Value).toArray below meth c H locs (mxz υ - mxz σ) (mxu υ - mxu σ) (mx_Z below G P none σ σ' [.ref a0, .int p1, .int p2] s) (F0 m 100 ls [])) → ∀ (H : Heap) (locs : List Loc), mx_J G P s.heap (mxz σ) (mxu σ) τ H locs → ∀ ls : Array Slot, lv_has ls 4 [(0, .ref v0), (2, .int v2), (3, .int v3)] → W p l e (mx_rm P 3 65 σ) s m ([.ref a0, .int p1, .int p2] : List Value).toArray below meth c H locs (mxz τ - mxz σ) (mxu τ - mxu σ) (mx_Z below G P none σ σ' [.ref a0, .int p1, .int p2] s) (F0 m 31 ls []) := by
    intro v0 v2 n
    induction n with
    | zero =>
      intro v3 τ o hf
      rw [mx_lp0] at hf
      cases hf
    | succ n ih =>
      intro v3 τ o hf Ke0 H locs hJ ls hl
      rw [mx_lpS] at hf
      obtain ⟨b, eb, hf⟩ := mb0 hf
      refine B31 v0 v2 v3 τ b eb (fun y3 υ ho H locs hJ ls hl => ?_) (fun  υ ho H locs hJ ls hl => ?_) H locs hJ ls hl
      · subst ho
        exact ih y3 υ o hf Ke0 H locs hJ ls hl
      · subst ho
        exact Ke0  υ (Option.some.inj hf).symm _ _ hJ ls hl
  unfold f_X6_listAll at hf
  refine lv_aload_n hx hb dX6_listAll_0 rfl (lv_at hl 0 rfl) ?_
  refine lv_iconst (v := 0) hx hb dX6_listAll_1 (by decide) ?_
  obtain ⟨σ1, e2, hf⟩ := mb0 hf
  refine my_pI hx hb hts hown hK hJ fd_RX6_31 cd_6 (Or.inl rfl) ht_6_0 e2 dX6_listAll_2 (fun H locs hJ => ?_)
  refine lv_aload_n hx hb dX6_listAll_5 rfl (lv_at hl 0 rfl) ?_
  refine lv_iload_n hx hb dX6_listAll_6 rfl (lv_at hl 1 rfl) ?_
  obtain ⟨σ3, e4, hf⟩ := mb0 hf
  refine my_pI hx hb hts hown hK hJ fd_RX6_35 cd_6 (Or.inl rfl) ht_6_2 e4 dX6_listAll_7 (fun H locs hJ => ?_)
  refine lv_aload_n hx hb dX6_listAll_10 rfl (lv_at hl 0 rfl) ?_
  obtain ⟨i5, e6, hf⟩ := mb0 hf
  obtain ⟨σ7, e8, hf⟩ := mb0 hf
  refine mx_callV (As := []) (rest := []) hx hb hml hts hown hK hJ rfl rfl (ci := 6) rfl e6 (c_X6_numberPairs l G P a0 σ3 σ7 e8) me_X6_numberPairs kw_1754 ks_66 kw_1752 (Nat.le_of_ble_eq_true rfl) (Nat.le_of_ble_eq_true rfl) rfl hl.1 rfl (Nat.le_of_ble_eq_true rfl) dX6_listAll_11 (fun H locs hJ => ?_)
  refine lv_aload_n hx hb dX6_listAll_14 rfl (lv_at hl 0 rfl) ?_
  obtain ⟨b9, e10, hf⟩ := mb0 hf
  refine my_gR hx hb hts hown hK hJ fd_RX6_28 hv_6_9 e10 dX6_listAll_15 ?_
  refine lv_iconst (v := 0) hx hb dX6_listAll_18 (by decide) ?_
  obtain ⟨σ11, e12, hf⟩ := mb0 hf
  refine mx_callS (As := [.ref b9, .int (0 : Int32)]) (rest := []) hx hb hml hts hown hK hJ rfl rfl (c_J7_fill_53178 l G P b9 (0 : Int32) σ7 σ11 e12) me_J7_fill_53178 kw_817 kw_1756 (Nat.le_of_ble_eq_true rfl) (Nat.le_of_ble_eq_true rfl) rfl hl.1 rfl (Nat.le_of_ble_eq_true rfl) dX6_listAll_19 (fun H locs hJ => ?_)
  refine lv_iconst (v := 1) hx hb dX6_listAll_22 (by decide) ?_
  refine lv_aload_n hx hb dX6_listAll_23 rfl (lv_at hl 0 rfl) ?_
  obtain ⟨x13, e14, hf⟩ := mb0 hf
  refine my_gI hx hb hts hown hK hJ fd_RX6_47 hv_6_3 e14 dX6_listAll_24 ?_
  refine lv_ishl hx hb dX6_listAll_27 ?_
  refine lv_iconst (v := 1) hx hb dX6_listAll_28 (by decide) ?_
  refine lv_isub hx hb dX6_listAll_29 ?_
  obtain ⟨x15, e16, hf⟩ := mb0 hf
  refine mx_nI e16 ?_
  refine lv_istore_n (lv' := [(3, .int x15), (0, .ref a0), (1, .int p1), (2, .int p2)]) hx hb dX6_listAll_30 rfl hl (by decide) rfl (fun ls hl => ?_)
  obtain ⟨o53, e54, hf⟩ := mb0 hf
  refine L31 a0 p2 (mpN P) x15 σ11 o53 e54 (fun σ55 ho H locs hJ ls hl => ?_) _ _ hJ ls (lv_sub hl [1, 3, 0] rfl)
  · rw [ho] at hf
    have hf : (some σ55) = some σ' := hf
    exact my_vret hx hb hr hlocks hJ hf dX6_listAll_100
set_option maxHeartbeats 4000000 in
set_option maxRecDepth 100000 in
theorem c_X7_init (l : Launch) (G : mx_G) (P : mx_P) (a0 : Nat) (σ : mx_S) (σ' : mx_S) (hf : f_X7_init P a0 σ = some σ') : mxz σ ≤ mpc P → mxu σ ≤ mps P → mx_M l yX7_init cX7_init 2 none 4 72 G P [.ref a0] σ none σ' := by
  intro hcap hcau
  refine mx_ofW (by decide +kernel) hcap hcau (Nat.le_of_ble_eq_true rfl) ?_
  intro p e s m below meth c hx hb hr hml hts hown hlocks hname hK hJ ls hl
  have hz0 := hJ.2.1
  have hown : s.vm.findClass RX7 = some m.cls := hown
  have hl : lv_has ls 2 [(0, .ref a0)] := hl
  have B15 : ∀ (v0 : Nat) (v1 : Int32) (τ : mx_S) (o : (Int32 × mx_S) ⊕ ((mx_S))), f_X7_init_B15 P v0 v1 τ = some o → (∀ (y1 : Int32) (υ : mx_S), o = .inl (y1, υ) → ∀ (H : Heap) (locs : List Loc), mx_J G P s.heap (mxz σ) (mxu σ) υ H locs → ∀ ls : Array Slot, lv_has ls 2 [(0, .ref v0), (1, .int y1)] → W p l e (mx_rm P 4 72 σ) s m ([.ref a0] : List Value).toArray below meth c H locs (mxz υ - mxz σ) (mxu υ - mxu σ) (mx_Z below G P none σ σ' [.ref a0] s) (F0 m 15 ls [])) → (∀  (υ : mx_S), o = .inr υ → ∀ (H : Heap) (locs : List Loc), mx_J G P s.heap (mxz σ) (mxu σ) υ H locs → ∀ ls : Array Slot, lv_has ls 2 [(0, .ref v0)] → W p l e (mx_rm P 4 72 σ) s m ([.ref a0] : List Value).toArray below meth c H locs (mxz υ - mxz σ) (mxu υ - mxu σ) (mx_Z below G P none σ σ' [.ref a0] s) (F0 m 40 ls [])) → ∀ (H : Heap) (locs : List Loc), mx_J G P s.heap (mxz σ) (mxu σ) τ H locs → ∀ ls : Array Slot, lv_has ls 2 [(0, .ref v0), (1, .int v1)] → W p l e (mx_rm P 4 72 σ) s m ([.ref a0] : List Value).toArray below meth c H locs (mxz τ - mxz σ) (mxu τ - mxu σ) (mx_Z below G P none σ σ' [.ref a0] s) (F0 m 15 ls []) := by
    intro v0 v1 τ o hf Kb Ke0 H locs hJ ls hl
    unfold f_X7_init_B15 at hf
    refine lv_iload_n hx hb dX7_init_15 rfl (lv_at hl 1 rfl) ?_
    refine lv_bipush (v := 40) hx hb dX7_init_16 (by decide) ?_
    refine lv_icmp_ge (tgt := 40) hx hb dX7_init_18 (by decide) (fun c6 => ?_) (fun c6 => ?_)
    · rw [if_pos c6] at hf
      exact Ke0 τ (Option.some.inj hf).symm _ _ hJ ls (lv_sub hl [0] rfl)
    · rw [if_neg c6] at hf
      refine lv_aload_n hx hb dX7_init_21 rfl (lv_at hl 0 rfl) ?_
      obtain ⟨b7, e8, hf⟩ := mb0 hf
      refine my_gR hx hb hts hown hK hJ fd_RX7_11 hv_7_0 e8 dX7_init_22 ?_
      refine lv_iload_n hx hb dX7_init_25 rfl (lv_at hl 1 rfl) ?_
      obtain ⟨b9, σ10, e11, hf⟩ := mc0 hf
      refine mx_nO hx hb hts wi_5 cd_5.1 hown hK hJ rfl rfl (ci := 5) rfl e11 kw_339 kw_341 kw_9 df_5 dX7_init_26 (fun H locs hJ => ?_)
      refine lv_dup hx hb dX7_init_29 rfl ?_
      obtain ⟨σ12, e13, hf⟩ := mb0 hf
      refine mx_callI (As := []) (rest := [.ref b9, .int v1, .ref b7]) hx hb hml hts hown hK hJ rfl rfl (c_X5_init l G P b9 σ10 σ12 e13) me_X5_init kw_343 rfl kw_342 (Nat.le_of_ble_eq_true rfl) (Nat.le_of_ble_eq_true rfl) rfl hl.1 rfl (Nat.le_of_ble_eq_true rfl) dX7_init_30 (fun H locs hJ => ?_)
      obtain ⟨σ14, e15, hf⟩ := mb0 hf
      refine mx_sR hx hb hK hJ (ci := 5) rfl rfl e15 dX7_init_33 (fun H locs hJ => ?_)
      obtain ⟨x16, e17, hf⟩ := mb0 hf
      refine lv_iinc (v := x16) (lv' := [(1, .int x16), (0, .ref v0)]) hx hb dX7_init_34 hl (k := 1) rfl (by rw [← Option.some.inj e17]; rfl) (by decide) rfl (fun ls hl => ?_)
      refine lv_goto (tgt := 15) hx hb dX7_init_37 (by decide) ?_
      exact Kb x16 σ14 (Option.some.inj hf).symm _ _ hJ ls (lv_sub hl [1, 0] rfl)
  have L15 : ∀ (v0 : Nat) (n : Nat) (v1 : Int32) (τ : mx_S) (o : (mx_S)), mx_lp (f_X7_init_L15 P v0) n (v1, τ) = some o → (∀  (υ : mx_S), o = υ → ∀ (H : Heap) (locs : List Loc), mx_J G P s.heap (mxz σ) (mxu σ) υ H locs → ∀ ls : Array Slot, lv_has ls 2 [(0, .ref v0)] → W p l e (mx_rm P 4 72 σ) s m ([.ref a0] : List Value).toArray below meth c H locs (mxz υ - mxz σ) (mxu υ - mxu σ) (mx_Z below G P none σ σ' [.ref a0] s) (F0 m 40 ls [])) → ∀ (H : Heap) (locs : List Loc), mx_J G P s.heap (mxz σ) (mxu σ) τ H locs → ∀ ls : Array Slot, lv_has ls 2 [(0, .ref v0), (1, .int v1)] → W p l e (mx_rm P 4 72 σ) s m ([.ref a0] : List Value).toArray below meth c H locs (mxz τ - mxz σ) (mxu τ - mxu σ) (mx_Z below G P none σ σ' [.ref a0] s) (F0 m 15 ls []) := by
    intro v0 n
    induction n with
    | zero =>
      intro v1 τ o hf
      rw [mx_lp0] at hf
      cases hf
    | succ n ih =>
      intro v1 τ o hf Ke0 H locs hJ ls hl
      rw [mx_lpS] at hf
      obtain ⟨b, eb, hf⟩ := mb0 hf
      refine B15 v0 v1 τ b eb (fun y1 υ ho H locs hJ ls hl => ?_) (fun  υ ho H locs hJ ls hl => ?_) H locs hJ ls hl
      · subst ho
        exact ih y1 υ o hf Ke0 H locs hJ ls hl
      · subst ho
        exact Ke0  υ (Option.some.inj hf).symm _ _ hJ ls hl
  have B65 : ∀ (v0 : Nat) (v1 : Int32) (τ : mx_S) (o : (Int32 × mx_S) ⊕ ((mx_S))), f_X7_init_B65 P v0 v1 τ = some o → (∀ (y1 : Int32) (υ : mx_S), o = .inl (y1, υ) → ∀ (H : Heap) (locs : List Loc), mx_J G P s.heap (mxz σ) (mxu σ) υ H locs → ∀ ls : Array Slot, lv_has ls 2 [(0, .ref v0), (1, .int y1)] → W p l e (mx_rm P 4 72 σ) s m ([.ref a0] : List Value).toArray below meth c H locs (mxz υ - mxz σ) (mxu υ - mxu σ) (mx_Z below G P none σ σ' [.ref a0] s) (F0 m 65 ls [])) → (∀  (υ : mx_S), o = .inr υ → ∀ (H : Heap) (locs : List Loc), mx_J G P s.heap (mxz σ) (mxu σ) υ H locs → ∀ ls : Array Slot, lv_has ls 2 [(0, .ref v0)] → W p l e (mx_rm P 4 72 σ) s m ([.ref a0] : List Value).toArray below meth c H locs (mxz υ - mxz σ) (mxu υ - mxu σ) (mx_Z below G P none σ σ' [.ref a0] s) (F0 m 107 ls [])) → ∀ (H : Heap) (locs : List Loc), mx_J G P s.heap (mxz σ) (mxu σ) τ H locs → ∀ ls : Array Slot, lv_has ls 2 [(0, .ref v0), (1, .int v1)] → W p l e (mx_rm P 4 72 σ) s m ([.ref a0] : List Value).toArray below meth c H locs (mxz τ - mxz σ) (mxu τ - mxu σ) (mx_Z below G P none σ σ' [.ref a0] s) (F0 m 65 ls []) := by
    intro v0 v1 τ o hf Kb Ke0 H locs hJ ls hl
    unfold f_X7_init_B65 at hf
    refine lv_iload_n hx hb dX7_init_65 rfl (lv_at hl 1 rfl) ?_
    refine lv_iconst (v := 4) hx hb dX7_init_66 (by decide) ?_
    refine lv_icmp_ge (tgt := 107) hx hb dX7_init_67 (by decide) (fun c36 => ?_) (fun c36 => ?_)
    · rw [if_pos c36] at hf
      exact Ke0 τ (Option.some.inj hf).symm _ _ hJ ls (lv_sub hl [0] rfl)
    · rw [if_neg c36] at hf
      refine lv_aload_n hx hb dX7_init_70 rfl (lv_at hl 0 rfl) ?_
      obtain ⟨b37, e38, hf⟩ := mb0 hf
      refine my_gR hx hb hts hown hK hJ fd_RX7_25 hv_7_5 e38 dX7_init_71 ?_
      refine lv_iload_n hx hb dX7_init_74 rfl (lv_at hl 1 rfl) ?_
      obtain ⟨b39, σ40, e41, hf⟩ := mc0 hf
      refine mx_nO hx hb hts wi_8 cd_8.1 hown hK hJ rfl rfl (ci := 8) rfl e41 kw_475 kw_369 kw_11 df_8 dX7_init_75 (fun H locs hJ => ?_)
      refine lv_dup hx hb dX7_init_78 rfl ?_
      obtain ⟨σ42, e43, hf⟩ := mb0 hf
      refine mx_callI (As := []) (rest := [.ref b39, .int v1, .ref b37]) hx hb hml hts hown hK hJ rfl rfl (c_X8_init l G P b39 σ40 σ42 e43) me_X8_init kw_371 rfl kw_477 (Nat.le_of_ble_eq_true rfl) (Nat.le_of_ble_eq_true rfl) rfl hl.1 rfl (Nat.le_of_ble_eq_true rfl) dX7_init_79 (fun H locs hJ => ?_)
      obtain ⟨σ44, e45, hf⟩ := mb0 hf
      refine mx_sR hx hb hK hJ (ci := 8) rfl rfl e45 dX7_init_82 (fun H locs hJ => ?_)
      refine lv_aload_n hx hb dX7_init_83 rfl (lv_at hl 0 rfl) ?_
      obtain ⟨b46, e47, hf⟩ := mb0 hf
      refine my_gR hx hb hts hown hK hJ fd_RX7_25 hv_7_5 e47 dX7_init_84 ?_
      refine lv_iload_n hx hb dX7_init_87 rfl (lv_at hl 1 rfl) ?_
      obtain ⟨b48, e49, hf⟩ := mb0 hf
      refine mx_aR hx hb hK hJ (t := 5) rfl (fun _ _ _ => rfl) e49 dX7_init_88 ?_
      obtain ⟨b50, e51, hf⟩ := mb0 hf
      refine my_gR hx hb hts hown hK hJ fd_RX7_30 hv_8_0 e51 dX7_init_89 ?_
      refine lv_ldc2 hx hb hown (hts _ kw_478) dX7_init_92 ?_
      refine lv_ldc2 hx hb hown (hts _ kw_478) dX7_init_95 ?_
      obtain ⟨i52, e53, hf⟩ := mb0 hf
      obtain ⟨σ54, e55, hf⟩ := mb0 hf
      refine mx_callV (As := [.long (65536 : Int64), .long (65536 : Int64)]) (rest := []) hx hb hml hts hown hK hJ rfl rfl (ci := 0) rfl e53 (c_X0_keep l G P b50 (65536 : Int64) (65536 : Int64) σ44 σ54 e55) me_X0_keep kw_480 kw_481 kw_479 (Nat.le_of_ble_eq_true rfl) (Nat.le_of_ble_eq_true rfl) rfl hl.1 rfl (Nat.le_of_ble_eq_true rfl) dX7_init_98 (fun H locs hJ => ?_)
      obtain ⟨x56, e57, hf⟩ := mb0 hf
      refine lv_iinc (v := x56) (lv' := [(1, .int x56), (0, .ref v0)]) hx hb dX7_init_101 hl (k := 1) rfl (by rw [← Option.some.inj e57]; rfl) (by decide) rfl (fun ls hl => ?_)
      refine lv_goto (tgt := 65) hx hb dX7_init_104 (by decide) ?_
      exact Kb x56 σ54 (Option.some.inj hf).symm _ _ hJ ls (lv_sub hl [1, 0] rfl)
  have L65 : ∀ (v0 : Nat) (n : Nat) (v1 : Int32) (τ : mx_S) (o : (mx_S)), mx_lp (f_X7_init_L65 P v0) n (v1, τ) = some o → (∀  (υ : mx_S), o = υ → ∀ (H : Heap) (locs : List Loc), mx_J G P s.heap (mxz σ) (mxu σ) υ H locs → ∀ ls : Array Slot, lv_has ls 2 [(0, .ref v0)] → W p l e (mx_rm P 4 72 σ) s m ([.ref a0] : List Value).toArray below meth c H locs (mxz υ - mxz σ) (mxu υ - mxu σ) (mx_Z below G P none σ σ' [.ref a0] s) (F0 m 107 ls [])) → ∀ (H : Heap) (locs : List Loc), mx_J G P s.heap (mxz σ) (mxu σ) τ H locs → ∀ ls : Array Slot, lv_has ls 2 [(0, .ref v0), (1, .int v1)] → W p l e (mx_rm P 4 72 σ) s m ([.ref a0] : List Value).toArray below meth c H locs (mxz τ - mxz σ) (mxu τ - mxu σ) (mx_Z below G P none σ σ' [.ref a0] s) (F0 m 65 ls []) := by
    intro v0 n
    induction n with
    | zero =>
      intro v1 τ o hf
      rw [mx_lp0] at hf
      cases hf
    | succ n ih =>
      intro v1 τ o hf Ke0 H locs hJ ls hl
      rw [mx_lpS] at hf
      obtain ⟨b, eb, hf⟩ := mb0 hf
      refine B65 v0 v1 τ b eb (fun y1 υ ho H locs hJ ls hl => ?_) (fun  υ ho H locs hJ ls hl => ?_) H locs hJ ls hl
      · subst ho
        exact ih y1 υ o hf Ke0 H locs hJ ls hl
      · subst ho
        exact Ke0  υ (Option.some.inj hf).symm _ _ hJ ls hl
  unfold f_X7_init at hf
  refine lv_aload_n hx hb dX7_init_0 rfl (lv_at hl 0 rfl) ?_
  refine W.objInit hx hb hown (hts _ kw_338) (hts _ kw_35) (hts _ kw_36) rfl (by rw [hml]; exact hl.1) rfl dX7_init_1 (Nat.le_of_ble_eq_true rfl) (Nat.le_of_ble_eq_true rfl) ?_
  refine W.eq (g2 := F0 m 4 ls []) rfl ?_
  refine lv_aload_n hx hb dX7_init_4 rfl (lv_at hl 0 rfl) ?_
  refine lv_bipush (v := 40) hx hb dX7_init_5 (by decide) ?_
  obtain ⟨b1, σ2, e3, hf⟩ := mc0 hf
  refine mx_nR hx hb hts hown hK hJ rfl rfl (t := 4) (by decide) rfl hK.2.1.1 e3 kw_339 dX7_init_7 (fun H locs hJ => ?_)
  obtain ⟨σ4, e5, hf⟩ := mb0 hf
  refine my_pR hx hb hts hown hK hJ fd_RX7_11 cd_7 (Or.inr ⟨rfl, hname, rfl⟩) ft_7_0 e5 dX7_init_10 (fun H locs hJ => ?_)
  refine lv_iconst (v := 0) hx hb dX7_init_13 (by decide) ?_
  refine lv_istore_n (lv' := [(1, .int (0 : Int32)), (0, .ref a0)]) hx hb dX7_init_14 rfl hl (by decide) rfl (fun ls hl => ?_)
  obtain ⟨o18, e19, hf⟩ := mb0 hf
  refine L15 a0 (mpN P) (0 : Int32) σ4 o18 e19 (fun σ20 ho H locs hJ ls hl => ?_) _ _ hJ ls (lv_sub hl [1, 0] rfl)
  · rw [ho] at hf
    have hf : (mx_b2 (mn_A P σ20 0 (40 : Int32)) fun b21 σ22 => (mp_R P σ22 a0 7 1 b21).bind fun σ24 => mx_b2 (mn_A P σ24 0 (4 : Int32)) fun b26 σ27 => (mp_R P σ27 a0 7 4 b26).bind fun σ29 => mx_b2 (mn_A P σ29 5 (4 : Int32)) fun b31 σ32 => (mp_R P σ32 a0 7 5 b31).bind fun σ34 => (mx_lp (f_X7_init_L65 P a0) (mpN P) ((0 : Int32), σ34)).bind (fun t => (fun σ60 => mx_b2 (mn_A P σ60 0 (256 : Int32)) fun b61 σ62 => (mp_R P σ62 a0 7 7 b61).bind fun σ64 => mx_b2 (mn_A P σ64 0 (256 : Int32)) fun b66 σ67 => (mp_R P σ67 a0 7 8 b66).bind fun σ69 => mx_b2 (mn_O P σ69 8 2) fun b71 σ72 => (f_X8_init P b71 σ72).bind fun σ74 => (mp_R P σ74 a0 7 11 b71).bind fun σ76 => mx_b2 (mn_O P σ76 8 2) fun b78 σ79 => (f_X8_init P b78 σ79).bind fun σ81 => (mp_R P σ81 a0 7 12 b78).bind fun σ83 => mx_b2 (mn_O P σ83 8 2) fun b85 σ86 => (f_X8_init P b85 σ86).bind fun σ88 => (mp_R P σ88 a0 7 13 b85).bind fun σ90 => mx_b2 (mn_O P σ90 8 2) fun b92 σ93 => (f_X8_init P b92 σ93).bind fun σ95 => (mp_R P σ95 a0 7 14 b92).bind fun σ97 => mx_b2 (mn_O P σ97 0 3) fun b99 σ100 => (f_X0_init P b99 σ100).bind fun σ102 => (mp_R P σ102 a0 7 15 b99).bind fun σ104 => mx_b2 (mn_O P σ104 0 3) fun b106 σ107 => (f_X0_init P b106 σ107).bind fun σ109 => (mp_R P σ109 a0 7 16 b106).bind fun σ111 => mx_b2 (mn_O P σ111 0 3) fun b113 σ114 => (f_X0_init P b113 σ114).bind fun σ116 => (mp_R P σ116 a0 7 17 b113).bind fun σ118 => mx_b2 (mn_O P σ118 0 3) fun b120 σ121 => (f_X0_init P b120 σ121).bind fun σ123 => (mp_R P σ123 a0 7 18 b120).bind fun σ125 => mx_b2 (mn_O P σ125 0 3) fun b127 σ128 => (f_X0_init P b127 σ128).bind fun σ130 => (mp_R P σ130 a0 7 19 b127).bind fun σ132 => some σ132) t)) = some σ' := hf
    refine lv_aload_n hx hb dX7_init_40 rfl (lv_at hl 0 rfl) ?_
    refine lv_bipush (v := 40) hx hb dX7_init_41 (by decide) ?_
    obtain ⟨b21, σ22, e23, hf⟩ := mc0 hf
    refine mx_nA hx hb hts hK hJ rfl rfl (t := 0) (by decide) rfl (fun _ h => h) (by decide) rfl e23 kw_137 dX7_init_43 (fun H locs hJ => ?_)
    obtain ⟨σ24, e25, hf⟩ := mb0 hf
    refine my_pR hx hb hts hown hK hJ fd_RX7_16 cd_7 (Or.inr ⟨rfl, hname, rfl⟩) ft_7_1 e25 dX7_init_45 (fun H locs hJ => ?_)
    refine lv_aload_n hx hb dX7_init_48 rfl (lv_at hl 0 rfl) ?_
    refine lv_iconst (v := 4) hx hb dX7_init_49 (by decide) ?_
    obtain ⟨b26, σ27, e28, hf⟩ := mc0 hf
    refine mx_nA hx hb hts hK hJ rfl rfl (t := 0) (by decide) rfl (fun _ h => h) (by decide) rfl e28 kw_137 dX7_init_50 (fun H locs hJ => ?_)
    obtain ⟨σ29, e30, hf⟩ := mb0 hf
    refine my_pR hx hb hts hown hK hJ fd_RX7_20 cd_7 (Or.inr ⟨rfl, hname, rfl⟩) ft_7_4 e30 dX7_init_52 (fun H locs hJ => ?_)
    refine lv_aload_n hx hb dX7_init_55 rfl (lv_at hl 0 rfl) ?_
    refine lv_iconst (v := 4) hx hb dX7_init_56 (by decide) ?_
    obtain ⟨b31, σ32, e33, hf⟩ := mc0 hf
    refine mx_nR hx hb hts hown hK hJ rfl rfl (t := 5) (by decide) rfl hK.2.1.2.1 e33 kw_475 dX7_init_57 (fun H locs hJ => ?_)
    obtain ⟨σ34, e35, hf⟩ := mb0 hf
    refine my_pR hx hb hts hown hK hJ fd_RX7_25 cd_7 (Or.inr ⟨rfl, hname, rfl⟩) ft_7_5 e35 dX7_init_60 (fun H locs hJ => ?_)
    refine lv_iconst (v := 0) hx hb dX7_init_63 (by decide) ?_
    refine lv_istore_n (lv' := [(1, .int (0 : Int32)), (0, .ref a0)]) hx hb dX7_init_64 rfl hl (by decide) rfl (fun ls hl => ?_)
    obtain ⟨o58, e59, hf⟩ := mb0 hf
    refine L65 a0 (mpN P) (0 : Int32) σ34 o58 e59 (fun σ60 ho H locs hJ ls hl => ?_) _ _ hJ ls (lv_sub hl [1, 0] rfl)
    · rw [ho] at hf
      have hf : (mx_b2 (mn_A P σ60 0 (256 : Int32)) fun b61 σ62 => (mp_R P σ62 a0 7 7 b61).bind fun σ64 => mx_b2 (mn_A P σ64 0 (256 : Int32)) fun b66 σ67 => (mp_R P σ67 a0 7 8 b66).bind fun σ69 => mx_b2 (mn_O P σ69 8 2) fun b71 σ72 => (f_X8_init P b71 σ72).bind fun σ74 => (mp_R P σ74 a0 7 11 b71).bind fun σ76 => mx_b2 (mn_O P σ76 8 2) fun b78 σ79 => (f_X8_init P b78 σ79).bind fun σ81 => (mp_R P σ81 a0 7 12 b78).bind fun σ83 => mx_b2 (mn_O P σ83 8 2) fun b85 σ86 => (f_X8_init P b85 σ86).bind fun σ88 => (mp_R P σ88 a0 7 13 b85).bind fun σ90 => mx_b2 (mn_O P σ90 8 2) fun b92 σ93 => (f_X8_init P b92 σ93).bind fun σ95 => (mp_R P σ95 a0 7 14 b92).bind fun σ97 => mx_b2 (mn_O P σ97 0 3) fun b99 σ100 => (f_X0_init P b99 σ100).bind fun σ102 => (mp_R P σ102 a0 7 15 b99).bind fun σ104 => mx_b2 (mn_O P σ104 0 3) fun b106 σ107 => (f_X0_init P b106 σ107).bind fun σ109 => (mp_R P σ109 a0 7 16 b106).bind fun σ111 => mx_b2 (mn_O P σ111 0 3) fun b113 σ114 => (f_X0_init P b113 σ114).bind fun σ116 => (mp_R P σ116 a0 7 17 b113).bind fun σ118 => mx_b2 (mn_O P σ118 0 3) fun b120 σ121 => (f_X0_init P b120 σ121).bind fun σ123 => (mp_R P σ123 a0 7 18 b120).bind fun σ125 => mx_b2 (mn_O P σ125 0 3) fun b127 σ128 => (f_X0_init P b127 σ128).bind fun σ130 => (mp_R P σ130 a0 7 19 b127).bind fun σ132 => some σ132) = some σ' := hf
      refine lv_aload_n hx hb dX7_init_107 rfl (lv_at hl 0 rfl) ?_
      refine lv_sipush (v := 256) hx hb dX7_init_108 (by decide) ?_
      obtain ⟨b61, σ62, e63, hf⟩ := mc0 hf
      refine mx_nA hx hb hts hK hJ rfl rfl (t := 0) (by decide) rfl (fun _ h => h) (by decide) rfl e63 kw_137 dX7_init_111 (fun H locs hJ => ?_)
      obtain ⟨σ64, e65, hf⟩ := mb0 hf
      refine my_pR hx hb hts hown hK hJ fd_RX7_42 cd_7 (Or.inr ⟨rfl, hname, rfl⟩) ft_7_7 e65 dX7_init_113 (fun H locs hJ => ?_)
      refine lv_aload_n hx hb dX7_init_116 rfl (lv_at hl 0 rfl) ?_
      refine lv_sipush (v := 256) hx hb dX7_init_117 (by decide) ?_
      obtain ⟨b66, σ67, e68, hf⟩ := mc0 hf
      refine mx_nA hx hb hts hK hJ rfl rfl (t := 0) (by decide) rfl (fun _ h => h) (by decide) rfl e68 kw_137 dX7_init_120 (fun H locs hJ => ?_)
      obtain ⟨σ69, e70, hf⟩ := mb0 hf
      refine my_pR hx hb hts hown hK hJ fd_RX7_45 cd_7 (Or.inr ⟨rfl, hname, rfl⟩) ft_7_8 e70 dX7_init_122 (fun H locs hJ => ?_)
      refine lv_aload_n hx hb dX7_init_125 rfl (lv_at hl 0 rfl) ?_
      obtain ⟨b71, σ72, e73, hf⟩ := mc0 hf
      refine mx_nO hx hb hts wi_8 cd_8.1 hown hK hJ rfl rfl (ci := 8) rfl e73 kw_475 kw_369 kw_11 df_8 dX7_init_126 (fun H locs hJ => ?_)
      refine lv_dup hx hb dX7_init_129 rfl ?_
      obtain ⟨σ74, e75, hf⟩ := mb0 hf
      refine mx_callI (As := []) (rest := [.ref b71, .ref a0]) hx hb hml hts hown hK hJ rfl rfl (c_X8_init l G P b71 σ72 σ74 e75) me_X8_init kw_371 rfl kw_477 (Nat.le_of_ble_eq_true rfl) (Nat.le_of_ble_eq_true rfl) rfl hl.1 rfl (Nat.le_of_ble_eq_true rfl) dX7_init_130 (fun H locs hJ => ?_)
      obtain ⟨σ76, e77, hf⟩ := mb0 hf
      refine my_pR hx hb hts hown hK hJ fd_RX7_48 cd_7 (Or.inr ⟨rfl, hname, rfl⟩) ft_7_11 e77 dX7_init_133 (fun H locs hJ => ?_)
      refine lv_aload_n hx hb dX7_init_136 rfl (lv_at hl 0 rfl) ?_
      obtain ⟨b78, σ79, e80, hf⟩ := mc0 hf
      refine mx_nO hx hb hts wi_8 cd_8.1 hown hK hJ rfl rfl (ci := 8) rfl e80 kw_475 kw_369 kw_11 df_8 dX7_init_137 (fun H locs hJ => ?_)
      refine lv_dup hx hb dX7_init_140 rfl ?_
      obtain ⟨σ81, e82, hf⟩ := mb0 hf
      refine mx_callI (As := []) (rest := [.ref b78, .ref a0]) hx hb hml hts hown hK hJ rfl rfl (c_X8_init l G P b78 σ79 σ81 e82) me_X8_init kw_371 rfl kw_477 (Nat.le_of_ble_eq_true rfl) (Nat.le_of_ble_eq_true rfl) rfl hl.1 rfl (Nat.le_of_ble_eq_true rfl) dX7_init_141 (fun H locs hJ => ?_)
      obtain ⟨σ83, e84, hf⟩ := mb0 hf
      refine my_pR hx hb hts hown hK hJ fd_RX7_52 cd_7 (Or.inr ⟨rfl, hname, rfl⟩) ft_7_12 e84 dX7_init_144 (fun H locs hJ => ?_)
      refine lv_aload_n hx hb dX7_init_147 rfl (lv_at hl 0 rfl) ?_
      obtain ⟨b85, σ86, e87, hf⟩ := mc0 hf
      refine mx_nO hx hb hts wi_8 cd_8.1 hown hK hJ rfl rfl (ci := 8) rfl e87 kw_475 kw_369 kw_11 df_8 dX7_init_148 (fun H locs hJ => ?_)
      refine lv_dup hx hb dX7_init_151 rfl ?_
      obtain ⟨σ88, e89, hf⟩ := mb0 hf
      refine mx_callI (As := []) (rest := [.ref b85, .ref a0]) hx hb hml hts hown hK hJ rfl rfl (c_X8_init l G P b85 σ86 σ88 e89) me_X8_init kw_371 rfl kw_477 (Nat.le_of_ble_eq_true rfl) (Nat.le_of_ble_eq_true rfl) rfl hl.1 rfl (Nat.le_of_ble_eq_true rfl) dX7_init_152 (fun H locs hJ => ?_)
      obtain ⟨σ90, e91, hf⟩ := mb0 hf
      refine my_pR hx hb hts hown hK hJ fd_RX7_55 cd_7 (Or.inr ⟨rfl, hname, rfl⟩) ft_7_13 e91 dX7_init_155 (fun H locs hJ => ?_)
      refine lv_aload_n hx hb dX7_init_158 rfl (lv_at hl 0 rfl) ?_
      obtain ⟨b92, σ93, e94, hf⟩ := mc0 hf
      refine mx_nO hx hb hts wi_8 cd_8.1 hown hK hJ rfl rfl (ci := 8) rfl e94 kw_475 kw_369 kw_11 df_8 dX7_init_159 (fun H locs hJ => ?_)
      refine lv_dup hx hb dX7_init_162 rfl ?_
      obtain ⟨σ95, e96, hf⟩ := mb0 hf
      refine mx_callI (As := []) (rest := [.ref b92, .ref a0]) hx hb hml hts hown hK hJ rfl rfl (c_X8_init l G P b92 σ93 σ95 e96) me_X8_init kw_371 rfl kw_477 (Nat.le_of_ble_eq_true rfl) (Nat.le_of_ble_eq_true rfl) rfl hl.1 rfl (Nat.le_of_ble_eq_true rfl) dX7_init_163 (fun H locs hJ => ?_)
      obtain ⟨σ97, e98, hf⟩ := mb0 hf
      refine my_pR hx hb hts hown hK hJ fd_RX7_58 cd_7 (Or.inr ⟨rfl, hname, rfl⟩) ft_7_14 e98 dX7_init_166 (fun H locs hJ => ?_)
      refine lv_aload_n hx hb dX7_init_169 rfl (lv_at hl 0 rfl) ?_
      obtain ⟨b99, σ100, e101, hf⟩ := mc0 hf
      refine mx_nO hx hb hts wi_0 cd_0.1 hown hK hJ rfl rfl (ci := 0) rfl e101 kw_485 kw_347 kw_10 df_0 dX7_init_170 (fun H locs hJ => ?_)
      refine lv_dup hx hb dX7_init_173 rfl ?_
      obtain ⟨σ102, e103, hf⟩ := mb0 hf
      refine mx_callI (As := []) (rest := [.ref b99, .ref a0]) hx hb hml hts hown hK hJ rfl rfl (c_X0_init l G P b99 σ100 σ102 e103) me_X0_init kw_349 rfl kw_486 (Nat.le_of_ble_eq_true rfl) (Nat.le_of_ble_eq_true rfl) rfl hl.1 rfl (Nat.le_of_ble_eq_true rfl) dX7_init_174 (fun H locs hJ => ?_)
      obtain ⟨σ104, e105, hf⟩ := mb0 hf
      refine my_pR hx hb hts hown hK hJ fd_RX7_62 cd_7 (Or.inr ⟨rfl, hname, rfl⟩) ft_7_15 e105 dX7_init_177 (fun H locs hJ => ?_)
      refine lv_aload_n hx hb dX7_init_180 rfl (lv_at hl 0 rfl) ?_
      obtain ⟨b106, σ107, e108, hf⟩ := mc0 hf
      refine mx_nO hx hb hts wi_0 cd_0.1 hown hK hJ rfl rfl (ci := 0) rfl e108 kw_485 kw_347 kw_10 df_0 dX7_init_181 (fun H locs hJ => ?_)
      refine lv_dup hx hb dX7_init_184 rfl ?_
      obtain ⟨σ109, e110, hf⟩ := mb0 hf
      refine mx_callI (As := []) (rest := [.ref b106, .ref a0]) hx hb hml hts hown hK hJ rfl rfl (c_X0_init l G P b106 σ107 σ109 e110) me_X0_init kw_349 rfl kw_486 (Nat.le_of_ble_eq_true rfl) (Nat.le_of_ble_eq_true rfl) rfl hl.1 rfl (Nat.le_of_ble_eq_true rfl) dX7_init_185 (fun H locs hJ => ?_)
      obtain ⟨σ111, e112, hf⟩ := mb0 hf
      refine my_pR hx hb hts hown hK hJ fd_RX7_65 cd_7 (Or.inr ⟨rfl, hname, rfl⟩) ft_7_16 e112 dX7_init_188 (fun H locs hJ => ?_)
      refine lv_aload_n hx hb dX7_init_191 rfl (lv_at hl 0 rfl) ?_
      obtain ⟨b113, σ114, e115, hf⟩ := mc0 hf
      refine mx_nO hx hb hts wi_0 cd_0.1 hown hK hJ rfl rfl (ci := 0) rfl e115 kw_485 kw_347 kw_10 df_0 dX7_init_192 (fun H locs hJ => ?_)
      refine lv_dup hx hb dX7_init_195 rfl ?_
      obtain ⟨σ116, e117, hf⟩ := mb0 hf
      refine mx_callI (As := []) (rest := [.ref b113, .ref a0]) hx hb hml hts hown hK hJ rfl rfl (c_X0_init l G P b113 σ114 σ116 e117) me_X0_init kw_349 rfl kw_486 (Nat.le_of_ble_eq_true rfl) (Nat.le_of_ble_eq_true rfl) rfl hl.1 rfl (Nat.le_of_ble_eq_true rfl) dX7_init_196 (fun H locs hJ => ?_)
      obtain ⟨σ118, e119, hf⟩ := mb0 hf
      refine my_pR hx hb hts hown hK hJ fd_RX7_68 cd_7 (Or.inr ⟨rfl, hname, rfl⟩) ft_7_17 e119 dX7_init_199 (fun H locs hJ => ?_)
      refine lv_aload_n hx hb dX7_init_202 rfl (lv_at hl 0 rfl) ?_
      obtain ⟨b120, σ121, e122, hf⟩ := mc0 hf
      refine mx_nO hx hb hts wi_0 cd_0.1 hown hK hJ rfl rfl (ci := 0) rfl e122 kw_485 kw_347 kw_10 df_0 dX7_init_203 (fun H locs hJ => ?_)
      refine lv_dup hx hb dX7_init_206 rfl ?_
      obtain ⟨σ123, e124, hf⟩ := mb0 hf
      refine mx_callI (As := []) (rest := [.ref b120, .ref a0]) hx hb hml hts hown hK hJ rfl rfl (c_X0_init l G P b120 σ121 σ123 e124) me_X0_init kw_349 rfl kw_486 (Nat.le_of_ble_eq_true rfl) (Nat.le_of_ble_eq_true rfl) rfl hl.1 rfl (Nat.le_of_ble_eq_true rfl) dX7_init_207 (fun H locs hJ => ?_)
      obtain ⟨σ125, e126, hf⟩ := mb0 hf
      refine my_pR hx hb hts hown hK hJ fd_RX7_71 cd_7 (Or.inr ⟨rfl, hname, rfl⟩) ft_7_18 e126 dX7_init_210 (fun H locs hJ => ?_)
      refine lv_aload_n hx hb dX7_init_213 rfl (lv_at hl 0 rfl) ?_
      obtain ⟨b127, σ128, e129, hf⟩ := mc0 hf
      refine mx_nO hx hb hts wi_0 cd_0.1 hown hK hJ rfl rfl (ci := 0) rfl e129 kw_485 kw_347 kw_10 df_0 dX7_init_214 (fun H locs hJ => ?_)
      refine lv_dup hx hb dX7_init_217 rfl ?_
      obtain ⟨σ130, e131, hf⟩ := mb0 hf
      refine mx_callI (As := []) (rest := [.ref b127, .ref a0]) hx hb hml hts hown hK hJ rfl rfl (c_X0_init l G P b127 σ128 σ130 e131) me_X0_init kw_349 rfl kw_486 (Nat.le_of_ble_eq_true rfl) (Nat.le_of_ble_eq_true rfl) rfl hl.1 rfl (Nat.le_of_ble_eq_true rfl) dX7_init_218 (fun H locs hJ => ?_)
      obtain ⟨σ132, e133, hf⟩ := mb0 hf
      refine my_pR hx hb hts hown hK hJ fd_RX7_74 cd_7 (Or.inr ⟨rfl, hname, rfl⟩) ft_7_19 e133 dX7_init_221 (fun H locs hJ => ?_)
      exact my_vret hx hb hr hlocks hJ hf dX7_init_224
