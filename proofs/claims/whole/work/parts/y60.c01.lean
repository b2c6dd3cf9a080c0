set_option maxHeartbeats 4000000 in
set_option maxRecDepth 100000 in
theorem c_X10_hasStatement (l : Launch) (G : mx_G) (P : mx_P) (a0 : Nat) (p1 : Nat) (σ : mx_S) (r : Int32) (σ' : mx_S) (hf : f_X10_hasStatement P a0 p1 σ = some (r, σ')) : mxz σ ≤ mpc P → mxu σ ≤ mps P → mx_M l yX10_hasStatement cX10_hasStatement 3 (some .boolean) 5 110 G P [.ref a0, .ref (mgK G p1)] σ (some (.int r)) σ' := by
  intro hcap hcau
  refine mx_ofW (by decide +kernel) hcap hcau (Nat.le_of_ble_eq_true rfl) ?_
  intro p e s m below meth c hx hb hr hml hts hown hlocks hname hK hJ ls hl
  have hz0 := hJ.2.1
  have hown : s.vm.findClass RX10 = some m.cls := hown
  have hl : lv_has ls 3 [(0, .ref a0), (1, .ref (mgK G p1))] := hl
  have B59 : ∀ (v0 : Nat) (v1 : Nat) (v2 : Int32) (τ : mx_S) (o : (Int32 × mx_S) ⊕ ((mx_S) ⊕ (mx_S))), f_X10_hasStatement_B59 P v0 v1 v2 τ = some o → (∀ (y2 : Int32) (υ : mx_S), o = .inl (y2, υ) → ∀ (H : Heap) (locs : List Loc), mx_J G P s.heap (mxz σ) (mxu σ) υ H locs → ∀ ls : Array Slot, lv_has ls 3 [(0, .ref v0), (1, .ref (mgK G v1)), (2, .int y2)] → W p l e (mx_rm P 5 110 σ) s m ([.ref a0, .ref (mgK G p1)] : List Value).toArray below meth c H locs (mxz υ - mxz σ) (mxu υ - mxu σ) (mx_Z below G P (some (.int r)) σ σ' [.ref a0, .ref (mgK G p1)] s) (F0 m 59 ls [])) → (∀  (υ : mx_S), o = .inr (.inl υ) → ∀ (H : Heap) (locs : List Loc), mx_J G P s.heap (mxz σ) (mxu σ) υ H locs → ∀ ls : Array Slot, lv_has ls 3 [(0, .ref v0)] → W p l e (mx_rm P 5 110 σ) s m ([.ref a0, .ref (mgK G p1)] : List Value).toArray below meth c H locs (mxz υ - mxz σ) (mxu υ - mxu σ) (mx_Z below G P (some (.int r)) σ σ' [.ref a0, .ref (mgK G p1)] s) (F0 m 102 ls [])) → (∀  (υ : mx_S), o = .inr (.inr υ) → ∀ (H : Heap) (locs : List Loc), mx_J G P s.heap (mxz σ) (mxu σ) υ H locs → ∀ ls : Array Slot, lv_has ls 3 [(0, .ref v0)] → W p l e (mx_rm P 5 110 σ) s m ([.ref a0, .ref (mgK G p1)] : List Value).toArray below meth c H locs (mxz υ - mxz σ) (mxu υ - mxu σ) (mx_Z below G P (some (.int r)) σ σ' [.ref a0, .ref (mgK G p1)] s) (F0 m 128 ls [])) → ∀ (H : Heap) (locs : List Loc), mx_J G P s.heap (mxz σ) (mxu σ) τ H locs → ∀ ls : Array Slot, lv_has ls 3 [(0, .ref v0), (1, .ref (mgK G v1)), (2, .int v2)] → W p l e (mx_rm P 5 110 σ) s m ([.ref a0, .ref (mgK G p1)] : List Value).toArray below meth c H locs (mxz τ - mxz σ) (mxu τ - mxu σ) (mx_Z below G P (some (.int r)) σ σ' [.ref a0, .ref (mgK G p1)] s) (F0 m 59 ls []) := by
    intro v0 v1 v2 τ o hf Kb Ke0 Ke1 H locs hJ ls hl
    unfold f_X10_hasStatement_B59 at hf
    refine lv_iload_n hx hb dX10_hasStatement_59 rfl (lv_at hl 2 rfl) ?_
    refine lv_aload_n hx hb dX10_hasStatement_60 rfl (lv_at hl 1 rfl) ?_
    obtain ⟨i18, e19, hf⟩ := mb0 hf
    obtain ⟨x21, σ20, e22, hf⟩ := mc0 hf
    refine mx_callVS (As := []) (rest := [.int v2]) hx hb hml hts hown hK hz0 hJ rfl rfl e19 (c_J0_length_8abf5 l G P v1 τ x21 σ20 e22) me_J0_length_8abf5 kw_1091 kw_1092 kw_1090 (Nat.le_of_ble_eq_true rfl) (Nat.le_of_ble_eq_true rfl) rfl hl.1 rfl (Nat.le_of_ble_eq_true rfl) dX10_hasStatement_61 (fun H locs hJ => ?_)
    refine lv_icmp_ge (tgt := 128) hx hb dX10_hasStatement_64 (by decide) (fun c23 => ?_) (fun c23 => ?_)
    · rw [if_pos c23] at hf
      exact Ke1 σ20 (Option.some.inj hf).symm _ _ hJ ls (lv_sub hl [0] rfl)
    · rw [if_neg c23] at hf
      refine lv_aload_n hx hb dX10_hasStatement_67 rfl (lv_at hl 1 rfl) ?_
      refine lv_iload_n hx hb dX10_hasStatement_68 rfl (lv_at hl 2 rfl) ?_
      obtain ⟨i24, e25, hf⟩ := mb0 hf
      obtain ⟨x27, σ26, e28, hf⟩ := mc0 hf
      refine mx_callVS (As := [.int v2]) (rest := []) hx hb hml hts hown hK hz0 hJ rfl rfl e25 (c_J0_charAt_5068e l G P v1 v2 σ20 x27 σ26 e28) me_J0_charAt_5068e kw_1101 kw_1102 kw_1100 (Nat.le_of_ble_eq_true rfl) (Nat.le_of_ble_eq_true rfl) rfl hl.1 rfl (Nat.le_of_ble_eq_true rfl) dX10_hasStatement_69 (fun H locs hJ => ?_)
      refine lv_bipush (v := 59) hx hb dX10_hasStatement_72 (by decide) ?_
      refine lv_icmp_eq (tgt := 128) hx hb dX10_hasStatement_74 (by decide) (fun c29 => ?_) (fun c29 => ?_)
      · rw [if_pos c29] at hf
        exact Ke1 σ26 (Option.some.inj hf).symm _ _ hJ ls (lv_sub hl [0] rfl)
      · rw [if_neg c29] at hf
        refine lv_aload_n hx hb dX10_hasStatement_77 rfl (lv_at hl 0 rfl) ?_
        obtain ⟨x30, e31, hf⟩ := mb0 hf
        refine my_gI hx hb hts hown hK hJ fd_RX10_87 hv_10_12 e31 dX10_hasStatement_78 ?_
        refine lv_bipush (v := 6) hx hb dX10_hasStatement_81 (by decide) ?_
        refine lv_icmp_ge (tgt := 128) hx hb dX10_hasStatement_83 (by decide) (fun c32 => ?_) (fun c32 => ?_)
        · rw [if_pos c32] at hf
          exact Ke1 σ26 (Option.some.inj hf).symm _ _ hJ ls (lv_sub hl [0] rfl)
        · rw [if_neg c32] at hf
          refine lv_aload_n hx hb dX10_hasStatement_86 rfl (lv_at hl 0 rfl) ?_
          obtain ⟨i33, e34, hf⟩ := mb0 hf
          obtain ⟨σ35, e36, hf⟩ := mb0 hf
          refine mx_callV (As := []) (rest := []) hx hb hml hts hown hK hJ rfl rfl (ci := 10) rfl e34 (c_X10_readToken l G P v0 σ26 σ35 e36) me_X10_readToken kw_1065 ks_24 kw_1063 (Nat.le_of_ble_eq_true rfl) (Nat.le_of_ble_eq_true rfl) rfl hl.1 rfl (Nat.le_of_ble_eq_true rfl) dX10_hasStatement_87 (fun H locs hJ => ?_)
          refine lv_aload_n hx hb dX10_hasStatement_90 rfl (lv_at hl 0 rfl) ?_
          refine lv_aload_n hx hb dX10_hasStatement_91 rfl (lv_at hl 1 rfl) ?_
          refine lv_iload_n hx hb dX10_hasStatement_92 rfl (lv_at hl 2 rfl) ?_
          obtain ⟨i37, e38, hf⟩ := mb0 hf
          obtain ⟨x40, σ39, e41, hf⟩ := mc0 hf
          refine mx_callVS (As := [.int v2]) (rest := [.ref v0]) hx hb hml hts hown hK hz0 hJ rfl rfl e38 (c_J0_charAt_5068e l G P v1 v2 σ35 x40 σ39 e41) me_J0_charAt_5068e kw_1101 kw_1102 kw_1100 (Nat.le_of_ble_eq_true rfl) (Nat.le_of_ble_eq_true rfl) rfl hl.1 rfl (Nat.le_of_ble_eq_true rfl) dX10_hasStatement_93 (fun H locs hJ => ?_)
          obtain ⟨i42, e43, hf⟩ := mb0 hf
          obtain ⟨x45, σ44, e46, hf⟩ := mc0 hf
          refine mx_callV (As := [.int x40]) (rest := []) hx hb hml hts hown hK hJ rfl rfl (ci := 10) rfl e43 (c_X10_fits l G P v0 x40 σ39 x45 σ44 e46) me_X10_fits kw_1144 ks_30 kw_1142 (Nat.le_of_ble_eq_true rfl) (Nat.le_of_ble_eq_true rfl) rfl hl.1 rfl (Nat.le_of_ble_eq_true rfl) dX10_hasStatement_96 (fun H locs hJ => ?_)
          refine lv_if_ne (tgt := 113) hx hb dX10_hasStatement_99 (by decide) (fun c47 => ?_) (fun c47 => ?_)
          · rw [if_neg c47] at hf
            refine lv_aload_n hx hb dX10_hasStatement_113 rfl (lv_at hl 0 rfl) ?_
            refine lv_aload_n hx hb dX10_hasStatement_114 rfl (lv_at hl 1 rfl) ?_
            refine lv_iload_n hx hb dX10_hasStatement_115 rfl (lv_at hl 2 rfl) ?_
            obtain ⟨i48, e49, hf⟩ := mb0 hf
            obtain ⟨x51, σ50, e52, hf⟩ := mc0 hf
            refine mx_callVS (As := [.int v2]) (rest := [.ref v0]) hx hb hml hts hown hK hz0 hJ rfl rfl e49 (c_J0_charAt_5068e l G P v1 v2 σ44 x51 σ50 e52) me_J0_charAt_5068e kw_1101 kw_1102 kw_1100 (Nat.le_of_ble_eq_true rfl) (Nat.le_of_ble_eq_true rfl) rfl hl.1 rfl (Nat.le_of_ble_eq_true rfl) dX10_hasStatement_116 (fun H locs hJ => ?_)
            obtain ⟨i53, e54, hf⟩ := mb0 hf
            obtain ⟨σ55, e56, hf⟩ := mb0 hf
            refine mx_callV (As := [.int x51]) (rest := []) hx hb hml hts hown hK hJ rfl rfl (ci := 10) rfl e54 (c_X10_keepPart l G P v0 x51 σ50 σ55 e56) me_X10_keepPart kw_1148 ks_31 kw_1146 (Nat.le_of_ble_eq_true rfl) (Nat.le_of_ble_eq_true rfl) rfl hl.1 rfl (Nat.le_of_ble_eq_true rfl) dX10_hasStatement_119 (fun H locs hJ => ?_)
            obtain ⟨x57, e58, hf⟩ := mb0 hf
            refine lv_iinc (v := x57) (lv' := [(2, .int x57), (0, .ref v0), (1, .ref (mgK G v1))]) hx hb dX10_hasStatement_122 hl (k := 2) rfl (by rw [← Option.some.inj e58]; rfl) (by decide) rfl (fun ls hl => ?_)
            refine lv_goto (tgt := 59) hx hb dX10_hasStatement_125 (by decide) ?_
            exact Kb x57 σ55 (Option.some.inj hf).symm _ _ hJ ls (lv_sub hl [1, 2, 0] rfl)
          · rw [if_pos c47] at hf
            exact Ke0 σ44 (Option.some.inj hf).symm _ _ hJ ls (lv_sub hl [0] rfl)
  have L59 : ∀ (v0 : Nat) (v1 : Nat) (n : Nat) (v2 : Int32) (τ : mx_S) (o : (mx_S) ⊕ (mx_S)), mx_lp (f_X10_hasStatement_L59 P v0 v1) n (v2, τ) = some o → (∀  (υ : mx_S), o = (.inl υ) → ∀ (H : Heap) (locs : List Loc), mx_J G P s.heap (mxz σ) (mxu σ) υ H locs → ∀ ls : Array Slot, lv_has ls 3 [(0, .ref v0)] → W p l e (mx_rm P 5 110 σ) s m ([.ref a0, .ref (mgK G p1)] : List Value).toArray below meth c H locs (mxz υ - mxz σ) (mxu υ - mxu σ) (mx_Z below G P (some (.int r)) σ σ' [.ref a0, .ref (mgK G p1)] s) (F0 m 102 ls [])) → (∀  (υ : mx_S), o = (.inr υ) → ∀ (H : Heap) (locs : List Loc), mx_J G P s.heap (mxz σ) (mxu σ) υ H locs → ∀ ls : Array Slot, lv_has ls 3 [(0, .ref v0)] → W p l e (mx_rm P 5 110 σ) s m ([.ref a0, .ref (mgK G p1)] : List Value).toArray below meth c H locs (mxz υ - mxz σ) (mxu υ - mxu σ) (mx_Z below G P (some (.int r)) σ σ' [.ref a0, .ref (mgK G p1)] s) (F0 m 128 ls [])) → ∀ (H : Heap) (locs : List Loc), mx_J G P s.heap (mxz σ) (mxu σ) τ H locs → ∀ ls : Array Slot, lv_has ls 3 [(0, .ref v0), (1, .ref (mgK G v1)), (2, .int v2)] → W p l e (mx_rm P 5 110 σ) s m ([.ref a0, .ref (mgK G p1)] : List Value).toArray below meth c H locs (mxz τ - mxz σ) (mxu τ - mxu σ) (mx_Z below G P (some (.int r)) σ σ' [.ref a0, .ref (mgK G p1)] s) (F0 m 59 ls []) := by
    intro v0 v1 n
    induction n with
    | zero =>
      intro v2 τ o hf
      rw [mx_lp0] at hf
      cases hf
    | succ n ih =>
      intro v2 τ o hf Ke0 Ke1 H locs hJ ls hl
      rw [mx_lpS] at hf
      obtain ⟨b, eb, hf⟩ := mb0 hf
      refine B59 v0 v1 v2 τ b eb (fun y2 υ ho H locs hJ ls hl => ?_) (fun  υ ho H locs hJ ls hl => ?_) (fun  υ ho H locs hJ ls hl => ?_) H locs hJ ls hl
      · subst ho
        exact ih y2 υ o hf Ke0 Ke1 H locs hJ ls hl
      · subst ho
        exact Ke0  υ (Option.some.inj hf).symm _ _ hJ ls hl
      · subst ho
        exact Ke1  υ (Option.some.inj hf).symm _ _ hJ ls hl
  have D128 : ∀ (v0 : Nat) (τ : mx_S), f_X10_hasStatement_D128 P v0 τ = some (r, σ') → ∀ (H : Heap) (locs : List Loc), mx_J G P s.heap (mxz σ) (mxu σ) τ H locs → ∀ ls : Array Slot, lv_has ls 3 [(0, .ref v0)] → W p l e (mx_rm P 5 110 σ) s m ([.ref a0, .ref (mgK G p1)] : List Value).toArray below meth c H locs (mxz τ - mxz σ) (mxu τ - mxu σ) (mx_Z below G P (some (.int r)) σ σ' [.ref a0, .ref (mgK G p1)] s) (F0 m 128 ls []) := by
    intro v0 τ hf _ _ hJ ls hl
    unfold f_X10_hasStatement_D128 at hf
    refine lv_aload_n hx hb dX10_hasStatement_128 rfl (lv_at hl 0 rfl) ?_
    obtain ⟨i69, e70, hf⟩ := mb0 hf
    obtain ⟨σ71, e72, hf⟩ := mb0 hf
    refine mx_callV (As := []) (rest := []) hx hb hml hts hown hK hJ rfl rfl (ci := 10) rfl e70 (c_X10_readToken l G P v0 τ σ71 e72) me_X10_readToken kw_1065 ks_24 kw_1063 (Nat.le_of_ble_eq_true rfl) (Nat.le_of_ble_eq_true rfl) rfl hl.1 rfl (Nat.le_of_ble_eq_true rfl) dX10_hasStatement_129 (fun H locs hJ => ?_)
    refine lv_aload_n hx hb dX10_hasStatement_132 rfl (lv_at hl 0 rfl) ?_
    obtain ⟨x73, e74, hf⟩ := mb0 hf
    refine my_gI hx hb hts hown hK hJ fd_RX10_76 hv_10_5 e74 dX10_hasStatement_133 ?_
    refine lv_bipush (v := 59) hx hb dX10_hasStatement_136 (by decide) ?_
    refine lv_icmp_eq (tgt := 152) hx hb dX10_hasStatement_138 (by decide) (fun c75 => ?_) (fun c75 => ?_)
    · rw [if_pos c75] at hf
      refine lv_iconst (v := 1) hx hb dX10_hasStatement_152 (by decide) ?_
      exact mx_zret hx hb hr hlocks hJ hf dX10_hasStatement_153
    · rw [if_neg c75] at hf
      refine lv_aload_n hx hb dX10_hasStatement_141 rfl (lv_at hl 0 rfl) ?_
      refine lv_iconst (v := 1) hx hb dX10_hasStatement_142 (by decide) ?_
      refine lv_aload_n hx hb dX10_hasStatement_143 rfl (lv_at hl 0 rfl) ?_
      obtain ⟨x76, e77, hf⟩ := mb0 hf
      refine my_gI hx hb hts hown hK hJ fd_RX10_70 hv_10_6 e77 dX10_hasStatement_144 ?_
      obtain ⟨i78, e79, hf⟩ := mb0 hf
      obtain ⟨σ80, e81, hf⟩ := mb0 hf
      refine mx_callV (As := [.int (1 : Int32), .int x76]) (rest := []) hx hb hml hts hown hK hJ rfl rfl (ci := 10) rfl e79 (c_X10_note l G P v0 (1 : Int32) x76 σ71 σ80 e81) me_X10_note kw_1139 kw_1140 kw_1138 (Nat.le_of_ble_eq_true rfl) (Nat.le_of_ble_eq_true rfl) rfl hl.1 rfl (Nat.le_of_ble_eq_true rfl) dX10_hasStatement_147 (fun H locs hJ => ?_)
      refine lv_iconst (v := 0) hx hb dX10_hasStatement_150 (by decide) ?_
      exact mx_zret hx hb hr hlocks hJ hf dX10_hasStatement_151
  have D38 : ∀ (v0 : Nat) (v1 : Nat) (w0 : Int32) (τ : mx_S), f_X10_hasStatement_D38 P v0 v1 w0 τ = some (r, σ') → ∀ (H : Heap) (locs : List Loc), mx_J G P s.heap (mxz σ) (mxu σ) τ H locs → ∀ ls : Array Slot, lv_has ls 3 [(0, .ref v0), (1, .ref (mgK G v1))] → W p l e (mx_rm P 5 110 σ) s m ([.ref a0, .ref (mgK G p1)] : List Value).toArray below meth c H locs (mxz τ - mxz σ) (mxu τ - mxu σ) (mx_Z below G P (some (.int r)) σ σ' [.ref a0, .ref (mgK G p1)] s) (F0 m 38 ls [.int w0]) := by
    intro v0 v1 w0 τ hf _ _ hJ ls hl
    unfold f_X10_hasStatement_D38 at hf
    refine lv_istore_n (lv' := [(2, .int w0), (0, .ref v0), (1, .ref (mgK G v1))]) hx hb dX10_hasStatement_38 rfl hl (by decide) rfl (fun ls hl => ?_)
    refine lv_iload_n hx hb dX10_hasStatement_39 rfl (lv_at hl 0 rfl) ?_
    refine lv_if_ge (tgt := 54) hx hb dX10_hasStatement_40 (by decide) (fun c15 => ?_) (fun c15 => ?_)
    · rw [if_pos c15] at hf
      refine lv_aload_n hx hb dX10_hasStatement_54 rfl (lv_at hl 1 rfl) ?_
      refine lv_iconst (v := 0) hx hb dX10_hasStatement_55 (by decide) ?_
      obtain ⟨σ16, e17, hf⟩ := mb0 hf
      refine my_pI hx hb hts hown hK hJ fd_RX10_87 cd_10 (Or.inl rfl) ht_10_12 e17 dX10_hasStatement_56 (fun H locs hJ => ?_)
      obtain ⟨o59, e60, hf⟩ := mb0 hf
      refine L59 v0 v1 (mpN P) w0 σ16 o59 e60 (fun σ61 ho H locs hJ ls hl => ?_) (fun σ68 ho H locs hJ ls hl => ?_) _ _ hJ ls (lv_sub hl [1, 2, 0] rfl)
      · rw [ho] at hf
        have hf : ((mg_I σ61 v0 10 6).bind fun x62 => (mx_is σ61 v0 10).bind fun i64 => (f_X10_note P v0 (1 : Int32) x62 σ61).bind fun σ66 => mr_Z (0 : Int32) σ66) = some (r, σ') := hf
        refine lv_aload_n hx hb dX10_hasStatement_102 rfl (lv_at hl 0 rfl) ?_
        refine lv_iconst (v := 1) hx hb dX10_hasStatement_103 (by decide) ?_
        refine lv_aload_n hx hb dX10_hasStatement_104 rfl (lv_at hl 0 rfl) ?_
        obtain ⟨x62, e63, hf⟩ := mb0 hf
        refine my_gI hx hb hts hown hK hJ fd_RX10_70 hv_10_6 e63 dX10_hasStatement_105 ?_
        obtain ⟨i64, e65, hf⟩ := mb0 hf
        obtain ⟨σ66, e67, hf⟩ := mb0 hf
        refine mx_callV (As := [.int (1 : Int32), .int x62]) (rest := []) hx hb hml hts hown hK hJ rfl rfl (ci := 10) rfl e65 (c_X10_note l G P v0 (1 : Int32) x62 σ61 σ66 e67) me_X10_note kw_1139 kw_1140 kw_1138 (Nat.le_of_ble_eq_true rfl) (Nat.le_of_ble_eq_true rfl) rfl hl.1 rfl (Nat.le_of_ble_eq_true rfl) dX10_hasStatement_108 (fun H locs hJ => ?_)
        refine lv_iconst (v := 0) hx hb dX10_hasStatement_111 (by decide) ?_
        exact mx_zret hx hb hr hlocks hJ hf dX10_hasStatement_112
      · rw [ho] at hf
        have hf : (f_X10_hasStatement_D128 P v0 σ68) = some (r, σ') := hf
        exact D128 v0 σ68 hf _ _ hJ ls (lv_sub hl [0] rfl)
    · rw [if_neg c15] at hf
      refine lv_aload_n hx hb dX10_hasStatement_43 rfl (lv_at hl 1 rfl) ?_
      refine lv_iconst (v := 1) hx hb dX10_hasStatement_44 (by decide) ?_
      refine lv_aload_n hx hb dX10_hasStatement_45 rfl (lv_at hl 1 rfl) ?_
      obtain ⟨x82, e83, hf⟩ := mb0 hf
      refine my_gI hx hb hts hown hK hJ fd_RX10_70 hv_10_6 e83 dX10_hasStatement_46 ?_
      obtain ⟨i84, e85, hf⟩ := mb0 hf
      obtain ⟨σ86, e87, hf⟩ := mb0 hf
      refine mx_callV (As := [.int (1 : Int32), .int x82]) (rest := []) hx hb hml hts hown hK hJ rfl rfl (ci := 10) rfl e85 (c_X10_note l G P v0 (1 : Int32) x82 τ σ86 e87) me_X10_note kw_1139 kw_1140 kw_1138 (Nat.le_of_ble_eq_true rfl) (Nat.le_of_ble_eq_true rfl) rfl hl.1 rfl (Nat.le_of_ble_eq_true rfl) dX10_hasStatement_49 (fun H locs hJ => ?_)
      refine lv_iconst (v := 0) hx hb dX10_hasStatement_52 (by decide) ?_
      exact mx_zret hx hb hr hlocks hJ hf dX10_hasStatement_53
  unfold f_X10_hasStatement at hf
  refine lv_aload_n hx hb dX10_hasStatement_0 rfl (lv_at hl 0 rfl) ?_
  obtain ⟨i1, e2, hf⟩ := mb0 hf
  obtain ⟨σ3, e4, hf⟩ := mb0 hf
  refine mx_callV (As := []) (rest := []) hx hb hml hts hown hK hJ rfl rfl (ci := 10) rfl e2 (c_X10_readToken l G P a0 σ σ3 e4) me_X10_readToken kw_1065 ks_24 kw_1063 (Nat.le_of_ble_eq_true rfl) (Nat.le_of_ble_eq_true rfl) rfl hl.1 rfl (Nat.le_of_ble_eq_true rfl) dX10_hasStatement_1 (fun H locs hJ => ?_)
  refine lv_aload_n hx hb dX10_hasStatement_4 rfl (lv_at hl 0 rfl) ?_
  refine lv_aload_n hx hb dX10_hasStatement_5 rfl (lv_at hl 0 rfl) ?_
  obtain ⟨x5, e6, hf⟩ := mb0 hf
  refine my_gI hx hb hts hown hK hJ fd_RX10_70 hv_10_6 e6 dX10_hasStatement_6 ?_
  obtain ⟨σ7, e8, hf⟩ := mb0 hf
  refine my_pI hx hb hts hown hK hJ fd_RX10_73 cd_10 (Or.inl rfl) ht_10_11 e8 dX10_hasStatement_9 (fun H locs hJ => ?_)
  refine lv_aload_n hx hb dX10_hasStatement_12 rfl (lv_at hl 0 rfl) ?_
  obtain ⟨x9, e10, hf⟩ := mb0 hf
  refine my_gI hx hb hts hown hK hJ fd_RX10_76 hv_10_5 e10 dX10_hasStatement_13 ?_
  refine lv_if_ne (tgt := 21) hx hb dX10_hasStatement_16 (by decide) (fun c11 => ?_) (fun c11 => ?_)
  · rw [if_neg c11] at hf
    refine lv_aload_n hx hb dX10_hasStatement_21 rfl (lv_at hl 0 rfl) ?_
    obtain ⟨x12, e13, hf⟩ := mb0 hf
    refine my_gI hx hb hts hown hK hJ fd_RX10_76 hv_10_5 e13 dX10_hasStatement_22 ?_
    refine lv_iconst (v := 2) hx hb dX10_hasStatement_25 (by decide) ?_
    refine lv_icmp_ne (tgt := 37) hx hb dX10_hasStatement_26 (by decide) (fun c14 => ?_) (fun c14 => ?_)
    · rw [if_neg c14] at hf
      refine lv_iconst (v := (-1)) hx hb dX10_hasStatement_37 (by decide) ?_
      exact D38 a0 p1 (-1 : Int32) σ7 hf _ _ hJ ls (lv_sub hl [0, 1] rfl)
    · rw [if_pos c14] at hf
      refine lv_aload_n hx hb dX10_hasStatement_29 rfl (lv_at hl 0 rfl) ?_
      refine lv_aload_n hx hb dX10_hasStatement_30 rfl (lv_at hl 1 rfl) ?_
      obtain ⟨i88, e89, hf⟩ := mb0 hf
      obtain ⟨x91, σ90, e92, hf⟩ := mc0 hf
      refine mx_callV (As := [.ref (mgK G p1)]) (rest := []) hx hb hml hts hown hK hJ rfl rfl (ci := 10) rfl e89 (c_X10_findForm l G P a0 p1 σ7 x91 σ90 e92) me_X10_findForm kw_1088 ks_29 kw_1086 (Nat.le_of_ble_eq_true rfl) (Nat.le_of_ble_eq_true rfl) rfl hl.1 rfl (Nat.le_of_ble_eq_true rfl) dX10_hasStatement_31 (fun H locs hJ => ?_)
      refine lv_goto (tgt := 38) hx hb dX10_hasStatement_34 (by decide) ?_
      exact D38 a0 p1 x91 σ90 hf _ _ hJ ls (lv_sub hl [0, 1] rfl)
  · rw [if_pos c11] at hf
    refine lv_iconst (v := 0) hx hb dX10_hasStatement_19 (by decide) ?_
    exact mx_zret hx hb hr hlocks hJ hf dX10_hasStatement_20
set_option maxHeartbeats 4000000 in
set_option maxRecDepth 100000 in
theorem c_X10_isGrammatical (l : Launch) (G : mx_G) (P : mx_P) (a0 : Nat) (p1 : Nat) (σ : mx_S) (r : Int32) (σ' : mx_S) (hf : f_X10_isGrammatical P a0 p1 σ = some (r, σ')) : mxz σ ≤ mpc P → mxu σ ≤ mps P → mx_M l yX10_isGrammatical cX10_isGrammatical 3 (some .boolean) 6 132 G P [.ref a0, .ref (mgK G p1)] σ (some (.int r)) σ' := by
  intro hcap hcau
  refine mx_ofW (by decide +kernel) hcap hcau (Nat.le_of_ble_eq_true rfl) ?_
  intro p e s m below meth c hx hb hr hml hts hown hlocks hname hK hJ ls hl
  have hz0 := hJ.2.1
  have hown : s.vm.findClass RX10 = some m.cls := hown
  have hl : lv_has ls 3 [(0, .ref a0), (1, .ref (mgK G p1))] := hl
  have D82_21 : ∀ (v0 : Nat) (v1 : Nat) (v2 : Int32) (τ : mx_S) (o : (Int32 × mx_S) ⊕ ((mx_S))), f_X10_isGrammatical_D82_21 P v0 v1 v2 τ = some o → (∀ (y2 : Int32) (υ : mx_S), o = .inl (y2, υ) → ∀ (H : Heap) (locs : List Loc), mx_J G P s.heap (mxz σ) (mxu σ) υ H locs → ∀ ls : Array Slot, lv_has ls 3 [(0, .ref v0), (1, .ref (mgK G v1)), (2, .int y2)] → W p l e (mx_rm P 6 132 σ) s m ([.ref a0, .ref (mgK G p1)] : List Value).toArray below meth c H locs (mxz υ - mxz σ) (mxu υ - mxu σ) (mx_Z below G P (some (.int r)) σ σ' [.ref a0, .ref (mgK G p1)] s) (F0 m 21 ls [])) → (∀  (υ : mx_S), o = .inr υ → ∀ (H : Heap) (locs : List Loc), mx_J G P s.heap (mxz σ) (mxu σ) υ H locs → ∀ ls : Array Slot, lv_has ls 3 [(0, .ref v0)] → W p l e (mx_rm P 6 132 σ) s m ([.ref a0, .ref (mgK G p1)] : List Value).toArray below meth c H locs (mxz υ - mxz σ) (mxu υ - mxu σ) (mx_Z below G P (some (.int r)) σ σ' [.ref a0, .ref (mgK G p1)] s) (F0 m 88 ls [])) → ∀ (H : Heap) (locs : List Loc), mx_J G P s.heap (mxz σ) (mxu σ) τ H locs → ∀ ls : Array Slot, lv_has ls 3 [(0, .ref v0), (1, .ref (mgK G v1)), (2, .int v2)] → W p l e (mx_rm P 6 132 σ) s m ([.ref a0, .ref (mgK G p1)] : List Value).toArray below meth c H locs (mxz τ - mxz σ) (mxu τ - mxu σ) (mx_Z below G P (some (.int r)) σ σ' [.ref a0, .ref (mgK G p1)] s) (F0 m 82 ls []) := by
    intro v0 v1 v2 τ o hf Kb Ke0 H locs hJ ls hl
    unfold f_X10_isGrammatical_D82_21 at hf
    obtain ⟨x23, e24, hf⟩ := mb0 hf
    refine lv_iinc (v := x23) (lv' := [(2, .int x23), (0, .ref v0), (1, .ref (mgK G v1))]) hx hb dX10_isGrammatical_82 hl (k := 2) rfl (by rw [← Option.some.inj e24]; rfl) (by decide) rfl (fun ls hl => ?_)
    refine lv_goto (tgt := 21) hx hb dX10_isGrammatical_85 (by decide) ?_
    exact Kb x23 τ (Option.some.inj hf).symm _ _ hJ ls (lv_sub hl [1, 2, 0] rfl)
  have B21 : ∀ (v0 : Nat) (v1 : Nat) (v2 : Int32) (τ : mx_S) (o : (Int32 × mx_S) ⊕ ((mx_S))), f_X10_isGrammatical_B21 P v0 v1 v2 τ = some o → (∀ (y2 : Int32) (υ : mx_S), o = .inl (y2, υ) → ∀ (H : Heap) (locs : List Loc), mx_J G P s.heap (mxz σ) (mxu σ) υ H locs → ∀ ls : Array Slot, lv_has ls 3 [(0, .ref v0), (1, .ref (mgK G v1)), (2, .int y2)] → W p l e (mx_rm P 6 132 σ) s m ([.ref a0, .ref (mgK G p1)] : List Value).toArray below meth c H locs (mxz υ - mxz σ) (mxu υ - mxu σ) (mx_Z below G P (some (.int r)) σ σ' [.ref a0, .ref (mgK G p1)] s) (F0 m 21 ls [])) → (∀  (υ : mx_S), o = .inr υ → ∀ (H : Heap) (locs : List Loc), mx_J G P s.heap (mxz σ) (mxu σ) υ H locs → ∀ ls : Array Slot, lv_has ls 3 [(0, .ref v0)] → W p l e (mx_rm P 6 132 σ) s m ([.ref a0, .ref (mgK G p1)] : List Value).toArray below meth c H locs (mxz υ - mxz σ) (mxu υ - mxu σ) (mx_Z below G P (some (.int r)) σ σ' [.ref a0, .ref (mgK G p1)] s) (F0 m 88 ls [])) → ∀ (H : Heap) (locs : List Loc), mx_J G P s.heap (mxz σ) (mxu σ) τ H locs → ∀ ls : Array Slot, lv_has ls 3 [(0, .ref v0), (1, .ref (mgK G v1)), (2, .int v2)] → W p l e (mx_rm P 6 132 σ) s m ([.ref a0, .ref (mgK G p1)] : List Value).toArray below meth c H locs (mxz τ - mxz σ) (mxu τ - mxu σ) (mx_Z below G P (some (.int r)) σ σ' [.ref a0, .ref (mgK G p1)] s) (F0 m 21 ls []) := by
    intro v0 v1 v2 τ o hf Kb Ke0 H locs hJ ls hl
    unfold f_X10_isGrammatical_B21 at hf
    refine lv_iload_n hx hb dX10_isGrammatical_21 rfl (lv_at hl 2 rfl) ?_
    refine lv_sipush (v := 4000) hx hb dX10_isGrammatical_22 (by decide) ?_
    refine lv_icmp_ge (tgt := 88) hx hb dX10_isGrammatical_25 (by decide) (fun c11 => ?_) (fun c11 => ?_)
    · rw [if_pos c11] at hf
      exact Ke0 τ (Option.some.inj hf).symm _ _ hJ ls (lv_sub hl [0] rfl)
    · rw [if_neg c11] at hf
      refine lv_aload_n hx hb dX10_isGrammatical_28 rfl (lv_at hl 0 rfl) ?_
      refine lv_aload_n hx hb dX10_isGrammatical_29 rfl (lv_at hl 1 rfl) ?_
      obtain ⟨i12, e13, hf⟩ := mb0 hf
      obtain ⟨x15, σ14, e16, hf⟩ := mc0 hf
      refine mx_callV (As := [.ref (mgK G v1)]) (rest := []) hx hb hml hts hown hK hJ rfl rfl (ci := 10) rfl e13 (c_X10_hasStatement l G P v0 v1 τ x15 σ14 e16) me_X10_hasStatement kw_1060 kw_1061 kw_1059 (Nat.le_of_ble_eq_true rfl) (Nat.le_of_ble_eq_true rfl) rfl hl.1 rfl (Nat.le_of_ble_eq_true rfl) dX10_isGrammatical_30 (fun H locs hJ => ?_)
      refine lv_if_eq (tgt := 88) hx hb dX10_isGrammatical_33 (by decide) (fun c17 => ?_) (fun c17 => ?_)
      · rw [if_pos c17] at hf
        exact Ke0 σ14 (Option.some.inj hf).symm _ _ hJ ls (lv_sub hl [0] rfl)
      · rw [if_neg c17] at hf
        refine lv_aload_n hx hb dX10_isGrammatical_36 rfl (lv_at hl 0 rfl) ?_
        obtain ⟨b18, e19, hf⟩ := mb0 hf
        refine my_gR hx hb hts hown hK hJ fd_RX10_13 hv_10_13 e19 dX10_isGrammatical_37 ?_
        refine lv_iconst (v := 0) hx hb dX10_isGrammatical_40 (by decide) ?_
        obtain ⟨x20, e21, hf⟩ := mb0 hf
        refine mx_aI hx hb hK hJ e21 dX10_isGrammatical_41 ?_
        refine lv_bipush (v := 67) hx hb dX10_isGrammatical_42 (by decide) ?_
        refine lv_icmp_ne (tgt := 82) hx hb dX10_isGrammatical_44 (by decide) (fun c22 => ?_) (fun c22 => ?_)
        · rw [if_neg c22] at hf
          exact D82_21 v0 v1 v2 σ14 o hf Kb Ke0 _ _ hJ ls (lv_sub hl [0, 1, 2] rfl)
        · rw [if_pos c22] at hf
          refine lv_aload_n hx hb dX10_isGrammatical_47 rfl (lv_at hl 0 rfl) ?_
          obtain ⟨x25, e26, hf⟩ := mb0 hf
          refine my_gI hx hb hts hown hK hJ fd_RX10_57 hv_10_19 e26 dX10_isGrammatical_48 ?_
          refine lv_sipush (v := 450) hx hb dX10_isGrammatical_51 (by decide) ?_
          refine lv_icmp_ge (tgt := 82) hx hb dX10_isGrammatical_54 (by decide) (fun c27 => ?_) (fun c27 => ?_)
          · rw [if_pos c27] at hf
            exact D82_21 v0 v1 v2 σ14 o hf Kb Ke0 _ _ hJ ls (lv_sub hl [0, 1, 2] rfl)
          · rw [if_neg c27] at hf
            refine lv_aload_n hx hb dX10_isGrammatical_57 rfl (lv_at hl 0 rfl) ?_
            obtain ⟨b28, e29, hf⟩ := mb0 hf
            refine my_gR hx hb hts hown hK hJ fd_RX10_30 hv_10_18 e29 dX10_isGrammatical_58 ?_
            refine lv_aload_n hx hb dX10_isGrammatical_61 rfl (lv_at hl 0 rfl) ?_
            obtain ⟨x30, e31, hf⟩ := mb0 hf
            refine my_gI hx hb hts hown hK hJ fd_RX10_57 hv_10_19 e31 dX10_isGrammatical_62 ?_
            refine lv_aload_n hx hb dX10_isGrammatical_65 rfl (lv_at hl 0 rfl) ?_
            obtain ⟨b32, e33, hf⟩ := mb0 hf
            refine my_gR hx hb hts hown hK hJ fd_RX10_20 hv_10_15 e33 dX10_isGrammatical_66 ?_
            refine lv_iconst (v := 0) hx hb dX10_isGrammatical_69 (by decide) ?_
            obtain ⟨x34, e35, hf⟩ := mb0 hf
            refine mx_aL hx hb hK hJ e35 dX10_isGrammatical_70 ?_
            obtain ⟨σ36, e37, hf⟩ := mb0 hf
            refine mx_sL hx hb hK hJ e37 dX10_isGrammatical_71 (fun H locs hJ => ?_)
            refine lv_aload_n hx hb dX10_isGrammatical_72 rfl (lv_at hl 0 rfl) ?_
            refine lv_dup hx hb dX10_isGrammatical_73 rfl ?_
            obtain ⟨x38, e39, hf⟩ := mb0 hf
            refine my_gI hx hb hts hown hK hJ fd_RX10_57 hv_10_19 e39 dX10_isGrammatical_74 ?_
            refine lv_iconst (v := 1) hx hb dX10_isGrammatical_77 (by decide) ?_
            refine lv_iadd hx hb dX10_isGrammatical_78 ?_
            obtain ⟨σ40, e41, hf⟩ := mb0 hf
            refine my_pI hx hb hts hown hK hJ fd_RX10_57 cd_10 (Or.inl rfl) ht_10_19 e41 dX10_isGrammatical_79 (fun H locs hJ => ?_)
            exact D82_21 v0 v1 v2 σ40 o hf Kb Ke0 _ _ hJ ls (lv_sub hl [0, 1, 2] rfl)
  have L21 : ∀ (v0 : Nat) (v1 : Nat) (n : Nat) (v2 : Int32) (τ : mx_S) (o : (mx_S)), mx_lp (f_X10_isGrammatical_L21 P v0 v1) n (v2, τ) = some o → (∀  (υ : mx_S), o = υ → ∀ (H : Heap) (locs : List Loc), mx_J G P s.heap (mxz σ) (mxu σ) υ H locs → ∀ ls : Array Slot, lv_has ls 3 [(0, .ref v0)] → W p l e (mx_rm P 6 132 σ) s m ([.ref a0, .ref (mgK G p1)] : List Value).toArray below meth c H locs (mxz υ - mxz σ) (mxu υ - mxu σ) (mx_Z below G P (some (.int r)) σ σ' [.ref a0, .ref (mgK G p1)] s) (F0 m 88 ls [])) → ∀ (H : Heap) (locs : List Loc), mx_J G P s.heap (mxz σ) (mxu σ) τ H locs → ∀ ls : Array Slot, lv_has ls 3 [(0, .ref v0), (1, .ref (mgK G v1)), (2, .int v2)] → W p l e (mx_rm P 6 132 σ) s m ([.ref a0, .ref (mgK G p1)] : List Value).toArray below meth c H locs (mxz τ - mxz σ) (mxu τ - mxu σ) (mx_Z below G P (some (.int r)) σ σ' [.ref a0, .ref (mgK G p1)] s) (F0 m 21 ls []) := by
    intro v0 v1 n
    induction n with
    | zero =>
      intro v2 τ o hf
      rw [mx_lp0] at hf
      cases hf
    | succ n ih =>
      intro v2 τ o hf Ke0 H locs hJ ls hl
      rw [mx_lpS] at hf
      obtain ⟨b, eb, hf⟩ := mb0 hf
      refine B21 v0 v1 v2 τ b eb (fun y2 υ ho H locs hJ ls hl => ?_) (fun  υ ho H locs hJ ls hl => ?_) H locs hJ ls hl
      · subst ho
        exact ih y2 υ o hf Ke0 H locs hJ ls hl
      · subst ho
        exact Ke0  υ (Option.some.inj hf).symm _ _ hJ ls hl
  have D104 : ∀ (w0 : Int32) (τ : mx_S), f_X10_isGrammatical_D104 P w0 τ = some (r, σ') → ∀ (H : Heap) (locs : List Loc), mx_J G P s.heap (mxz σ) (mxu σ) τ H locs → ∀ ls : Array Slot, lv_has ls 3 [] → W p l e (mx_rm P 6 132 σ) s m ([.ref a0, .ref (mgK G p1)] : List Value).toArray below meth c H locs (mxz τ - mxz σ) (mxu τ - mxu σ) (mx_Z below G P (some (.int r)) σ σ' [.ref a0, .ref (mgK G p1)] s) (F0 m 104 ls [.int w0]) := by
    intro w0 τ hf _ _ hJ ls hl
    unfold f_X10_isGrammatical_D104 at hf
    exact mx_zret hx hb hr hlocks hJ hf dX10_isGrammatical_104
  have D88 : ∀ (v0 : Nat) (τ : mx_S), f_X10_isGrammatical_D88 P v0 τ = some (r, σ') → ∀ (H : Heap) (locs : List Loc), mx_J G P s.heap (mxz σ) (mxu σ) τ H locs → ∀ ls : Array Slot, lv_has ls 3 [(0, .ref v0)] → W p l e (mx_rm P 6 132 σ) s m ([.ref a0, .ref (mgK G p1)] : List Value).toArray below meth c H locs (mxz τ - mxz σ) (mxu τ - mxu σ) (mx_Z below G P (some (.int r)) σ σ' [.ref a0, .ref (mgK G p1)] s) (F0 m 88 ls []) := by
    intro v0 τ hf _ _ hJ ls hl
    unfold f_X10_isGrammatical_D88 at hf
    refine lv_aload_n hx hb dX10_isGrammatical_88 rfl (lv_at hl 0 rfl) ?_
    obtain ⟨i45, e46, hf⟩ := mb0 hf
    obtain ⟨σ47, e48, hf⟩ := mb0 hf
    refine mx_callV (As := []) (rest := []) hx hb hml hts hown hK hJ rfl rfl (ci := 10) rfl e46 (c_X10_rewind l G P v0 τ σ47 e48) me_X10_rewind kw_1056 kw_1057 kw_1055 (Nat.le_of_ble_eq_true rfl) (Nat.le_of_ble_eq_true rfl) rfl hl.1 rfl (Nat.le_of_ble_eq_true rfl) dX10_isGrammatical_89 (fun H locs hJ => ?_)
    refine lv_aload_n hx hb dX10_isGrammatical_92 rfl (lv_at hl 0 rfl) ?_
    obtain ⟨x49, e50, hf⟩ := mb0 hf
    refine my_gI hx hb hts hown hK hJ fd_RX10_48 hv_10_2 e50 dX10_isGrammatical_93 ?_
    refine lv_if_ne (tgt := 103) hx hb dX10_isGrammatical_96 (by decide) (fun c51 => ?_) (fun c51 => ?_)
    · rw [if_neg c51] at hf
      refine lv_iconst (v := 0) hx hb dX10_isGrammatical_103 (by decide) ?_
      exact D104 (0 : Int32) σ47 hf _ _ hJ ls (lv_sub hl [] rfl)
    · rw [if_pos c51] at hf
      refine lv_iconst (v := 1) hx hb dX10_isGrammatical_99 (by decide) ?_
      refine lv_goto (tgt := 104) hx hb dX10_isGrammatical_100 (by decide) ?_
      exact D104 (1 : Int32) σ47 hf _ _ hJ ls (lv_sub hl [] rfl)
  unfold f_X10_isGrammatical at hf
  refine lv_aload_n hx hb dX10_isGrammatical_0 rfl (lv_at hl 0 rfl) ?_
  refine lv_iconst (v := 0) hx hb dX10_isGrammatical_1 (by decide) ?_
  obtain ⟨σ1, e2, hf⟩ := mb0 hf
  refine my_pI hx hb hts hown hK hJ fd_RX10_48 cd_10 (Or.inl rfl) ht_10_2 e2 dX10_isGrammatical_2 (fun H locs hJ => ?_)
  refine lv_aload_n hx hb dX10_isGrammatical_5 rfl (lv_at hl 0 rfl) ?_
  refine lv_iconst (v := 0) hx hb dX10_isGrammatical_6 (by decide) ?_
  obtain ⟨σ3, e4, hf⟩ := mb0 hf
  refine my_pI hx hb hts hown hK hJ fd_RX10_51 cd_10 (Or.inl rfl) ht_10_3 e4 dX10_isGrammatical_7 (fun H locs hJ => ?_)
  refine lv_aload_n hx hb dX10_isGrammatical_10 rfl (lv_at hl 0 rfl) ?_
  refine lv_iconst (v := 0) hx hb dX10_isGrammatical_11 (by decide) ?_
  obtain ⟨σ5, e6, hf⟩ := mb0 hf
  refine my_pI hx hb hts hown hK hJ fd_RX10_57 cd_10 (Or.inl rfl) ht_10_19 e6 dX10_isGrammatical_12 (fun H locs hJ => ?_)
  refine lv_aload_n hx hb dX10_isGrammatical_15 rfl (lv_at hl 0 rfl) ?_
  obtain ⟨i7, e8, hf⟩ := mb0 hf
  obtain ⟨σ9, e10, hf⟩ := mb0 hf
  refine mx_callV (As := []) (rest := []) hx hb hml hts hown hK hJ rfl rfl (ci := 10) rfl e8 (c_X10_rewind l G P a0 σ5 σ9 e10) me_X10_rewind kw_1056 kw_1057 kw_1055 (Nat.le_of_ble_eq_true rfl) (Nat.le_of_ble_eq_true rfl) rfl hl.1 rfl (Nat.le_of_ble_eq_true rfl) dX10_isGrammatical_16 (fun H locs hJ => ?_)
  refine lv_iconst (v := 0) hx hb dX10_isGrammatical_19 (by decide) ?_
  refine lv_istore_n (lv' := [(2, .int (0 : Int32)), (0, .ref a0), (1, .ref (mgK G p1))]) hx hb dX10_isGrammatical_20 rfl hl (by decide) rfl (fun ls hl => ?_)
  obtain ⟨o42, e43, hf⟩ := mb0 hf
  refine L21 a0 p1 (mpN P) (0 : Int32) σ9 o42 e43 (fun σ44 ho H locs hJ ls hl => ?_) _ _ hJ ls (lv_sub hl [1, 2, 0] rfl)
  · rw [ho] at hf
    have hf : (f_X10_isGrammatical_D88 P a0 σ44) = some (r, σ') := hf
    exact D88 a0 σ44 hf _ _ hJ ls (lv_sub hl [0] rfl)
set_option maxHeartbeats 4000000 in
set_option maxRecDepth 100000 in
theorem c_J9_abs_0f7a4 (l : Launch) (G : mx_G) (P : mx_P) (p0 : Int32) (σ : mx_S) (r : Int32) (σ' : mx_S) (hf : f_J9_abs_0f7a4 P p0 σ = some (r, σ')) : mxz σ ≤ mpc P → mxu σ ≤ mps P → mx_M l yJ9_abs_0f7a4 cJ9_abs_0f7a4 1 (some .int) 0 0 G P [.int p0] σ (some (.int r)) σ' := by
  intro hcap hcau
  refine mx_ofW (by decide +kernel) hcap hcau (Nat.le_of_ble_eq_true rfl) ?_
  intro p e s m below meth c hx hb hr hml hts hown hlocks hname hK hJ ls hl
  have hz0 := hJ.2.1
  have hown : s.vm.findClass RJ9 = some m.cls := hown
  have hl : lv_has ls 1 [(0, .int p0)] := hl
  have D10 : ∀ (w0 : Int32) (τ : mx_S), f_J9_abs_0f7a4_D10 P w0 τ = some (r, σ') → ∀ (H : Heap) (locs : List Loc), mx_J G P s.heap (mxz σ) (mxu σ) τ H locs → ∀ ls : Array Slot, lv_has ls 1 [] → W p l e (mx_rm P 0 0 σ) s m ([.int p0] : List Value).toArray below meth c H locs (mxz τ - mxz σ) (mxu τ - mxu σ) (mx_Z below G P (some (.int r)) σ σ' [.int p0] s) (F0 m 10 ls [.int w0]) := by
    intro w0 τ hf _ _ hJ ls hl
    unfold f_J9_abs_0f7a4_D10 at hf
    exact my_iret hx hb hr hlocks hJ hf dJ9_abs_0f7a4_10
  unfold f_J9_abs_0f7a4 at hf
  refine lv_iload_n hx hb dJ9_abs_0f7a4_0 rfl (lv_at hl 0 rfl) ?_
  refine lv_if_ge (tgt := 9) hx hb dJ9_abs_0f7a4_1 (by decide) (fun c1 => ?_) (fun c1 => ?_)
  · rw [if_pos c1] at hf
    refine lv_iload_n hx hb dJ9_abs_0f7a4_9 rfl (lv_at hl 0 rfl) ?_
    exact D10 p0 σ hf _ _ hJ ls (lv_sub hl [] rfl)
  · rw [if_neg c1] at hf
    refine lv_iload_n hx hb dJ9_abs_0f7a4_4 rfl (lv_at hl 0 rfl) ?_
    refine lv_ineg hx hb dJ9_abs_0f7a4_5 ?_
    refine lv_goto (tgt := 10) hx hb dJ9_abs_0f7a4_6 (by decide) ?_
    exact D10 (-p0) σ hf _ _ hJ ls (lv_sub hl [] rfl)
set_option maxHeartbeats 4000000 in
set_option maxRecDepth 100000 in
theorem c_X10_whole (l : Launch) (G : mx_G) (P : mx_P) (a0 : Nat) (p1 : Int32) (σ : mx_S) (r : Int32) (σ' : mx_S) (hf : f_X10_whole P a0 p1 σ = some (r, σ')) : mxz σ ≤ mpc P → mxu σ ≤ mps P → mx_M l yX10_whole cX10_whole 2 (some .int) 0 0 G P [.ref a0, .int p1] σ (some (.int r)) σ' := by
  intro hcap hcau
  refine mx_ofW (by decide +kernel) hcap hcau (Nat.le_of_ble_eq_true rfl) ?_
  intro p e s m below meth c hx hb hr hml hts hown hlocks hname hK hJ ls hl
  have hz0 := hJ.2.1
  have hown : s.vm.findClass RX10 = some m.cls := hown
  have hl : lv_has ls 2 [(0, .ref a0), (1, .int p1)] := hl
  have D26 : ∀ (w0 : Int32) (τ : mx_S), f_X10_whole_D26 P w0 τ = some (r, σ') → ∀ (H : Heap) (locs : List Loc), mx_J G P s.heap (mxz σ) (mxu σ) τ H locs → ∀ ls : Array Slot, lv_has ls 2 [] → W p l e (mx_rm P 0 0 σ) s m ([.ref a0, .int p1] : List Value).toArray below meth c H locs (mxz τ - mxz σ) (mxu τ - mxu σ) (mx_Z below G P (some (.int r)) σ σ' [.ref a0, .int p1] s) (F0 m 26 ls [.int w0]) := by
    intro w0 τ hf _ _ hJ ls hl
    unfold f_X10_whole_D26 at hf
    exact my_iret hx hb hr hlocks hJ hf dX10_whole_26
  unfold f_X10_whole at hf
  refine lv_aload_n hx hb dX10_whole_0 rfl (lv_at hl 0 rfl) ?_
  obtain ⟨b1, e2, hf⟩ := mb0 hf
  refine my_gR hx hb hts hown hK hJ fd_RX10_27 hv_10_17 e2 dX10_whole_1 ?_
  refine lv_iload_n hx hb dX10_whole_4 rfl (lv_at hl 1 rfl) ?_
  obtain ⟨x3, e4, hf⟩ := mb0 hf
  refine mx_aI hx hb hK hJ e4 dX10_whole_5 ?_
  refine lv_if_le (tgt := 25) hx hb dX10_whole_6 (by decide) (fun c5 => ?_) (fun c5 => ?_)
  · rw [if_pos c5] at hf
    refine lv_iconst (v := 0) hx hb dX10_whole_25 (by decide) ?_
    exact D26 (0 : Int32) σ hf _ _ hJ ls (lv_sub hl [] rfl)
  · rw [if_neg c5] at hf
    refine lv_aload_n hx hb dX10_whole_9 rfl (lv_at hl 0 rfl) ?_
    obtain ⟨b6, e7, hf⟩ := mb0 hf
    refine my_gR hx hb hts hown hK hJ fd_RX10_24 hv_10_16 e7 dX10_whole_10 ?_
    refine lv_iload_n hx hb dX10_whole_13 rfl (lv_at hl 1 rfl) ?_
    obtain ⟨x8, e9, hf⟩ := mb0 hf
    refine mx_aI hx hb hK hJ e9 dX10_whole_14 ?_
    refine lv_aload_n hx hb dX10_whole_15 rfl (lv_at hl 0 rfl) ?_
    obtain ⟨b10, e11, hf⟩ := mb0 hf
    refine my_gR hx hb hts hown hK hJ fd_RX10_27 hv_10_17 e11 dX10_whole_16 ?_
    refine lv_iload_n hx hb dX10_whole_19 rfl (lv_at hl 1 rfl) ?_
    obtain ⟨x12, e13, hf⟩ := mb0 hf
    refine mx_aI hx hb hK hJ e13 dX10_whole_20 ?_
    obtain ⟨x14, e15, hf⟩ := mb0 hf
    refine lv_idiv hx hb dX10_whole_21 (md_Is e15).1 ?_
    refine mx_eI (md_Is e15).2 ?_
    refine lv_goto (tgt := 26) hx hb dX10_whole_22 (by decide) ?_
    exact D26 x14 σ hf _ _ hJ ls (lv_sub hl [] rfl)
set_option maxHeartbeats 4000000 in
set_option maxRecDepth 100000 in
theorem c_X10_isWhole (l : Launch) (G : mx_G) (P : mx_P) (a0 : Nat) (p1 : Int32) (p2 : Int32) (p3 : Int32) (σ : mx_S) (r : Int32) (σ' : mx_S) (hf : f_X10_isWhole P a0 p1 p2 p3 σ = some (r, σ')) : mxz σ ≤ mpc P → mxu σ ≤ mps P → mx_M l yX10_isWhole cX10_isWhole 5 (some .boolean) 1 21 G P [.ref a0, .int p1, .int p2, .int p3] σ (some (.int r)) σ' := by
  intro hcap hcau
  refine mx_ofW (by decide +kernel) hcap hcau (Nat.le_of_ble_eq_true rfl) ?_
  intro p e s m below meth c hx hb hr hml hts hown hlocks hname hK hJ ls hl
  have hz0 := hJ.2.1
  have hown : s.vm.findClass RX10 = some m.cls := hown
  have hl : lv_has ls 5 [(0, .ref a0), (1, .int p1), (2, .int p2), (3, .int p3)] := hl
  have D42 : ∀ (w0 : Int32) (τ : mx_S), f_X10_isWhole_D42 P w0 τ = some (r, σ') → ∀ (H : Heap) (locs : List Loc), mx_J G P s.heap (mxz σ) (mxu σ) τ H locs → ∀ ls : Array Slot, lv_has ls 5 [] → W p l e (mx_rm P 1 21 σ) s m ([.ref a0, .int p1, .int p2, .int p3] : List Value).toArray below meth c H locs (mxz τ - mxz σ) (mxu τ - mxu σ) (mx_Z below G P (some (.int r)) σ σ' [.ref a0, .int p1, .int p2, .int p3] s) (F0 m 42 ls [.int w0]) := by
    intro w0 τ hf _ _ hJ ls hl
    unfold f_X10_isWhole_D42 at hf
    exact mx_zret hx hb hr hlocks hJ hf dX10_isWhole_42
  have D41 : ∀  (τ : mx_S), f_X10_isWhole_D41 P  τ = some (r, σ') → ∀ (H : Heap) (locs : List Loc), mx_J G P s.heap (mxz σ) (mxu σ) τ H locs → ∀ ls : Array Slot, lv_has ls 5 [] → W p l e (mx_rm P 1 21 σ) s m ([.ref a0, .int p1, .int p2, .int p3] : List Value).toArray below meth c H locs (mxz τ - mxz σ) (mxu τ - mxu σ) (mx_Z below G P (some (.int r)) σ σ' [.ref a0, .int p1, .int p2, .int p3] s) (F0 m 41 ls []) := by
    intro  τ hf _ _ hJ ls hl
    unfold f_X10_isWhole_D41 at hf
    refine lv_iconst (v := 0) hx hb dX10_isWhole_41 (by decide) ?_
    exact D42 (0 : Int32) τ hf _ _ hJ ls (lv_sub hl [] rfl)
  unfold f_X10_isWhole at hf
  refine lv_aload_n hx hb dX10_isWhole_0 rfl (lv_at hl 0 rfl) ?_
  refine lv_iload_n hx hb dX10_isWhole_1 rfl (lv_at hl 1 rfl) ?_
  obtain ⟨i1, e2, hf⟩ := mb0 hf
  obtain ⟨x4, σ3, e5, hf⟩ := mc0 hf
  refine mx_callV (As := [.int p1]) (rest := []) hx hb hml hts hown hK hJ rfl rfl (ci := 10) rfl e2 (c_X10_whole l G P a0 p1 σ x4 σ3 e5) me_X10_whole kw_1174 kw_1175 kw_1173 (Nat.le_of_ble_eq_true rfl) (Nat.le_of_ble_eq_true rfl) rfl hl.1 rfl (Nat.le_of_ble_eq_true rfl) dX10_isWhole_2 (fun H locs hJ => ?_)
  refine lv_istore (lv' := [(4, .int x4), (0, .ref a0), (1, .int p1), (2, .int p2), (3, .int p3)]) hx hb dX10_isWhole_5 hl (by decide) rfl (fun ls hl => ?_)
  refine lv_iload hx hb dX10_isWhole_7 (lv_at hl 0 rfl) ?_
  refine lv_aload_n hx hb dX10_isWhole_9 rfl (lv_at hl 1 rfl) ?_
  obtain ⟨b6, e7, hf⟩ := mb0 hf
  refine my_gR hx hb hts hown hK hJ fd_RX10_27 hv_10_17 e7 dX10_isWhole_10 ?_
  refine lv_iload_n hx hb dX10_isWhole_13 rfl (lv_at hl 2 rfl) ?_
  obtain ⟨x8, e9, hf⟩ := mb0 hf
  refine mx_aI hx hb hK hJ e9 dX10_isWhole_14 ?_
  refine lv_imul hx hb dX10_isWhole_15 ?_
  refine lv_aload_n hx hb dX10_isWhole_16 rfl (lv_at hl 1 rfl) ?_
  obtain ⟨b10, e11, hf⟩ := mb0 hf
  refine my_gR hx hb hts hown hK hJ fd_RX10_24 hv_10_16 e11 dX10_isWhole_17 ?_
  refine lv_iload_n hx hb dX10_isWhole_20 rfl (lv_at hl 2 rfl) ?_
  obtain ⟨x12, e13, hf⟩ := mb0 hf
  refine mx_aI hx hb hK hJ e13 dX10_isWhole_21 ?_
  refine lv_icmp_ne (tgt := 41) hx hb dX10_isWhole_22 (by decide) (fun c14 => ?_) (fun c14 => ?_)
  · rw [if_neg c14] at hf
    exact D41  σ3 hf _ _ hJ ls (lv_sub hl [] rfl)
  · rw [if_pos c14] at hf
    refine lv_iload hx hb dX10_isWhole_25 (lv_at hl 0 rfl) ?_
    refine lv_iload_n hx hb dX10_isWhole_27 rfl (lv_at hl 3 rfl) ?_
    refine lv_icmp_lt (tgt := 41) hx hb dX10_isWhole_28 (by decide) (fun c15 => ?_) (fun c15 => ?_)
    · rw [if_pos c15] at hf
      exact D41  σ3 hf _ _ hJ ls (lv_sub hl [] rfl)
    · rw [if_neg c15] at hf
      refine lv_iload hx hb dX10_isWhole_31 (lv_at hl 0 rfl) ?_
      refine lv_iload_n hx hb dX10_isWhole_33 rfl (lv_at hl 4 rfl) ?_
      refine lv_icmp_gt (tgt := 41) hx hb dX10_isWhole_34 (by decide) (fun c16 => ?_) (fun c16 => ?_)
      · rw [if_pos c16] at hf
        exact D41  σ3 hf _ _ hJ ls (lv_sub hl [] rfl)
      · rw [if_neg c16] at hf
        refine lv_iconst (v := 1) hx hb dX10_isWhole_37 (by decide) ?_
        refine lv_goto (tgt := 42) hx hb dX10_isWhole_38 (by decide) ?_
        exact D42 (1 : Int32) σ3 hf _ _ hJ ls (lv_sub hl [] rfl)
set_option maxHeartbeats 4000000 in
set_option maxRecDepth 100000 in
theorem c_X10_isInRange (l : Launch) (G : mx_G) (P : mx_P) (a0 : Nat) (p1 : Int32) (σ : mx_S) (r : Int32) (σ' : mx_S) (hf : f_X10_isInRange P a0 p1 σ = some (r, σ')) : mxz σ ≤ mpc P → mxu σ ≤ mps P → mx_M l yX10_isInRange cX10_isInRange 2 (some .boolean) 2 45 G P [.ref a0, .int p1] σ (some (.int r)) σ' := by
  intro hcap hcau
  refine mx_ofW (by decide +kernel) hcap hcau (Nat.le_of_ble_eq_true rfl) ?_
  intro p e s m below meth c hx hb hr hml hts hown hlocks hname hK hJ ls hl
  have hz0 := hJ.2.1
  have hown : s.vm.findClass RX10 = some m.cls := hown
  have hl : lv_has ls 2 [(0, .ref a0), (1, .int p1)] := hl
  have D253 : ∀  (τ : mx_S), f_X10_isInRange_D253 P  τ = some (r, σ') → ∀ (H : Heap) (locs : List Loc), mx_J G P s.heap (mxz σ) (mxu σ) τ H locs → ∀ ls : Array Slot, lv_has ls 2 [] → W p l e (mx_rm P 2 45 σ) s m ([.ref a0, .int p1] : List Value).toArray below meth c H locs (mxz τ - mxz σ) (mxu τ - mxu σ) (mx_Z below G P (some (.int r)) σ σ' [.ref a0, .int p1] s) (F0 m 253 ls []) := by
    intro  τ hf _ _ hJ ls hl
    unfold f_X10_isInRange_D253 at hf
    refine lv_iconst (v := 1) hx hb dX10_isInRange_253 (by decide) ?_
    exact mx_zret hx hb hr hlocks hJ hf dX10_isInRange_254
  have D175 : ∀ (w0 : Int32) (τ : mx_S), f_X10_isInRange_D175 P w0 τ = some (r, σ') → ∀ (H : Heap) (locs : List Loc), mx_J G P s.heap (mxz σ) (mxu σ) τ H locs → ∀ ls : Array Slot, lv_has ls 2 [] → W p l e (mx_rm P 2 45 σ) s m ([.ref a0, .int p1] : List Value).toArray below meth c H locs (mxz τ - mxz σ) (mxu τ - mxu σ) (mx_Z below G P (some (.int r)) σ σ' [.ref a0, .int p1] s) (F0 m 175 ls [.int w0]) := by
    intro w0 τ hf _ _ hJ ls hl
    unfold f_X10_isInRange_D175 at hf
    exact mx_zret hx hb hr hlocks hJ hf dX10_isInRange_175
  have D174 : ∀  (τ : mx_S), f_X10_isInRange_D174 P  τ = some (r, σ') → ∀ (H : Heap) (locs : List Loc), mx_J G P s.heap (mxz σ) (mxu σ) τ H locs → ∀ ls : Array Slot, lv_has ls 2 [] → W p l e (mx_rm P 2 45 σ) s m ([.ref a0, .int p1] : List Value).toArray below meth c H locs (mxz τ - mxz σ) (mxu τ - mxu σ) (mx_Z below G P (some (.int r)) σ σ' [.ref a0, .int p1] s) (F0 m 174 ls []) := by
    intro  τ hf _ _ hJ ls hl
    unfold f_X10_isInRange_D174 at hf
    refine lv_iconst (v := 0) hx hb dX10_isInRange_174 (by decide) ?_
    exact D175 (0 : Int32) τ hf _ _ hJ ls (lv_sub hl [] rfl)
  have D142 : ∀ (w0 : Int32) (τ : mx_S), f_X10_isInRange_D142 P w0 τ = some (r, σ') → ∀ (H : Heap) (locs : List Loc), mx_J G P s.heap (mxz σ) (mxu σ) τ H locs → ∀ ls : Array Slot, lv_has ls 2 [] → W p l e (mx_rm P 2 45 σ) s m ([.ref a0, .int p1] : List Value).toArray below meth c H locs (mxz τ - mxz σ) (mxu τ - mxu σ) (mx_Z below G P (some (.int r)) σ σ' [.ref a0, .int p1] s) (F0 m 142 ls [.int w0]) := by
    intro w0 τ hf _ _ hJ ls hl
    unfold f_X10_isInRange_D142 at hf
    exact mx_zret hx hb hr hlocks hJ hf dX10_isInRange_142
  unfold f_X10_isInRange at hf
  refine lv_aload_n hx hb dX10_isInRange_0 rfl (lv_at hl 0 rfl) ?_
  obtain ⟨b1, e2, hf⟩ := mb0 hf
  refine my_gR hx hb hts hown hK hJ fd_RX10_13 hv_10_13 e2 dX10_isInRange_1 ?_
  refine lv_iload_n hx hb dX10_isInRange_4 rfl (lv_at hl 1 rfl) ?_
  obtain ⟨x3, e4, hf⟩ := mb0 hf
  refine mx_aI hx hb hK hJ e4 dX10_isInRange_5 ?_
  by_cases c5 : x3 = (97 : Int32)
  · rw [if_pos c5] at hf
    refine lv_tableIn (tgt := 234) (off := 228) hx hb dX10_isInRange_6 (by rw [c5] <;> decide) (by rw [c5] <;> decide) (by rw [c5] <;> decide) (by decide) ?_
    refine lv_aload_n hx hb dX10_isInRange_234 rfl (lv_at hl 0 rfl) ?_
    refine lv_iload_n hx hb dX10_isInRange_235 rfl (lv_at hl 1 rfl) ?_
    refine lv_iconst (v := 1) hx hb dX10_isInRange_236 (by decide) ?_
    refine lv_bipush (v := 9) hx hb dX10_isInRange_237 (by decide) ?_
    obtain ⟨i6, e7, hf⟩ := mb0 hf
    obtain ⟨x9, σ8, e10, hf⟩ := mc0 hf
    refine mx_callV (As := [.int p1, .int (1 : Int32), .int (9 : Int32)]) (rest := []) hx hb hml hts hown hK hJ rfl rfl (ci := 10) rfl e7 (c_X10_isWhole l G P a0 p1 (1 : Int32) (9 : Int32) σ x9 σ8 e10) me_X10_isWhole kw_1171 ks_34 kw_1169 (Nat.le_of_ble_eq_true rfl) (Nat.le_of_ble_eq_true rfl) rfl hl.1 rfl (Nat.le_of_ble_eq_true rfl) dX10_isInRange_239 (fun H locs hJ => ?_)
    exact mx_zret hx hb hr hlocks hJ hf dX10_isInRange_242
  rw [if_neg c5] at hf
  by_cases c11 : x3 = (98 : Int32)
  · rw [if_pos c11] at hf
    refine lv_tableIn (tgt := 243) (off := 237) hx hb dX10_isInRange_6 (by rw [c11] <;> decide) (by rw [c11] <;> decide) (by rw [c11] <;> decide) (by decide) ?_
    refine lv_aload_n hx hb dX10_isInRange_243 rfl (lv_at hl 0 rfl) ?_
    refine lv_iload_n hx hb dX10_isInRange_244 rfl (lv_at hl 1 rfl) ?_
    refine lv_iconst (v := 0) hx hb dX10_isInRange_245 (by decide) ?_
    refine lv_sipush (v := 255) hx hb dX10_isInRange_246 (by decide) ?_
    obtain ⟨i12, e13, hf⟩ := mb0 hf
    obtain ⟨x15, σ14, e16, hf⟩ := mc0 hf
    refine mx_callV (As := [.int p1, .int (0 : Int32), .int (255 : Int32)]) (rest := []) hx hb hml hts hown hK hJ rfl rfl (ci := 10) rfl e13 (c_X10_isWhole l G P a0 p1 (0 : Int32) (255 : Int32) σ x15 σ14 e16) me_X10_isWhole kw_1171 ks_34 kw_1169 (Nat.le_of_ble_eq_true rfl) (Nat.le_of_ble_eq_true rfl) rfl hl.1 rfl (Nat.le_of_ble_eq_true rfl) dX10_isInRange_249 (fun H locs hJ => ?_)
    exact mx_zret hx hb hr hlocks hJ hf dX10_isInRange_252
  rw [if_neg c11] at hf
  by_cases c17 : x3 = (99 : Int32)
  · rw [if_pos c17] at hf
    refine lv_tableIn (tgt := 253) (off := 247) hx hb dX10_isInRange_6 (by rw [c17] <;> decide) (by rw [c17] <;> decide) (by rw [c17] <;> decide) (by decide) ?_
    exact D253  σ hf _ _ hJ ls (lv_sub hl [] rfl)
  rw [if_neg c17] at hf
  by_cases c18 : x3 = (100 : Int32)
  · rw [if_pos c18] at hf
    refine lv_tableIn (tgt := 253) (off := 247) hx hb dX10_isInRange_6 (by rw [c18] <;> decide) (by rw [c18] <;> decide) (by rw [c18] <;> decide) (by decide) ?_
    exact D253  σ hf _ _ hJ ls (lv_sub hl [] rfl)
  rw [if_neg c18] at hf
  by_cases c19 : x3 = (101 : Int32)
  · rw [if_pos c19] at hf
    refine lv_tableIn (tgt := 253) (off := 247) hx hb dX10_isInRange_6 (by rw [c19] <;> decide) (by rw [c19] <;> decide) (by rw [c19] <;> decide) (by decide) ?_
    exact D253  σ hf _ _ hJ ls (lv_sub hl [] rfl)
  rw [if_neg c19] at hf
  by_cases c20 : x3 = (102 : Int32)
  · rw [if_pos c20] at hf
    refine lv_tableIn (tgt := 253) (off := 247) hx hb dX10_isInRange_6 (by rw [c20] <;> decide) (by rw [c20] <;> decide) (by rw [c20] <;> decide) (by decide) ?_
    exact D253  σ hf _ _ hJ ls (lv_sub hl [] rfl)
  rw [if_neg c20] at hf
  by_cases c21 : x3 = (103 : Int32)
  · rw [if_pos c21] at hf
    refine lv_tableIn (tgt := 253) (off := 247) hx hb dX10_isInRange_6 (by rw [c21] <;> decide) (by rw [c21] <;> decide) (by rw [c21] <;> decide) (by decide) ?_
    exact D253  σ hf _ _ hJ ls (lv_sub hl [] rfl)
  rw [if_neg c21] at hf
  by_cases c22 : x3 = (104 : Int32)
  · rw [if_pos c22] at hf
    refine lv_tableIn (tgt := 253) (off := 247) hx hb dX10_isInRange_6 (by rw [c22] <;> decide) (by rw [c22] <;> decide) (by rw [c22] <;> decide) (by decide) ?_
    exact D253  σ hf _ _ hJ ls (lv_sub hl [] rfl)
  rw [if_neg c22] at hf
  by_cases c23 : x3 = (105 : Int32)
  · rw [if_pos c23] at hf
    refine lv_tableIn (tgt := 176) (off := 170) hx hb dX10_isInRange_6 (by rw [c23] <;> decide) (by rw [c23] <;> decide) (by rw [c23] <;> decide) (by decide) ?_
    refine lv_aload_n hx hb dX10_isInRange_176 rfl (lv_at hl 0 rfl) ?_
    refine lv_iload_n hx hb dX10_isInRange_177 rfl (lv_at hl 1 rfl) ?_
    refine lv_iconst (v := 0) hx hb dX10_isInRange_178 (by decide) ?_
    refine lv_iconst (v := 3) hx hb dX10_isInRange_179 (by decide) ?_
    obtain ⟨i24, e25, hf⟩ := mb0 hf
    obtain ⟨x27, σ26, e28, hf⟩ := mc0 hf
    refine mx_callV (As := [.int p1, .int (0 : Int32), .int (3 : Int32)]) (rest := []) hx hb hml hts hown hK hJ rfl rfl (ci := 10) rfl e25 (c_X10_isWhole l G P a0 p1 (0 : Int32) (3 : Int32) σ x27 σ26 e28) me_X10_isWhole kw_1171 ks_34 kw_1169 (Nat.le_of_ble_eq_true rfl) (Nat.le_of_ble_eq_true rfl) rfl hl.1 rfl (Nat.le_of_ble_eq_true rfl) dX10_isInRange_180 (fun H locs hJ => ?_)
    exact mx_zret hx hb hr hlocks hJ hf dX10_isInRange_183
  rw [if_neg c23] at hf
  by_cases c29 : x3 = (106 : Int32)
  · rw [if_pos c29] at hf
    refine lv_tableIn (tgt := 253) (off := 247) hx hb dX10_isInRange_6 (by rw [c29] <;> decide) (by rw [c29] <;> decide) (by rw [c29] <;> decide) (by decide) ?_
    exact D253  σ hf _ _ hJ ls (lv_sub hl [] rfl)
  rw [if_neg c29] at hf
  by_cases c30 : x3 = (107 : Int32)
  · rw [if_pos c30] at hf
    refine lv_tableIn (tgt := 194) (off := 188) hx hb dX10_isInRange_6 (by rw [c30] <;> decide) (by rw [c30] <;> decide) (by rw [c30] <;> decide) (by decide) ?_
    refine lv_aload_n hx hb dX10_isInRange_194 rfl (lv_at hl 0 rfl) ?_
    refine lv_iload_n hx hb dX10_isInRange_195 rfl (lv_at hl 1 rfl) ?_
    refine lv_iconst (v := 0) hx hb dX10_isInRange_196 (by decide) ?_
    refine lv_sipush (v := 1023) hx hb dX10_isInRange_197 (by decide) ?_
    obtain ⟨i31, e32, hf⟩ := mb0 hf
    obtain ⟨x34, σ33, e35, hf⟩ := mc0 hf
    refine mx_callV (As := [.int p1, .int (0 : Int32), .int (1023 : Int32)]) (rest := []) hx hb hml hts hown hK hJ rfl rfl (ci := 10) rfl e32 (c_X10_isWhole l G P a0 p1 (0 : Int32) (1023 : Int32) σ x34 σ33 e35) me_X10_isWhole kw_1171 ks_34 kw_1169 (Nat.le_of_ble_eq_true rfl) (Nat.le_of_ble_eq_true rfl) rfl hl.1 rfl (Nat.le_of_ble_eq_true rfl) dX10_isInRange_200 (fun H locs hJ => ?_)
    exact mx_zret hx hb hr hlocks hJ hf dX10_isInRange_203
  rw [if_neg c30] at hf
  by_cases c36 : x3 = (108 : Int32)
  · rw [if_pos c36] at hf
    refine lv_tableIn (tgt := 214) (off := 208) hx hb dX10_isInRange_6 (by rw [c36] <;> decide) (by rw [c36] <;> decide) (by rw [c36] <;> decide) (by decide) ?_
    refine lv_aload_n hx hb dX10_isInRange_214 rfl (lv_at hl 0 rfl) ?_
    refine lv_iload_n hx hb dX10_isInRange_215 rfl (lv_at hl 1 rfl) ?_
    refine lv_iconst (v := 1) hx hb dX10_isInRange_216 (by decide) ?_
    refine lv_iconst (v := 4) hx hb dX10_isInRange_217 (by decide) ?_
    obtain ⟨i37, e38, hf⟩ := mb0 hf
    obtain ⟨x40, σ39, e41, hf⟩ := mc0 hf
    refine mx_callV (As := [.int p1, .int (1 : Int32), .int (4 : Int32)]) (rest := []) hx hb hml hts hown hK hJ rfl rfl (ci := 10) rfl e38 (c_X10_isWhole l G P a0 p1 (1 : Int32) (4 : Int32) σ x40 σ39 e41) me_X10_isWhole kw_1171 ks_34 kw_1169 (Nat.le_of_ble_eq_true rfl) (Nat.le_of_ble_eq_true rfl) rfl hl.1 rfl (Nat.le_of_ble_eq_true rfl) dX10_isInRange_218 (fun H locs hJ => ?_)
    exact mx_zret hx hb hr hlocks hJ hf dX10_isInRange_221
  rw [if_neg c36] at hf
  by_cases c42 : x3 = (109 : Int32)
  · rw [if_pos c42] at hf
    refine lv_tableIn (tgt := 253) (off := 247) hx hb dX10_isInRange_6 (by rw [c42] <;> decide) (by rw [c42] <;> decide) (by rw [c42] <;> decide) (by decide) ?_
    exact D253  σ hf _ _ hJ ls (lv_sub hl [] rfl)
  rw [if_neg c42] at hf
  by_cases c43 : x3 = (110 : Int32)
  · rw [if_pos c43] at hf
    refine lv_tableIn (tgt := 184) (off := 178) hx hb dX10_isInRange_6 (by rw [c43] <;> decide) (by rw [c43] <;> decide) (by rw [c43] <;> decide) (by decide) ?_
    refine lv_aload_n hx hb dX10_isInRange_184 rfl (lv_at hl 0 rfl) ?_
    refine lv_iload_n hx hb dX10_isInRange_185 rfl (lv_at hl 1 rfl) ?_
    refine lv_bipush (v := (-8)) hx hb dX10_isInRange_186 (by decide) ?_
    refine lv_bipush (v := 8) hx hb dX10_isInRange_188 (by decide) ?_
    obtain ⟨i44, e45, hf⟩ := mb0 hf
    obtain ⟨x47, σ46, e48, hf⟩ := mc0 hf
    refine mx_callV (As := [.int p1, .int (-8 : Int32), .int (8 : Int32)]) (rest := []) hx hb hml hts hown hK hJ rfl rfl (ci := 10) rfl e45 (c_X10_isWhole l G P a0 p1 (-8 : Int32) (8 : Int32) σ x47 σ46 e48) me_X10_isWhole kw_1171 ks_34 kw_1169 (Nat.le_of_ble_eq_true rfl) (Nat.le_of_ble_eq_true rfl) rfl hl.1 rfl (Nat.le_of_ble_eq_true rfl) dX10_isInRange_190 (fun H locs hJ => ?_)
    exact mx_zret hx hb hr hlocks hJ hf dX10_isInRange_193
  rw [if_neg c43] at hf
  by_cases c49 : x3 = (111 : Int32)
  · rw [if_pos c49] at hf
    refine lv_tableIn (tgt := 253) (off := 247) hx hb dX10_isInRange_6 (by rw [c49] <;> decide) (by rw [c49] <;> decide) (by rw [c49] <;> decide) (by decide) ?_
    exact D253  σ hf _ _ hJ ls (lv_sub hl [] rfl)
  rw [if_neg c49] at hf
  by_cases c50 : x3 = (112 : Int32)
  · rw [if_pos c50] at hf
    refine lv_tableIn (tgt := 253) (off := 247) hx hb dX10_isInRange_6 (by rw [c50] <;> decide) (by rw [c50] <;> decide) (by rw [c50] <;> decide) (by decide) ?_
    exact D253  σ hf _ _ hJ ls (lv_sub hl [] rfl)
  rw [if_neg c50] at hf
  by_cases c51 : x3 = (113 : Int32)
  · rw [if_pos c51] at hf
    refine lv_tableIn (tgt := 253) (off := 247) hx hb dX10_isInRange_6 (by rw [c51] <;> decide) (by rw [c51] <;> decide) (by rw [c51] <;> decide) (by decide) ?_
    exact D253  σ hf _ _ hJ ls (lv_sub hl [] rfl)
  rw [if_neg c51] at hf
  by_cases c52 : x3 = (114 : Int32)
  · rw [if_pos c52] at hf
    refine lv_tableIn (tgt := 143) (off := 137) hx hb dX10_isInRange_6 (by rw [c52] <;> decide) (by rw [c52] <;> decide) (by rw [c52] <;> decide) (by decide) ?_
    refine lv_aload_n hx hb dX10_isInRange_143 rfl (lv_at hl 0 rfl) ?_
    obtain ⟨b53, e54, hf⟩ := mb0 hf
    refine my_gR hx hb hts hown hK hJ fd_RX10_24 hv_10_16 e54 dX10_isInRange_144 ?_
    refine lv_iload_n hx hb dX10_isInRange_147 rfl (lv_at hl 1 rfl) ?_
    obtain ⟨x55, e56, hf⟩ := mb0 hf
    refine mx_aI hx hb hK hJ e56 dX10_isInRange_148 ?_
    refine lv_if_le (tgt := 174) hx hb dX10_isInRange_149 (by decide) (fun c57 => ?_) (fun c57 => ?_)
    · rw [if_pos c57] at hf
      exact D174  σ hf _ _ hJ ls (lv_sub hl [] rfl)
    · rw [if_neg c57] at hf
      refine lv_aload_n hx hb dX10_isInRange_152 rfl (lv_at hl 0 rfl) ?_
      obtain ⟨b58, e59, hf⟩ := mb0 hf
      refine my_gR hx hb hts hown hK hJ fd_RX10_24 hv_10_16 e59 dX10_isInRange_153 ?_
      refine lv_iload_n hx hb dX10_isInRange_156 rfl (lv_at hl 1 rfl) ?_
      obtain ⟨x60, e61, hf⟩ := mb0 hf
      refine mx_aI hx hb hK hJ e61 dX10_isInRange_157 ?_
      refine lv_bipush (v := 60) hx hb dX10_isInRange_158 (by decide) ?_
      refine lv_aload_n hx hb dX10_isInRange_160 rfl (lv_at hl 0 rfl) ?_
      obtain ⟨b62, e63, hf⟩ := mb0 hf
      refine my_gR hx hb hts hown hK hJ fd_RX10_27 hv_10_17 e63 dX10_isInRange_161 ?_
      refine lv_iload_n hx hb dX10_isInRange_164 rfl (lv_at hl 1 rfl) ?_
      obtain ⟨x64, e65, hf⟩ := mb0 hf
      refine mx_aI hx hb hK hJ e65 dX10_isInRange_165 ?_
      refine lv_imul hx hb dX10_isInRange_166 ?_
      refine lv_icmp_gt (tgt := 174) hx hb dX10_isInRange_167 (by decide) (fun c66 => ?_) (fun c66 => ?_)
      · rw [if_pos c66] at hf
        exact D174  σ hf _ _ hJ ls (lv_sub hl [] rfl)
      · rw [if_neg c66] at hf
        refine lv_iconst (v := 1) hx hb dX10_isInRange_170 (by decide) ?_
        refine lv_goto (tgt := 175) hx hb dX10_isInRange_171 (by decide) ?_
        exact D175 (1 : Int32) σ hf _ _ hJ ls (lv_sub hl [] rfl)
  rw [if_neg c52] at hf
  by_cases c67 : x3 = (115 : Int32)
  · rw [if_pos c67] at hf
    refine lv_tableIn (tgt := 253) (off := 247) hx hb dX10_isInRange_6 (by rw [c67] <;> decide) (by rw [c67] <;> decide) (by rw [c67] <;> decide) (by decide) ?_
    exact D253  σ hf _ _ hJ ls (lv_sub hl [] rfl)
  rw [if_neg c67] at hf
  by_cases c68 : x3 = (116 : Int32)
  · rw [if_pos c68] at hf
    refine lv_tableIn (tgt := 222) (off := 216) hx hb dX10_isInRange_6 (by rw [c68] <;> decide) (by rw [c68] <;> decide) (by rw [c68] <;> decide) (by decide) ?_
    refine lv_aload_n hx hb dX10_isInRange_222 rfl (lv_at hl 0 rfl) ?_
    refine lv_iload_n hx hb dX10_isInRange_223 rfl (lv_at hl 1 rfl) ?_
    refine lv_sipush (v := (-1023)) hx hb dX10_isInRange_224 (by decide) ?_
    refine lv_sipush (v := 1023) hx hb dX10_isInRange_227 (by decide) ?_
    obtain ⟨i69, e70, hf⟩ := mb0 hf
    obtain ⟨x72, σ71, e73, hf⟩ := mc0 hf
    refine mx_callV (As := [.int p1, .int (-1023 : Int32), .int (1023 : Int32)]) (rest := []) hx hb hml hts hown hK hJ rfl rfl (ci := 10) rfl e70 (c_X10_isWhole l G P a0 p1 (-1023 : Int32) (1023 : Int32) σ x72 σ71 e73) me_X10_isWhole kw_1171 ks_34 kw_1169 (Nat.le_of_ble_eq_true rfl) (Nat.le_of_ble_eq_true rfl) rfl hl.1 rfl (Nat.le_of_ble_eq_true rfl) dX10_isInRange_230 (fun H locs hJ => ?_)
    exact mx_zret hx hb hr hlocks hJ hf dX10_isInRange_233
  rw [if_neg c68] at hf
  by_cases c74 : x3 = (117 : Int32)
  · rw [if_pos c74] at hf
    refine lv_tableIn (tgt := 253) (off := 247) hx hb dX10_isInRange_6 (by rw [c74] <;> decide) (by rw [c74] <;> decide) (by rw [c74] <;> decide) (by decide) ?_
    exact D253  σ hf _ _ hJ ls (lv_sub hl [] rfl)
  rw [if_neg c74] at hf
  by_cases c75 : x3 = (118 : Int32)
  · rw [if_pos c75] at hf
    refine lv_tableIn (tgt := 253) (off := 247) hx hb dX10_isInRange_6 (by rw [c75] <;> decide) (by rw [c75] <;> decide) (by rw [c75] <;> decide) (by decide) ?_
    exact D253  σ hf _ _ hJ ls (lv_sub hl [] rfl)
  rw [if_neg c75] at hf
  by_cases c76 : x3 = (119 : Int32)
  · rw [if_pos c76] at hf
    refine lv_tableIn (tgt := 204) (off := 198) hx hb dX10_isInRange_6 (by rw [c76] <;> decide) (by rw [c76] <;> decide) (by rw [c76] <;> decide) (by decide) ?_
    refine lv_aload_n hx hb dX10_isInRange_204 rfl (lv_at hl 0 rfl) ?_
    refine lv_iload_n hx hb dX10_isInRange_205 rfl (lv_at hl 1 rfl) ?_
    refine lv_iconst (v := 1) hx hb dX10_isInRange_206 (by decide) ?_
    refine lv_sipush (v := 360) hx hb dX10_isInRange_207 (by decide) ?_
    obtain ⟨i77, e78, hf⟩ := mb0 hf
    obtain ⟨x80, σ79, e81, hf⟩ := mc0 hf
    refine mx_callV (As := [.int p1, .int (1 : Int32), .int (360 : Int32)]) (rest := []) hx hb hml hts hown hK hJ rfl rfl (ci := 10) rfl e78 (c_X10_isWhole l G P a0 p1 (1 : Int32) (360 : Int32) σ x80 σ79 e81) me_X10_isWhole kw_1171 ks_34 kw_1169 (Nat.le_of_ble_eq_true rfl) (Nat.le_of_ble_eq_true rfl) rfl hl.1 rfl (Nat.le_of_ble_eq_true rfl) dX10_isInRange_210 (fun H locs hJ => ?_)
    exact mx_zret hx hb hr hlocks hJ hf dX10_isInRange_213
  rw [if_neg c76] at hf
  by_cases c82 : x3 = (120 : Int32)
  · rw [if_pos c82] at hf
    refine lv_tableIn (tgt := 116) (off := 110) hx hb dX10_isInRange_6 (by rw [c82] <;> decide) (by rw [c82] <;> decide) (by rw [c82] <;> decide) (by decide) ?_
    refine lv_aload_n hx hb dX10_isInRange_116 rfl (lv_at hl 0 rfl) ?_
    obtain ⟨b83, e84, hf⟩ := mb0 hf
    refine my_gR hx hb hts hown hK hJ fd_RX10_24 hv_10_16 e84 dX10_isInRange_117 ?_
    refine lv_iload_n hx hb dX10_isInRange_120 rfl (lv_at hl 1 rfl) ?_
    obtain ⟨x85, e86, hf⟩ := mb0 hf
    refine mx_aI hx hb hK hJ e86 dX10_isInRange_121 ?_
    obtain ⟨x88, σ87, e89, hf⟩ := mc0 hf
    refine mx_callS (As := [.int x85]) (rest := []) hx hb hml hts hown hK hJ rfl rfl (c_J9_abs_0f7a4 l G P x85 σ x88 σ87 e89) me_J9_abs_0f7a4 kw_698 kw_1168 (Nat.le_of_ble_eq_true rfl) (Nat.le_of_ble_eq_true rfl) rfl hl.1 rfl (Nat.le_of_ble_eq_true rfl) dX10_isInRange_122 (fun H locs hJ => ?_)
    refine lv_bipush (v := 60) hx hb dX10_isInRange_125 (by decide) ?_
    refine lv_aload_n hx hb dX10_isInRange_127 rfl (lv_at hl 0 rfl) ?_
    obtain ⟨b90, e91, hf⟩ := mb0 hf
    refine my_gR hx hb hts hown hK hJ fd_RX10_27 hv_10_17 e91 dX10_isInRange_128 ?_
    refine lv_iload_n hx hb dX10_isInRange_131 rfl (lv_at hl 1 rfl) ?_
    obtain ⟨x92, e93, hf⟩ := mb0 hf
    refine mx_aI hx hb hK hJ e93 dX10_isInRange_132 ?_
    refine lv_imul hx hb dX10_isInRange_133 ?_
    refine lv_icmp_gt (tgt := 141) hx hb dX10_isInRange_134 (by decide) (fun c94 => ?_) (fun c94 => ?_)
    · rw [if_pos c94] at hf
      refine lv_iconst (v := 0) hx hb dX10_isInRange_141 (by decide) ?_
      exact D142 (0 : Int32) σ87 hf _ _ hJ ls (lv_sub hl [] rfl)
    · rw [if_neg c94] at hf
      refine lv_iconst (v := 1) hx hb dX10_isInRange_137 (by decide) ?_
      refine lv_goto (tgt := 142) hx hb dX10_isInRange_138 (by decide) ?_
      exact D142 (1 : Int32) σ87 hf _ _ hJ ls (lv_sub hl [] rfl)
  rw [if_neg c82] at hf
  refine lv_tableOut (tgt := 253) hx hb dX10_isInRange_6 (by have := lv_neT (a := (97)) c5 (by decide); have := lv_neT (a := (98)) c11 (by decide); have := lv_neT (a := (99)) c17 (by decide); have := lv_neT (a := (100)) c18 (by decide); have := lv_neT (a := (101)) c19 (by decide); have := lv_neT (a := (102)) c20 (by decide); have := lv_neT (a := (103)) c21 (by decide); have := lv_neT (a := (104)) c22 (by decide); have := lv_neT (a := (105)) c23 (by decide); have := lv_neT (a := (106)) c29 (by decide); have := lv_neT (a := (107)) c30 (by decide); have := lv_neT (a := (108)) c36 (by decide); have := lv_neT (a := (109)) c42 (by decide); have := lv_neT (a := (110)) c43 (by decide); have := lv_neT (a := (111)) c49 (by decide); have := lv_neT (a := (112)) c50 (by decide); have := lv_neT (a := (113)) c51 (by decide); have := lv_neT (a := (114)) c52 (by decide); have := lv_neT (a := (115)) c67 (by decide); have := lv_neT (a := (116)) c68 (by decide); have := lv_neT (a := (117)) c74 (by decide); have := lv_neT (a := (118)) c75 (by decide); have := lv_neT (a := (119)) c76 (by decide); have := lv_neT (a := (120)) c82 (by decide); omega) (by decide) ?_
  exact D253  σ hf _ _ hJ ls (lv_sub hl [] rfl)
set_option maxHeartbeats 4000000 in
set_option maxRecDepth 100000 in
theorem c_J9_abs_067f4 (l : Launch) (G : mx_G) (P : mx_P) (p0 : Int64) (σ : mx_S) (r : Int64) (σ' : mx_S) (hf : f_J9_abs_067f4 P p0 σ = some (r, σ')) : mxz σ ≤ mpc P → mxu σ ≤ mps P → mx_M l yJ9_abs_067f4 cJ9_abs_067f4 2 (some .long) 0 0 G P [.long p0] σ (some (.long r)) σ' := by
  intro hcap hcau
  refine mx_ofW (by decide +kernel) hcap hcau (Nat.le_of_ble_eq_true rfl) ?_
  intro p e s m below meth c hx hb hr hml hts hown hlocks hname hK hJ ls hl
  have hz0 := hJ.2.1
  have hown : s.vm.findClass RJ9 = some m.cls := hown
  have hl : lv_has ls 2 [(0, .long p0)] := hl
  have D12 : ∀ (w0 : Int64) (τ : mx_S), f_J9_abs_067f4_D12 P w0 τ = some (r, σ') → ∀ (H : Heap) (locs : List Loc), mx_J G P s.heap (mxz σ) (mxu σ) τ H locs → ∀ ls : Array Slot, lv_has ls 2 [] → W p l e (mx_rm P 0 0 σ) s m ([.long p0] : List Value).toArray below meth c H locs (mxz τ - mxz σ) (mxu τ - mxu σ) (mx_Z below G P (some (.long r)) σ σ' [.long p0] s) (F0 m 12 ls [.long w0]) := by
    intro w0 τ hf _ _ hJ ls hl
    unfold f_J9_abs_067f4_D12 at hf
    exact my_lret hx hb hr hlocks hJ hf dJ9_abs_067f4_12
  unfold f_J9_abs_067f4 at hf
  refine lv_lload_n hx hb dJ9_abs_067f4_0 rfl (lv_at hl 0 rfl) ?_
  refine lv_lconst (v := 0) hx hb dJ9_abs_067f4_1 (by decide) ?_
  refine W.lcmp hx hb dJ9_abs_067f4_2 ?_
  refine lv_if_ge (tgt := 11) hx hb dJ9_abs_067f4_3 (by decide) (fun c1 => ?_) (fun c1 => ?_)
  · rw [if_pos c1] at hf
    refine lv_lload_n hx hb dJ9_abs_067f4_11 rfl (lv_at hl 0 rfl) ?_
    exact D12 p0 σ hf _ _ hJ ls (lv_sub hl [] rfl)
  · rw [if_neg c1] at hf
    refine lv_lload_n hx hb dJ9_abs_067f4_6 rfl (lv_at hl 0 rfl) ?_
    refine lv_lneg hx hb dJ9_abs_067f4_7 ?_
    refine lv_goto (tgt := 12) hx hb dJ9_abs_067f4_8 (by decide) ?_
    exact D12 (-p0) σ hf _ _ hJ ls (lv_sub hl [] rfl)
set_option maxHeartbeats 4000000 in
set_option maxRecDepth 100000 in
theorem c_X3_gcd (l : Launch) (G : mx_G) (P : mx_P) (p0 : Int64) (p2 : Int64) (σ : mx_S) (r : Int64) (σ' : mx_S) (hf : f_X3_gcd P p0 p2 σ = some (r, σ')) : mxz σ ≤ mpc P → mxu σ ≤ mps P → mx_M l yX3_gcd cX3_gcd 11 (some .long) 1 21 G P [.long p0, .long p2] σ (some (.long r)) σ' := by
  intro hcap hcau
  refine mx_ofW (by decide +kernel) hcap hcau (Nat.le_of_ble_eq_true rfl) ?_
  intro p e s m below meth c hx hb hr hml hts hown hlocks hname hK hJ ls hl
  have hz0 := hJ.2.1
  have hown : s.vm.findClass RX3 = some m.cls := hown
  have hl : lv_has ls 11 [(0, .long p0), (2, .long p2)] := hl
  have B15 : ∀ (v4 : Int64) (v6 : Int64) (v8 : Int32) (τ : mx_S) (o : (Int64 × Int64 × Int32 × mx_S) ⊕ ((Int64 × mx_S))), f_X3_gcd_B15 P  v4 v6 v8 τ = some o → (∀ (y4 : Int64) (y6 : Int64) (y8 : Int32) (υ : mx_S), o = .inl (y4, y6, y8, υ) → ∀ (H : Heap) (locs : List Loc), mx_J G P s.heap (mxz σ) (mxu σ) υ H locs → ∀ ls : Array Slot, lv_has ls 11 [(4, .long y4), (6, .long y6), (8, .int y8)] → W p l e (mx_rm P 1 21 σ) s m ([.long p0, .long p2] : List Value).toArray below meth c H locs (mxz υ - mxz σ) (mxu υ - mxu σ) (mx_Z below G P (some (.long r)) σ σ' [.long p0, .long p2] s) (F0 m 15 ls [])) → (∀ (y4 : Int64) (υ : mx_S), o = .inr (y4, υ) → ∀ (H : Heap) (locs : List Loc), mx_J G P s.heap (mxz σ) (mxu σ) υ H locs → ∀ ls : Array Slot, lv_has ls 11 [(4, .long y4)] → W p l e (mx_rm P 1 21 σ) s m ([.long p0, .long p2] : List Value).toArray below meth c H locs (mxz υ - mxz σ) (mxu υ - mxu σ) (mx_Z below G P (some (.long r)) σ σ' [.long p0, .long p2] s) (F0 m 50 ls [])) → ∀ (H : Heap) (locs : List Loc), mx_J G P s.heap (mxz σ) (mxu σ) τ H locs → ∀ ls : Array Slot, lv_has ls 11 [(4, .long v4), (6, .long v6), (8, .int v8)] → W p l e (mx_rm P 1 21 σ) s m ([.long p0, .long p2] : List Value).toArray below meth c H locs (mxz τ - mxz σ) (mxu τ - mxu σ) (mx_Z below G P (some (.long r)) σ σ' [.long p0, .long p2] s) (F0 m 15 ls []) := by
    intro  v4 v6 v8 τ o hf Kb Ke0 H locs hJ ls hl
    unfold f_X3_gcd_B15 at hf
    refine lv_iload hx hb dX3_gcd_15 (lv_at hl 2 rfl) ?_
    refine lv_bipush (v := 100) hx hb dX3_gcd_17 (by decide) ?_
    refine lv_icmp_ge (tgt := 50) hx hb dX3_gcd_19 (by decide) (fun c7 => ?_) (fun c7 => ?_)
    · rw [if_pos c7] at hf
      exact Ke0 v4 τ (Option.some.inj hf).symm _ _ hJ ls (lv_sub hl [0] rfl)
    · rw [if_neg c7] at hf
      refine lv_lload hx hb dX3_gcd_22 (lv_at hl 1 rfl) ?_
      refine lv_lconst (v := 0) hx hb dX3_gcd_24 (by decide) ?_
      refine W.lcmp hx hb dX3_gcd_25 ?_
      refine lv_if_eq (tgt := 50) hx hb dX3_gcd_26 (by decide) (fun c8 => ?_) (fun c8 => ?_)
      · rw [if_pos c8] at hf
        exact Ke0 v4 τ (Option.some.inj hf).symm _ _ hJ ls (lv_sub hl [0] rfl)
      · rw [if_neg c8] at hf
        refine lv_lload hx hb dX3_gcd_29 (lv_at hl 0 rfl) ?_
        refine lv_lload hx hb dX3_gcd_31 (lv_at hl 1 rfl) ?_
        obtain ⟨x9, e10, hf⟩ := mb0 hf
        refine lv_lrem hx hb dX3_gcd_33 (mm_Ls e10).1 ?_
        refine mx_eL (mm_Ls e10).2 ?_
        refine lv_lstore (lv' := [(9, .long x9), (4, .long v4), (6, .long v6), (8, .int v8)]) hx hb dX3_gcd_34 hl (by decide) rfl (fun ls hl => ?_)
        refine lv_lload hx hb dX3_gcd_36 (lv_at hl 2 rfl) ?_
        refine lv_lstore (lv' := [(4, .long v6), (9, .long x9), (6, .long v6), (8, .int v8)]) hx hb dX3_gcd_38 hl (by decide) rfl (fun ls hl => ?_)
        refine lv_lload hx hb dX3_gcd_40 (lv_at hl 1 rfl) ?_
        refine lv_lstore (lv' := [(6, .long x9), (4, .long v6), (9, .long x9), (8, .int v8)]) hx hb dX3_gcd_42 hl (by decide) rfl (fun ls hl => ?_)
        obtain ⟨x11, e12, hf⟩ := mb0 hf
        refine lv_iinc (v := x11) (lv' := [(8, .int x11), (6, .long x9), (4, .long v6), (9, .long x9)]) hx hb dX3_gcd_44 hl (k := 3) rfl (by rw [← Option.some.inj e12]; rfl) (by decide) rfl (fun ls hl => ?_)
        refine lv_goto (tgt := 15) hx hb dX3_gcd_47 (by decide) ?_
        exact Kb v6 x9 x11 τ (Option.some.inj hf).symm _ _ hJ ls (lv_sub hl [2, 1, 0] rfl)
  have L15 : ∀  (n : Nat) (v4 : Int64) (v6 : Int64) (v8 : Int32) (τ : mx_S) (o : (Int64 × mx_S)), mx_lp (f_X3_gcd_L15 P ) n (v4, v6, v8, τ) = some o → (∀ (y4 : Int64) (υ : mx_S), o = (y4, υ) → ∀ (H : Heap) (locs : List Loc), mx_J G P s.heap (mxz σ) (mxu σ) υ H locs → ∀ ls : Array Slot, lv_has ls 11 [(4, .long y4)] → W p l e (mx_rm P 1 21 σ) s m ([.long p0, .long p2] : List Value).toArray below meth c H locs (mxz υ - mxz σ) (mxu υ - mxu σ) (mx_Z below G P (some (.long r)) σ σ' [.long p0, .long p2] s) (F0 m 50 ls [])) → ∀ (H : Heap) (locs : List Loc), mx_J G P s.heap (mxz σ) (mxu σ) τ H locs → ∀ ls : Array Slot, lv_has ls 11 [(4, .long v4), (6, .long v6), (8, .int v8)] → W p l e (mx_rm P 1 21 σ) s m ([.long p0, .long p2] : List Value).toArray below meth c H locs (mxz τ - mxz σ) (mxu τ - mxu σ) (mx_Z below G P (some (.long r)) σ σ' [.long p0, .long p2] s) (F0 m 15 ls []) := by
    intro  n
    induction n with
    | zero =>
      intro v4 v6 v8 τ o hf
      rw [mx_lp0] at hf
      cases hf
    | succ n ih =>
      intro v4 v6 v8 τ o hf Ke0 H locs hJ ls hl
      rw [mx_lpS] at hf
      obtain ⟨b, eb, hf⟩ := mb0 hf
      refine B15  v4 v6 v8 τ b eb (fun y4 y6 y8 υ ho H locs hJ ls hl => ?_) (fun y4 υ ho H locs hJ ls hl => ?_) H locs hJ ls hl
      · subst ho
        exact ih y4 y6 y8 υ o hf Ke0 H locs hJ ls hl
      · subst ho
        exact Ke0 y4 υ (Option.some.inj hf).symm _ _ hJ ls hl
  have D50 : ∀ (v4 : Int64) (τ : mx_S), f_X3_gcd_D50 P v4 τ = some (r, σ') → ∀ (H : Heap) (locs : List Loc), mx_J G P s.heap (mxz σ) (mxu σ) τ H locs → ∀ ls : Array Slot, lv_has ls 11 [(4, .long v4)] → W p l e (mx_rm P 1 21 σ) s m ([.long p0, .long p2] : List Value).toArray below meth c H locs (mxz τ - mxz σ) (mxu τ - mxu σ) (mx_Z below G P (some (.long r)) σ σ' [.long p0, .long p2] s) (F0 m 50 ls []) := by
    intro v4 τ hf _ _ hJ ls hl
    unfold f_X3_gcd_D50 at hf
    refine lv_lload hx hb dX3_gcd_50 (lv_at hl 0 rfl) ?_
    exact my_lret hx hb hr hlocks hJ hf dX3_gcd_52
  unfold f_X3_gcd at hf
  refine lv_lload_n hx hb dX3_gcd_0 rfl (lv_at hl 0 rfl) ?_
  obtain ⟨x2, σ1, e3, hf⟩ := mc0 hf
  refine mx_callS (As := [.long p0]) (rest := []) hx hb hml hts hown hK hJ rfl rfl (c_J9_abs_067f4 l G P p0 σ x2 σ1 e3) me_J9_abs_067f4 kw_854 kw_853 (Nat.le_of_ble_eq_true rfl) (Nat.le_of_ble_eq_true rfl) rfl hl.1 rfl (Nat.le_of_ble_eq_true rfl) dX3_gcd_1 (fun H locs hJ => ?_)
  refine lv_lstore (lv' := [(4, .long x2), (0, .long p0), (2, .long p2)]) hx hb dX3_gcd_4 hl (by decide) rfl (fun ls hl => ?_)
  refine lv_lload_n hx hb dX3_gcd_6 rfl (lv_at hl 2 rfl) ?_
  obtain ⟨x5, σ4, e6, hf⟩ := mc0 hf
  refine mx_callS (As := [.long p2]) (rest := []) hx hb hml hts hown hK hJ rfl rfl (c_J9_abs_067f4 l G P p2 σ1 x5 σ4 e6) me_J9_abs_067f4 kw_854 kw_853 (Nat.le_of_ble_eq_true rfl) (Nat.le_of_ble_eq_true rfl) rfl hl.1 rfl (Nat.le_of_ble_eq_true rfl) dX3_gcd_7 (fun H locs hJ => ?_)
  refine lv_lstore (lv' := [(6, .long x5), (4, .long x2), (0, .long p0), (2, .long p2)]) hx hb dX3_gcd_10 hl (by decide) rfl (fun ls hl => ?_)
  refine lv_iconst (v := 0) hx hb dX3_gcd_12 (by decide) ?_
  refine lv_istore (lv' := [(8, .int (0 : Int32)), (6, .long x5), (4, .long x2), (0, .long p0), (2, .long p2)]) hx hb dX3_gcd_13 hl (by decide) rfl (fun ls hl => ?_)
  obtain ⟨o13, e14, hf⟩ := mb0 hf
  refine L15  (mpN P) x2 x5 (0 : Int32) σ4 o13 e14 (fun y15 σ16 ho H locs hJ ls hl => ?_) _ _ hJ ls (lv_sub hl [2, 1, 0] rfl)
  · rw [ho] at hf
    have hf : (f_X3_gcd_D50 P y15 σ16) = some (r, σ') := hf
    exact D50 y15 σ16 hf _ _ hJ ls (lv_sub hl [0] rfl)
set_option maxHeartbeats 4000000 in
set_option maxRecDepth 100000 in
theorem c_X3_reduce (l : Launch) (G : mx_G) (P : mx_P) (a0 : Nat) (p1 : Int64) (p3 : Int64) (σ : mx_S) (σ' : mx_S) (hf : f_X3_reduce P a0 p1 p3 σ = some σ') : mxz σ ≤ mpc P → mxu σ ≤ mps P → mx_M l yX3_reduce cX3_reduce 7 none 2 51 G P [.ref a0, .long p1, .long p3] σ none σ' := by
  intro hcap hcau
  refine mx_ofW (by decide +kernel) hcap hcau (Nat.le_of_ble_eq_true rfl) ?_
  intro p e s m below meth c hx hb hr hml hts hown hlocks hname hK hJ ls hl
  have hz0 := hJ.2.1
  have hown : s.vm.findClass RX3 = some m.cls := hown
  have hl : lv_has ls 7 [(0, .ref a0), (1, .long p1), (3, .long p3)] := hl
  have D20 : ∀ (v0 : Nat) (τ : mx_S), f_X3_reduce_D20 P v0 τ = some σ' → ∀ (H : Heap) (locs : List Loc), mx_J G P s.heap (mxz σ) (mxu σ) τ H locs → ∀ ls : Array Slot, lv_has ls 7 [(0, .ref v0)] → W p l e (mx_rm P 2 51 σ) s m ([.ref a0, .long p1, .long p3] : List Value).toArray below meth c H locs (mxz τ - mxz σ) (mxu τ - mxu σ) (mx_Z below G P none σ σ' [.ref a0, .long p1, .long p3] s) (F0 m 20 ls []) := by
    intro v0 τ hf _ _ hJ ls hl
    unfold f_X3_reduce_D20 at hf
    refine lv_aload_n hx hb dX3_reduce_20 rfl (lv_at hl 0 rfl) ?_
    refine lv_lconst (v := 0) hx hb dX3_reduce_21 (by decide) ?_
    obtain ⟨σ5, e6, hf⟩ := mb0 hf
    refine my_pL hx hb hts hown hK hJ fd_RX3_7 cd_3 (Or.inl rfl) ht_3_0 e6 dX3_reduce_22 (fun H locs hJ => ?_)
    refine lv_aload_n hx hb dX3_reduce_25 rfl (lv_at hl 0 rfl) ?_
    refine lv_lconst (v := 1) hx hb dX3_reduce_26 (by decide) ?_
    obtain ⟨σ7, e8, hf⟩ := mb0 hf
    refine my_pL hx hb hts hown hK hJ fd_RX3_13 cd_3 (Or.inl rfl) ht_3_1 e8 dX3_reduce_27 (fun H locs hJ => ?_)
    refine lv_aload_n hx hb dX3_reduce_30 rfl (lv_at hl 0 rfl) ?_
    refine lv_iconst (v := 1) hx hb dX3_reduce_31 (by decide) ?_
    obtain ⟨σ9, e10, hf⟩ := mb0 hf
    refine my_pZ hx hb hts hown hK hJ fd_RX3_16 cd_3 (Or.inl rfl) ht_3_2 e10 dX3_reduce_32 (fun H locs hJ => ?_)
    exact my_vret hx hb hr hlocks hJ hf dX3_reduce_35
  have D55 : ∀ (v0 : Nat) (v3 : Int64) (v5 : Int64) (w0 : Int64) (w1 : Nat) (τ : mx_S), f_X3_reduce_D55 P v0 v3 v5 w0 w1 τ = some σ' → ∀ (H : Heap) (locs : List Loc), mx_J G P s.heap (mxz σ) (mxu σ) τ H locs → ∀ ls : Array Slot, lv_has ls 7 [(0, .ref v0), (3, .long v3), (5, .long v5)] → W p l e (mx_rm P 2 51 σ) s m ([.ref a0, .long p1, .long p3] : List Value).toArray below meth c H locs (mxz τ - mxz σ) (mxu τ - mxu σ) (mx_Z below G P none σ σ' [.ref a0, .long p1, .long p3] s) (F0 m 55 ls [.long w0, .ref w1]) := by
    intro v0 v3 v5 w0 w1 τ hf _ _ hJ ls hl
    unfold f_X3_reduce_D55 at hf
    obtain ⟨σ15, e16, hf⟩ := mb0 hf
    refine my_pL hx hb hts hown hK hJ fd_RX3_7 cd_3 (Or.inl rfl) ht_3_0 e16 dX3_reduce_55 (fun H locs hJ => ?_)
    refine lv_aload_n hx hb dX3_reduce_58 rfl (lv_at hl 0 rfl) ?_
    refine lv_lload_n hx hb dX3_reduce_59 rfl (lv_at hl 1 rfl) ?_
    obtain ⟨x18, σ17, e19, hf⟩ := mc0 hf
    refine mx_callS (As := [.long v3]) (rest := [.ref v0]) hx hb hml hts hown hK hJ rfl rfl (c_J9_abs_067f4 l G P v3 σ15 x18 σ17 e19) me_J9_abs_067f4 kw_854 kw_853 (Nat.le_of_ble_eq_true rfl) (Nat.le_of_ble_eq_true rfl) rfl hl.1 rfl (Nat.le_of_ble_eq_true rfl) dX3_reduce_60 (fun H locs hJ => ?_)
    refine lv_lload hx hb dX3_reduce_63 (lv_at hl 2 rfl) ?_
    obtain ⟨x20, e21, hf⟩ := mb0 hf
    refine lv_ldiv hx hb dX3_reduce_65 (md_Ls e21).1 ?_
    refine mx_eL (md_Ls e21).2 ?_
    obtain ⟨σ22, e23, hf⟩ := mb0 hf
    refine my_pL hx hb hts hown hK hJ fd_RX3_13 cd_3 (Or.inl rfl) ht_3_1 e23 dX3_reduce_66 (fun H locs hJ => ?_)
    exact my_vret hx hb hr hlocks hJ hf dX3_reduce_69
  unfold f_X3_reduce at hf
  refine lv_lload_n hx hb dX3_reduce_0 rfl (lv_at hl 1 rfl) ?_
  refine lv_lload_n hx hb dX3_reduce_1 rfl (lv_at hl 2 rfl) ?_
  obtain ⟨x2, σ1, e3, hf⟩ := mc0 hf
  refine mx_callS (As := [.long p1, .long p3]) (rest := []) hx hb hml hts hown hK hJ rfl rfl (c_X3_gcd l G P p1 p3 σ x2 σ1 e3) me_X3_gcd kw_851 kw_850 (Nat.le_of_ble_eq_true rfl) (Nat.le_of_ble_eq_true rfl) rfl hl.1 rfl (Nat.le_of_ble_eq_true rfl) dX3_reduce_2 (fun H locs hJ => ?_)
  refine lv_lstore (lv' := [(5, .long x2), (0, .ref a0), (1, .long p1), (3, .long p3)]) hx hb dX3_reduce_5 hl (by decide) rfl (fun ls hl => ?_)
  refine lv_lload_n hx hb dX3_reduce_7 rfl (lv_at hl 3 rfl) ?_
  refine lv_lconst (v := 0) hx hb dX3_reduce_8 (by decide) ?_
  refine W.lcmp hx hb dX3_reduce_9 ?_
  refine lv_if_eq (tgt := 20) hx hb dX3_reduce_10 (by decide) (fun c4 => ?_) (fun c4 => ?_)
  · rw [if_pos c4] at hf
    exact D20 a0 σ1 hf _ _ hJ ls (lv_sub hl [1] rfl)
  · rw [if_neg c4] at hf
    refine lv_lload hx hb dX3_reduce_13 (lv_at hl 0 rfl) ?_
    refine lv_lconst (v := 0) hx hb dX3_reduce_15 (by decide) ?_
    refine W.lcmp hx hb dX3_reduce_16 ?_
    refine lv_if_ne (tgt := 36) hx hb dX3_reduce_17 (by decide) (fun c11 => ?_) (fun c11 => ?_)
    · rw [if_neg c11] at hf
      refine lv_aload_n hx hb dX3_reduce_36 rfl (lv_at hl 1 rfl) ?_
      refine lv_lload_n hx hb dX3_reduce_37 rfl (lv_at hl 3 rfl) ?_
      refine lv_lconst (v := 0) hx hb dX3_reduce_38 (by decide) ?_
      refine W.lcmp hx hb dX3_reduce_39 ?_
      refine lv_if_ge (tgt := 51) hx hb dX3_reduce_40 (by decide) (fun c12 => ?_) (fun c12 => ?_)
      · rw [if_pos c12] at hf
        refine lv_lload_n hx hb dX3_reduce_51 rfl (lv_at hl 2 rfl) ?_
        refine lv_lload hx hb dX3_reduce_52 (lv_at hl 0 rfl) ?_
        obtain ⟨x13, e14, hf⟩ := mb0 hf
        refine lv_ldiv hx hb dX3_reduce_54 (md_Ls e14).1 ?_
        refine mx_eL (md_Ls e14).2 ?_
        exact D55 a0 p3 x2 x13 a0 σ1 hf _ _ hJ ls (lv_sub hl [1, 3, 0] rfl)
      · rw [if_neg c12] at hf
        refine lv_lload_n hx hb dX3_reduce_43 rfl (lv_at hl 2 rfl) ?_
        refine lv_lneg hx hb dX3_reduce_44 ?_
        refine lv_lload hx hb dX3_reduce_45 (lv_at hl 0 rfl) ?_
        obtain ⟨x24, e25, hf⟩ := mb0 hf
        refine lv_ldiv hx hb dX3_reduce_47 (md_Ls e25).1 ?_
        refine mx_eL (md_Ls e25).2 ?_
        refine lv_goto (tgt := 55) hx hb dX3_reduce_48 (by decide) ?_
        exact D55 a0 p3 x2 x24 a0 σ1 hf _ _ hJ ls (lv_sub hl [1, 3, 0] rfl)
    · rw [if_pos c11] at hf
      exact D20 a0 σ1 hf _ _ hJ ls (lv_sub hl [1] rfl)
set_option maxHeartbeats 4000000 in
set_option maxRecDepth 100000 in
theorem c_X3_set (l : Launch) (G : mx_G) (P : mx_P) (a0 : Nat) (p1 : Int64) (p3 : Int64) (σ : mx_S) (σ' : mx_S) (hf : f_X3_set P a0 p1 p3 σ = some σ') : mxz σ ≤ mpc P → mxu σ ≤ mps P → mx_M l yX3_set cX3_set 5 none 3 77 G P [.ref a0, .long p1, .long p3] σ none σ' := by
  intro hcap hcau
  refine mx_ofW (by decide +kernel) hcap hcau (Nat.le_of_ble_eq_true rfl) ?_
  intro p e s m below meth c hx hb hr hml hts hown hlocks hname hK hJ ls hl
  have hz0 := hJ.2.1
  have hown : s.vm.findClass RX3 = some m.cls := hown
  have hl : lv_has ls 5 [(0, .ref a0), (1, .long p1), (3, .long p3)] := hl
  unfold f_X3_set at hf
  refine lv_aload_n hx hb dX3_set_0 rfl (lv_at hl 0 rfl) ?_
  refine lv_iconst (v := 0) hx hb dX3_set_1 (by decide) ?_
  obtain ⟨σ1, e2, hf⟩ := mb0 hf
  refine my_pZ hx hb hts hown hK hJ fd_RX3_16 cd_3 (Or.inl rfl) ht_3_2 e2 dX3_set_2 (fun H locs hJ => ?_)
  refine lv_aload_n hx hb dX3_set_5 rfl (lv_at hl 0 rfl) ?_
  refine lv_lload_n hx hb dX3_set_6 rfl (lv_at hl 1 rfl) ?_
  refine lv_lload_n hx hb dX3_set_7 rfl (lv_at hl 2 rfl) ?_
  obtain ⟨i3, e4, hf⟩ := mb0 hf
  obtain ⟨σ5, e6, hf⟩ := mb0 hf
  refine mx_callV (As := [.long p1, .long p3]) (rest := []) hx hb hml hts hown hK hJ rfl rfl (ci := 3) rfl e4 (c_X3_reduce l G P a0 p1 p3 σ1 σ5 e6) me_X3_reduce kw_848 ks_12 kw_846 (Nat.le_of_ble_eq_true rfl) (Nat.le_of_ble_eq_true rfl) rfl hl.1 rfl (Nat.le_of_ble_eq_true rfl) dX3_set_8 (fun H locs hJ => ?_)
  exact my_vret hx hb hr hlocks hJ hf dX3_set_11
set_option maxHeartbeats 4000000 in
set_option maxRecDepth 100000 in
theorem c_X1_isTaken (l : Launch) (G : mx_G) (P : mx_P) (a0 : Nat) (a1 : Nat) (p2 : Int32) (σ : mx_S) (r : Int32) (σ' : mx_S) (hf : f_X1_isTaken P a0 a1 p2 σ = some (r, σ')) : mxz σ ≤ mpc P → mxu σ ≤ mps P → mx_M l yX1_isTaken cX1_isTaken 4 (some .boolean) 4 101 G P [.ref a0, .ref a1, .int p2] σ (some (.int r)) σ' := by
  intro hcap hcau
  refine mx_ofW (by decide +kernel) hcap hcau (Nat.le_of_ble_eq_true rfl) ?_
  intro p e s m below meth c hx hb hr hml hts hown hlocks hname hK hJ ls hl
  have hz0 := hJ.2.1
  have hown : s.vm.findClass RX1 = some m.cls := hown
  have hl : lv_has ls 4 [(0, .ref a0), (1, .ref a1), (2, .int p2)] := hl
  have B20 : ∀ (v0 : Nat) (v1 : Nat) (v2 : Int32) (v3 : Int32) (τ : mx_S) (o : (Int32 × mx_S) ⊕ ((Int32 × mx_S) ⊕ (mx_S))), f_X1_isTaken_B20 P v0 v1 v2 v3 τ = some o → (∀ (y3 : Int32) (υ : mx_S), o = .inl (y3, υ) → ∀ (H : Heap) (locs : List Loc), mx_J G P s.heap (mxz σ) (mxu σ) υ H locs → ∀ ls : Array Slot, lv_has ls 4 [(0, .ref v0), (1, .ref v1), (2, .int v2), (3, .int y3)] → W p l e (mx_rm P 4 101 σ) s m ([.ref a0, .ref a1, .int p2] : List Value).toArray below meth c H locs (mxz υ - mxz σ) (mxu υ - mxu σ) (mx_Z below G P (some (.int r)) σ σ' [.ref a0, .ref a1, .int p2] s) (F0 m 20 ls [])) → (∀ (y3 : Int32) (υ : mx_S), o = .inr (.inl (y3, υ)) → ∀ (H : Heap) (locs : List Loc), mx_J G P s.heap (mxz σ) (mxu σ) υ H locs → ∀ ls : Array Slot, lv_has ls 4 [(1, .ref v1), (3, .int y3)] → W p l e (mx_rm P 4 101 σ) s m ([.ref a0, .ref a1, .int p2] : List Value).toArray below meth c H locs (mxz υ - mxz σ) (mxu υ - mxu σ) (mx_Z below G P (some (.int r)) σ σ' [.ref a0, .ref a1, .int p2] s) (F0 m 36 ls [])) → (∀  (υ : mx_S), o = .inr (.inr υ) → ∀ (H : Heap) (locs : List Loc), mx_J G P s.heap (mxz σ) (mxu σ) υ H locs → ∀ ls : Array Slot, lv_has ls 4 [(0, .ref v0), (1, .ref v1), (2, .int v2)] → W p l e (mx_rm P 4 101 σ) s m ([.ref a0, .ref a1, .int p2] : List Value).toArray below meth c H locs (mxz υ - mxz σ) (mxu υ - mxu σ) (mx_Z below G P (some (.int r)) σ σ' [.ref a0, .ref a1, .int p2] s) (F0 m 55 ls [])) → ∀ (H : Heap) (locs : List Loc), mx_J G P s.heap (mxz σ) (mxu σ) τ H locs → ∀ ls : Array Slot, lv_has ls 4 [(0, .ref v0), (1, .ref v1), (2, .int v2), (3, .int v3)] → W p l e (mx_rm P 4 101 σ) s m ([.ref a0, .ref a1, .int p2] : List Value).toArray below meth c H locs (mxz τ - mxz σ) (mxu τ - mxu σ) (mx_Z below G P (some (.int r)) σ σ' [.ref a0, .ref a1, .int p2] s) (F0 m 20 ls []) := by
    intro v0 v1 v2 v3 τ o hf Kb Ke0 Ke1 H locs hJ ls hl
    unfold f_X1_isTaken_B20 at hf
    refine lv_iload_n hx hb dX1_isTaken_20 rfl (lv_at hl 3 rfl) ?_
    refine lv_aload_n hx hb dX1_isTaken_21 rfl (lv_at hl 1 rfl) ?_
    obtain ⟨x2, e3, hf⟩ := mb0 hf
    refine my_gI hx hb hts hown hK hJ fd_RX1_69 hv_10_12 e3 dX1_isTaken_22 ?_
    refine lv_icmp_ge (tgt := 55) hx hb dX1_isTaken_25 (by decide) (fun c4 => ?_) (fun c4 => ?_)
    · rw [if_pos c4] at hf
      exact Ke1 τ (Option.some.inj hf).symm _ _ hJ ls (lv_sub hl [0, 1, 2] rfl)
    · rw [if_neg c4] at hf
      refine lv_aload_n hx hb dX1_isTaken_28 rfl (lv_at hl 1 rfl) ?_
      refine lv_iload_n hx hb dX1_isTaken_29 rfl (lv_at hl 3 rfl) ?_
      obtain ⟨i5, e6, hf⟩ := mb0 hf
      obtain ⟨x8, σ7, e9, hf⟩ := mc0 hf
      refine mx_callV (As := [.int v3]) (rest := []) hx hb hml hts hown hK hJ rfl rfl (ci := 10) rfl e6 (c_X10_isInRange l G P v1 v3 τ x8 σ7 e9) me_X10_isInRange kw_1165 kw_1166 kw_1559 (Nat.le_of_ble_eq_true rfl) (Nat.le_of_ble_eq_true rfl) rfl hl.1 rfl (Nat.le_of_ble_eq_true rfl) dX1_isTaken_30 (fun H locs hJ => ?_)
      refine lv_if_ne (tgt := 49) hx hb dX1_isTaken_33 (by decide) (fun c10 => ?_) (fun c10 => ?_)
      · rw [if_neg c10] at hf
        obtain ⟨x11, e12, hf⟩ := mb0 hf
        refine lv_iinc (v := x11) (lv' := [(3, .int x11), (0, .ref v0), (1, .ref v1), (2, .int v2)]) hx hb dX1_isTaken_49 hl (k := 3) rfl (by rw [← Option.some.inj e12]; rfl) (by decide) rfl (fun ls hl => ?_)
        refine lv_goto (tgt := 20) hx hb dX1_isTaken_52 (by decide) ?_
        exact Kb x11 σ7 (Option.some.inj hf).symm _ _ hJ ls (lv_sub hl [1, 2, 3, 0] rfl)
      · rw [if_pos c10] at hf
        exact Ke0 v3 σ7 (Option.some.inj hf).symm _ _ hJ ls (lv_sub hl [1, 3] rfl)
  have L20 : ∀ (v0 : Nat) (v1 : Nat) (v2 : Int32) (n : Nat) (v3 : Int32) (τ : mx_S) (o : (Int32 × mx_S) ⊕ (mx_S)), mx_lp (f_X1_isTaken_L20 P v0 v1 v2) n (v3, τ) = some o → (∀ (y3 : Int32) (υ : mx_S), o = (.inl (y3, υ)) → ∀ (H : Heap) (locs : List Loc), mx_J G P s.heap (mxz σ) (mxu σ) υ H locs → ∀ ls : Array Slot, lv_has ls 4 [(1, .ref v1), (3, .int y3)] → W p l e (mx_rm P 4 101 σ) s m ([.ref a0, .ref a1, .int p2] : List Value).toArray below meth c H locs (mxz υ - mxz σ) (mxu υ - mxu σ) (mx_Z below G P (some (.int r)) σ σ' [.ref a0, .ref a1, .int p2] s) (F0 m 36 ls [])) → (∀  (υ : mx_S), o = (.inr υ) → ∀ (H : Heap) (locs : List Loc), mx_J G P s.heap (mxz σ) (mxu σ) υ H locs → ∀ ls : Array Slot, lv_has ls 4 [(0, .ref v0), (1, .ref v1), (2, .int v2)] → W p l e (mx_rm P 4 101 σ) s m ([.ref a0, .ref a1, .int p2] : List Value).toArray below meth c H locs (mxz υ - mxz σ) (mxu υ - mxu σ) (mx_Z below G P (some (.int r)) σ σ' [.ref a0, .ref a1, .int p2] s) (F0 m 55 ls [])) → ∀ (H : Heap) (locs : List Loc), mx_J G P s.heap (mxz σ) (mxu σ) τ H locs → ∀ ls : Array Slot, lv_has ls 4 [(0, .ref v0), (1, .ref v1), (2, .int v2), (3, .int v3)] → W p l e (mx_rm P 4 101 σ) s m ([.ref a0, .ref a1, .int p2] : List Value).toArray below meth c H locs (mxz τ - mxz σ) (mxu τ - mxu σ) (mx_Z below G P (some (.int r)) σ σ' [.ref a0, .ref a1, .int p2] s) (F0 m 20 ls []) := by
    intro v0 v1 v2 n
    induction n with
    | zero =>
      intro v3 τ o hf
      rw [mx_lp0] at hf
      cases hf
    | succ n ih =>
      intro v3 τ o hf Ke0 Ke1 H locs hJ ls hl
      rw [mx_lpS] at hf
      obtain ⟨b, eb, hf⟩ := mb0 hf
      refine B20 v0 v1 v2 v3 τ b eb (fun y3 υ ho H locs hJ ls hl => ?_) (fun y3 υ ho H locs hJ ls hl => ?_) (fun  υ ho H locs hJ ls hl => ?_) H locs hJ ls hl
      · subst ho
        exact ih y3 υ o hf Ke0 Ke1 H locs hJ ls hl
      · subst ho
        exact Ke0 y3 υ (Option.some.inj hf).symm _ _ hJ ls hl
      · subst ho
        exact Ke1  υ (Option.some.inj hf).symm _ _ hJ ls hl
  have D164 : ∀ (v0 : Nat) (v2 : Int32) (τ : mx_S), f_X1_isTaken_D164 P v0 v2 τ = some (r, σ') → ∀ (H : Heap) (locs : List Loc), mx_J G P s.heap (mxz σ) (mxu σ) τ H locs → ∀ ls : Array Slot, lv_has ls 4 [(0, .ref v0), (2, .int v2)] → W p l e (mx_rm P 4 101 σ) s m ([.ref a0, .ref a1, .int p2] : List Value).toArray below meth c H locs (mxz τ - mxz σ) (mxu τ - mxu σ) (mx_Z below G P (some (.int r)) σ σ' [.ref a0, .ref a1, .int p2] s) (F0 m 164 ls []) := by
    intro v0 v2 τ hf _ _ hJ ls hl
    unfold f_X1_isTaken_D164 at hf
    refine lv_aload_n hx hb dX1_isTaken_164 rfl (lv_at hl 0 rfl) ?_
    refine lv_iload_n hx hb dX1_isTaken_165 rfl (lv_at hl 1 rfl) ?_
    refine lv_iconst (v := 1) hx hb dX1_isTaken_166 (by decide) ?_
    refine lv_iadd hx hb dX1_isTaken_167 ?_
    obtain ⟨σ46, e47, hf⟩ := mb0 hf
    refine my_pI hx hb hts hown hK hJ fd_RX1_36 cd_1 (Or.inl rfl) ht_1_0 e47 dX1_isTaken_168 (fun H locs hJ => ?_)
    refine lv_iconst (v := 1) hx hb dX1_isTaken_171 (by decide) ?_
    exact mx_zret hx hb hr hlocks hJ hf dX1_isTaken_172
  have D105 : ∀ (v0 : Nat) (v1 : Nat) (v2 : Int32) (w0 : Int32) (w1 : Int32) (w2 : Nat) (τ : mx_S), f_X1_isTaken_D105 P v0 v1 v2 w0 w1 w2 τ = some (r, σ') → ∀ (H : Heap) (locs : List Loc), mx_J G P s.heap (mxz σ) (mxu σ) τ H locs → ∀ ls : Array Slot, lv_has ls 4 [(0, .ref v0), (1, .ref v1), (2, .int v2)] → W p l e (mx_rm P 4 101 σ) s m ([.ref a0, .ref a1, .int p2] : List Value).toArray below meth c H locs (mxz τ - mxz σ) (mxu τ - mxu σ) (mx_Z below G P (some (.int r)) σ σ' [.ref a0, .ref a1, .int p2] s) (F0 m 105 ls [.int w0, .int w1, .ref w2]) := by
    intro v0 v1 v2 w0 w1 w2 τ hf _ _ hJ ls hl
    unfold f_X1_isTaken_D105 at hf
    obtain ⟨σ53, e54, hf⟩ := mb0 hf
    refine mx_sI hx hb hK hJ e54 dX1_isTaken_105 (fun H locs hJ => ?_)
    refine lv_aload_n hx hb dX1_isTaken_106 rfl (lv_at hl 0 rfl) ?_
    obtain ⟨b55, e56, hf⟩ := mb0 hf
    refine my_gR hx hb hts hown hK hJ fd_RX1_16 hv_1_3 e56 dX1_isTaken_107 ?_
    refine lv_iload_n hx hb dX1_isTaken_110 rfl (lv_at hl 2 rfl) ?_
    refine lv_aload_n hx hb dX1_isTaken_111 rfl (lv_at hl 1 rfl) ?_
    refine lv_iconst (v := 2) hx hb dX1_isTaken_112 (by decide) ?_
    obtain ⟨i57, e58, hf⟩ := mb0 hf
    obtain ⟨x60, σ59, e61, hf⟩ := mc0 hf
    refine mx_callV (As := [.int (2 : Int32)]) (rest := [.int v2, .ref b55]) hx hb hml hts hown hK hJ rfl rfl (ci := 10) rfl e58 (c_X10_whole l G P v1 (2 : Int32) σ53 x60 σ59 e61) me_X10_whole kw_1174 kw_1175 kw_1560 (Nat.le_of_ble_eq_true rfl) (Nat.le_of_ble_eq_true rfl) rfl hl.1 rfl (Nat.le_of_ble_eq_true rfl) dX1_isTaken_113 (fun H locs hJ => ?_)
    obtain ⟨σ62, e63, hf⟩ := mb0 hf
    refine mx_sI hx hb hK hJ e63 dX1_isTaken_116 (fun H locs hJ => ?_)
    refine lv_aload_n hx hb dX1_isTaken_117 rfl (lv_at hl 0 rfl) ?_
    obtain ⟨b64, e65, hf⟩ := mb0 hf
    refine my_gR hx hb hts hown hK hJ fd_RX1_29 hv_1_6 e65 dX1_isTaken_118 ?_
    refine lv_aload_n hx hb dX1_isTaken_121 rfl (lv_at hl 1 rfl) ?_
    obtain ⟨b66, e67, hf⟩ := mb0 hf
    refine my_gR hx hb hts hown hK hJ fd_RX1_86 hv_10_16 e67 dX1_isTaken_122 ?_
    refine lv_iconst (v := 1) hx hb dX1_isTaken_125 (by decide) ?_
    obtain ⟨x68, e69, hf⟩ := mb0 hf
    refine mx_aI hx hb hK hJ e69 dX1_isTaken_126 ?_
    refine lv_i2l hx hb dX1_isTaken_127 rfl ?_
    refine lv_aload_n hx hb dX1_isTaken_128 rfl (lv_at hl 1 rfl) ?_
    obtain ⟨b70, e71, hf⟩ := mb0 hf
    refine my_gR hx hb hts hown hK hJ fd_RX1_88 hv_10_17 e71 dX1_isTaken_129 ?_
    refine lv_iconst (v := 1) hx hb dX1_isTaken_132 (by decide) ?_
    obtain ⟨x72, e73, hf⟩ := mb0 hf
    refine mx_aI hx hb hK hJ e73 dX1_isTaken_133 ?_
    refine lv_i2l hx hb dX1_isTaken_134 rfl ?_
    obtain ⟨i74, e75, hf⟩ := mb0 hf
    obtain ⟨σ76, e77, hf⟩ := mb0 hf
    refine mx_callV (As := [.long (x68.toInt64), .long (x72.toInt64)]) (rest := []) hx hb hml hts hown hK hJ rfl rfl (ci := 3) rfl e75 (c_X3_set l G P b64 (x68.toInt64) (x72.toInt64) σ62 σ76 e77) me_X3_set kw_843 kw_844 kw_1561 (Nat.le_of_ble_eq_true rfl) (Nat.le_of_ble_eq_true rfl) rfl hl.1 rfl (Nat.le_of_ble_eq_true rfl) dX1_isTaken_135 (fun H locs hJ => ?_)
    refine lv_aload_n hx hb dX1_isTaken_138 rfl (lv_at hl 0 rfl) ?_
    obtain ⟨b78, e79, hf⟩ := mb0 hf
    refine my_gR hx hb hts hown hK hJ fd_RX1_19 hv_1_4 e79 dX1_isTaken_139 ?_
    refine lv_iload_n hx hb dX1_isTaken_142 rfl (lv_at hl 2 rfl) ?_
    refine lv_aload_n hx hb dX1_isTaken_143 rfl (lv_at hl 0 rfl) ?_
    obtain ⟨b80, e81, hf⟩ := mb0 hf
    refine my_gR hx hb hts hown hK hJ fd_RX1_29 hv_1_6 e81 dX1_isTaken_144 ?_
    obtain ⟨x82, e83, hf⟩ := mb0 hf
    refine my_gL hx hb hts hown hK hJ fd_RX1_94 hv_3_0 e83 dX1_isTaken_147 ?_
    obtain ⟨σ84, e85, hf⟩ := mb0 hf
    refine mx_sL hx hb hK hJ e85 dX1_isTaken_150 (fun H locs hJ => ?_)
    refine lv_aload_n hx hb dX1_isTaken_151 rfl (lv_at hl 0 rfl) ?_
    obtain ⟨b86, e87, hf⟩ := mb0 hf
    refine my_gR hx hb hts hown hK hJ fd_RX1_23 hv_1_5 e87 dX1_isTaken_152 ?_
    refine lv_iload_n hx hb dX1_isTaken_155 rfl (lv_at hl 2 rfl) ?_
    refine lv_aload_n hx hb dX1_isTaken_156 rfl (lv_at hl 0 rfl) ?_
    obtain ⟨b88, e89, hf⟩ := mb0 hf
    refine my_gR hx hb hts hown hK hJ fd_RX1_29 hv_1_6 e89 dX1_isTaken_157 ?_
    obtain ⟨x90, e91, hf⟩ := mb0 hf
    refine my_gL hx hb hts hown hK hJ fd_RX1_98 hv_3_1 e91 dX1_isTaken_160 ?_
    obtain ⟨σ92, e93, hf⟩ := mb0 hf
    refine mx_sL hx hb hK hJ e93 dX1_isTaken_163 (fun H locs hJ => ?_)
    exact D164 v0 v2 σ92 hf _ _ hJ ls (lv_sub hl [0, 2] rfl)
  unfold f_X1_isTaken at hf
  refine lv_iload_n hx hb dX1_isTaken_0 rfl (lv_at hl 2 rfl) ?_
  refine lv_bipush (v := 30) hx hb dX1_isTaken_1 (by decide) ?_
  refine lv_icmp_lt (tgt := 18) hx hb dX1_isTaken_3 (by decide) (fun c1 => ?_) (fun c1 => ?_)
  · rw [if_pos c1] at hf
    refine lv_iconst (v := 0) hx hb dX1_isTaken_18 (by decide) ?_
    refine lv_istore_n (lv' := [(3, .int (0 : Int32)), (0, .ref a0), (1, .ref a1), (2, .int p2)]) hx hb dX1_isTaken_19 rfl hl (by decide) rfl (fun ls hl => ?_)
    obtain ⟨o13, e14, hf⟩ := mb0 hf
    refine L20 a0 a1 p2 (mpN P) (0 : Int32) σ o13 e14 (fun y15 σ16 ho H locs hJ ls hl => ?_) (fun σ25 ho H locs hJ ls hl => ?_) _ _ hJ ls (lv_sub hl [1, 2, 3, 0] rfl)
    · rw [ho] at hf
      have hf : ((mg_R σ16 a1 10 14).bind fun b17 => (ma_I σ16 b17 0 y15).bind fun x19 => (mx_is σ16 a1 10).bind fun i21 => (f_X10_note P a1 (5 : Int32) x19 σ16).bind fun σ23 => mr_Z (0 : Int32) σ23) = some (r, σ') := hf
      refine lv_aload_n hx hb dX1_isTaken_36 rfl (lv_at hl 0 rfl) ?_
      refine lv_iconst (v := 5) hx hb dX1_isTaken_37 (by decide) ?_
      refine lv_aload_n hx hb dX1_isTaken_38 rfl (lv_at hl 0 rfl) ?_
      obtain ⟨b17, e18, hf⟩ := mb0 hf
      refine my_gR hx hb hts hown hK hJ fd_RX1_76 hv_10_14 e18 dX1_isTaken_39 ?_
      refine lv_iload_n hx hb dX1_isTaken_42 rfl (lv_at hl 1 rfl) ?_
      obtain ⟨x19, e20, hf⟩ := mb0 hf
      refine mx_aI hx hb hK hJ e20 dX1_isTaken_43 ?_
      obtain ⟨i21, e22, hf⟩ := mb0 hf
      obtain ⟨σ23, e24, hf⟩ := mb0 hf
      refine mx_callV (As := [.int (5 : Int32), .int x19]) (rest := []) hx hb hml hts hown hK hJ rfl rfl (ci := 10) rfl e22 (c_X10_note l G P a1 (5 : Int32) x19 σ16 σ23 e24) me_X10_note kw_1139 kw_1140 kw_1558 (Nat.le_of_ble_eq_true rfl) (Nat.le_of_ble_eq_true rfl) rfl hl.1 rfl (Nat.le_of_ble_eq_true rfl) dX1_isTaken_44 (fun H locs hJ => ?_)
      refine lv_iconst (v := 0) hx hb dX1_isTaken_47 (by decide) ?_
      exact mx_zret hx hb hr hlocks hJ hf dX1_isTaken_48
    · rw [ho] at hf
      have hf : ((mg_R σ25 a0 1 1).bind fun b26 => (mx_is σ25 a1 10).bind fun i28 => mx_b2 (f_X10_whole P a1 (0 : Int32) σ25) fun x31 σ30 => (ms_I P σ30 b26 0 p2 x31).bind fun σ33 => (mg_R σ33 a0 1 2).bind fun b35 => (ms_I P σ33 b35 0 p2 (0 : Int32)).bind fun σ37 => (mg_R σ37 a0 1 3).bind fun b39 => (ms_I P σ37 b39 0 p2 (0 : Int32)).bind fun σ41 => (mg_I σ41 a1 10 10).bind fun x43 => (if x43 = 0 then f_X1_isTaken_D164 P a0 p2 σ41 else (mg_R σ41 a0 1 2).bind fun b48 => (mg_I σ41 a1 10 10).bind fun x50 => (if x50 = (1 : Int32) then f_X1_isTaken_D105 P a0 a1 p2 (1 : Int32) p2 b48 σ41 else f_X1_isTaken_D105 P a0 a1 p2 (-1 : Int32) p2 b48 σ41))) = some (r, σ') := hf
      refine lv_aload_n hx hb dX1_isTaken_55 rfl (lv_at hl 0 rfl) ?_
      obtain ⟨b26, e27, hf⟩ := mb0 hf
      refine my_gR hx hb hts hown hK hJ fd_RX1_9 hv_1_1 e27 dX1_isTaken_56 ?_
      refine lv_iload_n hx hb dX1_isTaken_59 rfl (lv_at hl 2 rfl) ?_
      refine lv_aload_n hx hb dX1_isTaken_60 rfl (lv_at hl 1 rfl) ?_
      refine lv_iconst (v := 0) hx hb dX1_isTaken_61 (by decide) ?_
      obtain ⟨i28, e29, hf⟩ := mb0 hf
      obtain ⟨x31, σ30, e32, hf⟩ := mc0 hf
      refine mx_callV (As := [.int (0 : Int32)]) (rest := [.int p2, .ref b26]) hx hb hml hts hown hK hJ rfl rfl (ci := 10) rfl e29 (c_X10_whole l G P a1 (0 : Int32) σ25 x31 σ30 e32) me_X10_whole kw_1174 kw_1175 kw_1560 (Nat.le_of_ble_eq_true rfl) (Nat.le_of_ble_eq_true rfl) rfl hl.1 rfl (Nat.le_of_ble_eq_true rfl) dX1_isTaken_62 (fun H locs hJ => ?_)
      obtain ⟨σ33, e34, hf⟩ := mb0 hf
      refine mx_sI hx hb hK hJ e34 dX1_isTaken_65 (fun H locs hJ => ?_)
      refine lv_aload_n hx hb dX1_isTaken_66 rfl (lv_at hl 0 rfl) ?_
      obtain ⟨b35, e36, hf⟩ := mb0 hf
      refine my_gR hx hb hts hown hK hJ fd_RX1_13 hv_1_2 e36 dX1_isTaken_67 ?_
      refine lv_iload_n hx hb dX1_isTaken_70 rfl (lv_at hl 2 rfl) ?_
      refine lv_iconst (v := 0) hx hb dX1_isTaken_71 (by decide) ?_
      obtain ⟨σ37, e38, hf⟩ := mb0 hf
      refine mx_sI hx hb hK hJ e38 dX1_isTaken_72 (fun H locs hJ => ?_)
      refine lv_aload_n hx hb dX1_isTaken_73 rfl (lv_at hl 0 rfl) ?_
      obtain ⟨b39, e40, hf⟩ := mb0 hf
      refine my_gR hx hb hts hown hK hJ fd_RX1_16 hv_1_3 e40 dX1_isTaken_74 ?_
      refine lv_iload_n hx hb dX1_isTaken_77 rfl (lv_at hl 2 rfl) ?_
      refine lv_iconst (v := 0) hx hb dX1_isTaken_78 (by decide) ?_
      obtain ⟨σ41, e42, hf⟩ := mb0 hf
      refine mx_sI hx hb hK hJ e42 dX1_isTaken_79 (fun H locs hJ => ?_)
      refine lv_aload_n hx hb dX1_isTaken_80 rfl (lv_at hl 1 rfl) ?_
      obtain ⟨x43, e44, hf⟩ := mb0 hf
      refine my_gI hx hb hts hown hK hJ fd_RX1_83 hv_10_10 e44 dX1_isTaken_81 ?_
      refine lv_if_eq (tgt := 164) hx hb dX1_isTaken_84 (by decide) (fun c45 => ?_) (fun c45 => ?_)
      · rw [if_pos c45] at hf
        exact D164 a0 p2 σ41 hf _ _ hJ ls (lv_sub hl [0, 2] rfl)
      · rw [if_neg c45] at hf
        refine lv_aload_n hx hb dX1_isTaken_87 rfl (lv_at hl 0 rfl) ?_
        obtain ⟨b48, e49, hf⟩ := mb0 hf
        refine my_gR hx hb hts hown hK hJ fd_RX1_13 hv_1_2 e49 dX1_isTaken_88 ?_
        refine lv_iload_n hx hb dX1_isTaken_91 rfl (lv_at hl 2 rfl) ?_
        refine lv_aload_n hx hb dX1_isTaken_92 rfl (lv_at hl 1 rfl) ?_
        obtain ⟨x50, e51, hf⟩ := mb0 hf
        refine my_gI hx hb hts hown hK hJ fd_RX1_83 hv_10_10 e51 dX1_isTaken_93 ?_
        refine lv_iconst (v := 1) hx hb dX1_isTaken_96 (by decide) ?_
        refine lv_icmp_ne (tgt := 104) hx hb dX1_isTaken_97 (by decide) (fun c52 => ?_) (fun c52 => ?_)
        · rw [if_neg c52] at hf
          refine lv_iconst (v := (-1)) hx hb dX1_isTaken_104 (by decide) ?_
          exact D105 a0 a1 p2 (-1 : Int32) p2 b48 σ41 hf _ _ hJ ls (lv_sub hl [0, 1, 2] rfl)
        · rw [if_pos c52] at hf
          refine lv_iconst (v := 1) hx hb dX1_isTaken_100 (by decide) ?_
          refine lv_goto (tgt := 105) hx hb dX1_isTaken_101 (by decide) ?_
          exact D105 a0 a1 p2 (1 : Int32) p2 b48 σ41 hf _ _ hJ ls (lv_sub hl [0, 1, 2] rfl)
  · rw [if_neg c1] at hf
    refine lv_aload_n hx hb dX1_isTaken_6 rfl (lv_at hl 1 rfl) ?_
    refine lv_bipush (v := 6) hx hb dX1_isTaken_7 (by decide) ?_
    refine lv_aload_n hx hb dX1_isTaken_9 rfl (lv_at hl 1 rfl) ?_
    obtain ⟨x94, e95, hf⟩ := mb0 hf
    refine my_gI hx hb hts hown hK hJ fd_RX1_62 hv_10_11 e95 dX1_isTaken_10 ?_
    obtain ⟨i96, e97, hf⟩ := mb0 hf
    obtain ⟨σ98, e99, hf⟩ := mb0 hf
    refine mx_callV (As := [.int (6 : Int32), .int x94]) (rest := []) hx hb hml hts hown hK hJ rfl rfl (ci := 10) rfl e97 (c_X10_note l G P a1 (6 : Int32) x94 σ σ98 e99) me_X10_note kw_1139 kw_1140 kw_1558 (Nat.le_of_ble_eq_true rfl) (Nat.le_of_ble_eq_true rfl) rfl hl.1 rfl (Nat.le_of_ble_eq_true rfl) dX1_isTaken_13 (fun H locs hJ => ?_)
    refine lv_iconst (v := 0) hx hb dX1_isTaken_16 (by decide) ?_
    exact mx_zret hx hb hr hlocks hJ hf dX1_isTaken_17
set_option maxHeartbeats 4000000 in
set_option maxRecDepth 100000 in
theorem c_X3_checked (l : Launch) (G : mx_G) (P : mx_P) (a0 : Nat) (p1 : Int64) (p3 : Int64) (σ : mx_S) (r : Int64) (σ' : mx_S) (hf : f_X3_checked P a0 p1 p3 σ = some (r, σ')) : mxz σ ≤ mpc P → mxu σ ≤ mps P → mx_M l yX3_checked cX3_checked 5 (some .long) 1 21 G P [.ref a0, .long p1, .long p3] σ (some (.long r)) σ' := by
  intro hcap hcau
  refine mx_ofW (by decide +kernel) hcap hcau (Nat.le_of_ble_eq_true rfl) ?_
  intro p e s m below meth c hx hb hr hml hts hown hlocks hname hK hJ ls hl
  have hz0 := hJ.2.1
  have hown : s.vm.findClass RX3 = some m.cls := hown
  have hl : lv_has ls 5 [(0, .ref a0), (1, .long p1), (3, .long p3)] := hl
  have D29 : ∀ (v1 : Int64) (v3 : Int64) (τ : mx_S), f_X3_checked_D29 P v1 v3 τ = some (r, σ') → ∀ (H : Heap) (locs : List Loc), mx_J G P s.heap (mxz σ) (mxu σ) τ H locs → ∀ ls : Array Slot, lv_has ls 5 [(1, .long v1), (3, .long v3)] → W p l e (mx_rm P 1 21 σ) s m ([.ref a0, .long p1, .long p3] : List Value).toArray below meth c H locs (mxz τ - mxz σ) (mxu τ - mxu σ) (mx_Z below G P (some (.long r)) σ σ' [.ref a0, .long p1, .long p3] s) (F0 m 29 ls []) := by
    intro v1 v3 τ hf _ _ hJ ls hl
    unfold f_X3_checked_D29 at hf
    refine lv_lload_n hx hb dX3_checked_29 rfl (lv_at hl 0 rfl) ?_
    refine lv_lload_n hx hb dX3_checked_30 rfl (lv_at hl 1 rfl) ?_
    refine lv_lmul hx hb dX3_checked_31 ?_
    exact my_lret hx hb hr hlocks hJ hf dX3_checked_32
  unfold f_X3_checked at hf
  refine lv_lload_n hx hb dX3_checked_0 rfl (lv_at hl 2 rfl) ?_
  refine lv_lconst (v := 0) hx hb dX3_checked_1 (by decide) ?_
  refine W.lcmp hx hb dX3_checked_2 ?_
  refine lv_if_eq (tgt := 29) hx hb dX3_checked_3 (by decide) (fun c1 => ?_) (fun c1 => ?_)
  · rw [if_pos c1] at hf
    exact D29 p1 p3 σ hf _ _ hJ ls (lv_sub hl [1, 2] rfl)
  · rw [if_neg c1] at hf
    refine lv_lload_n hx hb dX3_checked_6 rfl (lv_at hl 1 rfl) ?_
    obtain ⟨x3, σ2, e4, hf⟩ := mc0 hf
    refine mx_callS (As := [.long p1]) (rest := []) hx hb hml hts hown hK hJ rfl rfl (c_J9_abs_067f4 l G P p1 σ x3 σ2 e4) me_J9_abs_067f4 kw_854 kw_853 (Nat.le_of_ble_eq_true rfl) (Nat.le_of_ble_eq_true rfl) rfl hl.1 rfl (Nat.le_of_ble_eq_true rfl) dX3_checked_7 (fun H locs hJ => ?_)
    refine lv_ldc2 hx hb hown (hts _ kw_889) dX3_checked_10 ?_
    refine lv_lload_n hx hb dX3_checked_13 rfl (lv_at hl 2 rfl) ?_
    obtain ⟨x6, σ5, e7, hf⟩ := mc0 hf
    refine mx_callS (As := [.long p3]) (rest := [.long (1000000000000000 : Int64), .long x3]) hx hb hml hts hown hK hJ rfl rfl (c_J9_abs_067f4 l G P p3 σ2 x6 σ5 e7) me_J9_abs_067f4 kw_854 kw_853 (Nat.le_of_ble_eq_true rfl) (Nat.le_of_ble_eq_true rfl) rfl hl.1 rfl (Nat.le_of_ble_eq_true rfl) dX3_checked_14 (fun H locs hJ => ?_)
    obtain ⟨x8, e9, hf⟩ := mb0 hf
    refine lv_ldiv hx hb dX3_checked_17 (md_Ls e9).1 ?_
    refine mx_eL (md_Ls e9).2 ?_
    refine W.lcmp hx hb dX3_checked_18 ?_
    refine lv_if_le (tgt := 29) hx hb dX3_checked_19 (by decide) (fun c10 => ?_) (fun c10 => ?_)
    · rw [if_pos c10] at hf
      exact D29 p1 p3 σ5 hf _ _ hJ ls (lv_sub hl [1, 2] rfl)
    · rw [if_neg c10] at hf
      refine lv_aload_n hx hb dX3_checked_22 rfl (lv_at hl 0 rfl) ?_
      refine lv_iconst (v := 1) hx hb dX3_checked_23 (by decide) ?_
      obtain ⟨σ11, e12, hf⟩ := mb0 hf
      refine my_pZ hx hb hts hown hK hJ fd_RX3_16 cd_3 (Or.inl rfl) ht_3_2 e12 dX3_checked_24 (fun H locs hJ => ?_)
      refine lv_lconst (v := 0) hx hb dX3_checked_27 (by decide) ?_
      exact my_lret hx hb hr hlocks hJ hf dX3_checked_28
set_option maxHeartbeats 4000000 in
set_option maxRecDepth 100000 in
theorem c_X3_add (l : Launch) (G : mx_G) (P : mx_P) (a0 : Nat) (p1 : Int64) (p3 : Int64) (σ : mx_S) (σ' : mx_S) (hf : f_X3_add P a0 p1 p3 σ = some σ') : mxz σ ≤ mpc P → mxu σ ≤ mps P → mx_M l yX3_add cX3_add 13 none 3 77 G P [.ref a0, .long p1, .long p3] σ none σ' := by
  intro hcap hcau
  refine mx_ofW (by decide +kernel) hcap hcau (Nat.le_of_ble_eq_true rfl) ?_
  intro p e s m below meth c hx hb hr hml hts hown hlocks hname hK hJ ls hl
  have hz0 := hJ.2.1
  have hown : s.vm.findClass RX3 = some m.cls := hown
  have hl : lv_has ls 13 [(0, .ref a0), (1, .long p1), (3, .long p3)] := hl
  have D24 : ∀ (v0 : Nat) (τ : mx_S), f_X3_add_D24 P v0 τ = some σ' → ∀ (H : Heap) (locs : List Loc), mx_J G P s.heap (mxz σ) (mxu σ) τ H locs → ∀ ls : Array Slot, lv_has ls 13 [(0, .ref v0)] → W p l e (mx_rm P 3 77 σ) s m ([.ref a0, .long p1, .long p3] : List Value).toArray below meth c H locs (mxz τ - mxz σ) (mxu τ - mxu σ) (mx_Z below G P none σ σ' [.ref a0, .long p1, .long p3] s) (F0 m 24 ls []) := by
    intro v0 τ hf _ _ hJ ls hl
    unfold f_X3_add_D24 at hf
    refine lv_aload_n hx hb dX3_add_24 rfl (lv_at hl 0 rfl) ?_
    refine lv_iconst (v := 1) hx hb dX3_add_25 (by decide) ?_
    obtain ⟨σ9, e10, hf⟩ := mb0 hf
    refine my_pZ hx hb hts hown hK hJ fd_RX3_16 cd_3 (Or.inl rfl) ht_3_2 e10 dX3_add_26 (fun H locs hJ => ?_)
    exact my_vret hx hb hr hlocks hJ hf dX3_add_29
  have D110 : ∀  (τ : mx_S), f_X3_add_D110 P  τ = some σ' → ∀ (H : Heap) (locs : List Loc), mx_J G P s.heap (mxz σ) (mxu σ) τ H locs → ∀ ls : Array Slot, lv_has ls 13 [] → W p l e (mx_rm P 3 77 σ) s m ([.ref a0, .long p1, .long p3] : List Value).toArray below meth c H locs (mxz τ - mxz σ) (mxu τ - mxu σ) (mx_Z below G P none σ σ' [.ref a0, .long p1, .long p3] s) (F0 m 110 ls []) := by
    intro  τ hf _ _ hJ ls hl
    unfold f_X3_add_D110 at hf
    exact my_vret hx hb hr hlocks hJ hf dX3_add_110
  have D92 : ∀ (v0 : Nat) (v7 : Int64) (v9 : Int64) (v11 : Int64) (τ : mx_S), f_X3_add_D92 P v0 v7 v9 v11 τ = some σ' → ∀ (H : Heap) (locs : List Loc), mx_J G P s.heap (mxz σ) (mxu σ) τ H locs → ∀ ls : Array Slot, lv_has ls 13 [(0, .ref v0), (7, .long v7), (9, .long v9), (11, .long v11)] → W p l e (mx_rm P 3 77 σ) s m ([.ref a0, .long p1, .long p3] : List Value).toArray below meth c H locs (mxz τ - mxz σ) (mxu τ - mxu σ) (mx_Z below G P none σ σ' [.ref a0, .long p1, .long p3] s) (F0 m 92 ls []) := by
    intro v0 v7 v9 v11 τ hf _ _ hJ ls hl
    unfold f_X3_add_D92 at hf
    refine lv_aload_n hx hb dX3_add_92 rfl (lv_at hl 0 rfl) ?_
    obtain ⟨x43, e44, hf⟩ := mb0 hf
    refine my_gI hx hb hts hown hK hJ fd_RX3_16 hv_3_2 e44 dX3_add_93 ?_
    refine lv_if_ne (tgt := 110) hx hb dX3_add_96 (by decide) (fun c45 => ?_) (fun c45 => ?_)
    · rw [if_neg c45] at hf
      exact D110  τ hf _ _ hJ ls (lv_sub hl [] rfl)
    · rw [if_pos c45] at hf
      refine lv_aload_n hx hb dX3_add_99 rfl (lv_at hl 0 rfl) ?_
      refine lv_lload hx hb dX3_add_100 (lv_at hl 1 rfl) ?_
      refine lv_lload hx hb dX3_add_102 (lv_at hl 2 rfl) ?_
      refine lv_ladd hx hb dX3_add_104 ?_
      refine lv_lload hx hb dX3_add_105 (lv_at hl 3 rfl) ?_
      obtain ⟨i46, e47, hf⟩ := mb0 hf
      obtain ⟨σ48, e49, hf⟩ := mb0 hf
      refine mx_callV (As := [.long (v7 + v9), .long v11]) (rest := []) hx hb hml hts hown hK hJ rfl rfl (ci := 3) rfl e47 (c_X3_reduce l G P v0 (v7 + v9) v11 τ σ48 e49) me_X3_reduce kw_848 ks_12 kw_846 (Nat.le_of_ble_eq_true rfl) (Nat.le_of_ble_eq_true rfl) rfl hl.1 rfl (Nat.le_of_ble_eq_true rfl) dX3_add_107 (fun H locs hJ => ?_)
      exact D110  σ48 hf _ _ hJ ls (lv_sub hl [] rfl)
  unfold f_X3_add at hf
  refine lv_aload_n hx hb dX3_add_0 rfl (lv_at hl 0 rfl) ?_
  obtain ⟨x1, e2, hf⟩ := mb0 hf
  refine my_gL hx hb hts hown hK hJ fd_RX3_13 hv_3_1 e2 dX3_add_1 ?_
  refine lv_lload_n hx hb dX3_add_4 rfl (lv_at hl 2 rfl) ?_
  obtain ⟨x4, σ3, e5, hf⟩ := mc0 hf
  refine mx_callS (As := [.long x1, .long p3]) (rest := []) hx hb hml hts hown hK hJ rfl rfl (c_X3_gcd l G P x1 p3 σ x4 σ3 e5) me_X3_gcd kw_851 kw_850 (Nat.le_of_ble_eq_true rfl) (Nat.le_of_ble_eq_true rfl) rfl hl.1 rfl (Nat.le_of_ble_eq_true rfl) dX3_add_5 (fun H locs hJ => ?_)
  refine lv_lstore (lv' := [(5, .long x4), (0, .ref a0), (1, .long p1), (3, .long p3)]) hx hb dX3_add_8 hl (by decide) rfl (fun ls hl => ?_)
  refine lv_aload_n hx hb dX3_add_10 rfl (lv_at hl 1 rfl) ?_
  obtain ⟨x6, e7, hf⟩ := mb0 hf
  refine my_gI hx hb hts hown hK hJ fd_RX3_16 hv_3_2 e7 dX3_add_11 ?_
  refine lv_if_ne (tgt := 24) hx hb dX3_add_14 (by decide) (fun c8 => ?_) (fun c8 => ?_)
  · rw [if_neg c8] at hf
    exact D24 a0 σ3 hf _ _ hJ ls (lv_sub hl [1] rfl)
  · rw [if_pos c8] at hf
    refine lv_lload hx hb dX3_add_17 (lv_at hl 0 rfl) ?_
    refine lv_lconst (v := 0) hx hb dX3_add_19 (by decide) ?_
    refine W.lcmp hx hb dX3_add_20 ?_
    refine lv_if_ne (tgt := 30) hx hb dX3_add_21 (by decide) (fun c11 => ?_) (fun c11 => ?_)
    · rw [if_neg c11] at hf
      refine lv_aload_n hx hb dX3_add_30 rfl (lv_at hl 1 rfl) ?_
      refine lv_aload_n hx hb dX3_add_31 rfl (lv_at hl 1 rfl) ?_
      obtain ⟨x12, e13, hf⟩ := mb0 hf
      refine my_gL hx hb hts hown hK hJ fd_RX3_7 hv_3_0 e13 dX3_add_32 ?_
      refine lv_lload_n hx hb dX3_add_35 rfl (lv_at hl 3 rfl) ?_
      refine lv_lload hx hb dX3_add_36 (lv_at hl 0 rfl) ?_
      obtain ⟨x14, e15, hf⟩ := mb0 hf
      refine lv_ldiv hx hb dX3_add_38 (md_Ls e15).1 ?_
      refine mx_eL (md_Ls e15).2 ?_
      obtain ⟨i16, e17, hf⟩ := mb0 hf
      obtain ⟨x19, σ18, e20, hf⟩ := mc0 hf
      refine mx_callV (As := [.long x12, .long x14]) (rest := []) hx hb hml hts hown hK hJ rfl rfl (ci := 3) rfl e17 (c_X3_checked l G P a0 x12 x14 σ3 x19 σ18 e20) me_X3_checked kw_887 ks_19 kw_885 (Nat.le_of_ble_eq_true rfl) (Nat.le_of_ble_eq_true rfl) rfl hl.1 rfl (Nat.le_of_ble_eq_true rfl) dX3_add_39 (fun H locs hJ => ?_)
      refine lv_lstore (lv' := [(7, .long x19), (5, .long x4), (0, .ref a0), (1, .long p1), (3, .long p3)]) hx hb dX3_add_42 hl (by decide) rfl (fun ls hl => ?_)
      refine lv_aload_n hx hb dX3_add_44 rfl (lv_at hl 2 rfl) ?_
      refine lv_lload_n hx hb dX3_add_45 rfl (lv_at hl 3 rfl) ?_
      refine lv_aload_n hx hb dX3_add_46 rfl (lv_at hl 2 rfl) ?_
      obtain ⟨x21, e22, hf⟩ := mb0 hf
      refine my_gL hx hb hts hown hK hJ fd_RX3_13 hv_3_1 e22 dX3_add_47 ?_
      refine lv_lload hx hb dX3_add_50 (lv_at hl 1 rfl) ?_
      obtain ⟨x23, e24, hf⟩ := mb0 hf
      refine lv_ldiv hx hb dX3_add_52 (md_Ls e24).1 ?_
      refine mx_eL (md_Ls e24).2 ?_
      obtain ⟨i25, e26, hf⟩ := mb0 hf
      obtain ⟨x28, σ27, e29, hf⟩ := mc0 hf
      refine mx_callV (As := [.long p1, .long x23]) (rest := []) hx hb hml hts hown hK hJ rfl rfl (ci := 3) rfl e26 (c_X3_checked l G P a0 p1 x23 σ18 x28 σ27 e29) me_X3_checked kw_887 ks_19 kw_885 (Nat.le_of_ble_eq_true rfl) (Nat.le_of_ble_eq_true rfl) rfl hl.1 rfl (Nat.le_of_ble_eq_true rfl) dX3_add_53 (fun H locs hJ => ?_)
      refine lv_lstore (lv' := [(9, .long x28), (7, .long x19), (5, .long x4), (0, .ref a0), (1, .long p1), (3, .long p3)]) hx hb dX3_add_56 hl (by decide) rfl (fun ls hl => ?_)
      refine lv_aload_n hx hb dX3_add_58 rfl (lv_at hl 3 rfl) ?_
      refine lv_aload_n hx hb dX3_add_59 rfl (lv_at hl 3 rfl) ?_
      obtain ⟨x30, e31, hf⟩ := mb0 hf
      refine my_gL hx hb hts hown hK hJ fd_RX3_13 hv_3_1 e31 dX3_add_60 ?_
      refine lv_lload_n hx hb dX3_add_63 rfl (lv_at hl 5 rfl) ?_
      refine lv_lload hx hb dX3_add_64 (lv_at hl 2 rfl) ?_
      obtain ⟨x32, e33, hf⟩ := mb0 hf
      refine lv_ldiv hx hb dX3_add_66 (md_Ls e33).1 ?_
      refine mx_eL (md_Ls e33).2 ?_
      obtain ⟨i34, e35, hf⟩ := mb0 hf
      obtain ⟨x37, σ36, e38, hf⟩ := mc0 hf
      refine mx_callV (As := [.long x30, .long x32]) (rest := []) hx hb hml hts hown hK hJ rfl rfl (ci := 3) rfl e35 (c_X3_checked l G P a0 x30 x32 σ27 x37 σ36 e38) me_X3_checked kw_887 ks_19 kw_885 (Nat.le_of_ble_eq_true rfl) (Nat.le_of_ble_eq_true rfl) rfl hl.1 rfl (Nat.le_of_ble_eq_true rfl) dX3_add_67 (fun H locs hJ => ?_)
      refine lv_lstore (lv' := [(11, .long x37), (9, .long x28), (7, .long x19), (5, .long x4), (0, .ref a0), (1, .long p1), (3, .long p3)]) hx hb dX3_add_70 hl (by decide) rfl (fun ls hl => ?_)
      refine lv_lload hx hb dX3_add_72 (lv_at hl 2 rfl) ?_
      refine lv_lload hx hb dX3_add_74 (lv_at hl 1 rfl) ?_
      refine lv_ladd hx hb dX3_add_76 ?_
      obtain ⟨x40, σ39, e41, hf⟩ := mc0 hf
      refine mx_callS (As := [.long (x19 + x28)]) (rest := []) hx hb hml hts hown hK hJ rfl rfl (c_J9_abs_067f4 l G P (x19 + x28) σ36 x40 σ39 e41) me_J9_abs_067f4 kw_854 kw_853 (Nat.le_of_ble_eq_true rfl) (Nat.le_of_ble_eq_true rfl) rfl hl.1 rfl (Nat.le_of_ble_eq_true rfl) dX3_add_77 (fun H locs hJ => ?_)
      refine lv_ldc2 hx hb hown (hts _ kw_889) dX3_add_80 ?_
      refine W.lcmp hx hb dX3_add_83 ?_
      refine lv_if_le (tgt := 92) hx hb dX3_add_84 (by decide) (fun c42 => ?_) (fun c42 => ?_)
      · rw [if_pos c42] at hf
        exact D92 a0 x19 x28 x37 σ39 hf _ _ hJ ls (lv_sub hl [4, 2, 1, 0] rfl)
      · rw [if_neg c42] at hf
        refine lv_aload_n hx hb dX3_add_87 rfl (lv_at hl 4 rfl) ?_
        refine lv_iconst (v := 1) hx hb dX3_add_88 (by decide) ?_
        obtain ⟨σ50, e51, hf⟩ := mb0 hf
        refine my_pZ hx hb hts hown hK hJ fd_RX3_16 cd_3 (Or.inl rfl) ht_3_2 e51 dX3_add_89 (fun H locs hJ => ?_)
        exact D92 a0 x19 x28 x37 σ50 hf _ _ hJ ls (lv_sub hl [4, 2, 1, 0] rfl)
    · rw [if_pos c11] at hf
      exact D24 a0 σ3 hf _ _ hJ ls (lv_sub hl [1] rfl)
set_option maxHeartbeats 4000000 in
set_option maxRecDepth 100000 in
theorem c_X1_addWhole (l : Launch) (G : mx_G) (P : mx_P) (a0 : Nat) (p1 : Int32) (a2 : Nat) (σ : mx_S) (σ' : mx_S) (hf : f_X1_addWhole P a0 p1 a2 σ = some σ') : mxz σ ≤ mpc P → mxu σ ≤ mps P → mx_M l yX1_addWhole cX1_addWhole 3 none 4 109 G P [.ref a0, .int p1, .ref a2] σ none σ' := by
  intro hcap hcau
  refine mx_ofW (by decide +kernel) hcap hcau (Nat.le_of_ble_eq_true rfl) ?_
  intro p e s m below meth c hx hb hr hml hts hown hlocks hname hK hJ ls hl
  have hz0 := hJ.2.1
  have hown : s.vm.findClass RX1 = some m.cls := hown
  have hl : lv_has ls 3 [(0, .ref a0), (1, .int p1), (2, .ref a2)] := hl
  have D33 : ∀  (τ : mx_S), f_X1_addWhole_D33 P  τ = some σ' → ∀ (H : Heap) (locs : List Loc), mx_J G P s.heap (mxz σ) (mxu σ) τ H locs → ∀ ls : Array Slot, lv_has ls 3 [] → W p l e (mx_rm P 4 109 σ) s m ([.ref a0, .int p1, .ref a2] : List Value).toArray below meth c H locs (mxz τ - mxz σ) (mxu τ - mxu σ) (mx_Z below G P none σ σ' [.ref a0, .int p1, .ref a2] s) (F0 m 33 ls []) := by
    intro  τ hf _ _ hJ ls hl
    unfold f_X1_addWhole_D33 at hf
    exact my_vret hx hb hr hlocks hJ hf dX1_addWhole_33
  unfold f_X1_addWhole at hf
  refine lv_aload_n hx hb dX1_addWhole_0 rfl (lv_at hl 0 rfl) ?_
  obtain ⟨b1, e2, hf⟩ := mb0 hf
  refine my_gR hx hb hts hown hK hJ fd_RX1_13 hv_1_2 e2 dX1_addWhole_1 ?_
  refine lv_iload_n hx hb dX1_addWhole_4 rfl (lv_at hl 1 rfl) ?_
  obtain ⟨x3, e4, hf⟩ := mb0 hf
  refine mx_aI hx hb hK hJ e4 dX1_addWhole_5 ?_
  refine lv_if_eq (tgt := 33) hx hb dX1_addWhole_6 (by decide) (fun c5 => ?_) (fun c5 => ?_)
  · rw [if_pos c5] at hf
    exact D33  σ hf _ _ hJ ls (lv_sub hl [] rfl)
  · rw [if_neg c5] at hf
    refine lv_aload_n hx hb dX1_addWhole_9 rfl (lv_at hl 2 rfl) ?_
    refine lv_aload_n hx hb dX1_addWhole_10 rfl (lv_at hl 0 rfl) ?_
    obtain ⟨b6, e7, hf⟩ := mb0 hf
    refine my_gR hx hb hts hown hK hJ fd_RX1_13 hv_1_2 e7 dX1_addWhole_11 ?_
    refine lv_iload_n hx hb dX1_addWhole_14 rfl (lv_at hl 1 rfl) ?_
    obtain ⟨x8, e9, hf⟩ := mb0 hf
    refine mx_aI hx hb hK hJ e9 dX1_addWhole_15 ?_
    refine lv_i2l hx hb dX1_addWhole_16 rfl ?_
    refine lv_aload_n hx hb dX1_addWhole_17 rfl (lv_at hl 0 rfl) ?_
    obtain ⟨b10, e11, hf⟩ := mb0 hf
    refine my_gR hx hb hts hown hK hJ fd_RX1_19 hv_1_4 e11 dX1_addWhole_18 ?_
    refine lv_iload_n hx hb dX1_addWhole_21 rfl (lv_at hl 1 rfl) ?_
    obtain ⟨x12, e13, hf⟩ := mb0 hf
    refine mx_aL hx hb hK hJ e13 dX1_addWhole_22 ?_
    refine lv_lmul hx hb dX1_addWhole_23 ?_
    refine lv_aload_n hx hb dX1_addWhole_24 rfl (lv_at hl 0 rfl) ?_
    obtain ⟨b14, e15, hf⟩ := mb0 hf
    refine my_gR hx hb hts hown hK hJ fd_RX1_23 hv_1_5 e15 dX1_addWhole_25 ?_
    refine lv_iload_n hx hb dX1_addWhole_28 rfl (lv_at hl 1 rfl) ?_
    obtain ⟨x16, e17, hf⟩ := mb0 hf
    refine mx_aL hx hb hK hJ e17 dX1_addWhole_29 ?_
    obtain ⟨i18, e19, hf⟩ := mb0 hf
    obtain ⟨σ20, e21, hf⟩ := mb0 hf
    refine mx_callV (As := [.long ((x8.toInt64) * x12), .long x16]) (rest := []) hx hb hml hts hown hK hJ rfl rfl (ci := 3) rfl e19 (c_X3_add l G P a2 ((x8.toInt64) * x12) x16 σ σ20 e21) me_X3_add kw_899 kw_900 kw_1570 (Nat.le_of_ble_eq_true rfl) (Nat.le_of_ble_eq_true rfl) rfl hl.1 rfl (Nat.le_of_ble_eq_true rfl) dX1_addWhole_30 (fun H locs hJ => ?_)
    exact D33  σ20 hf _ _ hJ ls (lv_sub hl [] rfl)
set_option maxHeartbeats 4000000 in
set_option maxRecDepth 100000 in
theorem c_X1_checkSums (l : Launch) (G : mx_G) (P : mx_P) (a0 : Nat) (a1 : Nat) (σ : mx_S) (σ' : mx_S) (hf : f_X1_checkSums P a0 a1 σ = some σ') : mxz σ ≤ mpc P → mxu σ ≤ mps P → mx_M l yX1_checkSums cX1_checkSums 4 none 5 131 G P [.ref a0, .ref a1] σ none σ' := by
  intro hcap hcau
  refine mx_ofW (by decide +kernel) hcap hcau (Nat.le_of_ble_eq_true rfl) ?_
  intro p e s m below meth c hx hb hr hml hts hown hlocks hname hK hJ ls hl
  have hz0 := hJ.2.1
  have hown : s.vm.findClass RX1 = some m.cls := hown
  have hl : lv_has ls 4 [(0, .ref a0), (1, .ref a1)] := hl
  have B13 : ∀ (v0 : Nat) (v1 : Nat) (v2 : Int32) (v3 : Int32) (τ : mx_S) (o : (Int32 × Int32 × mx_S) ⊕ ((Int32 × mx_S))), f_X1_checkSums_B13 P v0 v1 v2 v3 τ = some o → (∀ (y2 : Int32) (y3 : Int32) (υ : mx_S), o = .inl (y2, y3, υ) → ∀ (H : Heap) (locs : List Loc), mx_J G P s.heap (mxz σ) (mxu σ) υ H locs → ∀ ls : Array Slot, lv_has ls 4 [(0, .ref v0), (1, .ref v1), (2, .int y2), (3, .int y3)] → W p l e (mx_rm P 5 131 σ) s m ([.ref a0, .ref a1] : List Value).toArray below meth c H locs (mxz υ - mxz σ) (mxu υ - mxu σ) (mx_Z below G P none σ σ' [.ref a0, .ref a1] s) (F0 m 13 ls [])) → (∀ (y2 : Int32) (υ : mx_S), o = .inr (y2, υ) → ∀ (H : Heap) (locs : List Loc), mx_J G P s.heap (mxz σ) (mxu σ) υ H locs → ∀ ls : Array Slot, lv_has ls 4 [(0, .ref v0), (1, .ref v1), (2, .int y2)] → W p l e (mx_rm P 5 131 σ) s m ([.ref a0, .ref a1] : List Value).toArray below meth c H locs (mxz υ - mxz σ) (mxu υ - mxu σ) (mx_Z below G P none σ σ' [.ref a0, .ref a1] s) (F0 m 45 ls [])) → ∀ (H : Heap) (locs : List Loc), mx_J G P s.heap (mxz σ) (mxu σ) τ H locs → ∀ ls : Array Slot, lv_has ls 4 [(0, .ref v0), (1, .ref v1), (2, .int v2), (3, .int v3)] → W p l e (mx_rm P 5 131 σ) s m ([.ref a0, .ref a1] : List Value).toArray below meth c H locs (mxz τ - mxz σ) (mxu τ - mxu σ) (mx_Z below G P none σ σ' [.ref a0, .ref a1] s) (F0 m 13 ls []) := by
    intro v0 v1 v2 v3 τ o hf Kb Ke0 H locs hJ ls hl
    unfold f_X1_checkSums_B13 at hf
    refine lv_iload_n hx hb dX1_checkSums_13 rfl (lv_at hl 3 rfl) ?_
    refine lv_aload_n hx hb dX1_checkSums_14 rfl (lv_at hl 0 rfl) ?_
    obtain ⟨x7, e8, hf⟩ := mb0 hf
    refine my_gI hx hb hts hown hK hJ fd_RX1_36 hv_1_0 e8 dX1_checkSums_15 ?_
    refine lv_icmp_ge (tgt := 45) hx hb dX1_checkSums_18 (by decide) (fun c9 => ?_) (fun c9 => ?_)
    · rw [if_pos c9] at hf
      exact Ke0 v2 τ (Option.some.inj hf).symm _ _ hJ ls (lv_sub hl [0, 1, 2] rfl)
    · rw [if_neg c9] at hf
      refine lv_iload_n hx hb dX1_checkSums_21 rfl (lv_at hl 2 rfl) ?_
      refine lv_aload_n hx hb dX1_checkSums_22 rfl (lv_at hl 0 rfl) ?_
      obtain ⟨b10, e11, hf⟩ := mb0 hf
      refine my_gR hx hb hts hown hK hJ fd_RX1_9 hv_1_1 e11 dX1_checkSums_23 ?_
      refine lv_iload_n hx hb dX1_checkSums_26 rfl (lv_at hl 3 rfl) ?_
      obtain ⟨x12, e13, hf⟩ := mb0 hf
      refine mx_aI hx hb hK hJ e13 dX1_checkSums_27 ?_
      refine lv_iadd hx hb dX1_checkSums_28 ?_
      obtain ⟨x14, e15, hf⟩ := mb0 hf
      refine mx_nI e15 ?_
      refine lv_istore_n (lv' := [(2, .int x14), (0, .ref v0), (1, .ref v1), (3, .int v3)]) hx hb dX1_checkSums_29 rfl hl (by decide) rfl (fun ls hl => ?_)
      refine lv_aload_n hx hb dX1_checkSums_30 rfl (lv_at hl 1 rfl) ?_
      refine lv_iload_n hx hb dX1_checkSums_31 rfl (lv_at hl 3 rfl) ?_
      refine lv_aload_n hx hb dX1_checkSums_32 rfl (lv_at hl 1 rfl) ?_
      obtain ⟨b16, e17, hf⟩ := mb0 hf
      refine my_gR hx hb hts hown hK hJ fd_RX1_33 hv_1_7 e17 dX1_checkSums_33 ?_
      obtain ⟨i18, e19, hf⟩ := mb0 hf
      obtain ⟨σ20, e21, hf⟩ := mb0 hf
      refine mx_callV (As := [.int v3, .ref b16]) (rest := []) hx hb hml hts hown hK hJ rfl rfl (ci := 1) rfl e19 (c_X1_addWhole l G P v0 v3 b16 τ σ20 e21) me_X1_addWhole kw_1568 ks_51 kw_1566 (Nat.le_of_ble_eq_true rfl) (Nat.le_of_ble_eq_true rfl) rfl hl.1 rfl (Nat.le_of_ble_eq_true rfl) dX1_checkSums_36 (fun H locs hJ => ?_)
      obtain ⟨x22, e23, hf⟩ := mb0 hf
      refine lv_iinc (v := x22) (lv' := [(3, .int x22), (2, .int x14), (0, .ref v0), (1, .ref v1)]) hx hb dX1_checkSums_39 hl (k := 3) rfl (by rw [← Option.some.inj e23]; rfl) (by decide) rfl (fun ls hl => ?_)
      refine lv_goto (tgt := 13) hx hb dX1_checkSums_42 (by decide) ?_
      exact Kb x14 x22 σ20 (Option.some.inj hf).symm _ _ hJ ls (lv_sub hl [2, 3, 1, 0] rfl)
  have L13 : ∀ (v0 : Nat) (v1 : Nat) (n : Nat) (v2 : Int32) (v3 : Int32) (τ : mx_S) (o : (Int32 × mx_S)), mx_lp (f_X1_checkSums_L13 P v0 v1) n (v2, v3, τ) = some o → (∀ (y2 : Int32) (υ : mx_S), o = (y2, υ) → ∀ (H : Heap) (locs : List Loc), mx_J G P s.heap (mxz σ) (mxu σ) υ H locs → ∀ ls : Array Slot, lv_has ls 4 [(0, .ref v0), (1, .ref v1), (2, .int y2)] → W p l e (mx_rm P 5 131 σ) s m ([.ref a0, .ref a1] : List Value).toArray below meth c H locs (mxz υ - mxz σ) (mxu υ - mxu σ) (mx_Z below G P none σ σ' [.ref a0, .ref a1] s) (F0 m 45 ls [])) → ∀ (H : Heap) (locs : List Loc), mx_J G P s.heap (mxz σ) (mxu σ) τ H locs → ∀ ls : Array Slot, lv_has ls 4 [(0, .ref v0), (1, .ref v1), (2, .int v2), (3, .int v3)] → W p l e (mx_rm P 5 131 σ) s m ([.ref a0, .ref a1] : List Value).toArray below meth c H locs (mxz τ - mxz σ) (mxu τ - mxu σ) (mx_Z below G P none σ σ' [.ref a0, .ref a1] s) (F0 m 13 ls []) := by
    intro v0 v1 n
    induction n with
    | zero =>
      intro v2 v3 τ o hf
      rw [mx_lp0] at hf
      cases hf
    | succ n ih =>
      intro v2 v3 τ o hf Ke0 H locs hJ ls hl
      rw [mx_lpS] at hf
      obtain ⟨b, eb, hf⟩ := mb0 hf
      refine B13 v0 v1 v2 v3 τ b eb (fun y2 y3 υ ho H locs hJ ls hl => ?_) (fun y2 υ ho H locs hJ ls hl => ?_) H locs hJ ls hl
      · subst ho
        exact ih y2 y3 υ o hf Ke0 H locs hJ ls hl
      · subst ho
        exact Ke0 y2 υ (Option.some.inj hf).symm _ _ hJ ls hl
  have D97 : ∀  (τ : mx_S), f_X1_checkSums_D97 P  τ = some σ' → ∀ (H : Heap) (locs : List Loc), mx_J G P s.heap (mxz σ) (mxu σ) τ H locs → ∀ ls : Array Slot, lv_has ls 4 [] → W p l e (mx_rm P 5 131 σ) s m ([.ref a0, .ref a1] : List Value).toArray below meth c H locs (mxz τ - mxz σ) (mxu τ - mxu σ) (mx_Z below G P none σ σ' [.ref a0, .ref a1] s) (F0 m 97 ls []) := by
    intro  τ hf _ _ hJ ls hl
    unfold f_X1_checkSums_D97 at hf
    exact my_vret hx hb hr hlocks hJ hf dX1_checkSums_97
  have D87 : ∀ (v1 : Nat) (τ : mx_S), f_X1_checkSums_D87 P v1 τ = some σ' → ∀ (H : Heap) (locs : List Loc), mx_J G P s.heap (mxz σ) (mxu σ) τ H locs → ∀ ls : Array Slot, lv_has ls 4 [(1, .ref v1)] → W p l e (mx_rm P 5 131 σ) s m ([.ref a0, .ref a1] : List Value).toArray below meth c H locs (mxz τ - mxz σ) (mxu τ - mxu σ) (mx_Z below G P none σ σ' [.ref a0, .ref a1] s) (F0 m 87 ls []) := by
    intro v1 τ hf _ _ hJ ls hl
    unfold f_X1_checkSums_D87 at hf
    refine lv_aload_n hx hb dX1_checkSums_87 rfl (lv_at hl 0 rfl) ?_
    refine lv_bipush (v := 8) hx hb dX1_checkSums_88 (by decide) ?_
    refine lv_aload_n hx hb dX1_checkSums_90 rfl (lv_at hl 0 rfl) ?_
    obtain ⟨x34, e35, hf⟩ := mb0 hf
    refine my_gI hx hb hts hown hK hJ fd_RX1_105 hv_10_1 e35 dX1_checkSums_91 ?_
    obtain ⟨i36, e37, hf⟩ := mb0 hf
    obtain ⟨σ38, e39, hf⟩ := mb0 hf
    refine mx_callV (As := [.int (8 : Int32), .int x34]) (rest := []) hx hb hml hts hown hK hJ rfl rfl (ci := 10) rfl e37 (c_X10_note l G P v1 (8 : Int32) x34 τ σ38 e39) me_X10_note kw_1139 kw_1140 kw_1558 (Nat.le_of_ble_eq_true rfl) (Nat.le_of_ble_eq_true rfl) rfl hl.1 rfl (Nat.le_of_ble_eq_true rfl) dX1_checkSums_94 (fun H locs hJ => ?_)
    exact D97  σ38 hf _ _ hJ ls (lv_sub hl [] rfl)
  unfold f_X1_checkSums at hf
  refine lv_iconst (v := 0) hx hb dX1_checkSums_0 (by decide) ?_
  refine lv_istore_n (lv' := [(2, .int (0 : Int32)), (0, .ref a0), (1, .ref a1)]) hx hb dX1_checkSums_1 rfl hl (by decide) rfl (fun ls hl => ?_)
  refine lv_aload_n hx hb dX1_checkSums_2 rfl (lv_at hl 1 rfl) ?_
  obtain ⟨b1, e2, hf⟩ := mb0 hf
  refine my_gR hx hb hts hown hK hJ fd_RX1_33 hv_1_7 e2 dX1_checkSums_3 ?_
  refine lv_lconst (v := 0) hx hb dX1_checkSums_6 (by decide) ?_
  refine lv_lconst (v := 1) hx hb dX1_checkSums_7 (by decide) ?_
  obtain ⟨i3, e4, hf⟩ := mb0 hf
  obtain ⟨σ5, e6, hf⟩ := mb0 hf
  refine mx_callV (As := [.long (0 : Int64), .long (1 : Int64)]) (rest := []) hx hb hml hts hown hK hJ rfl rfl (ci := 3) rfl e4 (c_X3_set l G P b1 (0 : Int64) (1 : Int64) σ σ5 e6) me_X3_set kw_843 kw_844 kw_1561 (Nat.le_of_ble_eq_true rfl) (Nat.le_of_ble_eq_true rfl) rfl hl.1 rfl (Nat.le_of_ble_eq_true rfl) dX1_checkSums_8 (fun H locs hJ => ?_)
  refine lv_iconst (v := 0) hx hb dX1_checkSums_11 (by decide) ?_
  refine lv_istore_n (lv' := [(3, .int (0 : Int32)), (2, .int (0 : Int32)), (0, .ref a0), (1, .ref a1)]) hx hb dX1_checkSums_12 rfl hl (by decide) rfl (fun ls hl => ?_)
  obtain ⟨o24, e25, hf⟩ := mb0 hf
  refine L13 a0 a1 (mpN P) (0 : Int32) (0 : Int32) σ5 o24 e25 (fun y26 σ27 ho H locs hJ ls hl => ?_) _ _ hJ ls (lv_sub hl [2, 3, 1, 0] rfl)
  · rw [ho] at hf
    have hf : ((if y26 = (360 : Int32) then (mg_R σ27 a0 1 7).bind fun b29 => (mg_I σ27 b29 3 2).bind fun x31 => (if x31 = 0 then (mg_R σ27 a0 1 7).bind fun b40 => (mg_L σ27 b40 3 0).bind fun x42 => (if (lg_cmp x42 (0 : Int64)) = 0 then f_X1_checkSums_D97 P  σ27 else f_X1_checkSums_D87 P a1 σ27) else f_X1_checkSums_D87 P a1 σ27) else (mg_I σ27 a1 10 1).bind fun x45 => (mx_is σ27 a1 10).bind fun i47 => (f_X10_note P a1 (7 : Int32) x45 σ27).bind fun σ49 => f_X1_checkSums_D97 P  σ49)) = some σ' := hf
    refine lv_iload_n hx hb dX1_checkSums_45 rfl (lv_at hl 2 rfl) ?_
    refine lv_sipush (v := 360) hx hb dX1_checkSums_46 (by decide) ?_
    refine lv_icmp_eq (tgt := 65) hx hb dX1_checkSums_49 (by decide) (fun c28 => ?_) (fun c28 => ?_)
    · rw [if_pos c28] at hf
      refine lv_aload_n hx hb dX1_checkSums_65 rfl (lv_at hl 0 rfl) ?_
      obtain ⟨b29, e30, hf⟩ := mb0 hf
      refine my_gR hx hb hts hown hK hJ fd_RX1_33 hv_1_7 e30 dX1_checkSums_66 ?_
      obtain ⟨x31, e32, hf⟩ := mb0 hf
      refine my_gI hx hb hts hown hK hJ fd_RX1_108 hv_3_2 e32 dX1_checkSums_69 ?_
      refine lv_if_ne (tgt := 87) hx hb dX1_checkSums_72 (by decide) (fun c33 => ?_) (fun c33 => ?_)
      · rw [if_neg c33] at hf
        exact D87 a1 σ27 hf _ _ hJ ls (lv_sub hl [1] rfl)
      · rw [if_pos c33] at hf
        refine lv_aload_n hx hb dX1_checkSums_75 rfl (lv_at hl 0 rfl) ?_
        obtain ⟨b40, e41, hf⟩ := mb0 hf
        refine my_gR hx hb hts hown hK hJ fd_RX1_33 hv_1_7 e41 dX1_checkSums_76 ?_
        obtain ⟨x42, e43, hf⟩ := mb0 hf
        refine my_gL hx hb hts hown hK hJ fd_RX1_94 hv_3_0 e43 dX1_checkSums_79 ?_
        refine lv_lconst (v := 0) hx hb dX1_checkSums_82 (by decide) ?_
        refine W.lcmp hx hb dX1_checkSums_83 ?_
        refine lv_if_eq (tgt := 97) hx hb dX1_checkSums_84 (by decide) (fun c44 => ?_) (fun c44 => ?_)
        · rw [if_pos c44] at hf
          exact D97  σ27 hf _ _ hJ ls (lv_sub hl [] rfl)
        · rw [if_neg c44] at hf
          exact D87 a1 σ27 hf _ _ hJ ls (lv_sub hl [1] rfl)
    · rw [if_neg c28] at hf
      refine lv_aload_n hx hb dX1_checkSums_52 rfl (lv_at hl 1 rfl) ?_
      refine lv_bipush (v := 7) hx hb dX1_checkSums_53 (by decide) ?_
      refine lv_aload_n hx hb dX1_checkSums_55 rfl (lv_at hl 1 rfl) ?_
      obtain ⟨x45, e46, hf⟩ := mb0 hf
      refine my_gI hx hb hts hown hK hJ fd_RX1_105 hv_10_1 e46 dX1_checkSums_56 ?_
      obtain ⟨i47, e48, hf⟩ := mb0 hf
      obtain ⟨σ49, e50, hf⟩ := mb0 hf
      refine mx_callV (As := [.int (7 : Int32), .int x45]) (rest := []) hx hb hml hts hown hK hJ rfl rfl (ci := 10) rfl e48 (c_X10_note l G P a1 (7 : Int32) x45 σ27 σ49 e50) me_X10_note kw_1139 kw_1140 kw_1558 (Nat.le_of_ble_eq_true rfl) (Nat.le_of_ble_eq_true rfl) rfl hl.1 rfl (Nat.le_of_ble_eq_true rfl) dX1_checkSums_59 (fun H locs hJ => ?_)
      refine lv_goto (tgt := 97) hx hb dX1_checkSums_62 (by decide) ?_
      exact D97  σ49 hf _ _ hJ ls (lv_sub hl [] rfl)
set_option maxHeartbeats 4000000 in
set_option maxRecDepth 100000 in
theorem c_X1_isRead (l : Launch) (G : mx_G) (P : mx_P) (a0 : Nat) (a1 : Nat) (σ : mx_S) (r : Int32) (σ' : mx_S) (hf : f_X1_isRead P a0 a1 σ = some (r, σ')) : mxz σ ≤ mpc P → mxu σ ≤ mps P → mx_M l yX1_isRead cX1_isRead 4 (some .boolean) 7 154 G P [.ref a0, .ref a1] σ (some (.int r)) σ' := by
  intro hcap hcau
  refine mx_ofW (by decide +kernel) hcap hcau (Nat.le_of_ble_eq_true rfl) ?_
  intro p e s m below meth c hx hb hr hml hts hown hlocks hname hK hJ ls hl
  have hz0 := hJ.2.1
  have hown : s.vm.findClass RX1 = some m.cls := hown
  have hl : lv_has ls 4 [(0, .ref a0), (1, .ref a1)] := hl
  have D48_14 : ∀ (v0 : Nat) (v1 : Nat) (v3 : Int32) (w0 : Int32) (τ : mx_S) (o : (Int32 × Int32 × mx_S) ⊕ ((mx_S))), f_X1_isRead_D48_14 P v0 v1 v3 w0 τ = some o → (∀ (y2 : Int32) (y3 : Int32) (υ : mx_S), o = .inl (y2, y3, υ) → ∀ (H : Heap) (locs : List Loc), mx_J G P s.heap (mxz σ) (mxu σ) υ H locs → ∀ ls : Array Slot, lv_has ls 4 [(0, .ref v0), (1, .ref v1), (2, .int y2), (3, .int y3)] → W p l e (mx_rm P 7 154 σ) s m ([.ref a0, .ref a1] : List Value).toArray below meth c H locs (mxz υ - mxz σ) (mxu υ - mxu σ) (mx_Z below G P (some (.int r)) σ σ' [.ref a0, .ref a1] s) (F0 m 14 ls [])) → (∀  (υ : mx_S), o = .inr υ → ∀ (H : Heap) (locs : List Loc), mx_J G P s.heap (mxz σ) (mxu σ) υ H locs → ∀ ls : Array Slot, lv_has ls 4 [(0, .ref v0), (1, .ref v1)] → W p l e (mx_rm P 7 154 σ) s m ([.ref a0, .ref a1] : List Value).toArray below meth c H locs (mxz υ - mxz σ) (mxu υ - mxu σ) (mx_Z below G P (some (.int r)) σ σ' [.ref a0, .ref a1] s) (F0 m 55 ls [])) → ∀ (H : Heap) (locs : List Loc), mx_J G P s.heap (mxz σ) (mxu σ) τ H locs → ∀ ls : Array Slot, lv_has ls 4 [(0, .ref v0), (1, .ref v1), (3, .int v3)] → W p l e (mx_rm P 7 154 σ) s m ([.ref a0, .ref a1] : List Value).toArray below meth c H locs (mxz τ - mxz σ) (mxu τ - mxu σ) (mx_Z below G P (some (.int r)) σ σ' [.ref a0, .ref a1] s) (F0 m 48 ls [.int w0]) := by
    intro v0 v1 v3 w0 τ o hf Kb Ke0 H locs hJ ls hl
    unfold f_X1_isRead_D48_14 at hf
    refine lv_istore_n (lv' := [(2, .int w0), (0, .ref v0), (1, .ref v1), (3, .int v3)]) hx hb dX1_isRead_48 rfl hl (by decide) rfl (fun ls hl => ?_)
    obtain ⟨x16, e17, hf⟩ := mb0 hf
    refine lv_iinc (v := x16) (lv' := [(3, .int x16), (2, .int w0), (0, .ref v0), (1, .ref v1)]) hx hb dX1_isRead_49 hl (k := 3) rfl (by rw [← Option.some.inj e17]; rfl) (by decide) rfl (fun ls hl => ?_)
    refine lv_goto (tgt := 14) hx hb dX1_isRead_52 (by decide) ?_
    exact Kb w0 x16 τ (Option.some.inj hf).symm _ _ hJ ls (lv_sub hl [2, 3, 1, 0] rfl)
  have D47_14 : ∀ (v0 : Nat) (v1 : Nat) (v3 : Int32) (τ : mx_S) (o : (Int32 × Int32 × mx_S) ⊕ ((mx_S))), f_X1_isRead_D47_14 P v0 v1 v3 τ = some o → (∀ (y2 : Int32) (y3 : Int32) (υ : mx_S), o = .inl (y2, y3, υ) → ∀ (H : Heap) (locs : List Loc), mx_J G P s.heap (mxz σ) (mxu σ) υ H locs → ∀ ls : Array Slot, lv_has ls 4 [(0, .ref v0), (1, .ref v1), (2, .int y2), (3, .int y3)] → W p l e (mx_rm P 7 154 σ) s m ([.ref a0, .ref a1] : List Value).toArray below meth c H locs (mxz υ - mxz σ) (mxu υ - mxu σ) (mx_Z below G P (some (.int r)) σ σ' [.ref a0, .ref a1] s) (F0 m 14 ls [])) → (∀  (υ : mx_S), o = .inr υ → ∀ (H : Heap) (locs : List Loc), mx_J G P s.heap (mxz σ) (mxu σ) υ H locs → ∀ ls : Array Slot, lv_has ls 4 [(0, .ref v0), (1, .ref v1)] → W p l e (mx_rm P 7 154 σ) s m ([.ref a0, .ref a1] : List Value).toArray below meth c H locs (mxz υ - mxz σ) (mxu υ - mxu σ) (mx_Z below G P (some (.int r)) σ σ' [.ref a0, .ref a1] s) (F0 m 55 ls [])) → ∀ (H : Heap) (locs : List Loc), mx_J G P s.heap (mxz σ) (mxu σ) τ H locs → ∀ ls : Array Slot, lv_has ls 4 [(0, .ref v0), (1, .ref v1), (3, .int v3)] → W p l e (mx_rm P 7 154 σ) s m ([.ref a0, .ref a1] : List Value).toArray below meth c H locs (mxz τ - mxz σ) (mxu τ - mxu σ) (mx_Z below G P (some (.int r)) σ σ' [.ref a0, .ref a1] s) (F0 m 47 ls []) := by
    intro v0 v1 v3 τ o hf Kb Ke0 H locs hJ ls hl
    unfold f_X1_isRead_D47_14 at hf
    refine lv_iconst (v := 0) hx hb dX1_isRead_47 (by decide) ?_
    exact D48_14 v0 v1 v3 (0 : Int32) τ o hf Kb Ke0 _ _ hJ ls (lv_sub hl [0, 1, 2] rfl)
  have B14 : ∀ (v0 : Nat) (v1 : Nat) (v2 : Int32) (v3 : Int32) (τ : mx_S) (o : (Int32 × Int32 × mx_S) ⊕ ((mx_S))), f_X1_isRead_B14 P v0 v1 v2 v3 τ = some o → (∀ (y2 : Int32) (y3 : Int32) (υ : mx_S), o = .inl (y2, y3, υ) → ∀ (H : Heap) (locs : List Loc), mx_J G P s.heap (mxz σ) (mxu σ) υ H locs → ∀ ls : Array Slot, lv_has ls 4 [(0, .ref v0), (1, .ref v1), (2, .int y2), (3, .int y3)] → W p l e (mx_rm P 7 154 σ) s m ([.ref a0, .ref a1] : List Value).toArray below meth c H locs (mxz υ - mxz σ) (mxu υ - mxu σ) (mx_Z below G P (some (.int r)) σ σ' [.ref a0, .ref a1] s) (F0 m 14 ls [])) → (∀  (υ : mx_S), o = .inr υ → ∀ (H : Heap) (locs : List Loc), mx_J G P s.heap (mxz σ) (mxu σ) υ H locs → ∀ ls : Array Slot, lv_has ls 4 [(0, .ref v0), (1, .ref v1)] → W p l e (mx_rm P 7 154 σ) s m ([.ref a0, .ref a1] : List Value).toArray below meth c H locs (mxz υ - mxz σ) (mxu υ - mxu σ) (mx_Z below G P (some (.int r)) σ σ' [.ref a0, .ref a1] s) (F0 m 55 ls [])) → ∀ (H : Heap) (locs : List Loc), mx_J G P s.heap (mxz σ) (mxu σ) τ H locs → ∀ ls : Array Slot, lv_has ls 4 [(0, .ref v0), (1, .ref v1), (2, .int v2), (3, .int v3)] → W p l e (mx_rm P 7 154 σ) s m ([.ref a0, .ref a1] : List Value).toArray below meth c H locs (mxz τ - mxz σ) (mxu τ - mxu σ) (mx_Z below G P (some (.int r)) σ σ' [.ref a0, .ref a1] s) (F0 m 14 ls []) := by
    intro v0 v1 v2 v3 τ o hf Kb Ke0 H locs hJ ls hl
    unfold f_X1_isRead_B14 at hf
    refine lv_iload_n hx hb dX1_isRead_14 rfl (lv_at hl 3 rfl) ?_
    refine lv_sipush (v := 4000) hx hb dX1_isRead_15 (by decide) ?_
    refine lv_icmp_ge (tgt := 55) hx hb dX1_isRead_18 (by decide) (fun c8 => ?_) (fun c8 => ?_)
    · rw [if_pos c8] at hf
      exact Ke0 τ (Option.some.inj hf).symm _ _ hJ ls (lv_sub hl [0, 1] rfl)
    · rw [if_neg c8] at hf
      refine lv_iload_n hx hb dX1_isRead_21 rfl (lv_at hl 2 rfl) ?_
      refine lv_if_eq (tgt := 55) hx hb dX1_isRead_22 (by decide) (fun c9 => ?_) (fun c9 => ?_)
      · rw [if_pos c9] at hf
        exact Ke0 τ (Option.some.inj hf).symm _ _ hJ ls (lv_sub hl [0, 1] rfl)
      · rw [if_neg c9] at hf
        refine lv_aload_n hx hb dX1_isRead_25 rfl (lv_at hl 1 rfl) ?_
        refine va_ldcS hx hb hown (show vk_R RX1 40 "dwell w;rise wrl;fall wrl;" (mgK G 1) s from mxe_str hK 1 (by decide)) dX1_isRead_26 ?_
        obtain ⟨i10, e11, hf⟩ := mb0 hf
        obtain ⟨x13, σ12, e14, hf⟩ := mc0 hf
        refine mx_callV (As := [.ref (mgK G 1)]) (rest := []) hx hb hml hts hown hK hJ rfl rfl (ci := 10) rfl e11 (c_X10_hasStatement l G P v1 1 τ x13 σ12 e14) me_X10_hasStatement kw_1060 kw_1061 kw_1553 (Nat.le_of_ble_eq_true rfl) (Nat.le_of_ble_eq_true rfl) rfl hl.1 rfl (Nat.le_of_ble_eq_true rfl) dX1_isRead_28 (fun H locs hJ => ?_)
        refine lv_if_eq (tgt := 47) hx hb dX1_isRead_31 (by decide) (fun c15 => ?_) (fun c15 => ?_)
        · rw [if_pos c15] at hf
          exact D47_14 v0 v1 v3 σ12 o hf Kb Ke0 _ _ hJ ls (lv_sub hl [0, 1, 3] rfl)
        · rw [if_neg c15] at hf
          refine lv_aload_n hx hb dX1_isRead_34 rfl (lv_at hl 0 rfl) ?_
          refine lv_aload_n hx hb dX1_isRead_35 rfl (lv_at hl 1 rfl) ?_
          refine lv_iload_n hx hb dX1_isRead_36 rfl (lv_at hl 3 rfl) ?_
          obtain ⟨i18, e19, hf⟩ := mb0 hf
          obtain ⟨x21, σ20, e22, hf⟩ := mc0 hf
          refine mx_callV (As := [.ref v1, .int v3]) (rest := []) hx hb hml hts hown hK hJ rfl rfl (ci := 1) rfl e19 (c_X1_isTaken l G P v0 v1 v3 σ12 x21 σ20 e22) me_X1_isTaken kw_1556 ks_49 kw_1554 (Nat.le_of_ble_eq_true rfl) (Nat.le_of_ble_eq_true rfl) rfl hl.1 rfl (Nat.le_of_ble_eq_true rfl) dX1_isRead_37 (fun H locs hJ => ?_)
          refine lv_if_eq (tgt := 47) hx hb dX1_isRead_40 (by decide) (fun c23 => ?_) (fun c23 => ?_)
          · rw [if_pos c23] at hf
            exact D47_14 v0 v1 v3 σ20 o hf Kb Ke0 _ _ hJ ls (lv_sub hl [0, 1, 3] rfl)
          · rw [if_neg c23] at hf
            refine lv_iconst (v := 1) hx hb dX1_isRead_43 (by decide) ?_
            refine lv_goto (tgt := 48) hx hb dX1_isRead_44 (by decide) ?_
            exact D48_14 v0 v1 v3 (1 : Int32) σ20 o hf Kb Ke0 _ _ hJ ls (lv_sub hl [0, 1, 3] rfl)
  have L14 : ∀ (v0 : Nat) (v1 : Nat) (n : Nat) (v2 : Int32) (v3 : Int32) (τ : mx_S) (o : (mx_S)), mx_lp (f_X1_isRead_L14 P v0 v1) n (v2, v3, τ) = some o → (∀  (υ : mx_S), o = υ → ∀ (H : Heap) (locs : List Loc), mx_J G P s.heap (mxz σ) (mxu σ) υ H locs → ∀ ls : Array Slot, lv_has ls 4 [(0, .ref v0), (1, .ref v1)] → W p l e (mx_rm P 7 154 σ) s m ([.ref a0, .ref a1] : List Value).toArray below meth c H locs (mxz υ - mxz σ) (mxu υ - mxu σ) (mx_Z below G P (some (.int r)) σ σ' [.ref a0, .ref a1] s) (F0 m 55 ls [])) → ∀ (H : Heap) (locs : List Loc), mx_J G P s.heap (mxz σ) (mxu σ) τ H locs → ∀ ls : Array Slot, lv_has ls 4 [(0, .ref v0), (1, .ref v1), (2, .int v2), (3, .int v3)] → W p l e (mx_rm P 7 154 σ) s m ([.ref a0, .ref a1] : List Value).toArray below meth c H locs (mxz τ - mxz σ) (mxu τ - mxu σ) (mx_Z below G P (some (.int r)) σ σ' [.ref a0, .ref a1] s) (F0 m 14 ls []) := by
    intro v0 v1 n
    induction n with
    | zero =>
      intro v2 v3 τ o hf
      rw [mx_lp0] at hf
      cases hf
    | succ n ih =>
      intro v2 v3 τ o hf Ke0 H locs hJ ls hl
      rw [mx_lpS] at hf
      obtain ⟨b, eb, hf⟩ := mb0 hf
      refine B14 v0 v1 v2 v3 τ b eb (fun y2 y3 υ ho H locs hJ ls hl => ?_) (fun  υ ho H locs hJ ls hl => ?_) H locs hJ ls hl
      · subst ho
        exact ih y2 y3 υ o hf Ke0 H locs hJ ls hl
      · subst ho
        exact Ke0  υ (Option.some.inj hf).symm _ _ hJ ls hl
  have D79 : ∀ (w0 : Int32) (τ : mx_S), f_X1_isRead_D79 P w0 τ = some (r, σ') → ∀ (H : Heap) (locs : List Loc), mx_J G P s.heap (mxz σ) (mxu σ) τ H locs → ∀ ls : Array Slot, lv_has ls 4 [] → W p l e (mx_rm P 7 154 σ) s m ([.ref a0, .ref a1] : List Value).toArray below meth c H locs (mxz τ - mxz σ) (mxu τ - mxu σ) (mx_Z below G P (some (.int r)) σ σ' [.ref a0, .ref a1] s) (F0 m 79 ls [.int w0]) := by
    intro w0 τ hf _ _ hJ ls hl
    unfold f_X1_isRead_D79 at hf
    exact mx_zret hx hb hr hlocks hJ hf dX1_isRead_79
  have D67 : ∀ (v1 : Nat) (τ : mx_S), f_X1_isRead_D67 P v1 τ = some (r, σ') → ∀ (H : Heap) (locs : List Loc), mx_J G P s.heap (mxz σ) (mxu σ) τ H locs → ∀ ls : Array Slot, lv_has ls 4 [(1, .ref v1)] → W p l e (mx_rm P 7 154 σ) s m ([.ref a0, .ref a1] : List Value).toArray below meth c H locs (mxz τ - mxz σ) (mxu τ - mxu σ) (mx_Z below G P (some (.int r)) σ σ' [.ref a0, .ref a1] s) (F0 m 67 ls []) := by
    intro v1 τ hf _ _ hJ ls hl
    unfold f_X1_isRead_D67 at hf
    refine lv_aload_n hx hb dX1_isRead_67 rfl (lv_at hl 0 rfl) ?_
    obtain ⟨x30, e31, hf⟩ := mb0 hf
    refine my_gI hx hb hts hown hK hJ fd_RX1_55 hv_10_2 e31 dX1_isRead_68 ?_
    refine lv_if_ne (tgt := 78) hx hb dX1_isRead_71 (by decide) (fun c32 => ?_) (fun c32 => ?_)
    · rw [if_neg c32] at hf
      refine lv_iconst (v := 0) hx hb dX1_isRead_78 (by decide) ?_
      exact D79 (0 : Int32) τ hf _ _ hJ ls (lv_sub hl [] rfl)
    · rw [if_pos c32] at hf
      refine lv_iconst (v := 1) hx hb dX1_isRead_74 (by decide) ?_
      refine lv_goto (tgt := 79) hx hb dX1_isRead_75 (by decide) ?_
      exact D79 (1 : Int32) τ hf _ _ hJ ls (lv_sub hl [] rfl)
  have D55 : ∀ (v0 : Nat) (v1 : Nat) (τ : mx_S), f_X1_isRead_D55 P v0 v1 τ = some (r, σ') → ∀ (H : Heap) (locs : List Loc), mx_J G P s.heap (mxz σ) (mxu σ) τ H locs → ∀ ls : Array Slot, lv_has ls 4 [(0, .ref v0), (1, .ref v1)] → W p l e (mx_rm P 7 154 σ) s m ([.ref a0, .ref a1] : List Value).toArray below meth c H locs (mxz τ - mxz σ) (mxu τ - mxu σ) (mx_Z below G P (some (.int r)) σ σ' [.ref a0, .ref a1] s) (F0 m 55 ls []) := by
    intro v0 v1 τ hf _ _ hJ ls hl
    unfold f_X1_isRead_D55 at hf
    refine lv_aload_n hx hb dX1_isRead_55 rfl (lv_at hl 1 rfl) ?_
    obtain ⟨x27, e28, hf⟩ := mb0 hf
    refine my_gI hx hb hts hown hK hJ fd_RX1_55 hv_10_2 e28 dX1_isRead_56 ?_
    refine lv_if_ne (tgt := 67) hx hb dX1_isRead_59 (by decide) (fun c29 => ?_) (fun c29 => ?_)
    · rw [if_neg c29] at hf
      exact D67 v1 τ hf _ _ hJ ls (lv_sub hl [1] rfl)
    · rw [if_pos c29] at hf
      refine lv_aload_n hx hb dX1_isRead_62 rfl (lv_at hl 0 rfl) ?_
      refine lv_aload_n hx hb dX1_isRead_63 rfl (lv_at hl 1 rfl) ?_
      obtain ⟨i33, e34, hf⟩ := mb0 hf
      obtain ⟨σ35, e36, hf⟩ := mb0 hf
      refine mx_callV (As := [.ref v1]) (rest := []) hx hb hml hts hown hK hJ rfl rfl (ci := 1) rfl e34 (c_X1_checkSums l G P v0 v1 τ σ35 e36) me_X1_checkSums kw_1564 ks_50 kw_1562 (Nat.le_of_ble_eq_true rfl) (Nat.le_of_ble_eq_true rfl) rfl hl.1 rfl (Nat.le_of_ble_eq_true rfl) dX1_isRead_64 (fun H locs hJ => ?_)
      exact D67 v1 σ35 hf _ _ hJ ls (lv_sub hl [1] rfl)
  unfold f_X1_isRead at hf
  refine lv_aload_n hx hb dX1_isRead_0 rfl (lv_at hl 0 rfl) ?_
  refine lv_iconst (v := 0) hx hb dX1_isRead_1 (by decide) ?_
  obtain ⟨σ1, e2, hf⟩ := mb0 hf
  refine my_pI hx hb hts hown hK hJ fd_RX1_36 cd_1 (Or.inl rfl) ht_1_0 e2 dX1_isRead_2 (fun H locs hJ => ?_)
  refine lv_aload_n hx hb dX1_isRead_5 rfl (lv_at hl 1 rfl) ?_
  refine va_ldcS hx hb hown (show vk_R RX1 40 "dwell w;rise wrl;fall wrl;" (mgK G 1) s from mxe_str hK 1 (by decide)) dX1_isRead_6 ?_
  obtain ⟨i3, e4, hf⟩ := mb0 hf
  obtain ⟨x6, σ5, e7, hf⟩ := mc0 hf
  refine mx_callV (As := [.ref (mgK G 1)]) (rest := []) hx hb hml hts hown hK hJ rfl rfl (ci := 10) rfl e4 (c_X10_isGrammatical l G P a1 1 σ1 x6 σ5 e7) me_X10_isGrammatical kw_1052 kw_1053 kw_1552 (Nat.le_of_ble_eq_true rfl) (Nat.le_of_ble_eq_true rfl) rfl hl.1 rfl (Nat.le_of_ble_eq_true rfl) dX1_isRead_8 (fun H locs hJ => ?_)
  refine lv_istore_n (lv' := [(2, .int x6), (0, .ref a0), (1, .ref a1)]) hx hb dX1_isRead_11 rfl hl (by decide) rfl (fun ls hl => ?_)
  refine lv_iconst (v := 0) hx hb dX1_isRead_12 (by decide) ?_
  refine lv_istore_n (lv' := [(3, .int (0 : Int32)), (2, .int x6), (0, .ref a0), (1, .ref a1)]) hx hb dX1_isRead_13 rfl hl (by decide) rfl (fun ls hl => ?_)
  obtain ⟨o24, e25, hf⟩ := mb0 hf
  refine L14 a0 a1 (mpN P) x6 (0 : Int32) σ5 o24 e25 (fun σ26 ho H locs hJ ls hl => ?_) _ _ hJ ls (lv_sub hl [2, 3, 1, 0] rfl)
  · rw [ho] at hf
    have hf : (f_X1_isRead_D55 P a0 a1 σ26) = some (r, σ') := hf
    exact D55 a0 a1 σ26 hf _ _ hJ ls (lv_sub hl [0, 1] rfl)
set_option maxHeartbeats 4000000 in
set_option maxRecDepth 100000 in
theorem c_X3_times (l : Launch) (G : mx_G) (P : mx_P) (a0 : Nat) (p1 : Int64) (p3 : Int64) (σ : mx_S) (σ' : mx_S) (hf : f_X3_times P a0 p1 p3 σ = some σ') : mxz σ ≤ mpc P → mxu σ ≤ mps P → mx_M l yX3_times cX3_times 13 none 2 51 G P [.ref a0, .long p1, .long p3] σ none σ' := by
  intro hcap hcau
  refine mx_ofW (by decide +kernel) hcap hcau (Nat.le_of_ble_eq_true rfl) ?_
  intro p e s m below meth c hx hb hr hml hts hown hlocks hname hK hJ ls hl
  have hz0 := hJ.2.1
  have hown : s.vm.findClass RX3 = some m.cls := hown
  have hl : lv_has ls 13 [(0, .ref a0), (1, .long p1), (3, .long p3)] := hl
  have D41 : ∀ (v0 : Nat) (τ : mx_S), f_X3_times_D41 P v0 τ = some σ' → ∀ (H : Heap) (locs : List Loc), mx_J G P s.heap (mxz σ) (mxu σ) τ H locs → ∀ ls : Array Slot, lv_has ls 13 [(0, .ref v0)] → W p l e (mx_rm P 2 51 σ) s m ([.ref a0, .long p1, .long p3] : List Value).toArray below meth c H locs (mxz τ - mxz σ) (mxu τ - mxu σ) (mx_Z below G P none σ σ' [.ref a0, .long p1, .long p3] s) (F0 m 41 ls []) := by
    intro v0 τ hf _ _ hJ ls hl
    unfold f_X3_times_D41 at hf
    refine lv_aload_n hx hb dX3_times_41 rfl (lv_at hl 0 rfl) ?_
    refine lv_iconst (v := 1) hx hb dX3_times_42 (by decide) ?_
    obtain ⟨σ14, e15, hf⟩ := mb0 hf
    refine my_pZ hx hb hts hown hK hJ fd_RX3_16 cd_3 (Or.inl rfl) ht_3_2 e15 dX3_times_43 (fun H locs hJ => ?_)
    exact my_vret hx hb hr hlocks hJ hf dX3_times_46
  have D100 : ∀  (τ : mx_S), f_X3_times_D100 P  τ = some σ' → ∀ (H : Heap) (locs : List Loc), mx_J G P s.heap (mxz σ) (mxu σ) τ H locs → ∀ ls : Array Slot, lv_has ls 13 [] → W p l e (mx_rm P 2 51 σ) s m ([.ref a0, .long p1, .long p3] : List Value).toArray below meth c H locs (mxz τ - mxz σ) (mxu τ - mxu σ) (mx_Z below G P none σ σ' [.ref a0, .long p1, .long p3] s) (F0 m 100 ls []) := by
    intro  τ hf _ _ hJ ls hl
    unfold f_X3_times_D100 at hf
    exact my_vret hx hb hr hlocks hJ hf dX3_times_100
  unfold f_X3_times at hf
  refine lv_aload_n hx hb dX3_times_0 rfl (lv_at hl 0 rfl) ?_
  obtain ⟨x1, e2, hf⟩ := mb0 hf
  refine my_gL hx hb hts hown hK hJ fd_RX3_7 hv_3_0 e2 dX3_times_1 ?_
  refine lv_lload_n hx hb dX3_times_4 rfl (lv_at hl 2 rfl) ?_
  obtain ⟨x4, σ3, e5, hf⟩ := mc0 hf
  refine mx_callS (As := [.long x1, .long p3]) (rest := []) hx hb hml hts hown hK hJ rfl rfl (c_X3_gcd l G P x1 p3 σ x4 σ3 e5) me_X3_gcd kw_851 kw_850 (Nat.le_of_ble_eq_true rfl) (Nat.le_of_ble_eq_true rfl) rfl hl.1 rfl (Nat.le_of_ble_eq_true rfl) dX3_times_5 (fun H locs hJ => ?_)
  refine lv_lstore (lv' := [(5, .long x4), (0, .ref a0), (1, .long p1), (3, .long p3)]) hx hb dX3_times_8 hl (by decide) rfl (fun ls hl => ?_)
  refine lv_lload_n hx hb dX3_times_10 rfl (lv_at hl 2 rfl) ?_
  refine lv_aload_n hx hb dX3_times_11 rfl (lv_at hl 1 rfl) ?_
  obtain ⟨x6, e7, hf⟩ := mb0 hf
  refine my_gL hx hb hts hown hK hJ fd_RX3_13 hv_3_1 e7 dX3_times_12 ?_
  obtain ⟨x9, σ8, e10, hf⟩ := mc0 hf
  refine mx_callS (As := [.long p1, .long x6]) (rest := []) hx hb hml hts hown hK hJ rfl rfl (c_X3_gcd l G P p1 x6 σ3 x9 σ8 e10) me_X3_gcd kw_851 kw_850 (Nat.le_of_ble_eq_true rfl) (Nat.le_of_ble_eq_true rfl) rfl hl.1 rfl (Nat.le_of_ble_eq_true rfl) dX3_times_15 (fun H locs hJ => ?_)
  refine lv_lstore (lv' := [(7, .long x9), (5, .long x4), (0, .ref a0), (1, .long p1), (3, .long p3)]) hx hb dX3_times_18 hl (by decide) rfl (fun ls hl => ?_)
  refine lv_aload_n hx hb dX3_times_20 rfl (lv_at hl 2 rfl) ?_
  obtain ⟨x11, e12, hf⟩ := mb0 hf
  refine my_gI hx hb hts hown hK hJ fd_RX3_16 hv_3_2 e12 dX3_times_21 ?_
  refine lv_if_ne (tgt := 41) hx hb dX3_times_24 (by decide) (fun c13 => ?_) (fun c13 => ?_)
  · rw [if_neg c13] at hf
    exact D41 a0 σ8 hf _ _ hJ ls (lv_sub hl [2] rfl)
  · rw [if_pos c13] at hf
    refine lv_lload hx hb dX3_times_27 (lv_at hl 1 rfl) ?_
    refine lv_lconst (v := 0) hx hb dX3_times_29 (by decide) ?_
    refine W.lcmp hx hb dX3_times_30 ?_
    refine lv_if_eq (tgt := 41) hx hb dX3_times_31 (by decide) (fun c16 => ?_) (fun c16 => ?_)
    · rw [if_pos c16] at hf
      exact D41 a0 σ8 hf _ _ hJ ls (lv_sub hl [2] rfl)
    · rw [if_neg c16] at hf
      refine lv_lload hx hb dX3_times_34 (lv_at hl 0 rfl) ?_
      refine lv_lconst (v := 0) hx hb dX3_times_36 (by decide) ?_
      refine W.lcmp hx hb dX3_times_37 ?_
      refine lv_if_ne (tgt := 47) hx hb dX3_times_38 (by decide) (fun c17 => ?_) (fun c17 => ?_)
      · rw [if_neg c17] at hf
        refine lv_aload_n hx hb dX3_times_47 rfl (lv_at hl 2 rfl) ?_
        refine lv_aload_n hx hb dX3_times_48 rfl (lv_at hl 2 rfl) ?_
        obtain ⟨x18, e19, hf⟩ := mb0 hf
        refine my_gL hx hb hts hown hK hJ fd_RX3_7 hv_3_0 e19 dX3_times_49 ?_
        refine lv_lload hx hb dX3_times_52 (lv_at hl 1 rfl) ?_
        obtain ⟨x20, e21, hf⟩ := mb0 hf
        refine lv_ldiv hx hb dX3_times_54 (md_Ls e21).1 ?_
        refine mx_eL (md_Ls e21).2 ?_
        refine lv_lload_n hx hb dX3_times_55 rfl (lv_at hl 3 rfl) ?_
        refine lv_lload hx hb dX3_times_56 (lv_at hl 0 rfl) ?_
        obtain ⟨x22, e23, hf⟩ := mb0 hf
        refine lv_ldiv hx hb dX3_times_58 (md_Ls e23).1 ?_
        refine mx_eL (md_Ls e23).2 ?_
        obtain ⟨i24, e25, hf⟩ := mb0 hf
        obtain ⟨x27, σ26, e28, hf⟩ := mc0 hf
        refine mx_callV (As := [.long x20, .long x22]) (rest := []) hx hb hml hts hown hK hJ rfl rfl (ci := 3) rfl e25 (c_X3_checked l G P a0 x20 x22 σ8 x27 σ26 e28) me_X3_checked kw_887 ks_19 kw_885 (Nat.le_of_ble_eq_true rfl) (Nat.le_of_ble_eq_true rfl) rfl hl.1 rfl (Nat.le_of_ble_eq_true rfl) dX3_times_59 (fun H locs hJ => ?_)
        refine lv_lstore (lv' := [(9, .long x27), (7, .long x9), (5, .long x4), (0, .ref a0), (1, .long p1), (3, .long p3)]) hx hb dX3_times_62 hl (by decide) rfl (fun ls hl => ?_)
        refine lv_aload_n hx hb dX3_times_64 rfl (lv_at hl 3 rfl) ?_
        refine lv_aload_n hx hb dX3_times_65 rfl (lv_at hl 3 rfl) ?_
        obtain ⟨x29, e30, hf⟩ := mb0 hf
        refine my_gL hx hb hts hown hK hJ fd_RX3_13 hv_3_1 e30 dX3_times_66 ?_
        refine lv_lload hx hb dX3_times_69 (lv_at hl 1 rfl) ?_
        obtain ⟨x31, e32, hf⟩ := mb0 hf
        refine lv_ldiv hx hb dX3_times_71 (md_Ls e32).1 ?_
        refine mx_eL (md_Ls e32).2 ?_
        refine lv_lload_n hx hb dX3_times_72 rfl (lv_at hl 5 rfl) ?_
        refine lv_lload hx hb dX3_times_73 (lv_at hl 2 rfl) ?_
        obtain ⟨x33, e34, hf⟩ := mb0 hf
        refine lv_ldiv hx hb dX3_times_75 (md_Ls e34).1 ?_
        refine mx_eL (md_Ls e34).2 ?_
        obtain ⟨i35, e36, hf⟩ := mb0 hf
        obtain ⟨x38, σ37, e39, hf⟩ := mc0 hf
        refine mx_callV (As := [.long x31, .long x33]) (rest := []) hx hb hml hts hown hK hJ rfl rfl (ci := 3) rfl e36 (c_X3_checked l G P a0 x31 x33 σ26 x38 σ37 e39) me_X3_checked kw_887 ks_19 kw_885 (Nat.le_of_ble_eq_true rfl) (Nat.le_of_ble_eq_true rfl) rfl hl.1 rfl (Nat.le_of_ble_eq_true rfl) dX3_times_76 (fun H locs hJ => ?_)
        refine lv_lstore (lv' := [(11, .long x38), (9, .long x27), (7, .long x9), (5, .long x4), (0, .ref a0), (1, .long p1), (3, .long p3)]) hx hb dX3_times_79 hl (by decide) rfl (fun ls hl => ?_)
        refine lv_aload_n hx hb dX3_times_81 rfl (lv_at hl 4 rfl) ?_
        obtain ⟨x40, e41, hf⟩ := mb0 hf
        refine my_gI hx hb hts hown hK hJ fd_RX3_16 hv_3_2 e41 dX3_times_82 ?_
        refine lv_if_ne (tgt := 100) hx hb dX3_times_85 (by decide) (fun c42 => ?_) (fun c42 => ?_)
        · rw [if_neg c42] at hf
          exact D100  σ37 hf _ _ hJ ls (lv_sub hl [] rfl)
        · rw [if_pos c42] at hf
          refine lv_aload_n hx hb dX3_times_88 rfl (lv_at hl 4 rfl) ?_
          refine lv_lload hx hb dX3_times_89 (lv_at hl 1 rfl) ?_
          obtain ⟨σ43, e44, hf⟩ := mb0 hf
          refine my_pL hx hb hts hown hK hJ fd_RX3_7 cd_3 (Or.inl rfl) ht_3_0 e44 dX3_times_91 (fun H locs hJ => ?_)
          refine lv_aload_n hx hb dX3_times_94 rfl (lv_at hl 4 rfl) ?_
          refine lv_lload hx hb dX3_times_95 (lv_at hl 0 rfl) ?_
          obtain ⟨σ45, e46, hf⟩ := mb0 hf
          refine my_pL hx hb hts hown hK hJ fd_RX3_13 cd_3 (Or.inl rfl) ht_3_1 e46 dX3_times_97 (fun H locs hJ => ?_)
          exact D100  σ45 hf _ _ hJ ls (lv_sub hl [] rfl)
      · rw [if_pos c17] at hf
        exact D41 a0 σ8 hf _ _ hJ ls (lv_sub hl [2] rfl)
set_option maxHeartbeats 4000000 in
set_option maxRecDepth 100000 in
theorem c_X1_climb (l : Launch) (G : mx_G) (P : mx_P) (a0 : Nat) (p1 : Int32) (σ : mx_S) (σ' : mx_S) (hf : f_X1_climb P a0 p1 σ = some σ') : mxz σ ≤ mpc P → mxu σ ≤ mps P → mx_M l yX1_climb cX1_climb 3 none 3 83 G P [.ref a0, .int p1] σ none σ' := by
  intro hcap hcau
  refine mx_ofW (by decide +kernel) hcap hcau (Nat.le_of_ble_eq_true rfl) ?_
  intro p e s m below meth c hx hb hr hml hts hown hlocks hname hK hJ ls hl
  have hz0 := hJ.2.1
  have hown : s.vm.findClass RX1 = some m.cls := hown
  have hl : lv_has ls 3 [(0, .ref a0), (1, .int p1)] := hl
  have B2 : ∀ (v0 : Nat) (v1 : Int32) (v2 : Int32) (τ : mx_S) (o : (Int32 × mx_S) ⊕ ((mx_S))), f_X1_climb_B2 P v0 v1 v2 τ = some o → (∀ (y2 : Int32) (υ : mx_S), o = .inl (y2, υ) → ∀ (H : Heap) (locs : List Loc), mx_J G P s.heap (mxz σ) (mxu σ) υ H locs → ∀ ls : Array Slot, lv_has ls 3 [(0, .ref v0), (1, .int v1), (2, .int y2)] → W p l e (mx_rm P 3 83 σ) s m ([.ref a0, .int p1] : List Value).toArray below meth c H locs (mxz υ - mxz σ) (mxu υ - mxu σ) (mx_Z below G P none σ σ' [.ref a0, .int p1] s) (F0 m 2 ls [])) → (∀  (υ : mx_S), o = .inr υ → ∀ (H : Heap) (locs : List Loc), mx_J G P s.heap (mxz σ) (mxu σ) υ H locs → ∀ ls : Array Slot, lv_has ls 3 [] → W p l e (mx_rm P 3 83 σ) s m ([.ref a0, .int p1] : List Value).toArray below meth c H locs (mxz υ - mxz σ) (mxu υ - mxu σ) (mx_Z below G P none σ σ' [.ref a0, .int p1] s) (F0 m 34 ls [])) → ∀ (H : Heap) (locs : List Loc), mx_J G P s.heap (mxz σ) (mxu σ) τ H locs → ∀ ls : Array Slot, lv_has ls 3 [(0, .ref v0), (1, .int v1), (2, .int v2)] → W p l e (mx_rm P 3 83 σ) s m ([.ref a0, .int p1] : List Value).toArray below meth c H locs (mxz τ - mxz σ) (mxu τ - mxu σ) (mx_Z below G P none σ σ' [.ref a0, .int p1] s) (F0 m 2 ls []) := by
    intro v0 v1 v2 τ o hf Kb Ke0 H locs hJ ls hl
    unfold f_X1_climb_B2 at hf
    refine lv_iload_n hx hb dX1_climb_2 rfl (lv_at hl 2 rfl) ?_
    refine lv_iload_n hx hb dX1_climb_3 rfl (lv_at hl 1 rfl) ?_
    refine lv_icmp_ge (tgt := 34) hx hb dX1_climb_4 (by decide) (fun c1 => ?_) (fun c1 => ?_)
    · rw [if_pos c1] at hf
      exact Ke0 τ (Option.some.inj hf).symm _ _ hJ ls (lv_sub hl [] rfl)
    · rw [if_neg c1] at hf
      refine lv_aload_n hx hb dX1_climb_7 rfl (lv_at hl 0 rfl) ?_
      obtain ⟨b2, e3, hf⟩ := mb0 hf
      refine my_gR hx hb hts hown hK hJ fd_RX1_33 hv_1_7 e3 dX1_climb_8 ?_
      refine lv_aload_n hx hb dX1_climb_11 rfl (lv_at hl 0 rfl) ?_
      obtain ⟨b4, e5, hf⟩ := mb0 hf
      refine my_gR hx hb hts hown hK hJ fd_RX1_29 hv_1_6 e5 dX1_climb_12 ?_
      obtain ⟨x6, e7, hf⟩ := mb0 hf
      refine my_gL hx hb hts hown hK hJ fd_RX1_94 hv_3_0 e7 dX1_climb_15 ?_
      refine lv_aload_n hx hb dX1_climb_18 rfl (lv_at hl 0 rfl) ?_
      obtain ⟨b8, e9, hf⟩ := mb0 hf
      refine my_gR hx hb hts hown hK hJ fd_RX1_29 hv_1_6 e9 dX1_climb_19 ?_
      obtain ⟨x10, e11, hf⟩ := mb0 hf
      refine my_gL hx hb hts hown hK hJ fd_RX1_98 hv_3_1 e11 dX1_climb_22 ?_
      obtain ⟨i12, e13, hf⟩ := mb0 hf
      obtain ⟨σ14, e15, hf⟩ := mb0 hf
      refine mx_callV (As := [.long x6, .long x10]) (rest := []) hx hb hml hts hown hK hJ rfl rfl (ci := 3) rfl e13 (c_X3_times l G P b2 x6 x10 τ σ14 e15) me_X3_times kw_882 kw_883 kw_1586 (Nat.le_of_ble_eq_true rfl) (Nat.le_of_ble_eq_true rfl) rfl hl.1 rfl (Nat.le_of_ble_eq_true rfl) dX1_climb_25 (fun H locs hJ => ?_)
      obtain ⟨x16, e17, hf⟩ := mb0 hf
      refine lv_iinc (v := x16) (lv' := [(2, .int x16), (0, .ref v0), (1, .int v1)]) hx hb dX1_climb_28 hl (k := 2) rfl (by rw [← Option.some.inj e17]; rfl) (by decide) rfl (fun ls hl => ?_)
      refine lv_goto (tgt := 2) hx hb dX1_climb_31 (by decide) ?_
      exact Kb x16 σ14 (Option.some.inj hf).symm _ _ hJ ls (lv_sub hl [1, 2, 0] rfl)
  have L2 : ∀ (v0 : Nat) (v1 : Int32) (n : Nat) (v2 : Int32) (τ : mx_S) (o : (mx_S)), mx_lp (f_X1_climb_L2 P v0 v1) n (v2, τ) = some o → (∀  (υ : mx_S), o = υ → ∀ (H : Heap) (locs : List Loc), mx_J G P s.heap (mxz σ) (mxu σ) υ H locs → ∀ ls : Array Slot, lv_has ls 3 [] → W p l e (mx_rm P 3 83 σ) s m ([.ref a0, .int p1] : List Value).toArray below meth c H locs (mxz υ - mxz σ) (mxu υ - mxu σ) (mx_Z below G P none σ σ' [.ref a0, .int p1] s) (F0 m 34 ls [])) → ∀ (H : Heap) (locs : List Loc), mx_J G P s.heap (mxz σ) (mxu σ) τ H locs → ∀ ls : Array Slot, lv_has ls 3 [(0, .ref v0), (1, .int v1), (2, .int v2)] → W p l e (mx_rm P 3 83 σ) s m ([.ref a0, .int p1] : List Value).toArray below meth c H locs (mxz τ - mxz σ) (mxu τ - mxu σ) (mx_Z below G P none σ σ' [.ref a0, .int p1] s) (F0 m 2 ls []) := by
    intro v0 v1 n
    induction n with
    | zero =>
      intro v2 τ o hf
      rw [mx_lp0] at hf
      cases hf
    | succ n ih =>
      intro v2 τ o hf Ke0 H locs hJ ls hl
      rw [mx_lpS] at hf
      obtain ⟨b, eb, hf⟩ := mb0 hf
      refine B2 v0 v1 v2 τ b eb (fun y2 υ ho H locs hJ ls hl => ?_) (fun  υ ho H locs hJ ls hl => ?_) H locs hJ ls hl
      · subst ho
        exact ih y2 υ o hf Ke0 H locs hJ ls hl
      · subst ho
        exact Ke0  υ (Option.some.inj hf).symm _ _ hJ ls hl
  unfold f_X1_climb at hf
  refine lv_iconst (v := 0) hx hb dX1_climb_0 (by decide) ?_
  refine lv_istore_n (lv' := [(2, .int (0 : Int32)), (0, .ref a0), (1, .int p1)]) hx hb dX1_climb_1 rfl hl (by decide) rfl (fun ls hl => ?_)
  obtain ⟨o18, e19, hf⟩ := mb0 hf
  refine L2 a0 p1 (mpN P) (0 : Int32) σ o18 e19 (fun σ20 ho H locs hJ ls hl => ?_) _ _ hJ ls (lv_sub hl [1, 2, 0] rfl)
  · rw [ho] at hf
    have hf : (some σ20) = some σ' := hf
    exact my_vret hx hb hr hlocks hJ hf dX1_climb_34
set_option maxHeartbeats 4000000 in
set_option maxRecDepth 100000 in
theorem c_X1_reckonParabola (l : Launch) (G : mx_G) (P : mx_P) (a0 : Nat) (σ : mx_S) (σ' : mx_S) (hf : f_X1_reckonParabola P a0 σ = some σ') : mxz σ ≤ mpc P → mxu σ ≤ mps P → mx_M l yX1_reckonParabola cX1_reckonParabola 2 none 4 109 G P [.ref a0] σ none σ' := by
  intro hcap hcau
  refine mx_ofW (by decide +kernel) hcap hcau (Nat.le_of_ble_eq_true rfl) ?_
  intro p e s m below meth c hx hb hr hml hts hown hlocks hname hK hJ ls hl
  have hz0 := hJ.2.1
  have hown : s.vm.findClass RX1 = some m.cls := hown
  have hl : lv_has ls 2 [(0, .ref a0)] := hl
  have D100 : ∀  (τ : mx_S), f_X1_reckonParabola_D100 P  τ = some σ' → ∀ (H : Heap) (locs : List Loc), mx_J G P s.heap (mxz σ) (mxu σ) τ H locs → ∀ ls : Array Slot, lv_has ls 2 [] → W p l e (mx_rm P 4 109 σ) s m ([.ref a0] : List Value).toArray below meth c H locs (mxz τ - mxz σ) (mxu τ - mxu σ) (mx_Z below G P none σ σ' [.ref a0] s) (F0 m 100 ls []) := by
    intro  τ hf _ _ hJ ls hl
    unfold f_X1_reckonParabola_D100 at hf
    exact my_vret hx hb hr hlocks hJ hf dX1_reckonParabola_100
  have D56 : ∀ (v0 : Nat) (v1 : Int32) (τ : mx_S), f_X1_reckonParabola_D56 P v0 v1 τ = some σ' → ∀ (H : Heap) (locs : List Loc), mx_J G P s.heap (mxz σ) (mxu σ) τ H locs → ∀ ls : Array Slot, lv_has ls 2 [(0, .ref v0), (1, .int v1)] → W p l e (mx_rm P 4 109 σ) s m ([.ref a0] : List Value).toArray below meth c H locs (mxz τ - mxz σ) (mxu τ - mxu σ) (mx_Z below G P none σ σ' [.ref a0] s) (F0 m 56 ls []) := by
    intro v0 v1 τ hf _ _ hJ ls hl
    unfold f_X1_reckonParabola_D56 at hf
    refine lv_aload_n hx hb dX1_reckonParabola_56 rfl (lv_at hl 0 rfl) ?_
    obtain ⟨b11, e12, hf⟩ := mb0 hf
    refine my_gR hx hb hts hown hK hJ fd_RX1_33 hv_1_7 e12 dX1_reckonParabola_57 ?_
    refine lv_ldc2 hx hb hown (hts _ kw_1591) dX1_reckonParabola_60 ?_
    refine lv_lconst (v := 1) hx hb dX1_reckonParabola_63 (by decide) ?_
    obtain ⟨i13, e14, hf⟩ := mb0 hf
    obtain ⟨σ15, e16, hf⟩ := mb0 hf
    refine mx_callV (As := [.long (2 : Int64), .long (1 : Int64)]) (rest := []) hx hb hml hts hown hK hJ rfl rfl (ci := 3) rfl e14 (c_X3_set l G P b11 (2 : Int64) (1 : Int64) τ σ15 e16) me_X3_set kw_843 kw_844 kw_1561 (Nat.le_of_ble_eq_true rfl) (Nat.le_of_ble_eq_true rfl) rfl hl.1 rfl (Nat.le_of_ble_eq_true rfl) dX1_reckonParabola_64 (fun H locs hJ => ?_)
    refine lv_aload_n hx hb dX1_reckonParabola_67 rfl (lv_at hl 0 rfl) ?_
    refine lv_iconst (v := 2) hx hb dX1_reckonParabola_68 (by decide) ?_
    obtain ⟨i17, e18, hf⟩ := mb0 hf
    obtain ⟨σ19, e20, hf⟩ := mb0 hf
    refine mx_callV (As := [.int (2 : Int32)]) (rest := []) hx hb hml hts hown hK hJ rfl rfl (ci := 1) rfl e18 (c_X1_climb l G P v0 (2 : Int32) σ15 σ19 e20) me_X1_climb kw_1594 ks_54 kw_1592 (Nat.le_of_ble_eq_true rfl) (Nat.le_of_ble_eq_true rfl) rfl hl.1 rfl (Nat.le_of_ble_eq_true rfl) dX1_reckonParabola_69 (fun H locs hJ => ?_)
    refine lv_iload_n hx hb dX1_reckonParabola_72 rfl (lv_at hl 1 rfl) ?_
    refine lv_if_eq (tgt := 100) hx hb dX1_reckonParabola_73 (by decide) (fun c21 => ?_) (fun c21 => ?_)
    · rw [if_pos c21] at hf
      exact D100  σ19 hf _ _ hJ ls (lv_sub hl [] rfl)
    · rw [if_neg c21] at hf
      refine lv_aload_n hx hb dX1_reckonParabola_76 rfl (lv_at hl 0 rfl) ?_
      obtain ⟨b22, e23, hf⟩ := mb0 hf
      refine my_gR hx hb hts hown hK hJ fd_RX1_33 hv_1_7 e23 dX1_reckonParabola_77 ?_
      refine lv_aload_n hx hb dX1_reckonParabola_80 rfl (lv_at hl 0 rfl) ?_
      obtain ⟨b24, e25, hf⟩ := mb0 hf
      refine my_gR hx hb hts hown hK hJ fd_RX1_33 hv_1_7 e25 dX1_reckonParabola_81 ?_
      obtain ⟨x26, e27, hf⟩ := mb0 hf
      refine my_gL hx hb hts hown hK hJ fd_RX1_94 hv_3_0 e27 dX1_reckonParabola_84 ?_
      refine lv_lneg hx hb dX1_reckonParabola_87 ?_
      obtain ⟨σ28, e29, hf⟩ := mb0 hf
      refine my_pL hx hb hts hown hK hJ fd_RX1_94 cd_3 (Or.inl rfl) ht_3_0 e29 dX1_reckonParabola_88 (fun H locs hJ => ?_)
      refine lv_aload_n hx hb dX1_reckonParabola_91 rfl (lv_at hl 0 rfl) ?_
      obtain ⟨b30, e31, hf⟩ := mb0 hf
      refine my_gR hx hb hts hown hK hJ fd_RX1_33 hv_1_7 e31 dX1_reckonParabola_92 ?_
      refine lv_lconst (v := 1) hx hb dX1_reckonParabola_95 (by decide) ?_
      refine lv_lconst (v := 1) hx hb dX1_reckonParabola_96 (by decide) ?_
      obtain ⟨i32, e33, hf⟩ := mb0 hf
      obtain ⟨σ34, e35, hf⟩ := mb0 hf
      refine mx_callV (As := [.long (1 : Int64), .long (1 : Int64)]) (rest := []) hx hb hml hts hown hK hJ rfl rfl (ci := 3) rfl e33 (c_X3_add l G P b30 (1 : Int64) (1 : Int64) σ28 σ34 e35) me_X3_add kw_899 kw_900 kw_1570 (Nat.le_of_ble_eq_true rfl) (Nat.le_of_ble_eq_true rfl) rfl hl.1 rfl (Nat.le_of_ble_eq_true rfl) dX1_reckonParabola_97 (fun H locs hJ => ?_)
      exact D100  σ34 hf _ _ hJ ls (lv_sub hl [] rfl)
  have D27 : ∀ (v0 : Nat) (w0 : Int32) (τ : mx_S), f_X1_reckonParabola_D27 P v0 w0 τ = some σ' → ∀ (H : Heap) (locs : List Loc), mx_J G P s.heap (mxz σ) (mxu σ) τ H locs → ∀ ls : Array Slot, lv_has ls 2 [(0, .ref v0)] → W p l e (mx_rm P 4 109 σ) s m ([.ref a0] : List Value).toArray below meth c H locs (mxz τ - mxz σ) (mxu τ - mxu σ) (mx_Z below G P none σ σ' [.ref a0] s) (F0 m 27 ls [.int w0]) := by
    intro v0 w0 τ hf _ _ hJ ls hl
    unfold f_X1_reckonParabola_D27 at hf
    refine lv_istore_n (lv' := [(1, .int w0), (0, .ref v0)]) hx hb dX1_reckonParabola_27 rfl hl (by decide) rfl (fun ls hl => ?_)
    refine lv_iload_n hx hb dX1_reckonParabola_28 rfl (lv_at hl 0 rfl) ?_
    refine lv_if_eq (tgt := 56) hx hb dX1_reckonParabola_29 (by decide) (fun c10 => ?_) (fun c10 => ?_)
    · rw [if_pos c10] at hf
      exact D56 v0 w0 τ hf _ _ hJ ls (lv_sub hl [1, 0] rfl)
    · rw [if_neg c10] at hf
      refine lv_aload_n hx hb dX1_reckonParabola_32 rfl (lv_at hl 1 rfl) ?_
      obtain ⟨b36, e37, hf⟩ := mb0 hf
      refine my_gR hx hb hts hown hK hJ fd_RX1_29 hv_1_6 e37 dX1_reckonParabola_33 ?_
      refine lv_aload_n hx hb dX1_reckonParabola_36 rfl (lv_at hl 1 rfl) ?_
      obtain ⟨b38, e39, hf⟩ := mb0 hf
      refine my_gR hx hb hts hown hK hJ fd_RX1_29 hv_1_6 e39 dX1_reckonParabola_37 ?_
      obtain ⟨x40, e41, hf⟩ := mb0 hf
      refine my_gL hx hb hts hown hK hJ fd_RX1_94 hv_3_0 e41 dX1_reckonParabola_40 ?_
      refine lv_lneg hx hb dX1_reckonParabola_43 ?_
      obtain ⟨σ42, e43, hf⟩ := mb0 hf
      refine my_pL hx hb hts hown hK hJ fd_RX1_94 cd_3 (Or.inl rfl) ht_3_0 e43 dX1_reckonParabola_44 (fun H locs hJ => ?_)
      refine lv_aload_n hx hb dX1_reckonParabola_47 rfl (lv_at hl 1 rfl) ?_
      obtain ⟨b44, e45, hf⟩ := mb0 hf
      refine my_gR hx hb hts hown hK hJ fd_RX1_29 hv_1_6 e45 dX1_reckonParabola_48 ?_
      refine lv_lconst (v := 1) hx hb dX1_reckonParabola_51 (by decide) ?_
      refine lv_lconst (v := 1) hx hb dX1_reckonParabola_52 (by decide) ?_
      obtain ⟨i46, e47, hf⟩ := mb0 hf
      obtain ⟨σ48, e49, hf⟩ := mb0 hf
      refine mx_callV (As := [.long (1 : Int64), .long (1 : Int64)]) (rest := []) hx hb hml hts hown hK hJ rfl rfl (ci := 3) rfl e47 (c_X3_add l G P b44 (1 : Int64) (1 : Int64) σ42 σ48 e49) me_X3_add kw_899 kw_900 kw_1570 (Nat.le_of_ble_eq_true rfl) (Nat.le_of_ble_eq_true rfl) rfl hl.1 rfl (Nat.le_of_ble_eq_true rfl) dX1_reckonParabola_53 (fun H locs hJ => ?_)
      exact D56 v0 w0 σ48 hf _ _ hJ ls (lv_sub hl [1, 0] rfl)
  unfold f_X1_reckonParabola at hf
  refine lv_ldc2 hx hb hown (hts _ kw_1591) dX1_reckonParabola_0 ?_
  refine lv_aload_n hx hb dX1_reckonParabola_3 rfl (lv_at hl 0 rfl) ?_
  obtain ⟨b1, e2, hf⟩ := mb0 hf
  refine my_gR hx hb hts hown hK hJ fd_RX1_29 hv_1_6 e2 dX1_reckonParabola_4 ?_
  obtain ⟨x3, e4, hf⟩ := mb0 hf
  refine my_gL hx hb hts hown hK hJ fd_RX1_94 hv_3_0 e4 dX1_reckonParabola_7 ?_
  refine lv_lmul hx hb dX1_reckonParabola_10 ?_
  refine lv_aload_n hx hb dX1_reckonParabola_11 rfl (lv_at hl 0 rfl) ?_
  obtain ⟨b5, e6, hf⟩ := mb0 hf
  refine my_gR hx hb hts hown hK hJ fd_RX1_29 hv_1_6 e6 dX1_reckonParabola_12 ?_
  obtain ⟨x7, e8, hf⟩ := mb0 hf
  refine my_gL hx hb hts hown hK hJ fd_RX1_98 hv_3_1 e8 dX1_reckonParabola_15 ?_
  refine W.lcmp hx hb dX1_reckonParabola_18 ?_
  refine lv_if_le (tgt := 26) hx hb dX1_reckonParabola_19 (by decide) (fun c9 => ?_) (fun c9 => ?_)
  · rw [if_pos c9] at hf
    refine lv_iconst (v := 0) hx hb dX1_reckonParabola_26 (by decide) ?_
    exact D27 a0 (0 : Int32) σ hf _ _ hJ ls (lv_sub hl [0] rfl)
  · rw [if_neg c9] at hf
    refine lv_iconst (v := 1) hx hb dX1_reckonParabola_22 (by decide) ?_
    refine lv_goto (tgt := 27) hx hb dX1_reckonParabola_23 (by decide) ?_
    exact D27 a0 (1 : Int32) σ hf _ _ hJ ls (lv_sub hl [0] rfl)
set_option maxHeartbeats 4000000 in
set_option maxRecDepth 100000 in
theorem c_X1_reckonFifth (l : Launch) (G : mx_G) (P : mx_P) (a0 : Nat) (σ : mx_S) (σ' : mx_S) (hf : f_X1_reckonFifth P a0 σ = some σ') : mxz σ ≤ mpc P → mxu σ ≤ mps P → mx_M l yX1_reckonFifth cX1_reckonFifth 1 none 4 109 G P [.ref a0] σ none σ' := by
  intro hcap hcau
  refine mx_ofW (by decide +kernel) hcap hcau (Nat.le_of_ble_eq_true rfl) ?_
  intro p e s m below meth c hx hb hr hml hts hown hlocks hname hK hJ ls hl
  have hz0 := hJ.2.1
  have hown : s.vm.findClass RX1 = some m.cls := hown
  have hl : lv_has ls 1 [(0, .ref a0)] := hl
  unfold f_X1_reckonFifth at hf
  refine lv_aload_n hx hb dX1_reckonFifth_0 rfl (lv_at hl 0 rfl) ?_
  obtain ⟨b1, e2, hf⟩ := mb0 hf
  refine my_gR hx hb hts hown hK hJ fd_RX1_33 hv_1_7 e2 dX1_reckonFifth_1 ?_
  refine lv_ldc2 hx hb hown (hts _ kw_1600) dX1_reckonFifth_4 ?_
  refine lv_lconst (v := 1) hx hb dX1_reckonFifth_7 (by decide) ?_
  obtain ⟨i3, e4, hf⟩ := mb0 hf
  obtain ⟨σ5, e6, hf⟩ := mb0 hf
  refine mx_callV (As := [.long (6 : Int64), .long (1 : Int64)]) (rest := []) hx hb hml hts hown hK hJ rfl rfl (ci := 3) rfl e4 (c_X3_set l G P b1 (6 : Int64) (1 : Int64) σ σ5 e6) me_X3_set kw_843 kw_844 kw_1561 (Nat.le_of_ble_eq_true rfl) (Nat.le_of_ble_eq_true rfl) rfl hl.1 rfl (Nat.le_of_ble_eq_true rfl) dX1_reckonFifth_8 (fun H locs hJ => ?_)
  refine lv_aload_n hx hb dX1_reckonFifth_11 rfl (lv_at hl 0 rfl) ?_
  refine lv_iconst (v := 1) hx hb dX1_reckonFifth_12 (by decide) ?_
  obtain ⟨i7, e8, hf⟩ := mb0 hf
  obtain ⟨σ9, e10, hf⟩ := mb0 hf
  refine mx_callV (As := [.int (1 : Int32)]) (rest := []) hx hb hml hts hown hK hJ rfl rfl (ci := 1) rfl e8 (c_X1_climb l G P a0 (1 : Int32) σ5 σ9 e10) me_X1_climb kw_1594 ks_54 kw_1592 (Nat.le_of_ble_eq_true rfl) (Nat.le_of_ble_eq_true rfl) rfl hl.1 rfl (Nat.le_of_ble_eq_true rfl) dX1_reckonFifth_13 (fun H locs hJ => ?_)
  refine lv_aload_n hx hb dX1_reckonFifth_16 rfl (lv_at hl 0 rfl) ?_
  obtain ⟨b11, e12, hf⟩ := mb0 hf
  refine my_gR hx hb hts hown hK hJ fd_RX1_33 hv_1_7 e12 dX1_reckonFifth_17 ?_
  refine lv_ldc2 hx hb hown (hts _ kw_1601) dX1_reckonFifth_20 ?_
  refine lv_lconst (v := 1) hx hb dX1_reckonFifth_23 (by decide) ?_
  obtain ⟨i13, e14, hf⟩ := mb0 hf
  obtain ⟨σ15, e16, hf⟩ := mb0 hf
  refine mx_callV (As := [.long (-15 : Int64), .long (1 : Int64)]) (rest := []) hx hb hml hts hown hK hJ rfl rfl (ci := 3) rfl e14 (c_X3_add l G P b11 (-15 : Int64) (1 : Int64) σ9 σ15 e16) me_X3_add kw_899 kw_900 kw_1570 (Nat.le_of_ble_eq_true rfl) (Nat.le_of_ble_eq_true rfl) rfl hl.1 rfl (Nat.le_of_ble_eq_true rfl) dX1_reckonFifth_24 (fun H locs hJ => ?_)
  refine lv_aload_n hx hb dX1_reckonFifth_27 rfl (lv_at hl 0 rfl) ?_
  refine lv_iconst (v := 1) hx hb dX1_reckonFifth_28 (by decide) ?_
  obtain ⟨i17, e18, hf⟩ := mb0 hf
  obtain ⟨σ19, e20, hf⟩ := mb0 hf
  refine mx_callV (As := [.int (1 : Int32)]) (rest := []) hx hb hml hts hown hK hJ rfl rfl (ci := 1) rfl e18 (c_X1_climb l G P a0 (1 : Int32) σ15 σ19 e20) me_X1_climb kw_1594 ks_54 kw_1592 (Nat.le_of_ble_eq_true rfl) (Nat.le_of_ble_eq_true rfl) rfl hl.1 rfl (Nat.le_of_ble_eq_true rfl) dX1_reckonFifth_29 (fun H locs hJ => ?_)
  refine lv_aload_n hx hb dX1_reckonFifth_32 rfl (lv_at hl 0 rfl) ?_
  obtain ⟨b21, e22, hf⟩ := mb0 hf
  refine my_gR hx hb hts hown hK hJ fd_RX1_33 hv_1_7 e22 dX1_reckonFifth_33 ?_
  refine lv_ldc2 hx hb hown (hts _ kw_1602) dX1_reckonFifth_36 ?_
  refine lv_lconst (v := 1) hx hb dX1_reckonFifth_39 (by decide) ?_
  obtain ⟨i23, e24, hf⟩ := mb0 hf
  obtain ⟨σ25, e26, hf⟩ := mb0 hf
  refine mx_callV (As := [.long (10 : Int64), .long (1 : Int64)]) (rest := []) hx hb hml hts hown hK hJ rfl rfl (ci := 3) rfl e24 (c_X3_add l G P b21 (10 : Int64) (1 : Int64) σ19 σ25 e26) me_X3_add kw_899 kw_900 kw_1570 (Nat.le_of_ble_eq_true rfl) (Nat.le_of_ble_eq_true rfl) rfl hl.1 rfl (Nat.le_of_ble_eq_true rfl) dX1_reckonFifth_40 (fun H locs hJ => ?_)
  refine lv_aload_n hx hb dX1_reckonFifth_43 rfl (lv_at hl 0 rfl) ?_
  refine lv_iconst (v := 3) hx hb dX1_reckonFifth_44 (by decide) ?_
  obtain ⟨i27, e28, hf⟩ := mb0 hf
  obtain ⟨σ29, e30, hf⟩ := mb0 hf
  refine mx_callV (As := [.int (3 : Int32)]) (rest := []) hx hb hml hts hown hK hJ rfl rfl (ci := 1) rfl e28 (c_X1_climb l G P a0 (3 : Int32) σ25 σ29 e30) me_X1_climb kw_1594 ks_54 kw_1592 (Nat.le_of_ble_eq_true rfl) (Nat.le_of_ble_eq_true rfl) rfl hl.1 rfl (Nat.le_of_ble_eq_true rfl) dX1_reckonFifth_45 (fun H locs hJ => ?_)
  exact my_vret hx hb hr hlocks hJ hf dX1_reckonFifth_48
set_option maxHeartbeats 4000000 in
set_option maxRecDepth 100000 in
theorem c_X1_reckonSeventh (l : Launch) (G : mx_G) (P : mx_P) (a0 : Nat) (σ : mx_S) (σ' : mx_S) (hf : f_X1_reckonSeventh P a0 σ = some σ') : mxz σ ≤ mpc P → mxu σ ≤ mps P → mx_M l yX1_reckonSeventh cX1_reckonSeventh 1 none 4 109 G P [.ref a0] σ none σ' := by
  intro hcap hcau
  refine mx_ofW (by decide +kernel) hcap hcau (Nat.le_of_ble_eq_true rfl) ?_
  intro p e s m below meth c hx hb hr hml hts hown hlocks hname hK hJ ls hl
  have hz0 := hJ.2.1
  have hown : s.vm.findClass RX1 = some m.cls := hown
  have hl : lv_has ls 1 [(0, .ref a0)] := hl
  unfold f_X1_reckonSeventh at hf
  refine lv_aload_n hx hb dX1_reckonSeventh_0 rfl (lv_at hl 0 rfl) ?_
  obtain ⟨b1, e2, hf⟩ := mb0 hf
  refine my_gR hx hb hts hown hK hJ fd_RX1_33 hv_1_7 e2 dX1_reckonSeventh_1 ?_
  refine lv_ldc2 hx hb hown (hts _ kw_1607) dX1_reckonSeventh_4 ?_
  refine lv_lconst (v := 1) hx hb dX1_reckonSeventh_7 (by decide) ?_
  obtain ⟨i3, e4, hf⟩ := mb0 hf
  obtain ⟨σ5, e6, hf⟩ := mb0 hf
  refine mx_callV (As := [.long (-20 : Int64), .long (1 : Int64)]) (rest := []) hx hb hml hts hown hK hJ rfl rfl (ci := 3) rfl e4 (c_X3_set l G P b1 (-20 : Int64) (1 : Int64) σ σ5 e6) me_X3_set kw_843 kw_844 kw_1561 (Nat.le_of_ble_eq_true rfl) (Nat.le_of_ble_eq_true rfl) rfl hl.1 rfl (Nat.le_of_ble_eq_true rfl) dX1_reckonSeventh_8 (fun H locs hJ => ?_)
  refine lv_aload_n hx hb dX1_reckonSeventh_11 rfl (lv_at hl 0 rfl) ?_
  refine lv_iconst (v := 1) hx hb dX1_reckonSeventh_12 (by decide) ?_
  obtain ⟨i7, e8, hf⟩ := mb0 hf
  obtain ⟨σ9, e10, hf⟩ := mb0 hf
  refine mx_callV (As := [.int (1 : Int32)]) (rest := []) hx hb hml hts hown hK hJ rfl rfl (ci := 1) rfl e8 (c_X1_climb l G P a0 (1 : Int32) σ5 σ9 e10) me_X1_climb kw_1594 ks_54 kw_1592 (Nat.le_of_ble_eq_true rfl) (Nat.le_of_ble_eq_true rfl) rfl hl.1 rfl (Nat.le_of_ble_eq_true rfl) dX1_reckonSeventh_13 (fun H locs hJ => ?_)
  refine lv_aload_n hx hb dX1_reckonSeventh_16 rfl (lv_at hl 0 rfl) ?_
  obtain ⟨b11, e12, hf⟩ := mb0 hf
  refine my_gR hx hb hts hown hK hJ fd_RX1_33 hv_1_7 e12 dX1_reckonSeventh_17 ?_
  refine lv_ldc2 hx hb hown (hts _ kw_1608) dX1_reckonSeventh_20 ?_
  refine lv_lconst (v := 1) hx hb dX1_reckonSeventh_23 (by decide) ?_
  obtain ⟨i13, e14, hf⟩ := mb0 hf
  obtain ⟨σ15, e16, hf⟩ := mb0 hf
  refine mx_callV (As := [.long (70 : Int64), .long (1 : Int64)]) (rest := []) hx hb hml hts hown hK hJ rfl rfl (ci := 3) rfl e14 (c_X3_add l G P b11 (70 : Int64) (1 : Int64) σ9 σ15 e16) me_X3_add kw_899 kw_900 kw_1570 (Nat.le_of_ble_eq_true rfl) (Nat.le_of_ble_eq_true rfl) rfl hl.1 rfl (Nat.le_of_ble_eq_true rfl) dX1_reckonSeventh_24 (fun H locs hJ => ?_)
  refine lv_aload_n hx hb dX1_reckonSeventh_27 rfl (lv_at hl 0 rfl) ?_
  refine lv_iconst (v := 1) hx hb dX1_reckonSeventh_28 (by decide) ?_
  obtain ⟨i17, e18, hf⟩ := mb0 hf
  obtain ⟨σ19, e20, hf⟩ := mb0 hf
  refine mx_callV (As := [.int (1 : Int32)]) (rest := []) hx hb hml hts hown hK hJ rfl rfl (ci := 1) rfl e18 (c_X1_climb l G P a0 (1 : Int32) σ15 σ19 e20) me_X1_climb kw_1594 ks_54 kw_1592 (Nat.le_of_ble_eq_true rfl) (Nat.le_of_ble_eq_true rfl) rfl hl.1 rfl (Nat.le_of_ble_eq_true rfl) dX1_reckonSeventh_29 (fun H locs hJ => ?_)
  refine lv_aload_n hx hb dX1_reckonSeventh_32 rfl (lv_at hl 0 rfl) ?_
  obtain ⟨b21, e22, hf⟩ := mb0 hf
  refine my_gR hx hb hts hown hK hJ fd_RX1_33 hv_1_7 e22 dX1_reckonSeventh_33 ?_
  refine lv_ldc2 hx hb hown (hts _ kw_1609) dX1_reckonSeventh_36 ?_
  refine lv_lconst (v := 1) hx hb dX1_reckonSeventh_39 (by decide) ?_
  obtain ⟨i23, e24, hf⟩ := mb0 hf
  obtain ⟨σ25, e26, hf⟩ := mb0 hf
  refine mx_callV (As := [.long (-84 : Int64), .long (1 : Int64)]) (rest := []) hx hb hml hts hown hK hJ rfl rfl (ci := 3) rfl e24 (c_X3_add l G P b21 (-84 : Int64) (1 : Int64) σ19 σ25 e26) me_X3_add kw_899 kw_900 kw_1570 (Nat.le_of_ble_eq_true rfl) (Nat.le_of_ble_eq_true rfl) rfl hl.1 rfl (Nat.le_of_ble_eq_true rfl) dX1_reckonSeventh_40 (fun H locs hJ => ?_)
  refine lv_aload_n hx hb dX1_reckonSeventh_43 rfl (lv_at hl 0 rfl) ?_
  refine lv_iconst (v := 1) hx hb dX1_reckonSeventh_44 (by decide) ?_
  obtain ⟨i27, e28, hf⟩ := mb0 hf
  obtain ⟨σ29, e30, hf⟩ := mb0 hf
  refine mx_callV (As := [.int (1 : Int32)]) (rest := []) hx hb hml hts hown hK hJ rfl rfl (ci := 1) rfl e28 (c_X1_climb l G P a0 (1 : Int32) σ25 σ29 e30) me_X1_climb kw_1594 ks_54 kw_1592 (Nat.le_of_ble_eq_true rfl) (Nat.le_of_ble_eq_true rfl) rfl hl.1 rfl (Nat.le_of_ble_eq_true rfl) dX1_reckonSeventh_45 (fun H locs hJ => ?_)
  refine lv_aload_n hx hb dX1_reckonSeventh_48 rfl (lv_at hl 0 rfl) ?_
  obtain ⟨b31, e32, hf⟩ := mb0 hf
  refine my_gR hx hb hts hown hK hJ fd_RX1_33 hv_1_7 e32 dX1_reckonSeventh_49 ?_
  refine lv_ldc2 hx hb hown (hts _ kw_1610) dX1_reckonSeventh_52 ?_
  refine lv_lconst (v := 1) hx hb dX1_reckonSeventh_55 (by decide) ?_
  obtain ⟨i33, e34, hf⟩ := mb0 hf
  obtain ⟨σ35, e36, hf⟩ := mb0 hf
  refine mx_callV (As := [.long (35 : Int64), .long (1 : Int64)]) (rest := []) hx hb hml hts hown hK hJ rfl rfl (ci := 3) rfl e34 (c_X3_add l G P b31 (35 : Int64) (1 : Int64) σ29 σ35 e36) me_X3_add kw_899 kw_900 kw_1570 (Nat.le_of_ble_eq_true rfl) (Nat.le_of_ble_eq_true rfl) rfl hl.1 rfl (Nat.le_of_ble_eq_true rfl) dX1_reckonSeventh_56 (fun H locs hJ => ?_)
  refine lv_aload_n hx hb dX1_reckonSeventh_59 rfl (lv_at hl 0 rfl) ?_
  refine lv_iconst (v := 4) hx hb dX1_reckonSeventh_60 (by decide) ?_
  obtain ⟨i37, e38, hf⟩ := mb0 hf
  obtain ⟨σ39, e40, hf⟩ := mb0 hf
  refine mx_callV (As := [.int (4 : Int32)]) (rest := []) hx hb hml hts hown hK hJ rfl rfl (ci := 1) rfl e38 (c_X1_climb l G P a0 (4 : Int32) σ35 σ39 e40) me_X1_climb kw_1594 ks_54 kw_1592 (Nat.le_of_ble_eq_true rfl) (Nat.le_of_ble_eq_true rfl) rfl hl.1 rfl (Nat.le_of_ble_eq_true rfl) dX1_reckonSeventh_61 (fun H locs hJ => ?_)
  exact my_vret hx hb hr hlocks hJ hf dX1_reckonSeventh_64
set_option maxHeartbeats 4000000 in
set_option maxRecDepth 100000 in
theorem c_X3_copy (l : Launch) (G : mx_G) (P : mx_P) (a0 : Nat) (a1 : Nat) (σ : mx_S) (σ' : mx_S) (hf : f_X3_copy P a0 a1 σ = some σ') : mxz σ ≤ mpc P → mxu σ ≤ mps P → mx_M l yX3_copy cX3_copy 2 none 0 0 G P [.ref a0, .ref a1] σ none σ' := by
  intro hcap hcau
  refine mx_ofW (by decide +kernel) hcap hcau (Nat.le_of_ble_eq_true rfl) ?_
  intro p e s m below meth c hx hb hr hml hts hown hlocks hname hK hJ ls hl
  have hz0 := hJ.2.1
  have hown : s.vm.findClass RX3 = some m.cls := hown
  have hl : lv_has ls 2 [(0, .ref a0), (1, .ref a1)] := hl
  unfold f_X3_copy at hf
  refine lv_aload_n hx hb dX3_copy_0 rfl (lv_at hl 0 rfl) ?_
  refine lv_aload_n hx hb dX3_copy_1 rfl (lv_at hl 1 rfl) ?_
  obtain ⟨x1, e2, hf⟩ := mb0 hf
  refine my_gL hx hb hts hown hK hJ fd_RX3_7 hv_3_0 e2 dX3_copy_2 ?_
  obtain ⟨σ3, e4, hf⟩ := mb0 hf
  refine my_pL hx hb hts hown hK hJ fd_RX3_7 cd_3 (Or.inl rfl) ht_3_0 e4 dX3_copy_5 (fun H locs hJ => ?_)
  refine lv_aload_n hx hb dX3_copy_8 rfl (lv_at hl 0 rfl) ?_
  refine lv_aload_n hx hb dX3_copy_9 rfl (lv_at hl 1 rfl) ?_
  obtain ⟨x5, e6, hf⟩ := mb0 hf
  refine my_gL hx hb hts hown hK hJ fd_RX3_13 hv_3_1 e6 dX3_copy_10 ?_
  obtain ⟨σ7, e8, hf⟩ := mb0 hf
  refine my_pL hx hb hts hown hK hJ fd_RX3_13 cd_3 (Or.inl rfl) ht_3_1 e8 dX3_copy_13 (fun H locs hJ => ?_)
  refine lv_aload_n hx hb dX3_copy_16 rfl (lv_at hl 0 rfl) ?_
  refine lv_aload_n hx hb dX3_copy_17 rfl (lv_at hl 1 rfl) ?_
  obtain ⟨x9, e10, hf⟩ := mb0 hf
  refine my_gI hx hb hts hown hK hJ fd_RX3_16 hv_3_2 e10 dX3_copy_18 ?_
  obtain ⟨σ11, e12, hf⟩ := mb0 hf
  refine my_pZ hx hb hts hown hK hJ fd_RX3_16 cd_3 (Or.inl rfl) ht_3_2 e12 dX3_copy_21 (fun H locs hJ => ?_)
  exact my_vret hx hb hr hlocks hJ hf dX3_copy_24
set_option maxHeartbeats 4000000 in
set_option maxRecDepth 100000 in
theorem c_X1_addPart (l : Launch) (G : mx_G) (P : mx_P) (a0 : Nat) (p1 : Int32) (p2 : Int64) (p4 : Int64) (a6 : Nat) (σ : mx_S) (σ' : mx_S) (hf : f_X1_addPart P a0 p1 p2 p4 a6 σ = some σ') : mxz σ ≤ mpc P → mxu σ ≤ mps P → mx_M l yX1_addPart cX1_addPart 7 none 5 130 G P [.ref a0, .int p1, .long p2, .long p4, .ref a6] σ none σ' := by
  intro hcap hcau
  refine mx_ofW (by decide +kernel) hcap hcau (Nat.le_of_ble_eq_true rfl) ?_
  intro p e s m below meth c hx hb hr hml hts hown hlocks hname hK hJ ls hl
  have hz0 := hJ.2.1
  have hown : s.vm.findClass RX1 = some m.cls := hown
  have hl : lv_has ls 7 [(0, .ref a0), (1, .int p1), (2, .long p2), (4, .long p4), (6, .ref a6)] := hl
  have D162 : ∀  (τ : mx_S), f_X1_addPart_D162 P  τ = some σ' → ∀ (H : Heap) (locs : List Loc), mx_J G P s.heap (mxz σ) (mxu σ) τ H locs → ∀ ls : Array Slot, lv_has ls 7 [] → W p l e (mx_rm P 5 130 σ) s m ([.ref a0, .int p1, .long p2, .long p4, .ref a6] : List Value).toArray below meth c H locs (mxz τ - mxz σ) (mxu τ - mxu σ) (mx_Z below G P none σ σ' [.ref a0, .int p1, .long p2, .long p4, .ref a6] s) (F0 m 162 ls []) := by
    intro  τ hf _ _ hJ ls hl
    unfold f_X1_addPart_D162 at hf
    exact my_vret hx hb hr hlocks hJ hf dX1_addPart_162
  have D100 : ∀ (v0 : Nat) (v1 : Int32) (v6 : Nat) (τ : mx_S), f_X1_addPart_D100 P v0 v1 v6 τ = some σ' → ∀ (H : Heap) (locs : List Loc), mx_J G P s.heap (mxz σ) (mxu σ) τ H locs → ∀ ls : Array Slot, lv_has ls 7 [(0, .ref v0), (1, .int v1), (6, .ref v6)] → W p l e (mx_rm P 5 130 σ) s m ([.ref a0, .int p1, .long p2, .long p4, .ref a6] : List Value).toArray below meth c H locs (mxz τ - mxz σ) (mxu τ - mxu σ) (mx_Z below G P none σ σ' [.ref a0, .int p1, .long p2, .long p4, .ref a6] s) (F0 m 100 ls []) := by
    intro v0 v1 v6 τ hf _ _ hJ ls hl
    unfold f_X1_addPart_D100 at hf
    refine lv_aload_n hx hb dX1_addPart_100 rfl (lv_at hl 0 rfl) ?_
    obtain ⟨b31, e32, hf⟩ := mb0 hf
    refine my_gR hx hb hts hown hK hJ fd_RX1_33 hv_1_7 e32 dX1_addPart_101 ?_
    refine lv_aload_n hx hb dX1_addPart_104 rfl (lv_at hl 0 rfl) ?_
    obtain ⟨b33, e34, hf⟩ := mb0 hf
    refine my_gR hx hb hts hown hK hJ fd_RX1_19 hv_1_4 e34 dX1_addPart_105 ?_
    refine lv_iload_n hx hb dX1_addPart_108 rfl (lv_at hl 1 rfl) ?_
    obtain ⟨x35, e36, hf⟩ := mb0 hf
    refine mx_aL hx hb hK hJ e36 dX1_addPart_109 ?_
    refine lv_aload_n hx hb dX1_addPart_110 rfl (lv_at hl 0 rfl) ?_
    obtain ⟨b37, e38, hf⟩ := mb0 hf
    refine my_gR hx hb hts hown hK hJ fd_RX1_23 hv_1_5 e38 dX1_addPart_111 ?_
    refine lv_iload_n hx hb dX1_addPart_114 rfl (lv_at hl 1 rfl) ?_
    obtain ⟨x39, e40, hf⟩ := mb0 hf
    refine mx_aL hx hb hK hJ e40 dX1_addPart_115 ?_
    obtain ⟨i41, e42, hf⟩ := mb0 hf
    obtain ⟨σ43, e44, hf⟩ := mb0 hf
    refine mx_callV (As := [.long x35, .long x39]) (rest := []) hx hb hml hts hown hK hJ rfl rfl (ci := 3) rfl e42 (c_X3_times l G P b31 x35 x39 τ σ43 e44) me_X3_times kw_882 kw_883 kw_1586 (Nat.le_of_ble_eq_true rfl) (Nat.le_of_ble_eq_true rfl) rfl hl.1 rfl (Nat.le_of_ble_eq_true rfl) dX1_addPart_116 (fun H locs hJ => ?_)
    refine lv_aload hx hb dX1_addPart_119 (lv_at hl 2 rfl) ?_
    refine lv_aload_n hx hb dX1_addPart_121 rfl (lv_at hl 0 rfl) ?_
    obtain ⟨b45, e46, hf⟩ := mb0 hf
    refine my_gR hx hb hts hown hK hJ fd_RX1_13 hv_1_2 e46 dX1_addPart_122 ?_
    refine lv_iload_n hx hb dX1_addPart_125 rfl (lv_at hl 1 rfl) ?_
    obtain ⟨x47, e48, hf⟩ := mb0 hf
    refine mx_aI hx hb hK hJ e48 dX1_addPart_126 ?_
    refine lv_i2l hx hb dX1_addPart_127 rfl ?_
    refine lv_aload_n hx hb dX1_addPart_128 rfl (lv_at hl 0 rfl) ?_
    obtain ⟨b49, e50, hf⟩ := mb0 hf
    refine my_gR hx hb hts hown hK hJ fd_RX1_33 hv_1_7 e50 dX1_addPart_129 ?_
    obtain ⟨x51, e52, hf⟩ := mb0 hf
    refine my_gL hx hb hts hown hK hJ fd_RX1_94 hv_3_0 e52 dX1_addPart_132 ?_
    refine lv_lmul hx hb dX1_addPart_135 ?_
    refine lv_aload_n hx hb dX1_addPart_136 rfl (lv_at hl 0 rfl) ?_
    obtain ⟨b53, e54, hf⟩ := mb0 hf
    refine my_gR hx hb hts hown hK hJ fd_RX1_33 hv_1_7 e54 dX1_addPart_137 ?_
    obtain ⟨x55, e56, hf⟩ := mb0 hf
    refine my_gL hx hb hts hown hK hJ fd_RX1_98 hv_3_1 e56 dX1_addPart_140 ?_
    obtain ⟨i57, e58, hf⟩ := mb0 hf
    obtain ⟨σ59, e60, hf⟩ := mb0 hf
    refine mx_callV (As := [.long ((x47.toInt64) * x51), .long x55]) (rest := []) hx hb hml hts hown hK hJ rfl rfl (ci := 3) rfl e58 (c_X3_add l G P v6 ((x47.toInt64) * x51) x55 σ43 σ59 e60) me_X3_add kw_899 kw_900 kw_1570 (Nat.le_of_ble_eq_true rfl) (Nat.le_of_ble_eq_true rfl) rfl hl.1 rfl (Nat.le_of_ble_eq_true rfl) dX1_addPart_143 (fun H locs hJ => ?_)
    refine lv_aload_n hx hb dX1_addPart_146 rfl (lv_at hl 0 rfl) ?_
    obtain ⟨b61, e62, hf⟩ := mb0 hf
    refine my_gR hx hb hts hown hK hJ fd_RX1_33 hv_1_7 e62 dX1_addPart_147 ?_
    obtain ⟨x63, e64, hf⟩ := mb0 hf
    refine my_gI hx hb hts hown hK hJ fd_RX1_108 hv_3_2 e64 dX1_addPart_150 ?_
    refine lv_if_eq (tgt := 162) hx hb dX1_addPart_153 (by decide) (fun c65 => ?_) (fun c65 => ?_)
    · rw [if_pos c65] at hf
      exact D162  σ59 hf _ _ hJ ls (lv_sub hl [] rfl)
    · rw [if_neg c65] at hf
      refine lv_aload hx hb dX1_addPart_156 (lv_at hl 2 rfl) ?_
      refine lv_iconst (v := 1) hx hb dX1_addPart_158 (by decide) ?_
      obtain ⟨σ66, e67, hf⟩ := mb0 hf
      refine my_pZ hx hb hts hown hK hJ fd_RX1_108 cd_3 (Or.inl rfl) ht_3_2 e67 dX1_addPart_159 (fun H locs hJ => ?_)
      exact D162  σ66 hf _ _ hJ ls (lv_sub hl [] rfl)
  unfold f_X1_addPart at hf
  refine lv_aload_n hx hb dX1_addPart_0 rfl (lv_at hl 0 rfl) ?_
  obtain ⟨b1, e2, hf⟩ := mb0 hf
  refine my_gR hx hb hts hown hK hJ fd_RX1_13 hv_1_2 e2 dX1_addPart_1 ?_
  refine lv_iload_n hx hb dX1_addPart_4 rfl (lv_at hl 1 rfl) ?_
  obtain ⟨x3, e4, hf⟩ := mb0 hf
  refine mx_aI hx hb hK hJ e4 dX1_addPart_5 ?_
  refine lv_if_ne (tgt := 10) hx hb dX1_addPart_6 (by decide) (fun c5 => ?_) (fun c5 => ?_)
  · rw [if_neg c5] at hf
    refine lv_aload_n hx hb dX1_addPart_10 rfl (lv_at hl 0 rfl) ?_
    obtain ⟨b6, e7, hf⟩ := mb0 hf
    refine my_gR hx hb hts hown hK hJ fd_RX1_29 hv_1_6 e7 dX1_addPart_11 ?_
    refine lv_lload_n hx hb dX1_addPart_14 rfl (lv_at hl 2 rfl) ?_
    refine lv_lload hx hb dX1_addPart_15 (lv_at hl 3 rfl) ?_
    obtain ⟨i8, e9, hf⟩ := mb0 hf
    obtain ⟨σ10, e11, hf⟩ := mb0 hf
    refine mx_callV (As := [.long p2, .long p4]) (rest := []) hx hb hml hts hown hK hJ rfl rfl (ci := 3) rfl e9 (c_X3_set l G P b6 p2 p4 σ σ10 e11) me_X3_set kw_843 kw_844 kw_1561 (Nat.le_of_ble_eq_true rfl) (Nat.le_of_ble_eq_true rfl) rfl hl.1 rfl (Nat.le_of_ble_eq_true rfl) dX1_addPart_17 (fun H locs hJ => ?_)
    refine lv_aload_n hx hb dX1_addPart_20 rfl (lv_at hl 0 rfl) ?_
    obtain ⟨b12, e13, hf⟩ := mb0 hf
    refine my_gR hx hb hts hown hK hJ fd_RX1_29 hv_1_6 e13 dX1_addPart_21 ?_
    refine lv_lconst (v := 1) hx hb dX1_addPart_24 (by decide) ?_
    refine lv_aload_n hx hb dX1_addPart_25 rfl (lv_at hl 0 rfl) ?_
    obtain ⟨b14, e15, hf⟩ := mb0 hf
    refine my_gR hx hb hts hown hK hJ fd_RX1_9 hv_1_1 e15 dX1_addPart_26 ?_
    refine lv_iload_n hx hb dX1_addPart_29 rfl (lv_at hl 1 rfl) ?_
    obtain ⟨x16, e17, hf⟩ := mb0 hf
    refine mx_aI hx hb hK hJ e17 dX1_addPart_30 ?_
    refine lv_i2l hx hb dX1_addPart_31 rfl ?_
    obtain ⟨i18, e19, hf⟩ := mb0 hf
    obtain ⟨σ20, e21, hf⟩ := mb0 hf
    refine mx_callV (As := [.long (1 : Int64), .long (x16.toInt64)]) (rest := []) hx hb hml hts hown hK hJ rfl rfl (ci := 3) rfl e19 (c_X3_times l G P b12 (1 : Int64) (x16.toInt64) σ10 σ20 e21) me_X3_times kw_882 kw_883 kw_1586 (Nat.le_of_ble_eq_true rfl) (Nat.le_of_ble_eq_true rfl) rfl hl.1 rfl (Nat.le_of_ble_eq_true rfl) dX1_addPart_32 (fun H locs hJ => ?_)
    refine lv_aload_n hx hb dX1_addPart_35 rfl (lv_at hl 0 rfl) ?_
    obtain ⟨b22, e23, hf⟩ := mb0 hf
    refine my_gR hx hb hts hown hK hJ fd_RX1_16 hv_1_3 e23 dX1_addPart_36 ?_
    refine lv_iload_n hx hb dX1_addPart_39 rfl (lv_at hl 1 rfl) ?_
    obtain ⟨x24, e25, hf⟩ := mb0 hf
    refine mx_aI hx hb hK hJ e25 dX1_addPart_40 ?_
    by_cases c26 : x24 = (2 : Int32)
    · rw [if_pos c26] at hf
      refine lv_tableIn (tgt := 68) (off := 27) hx hb dX1_addPart_41 (by rw [c26] <;> decide) (by rw [c26] <;> decide) (by rw [c26] <;> decide) (by decide) ?_
      refine lv_aload_n hx hb dX1_addPart_68 rfl (lv_at hl 0 rfl) ?_
      obtain ⟨i27, e28, hf⟩ := mb0 hf
      obtain ⟨σ29, e30, hf⟩ := mb0 hf
      refine mx_callV (As := []) (rest := []) hx hb hml hts hown hK hJ rfl rfl (ci := 1) rfl e28 (c_X1_reckonParabola l G P a0 σ20 σ29 e30) me_X1_reckonParabola kw_1589 ks_53 kw_1587 (Nat.le_of_ble_eq_true rfl) (Nat.le_of_ble_eq_true rfl) rfl hl.1 rfl (Nat.le_of_ble_eq_true rfl) dX1_addPart_69 (fun H locs hJ => ?_)
      refine lv_goto (tgt := 100) hx hb dX1_addPart_72 (by decide) ?_
      exact D100 a0 p1 a6 σ29 hf _ _ hJ ls (lv_sub hl [0, 1, 4] rfl)
    rw [if_neg c26] at hf
    by_cases c68 : x24 = (3 : Int32)
    · rw [if_pos c68] at hf
      refine lv_tableIn (tgt := 75) (off := 34) hx hb dX1_addPart_41 (by rw [c68] <;> decide) (by rw [c68] <;> decide) (by rw [c68] <;> decide) (by decide) ?_
      refine lv_aload_n hx hb dX1_addPart_75 rfl (lv_at hl 0 rfl) ?_
      obtain ⟨i69, e70, hf⟩ := mb0 hf
      obtain ⟨σ71, e72, hf⟩ := mb0 hf
      refine mx_callV (As := []) (rest := []) hx hb hml hts hown hK hJ rfl rfl (ci := 1) rfl e70 (c_X1_reckonFifth l G P a0 σ20 σ71 e72) me_X1_reckonFifth kw_1598 ks_55 kw_1596 (Nat.le_of_ble_eq_true rfl) (Nat.le_of_ble_eq_true rfl) rfl hl.1 rfl (Nat.le_of_ble_eq_true rfl) dX1_addPart_76 (fun H locs hJ => ?_)
      refine lv_goto (tgt := 100) hx hb dX1_addPart_79 (by decide) ?_
      exact D100 a0 p1 a6 σ71 hf _ _ hJ ls (lv_sub hl [0, 1, 4] rfl)
    rw [if_neg c68] at hf
    by_cases c73 : x24 = (4 : Int32)
    · rw [if_pos c73] at hf
      refine lv_tableIn (tgt := 82) (off := 41) hx hb dX1_addPart_41 (by rw [c73] <;> decide) (by rw [c73] <;> decide) (by rw [c73] <;> decide) (by decide) ?_
      refine lv_aload_n hx hb dX1_addPart_82 rfl (lv_at hl 0 rfl) ?_
      obtain ⟨i74, e75, hf⟩ := mb0 hf
      obtain ⟨σ76, e77, hf⟩ := mb0 hf
      refine mx_callV (As := []) (rest := []) hx hb hml hts hown hK hJ rfl rfl (ci := 1) rfl e75 (c_X1_reckonSeventh l G P a0 σ20 σ76 e77) me_X1_reckonSeventh kw_1605 ks_56 kw_1603 (Nat.le_of_ble_eq_true rfl) (Nat.le_of_ble_eq_true rfl) rfl hl.1 rfl (Nat.le_of_ble_eq_true rfl) dX1_addPart_83 (fun H locs hJ => ?_)
      refine lv_goto (tgt := 100) hx hb dX1_addPart_86 (by decide) ?_
      exact D100 a0 p1 a6 σ76 hf _ _ hJ ls (lv_sub hl [0, 1, 4] rfl)
    rw [if_neg c73] at hf
    refine lv_tableOut (tgt := 89) hx hb dX1_addPart_41 (by have := lv_neT (a := (2)) c26 (by decide); have := lv_neT (a := (3)) c68 (by decide); have := lv_neT (a := (4)) c73 (by decide); omega) (by decide) ?_
    refine lv_aload_n hx hb dX1_addPart_89 rfl (lv_at hl 0 rfl) ?_
    obtain ⟨b78, e79, hf⟩ := mb0 hf
    refine my_gR hx hb hts hown hK hJ fd_RX1_33 hv_1_7 e79 dX1_addPart_90 ?_
    refine lv_aload_n hx hb dX1_addPart_93 rfl (lv_at hl 0 rfl) ?_
    obtain ⟨b80, e81, hf⟩ := mb0 hf
    refine my_gR hx hb hts hown hK hJ fd_RX1_29 hv_1_6 e81 dX1_addPart_94 ?_
    obtain ⟨i82, e83, hf⟩ := mb0 hf
    obtain ⟨σ84, e85, hf⟩ := mb0 hf
    refine mx_callV (As := [.ref b80]) (rest := []) hx hb hml hts hown hK hJ rfl rfl (ci := 3) rfl e83 (c_X3_copy l G P b78 b80 σ20 σ84 e85) me_X3_copy kw_895 kw_896 kw_1611 (Nat.le_of_ble_eq_true rfl) (Nat.le_of_ble_eq_true rfl) rfl hl.1 rfl (Nat.le_of_ble_eq_true rfl) dX1_addPart_97 (fun H locs hJ => ?_)
    exact D100 a0 p1 a6 σ84 hf _ _ hJ ls (lv_sub hl [0, 1, 4] rfl)
  · rw [if_pos c5] at hf
    exact my_vret hx hb hr hlocks hJ hf dX1_addPart_9
set_option maxHeartbeats 4000000 in
set_option maxRecDepth 100000 in
theorem c_X1_reckonLift (l : Launch) (G : mx_G) (P : mx_P) (a0 : Nat) (p1 : Int64) (p3 : Int64) (a5 : Nat) (σ : mx_S) (σ' : mx_S) (hf : f_X1_reckonLift P a0 p1 p3 a5 σ = some σ') : mxz σ ≤ mpc P → mxu σ ≤ mps P → mx_M l yX1_reckonLift cX1_reckonLift 9 none 6 156 G P [.ref a0, .long p1, .long p3, .ref a5] σ none σ' := by
  intro hcap hcau
  refine mx_ofW (by decide +kernel) hcap hcau (Nat.le_of_ble_eq_true rfl) ?_
  intro p e s m below meth c hx hb hr hml hts hown hlocks hname hK hJ ls hl
  have hz0 := hJ.2.1
  have hown : s.vm.findClass RX1 = some m.cls := hown
  have hl : lv_has ls 9 [(0, .ref a0), (1, .long p1), (3, .long p3), (5, .ref a5)] := hl
  have B13 : ∀ (v0 : Nat) (v1 : Int64) (v3 : Int64) (v5 : Nat) (v6 : Int64) (v8 : Int32) (τ : mx_S) (o : (Int64 × Int32 × mx_S) ⊕ ((Int64 × Int32 × mx_S) ⊕ (mx_S))), f_X1_reckonLift_B13 P v0 v1 v3 v5 v6 v8 τ = some o → (∀ (y6 : Int64) (y8 : Int32) (υ : mx_S), o = .inl (y6, y8, υ) → ∀ (H : Heap) (locs : List Loc), mx_J G P s.heap (mxz σ) (mxu σ) υ H locs → ∀ ls : Array Slot, lv_has ls 9 [(0, .ref v0), (1, .long v1), (3, .long v3), (5, .ref v5), (6, .long y6), (8, .int y8)] → W p l e (mx_rm P 6 156 σ) s m ([.ref a0, .long p1, .long p3, .ref a5] : List Value).toArray below meth c H locs (mxz υ - mxz σ) (mxu υ - mxu σ) (mx_Z below G P none σ σ' [.ref a0, .long p1, .long p3, .ref a5] s) (F0 m 13 ls [])) → (∀ (y6 : Int64) (y8 : Int32) (υ : mx_S), o = .inr (.inl (y6, y8, υ)) → ∀ (H : Heap) (locs : List Loc), mx_J G P s.heap (mxz σ) (mxu σ) υ H locs → ∀ ls : Array Slot, lv_has ls 9 [(0, .ref v0), (1, .long v1), (3, .long v3), (5, .ref v5), (6, .long y6), (8, .int y8)] → W p l e (mx_rm P 6 156 σ) s m ([.ref a0, .long p1, .long p3, .ref a5] : List Value).toArray below meth c H locs (mxz υ - mxz σ) (mxu υ - mxu σ) (mx_Z below G P none σ σ' [.ref a0, .long p1, .long p3, .ref a5] s) (F0 m 40 ls [])) → (∀  (υ : mx_S), o = .inr (.inr υ) → ∀ (H : Heap) (locs : List Loc), mx_J G P s.heap (mxz σ) (mxu σ) υ H locs → ∀ ls : Array Slot, lv_has ls 9 [] → W p l e (mx_rm P 6 156 σ) s m ([.ref a0, .long p1, .long p3, .ref a5] : List Value).toArray below meth c H locs (mxz υ - mxz σ) (mxu υ - mxu σ) (mx_Z below G P none σ σ' [.ref a0, .long p1, .long p3, .ref a5] s) (F0 m 83 ls [])) → ∀ (H : Heap) (locs : List Loc), mx_J G P s.heap (mxz σ) (mxu σ) τ H locs → ∀ ls : Array Slot, lv_has ls 9 [(0, .ref v0), (1, .long v1), (3, .long v3), (5, .ref v5), (6, .long v6), (8, .int v8)] → W p l e (mx_rm P 6 156 σ) s m ([.ref a0, .long p1, .long p3, .ref a5] : List Value).toArray below meth c H locs (mxz τ - mxz σ) (mxu τ - mxu σ) (mx_Z below G P none σ σ' [.ref a0, .long p1, .long p3, .ref a5] s) (F0 m 13 ls []) := by
    intro v0 v1 v3 v5 v6 v8 τ o hf Kb Ke0 Ke1 H locs hJ ls hl
    unfold f_X1_reckonLift_B13 at hf
    refine lv_iload hx hb dX1_reckonLift_13 (lv_at hl 5 rfl) ?_
    refine lv_aload_n hx hb dX1_reckonLift_15 rfl (lv_at hl 0 rfl) ?_
    obtain ⟨x5, e6, hf⟩ := mb0 hf
    refine my_gI hx hb hts hown hK hJ fd_RX1_36 hv_1_0 e6 dX1_reckonLift_16 ?_
    refine lv_icmp_ge (tgt := 83) hx hb dX1_reckonLift_19 (by decide) (fun c7 => ?_) (fun c7 => ?_)
    · rw [if_pos c7] at hf
      exact Ke1 τ (Option.some.inj hf).symm _ _ hJ ls (lv_sub hl [] rfl)
    · rw [if_neg c7] at hf
      refine lv_lload_n hx hb dX1_reckonLift_22 rfl (lv_at hl 1 rfl) ?_
      refine lv_lload hx hb dX1_reckonLift_23 (lv_at hl 4 rfl) ?_
      refine lv_aload_n hx hb dX1_reckonLift_25 rfl (lv_at hl 0 rfl) ?_
      obtain ⟨b8, e9, hf⟩ := mb0 hf
      refine my_gR hx hb hts hown hK hJ fd_RX1_9 hv_1_1 e9 dX1_reckonLift_26 ?_
      refine lv_iload hx hb dX1_reckonLift_29 (lv_at hl 5 rfl) ?_
      obtain ⟨x10, e11, hf⟩ := mb0 hf
      refine mx_aI hx hb hK hJ e11 dX1_reckonLift_31 ?_
      refine lv_i2l hx hb dX1_reckonLift_32 rfl ?_
      refine lv_ladd hx hb dX1_reckonLift_33 ?_
      refine lv_lload_n hx hb dX1_reckonLift_34 rfl (lv_at hl 2 rfl) ?_
      refine lv_lmul hx hb dX1_reckonLift_35 ?_
      refine W.lcmp hx hb dX1_reckonLift_36 ?_
      refine lv_if_ge (tgt := 56) hx hb dX1_reckonLift_37 (by decide) (fun c12 => ?_) (fun c12 => ?_)
      · rw [if_pos c12] at hf
        refine lv_aload_n hx hb dX1_reckonLift_56 rfl (lv_at hl 0 rfl) ?_
        refine lv_iload hx hb dX1_reckonLift_57 (lv_at hl 5 rfl) ?_
        refine lv_aload hx hb dX1_reckonLift_59 (lv_at hl 3 rfl) ?_
        obtain ⟨i13, e14, hf⟩ := mb0 hf
        obtain ⟨σ15, e16, hf⟩ := mb0 hf
        refine mx_callV (As := [.int v8, .ref v5]) (rest := []) hx hb hml hts hown hK hJ rfl rfl (ci := 1) rfl e14 (c_X1_addWhole l G P v0 v8 v5 τ σ15 e16) me_X1_addWhole kw_1568 ks_51 kw_1566 (Nat.le_of_ble_eq_true rfl) (Nat.le_of_ble_eq_true rfl) rfl hl.1 rfl (Nat.le_of_ble_eq_true rfl) dX1_reckonLift_61 (fun H locs hJ => ?_)
        refine lv_lload hx hb dX1_reckonLift_64 (lv_at hl 4 rfl) ?_
        refine lv_aload_n hx hb dX1_reckonLift_66 rfl (lv_at hl 0 rfl) ?_
        obtain ⟨b17, e18, hf⟩ := mb0 hf
        refine my_gR hx hb hts hown hK hJ fd_RX1_9 hv_1_1 e18 dX1_reckonLift_67 ?_
        refine lv_iload hx hb dX1_reckonLift_70 (lv_at hl 5 rfl) ?_
        obtain ⟨x19, e20, hf⟩ := mb0 hf
        refine mx_aI hx hb hK hJ e20 dX1_reckonLift_72 ?_
        refine lv_i2l hx hb dX1_reckonLift_73 rfl ?_
        refine lv_ladd hx hb dX1_reckonLift_74 ?_
        obtain ⟨x21, e22, hf⟩ := mb0 hf
        refine mx_nL e22 ?_
        refine lv_lstore (lv' := [(6, .long x21), (0, .ref v0), (1, .long v1), (3, .long v3), (5, .ref v5), (8, .int v8)]) hx hb dX1_reckonLift_75 hl (by decide) rfl (fun ls hl => ?_)
        obtain ⟨x23, e24, hf⟩ := mb0 hf
        refine lv_iinc (v := x23) (lv' := [(8, .int x23), (6, .long x21), (0, .ref v0), (1, .long v1), (3, .long v3), (5, .ref v5)]) hx hb dX1_reckonLift_77 hl (k := 5) rfl (by rw [← Option.some.inj e24]; rfl) (by decide) rfl (fun ls hl => ?_)
        refine lv_goto (tgt := 13) hx hb dX1_reckonLift_80 (by decide) ?_
        exact Kb x21 x23 σ15 (Option.some.inj hf).symm _ _ hJ ls (lv_sub hl [2, 3, 4, 5, 1, 0] rfl)
      · rw [if_neg c12] at hf
        exact Ke0 v6 v8 τ (Option.some.inj hf).symm _ _ hJ ls (lv_sub hl [0, 1, 2, 3, 4, 5] rfl)
  have L13 : ∀ (v0 : Nat) (v1 : Int64) (v3 : Int64) (v5 : Nat) (n : Nat) (v6 : Int64) (v8 : Int32) (τ : mx_S) (o : (Int64 × Int32 × mx_S) ⊕ (mx_S)), mx_lp (f_X1_reckonLift_L13 P v0 v1 v3 v5) n (v6, v8, τ) = some o → (∀ (y6 : Int64) (y8 : Int32) (υ : mx_S), o = (.inl (y6, y8, υ)) → ∀ (H : Heap) (locs : List Loc), mx_J G P s.heap (mxz σ) (mxu σ) υ H locs → ∀ ls : Array Slot, lv_has ls 9 [(0, .ref v0), (1, .long v1), (3, .long v3), (5, .ref v5), (6, .long y6), (8, .int y8)] → W p l e (mx_rm P 6 156 σ) s m ([.ref a0, .long p1, .long p3, .ref a5] : List Value).toArray below meth c H locs (mxz υ - mxz σ) (mxu υ - mxu σ) (mx_Z below G P none σ σ' [.ref a0, .long p1, .long p3, .ref a5] s) (F0 m 40 ls [])) → (∀  (υ : mx_S), o = (.inr υ) → ∀ (H : Heap) (locs : List Loc), mx_J G P s.heap (mxz σ) (mxu σ) υ H locs → ∀ ls : Array Slot, lv_has ls 9 [] → W p l e (mx_rm P 6 156 σ) s m ([.ref a0, .long p1, .long p3, .ref a5] : List Value).toArray below meth c H locs (mxz υ - mxz σ) (mxu υ - mxu σ) (mx_Z below G P none σ σ' [.ref a0, .long p1, .long p3, .ref a5] s) (F0 m 83 ls [])) → ∀ (H : Heap) (locs : List Loc), mx_J G P s.heap (mxz σ) (mxu σ) τ H locs → ∀ ls : Array Slot, lv_has ls 9 [(0, .ref v0), (1, .long v1), (3, .long v3), (5, .ref v5), (6, .long v6), (8, .int v8)] → W p l e (mx_rm P 6 156 σ) s m ([.ref a0, .long p1, .long p3, .ref a5] : List Value).toArray below meth c H locs (mxz τ - mxz σ) (mxu τ - mxu σ) (mx_Z below G P none σ σ' [.ref a0, .long p1, .long p3, .ref a5] s) (F0 m 13 ls []) := by
    intro v0 v1 v3 v5 n
    induction n with
    | zero =>
      intro v6 v8 τ o hf
      rw [mx_lp0] at hf
      cases hf
    | succ n ih =>
      intro v6 v8 τ o hf Ke0 Ke1 H locs hJ ls hl
      rw [mx_lpS] at hf
      obtain ⟨b, eb, hf⟩ := mb0 hf
      refine B13 v0 v1 v3 v5 v6 v8 τ b eb (fun y6 y8 υ ho H locs hJ ls hl => ?_) (fun y6 y8 υ ho H locs hJ ls hl => ?_) (fun  υ ho H locs hJ ls hl => ?_) H locs hJ ls hl
      · subst ho
        exact ih y6 y8 υ o hf Ke0 Ke1 H locs hJ ls hl
      · subst ho
        exact Ke0 y6 y8 υ (Option.some.inj hf).symm _ _ hJ ls hl
      · subst ho
        exact Ke1  υ (Option.some.inj hf).symm _ _ hJ ls hl
  unfold f_X1_reckonLift at hf
  refine lv_lconst (v := 0) hx hb dX1_reckonLift_0 (by decide) ?_
  refine lv_lstore (lv' := [(6, .long (0 : Int64)), (0, .ref a0), (1, .long p1), (3, .long p3), (5, .ref a5)]) hx hb dX1_reckonLift_1 hl (by decide) rfl (fun ls hl => ?_)
  refine lv_aload hx hb dX1_reckonLift_3 (lv_at hl 4 rfl) ?_
  refine lv_lconst (v := 0) hx hb dX1_reckonLift_5 (by decide) ?_
  refine lv_lconst (v := 1) hx hb dX1_reckonLift_6 (by decide) ?_
  obtain ⟨i1, e2, hf⟩ := mb0 hf
  obtain ⟨σ3, e4, hf⟩ := mb0 hf
  refine mx_callV (As := [.long (0 : Int64), .long (1 : Int64)]) (rest := []) hx hb hml hts hown hK hJ rfl rfl (ci := 3) rfl e2 (c_X3_set l G P a5 (0 : Int64) (1 : Int64) σ σ3 e4) me_X3_set kw_843 kw_844 kw_1561 (Nat.le_of_ble_eq_true rfl) (Nat.le_of_ble_eq_true rfl) rfl hl.1 rfl (Nat.le_of_ble_eq_true rfl) dX1_reckonLift_7 (fun H locs hJ => ?_)
  refine lv_iconst (v := 0) hx hb dX1_reckonLift_10 (by decide) ?_
  refine lv_istore (lv' := [(8, .int (0 : Int32)), (6, .long (0 : Int64)), (0, .ref a0), (1, .long p1), (3, .long p3), (5, .ref a5)]) hx hb dX1_reckonLift_11 hl (by decide) rfl (fun ls hl => ?_)
  obtain ⟨o25, e26, hf⟩ := mb0 hf
  refine L13 a0 p1 p3 a5 (mpN P) (0 : Int64) (0 : Int32) σ3 o25 e26 (fun y27 y28 σ29 ho H locs hJ ls hl => ?_) (fun σ34 ho H locs hJ ls hl => ?_) _ _ hJ ls (lv_sub hl [2, 3, 4, 5, 1, 0] rfl)
  · rw [ho] at hf
    have hf : ((mx_is σ29 a0 1).bind fun i30 => (f_X1_addPart P a0 y28 (p1 - (y27 * p3)) p3 a5 σ29).bind fun σ32 => some σ32) = some σ' := hf
    refine lv_aload_n hx hb dX1_reckonLift_40 rfl (lv_at hl 0 rfl) ?_
    refine lv_iload hx hb dX1_reckonLift_41 (lv_at hl 5 rfl) ?_
    refine lv_lload_n hx hb dX1_reckonLift_43 rfl (lv_at hl 1 rfl) ?_
    refine lv_lload hx hb dX1_reckonLift_44 (lv_at hl 4 rfl) ?_
    refine lv_lload_n hx hb dX1_reckonLift_46 rfl (lv_at hl 2 rfl) ?_
    refine lv_lmul hx hb dX1_reckonLift_47 ?_
    refine lv_lsub hx hb dX1_reckonLift_48 ?_
    refine lv_lload_n hx hb dX1_reckonLift_49 rfl (lv_at hl 2 rfl) ?_
    refine lv_aload hx hb dX1_reckonLift_50 (lv_at hl 3 rfl) ?_
    obtain ⟨i30, e31, hf⟩ := mb0 hf
    obtain ⟨σ32, e33, hf⟩ := mb0 hf
    refine mx_callV (As := [.int y28, .long (p1 - (y27 * p3)), .long p3, .ref a5]) (rest := []) hx hb hml hts hown hK hJ rfl rfl (ci := 1) rfl e31 (c_X1_addPart l G P a0 y28 (p1 - (y27 * p3)) p3 a5 σ29 σ32 e33) me_X1_addPart kw_1584 ks_52 kw_1582 (Nat.le_of_ble_eq_true rfl) (Nat.le_of_ble_eq_true rfl) rfl hl.1 rfl (Nat.le_of_ble_eq_true rfl) dX1_reckonLift_52 (fun H locs hJ => ?_)
    exact my_vret hx hb hr hlocks hJ hf dX1_reckonLift_55
  · rw [ho] at hf
    have hf : (some σ34) = some σ' := hf
    exact my_vret hx hb hr hlocks hJ hf dX1_reckonLift_83
set_option maxHeartbeats 4000000 in
set_option maxRecDepth 100000 in
theorem c_X1_smoothness (l : Launch) (G : mx_G) (P : mx_P) (a0 : Nat) (σ : mx_S) (r : Int32) (σ' : mx_S) (hf : f_X1_smoothness P a0 σ = some (r, σ')) : mxz σ ≤ mpc P → mxu σ ≤ mps P → mx_M l yX1_smoothness cX1_smoothness 3 (some .int) 0 0 G P [.ref a0] σ (some (.int r)) σ' := by
  intro hcap hcau
  refine mx_ofW (by decide +kernel) hcap hcau (Nat.le_of_ble_eq_true rfl) ?_
  intro p e s m below meth c hx hb hr hml hts hown hlocks hname hK hJ ls hl
  have hz0 := hJ.2.1
  have hown : s.vm.findClass RX1 = some m.cls := hown
  have hl : lv_has ls 3 [(0, .ref a0)] := hl
  have D44_4 : ∀ (v0 : Nat) (v1 : Int32) (v2 : Int32) (τ : mx_S) (o : (Int32 × Int32 × mx_S) ⊕ ((Int32 × mx_S))), f_X1_smoothness_D44_4 P v0 v1 v2 τ = some o → (∀ (y1 : Int32) (y2 : Int32) (υ : mx_S), o = .inl (y1, y2, υ) → ∀ (H : Heap) (locs : List Loc), mx_J G P s.heap (mxz σ) (mxu σ) υ H locs → ∀ ls : Array Slot, lv_has ls 3 [(0, .ref v0), (1, .int y1), (2, .int y2)] → W p l e (mx_rm P 0 0 σ) s m ([.ref a0] : List Value).toArray below meth c H locs (mxz υ - mxz σ) (mxu υ - mxu σ) (mx_Z below G P (some (.int r)) σ σ' [.ref a0] s) (F0 m 4 ls [])) → (∀ (y1 : Int32) (υ : mx_S), o = .inr (y1, υ) → ∀ (H : Heap) (locs : List Loc), mx_J G P s.heap (mxz σ) (mxu σ) υ H locs → ∀ ls : Array Slot, lv_has ls 3 [(1, .int y1)] → W p l e (mx_rm P 0 0 σ) s m ([.ref a0] : List Value).toArray below meth c H locs (mxz υ - mxz σ) (mxu υ - mxu σ) (mx_Z below G P (some (.int r)) σ σ' [.ref a0] s) (F0 m 50 ls [])) → ∀ (H : Heap) (locs : List Loc), mx_J G P s.heap (mxz σ) (mxu σ) τ H locs → ∀ ls : Array Slot, lv_has ls 3 [(0, .ref v0), (1, .int v1), (2, .int v2)] → W p l e (mx_rm P 0 0 σ) s m ([.ref a0] : List Value).toArray below meth c H locs (mxz τ - mxz σ) (mxu τ - mxu σ) (mx_Z below G P (some (.int r)) σ σ' [.ref a0] s) (F0 m 44 ls []) := by
    intro v0 v1 v2 τ o hf Kb Ke0 H locs hJ ls hl
    unfold f_X1_smoothness_D44_4 at hf
    obtain ⟨x14, e15, hf⟩ := mb0 hf
    refine lv_iinc (v := x14) (lv' := [(2, .int x14), (0, .ref v0), (1, .int v1)]) hx hb dX1_smoothness_44 hl (k := 2) rfl (by rw [← Option.some.inj e15]; rfl) (by decide) rfl (fun ls hl => ?_)
    refine lv_goto (tgt := 4) hx hb dX1_smoothness_47 (by decide) ?_
    exact Kb v1 x14 τ (Option.some.inj hf).symm _ _ hJ ls (lv_sub hl [1, 2, 0] rfl)
  have B4 : ∀ (v0 : Nat) (v1 : Int32) (v2 : Int32) (τ : mx_S) (o : (Int32 × Int32 × mx_S) ⊕ ((Int32 × mx_S))), f_X1_smoothness_B4 P v0 v1 v2 τ = some o → (∀ (y1 : Int32) (y2 : Int32) (υ : mx_S), o = .inl (y1, y2, υ) → ∀ (H : Heap) (locs : List Loc), mx_J G P s.heap (mxz σ) (mxu σ) υ H locs → ∀ ls : Array Slot, lv_has ls 3 [(0, .ref v0), (1, .int y1), (2, .int y2)] → W p l e (mx_rm P 0 0 σ) s m ([.ref a0] : List Value).toArray below meth c H locs (mxz υ - mxz σ) (mxu υ - mxu σ) (mx_Z below G P (some (.int r)) σ σ' [.ref a0] s) (F0 m 4 ls [])) → (∀ (y1 : Int32) (υ : mx_S), o = .inr (y1, υ) → ∀ (H : Heap) (locs : List Loc), mx_J G P s.heap (mxz σ) (mxu σ) υ H locs → ∀ ls : Array Slot, lv_has ls 3 [(1, .int y1)] → W p l e (mx_rm P 0 0 σ) s m ([.ref a0] : List Value).toArray below meth c H locs (mxz υ - mxz σ) (mxu υ - mxu σ) (mx_Z below G P (some (.int r)) σ σ' [.ref a0] s) (F0 m 50 ls [])) → ∀ (H : Heap) (locs : List Loc), mx_J G P s.heap (mxz σ) (mxu σ) τ H locs → ∀ ls : Array Slot, lv_has ls 3 [(0, .ref v0), (1, .int v1), (2, .int v2)] → W p l e (mx_rm P 0 0 σ) s m ([.ref a0] : List Value).toArray below meth c H locs (mxz τ - mxz σ) (mxu τ - mxu σ) (mx_Z below G P (some (.int r)) σ σ' [.ref a0] s) (F0 m 4 ls []) := by
    intro v0 v1 v2 τ o hf Kb Ke0 H locs hJ ls hl
    unfold f_X1_smoothness_B4 at hf
    refine lv_iload_n hx hb dX1_smoothness_4 rfl (lv_at hl 2 rfl) ?_
    refine lv_aload_n hx hb dX1_smoothness_5 rfl (lv_at hl 0 rfl) ?_
    obtain ⟨x1, e2, hf⟩ := mb0 hf
    refine my_gI hx hb hts hown hK hJ fd_RX1_36 hv_1_0 e2 dX1_smoothness_6 ?_
    refine lv_icmp_ge (tgt := 50) hx hb dX1_smoothness_9 (by decide) (fun c3 => ?_) (fun c3 => ?_)
    · rw [if_pos c3] at hf
      exact Ke0 v1 τ (Option.some.inj hf).symm _ _ hJ ls (lv_sub hl [1] rfl)
    · rw [if_neg c3] at hf
      refine lv_aload_n hx hb dX1_smoothness_12 rfl (lv_at hl 0 rfl) ?_
      obtain ⟨b4, e5, hf⟩ := mb0 hf
      refine my_gR hx hb hts hown hK hJ fd_RX1_16 hv_1_3 e5 dX1_smoothness_13 ?_
      refine lv_iload_n hx hb dX1_smoothness_16 rfl (lv_at hl 2 rfl) ?_
      obtain ⟨x6, e7, hf⟩ := mb0 hf
      refine mx_aI hx hb hK hJ e7 dX1_smoothness_17 ?_
      refine lv_iconst (v := 1) hx hb dX1_smoothness_18 (by decide) ?_
      refine lv_icmp_ne (tgt := 27) hx hb dX1_smoothness_19 (by decide) (fun c8 => ?_) (fun c8 => ?_)
      · rw [if_neg c8] at hf
        refine lv_aload_n hx hb dX1_smoothness_27 rfl (lv_at hl 0 rfl) ?_
        obtain ⟨b9, e10, hf⟩ := mb0 hf
        refine my_gR hx hb hts hown hK hJ fd_RX1_16 hv_1_3 e10 dX1_smoothness_28 ?_
        refine lv_iload_n hx hb dX1_smoothness_31 rfl (lv_at hl 2 rfl) ?_
        obtain ⟨x11, e12, hf⟩ := mb0 hf
        refine mx_aI hx hb hK hJ e12 dX1_smoothness_32 ?_
        refine lv_iconst (v := 2) hx hb dX1_smoothness_33 (by decide) ?_
        refine lv_icmp_ne (tgt := 44) hx hb dX1_smoothness_34 (by decide) (fun c13 => ?_) (fun c13 => ?_)
        · rw [if_neg c13] at hf
          exact D44_4 v0 v1 v2 τ o hf Kb Ke0 _ _ hJ ls (lv_sub hl [0, 1, 2] rfl)
        · rw [if_pos c13] at hf
          refine lv_iload_n hx hb dX1_smoothness_37 rfl (lv_at hl 1 rfl) ?_
          refine lv_iconst (v := 2) hx hb dX1_smoothness_38 (by decide) ?_
          refine lv_icmp_ne (tgt := 44) hx hb dX1_smoothness_39 (by decide) (fun c16 => ?_) (fun c16 => ?_)
          · rw [if_neg c16] at hf
            exact D44_4 v0 v1 v2 τ o hf Kb Ke0 _ _ hJ ls (lv_sub hl [0, 1, 2] rfl)
          · rw [if_pos c16] at hf
            refine lv_iconst (v := 1) hx hb dX1_smoothness_42 (by decide) ?_
            refine lv_istore_n (lv' := [(1, .int (1 : Int32)), (0, .ref v0), (2, .int v2)]) hx hb dX1_smoothness_43 rfl hl (by decide) rfl (fun ls hl => ?_)
            exact D44_4 v0 (1 : Int32) v2 τ o hf Kb Ke0 _ _ hJ ls (lv_sub hl [1, 0, 2] rfl)
      · rw [if_pos c8] at hf
        refine lv_iconst (v := 0) hx hb dX1_smoothness_22 (by decide) ?_
        refine lv_istore_n (lv' := [(1, .int (0 : Int32)), (0, .ref v0), (2, .int v2)]) hx hb dX1_smoothness_23 rfl hl (by decide) rfl (fun ls hl => ?_)
        refine lv_goto (tgt := 44) hx hb dX1_smoothness_24 (by decide) ?_
        exact D44_4 v0 (0 : Int32) v2 τ o hf Kb Ke0 _ _ hJ ls (lv_sub hl [1, 0, 2] rfl)
  have L4 : ∀ (v0 : Nat) (n : Nat) (v1 : Int32) (v2 : Int32) (τ : mx_S) (o : (Int32 × mx_S)), mx_lp (f_X1_smoothness_L4 P v0) n (v1, v2, τ) = some o → (∀ (y1 : Int32) (υ : mx_S), o = (y1, υ) → ∀ (H : Heap) (locs : List Loc), mx_J G P s.heap (mxz σ) (mxu σ) υ H locs → ∀ ls : Array Slot, lv_has ls 3 [(1, .int y1)] → W p l e (mx_rm P 0 0 σ) s m ([.ref a0] : List Value).toArray below meth c H locs (mxz υ - mxz σ) (mxu υ - mxu σ) (mx_Z below G P (some (.int r)) σ σ' [.ref a0] s) (F0 m 50 ls [])) → ∀ (H : Heap) (locs : List Loc), mx_J G P s.heap (mxz σ) (mxu σ) τ H locs → ∀ ls : Array Slot, lv_has ls 3 [(0, .ref v0), (1, .int v1), (2, .int v2)] → W p l e (mx_rm P 0 0 σ) s m ([.ref a0] : List Value).toArray below meth c H locs (mxz τ - mxz σ) (mxu τ - mxu σ) (mx_Z below G P (some (.int r)) σ σ' [.ref a0] s) (F0 m 4 ls []) := by
    intro v0 n
    induction n with
    | zero =>
      intro v1 v2 τ o hf
      rw [mx_lp0] at hf
      cases hf
    | succ n ih =>
      intro v1 v2 τ o hf Ke0 H locs hJ ls hl
      rw [mx_lpS] at hf
      obtain ⟨b, eb, hf⟩ := mb0 hf
      refine B4 v0 v1 v2 τ b eb (fun y1 y2 υ ho H locs hJ ls hl => ?_) (fun y1 υ ho H locs hJ ls hl => ?_) H locs hJ ls hl
      · subst ho
        exact ih y1 y2 υ o hf Ke0 H locs hJ ls hl
      · subst ho
        exact Ke0 y1 υ (Option.some.inj hf).symm _ _ hJ ls hl
  unfold f_X1_smoothness at hf
  refine lv_iconst (v := 2) hx hb dX1_smoothness_0 (by decide) ?_
  refine lv_istore_n (lv' := [(1, .int (2 : Int32)), (0, .ref a0)]) hx hb dX1_smoothness_1 rfl hl (by decide) rfl (fun ls hl => ?_)
  refine lv_iconst (v := 0) hx hb dX1_smoothness_2 (by decide) ?_
  refine lv_istore_n (lv' := [(2, .int (0 : Int32)), (1, .int (2 : Int32)), (0, .ref a0)]) hx hb dX1_smoothness_3 rfl hl (by decide) rfl (fun ls hl => ?_)
  obtain ⟨o17, e18, hf⟩ := mb0 hf
  refine L4 a0 (mpN P) (2 : Int32) (0 : Int32) σ o17 e18 (fun y19 σ20 ho H locs hJ ls hl => ?_) _ _ hJ ls (lv_sub hl [2, 1, 0] rfl)
  · rw [ho] at hf
    have hf : (some (y19, σ20)) = some (r, σ') := hf
    refine lv_iload_n hx hb dX1_smoothness_50 rfl (lv_at hl 0 rfl) ?_
    exact my_iret hx hb hr hlocks hJ hf dX1_smoothness_51
set_option maxHeartbeats 4000000 in
set_option maxRecDepth 100000 in
theorem c_X3_isAbove (l : Launch) (G : mx_G) (P : mx_P) (a0 : Nat) (p1 : Int64) (p3 : Int64) (σ : mx_S) (r : Int32) (σ' : mx_S) (hf : f_X3_isAbove P a0 p1 p3 σ = some (r, σ')) : mxz σ ≤ mpc P → mxu σ ≤ mps P → mx_M l yX3_isAbove cX3_isAbove 5 (some .boolean) 0 0 G P [.ref a0, .long p1, .long p3] σ (some (.int r)) σ' := by
  intro hcap hcau
  refine mx_ofW (by decide +kernel) hcap hcau (Nat.le_of_ble_eq_true rfl) ?_
  intro p e s m below meth c hx hb hr hml hts hown hlocks hname hK hJ ls hl
  have hz0 := hJ.2.1
  have hown : s.vm.findClass RX3 = some m.cls := hown
  have hl : lv_has ls 5 [(0, .ref a0), (1, .long p1), (3, .long p3)] := hl
  have D15 : ∀  (τ : mx_S), f_X3_isAbove_D15 P  τ = some (r, σ') → ∀ (H : Heap) (locs : List Loc), mx_J G P s.heap (mxz σ) (mxu σ) τ H locs → ∀ ls : Array Slot, lv_has ls 5 [] → W p l e (mx_rm P 0 0 σ) s m ([.ref a0, .long p1, .long p3] : List Value).toArray below meth c H locs (mxz τ - mxz σ) (mxu τ - mxu σ) (mx_Z below G P (some (.int r)) σ σ' [.ref a0, .long p1, .long p3] s) (F0 m 15 ls []) := by
    intro  τ hf _ _ hJ ls hl
    unfold f_X3_isAbove_D15 at hf
    refine lv_iconst (v := 0) hx hb dX3_isAbove_15 (by decide) ?_
    exact mx_zret hx hb hr hlocks hJ hf dX3_isAbove_16
  have D83 : ∀ (w0 : Int32) (τ : mx_S), f_X3_isAbove_D83 P w0 τ = some (r, σ') → ∀ (H : Heap) (locs : List Loc), mx_J G P s.heap (mxz σ) (mxu σ) τ H locs → ∀ ls : Array Slot, lv_has ls 5 [] → W p l e (mx_rm P 0 0 σ) s m ([.ref a0, .long p1, .long p3] : List Value).toArray below meth c H locs (mxz τ - mxz σ) (mxu τ - mxu σ) (mx_Z below G P (some (.int r)) σ σ' [.ref a0, .long p1, .long p3] s) (F0 m 83 ls [.int w0]) := by
    intro w0 τ hf _ _ hJ ls hl
    unfold f_X3_isAbove_D83 at hf
    exact mx_zret hx hb hr hlocks hJ hf dX3_isAbove_83
  have D54 : ∀ (w0 : Int32) (τ : mx_S), f_X3_isAbove_D54 P w0 τ = some (r, σ') → ∀ (H : Heap) (locs : List Loc), mx_J G P s.heap (mxz σ) (mxu σ) τ H locs → ∀ ls : Array Slot, lv_has ls 5 [] → W p l e (mx_rm P 0 0 σ) s m ([.ref a0, .long p1, .long p3] : List Value).toArray below meth c H locs (mxz τ - mxz σ) (mxu τ - mxu σ) (mx_Z below G P (some (.int r)) σ σ' [.ref a0, .long p1, .long p3] s) (F0 m 54 ls [.int w0]) := by
    intro w0 τ hf _ _ hJ ls hl
    unfold f_X3_isAbove_D54 at hf
    exact mx_zret hx hb hr hlocks hJ hf dX3_isAbove_54
  unfold f_X3_isAbove at hf
  refine lv_lload_n hx hb dX3_isAbove_0 rfl (lv_at hl 2 rfl) ?_
  refine lv_lconst (v := 0) hx hb dX3_isAbove_1 (by decide) ?_
  refine W.lcmp hx hb dX3_isAbove_2 ?_
  refine lv_if_le (tgt := 15) hx hb dX3_isAbove_3 (by decide) (fun c1 => ?_) (fun c1 => ?_)
  · rw [if_pos c1] at hf
    exact D15  σ hf _ _ hJ ls (lv_sub hl [] rfl)
  · rw [if_neg c1] at hf
    refine lv_aload_n hx hb dX3_isAbove_6 rfl (lv_at hl 0 rfl) ?_
    obtain ⟨x2, e3, hf⟩ := mb0 hf
    refine my_gL hx hb hts hown hK hJ fd_RX3_13 hv_3_1 e3 dX3_isAbove_7 ?_
    refine lv_lconst (v := 0) hx hb dX3_isAbove_10 (by decide) ?_
    refine W.lcmp hx hb dX3_isAbove_11 ?_
    refine lv_if_gt (tgt := 17) hx hb dX3_isAbove_12 (by decide) (fun c4 => ?_) (fun c4 => ?_)
    · rw [if_pos c4] at hf
      refine lv_aload_n hx hb dX3_isAbove_17 rfl (lv_at hl 0 rfl) ?_
      obtain ⟨x5, e6, hf⟩ := mb0 hf
      refine my_gL hx hb hts hown hK hJ fd_RX3_7 hv_3_0 e6 dX3_isAbove_18 ?_
      refine lv_aload_n hx hb dX3_isAbove_21 rfl (lv_at hl 0 rfl) ?_
      obtain ⟨x7, e8, hf⟩ := mb0 hf
      refine my_gL hx hb hts hown hK hJ fd_RX3_13 hv_3_1 e8 dX3_isAbove_22 ?_
      obtain ⟨x9, e10, hf⟩ := mb0 hf
      refine lv_ldiv hx hb dX3_isAbove_25 (md_Ls e10).1 ?_
      refine mx_eL (md_Ls e10).2 ?_
      refine lv_lload_n hx hb dX3_isAbove_26 rfl (lv_at hl 1 rfl) ?_
      refine lv_lload_n hx hb dX3_isAbove_27 rfl (lv_at hl 2 rfl) ?_
      obtain ⟨x11, e12, hf⟩ := mb0 hf
      refine lv_ldiv hx hb dX3_isAbove_28 (md_Ls e12).1 ?_
      refine mx_eL (md_Ls e12).2 ?_
      refine W.lcmp hx hb dX3_isAbove_29 ?_
      refine lv_if_eq (tgt := 55) hx hb dX3_isAbove_30 (by decide) (fun c13 => ?_) (fun c13 => ?_)
      · rw [if_pos c13] at hf
        refine lv_aload_n hx hb dX3_isAbove_55 rfl (lv_at hl 0 rfl) ?_
        obtain ⟨x14, e15, hf⟩ := mb0 hf
        refine my_gL hx hb hts hown hK hJ fd_RX3_7 hv_3_0 e15 dX3_isAbove_56 ?_
        refine lv_aload_n hx hb dX3_isAbove_59 rfl (lv_at hl 0 rfl) ?_
        obtain ⟨x16, e17, hf⟩ := mb0 hf
        refine my_gL hx hb hts hown hK hJ fd_RX3_13 hv_3_1 e17 dX3_isAbove_60 ?_
        obtain ⟨x18, e19, hf⟩ := mb0 hf
        refine lv_lrem hx hb dX3_isAbove_63 (mm_Ls e19).1 ?_
        refine mx_eL (mm_Ls e19).2 ?_
        refine lv_lload_n hx hb dX3_isAbove_64 rfl (lv_at hl 2 rfl) ?_
        refine lv_lmul hx hb dX3_isAbove_65 ?_
        refine lv_lload_n hx hb dX3_isAbove_66 rfl (lv_at hl 1 rfl) ?_
        refine lv_lload_n hx hb dX3_isAbove_67 rfl (lv_at hl 2 rfl) ?_
        obtain ⟨x20, e21, hf⟩ := mb0 hf
        refine lv_lrem hx hb dX3_isAbove_68 (mm_Ls e21).1 ?_
        refine mx_eL (mm_Ls e21).2 ?_
        refine lv_aload_n hx hb dX3_isAbove_69 rfl (lv_at hl 0 rfl) ?_
        obtain ⟨x22, e23, hf⟩ := mb0 hf
        refine my_gL hx hb hts hown hK hJ fd_RX3_13 hv_3_1 e23 dX3_isAbove_70 ?_
        refine lv_lmul hx hb dX3_isAbove_73 ?_
        refine W.lcmp hx hb dX3_isAbove_74 ?_
        refine lv_if_le (tgt := 82) hx hb dX3_isAbove_75 (by decide) (fun c24 => ?_) (fun c24 => ?_)
        · rw [if_pos c24] at hf
          refine lv_iconst (v := 0) hx hb dX3_isAbove_82 (by decide) ?_
          exact D83 (0 : Int32) σ hf _ _ hJ ls (lv_sub hl [] rfl)
        · rw [if_neg c24] at hf
          refine lv_iconst (v := 1) hx hb dX3_isAbove_78 (by decide) ?_
          refine lv_goto (tgt := 83) hx hb dX3_isAbove_79 (by decide) ?_
          exact D83 (1 : Int32) σ hf _ _ hJ ls (lv_sub hl [] rfl)
      · rw [if_neg c13] at hf
        refine lv_aload_n hx hb dX3_isAbove_33 rfl (lv_at hl 0 rfl) ?_
        obtain ⟨x25, e26, hf⟩ := mb0 hf
        refine my_gL hx hb hts hown hK hJ fd_RX3_7 hv_3_0 e26 dX3_isAbove_34 ?_
        refine lv_aload_n hx hb dX3_isAbove_37 rfl (lv_at hl 0 rfl) ?_
        obtain ⟨x27, e28, hf⟩ := mb0 hf
        refine my_gL hx hb hts hown hK hJ fd_RX3_13 hv_3_1 e28 dX3_isAbove_38 ?_
        obtain ⟨x29, e30, hf⟩ := mb0 hf
        refine lv_ldiv hx hb dX3_isAbove_41 (md_Ls e30).1 ?_
        refine mx_eL (md_Ls e30).2 ?_
        refine lv_lload_n hx hb dX3_isAbove_42 rfl (lv_at hl 1 rfl) ?_
        refine lv_lload_n hx hb dX3_isAbove_43 rfl (lv_at hl 2 rfl) ?_
        obtain ⟨x31, e32, hf⟩ := mb0 hf
        refine lv_ldiv hx hb dX3_isAbove_44 (md_Ls e32).1 ?_
        refine mx_eL (md_Ls e32).2 ?_
        refine W.lcmp hx hb dX3_isAbove_45 ?_
        refine lv_if_le (tgt := 53) hx hb dX3_isAbove_46 (by decide) (fun c33 => ?_) (fun c33 => ?_)
        · rw [if_pos c33] at hf
          refine lv_iconst (v := 0) hx hb dX3_isAbove_53 (by decide) ?_
          exact D54 (0 : Int32) σ hf _ _ hJ ls (lv_sub hl [] rfl)
        · rw [if_neg c33] at hf
          refine lv_iconst (v := 1) hx hb dX3_isAbove_49 (by decide) ?_
          refine lv_goto (tgt := 54) hx hb dX3_isAbove_50 (by decide) ?_
          exact D54 (1 : Int32) σ hf _ _ hJ ls (lv_sub hl [] rfl)
    · rw [if_neg c4] at hf
      exact D15  σ hf _ _ hJ ls (lv_sub hl [] rfl)
set_option maxHeartbeats 4000000 in
set_option maxRecDepth 100000 in
theorem c_X1_findSteepest (l : Launch) (G : mx_G) (P : mx_P) (a0 : Nat) (a1 : Nat) (σ : mx_S) (σ' : mx_S) (hf : f_X1_findSteepest P a0 a1 σ = some σ') : mxz σ ≤ mpc P → mxu σ ≤ mps P → mx_M l yX1_findSteepest cX1_findSteepest 3 none 4 101 G P [.ref a0, .ref a1] σ none σ' := by
  intro hcap hcau
  refine mx_ofW (by decide +kernel) hcap hcau (Nat.le_of_ble_eq_true rfl) ?_
  intro p e s m below meth c hx hb hr hml hts hown hlocks hname hK hJ ls hl
  have hz0 := hJ.2.1
  have hown : s.vm.findClass RX1 = some m.cls := hown
  have hl : lv_has ls 3 [(0, .ref a0), (1, .ref a1)] := hl
  have D102_8 : ∀ (v0 : Nat) (v1 : Nat) (v2 : Int32) (τ : mx_S) (o : (Int32 × mx_S) ⊕ ((mx_S))), f_X1_findSteepest_D102_8 P v0 v1 v2 τ = some o → (∀ (y2 : Int32) (υ : mx_S), o = .inl (y2, υ) → ∀ (H : Heap) (locs : List Loc), mx_J G P s.heap (mxz σ) (mxu σ) υ H locs → ∀ ls : Array Slot, lv_has ls 3 [(0, .ref v0), (1, .ref v1), (2, .int y2)] → W p l e (mx_rm P 4 101 σ) s m ([.ref a0, .ref a1] : List Value).toArray below meth c H locs (mxz υ - mxz σ) (mxu υ - mxu σ) (mx_Z below G P none σ σ' [.ref a0, .ref a1] s) (F0 m 8 ls [])) → (∀  (υ : mx_S), o = .inr υ → ∀ (H : Heap) (locs : List Loc), mx_J G P s.heap (mxz σ) (mxu σ) υ H locs → ∀ ls : Array Slot, lv_has ls 3 [] → W p l e (mx_rm P 4 101 σ) s m ([.ref a0, .ref a1] : List Value).toArray below meth c H locs (mxz υ - mxz σ) (mxu υ - mxu σ) (mx_Z below G P none σ σ' [.ref a0, .ref a1] s) (F0 m 108 ls [])) → ∀ (H : Heap) (locs : List Loc), mx_J G P s.heap (mxz σ) (mxu σ) τ H locs → ∀ ls : Array Slot, lv_has ls 3 [(0, .ref v0), (1, .ref v1), (2, .int v2)] → W p l e (mx_rm P 4 101 σ) s m ([.ref a0, .ref a1] : List Value).toArray below meth c H locs (mxz τ - mxz σ) (mxu τ - mxu σ) (mx_Z below G P none σ σ' [.ref a0, .ref a1] s) (F0 m 102 ls []) := by
    intro v0 v1 v2 τ o hf Kb Ke0 H locs hJ ls hl
    unfold f_X1_findSteepest_D102_8 at hf
    obtain ⟨x13, e14, hf⟩ := mb0 hf
    refine lv_iinc (v := x13) (lv' := [(2, .int x13), (0, .ref v0), (1, .ref v1)]) hx hb dX1_findSteepest_102 hl (k := 2) rfl (by rw [← Option.some.inj e14]; rfl) (by decide) rfl (fun ls hl => ?_)
    refine lv_goto (tgt := 8) hx hb dX1_findSteepest_105 (by decide) ?_
    exact Kb x13 τ (Option.some.inj hf).symm _ _ hJ ls (lv_sub hl [1, 2, 0] rfl)
  have B8 : ∀ (v0 : Nat) (v1 : Nat) (v2 : Int32) (τ : mx_S) (o : (Int32 × mx_S) ⊕ ((mx_S))), f_X1_findSteepest_B8 P v0 v1 v2 τ = some o → (∀ (y2 : Int32) (υ : mx_S), o = .inl (y2, υ) → ∀ (H : Heap) (locs : List Loc), mx_J G P s.heap (mxz σ) (mxu σ) υ H locs → ∀ ls : Array Slot, lv_has ls 3 [(0, .ref v0), (1, .ref v1), (2, .int y2)] → W p l e (mx_rm P 4 101 σ) s m ([.ref a0, .ref a1] : List Value).toArray below meth c H locs (mxz υ - mxz σ) (mxu υ - mxu σ) (mx_Z below G P none σ σ' [.ref a0, .ref a1] s) (F0 m 8 ls [])) → (∀  (υ : mx_S), o = .inr υ → ∀ (H : Heap) (locs : List Loc), mx_J G P s.heap (mxz σ) (mxu σ) υ H locs → ∀ ls : Array Slot, lv_has ls 3 [] → W p l e (mx_rm P 4 101 σ) s m ([.ref a0, .ref a1] : List Value).toArray below meth c H locs (mxz υ - mxz σ) (mxu υ - mxu σ) (mx_Z below G P none σ σ' [.ref a0, .ref a1] s) (F0 m 108 ls [])) → ∀ (H : Heap) (locs : List Loc), mx_J G P s.heap (mxz σ) (mxu σ) τ H locs → ∀ ls : Array Slot, lv_has ls 3 [(0, .ref v0), (1, .ref v1), (2, .int v2)] → W p l e (mx_rm P 4 101 σ) s m ([.ref a0, .ref a1] : List Value).toArray below meth c H locs (mxz τ - mxz σ) (mxu τ - mxu σ) (mx_Z below G P none σ σ' [.ref a0, .ref a1] s) (F0 m 8 ls []) := by
    intro v0 v1 v2 τ o hf Kb Ke0 H locs hJ ls hl
    unfold f_X1_findSteepest_B8 at hf
    refine lv_iload_n hx hb dX1_findSteepest_8 rfl (lv_at hl 2 rfl) ?_
    refine lv_aload_n hx hb dX1_findSteepest_9 rfl (lv_at hl 0 rfl) ?_
    obtain ⟨x5, e6, hf⟩ := mb0 hf
    refine my_gI hx hb hts hown hK hJ fd_RX1_36 hv_1_0 e6 dX1_findSteepest_10 ?_
    refine lv_icmp_ge (tgt := 108) hx hb dX1_findSteepest_13 (by decide) (fun c7 => ?_) (fun c7 => ?_)
    · rw [if_pos c7] at hf
      exact Ke0 τ (Option.some.inj hf).symm _ _ hJ ls (lv_sub hl [] rfl)
    · rw [if_neg c7] at hf
      refine lv_aload_n hx hb dX1_findSteepest_16 rfl (lv_at hl 0 rfl) ?_
      obtain ⟨b8, e9, hf⟩ := mb0 hf
      refine my_gR hx hb hts hown hK hJ fd_RX1_13 hv_1_2 e9 dX1_findSteepest_17 ?_
      refine lv_iload_n hx hb dX1_findSteepest_20 rfl (lv_at hl 2 rfl) ?_
      obtain ⟨x10, e11, hf⟩ := mb0 hf
      refine mx_aI hx hb hK hJ e11 dX1_findSteepest_21 ?_
      refine lv_if_eq (tgt := 102) hx hb dX1_findSteepest_22 (by decide) (fun c12 => ?_) (fun c12 => ?_)
      · rw [if_pos c12] at hf
        exact D102_8 v0 v1 v2 τ o hf Kb Ke0 _ _ hJ ls (lv_sub hl [0, 1, 2] rfl)
      · rw [if_neg c12] at hf
        refine lv_aload_n hx hb dX1_findSteepest_25 rfl (lv_at hl 0 rfl) ?_
        obtain ⟨b15, e16, hf⟩ := mb0 hf
        refine my_gR hx hb hts hown hK hJ fd_RX1_29 hv_1_6 e16 dX1_findSteepest_26 ?_
        refine lv_aload_n hx hb dX1_findSteepest_29 rfl (lv_at hl 0 rfl) ?_
        obtain ⟨b17, e18, hf⟩ := mb0 hf
        refine my_gR hx hb hts hown hK hJ fd_RX1_19 hv_1_4 e18 dX1_findSteepest_30 ?_
        refine lv_iload_n hx hb dX1_findSteepest_33 rfl (lv_at hl 2 rfl) ?_
        obtain ⟨x19, e20, hf⟩ := mb0 hf
        refine mx_aL hx hb hK hJ e20 dX1_findSteepest_34 ?_
        refine va_gets hx hb (mxe_t0 hK).1 (mx_Sv hz0 hJ) hown (hts _ kw_1627) (fun _ h => h) dX1_findSteepest_35 ?_
        refine lv_aload_n hx hb dX1_findSteepest_38 rfl (lv_at hl 0 rfl) ?_
        obtain ⟨b21, e22, hf⟩ := mb0 hf
        refine my_gR hx hb hts hown hK hJ fd_RX1_16 hv_1_3 e22 dX1_findSteepest_39 ?_
        refine lv_iload_n hx hb dX1_findSteepest_42 rfl (lv_at hl 2 rfl) ?_
        obtain ⟨x23, e24, hf⟩ := mb0 hf
        refine mx_aI hx hb hK hJ e24 dX1_findSteepest_43 ?_
        obtain ⟨x25, e26, hf⟩ := mb0 hf
        refine mx_ti hx hb hz0 hJ (mxe_t0 hK).2 e26 dX1_findSteepest_44 ?_
        refine lv_i2l hx hb dX1_findSteepest_45 rfl ?_
        refine lv_lmul hx hb dX1_findSteepest_46 ?_
        refine lv_aload_n hx hb dX1_findSteepest_47 rfl (lv_at hl 0 rfl) ?_
        obtain ⟨b27, e28, hf⟩ := mb0 hf
        refine my_gR hx hb hts hown hK hJ fd_RX1_23 hv_1_5 e28 dX1_findSteepest_48 ?_
        refine lv_iload_n hx hb dX1_findSteepest_51 rfl (lv_at hl 2 rfl) ?_
        obtain ⟨x29, e30, hf⟩ := mb0 hf
        refine mx_aL hx hb hK hJ e30 dX1_findSteepest_52 ?_
        refine lv_aload_n hx hb dX1_findSteepest_53 rfl (lv_at hl 0 rfl) ?_
        obtain ⟨b31, e32, hf⟩ := mb0 hf
        refine my_gR hx hb hts hown hK hJ fd_RX1_9 hv_1_1 e32 dX1_findSteepest_54 ?_
        refine lv_iload_n hx hb dX1_findSteepest_57 rfl (lv_at hl 2 rfl) ?_
        obtain ⟨x33, e34, hf⟩ := mb0 hf
        refine mx_aI hx hb hK hJ e34 dX1_findSteepest_58 ?_
        refine lv_i2l hx hb dX1_findSteepest_59 rfl ?_
        refine lv_lmul hx hb dX1_findSteepest_60 ?_
        refine va_gets hx hb (mxe_t1 hK).1 (mx_Sv hz0 hJ) hown (hts _ kw_1629) (fun _ h => h) dX1_findSteepest_61 ?_
        refine lv_aload_n hx hb dX1_findSteepest_64 rfl (lv_at hl 0 rfl) ?_
        obtain ⟨b35, e36, hf⟩ := mb0 hf
        refine my_gR hx hb hts hown hK hJ fd_RX1_16 hv_1_3 e36 dX1_findSteepest_65 ?_
        refine lv_iload_n hx hb dX1_findSteepest_68 rfl (lv_at hl 2 rfl) ?_
        obtain ⟨x37, e38, hf⟩ := mb0 hf
        refine mx_aI hx hb hK hJ e38 dX1_findSteepest_69 ?_
        obtain ⟨x39, e40, hf⟩ := mb0 hf
        refine mx_ti hx hb hz0 hJ (mxe_t1 hK).2 e40 dX1_findSteepest_70 ?_
        refine lv_i2l hx hb dX1_findSteepest_71 rfl ?_
        refine lv_lmul hx hb dX1_findSteepest_72 ?_
        obtain ⟨i41, e42, hf⟩ := mb0 hf
        obtain ⟨σ43, e44, hf⟩ := mb0 hf
        refine mx_callV (As := [.long (x19 * (x25.toInt64)), .long ((x29 * (x33.toInt64)) * (x39.toInt64))]) (rest := []) hx hb hml hts hown hK hJ rfl rfl (ci := 3) rfl e42 (c_X3_set l G P b15 (x19 * (x25.toInt64)) ((x29 * (x33.toInt64)) * (x39.toInt64)) τ σ43 e44) me_X3_set kw_843 kw_844 kw_1561 (Nat.le_of_ble_eq_true rfl) (Nat.le_of_ble_eq_true rfl) rfl hl.1 rfl (Nat.le_of_ble_eq_true rfl) dX1_findSteepest_73 (fun H locs hJ => ?_)
        refine lv_aload_n hx hb dX1_findSteepest_76 rfl (lv_at hl 0 rfl) ?_
        obtain ⟨b45, e46, hf⟩ := mb0 hf
        refine my_gR hx hb hts hown hK hJ fd_RX1_29 hv_1_6 e46 dX1_findSteepest_77 ?_
        refine lv_aload_n hx hb dX1_findSteepest_80 rfl (lv_at hl 1 rfl) ?_
        obtain ⟨x47, e48, hf⟩ := mb0 hf
        refine my_gL hx hb hts hown hK hJ fd_RX1_94 hv_3_0 e48 dX1_findSteepest_81 ?_
        refine lv_aload_n hx hb dX1_findSteepest_84 rfl (lv_at hl 1 rfl) ?_
        obtain ⟨x49, e50, hf⟩ := mb0 hf
        refine my_gL hx hb hts hown hK hJ fd_RX1_98 hv_3_1 e50 dX1_findSteepest_85 ?_
        obtain ⟨i51, e52, hf⟩ := mb0 hf
        obtain ⟨x54, σ53, e55, hf⟩ := mc0 hf
        refine mx_callV (As := [.long x47, .long x49]) (rest := []) hx hb hml hts hown hK hJ rfl rfl (ci := 3) rfl e52 (c_X3_isAbove l G P b45 x47 x49 σ43 x54 σ53 e55) me_X3_isAbove kw_1632 kw_1633 kw_1631 (Nat.le_of_ble_eq_true rfl) (Nat.le_of_ble_eq_true rfl) rfl hl.1 rfl (Nat.le_of_ble_eq_true rfl) dX1_findSteepest_88 (fun H locs hJ => ?_)
        refine lv_if_eq (tgt := 102) hx hb dX1_findSteepest_91 (by decide) (fun c56 => ?_) (fun c56 => ?_)
        · rw [if_pos c56] at hf
          exact D102_8 v0 v1 v2 σ53 o hf Kb Ke0 _ _ hJ ls (lv_sub hl [0, 1, 2] rfl)
        · rw [if_neg c56] at hf
          refine lv_aload_n hx hb dX1_findSteepest_94 rfl (lv_at hl 1 rfl) ?_
          refine lv_aload_n hx hb dX1_findSteepest_95 rfl (lv_at hl 0 rfl) ?_
          obtain ⟨b57, e58, hf⟩ := mb0 hf
          refine my_gR hx hb hts hown hK hJ fd_RX1_29 hv_1_6 e58 dX1_findSteepest_96 ?_
          obtain ⟨i59, e60, hf⟩ := mb0 hf
          obtain ⟨σ61, e62, hf⟩ := mb0 hf
          refine mx_callV (As := [.ref b57]) (rest := []) hx hb hml hts hown hK hJ rfl rfl (ci := 3) rfl e60 (c_X3_copy l G P v1 b57 σ53 σ61 e62) me_X3_copy kw_895 kw_896 kw_1611 (Nat.le_of_ble_eq_true rfl) (Nat.le_of_ble_eq_true rfl) rfl hl.1 rfl (Nat.le_of_ble_eq_true rfl) dX1_findSteepest_99 (fun H locs hJ => ?_)
          exact D102_8 v0 v1 v2 σ61 o hf Kb Ke0 _ _ hJ ls (lv_sub hl [0, 1, 2] rfl)
  have L8 : ∀ (v0 : Nat) (v1 : Nat) (n : Nat) (v2 : Int32) (τ : mx_S) (o : (mx_S)), mx_lp (f_X1_findSteepest_L8 P v0 v1) n (v2, τ) = some o → (∀  (υ : mx_S), o = υ → ∀ (H : Heap) (locs : List Loc), mx_J G P s.heap (mxz σ) (mxu σ) υ H locs → ∀ ls : Array Slot, lv_has ls 3 [] → W p l e (mx_rm P 4 101 σ) s m ([.ref a0, .ref a1] : List Value).toArray below meth c H locs (mxz υ - mxz σ) (mxu υ - mxu σ) (mx_Z below G P none σ σ' [.ref a0, .ref a1] s) (F0 m 108 ls [])) → ∀ (H : Heap) (locs : List Loc), mx_J G P s.heap (mxz σ) (mxu σ) τ H locs → ∀ ls : Array Slot, lv_has ls 3 [(0, .ref v0), (1, .ref v1), (2, .int v2)] → W p l e (mx_rm P 4 101 σ) s m ([.ref a0, .ref a1] : List Value).toArray below meth c H locs (mxz τ - mxz σ) (mxu τ - mxu σ) (mx_Z below G P none σ σ' [.ref a0, .ref a1] s) (F0 m 8 ls []) := by
    intro v0 v1 n
    induction n with
    | zero =>
      intro v2 τ o hf
      rw [mx_lp0] at hf
      cases hf
    | succ n ih =>
      intro v2 τ o hf Ke0 H locs hJ ls hl
      rw [mx_lpS] at hf
      obtain ⟨b, eb, hf⟩ := mb0 hf
      refine B8 v0 v1 v2 τ b eb (fun y2 υ ho H locs hJ ls hl => ?_) (fun  υ ho H locs hJ ls hl => ?_) H locs hJ ls hl
      · subst ho
        exact ih y2 υ o hf Ke0 H locs hJ ls hl
      · subst ho
        exact Ke0  υ (Option.some.inj hf).symm _ _ hJ ls hl
  unfold f_X1_findSteepest at hf
  refine lv_aload_n hx hb dX1_findSteepest_0 rfl (lv_at hl 1 rfl) ?_
  refine lv_lconst (v := 0) hx hb dX1_findSteepest_1 (by decide) ?_
  refine lv_lconst (v := 1) hx hb dX1_findSteepest_2 (by decide) ?_
  obtain ⟨i1, e2, hf⟩ := mb0 hf
  obtain ⟨σ3, e4, hf⟩ := mb0 hf
  refine mx_callV (As := [.long (0 : Int64), .long (1 : Int64)]) (rest := []) hx hb hml hts hown hK hJ rfl rfl (ci := 3) rfl e2 (c_X3_set l G P a1 (0 : Int64) (1 : Int64) σ σ3 e4) me_X3_set kw_843 kw_844 kw_1561 (Nat.le_of_ble_eq_true rfl) (Nat.le_of_ble_eq_true rfl) rfl hl.1 rfl (Nat.le_of_ble_eq_true rfl) dX1_findSteepest_3 (fun H locs hJ => ?_)
  refine lv_iconst (v := 0) hx hb dX1_findSteepest_6 (by decide) ?_
  refine lv_istore_n (lv' := [(2, .int (0 : Int32)), (0, .ref a0), (1, .ref a1)]) hx hb dX1_findSteepest_7 rfl hl (by decide) rfl (fun ls hl => ?_)
  obtain ⟨o63, e64, hf⟩ := mb0 hf
  refine L8 a0 a1 (mpN P) (0 : Int32) σ3 o63 e64 (fun σ65 ho H locs hJ ls hl => ?_) _ _ hJ ls (lv_sub hl [1, 2, 0] rfl)
  · rw [ho] at hf
    have hf : (some σ65) = some σ' := hf
    exact my_vret hx hb hr hlocks hJ hf dX1_findSteepest_108
