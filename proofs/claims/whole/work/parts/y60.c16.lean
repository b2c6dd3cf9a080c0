set_option maxHeartbeats 4000000 in
set_option maxRecDepth 100000 in
theorem c_X12_touch (l : Launch) (G : mx_G) (P : mx_P) (a0 : Nat) (p1 : Int32) (p2 : Int32) (σ : mx_S) (r : Int32) (σ' : mx_S) (hf : f_X12_touch P a0 p1 p2 σ = some (r, σ')) : mxz σ ≤ mpc P → mxu σ ≤ mps P → mx_M l yX12_touch cX12_touch 5 (some .boolean) 3 74 G P [.ref a0, .int p1, .int p2] σ (some (.int r)) σ' := by
  intro hcap hcau
  refine mx_ofW (by decide +kernel) hcap hcau (Nat.le_of_ble_eq_true rfl) ?_
  intro p e s m below meth c hx hb hr hml hts hown hlocks hname hK hJ ls hl
  have hz0 := hJ.2.1
  have hown : s.vm.findClass RX12 = some m.cls := hown
  have hl : lv_has ls 5 [(0, .ref a0), (1, .int p1), (2, .int p2)] := hl
  have B47 : ∀ (v0 : Nat) (v1 : Int32) (v2 : Int32) (v3 : Int32) (v4 : Int32) (τ : mx_S) (o : (Int32 × mx_S) ⊕ ((mx_S) ⊕ (mx_S))), f_X12_touch_B47 P v0 v1 v2 v3 v4 τ = some o → (∀ (y4 : Int32) (υ : mx_S), o = .inl (y4, υ) → ∀ (H : Heap) (locs : List Loc), mx_J G P s.heap (mxz σ) (mxu σ) υ H locs → ∀ ls : Array Slot, lv_has ls 5 [(0, .ref v0), (1, .int v1), (2, .int v2), (3, .int v3), (4, .int y4)] → W p l e (mx_rm P 3 74 σ) s m ([.ref a0, .int p1, .int p2] : List Value).toArray below meth c H locs (mxz υ - mxz σ) (mxu υ - mxu σ) (mx_Z below G P (some (.int r)) σ σ' [.ref a0, .int p1, .int p2] s) (F0 m 47 ls [])) → (∀  (υ : mx_S), o = .inr (.inl υ) → ∀ (H : Heap) (locs : List Loc), mx_J G P s.heap (mxz σ) (mxu σ) υ H locs → ∀ ls : Array Slot, lv_has ls 5 [] → W p l e (mx_rm P 3 74 σ) s m ([.ref a0, .int p1, .int p2] : List Value).toArray below meth c H locs (mxz υ - mxz σ) (mxu υ - mxu σ) (mx_Z below G P (some (.int r)) σ σ' [.ref a0, .int p1, .int p2] s) (F0 m 91 ls [])) → (∀  (υ : mx_S), o = .inr (.inr υ) → ∀ (H : Heap) (locs : List Loc), mx_J G P s.heap (mxz σ) (mxu σ) υ H locs → ∀ ls : Array Slot, lv_has ls 5 [(0, .ref v0), (1, .int v1), (2, .int v2), (3, .int v3)] → W p l e (mx_rm P 3 74 σ) s m ([.ref a0, .int p1, .int p2] : List Value).toArray below meth c H locs (mxz υ - mxz σ) (mxu υ - mxu σ) (mx_Z below G P (some (.int r)) σ σ' [.ref a0, .int p1, .int p2] s) (F0 m 99 ls [])) → ∀ (H : Heap) (locs : List Loc), mx_J G P s.heap (mxz σ) (mxu σ) τ H locs → ∀ ls : Array Slot, lv_has ls 5 [(0, .ref v0), (1, .int v1), (2, .int v2), (3, .int v3), (4, .int v4)] → W p l e (mx_rm P 3 74 σ) s m ([.ref a0, .int p1, .int p2] : List Value).toArray below meth c H locs (mxz τ - mxz σ) (mxu τ - mxu σ) (mx_Z below G P (some (.int r)) σ σ' [.ref a0, .int p1, .int p2] s) (F0 m 47 ls []) := by
    intro v0 v1 v2 v3 v4 τ o hf Kb Ke0 Ke1 H locs hJ ls hl
    unfold f_X12_touch_B47 at hf
    refine lv_iload hx hb dX12_touch_47 (lv_at hl 4 rfl) ?_
    refine lv_aload_n hx hb dX12_touch_49 rfl (lv_at hl 0 rfl) ?_
    obtain ⟨b20, e21, hf⟩ := mb0 hf
    refine my_gR hx hb hts hown hK hJ fd_RX12_186 hv_12_86 e21 dX12_touch_50 ?_
    refine lv_iload_n hx hb dX12_touch_53 rfl (lv_at hl 2 rfl) ?_
    obtain ⟨x22, e23, hf⟩ := mb0 hf
    refine mx_aI hx hb hK hJ e23 dX12_touch_54 ?_
    refine lv_icmp_ge (tgt := 99) hx hb dX12_touch_55 (by decide) (fun c24 => ?_) (fun c24 => ?_)
    · rw [if_pos c24] at hf
      exact Ke1 τ (Option.some.inj hf).symm _ _ hJ ls (lv_sub hl [0, 1, 2, 3] rfl)
    · rw [if_neg c24] at hf
      refine lv_aload_n hx hb dX12_touch_58 rfl (lv_at hl 0 rfl) ?_
      refine lv_bipush (v := 24) hx hb dX12_touch_59 (by decide) ?_
      refine lv_iload_n hx hb dX12_touch_61 rfl (lv_at hl 1 rfl) ?_
      refine lv_imul hx hb dX12_touch_62 ?_
      refine lv_iload_n hx hb dX12_touch_63 rfl (lv_at hl 3 rfl) ?_
      refine lv_iadd hx hb dX12_touch_64 ?_
      refine lv_aload_n hx hb dX12_touch_65 rfl (lv_at hl 0 rfl) ?_
      refine lv_iload_n hx hb dX12_touch_66 rfl (lv_at hl 1 rfl) ?_
      refine lv_iload_n hx hb dX12_touch_67 rfl (lv_at hl 3 rfl) ?_
      obtain ⟨i25, e26, hf⟩ := mb0 hf
      obtain ⟨x28, σ27, e29, hf⟩ := mc0 hf
      refine mx_callV (As := [.int v1, .int v3]) (rest := [.int (((24 : Int32) * v1) + v3), .ref v0]) hx hb hml hts hown hK hJ rfl rfl (ci := 12) rfl e26 (c_X12_after l G P v0 v1 v3 τ x28 σ27 e29) me_X12_after kw_2765 ks_164 kw_2763 (Nat.le_of_ble_eq_true rfl) (Nat.le_of_ble_eq_true rfl) rfl hl.1 rfl (Nat.le_of_ble_eq_true rfl) dX12_touch_68 (fun H locs hJ => ?_)
      refine lv_bipush (v := 24) hx hb dX12_touch_71 (by decide) ?_
      refine lv_iload_n hx hb dX12_touch_73 rfl (lv_at hl 2 rfl) ?_
      refine lv_imul hx hb dX12_touch_74 ?_
      refine lv_iload hx hb dX12_touch_75 (lv_at hl 4 rfl) ?_
      refine lv_iadd hx hb dX12_touch_77 ?_
      refine lv_aload_n hx hb dX12_touch_78 rfl (lv_at hl 0 rfl) ?_
      refine lv_iload_n hx hb dX12_touch_79 rfl (lv_at hl 2 rfl) ?_
      refine lv_iload hx hb dX12_touch_80 (lv_at hl 4 rfl) ?_
      obtain ⟨i30, e31, hf⟩ := mb0 hf
      obtain ⟨x33, σ32, e34, hf⟩ := mc0 hf
      refine mx_callV (As := [.int v2, .int v4]) (rest := [.int (((24 : Int32) * v2) + v4), .int x28, .int (((24 : Int32) * v1) + v3), .ref v0]) hx hb hml hts hown hK hJ rfl rfl (ci := 12) rfl e31 (c_X12_after l G P v0 v2 v4 σ27 x33 σ32 e34) me_X12_after kw_2765 ks_164 kw_2763 (Nat.le_of_ble_eq_true rfl) (Nat.le_of_ble_eq_true rfl) rfl hl.1 rfl (Nat.le_of_ble_eq_true rfl) dX12_touch_82 (fun H locs hJ => ?_)
      obtain ⟨i35, e36, hf⟩ := mb0 hf
      obtain ⟨x38, σ37, e39, hf⟩ := mc0 hf
      refine mx_callV (As := [.int (((24 : Int32) * v1) + v3), .int x28, .int (((24 : Int32) * v2) + v4), .int x33]) (rest := []) hx hb hml hts hown hK hJ rfl rfl (ci := 12) rfl e36 (c_X12_meet l G P v0 (((24 : Int32) * v1) + v3) x28 (((24 : Int32) * v2) + v4) x33 σ32 x38 σ37 e39) me_X12_meet kw_2773 ks_166 kw_2771 (Nat.le_of_ble_eq_true rfl) (Nat.le_of_ble_eq_true rfl) rfl hl.1 rfl (Nat.le_of_ble_eq_true rfl) dX12_touch_85 (fun H locs hJ => ?_)
      refine lv_if_eq (tgt := 93) hx hb dX12_touch_88 (by decide) (fun c40 => ?_) (fun c40 => ?_)
      · rw [if_pos c40] at hf
        obtain ⟨x41, e42, hf⟩ := mb0 hf
        refine lv_iinc (v := x41) (lv' := [(4, .int x41), (0, .ref v0), (1, .int v1), (2, .int v2), (3, .int v3)]) hx hb dX12_touch_93 hl (k := 4) rfl (by rw [← Option.some.inj e42]; rfl) (by decide) rfl (fun ls hl => ?_)
        refine lv_goto (tgt := 47) hx hb dX12_touch_96 (by decide) ?_
        exact Kb x41 σ37 (Option.some.inj hf).symm _ _ hJ ls (lv_sub hl [1, 2, 3, 4, 0] rfl)
      · rw [if_neg c40] at hf
        exact Ke0 σ37 (Option.some.inj hf).symm _ _ hJ ls (lv_sub hl [] rfl)
  have L47 : ∀ (v0 : Nat) (v1 : Int32) (v2 : Int32) (v3 : Int32) (n : Nat) (v4 : Int32) (τ : mx_S) (o : (mx_S) ⊕ (mx_S)), mx_lp (f_X12_touch_L47 P v0 v1 v2 v3) n (v4, τ) = some o → (∀  (υ : mx_S), o = (.inl υ) → ∀ (H : Heap) (locs : List Loc), mx_J G P s.heap (mxz σ) (mxu σ) υ H locs → ∀ ls : Array Slot, lv_has ls 5 [] → W p l e (mx_rm P 3 74 σ) s m ([.ref a0, .int p1, .int p2] : List Value).toArray below meth c H locs (mxz υ - mxz σ) (mxu υ - mxu σ) (mx_Z below G P (some (.int r)) σ σ' [.ref a0, .int p1, .int p2] s) (F0 m 91 ls [])) → (∀  (υ : mx_S), o = (.inr υ) → ∀ (H : Heap) (locs : List Loc), mx_J G P s.heap (mxz σ) (mxu σ) υ H locs → ∀ ls : Array Slot, lv_has ls 5 [(0, .ref v0), (1, .int v1), (2, .int v2), (3, .int v3)] → W p l e (mx_rm P 3 74 σ) s m ([.ref a0, .int p1, .int p2] : List Value).toArray below meth c H locs (mxz υ - mxz σ) (mxu υ - mxu σ) (mx_Z below G P (some (.int r)) σ σ' [.ref a0, .int p1, .int p2] s) (F0 m 99 ls [])) → ∀ (H : Heap) (locs : List Loc), mx_J G P s.heap (mxz σ) (mxu σ) τ H locs → ∀ ls : Array Slot, lv_has ls 5 [(0, .ref v0), (1, .int v1), (2, .int v2), (3, .int v3), (4, .int v4)] → W p l e (mx_rm P 3 74 σ) s m ([.ref a0, .int p1, .int p2] : List Value).toArray below meth c H locs (mxz τ - mxz σ) (mxu τ - mxu σ) (mx_Z below G P (some (.int r)) σ σ' [.ref a0, .int p1, .int p2] s) (F0 m 47 ls []) := by
    intro v0 v1 v2 v3 n
    induction n with
    | zero =>
      intro v4 τ o hf
      rw [mx_lp0] at hf
      cases hf
    | succ n ih =>
      intro v4 τ o hf Ke0 Ke1 H locs hJ ls hl
      rw [mx_lpS] at hf
      obtain ⟨b, eb, hf⟩ := mb0 hf
      refine B47 v0 v1 v2 v3 v4 τ b eb (fun y4 υ ho H locs hJ ls hl => ?_) (fun  υ ho H locs hJ ls hl => ?_) (fun  υ ho H locs hJ ls hl => ?_) H locs hJ ls hl
      · subst ho
        exact ih y4 υ o hf Ke0 Ke1 H locs hJ ls hl
      · subst ho
        exact Ke0  υ (Option.some.inj hf).symm _ _ hJ ls hl
      · subst ho
        exact Ke1  υ (Option.some.inj hf).symm _ _ hJ ls hl
  have B2 : ∀ (v0 : Nat) (v1 : Int32) (v2 : Int32) (v3 : Int32) (τ : mx_S) (o : (Int32 × mx_S) ⊕ ((mx_S) ⊕ (mx_S) ⊕ (mx_S))), f_X12_touch_B2 P v0 v1 v2 v3 τ = some o → (∀ (y3 : Int32) (υ : mx_S), o = .inl (y3, υ) → ∀ (H : Heap) (locs : List Loc), mx_J G P s.heap (mxz σ) (mxu σ) υ H locs → ∀ ls : Array Slot, lv_has ls 5 [(0, .ref v0), (1, .int v1), (2, .int v2), (3, .int y3)] → W p l e (mx_rm P 3 74 σ) s m ([.ref a0, .int p1, .int p2] : List Value).toArray below meth c H locs (mxz υ - mxz σ) (mxu υ - mxu σ) (mx_Z below G P (some (.int r)) σ σ' [.ref a0, .int p1, .int p2] s) (F0 m 2 ls [])) → (∀  (υ : mx_S), o = .inr (.inl υ) → ∀ (H : Heap) (locs : List Loc), mx_J G P s.heap (mxz σ) (mxu σ) υ H locs → ∀ ls : Array Slot, lv_has ls 5 [] → W p l e (mx_rm P 3 74 σ) s m ([.ref a0, .int p1, .int p2] : List Value).toArray below meth c H locs (mxz υ - mxz σ) (mxu υ - mxu σ) (mx_Z below G P (some (.int r)) σ σ' [.ref a0, .int p1, .int p2] s) (F0 m 42 ls [])) → (∀  (υ : mx_S), o = .inr (.inr (.inl υ)) → ∀ (H : Heap) (locs : List Loc), mx_J G P s.heap (mxz σ) (mxu σ) υ H locs → ∀ ls : Array Slot, lv_has ls 5 [] → W p l e (mx_rm P 3 74 σ) s m ([.ref a0, .int p1, .int p2] : List Value).toArray below meth c H locs (mxz υ - mxz σ) (mxu υ - mxu σ) (mx_Z below G P (some (.int r)) σ σ' [.ref a0, .int p1, .int p2] s) (F0 m 91 ls [])) → (∀  (υ : mx_S), o = .inr (.inr (.inr υ)) → ∀ (H : Heap) (locs : List Loc), mx_J G P s.heap (mxz σ) (mxu σ) υ H locs → ∀ ls : Array Slot, lv_has ls 5 [] → W p l e (mx_rm P 3 74 σ) s m ([.ref a0, .int p1, .int p2] : List Value).toArray below meth c H locs (mxz υ - mxz σ) (mxu υ - mxu σ) (mx_Z below G P (some (.int r)) σ σ' [.ref a0, .int p1, .int p2] s) (F0 m 105 ls [])) → ∀ (H : Heap) (locs : List Loc), mx_J G P s.heap (mxz σ) (mxu σ) τ H locs → ∀ ls : Array Slot, lv_has ls 5 [(0, .ref v0), (1, .int v1), (2, .int v2), (3, .int v3)] → W p l e (mx_rm P 3 74 σ) s m ([.ref a0, .int p1, .int p2] : List Value).toArray below meth c H locs (mxz τ - mxz σ) (mxu τ - mxu σ) (mx_Z below G P (some (.int r)) σ σ' [.ref a0, .int p1, .int p2] s) (F0 m 2 ls []) := by
    intro v0 v1 v2 v3 τ o hf Kb Ke0 Ke1 Ke2 H locs hJ ls hl
    unfold f_X12_touch_B2 at hf
    refine lv_iload_n hx hb dX12_touch_2 rfl (lv_at hl 3 rfl) ?_
    refine lv_aload_n hx hb dX12_touch_3 rfl (lv_at hl 0 rfl) ?_
    obtain ⟨b1, e2, hf⟩ := mb0 hf
    refine my_gR hx hb hts hown hK hJ fd_RX12_186 hv_12_86 e2 dX12_touch_4 ?_
    refine lv_iload_n hx hb dX12_touch_7 rfl (lv_at hl 1 rfl) ?_
    obtain ⟨x3, e4, hf⟩ := mb0 hf
    refine mx_aI hx hb hK hJ e4 dX12_touch_8 ?_
    refine lv_icmp_ge (tgt := 105) hx hb dX12_touch_9 (by decide) (fun c5 => ?_) (fun c5 => ?_)
    · rw [if_pos c5] at hf
      exact Ke2 τ (Option.some.inj hf).symm _ _ hJ ls (lv_sub hl [] rfl)
    · rw [if_neg c5] at hf
      refine lv_aload_n hx hb dX12_touch_12 rfl (lv_at hl 0 rfl) ?_
      refine lv_iload_n hx hb dX12_touch_13 rfl (lv_at hl 2 rfl) ?_
      refine lv_aload_n hx hb dX12_touch_14 rfl (lv_at hl 0 rfl) ?_
      obtain ⟨b6, e7, hf⟩ := mb0 hf
      refine my_gR hx hb hts hown hK hJ fd_RX12_189 hv_12_87 e7 dX12_touch_15 ?_
      refine lv_bipush (v := 24) hx hb dX12_touch_18 (by decide) ?_
      refine lv_iload_n hx hb dX12_touch_20 rfl (lv_at hl 1 rfl) ?_
      refine lv_imul hx hb dX12_touch_21 ?_
      refine lv_iload_n hx hb dX12_touch_22 rfl (lv_at hl 3 rfl) ?_
      refine lv_iadd hx hb dX12_touch_23 ?_
      obtain ⟨x8, e9, hf⟩ := mb0 hf
      refine mx_aL hx hb hK hJ e9 dX12_touch_24 ?_
      refine lv_aload_n hx hb dX12_touch_25 rfl (lv_at hl 0 rfl) ?_
      obtain ⟨b10, e11, hf⟩ := mb0 hf
      refine my_gR hx hb hts hown hK hJ fd_RX12_192 hv_12_88 e11 dX12_touch_26 ?_
      refine lv_bipush (v := 24) hx hb dX12_touch_29 (by decide) ?_
      refine lv_iload_n hx hb dX12_touch_31 rfl (lv_at hl 1 rfl) ?_
      refine lv_imul hx hb dX12_touch_32 ?_
      refine lv_iload_n hx hb dX12_touch_33 rfl (lv_at hl 3 rfl) ?_
      refine lv_iadd hx hb dX12_touch_34 ?_
      obtain ⟨x12, e13, hf⟩ := mb0 hf
      refine mx_aL hx hb hK hJ e13 dX12_touch_35 ?_
      obtain ⟨i14, e15, hf⟩ := mb0 hf
      obtain ⟨x17, σ16, e18, hf⟩ := mc0 hf
      refine mx_callV (As := [.int v2, .long x8, .long x12]) (rest := []) hx hb hml hts hown hK hJ rfl rfl (ci := 12) rfl e15 (c_X12_insideOf l G P v0 v2 x8 x12 τ x17 σ16 e18) me_X12_insideOf kw_2793 ks_169 kw_2791 (Nat.le_of_ble_eq_true rfl) (Nat.le_of_ble_eq_true rfl) rfl hl.1 rfl (Nat.le_of_ble_eq_true rfl) dX12_touch_36 (fun H locs hJ => ?_)
      refine lv_if_le (tgt := 44) hx hb dX12_touch_39 (by decide) (fun c19 => ?_) (fun c19 => ?_)
      · rw [if_pos c19] at hf
        refine lv_iconst (v := 0) hx hb dX12_touch_44 (by decide) ?_
        refine lv_istore (lv' := [(4, .int (0 : Int32)), (0, .ref v0), (1, .int v1), (2, .int v2), (3, .int v3)]) hx hb dX12_touch_45 hl (by decide) rfl (fun ls hl => ?_)
        obtain ⟨o43, e44, hf⟩ := mb0 hf
        refine L47 v0 v1 v2 v3 (mpN P) (0 : Int32) σ16 o43 e44 (fun σ45 ho H locs hJ ls hl => ?_) (fun σ46 ho H locs hJ ls hl => ?_) _ _ hJ ls (lv_sub hl [1, 2, 3, 4, 0] rfl)
        · rw [ho] at hf
          have hf : (some (.inr (.inr (.inl σ45)))) = some o := hf
          exact Ke1 σ45 (Option.some.inj hf).symm _ _ hJ ls (lv_sub hl [] rfl)
        · rw [ho] at hf
          have hf : ((some (v3 + (1 : Int32))).bind fun x47 => some (.inl (x47, σ46))) = some o := hf
          obtain ⟨x47, e48, hf⟩ := mb0 hf
          refine lv_iinc (v := x47) (lv' := [(3, .int x47), (0, .ref v0), (1, .int v1), (2, .int v2)]) hx hb dX12_touch_99 hl (k := 3) rfl (by rw [← Option.some.inj e48]; rfl) (by decide) rfl (fun ls hl => ?_)
          refine lv_goto (tgt := 2) hx hb dX12_touch_102 (by decide) ?_
          exact Kb x47 σ46 (Option.some.inj hf).symm _ _ hJ ls (lv_sub hl [1, 2, 3, 0] rfl)
      · rw [if_neg c19] at hf
        exact Ke0 σ16 (Option.some.inj hf).symm _ _ hJ ls (lv_sub hl [] rfl)
  have L2 : ∀ (v0 : Nat) (v1 : Int32) (v2 : Int32) (n : Nat) (v3 : Int32) (τ : mx_S) (o : (mx_S) ⊕ (mx_S) ⊕ (mx_S)), mx_lp (f_X12_touch_L2 P v0 v1 v2) n (v3, τ) = some o → (∀  (υ : mx_S), o = (.inl υ) → ∀ (H : Heap) (locs : List Loc), mx_J G P s.heap (mxz σ) (mxu σ) υ H locs → ∀ ls : Array Slot, lv_has ls 5 [] → W p l e (mx_rm P 3 74 σ) s m ([.ref a0, .int p1, .int p2] : List Value).toArray below meth c H locs (mxz υ - mxz σ) (mxu υ - mxu σ) (mx_Z below G P (some (.int r)) σ σ' [.ref a0, .int p1, .int p2] s) (F0 m 42 ls [])) → (∀  (υ : mx_S), o = (.inr (.inl υ)) → ∀ (H : Heap) (locs : List Loc), mx_J G P s.heap (mxz σ) (mxu σ) υ H locs → ∀ ls : Array Slot, lv_has ls 5 [] → W p l e (mx_rm P 3 74 σ) s m ([.ref a0, .int p1, .int p2] : List Value).toArray below meth c H locs (mxz υ - mxz σ) (mxu υ - mxu σ) (mx_Z below G P (some (.int r)) σ σ' [.ref a0, .int p1, .int p2] s) (F0 m 91 ls [])) → (∀  (υ : mx_S), o = (.inr (.inr υ)) → ∀ (H : Heap) (locs : List Loc), mx_J G P s.heap (mxz σ) (mxu σ) υ H locs → ∀ ls : Array Slot, lv_has ls 5 [] → W p l e (mx_rm P 3 74 σ) s m ([.ref a0, .int p1, .int p2] : List Value).toArray below meth c H locs (mxz υ - mxz σ) (mxu υ - mxu σ) (mx_Z below G P (some (.int r)) σ σ' [.ref a0, .int p1, .int p2] s) (F0 m 105 ls [])) → ∀ (H : Heap) (locs : List Loc), mx_J G P s.heap (mxz σ) (mxu σ) τ H locs → ∀ ls : Array Slot, lv_has ls 5 [(0, .ref v0), (1, .int v1), (2, .int v2), (3, .int v3)] → W p l e (mx_rm P 3 74 σ) s m ([.ref a0, .int p1, .int p2] : List Value).toArray below meth c H locs (mxz τ - mxz σ) (mxu τ - mxu σ) (mx_Z below G P (some (.int r)) σ σ' [.ref a0, .int p1, .int p2] s) (F0 m 2 ls []) := by
    intro v0 v1 v2 n
    induction n with
    | zero =>
      intro v3 τ o hf
      rw [mx_lp0] at hf
      cases hf
    | succ n ih =>
      intro v3 τ o hf Ke0 Ke1 Ke2 H locs hJ ls hl
      rw [mx_lpS] at hf
      obtain ⟨b, eb, hf⟩ := mb0 hf
      refine B2 v0 v1 v2 v3 τ b eb (fun y3 υ ho H locs hJ ls hl => ?_) (fun  υ ho H locs hJ ls hl => ?_) (fun  υ ho H locs hJ ls hl => ?_) (fun  υ ho H locs hJ ls hl => ?_) H locs hJ ls hl
      · subst ho
        exact ih y3 υ o hf Ke0 Ke1 Ke2 H locs hJ ls hl
      · subst ho
        exact Ke0  υ (Option.some.inj hf).symm _ _ hJ ls hl
      · subst ho
        exact Ke1  υ (Option.some.inj hf).symm _ _ hJ ls hl
      · subst ho
        exact Ke2  υ (Option.some.inj hf).symm _ _ hJ ls hl
  unfold f_X12_touch at hf
  refine lv_iconst (v := 0) hx hb dX12_touch_0 (by decide) ?_
  refine lv_istore_n (lv' := [(3, .int (0 : Int32)), (0, .ref a0), (1, .int p1), (2, .int p2)]) hx hb dX12_touch_1 rfl hl (by decide) rfl (fun ls hl => ?_)
  obtain ⟨o49, e50, hf⟩ := mb0 hf
  refine L2 a0 p1 p2 (mpN P) (0 : Int32) σ o49 e50 (fun σ51 ho H locs hJ ls hl => ?_) (fun σ52 ho H locs hJ ls hl => ?_) (fun σ53 ho H locs hJ ls hl => ?_) _ _ hJ ls (lv_sub hl [1, 2, 3, 0] rfl)
  · rw [ho] at hf
    have hf : (mr_Z (1 : Int32) σ51) = some (r, σ') := hf
    refine lv_iconst (v := 1) hx hb dX12_touch_42 (by decide) ?_
    exact mx_zret hx hb hr hlocks hJ hf dX12_touch_43
  · rw [ho] at hf
    have hf : (mr_Z (1 : Int32) σ52) = some (r, σ') := hf
    refine lv_iconst (v := 1) hx hb dX12_touch_91 (by decide) ?_
    exact mx_zret hx hb hr hlocks hJ hf dX12_touch_92
  · rw [ho] at hf
    have hf : (mr_Z (0 : Int32) σ53) = some (r, σ') := hf
    refine lv_iconst (v := 0) hx hb dX12_touch_105 (by decide) ?_
    exact mx_zret hx hb hr hlocks hJ hf dX12_touch_106
set_option maxHeartbeats 4000000 in
set_option maxRecDepth 100000 in
theorem c_X12_nearer (l : Launch) (G : mx_G) (P : mx_P) (a0 : Nat) (p1 : Int64) (p3 : Int64) (σ : mx_S) (σ' : mx_S) (hf : f_X12_nearer P a0 p1 p3 σ = some σ') : mxz σ ≤ mpc P → mxu σ ≤ mps P → mx_M l yX12_nearer cX12_nearer 7 none 2 50 G P [.ref a0, .long p1, .long p3] σ none σ' := by
  intro hcap hcau
  refine mx_ofW (by decide +kernel) hcap hcau (Nat.le_of_ble_eq_true rfl) ?_
  intro p e s m below meth c hx hb hr hml hts hown hlocks hname hK hJ ls hl
  have hz0 := hJ.2.1
  have hown : s.vm.findClass RX12 = some m.cls := hown
  have hl : lv_has ls 7 [(0, .ref a0), (1, .long p1), (3, .long p3)] := hl
  have D39 : ∀ (v0 : Nat) (v1 : Int64) (v3 : Int64) (v5 : Int64) (τ : mx_S), f_X12_nearer_D39 P v0 v1 v3 v5 τ = some σ' → ∀ (H : Heap) (locs : List Loc), mx_J G P s.heap (mxz σ) (mxu σ) τ H locs → ∀ ls : Array Slot, lv_has ls 7 [(0, .ref v0), (1, .long v1), (3, .long v3), (5, .long v5)] → W p l e (mx_rm P 2 50 σ) s m ([.ref a0, .long p1, .long p3] : List Value).toArray below meth c H locs (mxz τ - mxz σ) (mxu τ - mxu σ) (mx_Z below G P none σ σ' [.ref a0, .long p1, .long p3] s) (F0 m 39 ls []) := by
    intro v0 v1 v3 v5 τ hf _ _ hJ ls hl
    unfold f_X12_nearer_D39 at hf
    refine lv_aload_n hx hb dX12_nearer_39 rfl (lv_at hl 0 rfl) ?_
    refine lv_lload_n hx hb dX12_nearer_40 rfl (lv_at hl 1 rfl) ?_
    refine lv_lload hx hb dX12_nearer_41 (lv_at hl 3 rfl) ?_
    obtain ⟨x7, e8, hf⟩ := mb0 hf
    refine lv_ldiv hx hb dX12_nearer_43 (md_Ls e8).1 ?_
    refine mx_eL (md_Ls e8).2 ?_
    obtain ⟨σ9, e10, hf⟩ := mb0 hf
    refine my_pL hx hb hts hown hK hJ fd_RX12_768 cd_12 (Or.inl rfl) ht_12_89 e10 dX12_nearer_44 (fun H locs hJ => ?_)
    refine lv_aload_n hx hb dX12_nearer_47 rfl (lv_at hl 0 rfl) ?_
    refine lv_lload_n hx hb dX12_nearer_48 rfl (lv_at hl 2 rfl) ?_
    refine lv_lload hx hb dX12_nearer_49 (lv_at hl 3 rfl) ?_
    obtain ⟨x11, e12, hf⟩ := mb0 hf
    refine lv_ldiv hx hb dX12_nearer_51 (md_Ls e12).1 ?_
    refine mx_eL (md_Ls e12).2 ?_
    obtain ⟨σ13, e14, hf⟩ := mb0 hf
    refine my_pL hx hb hts hown hK hJ fd_RX12_765 cd_12 (Or.inl rfl) ht_12_90 e14 dX12_nearer_52 (fun H locs hJ => ?_)
    exact my_vret hx hb hr hlocks hJ hf dX12_nearer_55
  unfold f_X12_nearer at hf
  refine lv_lload_n hx hb dX12_nearer_0 rfl (lv_at hl 1 rfl) ?_
  refine lv_lload_n hx hb dX12_nearer_1 rfl (lv_at hl 2 rfl) ?_
  obtain ⟨x2, σ1, e3, hf⟩ := mc0 hf
  refine mx_callS (As := [.long p1, .long p3]) (rest := []) hx hb hml hts hown hK hJ rfl rfl (c_X12_gcd l G P p1 p3 σ x2 σ1 e3) me_X12_gcd kw_2260 kw_2259 (Nat.le_of_ble_eq_true rfl) (Nat.le_of_ble_eq_true rfl) rfl hl.1 rfl (Nat.le_of_ble_eq_true rfl) dX12_nearer_2 (fun H locs hJ => ?_)
  refine lv_lstore (lv' := [(5, .long x2), (0, .ref a0), (1, .long p1), (3, .long p3)]) hx hb dX12_nearer_5 hl (by decide) rfl (fun ls hl => ?_)
  refine lv_aload_n hx hb dX12_nearer_7 rfl (lv_at hl 1 rfl) ?_
  obtain ⟨x4, e5, hf⟩ := mb0 hf
  refine my_gL hx hb hts hown hK hJ fd_RX12_765 hv_12_90 e5 dX12_nearer_8 ?_
  refine lv_lconst (v := 0) hx hb dX12_nearer_11 (by decide) ?_
  refine W.lcmp hx hb dX12_nearer_12 ?_
  refine lv_if_le (tgt := 39) hx hb dX12_nearer_13 (by decide) (fun c6 => ?_) (fun c6 => ?_)
  · rw [if_pos c6] at hf
    exact D39 a0 p1 p3 x2 σ1 hf _ _ hJ ls (lv_sub hl [1, 2, 3, 0] rfl)
  · rw [if_neg c6] at hf
    refine lv_lload_n hx hb dX12_nearer_16 rfl (lv_at hl 2 rfl) ?_
    refine lv_lload hx hb dX12_nearer_17 (lv_at hl 0 rfl) ?_
    obtain ⟨x15, e16, hf⟩ := mb0 hf
    refine lv_ldiv hx hb dX12_nearer_19 (md_Ls e16).1 ?_
    refine mx_eL (md_Ls e16).2 ?_
    refine lv_lload_n hx hb dX12_nearer_20 rfl (lv_at hl 3 rfl) ?_
    refine lv_lload hx hb dX12_nearer_21 (lv_at hl 0 rfl) ?_
    obtain ⟨x17, e18, hf⟩ := mb0 hf
    refine lv_ldiv hx hb dX12_nearer_23 (md_Ls e18).1 ?_
    refine mx_eL (md_Ls e18).2 ?_
    refine lv_aload_n hx hb dX12_nearer_24 rfl (lv_at hl 1 rfl) ?_
    obtain ⟨x19, e20, hf⟩ := mb0 hf
    refine my_gL hx hb hts hown hK hJ fd_RX12_768 hv_12_89 e20 dX12_nearer_25 ?_
    refine lv_aload_n hx hb dX12_nearer_28 rfl (lv_at hl 1 rfl) ?_
    obtain ⟨x21, e22, hf⟩ := mb0 hf
    refine my_gL hx hb hts hown hK hJ fd_RX12_765 hv_12_90 e22 dX12_nearer_29 ?_
    obtain ⟨x24, σ23, e25, hf⟩ := mc0 hf
    refine mx_callS (As := [.long x15, .long x17, .long x19, .long x21]) (rest := []) hx hb hml hts hown hK hJ rfl rfl (c_X12_isLess l G P x15 x17 x19 x21 σ1 x24 σ23 e25) me_X12_isLess kw_2744 kw_2743 (Nat.le_of_ble_eq_true rfl) (Nat.le_of_ble_eq_true rfl) rfl hl.1 rfl (Nat.le_of_ble_eq_true rfl) dX12_nearer_32 (fun H locs hJ => ?_)
    refine lv_if_ne (tgt := 39) hx hb dX12_nearer_35 (by decide) (fun c26 => ?_) (fun c26 => ?_)
    · rw [if_neg c26] at hf
      exact D39 a0 p1 p3 x2 σ23 hf _ _ hJ ls (lv_sub hl [1, 2, 3, 0] rfl)
    · rw [if_pos c26] at hf
      exact my_vret hx hb hr hlocks hJ hf dX12_nearer_38
set_option maxHeartbeats 4000000 in
set_option maxRecDepth 100000 in
theorem c_X12_distances (l : Launch) (G : mx_G) (P : mx_P) (a0 : Nat) (p1 : Int32) (p2 : Int32) (σ : mx_S) (σ' : mx_S) (hf : f_X12_distances P a0 p1 p2 σ = some σ') : mxz σ ≤ mpc P → mxu σ ≤ mps P → mx_M l yX12_distances cX12_distances 27 none 3 76 G P [.ref a0, .int p1, .int p2] σ none σ' := by
  intro hcap hcau
  refine mx_ofW (by decide +kernel) hcap hcau (Nat.le_of_ble_eq_true rfl) ?_
  intro p e s m below meth c hx hb hr hml hts hown hlocks hname hK hJ ls hl
  have hz0 := hJ.2.1
  have hown : s.vm.findClass RX12 = some m.cls := hown
  have hl : lv_has ls 27 [(0, .ref a0), (1, .int p1), (2, .int p2)] := hl
  have D275_41 : ∀ (v0 : Nat) (v1 : Int32) (v2 : Int32) (v3 : Int32) (v4 : Int64) (v6 : Int64) (v8 : Int32) (τ : mx_S) (o : (Int32 × mx_S) ⊕ ((mx_S))), f_X12_distances_D275_41 P v0 v1 v2 v3 v4 v6 v8 τ = some o → (∀ (y8 : Int32) (υ : mx_S), o = .inl (y8, υ) → ∀ (H : Heap) (locs : List Loc), mx_J G P s.heap (mxz σ) (mxu σ) υ H locs → ∀ ls : Array Slot, lv_has ls 27 [(0, .ref v0), (1, .int v1), (2, .int v2), (3, .int v3), (4, .long v4), (6, .long v6), (8, .int y8)] → W p l e (mx_rm P 3 76 σ) s m ([.ref a0, .int p1, .int p2] : List Value).toArray below meth c H locs (mxz υ - mxz σ) (mxu υ - mxu σ) (mx_Z below G P none σ σ' [.ref a0, .int p1, .int p2] s) (F0 m 41 ls [])) → (∀  (υ : mx_S), o = .inr υ → ∀ (H : Heap) (locs : List Loc), mx_J G P s.heap (mxz σ) (mxu σ) υ H locs → ∀ ls : Array Slot, lv_has ls 27 [(0, .ref v0), (1, .int v1), (2, .int v2), (3, .int v3)] → W p l e (mx_rm P 3 76 σ) s m ([.ref a0, .int p1, .int p2] : List Value).toArray below meth c H locs (mxz υ - mxz σ) (mxu υ - mxu σ) (mx_Z below G P none σ σ' [.ref a0, .int p1, .int p2] s) (F0 m 281 ls [])) → ∀ (H : Heap) (locs : List Loc), mx_J G P s.heap (mxz σ) (mxu σ) τ H locs → ∀ ls : Array Slot, lv_has ls 27 [(0, .ref v0), (1, .int v1), (2, .int v2), (3, .int v3), (4, .long v4), (6, .long v6), (8, .int v8)] → W p l e (mx_rm P 3 76 σ) s m ([.ref a0, .int p1, .int p2] : List Value).toArray below meth c H locs (mxz τ - mxz σ) (mxu τ - mxu σ) (mx_Z below G P none σ σ' [.ref a0, .int p1, .int p2] s) (F0 m 275 ls []) := by
    intro v0 v1 v2 v3 v4 v6 v8 τ o hf Kb Ke0 H locs hJ ls hl
    unfold f_X12_distances_D275_41 at hf
    obtain ⟨x67, e68, hf⟩ := mb0 hf
    refine lv_iinc (v := x67) (lv' := [(8, .int x67), (0, .ref v0), (1, .int v1), (2, .int v2), (3, .int v3), (4, .long v4), (6, .long v6)]) hx hb dX12_distances_275 hl (k := 6) rfl (by rw [← Option.some.inj e68]; rfl) (by decide) rfl (fun ls hl => ?_)
    refine lv_goto (tgt := 41) hx hb dX12_distances_278 (by decide) ?_
    exact Kb x67 τ (Option.some.inj hf).symm _ _ hJ ls (lv_sub hl [1, 2, 3, 4, 5, 6, 0] rfl)
  have D263_41 : ∀ (v0 : Nat) (v1 : Int32) (v2 : Int32) (v3 : Int32) (v4 : Int64) (v6 : Int64) (v8 : Int32) (v23 : Int64) (v25 : Int64) (τ : mx_S) (o : (Int32 × mx_S) ⊕ ((mx_S))), f_X12_distances_D263_41 P v0 v1 v2 v3 v4 v6 v8 v23 v25 τ = some o → (∀ (y8 : Int32) (υ : mx_S), o = .inl (y8, υ) → ∀ (H : Heap) (locs : List Loc), mx_J G P s.heap (mxz σ) (mxu σ) υ H locs → ∀ ls : Array Slot, lv_has ls 27 [(0, .ref v0), (1, .int v1), (2, .int v2), (3, .int v3), (4, .long v4), (6, .long v6), (8, .int y8)] → W p l e (mx_rm P 3 76 σ) s m ([.ref a0, .int p1, .int p2] : List Value).toArray below meth c H locs (mxz υ - mxz σ) (mxu υ - mxu σ) (mx_Z below G P none σ σ' [.ref a0, .int p1, .int p2] s) (F0 m 41 ls [])) → (∀  (υ : mx_S), o = .inr υ → ∀ (H : Heap) (locs : List Loc), mx_J G P s.heap (mxz σ) (mxu σ) υ H locs → ∀ ls : Array Slot, lv_has ls 27 [(0, .ref v0), (1, .int v1), (2, .int v2), (3, .int v3)] → W p l e (mx_rm P 3 76 σ) s m ([.ref a0, .int p1, .int p2] : List Value).toArray below meth c H locs (mxz υ - mxz σ) (mxu υ - mxu σ) (mx_Z below G P none σ σ' [.ref a0, .int p1, .int p2] s) (F0 m 281 ls [])) → ∀ (H : Heap) (locs : List Loc), mx_J G P s.heap (mxz σ) (mxu σ) τ H locs → ∀ ls : Array Slot, lv_has ls 27 [(0, .ref v0), (1, .int v1), (2, .int v2), (3, .int v3), (4, .long v4), (6, .long v6), (8, .int v8), (23, .long v23), (25, .long v25)] → W p l e (mx_rm P 3 76 σ) s m ([.ref a0, .int p1, .int p2] : List Value).toArray below meth c H locs (mxz τ - mxz σ) (mxu τ - mxu σ) (mx_Z below G P none σ σ' [.ref a0, .int p1, .int p2] s) (F0 m 263 ls []) := by
    intro v0 v1 v2 v3 v4 v6 v8 v23 v25 τ o hf Kb Ke0 H locs hJ ls hl
    unfold f_X12_distances_D263_41 at hf
    refine lv_aload_n hx hb dX12_distances_263 rfl (lv_at hl 0 rfl) ?_
    refine lv_lload hx hb dX12_distances_264 (lv_at hl 7 rfl) ?_
    refine lv_lload hx hb dX12_distances_266 (lv_at hl 8 rfl) ?_
    obtain ⟨x61, σ60, e62, hf⟩ := mc0 hf
    refine mx_callS (As := [.long v23, .long v25]) (rest := [.ref v0]) hx hb hml hts hown hK hJ rfl rfl (c_X12_smaller l G P v23 v25 τ x61 σ60 e62) me_X12_smaller kw_2410 kw_2409 (Nat.le_of_ble_eq_true rfl) (Nat.le_of_ble_eq_true rfl) rfl hl.1 rfl (Nat.le_of_ble_eq_true rfl) dX12_distances_268 (fun H locs hJ => ?_)
    refine lv_lconst (v := 1) hx hb dX12_distances_271 (by decide) ?_
    obtain ⟨i63, e64, hf⟩ := mb0 hf
    obtain ⟨σ65, e66, hf⟩ := mb0 hf
    refine mx_callV (As := [.long x61, .long (1 : Int64)]) (rest := []) hx hb hml hts hown hK hJ rfl rfl (ci := 12) rfl e64 (c_X12_nearer l G P v0 x61 (1 : Int64) σ60 σ65 e66) me_X12_nearer kw_2809 ks_172 kw_2807 (Nat.le_of_ble_eq_true rfl) (Nat.le_of_ble_eq_true rfl) rfl hl.1 rfl (Nat.le_of_ble_eq_true rfl) dX12_distances_272 (fun H locs hJ => ?_)
    exact D275_41 v0 v1 v2 v3 v4 v6 v8 σ65 o hf Kb Ke0 _ _ hJ ls (lv_sub hl [0, 1, 2, 3, 4, 5, 6] rfl)
  have B41 : ∀ (v0 : Nat) (v1 : Int32) (v2 : Int32) (v3 : Int32) (v4 : Int64) (v6 : Int64) (v8 : Int32) (τ : mx_S) (o : (Int32 × mx_S) ⊕ ((mx_S))), f_X12_distances_B41 P v0 v1 v2 v3 v4 v6 v8 τ = some o → (∀ (y8 : Int32) (υ : mx_S), o = .inl (y8, υ) → ∀ (H : Heap) (locs : List Loc), mx_J G P s.heap (mxz σ) (mxu σ) υ H locs → ∀ ls : Array Slot, lv_has ls 27 [(0, .ref v0), (1, .int v1), (2, .int v2), (3, .int v3), (4, .long v4), (6, .long v6), (8, .int y8)] → W p l e (mx_rm P 3 76 σ) s m ([.ref a0, .int p1, .int p2] : List Value).toArray below meth c H locs (mxz υ - mxz σ) (mxu υ - mxu σ) (mx_Z below G P none σ σ' [.ref a0, .int p1, .int p2] s) (F0 m 41 ls [])) → (∀  (υ : mx_S), o = .inr υ → ∀ (H : Heap) (locs : List Loc), mx_J G P s.heap (mxz σ) (mxu σ) υ H locs → ∀ ls : Array Slot, lv_has ls 27 [(0, .ref v0), (1, .int v1), (2, .int v2), (3, .int v3)] → W p l e (mx_rm P 3 76 σ) s m ([.ref a0, .int p1, .int p2] : List Value).toArray below meth c H locs (mxz υ - mxz σ) (mxu υ - mxu σ) (mx_Z below G P none σ σ' [.ref a0, .int p1, .int p2] s) (F0 m 281 ls [])) → ∀ (H : Heap) (locs : List Loc), mx_J G P s.heap (mxz σ) (mxu σ) τ H locs → ∀ ls : Array Slot, lv_has ls 27 [(0, .ref v0), (1, .int v1), (2, .int v2), (3, .int v3), (4, .long v4), (6, .long v6), (8, .int v8)] → W p l e (mx_rm P 3 76 σ) s m ([.ref a0, .int p1, .int p2] : List Value).toArray below meth c H locs (mxz τ - mxz σ) (mxu τ - mxu σ) (mx_Z below G P none σ σ' [.ref a0, .int p1, .int p2] s) (F0 m 41 ls []) := by
    intro v0 v1 v2 v3 v4 v6 v8 τ o hf Kb Ke0 H locs hJ ls hl
    unfold f_X12_distances_B41 at hf
    refine lv_iload hx hb dX12_distances_41 (lv_at hl 6 rfl) ?_
    refine lv_aload_n hx hb dX12_distances_43 rfl (lv_at hl 0 rfl) ?_
    obtain ⟨b14, e15, hf⟩ := mb0 hf
    refine my_gR hx hb hts hown hK hJ fd_RX12_186 hv_12_86 e15 dX12_distances_44 ?_
    refine lv_iload_n hx hb dX12_distances_47 rfl (lv_at hl 2 rfl) ?_
    obtain ⟨x16, e17, hf⟩ := mb0 hf
    refine mx_aI hx hb hK hJ e17 dX12_distances_48 ?_
    refine lv_icmp_ge (tgt := 281) hx hb dX12_distances_49 (by decide) (fun c18 => ?_) (fun c18 => ?_)
    · rw [if_pos c18] at hf
      exact Ke0 τ (Option.some.inj hf).symm _ _ hJ ls (lv_sub hl [0, 1, 2, 3] rfl)
    · rw [if_neg c18] at hf
      refine lv_aload_n hx hb dX12_distances_52 rfl (lv_at hl 0 rfl) ?_
      obtain ⟨b19, e20, hf⟩ := mb0 hf
      refine my_gR hx hb hts hown hK hJ fd_RX12_189 hv_12_87 e20 dX12_distances_53 ?_
      refine lv_bipush (v := 24) hx hb dX12_distances_56 (by decide) ?_
      refine lv_iload_n hx hb dX12_distances_58 rfl (lv_at hl 2 rfl) ?_
      refine lv_imul hx hb dX12_distances_59 ?_
      refine lv_iload hx hb dX12_distances_60 (lv_at hl 6 rfl) ?_
      refine lv_iadd hx hb dX12_distances_62 ?_
      obtain ⟨x21, e22, hf⟩ := mb0 hf
      refine mx_aL hx hb hK hJ e22 dX12_distances_63 ?_
      refine lv_lstore (lv' := [(9, .long x21), (0, .ref v0), (1, .int v1), (2, .int v2), (3, .int v3), (4, .long v4), (6, .long v6), (8, .int v8)]) hx hb dX12_distances_64 hl (by decide) rfl (fun ls hl => ?_)
      refine lv_aload_n hx hb dX12_distances_66 rfl (lv_at hl 1 rfl) ?_
      obtain ⟨b23, e24, hf⟩ := mb0 hf
      refine my_gR hx hb hts hown hK hJ fd_RX12_192 hv_12_88 e24 dX12_distances_67 ?_
      refine lv_bipush (v := 24) hx hb dX12_distances_70 (by decide) ?_
      refine lv_iload_n hx hb dX12_distances_72 rfl (lv_at hl 3 rfl) ?_
      refine lv_imul hx hb dX12_distances_73 ?_
      refine lv_iload hx hb dX12_distances_74 (lv_at hl 7 rfl) ?_
      refine lv_iadd hx hb dX12_distances_76 ?_
      obtain ⟨x25, e26, hf⟩ := mb0 hf
      refine mx_aL hx hb hK hJ e26 dX12_distances_77 ?_
      refine lv_lstore (lv' := [(11, .long x25), (9, .long x21), (0, .ref v0), (1, .int v1), (2, .int v2), (3, .int v3), (4, .long v4), (6, .long v6), (8, .int v8)]) hx hb dX12_distances_78 hl (by decide) rfl (fun ls hl => ?_)
      refine lv_aload_n hx hb dX12_distances_80 rfl (lv_at hl 2 rfl) ?_
      obtain ⟨b27, e28, hf⟩ := mb0 hf
      refine my_gR hx hb hts hown hK hJ fd_RX12_189 hv_12_87 e28 dX12_distances_81 ?_
      refine lv_aload_n hx hb dX12_distances_84 rfl (lv_at hl 2 rfl) ?_
      refine lv_iload_n hx hb dX12_distances_85 rfl (lv_at hl 4 rfl) ?_
      refine lv_iload hx hb dX12_distances_86 (lv_at hl 8 rfl) ?_
      obtain ⟨i29, e30, hf⟩ := mb0 hf
      obtain ⟨x32, σ31, e33, hf⟩ := mc0 hf
      refine mx_callV (As := [.int v2, .int v8]) (rest := [.ref b27]) hx hb hml hts hown hK hJ rfl rfl (ci := 12) rfl e30 (c_X12_after l G P v0 v2 v8 τ x32 σ31 e33) me_X12_after kw_2765 ks_164 kw_2763 (Nat.le_of_ble_eq_true rfl) (Nat.le_of_ble_eq_true rfl) rfl hl.1 rfl (Nat.le_of_ble_eq_true rfl) dX12_distances_88 (fun H locs hJ => ?_)
      obtain ⟨x34, e35, hf⟩ := mb0 hf
      refine mx_aL hx hb hK hJ e35 dX12_distances_91 ?_
      refine lv_lload hx hb dX12_distances_92 (lv_at hl 1 rfl) ?_
      refine lv_lsub hx hb dX12_distances_94 ?_
      obtain ⟨x36, e37, hf⟩ := mb0 hf
      refine mx_nL e37 ?_
      refine lv_lstore (lv' := [(13, .long x36), (11, .long x25), (9, .long x21), (0, .ref v0), (1, .int v1), (2, .int v2), (3, .int v3), (4, .long v4), (6, .long v6), (8, .int v8)]) hx hb dX12_distances_95 hl (by decide) rfl (fun ls hl => ?_)
      refine lv_aload_n hx hb dX12_distances_97 rfl (lv_at hl 3 rfl) ?_
      obtain ⟨b38, e39, hf⟩ := mb0 hf
      refine my_gR hx hb hts hown hK hJ fd_RX12_192 hv_12_88 e39 dX12_distances_98 ?_
      refine lv_aload_n hx hb dX12_distances_101 rfl (lv_at hl 3 rfl) ?_
      refine lv_iload_n hx hb dX12_distances_102 rfl (lv_at hl 5 rfl) ?_
      refine lv_iload hx hb dX12_distances_103 (lv_at hl 9 rfl) ?_
      obtain ⟨i40, e41, hf⟩ := mb0 hf
      obtain ⟨x43, σ42, e44, hf⟩ := mc0 hf
      refine mx_callV (As := [.int v2, .int v8]) (rest := [.ref b38]) hx hb hml hts hown hK hJ rfl rfl (ci := 12) rfl e41 (c_X12_after l G P v0 v2 v8 σ31 x43 σ42 e44) me_X12_after kw_2765 ks_164 kw_2763 (Nat.le_of_ble_eq_true rfl) (Nat.le_of_ble_eq_true rfl) rfl hl.1 rfl (Nat.le_of_ble_eq_true rfl) dX12_distances_105 (fun H locs hJ => ?_)
      obtain ⟨x45, e46, hf⟩ := mb0 hf
      refine mx_aL hx hb hK hJ e46 dX12_distances_108 ?_
      refine lv_lload hx hb dX12_distances_109 (lv_at hl 1 rfl) ?_
      refine lv_lsub hx hb dX12_distances_111 ?_
      obtain ⟨x47, e48, hf⟩ := mb0 hf
      refine mx_nL e48 ?_
      refine lv_lstore (lv' := [(15, .long x47), (13, .long x36), (11, .long x25), (9, .long x21), (0, .ref v0), (1, .int v1), (2, .int v2), (3, .int v3), (4, .long v4), (6, .long v6), (8, .int v8)]) hx hb dX12_distances_112 hl (by decide) rfl (fun ls hl => ?_)
      refine lv_lload hx hb dX12_distances_114 (lv_at hl 1 rfl) ?_
      refine lv_lload hx hb dX12_distances_116 (lv_at hl 1 rfl) ?_
      refine lv_lmul hx hb dX12_distances_118 ?_
      refine lv_lload hx hb dX12_distances_119 (lv_at hl 0 rfl) ?_
      refine lv_lload hx hb dX12_distances_121 (lv_at hl 0 rfl) ?_
      refine lv_lmul hx hb dX12_distances_123 ?_
      refine lv_ladd hx hb dX12_distances_124 ?_
      obtain ⟨x49, e50, hf⟩ := mb0 hf
      refine mx_nL e50 ?_
      refine lv_lstore (lv' := [(17, .long x49), (15, .long x47), (13, .long x36), (11, .long x25), (9, .long x21), (0, .ref v0), (1, .int v1), (2, .int v2), (3, .int v3), (4, .long v4), (6, .long v6), (8, .int v8)]) hx hb dX12_distances_125 hl (by decide) rfl (fun ls hl => ?_)
      refine lv_lload hx hb dX12_distances_127 (lv_at hl 9 rfl) ?_
      refine lv_lload hx hb dX12_distances_129 (lv_at hl 4 rfl) ?_
      refine lv_lsub hx hb dX12_distances_131 ?_
      refine lv_lload hx hb dX12_distances_132 (lv_at hl 2 rfl) ?_
      refine lv_lmul hx hb dX12_distances_134 ?_
      refine lv_lload hx hb dX12_distances_135 (lv_at hl 10 rfl) ?_
      refine lv_lload hx hb dX12_distances_137 (lv_at hl 3 rfl) ?_
      refine lv_lsub hx hb dX12_distances_139 ?_
      refine lv_lload hx hb dX12_distances_140 (lv_at hl 1 rfl) ?_
      refine lv_lmul hx hb dX12_distances_142 ?_
      refine lv_ladd hx hb dX12_distances_143 ?_
      obtain ⟨x51, e52, hf⟩ := mb0 hf
      refine mx_nL e52 ?_
      refine lv_lstore (lv' := [(19, .long x51), (17, .long x49), (15, .long x47), (13, .long x36), (11, .long x25), (9, .long x21), (0, .ref v0), (1, .int v1), (2, .int v2), (3, .int v3), (4, .long v4), (6, .long v6), (8, .int v8)]) hx hb dX12_distances_144 hl (by decide) rfl (fun ls hl => ?_)
      refine lv_lload hx hb dX12_distances_146 (lv_at hl 10 rfl) ?_
      refine lv_lload hx hb dX12_distances_148 (lv_at hl 5 rfl) ?_
      refine lv_lsub hx hb dX12_distances_150 ?_
      refine lv_lload hx hb dX12_distances_151 (lv_at hl 2 rfl) ?_
      refine lv_lmul hx hb dX12_distances_153 ?_
      refine lv_lload hx hb dX12_distances_154 (lv_at hl 11 rfl) ?_
      refine lv_lload hx hb dX12_distances_156 (lv_at hl 4 rfl) ?_
      refine lv_lsub hx hb dX12_distances_158 ?_
      refine lv_lload hx hb dX12_distances_159 (lv_at hl 3 rfl) ?_
      refine lv_lmul hx hb dX12_distances_161 ?_
      refine lv_lsub hx hb dX12_distances_162 ?_
      obtain ⟨x53, e54, hf⟩ := mb0 hf
      refine mx_nL e54 ?_
      refine lv_lstore (lv' := [(21, .long x53), (19, .long x51), (17, .long x49), (15, .long x47), (13, .long x36), (11, .long x25), (9, .long x21), (0, .ref v0), (1, .int v1), (2, .int v2), (3, .int v3), (4, .long v4), (6, .long v6), (8, .int v8)]) hx hb dX12_distances_163 hl (by decide) rfl (fun ls hl => ?_)
      refine lv_lload hx hb dX12_distances_165 (lv_at hl 11 rfl) ?_
      refine lv_lload hx hb dX12_distances_167 (lv_at hl 6 rfl) ?_
      refine lv_lsub hx hb dX12_distances_169 ?_
      refine lv_lload hx hb dX12_distances_170 (lv_at hl 11 rfl) ?_
      refine lv_lload hx hb dX12_distances_172 (lv_at hl 6 rfl) ?_
      refine lv_lsub hx hb dX12_distances_174 ?_
      refine lv_lmul hx hb dX12_distances_175 ?_
      refine lv_lload hx hb dX12_distances_176 (lv_at hl 12 rfl) ?_
      refine lv_lload hx hb dX12_distances_178 (lv_at hl 5 rfl) ?_
      refine lv_lsub hx hb dX12_distances_180 ?_
      refine lv_lload hx hb dX12_distances_181 (lv_at hl 12 rfl) ?_
      refine lv_lload hx hb dX12_distances_183 (lv_at hl 5 rfl) ?_
      refine lv_lsub hx hb dX12_distances_185 ?_
      refine lv_lmul hx hb dX12_distances_186 ?_
      refine lv_ladd hx hb dX12_distances_187 ?_
      obtain ⟨x55, e56, hf⟩ := mb0 hf
      refine mx_nL e56 ?_
      refine lv_lstore (lv' := [(23, .long x55), (21, .long x53), (19, .long x51), (17, .long x49), (15, .long x47), (13, .long x36), (11, .long x25), (9, .long x21), (0, .ref v0), (1, .int v1), (2, .int v2), (3, .int v3), (4, .long v4), (6, .long v6), (8, .int v8)]) hx hb dX12_distances_188 hl (by decide) rfl (fun ls hl => ?_)
      refine lv_lload hx hb dX12_distances_190 (lv_at hl 12 rfl) ?_
      refine lv_lload hx hb dX12_distances_192 (lv_at hl 7 rfl) ?_
      refine lv_lsub hx hb dX12_distances_194 ?_
      refine lv_lload hx hb dX12_distances_195 (lv_at hl 5 rfl) ?_
      refine lv_lsub hx hb dX12_distances_197 ?_
      refine lv_lload hx hb dX12_distances_198 (lv_at hl 12 rfl) ?_
      refine lv_lload hx hb dX12_distances_200 (lv_at hl 7 rfl) ?_
      refine lv_lsub hx hb dX12_distances_202 ?_
      refine lv_lload hx hb dX12_distances_203 (lv_at hl 5 rfl) ?_
      refine lv_lsub hx hb dX12_distances_205 ?_
      refine lv_lmul hx hb dX12_distances_206 ?_
      refine lv_lload hx hb dX12_distances_207 (lv_at hl 13 rfl) ?_
      refine lv_lload hx hb dX12_distances_209 (lv_at hl 6 rfl) ?_
      refine lv_lsub hx hb dX12_distances_211 ?_
      refine lv_lload hx hb dX12_distances_212 (lv_at hl 4 rfl) ?_
      refine lv_lsub hx hb dX12_distances_214 ?_
      refine lv_lload hx hb dX12_distances_215 (lv_at hl 13 rfl) ?_
      refine lv_lload hx hb dX12_distances_217 (lv_at hl 6 rfl) ?_
      refine lv_lsub hx hb dX12_distances_219 ?_
      refine lv_lload hx hb dX12_distances_220 (lv_at hl 4 rfl) ?_
      refine lv_lsub hx hb dX12_distances_222 ?_
      refine lv_lmul hx hb dX12_distances_223 ?_
      refine lv_ladd hx hb dX12_distances_224 ?_
      obtain ⟨x57, e58, hf⟩ := mb0 hf
      refine mx_nL e58 ?_
      refine lv_lstore (lv' := [(25, .long x57), (23, .long x55), (21, .long x53), (19, .long x51), (17, .long x49), (15, .long x47), (13, .long x36), (11, .long x25), (9, .long x21), (0, .ref v0), (1, .int v1), (2, .int v2), (3, .int v3), (4, .long v4), (6, .long v6), (8, .int v8)]) hx hb dX12_distances_225 hl (by decide) rfl (fun ls hl => ?_)
      refine lv_lload hx hb dX12_distances_227 (lv_at hl 4 rfl) ?_
      refine lv_lconst (v := 0) hx hb dX12_distances_229 (by decide) ?_
      refine W.lcmp hx hb dX12_distances_230 ?_
      refine lv_if_le (tgt := 263) hx hb dX12_distances_231 (by decide) (fun c59 => ?_) (fun c59 => ?_)
      · rw [if_pos c59] at hf
        exact D263_41 v0 v1 v2 v3 v4 v6 v8 x55 x57 σ42 o hf Kb Ke0 _ _ hJ ls (lv_sub hl [9, 10, 11, 12, 13, 14, 15, 1, 0] rfl)
      · rw [if_neg c59] at hf
        refine lv_lload hx hb dX12_distances_234 (lv_at hl 3 rfl) ?_
        refine lv_lconst (v := 0) hx hb dX12_distances_236 (by decide) ?_
        refine W.lcmp hx hb dX12_distances_237 ?_
        refine lv_if_lt (tgt := 263) hx hb dX12_distances_238 (by decide) (fun c69 => ?_) (fun c69 => ?_)
        · rw [if_pos c69] at hf
          exact D263_41 v0 v1 v2 v3 v4 v6 v8 x55 x57 σ42 o hf Kb Ke0 _ _ hJ ls (lv_sub hl [9, 10, 11, 12, 13, 14, 15, 1, 0] rfl)
        · rw [if_neg c69] at hf
          refine lv_lload hx hb dX12_distances_241 (lv_at hl 3 rfl) ?_
          refine lv_lload hx hb dX12_distances_243 (lv_at hl 4 rfl) ?_
          refine W.lcmp hx hb dX12_distances_245 ?_
          refine lv_if_gt (tgt := 263) hx hb dX12_distances_246 (by decide) (fun c70 => ?_) (fun c70 => ?_)
          · rw [if_pos c70] at hf
            exact D263_41 v0 v1 v2 v3 v4 v6 v8 x55 x57 σ42 o hf Kb Ke0 _ _ hJ ls (lv_sub hl [9, 10, 11, 12, 13, 14, 15, 1, 0] rfl)
          · rw [if_neg c70] at hf
            refine lv_aload_n hx hb dX12_distances_249 rfl (lv_at hl 9 rfl) ?_
            refine lv_lload hx hb dX12_distances_250 (lv_at hl 2 rfl) ?_
            refine lv_lload hx hb dX12_distances_252 (lv_at hl 2 rfl) ?_
            refine lv_lmul hx hb dX12_distances_254 ?_
            refine lv_lload hx hb dX12_distances_255 (lv_at hl 4 rfl) ?_
            obtain ⟨i71, e72, hf⟩ := mb0 hf
            obtain ⟨σ73, e74, hf⟩ := mb0 hf
            refine mx_callV (As := [.long (x53 * x53), .long x49]) (rest := []) hx hb hml hts hown hK hJ rfl rfl (ci := 12) rfl e72 (c_X12_nearer l G P v0 (x53 * x53) x49 σ42 σ73 e74) me_X12_nearer kw_2809 ks_172 kw_2807 (Nat.le_of_ble_eq_true rfl) (Nat.le_of_ble_eq_true rfl) rfl hl.1 rfl (Nat.le_of_ble_eq_true rfl) dX12_distances_257 (fun H locs hJ => ?_)
            refine lv_goto (tgt := 275) hx hb dX12_distances_260 (by decide) ?_
            exact D275_41 v0 v1 v2 v3 v4 v6 v8 σ73 o hf Kb Ke0 _ _ hJ ls (lv_sub hl [9, 10, 11, 12, 13, 14, 15] rfl)
  have L41 : ∀ (v0 : Nat) (v1 : Int32) (v2 : Int32) (v3 : Int32) (v4 : Int64) (v6 : Int64) (n : Nat) (v8 : Int32) (τ : mx_S) (o : (mx_S)), mx_lp (f_X12_distances_L41 P v0 v1 v2 v3 v4 v6) n (v8, τ) = some o → (∀  (υ : mx_S), o = υ → ∀ (H : Heap) (locs : List Loc), mx_J G P s.heap (mxz σ) (mxu σ) υ H locs → ∀ ls : Array Slot, lv_has ls 27 [(0, .ref v0), (1, .int v1), (2, .int v2), (3, .int v3)] → W p l e (mx_rm P 3 76 σ) s m ([.ref a0, .int p1, .int p2] : List Value).toArray below meth c H locs (mxz υ - mxz σ) (mxu υ - mxu σ) (mx_Z below G P none σ σ' [.ref a0, .int p1, .int p2] s) (F0 m 281 ls [])) → ∀ (H : Heap) (locs : List Loc), mx_J G P s.heap (mxz σ) (mxu σ) τ H locs → ∀ ls : Array Slot, lv_has ls 27 [(0, .ref v0), (1, .int v1), (2, .int v2), (3, .int v3), (4, .long v4), (6, .long v6), (8, .int v8)] → W p l e (mx_rm P 3 76 σ) s m ([.ref a0, .int p1, .int p2] : List Value).toArray below meth c H locs (mxz τ - mxz σ) (mxu τ - mxu σ) (mx_Z below G P none σ σ' [.ref a0, .int p1, .int p2] s) (F0 m 41 ls []) := by
    intro v0 v1 v2 v3 v4 v6 n
    induction n with
    | zero =>
      intro v8 τ o hf
      rw [mx_lp0] at hf
      cases hf
    | succ n ih =>
      intro v8 τ o hf Ke0 H locs hJ ls hl
      rw [mx_lpS] at hf
      obtain ⟨b, eb, hf⟩ := mb0 hf
      refine B41 v0 v1 v2 v3 v4 v6 v8 τ b eb (fun y8 υ ho H locs hJ ls hl => ?_) (fun  υ ho H locs hJ ls hl => ?_) H locs hJ ls hl
      · subst ho
        exact ih y8 υ o hf Ke0 H locs hJ ls hl
      · subst ho
        exact Ke0  υ (Option.some.inj hf).symm _ _ hJ ls hl
  have B2 : ∀ (v0 : Nat) (v1 : Int32) (v2 : Int32) (v3 : Int32) (τ : mx_S) (o : (Int32 × mx_S) ⊕ ((mx_S))), f_X12_distances_B2 P v0 v1 v2 v3 τ = some o → (∀ (y3 : Int32) (υ : mx_S), o = .inl (y3, υ) → ∀ (H : Heap) (locs : List Loc), mx_J G P s.heap (mxz σ) (mxu σ) υ H locs → ∀ ls : Array Slot, lv_has ls 27 [(0, .ref v0), (1, .int v1), (2, .int v2), (3, .int y3)] → W p l e (mx_rm P 3 76 σ) s m ([.ref a0, .int p1, .int p2] : List Value).toArray below meth c H locs (mxz υ - mxz σ) (mxu υ - mxu σ) (mx_Z below G P none σ σ' [.ref a0, .int p1, .int p2] s) (F0 m 2 ls [])) → (∀  (υ : mx_S), o = .inr υ → ∀ (H : Heap) (locs : List Loc), mx_J G P s.heap (mxz σ) (mxu σ) υ H locs → ∀ ls : Array Slot, lv_has ls 27 [] → W p l e (mx_rm P 3 76 σ) s m ([.ref a0, .int p1, .int p2] : List Value).toArray below meth c H locs (mxz υ - mxz σ) (mxu υ - mxu σ) (mx_Z below G P none σ σ' [.ref a0, .int p1, .int p2] s) (F0 m 287 ls [])) → ∀ (H : Heap) (locs : List Loc), mx_J G P s.heap (mxz σ) (mxu σ) τ H locs → ∀ ls : Array Slot, lv_has ls 27 [(0, .ref v0), (1, .int v1), (2, .int v2), (3, .int v3)] → W p l e (mx_rm P 3 76 σ) s m ([.ref a0, .int p1, .int p2] : List Value).toArray below meth c H locs (mxz τ - mxz σ) (mxu τ - mxu σ) (mx_Z below G P none σ σ' [.ref a0, .int p1, .int p2] s) (F0 m 2 ls []) := by
    intro v0 v1 v2 v3 τ o hf Kb Ke0 H locs hJ ls hl
    unfold f_X12_distances_B2 at hf
    refine lv_iload_n hx hb dX12_distances_2 rfl (lv_at hl 3 rfl) ?_
    refine lv_aload_n hx hb dX12_distances_3 rfl (lv_at hl 0 rfl) ?_
    obtain ⟨b1, e2, hf⟩ := mb0 hf
    refine my_gR hx hb hts hown hK hJ fd_RX12_186 hv_12_86 e2 dX12_distances_4 ?_
    refine lv_iload_n hx hb dX12_distances_7 rfl (lv_at hl 1 rfl) ?_
    obtain ⟨x3, e4, hf⟩ := mb0 hf
    refine mx_aI hx hb hK hJ e4 dX12_distances_8 ?_
    refine lv_icmp_ge (tgt := 287) hx hb dX12_distances_9 (by decide) (fun c5 => ?_) (fun c5 => ?_)
    · rw [if_pos c5] at hf
      exact Ke0 τ (Option.some.inj hf).symm _ _ hJ ls (lv_sub hl [] rfl)
    · rw [if_neg c5] at hf
      refine lv_aload_n hx hb dX12_distances_12 rfl (lv_at hl 0 rfl) ?_
      obtain ⟨b6, e7, hf⟩ := mb0 hf
      refine my_gR hx hb hts hown hK hJ fd_RX12_189 hv_12_87 e7 dX12_distances_13 ?_
      refine lv_bipush (v := 24) hx hb dX12_distances_16 (by decide) ?_
      refine lv_iload_n hx hb dX12_distances_18 rfl (lv_at hl 1 rfl) ?_
      refine lv_imul hx hb dX12_distances_19 ?_
      refine lv_iload_n hx hb dX12_distances_20 rfl (lv_at hl 3 rfl) ?_
      refine lv_iadd hx hb dX12_distances_21 ?_
      obtain ⟨x8, e9, hf⟩ := mb0 hf
      refine mx_aL hx hb hK hJ e9 dX12_distances_22 ?_
      refine lv_lstore (lv' := [(4, .long x8), (0, .ref v0), (1, .int v1), (2, .int v2), (3, .int v3)]) hx hb dX12_distances_23 hl (by decide) rfl (fun ls hl => ?_)
      refine lv_aload_n hx hb dX12_distances_25 rfl (lv_at hl 1 rfl) ?_
      obtain ⟨b10, e11, hf⟩ := mb0 hf
      refine my_gR hx hb hts hown hK hJ fd_RX12_192 hv_12_88 e11 dX12_distances_26 ?_
      refine lv_bipush (v := 24) hx hb dX12_distances_29 (by decide) ?_
      refine lv_iload_n hx hb dX12_distances_31 rfl (lv_at hl 2 rfl) ?_
      refine lv_imul hx hb dX12_distances_32 ?_
      refine lv_iload_n hx hb dX12_distances_33 rfl (lv_at hl 4 rfl) ?_
      refine lv_iadd hx hb dX12_distances_34 ?_
      obtain ⟨x12, e13, hf⟩ := mb0 hf
      refine mx_aL hx hb hK hJ e13 dX12_distances_35 ?_
      refine lv_lstore (lv' := [(6, .long x12), (4, .long x8), (0, .ref v0), (1, .int v1), (2, .int v2), (3, .int v3)]) hx hb dX12_distances_36 hl (by decide) rfl (fun ls hl => ?_)
      refine lv_iconst (v := 0) hx hb dX12_distances_38 (by decide) ?_
      refine lv_istore (lv' := [(8, .int (0 : Int32)), (6, .long x12), (4, .long x8), (0, .ref v0), (1, .int v1), (2, .int v2), (3, .int v3)]) hx hb dX12_distances_39 hl (by decide) rfl (fun ls hl => ?_)
      obtain ⟨o75, e76, hf⟩ := mb0 hf
      refine L41 v0 v1 v2 v3 x8 x12 (mpN P) (0 : Int32) τ o75 e76 (fun σ77 ho H locs hJ ls hl => ?_) _ _ hJ ls (lv_sub hl [3, 4, 5, 6, 2, 1, 0] rfl)
      · rw [ho] at hf
        have hf : ((some (v3 + (1 : Int32))).bind fun x78 => some (.inl (x78, σ77))) = some o := hf
        obtain ⟨x78, e79, hf⟩ := mb0 hf
        refine lv_iinc (v := x78) (lv' := [(3, .int x78), (0, .ref v0), (1, .int v1), (2, .int v2)]) hx hb dX12_distances_281 hl (k := 3) rfl (by rw [← Option.some.inj e79]; rfl) (by decide) rfl (fun ls hl => ?_)
        refine lv_goto (tgt := 2) hx hb dX12_distances_284 (by decide) ?_
        exact Kb x78 σ77 (Option.some.inj hf).symm _ _ hJ ls (lv_sub hl [1, 2, 3, 0] rfl)
  have L2 : ∀ (v0 : Nat) (v1 : Int32) (v2 : Int32) (n : Nat) (v3 : Int32) (τ : mx_S) (o : (mx_S)), mx_lp (f_X12_distances_L2 P v0 v1 v2) n (v3, τ) = some o → (∀  (υ : mx_S), o = υ → ∀ (H : Heap) (locs : List Loc), mx_J G P s.heap (mxz σ) (mxu σ) υ H locs → ∀ ls : Array Slot, lv_has ls 27 [] → W p l e (mx_rm P 3 76 σ) s m ([.ref a0, .int p1, .int p2] : List Value).toArray below meth c H locs (mxz υ - mxz σ) (mxu υ - mxu σ) (mx_Z below G P none σ σ' [.ref a0, .int p1, .int p2] s) (F0 m 287 ls [])) → ∀ (H : Heap) (locs : List Loc), mx_J G P s.heap (mxz σ) (mxu σ) τ H locs → ∀ ls : Array Slot, lv_has ls 27 [(0, .ref v0), (1, .int v1), (2, .int v2), (3, .int v3)] → W p l e (mx_rm P 3 76 σ) s m ([.ref a0, .int p1, .int p2] : List Value).toArray below meth c H locs (mxz τ - mxz σ) (mxu τ - mxu σ) (mx_Z below G P none σ σ' [.ref a0, .int p1, .int p2] s) (F0 m 2 ls []) := by
    intro v0 v1 v2 n
    induction n with
    | zero =>
      intro v3 τ o hf
      rw [mx_lp0] at hf
      cases hf
    | succ n ih =>
      intro v3 τ o hf Ke0 H locs hJ ls hl
      rw [mx_lpS] at hf
      obtain ⟨b, eb, hf⟩ := mb0 hf
      refine B2 v0 v1 v2 v3 τ b eb (fun y3 υ ho H locs hJ ls hl => ?_) (fun  υ ho H locs hJ ls hl => ?_) H locs hJ ls hl
      · subst ho
        exact ih y3 υ o hf Ke0 H locs hJ ls hl
      · subst ho
        exact Ke0  υ (Option.some.inj hf).symm _ _ hJ ls hl
  unfold f_X12_distances at hf
  refine lv_iconst (v := 0) hx hb dX12_distances_0 (by decide) ?_
  refine lv_istore_n (lv' := [(3, .int (0 : Int32)), (0, .ref a0), (1, .int p1), (2, .int p2)]) hx hb dX12_distances_1 rfl hl (by decide) rfl (fun ls hl => ?_)
  obtain ⟨o80, e81, hf⟩ := mb0 hf
  refine L2 a0 p1 p2 (mpN P) (0 : Int32) σ o80 e81 (fun σ82 ho H locs hJ ls hl => ?_) _ _ hJ ls (lv_sub hl [1, 2, 3, 0] rfl)
  · rw [ho] at hf
    have hf : (some σ82) = some σ' := hf
    exact my_vret hx hb hr hlocks hJ hf dX12_distances_287
set_option maxHeartbeats 4000000 in
set_option maxRecDepth 100000 in
theorem c_X12_distance (l : Launch) (G : mx_G) (P : mx_P) (a0 : Nat) (p1 : Int32) (p2 : Int32) (p3 : Int32) (σ : mx_S) (r : Int64) (σ' : mx_S) (hf : f_X12_distance P a0 p1 p2 p3 σ = some (r, σ')) : mxz σ ≤ mpc P → mxu σ ≤ mps P → mx_M l yX12_distance cX12_distance 5 (some .long) 4 122 G P [.ref a0, .int p1, .int p2, .int p3] σ (some (.long r)) σ' := by
  intro hcap hcau
  refine mx_ofW (by decide +kernel) hcap hcau (Nat.le_of_ble_eq_true rfl) ?_
  intro p e s m below meth c hx hb hr hml hts hown hlocks hname hK hJ ls hl
  have hz0 := hJ.2.1
  have hown : s.vm.findClass RX12 = some m.cls := hown
  have hl : lv_has ls 5 [(0, .ref a0), (1, .int p1), (2, .int p2), (3, .int p3)] := hl
  have D151 : ∀ (w0 : Int64) (τ : mx_S), f_X12_distance_D151 P w0 τ = some (r, σ') → ∀ (H : Heap) (locs : List Loc), mx_J G P s.heap (mxz σ) (mxu σ) τ H locs → ∀ ls : Array Slot, lv_has ls 5 [] → W p l e (mx_rm P 4 122 σ) s m ([.ref a0, .int p1, .int p2, .int p3] : List Value).toArray below meth c H locs (mxz τ - mxz σ) (mxu τ - mxu σ) (mx_Z below G P (some (.long r)) σ σ' [.ref a0, .int p1, .int p2, .int p3] s) (F0 m 151 ls [.long w0]) := by
    intro w0 τ hf _ _ hJ ls hl
    unfold f_X12_distance_D151 at hf
    exact my_lret hx hb hr hlocks hJ hf dX12_distance_151
  have D136 : ∀ (v0 : Nat) (v3 : Int32) (τ : mx_S), f_X12_distance_D136 P v0 v3 τ = some (r, σ') → ∀ (H : Heap) (locs : List Loc), mx_J G P s.heap (mxz σ) (mxu σ) τ H locs → ∀ ls : Array Slot, lv_has ls 5 [(0, .ref v0), (3, .int v3)] → W p l e (mx_rm P 4 122 σ) s m ([.ref a0, .int p1, .int p2, .int p3] : List Value).toArray below meth c H locs (mxz τ - mxz σ) (mxu τ - mxu σ) (mx_Z below G P (some (.long r)) σ σ' [.ref a0, .int p1, .int p2, .int p3] s) (F0 m 136 ls []) := by
    intro v0 v3 τ hf _ _ hJ ls hl
    unfold f_X12_distance_D136 at hf
    refine lv_iload_n hx hb dX12_distance_136 rfl (lv_at hl 1 rfl) ?_
    refine lv_if_ne (tgt := 147) hx hb dX12_distance_137 (by decide) (fun c28 => ?_) (fun c28 => ?_)
    · rw [if_neg c28] at hf
      refine lv_aload_n hx hb dX12_distance_147 rfl (lv_at hl 0 rfl) ?_
      obtain ⟨x29, e30, hf⟩ := mb0 hf
      refine my_gL hx hb hts hown hK hJ fd_RX12_765 hv_12_90 e30 dX12_distance_148 ?_
      exact D151 x29 τ hf _ _ hJ ls (lv_sub hl [] rfl)
    · rw [if_pos c28] at hf
      refine lv_aload_n hx hb dX12_distance_140 rfl (lv_at hl 0 rfl) ?_
      obtain ⟨x31, e32, hf⟩ := mb0 hf
      refine my_gL hx hb hts hown hK hJ fd_RX12_768 hv_12_89 e32 dX12_distance_141 ?_
      refine lv_goto (tgt := 151) hx hb dX12_distance_144 (by decide) ?_
      exact D151 x31 τ hf _ _ hJ ls (lv_sub hl [] rfl)
  have D116 : ∀ (v0 : Nat) (v3 : Int32) (τ : mx_S), f_X12_distance_D116 P v0 v3 τ = some (r, σ') → ∀ (H : Heap) (locs : List Loc), mx_J G P s.heap (mxz σ) (mxu σ) τ H locs → ∀ ls : Array Slot, lv_has ls 5 [(0, .ref v0), (3, .int v3)] → W p l e (mx_rm P 4 122 σ) s m ([.ref a0, .int p1, .int p2, .int p3] : List Value).toArray below meth c H locs (mxz τ - mxz σ) (mxu τ - mxu σ) (mx_Z below G P (some (.long r)) σ σ' [.ref a0, .int p1, .int p2, .int p3] s) (F0 m 116 ls []) := by
    intro v0 v3 τ hf _ _ hJ ls hl
    unfold f_X12_distance_D116 at hf
    refine lv_aload_n hx hb dX12_distance_116 rfl (lv_at hl 0 rfl) ?_
    refine lv_lconst (v := 1) hx hb dX12_distance_117 (by decide) ?_
    obtain ⟨σ26, e27, hf⟩ := mb0 hf
    refine my_pL hx hb hts hown hK hJ fd_RX12_765 cd_12 (Or.inl rfl) ht_12_90 e27 dX12_distance_118 (fun H locs hJ => ?_)
    refine lv_goto (tgt := 136) hx hb dX12_distance_121 (by decide) ?_
    exact D136 v0 v3 σ26 hf _ _ hJ ls (lv_sub hl [0, 1] rfl)
  have D76 : ∀ (v0 : Nat) (v1 : Int32) (v2 : Int32) (v3 : Int32) (w0 : Int32) (w1 : Nat) (τ : mx_S), f_X12_distance_D76 P v0 v1 v2 v3 w0 w1 τ = some (r, σ') → ∀ (H : Heap) (locs : List Loc), mx_J G P s.heap (mxz σ) (mxu σ) τ H locs → ∀ ls : Array Slot, lv_has ls 5 [(0, .ref v0), (1, .int v1), (2, .int v2), (3, .int v3)] → W p l e (mx_rm P 4 122 σ) s m ([.ref a0, .int p1, .int p2, .int p3] : List Value).toArray below meth c H locs (mxz τ - mxz σ) (mxu τ - mxu σ) (mx_Z below G P (some (.long r)) σ σ' [.ref a0, .int p1, .int p2, .int p3] s) (F0 m 76 ls [.int w0, .ref w1]) := by
    intro v0 v1 v2 v3 w0 w1 τ hf _ _ hJ ls hl
    unfold f_X12_distance_D76 at hf
    obtain ⟨σ11, e12, hf⟩ := mb0 hf
    refine my_pI hx hb hts hown hK hJ fd_RX12_243 cd_12 (Or.inl rfl) ht_12_0 e12 dX12_distance_76 (fun H locs hJ => ?_)
    refine lv_aload_n hx hb dX12_distance_79 rfl (lv_at hl 0 rfl) ?_
    obtain ⟨x13, e14, hf⟩ := mb0 hf
    refine my_gI hx hb hts hown hK hJ fd_RX12_243 hv_12_0 e14 dX12_distance_80 ?_
    refine lv_if_le (tgt := 88) hx hb dX12_distance_83 (by decide) (fun c15 => ?_) (fun c15 => ?_)
    · rw [if_pos c15] at hf
      refine lv_aload_n hx hb dX12_distance_88 rfl (lv_at hl 0 rfl) ?_
      refine lv_lconst (v := 0) hx hb dX12_distance_89 (by decide) ?_
      obtain ⟨σ16, e17, hf⟩ := mb0 hf
      refine my_pL hx hb hts hown hK hJ fd_RX12_768 cd_12 (Or.inl rfl) ht_12_89 e17 dX12_distance_90 (fun H locs hJ => ?_)
      refine lv_aload_n hx hb dX12_distance_93 rfl (lv_at hl 0 rfl) ?_
      refine lv_lconst (v := 0) hx hb dX12_distance_94 (by decide) ?_
      obtain ⟨σ18, e19, hf⟩ := mb0 hf
      refine my_pL hx hb hts hown hK hJ fd_RX12_765 cd_12 (Or.inl rfl) ht_12_90 e19 dX12_distance_95 (fun H locs hJ => ?_)
      refine lv_aload_n hx hb dX12_distance_98 rfl (lv_at hl 0 rfl) ?_
      refine lv_iload_n hx hb dX12_distance_99 rfl (lv_at hl 1 rfl) ?_
      refine lv_iload_n hx hb dX12_distance_100 rfl (lv_at hl 2 rfl) ?_
      obtain ⟨i20, e21, hf⟩ := mb0 hf
      obtain ⟨x23, σ22, e24, hf⟩ := mc0 hf
      refine mx_callV (As := [.int v1, .int v2]) (rest := []) hx hb hml hts hown hK hJ rfl rfl (ci := 12) rfl e21 (c_X12_touch l G P v0 v1 v2 σ18 x23 σ22 e24) me_X12_touch kw_2801 ks_170 kw_2799 (Nat.le_of_ble_eq_true rfl) (Nat.le_of_ble_eq_true rfl) rfl hl.1 rfl (Nat.le_of_ble_eq_true rfl) dX12_distance_101 (fun H locs hJ => ?_)
      refine lv_if_ne (tgt := 116) hx hb dX12_distance_104 (by decide) (fun c25 => ?_) (fun c25 => ?_)
      · rw [if_neg c25] at hf
        exact D116 v0 v3 σ22 hf _ _ hJ ls (lv_sub hl [0, 3] rfl)
      · rw [if_pos c25] at hf
        refine lv_aload_n hx hb dX12_distance_107 rfl (lv_at hl 0 rfl) ?_
        refine lv_iload_n hx hb dX12_distance_108 rfl (lv_at hl 2 rfl) ?_
        refine lv_iload_n hx hb dX12_distance_109 rfl (lv_at hl 1 rfl) ?_
        obtain ⟨i33, e34, hf⟩ := mb0 hf
        obtain ⟨x36, σ35, e37, hf⟩ := mc0 hf
        refine mx_callV (As := [.int v2, .int v1]) (rest := []) hx hb hml hts hown hK hJ rfl rfl (ci := 12) rfl e34 (c_X12_touch l G P v0 v2 v1 σ22 x36 σ35 e37) me_X12_touch kw_2801 ks_170 kw_2799 (Nat.le_of_ble_eq_true rfl) (Nat.le_of_ble_eq_true rfl) rfl hl.1 rfl (Nat.le_of_ble_eq_true rfl) dX12_distance_110 (fun H locs hJ => ?_)
        refine lv_if_eq (tgt := 124) hx hb dX12_distance_113 (by decide) (fun c38 => ?_) (fun c38 => ?_)
        · rw [if_pos c38] at hf
          refine lv_aload_n hx hb dX12_distance_124 rfl (lv_at hl 0 rfl) ?_
          refine lv_iload_n hx hb dX12_distance_125 rfl (lv_at hl 1 rfl) ?_
          refine lv_iload_n hx hb dX12_distance_126 rfl (lv_at hl 2 rfl) ?_
          obtain ⟨i39, e40, hf⟩ := mb0 hf
          obtain ⟨σ41, e42, hf⟩ := mb0 hf
          refine mx_callV (As := [.int v1, .int v2]) (rest := []) hx hb hml hts hown hK hJ rfl rfl (ci := 12) rfl e40 (c_X12_distances l G P v0 v1 v2 σ35 σ41 e42) me_X12_distances kw_2805 ks_171 kw_2803 (Nat.le_of_ble_eq_true rfl) (Nat.le_of_ble_eq_true rfl) rfl hl.1 rfl (Nat.le_of_ble_eq_true rfl) dX12_distance_127 (fun H locs hJ => ?_)
          refine lv_aload_n hx hb dX12_distance_130 rfl (lv_at hl 0 rfl) ?_
          refine lv_iload_n hx hb dX12_distance_131 rfl (lv_at hl 2 rfl) ?_
          refine lv_iload_n hx hb dX12_distance_132 rfl (lv_at hl 1 rfl) ?_
          obtain ⟨i43, e44, hf⟩ := mb0 hf
          obtain ⟨σ45, e46, hf⟩ := mb0 hf
          refine mx_callV (As := [.int v2, .int v1]) (rest := []) hx hb hml hts hown hK hJ rfl rfl (ci := 12) rfl e44 (c_X12_distances l G P v0 v2 v1 σ41 σ45 e46) me_X12_distances kw_2805 ks_171 kw_2803 (Nat.le_of_ble_eq_true rfl) (Nat.le_of_ble_eq_true rfl) rfl hl.1 rfl (Nat.le_of_ble_eq_true rfl) dX12_distance_133 (fun H locs hJ => ?_)
          exact D136 v0 v3 σ45 hf _ _ hJ ls (lv_sub hl [0, 3] rfl)
        · rw [if_neg c38] at hf
          exact D116 v0 v3 σ35 hf _ _ hJ ls (lv_sub hl [0, 3] rfl)
    · rw [if_neg c15] at hf
      refine lv_lconst (v := 0) hx hb dX12_distance_86 (by decide) ?_
      exact my_lret hx hb hr hlocks hJ hf dX12_distance_87
  have D71 : ∀ (v0 : Nat) (v1 : Int32) (v2 : Int32) (v3 : Int32) (w0 : Nat) (τ : mx_S), f_X12_distance_D71 P v0 v1 v2 v3 w0 τ = some (r, σ') → ∀ (H : Heap) (locs : List Loc), mx_J G P s.heap (mxz σ) (mxu σ) τ H locs → ∀ ls : Array Slot, lv_has ls 5 [(0, .ref v0), (1, .int v1), (2, .int v2), (3, .int v3)] → W p l e (mx_rm P 4 122 σ) s m ([.ref a0, .int p1, .int p2, .int p3] : List Value).toArray below meth c H locs (mxz τ - mxz σ) (mxu τ - mxu σ) (mx_Z below G P (some (.long r)) σ σ' [.ref a0, .int p1, .int p2, .int p3] s) (F0 m 71 ls [.ref w0]) := by
    intro v0 v1 v2 v3 w0 τ hf _ _ hJ ls hl
    unfold f_X12_distance_D71 at hf
    refine lv_iconst (v := 2) hx hb dX12_distance_71 (by decide) ?_
    refine lv_goto (tgt := 76) hx hb dX12_distance_72 (by decide) ?_
    exact D76 v0 v1 v2 v3 (2 : Int32) w0 τ hf _ _ hJ ls (lv_sub hl [0, 1, 2, 3] rfl)
  have D39 : ∀ (v0 : Nat) (v1 : Int32) (v2 : Int32) (v3 : Int32) (w0 : Int32) (τ : mx_S), f_X12_distance_D39 P v0 v1 v2 v3 w0 τ = some (r, σ') → ∀ (H : Heap) (locs : List Loc), mx_J G P s.heap (mxz σ) (mxu σ) τ H locs → ∀ ls : Array Slot, lv_has ls 5 [(0, .ref v0), (1, .int v1), (2, .int v2), (3, .int v3)] → W p l e (mx_rm P 4 122 σ) s m ([.ref a0, .int p1, .int p2, .int p3] : List Value).toArray below meth c H locs (mxz τ - mxz σ) (mxu τ - mxu σ) (mx_Z below G P (some (.long r)) σ σ' [.ref a0, .int p1, .int p2, .int p3] s) (F0 m 39 ls [.int w0]) := by
    intro v0 v1 v2 v3 w0 τ hf _ _ hJ ls hl
    unfold f_X12_distance_D39 at hf
    refine lv_istore (lv' := [(4, .int w0), (0, .ref v0), (1, .int v1), (2, .int v2), (3, .int v3)]) hx hb dX12_distance_39 hl (by decide) rfl (fun ls hl => ?_)
    refine lv_aload_n hx hb dX12_distance_41 rfl (lv_at hl 1 rfl) ?_
    refine lv_iload hx hb dX12_distance_42 (lv_at hl 0 rfl) ?_
    refine lv_if_ne (tgt := 51) hx hb dX12_distance_44 (by decide) (fun c5 => ?_) (fun c5 => ?_)
    · rw [if_neg c5] at hf
      refine lv_aload_n hx hb dX12_distance_51 rfl (lv_at hl 1 rfl) ?_
      obtain ⟨b6, e7, hf⟩ := mb0 hf
      refine my_gR hx hb hts hown hK hJ fd_RX12_186 hv_12_86 e7 dX12_distance_52 ?_
      refine lv_iload_n hx hb dX12_distance_55 rfl (lv_at hl 2 rfl) ?_
      obtain ⟨x8, e9, hf⟩ := mb0 hf
      refine mx_aI hx hb hK hJ e9 dX12_distance_56 ?_
      refine lv_iconst (v := 3) hx hb dX12_distance_57 (by decide) ?_
      refine lv_icmp_lt (tgt := 71) hx hb dX12_distance_58 (by decide) (fun c10 => ?_) (fun c10 => ?_)
      · rw [if_pos c10] at hf
        exact D71 v0 v1 v2 v3 v0 τ hf _ _ hJ ls (lv_sub hl [1, 2, 3, 4] rfl)
      · rw [if_neg c10] at hf
        refine lv_aload_n hx hb dX12_distance_61 rfl (lv_at hl 1 rfl) ?_
        obtain ⟨b47, e48, hf⟩ := mb0 hf
        refine my_gR hx hb hts hown hK hJ fd_RX12_186 hv_12_86 e48 dX12_distance_62 ?_
        refine lv_iload_n hx hb dX12_distance_65 rfl (lv_at hl 3 rfl) ?_
        obtain ⟨x49, e50, hf⟩ := mb0 hf
        refine mx_aI hx hb hK hJ e50 dX12_distance_66 ?_
        refine lv_iconst (v := 3) hx hb dX12_distance_67 (by decide) ?_
        refine lv_icmp_ge (tgt := 75) hx hb dX12_distance_68 (by decide) (fun c51 => ?_) (fun c51 => ?_)
        · rw [if_pos c51] at hf
          refine lv_iconst (v := 0) hx hb dX12_distance_75 (by decide) ?_
          exact D76 v0 v1 v2 v3 (0 : Int32) v0 τ hf _ _ hJ ls (lv_sub hl [1, 2, 3, 4] rfl)
        · rw [if_neg c51] at hf
          exact D71 v0 v1 v2 v3 v0 τ hf _ _ hJ ls (lv_sub hl [1, 2, 3, 4] rfl)
    · rw [if_pos c5] at hf
      refine lv_iconst (v := 1) hx hb dX12_distance_47 (by decide) ?_
      refine lv_goto (tgt := 76) hx hb dX12_distance_48 (by decide) ?_
      exact D76 v0 v1 v2 v3 (1 : Int32) v0 τ hf _ _ hJ ls (lv_sub hl [1, 2, 3, 4] rfl)
  have D38 : ∀ (v0 : Nat) (v1 : Int32) (v2 : Int32) (v3 : Int32) (τ : mx_S), f_X12_distance_D38 P v0 v1 v2 v3 τ = some (r, σ') → ∀ (H : Heap) (locs : List Loc), mx_J G P s.heap (mxz σ) (mxu σ) τ H locs → ∀ ls : Array Slot, lv_has ls 5 [(0, .ref v0), (1, .int v1), (2, .int v2), (3, .int v3)] → W p l e (mx_rm P 4 122 σ) s m ([.ref a0, .int p1, .int p2, .int p3] : List Value).toArray below meth c H locs (mxz τ - mxz σ) (mxu τ - mxu σ) (mx_Z below G P (some (.long r)) σ σ' [.ref a0, .int p1, .int p2, .int p3] s) (F0 m 38 ls []) := by
    intro v0 v1 v2 v3 τ hf _ _ hJ ls hl
    unfold f_X12_distance_D38 at hf
    refine lv_iconst (v := 0) hx hb dX12_distance_38 (by decide) ?_
    exact D39 v0 v1 v2 v3 (0 : Int32) τ hf _ _ hJ ls (lv_sub hl [0, 1, 2, 3] rfl)
  unfold f_X12_distance at hf
  refine lv_iload_n hx hb dX12_distance_0 rfl (lv_at hl 1 rfl) ?_
  refine lv_i2l hx hb dX12_distance_1 rfl ?_
  refine lv_lconst (v := 0) hx hb dX12_distance_2 (by decide) ?_
  refine lv_ldc2 hx hb hown (hts _ kw_2750) dX12_distance_3 ?_
  obtain ⟨x2, σ1, e3, hf⟩ := mc0 hf
  refine mx_callS (As := [.long (p1.toInt64), .long (0 : Int64), .long (7 : Int64)]) (rest := []) hx hb hml hts hown hK hJ rfl rfl (c_X12_in l G P (p1.toInt64) (0 : Int64) (7 : Int64) σ x2 σ1 e3) me_X12_in kw_2223 kw_2222 (Nat.le_of_ble_eq_true rfl) (Nat.le_of_ble_eq_true rfl) rfl hl.1 rfl (Nat.le_of_ble_eq_true rfl) dX12_distance_6 (fun H locs hJ => ?_)
  refine lv_if_eq (tgt := 38) hx hb dX12_distance_9 (by decide) (fun c4 => ?_) (fun c4 => ?_)
  · rw [if_pos c4] at hf
    exact D38 a0 p1 p2 p3 σ1 hf _ _ hJ ls (lv_sub hl [0, 1, 2, 3] rfl)
  · rw [if_neg c4] at hf
    refine lv_iload_n hx hb dX12_distance_12 rfl (lv_at hl 2 rfl) ?_
    refine lv_i2l hx hb dX12_distance_13 rfl ?_
    refine lv_lconst (v := 0) hx hb dX12_distance_14 (by decide) ?_
    refine lv_ldc2 hx hb hown (hts _ kw_2750) dX12_distance_15 ?_
    obtain ⟨x53, σ52, e54, hf⟩ := mc0 hf
    refine mx_callS (As := [.long (p2.toInt64), .long (0 : Int64), .long (7 : Int64)]) (rest := []) hx hb hml hts hown hK hJ rfl rfl (c_X12_in l G P (p2.toInt64) (0 : Int64) (7 : Int64) σ1 x53 σ52 e54) me_X12_in kw_2223 kw_2222 (Nat.le_of_ble_eq_true rfl) (Nat.le_of_ble_eq_true rfl) rfl hl.1 rfl (Nat.le_of_ble_eq_true rfl) dX12_distance_18 (fun H locs hJ => ?_)
    refine lv_if_eq (tgt := 38) hx hb dX12_distance_21 (by decide) (fun c55 => ?_) (fun c55 => ?_)
    · rw [if_pos c55] at hf
      exact D38 a0 p1 p2 p3 σ52 hf _ _ hJ ls (lv_sub hl [0, 1, 2, 3] rfl)
    · rw [if_neg c55] at hf
      refine lv_iload_n hx hb dX12_distance_24 rfl (lv_at hl 3 rfl) ?_
      refine lv_i2l hx hb dX12_distance_25 rfl ?_
      refine lv_lconst (v := 0) hx hb dX12_distance_26 (by decide) ?_
      refine lv_lconst (v := 1) hx hb dX12_distance_27 (by decide) ?_
      obtain ⟨x57, σ56, e58, hf⟩ := mc0 hf
      refine mx_callS (As := [.long (p3.toInt64), .long (0 : Int64), .long (1 : Int64)]) (rest := []) hx hb hml hts hown hK hJ rfl rfl (c_X12_in l G P (p3.toInt64) (0 : Int64) (1 : Int64) σ52 x57 σ56 e58) me_X12_in kw_2223 kw_2222 (Nat.le_of_ble_eq_true rfl) (Nat.le_of_ble_eq_true rfl) rfl hl.1 rfl (Nat.le_of_ble_eq_true rfl) dX12_distance_28 (fun H locs hJ => ?_)
      refine lv_if_eq (tgt := 38) hx hb dX12_distance_31 (by decide) (fun c59 => ?_) (fun c59 => ?_)
      · rw [if_pos c59] at hf
        exact D38 a0 p1 p2 p3 σ56 hf _ _ hJ ls (lv_sub hl [0, 1, 2, 3] rfl)
      · rw [if_neg c59] at hf
        refine lv_iconst (v := 1) hx hb dX12_distance_34 (by decide) ?_
        refine lv_goto (tgt := 39) hx hb dX12_distance_35 (by decide) ?_
        exact D39 a0 p1 p2 p3 (1 : Int32) σ56 hf _ _ hJ ls (lv_sub hl [0, 1, 2, 3] rfl)
set_option maxHeartbeats 4000000 in
set_option maxRecDepth 100000 in
theorem c_X12_readCode (l : Launch) (G : mx_G) (P : mx_P) (a0 : Nat) (p1 : Int32) (p2 : Int32) (σ : mx_S) (σ' : mx_S) (hf : f_X12_readCode P a0 p1 p2 σ = some σ') : mxz σ ≤ mpc P → mxu σ ≤ mps P → mx_M l yX12_readCode cX12_readCode 7 none 0 0 G P [.ref a0, .int p1, .int p2] σ none σ' := by
  intro hcap hcau
  refine mx_ofW (by decide +kernel) hcap hcau (Nat.le_of_ble_eq_true rfl) ?_
  intro p e s m below meth c hx hb hr hml hts hown hlocks hname hK hJ ls hl
  have hz0 := hJ.2.1
  have hown : s.vm.findClass RX12 = some m.cls := hown
  have hl : lv_has ls 7 [(0, .ref a0), (1, .int p1), (2, .int p2)] := hl
  have D45_25 : ∀ (v0 : Nat) (v1 : Int32) (v2 : Int32) (v3 : Int32) (v4 : Int32) (v5 : Int32) (w0 : Int32) (τ : mx_S) (o : (Int32 × Int32 × mx_S) ⊕ ((Int32 × mx_S))), f_X12_readCode_D45_25 P v0 v1 v2 v3 v4 v5 w0 τ = some o → (∀ (y3 : Int32) (y5 : Int32) (υ : mx_S), o = .inl (y3, y5, υ) → ∀ (H : Heap) (locs : List Loc), mx_J G P s.heap (mxz σ) (mxu σ) υ H locs → ∀ ls : Array Slot, lv_has ls 7 [(0, .ref v0), (1, .int v1), (2, .int v2), (3, .int y3), (4, .int v4), (5, .int y5)] → W p l e (mx_rm P 0 0 σ) s m ([.ref a0, .int p1, .int p2] : List Value).toArray below meth c H locs (mxz υ - mxz σ) (mxu υ - mxu σ) (mx_Z below G P none σ σ' [.ref a0, .int p1, .int p2] s) (F0 m 25 ls [])) → (∀ (y3 : Int32) (υ : mx_S), o = .inr (y3, υ) → ∀ (H : Heap) (locs : List Loc), mx_J G P s.heap (mxz σ) (mxu σ) υ H locs → ∀ ls : Array Slot, lv_has ls 7 [(0, .ref v0), (1, .int v1), (2, .int v2), (3, .int y3), (4, .int v4)] → W p l e (mx_rm P 0 0 σ) s m ([.ref a0, .int p1, .int p2] : List Value).toArray below meth c H locs (mxz υ - mxz σ) (mxu υ - mxu σ) (mx_Z below G P none σ σ' [.ref a0, .int p1, .int p2] s) (F0 m 86 ls [])) → ∀ (H : Heap) (locs : List Loc), mx_J G P s.heap (mxz σ) (mxu σ) τ H locs → ∀ ls : Array Slot, lv_has ls 7 [(0, .ref v0), (1, .int v1), (2, .int v2), (3, .int v3), (4, .int v4), (5, .int v5)] → W p l e (mx_rm P 0 0 σ) s m ([.ref a0, .int p1, .int p2] : List Value).toArray below meth c H locs (mxz τ - mxz σ) (mxu τ - mxu σ) (mx_Z below G P none σ σ' [.ref a0, .int p1, .int p2] s) (F0 m 45 ls [.int w0]) := by
    intro v0 v1 v2 v3 v4 v5 w0 τ o hf Kb Ke0 H locs hJ ls hl
    unfold f_X12_readCode_D45_25 at hf
    refine lv_istore (lv' := [(6, .int w0), (0, .ref v0), (1, .int v1), (2, .int v2), (3, .int v3), (4, .int v4), (5, .int v5)]) hx hb dX12_readCode_45 hl (by decide) rfl (fun ls hl => ?_)
    refine lv_aload_n hx hb dX12_readCode_47 rfl (lv_at hl 1 rfl) ?_
    obtain ⟨b10, e11, hf⟩ := mb0 hf
    refine my_gR hx hb hts hown hK hJ fd_RX12_198 hv_12_93 e11 dX12_readCode_48 ?_
    refine lv_bipush (v := 6) hx hb dX12_readCode_51 (by decide) ?_
    refine lv_iload hx hb dX12_readCode_53 (lv_at hl 5 rfl) ?_
    refine lv_imul hx hb dX12_readCode_55 ?_
    refine lv_iload hx hb dX12_readCode_56 (lv_at hl 6 rfl) ?_
    refine lv_iadd hx hb dX12_readCode_58 ?_
    refine lv_iload hx hb dX12_readCode_59 (lv_at hl 0 rfl) ?_
    obtain ⟨σ12, e13, hf⟩ := mb0 hf
    refine mx_sZ hx hb hK hJ e13 dX12_readCode_61 (fun H locs hJ => ?_)
    refine lv_aload_n hx hb dX12_readCode_62 rfl (lv_at hl 1 rfl) ?_
    obtain ⟨b14, e15, hf⟩ := mb0 hf
    refine my_gR hx hb hts hown hK hJ fd_RX12_198 hv_12_93 e15 dX12_readCode_63 ?_
    refine lv_bipush (v := 6) hx hb dX12_readCode_66 (by decide) ?_
    refine lv_iload hx hb dX12_readCode_68 (lv_at hl 6 rfl) ?_
    refine lv_imul hx hb dX12_readCode_70 ?_
    refine lv_iload hx hb dX12_readCode_71 (lv_at hl 5 rfl) ?_
    refine lv_iadd hx hb dX12_readCode_73 ?_
    refine lv_iload hx hb dX12_readCode_74 (lv_at hl 0 rfl) ?_
    obtain ⟨σ16, e17, hf⟩ := mb0 hf
    refine mx_sZ hx hb hK hJ e17 dX12_readCode_76 (fun H locs hJ => ?_)
    obtain ⟨x18, e19, hf⟩ := mb0 hf
    refine lv_iinc (v := x18) (lv' := [(3, .int x18), (6, .int w0), (0, .ref v0), (1, .int v1), (2, .int v2), (4, .int v4), (5, .int v5)]) hx hb dX12_readCode_77 hl (k := 4) rfl (by rw [← Option.some.inj e19]; rfl) (by decide) rfl (fun ls hl => ?_)
    obtain ⟨x20, e21, hf⟩ := mb0 hf
    refine lv_iinc (v := x20) (lv' := [(5, .int x20), (3, .int x18), (6, .int w0), (0, .ref v0), (1, .int v1), (2, .int v2), (4, .int v4)]) hx hb dX12_readCode_80 hl (k := 6) rfl (by rw [← Option.some.inj e21]; rfl) (by decide) rfl (fun ls hl => ?_)
    refine lv_goto (tgt := 25) hx hb dX12_readCode_83 (by decide) ?_
    exact Kb x18 x20 σ16 (Option.some.inj hf).symm _ _ hJ ls (lv_sub hl [3, 4, 5, 1, 6, 0] rfl)
  have B25 : ∀ (v0 : Nat) (v1 : Int32) (v2 : Int32) (v4 : Int32) (v3 : Int32) (v5 : Int32) (τ : mx_S) (o : (Int32 × Int32 × mx_S) ⊕ ((Int32 × mx_S))), f_X12_readCode_B25 P v0 v1 v2 v4 v3 v5 τ = some o → (∀ (y3 : Int32) (y5 : Int32) (υ : mx_S), o = .inl (y3, y5, υ) → ∀ (H : Heap) (locs : List Loc), mx_J G P s.heap (mxz σ) (mxu σ) υ H locs → ∀ ls : Array Slot, lv_has ls 7 [(0, .ref v0), (1, .int v1), (2, .int v2), (3, .int y3), (4, .int v4), (5, .int y5)] → W p l e (mx_rm P 0 0 σ) s m ([.ref a0, .int p1, .int p2] : List Value).toArray below meth c H locs (mxz υ - mxz σ) (mxu υ - mxu σ) (mx_Z below G P none σ σ' [.ref a0, .int p1, .int p2] s) (F0 m 25 ls [])) → (∀ (y3 : Int32) (υ : mx_S), o = .inr (y3, υ) → ∀ (H : Heap) (locs : List Loc), mx_J G P s.heap (mxz σ) (mxu σ) υ H locs → ∀ ls : Array Slot, lv_has ls 7 [(0, .ref v0), (1, .int v1), (2, .int v2), (3, .int y3), (4, .int v4)] → W p l e (mx_rm P 0 0 σ) s m ([.ref a0, .int p1, .int p2] : List Value).toArray below meth c H locs (mxz υ - mxz σ) (mxu υ - mxu σ) (mx_Z below G P none σ σ' [.ref a0, .int p1, .int p2] s) (F0 m 86 ls [])) → ∀ (H : Heap) (locs : List Loc), mx_J G P s.heap (mxz σ) (mxu σ) τ H locs → ∀ ls : Array Slot, lv_has ls 7 [(0, .ref v0), (1, .int v1), (2, .int v2), (3, .int v3), (4, .int v4), (5, .int v5)] → W p l e (mx_rm P 0 0 σ) s m ([.ref a0, .int p1, .int p2] : List Value).toArray below meth c H locs (mxz τ - mxz σ) (mxu τ - mxu σ) (mx_Z below G P none σ σ' [.ref a0, .int p1, .int p2] s) (F0 m 25 ls []) := by
    intro v0 v1 v2 v4 v3 v5 τ o hf Kb Ke0 H locs hJ ls hl
    unfold f_X12_readCode_B25 at hf
    refine lv_iload hx hb dX12_readCode_25 (lv_at hl 5 rfl) ?_
    refine lv_iload_n hx hb dX12_readCode_27 rfl (lv_at hl 1 rfl) ?_
    refine lv_icmp_ge (tgt := 86) hx hb dX12_readCode_28 (by decide) (fun c8 => ?_) (fun c8 => ?_)
    · rw [if_pos c8] at hf
      exact Ke0 v3 τ (Option.some.inj hf).symm _ _ hJ ls (lv_sub hl [0, 1, 2, 3, 4] rfl)
    · rw [if_neg c8] at hf
      refine lv_iload_n hx hb dX12_readCode_31 rfl (lv_at hl 2 rfl) ?_
      refine lv_iload_n hx hb dX12_readCode_32 rfl (lv_at hl 3 rfl) ?_
      refine lv_ishr hx hb dX12_readCode_33 ?_
      refine lv_iconst (v := 1) hx hb dX12_readCode_34 (by decide) ?_
      refine lv_iand hx hb dX12_readCode_35 ?_
      refine lv_iconst (v := 1) hx hb dX12_readCode_36 (by decide) ?_
      refine lv_icmp_ne (tgt := 44) hx hb dX12_readCode_37 (by decide) (fun c9 => ?_) (fun c9 => ?_)
      · rw [if_neg c9] at hf
        refine lv_iconst (v := 0) hx hb dX12_readCode_44 (by decide) ?_
        exact D45_25 v0 v1 v2 v3 v4 v5 (0 : Int32) τ o hf Kb Ke0 _ _ hJ ls (lv_sub hl [0, 1, 2, 3, 4, 5] rfl)
      · rw [if_pos c9] at hf
        refine lv_iconst (v := 1) hx hb dX12_readCode_40 (by decide) ?_
        refine lv_goto (tgt := 45) hx hb dX12_readCode_41 (by decide) ?_
        exact D45_25 v0 v1 v2 v3 v4 v5 (1 : Int32) τ o hf Kb Ke0 _ _ hJ ls (lv_sub hl [0, 1, 2, 3, 4, 5] rfl)
  have L25 : ∀ (v0 : Nat) (v1 : Int32) (v2 : Int32) (v4 : Int32) (n : Nat) (v3 : Int32) (v5 : Int32) (τ : mx_S) (o : (Int32 × mx_S)), mx_lp (f_X12_readCode_L25 P v0 v1 v2 v4) n (v3, v5, τ) = some o → (∀ (y3 : Int32) (υ : mx_S), o = (y3, υ) → ∀ (H : Heap) (locs : List Loc), mx_J G P s.heap (mxz σ) (mxu σ) υ H locs → ∀ ls : Array Slot, lv_has ls 7 [(0, .ref v0), (1, .int v1), (2, .int v2), (3, .int y3), (4, .int v4)] → W p l e (mx_rm P 0 0 σ) s m ([.ref a0, .int p1, .int p2] : List Value).toArray below meth c H locs (mxz υ - mxz σ) (mxu υ - mxu σ) (mx_Z below G P none σ σ' [.ref a0, .int p1, .int p2] s) (F0 m 86 ls [])) → ∀ (H : Heap) (locs : List Loc), mx_J G P s.heap (mxz σ) (mxu σ) τ H locs → ∀ ls : Array Slot, lv_has ls 7 [(0, .ref v0), (1, .int v1), (2, .int v2), (3, .int v3), (4, .int v4), (5, .int v5)] → W p l e (mx_rm P 0 0 σ) s m ([.ref a0, .int p1, .int p2] : List Value).toArray below meth c H locs (mxz τ - mxz σ) (mxu τ - mxu σ) (mx_Z below G P none σ σ' [.ref a0, .int p1, .int p2] s) (F0 m 25 ls []) := by
    intro v0 v1 v2 v4 n
    induction n with
    | zero =>
      intro v3 v5 τ o hf
      rw [mx_lp0] at hf
      cases hf
    | succ n ih =>
      intro v3 v5 τ o hf Ke0 H locs hJ ls hl
      rw [mx_lpS] at hf
      obtain ⟨b, eb, hf⟩ := mb0 hf
      refine B25 v0 v1 v2 v4 v3 v5 τ b eb (fun y3 y5 υ ho H locs hJ ls hl => ?_) (fun y3 υ ho H locs hJ ls hl => ?_) H locs hJ ls hl
      · subst ho
        exact ih y3 y5 υ o hf Ke0 H locs hJ ls hl
      · subst ho
        exact Ke0 y3 υ (Option.some.inj hf).symm _ _ hJ ls hl
  have B13 : ∀ (v0 : Nat) (v1 : Int32) (v2 : Int32) (v3 : Int32) (v4 : Int32) (τ : mx_S) (o : (Int32 × Int32 × mx_S) ⊕ ((mx_S))), f_X12_readCode_B13 P v0 v1 v2 v3 v4 τ = some o → (∀ (y3 : Int32) (y4 : Int32) (υ : mx_S), o = .inl (y3, y4, υ) → ∀ (H : Heap) (locs : List Loc), mx_J G P s.heap (mxz σ) (mxu σ) υ H locs → ∀ ls : Array Slot, lv_has ls 7 [(0, .ref v0), (1, .int v1), (2, .int v2), (3, .int y3), (4, .int y4)] → W p l e (mx_rm P 0 0 σ) s m ([.ref a0, .int p1, .int p2] : List Value).toArray below meth c H locs (mxz υ - mxz σ) (mxu υ - mxu σ) (mx_Z below G P none σ σ' [.ref a0, .int p1, .int p2] s) (F0 m 13 ls [])) → (∀  (υ : mx_S), o = .inr υ → ∀ (H : Heap) (locs : List Loc), mx_J G P s.heap (mxz σ) (mxu σ) υ H locs → ∀ ls : Array Slot, lv_has ls 7 [] → W p l e (mx_rm P 0 0 σ) s m ([.ref a0, .int p1, .int p2] : List Value).toArray below meth c H locs (mxz υ - mxz σ) (mxu υ - mxu σ) (mx_Z below G P none σ σ' [.ref a0, .int p1, .int p2] s) (F0 m 92 ls [])) → ∀ (H : Heap) (locs : List Loc), mx_J G P s.heap (mxz σ) (mxu σ) τ H locs → ∀ ls : Array Slot, lv_has ls 7 [(0, .ref v0), (1, .int v1), (2, .int v2), (3, .int v3), (4, .int v4)] → W p l e (mx_rm P 0 0 σ) s m ([.ref a0, .int p1, .int p2] : List Value).toArray below meth c H locs (mxz τ - mxz σ) (mxu τ - mxu σ) (mx_Z below G P none σ σ' [.ref a0, .int p1, .int p2] s) (F0 m 13 ls []) := by
    intro v0 v1 v2 v3 v4 τ o hf Kb Ke0 H locs hJ ls hl
    unfold f_X12_readCode_B13 at hf
    refine lv_iload hx hb dX12_readCode_13 (lv_at hl 4 rfl) ?_
    refine lv_iload_n hx hb dX12_readCode_15 rfl (lv_at hl 1 rfl) ?_
    refine lv_icmp_ge (tgt := 92) hx hb dX12_readCode_16 (by decide) (fun c5 => ?_) (fun c5 => ?_)
    · rw [if_pos c5] at hf
      exact Ke0 τ (Option.some.inj hf).symm _ _ hJ ls (lv_sub hl [] rfl)
    · rw [if_neg c5] at hf
      refine lv_iload hx hb dX12_readCode_19 (lv_at hl 4 rfl) ?_
      refine lv_iconst (v := 1) hx hb dX12_readCode_21 (by decide) ?_
      refine lv_iadd hx hb dX12_readCode_22 ?_
      obtain ⟨x6, e7, hf⟩ := mb0 hf
      refine mx_nI e7 ?_
      refine lv_istore (lv' := [(5, .int x6), (0, .ref v0), (1, .int v1), (2, .int v2), (3, .int v3), (4, .int v4)]) hx hb dX12_readCode_23 hl (by decide) rfl (fun ls hl => ?_)
      obtain ⟨o22, e23, hf⟩ := mb0 hf
      refine L25 v0 v1 v2 v4 (mpN P) v3 x6 τ o22 e23 (fun y24 σ25 ho H locs hJ ls hl => ?_) _ _ hJ ls (lv_sub hl [1, 2, 3, 4, 5, 0] rfl)
      · rw [ho] at hf
        have hf : ((some (v4 + (1 : Int32))).bind fun x26 => some (.inl (y24, x26, σ25))) = some o := hf
        obtain ⟨x26, e27, hf⟩ := mb0 hf
        refine lv_iinc (v := x26) (lv' := [(4, .int x26), (0, .ref v0), (1, .int v1), (2, .int v2), (3, .int y24)]) hx hb dX12_readCode_86 hl (k := 4) rfl (by rw [← Option.some.inj e27]; rfl) (by decide) rfl (fun ls hl => ?_)
        refine lv_goto (tgt := 13) hx hb dX12_readCode_89 (by decide) ?_
        exact Kb y24 x26 σ25 (Option.some.inj hf).symm _ _ hJ ls (lv_sub hl [1, 2, 3, 4, 0] rfl)
  have L13 : ∀ (v0 : Nat) (v1 : Int32) (v2 : Int32) (n : Nat) (v3 : Int32) (v4 : Int32) (τ : mx_S) (o : (mx_S)), mx_lp (f_X12_readCode_L13 P v0 v1 v2) n (v3, v4, τ) = some o → (∀  (υ : mx_S), o = υ → ∀ (H : Heap) (locs : List Loc), mx_J G P s.heap (mxz σ) (mxu σ) υ H locs → ∀ ls : Array Slot, lv_has ls 7 [] → W p l e (mx_rm P 0 0 σ) s m ([.ref a0, .int p1, .int p2] : List Value).toArray below meth c H locs (mxz υ - mxz σ) (mxu υ - mxu σ) (mx_Z below G P none σ σ' [.ref a0, .int p1, .int p2] s) (F0 m 92 ls [])) → ∀ (H : Heap) (locs : List Loc), mx_J G P s.heap (mxz σ) (mxu σ) τ H locs → ∀ ls : Array Slot, lv_has ls 7 [(0, .ref v0), (1, .int v1), (2, .int v2), (3, .int v3), (4, .int v4)] → W p l e (mx_rm P 0 0 σ) s m ([.ref a0, .int p1, .int p2] : List Value).toArray below meth c H locs (mxz τ - mxz σ) (mxu τ - mxu σ) (mx_Z below G P none σ σ' [.ref a0, .int p1, .int p2] s) (F0 m 13 ls []) := by
    intro v0 v1 v2 n
    induction n with
    | zero =>
      intro v3 v4 τ o hf
      rw [mx_lp0] at hf
      cases hf
    | succ n ih =>
      intro v3 v4 τ o hf Ke0 H locs hJ ls hl
      rw [mx_lpS] at hf
      obtain ⟨b, eb, hf⟩ := mb0 hf
      refine B13 v0 v1 v2 v3 v4 τ b eb (fun y3 y4 υ ho H locs hJ ls hl => ?_) (fun  υ ho H locs hJ ls hl => ?_) H locs hJ ls hl
      · subst ho
        exact ih y3 y4 υ o hf Ke0 H locs hJ ls hl
      · subst ho
        exact Ke0  υ (Option.some.inj hf).symm _ _ hJ ls hl
  unfold f_X12_readCode at hf
  refine lv_iload_n hx hb dX12_readCode_0 rfl (lv_at hl 1 rfl) ?_
  refine lv_iload_n hx hb dX12_readCode_1 rfl (lv_at hl 1 rfl) ?_
  refine lv_iconst (v := 1) hx hb dX12_readCode_2 (by decide) ?_
  refine lv_isub hx hb dX12_readCode_3 ?_
  refine lv_imul hx hb dX12_readCode_4 ?_
  refine lv_iconst (v := 2) hx hb dX12_readCode_5 (by decide) ?_
  obtain ⟨x1, e2, hf⟩ := mb0 hf
  refine lv_idiv hx hb dX12_readCode_6 (md_Is e2).1 ?_
  refine mx_eI (md_Is e2).2 ?_
  refine lv_iconst (v := 1) hx hb dX12_readCode_7 (by decide) ?_
  refine lv_isub hx hb dX12_readCode_8 ?_
  obtain ⟨x3, e4, hf⟩ := mb0 hf
  refine mx_nI e4 ?_
  refine lv_istore_n (lv' := [(3, .int x3), (0, .ref a0), (1, .int p1), (2, .int p2)]) hx hb dX12_readCode_9 rfl hl (by decide) rfl (fun ls hl => ?_)
  refine lv_iconst (v := 0) hx hb dX12_readCode_10 (by decide) ?_
  refine lv_istore (lv' := [(4, .int (0 : Int32)), (3, .int x3), (0, .ref a0), (1, .int p1), (2, .int p2)]) hx hb dX12_readCode_11 hl (by decide) rfl (fun ls hl => ?_)
  obtain ⟨o28, e29, hf⟩ := mb0 hf
  refine L13 a0 p1 p2 (mpN P) x3 (0 : Int32) σ o28 e29 (fun σ30 ho H locs hJ ls hl => ?_) _ _ hJ ls (lv_sub hl [2, 3, 4, 1, 0] rfl)
  · rw [ho] at hf
    have hf : (some σ30) = some σ' := hf
    exact my_vret hx hb hr hlocks hJ hf dX12_readCode_92
set_option maxHeartbeats 4000000 in
set_option maxRecDepth 100000 in
theorem c_X12_isChain (l : Launch) (G : mx_G) (P : mx_P) (a0 : Nat) (p1 : Int32) (σ : mx_S) (r : Int32) (σ' : mx_S) (hf : f_X12_isChain P a0 p1 σ = some (r, σ')) : mxz σ ≤ mpc P → mxu σ ≤ mps P → mx_M l yX12_isChain cX12_isChain 8 (some .boolean) 0 0 G P [.ref a0, .int p1] σ (some (.int r)) σ' := by
  intro hcap hcau
  refine mx_ofW (by decide +kernel) hcap hcau (Nat.le_of_ble_eq_true rfl) ?_
  intro p e s m below meth c hx hb hr hml hts hown hlocks hname hK hJ ls hl
  have hz0 := hJ.2.1
  have hown : s.vm.findClass RX12 = some m.cls := hown
  have hl : lv_has ls 8 [(0, .ref a0), (1, .int p1)] := hl
  have D42_12 : ∀ (v0 : Nat) (v1 : Int32) (v2 : Int32) (v3 : Int32) (v4 : Int32) (τ : mx_S) (o : (Int32 × Int32 × mx_S) ⊕ ((Int32 × mx_S))), f_X12_isChain_D42_12 P v0 v1 v2 v3 v4 τ = some o → (∀ (y3 : Int32) (y4 : Int32) (υ : mx_S), o = .inl (y3, y4, υ) → ∀ (H : Heap) (locs : List Loc), mx_J G P s.heap (mxz σ) (mxu σ) υ H locs → ∀ ls : Array Slot, lv_has ls 8 [(0, .ref v0), (1, .int v1), (2, .int v2), (3, .int y3), (4, .int y4)] → W p l e (mx_rm P 0 0 σ) s m ([.ref a0, .int p1] : List Value).toArray below meth c H locs (mxz υ - mxz σ) (mxu υ - mxu σ) (mx_Z below G P (some (.int r)) σ σ' [.ref a0, .int p1] s) (F0 m 12 ls [])) → (∀ (y3 : Int32) (υ : mx_S), o = .inr (y3, υ) → ∀ (H : Heap) (locs : List Loc), mx_J G P s.heap (mxz σ) (mxu σ) υ H locs → ∀ ls : Array Slot, lv_has ls 8 [(0, .ref v0), (1, .int v1), (2, .int v2), (3, .int y3)] → W p l e (mx_rm P 0 0 σ) s m ([.ref a0, .int p1] : List Value).toArray below meth c H locs (mxz υ - mxz σ) (mxu υ - mxu σ) (mx_Z below G P (some (.int r)) σ σ' [.ref a0, .int p1] s) (F0 m 48 ls [])) → ∀ (H : Heap) (locs : List Loc), mx_J G P s.heap (mxz σ) (mxu σ) τ H locs → ∀ ls : Array Slot, lv_has ls 8 [(0, .ref v0), (1, .int v1), (2, .int v2), (3, .int v3), (4, .int v4)] → W p l e (mx_rm P 0 0 σ) s m ([.ref a0, .int p1] : List Value).toArray below meth c H locs (mxz τ - mxz σ) (mxu τ - mxu σ) (mx_Z below G P (some (.int r)) σ σ' [.ref a0, .int p1] s) (F0 m 42 ls []) := by
    intro v0 v1 v2 v3 v4 τ o hf Kb Ke0 H locs hJ ls hl
    unfold f_X12_isChain_D42_12 at hf
    obtain ⟨x4, e5, hf⟩ := mb0 hf
    refine lv_iinc (v := x4) (lv' := [(4, .int x4), (0, .ref v0), (1, .int v1), (2, .int v2), (3, .int v3)]) hx hb dX12_isChain_42 hl (k := 4) rfl (by rw [← Option.some.inj e5]; rfl) (by decide) rfl (fun ls hl => ?_)
    refine lv_goto (tgt := 12) hx hb dX12_isChain_45 (by decide) ?_
    exact Kb v3 x4 τ (Option.some.inj hf).symm _ _ hJ ls (lv_sub hl [1, 2, 3, 4, 0] rfl)
  have B12 : ∀ (v0 : Nat) (v1 : Int32) (v2 : Int32) (v3 : Int32) (v4 : Int32) (τ : mx_S) (o : (Int32 × Int32 × mx_S) ⊕ ((Int32 × mx_S))), f_X12_isChain_B12 P v0 v1 v2 v3 v4 τ = some o → (∀ (y3 : Int32) (y4 : Int32) (υ : mx_S), o = .inl (y3, y4, υ) → ∀ (H : Heap) (locs : List Loc), mx_J G P s.heap (mxz σ) (mxu σ) υ H locs → ∀ ls : Array Slot, lv_has ls 8 [(0, .ref v0), (1, .int v1), (2, .int v2), (3, .int y3), (4, .int y4)] → W p l e (mx_rm P 0 0 σ) s m ([.ref a0, .int p1] : List Value).toArray below meth c H locs (mxz υ - mxz σ) (mxu υ - mxu σ) (mx_Z below G P (some (.int r)) σ σ' [.ref a0, .int p1] s) (F0 m 12 ls [])) → (∀ (y3 : Int32) (υ : mx_S), o = .inr (y3, υ) → ∀ (H : Heap) (locs : List Loc), mx_J G P s.heap (mxz σ) (mxu σ) υ H locs → ∀ ls : Array Slot, lv_has ls 8 [(0, .ref v0), (1, .int v1), (2, .int v2), (3, .int y3)] → W p l e (mx_rm P 0 0 σ) s m ([.ref a0, .int p1] : List Value).toArray below meth c H locs (mxz υ - mxz σ) (mxu υ - mxu σ) (mx_Z below G P (some (.int r)) σ σ' [.ref a0, .int p1] s) (F0 m 48 ls [])) → ∀ (H : Heap) (locs : List Loc), mx_J G P s.heap (mxz σ) (mxu σ) τ H locs → ∀ ls : Array Slot, lv_has ls 8 [(0, .ref v0), (1, .int v1), (2, .int v2), (3, .int v3), (4, .int v4)] → W p l e (mx_rm P 0 0 σ) s m ([.ref a0, .int p1] : List Value).toArray below meth c H locs (mxz τ - mxz σ) (mxu τ - mxu σ) (mx_Z below G P (some (.int r)) σ σ' [.ref a0, .int p1] s) (F0 m 12 ls []) := by
    intro v0 v1 v2 v3 v4 τ o hf Kb Ke0 H locs hJ ls hl
    unfold f_X12_isChain_B12 at hf
    refine lv_iload hx hb dX12_isChain_12 (lv_at hl 4 rfl) ?_
    refine lv_iload_n hx hb dX12_isChain_14 rfl (lv_at hl 1 rfl) ?_
    refine lv_icmp_ge (tgt := 48) hx hb dX12_isChain_15 (by decide) (fun c2 => ?_) (fun c2 => ?_)
    · rw [if_pos c2] at hf
      exact Ke0 v3 τ (Option.some.inj hf).symm _ _ hJ ls (lv_sub hl [0, 1, 2, 3] rfl)
    · rw [if_neg c2] at hf
      refine lv_iload hx hb dX12_isChain_18 (lv_at hl 4 rfl) ?_
      refine lv_iload_n hx hb dX12_isChain_20 rfl (lv_at hl 2 rfl) ?_
      refine lv_icmp_eq (tgt := 42) hx hb dX12_isChain_21 (by decide) (fun c3 => ?_) (fun c3 => ?_)
      · rw [if_pos c3] at hf
        exact D42_12 v0 v1 v2 v3 v4 τ o hf Kb Ke0 _ _ hJ ls (lv_sub hl [0, 1, 2, 3, 4] rfl)
      · rw [if_neg c3] at hf
        refine lv_aload_n hx hb dX12_isChain_24 rfl (lv_at hl 0 rfl) ?_
        obtain ⟨b6, e7, hf⟩ := mb0 hf
        refine my_gR hx hb hts hown hK hJ fd_RX12_198 hv_12_93 e7 dX12_isChain_25 ?_
        refine lv_bipush (v := 6) hx hb dX12_isChain_28 (by decide) ?_
        refine lv_iload_n hx hb dX12_isChain_30 rfl (lv_at hl 2 rfl) ?_
        refine lv_imul hx hb dX12_isChain_31 ?_
        refine lv_iload hx hb dX12_isChain_32 (lv_at hl 4 rfl) ?_
        refine lv_iadd hx hb dX12_isChain_34 ?_
        obtain ⟨x8, e9, hf⟩ := mb0 hf
        refine mx_aZ hx hb hK hJ e9 dX12_isChain_35 ?_
        refine lv_if_eq (tgt := 42) hx hb dX12_isChain_36 (by decide) (fun c10 => ?_) (fun c10 => ?_)
        · rw [if_pos c10] at hf
          exact D42_12 v0 v1 v2 v3 v4 τ o hf Kb Ke0 _ _ hJ ls (lv_sub hl [0, 1, 2, 3, 4] rfl)
        · rw [if_neg c10] at hf
          obtain ⟨x11, e12, hf⟩ := mb0 hf
          refine lv_iinc (v := x11) (lv' := [(3, .int x11), (0, .ref v0), (1, .int v1), (2, .int v2), (4, .int v4)]) hx hb dX12_isChain_39 hl (k := 3) rfl (by rw [← Option.some.inj e12]; rfl) (by decide) rfl (fun ls hl => ?_)
          exact D42_12 v0 v1 v2 x11 v4 τ o hf Kb Ke0 _ _ hJ ls (lv_sub hl [1, 2, 3, 0, 4] rfl)
  have L12 : ∀ (v0 : Nat) (v1 : Int32) (v2 : Int32) (n : Nat) (v3 : Int32) (v4 : Int32) (τ : mx_S) (o : (Int32 × mx_S)), mx_lp (f_X12_isChain_L12 P v0 v1 v2) n (v3, v4, τ) = some o → (∀ (y3 : Int32) (υ : mx_S), o = (y3, υ) → ∀ (H : Heap) (locs : List Loc), mx_J G P s.heap (mxz σ) (mxu σ) υ H locs → ∀ ls : Array Slot, lv_has ls 8 [(0, .ref v0), (1, .int v1), (2, .int v2), (3, .int y3)] → W p l e (mx_rm P 0 0 σ) s m ([.ref a0, .int p1] : List Value).toArray below meth c H locs (mxz υ - mxz σ) (mxu υ - mxu σ) (mx_Z below G P (some (.int r)) σ σ' [.ref a0, .int p1] s) (F0 m 48 ls [])) → ∀ (H : Heap) (locs : List Loc), mx_J G P s.heap (mxz σ) (mxu σ) τ H locs → ∀ ls : Array Slot, lv_has ls 8 [(0, .ref v0), (1, .int v1), (2, .int v2), (3, .int v3), (4, .int v4)] → W p l e (mx_rm P 0 0 σ) s m ([.ref a0, .int p1] : List Value).toArray below meth c H locs (mxz τ - mxz σ) (mxu τ - mxu σ) (mx_Z below G P (some (.int r)) σ σ' [.ref a0, .int p1] s) (F0 m 12 ls []) := by
    intro v0 v1 v2 n
    induction n with
    | zero =>
      intro v3 v4 τ o hf
      rw [mx_lp0] at hf
      cases hf
    | succ n ih =>
      intro v3 v4 τ o hf Ke0 H locs hJ ls hl
      rw [mx_lpS] at hf
      obtain ⟨b, eb, hf⟩ := mb0 hf
      refine B12 v0 v1 v2 v3 v4 τ b eb (fun y3 y4 υ ho H locs hJ ls hl => ?_) (fun y3 υ ho H locs hJ ls hl => ?_) H locs hJ ls hl
      · subst ho
        exact ih y3 y4 υ o hf Ke0 H locs hJ ls hl
      · subst ho
        exact Ke0 y3 υ (Option.some.inj hf).symm _ _ hJ ls hl
  have B2 : ∀ (v0 : Nat) (v1 : Int32) (v2 : Int32) (τ : mx_S) (o : (Int32 × mx_S) ⊕ ((mx_S) ⊕ (mx_S))), f_X12_isChain_B2 P v0 v1 v2 τ = some o → (∀ (y2 : Int32) (υ : mx_S), o = .inl (y2, υ) → ∀ (H : Heap) (locs : List Loc), mx_J G P s.heap (mxz σ) (mxu σ) υ H locs → ∀ ls : Array Slot, lv_has ls 8 [(0, .ref v0), (1, .int v1), (2, .int y2)] → W p l e (mx_rm P 0 0 σ) s m ([.ref a0, .int p1] : List Value).toArray below meth c H locs (mxz υ - mxz σ) (mxu υ - mxu σ) (mx_Z below G P (some (.int r)) σ σ' [.ref a0, .int p1] s) (F0 m 2 ls [])) → (∀  (υ : mx_S), o = .inr (.inl υ) → ∀ (H : Heap) (locs : List Loc), mx_J G P s.heap (mxz σ) (mxu σ) υ H locs → ∀ ls : Array Slot, lv_has ls 8 [] → W p l e (mx_rm P 0 0 σ) s m ([.ref a0, .int p1] : List Value).toArray below meth c H locs (mxz υ - mxz σ) (mxu υ - mxu σ) (mx_Z below G P (some (.int r)) σ σ' [.ref a0, .int p1] s) (F0 m 53 ls [])) → (∀  (υ : mx_S), o = .inr (.inr υ) → ∀ (H : Heap) (locs : List Loc), mx_J G P s.heap (mxz σ) (mxu σ) υ H locs → ∀ ls : Array Slot, lv_has ls 8 [(0, .ref v0), (1, .int v1)] → W p l e (mx_rm P 0 0 σ) s m ([.ref a0, .int p1] : List Value).toArray below meth c H locs (mxz υ - mxz σ) (mxu υ - mxu σ) (mx_Z below G P (some (.int r)) σ σ' [.ref a0, .int p1] s) (F0 m 61 ls [])) → ∀ (H : Heap) (locs : List Loc), mx_J G P s.heap (mxz σ) (mxu σ) τ H locs → ∀ ls : Array Slot, lv_has ls 8 [(0, .ref v0), (1, .int v1), (2, .int v2)] → W p l e (mx_rm P 0 0 σ) s m ([.ref a0, .int p1] : List Value).toArray below meth c H locs (mxz τ - mxz σ) (mxu τ - mxu σ) (mx_Z below G P (some (.int r)) σ σ' [.ref a0, .int p1] s) (F0 m 2 ls []) := by
    intro v0 v1 v2 τ o hf Kb Ke0 Ke1 H locs hJ ls hl
    unfold f_X12_isChain_B2 at hf
    refine lv_iload_n hx hb dX12_isChain_2 rfl (lv_at hl 2 rfl) ?_
    refine lv_iload_n hx hb dX12_isChain_3 rfl (lv_at hl 1 rfl) ?_
    refine lv_icmp_ge (tgt := 61) hx hb dX12_isChain_4 (by decide) (fun c1 => ?_) (fun c1 => ?_)
    · rw [if_pos c1] at hf
      exact Ke1 τ (Option.some.inj hf).symm _ _ hJ ls (lv_sub hl [0, 1] rfl)
    · rw [if_neg c1] at hf
      refine lv_iconst (v := 0) hx hb dX12_isChain_7 (by decide) ?_
      refine lv_istore_n (lv' := [(3, .int (0 : Int32)), (0, .ref v0), (1, .int v1), (2, .int v2)]) hx hb dX12_isChain_8 rfl hl (by decide) rfl (fun ls hl => ?_)
      refine lv_iconst (v := 0) hx hb dX12_isChain_9 (by decide) ?_
      refine lv_istore (lv' := [(4, .int (0 : Int32)), (3, .int (0 : Int32)), (0, .ref v0), (1, .int v1), (2, .int v2)]) hx hb dX12_isChain_10 hl (by decide) rfl (fun ls hl => ?_)
      obtain ⟨o13, e14, hf⟩ := mb0 hf
      refine L12 v0 v1 v2 (mpN P) (0 : Int32) (0 : Int32) τ o13 e14 (fun y15 σ16 ho H locs hJ ls hl => ?_) _ _ hJ ls (lv_sub hl [2, 3, 4, 1, 0] rfl)
      · rw [ho] at hf
        have hf : ((if (2 : Int32) ≤ y15 then (some (v2 + (1 : Int32))).bind fun x18 => some (.inl (x18, σ16)) else some (.inr (.inl σ16)))) = some o := hf
        refine lv_iload_n hx hb dX12_isChain_48 rfl (lv_at hl 3 rfl) ?_
        refine lv_iconst (v := 2) hx hb dX12_isChain_49 (by decide) ?_
        refine lv_icmp_ge (tgt := 55) hx hb dX12_isChain_50 (by decide) (fun c17 => ?_) (fun c17 => ?_)
        · rw [if_pos c17] at hf
          obtain ⟨x18, e19, hf⟩ := mb0 hf
          refine lv_iinc (v := x18) (lv' := [(2, .int x18), (0, .ref v0), (1, .int v1), (3, .int y15)]) hx hb dX12_isChain_55 hl (k := 2) rfl (by rw [← Option.some.inj e19]; rfl) (by decide) rfl (fun ls hl => ?_)
          refine lv_goto (tgt := 2) hx hb dX12_isChain_58 (by decide) ?_
          exact Kb x18 σ16 (Option.some.inj hf).symm _ _ hJ ls (lv_sub hl [1, 2, 0] rfl)
        · rw [if_neg c17] at hf
          exact Ke0 σ16 (Option.some.inj hf).symm _ _ hJ ls (lv_sub hl [] rfl)
  have L2 : ∀ (v0 : Nat) (v1 : Int32) (n : Nat) (v2 : Int32) (τ : mx_S) (o : (mx_S) ⊕ (mx_S)), mx_lp (f_X12_isChain_L2 P v0 v1) n (v2, τ) = some o → (∀  (υ : mx_S), o = (.inl υ) → ∀ (H : Heap) (locs : List Loc), mx_J G P s.heap (mxz σ) (mxu σ) υ H locs → ∀ ls : Array Slot, lv_has ls 8 [] → W p l e (mx_rm P 0 0 σ) s m ([.ref a0, .int p1] : List Value).toArray below meth c H locs (mxz υ - mxz σ) (mxu υ - mxu σ) (mx_Z below G P (some (.int r)) σ σ' [.ref a0, .int p1] s) (F0 m 53 ls [])) → (∀  (υ : mx_S), o = (.inr υ) → ∀ (H : Heap) (locs : List Loc), mx_J G P s.heap (mxz σ) (mxu σ) υ H locs → ∀ ls : Array Slot, lv_has ls 8 [(0, .ref v0), (1, .int v1)] → W p l e (mx_rm P 0 0 σ) s m ([.ref a0, .int p1] : List Value).toArray below meth c H locs (mxz υ - mxz σ) (mxu υ - mxu σ) (mx_Z below G P (some (.int r)) σ σ' [.ref a0, .int p1] s) (F0 m 61 ls [])) → ∀ (H : Heap) (locs : List Loc), mx_J G P s.heap (mxz σ) (mxu σ) τ H locs → ∀ ls : Array Slot, lv_has ls 8 [(0, .ref v0), (1, .int v1), (2, .int v2)] → W p l e (mx_rm P 0 0 σ) s m ([.ref a0, .int p1] : List Value).toArray below meth c H locs (mxz τ - mxz σ) (mxu τ - mxu σ) (mx_Z below G P (some (.int r)) σ σ' [.ref a0, .int p1] s) (F0 m 2 ls []) := by
    intro v0 v1 n
    induction n with
    | zero =>
      intro v2 τ o hf
      rw [mx_lp0] at hf
      cases hf
    | succ n ih =>
      intro v2 τ o hf Ke0 Ke1 H locs hJ ls hl
      rw [mx_lpS] at hf
      obtain ⟨b, eb, hf⟩ := mb0 hf
      refine B2 v0 v1 v2 τ b eb (fun y2 υ ho H locs hJ ls hl => ?_) (fun  υ ho H locs hJ ls hl => ?_) (fun  υ ho H locs hJ ls hl => ?_) H locs hJ ls hl
      · subst ho
        exact ih y2 υ o hf Ke0 Ke1 H locs hJ ls hl
      · subst ho
        exact Ke0  υ (Option.some.inj hf).symm _ _ hJ ls hl
      · subst ho
        exact Ke1  υ (Option.some.inj hf).symm _ _ hJ ls hl
  have D128_82 : ∀ (v0 : Nat) (v1 : Int32) (v2 : Int32) (v3 : Int32) (v4 : Int32) (v5 : Int32) (τ : mx_S) (o : (Int32 × Int32 × mx_S) ⊕ ((Int32 × mx_S))), f_X12_isChain_D128_82 P v0 v1 v2 v3 v4 v5 τ = some o → (∀ (y2 : Int32) (y5 : Int32) (υ : mx_S), o = .inl (y2, y5, υ) → ∀ (H : Heap) (locs : List Loc), mx_J G P s.heap (mxz σ) (mxu σ) υ H locs → ∀ ls : Array Slot, lv_has ls 8 [(0, .ref v0), (1, .int v1), (2, .int y2), (3, .int v3), (4, .int v4), (5, .int y5)] → W p l e (mx_rm P 0 0 σ) s m ([.ref a0, .int p1] : List Value).toArray below meth c H locs (mxz υ - mxz σ) (mxu υ - mxu σ) (mx_Z below G P (some (.int r)) σ σ' [.ref a0, .int p1] s) (F0 m 82 ls [])) → (∀ (y2 : Int32) (υ : mx_S), o = .inr (y2, υ) → ∀ (H : Heap) (locs : List Loc), mx_J G P s.heap (mxz σ) (mxu σ) υ H locs → ∀ ls : Array Slot, lv_has ls 8 [(0, .ref v0), (1, .int v1), (2, .int y2), (3, .int v3), (4, .int v4)] → W p l e (mx_rm P 0 0 σ) s m ([.ref a0, .int p1] : List Value).toArray below meth c H locs (mxz υ - mxz σ) (mxu υ - mxu σ) (mx_Z below G P (some (.int r)) σ σ' [.ref a0, .int p1] s) (F0 m 134 ls [])) → ∀ (H : Heap) (locs : List Loc), mx_J G P s.heap (mxz σ) (mxu σ) τ H locs → ∀ ls : Array Slot, lv_has ls 8 [(0, .ref v0), (1, .int v1), (2, .int v2), (3, .int v3), (4, .int v4), (5, .int v5)] → W p l e (mx_rm P 0 0 σ) s m ([.ref a0, .int p1] : List Value).toArray below meth c H locs (mxz τ - mxz σ) (mxu τ - mxu σ) (mx_Z below G P (some (.int r)) σ σ' [.ref a0, .int p1] s) (F0 m 128 ls []) := by
    intro v0 v1 v2 v3 v4 v5 τ o hf Kb Ke0 H locs hJ ls hl
    unfold f_X12_isChain_D128_82 at hf
    obtain ⟨x28, e29, hf⟩ := mb0 hf
    refine lv_iinc (v := x28) (lv' := [(5, .int x28), (0, .ref v0), (1, .int v1), (2, .int v2), (3, .int v3), (4, .int v4)]) hx hb dX12_isChain_128 hl (k := 5) rfl (by rw [← Option.some.inj e29]; rfl) (by decide) rfl (fun ls hl => ?_)
    refine lv_goto (tgt := 82) hx hb dX12_isChain_131 (by decide) ?_
    exact Kb v2 x28 τ (Option.some.inj hf).symm _ _ hJ ls (lv_sub hl [1, 2, 3, 4, 5, 0] rfl)
  have B82 : ∀ (v0 : Nat) (v1 : Int32) (v3 : Int32) (v4 : Int32) (v2 : Int32) (v5 : Int32) (τ : mx_S) (o : (Int32 × Int32 × mx_S) ⊕ ((Int32 × mx_S))), f_X12_isChain_B82 P v0 v1 v3 v4 v2 v5 τ = some o → (∀ (y2 : Int32) (y5 : Int32) (υ : mx_S), o = .inl (y2, y5, υ) → ∀ (H : Heap) (locs : List Loc), mx_J G P s.heap (mxz σ) (mxu σ) υ H locs → ∀ ls : Array Slot, lv_has ls 8 [(0, .ref v0), (1, .int v1), (2, .int y2), (3, .int v3), (4, .int v4), (5, .int y5)] → W p l e (mx_rm P 0 0 σ) s m ([.ref a0, .int p1] : List Value).toArray below meth c H locs (mxz υ - mxz σ) (mxu υ - mxu σ) (mx_Z below G P (some (.int r)) σ σ' [.ref a0, .int p1] s) (F0 m 82 ls [])) → (∀ (y2 : Int32) (υ : mx_S), o = .inr (y2, υ) → ∀ (H : Heap) (locs : List Loc), mx_J G P s.heap (mxz σ) (mxu σ) υ H locs → ∀ ls : Array Slot, lv_has ls 8 [(0, .ref v0), (1, .int v1), (2, .int y2), (3, .int v3), (4, .int v4)] → W p l e (mx_rm P 0 0 σ) s m ([.ref a0, .int p1] : List Value).toArray below meth c H locs (mxz υ - mxz σ) (mxu υ - mxu σ) (mx_Z below G P (some (.int r)) σ σ' [.ref a0, .int p1] s) (F0 m 134 ls [])) → ∀ (H : Heap) (locs : List Loc), mx_J G P s.heap (mxz σ) (mxu σ) τ H locs → ∀ ls : Array Slot, lv_has ls 8 [(0, .ref v0), (1, .int v1), (2, .int v2), (3, .int v3), (4, .int v4), (5, .int v5)] → W p l e (mx_rm P 0 0 σ) s m ([.ref a0, .int p1] : List Value).toArray below meth c H locs (mxz τ - mxz σ) (mxu τ - mxu σ) (mx_Z below G P (some (.int r)) σ σ' [.ref a0, .int p1] s) (F0 m 82 ls []) := by
    intro v0 v1 v3 v4 v2 v5 τ o hf Kb Ke0 H locs hJ ls hl
    unfold f_X12_isChain_B82 at hf
    refine lv_iload hx hb dX12_isChain_82 (lv_at hl 5 rfl) ?_
    refine lv_iload_n hx hb dX12_isChain_84 rfl (lv_at hl 1 rfl) ?_
    refine lv_icmp_ge (tgt := 134) hx hb dX12_isChain_85 (by decide) (fun c26 => ?_) (fun c26 => ?_)
    · rw [if_pos c26] at hf
      exact Ke0 v2 τ (Option.some.inj hf).symm _ _ hJ ls (lv_sub hl [0, 1, 2, 3, 4] rfl)
    · rw [if_neg c26] at hf
      refine lv_iload hx hb dX12_isChain_88 (lv_at hl 4 rfl) ?_
      refine lv_iload hx hb dX12_isChain_90 (lv_at hl 5 rfl) ?_
      refine lv_icmp_eq (tgt := 128) hx hb dX12_isChain_92 (by decide) (fun c27 => ?_) (fun c27 => ?_)
      · rw [if_pos c27] at hf
        exact D128_82 v0 v1 v2 v3 v4 v5 τ o hf Kb Ke0 _ _ hJ ls (lv_sub hl [0, 1, 2, 3, 4, 5] rfl)
      · rw [if_neg c27] at hf
        refine lv_aload_n hx hb dX12_isChain_95 rfl (lv_at hl 0 rfl) ?_
        obtain ⟨b30, e31, hf⟩ := mb0 hf
        refine my_gR hx hb hts hown hK hJ fd_RX12_198 hv_12_93 e31 dX12_isChain_96 ?_
        refine lv_bipush (v := 6) hx hb dX12_isChain_99 (by decide) ?_
        refine lv_iload hx hb dX12_isChain_101 (lv_at hl 4 rfl) ?_
        refine lv_imul hx hb dX12_isChain_103 ?_
        refine lv_iload hx hb dX12_isChain_104 (lv_at hl 5 rfl) ?_
        refine lv_iadd hx hb dX12_isChain_106 ?_
        obtain ⟨x32, e33, hf⟩ := mb0 hf
        refine mx_aZ hx hb hK hJ e33 dX12_isChain_107 ?_
        refine lv_if_eq (tgt := 128) hx hb dX12_isChain_108 (by decide) (fun c34 => ?_) (fun c34 => ?_)
        · rw [if_pos c34] at hf
          exact D128_82 v0 v1 v2 v3 v4 v5 τ o hf Kb Ke0 _ _ hJ ls (lv_sub hl [0, 1, 2, 3, 4, 5] rfl)
        · rw [if_neg c34] at hf
          refine lv_iload_n hx hb dX12_isChain_111 rfl (lv_at hl 2 rfl) ?_
          refine lv_iload hx hb dX12_isChain_112 (lv_at hl 4 rfl) ?_
          refine lv_ishr hx hb dX12_isChain_114 ?_
          refine lv_iconst (v := 1) hx hb dX12_isChain_115 (by decide) ?_
          refine lv_iand hx hb dX12_isChain_116 ?_
          refine lv_iconst (v := 1) hx hb dX12_isChain_117 (by decide) ?_
          refine lv_icmp_ne (tgt := 128) hx hb dX12_isChain_118 (by decide) (fun c35 => ?_) (fun c35 => ?_)
          · rw [if_neg c35] at hf
            exact D128_82 v0 v1 v2 v3 v4 v5 τ o hf Kb Ke0 _ _ hJ ls (lv_sub hl [0, 1, 2, 3, 4, 5] rfl)
          · rw [if_pos c35] at hf
            refine lv_iload_n hx hb dX12_isChain_121 rfl (lv_at hl 2 rfl) ?_
            refine lv_iconst (v := 1) hx hb dX12_isChain_122 (by decide) ?_
            refine lv_iload hx hb dX12_isChain_123 (lv_at hl 5 rfl) ?_
            refine lv_ishl hx hb dX12_isChain_125 ?_
            refine lv_ior hx hb dX12_isChain_126 ?_
            obtain ⟨x36, e37, hf⟩ := mb0 hf
            refine mx_nI e37 ?_
            refine lv_istore_n (lv' := [(2, .int x36), (0, .ref v0), (1, .int v1), (3, .int v3), (4, .int v4), (5, .int v5)]) hx hb dX12_isChain_127 rfl hl (by decide) rfl (fun ls hl => ?_)
            exact D128_82 v0 v1 x36 v3 v4 v5 τ o hf Kb Ke0 _ _ hJ ls (lv_sub hl [1, 2, 0, 3, 4, 5] rfl)
  have L82 : ∀ (v0 : Nat) (v1 : Int32) (v3 : Int32) (v4 : Int32) (n : Nat) (v2 : Int32) (v5 : Int32) (τ : mx_S) (o : (Int32 × mx_S)), mx_lp (f_X12_isChain_L82 P v0 v1 v3 v4) n (v2, v5, τ) = some o → (∀ (y2 : Int32) (υ : mx_S), o = (y2, υ) → ∀ (H : Heap) (locs : List Loc), mx_J G P s.heap (mxz σ) (mxu σ) υ H locs → ∀ ls : Array Slot, lv_has ls 8 [(0, .ref v0), (1, .int v1), (2, .int y2), (3, .int v3), (4, .int v4)] → W p l e (mx_rm P 0 0 σ) s m ([.ref a0, .int p1] : List Value).toArray below meth c H locs (mxz υ - mxz σ) (mxu υ - mxu σ) (mx_Z below G P (some (.int r)) σ σ' [.ref a0, .int p1] s) (F0 m 134 ls [])) → ∀ (H : Heap) (locs : List Loc), mx_J G P s.heap (mxz σ) (mxu σ) τ H locs → ∀ ls : Array Slot, lv_has ls 8 [(0, .ref v0), (1, .int v1), (2, .int v2), (3, .int v3), (4, .int v4), (5, .int v5)] → W p l e (mx_rm P 0 0 σ) s m ([.ref a0, .int p1] : List Value).toArray below meth c H locs (mxz τ - mxz σ) (mxu τ - mxu σ) (mx_Z below G P (some (.int r)) σ σ' [.ref a0, .int p1] s) (F0 m 82 ls []) := by
    intro v0 v1 v3 v4 n
    induction n with
    | zero =>
      intro v2 v5 τ o hf
      rw [mx_lp0] at hf
      cases hf
    | succ n ih =>
      intro v2 v5 τ o hf Ke0 H locs hJ ls hl
      rw [mx_lpS] at hf
      obtain ⟨b, eb, hf⟩ := mb0 hf
      refine B82 v0 v1 v3 v4 v2 v5 τ b eb (fun y2 y5 υ ho H locs hJ ls hl => ?_) (fun y2 υ ho H locs hJ ls hl => ?_) H locs hJ ls hl
      · subst ho
        exact ih y2 y5 υ o hf Ke0 H locs hJ ls hl
      · subst ho
        exact Ke0 y2 υ (Option.some.inj hf).symm _ _ hJ ls hl
  have B73 : ∀ (v0 : Nat) (v1 : Int32) (v3 : Int32) (v2 : Int32) (v4 : Int32) (τ : mx_S) (o : (Int32 × Int32 × mx_S) ⊕ ((Int32 × mx_S))), f_X12_isChain_B73 P v0 v1 v3 v2 v4 τ = some o → (∀ (y2 : Int32) (y4 : Int32) (υ : mx_S), o = .inl (y2, y4, υ) → ∀ (H : Heap) (locs : List Loc), mx_J G P s.heap (mxz σ) (mxu σ) υ H locs → ∀ ls : Array Slot, lv_has ls 8 [(0, .ref v0), (1, .int v1), (2, .int y2), (3, .int v3), (4, .int y4)] → W p l e (mx_rm P 0 0 σ) s m ([.ref a0, .int p1] : List Value).toArray below meth c H locs (mxz υ - mxz σ) (mxu υ - mxu σ) (mx_Z below G P (some (.int r)) σ σ' [.ref a0, .int p1] s) (F0 m 73 ls [])) → (∀ (y2 : Int32) (υ : mx_S), o = .inr (y2, υ) → ∀ (H : Heap) (locs : List Loc), mx_J G P s.heap (mxz σ) (mxu σ) υ H locs → ∀ ls : Array Slot, lv_has ls 8 [(0, .ref v0), (1, .int v1), (2, .int y2), (3, .int v3)] → W p l e (mx_rm P 0 0 σ) s m ([.ref a0, .int p1] : List Value).toArray below meth c H locs (mxz υ - mxz σ) (mxu υ - mxu σ) (mx_Z below G P (some (.int r)) σ σ' [.ref a0, .int p1] s) (F0 m 140 ls [])) → ∀ (H : Heap) (locs : List Loc), mx_J G P s.heap (mxz σ) (mxu σ) τ H locs → ∀ ls : Array Slot, lv_has ls 8 [(0, .ref v0), (1, .int v1), (2, .int v2), (3, .int v3), (4, .int v4)] → W p l e (mx_rm P 0 0 σ) s m ([.ref a0, .int p1] : List Value).toArray below meth c H locs (mxz τ - mxz σ) (mxu τ - mxu σ) (mx_Z below G P (some (.int r)) σ σ' [.ref a0, .int p1] s) (F0 m 73 ls []) := by
    intro v0 v1 v3 v2 v4 τ o hf Kb Ke0 H locs hJ ls hl
    unfold f_X12_isChain_B73 at hf
    refine lv_iload hx hb dX12_isChain_73 (lv_at hl 4 rfl) ?_
    refine lv_iload_n hx hb dX12_isChain_75 rfl (lv_at hl 1 rfl) ?_
    refine lv_icmp_ge (tgt := 140) hx hb dX12_isChain_76 (by decide) (fun c25 => ?_) (fun c25 => ?_)
    · rw [if_pos c25] at hf
      exact Ke0 v2 τ (Option.some.inj hf).symm _ _ hJ ls (lv_sub hl [0, 1, 2, 3] rfl)
    · rw [if_neg c25] at hf
      refine lv_iconst (v := 0) hx hb dX12_isChain_79 (by decide) ?_
      refine lv_istore (lv' := [(5, .int (0 : Int32)), (0, .ref v0), (1, .int v1), (2, .int v2), (3, .int v3), (4, .int v4)]) hx hb dX12_isChain_80 hl (by decide) rfl (fun ls hl => ?_)
      obtain ⟨o38, e39, hf⟩ := mb0 hf
      refine L82 v0 v1 v3 v4 (mpN P) v2 (0 : Int32) τ o38 e39 (fun y40 σ41 ho H locs hJ ls hl => ?_) _ _ hJ ls (lv_sub hl [1, 2, 3, 4, 5, 0] rfl)
      · rw [ho] at hf
        have hf : ((some (v4 + (1 : Int32))).bind fun x42 => some (.inl (y40, x42, σ41))) = some o := hf
        obtain ⟨x42, e43, hf⟩ := mb0 hf
        refine lv_iinc (v := x42) (lv' := [(4, .int x42), (0, .ref v0), (1, .int v1), (2, .int y40), (3, .int v3)]) hx hb dX12_isChain_134 hl (k := 4) rfl (by rw [← Option.some.inj e43]; rfl) (by decide) rfl (fun ls hl => ?_)
        refine lv_goto (tgt := 73) hx hb dX12_isChain_137 (by decide) ?_
        exact Kb y40 x42 σ41 (Option.some.inj hf).symm _ _ hJ ls (lv_sub hl [1, 2, 3, 4, 0] rfl)
  have L73 : ∀ (v0 : Nat) (v1 : Int32) (v3 : Int32) (n : Nat) (v2 : Int32) (v4 : Int32) (τ : mx_S) (o : (Int32 × mx_S)), mx_lp (f_X12_isChain_L73 P v0 v1 v3) n (v2, v4, τ) = some o → (∀ (y2 : Int32) (υ : mx_S), o = (y2, υ) → ∀ (H : Heap) (locs : List Loc), mx_J G P s.heap (mxz σ) (mxu σ) υ H locs → ∀ ls : Array Slot, lv_has ls 8 [(0, .ref v0), (1, .int v1), (2, .int y2), (3, .int v3)] → W p l e (mx_rm P 0 0 σ) s m ([.ref a0, .int p1] : List Value).toArray below meth c H locs (mxz υ - mxz σ) (mxu υ - mxu σ) (mx_Z below G P (some (.int r)) σ σ' [.ref a0, .int p1] s) (F0 m 140 ls [])) → ∀ (H : Heap) (locs : List Loc), mx_J G P s.heap (mxz σ) (mxu σ) τ H locs → ∀ ls : Array Slot, lv_has ls 8 [(0, .ref v0), (1, .int v1), (2, .int v2), (3, .int v3), (4, .int v4)] → W p l e (mx_rm P 0 0 σ) s m ([.ref a0, .int p1] : List Value).toArray below meth c H locs (mxz τ - mxz σ) (mxu τ - mxu σ) (mx_Z below G P (some (.int r)) σ σ' [.ref a0, .int p1] s) (F0 m 73 ls []) := by
    intro v0 v1 v3 n
    induction n with
    | zero =>
      intro v2 v4 τ o hf
      rw [mx_lp0] at hf
      cases hf
    | succ n ih =>
      intro v2 v4 τ o hf Ke0 H locs hJ ls hl
      rw [mx_lpS] at hf
      obtain ⟨b, eb, hf⟩ := mb0 hf
      refine B73 v0 v1 v3 v2 v4 τ b eb (fun y2 y4 υ ho H locs hJ ls hl => ?_) (fun y2 υ ho H locs hJ ls hl => ?_) H locs hJ ls hl
      · subst ho
        exact ih y2 y4 υ o hf Ke0 H locs hJ ls hl
      · subst ho
        exact Ke0 y2 υ (Option.some.inj hf).symm _ _ hJ ls hl
  have B65 : ∀ (v0 : Nat) (v1 : Int32) (v2 : Int32) (v3 : Int32) (τ : mx_S) (o : (Int32 × Int32 × mx_S) ⊕ ((Int32 × mx_S))), f_X12_isChain_B65 P v0 v1 v2 v3 τ = some o → (∀ (y2 : Int32) (y3 : Int32) (υ : mx_S), o = .inl (y2, y3, υ) → ∀ (H : Heap) (locs : List Loc), mx_J G P s.heap (mxz σ) (mxu σ) υ H locs → ∀ ls : Array Slot, lv_has ls 8 [(0, .ref v0), (1, .int v1), (2, .int y2), (3, .int y3)] → W p l e (mx_rm P 0 0 σ) s m ([.ref a0, .int p1] : List Value).toArray below meth c H locs (mxz υ - mxz σ) (mxu υ - mxu σ) (mx_Z below G P (some (.int r)) σ σ' [.ref a0, .int p1] s) (F0 m 65 ls [])) → (∀ (y2 : Int32) (υ : mx_S), o = .inr (y2, υ) → ∀ (H : Heap) (locs : List Loc), mx_J G P s.heap (mxz σ) (mxu σ) υ H locs → ∀ ls : Array Slot, lv_has ls 8 [(0, .ref v0), (1, .int v1), (2, .int y2)] → W p l e (mx_rm P 0 0 σ) s m ([.ref a0, .int p1] : List Value).toArray below meth c H locs (mxz υ - mxz σ) (mxu υ - mxu σ) (mx_Z below G P (some (.int r)) σ σ' [.ref a0, .int p1] s) (F0 m 146 ls [])) → ∀ (H : Heap) (locs : List Loc), mx_J G P s.heap (mxz σ) (mxu σ) τ H locs → ∀ ls : Array Slot, lv_has ls 8 [(0, .ref v0), (1, .int v1), (2, .int v2), (3, .int v3)] → W p l e (mx_rm P 0 0 σ) s m ([.ref a0, .int p1] : List Value).toArray below meth c H locs (mxz τ - mxz σ) (mxu τ - mxu σ) (mx_Z below G P (some (.int r)) σ σ' [.ref a0, .int p1] s) (F0 m 65 ls []) := by
    intro v0 v1 v2 v3 τ o hf Kb Ke0 H locs hJ ls hl
    unfold f_X12_isChain_B65 at hf
    refine lv_iload_n hx hb dX12_isChain_65 rfl (lv_at hl 3 rfl) ?_
    refine lv_iload_n hx hb dX12_isChain_66 rfl (lv_at hl 1 rfl) ?_
    refine lv_icmp_ge (tgt := 146) hx hb dX12_isChain_67 (by decide) (fun c24 => ?_) (fun c24 => ?_)
    · rw [if_pos c24] at hf
      exact Ke0 v2 τ (Option.some.inj hf).symm _ _ hJ ls (lv_sub hl [0, 1, 2] rfl)
    · rw [if_neg c24] at hf
      refine lv_iconst (v := 0) hx hb dX12_isChain_70 (by decide) ?_
      refine lv_istore (lv' := [(4, .int (0 : Int32)), (0, .ref v0), (1, .int v1), (2, .int v2), (3, .int v3)]) hx hb dX12_isChain_71 hl (by decide) rfl (fun ls hl => ?_)
      obtain ⟨o44, e45, hf⟩ := mb0 hf
      refine L73 v0 v1 v3 (mpN P) v2 (0 : Int32) τ o44 e45 (fun y46 σ47 ho H locs hJ ls hl => ?_) _ _ hJ ls (lv_sub hl [1, 2, 3, 4, 0] rfl)
      · rw [ho] at hf
        have hf : ((some (v3 + (1 : Int32))).bind fun x48 => some (.inl (y46, x48, σ47))) = some o := hf
        obtain ⟨x48, e49, hf⟩ := mb0 hf
        refine lv_iinc (v := x48) (lv' := [(3, .int x48), (0, .ref v0), (1, .int v1), (2, .int y46)]) hx hb dX12_isChain_140 hl (k := 3) rfl (by rw [← Option.some.inj e49]; rfl) (by decide) rfl (fun ls hl => ?_)
        refine lv_goto (tgt := 65) hx hb dX12_isChain_143 (by decide) ?_
        exact Kb y46 x48 σ47 (Option.some.inj hf).symm _ _ hJ ls (lv_sub hl [1, 2, 3, 0] rfl)
  have L65 : ∀ (v0 : Nat) (v1 : Int32) (n : Nat) (v2 : Int32) (v3 : Int32) (τ : mx_S) (o : (Int32 × mx_S)), mx_lp (f_X12_isChain_L65 P v0 v1) n (v2, v3, τ) = some o → (∀ (y2 : Int32) (υ : mx_S), o = (y2, υ) → ∀ (H : Heap) (locs : List Loc), mx_J G P s.heap (mxz σ) (mxu σ) υ H locs → ∀ ls : Array Slot, lv_has ls 8 [(0, .ref v0), (1, .int v1), (2, .int y2)] → W p l e (mx_rm P 0 0 σ) s m ([.ref a0, .int p1] : List Value).toArray below meth c H locs (mxz υ - mxz σ) (mxu υ - mxu σ) (mx_Z below G P (some (.int r)) σ σ' [.ref a0, .int p1] s) (F0 m 146 ls [])) → ∀ (H : Heap) (locs : List Loc), mx_J G P s.heap (mxz σ) (mxu σ) τ H locs → ∀ ls : Array Slot, lv_has ls 8 [(0, .ref v0), (1, .int v1), (2, .int v2), (3, .int v3)] → W p l e (mx_rm P 0 0 σ) s m ([.ref a0, .int p1] : List Value).toArray below meth c H locs (mxz τ - mxz σ) (mxu τ - mxu σ) (mx_Z below G P (some (.int r)) σ σ' [.ref a0, .int p1] s) (F0 m 65 ls []) := by
    intro v0 v1 n
    induction n with
    | zero =>
      intro v2 v3 τ o hf
      rw [mx_lp0] at hf
      cases hf
    | succ n ih =>
      intro v2 v3 τ o hf Ke0 H locs hJ ls hl
      rw [mx_lpS] at hf
      obtain ⟨b, eb, hf⟩ := mb0 hf
      refine B65 v0 v1 v2 v3 τ b eb (fun y2 y3 υ ho H locs hJ ls hl => ?_) (fun y2 υ ho H locs hJ ls hl => ?_) H locs hJ ls hl
      · subst ho
        exact ih y2 y3 υ o hf Ke0 H locs hJ ls hl
      · subst ho
        exact Ke0 y2 υ (Option.some.inj hf).symm _ _ hJ ls hl
  have D237_201 : ∀ (v0 : Nat) (v1 : Int32) (v3 : Int32) (v4 : Int32) (v5 : Int32) (v6 : Int32) (v7 : Int32) (τ : mx_S) (o : (Int32 × Int32 × mx_S) ⊕ ((Int32 × mx_S))), f_X12_isChain_D237_201 P v0 v1 v3 v4 v5 v6 v7 τ = some o → (∀ (y5 : Int32) (y7 : Int32) (υ : mx_S), o = .inl (y5, y7, υ) → ∀ (H : Heap) (locs : List Loc), mx_J G P s.heap (mxz σ) (mxu σ) υ H locs → ∀ ls : Array Slot, lv_has ls 8 [(0, .ref v0), (1, .int v1), (3, .int v3), (4, .int v4), (5, .int y5), (6, .int v6), (7, .int y7)] → W p l e (mx_rm P 0 0 σ) s m ([.ref a0, .int p1] : List Value).toArray below meth c H locs (mxz υ - mxz σ) (mxu υ - mxu σ) (mx_Z below G P (some (.int r)) σ σ' [.ref a0, .int p1] s) (F0 m 201 ls [])) → (∀ (y5 : Int32) (υ : mx_S), o = .inr (y5, υ) → ∀ (H : Heap) (locs : List Loc), mx_J G P s.heap (mxz σ) (mxu σ) υ H locs → ∀ ls : Array Slot, lv_has ls 8 [(0, .ref v0), (1, .int v1), (3, .int v3), (4, .int v4), (5, .int y5), (6, .int v6)] → W p l e (mx_rm P 0 0 σ) s m ([.ref a0, .int p1] : List Value).toArray below meth c H locs (mxz υ - mxz σ) (mxu υ - mxu σ) (mx_Z below G P (some (.int r)) σ σ' [.ref a0, .int p1] s) (F0 m 243 ls [])) → ∀ (H : Heap) (locs : List Loc), mx_J G P s.heap (mxz σ) (mxu σ) τ H locs → ∀ ls : Array Slot, lv_has ls 8 [(0, .ref v0), (1, .int v1), (3, .int v3), (4, .int v4), (5, .int v5), (6, .int v6), (7, .int v7)] → W p l e (mx_rm P 0 0 σ) s m ([.ref a0, .int p1] : List Value).toArray below meth c H locs (mxz τ - mxz σ) (mxu τ - mxu σ) (mx_Z below G P (some (.int r)) σ σ' [.ref a0, .int p1] s) (F0 m 237 ls []) := by
    intro v0 v1 v3 v4 v5 v6 v7 τ o hf Kb Ke0 H locs hJ ls hl
    unfold f_X12_isChain_D237_201 at hf
    obtain ⟨x62, e63, hf⟩ := mb0 hf
    refine lv_iinc (v := x62) (lv' := [(7, .int x62), (0, .ref v0), (1, .int v1), (3, .int v3), (4, .int v4), (5, .int v5), (6, .int v6)]) hx hb dX12_isChain_237 hl (k := 6) rfl (by rw [← Option.some.inj e63]; rfl) (by decide) rfl (fun ls hl => ?_)
    refine lv_goto (tgt := 201) hx hb dX12_isChain_240 (by decide) ?_
    exact Kb v5 x62 τ (Option.some.inj hf).symm _ _ hJ ls (lv_sub hl [1, 2, 3, 4, 5, 6, 0] rfl)
  have B201 : ∀ (v0 : Nat) (v1 : Int32) (v3 : Int32) (v4 : Int32) (v6 : Int32) (v5 : Int32) (v7 : Int32) (τ : mx_S) (o : (Int32 × Int32 × mx_S) ⊕ ((Int32 × mx_S))), f_X12_isChain_B201 P v0 v1 v3 v4 v6 v5 v7 τ = some o → (∀ (y5 : Int32) (y7 : Int32) (υ : mx_S), o = .inl (y5, y7, υ) → ∀ (H : Heap) (locs : List Loc), mx_J G P s.heap (mxz σ) (mxu σ) υ H locs → ∀ ls : Array Slot, lv_has ls 8 [(0, .ref v0), (1, .int v1), (3, .int v3), (4, .int v4), (5, .int y5), (6, .int v6), (7, .int y7)] → W p l e (mx_rm P 0 0 σ) s m ([.ref a0, .int p1] : List Value).toArray below meth c H locs (mxz υ - mxz σ) (mxu υ - mxu σ) (mx_Z below G P (some (.int r)) σ σ' [.ref a0, .int p1] s) (F0 m 201 ls [])) → (∀ (y5 : Int32) (υ : mx_S), o = .inr (y5, υ) → ∀ (H : Heap) (locs : List Loc), mx_J G P s.heap (mxz σ) (mxu σ) υ H locs → ∀ ls : Array Slot, lv_has ls 8 [(0, .ref v0), (1, .int v1), (3, .int v3), (4, .int v4), (5, .int y5), (6, .int v6)] → W p l e (mx_rm P 0 0 σ) s m ([.ref a0, .int p1] : List Value).toArray below meth c H locs (mxz υ - mxz σ) (mxu υ - mxu σ) (mx_Z below G P (some (.int r)) σ σ' [.ref a0, .int p1] s) (F0 m 243 ls [])) → ∀ (H : Heap) (locs : List Loc), mx_J G P s.heap (mxz σ) (mxu σ) τ H locs → ∀ ls : Array Slot, lv_has ls 8 [(0, .ref v0), (1, .int v1), (3, .int v3), (4, .int v4), (5, .int v5), (6, .int v6), (7, .int v7)] → W p l e (mx_rm P 0 0 σ) s m ([.ref a0, .int p1] : List Value).toArray below meth c H locs (mxz τ - mxz σ) (mxu τ - mxu σ) (mx_Z below G P (some (.int r)) σ σ' [.ref a0, .int p1] s) (F0 m 201 ls []) := by
    intro v0 v1 v3 v4 v6 v5 v7 τ o hf Kb Ke0 H locs hJ ls hl
    unfold f_X12_isChain_B201 at hf
    refine lv_iload hx hb dX12_isChain_201 (lv_at hl 6 rfl) ?_
    refine lv_iload hx hb dX12_isChain_203 (lv_at hl 5 rfl) ?_
    refine lv_icmp_ge (tgt := 243) hx hb dX12_isChain_205 (by decide) (fun c60 => ?_) (fun c60 => ?_)
    · rw [if_pos c60] at hf
      exact Ke0 v5 τ (Option.some.inj hf).symm _ _ hJ ls (lv_sub hl [0, 1, 2, 3, 4, 5] rfl)
    · rw [if_neg c60] at hf
      refine lv_iload_n hx hb dX12_isChain_208 rfl (lv_at hl 2 rfl) ?_
      refine lv_iload hx hb dX12_isChain_209 (lv_at hl 6 rfl) ?_
      refine lv_ishr hx hb dX12_isChain_211 ?_
      refine lv_iconst (v := 1) hx hb dX12_isChain_212 (by decide) ?_
      refine lv_iand hx hb dX12_isChain_213 ?_
      refine lv_iconst (v := 1) hx hb dX12_isChain_214 (by decide) ?_
      refine lv_icmp_ne (tgt := 237) hx hb dX12_isChain_215 (by decide) (fun c61 => ?_) (fun c61 => ?_)
      · rw [if_neg c61] at hf
        exact D237_201 v0 v1 v3 v4 v5 v6 v7 τ o hf Kb Ke0 _ _ hJ ls (lv_sub hl [0, 1, 2, 3, 4, 5, 6] rfl)
      · rw [if_pos c61] at hf
        refine lv_aload_n hx hb dX12_isChain_218 rfl (lv_at hl 0 rfl) ?_
        obtain ⟨b64, e65, hf⟩ := mb0 hf
        refine my_gR hx hb hts hown hK hJ fd_RX12_198 hv_12_93 e65 dX12_isChain_219 ?_
        refine lv_bipush (v := 6) hx hb dX12_isChain_222 (by decide) ?_
        refine lv_iload hx hb dX12_isChain_224 (lv_at hl 5 rfl) ?_
        refine lv_imul hx hb dX12_isChain_226 ?_
        refine lv_iload hx hb dX12_isChain_227 (lv_at hl 6 rfl) ?_
        refine lv_iadd hx hb dX12_isChain_229 ?_
        obtain ⟨x66, e67, hf⟩ := mb0 hf
        refine mx_aZ hx hb hK hJ e67 dX12_isChain_230 ?_
        refine lv_if_eq (tgt := 237) hx hb dX12_isChain_231 (by decide) (fun c68 => ?_) (fun c68 => ?_)
        · rw [if_pos c68] at hf
          exact D237_201 v0 v1 v3 v4 v5 v6 v7 τ o hf Kb Ke0 _ _ hJ ls (lv_sub hl [0, 1, 2, 3, 4, 5, 6] rfl)
        · rw [if_neg c68] at hf
          obtain ⟨x69, e70, hf⟩ := mb0 hf
          refine lv_iinc (v := x69) (lv' := [(5, .int x69), (0, .ref v0), (1, .int v1), (3, .int v3), (4, .int v4), (6, .int v6), (7, .int v7)]) hx hb dX12_isChain_234 hl (k := 4) rfl (by rw [← Option.some.inj e70]; rfl) (by decide) rfl (fun ls hl => ?_)
          exact D237_201 v0 v1 v3 v4 x69 v6 v7 τ o hf Kb Ke0 _ _ hJ ls (lv_sub hl [1, 2, 3, 4, 0, 5, 6] rfl)
  have L201 : ∀ (v0 : Nat) (v1 : Int32) (v3 : Int32) (v4 : Int32) (v6 : Int32) (n : Nat) (v5 : Int32) (v7 : Int32) (τ : mx_S) (o : (Int32 × mx_S)), mx_lp (f_X12_isChain_L201 P v0 v1 v3 v4 v6) n (v5, v7, τ) = some o → (∀ (y5 : Int32) (υ : mx_S), o = (y5, υ) → ∀ (H : Heap) (locs : List Loc), mx_J G P s.heap (mxz σ) (mxu σ) υ H locs → ∀ ls : Array Slot, lv_has ls 8 [(0, .ref v0), (1, .int v1), (3, .int v3), (4, .int v4), (5, .int y5), (6, .int v6)] → W p l e (mx_rm P 0 0 σ) s m ([.ref a0, .int p1] : List Value).toArray below meth c H locs (mxz υ - mxz σ) (mxu υ - mxu σ) (mx_Z below G P (some (.int r)) σ σ' [.ref a0, .int p1] s) (F0 m 243 ls [])) → ∀ (H : Heap) (locs : List Loc), mx_J G P s.heap (mxz σ) (mxu σ) τ H locs → ∀ ls : Array Slot, lv_has ls 8 [(0, .ref v0), (1, .int v1), (3, .int v3), (4, .int v4), (5, .int v5), (6, .int v6), (7, .int v7)] → W p l e (mx_rm P 0 0 σ) s m ([.ref a0, .int p1] : List Value).toArray below meth c H locs (mxz τ - mxz σ) (mxu τ - mxu σ) (mx_Z below G P (some (.int r)) σ σ' [.ref a0, .int p1] s) (F0 m 201 ls []) := by
    intro v0 v1 v3 v4 v6 n
    induction n with
    | zero =>
      intro v5 v7 τ o hf
      rw [mx_lp0] at hf
      cases hf
    | succ n ih =>
      intro v5 v7 τ o hf Ke0 H locs hJ ls hl
      rw [mx_lpS] at hf
      obtain ⟨b, eb, hf⟩ := mb0 hf
      refine B201 v0 v1 v3 v4 v6 v5 v7 τ b eb (fun y5 y7 υ ho H locs hJ ls hl => ?_) (fun y5 υ ho H locs hJ ls hl => ?_) H locs hJ ls hl
      · subst ho
        exact ih y5 y7 υ o hf Ke0 H locs hJ ls hl
      · subst ho
        exact Ke0 y5 υ (Option.some.inj hf).symm _ _ hJ ls hl
  have D243_177 : ∀ (v0 : Nat) (v1 : Int32) (v3 : Int32) (v4 : Int32) (v5 : Int32) (v6 : Int32) (τ : mx_S) (o : (Int32 × Int32 × Int32 × mx_S) ⊕ ((Int32 × Int32 × mx_S))), f_X12_isChain_D243_177 P v0 v1 v3 v4 v5 v6 τ = some o → (∀ (y4 : Int32) (y5 : Int32) (y6 : Int32) (υ : mx_S), o = .inl (y4, y5, y6, υ) → ∀ (H : Heap) (locs : List Loc), mx_J G P s.heap (mxz σ) (mxu σ) υ H locs → ∀ ls : Array Slot, lv_has ls 8 [(0, .ref v0), (1, .int v1), (3, .int v3), (4, .int y4), (5, .int y5), (6, .int y6)] → W p l e (mx_rm P 0 0 σ) s m ([.ref a0, .int p1] : List Value).toArray below meth c H locs (mxz υ - mxz σ) (mxu υ - mxu σ) (mx_Z below G P (some (.int r)) σ σ' [.ref a0, .int p1] s) (F0 m 177 ls [])) → (∀ (y4 : Int32) (y5 : Int32) (υ : mx_S), o = .inr (y4, y5, υ) → ∀ (H : Heap) (locs : List Loc), mx_J G P s.heap (mxz σ) (mxu σ) υ H locs → ∀ ls : Array Slot, lv_has ls 8 [(0, .ref v0), (1, .int v1), (3, .int v3), (4, .int y4), (5, .int y5)] → W p l e (mx_rm P 0 0 σ) s m ([.ref a0, .int p1] : List Value).toArray below meth c H locs (mxz υ - mxz σ) (mxu υ - mxu σ) (mx_Z below G P (some (.int r)) σ σ' [.ref a0, .int p1] s) (F0 m 249 ls [])) → ∀ (H : Heap) (locs : List Loc), mx_J G P s.heap (mxz σ) (mxu σ) τ H locs → ∀ ls : Array Slot, lv_has ls 8 [(0, .ref v0), (1, .int v1), (3, .int v3), (4, .int v4), (5, .int v5), (6, .int v6)] → W p l e (mx_rm P 0 0 σ) s m ([.ref a0, .int p1] : List Value).toArray below meth c H locs (mxz τ - mxz σ) (mxu τ - mxu σ) (mx_Z below G P (some (.int r)) σ σ' [.ref a0, .int p1] s) (F0 m 243 ls []) := by
    intro v0 v1 v3 v4 v5 v6 τ o hf Kb Ke0 H locs hJ ls hl
    unfold f_X12_isChain_D243_177 at hf
    obtain ⟨x75, e76, hf⟩ := mb0 hf
    refine lv_iinc (v := x75) (lv' := [(6, .int x75), (0, .ref v0), (1, .int v1), (3, .int v3), (4, .int v4), (5, .int v5)]) hx hb dX12_isChain_243 hl (k := 5) rfl (by rw [← Option.some.inj e76]; rfl) (by decide) rfl (fun ls hl => ?_)
    refine lv_goto (tgt := 177) hx hb dX12_isChain_246 (by decide) ?_
    exact Kb v4 v5 x75 τ (Option.some.inj hf).symm _ _ hJ ls (lv_sub hl [1, 2, 3, 4, 5, 0] rfl)
  have B177 : ∀ (v0 : Nat) (v1 : Int32) (v3 : Int32) (v4 : Int32) (v5 : Int32) (v6 : Int32) (τ : mx_S) (o : (Int32 × Int32 × Int32 × mx_S) ⊕ ((Int32 × Int32 × mx_S))), f_X12_isChain_B177 P v0 v1 v3 v4 v5 v6 τ = some o → (∀ (y4 : Int32) (y5 : Int32) (y6 : Int32) (υ : mx_S), o = .inl (y4, y5, y6, υ) → ∀ (H : Heap) (locs : List Loc), mx_J G P s.heap (mxz σ) (mxu σ) υ H locs → ∀ ls : Array Slot, lv_has ls 8 [(0, .ref v0), (1, .int v1), (3, .int v3), (4, .int y4), (5, .int y5), (6, .int y6)] → W p l e (mx_rm P 0 0 σ) s m ([.ref a0, .int p1] : List Value).toArray below meth c H locs (mxz υ - mxz σ) (mxu υ - mxu σ) (mx_Z below G P (some (.int r)) σ σ' [.ref a0, .int p1] s) (F0 m 177 ls [])) → (∀ (y4 : Int32) (y5 : Int32) (υ : mx_S), o = .inr (y4, y5, υ) → ∀ (H : Heap) (locs : List Loc), mx_J G P s.heap (mxz σ) (mxu σ) υ H locs → ∀ ls : Array Slot, lv_has ls 8 [(0, .ref v0), (1, .int v1), (3, .int v3), (4, .int y4), (5, .int y5)] → W p l e (mx_rm P 0 0 σ) s m ([.ref a0, .int p1] : List Value).toArray below meth c H locs (mxz υ - mxz σ) (mxu υ - mxu σ) (mx_Z below G P (some (.int r)) σ σ' [.ref a0, .int p1] s) (F0 m 249 ls [])) → ∀ (H : Heap) (locs : List Loc), mx_J G P s.heap (mxz σ) (mxu σ) τ H locs → ∀ ls : Array Slot, lv_has ls 8 [(0, .ref v0), (1, .int v1), (3, .int v3), (4, .int v4), (5, .int v5), (6, .int v6)] → W p l e (mx_rm P 0 0 σ) s m ([.ref a0, .int p1] : List Value).toArray below meth c H locs (mxz τ - mxz σ) (mxu τ - mxu σ) (mx_Z below G P (some (.int r)) σ σ' [.ref a0, .int p1] s) (F0 m 177 ls []) := by
    intro v0 v1 v3 v4 v5 v6 τ o hf Kb Ke0 H locs hJ ls hl
    unfold f_X12_isChain_B177 at hf
    refine lv_iload hx hb dX12_isChain_177 (lv_at hl 5 rfl) ?_
    refine lv_iload_n hx hb dX12_isChain_179 rfl (lv_at hl 1 rfl) ?_
    refine lv_icmp_ge (tgt := 249) hx hb dX12_isChain_180 (by decide) (fun c56 => ?_) (fun c56 => ?_)
    · rw [if_pos c56] at hf
      exact Ke0 v4 v5 τ (Option.some.inj hf).symm _ _ hJ ls (lv_sub hl [0, 1, 2, 3, 4] rfl)
    · rw [if_neg c56] at hf
      refine lv_iload_n hx hb dX12_isChain_183 rfl (lv_at hl 2 rfl) ?_
      refine lv_iload hx hb dX12_isChain_184 (lv_at hl 5 rfl) ?_
      refine lv_ishr hx hb dX12_isChain_186 ?_
      refine lv_iconst (v := 1) hx hb dX12_isChain_187 (by decide) ?_
      refine lv_iand hx hb dX12_isChain_188 ?_
      refine lv_if_ne (tgt := 195) hx hb dX12_isChain_189 (by decide) (fun c57 => ?_) (fun c57 => ?_)
      · rw [if_neg c57] at hf
        obtain ⟨x58, e59, hf⟩ := mb0 hf
        refine lv_iinc (v := x58) (lv' := [(4, .int x58), (0, .ref v0), (1, .int v1), (3, .int v3), (5, .int v5), (6, .int v6)]) hx hb dX12_isChain_195 hl (k := 3) rfl (by rw [← Option.some.inj e59]; rfl) (by decide) rfl (fun ls hl => ?_)
        refine lv_iconst (v := 0) hx hb dX12_isChain_198 (by decide) ?_
        refine lv_istore (lv' := [(7, .int (0 : Int32)), (4, .int x58), (0, .ref v0), (1, .int v1), (3, .int v3), (5, .int v5), (6, .int v6)]) hx hb dX12_isChain_199 hl (by decide) rfl (fun ls hl => ?_)
        obtain ⟨o71, e72, hf⟩ := mb0 hf
        refine L201 v0 v1 v3 x58 v6 (mpN P) v5 (0 : Int32) τ o71 e72 (fun y73 σ74 ho H locs hJ ls hl => ?_) _ _ hJ ls (lv_sub hl [2, 3, 4, 1, 5, 6, 0] rfl)
        · rw [ho] at hf
          have hf : (f_X12_isChain_D243_177 P v0 v1 v3 x58 y73 v6 σ74) = some o := hf
          exact D243_177 v0 v1 v3 x58 y73 v6 σ74 o hf Kb Ke0 _ _ hJ ls (lv_sub hl [0, 1, 2, 3, 4, 5] rfl)
      · rw [if_pos c57] at hf
        refine lv_goto (tgt := 243) hx hb dX12_isChain_192 (by decide) ?_
        exact D243_177 v0 v1 v3 v4 v5 v6 τ o hf Kb Ke0 _ _ hJ ls (lv_sub hl [0, 1, 2, 3, 4, 5] rfl)
  have L177 : ∀ (v0 : Nat) (v1 : Int32) (v3 : Int32) (n : Nat) (v4 : Int32) (v5 : Int32) (v6 : Int32) (τ : mx_S) (o : (Int32 × Int32 × mx_S)), mx_lp (f_X12_isChain_L177 P v0 v1 v3) n (v4, v5, v6, τ) = some o → (∀ (y4 : Int32) (y5 : Int32) (υ : mx_S), o = (y4, y5, υ) → ∀ (H : Heap) (locs : List Loc), mx_J G P s.heap (mxz σ) (mxu σ) υ H locs → ∀ ls : Array Slot, lv_has ls 8 [(0, .ref v0), (1, .int v1), (3, .int v3), (4, .int y4), (5, .int y5)] → W p l e (mx_rm P 0 0 σ) s m ([.ref a0, .int p1] : List Value).toArray below meth c H locs (mxz υ - mxz σ) (mxu υ - mxu σ) (mx_Z below G P (some (.int r)) σ σ' [.ref a0, .int p1] s) (F0 m 249 ls [])) → ∀ (H : Heap) (locs : List Loc), mx_J G P s.heap (mxz σ) (mxu σ) τ H locs → ∀ ls : Array Slot, lv_has ls 8 [(0, .ref v0), (1, .int v1), (3, .int v3), (4, .int v4), (5, .int v5), (6, .int v6)] → W p l e (mx_rm P 0 0 σ) s m ([.ref a0, .int p1] : List Value).toArray below meth c H locs (mxz τ - mxz σ) (mxu τ - mxu σ) (mx_Z below G P (some (.int r)) σ σ' [.ref a0, .int p1] s) (F0 m 177 ls []) := by
    intro v0 v1 v3 n
    induction n with
    | zero =>
      intro v4 v5 v6 τ o hf
      rw [mx_lp0] at hf
      cases hf
    | succ n ih =>
      intro v4 v5 v6 τ o hf Ke0 H locs hJ ls hl
      rw [mx_lpS] at hf
      obtain ⟨b, eb, hf⟩ := mb0 hf
      refine B177 v0 v1 v3 v4 v5 v6 τ b eb (fun y4 y5 y6 υ ho H locs hJ ls hl => ?_) (fun y4 y5 υ ho H locs hJ ls hl => ?_) H locs hJ ls hl
      · subst ho
        exact ih y4 y5 y6 υ o hf Ke0 H locs hJ ls hl
      · subst ho
        exact Ke0 y4 y5 υ (Option.some.inj hf).symm _ _ hJ ls hl
  have D270_159 : ∀ (v0 : Nat) (v1 : Int32) (v3 : Int32) (τ : mx_S) (o : (Int32 × mx_S) ⊕ ((mx_S) ⊕ (mx_S))), f_X12_isChain_D270_159 P v0 v1 v3 τ = some o → (∀ (y3 : Int32) (υ : mx_S), o = .inl (y3, υ) → ∀ (H : Heap) (locs : List Loc), mx_J G P s.heap (mxz σ) (mxu σ) υ H locs → ∀ ls : Array Slot, lv_has ls 8 [(0, .ref v0), (1, .int v1), (3, .int y3)] → W p l e (mx_rm P 0 0 σ) s m ([.ref a0, .int p1] : List Value).toArray below meth c H locs (mxz υ - mxz σ) (mxu υ - mxu σ) (mx_Z below G P (some (.int r)) σ σ' [.ref a0, .int p1] s) (F0 m 159 ls [])) → (∀  (υ : mx_S), o = .inr (.inl υ) → ∀ (H : Heap) (locs : List Loc), mx_J G P s.heap (mxz σ) (mxu σ) υ H locs → ∀ ls : Array Slot, lv_has ls 8 [] → W p l e (mx_rm P 0 0 σ) s m ([.ref a0, .int p1] : List Value).toArray below meth c H locs (mxz υ - mxz σ) (mxu υ - mxu σ) (mx_Z below G P (some (.int r)) σ σ' [.ref a0, .int p1] s) (F0 m 268 ls [])) → (∀  (υ : mx_S), o = .inr (.inr υ) → ∀ (H : Heap) (locs : List Loc), mx_J G P s.heap (mxz σ) (mxu σ) υ H locs → ∀ ls : Array Slot, lv_has ls 8 [] → W p l e (mx_rm P 0 0 σ) s m ([.ref a0, .int p1] : List Value).toArray below meth c H locs (mxz υ - mxz σ) (mxu υ - mxu σ) (mx_Z below G P (some (.int r)) σ σ' [.ref a0, .int p1] s) (F0 m 276 ls [])) → ∀ (H : Heap) (locs : List Loc), mx_J G P s.heap (mxz σ) (mxu σ) τ H locs → ∀ ls : Array Slot, lv_has ls 8 [(0, .ref v0), (1, .int v1), (3, .int v3)] → W p l e (mx_rm P 0 0 σ) s m ([.ref a0, .int p1] : List Value).toArray below meth c H locs (mxz τ - mxz σ) (mxu τ - mxu σ) (mx_Z below G P (some (.int r)) σ σ' [.ref a0, .int p1] s) (F0 m 270 ls []) := by
    intro v0 v1 v3 τ o hf Kb Ke0 Ke1 H locs hJ ls hl
    unfold f_X12_isChain_D270_159 at hf
    obtain ⟨x83, e84, hf⟩ := mb0 hf
    refine lv_iinc (v := x83) (lv' := [(3, .int x83), (0, .ref v0), (1, .int v1)]) hx hb dX12_isChain_270 hl (k := 2) rfl (by rw [← Option.some.inj e84]; rfl) (by decide) rfl (fun ls hl => ?_)
    refine lv_goto (tgt := 159) hx hb dX12_isChain_273 (by decide) ?_
    exact Kb x83 τ (Option.some.inj hf).symm _ _ hJ ls (lv_sub hl [1, 2, 0] rfl)
  have B159 : ∀ (v0 : Nat) (v1 : Int32) (v3 : Int32) (τ : mx_S) (o : (Int32 × mx_S) ⊕ ((mx_S) ⊕ (mx_S))), f_X12_isChain_B159 P v0 v1 v3 τ = some o → (∀ (y3 : Int32) (υ : mx_S), o = .inl (y3, υ) → ∀ (H : Heap) (locs : List Loc), mx_J G P s.heap (mxz σ) (mxu σ) υ H locs → ∀ ls : Array Slot, lv_has ls 8 [(0, .ref v0), (1, .int v1), (3, .int y3)] → W p l e (mx_rm P 0 0 σ) s m ([.ref a0, .int p1] : List Value).toArray below meth c H locs (mxz υ - mxz σ) (mxu υ - mxu σ) (mx_Z below G P (some (.int r)) σ σ' [.ref a0, .int p1] s) (F0 m 159 ls [])) → (∀  (υ : mx_S), o = .inr (.inl υ) → ∀ (H : Heap) (locs : List Loc), mx_J G P s.heap (mxz σ) (mxu σ) υ H locs → ∀ ls : Array Slot, lv_has ls 8 [] → W p l e (mx_rm P 0 0 σ) s m ([.ref a0, .int p1] : List Value).toArray below meth c H locs (mxz υ - mxz σ) (mxu υ - mxu σ) (mx_Z below G P (some (.int r)) σ σ' [.ref a0, .int p1] s) (F0 m 268 ls [])) → (∀  (υ : mx_S), o = .inr (.inr υ) → ∀ (H : Heap) (locs : List Loc), mx_J G P s.heap (mxz σ) (mxu σ) υ H locs → ∀ ls : Array Slot, lv_has ls 8 [] → W p l e (mx_rm P 0 0 σ) s m ([.ref a0, .int p1] : List Value).toArray below meth c H locs (mxz υ - mxz σ) (mxu υ - mxu σ) (mx_Z below G P (some (.int r)) σ σ' [.ref a0, .int p1] s) (F0 m 276 ls [])) → ∀ (H : Heap) (locs : List Loc), mx_J G P s.heap (mxz σ) (mxu σ) τ H locs → ∀ ls : Array Slot, lv_has ls 8 [(0, .ref v0), (1, .int v1), (3, .int v3)] → W p l e (mx_rm P 0 0 σ) s m ([.ref a0, .int p1] : List Value).toArray below meth c H locs (mxz τ - mxz σ) (mxu τ - mxu σ) (mx_Z below G P (some (.int r)) σ σ' [.ref a0, .int p1] s) (F0 m 159 ls []) := by
    intro v0 v1 v3 τ o hf Kb Ke0 Ke1 H locs hJ ls hl
    unfold f_X12_isChain_B159 at hf
    refine lv_iload_n hx hb dX12_isChain_159 rfl (lv_at hl 2 rfl) ?_
    refine lv_iconst (v := 1) hx hb dX12_isChain_160 (by decide) ?_
    refine lv_iload_n hx hb dX12_isChain_161 rfl (lv_at hl 1 rfl) ?_
    refine lv_ishl hx hb dX12_isChain_162 ?_
    refine lv_iconst (v := 1) hx hb dX12_isChain_163 (by decide) ?_
    refine lv_isub hx hb dX12_isChain_164 ?_
    refine lv_icmp_ge (tgt := 276) hx hb dX12_isChain_165 (by decide) (fun c55 => ?_) (fun c55 => ?_)
    · rw [if_pos c55] at hf
      exact Ke1 τ (Option.some.inj hf).symm _ _ hJ ls (lv_sub hl [] rfl)
    · rw [if_neg c55] at hf
      refine lv_iconst (v := 0) hx hb dX12_isChain_168 (by decide) ?_
      refine lv_istore (lv' := [(4, .int (0 : Int32)), (0, .ref v0), (1, .int v1), (3, .int v3)]) hx hb dX12_isChain_169 hl (by decide) rfl (fun ls hl => ?_)
      refine lv_iconst (v := 0) hx hb dX12_isChain_171 (by decide) ?_
      refine lv_istore (lv' := [(5, .int (0 : Int32)), (4, .int (0 : Int32)), (0, .ref v0), (1, .int v1), (3, .int v3)]) hx hb dX12_isChain_172 hl (by decide) rfl (fun ls hl => ?_)
      refine lv_iconst (v := 0) hx hb dX12_isChain_174 (by decide) ?_
      refine lv_istore (lv' := [(6, .int (0 : Int32)), (5, .int (0 : Int32)), (4, .int (0 : Int32)), (0, .ref v0), (1, .int v1), (3, .int v3)]) hx hb dX12_isChain_175 hl (by decide) rfl (fun ls hl => ?_)
      obtain ⟨o77, e78, hf⟩ := mb0 hf
      refine L177 v0 v1 v3 (mpN P) (0 : Int32) (0 : Int32) (0 : Int32) τ o77 e78 (fun y79 y80 σ81 ho H locs hJ ls hl => ?_) _ _ hJ ls (lv_sub hl [3, 4, 5, 2, 1, 0] rfl)
      · rw [ho] at hf
        have hf : ((if y79 ≤ (1 : Int32) then f_X12_isChain_D270_159 P v0 v1 v3 σ81 else (md_I (((3 : Int32) * y79) - (3 : Int32)) (2 : Int32)).bind fun x85 => (if y80 ≤ x85 then f_X12_isChain_D270_159 P v0 v1 v3 σ81 else some (.inr (.inl σ81))))) = some o := hf
        refine lv_iload hx hb dX12_isChain_249 (lv_at hl 3 rfl) ?_
        refine lv_iconst (v := 1) hx hb dX12_isChain_251 (by decide) ?_
        refine lv_icmp_le (tgt := 270) hx hb dX12_isChain_252 (by decide) (fun c82 => ?_) (fun c82 => ?_)
        · rw [if_pos c82] at hf
          exact D270_159 v0 v1 v3 σ81 o hf Kb Ke0 Ke1 _ _ hJ ls (lv_sub hl [0, 1, 2] rfl)
        · rw [if_neg c82] at hf
          refine lv_iload hx hb dX12_isChain_255 (lv_at hl 4 rfl) ?_
          refine lv_iconst (v := 3) hx hb dX12_isChain_257 (by decide) ?_
          refine lv_iload hx hb dX12_isChain_258 (lv_at hl 3 rfl) ?_
          refine lv_imul hx hb dX12_isChain_260 ?_
          refine lv_iconst (v := 3) hx hb dX12_isChain_261 (by decide) ?_
          refine lv_isub hx hb dX12_isChain_262 ?_
          refine lv_iconst (v := 2) hx hb dX12_isChain_263 (by decide) ?_
          obtain ⟨x85, e86, hf⟩ := mb0 hf
          refine lv_idiv hx hb dX12_isChain_264 (md_Is e86).1 ?_
          refine mx_eI (md_Is e86).2 ?_
          refine lv_icmp_le (tgt := 270) hx hb dX12_isChain_265 (by decide) (fun c87 => ?_) (fun c87 => ?_)
          · rw [if_pos c87] at hf
            exact D270_159 v0 v1 v3 σ81 o hf Kb Ke0 Ke1 _ _ hJ ls (lv_sub hl [0, 1, 2] rfl)
          · rw [if_neg c87] at hf
            exact Ke0 σ81 (Option.some.inj hf).symm _ _ hJ ls (lv_sub hl [] rfl)
  have L159 : ∀ (v0 : Nat) (v1 : Int32) (n : Nat) (v3 : Int32) (τ : mx_S) (o : (mx_S) ⊕ (mx_S)), mx_lp (f_X12_isChain_L159 P v0 v1) n (v3, τ) = some o → (∀  (υ : mx_S), o = (.inl υ) → ∀ (H : Heap) (locs : List Loc), mx_J G P s.heap (mxz σ) (mxu σ) υ H locs → ∀ ls : Array Slot, lv_has ls 8 [] → W p l e (mx_rm P 0 0 σ) s m ([.ref a0, .int p1] : List Value).toArray below meth c H locs (mxz υ - mxz σ) (mxu υ - mxu σ) (mx_Z below G P (some (.int r)) σ σ' [.ref a0, .int p1] s) (F0 m 268 ls [])) → (∀  (υ : mx_S), o = (.inr υ) → ∀ (H : Heap) (locs : List Loc), mx_J G P s.heap (mxz σ) (mxu σ) υ H locs → ∀ ls : Array Slot, lv_has ls 8 [] → W p l e (mx_rm P 0 0 σ) s m ([.ref a0, .int p1] : List Value).toArray below meth c H locs (mxz υ - mxz σ) (mxu υ - mxu σ) (mx_Z below G P (some (.int r)) σ σ' [.ref a0, .int p1] s) (F0 m 276 ls [])) → ∀ (H : Heap) (locs : List Loc), mx_J G P s.heap (mxz σ) (mxu σ) τ H locs → ∀ ls : Array Slot, lv_has ls 8 [(0, .ref v0), (1, .int v1), (3, .int v3)] → W p l e (mx_rm P 0 0 σ) s m ([.ref a0, .int p1] : List Value).toArray below meth c H locs (mxz τ - mxz σ) (mxu τ - mxu σ) (mx_Z below G P (some (.int r)) σ σ' [.ref a0, .int p1] s) (F0 m 159 ls []) := by
    intro v0 v1 n
    induction n with
    | zero =>
      intro v3 τ o hf
      rw [mx_lp0] at hf
      cases hf
    | succ n ih =>
      intro v3 τ o hf Ke0 Ke1 H locs hJ ls hl
      rw [mx_lpS] at hf
      obtain ⟨b, eb, hf⟩ := mb0 hf
      refine B159 v0 v1 v3 τ b eb (fun y3 υ ho H locs hJ ls hl => ?_) (fun  υ ho H locs hJ ls hl => ?_) (fun  υ ho H locs hJ ls hl => ?_) H locs hJ ls hl
      · subst ho
        exact ih y3 υ o hf Ke0 Ke1 H locs hJ ls hl
      · subst ho
        exact Ke0  υ (Option.some.inj hf).symm _ _ hJ ls hl
      · subst ho
        exact Ke1  υ (Option.some.inj hf).symm _ _ hJ ls hl
  unfold f_X12_isChain at hf
  refine lv_iconst (v := 0) hx hb dX12_isChain_0 (by decide) ?_
  refine lv_istore_n (lv' := [(2, .int (0 : Int32)), (0, .ref a0), (1, .int p1)]) hx hb dX12_isChain_1 rfl hl (by decide) rfl (fun ls hl => ?_)
  obtain ⟨o20, e21, hf⟩ := mb0 hf
  refine L2 a0 p1 (mpN P) (0 : Int32) σ o20 e21 (fun σ22 ho H locs hJ ls hl => ?_) (fun σ23 ho H locs hJ ls hl => ?_) _ _ hJ ls (lv_sub hl [1, 2, 0] rfl)
  · rw [ho] at hf
    have hf : (mr_Z (0 : Int32) σ22) = some (r, σ') := hf
    refine lv_iconst (v := 0) hx hb dX12_isChain_53 (by decide) ?_
    exact mx_zret hx hb hr hlocks hJ hf dX12_isChain_54
  · rw [ho] at hf
    have hf : ((mx_lp (f_X12_isChain_L65 P a0 p1) (mpN P) ((1 : Int32), (0 : Int32), σ23)).bind (fun t => (fun y52 σ53 => (if y52 = (((1 : Int32) <<< (p1 &&& 31)) - (1 : Int32)) then (mx_lp (f_X12_isChain_L159 P a0 p1) (mpN P) ((1 : Int32), σ53)).bind (Sum.elim (fun t => (fun σ90 => mr_Z (0 : Int32) σ90) t) (fun t => (fun σ91 => mr_Z (1 : Int32) σ91) t)) else mr_Z (0 : Int32) σ53)) t.1 t.2)) = some (r, σ') := hf
    refine lv_iconst (v := 1) hx hb dX12_isChain_61 (by decide) ?_
    refine lv_istore_n (lv' := [(2, .int (1 : Int32)), (0, .ref a0), (1, .int p1)]) hx hb dX12_isChain_62 rfl hl (by decide) rfl (fun ls hl => ?_)
    refine lv_iconst (v := 0) hx hb dX12_isChain_63 (by decide) ?_
    refine lv_istore_n (lv' := [(3, .int (0 : Int32)), (2, .int (1 : Int32)), (0, .ref a0), (1, .int p1)]) hx hb dX12_isChain_64 rfl hl (by decide) rfl (fun ls hl => ?_)
    obtain ⟨o50, e51, hf⟩ := mb0 hf
    refine L65 a0 p1 (mpN P) (1 : Int32) (0 : Int32) σ23 o50 e51 (fun y52 σ53 ho H locs hJ ls hl => ?_) _ _ hJ ls (lv_sub hl [2, 3, 1, 0] rfl)
    · rw [ho] at hf
      have hf : ((if y52 = (((1 : Int32) <<< (p1 &&& 31)) - (1 : Int32)) then (mx_lp (f_X12_isChain_L159 P a0 p1) (mpN P) ((1 : Int32), σ53)).bind (Sum.elim (fun t => (fun σ90 => mr_Z (0 : Int32) σ90) t) (fun t => (fun σ91 => mr_Z (1 : Int32) σ91) t)) else mr_Z (0 : Int32) σ53)) = some (r, σ') := hf
      refine lv_iload_n hx hb dX12_isChain_146 rfl (lv_at hl 2 rfl) ?_
      refine lv_iconst (v := 1) hx hb dX12_isChain_147 (by decide) ?_
      refine lv_iload_n hx hb dX12_isChain_148 rfl (lv_at hl 1 rfl) ?_
      refine lv_ishl hx hb dX12_isChain_149 ?_
      refine lv_iconst (v := 1) hx hb dX12_isChain_150 (by decide) ?_
      refine lv_isub hx hb dX12_isChain_151 ?_
      refine lv_icmp_eq (tgt := 157) hx hb dX12_isChain_152 (by decide) (fun c54 => ?_) (fun c54 => ?_)
      · rw [if_pos c54] at hf
        refine lv_iconst (v := 1) hx hb dX12_isChain_157 (by decide) ?_
        refine lv_istore_n (lv' := [(3, .int (1 : Int32)), (0, .ref a0), (1, .int p1), (2, .int y52)]) hx hb dX12_isChain_158 rfl hl (by decide) rfl (fun ls hl => ?_)
        obtain ⟨o88, e89, hf⟩ := mb0 hf
        refine L159 a0 p1 (mpN P) (1 : Int32) σ53 o88 e89 (fun σ90 ho H locs hJ ls hl => ?_) (fun σ91 ho H locs hJ ls hl => ?_) _ _ hJ ls (lv_sub hl [1, 2, 0] rfl)
        · rw [ho] at hf
          have hf : (mr_Z (0 : Int32) σ90) = some (r, σ') := hf
          refine lv_iconst (v := 0) hx hb dX12_isChain_268 (by decide) ?_
          exact mx_zret hx hb hr hlocks hJ hf dX12_isChain_269
        · rw [ho] at hf
          have hf : (mr_Z (1 : Int32) σ91) = some (r, σ') := hf
          refine lv_iconst (v := 1) hx hb dX12_isChain_276 (by decide) ?_
          exact mx_zret hx hb hr hlocks hJ hf dX12_isChain_277
      · rw [if_neg c54] at hf
        refine lv_iconst (v := 0) hx hb dX12_isChain_155 (by decide) ?_
        exact mx_zret hx hb hr hlocks hJ hf dX12_isChain_156
set_option maxHeartbeats 4000000 in
set_option maxRecDepth 100000 in
theorem c_X12_nextRow (l : Launch) (G : mx_G) (P : mx_P) (a0 : Nat) (p1 : Int32) (σ : mx_S) (r : Int32) (σ' : mx_S) (hf : f_X12_nextRow P a0 p1 σ = some (r, σ')) : mxz σ ≤ mpc P → mxu σ ≤ mps P → mx_M l yX12_nextRow cX12_nextRow 7 (some .boolean) 0 0 G P [.ref a0, .int p1] σ (some (.int r)) σ' := by
  intro hcap hcau
  refine mx_ofW (by decide +kernel) hcap hcau (Nat.le_of_ble_eq_true rfl) ?_
  intro p e s m below meth c hx hb hr hml hts hown hlocks hname hK hJ ls hl
  have hz0 := hJ.2.1
  have hown : s.vm.findClass RX12 = some m.cls := hown
  have hl : lv_has ls 7 [(0, .ref a0), (1, .int p1)] := hl
  have B4 : ∀ (v0 : Nat) (v1 : Int32) (v2 : Int32) (τ : mx_S) (o : (Int32 × mx_S) ⊕ ((Int32 × mx_S))), f_X12_nextRow_B4 P v0 v1 v2 τ = some o → (∀ (y2 : Int32) (υ : mx_S), o = .inl (y2, υ) → ∀ (H : Heap) (locs : List Loc), mx_J G P s.heap (mxz σ) (mxu σ) υ H locs → ∀ ls : Array Slot, lv_has ls 7 [(0, .ref v0), (1, .int v1), (2, .int y2)] → W p l e (mx_rm P 0 0 σ) s m ([.ref a0, .int p1] : List Value).toArray below meth c H locs (mxz υ - mxz σ) (mxu υ - mxu σ) (mx_Z below G P (some (.int r)) σ σ' [.ref a0, .int p1] s) (F0 m 4 ls [])) → (∀ (y2 : Int32) (υ : mx_S), o = .inr (y2, υ) → ∀ (H : Heap) (locs : List Loc), mx_J G P s.heap (mxz σ) (mxu σ) υ H locs → ∀ ls : Array Slot, lv_has ls 7 [(0, .ref v0), (1, .int v1), (2, .int y2)] → W p l e (mx_rm P 0 0 σ) s m ([.ref a0, .int p1] : List Value).toArray below meth c H locs (mxz υ - mxz σ) (mxu υ - mxu σ) (mx_Z below G P (some (.int r)) σ σ' [.ref a0, .int p1] s) (F0 m 31 ls [])) → ∀ (H : Heap) (locs : List Loc), mx_J G P s.heap (mxz σ) (mxu σ) τ H locs → ∀ ls : Array Slot, lv_has ls 7 [(0, .ref v0), (1, .int v1), (2, .int v2)] → W p l e (mx_rm P 0 0 σ) s m ([.ref a0, .int p1] : List Value).toArray below meth c H locs (mxz τ - mxz σ) (mxu τ - mxu σ) (mx_Z below G P (some (.int r)) σ σ' [.ref a0, .int p1] s) (F0 m 4 ls []) := by
    intro v0 v1 v2 τ o hf Kb Ke0 H locs hJ ls hl
    unfold f_X12_nextRow_B4 at hf
    refine lv_iload_n hx hb dX12_nextRow_4 rfl (lv_at hl 2 rfl) ?_
    refine lv_if_lt (tgt := 31) hx hb dX12_nextRow_5 (by decide) (fun c3 => ?_) (fun c3 => ?_)
    · rw [if_pos c3] at hf
      exact Ke0 v2 τ (Option.some.inj hf).symm _ _ hJ ls (lv_sub hl [0, 1, 2] rfl)
    · rw [if_neg c3] at hf
      refine lv_aload_n hx hb dX12_nextRow_8 rfl (lv_at hl 0 rfl) ?_
      obtain ⟨b4, e5, hf⟩ := mb0 hf
      refine my_gR hx hb hts hown hK hJ fd_RX12_201 hv_12_94 e5 dX12_nextRow_9 ?_
      refine lv_iload_n hx hb dX12_nextRow_12 rfl (lv_at hl 2 rfl) ?_
      obtain ⟨x6, e7, hf⟩ := mb0 hf
      refine mx_aI hx hb hK hJ e7 dX12_nextRow_13 ?_
      refine lv_aload_n hx hb dX12_nextRow_14 rfl (lv_at hl 0 rfl) ?_
      obtain ⟨b8, e9, hf⟩ := mb0 hf
      refine my_gR hx hb hts hown hK hJ fd_RX12_201 hv_12_94 e9 dX12_nextRow_15 ?_
      refine lv_iload_n hx hb dX12_nextRow_18 rfl (lv_at hl 2 rfl) ?_
      refine lv_iconst (v := 1) hx hb dX12_nextRow_19 (by decide) ?_
      refine lv_iadd hx hb dX12_nextRow_20 ?_
      obtain ⟨x10, e11, hf⟩ := mb0 hf
      refine mx_aI hx hb hK hJ e11 dX12_nextRow_21 ?_
      refine lv_icmp_le (tgt := 31) hx hb dX12_nextRow_22 (by decide) (fun c12 => ?_) (fun c12 => ?_)
      · rw [if_pos c12] at hf
        exact Ke0 v2 τ (Option.some.inj hf).symm _ _ hJ ls (lv_sub hl [0, 1, 2] rfl)
      · rw [if_neg c12] at hf
        obtain ⟨x13, e14, hf⟩ := mb0 hf
        refine lv_iinc (v := x13) (lv' := [(2, .int x13), (0, .ref v0), (1, .int v1)]) hx hb dX12_nextRow_25 hl (k := 2) rfl (by rw [← Option.some.inj e14]; rfl) (by decide) rfl (fun ls hl => ?_)
        refine lv_goto (tgt := 4) hx hb dX12_nextRow_28 (by decide) ?_
        exact Kb x13 τ (Option.some.inj hf).symm _ _ hJ ls (lv_sub hl [1, 2, 0] rfl)
  have L4 : ∀ (v0 : Nat) (v1 : Int32) (n : Nat) (v2 : Int32) (τ : mx_S) (o : (Int32 × mx_S)), mx_lp (f_X12_nextRow_L4 P v0 v1) n (v2, τ) = some o → (∀ (y2 : Int32) (υ : mx_S), o = (y2, υ) → ∀ (H : Heap) (locs : List Loc), mx_J G P s.heap (mxz σ) (mxu σ) υ H locs → ∀ ls : Array Slot, lv_has ls 7 [(0, .ref v0), (1, .int v1), (2, .int y2)] → W p l e (mx_rm P 0 0 σ) s m ([.ref a0, .int p1] : List Value).toArray below meth c H locs (mxz υ - mxz σ) (mxu υ - mxu σ) (mx_Z below G P (some (.int r)) σ σ' [.ref a0, .int p1] s) (F0 m 31 ls [])) → ∀ (H : Heap) (locs : List Loc), mx_J G P s.heap (mxz σ) (mxu σ) τ H locs → ∀ ls : Array Slot, lv_has ls 7 [(0, .ref v0), (1, .int v1), (2, .int v2)] → W p l e (mx_rm P 0 0 σ) s m ([.ref a0, .int p1] : List Value).toArray below meth c H locs (mxz τ - mxz σ) (mxu τ - mxu σ) (mx_Z below G P (some (.int r)) σ σ' [.ref a0, .int p1] s) (F0 m 4 ls []) := by
    intro v0 v1 n
    induction n with
    | zero =>
      intro v2 τ o hf
      rw [mx_lp0] at hf
      cases hf
    | succ n ih =>
      intro v2 τ o hf Ke0 H locs hJ ls hl
      rw [mx_lpS] at hf
      obtain ⟨b, eb, hf⟩ := mb0 hf
      refine B4 v0 v1 v2 τ b eb (fun y2 υ ho H locs hJ ls hl => ?_) (fun y2 υ ho H locs hJ ls hl => ?_) H locs hJ ls hl
      · subst ho
        exact ih y2 υ o hf Ke0 H locs hJ ls hl
      · subst ho
        exact Ke0 y2 υ (Option.some.inj hf).symm _ _ hJ ls hl
  have B41 : ∀ (v0 : Nat) (v1 : Int32) (v2 : Int32) (v3 : Int32) (τ : mx_S) (o : (Int32 × mx_S) ⊕ ((Int32 × mx_S))), f_X12_nextRow_B41 P v0 v1 v2 v3 τ = some o → (∀ (y3 : Int32) (υ : mx_S), o = .inl (y3, υ) → ∀ (H : Heap) (locs : List Loc), mx_J G P s.heap (mxz σ) (mxu σ) υ H locs → ∀ ls : Array Slot, lv_has ls 7 [(0, .ref v0), (1, .int v1), (2, .int v2), (3, .int y3)] → W p l e (mx_rm P 0 0 σ) s m ([.ref a0, .int p1] : List Value).toArray below meth c H locs (mxz υ - mxz σ) (mxu υ - mxu σ) (mx_Z below G P (some (.int r)) σ σ' [.ref a0, .int p1] s) (F0 m 41 ls [])) → (∀ (y3 : Int32) (υ : mx_S), o = .inr (y3, υ) → ∀ (H : Heap) (locs : List Loc), mx_J G P s.heap (mxz σ) (mxu σ) υ H locs → ∀ ls : Array Slot, lv_has ls 7 [(0, .ref v0), (1, .int v1), (2, .int v2), (3, .int y3)] → W p l e (mx_rm P 0 0 σ) s m ([.ref a0, .int p1] : List Value).toArray below meth c H locs (mxz υ - mxz σ) (mxu υ - mxu σ) (mx_Z below G P (some (.int r)) σ σ' [.ref a0, .int p1] s) (F0 m 62 ls [])) → ∀ (H : Heap) (locs : List Loc), mx_J G P s.heap (mxz σ) (mxu σ) τ H locs → ∀ ls : Array Slot, lv_has ls 7 [(0, .ref v0), (1, .int v1), (2, .int v2), (3, .int v3)] → W p l e (mx_rm P 0 0 σ) s m ([.ref a0, .int p1] : List Value).toArray below meth c H locs (mxz τ - mxz σ) (mxu τ - mxu σ) (mx_Z below G P (some (.int r)) σ σ' [.ref a0, .int p1] s) (F0 m 41 ls []) := by
    intro v0 v1 v2 v3 τ o hf Kb Ke0 H locs hJ ls hl
    unfold f_X12_nextRow_B41 at hf
    refine lv_aload_n hx hb dX12_nextRow_41 rfl (lv_at hl 0 rfl) ?_
    obtain ⟨b22, e23, hf⟩ := mb0 hf
    refine my_gR hx hb hts hown hK hJ fd_RX12_201 hv_12_94 e23 dX12_nextRow_42 ?_
    refine lv_iload_n hx hb dX12_nextRow_45 rfl (lv_at hl 3 rfl) ?_
    obtain ⟨x24, e25, hf⟩ := mb0 hf
    refine mx_aI hx hb hK hJ e25 dX12_nextRow_46 ?_
    refine lv_aload_n hx hb dX12_nextRow_47 rfl (lv_at hl 0 rfl) ?_
    obtain ⟨b26, e27, hf⟩ := mb0 hf
    refine my_gR hx hb hts hown hK hJ fd_RX12_201 hv_12_94 e27 dX12_nextRow_48 ?_
    refine lv_iload_n hx hb dX12_nextRow_51 rfl (lv_at hl 2 rfl) ?_
    obtain ⟨x28, e29, hf⟩ := mb0 hf
    refine mx_aI hx hb hK hJ e29 dX12_nextRow_52 ?_
    refine lv_icmp_ge (tgt := 62) hx hb dX12_nextRow_53 (by decide) (fun c30 => ?_) (fun c30 => ?_)
    · rw [if_pos c30] at hf
      exact Ke0 v3 τ (Option.some.inj hf).symm _ _ hJ ls (lv_sub hl [0, 1, 2, 3] rfl)
    · rw [if_neg c30] at hf
      obtain ⟨x31, e32, hf⟩ := mb0 hf
      refine lv_iinc (v := x31) (lv' := [(3, .int x31), (0, .ref v0), (1, .int v1), (2, .int v2)]) hx hb dX12_nextRow_56 hl (k := 3) rfl (by rw [← Option.some.inj e32]; rfl) (by decide) rfl (fun ls hl => ?_)
      refine lv_goto (tgt := 41) hx hb dX12_nextRow_59 (by decide) ?_
      exact Kb x31 τ (Option.some.inj hf).symm _ _ hJ ls (lv_sub hl [1, 2, 3, 0] rfl)
  have L41 : ∀ (v0 : Nat) (v1 : Int32) (v2 : Int32) (n : Nat) (v3 : Int32) (τ : mx_S) (o : (Int32 × mx_S)), mx_lp (f_X12_nextRow_L41 P v0 v1 v2) n (v3, τ) = some o → (∀ (y3 : Int32) (υ : mx_S), o = (y3, υ) → ∀ (H : Heap) (locs : List Loc), mx_J G P s.heap (mxz σ) (mxu σ) υ H locs → ∀ ls : Array Slot, lv_has ls 7 [(0, .ref v0), (1, .int v1), (2, .int v2), (3, .int y3)] → W p l e (mx_rm P 0 0 σ) s m ([.ref a0, .int p1] : List Value).toArray below meth c H locs (mxz υ - mxz σ) (mxu υ - mxu σ) (mx_Z below G P (some (.int r)) σ σ' [.ref a0, .int p1] s) (F0 m 62 ls [])) → ∀ (H : Heap) (locs : List Loc), mx_J G P s.heap (mxz σ) (mxu σ) τ H locs → ∀ ls : Array Slot, lv_has ls 7 [(0, .ref v0), (1, .int v1), (2, .int v2), (3, .int v3)] → W p l e (mx_rm P 0 0 σ) s m ([.ref a0, .int p1] : List Value).toArray below meth c H locs (mxz τ - mxz σ) (mxu τ - mxu σ) (mx_Z below G P (some (.int r)) σ σ' [.ref a0, .int p1] s) (F0 m 41 ls []) := by
    intro v0 v1 v2 n
    induction n with
    | zero =>
      intro v3 τ o hf
      rw [mx_lp0] at hf
      cases hf
    | succ n ih =>
      intro v3 τ o hf Ke0 H locs hJ ls hl
      rw [mx_lpS] at hf
      obtain ⟨b, eb, hf⟩ := mb0 hf
      refine B41 v0 v1 v2 v3 τ b eb (fun y3 υ ho H locs hJ ls hl => ?_) (fun y3 υ ho H locs hJ ls hl => ?_) H locs hJ ls hl
      · subst ho
        exact ih y3 υ o hf Ke0 H locs hJ ls hl
      · subst ho
        exact Ke0 y3 υ (Option.some.inj hf).symm _ _ hJ ls hl
  have B100 : ∀ (v0 : Nat) (v5 : Int32) (v6 : Int32) (τ : mx_S) (o : (Int32 × Int32 × mx_S) ⊕ ((mx_S))), f_X12_nextRow_B100 P v0 v5 v6 τ = some o → (∀ (y5 : Int32) (y6 : Int32) (υ : mx_S), o = .inl (y5, y6, υ) → ∀ (H : Heap) (locs : List Loc), mx_J G P s.heap (mxz σ) (mxu σ) υ H locs → ∀ ls : Array Slot, lv_has ls 7 [(0, .ref v0), (5, .int y5), (6, .int y6)] → W p l e (mx_rm P 0 0 σ) s m ([.ref a0, .int p1] : List Value).toArray below meth c H locs (mxz υ - mxz σ) (mxu υ - mxu σ) (mx_Z below G P (some (.int r)) σ σ' [.ref a0, .int p1] s) (F0 m 100 ls [])) → (∀  (υ : mx_S), o = .inr υ → ∀ (H : Heap) (locs : List Loc), mx_J G P s.heap (mxz σ) (mxu σ) υ H locs → ∀ ls : Array Slot, lv_has ls 7 [] → W p l e (mx_rm P 0 0 σ) s m ([.ref a0, .int p1] : List Value).toArray below meth c H locs (mxz υ - mxz σ) (mxu υ - mxu σ) (mx_Z below G P (some (.int r)) σ σ' [.ref a0, .int p1] s) (F0 m 148 ls [])) → ∀ (H : Heap) (locs : List Loc), mx_J G P s.heap (mxz σ) (mxu σ) τ H locs → ∀ ls : Array Slot, lv_has ls 7 [(0, .ref v0), (5, .int v5), (6, .int v6)] → W p l e (mx_rm P 0 0 σ) s m ([.ref a0, .int p1] : List Value).toArray below meth c H locs (mxz τ - mxz σ) (mxu τ - mxu σ) (mx_Z below G P (some (.int r)) σ σ' [.ref a0, .int p1] s) (F0 m 100 ls []) := by
    intro v0 v5 v6 τ o hf Kb Ke0 H locs hJ ls hl
    unfold f_X12_nextRow_B100 at hf
    refine lv_iload hx hb dX12_nextRow_100 (lv_at hl 1 rfl) ?_
    refine lv_iload hx hb dX12_nextRow_102 (lv_at hl 2 rfl) ?_
    refine lv_icmp_ge (tgt := 148) hx hb dX12_nextRow_104 (by decide) (fun c57 => ?_) (fun c57 => ?_)
    · rw [if_pos c57] at hf
      exact Ke0 τ (Option.some.inj hf).symm _ _ hJ ls (lv_sub hl [] rfl)
    · rw [if_neg c57] at hf
      refine lv_aload_n hx hb dX12_nextRow_107 rfl (lv_at hl 0 rfl) ?_
      obtain ⟨b58, e59, hf⟩ := mb0 hf
      refine my_gR hx hb hts hown hK hJ fd_RX12_201 hv_12_94 e59 dX12_nextRow_108 ?_
      refine lv_iload hx hb dX12_nextRow_111 (lv_at hl 1 rfl) ?_
      obtain ⟨x60, e61, hf⟩ := mb0 hf
      refine mx_aI hx hb hK hJ e61 dX12_nextRow_113 ?_
      refine lv_istore (lv' := [(4, .int x60), (0, .ref v0), (5, .int v5), (6, .int v6)]) hx hb dX12_nextRow_114 hl (by decide) rfl (fun ls hl => ?_)
      refine lv_aload_n hx hb dX12_nextRow_116 rfl (lv_at hl 1 rfl) ?_
      obtain ⟨b62, e63, hf⟩ := mb0 hf
      refine my_gR hx hb hts hown hK hJ fd_RX12_201 hv_12_94 e63 dX12_nextRow_117 ?_
      refine lv_iload hx hb dX12_nextRow_120 (lv_at hl 2 rfl) ?_
      refine lv_aload_n hx hb dX12_nextRow_122 rfl (lv_at hl 1 rfl) ?_
      obtain ⟨b64, e65, hf⟩ := mb0 hf
      refine my_gR hx hb hts hown hK hJ fd_RX12_201 hv_12_94 e65 dX12_nextRow_123 ?_
      refine lv_iload hx hb dX12_nextRow_126 (lv_at hl 3 rfl) ?_
      obtain ⟨x66, e67, hf⟩ := mb0 hf
      refine mx_aI hx hb hK hJ e67 dX12_nextRow_128 ?_
      obtain ⟨σ68, e69, hf⟩ := mb0 hf
      refine mx_sI hx hb hK hJ e69 dX12_nextRow_129 (fun H locs hJ => ?_)
      refine lv_aload_n hx hb dX12_nextRow_130 rfl (lv_at hl 1 rfl) ?_
      obtain ⟨b70, e71, hf⟩ := mb0 hf
      refine my_gR hx hb hts hown hK hJ fd_RX12_201 hv_12_94 e71 dX12_nextRow_131 ?_
      refine lv_iload hx hb dX12_nextRow_134 (lv_at hl 3 rfl) ?_
      refine lv_iload hx hb dX12_nextRow_136 (lv_at hl 0 rfl) ?_
      obtain ⟨σ72, e73, hf⟩ := mb0 hf
      refine mx_sI hx hb hK hJ e73 dX12_nextRow_138 (fun H locs hJ => ?_)
      obtain ⟨x74, e75, hf⟩ := mb0 hf
      refine lv_iinc (v := x74) (lv' := [(5, .int x74), (4, .int x60), (0, .ref v0), (6, .int v6)]) hx hb dX12_nextRow_139 hl (k := 2) rfl (by rw [← Option.some.inj e75]; rfl) (by decide) rfl (fun ls hl => ?_)
      obtain ⟨x76, e77, hf⟩ := mb0 hf
      refine lv_iinc (v := x76) (lv' := [(6, .int x76), (5, .int x74), (4, .int x60), (0, .ref v0)]) hx hb dX12_nextRow_142 hl (k := 3) rfl (by rw [← Option.some.inj e77]; rfl) (by decide) rfl (fun ls hl => ?_)
      refine lv_goto (tgt := 100) hx hb dX12_nextRow_145 (by decide) ?_
      exact Kb x74 x76 σ72 (Option.some.inj hf).symm _ _ hJ ls (lv_sub hl [3, 1, 0] rfl)
  have L100 : ∀ (v0 : Nat) (n : Nat) (v5 : Int32) (v6 : Int32) (τ : mx_S) (o : (mx_S)), mx_lp (f_X12_nextRow_L100 P v0) n (v5, v6, τ) = some o → (∀  (υ : mx_S), o = υ → ∀ (H : Heap) (locs : List Loc), mx_J G P s.heap (mxz σ) (mxu σ) υ H locs → ∀ ls : Array Slot, lv_has ls 7 [] → W p l e (mx_rm P 0 0 σ) s m ([.ref a0, .int p1] : List Value).toArray below meth c H locs (mxz υ - mxz σ) (mxu υ - mxu σ) (mx_Z below G P (some (.int r)) σ σ' [.ref a0, .int p1] s) (F0 m 148 ls [])) → ∀ (H : Heap) (locs : List Loc), mx_J G P s.heap (mxz σ) (mxu σ) τ H locs → ∀ ls : Array Slot, lv_has ls 7 [(0, .ref v0), (5, .int v5), (6, .int v6)] → W p l e (mx_rm P 0 0 σ) s m ([.ref a0, .int p1] : List Value).toArray below meth c H locs (mxz τ - mxz σ) (mxu τ - mxu σ) (mx_Z below G P (some (.int r)) σ σ' [.ref a0, .int p1] s) (F0 m 100 ls []) := by
    intro v0 n
    induction n with
    | zero =>
      intro v5 v6 τ o hf
      rw [mx_lp0] at hf
      cases hf
    | succ n ih =>
      intro v5 v6 τ o hf Ke0 H locs hJ ls hl
      rw [mx_lpS] at hf
      obtain ⟨b, eb, hf⟩ := mb0 hf
      refine B100 v0 v5 v6 τ b eb (fun y5 y6 υ ho H locs hJ ls hl => ?_) (fun  υ ho H locs hJ ls hl => ?_) H locs hJ ls hl
      · subst ho
        exact ih y5 y6 υ o hf Ke0 H locs hJ ls hl
      · subst ho
        exact Ke0  υ (Option.some.inj hf).symm _ _ hJ ls hl
  have D31 : ∀ (v0 : Nat) (v1 : Int32) (v2 : Int32) (τ : mx_S), f_X12_nextRow_D31 P v0 v1 v2 τ = some (r, σ') → ∀ (H : Heap) (locs : List Loc), mx_J G P s.heap (mxz σ) (mxu σ) τ H locs → ∀ ls : Array Slot, lv_has ls 7 [(0, .ref v0), (1, .int v1), (2, .int v2)] → W p l e (mx_rm P 0 0 σ) s m ([.ref a0, .int p1] : List Value).toArray below meth c H locs (mxz τ - mxz σ) (mxu τ - mxu σ) (mx_Z below G P (some (.int r)) σ σ' [.ref a0, .int p1] s) (F0 m 31 ls []) := by
    intro v0 v1 v2 τ hf _ _ hJ ls hl
    unfold f_X12_nextRow_D31 at hf
    refine lv_iload_n hx hb dX12_nextRow_31 rfl (lv_at hl 2 rfl) ?_
    refine lv_if_ge (tgt := 37) hx hb dX12_nextRow_32 (by decide) (fun c19 => ?_) (fun c19 => ?_)
    · rw [if_pos c19] at hf
      refine lv_iload_n hx hb dX12_nextRow_37 rfl (lv_at hl 1 rfl) ?_
      refine lv_iconst (v := 1) hx hb dX12_nextRow_38 (by decide) ?_
      refine lv_isub hx hb dX12_nextRow_39 ?_
      obtain ⟨x20, e21, hf⟩ := mb0 hf
      refine mx_nI e21 ?_
      refine lv_istore_n (lv' := [(3, .int x20), (0, .ref v0), (1, .int v1), (2, .int v2)]) hx hb dX12_nextRow_40 rfl hl (by decide) rfl (fun ls hl => ?_)
      obtain ⟨o33, e34, hf⟩ := mb0 hf
      refine L41 v0 v1 v2 (mpN P) x20 τ o33 e34 (fun y35 σ36 ho H locs hJ ls hl => ?_) _ _ hJ ls (lv_sub hl [1, 2, 3, 0] rfl)
      · rw [ho] at hf
        have hf : ((mg_R σ36 v0 12 94).bind fun b37 => (ma_I σ36 b37 0 v2).bind fun x39 => (mg_R σ36 v0 12 94).bind fun b41 => (mg_R σ36 v0 12 94).bind fun b43 => (ma_I σ36 b43 0 y35).bind fun x45 => (ms_I P σ36 b41 0 v2 x45).bind fun σ47 => (mg_R σ47 v0 12 94).bind fun b49 => (ms_I P σ47 b49 0 y35 x39).bind fun σ51 => (some (v2 + (1 : Int32))).bind fun x53 => (some (v1 - (1 : Int32))).bind fun x55 => (mx_lp (f_X12_nextRow_L100 P v0) (mpN P) (x53, x55, σ51)).bind (fun t => (fun σ80 => mr_Z (1 : Int32) σ80) t)) = some (r, σ') := hf
        refine lv_aload_n hx hb dX12_nextRow_62 rfl (lv_at hl 0 rfl) ?_
        obtain ⟨b37, e38, hf⟩ := mb0 hf
        refine my_gR hx hb hts hown hK hJ fd_RX12_201 hv_12_94 e38 dX12_nextRow_63 ?_
        refine lv_iload_n hx hb dX12_nextRow_66 rfl (lv_at hl 2 rfl) ?_
        obtain ⟨x39, e40, hf⟩ := mb0 hf
        refine mx_aI hx hb hK hJ e40 dX12_nextRow_67 ?_
        refine lv_istore (lv' := [(4, .int x39), (0, .ref v0), (1, .int v1), (2, .int v2), (3, .int y35)]) hx hb dX12_nextRow_68 hl (by decide) rfl (fun ls hl => ?_)
        refine lv_aload_n hx hb dX12_nextRow_70 rfl (lv_at hl 1 rfl) ?_
        obtain ⟨b41, e42, hf⟩ := mb0 hf
        refine my_gR hx hb hts hown hK hJ fd_RX12_201 hv_12_94 e42 dX12_nextRow_71 ?_
        refine lv_iload_n hx hb dX12_nextRow_74 rfl (lv_at hl 3 rfl) ?_
        refine lv_aload_n hx hb dX12_nextRow_75 rfl (lv_at hl 1 rfl) ?_
        obtain ⟨b43, e44, hf⟩ := mb0 hf
        refine my_gR hx hb hts hown hK hJ fd_RX12_201 hv_12_94 e44 dX12_nextRow_76 ?_
        refine lv_iload_n hx hb dX12_nextRow_79 rfl (lv_at hl 4 rfl) ?_
        obtain ⟨x45, e46, hf⟩ := mb0 hf
        refine mx_aI hx hb hK hJ e46 dX12_nextRow_80 ?_
        obtain ⟨σ47, e48, hf⟩ := mb0 hf
        refine mx_sI hx hb hK hJ e48 dX12_nextRow_81 (fun H locs hJ => ?_)
        refine lv_aload_n hx hb dX12_nextRow_82 rfl (lv_at hl 1 rfl) ?_
        obtain ⟨b49, e50, hf⟩ := mb0 hf
        refine my_gR hx hb hts hown hK hJ fd_RX12_201 hv_12_94 e50 dX12_nextRow_83 ?_
        refine lv_iload_n hx hb dX12_nextRow_86 rfl (lv_at hl 4 rfl) ?_
        refine lv_iload hx hb dX12_nextRow_87 (lv_at hl 0 rfl) ?_
        obtain ⟨σ51, e52, hf⟩ := mb0 hf
        refine mx_sI hx hb hK hJ e52 dX12_nextRow_89 (fun H locs hJ => ?_)
        refine lv_iload_n hx hb dX12_nextRow_90 rfl (lv_at hl 3 rfl) ?_
        refine lv_iconst (v := 1) hx hb dX12_nextRow_91 (by decide) ?_
        refine lv_iadd hx hb dX12_nextRow_92 ?_
        obtain ⟨x53, e54, hf⟩ := mb0 hf
        refine mx_nI e54 ?_
        refine lv_istore (lv' := [(5, .int x53), (4, .int x39), (0, .ref v0), (1, .int v1), (2, .int v2), (3, .int y35)]) hx hb dX12_nextRow_93 hl (by decide) rfl (fun ls hl => ?_)
        refine lv_iload_n hx hb dX12_nextRow_95 rfl (lv_at hl 3 rfl) ?_
        refine lv_iconst (v := 1) hx hb dX12_nextRow_96 (by decide) ?_
        refine lv_isub hx hb dX12_nextRow_97 ?_
        obtain ⟨x55, e56, hf⟩ := mb0 hf
        refine mx_nI e56 ?_
        refine lv_istore (lv' := [(6, .int x55), (5, .int x53), (4, .int x39), (0, .ref v0), (1, .int v1), (2, .int v2), (3, .int y35)]) hx hb dX12_nextRow_98 hl (by decide) rfl (fun ls hl => ?_)
        obtain ⟨o78, e79, hf⟩ := mb0 hf
        refine L100 v0 (mpN P) x53 x55 σ51 o78 e79 (fun σ80 ho H locs hJ ls hl => ?_) _ _ hJ ls (lv_sub hl [3, 1, 0] rfl)
        · rw [ho] at hf
          have hf : (mr_Z (1 : Int32) σ80) = some (r, σ') := hf
          refine lv_iconst (v := 1) hx hb dX12_nextRow_148 (by decide) ?_
          exact mx_zret hx hb hr hlocks hJ hf dX12_nextRow_149
    · rw [if_neg c19] at hf
      refine lv_iconst (v := 0) hx hb dX12_nextRow_35 (by decide) ?_
      exact mx_zret hx hb hr hlocks hJ hf dX12_nextRow_36
  unfold f_X12_nextRow at hf
  refine lv_iload_n hx hb dX12_nextRow_0 rfl (lv_at hl 1 rfl) ?_
  refine lv_iconst (v := 2) hx hb dX12_nextRow_1 (by decide) ?_
  refine lv_isub hx hb dX12_nextRow_2 ?_
  obtain ⟨x1, e2, hf⟩ := mb0 hf
  refine mx_nI e2 ?_
  refine lv_istore_n (lv' := [(2, .int x1), (0, .ref a0), (1, .int p1)]) hx hb dX12_nextRow_3 rfl hl (by decide) rfl (fun ls hl => ?_)
  obtain ⟨o15, e16, hf⟩ := mb0 hf
  refine L4 a0 p1 (mpN P) x1 σ o15 e16 (fun y17 σ18 ho H locs hJ ls hl => ?_) _ _ hJ ls (lv_sub hl [1, 2, 0] rfl)
  · rw [ho] at hf
    have hf : (f_X12_nextRow_D31 P a0 p1 y17 σ18) = some (r, σ') := hf
    exact D31 a0 p1 y17 σ18 hf _ _ hJ ls (lv_sub hl [0, 1, 2] rfl)
set_option maxHeartbeats 4000000 in
set_option maxRecDepth 100000 in
theorem c_X12_isGreatest (l : Launch) (G : mx_G) (P : mx_P) (a0 : Nat) (p1 : Int32) (p2 : Int32) (σ : mx_S) (r : Int32) (σ' : mx_S) (hf : f_X12_isGreatest P a0 p1 p2 σ = some (r, σ')) : mxz σ ≤ mpc P → mxu σ ≤ mps P → mx_M l yX12_isGreatest cX12_isGreatest 7 (some .boolean) 1 26 G P [.ref a0, .int p1, .int p2] σ (some (.int r)) σ' := by
  intro hcap hcau
  refine mx_ofW (by decide +kernel) hcap hcau (Nat.le_of_ble_eq_true rfl) ?_
  intro p e s m below meth c hx hb hr hml hts hown hlocks hname hK hJ ls hl
  have hz0 := hJ.2.1
  have hown : s.vm.findClass RX12 = some m.cls := hown
  have hl : lv_has ls 7 [(0, .ref a0), (1, .int p1), (2, .int p2)] := hl
  have B2 : ∀ (v0 : Nat) (v1 : Int32) (v2 : Int32) (v3 : Int32) (τ : mx_S) (o : (Int32 × mx_S) ⊕ ((mx_S))), f_X12_isGreatest_B2 P v0 v1 v2 v3 τ = some o → (∀ (y3 : Int32) (υ : mx_S), o = .inl (y3, υ) → ∀ (H : Heap) (locs : List Loc), mx_J G P s.heap (mxz σ) (mxu σ) υ H locs → ∀ ls : Array Slot, lv_has ls 7 [(0, .ref v0), (1, .int v1), (2, .int v2), (3, .int y3)] → W p l e (mx_rm P 1 26 σ) s m ([.ref a0, .int p1, .int p2] : List Value).toArray below meth c H locs (mxz υ - mxz σ) (mxu υ - mxu σ) (mx_Z below G P (some (.int r)) σ σ' [.ref a0, .int p1, .int p2] s) (F0 m 2 ls [])) → (∀  (υ : mx_S), o = .inr υ → ∀ (H : Heap) (locs : List Loc), mx_J G P s.heap (mxz σ) (mxu σ) υ H locs → ∀ ls : Array Slot, lv_has ls 7 [(0, .ref v0), (1, .int v1), (2, .int v2)] → W p l e (mx_rm P 1 26 σ) s m ([.ref a0, .int p1, .int p2] : List Value).toArray below meth c H locs (mxz υ - mxz σ) (mxu υ - mxu σ) (mx_Z below G P (some (.int r)) σ σ' [.ref a0, .int p1, .int p2] s) (F0 m 20 ls [])) → ∀ (H : Heap) (locs : List Loc), mx_J G P s.heap (mxz σ) (mxu σ) τ H locs → ∀ ls : Array Slot, lv_has ls 7 [(0, .ref v0), (1, .int v1), (2, .int v2), (3, .int v3)] → W p l e (mx_rm P 1 26 σ) s m ([.ref a0, .int p1, .int p2] : List Value).toArray below meth c H locs (mxz τ - mxz σ) (mxu τ - mxu σ) (mx_Z below G P (some (.int r)) σ σ' [.ref a0, .int p1, .int p2] s) (F0 m 2 ls []) := by
    intro v0 v1 v2 v3 τ o hf Kb Ke0 H locs hJ ls hl
    unfold f_X12_isGreatest_B2 at hf
    refine lv_iload_n hx hb dX12_isGreatest_2 rfl (lv_at hl 3 rfl) ?_
    refine lv_iload_n hx hb dX12_isGreatest_3 rfl (lv_at hl 1 rfl) ?_
    refine lv_icmp_ge (tgt := 20) hx hb dX12_isGreatest_4 (by decide) (fun c1 => ?_) (fun c1 => ?_)
    · rw [if_pos c1] at hf
      exact Ke0 τ (Option.some.inj hf).symm _ _ hJ ls (lv_sub hl [0, 1, 2] rfl)
    · rw [if_neg c1] at hf
      refine lv_aload_n hx hb dX12_isGreatest_7 rfl (lv_at hl 0 rfl) ?_
      obtain ⟨b2, e3, hf⟩ := mb0 hf
      refine my_gR hx hb hts hown hK hJ fd_RX12_201 hv_12_94 e3 dX12_isGreatest_8 ?_
      refine lv_iload_n hx hb dX12_isGreatest_11 rfl (lv_at hl 3 rfl) ?_
      refine lv_iload_n hx hb dX12_isGreatest_12 rfl (lv_at hl 3 rfl) ?_
      obtain ⟨σ4, e5, hf⟩ := mb0 hf
      refine mx_sI hx hb hK hJ e5 dX12_isGreatest_13 (fun H locs hJ => ?_)
      obtain ⟨x6, e7, hf⟩ := mb0 hf
      refine lv_iinc (v := x6) (lv' := [(3, .int x6), (0, .ref v0), (1, .int v1), (2, .int v2)]) hx hb dX12_isGreatest_14 hl (k := 3) rfl (by rw [← Option.some.inj e7]; rfl) (by decide) rfl (fun ls hl => ?_)
      refine lv_goto (tgt := 2) hx hb dX12_isGreatest_17 (by decide) ?_
      exact Kb x6 σ4 (Option.some.inj hf).symm _ _ hJ ls (lv_sub hl [1, 2, 3, 0] rfl)
  have L2 : ∀ (v0 : Nat) (v1 : Int32) (v2 : Int32) (n : Nat) (v3 : Int32) (τ : mx_S) (o : (mx_S)), mx_lp (f_X12_isGreatest_L2 P v0 v1 v2) n (v3, τ) = some o → (∀  (υ : mx_S), o = υ → ∀ (H : Heap) (locs : List Loc), mx_J G P s.heap (mxz σ) (mxu σ) υ H locs → ∀ ls : Array Slot, lv_has ls 7 [(0, .ref v0), (1, .int v1), (2, .int v2)] → W p l e (mx_rm P 1 26 σ) s m ([.ref a0, .int p1, .int p2] : List Value).toArray below meth c H locs (mxz υ - mxz σ) (mxu υ - mxu σ) (mx_Z below G P (some (.int r)) σ σ' [.ref a0, .int p1, .int p2] s) (F0 m 20 ls [])) → ∀ (H : Heap) (locs : List Loc), mx_J G P s.heap (mxz σ) (mxu σ) τ H locs → ∀ ls : Array Slot, lv_has ls 7 [(0, .ref v0), (1, .int v1), (2, .int v2), (3, .int v3)] → W p l e (mx_rm P 1 26 σ) s m ([.ref a0, .int p1, .int p2] : List Value).toArray below meth c H locs (mxz τ - mxz σ) (mxu τ - mxu σ) (mx_Z below G P (some (.int r)) σ σ' [.ref a0, .int p1, .int p2] s) (F0 m 2 ls []) := by
    intro v0 v1 v2 n
    induction n with
    | zero =>
      intro v3 τ o hf
      rw [mx_lp0] at hf
      cases hf
    | succ n ih =>
      intro v3 τ o hf Ke0 H locs hJ ls hl
      rw [mx_lpS] at hf
      obtain ⟨b, eb, hf⟩ := mb0 hf
      refine B2 v0 v1 v2 v3 τ b eb (fun y3 υ ho H locs hJ ls hl => ?_) (fun  υ ho H locs hJ ls hl => ?_) H locs hJ ls hl
      · subst ho
        exact ih y3 υ o hf Ke0 H locs hJ ls hl
      · subst ho
        exact Ke0  υ (Option.some.inj hf).symm _ _ hJ ls hl
  have D85_44 : ∀ (v0 : Nat) (v1 : Int32) (v2 : Int32) (v5 : Int32) (v6 : Int32) (w0 : Int32) (w1 : Int32) (τ : mx_S) (o : (Int32 × Int32 × mx_S) ⊕ ((Int32 × mx_S))), f_X12_isGreatest_D85_44 P v0 v1 v2 v5 v6 w0 w1 τ = some o → (∀ (y4 : Int32) (y6 : Int32) (υ : mx_S), o = .inl (y4, y6, υ) → ∀ (H : Heap) (locs : List Loc), mx_J G P s.heap (mxz σ) (mxu σ) υ H locs → ∀ ls : Array Slot, lv_has ls 7 [(0, .ref v0), (1, .int v1), (2, .int v2), (4, .int y4), (5, .int v5), (6, .int y6)] → W p l e (mx_rm P 1 26 σ) s m ([.ref a0, .int p1, .int p2] : List Value).toArray below meth c H locs (mxz υ - mxz σ) (mxu υ - mxu σ) (mx_Z below G P (some (.int r)) σ σ' [.ref a0, .int p1, .int p2] s) (F0 m 44 ls [])) → (∀ (y4 : Int32) (υ : mx_S), o = .inr (y4, υ) → ∀ (H : Heap) (locs : List Loc), mx_J G P s.heap (mxz σ) (mxu σ) υ H locs → ∀ ls : Array Slot, lv_has ls 7 [(0, .ref v0), (1, .int v1), (2, .int v2), (4, .int y4), (5, .int v5)] → W p l e (mx_rm P 1 26 σ) s m ([.ref a0, .int p1, .int p2] : List Value).toArray below meth c H locs (mxz υ - mxz σ) (mxu υ - mxu σ) (mx_Z below G P (some (.int r)) σ σ' [.ref a0, .int p1, .int p2] s) (F0 m 94 ls [])) → ∀ (H : Heap) (locs : List Loc), mx_J G P s.heap (mxz σ) (mxu σ) τ H locs → ∀ ls : Array Slot, lv_has ls 7 [(0, .ref v0), (1, .int v1), (2, .int v2), (5, .int v5), (6, .int v6)] → W p l e (mx_rm P 1 26 σ) s m ([.ref a0, .int p1, .int p2] : List Value).toArray below meth c H locs (mxz τ - mxz σ) (mxu τ - mxu σ) (mx_Z below G P (some (.int r)) σ σ' [.ref a0, .int p1, .int p2] s) (F0 m 85 ls [.int w0, .int w1]) := by
    intro v0 v1 v2 v5 v6 w0 w1 τ o hf Kb Ke0 H locs hJ ls hl
    unfold f_X12_isGreatest_D85_44 at hf
    refine lv_iadd hx hb dX12_isGreatest_85 ?_
    obtain ⟨x29, e30, hf⟩ := mb0 hf
    refine mx_nI e30 ?_
    refine lv_istore (lv' := [(4, .int x29), (0, .ref v0), (1, .int v1), (2, .int v2), (5, .int v5), (6, .int v6)]) hx hb dX12_isGreatest_86 hl (by decide) rfl (fun ls hl => ?_)
    obtain ⟨x31, e32, hf⟩ := mb0 hf
    refine lv_iinc (v := x31) (lv' := [(6, .int x31), (4, .int x29), (0, .ref v0), (1, .int v1), (2, .int v2), (5, .int v5)]) hx hb dX12_isGreatest_88 hl (k := 5) rfl (by rw [← Option.some.inj e32]; rfl) (by decide) rfl (fun ls hl => ?_)
    refine lv_goto (tgt := 44) hx hb dX12_isGreatest_91 (by decide) ?_
    exact Kb x29 x31 τ (Option.some.inj hf).symm _ _ hJ ls (lv_sub hl [2, 3, 4, 1, 5, 0] rfl)
  have B44 : ∀ (v0 : Nat) (v1 : Int32) (v2 : Int32) (v5 : Int32) (v4 : Int32) (v6 : Int32) (τ : mx_S) (o : (Int32 × Int32 × mx_S) ⊕ ((Int32 × mx_S))), f_X12_isGreatest_B44 P v0 v1 v2 v5 v4 v6 τ = some o → (∀ (y4 : Int32) (y6 : Int32) (υ : mx_S), o = .inl (y4, y6, υ) → ∀ (H : Heap) (locs : List Loc), mx_J G P s.heap (mxz σ) (mxu σ) υ H locs → ∀ ls : Array Slot, lv_has ls 7 [(0, .ref v0), (1, .int v1), (2, .int v2), (4, .int y4), (5, .int v5), (6, .int y6)] → W p l e (mx_rm P 1 26 σ) s m ([.ref a0, .int p1, .int p2] : List Value).toArray below meth c H locs (mxz υ - mxz σ) (mxu υ - mxu σ) (mx_Z below G P (some (.int r)) σ σ' [.ref a0, .int p1, .int p2] s) (F0 m 44 ls [])) → (∀ (y4 : Int32) (υ : mx_S), o = .inr (y4, υ) → ∀ (H : Heap) (locs : List Loc), mx_J G P s.heap (mxz σ) (mxu σ) υ H locs → ∀ ls : Array Slot, lv_has ls 7 [(0, .ref v0), (1, .int v1), (2, .int v2), (4, .int y4), (5, .int v5)] → W p l e (mx_rm P 1 26 σ) s m ([.ref a0, .int p1, .int p2] : List Value).toArray below meth c H locs (mxz υ - mxz σ) (mxu υ - mxu σ) (mx_Z below G P (some (.int r)) σ σ' [.ref a0, .int p1, .int p2] s) (F0 m 94 ls [])) → ∀ (H : Heap) (locs : List Loc), mx_J G P s.heap (mxz σ) (mxu σ) τ H locs → ∀ ls : Array Slot, lv_has ls 7 [(0, .ref v0), (1, .int v1), (2, .int v2), (4, .int v4), (5, .int v5), (6, .int v6)] → W p l e (mx_rm P 1 26 σ) s m ([.ref a0, .int p1, .int p2] : List Value).toArray below meth c H locs (mxz τ - mxz σ) (mxu τ - mxu σ) (mx_Z below G P (some (.int r)) σ σ' [.ref a0, .int p1, .int p2] s) (F0 m 44 ls []) := by
    intro v0 v1 v2 v5 v4 v6 τ o hf Kb Ke0 H locs hJ ls hl
    unfold f_X12_isGreatest_B44 at hf
    refine lv_iload hx hb dX12_isGreatest_44 (lv_at hl 5 rfl) ?_
    refine lv_iload_n hx hb dX12_isGreatest_46 rfl (lv_at hl 1 rfl) ?_
    refine lv_icmp_ge (tgt := 94) hx hb dX12_isGreatest_47 (by decide) (fun c15 => ?_) (fun c15 => ?_)
    · rw [if_pos c15] at hf
      exact Ke0 v4 τ (Option.some.inj hf).symm _ _ hJ ls (lv_sub hl [0, 1, 2, 3, 4] rfl)
    · rw [if_neg c15] at hf
      refine lv_iconst (v := 2) hx hb dX12_isGreatest_50 (by decide) ?_
      refine lv_iload hx hb dX12_isGreatest_51 (lv_at hl 3 rfl) ?_
      refine lv_imul hx hb dX12_isGreatest_53 ?_
      refine lv_aload_n hx hb dX12_isGreatest_54 rfl (lv_at hl 0 rfl) ?_
      obtain ⟨b16, e17, hf⟩ := mb0 hf
      refine my_gR hx hb hts hown hK hJ fd_RX12_198 hv_12_93 e17 dX12_isGreatest_55 ?_
      refine lv_bipush (v := 6) hx hb dX12_isGreatest_58 (by decide) ?_
      refine lv_aload_n hx hb dX12_isGreatest_60 rfl (lv_at hl 0 rfl) ?_
      obtain ⟨b18, e19, hf⟩ := mb0 hf
      refine my_gR hx hb hts hown hK hJ fd_RX12_201 hv_12_94 e19 dX12_isGreatest_61 ?_
      refine lv_iload hx hb dX12_isGreatest_64 (lv_at hl 4 rfl) ?_
      obtain ⟨x20, e21, hf⟩ := mb0 hf
      refine mx_aI hx hb hK hJ e21 dX12_isGreatest_66 ?_
      refine lv_imul hx hb dX12_isGreatest_67 ?_
      refine lv_aload_n hx hb dX12_isGreatest_68 rfl (lv_at hl 0 rfl) ?_
      obtain ⟨b22, e23, hf⟩ := mb0 hf
      refine my_gR hx hb hts hown hK hJ fd_RX12_201 hv_12_94 e23 dX12_isGreatest_69 ?_
      refine lv_iload hx hb dX12_isGreatest_72 (lv_at hl 5 rfl) ?_
      obtain ⟨x24, e25, hf⟩ := mb0 hf
      refine mx_aI hx hb hK hJ e25 dX12_isGreatest_74 ?_
      refine lv_iadd hx hb dX12_isGreatest_75 ?_
      obtain ⟨x26, e27, hf⟩ := mb0 hf
      refine mx_aZ hx hb hK hJ e27 dX12_isGreatest_76 ?_
      refine lv_if_eq (tgt := 84) hx hb dX12_isGreatest_77 (by decide) (fun c28 => ?_) (fun c28 => ?_)
      · rw [if_pos c28] at hf
        refine lv_iconst (v := 0) hx hb dX12_isGreatest_84 (by decide) ?_
        exact D85_44 v0 v1 v2 v5 v6 (0 : Int32) ((2 : Int32) * v4) τ o hf Kb Ke0 _ _ hJ ls (lv_sub hl [0, 1, 2, 4, 5] rfl)
      · rw [if_neg c28] at hf
        refine lv_iconst (v := 1) hx hb dX12_isGreatest_80 (by decide) ?_
        refine lv_goto (tgt := 85) hx hb dX12_isGreatest_81 (by decide) ?_
        exact D85_44 v0 v1 v2 v5 v6 (1 : Int32) ((2 : Int32) * v4) τ o hf Kb Ke0 _ _ hJ ls (lv_sub hl [0, 1, 2, 4, 5] rfl)
  have L44 : ∀ (v0 : Nat) (v1 : Int32) (v2 : Int32) (v5 : Int32) (n : Nat) (v4 : Int32) (v6 : Int32) (τ : mx_S) (o : (Int32 × mx_S)), mx_lp (f_X12_isGreatest_L44 P v0 v1 v2 v5) n (v4, v6, τ) = some o → (∀ (y4 : Int32) (υ : mx_S), o = (y4, υ) → ∀ (H : Heap) (locs : List Loc), mx_J G P s.heap (mxz σ) (mxu σ) υ H locs → ∀ ls : Array Slot, lv_has ls 7 [(0, .ref v0), (1, .int v1), (2, .int v2), (4, .int y4), (5, .int v5)] → W p l e (mx_rm P 1 26 σ) s m ([.ref a0, .int p1, .int p2] : List Value).toArray below meth c H locs (mxz υ - mxz σ) (mxu υ - mxu σ) (mx_Z below G P (some (.int r)) σ σ' [.ref a0, .int p1, .int p2] s) (F0 m 94 ls [])) → ∀ (H : Heap) (locs : List Loc), mx_J G P s.heap (mxz σ) (mxu σ) τ H locs → ∀ ls : Array Slot, lv_has ls 7 [(0, .ref v0), (1, .int v1), (2, .int v2), (4, .int v4), (5, .int v5), (6, .int v6)] → W p l e (mx_rm P 1 26 σ) s m ([.ref a0, .int p1, .int p2] : List Value).toArray below meth c H locs (mxz τ - mxz σ) (mxu τ - mxu σ) (mx_Z below G P (some (.int r)) σ σ' [.ref a0, .int p1, .int p2] s) (F0 m 44 ls []) := by
    intro v0 v1 v2 v5 n
    induction n with
    | zero =>
      intro v4 v6 τ o hf
      rw [mx_lp0] at hf
      cases hf
    | succ n ih =>
      intro v4 v6 τ o hf Ke0 H locs hJ ls hl
      rw [mx_lpS] at hf
      obtain ⟨b, eb, hf⟩ := mb0 hf
      refine B44 v0 v1 v2 v5 v4 v6 τ b eb (fun y4 y6 υ ho H locs hJ ls hl => ?_) (fun y4 υ ho H locs hJ ls hl => ?_) H locs hJ ls hl
      · subst ho
        exact ih y4 y6 υ o hf Ke0 H locs hJ ls hl
      · subst ho
        exact Ke0 y4 υ (Option.some.inj hf).symm _ _ hJ ls hl
  have B32 : ∀ (v0 : Nat) (v1 : Int32) (v2 : Int32) (v4 : Int32) (v5 : Int32) (τ : mx_S) (o : (Int32 × Int32 × mx_S) ⊕ ((Int32 × mx_S))), f_X12_isGreatest_B32 P v0 v1 v2 v4 v5 τ = some o → (∀ (y4 : Int32) (y5 : Int32) (υ : mx_S), o = .inl (y4, y5, υ) → ∀ (H : Heap) (locs : List Loc), mx_J G P s.heap (mxz σ) (mxu σ) υ H locs → ∀ ls : Array Slot, lv_has ls 7 [(0, .ref v0), (1, .int v1), (2, .int v2), (4, .int y4), (5, .int y5)] → W p l e (mx_rm P 1 26 σ) s m ([.ref a0, .int p1, .int p2] : List Value).toArray below meth c H locs (mxz υ - mxz σ) (mxu υ - mxu σ) (mx_Z below G P (some (.int r)) σ σ' [.ref a0, .int p1, .int p2] s) (F0 m 32 ls [])) → (∀ (y4 : Int32) (υ : mx_S), o = .inr (y4, υ) → ∀ (H : Heap) (locs : List Loc), mx_J G P s.heap (mxz σ) (mxu σ) υ H locs → ∀ ls : Array Slot, lv_has ls 7 [(0, .ref v0), (1, .int v1), (2, .int v2), (4, .int y4)] → W p l e (mx_rm P 1 26 σ) s m ([.ref a0, .int p1, .int p2] : List Value).toArray below meth c H locs (mxz υ - mxz σ) (mxu υ - mxu σ) (mx_Z below G P (some (.int r)) σ σ' [.ref a0, .int p1, .int p2] s) (F0 m 100 ls [])) → ∀ (H : Heap) (locs : List Loc), mx_J G P s.heap (mxz σ) (mxu σ) τ H locs → ∀ ls : Array Slot, lv_has ls 7 [(0, .ref v0), (1, .int v1), (2, .int v2), (4, .int v4), (5, .int v5)] → W p l e (mx_rm P 1 26 σ) s m ([.ref a0, .int p1, .int p2] : List Value).toArray below meth c H locs (mxz τ - mxz σ) (mxu τ - mxu σ) (mx_Z below G P (some (.int r)) σ σ' [.ref a0, .int p1, .int p2] s) (F0 m 32 ls []) := by
    intro v0 v1 v2 v4 v5 τ o hf Kb Ke0 H locs hJ ls hl
    unfold f_X12_isGreatest_B32 at hf
    refine lv_iload hx hb dX12_isGreatest_32 (lv_at hl 4 rfl) ?_
    refine lv_iload_n hx hb dX12_isGreatest_34 rfl (lv_at hl 1 rfl) ?_
    refine lv_icmp_ge (tgt := 100) hx hb dX12_isGreatest_35 (by decide) (fun c12 => ?_) (fun c12 => ?_)
    · rw [if_pos c12] at hf
      exact Ke0 v4 τ (Option.some.inj hf).symm _ _ hJ ls (lv_sub hl [0, 1, 2, 3] rfl)
    · rw [if_neg c12] at hf
      refine lv_iload hx hb dX12_isGreatest_38 (lv_at hl 4 rfl) ?_
      refine lv_iconst (v := 1) hx hb dX12_isGreatest_40 (by decide) ?_
      refine lv_iadd hx hb dX12_isGreatest_41 ?_
      obtain ⟨x13, e14, hf⟩ := mb0 hf
      refine mx_nI e14 ?_
      refine lv_istore (lv' := [(6, .int x13), (0, .ref v0), (1, .int v1), (2, .int v2), (4, .int v4), (5, .int v5)]) hx hb dX12_isGreatest_42 hl (by decide) rfl (fun ls hl => ?_)
      obtain ⟨o33, e34, hf⟩ := mb0 hf
      refine L44 v0 v1 v2 v5 (mpN P) v4 x13 τ o33 e34 (fun y35 σ36 ho H locs hJ ls hl => ?_) _ _ hJ ls (lv_sub hl [1, 2, 3, 4, 5, 0] rfl)
      · rw [ho] at hf
        have hf : ((some (v5 + (1 : Int32))).bind fun x37 => some (.inl (y35, x37, σ36))) = some o := hf
        obtain ⟨x37, e38, hf⟩ := mb0 hf
        refine lv_iinc (v := x37) (lv' := [(5, .int x37), (0, .ref v0), (1, .int v1), (2, .int v2), (4, .int y35)]) hx hb dX12_isGreatest_94 hl (k := 4) rfl (by rw [← Option.some.inj e38]; rfl) (by decide) rfl (fun ls hl => ?_)
        refine lv_goto (tgt := 32) hx hb dX12_isGreatest_97 (by decide) ?_
        exact Kb y35 x37 σ36 (Option.some.inj hf).symm _ _ hJ ls (lv_sub hl [1, 2, 3, 4, 0] rfl)
  have L32 : ∀ (v0 : Nat) (v1 : Int32) (v2 : Int32) (n : Nat) (v4 : Int32) (v5 : Int32) (τ : mx_S) (o : (Int32 × mx_S)), mx_lp (f_X12_isGreatest_L32 P v0 v1 v2) n (v4, v5, τ) = some o → (∀ (y4 : Int32) (υ : mx_S), o = (y4, υ) → ∀ (H : Heap) (locs : List Loc), mx_J G P s.heap (mxz σ) (mxu σ) υ H locs → ∀ ls : Array Slot, lv_has ls 7 [(0, .ref v0), (1, .int v1), (2, .int v2), (4, .int y4)] → W p l e (mx_rm P 1 26 σ) s m ([.ref a0, .int p1, .int p2] : List Value).toArray below meth c H locs (mxz υ - mxz σ) (mxu υ - mxu σ) (mx_Z below G P (some (.int r)) σ σ' [.ref a0, .int p1, .int p2] s) (F0 m 100 ls [])) → ∀ (H : Heap) (locs : List Loc), mx_J G P s.heap (mxz σ) (mxu σ) τ H locs → ∀ ls : Array Slot, lv_has ls 7 [(0, .ref v0), (1, .int v1), (2, .int v2), (4, .int v4), (5, .int v5)] → W p l e (mx_rm P 1 26 σ) s m ([.ref a0, .int p1, .int p2] : List Value).toArray below meth c H locs (mxz τ - mxz σ) (mxu τ - mxu σ) (mx_Z below G P (some (.int r)) σ σ' [.ref a0, .int p1, .int p2] s) (F0 m 32 ls []) := by
    intro v0 v1 v2 n
    induction n with
    | zero =>
      intro v4 v5 τ o hf
      rw [mx_lp0] at hf
      cases hf
    | succ n ih =>
      intro v4 v5 τ o hf Ke0 H locs hJ ls hl
      rw [mx_lpS] at hf
      obtain ⟨b, eb, hf⟩ := mb0 hf
      refine B32 v0 v1 v2 v4 v5 τ b eb (fun y4 y5 υ ho H locs hJ ls hl => ?_) (fun y4 υ ho H locs hJ ls hl => ?_) H locs hJ ls hl
      · subst ho
        exact ih y4 y5 υ o hf Ke0 H locs hJ ls hl
      · subst ho
        exact Ke0 y4 υ (Option.some.inj hf).symm _ _ hJ ls hl
  have B22 : ∀ (v0 : Nat) (v1 : Int32) (v2 : Int32) (v3 : Int32) (τ : mx_S) (o : (Int32 × mx_S) ⊕ ((mx_S) ⊕ (mx_S))), f_X12_isGreatest_B22 P v0 v1 v2 v3 τ = some o → (∀ (y3 : Int32) (υ : mx_S), o = .inl (y3, υ) → ∀ (H : Heap) (locs : List Loc), mx_J G P s.heap (mxz σ) (mxu σ) υ H locs → ∀ ls : Array Slot, lv_has ls 7 [(0, .ref v0), (1, .int v1), (2, .int v2), (3, .int y3)] → W p l e (mx_rm P 1 26 σ) s m ([.ref a0, .int p1, .int p2] : List Value).toArray below meth c H locs (mxz υ - mxz σ) (mxu υ - mxu σ) (mx_Z below G P (some (.int r)) σ σ' [.ref a0, .int p1, .int p2] s) (F0 m 22 ls [])) → (∀  (υ : mx_S), o = .inr (.inl υ) → ∀ (H : Heap) (locs : List Loc), mx_J G P s.heap (mxz σ) (mxu σ) υ H locs → ∀ ls : Array Slot, lv_has ls 7 [] → W p l e (mx_rm P 1 26 σ) s m ([.ref a0, .int p1, .int p2] : List Value).toArray below meth c H locs (mxz υ - mxz σ) (mxu υ - mxu σ) (mx_Z below G P (some (.int r)) σ σ' [.ref a0, .int p1, .int p2] s) (F0 m 106 ls [])) → (∀  (υ : mx_S), o = .inr (.inr υ) → ∀ (H : Heap) (locs : List Loc), mx_J G P s.heap (mxz σ) (mxu σ) υ H locs → ∀ ls : Array Slot, lv_has ls 7 [] → W p l e (mx_rm P 1 26 σ) s m ([.ref a0, .int p1, .int p2] : List Value).toArray below meth c H locs (mxz υ - mxz σ) (mxu υ - mxu σ) (mx_Z below G P (some (.int r)) σ σ' [.ref a0, .int p1, .int p2] s) (F0 m 117 ls [])) → ∀ (H : Heap) (locs : List Loc), mx_J G P s.heap (mxz σ) (mxu σ) τ H locs → ∀ ls : Array Slot, lv_has ls 7 [(0, .ref v0), (1, .int v1), (2, .int v2), (3, .int v3)] → W p l e (mx_rm P 1 26 σ) s m ([.ref a0, .int p1, .int p2] : List Value).toArray below meth c H locs (mxz τ - mxz σ) (mxu τ - mxu σ) (mx_Z below G P (some (.int r)) σ σ' [.ref a0, .int p1, .int p2] s) (F0 m 22 ls []) := by
    intro v0 v1 v2 v3 τ o hf Kb Ke0 Ke1 H locs hJ ls hl
    unfold f_X12_isGreatest_B22 at hf
    refine lv_iload_n hx hb dX12_isGreatest_22 rfl (lv_at hl 3 rfl) ?_
    refine lv_if_eq (tgt := 117) hx hb dX12_isGreatest_23 (by decide) (fun c11 => ?_) (fun c11 => ?_)
    · rw [if_pos c11] at hf
      exact Ke1 τ (Option.some.inj hf).symm _ _ hJ ls (lv_sub hl [] rfl)
    · rw [if_neg c11] at hf
      refine lv_iconst (v := 0) hx hb dX12_isGreatest_26 (by decide) ?_
      refine lv_istore (lv' := [(4, .int (0 : Int32)), (0, .ref v0), (1, .int v1), (2, .int v2), (3, .int v3)]) hx hb dX12_isGreatest_27 hl (by decide) rfl (fun ls hl => ?_)
      refine lv_iconst (v := 0) hx hb dX12_isGreatest_29 (by decide) ?_
      refine lv_istore (lv' := [(5, .int (0 : Int32)), (4, .int (0 : Int32)), (0, .ref v0), (1, .int v1), (2, .int v2), (3, .int v3)]) hx hb dX12_isGreatest_30 hl (by decide) rfl (fun ls hl => ?_)
      obtain ⟨o39, e40, hf⟩ := mb0 hf
      refine L32 v0 v1 v2 (mpN P) (0 : Int32) (0 : Int32) τ o39 e40 (fun y41 σ42 ho H locs hJ ls hl => ?_) _ _ hJ ls (lv_sub hl [2, 3, 4, 1, 0] rfl)
      · rw [ho] at hf
        have hf : ((if y41 ≤ v2 then (mx_is σ42 v0 12).bind fun i44 => mx_b2 (f_X12_nextRow P v0 v1 σ42) fun x47 σ46 => some (.inl (x47, σ46)) else some (.inr (.inl σ42)))) = some o := hf
        refine lv_iload hx hb dX12_isGreatest_100 (lv_at hl 3 rfl) ?_
        refine lv_iload_n hx hb dX12_isGreatest_102 rfl (lv_at hl 2 rfl) ?_
        refine lv_icmp_le (tgt := 108) hx hb dX12_isGreatest_103 (by decide) (fun c43 => ?_) (fun c43 => ?_)
        · rw [if_pos c43] at hf
          refine lv_aload_n hx hb dX12_isGreatest_108 rfl (lv_at hl 0 rfl) ?_
          refine lv_iload_n hx hb dX12_isGreatest_109 rfl (lv_at hl 1 rfl) ?_
          obtain ⟨i44, e45, hf⟩ := mb0 hf
          obtain ⟨x47, σ46, e48, hf⟩ := mc0 hf
          refine mx_callV (As := [.int v1]) (rest := []) hx hb hml hts hown hK hJ rfl rfl (ci := 12) rfl e45 (c_X12_nextRow l G P v0 v1 σ42 x47 σ46 e48) me_X12_nextRow kw_2829 ks_176 kw_2827 (Nat.le_of_ble_eq_true rfl) (Nat.le_of_ble_eq_true rfl) rfl hl.1 rfl (Nat.le_of_ble_eq_true rfl) dX12_isGreatest_110 (fun H locs hJ => ?_)
          refine lv_istore_n (lv' := [(3, .int x47), (0, .ref v0), (1, .int v1), (2, .int v2), (4, .int y41)]) hx hb dX12_isGreatest_113 rfl hl (by decide) rfl (fun ls hl => ?_)
          refine lv_goto (tgt := 22) hx hb dX12_isGreatest_114 (by decide) ?_
          exact Kb x47 σ46 (Option.some.inj hf).symm _ _ hJ ls (lv_sub hl [1, 2, 3, 0] rfl)
        · rw [if_neg c43] at hf
          exact Ke0 σ42 (Option.some.inj hf).symm _ _ hJ ls (lv_sub hl [] rfl)
  have L22 : ∀ (v0 : Nat) (v1 : Int32) (v2 : Int32) (n : Nat) (v3 : Int32) (τ : mx_S) (o : (mx_S) ⊕ (mx_S)), mx_lp (f_X12_isGreatest_L22 P v0 v1 v2) n (v3, τ) = some o → (∀  (υ : mx_S), o = (.inl υ) → ∀ (H : Heap) (locs : List Loc), mx_J G P s.heap (mxz σ) (mxu σ) υ H locs → ∀ ls : Array Slot, lv_has ls 7 [] → W p l e (mx_rm P 1 26 σ) s m ([.ref a0, .int p1, .int p2] : List Value).toArray below meth c H locs (mxz υ - mxz σ) (mxu υ - mxu σ) (mx_Z below G P (some (.int r)) σ σ' [.ref a0, .int p1, .int p2] s) (F0 m 106 ls [])) → (∀  (υ : mx_S), o = (.inr υ) → ∀ (H : Heap) (locs : List Loc), mx_J G P s.heap (mxz σ) (mxu σ) υ H locs → ∀ ls : Array Slot, lv_has ls 7 [] → W p l e (mx_rm P 1 26 σ) s m ([.ref a0, .int p1, .int p2] : List Value).toArray below meth c H locs (mxz υ - mxz σ) (mxu υ - mxu σ) (mx_Z below G P (some (.int r)) σ σ' [.ref a0, .int p1, .int p2] s) (F0 m 117 ls [])) → ∀ (H : Heap) (locs : List Loc), mx_J G P s.heap (mxz σ) (mxu σ) τ H locs → ∀ ls : Array Slot, lv_has ls 7 [(0, .ref v0), (1, .int v1), (2, .int v2), (3, .int v3)] → W p l e (mx_rm P 1 26 σ) s m ([.ref a0, .int p1, .int p2] : List Value).toArray below meth c H locs (mxz τ - mxz σ) (mxu τ - mxu σ) (mx_Z below G P (some (.int r)) σ σ' [.ref a0, .int p1, .int p2] s) (F0 m 22 ls []) := by
    intro v0 v1 v2 n
    induction n with
    | zero =>
      intro v3 τ o hf
      rw [mx_lp0] at hf
      cases hf
    | succ n ih =>
      intro v3 τ o hf Ke0 Ke1 H locs hJ ls hl
      rw [mx_lpS] at hf
      obtain ⟨b, eb, hf⟩ := mb0 hf
      refine B22 v0 v1 v2 v3 τ b eb (fun y3 υ ho H locs hJ ls hl => ?_) (fun  υ ho H locs hJ ls hl => ?_) (fun  υ ho H locs hJ ls hl => ?_) H locs hJ ls hl
      · subst ho
        exact ih y3 υ o hf Ke0 Ke1 H locs hJ ls hl
      · subst ho
        exact Ke0  υ (Option.some.inj hf).symm _ _ hJ ls hl
      · subst ho
        exact Ke1  υ (Option.some.inj hf).symm _ _ hJ ls hl
  unfold f_X12_isGreatest at hf
  refine lv_iconst (v := 0) hx hb dX12_isGreatest_0 (by decide) ?_
  refine lv_istore_n (lv' := [(3, .int (0 : Int32)), (0, .ref a0), (1, .int p1), (2, .int p2)]) hx hb dX12_isGreatest_1 rfl hl (by decide) rfl (fun ls hl => ?_)
  obtain ⟨o8, e9, hf⟩ := mb0 hf
  refine L2 a0 p1 p2 (mpN P) (0 : Int32) σ o8 e9 (fun σ10 ho H locs hJ ls hl => ?_) _ _ hJ ls (lv_sub hl [1, 2, 3, 0] rfl)
  · rw [ho] at hf
    have hf : ((mx_lp (f_X12_isGreatest_L22 P a0 p1 p2) (mpN P) ((1 : Int32), σ10)).bind (Sum.elim (fun t => (fun σ51 => mr_Z (0 : Int32) σ51) t) (fun t => (fun σ52 => mr_Z (1 : Int32) σ52) t))) = some (r, σ') := hf
    refine lv_iconst (v := 1) hx hb dX12_isGreatest_20 (by decide) ?_
    refine lv_istore_n (lv' := [(3, .int (1 : Int32)), (0, .ref a0), (1, .int p1), (2, .int p2)]) hx hb dX12_isGreatest_21 rfl hl (by decide) rfl (fun ls hl => ?_)
    obtain ⟨o49, e50, hf⟩ := mb0 hf
    refine L22 a0 p1 p2 (mpN P) (1 : Int32) σ10 o49 e50 (fun σ51 ho H locs hJ ls hl => ?_) (fun σ52 ho H locs hJ ls hl => ?_) _ _ hJ ls (lv_sub hl [1, 2, 3, 0] rfl)
    · rw [ho] at hf
      have hf : (mr_Z (0 : Int32) σ51) = some (r, σ') := hf
      refine lv_iconst (v := 0) hx hb dX12_isGreatest_106 (by decide) ?_
      exact mx_zret hx hb hr hlocks hJ hf dX12_isGreatest_107
    · rw [ho] at hf
      have hf : (mr_Z (1 : Int32) σ52) = some (r, σ') := hf
      refine lv_iconst (v := 1) hx hb dX12_isGreatest_117 (by decide) ?_
      exact mx_zret hx hb hr hlocks hJ hf dX12_isGreatest_118
set_option maxHeartbeats 4000000 in
set_option maxRecDepth 100000 in
theorem c_X12_kinds (l : Launch) (G : mx_G) (P : mx_P) (a0 : Nat) (p1 : Int32) (p2 : Int32) (σ : mx_S) (r : Int32) (σ' : mx_S) (hf : f_X12_kinds P a0 p1 p2 σ = some (r, σ')) : mxz σ ≤ mpc P → mxu σ ≤ mps P → mx_M l yX12_kinds cX12_kinds 6 (some .int) 2 52 G P [.ref a0, .int p1, .int p2] σ (some (.int r)) σ' := by
  intro hcap hcau
  refine mx_ofW (by decide +kernel) hcap hcau (Nat.le_of_ble_eq_true rfl) ?_
  intro p e s m below meth c hx hb hr hml hts hown hlocks hname hK hJ ls hl
  have hz0 := hJ.2.1
  have hown : s.vm.findClass RX12 = some m.cls := hown
  have hl : lv_has ls 6 [(0, .ref a0), (1, .int p1), (2, .int p2)] := hl
  have B71 : ∀ (v0 : Nat) (v1 : Int32) (v2 : Int32) (v3 : Int32) (v4 : Int32) (v5 : Int32) (τ : mx_S) (o : (Int32 × Int32 × mx_S) ⊕ ((Int32 × mx_S))), f_X12_kinds_B71 P v0 v1 v2 v3 v4 v5 τ = some o → (∀ (y4 : Int32) (y5 : Int32) (υ : mx_S), o = .inl (y4, y5, υ) → ∀ (H : Heap) (locs : List Loc), mx_J G P s.heap (mxz σ) (mxu σ) υ H locs → ∀ ls : Array Slot, lv_has ls 6 [(0, .ref v0), (1, .int v1), (2, .int v2), (3, .int v3), (4, .int y4), (5, .int y5)] → W p l e (mx_rm P 2 52 σ) s m ([.ref a0, .int p1, .int p2] : List Value).toArray below meth c H locs (mxz υ - mxz σ) (mxu υ - mxu σ) (mx_Z below G P (some (.int r)) σ σ' [.ref a0, .int p1, .int p2] s) (F0 m 71 ls [])) → (∀ (y4 : Int32) (υ : mx_S), o = .inr (y4, υ) → ∀ (H : Heap) (locs : List Loc), mx_J G P s.heap (mxz σ) (mxu σ) υ H locs → ∀ ls : Array Slot, lv_has ls 6 [(0, .ref v0), (1, .int v1), (2, .int v2), (3, .int v3), (4, .int y4)] → W p l e (mx_rm P 2 52 σ) s m ([.ref a0, .int p1, .int p2] : List Value).toArray below meth c H locs (mxz υ - mxz σ) (mxu υ - mxu σ) (mx_Z below G P (some (.int r)) σ σ' [.ref a0, .int p1, .int p2] s) (F0 m 95 ls [])) → ∀ (H : Heap) (locs : List Loc), mx_J G P s.heap (mxz σ) (mxu σ) τ H locs → ∀ ls : Array Slot, lv_has ls 6 [(0, .ref v0), (1, .int v1), (2, .int v2), (3, .int v3), (4, .int v4), (5, .int v5)] → W p l e (mx_rm P 2 52 σ) s m ([.ref a0, .int p1, .int p2] : List Value).toArray below meth c H locs (mxz τ - mxz σ) (mxu τ - mxu σ) (mx_Z below G P (some (.int r)) σ σ' [.ref a0, .int p1, .int p2] s) (F0 m 71 ls []) := by
    intro v0 v1 v2 v3 v4 v5 τ o hf Kb Ke0 H locs hJ ls hl
    unfold f_X12_kinds_B71 at hf
    refine lv_iload hx hb dX12_kinds_71 (lv_at hl 5 rfl) ?_
    refine lv_bipush (v := 15) hx hb dX12_kinds_73 (by decide) ?_
    refine lv_icmp_ge (tgt := 95) hx hb dX12_kinds_75 (by decide) (fun c17 => ?_) (fun c17 => ?_)
    · rw [if_pos c17] at hf
      exact Ke0 v4 τ (Option.some.inj hf).symm _ _ hJ ls (lv_sub hl [0, 1, 2, 3, 4] rfl)
    · rw [if_neg c17] at hf
      refine lv_iload hx hb dX12_kinds_78 (lv_at hl 4 rfl) ?_
      refine lv_iload_n hx hb dX12_kinds_80 rfl (lv_at hl 3 rfl) ?_
      refine lv_iload hx hb dX12_kinds_81 (lv_at hl 5 rfl) ?_
      refine lv_ishr hx hb dX12_kinds_83 ?_
      refine lv_iconst (v := 1) hx hb dX12_kinds_84 (by decide) ?_
      refine lv_iand hx hb dX12_kinds_85 ?_
      refine lv_iadd hx hb dX12_kinds_86 ?_
      obtain ⟨x18, e19, hf⟩ := mb0 hf
      refine mx_nI e19 ?_
      refine lv_istore (lv' := [(4, .int x18), (0, .ref v0), (1, .int v1), (2, .int v2), (3, .int v3), (5, .int v5)]) hx hb dX12_kinds_87 hl (by decide) rfl (fun ls hl => ?_)
      obtain ⟨x20, e21, hf⟩ := mb0 hf
      refine lv_iinc (v := x20) (lv' := [(5, .int x20), (4, .int x18), (0, .ref v0), (1, .int v1), (2, .int v2), (3, .int v3)]) hx hb dX12_kinds_89 hl (k := 5) rfl (by rw [← Option.some.inj e21]; rfl) (by decide) rfl (fun ls hl => ?_)
      refine lv_goto (tgt := 71) hx hb dX12_kinds_92 (by decide) ?_
      exact Kb x18 x20 τ (Option.some.inj hf).symm _ _ hJ ls (lv_sub hl [2, 3, 4, 5, 1, 0] rfl)
  have L71 : ∀ (v0 : Nat) (v1 : Int32) (v2 : Int32) (v3 : Int32) (n : Nat) (v4 : Int32) (v5 : Int32) (τ : mx_S) (o : (Int32 × mx_S)), mx_lp (f_X12_kinds_L71 P v0 v1 v2 v3) n (v4, v5, τ) = some o → (∀ (y4 : Int32) (υ : mx_S), o = (y4, υ) → ∀ (H : Heap) (locs : List Loc), mx_J G P s.heap (mxz σ) (mxu σ) υ H locs → ∀ ls : Array Slot, lv_has ls 6 [(0, .ref v0), (1, .int v1), (2, .int v2), (3, .int v3), (4, .int y4)] → W p l e (mx_rm P 2 52 σ) s m ([.ref a0, .int p1, .int p2] : List Value).toArray below meth c H locs (mxz υ - mxz σ) (mxu υ - mxu σ) (mx_Z below G P (some (.int r)) σ σ' [.ref a0, .int p1, .int p2] s) (F0 m 95 ls [])) → ∀ (H : Heap) (locs : List Loc), mx_J G P s.heap (mxz σ) (mxu σ) τ H locs → ∀ ls : Array Slot, lv_has ls 6 [(0, .ref v0), (1, .int v1), (2, .int v2), (3, .int v3), (4, .int v4), (5, .int v5)] → W p l e (mx_rm P 2 52 σ) s m ([.ref a0, .int p1, .int p2] : List Value).toArray below meth c H locs (mxz τ - mxz σ) (mxu τ - mxu σ) (mx_Z below G P (some (.int r)) σ σ' [.ref a0, .int p1, .int p2] s) (F0 m 71 ls []) := by
    intro v0 v1 v2 v3 n
    induction n with
    | zero =>
      intro v4 v5 τ o hf
      rw [mx_lp0] at hf
      cases hf
    | succ n ih =>
      intro v4 v5 τ o hf Ke0 H locs hJ ls hl
      rw [mx_lpS] at hf
      obtain ⟨b, eb, hf⟩ := mb0 hf
      refine B71 v0 v1 v2 v3 v4 v5 τ b eb (fun y4 y5 υ ho H locs hJ ls hl => ?_) (fun y4 υ ho H locs hJ ls hl => ?_) H locs hJ ls hl
      · subst ho
        exact ih y4 y5 υ o hf Ke0 H locs hJ ls hl
      · subst ho
        exact Ke0 y4 υ (Option.some.inj hf).symm _ _ hJ ls hl
  have D150_61 : ∀ (v0 : Nat) (v1 : Int32) (v2 : Int32) (v3 : Int32) (τ : mx_S) (o : (Int32 × mx_S) ⊕ ((mx_S))), f_X12_kinds_D150_61 P v0 v1 v2 v3 τ = some o → (∀ (y3 : Int32) (υ : mx_S), o = .inl (y3, υ) → ∀ (H : Heap) (locs : List Loc), mx_J G P s.heap (mxz σ) (mxu σ) υ H locs → ∀ ls : Array Slot, lv_has ls 6 [(0, .ref v0), (1, .int v1), (2, .int v2), (3, .int y3)] → W p l e (mx_rm P 2 52 σ) s m ([.ref a0, .int p1, .int p2] : List Value).toArray below meth c H locs (mxz υ - mxz σ) (mxu υ - mxu σ) (mx_Z below G P (some (.int r)) σ σ' [.ref a0, .int p1, .int p2] s) (F0 m 61 ls [])) → (∀  (υ : mx_S), o = .inr υ → ∀ (H : Heap) (locs : List Loc), mx_J G P s.heap (mxz σ) (mxu σ) υ H locs → ∀ ls : Array Slot, lv_has ls 6 [(0, .ref v0)] → W p l e (mx_rm P 2 52 σ) s m ([.ref a0, .int p1, .int p2] : List Value).toArray below meth c H locs (mxz υ - mxz σ) (mxu υ - mxu σ) (mx_Z below G P (some (.int r)) σ σ' [.ref a0, .int p1, .int p2] s) (F0 m 156 ls [])) → ∀ (H : Heap) (locs : List Loc), mx_J G P s.heap (mxz σ) (mxu σ) τ H locs → ∀ ls : Array Slot, lv_has ls 6 [(0, .ref v0), (1, .int v1), (2, .int v2), (3, .int v3)] → W p l e (mx_rm P 2 52 σ) s m ([.ref a0, .int p1, .int p2] : List Value).toArray below meth c H locs (mxz τ - mxz σ) (mxu τ - mxu σ) (mx_Z below G P (some (.int r)) σ σ' [.ref a0, .int p1, .int p2] s) (F0 m 150 ls []) := by
    intro v0 v1 v2 v3 τ o hf Kb Ke0 H locs hJ ls hl
    unfold f_X12_kinds_D150_61 at hf
    obtain ⟨x37, e38, hf⟩ := mb0 hf
    refine lv_iinc (v := x37) (lv' := [(3, .int x37), (0, .ref v0), (1, .int v1), (2, .int v2)]) hx hb dX12_kinds_150 hl (k := 3) rfl (by rw [← Option.some.inj e38]; rfl) (by decide) rfl (fun ls hl => ?_)
    refine lv_goto (tgt := 61) hx hb dX12_kinds_153 (by decide) ?_
    exact Kb x37 τ (Option.some.inj hf).symm _ _ hJ ls (lv_sub hl [1, 2, 3, 0] rfl)
  have B61 : ∀ (v0 : Nat) (v1 : Int32) (v2 : Int32) (v3 : Int32) (τ : mx_S) (o : (Int32 × mx_S) ⊕ ((mx_S))), f_X12_kinds_B61 P v0 v1 v2 v3 τ = some o → (∀ (y3 : Int32) (υ : mx_S), o = .inl (y3, υ) → ∀ (H : Heap) (locs : List Loc), mx_J G P s.heap (mxz σ) (mxu σ) υ H locs → ∀ ls : Array Slot, lv_has ls 6 [(0, .ref v0), (1, .int v1), (2, .int v2), (3, .int y3)] → W p l e (mx_rm P 2 52 σ) s m ([.ref a0, .int p1, .int p2] : List Value).toArray below meth c H locs (mxz υ - mxz σ) (mxu υ - mxu σ) (mx_Z below G P (some (.int r)) σ σ' [.ref a0, .int p1, .int p2] s) (F0 m 61 ls [])) → (∀  (υ : mx_S), o = .inr υ → ∀ (H : Heap) (locs : List Loc), mx_J G P s.heap (mxz σ) (mxu σ) υ H locs → ∀ ls : Array Slot, lv_has ls 6 [(0, .ref v0)] → W p l e (mx_rm P 2 52 σ) s m ([.ref a0, .int p1, .int p2] : List Value).toArray below meth c H locs (mxz υ - mxz σ) (mxu υ - mxu σ) (mx_Z below G P (some (.int r)) σ σ' [.ref a0, .int p1, .int p2] s) (F0 m 156 ls [])) → ∀ (H : Heap) (locs : List Loc), mx_J G P s.heap (mxz σ) (mxu σ) τ H locs → ∀ ls : Array Slot, lv_has ls 6 [(0, .ref v0), (1, .int v1), (2, .int v2), (3, .int v3)] → W p l e (mx_rm P 2 52 σ) s m ([.ref a0, .int p1, .int p2] : List Value).toArray below meth c H locs (mxz τ - mxz σ) (mxu τ - mxu σ) (mx_Z below G P (some (.int r)) σ σ' [.ref a0, .int p1, .int p2] s) (F0 m 61 ls []) := by
    intro v0 v1 v2 v3 τ o hf Kb Ke0 H locs hJ ls hl
    unfold f_X12_kinds_B61 at hf
    refine lv_iload_n hx hb dX12_kinds_61 rfl (lv_at hl 3 rfl) ?_
    refine lv_if_lt (tgt := 156) hx hb dX12_kinds_62 (by decide) (fun c16 => ?_) (fun c16 => ?_)
    · rw [if_pos c16] at hf
      exact Ke0 τ (Option.some.inj hf).symm _ _ hJ ls (lv_sub hl [0] rfl)
    · rw [if_neg c16] at hf
      refine lv_iconst (v := 0) hx hb dX12_kinds_65 (by decide) ?_
      refine lv_istore (lv' := [(4, .int (0 : Int32)), (0, .ref v0), (1, .int v1), (2, .int v2), (3, .int v3)]) hx hb dX12_kinds_66 hl (by decide) rfl (fun ls hl => ?_)
      refine lv_iconst (v := 0) hx hb dX12_kinds_68 (by decide) ?_
      refine lv_istore (lv' := [(5, .int (0 : Int32)), (4, .int (0 : Int32)), (0, .ref v0), (1, .int v1), (2, .int v2), (3, .int v3)]) hx hb dX12_kinds_69 hl (by decide) rfl (fun ls hl => ?_)
      obtain ⟨o22, e23, hf⟩ := mb0 hf
      refine L71 v0 v1 v2 v3 (mpN P) (0 : Int32) (0 : Int32) τ o22 e23 (fun y24 σ25 ho H locs hJ ls hl => ?_) _ _ hJ ls (lv_sub hl [2, 3, 4, 5, 1, 0] rfl)
      · rw [ho] at hf
        have hf : ((if y24 = v2 then (mx_is σ25 v0 12).bind fun i27 => (f_X12_readCode P v0 v1 v3 σ25).bind fun σ29 => (mx_is σ29 v0 12).bind fun i31 => mx_b2 (f_X12_isChain P v0 v1 σ29) fun x34 σ33 => (if x34 = 0 then f_X12_kinds_D150_61 P v0 v1 v2 v3 σ33 else (mx_is σ33 v0 12).bind fun i39 => mx_b2 (f_X12_isGreatest P v0 v1 v3 σ33) fun x42 σ41 => (if x42 = 0 then f_X12_kinds_D150_61 P v0 v1 v2 v3 σ41 else (mg_R σ41 v0 12 92).bind fun b45 => (mg_I σ41 v0 12 91).bind fun x47 => (ms_I P σ41 b45 0 x47 v3).bind fun σ49 => (mg_I σ49 v0 12 91).bind fun x51 => (mp_I P σ49 v0 12 91 (x51 + (1 : Int32))).bind fun σ53 => f_X12_kinds_D150_61 P v0 v1 v2 v3 σ53)) else f_X12_kinds_D150_61 P v0 v1 v2 v3 σ25)) = some o := hf
        refine lv_iload hx hb dX12_kinds_95 (lv_at hl 4 rfl) ?_
        refine lv_iload_n hx hb dX12_kinds_97 rfl (lv_at hl 2 rfl) ?_
        refine lv_icmp_eq (tgt := 104) hx hb dX12_kinds_98 (by decide) (fun c26 => ?_) (fun c26 => ?_)
        · rw [if_pos c26] at hf
          refine lv_aload_n hx hb dX12_kinds_104 rfl (lv_at hl 0 rfl) ?_
          refine lv_iload_n hx hb dX12_kinds_105 rfl (lv_at hl 1 rfl) ?_
          refine lv_iload_n hx hb dX12_kinds_106 rfl (lv_at hl 3 rfl) ?_
          obtain ⟨i27, e28, hf⟩ := mb0 hf
          obtain ⟨σ29, e30, hf⟩ := mb0 hf
          refine mx_callV (As := [.int v1, .int v3]) (rest := []) hx hb hml hts hown hK hJ rfl rfl (ci := 12) rfl e28 (c_X12_readCode l G P v0 v1 v3 σ25 σ29 e30) me_X12_readCode kw_2817 ks_173 kw_2815 (Nat.le_of_ble_eq_true rfl) (Nat.le_of_ble_eq_true rfl) rfl hl.1 rfl (Nat.le_of_ble_eq_true rfl) dX12_kinds_107 (fun H locs hJ => ?_)
          refine lv_aload_n hx hb dX12_kinds_110 rfl (lv_at hl 0 rfl) ?_
          refine lv_iload_n hx hb dX12_kinds_111 rfl (lv_at hl 1 rfl) ?_
          obtain ⟨i31, e32, hf⟩ := mb0 hf
          obtain ⟨x34, σ33, e35, hf⟩ := mc0 hf
          refine mx_callV (As := [.int v1]) (rest := []) hx hb hml hts hown hK hJ rfl rfl (ci := 12) rfl e32 (c_X12_isChain l G P v0 v1 σ29 x34 σ33 e35) me_X12_isChain kw_2821 ks_174 kw_2819 (Nat.le_of_ble_eq_true rfl) (Nat.le_of_ble_eq_true rfl) rfl hl.1 rfl (Nat.le_of_ble_eq_true rfl) dX12_kinds_112 (fun H locs hJ => ?_)
          refine lv_if_eq (tgt := 150) hx hb dX12_kinds_115 (by decide) (fun c36 => ?_) (fun c36 => ?_)
          · rw [if_pos c36] at hf
            exact D150_61 v0 v1 v2 v3 σ33 o hf Kb Ke0 _ _ hJ ls (lv_sub hl [0, 1, 2, 3] rfl)
          · rw [if_neg c36] at hf
            refine lv_aload_n hx hb dX12_kinds_118 rfl (lv_at hl 0 rfl) ?_
            refine lv_iload_n hx hb dX12_kinds_119 rfl (lv_at hl 1 rfl) ?_
            refine lv_iload_n hx hb dX12_kinds_120 rfl (lv_at hl 3 rfl) ?_
            obtain ⟨i39, e40, hf⟩ := mb0 hf
            obtain ⟨x42, σ41, e43, hf⟩ := mc0 hf
            refine mx_callV (As := [.int v1, .int v3]) (rest := []) hx hb hml hts hown hK hJ rfl rfl (ci := 12) rfl e40 (c_X12_isGreatest l G P v0 v1 v3 σ33 x42 σ41 e43) me_X12_isGreatest kw_2825 ks_175 kw_2823 (Nat.le_of_ble_eq_true rfl) (Nat.le_of_ble_eq_true rfl) rfl hl.1 rfl (Nat.le_of_ble_eq_true rfl) dX12_kinds_121 (fun H locs hJ => ?_)
            refine lv_if_ne (tgt := 130) hx hb dX12_kinds_124 (by decide) (fun c44 => ?_) (fun c44 => ?_)
            · rw [if_neg c44] at hf
              refine lv_aload_n hx hb dX12_kinds_130 rfl (lv_at hl 0 rfl) ?_
              obtain ⟨b45, e46, hf⟩ := mb0 hf
              refine my_gR hx hb hts hown hK hJ fd_RX12_195 hv_12_92 e46 dX12_kinds_131 ?_
              refine lv_aload_n hx hb dX12_kinds_134 rfl (lv_at hl 0 rfl) ?_
              obtain ⟨x47, e48, hf⟩ := mb0 hf
              refine my_gI hx hb hts hown hK hJ fd_RX12_780 hv_12_91 e48 dX12_kinds_135 ?_
              refine lv_iload_n hx hb dX12_kinds_138 rfl (lv_at hl 3 rfl) ?_
              obtain ⟨σ49, e50, hf⟩ := mb0 hf
              refine mx_sI hx hb hK hJ e50 dX12_kinds_139 (fun H locs hJ => ?_)
              refine lv_aload_n hx hb dX12_kinds_140 rfl (lv_at hl 0 rfl) ?_
              refine lv_dup hx hb dX12_kinds_141 rfl ?_
              obtain ⟨x51, e52, hf⟩ := mb0 hf
              refine my_gI hx hb hts hown hK hJ fd_RX12_780 hv_12_91 e52 dX12_kinds_142 ?_
              refine lv_iconst (v := 1) hx hb dX12_kinds_145 (by decide) ?_
              refine lv_iadd hx hb dX12_kinds_146 ?_
              obtain ⟨σ53, e54, hf⟩ := mb0 hf
              refine my_pI hx hb hts hown hK hJ fd_RX12_780 cd_12 (Or.inl rfl) ht_12_91 e54 dX12_kinds_147 (fun H locs hJ => ?_)
              exact D150_61 v0 v1 v2 v3 σ53 o hf Kb Ke0 _ _ hJ ls (lv_sub hl [0, 1, 2, 3] rfl)
            · rw [if_pos c44] at hf
              refine lv_goto (tgt := 150) hx hb dX12_kinds_127 (by decide) ?_
              exact D150_61 v0 v1 v2 v3 σ41 o hf Kb Ke0 _ _ hJ ls (lv_sub hl [0, 1, 2, 3] rfl)
        · rw [if_neg c26] at hf
          refine lv_goto (tgt := 150) hx hb dX12_kinds_101 (by decide) ?_
          exact D150_61 v0 v1 v2 v3 σ25 o hf Kb Ke0 _ _ hJ ls (lv_sub hl [0, 1, 2, 3] rfl)
  have L61 : ∀ (v0 : Nat) (v1 : Int32) (v2 : Int32) (n : Nat) (v3 : Int32) (τ : mx_S) (o : (mx_S)), mx_lp (f_X12_kinds_L61 P v0 v1 v2) n (v3, τ) = some o → (∀  (υ : mx_S), o = υ → ∀ (H : Heap) (locs : List Loc), mx_J G P s.heap (mxz σ) (mxu σ) υ H locs → ∀ ls : Array Slot, lv_has ls 6 [(0, .ref v0)] → W p l e (mx_rm P 2 52 σ) s m ([.ref a0, .int p1, .int p2] : List Value).toArray below meth c H locs (mxz υ - mxz σ) (mxu υ - mxu σ) (mx_Z below G P (some (.int r)) σ σ' [.ref a0, .int p1, .int p2] s) (F0 m 156 ls [])) → ∀ (H : Heap) (locs : List Loc), mx_J G P s.heap (mxz σ) (mxu σ) τ H locs → ∀ ls : Array Slot, lv_has ls 6 [(0, .ref v0), (1, .int v1), (2, .int v2), (3, .int v3)] → W p l e (mx_rm P 2 52 σ) s m ([.ref a0, .int p1, .int p2] : List Value).toArray below meth c H locs (mxz τ - mxz σ) (mxu τ - mxu σ) (mx_Z below G P (some (.int r)) σ σ' [.ref a0, .int p1, .int p2] s) (F0 m 61 ls []) := by
    intro v0 v1 v2 n
    induction n with
    | zero =>
      intro v3 τ o hf
      rw [mx_lp0] at hf
      cases hf
    | succ n ih =>
      intro v3 τ o hf Ke0 H locs hJ ls hl
      rw [mx_lpS] at hf
      obtain ⟨b, eb, hf⟩ := mb0 hf
      refine B61 v0 v1 v2 v3 τ b eb (fun y3 υ ho H locs hJ ls hl => ?_) (fun  υ ho H locs hJ ls hl => ?_) H locs hJ ls hl
      · subst ho
        exact ih y3 υ o hf Ke0 H locs hJ ls hl
      · subst ho
        exact Ke0  υ (Option.some.inj hf).symm _ _ hJ ls hl
  have D32 : ∀ (v0 : Nat) (v1 : Int32) (v2 : Int32) (w0 : Int32) (w1 : Nat) (τ : mx_S), f_X12_kinds_D32 P v0 v1 v2 w0 w1 τ = some (r, σ') → ∀ (H : Heap) (locs : List Loc), mx_J G P s.heap (mxz σ) (mxu σ) τ H locs → ∀ ls : Array Slot, lv_has ls 6 [(0, .ref v0), (1, .int v1), (2, .int v2)] → W p l e (mx_rm P 2 52 σ) s m ([.ref a0, .int p1, .int p2] : List Value).toArray below meth c H locs (mxz τ - mxz σ) (mxu τ - mxu σ) (mx_Z below G P (some (.int r)) σ σ' [.ref a0, .int p1, .int p2] s) (F0 m 32 ls [.int w0, .ref w1]) := by
    intro v0 v1 v2 w0 w1 τ hf _ _ hJ ls hl
    unfold f_X12_kinds_D32 at hf
    obtain ⟨σ5, e6, hf⟩ := mb0 hf
    refine my_pI hx hb hts hown hK hJ fd_RX12_243 cd_12 (Or.inl rfl) ht_12_0 e6 dX12_kinds_32 (fun H locs hJ => ?_)
    refine lv_aload_n hx hb dX12_kinds_35 rfl (lv_at hl 0 rfl) ?_
    obtain ⟨x7, e8, hf⟩ := mb0 hf
    refine my_gI hx hb hts hown hK hJ fd_RX12_243 hv_12_0 e8 dX12_kinds_36 ?_
    refine lv_if_le (tgt := 44) hx hb dX12_kinds_39 (by decide) (fun c9 => ?_) (fun c9 => ?_)
    · rw [if_pos c9] at hf
      refine lv_aload_n hx hb dX12_kinds_44 rfl (lv_at hl 0 rfl) ?_
      refine lv_iconst (v := 0) hx hb dX12_kinds_45 (by decide) ?_
      obtain ⟨σ10, e11, hf⟩ := mb0 hf
      refine my_pI hx hb hts hown hK hJ fd_RX12_780 cd_12 (Or.inl rfl) ht_12_91 e11 dX12_kinds_46 (fun H locs hJ => ?_)
      refine lv_iconst (v := 1) hx hb dX12_kinds_49 (by decide) ?_
      refine lv_iload_n hx hb dX12_kinds_50 rfl (lv_at hl 1 rfl) ?_
      refine lv_iload_n hx hb dX12_kinds_51 rfl (lv_at hl 1 rfl) ?_
      refine lv_iconst (v := 1) hx hb dX12_kinds_52 (by decide) ?_
      refine lv_isub hx hb dX12_kinds_53 ?_
      refine lv_imul hx hb dX12_kinds_54 ?_
      refine lv_iconst (v := 2) hx hb dX12_kinds_55 (by decide) ?_
      obtain ⟨x12, e13, hf⟩ := mb0 hf
      refine lv_idiv hx hb dX12_kinds_56 (md_Is e13).1 ?_
      refine mx_eI (md_Is e13).2 ?_
      refine lv_ishl hx hb dX12_kinds_57 ?_
      refine lv_iconst (v := 1) hx hb dX12_kinds_58 (by decide) ?_
      refine lv_isub hx hb dX12_kinds_59 ?_
      obtain ⟨x14, e15, hf⟩ := mb0 hf
      refine mx_nI e15 ?_
      refine lv_istore_n (lv' := [(3, .int x14), (0, .ref v0), (1, .int v1), (2, .int v2)]) hx hb dX12_kinds_60 rfl hl (by decide) rfl (fun ls hl => ?_)
      obtain ⟨o55, e56, hf⟩ := mb0 hf
      refine L61 v0 v1 v2 (mpN P) x14 σ10 o55 e56 (fun σ57 ho H locs hJ ls hl => ?_) _ _ hJ ls (lv_sub hl [1, 2, 3, 0] rfl)
      · rw [ho] at hf
        have hf : ((mg_I σ57 v0 12 91).bind fun x58 => some (x58, σ57)) = some (r, σ') := hf
        refine lv_aload_n hx hb dX12_kinds_156 rfl (lv_at hl 0 rfl) ?_
        obtain ⟨x58, e59, hf⟩ := mb0 hf
        refine my_gI hx hb hts hown hK hJ fd_RX12_780 hv_12_91 e59 dX12_kinds_157 ?_
        exact my_iret hx hb hr hlocks hJ hf dX12_kinds_160
    · rw [if_neg c9] at hf
      refine lv_iconst (v := 0) hx hb dX12_kinds_42 (by decide) ?_
      exact my_iret hx hb hr hlocks hJ hf dX12_kinds_43
  have D31 : ∀ (v0 : Nat) (v1 : Int32) (v2 : Int32) (w0 : Nat) (τ : mx_S), f_X12_kinds_D31 P v0 v1 v2 w0 τ = some (r, σ') → ∀ (H : Heap) (locs : List Loc), mx_J G P s.heap (mxz σ) (mxu σ) τ H locs → ∀ ls : Array Slot, lv_has ls 6 [(0, .ref v0), (1, .int v1), (2, .int v2)] → W p l e (mx_rm P 2 52 σ) s m ([.ref a0, .int p1, .int p2] : List Value).toArray below meth c H locs (mxz τ - mxz σ) (mxu τ - mxu σ) (mx_Z below G P (some (.int r)) σ σ' [.ref a0, .int p1, .int p2] s) (F0 m 31 ls [.ref w0]) := by
    intro v0 v1 v2 w0 τ hf _ _ hJ ls hl
    unfold f_X12_kinds_D31 at hf
    refine lv_iconst (v := 1) hx hb dX12_kinds_31 (by decide) ?_
    exact D32 v0 v1 v2 (1 : Int32) w0 τ hf _ _ hJ ls (lv_sub hl [0, 1, 2] rfl)
  unfold f_X12_kinds at hf
  refine lv_aload_n hx hb dX12_kinds_0 rfl (lv_at hl 0 rfl) ?_
  refine lv_iload_n hx hb dX12_kinds_1 rfl (lv_at hl 1 rfl) ?_
  refine lv_i2l hx hb dX12_kinds_2 rfl ?_
  refine lv_ldc2 hx hb hown (hts _ kw_2354) dX12_kinds_3 ?_
  refine lv_ldc2 hx hb hown (hts _ kw_2714) dX12_kinds_6 ?_
  obtain ⟨x2, σ1, e3, hf⟩ := mc0 hf
  refine mx_callS (As := [.long (p1.toInt64), .long (3 : Int64), .long (6 : Int64)]) (rest := [.ref a0]) hx hb hml hts hown hK hJ rfl rfl (c_X12_in l G P (p1.toInt64) (3 : Int64) (6 : Int64) σ x2 σ1 e3) me_X12_in kw_2223 kw_2222 (Nat.le_of_ble_eq_true rfl) (Nat.le_of_ble_eq_true rfl) rfl hl.1 rfl (Nat.le_of_ble_eq_true rfl) dX12_kinds_9 (fun H locs hJ => ?_)
  refine lv_if_eq (tgt := 31) hx hb dX12_kinds_12 (by decide) (fun c4 => ?_) (fun c4 => ?_)
  · rw [if_pos c4] at hf
    exact D31 a0 p1 p2 a0 σ1 hf _ _ hJ ls (lv_sub hl [0, 1, 2] rfl)
  · rw [if_neg c4] at hf
    refine lv_iload_n hx hb dX12_kinds_15 rfl (lv_at hl 2 rfl) ?_
    refine lv_i2l hx hb dX12_kinds_16 rfl ?_
    refine lv_lconst (v := 0) hx hb dX12_kinds_17 (by decide) ?_
    refine lv_ldc2 hx hb hown (hts _ kw_2741) dX12_kinds_18 ?_
    obtain ⟨x61, σ60, e62, hf⟩ := mc0 hf
    refine mx_callS (As := [.long (p2.toInt64), .long (0 : Int64), .long (15 : Int64)]) (rest := [.ref a0]) hx hb hml hts hown hK hJ rfl rfl (c_X12_in l G P (p2.toInt64) (0 : Int64) (15 : Int64) σ1 x61 σ60 e62) me_X12_in kw_2223 kw_2222 (Nat.le_of_ble_eq_true rfl) (Nat.le_of_ble_eq_true rfl) rfl hl.1 rfl (Nat.le_of_ble_eq_true rfl) dX12_kinds_21 (fun H locs hJ => ?_)
    refine lv_if_eq (tgt := 31) hx hb dX12_kinds_24 (by decide) (fun c63 => ?_) (fun c63 => ?_)
    · rw [if_pos c63] at hf
      exact D31 a0 p1 p2 a0 σ60 hf _ _ hJ ls (lv_sub hl [0, 1, 2] rfl)
    · rw [if_neg c63] at hf
      refine lv_iconst (v := 0) hx hb dX12_kinds_27 (by decide) ?_
      refine lv_goto (tgt := 32) hx hb dX12_kinds_28 (by decide) ?_
      exact D32 a0 p1 p2 (0 : Int32) a0 σ60 hf _ _ hJ ls (lv_sub hl [0, 1, 2] rfl)
set_option maxHeartbeats 4000000 in
set_option maxRecDepth 100000 in
theorem c_X12_kind (l : Launch) (G : mx_G) (P : mx_P) (a0 : Nat) (p1 : Int32) (σ : mx_S) (r : Int32) (σ' : mx_S) (hf : f_X12_kind P a0 p1 σ = some (r, σ')) : mxz σ ≤ mpc P → mxu σ ≤ mps P → mx_M l yX12_kind cX12_kind 2 (some .int) 1 25 G P [.ref a0, .int p1] σ (some (.int r)) σ' := by
  intro hcap hcau
  refine mx_ofW (by decide +kernel) hcap hcau (Nat.le_of_ble_eq_true rfl) ?_
  intro p e s m below meth c hx hb hr hml hts hown hlocks hname hK hJ ls hl
  have hz0 := hJ.2.1
  have hown : s.vm.findClass RX12 = some m.cls := hown
  have hl : lv_has ls 2 [(0, .ref a0), (1, .int p1)] := hl
  have D42 : ∀ (w0 : Int32) (τ : mx_S), f_X12_kind_D42 P w0 τ = some (r, σ') → ∀ (H : Heap) (locs : List Loc), mx_J G P s.heap (mxz σ) (mxu σ) τ H locs → ∀ ls : Array Slot, lv_has ls 2 [] → W p l e (mx_rm P 1 25 σ) s m ([.ref a0, .int p1] : List Value).toArray below meth c H locs (mxz τ - mxz σ) (mxu τ - mxu σ) (mx_Z below G P (some (.int r)) σ σ' [.ref a0, .int p1] s) (F0 m 42 ls [.int w0]) := by
    intro w0 τ hf _ _ hJ ls hl
    unfold f_X12_kind_D42 at hf
    exact my_iret hx hb hr hlocks hJ hf dX12_kind_42
  have D22 : ∀ (v0 : Nat) (v1 : Int32) (w0 : Int32) (w1 : Nat) (τ : mx_S), f_X12_kind_D22 P v0 v1 w0 w1 τ = some (r, σ') → ∀ (H : Heap) (locs : List Loc), mx_J G P s.heap (mxz σ) (mxu σ) τ H locs → ∀ ls : Array Slot, lv_has ls 2 [(0, .ref v0), (1, .int v1)] → W p l e (mx_rm P 1 25 σ) s m ([.ref a0, .int p1] : List Value).toArray below meth c H locs (mxz τ - mxz σ) (mxu τ - mxu σ) (mx_Z below G P (some (.int r)) σ σ' [.ref a0, .int p1] s) (F0 m 22 ls [.int w0, .ref w1]) := by
    intro v0 v1 w0 w1 τ hf _ _ hJ ls hl
    unfold f_X12_kind_D22 at hf
    obtain ⟨σ7, e8, hf⟩ := mb0 hf
    refine my_pI hx hb hts hown hK hJ fd_RX12_243 cd_12 (Or.inl rfl) ht_12_0 e8 dX12_kind_22 (fun H locs hJ => ?_)
    refine lv_aload_n hx hb dX12_kind_25 rfl (lv_at hl 0 rfl) ?_
    obtain ⟨x9, e10, hf⟩ := mb0 hf
    refine my_gI hx hb hts hown hK hJ fd_RX12_243 hv_12_0 e10 dX12_kind_26 ?_
    refine lv_if_le (tgt := 36) hx hb dX12_kind_29 (by decide) (fun c11 => ?_) (fun c11 => ?_)
    · rw [if_pos c11] at hf
      refine lv_aload_n hx hb dX12_kind_36 rfl (lv_at hl 0 rfl) ?_
      obtain ⟨b12, e13, hf⟩ := mb0 hf
      refine my_gR hx hb hts hown hK hJ fd_RX12_195 hv_12_92 e13 dX12_kind_37 ?_
      refine lv_iload_n hx hb dX12_kind_40 rfl (lv_at hl 1 rfl) ?_
      obtain ⟨x14, e15, hf⟩ := mb0 hf
      refine mx_aI hx hb hK hJ e15 dX12_kind_41 ?_
      exact D42 x14 σ7 hf _ _ hJ ls (lv_sub hl [] rfl)
    · rw [if_neg c11] at hf
      refine lv_iconst (v := 0) hx hb dX12_kind_32 (by decide) ?_
      refine lv_goto (tgt := 42) hx hb dX12_kind_33 (by decide) ?_
      exact D42 (0 : Int32) σ7 hf _ _ hJ ls (lv_sub hl [] rfl)
  unfold f_X12_kind at hf
  refine lv_aload_n hx hb dX12_kind_0 rfl (lv_at hl 0 rfl) ?_
  refine lv_iload_n hx hb dX12_kind_1 rfl (lv_at hl 1 rfl) ?_
  refine lv_i2l hx hb dX12_kind_2 rfl ?_
  refine lv_lconst (v := 0) hx hb dX12_kind_3 (by decide) ?_
  refine lv_aload_n hx hb dX12_kind_4 rfl (lv_at hl 0 rfl) ?_
  obtain ⟨x1, e2, hf⟩ := mb0 hf
  refine my_gI hx hb hts hown hK hJ fd_RX12_780 hv_12_91 e2 dX12_kind_5 ?_
  refine lv_iconst (v := 1) hx hb dX12_kind_8 (by decide) ?_
  refine lv_isub hx hb dX12_kind_9 ?_
  refine lv_i2l hx hb dX12_kind_10 rfl ?_
  obtain ⟨x4, σ3, e5, hf⟩ := mc0 hf
  refine mx_callS (As := [.long (p1.toInt64), .long (0 : Int64), .long ((x1 - (1 : Int32)).toInt64)]) (rest := [.ref a0]) hx hb hml hts hown hK hJ rfl rfl (c_X12_in l G P (p1.toInt64) (0 : Int64) ((x1 - (1 : Int32)).toInt64) σ x4 σ3 e5) me_X12_in kw_2223 kw_2222 (Nat.le_of_ble_eq_true rfl) (Nat.le_of_ble_eq_true rfl) rfl hl.1 rfl (Nat.le_of_ble_eq_true rfl) dX12_kind_11 (fun H locs hJ => ?_)
  refine lv_if_eq (tgt := 21) hx hb dX12_kind_14 (by decide) (fun c6 => ?_) (fun c6 => ?_)
  · rw [if_pos c6] at hf
    refine lv_iconst (v := 1) hx hb dX12_kind_21 (by decide) ?_
    exact D22 a0 p1 (1 : Int32) a0 σ3 hf _ _ hJ ls (lv_sub hl [0, 1] rfl)
  · rw [if_neg c6] at hf
    refine lv_iconst (v := 0) hx hb dX12_kind_17 (by decide) ?_
    refine lv_goto (tgt := 22) hx hb dX12_kind_18 (by decide) ?_
    exact D22 a0 p1 (0 : Int32) a0 σ3 hf _ _ hJ ls (lv_sub hl [0, 1] rfl)
set_option maxHeartbeats 4000000 in
set_option maxRecDepth 100000 in
theorem c_X12_pointNamed (l : Launch) (G : mx_G) (P : mx_P) (a0 : Nat) (p1 : Int32) (p2 : Int32) (σ : mx_S) (r : Int32) (σ' : mx_S) (hf : f_X12_pointNamed P a0 p1 p2 σ = some (r, σ')) : mxz σ ≤ mpc P → mxu σ ≤ mps P → mx_M l yX12_pointNamed cX12_pointNamed 6 (some .int) 0 0 G P [.ref a0, .int p1, .int p2] σ (some (.int r)) σ' := by
  intro hcap hcau
  refine mx_ofW (by decide +kernel) hcap hcau (Nat.le_of_ble_eq_true rfl) ?_
  intro p e s m below meth c hx hb hr hml hts hown hlocks hname hK hJ ls hl
  have hz0 := hJ.2.1
  have hown : s.vm.findClass RX12 = some m.cls := hown
  have hl : lv_has ls 6 [(0, .ref a0), (1, .int p1), (2, .int p2)] := hl
  have D70_30 : ∀ (v0 : Nat) (v1 : Int32) (v2 : Int32) (v3 : Int32) (v5 : Int32) (w0 : Int32) (τ : mx_S) (o : (Int32 × Int32 × mx_S) ⊕ ((Int32 × mx_S))), f_X12_pointNamed_D70_30 P v0 v1 v2 v3 v5 w0 τ = some o → (∀ (y4 : Int32) (y5 : Int32) (υ : mx_S), o = .inl (y4, y5, υ) → ∀ (H : Heap) (locs : List Loc), mx_J G P s.heap (mxz σ) (mxu σ) υ H locs → ∀ ls : Array Slot, lv_has ls 6 [(0, .ref v0), (1, .int v1), (2, .int v2), (3, .int v3), (4, .int y4), (5, .int y5)] → W p l e (mx_rm P 0 0 σ) s m ([.ref a0, .int p1, .int p2] : List Value).toArray below meth c H locs (mxz υ - mxz σ) (mxu υ - mxu σ) (mx_Z below G P (some (.int r)) σ σ' [.ref a0, .int p1, .int p2] s) (F0 m 30 ls [])) → (∀ (y4 : Int32) (υ : mx_S), o = .inr (y4, υ) → ∀ (H : Heap) (locs : List Loc), mx_J G P s.heap (mxz σ) (mxu σ) υ H locs → ∀ ls : Array Slot, lv_has ls 6 [(0, .ref v0), (1, .int v1), (2, .int v2), (3, .int v3), (4, .int y4)] → W p l e (mx_rm P 0 0 σ) s m ([.ref a0, .int p1, .int p2] : List Value).toArray below meth c H locs (mxz υ - mxz σ) (mxu υ - mxu σ) (mx_Z below G P (some (.int r)) σ σ' [.ref a0, .int p1, .int p2] s) (F0 m 78 ls [])) → ∀ (H : Heap) (locs : List Loc), mx_J G P s.heap (mxz σ) (mxu σ) τ H locs → ∀ ls : Array Slot, lv_has ls 6 [(0, .ref v0), (1, .int v1), (2, .int v2), (3, .int v3), (5, .int v5)] → W p l e (mx_rm P 0 0 σ) s m ([.ref a0, .int p1, .int p2] : List Value).toArray below meth c H locs (mxz τ - mxz σ) (mxu τ - mxu σ) (mx_Z below G P (some (.int r)) σ σ' [.ref a0, .int p1, .int p2] s) (F0 m 70 ls [.int w0]) := by
    intro v0 v1 v2 v3 v5 w0 τ o hf Kb Ke0 H locs hJ ls hl
    unfold f_X12_pointNamed_D70_30 at hf
    refine lv_istore (lv' := [(4, .int w0), (0, .ref v0), (1, .int v1), (2, .int v2), (3, .int v3), (5, .int v5)]) hx hb dX12_pointNamed_70 hl (by decide) rfl (fun ls hl => ?_)
    obtain ⟨x20, e21, hf⟩ := mb0 hf
    refine lv_iinc (v := x20) (lv' := [(5, .int x20), (4, .int w0), (0, .ref v0), (1, .int v1), (2, .int v2), (3, .int v3)]) hx hb dX12_pointNamed_72 hl (k := 5) rfl (by rw [← Option.some.inj e21]; rfl) (by decide) rfl (fun ls hl => ?_)
    refine lv_goto (tgt := 30) hx hb dX12_pointNamed_75 (by decide) ?_
    exact Kb w0 x20 τ (Option.some.inj hf).symm _ _ hJ ls (lv_sub hl [2, 3, 4, 5, 1, 0] rfl)
  have B30 : ∀ (v0 : Nat) (v1 : Int32) (v2 : Int32) (v3 : Int32) (v4 : Int32) (v5 : Int32) (τ : mx_S) (o : (Int32 × Int32 × mx_S) ⊕ ((Int32 × mx_S))), f_X12_pointNamed_B30 P v0 v1 v2 v3 v4 v5 τ = some o → (∀ (y4 : Int32) (y5 : Int32) (υ : mx_S), o = .inl (y4, y5, υ) → ∀ (H : Heap) (locs : List Loc), mx_J G P s.heap (mxz σ) (mxu σ) υ H locs → ∀ ls : Array Slot, lv_has ls 6 [(0, .ref v0), (1, .int v1), (2, .int v2), (3, .int v3), (4, .int y4), (5, .int y5)] → W p l e (mx_rm P 0 0 σ) s m ([.ref a0, .int p1, .int p2] : List Value).toArray below meth c H locs (mxz υ - mxz σ) (mxu υ - mxu σ) (mx_Z below G P (some (.int r)) σ σ' [.ref a0, .int p1, .int p2] s) (F0 m 30 ls [])) → (∀ (y4 : Int32) (υ : mx_S), o = .inr (y4, υ) → ∀ (H : Heap) (locs : List Loc), mx_J G P s.heap (mxz σ) (mxu σ) υ H locs → ∀ ls : Array Slot, lv_has ls 6 [(0, .ref v0), (1, .int v1), (2, .int v2), (3, .int v3), (4, .int y4)] → W p l e (mx_rm P 0 0 σ) s m ([.ref a0, .int p1, .int p2] : List Value).toArray below meth c H locs (mxz υ - mxz σ) (mxu υ - mxu σ) (mx_Z below G P (some (.int r)) σ σ' [.ref a0, .int p1, .int p2] s) (F0 m 78 ls [])) → ∀ (H : Heap) (locs : List Loc), mx_J G P s.heap (mxz σ) (mxu σ) τ H locs → ∀ ls : Array Slot, lv_has ls 6 [(0, .ref v0), (1, .int v1), (2, .int v2), (3, .int v3), (4, .int v4), (5, .int v5)] → W p l e (mx_rm P 0 0 σ) s m ([.ref a0, .int p1, .int p2] : List Value).toArray below meth c H locs (mxz τ - mxz σ) (mxu τ - mxu σ) (mx_Z below G P (some (.int r)) σ σ' [.ref a0, .int p1, .int p2] s) (F0 m 30 ls []) := by
    intro v0 v1 v2 v3 v4 v5 τ o hf Kb Ke0 H locs hJ ls hl
    unfold f_X12_pointNamed_B30 at hf
    refine lv_iload hx hb dX12_pointNamed_30 (lv_at hl 5 rfl) ?_
    refine lv_iload_n hx hb dX12_pointNamed_32 rfl (lv_at hl 2 rfl) ?_
    refine lv_icmp_ge (tgt := 78) hx hb dX12_pointNamed_33 (by decide) (fun c9 => ?_) (fun c9 => ?_)
    · rw [if_pos c9] at hf
      exact Ke0 v4 τ (Option.some.inj hf).symm _ _ hJ ls (lv_sub hl [0, 1, 2, 3, 4] rfl)
    · rw [if_neg c9] at hf
      refine lv_iload hx hb dX12_pointNamed_36 (lv_at hl 4 rfl) ?_
      refine lv_if_eq (tgt := 78) hx hb dX12_pointNamed_38 (by decide) (fun c10 => ?_) (fun c10 => ?_)
      · rw [if_pos c10] at hf
        exact Ke0 v4 τ (Option.some.inj hf).symm _ _ hJ ls (lv_sub hl [0, 1, 2, 3, 4] rfl)
      · rw [if_neg c10] at hf
        refine lv_aload_n hx hb dX12_pointNamed_41 rfl (lv_at hl 0 rfl) ?_
        obtain ⟨b11, e12, hf⟩ := mb0 hf
        refine my_gR hx hb hts hown hK hJ fd_RX12_57 hv_12_32 e12 dX12_pointNamed_42 ?_
        refine lv_bipush (v := 8) hx hb dX12_pointNamed_45 (by decide) ?_
        refine lv_iload_n hx hb dX12_pointNamed_47 rfl (lv_at hl 3 rfl) ?_
        refine lv_imul hx hb dX12_pointNamed_48 ?_
        refine lv_iload hx hb dX12_pointNamed_49 (lv_at hl 5 rfl) ?_
        refine lv_iadd hx hb dX12_pointNamed_51 ?_
        obtain ⟨x13, e14, hf⟩ := mb0 hf
        refine mx_aI hx hb hK hJ e14 dX12_pointNamed_52 ?_
        refine lv_aload_n hx hb dX12_pointNamed_53 rfl (lv_at hl 0 rfl) ?_
        obtain ⟨b15, e16, hf⟩ := mb0 hf
        refine my_gR hx hb hts hown hK hJ fd_RX12_7 hv_12_1 e16 dX12_pointNamed_54 ?_
        refine lv_iload_n hx hb dX12_pointNamed_57 rfl (lv_at hl 1 rfl) ?_
        refine lv_iload hx hb dX12_pointNamed_58 (lv_at hl 5 rfl) ?_
        refine lv_iadd hx hb dX12_pointNamed_60 ?_
        obtain ⟨x17, e18, hf⟩ := mb0 hf
        refine mx_aI hx hb hK hJ e18 dX12_pointNamed_61 ?_
        refine lv_icmp_ne (tgt := 69) hx hb dX12_pointNamed_62 (by decide) (fun c19 => ?_) (fun c19 => ?_)
        · rw [if_neg c19] at hf
          refine lv_iconst (v := 0) hx hb dX12_pointNamed_69 (by decide) ?_
          exact D70_30 v0 v1 v2 v3 v5 (0 : Int32) τ o hf Kb Ke0 _ _ hJ ls (lv_sub hl [0, 1, 2, 3, 5] rfl)
        · rw [if_pos c19] at hf
          refine lv_iconst (v := 1) hx hb dX12_pointNamed_65 (by decide) ?_
          refine lv_goto (tgt := 70) hx hb dX12_pointNamed_66 (by decide) ?_
          exact D70_30 v0 v1 v2 v3 v5 (1 : Int32) τ o hf Kb Ke0 _ _ hJ ls (lv_sub hl [0, 1, 2, 3, 5] rfl)
  have L30 : ∀ (v0 : Nat) (v1 : Int32) (v2 : Int32) (v3 : Int32) (n : Nat) (v4 : Int32) (v5 : Int32) (τ : mx_S) (o : (Int32 × mx_S)), mx_lp (f_X12_pointNamed_L30 P v0 v1 v2 v3) n (v4, v5, τ) = some o → (∀ (y4 : Int32) (υ : mx_S), o = (y4, υ) → ∀ (H : Heap) (locs : List Loc), mx_J G P s.heap (mxz σ) (mxu σ) υ H locs → ∀ ls : Array Slot, lv_has ls 6 [(0, .ref v0), (1, .int v1), (2, .int v2), (3, .int v3), (4, .int y4)] → W p l e (mx_rm P 0 0 σ) s m ([.ref a0, .int p1, .int p2] : List Value).toArray below meth c H locs (mxz υ - mxz σ) (mxu υ - mxu σ) (mx_Z below G P (some (.int r)) σ σ' [.ref a0, .int p1, .int p2] s) (F0 m 78 ls [])) → ∀ (H : Heap) (locs : List Loc), mx_J G P s.heap (mxz σ) (mxu σ) τ H locs → ∀ ls : Array Slot, lv_has ls 6 [(0, .ref v0), (1, .int v1), (2, .int v2), (3, .int v3), (4, .int v4), (5, .int v5)] → W p l e (mx_rm P 0 0 σ) s m ([.ref a0, .int p1, .int p2] : List Value).toArray below meth c H locs (mxz τ - mxz σ) (mxu τ - mxu σ) (mx_Z below G P (some (.int r)) σ σ' [.ref a0, .int p1, .int p2] s) (F0 m 30 ls []) := by
    intro v0 v1 v2 v3 n
    induction n with
    | zero =>
      intro v4 v5 τ o hf
      rw [mx_lp0] at hf
      cases hf
    | succ n ih =>
      intro v4 v5 τ o hf Ke0 H locs hJ ls hl
      rw [mx_lpS] at hf
      obtain ⟨b, eb, hf⟩ := mb0 hf
      refine B30 v0 v1 v2 v3 v4 v5 τ b eb (fun y4 y5 υ ho H locs hJ ls hl => ?_) (fun y4 υ ho H locs hJ ls hl => ?_) H locs hJ ls hl
      · subst ho
        exact ih y4 y5 υ o hf Ke0 H locs hJ ls hl
      · subst ho
        exact Ke0 y4 υ (Option.some.inj hf).symm _ _ hJ ls hl
  have D78_2 : ∀ (v0 : Nat) (v1 : Int32) (v2 : Int32) (v3 : Int32) (v4 : Int32) (τ : mx_S) (o : (Int32 × mx_S) ⊕ ((Int32 × mx_S) ⊕ (mx_S))), f_X12_pointNamed_D78_2 P v0 v1 v2 v3 v4 τ = some o → (∀ (y3 : Int32) (υ : mx_S), o = .inl (y3, υ) → ∀ (H : Heap) (locs : List Loc), mx_J G P s.heap (mxz σ) (mxu σ) υ H locs → ∀ ls : Array Slot, lv_has ls 6 [(0, .ref v0), (1, .int v1), (2, .int v2), (3, .int y3)] → W p l e (mx_rm P 0 0 σ) s m ([.ref a0, .int p1, .int p2] : List Value).toArray below meth c H locs (mxz υ - mxz σ) (mxu υ - mxu σ) (mx_Z below G P (some (.int r)) σ σ' [.ref a0, .int p1, .int p2] s) (F0 m 2 ls [])) → (∀ (y3 : Int32) (υ : mx_S), o = .inr (.inl (y3, υ)) → ∀ (H : Heap) (locs : List Loc), mx_J G P s.heap (mxz σ) (mxu σ) υ H locs → ∀ ls : Array Slot, lv_has ls 6 [(3, .int y3)] → W p l e (mx_rm P 0 0 σ) s m ([.ref a0, .int p1, .int p2] : List Value).toArray below meth c H locs (mxz υ - mxz σ) (mxu υ - mxu σ) (mx_Z below G P (some (.int r)) σ σ' [.ref a0, .int p1, .int p2] s) (F0 m 83 ls [])) → (∀  (υ : mx_S), o = .inr (.inr υ) → ∀ (H : Heap) (locs : List Loc), mx_J G P s.heap (mxz σ) (mxu σ) υ H locs → ∀ ls : Array Slot, lv_has ls 6 [] → W p l e (mx_rm P 0 0 σ) s m ([.ref a0, .int p1, .int p2] : List Value).toArray below meth c H locs (mxz υ - mxz σ) (mxu υ - mxu σ) (mx_Z below G P (some (.int r)) σ σ' [.ref a0, .int p1, .int p2] s) (F0 m 91 ls [])) → ∀ (H : Heap) (locs : List Loc), mx_J G P s.heap (mxz σ) (mxu σ) τ H locs → ∀ ls : Array Slot, lv_has ls 6 [(0, .ref v0), (1, .int v1), (2, .int v2), (3, .int v3), (4, .int v4)] → W p l e (mx_rm P 0 0 σ) s m ([.ref a0, .int p1, .int p2] : List Value).toArray below meth c H locs (mxz τ - mxz σ) (mxu τ - mxu σ) (mx_Z below G P (some (.int r)) σ σ' [.ref a0, .int p1, .int p2] s) (F0 m 78 ls []) := by
    intro v0 v1 v2 v3 v4 τ o hf Kb Ke0 Ke1 H locs hJ ls hl
    unfold f_X12_pointNamed_D78_2 at hf
    refine lv_iload hx hb dX12_pointNamed_78 (lv_at hl 4 rfl) ?_
    refine lv_if_eq (tgt := 85) hx hb dX12_pointNamed_80 (by decide) (fun c26 => ?_) (fun c26 => ?_)
    · rw [if_pos c26] at hf
      obtain ⟨x27, e28, hf⟩ := mb0 hf
      refine lv_iinc (v := x27) (lv' := [(3, .int x27), (0, .ref v0), (1, .int v1), (2, .int v2), (4, .int v4)]) hx hb dX12_pointNamed_85 hl (k := 3) rfl (by rw [← Option.some.inj e28]; rfl) (by decide) rfl (fun ls hl => ?_)
      refine lv_goto (tgt := 2) hx hb dX12_pointNamed_88 (by decide) ?_
      exact Kb x27 τ (Option.some.inj hf).symm _ _ hJ ls (lv_sub hl [1, 2, 3, 0] rfl)
    · rw [if_neg c26] at hf
      exact Ke0 v3 τ (Option.some.inj hf).symm _ _ hJ ls (lv_sub hl [3] rfl)
  have D25_2 : ∀ (v0 : Nat) (v1 : Int32) (v2 : Int32) (v3 : Int32) (w0 : Int32) (τ : mx_S) (o : (Int32 × mx_S) ⊕ ((Int32 × mx_S) ⊕ (mx_S))), f_X12_pointNamed_D25_2 P v0 v1 v2 v3 w0 τ = some o → (∀ (y3 : Int32) (υ : mx_S), o = .inl (y3, υ) → ∀ (H : Heap) (locs : List Loc), mx_J G P s.heap (mxz σ) (mxu σ) υ H locs → ∀ ls : Array Slot, lv_has ls 6 [(0, .ref v0), (1, .int v1), (2, .int v2), (3, .int y3)] → W p l e (mx_rm P 0 0 σ) s m ([.ref a0, .int p1, .int p2] : List Value).toArray below meth c H locs (mxz υ - mxz σ) (mxu υ - mxu σ) (mx_Z below G P (some (.int r)) σ σ' [.ref a0, .int p1, .int p2] s) (F0 m 2 ls [])) → (∀ (y3 : Int32) (υ : mx_S), o = .inr (.inl (y3, υ)) → ∀ (H : Heap) (locs : List Loc), mx_J G P s.heap (mxz σ) (mxu σ) υ H locs → ∀ ls : Array Slot, lv_has ls 6 [(3, .int y3)] → W p l e (mx_rm P 0 0 σ) s m ([.ref a0, .int p1, .int p2] : List Value).toArray below meth c H locs (mxz υ - mxz σ) (mxu υ - mxu σ) (mx_Z below G P (some (.int r)) σ σ' [.ref a0, .int p1, .int p2] s) (F0 m 83 ls [])) → (∀  (υ : mx_S), o = .inr (.inr υ) → ∀ (H : Heap) (locs : List Loc), mx_J G P s.heap (mxz σ) (mxu σ) υ H locs → ∀ ls : Array Slot, lv_has ls 6 [] → W p l e (mx_rm P 0 0 σ) s m ([.ref a0, .int p1, .int p2] : List Value).toArray below meth c H locs (mxz υ - mxz σ) (mxu υ - mxu σ) (mx_Z below G P (some (.int r)) σ σ' [.ref a0, .int p1, .int p2] s) (F0 m 91 ls [])) → ∀ (H : Heap) (locs : List Loc), mx_J G P s.heap (mxz σ) (mxu σ) τ H locs → ∀ ls : Array Slot, lv_has ls 6 [(0, .ref v0), (1, .int v1), (2, .int v2), (3, .int v3)] → W p l e (mx_rm P 0 0 σ) s m ([.ref a0, .int p1, .int p2] : List Value).toArray below meth c H locs (mxz τ - mxz σ) (mxu τ - mxu σ) (mx_Z below G P (some (.int r)) σ σ' [.ref a0, .int p1, .int p2] s) (F0 m 25 ls [.int w0]) := by
    intro v0 v1 v2 v3 w0 τ o hf Kb Ke0 Ke1 H locs hJ ls hl
    unfold f_X12_pointNamed_D25_2 at hf
    refine lv_istore (lv' := [(4, .int w0), (0, .ref v0), (1, .int v1), (2, .int v2), (3, .int v3)]) hx hb dX12_pointNamed_25 hl (by decide) rfl (fun ls hl => ?_)
    refine lv_iconst (v := 0) hx hb dX12_pointNamed_27 (by decide) ?_
    refine lv_istore (lv' := [(5, .int (0 : Int32)), (4, .int w0), (0, .ref v0), (1, .int v1), (2, .int v2), (3, .int v3)]) hx hb dX12_pointNamed_28 hl (by decide) rfl (fun ls hl => ?_)
    obtain ⟨o22, e23, hf⟩ := mb0 hf
    refine L30 v0 v1 v2 v3 (mpN P) w0 (0 : Int32) τ o22 e23 (fun y24 σ25 ho H locs hJ ls hl => ?_) _ _ hJ ls (lv_sub hl [2, 3, 4, 5, 1, 0] rfl)
    · rw [ho] at hf
      have hf : (f_X12_pointNamed_D78_2 P v0 v1 v2 v3 y24 σ25) = some o := hf
      exact D78_2 v0 v1 v2 v3 y24 σ25 o hf Kb Ke0 Ke1 _ _ hJ ls (lv_sub hl [0, 1, 2, 3, 4] rfl)
  have B2 : ∀ (v0 : Nat) (v1 : Int32) (v2 : Int32) (v3 : Int32) (τ : mx_S) (o : (Int32 × mx_S) ⊕ ((Int32 × mx_S) ⊕ (mx_S))), f_X12_pointNamed_B2 P v0 v1 v2 v3 τ = some o → (∀ (y3 : Int32) (υ : mx_S), o = .inl (y3, υ) → ∀ (H : Heap) (locs : List Loc), mx_J G P s.heap (mxz σ) (mxu σ) υ H locs → ∀ ls : Array Slot, lv_has ls 6 [(0, .ref v0), (1, .int v1), (2, .int v2), (3, .int y3)] → W p l e (mx_rm P 0 0 σ) s m ([.ref a0, .int p1, .int p2] : List Value).toArray below meth c H locs (mxz υ - mxz σ) (mxu υ - mxu σ) (mx_Z below G P (some (.int r)) σ σ' [.ref a0, .int p1, .int p2] s) (F0 m 2 ls [])) → (∀ (y3 : Int32) (υ : mx_S), o = .inr (.inl (y3, υ)) → ∀ (H : Heap) (locs : List Loc), mx_J G P s.heap (mxz σ) (mxu σ) υ H locs → ∀ ls : Array Slot, lv_has ls 6 [(3, .int y3)] → W p l e (mx_rm P 0 0 σ) s m ([.ref a0, .int p1, .int p2] : List Value).toArray below meth c H locs (mxz υ - mxz σ) (mxu υ - mxu σ) (mx_Z below G P (some (.int r)) σ σ' [.ref a0, .int p1, .int p2] s) (F0 m 83 ls [])) → (∀  (υ : mx_S), o = .inr (.inr υ) → ∀ (H : Heap) (locs : List Loc), mx_J G P s.heap (mxz σ) (mxu σ) υ H locs → ∀ ls : Array Slot, lv_has ls 6 [] → W p l e (mx_rm P 0 0 σ) s m ([.ref a0, .int p1, .int p2] : List Value).toArray below meth c H locs (mxz υ - mxz σ) (mxu υ - mxu σ) (mx_Z below G P (some (.int r)) σ σ' [.ref a0, .int p1, .int p2] s) (F0 m 91 ls [])) → ∀ (H : Heap) (locs : List Loc), mx_J G P s.heap (mxz σ) (mxu σ) τ H locs → ∀ ls : Array Slot, lv_has ls 6 [(0, .ref v0), (1, .int v1), (2, .int v2), (3, .int v3)] → W p l e (mx_rm P 0 0 σ) s m ([.ref a0, .int p1, .int p2] : List Value).toArray below meth c H locs (mxz τ - mxz σ) (mxu τ - mxu σ) (mx_Z below G P (some (.int r)) σ σ' [.ref a0, .int p1, .int p2] s) (F0 m 2 ls []) := by
    intro v0 v1 v2 v3 τ o hf Kb Ke0 Ke1 H locs hJ ls hl
    unfold f_X12_pointNamed_B2 at hf
    refine lv_iload_n hx hb dX12_pointNamed_2 rfl (lv_at hl 3 rfl) ?_
    refine lv_aload_n hx hb dX12_pointNamed_3 rfl (lv_at hl 0 rfl) ?_
    obtain ⟨x1, e2, hf⟩ := mb0 hf
    refine my_gI hx hb hts hown hK hJ fd_RX12_460 hv_12_19 e2 dX12_pointNamed_4 ?_
    refine lv_icmp_ge (tgt := 91) hx hb dX12_pointNamed_7 (by decide) (fun c3 => ?_) (fun c3 => ?_)
    · rw [if_pos c3] at hf
      exact Ke1 τ (Option.some.inj hf).symm _ _ hJ ls (lv_sub hl [] rfl)
    · rw [if_neg c3] at hf
      refine lv_aload_n hx hb dX12_pointNamed_10 rfl (lv_at hl 0 rfl) ?_
      obtain ⟨b4, e5, hf⟩ := mb0 hf
      refine my_gR hx hb hts hown hK hJ fd_RX12_54 hv_12_31 e5 dX12_pointNamed_11 ?_
      refine lv_iload_n hx hb dX12_pointNamed_14 rfl (lv_at hl 3 rfl) ?_
      obtain ⟨x6, e7, hf⟩ := mb0 hf
      refine mx_aI hx hb hK hJ e7 dX12_pointNamed_15 ?_
      refine lv_iload_n hx hb dX12_pointNamed_16 rfl (lv_at hl 2 rfl) ?_
      refine lv_icmp_ne (tgt := 24) hx hb dX12_pointNamed_17 (by decide) (fun c8 => ?_) (fun c8 => ?_)
      · rw [if_neg c8] at hf
        refine lv_iconst (v := 0) hx hb dX12_pointNamed_24 (by decide) ?_
        exact D25_2 v0 v1 v2 v3 (0 : Int32) τ o hf Kb Ke0 Ke1 _ _ hJ ls (lv_sub hl [0, 1, 2, 3] rfl)
      · rw [if_pos c8] at hf
        refine lv_iconst (v := 1) hx hb dX12_pointNamed_20 (by decide) ?_
        refine lv_goto (tgt := 25) hx hb dX12_pointNamed_21 (by decide) ?_
        exact D25_2 v0 v1 v2 v3 (1 : Int32) τ o hf Kb Ke0 Ke1 _ _ hJ ls (lv_sub hl [0, 1, 2, 3] rfl)
  have L2 : ∀ (v0 : Nat) (v1 : Int32) (v2 : Int32) (n : Nat) (v3 : Int32) (τ : mx_S) (o : (Int32 × mx_S) ⊕ (mx_S)), mx_lp (f_X12_pointNamed_L2 P v0 v1 v2) n (v3, τ) = some o → (∀ (y3 : Int32) (υ : mx_S), o = (.inl (y3, υ)) → ∀ (H : Heap) (locs : List Loc), mx_J G P s.heap (mxz σ) (mxu σ) υ H locs → ∀ ls : Array Slot, lv_has ls 6 [(3, .int y3)] → W p l e (mx_rm P 0 0 σ) s m ([.ref a0, .int p1, .int p2] : List Value).toArray below meth c H locs (mxz υ - mxz σ) (mxu υ - mxu σ) (mx_Z below G P (some (.int r)) σ σ' [.ref a0, .int p1, .int p2] s) (F0 m 83 ls [])) → (∀  (υ : mx_S), o = (.inr υ) → ∀ (H : Heap) (locs : List Loc), mx_J G P s.heap (mxz σ) (mxu σ) υ H locs → ∀ ls : Array Slot, lv_has ls 6 [] → W p l e (mx_rm P 0 0 σ) s m ([.ref a0, .int p1, .int p2] : List Value).toArray below meth c H locs (mxz υ - mxz σ) (mxu υ - mxu σ) (mx_Z below G P (some (.int r)) σ σ' [.ref a0, .int p1, .int p2] s) (F0 m 91 ls [])) → ∀ (H : Heap) (locs : List Loc), mx_J G P s.heap (mxz σ) (mxu σ) τ H locs → ∀ ls : Array Slot, lv_has ls 6 [(0, .ref v0), (1, .int v1), (2, .int v2), (3, .int v3)] → W p l e (mx_rm P 0 0 σ) s m ([.ref a0, .int p1, .int p2] : List Value).toArray below meth c H locs (mxz τ - mxz σ) (mxu τ - mxu σ) (mx_Z below G P (some (.int r)) σ σ' [.ref a0, .int p1, .int p2] s) (F0 m 2 ls []) := by
    intro v0 v1 v2 n
    induction n with
    | zero =>
      intro v3 τ o hf
      rw [mx_lp0] at hf
      cases hf
    | succ n ih =>
      intro v3 τ o hf Ke0 Ke1 H locs hJ ls hl
      rw [mx_lpS] at hf
      obtain ⟨b, eb, hf⟩ := mb0 hf
      refine B2 v0 v1 v2 v3 τ b eb (fun y3 υ ho H locs hJ ls hl => ?_) (fun y3 υ ho H locs hJ ls hl => ?_) (fun  υ ho H locs hJ ls hl => ?_) H locs hJ ls hl
      · subst ho
        exact ih y3 υ o hf Ke0 Ke1 H locs hJ ls hl
      · subst ho
        exact Ke0 y3 υ (Option.some.inj hf).symm _ _ hJ ls hl
      · subst ho
        exact Ke1  υ (Option.some.inj hf).symm _ _ hJ ls hl
  unfold f_X12_pointNamed at hf
  refine lv_iconst (v := 0) hx hb dX12_pointNamed_0 (by decide) ?_
  refine lv_istore_n (lv' := [(3, .int (0 : Int32)), (0, .ref a0), (1, .int p1), (2, .int p2)]) hx hb dX12_pointNamed_1 rfl hl (by decide) rfl (fun ls hl => ?_)
  obtain ⟨o29, e30, hf⟩ := mb0 hf
  refine L2 a0 p1 p2 (mpN P) (0 : Int32) σ o29 e30 (fun y31 σ32 ho H locs hJ ls hl => ?_) (fun σ33 ho H locs hJ ls hl => ?_) _ _ hJ ls (lv_sub hl [1, 2, 3, 0] rfl)
  · rw [ho] at hf
    have hf : (some (y31, σ32)) = some (r, σ') := hf
    refine lv_iload_n hx hb dX12_pointNamed_83 rfl (lv_at hl 0 rfl) ?_
    exact my_iret hx hb hr hlocks hJ hf dX12_pointNamed_84
  · rw [ho] at hf
    have hf : (some ((-1 : Int32), σ33)) = some (r, σ') := hf
    refine lv_iconst (v := (-1)) hx hb dX12_pointNamed_91 (by decide) ?_
    exact my_iret hx hb hr hlocks hJ hf dX12_pointNamed_92
