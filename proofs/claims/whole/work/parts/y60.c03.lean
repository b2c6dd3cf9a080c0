set_option maxHeartbeats 4000000 in
set_option maxRecDepth 100000 in
theorem c_X7_moveTo (l : Launch) (G : mx_G) (P : mx_P) (a0 : Nat) (p1 : Int32) (p2 : Int32) (σ : mx_S) (σ' : mx_S) (hf : f_X7_moveTo P a0 p1 p2 σ = some σ') : mxz σ ≤ mpc P → mxu σ ≤ mps P → mx_M l yX7_moveTo cX7_moveTo 3 none 3 77 G P [.ref a0, .int p1, .int p2] σ none σ' := by
  intro hcap hcau
  refine mx_ofW (by decide +kernel) hcap hcau (Nat.le_of_ble_eq_true rfl) ?_
  intro p e s m below meth c hx hb hr hml hts hown hlocks hname hK hJ ls hl
  have hz0 := hJ.2.1
  have hown : s.vm.findClass RX7 = some m.cls := hown
  have hl : lv_has ls 3 [(0, .ref a0), (1, .int p1), (2, .int p2)] := hl
  unfold f_X7_moveTo at hf
  refine lv_aload_n hx hb dX7_moveTo_0 rfl (lv_at hl 0 rfl) ?_
  obtain ⟨b1, e2, hf⟩ := mb0 hf
  refine my_gR hx hb hts hown hK hJ fd_RX7_20 hv_7_4 e2 dX7_moveTo_1 ?_
  refine lv_iload_n hx hb dX7_moveTo_4 rfl (lv_at hl 1 rfl) ?_
  obtain ⟨x3, e4, hf⟩ := mb0 hf
  refine mx_aI hx hb hK hJ e4 dX7_moveTo_5 ?_
  refine lv_iload_n hx hb dX7_moveTo_6 rfl (lv_at hl 2 rfl) ?_
  refine lv_icmp_ne (tgt := 11) hx hb dX7_moveTo_7 (by decide) (fun c5 => ?_) (fun c5 => ?_)
  · rw [if_neg c5] at hf
    refine lv_aload_n hx hb dX7_moveTo_11 rfl (lv_at hl 0 rfl) ?_
    obtain ⟨b6, e7, hf⟩ := mb0 hf
    refine my_gR hx hb hts hown hK hJ fd_RX7_20 hv_7_4 e7 dX7_moveTo_12 ?_
    refine lv_iload_n hx hb dX7_moveTo_15 rfl (lv_at hl 1 rfl) ?_
    refine lv_iload_n hx hb dX7_moveTo_16 rfl (lv_at hl 2 rfl) ?_
    obtain ⟨σ8, e9, hf⟩ := mb0 hf
    refine mx_sI hx hb hK hJ e9 dX7_moveTo_17 (fun H locs hJ => ?_)
    refine lv_aload_n hx hb dX7_moveTo_18 rfl (lv_at hl 0 rfl) ?_
    obtain ⟨b10, e11, hf⟩ := mb0 hf
    refine my_gR hx hb hts hown hK hJ fd_RX7_25 hv_7_5 e11 dX7_moveTo_19 ?_
    refine lv_iload_n hx hb dX7_moveTo_22 rfl (lv_at hl 1 rfl) ?_
    obtain ⟨b12, e13, hf⟩ := mb0 hf
    refine mx_aR hx hb hK hJ (t := 5) rfl (fun _ _ _ => rfl) e13 dX7_moveTo_23 ?_
    refine lv_iload_n hx hb dX7_moveTo_24 rfl (lv_at hl 2 rfl) ?_
    obtain ⟨i14, e15, hf⟩ := mb0 hf
    obtain ⟨σ16, e17, hf⟩ := mb0 hf
    refine mx_callV (As := [.int p2]) (rest := []) hx hb hml hts hown hK hJ rfl rfl (ci := 8) rfl e15 (c_X8_direct l G P b12 p2 σ8 σ16 e17) me_X8_direct kw_1039 kw_1040 kw_1038 (Nat.le_of_ble_eq_true rfl) (Nat.le_of_ble_eq_true rfl) rfl hl.1 rfl (Nat.le_of_ble_eq_true rfl) dX7_moveTo_25 (fun H locs hJ => ?_)
    refine lv_aload_n hx hb dX7_moveTo_28 rfl (lv_at hl 0 rfl) ?_
    refine lv_iconst (v := 0) hx hb dX7_moveTo_29 (by decide) ?_
    obtain ⟨σ18, e19, hf⟩ := mb0 hf
    refine my_pZ hx hb hts hown hK hJ fd_RX7_87 cd_7 (Or.inl rfl) ht_7_10 e19 dX7_moveTo_30 (fun H locs hJ => ?_)
    refine lv_aload_n hx hb dX7_moveTo_33 rfl (lv_at hl 0 rfl) ?_
    refine lv_sipush (v := 256) hx hb dX7_moveTo_34 (by decide) ?_
    refine lv_iload_n hx hb dX7_moveTo_37 rfl (lv_at hl 1 rfl) ?_
    refine lv_ishl hx hb dX7_moveTo_38 ?_
    obtain ⟨i20, e21, hf⟩ := mb0 hf
    obtain ⟨σ22, e23, hf⟩ := mb0 hf
    refine mx_callV (As := [.int ((256 : Int32) <<< (p1 &&& 31))]) (rest := []) hx hb hml hts hown hK hJ rfl rfl (ci := 7) rfl e21 (c_X7_touch l G P a0 ((256 : Int32) <<< (p1 &&& 31)) σ18 σ22 e23) me_X7_touch kw_660 ks_1 kw_658 (Nat.le_of_ble_eq_true rfl) (Nat.le_of_ble_eq_true rfl) rfl hl.1 rfl (Nat.le_of_ble_eq_true rfl) dX7_moveTo_39 (fun H locs hJ => ?_)
    exact my_vret hx hb hr hlocks hJ hf dX7_moveTo_42
  · rw [if_pos c5] at hf
    exact my_vret hx hb hr hlocks hJ hf dX7_moveTo_10
set_option maxHeartbeats 4000000 in
set_option maxRecDepth 100000 in
theorem c_X2_keepEvent (l : Launch) (G : mx_G) (P : mx_P) (a0 : Nat) (p1 : Int32) (p2 : Int32) (p3 : Int32) (σ : mx_S) (σ' : mx_S) (hf : f_X2_keepEvent P a0 p1 p2 p3 σ = some σ') : mxz σ ≤ mpc P → mxu σ ≤ mps P → mx_M l yX2_keepEvent cX2_keepEvent 4 none 0 0 G P [.ref a0, .int p1, .int p2, .int p3] σ none σ' := by
  intro hcap hcau
  refine mx_ofW (by decide +kernel) hcap hcau (Nat.le_of_ble_eq_true rfl) ?_
  intro p e s m below meth c hx hb hr hml hts hown hlocks hname hK hJ ls hl
  have hz0 := hJ.2.1
  have hown : s.vm.findClass RX2 = some m.cls := hown
  have hl : lv_has ls 4 [(0, .ref a0), (1, .int p1), (2, .int p2), (3, .int p3)] := hl
  have D49 : ∀ (v0 : Nat) (τ : mx_S), f_X2_keepEvent_D49 P v0 τ = some σ' → ∀ (H : Heap) (locs : List Loc), mx_J G P s.heap (mxz σ) (mxu σ) τ H locs → ∀ ls : Array Slot, lv_has ls 4 [(0, .ref v0)] → W p l e (mx_rm P 0 0 σ) s m ([.ref a0, .int p1, .int p2, .int p3] : List Value).toArray below meth c H locs (mxz τ - mxz σ) (mxu τ - mxu σ) (mx_Z below G P none σ σ' [.ref a0, .int p1, .int p2, .int p3] s) (F0 m 49 ls []) := by
    intro v0 τ hf _ _ hJ ls hl
    unfold f_X2_keepEvent_D49 at hf
    refine lv_aload_n hx hb dX2_keepEvent_49 rfl (lv_at hl 0 rfl) ?_
    refine lv_dup hx hb dX2_keepEvent_50 rfl ?_
    obtain ⟨x4, e5, hf⟩ := mb0 hf
    refine my_gI hx hb hts hown hK hJ fd_RX2_33 hv_2_1 e5 dX2_keepEvent_51 ?_
    refine lv_iconst (v := 1) hx hb dX2_keepEvent_54 (by decide) ?_
    refine lv_iadd hx hb dX2_keepEvent_55 ?_
    obtain ⟨σ6, e7, hf⟩ := mb0 hf
    refine my_pI hx hb hts hown hK hJ fd_RX2_33 cd_2 (Or.inl rfl) ht_2_1 e7 dX2_keepEvent_56 (fun H locs hJ => ?_)
    exact my_vret hx hb hr hlocks hJ hf dX2_keepEvent_59
  unfold f_X2_keepEvent at hf
  refine lv_aload_n hx hb dX2_keepEvent_0 rfl (lv_at hl 0 rfl) ?_
  obtain ⟨x1, e2, hf⟩ := mb0 hf
  refine my_gI hx hb hts hown hK hJ fd_RX2_33 hv_2_1 e2 dX2_keepEvent_1 ?_
  refine lv_bipush (v := 100) hx hb dX2_keepEvent_4 (by decide) ?_
  refine lv_icmp_ge (tgt := 49) hx hb dX2_keepEvent_6 (by decide) (fun c3 => ?_) (fun c3 => ?_)
  · rw [if_pos c3] at hf
    exact D49 a0 σ hf _ _ hJ ls (lv_sub hl [0] rfl)
  · rw [if_neg c3] at hf
    refine lv_aload_n hx hb dX2_keepEvent_9 rfl (lv_at hl 0 rfl) ?_
    obtain ⟨b8, e9, hf⟩ := mb0 hf
    refine my_gR hx hb hts hown hK hJ fd_RX2_9 hv_2_2 e9 dX2_keepEvent_10 ?_
    refine lv_iconst (v := 3) hx hb dX2_keepEvent_13 (by decide) ?_
    refine lv_aload_n hx hb dX2_keepEvent_14 rfl (lv_at hl 0 rfl) ?_
    obtain ⟨x10, e11, hf⟩ := mb0 hf
    refine my_gI hx hb hts hown hK hJ fd_RX2_33 hv_2_1 e11 dX2_keepEvent_15 ?_
    refine lv_imul hx hb dX2_keepEvent_18 ?_
    refine lv_iload_n hx hb dX2_keepEvent_19 rfl (lv_at hl 1 rfl) ?_
    obtain ⟨σ12, e13, hf⟩ := mb0 hf
    refine mx_sI hx hb hK hJ e13 dX2_keepEvent_20 (fun H locs hJ => ?_)
    refine lv_aload_n hx hb dX2_keepEvent_21 rfl (lv_at hl 0 rfl) ?_
    obtain ⟨b14, e15, hf⟩ := mb0 hf
    refine my_gR hx hb hts hown hK hJ fd_RX2_9 hv_2_2 e15 dX2_keepEvent_22 ?_
    refine lv_iconst (v := 3) hx hb dX2_keepEvent_25 (by decide) ?_
    refine lv_aload_n hx hb dX2_keepEvent_26 rfl (lv_at hl 0 rfl) ?_
    obtain ⟨x16, e17, hf⟩ := mb0 hf
    refine my_gI hx hb hts hown hK hJ fd_RX2_33 hv_2_1 e17 dX2_keepEvent_27 ?_
    refine lv_imul hx hb dX2_keepEvent_30 ?_
    refine lv_iconst (v := 1) hx hb dX2_keepEvent_31 (by decide) ?_
    refine lv_iadd hx hb dX2_keepEvent_32 ?_
    refine lv_iload_n hx hb dX2_keepEvent_33 rfl (lv_at hl 2 rfl) ?_
    obtain ⟨σ18, e19, hf⟩ := mb0 hf
    refine mx_sI hx hb hK hJ e19 dX2_keepEvent_34 (fun H locs hJ => ?_)
    refine lv_aload_n hx hb dX2_keepEvent_35 rfl (lv_at hl 0 rfl) ?_
    obtain ⟨b20, e21, hf⟩ := mb0 hf
    refine my_gR hx hb hts hown hK hJ fd_RX2_9 hv_2_2 e21 dX2_keepEvent_36 ?_
    refine lv_iconst (v := 3) hx hb dX2_keepEvent_39 (by decide) ?_
    refine lv_aload_n hx hb dX2_keepEvent_40 rfl (lv_at hl 0 rfl) ?_
    obtain ⟨x22, e23, hf⟩ := mb0 hf
    refine my_gI hx hb hts hown hK hJ fd_RX2_33 hv_2_1 e23 dX2_keepEvent_41 ?_
    refine lv_imul hx hb dX2_keepEvent_44 ?_
    refine lv_iconst (v := 2) hx hb dX2_keepEvent_45 (by decide) ?_
    refine lv_iadd hx hb dX2_keepEvent_46 ?_
    refine lv_iload_n hx hb dX2_keepEvent_47 rfl (lv_at hl 3 rfl) ?_
    obtain ⟨σ24, e25, hf⟩ := mb0 hf
    refine mx_sI hx hb hK hJ e25 dX2_keepEvent_48 (fun H locs hJ => ?_)
    exact D49 a0 σ24 hf _ _ hJ ls (lv_sub hl [0] rfl)
set_option maxHeartbeats 4000000 in
set_option maxRecDepth 100000 in
theorem c_X2_move (l : Launch) (G : mx_G) (P : mx_P) (a0 : Nat) (a1 : Nat) (p2 : Int32) (σ : mx_S) (r : Int32) (σ' : mx_S) (hf : f_X2_move P a0 a1 p2 σ = some (r, σ')) : mxz σ ≤ mpc P → mxu σ ≤ mps P → mx_M l yX2_move cX2_move 8 (some .int) 5 132 G P [.ref a0, .ref a1, .int p2] σ (some (.int r)) σ' := by
  intro hcap hcau
  refine mx_ofW (by decide +kernel) hcap hcau (Nat.le_of_ble_eq_true rfl) ?_
  intro p e s m below meth c hx hb hr hml hts hown hlocks hname hK hJ ls hl
  have hz0 := hJ.2.1
  have hown : s.vm.findClass RX2 = some m.cls := hown
  have hl : lv_has ls 8 [(0, .ref a0), (1, .ref a1), (2, .int p2)] := hl
  have D121_48 : ∀ (v0 : Nat) (v1 : Nat) (v2 : Int32) (v3 : Int32) (v4 : Int32) (v5 : Int32) (τ : mx_S) (o : (Int32 × mx_S) ⊕ ((mx_S) ⊕ (mx_S) ⊕ (Int32 × mx_S) ⊕ (mx_S))), f_X2_move_D121_48 P v0 v1 v2 v3 v4 v5 τ = some o → (∀ (y5 : Int32) (υ : mx_S), o = .inl (y5, υ) → ∀ (H : Heap) (locs : List Loc), mx_J G P s.heap (mxz σ) (mxu σ) υ H locs → ∀ ls : Array Slot, lv_has ls 8 [(0, .ref v0), (1, .ref v1), (2, .int v2), (3, .int v3), (4, .int v4), (5, .int y5)] → W p l e (mx_rm P 5 132 σ) s m ([.ref a0, .ref a1, .int p2] : List Value).toArray below meth c H locs (mxz υ - mxz σ) (mxu υ - mxu σ) (mx_Z below G P (some (.int r)) σ σ' [.ref a0, .ref a1, .int p2] s) (F0 m 48 ls [])) → (∀  (υ : mx_S), o = .inr (.inl υ) → ∀ (H : Heap) (locs : List Loc), mx_J G P s.heap (mxz σ) (mxu σ) υ H locs → ∀ ls : Array Slot, lv_has ls 8 [(0, .ref v0), (1, .ref v1), (2, .int v2), (3, .int v3)] → W p l e (mx_rm P 5 132 σ) s m ([.ref a0, .ref a1, .int p2] : List Value).toArray below meth c H locs (mxz υ - mxz σ) (mxu υ - mxu σ) (mx_Z below G P (some (.int r)) σ σ' [.ref a0, .ref a1, .int p2] s) (F0 m 118 ls [])) → (∀  (υ : mx_S), o = .inr (.inr (.inl υ)) → ∀ (H : Heap) (locs : List Loc), mx_J G P s.heap (mxz σ) (mxu σ) υ H locs → ∀ ls : Array Slot, lv_has ls 8 [] → W p l e (mx_rm P 5 132 σ) s m ([.ref a0, .ref a1, .int p2] : List Value).toArray below meth c H locs (mxz υ - mxz σ) (mxu υ - mxu σ) (mx_Z below G P (some (.int r)) σ σ' [.ref a0, .ref a1, .int p2] s) (F0 m 131 ls [])) → (∀ (y7 : Int32) (υ : mx_S), o = .inr (.inr (.inr (.inl (y7, υ)))) → ∀ (H : Heap) (locs : List Loc), mx_J G P s.heap (mxz σ) (mxu σ) υ H locs → ∀ ls : Array Slot, lv_has ls 8 [(1, .ref v1), (3, .int v3), (7, .int y7)] → W p l e (mx_rm P 5 132 σ) s m ([.ref a0, .ref a1, .int p2] : List Value).toArray below meth c H locs (mxz υ - mxz σ) (mxu υ - mxu σ) (mx_Z below G P (some (.int r)) σ σ' [.ref a0, .ref a1, .int p2] s) (F0 m 177 ls [])) → (∀  (υ : mx_S), o = .inr (.inr (.inr (.inr υ))) → ∀ (H : Heap) (locs : List Loc), mx_J G P s.heap (mxz σ) (mxu σ) υ H locs → ∀ ls : Array Slot, lv_has ls 8 [(0, .ref v0), (1, .ref v1), (2, .int v2), (3, .int v3)] → W p l e (mx_rm P 5 132 σ) s m ([.ref a0, .ref a1, .int p2] : List Value).toArray below meth c H locs (mxz υ - mxz σ) (mxu υ - mxu σ) (mx_Z below G P (some (.int r)) σ σ' [.ref a0, .ref a1, .int p2] s) (F0 m 192 ls [])) → ∀ (H : Heap) (locs : List Loc), mx_J G P s.heap (mxz σ) (mxu σ) τ H locs → ∀ ls : Array Slot, lv_has ls 8 [(0, .ref v0), (1, .ref v1), (2, .int v2), (3, .int v3), (4, .int v4), (5, .int v5)] → W p l e (mx_rm P 5 132 σ) s m ([.ref a0, .ref a1, .int p2] : List Value).toArray below meth c H locs (mxz τ - mxz σ) (mxu τ - mxu σ) (mx_Z below G P (some (.int r)) σ σ' [.ref a0, .ref a1, .int p2] s) (F0 m 121 ls []) := by
    intro v0 v1 v2 v3 v4 v5 τ o hf Kb Ke0 Ke1 Ke2 Ke3 H locs hJ ls hl
    unfold f_X2_move_D121_48 at hf
    refine lv_aload_n hx hb dX2_move_121 rfl (lv_at hl 0 rfl) ?_
    obtain ⟨x29, e30, hf⟩ := mb0 hf
    refine my_gI hx hb hts hown hK hJ fd_RX2_118 hv_2_0 e30 dX2_move_122 ?_
    refine lv_sipush (v := 2000) hx hb dX2_move_125 (by decide) ?_
    refine lv_icmp_lt (tgt := 133) hx hb dX2_move_128 (by decide) (fun c31 => ?_) (fun c31 => ?_)
    · rw [if_pos c31] at hf
      refine lv_aload_n hx hb dX2_move_133 rfl (lv_at hl 0 rfl) ?_
      refine lv_dup hx hb dX2_move_134 rfl ?_
      obtain ⟨x32, e33, hf⟩ := mb0 hf
      refine my_gI hx hb hts hown hK hJ fd_RX2_118 hv_2_0 e33 dX2_move_135 ?_
      refine lv_iconst (v := 1) hx hb dX2_move_138 (by decide) ?_
      refine lv_iadd hx hb dX2_move_139 ?_
      obtain ⟨σ34, e35, hf⟩ := mb0 hf
      refine my_pI hx hb hts hown hK hJ fd_RX2_118 cd_2 (Or.inl rfl) ht_2_0 e35 dX2_move_140 (fun H locs hJ => ?_)
      refine lv_aload_n hx hb dX2_move_143 rfl (lv_at hl 1 rfl) ?_
      obtain ⟨b36, e37, hf⟩ := mb0 hf
      refine my_gR hx hb hts hown hK hJ fd_RX2_149 hv_7_4 e37 dX2_move_144 ?_
      refine lv_iload_n hx hb dX2_move_147 rfl (lv_at hl 3 rfl) ?_
      obtain ⟨x38, e39, hf⟩ := mb0 hf
      refine mx_aI hx hb hK hJ e39 dX2_move_148 ?_
      refine lv_istore (lv' := [(7, .int x38), (0, .ref v0), (1, .ref v1), (2, .int v2), (3, .int v3), (4, .int v4), (5, .int v5)]) hx hb dX2_move_149 hl (by decide) rfl (fun ls hl => ?_)
      refine lv_aload_n hx hb dX2_move_151 rfl (lv_at hl 2 rfl) ?_
      refine lv_iload_n hx hb dX2_move_152 rfl (lv_at hl 4 rfl) ?_
      refine lv_iload hx hb dX2_move_153 (lv_at hl 0 rfl) ?_
      refine lv_iload hx hb dX2_move_155 (lv_at hl 5 rfl) ?_
      refine lv_iadd hx hb dX2_move_157 ?_
      refine lv_sipush (v := 1023) hx hb dX2_move_158 (by decide) ?_
      refine lv_iand hx hb dX2_move_161 ?_
      obtain ⟨i40, e41, hf⟩ := mb0 hf
      obtain ⟨σ42, e43, hf⟩ := mb0 hf
      refine mx_callV (As := [.int v3, .int ((x38 + v4) &&& (1023 : Int32))]) (rest := []) hx hb hml hts hown hK hJ rfl rfl (ci := 7) rfl e41 (c_X7_moveTo l G P v1 v3 ((x38 + v4) &&& (1023 : Int32)) σ34 σ42 e43) me_X7_moveTo kw_1035 kw_1036 kw_1840 (Nat.le_of_ble_eq_true rfl) (Nat.le_of_ble_eq_true rfl) rfl hl.1 rfl (Nat.le_of_ble_eq_true rfl) dX2_move_162 (fun H locs hJ => ?_)
      refine lv_aload_n hx hb dX2_move_165 rfl (lv_at hl 2 rfl) ?_
      refine lv_aload_n hx hb dX2_move_166 rfl (lv_at hl 1 rfl) ?_
      obtain ⟨x44, e45, hf⟩ := mb0 hf
      refine my_gI hx hb hts hown hK hJ fd_RX2_121 hv_2_4 e45 dX2_move_167 ?_
      refine lv_iconst (v := 1) hx hb dX2_move_170 (by decide) ?_
      obtain ⟨i46, e47, hf⟩ := mb0 hf
      obtain ⟨x49, σ48, e50, hf⟩ := mc0 hf
      refine mx_callV (As := [.int x44, .int (1 : Int32)]) (rest := []) hx hb hml hts hown hK hJ rfl rfl (ci := 7) rfl e47 (c_X7_look l G P v1 x44 (1 : Int32) σ42 x49 σ48 e50) me_X7_look kw_655 kw_656 kw_1835 (Nat.le_of_ble_eq_true rfl) (Nat.le_of_ble_eq_true rfl) rfl hl.1 rfl (Nat.le_of_ble_eq_true rfl) dX2_move_171 (fun H locs hJ => ?_)
      refine lv_if_eq (tgt := 186) hx hb dX2_move_174 (by decide) (fun c51 => ?_) (fun c51 => ?_)
      · rw [if_pos c51] at hf
        obtain ⟨x52, e53, hf⟩ := mb0 hf
        refine lv_iinc (v := x52) (lv' := [(5, .int x52), (7, .int x38), (0, .ref v0), (1, .ref v1), (2, .int v2), (3, .int v3), (4, .int v4)]) hx hb dX2_move_186 hl (k := 6) rfl (by rw [← Option.some.inj e53]; rfl) (by decide) rfl (fun ls hl => ?_)
        refine lv_goto (tgt := 48) hx hb dX2_move_189 (by decide) ?_
        exact Kb x52 σ48 (Option.some.inj hf).symm _ _ hJ ls (lv_sub hl [2, 3, 4, 5, 6, 0] rfl)
      · rw [if_neg c51] at hf
        exact Ke2 x38 σ48 (Option.some.inj hf).symm _ _ hJ ls (lv_sub hl [2, 4, 0] rfl)
    · rw [if_neg c31] at hf
      exact Ke1 τ (Option.some.inj hf).symm _ _ hJ ls (lv_sub hl [] rfl)
  have D89_48 : ∀ (v0 : Nat) (v1 : Nat) (v2 : Int32) (v3 : Int32) (v4 : Int32) (v5 : Int32) (w0 : Int32) (τ : mx_S) (o : (Int32 × mx_S) ⊕ ((mx_S) ⊕ (mx_S) ⊕ (Int32 × mx_S) ⊕ (mx_S))), f_X2_move_D89_48 P v0 v1 v2 v3 v4 v5 w0 τ = some o → (∀ (y5 : Int32) (υ : mx_S), o = .inl (y5, υ) → ∀ (H : Heap) (locs : List Loc), mx_J G P s.heap (mxz σ) (mxu σ) υ H locs → ∀ ls : Array Slot, lv_has ls 8 [(0, .ref v0), (1, .ref v1), (2, .int v2), (3, .int v3), (4, .int v4), (5, .int y5)] → W p l e (mx_rm P 5 132 σ) s m ([.ref a0, .ref a1, .int p2] : List Value).toArray below meth c H locs (mxz υ - mxz σ) (mxu υ - mxu σ) (mx_Z below G P (some (.int r)) σ σ' [.ref a0, .ref a1, .int p2] s) (F0 m 48 ls [])) → (∀  (υ : mx_S), o = .inr (.inl υ) → ∀ (H : Heap) (locs : List Loc), mx_J G P s.heap (mxz σ) (mxu σ) υ H locs → ∀ ls : Array Slot, lv_has ls 8 [(0, .ref v0), (1, .ref v1), (2, .int v2), (3, .int v3)] → W p l e (mx_rm P 5 132 σ) s m ([.ref a0, .ref a1, .int p2] : List Value).toArray below meth c H locs (mxz υ - mxz σ) (mxu υ - mxu σ) (mx_Z below G P (some (.int r)) σ σ' [.ref a0, .ref a1, .int p2] s) (F0 m 118 ls [])) → (∀  (υ : mx_S), o = .inr (.inr (.inl υ)) → ∀ (H : Heap) (locs : List Loc), mx_J G P s.heap (mxz σ) (mxu σ) υ H locs → ∀ ls : Array Slot, lv_has ls 8 [] → W p l e (mx_rm P 5 132 σ) s m ([.ref a0, .ref a1, .int p2] : List Value).toArray below meth c H locs (mxz υ - mxz σ) (mxu υ - mxu σ) (mx_Z below G P (some (.int r)) σ σ' [.ref a0, .ref a1, .int p2] s) (F0 m 131 ls [])) → (∀ (y7 : Int32) (υ : mx_S), o = .inr (.inr (.inr (.inl (y7, υ)))) → ∀ (H : Heap) (locs : List Loc), mx_J G P s.heap (mxz σ) (mxu σ) υ H locs → ∀ ls : Array Slot, lv_has ls 8 [(1, .ref v1), (3, .int v3), (7, .int y7)] → W p l e (mx_rm P 5 132 σ) s m ([.ref a0, .ref a1, .int p2] : List Value).toArray below meth c H locs (mxz υ - mxz σ) (mxu υ - mxu σ) (mx_Z below G P (some (.int r)) σ σ' [.ref a0, .ref a1, .int p2] s) (F0 m 177 ls [])) → (∀  (υ : mx_S), o = .inr (.inr (.inr (.inr υ))) → ∀ (H : Heap) (locs : List Loc), mx_J G P s.heap (mxz σ) (mxu σ) υ H locs → ∀ ls : Array Slot, lv_has ls 8 [(0, .ref v0), (1, .ref v1), (2, .int v2), (3, .int v3)] → W p l e (mx_rm P 5 132 σ) s m ([.ref a0, .ref a1, .int p2] : List Value).toArray below meth c H locs (mxz υ - mxz σ) (mxu υ - mxu σ) (mx_Z below G P (some (.int r)) σ σ' [.ref a0, .ref a1, .int p2] s) (F0 m 192 ls [])) → ∀ (H : Heap) (locs : List Loc), mx_J G P s.heap (mxz σ) (mxu σ) τ H locs → ∀ ls : Array Slot, lv_has ls 8 [(0, .ref v0), (1, .ref v1), (2, .int v2), (3, .int v3), (4, .int v4), (5, .int v5)] → W p l e (mx_rm P 5 132 σ) s m ([.ref a0, .ref a1, .int p2] : List Value).toArray below meth c H locs (mxz τ - mxz σ) (mxu τ - mxu σ) (mx_Z below G P (some (.int r)) σ σ' [.ref a0, .ref a1, .int p2] s) (F0 m 89 ls [.int w0]) := by
    intro v0 v1 v2 v3 v4 v5 w0 τ o hf Kb Ke0 Ke1 Ke2 Ke3 H locs hJ ls hl
    unfold f_X2_move_D89_48 at hf
    refine lv_istore (lv' := [(6, .int w0), (0, .ref v0), (1, .ref v1), (2, .int v2), (3, .int v3), (4, .int v4), (5, .int v5)]) hx hb dX2_move_89 hl (by decide) rfl (fun ls hl => ?_)
    refine lv_iload hx hb dX2_move_91 (lv_at hl 0 rfl) ?_
    refine lv_if_eq (tgt := 121) hx hb dX2_move_93 (by decide) (fun c28 => ?_) (fun c28 => ?_)
    · rw [if_pos c28] at hf
      exact D121_48 v0 v1 v2 v3 v4 v5 τ o hf Kb Ke0 Ke1 Ke2 Ke3 _ _ hJ ls (lv_sub hl [1, 2, 3, 4, 5, 6] rfl)
    · rw [if_neg c28] at hf
      refine lv_aload_n hx hb dX2_move_96 rfl (lv_at hl 1 rfl) ?_
      refine lv_aload_n hx hb dX2_move_97 rfl (lv_at hl 2 rfl) ?_
      obtain ⟨b54, e55, hf⟩ := mb0 hf
      refine my_gR hx hb hts hown hK hJ fd_RX2_135 hv_7_0 e55 dX2_move_98 ?_
      refine lv_aload_n hx hb dX2_move_101 rfl (lv_at hl 1 rfl) ?_
      obtain ⟨b56, e57, hf⟩ := mb0 hf
      refine my_gR hx hb hts hown hK hJ fd_RX2_22 hv_2_8 e57 dX2_move_102 ?_
      refine lv_iload_n hx hb dX2_move_105 rfl (lv_at hl 3 rfl) ?_
      obtain ⟨x58, e59, hf⟩ := mb0 hf
      refine mx_aI hx hb hK hJ e59 dX2_move_106 ?_
      obtain ⟨b60, e61, hf⟩ := mb0 hf
      refine mx_aR hx hb hK hJ (t := 4) rfl (fun _ _ _ => rfl) e61 dX2_move_107 ?_
      obtain ⟨b62, e63, hf⟩ := mb0 hf
      refine my_gR hx hb hts hown hK hJ fd_RX2_139 hv_5_12 e63 dX2_move_108 ?_
      refine lv_iload_n hx hb dX2_move_111 rfl (lv_at hl 3 rfl) ?_
      obtain ⟨i64, e65, hf⟩ := mb0 hf
      obtain ⟨x67, σ66, e68, hf⟩ := mc0 hf
      refine mx_callV (As := [.ref b62, .int v2]) (rest := []) hx hb hml hts hown hK hJ rfl rfl (ci := 2) rfl e65 (c_X2_isReached l G P v0 b62 v2 τ x67 σ66 e68) me_X2_isReached kw_1838 ks_77 kw_1836 (Nat.le_of_ble_eq_true rfl) (Nat.le_of_ble_eq_true rfl) rfl hl.1 rfl (Nat.le_of_ble_eq_true rfl) dX2_move_112 (fun H locs hJ => ?_)
      refine lv_if_eq (tgt := 121) hx hb dX2_move_115 (by decide) (fun c69 => ?_) (fun c69 => ?_)
      · rw [if_pos c69] at hf
        exact D121_48 v0 v1 v2 v3 v4 v5 σ66 o hf Kb Ke0 Ke1 Ke2 Ke3 _ _ hJ ls (lv_sub hl [1, 2, 3, 4, 5, 6] rfl)
      · rw [if_neg c69] at hf
        exact Ke0 σ66 (Option.some.inj hf).symm _ _ hJ ls (lv_sub hl [1, 2, 3, 4] rfl)
  have D88_48 : ∀ (v0 : Nat) (v1 : Nat) (v2 : Int32) (v3 : Int32) (v4 : Int32) (v5 : Int32) (τ : mx_S) (o : (Int32 × mx_S) ⊕ ((mx_S) ⊕ (mx_S) ⊕ (Int32 × mx_S) ⊕ (mx_S))), f_X2_move_D88_48 P v0 v1 v2 v3 v4 v5 τ = some o → (∀ (y5 : Int32) (υ : mx_S), o = .inl (y5, υ) → ∀ (H : Heap) (locs : List Loc), mx_J G P s.heap (mxz σ) (mxu σ) υ H locs → ∀ ls : Array Slot, lv_has ls 8 [(0, .ref v0), (1, .ref v1), (2, .int v2), (3, .int v3), (4, .int v4), (5, .int y5)] → W p l e (mx_rm P 5 132 σ) s m ([.ref a0, .ref a1, .int p2] : List Value).toArray below meth c H locs (mxz υ - mxz σ) (mxu υ - mxu σ) (mx_Z below G P (some (.int r)) σ σ' [.ref a0, .ref a1, .int p2] s) (F0 m 48 ls [])) → (∀  (υ : mx_S), o = .inr (.inl υ) → ∀ (H : Heap) (locs : List Loc), mx_J G P s.heap (mxz σ) (mxu σ) υ H locs → ∀ ls : Array Slot, lv_has ls 8 [(0, .ref v0), (1, .ref v1), (2, .int v2), (3, .int v3)] → W p l e (mx_rm P 5 132 σ) s m ([.ref a0, .ref a1, .int p2] : List Value).toArray below meth c H locs (mxz υ - mxz σ) (mxu υ - mxu σ) (mx_Z below G P (some (.int r)) σ σ' [.ref a0, .ref a1, .int p2] s) (F0 m 118 ls [])) → (∀  (υ : mx_S), o = .inr (.inr (.inl υ)) → ∀ (H : Heap) (locs : List Loc), mx_J G P s.heap (mxz σ) (mxu σ) υ H locs → ∀ ls : Array Slot, lv_has ls 8 [] → W p l e (mx_rm P 5 132 σ) s m ([.ref a0, .ref a1, .int p2] : List Value).toArray below meth c H locs (mxz υ - mxz σ) (mxu υ - mxu σ) (mx_Z below G P (some (.int r)) σ σ' [.ref a0, .ref a1, .int p2] s) (F0 m 131 ls [])) → (∀ (y7 : Int32) (υ : mx_S), o = .inr (.inr (.inr (.inl (y7, υ)))) → ∀ (H : Heap) (locs : List Loc), mx_J G P s.heap (mxz σ) (mxu σ) υ H locs → ∀ ls : Array Slot, lv_has ls 8 [(1, .ref v1), (3, .int v3), (7, .int y7)] → W p l e (mx_rm P 5 132 σ) s m ([.ref a0, .ref a1, .int p2] : List Value).toArray below meth c H locs (mxz υ - mxz σ) (mxu υ - mxu σ) (mx_Z below G P (some (.int r)) σ σ' [.ref a0, .ref a1, .int p2] s) (F0 m 177 ls [])) → (∀  (υ : mx_S), o = .inr (.inr (.inr (.inr υ))) → ∀ (H : Heap) (locs : List Loc), mx_J G P s.heap (mxz σ) (mxu σ) υ H locs → ∀ ls : Array Slot, lv_has ls 8 [(0, .ref v0), (1, .ref v1), (2, .int v2), (3, .int v3)] → W p l e (mx_rm P 5 132 σ) s m ([.ref a0, .ref a1, .int p2] : List Value).toArray below meth c H locs (mxz υ - mxz σ) (mxu υ - mxu σ) (mx_Z below G P (some (.int r)) σ σ' [.ref a0, .ref a1, .int p2] s) (F0 m 192 ls [])) → ∀ (H : Heap) (locs : List Loc), mx_J G P s.heap (mxz σ) (mxu σ) τ H locs → ∀ ls : Array Slot, lv_has ls 8 [(0, .ref v0), (1, .ref v1), (2, .int v2), (3, .int v3), (4, .int v4), (5, .int v5)] → W p l e (mx_rm P 5 132 σ) s m ([.ref a0, .ref a1, .int p2] : List Value).toArray below meth c H locs (mxz τ - mxz σ) (mxu τ - mxu σ) (mx_Z below G P (some (.int r)) σ σ' [.ref a0, .ref a1, .int p2] s) (F0 m 88 ls []) := by
    intro v0 v1 v2 v3 v4 v5 τ o hf Kb Ke0 Ke1 Ke2 Ke3 H locs hJ ls hl
    unfold f_X2_move_D88_48 at hf
    refine lv_iconst (v := 0) hx hb dX2_move_88 (by decide) ?_
    exact D89_48 v0 v1 v2 v3 v4 v5 (0 : Int32) τ o hf Kb Ke0 Ke1 Ke2 Ke3 _ _ hJ ls (lv_sub hl [0, 1, 2, 3, 4, 5] rfl)
  have B48 : ∀ (v0 : Nat) (v1 : Nat) (v2 : Int32) (v3 : Int32) (v4 : Int32) (v5 : Int32) (τ : mx_S) (o : (Int32 × mx_S) ⊕ ((mx_S) ⊕ (mx_S) ⊕ (Int32 × mx_S) ⊕ (mx_S))), f_X2_move_B48 P v0 v1 v2 v3 v4 v5 τ = some o → (∀ (y5 : Int32) (υ : mx_S), o = .inl (y5, υ) → ∀ (H : Heap) (locs : List Loc), mx_J G P s.heap (mxz σ) (mxu σ) υ H locs → ∀ ls : Array Slot, lv_has ls 8 [(0, .ref v0), (1, .ref v1), (2, .int v2), (3, .int v3), (4, .int v4), (5, .int y5)] → W p l e (mx_rm P 5 132 σ) s m ([.ref a0, .ref a1, .int p2] : List Value).toArray below meth c H locs (mxz υ - mxz σ) (mxu υ - mxu σ) (mx_Z below G P (some (.int r)) σ σ' [.ref a0, .ref a1, .int p2] s) (F0 m 48 ls [])) → (∀  (υ : mx_S), o = .inr (.inl υ) → ∀ (H : Heap) (locs : List Loc), mx_J G P s.heap (mxz σ) (mxu σ) υ H locs → ∀ ls : Array Slot, lv_has ls 8 [(0, .ref v0), (1, .ref v1), (2, .int v2), (3, .int v3)] → W p l e (mx_rm P 5 132 σ) s m ([.ref a0, .ref a1, .int p2] : List Value).toArray below meth c H locs (mxz υ - mxz σ) (mxu υ - mxu σ) (mx_Z below G P (some (.int r)) σ σ' [.ref a0, .ref a1, .int p2] s) (F0 m 118 ls [])) → (∀  (υ : mx_S), o = .inr (.inr (.inl υ)) → ∀ (H : Heap) (locs : List Loc), mx_J G P s.heap (mxz σ) (mxu σ) υ H locs → ∀ ls : Array Slot, lv_has ls 8 [] → W p l e (mx_rm P 5 132 σ) s m ([.ref a0, .ref a1, .int p2] : List Value).toArray below meth c H locs (mxz υ - mxz σ) (mxu υ - mxu σ) (mx_Z below G P (some (.int r)) σ σ' [.ref a0, .ref a1, .int p2] s) (F0 m 131 ls [])) → (∀ (y7 : Int32) (υ : mx_S), o = .inr (.inr (.inr (.inl (y7, υ)))) → ∀ (H : Heap) (locs : List Loc), mx_J G P s.heap (mxz σ) (mxu σ) υ H locs → ∀ ls : Array Slot, lv_has ls 8 [(1, .ref v1), (3, .int v3), (7, .int y7)] → W p l e (mx_rm P 5 132 σ) s m ([.ref a0, .ref a1, .int p2] : List Value).toArray below meth c H locs (mxz υ - mxz σ) (mxu υ - mxu σ) (mx_Z below G P (some (.int r)) σ σ' [.ref a0, .ref a1, .int p2] s) (F0 m 177 ls [])) → (∀  (υ : mx_S), o = .inr (.inr (.inr (.inr υ))) → ∀ (H : Heap) (locs : List Loc), mx_J G P s.heap (mxz σ) (mxu σ) υ H locs → ∀ ls : Array Slot, lv_has ls 8 [(0, .ref v0), (1, .ref v1), (2, .int v2), (3, .int v3)] → W p l e (mx_rm P 5 132 σ) s m ([.ref a0, .ref a1, .int p2] : List Value).toArray below meth c H locs (mxz υ - mxz σ) (mxu υ - mxu σ) (mx_Z below G P (some (.int r)) σ σ' [.ref a0, .ref a1, .int p2] s) (F0 m 192 ls [])) → ∀ (H : Heap) (locs : List Loc), mx_J G P s.heap (mxz σ) (mxu σ) τ H locs → ∀ ls : Array Slot, lv_has ls 8 [(0, .ref v0), (1, .ref v1), (2, .int v2), (3, .int v3), (4, .int v4), (5, .int v5)] → W p l e (mx_rm P 5 132 σ) s m ([.ref a0, .ref a1, .int p2] : List Value).toArray below meth c H locs (mxz τ - mxz σ) (mxu τ - mxu σ) (mx_Z below G P (some (.int r)) σ σ' [.ref a0, .ref a1, .int p2] s) (F0 m 48 ls []) := by
    intro v0 v1 v2 v3 v4 v5 τ o hf Kb Ke0 Ke1 Ke2 Ke3 H locs hJ ls hl
    unfold f_X2_move_B48 at hf
    refine lv_iload hx hb dX2_move_48 (lv_at hl 5 rfl) ?_
    refine lv_aload_n hx hb dX2_move_50 rfl (lv_at hl 0 rfl) ?_
    obtain ⟨b15, e16, hf⟩ := mb0 hf
    refine my_gR hx hb hts hown hK hJ fd_RX2_19 hv_2_7 e16 dX2_move_51 ?_
    refine lv_iload_n hx hb dX2_move_54 rfl (lv_at hl 2 rfl) ?_
    obtain ⟨x17, e18, hf⟩ := mb0 hf
    refine mx_aI hx hb hK hJ e18 dX2_move_55 ?_
    obtain ⟨x20, σ19, e21, hf⟩ := mc0 hf
    refine mx_callS (As := [.int x17]) (rest := [.int v5]) hx hb hml hts hown hK hJ rfl rfl (c_J9_abs_0f7a4 l G P x17 τ x20 σ19 e21) me_J9_abs_0f7a4 kw_698 kw_1834 (Nat.le_of_ble_eq_true rfl) (Nat.le_of_ble_eq_true rfl) rfl hl.1 rfl (Nat.le_of_ble_eq_true rfl) dX2_move_56 (fun H locs hJ => ?_)
    refine lv_icmp_ge (tgt := 192) hx hb dX2_move_59 (by decide) (fun c22 => ?_) (fun c22 => ?_)
    · rw [if_pos c22] at hf
      exact Ke3 σ19 (Option.some.inj hf).symm _ _ hJ ls (lv_sub hl [0, 1, 2, 3] rfl)
    · rw [if_neg c22] at hf
      refine lv_aload_n hx hb dX2_move_62 rfl (lv_at hl 0 rfl) ?_
      obtain ⟨b23, e24, hf⟩ := mb0 hf
      refine my_gR hx hb hts hown hK hJ fd_RX2_13 hv_2_5 e24 dX2_move_63 ?_
      refine lv_iload_n hx hb dX2_move_66 rfl (lv_at hl 2 rfl) ?_
      obtain ⟨x25, e26, hf⟩ := mb0 hf
      refine mx_aI hx hb hK hJ e26 dX2_move_67 ?_
      refine lv_iconst (v := 1) hx hb dX2_move_68 (by decide) ?_
      refine lv_icmp_ne (tgt := 88) hx hb dX2_move_69 (by decide) (fun c27 => ?_) (fun c27 => ?_)
      · rw [if_neg c27] at hf
        exact D88_48 v0 v1 v2 v3 v4 v5 σ19 o hf Kb Ke0 Ke1 Ke2 Ke3 _ _ hJ ls (lv_sub hl [0, 1, 2, 3, 4, 5] rfl)
      · rw [if_pos c27] at hf
        refine lv_aload_n hx hb dX2_move_72 rfl (lv_at hl 1 rfl) ?_
        refine lv_aload_n hx hb dX2_move_73 rfl (lv_at hl 0 rfl) ?_
        obtain ⟨x70, e71, hf⟩ := mb0 hf
        refine my_gI hx hb hts hown hK hJ fd_RX2_121 hv_2_4 e71 dX2_move_74 ?_
        refine lv_iconst (v := 1) hx hb dX2_move_77 (by decide) ?_
        obtain ⟨i72, e73, hf⟩ := mb0 hf
        obtain ⟨x75, σ74, e76, hf⟩ := mc0 hf
        refine mx_callV (As := [.int x70, .int (1 : Int32)]) (rest := []) hx hb hml hts hown hK hJ rfl rfl (ci := 7) rfl e73 (c_X7_look l G P v1 x70 (1 : Int32) σ19 x75 σ74 e76) me_X7_look kw_655 kw_656 kw_1835 (Nat.le_of_ble_eq_true rfl) (Nat.le_of_ble_eq_true rfl) rfl hl.1 rfl (Nat.le_of_ble_eq_true rfl) dX2_move_78 (fun H locs hJ => ?_)
        refine lv_if_ne (tgt := 88) hx hb dX2_move_81 (by decide) (fun c77 => ?_) (fun c77 => ?_)
        · rw [if_neg c77] at hf
          exact D88_48 v0 v1 v2 v3 v4 v5 σ74 o hf Kb Ke0 Ke1 Ke2 Ke3 _ _ hJ ls (lv_sub hl [0, 1, 2, 3, 4, 5] rfl)
        · rw [if_pos c77] at hf
          refine lv_iconst (v := 1) hx hb dX2_move_84 (by decide) ?_
          refine lv_goto (tgt := 89) hx hb dX2_move_85 (by decide) ?_
          exact D89_48 v0 v1 v2 v3 v4 v5 (1 : Int32) σ74 o hf Kb Ke0 Ke1 Ke2 Ke3 _ _ hJ ls (lv_sub hl [0, 1, 2, 3, 4, 5] rfl)
  have L48 : ∀ (v0 : Nat) (v1 : Nat) (v2 : Int32) (v3 : Int32) (v4 : Int32) (n : Nat) (v5 : Int32) (τ : mx_S) (o : (mx_S) ⊕ (mx_S) ⊕ (Int32 × mx_S) ⊕ (mx_S)), mx_lp (f_X2_move_L48 P v0 v1 v2 v3 v4) n (v5, τ) = some o → (∀  (υ : mx_S), o = (.inl υ) → ∀ (H : Heap) (locs : List Loc), mx_J G P s.heap (mxz σ) (mxu σ) υ H locs → ∀ ls : Array Slot, lv_has ls 8 [(0, .ref v0), (1, .ref v1), (2, .int v2), (3, .int v3)] → W p l e (mx_rm P 5 132 σ) s m ([.ref a0, .ref a1, .int p2] : List Value).toArray below meth c H locs (mxz υ - mxz σ) (mxu υ - mxu σ) (mx_Z below G P (some (.int r)) σ σ' [.ref a0, .ref a1, .int p2] s) (F0 m 118 ls [])) → (∀  (υ : mx_S), o = (.inr (.inl υ)) → ∀ (H : Heap) (locs : List Loc), mx_J G P s.heap (mxz σ) (mxu σ) υ H locs → ∀ ls : Array Slot, lv_has ls 8 [] → W p l e (mx_rm P 5 132 σ) s m ([.ref a0, .ref a1, .int p2] : List Value).toArray below meth c H locs (mxz υ - mxz σ) (mxu υ - mxu σ) (mx_Z below G P (some (.int r)) σ σ' [.ref a0, .ref a1, .int p2] s) (F0 m 131 ls [])) → (∀ (y7 : Int32) (υ : mx_S), o = (.inr (.inr (.inl (y7, υ)))) → ∀ (H : Heap) (locs : List Loc), mx_J G P s.heap (mxz σ) (mxu σ) υ H locs → ∀ ls : Array Slot, lv_has ls 8 [(1, .ref v1), (3, .int v3), (7, .int y7)] → W p l e (mx_rm P 5 132 σ) s m ([.ref a0, .ref a1, .int p2] : List Value).toArray below meth c H locs (mxz υ - mxz σ) (mxu υ - mxu σ) (mx_Z below G P (some (.int r)) σ σ' [.ref a0, .ref a1, .int p2] s) (F0 m 177 ls [])) → (∀  (υ : mx_S), o = (.inr (.inr (.inr υ))) → ∀ (H : Heap) (locs : List Loc), mx_J G P s.heap (mxz σ) (mxu σ) υ H locs → ∀ ls : Array Slot, lv_has ls 8 [(0, .ref v0), (1, .ref v1), (2, .int v2), (3, .int v3)] → W p l e (mx_rm P 5 132 σ) s m ([.ref a0, .ref a1, .int p2] : List Value).toArray below meth c H locs (mxz υ - mxz σ) (mxu υ - mxu σ) (mx_Z below G P (some (.int r)) σ σ' [.ref a0, .ref a1, .int p2] s) (F0 m 192 ls [])) → ∀ (H : Heap) (locs : List Loc), mx_J G P s.heap (mxz σ) (mxu σ) τ H locs → ∀ ls : Array Slot, lv_has ls 8 [(0, .ref v0), (1, .ref v1), (2, .int v2), (3, .int v3), (4, .int v4), (5, .int v5)] → W p l e (mx_rm P 5 132 σ) s m ([.ref a0, .ref a1, .int p2] : List Value).toArray below meth c H locs (mxz τ - mxz σ) (mxu τ - mxu σ) (mx_Z below G P (some (.int r)) σ σ' [.ref a0, .ref a1, .int p2] s) (F0 m 48 ls []) := by
    intro v0 v1 v2 v3 v4 n
    induction n with
    | zero =>
      intro v5 τ o hf
      rw [mx_lp0] at hf
      cases hf
    | succ n ih =>
      intro v5 τ o hf Ke0 Ke1 Ke2 Ke3 H locs hJ ls hl
      rw [mx_lpS] at hf
      obtain ⟨b, eb, hf⟩ := mb0 hf
      refine B48 v0 v1 v2 v3 v4 v5 τ b eb (fun y5 υ ho H locs hJ ls hl => ?_) (fun  υ ho H locs hJ ls hl => ?_) (fun  υ ho H locs hJ ls hl => ?_) (fun y7 υ ho H locs hJ ls hl => ?_) (fun  υ ho H locs hJ ls hl => ?_) H locs hJ ls hl
      · subst ho
        exact ih y5 υ o hf Ke0 Ke1 Ke2 Ke3 H locs hJ ls hl
      · subst ho
        exact Ke0  υ (Option.some.inj hf).symm _ _ hJ ls hl
      · subst ho
        exact Ke1  υ (Option.some.inj hf).symm _ _ hJ ls hl
      · subst ho
        exact Ke2 y7 υ (Option.some.inj hf).symm _ _ hJ ls hl
      · subst ho
        exact Ke3  υ (Option.some.inj hf).symm _ _ hJ ls hl
  have D192 : ∀ (v0 : Nat) (v1 : Nat) (v2 : Int32) (v3 : Int32) (τ : mx_S), f_X2_move_D192 P v0 v1 v2 v3 τ = some (r, σ') → ∀ (H : Heap) (locs : List Loc), mx_J G P s.heap (mxz σ) (mxu σ) τ H locs → ∀ ls : Array Slot, lv_has ls 8 [(0, .ref v0), (1, .ref v1), (2, .int v2), (3, .int v3)] → W p l e (mx_rm P 5 132 σ) s m ([.ref a0, .ref a1, .int p2] : List Value).toArray below meth c H locs (mxz τ - mxz σ) (mxu τ - mxu σ) (mx_Z below G P (some (.int r)) σ σ' [.ref a0, .ref a1, .int p2] s) (F0 m 192 ls []) := by
    intro v0 v1 v2 v3 τ hf _ _ hJ ls hl
    unfold f_X2_move_D192 at hf
    refine lv_aload_n hx hb dX2_move_192 rfl (lv_at hl 0 rfl) ?_
    refine lv_iload_n hx hb dX2_move_193 rfl (lv_at hl 2 rfl) ?_
    refine lv_iload_n hx hb dX2_move_194 rfl (lv_at hl 3 rfl) ?_
    refine lv_aload_n hx hb dX2_move_195 rfl (lv_at hl 1 rfl) ?_
    obtain ⟨b81, e82, hf⟩ := mb0 hf
    refine my_gR hx hb hts hown hK hJ fd_RX2_149 hv_7_4 e82 dX2_move_196 ?_
    refine lv_iload_n hx hb dX2_move_199 rfl (lv_at hl 3 rfl) ?_
    obtain ⟨x83, e84, hf⟩ := mb0 hf
    refine mx_aI hx hb hK hJ e84 dX2_move_200 ?_
    obtain ⟨i85, e86, hf⟩ := mb0 hf
    obtain ⟨σ87, e88, hf⟩ := mb0 hf
    refine mx_callV (As := [.int v2, .int v3, .int x83]) (rest := []) hx hb hml hts hown hK hJ rfl rfl (ci := 2) rfl e86 (c_X2_keepEvent l G P v0 v2 v3 x83 τ σ87 e88) me_X2_keepEvent kw_1843 ks_78 kw_1841 (Nat.le_of_ble_eq_true rfl) (Nat.le_of_ble_eq_true rfl) rfl hl.1 rfl (Nat.le_of_ble_eq_true rfl) dX2_move_201 (fun H locs hJ => ?_)
    refine lv_iconst (v := 0) hx hb dX2_move_204 (by decide) ?_
    exact my_iret hx hb hr hlocks hJ hf dX2_move_205
  have D43 : ∀ (v0 : Nat) (v1 : Nat) (v2 : Int32) (v3 : Int32) (w0 : Int32) (τ : mx_S), f_X2_move_D43 P v0 v1 v2 v3 w0 τ = some (r, σ') → ∀ (H : Heap) (locs : List Loc), mx_J G P s.heap (mxz σ) (mxu σ) τ H locs → ∀ ls : Array Slot, lv_has ls 8 [(0, .ref v0), (1, .ref v1), (2, .int v2), (3, .int v3)] → W p l e (mx_rm P 5 132 σ) s m ([.ref a0, .ref a1, .int p2] : List Value).toArray below meth c H locs (mxz τ - mxz σ) (mxu τ - mxu σ) (mx_Z below G P (some (.int r)) σ σ' [.ref a0, .ref a1, .int p2] s) (F0 m 43 ls [.int w0]) := by
    intro v0 v1 v2 v3 w0 τ hf _ _ hJ ls hl
    unfold f_X2_move_D43 at hf
    refine lv_istore (lv' := [(4, .int w0), (0, .ref v0), (1, .ref v1), (2, .int v2), (3, .int v3)]) hx hb dX2_move_43 hl (by decide) rfl (fun ls hl => ?_)
    refine lv_iconst (v := 0) hx hb dX2_move_45 (by decide) ?_
    refine lv_istore (lv' := [(5, .int (0 : Int32)), (4, .int w0), (0, .ref v0), (1, .ref v1), (2, .int v2), (3, .int v3)]) hx hb dX2_move_46 hl (by decide) rfl (fun ls hl => ?_)
    obtain ⟨o78, e79, hf⟩ := mb0 hf
    refine L48 v0 v1 v2 v3 w0 (mpN P) (0 : Int32) τ o78 e79 (fun σ80 ho H locs hJ ls hl => ?_) (fun σ89 ho H locs hJ ls hl => ?_) (fun y90 σ91 ho H locs hJ ls hl => ?_) (fun σ96 ho H locs hJ ls hl => ?_) _ _ hJ ls (lv_sub hl [2, 3, 4, 5, 1, 0] rfl)
    · rw [ho] at hf
      have hf : (f_X2_move_D192 P v0 v1 v2 v3 σ80) = some (r, σ') := hf
      refine lv_goto (tgt := 192) hx hb dX2_move_118 (by decide) ?_
      exact D192 v0 v1 v2 v3 σ80 hf _ _ hJ ls (lv_sub hl [0, 1, 2, 3] rfl)
    · rw [ho] at hf
      have hf : (some ((2 : Int32), σ89)) = some (r, σ') := hf
      refine lv_iconst (v := 2) hx hb dX2_move_131 (by decide) ?_
      exact my_iret hx hb hr hlocks hJ hf dX2_move_132
    · rw [ho] at hf
      have hf : ((mx_is σ91 v1 7).bind fun i92 => (f_X7_moveTo P v1 v3 y90 σ91).bind fun σ94 => some ((1 : Int32), σ94)) = some (r, σ') := hf
      refine lv_aload_n hx hb dX2_move_177 rfl (lv_at hl 0 rfl) ?_
      refine lv_iload_n hx hb dX2_move_178 rfl (lv_at hl 1 rfl) ?_
      refine lv_iload hx hb dX2_move_179 (lv_at hl 2 rfl) ?_
      obtain ⟨i92, e93, hf⟩ := mb0 hf
      obtain ⟨σ94, e95, hf⟩ := mb0 hf
      refine mx_callV (As := [.int v3, .int y90]) (rest := []) hx hb hml hts hown hK hJ rfl rfl (ci := 7) rfl e93 (c_X7_moveTo l G P v1 v3 y90 σ91 σ94 e95) me_X7_moveTo kw_1035 kw_1036 kw_1840 (Nat.le_of_ble_eq_true rfl) (Nat.le_of_ble_eq_true rfl) rfl hl.1 rfl (Nat.le_of_ble_eq_true rfl) dX2_move_181 (fun H locs hJ => ?_)
      refine lv_iconst (v := 1) hx hb dX2_move_184 (by decide) ?_
      exact my_iret hx hb hr hlocks hJ hf dX2_move_185
    · rw [ho] at hf
      have hf : (f_X2_move_D192 P v0 v1 v2 v3 σ96) = some (r, σ') := hf
      exact D192 v0 v1 v2 v3 σ96 hf _ _ hJ ls (lv_sub hl [0, 1, 2, 3] rfl)
  unfold f_X2_move at hf
  refine lv_aload_n hx hb dX2_move_0 rfl (lv_at hl 0 rfl) ?_
  obtain ⟨b1, e2, hf⟩ := mb0 hf
  refine my_gR hx hb hts hown hK hJ fd_RX2_13 hv_2_5 e2 dX2_move_1 ?_
  refine lv_iload_n hx hb dX2_move_4 rfl (lv_at hl 2 rfl) ?_
  obtain ⟨x3, e4, hf⟩ := mb0 hf
  refine mx_aI hx hb hK hJ e4 dX2_move_5 ?_
  refine lv_iconst (v := 3) hx hb dX2_move_6 (by decide) ?_
  refine lv_icmp_ne (tgt := 22) hx hb dX2_move_7 (by decide) (fun c5 => ?_) (fun c5 => ?_)
  · rw [if_neg c5] at hf
    refine lv_aload_n hx hb dX2_move_22 rfl (lv_at hl 0 rfl) ?_
    obtain ⟨b6, e7, hf⟩ := mb0 hf
    refine my_gR hx hb hts hown hK hJ fd_RX2_16 hv_2_6 e7 dX2_move_23 ?_
    refine lv_iload_n hx hb dX2_move_26 rfl (lv_at hl 2 rfl) ?_
    obtain ⟨x8, e9, hf⟩ := mb0 hf
    refine mx_aI hx hb hK hJ e9 dX2_move_27 ?_
    refine lv_istore_n (lv' := [(3, .int x8), (0, .ref a0), (1, .ref a1), (2, .int p2)]) hx hb dX2_move_28 rfl hl (by decide) rfl (fun ls hl => ?_)
    refine lv_aload_n hx hb dX2_move_29 rfl (lv_at hl 1 rfl) ?_
    obtain ⟨b10, e11, hf⟩ := mb0 hf
    refine my_gR hx hb hts hown hK hJ fd_RX2_19 hv_2_7 e11 dX2_move_30 ?_
    refine lv_iload_n hx hb dX2_move_33 rfl (lv_at hl 3 rfl) ?_
    obtain ⟨x12, e13, hf⟩ := mb0 hf
    refine mx_aI hx hb hK hJ e13 dX2_move_34 ?_
    refine lv_if_ge (tgt := 42) hx hb dX2_move_35 (by decide) (fun c14 => ?_) (fun c14 => ?_)
    · rw [if_pos c14] at hf
      refine lv_iconst (v := 1) hx hb dX2_move_42 (by decide) ?_
      exact D43 a0 a1 p2 x8 (1 : Int32) σ hf _ _ hJ ls (lv_sub hl [1, 2, 3, 0] rfl)
    · rw [if_neg c14] at hf
      refine lv_iconst (v := (-1)) hx hb dX2_move_38 (by decide) ?_
      refine lv_goto (tgt := 43) hx hb dX2_move_39 (by decide) ?_
      exact D43 a0 a1 p2 x8 (-1 : Int32) σ hf _ _ hJ ls (lv_sub hl [1, 2, 3, 0] rfl)
  · rw [if_pos c5] at hf
    refine lv_aload_n hx hb dX2_move_10 rfl (lv_at hl 0 rfl) ?_
    refine lv_aload_n hx hb dX2_move_11 rfl (lv_at hl 0 rfl) ?_
    obtain ⟨b97, e98, hf⟩ := mb0 hf
    refine my_gR hx hb hts hown hK hJ fd_RX2_19 hv_2_7 e98 dX2_move_12 ?_
    refine lv_iload_n hx hb dX2_move_15 rfl (lv_at hl 2 rfl) ?_
    obtain ⟨x99, e100, hf⟩ := mb0 hf
    refine mx_aI hx hb hK hJ e100 dX2_move_16 ?_
    obtain ⟨σ101, e102, hf⟩ := mb0 hf
    refine my_pI hx hb hts hown hK hJ fd_RX2_121 cd_2 (Or.inl rfl) ht_2_4 e102 dX2_move_17 (fun H locs hJ => ?_)
    refine lv_iconst (v := 0) hx hb dX2_move_20 (by decide) ?_
    exact my_iret hx hb hr hlocks hJ hf dX2_move_21
set_option maxHeartbeats 4000000 in
set_option maxRecDepth 100000 in
theorem c_X2_run (l : Launch) (G : mx_G) (P : mx_P) (a0 : Nat) (a1 : Nat) (σ : mx_S) (r : Int32) (σ' : mx_S) (hf : f_X2_run P a0 a1 σ = some (r, σ')) : mxz σ ≤ mpc P → mxu σ ≤ mps P → mx_M l yX2_run cX2_run 7 (some .int) 6 159 G P [.ref a0, .ref a1] σ (some (.int r)) σ' := by
  intro hcap hcau
  refine mx_ofW (by decide +kernel) hcap hcau (Nat.le_of_ble_eq_true rfl) ?_
  intro p e s m below meth c hx hb hr hml hts hown hlocks hname hK hJ ls hl
  have hz0 := hJ.2.1
  have hown : s.vm.findClass RX2 = some m.cls := hown
  have hl : lv_has ls 7 [(0, .ref a0), (1, .ref a1)] := hl
  have D116_28 : ∀ (v0 : Nat) (v1 : Nat) (v2 : Int32) (v3 : Int32) (v4 : Int32) (v5 : Int32) (v6 : Int32) (τ : mx_S) (o : (Int32 × Int32 × Int32 × Int32 × Int32 × mx_S) ⊕ ((Int32 × mx_S))), f_X2_run_D116_28 P v0 v1 v2 v3 v4 v5 v6 τ = some o → (∀ (y2 : Int32) (y3 : Int32) (y4 : Int32) (y5 : Int32) (y6 : Int32) (υ : mx_S), o = .inl (y2, y3, y4, y5, y6, υ) → ∀ (H : Heap) (locs : List Loc), mx_J G P s.heap (mxz σ) (mxu σ) υ H locs → ∀ ls : Array Slot, lv_has ls 7 [(0, .ref v0), (1, .ref v1), (2, .int y2), (3, .int y3), (4, .int y4), (5, .int y5), (6, .int y6)] → W p l e (mx_rm P 6 159 σ) s m ([.ref a0, .ref a1] : List Value).toArray below meth c H locs (mxz υ - mxz σ) (mxu υ - mxu σ) (mx_Z below G P (some (.int r)) σ σ' [.ref a0, .ref a1] s) (F0 m 28 ls [])) → (∀ (y2 : Int32) (υ : mx_S), o = .inr (y2, υ) → ∀ (H : Heap) (locs : List Loc), mx_J G P s.heap (mxz σ) (mxu σ) υ H locs → ∀ ls : Array Slot, lv_has ls 7 [(2, .int y2)] → W p l e (mx_rm P 6 159 σ) s m ([.ref a0, .ref a1] : List Value).toArray below meth c H locs (mxz υ - mxz σ) (mxu υ - mxu σ) (mx_Z below G P (some (.int r)) σ σ' [.ref a0, .ref a1] s) (F0 m 122 ls [])) → ∀ (H : Heap) (locs : List Loc), mx_J G P s.heap (mxz σ) (mxu σ) τ H locs → ∀ ls : Array Slot, lv_has ls 7 [(0, .ref v0), (1, .ref v1), (2, .int v2), (3, .int v3), (4, .int v4), (5, .int v5), (6, .int v6)] → W p l e (mx_rm P 6 159 σ) s m ([.ref a0, .ref a1] : List Value).toArray below meth c H locs (mxz τ - mxz σ) (mxu τ - mxu σ) (mx_Z below G P (some (.int r)) σ σ' [.ref a0, .ref a1] s) (F0 m 116 ls []) := by
    intro v0 v1 v2 v3 v4 v5 v6 τ o hf Kb Ke0 H locs hJ ls hl
    unfold f_X2_run_D116_28 at hf
    obtain ⟨x21, e22, hf⟩ := mb0 hf
    refine lv_iinc (v := x21) (lv' := [(6, .int x21), (0, .ref v0), (1, .ref v1), (2, .int v2), (3, .int v3), (4, .int v4), (5, .int v5)]) hx hb dX2_run_116 hl (k := 6) rfl (by rw [← Option.some.inj e22]; rfl) (by decide) rfl (fun ls hl => ?_)
    refine lv_goto (tgt := 28) hx hb dX2_run_119 (by decide) ?_
    exact Kb v2 v3 v4 v5 x21 τ (Option.some.inj hf).symm _ _ hJ ls (lv_sub hl [1, 2, 3, 4, 5, 6, 0] rfl)
  have D91_28 : ∀ (v0 : Nat) (v1 : Nat) (v2 : Int32) (v3 : Int32) (v5 : Int32) (v6 : Int32) (w0 : Int32) (τ : mx_S) (o : (Int32 × Int32 × Int32 × Int32 × Int32 × mx_S) ⊕ ((Int32 × mx_S))), f_X2_run_D91_28 P v0 v1 v2 v3 v5 v6 w0 τ = some o → (∀ (y2 : Int32) (y3 : Int32) (y4 : Int32) (y5 : Int32) (y6 : Int32) (υ : mx_S), o = .inl (y2, y3, y4, y5, y6, υ) → ∀ (H : Heap) (locs : List Loc), mx_J G P s.heap (mxz σ) (mxu σ) υ H locs → ∀ ls : Array Slot, lv_has ls 7 [(0, .ref v0), (1, .ref v1), (2, .int y2), (3, .int y3), (4, .int y4), (5, .int y5), (6, .int y6)] → W p l e (mx_rm P 6 159 σ) s m ([.ref a0, .ref a1] : List Value).toArray below meth c H locs (mxz υ - mxz σ) (mxu υ - mxu σ) (mx_Z below G P (some (.int r)) σ σ' [.ref a0, .ref a1] s) (F0 m 28 ls [])) → (∀ (y2 : Int32) (υ : mx_S), o = .inr (y2, υ) → ∀ (H : Heap) (locs : List Loc), mx_J G P s.heap (mxz σ) (mxu σ) υ H locs → ∀ ls : Array Slot, lv_has ls 7 [(2, .int y2)] → W p l e (mx_rm P 6 159 σ) s m ([.ref a0, .ref a1] : List Value).toArray below meth c H locs (mxz υ - mxz σ) (mxu υ - mxu σ) (mx_Z below G P (some (.int r)) σ σ' [.ref a0, .ref a1] s) (F0 m 122 ls [])) → ∀ (H : Heap) (locs : List Loc), mx_J G P s.heap (mxz σ) (mxu σ) τ H locs → ∀ ls : Array Slot, lv_has ls 7 [(0, .ref v0), (1, .ref v1), (2, .int v2), (3, .int v3), (5, .int v5), (6, .int v6)] → W p l e (mx_rm P 6 159 σ) s m ([.ref a0, .ref a1] : List Value).toArray below meth c H locs (mxz τ - mxz σ) (mxu τ - mxu σ) (mx_Z below G P (some (.int r)) σ σ' [.ref a0, .ref a1] s) (F0 m 91 ls [.int w0]) := by
    intro v0 v1 v2 v3 v5 v6 w0 τ o hf Kb Ke0 H locs hJ ls hl
    unfold f_X2_run_D91_28 at hf
    refine lv_istore (lv' := [(4, .int w0), (0, .ref v0), (1, .ref v1), (2, .int v2), (3, .int v3), (5, .int v5), (6, .int v6)]) hx hb dX2_run_91 hl (by decide) rfl (fun ls hl => ?_)
    refine lv_iload hx hb dX2_run_93 (lv_at hl 0 rfl) ?_
    refine lv_if_le (tgt := 107) hx hb dX2_run_95 (by decide) (fun c18 => ?_) (fun c18 => ?_)
    · rw [if_pos c18] at hf
      refine lv_iconst (v := (-1)) hx hb dX2_run_107 (by decide) ?_
      refine lv_istore (lv' := [(4, .int (-1 : Int32)), (0, .ref v0), (1, .ref v1), (2, .int v2), (3, .int v3), (5, .int v5), (6, .int v6)]) hx hb dX2_run_108 hl (by decide) rfl (fun ls hl => ?_)
      obtain ⟨x19, e20, hf⟩ := mb0 hf
      refine lv_iinc (v := x19) (lv' := [(5, .int x19), (4, .int (-1 : Int32)), (0, .ref v0), (1, .ref v1), (2, .int v2), (3, .int v3), (6, .int v6)]) hx hb dX2_run_110 hl (k := 5) rfl (by rw [← Option.some.inj e20]; rfl) (by decide) rfl (fun ls hl => ?_)
      refine lv_iload hx hb dX2_run_113 (lv_at hl 0 rfl) ?_
      refine lv_istore_n (lv' := [(3, .int x19), (5, .int x19), (4, .int (-1 : Int32)), (0, .ref v0), (1, .ref v1), (2, .int v2), (6, .int v6)]) hx hb dX2_run_115 rfl hl (by decide) rfl (fun ls hl => ?_)
      exact D116_28 v0 v1 v2 x19 (-1 : Int32) x19 v6 τ o hf Kb Ke0 _ _ hJ ls (lv_sub hl [3, 4, 5, 0, 2, 1, 6] rfl)
    · rw [if_neg c18] at hf
      obtain ⟨x23, e24, hf⟩ := mb0 hf
      refine lv_iinc (v := x23) (lv' := [(4, .int x23), (0, .ref v0), (1, .ref v1), (2, .int v2), (3, .int v3), (5, .int v5), (6, .int v6)]) hx hb dX2_run_98 hl (k := 0) rfl (by rw [← Option.some.inj e24]; rfl) (by decide) rfl (fun ls hl => ?_)
      refine lv_iload_n hx hb dX2_run_101 rfl (lv_at hl 4 rfl) ?_
      refine lv_istore (lv' := [(5, .int v3), (4, .int x23), (0, .ref v0), (1, .ref v1), (2, .int v2), (3, .int v3), (6, .int v6)]) hx hb dX2_run_102 hl (by decide) rfl (fun ls hl => ?_)
      refine lv_goto (tgt := 116) hx hb dX2_run_104 (by decide) ?_
      exact D116_28 v0 v1 v2 v3 x23 v3 v6 τ o hf Kb Ke0 _ _ hJ ls (lv_sub hl [2, 3, 4, 5, 1, 0, 6] rfl)
  have B28 : ∀ (v0 : Nat) (v1 : Nat) (v2 : Int32) (v3 : Int32) (v4 : Int32) (v5 : Int32) (v6 : Int32) (τ : mx_S) (o : (Int32 × Int32 × Int32 × Int32 × Int32 × mx_S) ⊕ ((Int32 × mx_S))), f_X2_run_B28 P v0 v1 v2 v3 v4 v5 v6 τ = some o → (∀ (y2 : Int32) (y3 : Int32) (y4 : Int32) (y5 : Int32) (y6 : Int32) (υ : mx_S), o = .inl (y2, y3, y4, y5, y6, υ) → ∀ (H : Heap) (locs : List Loc), mx_J G P s.heap (mxz σ) (mxu σ) υ H locs → ∀ ls : Array Slot, lv_has ls 7 [(0, .ref v0), (1, .ref v1), (2, .int y2), (3, .int y3), (4, .int y4), (5, .int y5), (6, .int y6)] → W p l e (mx_rm P 6 159 σ) s m ([.ref a0, .ref a1] : List Value).toArray below meth c H locs (mxz υ - mxz σ) (mxu υ - mxu σ) (mx_Z below G P (some (.int r)) σ σ' [.ref a0, .ref a1] s) (F0 m 28 ls [])) → (∀ (y2 : Int32) (υ : mx_S), o = .inr (y2, υ) → ∀ (H : Heap) (locs : List Loc), mx_J G P s.heap (mxz σ) (mxu σ) υ H locs → ∀ ls : Array Slot, lv_has ls 7 [(2, .int y2)] → W p l e (mx_rm P 6 159 σ) s m ([.ref a0, .ref a1] : List Value).toArray below meth c H locs (mxz υ - mxz σ) (mxu υ - mxu σ) (mx_Z below G P (some (.int r)) σ σ' [.ref a0, .ref a1] s) (F0 m 122 ls [])) → ∀ (H : Heap) (locs : List Loc), mx_J G P s.heap (mxz σ) (mxu σ) τ H locs → ∀ ls : Array Slot, lv_has ls 7 [(0, .ref v0), (1, .ref v1), (2, .int v2), (3, .int v3), (4, .int v4), (5, .int v5), (6, .int v6)] → W p l e (mx_rm P 6 159 σ) s m ([.ref a0, .ref a1] : List Value).toArray below meth c H locs (mxz τ - mxz σ) (mxu τ - mxu σ) (mx_Z below G P (some (.int r)) σ σ' [.ref a0, .ref a1] s) (F0 m 28 ls []) := by
    intro v0 v1 v2 v3 v4 v5 v6 τ o hf Kb Ke0 H locs hJ ls hl
    unfold f_X2_run_B28 at hf
    refine lv_iload hx hb dX2_run_28 (lv_at hl 6 rfl) ?_
    refine lv_sipush (v := 1000) hx hb dX2_run_30 (by decide) ?_
    refine lv_icmp_ge (tgt := 122) hx hb dX2_run_33 (by decide) (fun c7 => ?_) (fun c7 => ?_)
    · rw [if_pos c7] at hf
      exact Ke0 v2 τ (Option.some.inj hf).symm _ _ hJ ls (lv_sub hl [2] rfl)
    · rw [if_neg c7] at hf
      refine lv_iload hx hb dX2_run_36 (lv_at hl 5 rfl) ?_
      refine lv_aload_n hx hb dX2_run_38 rfl (lv_at hl 0 rfl) ?_
      obtain ⟨x8, e9, hf⟩ := mb0 hf
      refine my_gI hx hb hts hown hK hJ fd_RX2_43 hv_2_3 e9 dX2_run_39 ?_
      refine lv_icmp_ge (tgt := 122) hx hb dX2_run_42 (by decide) (fun c10 => ?_) (fun c10 => ?_)
      · rw [if_pos c10] at hf
        exact Ke0 v2 τ (Option.some.inj hf).symm _ _ hJ ls (lv_sub hl [2] rfl)
      · rw [if_neg c10] at hf
        refine lv_iload_n hx hb dX2_run_45 rfl (lv_at hl 2 rfl) ?_
        refine lv_if_ne (tgt := 122) hx hb dX2_run_46 (by decide) (fun c11 => ?_) (fun c11 => ?_)
        · rw [if_neg c11] at hf
          exact Ke0 v2 τ (Option.some.inj hf).symm _ _ hJ ls (lv_sub hl [2] rfl)
        · rw [if_pos c11] at hf
          refine lv_aload_n hx hb dX2_run_49 rfl (lv_at hl 0 rfl) ?_
          obtain ⟨b12, e13, hf⟩ := mb0 hf
          refine my_gR hx hb hts hown hK hJ fd_RX2_13 hv_2_5 e13 dX2_run_50 ?_
          refine lv_iload hx hb dX2_run_53 (lv_at hl 5 rfl) ?_
          obtain ⟨x14, e15, hf⟩ := mb0 hf
          refine mx_aI hx hb hK hJ e15 dX2_run_55 ?_
          refine lv_iconst (v := 2) hx hb dX2_run_56 (by decide) ?_
          refine lv_icmp_eq (tgt := 74) hx hb dX2_run_57 (by decide) (fun c16 => ?_) (fun c16 => ?_)
          · rw [if_pos c16] at hf
            refine lv_iload hx hb dX2_run_74 (lv_at hl 4 rfl) ?_
            refine lv_if_ge (tgt := 89) hx hb dX2_run_76 (by decide) (fun c17 => ?_) (fun c17 => ?_)
            · rw [if_pos c17] at hf
              refine lv_iload hx hb dX2_run_89 (lv_at hl 4 rfl) ?_
              exact D91_28 v0 v1 v2 v3 v5 v6 v4 τ o hf Kb Ke0 _ _ hJ ls (lv_sub hl [0, 1, 2, 3, 5, 6] rfl)
            · rw [if_neg c17] at hf
              refine lv_aload_n hx hb dX2_run_79 rfl (lv_at hl 0 rfl) ?_
              obtain ⟨b25, e26, hf⟩ := mb0 hf
              refine my_gR hx hb hts hown hK hJ fd_RX2_19 hv_2_7 e26 dX2_run_80 ?_
              refine lv_iload hx hb dX2_run_83 (lv_at hl 5 rfl) ?_
              obtain ⟨x27, e28, hf⟩ := mb0 hf
              refine mx_aI hx hb hK hJ e28 dX2_run_85 ?_
              refine lv_goto (tgt := 91) hx hb dX2_run_86 (by decide) ?_
              exact D91_28 v0 v1 v2 v3 v5 v6 x27 τ o hf Kb Ke0 _ _ hJ ls (lv_sub hl [0, 1, 2, 3, 5, 6] rfl)
          · rw [if_neg c16] at hf
            refine lv_aload_n hx hb dX2_run_60 rfl (lv_at hl 0 rfl) ?_
            refine lv_aload_n hx hb dX2_run_61 rfl (lv_at hl 1 rfl) ?_
            refine lv_iload hx hb dX2_run_62 (lv_at hl 5 rfl) ?_
            obtain ⟨i29, e30, hf⟩ := mb0 hf
            obtain ⟨x32, σ31, e33, hf⟩ := mc0 hf
            refine mx_callV (As := [.ref v1, .int v5]) (rest := []) hx hb hml hts hown hK hJ rfl rfl (ci := 2) rfl e30 (c_X2_move l G P v0 v1 v5 τ x32 σ31 e33) me_X2_move kw_1832 ks_76 kw_1830 (Nat.le_of_ble_eq_true rfl) (Nat.le_of_ble_eq_true rfl) rfl hl.1 rfl (Nat.le_of_ble_eq_true rfl) dX2_run_64 (fun H locs hJ => ?_)
            refine lv_istore_n (lv' := [(2, .int x32), (0, .ref v0), (1, .ref v1), (3, .int v3), (4, .int v4), (5, .int v5), (6, .int v6)]) hx hb dX2_run_67 rfl hl (by decide) rfl (fun ls hl => ?_)
            obtain ⟨x34, e35, hf⟩ := mb0 hf
            refine lv_iinc (v := x34) (lv' := [(5, .int x34), (2, .int x32), (0, .ref v0), (1, .ref v1), (3, .int v3), (4, .int v4), (6, .int v6)]) hx hb dX2_run_68 hl (k := 5) rfl (by rw [← Option.some.inj e35]; rfl) (by decide) rfl (fun ls hl => ?_)
            refine lv_goto (tgt := 116) hx hb dX2_run_71 (by decide) ?_
            exact D116_28 v0 v1 x32 v3 v4 x34 v6 σ31 o hf Kb Ke0 _ _ hJ ls (lv_sub hl [2, 3, 1, 4, 5, 0, 6] rfl)
  have L28 : ∀ (v0 : Nat) (v1 : Nat) (n : Nat) (v2 : Int32) (v3 : Int32) (v4 : Int32) (v5 : Int32) (v6 : Int32) (τ : mx_S) (o : (Int32 × mx_S)), mx_lp (f_X2_run_L28 P v0 v1) n (v2, v3, v4, v5, v6, τ) = some o → (∀ (y2 : Int32) (υ : mx_S), o = (y2, υ) → ∀ (H : Heap) (locs : List Loc), mx_J G P s.heap (mxz σ) (mxu σ) υ H locs → ∀ ls : Array Slot, lv_has ls 7 [(2, .int y2)] → W p l e (mx_rm P 6 159 σ) s m ([.ref a0, .ref a1] : List Value).toArray below meth c H locs (mxz υ - mxz σ) (mxu υ - mxu σ) (mx_Z below G P (some (.int r)) σ σ' [.ref a0, .ref a1] s) (F0 m 122 ls [])) → ∀ (H : Heap) (locs : List Loc), mx_J G P s.heap (mxz σ) (mxu σ) τ H locs → ∀ ls : Array Slot, lv_has ls 7 [(0, .ref v0), (1, .ref v1), (2, .int v2), (3, .int v3), (4, .int v4), (5, .int v5), (6, .int v6)] → W p l e (mx_rm P 6 159 σ) s m ([.ref a0, .ref a1] : List Value).toArray below meth c H locs (mxz τ - mxz σ) (mxu τ - mxu σ) (mx_Z below G P (some (.int r)) σ σ' [.ref a0, .ref a1] s) (F0 m 28 ls []) := by
    intro v0 v1 n
    induction n with
    | zero =>
      intro v2 v3 v4 v5 v6 τ o hf
      rw [mx_lp0] at hf
      cases hf
    | succ n ih =>
      intro v2 v3 v4 v5 v6 τ o hf Ke0 H locs hJ ls hl
      rw [mx_lpS] at hf
      obtain ⟨b, eb, hf⟩ := mb0 hf
      refine B28 v0 v1 v2 v3 v4 v5 v6 τ b eb (fun y2 y3 y4 y5 y6 υ ho H locs hJ ls hl => ?_) (fun y2 υ ho H locs hJ ls hl => ?_) H locs hJ ls hl
      · subst ho
        exact ih y2 y3 y4 y5 y6 υ o hf Ke0 H locs hJ ls hl
      · subst ho
        exact Ke0 y2 υ (Option.some.inj hf).symm _ _ hJ ls hl
  have D122 : ∀ (v2 : Int32) (τ : mx_S), f_X2_run_D122 P v2 τ = some (r, σ') → ∀ (H : Heap) (locs : List Loc), mx_J G P s.heap (mxz σ) (mxu σ) τ H locs → ∀ ls : Array Slot, lv_has ls 7 [(2, .int v2)] → W p l e (mx_rm P 6 159 σ) s m ([.ref a0, .ref a1] : List Value).toArray below meth c H locs (mxz τ - mxz σ) (mxu τ - mxu σ) (mx_Z below G P (some (.int r)) σ σ' [.ref a0, .ref a1] s) (F0 m 122 ls []) := by
    intro v2 τ hf _ _ hJ ls hl
    unfold f_X2_run_D122 at hf
    refine lv_iload_n hx hb dX2_run_122 rfl (lv_at hl 0 rfl) ?_
    exact my_iret hx hb hr hlocks hJ hf dX2_run_123
  unfold f_X2_run at hf
  refine lv_aload_n hx hb dX2_run_0 rfl (lv_at hl 0 rfl) ?_
  refine lv_iconst (v := 0) hx hb dX2_run_1 (by decide) ?_
  obtain ⟨σ1, e2, hf⟩ := mb0 hf
  refine my_pI hx hb hts hown hK hJ fd_RX2_118 cd_2 (Or.inl rfl) ht_2_0 e2 dX2_run_2 (fun H locs hJ => ?_)
  refine lv_aload_n hx hb dX2_run_5 rfl (lv_at hl 0 rfl) ?_
  refine lv_iconst (v := 0) hx hb dX2_run_6 (by decide) ?_
  obtain ⟨σ3, e4, hf⟩ := mb0 hf
  refine my_pI hx hb hts hown hK hJ fd_RX2_33 cd_2 (Or.inl rfl) ht_2_1 e4 dX2_run_7 (fun H locs hJ => ?_)
  refine lv_aload_n hx hb dX2_run_10 rfl (lv_at hl 0 rfl) ?_
  refine lv_iconst (v := 0) hx hb dX2_run_11 (by decide) ?_
  obtain ⟨σ5, e6, hf⟩ := mb0 hf
  refine my_pI hx hb hts hown hK hJ fd_RX2_121 cd_2 (Or.inl rfl) ht_2_4 e6 dX2_run_12 (fun H locs hJ => ?_)
  refine lv_iconst (v := 0) hx hb dX2_run_15 (by decide) ?_
  refine lv_istore_n (lv' := [(2, .int (0 : Int32)), (0, .ref a0), (1, .ref a1)]) hx hb dX2_run_16 rfl hl (by decide) rfl (fun ls hl => ?_)
  refine lv_iconst (v := 0) hx hb dX2_run_17 (by decide) ?_
  refine lv_istore_n (lv' := [(3, .int (0 : Int32)), (2, .int (0 : Int32)), (0, .ref a0), (1, .ref a1)]) hx hb dX2_run_18 rfl hl (by decide) rfl (fun ls hl => ?_)
  refine lv_iconst (v := (-1)) hx hb dX2_run_19 (by decide) ?_
  refine lv_istore (lv' := [(4, .int (-1 : Int32)), (3, .int (0 : Int32)), (2, .int (0 : Int32)), (0, .ref a0), (1, .ref a1)]) hx hb dX2_run_20 hl (by decide) rfl (fun ls hl => ?_)
  refine lv_iconst (v := 0) hx hb dX2_run_22 (by decide) ?_
  refine lv_istore (lv' := [(5, .int (0 : Int32)), (4, .int (-1 : Int32)), (3, .int (0 : Int32)), (2, .int (0 : Int32)), (0, .ref a0), (1, .ref a1)]) hx hb dX2_run_23 hl (by decide) rfl (fun ls hl => ?_)
  refine lv_iconst (v := 0) hx hb dX2_run_25 (by decide) ?_
  refine lv_istore (lv' := [(6, .int (0 : Int32)), (5, .int (0 : Int32)), (4, .int (-1 : Int32)), (3, .int (0 : Int32)), (2, .int (0 : Int32)), (0, .ref a0), (1, .ref a1)]) hx hb dX2_run_26 hl (by decide) rfl (fun ls hl => ?_)
  obtain ⟨o36, e37, hf⟩ := mb0 hf
  refine L28 a0 a1 (mpN P) (0 : Int32) (0 : Int32) (-1 : Int32) (0 : Int32) (0 : Int32) σ5 o36 e37 (fun y38 σ39 ho H locs hJ ls hl => ?_) _ _ hJ ls (lv_sub hl [5, 6, 4, 3, 2, 1, 0] rfl)
  · rw [ho] at hf
    have hf : (f_X2_run_D122 P y38 σ39) = some (r, σ') := hf
    exact D122 y38 σ39 hf _ _ hJ ls (lv_sub hl [0] rfl)
set_option maxHeartbeats 4000000 in
set_option maxRecDepth 100000 in
theorem c_X3_number (l : Launch) (G : mx_G) (P : mx_P) (a0 : Nat) (p1 : Int32) (σ : mx_S) (r : Int64) (σ' : mx_S) (hf : f_X3_number P a0 p1 σ = some (r, σ')) : mxz σ ≤ mpc P → mxu σ ≤ mps P → mx_M l yX3_number cX3_number 2 (some .long) 0 0 G P [.ref a0, .int p1] σ (some (.long r)) σ' := by
  intro hcap hcau
  refine mx_ofW (by decide +kernel) hcap hcau (Nat.le_of_ble_eq_true rfl) ?_
  intro p e s m below meth c hx hb hr hml hts hown hlocks hname hK hJ ls hl
  have hz0 := hJ.2.1
  have hown : s.vm.findClass RX3 = some m.cls := hown
  have hl : lv_has ls 2 [(0, .ref a0), (1, .int p1)] := hl
  have D15 : ∀ (w0 : Int64) (τ : mx_S), f_X3_number_D15 P w0 τ = some (r, σ') → ∀ (H : Heap) (locs : List Loc), mx_J G P s.heap (mxz σ) (mxu σ) τ H locs → ∀ ls : Array Slot, lv_has ls 2 [] → W p l e (mx_rm P 0 0 σ) s m ([.ref a0, .int p1] : List Value).toArray below meth c H locs (mxz τ - mxz σ) (mxu τ - mxu σ) (mx_Z below G P (some (.long r)) σ σ' [.ref a0, .int p1] s) (F0 m 15 ls [.long w0]) := by
    intro w0 τ hf _ _ hJ ls hl
    unfold f_X3_number_D15 at hf
    exact my_lret hx hb hr hlocks hJ hf dX3_number_15
  unfold f_X3_number at hf
  refine lv_iload_n hx hb dX3_number_0 rfl (lv_at hl 1 rfl) ?_
  refine lv_if_ne (tgt := 11) hx hb dX3_number_1 (by decide) (fun c1 => ?_) (fun c1 => ?_)
  · rw [if_neg c1] at hf
    refine lv_aload_n hx hb dX3_number_11 rfl (lv_at hl 0 rfl) ?_
    obtain ⟨x2, e3, hf⟩ := mb0 hf
    refine my_gL hx hb hts hown hK hJ fd_RX3_13 hv_3_1 e3 dX3_number_12 ?_
    exact D15 x2 σ hf _ _ hJ ls (lv_sub hl [] rfl)
  · rw [if_pos c1] at hf
    refine lv_aload_n hx hb dX3_number_4 rfl (lv_at hl 0 rfl) ?_
    obtain ⟨x4, e5, hf⟩ := mb0 hf
    refine my_gL hx hb hts hown hK hJ fd_RX3_7 hv_3_0 e5 dX3_number_5 ?_
    refine lv_goto (tgt := 15) hx hb dX3_number_8 (by decide) ?_
    exact D15 x4 σ hf _ _ hJ ls (lv_sub hl [] rfl)
set_option maxHeartbeats 4000000 in
set_option maxRecDepth 100000 in
theorem c_X4_init (l : Launch) (G : mx_G) (P : mx_P) (a0 : Nat) (σ : mx_S) (σ' : mx_S) (hf : f_X4_init P a0 σ = some σ') : mxz σ ≤ mpc P → mxu σ ≤ mps P → mx_M l yX4_init cX4_init 1 none 2 32 G P [.ref a0] σ none σ' := by
  intro hcap hcau
  refine mx_ofW (by decide +kernel) hcap hcau (Nat.le_of_ble_eq_true rfl) ?_
  intro p e s m below meth c hx hb hr hml hts hown hlocks hname hK hJ ls hl
  have hz0 := hJ.2.1
  have hown : s.vm.findClass RX4 = some m.cls := hown
  have hl : lv_has ls 1 [(0, .ref a0)] := hl
  unfold f_X4_init at hf
  refine lv_aload_n hx hb dX4_init_0 rfl (lv_at hl 0 rfl) ?_
  refine W.objInit hx hb hown (hts _ kw_144) (hts _ kw_35) (hts _ kw_36) rfl (by rw [hml]; exact hl.1) rfl dX4_init_1 (Nat.le_of_ble_eq_true rfl) (Nat.le_of_ble_eq_true rfl) ?_
  refine W.eq (g2 := F0 m 4 ls []) rfl ?_
  refine lv_aload_n hx hb dX4_init_4 rfl (lv_at hl 0 rfl) ?_
  refine lv_bipush (v := 24) hx hb dX4_init_5 (by decide) ?_
  obtain ⟨b1, σ2, e3, hf⟩ := mc0 hf
  refine mx_nA hx hb hts hK hJ rfl rfl (t := 0) (by decide) rfl (fun _ h => h) (by decide) rfl e3 kw_137 dX4_init_7 (fun H locs hJ => ?_)
  obtain ⟨σ4, e5, hf⟩ := mb0 hf
  refine my_pR hx hb hts hown hK hJ fd_RX4_9 cd_4 (Or.inr ⟨rfl, hname, rfl⟩) ft_4_3 e5 dX4_init_9 (fun H locs hJ => ?_)
  refine lv_aload_n hx hb dX4_init_12 rfl (lv_at hl 0 rfl) ?_
  refine lv_bipush (v := 24) hx hb dX4_init_13 (by decide) ?_
  obtain ⟨b6, σ7, e8, hf⟩ := mc0 hf
  refine mx_nA hx hb hts hK hJ rfl rfl (t := 0) (by decide) rfl (fun _ h => h) (by decide) rfl e8 kw_137 dX4_init_15 (fun H locs hJ => ?_)
  obtain ⟨σ9, e10, hf⟩ := mb0 hf
  refine my_pR hx hb hts hown hK hJ fd_RX4_13 cd_4 (Or.inr ⟨rfl, hname, rfl⟩) ft_4_4 e10 dX4_init_17 (fun H locs hJ => ?_)
  refine lv_aload_n hx hb dX4_init_20 rfl (lv_at hl 0 rfl) ?_
  refine lv_bipush (v := 80) hx hb dX4_init_21 (by decide) ?_
  obtain ⟨b11, σ12, e13, hf⟩ := mc0 hf
  refine mx_nA hx hb hts hK hJ rfl rfl (t := 0) (by decide) rfl (fun _ h => h) (by decide) rfl e13 kw_137 dX4_init_23 (fun H locs hJ => ?_)
  obtain ⟨σ14, e15, hf⟩ := mb0 hf
  refine my_pR hx hb hts hown hK hJ fd_RX4_16 cd_4 (Or.inr ⟨rfl, hname, rfl⟩) ft_4_5 e15 dX4_init_25 (fun H locs hJ => ?_)
  refine lv_aload_n hx hb dX4_init_28 rfl (lv_at hl 0 rfl) ?_
  refine lv_bipush (v := 12) hx hb dX4_init_29 (by decide) ?_
  obtain ⟨b16, σ17, e18, hf⟩ := mc0 hf
  refine mx_nA hx hb hts hK hJ rfl rfl (t := 0) (by decide) rfl (fun _ h => h) (by decide) rfl e18 kw_137 dX4_init_31 (fun H locs hJ => ?_)
  obtain ⟨σ19, e20, hf⟩ := mb0 hf
  refine my_pR hx hb hts hown hK hJ fd_RX4_19 cd_4 (Or.inr ⟨rfl, hname, rfl⟩) ft_4_6 e20 dX4_init_33 (fun H locs hJ => ?_)
  refine lv_aload_n hx hb dX4_init_36 rfl (lv_at hl 0 rfl) ?_
  refine lv_bipush (v := 12) hx hb dX4_init_37 (by decide) ?_
  obtain ⟨b21, σ22, e23, hf⟩ := mc0 hf
  refine mx_nA hx hb hts hK hJ rfl rfl (t := 0) (by decide) rfl (fun _ h => h) (by decide) rfl e23 kw_137 dX4_init_39 (fun H locs hJ => ?_)
  obtain ⟨σ24, e25, hf⟩ := mb0 hf
  refine my_pR hx hb hts hown hK hJ fd_RX4_22 cd_4 (Or.inr ⟨rfl, hname, rfl⟩) ft_4_7 e25 dX4_init_41 (fun H locs hJ => ?_)
  refine lv_aload_n hx hb dX4_init_44 rfl (lv_at hl 0 rfl) ?_
  refine lv_bipush (v := 12) hx hb dX4_init_45 (by decide) ?_
  obtain ⟨b26, σ27, e28, hf⟩ := mc0 hf
  refine mx_nA hx hb hts hK hJ rfl rfl (t := 0) (by decide) rfl (fun _ h => h) (by decide) rfl e28 kw_137 dX4_init_47 (fun H locs hJ => ?_)
  obtain ⟨σ29, e30, hf⟩ := mb0 hf
  refine my_pR hx hb hts hown hK hJ fd_RX4_25 cd_4 (Or.inr ⟨rfl, hname, rfl⟩) ft_4_8 e30 dX4_init_49 (fun H locs hJ => ?_)
  refine lv_aload_n hx hb dX4_init_52 rfl (lv_at hl 0 rfl) ?_
  refine lv_sipush (v := 1200) hx hb dX4_init_53 (by decide) ?_
  obtain ⟨b31, σ32, e33, hf⟩ := mc0 hf
  refine mx_nA hx hb hts hK hJ rfl rfl (t := 0) (by decide) rfl (fun _ h => h) (by decide) rfl e33 kw_137 dX4_init_56 (fun H locs hJ => ?_)
  obtain ⟨σ34, e35, hf⟩ := mb0 hf
  refine my_pR hx hb hts hown hK hJ fd_RX4_28 cd_4 (Or.inr ⟨rfl, hname, rfl⟩) ft_4_9 e35 dX4_init_58 (fun H locs hJ => ?_)
  refine lv_aload_n hx hb dX4_init_61 rfl (lv_at hl 0 rfl) ?_
  refine lv_bipush (v := 32) hx hb dX4_init_62 (by decide) ?_
  refine lv_bipush (v := 13) hx hb dX4_init_64 (by decide) ?_
  obtain ⟨b36, σ37, e38, hf⟩ := mc0 hf
  refine mx_nM hx hb hts hown hK hJ rfl rfl e38 kw_145 kw_138 dX4_init_66 (fun H locs hJ => ?_)
  obtain ⟨σ39, e40, hf⟩ := mb0 hf
  refine my_pR hx hb hts hown hK hJ fd_RX4_33 cd_4 (Or.inr ⟨rfl, hname, rfl⟩) ft_4_10 e40 dX4_init_70 (fun H locs hJ => ?_)
  refine lv_aload_n hx hb dX4_init_73 rfl (lv_at hl 0 rfl) ?_
  refine lv_bipush (v := 32) hx hb dX4_init_74 (by decide) ?_
  refine lv_bipush (v := 13) hx hb dX4_init_76 (by decide) ?_
  obtain ⟨b41, σ42, e43, hf⟩ := mc0 hf
  refine mx_nM hx hb hts hown hK hJ rfl rfl e43 kw_145 kw_138 dX4_init_78 (fun H locs hJ => ?_)
  obtain ⟨σ44, e45, hf⟩ := mb0 hf
  refine my_pR hx hb hts hown hK hJ fd_RX4_36 cd_4 (Or.inr ⟨rfl, hname, rfl⟩) ft_4_11 e45 dX4_init_82 (fun H locs hJ => ?_)
  refine lv_aload_n hx hb dX4_init_85 rfl (lv_at hl 0 rfl) ?_
  refine lv_bipush (v := 12) hx hb dX4_init_86 (by decide) ?_
  obtain ⟨b46, σ47, e48, hf⟩ := mc0 hf
  refine mx_nA hx hb hts hK hJ rfl rfl (t := 0) (by decide) rfl (fun _ h => h) (by decide) rfl e48 kw_137 dX4_init_88 (fun H locs hJ => ?_)
  obtain ⟨σ49, e50, hf⟩ := mb0 hf
  refine my_pR hx hb hts hown hK hJ fd_RX4_39 cd_4 (Or.inr ⟨rfl, hname, rfl⟩) ft_4_12 e50 dX4_init_90 (fun H locs hJ => ?_)
  refine lv_aload_n hx hb dX4_init_93 rfl (lv_at hl 0 rfl) ?_
  obtain ⟨b51, σ52, e53, hf⟩ := mc0 hf
  refine mx_nO hx hb hts wi_3 cd_3.1 hown hK hJ rfl rfl (ci := 3) rfl e53 kw_147 kw_148 kw_4 df_3 dX4_init_94 (fun H locs hJ => ?_)
  refine lv_dup hx hb dX4_init_97 rfl ?_
  obtain ⟨σ54, e55, hf⟩ := mb0 hf
  refine mx_callI (As := []) (rest := [.ref b51, .ref a0]) hx hb hml hts hown hK hJ rfl rfl (c_X3_init l G P b51 σ52 σ54 e55) me_X3_init kw_150 rfl kw_149 (Nat.le_of_ble_eq_true rfl) (Nat.le_of_ble_eq_true rfl) rfl hl.1 rfl (Nat.le_of_ble_eq_true rfl) dX4_init_98 (fun H locs hJ => ?_)
  obtain ⟨σ56, e57, hf⟩ := mb0 hf
  refine my_pR hx hb hts hown hK hJ fd_RX4_45 cd_4 (Or.inr ⟨rfl, hname, rfl⟩) ft_4_15 e57 dX4_init_101 (fun H locs hJ => ?_)
  refine lv_aload_n hx hb dX4_init_104 rfl (lv_at hl 0 rfl) ?_
  obtain ⟨b58, σ59, e60, hf⟩ := mc0 hf
  refine mx_nO hx hb hts wi_3 cd_3.1 hown hK hJ rfl rfl (ci := 3) rfl e60 kw_147 kw_148 kw_4 df_3 dX4_init_105 (fun H locs hJ => ?_)
  refine lv_dup hx hb dX4_init_108 rfl ?_
  obtain ⟨σ61, e62, hf⟩ := mb0 hf
  refine mx_callI (As := []) (rest := [.ref b58, .ref a0]) hx hb hml hts hown hK hJ rfl rfl (c_X3_init l G P b58 σ59 σ61 e62) me_X3_init kw_150 rfl kw_149 (Nat.le_of_ble_eq_true rfl) (Nat.le_of_ble_eq_true rfl) rfl hl.1 rfl (Nat.le_of_ble_eq_true rfl) dX4_init_109 (fun H locs hJ => ?_)
  obtain ⟨σ63, e64, hf⟩ := mb0 hf
  refine my_pR hx hb hts hown hK hJ fd_RX4_49 cd_4 (Or.inr ⟨rfl, hname, rfl⟩) ft_4_16 e64 dX4_init_112 (fun H locs hJ => ?_)
  refine lv_aload_n hx hb dX4_init_115 rfl (lv_at hl 0 rfl) ?_
  obtain ⟨b65, σ66, e67, hf⟩ := mc0 hf
  refine mx_nO hx hb hts wi_3 cd_3.1 hown hK hJ rfl rfl (ci := 3) rfl e67 kw_147 kw_148 kw_4 df_3 dX4_init_116 (fun H locs hJ => ?_)
  refine lv_dup hx hb dX4_init_119 rfl ?_
  obtain ⟨σ68, e69, hf⟩ := mb0 hf
  refine mx_callI (As := []) (rest := [.ref b65, .ref a0]) hx hb hml hts hown hK hJ rfl rfl (c_X3_init l G P b65 σ66 σ68 e69) me_X3_init kw_150 rfl kw_149 (Nat.le_of_ble_eq_true rfl) (Nat.le_of_ble_eq_true rfl) rfl hl.1 rfl (Nat.le_of_ble_eq_true rfl) dX4_init_120 (fun H locs hJ => ?_)
  obtain ⟨σ70, e71, hf⟩ := mb0 hf
  refine my_pR hx hb hts hown hK hJ fd_RX4_52 cd_4 (Or.inr ⟨rfl, hname, rfl⟩) ft_4_17 e71 dX4_init_123 (fun H locs hJ => ?_)
  exact my_vret hx hb hr hlocks hJ hf dX4_init_126
set_option maxHeartbeats 4000000 in
set_option maxRecDepth 100000 in
theorem c_X4_addGear (l : Launch) (G : mx_G) (P : mx_P) (a0 : Nat) (p1 : Int32) (p2 : Int32) (σ : mx_S) (r : Int32) (σ' : mx_S) (hf : f_X4_addGear P a0 p1 p2 σ = some (r, σ')) : mxz σ ≤ mpc P → mxu σ ≤ mps P → mx_M l yX4_addGear cX4_addGear 3 (some .int) 0 0 G P [.ref a0, .int p1, .int p2] σ (some (.int r)) σ' := by
  intro hcap hcau
  refine mx_ofW (by decide +kernel) hcap hcau (Nat.le_of_ble_eq_true rfl) ?_
  intro p e s m below meth c hx hb hr hml hts hown hlocks hname hK hJ ls hl
  have hz0 := hJ.2.1
  have hown : s.vm.findClass RX4 = some m.cls := hown
  have hl : lv_has ls 3 [(0, .ref a0), (1, .int p1), (2, .int p2)] := hl
  unfold f_X4_addGear at hf
  refine lv_aload_n hx hb dX4_addGear_0 rfl (lv_at hl 0 rfl) ?_
  obtain ⟨x1, e2, hf⟩ := mb0 hf
  refine my_gI hx hb hts hown hK hJ fd_RX4_55 hv_4_0 e2 dX4_addGear_1 ?_
  refine lv_bipush (v := 24) hx hb dX4_addGear_4 (by decide) ?_
  refine lv_icmp_lt (tgt := 11) hx hb dX4_addGear_6 (by decide) (fun c3 => ?_) (fun c3 => ?_)
  · rw [if_pos c3] at hf
    refine lv_aload_n hx hb dX4_addGear_11 rfl (lv_at hl 0 rfl) ?_
    obtain ⟨b4, e5, hf⟩ := mb0 hf
    refine my_gR hx hb hts hown hK hJ fd_RX4_9 hv_4_3 e5 dX4_addGear_12 ?_
    refine lv_aload_n hx hb dX4_addGear_15 rfl (lv_at hl 0 rfl) ?_
    obtain ⟨x6, e7, hf⟩ := mb0 hf
    refine my_gI hx hb hts hown hK hJ fd_RX4_55 hv_4_0 e7 dX4_addGear_16 ?_
    refine lv_iload_n hx hb dX4_addGear_19 rfl (lv_at hl 1 rfl) ?_
    obtain ⟨σ8, e9, hf⟩ := mb0 hf
    refine mx_sI hx hb hK hJ e9 dX4_addGear_20 (fun H locs hJ => ?_)
    refine lv_aload_n hx hb dX4_addGear_21 rfl (lv_at hl 0 rfl) ?_
    obtain ⟨b10, e11, hf⟩ := mb0 hf
    refine my_gR hx hb hts hown hK hJ fd_RX4_13 hv_4_4 e11 dX4_addGear_22 ?_
    refine lv_aload_n hx hb dX4_addGear_25 rfl (lv_at hl 0 rfl) ?_
    obtain ⟨x12, e13, hf⟩ := mb0 hf
    refine my_gI hx hb hts hown hK hJ fd_RX4_55 hv_4_0 e13 dX4_addGear_26 ?_
    refine lv_iload_n hx hb dX4_addGear_29 rfl (lv_at hl 2 rfl) ?_
    obtain ⟨σ14, e15, hf⟩ := mb0 hf
    refine mx_sI hx hb hK hJ e15 dX4_addGear_30 (fun H locs hJ => ?_)
    refine lv_aload_n hx hb dX4_addGear_31 rfl (lv_at hl 0 rfl) ?_
    refine lv_dup hx hb dX4_addGear_32 rfl ?_
    obtain ⟨x16, e17, hf⟩ := mb0 hf
    refine my_gI hx hb hts hown hK hJ fd_RX4_55 hv_4_0 e17 dX4_addGear_33 ?_
    refine lv_iconst (v := 1) hx hb dX4_addGear_36 (by decide) ?_
    refine lv_iadd hx hb dX4_addGear_37 ?_
    obtain ⟨σ18, e19, hf⟩ := mb0 hf
    refine my_pI hx hb hts hown hK hJ fd_RX4_55 cd_4 (Or.inl rfl) ht_4_0 e19 dX4_addGear_38 (fun H locs hJ => ?_)
    refine lv_aload_n hx hb dX4_addGear_41 rfl (lv_at hl 0 rfl) ?_
    obtain ⟨x20, e21, hf⟩ := mb0 hf
    refine my_gI hx hb hts hown hK hJ fd_RX4_55 hv_4_0 e21 dX4_addGear_42 ?_
    refine lv_iconst (v := 1) hx hb dX4_addGear_45 (by decide) ?_
    refine lv_isub hx hb dX4_addGear_46 ?_
    exact my_iret hx hb hr hlocks hJ hf dX4_addGear_47
  · rw [if_neg c3] at hf
    refine lv_iconst (v := (-1)) hx hb dX4_addGear_9 (by decide) ?_
    exact my_iret hx hb hr hlocks hJ hf dX4_addGear_10
set_option maxHeartbeats 4000000 in
set_option maxRecDepth 100000 in
theorem c_X4_addMesh (l : Launch) (G : mx_G) (P : mx_P) (a0 : Nat) (p1 : Int32) (p2 : Int32) (p3 : Int32) (p4 : Int32) (σ : mx_S) (r : Int32) (σ' : mx_S) (hf : f_X4_addMesh P a0 p1 p2 p3 p4 σ = some (r, σ')) : mxz σ ≤ mpc P → mxu σ ≤ mps P → mx_M l yX4_addMesh cX4_addMesh 6 (some .int) 0 0 G P [.ref a0, .int p1, .int p2, .int p3, .int p4] σ (some (.int r)) σ' := by
  intro hcap hcau
  refine mx_ofW (by decide +kernel) hcap hcau (Nat.le_of_ble_eq_true rfl) ?_
  intro p e s m below meth c hx hb hr hml hts hown hlocks hname hK hJ ls hl
  have hz0 := hJ.2.1
  have hown : s.vm.findClass RX4 = some m.cls := hown
  have hl : lv_has ls 6 [(0, .ref a0), (1, .int p1), (2, .int p2), (3, .int p3), (4, .int p4)] := hl
  have D54 : ∀ (v0 : Nat) (v4 : Int32) (v5 : Int32) (w0 : Int32) (w1 : Int32) (w2 : Nat) (τ : mx_S), f_X4_addMesh_D54 P v0 v4 v5 w0 w1 w2 τ = some (r, σ') → ∀ (H : Heap) (locs : List Loc), mx_J G P s.heap (mxz σ) (mxu σ) τ H locs → ∀ ls : Array Slot, lv_has ls 6 [(0, .ref v0), (4, .int v4), (5, .int v5)] → W p l e (mx_rm P 0 0 σ) s m ([.ref a0, .int p1, .int p2, .int p3, .int p4] : List Value).toArray below meth c H locs (mxz τ - mxz σ) (mxu τ - mxu σ) (mx_Z below G P (some (.int r)) σ σ' [.ref a0, .int p1, .int p2, .int p3, .int p4] s) (F0 m 54 ls [.int w0, .int w1, .ref w2]) := by
    intro v0 v4 v5 w0 w1 w2 τ hf _ _ hJ ls hl
    unfold f_X4_addMesh_D54 at hf
    obtain ⟨σ19, e20, hf⟩ := mb0 hf
    refine mx_sI hx hb hK hJ e20 dX4_addMesh_54 (fun H locs hJ => ?_)
    refine lv_aload_n hx hb dX4_addMesh_55 rfl (lv_at hl 0 rfl) ?_
    obtain ⟨b21, e22, hf⟩ := mb0 hf
    refine my_gR hx hb hts hown hK hJ fd_RX4_16 hv_4_5 e22 dX4_addMesh_56 ?_
    refine lv_iload hx hb dX4_addMesh_59 (lv_at hl 2 rfl) ?_
    refine lv_iconst (v := 3) hx hb dX4_addMesh_61 (by decide) ?_
    refine lv_iadd hx hb dX4_addMesh_62 ?_
    refine lv_iload hx hb dX4_addMesh_63 (lv_at hl 1 rfl) ?_
    obtain ⟨σ23, e24, hf⟩ := mb0 hf
    refine mx_sI hx hb hK hJ e24 dX4_addMesh_65 (fun H locs hJ => ?_)
    refine lv_aload_n hx hb dX4_addMesh_66 rfl (lv_at hl 0 rfl) ?_
    refine lv_dup hx hb dX4_addMesh_67 rfl ?_
    obtain ⟨x25, e26, hf⟩ := mb0 hf
    refine my_gI hx hb hts hown hK hJ fd_RX4_59 hv_4_1 e26 dX4_addMesh_68 ?_
    refine lv_iconst (v := 1) hx hb dX4_addMesh_71 (by decide) ?_
    refine lv_iadd hx hb dX4_addMesh_72 ?_
    obtain ⟨σ27, e28, hf⟩ := mb0 hf
    refine my_pI hx hb hts hown hK hJ fd_RX4_59 cd_4 (Or.inl rfl) ht_4_1 e28 dX4_addMesh_73 (fun H locs hJ => ?_)
    refine lv_aload_n hx hb dX4_addMesh_76 rfl (lv_at hl 0 rfl) ?_
    refine lv_iconst (v := 0) hx hb dX4_addMesh_77 (by decide) ?_
    obtain ⟨σ29, e30, hf⟩ := mb0 hf
    refine my_pI hx hb hts hown hK hJ fd_RX4_62 cd_4 (Or.inl rfl) ht_4_14 e30 dX4_addMesh_78 (fun H locs hJ => ?_)
    refine lv_aload_n hx hb dX4_addMesh_81 rfl (lv_at hl 0 rfl) ?_
    obtain ⟨x31, e32, hf⟩ := mb0 hf
    refine my_gI hx hb hts hown hK hJ fd_RX4_59 hv_4_1 e32 dX4_addMesh_82 ?_
    refine lv_iconst (v := 1) hx hb dX4_addMesh_85 (by decide) ?_
    refine lv_isub hx hb dX4_addMesh_86 ?_
    exact my_iret hx hb hr hlocks hJ hf dX4_addMesh_87
  unfold f_X4_addMesh at hf
  refine lv_aload_n hx hb dX4_addMesh_0 rfl (lv_at hl 0 rfl) ?_
  obtain ⟨x1, e2, hf⟩ := mb0 hf
  refine my_gI hx hb hts hown hK hJ fd_RX4_59 hv_4_1 e2 dX4_addMesh_1 ?_
  refine lv_bipush (v := 20) hx hb dX4_addMesh_4 (by decide) ?_
  refine lv_icmp_lt (tgt := 11) hx hb dX4_addMesh_6 (by decide) (fun c3 => ?_) (fun c3 => ?_)
  · rw [if_pos c3] at hf
    refine lv_iconst (v := 4) hx hb dX4_addMesh_11 (by decide) ?_
    refine lv_aload_n hx hb dX4_addMesh_12 rfl (lv_at hl 0 rfl) ?_
    obtain ⟨x4, e5, hf⟩ := mb0 hf
    refine my_gI hx hb hts hown hK hJ fd_RX4_59 hv_4_1 e5 dX4_addMesh_13 ?_
    refine lv_imul hx hb dX4_addMesh_16 ?_
    obtain ⟨x6, e7, hf⟩ := mb0 hf
    refine mx_nI e7 ?_
    refine lv_istore (lv' := [(5, .int x6), (0, .ref a0), (1, .int p1), (2, .int p2), (3, .int p3), (4, .int p4)]) hx hb dX4_addMesh_17 hl (by decide) rfl (fun ls hl => ?_)
    refine lv_aload_n hx hb dX4_addMesh_19 rfl (lv_at hl 1 rfl) ?_
    obtain ⟨b8, e9, hf⟩ := mb0 hf
    refine my_gR hx hb hts hown hK hJ fd_RX4_16 hv_4_5 e9 dX4_addMesh_20 ?_
    refine lv_iload hx hb dX4_addMesh_23 (lv_at hl 0 rfl) ?_
    refine lv_iload_n hx hb dX4_addMesh_25 rfl (lv_at hl 2 rfl) ?_
    obtain ⟨σ10, e11, hf⟩ := mb0 hf
    refine mx_sI hx hb hK hJ e11 dX4_addMesh_26 (fun H locs hJ => ?_)
    refine lv_aload_n hx hb dX4_addMesh_27 rfl (lv_at hl 1 rfl) ?_
    obtain ⟨b12, e13, hf⟩ := mb0 hf
    refine my_gR hx hb hts hown hK hJ fd_RX4_16 hv_4_5 e13 dX4_addMesh_28 ?_
    refine lv_iload hx hb dX4_addMesh_31 (lv_at hl 0 rfl) ?_
    refine lv_iconst (v := 1) hx hb dX4_addMesh_33 (by decide) ?_
    refine lv_iadd hx hb dX4_addMesh_34 ?_
    refine lv_iload_n hx hb dX4_addMesh_35 rfl (lv_at hl 3 rfl) ?_
    obtain ⟨σ14, e15, hf⟩ := mb0 hf
    refine mx_sI hx hb hK hJ e15 dX4_addMesh_36 (fun H locs hJ => ?_)
    refine lv_aload_n hx hb dX4_addMesh_37 rfl (lv_at hl 1 rfl) ?_
    obtain ⟨b16, e17, hf⟩ := mb0 hf
    refine my_gR hx hb hts hown hK hJ fd_RX4_16 hv_4_5 e17 dX4_addMesh_38 ?_
    refine lv_iload hx hb dX4_addMesh_41 (lv_at hl 0 rfl) ?_
    refine lv_iconst (v := 2) hx hb dX4_addMesh_43 (by decide) ?_
    refine lv_iadd hx hb dX4_addMesh_44 ?_
    refine lv_iload_n hx hb dX4_addMesh_45 rfl (lv_at hl 4 rfl) ?_
    refine lv_if_eq (tgt := 53) hx hb dX4_addMesh_46 (by decide) (fun c18 => ?_) (fun c18 => ?_)
    · rw [if_pos c18] at hf
      refine lv_iconst (v := 1) hx hb dX4_addMesh_53 (by decide) ?_
      exact D54 a0 p4 x6 (1 : Int32) (x6 + (2 : Int32)) b16 σ14 hf _ _ hJ ls (lv_sub hl [1, 5, 0] rfl)
    · rw [if_neg c18] at hf
      refine lv_iconst (v := (-1)) hx hb dX4_addMesh_49 (by decide) ?_
      refine lv_goto (tgt := 54) hx hb dX4_addMesh_50 (by decide) ?_
      exact D54 a0 p4 x6 (-1 : Int32) (x6 + (2 : Int32)) b16 σ14 hf _ _ hJ ls (lv_sub hl [1, 5, 0] rfl)
  · rw [if_neg c3] at hf
    refine lv_iconst (v := (-1)) hx hb dX4_addMesh_9 (by decide) ?_
    exact my_iret hx hb hr hlocks hJ hf dX4_addMesh_10
set_option maxHeartbeats 4000000 in
set_option maxRecDepth 100000 in
theorem c_X4_setShaft (l : Launch) (G : mx_G) (P : mx_P) (a0 : Nat) (p1 : Int32) (p2 : Int32) (p3 : Int32) (p4 : Int32) (σ : mx_S) (σ' : mx_S) (hf : f_X4_setShaft P a0 p1 p2 p3 p4 σ = some σ') : mxz σ ≤ mpc P → mxu σ ≤ mps P → mx_M l yX4_setShaft cX4_setShaft 5 none 0 0 G P [.ref a0, .int p1, .int p2, .int p3, .int p4] σ none σ' := by
  intro hcap hcau
  refine mx_ofW (by decide +kernel) hcap hcau (Nat.le_of_ble_eq_true rfl) ?_
  intro p e s m below meth c hx hb hr hml hts hown hlocks hname hK hJ ls hl
  have hz0 := hJ.2.1
  have hown : s.vm.findClass RX4 = some m.cls := hown
  have hl : lv_has ls 5 [(0, .ref a0), (1, .int p1), (2, .int p2), (3, .int p3), (4, .int p4)] := hl
  unfold f_X4_setShaft at hf
  refine lv_aload_n hx hb dX4_setShaft_0 rfl (lv_at hl 0 rfl) ?_
  obtain ⟨b1, e2, hf⟩ := mb0 hf
  refine my_gR hx hb hts hown hK hJ fd_RX4_19 hv_4_6 e2 dX4_setShaft_1 ?_
  refine lv_iload_n hx hb dX4_setShaft_4 rfl (lv_at hl 1 rfl) ?_
  refine lv_iload_n hx hb dX4_setShaft_5 rfl (lv_at hl 2 rfl) ?_
  obtain ⟨σ3, e4, hf⟩ := mb0 hf
  refine mx_sI hx hb hK hJ e4 dX4_setShaft_6 (fun H locs hJ => ?_)
  refine lv_aload_n hx hb dX4_setShaft_7 rfl (lv_at hl 0 rfl) ?_
  obtain ⟨b5, e6, hf⟩ := mb0 hf
  refine my_gR hx hb hts hown hK hJ fd_RX4_22 hv_4_7 e6 dX4_setShaft_8 ?_
  refine lv_iload_n hx hb dX4_setShaft_11 rfl (lv_at hl 1 rfl) ?_
  refine lv_iload_n hx hb dX4_setShaft_12 rfl (lv_at hl 3 rfl) ?_
  obtain ⟨σ7, e8, hf⟩ := mb0 hf
  refine mx_sI hx hb hK hJ e8 dX4_setShaft_13 (fun H locs hJ => ?_)
  refine lv_aload_n hx hb dX4_setShaft_14 rfl (lv_at hl 0 rfl) ?_
  obtain ⟨b9, e10, hf⟩ := mb0 hf
  refine my_gR hx hb hts hown hK hJ fd_RX4_25 hv_4_8 e10 dX4_setShaft_15 ?_
  refine lv_iload_n hx hb dX4_setShaft_18 rfl (lv_at hl 1 rfl) ?_
  refine lv_iload hx hb dX4_setShaft_19 (lv_at hl 4 rfl) ?_
  obtain ⟨σ11, e12, hf⟩ := mb0 hf
  refine mx_sI hx hb hK hJ e12 dX4_setShaft_21 (fun H locs hJ => ?_)
  refine lv_aload_n hx hb dX4_setShaft_22 rfl (lv_at hl 0 rfl) ?_
  refine lv_iconst (v := 0) hx hb dX4_setShaft_23 (by decide) ?_
  obtain ⟨σ13, e14, hf⟩ := mb0 hf
  refine my_pI hx hb hts hown hK hJ fd_RX4_62 cd_4 (Or.inl rfl) ht_4_14 e14 dX4_setShaft_24 (fun H locs hJ => ?_)
  exact my_vret hx hb hr hlocks hJ hf dX4_setShaft_27
set_option maxHeartbeats 4000000 in
set_option maxRecDepth 100000 in
theorem c_J7_fill_53178 (l : Launch) (G : mx_G) (P : mx_P) (a0 : Nat) (p1 : Int32) (σ : mx_S) (σ' : mx_S) (hf : f_J7_fill_53178 P a0 p1 σ = some σ') : mxz σ ≤ mpc P → mxu σ ≤ mps P → mx_M l yJ7_fill_53178 cJ7_fill_53178 4 none 0 0 G P [.ref a0, .int p1] σ none σ' := by
  intro hcap hcau
  refine mx_ofW (by decide +kernel) hcap hcau (Nat.le_of_ble_eq_true rfl) ?_
  intro p e s m below meth c hx hb hr hml hts hown hlocks hname hK hJ ls hl
  have hz0 := hJ.2.1
  have hown : s.vm.findClass RJ7 = some m.cls := hown
  have hl : lv_has ls 4 [(0, .ref a0), (1, .int p1)] := hl
  have B5 : ∀ (v0 : Nat) (v1 : Int32) (v3 : Int32) (v2 : Int32) (τ : mx_S) (o : (Int32 × mx_S) ⊕ ((mx_S))), f_J7_fill_53178_B5 P v0 v1 v3 v2 τ = some o → (∀ (y2 : Int32) (υ : mx_S), o = .inl (y2, υ) → ∀ (H : Heap) (locs : List Loc), mx_J G P s.heap (mxz σ) (mxu σ) υ H locs → ∀ ls : Array Slot, lv_has ls 4 [(0, .ref v0), (1, .int v1), (2, .int y2), (3, .int v3)] → W p l e (mx_rm P 0 0 σ) s m ([.ref a0, .int p1] : List Value).toArray below meth c H locs (mxz υ - mxz σ) (mxu υ - mxu σ) (mx_Z below G P none σ σ' [.ref a0, .int p1] s) (F0 m 5 ls [])) → (∀  (υ : mx_S), o = .inr υ → ∀ (H : Heap) (locs : List Loc), mx_J G P s.heap (mxz σ) (mxu σ) υ H locs → ∀ ls : Array Slot, lv_has ls 4 [] → W p l e (mx_rm P 0 0 σ) s m ([.ref a0, .int p1] : List Value).toArray below meth c H locs (mxz υ - mxz σ) (mxu υ - mxu σ) (mx_Z below G P none σ σ' [.ref a0, .int p1] s) (F0 m 20 ls [])) → ∀ (H : Heap) (locs : List Loc), mx_J G P s.heap (mxz σ) (mxu σ) τ H locs → ∀ ls : Array Slot, lv_has ls 4 [(0, .ref v0), (1, .int v1), (2, .int v2), (3, .int v3)] → W p l e (mx_rm P 0 0 σ) s m ([.ref a0, .int p1] : List Value).toArray below meth c H locs (mxz τ - mxz σ) (mxu τ - mxu σ) (mx_Z below G P none σ σ' [.ref a0, .int p1] s) (F0 m 5 ls []) := by
    intro v0 v1 v3 v2 τ o hf Kb Ke0 H locs hJ ls hl
    unfold f_J7_fill_53178_B5 at hf
    refine lv_iload_n hx hb dJ7_fill_53178_5 rfl (lv_at hl 2 rfl) ?_
    refine lv_iload_n hx hb dJ7_fill_53178_6 rfl (lv_at hl 3 rfl) ?_
    refine lv_icmp_ge (tgt := 20) hx hb dJ7_fill_53178_7 (by decide) (fun c3 => ?_) (fun c3 => ?_)
    · rw [if_pos c3] at hf
      exact Ke0 τ (Option.some.inj hf).symm _ _ hJ ls (lv_sub hl [] rfl)
    · rw [if_neg c3] at hf
      refine lv_aload_n hx hb dJ7_fill_53178_10 rfl (lv_at hl 0 rfl) ?_
      refine lv_iload_n hx hb dJ7_fill_53178_11 rfl (lv_at hl 2 rfl) ?_
      refine lv_iload_n hx hb dJ7_fill_53178_12 rfl (lv_at hl 1 rfl) ?_
      obtain ⟨σ4, e5, hf⟩ := mb0 hf
      refine mx_sI hx hb hK hJ e5 dJ7_fill_53178_13 (fun H locs hJ => ?_)
      obtain ⟨x6, e7, hf⟩ := mb0 hf
      refine lv_iinc (v := x6) (lv' := [(2, .int x6), (0, .ref v0), (1, .int v1), (3, .int v3)]) hx hb dJ7_fill_53178_14 hl (k := 2) rfl (by rw [← Option.some.inj e7]; rfl) (by decide) rfl (fun ls hl => ?_)
      refine lv_goto (tgt := 5) hx hb dJ7_fill_53178_17 (by decide) ?_
      exact Kb x6 σ4 (Option.some.inj hf).symm _ _ hJ ls (lv_sub hl [1, 2, 0, 3] rfl)
  have L5 : ∀ (v0 : Nat) (v1 : Int32) (v3 : Int32) (n : Nat) (v2 : Int32) (τ : mx_S) (o : (mx_S)), mx_lp (f_J7_fill_53178_L5 P v0 v1 v3) n (v2, τ) = some o → (∀  (υ : mx_S), o = υ → ∀ (H : Heap) (locs : List Loc), mx_J G P s.heap (mxz σ) (mxu σ) υ H locs → ∀ ls : Array Slot, lv_has ls 4 [] → W p l e (mx_rm P 0 0 σ) s m ([.ref a0, .int p1] : List Value).toArray below meth c H locs (mxz υ - mxz σ) (mxu υ - mxu σ) (mx_Z below G P none σ σ' [.ref a0, .int p1] s) (F0 m 20 ls [])) → ∀ (H : Heap) (locs : List Loc), mx_J G P s.heap (mxz σ) (mxu σ) τ H locs → ∀ ls : Array Slot, lv_has ls 4 [(0, .ref v0), (1, .int v1), (2, .int v2), (3, .int v3)] → W p l e (mx_rm P 0 0 σ) s m ([.ref a0, .int p1] : List Value).toArray below meth c H locs (mxz τ - mxz σ) (mxu τ - mxu σ) (mx_Z below G P none σ σ' [.ref a0, .int p1] s) (F0 m 5 ls []) := by
    intro v0 v1 v3 n
    induction n with
    | zero =>
      intro v2 τ o hf
      rw [mx_lp0] at hf
      cases hf
    | succ n ih =>
      intro v2 τ o hf Ke0 H locs hJ ls hl
      rw [mx_lpS] at hf
      obtain ⟨b, eb, hf⟩ := mb0 hf
      refine B5 v0 v1 v3 v2 τ b eb (fun y2 υ ho H locs hJ ls hl => ?_) (fun  υ ho H locs hJ ls hl => ?_) H locs hJ ls hl
      · subst ho
        exact ih y2 υ o hf Ke0 H locs hJ ls hl
      · subst ho
        exact Ke0  υ (Option.some.inj hf).symm _ _ hJ ls hl
  unfold f_J7_fill_53178 at hf
  refine lv_iconst (v := 0) hx hb dJ7_fill_53178_0 (by decide) ?_
  refine lv_istore_n (lv' := [(2, .int (0 : Int32)), (0, .ref a0), (1, .int p1)]) hx hb dJ7_fill_53178_1 rfl hl (by decide) rfl (fun ls hl => ?_)
  refine lv_aload_n hx hb dJ7_fill_53178_2 rfl (lv_at hl 1 rfl) ?_
  obtain ⟨x1, e2, hf⟩ := mb0 hf
  refine mx_alen hx hb hK hJ e2 dJ7_fill_53178_3 ?_
  refine lv_istore_n (lv' := [(3, .int x1), (2, .int (0 : Int32)), (0, .ref a0), (1, .int p1)]) hx hb dJ7_fill_53178_4 rfl hl (by decide) rfl (fun ls hl => ?_)
  obtain ⟨o8, e9, hf⟩ := mb0 hf
  refine L5 a0 p1 x1 (mpN P) (0 : Int32) σ o8 e9 (fun σ10 ho H locs hJ ls hl => ?_) _ _ hJ ls (lv_sub hl [2, 3, 1, 0] rfl)
  · rw [ho] at hf
    have hf : (some σ10) = some σ' := hf
    exact my_vret hx hb hr hlocks hJ hf dJ7_fill_53178_20
set_option maxHeartbeats 4000000 in
set_option maxRecDepth 100000 in
theorem c_X4_forget (l : Launch) (G : mx_G) (P : mx_P) (a0 : Nat) (σ : mx_S) (σ' : mx_S) (hf : f_X4_forget P a0 σ = some σ') : mxz σ ≤ mpc P → mxu σ ≤ mps P → mx_M l yX4_forget cX4_forget 1 none 1 23 G P [.ref a0] σ none σ' := by
  intro hcap hcau
  refine mx_ofW (by decide +kernel) hcap hcau (Nat.le_of_ble_eq_true rfl) ?_
  intro p e s m below meth c hx hb hr hml hts hown hlocks hname hK hJ ls hl
  have hz0 := hJ.2.1
  have hown : s.vm.findClass RX4 = some m.cls := hown
  have hl : lv_has ls 1 [(0, .ref a0)] := hl
  unfold f_X4_forget at hf
  refine lv_aload_n hx hb dX4_forget_0 rfl (lv_at hl 0 rfl) ?_
  refine lv_iconst (v := 0) hx hb dX4_forget_1 (by decide) ?_
  obtain ⟨σ1, e2, hf⟩ := mb0 hf
  refine my_pI hx hb hts hown hK hJ fd_RX4_55 cd_4 (Or.inl rfl) ht_4_0 e2 dX4_forget_2 (fun H locs hJ => ?_)
  refine lv_aload_n hx hb dX4_forget_5 rfl (lv_at hl 0 rfl) ?_
  refine lv_iconst (v := 0) hx hb dX4_forget_6 (by decide) ?_
  obtain ⟨σ3, e4, hf⟩ := mb0 hf
  refine my_pI hx hb hts hown hK hJ fd_RX4_59 cd_4 (Or.inl rfl) ht_4_1 e4 dX4_forget_7 (fun H locs hJ => ?_)
  refine lv_aload_n hx hb dX4_forget_10 rfl (lv_at hl 0 rfl) ?_
  refine lv_iconst (v := 0) hx hb dX4_forget_11 (by decide) ?_
  obtain ⟨σ5, e6, hf⟩ := mb0 hf
  refine my_pI hx hb hts hown hK hJ fd_RX4_62 cd_4 (Or.inl rfl) ht_4_14 e6 dX4_forget_12 (fun H locs hJ => ?_)
  refine lv_aload_n hx hb dX4_forget_15 rfl (lv_at hl 0 rfl) ?_
  obtain ⟨b7, e8, hf⟩ := mb0 hf
  refine my_gR hx hb hts hown hK hJ fd_RX4_19 hv_4_6 e8 dX4_forget_16 ?_
  refine lv_iconst (v := 0) hx hb dX4_forget_19 (by decide) ?_
  obtain ⟨σ9, e10, hf⟩ := mb0 hf
  refine mx_callS (As := [.ref b7, .int (0 : Int32)]) (rest := []) hx hb hml hts hown hK hJ rfl rfl (c_J7_fill_53178 l G P b7 (0 : Int32) σ5 σ9 e10) me_J7_fill_53178 kw_817 kw_816 (Nat.le_of_ble_eq_true rfl) (Nat.le_of_ble_eq_true rfl) rfl hl.1 rfl (Nat.le_of_ble_eq_true rfl) dX4_forget_20 (fun H locs hJ => ?_)
  exact my_vret hx hb hr hlocks hJ hf dX4_forget_23
set_option maxHeartbeats 4000000 in
set_option maxRecDepth 100000 in
theorem c_J7_fill_d0a16 (l : Launch) (G : mx_G) (P : mx_P) (a0 : Nat) (p1 : Int64) (σ : mx_S) (σ' : mx_S) (hf : f_J7_fill_d0a16 P a0 p1 σ = some σ') : mxz σ ≤ mpc P → mxu σ ≤ mps P → mx_M l yJ7_fill_d0a16 cJ7_fill_d0a16 5 none 0 0 G P [.ref a0, .long p1] σ none σ' := by
  intro hcap hcau
  refine mx_ofW (by decide +kernel) hcap hcau (Nat.le_of_ble_eq_true rfl) ?_
  intro p e s m below meth c hx hb hr hml hts hown hlocks hname hK hJ ls hl
  have hz0 := hJ.2.1
  have hown : s.vm.findClass RJ7 = some m.cls := hown
  have hl : lv_has ls 5 [(0, .ref a0), (1, .long p1)] := hl
  have B6 : ∀ (v0 : Nat) (v1 : Int64) (v4 : Int32) (v3 : Int32) (τ : mx_S) (o : (Int32 × mx_S) ⊕ ((mx_S))), f_J7_fill_d0a16_B6 P v0 v1 v4 v3 τ = some o → (∀ (y3 : Int32) (υ : mx_S), o = .inl (y3, υ) → ∀ (H : Heap) (locs : List Loc), mx_J G P s.heap (mxz σ) (mxu σ) υ H locs → ∀ ls : Array Slot, lv_has ls 5 [(0, .ref v0), (1, .long v1), (3, .int y3), (4, .int v4)] → W p l e (mx_rm P 0 0 σ) s m ([.ref a0, .long p1] : List Value).toArray below meth c H locs (mxz υ - mxz σ) (mxu υ - mxu σ) (mx_Z below G P none σ σ' [.ref a0, .long p1] s) (F0 m 6 ls [])) → (∀  (υ : mx_S), o = .inr υ → ∀ (H : Heap) (locs : List Loc), mx_J G P s.heap (mxz σ) (mxu σ) υ H locs → ∀ ls : Array Slot, lv_has ls 5 [] → W p l e (mx_rm P 0 0 σ) s m ([.ref a0, .long p1] : List Value).toArray below meth c H locs (mxz υ - mxz σ) (mxu υ - mxu σ) (mx_Z below G P none σ σ' [.ref a0, .long p1] s) (F0 m 22 ls [])) → ∀ (H : Heap) (locs : List Loc), mx_J G P s.heap (mxz σ) (mxu σ) τ H locs → ∀ ls : Array Slot, lv_has ls 5 [(0, .ref v0), (1, .long v1), (3, .int v3), (4, .int v4)] → W p l e (mx_rm P 0 0 σ) s m ([.ref a0, .long p1] : List Value).toArray below meth c H locs (mxz τ - mxz σ) (mxu τ - mxu σ) (mx_Z below G P none σ σ' [.ref a0, .long p1] s) (F0 m 6 ls []) := by
    intro v0 v1 v4 v3 τ o hf Kb Ke0 H locs hJ ls hl
    unfold f_J7_fill_d0a16_B6 at hf
    refine lv_iload_n hx hb dJ7_fill_d0a16_6 rfl (lv_at hl 2 rfl) ?_
    refine lv_iload hx hb dJ7_fill_d0a16_7 (lv_at hl 3 rfl) ?_
    refine lv_icmp_ge (tgt := 22) hx hb dJ7_fill_d0a16_9 (by decide) (fun c3 => ?_) (fun c3 => ?_)
    · rw [if_pos c3] at hf
      exact Ke0 τ (Option.some.inj hf).symm _ _ hJ ls (lv_sub hl [] rfl)
    · rw [if_neg c3] at hf
      refine lv_aload_n hx hb dJ7_fill_d0a16_12 rfl (lv_at hl 0 rfl) ?_
      refine lv_iload_n hx hb dJ7_fill_d0a16_13 rfl (lv_at hl 2 rfl) ?_
      refine lv_lload_n hx hb dJ7_fill_d0a16_14 rfl (lv_at hl 1 rfl) ?_
      obtain ⟨σ4, e5, hf⟩ := mb0 hf
      refine mx_sL hx hb hK hJ e5 dJ7_fill_d0a16_15 (fun H locs hJ => ?_)
      obtain ⟨x6, e7, hf⟩ := mb0 hf
      refine lv_iinc (v := x6) (lv' := [(3, .int x6), (0, .ref v0), (1, .long v1), (4, .int v4)]) hx hb dJ7_fill_d0a16_16 hl (k := 2) rfl (by rw [← Option.some.inj e7]; rfl) (by decide) rfl (fun ls hl => ?_)
      refine lv_goto (tgt := 6) hx hb dJ7_fill_d0a16_19 (by decide) ?_
      exact Kb x6 σ4 (Option.some.inj hf).symm _ _ hJ ls (lv_sub hl [1, 2, 0, 3] rfl)
  have L6 : ∀ (v0 : Nat) (v1 : Int64) (v4 : Int32) (n : Nat) (v3 : Int32) (τ : mx_S) (o : (mx_S)), mx_lp (f_J7_fill_d0a16_L6 P v0 v1 v4) n (v3, τ) = some o → (∀  (υ : mx_S), o = υ → ∀ (H : Heap) (locs : List Loc), mx_J G P s.heap (mxz σ) (mxu σ) υ H locs → ∀ ls : Array Slot, lv_has ls 5 [] → W p l e (mx_rm P 0 0 σ) s m ([.ref a0, .long p1] : List Value).toArray below meth c H locs (mxz υ - mxz σ) (mxu υ - mxu σ) (mx_Z below G P none σ σ' [.ref a0, .long p1] s) (F0 m 22 ls [])) → ∀ (H : Heap) (locs : List Loc), mx_J G P s.heap (mxz σ) (mxu σ) τ H locs → ∀ ls : Array Slot, lv_has ls 5 [(0, .ref v0), (1, .long v1), (3, .int v3), (4, .int v4)] → W p l e (mx_rm P 0 0 σ) s m ([.ref a0, .long p1] : List Value).toArray below meth c H locs (mxz τ - mxz σ) (mxu τ - mxu σ) (mx_Z below G P none σ σ' [.ref a0, .long p1] s) (F0 m 6 ls []) := by
    intro v0 v1 v4 n
    induction n with
    | zero =>
      intro v3 τ o hf
      rw [mx_lp0] at hf
      cases hf
    | succ n ih =>
      intro v3 τ o hf Ke0 H locs hJ ls hl
      rw [mx_lpS] at hf
      obtain ⟨b, eb, hf⟩ := mb0 hf
      refine B6 v0 v1 v4 v3 τ b eb (fun y3 υ ho H locs hJ ls hl => ?_) (fun  υ ho H locs hJ ls hl => ?_) H locs hJ ls hl
      · subst ho
        exact ih y3 υ o hf Ke0 H locs hJ ls hl
      · subst ho
        exact Ke0  υ (Option.some.inj hf).symm _ _ hJ ls hl
  unfold f_J7_fill_d0a16 at hf
  refine lv_iconst (v := 0) hx hb dJ7_fill_d0a16_0 (by decide) ?_
  refine lv_istore_n (lv' := [(3, .int (0 : Int32)), (0, .ref a0), (1, .long p1)]) hx hb dJ7_fill_d0a16_1 rfl hl (by decide) rfl (fun ls hl => ?_)
  refine lv_aload_n hx hb dJ7_fill_d0a16_2 rfl (lv_at hl 1 rfl) ?_
  obtain ⟨x1, e2, hf⟩ := mb0 hf
  refine mx_alen hx hb hK hJ e2 dJ7_fill_d0a16_3 ?_
  refine lv_istore (lv' := [(4, .int x1), (3, .int (0 : Int32)), (0, .ref a0), (1, .long p1)]) hx hb dJ7_fill_d0a16_4 hl (by decide) rfl (fun ls hl => ?_)
  obtain ⟨o8, e9, hf⟩ := mb0 hf
  refine L6 a0 p1 x1 (mpN P) (0 : Int32) σ o8 e9 (fun σ10 ho H locs hJ ls hl => ?_) _ _ hJ ls (lv_sub hl [2, 3, 1, 0] rfl)
  · rw [ho] at hf
    have hf : (some σ10) = some σ' := hf
    exact my_vret hx hb hr hlocks hJ hf dJ7_fill_d0a16_22
set_option maxHeartbeats 4000000 in
set_option maxRecDepth 100000 in
theorem c_X4_emptyRow (l : Launch) (G : mx_G) (P : mx_P) (a0 : Nat) (σ : mx_S) (σ' : mx_S) (hf : f_X4_emptyRow P a0 σ = some σ') : mxz σ ≤ mpc P → mxu σ ≤ mps P → mx_M l yX4_emptyRow cX4_emptyRow 1 none 1 24 G P [.ref a0] σ none σ' := by
  intro hcap hcau
  refine mx_ofW (by decide +kernel) hcap hcau (Nat.le_of_ble_eq_true rfl) ?_
  intro p e s m below meth c hx hb hr hml hts hown hlocks hname hK hJ ls hl
  have hz0 := hJ.2.1
  have hown : s.vm.findClass RX4 = some m.cls := hown
  have hl : lv_has ls 1 [(0, .ref a0)] := hl
  unfold f_X4_emptyRow at hf
  refine lv_aload_n hx hb dX4_emptyRow_0 rfl (lv_at hl 0 rfl) ?_
  obtain ⟨b1, e2, hf⟩ := mb0 hf
  refine my_gR hx hb hts hown hK hJ fd_RX4_33 hv_4_10 e2 dX4_emptyRow_1 ?_
  refine lv_aload_n hx hb dX4_emptyRow_4 rfl (lv_at hl 0 rfl) ?_
  obtain ⟨x3, e4, hf⟩ := mb0 hf
  refine my_gI hx hb hts hown hK hJ fd_RX4_81 hv_4_13 e4 dX4_emptyRow_5 ?_
  obtain ⟨b5, e6, hf⟩ := mb0 hf
  refine mx_aR hx hb hK hJ (t := 7) rfl (fun _ _ _ => rfl) e6 dX4_emptyRow_8 ?_
  refine lv_lconst (v := 0) hx hb dX4_emptyRow_9 (by decide) ?_
  obtain ⟨σ7, e8, hf⟩ := mb0 hf
  refine mx_callS (As := [.ref b5, .long (0 : Int64)]) (rest := []) hx hb hml hts hown hK hJ rfl rfl (c_J7_fill_d0a16 l G P b5 (0 : Int64) σ σ7 e8) me_J7_fill_d0a16 kw_836 kw_835 (Nat.le_of_ble_eq_true rfl) (Nat.le_of_ble_eq_true rfl) rfl hl.1 rfl (Nat.le_of_ble_eq_true rfl) dX4_emptyRow_10 (fun H locs hJ => ?_)
  refine lv_aload_n hx hb dX4_emptyRow_13 rfl (lv_at hl 0 rfl) ?_
  obtain ⟨b9, e10, hf⟩ := mb0 hf
  refine my_gR hx hb hts hown hK hJ fd_RX4_36 hv_4_11 e10 dX4_emptyRow_14 ?_
  refine lv_aload_n hx hb dX4_emptyRow_17 rfl (lv_at hl 0 rfl) ?_
  obtain ⟨x11, e12, hf⟩ := mb0 hf
  refine my_gI hx hb hts hown hK hJ fd_RX4_81 hv_4_13 e12 dX4_emptyRow_18 ?_
  obtain ⟨b13, e14, hf⟩ := mb0 hf
  refine mx_aR hx hb hK hJ (t := 7) rfl (fun _ _ _ => rfl) e14 dX4_emptyRow_21 ?_
  refine lv_lconst (v := 1) hx hb dX4_emptyRow_22 (by decide) ?_
  obtain ⟨σ15, e16, hf⟩ := mb0 hf
  refine mx_callS (As := [.ref b13, .long (1 : Int64)]) (rest := []) hx hb hml hts hown hK hJ rfl rfl (c_J7_fill_d0a16 l G P b13 (1 : Int64) σ7 σ15 e16) me_J7_fill_d0a16 kw_836 kw_835 (Nat.le_of_ble_eq_true rfl) (Nat.le_of_ble_eq_true rfl) rfl hl.1 rfl (Nat.le_of_ble_eq_true rfl) dX4_emptyRow_23 (fun H locs hJ => ?_)
  exact my_vret hx hb hr hlocks hJ hf dX4_emptyRow_26
set_option maxHeartbeats 4000000 in
set_option maxRecDepth 100000 in
theorem c_X4_writeMesh (l : Launch) (G : mx_G) (P : mx_P) (a0 : Nat) (p1 : Int32) (σ : mx_S) (σ' : mx_S) (hf : f_X4_writeMesh P a0 p1 σ = some σ') : mxz σ ≤ mpc P → mxu σ ≤ mps P → mx_M l yX4_writeMesh cX4_writeMesh 6 none 0 0 G P [.ref a0, .int p1] σ none σ' := by
  intro hcap hcau
  refine mx_ofW (by decide +kernel) hcap hcau (Nat.le_of_ble_eq_true rfl) ?_
  intro p e s m below meth c hx hb hr hml hts hown hlocks hname hK hJ ls hl
  have hz0 := hJ.2.1
  have hown : s.vm.findClass RX4 = some m.cls := hown
  have hl : lv_has ls 6 [(0, .ref a0), (1, .int p1)] := hl
  have D128 : ∀  (τ : mx_S), f_X4_writeMesh_D128 P  τ = some σ' → ∀ (H : Heap) (locs : List Loc), mx_J G P s.heap (mxz σ) (mxu σ) τ H locs → ∀ ls : Array Slot, lv_has ls 6 [] → W p l e (mx_rm P 0 0 σ) s m ([.ref a0, .int p1] : List Value).toArray below meth c H locs (mxz τ - mxz σ) (mxu τ - mxu σ) (mx_Z below G P none σ σ' [.ref a0, .int p1] s) (F0 m 128 ls []) := by
    intro  τ hf _ _ hJ ls hl
    unfold f_X4_writeMesh_D128 at hf
    exact my_vret hx hb hr hlocks hJ hf dX4_writeMesh_128
  unfold f_X4_writeMesh at hf
  refine lv_aload_n hx hb dX4_writeMesh_0 rfl (lv_at hl 0 rfl) ?_
  obtain ⟨b1, e2, hf⟩ := mb0 hf
  refine my_gR hx hb hts hown hK hJ fd_RX4_9 hv_4_3 e2 dX4_writeMesh_1 ?_
  refine lv_aload_n hx hb dX4_writeMesh_4 rfl (lv_at hl 0 rfl) ?_
  obtain ⟨b3, e4, hf⟩ := mb0 hf
  refine my_gR hx hb hts hown hK hJ fd_RX4_16 hv_4_5 e4 dX4_writeMesh_5 ?_
  refine lv_iload_n hx hb dX4_writeMesh_8 rfl (lv_at hl 1 rfl) ?_
  obtain ⟨x5, e6, hf⟩ := mb0 hf
  refine mx_aI hx hb hK hJ e6 dX4_writeMesh_9 ?_
  obtain ⟨x7, e8, hf⟩ := mb0 hf
  refine mx_aI hx hb hK hJ e8 dX4_writeMesh_10 ?_
  refine lv_i2l hx hb dX4_writeMesh_11 rfl ?_
  obtain ⟨x9, e10, hf⟩ := mb0 hf
  refine mx_nL e10 ?_
  refine lv_lstore_n (lv' := [(2, .long x9), (0, .ref a0), (1, .int p1)]) hx hb dX4_writeMesh_12 rfl hl (by decide) rfl (fun ls hl => ?_)
  refine lv_aload_n hx hb dX4_writeMesh_13 rfl (lv_at hl 1 rfl) ?_
  obtain ⟨b11, e12, hf⟩ := mb0 hf
  refine my_gR hx hb hts hown hK hJ fd_RX4_16 hv_4_5 e12 dX4_writeMesh_14 ?_
  refine lv_iload_n hx hb dX4_writeMesh_17 rfl (lv_at hl 2 rfl) ?_
  refine lv_iconst (v := 2) hx hb dX4_writeMesh_18 (by decide) ?_
  refine lv_iadd hx hb dX4_writeMesh_19 ?_
  obtain ⟨x13, e14, hf⟩ := mb0 hf
  refine mx_aI hx hb hK hJ e14 dX4_writeMesh_20 ?_
  refine lv_i2l hx hb dX4_writeMesh_21 rfl ?_
  refine lv_aload_n hx hb dX4_writeMesh_22 rfl (lv_at hl 1 rfl) ?_
  obtain ⟨b15, e16, hf⟩ := mb0 hf
  refine my_gR hx hb hts hown hK hJ fd_RX4_9 hv_4_3 e16 dX4_writeMesh_23 ?_
  refine lv_aload_n hx hb dX4_writeMesh_26 rfl (lv_at hl 1 rfl) ?_
  obtain ⟨b17, e18, hf⟩ := mb0 hf
  refine my_gR hx hb hts hown hK hJ fd_RX4_16 hv_4_5 e18 dX4_writeMesh_27 ?_
  refine lv_iload_n hx hb dX4_writeMesh_30 rfl (lv_at hl 2 rfl) ?_
  refine lv_iconst (v := 1) hx hb dX4_writeMesh_31 (by decide) ?_
  refine lv_iadd hx hb dX4_writeMesh_32 ?_
  obtain ⟨x19, e20, hf⟩ := mb0 hf
  refine mx_aI hx hb hK hJ e20 dX4_writeMesh_33 ?_
  obtain ⟨x21, e22, hf⟩ := mb0 hf
  refine mx_aI hx hb hK hJ e22 dX4_writeMesh_34 ?_
  refine lv_i2l hx hb dX4_writeMesh_35 rfl ?_
  refine lv_lmul hx hb dX4_writeMesh_36 ?_
  obtain ⟨x23, e24, hf⟩ := mb0 hf
  refine mx_nL e24 ?_
  refine lv_lstore (lv' := [(4, .long x23), (2, .long x9), (0, .ref a0), (1, .int p1)]) hx hb dX4_writeMesh_37 hl (by decide) rfl (fun ls hl => ?_)
  refine lv_aload_n hx hb dX4_writeMesh_39 rfl (lv_at hl 2 rfl) ?_
  obtain ⟨b25, e26, hf⟩ := mb0 hf
  refine my_gR hx hb hts hown hK hJ fd_RX4_33 hv_4_10 e26 dX4_writeMesh_40 ?_
  refine lv_aload_n hx hb dX4_writeMesh_43 rfl (lv_at hl 2 rfl) ?_
  obtain ⟨x27, e28, hf⟩ := mb0 hf
  refine my_gI hx hb hts hown hK hJ fd_RX4_81 hv_4_13 e28 dX4_writeMesh_44 ?_
  obtain ⟨b29, e30, hf⟩ := mb0 hf
  refine mx_aR hx hb hK hJ (t := 7) rfl (fun _ _ _ => rfl) e30 dX4_writeMesh_47 ?_
  refine lv_aload_n hx hb dX4_writeMesh_48 rfl (lv_at hl 2 rfl) ?_
  obtain ⟨b31, e32, hf⟩ := mb0 hf
  refine my_gR hx hb hts hown hK hJ fd_RX4_13 hv_4_4 e32 dX4_writeMesh_49 ?_
  refine lv_aload_n hx hb dX4_writeMesh_52 rfl (lv_at hl 2 rfl) ?_
  obtain ⟨b33, e34, hf⟩ := mb0 hf
  refine my_gR hx hb hts hown hK hJ fd_RX4_16 hv_4_5 e34 dX4_writeMesh_53 ?_
  refine lv_iload_n hx hb dX4_writeMesh_56 rfl (lv_at hl 3 rfl) ?_
  obtain ⟨x35, e36, hf⟩ := mb0 hf
  refine mx_aI hx hb hK hJ e36 dX4_writeMesh_57 ?_
  obtain ⟨x37, e38, hf⟩ := mb0 hf
  refine mx_aI hx hb hK hJ e38 dX4_writeMesh_58 ?_
  refine lv_dup2_11 hx hb dX4_writeMesh_59 rfl rfl ?_
  obtain ⟨x39, e40, hf⟩ := mb0 hf
  refine mx_aL hx hb hK hJ e40 dX4_writeMesh_60 ?_
  refine lv_lload_n hx hb dX4_writeMesh_61 rfl (lv_at hl 1 rfl) ?_
  refine lv_ladd hx hb dX4_writeMesh_62 ?_
  obtain ⟨σ41, e42, hf⟩ := mb0 hf
  refine mx_sL hx hb hK hJ e42 dX4_writeMesh_63 (fun H locs hJ => ?_)
  refine lv_aload_n hx hb dX4_writeMesh_64 rfl (lv_at hl 2 rfl) ?_
  obtain ⟨b43, e44, hf⟩ := mb0 hf
  refine my_gR hx hb hts hown hK hJ fd_RX4_33 hv_4_10 e44 dX4_writeMesh_65 ?_
  refine lv_aload_n hx hb dX4_writeMesh_68 rfl (lv_at hl 2 rfl) ?_
  obtain ⟨x45, e46, hf⟩ := mb0 hf
  refine my_gI hx hb hts hown hK hJ fd_RX4_81 hv_4_13 e46 dX4_writeMesh_69 ?_
  obtain ⟨b47, e48, hf⟩ := mb0 hf
  refine mx_aR hx hb hK hJ (t := 7) rfl (fun _ _ _ => rfl) e48 dX4_writeMesh_72 ?_
  refine lv_aload_n hx hb dX4_writeMesh_73 rfl (lv_at hl 2 rfl) ?_
  obtain ⟨b49, e50, hf⟩ := mb0 hf
  refine my_gR hx hb hts hown hK hJ fd_RX4_13 hv_4_4 e50 dX4_writeMesh_74 ?_
  refine lv_aload_n hx hb dX4_writeMesh_77 rfl (lv_at hl 2 rfl) ?_
  obtain ⟨b51, e52, hf⟩ := mb0 hf
  refine my_gR hx hb hts hown hK hJ fd_RX4_16 hv_4_5 e52 dX4_writeMesh_78 ?_
  refine lv_iload_n hx hb dX4_writeMesh_81 rfl (lv_at hl 3 rfl) ?_
  refine lv_iconst (v := 1) hx hb dX4_writeMesh_82 (by decide) ?_
  refine lv_iadd hx hb dX4_writeMesh_83 ?_
  obtain ⟨x53, e54, hf⟩ := mb0 hf
  refine mx_aI hx hb hK hJ e54 dX4_writeMesh_84 ?_
  obtain ⟨x55, e56, hf⟩ := mb0 hf
  refine mx_aI hx hb hK hJ e56 dX4_writeMesh_85 ?_
  refine lv_dup2_11 hx hb dX4_writeMesh_86 rfl rfl ?_
  obtain ⟨x57, e58, hf⟩ := mb0 hf
  refine mx_aL hx hb hK hJ e58 dX4_writeMesh_87 ?_
  refine lv_lload hx hb dX4_writeMesh_88 (lv_at hl 0 rfl) ?_
  refine lv_ladd hx hb dX4_writeMesh_90 ?_
  obtain ⟨σ59, e60, hf⟩ := mb0 hf
  refine mx_sL hx hb hK hJ e60 dX4_writeMesh_91 (fun H locs hJ => ?_)
  refine lv_aload_n hx hb dX4_writeMesh_92 rfl (lv_at hl 2 rfl) ?_
  obtain ⟨b61, e62, hf⟩ := mb0 hf
  refine my_gR hx hb hts hown hK hJ fd_RX4_16 hv_4_5 e62 dX4_writeMesh_93 ?_
  refine lv_iload_n hx hb dX4_writeMesh_96 rfl (lv_at hl 3 rfl) ?_
  refine lv_iconst (v := 3) hx hb dX4_writeMesh_97 (by decide) ?_
  refine lv_iadd hx hb dX4_writeMesh_98 ?_
  obtain ⟨x63, e64, hf⟩ := mb0 hf
  refine mx_aI hx hb hK hJ e64 dX4_writeMesh_99 ?_
  refine lv_if_lt (tgt := 128) hx hb dX4_writeMesh_100 (by decide) (fun c65 => ?_) (fun c65 => ?_)
  · rw [if_pos c65] at hf
    exact D128  σ59 hf _ _ hJ ls (lv_sub hl [] rfl)
  · rw [if_neg c65] at hf
    refine lv_aload_n hx hb dX4_writeMesh_103 rfl (lv_at hl 2 rfl) ?_
    obtain ⟨b66, e67, hf⟩ := mb0 hf
    refine my_gR hx hb hts hown hK hJ fd_RX4_33 hv_4_10 e67 dX4_writeMesh_104 ?_
    refine lv_aload_n hx hb dX4_writeMesh_107 rfl (lv_at hl 2 rfl) ?_
    obtain ⟨x68, e69, hf⟩ := mb0 hf
    refine my_gI hx hb hts hown hK hJ fd_RX4_81 hv_4_13 e69 dX4_writeMesh_108 ?_
    obtain ⟨b70, e71, hf⟩ := mb0 hf
    refine mx_aR hx hb hK hJ (t := 7) rfl (fun _ _ _ => rfl) e71 dX4_writeMesh_111 ?_
    refine lv_aload_n hx hb dX4_writeMesh_112 rfl (lv_at hl 2 rfl) ?_
    obtain ⟨b72, e73, hf⟩ := mb0 hf
    refine my_gR hx hb hts hown hK hJ fd_RX4_16 hv_4_5 e73 dX4_writeMesh_113 ?_
    refine lv_iload_n hx hb dX4_writeMesh_116 rfl (lv_at hl 3 rfl) ?_
    refine lv_iconst (v := 3) hx hb dX4_writeMesh_117 (by decide) ?_
    refine lv_iadd hx hb dX4_writeMesh_118 ?_
    obtain ⟨x74, e75, hf⟩ := mb0 hf
    refine mx_aI hx hb hK hJ e75 dX4_writeMesh_119 ?_
    refine lv_dup2_11 hx hb dX4_writeMesh_120 rfl rfl ?_
    obtain ⟨x76, e77, hf⟩ := mb0 hf
    refine mx_aL hx hb hK hJ e77 dX4_writeMesh_121 ?_
    refine lv_lload_n hx hb dX4_writeMesh_122 rfl (lv_at hl 1 rfl) ?_
    refine lv_lload hx hb dX4_writeMesh_123 (lv_at hl 0 rfl) ?_
    refine lv_ladd hx hb dX4_writeMesh_125 ?_
    refine lv_lsub hx hb dX4_writeMesh_126 ?_
    obtain ⟨σ78, e79, hf⟩ := mb0 hf
    refine mx_sL hx hb hK hJ e79 dX4_writeMesh_127 (fun H locs hJ => ?_)
    exact D128  σ78 hf _ _ hJ ls (lv_sub hl [] rfl)
set_option maxHeartbeats 4000000 in
set_option maxRecDepth 100000 in
theorem c_X4_writeCell (l : Launch) (G : mx_G) (P : mx_P) (a0 : Nat) (p1 : Int32) (p2 : Int32) (σ : mx_S) (σ' : mx_S) (hf : f_X4_writeCell P a0 p1 p2 σ = some σ') : mxz σ ≤ mpc P → mxu σ ≤ mps P → mx_M l yX4_writeCell cX4_writeCell 3 none 0 0 G P [.ref a0, .int p1, .int p2] σ none σ' := by
  intro hcap hcau
  refine mx_ofW (by decide +kernel) hcap hcau (Nat.le_of_ble_eq_true rfl) ?_
  intro p e s m below meth c hx hb hr hml hts hown hlocks hname hK hJ ls hl
  have hz0 := hJ.2.1
  have hown : s.vm.findClass RX4 = some m.cls := hown
  have hl : lv_has ls 3 [(0, .ref a0), (1, .int p1), (2, .int p2)] := hl
  unfold f_X4_writeCell at hf
  refine lv_aload_n hx hb dX4_writeCell_0 rfl (lv_at hl 0 rfl) ?_
  obtain ⟨b1, e2, hf⟩ := mb0 hf
  refine my_gR hx hb hts hown hK hJ fd_RX4_33 hv_4_10 e2 dX4_writeCell_1 ?_
  refine lv_iload_n hx hb dX4_writeCell_4 rfl (lv_at hl 1 rfl) ?_
  obtain ⟨b3, e4, hf⟩ := mb0 hf
  refine mx_aR hx hb hK hJ (t := 7) rfl (fun _ _ _ => rfl) e4 dX4_writeCell_5 ?_
  refine lv_iload_n hx hb dX4_writeCell_6 rfl (lv_at hl 2 rfl) ?_
  refine lv_aload_n hx hb dX4_writeCell_7 rfl (lv_at hl 0 rfl) ?_
  obtain ⟨b5, e6, hf⟩ := mb0 hf
  refine my_gR hx hb hts hown hK hJ fd_RX4_52 hv_4_17 e6 dX4_writeCell_8 ?_
  obtain ⟨x7, e8, hf⟩ := mb0 hf
  refine my_gL hx hb hts hown hK hJ fd_RX4_102 hv_3_0 e8 dX4_writeCell_11 ?_
  obtain ⟨σ9, e10, hf⟩ := mb0 hf
  refine mx_sL hx hb hK hJ e10 dX4_writeCell_14 (fun H locs hJ => ?_)
  refine lv_aload_n hx hb dX4_writeCell_15 rfl (lv_at hl 0 rfl) ?_
  obtain ⟨b11, e12, hf⟩ := mb0 hf
  refine my_gR hx hb hts hown hK hJ fd_RX4_36 hv_4_11 e12 dX4_writeCell_16 ?_
  refine lv_iload_n hx hb dX4_writeCell_19 rfl (lv_at hl 1 rfl) ?_
  obtain ⟨b13, e14, hf⟩ := mb0 hf
  refine mx_aR hx hb hK hJ (t := 7) rfl (fun _ _ _ => rfl) e14 dX4_writeCell_20 ?_
  refine lv_iload_n hx hb dX4_writeCell_21 rfl (lv_at hl 2 rfl) ?_
  refine lv_aload_n hx hb dX4_writeCell_22 rfl (lv_at hl 0 rfl) ?_
  obtain ⟨b15, e16, hf⟩ := mb0 hf
  refine my_gR hx hb hts hown hK hJ fd_RX4_52 hv_4_17 e16 dX4_writeCell_23 ?_
  obtain ⟨x17, e18, hf⟩ := mb0 hf
  refine my_gL hx hb hts hown hK hJ fd_RX4_106 hv_3_1 e18 dX4_writeCell_26 ?_
  obtain ⟨σ19, e20, hf⟩ := mb0 hf
  refine mx_sL hx hb hK hJ e20 dX4_writeCell_29 (fun H locs hJ => ?_)
  exact my_vret hx hb hr hlocks hJ hf dX4_writeCell_30
set_option maxHeartbeats 4000000 in
set_option maxRecDepth 100000 in
theorem c_X4_writeRows (l : Launch) (G : mx_G) (P : mx_P) (a0 : Nat) (σ : mx_S) (σ' : mx_S) (hf : f_X4_writeRows P a0 σ = some σ') : mxz σ ≤ mpc P → mxu σ ≤ mps P → mx_M l yX4_writeRows cX4_writeRows 2 none 4 101 G P [.ref a0] σ none σ' := by
  intro hcap hcau
  refine mx_ofW (by decide +kernel) hcap hcau (Nat.le_of_ble_eq_true rfl) ?_
  intro p e s m below meth c hx hb hr hml hts hown hlocks hname hK hJ ls hl
  have hz0 := hJ.2.1
  have hown : s.vm.findClass RX4 = some m.cls := hown
  have hl : lv_has ls 2 [(0, .ref a0)] := hl
  have B7 : ∀ (v0 : Nat) (v1 : Int32) (τ : mx_S) (o : (Int32 × mx_S) ⊕ ((mx_S))), f_X4_writeRows_B7 P v0 v1 τ = some o → (∀ (y1 : Int32) (υ : mx_S), o = .inl (y1, υ) → ∀ (H : Heap) (locs : List Loc), mx_J G P s.heap (mxz σ) (mxu σ) υ H locs → ∀ ls : Array Slot, lv_has ls 2 [(0, .ref v0), (1, .int y1)] → W p l e (mx_rm P 4 101 σ) s m ([.ref a0] : List Value).toArray below meth c H locs (mxz υ - mxz σ) (mxu υ - mxu σ) (mx_Z below G P none σ σ' [.ref a0] s) (F0 m 7 ls [])) → (∀  (υ : mx_S), o = .inr υ → ∀ (H : Heap) (locs : List Loc), mx_J G P s.heap (mxz σ) (mxu σ) υ H locs → ∀ ls : Array Slot, lv_has ls 2 [(0, .ref v0)] → W p l e (mx_rm P 4 101 σ) s m ([.ref a0] : List Value).toArray below meth c H locs (mxz υ - mxz σ) (mxu υ - mxu σ) (mx_Z below G P none σ σ' [.ref a0] s) (F0 m 42 ls [])) → ∀ (H : Heap) (locs : List Loc), mx_J G P s.heap (mxz σ) (mxu σ) τ H locs → ∀ ls : Array Slot, lv_has ls 2 [(0, .ref v0), (1, .int v1)] → W p l e (mx_rm P 4 101 σ) s m ([.ref a0] : List Value).toArray below meth c H locs (mxz τ - mxz σ) (mxu τ - mxu σ) (mx_Z below G P none σ σ' [.ref a0] s) (F0 m 7 ls []) := by
    intro v0 v1 τ o hf Kb Ke0 H locs hJ ls hl
    unfold f_X4_writeRows_B7 at hf
    refine lv_iload_n hx hb dX4_writeRows_7 rfl (lv_at hl 1 rfl) ?_
    refine lv_aload_n hx hb dX4_writeRows_8 rfl (lv_at hl 0 rfl) ?_
    obtain ⟨x3, e4, hf⟩ := mb0 hf
    refine my_gI hx hb hts hown hK hJ fd_RX4_59 hv_4_1 e4 dX4_writeRows_9 ?_
    refine lv_icmp_ge (tgt := 42) hx hb dX4_writeRows_12 (by decide) (fun c5 => ?_) (fun c5 => ?_)
    · rw [if_pos c5] at hf
      exact Ke0 τ (Option.some.inj hf).symm _ _ hJ ls (lv_sub hl [0] rfl)
    · rw [if_neg c5] at hf
      refine lv_aload_n hx hb dX4_writeRows_15 rfl (lv_at hl 0 rfl) ?_
      obtain ⟨i6, e7, hf⟩ := mb0 hf
      obtain ⟨σ8, e9, hf⟩ := mb0 hf
      refine mx_callV (As := []) (rest := []) hx hb hml hts hown hK hJ rfl rfl (ci := 4) rfl e7 (c_X4_emptyRow l G P v0 τ σ8 e9) me_X4_emptyRow kw_833 ks_10 kw_831 (Nat.le_of_ble_eq_true rfl) (Nat.le_of_ble_eq_true rfl) rfl hl.1 rfl (Nat.le_of_ble_eq_true rfl) dX4_writeRows_16 (fun H locs hJ => ?_)
      refine lv_aload_n hx hb dX4_writeRows_19 rfl (lv_at hl 0 rfl) ?_
      refine lv_iconst (v := 4) hx hb dX4_writeRows_20 (by decide) ?_
      refine lv_iload_n hx hb dX4_writeRows_21 rfl (lv_at hl 1 rfl) ?_
      refine lv_imul hx hb dX4_writeRows_22 ?_
      obtain ⟨i10, e11, hf⟩ := mb0 hf
      obtain ⟨σ12, e13, hf⟩ := mb0 hf
      refine mx_callV (As := [.int ((4 : Int32) * v1)]) (rest := []) hx hb hml hts hown hK hJ rfl rfl (ci := 4) rfl e11 (c_X4_writeMesh l G P v0 ((4 : Int32) * v1) σ8 σ12 e13) me_X4_writeMesh kw_840 ks_11 kw_838 (Nat.le_of_ble_eq_true rfl) (Nat.le_of_ble_eq_true rfl) rfl hl.1 rfl (Nat.le_of_ble_eq_true rfl) dX4_writeRows_23 (fun H locs hJ => ?_)
      refine lv_aload_n hx hb dX4_writeRows_26 rfl (lv_at hl 0 rfl) ?_
      refine lv_dup hx hb dX4_writeRows_27 rfl ?_
      obtain ⟨x14, e15, hf⟩ := mb0 hf
      refine my_gI hx hb hts hown hK hJ fd_RX4_81 hv_4_13 e15 dX4_writeRows_28 ?_
      refine lv_iconst (v := 1) hx hb dX4_writeRows_31 (by decide) ?_
      refine lv_iadd hx hb dX4_writeRows_32 ?_
      obtain ⟨σ16, e17, hf⟩ := mb0 hf
      refine my_pI hx hb hts hown hK hJ fd_RX4_81 cd_4 (Or.inl rfl) ht_4_13 e17 dX4_writeRows_33 (fun H locs hJ => ?_)
      obtain ⟨x18, e19, hf⟩ := mb0 hf
      refine lv_iinc (v := x18) (lv' := [(1, .int x18), (0, .ref v0)]) hx hb dX4_writeRows_36 hl (k := 1) rfl (by rw [← Option.some.inj e19]; rfl) (by decide) rfl (fun ls hl => ?_)
      refine lv_goto (tgt := 7) hx hb dX4_writeRows_39 (by decide) ?_
      exact Kb x18 σ16 (Option.some.inj hf).symm _ _ hJ ls (lv_sub hl [1, 0] rfl)
  have L7 : ∀ (v0 : Nat) (n : Nat) (v1 : Int32) (τ : mx_S) (o : (mx_S)), mx_lp (f_X4_writeRows_L7 P v0) n (v1, τ) = some o → (∀  (υ : mx_S), o = υ → ∀ (H : Heap) (locs : List Loc), mx_J G P s.heap (mxz σ) (mxu σ) υ H locs → ∀ ls : Array Slot, lv_has ls 2 [(0, .ref v0)] → W p l e (mx_rm P 4 101 σ) s m ([.ref a0] : List Value).toArray below meth c H locs (mxz υ - mxz σ) (mxu υ - mxu σ) (mx_Z below G P none σ σ' [.ref a0] s) (F0 m 42 ls [])) → ∀ (H : Heap) (locs : List Loc), mx_J G P s.heap (mxz σ) (mxu σ) τ H locs → ∀ ls : Array Slot, lv_has ls 2 [(0, .ref v0), (1, .int v1)] → W p l e (mx_rm P 4 101 σ) s m ([.ref a0] : List Value).toArray below meth c H locs (mxz τ - mxz σ) (mxu τ - mxu σ) (mx_Z below G P none σ σ' [.ref a0] s) (F0 m 7 ls []) := by
    intro v0 n
    induction n with
    | zero =>
      intro v1 τ o hf
      rw [mx_lp0] at hf
      cases hf
    | succ n ih =>
      intro v1 τ o hf Ke0 H locs hJ ls hl
      rw [mx_lpS] at hf
      obtain ⟨b, eb, hf⟩ := mb0 hf
      refine B7 v0 v1 τ b eb (fun y1 υ ho H locs hJ ls hl => ?_) (fun  υ ho H locs hJ ls hl => ?_) H locs hJ ls hl
      · subst ho
        exact ih y1 υ o hf Ke0 H locs hJ ls hl
      · subst ho
        exact Ke0  υ (Option.some.inj hf).symm _ _ hJ ls hl
  have D126_44 : ∀ (v0 : Nat) (v1 : Int32) (τ : mx_S) (o : (Int32 × mx_S) ⊕ ((mx_S))), f_X4_writeRows_D126_44 P v0 v1 τ = some o → (∀ (y1 : Int32) (υ : mx_S), o = .inl (y1, υ) → ∀ (H : Heap) (locs : List Loc), mx_J G P s.heap (mxz σ) (mxu σ) υ H locs → ∀ ls : Array Slot, lv_has ls 2 [(0, .ref v0), (1, .int y1)] → W p l e (mx_rm P 4 101 σ) s m ([.ref a0] : List Value).toArray below meth c H locs (mxz υ - mxz σ) (mxu υ - mxu σ) (mx_Z below G P none σ σ' [.ref a0] s) (F0 m 44 ls [])) → (∀  (υ : mx_S), o = .inr υ → ∀ (H : Heap) (locs : List Loc), mx_J G P s.heap (mxz σ) (mxu σ) υ H locs → ∀ ls : Array Slot, lv_has ls 2 [] → W p l e (mx_rm P 4 101 σ) s m ([.ref a0] : List Value).toArray below meth c H locs (mxz υ - mxz σ) (mxu υ - mxu σ) (mx_Z below G P none σ σ' [.ref a0] s) (F0 m 132 ls [])) → ∀ (H : Heap) (locs : List Loc), mx_J G P s.heap (mxz σ) (mxu σ) τ H locs → ∀ ls : Array Slot, lv_has ls 2 [(0, .ref v0), (1, .int v1)] → W p l e (mx_rm P 4 101 σ) s m ([.ref a0] : List Value).toArray below meth c H locs (mxz τ - mxz σ) (mxu τ - mxu σ) (mx_Z below G P none σ σ' [.ref a0] s) (F0 m 126 ls []) := by
    intro v0 v1 τ o hf Kb Ke0 H locs hJ ls hl
    unfold f_X4_writeRows_D126_44 at hf
    obtain ⟨x29, e30, hf⟩ := mb0 hf
    refine lv_iinc (v := x29) (lv' := [(1, .int x29), (0, .ref v0)]) hx hb dX4_writeRows_126 hl (k := 1) rfl (by rw [← Option.some.inj e30]; rfl) (by decide) rfl (fun ls hl => ?_)
    refine lv_goto (tgt := 44) hx hb dX4_writeRows_129 (by decide) ?_
    exact Kb x29 τ (Option.some.inj hf).symm _ _ hJ ls (lv_sub hl [1, 0] rfl)
  have D116_44 : ∀ (v0 : Nat) (v1 : Int32) (τ : mx_S) (o : (Int32 × mx_S) ⊕ ((mx_S))), f_X4_writeRows_D116_44 P v0 v1 τ = some o → (∀ (y1 : Int32) (υ : mx_S), o = .inl (y1, υ) → ∀ (H : Heap) (locs : List Loc), mx_J G P s.heap (mxz σ) (mxu σ) υ H locs → ∀ ls : Array Slot, lv_has ls 2 [(0, .ref v0), (1, .int y1)] → W p l e (mx_rm P 4 101 σ) s m ([.ref a0] : List Value).toArray below meth c H locs (mxz υ - mxz σ) (mxu υ - mxu σ) (mx_Z below G P none σ σ' [.ref a0] s) (F0 m 44 ls [])) → (∀  (υ : mx_S), o = .inr υ → ∀ (H : Heap) (locs : List Loc), mx_J G P s.heap (mxz σ) (mxu σ) υ H locs → ∀ ls : Array Slot, lv_has ls 2 [] → W p l e (mx_rm P 4 101 σ) s m ([.ref a0] : List Value).toArray below meth c H locs (mxz υ - mxz σ) (mxu υ - mxu σ) (mx_Z below G P none σ σ' [.ref a0] s) (F0 m 132 ls [])) → ∀ (H : Heap) (locs : List Loc), mx_J G P s.heap (mxz σ) (mxu σ) τ H locs → ∀ ls : Array Slot, lv_has ls 2 [(0, .ref v0), (1, .int v1)] → W p l e (mx_rm P 4 101 σ) s m ([.ref a0] : List Value).toArray below meth c H locs (mxz τ - mxz σ) (mxu τ - mxu σ) (mx_Z below G P none σ σ' [.ref a0] s) (F0 m 116 ls []) := by
    intro v0 v1 τ o hf Kb Ke0 H locs hJ ls hl
    unfold f_X4_writeRows_D116_44 at hf
    refine lv_aload_n hx hb dX4_writeRows_116 rfl (lv_at hl 0 rfl) ?_
    refine lv_dup hx hb dX4_writeRows_117 rfl ?_
    obtain ⟨x48, e49, hf⟩ := mb0 hf
    refine my_gI hx hb hts hown hK hJ fd_RX4_81 hv_4_13 e49 dX4_writeRows_118 ?_
    refine lv_iconst (v := 1) hx hb dX4_writeRows_121 (by decide) ?_
    refine lv_iadd hx hb dX4_writeRows_122 ?_
    obtain ⟨σ50, e51, hf⟩ := mb0 hf
    refine my_pI hx hb hts hown hK hJ fd_RX4_81 cd_4 (Or.inl rfl) ht_4_13 e51 dX4_writeRows_123 (fun H locs hJ => ?_)
    exact D126_44 v0 v1 σ50 o hf Kb Ke0 _ _ hJ ls (lv_sub hl [0, 1] rfl)
  have B44 : ∀ (v0 : Nat) (v1 : Int32) (τ : mx_S) (o : (Int32 × mx_S) ⊕ ((mx_S))), f_X4_writeRows_B44 P v0 v1 τ = some o → (∀ (y1 : Int32) (υ : mx_S), o = .inl (y1, υ) → ∀ (H : Heap) (locs : List Loc), mx_J G P s.heap (mxz σ) (mxu σ) υ H locs → ∀ ls : Array Slot, lv_has ls 2 [(0, .ref v0), (1, .int y1)] → W p l e (mx_rm P 4 101 σ) s m ([.ref a0] : List Value).toArray below meth c H locs (mxz υ - mxz σ) (mxu υ - mxu σ) (mx_Z below G P none σ σ' [.ref a0] s) (F0 m 44 ls [])) → (∀  (υ : mx_S), o = .inr υ → ∀ (H : Heap) (locs : List Loc), mx_J G P s.heap (mxz σ) (mxu σ) υ H locs → ∀ ls : Array Slot, lv_has ls 2 [] → W p l e (mx_rm P 4 101 σ) s m ([.ref a0] : List Value).toArray below meth c H locs (mxz υ - mxz σ) (mxu υ - mxu σ) (mx_Z below G P none σ σ' [.ref a0] s) (F0 m 132 ls [])) → ∀ (H : Heap) (locs : List Loc), mx_J G P s.heap (mxz σ) (mxu σ) τ H locs → ∀ ls : Array Slot, lv_has ls 2 [(0, .ref v0), (1, .int v1)] → W p l e (mx_rm P 4 101 σ) s m ([.ref a0] : List Value).toArray below meth c H locs (mxz τ - mxz σ) (mxu τ - mxu σ) (mx_Z below G P none σ σ' [.ref a0] s) (F0 m 44 ls []) := by
    intro v0 v1 τ o hf Kb Ke0 H locs hJ ls hl
    unfold f_X4_writeRows_B44 at hf
    refine lv_iload_n hx hb dX4_writeRows_44 rfl (lv_at hl 1 rfl) ?_
    refine lv_bipush (v := 12) hx hb dX4_writeRows_45 (by decide) ?_
    refine lv_icmp_ge (tgt := 132) hx hb dX4_writeRows_47 (by decide) (fun c23 => ?_) (fun c23 => ?_)
    · rw [if_pos c23] at hf
      exact Ke0 τ (Option.some.inj hf).symm _ _ hJ ls (lv_sub hl [] rfl)
    · rw [if_neg c23] at hf
      refine lv_aload_n hx hb dX4_writeRows_50 rfl (lv_at hl 0 rfl) ?_
      obtain ⟨b24, e25, hf⟩ := mb0 hf
      refine my_gR hx hb hts hown hK hJ fd_RX4_19 hv_4_6 e25 dX4_writeRows_51 ?_
      refine lv_iload_n hx hb dX4_writeRows_54 rfl (lv_at hl 1 rfl) ?_
      obtain ⟨x26, e27, hf⟩ := mb0 hf
      refine mx_aI hx hb hK hJ e27 dX4_writeRows_55 ?_
      refine lv_if_eq (tgt := 126) hx hb dX4_writeRows_56 (by decide) (fun c28 => ?_) (fun c28 => ?_)
      · rw [if_pos c28] at hf
        exact D126_44 v0 v1 τ o hf Kb Ke0 _ _ hJ ls (lv_sub hl [0, 1] rfl)
      · rw [if_neg c28] at hf
        refine lv_aload_n hx hb dX4_writeRows_59 rfl (lv_at hl 0 rfl) ?_
        obtain ⟨i31, e32, hf⟩ := mb0 hf
        obtain ⟨σ33, e34, hf⟩ := mb0 hf
        refine mx_callV (As := []) (rest := []) hx hb hml hts hown hK hJ rfl rfl (ci := 4) rfl e32 (c_X4_emptyRow l G P v0 τ σ33 e34) me_X4_emptyRow kw_833 ks_10 kw_831 (Nat.le_of_ble_eq_true rfl) (Nat.le_of_ble_eq_true rfl) rfl hl.1 rfl (Nat.le_of_ble_eq_true rfl) dX4_writeRows_60 (fun H locs hJ => ?_)
        refine lv_aload_n hx hb dX4_writeRows_63 rfl (lv_at hl 0 rfl) ?_
        obtain ⟨b35, e36, hf⟩ := mb0 hf
        refine my_gR hx hb hts hown hK hJ fd_RX4_33 hv_4_10 e36 dX4_writeRows_64 ?_
        refine lv_aload_n hx hb dX4_writeRows_67 rfl (lv_at hl 0 rfl) ?_
        obtain ⟨x37, e38, hf⟩ := mb0 hf
        refine my_gI hx hb hts hown hK hJ fd_RX4_81 hv_4_13 e38 dX4_writeRows_68 ?_
        obtain ⟨b39, e40, hf⟩ := mb0 hf
        refine mx_aR hx hb hK hJ (t := 7) rfl (fun _ _ _ => rfl) e40 dX4_writeRows_71 ?_
        refine lv_iload_n hx hb dX4_writeRows_72 rfl (lv_at hl 1 rfl) ?_
        refine lv_lconst (v := 1) hx hb dX4_writeRows_73 (by decide) ?_
        obtain ⟨σ41, e42, hf⟩ := mb0 hf
        refine mx_sL hx hb hK hJ e42 dX4_writeRows_74 (fun H locs hJ => ?_)
        refine lv_aload_n hx hb dX4_writeRows_75 rfl (lv_at hl 0 rfl) ?_
        obtain ⟨b43, e44, hf⟩ := mb0 hf
        refine my_gR hx hb hts hown hK hJ fd_RX4_19 hv_4_6 e44 dX4_writeRows_76 ?_
        refine lv_iload_n hx hb dX4_writeRows_79 rfl (lv_at hl 1 rfl) ?_
        obtain ⟨x45, e46, hf⟩ := mb0 hf
        refine mx_aI hx hb hK hJ e46 dX4_writeRows_80 ?_
        refine lv_iconst (v := 2) hx hb dX4_writeRows_81 (by decide) ?_
        refine lv_icmp_ne (tgt := 116) hx hb dX4_writeRows_82 (by decide) (fun c47 => ?_) (fun c47 => ?_)
        · rw [if_neg c47] at hf
          exact D116_44 v0 v1 σ41 o hf Kb Ke0 _ _ hJ ls (lv_sub hl [0, 1] rfl)
        · rw [if_pos c47] at hf
          refine lv_aload_n hx hb dX4_writeRows_85 rfl (lv_at hl 0 rfl) ?_
          obtain ⟨b52, e53, hf⟩ := mb0 hf
          refine my_gR hx hb hts hown hK hJ fd_RX4_52 hv_4_17 e53 dX4_writeRows_86 ?_
          refine lv_aload_n hx hb dX4_writeRows_89 rfl (lv_at hl 0 rfl) ?_
          obtain ⟨b54, e55, hf⟩ := mb0 hf
          refine my_gR hx hb hts hown hK hJ fd_RX4_22 hv_4_7 e55 dX4_writeRows_90 ?_
          refine lv_iload_n hx hb dX4_writeRows_93 rfl (lv_at hl 1 rfl) ?_
          obtain ⟨x56, e57, hf⟩ := mb0 hf
          refine mx_aI hx hb hK hJ e57 dX4_writeRows_94 ?_
          refine lv_i2l hx hb dX4_writeRows_95 rfl ?_
          refine lv_aload_n hx hb dX4_writeRows_96 rfl (lv_at hl 0 rfl) ?_
          obtain ⟨b58, e59, hf⟩ := mb0 hf
          refine my_gR hx hb hts hown hK hJ fd_RX4_25 hv_4_8 e59 dX4_writeRows_97 ?_
          refine lv_iload_n hx hb dX4_writeRows_100 rfl (lv_at hl 1 rfl) ?_
          obtain ⟨x60, e61, hf⟩ := mb0 hf
          refine mx_aI hx hb hK hJ e61 dX4_writeRows_101 ?_
          refine lv_i2l hx hb dX4_writeRows_102 rfl ?_
          obtain ⟨i62, e63, hf⟩ := mb0 hf
          obtain ⟨σ64, e65, hf⟩ := mb0 hf
          refine mx_callV (As := [.long (x56.toInt64), .long (x60.toInt64)]) (rest := []) hx hb hml hts hown hK hJ rfl rfl (ci := 3) rfl e63 (c_X3_set l G P b52 (x56.toInt64) (x60.toInt64) σ41 σ64 e65) me_X3_set kw_843 kw_844 kw_842 (Nat.le_of_ble_eq_true rfl) (Nat.le_of_ble_eq_true rfl) rfl hl.1 rfl (Nat.le_of_ble_eq_true rfl) dX4_writeRows_103 (fun H locs hJ => ?_)
          refine lv_aload_n hx hb dX4_writeRows_106 rfl (lv_at hl 0 rfl) ?_
          refine lv_aload_n hx hb dX4_writeRows_107 rfl (lv_at hl 0 rfl) ?_
          obtain ⟨x66, e67, hf⟩ := mb0 hf
          refine my_gI hx hb hts hown hK hJ fd_RX4_81 hv_4_13 e67 dX4_writeRows_108 ?_
          refine lv_bipush (v := 12) hx hb dX4_writeRows_111 (by decide) ?_
          obtain ⟨i68, e69, hf⟩ := mb0 hf
          obtain ⟨σ70, e71, hf⟩ := mb0 hf
          refine mx_callV (As := [.int x66, .int (12 : Int32)]) (rest := []) hx hb hml hts hown hK hJ rfl rfl (ci := 4) rfl e69 (c_X4_writeCell l G P v0 x66 (12 : Int32) σ64 σ70 e71) me_X4_writeCell kw_858 ks_13 kw_856 (Nat.le_of_ble_eq_true rfl) (Nat.le_of_ble_eq_true rfl) rfl hl.1 rfl (Nat.le_of_ble_eq_true rfl) dX4_writeRows_113 (fun H locs hJ => ?_)
          exact D116_44 v0 v1 σ70 o hf Kb Ke0 _ _ hJ ls (lv_sub hl [0, 1] rfl)
  have L44 : ∀ (v0 : Nat) (n : Nat) (v1 : Int32) (τ : mx_S) (o : (mx_S)), mx_lp (f_X4_writeRows_L44 P v0) n (v1, τ) = some o → (∀  (υ : mx_S), o = υ → ∀ (H : Heap) (locs : List Loc), mx_J G P s.heap (mxz σ) (mxu σ) υ H locs → ∀ ls : Array Slot, lv_has ls 2 [] → W p l e (mx_rm P 4 101 σ) s m ([.ref a0] : List Value).toArray below meth c H locs (mxz υ - mxz σ) (mxu υ - mxu σ) (mx_Z below G P none σ σ' [.ref a0] s) (F0 m 132 ls [])) → ∀ (H : Heap) (locs : List Loc), mx_J G P s.heap (mxz σ) (mxu σ) τ H locs → ∀ ls : Array Slot, lv_has ls 2 [(0, .ref v0), (1, .int v1)] → W p l e (mx_rm P 4 101 σ) s m ([.ref a0] : List Value).toArray below meth c H locs (mxz τ - mxz σ) (mxu τ - mxu σ) (mx_Z below G P none σ σ' [.ref a0] s) (F0 m 44 ls []) := by
    intro v0 n
    induction n with
    | zero =>
      intro v1 τ o hf
      rw [mx_lp0] at hf
      cases hf
    | succ n ih =>
      intro v1 τ o hf Ke0 H locs hJ ls hl
      rw [mx_lpS] at hf
      obtain ⟨b, eb, hf⟩ := mb0 hf
      refine B44 v0 v1 τ b eb (fun y1 υ ho H locs hJ ls hl => ?_) (fun  υ ho H locs hJ ls hl => ?_) H locs hJ ls hl
      · subst ho
        exact ih y1 υ o hf Ke0 H locs hJ ls hl
      · subst ho
        exact Ke0  υ (Option.some.inj hf).symm _ _ hJ ls hl
  unfold f_X4_writeRows at hf
  refine lv_aload_n hx hb dX4_writeRows_0 rfl (lv_at hl 0 rfl) ?_
  refine lv_iconst (v := 0) hx hb dX4_writeRows_1 (by decide) ?_
  obtain ⟨σ1, e2, hf⟩ := mb0 hf
  refine my_pI hx hb hts hown hK hJ fd_RX4_81 cd_4 (Or.inl rfl) ht_4_13 e2 dX4_writeRows_2 (fun H locs hJ => ?_)
  refine lv_iconst (v := 0) hx hb dX4_writeRows_5 (by decide) ?_
  refine lv_istore_n (lv' := [(1, .int (0 : Int32)), (0, .ref a0)]) hx hb dX4_writeRows_6 rfl hl (by decide) rfl (fun ls hl => ?_)
  obtain ⟨o20, e21, hf⟩ := mb0 hf
  refine L7 a0 (mpN P) (0 : Int32) σ1 o20 e21 (fun σ22 ho H locs hJ ls hl => ?_) _ _ hJ ls (lv_sub hl [1, 0] rfl)
  · rw [ho] at hf
    have hf : ((mx_lp (f_X4_writeRows_L44 P a0) (mpN P) ((0 : Int32), σ22)).bind (fun t => (fun σ74 => some σ74) t)) = some σ' := hf
    refine lv_iconst (v := 0) hx hb dX4_writeRows_42 (by decide) ?_
    refine lv_istore_n (lv' := [(1, .int (0 : Int32)), (0, .ref a0)]) hx hb dX4_writeRows_43 rfl hl (by decide) rfl (fun ls hl => ?_)
    obtain ⟨o72, e73, hf⟩ := mb0 hf
    refine L44 a0 (mpN P) (0 : Int32) σ22 o72 e73 (fun σ74 ho H locs hJ ls hl => ?_) _ _ hJ ls (lv_sub hl [1, 0] rfl)
    · rw [ho] at hf
      have hf : (some σ74) = some σ' := hf
      exact my_vret hx hb hr hlocks hJ hf dX4_writeRows_132
set_option maxHeartbeats 4000000 in
set_option maxRecDepth 100000 in
theorem c_X4_firstWith (l : Launch) (G : mx_G) (P : mx_P) (a0 : Nat) (p1 : Int32) (p2 : Int32) (σ : mx_S) (r : Int32) (σ' : mx_S) (hf : f_X4_firstWith P a0 p1 p2 σ = some (r, σ')) : mxz σ ≤ mpc P → mxu σ ≤ mps P → mx_M l yX4_firstWith cX4_firstWith 4 (some .int) 0 0 G P [.ref a0, .int p1, .int p2] σ (some (.int r)) σ' := by
  intro hcap hcau
  refine mx_ofW (by decide +kernel) hcap hcau (Nat.le_of_ble_eq_true rfl) ?_
  intro p e s m below meth c hx hb hr hml hts hown hlocks hname hK hJ ls hl
  have hz0 := hJ.2.1
  have hown : s.vm.findClass RX4 = some m.cls := hown
  have hl : lv_has ls 4 [(0, .ref a0), (1, .int p1), (2, .int p2)] := hl
  have B2 : ∀ (v0 : Nat) (v1 : Int32) (v3 : Int32) (τ : mx_S) (o : (Int32 × mx_S) ⊕ ((Int32 × mx_S) ⊕ (mx_S))), f_X4_firstWith_B2 P v0 v1 v3 τ = some o → (∀ (y3 : Int32) (υ : mx_S), o = .inl (y3, υ) → ∀ (H : Heap) (locs : List Loc), mx_J G P s.heap (mxz σ) (mxu σ) υ H locs → ∀ ls : Array Slot, lv_has ls 4 [(0, .ref v0), (1, .int v1), (3, .int y3)] → W p l e (mx_rm P 0 0 σ) s m ([.ref a0, .int p1, .int p2] : List Value).toArray below meth c H locs (mxz υ - mxz σ) (mxu υ - mxu σ) (mx_Z below G P (some (.int r)) σ σ' [.ref a0, .int p1, .int p2] s) (F0 m 2 ls [])) → (∀ (y3 : Int32) (υ : mx_S), o = .inr (.inl (y3, υ)) → ∀ (H : Heap) (locs : List Loc), mx_J G P s.heap (mxz σ) (mxu σ) υ H locs → ∀ ls : Array Slot, lv_has ls 4 [(3, .int y3)] → W p l e (mx_rm P 0 0 σ) s m ([.ref a0, .int p1, .int p2] : List Value).toArray below meth c H locs (mxz υ - mxz σ) (mxu υ - mxu σ) (mx_Z below G P (some (.int r)) σ σ' [.ref a0, .int p1, .int p2] s) (F0 m 23 ls [])) → (∀  (υ : mx_S), o = .inr (.inr υ) → ∀ (H : Heap) (locs : List Loc), mx_J G P s.heap (mxz σ) (mxu σ) υ H locs → ∀ ls : Array Slot, lv_has ls 4 [] → W p l e (mx_rm P 0 0 σ) s m ([.ref a0, .int p1, .int p2] : List Value).toArray below meth c H locs (mxz υ - mxz σ) (mxu υ - mxu σ) (mx_Z below G P (some (.int r)) σ σ' [.ref a0, .int p1, .int p2] s) (F0 m 31 ls [])) → ∀ (H : Heap) (locs : List Loc), mx_J G P s.heap (mxz σ) (mxu σ) τ H locs → ∀ ls : Array Slot, lv_has ls 4 [(0, .ref v0), (1, .int v1), (3, .int v3)] → W p l e (mx_rm P 0 0 σ) s m ([.ref a0, .int p1, .int p2] : List Value).toArray below meth c H locs (mxz τ - mxz σ) (mxu τ - mxu σ) (mx_Z below G P (some (.int r)) σ σ' [.ref a0, .int p1, .int p2] s) (F0 m 2 ls []) := by
    intro v0 v1 v3 τ o hf Kb Ke0 Ke1 H locs hJ ls hl
    unfold f_X4_firstWith_B2 at hf
    refine lv_iload_n hx hb dX4_firstWith_2 rfl (lv_at hl 2 rfl) ?_
    refine lv_aload_n hx hb dX4_firstWith_3 rfl (lv_at hl 0 rfl) ?_
    obtain ⟨x1, e2, hf⟩ := mb0 hf
    refine my_gI hx hb hts hown hK hJ fd_RX4_81 hv_4_13 e2 dX4_firstWith_4 ?_
    refine lv_icmp_ge (tgt := 31) hx hb dX4_firstWith_7 (by decide) (fun c3 => ?_) (fun c3 => ?_)
    · rw [if_pos c3] at hf
      exact Ke1 τ (Option.some.inj hf).symm _ _ hJ ls (lv_sub hl [] rfl)
    · rw [if_neg c3] at hf
      refine lv_aload_n hx hb dX4_firstWith_10 rfl (lv_at hl 0 rfl) ?_
      obtain ⟨b4, e5, hf⟩ := mb0 hf
      refine my_gR hx hb hts hown hK hJ fd_RX4_33 hv_4_10 e5 dX4_firstWith_11 ?_
      refine lv_iload_n hx hb dX4_firstWith_14 rfl (lv_at hl 2 rfl) ?_
      obtain ⟨b6, e7, hf⟩ := mb0 hf
      refine mx_aR hx hb hK hJ (t := 7) rfl (fun _ _ _ => rfl) e7 dX4_firstWith_15 ?_
      refine lv_iload_n hx hb dX4_firstWith_16 rfl (lv_at hl 1 rfl) ?_
      obtain ⟨x8, e9, hf⟩ := mb0 hf
      refine mx_aL hx hb hK hJ e9 dX4_firstWith_17 ?_
      refine lv_lconst (v := 0) hx hb dX4_firstWith_18 (by decide) ?_
      refine W.lcmp hx hb dX4_firstWith_19 ?_
      refine lv_if_eq (tgt := 25) hx hb dX4_firstWith_20 (by decide) (fun c10 => ?_) (fun c10 => ?_)
      · rw [if_pos c10] at hf
        obtain ⟨x11, e12, hf⟩ := mb0 hf
        refine lv_iinc (v := x11) (lv' := [(3, .int x11), (0, .ref v0), (1, .int v1)]) hx hb dX4_firstWith_25 hl (k := 2) rfl (by rw [← Option.some.inj e12]; rfl) (by decide) rfl (fun ls hl => ?_)
        refine lv_goto (tgt := 2) hx hb dX4_firstWith_28 (by decide) ?_
        exact Kb x11 τ (Option.some.inj hf).symm _ _ hJ ls (lv_sub hl [1, 2, 0] rfl)
      · rw [if_neg c10] at hf
        exact Ke0 v3 τ (Option.some.inj hf).symm _ _ hJ ls (lv_sub hl [2] rfl)
  have L2 : ∀ (v0 : Nat) (v1 : Int32) (n : Nat) (v3 : Int32) (τ : mx_S) (o : (Int32 × mx_S) ⊕ (mx_S)), mx_lp (f_X4_firstWith_L2 P v0 v1) n (v3, τ) = some o → (∀ (y3 : Int32) (υ : mx_S), o = (.inl (y3, υ)) → ∀ (H : Heap) (locs : List Loc), mx_J G P s.heap (mxz σ) (mxu σ) υ H locs → ∀ ls : Array Slot, lv_has ls 4 [(3, .int y3)] → W p l e (mx_rm P 0 0 σ) s m ([.ref a0, .int p1, .int p2] : List Value).toArray below meth c H locs (mxz υ - mxz σ) (mxu υ - mxu σ) (mx_Z below G P (some (.int r)) σ σ' [.ref a0, .int p1, .int p2] s) (F0 m 23 ls [])) → (∀  (υ : mx_S), o = (.inr υ) → ∀ (H : Heap) (locs : List Loc), mx_J G P s.heap (mxz σ) (mxu σ) υ H locs → ∀ ls : Array Slot, lv_has ls 4 [] → W p l e (mx_rm P 0 0 σ) s m ([.ref a0, .int p1, .int p2] : List Value).toArray below meth c H locs (mxz υ - mxz σ) (mxu υ - mxu σ) (mx_Z below G P (some (.int r)) σ σ' [.ref a0, .int p1, .int p2] s) (F0 m 31 ls [])) → ∀ (H : Heap) (locs : List Loc), mx_J G P s.heap (mxz σ) (mxu σ) τ H locs → ∀ ls : Array Slot, lv_has ls 4 [(0, .ref v0), (1, .int v1), (3, .int v3)] → W p l e (mx_rm P 0 0 σ) s m ([.ref a0, .int p1, .int p2] : List Value).toArray below meth c H locs (mxz τ - mxz σ) (mxu τ - mxu σ) (mx_Z below G P (some (.int r)) σ σ' [.ref a0, .int p1, .int p2] s) (F0 m 2 ls []) := by
    intro v0 v1 n
    induction n with
    | zero =>
      intro v3 τ o hf
      rw [mx_lp0] at hf
      cases hf
    | succ n ih =>
      intro v3 τ o hf Ke0 Ke1 H locs hJ ls hl
      rw [mx_lpS] at hf
      obtain ⟨b, eb, hf⟩ := mb0 hf
      refine B2 v0 v1 v3 τ b eb (fun y3 υ ho H locs hJ ls hl => ?_) (fun y3 υ ho H locs hJ ls hl => ?_) (fun  υ ho H locs hJ ls hl => ?_) H locs hJ ls hl
      · subst ho
        exact ih y3 υ o hf Ke0 Ke1 H locs hJ ls hl
      · subst ho
        exact Ke0 y3 υ (Option.some.inj hf).symm _ _ hJ ls hl
      · subst ho
        exact Ke1  υ (Option.some.inj hf).symm _ _ hJ ls hl
  unfold f_X4_firstWith at hf
  refine lv_iload_n hx hb dX4_firstWith_0 rfl (lv_at hl 2 rfl) ?_
  refine lv_istore_n (lv' := [(3, .int p2), (0, .ref a0), (1, .int p1), (2, .int p2)]) hx hb dX4_firstWith_1 rfl hl (by decide) rfl (fun ls hl => ?_)
  obtain ⟨o13, e14, hf⟩ := mb0 hf
  refine L2 a0 p1 (mpN P) p2 σ o13 e14 (fun y15 σ16 ho H locs hJ ls hl => ?_) (fun σ17 ho H locs hJ ls hl => ?_) _ _ hJ ls (lv_sub hl [1, 2, 0] rfl)
  · rw [ho] at hf
    have hf : (some (y15, σ16)) = some (r, σ') := hf
    refine lv_iload_n hx hb dX4_firstWith_23 rfl (lv_at hl 0 rfl) ?_
    exact my_iret hx hb hr hlocks hJ hf dX4_firstWith_24
  · rw [ho] at hf
    have hf : (some ((-1 : Int32), σ17)) = some (r, σ') := hf
    refine lv_iconst (v := (-1)) hx hb dX4_firstWith_31 (by decide) ?_
    exact my_iret hx hb hr hlocks hJ hf dX4_firstWith_32
set_option maxHeartbeats 4000000 in
set_option maxRecDepth 100000 in
theorem c_X4_changePlaces (l : Launch) (G : mx_G) (P : mx_P) (a0 : Nat) (p1 : Int32) (p2 : Int32) (σ : mx_S) (σ' : mx_S) (hf : f_X4_changePlaces P a0 p1 p2 σ = some σ') : mxz σ ≤ mpc P → mxu σ ≤ mps P → mx_M l yX4_changePlaces cX4_changePlaces 4 none 0 0 G P [.ref a0, .int p1, .int p2] σ none σ' := by
  intro hcap hcau
  refine mx_ofW (by decide +kernel) hcap hcau (Nat.le_of_ble_eq_true rfl) ?_
  intro p e s m below meth c hx hb hr hml hts hown hlocks hname hK hJ ls hl
  have hz0 := hJ.2.1
  have hown : s.vm.findClass RX4 = some m.cls := hown
  have hl : lv_has ls 4 [(0, .ref a0), (1, .int p1), (2, .int p2)] := hl
  unfold f_X4_changePlaces at hf
  refine lv_aload_n hx hb dX4_changePlaces_0 rfl (lv_at hl 0 rfl) ?_
  obtain ⟨b1, e2, hf⟩ := mb0 hf
  refine my_gR hx hb hts hown hK hJ fd_RX4_33 hv_4_10 e2 dX4_changePlaces_1 ?_
  refine lv_iload_n hx hb dX4_changePlaces_4 rfl (lv_at hl 1 rfl) ?_
  obtain ⟨b3, e4, hf⟩ := mb0 hf
  refine mx_aR hx hb hK hJ (t := 7) rfl (fun _ _ _ => rfl) e4 dX4_changePlaces_5 ?_
  refine lv_astore_n (lv' := [(3, .ref b3), (0, .ref a0), (1, .int p1), (2, .int p2)]) hx hb dX4_changePlaces_6 rfl hl (by decide) rfl (fun ls hl => ?_)
  refine lv_aload_n hx hb dX4_changePlaces_7 rfl (lv_at hl 1 rfl) ?_
  obtain ⟨b5, e6, hf⟩ := mb0 hf
  refine my_gR hx hb hts hown hK hJ fd_RX4_33 hv_4_10 e6 dX4_changePlaces_8 ?_
  refine lv_iload_n hx hb dX4_changePlaces_11 rfl (lv_at hl 2 rfl) ?_
  refine lv_aload_n hx hb dX4_changePlaces_12 rfl (lv_at hl 1 rfl) ?_
  obtain ⟨b7, e8, hf⟩ := mb0 hf
  refine my_gR hx hb hts hown hK hJ fd_RX4_33 hv_4_10 e8 dX4_changePlaces_13 ?_
  refine lv_iload_n hx hb dX4_changePlaces_16 rfl (lv_at hl 3 rfl) ?_
  obtain ⟨b9, e10, hf⟩ := mb0 hf
  refine mx_aR hx hb hK hJ (t := 7) rfl (fun _ _ _ => rfl) e10 dX4_changePlaces_17 ?_
  obtain ⟨σ11, e12, hf⟩ := mb0 hf
  refine mx_sQ hx hb hK hJ e12 dX4_changePlaces_18 (fun H locs hJ => ?_)
  refine lv_aload_n hx hb dX4_changePlaces_19 rfl (lv_at hl 1 rfl) ?_
  obtain ⟨b13, e14, hf⟩ := mb0 hf
  refine my_gR hx hb hts hown hK hJ fd_RX4_33 hv_4_10 e14 dX4_changePlaces_20 ?_
  refine lv_iload_n hx hb dX4_changePlaces_23 rfl (lv_at hl 3 rfl) ?_
  refine lv_aload_n hx hb dX4_changePlaces_24 rfl (lv_at hl 0 rfl) ?_
  obtain ⟨σ15, e16, hf⟩ := mb0 hf
  refine mx_sQ hx hb hK hJ e16 dX4_changePlaces_25 (fun H locs hJ => ?_)
  refine lv_aload_n hx hb dX4_changePlaces_26 rfl (lv_at hl 1 rfl) ?_
  obtain ⟨b17, e18, hf⟩ := mb0 hf
  refine my_gR hx hb hts hown hK hJ fd_RX4_36 hv_4_11 e18 dX4_changePlaces_27 ?_
  refine lv_iload_n hx hb dX4_changePlaces_30 rfl (lv_at hl 2 rfl) ?_
  obtain ⟨b19, e20, hf⟩ := mb0 hf
  refine mx_aR hx hb hK hJ (t := 7) rfl (fun _ _ _ => rfl) e20 dX4_changePlaces_31 ?_
  refine lv_astore_n (lv' := [(3, .ref b19), (0, .ref a0), (1, .int p1), (2, .int p2)]) hx hb dX4_changePlaces_32 rfl hl (by decide) rfl (fun ls hl => ?_)
  refine lv_aload_n hx hb dX4_changePlaces_33 rfl (lv_at hl 1 rfl) ?_
  obtain ⟨b21, e22, hf⟩ := mb0 hf
  refine my_gR hx hb hts hown hK hJ fd_RX4_36 hv_4_11 e22 dX4_changePlaces_34 ?_
  refine lv_iload_n hx hb dX4_changePlaces_37 rfl (lv_at hl 2 rfl) ?_
  refine lv_aload_n hx hb dX4_changePlaces_38 rfl (lv_at hl 1 rfl) ?_
  obtain ⟨b23, e24, hf⟩ := mb0 hf
  refine my_gR hx hb hts hown hK hJ fd_RX4_36 hv_4_11 e24 dX4_changePlaces_39 ?_
  refine lv_iload_n hx hb dX4_changePlaces_42 rfl (lv_at hl 3 rfl) ?_
  obtain ⟨b25, e26, hf⟩ := mb0 hf
  refine mx_aR hx hb hK hJ (t := 7) rfl (fun _ _ _ => rfl) e26 dX4_changePlaces_43 ?_
  obtain ⟨σ27, e28, hf⟩ := mb0 hf
  refine mx_sQ hx hb hK hJ e28 dX4_changePlaces_44 (fun H locs hJ => ?_)
  refine lv_aload_n hx hb dX4_changePlaces_45 rfl (lv_at hl 1 rfl) ?_
  obtain ⟨b29, e30, hf⟩ := mb0 hf
  refine my_gR hx hb hts hown hK hJ fd_RX4_36 hv_4_11 e30 dX4_changePlaces_46 ?_
  refine lv_iload_n hx hb dX4_changePlaces_49 rfl (lv_at hl 3 rfl) ?_
  refine lv_aload_n hx hb dX4_changePlaces_50 rfl (lv_at hl 0 rfl) ?_
  obtain ⟨σ31, e32, hf⟩ := mb0 hf
  refine mx_sQ hx hb hK hJ e32 dX4_changePlaces_51 (fun H locs hJ => ?_)
  exact my_vret hx hb hr hlocks hJ hf dX4_changePlaces_52
set_option maxHeartbeats 4000000 in
set_option maxRecDepth 100000 in
theorem c_X4_readCell (l : Launch) (G : mx_G) (P : mx_P) (a0 : Nat) (a1 : Nat) (p2 : Int32) (p3 : Int32) (σ : mx_S) (σ' : mx_S) (hf : f_X4_readCell P a0 a1 p2 p3 σ = some σ') : mxz σ ≤ mpc P → mxu σ ≤ mps P → mx_M l yX4_readCell cX4_readCell 4 none 0 0 G P [.ref a0, .ref a1, .int p2, .int p3] σ none σ' := by
  intro hcap hcau
  refine mx_ofW (by decide +kernel) hcap hcau (Nat.le_of_ble_eq_true rfl) ?_
  intro p e s m below meth c hx hb hr hml hts hown hlocks hname hK hJ ls hl
  have hz0 := hJ.2.1
  have hown : s.vm.findClass RX4 = some m.cls := hown
  have hl : lv_has ls 4 [(0, .ref a0), (1, .ref a1), (2, .int p2), (3, .int p3)] := hl
  unfold f_X4_readCell at hf
  refine lv_aload_n hx hb dX4_readCell_0 rfl (lv_at hl 1 rfl) ?_
  refine lv_aload_n hx hb dX4_readCell_1 rfl (lv_at hl 0 rfl) ?_
  obtain ⟨b1, e2, hf⟩ := mb0 hf
  refine my_gR hx hb hts hown hK hJ fd_RX4_33 hv_4_10 e2 dX4_readCell_2 ?_
  refine lv_iload_n hx hb dX4_readCell_5 rfl (lv_at hl 2 rfl) ?_
  obtain ⟨b3, e4, hf⟩ := mb0 hf
  refine mx_aR hx hb hK hJ (t := 7) rfl (fun _ _ _ => rfl) e4 dX4_readCell_6 ?_
  refine lv_iload_n hx hb dX4_readCell_7 rfl (lv_at hl 3 rfl) ?_
  obtain ⟨x5, e6, hf⟩ := mb0 hf
  refine mx_aL hx hb hK hJ e6 dX4_readCell_8 ?_
  obtain ⟨σ7, e8, hf⟩ := mb0 hf
  refine my_pL hx hb hts hown hK hJ fd_RX4_102 cd_3 (Or.inl rfl) ht_3_0 e8 dX4_readCell_9 (fun H locs hJ => ?_)
  refine lv_aload_n hx hb dX4_readCell_12 rfl (lv_at hl 1 rfl) ?_
  refine lv_aload_n hx hb dX4_readCell_13 rfl (lv_at hl 0 rfl) ?_
  obtain ⟨b9, e10, hf⟩ := mb0 hf
  refine my_gR hx hb hts hown hK hJ fd_RX4_36 hv_4_11 e10 dX4_readCell_14 ?_
  refine lv_iload_n hx hb dX4_readCell_17 rfl (lv_at hl 2 rfl) ?_
  obtain ⟨b11, e12, hf⟩ := mb0 hf
  refine mx_aR hx hb hK hJ (t := 7) rfl (fun _ _ _ => rfl) e12 dX4_readCell_18 ?_
  refine lv_iload_n hx hb dX4_readCell_19 rfl (lv_at hl 3 rfl) ?_
  obtain ⟨x13, e14, hf⟩ := mb0 hf
  refine mx_aL hx hb hK hJ e14 dX4_readCell_20 ?_
  obtain ⟨σ15, e16, hf⟩ := mb0 hf
  refine my_pL hx hb hts hown hK hJ fd_RX4_106 cd_3 (Or.inl rfl) ht_3_1 e16 dX4_readCell_21 (fun H locs hJ => ?_)
  refine lv_aload_n hx hb dX4_readCell_24 rfl (lv_at hl 1 rfl) ?_
  refine lv_iconst (v := 0) hx hb dX4_readCell_25 (by decide) ?_
  obtain ⟨σ17, e18, hf⟩ := mb0 hf
  refine my_pZ hx hb hts hown hK hJ fd_RX4_109 cd_3 (Or.inl rfl) ht_3_2 e18 dX4_readCell_26 (fun H locs hJ => ?_)
  exact my_vret hx hb hr hlocks hJ hf dX4_readCell_29
set_option maxHeartbeats 4000000 in
set_option maxRecDepth 100000 in
theorem c_X4_isDivided (l : Launch) (G : mx_G) (P : mx_P) (a0 : Nat) (p1 : Int32) (p2 : Int32) (σ : mx_S) (r : Int32) (σ' : mx_S) (hf : f_X4_isDivided P a0 p1 p2 σ = some (r, σ')) : mxz σ ≤ mpc P → mxu σ ≤ mps P → mx_M l yX4_isDivided cX4_isDivided 8 (some .boolean) 3 83 G P [.ref a0, .int p1, .int p2] σ (some (.int r)) σ' := by
  intro hcap hcau
  refine mx_ofW (by decide +kernel) hcap hcau (Nat.le_of_ble_eq_true rfl) ?_
  intro p e s m below meth c hx hb hr hml hts hown hlocks hname hK hJ ls hl
  have hz0 := hJ.2.1
  have hown : s.vm.findClass RX4 = some m.cls := hown
  have hl : lv_has ls 8 [(0, .ref a0), (1, .int p1), (2, .int p2)] := hl
  have B50 : ∀ (v0 : Nat) (v1 : Int32) (v3 : Int64) (v5 : Int64) (v7 : Int32) (τ : mx_S) (o : (Int32 × mx_S) ⊕ ((mx_S) ⊕ (mx_S))), f_X4_isDivided_B50 P v0 v1 v3 v5 v7 τ = some o → (∀ (y7 : Int32) (υ : mx_S), o = .inl (y7, υ) → ∀ (H : Heap) (locs : List Loc), mx_J G P s.heap (mxz σ) (mxu σ) υ H locs → ∀ ls : Array Slot, lv_has ls 8 [(0, .ref v0), (1, .int v1), (3, .long v3), (5, .long v5), (7, .int y7)] → W p l e (mx_rm P 3 83 σ) s m ([.ref a0, .int p1, .int p2] : List Value).toArray below meth c H locs (mxz υ - mxz σ) (mxu υ - mxu σ) (mx_Z below G P (some (.int r)) σ σ' [.ref a0, .int p1, .int p2] s) (F0 m 50 ls [])) → (∀  (υ : mx_S), o = .inr (.inl υ) → ∀ (H : Heap) (locs : List Loc), mx_J G P s.heap (mxz σ) (mxu σ) υ H locs → ∀ ls : Array Slot, lv_has ls 8 [] → W p l e (mx_rm P 3 83 σ) s m ([.ref a0, .int p1, .int p2] : List Value).toArray below meth c H locs (mxz υ - mxz σ) (mxu υ - mxu σ) (mx_Z below G P (some (.int r)) σ σ' [.ref a0, .int p1, .int p2] s) (F0 m 88 ls [])) → (∀  (υ : mx_S), o = .inr (.inr υ) → ∀ (H : Heap) (locs : List Loc), mx_J G P s.heap (mxz σ) (mxu σ) υ H locs → ∀ ls : Array Slot, lv_has ls 8 [] → W p l e (mx_rm P 3 83 σ) s m ([.ref a0, .int p1, .int p2] : List Value).toArray below meth c H locs (mxz υ - mxz σ) (mxu υ - mxu σ) (mx_Z below G P (some (.int r)) σ σ' [.ref a0, .int p1, .int p2] s) (F0 m 103 ls [])) → ∀ (H : Heap) (locs : List Loc), mx_J G P s.heap (mxz σ) (mxu σ) τ H locs → ∀ ls : Array Slot, lv_has ls 8 [(0, .ref v0), (1, .int v1), (3, .long v3), (5, .long v5), (7, .int v7)] → W p l e (mx_rm P 3 83 σ) s m ([.ref a0, .int p1, .int p2] : List Value).toArray below meth c H locs (mxz τ - mxz σ) (mxu τ - mxu σ) (mx_Z below G P (some (.int r)) σ σ' [.ref a0, .int p1, .int p2] s) (F0 m 50 ls []) := by
    intro v0 v1 v3 v5 v7 τ o hf Kb Ke0 Ke1 H locs hJ ls hl
    unfold f_X4_isDivided_B50 at hf
    refine lv_iload hx hb dX4_isDivided_50 (lv_at hl 4 rfl) ?_
    refine lv_bipush (v := 12) hx hb dX4_isDivided_52 (by decide) ?_
    refine lv_icmp_gt (tgt := 103) hx hb dX4_isDivided_54 (by decide) (fun c23 => ?_) (fun c23 => ?_)
    · rw [if_pos c23] at hf
      exact Ke1 τ (Option.some.inj hf).symm _ _ hJ ls (lv_sub hl [] rfl)
    · rw [if_neg c23] at hf
      refine lv_aload_n hx hb dX4_isDivided_57 rfl (lv_at hl 0 rfl) ?_
      refine lv_aload_n hx hb dX4_isDivided_58 rfl (lv_at hl 0 rfl) ?_
      obtain ⟨b24, e25, hf⟩ := mb0 hf
      refine my_gR hx hb hts hown hK hJ fd_RX4_52 hv_4_17 e25 dX4_isDivided_59 ?_
      refine lv_iload_n hx hb dX4_isDivided_62 rfl (lv_at hl 1 rfl) ?_
      refine lv_iload hx hb dX4_isDivided_63 (lv_at hl 4 rfl) ?_
      obtain ⟨i26, e27, hf⟩ := mb0 hf
      obtain ⟨σ28, e29, hf⟩ := mb0 hf
      refine mx_callV (As := [.ref b24, .int v1, .int v7]) (rest := []) hx hb hml hts hown hK hJ rfl rfl (ci := 4) rfl e27 (c_X4_readCell l G P v0 b24 v1 v7 τ σ28 e29) me_X4_readCell kw_879 ks_18 kw_877 (Nat.le_of_ble_eq_true rfl) (Nat.le_of_ble_eq_true rfl) rfl hl.1 rfl (Nat.le_of_ble_eq_true rfl) dX4_isDivided_65 (fun H locs hJ => ?_)
      refine lv_aload_n hx hb dX4_isDivided_68 rfl (lv_at hl 0 rfl) ?_
      obtain ⟨b30, e31, hf⟩ := mb0 hf
      refine my_gR hx hb hts hown hK hJ fd_RX4_52 hv_4_17 e31 dX4_isDivided_69 ?_
      refine lv_lload_n hx hb dX4_isDivided_72 rfl (lv_at hl 2 rfl) ?_
      refine lv_lload hx hb dX4_isDivided_73 (lv_at hl 3 rfl) ?_
      obtain ⟨i32, e33, hf⟩ := mb0 hf
      obtain ⟨σ34, e35, hf⟩ := mb0 hf
      refine mx_callV (As := [.long v3, .long v5]) (rest := []) hx hb hml hts hown hK hJ rfl rfl (ci := 3) rfl e33 (c_X3_times l G P b30 v3 v5 σ28 σ34 e35) me_X3_times kw_882 kw_883 kw_881 (Nat.le_of_ble_eq_true rfl) (Nat.le_of_ble_eq_true rfl) rfl hl.1 rfl (Nat.le_of_ble_eq_true rfl) dX4_isDivided_75 (fun H locs hJ => ?_)
      refine lv_aload_n hx hb dX4_isDivided_78 rfl (lv_at hl 0 rfl) ?_
      obtain ⟨b36, e37, hf⟩ := mb0 hf
      refine my_gR hx hb hts hown hK hJ fd_RX4_52 hv_4_17 e37 dX4_isDivided_79 ?_
      obtain ⟨x38, e39, hf⟩ := mb0 hf
      refine my_gI hx hb hts hown hK hJ fd_RX4_109 hv_3_2 e39 dX4_isDivided_82 ?_
      refine lv_if_eq (tgt := 90) hx hb dX4_isDivided_85 (by decide) (fun c40 => ?_) (fun c40 => ?_)
      · rw [if_pos c40] at hf
        refine lv_aload_n hx hb dX4_isDivided_90 rfl (lv_at hl 0 rfl) ?_
        refine lv_iload_n hx hb dX4_isDivided_91 rfl (lv_at hl 1 rfl) ?_
        refine lv_iload hx hb dX4_isDivided_92 (lv_at hl 4 rfl) ?_
        obtain ⟨i41, e42, hf⟩ := mb0 hf
        obtain ⟨σ43, e44, hf⟩ := mb0 hf
        refine mx_callV (As := [.int v1, .int v7]) (rest := []) hx hb hml hts hown hK hJ rfl rfl (ci := 4) rfl e42 (c_X4_writeCell l G P v0 v1 v7 σ34 σ43 e44) me_X4_writeCell kw_858 ks_13 kw_856 (Nat.le_of_ble_eq_true rfl) (Nat.le_of_ble_eq_true rfl) rfl hl.1 rfl (Nat.le_of_ble_eq_true rfl) dX4_isDivided_94 (fun H locs hJ => ?_)
        obtain ⟨x45, e46, hf⟩ := mb0 hf
        refine lv_iinc (v := x45) (lv' := [(7, .int x45), (0, .ref v0), (1, .int v1), (3, .long v3), (5, .long v5)]) hx hb dX4_isDivided_97 hl (k := 4) rfl (by rw [← Option.some.inj e46]; rfl) (by decide) rfl (fun ls hl => ?_)
        refine lv_goto (tgt := 50) hx hb dX4_isDivided_100 (by decide) ?_
        exact Kb x45 σ43 (Option.some.inj hf).symm _ _ hJ ls (lv_sub hl [1, 2, 3, 4, 0] rfl)
      · rw [if_neg c40] at hf
        exact Ke0 σ34 (Option.some.inj hf).symm _ _ hJ ls (lv_sub hl [] rfl)
  have L50 : ∀ (v0 : Nat) (v1 : Int32) (v3 : Int64) (v5 : Int64) (n : Nat) (v7 : Int32) (τ : mx_S) (o : (mx_S) ⊕ (mx_S)), mx_lp (f_X4_isDivided_L50 P v0 v1 v3 v5) n (v7, τ) = some o → (∀  (υ : mx_S), o = (.inl υ) → ∀ (H : Heap) (locs : List Loc), mx_J G P s.heap (mxz σ) (mxu σ) υ H locs → ∀ ls : Array Slot, lv_has ls 8 [] → W p l e (mx_rm P 3 83 σ) s m ([.ref a0, .int p1, .int p2] : List Value).toArray below meth c H locs (mxz υ - mxz σ) (mxu υ - mxu σ) (mx_Z below G P (some (.int r)) σ σ' [.ref a0, .int p1, .int p2] s) (F0 m 88 ls [])) → (∀  (υ : mx_S), o = (.inr υ) → ∀ (H : Heap) (locs : List Loc), mx_J G P s.heap (mxz σ) (mxu σ) υ H locs → ∀ ls : Array Slot, lv_has ls 8 [] → W p l e (mx_rm P 3 83 σ) s m ([.ref a0, .int p1, .int p2] : List Value).toArray below meth c H locs (mxz υ - mxz σ) (mxu υ - mxu σ) (mx_Z below G P (some (.int r)) σ σ' [.ref a0, .int p1, .int p2] s) (F0 m 103 ls [])) → ∀ (H : Heap) (locs : List Loc), mx_J G P s.heap (mxz σ) (mxu σ) τ H locs → ∀ ls : Array Slot, lv_has ls 8 [(0, .ref v0), (1, .int v1), (3, .long v3), (5, .long v5), (7, .int v7)] → W p l e (mx_rm P 3 83 σ) s m ([.ref a0, .int p1, .int p2] : List Value).toArray below meth c H locs (mxz τ - mxz σ) (mxu τ - mxu σ) (mx_Z below G P (some (.int r)) σ σ' [.ref a0, .int p1, .int p2] s) (F0 m 50 ls []) := by
    intro v0 v1 v3 v5 n
    induction n with
    | zero =>
      intro v7 τ o hf
      rw [mx_lp0] at hf
      cases hf
    | succ n ih =>
      intro v7 τ o hf Ke0 Ke1 H locs hJ ls hl
      rw [mx_lpS] at hf
      obtain ⟨b, eb, hf⟩ := mb0 hf
      refine B50 v0 v1 v3 v5 v7 τ b eb (fun y7 υ ho H locs hJ ls hl => ?_) (fun  υ ho H locs hJ ls hl => ?_) (fun  υ ho H locs hJ ls hl => ?_) H locs hJ ls hl
      · subst ho
        exact ih y7 υ o hf Ke0 Ke1 H locs hJ ls hl
      · subst ho
        exact Ke0  υ (Option.some.inj hf).symm _ _ hJ ls hl
      · subst ho
        exact Ke1  υ (Option.some.inj hf).symm _ _ hJ ls hl
  have D33 : ∀ (v0 : Nat) (v1 : Int32) (v2 : Int32) (w0 : Int64) (τ : mx_S), f_X4_isDivided_D33 P v0 v1 v2 w0 τ = some (r, σ') → ∀ (H : Heap) (locs : List Loc), mx_J G P s.heap (mxz σ) (mxu σ) τ H locs → ∀ ls : Array Slot, lv_has ls 8 [(0, .ref v0), (1, .int v1), (2, .int v2)] → W p l e (mx_rm P 3 83 σ) s m ([.ref a0, .int p1, .int p2] : List Value).toArray below meth c H locs (mxz τ - mxz σ) (mxu τ - mxu σ) (mx_Z below G P (some (.int r)) σ σ' [.ref a0, .int p1, .int p2] s) (F0 m 33 ls [.long w0]) := by
    intro v0 v1 v2 w0 τ hf _ _ hJ ls hl
    unfold f_X4_isDivided_D33 at hf
    refine lv_lstore_n (lv' := [(3, .long w0), (0, .ref v0), (1, .int v1), (2, .int v2)]) hx hb dX4_isDivided_33 rfl hl (by decide) rfl (fun ls hl => ?_)
    refine lv_aload_n hx hb dX4_isDivided_34 rfl (lv_at hl 1 rfl) ?_
    obtain ⟨b14, e15, hf⟩ := mb0 hf
    refine my_gR hx hb hts hown hK hJ fd_RX4_33 hv_4_10 e15 dX4_isDivided_35 ?_
    refine lv_iload_n hx hb dX4_isDivided_38 rfl (lv_at hl 2 rfl) ?_
    obtain ⟨b16, e17, hf⟩ := mb0 hf
    refine mx_aR hx hb hK hJ (t := 7) rfl (fun _ _ _ => rfl) e17 dX4_isDivided_39 ?_
    refine lv_iload_n hx hb dX4_isDivided_40 rfl (lv_at hl 3 rfl) ?_
    obtain ⟨x18, e19, hf⟩ := mb0 hf
    refine mx_aL hx hb hK hJ e19 dX4_isDivided_41 ?_
    obtain ⟨x21, σ20, e22, hf⟩ := mc0 hf
    refine mx_callS (As := [.long x18]) (rest := []) hx hb hml hts hown hK hJ rfl rfl (c_J9_abs_067f4 l G P x18 τ x21 σ20 e22) me_J9_abs_067f4 kw_854 kw_876 (Nat.le_of_ble_eq_true rfl) (Nat.le_of_ble_eq_true rfl) rfl hl.1 rfl (Nat.le_of_ble_eq_true rfl) dX4_isDivided_42 (fun H locs hJ => ?_)
    refine lv_lstore (lv' := [(5, .long x21), (3, .long w0), (0, .ref v0), (1, .int v1), (2, .int v2)]) hx hb dX4_isDivided_45 hl (by decide) rfl (fun ls hl => ?_)
    refine lv_iconst (v := 0) hx hb dX4_isDivided_47 (by decide) ?_
    refine lv_istore (lv' := [(7, .int (0 : Int32)), (5, .long x21), (3, .long w0), (0, .ref v0), (1, .int v1), (2, .int v2)]) hx hb dX4_isDivided_48 hl (by decide) rfl (fun ls hl => ?_)
    obtain ⟨o47, e48, hf⟩ := mb0 hf
    refine L50 v0 v1 w0 x21 (mpN P) (0 : Int32) σ20 o47 e48 (fun σ49 ho H locs hJ ls hl => ?_) (fun σ50 ho H locs hJ ls hl => ?_) _ _ hJ ls (lv_sub hl [3, 4, 2, 1, 0] rfl)
    · rw [ho] at hf
      have hf : (mr_Z (0 : Int32) σ49) = some (r, σ') := hf
      refine lv_iconst (v := 0) hx hb dX4_isDivided_88 (by decide) ?_
      exact mx_zret hx hb hr hlocks hJ hf dX4_isDivided_89
    · rw [ho] at hf
      have hf : (mr_Z (1 : Int32) σ50) = some (r, σ') := hf
      refine lv_iconst (v := 1) hx hb dX4_isDivided_103 (by decide) ?_
      exact mx_zret hx hb hr hlocks hJ hf dX4_isDivided_104
  unfold f_X4_isDivided at hf
  refine lv_aload_n hx hb dX4_isDivided_0 rfl (lv_at hl 0 rfl) ?_
  obtain ⟨b1, e2, hf⟩ := mb0 hf
  refine my_gR hx hb hts hown hK hJ fd_RX4_33 hv_4_10 e2 dX4_isDivided_1 ?_
  refine lv_iload_n hx hb dX4_isDivided_4 rfl (lv_at hl 1 rfl) ?_
  obtain ⟨b3, e4, hf⟩ := mb0 hf
  refine mx_aR hx hb hK hJ (t := 7) rfl (fun _ _ _ => rfl) e4 dX4_isDivided_5 ?_
  refine lv_iload_n hx hb dX4_isDivided_6 rfl (lv_at hl 2 rfl) ?_
  obtain ⟨x5, e6, hf⟩ := mb0 hf
  refine mx_aL hx hb hK hJ e6 dX4_isDivided_7 ?_
  refine lv_lconst (v := 0) hx hb dX4_isDivided_8 (by decide) ?_
  refine W.lcmp hx hb dX4_isDivided_9 ?_
  refine lv_if_ge (tgt := 25) hx hb dX4_isDivided_10 (by decide) (fun c7 => ?_) (fun c7 => ?_)
  · rw [if_pos c7] at hf
    refine lv_aload_n hx hb dX4_isDivided_25 rfl (lv_at hl 0 rfl) ?_
    obtain ⟨b8, e9, hf⟩ := mb0 hf
    refine my_gR hx hb hts hown hK hJ fd_RX4_36 hv_4_11 e9 dX4_isDivided_26 ?_
    refine lv_iload_n hx hb dX4_isDivided_29 rfl (lv_at hl 1 rfl) ?_
    obtain ⟨b10, e11, hf⟩ := mb0 hf
    refine mx_aR hx hb hK hJ (t := 7) rfl (fun _ _ _ => rfl) e11 dX4_isDivided_30 ?_
    refine lv_iload_n hx hb dX4_isDivided_31 rfl (lv_at hl 2 rfl) ?_
    obtain ⟨x12, e13, hf⟩ := mb0 hf
    refine mx_aL hx hb hK hJ e13 dX4_isDivided_32 ?_
    exact D33 a0 p1 p2 x12 σ hf _ _ hJ ls (lv_sub hl [0, 1, 2] rfl)
  · rw [if_neg c7] at hf
    refine lv_aload_n hx hb dX4_isDivided_13 rfl (lv_at hl 0 rfl) ?_
    obtain ⟨b51, e52, hf⟩ := mb0 hf
    refine my_gR hx hb hts hown hK hJ fd_RX4_36 hv_4_11 e52 dX4_isDivided_14 ?_
    refine lv_iload_n hx hb dX4_isDivided_17 rfl (lv_at hl 1 rfl) ?_
    obtain ⟨b53, e54, hf⟩ := mb0 hf
    refine mx_aR hx hb hK hJ (t := 7) rfl (fun _ _ _ => rfl) e54 dX4_isDivided_18 ?_
    refine lv_iload_n hx hb dX4_isDivided_19 rfl (lv_at hl 2 rfl) ?_
    obtain ⟨x55, e56, hf⟩ := mb0 hf
    refine mx_aL hx hb hK hJ e56 dX4_isDivided_20 ?_
    refine lv_lneg hx hb dX4_isDivided_21 ?_
    refine lv_goto (tgt := 33) hx hb dX4_isDivided_22 (by decide) ?_
    exact D33 a0 p1 p2 (-x55) σ hf _ _ hJ ls (lv_sub hl [0, 1, 2] rfl)
set_option maxHeartbeats 4000000 in
set_option maxRecDepth 100000 in
theorem c_X4_isTaken (l : Launch) (G : mx_G) (P : mx_P) (a0 : Nat) (p1 : Int32) (p2 : Int32) (p3 : Int32) (σ : mx_S) (r : Int32) (σ' : mx_S) (hf : f_X4_isTaken P a0 p1 p2 p3 σ = some (r, σ')) : mxz σ ≤ mpc P → mxu σ ≤ mps P → mx_M l yX4_isTaken cX4_isTaken 5 (some .boolean) 4 109 G P [.ref a0, .int p1, .int p2, .int p3] σ (some (.int r)) σ' := by
  intro hcap hcau
  refine mx_ofW (by decide +kernel) hcap hcau (Nat.le_of_ble_eq_true rfl) ?_
  intro p e s m below meth c hx hb hr hml hts hown hlocks hname hK hJ ls hl
  have hz0 := hJ.2.1
  have hown : s.vm.findClass RX4 = some m.cls := hown
  have hl : lv_has ls 5 [(0, .ref a0), (1, .int p1), (2, .int p2), (3, .int p3)] := hl
  have D132_13 : ∀ (v0 : Nat) (v1 : Int32) (v2 : Int32) (v4 : Int32) (τ : mx_S) (o : (Int32 × mx_S) ⊕ ((mx_S) ⊕ (mx_S))), f_X4_isTaken_D132_13 P v0 v1 v2 v4 τ = some o → (∀ (y4 : Int32) (υ : mx_S), o = .inl (y4, υ) → ∀ (H : Heap) (locs : List Loc), mx_J G P s.heap (mxz σ) (mxu σ) υ H locs → ∀ ls : Array Slot, lv_has ls 5 [(0, .ref v0), (1, .int v1), (2, .int v2), (4, .int y4)] → W p l e (mx_rm P 4 109 σ) s m ([.ref a0, .int p1, .int p2, .int p3] : List Value).toArray below meth c H locs (mxz υ - mxz σ) (mxu υ - mxu σ) (mx_Z below G P (some (.int r)) σ σ' [.ref a0, .int p1, .int p2, .int p3] s) (F0 m 13 ls [])) → (∀  (υ : mx_S), o = .inr (.inl υ) → ∀ (H : Heap) (locs : List Loc), mx_J G P s.heap (mxz σ) (mxu σ) υ H locs → ∀ ls : Array Slot, lv_has ls 5 [] → W p l e (mx_rm P 4 109 σ) s m ([.ref a0, .int p1, .int p2, .int p3] : List Value).toArray below meth c H locs (mxz υ - mxz σ) (mxu υ - mxu σ) (mx_Z below G P (some (.int r)) σ σ' [.ref a0, .int p1, .int p2, .int p3] s) (F0 m 123 ls [])) → (∀  (υ : mx_S), o = .inr (.inr υ) → ∀ (H : Heap) (locs : List Loc), mx_J G P s.heap (mxz σ) (mxu σ) υ H locs → ∀ ls : Array Slot, lv_has ls 5 [] → W p l e (mx_rm P 4 109 σ) s m ([.ref a0, .int p1, .int p2, .int p3] : List Value).toArray below meth c H locs (mxz υ - mxz σ) (mxu υ - mxu σ) (mx_Z below G P (some (.int r)) σ σ' [.ref a0, .int p1, .int p2, .int p3] s) (F0 m 138 ls [])) → ∀ (H : Heap) (locs : List Loc), mx_J G P s.heap (mxz σ) (mxu σ) τ H locs → ∀ ls : Array Slot, lv_has ls 5 [(0, .ref v0), (1, .int v1), (2, .int v2), (4, .int v4)] → W p l e (mx_rm P 4 109 σ) s m ([.ref a0, .int p1, .int p2, .int p3] : List Value).toArray below meth c H locs (mxz τ - mxz σ) (mxu τ - mxu σ) (mx_Z below G P (some (.int r)) σ σ' [.ref a0, .int p1, .int p2, .int p3] s) (F0 m 132 ls []) := by
    intro v0 v1 v2 v4 τ o hf Kb Ke0 Ke1 H locs hJ ls hl
    unfold f_X4_isTaken_D132_13 at hf
    obtain ⟨x15, e16, hf⟩ := mb0 hf
    refine lv_iinc (v := x15) (lv' := [(4, .int x15), (0, .ref v0), (1, .int v1), (2, .int v2)]) hx hb dX4_isTaken_132 hl (k := 3) rfl (by rw [← Option.some.inj e16]; rfl) (by decide) rfl (fun ls hl => ?_)
    refine lv_goto (tgt := 13) hx hb dX4_isTaken_135 (by decide) ?_
    exact Kb x15 τ (Option.some.inj hf).symm _ _ hJ ls (lv_sub hl [1, 2, 3, 0] rfl)
  have B13 : ∀ (v0 : Nat) (v1 : Int32) (v2 : Int32) (v4 : Int32) (τ : mx_S) (o : (Int32 × mx_S) ⊕ ((mx_S) ⊕ (mx_S))), f_X4_isTaken_B13 P v0 v1 v2 v4 τ = some o → (∀ (y4 : Int32) (υ : mx_S), o = .inl (y4, υ) → ∀ (H : Heap) (locs : List Loc), mx_J G P s.heap (mxz σ) (mxu σ) υ H locs → ∀ ls : Array Slot, lv_has ls 5 [(0, .ref v0), (1, .int v1), (2, .int v2), (4, .int y4)] → W p l e (mx_rm P 4 109 σ) s m ([.ref a0, .int p1, .int p2, .int p3] : List Value).toArray below meth c H locs (mxz υ - mxz σ) (mxu υ - mxu σ) (mx_Z below G P (some (.int r)) σ σ' [.ref a0, .int p1, .int p2, .int p3] s) (F0 m 13 ls [])) → (∀  (υ : mx_S), o = .inr (.inl υ) → ∀ (H : Heap) (locs : List Loc), mx_J G P s.heap (mxz σ) (mxu σ) υ H locs → ∀ ls : Array Slot, lv_has ls 5 [] → W p l e (mx_rm P 4 109 σ) s m ([.ref a0, .int p1, .int p2, .int p3] : List Value).toArray below meth c H locs (mxz υ - mxz σ) (mxu υ - mxu σ) (mx_Z below G P (some (.int r)) σ σ' [.ref a0, .int p1, .int p2, .int p3] s) (F0 m 123 ls [])) → (∀  (υ : mx_S), o = .inr (.inr υ) → ∀ (H : Heap) (locs : List Loc), mx_J G P s.heap (mxz σ) (mxu σ) υ H locs → ∀ ls : Array Slot, lv_has ls 5 [] → W p l e (mx_rm P 4 109 σ) s m ([.ref a0, .int p1, .int p2, .int p3] : List Value).toArray below meth c H locs (mxz υ - mxz σ) (mxu υ - mxu σ) (mx_Z below G P (some (.int r)) σ σ' [.ref a0, .int p1, .int p2, .int p3] s) (F0 m 138 ls [])) → ∀ (H : Heap) (locs : List Loc), mx_J G P s.heap (mxz σ) (mxu σ) τ H locs → ∀ ls : Array Slot, lv_has ls 5 [(0, .ref v0), (1, .int v1), (2, .int v2), (4, .int v4)] → W p l e (mx_rm P 4 109 σ) s m ([.ref a0, .int p1, .int p2, .int p3] : List Value).toArray below meth c H locs (mxz τ - mxz σ) (mxu τ - mxu σ) (mx_Z below G P (some (.int r)) σ σ' [.ref a0, .int p1, .int p2, .int p3] s) (F0 m 13 ls []) := by
    intro v0 v1 v2 v4 τ o hf Kb Ke0 Ke1 H locs hJ ls hl
    unfold f_X4_isTaken_B13 at hf
    refine lv_iload hx hb dX4_isTaken_13 (lv_at hl 3 rfl) ?_
    refine lv_bipush (v := 12) hx hb dX4_isTaken_15 (by decide) ?_
    refine lv_icmp_gt (tgt := 138) hx hb dX4_isTaken_17 (by decide) (fun c7 => ?_) (fun c7 => ?_)
    · rw [if_pos c7] at hf
      exact Ke1 τ (Option.some.inj hf).symm _ _ hJ ls (lv_sub hl [] rfl)
    · rw [if_neg c7] at hf
      refine lv_aload_n hx hb dX4_isTaken_20 rfl (lv_at hl 0 rfl) ?_
      obtain ⟨b8, e9, hf⟩ := mb0 hf
      refine my_gR hx hb hts hown hK hJ fd_RX4_33 hv_4_10 e9 dX4_isTaken_21 ?_
      refine lv_iload_n hx hb dX4_isTaken_24 rfl (lv_at hl 2 rfl) ?_
      obtain ⟨b10, e11, hf⟩ := mb0 hf
      refine mx_aR hx hb hK hJ (t := 7) rfl (fun _ _ _ => rfl) e11 dX4_isTaken_25 ?_
      refine lv_iload hx hb dX4_isTaken_26 (lv_at hl 3 rfl) ?_
      obtain ⟨x12, e13, hf⟩ := mb0 hf
      refine mx_aL hx hb hK hJ e13 dX4_isTaken_28 ?_
      refine lv_lconst (v := 0) hx hb dX4_isTaken_29 (by decide) ?_
      refine W.lcmp hx hb dX4_isTaken_30 ?_
      refine lv_if_eq (tgt := 132) hx hb dX4_isTaken_31 (by decide) (fun c14 => ?_) (fun c14 => ?_)
      · rw [if_pos c14] at hf
        exact D132_13 v0 v1 v2 v4 τ o hf Kb Ke0 Ke1 _ _ hJ ls (lv_sub hl [0, 1, 2, 3] rfl)
      · rw [if_neg c14] at hf
        refine lv_aload_n hx hb dX4_isTaken_34 rfl (lv_at hl 0 rfl) ?_
        obtain ⟨b17, e18, hf⟩ := mb0 hf
        refine my_gR hx hb hts hown hK hJ fd_RX4_49 hv_4_16 e18 dX4_isTaken_35 ?_
        refine lv_aload_n hx hb dX4_isTaken_38 rfl (lv_at hl 0 rfl) ?_
        obtain ⟨b19, e20, hf⟩ := mb0 hf
        refine my_gR hx hb hts hown hK hJ fd_RX4_45 hv_4_15 e20 dX4_isTaken_39 ?_
        obtain ⟨i21, e22, hf⟩ := mb0 hf
        obtain ⟨σ23, e24, hf⟩ := mb0 hf
        refine mx_callV (As := [.ref b19]) (rest := []) hx hb hml hts hown hK hJ rfl rfl (ci := 3) rfl e22 (c_X3_copy l G P b17 b19 τ σ23 e24) me_X3_copy kw_895 kw_896 kw_894 (Nat.le_of_ble_eq_true rfl) (Nat.le_of_ble_eq_true rfl) rfl hl.1 rfl (Nat.le_of_ble_eq_true rfl) dX4_isTaken_42 (fun H locs hJ => ?_)
        refine lv_aload_n hx hb dX4_isTaken_45 rfl (lv_at hl 0 rfl) ?_
        obtain ⟨b25, e26, hf⟩ := mb0 hf
        refine my_gR hx hb hts hown hK hJ fd_RX4_49 hv_4_16 e26 dX4_isTaken_46 ?_
        refine lv_aload_n hx hb dX4_isTaken_49 rfl (lv_at hl 0 rfl) ?_
        obtain ⟨b27, e28, hf⟩ := mb0 hf
        refine my_gR hx hb hts hown hK hJ fd_RX4_33 hv_4_10 e28 dX4_isTaken_50 ?_
        refine lv_iload_n hx hb dX4_isTaken_53 rfl (lv_at hl 2 rfl) ?_
        obtain ⟨b29, e30, hf⟩ := mb0 hf
        refine mx_aR hx hb hK hJ (t := 7) rfl (fun _ _ _ => rfl) e30 dX4_isTaken_54 ?_
        refine lv_iload hx hb dX4_isTaken_55 (lv_at hl 3 rfl) ?_
        obtain ⟨x31, e32, hf⟩ := mb0 hf
        refine mx_aL hx hb hK hJ e32 dX4_isTaken_57 ?_
        refine lv_aload_n hx hb dX4_isTaken_58 rfl (lv_at hl 0 rfl) ?_
        obtain ⟨b33, e34, hf⟩ := mb0 hf
        refine my_gR hx hb hts hown hK hJ fd_RX4_36 hv_4_11 e34 dX4_isTaken_59 ?_
        refine lv_iload_n hx hb dX4_isTaken_62 rfl (lv_at hl 2 rfl) ?_
        obtain ⟨b35, e36, hf⟩ := mb0 hf
        refine mx_aR hx hb hK hJ (t := 7) rfl (fun _ _ _ => rfl) e36 dX4_isTaken_63 ?_
        refine lv_iload hx hb dX4_isTaken_64 (lv_at hl 3 rfl) ?_
        obtain ⟨x37, e38, hf⟩ := mb0 hf
        refine mx_aL hx hb hK hJ e38 dX4_isTaken_66 ?_
        obtain ⟨i39, e40, hf⟩ := mb0 hf
        obtain ⟨σ41, e42, hf⟩ := mb0 hf
        refine mx_callV (As := [.long x31, .long x37]) (rest := []) hx hb hml hts hown hK hJ rfl rfl (ci := 3) rfl e40 (c_X3_times l G P b25 x31 x37 σ23 σ41 e42) me_X3_times kw_882 kw_883 kw_881 (Nat.le_of_ble_eq_true rfl) (Nat.le_of_ble_eq_true rfl) rfl hl.1 rfl (Nat.le_of_ble_eq_true rfl) dX4_isTaken_67 (fun H locs hJ => ?_)
        refine lv_aload_n hx hb dX4_isTaken_70 rfl (lv_at hl 0 rfl) ?_
        refine lv_aload_n hx hb dX4_isTaken_71 rfl (lv_at hl 0 rfl) ?_
        obtain ⟨b43, e44, hf⟩ := mb0 hf
        refine my_gR hx hb hts hown hK hJ fd_RX4_52 hv_4_17 e44 dX4_isTaken_72 ?_
        refine lv_iload_n hx hb dX4_isTaken_75 rfl (lv_at hl 1 rfl) ?_
        refine lv_iload hx hb dX4_isTaken_76 (lv_at hl 3 rfl) ?_
        obtain ⟨i45, e46, hf⟩ := mb0 hf
        obtain ⟨σ47, e48, hf⟩ := mb0 hf
        refine mx_callV (As := [.ref b43, .int v1, .int v4]) (rest := []) hx hb hml hts hown hK hJ rfl rfl (ci := 4) rfl e46 (c_X4_readCell l G P v0 b43 v1 v4 σ41 σ47 e48) me_X4_readCell kw_879 ks_18 kw_877 (Nat.le_of_ble_eq_true rfl) (Nat.le_of_ble_eq_true rfl) rfl hl.1 rfl (Nat.le_of_ble_eq_true rfl) dX4_isTaken_78 (fun H locs hJ => ?_)
        refine lv_aload_n hx hb dX4_isTaken_81 rfl (lv_at hl 0 rfl) ?_
        obtain ⟨b49, e50, hf⟩ := mb0 hf
        refine my_gR hx hb hts hown hK hJ fd_RX4_52 hv_4_17 e50 dX4_isTaken_82 ?_
        refine lv_aload_n hx hb dX4_isTaken_85 rfl (lv_at hl 0 rfl) ?_
        obtain ⟨b51, e52, hf⟩ := mb0 hf
        refine my_gR hx hb hts hown hK hJ fd_RX4_49 hv_4_16 e52 dX4_isTaken_86 ?_
        obtain ⟨x53, e54, hf⟩ := mb0 hf
        refine my_gL hx hb hts hown hK hJ fd_RX4_102 hv_3_0 e54 dX4_isTaken_89 ?_
        refine lv_lneg hx hb dX4_isTaken_92 ?_
        refine lv_aload_n hx hb dX4_isTaken_93 rfl (lv_at hl 0 rfl) ?_
        obtain ⟨b55, e56, hf⟩ := mb0 hf
        refine my_gR hx hb hts hown hK hJ fd_RX4_49 hv_4_16 e56 dX4_isTaken_94 ?_
        obtain ⟨x57, e58, hf⟩ := mb0 hf
        refine my_gL hx hb hts hown hK hJ fd_RX4_106 hv_3_1 e58 dX4_isTaken_97 ?_
        obtain ⟨i59, e60, hf⟩ := mb0 hf
        obtain ⟨σ61, e62, hf⟩ := mb0 hf
        refine mx_callV (As := [.long (-x53), .long x57]) (rest := []) hx hb hml hts hown hK hJ rfl rfl (ci := 3) rfl e60 (c_X3_add l G P b49 (-x53) x57 σ47 σ61 e62) me_X3_add kw_899 kw_900 kw_898 (Nat.le_of_ble_eq_true rfl) (Nat.le_of_ble_eq_true rfl) rfl hl.1 rfl (Nat.le_of_ble_eq_true rfl) dX4_isTaken_100 (fun H locs hJ => ?_)
        refine lv_aload_n hx hb dX4_isTaken_103 rfl (lv_at hl 0 rfl) ?_
        obtain ⟨b63, e64, hf⟩ := mb0 hf
        refine my_gR hx hb hts hown hK hJ fd_RX4_49 hv_4_16 e64 dX4_isTaken_104 ?_
        obtain ⟨x65, e66, hf⟩ := mb0 hf
        refine my_gI hx hb hts hown hK hJ fd_RX4_109 hv_3_2 e66 dX4_isTaken_107 ?_
        refine lv_if_ne (tgt := 123) hx hb dX4_isTaken_110 (by decide) (fun c67 => ?_) (fun c67 => ?_)
        · rw [if_neg c67] at hf
          exact Ke0 σ61 (Option.some.inj hf).symm _ _ hJ ls (lv_sub hl [] rfl)
        · rw [if_pos c67] at hf
          refine lv_aload_n hx hb dX4_isTaken_113 rfl (lv_at hl 0 rfl) ?_
          obtain ⟨b68, e69, hf⟩ := mb0 hf
          refine my_gR hx hb hts hown hK hJ fd_RX4_52 hv_4_17 e69 dX4_isTaken_114 ?_
          obtain ⟨x70, e71, hf⟩ := mb0 hf
          refine my_gI hx hb hts hown hK hJ fd_RX4_109 hv_3_2 e71 dX4_isTaken_117 ?_
          refine lv_if_eq (tgt := 125) hx hb dX4_isTaken_120 (by decide) (fun c72 => ?_) (fun c72 => ?_)
          · rw [if_pos c72] at hf
            refine lv_aload_n hx hb dX4_isTaken_125 rfl (lv_at hl 0 rfl) ?_
            refine lv_iload_n hx hb dX4_isTaken_126 rfl (lv_at hl 1 rfl) ?_
            refine lv_iload hx hb dX4_isTaken_127 (lv_at hl 3 rfl) ?_
            obtain ⟨i73, e74, hf⟩ := mb0 hf
            obtain ⟨σ75, e76, hf⟩ := mb0 hf
            refine mx_callV (As := [.int v1, .int v4]) (rest := []) hx hb hml hts hown hK hJ rfl rfl (ci := 4) rfl e74 (c_X4_writeCell l G P v0 v1 v4 σ61 σ75 e76) me_X4_writeCell kw_858 ks_13 kw_856 (Nat.le_of_ble_eq_true rfl) (Nat.le_of_ble_eq_true rfl) rfl hl.1 rfl (Nat.le_of_ble_eq_true rfl) dX4_isTaken_129 (fun H locs hJ => ?_)
            exact D132_13 v0 v1 v2 v4 σ75 o hf Kb Ke0 Ke1 _ _ hJ ls (lv_sub hl [0, 1, 2, 3] rfl)
          · rw [if_neg c72] at hf
            exact Ke0 σ61 (Option.some.inj hf).symm _ _ hJ ls (lv_sub hl [] rfl)
  have L13 : ∀ (v0 : Nat) (v1 : Int32) (v2 : Int32) (n : Nat) (v4 : Int32) (τ : mx_S) (o : (mx_S) ⊕ (mx_S)), mx_lp (f_X4_isTaken_L13 P v0 v1 v2) n (v4, τ) = some o → (∀  (υ : mx_S), o = (.inl υ) → ∀ (H : Heap) (locs : List Loc), mx_J G P s.heap (mxz σ) (mxu σ) υ H locs → ∀ ls : Array Slot, lv_has ls 5 [] → W p l e (mx_rm P 4 109 σ) s m ([.ref a0, .int p1, .int p2, .int p3] : List Value).toArray below meth c H locs (mxz υ - mxz σ) (mxu υ - mxu σ) (mx_Z below G P (some (.int r)) σ σ' [.ref a0, .int p1, .int p2, .int p3] s) (F0 m 123 ls [])) → (∀  (υ : mx_S), o = (.inr υ) → ∀ (H : Heap) (locs : List Loc), mx_J G P s.heap (mxz σ) (mxu σ) υ H locs → ∀ ls : Array Slot, lv_has ls 5 [] → W p l e (mx_rm P 4 109 σ) s m ([.ref a0, .int p1, .int p2, .int p3] : List Value).toArray below meth c H locs (mxz υ - mxz σ) (mxu υ - mxu σ) (mx_Z below G P (some (.int r)) σ σ' [.ref a0, .int p1, .int p2, .int p3] s) (F0 m 138 ls [])) → ∀ (H : Heap) (locs : List Loc), mx_J G P s.heap (mxz σ) (mxu σ) τ H locs → ∀ ls : Array Slot, lv_has ls 5 [(0, .ref v0), (1, .int v1), (2, .int v2), (4, .int v4)] → W p l e (mx_rm P 4 109 σ) s m ([.ref a0, .int p1, .int p2, .int p3] : List Value).toArray below meth c H locs (mxz τ - mxz σ) (mxu τ - mxu σ) (mx_Z below G P (some (.int r)) σ σ' [.ref a0, .int p1, .int p2, .int p3] s) (F0 m 13 ls []) := by
    intro v0 v1 v2 n
    induction n with
    | zero =>
      intro v4 τ o hf
      rw [mx_lp0] at hf
      cases hf
    | succ n ih =>
      intro v4 τ o hf Ke0 Ke1 H locs hJ ls hl
      rw [mx_lpS] at hf
      obtain ⟨b, eb, hf⟩ := mb0 hf
      refine B13 v0 v1 v2 v4 τ b eb (fun y4 υ ho H locs hJ ls hl => ?_) (fun  υ ho H locs hJ ls hl => ?_) (fun  υ ho H locs hJ ls hl => ?_) H locs hJ ls hl
      · subst ho
        exact ih y4 υ o hf Ke0 Ke1 H locs hJ ls hl
      · subst ho
        exact Ke0  υ (Option.some.inj hf).symm _ _ hJ ls hl
      · subst ho
        exact Ke1  υ (Option.some.inj hf).symm _ _ hJ ls hl
  have D123 : ∀  (τ : mx_S), f_X4_isTaken_D123 P  τ = some (r, σ') → ∀ (H : Heap) (locs : List Loc), mx_J G P s.heap (mxz σ) (mxu σ) τ H locs → ∀ ls : Array Slot, lv_has ls 5 [] → W p l e (mx_rm P 4 109 σ) s m ([.ref a0, .int p1, .int p2, .int p3] : List Value).toArray below meth c H locs (mxz τ - mxz σ) (mxu τ - mxu σ) (mx_Z below G P (some (.int r)) σ σ' [.ref a0, .int p1, .int p2, .int p3] s) (F0 m 123 ls []) := by
    intro  τ hf _ _ hJ ls hl
    unfold f_X4_isTaken_D123 at hf
    refine lv_iconst (v := 0) hx hb dX4_isTaken_123 (by decide) ?_
    exact mx_zret hx hb hr hlocks hJ hf dX4_isTaken_124
  unfold f_X4_isTaken at hf
  refine lv_aload_n hx hb dX4_isTaken_0 rfl (lv_at hl 0 rfl) ?_
  refine lv_aload_n hx hb dX4_isTaken_1 rfl (lv_at hl 0 rfl) ?_
  obtain ⟨b1, e2, hf⟩ := mb0 hf
  refine my_gR hx hb hts hown hK hJ fd_RX4_45 hv_4_15 e2 dX4_isTaken_2 ?_
  refine lv_iload_n hx hb dX4_isTaken_5 rfl (lv_at hl 1 rfl) ?_
  refine lv_iload_n hx hb dX4_isTaken_6 rfl (lv_at hl 3 rfl) ?_
  obtain ⟨i3, e4, hf⟩ := mb0 hf
  obtain ⟨σ5, e6, hf⟩ := mb0 hf
  refine mx_callV (As := [.ref b1, .int p1, .int p3]) (rest := []) hx hb hml hts hown hK hJ rfl rfl (ci := 4) rfl e4 (c_X4_readCell l G P a0 b1 p1 p3 σ σ5 e6) me_X4_readCell kw_879 ks_18 kw_877 (Nat.le_of_ble_eq_true rfl) (Nat.le_of_ble_eq_true rfl) rfl hl.1 rfl (Nat.le_of_ble_eq_true rfl) dX4_isTaken_7 (fun H locs hJ => ?_)
  refine lv_iconst (v := 0) hx hb dX4_isTaken_10 (by decide) ?_
  refine lv_istore (lv' := [(4, .int (0 : Int32)), (0, .ref a0), (1, .int p1), (2, .int p2), (3, .int p3)]) hx hb dX4_isTaken_11 hl (by decide) rfl (fun ls hl => ?_)
  obtain ⟨o77, e78, hf⟩ := mb0 hf
  refine L13 a0 p1 p2 (mpN P) (0 : Int32) σ5 o77 e78 (fun σ79 ho H locs hJ ls hl => ?_) (fun σ80 ho H locs hJ ls hl => ?_) _ _ hJ ls (lv_sub hl [1, 2, 3, 0] rfl)
  · rw [ho] at hf
    have hf : (f_X4_isTaken_D123 P  σ79) = some (r, σ') := hf
    exact D123  σ79 hf _ _ hJ ls (lv_sub hl [] rfl)
  · rw [ho] at hf
    have hf : (mr_Z (1 : Int32) σ80) = some (r, σ') := hf
    refine lv_iconst (v := 1) hx hb dX4_isTaken_138 (by decide) ?_
    exact mx_zret hx hb hr hlocks hJ hf dX4_isTaken_139
set_option maxHeartbeats 4000000 in
set_option maxRecDepth 100000 in
theorem c_X4_isReduced (l : Launch) (G : mx_G) (P : mx_P) (a0 : Nat) (σ : mx_S) (r : Int32) (σ' : mx_S) (hf : f_X4_isReduced P a0 σ = some (r, σ')) : mxz σ ≤ mpc P → mxu σ ≤ mps P → mx_M l yX4_isReduced cX4_isReduced 5 (some .boolean) 5 133 G P [.ref a0] σ (some (.int r)) σ' := by
  intro hcap hcau
  refine mx_ofW (by decide +kernel) hcap hcau (Nat.le_of_ble_eq_true rfl) ?_
  intro p e s m below meth c hx hb hr hml hts hown hlocks hname hK hJ ls hl
  have hz0 := hJ.2.1
  have hown : s.vm.findClass RX4 = some m.cls := hown
  have hl : lv_has ls 5 [(0, .ref a0)] := hl
  have D115_12 : ∀ (v0 : Nat) (v1 : Int32) (v2 : Int32) (τ : mx_S) (o : (Int32 × Int32 × mx_S) ⊕ ((mx_S) ⊕ (mx_S) ⊕ (mx_S))), f_X4_isReduced_D115_12 P v0 v1 v2 τ = some o → (∀ (y1 : Int32) (y2 : Int32) (υ : mx_S), o = .inl (y1, y2, υ) → ∀ (H : Heap) (locs : List Loc), mx_J G P s.heap (mxz σ) (mxu σ) υ H locs → ∀ ls : Array Slot, lv_has ls 5 [(0, .ref v0), (1, .int y1), (2, .int y2)] → W p l e (mx_rm P 5 133 σ) s m ([.ref a0] : List Value).toArray below meth c H locs (mxz υ - mxz σ) (mxu υ - mxu σ) (mx_Z below G P (some (.int r)) σ σ' [.ref a0] s) (F0 m 12 ls [])) → (∀  (υ : mx_S), o = .inr (.inl υ) → ∀ (H : Heap) (locs : List Loc), mx_J G P s.heap (mxz σ) (mxu σ) υ H locs → ∀ ls : Array Slot, lv_has ls 5 [] → W p l e (mx_rm P 5 133 σ) s m ([.ref a0] : List Value).toArray below meth c H locs (mxz υ - mxz σ) (mxu υ - mxu σ) (mx_Z below G P (some (.int r)) σ σ' [.ref a0] s) (F0 m 52 ls [])) → (∀  (υ : mx_S), o = .inr (.inr (.inl υ)) → ∀ (H : Heap) (locs : List Loc), mx_J G P s.heap (mxz σ) (mxu σ) υ H locs → ∀ ls : Array Slot, lv_has ls 5 [] → W p l e (mx_rm P 5 133 σ) s m ([.ref a0] : List Value).toArray below meth c H locs (mxz υ - mxz σ) (mxu υ - mxu σ) (mx_Z below G P (some (.int r)) σ σ' [.ref a0] s) (F0 m 97 ls [])) → (∀  (υ : mx_S), o = .inr (.inr (.inr υ)) → ∀ (H : Heap) (locs : List Loc), mx_J G P s.heap (mxz σ) (mxu σ) υ H locs → ∀ ls : Array Slot, lv_has ls 5 [] → W p l e (mx_rm P 5 133 σ) s m ([.ref a0] : List Value).toArray below meth c H locs (mxz υ - mxz σ) (mxu υ - mxu σ) (mx_Z below G P (some (.int r)) σ σ' [.ref a0] s) (F0 m 121 ls [])) → ∀ (H : Heap) (locs : List Loc), mx_J G P s.heap (mxz σ) (mxu σ) τ H locs → ∀ ls : Array Slot, lv_has ls 5 [(0, .ref v0), (1, .int v1), (2, .int v2)] → W p l e (mx_rm P 5 133 σ) s m ([.ref a0] : List Value).toArray below meth c H locs (mxz τ - mxz σ) (mxu τ - mxu σ) (mx_Z below G P (some (.int r)) σ σ' [.ref a0] s) (F0 m 115 ls []) := by
    intro v0 v1 v2 τ o hf Kb Ke0 Ke1 Ke2 H locs hJ ls hl
    unfold f_X4_isReduced_D115_12 at hf
    obtain ⟨x15, e16, hf⟩ := mb0 hf
    refine lv_iinc (v := x15) (lv' := [(2, .int x15), (0, .ref v0), (1, .int v1)]) hx hb dX4_isReduced_115 hl (k := 2) rfl (by rw [← Option.some.inj e16]; rfl) (by decide) rfl (fun ls hl => ?_)
    refine lv_goto (tgt := 12) hx hb dX4_isReduced_118 (by decide) ?_
    exact Kb v1 x15 τ (Option.some.inj hf).symm _ _ hJ ls (lv_sub hl [1, 2, 0] rfl)
  have D99_57 : ∀ (v0 : Nat) (v1 : Int32) (v2 : Int32) (v4 : Int32) (τ : mx_S) (o : (Int32 × mx_S) ⊕ ((mx_S) ⊕ (mx_S))), f_X4_isReduced_D99_57 P v0 v1 v2 v4 τ = some o → (∀ (y4 : Int32) (υ : mx_S), o = .inl (y4, υ) → ∀ (H : Heap) (locs : List Loc), mx_J G P s.heap (mxz σ) (mxu σ) υ H locs → ∀ ls : Array Slot, lv_has ls 5 [(0, .ref v0), (1, .int v1), (2, .int v2), (4, .int y4)] → W p l e (mx_rm P 5 133 σ) s m ([.ref a0] : List Value).toArray below meth c H locs (mxz υ - mxz σ) (mxu υ - mxu σ) (mx_Z below G P (some (.int r)) σ σ' [.ref a0] s) (F0 m 57 ls [])) → (∀  (υ : mx_S), o = .inr (.inl υ) → ∀ (H : Heap) (locs : List Loc), mx_J G P s.heap (mxz σ) (mxu σ) υ H locs → ∀ ls : Array Slot, lv_has ls 5 [] → W p l e (mx_rm P 5 133 σ) s m ([.ref a0] : List Value).toArray below meth c H locs (mxz υ - mxz σ) (mxu υ - mxu σ) (mx_Z below G P (some (.int r)) σ σ' [.ref a0] s) (F0 m 97 ls [])) → (∀  (υ : mx_S), o = .inr (.inr υ) → ∀ (H : Heap) (locs : List Loc), mx_J G P s.heap (mxz σ) (mxu σ) υ H locs → ∀ ls : Array Slot, lv_has ls 5 [(0, .ref v0), (1, .int v1), (2, .int v2)] → W p l e (mx_rm P 5 133 σ) s m ([.ref a0] : List Value).toArray below meth c H locs (mxz υ - mxz σ) (mxu υ - mxu σ) (mx_Z below G P (some (.int r)) σ σ' [.ref a0] s) (F0 m 105 ls [])) → ∀ (H : Heap) (locs : List Loc), mx_J G P s.heap (mxz σ) (mxu σ) τ H locs → ∀ ls : Array Slot, lv_has ls 5 [(0, .ref v0), (1, .int v1), (2, .int v2), (4, .int v4)] → W p l e (mx_rm P 5 133 σ) s m ([.ref a0] : List Value).toArray below meth c H locs (mxz τ - mxz σ) (mxu τ - mxu σ) (mx_Z below G P (some (.int r)) σ σ' [.ref a0] s) (F0 m 99 ls []) := by
    intro v0 v1 v2 v4 τ o hf Kb Ke0 Ke1 H locs hJ ls hl
    unfold f_X4_isReduced_D99_57 at hf
    obtain ⟨x31, e32, hf⟩ := mb0 hf
    refine lv_iinc (v := x31) (lv' := [(4, .int x31), (0, .ref v0), (1, .int v1), (2, .int v2)]) hx hb dX4_isReduced_99 hl (k := 3) rfl (by rw [← Option.some.inj e32]; rfl) (by decide) rfl (fun ls hl => ?_)
    refine lv_goto (tgt := 57) hx hb dX4_isReduced_102 (by decide) ?_
    exact Kb x31 τ (Option.some.inj hf).symm _ _ hJ ls (lv_sub hl [1, 2, 3, 0] rfl)
  have B57 : ∀ (v0 : Nat) (v1 : Int32) (v2 : Int32) (v4 : Int32) (τ : mx_S) (o : (Int32 × mx_S) ⊕ ((mx_S) ⊕ (mx_S))), f_X4_isReduced_B57 P v0 v1 v2 v4 τ = some o → (∀ (y4 : Int32) (υ : mx_S), o = .inl (y4, υ) → ∀ (H : Heap) (locs : List Loc), mx_J G P s.heap (mxz σ) (mxu σ) υ H locs → ∀ ls : Array Slot, lv_has ls 5 [(0, .ref v0), (1, .int v1), (2, .int v2), (4, .int y4)] → W p l e (mx_rm P 5 133 σ) s m ([.ref a0] : List Value).toArray below meth c H locs (mxz υ - mxz σ) (mxu υ - mxu σ) (mx_Z below G P (some (.int r)) σ σ' [.ref a0] s) (F0 m 57 ls [])) → (∀  (υ : mx_S), o = .inr (.inl υ) → ∀ (H : Heap) (locs : List Loc), mx_J G P s.heap (mxz σ) (mxu σ) υ H locs → ∀ ls : Array Slot, lv_has ls 5 [] → W p l e (mx_rm P 5 133 σ) s m ([.ref a0] : List Value).toArray below meth c H locs (mxz υ - mxz σ) (mxu υ - mxu σ) (mx_Z below G P (some (.int r)) σ σ' [.ref a0] s) (F0 m 97 ls [])) → (∀  (υ : mx_S), o = .inr (.inr υ) → ∀ (H : Heap) (locs : List Loc), mx_J G P s.heap (mxz σ) (mxu σ) υ H locs → ∀ ls : Array Slot, lv_has ls 5 [(0, .ref v0), (1, .int v1), (2, .int v2)] → W p l e (mx_rm P 5 133 σ) s m ([.ref a0] : List Value).toArray below meth c H locs (mxz υ - mxz σ) (mxu υ - mxu σ) (mx_Z below G P (some (.int r)) σ σ' [.ref a0] s) (F0 m 105 ls [])) → ∀ (H : Heap) (locs : List Loc), mx_J G P s.heap (mxz σ) (mxu σ) τ H locs → ∀ ls : Array Slot, lv_has ls 5 [(0, .ref v0), (1, .int v1), (2, .int v2), (4, .int v4)] → W p l e (mx_rm P 5 133 σ) s m ([.ref a0] : List Value).toArray below meth c H locs (mxz τ - mxz σ) (mxu τ - mxu σ) (mx_Z below G P (some (.int r)) σ σ' [.ref a0] s) (F0 m 57 ls []) := by
    intro v0 v1 v2 v4 τ o hf Kb Ke0 Ke1 H locs hJ ls hl
    unfold f_X4_isReduced_B57 at hf
    refine lv_iload hx hb dX4_isReduced_57 (lv_at hl 3 rfl) ?_
    refine lv_aload_n hx hb dX4_isReduced_59 rfl (lv_at hl 0 rfl) ?_
    obtain ⟨x27, e28, hf⟩ := mb0 hf
    refine my_gI hx hb hts hown hK hJ fd_RX4_81 hv_4_13 e28 dX4_isReduced_60 ?_
    refine lv_icmp_ge (tgt := 105) hx hb dX4_isReduced_63 (by decide) (fun c29 => ?_) (fun c29 => ?_)
    · rw [if_pos c29] at hf
      exact Ke1 τ (Option.some.inj hf).symm _ _ hJ ls (lv_sub hl [0, 1, 2] rfl)
    · rw [if_neg c29] at hf
      refine lv_iload hx hb dX4_isReduced_66 (lv_at hl 3 rfl) ?_
      refine lv_iload_n hx hb dX4_isReduced_68 rfl (lv_at hl 1 rfl) ?_
      refine lv_icmp_eq (tgt := 99) hx hb dX4_isReduced_69 (by decide) (fun c30 => ?_) (fun c30 => ?_)
      · rw [if_pos c30] at hf
        exact D99_57 v0 v1 v2 v4 τ o hf Kb Ke0 Ke1 _ _ hJ ls (lv_sub hl [0, 1, 2, 3] rfl)
      · rw [if_neg c30] at hf
        refine lv_aload_n hx hb dX4_isReduced_72 rfl (lv_at hl 0 rfl) ?_
        obtain ⟨b33, e34, hf⟩ := mb0 hf
        refine my_gR hx hb hts hown hK hJ fd_RX4_33 hv_4_10 e34 dX4_isReduced_73 ?_
        refine lv_iload hx hb dX4_isReduced_76 (lv_at hl 3 rfl) ?_
        obtain ⟨b35, e36, hf⟩ := mb0 hf
        refine mx_aR hx hb hK hJ (t := 7) rfl (fun _ _ _ => rfl) e36 dX4_isReduced_78 ?_
        refine lv_iload_n hx hb dX4_isReduced_79 rfl (lv_at hl 2 rfl) ?_
        obtain ⟨x37, e38, hf⟩ := mb0 hf
        refine mx_aL hx hb hK hJ e38 dX4_isReduced_80 ?_
        refine lv_lconst (v := 0) hx hb dX4_isReduced_81 (by decide) ?_
        refine W.lcmp hx hb dX4_isReduced_82 ?_
        refine lv_if_eq (tgt := 99) hx hb dX4_isReduced_83 (by decide) (fun c39 => ?_) (fun c39 => ?_)
        · rw [if_pos c39] at hf
          exact D99_57 v0 v1 v2 v4 τ o hf Kb Ke0 Ke1 _ _ hJ ls (lv_sub hl [0, 1, 2, 3] rfl)
        · rw [if_neg c39] at hf
          refine lv_aload_n hx hb dX4_isReduced_86 rfl (lv_at hl 0 rfl) ?_
          refine lv_iload hx hb dX4_isReduced_87 (lv_at hl 3 rfl) ?_
          refine lv_iload_n hx hb dX4_isReduced_89 rfl (lv_at hl 1 rfl) ?_
          refine lv_iload_n hx hb dX4_isReduced_90 rfl (lv_at hl 2 rfl) ?_
          obtain ⟨i40, e41, hf⟩ := mb0 hf
          obtain ⟨x43, σ42, e44, hf⟩ := mc0 hf
          refine mx_callV (As := [.int v4, .int v1, .int v2]) (rest := []) hx hb hml hts hown hK hJ rfl rfl (ci := 4) rfl e41 (c_X4_isTaken l G P v0 v4 v1 v2 τ x43 σ42 e44) me_X4_isTaken kw_892 ks_20 kw_890 (Nat.le_of_ble_eq_true rfl) (Nat.le_of_ble_eq_true rfl) rfl hl.1 rfl (Nat.le_of_ble_eq_true rfl) dX4_isReduced_91 (fun H locs hJ => ?_)
          refine lv_if_ne (tgt := 99) hx hb dX4_isReduced_94 (by decide) (fun c45 => ?_) (fun c45 => ?_)
          · rw [if_neg c45] at hf
            exact D99_57 v0 v1 v2 v4 σ42 o hf Kb Ke0 Ke1 _ _ hJ ls (lv_sub hl [0, 1, 2, 3] rfl)
          · rw [if_pos c45] at hf
            exact Ke0 σ42 (Option.some.inj hf).symm _ _ hJ ls (lv_sub hl [] rfl)
  have L57 : ∀ (v0 : Nat) (v1 : Int32) (v2 : Int32) (n : Nat) (v4 : Int32) (τ : mx_S) (o : (mx_S) ⊕ (mx_S)), mx_lp (f_X4_isReduced_L57 P v0 v1 v2) n (v4, τ) = some o → (∀  (υ : mx_S), o = (.inl υ) → ∀ (H : Heap) (locs : List Loc), mx_J G P s.heap (mxz σ) (mxu σ) υ H locs → ∀ ls : Array Slot, lv_has ls 5 [] → W p l e (mx_rm P 5 133 σ) s m ([.ref a0] : List Value).toArray below meth c H locs (mxz υ - mxz σ) (mxu υ - mxu σ) (mx_Z below G P (some (.int r)) σ σ' [.ref a0] s) (F0 m 97 ls [])) → (∀  (υ : mx_S), o = (.inr υ) → ∀ (H : Heap) (locs : List Loc), mx_J G P s.heap (mxz σ) (mxu σ) υ H locs → ∀ ls : Array Slot, lv_has ls 5 [(0, .ref v0), (1, .int v1), (2, .int v2)] → W p l e (mx_rm P 5 133 σ) s m ([.ref a0] : List Value).toArray below meth c H locs (mxz υ - mxz σ) (mxu υ - mxu σ) (mx_Z below G P (some (.int r)) σ σ' [.ref a0] s) (F0 m 105 ls [])) → ∀ (H : Heap) (locs : List Loc), mx_J G P s.heap (mxz σ) (mxu σ) τ H locs → ∀ ls : Array Slot, lv_has ls 5 [(0, .ref v0), (1, .int v1), (2, .int v2), (4, .int v4)] → W p l e (mx_rm P 5 133 σ) s m ([.ref a0] : List Value).toArray below meth c H locs (mxz τ - mxz σ) (mxu τ - mxu σ) (mx_Z below G P (some (.int r)) σ σ' [.ref a0] s) (F0 m 57 ls []) := by
    intro v0 v1 v2 n
    induction n with
    | zero =>
      intro v4 τ o hf
      rw [mx_lp0] at hf
      cases hf
    | succ n ih =>
      intro v4 τ o hf Ke0 Ke1 H locs hJ ls hl
      rw [mx_lpS] at hf
      obtain ⟨b, eb, hf⟩ := mb0 hf
      refine B57 v0 v1 v2 v4 τ b eb (fun y4 υ ho H locs hJ ls hl => ?_) (fun  υ ho H locs hJ ls hl => ?_) (fun  υ ho H locs hJ ls hl => ?_) H locs hJ ls hl
      · subst ho
        exact ih y4 υ o hf Ke0 Ke1 H locs hJ ls hl
      · subst ho
        exact Ke0  υ (Option.some.inj hf).symm _ _ hJ ls hl
      · subst ho
        exact Ke1  υ (Option.some.inj hf).symm _ _ hJ ls hl
  have B12 : ∀ (v0 : Nat) (v1 : Int32) (v2 : Int32) (τ : mx_S) (o : (Int32 × Int32 × mx_S) ⊕ ((mx_S) ⊕ (mx_S) ⊕ (mx_S))), f_X4_isReduced_B12 P v0 v1 v2 τ = some o → (∀ (y1 : Int32) (y2 : Int32) (υ : mx_S), o = .inl (y1, y2, υ) → ∀ (H : Heap) (locs : List Loc), mx_J G P s.heap (mxz σ) (mxu σ) υ H locs → ∀ ls : Array Slot, lv_has ls 5 [(0, .ref v0), (1, .int y1), (2, .int y2)] → W p l e (mx_rm P 5 133 σ) s m ([.ref a0] : List Value).toArray below meth c H locs (mxz υ - mxz σ) (mxu υ - mxu σ) (mx_Z below G P (some (.int r)) σ σ' [.ref a0] s) (F0 m 12 ls [])) → (∀  (υ : mx_S), o = .inr (.inl υ) → ∀ (H : Heap) (locs : List Loc), mx_J G P s.heap (mxz σ) (mxu σ) υ H locs → ∀ ls : Array Slot, lv_has ls 5 [] → W p l e (mx_rm P 5 133 σ) s m ([.ref a0] : List Value).toArray below meth c H locs (mxz υ - mxz σ) (mxu υ - mxu σ) (mx_Z below G P (some (.int r)) σ σ' [.ref a0] s) (F0 m 52 ls [])) → (∀  (υ : mx_S), o = .inr (.inr (.inl υ)) → ∀ (H : Heap) (locs : List Loc), mx_J G P s.heap (mxz σ) (mxu σ) υ H locs → ∀ ls : Array Slot, lv_has ls 5 [] → W p l e (mx_rm P 5 133 σ) s m ([.ref a0] : List Value).toArray below meth c H locs (mxz υ - mxz σ) (mxu υ - mxu σ) (mx_Z below G P (some (.int r)) σ σ' [.ref a0] s) (F0 m 97 ls [])) → (∀  (υ : mx_S), o = .inr (.inr (.inr υ)) → ∀ (H : Heap) (locs : List Loc), mx_J G P s.heap (mxz σ) (mxu σ) υ H locs → ∀ ls : Array Slot, lv_has ls 5 [] → W p l e (mx_rm P 5 133 σ) s m ([.ref a0] : List Value).toArray below meth c H locs (mxz υ - mxz σ) (mxu υ - mxu σ) (mx_Z below G P (some (.int r)) σ σ' [.ref a0] s) (F0 m 121 ls [])) → ∀ (H : Heap) (locs : List Loc), mx_J G P s.heap (mxz σ) (mxu σ) τ H locs → ∀ ls : Array Slot, lv_has ls 5 [(0, .ref v0), (1, .int v1), (2, .int v2)] → W p l e (mx_rm P 5 133 σ) s m ([.ref a0] : List Value).toArray below meth c H locs (mxz τ - mxz σ) (mxu τ - mxu σ) (mx_Z below G P (some (.int r)) σ σ' [.ref a0] s) (F0 m 12 ls []) := by
    intro v0 v1 v2 τ o hf Kb Ke0 Ke1 Ke2 H locs hJ ls hl
    unfold f_X4_isReduced_B12 at hf
    refine lv_iload_n hx hb dX4_isReduced_12 rfl (lv_at hl 2 rfl) ?_
    refine lv_bipush (v := 12) hx hb dX4_isReduced_13 (by decide) ?_
    refine lv_icmp_ge (tgt := 121) hx hb dX4_isReduced_15 (by decide) (fun c5 => ?_) (fun c5 => ?_)
    · rw [if_pos c5] at hf
      exact Ke2 τ (Option.some.inj hf).symm _ _ hJ ls (lv_sub hl [] rfl)
    · rw [if_neg c5] at hf
      refine lv_iload_n hx hb dX4_isReduced_18 rfl (lv_at hl 1 rfl) ?_
      refine lv_aload_n hx hb dX4_isReduced_19 rfl (lv_at hl 0 rfl) ?_
      obtain ⟨x6, e7, hf⟩ := mb0 hf
      refine my_gI hx hb hts hown hK hJ fd_RX4_81 hv_4_13 e7 dX4_isReduced_20 ?_
      refine lv_icmp_ge (tgt := 121) hx hb dX4_isReduced_23 (by decide) (fun c8 => ?_) (fun c8 => ?_)
      · rw [if_pos c8] at hf
        exact Ke2 τ (Option.some.inj hf).symm _ _ hJ ls (lv_sub hl [] rfl)
      · rw [if_neg c8] at hf
        refine lv_aload_n hx hb dX4_isReduced_26 rfl (lv_at hl 0 rfl) ?_
        refine lv_iload_n hx hb dX4_isReduced_27 rfl (lv_at hl 2 rfl) ?_
        refine lv_iload_n hx hb dX4_isReduced_28 rfl (lv_at hl 1 rfl) ?_
        obtain ⟨i9, e10, hf⟩ := mb0 hf
        obtain ⟨x12, σ11, e13, hf⟩ := mc0 hf
        refine mx_callV (As := [.int v2, .int v1]) (rest := []) hx hb hml hts hown hK hJ rfl rfl (ci := 4) rfl e10 (c_X4_firstWith l G P v0 v2 v1 τ x12 σ11 e13) me_X4_firstWith kw_866 ks_15 kw_864 (Nat.le_of_ble_eq_true rfl) (Nat.le_of_ble_eq_true rfl) rfl hl.1 rfl (Nat.le_of_ble_eq_true rfl) dX4_isReduced_29 (fun H locs hJ => ?_)
        refine lv_istore_n (lv' := [(3, .int x12), (0, .ref v0), (1, .int v1), (2, .int v2)]) hx hb dX4_isReduced_32 rfl hl (by decide) rfl (fun ls hl => ?_)
        refine lv_iload_n hx hb dX4_isReduced_33 rfl (lv_at hl 0 rfl) ?_
        refine lv_if_lt (tgt := 115) hx hb dX4_isReduced_34 (by decide) (fun c14 => ?_) (fun c14 => ?_)
        · rw [if_pos c14] at hf
          exact D115_12 v0 v1 v2 σ11 o hf Kb Ke0 Ke1 Ke2 _ _ hJ ls (lv_sub hl [1, 2, 3] rfl)
        · rw [if_neg c14] at hf
          refine lv_aload_n hx hb dX4_isReduced_37 rfl (lv_at hl 1 rfl) ?_
          refine lv_iload_n hx hb dX4_isReduced_38 rfl (lv_at hl 0 rfl) ?_
          refine lv_iload_n hx hb dX4_isReduced_39 rfl (lv_at hl 2 rfl) ?_
          obtain ⟨i17, e18, hf⟩ := mb0 hf
          obtain ⟨σ19, e20, hf⟩ := mb0 hf
          refine mx_callV (As := [.int x12, .int v1]) (rest := []) hx hb hml hts hown hK hJ rfl rfl (ci := 4) rfl e18 (c_X4_changePlaces l G P v0 x12 v1 σ11 σ19 e20) me_X4_changePlaces kw_870 ks_16 kw_868 (Nat.le_of_ble_eq_true rfl) (Nat.le_of_ble_eq_true rfl) rfl hl.1 rfl (Nat.le_of_ble_eq_true rfl) dX4_isReduced_40 (fun H locs hJ => ?_)
          refine lv_aload_n hx hb dX4_isReduced_43 rfl (lv_at hl 1 rfl) ?_
          refine lv_iload_n hx hb dX4_isReduced_44 rfl (lv_at hl 2 rfl) ?_
          refine lv_iload_n hx hb dX4_isReduced_45 rfl (lv_at hl 3 rfl) ?_
          obtain ⟨i21, e22, hf⟩ := mb0 hf
          obtain ⟨x24, σ23, e25, hf⟩ := mc0 hf
          refine mx_callV (As := [.int v1, .int v2]) (rest := []) hx hb hml hts hown hK hJ rfl rfl (ci := 4) rfl e22 (c_X4_isDivided l G P v0 v1 v2 σ19 x24 σ23 e25) me_X4_isDivided kw_874 ks_17 kw_872 (Nat.le_of_ble_eq_true rfl) (Nat.le_of_ble_eq_true rfl) rfl hl.1 rfl (Nat.le_of_ble_eq_true rfl) dX4_isReduced_46 (fun H locs hJ => ?_)
          refine lv_if_ne (tgt := 54) hx hb dX4_isReduced_49 (by decide) (fun c26 => ?_) (fun c26 => ?_)
          · rw [if_neg c26] at hf
            refine lv_iconst (v := 0) hx hb dX4_isReduced_54 (by decide) ?_
            refine lv_istore (lv' := [(4, .int (0 : Int32)), (3, .int x12), (0, .ref v0), (1, .int v1), (2, .int v2)]) hx hb dX4_isReduced_55 hl (by decide) rfl (fun ls hl => ?_)
            obtain ⟨o46, e47, hf⟩ := mb0 hf
            refine L57 v0 v1 v2 (mpN P) (0 : Int32) σ23 o46 e47 (fun σ48 ho H locs hJ ls hl => ?_) (fun σ49 ho H locs hJ ls hl => ?_) _ _ hJ ls (lv_sub hl [2, 3, 4, 0] rfl)
            · rw [ho] at hf
              have hf : (some (.inr (.inr (.inl σ48)))) = some o := hf
              exact Ke1 σ48 (Option.some.inj hf).symm _ _ hJ ls (lv_sub hl [] rfl)
            · rw [ho] at hf
              have hf : ((mg_R σ49 v0 4 12).bind fun b50 => (ms_I P σ49 b50 0 v2 v1).bind fun σ52 => (some (v1 + (1 : Int32))).bind fun x54 => f_X4_isReduced_D115_12 P v0 x54 v2 σ52) = some o := hf
              refine lv_aload_n hx hb dX4_isReduced_105 rfl (lv_at hl 0 rfl) ?_
              obtain ⟨b50, e51, hf⟩ := mb0 hf
              refine my_gR hx hb hts hown hK hJ fd_RX4_39 hv_4_12 e51 dX4_isReduced_106 ?_
              refine lv_iload_n hx hb dX4_isReduced_109 rfl (lv_at hl 2 rfl) ?_
              refine lv_iload_n hx hb dX4_isReduced_110 rfl (lv_at hl 1 rfl) ?_
              obtain ⟨σ52, e53, hf⟩ := mb0 hf
              refine mx_sI hx hb hK hJ e53 dX4_isReduced_111 (fun H locs hJ => ?_)
              obtain ⟨x54, e55, hf⟩ := mb0 hf
              refine lv_iinc (v := x54) (lv' := [(1, .int x54), (0, .ref v0), (2, .int v2)]) hx hb dX4_isReduced_112 hl (k := 1) rfl (by rw [← Option.some.inj e55]; rfl) (by decide) rfl (fun ls hl => ?_)
              exact D115_12 v0 x54 v2 σ52 o hf Kb Ke0 Ke1 Ke2 _ _ hJ ls (lv_sub hl [1, 0, 2] rfl)
          · rw [if_pos c26] at hf
            exact Ke0 σ23 (Option.some.inj hf).symm _ _ hJ ls (lv_sub hl [] rfl)
  have L12 : ∀ (v0 : Nat) (n : Nat) (v1 : Int32) (v2 : Int32) (τ : mx_S) (o : (mx_S) ⊕ (mx_S) ⊕ (mx_S)), mx_lp (f_X4_isReduced_L12 P v0) n (v1, v2, τ) = some o → (∀  (υ : mx_S), o = (.inl υ) → ∀ (H : Heap) (locs : List Loc), mx_J G P s.heap (mxz σ) (mxu σ) υ H locs → ∀ ls : Array Slot, lv_has ls 5 [] → W p l e (mx_rm P 5 133 σ) s m ([.ref a0] : List Value).toArray below meth c H locs (mxz υ - mxz σ) (mxu υ - mxu σ) (mx_Z below G P (some (.int r)) σ σ' [.ref a0] s) (F0 m 52 ls [])) → (∀  (υ : mx_S), o = (.inr (.inl υ)) → ∀ (H : Heap) (locs : List Loc), mx_J G P s.heap (mxz σ) (mxu σ) υ H locs → ∀ ls : Array Slot, lv_has ls 5 [] → W p l e (mx_rm P 5 133 σ) s m ([.ref a0] : List Value).toArray below meth c H locs (mxz υ - mxz σ) (mxu υ - mxu σ) (mx_Z below G P (some (.int r)) σ σ' [.ref a0] s) (F0 m 97 ls [])) → (∀  (υ : mx_S), o = (.inr (.inr υ)) → ∀ (H : Heap) (locs : List Loc), mx_J G P s.heap (mxz σ) (mxu σ) υ H locs → ∀ ls : Array Slot, lv_has ls 5 [] → W p l e (mx_rm P 5 133 σ) s m ([.ref a0] : List Value).toArray below meth c H locs (mxz υ - mxz σ) (mxu υ - mxu σ) (mx_Z below G P (some (.int r)) σ σ' [.ref a0] s) (F0 m 121 ls [])) → ∀ (H : Heap) (locs : List Loc), mx_J G P s.heap (mxz σ) (mxu σ) τ H locs → ∀ ls : Array Slot, lv_has ls 5 [(0, .ref v0), (1, .int v1), (2, .int v2)] → W p l e (mx_rm P 5 133 σ) s m ([.ref a0] : List Value).toArray below meth c H locs (mxz τ - mxz σ) (mxu τ - mxu σ) (mx_Z below G P (some (.int r)) σ σ' [.ref a0] s) (F0 m 12 ls []) := by
    intro v0 n
    induction n with
    | zero =>
      intro v1 v2 τ o hf
      rw [mx_lp0] at hf
      cases hf
    | succ n ih =>
      intro v1 v2 τ o hf Ke0 Ke1 Ke2 H locs hJ ls hl
      rw [mx_lpS] at hf
      obtain ⟨b, eb, hf⟩ := mb0 hf
      refine B12 v0 v1 v2 τ b eb (fun y1 y2 υ ho H locs hJ ls hl => ?_) (fun  υ ho H locs hJ ls hl => ?_) (fun  υ ho H locs hJ ls hl => ?_) (fun  υ ho H locs hJ ls hl => ?_) H locs hJ ls hl
      · subst ho
        exact ih y1 y2 υ o hf Ke0 Ke1 Ke2 H locs hJ ls hl
      · subst ho
        exact Ke0  υ (Option.some.inj hf).symm _ _ hJ ls hl
      · subst ho
        exact Ke1  υ (Option.some.inj hf).symm _ _ hJ ls hl
      · subst ho
        exact Ke2  υ (Option.some.inj hf).symm _ _ hJ ls hl
  have D121 : ∀  (τ : mx_S), f_X4_isReduced_D121 P  τ = some (r, σ') → ∀ (H : Heap) (locs : List Loc), mx_J G P s.heap (mxz σ) (mxu σ) τ H locs → ∀ ls : Array Slot, lv_has ls 5 [] → W p l e (mx_rm P 5 133 σ) s m ([.ref a0] : List Value).toArray below meth c H locs (mxz τ - mxz σ) (mxu τ - mxu σ) (mx_Z below G P (some (.int r)) σ σ' [.ref a0] s) (F0 m 121 ls []) := by
    intro  τ hf _ _ hJ ls hl
    unfold f_X4_isReduced_D121 at hf
    refine lv_iconst (v := 1) hx hb dX4_isReduced_121 (by decide) ?_
    exact mx_zret hx hb hr hlocks hJ hf dX4_isReduced_122
  unfold f_X4_isReduced at hf
  refine lv_aload_n hx hb dX4_isReduced_0 rfl (lv_at hl 0 rfl) ?_
  obtain ⟨b1, e2, hf⟩ := mb0 hf
  refine my_gR hx hb hts hown hK hJ fd_RX4_39 hv_4_12 e2 dX4_isReduced_1 ?_
  refine lv_iconst (v := (-1)) hx hb dX4_isReduced_4 (by decide) ?_
  obtain ⟨σ3, e4, hf⟩ := mb0 hf
  refine mx_callS (As := [.ref b1, .int (-1 : Int32)]) (rest := []) hx hb hml hts hown hK hJ rfl rfl (c_J7_fill_53178 l G P b1 (-1 : Int32) σ σ3 e4) me_J7_fill_53178 kw_817 kw_816 (Nat.le_of_ble_eq_true rfl) (Nat.le_of_ble_eq_true rfl) rfl hl.1 rfl (Nat.le_of_ble_eq_true rfl) dX4_isReduced_5 (fun H locs hJ => ?_)
  refine lv_iconst (v := 0) hx hb dX4_isReduced_8 (by decide) ?_
  refine lv_istore_n (lv' := [(1, .int (0 : Int32)), (0, .ref a0)]) hx hb dX4_isReduced_9 rfl hl (by decide) rfl (fun ls hl => ?_)
  refine lv_iconst (v := 0) hx hb dX4_isReduced_10 (by decide) ?_
  refine lv_istore_n (lv' := [(2, .int (0 : Int32)), (1, .int (0 : Int32)), (0, .ref a0)]) hx hb dX4_isReduced_11 rfl hl (by decide) rfl (fun ls hl => ?_)
  obtain ⟨o56, e57, hf⟩ := mb0 hf
  refine L12 a0 (mpN P) (0 : Int32) (0 : Int32) σ3 o56 e57 (fun σ58 ho H locs hJ ls hl => ?_) (fun σ59 ho H locs hJ ls hl => ?_) (fun σ60 ho H locs hJ ls hl => ?_) _ _ hJ ls (lv_sub hl [2, 1, 0] rfl)
  · rw [ho] at hf
    have hf : (mr_Z (0 : Int32) σ58) = some (r, σ') := hf
    refine lv_iconst (v := 0) hx hb dX4_isReduced_52 (by decide) ?_
    exact mx_zret hx hb hr hlocks hJ hf dX4_isReduced_53
  · rw [ho] at hf
    have hf : (mr_Z (0 : Int32) σ59) = some (r, σ') := hf
    refine lv_iconst (v := 0) hx hb dX4_isReduced_97 (by decide) ?_
    exact mx_zret hx hb hr hlocks hJ hf dX4_isReduced_98
  · rw [ho] at hf
    have hf : (f_X4_isReduced_D121 P  σ60) = some (r, σ') := hf
    exact D121  σ60 hf _ _ hJ ls (lv_sub hl [] rfl)
set_option maxHeartbeats 4000000 in
set_option maxRecDepth 100000 in
theorem c_X4_othersAreZero (l : Launch) (G : mx_G) (P : mx_P) (a0 : Nat) (p1 : Int32) (p2 : Int32) (σ : mx_S) (r : Int32) (σ' : mx_S) (hf : f_X4_othersAreZero P a0 p1 p2 σ = some (r, σ')) : mxz σ ≤ mpc P → mxu σ ≤ mps P → mx_M l yX4_othersAreZero cX4_othersAreZero 4 (some .boolean) 0 0 G P [.ref a0, .int p1, .int p2] σ (some (.int r)) σ' := by
  intro hcap hcau
  refine mx_ofW (by decide +kernel) hcap hcau (Nat.le_of_ble_eq_true rfl) ?_
  intro p e s m below meth c hx hb hr hml hts hown hlocks hname hK hJ ls hl
  have hz0 := hJ.2.1
  have hown : s.vm.findClass RX4 = some m.cls := hown
  have hl : lv_has ls 4 [(0, .ref a0), (1, .int p1), (2, .int p2)] := hl
  have D28_2 : ∀ (v0 : Nat) (v1 : Int32) (v2 : Int32) (v3 : Int32) (τ : mx_S) (o : (Int32 × mx_S) ⊕ ((mx_S) ⊕ (mx_S))), f_X4_othersAreZero_D28_2 P v0 v1 v2 v3 τ = some o → (∀ (y3 : Int32) (υ : mx_S), o = .inl (y3, υ) → ∀ (H : Heap) (locs : List Loc), mx_J G P s.heap (mxz σ) (mxu σ) υ H locs → ∀ ls : Array Slot, lv_has ls 4 [(0, .ref v0), (1, .int v1), (2, .int v2), (3, .int y3)] → W p l e (mx_rm P 0 0 σ) s m ([.ref a0, .int p1, .int p2] : List Value).toArray below meth c H locs (mxz υ - mxz σ) (mxu υ - mxu σ) (mx_Z below G P (some (.int r)) σ σ' [.ref a0, .int p1, .int p2] s) (F0 m 2 ls [])) → (∀  (υ : mx_S), o = .inr (.inl υ) → ∀ (H : Heap) (locs : List Loc), mx_J G P s.heap (mxz σ) (mxu σ) υ H locs → ∀ ls : Array Slot, lv_has ls 4 [] → W p l e (mx_rm P 0 0 σ) s m ([.ref a0, .int p1, .int p2] : List Value).toArray below meth c H locs (mxz υ - mxz σ) (mxu υ - mxu σ) (mx_Z below G P (some (.int r)) σ σ' [.ref a0, .int p1, .int p2] s) (F0 m 26 ls [])) → (∀  (υ : mx_S), o = .inr (.inr υ) → ∀ (H : Heap) (locs : List Loc), mx_J G P s.heap (mxz σ) (mxu σ) υ H locs → ∀ ls : Array Slot, lv_has ls 4 [] → W p l e (mx_rm P 0 0 σ) s m ([.ref a0, .int p1, .int p2] : List Value).toArray below meth c H locs (mxz υ - mxz σ) (mxu υ - mxu σ) (mx_Z below G P (some (.int r)) σ σ' [.ref a0, .int p1, .int p2] s) (F0 m 34 ls [])) → ∀ (H : Heap) (locs : List Loc), mx_J G P s.heap (mxz σ) (mxu σ) τ H locs → ∀ ls : Array Slot, lv_has ls 4 [(0, .ref v0), (1, .int v1), (2, .int v2), (3, .int v3)] → W p l e (mx_rm P 0 0 σ) s m ([.ref a0, .int p1, .int p2] : List Value).toArray below meth c H locs (mxz τ - mxz σ) (mxu τ - mxu σ) (mx_Z below G P (some (.int r)) σ σ' [.ref a0, .int p1, .int p2] s) (F0 m 28 ls []) := by
    intro v0 v1 v2 v3 τ o hf Kb Ke0 Ke1 H locs hJ ls hl
    unfold f_X4_othersAreZero_D28_2 at hf
    obtain ⟨x3, e4, hf⟩ := mb0 hf
    refine lv_iinc (v := x3) (lv' := [(3, .int x3), (0, .ref v0), (1, .int v1), (2, .int v2)]) hx hb dX4_othersAreZero_28 hl (k := 3) rfl (by rw [← Option.some.inj e4]; rfl) (by decide) rfl (fun ls hl => ?_)
    refine lv_goto (tgt := 2) hx hb dX4_othersAreZero_31 (by decide) ?_
    exact Kb x3 τ (Option.some.inj hf).symm _ _ hJ ls (lv_sub hl [1, 2, 3, 0] rfl)
  have B2 : ∀ (v0 : Nat) (v1 : Int32) (v2 : Int32) (v3 : Int32) (τ : mx_S) (o : (Int32 × mx_S) ⊕ ((mx_S) ⊕ (mx_S))), f_X4_othersAreZero_B2 P v0 v1 v2 v3 τ = some o → (∀ (y3 : Int32) (υ : mx_S), o = .inl (y3, υ) → ∀ (H : Heap) (locs : List Loc), mx_J G P s.heap (mxz σ) (mxu σ) υ H locs → ∀ ls : Array Slot, lv_has ls 4 [(0, .ref v0), (1, .int v1), (2, .int v2), (3, .int y3)] → W p l e (mx_rm P 0 0 σ) s m ([.ref a0, .int p1, .int p2] : List Value).toArray below meth c H locs (mxz υ - mxz σ) (mxu υ - mxu σ) (mx_Z below G P (some (.int r)) σ σ' [.ref a0, .int p1, .int p2] s) (F0 m 2 ls [])) → (∀  (υ : mx_S), o = .inr (.inl υ) → ∀ (H : Heap) (locs : List Loc), mx_J G P s.heap (mxz σ) (mxu σ) υ H locs → ∀ ls : Array Slot, lv_has ls 4 [] → W p l e (mx_rm P 0 0 σ) s m ([.ref a0, .int p1, .int p2] : List Value).toArray below meth c H locs (mxz υ - mxz σ) (mxu υ - mxu σ) (mx_Z below G P (some (.int r)) σ σ' [.ref a0, .int p1, .int p2] s) (F0 m 26 ls [])) → (∀  (υ : mx_S), o = .inr (.inr υ) → ∀ (H : Heap) (locs : List Loc), mx_J G P s.heap (mxz σ) (mxu σ) υ H locs → ∀ ls : Array Slot, lv_has ls 4 [] → W p l e (mx_rm P 0 0 σ) s m ([.ref a0, .int p1, .int p2] : List Value).toArray below meth c H locs (mxz υ - mxz σ) (mxu υ - mxu σ) (mx_Z below G P (some (.int r)) σ σ' [.ref a0, .int p1, .int p2] s) (F0 m 34 ls [])) → ∀ (H : Heap) (locs : List Loc), mx_J G P s.heap (mxz σ) (mxu σ) τ H locs → ∀ ls : Array Slot, lv_has ls 4 [(0, .ref v0), (1, .int v1), (2, .int v2), (3, .int v3)] → W p l e (mx_rm P 0 0 σ) s m ([.ref a0, .int p1, .int p2] : List Value).toArray below meth c H locs (mxz τ - mxz σ) (mxu τ - mxu σ) (mx_Z below G P (some (.int r)) σ σ' [.ref a0, .int p1, .int p2] s) (F0 m 2 ls []) := by
    intro v0 v1 v2 v3 τ o hf Kb Ke0 Ke1 H locs hJ ls hl
    unfold f_X4_othersAreZero_B2 at hf
    refine lv_iload_n hx hb dX4_othersAreZero_2 rfl (lv_at hl 3 rfl) ?_
    refine lv_bipush (v := 12) hx hb dX4_othersAreZero_3 (by decide) ?_
    refine lv_icmp_ge (tgt := 34) hx hb dX4_othersAreZero_5 (by decide) (fun c1 => ?_) (fun c1 => ?_)
    · rw [if_pos c1] at hf
      exact Ke1 τ (Option.some.inj hf).symm _ _ hJ ls (lv_sub hl [] rfl)
    · rw [if_neg c1] at hf
      refine lv_iload_n hx hb dX4_othersAreZero_8 rfl (lv_at hl 3 rfl) ?_
      refine lv_iload_n hx hb dX4_othersAreZero_9 rfl (lv_at hl 2 rfl) ?_
      refine lv_icmp_eq (tgt := 28) hx hb dX4_othersAreZero_10 (by decide) (fun c2 => ?_) (fun c2 => ?_)
      · rw [if_pos c2] at hf
        exact D28_2 v0 v1 v2 v3 τ o hf Kb Ke0 Ke1 _ _ hJ ls (lv_sub hl [0, 1, 2, 3] rfl)
      · rw [if_neg c2] at hf
        refine lv_aload_n hx hb dX4_othersAreZero_13 rfl (lv_at hl 0 rfl) ?_
        obtain ⟨b5, e6, hf⟩ := mb0 hf
        refine my_gR hx hb hts hown hK hJ fd_RX4_33 hv_4_10 e6 dX4_othersAreZero_14 ?_
        refine lv_iload_n hx hb dX4_othersAreZero_17 rfl (lv_at hl 1 rfl) ?_
        obtain ⟨b7, e8, hf⟩ := mb0 hf
        refine mx_aR hx hb hK hJ (t := 7) rfl (fun _ _ _ => rfl) e8 dX4_othersAreZero_18 ?_
        refine lv_iload_n hx hb dX4_othersAreZero_19 rfl (lv_at hl 3 rfl) ?_
        obtain ⟨x9, e10, hf⟩ := mb0 hf
        refine mx_aL hx hb hK hJ e10 dX4_othersAreZero_20 ?_
        refine lv_lconst (v := 0) hx hb dX4_othersAreZero_21 (by decide) ?_
        refine W.lcmp hx hb dX4_othersAreZero_22 ?_
        refine lv_if_eq (tgt := 28) hx hb dX4_othersAreZero_23 (by decide) (fun c11 => ?_) (fun c11 => ?_)
        · rw [if_pos c11] at hf
          exact D28_2 v0 v1 v2 v3 τ o hf Kb Ke0 Ke1 _ _ hJ ls (lv_sub hl [0, 1, 2, 3] rfl)
        · rw [if_neg c11] at hf
          exact Ke0 τ (Option.some.inj hf).symm _ _ hJ ls (lv_sub hl [] rfl)
  have L2 : ∀ (v0 : Nat) (v1 : Int32) (v2 : Int32) (n : Nat) (v3 : Int32) (τ : mx_S) (o : (mx_S) ⊕ (mx_S)), mx_lp (f_X4_othersAreZero_L2 P v0 v1 v2) n (v3, τ) = some o → (∀  (υ : mx_S), o = (.inl υ) → ∀ (H : Heap) (locs : List Loc), mx_J G P s.heap (mxz σ) (mxu σ) υ H locs → ∀ ls : Array Slot, lv_has ls 4 [] → W p l e (mx_rm P 0 0 σ) s m ([.ref a0, .int p1, .int p2] : List Value).toArray below meth c H locs (mxz υ - mxz σ) (mxu υ - mxu σ) (mx_Z below G P (some (.int r)) σ σ' [.ref a0, .int p1, .int p2] s) (F0 m 26 ls [])) → (∀  (υ : mx_S), o = (.inr υ) → ∀ (H : Heap) (locs : List Loc), mx_J G P s.heap (mxz σ) (mxu σ) υ H locs → ∀ ls : Array Slot, lv_has ls 4 [] → W p l e (mx_rm P 0 0 σ) s m ([.ref a0, .int p1, .int p2] : List Value).toArray below meth c H locs (mxz υ - mxz σ) (mxu υ - mxu σ) (mx_Z below G P (some (.int r)) σ σ' [.ref a0, .int p1, .int p2] s) (F0 m 34 ls [])) → ∀ (H : Heap) (locs : List Loc), mx_J G P s.heap (mxz σ) (mxu σ) τ H locs → ∀ ls : Array Slot, lv_has ls 4 [(0, .ref v0), (1, .int v1), (2, .int v2), (3, .int v3)] → W p l e (mx_rm P 0 0 σ) s m ([.ref a0, .int p1, .int p2] : List Value).toArray below meth c H locs (mxz τ - mxz σ) (mxu τ - mxu σ) (mx_Z below G P (some (.int r)) σ σ' [.ref a0, .int p1, .int p2] s) (F0 m 2 ls []) := by
    intro v0 v1 v2 n
    induction n with
    | zero =>
      intro v3 τ o hf
      rw [mx_lp0] at hf
      cases hf
    | succ n ih =>
      intro v3 τ o hf Ke0 Ke1 H locs hJ ls hl
      rw [mx_lpS] at hf
      obtain ⟨b, eb, hf⟩ := mb0 hf
      refine B2 v0 v1 v2 v3 τ b eb (fun y3 υ ho H locs hJ ls hl => ?_) (fun  υ ho H locs hJ ls hl => ?_) (fun  υ ho H locs hJ ls hl => ?_) H locs hJ ls hl
      · subst ho
        exact ih y3 υ o hf Ke0 Ke1 H locs hJ ls hl
      · subst ho
        exact Ke0  υ (Option.some.inj hf).symm _ _ hJ ls hl
      · subst ho
        exact Ke1  υ (Option.some.inj hf).symm _ _ hJ ls hl
  unfold f_X4_othersAreZero at hf
  refine lv_iconst (v := 0) hx hb dX4_othersAreZero_0 (by decide) ?_
  refine lv_istore_n (lv' := [(3, .int (0 : Int32)), (0, .ref a0), (1, .int p1), (2, .int p2)]) hx hb dX4_othersAreZero_1 rfl hl (by decide) rfl (fun ls hl => ?_)
  obtain ⟨o12, e13, hf⟩ := mb0 hf
  refine L2 a0 p1 p2 (mpN P) (0 : Int32) σ o12 e13 (fun σ14 ho H locs hJ ls hl => ?_) (fun σ15 ho H locs hJ ls hl => ?_) _ _ hJ ls (lv_sub hl [1, 2, 3, 0] rfl)
  · rw [ho] at hf
    have hf : (mr_Z (0 : Int32) σ14) = some (r, σ') := hf
    refine lv_iconst (v := 0) hx hb dX4_othersAreZero_26 (by decide) ?_
    exact mx_zret hx hb hr hlocks hJ hf dX4_othersAreZero_27
  · rw [ho] at hf
    have hf : (mr_Z (1 : Int32) σ15) = some (r, σ') := hf
    refine lv_iconst (v := 1) hx hb dX4_othersAreZero_34 (by decide) ?_
    exact mx_zret hx hb hr hlocks hJ hf dX4_othersAreZero_35
set_option maxHeartbeats 4000000 in
set_option maxRecDepth 100000 in
theorem c_X4_contradicts (l : Launch) (G : mx_G) (P : mx_P) (a0 : Nat) (σ : mx_S) (r : Int32) (σ' : mx_S) (hf : f_X4_contradicts P a0 σ = some (r, σ')) : mxz σ ≤ mpc P → mxu σ ≤ mps P → mx_M l yX4_contradicts cX4_contradicts 2 (some .boolean) 1 23 G P [.ref a0] σ (some (.int r)) σ' := by
  intro hcap hcau
  refine mx_ofW (by decide +kernel) hcap hcau (Nat.le_of_ble_eq_true rfl) ?_
  intro p e s m below meth c hx hb hr hml hts hown hlocks hname hK hJ ls hl
  have hz0 := hJ.2.1
  have hown : s.vm.findClass RX4 = some m.cls := hown
  have hl : lv_has ls 2 [(0, .ref a0)] := hl
  have D35_2 : ∀ (v0 : Nat) (v1 : Int32) (τ : mx_S) (o : (Int32 × mx_S) ⊕ ((mx_S) ⊕ (mx_S))), f_X4_contradicts_D35_2 P v0 v1 τ = some o → (∀ (y1 : Int32) (υ : mx_S), o = .inl (y1, υ) → ∀ (H : Heap) (locs : List Loc), mx_J G P s.heap (mxz σ) (mxu σ) υ H locs → ∀ ls : Array Slot, lv_has ls 2 [(0, .ref v0), (1, .int y1)] → W p l e (mx_rm P 1 23 σ) s m ([.ref a0] : List Value).toArray below meth c H locs (mxz υ - mxz σ) (mxu υ - mxu σ) (mx_Z below G P (some (.int r)) σ σ' [.ref a0] s) (F0 m 2 ls [])) → (∀  (υ : mx_S), o = .inr (.inl υ) → ∀ (H : Heap) (locs : List Loc), mx_J G P s.heap (mxz σ) (mxu σ) υ H locs → ∀ ls : Array Slot, lv_has ls 2 [] → W p l e (mx_rm P 1 23 σ) s m ([.ref a0] : List Value).toArray below meth c H locs (mxz υ - mxz σ) (mxu υ - mxu σ) (mx_Z below G P (some (.int r)) σ σ' [.ref a0] s) (F0 m 33 ls [])) → (∀  (υ : mx_S), o = .inr (.inr υ) → ∀ (H : Heap) (locs : List Loc), mx_J G P s.heap (mxz σ) (mxu σ) υ H locs → ∀ ls : Array Slot, lv_has ls 2 [] → W p l e (mx_rm P 1 23 σ) s m ([.ref a0] : List Value).toArray below meth c H locs (mxz υ - mxz σ) (mxu υ - mxu σ) (mx_Z below G P (some (.int r)) σ σ' [.ref a0] s) (F0 m 41 ls [])) → ∀ (H : Heap) (locs : List Loc), mx_J G P s.heap (mxz σ) (mxu σ) τ H locs → ∀ ls : Array Slot, lv_has ls 2 [(0, .ref v0), (1, .int v1)] → W p l e (mx_rm P 1 23 σ) s m ([.ref a0] : List Value).toArray below meth c H locs (mxz τ - mxz σ) (mxu τ - mxu σ) (mx_Z below G P (some (.int r)) σ σ' [.ref a0] s) (F0 m 35 ls []) := by
    intro v0 v1 τ o hf Kb Ke0 Ke1 H locs hJ ls hl
    unfold f_X4_contradicts_D35_2 at hf
    obtain ⟨x11, e12, hf⟩ := mb0 hf
    refine lv_iinc (v := x11) (lv' := [(1, .int x11), (0, .ref v0)]) hx hb dX4_contradicts_35 hl (k := 1) rfl (by rw [← Option.some.inj e12]; rfl) (by decide) rfl (fun ls hl => ?_)
    refine lv_goto (tgt := 2) hx hb dX4_contradicts_38 (by decide) ?_
    exact Kb x11 τ (Option.some.inj hf).symm _ _ hJ ls (lv_sub hl [1, 0] rfl)
  have B2 : ∀ (v0 : Nat) (v1 : Int32) (τ : mx_S) (o : (Int32 × mx_S) ⊕ ((mx_S) ⊕ (mx_S))), f_X4_contradicts_B2 P v0 v1 τ = some o → (∀ (y1 : Int32) (υ : mx_S), o = .inl (y1, υ) → ∀ (H : Heap) (locs : List Loc), mx_J G P s.heap (mxz σ) (mxu σ) υ H locs → ∀ ls : Array Slot, lv_has ls 2 [(0, .ref v0), (1, .int y1)] → W p l e (mx_rm P 1 23 σ) s m ([.ref a0] : List Value).toArray below meth c H locs (mxz υ - mxz σ) (mxu υ - mxu σ) (mx_Z below G P (some (.int r)) σ σ' [.ref a0] s) (F0 m 2 ls [])) → (∀  (υ : mx_S), o = .inr (.inl υ) → ∀ (H : Heap) (locs : List Loc), mx_J G P s.heap (mxz σ) (mxu σ) υ H locs → ∀ ls : Array Slot, lv_has ls 2 [] → W p l e (mx_rm P 1 23 σ) s m ([.ref a0] : List Value).toArray below meth c H locs (mxz υ - mxz σ) (mxu υ - mxu σ) (mx_Z below G P (some (.int r)) σ σ' [.ref a0] s) (F0 m 33 ls [])) → (∀  (υ : mx_S), o = .inr (.inr υ) → ∀ (H : Heap) (locs : List Loc), mx_J G P s.heap (mxz σ) (mxu σ) υ H locs → ∀ ls : Array Slot, lv_has ls 2 [] → W p l e (mx_rm P 1 23 σ) s m ([.ref a0] : List Value).toArray below meth c H locs (mxz υ - mxz σ) (mxu υ - mxu σ) (mx_Z below G P (some (.int r)) σ σ' [.ref a0] s) (F0 m 41 ls [])) → ∀ (H : Heap) (locs : List Loc), mx_J G P s.heap (mxz σ) (mxu σ) τ H locs → ∀ ls : Array Slot, lv_has ls 2 [(0, .ref v0), (1, .int v1)] → W p l e (mx_rm P 1 23 σ) s m ([.ref a0] : List Value).toArray below meth c H locs (mxz τ - mxz σ) (mxu τ - mxu σ) (mx_Z below G P (some (.int r)) σ σ' [.ref a0] s) (F0 m 2 ls []) := by
    intro v0 v1 τ o hf Kb Ke0 Ke1 H locs hJ ls hl
    unfold f_X4_contradicts_B2 at hf
    refine lv_iload_n hx hb dX4_contradicts_2 rfl (lv_at hl 1 rfl) ?_
    refine lv_aload_n hx hb dX4_contradicts_3 rfl (lv_at hl 0 rfl) ?_
    obtain ⟨x1, e2, hf⟩ := mb0 hf
    refine my_gI hx hb hts hown hK hJ fd_RX4_81 hv_4_13 e2 dX4_contradicts_4 ?_
    refine lv_icmp_ge (tgt := 41) hx hb dX4_contradicts_7 (by decide) (fun c3 => ?_) (fun c3 => ?_)
    · rw [if_pos c3] at hf
      exact Ke1 τ (Option.some.inj hf).symm _ _ hJ ls (lv_sub hl [] rfl)
    · rw [if_neg c3] at hf
      refine lv_aload_n hx hb dX4_contradicts_10 rfl (lv_at hl 0 rfl) ?_
      obtain ⟨b4, e5, hf⟩ := mb0 hf
      refine my_gR hx hb hts hown hK hJ fd_RX4_33 hv_4_10 e5 dX4_contradicts_11 ?_
      refine lv_iload_n hx hb dX4_contradicts_14 rfl (lv_at hl 1 rfl) ?_
      obtain ⟨b6, e7, hf⟩ := mb0 hf
      refine mx_aR hx hb hK hJ (t := 7) rfl (fun _ _ _ => rfl) e7 dX4_contradicts_15 ?_
      refine lv_bipush (v := 12) hx hb dX4_contradicts_16 (by decide) ?_
      obtain ⟨x8, e9, hf⟩ := mb0 hf
      refine mx_aL hx hb hK hJ e9 dX4_contradicts_18 ?_
      refine lv_lconst (v := 0) hx hb dX4_contradicts_19 (by decide) ?_
      refine W.lcmp hx hb dX4_contradicts_20 ?_
      refine lv_if_eq (tgt := 35) hx hb dX4_contradicts_21 (by decide) (fun c10 => ?_) (fun c10 => ?_)
      · rw [if_pos c10] at hf
        exact D35_2 v0 v1 τ o hf Kb Ke0 Ke1 _ _ hJ ls (lv_sub hl [0, 1] rfl)
      · rw [if_neg c10] at hf
        refine lv_aload_n hx hb dX4_contradicts_24 rfl (lv_at hl 0 rfl) ?_
        refine lv_iload_n hx hb dX4_contradicts_25 rfl (lv_at hl 1 rfl) ?_
        refine lv_iconst (v := (-1)) hx hb dX4_contradicts_26 (by decide) ?_
        obtain ⟨i13, e14, hf⟩ := mb0 hf
        obtain ⟨x16, σ15, e17, hf⟩ := mc0 hf
        refine mx_callV (As := [.int v1, .int (-1 : Int32)]) (rest := []) hx hb hml hts hown hK hJ rfl rfl (ci := 4) rfl e14 (c_X4_othersAreZero l G P v0 v1 (-1 : Int32) τ x16 σ15 e17) me_X4_othersAreZero kw_908 ks_22 kw_906 (Nat.le_of_ble_eq_true rfl) (Nat.le_of_ble_eq_true rfl) rfl hl.1 rfl (Nat.le_of_ble_eq_true rfl) dX4_contradicts_27 (fun H locs hJ => ?_)
        refine lv_if_eq (tgt := 35) hx hb dX4_contradicts_30 (by decide) (fun c18 => ?_) (fun c18 => ?_)
        · rw [if_pos c18] at hf
          exact D35_2 v0 v1 σ15 o hf Kb Ke0 Ke1 _ _ hJ ls (lv_sub hl [0, 1] rfl)
        · rw [if_neg c18] at hf
          exact Ke0 σ15 (Option.some.inj hf).symm _ _ hJ ls (lv_sub hl [] rfl)
  have L2 : ∀ (v0 : Nat) (n : Nat) (v1 : Int32) (τ : mx_S) (o : (mx_S) ⊕ (mx_S)), mx_lp (f_X4_contradicts_L2 P v0) n (v1, τ) = some o → (∀  (υ : mx_S), o = (.inl υ) → ∀ (H : Heap) (locs : List Loc), mx_J G P s.heap (mxz σ) (mxu σ) υ H locs → ∀ ls : Array Slot, lv_has ls 2 [] → W p l e (mx_rm P 1 23 σ) s m ([.ref a0] : List Value).toArray below meth c H locs (mxz υ - mxz σ) (mxu υ - mxu σ) (mx_Z below G P (some (.int r)) σ σ' [.ref a0] s) (F0 m 33 ls [])) → (∀  (υ : mx_S), o = (.inr υ) → ∀ (H : Heap) (locs : List Loc), mx_J G P s.heap (mxz σ) (mxu σ) υ H locs → ∀ ls : Array Slot, lv_has ls 2 [] → W p l e (mx_rm P 1 23 σ) s m ([.ref a0] : List Value).toArray below meth c H locs (mxz υ - mxz σ) (mxu υ - mxu σ) (mx_Z below G P (some (.int r)) σ σ' [.ref a0] s) (F0 m 41 ls [])) → ∀ (H : Heap) (locs : List Loc), mx_J G P s.heap (mxz σ) (mxu σ) τ H locs → ∀ ls : Array Slot, lv_has ls 2 [(0, .ref v0), (1, .int v1)] → W p l e (mx_rm P 1 23 σ) s m ([.ref a0] : List Value).toArray below meth c H locs (mxz τ - mxz σ) (mxu τ - mxu σ) (mx_Z below G P (some (.int r)) σ σ' [.ref a0] s) (F0 m 2 ls []) := by
    intro v0 n
    induction n with
    | zero =>
      intro v1 τ o hf
      rw [mx_lp0] at hf
      cases hf
    | succ n ih =>
      intro v1 τ o hf Ke0 Ke1 H locs hJ ls hl
      rw [mx_lpS] at hf
      obtain ⟨b, eb, hf⟩ := mb0 hf
      refine B2 v0 v1 τ b eb (fun y1 υ ho H locs hJ ls hl => ?_) (fun  υ ho H locs hJ ls hl => ?_) (fun  υ ho H locs hJ ls hl => ?_) H locs hJ ls hl
      · subst ho
        exact ih y1 υ o hf Ke0 Ke1 H locs hJ ls hl
      · subst ho
        exact Ke0  υ (Option.some.inj hf).symm _ _ hJ ls hl
      · subst ho
        exact Ke1  υ (Option.some.inj hf).symm _ _ hJ ls hl
  unfold f_X4_contradicts at hf
  refine lv_iconst (v := 0) hx hb dX4_contradicts_0 (by decide) ?_
  refine lv_istore_n (lv' := [(1, .int (0 : Int32)), (0, .ref a0)]) hx hb dX4_contradicts_1 rfl hl (by decide) rfl (fun ls hl => ?_)
  obtain ⟨o19, e20, hf⟩ := mb0 hf
  refine L2 a0 (mpN P) (0 : Int32) σ o19 e20 (fun σ21 ho H locs hJ ls hl => ?_) (fun σ22 ho H locs hJ ls hl => ?_) _ _ hJ ls (lv_sub hl [1, 0] rfl)
  · rw [ho] at hf
    have hf : (mr_Z (1 : Int32) σ21) = some (r, σ') := hf
    refine lv_iconst (v := 1) hx hb dX4_contradicts_33 (by decide) ?_
    exact mx_zret hx hb hr hlocks hJ hf dX4_contradicts_34
  · rw [ho] at hf
    have hf : (mr_Z (0 : Int32) σ22) = some (r, σ') := hf
    refine lv_iconst (v := 0) hx hb dX4_contradicts_41 (by decide) ?_
    exact mx_zret hx hb hr hlocks hJ hf dX4_contradicts_42
set_option maxHeartbeats 4000000 in
set_option maxRecDepth 100000 in
theorem c_X4_outcome (l : Launch) (G : mx_G) (P : mx_P) (a0 : Nat) (σ : mx_S) (r : Int32) (σ' : mx_S) (hf : f_X4_outcome P a0 σ = some (r, σ')) : mxz σ ≤ mpc P → mxu σ ≤ mps P → mx_M l yX4_outcome cX4_outcome 1 (some .int) 6 157 G P [.ref a0] σ (some (.int r)) σ' := by
  intro hcap hcau
  refine mx_ofW (by decide +kernel) hcap hcau (Nat.le_of_ble_eq_true rfl) ?_
  intro p e s m below meth c hx hb hr hml hts hown hlocks hname hK hJ ls hl
  have hz0 := hJ.2.1
  have hown : s.vm.findClass RX4 = some m.cls := hown
  have hl : lv_has ls 1 [(0, .ref a0)] := hl
  have D42 : ∀ (v0 : Nat) (τ : mx_S), f_X4_outcome_D42 P v0 τ = some (r, σ') → ∀ (H : Heap) (locs : List Loc), mx_J G P s.heap (mxz σ) (mxu σ) τ H locs → ∀ ls : Array Slot, lv_has ls 1 [(0, .ref v0)] → W p l e (mx_rm P 6 157 σ) s m ([.ref a0] : List Value).toArray below meth c H locs (mxz τ - mxz σ) (mxu τ - mxu σ) (mx_Z below G P (some (.int r)) σ σ' [.ref a0] s) (F0 m 42 ls []) := by
    intro v0 τ hf _ _ hJ ls hl
    unfold f_X4_outcome_D42 at hf
    refine lv_aload_n hx hb dX4_outcome_42 rfl (lv_at hl 0 rfl) ?_
    obtain ⟨x4, e5, hf⟩ := mb0 hf
    refine my_gI hx hb hts hown hK hJ fd_RX4_62 hv_4_14 e5 dX4_outcome_43 ?_
    exact my_iret hx hb hr hlocks hJ hf dX4_outcome_46
  have D39 : ∀ (v0 : Nat) (w0 : Int32) (w1 : Nat) (τ : mx_S), f_X4_outcome_D39 P v0 w0 w1 τ = some (r, σ') → ∀ (H : Heap) (locs : List Loc), mx_J G P s.heap (mxz σ) (mxu σ) τ H locs → ∀ ls : Array Slot, lv_has ls 1 [(0, .ref v0)] → W p l e (mx_rm P 6 157 σ) s m ([.ref a0] : List Value).toArray below meth c H locs (mxz τ - mxz σ) (mxu τ - mxu σ) (mx_Z below G P (some (.int r)) σ σ' [.ref a0] s) (F0 m 39 ls [.int w0, .ref w1]) := by
    intro v0 w0 w1 τ hf _ _ hJ ls hl
    unfold f_X4_outcome_D39 at hf
    obtain ⟨σ22, e23, hf⟩ := mb0 hf
    refine my_pI hx hb hts hown hK hJ fd_RX4_62 cd_4 (Or.inl rfl) ht_4_14 e23 dX4_outcome_39 (fun H locs hJ => ?_)
    exact D42 v0 σ22 hf _ _ hJ ls (lv_sub hl [0] rfl)
  unfold f_X4_outcome at hf
  refine lv_aload_n hx hb dX4_outcome_0 rfl (lv_at hl 0 rfl) ?_
  obtain ⟨x1, e2, hf⟩ := mb0 hf
  refine my_gI hx hb hts hown hK hJ fd_RX4_62 hv_4_14 e2 dX4_outcome_1 ?_
  refine lv_if_ne (tgt := 42) hx hb dX4_outcome_4 (by decide) (fun c3 => ?_) (fun c3 => ?_)
  · rw [if_neg c3] at hf
    exact D42 a0 σ hf _ _ hJ ls (lv_sub hl [0] rfl)
  · rw [if_pos c3] at hf
    refine lv_aload_n hx hb dX4_outcome_7 rfl (lv_at hl 0 rfl) ?_
    obtain ⟨i6, e7, hf⟩ := mb0 hf
    obtain ⟨σ8, e9, hf⟩ := mb0 hf
    refine mx_callV (As := []) (rest := []) hx hb hml hts hown hK hJ rfl rfl (ci := 4) rfl e7 (c_X4_writeRows l G P a0 σ σ8 e9) me_X4_writeRows kw_829 ks_9 kw_827 (Nat.le_of_ble_eq_true rfl) (Nat.le_of_ble_eq_true rfl) rfl hl.1 rfl (Nat.le_of_ble_eq_true rfl) dX4_outcome_8 (fun H locs hJ => ?_)
    refine lv_aload_n hx hb dX4_outcome_11 rfl (lv_at hl 0 rfl) ?_
    obtain ⟨i10, e11, hf⟩ := mb0 hf
    obtain ⟨x13, σ12, e14, hf⟩ := mc0 hf
    refine mx_callV (As := []) (rest := []) hx hb hml hts hown hK hJ rfl rfl (ci := 4) rfl e11 (c_X4_isReduced l G P a0 σ8 x13 σ12 e14) me_X4_isReduced kw_862 ks_14 kw_860 (Nat.le_of_ble_eq_true rfl) (Nat.le_of_ble_eq_true rfl) rfl hl.1 rfl (Nat.le_of_ble_eq_true rfl) dX4_outcome_12 (fun H locs hJ => ?_)
    refine lv_if_ne (tgt := 26) hx hb dX4_outcome_15 (by decide) (fun c15 => ?_) (fun c15 => ?_)
    · rw [if_neg c15] at hf
      refine lv_aload_n hx hb dX4_outcome_26 rfl (lv_at hl 0 rfl) ?_
      refine lv_aload_n hx hb dX4_outcome_27 rfl (lv_at hl 0 rfl) ?_
      obtain ⟨i16, e17, hf⟩ := mb0 hf
      obtain ⟨x19, σ18, e20, hf⟩ := mc0 hf
      refine mx_callV (As := []) (rest := [.ref a0]) hx hb hml hts hown hK hJ rfl rfl (ci := 4) rfl e17 (c_X4_contradicts l G P a0 σ12 x19 σ18 e20) me_X4_contradicts kw_904 ks_21 kw_902 (Nat.le_of_ble_eq_true rfl) (Nat.le_of_ble_eq_true rfl) rfl hl.1 rfl (Nat.le_of_ble_eq_true rfl) dX4_outcome_28 (fun H locs hJ => ?_)
      refine lv_if_eq (tgt := 38) hx hb dX4_outcome_31 (by decide) (fun c21 => ?_) (fun c21 => ?_)
      · rw [if_pos c21] at hf
        refine lv_iconst (v := 1) hx hb dX4_outcome_38 (by decide) ?_
        exact D39 a0 (1 : Int32) a0 σ18 hf _ _ hJ ls (lv_sub hl [0] rfl)
      · rw [if_neg c21] at hf
        refine lv_iconst (v := 2) hx hb dX4_outcome_34 (by decide) ?_
        refine lv_goto (tgt := 39) hx hb dX4_outcome_35 (by decide) ?_
        exact D39 a0 (2 : Int32) a0 σ18 hf _ _ hJ ls (lv_sub hl [0] rfl)
    · rw [if_pos c15] at hf
      refine lv_aload_n hx hb dX4_outcome_18 rfl (lv_at hl 0 rfl) ?_
      refine lv_iconst (v := 3) hx hb dX4_outcome_19 (by decide) ?_
      obtain ⟨σ24, e25, hf⟩ := mb0 hf
      refine my_pI hx hb hts hown hK hJ fd_RX4_62 cd_4 (Or.inl rfl) ht_4_14 e25 dX4_outcome_20 (fun H locs hJ => ?_)
      refine lv_goto (tgt := 42) hx hb dX4_outcome_23 (by decide) ?_
      exact D42 a0 σ24 hf _ _ hJ ls (lv_sub hl [0] rfl)
set_option maxHeartbeats 4000000 in
set_option maxRecDepth 100000 in
theorem c_X4_isKnown (l : Launch) (G : mx_G) (P : mx_P) (a0 : Nat) (p1 : Int32) (a2 : Nat) (σ : mx_S) (r : Int32) (σ' : mx_S) (hf : f_X4_isKnown P a0 p1 a2 σ = some (r, σ')) : mxz σ ≤ mpc P → mxu σ ≤ mps P → mx_M l yX4_isKnown cX4_isKnown 4 (some .boolean) 1 23 G P [.ref a0, .int p1, .ref a2] σ (some (.int r)) σ' := by
  intro hcap hcau
  refine mx_ofW (by decide +kernel) hcap hcau (Nat.le_of_ble_eq_true rfl) ?_
  intro p e s m below meth c hx hb hr hml hts hown hlocks hname hK hJ ls hl
  have hz0 := hJ.2.1
  have hown : s.vm.findClass RX4 = some m.cls := hown
  have hl : lv_has ls 4 [(0, .ref a0), (1, .int p1), (2, .ref a2)] := hl
  have D20 : ∀  (τ : mx_S), f_X4_isKnown_D20 P  τ = some (r, σ') → ∀ (H : Heap) (locs : List Loc), mx_J G P s.heap (mxz σ) (mxu σ) τ H locs → ∀ ls : Array Slot, lv_has ls 4 [] → W p l e (mx_rm P 1 23 σ) s m ([.ref a0, .int p1, .ref a2] : List Value).toArray below meth c H locs (mxz τ - mxz σ) (mxu τ - mxu σ) (mx_Z below G P (some (.int r)) σ σ' [.ref a0, .int p1, .ref a2] s) (F0 m 20 ls []) := by
    intro  τ hf _ _ hJ ls hl
    unfold f_X4_isKnown_D20 at hf
    refine lv_iconst (v := 0) hx hb dX4_isKnown_20 (by decide) ?_
    exact mx_zret hx hb hr hlocks hJ hf dX4_isKnown_21
  unfold f_X4_isKnown at hf
  refine lv_aload_n hx hb dX4_isKnown_0 rfl (lv_at hl 0 rfl) ?_
  obtain ⟨b1, e2, hf⟩ := mb0 hf
  refine my_gR hx hb hts hown hK hJ fd_RX4_39 hv_4_12 e2 dX4_isKnown_1 ?_
  refine lv_iload_n hx hb dX4_isKnown_4 rfl (lv_at hl 1 rfl) ?_
  obtain ⟨x3, e4, hf⟩ := mb0 hf
  refine mx_aI hx hb hK hJ e4 dX4_isKnown_5 ?_
  refine lv_istore_n (lv' := [(3, .int x3), (0, .ref a0), (1, .int p1), (2, .ref a2)]) hx hb dX4_isKnown_6 rfl hl (by decide) rfl (fun ls hl => ?_)
  refine lv_iload_n hx hb dX4_isKnown_7 rfl (lv_at hl 0 rfl) ?_
  refine lv_if_lt (tgt := 20) hx hb dX4_isKnown_8 (by decide) (fun c5 => ?_) (fun c5 => ?_)
  · rw [if_pos c5] at hf
    exact D20  σ hf _ _ hJ ls (lv_sub hl [] rfl)
  · rw [if_neg c5] at hf
    refine lv_aload_n hx hb dX4_isKnown_11 rfl (lv_at hl 1 rfl) ?_
    refine lv_iload_n hx hb dX4_isKnown_12 rfl (lv_at hl 0 rfl) ?_
    refine lv_iload_n hx hb dX4_isKnown_13 rfl (lv_at hl 2 rfl) ?_
    obtain ⟨i6, e7, hf⟩ := mb0 hf
    obtain ⟨x9, σ8, e10, hf⟩ := mc0 hf
    refine mx_callV (As := [.int x3, .int p1]) (rest := []) hx hb hml hts hown hK hJ rfl rfl (ci := 4) rfl e7 (c_X4_othersAreZero l G P a0 x3 p1 σ x9 σ8 e10) me_X4_othersAreZero kw_908 ks_22 kw_906 (Nat.le_of_ble_eq_true rfl) (Nat.le_of_ble_eq_true rfl) rfl hl.1 rfl (Nat.le_of_ble_eq_true rfl) dX4_isKnown_14 (fun H locs hJ => ?_)
    refine lv_if_ne (tgt := 22) hx hb dX4_isKnown_17 (by decide) (fun c11 => ?_) (fun c11 => ?_)
    · rw [if_neg c11] at hf
      refine lv_aload_n hx hb dX4_isKnown_22 rfl (lv_at hl 1 rfl) ?_
      refine lv_aload_n hx hb dX4_isKnown_23 rfl (lv_at hl 3 rfl) ?_
      refine lv_iload_n hx hb dX4_isKnown_24 rfl (lv_at hl 0 rfl) ?_
      refine lv_bipush (v := 12) hx hb dX4_isKnown_25 (by decide) ?_
      obtain ⟨i12, e13, hf⟩ := mb0 hf
      obtain ⟨σ14, e15, hf⟩ := mb0 hf
      refine mx_callV (As := [.ref a2, .int x3, .int (12 : Int32)]) (rest := []) hx hb hml hts hown hK hJ rfl rfl (ci := 4) rfl e13 (c_X4_readCell l G P a0 a2 x3 (12 : Int32) σ8 σ14 e15) me_X4_readCell kw_879 ks_18 kw_877 (Nat.le_of_ble_eq_true rfl) (Nat.le_of_ble_eq_true rfl) rfl hl.1 rfl (Nat.le_of_ble_eq_true rfl) dX4_isKnown_27 (fun H locs hJ => ?_)
      refine lv_iconst (v := 1) hx hb dX4_isKnown_30 (by decide) ?_
      exact mx_zret hx hb hr hlocks hJ hf dX4_isKnown_31
    · rw [if_pos c11] at hf
      exact D20  σ8 hf _ _ hJ ls (lv_sub hl [] rfl)
set_option maxHeartbeats 4000000 in
set_option maxRecDepth 100000 in
theorem c_J9_max_7cf53 (l : Launch) (G : mx_G) (P : mx_P) (p0 : Int32) (p1 : Int32) (σ : mx_S) (r : Int32) (σ' : mx_S) (hf : f_J9_max_7cf53 P p0 p1 σ = some (r, σ')) : mxz σ ≤ mpc P → mxu σ ≤ mps P → mx_M l yJ9_max_7cf53 cJ9_max_7cf53 2 (some .int) 0 0 G P [.int p0, .int p1] σ (some (.int r)) σ' := by
  intro hcap hcau
  refine mx_ofW (by decide +kernel) hcap hcau (Nat.le_of_ble_eq_true rfl) ?_
  intro p e s m below meth c hx hb hr hml hts hown hlocks hname hK hJ ls hl
  have hz0 := hJ.2.1
  have hown : s.vm.findClass RJ9 = some m.cls := hown
  have hl : lv_has ls 2 [(0, .int p0), (1, .int p1)] := hl
  have D10 : ∀ (w0 : Int32) (τ : mx_S), f_J9_max_7cf53_D10 P w0 τ = some (r, σ') → ∀ (H : Heap) (locs : List Loc), mx_J G P s.heap (mxz σ) (mxu σ) τ H locs → ∀ ls : Array Slot, lv_has ls 2 [] → W p l e (mx_rm P 0 0 σ) s m ([.int p0, .int p1] : List Value).toArray below meth c H locs (mxz τ - mxz σ) (mxu τ - mxu σ) (mx_Z below G P (some (.int r)) σ σ' [.int p0, .int p1] s) (F0 m 10 ls [.int w0]) := by
    intro w0 τ hf _ _ hJ ls hl
    unfold f_J9_max_7cf53_D10 at hf
    exact my_iret hx hb hr hlocks hJ hf dJ9_max_7cf53_10
  unfold f_J9_max_7cf53 at hf
  refine lv_iload_n hx hb dJ9_max_7cf53_0 rfl (lv_at hl 0 rfl) ?_
  refine lv_iload_n hx hb dJ9_max_7cf53_1 rfl (lv_at hl 1 rfl) ?_
  refine lv_icmp_lt (tgt := 9) hx hb dJ9_max_7cf53_2 (by decide) (fun c1 => ?_) (fun c1 => ?_)
  · rw [if_pos c1] at hf
    refine lv_iload_n hx hb dJ9_max_7cf53_9 rfl (lv_at hl 1 rfl) ?_
    exact D10 p1 σ hf _ _ hJ ls (lv_sub hl [] rfl)
  · rw [if_neg c1] at hf
    refine lv_iload_n hx hb dJ9_max_7cf53_5 rfl (lv_at hl 0 rfl) ?_
    refine lv_goto (tgt := 10) hx hb dJ9_max_7cf53_6 (by decide) ?_
    exact D10 p0 σ hf _ _ hJ ls (lv_sub hl [] rfl)
set_option maxHeartbeats 4000000 in
set_option maxRecDepth 100000 in
theorem c_X4_clash (l : Launch) (G : mx_G) (P : mx_P) (a0 : Nat) (p1 : Int32) (p2 : Int32) (p3 : Int32) (σ : mx_S) (r : Int32) (σ' : mx_S) (hf : f_X4_clash P a0 p1 p2 p3 σ = some (r, σ')) : mxz σ ≤ mpc P → mxu σ ≤ mps P → mx_M l yX4_clash cX4_clash 9 (some .int) 1 21 G P [.ref a0, .int p1, .int p2, .int p3] σ (some (.int r)) σ' := by
  intro hcap hcau
  refine mx_ofW (by decide +kernel) hcap hcau (Nat.le_of_ble_eq_true rfl) ?_
  intro p e s m below meth c hx hb hr hml hts hown hlocks hname hK hJ ls hl
  have hz0 := hJ.2.1
  have hown : s.vm.findClass RX4 = some m.cls := hown
  have hl : lv_has ls 9 [(0, .ref a0), (1, .int p1), (2, .int p2), (3, .int p3)] := hl
  have D131 : ∀ (w0 : Int32) (τ : mx_S), f_X4_clash_D131 P w0 τ = some (r, σ') → ∀ (H : Heap) (locs : List Loc), mx_J G P s.heap (mxz σ) (mxu σ) τ H locs → ∀ ls : Array Slot, lv_has ls 9 [] → W p l e (mx_rm P 1 21 σ) s m ([.ref a0, .int p1, .int p2, .int p3] : List Value).toArray below meth c H locs (mxz τ - mxz σ) (mxu τ - mxu σ) (mx_Z below G P (some (.int r)) σ σ' [.ref a0, .int p1, .int p2, .int p3] s) (F0 m 131 ls [.int w0]) := by
    intro w0 τ hf _ _ hJ ls hl
    unfold f_X4_clash_D131 at hf
    exact my_iret hx hb hr hlocks hJ hf dX4_clash_131
  have D84 : ∀ (w0 : Int32) (τ : mx_S), f_X4_clash_D84 P w0 τ = some (r, σ') → ∀ (H : Heap) (locs : List Loc), mx_J G P s.heap (mxz σ) (mxu σ) τ H locs → ∀ ls : Array Slot, lv_has ls 9 [] → W p l e (mx_rm P 1 21 σ) s m ([.ref a0, .int p1, .int p2, .int p3] : List Value).toArray below meth c H locs (mxz τ - mxz σ) (mxu τ - mxu σ) (mx_Z below G P (some (.int r)) σ σ' [.ref a0, .int p1, .int p2, .int p3] s) (F0 m 84 ls [.int w0]) := by
    intro w0 τ hf _ _ hJ ls hl
    unfold f_X4_clash_D84 at hf
    exact my_iret hx hb hr hlocks hJ hf dX4_clash_84
  have D54 : ∀ (v3 : Int32) (v4 : Int64) (v6 : Int64) (w0 : Int32) (τ : mx_S), f_X4_clash_D54 P v3 v4 v6 w0 τ = some (r, σ') → ∀ (H : Heap) (locs : List Loc), mx_J G P s.heap (mxz σ) (mxu σ) τ H locs → ∀ ls : Array Slot, lv_has ls 9 [(3, .int v3), (4, .long v4), (6, .long v6)] → W p l e (mx_rm P 1 21 σ) s m ([.ref a0, .int p1, .int p2, .int p3] : List Value).toArray below meth c H locs (mxz τ - mxz σ) (mxu τ - mxu σ) (mx_Z below G P (some (.int r)) σ σ' [.ref a0, .int p1, .int p2, .int p3] s) (F0 m 54 ls [.int w0]) := by
    intro v3 v4 v6 w0 τ hf _ _ hJ ls hl
    unfold f_X4_clash_D54 at hf
    refine lv_istore (lv' := [(8, .int w0), (3, .int v3), (4, .long v4), (6, .long v6)]) hx hb dX4_clash_54 hl (by decide) rfl (fun ls hl => ?_)
    refine lv_iload_n hx hb dX4_clash_56 rfl (lv_at hl 1 rfl) ?_
    refine lv_if_eq (tgt := 85) hx hb dX4_clash_57 (by decide) (fun c28 => ?_) (fun c28 => ?_)
    · rw [if_pos c28] at hf
      refine lv_iload hx hb dX4_clash_85 (lv_at hl 0 rfl) ?_
      refine lv_if_ne (tgt := 92) hx hb dX4_clash_87 (by decide) (fun c29 => ?_) (fun c29 => ?_)
      · rw [if_neg c29] at hf
        refine lv_lload hx hb dX4_clash_92 (lv_at hl 3 rfl) ?_
        refine lv_ldc2 hx hb hown (hts _ kw_1512) dX4_clash_94 ?_
        refine lv_ldc2 hx hb hown (hts _ kw_1513) dX4_clash_97 ?_
        refine lv_lload hx hb dX4_clash_100 (lv_at hl 2 rfl) ?_
        refine lv_lmul hx hb dX4_clash_102 ?_
        refine lv_ldc2 hx hb hown (hts _ kw_1509) dX4_clash_103 ?_
        refine lv_lmul hx hb dX4_clash_106 ?_
        refine lv_lsub hx hb dX4_clash_107 ?_
        refine lv_lmul hx hb dX4_clash_108 ?_
        refine lv_lload hx hb dX4_clash_109 (lv_at hl 2 rfl) ?_
        refine lv_lload hx hb dX4_clash_111 (lv_at hl 2 rfl) ?_
        refine lv_lmul hx hb dX4_clash_113 ?_
        refine lv_ldc2 hx hb hown (hts _ kw_1509) dX4_clash_114 ?_
        refine lv_lmul hx hb dX4_clash_117 ?_
        refine lv_ldc2 hx hb hown (hts _ kw_1512) dX4_clash_118 ?_
        refine lv_lsub hx hb dX4_clash_121 ?_
        refine W.lcmp hx hb dX4_clash_122 ?_
        refine lv_if_le (tgt := 130) hx hb dX4_clash_123 (by decide) (fun c30 => ?_) (fun c30 => ?_)
        · rw [if_pos c30] at hf
          refine lv_iconst (v := 1) hx hb dX4_clash_130 (by decide) ?_
          exact D131 (1 : Int32) τ hf _ _ hJ ls (lv_sub hl [] rfl)
        · rw [if_neg c30] at hf
          refine lv_iconst (v := 2) hx hb dX4_clash_126 (by decide) ?_
          refine lv_goto (tgt := 131) hx hb dX4_clash_127 (by decide) ?_
          exact D131 (2 : Int32) τ hf _ _ hJ ls (lv_sub hl [] rfl)
      · rw [if_pos c29] at hf
        refine lv_iconst (v := 0) hx hb dX4_clash_90 (by decide) ?_
        exact my_iret hx hb hr hlocks hJ hf dX4_clash_91
    · rw [if_neg c28] at hf
      refine lv_iload hx hb dX4_clash_60 (lv_at hl 0 rfl) ?_
      refine lv_if_eq (tgt := 67) hx hb dX4_clash_62 (by decide) (fun c31 => ?_) (fun c31 => ?_)
      · rw [if_pos c31] at hf
        refine lv_lload hx hb dX4_clash_67 (lv_at hl 3 rfl) ?_
        refine lv_lload hx hb dX4_clash_69 (lv_at hl 2 rfl) ?_
        refine lv_lsub hx hb dX4_clash_71 ?_
        refine lv_ldc2 hx hb hown (hts _ kw_1511) dX4_clash_72 ?_
        refine W.lcmp hx hb dX4_clash_75 ?_
        refine lv_if_ge (tgt := 83) hx hb dX4_clash_76 (by decide) (fun c32 => ?_) (fun c32 => ?_)
        · rw [if_pos c32] at hf
          refine lv_iconst (v := 0) hx hb dX4_clash_83 (by decide) ?_
          exact D84 (0 : Int32) τ hf _ _ hJ ls (lv_sub hl [] rfl)
        · rw [if_neg c32] at hf
          refine lv_iconst (v := 2) hx hb dX4_clash_79 (by decide) ?_
          refine lv_goto (tgt := 84) hx hb dX4_clash_80 (by decide) ?_
          exact D84 (2 : Int32) τ hf _ _ hJ ls (lv_sub hl [] rfl)
      · rw [if_neg c31] at hf
        refine lv_iconst (v := 1) hx hb dX4_clash_65 (by decide) ?_
        exact my_iret hx hb hr hlocks hJ hf dX4_clash_66
  unfold f_X4_clash at hf
  refine lv_aload_n hx hb dX4_clash_0 rfl (lv_at hl 0 rfl) ?_
  obtain ⟨b1, e2, hf⟩ := mb0 hf
  refine my_gR hx hb hts hown hK hJ fd_RX4_9 hv_4_3 e2 dX4_clash_1 ?_
  refine lv_iload_n hx hb dX4_clash_4 rfl (lv_at hl 1 rfl) ?_
  obtain ⟨x3, e4, hf⟩ := mb0 hf
  refine mx_aI hx hb hK hJ e4 dX4_clash_5 ?_
  refine lv_aload_n hx hb dX4_clash_6 rfl (lv_at hl 0 rfl) ?_
  obtain ⟨b5, e6, hf⟩ := mb0 hf
  refine my_gR hx hb hts hown hK hJ fd_RX4_9 hv_4_3 e6 dX4_clash_7 ?_
  refine lv_iload_n hx hb dX4_clash_10 rfl (lv_at hl 2 rfl) ?_
  obtain ⟨x7, e8, hf⟩ := mb0 hf
  refine mx_aI hx hb hK hJ e8 dX4_clash_11 ?_
  obtain ⟨x10, σ9, e11, hf⟩ := mc0 hf
  refine mx_callS (As := [.int x3, .int x7]) (rest := []) hx hb hml hts hown hK hJ rfl rfl (c_J9_min_7cf53 l G P x3 x7 σ x10 σ9 e11) me_J9_min_7cf53 kw_1504 kw_1503 (Nat.le_of_ble_eq_true rfl) (Nat.le_of_ble_eq_true rfl) rfl hl.1 rfl (Nat.le_of_ble_eq_true rfl) dX4_clash_12 (fun H locs hJ => ?_)
  refine lv_i2l hx hb dX4_clash_15 rfl ?_
  obtain ⟨x12, e13, hf⟩ := mb0 hf
  refine mx_nL e13 ?_
  refine lv_lstore (lv' := [(4, .long x12), (0, .ref a0), (1, .int p1), (2, .int p2), (3, .int p3)]) hx hb dX4_clash_16 hl (by decide) rfl (fun ls hl => ?_)
  refine lv_aload_n hx hb dX4_clash_18 rfl (lv_at hl 1 rfl) ?_
  obtain ⟨b14, e15, hf⟩ := mb0 hf
  refine my_gR hx hb hts hown hK hJ fd_RX4_9 hv_4_3 e15 dX4_clash_19 ?_
  refine lv_iload_n hx hb dX4_clash_22 rfl (lv_at hl 2 rfl) ?_
  obtain ⟨x16, e17, hf⟩ := mb0 hf
  refine mx_aI hx hb hK hJ e17 dX4_clash_23 ?_
  refine lv_aload_n hx hb dX4_clash_24 rfl (lv_at hl 1 rfl) ?_
  obtain ⟨b18, e19, hf⟩ := mb0 hf
  refine my_gR hx hb hts hown hK hJ fd_RX4_9 hv_4_3 e19 dX4_clash_25 ?_
  refine lv_iload_n hx hb dX4_clash_28 rfl (lv_at hl 3 rfl) ?_
  obtain ⟨x20, e21, hf⟩ := mb0 hf
  refine mx_aI hx hb hK hJ e21 dX4_clash_29 ?_
  obtain ⟨x23, σ22, e24, hf⟩ := mc0 hf
  refine mx_callS (As := [.int x16, .int x20]) (rest := []) hx hb hml hts hown hK hJ rfl rfl (c_J9_max_7cf53 l G P x16 x20 σ9 x23 σ22 e24) me_J9_max_7cf53 kw_1507 kw_1506 (Nat.le_of_ble_eq_true rfl) (Nat.le_of_ble_eq_true rfl) rfl hl.1 rfl (Nat.le_of_ble_eq_true rfl) dX4_clash_30 (fun H locs hJ => ?_)
  refine lv_i2l hx hb dX4_clash_33 rfl ?_
  obtain ⟨x25, e26, hf⟩ := mb0 hf
  refine mx_nL e26 ?_
  refine lv_lstore (lv' := [(6, .long x25), (4, .long x12), (0, .ref a0), (1, .int p1), (2, .int p2), (3, .int p3)]) hx hb dX4_clash_34 hl (by decide) rfl (fun ls hl => ?_)
  refine lv_lload hx hb dX4_clash_36 (lv_at hl 1 rfl) ?_
  refine lv_ldc2 hx hb hown (hts _ kw_1509) dX4_clash_38 ?_
  refine lv_lmul hx hb dX4_clash_41 ?_
  refine lv_ldc2 hx hb hown (hts _ kw_1510) dX4_clash_42 ?_
  refine W.lcmp hx hb dX4_clash_45 ?_
  refine lv_if_ge (tgt := 53) hx hb dX4_clash_46 (by decide) (fun c27 => ?_) (fun c27 => ?_)
  · rw [if_pos c27] at hf
    refine lv_iconst (v := 0) hx hb dX4_clash_53 (by decide) ?_
    exact D54 p3 x12 x25 (0 : Int32) σ22 hf _ _ hJ ls (lv_sub hl [5, 1, 0] rfl)
  · rw [if_neg c27] at hf
    refine lv_iconst (v := 1) hx hb dX4_clash_49 (by decide) ?_
    refine lv_goto (tgt := 54) hx hb dX4_clash_50 (by decide) ?_
    exact D54 p3 x12 x25 (1 : Int32) σ22 hf _ _ hJ ls (lv_sub hl [5, 1, 0] rfl)
