set_option maxHeartbeats 4000000 in
set_option maxRecDepth 100000 in
theorem c_X7_checkPart (l : Launch) (G : mx_G) (P : mx_P) (a0 : Nat) (a1 : Nat) (p2 : Int32) (p3 : Int32) (σ : mx_S) (σ' : mx_S) (hf : f_X7_checkPart P a0 a1 p2 p3 σ = some σ') : mxz σ ≤ mpc P → mxu σ ≤ mps P → mx_M l yX7_checkPart cX7_checkPart 5 none 3 66 G P [.ref a0, .ref a1, .int p2, .int p3] σ none σ' := by
  intro hcap hcau
  refine mx_ofW (by decide +kernel) hcap hcau (Nat.le_of_ble_eq_true rfl) ?_
  intro p e s m below meth c hx hb hr hml hts hown hlocks hname hK hJ ls hl
  have hz0 := hJ.2.1
  have hown : s.vm.findClass RX7 = some m.cls := hown
  have hl : lv_has ls 5 [(0, .ref a0), (1, .ref a1), (2, .int p2), (3, .int p3)] := hl
  have D182 : ∀  (τ : mx_S), f_X7_checkPart_D182 P  τ = some σ' → ∀ (H : Heap) (locs : List Loc), mx_J G P s.heap (mxz σ) (mxu σ) τ H locs → ∀ ls : Array Slot, lv_has ls 5 [] → W p l e (mx_rm P 3 66 σ) s m ([.ref a0, .ref a1, .int p2, .int p3] : List Value).toArray below meth c H locs (mxz τ - mxz σ) (mxu τ - mxu σ) (mx_Z below G P none σ σ' [.ref a0, .ref a1, .int p2, .int p3] s) (F0 m 182 ls []) := by
    intro  τ hf _ _ hJ ls hl
    unfold f_X7_checkPart_D182 at hf
    exact my_vret hx hb hr hlocks hJ hf dX7_checkPart_182
  have D143 : ∀ (v0 : Nat) (v1 : Nat) (v2 : Int32) (τ : mx_S), f_X7_checkPart_D143 P v0 v1 v2 τ = some σ' → ∀ (H : Heap) (locs : List Loc), mx_J G P s.heap (mxz σ) (mxu σ) τ H locs → ∀ ls : Array Slot, lv_has ls 5 [(0, .ref v0), (1, .ref v1), (2, .int v2)] → W p l e (mx_rm P 3 66 σ) s m ([.ref a0, .ref a1, .int p2, .int p3] : List Value).toArray below meth c H locs (mxz τ - mxz σ) (mxu τ - mxu σ) (mx_Z below G P none σ σ' [.ref a0, .ref a1, .int p2, .int p3] s) (F0 m 143 ls []) := by
    intro v0 v1 v2 τ hf _ _ hJ ls hl
    unfold f_X7_checkPart_D143 at hf
    refine lv_aload_n hx hb dX7_checkPart_143 rfl (lv_at hl 1 rfl) ?_
    obtain ⟨b50, e51, hf⟩ := mb0 hf
    refine my_gR hx hb hts hown hK hJ fd_RX7_149 hv_10_16 e51 dX7_checkPart_144 ?_
    refine lv_iload_n hx hb dX7_checkPart_147 rfl (lv_at hl 2 rfl) ?_
    obtain ⟨x52, e53, hf⟩ := mb0 hf
    refine mx_aI hx hb hK hJ e53 dX7_checkPart_148 ?_
    refine lv_bipush (v := 63) hx hb dX7_checkPart_149 (by decide) ?_
    refine lv_icmp_ne (tgt := 182) hx hb dX7_checkPart_151 (by decide) (fun c54 => ?_) (fun c54 => ?_)
    · rw [if_neg c54] at hf
      exact D182  τ hf _ _ hJ ls (lv_sub hl [] rfl)
    · rw [if_pos c54] at hf
      refine lv_aload_n hx hb dX7_checkPart_154 rfl (lv_at hl 0 rfl) ?_
      refine lv_dup hx hb dX7_checkPart_155 rfl ?_
      obtain ⟨x55, e56, hf⟩ := mb0 hf
      refine my_gI hx hb hts hown hK hJ fd_RX7_81 hv_7_3 e56 dX7_checkPart_156 ?_
      refine lv_iconst (v := 1) hx hb dX7_checkPart_159 (by decide) ?_
      refine lv_iadd hx hb dX7_checkPart_160 ?_
      obtain ⟨σ57, e58, hf⟩ := mb0 hf
      refine my_pI hx hb hts hown hK hJ fd_RX7_81 cd_7 (Or.inl rfl) ht_7_3 e58 dX7_checkPart_161 (fun H locs hJ => ?_)
      refine lv_goto (tgt := 182) hx hb dX7_checkPart_164 (by decide) ?_
      exact D182  σ57 hf _ _ hJ ls (lv_sub hl [] rfl)
  unfold f_X7_checkPart at hf
  refine lv_aload_n hx hb dX7_checkPart_0 rfl (lv_at hl 1 rfl) ?_
  obtain ⟨b1, e2, hf⟩ := mb0 hf
  refine my_gR hx hb hts hown hK hJ fd_RX7_135 hv_10_14 e2 dX7_checkPart_1 ?_
  refine lv_iload_n hx hb dX7_checkPart_4 rfl (lv_at hl 2 rfl) ?_
  obtain ⟨x3, e4, hf⟩ := mb0 hf
  refine mx_aI hx hb hK hJ e4 dX7_checkPart_5 ?_
  refine lv_istore (lv' := [(4, .int x3), (0, .ref a0), (1, .ref a1), (2, .int p2), (3, .int p3)]) hx hb dX7_checkPart_6 hl (by decide) rfl (fun ls hl => ?_)
  refine lv_aload_n hx hb dX7_checkPart_8 rfl (lv_at hl 2 rfl) ?_
  obtain ⟨b5, e6, hf⟩ := mb0 hf
  refine my_gR hx hb hts hown hK hJ fd_RX7_138 hv_10_13 e6 dX7_checkPart_9 ?_
  refine lv_iload_n hx hb dX7_checkPart_12 rfl (lv_at hl 3 rfl) ?_
  obtain ⟨x7, e8, hf⟩ := mb0 hf
  refine mx_aI hx hb hK hJ e8 dX7_checkPart_13 ?_
  by_cases c9 : x7 = (67 : Int32)
  · rw [if_pos c9] at hf
    refine lv_lookup (tgt := 48) (off := 34) hx hb dX7_checkPart_14 (by decide) (by rw [c9] <;> decide) (by decide) ?_
    refine lv_aload_n hx hb dX7_checkPart_48 rfl (lv_at hl 2 rfl) ?_
    refine lv_aload_n hx hb dX7_checkPart_49 rfl (lv_at hl 2 rfl) ?_
    obtain ⟨b10, e11, hf⟩ := mb0 hf
    refine my_gR hx hb hts hown hK hJ fd_RX7_141 hv_10_15 e11 dX7_checkPart_50 ?_
    refine lv_iload_n hx hb dX7_checkPart_53 rfl (lv_at hl 3 rfl) ?_
    obtain ⟨x12, e13, hf⟩ := mb0 hf
    refine mx_aL hx hb hK hJ e13 dX7_checkPart_54 ?_
    obtain ⟨i14, e15, hf⟩ := mb0 hf
    obtain ⟨x17, σ16, e18, hf⟩ := mc0 hf
    refine mx_callV (As := [.long x12]) (rest := []) hx hb hml hts hown hK hJ rfl rfl (ci := 10) rfl e15 (c_X10_tellerOf l G P a1 x12 σ x17 σ16 e18) me_X10_tellerOf kw_1160 kw_1161 kw_1159 (Nat.le_of_ble_eq_true rfl) (Nat.le_of_ble_eq_true rfl) rfl hl.1 rfl (Nat.le_of_ble_eq_true rfl) dX7_checkPart_55 (fun H locs hJ => ?_)
    refine lv_iload_n hx hb dX7_checkPart_58 rfl (lv_at hl 4 rfl) ?_
    refine lv_icmp_ge (tgt := 72) hx hb dX7_checkPart_59 (by decide) (fun c19 => ?_) (fun c19 => ?_)
    · rw [if_pos c19] at hf
      refine lv_iload_n hx hb dX7_checkPart_72 rfl (lv_at hl 4 rfl) ?_
      refine lv_bipush (v := 40) hx hb dX7_checkPart_73 (by decide) ?_
      refine lv_icmp_lt (tgt := 182) hx hb dX7_checkPart_75 (by decide) (fun c20 => ?_) (fun c20 => ?_)
      · rw [if_pos c20] at hf
        exact D182  σ16 hf _ _ hJ ls (lv_sub hl [] rfl)
      · rw [if_neg c20] at hf
        refine lv_aload_n hx hb dX7_checkPart_78 rfl (lv_at hl 2 rfl) ?_
        refine lv_bipush (v := 6) hx hb dX7_checkPart_79 (by decide) ?_
        refine lv_iload hx hb dX7_checkPart_81 (lv_at hl 0 rfl) ?_
        obtain ⟨i21, e22, hf⟩ := mb0 hf
        obtain ⟨σ23, e24, hf⟩ := mb0 hf
        refine mx_callV (As := [.int (6 : Int32), .int x3]) (rest := []) hx hb hml hts hown hK hJ rfl rfl (ci := 10) rfl e22 (c_X10_note l G P a1 (6 : Int32) x3 σ16 σ23 e24) me_X10_note kw_1139 kw_1140 kw_1163 (Nat.le_of_ble_eq_true rfl) (Nat.le_of_ble_eq_true rfl) rfl hl.1 rfl (Nat.le_of_ble_eq_true rfl) dX7_checkPart_83 (fun H locs hJ => ?_)
        refine lv_goto (tgt := 182) hx hb dX7_checkPart_86 (by decide) ?_
        exact D182  σ23 hf _ _ hJ ls (lv_sub hl [] rfl)
    · rw [if_neg c19] at hf
      refine lv_aload_n hx hb dX7_checkPart_62 rfl (lv_at hl 2 rfl) ?_
      refine lv_iconst (v := 2) hx hb dX7_checkPart_63 (by decide) ?_
      refine lv_iload hx hb dX7_checkPart_64 (lv_at hl 0 rfl) ?_
      obtain ⟨i25, e26, hf⟩ := mb0 hf
      obtain ⟨σ27, e28, hf⟩ := mb0 hf
      refine mx_callV (As := [.int (2 : Int32), .int x3]) (rest := []) hx hb hml hts hown hK hJ rfl rfl (ci := 10) rfl e26 (c_X10_note l G P a1 (2 : Int32) x3 σ16 σ27 e28) me_X10_note kw_1139 kw_1140 kw_1163 (Nat.le_of_ble_eq_true rfl) (Nat.le_of_ble_eq_true rfl) rfl hl.1 rfl (Nat.le_of_ble_eq_true rfl) dX7_checkPart_66 (fun H locs hJ => ?_)
      refine lv_goto (tgt := 182) hx hb dX7_checkPart_69 (by decide) ?_
      exact D182  σ27 hf _ _ hJ ls (lv_sub hl [] rfl)
  rw [if_neg c9] at hf
  by_cases c29 : x7 = (80 : Int32)
  · rw [if_pos c29] at hf
    refine lv_lookup (tgt := 89) (off := 75) hx hb dX7_checkPart_14 (by decide) (by rw [c29] <;> decide) (by decide) ?_
    refine lv_aload_n hx hb dX7_checkPart_89 rfl (lv_at hl 2 rfl) ?_
    refine lv_aload_n hx hb dX7_checkPart_90 rfl (lv_at hl 2 rfl) ?_
    obtain ⟨b30, e31, hf⟩ := mb0 hf
    refine my_gR hx hb hts hown hK hJ fd_RX7_141 hv_10_15 e31 dX7_checkPart_91 ?_
    refine lv_iload_n hx hb dX7_checkPart_94 rfl (lv_at hl 3 rfl) ?_
    obtain ⟨x32, e33, hf⟩ := mb0 hf
    refine mx_aL hx hb hK hJ e33 dX7_checkPart_95 ?_
    obtain ⟨i34, e35, hf⟩ := mb0 hf
    obtain ⟨x37, σ36, e38, hf⟩ := mc0 hf
    refine mx_callV (As := [.long x32]) (rest := []) hx hb hml hts hown hK hJ rfl rfl (ci := 10) rfl e35 (c_X10_tellerOf l G P a1 x32 σ x37 σ36 e38) me_X10_tellerOf kw_1160 kw_1161 kw_1159 (Nat.le_of_ble_eq_true rfl) (Nat.le_of_ble_eq_true rfl) rfl hl.1 rfl (Nat.le_of_ble_eq_true rfl) dX7_checkPart_96 (fun H locs hJ => ?_)
    refine lv_if_ge (tgt := 182) hx hb dX7_checkPart_99 (by decide) (fun c39 => ?_) (fun c39 => ?_)
    · rw [if_pos c39] at hf
      exact D182  σ36 hf _ _ hJ ls (lv_sub hl [] rfl)
    · rw [if_neg c39] at hf
      refine lv_aload_n hx hb dX7_checkPart_102 rfl (lv_at hl 2 rfl) ?_
      refine lv_iconst (v := 3) hx hb dX7_checkPart_103 (by decide) ?_
      refine lv_iload hx hb dX7_checkPart_104 (lv_at hl 0 rfl) ?_
      obtain ⟨i40, e41, hf⟩ := mb0 hf
      obtain ⟨σ42, e43, hf⟩ := mb0 hf
      refine mx_callV (As := [.int (3 : Int32), .int x3]) (rest := []) hx hb hml hts hown hK hJ rfl rfl (ci := 10) rfl e41 (c_X10_note l G P a1 (3 : Int32) x3 σ36 σ42 e43) me_X10_note kw_1139 kw_1140 kw_1163 (Nat.le_of_ble_eq_true rfl) (Nat.le_of_ble_eq_true rfl) rfl hl.1 rfl (Nat.le_of_ble_eq_true rfl) dX7_checkPart_106 (fun H locs hJ => ?_)
      refine lv_goto (tgt := 182) hx hb dX7_checkPart_109 (by decide) ?_
      exact D182  σ42 hf _ _ hJ ls (lv_sub hl [] rfl)
  rw [if_neg c29] at hf
  by_cases c44 : x7 = (83 : Int32)
  · rw [if_pos c44] at hf
    refine lv_lookup (tgt := 112) (off := 98) hx hb dX7_checkPart_14 (by decide) (by rw [c44] <;> decide) (by decide) ?_
    refine lv_aload_n hx hb dX7_checkPart_112 rfl (lv_at hl 2 rfl) ?_
    obtain ⟨b45, e46, hf⟩ := mb0 hf
    refine my_gR hx hb hts hown hK hJ fd_RX7_149 hv_10_16 e46 dX7_checkPart_113 ?_
    refine lv_iload_n hx hb dX7_checkPart_116 rfl (lv_at hl 3 rfl) ?_
    obtain ⟨x47, e48, hf⟩ := mb0 hf
    refine mx_aI hx hb hK hJ e48 dX7_checkPart_117 ?_
    refine lv_bipush (v := 63) hx hb dX7_checkPart_118 (by decide) ?_
    refine lv_icmp_ne (tgt := 143) hx hb dX7_checkPart_120 (by decide) (fun c49 => ?_) (fun c49 => ?_)
    · rw [if_neg c49] at hf
      exact D143 a0 a1 p2 σ hf _ _ hJ ls (lv_sub hl [1, 2, 3] rfl)
    · rw [if_pos c49] at hf
      refine lv_aload_n hx hb dX7_checkPart_123 rfl (lv_at hl 1 rfl) ?_
      obtain ⟨x59, e60, hf⟩ := mb0 hf
      refine my_gI hx hb hts hown hK hJ fd_RX7_81 hv_7_3 e60 dX7_checkPart_124 ?_
      refine lv_bipush (v := 8) hx hb dX7_checkPart_127 (by decide) ?_
      refine lv_icmp_lt (tgt := 143) hx hb dX7_checkPart_129 (by decide) (fun c61 => ?_) (fun c61 => ?_)
      · rw [if_pos c61] at hf
        exact D143 a0 a1 p2 σ hf _ _ hJ ls (lv_sub hl [1, 2, 3] rfl)
      · rw [if_neg c61] at hf
        refine lv_aload_n hx hb dX7_checkPart_132 rfl (lv_at hl 2 rfl) ?_
        refine lv_bipush (v := 6) hx hb dX7_checkPart_133 (by decide) ?_
        refine lv_iload hx hb dX7_checkPart_135 (lv_at hl 0 rfl) ?_
        obtain ⟨i62, e63, hf⟩ := mb0 hf
        obtain ⟨σ64, e65, hf⟩ := mb0 hf
        refine mx_callV (As := [.int (6 : Int32), .int x3]) (rest := []) hx hb hml hts hown hK hJ rfl rfl (ci := 10) rfl e63 (c_X10_note l G P a1 (6 : Int32) x3 σ σ64 e65) me_X10_note kw_1139 kw_1140 kw_1163 (Nat.le_of_ble_eq_true rfl) (Nat.le_of_ble_eq_true rfl) rfl hl.1 rfl (Nat.le_of_ble_eq_true rfl) dX7_checkPart_137 (fun H locs hJ => ?_)
        refine lv_goto (tgt := 182) hx hb dX7_checkPart_140 (by decide) ?_
        exact D182  σ64 hf _ _ hJ ls (lv_sub hl [] rfl)
  rw [if_neg c44] at hf
  refine lv_lookup (tgt := 167) (off := 153) hx hb dX7_checkPart_14 (by decide) (by rw [lv_osw c9 (by decide)]; rw [lv_osw c29 (by decide)]; rw [lv_osw c44 (by decide)] <;> rfl) (by decide) ?_
  refine lv_aload_n hx hb dX7_checkPart_167 rfl (lv_at hl 2 rfl) ?_
  refine lv_iload_n hx hb dX7_checkPart_168 rfl (lv_at hl 3 rfl) ?_
  obtain ⟨i66, e67, hf⟩ := mb0 hf
  obtain ⟨x69, σ68, e70, hf⟩ := mc0 hf
  refine mx_callV (As := [.int p2]) (rest := []) hx hb hml hts hown hK hJ rfl rfl (ci := 10) rfl e67 (c_X10_isInRange l G P a1 p2 σ x69 σ68 e70) me_X10_isInRange kw_1165 kw_1166 kw_1164 (Nat.le_of_ble_eq_true rfl) (Nat.le_of_ble_eq_true rfl) rfl hl.1 rfl (Nat.le_of_ble_eq_true rfl) dX7_checkPart_169 (fun H locs hJ => ?_)
  refine lv_if_ne (tgt := 182) hx hb dX7_checkPart_172 (by decide) (fun c71 => ?_) (fun c71 => ?_)
  · rw [if_neg c71] at hf
    exact D182  σ68 hf _ _ hJ ls (lv_sub hl [] rfl)
  · rw [if_pos c71] at hf
    refine lv_aload_n hx hb dX7_checkPart_175 rfl (lv_at hl 2 rfl) ?_
    refine lv_iconst (v := 5) hx hb dX7_checkPart_176 (by decide) ?_
    refine lv_iload hx hb dX7_checkPart_177 (lv_at hl 0 rfl) ?_
    obtain ⟨i72, e73, hf⟩ := mb0 hf
    obtain ⟨σ74, e75, hf⟩ := mb0 hf
    refine mx_callV (As := [.int (5 : Int32), .int x3]) (rest := []) hx hb hml hts hown hK hJ rfl rfl (ci := 10) rfl e73 (c_X10_note l G P a1 (5 : Int32) x3 σ68 σ74 e75) me_X10_note kw_1139 kw_1140 kw_1163 (Nat.le_of_ble_eq_true rfl) (Nat.le_of_ble_eq_true rfl) rfl hl.1 rfl (Nat.le_of_ble_eq_true rfl) dX7_checkPart_179 (fun H locs hJ => ?_)
    exact D182  σ74 hf _ _ hJ ls (lv_sub hl [] rfl)
set_option maxHeartbeats 4000000 in
set_option maxRecDepth 100000 in
theorem c_X7_isTaken (l : Launch) (G : mx_G) (P : mx_P) (a0 : Nat) (a1 : Nat) (p2 : Int32) (σ : mx_S) (r : Int32) (σ' : mx_S) (hf : f_X7_isTaken P a0 a1 p2 σ = some (r, σ')) : mxz σ ≤ mpc P → mxu σ ≤ mps P → mx_M l yX7_isTaken cX7_isTaken 5 (some .boolean) 5 124 G P [.ref a0, .ref a1, .int p2] σ (some (.int r)) σ' := by
  intro hcap hcau
  refine mx_ofW (by decide +kernel) hcap hcau (Nat.le_of_ble_eq_true rfl) ?_
  intro p e s m below meth c hx hb hr hml hts hown hlocks hname hK hJ ls hl
  have hz0 := hJ.2.1
  have hown : s.vm.findClass RX7 = some m.cls := hown
  have hl : lv_has ls 5 [(0, .ref a0), (1, .ref a1), (2, .int p2)] := hl
  have B8 : ∀ (v0 : Nat) (v1 : Nat) (v2 : Int32) (v3 : Int32) (v4 : Int32) (τ : mx_S) (o : (Int32 × mx_S) ⊕ ((mx_S))), f_X7_isTaken_B8 P v0 v1 v2 v3 v4 τ = some o → (∀ (y4 : Int32) (υ : mx_S), o = .inl (y4, υ) → ∀ (H : Heap) (locs : List Loc), mx_J G P s.heap (mxz σ) (mxu σ) υ H locs → ∀ ls : Array Slot, lv_has ls 5 [(0, .ref v0), (1, .ref v1), (2, .int v2), (3, .int v3), (4, .int y4)] → W p l e (mx_rm P 5 124 σ) s m ([.ref a0, .ref a1, .int p2] : List Value).toArray below meth c H locs (mxz υ - mxz σ) (mxu υ - mxu σ) (mx_Z below G P (some (.int r)) σ σ' [.ref a0, .ref a1, .int p2] s) (F0 m 8 ls [])) → (∀  (υ : mx_S), o = .inr υ → ∀ (H : Heap) (locs : List Loc), mx_J G P s.heap (mxz σ) (mxu σ) υ H locs → ∀ ls : Array Slot, lv_has ls 5 [(0, .ref v0), (1, .ref v1), (2, .int v2), (3, .int v3)] → W p l e (mx_rm P 5 124 σ) s m ([.ref a0, .ref a1, .int p2] : List Value).toArray below meth c H locs (mxz υ - mxz σ) (mxu υ - mxu σ) (mx_Z below G P (some (.int r)) σ σ' [.ref a0, .ref a1, .int p2] s) (F0 m 31 ls [])) → ∀ (H : Heap) (locs : List Loc), mx_J G P s.heap (mxz σ) (mxu σ) τ H locs → ∀ ls : Array Slot, lv_has ls 5 [(0, .ref v0), (1, .ref v1), (2, .int v2), (3, .int v3), (4, .int v4)] → W p l e (mx_rm P 5 124 σ) s m ([.ref a0, .ref a1, .int p2] : List Value).toArray below meth c H locs (mxz τ - mxz σ) (mxu τ - mxu σ) (mx_Z below G P (some (.int r)) σ σ' [.ref a0, .ref a1, .int p2] s) (F0 m 8 ls []) := by
    intro v0 v1 v2 v3 v4 τ o hf Kb Ke0 H locs hJ ls hl
    unfold f_X7_isTaken_B8 at hf
    refine lv_iload hx hb dX7_isTaken_8 (lv_at hl 4 rfl) ?_
    refine lv_aload_n hx hb dX7_isTaken_10 rfl (lv_at hl 1 rfl) ?_
    obtain ⟨x3, e4, hf⟩ := mb0 hf
    refine my_gI hx hb hts hown hK hJ fd_RX7_124 hv_10_12 e4 dX7_isTaken_11 ?_
    refine lv_icmp_ge (tgt := 31) hx hb dX7_isTaken_14 (by decide) (fun c5 => ?_) (fun c5 => ?_)
    · rw [if_pos c5] at hf
      exact Ke0 τ (Option.some.inj hf).symm _ _ hJ ls (lv_sub hl [0, 1, 2, 3] rfl)
    · rw [if_neg c5] at hf
      refine lv_aload_n hx hb dX7_isTaken_17 rfl (lv_at hl 0 rfl) ?_
      refine lv_aload_n hx hb dX7_isTaken_18 rfl (lv_at hl 1 rfl) ?_
      refine lv_iload hx hb dX7_isTaken_19 (lv_at hl 4 rfl) ?_
      refine lv_iload_n hx hb dX7_isTaken_21 rfl (lv_at hl 2 rfl) ?_
      obtain ⟨i6, e7, hf⟩ := mb0 hf
      obtain ⟨σ8, e9, hf⟩ := mb0 hf
      refine mx_callV (As := [.ref v1, .int v4, .int v2]) (rest := []) hx hb hml hts hown hK hJ rfl rfl (ci := 7) rfl e7 (c_X7_checkPart l G P v0 v1 v4 v2 τ σ8 e9) me_X7_checkPart kw_1157 ks_33 kw_1155 (Nat.le_of_ble_eq_true rfl) (Nat.le_of_ble_eq_true rfl) rfl hl.1 rfl (Nat.le_of_ble_eq_true rfl) dX7_isTaken_22 (fun H locs hJ => ?_)
      obtain ⟨x10, e11, hf⟩ := mb0 hf
      refine lv_iinc (v := x10) (lv' := [(4, .int x10), (0, .ref v0), (1, .ref v1), (2, .int v2), (3, .int v3)]) hx hb dX7_isTaken_25 hl (k := 4) rfl (by rw [← Option.some.inj e11]; rfl) (by decide) rfl (fun ls hl => ?_)
      refine lv_goto (tgt := 8) hx hb dX7_isTaken_28 (by decide) ?_
      exact Kb x10 σ8 (Option.some.inj hf).symm _ _ hJ ls (lv_sub hl [1, 2, 3, 4, 0] rfl)
  have L8 : ∀ (v0 : Nat) (v1 : Nat) (v2 : Int32) (v3 : Int32) (n : Nat) (v4 : Int32) (τ : mx_S) (o : (mx_S)), mx_lp (f_X7_isTaken_L8 P v0 v1 v2 v3) n (v4, τ) = some o → (∀  (υ : mx_S), o = υ → ∀ (H : Heap) (locs : List Loc), mx_J G P s.heap (mxz σ) (mxu σ) υ H locs → ∀ ls : Array Slot, lv_has ls 5 [(0, .ref v0), (1, .ref v1), (2, .int v2), (3, .int v3)] → W p l e (mx_rm P 5 124 σ) s m ([.ref a0, .ref a1, .int p2] : List Value).toArray below meth c H locs (mxz υ - mxz σ) (mxu υ - mxu σ) (mx_Z below G P (some (.int r)) σ σ' [.ref a0, .ref a1, .int p2] s) (F0 m 31 ls [])) → ∀ (H : Heap) (locs : List Loc), mx_J G P s.heap (mxz σ) (mxu σ) τ H locs → ∀ ls : Array Slot, lv_has ls 5 [(0, .ref v0), (1, .ref v1), (2, .int v2), (3, .int v3), (4, .int v4)] → W p l e (mx_rm P 5 124 σ) s m ([.ref a0, .ref a1, .int p2] : List Value).toArray below meth c H locs (mxz τ - mxz σ) (mxu τ - mxu σ) (mx_Z below G P (some (.int r)) σ σ' [.ref a0, .ref a1, .int p2] s) (F0 m 8 ls []) := by
    intro v0 v1 v2 v3 n
    induction n with
    | zero =>
      intro v4 τ o hf
      rw [mx_lp0] at hf
      cases hf
    | succ n ih =>
      intro v4 τ o hf Ke0 H locs hJ ls hl
      rw [mx_lpS] at hf
      obtain ⟨b, eb, hf⟩ := mb0 hf
      refine B8 v0 v1 v2 v3 v4 τ b eb (fun y4 υ ho H locs hJ ls hl => ?_) (fun  υ ho H locs hJ ls hl => ?_) H locs hJ ls hl
      · subst ho
        exact ih y4 υ o hf Ke0 H locs hJ ls hl
      · subst ho
        exact Ke0  υ (Option.some.inj hf).symm _ _ hJ ls hl
  have D44 : ∀  (τ : mx_S), f_X7_isTaken_D44 P  τ = some (r, σ') → ∀ (H : Heap) (locs : List Loc), mx_J G P s.heap (mxz σ) (mxu σ) τ H locs → ∀ ls : Array Slot, lv_has ls 5 [] → W p l e (mx_rm P 5 124 σ) s m ([.ref a0, .ref a1, .int p2] : List Value).toArray below meth c H locs (mxz τ - mxz σ) (mxu τ - mxu σ) (mx_Z below G P (some (.int r)) σ σ' [.ref a0, .ref a1, .int p2] s) (F0 m 44 ls []) := by
    intro  τ hf _ _ hJ ls hl
    unfold f_X7_isTaken_D44 at hf
    refine lv_iconst (v := 0) hx hb dX7_isTaken_44 (by decide) ?_
    exact mx_zret hx hb hr hlocks hJ hf dX7_isTaken_45
  unfold f_X7_isTaken at hf
  refine lv_aload_n hx hb dX7_isTaken_0 rfl (lv_at hl 0 rfl) ?_
  obtain ⟨x1, e2, hf⟩ := mb0 hf
  refine my_gI hx hb hts hown hK hJ fd_RX7_81 hv_7_3 e2 dX7_isTaken_1 ?_
  refine lv_istore_n (lv' := [(3, .int x1), (0, .ref a0), (1, .ref a1), (2, .int p2)]) hx hb dX7_isTaken_4 rfl hl (by decide) rfl (fun ls hl => ?_)
  refine lv_iconst (v := 0) hx hb dX7_isTaken_5 (by decide) ?_
  refine lv_istore (lv' := [(4, .int (0 : Int32)), (3, .int x1), (0, .ref a0), (1, .ref a1), (2, .int p2)]) hx hb dX7_isTaken_6 hl (by decide) rfl (fun ls hl => ?_)
  obtain ⟨o12, e13, hf⟩ := mb0 hf
  refine L8 a0 a1 p2 x1 (mpN P) (0 : Int32) σ o12 e13 (fun σ14 ho H locs hJ ls hl => ?_) _ _ hJ ls (lv_sub hl [2, 3, 4, 1, 0] rfl)
  · rw [ho] at hf
    have hf : ((mg_I σ14 a1 10 2).bind fun x15 => (if x15 = 0 then (if p2 < (40 : Int32) then (mg_R σ14 a0 7 0).bind fun b19 => (ma_R σ14 b19 4 p2).bind fun b21 => (mx_is σ14 b21 5).bind fun i23 => (f_X5_become P b21 a1 x1 σ14).bind fun σ25 => (mp_I P σ25 a0 7 2 (p2 + (1 : Int32))).bind fun σ27 => mr_Z (1 : Int32) σ27 else f_X7_isTaken_D44 P  σ14) else f_X7_isTaken_D44 P  σ14)) = some (r, σ') := hf
    refine lv_aload_n hx hb dX7_isTaken_31 rfl (lv_at hl 1 rfl) ?_
    obtain ⟨x15, e16, hf⟩ := mb0 hf
    refine my_gI hx hb hts hown hK hJ fd_RX7_110 hv_10_2 e16 dX7_isTaken_32 ?_
    refine lv_if_ne (tgt := 44) hx hb dX7_isTaken_35 (by decide) (fun c17 => ?_) (fun c17 => ?_)
    · rw [if_neg c17] at hf
      exact D44  σ14 hf _ _ hJ ls (lv_sub hl [] rfl)
    · rw [if_pos c17] at hf
      refine lv_iload_n hx hb dX7_isTaken_38 rfl (lv_at hl 2 rfl) ?_
      refine lv_bipush (v := 40) hx hb dX7_isTaken_39 (by decide) ?_
      refine lv_icmp_lt (tgt := 46) hx hb dX7_isTaken_41 (by decide) (fun c18 => ?_) (fun c18 => ?_)
      · rw [if_pos c18] at hf
        refine lv_aload_n hx hb dX7_isTaken_46 rfl (lv_at hl 0 rfl) ?_
        obtain ⟨b19, e20, hf⟩ := mb0 hf
        refine my_gR hx hb hts hown hK hJ fd_RX7_11 hv_7_0 e20 dX7_isTaken_47 ?_
        refine lv_iload_n hx hb dX7_isTaken_50 rfl (lv_at hl 2 rfl) ?_
        obtain ⟨b21, e22, hf⟩ := mb0 hf
        refine mx_aR hx hb hK hJ (t := 4) rfl (fun _ _ _ => rfl) e22 dX7_isTaken_51 ?_
        refine lv_aload_n hx hb dX7_isTaken_52 rfl (lv_at hl 1 rfl) ?_
        refine lv_iload_n hx hb dX7_isTaken_53 rfl (lv_at hl 3 rfl) ?_
        obtain ⟨i23, e24, hf⟩ := mb0 hf
        obtain ⟨σ25, e26, hf⟩ := mb0 hf
        refine mx_callV (As := [.ref a1, .int x1]) (rest := []) hx hb hml hts hown hK hJ rfl rfl (ci := 5) rfl e24 (c_X5_become l G P b21 a1 x1 σ14 σ25 e26) me_X5_become kw_1178 kw_1179 kw_1177 (Nat.le_of_ble_eq_true rfl) (Nat.le_of_ble_eq_true rfl) rfl hl.1 rfl (Nat.le_of_ble_eq_true rfl) dX7_isTaken_54 (fun H locs hJ => ?_)
        refine lv_aload_n hx hb dX7_isTaken_57 rfl (lv_at hl 0 rfl) ?_
        refine lv_iload_n hx hb dX7_isTaken_58 rfl (lv_at hl 2 rfl) ?_
        refine lv_iconst (v := 1) hx hb dX7_isTaken_59 (by decide) ?_
        refine lv_iadd hx hb dX7_isTaken_60 ?_
        obtain ⟨σ27, e28, hf⟩ := mb0 hf
        refine my_pI hx hb hts hown hK hJ fd_RX7_77 cd_7 (Or.inl rfl) ht_7_2 e28 dX7_isTaken_61 (fun H locs hJ => ?_)
        refine lv_iconst (v := 1) hx hb dX7_isTaken_64 (by decide) ?_
        exact mx_zret hx hb hr hlocks hJ hf dX7_isTaken_65
      · rw [if_neg c18] at hf
        exact D44  σ14 hf _ _ hJ ls (lv_sub hl [] rfl)
set_option maxHeartbeats 4000000 in
set_option maxRecDepth 100000 in
theorem c_X7_isReady (l : Launch) (G : mx_G) (P : mx_P) (a0 : Nat) (p1 : Int64) (σ : mx_S) (r : Int32) (σ' : mx_S) (hf : f_X7_isReady P a0 p1 σ = some (r, σ')) : mxz σ ≤ mpc P → mxu σ ≤ mps P → mx_M l yX7_isReady cX7_isReady 4 (some .boolean) 0 0 G P [.ref a0, .long p1] σ (some (.int r)) σ' := by
  intro hcap hcau
  refine mx_ofW (by decide +kernel) hcap hcau (Nat.le_of_ble_eq_true rfl) ?_
  intro p e s m below meth c hx hb hr hml hts hown hlocks hname hK hJ ls hl
  have hz0 := hJ.2.1
  have hown : s.vm.findClass RX7 = some m.cls := hown
  have hl : lv_has ls 4 [(0, .ref a0), (1, .long p1)] := hl
  have B2 : ∀ (v0 : Nat) (v1 : Int64) (v3 : Int32) (τ : mx_S) (o : (Int32 × mx_S) ⊕ ((mx_S) ⊕ (mx_S))), f_X7_isReady_B2 P v0 v1 v3 τ = some o → (∀ (y3 : Int32) (υ : mx_S), o = .inl (y3, υ) → ∀ (H : Heap) (locs : List Loc), mx_J G P s.heap (mxz σ) (mxu σ) υ H locs → ∀ ls : Array Slot, lv_has ls 4 [(0, .ref v0), (1, .long v1), (3, .int y3)] → W p l e (mx_rm P 0 0 σ) s m ([.ref a0, .long p1] : List Value).toArray below meth c H locs (mxz υ - mxz σ) (mxu υ - mxu σ) (mx_Z below G P (some (.int r)) σ σ' [.ref a0, .long p1] s) (F0 m 2 ls [])) → (∀  (υ : mx_S), o = .inr (.inl υ) → ∀ (H : Heap) (locs : List Loc), mx_J G P s.heap (mxz σ) (mxu σ) υ H locs → ∀ ls : Array Slot, lv_has ls 4 [] → W p l e (mx_rm P 0 0 σ) s m ([.ref a0, .long p1] : List Value).toArray below meth c H locs (mxz υ - mxz σ) (mxu υ - mxu σ) (mx_Z below G P (some (.int r)) σ σ' [.ref a0, .long p1] s) (F0 m 25 ls [])) → (∀  (υ : mx_S), o = .inr (.inr υ) → ∀ (H : Heap) (locs : List Loc), mx_J G P s.heap (mxz σ) (mxu σ) υ H locs → ∀ ls : Array Slot, lv_has ls 4 [] → W p l e (mx_rm P 0 0 σ) s m ([.ref a0, .long p1] : List Value).toArray below meth c H locs (mxz υ - mxz σ) (mxu υ - mxu σ) (mx_Z below G P (some (.int r)) σ σ' [.ref a0, .long p1] s) (F0 m 33 ls [])) → ∀ (H : Heap) (locs : List Loc), mx_J G P s.heap (mxz σ) (mxu σ) τ H locs → ∀ ls : Array Slot, lv_has ls 4 [(0, .ref v0), (1, .long v1), (3, .int v3)] → W p l e (mx_rm P 0 0 σ) s m ([.ref a0, .long p1] : List Value).toArray below meth c H locs (mxz τ - mxz σ) (mxu τ - mxu σ) (mx_Z below G P (some (.int r)) σ σ' [.ref a0, .long p1] s) (F0 m 2 ls []) := by
    intro v0 v1 v3 τ o hf Kb Ke0 Ke1 H locs hJ ls hl
    unfold f_X7_isReady_B2 at hf
    refine lv_iload_n hx hb dX7_isReady_2 rfl (lv_at hl 2 rfl) ?_
    refine lv_aload_n hx hb dX7_isReady_3 rfl (lv_at hl 0 rfl) ?_
    obtain ⟨x1, e2, hf⟩ := mb0 hf
    refine my_gI hx hb hts hown hK hJ fd_RX7_164 hv_5_3 e2 dX7_isReady_4 ?_
    refine lv_icmp_ge (tgt := 33) hx hb dX7_isReady_7 (by decide) (fun c3 => ?_) (fun c3 => ?_)
    · rw [if_pos c3] at hf
      exact Ke1 τ (Option.some.inj hf).symm _ _ hJ ls (lv_sub hl [] rfl)
    · rw [if_neg c3] at hf
      refine lv_lload_n hx hb dX7_isReady_10 rfl (lv_at hl 1 rfl) ?_
      refine lv_aload_n hx hb dX7_isReady_11 rfl (lv_at hl 0 rfl) ?_
      obtain ⟨b4, e5, hf⟩ := mb0 hf
      refine my_gR hx hb hts hown hK hJ fd_RX7_167 hv_5_2 e5 dX7_isReady_12 ?_
      refine lv_iload_n hx hb dX7_isReady_15 rfl (lv_at hl 2 rfl) ?_
      obtain ⟨x6, e7, hf⟩ := mb0 hf
      refine mx_aI hx hb hK hJ e7 dX7_isReady_16 ?_
      refine lv_lshr hx hb dX7_isReady_17 rfl ?_
      refine lv_lconst (v := 1) hx hb dX7_isReady_18 (by decide) ?_
      refine lv_land hx hb dX7_isReady_19 ?_
      refine lv_lconst (v := 0) hx hb dX7_isReady_20 (by decide) ?_
      refine W.lcmp hx hb dX7_isReady_21 ?_
      refine lv_if_ne (tgt := 27) hx hb dX7_isReady_22 (by decide) (fun c8 => ?_) (fun c8 => ?_)
      · rw [if_neg c8] at hf
        obtain ⟨x9, e10, hf⟩ := mb0 hf
        refine lv_iinc (v := x9) (lv' := [(3, .int x9), (0, .ref v0), (1, .long v1)]) hx hb dX7_isReady_27 hl (k := 2) rfl (by rw [← Option.some.inj e10]; rfl) (by decide) rfl (fun ls hl => ?_)
        refine lv_goto (tgt := 2) hx hb dX7_isReady_30 (by decide) ?_
        exact Kb x9 τ (Option.some.inj hf).symm _ _ hJ ls (lv_sub hl [1, 2, 0] rfl)
      · rw [if_pos c8] at hf
        exact Ke0 τ (Option.some.inj hf).symm _ _ hJ ls (lv_sub hl [] rfl)
  have L2 : ∀ (v0 : Nat) (v1 : Int64) (n : Nat) (v3 : Int32) (τ : mx_S) (o : (mx_S) ⊕ (mx_S)), mx_lp (f_X7_isReady_L2 P v0 v1) n (v3, τ) = some o → (∀  (υ : mx_S), o = (.inl υ) → ∀ (H : Heap) (locs : List Loc), mx_J G P s.heap (mxz σ) (mxu σ) υ H locs → ∀ ls : Array Slot, lv_has ls 4 [] → W p l e (mx_rm P 0 0 σ) s m ([.ref a0, .long p1] : List Value).toArray below meth c H locs (mxz υ - mxz σ) (mxu υ - mxu σ) (mx_Z below G P (some (.int r)) σ σ' [.ref a0, .long p1] s) (F0 m 25 ls [])) → (∀  (υ : mx_S), o = (.inr υ) → ∀ (H : Heap) (locs : List Loc), mx_J G P s.heap (mxz σ) (mxu σ) υ H locs → ∀ ls : Array Slot, lv_has ls 4 [] → W p l e (mx_rm P 0 0 σ) s m ([.ref a0, .long p1] : List Value).toArray below meth c H locs (mxz υ - mxz σ) (mxu υ - mxu σ) (mx_Z below G P (some (.int r)) σ σ' [.ref a0, .long p1] s) (F0 m 33 ls [])) → ∀ (H : Heap) (locs : List Loc), mx_J G P s.heap (mxz σ) (mxu σ) τ H locs → ∀ ls : Array Slot, lv_has ls 4 [(0, .ref v0), (1, .long v1), (3, .int v3)] → W p l e (mx_rm P 0 0 σ) s m ([.ref a0, .long p1] : List Value).toArray below meth c H locs (mxz τ - mxz σ) (mxu τ - mxu σ) (mx_Z below G P (some (.int r)) σ σ' [.ref a0, .long p1] s) (F0 m 2 ls []) := by
    intro v0 v1 n
    induction n with
    | zero =>
      intro v3 τ o hf
      rw [mx_lp0] at hf
      cases hf
    | succ n ih =>
      intro v3 τ o hf Ke0 Ke1 H locs hJ ls hl
      rw [mx_lpS] at hf
      obtain ⟨b, eb, hf⟩ := mb0 hf
      refine B2 v0 v1 v3 τ b eb (fun y3 υ ho H locs hJ ls hl => ?_) (fun  υ ho H locs hJ ls hl => ?_) (fun  υ ho H locs hJ ls hl => ?_) H locs hJ ls hl
      · subst ho
        exact ih y3 υ o hf Ke0 Ke1 H locs hJ ls hl
      · subst ho
        exact Ke0  υ (Option.some.inj hf).symm _ _ hJ ls hl
      · subst ho
        exact Ke1  υ (Option.some.inj hf).symm _ _ hJ ls hl
  unfold f_X7_isReady at hf
  refine lv_iconst (v := 0) hx hb dX7_isReady_0 (by decide) ?_
  refine lv_istore_n (lv' := [(3, .int (0 : Int32)), (0, .ref a0), (1, .long p1)]) hx hb dX7_isReady_1 rfl hl (by decide) rfl (fun ls hl => ?_)
  obtain ⟨o11, e12, hf⟩ := mb0 hf
  refine L2 a0 p1 (mpN P) (0 : Int32) σ o11 e12 (fun σ13 ho H locs hJ ls hl => ?_) (fun σ14 ho H locs hJ ls hl => ?_) _ _ hJ ls (lv_sub hl [1, 2, 0] rfl)
  · rw [ho] at hf
    have hf : (mr_Z (0 : Int32) σ13) = some (r, σ') := hf
    refine lv_iconst (v := 0) hx hb dX7_isReady_25 (by decide) ?_
    exact mx_zret hx hb hr hlocks hJ hf dX7_isReady_26
  · rw [ho] at hf
    have hf : (mr_Z (1 : Int32) σ14) = some (r, σ') := hf
    refine lv_iconst (v := 1) hx hb dX7_isReady_33 (by decide) ?_
    exact mx_zret hx hb hr hlocks hJ hf dX7_isReady_34
set_option maxHeartbeats 4000000 in
set_option maxRecDepth 100000 in
theorem c_X7_inheritMask (l : Launch) (G : mx_G) (P : mx_P) (a0 : Nat) (a1 : Nat) (σ : mx_S) (σ' : mx_S) (hf : f_X7_inheritMask P a0 a1 σ = some σ') : mxz σ ≤ mpc P → mxu σ ≤ mps P → mx_M l yX7_inheritMask cX7_inheritMask 3 none 0 0 G P [.ref a0, .ref a1] σ none σ' := by
  intro hcap hcau
  refine mx_ofW (by decide +kernel) hcap hcau (Nat.le_of_ble_eq_true rfl) ?_
  intro p e s m below meth c hx hb hr hml hts hown hlocks hname hK hJ ls hl
  have hz0 := hJ.2.1
  have hown : s.vm.findClass RX7 = some m.cls := hown
  have hl : lv_has ls 3 [(0, .ref a0), (1, .ref a1)] := hl
  have B2 : ∀ (v0 : Nat) (v1 : Nat) (v2 : Int32) (τ : mx_S) (o : (Int32 × mx_S) ⊕ ((mx_S))), f_X7_inheritMask_B2 P v0 v1 v2 τ = some o → (∀ (y2 : Int32) (υ : mx_S), o = .inl (y2, υ) → ∀ (H : Heap) (locs : List Loc), mx_J G P s.heap (mxz σ) (mxu σ) υ H locs → ∀ ls : Array Slot, lv_has ls 3 [(0, .ref v0), (1, .ref v1), (2, .int y2)] → W p l e (mx_rm P 0 0 σ) s m ([.ref a0, .ref a1] : List Value).toArray below meth c H locs (mxz υ - mxz σ) (mxu υ - mxu σ) (mx_Z below G P none σ σ' [.ref a0, .ref a1] s) (F0 m 2 ls [])) → (∀  (υ : mx_S), o = .inr υ → ∀ (H : Heap) (locs : List Loc), mx_J G P s.heap (mxz σ) (mxu σ) υ H locs → ∀ ls : Array Slot, lv_has ls 3 [] → W p l e (mx_rm P 0 0 σ) s m ([.ref a0, .ref a1] : List Value).toArray below meth c H locs (mxz υ - mxz σ) (mxu υ - mxu σ) (mx_Z below G P none σ σ' [.ref a0, .ref a1] s) (F0 m 39 ls [])) → ∀ (H : Heap) (locs : List Loc), mx_J G P s.heap (mxz σ) (mxu σ) τ H locs → ∀ ls : Array Slot, lv_has ls 3 [(0, .ref v0), (1, .ref v1), (2, .int v2)] → W p l e (mx_rm P 0 0 σ) s m ([.ref a0, .ref a1] : List Value).toArray below meth c H locs (mxz τ - mxz σ) (mxu τ - mxu σ) (mx_Z below G P none σ σ' [.ref a0, .ref a1] s) (F0 m 2 ls []) := by
    intro v0 v1 v2 τ o hf Kb Ke0 H locs hJ ls hl
    unfold f_X7_inheritMask_B2 at hf
    refine lv_iload_n hx hb dX7_inheritMask_2 rfl (lv_at hl 2 rfl) ?_
    refine lv_aload_n hx hb dX7_inheritMask_3 rfl (lv_at hl 1 rfl) ?_
    obtain ⟨x1, e2, hf⟩ := mb0 hf
    refine my_gI hx hb hts hown hK hJ fd_RX7_164 hv_5_3 e2 dX7_inheritMask_4 ?_
    refine lv_icmp_ge (tgt := 39) hx hb dX7_inheritMask_7 (by decide) (fun c3 => ?_) (fun c3 => ?_)
    · rw [if_pos c3] at hf
      exact Ke0 τ (Option.some.inj hf).symm _ _ hJ ls (lv_sub hl [] rfl)
    · rw [if_neg c3] at hf
      refine lv_aload_n hx hb dX7_inheritMask_10 rfl (lv_at hl 1 rfl) ?_
      refine lv_dup hx hb dX7_inheritMask_11 rfl ?_
      obtain ⟨x4, e5, hf⟩ := mb0 hf
      refine my_gI hx hb hts hown hK hJ fd_RX7_170 hv_5_8 e5 dX7_inheritMask_12 ?_
      refine lv_aload_n hx hb dX7_inheritMask_15 rfl (lv_at hl 0 rfl) ?_
      obtain ⟨b6, e7, hf⟩ := mb0 hf
      refine my_gR hx hb hts hown hK hJ fd_RX7_11 hv_7_0 e7 dX7_inheritMask_16 ?_
      refine lv_aload_n hx hb dX7_inheritMask_19 rfl (lv_at hl 1 rfl) ?_
      obtain ⟨b8, e9, hf⟩ := mb0 hf
      refine my_gR hx hb hts hown hK hJ fd_RX7_167 hv_5_2 e9 dX7_inheritMask_20 ?_
      refine lv_iload_n hx hb dX7_inheritMask_23 rfl (lv_at hl 2 rfl) ?_
      obtain ⟨x10, e11, hf⟩ := mb0 hf
      refine mx_aI hx hb hK hJ e11 dX7_inheritMask_24 ?_
      obtain ⟨b12, e13, hf⟩ := mb0 hf
      refine mx_aR hx hb hK hJ (t := 4) rfl (fun _ _ _ => rfl) e13 dX7_inheritMask_25 ?_
      obtain ⟨x14, e15, hf⟩ := mb0 hf
      refine my_gI hx hb hts hown hK hJ fd_RX7_170 hv_5_8 e15 dX7_inheritMask_26 ?_
      refine lv_ior hx hb dX7_inheritMask_29 ?_
      obtain ⟨σ16, e17, hf⟩ := mb0 hf
      refine my_pI hx hb hts hown hK hJ fd_RX7_170 cd_5 (Or.inl rfl) ht_5_8 e17 dX7_inheritMask_30 (fun H locs hJ => ?_)
      obtain ⟨x18, e19, hf⟩ := mb0 hf
      refine lv_iinc (v := x18) (lv' := [(2, .int x18), (0, .ref v0), (1, .ref v1)]) hx hb dX7_inheritMask_33 hl (k := 2) rfl (by rw [← Option.some.inj e19]; rfl) (by decide) rfl (fun ls hl => ?_)
      refine lv_goto (tgt := 2) hx hb dX7_inheritMask_36 (by decide) ?_
      exact Kb x18 σ16 (Option.some.inj hf).symm _ _ hJ ls (lv_sub hl [1, 2, 0] rfl)
  have L2 : ∀ (v0 : Nat) (v1 : Nat) (n : Nat) (v2 : Int32) (τ : mx_S) (o : (mx_S)), mx_lp (f_X7_inheritMask_L2 P v0 v1) n (v2, τ) = some o → (∀  (υ : mx_S), o = υ → ∀ (H : Heap) (locs : List Loc), mx_J G P s.heap (mxz σ) (mxu σ) υ H locs → ∀ ls : Array Slot, lv_has ls 3 [] → W p l e (mx_rm P 0 0 σ) s m ([.ref a0, .ref a1] : List Value).toArray below meth c H locs (mxz υ - mxz σ) (mxu υ - mxu σ) (mx_Z below G P none σ σ' [.ref a0, .ref a1] s) (F0 m 39 ls [])) → ∀ (H : Heap) (locs : List Loc), mx_J G P s.heap (mxz σ) (mxu σ) τ H locs → ∀ ls : Array Slot, lv_has ls 3 [(0, .ref v0), (1, .ref v1), (2, .int v2)] → W p l e (mx_rm P 0 0 σ) s m ([.ref a0, .ref a1] : List Value).toArray below meth c H locs (mxz τ - mxz σ) (mxu τ - mxu σ) (mx_Z below G P none σ σ' [.ref a0, .ref a1] s) (F0 m 2 ls []) := by
    intro v0 v1 n
    induction n with
    | zero =>
      intro v2 τ o hf
      rw [mx_lp0] at hf
      cases hf
    | succ n ih =>
      intro v2 τ o hf Ke0 H locs hJ ls hl
      rw [mx_lpS] at hf
      obtain ⟨b, eb, hf⟩ := mb0 hf
      refine B2 v0 v1 v2 τ b eb (fun y2 υ ho H locs hJ ls hl => ?_) (fun  υ ho H locs hJ ls hl => ?_) H locs hJ ls hl
      · subst ho
        exact ih y2 υ o hf Ke0 H locs hJ ls hl
      · subst ho
        exact Ke0  υ (Option.some.inj hf).symm _ _ hJ ls hl
  unfold f_X7_inheritMask at hf
  refine lv_iconst (v := 0) hx hb dX7_inheritMask_0 (by decide) ?_
  refine lv_istore_n (lv' := [(2, .int (0 : Int32)), (0, .ref a0), (1, .ref a1)]) hx hb dX7_inheritMask_1 rfl hl (by decide) rfl (fun ls hl => ?_)
  obtain ⟨o20, e21, hf⟩ := mb0 hf
  refine L2 a0 a1 (mpN P) (0 : Int32) σ o20 e21 (fun σ22 ho H locs hJ ls hl => ?_) _ _ hJ ls (lv_sub hl [1, 2, 0] rfl)
  · rw [ho] at hf
    have hf : (some σ22) = some σ' := hf
    exact my_vret hx hb hr hlocks hJ hf dX7_inheritMask_39
set_option maxHeartbeats 4000000 in
set_option maxRecDepth 100000 in
theorem c_X7_arrange (l : Launch) (G : mx_G) (P : mx_P) (a0 : Nat) (σ : mx_S) (r : Int32) (σ' : mx_S) (hf : f_X7_arrange P a0 σ = some (r, σ')) : mxz σ ≤ mpc P → mxu σ ≤ mps P → mx_M l yX7_arrange cX7_arrange 6 (some .int) 1 23 G P [.ref a0] σ (some (.int r)) σ' := by
  intro hcap hcau
  refine mx_ofW (by decide +kernel) hcap hcau (Nat.le_of_ble_eq_true rfl) ?_
  intro p e s m below meth c hx hb hr hml hts hown hlocks hname hK hJ ls hl
  have hz0 := hJ.2.1
  have hown : s.vm.findClass RX7 = some m.cls := hown
  have hl : lv_has ls 6 [(0, .ref a0)] := hl
  have D90_27 : ∀ (v0 : Nat) (v1 : Int64) (v3 : Int32) (v4 : Int32) (v5 : Int32) (τ : mx_S) (o : (Int64 × Int32 × Int32 × mx_S) ⊕ ((Int64 × Int32 × mx_S))), f_X7_arrange_D90_27 P v0 v1 v3 v4 v5 τ = some o → (∀ (y1 : Int64) (y3 : Int32) (y5 : Int32) (υ : mx_S), o = .inl (y1, y3, y5, υ) → ∀ (H : Heap) (locs : List Loc), mx_J G P s.heap (mxz σ) (mxu σ) υ H locs → ∀ ls : Array Slot, lv_has ls 6 [(0, .ref v0), (1, .long y1), (3, .int y3), (4, .int v4), (5, .int y5)] → W p l e (mx_rm P 1 23 σ) s m ([.ref a0] : List Value).toArray below meth c H locs (mxz υ - mxz σ) (mxu υ - mxu σ) (mx_Z below G P (some (.int r)) σ σ' [.ref a0] s) (F0 m 27 ls [])) → (∀ (y1 : Int64) (y3 : Int32) (υ : mx_S), o = .inr (y1, y3, υ) → ∀ (H : Heap) (locs : List Loc), mx_J G P s.heap (mxz σ) (mxu σ) υ H locs → ∀ ls : Array Slot, lv_has ls 6 [(0, .ref v0), (1, .long y1), (3, .int y3), (4, .int v4)] → W p l e (mx_rm P 1 23 σ) s m ([.ref a0] : List Value).toArray below meth c H locs (mxz υ - mxz σ) (mxu υ - mxu σ) (mx_Z below G P (some (.int r)) σ σ' [.ref a0] s) (F0 m 96 ls [])) → ∀ (H : Heap) (locs : List Loc), mx_J G P s.heap (mxz σ) (mxu σ) τ H locs → ∀ ls : Array Slot, lv_has ls 6 [(0, .ref v0), (1, .long v1), (3, .int v3), (4, .int v4), (5, .int v5)] → W p l e (mx_rm P 1 23 σ) s m ([.ref a0] : List Value).toArray below meth c H locs (mxz τ - mxz σ) (mxu τ - mxu σ) (mx_Z below G P (some (.int r)) σ σ' [.ref a0] s) (F0 m 90 ls []) := by
    intro v0 v1 v3 v4 v5 τ o hf Kb Ke0 H locs hJ ls hl
    unfold f_X7_arrange_D90_27 at hf
    obtain ⟨x11, e12, hf⟩ := mb0 hf
    refine lv_iinc (v := x11) (lv' := [(5, .int x11), (0, .ref v0), (1, .long v1), (3, .int v3), (4, .int v4)]) hx hb dX7_arrange_90 hl (k := 4) rfl (by rw [← Option.some.inj e12]; rfl) (by decide) rfl (fun ls hl => ?_)
    refine lv_goto (tgt := 27) hx hb dX7_arrange_93 (by decide) ?_
    exact Kb v1 v3 x11 τ (Option.some.inj hf).symm _ _ hJ ls (lv_sub hl [1, 2, 3, 4, 0] rfl)
  have B27 : ∀ (v0 : Nat) (v4 : Int32) (v1 : Int64) (v3 : Int32) (v5 : Int32) (τ : mx_S) (o : (Int64 × Int32 × Int32 × mx_S) ⊕ ((Int64 × Int32 × mx_S))), f_X7_arrange_B27 P v0 v4 v1 v3 v5 τ = some o → (∀ (y1 : Int64) (y3 : Int32) (y5 : Int32) (υ : mx_S), o = .inl (y1, y3, y5, υ) → ∀ (H : Heap) (locs : List Loc), mx_J G P s.heap (mxz σ) (mxu σ) υ H locs → ∀ ls : Array Slot, lv_has ls 6 [(0, .ref v0), (1, .long y1), (3, .int y3), (4, .int v4), (5, .int y5)] → W p l e (mx_rm P 1 23 σ) s m ([.ref a0] : List Value).toArray below meth c H locs (mxz υ - mxz σ) (mxu υ - mxu σ) (mx_Z below G P (some (.int r)) σ σ' [.ref a0] s) (F0 m 27 ls [])) → (∀ (y1 : Int64) (y3 : Int32) (υ : mx_S), o = .inr (y1, y3, υ) → ∀ (H : Heap) (locs : List Loc), mx_J G P s.heap (mxz σ) (mxu σ) υ H locs → ∀ ls : Array Slot, lv_has ls 6 [(0, .ref v0), (1, .long y1), (3, .int y3), (4, .int v4)] → W p l e (mx_rm P 1 23 σ) s m ([.ref a0] : List Value).toArray below meth c H locs (mxz υ - mxz σ) (mxu υ - mxu σ) (mx_Z below G P (some (.int r)) σ σ' [.ref a0] s) (F0 m 96 ls [])) → ∀ (H : Heap) (locs : List Loc), mx_J G P s.heap (mxz σ) (mxu σ) τ H locs → ∀ ls : Array Slot, lv_has ls 6 [(0, .ref v0), (1, .long v1), (3, .int v3), (4, .int v4), (5, .int v5)] → W p l e (mx_rm P 1 23 σ) s m ([.ref a0] : List Value).toArray below meth c H locs (mxz τ - mxz σ) (mxu τ - mxu σ) (mx_Z below G P (some (.int r)) σ σ' [.ref a0] s) (F0 m 27 ls []) := by
    intro v0 v4 v1 v3 v5 τ o hf Kb Ke0 H locs hJ ls hl
    unfold f_X7_arrange_B27 at hf
    refine lv_iload hx hb dX7_arrange_27 (lv_at hl 4 rfl) ?_
    refine lv_aload_n hx hb dX7_arrange_29 rfl (lv_at hl 0 rfl) ?_
    obtain ⟨x7, e8, hf⟩ := mb0 hf
    refine my_gI hx hb hts hown hK hJ fd_RX7_77 hv_7_2 e8 dX7_arrange_30 ?_
    refine lv_icmp_ge (tgt := 96) hx hb dX7_arrange_33 (by decide) (fun c9 => ?_) (fun c9 => ?_)
    · rw [if_pos c9] at hf
      exact Ke0 v1 v3 τ (Option.some.inj hf).symm _ _ hJ ls (lv_sub hl [0, 1, 2, 3] rfl)
    · rw [if_neg c9] at hf
      refine lv_lload_n hx hb dX7_arrange_36 rfl (lv_at hl 1 rfl) ?_
      refine lv_iload hx hb dX7_arrange_37 (lv_at hl 4 rfl) ?_
      refine lv_lshr hx hb dX7_arrange_39 rfl ?_
      refine lv_lconst (v := 1) hx hb dX7_arrange_40 (by decide) ?_
      refine lv_land hx hb dX7_arrange_41 ?_
      refine lv_lconst (v := 0) hx hb dX7_arrange_42 (by decide) ?_
      refine W.lcmp hx hb dX7_arrange_43 ?_
      refine lv_if_ne (tgt := 90) hx hb dX7_arrange_44 (by decide) (fun c10 => ?_) (fun c10 => ?_)
      · rw [if_neg c10] at hf
        exact D90_27 v0 v1 v3 v4 v5 τ o hf Kb Ke0 _ _ hJ ls (lv_sub hl [0, 1, 2, 3, 4] rfl)
      · rw [if_pos c10] at hf
        refine lv_aload_n hx hb dX7_arrange_47 rfl (lv_at hl 0 rfl) ?_
        obtain ⟨b13, e14, hf⟩ := mb0 hf
        refine my_gR hx hb hts hown hK hJ fd_RX7_11 hv_7_0 e14 dX7_arrange_48 ?_
        refine lv_iload hx hb dX7_arrange_51 (lv_at hl 4 rfl) ?_
        obtain ⟨b15, e16, hf⟩ := mb0 hf
        refine mx_aR hx hb hK hJ (t := 4) rfl (fun _ _ _ => rfl) e16 dX7_arrange_53 ?_
        refine lv_lload_n hx hb dX7_arrange_54 rfl (lv_at hl 1 rfl) ?_
        obtain ⟨x18, σ17, e19, hf⟩ := mc0 hf
        refine mx_callS (As := [.ref b15, .long v1]) (rest := []) hx hb hml hts hown hK hJ rfl rfl (c_X7_isReady l G P b15 v1 τ x18 σ17 e19) me_X7_isReady kw_1198 kw_1197 (Nat.le_of_ble_eq_true rfl) (Nat.le_of_ble_eq_true rfl) rfl hl.1 rfl (Nat.le_of_ble_eq_true rfl) dX7_arrange_55 (fun H locs hJ => ?_)
        refine lv_if_eq (tgt := 90) hx hb dX7_arrange_58 (by decide) (fun c20 => ?_) (fun c20 => ?_)
        · rw [if_pos c20] at hf
          exact D90_27 v0 v1 v3 v4 v5 σ17 o hf Kb Ke0 _ _ hJ ls (lv_sub hl [0, 1, 2, 3, 4] rfl)
        · rw [if_neg c20] at hf
          refine lv_lload_n hx hb dX7_arrange_61 rfl (lv_at hl 1 rfl) ?_
          refine lv_lconst (v := 1) hx hb dX7_arrange_62 (by decide) ?_
          refine lv_iload hx hb dX7_arrange_63 (lv_at hl 4 rfl) ?_
          refine lv_lshl hx hb dX7_arrange_65 rfl ?_
          refine lv_lor hx hb dX7_arrange_66 ?_
          obtain ⟨x21, e22, hf⟩ := mb0 hf
          refine mx_nL e22 ?_
          refine lv_lstore_n (lv' := [(1, .long x21), (0, .ref v0), (3, .int v3), (4, .int v4), (5, .int v5)]) hx hb dX7_arrange_67 rfl hl (by decide) rfl (fun ls hl => ?_)
          refine lv_aload_n hx hb dX7_arrange_68 rfl (lv_at hl 1 rfl) ?_
          obtain ⟨b23, e24, hf⟩ := mb0 hf
          refine my_gR hx hb hts hown hK hJ fd_RX7_16 hv_7_1 e24 dX7_arrange_69 ?_
          refine lv_iload_n hx hb dX7_arrange_72 rfl (lv_at hl 2 rfl) ?_
          refine lv_iload hx hb dX7_arrange_73 (lv_at hl 4 rfl) ?_
          obtain ⟨σ25, e26, hf⟩ := mb0 hf
          refine mx_sI hx hb hK hJ e26 dX7_arrange_75 (fun H locs hJ => ?_)
          obtain ⟨x27, e28, hf⟩ := mb0 hf
          refine lv_iinc (v := x27) (lv' := [(3, .int x27), (1, .long x21), (0, .ref v0), (4, .int v4), (5, .int v5)]) hx hb dX7_arrange_76 hl (k := 2) rfl (by rw [← Option.some.inj e28]; rfl) (by decide) rfl (fun ls hl => ?_)
          refine lv_aload_n hx hb dX7_arrange_79 rfl (lv_at hl 2 rfl) ?_
          refine lv_aload_n hx hb dX7_arrange_80 rfl (lv_at hl 2 rfl) ?_
          obtain ⟨b29, e30, hf⟩ := mb0 hf
          refine my_gR hx hb hts hown hK hJ fd_RX7_11 hv_7_0 e30 dX7_arrange_81 ?_
          refine lv_iload hx hb dX7_arrange_84 (lv_at hl 4 rfl) ?_
          obtain ⟨b31, e32, hf⟩ := mb0 hf
          refine mx_aR hx hb hK hJ (t := 4) rfl (fun _ _ _ => rfl) e32 dX7_arrange_86 ?_
          obtain ⟨i33, e34, hf⟩ := mb0 hf
          obtain ⟨σ35, e36, hf⟩ := mb0 hf
          refine mx_callV (As := [.ref b31]) (rest := []) hx hb hml hts hown hK hJ rfl rfl (ci := 7) rfl e34 (c_X7_inheritMask l G P v0 b31 σ25 σ35 e36) me_X7_inheritMask kw_1202 ks_38 kw_1200 (Nat.le_of_ble_eq_true rfl) (Nat.le_of_ble_eq_true rfl) rfl hl.1 rfl (Nat.le_of_ble_eq_true rfl) dX7_arrange_87 (fun H locs hJ => ?_)
          exact D90_27 v0 x21 x27 v4 v5 σ35 o hf Kb Ke0 _ _ hJ ls (lv_sub hl [2, 1, 0, 3, 4] rfl)
  have L27 : ∀ (v0 : Nat) (v4 : Int32) (n : Nat) (v1 : Int64) (v3 : Int32) (v5 : Int32) (τ : mx_S) (o : (Int64 × Int32 × mx_S)), mx_lp (f_X7_arrange_L27 P v0 v4) n (v1, v3, v5, τ) = some o → (∀ (y1 : Int64) (y3 : Int32) (υ : mx_S), o = (y1, y3, υ) → ∀ (H : Heap) (locs : List Loc), mx_J G P s.heap (mxz σ) (mxu σ) υ H locs → ∀ ls : Array Slot, lv_has ls 6 [(0, .ref v0), (1, .long y1), (3, .int y3), (4, .int v4)] → W p l e (mx_rm P 1 23 σ) s m ([.ref a0] : List Value).toArray below meth c H locs (mxz υ - mxz σ) (mxu υ - mxu σ) (mx_Z below G P (some (.int r)) σ σ' [.ref a0] s) (F0 m 96 ls [])) → ∀ (H : Heap) (locs : List Loc), mx_J G P s.heap (mxz σ) (mxu σ) τ H locs → ∀ ls : Array Slot, lv_has ls 6 [(0, .ref v0), (1, .long v1), (3, .int v3), (4, .int v4), (5, .int v5)] → W p l e (mx_rm P 1 23 σ) s m ([.ref a0] : List Value).toArray below meth c H locs (mxz τ - mxz σ) (mxu τ - mxu σ) (mx_Z below G P (some (.int r)) σ σ' [.ref a0] s) (F0 m 27 ls []) := by
    intro v0 v4 n
    induction n with
    | zero =>
      intro v1 v3 v5 τ o hf
      rw [mx_lp0] at hf
      cases hf
    | succ n ih =>
      intro v1 v3 v5 τ o hf Ke0 H locs hJ ls hl
      rw [mx_lpS] at hf
      obtain ⟨b, eb, hf⟩ := mb0 hf
      refine B27 v0 v4 v1 v3 v5 τ b eb (fun y1 y3 y5 υ ho H locs hJ ls hl => ?_) (fun y1 y3 υ ho H locs hJ ls hl => ?_) H locs hJ ls hl
      · subst ho
        exact ih y1 y3 y5 υ o hf Ke0 H locs hJ ls hl
      · subst ho
        exact Ke0 y1 y3 υ (Option.some.inj hf).symm _ _ hJ ls hl
  have B7 : ∀ (v0 : Nat) (v1 : Int64) (v3 : Int32) (v4 : Int32) (τ : mx_S) (o : (Int64 × Int32 × Int32 × mx_S) ⊕ ((Int64 × mx_S))), f_X7_arrange_B7 P v0 v1 v3 v4 τ = some o → (∀ (y1 : Int64) (y3 : Int32) (y4 : Int32) (υ : mx_S), o = .inl (y1, y3, y4, υ) → ∀ (H : Heap) (locs : List Loc), mx_J G P s.heap (mxz σ) (mxu σ) υ H locs → ∀ ls : Array Slot, lv_has ls 6 [(0, .ref v0), (1, .long y1), (3, .int y3), (4, .int y4)] → W p l e (mx_rm P 1 23 σ) s m ([.ref a0] : List Value).toArray below meth c H locs (mxz υ - mxz σ) (mxu υ - mxu σ) (mx_Z below G P (some (.int r)) σ σ' [.ref a0] s) (F0 m 7 ls [])) → (∀ (y1 : Int64) (υ : mx_S), o = .inr (y1, υ) → ∀ (H : Heap) (locs : List Loc), mx_J G P s.heap (mxz σ) (mxu σ) υ H locs → ∀ ls : Array Slot, lv_has ls 6 [(0, .ref v0), (1, .long y1)] → W p l e (mx_rm P 1 23 σ) s m ([.ref a0] : List Value).toArray below meth c H locs (mxz υ - mxz σ) (mxu υ - mxu σ) (mx_Z below G P (some (.int r)) σ σ' [.ref a0] s) (F0 m 102 ls [])) → ∀ (H : Heap) (locs : List Loc), mx_J G P s.heap (mxz σ) (mxu σ) τ H locs → ∀ ls : Array Slot, lv_has ls 6 [(0, .ref v0), (1, .long v1), (3, .int v3), (4, .int v4)] → W p l e (mx_rm P 1 23 σ) s m ([.ref a0] : List Value).toArray below meth c H locs (mxz τ - mxz σ) (mxu τ - mxu σ) (mx_Z below G P (some (.int r)) σ σ' [.ref a0] s) (F0 m 7 ls []) := by
    intro v0 v1 v3 v4 τ o hf Kb Ke0 H locs hJ ls hl
    unfold f_X7_arrange_B7 at hf
    refine lv_iload hx hb dX7_arrange_7 (lv_at hl 3 rfl) ?_
    refine lv_aload_n hx hb dX7_arrange_9 rfl (lv_at hl 0 rfl) ?_
    obtain ⟨x1, e2, hf⟩ := mb0 hf
    refine my_gI hx hb hts hown hK hJ fd_RX7_77 hv_7_2 e2 dX7_arrange_10 ?_
    refine lv_icmp_ge (tgt := 102) hx hb dX7_arrange_13 (by decide) (fun c3 => ?_) (fun c3 => ?_)
    · rw [if_pos c3] at hf
      exact Ke0 v1 τ (Option.some.inj hf).symm _ _ hJ ls (lv_sub hl [0, 1] rfl)
    · rw [if_neg c3] at hf
      refine lv_iload_n hx hb dX7_arrange_16 rfl (lv_at hl 2 rfl) ?_
      refine lv_aload_n hx hb dX7_arrange_17 rfl (lv_at hl 0 rfl) ?_
      obtain ⟨x4, e5, hf⟩ := mb0 hf
      refine my_gI hx hb hts hown hK hJ fd_RX7_77 hv_7_2 e5 dX7_arrange_18 ?_
      refine lv_icmp_ge (tgt := 102) hx hb dX7_arrange_21 (by decide) (fun c6 => ?_) (fun c6 => ?_)
      · rw [if_pos c6] at hf
        exact Ke0 v1 τ (Option.some.inj hf).symm _ _ hJ ls (lv_sub hl [0, 1] rfl)
      · rw [if_neg c6] at hf
        refine lv_iconst (v := 0) hx hb dX7_arrange_24 (by decide) ?_
        refine lv_istore (lv' := [(5, .int (0 : Int32)), (0, .ref v0), (1, .long v1), (3, .int v3), (4, .int v4)]) hx hb dX7_arrange_25 hl (by decide) rfl (fun ls hl => ?_)
        obtain ⟨o37, e38, hf⟩ := mb0 hf
        refine L27 v0 v4 (mpN P) v1 v3 (0 : Int32) τ o37 e38 (fun y39 y40 σ41 ho H locs hJ ls hl => ?_) _ _ hJ ls (lv_sub hl [1, 2, 3, 4, 0] rfl)
        · rw [ho] at hf
          have hf : ((some (v4 + (1 : Int32))).bind fun x42 => some (.inl (y39, y40, x42, σ41))) = some o := hf
          obtain ⟨x42, e43, hf⟩ := mb0 hf
          refine lv_iinc (v := x42) (lv' := [(4, .int x42), (0, .ref v0), (1, .long y39), (3, .int y40)]) hx hb dX7_arrange_96 hl (k := 3) rfl (by rw [← Option.some.inj e43]; rfl) (by decide) rfl (fun ls hl => ?_)
          refine lv_goto (tgt := 7) hx hb dX7_arrange_99 (by decide) ?_
          exact Kb y39 y40 x42 σ41 (Option.some.inj hf).symm _ _ hJ ls (lv_sub hl [1, 2, 3, 0] rfl)
  have L7 : ∀ (v0 : Nat) (n : Nat) (v1 : Int64) (v3 : Int32) (v4 : Int32) (τ : mx_S) (o : (Int64 × mx_S)), mx_lp (f_X7_arrange_L7 P v0) n (v1, v3, v4, τ) = some o → (∀ (y1 : Int64) (υ : mx_S), o = (y1, υ) → ∀ (H : Heap) (locs : List Loc), mx_J G P s.heap (mxz σ) (mxu σ) υ H locs → ∀ ls : Array Slot, lv_has ls 6 [(0, .ref v0), (1, .long y1)] → W p l e (mx_rm P 1 23 σ) s m ([.ref a0] : List Value).toArray below meth c H locs (mxz υ - mxz σ) (mxu υ - mxu σ) (mx_Z below G P (some (.int r)) σ σ' [.ref a0] s) (F0 m 102 ls [])) → ∀ (H : Heap) (locs : List Loc), mx_J G P s.heap (mxz σ) (mxu σ) τ H locs → ∀ ls : Array Slot, lv_has ls 6 [(0, .ref v0), (1, .long v1), (3, .int v3), (4, .int v4)] → W p l e (mx_rm P 1 23 σ) s m ([.ref a0] : List Value).toArray below meth c H locs (mxz τ - mxz σ) (mxu τ - mxu σ) (mx_Z below G P (some (.int r)) σ σ' [.ref a0] s) (F0 m 7 ls []) := by
    intro v0 n
    induction n with
    | zero =>
      intro v1 v3 v4 τ o hf
      rw [mx_lp0] at hf
      cases hf
    | succ n ih =>
      intro v1 v3 v4 τ o hf Ke0 H locs hJ ls hl
      rw [mx_lpS] at hf
      obtain ⟨b, eb, hf⟩ := mb0 hf
      refine B7 v0 v1 v3 v4 τ b eb (fun y1 y3 y4 υ ho H locs hJ ls hl => ?_) (fun y1 υ ho H locs hJ ls hl => ?_) H locs hJ ls hl
      · subst ho
        exact ih y1 y3 y4 υ o hf Ke0 H locs hJ ls hl
      · subst ho
        exact Ke0 y1 υ (Option.some.inj hf).symm _ _ hJ ls hl
  have B105 : ∀ (v0 : Nat) (v1 : Int64) (v4 : Int32) (τ : mx_S) (o : (Int32 × mx_S) ⊕ ((Int32 × mx_S) ⊕ (mx_S))), f_X7_arrange_B105 P v0 v1 v4 τ = some o → (∀ (y4 : Int32) (υ : mx_S), o = .inl (y4, υ) → ∀ (H : Heap) (locs : List Loc), mx_J G P s.heap (mxz σ) (mxu σ) υ H locs → ∀ ls : Array Slot, lv_has ls 6 [(0, .ref v0), (1, .long v1), (4, .int y4)] → W p l e (mx_rm P 1 23 σ) s m ([.ref a0] : List Value).toArray below meth c H locs (mxz υ - mxz σ) (mxu υ - mxu σ) (mx_Z below G P (some (.int r)) σ σ' [.ref a0] s) (F0 m 105 ls [])) → (∀ (y4 : Int32) (υ : mx_S), o = .inr (.inl (y4, υ)) → ∀ (H : Heap) (locs : List Loc), mx_J G P s.heap (mxz σ) (mxu σ) υ H locs → ∀ ls : Array Slot, lv_has ls 6 [(4, .int y4)] → W p l e (mx_rm P 1 23 σ) s m ([.ref a0] : List Value).toArray below meth c H locs (mxz υ - mxz σ) (mxu υ - mxu σ) (mx_Z below G P (some (.int r)) σ σ' [.ref a0] s) (F0 m 125 ls [])) → (∀  (υ : mx_S), o = .inr (.inr υ) → ∀ (H : Heap) (locs : List Loc), mx_J G P s.heap (mxz σ) (mxu σ) υ H locs → ∀ ls : Array Slot, lv_has ls 6 [] → W p l e (mx_rm P 1 23 σ) s m ([.ref a0] : List Value).toArray below meth c H locs (mxz υ - mxz σ) (mxu υ - mxu σ) (mx_Z below G P (some (.int r)) σ σ' [.ref a0] s) (F0 m 134 ls [])) → ∀ (H : Heap) (locs : List Loc), mx_J G P s.heap (mxz σ) (mxu σ) τ H locs → ∀ ls : Array Slot, lv_has ls 6 [(0, .ref v0), (1, .long v1), (4, .int v4)] → W p l e (mx_rm P 1 23 σ) s m ([.ref a0] : List Value).toArray below meth c H locs (mxz τ - mxz σ) (mxu τ - mxu σ) (mx_Z below G P (some (.int r)) σ σ' [.ref a0] s) (F0 m 105 ls []) := by
    intro v0 v1 v4 τ o hf Kb Ke0 Ke1 H locs hJ ls hl
    unfold f_X7_arrange_B105 at hf
    refine lv_iload hx hb dX7_arrange_105 (lv_at hl 2 rfl) ?_
    refine lv_aload_n hx hb dX7_arrange_107 rfl (lv_at hl 0 rfl) ?_
    obtain ⟨x48, e49, hf⟩ := mb0 hf
    refine my_gI hx hb hts hown hK hJ fd_RX7_77 hv_7_2 e49 dX7_arrange_108 ?_
    refine lv_icmp_ge (tgt := 134) hx hb dX7_arrange_111 (by decide) (fun c50 => ?_) (fun c50 => ?_)
    · rw [if_pos c50] at hf
      exact Ke1 τ (Option.some.inj hf).symm _ _ hJ ls (lv_sub hl [] rfl)
    · rw [if_neg c50] at hf
      refine lv_lload_n hx hb dX7_arrange_114 rfl (lv_at hl 1 rfl) ?_
      refine lv_iload hx hb dX7_arrange_115 (lv_at hl 2 rfl) ?_
      refine lv_lshr hx hb dX7_arrange_117 rfl ?_
      refine lv_lconst (v := 1) hx hb dX7_arrange_118 (by decide) ?_
      refine lv_land hx hb dX7_arrange_119 ?_
      refine lv_lconst (v := 0) hx hb dX7_arrange_120 (by decide) ?_
      refine W.lcmp hx hb dX7_arrange_121 ?_
      refine lv_if_ne (tgt := 128) hx hb dX7_arrange_122 (by decide) (fun c51 => ?_) (fun c51 => ?_)
      · rw [if_neg c51] at hf
        obtain ⟨x52, e53, hf⟩ := mb0 hf
        refine lv_iinc (v := x52) (lv' := [(4, .int x52), (0, .ref v0), (1, .long v1)]) hx hb dX7_arrange_128 hl (k := 2) rfl (by rw [← Option.some.inj e53]; rfl) (by decide) rfl (fun ls hl => ?_)
        refine lv_goto (tgt := 105) hx hb dX7_arrange_131 (by decide) ?_
        exact Kb x52 τ (Option.some.inj hf).symm _ _ hJ ls (lv_sub hl [1, 2, 0] rfl)
      · rw [if_pos c51] at hf
        exact Ke0 v4 τ (Option.some.inj hf).symm _ _ hJ ls (lv_sub hl [2] rfl)
  have L105 : ∀ (v0 : Nat) (v1 : Int64) (n : Nat) (v4 : Int32) (τ : mx_S) (o : (Int32 × mx_S) ⊕ (mx_S)), mx_lp (f_X7_arrange_L105 P v0 v1) n (v4, τ) = some o → (∀ (y4 : Int32) (υ : mx_S), o = (.inl (y4, υ)) → ∀ (H : Heap) (locs : List Loc), mx_J G P s.heap (mxz σ) (mxu σ) υ H locs → ∀ ls : Array Slot, lv_has ls 6 [(4, .int y4)] → W p l e (mx_rm P 1 23 σ) s m ([.ref a0] : List Value).toArray below meth c H locs (mxz υ - mxz σ) (mxu υ - mxu σ) (mx_Z below G P (some (.int r)) σ σ' [.ref a0] s) (F0 m 125 ls [])) → (∀  (υ : mx_S), o = (.inr υ) → ∀ (H : Heap) (locs : List Loc), mx_J G P s.heap (mxz σ) (mxu σ) υ H locs → ∀ ls : Array Slot, lv_has ls 6 [] → W p l e (mx_rm P 1 23 σ) s m ([.ref a0] : List Value).toArray below meth c H locs (mxz υ - mxz σ) (mxu υ - mxu σ) (mx_Z below G P (some (.int r)) σ σ' [.ref a0] s) (F0 m 134 ls [])) → ∀ (H : Heap) (locs : List Loc), mx_J G P s.heap (mxz σ) (mxu σ) τ H locs → ∀ ls : Array Slot, lv_has ls 6 [(0, .ref v0), (1, .long v1), (4, .int v4)] → W p l e (mx_rm P 1 23 σ) s m ([.ref a0] : List Value).toArray below meth c H locs (mxz τ - mxz σ) (mxu τ - mxu σ) (mx_Z below G P (some (.int r)) σ σ' [.ref a0] s) (F0 m 105 ls []) := by
    intro v0 v1 n
    induction n with
    | zero =>
      intro v4 τ o hf
      rw [mx_lp0] at hf
      cases hf
    | succ n ih =>
      intro v4 τ o hf Ke0 Ke1 H locs hJ ls hl
      rw [mx_lpS] at hf
      obtain ⟨b, eb, hf⟩ := mb0 hf
      refine B105 v0 v1 v4 τ b eb (fun y4 υ ho H locs hJ ls hl => ?_) (fun y4 υ ho H locs hJ ls hl => ?_) (fun  υ ho H locs hJ ls hl => ?_) H locs hJ ls hl
      · subst ho
        exact ih y4 υ o hf Ke0 Ke1 H locs hJ ls hl
      · subst ho
        exact Ke0 y4 υ (Option.some.inj hf).symm _ _ hJ ls hl
      · subst ho
        exact Ke1  υ (Option.some.inj hf).symm _ _ hJ ls hl
  have D102 : ∀ (v0 : Nat) (v1 : Int64) (τ : mx_S), f_X7_arrange_D102 P v0 v1 τ = some (r, σ') → ∀ (H : Heap) (locs : List Loc), mx_J G P s.heap (mxz σ) (mxu σ) τ H locs → ∀ ls : Array Slot, lv_has ls 6 [(0, .ref v0), (1, .long v1)] → W p l e (mx_rm P 1 23 σ) s m ([.ref a0] : List Value).toArray below meth c H locs (mxz τ - mxz σ) (mxu τ - mxu σ) (mx_Z below G P (some (.int r)) σ σ' [.ref a0] s) (F0 m 102 ls []) := by
    intro v0 v1 τ hf _ _ hJ ls hl
    unfold f_X7_arrange_D102 at hf
    refine lv_iconst (v := 0) hx hb dX7_arrange_102 (by decide) ?_
    refine lv_istore (lv' := [(4, .int (0 : Int32)), (0, .ref v0), (1, .long v1)]) hx hb dX7_arrange_103 hl (by decide) rfl (fun ls hl => ?_)
    obtain ⟨o54, e55, hf⟩ := mb0 hf
    refine L105 v0 v1 (mpN P) (0 : Int32) τ o54 e55 (fun y56 σ57 ho H locs hJ ls hl => ?_) (fun σ58 ho H locs hJ ls hl => ?_) _ _ hJ ls (lv_sub hl [1, 2, 0] rfl)
    · rw [ho] at hf
      have hf : (some (y56, σ57)) = some (r, σ') := hf
      refine lv_iload hx hb dX7_arrange_125 (lv_at hl 0 rfl) ?_
      exact my_iret hx hb hr hlocks hJ hf dX7_arrange_127
    · rw [ho] at hf
      have hf : (some ((-1 : Int32), σ58)) = some (r, σ') := hf
      refine lv_iconst (v := (-1)) hx hb dX7_arrange_134 (by decide) ?_
      exact my_iret hx hb hr hlocks hJ hf dX7_arrange_135
  unfold f_X7_arrange at hf
  refine lv_lconst (v := 0) hx hb dX7_arrange_0 (by decide) ?_
  refine lv_lstore_n (lv' := [(1, .long (0 : Int64)), (0, .ref a0)]) hx hb dX7_arrange_1 rfl hl (by decide) rfl (fun ls hl => ?_)
  refine lv_iconst (v := 0) hx hb dX7_arrange_2 (by decide) ?_
  refine lv_istore_n (lv' := [(3, .int (0 : Int32)), (1, .long (0 : Int64)), (0, .ref a0)]) hx hb dX7_arrange_3 rfl hl (by decide) rfl (fun ls hl => ?_)
  refine lv_iconst (v := 0) hx hb dX7_arrange_4 (by decide) ?_
  refine lv_istore (lv' := [(4, .int (0 : Int32)), (3, .int (0 : Int32)), (1, .long (0 : Int64)), (0, .ref a0)]) hx hb dX7_arrange_5 hl (by decide) rfl (fun ls hl => ?_)
  obtain ⟨o44, e45, hf⟩ := mb0 hf
  refine L7 a0 (mpN P) (0 : Int64) (0 : Int32) (0 : Int32) σ o44 e45 (fun y46 σ47 ho H locs hJ ls hl => ?_) _ _ hJ ls (lv_sub hl [3, 2, 1, 0] rfl)
  · rw [ho] at hf
    have hf : (f_X7_arrange_D102 P a0 y46 σ47) = some (r, σ') := hf
    exact D102 a0 y46 σ47 hf _ _ hJ ls (lv_sub hl [0, 1] rfl)
set_option maxHeartbeats 4000000 in
set_option maxRecDepth 100000 in
theorem c_X7_placeOfTeller (l : Launch) (G : mx_G) (P : mx_P) (a0 : Nat) (p1 : Int32) (σ : mx_S) (r : Int32) (σ' : mx_S) (hf : f_X7_placeOfTeller P a0 p1 σ = some (r, σ')) : mxz σ ≤ mpc P → mxu σ ≤ mps P → mx_M l yX7_placeOfTeller cX7_placeOfTeller 3 (some .int) 6 132 G P [.ref a0, .int p1] σ (some (.int r)) σ' := by
  intro hcap hcau
  refine mx_ofW (by decide +kernel) hcap hcau (Nat.le_of_ble_eq_true rfl) ?_
  intro p e s m below meth c hx hb hr hml hts hown hlocks hname hK hJ ls hl
  have hz0 := hJ.2.1
  have hown : s.vm.findClass RX7 = some m.cls := hown
  have hl : lv_has ls 3 [(0, .ref a0), (1, .int p1)] := hl
  have B6 : ∀ (v0 : Nat) (v1 : Int32) (v2 : Int32) (τ : mx_S) (o : (Int32 × mx_S) ⊕ ((mx_S))), f_X7_placeOfTeller_B6 P v0 v1 v2 τ = some o → (∀ (y2 : Int32) (υ : mx_S), o = .inl (y2, υ) → ∀ (H : Heap) (locs : List Loc), mx_J G P s.heap (mxz σ) (mxu σ) υ H locs → ∀ ls : Array Slot, lv_has ls 3 [(0, .ref v0), (1, .int v1), (2, .int y2)] → W p l e (mx_rm P 6 132 σ) s m ([.ref a0, .int p1] : List Value).toArray below meth c H locs (mxz υ - mxz σ) (mxu υ - mxu σ) (mx_Z below G P (some (.int r)) σ σ' [.ref a0, .int p1] s) (F0 m 6 ls [])) → (∀  (υ : mx_S), o = .inr υ → ∀ (H : Heap) (locs : List Loc), mx_J G P s.heap (mxz σ) (mxu σ) υ H locs → ∀ ls : Array Slot, lv_has ls 3 [(0, .ref v0)] → W p l e (mx_rm P 6 132 σ) s m ([.ref a0, .int p1] : List Value).toArray below meth c H locs (mxz υ - mxz σ) (mxu υ - mxu σ) (mx_Z below G P (some (.int r)) σ σ' [.ref a0, .int p1] s) (F0 m 24 ls [])) → ∀ (H : Heap) (locs : List Loc), mx_J G P s.heap (mxz σ) (mxu σ) τ H locs → ∀ ls : Array Slot, lv_has ls 3 [(0, .ref v0), (1, .int v1), (2, .int v2)] → W p l e (mx_rm P 6 132 σ) s m ([.ref a0, .int p1] : List Value).toArray below meth c H locs (mxz τ - mxz σ) (mxu τ - mxu σ) (mx_Z below G P (some (.int r)) σ σ' [.ref a0, .int p1] s) (F0 m 6 ls []) := by
    intro v0 v1 v2 τ o hf Kb Ke0 H locs hJ ls hl
    unfold f_X7_placeOfTeller_B6 at hf
    refine lv_iload_n hx hb dX7_placeOfTeller_6 rfl (lv_at hl 2 rfl) ?_
    refine lv_iload_n hx hb dX7_placeOfTeller_7 rfl (lv_at hl 1 rfl) ?_
    refine lv_icmp_gt (tgt := 24) hx hb dX7_placeOfTeller_8 (by decide) (fun c5 => ?_) (fun c5 => ?_)
    · rw [if_pos c5] at hf
      exact Ke0 τ (Option.some.inj hf).symm _ _ hJ ls (lv_sub hl [0] rfl)
    · rw [if_neg c5] at hf
      refine lv_aload_n hx hb dX7_placeOfTeller_11 rfl (lv_at hl 0 rfl) ?_
      refine va_ldcS hx hb hown (show vk_R RX7 95 "fix Cxx;crank CPrink;dyad CPPrrS;slide CPrPPS;body CPPxx;cross CPPPP;" (mgK G 0) s from mxe_str hK 0 (by decide)) dX7_placeOfTeller_12 ?_
      obtain ⟨i6, e7, hf⟩ := mb0 hf
      obtain ⟨x9, σ8, e10, hf⟩ := mc0 hf
      refine mx_callV (As := [.ref (mgK G 0)]) (rest := []) hx hb hml hts hown hK hJ rfl rfl (ci := 10) rfl e7 (c_X10_hasStatement l G P v0 0 τ x9 σ8 e10) me_X10_hasStatement kw_1060 kw_1061 kw_1150 (Nat.le_of_ble_eq_true rfl) (Nat.le_of_ble_eq_true rfl) rfl hl.1 rfl (Nat.le_of_ble_eq_true rfl) dX7_placeOfTeller_14 (fun H locs hJ => ?_)
      refine lv_pop hx hb dX7_placeOfTeller_17 rfl ?_
      obtain ⟨x11, e12, hf⟩ := mb0 hf
      refine lv_iinc (v := x11) (lv' := [(2, .int x11), (0, .ref v0), (1, .int v1)]) hx hb dX7_placeOfTeller_18 hl (k := 2) rfl (by rw [← Option.some.inj e12]; rfl) (by decide) rfl (fun ls hl => ?_)
      refine lv_goto (tgt := 6) hx hb dX7_placeOfTeller_21 (by decide) ?_
      exact Kb x11 σ8 (Option.some.inj hf).symm _ _ hJ ls (lv_sub hl [1, 2, 0] rfl)
  have L6 : ∀ (v0 : Nat) (v1 : Int32) (n : Nat) (v2 : Int32) (τ : mx_S) (o : (mx_S)), mx_lp (f_X7_placeOfTeller_L6 P v0 v1) n (v2, τ) = some o → (∀  (υ : mx_S), o = υ → ∀ (H : Heap) (locs : List Loc), mx_J G P s.heap (mxz σ) (mxu σ) υ H locs → ∀ ls : Array Slot, lv_has ls 3 [(0, .ref v0)] → W p l e (mx_rm P 6 132 σ) s m ([.ref a0, .int p1] : List Value).toArray below meth c H locs (mxz υ - mxz σ) (mxu υ - mxu σ) (mx_Z below G P (some (.int r)) σ σ' [.ref a0, .int p1] s) (F0 m 24 ls [])) → ∀ (H : Heap) (locs : List Loc), mx_J G P s.heap (mxz σ) (mxu σ) τ H locs → ∀ ls : Array Slot, lv_has ls 3 [(0, .ref v0), (1, .int v1), (2, .int v2)] → W p l e (mx_rm P 6 132 σ) s m ([.ref a0, .int p1] : List Value).toArray below meth c H locs (mxz τ - mxz σ) (mxu τ - mxu σ) (mx_Z below G P (some (.int r)) σ σ' [.ref a0, .int p1] s) (F0 m 6 ls []) := by
    intro v0 v1 n
    induction n with
    | zero =>
      intro v2 τ o hf
      rw [mx_lp0] at hf
      cases hf
    | succ n ih =>
      intro v2 τ o hf Ke0 H locs hJ ls hl
      rw [mx_lpS] at hf
      obtain ⟨b, eb, hf⟩ := mb0 hf
      refine B6 v0 v1 v2 τ b eb (fun y2 υ ho H locs hJ ls hl => ?_) (fun  υ ho H locs hJ ls hl => ?_) H locs hJ ls hl
      · subst ho
        exact ih y2 υ o hf Ke0 H locs hJ ls hl
      · subst ho
        exact Ke0  υ (Option.some.inj hf).symm _ _ hJ ls hl
  unfold f_X7_placeOfTeller at hf
  refine lv_aload_n hx hb dX7_placeOfTeller_0 rfl (lv_at hl 0 rfl) ?_
  obtain ⟨i1, e2, hf⟩ := mb0 hf
  obtain ⟨σ3, e4, hf⟩ := mb0 hf
  refine mx_callV (As := []) (rest := []) hx hb hml hts hown hK hJ rfl rfl (ci := 10) rfl e2 (c_X10_rewind l G P a0 σ σ3 e4) me_X10_rewind kw_1056 kw_1057 kw_1207 (Nat.le_of_ble_eq_true rfl) (Nat.le_of_ble_eq_true rfl) rfl hl.1 rfl (Nat.le_of_ble_eq_true rfl) dX7_placeOfTeller_1 (fun H locs hJ => ?_)
  refine lv_iconst (v := 0) hx hb dX7_placeOfTeller_4 (by decide) ?_
  refine lv_istore_n (lv' := [(2, .int (0 : Int32)), (0, .ref a0), (1, .int p1)]) hx hb dX7_placeOfTeller_5 rfl hl (by decide) rfl (fun ls hl => ?_)
  obtain ⟨o13, e14, hf⟩ := mb0 hf
  refine L6 a0 p1 (mpN P) (0 : Int32) σ3 o13 e14 (fun σ15 ho H locs hJ ls hl => ?_) _ _ hJ ls (lv_sub hl [1, 2, 0] rfl)
  · rw [ho] at hf
    have hf : ((mg_R σ15 a0 10 14).bind fun b16 => (ma_I σ15 b16 0 (0 : Int32)).bind fun x18 => some (x18, σ15)) = some (r, σ') := hf
    refine lv_aload_n hx hb dX7_placeOfTeller_24 rfl (lv_at hl 0 rfl) ?_
    obtain ⟨b16, e17, hf⟩ := mb0 hf
    refine my_gR hx hb hts hown hK hJ fd_RX7_135 hv_10_14 e17 dX7_placeOfTeller_25 ?_
    refine lv_iconst (v := 0) hx hb dX7_placeOfTeller_28 (by decide) ?_
    obtain ⟨x18, e19, hf⟩ := mb0 hf
    refine mx_aI hx hb hK hJ e19 dX7_placeOfTeller_29 ?_
    exact my_iret hx hb hr hlocks hJ hf dX7_placeOfTeller_30
set_option maxHeartbeats 4000000 in
set_option maxRecDepth 100000 in
theorem c_X7_isRead (l : Launch) (G : mx_G) (P : mx_P) (a0 : Nat) (a1 : Nat) (σ : mx_S) (r : Int32) (σ' : mx_S) (hf : f_X7_isRead P a0 a1 σ = some (r, σ')) : mxz σ ≤ mpc P → mxu σ ≤ mps P → mx_M l yX7_isRead cX7_isRead 4 (some .boolean) 7 154 G P [.ref a0, .ref a1] σ (some (.int r)) σ' := by
  intro hcap hcau
  refine mx_ofW (by decide +kernel) hcap hcau (Nat.le_of_ble_eq_true rfl) ?_
  intro p e s m below meth c hx hb hr hml hts hown hlocks hname hK hJ ls hl
  have hz0 := hJ.2.1
  have hown : s.vm.findClass RX7 = some m.cls := hown
  have hl : lv_has ls 4 [(0, .ref a0), (1, .ref a1)] := hl
  have B22 : ∀ (v0 : Nat) (v1 : Nat) (v2 : Int32) (τ : mx_S) (o : (Int32 × mx_S) ⊕ ((mx_S))), f_X7_isRead_B22 P v0 v1 v2 τ = some o → (∀ (y2 : Int32) (υ : mx_S), o = .inl (y2, υ) → ∀ (H : Heap) (locs : List Loc), mx_J G P s.heap (mxz σ) (mxu σ) υ H locs → ∀ ls : Array Slot, lv_has ls 4 [(0, .ref v0), (1, .ref v1), (2, .int y2)] → W p l e (mx_rm P 7 154 σ) s m ([.ref a0, .ref a1] : List Value).toArray below meth c H locs (mxz υ - mxz σ) (mxu υ - mxu σ) (mx_Z below G P (some (.int r)) σ σ' [.ref a0, .ref a1] s) (F0 m 22 ls [])) → (∀  (υ : mx_S), o = .inr υ → ∀ (H : Heap) (locs : List Loc), mx_J G P s.heap (mxz σ) (mxu σ) υ H locs → ∀ ls : Array Slot, lv_has ls 4 [(0, .ref v0), (1, .ref v1)] → W p l e (mx_rm P 7 154 σ) s m ([.ref a0, .ref a1] : List Value).toArray below meth c H locs (mxz υ - mxz σ) (mxu υ - mxu σ) (mx_Z below G P (some (.int r)) σ σ' [.ref a0, .ref a1] s) (F0 m 39 ls [])) → ∀ (H : Heap) (locs : List Loc), mx_J G P s.heap (mxz σ) (mxu σ) τ H locs → ∀ ls : Array Slot, lv_has ls 4 [(0, .ref v0), (1, .ref v1), (2, .int v2)] → W p l e (mx_rm P 7 154 σ) s m ([.ref a0, .ref a1] : List Value).toArray below meth c H locs (mxz τ - mxz σ) (mxu τ - mxu σ) (mx_Z below G P (some (.int r)) σ σ' [.ref a0, .ref a1] s) (F0 m 22 ls []) := by
    intro v0 v1 v2 τ o hf Kb Ke0 H locs hJ ls hl
    unfold f_X7_isRead_B22 at hf
    refine lv_iload_n hx hb dX7_isRead_22 rfl (lv_at hl 2 rfl) ?_
    refine lv_iconst (v := 4) hx hb dX7_isRead_23 (by decide) ?_
    refine lv_icmp_ge (tgt := 39) hx hb dX7_isRead_24 (by decide) (fun c9 => ?_) (fun c9 => ?_)
    · rw [if_pos c9] at hf
      exact Ke0 τ (Option.some.inj hf).symm _ _ hJ ls (lv_sub hl [0, 1] rfl)
    · rw [if_neg c9] at hf
      refine lv_aload_n hx hb dX7_isRead_27 rfl (lv_at hl 0 rfl) ?_
      refine lv_iload_n hx hb dX7_isRead_28 rfl (lv_at hl 2 rfl) ?_
      refine lv_iconst (v := 0) hx hb dX7_isRead_29 (by decide) ?_
      obtain ⟨i10, e11, hf⟩ := mb0 hf
      obtain ⟨σ12, e13, hf⟩ := mb0 hf
      refine mx_callV (As := [.int v2, .int (0 : Int32)]) (rest := []) hx hb hml hts hown hK hJ rfl rfl (ci := 7) rfl e11 (c_X7_moveTo l G P v0 v2 (0 : Int32) τ σ12 e13) me_X7_moveTo kw_1035 kw_1036 kw_1034 (Nat.le_of_ble_eq_true rfl) (Nat.le_of_ble_eq_true rfl) rfl hl.1 rfl (Nat.le_of_ble_eq_true rfl) dX7_isRead_30 (fun H locs hJ => ?_)
      obtain ⟨x14, e15, hf⟩ := mb0 hf
      refine lv_iinc (v := x14) (lv' := [(2, .int x14), (0, .ref v0), (1, .ref v1)]) hx hb dX7_isRead_33 hl (k := 2) rfl (by rw [← Option.some.inj e15]; rfl) (by decide) rfl (fun ls hl => ?_)
      refine lv_goto (tgt := 22) hx hb dX7_isRead_36 (by decide) ?_
      exact Kb x14 σ12 (Option.some.inj hf).symm _ _ hJ ls (lv_sub hl [1, 2, 0] rfl)
  have L22 : ∀ (v0 : Nat) (v1 : Nat) (n : Nat) (v2 : Int32) (τ : mx_S) (o : (mx_S)), mx_lp (f_X7_isRead_L22 P v0 v1) n (v2, τ) = some o → (∀  (υ : mx_S), o = υ → ∀ (H : Heap) (locs : List Loc), mx_J G P s.heap (mxz σ) (mxu σ) υ H locs → ∀ ls : Array Slot, lv_has ls 4 [(0, .ref v0), (1, .ref v1)] → W p l e (mx_rm P 7 154 σ) s m ([.ref a0, .ref a1] : List Value).toArray below meth c H locs (mxz υ - mxz σ) (mxu υ - mxu σ) (mx_Z below G P (some (.int r)) σ σ' [.ref a0, .ref a1] s) (F0 m 39 ls [])) → ∀ (H : Heap) (locs : List Loc), mx_J G P s.heap (mxz σ) (mxu σ) τ H locs → ∀ ls : Array Slot, lv_has ls 4 [(0, .ref v0), (1, .ref v1), (2, .int v2)] → W p l e (mx_rm P 7 154 σ) s m ([.ref a0, .ref a1] : List Value).toArray below meth c H locs (mxz τ - mxz σ) (mxu τ - mxu σ) (mx_Z below G P (some (.int r)) σ σ' [.ref a0, .ref a1] s) (F0 m 22 ls []) := by
    intro v0 v1 n
    induction n with
    | zero =>
      intro v2 τ o hf
      rw [mx_lp0] at hf
      cases hf
    | succ n ih =>
      intro v2 τ o hf Ke0 H locs hJ ls hl
      rw [mx_lpS] at hf
      obtain ⟨b, eb, hf⟩ := mb0 hf
      refine B22 v0 v1 v2 τ b eb (fun y2 υ ho H locs hJ ls hl => ?_) (fun  υ ho H locs hJ ls hl => ?_) H locs hJ ls hl
      · subst ho
        exact ih y2 υ o hf Ke0 H locs hJ ls hl
      · subst ho
        exact Ke0  υ (Option.some.inj hf).symm _ _ hJ ls hl
  have D82_48 : ∀ (v0 : Nat) (v1 : Nat) (v3 : Int32) (w0 : Int32) (τ : mx_S) (o : (Int32 × Int32 × mx_S) ⊕ ((mx_S))), f_X7_isRead_D82_48 P v0 v1 v3 w0 τ = some o → (∀ (y2 : Int32) (y3 : Int32) (υ : mx_S), o = .inl (y2, y3, υ) → ∀ (H : Heap) (locs : List Loc), mx_J G P s.heap (mxz σ) (mxu σ) υ H locs → ∀ ls : Array Slot, lv_has ls 4 [(0, .ref v0), (1, .ref v1), (2, .int y2), (3, .int y3)] → W p l e (mx_rm P 7 154 σ) s m ([.ref a0, .ref a1] : List Value).toArray below meth c H locs (mxz υ - mxz σ) (mxu υ - mxu σ) (mx_Z below G P (some (.int r)) σ σ' [.ref a0, .ref a1] s) (F0 m 48 ls [])) → (∀  (υ : mx_S), o = .inr υ → ∀ (H : Heap) (locs : List Loc), mx_J G P s.heap (mxz σ) (mxu σ) υ H locs → ∀ ls : Array Slot, lv_has ls 4 [(0, .ref v0), (1, .ref v1)] → W p l e (mx_rm P 7 154 σ) s m ([.ref a0, .ref a1] : List Value).toArray below meth c H locs (mxz υ - mxz σ) (mxu υ - mxu σ) (mx_Z below G P (some (.int r)) σ σ' [.ref a0, .ref a1] s) (F0 m 89 ls [])) → ∀ (H : Heap) (locs : List Loc), mx_J G P s.heap (mxz σ) (mxu σ) τ H locs → ∀ ls : Array Slot, lv_has ls 4 [(0, .ref v0), (1, .ref v1), (3, .int v3)] → W p l e (mx_rm P 7 154 σ) s m ([.ref a0, .ref a1] : List Value).toArray below meth c H locs (mxz τ - mxz σ) (mxu τ - mxu σ) (mx_Z below G P (some (.int r)) σ σ' [.ref a0, .ref a1] s) (F0 m 82 ls [.int w0]) := by
    intro v0 v1 v3 w0 τ o hf Kb Ke0 H locs hJ ls hl
    unfold f_X7_isRead_D82_48 at hf
    refine lv_istore_n (lv' := [(2, .int w0), (0, .ref v0), (1, .ref v1), (3, .int v3)]) hx hb dX7_isRead_82 rfl hl (by decide) rfl (fun ls hl => ?_)
    obtain ⟨x32, e33, hf⟩ := mb0 hf
    refine lv_iinc (v := x32) (lv' := [(3, .int x32), (2, .int w0), (0, .ref v0), (1, .ref v1)]) hx hb dX7_isRead_83 hl (k := 3) rfl (by rw [← Option.some.inj e33]; rfl) (by decide) rfl (fun ls hl => ?_)
    refine lv_goto (tgt := 48) hx hb dX7_isRead_86 (by decide) ?_
    exact Kb w0 x32 τ (Option.some.inj hf).symm _ _ hJ ls (lv_sub hl [2, 3, 1, 0] rfl)
  have D81_48 : ∀ (v0 : Nat) (v1 : Nat) (v3 : Int32) (τ : mx_S) (o : (Int32 × Int32 × mx_S) ⊕ ((mx_S))), f_X7_isRead_D81_48 P v0 v1 v3 τ = some o → (∀ (y2 : Int32) (y3 : Int32) (υ : mx_S), o = .inl (y2, y3, υ) → ∀ (H : Heap) (locs : List Loc), mx_J G P s.heap (mxz σ) (mxu σ) υ H locs → ∀ ls : Array Slot, lv_has ls 4 [(0, .ref v0), (1, .ref v1), (2, .int y2), (3, .int y3)] → W p l e (mx_rm P 7 154 σ) s m ([.ref a0, .ref a1] : List Value).toArray below meth c H locs (mxz υ - mxz σ) (mxu υ - mxu σ) (mx_Z below G P (some (.int r)) σ σ' [.ref a0, .ref a1] s) (F0 m 48 ls [])) → (∀  (υ : mx_S), o = .inr υ → ∀ (H : Heap) (locs : List Loc), mx_J G P s.heap (mxz σ) (mxu σ) υ H locs → ∀ ls : Array Slot, lv_has ls 4 [(0, .ref v0), (1, .ref v1)] → W p l e (mx_rm P 7 154 σ) s m ([.ref a0, .ref a1] : List Value).toArray below meth c H locs (mxz υ - mxz σ) (mxu υ - mxu σ) (mx_Z below G P (some (.int r)) σ σ' [.ref a0, .ref a1] s) (F0 m 89 ls [])) → ∀ (H : Heap) (locs : List Loc), mx_J G P s.heap (mxz σ) (mxu σ) τ H locs → ∀ ls : Array Slot, lv_has ls 4 [(0, .ref v0), (1, .ref v1), (3, .int v3)] → W p l e (mx_rm P 7 154 σ) s m ([.ref a0, .ref a1] : List Value).toArray below meth c H locs (mxz τ - mxz σ) (mxu τ - mxu σ) (mx_Z below G P (some (.int r)) σ σ' [.ref a0, .ref a1] s) (F0 m 81 ls []) := by
    intro v0 v1 v3 τ o hf Kb Ke0 H locs hJ ls hl
    unfold f_X7_isRead_D81_48 at hf
    refine lv_iconst (v := 0) hx hb dX7_isRead_81 (by decide) ?_
    exact D82_48 v0 v1 v3 (0 : Int32) τ o hf Kb Ke0 _ _ hJ ls (lv_sub hl [0, 1, 2] rfl)
  have B48 : ∀ (v0 : Nat) (v1 : Nat) (v2 : Int32) (v3 : Int32) (τ : mx_S) (o : (Int32 × Int32 × mx_S) ⊕ ((mx_S))), f_X7_isRead_B48 P v0 v1 v2 v3 τ = some o → (∀ (y2 : Int32) (y3 : Int32) (υ : mx_S), o = .inl (y2, y3, υ) → ∀ (H : Heap) (locs : List Loc), mx_J G P s.heap (mxz σ) (mxu σ) υ H locs → ∀ ls : Array Slot, lv_has ls 4 [(0, .ref v0), (1, .ref v1), (2, .int y2), (3, .int y3)] → W p l e (mx_rm P 7 154 σ) s m ([.ref a0, .ref a1] : List Value).toArray below meth c H locs (mxz υ - mxz σ) (mxu υ - mxu σ) (mx_Z below G P (some (.int r)) σ σ' [.ref a0, .ref a1] s) (F0 m 48 ls [])) → (∀  (υ : mx_S), o = .inr υ → ∀ (H : Heap) (locs : List Loc), mx_J G P s.heap (mxz σ) (mxu σ) υ H locs → ∀ ls : Array Slot, lv_has ls 4 [(0, .ref v0), (1, .ref v1)] → W p l e (mx_rm P 7 154 σ) s m ([.ref a0, .ref a1] : List Value).toArray below meth c H locs (mxz υ - mxz σ) (mxu υ - mxu σ) (mx_Z below G P (some (.int r)) σ σ' [.ref a0, .ref a1] s) (F0 m 89 ls [])) → ∀ (H : Heap) (locs : List Loc), mx_J G P s.heap (mxz σ) (mxu σ) τ H locs → ∀ ls : Array Slot, lv_has ls 4 [(0, .ref v0), (1, .ref v1), (2, .int v2), (3, .int v3)] → W p l e (mx_rm P 7 154 σ) s m ([.ref a0, .ref a1] : List Value).toArray below meth c H locs (mxz τ - mxz σ) (mxu τ - mxu σ) (mx_Z below G P (some (.int r)) σ σ' [.ref a0, .ref a1] s) (F0 m 48 ls []) := by
    intro v0 v1 v2 v3 τ o hf Kb Ke0 H locs hJ ls hl
    unfold f_X7_isRead_B48 at hf
    refine lv_iload_n hx hb dX7_isRead_48 rfl (lv_at hl 3 rfl) ?_
    refine lv_sipush (v := 4000) hx hb dX7_isRead_49 (by decide) ?_
    refine lv_icmp_ge (tgt := 89) hx hb dX7_isRead_52 (by decide) (fun c24 => ?_) (fun c24 => ?_)
    · rw [if_pos c24] at hf
      exact Ke0 τ (Option.some.inj hf).symm _ _ hJ ls (lv_sub hl [0, 1] rfl)
    · rw [if_neg c24] at hf
      refine lv_iload_n hx hb dX7_isRead_55 rfl (lv_at hl 2 rfl) ?_
      refine lv_if_eq (tgt := 89) hx hb dX7_isRead_56 (by decide) (fun c25 => ?_) (fun c25 => ?_)
      · rw [if_pos c25] at hf
        exact Ke0 τ (Option.some.inj hf).symm _ _ hJ ls (lv_sub hl [0, 1] rfl)
      · rw [if_neg c25] at hf
        refine lv_aload_n hx hb dX7_isRead_59 rfl (lv_at hl 1 rfl) ?_
        refine va_ldcS hx hb hown (show vk_R RX7 95 "fix Cxx;crank CPrink;dyad CPPrrS;slide CPrPPS;body CPPxx;cross CPPPP;" (mgK G 0) s from mxe_str hK 0 (by decide)) dX7_isRead_60 ?_
        obtain ⟨i26, e27, hf⟩ := mb0 hf
        obtain ⟨x29, σ28, e30, hf⟩ := mc0 hf
        refine mx_callV (As := [.ref (mgK G 0)]) (rest := []) hx hb hml hts hown hK hJ rfl rfl (ci := 10) rfl e27 (c_X10_hasStatement l G P v1 0 τ x29 σ28 e30) me_X10_hasStatement kw_1060 kw_1061 kw_1150 (Nat.le_of_ble_eq_true rfl) (Nat.le_of_ble_eq_true rfl) rfl hl.1 rfl (Nat.le_of_ble_eq_true rfl) dX7_isRead_62 (fun H locs hJ => ?_)
        refine lv_if_eq (tgt := 81) hx hb dX7_isRead_65 (by decide) (fun c31 => ?_) (fun c31 => ?_)
        · rw [if_pos c31] at hf
          exact D81_48 v0 v1 v3 σ28 o hf Kb Ke0 _ _ hJ ls (lv_sub hl [0, 1, 3] rfl)
        · rw [if_neg c31] at hf
          refine lv_aload_n hx hb dX7_isRead_68 rfl (lv_at hl 0 rfl) ?_
          refine lv_aload_n hx hb dX7_isRead_69 rfl (lv_at hl 1 rfl) ?_
          refine lv_iload_n hx hb dX7_isRead_70 rfl (lv_at hl 3 rfl) ?_
          obtain ⟨i34, e35, hf⟩ := mb0 hf
          obtain ⟨x37, σ36, e38, hf⟩ := mc0 hf
          refine mx_callV (As := [.ref v1, .int v3]) (rest := []) hx hb hml hts hown hK hJ rfl rfl (ci := 7) rfl e35 (c_X7_isTaken l G P v0 v1 v3 σ28 x37 σ36 e38) me_X7_isTaken kw_1153 ks_32 kw_1151 (Nat.le_of_ble_eq_true rfl) (Nat.le_of_ble_eq_true rfl) rfl hl.1 rfl (Nat.le_of_ble_eq_true rfl) dX7_isRead_71 (fun H locs hJ => ?_)
          refine lv_if_eq (tgt := 81) hx hb dX7_isRead_74 (by decide) (fun c39 => ?_) (fun c39 => ?_)
          · rw [if_pos c39] at hf
            exact D81_48 v0 v1 v3 σ36 o hf Kb Ke0 _ _ hJ ls (lv_sub hl [0, 1, 3] rfl)
          · rw [if_neg c39] at hf
            refine lv_iconst (v := 1) hx hb dX7_isRead_77 (by decide) ?_
            refine lv_goto (tgt := 82) hx hb dX7_isRead_78 (by decide) ?_
            exact D82_48 v0 v1 v3 (1 : Int32) σ36 o hf Kb Ke0 _ _ hJ ls (lv_sub hl [0, 1, 3] rfl)
  have L48 : ∀ (v0 : Nat) (v1 : Nat) (n : Nat) (v2 : Int32) (v3 : Int32) (τ : mx_S) (o : (mx_S)), mx_lp (f_X7_isRead_L48 P v0 v1) n (v2, v3, τ) = some o → (∀  (υ : mx_S), o = υ → ∀ (H : Heap) (locs : List Loc), mx_J G P s.heap (mxz σ) (mxu σ) υ H locs → ∀ ls : Array Slot, lv_has ls 4 [(0, .ref v0), (1, .ref v1)] → W p l e (mx_rm P 7 154 σ) s m ([.ref a0, .ref a1] : List Value).toArray below meth c H locs (mxz υ - mxz σ) (mxu υ - mxu σ) (mx_Z below G P (some (.int r)) σ σ' [.ref a0, .ref a1] s) (F0 m 89 ls [])) → ∀ (H : Heap) (locs : List Loc), mx_J G P s.heap (mxz σ) (mxu σ) τ H locs → ∀ ls : Array Slot, lv_has ls 4 [(0, .ref v0), (1, .ref v1), (2, .int v2), (3, .int v3)] → W p l e (mx_rm P 7 154 σ) s m ([.ref a0, .ref a1] : List Value).toArray below meth c H locs (mxz τ - mxz σ) (mxu τ - mxu σ) (mx_Z below G P (some (.int r)) σ σ' [.ref a0, .ref a1] s) (F0 m 48 ls []) := by
    intro v0 v1 n
    induction n with
    | zero =>
      intro v2 v3 τ o hf
      rw [mx_lp0] at hf
      cases hf
    | succ n ih =>
      intro v2 v3 τ o hf Ke0 H locs hJ ls hl
      rw [mx_lpS] at hf
      obtain ⟨b, eb, hf⟩ := mb0 hf
      refine B48 v0 v1 v2 v3 τ b eb (fun y2 y3 υ ho H locs hJ ls hl => ?_) (fun  υ ho H locs hJ ls hl => ?_) H locs hJ ls hl
      · subst ho
        exact ih y2 y3 υ o hf Ke0 H locs hJ ls hl
      · subst ho
        exact Ke0  υ (Option.some.inj hf).symm _ _ hJ ls hl
  have D127 : ∀ (w0 : Int32) (τ : mx_S), f_X7_isRead_D127 P w0 τ = some (r, σ') → ∀ (H : Heap) (locs : List Loc), mx_J G P s.heap (mxz σ) (mxu σ) τ H locs → ∀ ls : Array Slot, lv_has ls 4 [] → W p l e (mx_rm P 7 154 σ) s m ([.ref a0, .ref a1] : List Value).toArray below meth c H locs (mxz τ - mxz σ) (mxu τ - mxu σ) (mx_Z below G P (some (.int r)) σ σ' [.ref a0, .ref a1] s) (F0 m 127 ls [.int w0]) := by
    intro w0 τ hf _ _ hJ ls hl
    unfold f_X7_isRead_D127 at hf
    exact mx_zret hx hb hr hlocks hJ hf dX7_isRead_127
  have D115 : ∀ (v1 : Nat) (τ : mx_S), f_X7_isRead_D115 P v1 τ = some (r, σ') → ∀ (H : Heap) (locs : List Loc), mx_J G P s.heap (mxz σ) (mxu σ) τ H locs → ∀ ls : Array Slot, lv_has ls 4 [(1, .ref v1)] → W p l e (mx_rm P 7 154 σ) s m ([.ref a0, .ref a1] : List Value).toArray below meth c H locs (mxz τ - mxz σ) (mxu τ - mxu σ) (mx_Z below G P (some (.int r)) σ σ' [.ref a0, .ref a1] s) (F0 m 115 ls []) := by
    intro v1 τ hf _ _ hJ ls hl
    unfold f_X7_isRead_D115 at hf
    refine lv_aload_n hx hb dX7_isRead_115 rfl (lv_at hl 0 rfl) ?_
    obtain ⟨x46, e47, hf⟩ := mb0 hf
    refine my_gI hx hb hts hown hK hJ fd_RX7_110 hv_10_2 e47 dX7_isRead_116 ?_
    refine lv_if_ne (tgt := 126) hx hb dX7_isRead_119 (by decide) (fun c48 => ?_) (fun c48 => ?_)
    · rw [if_neg c48] at hf
      refine lv_iconst (v := 0) hx hb dX7_isRead_126 (by decide) ?_
      exact D127 (0 : Int32) τ hf _ _ hJ ls (lv_sub hl [] rfl)
    · rw [if_pos c48] at hf
      refine lv_iconst (v := 1) hx hb dX7_isRead_122 (by decide) ?_
      refine lv_goto (tgt := 127) hx hb dX7_isRead_123 (by decide) ?_
      exact D127 (1 : Int32) τ hf _ _ hJ ls (lv_sub hl [] rfl)
  have D89 : ∀ (v0 : Nat) (v1 : Nat) (τ : mx_S), f_X7_isRead_D89 P v0 v1 τ = some (r, σ') → ∀ (H : Heap) (locs : List Loc), mx_J G P s.heap (mxz σ) (mxu σ) τ H locs → ∀ ls : Array Slot, lv_has ls 4 [(0, .ref v0), (1, .ref v1)] → W p l e (mx_rm P 7 154 σ) s m ([.ref a0, .ref a1] : List Value).toArray below meth c H locs (mxz τ - mxz σ) (mxu τ - mxu σ) (mx_Z below G P (some (.int r)) σ σ' [.ref a0, .ref a1] s) (F0 m 89 ls []) := by
    intro v0 v1 τ hf _ _ hJ ls hl
    unfold f_X7_isRead_D89 at hf
    refine lv_aload_n hx hb dX7_isRead_89 rfl (lv_at hl 1 rfl) ?_
    obtain ⟨x43, e44, hf⟩ := mb0 hf
    refine my_gI hx hb hts hown hK hJ fd_RX7_110 hv_10_2 e44 dX7_isRead_90 ?_
    refine lv_if_ne (tgt := 115) hx hb dX7_isRead_93 (by decide) (fun c45 => ?_) (fun c45 => ?_)
    · rw [if_neg c45] at hf
      exact D115 v1 τ hf _ _ hJ ls (lv_sub hl [1] rfl)
    · rw [if_pos c45] at hf
      refine lv_aload_n hx hb dX7_isRead_96 rfl (lv_at hl 0 rfl) ?_
      obtain ⟨i49, e50, hf⟩ := mb0 hf
      obtain ⟨x52, σ51, e53, hf⟩ := mc0 hf
      refine mx_callV (As := []) (rest := []) hx hb hml hts hown hK hJ rfl rfl (ci := 7) rfl e50 (c_X7_arrange l G P v0 τ x52 σ51 e53) me_X7_arrange kw_1195 ks_37 kw_1193 (Nat.le_of_ble_eq_true rfl) (Nat.le_of_ble_eq_true rfl) rfl hl.1 rfl (Nat.le_of_ble_eq_true rfl) dX7_isRead_97 (fun H locs hJ => ?_)
      refine lv_istore_n (lv' := [(3, .int x52), (0, .ref v0), (1, .ref v1)]) hx hb dX7_isRead_100 rfl hl (by decide) rfl (fun ls hl => ?_)
      refine lv_iload_n hx hb dX7_isRead_101 rfl (lv_at hl 0 rfl) ?_
      refine lv_if_lt (tgt := 115) hx hb dX7_isRead_102 (by decide) (fun c54 => ?_) (fun c54 => ?_)
      · rw [if_pos c54] at hf
        exact D115 v1 σ51 hf _ _ hJ ls (lv_sub hl [2] rfl)
      · rw [if_neg c54] at hf
        refine lv_aload_n hx hb dX7_isRead_105 rfl (lv_at hl 2 rfl) ?_
        refine lv_iconst (v := 4) hx hb dX7_isRead_106 (by decide) ?_
        refine lv_aload_n hx hb dX7_isRead_107 rfl (lv_at hl 2 rfl) ?_
        refine lv_iload_n hx hb dX7_isRead_108 rfl (lv_at hl 0 rfl) ?_
        obtain ⟨x56, σ55, e57, hf⟩ := mc0 hf
        refine mx_callS (As := [.ref v1, .int x52]) (rest := [.int (4 : Int32), .ref v1]) hx hb hml hts hown hK hJ rfl rfl (c_X7_placeOfTeller l G P v1 x52 σ51 x56 σ55 e57) me_X7_placeOfTeller kw_1205 kw_1204 (Nat.le_of_ble_eq_true rfl) (Nat.le_of_ble_eq_true rfl) rfl hl.1 rfl (Nat.le_of_ble_eq_true rfl) dX7_isRead_109 (fun H locs hJ => ?_)
        obtain ⟨i58, e59, hf⟩ := mb0 hf
        obtain ⟨σ60, e61, hf⟩ := mb0 hf
        refine mx_callV (As := [.int (4 : Int32), .int x56]) (rest := []) hx hb hml hts hown hK hJ rfl rfl (ci := 10) rfl e59 (c_X10_note l G P v1 (4 : Int32) x56 σ55 σ60 e61) me_X10_note kw_1139 kw_1140 kw_1163 (Nat.le_of_ble_eq_true rfl) (Nat.le_of_ble_eq_true rfl) rfl hl.1 rfl (Nat.le_of_ble_eq_true rfl) dX7_isRead_112 (fun H locs hJ => ?_)
        exact D115 v1 σ60 hf _ _ hJ ls (lv_sub hl [2] rfl)
  unfold f_X7_isRead at hf
  refine lv_aload_n hx hb dX7_isRead_0 rfl (lv_at hl 0 rfl) ?_
  refine lv_iconst (v := 0) hx hb dX7_isRead_1 (by decide) ?_
  obtain ⟨σ1, e2, hf⟩ := mb0 hf
  refine my_pI hx hb hts hown hK hJ fd_RX7_77 cd_7 (Or.inl rfl) ht_7_2 e2 dX7_isRead_2 (fun H locs hJ => ?_)
  refine lv_aload_n hx hb dX7_isRead_5 rfl (lv_at hl 0 rfl) ?_
  refine lv_iconst (v := 0) hx hb dX7_isRead_6 (by decide) ?_
  obtain ⟨σ3, e4, hf⟩ := mb0 hf
  refine my_pI hx hb hts hown hK hJ fd_RX7_81 cd_7 (Or.inl rfl) ht_7_3 e4 dX7_isRead_7 (fun H locs hJ => ?_)
  refine lv_aload_n hx hb dX7_isRead_10 rfl (lv_at hl 0 rfl) ?_
  refine lv_iconst (v := 0) hx hb dX7_isRead_11 (by decide) ?_
  obtain ⟨σ5, e6, hf⟩ := mb0 hf
  refine my_pI hx hb hts hown hK hJ fd_RX7_84 cd_7 (Or.inl rfl) ht_7_6 e6 dX7_isRead_12 (fun H locs hJ => ?_)
  refine lv_aload_n hx hb dX7_isRead_15 rfl (lv_at hl 0 rfl) ?_
  refine lv_iconst (v := 0) hx hb dX7_isRead_16 (by decide) ?_
  obtain ⟨σ7, e8, hf⟩ := mb0 hf
  refine my_pZ hx hb hts hown hK hJ fd_RX7_87 cd_7 (Or.inl rfl) ht_7_10 e8 dX7_isRead_17 (fun H locs hJ => ?_)
  refine lv_iconst (v := 0) hx hb dX7_isRead_20 (by decide) ?_
  refine lv_istore_n (lv' := [(2, .int (0 : Int32)), (0, .ref a0), (1, .ref a1)]) hx hb dX7_isRead_21 rfl hl (by decide) rfl (fun ls hl => ?_)
  obtain ⟨o16, e17, hf⟩ := mb0 hf
  refine L22 a0 a1 (mpN P) (0 : Int32) σ7 o16 e17 (fun σ18 ho H locs hJ ls hl => ?_) _ _ hJ ls (lv_sub hl [1, 2, 0] rfl)
  · rw [ho] at hf
    have hf : ((mx_is σ18 a1 10).bind fun i19 => mx_b2 (f_X10_isGrammatical P a1 0 σ18) fun x22 σ21 => (mx_lp (f_X7_isRead_L48 P a0 a1) (mpN P) (x22, (0 : Int32), σ21)).bind (fun t => (fun σ42 => f_X7_isRead_D89 P a0 a1 σ42) t)) = some (r, σ') := hf
    refine lv_aload_n hx hb dX7_isRead_39 rfl (lv_at hl 1 rfl) ?_
    refine va_ldcS hx hb hown (show vk_R RX7 95 "fix Cxx;crank CPrink;dyad CPPrrS;slide CPrPPS;body CPPxx;cross CPPPP;" (mgK G 0) s from mxe_str hK 0 (by decide)) dX7_isRead_40 ?_
    obtain ⟨i19, e20, hf⟩ := mb0 hf
    obtain ⟨x22, σ21, e23, hf⟩ := mc0 hf
    refine mx_callV (As := [.ref (mgK G 0)]) (rest := []) hx hb hml hts hown hK hJ rfl rfl (ci := 10) rfl e20 (c_X10_isGrammatical l G P a1 0 σ18 x22 σ21 e23) me_X10_isGrammatical kw_1052 kw_1053 kw_1051 (Nat.le_of_ble_eq_true rfl) (Nat.le_of_ble_eq_true rfl) rfl hl.1 rfl (Nat.le_of_ble_eq_true rfl) dX7_isRead_42 (fun H locs hJ => ?_)
    refine lv_istore_n (lv' := [(2, .int x22), (0, .ref a0), (1, .ref a1)]) hx hb dX7_isRead_45 rfl hl (by decide) rfl (fun ls hl => ?_)
    refine lv_iconst (v := 0) hx hb dX7_isRead_46 (by decide) ?_
    refine lv_istore_n (lv' := [(3, .int (0 : Int32)), (2, .int x22), (0, .ref a0), (1, .ref a1)]) hx hb dX7_isRead_47 rfl hl (by decide) rfl (fun ls hl => ?_)
    obtain ⟨o40, e41, hf⟩ := mb0 hf
    refine L48 a0 a1 (mpN P) x22 (0 : Int32) σ21 o40 e41 (fun σ42 ho H locs hJ ls hl => ?_) _ _ hJ ls (lv_sub hl [2, 3, 1, 0] rfl)
    · rw [ho] at hf
      have hf : (f_X7_isRead_D89 P a0 a1 σ42) = some (r, σ') := hf
      exact D89 a0 a1 σ42 hf _ _ hJ ls (lv_sub hl [0, 1] rfl)
set_option maxHeartbeats 4000000 in
set_option maxRecDepth 100000 in
theorem c_X7_listWays (l : Launch) (G : mx_G) (P : mx_P) (a0 : Nat) (σ : mx_S) (σ' : mx_S) (hf : f_X7_listWays P a0 σ = some σ') : mxz σ ≤ mpc P → mxu σ ≤ mps P → mx_M l yX7_listWays cX7_listWays 3 none 5 132 G P [.ref a0] σ none σ' := by
  intro hcap hcau
  refine mx_ofW (by decide +kernel) hcap hcau (Nat.le_of_ble_eq_true rfl) ?_
  intro p e s m below meth c hx hb hr hml hts hown hlocks hname hK hJ ls hl
  have hz0 := hJ.2.1
  have hown : s.vm.findClass RX7 = some m.cls := hown
  have hl : lv_has ls 3 [(0, .ref a0)] := hl
  have D84_15 : ∀ (v0 : Nat) (v1 : Int32) (τ : mx_S) (o : (Int32 × mx_S) ⊕ ((mx_S))), f_X7_listWays_D84_15 P v0 v1 τ = some o → (∀ (y1 : Int32) (υ : mx_S), o = .inl (y1, υ) → ∀ (H : Heap) (locs : List Loc), mx_J G P s.heap (mxz σ) (mxu σ) υ H locs → ∀ ls : Array Slot, lv_has ls 3 [(0, .ref v0), (1, .int y1)] → W p l e (mx_rm P 5 132 σ) s m ([.ref a0] : List Value).toArray below meth c H locs (mxz υ - mxz σ) (mxu υ - mxu σ) (mx_Z below G P none σ σ' [.ref a0] s) (F0 m 15 ls [])) → (∀  (υ : mx_S), o = .inr υ → ∀ (H : Heap) (locs : List Loc), mx_J G P s.heap (mxz σ) (mxu σ) υ H locs → ∀ ls : Array Slot, lv_has ls 3 [(0, .ref v0)] → W p l e (mx_rm P 5 132 σ) s m ([.ref a0] : List Value).toArray below meth c H locs (mxz υ - mxz σ) (mxu υ - mxu σ) (mx_Z below G P none σ σ' [.ref a0] s) (F0 m 90 ls [])) → ∀ (H : Heap) (locs : List Loc), mx_J G P s.heap (mxz σ) (mxu σ) τ H locs → ∀ ls : Array Slot, lv_has ls 3 [(0, .ref v0), (1, .int v1)] → W p l e (mx_rm P 5 132 σ) s m ([.ref a0] : List Value).toArray below meth c H locs (mxz τ - mxz σ) (mxu τ - mxu σ) (mx_Z below G P none σ σ' [.ref a0] s) (F0 m 84 ls []) := by
    intro v0 v1 τ o hf Kb Ke0 H locs hJ ls hl
    unfold f_X7_listWays_D84_15 at hf
    obtain ⟨x20, e21, hf⟩ := mb0 hf
    refine lv_iinc (v := x20) (lv' := [(1, .int x20), (0, .ref v0)]) hx hb dX7_listWays_84 hl (k := 1) rfl (by rw [← Option.some.inj e21]; rfl) (by decide) rfl (fun ls hl => ?_)
    refine lv_goto (tgt := 15) hx hb dX7_listWays_87 (by decide) ?_
    exact Kb x20 τ (Option.some.inj hf).symm _ _ hJ ls (lv_sub hl [1, 0] rfl)
  have D73_15 : ∀ (v0 : Nat) (v1 : Int32) (w0 : Int32) (w1 : Int32) (w2 : Nat) (τ : mx_S) (o : (Int32 × mx_S) ⊕ ((mx_S))), f_X7_listWays_D73_15 P v0 v1 w0 w1 w2 τ = some o → (∀ (y1 : Int32) (υ : mx_S), o = .inl (y1, υ) → ∀ (H : Heap) (locs : List Loc), mx_J G P s.heap (mxz σ) (mxu σ) υ H locs → ∀ ls : Array Slot, lv_has ls 3 [(0, .ref v0), (1, .int y1)] → W p l e (mx_rm P 5 132 σ) s m ([.ref a0] : List Value).toArray below meth c H locs (mxz υ - mxz σ) (mxu υ - mxu σ) (mx_Z below G P none σ σ' [.ref a0] s) (F0 m 15 ls [])) → (∀  (υ : mx_S), o = .inr υ → ∀ (H : Heap) (locs : List Loc), mx_J G P s.heap (mxz σ) (mxu σ) υ H locs → ∀ ls : Array Slot, lv_has ls 3 [(0, .ref v0)] → W p l e (mx_rm P 5 132 σ) s m ([.ref a0] : List Value).toArray below meth c H locs (mxz υ - mxz σ) (mxu υ - mxu σ) (mx_Z below G P none σ σ' [.ref a0] s) (F0 m 90 ls [])) → ∀ (H : Heap) (locs : List Loc), mx_J G P s.heap (mxz σ) (mxu σ) τ H locs → ∀ ls : Array Slot, lv_has ls 3 [(0, .ref v0), (1, .int v1)] → W p l e (mx_rm P 5 132 σ) s m ([.ref a0] : List Value).toArray below meth c H locs (mxz τ - mxz σ) (mxu τ - mxu σ) (mx_Z below G P none σ σ' [.ref a0] s) (F0 m 73 ls [.int w0, .int w1, .ref w2]) := by
    intro v0 v1 w0 w1 w2 τ o hf Kb Ke0 H locs hJ ls hl
    unfold f_X7_listWays_D73_15 at hf
    obtain ⟨σ33, e34, hf⟩ := mb0 hf
    refine mx_sI hx hb hK hJ e34 dX7_listWays_73 (fun H locs hJ => ?_)
    refine lv_aload_n hx hb dX7_listWays_74 rfl (lv_at hl 0 rfl) ?_
    refine lv_dup hx hb dX7_listWays_75 rfl ?_
    obtain ⟨x35, e36, hf⟩ := mb0 hf
    refine my_gI hx hb hts hown hK hJ fd_RX7_335 hv_7_9 e36 dX7_listWays_76 ?_
    refine lv_iconst (v := 1) hx hb dX7_listWays_79 (by decide) ?_
    refine lv_iadd hx hb dX7_listWays_80 ?_
    obtain ⟨σ37, e38, hf⟩ := mb0 hf
    refine my_pI hx hb hts hown hK hJ fd_RX7_335 cd_7 (Or.inl rfl) ht_7_9 e38 dX7_listWays_81 (fun H locs hJ => ?_)
    exact D84_15 v0 v1 σ37 o hf Kb Ke0 _ _ hJ ls (lv_sub hl [0, 1] rfl)
  have B15 : ∀ (v0 : Nat) (v1 : Int32) (τ : mx_S) (o : (Int32 × mx_S) ⊕ ((mx_S))), f_X7_listWays_B15 P v0 v1 τ = some o → (∀ (y1 : Int32) (υ : mx_S), o = .inl (y1, υ) → ∀ (H : Heap) (locs : List Loc), mx_J G P s.heap (mxz σ) (mxu σ) υ H locs → ∀ ls : Array Slot, lv_has ls 3 [(0, .ref v0), (1, .int y1)] → W p l e (mx_rm P 5 132 σ) s m ([.ref a0] : List Value).toArray below meth c H locs (mxz υ - mxz σ) (mxu υ - mxu σ) (mx_Z below G P none σ σ' [.ref a0] s) (F0 m 15 ls [])) → (∀  (υ : mx_S), o = .inr υ → ∀ (H : Heap) (locs : List Loc), mx_J G P s.heap (mxz σ) (mxu σ) υ H locs → ∀ ls : Array Slot, lv_has ls 3 [(0, .ref v0)] → W p l e (mx_rm P 5 132 σ) s m ([.ref a0] : List Value).toArray below meth c H locs (mxz υ - mxz σ) (mxu υ - mxu σ) (mx_Z below G P none σ σ' [.ref a0] s) (F0 m 90 ls [])) → ∀ (H : Heap) (locs : List Loc), mx_J G P s.heap (mxz σ) (mxu σ) τ H locs → ∀ ls : Array Slot, lv_has ls 3 [(0, .ref v0), (1, .int v1)] → W p l e (mx_rm P 5 132 σ) s m ([.ref a0] : List Value).toArray below meth c H locs (mxz τ - mxz σ) (mxu τ - mxu σ) (mx_Z below G P none σ σ' [.ref a0] s) (F0 m 15 ls []) := by
    intro v0 v1 τ o hf Kb Ke0 H locs hJ ls hl
    unfold f_X7_listWays_B15 at hf
    refine lv_iload_n hx hb dX7_listWays_15 rfl (lv_at hl 1 rfl) ?_
    refine lv_iconst (v := 1) hx hb dX7_listWays_16 (by decide) ?_
    refine lv_aload_n hx hb dX7_listWays_17 rfl (lv_at hl 0 rfl) ?_
    obtain ⟨x6, e7, hf⟩ := mb0 hf
    refine my_gI hx hb hts hown hK hJ fd_RX7_81 hv_7_3 e7 dX7_listWays_18 ?_
    refine lv_ishl hx hb dX7_listWays_21 ?_
    refine lv_icmp_ge (tgt := 90) hx hb dX7_listWays_22 (by decide) (fun c8 => ?_) (fun c8 => ?_)
    · rw [if_pos c8] at hf
      exact Ke0 τ (Option.some.inj hf).symm _ _ hJ ls (lv_sub hl [0] rfl)
    · rw [if_neg c8] at hf
      refine lv_iload_n hx hb dX7_listWays_25 rfl (lv_at hl 1 rfl) ?_
      refine lv_aload_n hx hb dX7_listWays_26 rfl (lv_at hl 0 rfl) ?_
      obtain ⟨b9, e10, hf⟩ := mb0 hf
      refine my_gR hx hb hts hown hK hJ fd_RX7_42 hv_7_7 e10 dX7_listWays_27 ?_
      obtain ⟨x11, e12, hf⟩ := mb0 hf
      refine mx_alen hx hb hK hJ e12 dX7_listWays_30 ?_
      refine lv_icmp_ge (tgt := 90) hx hb dX7_listWays_31 (by decide) (fun c13 => ?_) (fun c13 => ?_)
      · rw [if_pos c13] at hf
        exact Ke0 τ (Option.some.inj hf).symm _ _ hJ ls (lv_sub hl [0] rfl)
      · rw [if_neg c13] at hf
        refine lv_aload_n hx hb dX7_listWays_34 rfl (lv_at hl 0 rfl) ?_
        refine lv_iload_n hx hb dX7_listWays_35 rfl (lv_at hl 1 rfl) ?_
        refine lv_iconst (v := 0) hx hb dX7_listWays_36 (by decide) ?_
        obtain ⟨i14, e15, hf⟩ := mb0 hf
        obtain ⟨x17, σ16, e18, hf⟩ := mc0 hf
        refine mx_callV (As := [.int v1, .int (0 : Int32)]) (rest := []) hx hb hml hts hown hK hJ rfl rfl (ci := 7) rfl e15 (c_X7_look l G P v0 v1 (0 : Int32) τ x17 σ16 e18) me_X7_look kw_655 kw_656 kw_654 (Nat.le_of_ble_eq_true rfl) (Nat.le_of_ble_eq_true rfl) rfl hl.1 rfl (Nat.le_of_ble_eq_true rfl) dX7_listWays_37 (fun H locs hJ => ?_)
        refine lv_istore_n (lv' := [(2, .int x17), (0, .ref v0), (1, .int v1)]) hx hb dX7_listWays_40 rfl hl (by decide) rfl (fun ls hl => ?_)
        refine lv_iload_n hx hb dX7_listWays_41 rfl (lv_at hl 0 rfl) ?_
        refine lv_iconst (v := 3) hx hb dX7_listWays_42 (by decide) ?_
        refine lv_icmp_eq (tgt := 84) hx hb dX7_listWays_43 (by decide) (fun c19 => ?_) (fun c19 => ?_)
        · rw [if_pos c19] at hf
          exact D84_15 v0 v1 σ16 o hf Kb Ke0 _ _ hJ ls (lv_sub hl [1, 2] rfl)
        · rw [if_neg c19] at hf
          refine lv_aload_n hx hb dX7_listWays_46 rfl (lv_at hl 1 rfl) ?_
          obtain ⟨b22, e23, hf⟩ := mb0 hf
          refine my_gR hx hb hts hown hK hJ fd_RX7_42 hv_7_7 e23 dX7_listWays_47 ?_
          refine lv_aload_n hx hb dX7_listWays_50 rfl (lv_at hl 1 rfl) ?_
          obtain ⟨x24, e25, hf⟩ := mb0 hf
          refine my_gI hx hb hts hown hK hJ fd_RX7_335 hv_7_9 e25 dX7_listWays_51 ?_
          refine lv_iload_n hx hb dX7_listWays_54 rfl (lv_at hl 2 rfl) ?_
          obtain ⟨σ26, e27, hf⟩ := mb0 hf
          refine mx_sI hx hb hK hJ e27 dX7_listWays_55 (fun H locs hJ => ?_)
          refine lv_aload_n hx hb dX7_listWays_56 rfl (lv_at hl 1 rfl) ?_
          obtain ⟨b28, e29, hf⟩ := mb0 hf
          refine my_gR hx hb hts hown hK hJ fd_RX7_45 hv_7_8 e29 dX7_listWays_57 ?_
          refine lv_aload_n hx hb dX7_listWays_60 rfl (lv_at hl 1 rfl) ?_
          obtain ⟨x30, e31, hf⟩ := mb0 hf
          refine my_gI hx hb hts hown hK hJ fd_RX7_335 hv_7_9 e31 dX7_listWays_61 ?_
          refine lv_iload_n hx hb dX7_listWays_64 rfl (lv_at hl 0 rfl) ?_
          refine lv_if_ne (tgt := 72) hx hb dX7_listWays_65 (by decide) (fun c32 => ?_) (fun c32 => ?_)
          · rw [if_neg c32] at hf
            refine lv_iconst (v := 0) hx hb dX7_listWays_72 (by decide) ?_
            exact D73_15 v0 v1 (0 : Int32) x30 b28 σ26 o hf Kb Ke0 _ _ hJ ls (lv_sub hl [1, 2] rfl)
          · rw [if_pos c32] at hf
            refine lv_iconst (v := 1) hx hb dX7_listWays_68 (by decide) ?_
            refine lv_goto (tgt := 73) hx hb dX7_listWays_69 (by decide) ?_
            exact D73_15 v0 v1 (1 : Int32) x30 b28 σ26 o hf Kb Ke0 _ _ hJ ls (lv_sub hl [1, 2] rfl)
  have L15 : ∀ (v0 : Nat) (n : Nat) (v1 : Int32) (τ : mx_S) (o : (mx_S)), mx_lp (f_X7_listWays_L15 P v0) n (v1, τ) = some o → (∀  (υ : mx_S), o = υ → ∀ (H : Heap) (locs : List Loc), mx_J G P s.heap (mxz σ) (mxu σ) υ H locs → ∀ ls : Array Slot, lv_has ls 3 [(0, .ref v0)] → W p l e (mx_rm P 5 132 σ) s m ([.ref a0] : List Value).toArray below meth c H locs (mxz υ - mxz σ) (mxu υ - mxu σ) (mx_Z below G P none σ σ' [.ref a0] s) (F0 m 90 ls [])) → ∀ (H : Heap) (locs : List Loc), mx_J G P s.heap (mxz σ) (mxu σ) τ H locs → ∀ ls : Array Slot, lv_has ls 3 [(0, .ref v0), (1, .int v1)] → W p l e (mx_rm P 5 132 σ) s m ([.ref a0] : List Value).toArray below meth c H locs (mxz τ - mxz σ) (mxu τ - mxu σ) (mx_Z below G P none σ σ' [.ref a0] s) (F0 m 15 ls []) := by
    intro v0 n
    induction n with
    | zero =>
      intro v1 τ o hf
      rw [mx_lp0] at hf
      cases hf
    | succ n ih =>
      intro v1 τ o hf Ke0 H locs hJ ls hl
      rw [mx_lpS] at hf
      obtain ⟨b, eb, hf⟩ := mb0 hf
      refine B15 v0 v1 τ b eb (fun y1 υ ho H locs hJ ls hl => ?_) (fun  υ ho H locs hJ ls hl => ?_) H locs hJ ls hl
      · subst ho
        exact ih y1 υ o hf Ke0 H locs hJ ls hl
      · subst ho
        exact Ke0  υ (Option.some.inj hf).symm _ _ hJ ls hl
  have D90 : ∀ (v0 : Nat) (τ : mx_S), f_X7_listWays_D90 P v0 τ = some σ' → ∀ (H : Heap) (locs : List Loc), mx_J G P s.heap (mxz σ) (mxu σ) τ H locs → ∀ ls : Array Slot, lv_has ls 3 [(0, .ref v0)] → W p l e (mx_rm P 5 132 σ) s m ([.ref a0] : List Value).toArray below meth c H locs (mxz τ - mxz σ) (mxu τ - mxu σ) (mx_Z below G P none σ σ' [.ref a0] s) (F0 m 90 ls []) := by
    intro v0 τ hf _ _ hJ ls hl
    unfold f_X7_listWays_D90 at hf
    refine lv_aload_n hx hb dX7_listWays_90 rfl (lv_at hl 0 rfl) ?_
    refine lv_iconst (v := 1) hx hb dX7_listWays_91 (by decide) ?_
    obtain ⟨σ42, e43, hf⟩ := mb0 hf
    refine my_pZ hx hb hts hown hK hJ fd_RX7_87 cd_7 (Or.inl rfl) ht_7_10 e43 dX7_listWays_92 (fun H locs hJ => ?_)
    exact my_vret hx hb hr hlocks hJ hf dX7_listWays_95
  unfold f_X7_listWays at hf
  refine lv_aload_n hx hb dX7_listWays_0 rfl (lv_at hl 0 rfl) ?_
  obtain ⟨x1, e2, hf⟩ := mb0 hf
  refine my_gI hx hb hts hown hK hJ fd_RX7_87 hv_7_10 e2 dX7_listWays_1 ?_
  refine lv_if_eq (tgt := 8) hx hb dX7_listWays_4 (by decide) (fun c3 => ?_) (fun c3 => ?_)
  · rw [if_pos c3] at hf
    refine lv_aload_n hx hb dX7_listWays_8 rfl (lv_at hl 0 rfl) ?_
    refine lv_iconst (v := 0) hx hb dX7_listWays_9 (by decide) ?_
    obtain ⟨σ4, e5, hf⟩ := mb0 hf
    refine my_pI hx hb hts hown hK hJ fd_RX7_335 cd_7 (Or.inl rfl) ht_7_9 e5 dX7_listWays_10 (fun H locs hJ => ?_)
    refine lv_iconst (v := 0) hx hb dX7_listWays_13 (by decide) ?_
    refine lv_istore_n (lv' := [(1, .int (0 : Int32)), (0, .ref a0)]) hx hb dX7_listWays_14 rfl hl (by decide) rfl (fun ls hl => ?_)
    obtain ⟨o39, e40, hf⟩ := mb0 hf
    refine L15 a0 (mpN P) (0 : Int32) σ4 o39 e40 (fun σ41 ho H locs hJ ls hl => ?_) _ _ hJ ls (lv_sub hl [1, 0] rfl)
    · rw [ho] at hf
      have hf : (f_X7_listWays_D90 P a0 σ41) = some σ' := hf
      exact D90 a0 σ41 hf _ _ hJ ls (lv_sub hl [0] rfl)
  · rw [if_neg c3] at hf
    exact my_vret hx hb hr hlocks hJ hf dX7_listWays_7
set_option maxHeartbeats 4000000 in
set_option maxRecDepth 100000 in
theorem c_X7_walk (l : Launch) (G : mx_G) (P : mx_P) (a0 : Nat) (p1 : Int32) (p2 : Int32) (p3 : Int32) (σ : mx_S) (σ' : mx_S) (hf : f_X7_walk P a0 p1 p2 p3 σ = some σ') : mxz σ ≤ mpc P → mxu σ ≤ mps P → mx_M l yX7_walk cX7_walk 7 none 5 132 G P [.ref a0, .int p1, .int p2, .int p3] σ none σ' := by
  intro hcap hcau
  refine mx_ofW (by decide +kernel) hcap hcau (Nat.le_of_ble_eq_true rfl) ?_
  intro p e s m below meth c hx hb hr hml hts hown hlocks hname hK hJ ls hl
  have hz0 := hJ.2.1
  have hown : s.vm.findClass RX7 = some m.cls := hown
  have hl : lv_has ls 7 [(0, .ref a0), (1, .int p1), (2, .int p2), (3, .int p3)] := hl
  have B14 : ∀ (v0 : Nat) (v1 : Int32) (v2 : Int32) (v3 : Int32) (v4 : Int32) (v5 : Int32) (τ : mx_S) (o : (Int32 × mx_S) ⊕ ((Int32 × mx_S) ⊕ (mx_S))), f_X7_walk_B14 P v0 v1 v2 v3 v4 v5 τ = some o → (∀ (y5 : Int32) (υ : mx_S), o = .inl (y5, υ) → ∀ (H : Heap) (locs : List Loc), mx_J G P s.heap (mxz σ) (mxu σ) υ H locs → ∀ ls : Array Slot, lv_has ls 7 [(0, .ref v0), (1, .int v1), (2, .int v2), (3, .int v3), (4, .int v4), (5, .int y5)] → W p l e (mx_rm P 5 132 σ) s m ([.ref a0, .int p1, .int p2, .int p3] : List Value).toArray below meth c H locs (mxz υ - mxz σ) (mxu υ - mxu σ) (mx_Z below G P none σ σ' [.ref a0, .int p1, .int p2, .int p3] s) (F0 m 14 ls [])) → (∀ (y6 : Int32) (υ : mx_S), o = .inr (.inl (y6, υ)) → ∀ (H : Heap) (locs : List Loc), mx_J G P s.heap (mxz σ) (mxu σ) υ H locs → ∀ ls : Array Slot, lv_has ls 7 [(0, .ref v0), (2, .int v2), (6, .int y6)] → W p l e (mx_rm P 5 132 σ) s m ([.ref a0, .int p1, .int p2, .int p3] : List Value).toArray below meth c H locs (mxz υ - mxz σ) (mxu υ - mxu σ) (mx_Z below G P none σ σ' [.ref a0, .int p1, .int p2, .int p3] s) (F0 m 54 ls [])) → (∀  (υ : mx_S), o = .inr (.inr υ) → ∀ (H : Heap) (locs : List Loc), mx_J G P s.heap (mxz σ) (mxu σ) υ H locs → ∀ ls : Array Slot, lv_has ls 7 [] → W p l e (mx_rm P 5 132 σ) s m ([.ref a0, .int p1, .int p2, .int p3] : List Value).toArray below meth c H locs (mxz υ - mxz σ) (mxu υ - mxu σ) (mx_Z below G P none σ σ' [.ref a0, .int p1, .int p2, .int p3] s) (F0 m 68 ls [])) → ∀ (H : Heap) (locs : List Loc), mx_J G P s.heap (mxz σ) (mxu σ) τ H locs → ∀ ls : Array Slot, lv_has ls 7 [(0, .ref v0), (1, .int v1), (2, .int v2), (3, .int v3), (4, .int v4), (5, .int v5)] → W p l e (mx_rm P 5 132 σ) s m ([.ref a0, .int p1, .int p2, .int p3] : List Value).toArray below meth c H locs (mxz τ - mxz σ) (mxu τ - mxu σ) (mx_Z below G P none σ σ' [.ref a0, .int p1, .int p2, .int p3] s) (F0 m 14 ls []) := by
    intro v0 v1 v2 v3 v4 v5 τ o hf Kb Ke0 Ke1 H locs hJ ls hl
    unfold f_X7_walk_B14 at hf
    refine lv_iload hx hb dX7_walk_14 (lv_at hl 5 rfl) ?_
    refine lv_iload_n hx hb dX7_walk_16 rfl (lv_at hl 3 rfl) ?_
    obtain ⟨x3, σ2, e4, hf⟩ := mc0 hf
    refine mx_callS (As := [.int v3]) (rest := [.int v5]) hx hb hml hts hown hK hJ rfl rfl (c_J9_abs_0f7a4 l G P v3 τ x3 σ2 e4) me_J9_abs_0f7a4 kw_698 kw_697 (Nat.le_of_ble_eq_true rfl) (Nat.le_of_ble_eq_true rfl) rfl hl.1 rfl (Nat.le_of_ble_eq_true rfl) dX7_walk_17 (fun H locs hJ => ?_)
    refine lv_icmp_ge (tgt := 68) hx hb dX7_walk_20 (by decide) (fun c5 => ?_) (fun c5 => ?_)
    · rw [if_pos c5] at hf
      exact Ke1 σ2 (Option.some.inj hf).symm _ _ hJ ls (lv_sub hl [] rfl)
    · rw [if_neg c5] at hf
      refine lv_aload_n hx hb dX7_walk_23 rfl (lv_at hl 0 rfl) ?_
      obtain ⟨b6, e7, hf⟩ := mb0 hf
      refine my_gR hx hb hts hown hK hJ fd_RX7_20 hv_7_4 e7 dX7_walk_24 ?_
      refine lv_iload_n hx hb dX7_walk_27 rfl (lv_at hl 2 rfl) ?_
      obtain ⟨x8, e9, hf⟩ := mb0 hf
      refine mx_aI hx hb hK hJ e9 dX7_walk_28 ?_
      refine lv_istore (lv' := [(6, .int x8), (0, .ref v0), (1, .int v1), (2, .int v2), (3, .int v3), (4, .int v4), (5, .int v5)]) hx hb dX7_walk_29 hl (by decide) rfl (fun ls hl => ?_)
      refine lv_aload_n hx hb dX7_walk_31 rfl (lv_at hl 1 rfl) ?_
      refine lv_iload_n hx hb dX7_walk_32 rfl (lv_at hl 3 rfl) ?_
      refine lv_iload hx hb dX7_walk_33 (lv_at hl 0 rfl) ?_
      refine lv_iload hx hb dX7_walk_35 (lv_at hl 5 rfl) ?_
      refine lv_iadd hx hb dX7_walk_37 ?_
      refine lv_sipush (v := 1023) hx hb dX7_walk_38 (by decide) ?_
      refine lv_iand hx hb dX7_walk_41 ?_
      obtain ⟨i10, e11, hf⟩ := mb0 hf
      obtain ⟨σ12, e13, hf⟩ := mb0 hf
      refine mx_callV (As := [.int v2, .int ((x8 + v4) &&& (1023 : Int32))]) (rest := []) hx hb hml hts hown hK hJ rfl rfl (ci := 7) rfl e11 (c_X7_moveTo l G P v0 v2 ((x8 + v4) &&& (1023 : Int32)) σ2 σ12 e13) me_X7_moveTo kw_1035 kw_1036 kw_1034 (Nat.le_of_ble_eq_true rfl) (Nat.le_of_ble_eq_true rfl) rfl hl.1 rfl (Nat.le_of_ble_eq_true rfl) dX7_walk_42 (fun H locs hJ => ?_)
      refine lv_aload_n hx hb dX7_walk_45 rfl (lv_at hl 1 rfl) ?_
      refine lv_iload_n hx hb dX7_walk_46 rfl (lv_at hl 2 rfl) ?_
      refine lv_iconst (v := 1) hx hb dX7_walk_47 (by decide) ?_
      obtain ⟨i14, e15, hf⟩ := mb0 hf
      obtain ⟨x17, σ16, e18, hf⟩ := mc0 hf
      refine mx_callV (As := [.int v1, .int (1 : Int32)]) (rest := []) hx hb hml hts hown hK hJ rfl rfl (ci := 7) rfl e15 (c_X7_look l G P v0 v1 (1 : Int32) σ12 x17 σ16 e18) me_X7_look kw_655 kw_656 kw_654 (Nat.le_of_ble_eq_true rfl) (Nat.le_of_ble_eq_true rfl) rfl hl.1 rfl (Nat.le_of_ble_eq_true rfl) dX7_walk_48 (fun H locs hJ => ?_)
      refine lv_if_eq (tgt := 62) hx hb dX7_walk_51 (by decide) (fun c19 => ?_) (fun c19 => ?_)
      · rw [if_pos c19] at hf
        obtain ⟨x20, e21, hf⟩ := mb0 hf
        refine lv_iinc (v := x20) (lv' := [(5, .int x20), (6, .int x8), (0, .ref v0), (1, .int v1), (2, .int v2), (3, .int v3), (4, .int v4)]) hx hb dX7_walk_62 hl (k := 6) rfl (by rw [← Option.some.inj e21]; rfl) (by decide) rfl (fun ls hl => ?_)
        refine lv_goto (tgt := 14) hx hb dX7_walk_65 (by decide) ?_
        exact Kb x20 σ16 (Option.some.inj hf).symm _ _ hJ ls (lv_sub hl [2, 3, 4, 5, 6, 0] rfl)
      · rw [if_neg c19] at hf
        exact Ke0 x8 σ16 (Option.some.inj hf).symm _ _ hJ ls (lv_sub hl [1, 3, 0] rfl)
  have L14 : ∀ (v0 : Nat) (v1 : Int32) (v2 : Int32) (v3 : Int32) (v4 : Int32) (n : Nat) (v5 : Int32) (τ : mx_S) (o : (Int32 × mx_S) ⊕ (mx_S)), mx_lp (f_X7_walk_L14 P v0 v1 v2 v3 v4) n (v5, τ) = some o → (∀ (y6 : Int32) (υ : mx_S), o = (.inl (y6, υ)) → ∀ (H : Heap) (locs : List Loc), mx_J G P s.heap (mxz σ) (mxu σ) υ H locs → ∀ ls : Array Slot, lv_has ls 7 [(0, .ref v0), (2, .int v2), (6, .int y6)] → W p l e (mx_rm P 5 132 σ) s m ([.ref a0, .int p1, .int p2, .int p3] : List Value).toArray below meth c H locs (mxz υ - mxz σ) (mxu υ - mxu σ) (mx_Z below G P none σ σ' [.ref a0, .int p1, .int p2, .int p3] s) (F0 m 54 ls [])) → (∀  (υ : mx_S), o = (.inr υ) → ∀ (H : Heap) (locs : List Loc), mx_J G P s.heap (mxz σ) (mxu σ) υ H locs → ∀ ls : Array Slot, lv_has ls 7 [] → W p l e (mx_rm P 5 132 σ) s m ([.ref a0, .int p1, .int p2, .int p3] : List Value).toArray below meth c H locs (mxz υ - mxz σ) (mxu υ - mxu σ) (mx_Z below G P none σ σ' [.ref a0, .int p1, .int p2, .int p3] s) (F0 m 68 ls [])) → ∀ (H : Heap) (locs : List Loc), mx_J G P s.heap (mxz σ) (mxu σ) τ H locs → ∀ ls : Array Slot, lv_has ls 7 [(0, .ref v0), (1, .int v1), (2, .int v2), (3, .int v3), (4, .int v4), (5, .int v5)] → W p l e (mx_rm P 5 132 σ) s m ([.ref a0, .int p1, .int p2, .int p3] : List Value).toArray below meth c H locs (mxz τ - mxz σ) (mxu τ - mxu σ) (mx_Z below G P none σ σ' [.ref a0, .int p1, .int p2, .int p3] s) (F0 m 14 ls []) := by
    intro v0 v1 v2 v3 v4 n
    induction n with
    | zero =>
      intro v5 τ o hf
      rw [mx_lp0] at hf
      cases hf
    | succ n ih =>
      intro v5 τ o hf Ke0 Ke1 H locs hJ ls hl
      rw [mx_lpS] at hf
      obtain ⟨b, eb, hf⟩ := mb0 hf
      refine B14 v0 v1 v2 v3 v4 v5 τ b eb (fun y5 υ ho H locs hJ ls hl => ?_) (fun y6 υ ho H locs hJ ls hl => ?_) (fun  υ ho H locs hJ ls hl => ?_) H locs hJ ls hl
      · subst ho
        exact ih y5 υ o hf Ke0 Ke1 H locs hJ ls hl
      · subst ho
        exact Ke0 y6 υ (Option.some.inj hf).symm _ _ hJ ls hl
      · subst ho
        exact Ke1  υ (Option.some.inj hf).symm _ _ hJ ls hl
  have D9 : ∀ (v0 : Nat) (v1 : Int32) (v2 : Int32) (v3 : Int32) (w0 : Int32) (τ : mx_S), f_X7_walk_D9 P v0 v1 v2 v3 w0 τ = some σ' → ∀ (H : Heap) (locs : List Loc), mx_J G P s.heap (mxz σ) (mxu σ) τ H locs → ∀ ls : Array Slot, lv_has ls 7 [(0, .ref v0), (1, .int v1), (2, .int v2), (3, .int v3)] → W p l e (mx_rm P 5 132 σ) s m ([.ref a0, .int p1, .int p2, .int p3] : List Value).toArray below meth c H locs (mxz τ - mxz σ) (mxu τ - mxu σ) (mx_Z below G P none σ σ' [.ref a0, .int p1, .int p2, .int p3] s) (F0 m 9 ls [.int w0]) := by
    intro v0 v1 v2 v3 w0 τ hf _ _ hJ ls hl
    unfold f_X7_walk_D9 at hf
    refine lv_istore (lv' := [(4, .int w0), (0, .ref v0), (1, .int v1), (2, .int v2), (3, .int v3)]) hx hb dX7_walk_9 hl (by decide) rfl (fun ls hl => ?_)
    refine lv_iconst (v := 0) hx hb dX7_walk_11 (by decide) ?_
    refine lv_istore (lv' := [(5, .int (0 : Int32)), (4, .int w0), (0, .ref v0), (1, .int v1), (2, .int v2), (3, .int v3)]) hx hb dX7_walk_12 hl (by decide) rfl (fun ls hl => ?_)
    obtain ⟨o22, e23, hf⟩ := mb0 hf
    refine L14 v0 v1 v2 v3 w0 (mpN P) (0 : Int32) τ o22 e23 (fun y24 σ25 ho H locs hJ ls hl => ?_) (fun σ30 ho H locs hJ ls hl => ?_) _ _ hJ ls (lv_sub hl [2, 3, 4, 5, 1, 0] rfl)
    · rw [ho] at hf
      have hf : ((mx_is σ25 v0 7).bind fun i26 => (f_X7_moveTo P v0 v2 y24 σ25).bind fun σ28 => some σ28) = some σ' := hf
      refine lv_aload_n hx hb dX7_walk_54 rfl (lv_at hl 0 rfl) ?_
      refine lv_iload_n hx hb dX7_walk_55 rfl (lv_at hl 1 rfl) ?_
      refine lv_iload hx hb dX7_walk_56 (lv_at hl 2 rfl) ?_
      obtain ⟨i26, e27, hf⟩ := mb0 hf
      obtain ⟨σ28, e29, hf⟩ := mb0 hf
      refine mx_callV (As := [.int v2, .int y24]) (rest := []) hx hb hml hts hown hK hJ rfl rfl (ci := 7) rfl e27 (c_X7_moveTo l G P v0 v2 y24 σ25 σ28 e29) me_X7_moveTo kw_1035 kw_1036 kw_1034 (Nat.le_of_ble_eq_true rfl) (Nat.le_of_ble_eq_true rfl) rfl hl.1 rfl (Nat.le_of_ble_eq_true rfl) dX7_walk_58 (fun H locs hJ => ?_)
      exact my_vret hx hb hr hlocks hJ hf dX7_walk_61
    · rw [ho] at hf
      have hf : (some σ30) = some σ' := hf
      exact my_vret hx hb hr hlocks hJ hf dX7_walk_68
  unfold f_X7_walk at hf
  refine lv_iload_n hx hb dX7_walk_0 rfl (lv_at hl 3 rfl) ?_
  refine lv_if_ge (tgt := 8) hx hb dX7_walk_1 (by decide) (fun c1 => ?_) (fun c1 => ?_)
  · rw [if_pos c1] at hf
    refine lv_iconst (v := 1) hx hb dX7_walk_8 (by decide) ?_
    exact D9 a0 p1 p2 p3 (1 : Int32) σ hf _ _ hJ ls (lv_sub hl [0, 1, 2, 3] rfl)
  · rw [if_neg c1] at hf
    refine lv_iconst (v := (-1)) hx hb dX7_walk_4 (by decide) ?_
    refine lv_goto (tgt := 9) hx hb dX7_walk_5 (by decide) ?_
    exact D9 a0 p1 p2 p3 (-1 : Int32) σ hf _ _ hJ ls (lv_sub hl [0, 1, 2, 3] rfl)
set_option maxHeartbeats 4000000 in
set_option maxRecDepth 100000 in
theorem c_X7_runsOf (l : Launch) (G : mx_G) (P : mx_P) (a0 : Nat) (p1 : Int32) (p2 : Int32) (p3 : Int32) (σ : mx_S) (r : Int32) (σ' : mx_S) (hf : f_X7_runsOf P a0 p1 p2 p3 σ = some (r, σ')) : mxz σ ≤ mpc P → mxu σ ≤ mps P → mx_M l yX7_runsOf cX7_runsOf 11 (some .int) 5 132 G P [.ref a0, .int p1, .int p2, .int p3] σ (some (.int r)) σ' := by
  intro hcap hcau
  refine mx_ofW (by decide +kernel) hcap hcau (Nat.le_of_ble_eq_true rfl) ?_
  intro p e s m below meth c hx hb hr hml hts hown hlocks hname hK hJ ls hl
  have hz0 := hJ.2.1
  have hown : s.vm.findClass RX7 = some m.cls := hown
  have hl : lv_has ls 11 [(0, .ref a0), (1, .int p1), (2, .int p2), (3, .int p3)] := hl
  have D117_44 : ∀ (v0 : Nat) (v1 : Int32) (v2 : Int32) (v3 : Int32) (v4 : Int32) (v6 : Int32) (v7 : Int32) (v8 : Int32) (v9 : Int32) (v10 : Int32) (τ : mx_S) (o : (Int32 × Int32 × Int32 × Int32 × Int32 × mx_S) ⊕ ((Int32 × Int32 × Int32 × mx_S))), f_X7_runsOf_D117_44 P v0 v1 v2 v3 v4 v6 v7 v8 v9 v10 τ = some o → (∀ (y5 : Int32) (y6 : Int32) (y7 : Int32) (y8 : Int32) (y9 : Int32) (υ : mx_S), o = .inl (y5, y6, y7, y8, y9, υ) → ∀ (H : Heap) (locs : List Loc), mx_J G P s.heap (mxz σ) (mxu σ) υ H locs → ∀ ls : Array Slot, lv_has ls 11 [(0, .ref v0), (1, .int v1), (2, .int v2), (3, .int v3), (4, .int v4), (5, .int y5), (6, .int y6), (7, .int y7), (8, .int y8), (9, .int y9)] → W p l e (mx_rm P 5 132 σ) s m ([.ref a0, .int p1, .int p2, .int p3] : List Value).toArray below meth c H locs (mxz υ - mxz σ) (mxu υ - mxu σ) (mx_Z below G P (some (.int r)) σ σ' [.ref a0, .int p1, .int p2, .int p3] s) (F0 m 44 ls [])) → (∀ (y6 : Int32) (y7 : Int32) (y8 : Int32) (υ : mx_S), o = .inr (y6, y7, y8, υ) → ∀ (H : Heap) (locs : List Loc), mx_J G P s.heap (mxz σ) (mxu σ) υ H locs → ∀ ls : Array Slot, lv_has ls 11 [(0, .ref v0), (2, .int v2), (3, .int v3), (4, .int v4), (6, .int y6), (7, .int y7), (8, .int y8)] → W p l e (mx_rm P 5 132 σ) s m ([.ref a0, .int p1, .int p2, .int p3] : List Value).toArray below meth c H locs (mxz υ - mxz σ) (mxu υ - mxu σ) (mx_Z below G P (some (.int r)) σ σ' [.ref a0, .int p1, .int p2, .int p3] s) (F0 m 127 ls [])) → ∀ (H : Heap) (locs : List Loc), mx_J G P s.heap (mxz σ) (mxu σ) τ H locs → ∀ ls : Array Slot, lv_has ls 11 [(0, .ref v0), (1, .int v1), (2, .int v2), (3, .int v3), (4, .int v4), (6, .int v6), (7, .int v7), (8, .int v8), (9, .int v9), (10, .int v10)] → W p l e (mx_rm P 5 132 σ) s m ([.ref a0, .int p1, .int p2, .int p3] : List Value).toArray below meth c H locs (mxz τ - mxz σ) (mxu τ - mxu σ) (mx_Z below G P (some (.int r)) σ σ' [.ref a0, .int p1, .int p2, .int p3] s) (F0 m 117 ls []) := by
    intro v0 v1 v2 v3 v4 v6 v7 v8 v9 v10 τ o hf Kb Ke0 H locs hJ ls hl
    unfold f_X7_runsOf_D117_44 at hf
    refine lv_iload hx hb dX7_runsOf_117 (lv_at hl 9 rfl) ?_
    refine lv_istore (lv' := [(5, .int v10), (0, .ref v0), (1, .int v1), (2, .int v2), (3, .int v3), (4, .int v4), (6, .int v6), (7, .int v7), (8, .int v8), (9, .int v9), (10, .int v10)]) hx hb dX7_runsOf_119 hl (by decide) rfl (fun ls hl => ?_)
    obtain ⟨x30, e31, hf⟩ := mb0 hf
    refine lv_iinc (v := x30) (lv' := [(9, .int x30), (5, .int v10), (0, .ref v0), (1, .int v1), (2, .int v2), (3, .int v3), (4, .int v4), (6, .int v6), (7, .int v7), (8, .int v8), (10, .int v10)]) hx hb dX7_runsOf_121 hl (k := 9) rfl (by rw [← Option.some.inj e31]; rfl) (by decide) rfl (fun ls hl => ?_)
    refine lv_goto (tgt := 44) hx hb dX7_runsOf_124 (by decide) ?_
    exact Kb v10 v6 v7 v8 x30 τ (Option.some.inj hf).symm _ _ hJ ls (lv_sub hl [2, 3, 4, 5, 6, 1, 7, 8, 9, 0] rfl)
  have D115_44 : ∀ (v0 : Nat) (v1 : Int32) (v2 : Int32) (v3 : Int32) (v4 : Int32) (v6 : Int32) (v7 : Int32) (v9 : Int32) (v10 : Int32) (w0 : Int32) (τ : mx_S) (o : (Int32 × Int32 × Int32 × Int32 × Int32 × mx_S) ⊕ ((Int32 × Int32 × Int32 × mx_S))), f_X7_runsOf_D115_44 P v0 v1 v2 v3 v4 v6 v7 v9 v10 w0 τ = some o → (∀ (y5 : Int32) (y6 : Int32) (y7 : Int32) (y8 : Int32) (y9 : Int32) (υ : mx_S), o = .inl (y5, y6, y7, y8, y9, υ) → ∀ (H : Heap) (locs : List Loc), mx_J G P s.heap (mxz σ) (mxu σ) υ H locs → ∀ ls : Array Slot, lv_has ls 11 [(0, .ref v0), (1, .int v1), (2, .int v2), (3, .int v3), (4, .int v4), (5, .int y5), (6, .int y6), (7, .int y7), (8, .int y8), (9, .int y9)] → W p l e (mx_rm P 5 132 σ) s m ([.ref a0, .int p1, .int p2, .int p3] : List Value).toArray below meth c H locs (mxz υ - mxz σ) (mxu υ - mxu σ) (mx_Z below G P (some (.int r)) σ σ' [.ref a0, .int p1, .int p2, .int p3] s) (F0 m 44 ls [])) → (∀ (y6 : Int32) (y7 : Int32) (y8 : Int32) (υ : mx_S), o = .inr (y6, y7, y8, υ) → ∀ (H : Heap) (locs : List Loc), mx_J G P s.heap (mxz σ) (mxu σ) υ H locs → ∀ ls : Array Slot, lv_has ls 11 [(0, .ref v0), (2, .int v2), (3, .int v3), (4, .int v4), (6, .int y6), (7, .int y7), (8, .int y8)] → W p l e (mx_rm P 5 132 σ) s m ([.ref a0, .int p1, .int p2, .int p3] : List Value).toArray below meth c H locs (mxz υ - mxz σ) (mxu υ - mxu σ) (mx_Z below G P (some (.int r)) σ σ' [.ref a0, .int p1, .int p2, .int p3] s) (F0 m 127 ls [])) → ∀ (H : Heap) (locs : List Loc), mx_J G P s.heap (mxz σ) (mxu σ) τ H locs → ∀ ls : Array Slot, lv_has ls 11 [(0, .ref v0), (1, .int v1), (2, .int v2), (3, .int v3), (4, .int v4), (6, .int v6), (7, .int v7), (9, .int v9), (10, .int v10)] → W p l e (mx_rm P 5 132 σ) s m ([.ref a0, .int p1, .int p2, .int p3] : List Value).toArray below meth c H locs (mxz τ - mxz σ) (mxu τ - mxu σ) (mx_Z below G P (some (.int r)) σ σ' [.ref a0, .int p1, .int p2, .int p3] s) (F0 m 115 ls [.int w0]) := by
    intro v0 v1 v2 v3 v4 v6 v7 v9 v10 w0 τ o hf Kb Ke0 H locs hJ ls hl
    unfold f_X7_runsOf_D115_44 at hf
    refine lv_istore (lv' := [(8, .int w0), (0, .ref v0), (1, .int v1), (2, .int v2), (3, .int v3), (4, .int v4), (6, .int v6), (7, .int v7), (9, .int v9), (10, .int v10)]) hx hb dX7_runsOf_115 hl (by decide) rfl (fun ls hl => ?_)
    exact D117_44 v0 v1 v2 v3 v4 v6 v7 w0 v9 v10 τ o hf Kb Ke0 _ _ hJ ls (lv_sub hl [1, 2, 3, 4, 5, 6, 7, 0, 8, 9] rfl)
  have D87_44 : ∀ (v0 : Nat) (v1 : Int32) (v2 : Int32) (v3 : Int32) (v4 : Int32) (v5 : Int32) (v7 : Int32) (v8 : Int32) (v9 : Int32) (v10 : Int32) (w0 : Int32) (w1 : Int32) (τ : mx_S) (o : (Int32 × Int32 × Int32 × Int32 × Int32 × mx_S) ⊕ ((Int32 × Int32 × Int32 × mx_S))), f_X7_runsOf_D87_44 P v0 v1 v2 v3 v4 v5 v7 v8 v9 v10 w0 w1 τ = some o → (∀ (y5 : Int32) (y6 : Int32) (y7 : Int32) (y8 : Int32) (y9 : Int32) (υ : mx_S), o = .inl (y5, y6, y7, y8, y9, υ) → ∀ (H : Heap) (locs : List Loc), mx_J G P s.heap (mxz σ) (mxu σ) υ H locs → ∀ ls : Array Slot, lv_has ls 11 [(0, .ref v0), (1, .int v1), (2, .int v2), (3, .int v3), (4, .int v4), (5, .int y5), (6, .int y6), (7, .int y7), (8, .int y8), (9, .int y9)] → W p l e (mx_rm P 5 132 σ) s m ([.ref a0, .int p1, .int p2, .int p3] : List Value).toArray below meth c H locs (mxz υ - mxz σ) (mxu υ - mxu σ) (mx_Z below G P (some (.int r)) σ σ' [.ref a0, .int p1, .int p2, .int p3] s) (F0 m 44 ls [])) → (∀ (y6 : Int32) (y7 : Int32) (y8 : Int32) (υ : mx_S), o = .inr (y6, y7, y8, υ) → ∀ (H : Heap) (locs : List Loc), mx_J G P s.heap (mxz σ) (mxu σ) υ H locs → ∀ ls : Array Slot, lv_has ls 11 [(0, .ref v0), (2, .int v2), (3, .int v3), (4, .int v4), (6, .int y6), (7, .int y7), (8, .int y8)] → W p l e (mx_rm P 5 132 σ) s m ([.ref a0, .int p1, .int p2, .int p3] : List Value).toArray below meth c H locs (mxz υ - mxz σ) (mxu υ - mxu σ) (mx_Z below G P (some (.int r)) σ σ' [.ref a0, .int p1, .int p2, .int p3] s) (F0 m 127 ls [])) → ∀ (H : Heap) (locs : List Loc), mx_J G P s.heap (mxz σ) (mxu σ) τ H locs → ∀ ls : Array Slot, lv_has ls 11 [(0, .ref v0), (1, .int v1), (2, .int v2), (3, .int v3), (4, .int v4), (5, .int v5), (7, .int v7), (8, .int v8), (9, .int v9), (10, .int v10)] → W p l e (mx_rm P 5 132 σ) s m ([.ref a0, .int p1, .int p2, .int p3] : List Value).toArray below meth c H locs (mxz τ - mxz σ) (mxu τ - mxu σ) (mx_Z below G P (some (.int r)) σ σ' [.ref a0, .int p1, .int p2, .int p3] s) (F0 m 87 ls [.int w0, .int w1]) := by
    intro v0 v1 v2 v3 v4 v5 v7 v8 v9 v10 w0 w1 τ o hf Kb Ke0 H locs hJ ls hl
    unfold f_X7_runsOf_D87_44 at hf
    refine lv_iadd hx hb dX7_runsOf_87 ?_
    obtain ⟨x27, e28, hf⟩ := mb0 hf
    refine mx_nI e28 ?_
    refine lv_istore (lv' := [(6, .int x27), (0, .ref v0), (1, .int v1), (2, .int v2), (3, .int v3), (4, .int v4), (5, .int v5), (7, .int v7), (8, .int v8), (9, .int v9), (10, .int v10)]) hx hb dX7_runsOf_88 hl (by decide) rfl (fun ls hl => ?_)
    refine lv_iload hx hb dX7_runsOf_90 (lv_at hl 10 rfl) ?_
    refine lv_if_eq (tgt := 117) hx hb dX7_runsOf_92 (by decide) (fun c29 => ?_) (fun c29 => ?_)
    · rw [if_pos c29] at hf
      exact D117_44 v0 v1 v2 v3 v4 x27 v7 v8 v9 v10 τ o hf Kb Ke0 _ _ hJ ls (lv_sub hl [1, 2, 3, 4, 5, 0, 7, 8, 9, 10] rfl)
    · rw [if_neg c29] at hf
      refine lv_iload hx hb dX7_runsOf_95 (lv_at hl 6 rfl) ?_
      refine lv_if_ne (tgt := 117) hx hb dX7_runsOf_97 (by decide) (fun c32 => ?_) (fun c32 => ?_)
      · rw [if_neg c32] at hf
        exact D117_44 v0 v1 v2 v3 v4 x27 v7 v8 v9 v10 τ o hf Kb Ke0 _ _ hJ ls (lv_sub hl [1, 2, 3, 4, 5, 0, 7, 8, 9, 10] rfl)
      · rw [if_pos c32] at hf
        obtain ⟨x33, e34, hf⟩ := mb0 hf
        refine lv_iinc (v := x33) (lv' := [(7, .int x33), (6, .int x27), (0, .ref v0), (1, .int v1), (2, .int v2), (3, .int v3), (4, .int v4), (5, .int v5), (8, .int v8), (9, .int v9), (10, .int v10)]) hx hb dX7_runsOf_100 hl (k := 7) rfl (by rw [← Option.some.inj e34]; rfl) (by decide) rfl (fun ls hl => ?_)
        refine lv_iload hx hb dX7_runsOf_103 (lv_at hl 8 rfl) ?_
        refine lv_if_ge (tgt := 113) hx hb dX7_runsOf_105 (by decide) (fun c35 => ?_) (fun c35 => ?_)
        · rw [if_pos c35] at hf
          refine lv_iload hx hb dX7_runsOf_113 (lv_at hl 8 rfl) ?_
          exact D115_44 v0 v1 v2 v3 v4 x27 x33 v9 v10 v8 τ o hf Kb Ke0 _ _ hJ ls (lv_sub hl [2, 3, 4, 5, 6, 1, 0, 9, 10] rfl)
        · rw [if_neg c35] at hf
          refine lv_iload hx hb dX7_runsOf_108 (lv_at hl 9 rfl) ?_
          refine lv_goto (tgt := 115) hx hb dX7_runsOf_110 (by decide) ?_
          exact D115_44 v0 v1 v2 v3 v4 x27 x33 v9 v10 v9 τ o hf Kb Ke0 _ _ hJ ls (lv_sub hl [2, 3, 4, 5, 6, 1, 0, 9, 10] rfl)
  have D73_44 : ∀ (v0 : Nat) (v1 : Int32) (v2 : Int32) (v3 : Int32) (v4 : Int32) (v5 : Int32) (v6 : Int32) (v7 : Int32) (v8 : Int32) (v9 : Int32) (w0 : Int32) (τ : mx_S) (o : (Int32 × Int32 × Int32 × Int32 × Int32 × mx_S) ⊕ ((Int32 × Int32 × Int32 × mx_S))), f_X7_runsOf_D73_44 P v0 v1 v2 v3 v4 v5 v6 v7 v8 v9 w0 τ = some o → (∀ (y5 : Int32) (y6 : Int32) (y7 : Int32) (y8 : Int32) (y9 : Int32) (υ : mx_S), o = .inl (y5, y6, y7, y8, y9, υ) → ∀ (H : Heap) (locs : List Loc), mx_J G P s.heap (mxz σ) (mxu σ) υ H locs → ∀ ls : Array Slot, lv_has ls 11 [(0, .ref v0), (1, .int v1), (2, .int v2), (3, .int v3), (4, .int v4), (5, .int y5), (6, .int y6), (7, .int y7), (8, .int y8), (9, .int y9)] → W p l e (mx_rm P 5 132 σ) s m ([.ref a0, .int p1, .int p2, .int p3] : List Value).toArray below meth c H locs (mxz υ - mxz σ) (mxu υ - mxu σ) (mx_Z below G P (some (.int r)) σ σ' [.ref a0, .int p1, .int p2, .int p3] s) (F0 m 44 ls [])) → (∀ (y6 : Int32) (y7 : Int32) (y8 : Int32) (υ : mx_S), o = .inr (y6, y7, y8, υ) → ∀ (H : Heap) (locs : List Loc), mx_J G P s.heap (mxz σ) (mxu σ) υ H locs → ∀ ls : Array Slot, lv_has ls 11 [(0, .ref v0), (2, .int v2), (3, .int v3), (4, .int v4), (6, .int y6), (7, .int y7), (8, .int y8)] → W p l e (mx_rm P 5 132 σ) s m ([.ref a0, .int p1, .int p2, .int p3] : List Value).toArray below meth c H locs (mxz υ - mxz σ) (mxu υ - mxu σ) (mx_Z below G P (some (.int r)) σ σ' [.ref a0, .int p1, .int p2, .int p3] s) (F0 m 127 ls [])) → ∀ (H : Heap) (locs : List Loc), mx_J G P s.heap (mxz σ) (mxu σ) τ H locs → ∀ ls : Array Slot, lv_has ls 11 [(0, .ref v0), (1, .int v1), (2, .int v2), (3, .int v3), (4, .int v4), (5, .int v5), (6, .int v6), (7, .int v7), (8, .int v8), (9, .int v9)] → W p l e (mx_rm P 5 132 σ) s m ([.ref a0, .int p1, .int p2, .int p3] : List Value).toArray below meth c H locs (mxz τ - mxz σ) (mxu τ - mxu σ) (mx_Z below G P (some (.int r)) σ σ' [.ref a0, .int p1, .int p2, .int p3] s) (F0 m 73 ls [.int w0]) := by
    intro v0 v1 v2 v3 v4 v5 v6 v7 v8 v9 w0 τ o hf Kb Ke0 H locs hJ ls hl
    unfold f_X7_runsOf_D73_44 at hf
    refine lv_istore (lv' := [(10, .int w0), (0, .ref v0), (1, .int v1), (2, .int v2), (3, .int v3), (4, .int v4), (5, .int v5), (6, .int v6), (7, .int v7), (8, .int v8), (9, .int v9)]) hx hb dX7_runsOf_73 hl (by decide) rfl (fun ls hl => ?_)
    refine lv_iload hx hb dX7_runsOf_75 (lv_at hl 7 rfl) ?_
    refine lv_iload hx hb dX7_runsOf_77 (lv_at hl 0 rfl) ?_
    refine lv_if_eq (tgt := 86) hx hb dX7_runsOf_79 (by decide) (fun c26 => ?_) (fun c26 => ?_)
    · rw [if_pos c26] at hf
      refine lv_iconst (v := 0) hx hb dX7_runsOf_86 (by decide) ?_
      exact D87_44 v0 v1 v2 v3 v4 v5 v7 v8 v9 w0 (0 : Int32) v6 τ o hf Kb Ke0 _ _ hJ ls (lv_sub hl [1, 2, 3, 4, 5, 6, 8, 9, 10, 0] rfl)
    · rw [if_neg c26] at hf
      refine lv_iconst (v := 1) hx hb dX7_runsOf_82 (by decide) ?_
      refine lv_goto (tgt := 87) hx hb dX7_runsOf_83 (by decide) ?_
      exact D87_44 v0 v1 v2 v3 v4 v5 v7 v8 v9 w0 (1 : Int32) v6 τ o hf Kb Ke0 _ _ hJ ls (lv_sub hl [1, 2, 3, 4, 5, 6, 8, 9, 10, 0] rfl)
  have B44 : ∀ (v0 : Nat) (v1 : Int32) (v2 : Int32) (v3 : Int32) (v4 : Int32) (v5 : Int32) (v6 : Int32) (v7 : Int32) (v8 : Int32) (v9 : Int32) (τ : mx_S) (o : (Int32 × Int32 × Int32 × Int32 × Int32 × mx_S) ⊕ ((Int32 × Int32 × Int32 × mx_S))), f_X7_runsOf_B44 P v0 v1 v2 v3 v4 v5 v6 v7 v8 v9 τ = some o → (∀ (y5 : Int32) (y6 : Int32) (y7 : Int32) (y8 : Int32) (y9 : Int32) (υ : mx_S), o = .inl (y5, y6, y7, y8, y9, υ) → ∀ (H : Heap) (locs : List Loc), mx_J G P s.heap (mxz σ) (mxu σ) υ H locs → ∀ ls : Array Slot, lv_has ls 11 [(0, .ref v0), (1, .int v1), (2, .int v2), (3, .int v3), (4, .int v4), (5, .int y5), (6, .int y6), (7, .int y7), (8, .int y8), (9, .int y9)] → W p l e (mx_rm P 5 132 σ) s m ([.ref a0, .int p1, .int p2, .int p3] : List Value).toArray below meth c H locs (mxz υ - mxz σ) (mxu υ - mxu σ) (mx_Z below G P (some (.int r)) σ σ' [.ref a0, .int p1, .int p2, .int p3] s) (F0 m 44 ls [])) → (∀ (y6 : Int32) (y7 : Int32) (y8 : Int32) (υ : mx_S), o = .inr (y6, y7, y8, υ) → ∀ (H : Heap) (locs : List Loc), mx_J G P s.heap (mxz σ) (mxu σ) υ H locs → ∀ ls : Array Slot, lv_has ls 11 [(0, .ref v0), (2, .int v2), (3, .int v3), (4, .int v4), (6, .int y6), (7, .int y7), (8, .int y8)] → W p l e (mx_rm P 5 132 σ) s m ([.ref a0, .int p1, .int p2, .int p3] : List Value).toArray below meth c H locs (mxz υ - mxz σ) (mxu υ - mxu σ) (mx_Z below G P (some (.int r)) σ σ' [.ref a0, .int p1, .int p2, .int p3] s) (F0 m 127 ls [])) → ∀ (H : Heap) (locs : List Loc), mx_J G P s.heap (mxz σ) (mxu σ) τ H locs → ∀ ls : Array Slot, lv_has ls 11 [(0, .ref v0), (1, .int v1), (2, .int v2), (3, .int v3), (4, .int v4), (5, .int v5), (6, .int v6), (7, .int v7), (8, .int v8), (9, .int v9)] → W p l e (mx_rm P 5 132 σ) s m ([.ref a0, .int p1, .int p2, .int p3] : List Value).toArray below meth c H locs (mxz τ - mxz σ) (mxu τ - mxu σ) (mx_Z below G P (some (.int r)) σ σ' [.ref a0, .int p1, .int p2, .int p3] s) (F0 m 44 ls []) := by
    intro v0 v1 v2 v3 v4 v5 v6 v7 v8 v9 τ o hf Kb Ke0 H locs hJ ls hl
    unfold f_X7_runsOf_B44 at hf
    refine lv_iload hx hb dX7_runsOf_44 (lv_at hl 9 rfl) ?_
    refine lv_sipush (v := 1024) hx hb dX7_runsOf_46 (by decide) ?_
    refine lv_icmp_ge (tgt := 127) hx hb dX7_runsOf_49 (by decide) (fun c15 => ?_) (fun c15 => ?_)
    · rw [if_pos c15] at hf
      exact Ke0 v6 v7 v8 τ (Option.some.inj hf).symm _ _ hJ ls (lv_sub hl [0, 2, 3, 4, 6, 7, 8] rfl)
    · rw [if_neg c15] at hf
      refine lv_aload_n hx hb dX7_runsOf_52 rfl (lv_at hl 0 rfl) ?_
      refine lv_iload_n hx hb dX7_runsOf_53 rfl (lv_at hl 2 rfl) ?_
      refine lv_iload hx hb dX7_runsOf_54 (lv_at hl 9 rfl) ?_
      obtain ⟨i16, e17, hf⟩ := mb0 hf
      obtain ⟨σ18, e19, hf⟩ := mb0 hf
      refine mx_callV (As := [.int v2, .int v9]) (rest := []) hx hb hml hts hown hK hJ rfl rfl (ci := 7) rfl e17 (c_X7_moveTo l G P v0 v2 v9 τ σ18 e19) me_X7_moveTo kw_1035 kw_1036 kw_1034 (Nat.le_of_ble_eq_true rfl) (Nat.le_of_ble_eq_true rfl) rfl hl.1 rfl (Nat.le_of_ble_eq_true rfl) dX7_runsOf_56 (fun H locs hJ => ?_)
      refine lv_aload_n hx hb dX7_runsOf_59 rfl (lv_at hl 0 rfl) ?_
      refine lv_iload_n hx hb dX7_runsOf_60 rfl (lv_at hl 1 rfl) ?_
      refine lv_iconst (v := 1) hx hb dX7_runsOf_61 (by decide) ?_
      obtain ⟨i20, e21, hf⟩ := mb0 hf
      obtain ⟨x23, σ22, e24, hf⟩ := mc0 hf
      refine mx_callV (As := [.int v1, .int (1 : Int32)]) (rest := []) hx hb hml hts hown hK hJ rfl rfl (ci := 7) rfl e21 (c_X7_look l G P v0 v1 (1 : Int32) σ18 x23 σ22 e24) me_X7_look kw_655 kw_656 kw_654 (Nat.le_of_ble_eq_true rfl) (Nat.le_of_ble_eq_true rfl) rfl hl.1 rfl (Nat.le_of_ble_eq_true rfl) dX7_runsOf_62 (fun H locs hJ => ?_)
      refine lv_if_ne (tgt := 72) hx hb dX7_runsOf_65 (by decide) (fun c25 => ?_) (fun c25 => ?_)
      · rw [if_neg c25] at hf
        refine lv_iconst (v := 0) hx hb dX7_runsOf_72 (by decide) ?_
        exact D73_44 v0 v1 v2 v3 v4 v5 v6 v7 v8 v9 (0 : Int32) σ22 o hf Kb Ke0 _ _ hJ ls (lv_sub hl [0, 1, 2, 3, 4, 5, 6, 7, 8, 9] rfl)
      · rw [if_pos c25] at hf
        refine lv_iconst (v := 1) hx hb dX7_runsOf_68 (by decide) ?_
        refine lv_goto (tgt := 73) hx hb dX7_runsOf_69 (by decide) ?_
        exact D73_44 v0 v1 v2 v3 v4 v5 v6 v7 v8 v9 (1 : Int32) σ22 o hf Kb Ke0 _ _ hJ ls (lv_sub hl [0, 1, 2, 3, 4, 5, 6, 7, 8, 9] rfl)
  have L44 : ∀ (v0 : Nat) (v1 : Int32) (v2 : Int32) (v3 : Int32) (v4 : Int32) (n : Nat) (v5 : Int32) (v6 : Int32) (v7 : Int32) (v8 : Int32) (v9 : Int32) (τ : mx_S) (o : (Int32 × Int32 × Int32 × mx_S)), mx_lp (f_X7_runsOf_L44 P v0 v1 v2 v3 v4) n (v5, v6, v7, v8, v9, τ) = some o → (∀ (y6 : Int32) (y7 : Int32) (y8 : Int32) (υ : mx_S), o = (y6, y7, y8, υ) → ∀ (H : Heap) (locs : List Loc), mx_J G P s.heap (mxz σ) (mxu σ) υ H locs → ∀ ls : Array Slot, lv_has ls 11 [(0, .ref v0), (2, .int v2), (3, .int v3), (4, .int v4), (6, .int y6), (7, .int y7), (8, .int y8)] → W p l e (mx_rm P 5 132 σ) s m ([.ref a0, .int p1, .int p2, .int p3] : List Value).toArray below meth c H locs (mxz υ - mxz σ) (mxu υ - mxu σ) (mx_Z below G P (some (.int r)) σ σ' [.ref a0, .int p1, .int p2, .int p3] s) (F0 m 127 ls [])) → ∀ (H : Heap) (locs : List Loc), mx_J G P s.heap (mxz σ) (mxu σ) τ H locs → ∀ ls : Array Slot, lv_has ls 11 [(0, .ref v0), (1, .int v1), (2, .int v2), (3, .int v3), (4, .int v4), (5, .int v5), (6, .int v6), (7, .int v7), (8, .int v8), (9, .int v9)] → W p l e (mx_rm P 5 132 σ) s m ([.ref a0, .int p1, .int p2, .int p3] : List Value).toArray below meth c H locs (mxz τ - mxz σ) (mxu τ - mxu σ) (mx_Z below G P (some (.int r)) σ σ' [.ref a0, .int p1, .int p2, .int p3] s) (F0 m 44 ls []) := by
    intro v0 v1 v2 v3 v4 n
    induction n with
    | zero =>
      intro v5 v6 v7 v8 v9 τ o hf
      rw [mx_lp0] at hf
      cases hf
    | succ n ih =>
      intro v5 v6 v7 v8 v9 τ o hf Ke0 H locs hJ ls hl
      rw [mx_lpS] at hf
      obtain ⟨b, eb, hf⟩ := mb0 hf
      refine B44 v0 v1 v2 v3 v4 v5 v6 v7 v8 v9 τ b eb (fun y5 y6 y7 y8 y9 υ ho H locs hJ ls hl => ?_) (fun y6 y7 y8 υ ho H locs hJ ls hl => ?_) H locs hJ ls hl
      · subst ho
        exact ih y5 y6 y7 y8 y9 υ o hf Ke0 H locs hJ ls hl
      · subst ho
        exact Ke0 y6 y7 y8 υ (Option.some.inj hf).symm _ _ hJ ls hl
  have D172 : ∀ (w0 : Int32) (τ : mx_S), f_X7_runsOf_D172 P w0 τ = some (r, σ') → ∀ (H : Heap) (locs : List Loc), mx_J G P s.heap (mxz σ) (mxu σ) τ H locs → ∀ ls : Array Slot, lv_has ls 11 [] → W p l e (mx_rm P 5 132 σ) s m ([.ref a0, .int p1, .int p2, .int p3] : List Value).toArray below meth c H locs (mxz τ - mxz σ) (mxu τ - mxu σ) (mx_Z below G P (some (.int r)) σ σ' [.ref a0, .int p1, .int p2, .int p3] s) (F0 m 172 ls [.int w0]) := by
    intro w0 τ hf _ _ hJ ls hl
    unfold f_X7_runsOf_D172 at hf
    exact my_iret hx hb hr hlocks hJ hf dX7_runsOf_172
  have D159 : ∀ (w0 : Int32) (τ : mx_S), f_X7_runsOf_D159 P w0 τ = some (r, σ') → ∀ (H : Heap) (locs : List Loc), mx_J G P s.heap (mxz σ) (mxu σ) τ H locs → ∀ ls : Array Slot, lv_has ls 11 [] → W p l e (mx_rm P 5 132 σ) s m ([.ref a0, .int p1, .int p2, .int p3] : List Value).toArray below meth c H locs (mxz τ - mxz σ) (mxu τ - mxu σ) (mx_Z below G P (some (.int r)) σ σ' [.ref a0, .int p1, .int p2, .int p3] s) (F0 m 159 ls [.int w0]) := by
    intro w0 τ hf _ _ hJ ls hl
    unfold f_X7_runsOf_D159 at hf
    exact my_iret hx hb hr hlocks hJ hf dX7_runsOf_159
  have D30 : ∀ (v0 : Nat) (v1 : Int32) (v2 : Int32) (v3 : Int32) (v4 : Int32) (w0 : Int32) (τ : mx_S), f_X7_runsOf_D30 P v0 v1 v2 v3 v4 w0 τ = some (r, σ') → ∀ (H : Heap) (locs : List Loc), mx_J G P s.heap (mxz σ) (mxu σ) τ H locs → ∀ ls : Array Slot, lv_has ls 11 [(0, .ref v0), (1, .int v1), (2, .int v2), (3, .int v3), (4, .int v4)] → W p l e (mx_rm P 5 132 σ) s m ([.ref a0, .int p1, .int p2, .int p3] : List Value).toArray below meth c H locs (mxz τ - mxz σ) (mxu τ - mxu σ) (mx_Z below G P (some (.int r)) σ σ' [.ref a0, .int p1, .int p2, .int p3] s) (F0 m 30 ls [.int w0]) := by
    intro v0 v1 v2 v3 v4 w0 τ hf _ _ hJ ls hl
    unfold f_X7_runsOf_D30 at hf
    refine lv_istore (lv' := [(5, .int w0), (0, .ref v0), (1, .int v1), (2, .int v2), (3, .int v3), (4, .int v4)]) hx hb dX7_runsOf_30 hl (by decide) rfl (fun ls hl => ?_)
    refine lv_iconst (v := 0) hx hb dX7_runsOf_32 (by decide) ?_
    refine lv_istore (lv' := [(6, .int (0 : Int32)), (5, .int w0), (0, .ref v0), (1, .int v1), (2, .int v2), (3, .int v3), (4, .int v4)]) hx hb dX7_runsOf_33 hl (by decide) rfl (fun ls hl => ?_)
    refine lv_iconst (v := 0) hx hb dX7_runsOf_35 (by decide) ?_
    refine lv_istore (lv' := [(7, .int (0 : Int32)), (6, .int (0 : Int32)), (5, .int w0), (0, .ref v0), (1, .int v1), (2, .int v2), (3, .int v3), (4, .int v4)]) hx hb dX7_runsOf_36 hl (by decide) rfl (fun ls hl => ?_)
    refine lv_iconst (v := (-1)) hx hb dX7_runsOf_38 (by decide) ?_
    refine lv_istore (lv' := [(8, .int (-1 : Int32)), (7, .int (0 : Int32)), (6, .int (0 : Int32)), (5, .int w0), (0, .ref v0), (1, .int v1), (2, .int v2), (3, .int v3), (4, .int v4)]) hx hb dX7_runsOf_39 hl (by decide) rfl (fun ls hl => ?_)
    refine lv_iconst (v := 0) hx hb dX7_runsOf_41 (by decide) ?_
    refine lv_istore (lv' := [(9, .int (0 : Int32)), (8, .int (-1 : Int32)), (7, .int (0 : Int32)), (6, .int (0 : Int32)), (5, .int w0), (0, .ref v0), (1, .int v1), (2, .int v2), (3, .int v3), (4, .int v4)]) hx hb dX7_runsOf_42 hl (by decide) rfl (fun ls hl => ?_)
    obtain ⟨o36, e37, hf⟩ := mb0 hf
    refine L44 v0 v1 v2 v3 v4 (mpN P) w0 (0 : Int32) (0 : Int32) (-1 : Int32) (0 : Int32) τ o36 e37 (fun y38 y39 y40 σ41 ho H locs hJ ls hl => ?_) _ _ hJ ls (lv_sub hl [5, 6, 7, 8, 9, 4, 3, 2, 1, 0] rfl)
    · rw [ho] at hf
      have hf : ((mx_is σ41 v0 7).bind fun i42 => (f_X7_moveTo P v0 v2 v4 σ41).bind fun σ44 => (if v3 = 0 then some (y38, σ44) else (if y38 = (1024 : Int32) then (if v3 = (1 : Int32) then f_X7_runsOf_D159 P (1 : Int32) σ44 else f_X7_runsOf_D159 P (0 : Int32) σ44) else (if v3 = (1 : Int32) then f_X7_runsOf_D172 P y39 σ44 else f_X7_runsOf_D172 P y40 σ44)))) = some (r, σ') := hf
      refine lv_aload_n hx hb dX7_runsOf_127 rfl (lv_at hl 0 rfl) ?_
      refine lv_iload_n hx hb dX7_runsOf_128 rfl (lv_at hl 1 rfl) ?_
      refine lv_iload hx hb dX7_runsOf_129 (lv_at hl 3 rfl) ?_
      obtain ⟨i42, e43, hf⟩ := mb0 hf
      obtain ⟨σ44, e45, hf⟩ := mb0 hf
      refine mx_callV (As := [.int v2, .int v4]) (rest := []) hx hb hml hts hown hK hJ rfl rfl (ci := 7) rfl e43 (c_X7_moveTo l G P v0 v2 v4 σ41 σ44 e45) me_X7_moveTo kw_1035 kw_1036 kw_1034 (Nat.le_of_ble_eq_true rfl) (Nat.le_of_ble_eq_true rfl) rfl hl.1 rfl (Nat.le_of_ble_eq_true rfl) dX7_runsOf_131 (fun H locs hJ => ?_)
      refine lv_iload_n hx hb dX7_runsOf_134 rfl (lv_at hl 2 rfl) ?_
      refine lv_if_ne (tgt := 141) hx hb dX7_runsOf_135 (by decide) (fun c46 => ?_) (fun c46 => ?_)
      · rw [if_neg c46] at hf
        refine lv_iload hx hb dX7_runsOf_141 (lv_at hl 4 rfl) ?_
        refine lv_sipush (v := 1024) hx hb dX7_runsOf_143 (by decide) ?_
        refine lv_icmp_ne (tgt := 160) hx hb dX7_runsOf_146 (by decide) (fun c47 => ?_) (fun c47 => ?_)
        · rw [if_neg c47] at hf
          refine lv_iload_n hx hb dX7_runsOf_160 rfl (lv_at hl 2 rfl) ?_
          refine lv_iconst (v := 1) hx hb dX7_runsOf_161 (by decide) ?_
          refine lv_icmp_ne (tgt := 170) hx hb dX7_runsOf_162 (by decide) (fun c48 => ?_) (fun c48 => ?_)
          · rw [if_neg c48] at hf
            refine lv_iload hx hb dX7_runsOf_170 (lv_at hl 6 rfl) ?_
            exact D172 y40 σ44 hf _ _ hJ ls (lv_sub hl [] rfl)
          · rw [if_pos c48] at hf
            refine lv_iload hx hb dX7_runsOf_165 (lv_at hl 5 rfl) ?_
            refine lv_goto (tgt := 172) hx hb dX7_runsOf_167 (by decide) ?_
            exact D172 y39 σ44 hf _ _ hJ ls (lv_sub hl [] rfl)
        · rw [if_pos c47] at hf
          refine lv_iload_n hx hb dX7_runsOf_149 rfl (lv_at hl 2 rfl) ?_
          refine lv_iconst (v := 1) hx hb dX7_runsOf_150 (by decide) ?_
          refine lv_icmp_ne (tgt := 158) hx hb dX7_runsOf_151 (by decide) (fun c49 => ?_) (fun c49 => ?_)
          · rw [if_neg c49] at hf
            refine lv_iconst (v := 0) hx hb dX7_runsOf_158 (by decide) ?_
            exact D159 (0 : Int32) σ44 hf _ _ hJ ls (lv_sub hl [] rfl)
          · rw [if_pos c49] at hf
            refine lv_iconst (v := 1) hx hb dX7_runsOf_154 (by decide) ?_
            refine lv_goto (tgt := 159) hx hb dX7_runsOf_155 (by decide) ?_
            exact D159 (1 : Int32) σ44 hf _ _ hJ ls (lv_sub hl [] rfl)
      · rw [if_pos c46] at hf
        refine lv_iload hx hb dX7_runsOf_138 (lv_at hl 4 rfl) ?_
        exact my_iret hx hb hr hlocks hJ hf dX7_runsOf_140
  unfold f_X7_runsOf at hf
  refine lv_aload_n hx hb dX7_runsOf_0 rfl (lv_at hl 0 rfl) ?_
  obtain ⟨b1, e2, hf⟩ := mb0 hf
  refine my_gR hx hb hts hown hK hJ fd_RX7_20 hv_7_4 e2 dX7_runsOf_1 ?_
  refine lv_iload_n hx hb dX7_runsOf_4 rfl (lv_at hl 2 rfl) ?_
  obtain ⟨x3, e4, hf⟩ := mb0 hf
  refine mx_aI hx hb hK hJ e4 dX7_runsOf_5 ?_
  refine lv_istore (lv' := [(4, .int x3), (0, .ref a0), (1, .int p1), (2, .int p2), (3, .int p3)]) hx hb dX7_runsOf_6 hl (by decide) rfl (fun ls hl => ?_)
  refine lv_aload_n hx hb dX7_runsOf_8 rfl (lv_at hl 1 rfl) ?_
  refine lv_iload_n hx hb dX7_runsOf_9 rfl (lv_at hl 3 rfl) ?_
  refine lv_sipush (v := 1023) hx hb dX7_runsOf_10 (by decide) ?_
  obtain ⟨i5, e6, hf⟩ := mb0 hf
  obtain ⟨σ7, e8, hf⟩ := mb0 hf
  refine mx_callV (As := [.int p2, .int (1023 : Int32)]) (rest := []) hx hb hml hts hown hK hJ rfl rfl (ci := 7) rfl e6 (c_X7_moveTo l G P a0 p2 (1023 : Int32) σ σ7 e8) me_X7_moveTo kw_1035 kw_1036 kw_1034 (Nat.le_of_ble_eq_true rfl) (Nat.le_of_ble_eq_true rfl) rfl hl.1 rfl (Nat.le_of_ble_eq_true rfl) dX7_runsOf_13 (fun H locs hJ => ?_)
  refine lv_aload_n hx hb dX7_runsOf_16 rfl (lv_at hl 1 rfl) ?_
  refine lv_iload_n hx hb dX7_runsOf_17 rfl (lv_at hl 2 rfl) ?_
  refine lv_iconst (v := 1) hx hb dX7_runsOf_18 (by decide) ?_
  obtain ⟨i9, e10, hf⟩ := mb0 hf
  obtain ⟨x12, σ11, e13, hf⟩ := mc0 hf
  refine mx_callV (As := [.int p1, .int (1 : Int32)]) (rest := []) hx hb hml hts hown hK hJ rfl rfl (ci := 7) rfl e10 (c_X7_look l G P a0 p1 (1 : Int32) σ7 x12 σ11 e13) me_X7_look kw_655 kw_656 kw_654 (Nat.le_of_ble_eq_true rfl) (Nat.le_of_ble_eq_true rfl) rfl hl.1 rfl (Nat.le_of_ble_eq_true rfl) dX7_runsOf_19 (fun H locs hJ => ?_)
  refine lv_if_ne (tgt := 29) hx hb dX7_runsOf_22 (by decide) (fun c14 => ?_) (fun c14 => ?_)
  · rw [if_neg c14] at hf
    refine lv_iconst (v := 0) hx hb dX7_runsOf_29 (by decide) ?_
    exact D30 a0 p1 p2 p3 x3 (0 : Int32) σ11 hf _ _ hJ ls (lv_sub hl [1, 2, 3, 4, 0] rfl)
  · rw [if_pos c14] at hf
    refine lv_iconst (v := 1) hx hb dX7_runsOf_25 (by decide) ?_
    refine lv_goto (tgt := 30) hx hb dX7_runsOf_26 (by decide) ?_
    exact D30 a0 p1 p2 p3 x3 (1 : Int32) σ11 hf _ _ hJ ls (lv_sub hl [1, 2, 3, 4, 0] rfl)
set_option maxHeartbeats 4000000 in
set_option maxRecDepth 100000 in
theorem c_X7_sweep (l : Launch) (G : mx_G) (P : mx_P) (a0 : Nat) (p1 : Int32) (p2 : Int32) (p3 : Int32) (p4 : Int32) (σ : mx_S) (σ' : mx_S) (hf : f_X7_sweep P a0 p1 p2 p3 p4 σ = some σ') : mxz σ ≤ mpc P → mxu σ ≤ mps P → mx_M l yX7_sweep cX7_sweep 9 none 5 132 G P [.ref a0, .int p1, .int p2, .int p3, .int p4] σ none σ' := by
  intro hcap hcau
  refine mx_ofW (by decide +kernel) hcap hcau (Nat.le_of_ble_eq_true rfl) ?_
  intro p e s m below meth c hx hb hr hml hts hown hlocks hname hK hJ ls hl
  have hz0 := hJ.2.1
  have hown : s.vm.findClass RX7 = some m.cls := hown
  have hl : lv_has ls 9 [(0, .ref a0), (1, .int p1), (2, .int p2), (3, .int p3), (4, .int p4)] := hl
  have D148_52 : ∀ (v0 : Nat) (v1 : Int32) (v2 : Int32) (v5 : Int32) (v6 : Nat) (v7 : Int32) (τ : mx_S) (o : (Int32 × mx_S) ⊕ ((mx_S))), f_X7_sweep_D148_52 P v0 v1 v2 v5 v6 v7 τ = some o → (∀ (y7 : Int32) (υ : mx_S), o = .inl (y7, υ) → ∀ (H : Heap) (locs : List Loc), mx_J G P s.heap (mxz σ) (mxu σ) υ H locs → ∀ ls : Array Slot, lv_has ls 9 [(0, .ref v0), (1, .int v1), (2, .int v2), (5, .int v5), (6, .ref v6), (7, .int y7)] → W p l e (mx_rm P 5 132 σ) s m ([.ref a0, .int p1, .int p2, .int p3, .int p4] : List Value).toArray below meth c H locs (mxz υ - mxz σ) (mxu υ - mxu σ) (mx_Z below G P none σ σ' [.ref a0, .int p1, .int p2, .int p3, .int p4] s) (F0 m 52 ls [])) → (∀  (υ : mx_S), o = .inr υ → ∀ (H : Heap) (locs : List Loc), mx_J G P s.heap (mxz σ) (mxu σ) υ H locs → ∀ ls : Array Slot, lv_has ls 9 [(0, .ref v0), (2, .int v2), (5, .int v5)] → W p l e (mx_rm P 5 132 σ) s m ([.ref a0, .int p1, .int p2, .int p3, .int p4] : List Value).toArray below meth c H locs (mxz υ - mxz σ) (mxu υ - mxu σ) (mx_Z below G P none σ σ' [.ref a0, .int p1, .int p2, .int p3, .int p4] s) (F0 m 154 ls [])) → ∀ (H : Heap) (locs : List Loc), mx_J G P s.heap (mxz σ) (mxu σ) τ H locs → ∀ ls : Array Slot, lv_has ls 9 [(0, .ref v0), (1, .int v1), (2, .int v2), (5, .int v5), (6, .ref v6), (7, .int v7)] → W p l e (mx_rm P 5 132 σ) s m ([.ref a0, .int p1, .int p2, .int p3, .int p4] : List Value).toArray below meth c H locs (mxz τ - mxz σ) (mxu τ - mxu σ) (mx_Z below G P none σ σ' [.ref a0, .int p1, .int p2, .int p3, .int p4] s) (F0 m 148 ls []) := by
    intro v0 v1 v2 v5 v6 v7 τ o hf Kb Ke0 H locs hJ ls hl
    unfold f_X7_sweep_D148_52 at hf
    obtain ⟨x31, e32, hf⟩ := mb0 hf
    refine lv_iinc (v := x31) (lv' := [(7, .int x31), (0, .ref v0), (1, .int v1), (2, .int v2), (5, .int v5), (6, .ref v6)]) hx hb dX7_sweep_148 hl (k := 5) rfl (by rw [← Option.some.inj e32]; rfl) (by decide) rfl (fun ls hl => ?_)
    refine lv_goto (tgt := 52) hx hb dX7_sweep_151 (by decide) ?_
    exact Kb x31 τ (Option.some.inj hf).symm _ _ hJ ls (lv_sub hl [1, 2, 3, 4, 5, 0] rfl)
  have D145_52 : ∀ (v0 : Nat) (v1 : Int32) (v2 : Int32) (v5 : Int32) (v6 : Nat) (v7 : Int32) (w0 : Int64) (w1 : Int64) (w2 : Nat) (τ : mx_S) (o : (Int32 × mx_S) ⊕ ((mx_S))), f_X7_sweep_D145_52 P v0 v1 v2 v5 v6 v7 w0 w1 w2 τ = some o → (∀ (y7 : Int32) (υ : mx_S), o = .inl (y7, υ) → ∀ (H : Heap) (locs : List Loc), mx_J G P s.heap (mxz σ) (mxu σ) υ H locs → ∀ ls : Array Slot, lv_has ls 9 [(0, .ref v0), (1, .int v1), (2, .int v2), (5, .int v5), (6, .ref v6), (7, .int y7)] → W p l e (mx_rm P 5 132 σ) s m ([.ref a0, .int p1, .int p2, .int p3, .int p4] : List Value).toArray below meth c H locs (mxz υ - mxz σ) (mxu υ - mxu σ) (mx_Z below G P none σ σ' [.ref a0, .int p1, .int p2, .int p3, .int p4] s) (F0 m 52 ls [])) → (∀  (υ : mx_S), o = .inr υ → ∀ (H : Heap) (locs : List Loc), mx_J G P s.heap (mxz σ) (mxu σ) υ H locs → ∀ ls : Array Slot, lv_has ls 9 [(0, .ref v0), (2, .int v2), (5, .int v5)] → W p l e (mx_rm P 5 132 σ) s m ([.ref a0, .int p1, .int p2, .int p3, .int p4] : List Value).toArray below meth c H locs (mxz υ - mxz σ) (mxu υ - mxu σ) (mx_Z below G P none σ σ' [.ref a0, .int p1, .int p2, .int p3, .int p4] s) (F0 m 154 ls [])) → ∀ (H : Heap) (locs : List Loc), mx_J G P s.heap (mxz σ) (mxu σ) τ H locs → ∀ ls : Array Slot, lv_has ls 9 [(0, .ref v0), (1, .int v1), (2, .int v2), (5, .int v5), (6, .ref v6), (7, .int v7)] → W p l e (mx_rm P 5 132 σ) s m ([.ref a0, .int p1, .int p2, .int p3, .int p4] : List Value).toArray below meth c H locs (mxz τ - mxz σ) (mxu τ - mxu σ) (mx_Z below G P none σ σ' [.ref a0, .int p1, .int p2, .int p3, .int p4] s) (F0 m 145 ls [.long w0, .long w1, .ref w2]) := by
    intro v0 v1 v2 v5 v6 v7 w0 w1 w2 τ o hf Kb Ke0 H locs hJ ls hl
    unfold f_X7_sweep_D145_52 at hf
    obtain ⟨i59, e60, hf⟩ := mb0 hf
    obtain ⟨σ61, e62, hf⟩ := mb0 hf
    refine mx_callV (As := [.long w1, .long w0]) (rest := []) hx hb hml hts hown hK hJ rfl rfl (ci := 0) rfl e60 (c_X0_keep l G P w2 w1 w0 τ σ61 e62) me_X0_keep kw_480 kw_481 kw_479 (Nat.le_of_ble_eq_true rfl) (Nat.le_of_ble_eq_true rfl) rfl hl.1 rfl (Nat.le_of_ble_eq_true rfl) dX7_sweep_145 (fun H locs hJ => ?_)
    exact D148_52 v0 v1 v2 v5 v6 v7 σ61 o hf Kb Ke0 _ _ hJ ls (lv_sub hl [0, 1, 2, 3, 4, 5] rfl)
  have D117_52 : ∀ (v0 : Nat) (v1 : Int32) (v2 : Int32) (v5 : Int32) (v6 : Nat) (v7 : Int32) (v8 : Int32) (w0 : Int64) (w1 : Nat) (τ : mx_S) (o : (Int32 × mx_S) ⊕ ((mx_S))), f_X7_sweep_D117_52 P v0 v1 v2 v5 v6 v7 v8 w0 w1 τ = some o → (∀ (y7 : Int32) (υ : mx_S), o = .inl (y7, υ) → ∀ (H : Heap) (locs : List Loc), mx_J G P s.heap (mxz σ) (mxu σ) υ H locs → ∀ ls : Array Slot, lv_has ls 9 [(0, .ref v0), (1, .int v1), (2, .int v2), (5, .int v5), (6, .ref v6), (7, .int y7)] → W p l e (mx_rm P 5 132 σ) s m ([.ref a0, .int p1, .int p2, .int p3, .int p4] : List Value).toArray below meth c H locs (mxz υ - mxz σ) (mxu υ - mxu σ) (mx_Z below G P none σ σ' [.ref a0, .int p1, .int p2, .int p3, .int p4] s) (F0 m 52 ls [])) → (∀  (υ : mx_S), o = .inr υ → ∀ (H : Heap) (locs : List Loc), mx_J G P s.heap (mxz σ) (mxu σ) υ H locs → ∀ ls : Array Slot, lv_has ls 9 [(0, .ref v0), (2, .int v2), (5, .int v5)] → W p l e (mx_rm P 5 132 σ) s m ([.ref a0, .int p1, .int p2, .int p3, .int p4] : List Value).toArray below meth c H locs (mxz υ - mxz σ) (mxu υ - mxu σ) (mx_Z below G P none σ σ' [.ref a0, .int p1, .int p2, .int p3, .int p4] s) (F0 m 154 ls [])) → ∀ (H : Heap) (locs : List Loc), mx_J G P s.heap (mxz σ) (mxu σ) τ H locs → ∀ ls : Array Slot, lv_has ls 9 [(0, .ref v0), (1, .int v1), (2, .int v2), (5, .int v5), (6, .ref v6), (7, .int v7), (8, .int v8)] → W p l e (mx_rm P 5 132 σ) s m ([.ref a0, .int p1, .int p2, .int p3, .int p4] : List Value).toArray below meth c H locs (mxz τ - mxz σ) (mxu τ - mxu σ) (mx_Z below G P none σ σ' [.ref a0, .int p1, .int p2, .int p3, .int p4] s) (F0 m 117 ls [.long w0, .ref w1]) := by
    intro v0 v1 v2 v5 v6 v7 v8 w0 w1 τ o hf Kb Ke0 H locs hJ ls hl
    unfold f_X7_sweep_D117_52 at hf
    refine lv_iload hx hb dX7_sweep_117 (lv_at hl 6 rfl) ?_
    refine lv_if_eq (tgt := 130) hx hb dX7_sweep_119 (by decide) (fun c49 => ?_) (fun c49 => ?_)
    · rw [if_pos c49] at hf
      refine lv_aload_n hx hb dX7_sweep_130 rfl (lv_at hl 0 rfl) ?_
      obtain ⟨b50, e51, hf⟩ := mb0 hf
      refine my_gR hx hb hts hown hK hJ fd_RX7_74 hv_7_19 e51 dX7_sweep_131 ?_
      obtain ⟨x52, e53, hf⟩ := mb0 hf
      refine my_gL hx hb hts hown hK hJ fd_RX7_329 hv_0_1 e53 dX7_sweep_134 ?_
      refine lv_aload hx hb dX7_sweep_137 (lv_at hl 4 rfl) ?_
      obtain ⟨x54, e55, hf⟩ := mb0 hf
      refine my_gL hx hb hts hown hK hJ fd_RX7_329 hv_0_1 e55 dX7_sweep_139 ?_
      obtain ⟨x57, σ56, e58, hf⟩ := mc0 hf
      refine mx_callS (As := [.long x52, .long x54]) (rest := [.long w0, .ref w1]) hx hb hml hts hown hK hJ rfl rfl (c_J9_max_f86c9 l G P x52 x54 τ x57 σ56 e58) me_J9_max_f86c9 kw_712 kw_1334 (Nat.le_of_ble_eq_true rfl) (Nat.le_of_ble_eq_true rfl) rfl hl.1 rfl (Nat.le_of_ble_eq_true rfl) dX7_sweep_142 (fun H locs hJ => ?_)
      exact D145_52 v0 v1 v2 v5 v6 v7 x57 w0 w1 σ56 o hf Kb Ke0 _ _ hJ ls (lv_sub hl [0, 1, 2, 3, 4, 5] rfl)
    · rw [if_neg c49] at hf
      refine lv_aload hx hb dX7_sweep_122 (lv_at hl 4 rfl) ?_
      obtain ⟨x63, e64, hf⟩ := mb0 hf
      refine my_gL hx hb hts hown hK hJ fd_RX7_329 hv_0_1 e64 dX7_sweep_124 ?_
      refine lv_goto (tgt := 145) hx hb dX7_sweep_127 (by decide) ?_
      exact D145_52 v0 v1 v2 v5 v6 v7 x63 w0 w1 τ o hf Kb Ke0 _ _ hJ ls (lv_sub hl [0, 1, 2, 3, 4, 5] rfl)
  have B52 : ∀ (v0 : Nat) (v1 : Int32) (v2 : Int32) (v5 : Int32) (v6 : Nat) (v7 : Int32) (τ : mx_S) (o : (Int32 × mx_S) ⊕ ((mx_S))), f_X7_sweep_B52 P v0 v1 v2 v5 v6 v7 τ = some o → (∀ (y7 : Int32) (υ : mx_S), o = .inl (y7, υ) → ∀ (H : Heap) (locs : List Loc), mx_J G P s.heap (mxz σ) (mxu σ) υ H locs → ∀ ls : Array Slot, lv_has ls 9 [(0, .ref v0), (1, .int v1), (2, .int v2), (5, .int v5), (6, .ref v6), (7, .int y7)] → W p l e (mx_rm P 5 132 σ) s m ([.ref a0, .int p1, .int p2, .int p3, .int p4] : List Value).toArray below meth c H locs (mxz υ - mxz σ) (mxu υ - mxu σ) (mx_Z below G P none σ σ' [.ref a0, .int p1, .int p2, .int p3, .int p4] s) (F0 m 52 ls [])) → (∀  (υ : mx_S), o = .inr υ → ∀ (H : Heap) (locs : List Loc), mx_J G P s.heap (mxz σ) (mxu σ) υ H locs → ∀ ls : Array Slot, lv_has ls 9 [(0, .ref v0), (2, .int v2), (5, .int v5)] → W p l e (mx_rm P 5 132 σ) s m ([.ref a0, .int p1, .int p2, .int p3, .int p4] : List Value).toArray below meth c H locs (mxz υ - mxz σ) (mxu υ - mxu σ) (mx_Z below G P none σ σ' [.ref a0, .int p1, .int p2, .int p3, .int p4] s) (F0 m 154 ls [])) → ∀ (H : Heap) (locs : List Loc), mx_J G P s.heap (mxz σ) (mxu σ) τ H locs → ∀ ls : Array Slot, lv_has ls 9 [(0, .ref v0), (1, .int v1), (2, .int v2), (5, .int v5), (6, .ref v6), (7, .int v7)] → W p l e (mx_rm P 5 132 σ) s m ([.ref a0, .int p1, .int p2, .int p3, .int p4] : List Value).toArray below meth c H locs (mxz τ - mxz σ) (mxu τ - mxu σ) (mx_Z below G P none σ σ' [.ref a0, .int p1, .int p2, .int p3, .int p4] s) (F0 m 52 ls []) := by
    intro v0 v1 v2 v5 v6 v7 τ o hf Kb Ke0 H locs hJ ls hl
    unfold f_X7_sweep_B52 at hf
    refine lv_iload hx hb dX7_sweep_52 (lv_at hl 5 rfl) ?_
    refine lv_sipush (v := 1024) hx hb dX7_sweep_54 (by decide) ?_
    refine lv_icmp_ge (tgt := 154) hx hb dX7_sweep_57 (by decide) (fun c20 => ?_) (fun c20 => ?_)
    · rw [if_pos c20] at hf
      exact Ke0 τ (Option.some.inj hf).symm _ _ hJ ls (lv_sub hl [0, 2, 3] rfl)
    · rw [if_neg c20] at hf
      refine lv_aload_n hx hb dX7_sweep_60 rfl (lv_at hl 0 rfl) ?_
      refine lv_iload_n hx hb dX7_sweep_61 rfl (lv_at hl 2 rfl) ?_
      refine lv_iload hx hb dX7_sweep_62 (lv_at hl 5 rfl) ?_
      obtain ⟨i21, e22, hf⟩ := mb0 hf
      obtain ⟨σ23, e24, hf⟩ := mb0 hf
      refine mx_callV (As := [.int v2, .int v7]) (rest := []) hx hb hml hts hown hK hJ rfl rfl (ci := 7) rfl e22 (c_X7_moveTo l G P v0 v2 v7 τ σ23 e24) me_X7_moveTo kw_1035 kw_1036 kw_1034 (Nat.le_of_ble_eq_true rfl) (Nat.le_of_ble_eq_true rfl) rfl hl.1 rfl (Nat.le_of_ble_eq_true rfl) dX7_sweep_64 (fun H locs hJ => ?_)
      refine lv_aload_n hx hb dX7_sweep_67 rfl (lv_at hl 0 rfl) ?_
      refine lv_iload_n hx hb dX7_sweep_68 rfl (lv_at hl 1 rfl) ?_
      refine lv_iconst (v := 1) hx hb dX7_sweep_69 (by decide) ?_
      obtain ⟨i25, e26, hf⟩ := mb0 hf
      obtain ⟨x28, σ27, e29, hf⟩ := mc0 hf
      refine mx_callV (As := [.int v1, .int (1 : Int32)]) (rest := []) hx hb hml hts hown hK hJ rfl rfl (ci := 7) rfl e26 (c_X7_look l G P v0 v1 (1 : Int32) σ23 x28 σ27 e29) me_X7_look kw_655 kw_656 kw_654 (Nat.le_of_ble_eq_true rfl) (Nat.le_of_ble_eq_true rfl) rfl hl.1 rfl (Nat.le_of_ble_eq_true rfl) dX7_sweep_70 (fun H locs hJ => ?_)
      refine lv_if_ne (tgt := 148) hx hb dX7_sweep_73 (by decide) (fun c30 => ?_) (fun c30 => ?_)
      · rw [if_neg c30] at hf
        exact D148_52 v0 v1 v2 v5 v6 v7 σ27 o hf Kb Ke0 _ _ hJ ls (lv_sub hl [0, 1, 2, 3, 4, 5] rfl)
      · rw [if_pos c30] at hf
        refine lv_aload_n hx hb dX7_sweep_76 rfl (lv_at hl 0 rfl) ?_
        obtain ⟨b33, e34, hf⟩ := mb0 hf
        refine my_gR hx hb hts hown hK hJ fd_RX7_74 hv_7_19 e34 dX7_sweep_77 ?_
        obtain ⟨x35, e36, hf⟩ := mb0 hf
        refine my_gI hx hb hts hown hK hJ fd_RX7_323 hv_0_2 e36 dX7_sweep_80 ?_
        refine lv_istore (lv' := [(8, .int x35), (0, .ref v0), (1, .int v1), (2, .int v2), (5, .int v5), (6, .ref v6), (7, .int v7)]) hx hb dX7_sweep_83 hl (by decide) rfl (fun ls hl => ?_)
        refine lv_aload_n hx hb dX7_sweep_85 rfl (lv_at hl 1 rfl) ?_
        obtain ⟨b37, e38, hf⟩ := mb0 hf
        refine my_gR hx hb hts hown hK hJ fd_RX7_74 hv_7_19 e38 dX7_sweep_86 ?_
        refine lv_iload hx hb dX7_sweep_89 (lv_at hl 0 rfl) ?_
        refine lv_if_eq (tgt := 102) hx hb dX7_sweep_91 (by decide) (fun c39 => ?_) (fun c39 => ?_)
        · rw [if_pos c39] at hf
          refine lv_aload_n hx hb dX7_sweep_102 rfl (lv_at hl 1 rfl) ?_
          obtain ⟨b40, e41, hf⟩ := mb0 hf
          refine my_gR hx hb hts hown hK hJ fd_RX7_74 hv_7_19 e41 dX7_sweep_103 ?_
          obtain ⟨x42, e43, hf⟩ := mb0 hf
          refine my_gL hx hb hts hown hK hJ fd_RX7_326 hv_0_0 e43 dX7_sweep_106 ?_
          refine lv_aload hx hb dX7_sweep_109 (lv_at hl 5 rfl) ?_
          obtain ⟨x44, e45, hf⟩ := mb0 hf
          refine my_gL hx hb hts hown hK hJ fd_RX7_326 hv_0_0 e45 dX7_sweep_111 ?_
          obtain ⟨x47, σ46, e48, hf⟩ := mc0 hf
          refine mx_callS (As := [.long x42, .long x44]) (rest := [.ref b37]) hx hb hml hts hown hK hJ rfl rfl (c_J9_min_f86c9 l G P x42 x44 σ27 x47 σ46 e48) me_J9_min_f86c9 kw_709 kw_1333 (Nat.le_of_ble_eq_true rfl) (Nat.le_of_ble_eq_true rfl) rfl hl.1 rfl (Nat.le_of_ble_eq_true rfl) dX7_sweep_114 (fun H locs hJ => ?_)
          exact D117_52 v0 v1 v2 v5 v6 v7 x35 x47 b37 σ46 o hf Kb Ke0 _ _ hJ ls (lv_sub hl [1, 2, 3, 4, 5, 6, 0] rfl)
        · rw [if_neg c39] at hf
          refine lv_aload hx hb dX7_sweep_94 (lv_at hl 5 rfl) ?_
          obtain ⟨x65, e66, hf⟩ := mb0 hf
          refine my_gL hx hb hts hown hK hJ fd_RX7_326 hv_0_0 e66 dX7_sweep_96 ?_
          refine lv_goto (tgt := 117) hx hb dX7_sweep_99 (by decide) ?_
          exact D117_52 v0 v1 v2 v5 v6 v7 x35 x65 b37 σ27 o hf Kb Ke0 _ _ hJ ls (lv_sub hl [1, 2, 3, 4, 5, 6, 0] rfl)
  have L52 : ∀ (v0 : Nat) (v1 : Int32) (v2 : Int32) (v5 : Int32) (v6 : Nat) (n : Nat) (v7 : Int32) (τ : mx_S) (o : (mx_S)), mx_lp (f_X7_sweep_L52 P v0 v1 v2 v5 v6) n (v7, τ) = some o → (∀  (υ : mx_S), o = υ → ∀ (H : Heap) (locs : List Loc), mx_J G P s.heap (mxz σ) (mxu σ) υ H locs → ∀ ls : Array Slot, lv_has ls 9 [(0, .ref v0), (2, .int v2), (5, .int v5)] → W p l e (mx_rm P 5 132 σ) s m ([.ref a0, .int p1, .int p2, .int p3, .int p4] : List Value).toArray below meth c H locs (mxz υ - mxz σ) (mxu υ - mxu σ) (mx_Z below G P none σ σ' [.ref a0, .int p1, .int p2, .int p3, .int p4] s) (F0 m 154 ls [])) → ∀ (H : Heap) (locs : List Loc), mx_J G P s.heap (mxz σ) (mxu σ) τ H locs → ∀ ls : Array Slot, lv_has ls 9 [(0, .ref v0), (1, .int v1), (2, .int v2), (5, .int v5), (6, .ref v6), (7, .int v7)] → W p l e (mx_rm P 5 132 σ) s m ([.ref a0, .int p1, .int p2, .int p3, .int p4] : List Value).toArray below meth c H locs (mxz τ - mxz σ) (mxu τ - mxu σ) (mx_Z below G P none σ σ' [.ref a0, .int p1, .int p2, .int p3, .int p4] s) (F0 m 52 ls []) := by
    intro v0 v1 v2 v5 v6 n
    induction n with
    | zero =>
      intro v7 τ o hf
      rw [mx_lp0] at hf
      cases hf
    | succ n ih =>
      intro v7 τ o hf Ke0 H locs hJ ls hl
      rw [mx_lpS] at hf
      obtain ⟨b, eb, hf⟩ := mb0 hf
      refine B52 v0 v1 v2 v5 v6 v7 τ b eb (fun y7 υ ho H locs hJ ls hl => ?_) (fun  υ ho H locs hJ ls hl => ?_) H locs hJ ls hl
      · subst ho
        exact ih y7 υ o hf Ke0 H locs hJ ls hl
      · subst ho
        exact Ke0  υ (Option.some.inj hf).symm _ _ hJ ls hl
  have D40 : ∀ (v0 : Nat) (v1 : Int32) (v2 : Int32) (v5 : Int32) (w0 : Nat) (τ : mx_S), f_X7_sweep_D40 P v0 v1 v2 v5 w0 τ = some σ' → ∀ (H : Heap) (locs : List Loc), mx_J G P s.heap (mxz σ) (mxu σ) τ H locs → ∀ ls : Array Slot, lv_has ls 9 [(0, .ref v0), (1, .int v1), (2, .int v2), (5, .int v5)] → W p l e (mx_rm P 5 132 σ) s m ([.ref a0, .int p1, .int p2, .int p3, .int p4] : List Value).toArray below meth c H locs (mxz τ - mxz σ) (mxu τ - mxu σ) (mx_Z below G P none σ σ' [.ref a0, .int p1, .int p2, .int p3, .int p4] s) (F0 m 40 ls [.ref w0]) := by
    intro v0 v1 v2 v5 w0 τ hf _ _ hJ ls hl
    unfold f_X7_sweep_D40 at hf
    refine lv_astore (lv' := [(6, .ref w0), (0, .ref v0), (1, .int v1), (2, .int v2), (5, .int v5)]) hx hb dX7_sweep_40 hl (by decide) rfl (fun ls hl => ?_)
    refine lv_aload_n hx hb dX7_sweep_42 rfl (lv_at hl 1 rfl) ?_
    obtain ⟨b14, e15, hf⟩ := mb0 hf
    refine my_gR hx hb hts hown hK hJ fd_RX7_74 hv_7_19 e15 dX7_sweep_43 ?_
    obtain ⟨i16, e17, hf⟩ := mb0 hf
    obtain ⟨σ18, e19, hf⟩ := mb0 hf
    refine mx_callV (As := []) (rest := []) hx hb hml hts hown hK hJ rfl rfl (ci := 0) rfl e17 (c_X0_shut l G P b14 τ σ18 e19) me_X0_shut kw_671 kw_672 kw_1332 (Nat.le_of_ble_eq_true rfl) (Nat.le_of_ble_eq_true rfl) rfl hl.1 rfl (Nat.le_of_ble_eq_true rfl) dX7_sweep_46 (fun H locs hJ => ?_)
    refine lv_iconst (v := 0) hx hb dX7_sweep_49 (by decide) ?_
    refine lv_istore (lv' := [(7, .int (0 : Int32)), (6, .ref w0), (0, .ref v0), (1, .int v1), (2, .int v2), (5, .int v5)]) hx hb dX7_sweep_50 hl (by decide) rfl (fun ls hl => ?_)
    obtain ⟨o67, e68, hf⟩ := mb0 hf
    refine L52 v0 v1 v2 v5 w0 (mpN P) (0 : Int32) σ18 o67 e68 (fun σ69 ho H locs hJ ls hl => ?_) _ _ hJ ls (lv_sub hl [2, 3, 4, 5, 1, 0] rfl)
    · rw [ho] at hf
      have hf : ((mx_is σ69 v0 7).bind fun i70 => (f_X7_moveTo P v0 v2 v5 σ69).bind fun σ72 => some σ72) = some σ' := hf
      refine lv_aload_n hx hb dX7_sweep_154 rfl (lv_at hl 0 rfl) ?_
      refine lv_iload_n hx hb dX7_sweep_155 rfl (lv_at hl 1 rfl) ?_
      refine lv_iload hx hb dX7_sweep_156 (lv_at hl 2 rfl) ?_
      obtain ⟨i70, e71, hf⟩ := mb0 hf
      obtain ⟨σ72, e73, hf⟩ := mb0 hf
      refine mx_callV (As := [.int v2, .int v5]) (rest := []) hx hb hml hts hown hK hJ rfl rfl (ci := 7) rfl e71 (c_X7_moveTo l G P v0 v2 v5 σ69 σ72 e73) me_X7_moveTo kw_1035 kw_1036 kw_1034 (Nat.le_of_ble_eq_true rfl) (Nat.le_of_ble_eq_true rfl) rfl hl.1 rfl (Nat.le_of_ble_eq_true rfl) dX7_sweep_158 (fun H locs hJ => ?_)
      exact my_vret hx hb hr hlocks hJ hf dX7_sweep_161
  unfold f_X7_sweep at hf
  refine lv_aload_n hx hb dX7_sweep_0 rfl (lv_at hl 0 rfl) ?_
  obtain ⟨b1, e2, hf⟩ := mb0 hf
  refine my_gR hx hb hts hown hK hJ fd_RX7_20 hv_7_4 e2 dX7_sweep_1 ?_
  refine lv_iload_n hx hb dX7_sweep_4 rfl (lv_at hl 2 rfl) ?_
  obtain ⟨x3, e4, hf⟩ := mb0 hf
  refine mx_aI hx hb hK hJ e4 dX7_sweep_5 ?_
  refine lv_istore (lv' := [(5, .int x3), (0, .ref a0), (1, .int p1), (2, .int p2), (3, .int p3), (4, .int p4)]) hx hb dX7_sweep_6 hl (by decide) rfl (fun ls hl => ?_)
  refine lv_iload hx hb dX7_sweep_8 (lv_at hl 5 rfl) ?_
  refine lv_if_ne (tgt := 28) hx hb dX7_sweep_10 (by decide) (fun c5 => ?_) (fun c5 => ?_)
  · rw [if_neg c5] at hf
    refine lv_aload_n hx hb dX7_sweep_28 rfl (lv_at hl 1 rfl) ?_
    obtain ⟨b6, e7, hf⟩ := mb0 hf
    refine my_gR hx hb hts hown hK hJ fd_RX7_11 hv_7_0 e7 dX7_sweep_29 ?_
    refine lv_iload_n hx hb dX7_sweep_32 rfl (lv_at hl 4 rfl) ?_
    obtain ⟨b8, e9, hf⟩ := mb0 hf
    refine mx_aR hx hb hK hJ (t := 4) rfl (fun _ _ _ => rfl) e9 dX7_sweep_33 ?_
    obtain ⟨b10, e11, hf⟩ := mb0 hf
    refine my_gR hx hb hts hown hK hJ fd_RX7_194 hv_5_12 e11 dX7_sweep_34 ?_
    obtain ⟨b12, e13, hf⟩ := mb0 hf
    refine my_gR hx hb hts hown hK hJ fd_RX7_241 hv_8_1 e13 dX7_sweep_37 ?_
    exact D40 a0 p1 p2 x3 b12 σ hf _ _ hJ ls (lv_sub hl [1, 2, 3, 0] rfl)
  · rw [if_pos c5] at hf
    refine lv_aload_n hx hb dX7_sweep_13 rfl (lv_at hl 1 rfl) ?_
    obtain ⟨b74, e75, hf⟩ := mb0 hf
    refine my_gR hx hb hts hown hK hJ fd_RX7_11 hv_7_0 e75 dX7_sweep_14 ?_
    refine lv_iload_n hx hb dX7_sweep_17 rfl (lv_at hl 4 rfl) ?_
    obtain ⟨b76, e77, hf⟩ := mb0 hf
    refine mx_aR hx hb hK hJ (t := 4) rfl (fun _ _ _ => rfl) e77 dX7_sweep_18 ?_
    obtain ⟨b78, e79, hf⟩ := mb0 hf
    refine my_gR hx hb hts hown hK hJ fd_RX7_194 hv_5_12 e79 dX7_sweep_19 ?_
    obtain ⟨b80, e81, hf⟩ := mb0 hf
    refine my_gR hx hb hts hown hK hJ fd_RX7_30 hv_8_0 e81 dX7_sweep_22 ?_
    refine lv_goto (tgt := 40) hx hb dX7_sweep_25 (by decide) ?_
    exact D40 a0 p1 p2 x3 b80 σ hf _ _ hJ ls (lv_sub hl [1, 2, 3, 0] rfl)
set_option maxHeartbeats 4000000 in
set_option maxRecDepth 100000 in
theorem c_X7_offerLeast (l : Launch) (G : mx_G) (P : mx_P) (a0 : Nat) (σ : mx_S) (σ' : mx_S) (hf : f_X7_offerLeast P a0 σ = some σ') : mxz σ ≤ mpc P → mxu σ ≤ mps P → mx_M l yX7_offerLeast cX7_offerLeast 2 none 1 24 G P [.ref a0] σ none σ' := by
  intro hcap hcau
  refine mx_ofW (by decide +kernel) hcap hcau (Nat.le_of_ble_eq_true rfl) ?_
  intro p e s m below meth c hx hb hr hml hts hown hlocks hname hK hJ ls hl
  have hz0 := hJ.2.1
  have hown : s.vm.findClass RX7 = some m.cls := hown
  have hl : lv_has ls 2 [(0, .ref a0)] := hl
  have D85 : ∀ (w0 : Int64) (w1 : Int64) (w2 : Nat) (τ : mx_S), f_X7_offerLeast_D85 P w0 w1 w2 τ = some σ' → ∀ (H : Heap) (locs : List Loc), mx_J G P s.heap (mxz σ) (mxu σ) τ H locs → ∀ ls : Array Slot, lv_has ls 2 [] → W p l e (mx_rm P 1 24 σ) s m ([.ref a0] : List Value).toArray below meth c H locs (mxz τ - mxz σ) (mxu τ - mxu σ) (mx_Z below G P none σ σ' [.ref a0] s) (F0 m 85 ls [.long w0, .long w1, .ref w2]) := by
    intro w0 w1 w2 τ hf _ _ hJ ls hl
    unfold f_X7_offerLeast_D85 at hf
    obtain ⟨i36, e37, hf⟩ := mb0 hf
    obtain ⟨σ38, e39, hf⟩ := mb0 hf
    refine mx_callV (As := [.long w1, .long w0]) (rest := []) hx hb hml hts hown hK hJ rfl rfl (ci := 0) rfl e37 (c_X0_keep l G P w2 w1 w0 τ σ38 e39) me_X0_keep kw_480 kw_481 kw_479 (Nat.le_of_ble_eq_true rfl) (Nat.le_of_ble_eq_true rfl) rfl hl.1 rfl (Nat.le_of_ble_eq_true rfl) dX7_offerLeast_85 (fun H locs hJ => ?_)
    exact my_vret hx hb hr hlocks hJ hf dX7_offerLeast_88
  have D54 : ∀ (v0 : Nat) (v1 : Int32) (w0 : Int64) (w1 : Nat) (τ : mx_S), f_X7_offerLeast_D54 P v0 v1 w0 w1 τ = some σ' → ∀ (H : Heap) (locs : List Loc), mx_J G P s.heap (mxz σ) (mxu σ) τ H locs → ∀ ls : Array Slot, lv_has ls 2 [(0, .ref v0), (1, .int v1)] → W p l e (mx_rm P 1 24 σ) s m ([.ref a0] : List Value).toArray below meth c H locs (mxz τ - mxz σ) (mxu τ - mxu σ) (mx_Z below G P none σ σ' [.ref a0] s) (F0 m 54 ls [.long w0, .ref w1]) := by
    intro v0 v1 w0 w1 τ hf _ _ hJ ls hl
    unfold f_X7_offerLeast_D54 at hf
    refine lv_iload_n hx hb dX7_offerLeast_54 rfl (lv_at hl 1 rfl) ?_
    refine lv_if_eq (tgt := 68) hx hb dX7_offerLeast_55 (by decide) (fun c24 => ?_) (fun c24 => ?_)
    · rw [if_pos c24] at hf
      refine lv_aload_n hx hb dX7_offerLeast_68 rfl (lv_at hl 0 rfl) ?_
      obtain ⟨b25, e26, hf⟩ := mb0 hf
      refine my_gR hx hb hts hown hK hJ fd_RX7_74 hv_7_19 e26 dX7_offerLeast_69 ?_
      obtain ⟨x27, e28, hf⟩ := mb0 hf
      refine my_gL hx hb hts hown hK hJ fd_RX7_329 hv_0_1 e28 dX7_offerLeast_72 ?_
      refine lv_aload_n hx hb dX7_offerLeast_75 rfl (lv_at hl 0 rfl) ?_
      obtain ⟨b29, e30, hf⟩ := mb0 hf
      refine my_gR hx hb hts hown hK hJ fd_RX7_62 hv_7_15 e30 dX7_offerLeast_76 ?_
      obtain ⟨x31, e32, hf⟩ := mb0 hf
      refine my_gL hx hb hts hown hK hJ fd_RX7_329 hv_0_1 e32 dX7_offerLeast_79 ?_
      obtain ⟨x34, σ33, e35, hf⟩ := mc0 hf
      refine mx_callS (As := [.long x27, .long x31]) (rest := [.long w0, .ref w1]) hx hb hml hts hown hK hJ rfl rfl (c_J9_min_f86c9 l G P x27 x31 τ x34 σ33 e35) me_J9_min_f86c9 kw_709 kw_1333 (Nat.le_of_ble_eq_true rfl) (Nat.le_of_ble_eq_true rfl) rfl hl.1 rfl (Nat.le_of_ble_eq_true rfl) dX7_offerLeast_82 (fun H locs hJ => ?_)
      exact D85 x34 w0 w1 σ33 hf _ _ hJ ls (lv_sub hl [] rfl)
    · rw [if_neg c24] at hf
      refine lv_aload_n hx hb dX7_offerLeast_58 rfl (lv_at hl 0 rfl) ?_
      obtain ⟨b40, e41, hf⟩ := mb0 hf
      refine my_gR hx hb hts hown hK hJ fd_RX7_62 hv_7_15 e41 dX7_offerLeast_59 ?_
      obtain ⟨x42, e43, hf⟩ := mb0 hf
      refine my_gL hx hb hts hown hK hJ fd_RX7_329 hv_0_1 e43 dX7_offerLeast_62 ?_
      refine lv_goto (tgt := 85) hx hb dX7_offerLeast_65 (by decide) ?_
      exact D85 x42 w0 w1 τ hf _ _ hJ ls (lv_sub hl [] rfl)
  unfold f_X7_offerLeast at hf
  refine lv_aload_n hx hb dX7_offerLeast_0 rfl (lv_at hl 0 rfl) ?_
  obtain ⟨b1, e2, hf⟩ := mb0 hf
  refine my_gR hx hb hts hown hK hJ fd_RX7_62 hv_7_15 e2 dX7_offerLeast_1 ?_
  obtain ⟨x3, e4, hf⟩ := mb0 hf
  refine my_gI hx hb hts hown hK hJ fd_RX7_323 hv_0_2 e4 dX7_offerLeast_4 ?_
  refine lv_if_eq (tgt := 11) hx hb dX7_offerLeast_7 (by decide) (fun c5 => ?_) (fun c5 => ?_)
  · rw [if_pos c5] at hf
    refine lv_aload_n hx hb dX7_offerLeast_11 rfl (lv_at hl 0 rfl) ?_
    obtain ⟨b6, e7, hf⟩ := mb0 hf
    refine my_gR hx hb hts hown hK hJ fd_RX7_74 hv_7_19 e7 dX7_offerLeast_12 ?_
    obtain ⟨x8, e9, hf⟩ := mb0 hf
    refine my_gI hx hb hts hown hK hJ fd_RX7_323 hv_0_2 e9 dX7_offerLeast_15 ?_
    refine lv_istore_n (lv' := [(1, .int x8), (0, .ref a0)]) hx hb dX7_offerLeast_18 rfl hl (by decide) rfl (fun ls hl => ?_)
    refine lv_aload_n hx hb dX7_offerLeast_19 rfl (lv_at hl 1 rfl) ?_
    obtain ⟨b10, e11, hf⟩ := mb0 hf
    refine my_gR hx hb hts hown hK hJ fd_RX7_74 hv_7_19 e11 dX7_offerLeast_20 ?_
    refine lv_iload_n hx hb dX7_offerLeast_23 rfl (lv_at hl 0 rfl) ?_
    refine lv_if_eq (tgt := 37) hx hb dX7_offerLeast_24 (by decide) (fun c12 => ?_) (fun c12 => ?_)
    · rw [if_pos c12] at hf
      refine lv_aload_n hx hb dX7_offerLeast_37 rfl (lv_at hl 1 rfl) ?_
      obtain ⟨b13, e14, hf⟩ := mb0 hf
      refine my_gR hx hb hts hown hK hJ fd_RX7_74 hv_7_19 e14 dX7_offerLeast_38 ?_
      obtain ⟨x15, e16, hf⟩ := mb0 hf
      refine my_gL hx hb hts hown hK hJ fd_RX7_326 hv_0_0 e16 dX7_offerLeast_41 ?_
      refine lv_aload_n hx hb dX7_offerLeast_44 rfl (lv_at hl 1 rfl) ?_
      obtain ⟨b17, e18, hf⟩ := mb0 hf
      refine my_gR hx hb hts hown hK hJ fd_RX7_62 hv_7_15 e18 dX7_offerLeast_45 ?_
      obtain ⟨x19, e20, hf⟩ := mb0 hf
      refine my_gL hx hb hts hown hK hJ fd_RX7_326 hv_0_0 e20 dX7_offerLeast_48 ?_
      obtain ⟨x22, σ21, e23, hf⟩ := mc0 hf
      refine mx_callS (As := [.long x15, .long x19]) (rest := [.ref b10]) hx hb hml hts hown hK hJ rfl rfl (c_J9_min_f86c9 l G P x15 x19 σ x22 σ21 e23) me_J9_min_f86c9 kw_709 kw_1333 (Nat.le_of_ble_eq_true rfl) (Nat.le_of_ble_eq_true rfl) rfl hl.1 rfl (Nat.le_of_ble_eq_true rfl) dX7_offerLeast_51 (fun H locs hJ => ?_)
      exact D54 a0 x8 x22 b10 σ21 hf _ _ hJ ls (lv_sub hl [1, 0] rfl)
    · rw [if_neg c12] at hf
      refine lv_aload_n hx hb dX7_offerLeast_27 rfl (lv_at hl 1 rfl) ?_
      obtain ⟨b44, e45, hf⟩ := mb0 hf
      refine my_gR hx hb hts hown hK hJ fd_RX7_62 hv_7_15 e45 dX7_offerLeast_28 ?_
      obtain ⟨x46, e47, hf⟩ := mb0 hf
      refine my_gL hx hb hts hown hK hJ fd_RX7_326 hv_0_0 e47 dX7_offerLeast_31 ?_
      refine lv_goto (tgt := 54) hx hb dX7_offerLeast_34 (by decide) ?_
      exact D54 a0 x8 x46 b10 σ hf _ _ hJ ls (lv_sub hl [1, 0] rfl)
  · rw [if_neg c5] at hf
    exact my_vret hx hb hr hlocks hJ hf dX7_offerLeast_10
set_option maxHeartbeats 4000000 in
set_option maxRecDepth 100000 in
theorem c_X7_approach (l : Launch) (G : mx_G) (P : mx_P) (a0 : Nat) (p1 : Int32) (p2 : Int32) (p3 : Int32) (p4 : Int32) (σ : mx_S) (σ' : mx_S) (hf : f_X7_approach P a0 p1 p2 p3 p4 σ = some σ') : mxz σ ≤ mpc P → mxu σ ≤ mps P → mx_M l yX7_approach cX7_approach 7 none 5 132 G P [.ref a0, .int p1, .int p2, .int p3, .int p4] σ none σ' := by
  intro hcap hcau
  refine mx_ofW (by decide +kernel) hcap hcau (Nat.le_of_ble_eq_true rfl) ?_
  intro p e s m below meth c hx hb hr hml hts hown hlocks hname hK hJ ls hl
  have hz0 := hJ.2.1
  have hown : s.vm.findClass RX7 = some m.cls := hown
  have hl : lv_has ls 7 [(0, .ref a0), (1, .int p1), (2, .int p2), (3, .int p3), (4, .int p4)] := hl
  have D83_18 : ∀ (v0 : Nat) (v1 : Int32) (v2 : Int32) (v3 : Int32) (v4 : Int32) (v5 : Int32) (v6 : Int32) (τ : mx_S) (o : (Int32 × mx_S) ⊕ ((mx_S))), f_X7_approach_D83_18 P v0 v1 v2 v3 v4 v5 v6 τ = some o → (∀ (y6 : Int32) (υ : mx_S), o = .inl (y6, υ) → ∀ (H : Heap) (locs : List Loc), mx_J G P s.heap (mxz σ) (mxu σ) υ H locs → ∀ ls : Array Slot, lv_has ls 7 [(0, .ref v0), (1, .int v1), (2, .int v2), (3, .int v3), (4, .int v4), (5, .int v5), (6, .int y6)] → W p l e (mx_rm P 5 132 σ) s m ([.ref a0, .int p1, .int p2, .int p3, .int p4] : List Value).toArray below meth c H locs (mxz υ - mxz σ) (mxu υ - mxu σ) (mx_Z below G P none σ σ' [.ref a0, .int p1, .int p2, .int p3, .int p4] s) (F0 m 18 ls [])) → (∀  (υ : mx_S), o = .inr υ → ∀ (H : Heap) (locs : List Loc), mx_J G P s.heap (mxz σ) (mxu σ) υ H locs → ∀ ls : Array Slot, lv_has ls 7 [(0, .ref v0), (2, .int v2), (5, .int v5)] → W p l e (mx_rm P 5 132 σ) s m ([.ref a0, .int p1, .int p2, .int p3, .int p4] : List Value).toArray below meth c H locs (mxz υ - mxz σ) (mxu υ - mxu σ) (mx_Z below G P none σ σ' [.ref a0, .int p1, .int p2, .int p3, .int p4] s) (F0 m 89 ls [])) → ∀ (H : Heap) (locs : List Loc), mx_J G P s.heap (mxz σ) (mxu σ) τ H locs → ∀ ls : Array Slot, lv_has ls 7 [(0, .ref v0), (1, .int v1), (2, .int v2), (3, .int v3), (4, .int v4), (5, .int v5), (6, .int v6)] → W p l e (mx_rm P 5 132 σ) s m ([.ref a0, .int p1, .int p2, .int p3, .int p4] : List Value).toArray below meth c H locs (mxz τ - mxz σ) (mxu τ - mxu σ) (mx_Z below G P none σ σ' [.ref a0, .int p1, .int p2, .int p3, .int p4] s) (F0 m 83 ls []) := by
    intro v0 v1 v2 v3 v4 v5 v6 τ o hf Kb Ke0 H locs hJ ls hl
    unfold f_X7_approach_D83_18 at hf
    obtain ⟨x22, e23, hf⟩ := mb0 hf
    refine lv_iinc (v := x22) (lv' := [(6, .int x22), (0, .ref v0), (1, .int v1), (2, .int v2), (3, .int v3), (4, .int v4), (5, .int v5)]) hx hb dX7_approach_83 hl (k := 6) rfl (by rw [← Option.some.inj e23]; rfl) (by decide) rfl (fun ls hl => ?_)
    refine lv_goto (tgt := 18) hx hb dX7_approach_86 (by decide) ?_
    exact Kb x22 τ (Option.some.inj hf).symm _ _ hJ ls (lv_sub hl [1, 2, 3, 4, 5, 6, 0] rfl)
  have B18 : ∀ (v0 : Nat) (v1 : Int32) (v2 : Int32) (v3 : Int32) (v4 : Int32) (v5 : Int32) (v6 : Int32) (τ : mx_S) (o : (Int32 × mx_S) ⊕ ((mx_S))), f_X7_approach_B18 P v0 v1 v2 v3 v4 v5 v6 τ = some o → (∀ (y6 : Int32) (υ : mx_S), o = .inl (y6, υ) → ∀ (H : Heap) (locs : List Loc), mx_J G P s.heap (mxz σ) (mxu σ) υ H locs → ∀ ls : Array Slot, lv_has ls 7 [(0, .ref v0), (1, .int v1), (2, .int v2), (3, .int v3), (4, .int v4), (5, .int v5), (6, .int y6)] → W p l e (mx_rm P 5 132 σ) s m ([.ref a0, .int p1, .int p2, .int p3, .int p4] : List Value).toArray below meth c H locs (mxz υ - mxz σ) (mxu υ - mxu σ) (mx_Z below G P none σ σ' [.ref a0, .int p1, .int p2, .int p3, .int p4] s) (F0 m 18 ls [])) → (∀  (υ : mx_S), o = .inr υ → ∀ (H : Heap) (locs : List Loc), mx_J G P s.heap (mxz σ) (mxu σ) υ H locs → ∀ ls : Array Slot, lv_has ls 7 [(0, .ref v0), (2, .int v2), (5, .int v5)] → W p l e (mx_rm P 5 132 σ) s m ([.ref a0, .int p1, .int p2, .int p3, .int p4] : List Value).toArray below meth c H locs (mxz υ - mxz σ) (mxu υ - mxu σ) (mx_Z below G P none σ σ' [.ref a0, .int p1, .int p2, .int p3, .int p4] s) (F0 m 89 ls [])) → ∀ (H : Heap) (locs : List Loc), mx_J G P s.heap (mxz σ) (mxu σ) τ H locs → ∀ ls : Array Slot, lv_has ls 7 [(0, .ref v0), (1, .int v1), (2, .int v2), (3, .int v3), (4, .int v4), (5, .int v5), (6, .int v6)] → W p l e (mx_rm P 5 132 σ) s m ([.ref a0, .int p1, .int p2, .int p3, .int p4] : List Value).toArray below meth c H locs (mxz τ - mxz σ) (mxu τ - mxu σ) (mx_Z below G P none σ σ' [.ref a0, .int p1, .int p2, .int p3, .int p4] s) (F0 m 18 ls []) := by
    intro v0 v1 v2 v3 v4 v5 v6 τ o hf Kb Ke0 H locs hJ ls hl
    unfold f_X7_approach_B18 at hf
    refine lv_iload hx hb dX7_approach_18 (lv_at hl 6 rfl) ?_
    refine lv_sipush (v := 1024) hx hb dX7_approach_20 (by decide) ?_
    refine lv_icmp_ge (tgt := 89) hx hb dX7_approach_23 (by decide) (fun c11 => ?_) (fun c11 => ?_)
    · rw [if_pos c11] at hf
      exact Ke0 τ (Option.some.inj hf).symm _ _ hJ ls (lv_sub hl [0, 2, 5] rfl)
    · rw [if_neg c11] at hf
      refine lv_aload_n hx hb dX7_approach_26 rfl (lv_at hl 0 rfl) ?_
      refine lv_iload_n hx hb dX7_approach_27 rfl (lv_at hl 2 rfl) ?_
      refine lv_iload hx hb dX7_approach_28 (lv_at hl 6 rfl) ?_
      obtain ⟨i12, e13, hf⟩ := mb0 hf
      obtain ⟨σ14, e15, hf⟩ := mb0 hf
      refine mx_callV (As := [.int v2, .int v6]) (rest := []) hx hb hml hts hown hK hJ rfl rfl (ci := 7) rfl e13 (c_X7_moveTo l G P v0 v2 v6 τ σ14 e15) me_X7_moveTo kw_1035 kw_1036 kw_1034 (Nat.le_of_ble_eq_true rfl) (Nat.le_of_ble_eq_true rfl) rfl hl.1 rfl (Nat.le_of_ble_eq_true rfl) dX7_approach_30 (fun H locs hJ => ?_)
      refine lv_aload_n hx hb dX7_approach_33 rfl (lv_at hl 0 rfl) ?_
      refine lv_iload_n hx hb dX7_approach_34 rfl (lv_at hl 1 rfl) ?_
      refine lv_iconst (v := 1) hx hb dX7_approach_35 (by decide) ?_
      obtain ⟨i16, e17, hf⟩ := mb0 hf
      obtain ⟨x19, σ18, e20, hf⟩ := mc0 hf
      refine mx_callV (As := [.int v1, .int (1 : Int32)]) (rest := []) hx hb hml hts hown hK hJ rfl rfl (ci := 7) rfl e17 (c_X7_look l G P v0 v1 (1 : Int32) σ14 x19 σ18 e20) me_X7_look kw_655 kw_656 kw_654 (Nat.le_of_ble_eq_true rfl) (Nat.le_of_ble_eq_true rfl) rfl hl.1 rfl (Nat.le_of_ble_eq_true rfl) dX7_approach_36 (fun H locs hJ => ?_)
      refine lv_if_ne (tgt := 83) hx hb dX7_approach_39 (by decide) (fun c21 => ?_) (fun c21 => ?_)
      · rw [if_neg c21] at hf
        exact D83_18 v0 v1 v2 v3 v4 v5 v6 σ18 o hf Kb Ke0 _ _ hJ ls (lv_sub hl [0, 1, 2, 3, 4, 5, 6] rfl)
      · rw [if_pos c21] at hf
        refine lv_aload_n hx hb dX7_approach_42 rfl (lv_at hl 0 rfl) ?_
        obtain ⟨b24, e25, hf⟩ := mb0 hf
        refine my_gR hx hb hts hown hK hJ fd_RX7_48 hv_7_11 e25 dX7_approach_43 ?_
        refine lv_aload_n hx hb dX7_approach_46 rfl (lv_at hl 0 rfl) ?_
        obtain ⟨b26, e27, hf⟩ := mb0 hf
        refine my_gR hx hb hts hown hK hJ fd_RX7_11 hv_7_0 e27 dX7_approach_47 ?_
        refine lv_iload_n hx hb dX7_approach_50 rfl (lv_at hl 3 rfl) ?_
        obtain ⟨b28, e29, hf⟩ := mb0 hf
        refine mx_aR hx hb hK hJ (t := 4) rfl (fun _ _ _ => rfl) e29 dX7_approach_51 ?_
        obtain ⟨b30, e31, hf⟩ := mb0 hf
        refine my_gR hx hb hts hown hK hJ fd_RX7_194 hv_5_12 e31 dX7_approach_52 ?_
        refine lv_aload_n hx hb dX7_approach_55 rfl (lv_at hl 0 rfl) ?_
        obtain ⟨b32, e33, hf⟩ := mb0 hf
        refine my_gR hx hb hts hown hK hJ fd_RX7_11 hv_7_0 e33 dX7_approach_56 ?_
        refine lv_iload hx hb dX7_approach_59 (lv_at hl 4 rfl) ?_
        obtain ⟨b34, e35, hf⟩ := mb0 hf
        refine mx_aR hx hb hK hJ (t := 4) rfl (fun _ _ _ => rfl) e35 dX7_approach_61 ?_
        obtain ⟨b36, e37, hf⟩ := mb0 hf
        refine my_gR hx hb hts hown hK hJ fd_RX7_194 hv_5_12 e37 dX7_approach_62 ?_
        obtain ⟨i38, e39, hf⟩ := mb0 hf
        obtain ⟨σ40, e41, hf⟩ := mb0 hf
        refine mx_callV (As := [.ref b30, .ref b36]) (rest := []) hx hb hml hts hown hK hJ rfl rfl (ci := 8) rfl e39 (c_X8_minus l G P b24 b30 b36 σ18 σ40 e41) me_X8_minus kw_730 kw_731 kw_729 (Nat.le_of_ble_eq_true rfl) (Nat.le_of_ble_eq_true rfl) rfl hl.1 rfl (Nat.le_of_ble_eq_true rfl) dX7_approach_65 (fun H locs hJ => ?_)
        refine lv_aload_n hx hb dX7_approach_68 rfl (lv_at hl 0 rfl) ?_
        obtain ⟨b42, e43, hf⟩ := mb0 hf
        refine my_gR hx hb hts hown hK hJ fd_RX7_62 hv_7_15 e43 dX7_approach_69 ?_
        refine lv_aload_n hx hb dX7_approach_72 rfl (lv_at hl 0 rfl) ?_
        obtain ⟨b44, e45, hf⟩ := mb0 hf
        refine my_gR hx hb hts hown hK hJ fd_RX7_48 hv_7_11 e45 dX7_approach_73 ?_
        obtain ⟨i46, e47, hf⟩ := mb0 hf
        obtain ⟨σ48, e49, hf⟩ := mb0 hf
        refine mx_callV (As := [.ref b44]) (rest := []) hx hb hml hts hown hK hJ rfl rfl (ci := 0) rfl e47 (c_X0_norm l G P b42 b44 σ40 σ48 e49) me_X0_norm kw_738 kw_739 kw_737 (Nat.le_of_ble_eq_true rfl) (Nat.le_of_ble_eq_true rfl) rfl hl.1 rfl (Nat.le_of_ble_eq_true rfl) dX7_approach_76 (fun H locs hJ => ?_)
        refine lv_aload_n hx hb dX7_approach_79 rfl (lv_at hl 0 rfl) ?_
        obtain ⟨i50, e51, hf⟩ := mb0 hf
        obtain ⟨σ52, e53, hf⟩ := mb0 hf
        refine mx_callV (As := []) (rest := []) hx hb hml hts hown hK hJ rfl rfl (ci := 7) rfl e51 (c_X7_offerLeast l G P v0 σ48 σ52 e53) me_X7_offerLeast kw_1348 ks_40 kw_1346 (Nat.le_of_ble_eq_true rfl) (Nat.le_of_ble_eq_true rfl) rfl hl.1 rfl (Nat.le_of_ble_eq_true rfl) dX7_approach_80 (fun H locs hJ => ?_)
        exact D83_18 v0 v1 v2 v3 v4 v5 v6 σ52 o hf Kb Ke0 _ _ hJ ls (lv_sub hl [0, 1, 2, 3, 4, 5, 6] rfl)
  have L18 : ∀ (v0 : Nat) (v1 : Int32) (v2 : Int32) (v3 : Int32) (v4 : Int32) (v5 : Int32) (n : Nat) (v6 : Int32) (τ : mx_S) (o : (mx_S)), mx_lp (f_X7_approach_L18 P v0 v1 v2 v3 v4 v5) n (v6, τ) = some o → (∀  (υ : mx_S), o = υ → ∀ (H : Heap) (locs : List Loc), mx_J G P s.heap (mxz σ) (mxu σ) υ H locs → ∀ ls : Array Slot, lv_has ls 7 [(0, .ref v0), (2, .int v2), (5, .int v5)] → W p l e (mx_rm P 5 132 σ) s m ([.ref a0, .int p1, .int p2, .int p3, .int p4] : List Value).toArray below meth c H locs (mxz υ - mxz σ) (mxu υ - mxu σ) (mx_Z below G P none σ σ' [.ref a0, .int p1, .int p2, .int p3, .int p4] s) (F0 m 89 ls [])) → ∀ (H : Heap) (locs : List Loc), mx_J G P s.heap (mxz σ) (mxu σ) τ H locs → ∀ ls : Array Slot, lv_has ls 7 [(0, .ref v0), (1, .int v1), (2, .int v2), (3, .int v3), (4, .int v4), (5, .int v5), (6, .int v6)] → W p l e (mx_rm P 5 132 σ) s m ([.ref a0, .int p1, .int p2, .int p3, .int p4] : List Value).toArray below meth c H locs (mxz τ - mxz σ) (mxu τ - mxu σ) (mx_Z below G P none σ σ' [.ref a0, .int p1, .int p2, .int p3, .int p4] s) (F0 m 18 ls []) := by
    intro v0 v1 v2 v3 v4 v5 n
    induction n with
    | zero =>
      intro v6 τ o hf
      rw [mx_lp0] at hf
      cases hf
    | succ n ih =>
      intro v6 τ o hf Ke0 H locs hJ ls hl
      rw [mx_lpS] at hf
      obtain ⟨b, eb, hf⟩ := mb0 hf
      refine B18 v0 v1 v2 v3 v4 v5 v6 τ b eb (fun y6 υ ho H locs hJ ls hl => ?_) (fun  υ ho H locs hJ ls hl => ?_) H locs hJ ls hl
      · subst ho
        exact ih y6 υ o hf Ke0 H locs hJ ls hl
      · subst ho
        exact Ke0  υ (Option.some.inj hf).symm _ _ hJ ls hl
  unfold f_X7_approach at hf
  refine lv_aload_n hx hb dX7_approach_0 rfl (lv_at hl 0 rfl) ?_
  obtain ⟨b1, e2, hf⟩ := mb0 hf
  refine my_gR hx hb hts hown hK hJ fd_RX7_20 hv_7_4 e2 dX7_approach_1 ?_
  refine lv_iload_n hx hb dX7_approach_4 rfl (lv_at hl 2 rfl) ?_
  obtain ⟨x3, e4, hf⟩ := mb0 hf
  refine mx_aI hx hb hK hJ e4 dX7_approach_5 ?_
  refine lv_istore (lv' := [(5, .int x3), (0, .ref a0), (1, .int p1), (2, .int p2), (3, .int p3), (4, .int p4)]) hx hb dX7_approach_6 hl (by decide) rfl (fun ls hl => ?_)
  refine lv_aload_n hx hb dX7_approach_8 rfl (lv_at hl 1 rfl) ?_
  obtain ⟨b5, e6, hf⟩ := mb0 hf
  refine my_gR hx hb hts hown hK hJ fd_RX7_74 hv_7_19 e6 dX7_approach_9 ?_
  obtain ⟨i7, e8, hf⟩ := mb0 hf
  obtain ⟨σ9, e10, hf⟩ := mb0 hf
  refine mx_callV (As := []) (rest := []) hx hb hml hts hown hK hJ rfl rfl (ci := 0) rfl e8 (c_X0_shut l G P b5 σ σ9 e10) me_X0_shut kw_671 kw_672 kw_1332 (Nat.le_of_ble_eq_true rfl) (Nat.le_of_ble_eq_true rfl) rfl hl.1 rfl (Nat.le_of_ble_eq_true rfl) dX7_approach_12 (fun H locs hJ => ?_)
  refine lv_iconst (v := 0) hx hb dX7_approach_15 (by decide) ?_
  refine lv_istore (lv' := [(6, .int (0 : Int32)), (5, .int x3), (0, .ref a0), (1, .int p1), (2, .int p2), (3, .int p3), (4, .int p4)]) hx hb dX7_approach_16 hl (by decide) rfl (fun ls hl => ?_)
  obtain ⟨o54, e55, hf⟩ := mb0 hf
  refine L18 a0 p1 p2 p3 p4 x3 (mpN P) (0 : Int32) σ9 o54 e55 (fun σ56 ho H locs hJ ls hl => ?_) _ _ hJ ls (lv_sub hl [2, 3, 4, 5, 6, 1, 0] rfl)
  · rw [ho] at hf
    have hf : ((mx_is σ56 a0 7).bind fun i57 => (f_X7_moveTo P a0 p2 x3 σ56).bind fun σ59 => some σ59) = some σ' := hf
    refine lv_aload_n hx hb dX7_approach_89 rfl (lv_at hl 0 rfl) ?_
    refine lv_iload_n hx hb dX7_approach_90 rfl (lv_at hl 1 rfl) ?_
    refine lv_iload hx hb dX7_approach_91 (lv_at hl 2 rfl) ?_
    obtain ⟨i57, e58, hf⟩ := mb0 hf
    obtain ⟨σ59, e60, hf⟩ := mb0 hf
    refine mx_callV (As := [.int p2, .int x3]) (rest := []) hx hb hml hts hown hK hJ rfl rfl (ci := 7) rfl e58 (c_X7_moveTo l G P a0 p2 x3 σ56 σ59 e60) me_X7_moveTo kw_1035 kw_1036 kw_1034 (Nat.le_of_ble_eq_true rfl) (Nat.le_of_ble_eq_true rfl) rfl hl.1 rfl (Nat.le_of_ble_eq_true rfl) dX7_approach_93 (fun H locs hJ => ?_)
    exact my_vret hx hb hr hlocks hJ hf dX7_approach_96
set_option maxHeartbeats 4000000 in
set_option maxRecDepth 100000 in
theorem c_X7_speedCrank (l : Launch) (G : mx_G) (P : mx_P) (a0 : Nat) (a1 : Nat) (p2 : Int32) (σ : mx_S) (σ' : mx_S) (hf : f_X7_speedCrank P a0 a1 p2 σ = some σ') : mxz σ ≤ mpc P → mxu σ ≤ mps P → mx_M l yX7_speedCrank cX7_speedCrank 3 none 3 82 G P [.ref a0, .ref a1, .int p2] σ none σ' := by
  intro hcap hcau
  refine mx_ofW (by decide +kernel) hcap hcau (Nat.le_of_ble_eq_true rfl) ?_
  intro p e s m below meth c hx hb hr hml hts hown hlocks hname hK hJ ls hl
  have hz0 := hJ.2.1
  have hown : s.vm.findClass RX7 = some m.cls := hown
  have hl : lv_has ls 3 [(0, .ref a0), (1, .ref a1), (2, .int p2)] := hl
  have D45 : ∀  (τ : mx_S), f_X7_speedCrank_D45 P  τ = some σ' → ∀ (H : Heap) (locs : List Loc), mx_J G P s.heap (mxz σ) (mxu σ) τ H locs → ∀ ls : Array Slot, lv_has ls 3 [] → W p l e (mx_rm P 3 82 σ) s m ([.ref a0, .ref a1, .int p2] : List Value).toArray below meth c H locs (mxz τ - mxz σ) (mxu τ - mxu σ) (mx_Z below G P none σ σ' [.ref a0, .ref a1, .int p2] s) (F0 m 45 ls []) := by
    intro  τ hf _ _ hJ ls hl
    unfold f_X7_speedCrank_D45 at hf
    exact my_vret hx hb hr hlocks hJ hf dX7_speedCrank_45
  unfold f_X7_speedCrank at hf
  refine lv_aload_n hx hb dX7_speedCrank_0 rfl (lv_at hl 1 rfl) ?_
  obtain ⟨b1, e2, hf⟩ := mb0 hf
  refine my_gR hx hb hts hown hK hJ fd_RX7_363 hv_5_14 e2 dX7_speedCrank_1 ?_
  refine lv_aload_n hx hb dX7_speedCrank_4 rfl (lv_at hl 0 rfl) ?_
  obtain ⟨b3, e4, hf⟩ := mb0 hf
  refine my_gR hx hb hts hown hK hJ fd_RX7_11 hv_7_0 e4 dX7_speedCrank_5 ?_
  refine lv_aload_n hx hb dX7_speedCrank_8 rfl (lv_at hl 1 rfl) ?_
  obtain ⟨b5, e6, hf⟩ := mb0 hf
  refine my_gR hx hb hts hown hK hJ fd_RX7_167 hv_5_2 e6 dX7_speedCrank_9 ?_
  refine lv_iconst (v := 0) hx hb dX7_speedCrank_12 (by decide) ?_
  obtain ⟨x7, e8, hf⟩ := mb0 hf
  refine mx_aI hx hb hK hJ e8 dX7_speedCrank_13 ?_
  obtain ⟨b9, e10, hf⟩ := mb0 hf
  refine mx_aR hx hb hK hJ (t := 4) rfl (fun _ _ _ => rfl) e10 dX7_speedCrank_14 ?_
  obtain ⟨b11, e12, hf⟩ := mb0 hf
  refine my_gR hx hb hts hown hK hJ fd_RX7_363 hv_5_14 e12 dX7_speedCrank_15 ?_
  obtain ⟨i13, e14, hf⟩ := mb0 hf
  obtain ⟨σ15, e16, hf⟩ := mb0 hf
  refine mx_callV (As := [.ref b11]) (rest := []) hx hb hml hts hown hK hJ rfl rfl (ci := 8) rfl e14 (c_X8_copy l G P b1 b11 σ σ15 e16) me_X8_copy kw_679 kw_680 kw_678 (Nat.le_of_ble_eq_true rfl) (Nat.le_of_ble_eq_true rfl) rfl hl.1 rfl (Nat.le_of_ble_eq_true rfl) dX7_speedCrank_18 (fun H locs hJ => ?_)
  refine lv_aload_n hx hb dX7_speedCrank_21 rfl (lv_at hl 1 rfl) ?_
  obtain ⟨x17, e18, hf⟩ := mb0 hf
  refine my_gI hx hb hts hown hK hJ fd_RX7_247 hv_5_4 e18 dX7_speedCrank_22 ?_
  refine lv_iload_n hx hb dX7_speedCrank_25 rfl (lv_at hl 2 rfl) ?_
  refine lv_icmp_ne (tgt := 45) hx hb dX7_speedCrank_26 (by decide) (fun c19 => ?_) (fun c19 => ?_)
  · rw [if_neg c19] at hf
    exact D45  σ15 hf _ _ hJ ls (lv_sub hl [] rfl)
  · rw [if_pos c19] at hf
    refine lv_aload_n hx hb dX7_speedCrank_29 rfl (lv_at hl 1 rfl) ?_
    obtain ⟨b20, e21, hf⟩ := mb0 hf
    refine my_gR hx hb hts hown hK hJ fd_RX7_363 hv_5_14 e21 dX7_speedCrank_30 ?_
    refine lv_iconst (v := 1) hx hb dX7_speedCrank_33 (by decide) ?_
    refine lv_aload_n hx hb dX7_speedCrank_34 rfl (lv_at hl 1 rfl) ?_
    obtain ⟨b22, e23, hf⟩ := mb0 hf
    refine my_gR hx hb hts hown hK hJ fd_RX7_244 hv_5_10 e23 dX7_speedCrank_35 ?_
    refine lv_aload_n hx hb dX7_speedCrank_38 rfl (lv_at hl 1 rfl) ?_
    obtain ⟨b24, e25, hf⟩ := mb0 hf
    refine my_gR hx hb hts hown hK hJ fd_RX7_259 hv_5_13 e25 dX7_speedCrank_39 ?_
    obtain ⟨i26, e27, hf⟩ := mb0 hf
    obtain ⟨σ28, e29, hf⟩ := mb0 hf
    refine mx_callV (As := [.int (1 : Int32), .ref b22, .ref b24]) (rest := []) hx hb hml hts hown hK hJ rfl rfl (ci := 8) rfl e27 (c_X8_addTurned l G P b20 (1 : Int32) b22 b24 σ15 σ28 e29) me_X8_addTurned kw_781 kw_782 kw_780 (Nat.le_of_ble_eq_true rfl) (Nat.le_of_ble_eq_true rfl) rfl hl.1 rfl (Nat.le_of_ble_eq_true rfl) dX7_speedCrank_42 (fun H locs hJ => ?_)
    exact D45  σ28 hf _ _ hJ ls (lv_sub hl [] rfl)
set_option maxHeartbeats 4000000 in
set_option maxRecDepth 100000 in
theorem c_X7_meet (l : Launch) (G : mx_G) (P : mx_P) (a0 : Nat) (a1 : Nat) (a2 : Nat) (a3 : Nat) (σ : mx_S) (σ' : mx_S) (hf : f_X7_meet P a0 a1 a2 a3 σ = some σ') : mxz σ ≤ mpc P → mxu σ ≤ mps P → mx_M l yX7_meet cX7_meet 4 none 3 81 G P [.ref a0, .ref a1, .ref a2, .ref a3] σ none σ' := by
  intro hcap hcau
  refine mx_ofW (by decide +kernel) hcap hcau (Nat.le_of_ble_eq_true rfl) ?_
  intro p e s m below meth c hx hb hr hml hts hown hlocks hname hK hJ ls hl
  have hz0 := hJ.2.1
  have hown : s.vm.findClass RX7 = some m.cls := hown
  have hl : lv_has ls 4 [(0, .ref a0), (1, .ref a1), (2, .ref a2), (3, .ref a3)] := hl
  unfold f_X7_meet at hf
  refine lv_aload_n hx hb dX7_meet_0 rfl (lv_at hl 0 rfl) ?_
  obtain ⟨b1, e2, hf⟩ := mb0 hf
  refine my_gR hx hb hts hown hK hJ fd_RX7_62 hv_7_15 e2 dX7_meet_1 ?_
  refine lv_aload_n hx hb dX7_meet_4 rfl (lv_at hl 2 rfl) ?_
  refine lv_aload_n hx hb dX7_meet_5 rfl (lv_at hl 3 rfl) ?_
  obtain ⟨i3, e4, hf⟩ := mb0 hf
  obtain ⟨σ5, e6, hf⟩ := mb0 hf
  refine mx_callV (As := [.ref a2, .ref a3]) (rest := []) hx hb hml hts hown hK hJ rfl rfl (ci := 0) rfl e4 (c_X0_cross l G P b1 a2 a3 σ σ5 e6) me_X0_cross kw_802 kw_803 kw_801 (Nat.le_of_ble_eq_true rfl) (Nat.le_of_ble_eq_true rfl) rfl hl.1 rfl (Nat.le_of_ble_eq_true rfl) dX7_meet_6 (fun H locs hJ => ?_)
  refine lv_aload_n hx hb dX7_meet_9 rfl (lv_at hl 0 rfl) ?_
  obtain ⟨b7, e8, hf⟩ := mb0 hf
  refine my_gR hx hb hts hown hK hJ fd_RX7_71 hv_7_18 e8 dX7_meet_10 ?_
  refine lv_lconst (v := 0) hx hb dX7_meet_13 (by decide) ?_
  refine lv_lconst (v := 0) hx hb dX7_meet_14 (by decide) ?_
  obtain ⟨i9, e10, hf⟩ := mb0 hf
  obtain ⟨σ11, e12, hf⟩ := mb0 hf
  refine mx_callV (As := [.long (0 : Int64), .long (0 : Int64)]) (rest := []) hx hb hml hts hown hK hJ rfl rfl (ci := 0) rfl e10 (c_X0_keep l G P b7 (0 : Int64) (0 : Int64) σ5 σ11 e12) me_X0_keep kw_480 kw_481 kw_479 (Nat.le_of_ble_eq_true rfl) (Nat.le_of_ble_eq_true rfl) rfl hl.1 rfl (Nat.le_of_ble_eq_true rfl) dX7_meet_15 (fun H locs hJ => ?_)
  refine lv_aload_n hx hb dX7_meet_18 rfl (lv_at hl 0 rfl) ?_
  obtain ⟨b13, e14, hf⟩ := mb0 hf
  refine my_gR hx hb hts hown hK hJ fd_RX7_71 hv_7_18 e14 dX7_meet_19 ?_
  refine lv_iconst (v := 1) hx hb dX7_meet_22 (by decide) ?_
  refine lv_aload_n hx hb dX7_meet_23 rfl (lv_at hl 0 rfl) ?_
  obtain ⟨b15, e16, hf⟩ := mb0 hf
  refine my_gR hx hb hts hown hK hJ fd_RX7_65 hv_7_16 e16 dX7_meet_24 ?_
  refine lv_aload_n hx hb dX7_meet_27 rfl (lv_at hl 3 rfl) ?_
  obtain ⟨b17, e18, hf⟩ := mb0 hf
  refine my_gR hx hb hts hown hK hJ fd_RX7_241 hv_8_1 e18 dX7_meet_28 ?_
  obtain ⟨i19, e20, hf⟩ := mb0 hf
  obtain ⟨σ21, e22, hf⟩ := mb0 hf
  refine mx_callV (As := [.int (1 : Int32), .ref b15, .ref b17]) (rest := []) hx hb hml hts hown hK hJ rfl rfl (ci := 0) rfl e20 (c_X0_addProduct l G P b13 (1 : Int32) b15 b17 σ11 σ21 e22) me_X0_addProduct kw_705 kw_706 kw_764 (Nat.le_of_ble_eq_true rfl) (Nat.le_of_ble_eq_true rfl) rfl hl.1 rfl (Nat.le_of_ble_eq_true rfl) dX7_meet_31 (fun H locs hJ => ?_)
  refine lv_aload_n hx hb dX7_meet_34 rfl (lv_at hl 0 rfl) ?_
  obtain ⟨b23, e24, hf⟩ := mb0 hf
  refine my_gR hx hb hts hown hK hJ fd_RX7_71 hv_7_18 e24 dX7_meet_35 ?_
  refine lv_iconst (v := (-1)) hx hb dX7_meet_38 (by decide) ?_
  refine lv_aload_n hx hb dX7_meet_39 rfl (lv_at hl 0 rfl) ?_
  obtain ⟨b25, e26, hf⟩ := mb0 hf
  refine my_gR hx hb hts hown hK hJ fd_RX7_68 hv_7_17 e26 dX7_meet_40 ?_
  refine lv_aload_n hx hb dX7_meet_43 rfl (lv_at hl 2 rfl) ?_
  obtain ⟨b27, e28, hf⟩ := mb0 hf
  refine my_gR hx hb hts hown hK hJ fd_RX7_241 hv_8_1 e28 dX7_meet_44 ?_
  obtain ⟨i29, e30, hf⟩ := mb0 hf
  obtain ⟨σ31, e32, hf⟩ := mb0 hf
  refine mx_callV (As := [.int (-1 : Int32), .ref b25, .ref b27]) (rest := []) hx hb hml hts hown hK hJ rfl rfl (ci := 0) rfl e30 (c_X0_addProduct l G P b23 (-1 : Int32) b25 b27 σ21 σ31 e32) me_X0_addProduct kw_705 kw_706 kw_764 (Nat.le_of_ble_eq_true rfl) (Nat.le_of_ble_eq_true rfl) rfl hl.1 rfl (Nat.le_of_ble_eq_true rfl) dX7_meet_47 (fun H locs hJ => ?_)
  refine lv_aload_n hx hb dX7_meet_50 rfl (lv_at hl 1 rfl) ?_
  obtain ⟨b33, e34, hf⟩ := mb0 hf
  refine my_gR hx hb hts hown hK hJ fd_RX7_30 hv_8_0 e34 dX7_meet_51 ?_
  refine lv_aload_n hx hb dX7_meet_54 rfl (lv_at hl 0 rfl) ?_
  obtain ⟨b35, e36, hf⟩ := mb0 hf
  refine my_gR hx hb hts hown hK hJ fd_RX7_71 hv_7_18 e36 dX7_meet_55 ?_
  refine lv_aload_n hx hb dX7_meet_58 rfl (lv_at hl 0 rfl) ?_
  obtain ⟨b37, e38, hf⟩ := mb0 hf
  refine my_gR hx hb hts hown hK hJ fd_RX7_62 hv_7_15 e38 dX7_meet_59 ?_
  obtain ⟨i39, e40, hf⟩ := mb0 hf
  obtain ⟨σ41, e42, hf⟩ := mb0 hf
  refine mx_callV (As := [.ref b35, .ref b37]) (rest := []) hx hb hml hts hown hK hJ rfl rfl (ci := 0) rfl e40 (c_X0_quotient l G P b33 b35 b37 σ31 σ41 e42) me_X0_quotient kw_759 kw_760 kw_758 (Nat.le_of_ble_eq_true rfl) (Nat.le_of_ble_eq_true rfl) rfl hl.1 rfl (Nat.le_of_ble_eq_true rfl) dX7_meet_62 (fun H locs hJ => ?_)
  refine lv_aload_n hx hb dX7_meet_65 rfl (lv_at hl 0 rfl) ?_
  obtain ⟨b43, e44, hf⟩ := mb0 hf
  refine my_gR hx hb hts hown hK hJ fd_RX7_71 hv_7_18 e44 dX7_meet_66 ?_
  refine lv_lconst (v := 0) hx hb dX7_meet_69 (by decide) ?_
  refine lv_lconst (v := 0) hx hb dX7_meet_70 (by decide) ?_
  obtain ⟨i45, e46, hf⟩ := mb0 hf
  obtain ⟨σ47, e48, hf⟩ := mb0 hf
  refine mx_callV (As := [.long (0 : Int64), .long (0 : Int64)]) (rest := []) hx hb hml hts hown hK hJ rfl rfl (ci := 0) rfl e46 (c_X0_keep l G P b43 (0 : Int64) (0 : Int64) σ41 σ47 e48) me_X0_keep kw_480 kw_481 kw_479 (Nat.le_of_ble_eq_true rfl) (Nat.le_of_ble_eq_true rfl) rfl hl.1 rfl (Nat.le_of_ble_eq_true rfl) dX7_meet_71 (fun H locs hJ => ?_)
  refine lv_aload_n hx hb dX7_meet_74 rfl (lv_at hl 0 rfl) ?_
  obtain ⟨b49, e50, hf⟩ := mb0 hf
  refine my_gR hx hb hts hown hK hJ fd_RX7_71 hv_7_18 e50 dX7_meet_75 ?_
  refine lv_iconst (v := 1) hx hb dX7_meet_78 (by decide) ?_
  refine lv_aload_n hx hb dX7_meet_79 rfl (lv_at hl 2 rfl) ?_
  obtain ⟨b51, e52, hf⟩ := mb0 hf
  refine my_gR hx hb hts hown hK hJ fd_RX7_30 hv_8_0 e52 dX7_meet_80 ?_
  refine lv_aload_n hx hb dX7_meet_83 rfl (lv_at hl 0 rfl) ?_
  obtain ⟨b53, e54, hf⟩ := mb0 hf
  refine my_gR hx hb hts hown hK hJ fd_RX7_68 hv_7_17 e54 dX7_meet_84 ?_
  obtain ⟨i55, e56, hf⟩ := mb0 hf
  obtain ⟨σ57, e58, hf⟩ := mb0 hf
  refine mx_callV (As := [.int (1 : Int32), .ref b51, .ref b53]) (rest := []) hx hb hml hts hown hK hJ rfl rfl (ci := 0) rfl e56 (c_X0_addProduct l G P b49 (1 : Int32) b51 b53 σ47 σ57 e58) me_X0_addProduct kw_705 kw_706 kw_764 (Nat.le_of_ble_eq_true rfl) (Nat.le_of_ble_eq_true rfl) rfl hl.1 rfl (Nat.le_of_ble_eq_true rfl) dX7_meet_87 (fun H locs hJ => ?_)
  refine lv_aload_n hx hb dX7_meet_90 rfl (lv_at hl 0 rfl) ?_
  obtain ⟨b59, e60, hf⟩ := mb0 hf
  refine my_gR hx hb hts hown hK hJ fd_RX7_71 hv_7_18 e60 dX7_meet_91 ?_
  refine lv_iconst (v := (-1)) hx hb dX7_meet_94 (by decide) ?_
  refine lv_aload_n hx hb dX7_meet_95 rfl (lv_at hl 3 rfl) ?_
  obtain ⟨b61, e62, hf⟩ := mb0 hf
  refine my_gR hx hb hts hown hK hJ fd_RX7_30 hv_8_0 e62 dX7_meet_96 ?_
  refine lv_aload_n hx hb dX7_meet_99 rfl (lv_at hl 0 rfl) ?_
  obtain ⟨b63, e64, hf⟩ := mb0 hf
  refine my_gR hx hb hts hown hK hJ fd_RX7_65 hv_7_16 e64 dX7_meet_100 ?_
  obtain ⟨i65, e66, hf⟩ := mb0 hf
  obtain ⟨σ67, e68, hf⟩ := mb0 hf
  refine mx_callV (As := [.int (-1 : Int32), .ref b61, .ref b63]) (rest := []) hx hb hml hts hown hK hJ rfl rfl (ci := 0) rfl e66 (c_X0_addProduct l G P b59 (-1 : Int32) b61 b63 σ57 σ67 e68) me_X0_addProduct kw_705 kw_706 kw_764 (Nat.le_of_ble_eq_true rfl) (Nat.le_of_ble_eq_true rfl) rfl hl.1 rfl (Nat.le_of_ble_eq_true rfl) dX7_meet_103 (fun H locs hJ => ?_)
  refine lv_aload_n hx hb dX7_meet_106 rfl (lv_at hl 1 rfl) ?_
  obtain ⟨b69, e70, hf⟩ := mb0 hf
  refine my_gR hx hb hts hown hK hJ fd_RX7_241 hv_8_1 e70 dX7_meet_107 ?_
  refine lv_aload_n hx hb dX7_meet_110 rfl (lv_at hl 0 rfl) ?_
  obtain ⟨b71, e72, hf⟩ := mb0 hf
  refine my_gR hx hb hts hown hK hJ fd_RX7_71 hv_7_18 e72 dX7_meet_111 ?_
  refine lv_aload_n hx hb dX7_meet_114 rfl (lv_at hl 0 rfl) ?_
  obtain ⟨b73, e74, hf⟩ := mb0 hf
  refine my_gR hx hb hts hown hK hJ fd_RX7_62 hv_7_15 e74 dX7_meet_115 ?_
  obtain ⟨i75, e76, hf⟩ := mb0 hf
  obtain ⟨σ77, e78, hf⟩ := mb0 hf
  refine mx_callV (As := [.ref b71, .ref b73]) (rest := []) hx hb hml hts hown hK hJ rfl rfl (ci := 0) rfl e76 (c_X0_quotient l G P b69 b71 b73 σ67 σ77 e78) me_X0_quotient kw_759 kw_760 kw_758 (Nat.le_of_ble_eq_true rfl) (Nat.le_of_ble_eq_true rfl) rfl hl.1 rfl (Nat.le_of_ble_eq_true rfl) dX7_meet_118 (fun H locs hJ => ?_)
  exact my_vret hx hb hr hlocks hJ hf dX7_meet_121
set_option maxHeartbeats 4000000 in
set_option maxRecDepth 100000 in
theorem c_X7_speedDyad (l : Launch) (G : mx_G) (P : mx_P) (a0 : Nat) (a1 : Nat) (σ : mx_S) (σ' : mx_S) (hf : f_X7_speedDyad P a0 a1 σ = some σ') : mxz σ ≤ mpc P → mxu σ ≤ mps P → mx_M l yX7_speedDyad cX7_speedDyad 4 none 4 104 G P [.ref a0, .ref a1] σ none σ' := by
  intro hcap hcau
  refine mx_ofW (by decide +kernel) hcap hcau (Nat.le_of_ble_eq_true rfl) ?_
  intro p e s m below meth c hx hb hr hml hts hown hlocks hname hK hJ ls hl
  have hz0 := hJ.2.1
  have hown : s.vm.findClass RX7 = some m.cls := hown
  have hl : lv_has ls 4 [(0, .ref a0), (1, .ref a1)] := hl
  unfold f_X7_speedDyad at hf
  refine lv_aload_n hx hb dX7_speedDyad_0 rfl (lv_at hl 0 rfl) ?_
  obtain ⟨b1, e2, hf⟩ := mb0 hf
  refine my_gR hx hb hts hown hK hJ fd_RX7_11 hv_7_0 e2 dX7_speedDyad_1 ?_
  refine lv_aload_n hx hb dX7_speedDyad_4 rfl (lv_at hl 1 rfl) ?_
  obtain ⟨b3, e4, hf⟩ := mb0 hf
  refine my_gR hx hb hts hown hK hJ fd_RX7_167 hv_5_2 e4 dX7_speedDyad_5 ?_
  refine lv_iconst (v := 0) hx hb dX7_speedDyad_8 (by decide) ?_
  obtain ⟨x5, e6, hf⟩ := mb0 hf
  refine mx_aI hx hb hK hJ e6 dX7_speedDyad_9 ?_
  obtain ⟨b7, e8, hf⟩ := mb0 hf
  refine mx_aR hx hb hK hJ (t := 4) rfl (fun _ _ _ => rfl) e8 dX7_speedDyad_10 ?_
  refine lv_astore_n (lv' := [(2, .ref b7), (0, .ref a0), (1, .ref a1)]) hx hb dX7_speedDyad_11 rfl hl (by decide) rfl (fun ls hl => ?_)
  refine lv_aload_n hx hb dX7_speedDyad_12 rfl (lv_at hl 1 rfl) ?_
  obtain ⟨b9, e10, hf⟩ := mb0 hf
  refine my_gR hx hb hts hown hK hJ fd_RX7_11 hv_7_0 e10 dX7_speedDyad_13 ?_
  refine lv_aload_n hx hb dX7_speedDyad_16 rfl (lv_at hl 2 rfl) ?_
  obtain ⟨b11, e12, hf⟩ := mb0 hf
  refine my_gR hx hb hts hown hK hJ fd_RX7_167 hv_5_2 e12 dX7_speedDyad_17 ?_
  refine lv_iconst (v := 1) hx hb dX7_speedDyad_20 (by decide) ?_
  obtain ⟨x13, e14, hf⟩ := mb0 hf
  refine mx_aI hx hb hK hJ e14 dX7_speedDyad_21 ?_
  obtain ⟨b15, e16, hf⟩ := mb0 hf
  refine mx_aR hx hb hK hJ (t := 4) rfl (fun _ _ _ => rfl) e16 dX7_speedDyad_22 ?_
  refine lv_astore_n (lv' := [(3, .ref b15), (2, .ref b7), (0, .ref a0), (1, .ref a1)]) hx hb dX7_speedDyad_23 rfl hl (by decide) rfl (fun ls hl => ?_)
  refine lv_aload_n hx hb dX7_speedDyad_24 rfl (lv_at hl 2 rfl) ?_
  obtain ⟨b17, e18, hf⟩ := mb0 hf
  refine my_gR hx hb hts hown hK hJ fd_RX7_48 hv_7_11 e18 dX7_speedDyad_25 ?_
  refine lv_aload_n hx hb dX7_speedDyad_28 rfl (lv_at hl 3 rfl) ?_
  obtain ⟨b19, e20, hf⟩ := mb0 hf
  refine my_gR hx hb hts hown hK hJ fd_RX7_194 hv_5_12 e20 dX7_speedDyad_29 ?_
  refine lv_aload_n hx hb dX7_speedDyad_32 rfl (lv_at hl 1 rfl) ?_
  obtain ⟨b21, e22, hf⟩ := mb0 hf
  refine my_gR hx hb hts hown hK hJ fd_RX7_194 hv_5_12 e22 dX7_speedDyad_33 ?_
  obtain ⟨i23, e24, hf⟩ := mb0 hf
  obtain ⟨σ25, e26, hf⟩ := mb0 hf
  refine mx_callV (As := [.ref b19, .ref b21]) (rest := []) hx hb hml hts hown hK hJ rfl rfl (ci := 8) rfl e24 (c_X8_minus l G P b17 b19 b21 σ σ25 e26) me_X8_minus kw_730 kw_731 kw_729 (Nat.le_of_ble_eq_true rfl) (Nat.le_of_ble_eq_true rfl) rfl hl.1 rfl (Nat.le_of_ble_eq_true rfl) dX7_speedDyad_36 (fun H locs hJ => ?_)
  refine lv_aload_n hx hb dX7_speedDyad_39 rfl (lv_at hl 2 rfl) ?_
  obtain ⟨b27, e28, hf⟩ := mb0 hf
  refine my_gR hx hb hts hown hK hJ fd_RX7_52 hv_7_12 e28 dX7_speedDyad_40 ?_
  refine lv_aload_n hx hb dX7_speedDyad_43 rfl (lv_at hl 3 rfl) ?_
  obtain ⟨b29, e30, hf⟩ := mb0 hf
  refine my_gR hx hb hts hown hK hJ fd_RX7_194 hv_5_12 e30 dX7_speedDyad_44 ?_
  refine lv_aload_n hx hb dX7_speedDyad_47 rfl (lv_at hl 0 rfl) ?_
  obtain ⟨b31, e32, hf⟩ := mb0 hf
  refine my_gR hx hb hts hown hK hJ fd_RX7_194 hv_5_12 e32 dX7_speedDyad_48 ?_
  obtain ⟨i33, e34, hf⟩ := mb0 hf
  obtain ⟨σ35, e36, hf⟩ := mb0 hf
  refine mx_callV (As := [.ref b29, .ref b31]) (rest := []) hx hb hml hts hown hK hJ rfl rfl (ci := 8) rfl e34 (c_X8_minus l G P b27 b29 b31 σ25 σ35 e36) me_X8_minus kw_730 kw_731 kw_729 (Nat.le_of_ble_eq_true rfl) (Nat.le_of_ble_eq_true rfl) rfl hl.1 rfl (Nat.le_of_ble_eq_true rfl) dX7_speedDyad_51 (fun H locs hJ => ?_)
  refine lv_aload_n hx hb dX7_speedDyad_54 rfl (lv_at hl 2 rfl) ?_
  obtain ⟨b37, e38, hf⟩ := mb0 hf
  refine my_gR hx hb hts hown hK hJ fd_RX7_65 hv_7_16 e38 dX7_speedDyad_55 ?_
  refine lv_aload_n hx hb dX7_speedDyad_58 rfl (lv_at hl 2 rfl) ?_
  obtain ⟨b39, e40, hf⟩ := mb0 hf
  refine my_gR hx hb hts hown hK hJ fd_RX7_48 hv_7_11 e40 dX7_speedDyad_59 ?_
  refine lv_aload_n hx hb dX7_speedDyad_62 rfl (lv_at hl 1 rfl) ?_
  obtain ⟨b41, e42, hf⟩ := mb0 hf
  refine my_gR hx hb hts hown hK hJ fd_RX7_363 hv_5_14 e42 dX7_speedDyad_63 ?_
  obtain ⟨i43, e44, hf⟩ := mb0 hf
  obtain ⟨σ45, e46, hf⟩ := mb0 hf
  refine mx_callV (As := [.ref b39, .ref b41]) (rest := []) hx hb hml hts hown hK hJ rfl rfl (ci := 0) rfl e44 (c_X0_dot l G P b37 b39 b41 σ35 σ45 e46) me_X0_dot kw_789 kw_790 kw_788 (Nat.le_of_ble_eq_true rfl) (Nat.le_of_ble_eq_true rfl) rfl hl.1 rfl (Nat.le_of_ble_eq_true rfl) dX7_speedDyad_66 (fun H locs hJ => ?_)
  refine lv_aload_n hx hb dX7_speedDyad_69 rfl (lv_at hl 2 rfl) ?_
  obtain ⟨b47, e48, hf⟩ := mb0 hf
  refine my_gR hx hb hts hown hK hJ fd_RX7_68 hv_7_17 e48 dX7_speedDyad_70 ?_
  refine lv_aload_n hx hb dX7_speedDyad_73 rfl (lv_at hl 2 rfl) ?_
  obtain ⟨b49, e50, hf⟩ := mb0 hf
  refine my_gR hx hb hts hown hK hJ fd_RX7_52 hv_7_12 e50 dX7_speedDyad_74 ?_
  refine lv_aload_n hx hb dX7_speedDyad_77 rfl (lv_at hl 0 rfl) ?_
  obtain ⟨b51, e52, hf⟩ := mb0 hf
  refine my_gR hx hb hts hown hK hJ fd_RX7_363 hv_5_14 e52 dX7_speedDyad_78 ?_
  obtain ⟨i53, e54, hf⟩ := mb0 hf
  obtain ⟨σ55, e56, hf⟩ := mb0 hf
  refine mx_callV (As := [.ref b49, .ref b51]) (rest := []) hx hb hml hts hown hK hJ rfl rfl (ci := 0) rfl e54 (c_X0_dot l G P b47 b49 b51 σ45 σ55 e56) me_X0_dot kw_789 kw_790 kw_788 (Nat.le_of_ble_eq_true rfl) (Nat.le_of_ble_eq_true rfl) rfl hl.1 rfl (Nat.le_of_ble_eq_true rfl) dX7_speedDyad_81 (fun H locs hJ => ?_)
  refine lv_aload_n hx hb dX7_speedDyad_84 rfl (lv_at hl 2 rfl) ?_
  refine lv_aload_n hx hb dX7_speedDyad_85 rfl (lv_at hl 3 rfl) ?_
  obtain ⟨b57, e58, hf⟩ := mb0 hf
  refine my_gR hx hb hts hown hK hJ fd_RX7_363 hv_5_14 e58 dX7_speedDyad_86 ?_
  refine lv_aload_n hx hb dX7_speedDyad_89 rfl (lv_at hl 2 rfl) ?_
  obtain ⟨b59, e60, hf⟩ := mb0 hf
  refine my_gR hx hb hts hown hK hJ fd_RX7_48 hv_7_11 e60 dX7_speedDyad_90 ?_
  refine lv_aload_n hx hb dX7_speedDyad_93 rfl (lv_at hl 2 rfl) ?_
  obtain ⟨b61, e62, hf⟩ := mb0 hf
  refine my_gR hx hb hts hown hK hJ fd_RX7_52 hv_7_12 e62 dX7_speedDyad_94 ?_
  obtain ⟨i63, e64, hf⟩ := mb0 hf
  obtain ⟨σ65, e66, hf⟩ := mb0 hf
  refine mx_callV (As := [.ref b57, .ref b59, .ref b61]) (rest := []) hx hb hml hts hown hK hJ rfl rfl (ci := 7) rfl e64 (c_X7_meet l G P a0 b57 b59 b61 σ55 σ65 e66) me_X7_meet kw_1371 ks_43 kw_1369 (Nat.le_of_ble_eq_true rfl) (Nat.le_of_ble_eq_true rfl) rfl hl.1 rfl (Nat.le_of_ble_eq_true rfl) dX7_speedDyad_97 (fun H locs hJ => ?_)
  exact my_vret hx hb hr hlocks hJ hf dX7_speedDyad_100
set_option maxHeartbeats 4000000 in
set_option maxRecDepth 100000 in
theorem c_X7_drift (l : Launch) (G : mx_G) (P : mx_P) (a0 : Nat) (a1 : Nat) (a2 : Nat) (a3 : Nat) (a4 : Nat) (a5 : Nat) (σ : mx_S) (σ' : mx_S) (hf : f_X7_drift P a0 a1 a2 a3 a4 a5 σ = some σ') : mxz σ ≤ mpc P → mxu σ ≤ mps P → mx_M l yX7_drift cX7_drift 6 none 3 81 G P [.ref a0, .ref a1, .ref a2, .ref a3, .ref a4, .ref a5] σ none σ' := by
  intro hcap hcau
  refine mx_ofW (by decide +kernel) hcap hcau (Nat.le_of_ble_eq_true rfl) ?_
  intro p e s m below meth c hx hb hr hml hts hown hlocks hname hK hJ ls hl
  have hz0 := hJ.2.1
  have hown : s.vm.findClass RX7 = some m.cls := hown
  have hl : lv_has ls 6 [(0, .ref a0), (1, .ref a1), (2, .ref a2), (3, .ref a3), (4, .ref a4), (5, .ref a5)] := hl
  unfold f_X7_drift at hf
  refine lv_aload_n hx hb dX7_drift_0 rfl (lv_at hl 2 rfl) ?_
  refine lv_aload hx hb dX7_drift_1 (lv_at hl 5 rfl) ?_
  obtain ⟨b1, e2, hf⟩ := mb0 hf
  refine my_gR hx hb hts hown hK hJ fd_RX7_194 hv_5_12 e2 dX7_drift_3 ?_
  refine lv_aload hx hb dX7_drift_6 (lv_at hl 4 rfl) ?_
  obtain ⟨b3, e4, hf⟩ := mb0 hf
  refine my_gR hx hb hts hown hK hJ fd_RX7_194 hv_5_12 e4 dX7_drift_8 ?_
  obtain ⟨i5, e6, hf⟩ := mb0 hf
  obtain ⟨σ7, e8, hf⟩ := mb0 hf
  refine mx_callV (As := [.ref b1, .ref b3]) (rest := []) hx hb hml hts hown hK hJ rfl rfl (ci := 8) rfl e6 (c_X8_minus l G P a2 b1 b3 σ σ7 e8) me_X8_minus kw_730 kw_731 kw_729 (Nat.le_of_ble_eq_true rfl) (Nat.le_of_ble_eq_true rfl) rfl hl.1 rfl (Nat.le_of_ble_eq_true rfl) dX7_drift_11 (fun H locs hJ => ?_)
  refine lv_aload_n hx hb dX7_drift_14 rfl (lv_at hl 0 rfl) ?_
  obtain ⟨b9, e10, hf⟩ := mb0 hf
  refine my_gR hx hb hts hown hK hJ fd_RX7_55 hv_7_13 e10 dX7_drift_15 ?_
  refine lv_aload hx hb dX7_drift_18 (lv_at hl 5 rfl) ?_
  obtain ⟨b11, e12, hf⟩ := mb0 hf
  refine my_gR hx hb hts hown hK hJ fd_RX7_363 hv_5_14 e12 dX7_drift_20 ?_
  refine lv_aload hx hb dX7_drift_23 (lv_at hl 4 rfl) ?_
  obtain ⟨b13, e14, hf⟩ := mb0 hf
  refine my_gR hx hb hts hown hK hJ fd_RX7_363 hv_5_14 e14 dX7_drift_25 ?_
  obtain ⟨i15, e16, hf⟩ := mb0 hf
  obtain ⟨σ17, e18, hf⟩ := mb0 hf
  refine mx_callV (As := [.ref b11, .ref b13]) (rest := []) hx hb hml hts hown hK hJ rfl rfl (ci := 8) rfl e16 (c_X8_minus l G P b9 b11 b13 σ7 σ17 e18) me_X8_minus kw_730 kw_731 kw_729 (Nat.le_of_ble_eq_true rfl) (Nat.le_of_ble_eq_true rfl) rfl hl.1 rfl (Nat.le_of_ble_eq_true rfl) dX7_drift_28 (fun H locs hJ => ?_)
  refine lv_aload_n hx hb dX7_drift_31 rfl (lv_at hl 0 rfl) ?_
  obtain ⟨b19, e20, hf⟩ := mb0 hf
  refine my_gR hx hb hts hown hK hJ fd_RX7_58 hv_7_14 e20 dX7_drift_32 ?_
  refine lv_aload_n hx hb dX7_drift_35 rfl (lv_at hl 3 rfl) ?_
  obtain ⟨b21, e22, hf⟩ := mb0 hf
  refine my_gR hx hb hts hown hK hJ fd_RX7_194 hv_5_12 e22 dX7_drift_36 ?_
  refine lv_aload hx hb dX7_drift_39 (lv_at hl 4 rfl) ?_
  obtain ⟨b23, e24, hf⟩ := mb0 hf
  refine my_gR hx hb hts hown hK hJ fd_RX7_194 hv_5_12 e24 dX7_drift_41 ?_
  obtain ⟨i25, e26, hf⟩ := mb0 hf
  obtain ⟨σ27, e28, hf⟩ := mb0 hf
  refine mx_callV (As := [.ref b21, .ref b23]) (rest := []) hx hb hml hts hown hK hJ rfl rfl (ci := 8) rfl e26 (c_X8_minus l G P b19 b21 b23 σ17 σ27 e28) me_X8_minus kw_730 kw_731 kw_729 (Nat.le_of_ble_eq_true rfl) (Nat.le_of_ble_eq_true rfl) rfl hl.1 rfl (Nat.le_of_ble_eq_true rfl) dX7_drift_44 (fun H locs hJ => ?_)
  refine lv_aload_n hx hb dX7_drift_47 rfl (lv_at hl 0 rfl) ?_
  obtain ⟨b29, e30, hf⟩ := mb0 hf
  refine my_gR hx hb hts hown hK hJ fd_RX7_71 hv_7_18 e30 dX7_drift_48 ?_
  refine lv_aload_n hx hb dX7_drift_51 rfl (lv_at hl 0 rfl) ?_
  obtain ⟨b31, e32, hf⟩ := mb0 hf
  refine my_gR hx hb hts hown hK hJ fd_RX7_58 hv_7_14 e32 dX7_drift_52 ?_
  refine lv_aload_n hx hb dX7_drift_55 rfl (lv_at hl 0 rfl) ?_
  obtain ⟨b33, e34, hf⟩ := mb0 hf
  refine my_gR hx hb hts hown hK hJ fd_RX7_55 hv_7_13 e34 dX7_drift_56 ?_
  obtain ⟨i35, e36, hf⟩ := mb0 hf
  obtain ⟨σ37, e38, hf⟩ := mb0 hf
  refine mx_callV (As := [.ref b31, .ref b33]) (rest := []) hx hb hml hts hown hK hJ rfl rfl (ci := 0) rfl e36 (c_X0_cross l G P b29 b31 b33 σ27 σ37 e38) me_X0_cross kw_802 kw_803 kw_801 (Nat.le_of_ble_eq_true rfl) (Nat.le_of_ble_eq_true rfl) rfl hl.1 rfl (Nat.le_of_ble_eq_true rfl) dX7_drift_59 (fun H locs hJ => ?_)
  refine lv_aload_n hx hb dX7_drift_62 rfl (lv_at hl 1 rfl) ?_
  refine lv_aload hx hb dX7_drift_63 (lv_at hl 4 rfl) ?_
  obtain ⟨b39, e40, hf⟩ := mb0 hf
  refine my_gR hx hb hts hown hK hJ fd_RX7_363 hv_5_14 e40 dX7_drift_65 ?_
  refine lv_aload_n hx hb dX7_drift_68 rfl (lv_at hl 2 rfl) ?_
  obtain ⟨i41, e42, hf⟩ := mb0 hf
  obtain ⟨σ43, e44, hf⟩ := mb0 hf
  refine mx_callV (As := [.ref b39, .ref a2]) (rest := []) hx hb hml hts hown hK hJ rfl rfl (ci := 0) rfl e42 (c_X0_cross l G P a1 b39 a2 σ37 σ43 e44) me_X0_cross kw_802 kw_803 kw_801 (Nat.le_of_ble_eq_true rfl) (Nat.le_of_ble_eq_true rfl) rfl hl.1 rfl (Nat.le_of_ble_eq_true rfl) dX7_drift_69 (fun H locs hJ => ?_)
  refine lv_aload_n hx hb dX7_drift_72 rfl (lv_at hl 1 rfl) ?_
  refine lv_aload_n hx hb dX7_drift_73 rfl (lv_at hl 1 rfl) ?_
  refine lv_aload_n hx hb dX7_drift_74 rfl (lv_at hl 0 rfl) ?_
  obtain ⟨b45, e46, hf⟩ := mb0 hf
  refine my_gR hx hb hts hown hK hJ fd_RX7_71 hv_7_18 e46 dX7_drift_75 ?_
  obtain ⟨i47, e48, hf⟩ := mb0 hf
  obtain ⟨σ49, e50, hf⟩ := mb0 hf
  refine mx_callV (As := [.ref a1, .ref b45]) (rest := []) hx hb hml hts hown hK hJ rfl rfl (ci := 0) rfl e48 (c_X0_minus l G P a1 a1 b45 σ43 σ49 e50) me_X0_minus kw_734 kw_735 kw_749 (Nat.le_of_ble_eq_true rfl) (Nat.le_of_ble_eq_true rfl) rfl hl.1 rfl (Nat.le_of_ble_eq_true rfl) dX7_drift_78 (fun H locs hJ => ?_)
  exact my_vret hx hb hr hlocks hJ hf dX7_drift_81
set_option maxHeartbeats 4000000 in
set_option maxRecDepth 100000 in
theorem c_X7_speedSlide (l : Launch) (G : mx_G) (P : mx_P) (a0 : Nat) (a1 : Nat) (σ : mx_S) (σ' : mx_S) (hf : f_X7_speedSlide P a0 a1 σ = some σ') : mxz σ ≤ mpc P → mxu σ ≤ mps P → mx_M l yX7_speedSlide cX7_speedSlide 3 none 4 106 G P [.ref a0, .ref a1] σ none σ' := by
  intro hcap hcau
  refine mx_ofW (by decide +kernel) hcap hcau (Nat.le_of_ble_eq_true rfl) ?_
  intro p e s m below meth c hx hb hr hml hts hown hlocks hname hK hJ ls hl
  have hz0 := hJ.2.1
  have hown : s.vm.findClass RX7 = some m.cls := hown
  have hl : lv_has ls 3 [(0, .ref a0), (1, .ref a1)] := hl
  unfold f_X7_speedSlide at hf
  refine lv_aload_n hx hb dX7_speedSlide_0 rfl (lv_at hl 0 rfl) ?_
  obtain ⟨b1, e2, hf⟩ := mb0 hf
  refine my_gR hx hb hts hown hK hJ fd_RX7_11 hv_7_0 e2 dX7_speedSlide_1 ?_
  refine lv_aload_n hx hb dX7_speedSlide_4 rfl (lv_at hl 1 rfl) ?_
  obtain ⟨b3, e4, hf⟩ := mb0 hf
  refine my_gR hx hb hts hown hK hJ fd_RX7_167 hv_5_2 e4 dX7_speedSlide_5 ?_
  refine lv_iconst (v := 0) hx hb dX7_speedSlide_8 (by decide) ?_
  obtain ⟨x5, e6, hf⟩ := mb0 hf
  refine mx_aI hx hb hK hJ e6 dX7_speedSlide_9 ?_
  obtain ⟨b7, e8, hf⟩ := mb0 hf
  refine mx_aR hx hb hK hJ (t := 4) rfl (fun _ _ _ => rfl) e8 dX7_speedSlide_10 ?_
  refine lv_astore_n (lv' := [(2, .ref b7), (0, .ref a0), (1, .ref a1)]) hx hb dX7_speedSlide_11 rfl hl (by decide) rfl (fun ls hl => ?_)
  refine lv_aload_n hx hb dX7_speedSlide_12 rfl (lv_at hl 1 rfl) ?_
  refine lv_aload_n hx hb dX7_speedSlide_13 rfl (lv_at hl 1 rfl) ?_
  obtain ⟨b9, e10, hf⟩ := mb0 hf
  refine my_gR hx hb hts hown hK hJ fd_RX7_68 hv_7_17 e10 dX7_speedSlide_14 ?_
  refine lv_aload_n hx hb dX7_speedSlide_17 rfl (lv_at hl 1 rfl) ?_
  obtain ⟨b11, e12, hf⟩ := mb0 hf
  refine my_gR hx hb hts hown hK hJ fd_RX7_52 hv_7_12 e12 dX7_speedSlide_18 ?_
  refine lv_aload_n hx hb dX7_speedSlide_21 rfl (lv_at hl 2 rfl) ?_
  refine lv_aload_n hx hb dX7_speedSlide_22 rfl (lv_at hl 1 rfl) ?_
  obtain ⟨b13, e14, hf⟩ := mb0 hf
  refine my_gR hx hb hts hown hK hJ fd_RX7_11 hv_7_0 e14 dX7_speedSlide_23 ?_
  refine lv_aload_n hx hb dX7_speedSlide_26 rfl (lv_at hl 2 rfl) ?_
  obtain ⟨b15, e16, hf⟩ := mb0 hf
  refine my_gR hx hb hts hown hK hJ fd_RX7_167 hv_5_2 e16 dX7_speedSlide_27 ?_
  refine lv_iconst (v := 1) hx hb dX7_speedSlide_30 (by decide) ?_
  obtain ⟨x17, e18, hf⟩ := mb0 hf
  refine mx_aI hx hb hK hJ e18 dX7_speedSlide_31 ?_
  obtain ⟨b19, e20, hf⟩ := mb0 hf
  refine mx_aR hx hb hK hJ (t := 4) rfl (fun _ _ _ => rfl) e20 dX7_speedSlide_32 ?_
  refine lv_aload_n hx hb dX7_speedSlide_33 rfl (lv_at hl 1 rfl) ?_
  obtain ⟨b21, e22, hf⟩ := mb0 hf
  refine my_gR hx hb hts hown hK hJ fd_RX7_11 hv_7_0 e22 dX7_speedSlide_34 ?_
  refine lv_aload_n hx hb dX7_speedSlide_37 rfl (lv_at hl 2 rfl) ?_
  obtain ⟨b23, e24, hf⟩ := mb0 hf
  refine my_gR hx hb hts hown hK hJ fd_RX7_167 hv_5_2 e24 dX7_speedSlide_38 ?_
  refine lv_iconst (v := 2) hx hb dX7_speedSlide_41 (by decide) ?_
  obtain ⟨x25, e26, hf⟩ := mb0 hf
  refine mx_aI hx hb hK hJ e26 dX7_speedSlide_42 ?_
  obtain ⟨b27, e28, hf⟩ := mb0 hf
  refine mx_aR hx hb hK hJ (t := 4) rfl (fun _ _ _ => rfl) e28 dX7_speedSlide_43 ?_
  obtain ⟨i29, e30, hf⟩ := mb0 hf
  obtain ⟨σ31, e32, hf⟩ := mb0 hf
  refine mx_callV (As := [.ref b9, .ref b11, .ref a1, .ref b19, .ref b27]) (rest := []) hx hb hml hts hown hK hJ rfl rfl (ci := 7) rfl e30 (c_X7_drift l G P a0 b9 b11 a1 b19 b27 σ σ31 e32) me_X7_drift kw_1379 ks_45 kw_1377 (Nat.le_of_ble_eq_true rfl) (Nat.le_of_ble_eq_true rfl) rfl hl.1 rfl (Nat.le_of_ble_eq_true rfl) dX7_speedSlide_44 (fun H locs hJ => ?_)
  refine lv_aload_n hx hb dX7_speedSlide_47 rfl (lv_at hl 1 rfl) ?_
  obtain ⟨b33, e34, hf⟩ := mb0 hf
  refine my_gR hx hb hts hown hK hJ fd_RX7_48 hv_7_11 e34 dX7_speedSlide_48 ?_
  refine lv_aload_n hx hb dX7_speedSlide_51 rfl (lv_at hl 2 rfl) ?_
  obtain ⟨b35, e36, hf⟩ := mb0 hf
  refine my_gR hx hb hts hown hK hJ fd_RX7_194 hv_5_12 e36 dX7_speedSlide_52 ?_
  refine lv_aload_n hx hb dX7_speedSlide_55 rfl (lv_at hl 0 rfl) ?_
  obtain ⟨b37, e38, hf⟩ := mb0 hf
  refine my_gR hx hb hts hown hK hJ fd_RX7_194 hv_5_12 e38 dX7_speedSlide_56 ?_
  obtain ⟨i39, e40, hf⟩ := mb0 hf
  obtain ⟨σ41, e42, hf⟩ := mb0 hf
  refine mx_callV (As := [.ref b35, .ref b37]) (rest := []) hx hb hml hts hown hK hJ rfl rfl (ci := 8) rfl e40 (c_X8_minus l G P b33 b35 b37 σ31 σ41 e42) me_X8_minus kw_730 kw_731 kw_729 (Nat.le_of_ble_eq_true rfl) (Nat.le_of_ble_eq_true rfl) rfl hl.1 rfl (Nat.le_of_ble_eq_true rfl) dX7_speedSlide_59 (fun H locs hJ => ?_)
  refine lv_aload_n hx hb dX7_speedSlide_62 rfl (lv_at hl 1 rfl) ?_
  obtain ⟨b43, e44, hf⟩ := mb0 hf
  refine my_gR hx hb hts hown hK hJ fd_RX7_65 hv_7_16 e44 dX7_speedSlide_63 ?_
  refine lv_aload_n hx hb dX7_speedSlide_66 rfl (lv_at hl 1 rfl) ?_
  obtain ⟨b45, e46, hf⟩ := mb0 hf
  refine my_gR hx hb hts hown hK hJ fd_RX7_48 hv_7_11 e46 dX7_speedSlide_67 ?_
  refine lv_aload_n hx hb dX7_speedSlide_70 rfl (lv_at hl 0 rfl) ?_
  obtain ⟨b47, e48, hf⟩ := mb0 hf
  refine my_gR hx hb hts hown hK hJ fd_RX7_363 hv_5_14 e48 dX7_speedSlide_71 ?_
  obtain ⟨i49, e50, hf⟩ := mb0 hf
  obtain ⟨σ51, e52, hf⟩ := mb0 hf
  refine mx_callV (As := [.ref b45, .ref b47]) (rest := []) hx hb hml hts hown hK hJ rfl rfl (ci := 0) rfl e50 (c_X0_dot l G P b43 b45 b47 σ41 σ51 e52) me_X0_dot kw_789 kw_790 kw_788 (Nat.le_of_ble_eq_true rfl) (Nat.le_of_ble_eq_true rfl) rfl hl.1 rfl (Nat.le_of_ble_eq_true rfl) dX7_speedSlide_74 (fun H locs hJ => ?_)
  refine lv_aload_n hx hb dX7_speedSlide_77 rfl (lv_at hl 1 rfl) ?_
  obtain ⟨b53, e54, hf⟩ := mb0 hf
  refine my_gR hx hb hts hown hK hJ fd_RX7_62 hv_7_15 e54 dX7_speedSlide_78 ?_
  refine lv_aload_n hx hb dX7_speedSlide_81 rfl (lv_at hl 1 rfl) ?_
  obtain ⟨b55, e56, hf⟩ := mb0 hf
  refine my_gR hx hb hts hown hK hJ fd_RX7_48 hv_7_11 e56 dX7_speedSlide_82 ?_
  refine lv_aload_n hx hb dX7_speedSlide_85 rfl (lv_at hl 1 rfl) ?_
  obtain ⟨b57, e58, hf⟩ := mb0 hf
  refine my_gR hx hb hts hown hK hJ fd_RX7_52 hv_7_12 e58 dX7_speedSlide_86 ?_
  obtain ⟨i59, e60, hf⟩ := mb0 hf
  obtain ⟨σ61, e62, hf⟩ := mb0 hf
  refine mx_callV (As := [.ref b55, .ref b57]) (rest := []) hx hb hml hts hown hK hJ rfl rfl (ci := 0) rfl e60 (c_X0_dot l G P b53 b55 b57 σ51 σ61 e62) me_X0_dot kw_789 kw_790 kw_788 (Nat.le_of_ble_eq_true rfl) (Nat.le_of_ble_eq_true rfl) rfl hl.1 rfl (Nat.le_of_ble_eq_true rfl) dX7_speedSlide_89 (fun H locs hJ => ?_)
  refine lv_aload_n hx hb dX7_speedSlide_92 rfl (lv_at hl 1 rfl) ?_
  obtain ⟨b63, e64, hf⟩ := mb0 hf
  refine my_gR hx hb hts hown hK hJ fd_RX7_62 hv_7_15 e64 dX7_speedSlide_93 ?_
  refine lv_aload_n hx hb dX7_speedSlide_96 rfl (lv_at hl 1 rfl) ?_
  obtain ⟨b65, e66, hf⟩ := mb0 hf
  refine my_gR hx hb hts hown hK hJ fd_RX7_62 hv_7_15 e66 dX7_speedSlide_97 ?_
  obtain ⟨i67, e68, hf⟩ := mb0 hf
  obtain ⟨σ69, e70, hf⟩ := mb0 hf
  refine mx_callV (As := [.ref b65]) (rest := []) hx hb hml hts hown hK hJ rfl rfl (ci := 0) rfl e68 (c_X0_negative l G P b63 b65 σ61 σ69 e70) me_X0_negative kw_687 kw_688 kw_686 (Nat.le_of_ble_eq_true rfl) (Nat.le_of_ble_eq_true rfl) rfl hl.1 rfl (Nat.le_of_ble_eq_true rfl) dX7_speedSlide_100 (fun H locs hJ => ?_)
  refine lv_aload_n hx hb dX7_speedSlide_103 rfl (lv_at hl 1 rfl) ?_
  obtain ⟨b71, e72, hf⟩ := mb0 hf
  refine my_gR hx hb hts hown hK hJ fd_RX7_71 hv_7_18 e72 dX7_speedSlide_104 ?_
  refine lv_lconst (v := 0) hx hb dX7_speedSlide_107 (by decide) ?_
  refine lv_lconst (v := 0) hx hb dX7_speedSlide_108 (by decide) ?_
  obtain ⟨i73, e74, hf⟩ := mb0 hf
  obtain ⟨σ75, e76, hf⟩ := mb0 hf
  refine mx_callV (As := [.long (0 : Int64), .long (0 : Int64)]) (rest := []) hx hb hml hts hown hK hJ rfl rfl (ci := 0) rfl e74 (c_X0_keep l G P b71 (0 : Int64) (0 : Int64) σ69 σ75 e76) me_X0_keep kw_480 kw_481 kw_479 (Nat.le_of_ble_eq_true rfl) (Nat.le_of_ble_eq_true rfl) rfl hl.1 rfl (Nat.le_of_ble_eq_true rfl) dX7_speedSlide_109 (fun H locs hJ => ?_)
  refine lv_aload_n hx hb dX7_speedSlide_112 rfl (lv_at hl 1 rfl) ?_
  obtain ⟨b77, e78, hf⟩ := mb0 hf
  refine my_gR hx hb hts hown hK hJ fd_RX7_71 hv_7_18 e78 dX7_speedSlide_113 ?_
  refine lv_iconst (v := (-1)) hx hb dX7_speedSlide_116 (by decide) ?_
  refine lv_aload_n hx hb dX7_speedSlide_117 rfl (lv_at hl 1 rfl) ?_
  obtain ⟨b79, e80, hf⟩ := mb0 hf
  refine my_gR hx hb hts hown hK hJ fd_RX7_52 hv_7_12 e80 dX7_speedSlide_118 ?_
  obtain ⟨b81, e82, hf⟩ := mb0 hf
  refine my_gR hx hb hts hown hK hJ fd_RX7_30 hv_8_0 e82 dX7_speedSlide_121 ?_
  refine lv_aload_n hx hb dX7_speedSlide_124 rfl (lv_at hl 1 rfl) ?_
  obtain ⟨b83, e84, hf⟩ := mb0 hf
  refine my_gR hx hb hts hown hK hJ fd_RX7_65 hv_7_16 e84 dX7_speedSlide_125 ?_
  obtain ⟨i85, e86, hf⟩ := mb0 hf
  obtain ⟨σ87, e88, hf⟩ := mb0 hf
  refine mx_callV (As := [.int (-1 : Int32), .ref b81, .ref b83]) (rest := []) hx hb hml hts hown hK hJ rfl rfl (ci := 0) rfl e86 (c_X0_addProduct l G P b77 (-1 : Int32) b81 b83 σ75 σ87 e88) me_X0_addProduct kw_705 kw_706 kw_764 (Nat.le_of_ble_eq_true rfl) (Nat.le_of_ble_eq_true rfl) rfl hl.1 rfl (Nat.le_of_ble_eq_true rfl) dX7_speedSlide_128 (fun H locs hJ => ?_)
  refine lv_aload_n hx hb dX7_speedSlide_131 rfl (lv_at hl 1 rfl) ?_
  obtain ⟨b89, e90, hf⟩ := mb0 hf
  refine my_gR hx hb hts hown hK hJ fd_RX7_71 hv_7_18 e90 dX7_speedSlide_132 ?_
  refine lv_iconst (v := (-1)) hx hb dX7_speedSlide_135 (by decide) ?_
  refine lv_aload_n hx hb dX7_speedSlide_136 rfl (lv_at hl 1 rfl) ?_
  obtain ⟨b91, e92, hf⟩ := mb0 hf
  refine my_gR hx hb hts hown hK hJ fd_RX7_48 hv_7_11 e92 dX7_speedSlide_137 ?_
  obtain ⟨b93, e94, hf⟩ := mb0 hf
  refine my_gR hx hb hts hown hK hJ fd_RX7_241 hv_8_1 e94 dX7_speedSlide_140 ?_
  refine lv_aload_n hx hb dX7_speedSlide_143 rfl (lv_at hl 1 rfl) ?_
  obtain ⟨b95, e96, hf⟩ := mb0 hf
  refine my_gR hx hb hts hown hK hJ fd_RX7_68 hv_7_17 e96 dX7_speedSlide_144 ?_
  obtain ⟨i97, e98, hf⟩ := mb0 hf
  obtain ⟨σ99, e100, hf⟩ := mb0 hf
  refine mx_callV (As := [.int (-1 : Int32), .ref b93, .ref b95]) (rest := []) hx hb hml hts hown hK hJ rfl rfl (ci := 0) rfl e98 (c_X0_addProduct l G P b89 (-1 : Int32) b93 b95 σ87 σ99 e100) me_X0_addProduct kw_705 kw_706 kw_764 (Nat.le_of_ble_eq_true rfl) (Nat.le_of_ble_eq_true rfl) rfl hl.1 rfl (Nat.le_of_ble_eq_true rfl) dX7_speedSlide_147 (fun H locs hJ => ?_)
  refine lv_aload_n hx hb dX7_speedSlide_150 rfl (lv_at hl 2 rfl) ?_
  obtain ⟨b101, e102, hf⟩ := mb0 hf
  refine my_gR hx hb hts hown hK hJ fd_RX7_363 hv_5_14 e102 dX7_speedSlide_151 ?_
  obtain ⟨b103, e104, hf⟩ := mb0 hf
  refine my_gR hx hb hts hown hK hJ fd_RX7_30 hv_8_0 e104 dX7_speedSlide_154 ?_
  refine lv_aload_n hx hb dX7_speedSlide_157 rfl (lv_at hl 1 rfl) ?_
  obtain ⟨b105, e106, hf⟩ := mb0 hf
  refine my_gR hx hb hts hown hK hJ fd_RX7_71 hv_7_18 e106 dX7_speedSlide_158 ?_
  refine lv_aload_n hx hb dX7_speedSlide_161 rfl (lv_at hl 1 rfl) ?_
  obtain ⟨b107, e108, hf⟩ := mb0 hf
  refine my_gR hx hb hts hown hK hJ fd_RX7_62 hv_7_15 e108 dX7_speedSlide_162 ?_
  obtain ⟨i109, e110, hf⟩ := mb0 hf
  obtain ⟨σ111, e112, hf⟩ := mb0 hf
  refine mx_callV (As := [.ref b105, .ref b107]) (rest := []) hx hb hml hts hown hK hJ rfl rfl (ci := 0) rfl e110 (c_X0_quotient l G P b103 b105 b107 σ99 σ111 e112) me_X0_quotient kw_759 kw_760 kw_758 (Nat.le_of_ble_eq_true rfl) (Nat.le_of_ble_eq_true rfl) rfl hl.1 rfl (Nat.le_of_ble_eq_true rfl) dX7_speedSlide_165 (fun H locs hJ => ?_)
  refine lv_aload_n hx hb dX7_speedSlide_168 rfl (lv_at hl 1 rfl) ?_
  obtain ⟨b113, e114, hf⟩ := mb0 hf
  refine my_gR hx hb hts hown hK hJ fd_RX7_71 hv_7_18 e114 dX7_speedSlide_169 ?_
  refine lv_lconst (v := 0) hx hb dX7_speedSlide_172 (by decide) ?_
  refine lv_lconst (v := 0) hx hb dX7_speedSlide_173 (by decide) ?_
  obtain ⟨i115, e116, hf⟩ := mb0 hf
  obtain ⟨σ117, e118, hf⟩ := mb0 hf
  refine mx_callV (As := [.long (0 : Int64), .long (0 : Int64)]) (rest := []) hx hb hml hts hown hK hJ rfl rfl (ci := 0) rfl e116 (c_X0_keep l G P b113 (0 : Int64) (0 : Int64) σ111 σ117 e118) me_X0_keep kw_480 kw_481 kw_479 (Nat.le_of_ble_eq_true rfl) (Nat.le_of_ble_eq_true rfl) rfl hl.1 rfl (Nat.le_of_ble_eq_true rfl) dX7_speedSlide_174 (fun H locs hJ => ?_)
  refine lv_aload_n hx hb dX7_speedSlide_177 rfl (lv_at hl 1 rfl) ?_
  obtain ⟨b119, e120, hf⟩ := mb0 hf
  refine my_gR hx hb hts hown hK hJ fd_RX7_71 hv_7_18 e120 dX7_speedSlide_178 ?_
  refine lv_iconst (v := 1) hx hb dX7_speedSlide_181 (by decide) ?_
  refine lv_aload_n hx hb dX7_speedSlide_182 rfl (lv_at hl 1 rfl) ?_
  obtain ⟨b121, e122, hf⟩ := mb0 hf
  refine my_gR hx hb hts hown hK hJ fd_RX7_48 hv_7_11 e122 dX7_speedSlide_183 ?_
  obtain ⟨b123, e124, hf⟩ := mb0 hf
  refine my_gR hx hb hts hown hK hJ fd_RX7_30 hv_8_0 e124 dX7_speedSlide_186 ?_
  refine lv_aload_n hx hb dX7_speedSlide_189 rfl (lv_at hl 1 rfl) ?_
  obtain ⟨b125, e126, hf⟩ := mb0 hf
  refine my_gR hx hb hts hown hK hJ fd_RX7_68 hv_7_17 e126 dX7_speedSlide_190 ?_
  obtain ⟨i127, e128, hf⟩ := mb0 hf
  obtain ⟨σ129, e130, hf⟩ := mb0 hf
  refine mx_callV (As := [.int (1 : Int32), .ref b123, .ref b125]) (rest := []) hx hb hml hts hown hK hJ rfl rfl (ci := 0) rfl e128 (c_X0_addProduct l G P b119 (1 : Int32) b123 b125 σ117 σ129 e130) me_X0_addProduct kw_705 kw_706 kw_764 (Nat.le_of_ble_eq_true rfl) (Nat.le_of_ble_eq_true rfl) rfl hl.1 rfl (Nat.le_of_ble_eq_true rfl) dX7_speedSlide_193 (fun H locs hJ => ?_)
  refine lv_aload_n hx hb dX7_speedSlide_196 rfl (lv_at hl 1 rfl) ?_
  obtain ⟨b131, e132, hf⟩ := mb0 hf
  refine my_gR hx hb hts hown hK hJ fd_RX7_71 hv_7_18 e132 dX7_speedSlide_197 ?_
  refine lv_iconst (v := (-1)) hx hb dX7_speedSlide_200 (by decide) ?_
  refine lv_aload_n hx hb dX7_speedSlide_201 rfl (lv_at hl 1 rfl) ?_
  obtain ⟨b133, e134, hf⟩ := mb0 hf
  refine my_gR hx hb hts hown hK hJ fd_RX7_52 hv_7_12 e134 dX7_speedSlide_202 ?_
  obtain ⟨b135, e136, hf⟩ := mb0 hf
  refine my_gR hx hb hts hown hK hJ fd_RX7_241 hv_8_1 e136 dX7_speedSlide_205 ?_
  refine lv_aload_n hx hb dX7_speedSlide_208 rfl (lv_at hl 1 rfl) ?_
  obtain ⟨b137, e138, hf⟩ := mb0 hf
  refine my_gR hx hb hts hown hK hJ fd_RX7_65 hv_7_16 e138 dX7_speedSlide_209 ?_
  obtain ⟨i139, e140, hf⟩ := mb0 hf
  obtain ⟨σ141, e142, hf⟩ := mb0 hf
  refine mx_callV (As := [.int (-1 : Int32), .ref b135, .ref b137]) (rest := []) hx hb hml hts hown hK hJ rfl rfl (ci := 0) rfl e140 (c_X0_addProduct l G P b131 (-1 : Int32) b135 b137 σ129 σ141 e142) me_X0_addProduct kw_705 kw_706 kw_764 (Nat.le_of_ble_eq_true rfl) (Nat.le_of_ble_eq_true rfl) rfl hl.1 rfl (Nat.le_of_ble_eq_true rfl) dX7_speedSlide_212 (fun H locs hJ => ?_)
  refine lv_aload_n hx hb dX7_speedSlide_215 rfl (lv_at hl 2 rfl) ?_
  obtain ⟨b143, e144, hf⟩ := mb0 hf
  refine my_gR hx hb hts hown hK hJ fd_RX7_363 hv_5_14 e144 dX7_speedSlide_216 ?_
  obtain ⟨b145, e146, hf⟩ := mb0 hf
  refine my_gR hx hb hts hown hK hJ fd_RX7_241 hv_8_1 e146 dX7_speedSlide_219 ?_
  refine lv_aload_n hx hb dX7_speedSlide_222 rfl (lv_at hl 1 rfl) ?_
  obtain ⟨b147, e148, hf⟩ := mb0 hf
  refine my_gR hx hb hts hown hK hJ fd_RX7_71 hv_7_18 e148 dX7_speedSlide_223 ?_
  refine lv_aload_n hx hb dX7_speedSlide_226 rfl (lv_at hl 1 rfl) ?_
  obtain ⟨b149, e150, hf⟩ := mb0 hf
  refine my_gR hx hb hts hown hK hJ fd_RX7_62 hv_7_15 e150 dX7_speedSlide_227 ?_
  obtain ⟨i151, e152, hf⟩ := mb0 hf
  obtain ⟨σ153, e154, hf⟩ := mb0 hf
  refine mx_callV (As := [.ref b147, .ref b149]) (rest := []) hx hb hml hts hown hK hJ rfl rfl (ci := 0) rfl e152 (c_X0_quotient l G P b145 b147 b149 σ141 σ153 e154) me_X0_quotient kw_759 kw_760 kw_758 (Nat.le_of_ble_eq_true rfl) (Nat.le_of_ble_eq_true rfl) rfl hl.1 rfl (Nat.le_of_ble_eq_true rfl) dX7_speedSlide_230 (fun H locs hJ => ?_)
  exact my_vret hx hb hr hlocks hJ hf dX7_speedSlide_233
