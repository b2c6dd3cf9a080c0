set_option maxHeartbeats 4000000 in
set_option maxRecDepth 100000 in
theorem c_X12_slope (l : Launch) (G : mx_G) (P : mx_P) (a0 : Nat) (p1 : Int32) (σ : mx_S) (σ' : mx_S) (hf : f_X12_slope P a0 p1 σ = some σ') : mxz σ ≤ mpc P → mxu σ ≤ mps P → mx_M l yX12_slope cX12_slope 2 none 5 140 G P [.ref a0, .int p1] σ none σ' := by
  intro hcap hcau
  refine mx_ofW (by decide +kernel) hcap hcau (Nat.le_of_ble_eq_true rfl) ?_
  intro p e s m below meth c hx hb hr hml hts hown hlocks hname hK hJ ls hl
  have hz0 := hJ.2.1
  have hown : s.vm.findClass RX12 = some m.cls := hown
  have hl : lv_has ls 2 [(0, .ref a0), (1, .int p1)] := hl
  have D73 : ∀  (τ : mx_S), f_X12_slope_D73 P  τ = some σ' → ∀ (H : Heap) (locs : List Loc), mx_J G P s.heap (mxz σ) (mxu σ) τ H locs → ∀ ls : Array Slot, lv_has ls 2 [] → W p l e (mx_rm P 5 140 σ) s m ([.ref a0, .int p1] : List Value).toArray below meth c H locs (mxz τ - mxz σ) (mxu τ - mxu σ) (mx_Z below G P none σ σ' [.ref a0, .int p1] s) (F0 m 73 ls []) := by
    intro  τ hf _ _ hJ ls hl
    unfold f_X12_slope_D73 at hf
    exact my_vret hx hb hr hlocks hJ hf dX12_slope_73
  have D56 : ∀ (v0 : Nat) (v1 : Int32) (w0 : Int64) (w1 : Nat) (τ : mx_S), f_X12_slope_D56 P v0 v1 w0 w1 τ = some σ' → ∀ (H : Heap) (locs : List Loc), mx_J G P s.heap (mxz σ) (mxu σ) τ H locs → ∀ ls : Array Slot, lv_has ls 2 [(0, .ref v0), (1, .int v1)] → W p l e (mx_rm P 5 140 σ) s m ([.ref a0, .int p1] : List Value).toArray below meth c H locs (mxz τ - mxz σ) (mxu τ - mxu σ) (mx_Z below G P none σ σ' [.ref a0, .int p1] s) (F0 m 56 ls [.long w0, .ref w1]) := by
    intro v0 v1 w0 w1 τ hf _ _ hJ ls hl
    unfold f_X12_slope_D56 at hf
    refine lv_aload_n hx hb dX12_slope_56 rfl (lv_at hl 0 rfl) ?_
    obtain ⟨b24, e25, hf⟩ := mb0 hf
    refine my_gR hx hb hts hown hK hJ fd_RX12_165 hv_12_78 e25 dX12_slope_57 ?_
    refine lv_iload_n hx hb dX12_slope_60 rfl (lv_at hl 1 rfl) ?_
    obtain ⟨x26, e27, hf⟩ := mb0 hf
    refine mx_aL hx hb hK hJ e27 dX12_slope_61 ?_
    refine lv_aload_n hx hb dX12_slope_62 rfl (lv_at hl 0 rfl) ?_
    obtain ⟨b28, e29, hf⟩ := mb0 hf
    refine my_gR hx hb hts hown hK hJ fd_RX12_159 hv_12_76 e29 dX12_slope_63 ?_
    refine lv_iload_n hx hb dX12_slope_66 rfl (lv_at hl 1 rfl) ?_
    obtain ⟨x30, e31, hf⟩ := mb0 hf
    refine mx_aI hx hb hK hJ e31 dX12_slope_67 ?_
    refine lv_i2l hx hb dX12_slope_68 rfl ?_
    refine lv_lconst (v := 1) hx hb dX12_slope_69 (by decide) ?_
    obtain ⟨i32, e33, hf⟩ := mb0 hf
    obtain ⟨σ34, e35, hf⟩ := mb0 hf
    refine mx_callV (As := [.long w0, .long x26, .long (x30.toInt64), .long (1 : Int64)]) (rest := []) hx hb hml hts hown hK hJ rfl rfl (ci := 12) rfl e33 (c_X12_by l G P w1 w0 x26 (x30.toInt64) (1 : Int64) τ σ34 e35) me_X12_by kw_2646 ks_150 kw_2644 (Nat.le_of_ble_eq_true rfl) (Nat.le_of_ble_eq_true rfl) rfl hl.1 rfl (Nat.le_of_ble_eq_true rfl) dX12_slope_70 (fun H locs hJ => ?_)
    exact D73  σ34 hf _ _ hJ ls (lv_sub hl [] rfl)
  unfold f_X12_slope at hf
  refine lv_aload_n hx hb dX12_slope_0 rfl (lv_at hl 0 rfl) ?_
  refine lv_lconst (v := 0) hx hb dX12_slope_1 (by decide) ?_
  obtain ⟨σ1, e2, hf⟩ := mb0 hf
  refine my_pL hx hb hts hown hK hJ fd_RX12_287 cd_12 (Or.inl rfl) ht_12_8 e2 dX12_slope_2 (fun H locs hJ => ?_)
  refine lv_aload_n hx hb dX12_slope_5 rfl (lv_at hl 0 rfl) ?_
  refine lv_lconst (v := 1) hx hb dX12_slope_6 (by decide) ?_
  obtain ⟨σ3, e4, hf⟩ := mb0 hf
  refine my_pL hx hb hts hown hK hJ fd_RX12_291 cd_12 (Or.inl rfl) ht_12_9 e4 dX12_slope_7 (fun H locs hJ => ?_)
  refine lv_aload_n hx hb dX12_slope_10 rfl (lv_at hl 0 rfl) ?_
  obtain ⟨b5, e6, hf⟩ := mb0 hf
  refine my_gR hx hb hts hown hK hJ fd_RX12_156 hv_12_75 e6 dX12_slope_11 ?_
  refine lv_iload_n hx hb dX12_slope_14 rfl (lv_at hl 1 rfl) ?_
  obtain ⟨x7, e8, hf⟩ := mb0 hf
  refine mx_aI hx hb hK hJ e8 dX12_slope_15 ?_
  refine lv_if_le (tgt := 73) hx hb dX12_slope_16 (by decide) (fun c9 => ?_) (fun c9 => ?_)
  · rw [if_pos c9] at hf
    exact D73  σ3 hf _ _ hJ ls (lv_sub hl [] rfl)
  · rw [if_neg c9] at hf
    refine lv_aload_n hx hb dX12_slope_19 rfl (lv_at hl 0 rfl) ?_
    obtain ⟨b10, e11, hf⟩ := mb0 hf
    refine my_gR hx hb hts hown hK hJ fd_RX12_168 hv_12_79 e11 dX12_slope_20 ?_
    refine lv_iload_n hx hb dX12_slope_23 rfl (lv_at hl 1 rfl) ?_
    obtain ⟨x12, e13, hf⟩ := mb0 hf
    refine mx_aI hx hb hK hJ e13 dX12_slope_24 ?_
    refine lv_iconst (v := 1) hx hb dX12_slope_25 (by decide) ?_
    refine lv_icmp_ne (tgt := 73) hx hb dX12_slope_26 (by decide) (fun c14 => ?_) (fun c14 => ?_)
    · rw [if_neg c14] at hf
      exact D73  σ3 hf _ _ hJ ls (lv_sub hl [] rfl)
    · rw [if_pos c14] at hf
      refine lv_aload_n hx hb dX12_slope_29 rfl (lv_at hl 0 rfl) ?_
      refine lv_aload_n hx hb dX12_slope_30 rfl (lv_at hl 0 rfl) ?_
      obtain ⟨b15, e16, hf⟩ := mb0 hf
      refine my_gR hx hb hts hown hK hJ fd_RX12_156 hv_12_75 e16 dX12_slope_31 ?_
      refine lv_iload_n hx hb dX12_slope_34 rfl (lv_at hl 1 rfl) ?_
      obtain ⟨x17, e18, hf⟩ := mb0 hf
      refine mx_aI hx hb hK hJ e18 dX12_slope_35 ?_
      refine lv_iconst (v := 2) hx hb dX12_slope_36 (by decide) ?_
      refine lv_icmp_ne (tgt := 50) hx hb dX12_slope_37 (by decide) (fun c19 => ?_) (fun c19 => ?_)
      · rw [if_neg c19] at hf
        refine lv_aload_n hx hb dX12_slope_50 rfl (lv_at hl 0 rfl) ?_
        obtain ⟨b20, e21, hf⟩ := mb0 hf
        refine my_gR hx hb hts hown hK hJ fd_RX12_162 hv_12_77 e21 dX12_slope_51 ?_
        refine lv_iload_n hx hb dX12_slope_54 rfl (lv_at hl 1 rfl) ?_
        obtain ⟨x22, e23, hf⟩ := mb0 hf
        refine mx_aL hx hb hK hJ e23 dX12_slope_55 ?_
        exact D56 a0 p1 x22 a0 σ3 hf _ _ hJ ls (lv_sub hl [0, 1] rfl)
      · rw [if_pos c19] at hf
        refine lv_aload_n hx hb dX12_slope_40 rfl (lv_at hl 0 rfl) ?_
        obtain ⟨b36, e37, hf⟩ := mb0 hf
        refine my_gR hx hb hts hown hK hJ fd_RX12_162 hv_12_77 e37 dX12_slope_41 ?_
        refine lv_iload_n hx hb dX12_slope_44 rfl (lv_at hl 1 rfl) ?_
        obtain ⟨x38, e39, hf⟩ := mb0 hf
        refine mx_aL hx hb hK hJ e39 dX12_slope_45 ?_
        refine lv_lneg hx hb dX12_slope_46 ?_
        refine lv_goto (tgt := 56) hx hb dX12_slope_47 (by decide) ?_
        exact D56 a0 p1 (-x38) a0 σ3 hf _ _ hJ ls (lv_sub hl [0, 1] rfl)
set_option maxHeartbeats 4000000 in
set_option maxRecDepth 100000 in
theorem c_X12_smooth (l : Launch) (G : mx_G) (P : mx_P) (a0 : Nat) (σ : mx_S) (r : Int32) (σ' : mx_S) (hf : f_X12_smooth P a0 σ = some (r, σ')) : mxz σ ≤ mpc P → mxu σ ≤ mps P → mx_M l yX12_smooth cX12_smooth 7 (some .int) 6 161 G P [.ref a0] σ (some (.int r)) σ' := by
  intro hcap hcau
  refine mx_ofW (by decide +kernel) hcap hcau (Nat.le_of_ble_eq_true rfl) ?_
  intro p e s m below meth c hx hb hr hml hts hown hlocks hname hK hJ ls hl
  have hz0 := hJ.2.1
  have hown : s.vm.findClass RX12 = some m.cls := hown
  have hl : lv_has ls 7 [(0, .ref a0)] := hl
  have D89_4 : ∀ (v0 : Nat) (v2 : Int32) (w0 : Int32) (τ : mx_S) (o : (Int32 × Int32 × mx_S) ⊕ ((mx_S) ⊕ (Int32 × mx_S))), f_X12_smooth_D89_4 P v0 v2 w0 τ = some o → (∀ (y1 : Int32) (y2 : Int32) (υ : mx_S), o = .inl (y1, y2, υ) → ∀ (H : Heap) (locs : List Loc), mx_J G P s.heap (mxz σ) (mxu σ) υ H locs → ∀ ls : Array Slot, lv_has ls 7 [(0, .ref v0), (1, .int y1), (2, .int y2)] → W p l e (mx_rm P 6 161 σ) s m ([.ref a0] : List Value).toArray below meth c H locs (mxz υ - mxz σ) (mxu υ - mxu σ) (mx_Z below G P (some (.int r)) σ σ' [.ref a0] s) (F0 m 4 ls [])) → (∀  (υ : mx_S), o = .inr (.inl υ) → ∀ (H : Heap) (locs : List Loc), mx_J G P s.heap (mxz σ) (mxu σ) υ H locs → ∀ ls : Array Slot, lv_has ls 7 [] → W p l e (mx_rm P 6 161 σ) s m ([.ref a0] : List Value).toArray below meth c H locs (mxz υ - mxz σ) (mxu υ - mxu σ) (mx_Z below G P (some (.int r)) σ σ' [.ref a0] s) (F0 m 59 ls [])) → (∀ (y1 : Int32) (υ : mx_S), o = .inr (.inr (y1, υ)) → ∀ (H : Heap) (locs : List Loc), mx_J G P s.heap (mxz σ) (mxu σ) υ H locs → ∀ ls : Array Slot, lv_has ls 7 [(1, .int y1)] → W p l e (mx_rm P 6 161 σ) s m ([.ref a0] : List Value).toArray below meth c H locs (mxz υ - mxz σ) (mxu υ - mxu σ) (mx_Z below G P (some (.int r)) σ σ' [.ref a0] s) (F0 m 96 ls [])) → ∀ (H : Heap) (locs : List Loc), mx_J G P s.heap (mxz σ) (mxu σ) τ H locs → ∀ ls : Array Slot, lv_has ls 7 [(0, .ref v0), (2, .int v2)] → W p l e (mx_rm P 6 161 σ) s m ([.ref a0] : List Value).toArray below meth c H locs (mxz τ - mxz σ) (mxu τ - mxu σ) (mx_Z below G P (some (.int r)) σ σ' [.ref a0] s) (F0 m 89 ls [.int w0]) := by
    intro v0 v2 w0 τ o hf Kb Ke0 Ke1 H locs hJ ls hl
    unfold f_X12_smooth_D89_4 at hf
    refine lv_istore_n (lv' := [(1, .int w0), (0, .ref v0), (2, .int v2)]) hx hb dX12_smooth_89 rfl hl (by decide) rfl (fun ls hl => ?_)
    obtain ⟨x27, e28, hf⟩ := mb0 hf
    refine lv_iinc (v := x27) (lv' := [(2, .int x27), (1, .int w0), (0, .ref v0)]) hx hb dX12_smooth_90 hl (k := 2) rfl (by rw [← Option.some.inj e28]; rfl) (by decide) rfl (fun ls hl => ?_)
    refine lv_goto (tgt := 4) hx hb dX12_smooth_93 (by decide) ?_
    exact Kb w0 x27 τ (Option.some.inj hf).symm _ _ hJ ls (lv_sub hl [2, 1, 0] rfl)
  have D84_4 : ∀ (v0 : Nat) (v2 : Int32) (τ : mx_S) (o : (Int32 × Int32 × mx_S) ⊕ ((mx_S) ⊕ (Int32 × mx_S))), f_X12_smooth_D84_4 P v0 v2 τ = some o → (∀ (y1 : Int32) (y2 : Int32) (υ : mx_S), o = .inl (y1, y2, υ) → ∀ (H : Heap) (locs : List Loc), mx_J G P s.heap (mxz σ) (mxu σ) υ H locs → ∀ ls : Array Slot, lv_has ls 7 [(0, .ref v0), (1, .int y1), (2, .int y2)] → W p l e (mx_rm P 6 161 σ) s m ([.ref a0] : List Value).toArray below meth c H locs (mxz υ - mxz σ) (mxu υ - mxu σ) (mx_Z below G P (some (.int r)) σ σ' [.ref a0] s) (F0 m 4 ls [])) → (∀  (υ : mx_S), o = .inr (.inl υ) → ∀ (H : Heap) (locs : List Loc), mx_J G P s.heap (mxz σ) (mxu σ) υ H locs → ∀ ls : Array Slot, lv_has ls 7 [] → W p l e (mx_rm P 6 161 σ) s m ([.ref a0] : List Value).toArray below meth c H locs (mxz υ - mxz σ) (mxu υ - mxu σ) (mx_Z below G P (some (.int r)) σ σ' [.ref a0] s) (F0 m 59 ls [])) → (∀ (y1 : Int32) (υ : mx_S), o = .inr (.inr (y1, υ)) → ∀ (H : Heap) (locs : List Loc), mx_J G P s.heap (mxz σ) (mxu σ) υ H locs → ∀ ls : Array Slot, lv_has ls 7 [(1, .int y1)] → W p l e (mx_rm P 6 161 σ) s m ([.ref a0] : List Value).toArray below meth c H locs (mxz υ - mxz σ) (mxu υ - mxu σ) (mx_Z below G P (some (.int r)) σ σ' [.ref a0] s) (F0 m 96 ls [])) → ∀ (H : Heap) (locs : List Loc), mx_J G P s.heap (mxz σ) (mxu σ) τ H locs → ∀ ls : Array Slot, lv_has ls 7 [(0, .ref v0), (2, .int v2)] → W p l e (mx_rm P 6 161 σ) s m ([.ref a0] : List Value).toArray below meth c H locs (mxz τ - mxz σ) (mxu τ - mxu σ) (mx_Z below G P (some (.int r)) σ σ' [.ref a0] s) (F0 m 84 ls []) := by
    intro v0 v2 τ o hf Kb Ke0 Ke1 H locs hJ ls hl
    unfold f_X12_smooth_D84_4 at hf
    refine lv_iconst (v := 1) hx hb dX12_smooth_84 (by decide) ?_
    refine lv_goto (tgt := 89) hx hb dX12_smooth_85 (by decide) ?_
    exact D89_4 v0 v2 (1 : Int32) τ o hf Kb Ke0 Ke1 _ _ hJ ls (lv_sub hl [0, 1] rfl)
  have D88_4 : ∀ (v0 : Nat) (v2 : Int32) (τ : mx_S) (o : (Int32 × Int32 × mx_S) ⊕ ((mx_S) ⊕ (Int32 × mx_S))), f_X12_smooth_D88_4 P v0 v2 τ = some o → (∀ (y1 : Int32) (y2 : Int32) (υ : mx_S), o = .inl (y1, y2, υ) → ∀ (H : Heap) (locs : List Loc), mx_J G P s.heap (mxz σ) (mxu σ) υ H locs → ∀ ls : Array Slot, lv_has ls 7 [(0, .ref v0), (1, .int y1), (2, .int y2)] → W p l e (mx_rm P 6 161 σ) s m ([.ref a0] : List Value).toArray below meth c H locs (mxz υ - mxz σ) (mxu υ - mxu σ) (mx_Z below G P (some (.int r)) σ σ' [.ref a0] s) (F0 m 4 ls [])) → (∀  (υ : mx_S), o = .inr (.inl υ) → ∀ (H : Heap) (locs : List Loc), mx_J G P s.heap (mxz σ) (mxu σ) υ H locs → ∀ ls : Array Slot, lv_has ls 7 [] → W p l e (mx_rm P 6 161 σ) s m ([.ref a0] : List Value).toArray below meth c H locs (mxz υ - mxz σ) (mxu υ - mxu σ) (mx_Z below G P (some (.int r)) σ σ' [.ref a0] s) (F0 m 59 ls [])) → (∀ (y1 : Int32) (υ : mx_S), o = .inr (.inr (y1, υ)) → ∀ (H : Heap) (locs : List Loc), mx_J G P s.heap (mxz σ) (mxu σ) υ H locs → ∀ ls : Array Slot, lv_has ls 7 [(1, .int y1)] → W p l e (mx_rm P 6 161 σ) s m ([.ref a0] : List Value).toArray below meth c H locs (mxz υ - mxz σ) (mxu υ - mxu σ) (mx_Z below G P (some (.int r)) σ σ' [.ref a0] s) (F0 m 96 ls [])) → ∀ (H : Heap) (locs : List Loc), mx_J G P s.heap (mxz σ) (mxu σ) τ H locs → ∀ ls : Array Slot, lv_has ls 7 [(0, .ref v0), (2, .int v2)] → W p l e (mx_rm P 6 161 σ) s m ([.ref a0] : List Value).toArray below meth c H locs (mxz τ - mxz σ) (mxu τ - mxu σ) (mx_Z below G P (some (.int r)) σ σ' [.ref a0] s) (F0 m 88 ls []) := by
    intro v0 v2 τ o hf Kb Ke0 Ke1 H locs hJ ls hl
    unfold f_X12_smooth_D88_4 at hf
    refine lv_iconst (v := 0) hx hb dX12_smooth_88 (by decide) ?_
    exact D89_4 v0 v2 (0 : Int32) τ o hf Kb Ke0 Ke1 _ _ hJ ls (lv_sub hl [0, 1] rfl)
  have B4 : ∀ (v0 : Nat) (v1 : Int32) (v2 : Int32) (τ : mx_S) (o : (Int32 × Int32 × mx_S) ⊕ ((mx_S) ⊕ (Int32 × mx_S))), f_X12_smooth_B4 P v0 v1 v2 τ = some o → (∀ (y1 : Int32) (y2 : Int32) (υ : mx_S), o = .inl (y1, y2, υ) → ∀ (H : Heap) (locs : List Loc), mx_J G P s.heap (mxz σ) (mxu σ) υ H locs → ∀ ls : Array Slot, lv_has ls 7 [(0, .ref v0), (1, .int y1), (2, .int y2)] → W p l e (mx_rm P 6 161 σ) s m ([.ref a0] : List Value).toArray below meth c H locs (mxz υ - mxz σ) (mxu υ - mxu σ) (mx_Z below G P (some (.int r)) σ σ' [.ref a0] s) (F0 m 4 ls [])) → (∀  (υ : mx_S), o = .inr (.inl υ) → ∀ (H : Heap) (locs : List Loc), mx_J G P s.heap (mxz σ) (mxu σ) υ H locs → ∀ ls : Array Slot, lv_has ls 7 [] → W p l e (mx_rm P 6 161 σ) s m ([.ref a0] : List Value).toArray below meth c H locs (mxz υ - mxz σ) (mxu υ - mxu σ) (mx_Z below G P (some (.int r)) σ σ' [.ref a0] s) (F0 m 59 ls [])) → (∀ (y1 : Int32) (υ : mx_S), o = .inr (.inr (y1, υ)) → ∀ (H : Heap) (locs : List Loc), mx_J G P s.heap (mxz σ) (mxu σ) υ H locs → ∀ ls : Array Slot, lv_has ls 7 [(1, .int y1)] → W p l e (mx_rm P 6 161 σ) s m ([.ref a0] : List Value).toArray below meth c H locs (mxz υ - mxz σ) (mxu υ - mxu σ) (mx_Z below G P (some (.int r)) σ σ' [.ref a0] s) (F0 m 96 ls [])) → ∀ (H : Heap) (locs : List Loc), mx_J G P s.heap (mxz σ) (mxu σ) τ H locs → ∀ ls : Array Slot, lv_has ls 7 [(0, .ref v0), (1, .int v1), (2, .int v2)] → W p l e (mx_rm P 6 161 σ) s m ([.ref a0] : List Value).toArray below meth c H locs (mxz τ - mxz σ) (mxu τ - mxu σ) (mx_Z below G P (some (.int r)) σ σ' [.ref a0] s) (F0 m 4 ls []) := by
    intro v0 v1 v2 τ o hf Kb Ke0 Ke1 H locs hJ ls hl
    unfold f_X12_smooth_B4 at hf
    refine lv_iload_n hx hb dX12_smooth_4 rfl (lv_at hl 2 rfl) ?_
    refine lv_aload_n hx hb dX12_smooth_5 rfl (lv_at hl 0 rfl) ?_
    obtain ⟨x1, e2, hf⟩ := mb0 hf
    refine my_gI hx hb hts hown hK hJ fd_RX12_685 hv_12_74 e2 dX12_smooth_6 ?_
    refine lv_icmp_ge (tgt := 96) hx hb dX12_smooth_9 (by decide) (fun c3 => ?_) (fun c3 => ?_)
    · rw [if_pos c3] at hf
      exact Ke1 v1 τ (Option.some.inj hf).symm _ _ hJ ls (lv_sub hl [1] rfl)
    · rw [if_neg c3] at hf
      refine lv_aload_n hx hb dX12_smooth_12 rfl (lv_at hl 0 rfl) ?_
      refine lv_iload_n hx hb dX12_smooth_13 rfl (lv_at hl 2 rfl) ?_
      obtain ⟨i4, e5, hf⟩ := mb0 hf
      obtain ⟨σ6, e7, hf⟩ := mb0 hf
      refine mx_callV (As := [.int v2]) (rest := []) hx hb hml hts hown hK hJ rfl rfl (ci := 12) rfl e5 (c_X12_slope l G P v0 v2 τ σ6 e7) me_X12_slope kw_2735 ks_161 kw_2733 (Nat.le_of_ble_eq_true rfl) (Nat.le_of_ble_eq_true rfl) rfl hl.1 rfl (Nat.le_of_ble_eq_true rfl) dX12_smooth_14 (fun H locs hJ => ?_)
      refine lv_aload_n hx hb dX12_smooth_17 rfl (lv_at hl 0 rfl) ?_
      obtain ⟨x8, e9, hf⟩ := mb0 hf
      refine my_gL hx hb hts hown hK hJ fd_RX12_287 hv_12_8 e9 dX12_smooth_18 ?_
      refine lv_lstore_n (lv' := [(3, .long x8), (0, .ref v0), (1, .int v1), (2, .int v2)]) hx hb dX12_smooth_21 rfl hl (by decide) rfl (fun ls hl => ?_)
      refine lv_aload_n hx hb dX12_smooth_22 rfl (lv_at hl 1 rfl) ?_
      obtain ⟨x10, e11, hf⟩ := mb0 hf
      refine my_gL hx hb hts hown hK hJ fd_RX12_291 hv_12_9 e11 dX12_smooth_23 ?_
      refine lv_lstore (lv' := [(5, .long x10), (3, .long x8), (0, .ref v0), (1, .int v1), (2, .int v2)]) hx hb dX12_smooth_26 hl (by decide) rfl (fun ls hl => ?_)
      refine lv_aload_n hx hb dX12_smooth_28 rfl (lv_at hl 2 rfl) ?_
      refine lv_iload_n hx hb dX12_smooth_29 rfl (lv_at hl 4 rfl) ?_
      refine lv_iconst (v := 1) hx hb dX12_smooth_30 (by decide) ?_
      refine lv_iadd hx hb dX12_smooth_31 ?_
      refine lv_aload_n hx hb dX12_smooth_32 rfl (lv_at hl 2 rfl) ?_
      obtain ⟨x12, e13, hf⟩ := mb0 hf
      refine my_gI hx hb hts hown hK hJ fd_RX12_685 hv_12_74 e13 dX12_smooth_33 ?_
      obtain ⟨x14, e15, hf⟩ := mb0 hf
      refine lv_irem hx hb dX12_smooth_36 (mm_Is e15).1 ?_
      refine mx_eI (mm_Is e15).2 ?_
      obtain ⟨i16, e17, hf⟩ := mb0 hf
      obtain ⟨σ18, e19, hf⟩ := mb0 hf
      refine mx_callV (As := [.int x14]) (rest := []) hx hb hml hts hown hK hJ rfl rfl (ci := 12) rfl e17 (c_X12_slope l G P v0 x14 σ6 σ18 e19) me_X12_slope kw_2735 ks_161 kw_2733 (Nat.le_of_ble_eq_true rfl) (Nat.le_of_ble_eq_true rfl) rfl hl.1 rfl (Nat.le_of_ble_eq_true rfl) dX12_smooth_37 (fun H locs hJ => ?_)
      refine lv_aload_n hx hb dX12_smooth_40 rfl (lv_at hl 2 rfl) ?_
      obtain ⟨x20, e21, hf⟩ := mb0 hf
      refine my_gL hx hb hts hown hK hJ fd_RX12_287 hv_12_8 e21 dX12_smooth_41 ?_
      refine lv_lload_n hx hb dX12_smooth_44 rfl (lv_at hl 1 rfl) ?_
      refine W.lcmp hx hb dX12_smooth_45 ?_
      refine lv_if_ne (tgt := 59) hx hb dX12_smooth_46 (by decide) (fun c22 => ?_) (fun c22 => ?_)
      · rw [if_neg c22] at hf
        exact Ke0 σ18 (Option.some.inj hf).symm _ _ hJ ls (lv_sub hl [] rfl)
      · rw [if_pos c22] at hf
        refine lv_aload_n hx hb dX12_smooth_49 rfl (lv_at hl 2 rfl) ?_
        obtain ⟨x23, e24, hf⟩ := mb0 hf
        refine my_gL hx hb hts hown hK hJ fd_RX12_291 hv_12_9 e24 dX12_smooth_50 ?_
        refine lv_lload hx hb dX12_smooth_53 (lv_at hl 0 rfl) ?_
        refine W.lcmp hx hb dX12_smooth_55 ?_
        refine lv_if_eq (tgt := 61) hx hb dX12_smooth_56 (by decide) (fun c25 => ?_) (fun c25 => ?_)
        · rw [if_pos c25] at hf
          refine lv_iload_n hx hb dX12_smooth_61 rfl (lv_at hl 3 rfl) ?_
          refine lv_if_ne (tgt := 84) hx hb dX12_smooth_62 (by decide) (fun c26 => ?_) (fun c26 => ?_)
          · rw [if_neg c26] at hf
            exact D84_4 v0 v2 σ18 o hf Kb Ke0 Ke1 _ _ hJ ls (lv_sub hl [2, 4] rfl)
          · rw [if_pos c26] at hf
            refine lv_aload_n hx hb dX12_smooth_65 rfl (lv_at hl 2 rfl) ?_
            obtain ⟨b29, e30, hf⟩ := mb0 hf
            refine my_gR hx hb hts hown hK hJ fd_RX12_156 hv_12_75 e30 dX12_smooth_66 ?_
            refine lv_iload_n hx hb dX12_smooth_69 rfl (lv_at hl 4 rfl) ?_
            obtain ⟨x31, e32, hf⟩ := mb0 hf
            refine mx_aI hx hb hK hJ e32 dX12_smooth_70 ?_
            refine lv_if_le (tgt := 88) hx hb dX12_smooth_71 (by decide) (fun c33 => ?_) (fun c33 => ?_)
            · rw [if_pos c33] at hf
              exact D88_4 v0 v2 σ18 o hf Kb Ke0 Ke1 _ _ hJ ls (lv_sub hl [2, 4] rfl)
            · rw [if_neg c33] at hf
              refine lv_aload_n hx hb dX12_smooth_74 rfl (lv_at hl 2 rfl) ?_
              obtain ⟨b34, e35, hf⟩ := mb0 hf
              refine my_gR hx hb hts hown hK hJ fd_RX12_168 hv_12_79 e35 dX12_smooth_75 ?_
              refine lv_iload_n hx hb dX12_smooth_78 rfl (lv_at hl 4 rfl) ?_
              obtain ⟨x36, e37, hf⟩ := mb0 hf
              refine mx_aI hx hb hK hJ e37 dX12_smooth_79 ?_
              refine lv_iconst (v := 2) hx hb dX12_smooth_80 (by decide) ?_
              refine lv_icmp_ne (tgt := 88) hx hb dX12_smooth_81 (by decide) (fun c38 => ?_) (fun c38 => ?_)
              · rw [if_neg c38] at hf
                exact D88_4 v0 v2 σ18 o hf Kb Ke0 Ke1 _ _ hJ ls (lv_sub hl [2, 4] rfl)
              · rw [if_pos c38] at hf
                exact D84_4 v0 v2 σ18 o hf Kb Ke0 Ke1 _ _ hJ ls (lv_sub hl [2, 4] rfl)
        · rw [if_neg c25] at hf
          exact Ke0 σ18 (Option.some.inj hf).symm _ _ hJ ls (lv_sub hl [] rfl)
  have L4 : ∀ (v0 : Nat) (n : Nat) (v1 : Int32) (v2 : Int32) (τ : mx_S) (o : (mx_S) ⊕ (Int32 × mx_S)), mx_lp (f_X12_smooth_L4 P v0) n (v1, v2, τ) = some o → (∀  (υ : mx_S), o = (.inl υ) → ∀ (H : Heap) (locs : List Loc), mx_J G P s.heap (mxz σ) (mxu σ) υ H locs → ∀ ls : Array Slot, lv_has ls 7 [] → W p l e (mx_rm P 6 161 σ) s m ([.ref a0] : List Value).toArray below meth c H locs (mxz υ - mxz σ) (mxu υ - mxu σ) (mx_Z below G P (some (.int r)) σ σ' [.ref a0] s) (F0 m 59 ls [])) → (∀ (y1 : Int32) (υ : mx_S), o = (.inr (y1, υ)) → ∀ (H : Heap) (locs : List Loc), mx_J G P s.heap (mxz σ) (mxu σ) υ H locs → ∀ ls : Array Slot, lv_has ls 7 [(1, .int y1)] → W p l e (mx_rm P 6 161 σ) s m ([.ref a0] : List Value).toArray below meth c H locs (mxz υ - mxz σ) (mxu υ - mxu σ) (mx_Z below G P (some (.int r)) σ σ' [.ref a0] s) (F0 m 96 ls [])) → ∀ (H : Heap) (locs : List Loc), mx_J G P s.heap (mxz σ) (mxu σ) τ H locs → ∀ ls : Array Slot, lv_has ls 7 [(0, .ref v0), (1, .int v1), (2, .int v2)] → W p l e (mx_rm P 6 161 σ) s m ([.ref a0] : List Value).toArray below meth c H locs (mxz τ - mxz σ) (mxu τ - mxu σ) (mx_Z below G P (some (.int r)) σ σ' [.ref a0] s) (F0 m 4 ls []) := by
    intro v0 n
    induction n with
    | zero =>
      intro v1 v2 τ o hf
      rw [mx_lp0] at hf
      cases hf
    | succ n ih =>
      intro v1 v2 τ o hf Ke0 Ke1 H locs hJ ls hl
      rw [mx_lpS] at hf
      obtain ⟨b, eb, hf⟩ := mb0 hf
      refine B4 v0 v1 v2 τ b eb (fun y1 y2 υ ho H locs hJ ls hl => ?_) (fun  υ ho H locs hJ ls hl => ?_) (fun y1 υ ho H locs hJ ls hl => ?_) H locs hJ ls hl
      · subst ho
        exact ih y1 y2 υ o hf Ke0 Ke1 H locs hJ ls hl
      · subst ho
        exact Ke0  υ (Option.some.inj hf).symm _ _ hJ ls hl
      · subst ho
        exact Ke1 y1 υ (Option.some.inj hf).symm _ _ hJ ls hl
  have D59 : ∀  (τ : mx_S), f_X12_smooth_D59 P  τ = some (r, σ') → ∀ (H : Heap) (locs : List Loc), mx_J G P s.heap (mxz σ) (mxu σ) τ H locs → ∀ ls : Array Slot, lv_has ls 7 [] → W p l e (mx_rm P 6 161 σ) s m ([.ref a0] : List Value).toArray below meth c H locs (mxz τ - mxz σ) (mxu τ - mxu σ) (mx_Z below G P (some (.int r)) σ σ' [.ref a0] s) (F0 m 59 ls []) := by
    intro  τ hf _ _ hJ ls hl
    unfold f_X12_smooth_D59 at hf
    refine lv_iconst (v := 0) hx hb dX12_smooth_59 (by decide) ?_
    exact my_iret hx hb hr hlocks hJ hf dX12_smooth_60
  have D105 : ∀ (w0 : Int32) (τ : mx_S), f_X12_smooth_D105 P w0 τ = some (r, σ') → ∀ (H : Heap) (locs : List Loc), mx_J G P s.heap (mxz σ) (mxu σ) τ H locs → ∀ ls : Array Slot, lv_has ls 7 [] → W p l e (mx_rm P 6 161 σ) s m ([.ref a0] : List Value).toArray below meth c H locs (mxz τ - mxz σ) (mxu τ - mxu σ) (mx_Z below G P (some (.int r)) σ σ' [.ref a0] s) (F0 m 105 ls [.int w0]) := by
    intro w0 τ hf _ _ hJ ls hl
    unfold f_X12_smooth_D105 at hf
    exact my_iret hx hb hr hlocks hJ hf dX12_smooth_105
  unfold f_X12_smooth at hf
  refine lv_iconst (v := 0) hx hb dX12_smooth_0 (by decide) ?_
  refine lv_istore_n (lv' := [(1, .int (0 : Int32)), (0, .ref a0)]) hx hb dX12_smooth_1 rfl hl (by decide) rfl (fun ls hl => ?_)
  refine lv_iconst (v := 0) hx hb dX12_smooth_2 (by decide) ?_
  refine lv_istore_n (lv' := [(2, .int (0 : Int32)), (1, .int (0 : Int32)), (0, .ref a0)]) hx hb dX12_smooth_3 rfl hl (by decide) rfl (fun ls hl => ?_)
  obtain ⟨o39, e40, hf⟩ := mb0 hf
  refine L4 a0 (mpN P) (0 : Int32) (0 : Int32) σ o39 e40 (fun σ41 ho H locs hJ ls hl => ?_) (fun y42 σ43 ho H locs hJ ls hl => ?_) _ _ hJ ls (lv_sub hl [2, 1, 0] rfl)
  · rw [ho] at hf
    have hf : (f_X12_smooth_D59 P  σ41) = some (r, σ') := hf
    exact D59  σ41 hf _ _ hJ ls (lv_sub hl [] rfl)
  · rw [ho] at hf
    have hf : ((if y42 = 0 then f_X12_smooth_D105 P (2 : Int32) σ43 else f_X12_smooth_D105 P (1 : Int32) σ43)) = some (r, σ') := hf
    refine lv_iload_n hx hb dX12_smooth_96 rfl (lv_at hl 0 rfl) ?_
    refine lv_if_eq (tgt := 104) hx hb dX12_smooth_97 (by decide) (fun c44 => ?_) (fun c44 => ?_)
    · rw [if_pos c44] at hf
      refine lv_iconst (v := 2) hx hb dX12_smooth_104 (by decide) ?_
      exact D105 (2 : Int32) σ43 hf _ _ hJ ls (lv_sub hl [] rfl)
    · rw [if_neg c44] at hf
      refine lv_iconst (v := 1) hx hb dX12_smooth_100 (by decide) ?_
      refine lv_goto (tgt := 105) hx hb dX12_smooth_101 (by decide) ?_
      exact D105 (1 : Int32) σ43 hf _ _ hJ ls (lv_sub hl [] rfl)
set_option maxHeartbeats 4000000 in
set_option maxRecDepth 100000 in
theorem c_X12_isLess (l : Launch) (G : mx_G) (P : mx_P) (p0 : Int64) (p2 : Int64) (p4 : Int64) (p6 : Int64) (σ : mx_S) (r : Int32) (σ' : mx_S) (hf : f_X12_isLess P p0 p2 p4 p6 σ = some (r, σ')) : mxz σ ≤ mpc P → mxu σ ≤ mps P → mx_M l yX12_isLess cX12_isLess 23 (some .boolean) 0 0 G P [.long p0, .long p2, .long p4, .long p6] σ (some (.int r)) σ' := by
  intro hcap hcau
  refine mx_ofW (by decide +kernel) hcap hcau (Nat.le_of_ble_eq_true rfl) ?_
  intro p e s m below meth c hx hb hr hml hts hown hlocks hname hK hJ ls hl
  have hz0 := hJ.2.1
  have hown : s.vm.findClass RX12 = some m.cls := hown
  have hl : lv_has ls 23 [(0, .long p0), (2, .long p2), (4, .long p4), (6, .long p6)] := hl
  have D154_17 : ∀ (v8 : Int64) (v10 : Int64) (v12 : Int64) (v14 : Int64) (w0 : Int32) (τ : mx_S) (o : (Int64 × Int64 × Int64 × Int64 × Int32 × mx_S) ⊕ ((Int32 × Int64 × Int64 × mx_S) ⊕ (Int64 × Int32 × mx_S) ⊕ (Int32 × mx_S))), f_X12_isLess_D154_17 P v8 v10 v12 v14 w0 τ = some o → (∀ (y8 : Int64) (y10 : Int64) (y12 : Int64) (y14 : Int64) (y16 : Int32) (υ : mx_S), o = .inl (y8, y10, y12, y14, y16, υ) → ∀ (H : Heap) (locs : List Loc), mx_J G P s.heap (mxz σ) (mxu σ) υ H locs → ∀ ls : Array Slot, lv_has ls 23 [(8, .long y8), (10, .long y10), (12, .long y12), (14, .long y14), (16, .int y16)] → W p l e (mx_rm P 0 0 σ) s m ([.long p0, .long p2, .long p4, .long p6] : List Value).toArray below meth c H locs (mxz υ - mxz σ) (mxu υ - mxu σ) (mx_Z below G P (some (.int r)) σ σ' [.long p0, .long p2, .long p4, .long p6] s) (F0 m 17 ls [])) → (∀ (y16 : Int32) (y17 : Int64) (y19 : Int64) (υ : mx_S), o = .inr (.inl (y16, y17, y19, υ)) → ∀ (H : Heap) (locs : List Loc), mx_J G P s.heap (mxz σ) (mxu σ) υ H locs → ∀ ls : Array Slot, lv_has ls 23 [(16, .int y16), (17, .long y17), (19, .long y19)] → W p l e (mx_rm P 0 0 σ) s m ([.long p0, .long p2, .long p4, .long p6] : List Value).toArray below meth c H locs (mxz υ - mxz σ) (mxu υ - mxu σ) (mx_Z below G P (some (.int r)) σ σ' [.long p0, .long p2, .long p4, .long p6] s) (F0 m 39 ls [])) → (∀ (y8 : Int64) (y16 : Int32) (υ : mx_S), o = .inr (.inr (.inl (y8, y16, υ))) → ∀ (H : Heap) (locs : List Loc), mx_J G P s.heap (mxz σ) (mxu σ) υ H locs → ∀ ls : Array Slot, lv_has ls 23 [(8, .long y8), (16, .int y16)] → W p l e (mx_rm P 0 0 σ) s m ([.long p0, .long p2, .long p4, .long p6] : List Value).toArray below meth c H locs (mxz υ - mxz σ) (mxu υ - mxu σ) (mx_Z below G P (some (.int r)) σ σ' [.long p0, .long p2, .long p4, .long p6] s) (F0 m 84 ls [])) → (∀ (y16 : Int32) (υ : mx_S), o = .inr (.inr (.inr (y16, υ))) → ∀ (H : Heap) (locs : List Loc), mx_J G P s.heap (mxz σ) (mxu σ) υ H locs → ∀ ls : Array Slot, lv_has ls 23 [(16, .int y16)] → W p l e (mx_rm P 0 0 σ) s m ([.long p0, .long p2, .long p4, .long p6] : List Value).toArray below meth c H locs (mxz υ - mxz σ) (mxu υ - mxu σ) (mx_Z below G P (some (.int r)) σ σ' [.long p0, .long p2, .long p4, .long p6] s) (F0 m 109 ls [])) → ∀ (H : Heap) (locs : List Loc), mx_J G P s.heap (mxz σ) (mxu σ) τ H locs → ∀ ls : Array Slot, lv_has ls 23 [(8, .long v8), (10, .long v10), (12, .long v12), (14, .long v14)] → W p l e (mx_rm P 0 0 σ) s m ([.long p0, .long p2, .long p4, .long p6] : List Value).toArray below meth c H locs (mxz τ - mxz σ) (mxu τ - mxu σ) (mx_Z below G P (some (.int r)) σ σ' [.long p0, .long p2, .long p4, .long p6] s) (F0 m 154 ls [.int w0]) := by
    intro v8 v10 v12 v14 w0 τ o hf Kb Ke0 Ke1 Ke2 H locs hJ ls hl
    unfold f_X12_isLess_D154_17 at hf
    refine lv_istore (lv' := [(16, .int w0), (8, .long v8), (10, .long v10), (12, .long v12), (14, .long v14)]) hx hb dX12_isLess_154 hl (by decide) rfl (fun ls hl => ?_)
    refine lv_goto (tgt := 17) hx hb dX12_isLess_156 (by decide) ?_
    exact Kb v8 v10 v12 v14 w0 τ (Option.some.inj hf).symm _ _ hJ ls (lv_sub hl [1, 2, 3, 4, 0] rfl)
  have B17 : ∀ (v8 : Int64) (v10 : Int64) (v12 : Int64) (v14 : Int64) (v16 : Int32) (τ : mx_S) (o : (Int64 × Int64 × Int64 × Int64 × Int32 × mx_S) ⊕ ((Int32 × Int64 × Int64 × mx_S) ⊕ (Int64 × Int32 × mx_S) ⊕ (Int32 × mx_S))), f_X12_isLess_B17 P  v8 v10 v12 v14 v16 τ = some o → (∀ (y8 : Int64) (y10 : Int64) (y12 : Int64) (y14 : Int64) (y16 : Int32) (υ : mx_S), o = .inl (y8, y10, y12, y14, y16, υ) → ∀ (H : Heap) (locs : List Loc), mx_J G P s.heap (mxz σ) (mxu σ) υ H locs → ∀ ls : Array Slot, lv_has ls 23 [(8, .long y8), (10, .long y10), (12, .long y12), (14, .long y14), (16, .int y16)] → W p l e (mx_rm P 0 0 σ) s m ([.long p0, .long p2, .long p4, .long p6] : List Value).toArray below meth c H locs (mxz υ - mxz σ) (mxu υ - mxu σ) (mx_Z below G P (some (.int r)) σ σ' [.long p0, .long p2, .long p4, .long p6] s) (F0 m 17 ls [])) → (∀ (y16 : Int32) (y17 : Int64) (y19 : Int64) (υ : mx_S), o = .inr (.inl (y16, y17, y19, υ)) → ∀ (H : Heap) (locs : List Loc), mx_J G P s.heap (mxz σ) (mxu σ) υ H locs → ∀ ls : Array Slot, lv_has ls 23 [(16, .int y16), (17, .long y17), (19, .long y19)] → W p l e (mx_rm P 0 0 σ) s m ([.long p0, .long p2, .long p4, .long p6] : List Value).toArray below meth c H locs (mxz υ - mxz σ) (mxu υ - mxu σ) (mx_Z below G P (some (.int r)) σ σ' [.long p0, .long p2, .long p4, .long p6] s) (F0 m 39 ls [])) → (∀ (y8 : Int64) (y16 : Int32) (υ : mx_S), o = .inr (.inr (.inl (y8, y16, υ))) → ∀ (H : Heap) (locs : List Loc), mx_J G P s.heap (mxz σ) (mxu σ) υ H locs → ∀ ls : Array Slot, lv_has ls 23 [(8, .long y8), (16, .int y16)] → W p l e (mx_rm P 0 0 σ) s m ([.long p0, .long p2, .long p4, .long p6] : List Value).toArray below meth c H locs (mxz υ - mxz σ) (mxu υ - mxu σ) (mx_Z below G P (some (.int r)) σ σ' [.long p0, .long p2, .long p4, .long p6] s) (F0 m 84 ls [])) → (∀ (y16 : Int32) (υ : mx_S), o = .inr (.inr (.inr (y16, υ))) → ∀ (H : Heap) (locs : List Loc), mx_J G P s.heap (mxz σ) (mxu σ) υ H locs → ∀ ls : Array Slot, lv_has ls 23 [(16, .int y16)] → W p l e (mx_rm P 0 0 σ) s m ([.long p0, .long p2, .long p4, .long p6] : List Value).toArray below meth c H locs (mxz υ - mxz σ) (mxu υ - mxu σ) (mx_Z below G P (some (.int r)) σ σ' [.long p0, .long p2, .long p4, .long p6] s) (F0 m 109 ls [])) → ∀ (H : Heap) (locs : List Loc), mx_J G P s.heap (mxz σ) (mxu σ) τ H locs → ∀ ls : Array Slot, lv_has ls 23 [(8, .long v8), (10, .long v10), (12, .long v12), (14, .long v14), (16, .int v16)] → W p l e (mx_rm P 0 0 σ) s m ([.long p0, .long p2, .long p4, .long p6] : List Value).toArray below meth c H locs (mxz τ - mxz σ) (mxu τ - mxu σ) (mx_Z below G P (some (.int r)) σ σ' [.long p0, .long p2, .long p4, .long p6] s) (F0 m 17 ls []) := by
    intro  v8 v10 v12 v14 v16 τ o hf Kb Ke0 Ke1 Ke2 H locs hJ ls hl
    unfold f_X12_isLess_B17 at hf
    refine lv_lload hx hb dX12_isLess_17 (lv_at hl 0 rfl) ?_
    refine lv_lload hx hb dX12_isLess_19 (lv_at hl 1 rfl) ?_
    obtain ⟨x1, e2, hf⟩ := mb0 hf
    refine lv_ldiv hx hb dX12_isLess_21 (md_Ls e2).1 ?_
    refine mx_eL (md_Ls e2).2 ?_
    refine lv_lstore (lv' := [(17, .long x1), (8, .long v8), (10, .long v10), (12, .long v12), (14, .long v14), (16, .int v16)]) hx hb dX12_isLess_22 hl (by decide) rfl (fun ls hl => ?_)
    refine lv_lload hx hb dX12_isLess_24 (lv_at hl 3 rfl) ?_
    refine lv_lload hx hb dX12_isLess_26 (lv_at hl 4 rfl) ?_
    obtain ⟨x3, e4, hf⟩ := mb0 hf
    refine lv_ldiv hx hb dX12_isLess_28 (md_Ls e4).1 ?_
    refine mx_eL (md_Ls e4).2 ?_
    refine lv_lstore (lv' := [(19, .long x3), (17, .long x1), (8, .long v8), (10, .long v10), (12, .long v12), (14, .long v14), (16, .int v16)]) hx hb dX12_isLess_29 hl (by decide) rfl (fun ls hl => ?_)
    refine lv_lload hx hb dX12_isLess_31 (lv_at hl 1 rfl) ?_
    refine lv_lload hx hb dX12_isLess_33 (lv_at hl 0 rfl) ?_
    refine W.lcmp hx hb dX12_isLess_35 ?_
    refine lv_if_eq (tgt := 63) hx hb dX12_isLess_36 (by decide) (fun c5 => ?_) (fun c5 => ?_)
    · rw [if_pos c5] at hf
      refine lv_lload hx hb dX12_isLess_63 (lv_at hl 2 rfl) ?_
      refine lv_lload hx hb dX12_isLess_65 (lv_at hl 3 rfl) ?_
      obtain ⟨x6, e7, hf⟩ := mb0 hf
      refine lv_lrem hx hb dX12_isLess_67 (mm_Ls e7).1 ?_
      refine mx_eL (mm_Ls e7).2 ?_
      refine lv_lstore (lv' := [(8, .long x6), (19, .long x3), (17, .long x1), (10, .long v10), (12, .long v12), (14, .long v14), (16, .int v16)]) hx hb dX12_isLess_68 hl (by decide) rfl (fun ls hl => ?_)
      refine lv_lload hx hb dX12_isLess_70 (lv_at hl 4 rfl) ?_
      refine lv_lload hx hb dX12_isLess_72 (lv_at hl 5 rfl) ?_
      obtain ⟨x8, e9, hf⟩ := mb0 hf
      refine lv_lrem hx hb dX12_isLess_74 (mm_Ls e9).1 ?_
      refine mx_eL (mm_Ls e9).2 ?_
      refine lv_lstore (lv' := [(12, .long x8), (8, .long x6), (19, .long x3), (17, .long x1), (10, .long v10), (14, .long v14), (16, .int v16)]) hx hb dX12_isLess_75 hl (by decide) rfl (fun ls hl => ?_)
      refine lv_lload hx hb dX12_isLess_77 (lv_at hl 0 rfl) ?_
      refine lv_lconst (v := 0) hx hb dX12_isLess_79 (by decide) ?_
      refine W.lcmp hx hb dX12_isLess_80 ?_
      refine lv_if_ne (tgt := 102) hx hb dX12_isLess_81 (by decide) (fun c10 => ?_) (fun c10 => ?_)
      · rw [if_neg c10] at hf
        refine lv_lload hx hb dX12_isLess_102 (lv_at hl 1 rfl) ?_
        refine lv_lconst (v := 0) hx hb dX12_isLess_104 (by decide) ?_
        refine W.lcmp hx hb dX12_isLess_105 ?_
        refine lv_if_ne (tgt := 120) hx hb dX12_isLess_106 (by decide) (fun c11 => ?_) (fun c11 => ?_)
        · rw [if_neg c11] at hf
          refine lv_lload hx hb dX12_isLess_120 (lv_at hl 1 rfl) ?_
          refine lv_lstore (lv' := [(21, .long x6), (12, .long x8), (8, .long x6), (19, .long x3), (17, .long x1), (10, .long v10), (14, .long v14), (16, .int v16)]) hx hb dX12_isLess_122 hl (by decide) rfl (fun ls hl => ?_)
          refine lv_lload hx hb dX12_isLess_124 (lv_at hl 5 rfl) ?_
          refine lv_lstore (lv' := [(8, .long v10), (21, .long x6), (12, .long x8), (19, .long x3), (17, .long x1), (10, .long v10), (14, .long v14), (16, .int v16)]) hx hb dX12_isLess_126 hl (by decide) rfl (fun ls hl => ?_)
          refine lv_lload hx hb dX12_isLess_128 (lv_at hl 1 rfl) ?_
          refine lv_lstore (lv' := [(10, .long x6), (8, .long v10), (21, .long x6), (12, .long x8), (19, .long x3), (17, .long x1), (14, .long v14), (16, .int v16)]) hx hb dX12_isLess_130 hl (by decide) rfl (fun ls hl => ?_)
          refine lv_lload hx hb dX12_isLess_132 (lv_at hl 3 rfl) ?_
          refine lv_lstore (lv' := [(21, .long x8), (10, .long x6), (8, .long v10), (12, .long x8), (19, .long x3), (17, .long x1), (14, .long v14), (16, .int v16)]) hx hb dX12_isLess_134 hl (by decide) rfl (fun ls hl => ?_)
          refine lv_lload hx hb dX12_isLess_136 (lv_at hl 6 rfl) ?_
          refine lv_lstore (lv' := [(12, .long v14), (21, .long x8), (10, .long x6), (8, .long v10), (19, .long x3), (17, .long x1), (14, .long v14), (16, .int v16)]) hx hb dX12_isLess_138 hl (by decide) rfl (fun ls hl => ?_)
          refine lv_lload hx hb dX12_isLess_140 (lv_at hl 1 rfl) ?_
          refine lv_lstore (lv' := [(14, .long x8), (12, .long v14), (21, .long x8), (10, .long x6), (8, .long v10), (19, .long x3), (17, .long x1), (16, .int v16)]) hx hb dX12_isLess_142 hl (by decide) rfl (fun ls hl => ?_)
          refine lv_iload hx hb dX12_isLess_144 (lv_at hl 7 rfl) ?_
          refine lv_if_ne (tgt := 153) hx hb dX12_isLess_146 (by decide) (fun c12 => ?_) (fun c12 => ?_)
          · rw [if_neg c12] at hf
            refine lv_iconst (v := 0) hx hb dX12_isLess_153 (by decide) ?_
            exact D154_17 v10 x6 v14 x8 (0 : Int32) τ o hf Kb Ke0 Ke1 Ke2 _ _ hJ ls (lv_sub hl [4, 3, 1, 0] rfl)
          · rw [if_pos c12] at hf
            refine lv_iconst (v := 1) hx hb dX12_isLess_149 (by decide) ?_
            refine lv_goto (tgt := 154) hx hb dX12_isLess_150 (by decide) ?_
            exact D154_17 v10 x6 v14 x8 (1 : Int32) τ o hf Kb Ke0 Ke1 Ke2 _ _ hJ ls (lv_sub hl [4, 3, 1, 0] rfl)
        · rw [if_pos c11] at hf
          exact Ke2 v16 τ (Option.some.inj hf).symm _ _ hJ ls (lv_sub hl [6] rfl)
      · rw [if_pos c10] at hf
        exact Ke1 x6 v16 τ (Option.some.inj hf).symm _ _ hJ ls (lv_sub hl [1, 6] rfl)
    · rw [if_neg c5] at hf
      exact Ke0 v16 x1 x3 τ (Option.some.inj hf).symm _ _ hJ ls (lv_sub hl [6, 1, 0] rfl)
  have L17 : ∀  (n : Nat) (v8 : Int64) (v10 : Int64) (v12 : Int64) (v14 : Int64) (v16 : Int32) (τ : mx_S) (o : (Int32 × Int64 × Int64 × mx_S) ⊕ (Int64 × Int32 × mx_S) ⊕ (Int32 × mx_S)), mx_lp (f_X12_isLess_L17 P ) n (v8, v10, v12, v14, v16, τ) = some o → (∀ (y16 : Int32) (y17 : Int64) (y19 : Int64) (υ : mx_S), o = (.inl (y16, y17, y19, υ)) → ∀ (H : Heap) (locs : List Loc), mx_J G P s.heap (mxz σ) (mxu σ) υ H locs → ∀ ls : Array Slot, lv_has ls 23 [(16, .int y16), (17, .long y17), (19, .long y19)] → W p l e (mx_rm P 0 0 σ) s m ([.long p0, .long p2, .long p4, .long p6] : List Value).toArray below meth c H locs (mxz υ - mxz σ) (mxu υ - mxu σ) (mx_Z below G P (some (.int r)) σ σ' [.long p0, .long p2, .long p4, .long p6] s) (F0 m 39 ls [])) → (∀ (y8 : Int64) (y16 : Int32) (υ : mx_S), o = (.inr (.inl (y8, y16, υ))) → ∀ (H : Heap) (locs : List Loc), mx_J G P s.heap (mxz σ) (mxu σ) υ H locs → ∀ ls : Array Slot, lv_has ls 23 [(8, .long y8), (16, .int y16)] → W p l e (mx_rm P 0 0 σ) s m ([.long p0, .long p2, .long p4, .long p6] : List Value).toArray below meth c H locs (mxz υ - mxz σ) (mxu υ - mxu σ) (mx_Z below G P (some (.int r)) σ σ' [.long p0, .long p2, .long p4, .long p6] s) (F0 m 84 ls [])) → (∀ (y16 : Int32) (υ : mx_S), o = (.inr (.inr (y16, υ))) → ∀ (H : Heap) (locs : List Loc), mx_J G P s.heap (mxz σ) (mxu σ) υ H locs → ∀ ls : Array Slot, lv_has ls 23 [(16, .int y16)] → W p l e (mx_rm P 0 0 σ) s m ([.long p0, .long p2, .long p4, .long p6] : List Value).toArray below meth c H locs (mxz υ - mxz σ) (mxu υ - mxu σ) (mx_Z below G P (some (.int r)) σ σ' [.long p0, .long p2, .long p4, .long p6] s) (F0 m 109 ls [])) → ∀ (H : Heap) (locs : List Loc), mx_J G P s.heap (mxz σ) (mxu σ) τ H locs → ∀ ls : Array Slot, lv_has ls 23 [(8, .long v8), (10, .long v10), (12, .long v12), (14, .long v14), (16, .int v16)] → W p l e (mx_rm P 0 0 σ) s m ([.long p0, .long p2, .long p4, .long p6] : List Value).toArray below meth c H locs (mxz τ - mxz σ) (mxu τ - mxu σ) (mx_Z below G P (some (.int r)) σ σ' [.long p0, .long p2, .long p4, .long p6] s) (F0 m 17 ls []) := by
    intro  n
    induction n with
    | zero =>
      intro v8 v10 v12 v14 v16 τ o hf
      rw [mx_lp0] at hf
      cases hf
    | succ n ih =>
      intro v8 v10 v12 v14 v16 τ o hf Ke0 Ke1 Ke2 H locs hJ ls hl
      rw [mx_lpS] at hf
      obtain ⟨b, eb, hf⟩ := mb0 hf
      refine B17  v8 v10 v12 v14 v16 τ b eb (fun y8 y10 y12 y14 y16 υ ho H locs hJ ls hl => ?_) (fun y16 y17 y19 υ ho H locs hJ ls hl => ?_) (fun y8 y16 υ ho H locs hJ ls hl => ?_) (fun y16 υ ho H locs hJ ls hl => ?_) H locs hJ ls hl
      · subst ho
        exact ih y8 y10 y12 y14 y16 υ o hf Ke0 Ke1 Ke2 H locs hJ ls hl
      · subst ho
        exact Ke0 y16 y17 y19 υ (Option.some.inj hf).symm _ _ hJ ls hl
      · subst ho
        exact Ke1 y8 y16 υ (Option.some.inj hf).symm _ _ hJ ls hl
      · subst ho
        exact Ke2 y16 υ (Option.some.inj hf).symm _ _ hJ ls hl
  have D62 : ∀ (w0 : Int32) (τ : mx_S), f_X12_isLess_D62 P w0 τ = some (r, σ') → ∀ (H : Heap) (locs : List Loc), mx_J G P s.heap (mxz σ) (mxu σ) τ H locs → ∀ ls : Array Slot, lv_has ls 23 [] → W p l e (mx_rm P 0 0 σ) s m ([.long p0, .long p2, .long p4, .long p6] : List Value).toArray below meth c H locs (mxz τ - mxz σ) (mxu τ - mxu σ) (mx_Z below G P (some (.int r)) σ σ' [.long p0, .long p2, .long p4, .long p6] s) (F0 m 62 ls [.int w0]) := by
    intro w0 τ hf _ _ hJ ls hl
    unfold f_X12_isLess_D62 at hf
    exact mx_zret hx hb hr hlocks hJ hf dX12_isLess_62
  have D52 : ∀ (v16 : Int32) (w0 : Int32) (τ : mx_S), f_X12_isLess_D52 P v16 w0 τ = some (r, σ') → ∀ (H : Heap) (locs : List Loc), mx_J G P s.heap (mxz σ) (mxu σ) τ H locs → ∀ ls : Array Slot, lv_has ls 23 [(16, .int v16)] → W p l e (mx_rm P 0 0 σ) s m ([.long p0, .long p2, .long p4, .long p6] : List Value).toArray below meth c H locs (mxz τ - mxz σ) (mxu τ - mxu σ) (mx_Z below G P (some (.int r)) σ σ' [.long p0, .long p2, .long p4, .long p6] s) (F0 m 52 ls [.int w0]) := by
    intro v16 w0 τ hf _ _ hJ ls hl
    unfold f_X12_isLess_D52 at hf
    refine lv_iload hx hb dX12_isLess_52 (lv_at hl 0 rfl) ?_
    refine lv_icmp_eq (tgt := 61) hx hb dX12_isLess_54 (by decide) (fun c20 => ?_) (fun c20 => ?_)
    · rw [if_pos c20] at hf
      refine lv_iconst (v := 0) hx hb dX12_isLess_61 (by decide) ?_
      exact D62 (0 : Int32) τ hf _ _ hJ ls (lv_sub hl [] rfl)
    · rw [if_neg c20] at hf
      refine lv_iconst (v := 1) hx hb dX12_isLess_57 (by decide) ?_
      refine lv_goto (tgt := 62) hx hb dX12_isLess_58 (by decide) ?_
      exact D62 (1 : Int32) τ hf _ _ hJ ls (lv_sub hl [] rfl)
  have D101 : ∀ (w0 : Int32) (τ : mx_S), f_X12_isLess_D101 P w0 τ = some (r, σ') → ∀ (H : Heap) (locs : List Loc), mx_J G P s.heap (mxz σ) (mxu σ) τ H locs → ∀ ls : Array Slot, lv_has ls 23 [] → W p l e (mx_rm P 0 0 σ) s m ([.long p0, .long p2, .long p4, .long p6] : List Value).toArray below meth c H locs (mxz τ - mxz σ) (mxu τ - mxu σ) (mx_Z below G P (some (.int r)) σ σ' [.long p0, .long p2, .long p4, .long p6] s) (F0 m 101 ls [.int w0]) := by
    intro w0 τ hf _ _ hJ ls hl
    unfold f_X12_isLess_D101 at hf
    exact mx_zret hx hb hr hlocks hJ hf dX12_isLess_101
  have D100 : ∀  (τ : mx_S), f_X12_isLess_D100 P  τ = some (r, σ') → ∀ (H : Heap) (locs : List Loc), mx_J G P s.heap (mxz σ) (mxu σ) τ H locs → ∀ ls : Array Slot, lv_has ls 23 [] → W p l e (mx_rm P 0 0 σ) s m ([.long p0, .long p2, .long p4, .long p6] : List Value).toArray below meth c H locs (mxz τ - mxz σ) (mxu τ - mxu σ) (mx_Z below G P (some (.int r)) σ σ' [.long p0, .long p2, .long p4, .long p6] s) (F0 m 100 ls []) := by
    intro  τ hf _ _ hJ ls hl
    unfold f_X12_isLess_D100 at hf
    refine lv_iconst (v := 0) hx hb dX12_isLess_100 (by decide) ?_
    exact D101 (0 : Int32) τ hf _ _ hJ ls (lv_sub hl [] rfl)
  have D119 : ∀ (w0 : Int32) (τ : mx_S), f_X12_isLess_D119 P w0 τ = some (r, σ') → ∀ (H : Heap) (locs : List Loc), mx_J G P s.heap (mxz σ) (mxu σ) τ H locs → ∀ ls : Array Slot, lv_has ls 23 [] → W p l e (mx_rm P 0 0 σ) s m ([.long p0, .long p2, .long p4, .long p6] : List Value).toArray below meth c H locs (mxz τ - mxz σ) (mxu τ - mxu σ) (mx_Z below G P (some (.int r)) σ σ' [.long p0, .long p2, .long p4, .long p6] s) (F0 m 119 ls [.int w0]) := by
    intro w0 τ hf _ _ hJ ls hl
    unfold f_X12_isLess_D119 at hf
    exact mx_zret hx hb hr hlocks hJ hf dX12_isLess_119
  unfold f_X12_isLess at hf
  refine lv_lload_n hx hb dX12_isLess_0 rfl (lv_at hl 0 rfl) ?_
  refine lv_lstore (lv' := [(8, .long p0), (0, .long p0), (2, .long p2), (4, .long p4), (6, .long p6)]) hx hb dX12_isLess_1 hl (by decide) rfl (fun ls hl => ?_)
  refine lv_lload_n hx hb dX12_isLess_3 rfl (lv_at hl 2 rfl) ?_
  refine lv_lstore (lv' := [(10, .long p2), (8, .long p0), (0, .long p0), (2, .long p2), (4, .long p4), (6, .long p6)]) hx hb dX12_isLess_4 hl (by decide) rfl (fun ls hl => ?_)
  refine lv_lload hx hb dX12_isLess_6 (lv_at hl 4 rfl) ?_
  refine lv_lstore (lv' := [(12, .long p4), (10, .long p2), (8, .long p0), (0, .long p0), (2, .long p2), (4, .long p4), (6, .long p6)]) hx hb dX12_isLess_8 hl (by decide) rfl (fun ls hl => ?_)
  refine lv_lload hx hb dX12_isLess_10 (lv_at hl 6 rfl) ?_
  refine lv_lstore (lv' := [(14, .long p6), (12, .long p4), (10, .long p2), (8, .long p0), (0, .long p0), (2, .long p2), (4, .long p4), (6, .long p6)]) hx hb dX12_isLess_12 hl (by decide) rfl (fun ls hl => ?_)
  refine lv_iconst (v := 0) hx hb dX12_isLess_14 (by decide) ?_
  refine lv_istore (lv' := [(16, .int (0 : Int32)), (14, .long p6), (12, .long p4), (10, .long p2), (8, .long p0), (0, .long p0), (2, .long p2), (4, .long p4), (6, .long p6)]) hx hb dX12_isLess_15 hl (by decide) rfl (fun ls hl => ?_)
  obtain ⟨o13, e14, hf⟩ := mb0 hf
  refine L17  (mpN P) p0 p2 p4 p6 (0 : Int32) σ o13 e14 (fun y15 y16 y17 σ18 ho H locs hJ ls hl => ?_) (fun y21 y22 σ23 ho H locs hJ ls hl => ?_) (fun y26 σ27 ho H locs hJ ls hl => ?_) _ _ hJ ls (lv_sub hl [4, 3, 2, 1, 0] rfl)
  · rw [ho] at hf
    have hf : ((if 0 ≤ (lg_cmp y16 y17) then f_X12_isLess_D52 P y15 (0 : Int32) σ18 else f_X12_isLess_D52 P y15 (1 : Int32) σ18)) = some (r, σ') := hf
    refine lv_lload hx hb dX12_isLess_39 (lv_at hl 1 rfl) ?_
    refine lv_lload hx hb dX12_isLess_41 (lv_at hl 2 rfl) ?_
    refine W.lcmp hx hb dX12_isLess_43 ?_
    refine lv_if_ge (tgt := 51) hx hb dX12_isLess_44 (by decide) (fun c19 => ?_) (fun c19 => ?_)
    · rw [if_pos c19] at hf
      refine lv_iconst (v := 0) hx hb dX12_isLess_51 (by decide) ?_
      exact D52 y15 (0 : Int32) σ18 hf _ _ hJ ls (lv_sub hl [0] rfl)
    · rw [if_neg c19] at hf
      refine lv_iconst (v := 1) hx hb dX12_isLess_47 (by decide) ?_
      refine lv_goto (tgt := 52) hx hb dX12_isLess_48 (by decide) ?_
      exact D52 y15 (1 : Int32) σ18 hf _ _ hJ ls (lv_sub hl [0] rfl)
  · rw [ho] at hf
    have hf : ((if (lg_cmp y21 (0 : Int64)) = 0 then f_X12_isLess_D100 P  σ23 else (if y22 = 0 then f_X12_isLess_D100 P  σ23 else f_X12_isLess_D101 P (1 : Int32) σ23))) = some (r, σ') := hf
    refine lv_lload hx hb dX12_isLess_84 (lv_at hl 0 rfl) ?_
    refine lv_lconst (v := 0) hx hb dX12_isLess_86 (by decide) ?_
    refine W.lcmp hx hb dX12_isLess_87 ?_
    refine lv_if_eq (tgt := 100) hx hb dX12_isLess_88 (by decide) (fun c24 => ?_) (fun c24 => ?_)
    · rw [if_pos c24] at hf
      exact D100  σ23 hf _ _ hJ ls (lv_sub hl [] rfl)
    · rw [if_neg c24] at hf
      refine lv_iload hx hb dX12_isLess_91 (lv_at hl 1 rfl) ?_
      refine lv_if_eq (tgt := 100) hx hb dX12_isLess_93 (by decide) (fun c25 => ?_) (fun c25 => ?_)
      · rw [if_pos c25] at hf
        exact D100  σ23 hf _ _ hJ ls (lv_sub hl [] rfl)
      · rw [if_neg c25] at hf
        refine lv_iconst (v := 1) hx hb dX12_isLess_96 (by decide) ?_
        refine lv_goto (tgt := 101) hx hb dX12_isLess_97 (by decide) ?_
        exact D101 (1 : Int32) σ23 hf _ _ hJ ls (lv_sub hl [] rfl)
  · rw [ho] at hf
    have hf : ((if y26 = 0 then f_X12_isLess_D119 P (1 : Int32) σ27 else f_X12_isLess_D119 P (0 : Int32) σ27)) = some (r, σ') := hf
    refine lv_iload hx hb dX12_isLess_109 (lv_at hl 0 rfl) ?_
    refine lv_if_ne (tgt := 118) hx hb dX12_isLess_111 (by decide) (fun c28 => ?_) (fun c28 => ?_)
    · rw [if_neg c28] at hf
      refine lv_iconst (v := 0) hx hb dX12_isLess_118 (by decide) ?_
      exact D119 (0 : Int32) σ27 hf _ _ hJ ls (lv_sub hl [] rfl)
    · rw [if_pos c28] at hf
      refine lv_iconst (v := 1) hx hb dX12_isLess_114 (by decide) ?_
      refine lv_goto (tgt := 119) hx hb dX12_isLess_115 (by decide) ?_
      exact D119 (1 : Int32) σ27 hf _ _ hJ ls (lv_sub hl [] rfl)
set_option maxHeartbeats 4000000 in
set_option maxRecDepth 100000 in
theorem c_X12_steepest (l : Launch) (G : mx_G) (P : mx_P) (a0 : Nat) (σ : mx_S) (σ' : mx_S) (hf : f_X12_steepest P a0 σ = some σ') : mxz σ ≤ mpc P → mxu σ ≤ mps P → mx_M l yX12_steepest cX12_steepest 7 none 5 140 G P [.ref a0] σ none σ' := by
  intro hcap hcau
  refine mx_ofW (by decide +kernel) hcap hcau (Nat.le_of_ble_eq_true rfl) ?_
  intro p e s m below meth c hx hb hr hml hts hown hlocks hname hK hJ ls hl
  have hz0 := hJ.2.1
  have hown : s.vm.findClass RX12 = some m.cls := hown
  have hl : lv_has ls 7 [(0, .ref a0)] := hl
  have D168_7 : ∀ (v0 : Nat) (v1 : Int64) (v3 : Int64) (v5 : Int32) (τ : mx_S) (o : (Int64 × Int64 × Int32 × mx_S) ⊕ ((Int64 × Int64 × mx_S))), f_X12_steepest_D168_7 P v0 v1 v3 v5 τ = some o → (∀ (y1 : Int64) (y3 : Int64) (y5 : Int32) (υ : mx_S), o = .inl (y1, y3, y5, υ) → ∀ (H : Heap) (locs : List Loc), mx_J G P s.heap (mxz σ) (mxu σ) υ H locs → ∀ ls : Array Slot, lv_has ls 7 [(0, .ref v0), (1, .long y1), (3, .long y3), (5, .int y5)] → W p l e (mx_rm P 5 140 σ) s m ([.ref a0] : List Value).toArray below meth c H locs (mxz υ - mxz σ) (mxu υ - mxu σ) (mx_Z below G P none σ σ' [.ref a0] s) (F0 m 7 ls [])) → (∀ (y1 : Int64) (y3 : Int64) (υ : mx_S), o = .inr (y1, y3, υ) → ∀ (H : Heap) (locs : List Loc), mx_J G P s.heap (mxz σ) (mxu σ) υ H locs → ∀ ls : Array Slot, lv_has ls 7 [(0, .ref v0), (1, .long y1), (3, .long y3)] → W p l e (mx_rm P 5 140 σ) s m ([.ref a0] : List Value).toArray below meth c H locs (mxz υ - mxz σ) (mxu υ - mxu σ) (mx_Z below G P none σ σ' [.ref a0] s) (F0 m 174 ls [])) → ∀ (H : Heap) (locs : List Loc), mx_J G P s.heap (mxz σ) (mxu σ) τ H locs → ∀ ls : Array Slot, lv_has ls 7 [(0, .ref v0), (1, .long v1), (3, .long v3), (5, .int v5)] → W p l e (mx_rm P 5 140 σ) s m ([.ref a0] : List Value).toArray below meth c H locs (mxz τ - mxz σ) (mxu τ - mxu σ) (mx_Z below G P none σ σ' [.ref a0] s) (F0 m 168 ls []) := by
    intro v0 v1 v3 v5 τ o hf Kb Ke0 H locs hJ ls hl
    unfold f_X12_steepest_D168_7 at hf
    obtain ⟨x54, e55, hf⟩ := mb0 hf
    refine lv_iinc (v := x54) (lv' := [(5, .int x54), (0, .ref v0), (1, .long v1), (3, .long v3)]) hx hb dX12_steepest_168 hl (k := 3) rfl (by rw [← Option.some.inj e55]; rfl) (by decide) rfl (fun ls hl => ?_)
    refine lv_goto (tgt := 7) hx hb dX12_steepest_171 (by decide) ?_
    exact Kb v1 v3 x54 τ (Option.some.inj hf).symm _ _ hJ ls (lv_sub hl [1, 2, 3, 0] rfl)
  have D136_7 : ∀ (v0 : Nat) (v1 : Int64) (v3 : Int64) (v5 : Int32) (w0 : Int64) (w1 : Int64) (w2 : Int64) (w3 : Int64) (w4 : Nat) (τ : mx_S) (o : (Int64 × Int64 × Int32 × mx_S) ⊕ ((Int64 × Int64 × mx_S))), f_X12_steepest_D136_7 P v0 v1 v3 v5 w0 w1 w2 w3 w4 τ = some o → (∀ (y1 : Int64) (y3 : Int64) (y5 : Int32) (υ : mx_S), o = .inl (y1, y3, y5, υ) → ∀ (H : Heap) (locs : List Loc), mx_J G P s.heap (mxz σ) (mxu σ) υ H locs → ∀ ls : Array Slot, lv_has ls 7 [(0, .ref v0), (1, .long y1), (3, .long y3), (5, .int y5)] → W p l e (mx_rm P 5 140 σ) s m ([.ref a0] : List Value).toArray below meth c H locs (mxz υ - mxz σ) (mxu υ - mxu σ) (mx_Z below G P none σ σ' [.ref a0] s) (F0 m 7 ls [])) → (∀ (y1 : Int64) (y3 : Int64) (υ : mx_S), o = .inr (y1, y3, υ) → ∀ (H : Heap) (locs : List Loc), mx_J G P s.heap (mxz σ) (mxu σ) υ H locs → ∀ ls : Array Slot, lv_has ls 7 [(0, .ref v0), (1, .long y1), (3, .long y3)] → W p l e (mx_rm P 5 140 σ) s m ([.ref a0] : List Value).toArray below meth c H locs (mxz υ - mxz σ) (mxu υ - mxu σ) (mx_Z below G P none σ σ' [.ref a0] s) (F0 m 174 ls [])) → ∀ (H : Heap) (locs : List Loc), mx_J G P s.heap (mxz σ) (mxu σ) τ H locs → ∀ ls : Array Slot, lv_has ls 7 [(0, .ref v0), (1, .long v1), (3, .long v3), (5, .int v5)] → W p l e (mx_rm P 5 140 σ) s m ([.ref a0] : List Value).toArray below meth c H locs (mxz τ - mxz σ) (mxu τ - mxu σ) (mx_Z below G P none σ σ' [.ref a0] s) (F0 m 136 ls [.long w0, .long w1, .long w2, .long w3, .ref w4]) := by
    intro v0 v1 v3 v5 w0 w1 w2 w3 w4 τ o hf Kb Ke0 H locs hJ ls hl
    unfold f_X12_steepest_D136_7 at hf
    obtain ⟨i38, e39, hf⟩ := mb0 hf
    obtain ⟨σ40, e41, hf⟩ := mb0 hf
    refine mx_callV (As := [.long w3, .long w2, .long w1, .long w0]) (rest := []) hx hb hml hts hown hK hJ rfl rfl (ci := 12) rfl e39 (c_X12_times l G P w4 w3 w2 w1 w0 τ σ40 e41) me_X12_times kw_2650 ks_151 kw_2648 (Nat.le_of_ble_eq_true rfl) (Nat.le_of_ble_eq_true rfl) rfl hl.1 rfl (Nat.le_of_ble_eq_true rfl) dX12_steepest_136 (fun H locs hJ => ?_)
    refine lv_lload_n hx hb dX12_steepest_139 rfl (lv_at hl 1 rfl) ?_
    refine lv_lload_n hx hb dX12_steepest_140 rfl (lv_at hl 2 rfl) ?_
    refine lv_aload_n hx hb dX12_steepest_141 rfl (lv_at hl 0 rfl) ?_
    obtain ⟨x42, e43, hf⟩ := mb0 hf
    refine my_gL hx hb hts hown hK hJ fd_RX12_287 hv_12_8 e43 dX12_steepest_142 ?_
    refine lv_aload_n hx hb dX12_steepest_145 rfl (lv_at hl 0 rfl) ?_
    obtain ⟨x44, e45, hf⟩ := mb0 hf
    refine my_gL hx hb hts hown hK hJ fd_RX12_291 hv_12_9 e45 dX12_steepest_146 ?_
    obtain ⟨x47, σ46, e48, hf⟩ := mc0 hf
    refine mx_callS (As := [.long v1, .long v3, .long x42, .long x44]) (rest := []) hx hb hml hts hown hK hJ rfl rfl (c_X12_isLess l G P v1 v3 x42 x44 σ40 x47 σ46 e48) me_X12_isLess kw_2744 kw_2743 (Nat.le_of_ble_eq_true rfl) (Nat.le_of_ble_eq_true rfl) rfl hl.1 rfl (Nat.le_of_ble_eq_true rfl) dX12_steepest_149 (fun H locs hJ => ?_)
    refine lv_if_ne (tgt := 158) hx hb dX12_steepest_152 (by decide) (fun c49 => ?_) (fun c49 => ?_)
    · rw [if_neg c49] at hf
      refine lv_aload_n hx hb dX12_steepest_158 rfl (lv_at hl 0 rfl) ?_
      obtain ⟨x50, e51, hf⟩ := mb0 hf
      refine my_gL hx hb hts hown hK hJ fd_RX12_287 hv_12_8 e51 dX12_steepest_159 ?_
      refine lv_lstore_n (lv' := [(1, .long x50), (0, .ref v0), (3, .long v3), (5, .int v5)]) hx hb dX12_steepest_162 rfl hl (by decide) rfl (fun ls hl => ?_)
      refine lv_aload_n hx hb dX12_steepest_163 rfl (lv_at hl 1 rfl) ?_
      obtain ⟨x52, e53, hf⟩ := mb0 hf
      refine my_gL hx hb hts hown hK hJ fd_RX12_291 hv_12_9 e53 dX12_steepest_164 ?_
      refine lv_lstore_n (lv' := [(3, .long x52), (1, .long x50), (0, .ref v0), (5, .int v5)]) hx hb dX12_steepest_167 rfl hl (by decide) rfl (fun ls hl => ?_)
      exact D168_7 v0 x50 x52 v5 σ46 o hf Kb Ke0 _ _ hJ ls (lv_sub hl [2, 1, 0, 3] rfl)
    · rw [if_pos c49] at hf
      refine lv_goto (tgt := 168) hx hb dX12_steepest_155 (by decide) ?_
      exact D168_7 v0 v1 v3 v5 σ46 o hf Kb Ke0 _ _ hJ ls (lv_sub hl [0, 1, 2, 3] rfl)
  have D111_7 : ∀ (v0 : Nat) (v1 : Int64) (v3 : Int64) (v5 : Int32) (v6 : Int32) (w0 : Int64) (w1 : Int64) (w2 : Int64) (w3 : Nat) (τ : mx_S) (o : (Int64 × Int64 × Int32 × mx_S) ⊕ ((Int64 × Int64 × mx_S))), f_X12_steepest_D111_7 P v0 v1 v3 v5 v6 w0 w1 w2 w3 τ = some o → (∀ (y1 : Int64) (y3 : Int64) (y5 : Int32) (υ : mx_S), o = .inl (y1, y3, y5, υ) → ∀ (H : Heap) (locs : List Loc), mx_J G P s.heap (mxz σ) (mxu σ) υ H locs → ∀ ls : Array Slot, lv_has ls 7 [(0, .ref v0), (1, .long y1), (3, .long y3), (5, .int y5)] → W p l e (mx_rm P 5 140 σ) s m ([.ref a0] : List Value).toArray below meth c H locs (mxz υ - mxz σ) (mxu υ - mxu σ) (mx_Z below G P none σ σ' [.ref a0] s) (F0 m 7 ls [])) → (∀ (y1 : Int64) (y3 : Int64) (υ : mx_S), o = .inr (y1, y3, υ) → ∀ (H : Heap) (locs : List Loc), mx_J G P s.heap (mxz σ) (mxu σ) υ H locs → ∀ ls : Array Slot, lv_has ls 7 [(0, .ref v0), (1, .long y1), (3, .long y3)] → W p l e (mx_rm P 5 140 σ) s m ([.ref a0] : List Value).toArray below meth c H locs (mxz υ - mxz σ) (mxu υ - mxu σ) (mx_Z below G P none σ σ' [.ref a0] s) (F0 m 174 ls [])) → ∀ (H : Heap) (locs : List Loc), mx_J G P s.heap (mxz σ) (mxu σ) τ H locs → ∀ ls : Array Slot, lv_has ls 7 [(0, .ref v0), (1, .long v1), (3, .long v3), (5, .int v5), (6, .int v6)] → W p l e (mx_rm P 5 140 σ) s m ([.ref a0] : List Value).toArray below meth c H locs (mxz τ - mxz σ) (mxu τ - mxu σ) (mx_Z below G P none σ σ' [.ref a0] s) (F0 m 111 ls [.long w0, .long w1, .long w2, .ref w3]) := by
    intro v0 v1 v3 v5 v6 w0 w1 w2 w3 τ o hf Kb Ke0 H locs hJ ls hl
    unfold f_X12_steepest_D111_7 at hf
    refine lv_iload hx hb dX12_steepest_111 (lv_at hl 4 rfl) ?_
    refine lv_iconst (v := 3) hx hb dX12_steepest_113 (by decide) ?_
    refine lv_icmp_ge (tgt := 121) hx hb dX12_steepest_114 (by decide) (fun c36 => ?_) (fun c36 => ?_)
    · rw [if_pos c36] at hf
      refine lv_iload hx hb dX12_steepest_121 (lv_at hl 4 rfl) ?_
      refine lv_iconst (v := 3) hx hb dX12_steepest_123 (by decide) ?_
      refine lv_icmp_ne (tgt := 133) hx hb dX12_steepest_124 (by decide) (fun c37 => ?_) (fun c37 => ?_)
      · rw [if_neg c37] at hf
        refine lv_ldc2 hx hb hown (hts _ kw_2742) dX12_steepest_133 ?_
        exact D136_7 v0 v1 v3 v5 (16 : Int64) w0 w1 w2 w3 τ o hf Kb Ke0 _ _ hJ ls (lv_sub hl [0, 1, 2, 3] rfl)
      · rw [if_pos c37] at hf
        refine lv_ldc2 hx hb hown (hts _ kw_2674) dX12_steepest_127 ?_
        refine lv_goto (tgt := 136) hx hb dX12_steepest_130 (by decide) ?_
        exact D136_7 v0 v1 v3 v5 (8 : Int64) w0 w1 w2 w3 τ o hf Kb Ke0 _ _ hJ ls (lv_sub hl [0, 1, 2, 3] rfl)
    · rw [if_neg c36] at hf
      refine lv_lconst (v := 1) hx hb dX12_steepest_117 (by decide) ?_
      refine lv_goto (tgt := 136) hx hb dX12_steepest_118 (by decide) ?_
      exact D136_7 v0 v1 v3 v5 (1 : Int64) w0 w1 w2 w3 τ o hf Kb Ke0 _ _ hJ ls (lv_sub hl [0, 1, 2, 3] rfl)
  have B7 : ∀ (v0 : Nat) (v1 : Int64) (v3 : Int64) (v5 : Int32) (τ : mx_S) (o : (Int64 × Int64 × Int32 × mx_S) ⊕ ((Int64 × Int64 × mx_S))), f_X12_steepest_B7 P v0 v1 v3 v5 τ = some o → (∀ (y1 : Int64) (y3 : Int64) (y5 : Int32) (υ : mx_S), o = .inl (y1, y3, y5, υ) → ∀ (H : Heap) (locs : List Loc), mx_J G P s.heap (mxz σ) (mxu σ) υ H locs → ∀ ls : Array Slot, lv_has ls 7 [(0, .ref v0), (1, .long y1), (3, .long y3), (5, .int y5)] → W p l e (mx_rm P 5 140 σ) s m ([.ref a0] : List Value).toArray below meth c H locs (mxz υ - mxz σ) (mxu υ - mxu σ) (mx_Z below G P none σ σ' [.ref a0] s) (F0 m 7 ls [])) → (∀ (y1 : Int64) (y3 : Int64) (υ : mx_S), o = .inr (y1, y3, υ) → ∀ (H : Heap) (locs : List Loc), mx_J G P s.heap (mxz σ) (mxu σ) υ H locs → ∀ ls : Array Slot, lv_has ls 7 [(0, .ref v0), (1, .long y1), (3, .long y3)] → W p l e (mx_rm P 5 140 σ) s m ([.ref a0] : List Value).toArray below meth c H locs (mxz υ - mxz σ) (mxu υ - mxu σ) (mx_Z below G P none σ σ' [.ref a0] s) (F0 m 174 ls [])) → ∀ (H : Heap) (locs : List Loc), mx_J G P s.heap (mxz σ) (mxu σ) τ H locs → ∀ ls : Array Slot, lv_has ls 7 [(0, .ref v0), (1, .long v1), (3, .long v3), (5, .int v5)] → W p l e (mx_rm P 5 140 σ) s m ([.ref a0] : List Value).toArray below meth c H locs (mxz τ - mxz σ) (mxu τ - mxu σ) (mx_Z below G P none σ σ' [.ref a0] s) (F0 m 7 ls []) := by
    intro v0 v1 v3 v5 τ o hf Kb Ke0 H locs hJ ls hl
    unfold f_X12_steepest_B7 at hf
    refine lv_iload hx hb dX12_steepest_7 (lv_at hl 3 rfl) ?_
    refine lv_aload_n hx hb dX12_steepest_9 rfl (lv_at hl 0 rfl) ?_
    obtain ⟨x1, e2, hf⟩ := mb0 hf
    refine my_gI hx hb hts hown hK hJ fd_RX12_685 hv_12_74 e2 dX12_steepest_10 ?_
    refine lv_icmp_ge (tgt := 174) hx hb dX12_steepest_13 (by decide) (fun c3 => ?_) (fun c3 => ?_)
    · rw [if_pos c3] at hf
      exact Ke0 v1 v3 τ (Option.some.inj hf).symm _ _ hJ ls (lv_sub hl [0, 1, 2] rfl)
    · rw [if_neg c3] at hf
      refine lv_aload_n hx hb dX12_steepest_16 rfl (lv_at hl 0 rfl) ?_
      obtain ⟨b4, e5, hf⟩ := mb0 hf
      refine my_gR hx hb hts hown hK hJ fd_RX12_156 hv_12_75 e5 dX12_steepest_17 ?_
      refine lv_iload hx hb dX12_steepest_20 (lv_at hl 3 rfl) ?_
      obtain ⟨x6, e7, hf⟩ := mb0 hf
      refine mx_aI hx hb hK hJ e7 dX12_steepest_22 ?_
      refine lv_if_ne (tgt := 29) hx hb dX12_steepest_23 (by decide) (fun c8 => ?_) (fun c8 => ?_)
      · rw [if_neg c8] at hf
        refine lv_aload_n hx hb dX12_steepest_29 rfl (lv_at hl 0 rfl) ?_
        refine lv_aload_n hx hb dX12_steepest_30 rfl (lv_at hl 0 rfl) ?_
        obtain ⟨b9, e10, hf⟩ := mb0 hf
        refine my_gR hx hb hts hown hK hJ fd_RX12_162 hv_12_77 e10 dX12_steepest_31 ?_
        refine lv_iload hx hb dX12_steepest_34 (lv_at hl 3 rfl) ?_
        obtain ⟨x11, e12, hf⟩ := mb0 hf
        refine mx_aL hx hb hK hJ e12 dX12_steepest_36 ?_
        refine lv_aload_n hx hb dX12_steepest_37 rfl (lv_at hl 0 rfl) ?_
        obtain ⟨b13, e14, hf⟩ := mb0 hf
        refine my_gR hx hb hts hown hK hJ fd_RX12_165 hv_12_78 e14 dX12_steepest_38 ?_
        refine lv_iload hx hb dX12_steepest_41 (lv_at hl 3 rfl) ?_
        obtain ⟨x15, e16, hf⟩ := mb0 hf
        refine mx_aL hx hb hK hJ e16 dX12_steepest_43 ?_
        refine lv_aload_n hx hb dX12_steepest_44 rfl (lv_at hl 0 rfl) ?_
        obtain ⟨b17, e18, hf⟩ := mb0 hf
        refine my_gR hx hb hts hown hK hJ fd_RX12_159 hv_12_76 e18 dX12_steepest_45 ?_
        refine lv_iload hx hb dX12_steepest_48 (lv_at hl 3 rfl) ?_
        obtain ⟨x19, e20, hf⟩ := mb0 hf
        refine mx_aI hx hb hK hJ e20 dX12_steepest_50 ?_
        refine lv_i2l hx hb dX12_steepest_51 rfl ?_
        refine lv_lconst (v := 1) hx hb dX12_steepest_52 (by decide) ?_
        obtain ⟨i21, e22, hf⟩ := mb0 hf
        obtain ⟨σ23, e24, hf⟩ := mb0 hf
        refine mx_callV (As := [.long x11, .long x15, .long (x19.toInt64), .long (1 : Int64)]) (rest := []) hx hb hml hts hown hK hJ rfl rfl (ci := 12) rfl e22 (c_X12_by l G P v0 x11 x15 (x19.toInt64) (1 : Int64) τ σ23 e24) me_X12_by kw_2646 ks_150 kw_2644 (Nat.le_of_ble_eq_true rfl) (Nat.le_of_ble_eq_true rfl) rfl hl.1 rfl (Nat.le_of_ble_eq_true rfl) dX12_steepest_53 (fun H locs hJ => ?_)
        refine lv_aload_n hx hb dX12_steepest_56 rfl (lv_at hl 0 rfl) ?_
        obtain ⟨b25, e26, hf⟩ := mb0 hf
        refine my_gR hx hb hts hown hK hJ fd_RX12_168 hv_12_79 e26 dX12_steepest_57 ?_
        refine lv_iload hx hb dX12_steepest_60 (lv_at hl 3 rfl) ?_
        obtain ⟨x27, e28, hf⟩ := mb0 hf
        refine mx_aI hx hb hK hJ e28 dX12_steepest_62 ?_
        refine lv_istore (lv' := [(6, .int x27), (0, .ref v0), (1, .long v1), (3, .long v3), (5, .int v5)]) hx hb dX12_steepest_63 hl (by decide) rfl (fun ls hl => ?_)
        refine lv_aload_n hx hb dX12_steepest_65 rfl (lv_at hl 1 rfl) ?_
        refine lv_aload_n hx hb dX12_steepest_66 rfl (lv_at hl 1 rfl) ?_
        obtain ⟨x29, e30, hf⟩ := mb0 hf
        refine my_gL hx hb hts hown hK hJ fd_RX12_287 hv_12_8 e30 dX12_steepest_67 ?_
        refine lv_aload_n hx hb dX12_steepest_70 rfl (lv_at hl 1 rfl) ?_
        obtain ⟨x31, e32, hf⟩ := mb0 hf
        refine my_gL hx hb hts hown hK hJ fd_RX12_291 hv_12_9 e32 dX12_steepest_71 ?_
        refine lv_iload hx hb dX12_steepest_74 (lv_at hl 0 rfl) ?_
        refine lv_iconst (v := 1) hx hb dX12_steepest_76 (by decide) ?_
        refine lv_icmp_ne (tgt := 84) hx hb dX12_steepest_77 (by decide) (fun c33 => ?_) (fun c33 => ?_)
        · rw [if_neg c33] at hf
          refine lv_iload hx hb dX12_steepest_84 (lv_at hl 0 rfl) ?_
          refine lv_iconst (v := 2) hx hb dX12_steepest_86 (by decide) ?_
          refine lv_icmp_ne (tgt := 96) hx hb dX12_steepest_87 (by decide) (fun c34 => ?_) (fun c34 => ?_)
          · rw [if_neg c34] at hf
            refine lv_iload hx hb dX12_steepest_96 (lv_at hl 0 rfl) ?_
            refine lv_iconst (v := 3) hx hb dX12_steepest_98 (by decide) ?_
            refine lv_icmp_ne (tgt := 108) hx hb dX12_steepest_99 (by decide) (fun c35 => ?_) (fun c35 => ?_)
            · rw [if_neg c35] at hf
              refine lv_ldc2 hx hb hown (hts _ kw_2724) dX12_steepest_108 ?_
              exact D111_7 v0 v1 v3 v5 x27 (35 : Int64) x31 x29 v0 σ23 o hf Kb Ke0 _ _ hJ ls (lv_sub hl [1, 2, 3, 4, 0] rfl)
            · rw [if_pos c35] at hf
              refine lv_ldc2 hx hb hown (hts _ kw_2741) dX12_steepest_102 ?_
              refine lv_goto (tgt := 111) hx hb dX12_steepest_105 (by decide) ?_
              exact D111_7 v0 v1 v3 v5 x27 (15 : Int64) x31 x29 v0 σ23 o hf Kb Ke0 _ _ hJ ls (lv_sub hl [1, 2, 3, 4, 0] rfl)
          · rw [if_pos c34] at hf
            refine lv_ldc2 hx hb hown (hts _ kw_2447) dX12_steepest_90 ?_
            refine lv_goto (tgt := 111) hx hb dX12_steepest_93 (by decide) ?_
            exact D111_7 v0 v1 v3 v5 x27 (2 : Int64) x31 x29 v0 σ23 o hf Kb Ke0 _ _ hJ ls (lv_sub hl [1, 2, 3, 4, 0] rfl)
        · rw [if_pos c33] at hf
          refine lv_lconst (v := 1) hx hb dX12_steepest_80 (by decide) ?_
          refine lv_goto (tgt := 111) hx hb dX12_steepest_81 (by decide) ?_
          exact D111_7 v0 v1 v3 v5 x27 (1 : Int64) x31 x29 v0 σ23 o hf Kb Ke0 _ _ hJ ls (lv_sub hl [1, 2, 3, 4, 0] rfl)
      · rw [if_pos c8] at hf
        refine lv_goto (tgt := 168) hx hb dX12_steepest_26 (by decide) ?_
        exact D168_7 v0 v1 v3 v5 τ o hf Kb Ke0 _ _ hJ ls (lv_sub hl [0, 1, 2, 3] rfl)
  have L7 : ∀ (v0 : Nat) (n : Nat) (v1 : Int64) (v3 : Int64) (v5 : Int32) (τ : mx_S) (o : (Int64 × Int64 × mx_S)), mx_lp (f_X12_steepest_L7 P v0) n (v1, v3, v5, τ) = some o → (∀ (y1 : Int64) (y3 : Int64) (υ : mx_S), o = (y1, y3, υ) → ∀ (H : Heap) (locs : List Loc), mx_J G P s.heap (mxz σ) (mxu σ) υ H locs → ∀ ls : Array Slot, lv_has ls 7 [(0, .ref v0), (1, .long y1), (3, .long y3)] → W p l e (mx_rm P 5 140 σ) s m ([.ref a0] : List Value).toArray below meth c H locs (mxz υ - mxz σ) (mxu υ - mxu σ) (mx_Z below G P none σ σ' [.ref a0] s) (F0 m 174 ls [])) → ∀ (H : Heap) (locs : List Loc), mx_J G P s.heap (mxz σ) (mxu σ) τ H locs → ∀ ls : Array Slot, lv_has ls 7 [(0, .ref v0), (1, .long v1), (3, .long v3), (5, .int v5)] → W p l e (mx_rm P 5 140 σ) s m ([.ref a0] : List Value).toArray below meth c H locs (mxz τ - mxz σ) (mxu τ - mxu σ) (mx_Z below G P none σ σ' [.ref a0] s) (F0 m 7 ls []) := by
    intro v0 n
    induction n with
    | zero =>
      intro v1 v3 v5 τ o hf
      rw [mx_lp0] at hf
      cases hf
    | succ n ih =>
      intro v1 v3 v5 τ o hf Ke0 H locs hJ ls hl
      rw [mx_lpS] at hf
      obtain ⟨b, eb, hf⟩ := mb0 hf
      refine B7 v0 v1 v3 v5 τ b eb (fun y1 y3 y5 υ ho H locs hJ ls hl => ?_) (fun y1 y3 υ ho H locs hJ ls hl => ?_) H locs hJ ls hl
      · subst ho
        exact ih y1 y3 y5 υ o hf Ke0 H locs hJ ls hl
      · subst ho
        exact Ke0 y1 y3 υ (Option.some.inj hf).symm _ _ hJ ls hl
  unfold f_X12_steepest at hf
  refine lv_lconst (v := 0) hx hb dX12_steepest_0 (by decide) ?_
  refine lv_lstore_n (lv' := [(1, .long (0 : Int64)), (0, .ref a0)]) hx hb dX12_steepest_1 rfl hl (by decide) rfl (fun ls hl => ?_)
  refine lv_lconst (v := 1) hx hb dX12_steepest_2 (by decide) ?_
  refine lv_lstore_n (lv' := [(3, .long (1 : Int64)), (1, .long (0 : Int64)), (0, .ref a0)]) hx hb dX12_steepest_3 rfl hl (by decide) rfl (fun ls hl => ?_)
  refine lv_iconst (v := 0) hx hb dX12_steepest_4 (by decide) ?_
  refine lv_istore (lv' := [(5, .int (0 : Int32)), (3, .long (1 : Int64)), (1, .long (0 : Int64)), (0, .ref a0)]) hx hb dX12_steepest_5 hl (by decide) rfl (fun ls hl => ?_)
  obtain ⟨o56, e57, hf⟩ := mb0 hf
  refine L7 a0 (mpN P) (0 : Int64) (1 : Int64) (0 : Int32) σ o56 e57 (fun y58 y59 σ60 ho H locs hJ ls hl => ?_) _ _ hJ ls (lv_sub hl [3, 2, 1, 0] rfl)
  · rw [ho] at hf
    have hf : ((mp_L P σ60 a0 12 8 y58).bind fun σ61 => (mp_L P σ61 a0 12 9 y59).bind fun σ63 => some σ63) = some σ' := hf
    refine lv_aload_n hx hb dX12_steepest_174 rfl (lv_at hl 0 rfl) ?_
    refine lv_lload_n hx hb dX12_steepest_175 rfl (lv_at hl 1 rfl) ?_
    obtain ⟨σ61, e62, hf⟩ := mb0 hf
    refine my_pL hx hb hts hown hK hJ fd_RX12_287 cd_12 (Or.inl rfl) ht_12_8 e62 dX12_steepest_176 (fun H locs hJ => ?_)
    refine lv_aload_n hx hb dX12_steepest_179 rfl (lv_at hl 0 rfl) ?_
    refine lv_lload_n hx hb dX12_steepest_180 rfl (lv_at hl 2 rfl) ?_
    obtain ⟨σ63, e64, hf⟩ := mb0 hf
    refine my_pL hx hb hts hown hK hJ fd_RX12_291 cd_12 (Or.inl rfl) ht_12_9 e64 dX12_steepest_181 (fun H locs hJ => ?_)
    exact my_vret hx hb hr hlocks hJ hf dX12_steepest_184
set_option maxHeartbeats 4000000 in
set_option maxRecDepth 100000 in
theorem c_X12_camAbout (l : Launch) (G : mx_G) (P : mx_P) (a0 : Nat) (p1 : Int32) (σ : mx_S) (r : Int64) (σ' : mx_S) (hf : f_X12_camAbout P a0 p1 σ = some (r, σ')) : mxz σ ≤ mpc P → mxu σ ≤ mps P → mx_M l yX12_camAbout cX12_camAbout 2 (some .long) 7 187 G P [.ref a0, .int p1] σ (some (.long r)) σ' := by
  intro hcap hcau
  refine mx_ofW (by decide +kernel) hcap hcau (Nat.le_of_ble_eq_true rfl) ?_
  intro p e s m below meth c hx hb hr hml hts hown hlocks hname hK hJ ls hl
  have hz0 := hJ.2.1
  have hown : s.vm.findClass RX12 = some m.cls := hown
  have hl : lv_has ls 2 [(0, .ref a0), (1, .int p1)] := hl
  have D87 : ∀ (w0 : Int64) (τ : mx_S), f_X12_camAbout_D87 P w0 τ = some (r, σ') → ∀ (H : Heap) (locs : List Loc), mx_J G P s.heap (mxz σ) (mxu σ) τ H locs → ∀ ls : Array Slot, lv_has ls 2 [] → W p l e (mx_rm P 7 187 σ) s m ([.ref a0, .int p1] : List Value).toArray below meth c H locs (mxz τ - mxz σ) (mxu τ - mxu σ) (mx_Z below G P (some (.long r)) σ σ' [.ref a0, .int p1] s) (F0 m 87 ls [.long w0]) := by
    intro w0 τ hf _ _ hJ ls hl
    unfold f_X12_camAbout_D87 at hf
    exact my_lret hx hb hr hlocks hJ hf dX12_camAbout_87
  have D29 : ∀ (v0 : Nat) (v1 : Int32) (w0 : Int32) (w1 : Nat) (τ : mx_S), f_X12_camAbout_D29 P v0 v1 w0 w1 τ = some (r, σ') → ∀ (H : Heap) (locs : List Loc), mx_J G P s.heap (mxz σ) (mxu σ) τ H locs → ∀ ls : Array Slot, lv_has ls 2 [(0, .ref v0), (1, .int v1)] → W p l e (mx_rm P 7 187 σ) s m ([.ref a0, .int p1] : List Value).toArray below meth c H locs (mxz τ - mxz σ) (mxu τ - mxu σ) (mx_Z below G P (some (.long r)) σ σ' [.ref a0, .int p1] s) (F0 m 29 ls [.int w0, .ref w1]) := by
    intro v0 v1 w0 w1 τ hf _ _ hJ ls hl
    unfold f_X12_camAbout_D29 at hf
    obtain ⟨σ8, e9, hf⟩ := mb0 hf
    refine my_pI hx hb hts hown hK hJ fd_RX12_243 cd_12 (Or.inl rfl) ht_12_0 e9 dX12_camAbout_29 (fun H locs hJ => ?_)
    refine lv_aload_n hx hb dX12_camAbout_32 rfl (lv_at hl 0 rfl) ?_
    obtain ⟨x10, e11, hf⟩ := mb0 hf
    refine my_gI hx hb hts hown hK hJ fd_RX12_243 hv_12_0 e11 dX12_camAbout_33 ?_
    refine lv_if_le (tgt := 41) hx hb dX12_camAbout_36 (by decide) (fun c12 => ?_) (fun c12 => ?_)
    · rw [if_pos c12] at hf
      refine lv_aload_n hx hb dX12_camAbout_41 rfl (lv_at hl 0 rfl) ?_
      refine lv_iconst (v := 0) hx hb dX12_camAbout_42 (by decide) ?_
      obtain ⟨σ13, e14, hf⟩ := mb0 hf
      refine my_pZ hx hb hts hown hK hJ fd_RX12_283 cd_12 (Or.inl rfl) ht_12_10 e14 dX12_camAbout_43 (fun H locs hJ => ?_)
      refine lv_iload_n hx hb dX12_camAbout_46 rfl (lv_at hl 1 rfl) ?_
      refine lv_if_ne (tgt := 56) hx hb dX12_camAbout_47 (by decide) (fun c15 => ?_) (fun c15 => ?_)
      · rw [if_neg c15] at hf
        refine lv_iload_n hx hb dX12_camAbout_56 rfl (lv_at hl 1 rfl) ?_
        refine lv_iconst (v := 3) hx hb dX12_camAbout_57 (by decide) ?_
        refine lv_icmp_ne (tgt := 67) hx hb dX12_camAbout_58 (by decide) (fun c16 => ?_) (fun c16 => ?_)
        · rw [if_neg c16] at hf
          refine lv_aload_n hx hb dX12_camAbout_67 rfl (lv_at hl 0 rfl) ?_
          obtain ⟨i17, e18, hf⟩ := mb0 hf
          obtain ⟨σ19, e20, hf⟩ := mb0 hf
          refine mx_callV (As := []) (rest := []) hx hb hml hts hown hK hJ rfl rfl (ci := 12) rfl e18 (c_X12_steepest l G P v0 σ13 σ19 e20) me_X12_steepest kw_2739 ks_162 kw_2737 (Nat.le_of_ble_eq_true rfl) (Nat.le_of_ble_eq_true rfl) rfl hl.1 rfl (Nat.le_of_ble_eq_true rfl) dX12_camAbout_68 (fun H locs hJ => ?_)
          refine lv_iload_n hx hb dX12_camAbout_71 rfl (lv_at hl 1 rfl) ?_
          refine lv_iconst (v := 1) hx hb dX12_camAbout_72 (by decide) ?_
          refine lv_icmp_ne (tgt := 83) hx hb dX12_camAbout_73 (by decide) (fun c21 => ?_) (fun c21 => ?_)
          · rw [if_neg c21] at hf
            refine lv_aload_n hx hb dX12_camAbout_83 rfl (lv_at hl 0 rfl) ?_
            obtain ⟨x22, e23, hf⟩ := mb0 hf
            refine my_gL hx hb hts hown hK hJ fd_RX12_291 hv_12_9 e23 dX12_camAbout_84 ?_
            exact D87 x22 σ19 hf _ _ hJ ls (lv_sub hl [] rfl)
          · rw [if_pos c21] at hf
            refine lv_aload_n hx hb dX12_camAbout_76 rfl (lv_at hl 0 rfl) ?_
            obtain ⟨x24, e25, hf⟩ := mb0 hf
            refine my_gL hx hb hts hown hK hJ fd_RX12_287 hv_12_8 e25 dX12_camAbout_77 ?_
            refine lv_goto (tgt := 87) hx hb dX12_camAbout_80 (by decide) ?_
            exact D87 x24 σ19 hf _ _ hJ ls (lv_sub hl [] rfl)
        · rw [if_pos c16] at hf
          refine lv_aload_n hx hb dX12_camAbout_61 rfl (lv_at hl 0 rfl) ?_
          obtain ⟨x26, e27, hf⟩ := mb0 hf
          refine my_gI hx hb hts hown hK hJ fd_RX12_685 hv_12_74 e27 dX12_camAbout_62 ?_
          refine lv_i2l hx hb dX12_camAbout_65 rfl ?_
          exact my_lret hx hb hr hlocks hJ hf dX12_camAbout_66
      · rw [if_pos c15] at hf
        refine lv_aload_n hx hb dX12_camAbout_50 rfl (lv_at hl 0 rfl) ?_
        obtain ⟨i28, e29, hf⟩ := mb0 hf
        obtain ⟨x31, σ30, e32, hf⟩ := mc0 hf
        refine mx_callV (As := []) (rest := []) hx hb hml hts hown hK hJ rfl rfl (ci := 12) rfl e29 (c_X12_smooth l G P v0 σ13 x31 σ30 e32) me_X12_smooth kw_2731 ks_160 kw_2729 (Nat.le_of_ble_eq_true rfl) (Nat.le_of_ble_eq_true rfl) rfl hl.1 rfl (Nat.le_of_ble_eq_true rfl) dX12_camAbout_51 (fun H locs hJ => ?_)
        refine lv_i2l hx hb dX12_camAbout_54 rfl ?_
        exact my_lret hx hb hr hlocks hJ hf dX12_camAbout_55
    · rw [if_neg c12] at hf
      refine lv_lconst (v := 0) hx hb dX12_camAbout_39 (by decide) ?_
      exact my_lret hx hb hr hlocks hJ hf dX12_camAbout_40
  unfold f_X12_camAbout at hf
  refine lv_aload_n hx hb dX12_camAbout_0 rfl (lv_at hl 0 rfl) ?_
  refine lv_iload_n hx hb dX12_camAbout_1 rfl (lv_at hl 1 rfl) ?_
  refine lv_i2l hx hb dX12_camAbout_2 rfl ?_
  refine lv_lconst (v := 0) hx hb dX12_camAbout_3 (by decide) ?_
  refine lv_ldc2 hx hb hown (hts _ kw_2354) dX12_camAbout_4 ?_
  obtain ⟨x2, σ1, e3, hf⟩ := mc0 hf
  refine mx_callS (As := [.long (p1.toInt64), .long (0 : Int64), .long (3 : Int64)]) (rest := [.ref a0]) hx hb hml hts hown hK hJ rfl rfl (c_X12_in l G P (p1.toInt64) (0 : Int64) (3 : Int64) σ x2 σ1 e3) me_X12_in kw_2223 kw_2222 (Nat.le_of_ble_eq_true rfl) (Nat.le_of_ble_eq_true rfl) rfl hl.1 rfl (Nat.le_of_ble_eq_true rfl) dX12_camAbout_7 (fun H locs hJ => ?_)
  refine lv_if_ne (tgt := 17) hx hb dX12_camAbout_10 (by decide) (fun c4 => ?_) (fun c4 => ?_)
  · rw [if_neg c4] at hf
    refine lv_aload_n hx hb dX12_camAbout_17 rfl (lv_at hl 0 rfl) ?_
    obtain ⟨x5, e6, hf⟩ := mb0 hf
    refine my_gI hx hb hts hown hK hJ fd_RX12_685 hv_12_74 e6 dX12_camAbout_18 ?_
    refine lv_if_ne (tgt := 28) hx hb dX12_camAbout_21 (by decide) (fun c7 => ?_) (fun c7 => ?_)
    · rw [if_neg c7] at hf
      refine lv_iconst (v := 0) hx hb dX12_camAbout_28 (by decide) ?_
      exact D29 a0 p1 (0 : Int32) a0 σ1 hf _ _ hJ ls (lv_sub hl [0, 1] rfl)
    · rw [if_pos c7] at hf
      refine lv_iconst (v := 2) hx hb dX12_camAbout_24 (by decide) ?_
      refine lv_goto (tgt := 29) hx hb dX12_camAbout_25 (by decide) ?_
      exact D29 a0 p1 (2 : Int32) a0 σ1 hf _ _ hJ ls (lv_sub hl [0, 1] rfl)
  · rw [if_pos c4] at hf
    refine lv_iconst (v := 1) hx hb dX12_camAbout_13 (by decide) ?_
    refine lv_goto (tgt := 29) hx hb dX12_camAbout_14 (by decide) ?_
    exact D29 a0 p1 (1 : Int32) a0 σ1 hf _ _ hJ ls (lv_sub hl [0, 1] rfl)
set_option maxHeartbeats 4000000 in
set_option maxRecDepth 100000 in
theorem c_X12_corner (l : Launch) (G : mx_G) (P : mx_P) (a0 : Nat) (p1 : Int32) (p2 : Int32) (p3 : Int32) (σ : mx_S) (r : Int32) (σ' : mx_S) (hf : f_X12_corner P a0 p1 p2 p3 σ = some (r, σ')) : mxz σ ≤ mpc P → mxu σ ≤ mps P → mx_M l yX12_corner cX12_corner 5 (some .int) 1 25 G P [.ref a0, .int p1, .int p2, .int p3] σ (some (.int r)) σ' := by
  intro hcap hcau
  refine mx_ofW (by decide +kernel) hcap hcau (Nat.le_of_ble_eq_true rfl) ?_
  intro p e s m below meth c hx hb hr hml hts hown hlocks hname hK hJ ls hl
  have hz0 := hJ.2.1
  have hown : s.vm.findClass RX12 = some m.cls := hown
  have hl : lv_has ls 5 [(0, .ref a0), (1, .int p1), (2, .int p2), (3, .int p3)] := hl
  have D73 : ∀ (v0 : Nat) (v1 : Int32) (v2 : Int32) (v3 : Int32) (w0 : Int32) (w1 : Nat) (τ : mx_S), f_X12_corner_D73 P v0 v1 v2 v3 w0 w1 τ = some (r, σ') → ∀ (H : Heap) (locs : List Loc), mx_J G P s.heap (mxz σ) (mxu σ) τ H locs → ∀ ls : Array Slot, lv_has ls 5 [(0, .ref v0), (1, .int v1), (2, .int v2), (3, .int v3)] → W p l e (mx_rm P 1 25 σ) s m ([.ref a0, .int p1, .int p2, .int p3] : List Value).toArray below meth c H locs (mxz τ - mxz σ) (mxu τ - mxu σ) (mx_Z below G P (some (.int r)) σ σ' [.ref a0, .int p1, .int p2, .int p3] s) (F0 m 73 ls [.int w0, .ref w1]) := by
    intro v0 v1 v2 v3 w0 w1 τ hf _ _ hJ ls hl
    unfold f_X12_corner_D73 at hf
    obtain ⟨σ11, e12, hf⟩ := mb0 hf
    refine my_pI hx hb hts hown hK hJ fd_RX12_243 cd_12 (Or.inl rfl) ht_12_0 e12 dX12_corner_73 (fun H locs hJ => ?_)
    refine lv_aload_n hx hb dX12_corner_76 rfl (lv_at hl 0 rfl) ?_
    obtain ⟨x13, e14, hf⟩ := mb0 hf
    refine my_gI hx hb hts hown hK hJ fd_RX12_243 hv_12_0 e14 dX12_corner_77 ?_
    refine lv_if_le (tgt := 85) hx hb dX12_corner_80 (by decide) (fun c15 => ?_) (fun c15 => ?_)
    · rw [if_pos c15] at hf
      refine lv_aload_n hx hb dX12_corner_85 rfl (lv_at hl 0 rfl) ?_
      obtain ⟨b16, e17, hf⟩ := mb0 hf
      refine my_gR hx hb hts hown hK hJ fd_RX12_189 hv_12_87 e17 dX12_corner_86 ?_
      refine lv_bipush (v := 24) hx hb dX12_corner_89 (by decide) ?_
      refine lv_iload_n hx hb dX12_corner_91 rfl (lv_at hl 1 rfl) ?_
      refine lv_imul hx hb dX12_corner_92 ?_
      refine lv_aload_n hx hb dX12_corner_93 rfl (lv_at hl 0 rfl) ?_
      obtain ⟨b18, e19, hf⟩ := mb0 hf
      refine my_gR hx hb hts hown hK hJ fd_RX12_186 hv_12_86 e19 dX12_corner_94 ?_
      refine lv_iload_n hx hb dX12_corner_97 rfl (lv_at hl 1 rfl) ?_
      obtain ⟨x20, e21, hf⟩ := mb0 hf
      refine mx_aI hx hb hK hJ e21 dX12_corner_98 ?_
      refine lv_iadd hx hb dX12_corner_99 ?_
      refine lv_iload_n hx hb dX12_corner_100 rfl (lv_at hl 2 rfl) ?_
      refine lv_i2l hx hb dX12_corner_101 rfl ?_
      obtain ⟨σ22, e23, hf⟩ := mb0 hf
      refine mx_sL hx hb hK hJ e23 dX12_corner_102 (fun H locs hJ => ?_)
      refine lv_aload_n hx hb dX12_corner_103 rfl (lv_at hl 0 rfl) ?_
      obtain ⟨b24, e25, hf⟩ := mb0 hf
      refine my_gR hx hb hts hown hK hJ fd_RX12_192 hv_12_88 e25 dX12_corner_104 ?_
      refine lv_bipush (v := 24) hx hb dX12_corner_107 (by decide) ?_
      refine lv_iload_n hx hb dX12_corner_109 rfl (lv_at hl 1 rfl) ?_
      refine lv_imul hx hb dX12_corner_110 ?_
      refine lv_aload_n hx hb dX12_corner_111 rfl (lv_at hl 0 rfl) ?_
      obtain ⟨b26, e27, hf⟩ := mb0 hf
      refine my_gR hx hb hts hown hK hJ fd_RX12_186 hv_12_86 e27 dX12_corner_112 ?_
      refine lv_iload_n hx hb dX12_corner_115 rfl (lv_at hl 1 rfl) ?_
      obtain ⟨x28, e29, hf⟩ := mb0 hf
      refine mx_aI hx hb hK hJ e29 dX12_corner_116 ?_
      refine lv_iadd hx hb dX12_corner_117 ?_
      refine lv_iload_n hx hb dX12_corner_118 rfl (lv_at hl 3 rfl) ?_
      refine lv_i2l hx hb dX12_corner_119 rfl ?_
      obtain ⟨σ30, e31, hf⟩ := mb0 hf
      refine mx_sL hx hb hK hJ e31 dX12_corner_120 (fun H locs hJ => ?_)
      refine lv_aload_n hx hb dX12_corner_121 rfl (lv_at hl 0 rfl) ?_
      obtain ⟨b32, e33, hf⟩ := mb0 hf
      refine my_gR hx hb hts hown hK hJ fd_RX12_186 hv_12_86 e33 dX12_corner_122 ?_
      refine lv_iload_n hx hb dX12_corner_125 rfl (lv_at hl 1 rfl) ?_
      refine lv_dup2_11 hx hb dX12_corner_126 rfl rfl ?_
      obtain ⟨x34, e35, hf⟩ := mb0 hf
      refine mx_aI hx hb hK hJ e35 dX12_corner_127 ?_
      refine lv_iconst (v := 1) hx hb dX12_corner_128 (by decide) ?_
      refine lv_iadd hx hb dX12_corner_129 ?_
      obtain ⟨σ36, e37, hf⟩ := mb0 hf
      refine mx_sI hx hb hK hJ e37 dX12_corner_130 (fun H locs hJ => ?_)
      refine lv_aload_n hx hb dX12_corner_131 rfl (lv_at hl 0 rfl) ?_
      obtain ⟨b38, e39, hf⟩ := mb0 hf
      refine my_gR hx hb hts hown hK hJ fd_RX12_186 hv_12_86 e39 dX12_corner_132 ?_
      refine lv_iload_n hx hb dX12_corner_135 rfl (lv_at hl 1 rfl) ?_
      obtain ⟨x40, e41, hf⟩ := mb0 hf
      refine mx_aI hx hb hK hJ e41 dX12_corner_136 ?_
      exact my_iret hx hb hr hlocks hJ hf dX12_corner_137
    · rw [if_neg c15] at hf
      refine lv_iconst (v := 0) hx hb dX12_corner_83 (by decide) ?_
      exact my_iret hx hb hr hlocks hJ hf dX12_corner_84
  have D45 : ∀ (v0 : Nat) (v1 : Int32) (v2 : Int32) (v3 : Int32) (w0 : Int32) (τ : mx_S), f_X12_corner_D45 P v0 v1 v2 v3 w0 τ = some (r, σ') → ∀ (H : Heap) (locs : List Loc), mx_J G P s.heap (mxz σ) (mxu σ) τ H locs → ∀ ls : Array Slot, lv_has ls 5 [(0, .ref v0), (1, .int v1), (2, .int v2), (3, .int v3)] → W p l e (mx_rm P 1 25 σ) s m ([.ref a0, .int p1, .int p2, .int p3] : List Value).toArray below meth c H locs (mxz τ - mxz σ) (mxu τ - mxu σ) (mx_Z below G P (some (.int r)) σ σ' [.ref a0, .int p1, .int p2, .int p3] s) (F0 m 45 ls [.int w0]) := by
    intro v0 v1 v2 v3 w0 τ hf _ _ hJ ls hl
    unfold f_X12_corner_D45 at hf
    refine lv_istore (lv' := [(4, .int w0), (0, .ref v0), (1, .int v1), (2, .int v2), (3, .int v3)]) hx hb dX12_corner_45 hl (by decide) rfl (fun ls hl => ?_)
    refine lv_aload_n hx hb dX12_corner_47 rfl (lv_at hl 1 rfl) ?_
    refine lv_iload hx hb dX12_corner_48 (lv_at hl 0 rfl) ?_
    refine lv_if_ne (tgt := 57) hx hb dX12_corner_50 (by decide) (fun c5 => ?_) (fun c5 => ?_)
    · rw [if_neg c5] at hf
      refine lv_aload_n hx hb dX12_corner_57 rfl (lv_at hl 1 rfl) ?_
      obtain ⟨b6, e7, hf⟩ := mb0 hf
      refine my_gR hx hb hts hown hK hJ fd_RX12_186 hv_12_86 e7 dX12_corner_58 ?_
      refine lv_iload_n hx hb dX12_corner_61 rfl (lv_at hl 2 rfl) ?_
      obtain ⟨x8, e9, hf⟩ := mb0 hf
      refine mx_aI hx hb hK hJ e9 dX12_corner_62 ?_
      refine lv_bipush (v := 24) hx hb dX12_corner_63 (by decide) ?_
      refine lv_icmp_ne (tgt := 72) hx hb dX12_corner_65 (by decide) (fun c10 => ?_) (fun c10 => ?_)
      · rw [if_neg c10] at hf
        refine lv_iconst (v := 0) hx hb dX12_corner_72 (by decide) ?_
        exact D73 v0 v1 v2 v3 (0 : Int32) v0 τ hf _ _ hJ ls (lv_sub hl [1, 2, 3, 4] rfl)
      · rw [if_pos c10] at hf
        refine lv_iconst (v := 2) hx hb dX12_corner_68 (by decide) ?_
        refine lv_goto (tgt := 73) hx hb dX12_corner_69 (by decide) ?_
        exact D73 v0 v1 v2 v3 (2 : Int32) v0 τ hf _ _ hJ ls (lv_sub hl [1, 2, 3, 4] rfl)
    · rw [if_pos c5] at hf
      refine lv_iconst (v := 1) hx hb dX12_corner_53 (by decide) ?_
      refine lv_goto (tgt := 73) hx hb dX12_corner_54 (by decide) ?_
      exact D73 v0 v1 v2 v3 (1 : Int32) v0 τ hf _ _ hJ ls (lv_sub hl [1, 2, 3, 4] rfl)
  have D44 : ∀ (v0 : Nat) (v1 : Int32) (v2 : Int32) (v3 : Int32) (τ : mx_S), f_X12_corner_D44 P v0 v1 v2 v3 τ = some (r, σ') → ∀ (H : Heap) (locs : List Loc), mx_J G P s.heap (mxz σ) (mxu σ) τ H locs → ∀ ls : Array Slot, lv_has ls 5 [(0, .ref v0), (1, .int v1), (2, .int v2), (3, .int v3)] → W p l e (mx_rm P 1 25 σ) s m ([.ref a0, .int p1, .int p2, .int p3] : List Value).toArray below meth c H locs (mxz τ - mxz σ) (mxu τ - mxu σ) (mx_Z below G P (some (.int r)) σ σ' [.ref a0, .int p1, .int p2, .int p3] s) (F0 m 44 ls []) := by
    intro v0 v1 v2 v3 τ hf _ _ hJ ls hl
    unfold f_X12_corner_D44 at hf
    refine lv_iconst (v := 0) hx hb dX12_corner_44 (by decide) ?_
    exact D45 v0 v1 v2 v3 (0 : Int32) τ hf _ _ hJ ls (lv_sub hl [0, 1, 2, 3] rfl)
  unfold f_X12_corner at hf
  refine lv_iload_n hx hb dX12_corner_0 rfl (lv_at hl 1 rfl) ?_
  refine lv_i2l hx hb dX12_corner_1 rfl ?_
  refine lv_lconst (v := 0) hx hb dX12_corner_2 (by decide) ?_
  refine lv_ldc2 hx hb hown (hts _ kw_2750) dX12_corner_3 ?_
  obtain ⟨x2, σ1, e3, hf⟩ := mc0 hf
  refine mx_callS (As := [.long (p1.toInt64), .long (0 : Int64), .long (7 : Int64)]) (rest := []) hx hb hml hts hown hK hJ rfl rfl (c_X12_in l G P (p1.toInt64) (0 : Int64) (7 : Int64) σ x2 σ1 e3) me_X12_in kw_2223 kw_2222 (Nat.le_of_ble_eq_true rfl) (Nat.le_of_ble_eq_true rfl) rfl hl.1 rfl (Nat.le_of_ble_eq_true rfl) dX12_corner_6 (fun H locs hJ => ?_)
  refine lv_if_eq (tgt := 44) hx hb dX12_corner_9 (by decide) (fun c4 => ?_) (fun c4 => ?_)
  · rw [if_pos c4] at hf
    exact D44 a0 p1 p2 p3 σ1 hf _ _ hJ ls (lv_sub hl [0, 1, 2, 3] rfl)
  · rw [if_neg c4] at hf
    refine lv_iload_n hx hb dX12_corner_12 rfl (lv_at hl 2 rfl) ?_
    refine lv_i2l hx hb dX12_corner_13 rfl ?_
    refine lv_ldc2 hx hb hown (hts _ kw_2573) dX12_corner_14 ?_
    refine lv_ldc2 hx hb hown (hts _ kw_2574) dX12_corner_17 ?_
    obtain ⟨x43, σ42, e44, hf⟩ := mc0 hf
    refine mx_callS (As := [.long (p2.toInt64), .long (-1000 : Int64), .long (1000 : Int64)]) (rest := []) hx hb hml hts hown hK hJ rfl rfl (c_X12_in l G P (p2.toInt64) (-1000 : Int64) (1000 : Int64) σ1 x43 σ42 e44) me_X12_in kw_2223 kw_2222 (Nat.le_of_ble_eq_true rfl) (Nat.le_of_ble_eq_true rfl) rfl hl.1 rfl (Nat.le_of_ble_eq_true rfl) dX12_corner_20 (fun H locs hJ => ?_)
    refine lv_if_eq (tgt := 44) hx hb dX12_corner_23 (by decide) (fun c45 => ?_) (fun c45 => ?_)
    · rw [if_pos c45] at hf
      exact D44 a0 p1 p2 p3 σ42 hf _ _ hJ ls (lv_sub hl [0, 1, 2, 3] rfl)
    · rw [if_neg c45] at hf
      refine lv_iload_n hx hb dX12_corner_26 rfl (lv_at hl 3 rfl) ?_
      refine lv_i2l hx hb dX12_corner_27 rfl ?_
      refine lv_ldc2 hx hb hown (hts _ kw_2573) dX12_corner_28 ?_
      refine lv_ldc2 hx hb hown (hts _ kw_2574) dX12_corner_31 ?_
      obtain ⟨x47, σ46, e48, hf⟩ := mc0 hf
      refine mx_callS (As := [.long (p3.toInt64), .long (-1000 : Int64), .long (1000 : Int64)]) (rest := []) hx hb hml hts hown hK hJ rfl rfl (c_X12_in l G P (p3.toInt64) (-1000 : Int64) (1000 : Int64) σ42 x47 σ46 e48) me_X12_in kw_2223 kw_2222 (Nat.le_of_ble_eq_true rfl) (Nat.le_of_ble_eq_true rfl) rfl hl.1 rfl (Nat.le_of_ble_eq_true rfl) dX12_corner_34 (fun H locs hJ => ?_)
      refine lv_if_eq (tgt := 44) hx hb dX12_corner_37 (by decide) (fun c49 => ?_) (fun c49 => ?_)
      · rw [if_pos c49] at hf
        exact D44 a0 p1 p2 p3 σ46 hf _ _ hJ ls (lv_sub hl [0, 1, 2, 3] rfl)
      · rw [if_neg c49] at hf
        refine lv_iconst (v := 1) hx hb dX12_corner_40 (by decide) ?_
        refine lv_goto (tgt := 45) hx hb dX12_corner_41 (by decide) ?_
        exact D45 a0 p1 p2 p3 (1 : Int32) σ46 hf _ _ hJ ls (lv_sub hl [0, 1, 2, 3] rfl)
set_option maxHeartbeats 4000000 in
set_option maxRecDepth 100000 in
theorem c_X12_empty (l : Launch) (G : mx_G) (P : mx_P) (a0 : Nat) (p1 : Int32) (σ : mx_S) (σ' : mx_S) (hf : f_X12_empty P a0 p1 σ = some σ') : mxz σ ≤ mpc P → mxu σ ≤ mps P → mx_M l yX12_empty cX12_empty 2 none 1 25 G P [.ref a0, .int p1] σ none σ' := by
  intro hcap hcau
  refine mx_ofW (by decide +kernel) hcap hcau (Nat.le_of_ble_eq_true rfl) ?_
  intro p e s m below meth c hx hb hr hml hts hown hlocks hname hK hJ ls hl
  have hz0 := hJ.2.1
  have hown : s.vm.findClass RX12 = some m.cls := hown
  have hl : lv_has ls 2 [(0, .ref a0), (1, .int p1)] := hl
  have D35 : ∀  (τ : mx_S), f_X12_empty_D35 P  τ = some σ' → ∀ (H : Heap) (locs : List Loc), mx_J G P s.heap (mxz σ) (mxu σ) τ H locs → ∀ ls : Array Slot, lv_has ls 2 [] → W p l e (mx_rm P 1 25 σ) s m ([.ref a0, .int p1] : List Value).toArray below meth c H locs (mxz τ - mxz σ) (mxu τ - mxu σ) (mx_Z below G P none σ σ' [.ref a0, .int p1] s) (F0 m 35 ls []) := by
    intro  τ hf _ _ hJ ls hl
    unfold f_X12_empty_D35 at hf
    exact my_vret hx hb hr hlocks hJ hf dX12_empty_35
  have D18 : ∀ (v0 : Nat) (v1 : Int32) (w0 : Int32) (w1 : Nat) (τ : mx_S), f_X12_empty_D18 P v0 v1 w0 w1 τ = some σ' → ∀ (H : Heap) (locs : List Loc), mx_J G P s.heap (mxz σ) (mxu σ) τ H locs → ∀ ls : Array Slot, lv_has ls 2 [(0, .ref v0), (1, .int v1)] → W p l e (mx_rm P 1 25 σ) s m ([.ref a0, .int p1] : List Value).toArray below meth c H locs (mxz τ - mxz σ) (mxu τ - mxu σ) (mx_Z below G P none σ σ' [.ref a0, .int p1] s) (F0 m 18 ls [.int w0, .ref w1]) := by
    intro v0 v1 w0 w1 τ hf _ _ hJ ls hl
    unfold f_X12_empty_D18 at hf
    obtain ⟨σ5, e6, hf⟩ := mb0 hf
    refine my_pI hx hb hts hown hK hJ fd_RX12_243 cd_12 (Or.inl rfl) ht_12_0 e6 dX12_empty_18 (fun H locs hJ => ?_)
    refine lv_aload_n hx hb dX12_empty_21 rfl (lv_at hl 0 rfl) ?_
    obtain ⟨x7, e8, hf⟩ := mb0 hf
    refine my_gI hx hb hts hown hK hJ fd_RX12_243 hv_12_0 e8 dX12_empty_22 ?_
    refine lv_if_ne (tgt := 35) hx hb dX12_empty_25 (by decide) (fun c9 => ?_) (fun c9 => ?_)
    · rw [if_neg c9] at hf
      exact D35  σ5 hf _ _ hJ ls (lv_sub hl [] rfl)
    · rw [if_pos c9] at hf
      refine lv_aload_n hx hb dX12_empty_28 rfl (lv_at hl 0 rfl) ?_
      obtain ⟨b10, e11, hf⟩ := mb0 hf
      refine my_gR hx hb hts hown hK hJ fd_RX12_186 hv_12_86 e11 dX12_empty_29 ?_
      refine lv_iload_n hx hb dX12_empty_32 rfl (lv_at hl 1 rfl) ?_
      refine lv_iconst (v := 0) hx hb dX12_empty_33 (by decide) ?_
      obtain ⟨σ12, e13, hf⟩ := mb0 hf
      refine mx_sI hx hb hK hJ e13 dX12_empty_34 (fun H locs hJ => ?_)
      exact D35  σ12 hf _ _ hJ ls (lv_sub hl [] rfl)
  unfold f_X12_empty at hf
  refine lv_aload_n hx hb dX12_empty_0 rfl (lv_at hl 0 rfl) ?_
  refine lv_iload_n hx hb dX12_empty_1 rfl (lv_at hl 1 rfl) ?_
  refine lv_i2l hx hb dX12_empty_2 rfl ?_
  refine lv_lconst (v := 0) hx hb dX12_empty_3 (by decide) ?_
  refine lv_ldc2 hx hb hown (hts _ kw_2750) dX12_empty_4 ?_
  obtain ⟨x2, σ1, e3, hf⟩ := mc0 hf
  refine mx_callS (As := [.long (p1.toInt64), .long (0 : Int64), .long (7 : Int64)]) (rest := [.ref a0]) hx hb hml hts hown hK hJ rfl rfl (c_X12_in l G P (p1.toInt64) (0 : Int64) (7 : Int64) σ x2 σ1 e3) me_X12_in kw_2223 kw_2222 (Nat.le_of_ble_eq_true rfl) (Nat.le_of_ble_eq_true rfl) rfl hl.1 rfl (Nat.le_of_ble_eq_true rfl) dX12_empty_7 (fun H locs hJ => ?_)
  refine lv_if_eq (tgt := 17) hx hb dX12_empty_10 (by decide) (fun c4 => ?_) (fun c4 => ?_)
  · rw [if_pos c4] at hf
    refine lv_iconst (v := 1) hx hb dX12_empty_17 (by decide) ?_
    exact D18 a0 p1 (1 : Int32) a0 σ1 hf _ _ hJ ls (lv_sub hl [0, 1] rfl)
  · rw [if_neg c4] at hf
    refine lv_iconst (v := 0) hx hb dX12_empty_13 (by decide) ?_
    refine lv_goto (tgt := 18) hx hb dX12_empty_14 (by decide) ?_
    exact D18 a0 p1 (0 : Int32) a0 σ1 hf _ _ hJ ls (lv_sub hl [0, 1] rfl)
set_option maxHeartbeats 4000000 in
set_option maxRecDepth 100000 in
theorem c_X12_after (l : Launch) (G : mx_G) (P : mx_P) (a0 : Nat) (p1 : Int32) (p2 : Int32) (σ : mx_S) (r : Int32) (σ' : mx_S) (hf : f_X12_after P a0 p1 p2 σ = some (r, σ')) : mxz σ ≤ mpc P → mxu σ ≤ mps P → mx_M l yX12_after cX12_after 3 (some .int) 0 0 G P [.ref a0, .int p1, .int p2] σ (some (.int r)) σ' := by
  intro hcap hcau
  refine mx_ofW (by decide +kernel) hcap hcau (Nat.le_of_ble_eq_true rfl) ?_
  intro p e s m below meth c hx hb hr hml hts hown hlocks hname hK hJ ls hl
  have hz0 := hJ.2.1
  have hown : s.vm.findClass RX12 = some m.cls := hown
  have hl : lv_has ls 3 [(0, .ref a0), (1, .int p1), (2, .int p2)] := hl
  have D23 : ∀ (w0 : Int32) (w1 : Int32) (τ : mx_S), f_X12_after_D23 P w0 w1 τ = some (r, σ') → ∀ (H : Heap) (locs : List Loc), mx_J G P s.heap (mxz σ) (mxu σ) τ H locs → ∀ ls : Array Slot, lv_has ls 3 [] → W p l e (mx_rm P 0 0 σ) s m ([.ref a0, .int p1, .int p2] : List Value).toArray below meth c H locs (mxz τ - mxz σ) (mxu τ - mxu σ) (mx_Z below G P (some (.int r)) σ σ' [.ref a0, .int p1, .int p2] s) (F0 m 23 ls [.int w0, .int w1]) := by
    intro w0 w1 τ hf _ _ hJ ls hl
    unfold f_X12_after_D23 at hf
    refine lv_iadd hx hb dX12_after_23 ?_
    exact my_iret hx hb hr hlocks hJ hf dX12_after_24
  unfold f_X12_after at hf
  refine lv_bipush (v := 24) hx hb dX12_after_0 (by decide) ?_
  refine lv_iload_n hx hb dX12_after_2 rfl (lv_at hl 1 rfl) ?_
  refine lv_imul hx hb dX12_after_3 ?_
  refine lv_iload_n hx hb dX12_after_4 rfl (lv_at hl 2 rfl) ?_
  refine lv_iconst (v := 1) hx hb dX12_after_5 (by decide) ?_
  refine lv_iadd hx hb dX12_after_6 ?_
  refine lv_aload_n hx hb dX12_after_7 rfl (lv_at hl 0 rfl) ?_
  obtain ⟨b1, e2, hf⟩ := mb0 hf
  refine my_gR hx hb hts hown hK hJ fd_RX12_186 hv_12_86 e2 dX12_after_8 ?_
  refine lv_iload_n hx hb dX12_after_11 rfl (lv_at hl 1 rfl) ?_
  obtain ⟨x3, e4, hf⟩ := mb0 hf
  refine mx_aI hx hb hK hJ e4 dX12_after_12 ?_
  refine lv_icmp_ne (tgt := 20) hx hb dX12_after_13 (by decide) (fun c5 => ?_) (fun c5 => ?_)
  · rw [if_neg c5] at hf
    refine lv_iload_n hx hb dX12_after_20 rfl (lv_at hl 2 rfl) ?_
    refine lv_iconst (v := 1) hx hb dX12_after_21 (by decide) ?_
    refine lv_iadd hx hb dX12_after_22 ?_
    exact D23 (p2 + (1 : Int32)) ((24 : Int32) * p1) σ hf _ _ hJ ls (lv_sub hl [] rfl)
  · rw [if_pos c5] at hf
    refine lv_iconst (v := 0) hx hb dX12_after_16 (by decide) ?_
    refine lv_goto (tgt := 23) hx hb dX12_after_17 (by decide) ?_
    exact D23 (0 : Int32) ((24 : Int32) * p1) σ hf _ _ hJ ls (lv_sub hl [] rfl)
set_option maxHeartbeats 4000000 in
set_option maxRecDepth 100000 in
theorem c_X12_plateSum (l : Launch) (G : mx_G) (P : mx_P) (a0 : Nat) (p1 : Int32) (p2 : Int32) (σ : mx_S) (r : Int64) (σ' : mx_S) (hf : f_X12_plateSum P a0 p1 p2 σ = some (r, σ')) : mxz σ ≤ mpc P → mxu σ ≤ mps P → mx_M l yX12_plateSum cX12_plateSum 16 (some .long) 1 22 G P [.ref a0, .int p1, .int p2] σ (some (.long r)) σ' := by
  intro hcap hcau
  refine mx_ofW (by decide +kernel) hcap hcau (Nat.le_of_ble_eq_true rfl) ?_
  intro p e s m below meth c hx hb hr hml hts hown hlocks hname hK hJ ls hl
  have hz0 := hJ.2.1
  have hown : s.vm.findClass RX12 = some m.cls := hown
  have hl : lv_has ls 16 [(0, .ref a0), (1, .int p1), (2, .int p2)] := hl
  have D165_5 : ∀ (v0 : Nat) (v1 : Int32) (v2 : Int32) (v5 : Int32) (w0 : Int64) (w1 : Int64) (τ : mx_S) (o : (Int64 × Int32 × mx_S) ⊕ ((Int64 × mx_S))), f_X12_plateSum_D165_5 P v0 v1 v2 v5 w0 w1 τ = some o → (∀ (y3 : Int64) (y5 : Int32) (υ : mx_S), o = .inl (y3, y5, υ) → ∀ (H : Heap) (locs : List Loc), mx_J G P s.heap (mxz σ) (mxu σ) υ H locs → ∀ ls : Array Slot, lv_has ls 16 [(0, .ref v0), (1, .int v1), (2, .int v2), (3, .long y3), (5, .int y5)] → W p l e (mx_rm P 1 22 σ) s m ([.ref a0, .int p1, .int p2] : List Value).toArray below meth c H locs (mxz υ - mxz σ) (mxu υ - mxu σ) (mx_Z below G P (some (.long r)) σ σ' [.ref a0, .int p1, .int p2] s) (F0 m 5 ls [])) → (∀ (y3 : Int64) (υ : mx_S), o = .inr (y3, υ) → ∀ (H : Heap) (locs : List Loc), mx_J G P s.heap (mxz σ) (mxu σ) υ H locs → ∀ ls : Array Slot, lv_has ls 16 [(3, .long y3)] → W p l e (mx_rm P 1 22 σ) s m ([.ref a0, .int p1, .int p2] : List Value).toArray below meth c H locs (mxz υ - mxz σ) (mxu υ - mxu σ) (mx_Z below G P (some (.long r)) σ σ' [.ref a0, .int p1, .int p2] s) (F0 m 173 ls [])) → ∀ (H : Heap) (locs : List Loc), mx_J G P s.heap (mxz σ) (mxu σ) τ H locs → ∀ ls : Array Slot, lv_has ls 16 [(0, .ref v0), (1, .int v1), (2, .int v2), (5, .int v5)] → W p l e (mx_rm P 1 22 σ) s m ([.ref a0, .int p1, .int p2] : List Value).toArray below meth c H locs (mxz τ - mxz σ) (mxu τ - mxu σ) (mx_Z below G P (some (.long r)) σ σ' [.ref a0, .int p1, .int p2] s) (F0 m 165 ls [.long w0, .long w1]) := by
    intro v0 v1 v2 v5 w0 w1 τ o hf Kb Ke0 H locs hJ ls hl
    unfold f_X12_plateSum_D165_5 at hf
    refine lv_ladd hx hb dX12_plateSum_165 ?_
    obtain ⟨x37, e38, hf⟩ := mb0 hf
    refine mx_nL e38 ?_
    refine lv_lstore_n (lv' := [(3, .long x37), (0, .ref v0), (1, .int v1), (2, .int v2), (5, .int v5)]) hx hb dX12_plateSum_166 rfl hl (by decide) rfl (fun ls hl => ?_)
    obtain ⟨x39, e40, hf⟩ := mb0 hf
    refine lv_iinc (v := x39) (lv' := [(5, .int x39), (3, .long x37), (0, .ref v0), (1, .int v1), (2, .int v2)]) hx hb dX12_plateSum_167 hl (k := 4) rfl (by rw [← Option.some.inj e40]; rfl) (by decide) rfl (fun ls hl => ?_)
    refine lv_goto (tgt := 5) hx hb dX12_plateSum_170 (by decide) ?_
    exact Kb x37 x39 τ (Option.some.inj hf).symm _ _ hJ ls (lv_sub hl [2, 3, 4, 1, 0] rfl)
  have B5 : ∀ (v0 : Nat) (v1 : Int32) (v2 : Int32) (v3 : Int64) (v5 : Int32) (τ : mx_S) (o : (Int64 × Int32 × mx_S) ⊕ ((Int64 × mx_S))), f_X12_plateSum_B5 P v0 v1 v2 v3 v5 τ = some o → (∀ (y3 : Int64) (y5 : Int32) (υ : mx_S), o = .inl (y3, y5, υ) → ∀ (H : Heap) (locs : List Loc), mx_J G P s.heap (mxz σ) (mxu σ) υ H locs → ∀ ls : Array Slot, lv_has ls 16 [(0, .ref v0), (1, .int v1), (2, .int v2), (3, .long y3), (5, .int y5)] → W p l e (mx_rm P 1 22 σ) s m ([.ref a0, .int p1, .int p2] : List Value).toArray below meth c H locs (mxz υ - mxz σ) (mxu υ - mxu σ) (mx_Z below G P (some (.long r)) σ σ' [.ref a0, .int p1, .int p2] s) (F0 m 5 ls [])) → (∀ (y3 : Int64) (υ : mx_S), o = .inr (y3, υ) → ∀ (H : Heap) (locs : List Loc), mx_J G P s.heap (mxz σ) (mxu σ) υ H locs → ∀ ls : Array Slot, lv_has ls 16 [(3, .long y3)] → W p l e (mx_rm P 1 22 σ) s m ([.ref a0, .int p1, .int p2] : List Value).toArray below meth c H locs (mxz υ - mxz σ) (mxu υ - mxu σ) (mx_Z below G P (some (.long r)) σ σ' [.ref a0, .int p1, .int p2] s) (F0 m 173 ls [])) → ∀ (H : Heap) (locs : List Loc), mx_J G P s.heap (mxz σ) (mxu σ) τ H locs → ∀ ls : Array Slot, lv_has ls 16 [(0, .ref v0), (1, .int v1), (2, .int v2), (3, .long v3), (5, .int v5)] → W p l e (mx_rm P 1 22 σ) s m ([.ref a0, .int p1, .int p2] : List Value).toArray below meth c H locs (mxz τ - mxz σ) (mxu τ - mxu σ) (mx_Z below G P (some (.long r)) σ σ' [.ref a0, .int p1, .int p2] s) (F0 m 5 ls []) := by
    intro v0 v1 v2 v3 v5 τ o hf Kb Ke0 H locs hJ ls hl
    unfold f_X12_plateSum_B5 at hf
    refine lv_iload hx hb dX12_plateSum_5 (lv_at hl 4 rfl) ?_
    refine lv_aload_n hx hb dX12_plateSum_7 rfl (lv_at hl 0 rfl) ?_
    obtain ⟨b1, e2, hf⟩ := mb0 hf
    refine my_gR hx hb hts hown hK hJ fd_RX12_186 hv_12_86 e2 dX12_plateSum_8 ?_
    refine lv_iload_n hx hb dX12_plateSum_11 rfl (lv_at hl 1 rfl) ?_
    obtain ⟨x3, e4, hf⟩ := mb0 hf
    refine mx_aI hx hb hK hJ e4 dX12_plateSum_12 ?_
    refine lv_icmp_ge (tgt := 173) hx hb dX12_plateSum_13 (by decide) (fun c5 => ?_) (fun c5 => ?_)
    · rw [if_pos c5] at hf
      exact Ke0 v3 τ (Option.some.inj hf).symm _ _ hJ ls (lv_sub hl [3] rfl)
    · rw [if_neg c5] at hf
      refine lv_aload_n hx hb dX12_plateSum_16 rfl (lv_at hl 0 rfl) ?_
      obtain ⟨b6, e7, hf⟩ := mb0 hf
      refine my_gR hx hb hts hown hK hJ fd_RX12_189 hv_12_87 e7 dX12_plateSum_17 ?_
      refine lv_bipush (v := 24) hx hb dX12_plateSum_20 (by decide) ?_
      refine lv_iload_n hx hb dX12_plateSum_22 rfl (lv_at hl 1 rfl) ?_
      refine lv_imul hx hb dX12_plateSum_23 ?_
      refine lv_iload hx hb dX12_plateSum_24 (lv_at hl 4 rfl) ?_
      refine lv_iadd hx hb dX12_plateSum_26 ?_
      obtain ⟨x8, e9, hf⟩ := mb0 hf
      refine mx_aL hx hb hK hJ e9 dX12_plateSum_27 ?_
      refine lv_lstore (lv' := [(6, .long x8), (0, .ref v0), (1, .int v1), (2, .int v2), (3, .long v3), (5, .int v5)]) hx hb dX12_plateSum_28 hl (by decide) rfl (fun ls hl => ?_)
      refine lv_aload_n hx hb dX12_plateSum_30 rfl (lv_at hl 1 rfl) ?_
      obtain ⟨b10, e11, hf⟩ := mb0 hf
      refine my_gR hx hb hts hown hK hJ fd_RX12_192 hv_12_88 e11 dX12_plateSum_31 ?_
      refine lv_bipush (v := 24) hx hb dX12_plateSum_34 (by decide) ?_
      refine lv_iload_n hx hb dX12_plateSum_36 rfl (lv_at hl 2 rfl) ?_
      refine lv_imul hx hb dX12_plateSum_37 ?_
      refine lv_iload hx hb dX12_plateSum_38 (lv_at hl 5 rfl) ?_
      refine lv_iadd hx hb dX12_plateSum_40 ?_
      obtain ⟨x12, e13, hf⟩ := mb0 hf
      refine mx_aL hx hb hK hJ e13 dX12_plateSum_41 ?_
      refine lv_lstore (lv' := [(8, .long x12), (6, .long x8), (0, .ref v0), (1, .int v1), (2, .int v2), (3, .long v3), (5, .int v5)]) hx hb dX12_plateSum_42 hl (by decide) rfl (fun ls hl => ?_)
      refine lv_aload_n hx hb dX12_plateSum_44 rfl (lv_at hl 2 rfl) ?_
      obtain ⟨b14, e15, hf⟩ := mb0 hf
      refine my_gR hx hb hts hown hK hJ fd_RX12_189 hv_12_87 e15 dX12_plateSum_45 ?_
      refine lv_aload_n hx hb dX12_plateSum_48 rfl (lv_at hl 2 rfl) ?_
      refine lv_iload_n hx hb dX12_plateSum_49 rfl (lv_at hl 3 rfl) ?_
      refine lv_iload hx hb dX12_plateSum_50 (lv_at hl 6 rfl) ?_
      obtain ⟨i16, e17, hf⟩ := mb0 hf
      obtain ⟨x19, σ18, e20, hf⟩ := mc0 hf
      refine mx_callV (As := [.int v1, .int v5]) (rest := [.ref b14]) hx hb hml hts hown hK hJ rfl rfl (ci := 12) rfl e17 (c_X12_after l G P v0 v1 v5 τ x19 σ18 e20) me_X12_after kw_2765 ks_164 kw_2763 (Nat.le_of_ble_eq_true rfl) (Nat.le_of_ble_eq_true rfl) rfl hl.1 rfl (Nat.le_of_ble_eq_true rfl) dX12_plateSum_52 (fun H locs hJ => ?_)
      obtain ⟨x21, e22, hf⟩ := mb0 hf
      refine mx_aL hx hb hK hJ e22 dX12_plateSum_55 ?_
      refine lv_lstore (lv' := [(10, .long x21), (8, .long x12), (6, .long x8), (0, .ref v0), (1, .int v1), (2, .int v2), (3, .long v3), (5, .int v5)]) hx hb dX12_plateSum_56 hl (by decide) rfl (fun ls hl => ?_)
      refine lv_aload_n hx hb dX12_plateSum_58 rfl (lv_at hl 3 rfl) ?_
      obtain ⟨b23, e24, hf⟩ := mb0 hf
      refine my_gR hx hb hts hown hK hJ fd_RX12_192 hv_12_88 e24 dX12_plateSum_59 ?_
      refine lv_aload_n hx hb dX12_plateSum_62 rfl (lv_at hl 3 rfl) ?_
      refine lv_iload_n hx hb dX12_plateSum_63 rfl (lv_at hl 4 rfl) ?_
      refine lv_iload hx hb dX12_plateSum_64 (lv_at hl 7 rfl) ?_
      obtain ⟨i25, e26, hf⟩ := mb0 hf
      obtain ⟨x28, σ27, e29, hf⟩ := mc0 hf
      refine mx_callV (As := [.int v1, .int v5]) (rest := [.ref b23]) hx hb hml hts hown hK hJ rfl rfl (ci := 12) rfl e26 (c_X12_after l G P v0 v1 v5 σ18 x28 σ27 e29) me_X12_after kw_2765 ks_164 kw_2763 (Nat.le_of_ble_eq_true rfl) (Nat.le_of_ble_eq_true rfl) rfl hl.1 rfl (Nat.le_of_ble_eq_true rfl) dX12_plateSum_66 (fun H locs hJ => ?_)
      obtain ⟨x30, e31, hf⟩ := mb0 hf
      refine mx_aL hx hb hK hJ e31 dX12_plateSum_69 ?_
      refine lv_lstore (lv' := [(12, .long x30), (10, .long x21), (8, .long x12), (6, .long x8), (0, .ref v0), (1, .int v1), (2, .int v2), (3, .long v3), (5, .int v5)]) hx hb dX12_plateSum_70 hl (by decide) rfl (fun ls hl => ?_)
      refine lv_lload hx hb dX12_plateSum_72 (lv_at hl 3 rfl) ?_
      refine lv_lload hx hb dX12_plateSum_74 (lv_at hl 0 rfl) ?_
      refine lv_lmul hx hb dX12_plateSum_76 ?_
      refine lv_lload hx hb dX12_plateSum_77 (lv_at hl 1 rfl) ?_
      refine lv_lload hx hb dX12_plateSum_79 (lv_at hl 2 rfl) ?_
      refine lv_lmul hx hb dX12_plateSum_81 ?_
      refine lv_lsub hx hb dX12_plateSum_82 ?_
      obtain ⟨x32, e33, hf⟩ := mb0 hf
      refine mx_nL e33 ?_
      refine lv_lstore (lv' := [(14, .long x32), (12, .long x30), (10, .long x21), (8, .long x12), (6, .long x8), (0, .ref v0), (1, .int v1), (2, .int v2), (3, .long v3), (5, .int v5)]) hx hb dX12_plateSum_83 hl (by decide) rfl (fun ls hl => ?_)
      refine lv_lload_n hx hb dX12_plateSum_85 rfl (lv_at hl 8 rfl) ?_
      refine lv_iload_n hx hb dX12_plateSum_86 rfl (lv_at hl 7 rfl) ?_
      refine lv_if_ne (tgt := 95) hx hb dX12_plateSum_87 (by decide) (fun c34 => ?_) (fun c34 => ?_)
      · rw [if_neg c34] at hf
        refine lv_iload_n hx hb dX12_plateSum_95 rfl (lv_at hl 7 rfl) ?_
        refine lv_iconst (v := 1) hx hb dX12_plateSum_96 (by decide) ?_
        refine lv_icmp_ne (tgt := 111) hx hb dX12_plateSum_97 (by decide) (fun c35 => ?_) (fun c35 => ?_)
        · rw [if_neg c35] at hf
          refine lv_iload_n hx hb dX12_plateSum_111 rfl (lv_at hl 7 rfl) ?_
          refine lv_iconst (v := 2) hx hb dX12_plateSum_112 (by decide) ?_
          refine lv_icmp_ne (tgt := 127) hx hb dX12_plateSum_113 (by decide) (fun c36 => ?_) (fun c36 => ?_)
          · rw [if_neg c36] at hf
            refine lv_lload hx hb dX12_plateSum_127 (lv_at hl 0 rfl) ?_
            refine lv_lload hx hb dX12_plateSum_129 (lv_at hl 4 rfl) ?_
            refine lv_lload hx hb dX12_plateSum_131 (lv_at hl 4 rfl) ?_
            refine lv_lmul hx hb dX12_plateSum_133 ?_
            refine lv_lload hx hb dX12_plateSum_134 (lv_at hl 4 rfl) ?_
            refine lv_lload hx hb dX12_plateSum_136 (lv_at hl 2 rfl) ?_
            refine lv_lmul hx hb dX12_plateSum_138 ?_
            refine lv_ladd hx hb dX12_plateSum_139 ?_
            refine lv_lload hx hb dX12_plateSum_140 (lv_at hl 2 rfl) ?_
            refine lv_lload hx hb dX12_plateSum_142 (lv_at hl 2 rfl) ?_
            refine lv_lmul hx hb dX12_plateSum_144 ?_
            refine lv_ladd hx hb dX12_plateSum_145 ?_
            refine lv_lload hx hb dX12_plateSum_146 (lv_at hl 3 rfl) ?_
            refine lv_lload hx hb dX12_plateSum_148 (lv_at hl 3 rfl) ?_
            refine lv_lmul hx hb dX12_plateSum_150 ?_
            refine lv_ladd hx hb dX12_plateSum_151 ?_
            refine lv_lload hx hb dX12_plateSum_152 (lv_at hl 3 rfl) ?_
            refine lv_lload hx hb dX12_plateSum_154 (lv_at hl 1 rfl) ?_
            refine lv_lmul hx hb dX12_plateSum_156 ?_
            refine lv_ladd hx hb dX12_plateSum_157 ?_
            refine lv_lload hx hb dX12_plateSum_158 (lv_at hl 1 rfl) ?_
            refine lv_lload hx hb dX12_plateSum_160 (lv_at hl 1 rfl) ?_
            refine lv_lmul hx hb dX12_plateSum_162 ?_
            refine lv_ladd hx hb dX12_plateSum_163 ?_
            refine lv_lmul hx hb dX12_plateSum_164 ?_
            exact D165_5 v0 v1 v2 v5 (x32 * ((((((x8 * x8) + (x8 * x21)) + (x21 * x21)) + (x12 * x12)) + (x12 * x30)) + (x30 * x30))) v3 σ27 o hf Kb Ke0 _ _ hJ ls (lv_sub hl [5, 6, 7, 9] rfl)
          · rw [if_pos c36] at hf
            refine lv_lload hx hb dX12_plateSum_116 (lv_at hl 3 rfl) ?_
            refine lv_lload hx hb dX12_plateSum_118 (lv_at hl 1 rfl) ?_
            refine lv_ladd hx hb dX12_plateSum_120 ?_
            refine lv_lload hx hb dX12_plateSum_121 (lv_at hl 0 rfl) ?_
            refine lv_lmul hx hb dX12_plateSum_123 ?_
            refine lv_goto (tgt := 165) hx hb dX12_plateSum_124 (by decide) ?_
            exact D165_5 v0 v1 v2 v5 ((x12 + x30) * x32) v3 σ27 o hf Kb Ke0 _ _ hJ ls (lv_sub hl [5, 6, 7, 9] rfl)
        · rw [if_pos c35] at hf
          refine lv_lload hx hb dX12_plateSum_100 (lv_at hl 4 rfl) ?_
          refine lv_lload hx hb dX12_plateSum_102 (lv_at hl 2 rfl) ?_
          refine lv_ladd hx hb dX12_plateSum_104 ?_
          refine lv_lload hx hb dX12_plateSum_105 (lv_at hl 0 rfl) ?_
          refine lv_lmul hx hb dX12_plateSum_107 ?_
          refine lv_goto (tgt := 165) hx hb dX12_plateSum_108 (by decide) ?_
          exact D165_5 v0 v1 v2 v5 ((x8 + x21) * x32) v3 σ27 o hf Kb Ke0 _ _ hJ ls (lv_sub hl [5, 6, 7, 9] rfl)
      · rw [if_pos c34] at hf
        refine lv_lload hx hb dX12_plateSum_90 (lv_at hl 0 rfl) ?_
        refine lv_goto (tgt := 165) hx hb dX12_plateSum_92 (by decide) ?_
        exact D165_5 v0 v1 v2 v5 x32 v3 σ27 o hf Kb Ke0 _ _ hJ ls (lv_sub hl [5, 6, 7, 9] rfl)
  have L5 : ∀ (v0 : Nat) (v1 : Int32) (v2 : Int32) (n : Nat) (v3 : Int64) (v5 : Int32) (τ : mx_S) (o : (Int64 × mx_S)), mx_lp (f_X12_plateSum_L5 P v0 v1 v2) n (v3, v5, τ) = some o → (∀ (y3 : Int64) (υ : mx_S), o = (y3, υ) → ∀ (H : Heap) (locs : List Loc), mx_J G P s.heap (mxz σ) (mxu σ) υ H locs → ∀ ls : Array Slot, lv_has ls 16 [(3, .long y3)] → W p l e (mx_rm P 1 22 σ) s m ([.ref a0, .int p1, .int p2] : List Value).toArray below meth c H locs (mxz υ - mxz σ) (mxu υ - mxu σ) (mx_Z below G P (some (.long r)) σ σ' [.ref a0, .int p1, .int p2] s) (F0 m 173 ls [])) → ∀ (H : Heap) (locs : List Loc), mx_J G P s.heap (mxz σ) (mxu σ) τ H locs → ∀ ls : Array Slot, lv_has ls 16 [(0, .ref v0), (1, .int v1), (2, .int v2), (3, .long v3), (5, .int v5)] → W p l e (mx_rm P 1 22 σ) s m ([.ref a0, .int p1, .int p2] : List Value).toArray below meth c H locs (mxz τ - mxz σ) (mxu τ - mxu σ) (mx_Z below G P (some (.long r)) σ σ' [.ref a0, .int p1, .int p2] s) (F0 m 5 ls []) := by
    intro v0 v1 v2 n
    induction n with
    | zero =>
      intro v3 v5 τ o hf
      rw [mx_lp0] at hf
      cases hf
    | succ n ih =>
      intro v3 v5 τ o hf Ke0 H locs hJ ls hl
      rw [mx_lpS] at hf
      obtain ⟨b, eb, hf⟩ := mb0 hf
      refine B5 v0 v1 v2 v3 v5 τ b eb (fun y3 y5 υ ho H locs hJ ls hl => ?_) (fun y3 υ ho H locs hJ ls hl => ?_) H locs hJ ls hl
      · subst ho
        exact ih y3 y5 υ o hf Ke0 H locs hJ ls hl
      · subst ho
        exact Ke0 y3 υ (Option.some.inj hf).symm _ _ hJ ls hl
  unfold f_X12_plateSum at hf
  refine lv_lconst (v := 0) hx hb dX12_plateSum_0 (by decide) ?_
  refine lv_lstore_n (lv' := [(3, .long (0 : Int64)), (0, .ref a0), (1, .int p1), (2, .int p2)]) hx hb dX12_plateSum_1 rfl hl (by decide) rfl (fun ls hl => ?_)
  refine lv_iconst (v := 0) hx hb dX12_plateSum_2 (by decide) ?_
  refine lv_istore (lv' := [(5, .int (0 : Int32)), (3, .long (0 : Int64)), (0, .ref a0), (1, .int p1), (2, .int p2)]) hx hb dX12_plateSum_3 hl (by decide) rfl (fun ls hl => ?_)
  obtain ⟨o41, e42, hf⟩ := mb0 hf
  refine L5 a0 p1 p2 (mpN P) (0 : Int64) (0 : Int32) σ o41 e42 (fun y43 σ44 ho H locs hJ ls hl => ?_) _ _ hJ ls (lv_sub hl [2, 3, 4, 1, 0] rfl)
  · rw [ho] at hf
    have hf : (some (y43, σ44)) = some (r, σ') := hf
    refine lv_lload_n hx hb dX12_plateSum_173 rfl (lv_at hl 0 rfl) ?_
    exact my_lret hx hb hr hlocks hJ hf dX12_plateSum_174
set_option maxHeartbeats 4000000 in
set_option maxRecDepth 100000 in
theorem c_X12_sign (l : Launch) (G : mx_G) (P : mx_P) (p0 : Int64) (σ : mx_S) (r : Int32) (σ' : mx_S) (hf : f_X12_sign P p0 σ = some (r, σ')) : mxz σ ≤ mpc P → mxu σ ≤ mps P → mx_M l yX12_sign cX12_sign 2 (some .int) 0 0 G P [.long p0] σ (some (.int r)) σ' := by
  intro hcap hcau
  refine mx_ofW (by decide +kernel) hcap hcau (Nat.le_of_ble_eq_true rfl) ?_
  intro p e s m below meth c hx hb hr hml hts hown hlocks hname hK hJ ls hl
  have hz0 := hJ.2.1
  have hown : s.vm.findClass RX12 = some m.cls := hown
  have hl : lv_has ls 2 [(0, .long p0)] := hl
  have D21 : ∀ (w0 : Int32) (τ : mx_S), f_X12_sign_D21 P w0 τ = some (r, σ') → ∀ (H : Heap) (locs : List Loc), mx_J G P s.heap (mxz σ) (mxu σ) τ H locs → ∀ ls : Array Slot, lv_has ls 2 [] → W p l e (mx_rm P 0 0 σ) s m ([.long p0] : List Value).toArray below meth c H locs (mxz τ - mxz σ) (mxu τ - mxu σ) (mx_Z below G P (some (.int r)) σ σ' [.long p0] s) (F0 m 21 ls [.int w0]) := by
    intro w0 τ hf _ _ hJ ls hl
    unfold f_X12_sign_D21 at hf
    exact my_iret hx hb hr hlocks hJ hf dX12_sign_21
  unfold f_X12_sign at hf
  refine lv_lload_n hx hb dX12_sign_0 rfl (lv_at hl 0 rfl) ?_
  refine lv_lconst (v := 0) hx hb dX12_sign_1 (by decide) ?_
  refine W.lcmp hx hb dX12_sign_2 ?_
  refine lv_if_ge (tgt := 10) hx hb dX12_sign_3 (by decide) (fun c1 => ?_) (fun c1 => ?_)
  · rw [if_pos c1] at hf
    refine lv_lload_n hx hb dX12_sign_10 rfl (lv_at hl 0 rfl) ?_
    refine lv_lconst (v := 0) hx hb dX12_sign_11 (by decide) ?_
    refine W.lcmp hx hb dX12_sign_12 ?_
    refine lv_if_le (tgt := 20) hx hb dX12_sign_13 (by decide) (fun c2 => ?_) (fun c2 => ?_)
    · rw [if_pos c2] at hf
      refine lv_iconst (v := 0) hx hb dX12_sign_20 (by decide) ?_
      exact D21 (0 : Int32) σ hf _ _ hJ ls (lv_sub hl [] rfl)
    · rw [if_neg c2] at hf
      refine lv_iconst (v := 1) hx hb dX12_sign_16 (by decide) ?_
      refine lv_goto (tgt := 21) hx hb dX12_sign_17 (by decide) ?_
      exact D21 (1 : Int32) σ hf _ _ hJ ls (lv_sub hl [] rfl)
  · rw [if_neg c1] at hf
    refine lv_iconst (v := (-1)) hx hb dX12_sign_6 (by decide) ?_
    refine lv_goto (tgt := 21) hx hb dX12_sign_7 (by decide) ?_
    exact D21 (-1 : Int32) σ hf _ _ hJ ls (lv_sub hl [] rfl)
set_option maxHeartbeats 4000000 in
set_option maxRecDepth 100000 in
theorem c_X12_side (l : Launch) (G : mx_G) (P : mx_P) (a0 : Nat) (p1 : Int32) (p2 : Int32) (p3 : Int32) (σ : mx_S) (r : Int32) (σ' : mx_S) (hf : f_X12_side P a0 p1 p2 p3 σ = some (r, σ')) : mxz σ ≤ mpc P → mxu σ ≤ mps P → mx_M l yX12_side cX12_side 4 (some .int) 1 21 G P [.ref a0, .int p1, .int p2, .int p3] σ (some (.int r)) σ' := by
  intro hcap hcau
  refine mx_ofW (by decide +kernel) hcap hcau (Nat.le_of_ble_eq_true rfl) ?_
  intro p e s m below meth c hx hb hr hml hts hown hlocks hname hK hJ ls hl
  have hz0 := hJ.2.1
  have hown : s.vm.findClass RX12 = some m.cls := hown
  have hl : lv_has ls 4 [(0, .ref a0), (1, .int p1), (2, .int p2), (3, .int p3)] := hl
  unfold f_X12_side at hf
  refine lv_aload_n hx hb dX12_side_0 rfl (lv_at hl 0 rfl) ?_
  obtain ⟨b1, e2, hf⟩ := mb0 hf
  refine my_gR hx hb hts hown hK hJ fd_RX12_189 hv_12_87 e2 dX12_side_1 ?_
  refine lv_iload_n hx hb dX12_side_4 rfl (lv_at hl 2 rfl) ?_
  obtain ⟨x3, e4, hf⟩ := mb0 hf
  refine mx_aL hx hb hK hJ e4 dX12_side_5 ?_
  refine lv_aload_n hx hb dX12_side_6 rfl (lv_at hl 0 rfl) ?_
  obtain ⟨b5, e6, hf⟩ := mb0 hf
  refine my_gR hx hb hts hown hK hJ fd_RX12_189 hv_12_87 e6 dX12_side_7 ?_
  refine lv_iload_n hx hb dX12_side_10 rfl (lv_at hl 1 rfl) ?_
  obtain ⟨x7, e8, hf⟩ := mb0 hf
  refine mx_aL hx hb hK hJ e8 dX12_side_11 ?_
  refine lv_lsub hx hb dX12_side_12 ?_
  refine lv_aload_n hx hb dX12_side_13 rfl (lv_at hl 0 rfl) ?_
  obtain ⟨b9, e10, hf⟩ := mb0 hf
  refine my_gR hx hb hts hown hK hJ fd_RX12_192 hv_12_88 e10 dX12_side_14 ?_
  refine lv_iload_n hx hb dX12_side_17 rfl (lv_at hl 3 rfl) ?_
  obtain ⟨x11, e12, hf⟩ := mb0 hf
  refine mx_aL hx hb hK hJ e12 dX12_side_18 ?_
  refine lv_aload_n hx hb dX12_side_19 rfl (lv_at hl 0 rfl) ?_
  obtain ⟨b13, e14, hf⟩ := mb0 hf
  refine my_gR hx hb hts hown hK hJ fd_RX12_192 hv_12_88 e14 dX12_side_20 ?_
  refine lv_iload_n hx hb dX12_side_23 rfl (lv_at hl 1 rfl) ?_
  obtain ⟨x15, e16, hf⟩ := mb0 hf
  refine mx_aL hx hb hK hJ e16 dX12_side_24 ?_
  refine lv_lsub hx hb dX12_side_25 ?_
  refine lv_lmul hx hb dX12_side_26 ?_
  refine lv_aload_n hx hb dX12_side_27 rfl (lv_at hl 0 rfl) ?_
  obtain ⟨b17, e18, hf⟩ := mb0 hf
  refine my_gR hx hb hts hown hK hJ fd_RX12_192 hv_12_88 e18 dX12_side_28 ?_
  refine lv_iload_n hx hb dX12_side_31 rfl (lv_at hl 2 rfl) ?_
  obtain ⟨x19, e20, hf⟩ := mb0 hf
  refine mx_aL hx hb hK hJ e20 dX12_side_32 ?_
  refine lv_aload_n hx hb dX12_side_33 rfl (lv_at hl 0 rfl) ?_
  obtain ⟨b21, e22, hf⟩ := mb0 hf
  refine my_gR hx hb hts hown hK hJ fd_RX12_192 hv_12_88 e22 dX12_side_34 ?_
  refine lv_iload_n hx hb dX12_side_37 rfl (lv_at hl 1 rfl) ?_
  obtain ⟨x23, e24, hf⟩ := mb0 hf
  refine mx_aL hx hb hK hJ e24 dX12_side_38 ?_
  refine lv_lsub hx hb dX12_side_39 ?_
  refine lv_aload_n hx hb dX12_side_40 rfl (lv_at hl 0 rfl) ?_
  obtain ⟨b25, e26, hf⟩ := mb0 hf
  refine my_gR hx hb hts hown hK hJ fd_RX12_189 hv_12_87 e26 dX12_side_41 ?_
  refine lv_iload_n hx hb dX12_side_44 rfl (lv_at hl 3 rfl) ?_
  obtain ⟨x27, e28, hf⟩ := mb0 hf
  refine mx_aL hx hb hK hJ e28 dX12_side_45 ?_
  refine lv_aload_n hx hb dX12_side_46 rfl (lv_at hl 0 rfl) ?_
  obtain ⟨b29, e30, hf⟩ := mb0 hf
  refine my_gR hx hb hts hown hK hJ fd_RX12_189 hv_12_87 e30 dX12_side_47 ?_
  refine lv_iload_n hx hb dX12_side_50 rfl (lv_at hl 1 rfl) ?_
  obtain ⟨x31, e32, hf⟩ := mb0 hf
  refine mx_aL hx hb hK hJ e32 dX12_side_51 ?_
  refine lv_lsub hx hb dX12_side_52 ?_
  refine lv_lmul hx hb dX12_side_53 ?_
  refine lv_lsub hx hb dX12_side_54 ?_
  obtain ⟨x34, σ33, e35, hf⟩ := mc0 hf
  refine mx_callS (As := [.long (((x3 - x7) * (x11 - x15)) - ((x19 - x23) * (x27 - x31)))]) (rest := []) hx hb hml hts hown hK hJ rfl rfl (c_X12_sign l G P (((x3 - x7) * (x11 - x15)) - ((x19 - x23) * (x27 - x31))) σ x34 σ33 e35) me_X12_sign kw_2780 kw_2779 (Nat.le_of_ble_eq_true rfl) (Nat.le_of_ble_eq_true rfl) rfl hl.1 rfl (Nat.le_of_ble_eq_true rfl) dX12_side_55 (fun H locs hJ => ?_)
  exact my_iret hx hb hr hlocks hJ hf dX12_side_58
set_option maxHeartbeats 4000000 in
set_option maxRecDepth 100000 in
theorem c_X12_within (l : Launch) (G : mx_G) (P : mx_P) (a0 : Nat) (p1 : Int32) (p2 : Int32) (p3 : Int32) (σ : mx_S) (r : Int32) (σ' : mx_S) (hf : f_X12_within P a0 p1 p2 p3 σ = some (r, σ')) : mxz σ ≤ mpc P → mxu σ ≤ mps P → mx_M l yX12_within cX12_within 4 (some .boolean) 1 23 G P [.ref a0, .int p1, .int p2, .int p3] σ (some (.int r)) σ' := by
  intro hcap hcau
  refine mx_ofW (by decide +kernel) hcap hcau (Nat.le_of_ble_eq_true rfl) ?_
  intro p e s m below meth c hx hb hr hml hts hown hlocks hname hK hJ ls hl
  have hz0 := hJ.2.1
  have hown : s.vm.findClass RX12 = some m.cls := hown
  have hl : lv_has ls 4 [(0, .ref a0), (1, .int p1), (2, .int p2), (3, .int p3)] := hl
  have D105 : ∀ (w0 : Int32) (τ : mx_S), f_X12_within_D105 P w0 τ = some (r, σ') → ∀ (H : Heap) (locs : List Loc), mx_J G P s.heap (mxz σ) (mxu σ) τ H locs → ∀ ls : Array Slot, lv_has ls 4 [] → W p l e (mx_rm P 1 23 σ) s m ([.ref a0, .int p1, .int p2, .int p3] : List Value).toArray below meth c H locs (mxz τ - mxz σ) (mxu τ - mxu σ) (mx_Z below G P (some (.int r)) σ σ' [.ref a0, .int p1, .int p2, .int p3] s) (F0 m 105 ls [.int w0]) := by
    intro w0 τ hf _ _ hJ ls hl
    unfold f_X12_within_D105 at hf
    exact mx_zret hx hb hr hlocks hJ hf dX12_within_105
  have D104 : ∀  (τ : mx_S), f_X12_within_D104 P  τ = some (r, σ') → ∀ (H : Heap) (locs : List Loc), mx_J G P s.heap (mxz σ) (mxu σ) τ H locs → ∀ ls : Array Slot, lv_has ls 4 [] → W p l e (mx_rm P 1 23 σ) s m ([.ref a0, .int p1, .int p2, .int p3] : List Value).toArray below meth c H locs (mxz τ - mxz σ) (mxu τ - mxu σ) (mx_Z below G P (some (.int r)) σ σ' [.ref a0, .int p1, .int p2, .int p3] s) (F0 m 104 ls []) := by
    intro  τ hf _ _ hJ ls hl
    unfold f_X12_within_D104 at hf
    refine lv_iconst (v := 0) hx hb dX12_within_104 (by decide) ?_
    exact D105 (0 : Int32) τ hf _ _ hJ ls (lv_sub hl [] rfl)
  unfold f_X12_within at hf
  refine lv_aload_n hx hb dX12_within_0 rfl (lv_at hl 0 rfl) ?_
  obtain ⟨b1, e2, hf⟩ := mb0 hf
  refine my_gR hx hb hts hown hK hJ fd_RX12_189 hv_12_87 e2 dX12_within_1 ?_
  refine lv_iload_n hx hb dX12_within_4 rfl (lv_at hl 1 rfl) ?_
  obtain ⟨x3, e4, hf⟩ := mb0 hf
  refine mx_aL hx hb hK hJ e4 dX12_within_5 ?_
  refine lv_aload_n hx hb dX12_within_6 rfl (lv_at hl 0 rfl) ?_
  obtain ⟨b5, e6, hf⟩ := mb0 hf
  refine my_gR hx hb hts hown hK hJ fd_RX12_189 hv_12_87 e6 dX12_within_7 ?_
  refine lv_iload_n hx hb dX12_within_10 rfl (lv_at hl 2 rfl) ?_
  obtain ⟨x7, e8, hf⟩ := mb0 hf
  refine mx_aL hx hb hK hJ e8 dX12_within_11 ?_
  obtain ⟨x10, σ9, e11, hf⟩ := mc0 hf
  refine mx_callS (As := [.long x3, .long x7]) (rest := []) hx hb hml hts hown hK hJ rfl rfl (c_X12_smaller l G P x3 x7 σ x10 σ9 e11) me_X12_smaller kw_2410 kw_2409 (Nat.le_of_ble_eq_true rfl) (Nat.le_of_ble_eq_true rfl) rfl hl.1 rfl (Nat.le_of_ble_eq_true rfl) dX12_within_12 (fun H locs hJ => ?_)
  refine lv_aload_n hx hb dX12_within_15 rfl (lv_at hl 0 rfl) ?_
  obtain ⟨b12, e13, hf⟩ := mb0 hf
  refine my_gR hx hb hts hown hK hJ fd_RX12_189 hv_12_87 e13 dX12_within_16 ?_
  refine lv_iload_n hx hb dX12_within_19 rfl (lv_at hl 3 rfl) ?_
  obtain ⟨x14, e15, hf⟩ := mb0 hf
  refine mx_aL hx hb hK hJ e15 dX12_within_20 ?_
  refine W.lcmp hx hb dX12_within_21 ?_
  refine lv_if_gt (tgt := 104) hx hb dX12_within_22 (by decide) (fun c16 => ?_) (fun c16 => ?_)
  · rw [if_pos c16] at hf
    exact D104  σ9 hf _ _ hJ ls (lv_sub hl [] rfl)
  · rw [if_neg c16] at hf
    refine lv_aload_n hx hb dX12_within_25 rfl (lv_at hl 0 rfl) ?_
    obtain ⟨b17, e18, hf⟩ := mb0 hf
    refine my_gR hx hb hts hown hK hJ fd_RX12_189 hv_12_87 e18 dX12_within_26 ?_
    refine lv_iload_n hx hb dX12_within_29 rfl (lv_at hl 3 rfl) ?_
    obtain ⟨x19, e20, hf⟩ := mb0 hf
    refine mx_aL hx hb hK hJ e20 dX12_within_30 ?_
    refine lv_aload_n hx hb dX12_within_31 rfl (lv_at hl 0 rfl) ?_
    obtain ⟨b21, e22, hf⟩ := mb0 hf
    refine my_gR hx hb hts hown hK hJ fd_RX12_189 hv_12_87 e22 dX12_within_32 ?_
    refine lv_iload_n hx hb dX12_within_35 rfl (lv_at hl 1 rfl) ?_
    obtain ⟨x23, e24, hf⟩ := mb0 hf
    refine mx_aL hx hb hK hJ e24 dX12_within_36 ?_
    refine lv_aload_n hx hb dX12_within_37 rfl (lv_at hl 0 rfl) ?_
    obtain ⟨b25, e26, hf⟩ := mb0 hf
    refine my_gR hx hb hts hown hK hJ fd_RX12_189 hv_12_87 e26 dX12_within_38 ?_
    refine lv_iload_n hx hb dX12_within_41 rfl (lv_at hl 2 rfl) ?_
    obtain ⟨x27, e28, hf⟩ := mb0 hf
    refine mx_aL hx hb hK hJ e28 dX12_within_42 ?_
    obtain ⟨x30, σ29, e31, hf⟩ := mc0 hf
    refine mx_callS (As := [.long x23, .long x27]) (rest := [.long x19]) hx hb hml hts hown hK hJ rfl rfl (c_X12_most l G P x23 x27 σ9 x30 σ29 e31) me_X12_most kw_2413 kw_2412 (Nat.le_of_ble_eq_true rfl) (Nat.le_of_ble_eq_true rfl) rfl hl.1 rfl (Nat.le_of_ble_eq_true rfl) dX12_within_43 (fun H locs hJ => ?_)
    refine W.lcmp hx hb dX12_within_46 ?_
    refine lv_if_gt (tgt := 104) hx hb dX12_within_47 (by decide) (fun c32 => ?_) (fun c32 => ?_)
    · rw [if_pos c32] at hf
      exact D104  σ29 hf _ _ hJ ls (lv_sub hl [] rfl)
    · rw [if_neg c32] at hf
      refine lv_aload_n hx hb dX12_within_50 rfl (lv_at hl 0 rfl) ?_
      obtain ⟨b33, e34, hf⟩ := mb0 hf
      refine my_gR hx hb hts hown hK hJ fd_RX12_192 hv_12_88 e34 dX12_within_51 ?_
      refine lv_iload_n hx hb dX12_within_54 rfl (lv_at hl 1 rfl) ?_
      obtain ⟨x35, e36, hf⟩ := mb0 hf
      refine mx_aL hx hb hK hJ e36 dX12_within_55 ?_
      refine lv_aload_n hx hb dX12_within_56 rfl (lv_at hl 0 rfl) ?_
      obtain ⟨b37, e38, hf⟩ := mb0 hf
      refine my_gR hx hb hts hown hK hJ fd_RX12_192 hv_12_88 e38 dX12_within_57 ?_
      refine lv_iload_n hx hb dX12_within_60 rfl (lv_at hl 2 rfl) ?_
      obtain ⟨x39, e40, hf⟩ := mb0 hf
      refine mx_aL hx hb hK hJ e40 dX12_within_61 ?_
      obtain ⟨x42, σ41, e43, hf⟩ := mc0 hf
      refine mx_callS (As := [.long x35, .long x39]) (rest := []) hx hb hml hts hown hK hJ rfl rfl (c_X12_smaller l G P x35 x39 σ29 x42 σ41 e43) me_X12_smaller kw_2410 kw_2409 (Nat.le_of_ble_eq_true rfl) (Nat.le_of_ble_eq_true rfl) rfl hl.1 rfl (Nat.le_of_ble_eq_true rfl) dX12_within_62 (fun H locs hJ => ?_)
      refine lv_aload_n hx hb dX12_within_65 rfl (lv_at hl 0 rfl) ?_
      obtain ⟨b44, e45, hf⟩ := mb0 hf
      refine my_gR hx hb hts hown hK hJ fd_RX12_192 hv_12_88 e45 dX12_within_66 ?_
      refine lv_iload_n hx hb dX12_within_69 rfl (lv_at hl 3 rfl) ?_
      obtain ⟨x46, e47, hf⟩ := mb0 hf
      refine mx_aL hx hb hK hJ e47 dX12_within_70 ?_
      refine W.lcmp hx hb dX12_within_71 ?_
      refine lv_if_gt (tgt := 104) hx hb dX12_within_72 (by decide) (fun c48 => ?_) (fun c48 => ?_)
      · rw [if_pos c48] at hf
        exact D104  σ41 hf _ _ hJ ls (lv_sub hl [] rfl)
      · rw [if_neg c48] at hf
        refine lv_aload_n hx hb dX12_within_75 rfl (lv_at hl 0 rfl) ?_
        obtain ⟨b49, e50, hf⟩ := mb0 hf
        refine my_gR hx hb hts hown hK hJ fd_RX12_192 hv_12_88 e50 dX12_within_76 ?_
        refine lv_iload_n hx hb dX12_within_79 rfl (lv_at hl 3 rfl) ?_
        obtain ⟨x51, e52, hf⟩ := mb0 hf
        refine mx_aL hx hb hK hJ e52 dX12_within_80 ?_
        refine lv_aload_n hx hb dX12_within_81 rfl (lv_at hl 0 rfl) ?_
        obtain ⟨b53, e54, hf⟩ := mb0 hf
        refine my_gR hx hb hts hown hK hJ fd_RX12_192 hv_12_88 e54 dX12_within_82 ?_
        refine lv_iload_n hx hb dX12_within_85 rfl (lv_at hl 1 rfl) ?_
        obtain ⟨x55, e56, hf⟩ := mb0 hf
        refine mx_aL hx hb hK hJ e56 dX12_within_86 ?_
        refine lv_aload_n hx hb dX12_within_87 rfl (lv_at hl 0 rfl) ?_
        obtain ⟨b57, e58, hf⟩ := mb0 hf
        refine my_gR hx hb hts hown hK hJ fd_RX12_192 hv_12_88 e58 dX12_within_88 ?_
        refine lv_iload_n hx hb dX12_within_91 rfl (lv_at hl 2 rfl) ?_
        obtain ⟨x59, e60, hf⟩ := mb0 hf
        refine mx_aL hx hb hK hJ e60 dX12_within_92 ?_
        obtain ⟨x62, σ61, e63, hf⟩ := mc0 hf
        refine mx_callS (As := [.long x55, .long x59]) (rest := [.long x51]) hx hb hml hts hown hK hJ rfl rfl (c_X12_most l G P x55 x59 σ41 x62 σ61 e63) me_X12_most kw_2413 kw_2412 (Nat.le_of_ble_eq_true rfl) (Nat.le_of_ble_eq_true rfl) rfl hl.1 rfl (Nat.le_of_ble_eq_true rfl) dX12_within_93 (fun H locs hJ => ?_)
        refine W.lcmp hx hb dX12_within_96 ?_
        refine lv_if_gt (tgt := 104) hx hb dX12_within_97 (by decide) (fun c64 => ?_) (fun c64 => ?_)
        · rw [if_pos c64] at hf
          exact D104  σ61 hf _ _ hJ ls (lv_sub hl [] rfl)
        · rw [if_neg c64] at hf
          refine lv_iconst (v := 1) hx hb dX12_within_100 (by decide) ?_
          refine lv_goto (tgt := 105) hx hb dX12_within_101 (by decide) ?_
          exact D105 (1 : Int32) σ61 hf _ _ hJ ls (lv_sub hl [] rfl)
set_option maxHeartbeats 4000000 in
set_option maxRecDepth 100000 in
theorem c_X12_meet (l : Launch) (G : mx_G) (P : mx_P) (a0 : Nat) (p1 : Int32) (p2 : Int32) (p3 : Int32) (p4 : Int32) (σ : mx_S) (r : Int32) (σ' : mx_S) (hf : f_X12_meet P a0 p1 p2 p3 p4 σ = some (r, σ')) : mxz σ ≤ mpc P → mxu σ ≤ mps P → mx_M l yX12_meet cX12_meet 9 (some .boolean) 2 46 G P [.ref a0, .int p1, .int p2, .int p3, .int p4] σ (some (.int r)) σ' := by
  intro hcap hcau
  refine mx_ofW (by decide +kernel) hcap hcau (Nat.le_of_ble_eq_true rfl) ?_
  intro p e s m below meth c hx hb hr hml hts hown hlocks hname hK hJ ls hl
  have hz0 := hJ.2.1
  have hown : s.vm.findClass RX12 = some m.cls := hown
  have hl : lv_has ls 9 [(0, .ref a0), (1, .int p1), (2, .int p2), (3, .int p3), (4, .int p4)] := hl
  have D139 : ∀ (w0 : Int32) (τ : mx_S), f_X12_meet_D139 P w0 τ = some (r, σ') → ∀ (H : Heap) (locs : List Loc), mx_J G P s.heap (mxz σ) (mxu σ) τ H locs → ∀ ls : Array Slot, lv_has ls 9 [] → W p l e (mx_rm P 2 46 σ) s m ([.ref a0, .int p1, .int p2, .int p3, .int p4] : List Value).toArray below meth c H locs (mxz τ - mxz σ) (mxu τ - mxu σ) (mx_Z below G P (some (.int r)) σ σ' [.ref a0, .int p1, .int p2, .int p3, .int p4] s) (F0 m 139 ls [.int w0]) := by
    intro w0 τ hf _ _ hJ ls hl
    unfold f_X12_meet_D139 at hf
    exact mx_zret hx hb hr hlocks hJ hf dX12_meet_139
  have D138 : ∀  (τ : mx_S), f_X12_meet_D138 P  τ = some (r, σ') → ∀ (H : Heap) (locs : List Loc), mx_J G P s.heap (mxz σ) (mxu σ) τ H locs → ∀ ls : Array Slot, lv_has ls 9 [] → W p l e (mx_rm P 2 46 σ) s m ([.ref a0, .int p1, .int p2, .int p3, .int p4] : List Value).toArray below meth c H locs (mxz τ - mxz σ) (mxu τ - mxu σ) (mx_Z below G P (some (.int r)) σ σ' [.ref a0, .int p1, .int p2, .int p3, .int p4] s) (F0 m 138 ls []) := by
    intro  τ hf _ _ hJ ls hl
    unfold f_X12_meet_D138 at hf
    refine lv_iconst (v := 0) hx hb dX12_meet_138 (by decide) ?_
    exact D139 (0 : Int32) τ hf _ _ hJ ls (lv_sub hl [] rfl)
  have D134 : ∀  (τ : mx_S), f_X12_meet_D134 P  τ = some (r, σ') → ∀ (H : Heap) (locs : List Loc), mx_J G P s.heap (mxz σ) (mxu σ) τ H locs → ∀ ls : Array Slot, lv_has ls 9 [] → W p l e (mx_rm P 2 46 σ) s m ([.ref a0, .int p1, .int p2, .int p3, .int p4] : List Value).toArray below meth c H locs (mxz τ - mxz σ) (mxu τ - mxu σ) (mx_Z below G P (some (.int r)) σ σ' [.ref a0, .int p1, .int p2, .int p3, .int p4] s) (F0 m 134 ls []) := by
    intro  τ hf _ _ hJ ls hl
    unfold f_X12_meet_D134 at hf
    refine lv_iconst (v := 1) hx hb dX12_meet_134 (by decide) ?_
    refine lv_goto (tgt := 139) hx hb dX12_meet_135 (by decide) ?_
    exact D139 (1 : Int32) τ hf _ _ hJ ls (lv_sub hl [] rfl)
  have D118 : ∀ (v0 : Nat) (v2 : Int32) (v3 : Int32) (v4 : Int32) (v8 : Int32) (τ : mx_S), f_X12_meet_D118 P v0 v2 v3 v4 v8 τ = some (r, σ') → ∀ (H : Heap) (locs : List Loc), mx_J G P s.heap (mxz σ) (mxu σ) τ H locs → ∀ ls : Array Slot, lv_has ls 9 [(0, .ref v0), (2, .int v2), (3, .int v3), (4, .int v4), (8, .int v8)] → W p l e (mx_rm P 2 46 σ) s m ([.ref a0, .int p1, .int p2, .int p3, .int p4] : List Value).toArray below meth c H locs (mxz τ - mxz σ) (mxu τ - mxu σ) (mx_Z below G P (some (.int r)) σ σ' [.ref a0, .int p1, .int p2, .int p3, .int p4] s) (F0 m 118 ls []) := by
    intro v0 v2 v3 v4 v8 τ hf _ _ hJ ls hl
    unfold f_X12_meet_D118 at hf
    refine lv_iload hx hb dX12_meet_118 (lv_at hl 4 rfl) ?_
    refine lv_if_ne (tgt := 138) hx hb dX12_meet_120 (by decide) (fun c25 => ?_) (fun c25 => ?_)
    · rw [if_neg c25] at hf
      exact D138  τ hf _ _ hJ ls (lv_sub hl [] rfl)
    · rw [if_pos c25] at hf
      refine lv_aload_n hx hb dX12_meet_123 rfl (lv_at hl 0 rfl) ?_
      refine lv_iload_n hx hb dX12_meet_124 rfl (lv_at hl 2 rfl) ?_
      refine lv_iload hx hb dX12_meet_125 (lv_at hl 3 rfl) ?_
      refine lv_iload_n hx hb dX12_meet_127 rfl (lv_at hl 1 rfl) ?_
      obtain ⟨i26, e27, hf⟩ := mb0 hf
      obtain ⟨x29, σ28, e30, hf⟩ := mc0 hf
      refine mx_callV (As := [.int v3, .int v4, .int v2]) (rest := []) hx hb hml hts hown hK hJ rfl rfl (ci := 12) rfl e27 (c_X12_within l G P v0 v3 v4 v2 τ x29 σ28 e30) me_X12_within kw_2784 ks_168 kw_2782 (Nat.le_of_ble_eq_true rfl) (Nat.le_of_ble_eq_true rfl) rfl hl.1 rfl (Nat.le_of_ble_eq_true rfl) dX12_meet_128 (fun H locs hJ => ?_)
      refine lv_if_eq (tgt := 138) hx hb dX12_meet_131 (by decide) (fun c31 => ?_) (fun c31 => ?_)
      · rw [if_pos c31] at hf
        exact D138  σ28 hf _ _ hJ ls (lv_sub hl [] rfl)
      · rw [if_neg c31] at hf
        exact D134  σ28 hf _ _ hJ ls (lv_sub hl [] rfl)
  have D102 : ∀ (v0 : Nat) (v1 : Int32) (v2 : Int32) (v3 : Int32) (v4 : Int32) (v7 : Int32) (v8 : Int32) (τ : mx_S), f_X12_meet_D102 P v0 v1 v2 v3 v4 v7 v8 τ = some (r, σ') → ∀ (H : Heap) (locs : List Loc), mx_J G P s.heap (mxz σ) (mxu σ) τ H locs → ∀ ls : Array Slot, lv_has ls 9 [(0, .ref v0), (1, .int v1), (2, .int v2), (3, .int v3), (4, .int v4), (7, .int v7), (8, .int v8)] → W p l e (mx_rm P 2 46 σ) s m ([.ref a0, .int p1, .int p2, .int p3, .int p4] : List Value).toArray below meth c H locs (mxz τ - mxz σ) (mxu τ - mxu σ) (mx_Z below G P (some (.int r)) σ σ' [.ref a0, .int p1, .int p2, .int p3, .int p4] s) (F0 m 102 ls []) := by
    intro v0 v1 v2 v3 v4 v7 v8 τ hf _ _ hJ ls hl
    unfold f_X12_meet_D102 at hf
    refine lv_iload hx hb dX12_meet_102 (lv_at hl 5 rfl) ?_
    refine lv_if_ne (tgt := 118) hx hb dX12_meet_104 (by decide) (fun c24 => ?_) (fun c24 => ?_)
    · rw [if_neg c24] at hf
      exact D118 v0 v2 v3 v4 v8 τ hf _ _ hJ ls (lv_sub hl [0, 2, 3, 4, 6] rfl)
    · rw [if_pos c24] at hf
      refine lv_aload_n hx hb dX12_meet_107 rfl (lv_at hl 0 rfl) ?_
      refine lv_iload_n hx hb dX12_meet_108 rfl (lv_at hl 3 rfl) ?_
      refine lv_iload hx hb dX12_meet_109 (lv_at hl 4 rfl) ?_
      refine lv_iload_n hx hb dX12_meet_111 rfl (lv_at hl 1 rfl) ?_
      obtain ⟨i32, e33, hf⟩ := mb0 hf
      obtain ⟨x35, σ34, e36, hf⟩ := mc0 hf
      refine mx_callV (As := [.int v3, .int v4, .int v1]) (rest := []) hx hb hml hts hown hK hJ rfl rfl (ci := 12) rfl e33 (c_X12_within l G P v0 v3 v4 v1 τ x35 σ34 e36) me_X12_within kw_2784 ks_168 kw_2782 (Nat.le_of_ble_eq_true rfl) (Nat.le_of_ble_eq_true rfl) rfl hl.1 rfl (Nat.le_of_ble_eq_true rfl) dX12_meet_112 (fun H locs hJ => ?_)
      refine lv_if_ne (tgt := 134) hx hb dX12_meet_115 (by decide) (fun c37 => ?_) (fun c37 => ?_)
      · rw [if_neg c37] at hf
        exact D134  σ34 hf _ _ hJ ls (lv_sub hl [] rfl)
      · rw [if_pos c37] at hf
        exact D118 v0 v2 v3 v4 v8 σ34 hf _ _ hJ ls (lv_sub hl [0, 2, 3, 4, 6] rfl)
  have D86 : ∀ (v0 : Nat) (v1 : Int32) (v2 : Int32) (v3 : Int32) (v4 : Int32) (v6 : Int32) (v7 : Int32) (v8 : Int32) (τ : mx_S), f_X12_meet_D86 P v0 v1 v2 v3 v4 v6 v7 v8 τ = some (r, σ') → ∀ (H : Heap) (locs : List Loc), mx_J G P s.heap (mxz σ) (mxu σ) τ H locs → ∀ ls : Array Slot, lv_has ls 9 [(0, .ref v0), (1, .int v1), (2, .int v2), (3, .int v3), (4, .int v4), (6, .int v6), (7, .int v7), (8, .int v8)] → W p l e (mx_rm P 2 46 σ) s m ([.ref a0, .int p1, .int p2, .int p3, .int p4] : List Value).toArray below meth c H locs (mxz τ - mxz σ) (mxu τ - mxu σ) (mx_Z below G P (some (.int r)) σ σ' [.ref a0, .int p1, .int p2, .int p3, .int p4] s) (F0 m 86 ls []) := by
    intro v0 v1 v2 v3 v4 v6 v7 v8 τ hf _ _ hJ ls hl
    unfold f_X12_meet_D86 at hf
    refine lv_iload hx hb dX12_meet_86 (lv_at hl 5 rfl) ?_
    refine lv_if_ne (tgt := 102) hx hb dX12_meet_88 (by decide) (fun c23 => ?_) (fun c23 => ?_)
    · rw [if_neg c23] at hf
      exact D102 v0 v1 v2 v3 v4 v7 v8 τ hf _ _ hJ ls (lv_sub hl [0, 1, 2, 3, 4, 6, 7] rfl)
    · rw [if_pos c23] at hf
      refine lv_aload_n hx hb dX12_meet_91 rfl (lv_at hl 0 rfl) ?_
      refine lv_iload_n hx hb dX12_meet_92 rfl (lv_at hl 1 rfl) ?_
      refine lv_iload_n hx hb dX12_meet_93 rfl (lv_at hl 2 rfl) ?_
      refine lv_iload hx hb dX12_meet_94 (lv_at hl 4 rfl) ?_
      obtain ⟨i38, e39, hf⟩ := mb0 hf
      obtain ⟨x41, σ40, e42, hf⟩ := mc0 hf
      refine mx_callV (As := [.int v1, .int v2, .int v4]) (rest := []) hx hb hml hts hown hK hJ rfl rfl (ci := 12) rfl e39 (c_X12_within l G P v0 v1 v2 v4 τ x41 σ40 e42) me_X12_within kw_2784 ks_168 kw_2782 (Nat.le_of_ble_eq_true rfl) (Nat.le_of_ble_eq_true rfl) rfl hl.1 rfl (Nat.le_of_ble_eq_true rfl) dX12_meet_96 (fun H locs hJ => ?_)
      refine lv_if_ne (tgt := 134) hx hb dX12_meet_99 (by decide) (fun c43 => ?_) (fun c43 => ?_)
      · rw [if_neg c43] at hf
        exact D134  σ40 hf _ _ hJ ls (lv_sub hl [] rfl)
      · rw [if_pos c43] at hf
        exact D102 v0 v1 v2 v3 v4 v7 v8 σ40 hf _ _ hJ ls (lv_sub hl [0, 1, 2, 3, 4, 6, 7] rfl)
  have D71 : ∀ (v0 : Nat) (v1 : Int32) (v2 : Int32) (v3 : Int32) (v4 : Int32) (v5 : Int32) (v6 : Int32) (v7 : Int32) (v8 : Int32) (τ : mx_S), f_X12_meet_D71 P v0 v1 v2 v3 v4 v5 v6 v7 v8 τ = some (r, σ') → ∀ (H : Heap) (locs : List Loc), mx_J G P s.heap (mxz σ) (mxu σ) τ H locs → ∀ ls : Array Slot, lv_has ls 9 [(0, .ref v0), (1, .int v1), (2, .int v2), (3, .int v3), (4, .int v4), (5, .int v5), (6, .int v6), (7, .int v7), (8, .int v8)] → W p l e (mx_rm P 2 46 σ) s m ([.ref a0, .int p1, .int p2, .int p3, .int p4] : List Value).toArray below meth c H locs (mxz τ - mxz σ) (mxu τ - mxu σ) (mx_Z below G P (some (.int r)) σ σ' [.ref a0, .int p1, .int p2, .int p3, .int p4] s) (F0 m 71 ls []) := by
    intro v0 v1 v2 v3 v4 v5 v6 v7 v8 τ hf _ _ hJ ls hl
    unfold f_X12_meet_D71 at hf
    refine lv_iload hx hb dX12_meet_71 (lv_at hl 5 rfl) ?_
    refine lv_if_ne (tgt := 86) hx hb dX12_meet_73 (by decide) (fun c22 => ?_) (fun c22 => ?_)
    · rw [if_neg c22] at hf
      exact D86 v0 v1 v2 v3 v4 v6 v7 v8 τ hf _ _ hJ ls (lv_sub hl [0, 1, 2, 3, 4, 6, 7, 8] rfl)
    · rw [if_pos c22] at hf
      refine lv_aload_n hx hb dX12_meet_76 rfl (lv_at hl 0 rfl) ?_
      refine lv_iload_n hx hb dX12_meet_77 rfl (lv_at hl 1 rfl) ?_
      refine lv_iload_n hx hb dX12_meet_78 rfl (lv_at hl 2 rfl) ?_
      refine lv_iload_n hx hb dX12_meet_79 rfl (lv_at hl 3 rfl) ?_
      obtain ⟨i44, e45, hf⟩ := mb0 hf
      obtain ⟨x47, σ46, e48, hf⟩ := mc0 hf
      refine mx_callV (As := [.int v1, .int v2, .int v3]) (rest := []) hx hb hml hts hown hK hJ rfl rfl (ci := 12) rfl e45 (c_X12_within l G P v0 v1 v2 v3 τ x47 σ46 e48) me_X12_within kw_2784 ks_168 kw_2782 (Nat.le_of_ble_eq_true rfl) (Nat.le_of_ble_eq_true rfl) rfl hl.1 rfl (Nat.le_of_ble_eq_true rfl) dX12_meet_80 (fun H locs hJ => ?_)
      refine lv_if_ne (tgt := 134) hx hb dX12_meet_83 (by decide) (fun c49 => ?_) (fun c49 => ?_)
      · rw [if_neg c49] at hf
        exact D134  σ46 hf _ _ hJ ls (lv_sub hl [] rfl)
      · rw [if_pos c49] at hf
        exact D86 v0 v1 v2 v3 v4 v6 v7 v8 σ46 hf _ _ hJ ls (lv_sub hl [0, 1, 2, 3, 4, 6, 7, 8] rfl)
  unfold f_X12_meet at hf
  refine lv_aload_n hx hb dX12_meet_0 rfl (lv_at hl 0 rfl) ?_
  refine lv_iload_n hx hb dX12_meet_1 rfl (lv_at hl 1 rfl) ?_
  refine lv_iload_n hx hb dX12_meet_2 rfl (lv_at hl 2 rfl) ?_
  refine lv_iload_n hx hb dX12_meet_3 rfl (lv_at hl 3 rfl) ?_
  obtain ⟨i1, e2, hf⟩ := mb0 hf
  obtain ⟨x4, σ3, e5, hf⟩ := mc0 hf
  refine mx_callV (As := [.int p1, .int p2, .int p3]) (rest := []) hx hb hml hts hown hK hJ rfl rfl (ci := 12) rfl e2 (c_X12_side l G P a0 p1 p2 p3 σ x4 σ3 e5) me_X12_side kw_2777 ks_167 kw_2775 (Nat.le_of_ble_eq_true rfl) (Nat.le_of_ble_eq_true rfl) rfl hl.1 rfl (Nat.le_of_ble_eq_true rfl) dX12_meet_4 (fun H locs hJ => ?_)
  refine lv_istore (lv' := [(5, .int x4), (0, .ref a0), (1, .int p1), (2, .int p2), (3, .int p3), (4, .int p4)]) hx hb dX12_meet_7 hl (by decide) rfl (fun ls hl => ?_)
  refine lv_aload_n hx hb dX12_meet_9 rfl (lv_at hl 1 rfl) ?_
  refine lv_iload_n hx hb dX12_meet_10 rfl (lv_at hl 2 rfl) ?_
  refine lv_iload_n hx hb dX12_meet_11 rfl (lv_at hl 3 rfl) ?_
  refine lv_iload hx hb dX12_meet_12 (lv_at hl 5 rfl) ?_
  obtain ⟨i6, e7, hf⟩ := mb0 hf
  obtain ⟨x9, σ8, e10, hf⟩ := mc0 hf
  refine mx_callV (As := [.int p1, .int p2, .int p4]) (rest := []) hx hb hml hts hown hK hJ rfl rfl (ci := 12) rfl e7 (c_X12_side l G P a0 p1 p2 p4 σ3 x9 σ8 e10) me_X12_side kw_2777 ks_167 kw_2775 (Nat.le_of_ble_eq_true rfl) (Nat.le_of_ble_eq_true rfl) rfl hl.1 rfl (Nat.le_of_ble_eq_true rfl) dX12_meet_14 (fun H locs hJ => ?_)
  refine lv_istore (lv' := [(6, .int x9), (5, .int x4), (0, .ref a0), (1, .int p1), (2, .int p2), (3, .int p3), (4, .int p4)]) hx hb dX12_meet_17 hl (by decide) rfl (fun ls hl => ?_)
  refine lv_aload_n hx hb dX12_meet_19 rfl (lv_at hl 2 rfl) ?_
  refine lv_iload_n hx hb dX12_meet_20 rfl (lv_at hl 5 rfl) ?_
  refine lv_iload hx hb dX12_meet_21 (lv_at hl 6 rfl) ?_
  refine lv_iload_n hx hb dX12_meet_23 rfl (lv_at hl 3 rfl) ?_
  obtain ⟨i11, e12, hf⟩ := mb0 hf
  obtain ⟨x14, σ13, e15, hf⟩ := mc0 hf
  refine mx_callV (As := [.int p3, .int p4, .int p1]) (rest := []) hx hb hml hts hown hK hJ rfl rfl (ci := 12) rfl e12 (c_X12_side l G P a0 p3 p4 p1 σ8 x14 σ13 e15) me_X12_side kw_2777 ks_167 kw_2775 (Nat.le_of_ble_eq_true rfl) (Nat.le_of_ble_eq_true rfl) rfl hl.1 rfl (Nat.le_of_ble_eq_true rfl) dX12_meet_24 (fun H locs hJ => ?_)
  refine lv_istore (lv' := [(7, .int x14), (6, .int x9), (5, .int x4), (0, .ref a0), (1, .int p1), (2, .int p2), (3, .int p3), (4, .int p4)]) hx hb dX12_meet_27 hl (by decide) rfl (fun ls hl => ?_)
  refine lv_aload_n hx hb dX12_meet_29 rfl (lv_at hl 3 rfl) ?_
  refine lv_iload_n hx hb dX12_meet_30 rfl (lv_at hl 6 rfl) ?_
  refine lv_iload hx hb dX12_meet_31 (lv_at hl 7 rfl) ?_
  refine lv_iload_n hx hb dX12_meet_33 rfl (lv_at hl 5 rfl) ?_
  obtain ⟨i16, e17, hf⟩ := mb0 hf
  obtain ⟨x19, σ18, e20, hf⟩ := mc0 hf
  refine mx_callV (As := [.int p3, .int p4, .int p2]) (rest := []) hx hb hml hts hown hK hJ rfl rfl (ci := 12) rfl e17 (c_X12_side l G P a0 p3 p4 p2 σ13 x19 σ18 e20) me_X12_side kw_2777 ks_167 kw_2775 (Nat.le_of_ble_eq_true rfl) (Nat.le_of_ble_eq_true rfl) rfl hl.1 rfl (Nat.le_of_ble_eq_true rfl) dX12_meet_34 (fun H locs hJ => ?_)
  refine lv_istore (lv' := [(8, .int x19), (7, .int x14), (6, .int x9), (5, .int x4), (0, .ref a0), (1, .int p1), (2, .int p2), (3, .int p3), (4, .int p4)]) hx hb dX12_meet_37 hl (by decide) rfl (fun ls hl => ?_)
  refine lv_iload hx hb dX12_meet_39 (lv_at hl 3 rfl) ?_
  refine lv_iload hx hb dX12_meet_41 (lv_at hl 2 rfl) ?_
  refine lv_icmp_eq (tgt := 71) hx hb dX12_meet_43 (by decide) (fun c21 => ?_) (fun c21 => ?_)
  · rw [if_pos c21] at hf
    exact D71 a0 p1 p2 p3 p4 x4 x9 x14 x19 σ18 hf _ _ hJ ls (lv_sub hl [4, 5, 6, 7, 8, 3, 2, 1, 0] rfl)
  · rw [if_neg c21] at hf
    refine lv_iload hx hb dX12_meet_46 (lv_at hl 1 rfl) ?_
    refine lv_iload hx hb dX12_meet_48 (lv_at hl 0 rfl) ?_
    refine lv_icmp_eq (tgt := 71) hx hb dX12_meet_50 (by decide) (fun c50 => ?_) (fun c50 => ?_)
    · rw [if_pos c50] at hf
      exact D71 a0 p1 p2 p3 p4 x4 x9 x14 x19 σ18 hf _ _ hJ ls (lv_sub hl [4, 5, 6, 7, 8, 3, 2, 1, 0] rfl)
    · rw [if_neg c50] at hf
      refine lv_iload hx hb dX12_meet_53 (lv_at hl 3 rfl) ?_
      refine lv_iload hx hb dX12_meet_55 (lv_at hl 2 rfl) ?_
      refine lv_imul hx hb dX12_meet_57 ?_
      refine lv_if_gt (tgt := 71) hx hb dX12_meet_58 (by decide) (fun c51 => ?_) (fun c51 => ?_)
      · rw [if_pos c51] at hf
        exact D71 a0 p1 p2 p3 p4 x4 x9 x14 x19 σ18 hf _ _ hJ ls (lv_sub hl [4, 5, 6, 7, 8, 3, 2, 1, 0] rfl)
      · rw [if_neg c51] at hf
        refine lv_iload hx hb dX12_meet_61 (lv_at hl 1 rfl) ?_
        refine lv_iload hx hb dX12_meet_63 (lv_at hl 0 rfl) ?_
        refine lv_imul hx hb dX12_meet_65 ?_
        refine lv_if_gt (tgt := 71) hx hb dX12_meet_66 (by decide) (fun c52 => ?_) (fun c52 => ?_)
        · rw [if_pos c52] at hf
          exact D71 a0 p1 p2 p3 p4 x4 x9 x14 x19 σ18 hf _ _ hJ ls (lv_sub hl [4, 5, 6, 7, 8, 3, 2, 1, 0] rfl)
        · rw [if_neg c52] at hf
          refine lv_iconst (v := 1) hx hb dX12_meet_69 (by decide) ?_
          exact mx_zret hx hb hr hlocks hJ hf dX12_meet_70
set_option maxHeartbeats 4000000 in
set_option maxRecDepth 100000 in
theorem c_X12_crossed (l : Launch) (G : mx_G) (P : mx_P) (a0 : Nat) (p1 : Int32) (p2 : Int32) (σ : mx_S) (r : Int64) (σ' : mx_S) (hf : f_X12_crossed P a0 p1 p2 σ = some (r, σ')) : mxz σ ≤ mpc P → mxu σ ≤ mps P → mx_M l yX12_crossed cX12_crossed 6 (some .long) 3 74 G P [.ref a0, .int p1, .int p2] σ (some (.long r)) σ' := by
  intro hcap hcau
  refine mx_ofW (by decide +kernel) hcap hcau (Nat.le_of_ble_eq_true rfl) ?_
  intro p e s m below meth c hx hb hr hml hts hown hlocks hname hK hJ ls hl
  have hz0 := hJ.2.1
  have hown : s.vm.findClass RX12 = some m.cls := hown
  have hl : lv_has ls 6 [(0, .ref a0), (1, .int p1), (2, .int p2)] := hl
  have D102_22 : ∀ (v0 : Nat) (v1 : Int32) (v2 : Int32) (v3 : Int32) (v4 : Int32) (v5 : Int32) (τ : mx_S) (o : (Int32 × mx_S) ⊕ ((Int32 × mx_S) ⊕ (mx_S))), f_X12_crossed_D102_22 P v0 v1 v2 v3 v4 v5 τ = some o → (∀ (y5 : Int32) (υ : mx_S), o = .inl (y5, υ) → ∀ (H : Heap) (locs : List Loc), mx_J G P s.heap (mxz σ) (mxu σ) υ H locs → ∀ ls : Array Slot, lv_has ls 6 [(0, .ref v0), (1, .int v1), (2, .int v2), (3, .int v3), (4, .int v4), (5, .int y5)] → W p l e (mx_rm P 3 74 σ) s m ([.ref a0, .int p1, .int p2] : List Value).toArray below meth c H locs (mxz υ - mxz σ) (mxu υ - mxu σ) (mx_Z below G P (some (.long r)) σ σ' [.ref a0, .int p1, .int p2] s) (F0 m 22 ls [])) → (∀ (y5 : Int32) (υ : mx_S), o = .inr (.inl (y5, υ)) → ∀ (H : Heap) (locs : List Loc), mx_J G P s.heap (mxz σ) (mxu σ) υ H locs → ∀ ls : Array Slot, lv_has ls 6 [(2, .int v2), (4, .int v4), (5, .int y5)] → W p l e (mx_rm P 3 74 σ) s m ([.ref a0, .int p1, .int p2] : List Value).toArray below meth c H locs (mxz υ - mxz σ) (mxu υ - mxu σ) (mx_Z below G P (some (.long r)) σ σ' [.ref a0, .int p1, .int p2] s) (F0 m 88 ls [])) → (∀  (υ : mx_S), o = .inr (.inr υ) → ∀ (H : Heap) (locs : List Loc), mx_J G P s.heap (mxz σ) (mxu σ) υ H locs → ∀ ls : Array Slot, lv_has ls 6 [(0, .ref v0), (1, .int v1), (2, .int v2), (3, .int v3), (4, .int v4)] → W p l e (mx_rm P 3 74 σ) s m ([.ref a0, .int p1, .int p2] : List Value).toArray below meth c H locs (mxz υ - mxz σ) (mxu υ - mxu σ) (mx_Z below G P (some (.long r)) σ σ' [.ref a0, .int p1, .int p2] s) (F0 m 108 ls [])) → ∀ (H : Heap) (locs : List Loc), mx_J G P s.heap (mxz σ) (mxu σ) τ H locs → ∀ ls : Array Slot, lv_has ls 6 [(0, .ref v0), (1, .int v1), (2, .int v2), (3, .int v3), (4, .int v4), (5, .int v5)] → W p l e (mx_rm P 3 74 σ) s m ([.ref a0, .int p1, .int p2] : List Value).toArray below meth c H locs (mxz τ - mxz σ) (mxu τ - mxu σ) (mx_Z below G P (some (.long r)) σ σ' [.ref a0, .int p1, .int p2] s) (F0 m 102 ls []) := by
    intro v0 v1 v2 v3 v4 v5 τ o hf Kb Ke0 Ke1 H locs hJ ls hl
    unfold f_X12_crossed_D102_22 at hf
    obtain ⟨x10, e11, hf⟩ := mb0 hf
    refine lv_iinc (v := x10) (lv' := [(5, .int x10), (0, .ref v0), (1, .int v1), (2, .int v2), (3, .int v3), (4, .int v4)]) hx hb dX12_crossed_102 hl (k := 5) rfl (by rw [← Option.some.inj e11]; rfl) (by decide) rfl (fun ls hl => ?_)
    refine lv_goto (tgt := 22) hx hb dX12_crossed_105 (by decide) ?_
    exact Kb x10 τ (Option.some.inj hf).symm _ _ hJ ls (lv_sub hl [1, 2, 3, 4, 5, 0] rfl)
  have D53_22 : ∀ (v0 : Nat) (v1 : Int32) (v2 : Int32) (v3 : Int32) (v4 : Int32) (v5 : Int32) (τ : mx_S) (o : (Int32 × mx_S) ⊕ ((Int32 × mx_S) ⊕ (mx_S))), f_X12_crossed_D53_22 P v0 v1 v2 v3 v4 v5 τ = some o → (∀ (y5 : Int32) (υ : mx_S), o = .inl (y5, υ) → ∀ (H : Heap) (locs : List Loc), mx_J G P s.heap (mxz σ) (mxu σ) υ H locs → ∀ ls : Array Slot, lv_has ls 6 [(0, .ref v0), (1, .int v1), (2, .int v2), (3, .int v3), (4, .int v4), (5, .int y5)] → W p l e (mx_rm P 3 74 σ) s m ([.ref a0, .int p1, .int p2] : List Value).toArray below meth c H locs (mxz υ - mxz σ) (mxu υ - mxu σ) (mx_Z below G P (some (.long r)) σ σ' [.ref a0, .int p1, .int p2] s) (F0 m 22 ls [])) → (∀ (y5 : Int32) (υ : mx_S), o = .inr (.inl (y5, υ)) → ∀ (H : Heap) (locs : List Loc), mx_J G P s.heap (mxz σ) (mxu σ) υ H locs → ∀ ls : Array Slot, lv_has ls 6 [(2, .int v2), (4, .int v4), (5, .int y5)] → W p l e (mx_rm P 3 74 σ) s m ([.ref a0, .int p1, .int p2] : List Value).toArray below meth c H locs (mxz υ - mxz σ) (mxu υ - mxu σ) (mx_Z below G P (some (.long r)) σ σ' [.ref a0, .int p1, .int p2] s) (F0 m 88 ls [])) → (∀  (υ : mx_S), o = .inr (.inr υ) → ∀ (H : Heap) (locs : List Loc), mx_J G P s.heap (mxz σ) (mxu σ) υ H locs → ∀ ls : Array Slot, lv_has ls 6 [(0, .ref v0), (1, .int v1), (2, .int v2), (3, .int v3), (4, .int v4)] → W p l e (mx_rm P 3 74 σ) s m ([.ref a0, .int p1, .int p2] : List Value).toArray below meth c H locs (mxz υ - mxz σ) (mxu υ - mxu σ) (mx_Z below G P (some (.long r)) σ σ' [.ref a0, .int p1, .int p2] s) (F0 m 108 ls [])) → ∀ (H : Heap) (locs : List Loc), mx_J G P s.heap (mxz σ) (mxu σ) τ H locs → ∀ ls : Array Slot, lv_has ls 6 [(0, .ref v0), (1, .int v1), (2, .int v2), (3, .int v3), (4, .int v4), (5, .int v5)] → W p l e (mx_rm P 3 74 σ) s m ([.ref a0, .int p1, .int p2] : List Value).toArray below meth c H locs (mxz τ - mxz σ) (mxu τ - mxu σ) (mx_Z below G P (some (.long r)) σ σ' [.ref a0, .int p1, .int p2] s) (F0 m 53 ls []) := by
    intro v0 v1 v2 v3 v4 v5 τ o hf Kb Ke0 Ke1 H locs hJ ls hl
    unfold f_X12_crossed_D53_22 at hf
    refine lv_aload_n hx hb dX12_crossed_53 rfl (lv_at hl 0 rfl) ?_
    refine lv_bipush (v := 24) hx hb dX12_crossed_54 (by decide) ?_
    refine lv_iload_n hx hb dX12_crossed_56 rfl (lv_at hl 1 rfl) ?_
    refine lv_imul hx hb dX12_crossed_57 ?_
    refine lv_iload hx hb dX12_crossed_58 (lv_at hl 4 rfl) ?_
    refine lv_iadd hx hb dX12_crossed_60 ?_
    refine lv_aload_n hx hb dX12_crossed_61 rfl (lv_at hl 0 rfl) ?_
    refine lv_iload_n hx hb dX12_crossed_62 rfl (lv_at hl 1 rfl) ?_
    refine lv_iload hx hb dX12_crossed_63 (lv_at hl 4 rfl) ?_
    obtain ⟨i13, e14, hf⟩ := mb0 hf
    obtain ⟨x16, σ15, e17, hf⟩ := mc0 hf
    refine mx_callV (As := [.int v1, .int v4]) (rest := [.int (((24 : Int32) * v1) + v4), .ref v0]) hx hb hml hts hown hK hJ rfl rfl (ci := 12) rfl e14 (c_X12_after l G P v0 v1 v4 τ x16 σ15 e17) me_X12_after kw_2765 ks_164 kw_2763 (Nat.le_of_ble_eq_true rfl) (Nat.le_of_ble_eq_true rfl) rfl hl.1 rfl (Nat.le_of_ble_eq_true rfl) dX12_crossed_65 (fun H locs hJ => ?_)
    refine lv_bipush (v := 24) hx hb dX12_crossed_68 (by decide) ?_
    refine lv_iload_n hx hb dX12_crossed_70 rfl (lv_at hl 1 rfl) ?_
    refine lv_imul hx hb dX12_crossed_71 ?_
    refine lv_iload hx hb dX12_crossed_72 (lv_at hl 5 rfl) ?_
    refine lv_iadd hx hb dX12_crossed_74 ?_
    refine lv_aload_n hx hb dX12_crossed_75 rfl (lv_at hl 0 rfl) ?_
    refine lv_iload_n hx hb dX12_crossed_76 rfl (lv_at hl 1 rfl) ?_
    refine lv_iload hx hb dX12_crossed_77 (lv_at hl 5 rfl) ?_
    obtain ⟨i18, e19, hf⟩ := mb0 hf
    obtain ⟨x21, σ20, e22, hf⟩ := mc0 hf
    refine mx_callV (As := [.int v1, .int v5]) (rest := [.int (((24 : Int32) * v1) + v5), .int x16, .int (((24 : Int32) * v1) + v4), .ref v0]) hx hb hml hts hown hK hJ rfl rfl (ci := 12) rfl e19 (c_X12_after l G P v0 v1 v5 σ15 x21 σ20 e22) me_X12_after kw_2765 ks_164 kw_2763 (Nat.le_of_ble_eq_true rfl) (Nat.le_of_ble_eq_true rfl) rfl hl.1 rfl (Nat.le_of_ble_eq_true rfl) dX12_crossed_79 (fun H locs hJ => ?_)
    obtain ⟨i23, e24, hf⟩ := mb0 hf
    obtain ⟨x26, σ25, e27, hf⟩ := mc0 hf
    refine mx_callV (As := [.int (((24 : Int32) * v1) + v4), .int x16, .int (((24 : Int32) * v1) + v5), .int x21]) (rest := []) hx hb hml hts hown hK hJ rfl rfl (ci := 12) rfl e24 (c_X12_meet l G P v0 (((24 : Int32) * v1) + v4) x16 (((24 : Int32) * v1) + v5) x21 σ20 x26 σ25 e27) me_X12_meet kw_2773 ks_166 kw_2771 (Nat.le_of_ble_eq_true rfl) (Nat.le_of_ble_eq_true rfl) rfl hl.1 rfl (Nat.le_of_ble_eq_true rfl) dX12_crossed_82 (fun H locs hJ => ?_)
    refine lv_if_eq (tgt := 102) hx hb dX12_crossed_85 (by decide) (fun c28 => ?_) (fun c28 => ?_)
    · rw [if_pos c28] at hf
      exact D102_22 v0 v1 v2 v3 v4 v5 σ25 o hf Kb Ke0 Ke1 _ _ hJ ls (lv_sub hl [0, 1, 2, 3, 4, 5] rfl)
    · rw [if_neg c28] at hf
      exact Ke0 v5 σ25 (Option.some.inj hf).symm _ _ hJ ls (lv_sub hl [2, 4, 5] rfl)
  have B22 : ∀ (v0 : Nat) (v1 : Int32) (v2 : Int32) (v3 : Int32) (v4 : Int32) (v5 : Int32) (τ : mx_S) (o : (Int32 × mx_S) ⊕ ((Int32 × mx_S) ⊕ (mx_S))), f_X12_crossed_B22 P v0 v1 v2 v3 v4 v5 τ = some o → (∀ (y5 : Int32) (υ : mx_S), o = .inl (y5, υ) → ∀ (H : Heap) (locs : List Loc), mx_J G P s.heap (mxz σ) (mxu σ) υ H locs → ∀ ls : Array Slot, lv_has ls 6 [(0, .ref v0), (1, .int v1), (2, .int v2), (3, .int v3), (4, .int v4), (5, .int y5)] → W p l e (mx_rm P 3 74 σ) s m ([.ref a0, .int p1, .int p2] : List Value).toArray below meth c H locs (mxz υ - mxz σ) (mxu υ - mxu σ) (mx_Z below G P (some (.long r)) σ σ' [.ref a0, .int p1, .int p2] s) (F0 m 22 ls [])) → (∀ (y5 : Int32) (υ : mx_S), o = .inr (.inl (y5, υ)) → ∀ (H : Heap) (locs : List Loc), mx_J G P s.heap (mxz σ) (mxu σ) υ H locs → ∀ ls : Array Slot, lv_has ls 6 [(2, .int v2), (4, .int v4), (5, .int y5)] → W p l e (mx_rm P 3 74 σ) s m ([.ref a0, .int p1, .int p2] : List Value).toArray below meth c H locs (mxz υ - mxz σ) (mxu υ - mxu σ) (mx_Z below G P (some (.long r)) σ σ' [.ref a0, .int p1, .int p2] s) (F0 m 88 ls [])) → (∀  (υ : mx_S), o = .inr (.inr υ) → ∀ (H : Heap) (locs : List Loc), mx_J G P s.heap (mxz σ) (mxu σ) υ H locs → ∀ ls : Array Slot, lv_has ls 6 [(0, .ref v0), (1, .int v1), (2, .int v2), (3, .int v3), (4, .int v4)] → W p l e (mx_rm P 3 74 σ) s m ([.ref a0, .int p1, .int p2] : List Value).toArray below meth c H locs (mxz υ - mxz σ) (mxu υ - mxu σ) (mx_Z below G P (some (.long r)) σ σ' [.ref a0, .int p1, .int p2] s) (F0 m 108 ls [])) → ∀ (H : Heap) (locs : List Loc), mx_J G P s.heap (mxz σ) (mxu σ) τ H locs → ∀ ls : Array Slot, lv_has ls 6 [(0, .ref v0), (1, .int v1), (2, .int v2), (3, .int v3), (4, .int v4), (5, .int v5)] → W p l e (mx_rm P 3 74 σ) s m ([.ref a0, .int p1, .int p2] : List Value).toArray below meth c H locs (mxz τ - mxz σ) (mxu τ - mxu σ) (mx_Z below G P (some (.long r)) σ σ' [.ref a0, .int p1, .int p2] s) (F0 m 22 ls []) := by
    intro v0 v1 v2 v3 v4 v5 τ o hf Kb Ke0 Ke1 H locs hJ ls hl
    unfold f_X12_crossed_B22 at hf
    refine lv_iload hx hb dX12_crossed_22 (lv_at hl 5 rfl) ?_
    refine lv_iload_n hx hb dX12_crossed_24 rfl (lv_at hl 3 rfl) ?_
    refine lv_icmp_ge (tgt := 108) hx hb dX12_crossed_25 (by decide) (fun c8 => ?_) (fun c8 => ?_)
    · rw [if_pos c8] at hf
      exact Ke1 τ (Option.some.inj hf).symm _ _ hJ ls (lv_sub hl [0, 1, 2, 3, 4] rfl)
    · rw [if_neg c8] at hf
      refine lv_iload hx hb dX12_crossed_28 (lv_at hl 5 rfl) ?_
      refine lv_iload hx hb dX12_crossed_30 (lv_at hl 4 rfl) ?_
      refine lv_iconst (v := 1) hx hb dX12_crossed_32 (by decide) ?_
      refine lv_iadd hx hb dX12_crossed_33 ?_
      refine lv_icmp_eq (tgt := 102) hx hb dX12_crossed_34 (by decide) (fun c9 => ?_) (fun c9 => ?_)
      · rw [if_pos c9] at hf
        exact D102_22 v0 v1 v2 v3 v4 v5 τ o hf Kb Ke0 Ke1 _ _ hJ ls (lv_sub hl [0, 1, 2, 3, 4, 5] rfl)
      · rw [if_neg c9] at hf
        refine lv_iload hx hb dX12_crossed_37 (lv_at hl 4 rfl) ?_
        refine lv_if_ne (tgt := 53) hx hb dX12_crossed_39 (by decide) (fun c12 => ?_) (fun c12 => ?_)
        · rw [if_neg c12] at hf
          exact D53_22 v0 v1 v2 v3 v4 v5 τ o hf Kb Ke0 Ke1 _ _ hJ ls (lv_sub hl [0, 1, 2, 3, 4, 5] rfl)
        · rw [if_pos c12] at hf
          refine lv_iload hx hb dX12_crossed_42 (lv_at hl 5 rfl) ?_
          refine lv_iload_n hx hb dX12_crossed_44 rfl (lv_at hl 3 rfl) ?_
          refine lv_iconst (v := 1) hx hb dX12_crossed_45 (by decide) ?_
          refine lv_isub hx hb dX12_crossed_46 ?_
          refine lv_icmp_ne (tgt := 53) hx hb dX12_crossed_47 (by decide) (fun c29 => ?_) (fun c29 => ?_)
          · rw [if_neg c29] at hf
            exact D53_22 v0 v1 v2 v3 v4 v5 τ o hf Kb Ke0 Ke1 _ _ hJ ls (lv_sub hl [0, 1, 2, 3, 4, 5] rfl)
          · rw [if_pos c29] at hf
            refine lv_goto (tgt := 102) hx hb dX12_crossed_50 (by decide) ?_
            exact D102_22 v0 v1 v2 v3 v4 v5 τ o hf Kb Ke0 Ke1 _ _ hJ ls (lv_sub hl [0, 1, 2, 3, 4, 5] rfl)
  have L22 : ∀ (v0 : Nat) (v1 : Int32) (v2 : Int32) (v3 : Int32) (v4 : Int32) (n : Nat) (v5 : Int32) (τ : mx_S) (o : (Int32 × mx_S) ⊕ (mx_S)), mx_lp (f_X12_crossed_L22 P v0 v1 v2 v3 v4) n (v5, τ) = some o → (∀ (y5 : Int32) (υ : mx_S), o = (.inl (y5, υ)) → ∀ (H : Heap) (locs : List Loc), mx_J G P s.heap (mxz σ) (mxu σ) υ H locs → ∀ ls : Array Slot, lv_has ls 6 [(2, .int v2), (4, .int v4), (5, .int y5)] → W p l e (mx_rm P 3 74 σ) s m ([.ref a0, .int p1, .int p2] : List Value).toArray below meth c H locs (mxz υ - mxz σ) (mxu υ - mxu σ) (mx_Z below G P (some (.long r)) σ σ' [.ref a0, .int p1, .int p2] s) (F0 m 88 ls [])) → (∀  (υ : mx_S), o = (.inr υ) → ∀ (H : Heap) (locs : List Loc), mx_J G P s.heap (mxz σ) (mxu σ) υ H locs → ∀ ls : Array Slot, lv_has ls 6 [(0, .ref v0), (1, .int v1), (2, .int v2), (3, .int v3), (4, .int v4)] → W p l e (mx_rm P 3 74 σ) s m ([.ref a0, .int p1, .int p2] : List Value).toArray below meth c H locs (mxz υ - mxz σ) (mxu υ - mxu σ) (mx_Z below G P (some (.long r)) σ σ' [.ref a0, .int p1, .int p2] s) (F0 m 108 ls [])) → ∀ (H : Heap) (locs : List Loc), mx_J G P s.heap (mxz σ) (mxu σ) τ H locs → ∀ ls : Array Slot, lv_has ls 6 [(0, .ref v0), (1, .int v1), (2, .int v2), (3, .int v3), (4, .int v4), (5, .int v5)] → W p l e (mx_rm P 3 74 σ) s m ([.ref a0, .int p1, .int p2] : List Value).toArray below meth c H locs (mxz τ - mxz σ) (mxu τ - mxu σ) (mx_Z below G P (some (.long r)) σ σ' [.ref a0, .int p1, .int p2] s) (F0 m 22 ls []) := by
    intro v0 v1 v2 v3 v4 n
    induction n with
    | zero =>
      intro v5 τ o hf
      rw [mx_lp0] at hf
      cases hf
    | succ n ih =>
      intro v5 τ o hf Ke0 Ke1 H locs hJ ls hl
      rw [mx_lpS] at hf
      obtain ⟨b, eb, hf⟩ := mb0 hf
      refine B22 v0 v1 v2 v3 v4 v5 τ b eb (fun y5 υ ho H locs hJ ls hl => ?_) (fun y5 υ ho H locs hJ ls hl => ?_) (fun  υ ho H locs hJ ls hl => ?_) H locs hJ ls hl
      · subst ho
        exact ih y5 υ o hf Ke0 Ke1 H locs hJ ls hl
      · subst ho
        exact Ke0 y5 υ (Option.some.inj hf).symm _ _ hJ ls hl
      · subst ho
        exact Ke1  υ (Option.some.inj hf).symm _ _ hJ ls hl
  have B10 : ∀ (v0 : Nat) (v1 : Int32) (v2 : Int32) (v3 : Int32) (v4 : Int32) (τ : mx_S) (o : (Int32 × mx_S) ⊕ ((Int32 × Int32 × mx_S) ⊕ (mx_S))), f_X12_crossed_B10 P v0 v1 v2 v3 v4 τ = some o → (∀ (y4 : Int32) (υ : mx_S), o = .inl (y4, υ) → ∀ (H : Heap) (locs : List Loc), mx_J G P s.heap (mxz σ) (mxu σ) υ H locs → ∀ ls : Array Slot, lv_has ls 6 [(0, .ref v0), (1, .int v1), (2, .int v2), (3, .int v3), (4, .int y4)] → W p l e (mx_rm P 3 74 σ) s m ([.ref a0, .int p1, .int p2] : List Value).toArray below meth c H locs (mxz υ - mxz σ) (mxu υ - mxu σ) (mx_Z below G P (some (.long r)) σ σ' [.ref a0, .int p1, .int p2] s) (F0 m 10 ls [])) → (∀ (y4 : Int32) (y5 : Int32) (υ : mx_S), o = .inr (.inl (y4, y5, υ)) → ∀ (H : Heap) (locs : List Loc), mx_J G P s.heap (mxz σ) (mxu σ) υ H locs → ∀ ls : Array Slot, lv_has ls 6 [(2, .int v2), (4, .int y4), (5, .int y5)] → W p l e (mx_rm P 3 74 σ) s m ([.ref a0, .int p1, .int p2] : List Value).toArray below meth c H locs (mxz υ - mxz σ) (mxu υ - mxu σ) (mx_Z below G P (some (.long r)) σ σ' [.ref a0, .int p1, .int p2] s) (F0 m 88 ls [])) → (∀  (υ : mx_S), o = .inr (.inr υ) → ∀ (H : Heap) (locs : List Loc), mx_J G P s.heap (mxz σ) (mxu σ) υ H locs → ∀ ls : Array Slot, lv_has ls 6 [] → W p l e (mx_rm P 3 74 σ) s m ([.ref a0, .int p1, .int p2] : List Value).toArray below meth c H locs (mxz υ - mxz σ) (mxu υ - mxu σ) (mx_Z below G P (some (.long r)) σ σ' [.ref a0, .int p1, .int p2] s) (F0 m 114 ls [])) → ∀ (H : Heap) (locs : List Loc), mx_J G P s.heap (mxz σ) (mxu σ) τ H locs → ∀ ls : Array Slot, lv_has ls 6 [(0, .ref v0), (1, .int v1), (2, .int v2), (3, .int v3), (4, .int v4)] → W p l e (mx_rm P 3 74 σ) s m ([.ref a0, .int p1, .int p2] : List Value).toArray below meth c H locs (mxz τ - mxz σ) (mxu τ - mxu σ) (mx_Z below G P (some (.long r)) σ σ' [.ref a0, .int p1, .int p2] s) (F0 m 10 ls []) := by
    intro v0 v1 v2 v3 v4 τ o hf Kb Ke0 Ke1 H locs hJ ls hl
    unfold f_X12_crossed_B10 at hf
    refine lv_iload hx hb dX12_crossed_10 (lv_at hl 4 rfl) ?_
    refine lv_iload_n hx hb dX12_crossed_12 rfl (lv_at hl 3 rfl) ?_
    refine lv_icmp_ge (tgt := 114) hx hb dX12_crossed_13 (by decide) (fun c5 => ?_) (fun c5 => ?_)
    · rw [if_pos c5] at hf
      exact Ke1 τ (Option.some.inj hf).symm _ _ hJ ls (lv_sub hl [] rfl)
    · rw [if_neg c5] at hf
      refine lv_iload hx hb dX12_crossed_16 (lv_at hl 4 rfl) ?_
      refine lv_iconst (v := 1) hx hb dX12_crossed_18 (by decide) ?_
      refine lv_iadd hx hb dX12_crossed_19 ?_
      obtain ⟨x6, e7, hf⟩ := mb0 hf
      refine mx_nI e7 ?_
      refine lv_istore (lv' := [(5, .int x6), (0, .ref v0), (1, .int v1), (2, .int v2), (3, .int v3), (4, .int v4)]) hx hb dX12_crossed_20 hl (by decide) rfl (fun ls hl => ?_)
      obtain ⟨o30, e31, hf⟩ := mb0 hf
      refine L22 v0 v1 v2 v3 v4 (mpN P) x6 τ o30 e31 (fun y32 σ33 ho H locs hJ ls hl => ?_) (fun σ34 ho H locs hJ ls hl => ?_) _ _ hJ ls (lv_sub hl [1, 2, 3, 4, 5, 0] rfl)
      · rw [ho] at hf
        have hf : (some (.inr (.inl (v4, y32, σ33)))) = some o := hf
        exact Ke0 v4 y32 σ33 (Option.some.inj hf).symm _ _ hJ ls (lv_sub hl [0, 1, 2] rfl)
      · rw [ho] at hf
        have hf : ((some (v4 + (1 : Int32))).bind fun x35 => some (.inl (x35, σ34))) = some o := hf
        obtain ⟨x35, e36, hf⟩ := mb0 hf
        refine lv_iinc (v := x35) (lv' := [(4, .int x35), (0, .ref v0), (1, .int v1), (2, .int v2), (3, .int v3)]) hx hb dX12_crossed_108 hl (k := 4) rfl (by rw [← Option.some.inj e36]; rfl) (by decide) rfl (fun ls hl => ?_)
        refine lv_goto (tgt := 10) hx hb dX12_crossed_111 (by decide) ?_
        exact Kb x35 σ34 (Option.some.inj hf).symm _ _ hJ ls (lv_sub hl [1, 2, 3, 4, 0] rfl)
  have L10 : ∀ (v0 : Nat) (v1 : Int32) (v2 : Int32) (v3 : Int32) (n : Nat) (v4 : Int32) (τ : mx_S) (o : (Int32 × Int32 × mx_S) ⊕ (mx_S)), mx_lp (f_X12_crossed_L10 P v0 v1 v2 v3) n (v4, τ) = some o → (∀ (y4 : Int32) (y5 : Int32) (υ : mx_S), o = (.inl (y4, y5, υ)) → ∀ (H : Heap) (locs : List Loc), mx_J G P s.heap (mxz σ) (mxu σ) υ H locs → ∀ ls : Array Slot, lv_has ls 6 [(2, .int v2), (4, .int y4), (5, .int y5)] → W p l e (mx_rm P 3 74 σ) s m ([.ref a0, .int p1, .int p2] : List Value).toArray below meth c H locs (mxz υ - mxz σ) (mxu υ - mxu σ) (mx_Z below G P (some (.long r)) σ σ' [.ref a0, .int p1, .int p2] s) (F0 m 88 ls [])) → (∀  (υ : mx_S), o = (.inr υ) → ∀ (H : Heap) (locs : List Loc), mx_J G P s.heap (mxz σ) (mxu σ) υ H locs → ∀ ls : Array Slot, lv_has ls 6 [] → W p l e (mx_rm P 3 74 σ) s m ([.ref a0, .int p1, .int p2] : List Value).toArray below meth c H locs (mxz υ - mxz σ) (mxu υ - mxu σ) (mx_Z below G P (some (.long r)) σ σ' [.ref a0, .int p1, .int p2] s) (F0 m 114 ls [])) → ∀ (H : Heap) (locs : List Loc), mx_J G P s.heap (mxz σ) (mxu σ) τ H locs → ∀ ls : Array Slot, lv_has ls 6 [(0, .ref v0), (1, .int v1), (2, .int v2), (3, .int v3), (4, .int v4)] → W p l e (mx_rm P 3 74 σ) s m ([.ref a0, .int p1, .int p2] : List Value).toArray below meth c H locs (mxz τ - mxz σ) (mxu τ - mxu σ) (mx_Z below G P (some (.long r)) σ σ' [.ref a0, .int p1, .int p2] s) (F0 m 10 ls []) := by
    intro v0 v1 v2 v3 n
    induction n with
    | zero =>
      intro v4 τ o hf
      rw [mx_lp0] at hf
      cases hf
    | succ n ih =>
      intro v4 τ o hf Ke0 Ke1 H locs hJ ls hl
      rw [mx_lpS] at hf
      obtain ⟨b, eb, hf⟩ := mb0 hf
      refine B10 v0 v1 v2 v3 v4 τ b eb (fun y4 υ ho H locs hJ ls hl => ?_) (fun y4 y5 υ ho H locs hJ ls hl => ?_) (fun  υ ho H locs hJ ls hl => ?_) H locs hJ ls hl
      · subst ho
        exact ih y4 υ o hf Ke0 Ke1 H locs hJ ls hl
      · subst ho
        exact Ke0 y4 y5 υ (Option.some.inj hf).symm _ _ hJ ls hl
      · subst ho
        exact Ke1  υ (Option.some.inj hf).symm _ _ hJ ls hl
  have D101 : ∀ (w0 : Int64) (τ : mx_S), f_X12_crossed_D101 P w0 τ = some (r, σ') → ∀ (H : Heap) (locs : List Loc), mx_J G P s.heap (mxz σ) (mxu σ) τ H locs → ∀ ls : Array Slot, lv_has ls 6 [] → W p l e (mx_rm P 3 74 σ) s m ([.ref a0, .int p1, .int p2] : List Value).toArray below meth c H locs (mxz τ - mxz σ) (mxu τ - mxu σ) (mx_Z below G P (some (.long r)) σ σ' [.ref a0, .int p1, .int p2] s) (F0 m 101 ls [.long w0]) := by
    intro w0 τ hf _ _ hJ ls hl
    unfold f_X12_crossed_D101 at hf
    exact my_lret hx hb hr hlocks hJ hf dX12_crossed_101
  unfold f_X12_crossed at hf
  refine lv_aload_n hx hb dX12_crossed_0 rfl (lv_at hl 0 rfl) ?_
  obtain ⟨b1, e2, hf⟩ := mb0 hf
  refine my_gR hx hb hts hown hK hJ fd_RX12_186 hv_12_86 e2 dX12_crossed_1 ?_
  refine lv_iload_n hx hb dX12_crossed_4 rfl (lv_at hl 1 rfl) ?_
  obtain ⟨x3, e4, hf⟩ := mb0 hf
  refine mx_aI hx hb hK hJ e4 dX12_crossed_5 ?_
  refine lv_istore_n (lv' := [(3, .int x3), (0, .ref a0), (1, .int p1), (2, .int p2)]) hx hb dX12_crossed_6 rfl hl (by decide) rfl (fun ls hl => ?_)
  refine lv_iconst (v := 0) hx hb dX12_crossed_7 (by decide) ?_
  refine lv_istore (lv' := [(4, .int (0 : Int32)), (3, .int x3), (0, .ref a0), (1, .int p1), (2, .int p2)]) hx hb dX12_crossed_8 hl (by decide) rfl (fun ls hl => ?_)
  obtain ⟨o37, e38, hf⟩ := mb0 hf
  refine L10 a0 p1 p2 x3 (mpN P) (0 : Int32) σ o37 e38 (fun y39 y40 σ41 ho H locs hJ ls hl => ?_) (fun σ43 ho H locs hJ ls hl => ?_) _ _ hJ ls (lv_sub hl [2, 3, 4, 1, 0] rfl)
  · rw [ho] at hf
    have hf : ((if p2 = 0 then f_X12_crossed_D101 P (y40.toInt64) σ41 else f_X12_crossed_D101 P (y39.toInt64) σ41)) = some (r, σ') := hf
    refine lv_iload_n hx hb dX12_crossed_88 rfl (lv_at hl 0 rfl) ?_
    refine lv_if_eq (tgt := 98) hx hb dX12_crossed_89 (by decide) (fun c42 => ?_) (fun c42 => ?_)
    · rw [if_pos c42] at hf
      refine lv_iload hx hb dX12_crossed_98 (lv_at hl 2 rfl) ?_
      refine lv_i2l hx hb dX12_crossed_100 rfl ?_
      exact D101 (y40.toInt64) σ41 hf _ _ hJ ls (lv_sub hl [] rfl)
    · rw [if_neg c42] at hf
      refine lv_iload hx hb dX12_crossed_92 (lv_at hl 1 rfl) ?_
      refine lv_i2l hx hb dX12_crossed_94 rfl ?_
      refine lv_goto (tgt := 101) hx hb dX12_crossed_95 (by decide) ?_
      exact D101 (y39.toInt64) σ41 hf _ _ hJ ls (lv_sub hl [] rfl)
  · rw [ho] at hf
    have hf : (some ((-1 : Int64), σ43)) = some (r, σ') := hf
    refine lv_ldc2 hx hb hown (hts _ kw_2606) dX12_crossed_114 ?_
    exact my_lret hx hb hr hlocks hJ hf dX12_crossed_117
set_option maxHeartbeats 4000000 in
set_option maxRecDepth 100000 in
theorem c_X12_plate (l : Launch) (G : mx_G) (P : mx_P) (a0 : Nat) (p1 : Int32) (p2 : Int32) (σ : mx_S) (r : Int64) (σ' : mx_S) (hf : f_X12_plate P a0 p1 p2 σ = some (r, σ')) : mxz σ ≤ mpc P → mxu σ ≤ mps P → mx_M l yX12_plate cX12_plate 10 (some .long) 4 99 G P [.ref a0, .int p1, .int p2] σ (some (.long r)) σ' := by
  intro hcap hcau
  refine mx_ofW (by decide +kernel) hcap hcau (Nat.le_of_ble_eq_true rfl) ?_
  intro p e s m below meth c hx hb hr hml hts hown hlocks hname hK hJ ls hl
  have hz0 := hJ.2.1
  have hown : s.vm.findClass RX12 = some m.cls := hown
  have hl : lv_has ls 10 [(0, .ref a0), (1, .int p1), (2, .int p2)] := hl
  have D220 : ∀ (w0 : Int64) (τ : mx_S), f_X12_plate_D220 P w0 τ = some (r, σ') → ∀ (H : Heap) (locs : List Loc), mx_J G P s.heap (mxz σ) (mxu σ) τ H locs → ∀ ls : Array Slot, lv_has ls 10 [] → W p l e (mx_rm P 4 99 σ) s m ([.ref a0, .int p1, .int p2] : List Value).toArray below meth c H locs (mxz τ - mxz σ) (mxu τ - mxu σ) (mx_Z below G P (some (.long r)) σ σ' [.ref a0, .int p1, .int p2] s) (F0 m 220 ls [.long w0]) := by
    intro w0 τ hf _ _ hJ ls hl
    unfold f_X12_plate_D220 at hf
    exact my_lret hx hb hr hlocks hJ hf dX12_plate_220
  have D191 : ∀ (v2 : Int32) (v4 : Int64) (v6 : Int64) (τ : mx_S), f_X12_plate_D191 P v2 v4 v6 τ = some (r, σ') → ∀ (H : Heap) (locs : List Loc), mx_J G P s.heap (mxz σ) (mxu σ) τ H locs → ∀ ls : Array Slot, lv_has ls 10 [(2, .int v2), (4, .long v4), (6, .long v6)] → W p l e (mx_rm P 4 99 σ) s m ([.ref a0, .int p1, .int p2] : List Value).toArray below meth c H locs (mxz τ - mxz σ) (mxu τ - mxu σ) (mx_Z below G P (some (.long r)) σ σ' [.ref a0, .int p1, .int p2] s) (F0 m 191 ls []) := by
    intro v2 v4 v6 τ hf _ _ hJ ls hl
    unfold f_X12_plate_D191 at hf
    refine lv_lload hx hb dX12_plate_191 (lv_at hl 1 rfl) ?_
    refine lv_lload hx hb dX12_plate_193 (lv_at hl 2 rfl) ?_
    obtain ⟨x27, σ26, e28, hf⟩ := mc0 hf
    refine mx_callS (As := [.long v4, .long v6]) (rest := []) hx hb hml hts hown hK hJ rfl rfl (c_X12_gcd l G P v4 v6 τ x27 σ26 e28) me_X12_gcd kw_2260 kw_2259 (Nat.le_of_ble_eq_true rfl) (Nat.le_of_ble_eq_true rfl) rfl hl.1 rfl (Nat.le_of_ble_eq_true rfl) dX12_plate_195 (fun H locs hJ => ?_)
    refine lv_lstore (lv' := [(8, .long x27), (2, .int v2), (4, .long v4), (6, .long v6)]) hx hb dX12_plate_198 hl (by decide) rfl (fun ls hl => ?_)
    refine lv_iload_n hx hb dX12_plate_200 rfl (lv_at hl 1 rfl) ?_
    refine lv_iconst (v := 2) hx hb dX12_plate_201 (by decide) ?_
    obtain ⟨x29, e30, hf⟩ := mb0 hf
    refine lv_irem hx hb dX12_plate_202 (mm_Is e30).1 ?_
    refine mx_eI (mm_Is e30).2 ?_
    refine lv_iconst (v := 1) hx hb dX12_plate_203 (by decide) ?_
    refine lv_icmp_ne (tgt := 215) hx hb dX12_plate_204 (by decide) (fun c31 => ?_) (fun c31 => ?_)
    · rw [if_neg c31] at hf
      refine lv_lload hx hb dX12_plate_215 (lv_at hl 3 rfl) ?_
      refine lv_lload hx hb dX12_plate_217 (lv_at hl 0 rfl) ?_
      obtain ⟨x32, e33, hf⟩ := mb0 hf
      refine lv_ldiv hx hb dX12_plate_219 (md_Ls e33).1 ?_
      refine mx_eL (md_Ls e33).2 ?_
      exact D220 x32 σ26 hf _ _ hJ ls (lv_sub hl [] rfl)
    · rw [if_pos c31] at hf
      refine lv_lload hx hb dX12_plate_207 (lv_at hl 2 rfl) ?_
      refine lv_lload hx hb dX12_plate_209 (lv_at hl 0 rfl) ?_
      obtain ⟨x34, e35, hf⟩ := mb0 hf
      refine lv_ldiv hx hb dX12_plate_211 (md_Ls e35).1 ?_
      refine mx_eL (md_Ls e35).2 ?_
      refine lv_goto (tgt := 220) hx hb dX12_plate_212 (by decide) ?_
      exact D220 x34 σ26 hf _ _ hJ ls (lv_sub hl [] rfl)
  have D172 : ∀ (v2 : Int32) (v4 : Int64) (w0 : Int64) (τ : mx_S), f_X12_plate_D172 P v2 v4 w0 τ = some (r, σ') → ∀ (H : Heap) (locs : List Loc), mx_J G P s.heap (mxz σ) (mxu σ) τ H locs → ∀ ls : Array Slot, lv_has ls 10 [(2, .int v2), (4, .long v4)] → W p l e (mx_rm P 4 99 σ) s m ([.ref a0, .int p1, .int p2] : List Value).toArray below meth c H locs (mxz τ - mxz σ) (mxu τ - mxu σ) (mx_Z below G P (some (.long r)) σ σ' [.ref a0, .int p1, .int p2] s) (F0 m 172 ls [.long w0]) := by
    intro v2 v4 w0 τ hf _ _ hJ ls hl
    unfold f_X12_plate_D172 at hf
    refine lv_lstore (lv' := [(6, .long w0), (2, .int v2), (4, .long v4)]) hx hb dX12_plate_172 hl (by decide) rfl (fun ls hl => ?_)
    refine lv_lload hx hb dX12_plate_174 (lv_at hl 0 rfl) ?_
    refine lv_lconst (v := 0) hx hb dX12_plate_176 (by decide) ?_
    refine W.lcmp hx hb dX12_plate_177 ?_
    refine lv_if_ge (tgt := 191) hx hb dX12_plate_178 (by decide) (fun c25 => ?_) (fun c25 => ?_)
    · rw [if_pos c25] at hf
      exact D191 v2 v4 w0 τ hf _ _ hJ ls (lv_sub hl [1, 2, 0] rfl)
    · rw [if_neg c25] at hf
      refine lv_lload hx hb dX12_plate_181 (lv_at hl 2 rfl) ?_
      refine lv_lneg hx hb dX12_plate_183 ?_
      obtain ⟨x36, e37, hf⟩ := mb0 hf
      refine mx_nL e37 ?_
      refine lv_lstore (lv' := [(4, .long x36), (6, .long w0), (2, .int v2)]) hx hb dX12_plate_184 hl (by decide) rfl (fun ls hl => ?_)
      refine lv_lload hx hb dX12_plate_186 (lv_at hl 1 rfl) ?_
      refine lv_lneg hx hb dX12_plate_188 ?_
      obtain ⟨x38, e39, hf⟩ := mb0 hf
      refine mx_nL e39 ?_
      refine lv_lstore (lv' := [(6, .long x38), (4, .long x36), (2, .int v2)]) hx hb dX12_plate_189 hl (by decide) rfl (fun ls hl => ?_)
      exact D191 v2 x36 x38 τ hf _ _ hJ ls (lv_sub hl [2, 1, 0] rfl)
  have D149 : ∀ (v0 : Nat) (v1 : Int32) (v2 : Int32) (w0 : Int64) (τ : mx_S), f_X12_plate_D149 P v0 v1 v2 w0 τ = some (r, σ') → ∀ (H : Heap) (locs : List Loc), mx_J G P s.heap (mxz σ) (mxu σ) τ H locs → ∀ ls : Array Slot, lv_has ls 10 [(0, .ref v0), (1, .int v1), (2, .int v2)] → W p l e (mx_rm P 4 99 σ) s m ([.ref a0, .int p1, .int p2] : List Value).toArray below meth c H locs (mxz τ - mxz σ) (mxu τ - mxu σ) (mx_Z below G P (some (.long r)) σ σ' [.ref a0, .int p1, .int p2] s) (F0 m 149 ls [.long w0]) := by
    intro v0 v1 v2 w0 τ hf _ _ hJ ls hl
    unfold f_X12_plate_D149 at hf
    refine lv_lstore (lv' := [(4, .long w0), (0, .ref v0), (1, .int v1), (2, .int v2)]) hx hb dX12_plate_149 hl (by decide) rfl (fun ls hl => ?_)
    refine lv_iload_n hx hb dX12_plate_151 rfl (lv_at hl 3 rfl) ?_
    refine lv_iconst (v := 5) hx hb dX12_plate_152 (by decide) ?_
    refine lv_icmp_ge (tgt := 169) hx hb dX12_plate_153 (by decide) (fun c24 => ?_) (fun c24 => ?_)
    · rw [if_pos c24] at hf
      refine lv_ldc2 hx hb hown (hts _ kw_2786) dX12_plate_169 ?_
      exact D172 v2 w0 (12 : Int64) τ hf _ _ hJ ls (lv_sub hl [3, 0] rfl)
    · rw [if_neg c24] at hf
      refine lv_ldc2 hx hb hown (hts _ kw_2354) dX12_plate_156 ?_
      refine lv_aload_n hx hb dX12_plate_159 rfl (lv_at hl 1 rfl) ?_
      refine lv_iload_n hx hb dX12_plate_160 rfl (lv_at hl 2 rfl) ?_
      refine lv_iconst (v := 0) hx hb dX12_plate_161 (by decide) ?_
      obtain ⟨i40, e41, hf⟩ := mb0 hf
      obtain ⟨x43, σ42, e44, hf⟩ := mc0 hf
      refine mx_callV (As := [.int v1, .int (0 : Int32)]) (rest := [.long (3 : Int64)]) hx hb hml hts hown hK hJ rfl rfl (ci := 12) rfl e41 (c_X12_plateSum l G P v0 v1 (0 : Int32) τ x43 σ42 e44) me_X12_plateSum kw_2761 ks_163 kw_2759 (Nat.le_of_ble_eq_true rfl) (Nat.le_of_ble_eq_true rfl) rfl hl.1 rfl (Nat.le_of_ble_eq_true rfl) dX12_plate_162 (fun H locs hJ => ?_)
      refine lv_lmul hx hb dX12_plate_165 ?_
      refine lv_goto (tgt := 172) hx hb dX12_plate_166 (by decide) ?_
      exact D172 v2 w0 ((3 : Int64) * x43) σ42 hf _ _ hJ ls (lv_sub hl [3, 0] rfl)
  have D137 : ∀ (v0 : Nat) (v1 : Int32) (v2 : Int32) (w0 : Int32) (w1 : Int32) (w2 : Nat) (τ : mx_S), f_X12_plate_D137 P v0 v1 v2 w0 w1 w2 τ = some (r, σ') → ∀ (H : Heap) (locs : List Loc), mx_J G P s.heap (mxz σ) (mxu σ) τ H locs → ∀ ls : Array Slot, lv_has ls 10 [(0, .ref v0), (1, .int v1), (2, .int v2)] → W p l e (mx_rm P 4 99 σ) s m ([.ref a0, .int p1, .int p2] : List Value).toArray below meth c H locs (mxz τ - mxz σ) (mxu τ - mxu σ) (mx_Z below G P (some (.long r)) σ σ' [.ref a0, .int p1, .int p2] s) (F0 m 137 ls [.int w0, .int w1, .ref w2]) := by
    intro v0 v1 v2 w0 w1 w2 τ hf _ _ hJ ls hl
    unfold f_X12_plate_D137 at hf
    obtain ⟨i46, e47, hf⟩ := mb0 hf
    obtain ⟨x49, σ48, e50, hf⟩ := mc0 hf
    refine mx_callV (As := [.int w1, .int w0]) (rest := []) hx hb hml hts hown hK hJ rfl rfl (ci := 12) rfl e47 (c_X12_plateSum l G P w2 w1 w0 τ x49 σ48 e50) me_X12_plateSum kw_2761 ks_163 kw_2759 (Nat.le_of_ble_eq_true rfl) (Nat.le_of_ble_eq_true rfl) rfl hl.1 rfl (Nat.le_of_ble_eq_true rfl) dX12_plate_137 (fun H locs hJ => ?_)
    refine lv_goto (tgt := 149) hx hb dX12_plate_140 (by decide) ?_
    exact D149 v0 v1 v2 x49 σ48 hf _ _ hJ ls (lv_sub hl [0, 1, 2] rfl)
  have D116 : ∀ (w0 : Int32) (w1 : Int32) (w2 : Nat) (τ : mx_S), f_X12_plate_D116 P w0 w1 w2 τ = some (r, σ') → ∀ (H : Heap) (locs : List Loc), mx_J G P s.heap (mxz σ) (mxu σ) τ H locs → ∀ ls : Array Slot, lv_has ls 10 [] → W p l e (mx_rm P 4 99 σ) s m ([.ref a0, .int p1, .int p2] : List Value).toArray below meth c H locs (mxz τ - mxz σ) (mxu τ - mxu σ) (mx_Z below G P (some (.long r)) σ σ' [.ref a0, .int p1, .int p2] s) (F0 m 116 ls [.int w0, .int w1, .ref w2]) := by
    intro w0 w1 w2 τ hf _ _ hJ ls hl
    unfold f_X12_plate_D116 at hf
    obtain ⟨i52, e53, hf⟩ := mb0 hf
    obtain ⟨x55, σ54, e56, hf⟩ := mc0 hf
    refine mx_callV (As := [.int w1, .int w0]) (rest := []) hx hb hml hts hown hK hJ rfl rfl (ci := 12) rfl e53 (c_X12_crossed l G P w2 w1 w0 τ x55 σ54 e56) me_X12_crossed kw_2769 ks_165 kw_2767 (Nat.le_of_ble_eq_true rfl) (Nat.le_of_ble_eq_true rfl) rfl hl.1 rfl (Nat.le_of_ble_eq_true rfl) dX12_plate_116 (fun H locs hJ => ?_)
    exact my_lret hx hb hr hlocks hJ hf dX12_plate_119
  have D74 : ∀ (v0 : Nat) (v1 : Int32) (v2 : Int32) (w0 : Int32) (w1 : Nat) (τ : mx_S), f_X12_plate_D74 P v0 v1 v2 w0 w1 τ = some (r, σ') → ∀ (H : Heap) (locs : List Loc), mx_J G P s.heap (mxz σ) (mxu σ) τ H locs → ∀ ls : Array Slot, lv_has ls 10 [(0, .ref v0), (1, .int v1), (2, .int v2)] → W p l e (mx_rm P 4 99 σ) s m ([.ref a0, .int p1, .int p2] : List Value).toArray below meth c H locs (mxz τ - mxz σ) (mxu τ - mxu σ) (mx_Z below G P (some (.long r)) σ σ' [.ref a0, .int p1, .int p2] s) (F0 m 74 ls [.int w0, .ref w1]) := by
    intro v0 v1 v2 w0 w1 τ hf _ _ hJ ls hl
    unfold f_X12_plate_D74 at hf
    obtain ⟨σ11, e12, hf⟩ := mb0 hf
    refine my_pI hx hb hts hown hK hJ fd_RX12_243 cd_12 (Or.inl rfl) ht_12_0 e12 dX12_plate_74 (fun H locs hJ => ?_)
    refine lv_aload_n hx hb dX12_plate_77 rfl (lv_at hl 0 rfl) ?_
    obtain ⟨x13, e14, hf⟩ := mb0 hf
    refine my_gI hx hb hts hown hK hJ fd_RX12_243 hv_12_0 e14 dX12_plate_78 ?_
    refine lv_if_le (tgt := 86) hx hb dX12_plate_81 (by decide) (fun c15 => ?_) (fun c15 => ?_)
    · rw [if_pos c15] at hf
      refine lv_iload_n hx hb dX12_plate_86 rfl (lv_at hl 2 rfl) ?_
      refine lv_if_ne (tgt := 97) hx hb dX12_plate_87 (by decide) (fun c16 => ?_) (fun c16 => ?_)
      · rw [if_neg c16] at hf
        refine lv_iload_n hx hb dX12_plate_97 rfl (lv_at hl 2 rfl) ?_
        refine lv_bipush (v := 6) hx hb dX12_plate_98 (by decide) ?_
        refine lv_icmp_le (tgt := 120) hx hb dX12_plate_100 (by decide) (fun c17 => ?_) (fun c17 => ?_)
        · rw [if_pos c17] at hf
          refine lv_iload_n hx hb dX12_plate_120 rfl (lv_at hl 2 rfl) ?_
          refine lv_iconst (v := 5) hx hb dX12_plate_121 (by decide) ?_
          refine lv_icmp_ge (tgt := 143) hx hb dX12_plate_122 (by decide) (fun c18 => ?_) (fun c18 => ?_)
          · rw [if_pos c18] at hf
            refine lv_aload_n hx hb dX12_plate_143 rfl (lv_at hl 0 rfl) ?_
            refine lv_iload_n hx hb dX12_plate_144 rfl (lv_at hl 1 rfl) ?_
            refine lv_iconst (v := 3) hx hb dX12_plate_145 (by decide) ?_
            obtain ⟨i19, e20, hf⟩ := mb0 hf
            obtain ⟨x22, σ21, e23, hf⟩ := mc0 hf
            refine mx_callV (As := [.int v1, .int (3 : Int32)]) (rest := []) hx hb hml hts hown hK hJ rfl rfl (ci := 12) rfl e20 (c_X12_plateSum l G P v0 v1 (3 : Int32) σ11 x22 σ21 e23) me_X12_plateSum kw_2761 ks_163 kw_2759 (Nat.le_of_ble_eq_true rfl) (Nat.le_of_ble_eq_true rfl) rfl hl.1 rfl (Nat.le_of_ble_eq_true rfl) dX12_plate_146 (fun H locs hJ => ?_)
            exact D149 v0 v1 v2 x22 σ21 hf _ _ hJ ls (lv_sub hl [0, 1, 2] rfl)
          · rw [if_neg c18] at hf
            refine lv_aload_n hx hb dX12_plate_125 rfl (lv_at hl 0 rfl) ?_
            refine lv_iload_n hx hb dX12_plate_126 rfl (lv_at hl 1 rfl) ?_
            refine lv_iload_n hx hb dX12_plate_127 rfl (lv_at hl 2 rfl) ?_
            refine lv_iconst (v := 3) hx hb dX12_plate_128 (by decide) ?_
            refine lv_icmp_ge (tgt := 136) hx hb dX12_plate_129 (by decide) (fun c45 => ?_) (fun c45 => ?_)
            · rw [if_pos c45] at hf
              refine lv_iconst (v := 2) hx hb dX12_plate_136 (by decide) ?_
              exact D137 v0 v1 v2 (2 : Int32) v1 v0 σ11 hf _ _ hJ ls (lv_sub hl [0, 1, 2] rfl)
            · rw [if_neg c45] at hf
              refine lv_iconst (v := 1) hx hb dX12_plate_132 (by decide) ?_
              refine lv_goto (tgt := 137) hx hb dX12_plate_133 (by decide) ?_
              exact D137 v0 v1 v2 (1 : Int32) v1 v0 σ11 hf _ _ hJ ls (lv_sub hl [0, 1, 2] rfl)
        · rw [if_neg c17] at hf
          refine lv_aload_n hx hb dX12_plate_103 rfl (lv_at hl 0 rfl) ?_
          refine lv_iload_n hx hb dX12_plate_104 rfl (lv_at hl 1 rfl) ?_
          refine lv_iload_n hx hb dX12_plate_105 rfl (lv_at hl 2 rfl) ?_
          refine lv_bipush (v := 7) hx hb dX12_plate_106 (by decide) ?_
          refine lv_icmp_ne (tgt := 115) hx hb dX12_plate_108 (by decide) (fun c51 => ?_) (fun c51 => ?_)
          · rw [if_neg c51] at hf
            refine lv_iconst (v := 0) hx hb dX12_plate_115 (by decide) ?_
            exact D116 (0 : Int32) v1 v0 σ11 hf _ _ hJ ls (lv_sub hl [] rfl)
          · rw [if_pos c51] at hf
            refine lv_iconst (v := 1) hx hb dX12_plate_111 (by decide) ?_
            refine lv_goto (tgt := 116) hx hb dX12_plate_112 (by decide) ?_
            exact D116 (1 : Int32) v1 v0 σ11 hf _ _ hJ ls (lv_sub hl [] rfl)
      · rw [if_pos c16] at hf
        refine lv_aload_n hx hb dX12_plate_90 rfl (lv_at hl 0 rfl) ?_
        refine lv_iload_n hx hb dX12_plate_91 rfl (lv_at hl 1 rfl) ?_
        refine lv_iconst (v := 0) hx hb dX12_plate_92 (by decide) ?_
        obtain ⟨i57, e58, hf⟩ := mb0 hf
        obtain ⟨x60, σ59, e61, hf⟩ := mc0 hf
        refine mx_callV (As := [.int v1, .int (0 : Int32)]) (rest := []) hx hb hml hts hown hK hJ rfl rfl (ci := 12) rfl e58 (c_X12_plateSum l G P v0 v1 (0 : Int32) σ11 x60 σ59 e61) me_X12_plateSum kw_2761 ks_163 kw_2759 (Nat.le_of_ble_eq_true rfl) (Nat.le_of_ble_eq_true rfl) rfl hl.1 rfl (Nat.le_of_ble_eq_true rfl) dX12_plate_93 (fun H locs hJ => ?_)
        exact my_lret hx hb hr hlocks hJ hf dX12_plate_96
    · rw [if_neg c15] at hf
      refine lv_lconst (v := 0) hx hb dX12_plate_84 (by decide) ?_
      exact my_lret hx hb hr hlocks hJ hf dX12_plate_85
  have D69 : ∀ (v0 : Nat) (v1 : Int32) (v2 : Int32) (w0 : Nat) (τ : mx_S), f_X12_plate_D69 P v0 v1 v2 w0 τ = some (r, σ') → ∀ (H : Heap) (locs : List Loc), mx_J G P s.heap (mxz σ) (mxu σ) τ H locs → ∀ ls : Array Slot, lv_has ls 10 [(0, .ref v0), (1, .int v1), (2, .int v2)] → W p l e (mx_rm P 4 99 σ) s m ([.ref a0, .int p1, .int p2] : List Value).toArray below meth c H locs (mxz τ - mxz σ) (mxu τ - mxu σ) (mx_Z below G P (some (.long r)) σ σ' [.ref a0, .int p1, .int p2] s) (F0 m 69 ls [.ref w0]) := by
    intro v0 v1 v2 w0 τ hf _ _ hJ ls hl
    unfold f_X12_plate_D69 at hf
    refine lv_iconst (v := 2) hx hb dX12_plate_69 (by decide) ?_
    refine lv_goto (tgt := 74) hx hb dX12_plate_70 (by decide) ?_
    exact D74 v0 v1 v2 (2 : Int32) w0 τ hf _ _ hJ ls (lv_sub hl [0, 1, 2] rfl)
  have D73 : ∀ (v0 : Nat) (v1 : Int32) (v2 : Int32) (w0 : Nat) (τ : mx_S), f_X12_plate_D73 P v0 v1 v2 w0 τ = some (r, σ') → ∀ (H : Heap) (locs : List Loc), mx_J G P s.heap (mxz σ) (mxu σ) τ H locs → ∀ ls : Array Slot, lv_has ls 10 [(0, .ref v0), (1, .int v1), (2, .int v2)] → W p l e (mx_rm P 4 99 σ) s m ([.ref a0, .int p1, .int p2] : List Value).toArray below meth c H locs (mxz τ - mxz σ) (mxu τ - mxu σ) (mx_Z below G P (some (.long r)) σ σ' [.ref a0, .int p1, .int p2] s) (F0 m 73 ls [.ref w0]) := by
    intro v0 v1 v2 w0 τ hf _ _ hJ ls hl
    unfold f_X12_plate_D73 at hf
    refine lv_iconst (v := 0) hx hb dX12_plate_73 (by decide) ?_
    exact D74 v0 v1 v2 (0 : Int32) w0 τ hf _ _ hJ ls (lv_sub hl [0, 1, 2] rfl)
  have D29 : ∀ (v0 : Nat) (v1 : Int32) (v2 : Int32) (w0 : Int32) (τ : mx_S), f_X12_plate_D29 P v0 v1 v2 w0 τ = some (r, σ') → ∀ (H : Heap) (locs : List Loc), mx_J G P s.heap (mxz σ) (mxu σ) τ H locs → ∀ ls : Array Slot, lv_has ls 10 [(0, .ref v0), (1, .int v1), (2, .int v2)] → W p l e (mx_rm P 4 99 σ) s m ([.ref a0, .int p1, .int p2] : List Value).toArray below meth c H locs (mxz τ - mxz σ) (mxu τ - mxu σ) (mx_Z below G P (some (.long r)) σ σ' [.ref a0, .int p1, .int p2] s) (F0 m 29 ls [.int w0]) := by
    intro v0 v1 v2 w0 τ hf _ _ hJ ls hl
    unfold f_X12_plate_D29 at hf
    refine lv_istore_n (lv' := [(3, .int w0), (0, .ref v0), (1, .int v1), (2, .int v2)]) hx hb dX12_plate_29 rfl hl (by decide) rfl (fun ls hl => ?_)
    refine lv_aload_n hx hb dX12_plate_30 rfl (lv_at hl 1 rfl) ?_
    refine lv_iload_n hx hb dX12_plate_31 rfl (lv_at hl 0 rfl) ?_
    refine lv_if_ne (tgt := 39) hx hb dX12_plate_32 (by decide) (fun c5 => ?_) (fun c5 => ?_)
    · rw [if_neg c5] at hf
      refine lv_aload_n hx hb dX12_plate_39 rfl (lv_at hl 1 rfl) ?_
      obtain ⟨b6, e7, hf⟩ := mb0 hf
      refine my_gR hx hb hts hown hK hJ fd_RX12_186 hv_12_86 e7 dX12_plate_40 ?_
      refine lv_iload_n hx hb dX12_plate_43 rfl (lv_at hl 2 rfl) ?_
      obtain ⟨x8, e9, hf⟩ := mb0 hf
      refine mx_aI hx hb hK hJ e9 dX12_plate_44 ?_
      refine lv_iconst (v := 3) hx hb dX12_plate_45 (by decide) ?_
      refine lv_icmp_lt (tgt := 69) hx hb dX12_plate_46 (by decide) (fun c10 => ?_) (fun c10 => ?_)
      · rw [if_pos c10] at hf
        exact D69 v0 v1 v2 v0 τ hf _ _ hJ ls (lv_sub hl [1, 2, 3] rfl)
      · rw [if_neg c10] at hf
        refine lv_iload_n hx hb dX12_plate_49 rfl (lv_at hl 3 rfl) ?_
        refine lv_if_le (tgt := 73) hx hb dX12_plate_50 (by decide) (fun c62 => ?_) (fun c62 => ?_)
        · rw [if_pos c62] at hf
          exact D73 v0 v1 v2 v0 τ hf _ _ hJ ls (lv_sub hl [1, 2, 3] rfl)
        · rw [if_neg c62] at hf
          refine lv_iload_n hx hb dX12_plate_53 rfl (lv_at hl 3 rfl) ?_
          refine lv_iconst (v := 5) hx hb dX12_plate_54 (by decide) ?_
          refine lv_icmp_ge (tgt := 73) hx hb dX12_plate_55 (by decide) (fun c63 => ?_) (fun c63 => ?_)
          · rw [if_pos c63] at hf
            exact D73 v0 v1 v2 v0 τ hf _ _ hJ ls (lv_sub hl [1, 2, 3] rfl)
          · rw [if_neg c63] at hf
            refine lv_aload_n hx hb dX12_plate_58 rfl (lv_at hl 1 rfl) ?_
            refine lv_iload_n hx hb dX12_plate_59 rfl (lv_at hl 2 rfl) ?_
            refine lv_iconst (v := 0) hx hb dX12_plate_60 (by decide) ?_
            obtain ⟨i64, e65, hf⟩ := mb0 hf
            obtain ⟨x67, σ66, e68, hf⟩ := mc0 hf
            refine mx_callV (As := [.int v1, .int (0 : Int32)]) (rest := [.ref v0]) hx hb hml hts hown hK hJ rfl rfl (ci := 12) rfl e65 (c_X12_plateSum l G P v0 v1 (0 : Int32) τ x67 σ66 e68) me_X12_plateSum kw_2761 ks_163 kw_2759 (Nat.le_of_ble_eq_true rfl) (Nat.le_of_ble_eq_true rfl) rfl hl.1 rfl (Nat.le_of_ble_eq_true rfl) dX12_plate_61 (fun H locs hJ => ?_)
            refine lv_lconst (v := 0) hx hb dX12_plate_64 (by decide) ?_
            refine W.lcmp hx hb dX12_plate_65 ?_
            refine lv_if_ne (tgt := 73) hx hb dX12_plate_66 (by decide) (fun c69 => ?_) (fun c69 => ?_)
            · rw [if_neg c69] at hf
              exact D73 v0 v1 v2 v0 σ66 hf _ _ hJ ls (lv_sub hl [1, 2, 3] rfl)
            · rw [if_pos c69] at hf
              exact D69 v0 v1 v2 v0 σ66 hf _ _ hJ ls (lv_sub hl [1, 2, 3] rfl)
    · rw [if_pos c5] at hf
      refine lv_iconst (v := 1) hx hb dX12_plate_35 (by decide) ?_
      refine lv_goto (tgt := 74) hx hb dX12_plate_36 (by decide) ?_
      exact D74 v0 v1 v2 (1 : Int32) v0 τ hf _ _ hJ ls (lv_sub hl [1, 2, 3] rfl)
  have D28 : ∀ (v0 : Nat) (v1 : Int32) (v2 : Int32) (τ : mx_S), f_X12_plate_D28 P v0 v1 v2 τ = some (r, σ') → ∀ (H : Heap) (locs : List Loc), mx_J G P s.heap (mxz σ) (mxu σ) τ H locs → ∀ ls : Array Slot, lv_has ls 10 [(0, .ref v0), (1, .int v1), (2, .int v2)] → W p l e (mx_rm P 4 99 σ) s m ([.ref a0, .int p1, .int p2] : List Value).toArray below meth c H locs (mxz τ - mxz σ) (mxu τ - mxu σ) (mx_Z below G P (some (.long r)) σ σ' [.ref a0, .int p1, .int p2] s) (F0 m 28 ls []) := by
    intro v0 v1 v2 τ hf _ _ hJ ls hl
    unfold f_X12_plate_D28 at hf
    refine lv_iconst (v := 0) hx hb dX12_plate_28 (by decide) ?_
    exact D29 v0 v1 v2 (0 : Int32) τ hf _ _ hJ ls (lv_sub hl [0, 1, 2] rfl)
  unfold f_X12_plate at hf
  refine lv_iload_n hx hb dX12_plate_0 rfl (lv_at hl 1 rfl) ?_
  refine lv_i2l hx hb dX12_plate_1 rfl ?_
  refine lv_lconst (v := 0) hx hb dX12_plate_2 (by decide) ?_
  refine lv_ldc2 hx hb hown (hts _ kw_2750) dX12_plate_3 ?_
  obtain ⟨x2, σ1, e3, hf⟩ := mc0 hf
  refine mx_callS (As := [.long (p1.toInt64), .long (0 : Int64), .long (7 : Int64)]) (rest := []) hx hb hml hts hown hK hJ rfl rfl (c_X12_in l G P (p1.toInt64) (0 : Int64) (7 : Int64) σ x2 σ1 e3) me_X12_in kw_2223 kw_2222 (Nat.le_of_ble_eq_true rfl) (Nat.le_of_ble_eq_true rfl) rfl hl.1 rfl (Nat.le_of_ble_eq_true rfl) dX12_plate_6 (fun H locs hJ => ?_)
  refine lv_if_eq (tgt := 28) hx hb dX12_plate_9 (by decide) (fun c4 => ?_) (fun c4 => ?_)
  · rw [if_pos c4] at hf
    exact D28 a0 p1 p2 σ1 hf _ _ hJ ls (lv_sub hl [0, 1, 2] rfl)
  · rw [if_neg c4] at hf
    refine lv_iload_n hx hb dX12_plate_12 rfl (lv_at hl 2 rfl) ?_
    refine lv_i2l hx hb dX12_plate_13 rfl ?_
    refine lv_lconst (v := 0) hx hb dX12_plate_14 (by decide) ?_
    refine lv_ldc2 hx hb hown (hts _ kw_2674) dX12_plate_15 ?_
    obtain ⟨x71, σ70, e72, hf⟩ := mc0 hf
    refine mx_callS (As := [.long (p2.toInt64), .long (0 : Int64), .long (8 : Int64)]) (rest := []) hx hb hml hts hown hK hJ rfl rfl (c_X12_in l G P (p2.toInt64) (0 : Int64) (8 : Int64) σ1 x71 σ70 e72) me_X12_in kw_2223 kw_2222 (Nat.le_of_ble_eq_true rfl) (Nat.le_of_ble_eq_true rfl) rfl hl.1 rfl (Nat.le_of_ble_eq_true rfl) dX12_plate_18 (fun H locs hJ => ?_)
    refine lv_if_eq (tgt := 28) hx hb dX12_plate_21 (by decide) (fun c73 => ?_) (fun c73 => ?_)
    · rw [if_pos c73] at hf
      exact D28 a0 p1 p2 σ70 hf _ _ hJ ls (lv_sub hl [0, 1, 2] rfl)
    · rw [if_neg c73] at hf
      refine lv_iconst (v := 1) hx hb dX12_plate_24 (by decide) ?_
      refine lv_goto (tgt := 29) hx hb dX12_plate_25 (by decide) ?_
      exact D29 a0 p1 p2 (1 : Int32) σ70 hf _ _ hJ ls (lv_sub hl [0, 1, 2] rfl)
set_option maxHeartbeats 4000000 in
set_option maxRecDepth 100000 in
theorem c_X12_insideOf (l : Launch) (G : mx_G) (P : mx_P) (a0 : Nat) (p1 : Int32) (p2 : Int64) (p4 : Int64) (σ : mx_S) (r : Int32) (σ' : mx_S) (hf : f_X12_insideOf P a0 p1 p2 p4 σ = some (r, σ')) : mxz σ ≤ mpc P → mxu σ ≤ mps P → mx_M l yX12_insideOf cX12_insideOf 19 (some .int) 1 23 G P [.ref a0, .int p1, .long p2, .long p4] σ (some (.int r)) σ' := by
  intro hcap hcau
  refine mx_ofW (by decide +kernel) hcap hcau (Nat.le_of_ble_eq_true rfl) ?_
  intro p e s m below meth c hx hb hr hml hts hown hlocks hname hK hJ ls hl
  have hz0 := hJ.2.1
  have hown : s.vm.findClass RX12 = some m.cls := hown
  have hl : lv_has ls 19 [(0, .ref a0), (1, .int p1), (2, .long p2), (4, .long p4)] := hl
  have D220_6 : ∀ (v0 : Nat) (v1 : Int32) (v2 : Int64) (v4 : Int64) (v6 : Int32) (v7 : Int32) (τ : mx_S) (o : (Int32 × Int32 × mx_S) ⊕ ((mx_S) ⊕ (Int32 × mx_S))), f_X12_insideOf_D220_6 P v0 v1 v2 v4 v6 v7 τ = some o → (∀ (y6 : Int32) (y7 : Int32) (υ : mx_S), o = .inl (y6, y7, υ) → ∀ (H : Heap) (locs : List Loc), mx_J G P s.heap (mxz σ) (mxu σ) υ H locs → ∀ ls : Array Slot, lv_has ls 19 [(0, .ref v0), (1, .int v1), (2, .long v2), (4, .long v4), (6, .int y6), (7, .int y7)] → W p l e (mx_rm P 1 23 σ) s m ([.ref a0, .int p1, .long p2, .long p4] : List Value).toArray below meth c H locs (mxz υ - mxz σ) (mxu υ - mxu σ) (mx_Z below G P (some (.int r)) σ σ' [.ref a0, .int p1, .long p2, .long p4] s) (F0 m 6 ls [])) → (∀  (υ : mx_S), o = .inr (.inl υ) → ∀ (H : Heap) (locs : List Loc), mx_J G P s.heap (mxz σ) (mxu σ) υ H locs → ∀ ls : Array Slot, lv_has ls 19 [] → W p l e (mx_rm P 1 23 σ) s m ([.ref a0, .int p1, .long p2, .long p4] : List Value).toArray below meth c H locs (mxz υ - mxz σ) (mxu υ - mxu σ) (mx_Z below G P (some (.int r)) σ σ' [.ref a0, .int p1, .long p2, .long p4] s) (F0 m 166 ls [])) → (∀ (y6 : Int32) (υ : mx_S), o = .inr (.inr (y6, υ)) → ∀ (H : Heap) (locs : List Loc), mx_J G P s.heap (mxz σ) (mxu σ) υ H locs → ∀ ls : Array Slot, lv_has ls 19 [(6, .int y6)] → W p l e (mx_rm P 1 23 σ) s m ([.ref a0, .int p1, .long p2, .long p4] : List Value).toArray below meth c H locs (mxz υ - mxz σ) (mxu υ - mxu σ) (mx_Z below G P (some (.int r)) σ σ' [.ref a0, .int p1, .long p2, .long p4] s) (F0 m 226 ls [])) → ∀ (H : Heap) (locs : List Loc), mx_J G P s.heap (mxz σ) (mxu σ) τ H locs → ∀ ls : Array Slot, lv_has ls 19 [(0, .ref v0), (1, .int v1), (2, .long v2), (4, .long v4), (6, .int v6), (7, .int v7)] → W p l e (mx_rm P 1 23 σ) s m ([.ref a0, .int p1, .long p2, .long p4] : List Value).toArray below meth c H locs (mxz τ - mxz σ) (mxu τ - mxu σ) (mx_Z below G P (some (.int r)) σ σ' [.ref a0, .int p1, .long p2, .long p4] s) (F0 m 220 ls []) := by
    intro v0 v1 v2 v4 v6 v7 τ o hf Kb Ke0 Ke1 H locs hJ ls hl
    unfold f_X12_insideOf_D220_6 at hf
    obtain ⟨x41, e42, hf⟩ := mb0 hf
    refine lv_iinc (v := x41) (lv' := [(7, .int x41), (0, .ref v0), (1, .int v1), (2, .long v2), (4, .long v4), (6, .int v6)]) hx hb dX12_insideOf_220 hl (k := 5) rfl (by rw [← Option.some.inj e42]; rfl) (by decide) rfl (fun ls hl => ?_)
    refine lv_goto (tgt := 6) hx hb dX12_insideOf_223 (by decide) ?_
    exact Kb v6 x41 τ (Option.some.inj hf).symm _ _ hJ ls (lv_sub hl [1, 2, 3, 4, 5, 0] rfl)
  have D194_6 : ∀ (v0 : Nat) (v1 : Int32) (v2 : Int64) (v4 : Int64) (v6 : Int32) (v7 : Int32) (v10 : Int64) (v14 : Int64) (v16 : Int64) (τ : mx_S) (o : (Int32 × Int32 × mx_S) ⊕ ((mx_S) ⊕ (Int32 × mx_S))), f_X12_insideOf_D194_6 P v0 v1 v2 v4 v6 v7 v10 v14 v16 τ = some o → (∀ (y6 : Int32) (y7 : Int32) (υ : mx_S), o = .inl (y6, y7, υ) → ∀ (H : Heap) (locs : List Loc), mx_J G P s.heap (mxz σ) (mxu σ) υ H locs → ∀ ls : Array Slot, lv_has ls 19 [(0, .ref v0), (1, .int v1), (2, .long v2), (4, .long v4), (6, .int y6), (7, .int y7)] → W p l e (mx_rm P 1 23 σ) s m ([.ref a0, .int p1, .long p2, .long p4] : List Value).toArray below meth c H locs (mxz υ - mxz σ) (mxu υ - mxu σ) (mx_Z below G P (some (.int r)) σ σ' [.ref a0, .int p1, .long p2, .long p4] s) (F0 m 6 ls [])) → (∀  (υ : mx_S), o = .inr (.inl υ) → ∀ (H : Heap) (locs : List Loc), mx_J G P s.heap (mxz σ) (mxu σ) υ H locs → ∀ ls : Array Slot, lv_has ls 19 [] → W p l e (mx_rm P 1 23 σ) s m ([.ref a0, .int p1, .long p2, .long p4] : List Value).toArray below meth c H locs (mxz υ - mxz σ) (mxu υ - mxu σ) (mx_Z below G P (some (.int r)) σ σ' [.ref a0, .int p1, .long p2, .long p4] s) (F0 m 166 ls [])) → (∀ (y6 : Int32) (υ : mx_S), o = .inr (.inr (y6, υ)) → ∀ (H : Heap) (locs : List Loc), mx_J G P s.heap (mxz σ) (mxu σ) υ H locs → ∀ ls : Array Slot, lv_has ls 19 [(6, .int y6)] → W p l e (mx_rm P 1 23 σ) s m ([.ref a0, .int p1, .long p2, .long p4] : List Value).toArray below meth c H locs (mxz υ - mxz σ) (mxu υ - mxu σ) (mx_Z below G P (some (.int r)) σ σ' [.ref a0, .int p1, .long p2, .long p4] s) (F0 m 226 ls [])) → ∀ (H : Heap) (locs : List Loc), mx_J G P s.heap (mxz σ) (mxu σ) τ H locs → ∀ ls : Array Slot, lv_has ls 19 [(0, .ref v0), (1, .int v1), (2, .long v2), (4, .long v4), (6, .int v6), (7, .int v7), (10, .long v10), (14, .long v14), (16, .long v16)] → W p l e (mx_rm P 1 23 σ) s m ([.ref a0, .int p1, .long p2, .long p4] : List Value).toArray below meth c H locs (mxz τ - mxz σ) (mxu τ - mxu σ) (mx_Z below G P (some (.int r)) σ σ' [.ref a0, .int p1, .long p2, .long p4] s) (F0 m 194 ls []) := by
    intro v0 v1 v2 v4 v6 v7 v10 v14 v16 τ o hf Kb Ke0 Ke1 H locs hJ ls hl
    unfold f_X12_insideOf_D194_6 at hf
    refine lv_lload hx hb dX12_insideOf_194 (lv_at hl 6 rfl) ?_
    refine lv_lload hx hb dX12_insideOf_196 (lv_at hl 3 rfl) ?_
    refine W.lcmp hx hb dX12_insideOf_198 ?_
    refine lv_if_le (tgt := 220) hx hb dX12_insideOf_199 (by decide) (fun c40 => ?_) (fun c40 => ?_)
    · rw [if_pos c40] at hf
      exact D220_6 v0 v1 v2 v4 v6 v7 τ o hf Kb Ke0 Ke1 _ _ hJ ls (lv_sub hl [0, 1, 2, 3, 4, 5] rfl)
    · rw [if_neg c40] at hf
      refine lv_lload hx hb dX12_insideOf_202 (lv_at hl 7 rfl) ?_
      refine lv_lload hx hb dX12_insideOf_204 (lv_at hl 3 rfl) ?_
      refine W.lcmp hx hb dX12_insideOf_206 ?_
      refine lv_if_gt (tgt := 220) hx hb dX12_insideOf_207 (by decide) (fun c43 => ?_) (fun c43 => ?_)
      · rw [if_pos c43] at hf
        exact D220_6 v0 v1 v2 v4 v6 v7 τ o hf Kb Ke0 Ke1 _ _ hJ ls (lv_sub hl [0, 1, 2, 3, 4, 5] rfl)
      · rw [if_neg c43] at hf
        refine lv_lload hx hb dX12_insideOf_210 (lv_at hl 8 rfl) ?_
        refine lv_lconst (v := 0) hx hb dX12_insideOf_212 (by decide) ?_
        refine W.lcmp hx hb dX12_insideOf_213 ?_
        refine lv_if_ge (tgt := 220) hx hb dX12_insideOf_214 (by decide) (fun c44 => ?_) (fun c44 => ?_)
        · rw [if_pos c44] at hf
          exact D220_6 v0 v1 v2 v4 v6 v7 τ o hf Kb Ke0 Ke1 _ _ hJ ls (lv_sub hl [0, 1, 2, 3, 4, 5] rfl)
        · rw [if_neg c44] at hf
          obtain ⟨x45, e46, hf⟩ := mb0 hf
          refine lv_iinc (v := x45) (lv' := [(6, .int x45), (0, .ref v0), (1, .int v1), (2, .long v2), (4, .long v4), (7, .int v7), (10, .long v10), (14, .long v14), (16, .long v16)]) hx hb dX12_insideOf_217 hl (k := 4) rfl (by rw [← Option.some.inj e46]; rfl) (by decide) rfl (fun ls hl => ?_)
          exact D220_6 v0 v1 v2 v4 x45 v7 τ o hf Kb Ke0 Ke1 _ _ hJ ls (lv_sub hl [1, 2, 3, 4, 0, 5] rfl)
  have D168_6 : ∀ (v0 : Nat) (v1 : Int32) (v2 : Int64) (v4 : Int64) (v6 : Int32) (v7 : Int32) (v10 : Int64) (v14 : Int64) (v16 : Int64) (τ : mx_S) (o : (Int32 × Int32 × mx_S) ⊕ ((mx_S) ⊕ (Int32 × mx_S))), f_X12_insideOf_D168_6 P v0 v1 v2 v4 v6 v7 v10 v14 v16 τ = some o → (∀ (y6 : Int32) (y7 : Int32) (υ : mx_S), o = .inl (y6, y7, υ) → ∀ (H : Heap) (locs : List Loc), mx_J G P s.heap (mxz σ) (mxu σ) υ H locs → ∀ ls : Array Slot, lv_has ls 19 [(0, .ref v0), (1, .int v1), (2, .long v2), (4, .long v4), (6, .int y6), (7, .int y7)] → W p l e (mx_rm P 1 23 σ) s m ([.ref a0, .int p1, .long p2, .long p4] : List Value).toArray below meth c H locs (mxz υ - mxz σ) (mxu υ - mxu σ) (mx_Z below G P (some (.int r)) σ σ' [.ref a0, .int p1, .long p2, .long p4] s) (F0 m 6 ls [])) → (∀  (υ : mx_S), o = .inr (.inl υ) → ∀ (H : Heap) (locs : List Loc), mx_J G P s.heap (mxz σ) (mxu σ) υ H locs → ∀ ls : Array Slot, lv_has ls 19 [] → W p l e (mx_rm P 1 23 σ) s m ([.ref a0, .int p1, .long p2, .long p4] : List Value).toArray below meth c H locs (mxz υ - mxz σ) (mxu υ - mxu σ) (mx_Z below G P (some (.int r)) σ σ' [.ref a0, .int p1, .long p2, .long p4] s) (F0 m 166 ls [])) → (∀ (y6 : Int32) (υ : mx_S), o = .inr (.inr (y6, υ)) → ∀ (H : Heap) (locs : List Loc), mx_J G P s.heap (mxz σ) (mxu σ) υ H locs → ∀ ls : Array Slot, lv_has ls 19 [(6, .int y6)] → W p l e (mx_rm P 1 23 σ) s m ([.ref a0, .int p1, .long p2, .long p4] : List Value).toArray below meth c H locs (mxz υ - mxz σ) (mxu υ - mxu σ) (mx_Z below G P (some (.int r)) σ σ' [.ref a0, .int p1, .long p2, .long p4] s) (F0 m 226 ls [])) → ∀ (H : Heap) (locs : List Loc), mx_J G P s.heap (mxz σ) (mxu σ) τ H locs → ∀ ls : Array Slot, lv_has ls 19 [(0, .ref v0), (1, .int v1), (2, .long v2), (4, .long v4), (6, .int v6), (7, .int v7), (10, .long v10), (14, .long v14), (16, .long v16)] → W p l e (mx_rm P 1 23 σ) s m ([.ref a0, .int p1, .long p2, .long p4] : List Value).toArray below meth c H locs (mxz τ - mxz σ) (mxu τ - mxu σ) (mx_Z below G P (some (.int r)) σ σ' [.ref a0, .int p1, .long p2, .long p4] s) (F0 m 168 ls []) := by
    intro v0 v1 v2 v4 v6 v7 v10 v14 v16 τ o hf Kb Ke0 Ke1 H locs hJ ls hl
    unfold f_X12_insideOf_D168_6 at hf
    refine lv_lload hx hb dX12_insideOf_168 (lv_at hl 6 rfl) ?_
    refine lv_lload hx hb dX12_insideOf_170 (lv_at hl 3 rfl) ?_
    refine W.lcmp hx hb dX12_insideOf_172 ?_
    refine lv_if_gt (tgt := 194) hx hb dX12_insideOf_173 (by decide) (fun c39 => ?_) (fun c39 => ?_)
    · rw [if_pos c39] at hf
      exact D194_6 v0 v1 v2 v4 v6 v7 v10 v14 v16 τ o hf Kb Ke0 Ke1 _ _ hJ ls (lv_sub hl [0, 1, 2, 3, 4, 5, 6, 7, 8] rfl)
    · rw [if_neg c39] at hf
      refine lv_lload hx hb dX12_insideOf_176 (lv_at hl 7 rfl) ?_
      refine lv_lload hx hb dX12_insideOf_178 (lv_at hl 3 rfl) ?_
      refine W.lcmp hx hb dX12_insideOf_180 ?_
      refine lv_if_le (tgt := 194) hx hb dX12_insideOf_181 (by decide) (fun c47 => ?_) (fun c47 => ?_)
      · rw [if_pos c47] at hf
        exact D194_6 v0 v1 v2 v4 v6 v7 v10 v14 v16 τ o hf Kb Ke0 Ke1 _ _ hJ ls (lv_sub hl [0, 1, 2, 3, 4, 5, 6, 7, 8] rfl)
      · rw [if_neg c47] at hf
        refine lv_lload hx hb dX12_insideOf_184 (lv_at hl 8 rfl) ?_
        refine lv_lconst (v := 0) hx hb dX12_insideOf_186 (by decide) ?_
        refine W.lcmp hx hb dX12_insideOf_187 ?_
        refine lv_if_le (tgt := 194) hx hb dX12_insideOf_188 (by decide) (fun c48 => ?_) (fun c48 => ?_)
        · rw [if_pos c48] at hf
          exact D194_6 v0 v1 v2 v4 v6 v7 v10 v14 v16 τ o hf Kb Ke0 Ke1 _ _ hJ ls (lv_sub hl [0, 1, 2, 3, 4, 5, 6, 7, 8] rfl)
        · rw [if_neg c48] at hf
          obtain ⟨x49, e50, hf⟩ := mb0 hf
          refine lv_iinc (v := x49) (lv' := [(6, .int x49), (0, .ref v0), (1, .int v1), (2, .long v2), (4, .long v4), (7, .int v7), (10, .long v10), (14, .long v14), (16, .long v16)]) hx hb dX12_insideOf_191 hl (k := 4) rfl (by rw [← Option.some.inj e50]; rfl) (by decide) rfl (fun ls hl => ?_)
          exact D194_6 v0 v1 v2 v4 x49 v7 v10 v14 v16 τ o hf Kb Ke0 Ke1 _ _ hJ ls (lv_sub hl [1, 2, 3, 4, 0, 5, 6, 7, 8] rfl)
  have D152_6 : ∀ (v0 : Nat) (v1 : Int32) (v2 : Int64) (v4 : Int64) (v6 : Int32) (v7 : Int32) (v10 : Int64) (v14 : Int64) (v16 : Int64) (w0 : Int32) (τ : mx_S) (o : (Int32 × Int32 × mx_S) ⊕ ((mx_S) ⊕ (Int32 × mx_S))), f_X12_insideOf_D152_6 P v0 v1 v2 v4 v6 v7 v10 v14 v16 w0 τ = some o → (∀ (y6 : Int32) (y7 : Int32) (υ : mx_S), o = .inl (y6, y7, υ) → ∀ (H : Heap) (locs : List Loc), mx_J G P s.heap (mxz σ) (mxu σ) υ H locs → ∀ ls : Array Slot, lv_has ls 19 [(0, .ref v0), (1, .int v1), (2, .long v2), (4, .long v4), (6, .int y6), (7, .int y7)] → W p l e (mx_rm P 1 23 σ) s m ([.ref a0, .int p1, .long p2, .long p4] : List Value).toArray below meth c H locs (mxz υ - mxz σ) (mxu υ - mxu σ) (mx_Z below G P (some (.int r)) σ σ' [.ref a0, .int p1, .long p2, .long p4] s) (F0 m 6 ls [])) → (∀  (υ : mx_S), o = .inr (.inl υ) → ∀ (H : Heap) (locs : List Loc), mx_J G P s.heap (mxz σ) (mxu σ) υ H locs → ∀ ls : Array Slot, lv_has ls 19 [] → W p l e (mx_rm P 1 23 σ) s m ([.ref a0, .int p1, .long p2, .long p4] : List Value).toArray below meth c H locs (mxz υ - mxz σ) (mxu υ - mxu σ) (mx_Z below G P (some (.int r)) σ σ' [.ref a0, .int p1, .long p2, .long p4] s) (F0 m 166 ls [])) → (∀ (y6 : Int32) (υ : mx_S), o = .inr (.inr (y6, υ)) → ∀ (H : Heap) (locs : List Loc), mx_J G P s.heap (mxz σ) (mxu σ) υ H locs → ∀ ls : Array Slot, lv_has ls 19 [(6, .int y6)] → W p l e (mx_rm P 1 23 σ) s m ([.ref a0, .int p1, .long p2, .long p4] : List Value).toArray below meth c H locs (mxz υ - mxz σ) (mxu υ - mxu σ) (mx_Z below G P (some (.int r)) σ σ' [.ref a0, .int p1, .long p2, .long p4] s) (F0 m 226 ls [])) → ∀ (H : Heap) (locs : List Loc), mx_J G P s.heap (mxz σ) (mxu σ) τ H locs → ∀ ls : Array Slot, lv_has ls 19 [(0, .ref v0), (1, .int v1), (2, .long v2), (4, .long v4), (6, .int v6), (7, .int v7), (10, .long v10), (14, .long v14), (16, .long v16)] → W p l e (mx_rm P 1 23 σ) s m ([.ref a0, .int p1, .long p2, .long p4] : List Value).toArray below meth c H locs (mxz τ - mxz σ) (mxu τ - mxu σ) (mx_Z below G P (some (.int r)) σ σ' [.ref a0, .int p1, .long p2, .long p4] s) (F0 m 152 ls [.int w0]) := by
    intro v0 v1 v2 v4 v6 v7 v10 v14 v16 w0 τ o hf Kb Ke0 Ke1 H locs hJ ls hl
    unfold f_X12_insideOf_D152_6 at hf
    refine lv_istore (lv' := [(18, .int w0), (0, .ref v0), (1, .int v1), (2, .long v2), (4, .long v4), (6, .int v6), (7, .int v7), (10, .long v10), (14, .long v14), (16, .long v16)]) hx hb dX12_insideOf_152 hl (by decide) rfl (fun ls hl => ?_)
    refine lv_lload hx hb dX12_insideOf_154 (lv_at hl 9 rfl) ?_
    refine lv_lconst (v := 0) hx hb dX12_insideOf_156 (by decide) ?_
    refine W.lcmp hx hb dX12_insideOf_157 ?_
    refine lv_if_ne (tgt := 168) hx hb dX12_insideOf_158 (by decide) (fun c38 => ?_) (fun c38 => ?_)
    · rw [if_neg c38] at hf
      exact D168_6 v0 v1 v2 v4 v6 v7 v10 v14 v16 τ o hf Kb Ke0 Ke1 _ _ hJ ls (lv_sub hl [1, 2, 3, 4, 5, 6, 7, 8, 9] rfl)
    · rw [if_pos c38] at hf
      refine lv_iload hx hb dX12_insideOf_161 (lv_at hl 0 rfl) ?_
      refine lv_if_eq (tgt := 168) hx hb dX12_insideOf_163 (by decide) (fun c51 => ?_) (fun c51 => ?_)
      · rw [if_pos c51] at hf
        exact D168_6 v0 v1 v2 v4 v6 v7 v10 v14 v16 τ o hf Kb Ke0 Ke1 _ _ hJ ls (lv_sub hl [1, 2, 3, 4, 5, 6, 7, 8, 9] rfl)
      · rw [if_neg c51] at hf
        exact Ke0 τ (Option.some.inj hf).symm _ _ hJ ls (lv_sub hl [] rfl)
  have D151_6 : ∀ (v0 : Nat) (v1 : Int32) (v2 : Int64) (v4 : Int64) (v6 : Int32) (v7 : Int32) (v10 : Int64) (v14 : Int64) (v16 : Int64) (τ : mx_S) (o : (Int32 × Int32 × mx_S) ⊕ ((mx_S) ⊕ (Int32 × mx_S))), f_X12_insideOf_D151_6 P v0 v1 v2 v4 v6 v7 v10 v14 v16 τ = some o → (∀ (y6 : Int32) (y7 : Int32) (υ : mx_S), o = .inl (y6, y7, υ) → ∀ (H : Heap) (locs : List Loc), mx_J G P s.heap (mxz σ) (mxu σ) υ H locs → ∀ ls : Array Slot, lv_has ls 19 [(0, .ref v0), (1, .int v1), (2, .long v2), (4, .long v4), (6, .int y6), (7, .int y7)] → W p l e (mx_rm P 1 23 σ) s m ([.ref a0, .int p1, .long p2, .long p4] : List Value).toArray below meth c H locs (mxz υ - mxz σ) (mxu υ - mxu σ) (mx_Z below G P (some (.int r)) σ σ' [.ref a0, .int p1, .long p2, .long p4] s) (F0 m 6 ls [])) → (∀  (υ : mx_S), o = .inr (.inl υ) → ∀ (H : Heap) (locs : List Loc), mx_J G P s.heap (mxz σ) (mxu σ) υ H locs → ∀ ls : Array Slot, lv_has ls 19 [] → W p l e (mx_rm P 1 23 σ) s m ([.ref a0, .int p1, .long p2, .long p4] : List Value).toArray below meth c H locs (mxz υ - mxz σ) (mxu υ - mxu σ) (mx_Z below G P (some (.int r)) σ σ' [.ref a0, .int p1, .long p2, .long p4] s) (F0 m 166 ls [])) → (∀ (y6 : Int32) (υ : mx_S), o = .inr (.inr (y6, υ)) → ∀ (H : Heap) (locs : List Loc), mx_J G P s.heap (mxz σ) (mxu σ) υ H locs → ∀ ls : Array Slot, lv_has ls 19 [(6, .int y6)] → W p l e (mx_rm P 1 23 σ) s m ([.ref a0, .int p1, .long p2, .long p4] : List Value).toArray below meth c H locs (mxz υ - mxz σ) (mxu υ - mxu σ) (mx_Z below G P (some (.int r)) σ σ' [.ref a0, .int p1, .long p2, .long p4] s) (F0 m 226 ls [])) → ∀ (H : Heap) (locs : List Loc), mx_J G P s.heap (mxz σ) (mxu σ) τ H locs → ∀ ls : Array Slot, lv_has ls 19 [(0, .ref v0), (1, .int v1), (2, .long v2), (4, .long v4), (6, .int v6), (7, .int v7), (10, .long v10), (14, .long v14), (16, .long v16)] → W p l e (mx_rm P 1 23 σ) s m ([.ref a0, .int p1, .long p2, .long p4] : List Value).toArray below meth c H locs (mxz τ - mxz σ) (mxu τ - mxu σ) (mx_Z below G P (some (.int r)) σ σ' [.ref a0, .int p1, .long p2, .long p4] s) (F0 m 151 ls []) := by
    intro v0 v1 v2 v4 v6 v7 v10 v14 v16 τ o hf Kb Ke0 Ke1 H locs hJ ls hl
    unfold f_X12_insideOf_D151_6 at hf
    refine lv_iconst (v := 0) hx hb dX12_insideOf_151 (by decide) ?_
    exact D152_6 v0 v1 v2 v4 v6 v7 v10 v14 v16 (0 : Int32) τ o hf Kb Ke0 Ke1 _ _ hJ ls (lv_sub hl [0, 1, 2, 3, 4, 5, 6, 7, 8] rfl)
  have B6 : ∀ (v0 : Nat) (v1 : Int32) (v2 : Int64) (v4 : Int64) (v6 : Int32) (v7 : Int32) (τ : mx_S) (o : (Int32 × Int32 × mx_S) ⊕ ((mx_S) ⊕ (Int32 × mx_S))), f_X12_insideOf_B6 P v0 v1 v2 v4 v6 v7 τ = some o → (∀ (y6 : Int32) (y7 : Int32) (υ : mx_S), o = .inl (y6, y7, υ) → ∀ (H : Heap) (locs : List Loc), mx_J G P s.heap (mxz σ) (mxu σ) υ H locs → ∀ ls : Array Slot, lv_has ls 19 [(0, .ref v0), (1, .int v1), (2, .long v2), (4, .long v4), (6, .int y6), (7, .int y7)] → W p l e (mx_rm P 1 23 σ) s m ([.ref a0, .int p1, .long p2, .long p4] : List Value).toArray below meth c H locs (mxz υ - mxz σ) (mxu υ - mxu σ) (mx_Z below G P (some (.int r)) σ σ' [.ref a0, .int p1, .long p2, .long p4] s) (F0 m 6 ls [])) → (∀  (υ : mx_S), o = .inr (.inl υ) → ∀ (H : Heap) (locs : List Loc), mx_J G P s.heap (mxz σ) (mxu σ) υ H locs → ∀ ls : Array Slot, lv_has ls 19 [] → W p l e (mx_rm P 1 23 σ) s m ([.ref a0, .int p1, .long p2, .long p4] : List Value).toArray below meth c H locs (mxz υ - mxz σ) (mxu υ - mxu σ) (mx_Z below G P (some (.int r)) σ σ' [.ref a0, .int p1, .long p2, .long p4] s) (F0 m 166 ls [])) → (∀ (y6 : Int32) (υ : mx_S), o = .inr (.inr (y6, υ)) → ∀ (H : Heap) (locs : List Loc), mx_J G P s.heap (mxz σ) (mxu σ) υ H locs → ∀ ls : Array Slot, lv_has ls 19 [(6, .int y6)] → W p l e (mx_rm P 1 23 σ) s m ([.ref a0, .int p1, .long p2, .long p4] : List Value).toArray below meth c H locs (mxz υ - mxz σ) (mxu υ - mxu σ) (mx_Z below G P (some (.int r)) σ σ' [.ref a0, .int p1, .long p2, .long p4] s) (F0 m 226 ls [])) → ∀ (H : Heap) (locs : List Loc), mx_J G P s.heap (mxz σ) (mxu σ) τ H locs → ∀ ls : Array Slot, lv_has ls 19 [(0, .ref v0), (1, .int v1), (2, .long v2), (4, .long v4), (6, .int v6), (7, .int v7)] → W p l e (mx_rm P 1 23 σ) s m ([.ref a0, .int p1, .long p2, .long p4] : List Value).toArray below meth c H locs (mxz τ - mxz σ) (mxu τ - mxu σ) (mx_Z below G P (some (.int r)) σ σ' [.ref a0, .int p1, .long p2, .long p4] s) (F0 m 6 ls []) := by
    intro v0 v1 v2 v4 v6 v7 τ o hf Kb Ke0 Ke1 H locs hJ ls hl
    unfold f_X12_insideOf_B6 at hf
    refine lv_iload hx hb dX12_insideOf_6 (lv_at hl 5 rfl) ?_
    refine lv_aload_n hx hb dX12_insideOf_8 rfl (lv_at hl 0 rfl) ?_
    obtain ⟨b1, e2, hf⟩ := mb0 hf
    refine my_gR hx hb hts hown hK hJ fd_RX12_186 hv_12_86 e2 dX12_insideOf_9 ?_
    refine lv_iload_n hx hb dX12_insideOf_12 rfl (lv_at hl 1 rfl) ?_
    obtain ⟨x3, e4, hf⟩ := mb0 hf
    refine mx_aI hx hb hK hJ e4 dX12_insideOf_13 ?_
    refine lv_icmp_ge (tgt := 226) hx hb dX12_insideOf_14 (by decide) (fun c5 => ?_) (fun c5 => ?_)
    · rw [if_pos c5] at hf
      exact Ke1 v6 τ (Option.some.inj hf).symm _ _ hJ ls (lv_sub hl [4] rfl)
    · rw [if_neg c5] at hf
      refine lv_aload_n hx hb dX12_insideOf_17 rfl (lv_at hl 0 rfl) ?_
      obtain ⟨b6, e7, hf⟩ := mb0 hf
      refine my_gR hx hb hts hown hK hJ fd_RX12_189 hv_12_87 e7 dX12_insideOf_18 ?_
      refine lv_bipush (v := 24) hx hb dX12_insideOf_21 (by decide) ?_
      refine lv_iload_n hx hb dX12_insideOf_23 rfl (lv_at hl 1 rfl) ?_
      refine lv_imul hx hb dX12_insideOf_24 ?_
      refine lv_iload hx hb dX12_insideOf_25 (lv_at hl 5 rfl) ?_
      refine lv_iadd hx hb dX12_insideOf_27 ?_
      obtain ⟨x8, e9, hf⟩ := mb0 hf
      refine mx_aL hx hb hK hJ e9 dX12_insideOf_28 ?_
      refine lv_lstore (lv' := [(8, .long x8), (0, .ref v0), (1, .int v1), (2, .long v2), (4, .long v4), (6, .int v6), (7, .int v7)]) hx hb dX12_insideOf_29 hl (by decide) rfl (fun ls hl => ?_)
      refine lv_aload_n hx hb dX12_insideOf_31 rfl (lv_at hl 1 rfl) ?_
      obtain ⟨b10, e11, hf⟩ := mb0 hf
      refine my_gR hx hb hts hown hK hJ fd_RX12_192 hv_12_88 e11 dX12_insideOf_32 ?_
      refine lv_bipush (v := 24) hx hb dX12_insideOf_35 (by decide) ?_
      refine lv_iload_n hx hb dX12_insideOf_37 rfl (lv_at hl 2 rfl) ?_
      refine lv_imul hx hb dX12_insideOf_38 ?_
      refine lv_iload hx hb dX12_insideOf_39 (lv_at hl 6 rfl) ?_
      refine lv_iadd hx hb dX12_insideOf_41 ?_
      obtain ⟨x12, e13, hf⟩ := mb0 hf
      refine mx_aL hx hb hK hJ e13 dX12_insideOf_42 ?_
      refine lv_lstore (lv' := [(10, .long x12), (8, .long x8), (0, .ref v0), (1, .int v1), (2, .long v2), (4, .long v4), (6, .int v6), (7, .int v7)]) hx hb dX12_insideOf_43 hl (by decide) rfl (fun ls hl => ?_)
      refine lv_aload_n hx hb dX12_insideOf_45 rfl (lv_at hl 2 rfl) ?_
      obtain ⟨b14, e15, hf⟩ := mb0 hf
      refine my_gR hx hb hts hown hK hJ fd_RX12_189 hv_12_87 e15 dX12_insideOf_46 ?_
      refine lv_aload_n hx hb dX12_insideOf_49 rfl (lv_at hl 2 rfl) ?_
      refine lv_iload_n hx hb dX12_insideOf_50 rfl (lv_at hl 3 rfl) ?_
      refine lv_iload hx hb dX12_insideOf_51 (lv_at hl 7 rfl) ?_
      obtain ⟨i16, e17, hf⟩ := mb0 hf
      obtain ⟨x19, σ18, e20, hf⟩ := mc0 hf
      refine mx_callV (As := [.int v1, .int v7]) (rest := [.ref b14]) hx hb hml hts hown hK hJ rfl rfl (ci := 12) rfl e17 (c_X12_after l G P v0 v1 v7 τ x19 σ18 e20) me_X12_after kw_2765 ks_164 kw_2763 (Nat.le_of_ble_eq_true rfl) (Nat.le_of_ble_eq_true rfl) rfl hl.1 rfl (Nat.le_of_ble_eq_true rfl) dX12_insideOf_53 (fun H locs hJ => ?_)
      obtain ⟨x21, e22, hf⟩ := mb0 hf
      refine mx_aL hx hb hK hJ e22 dX12_insideOf_56 ?_
      refine lv_lstore (lv' := [(12, .long x21), (10, .long x12), (8, .long x8), (0, .ref v0), (1, .int v1), (2, .long v2), (4, .long v4), (6, .int v6), (7, .int v7)]) hx hb dX12_insideOf_57 hl (by decide) rfl (fun ls hl => ?_)
      refine lv_aload_n hx hb dX12_insideOf_59 rfl (lv_at hl 3 rfl) ?_
      obtain ⟨b23, e24, hf⟩ := mb0 hf
      refine my_gR hx hb hts hown hK hJ fd_RX12_192 hv_12_88 e24 dX12_insideOf_60 ?_
      refine lv_aload_n hx hb dX12_insideOf_63 rfl (lv_at hl 3 rfl) ?_
      refine lv_iload_n hx hb dX12_insideOf_64 rfl (lv_at hl 4 rfl) ?_
      refine lv_iload hx hb dX12_insideOf_65 (lv_at hl 8 rfl) ?_
      obtain ⟨i25, e26, hf⟩ := mb0 hf
      obtain ⟨x28, σ27, e29, hf⟩ := mc0 hf
      refine mx_callV (As := [.int v1, .int v7]) (rest := [.ref b23]) hx hb hml hts hown hK hJ rfl rfl (ci := 12) rfl e26 (c_X12_after l G P v0 v1 v7 σ18 x28 σ27 e29) me_X12_after kw_2765 ks_164 kw_2763 (Nat.le_of_ble_eq_true rfl) (Nat.le_of_ble_eq_true rfl) rfl hl.1 rfl (Nat.le_of_ble_eq_true rfl) dX12_insideOf_67 (fun H locs hJ => ?_)
      obtain ⟨x30, e31, hf⟩ := mb0 hf
      refine mx_aL hx hb hK hJ e31 dX12_insideOf_70 ?_
      refine lv_lstore (lv' := [(14, .long x30), (12, .long x21), (10, .long x12), (8, .long x8), (0, .ref v0), (1, .int v1), (2, .long v2), (4, .long v4), (6, .int v6), (7, .int v7)]) hx hb dX12_insideOf_71 hl (by decide) rfl (fun ls hl => ?_)
      refine lv_lload hx hb dX12_insideOf_73 (lv_at hl 1 rfl) ?_
      refine lv_lload hx hb dX12_insideOf_75 (lv_at hl 3 rfl) ?_
      refine lv_lsub hx hb dX12_insideOf_77 ?_
      refine lv_lload hx hb dX12_insideOf_78 (lv_at hl 7 rfl) ?_
      refine lv_lload hx hb dX12_insideOf_80 (lv_at hl 2 rfl) ?_
      refine lv_lsub hx hb dX12_insideOf_82 ?_
      refine lv_lmul hx hb dX12_insideOf_83 ?_
      refine lv_lload hx hb dX12_insideOf_84 (lv_at hl 0 rfl) ?_
      refine lv_lload hx hb dX12_insideOf_86 (lv_at hl 2 rfl) ?_
      refine lv_lsub hx hb dX12_insideOf_88 ?_
      refine lv_lload_n hx hb dX12_insideOf_89 rfl (lv_at hl 6 rfl) ?_
      refine lv_lload hx hb dX12_insideOf_90 (lv_at hl 3 rfl) ?_
      refine lv_lsub hx hb dX12_insideOf_92 ?_
      refine lv_lmul hx hb dX12_insideOf_93 ?_
      refine lv_lsub hx hb dX12_insideOf_94 ?_
      obtain ⟨x32, e33, hf⟩ := mb0 hf
      refine mx_nL e33 ?_
      refine lv_lstore (lv' := [(16, .long x32), (14, .long x30), (12, .long x21), (10, .long x12), (8, .long x8), (0, .ref v0), (1, .int v1), (2, .long v2), (4, .long v4), (6, .int v6), (7, .int v7)]) hx hb dX12_insideOf_95 hl (by decide) rfl (fun ls hl => ?_)
      refine lv_lload hx hb dX12_insideOf_97 (lv_at hl 4 rfl) ?_
      refine lv_lload hx hb dX12_insideOf_99 (lv_at hl 2 rfl) ?_
      obtain ⟨x35, σ34, e36, hf⟩ := mc0 hf
      refine mx_callS (As := [.long x8, .long x21]) (rest := []) hx hb hml hts hown hK hJ rfl rfl (c_X12_smaller l G P x8 x21 σ27 x35 σ34 e36) me_X12_smaller kw_2410 kw_2409 (Nat.le_of_ble_eq_true rfl) (Nat.le_of_ble_eq_true rfl) rfl hl.1 rfl (Nat.le_of_ble_eq_true rfl) dX12_insideOf_101 (fun H locs hJ => ?_)
      refine lv_lload_n hx hb dX12_insideOf_104 rfl (lv_at hl 7 rfl) ?_
      refine W.lcmp hx hb dX12_insideOf_105 ?_
      refine lv_if_gt (tgt := 151) hx hb dX12_insideOf_106 (by decide) (fun c37 => ?_) (fun c37 => ?_)
      · rw [if_pos c37] at hf
        exact D151_6 v0 v1 v2 v4 v6 v7 x12 x30 x32 σ34 o hf Kb Ke0 Ke1 _ _ hJ ls (lv_sub hl [5, 6, 7, 8, 9, 10, 3, 1, 0] rfl)
      · rw [if_neg c37] at hf
        refine lv_lload_n hx hb dX12_insideOf_109 rfl (lv_at hl 7 rfl) ?_
        refine lv_lload hx hb dX12_insideOf_110 (lv_at hl 4 rfl) ?_
        refine lv_lload hx hb dX12_insideOf_112 (lv_at hl 2 rfl) ?_
        obtain ⟨x53, σ52, e54, hf⟩ := mc0 hf
        refine mx_callS (As := [.long x8, .long x21]) (rest := [.long v2]) hx hb hml hts hown hK hJ rfl rfl (c_X12_most l G P x8 x21 σ34 x53 σ52 e54) me_X12_most kw_2413 kw_2412 (Nat.le_of_ble_eq_true rfl) (Nat.le_of_ble_eq_true rfl) rfl hl.1 rfl (Nat.le_of_ble_eq_true rfl) dX12_insideOf_114 (fun H locs hJ => ?_)
        refine W.lcmp hx hb dX12_insideOf_117 ?_
        refine lv_if_gt (tgt := 151) hx hb dX12_insideOf_118 (by decide) (fun c55 => ?_) (fun c55 => ?_)
        · rw [if_pos c55] at hf
          exact D151_6 v0 v1 v2 v4 v6 v7 x12 x30 x32 σ52 o hf Kb Ke0 Ke1 _ _ hJ ls (lv_sub hl [5, 6, 7, 8, 9, 10, 3, 1, 0] rfl)
        · rw [if_neg c55] at hf
          refine lv_lload hx hb dX12_insideOf_121 (lv_at hl 3 rfl) ?_
          refine lv_lload hx hb dX12_insideOf_123 (lv_at hl 1 rfl) ?_
          obtain ⟨x57, σ56, e58, hf⟩ := mc0 hf
          refine mx_callS (As := [.long x12, .long x30]) (rest := []) hx hb hml hts hown hK hJ rfl rfl (c_X12_smaller l G P x12 x30 σ52 x57 σ56 e58) me_X12_smaller kw_2410 kw_2409 (Nat.le_of_ble_eq_true rfl) (Nat.le_of_ble_eq_true rfl) rfl hl.1 rfl (Nat.le_of_ble_eq_true rfl) dX12_insideOf_125 (fun H locs hJ => ?_)
          refine lv_lload hx hb dX12_insideOf_128 (lv_at hl 8 rfl) ?_
          refine W.lcmp hx hb dX12_insideOf_130 ?_
          refine lv_if_gt (tgt := 151) hx hb dX12_insideOf_131 (by decide) (fun c59 => ?_) (fun c59 => ?_)
          · rw [if_pos c59] at hf
            exact D151_6 v0 v1 v2 v4 v6 v7 x12 x30 x32 σ56 o hf Kb Ke0 Ke1 _ _ hJ ls (lv_sub hl [5, 6, 7, 8, 9, 10, 3, 1, 0] rfl)
          · rw [if_neg c59] at hf
            refine lv_lload hx hb dX12_insideOf_134 (lv_at hl 8 rfl) ?_
            refine lv_lload hx hb dX12_insideOf_136 (lv_at hl 3 rfl) ?_
            refine lv_lload hx hb dX12_insideOf_138 (lv_at hl 1 rfl) ?_
            obtain ⟨x61, σ60, e62, hf⟩ := mc0 hf
            refine mx_callS (As := [.long x12, .long x30]) (rest := [.long v4]) hx hb hml hts hown hK hJ rfl rfl (c_X12_most l G P x12 x30 σ56 x61 σ60 e62) me_X12_most kw_2413 kw_2412 (Nat.le_of_ble_eq_true rfl) (Nat.le_of_ble_eq_true rfl) rfl hl.1 rfl (Nat.le_of_ble_eq_true rfl) dX12_insideOf_140 (fun H locs hJ => ?_)
            refine W.lcmp hx hb dX12_insideOf_143 ?_
            refine lv_if_gt (tgt := 151) hx hb dX12_insideOf_144 (by decide) (fun c63 => ?_) (fun c63 => ?_)
            · rw [if_pos c63] at hf
              exact D151_6 v0 v1 v2 v4 v6 v7 x12 x30 x32 σ60 o hf Kb Ke0 Ke1 _ _ hJ ls (lv_sub hl [5, 6, 7, 8, 9, 10, 3, 1, 0] rfl)
            · rw [if_neg c63] at hf
              refine lv_iconst (v := 1) hx hb dX12_insideOf_147 (by decide) ?_
              refine lv_goto (tgt := 152) hx hb dX12_insideOf_148 (by decide) ?_
              exact D152_6 v0 v1 v2 v4 v6 v7 x12 x30 x32 (1 : Int32) σ60 o hf Kb Ke0 Ke1 _ _ hJ ls (lv_sub hl [5, 6, 7, 8, 9, 10, 3, 1, 0] rfl)
  have L6 : ∀ (v0 : Nat) (v1 : Int32) (v2 : Int64) (v4 : Int64) (n : Nat) (v6 : Int32) (v7 : Int32) (τ : mx_S) (o : (mx_S) ⊕ (Int32 × mx_S)), mx_lp (f_X12_insideOf_L6 P v0 v1 v2 v4) n (v6, v7, τ) = some o → (∀  (υ : mx_S), o = (.inl υ) → ∀ (H : Heap) (locs : List Loc), mx_J G P s.heap (mxz σ) (mxu σ) υ H locs → ∀ ls : Array Slot, lv_has ls 19 [] → W p l e (mx_rm P 1 23 σ) s m ([.ref a0, .int p1, .long p2, .long p4] : List Value).toArray below meth c H locs (mxz υ - mxz σ) (mxu υ - mxu σ) (mx_Z below G P (some (.int r)) σ σ' [.ref a0, .int p1, .long p2, .long p4] s) (F0 m 166 ls [])) → (∀ (y6 : Int32) (υ : mx_S), o = (.inr (y6, υ)) → ∀ (H : Heap) (locs : List Loc), mx_J G P s.heap (mxz σ) (mxu σ) υ H locs → ∀ ls : Array Slot, lv_has ls 19 [(6, .int y6)] → W p l e (mx_rm P 1 23 σ) s m ([.ref a0, .int p1, .long p2, .long p4] : List Value).toArray below meth c H locs (mxz υ - mxz σ) (mxu υ - mxu σ) (mx_Z below G P (some (.int r)) σ σ' [.ref a0, .int p1, .long p2, .long p4] s) (F0 m 226 ls [])) → ∀ (H : Heap) (locs : List Loc), mx_J G P s.heap (mxz σ) (mxu σ) τ H locs → ∀ ls : Array Slot, lv_has ls 19 [(0, .ref v0), (1, .int v1), (2, .long v2), (4, .long v4), (6, .int v6), (7, .int v7)] → W p l e (mx_rm P 1 23 σ) s m ([.ref a0, .int p1, .long p2, .long p4] : List Value).toArray below meth c H locs (mxz τ - mxz σ) (mxu τ - mxu σ) (mx_Z below G P (some (.int r)) σ σ' [.ref a0, .int p1, .long p2, .long p4] s) (F0 m 6 ls []) := by
    intro v0 v1 v2 v4 n
    induction n with
    | zero =>
      intro v6 v7 τ o hf
      rw [mx_lp0] at hf
      cases hf
    | succ n ih =>
      intro v6 v7 τ o hf Ke0 Ke1 H locs hJ ls hl
      rw [mx_lpS] at hf
      obtain ⟨b, eb, hf⟩ := mb0 hf
      refine B6 v0 v1 v2 v4 v6 v7 τ b eb (fun y6 y7 υ ho H locs hJ ls hl => ?_) (fun  υ ho H locs hJ ls hl => ?_) (fun y6 υ ho H locs hJ ls hl => ?_) H locs hJ ls hl
      · subst ho
        exact ih y6 y7 υ o hf Ke0 Ke1 H locs hJ ls hl
      · subst ho
        exact Ke0  υ (Option.some.inj hf).symm _ _ hJ ls hl
      · subst ho
        exact Ke1 y6 υ (Option.some.inj hf).symm _ _ hJ ls hl
  have D236 : ∀ (w0 : Int32) (τ : mx_S), f_X12_insideOf_D236 P w0 τ = some (r, σ') → ∀ (H : Heap) (locs : List Loc), mx_J G P s.heap (mxz σ) (mxu σ) τ H locs → ∀ ls : Array Slot, lv_has ls 19 [] → W p l e (mx_rm P 1 23 σ) s m ([.ref a0, .int p1, .long p2, .long p4] : List Value).toArray below meth c H locs (mxz τ - mxz σ) (mxu τ - mxu σ) (mx_Z below G P (some (.int r)) σ σ' [.ref a0, .int p1, .long p2, .long p4] s) (F0 m 236 ls [.int w0]) := by
    intro w0 τ hf _ _ hJ ls hl
    unfold f_X12_insideOf_D236 at hf
    exact my_iret hx hb hr hlocks hJ hf dX12_insideOf_236
  unfold f_X12_insideOf at hf
  refine lv_iconst (v := 0) hx hb dX12_insideOf_0 (by decide) ?_
  refine lv_istore (lv' := [(6, .int (0 : Int32)), (0, .ref a0), (1, .int p1), (2, .long p2), (4, .long p4)]) hx hb dX12_insideOf_1 hl (by decide) rfl (fun ls hl => ?_)
  refine lv_iconst (v := 0) hx hb dX12_insideOf_3 (by decide) ?_
  refine lv_istore (lv' := [(7, .int (0 : Int32)), (6, .int (0 : Int32)), (0, .ref a0), (1, .int p1), (2, .long p2), (4, .long p4)]) hx hb dX12_insideOf_4 hl (by decide) rfl (fun ls hl => ?_)
  obtain ⟨o64, e65, hf⟩ := mb0 hf
  refine L6 a0 p1 p2 p4 (mpN P) (0 : Int32) (0 : Int32) σ o64 e65 (fun σ66 ho H locs hJ ls hl => ?_) (fun y67 σ68 ho H locs hJ ls hl => ?_) _ _ hJ ls (lv_sub hl [2, 3, 4, 5, 1, 0] rfl)
  · rw [ho] at hf
    have hf : (some ((2 : Int32), σ66)) = some (r, σ') := hf
    refine lv_iconst (v := 2) hx hb dX12_insideOf_166 (by decide) ?_
    exact my_iret hx hb hr hlocks hJ hf dX12_insideOf_167
  · rw [ho] at hf
    have hf : ((if y67 = 0 then f_X12_insideOf_D236 P (0 : Int32) σ68 else f_X12_insideOf_D236 P (1 : Int32) σ68)) = some (r, σ') := hf
    refine lv_iload hx hb dX12_insideOf_226 (lv_at hl 0 rfl) ?_
    refine lv_if_eq (tgt := 235) hx hb dX12_insideOf_228 (by decide) (fun c69 => ?_) (fun c69 => ?_)
    · rw [if_pos c69] at hf
      refine lv_iconst (v := 0) hx hb dX12_insideOf_235 (by decide) ?_
      exact D236 (0 : Int32) σ68 hf _ _ hJ ls (lv_sub hl [] rfl)
    · rw [if_neg c69] at hf
      refine lv_iconst (v := 1) hx hb dX12_insideOf_231 (by decide) ?_
      refine lv_goto (tgt := 236) hx hb dX12_insideOf_232 (by decide) ?_
      exact D236 (1 : Int32) σ68 hf _ _ hJ ls (lv_sub hl [] rfl)
set_option maxHeartbeats 4000000 in
set_option maxRecDepth 100000 in
theorem c_X12_inside (l : Launch) (G : mx_G) (P : mx_P) (a0 : Nat) (p1 : Int32) (p2 : Int32) (p3 : Int32) (σ : mx_S) (r : Int32) (σ' : mx_S) (hf : f_X12_inside P a0 p1 p2 p3 σ = some (r, σ')) : mxz σ ≤ mpc P → mxu σ ≤ mps P → mx_M l yX12_inside cX12_inside 5 (some .int) 2 61 G P [.ref a0, .int p1, .int p2, .int p3] σ (some (.int r)) σ' := by
  intro hcap hcau
  refine mx_ofW (by decide +kernel) hcap hcau (Nat.le_of_ble_eq_true rfl) ?_
  intro p e s m below meth c hx hb hr hml hts hown hlocks hname hK hJ ls hl
  have hz0 := hJ.2.1
  have hown : s.vm.findClass RX12 = some m.cls := hown
  have hl : lv_has ls 5 [(0, .ref a0), (1, .int p1), (2, .int p2), (3, .int p3)] := hl
  have D95 : ∀ (w0 : Int32) (τ : mx_S), f_X12_inside_D95 P w0 τ = some (r, σ') → ∀ (H : Heap) (locs : List Loc), mx_J G P s.heap (mxz σ) (mxu σ) τ H locs → ∀ ls : Array Slot, lv_has ls 5 [] → W p l e (mx_rm P 2 61 σ) s m ([.ref a0, .int p1, .int p2, .int p3] : List Value).toArray below meth c H locs (mxz τ - mxz σ) (mxu τ - mxu σ) (mx_Z below G P (some (.int r)) σ σ' [.ref a0, .int p1, .int p2, .int p3] s) (F0 m 95 ls [.int w0]) := by
    intro w0 τ hf _ _ hJ ls hl
    unfold f_X12_inside_D95 at hf
    exact my_iret hx hb hr hlocks hJ hf dX12_inside_95
  have D72 : ∀ (v0 : Nat) (v1 : Int32) (v2 : Int32) (v3 : Int32) (w0 : Int32) (w1 : Nat) (τ : mx_S), f_X12_inside_D72 P v0 v1 v2 v3 w0 w1 τ = some (r, σ') → ∀ (H : Heap) (locs : List Loc), mx_J G P s.heap (mxz σ) (mxu σ) τ H locs → ∀ ls : Array Slot, lv_has ls 5 [(0, .ref v0), (1, .int v1), (2, .int v2), (3, .int v3)] → W p l e (mx_rm P 2 61 σ) s m ([.ref a0, .int p1, .int p2, .int p3] : List Value).toArray below meth c H locs (mxz τ - mxz σ) (mxu τ - mxu σ) (mx_Z below G P (some (.int r)) σ σ' [.ref a0, .int p1, .int p2, .int p3] s) (F0 m 72 ls [.int w0, .ref w1]) := by
    intro v0 v1 v2 v3 w0 w1 τ hf _ _ hJ ls hl
    unfold f_X12_inside_D72 at hf
    obtain ⟨σ11, e12, hf⟩ := mb0 hf
    refine my_pI hx hb hts hown hK hJ fd_RX12_243 cd_12 (Or.inl rfl) ht_12_0 e12 dX12_inside_72 (fun H locs hJ => ?_)
    refine lv_aload_n hx hb dX12_inside_75 rfl (lv_at hl 0 rfl) ?_
    obtain ⟨x13, e14, hf⟩ := mb0 hf
    refine my_gI hx hb hts hown hK hJ fd_RX12_243 hv_12_0 e14 dX12_inside_76 ?_
    refine lv_if_le (tgt := 86) hx hb dX12_inside_79 (by decide) (fun c15 => ?_) (fun c15 => ?_)
    · rw [if_pos c15] at hf
      refine lv_aload_n hx hb dX12_inside_86 rfl (lv_at hl 0 rfl) ?_
      refine lv_iload_n hx hb dX12_inside_87 rfl (lv_at hl 1 rfl) ?_
      refine lv_iload_n hx hb dX12_inside_88 rfl (lv_at hl 2 rfl) ?_
      refine lv_i2l hx hb dX12_inside_89 rfl ?_
      refine lv_iload_n hx hb dX12_inside_90 rfl (lv_at hl 3 rfl) ?_
      refine lv_i2l hx hb dX12_inside_91 rfl ?_
      obtain ⟨i16, e17, hf⟩ := mb0 hf
      obtain ⟨x19, σ18, e20, hf⟩ := mc0 hf
      refine mx_callV (As := [.int v1, .long (v2.toInt64), .long (v3.toInt64)]) (rest := []) hx hb hml hts hown hK hJ rfl rfl (ci := 12) rfl e17 (c_X12_insideOf l G P v0 v1 (v2.toInt64) (v3.toInt64) σ11 x19 σ18 e20) me_X12_insideOf kw_2793 ks_169 kw_2791 (Nat.le_of_ble_eq_true rfl) (Nat.le_of_ble_eq_true rfl) rfl hl.1 rfl (Nat.le_of_ble_eq_true rfl) dX12_inside_92 (fun H locs hJ => ?_)
      exact D95 x19 σ18 hf _ _ hJ ls (lv_sub hl [] rfl)
    · rw [if_neg c15] at hf
      refine lv_iconst (v := 0) hx hb dX12_inside_82 (by decide) ?_
      refine lv_goto (tgt := 95) hx hb dX12_inside_83 (by decide) ?_
      exact D95 (0 : Int32) σ11 hf _ _ hJ ls (lv_sub hl [] rfl)
  have D45 : ∀ (v0 : Nat) (v1 : Int32) (v2 : Int32) (v3 : Int32) (w0 : Int32) (τ : mx_S), f_X12_inside_D45 P v0 v1 v2 v3 w0 τ = some (r, σ') → ∀ (H : Heap) (locs : List Loc), mx_J G P s.heap (mxz σ) (mxu σ) τ H locs → ∀ ls : Array Slot, lv_has ls 5 [(0, .ref v0), (1, .int v1), (2, .int v2), (3, .int v3)] → W p l e (mx_rm P 2 61 σ) s m ([.ref a0, .int p1, .int p2, .int p3] : List Value).toArray below meth c H locs (mxz τ - mxz σ) (mxu τ - mxu σ) (mx_Z below G P (some (.int r)) σ σ' [.ref a0, .int p1, .int p2, .int p3] s) (F0 m 45 ls [.int w0]) := by
    intro v0 v1 v2 v3 w0 τ hf _ _ hJ ls hl
    unfold f_X12_inside_D45 at hf
    refine lv_istore (lv' := [(4, .int w0), (0, .ref v0), (1, .int v1), (2, .int v2), (3, .int v3)]) hx hb dX12_inside_45 hl (by decide) rfl (fun ls hl => ?_)
    refine lv_aload_n hx hb dX12_inside_47 rfl (lv_at hl 1 rfl) ?_
    refine lv_iload hx hb dX12_inside_48 (lv_at hl 0 rfl) ?_
    refine lv_if_ne (tgt := 57) hx hb dX12_inside_50 (by decide) (fun c5 => ?_) (fun c5 => ?_)
    · rw [if_neg c5] at hf
      refine lv_aload_n hx hb dX12_inside_57 rfl (lv_at hl 1 rfl) ?_
      obtain ⟨b6, e7, hf⟩ := mb0 hf
      refine my_gR hx hb hts hown hK hJ fd_RX12_186 hv_12_86 e7 dX12_inside_58 ?_
      refine lv_iload_n hx hb dX12_inside_61 rfl (lv_at hl 2 rfl) ?_
      obtain ⟨x8, e9, hf⟩ := mb0 hf
      refine mx_aI hx hb hK hJ e9 dX12_inside_62 ?_
      refine lv_iconst (v := 3) hx hb dX12_inside_63 (by decide) ?_
      refine lv_icmp_ge (tgt := 71) hx hb dX12_inside_64 (by decide) (fun c10 => ?_) (fun c10 => ?_)
      · rw [if_pos c10] at hf
        refine lv_iconst (v := 0) hx hb dX12_inside_71 (by decide) ?_
        exact D72 v0 v1 v2 v3 (0 : Int32) v0 τ hf _ _ hJ ls (lv_sub hl [1, 2, 3, 4] rfl)
      · rw [if_neg c10] at hf
        refine lv_iconst (v := 2) hx hb dX12_inside_67 (by decide) ?_
        refine lv_goto (tgt := 72) hx hb dX12_inside_68 (by decide) ?_
        exact D72 v0 v1 v2 v3 (2 : Int32) v0 τ hf _ _ hJ ls (lv_sub hl [1, 2, 3, 4] rfl)
    · rw [if_pos c5] at hf
      refine lv_iconst (v := 1) hx hb dX12_inside_53 (by decide) ?_
      refine lv_goto (tgt := 72) hx hb dX12_inside_54 (by decide) ?_
      exact D72 v0 v1 v2 v3 (1 : Int32) v0 τ hf _ _ hJ ls (lv_sub hl [1, 2, 3, 4] rfl)
  have D44 : ∀ (v0 : Nat) (v1 : Int32) (v2 : Int32) (v3 : Int32) (τ : mx_S), f_X12_inside_D44 P v0 v1 v2 v3 τ = some (r, σ') → ∀ (H : Heap) (locs : List Loc), mx_J G P s.heap (mxz σ) (mxu σ) τ H locs → ∀ ls : Array Slot, lv_has ls 5 [(0, .ref v0), (1, .int v1), (2, .int v2), (3, .int v3)] → W p l e (mx_rm P 2 61 σ) s m ([.ref a0, .int p1, .int p2, .int p3] : List Value).toArray below meth c H locs (mxz τ - mxz σ) (mxu τ - mxu σ) (mx_Z below G P (some (.int r)) σ σ' [.ref a0, .int p1, .int p2, .int p3] s) (F0 m 44 ls []) := by
    intro v0 v1 v2 v3 τ hf _ _ hJ ls hl
    unfold f_X12_inside_D44 at hf
    refine lv_iconst (v := 0) hx hb dX12_inside_44 (by decide) ?_
    exact D45 v0 v1 v2 v3 (0 : Int32) τ hf _ _ hJ ls (lv_sub hl [0, 1, 2, 3] rfl)
  unfold f_X12_inside at hf
  refine lv_iload_n hx hb dX12_inside_0 rfl (lv_at hl 1 rfl) ?_
  refine lv_i2l hx hb dX12_inside_1 rfl ?_
  refine lv_lconst (v := 0) hx hb dX12_inside_2 (by decide) ?_
  refine lv_ldc2 hx hb hown (hts _ kw_2750) dX12_inside_3 ?_
  obtain ⟨x2, σ1, e3, hf⟩ := mc0 hf
  refine mx_callS (As := [.long (p1.toInt64), .long (0 : Int64), .long (7 : Int64)]) (rest := []) hx hb hml hts hown hK hJ rfl rfl (c_X12_in l G P (p1.toInt64) (0 : Int64) (7 : Int64) σ x2 σ1 e3) me_X12_in kw_2223 kw_2222 (Nat.le_of_ble_eq_true rfl) (Nat.le_of_ble_eq_true rfl) rfl hl.1 rfl (Nat.le_of_ble_eq_true rfl) dX12_inside_6 (fun H locs hJ => ?_)
  refine lv_if_eq (tgt := 44) hx hb dX12_inside_9 (by decide) (fun c4 => ?_) (fun c4 => ?_)
  · rw [if_pos c4] at hf
    exact D44 a0 p1 p2 p3 σ1 hf _ _ hJ ls (lv_sub hl [0, 1, 2, 3] rfl)
  · rw [if_neg c4] at hf
    refine lv_iload_n hx hb dX12_inside_12 rfl (lv_at hl 2 rfl) ?_
    refine lv_i2l hx hb dX12_inside_13 rfl ?_
    refine lv_ldc2 hx hb hown (hts _ kw_2573) dX12_inside_14 ?_
    refine lv_ldc2 hx hb hown (hts _ kw_2574) dX12_inside_17 ?_
    obtain ⟨x22, σ21, e23, hf⟩ := mc0 hf
    refine mx_callS (As := [.long (p2.toInt64), .long (-1000 : Int64), .long (1000 : Int64)]) (rest := []) hx hb hml hts hown hK hJ rfl rfl (c_X12_in l G P (p2.toInt64) (-1000 : Int64) (1000 : Int64) σ1 x22 σ21 e23) me_X12_in kw_2223 kw_2222 (Nat.le_of_ble_eq_true rfl) (Nat.le_of_ble_eq_true rfl) rfl hl.1 rfl (Nat.le_of_ble_eq_true rfl) dX12_inside_20 (fun H locs hJ => ?_)
    refine lv_if_eq (tgt := 44) hx hb dX12_inside_23 (by decide) (fun c24 => ?_) (fun c24 => ?_)
    · rw [if_pos c24] at hf
      exact D44 a0 p1 p2 p3 σ21 hf _ _ hJ ls (lv_sub hl [0, 1, 2, 3] rfl)
    · rw [if_neg c24] at hf
      refine lv_iload_n hx hb dX12_inside_26 rfl (lv_at hl 3 rfl) ?_
      refine lv_i2l hx hb dX12_inside_27 rfl ?_
      refine lv_ldc2 hx hb hown (hts _ kw_2573) dX12_inside_28 ?_
      refine lv_ldc2 hx hb hown (hts _ kw_2574) dX12_inside_31 ?_
      obtain ⟨x26, σ25, e27, hf⟩ := mc0 hf
      refine mx_callS (As := [.long (p3.toInt64), .long (-1000 : Int64), .long (1000 : Int64)]) (rest := []) hx hb hml hts hown hK hJ rfl rfl (c_X12_in l G P (p3.toInt64) (-1000 : Int64) (1000 : Int64) σ21 x26 σ25 e27) me_X12_in kw_2223 kw_2222 (Nat.le_of_ble_eq_true rfl) (Nat.le_of_ble_eq_true rfl) rfl hl.1 rfl (Nat.le_of_ble_eq_true rfl) dX12_inside_34 (fun H locs hJ => ?_)
      refine lv_if_eq (tgt := 44) hx hb dX12_inside_37 (by decide) (fun c28 => ?_) (fun c28 => ?_)
      · rw [if_pos c28] at hf
        exact D44 a0 p1 p2 p3 σ25 hf _ _ hJ ls (lv_sub hl [0, 1, 2, 3] rfl)
      · rw [if_neg c28] at hf
        refine lv_iconst (v := 1) hx hb dX12_inside_40 (by decide) ?_
        refine lv_goto (tgt := 45) hx hb dX12_inside_41 (by decide) ?_
        exact D45 a0 p1 p2 p3 (1 : Int32) σ25 hf _ _ hJ ls (lv_sub hl [0, 1, 2, 3] rfl)
