set_option maxHeartbeats 4000000 in
set_option maxRecDepth 100000 in
theorem c_X0_init (l : Launch) (G : mx_G) (P : mx_P) (a0 : Nat) (σ : mx_S) (σ' : mx_S) (hf : f_X0_init P a0 σ = some σ') : mxz σ ≤ mpc P → mxu σ ≤ mps P → mx_M l yX0_init cX0_init 1 none 1 12 G P [.ref a0] σ none σ' := by
  intro hcap hcau
  refine mx_ofW (by decide +kernel) hcap hcau (Nat.le_of_ble_eq_true rfl) ?_
  intro p e s m below meth c hx hb hr hml hts hown hlocks hname hK hJ ls hl
  have hz0 := hJ.2.1
  have hown : s.vm.findClass RX0 = some m.cls := hown
  have hl : lv_has ls 1 [(0, .ref a0)] := hl
  unfold f_X0_init at hf
  refine lv_aload_n hx hb dX0_init_0 rfl (lv_at hl 0 rfl) ?_
  refine W.objInit hx hb hown (hts _ kw_351) (hts _ kw_35) (hts _ kw_36) rfl (by rw [hml]; exact hl.1) rfl dX0_init_1 (Nat.le_of_ble_eq_true rfl) (Nat.le_of_ble_eq_true rfl) ?_
  refine W.eq (g2 := F0 m 4 ls []) rfl ?_
  refine lv_aload_n hx hb dX0_init_4 rfl (lv_at hl 0 rfl) ?_
  refine lv_lconst (v := 0) hx hb dX0_init_5 (by decide) ?_
  obtain ⟨σ1, e2, hf⟩ := mb0 hf
  refine my_pL hx hb hts hown hK hJ fd_RX0_7 cd_0 (Or.inl rfl) ht_0_0 e2 dX0_init_6 (fun H locs hJ => ?_)
  refine lv_aload_n hx hb dX0_init_9 rfl (lv_at hl 0 rfl) ?_
  refine lv_lconst (v := 0) hx hb dX0_init_10 (by decide) ?_
  obtain ⟨σ3, e4, hf⟩ := mb0 hf
  refine my_pL hx hb hts hown hK hJ fd_RX0_13 cd_0 (Or.inl rfl) ht_0_1 e4 dX0_init_11 (fun H locs hJ => ?_)
  refine lv_aload_n hx hb dX0_init_14 rfl (lv_at hl 0 rfl) ?_
  refine lv_iconst (v := 0) hx hb dX0_init_15 (by decide) ?_
  obtain ⟨σ5, e6, hf⟩ := mb0 hf
  refine my_pZ hx hb hts hown hK hJ fd_RX0_16 cd_0 (Or.inl rfl) ht_0_2 e6 dX0_init_16 (fun H locs hJ => ?_)
  exact my_vret hx hb hr hlocks hJ hf dX0_init_19
set_option maxHeartbeats 4000000 in
set_option maxRecDepth 100000 in
theorem c_X0_keep (l : Launch) (G : mx_G) (P : mx_P) (a0 : Nat) (p1 : Int64) (p3 : Int64) (σ : mx_S) (σ' : mx_S) (hf : f_X0_keep P a0 p1 p3 σ = some σ') : mxz σ ≤ mpc P → mxu σ ≤ mps P → mx_M l yX0_keep cX0_keep 5 none 0 0 G P [.ref a0, .long p1, .long p3] σ none σ' := by
  intro hcap hcau
  refine mx_ofW (by decide +kernel) hcap hcau (Nat.le_of_ble_eq_true rfl) ?_
  intro p e s m below meth c hx hb hr hml hts hown hlocks hname hK hJ ls hl
  have hz0 := hJ.2.1
  have hown : s.vm.findClass RX0 = some m.cls := hown
  have hl : lv_has ls 5 [(0, .ref a0), (1, .long p1), (3, .long p3)] := hl
  have D32 : ∀ (w0 : Int32) (w1 : Nat) (τ : mx_S), f_X0_keep_D32 P w0 w1 τ = some σ' → ∀ (H : Heap) (locs : List Loc), mx_J G P s.heap (mxz σ) (mxu σ) τ H locs → ∀ ls : Array Slot, lv_has ls 5 [] → W p l e (mx_rm P 0 0 σ) s m ([.ref a0, .long p1, .long p3] : List Value).toArray below meth c H locs (mxz τ - mxz σ) (mxu τ - mxu σ) (mx_Z below G P none σ σ' [.ref a0, .long p1, .long p3] s) (F0 m 32 ls [.int w0, .ref w1]) := by
    intro w0 w1 τ hf _ _ hJ ls hl
    unfold f_X0_keep_D32 at hf
    obtain ⟨σ6, e7, hf⟩ := mb0 hf
    refine my_pZ hx hb hts hown hK hJ fd_RX0_16 cd_0 (Or.inl rfl) ht_0_2 e7 dX0_keep_32 (fun H locs hJ => ?_)
    exact my_vret hx hb hr hlocks hJ hf dX0_keep_35
  have D27 : ∀ (w0 : Nat) (τ : mx_S), f_X0_keep_D27 P w0 τ = some σ' → ∀ (H : Heap) (locs : List Loc), mx_J G P s.heap (mxz σ) (mxu σ) τ H locs → ∀ ls : Array Slot, lv_has ls 5 [] → W p l e (mx_rm P 0 0 σ) s m ([.ref a0, .long p1, .long p3] : List Value).toArray below meth c H locs (mxz τ - mxz σ) (mxu τ - mxu σ) (mx_Z below G P none σ σ' [.ref a0, .long p1, .long p3] s) (F0 m 27 ls [.ref w0]) := by
    intro w0 τ hf _ _ hJ ls hl
    unfold f_X0_keep_D27 at hf
    refine lv_iconst (v := 1) hx hb dX0_keep_27 (by decide) ?_
    refine lv_goto (tgt := 32) hx hb dX0_keep_28 (by decide) ?_
    exact D32 (1 : Int32) w0 τ hf _ _ hJ ls (lv_sub hl [] rfl)
  unfold f_X0_keep at hf
  refine lv_aload_n hx hb dX0_keep_0 rfl (lv_at hl 0 rfl) ?_
  refine lv_lload_n hx hb dX0_keep_1 rfl (lv_at hl 1 rfl) ?_
  obtain ⟨σ1, e2, hf⟩ := mb0 hf
  refine my_pL hx hb hts hown hK hJ fd_RX0_7 cd_0 (Or.inl rfl) ht_0_0 e2 dX0_keep_2 (fun H locs hJ => ?_)
  refine lv_aload_n hx hb dX0_keep_5 rfl (lv_at hl 0 rfl) ?_
  refine lv_lload_n hx hb dX0_keep_6 rfl (lv_at hl 2 rfl) ?_
  obtain ⟨σ3, e4, hf⟩ := mb0 hf
  refine my_pL hx hb hts hown hK hJ fd_RX0_13 cd_0 (Or.inl rfl) ht_0_1 e4 dX0_keep_7 (fun H locs hJ => ?_)
  refine lv_aload_n hx hb dX0_keep_10 rfl (lv_at hl 0 rfl) ?_
  refine lv_lload_n hx hb dX0_keep_11 rfl (lv_at hl 1 rfl) ?_
  refine lv_ldc2 hx hb hown (hts _ kw_483) dX0_keep_12 ?_
  refine W.lcmp hx hb dX0_keep_15 ?_
  refine lv_if_lt (tgt := 27) hx hb dX0_keep_16 (by decide) (fun c5 => ?_) (fun c5 => ?_)
  · rw [if_pos c5] at hf
    exact D27 a0 σ3 hf _ _ hJ ls (lv_sub hl [] rfl)
  · rw [if_neg c5] at hf
    refine lv_lload_n hx hb dX0_keep_19 rfl (lv_at hl 2 rfl) ?_
    refine lv_ldc2 hx hb hown (hts _ kw_484) dX0_keep_20 ?_
    refine W.lcmp hx hb dX0_keep_23 ?_
    refine lv_if_le (tgt := 31) hx hb dX0_keep_24 (by decide) (fun c8 => ?_) (fun c8 => ?_)
    · rw [if_pos c8] at hf
      refine lv_iconst (v := 0) hx hb dX0_keep_31 (by decide) ?_
      exact D32 (0 : Int32) a0 σ3 hf _ _ hJ ls (lv_sub hl [] rfl)
    · rw [if_neg c8] at hf
      exact D27 a0 σ3 hf _ _ hJ ls (lv_sub hl [] rfl)
set_option maxHeartbeats 4000000 in
set_option maxRecDepth 100000 in
theorem c_X0_shut (l : Launch) (G : mx_G) (P : mx_P) (a0 : Nat) (σ : mx_S) (σ' : mx_S) (hf : f_X0_shut P a0 σ = some σ') : mxz σ ≤ mpc P → mxu σ ≤ mps P → mx_M l yX0_shut cX0_shut 1 none 0 0 G P [.ref a0] σ none σ' := by
  intro hcap hcau
  refine mx_ofW (by decide +kernel) hcap hcau (Nat.le_of_ble_eq_true rfl) ?_
  intro p e s m below meth c hx hb hr hml hts hown hlocks hname hK hJ ls hl
  have hz0 := hJ.2.1
  have hown : s.vm.findClass RX0 = some m.cls := hown
  have hl : lv_has ls 1 [(0, .ref a0)] := hl
  unfold f_X0_shut at hf
  refine lv_aload_n hx hb dX0_shut_0 rfl (lv_at hl 0 rfl) ?_
  refine lv_lconst (v := 0) hx hb dX0_shut_1 (by decide) ?_
  obtain ⟨σ1, e2, hf⟩ := mb0 hf
  refine my_pL hx hb hts hown hK hJ fd_RX0_7 cd_0 (Or.inl rfl) ht_0_0 e2 dX0_shut_2 (fun H locs hJ => ?_)
  refine lv_aload_n hx hb dX0_shut_5 rfl (lv_at hl 0 rfl) ?_
  refine lv_lconst (v := 0) hx hb dX0_shut_6 (by decide) ?_
  obtain ⟨σ3, e4, hf⟩ := mb0 hf
  refine my_pL hx hb hts hown hK hJ fd_RX0_13 cd_0 (Or.inl rfl) ht_0_1 e4 dX0_shut_7 (fun H locs hJ => ?_)
  refine lv_aload_n hx hb dX0_shut_10 rfl (lv_at hl 0 rfl) ?_
  refine lv_iconst (v := 1) hx hb dX0_shut_11 (by decide) ?_
  obtain ⟨σ5, e6, hf⟩ := mb0 hf
  refine my_pZ hx hb hts hown hK hJ fd_RX0_16 cd_0 (Or.inl rfl) ht_0_2 e6 dX0_shut_12 (fun H locs hJ => ?_)
  exact my_vret hx hb hr hlocks hJ hf dX0_shut_15
set_option maxHeartbeats 4000000 in
set_option maxRecDepth 100000 in
theorem c_X0_copy (l : Launch) (G : mx_G) (P : mx_P) (a0 : Nat) (a1 : Nat) (σ : mx_S) (σ' : mx_S) (hf : f_X0_copy P a0 a1 σ = some σ') : mxz σ ≤ mpc P → mxu σ ≤ mps P → mx_M l yX0_copy cX0_copy 2 none 0 0 G P [.ref a0, .ref a1] σ none σ' := by
  intro hcap hcau
  refine mx_ofW (by decide +kernel) hcap hcau (Nat.le_of_ble_eq_true rfl) ?_
  intro p e s m below meth c hx hb hr hml hts hown hlocks hname hK hJ ls hl
  have hz0 := hJ.2.1
  have hown : s.vm.findClass RX0 = some m.cls := hown
  have hl : lv_has ls 2 [(0, .ref a0), (1, .ref a1)] := hl
  unfold f_X0_copy at hf
  refine lv_aload_n hx hb dX0_copy_0 rfl (lv_at hl 0 rfl) ?_
  refine lv_aload_n hx hb dX0_copy_1 rfl (lv_at hl 1 rfl) ?_
  obtain ⟨x1, e2, hf⟩ := mb0 hf
  refine my_gL hx hb hts hown hK hJ fd_RX0_7 hv_0_0 e2 dX0_copy_2 ?_
  obtain ⟨σ3, e4, hf⟩ := mb0 hf
  refine my_pL hx hb hts hown hK hJ fd_RX0_7 cd_0 (Or.inl rfl) ht_0_0 e4 dX0_copy_5 (fun H locs hJ => ?_)
  refine lv_aload_n hx hb dX0_copy_8 rfl (lv_at hl 0 rfl) ?_
  refine lv_aload_n hx hb dX0_copy_9 rfl (lv_at hl 1 rfl) ?_
  obtain ⟨x5, e6, hf⟩ := mb0 hf
  refine my_gL hx hb hts hown hK hJ fd_RX0_13 hv_0_1 e6 dX0_copy_10 ?_
  obtain ⟨σ7, e8, hf⟩ := mb0 hf
  refine my_pL hx hb hts hown hK hJ fd_RX0_13 cd_0 (Or.inl rfl) ht_0_1 e8 dX0_copy_13 (fun H locs hJ => ?_)
  refine lv_aload_n hx hb dX0_copy_16 rfl (lv_at hl 0 rfl) ?_
  refine lv_aload_n hx hb dX0_copy_17 rfl (lv_at hl 1 rfl) ?_
  obtain ⟨x9, e10, hf⟩ := mb0 hf
  refine my_gI hx hb hts hown hK hJ fd_RX0_16 hv_0_2 e10 dX0_copy_18 ?_
  obtain ⟨σ11, e12, hf⟩ := mb0 hf
  refine my_pZ hx hb hts hown hK hJ fd_RX0_16 cd_0 (Or.inl rfl) ht_0_2 e12 dX0_copy_21 (fun H locs hJ => ?_)
  exact my_vret hx hb hr hlocks hJ hf dX0_copy_24
set_option maxHeartbeats 4000000 in
set_option maxRecDepth 100000 in
theorem c_X0_number (l : Launch) (G : mx_G) (P : mx_P) (a0 : Nat) (p1 : Int32) (σ : mx_S) (r : Int64) (σ' : mx_S) (hf : f_X0_number P a0 p1 σ = some (r, σ')) : mxz σ ≤ mpc P → mxu σ ≤ mps P → mx_M l yX0_number cX0_number 2 (some .long) 0 0 G P [.ref a0, .int p1] σ (some (.long r)) σ' := by
  intro hcap hcau
  refine mx_ofW (by decide +kernel) hcap hcau (Nat.le_of_ble_eq_true rfl) ?_
  intro p e s m below meth c hx hb hr hml hts hown hlocks hname hK hJ ls hl
  have hz0 := hJ.2.1
  have hown : s.vm.findClass RX0 = some m.cls := hown
  have hl : lv_has ls 2 [(0, .ref a0), (1, .int p1)] := hl
  have D15 : ∀ (w0 : Int64) (τ : mx_S), f_X0_number_D15 P w0 τ = some (r, σ') → ∀ (H : Heap) (locs : List Loc), mx_J G P s.heap (mxz σ) (mxu σ) τ H locs → ∀ ls : Array Slot, lv_has ls 2 [] → W p l e (mx_rm P 0 0 σ) s m ([.ref a0, .int p1] : List Value).toArray below meth c H locs (mxz τ - mxz σ) (mxu τ - mxu σ) (mx_Z below G P (some (.long r)) σ σ' [.ref a0, .int p1] s) (F0 m 15 ls [.long w0]) := by
    intro w0 τ hf _ _ hJ ls hl
    unfold f_X0_number_D15 at hf
    exact my_lret hx hb hr hlocks hJ hf dX0_number_15
  unfold f_X0_number at hf
  refine lv_iload_n hx hb dX0_number_0 rfl (lv_at hl 1 rfl) ?_
  refine lv_if_ne (tgt := 11) hx hb dX0_number_1 (by decide) (fun c1 => ?_) (fun c1 => ?_)
  · rw [if_neg c1] at hf
    refine lv_aload_n hx hb dX0_number_11 rfl (lv_at hl 0 rfl) ?_
    obtain ⟨x2, e3, hf⟩ := mb0 hf
    refine my_gL hx hb hts hown hK hJ fd_RX0_13 hv_0_1 e3 dX0_number_12 ?_
    exact D15 x2 σ hf _ _ hJ ls (lv_sub hl [] rfl)
  · rw [if_pos c1] at hf
    refine lv_aload_n hx hb dX0_number_4 rfl (lv_at hl 0 rfl) ?_
    obtain ⟨x4, e5, hf⟩ := mb0 hf
    refine my_gL hx hb hts hown hK hJ fd_RX0_7 hv_0_0 e5 dX0_number_5 ?_
    refine lv_goto (tgt := 15) hx hb dX0_number_8 (by decide) ?_
    exact D15 x4 σ hf _ _ hJ ls (lv_sub hl [] rfl)
set_option maxHeartbeats 4000000 in
set_option maxRecDepth 100000 in
theorem c_J9_floorDiv_f86c9 (l : Launch) (G : mx_G) (P : mx_P) (p0 : Int64) (p2 : Int64) (σ : mx_S) (r : Int64) (σ' : mx_S) (hf : f_J9_floorDiv_f86c9 P p0 p2 σ = some (r, σ')) : mxz σ ≤ mpc P → mxu σ ≤ mps P → mx_M l yJ9_floorDiv_f86c9 cJ9_floorDiv_f86c9 6 (some .long) 0 0 G P [.long p0, .long p2] σ (some (.long r)) σ' := by
  intro hcap hcau
  refine mx_ofW (by decide +kernel) hcap hcau (Nat.le_of_ble_eq_true rfl) ?_
  intro p e s m below meth c hx hb hr hml hts hown hlocks hname hK hJ ls hl
  have hz0 := hJ.2.1
  have hown : s.vm.findClass RJ9 = some m.cls := hown
  have hl : lv_has ls 6 [(0, .long p0), (2, .long p2)] := hl
  have D27 : ∀ (v4 : Int64) (τ : mx_S), f_J9_floorDiv_f86c9_D27 P v4 τ = some (r, σ') → ∀ (H : Heap) (locs : List Loc), mx_J G P s.heap (mxz σ) (mxu σ) τ H locs → ∀ ls : Array Slot, lv_has ls 6 [(4, .long v4)] → W p l e (mx_rm P 0 0 σ) s m ([.long p0, .long p2] : List Value).toArray below meth c H locs (mxz τ - mxz σ) (mxu τ - mxu σ) (mx_Z below G P (some (.long r)) σ σ' [.long p0, .long p2] s) (F0 m 27 ls []) := by
    intro v4 τ hf _ _ hJ ls hl
    unfold f_J9_floorDiv_f86c9_D27 at hf
    refine lv_lload hx hb dJ9_floorDiv_f86c9_27 (lv_at hl 0 rfl) ?_
    exact my_lret hx hb hr hlocks hJ hf dJ9_floorDiv_f86c9_29
  unfold f_J9_floorDiv_f86c9 at hf
  refine lv_lload_n hx hb dJ9_floorDiv_f86c9_0 rfl (lv_at hl 0 rfl) ?_
  refine lv_lload_n hx hb dJ9_floorDiv_f86c9_1 rfl (lv_at hl 1 rfl) ?_
  obtain ⟨x1, e2, hf⟩ := mb0 hf
  refine lv_ldiv hx hb dJ9_floorDiv_f86c9_2 (md_Ls e2).1 ?_
  refine mx_eL (md_Ls e2).2 ?_
  refine lv_lstore (lv' := [(4, .long x1), (0, .long p0), (2, .long p2)]) hx hb dJ9_floorDiv_f86c9_3 hl (by decide) rfl (fun ls hl => ?_)
  refine lv_lload_n hx hb dJ9_floorDiv_f86c9_5 rfl (lv_at hl 1 rfl) ?_
  refine lv_lload_n hx hb dJ9_floorDiv_f86c9_6 rfl (lv_at hl 2 rfl) ?_
  refine lv_lxor hx hb dJ9_floorDiv_f86c9_7 ?_
  refine lv_lconst (v := 0) hx hb dJ9_floorDiv_f86c9_8 (by decide) ?_
  refine W.lcmp hx hb dJ9_floorDiv_f86c9_9 ?_
  refine lv_if_ge (tgt := 27) hx hb dJ9_floorDiv_f86c9_10 (by decide) (fun c3 => ?_) (fun c3 => ?_)
  · rw [if_pos c3] at hf
    exact D27 x1 σ hf _ _ hJ ls (lv_sub hl [0] rfl)
  · rw [if_neg c3] at hf
    refine lv_lload hx hb dJ9_floorDiv_f86c9_13 (lv_at hl 0 rfl) ?_
    refine lv_lload_n hx hb dJ9_floorDiv_f86c9_15 rfl (lv_at hl 2 rfl) ?_
    refine lv_lmul hx hb dJ9_floorDiv_f86c9_16 ?_
    refine lv_lload_n hx hb dJ9_floorDiv_f86c9_17 rfl (lv_at hl 1 rfl) ?_
    refine W.lcmp hx hb dJ9_floorDiv_f86c9_18 ?_
    refine lv_if_eq (tgt := 27) hx hb dJ9_floorDiv_f86c9_19 (by decide) (fun c4 => ?_) (fun c4 => ?_)
    · rw [if_pos c4] at hf
      exact D27 x1 σ hf _ _ hJ ls (lv_sub hl [0] rfl)
    · rw [if_neg c4] at hf
      refine lv_lload hx hb dJ9_floorDiv_f86c9_22 (lv_at hl 0 rfl) ?_
      refine lv_lconst (v := 1) hx hb dJ9_floorDiv_f86c9_24 (by decide) ?_
      refine lv_lsub hx hb dJ9_floorDiv_f86c9_25 ?_
      exact my_lret hx hb hr hlocks hJ hf dJ9_floorDiv_f86c9_26
set_option maxHeartbeats 4000000 in
set_option maxRecDepth 100000 in
theorem c_X0_fraction (l : Launch) (G : mx_G) (P : mx_P) (a0 : Nat) (p1 : Int64) (p3 : Int64) (σ : mx_S) (σ' : mx_S) (hf : f_X0_fraction P a0 p1 p3 σ = some σ') : mxz σ ≤ mpc P → mxu σ ≤ mps P → mx_M l yX0_fraction cX0_fraction 5 none 1 25 G P [.ref a0, .long p1, .long p3] σ none σ' := by
  intro hcap hcau
  refine mx_ofW (by decide +kernel) hcap hcau (Nat.le_of_ble_eq_true rfl) ?_
  intro p e s m below meth c hx hb hr hml hts hown hlocks hname hK hJ ls hl
  have hz0 := hJ.2.1
  have hown : s.vm.findClass RX0 = some m.cls := hown
  have hl : lv_has ls 5 [(0, .ref a0), (1, .long p1), (3, .long p3)] := hl
  unfold f_X0_fraction at hf
  refine lv_lload_n hx hb dX0_fraction_0 rfl (lv_at hl 2 rfl) ?_
  refine lv_lconst (v := 0) hx hb dX0_fraction_1 (by decide) ?_
  refine W.lcmp hx hb dX0_fraction_2 ?_
  refine lv_if_gt (tgt := 11) hx hb dX0_fraction_3 (by decide) (fun c1 => ?_) (fun c1 => ?_)
  · rw [if_pos c1] at hf
    refine lv_aload_n hx hb dX0_fraction_11 rfl (lv_at hl 0 rfl) ?_
    refine lv_ldc2 hx hb hown (hts _ kw_762) dX0_fraction_12 ?_
    refine lv_lload_n hx hb dX0_fraction_15 rfl (lv_at hl 1 rfl) ?_
    refine lv_lmul hx hb dX0_fraction_16 ?_
    refine lv_lload_n hx hb dX0_fraction_17 rfl (lv_at hl 2 rfl) ?_
    obtain ⟨x3, σ2, e4, hf⟩ := mc0 hf
    refine mx_callS (As := [.long ((65536 : Int64) * p1), .long p3]) (rest := [.ref a0]) hx hb hml hts hown hK hJ rfl rfl (c_J9_floorDiv_f86c9 l G P ((65536 : Int64) * p1) p3 σ x3 σ2 e4) me_J9_floorDiv_f86c9 kw_756 kw_755 (Nat.le_of_ble_eq_true rfl) (Nat.le_of_ble_eq_true rfl) rfl hl.1 rfl (Nat.le_of_ble_eq_true rfl) dX0_fraction_18 (fun H locs hJ => ?_)
    refine lv_ldc2 hx hb hown (hts _ kw_1047) dX0_fraction_21 ?_
    refine lv_lload_n hx hb dX0_fraction_24 rfl (lv_at hl 1 rfl) ?_
    refine lv_lmul hx hb dX0_fraction_25 ?_
    refine lv_lload_n hx hb dX0_fraction_26 rfl (lv_at hl 2 rfl) ?_
    obtain ⟨x6, σ5, e7, hf⟩ := mc0 hf
    refine mx_callS (As := [.long ((-65536 : Int64) * p1), .long p3]) (rest := [.long x3, .ref a0]) hx hb hml hts hown hK hJ rfl rfl (c_J9_floorDiv_f86c9 l G P ((-65536 : Int64) * p1) p3 σ2 x6 σ5 e7) me_J9_floorDiv_f86c9 kw_756 kw_755 (Nat.le_of_ble_eq_true rfl) (Nat.le_of_ble_eq_true rfl) rfl hl.1 rfl (Nat.le_of_ble_eq_true rfl) dX0_fraction_27 (fun H locs hJ => ?_)
    refine lv_lneg hx hb dX0_fraction_30 ?_
    obtain ⟨i8, e9, hf⟩ := mb0 hf
    obtain ⟨σ10, e11, hf⟩ := mb0 hf
    refine mx_callV (As := [.long x3, .long (-x6)]) (rest := []) hx hb hml hts hown hK hJ rfl rfl (ci := 0) rfl e9 (c_X0_keep l G P a0 x3 (-x6) σ5 σ10 e11) me_X0_keep kw_480 kw_481 kw_691 (Nat.le_of_ble_eq_true rfl) (Nat.le_of_ble_eq_true rfl) rfl hl.1 rfl (Nat.le_of_ble_eq_true rfl) dX0_fraction_31 (fun H locs hJ => ?_)
    exact my_vret hx hb hr hlocks hJ hf dX0_fraction_34
  · rw [if_neg c1] at hf
    refine lv_aload_n hx hb dX0_fraction_6 rfl (lv_at hl 0 rfl) ?_
    obtain ⟨i12, e13, hf⟩ := mb0 hf
    obtain ⟨σ14, e15, hf⟩ := mb0 hf
    refine mx_callV (As := []) (rest := []) hx hb hml hts hown hK hJ rfl rfl (ci := 0) rfl e13 (c_X0_shut l G P a0 σ σ14 e15) me_X0_shut kw_671 kw_672 kw_690 (Nat.le_of_ble_eq_true rfl) (Nat.le_of_ble_eq_true rfl) rfl hl.1 rfl (Nat.le_of_ble_eq_true rfl) dX0_fraction_7 (fun H locs hJ => ?_)
    exact my_vret hx hb hr hlocks hJ hf dX0_fraction_10
set_option maxHeartbeats 4000000 in
set_option maxRecDepth 100000 in
theorem c_X0_plus (l : Launch) (G : mx_G) (P : mx_P) (a0 : Nat) (a1 : Nat) (a2 : Nat) (σ : mx_S) (σ' : mx_S) (hf : f_X0_plus P a0 a1 a2 σ = some σ') : mxz σ ≤ mpc P → mxu σ ≤ mps P → mx_M l yX0_plus cX0_plus 3 none 1 24 G P [.ref a0, .ref a1, .ref a2] σ none σ' := by
  intro hcap hcau
  refine mx_ofW (by decide +kernel) hcap hcau (Nat.le_of_ble_eq_true rfl) ?_
  intro p e s m below meth c hx hb hr hml hts hown hlocks hname hK hJ ls hl
  have hz0 := hJ.2.1
  have hown : s.vm.findClass RX0 = some m.cls := hown
  have hl : lv_has ls 3 [(0, .ref a0), (1, .ref a1), (2, .ref a2)] := hl
  have D14 : ∀ (v0 : Nat) (τ : mx_S), f_X0_plus_D14 P v0 τ = some σ' → ∀ (H : Heap) (locs : List Loc), mx_J G P s.heap (mxz σ) (mxu σ) τ H locs → ∀ ls : Array Slot, lv_has ls 3 [(0, .ref v0)] → W p l e (mx_rm P 1 24 σ) s m ([.ref a0, .ref a1, .ref a2] : List Value).toArray below meth c H locs (mxz τ - mxz σ) (mxu τ - mxu σ) (mx_Z below G P none σ σ' [.ref a0, .ref a1, .ref a2] s) (F0 m 14 ls []) := by
    intro v0 τ hf _ _ hJ ls hl
    unfold f_X0_plus_D14 at hf
    refine lv_aload_n hx hb dX0_plus_14 rfl (lv_at hl 0 rfl) ?_
    obtain ⟨i4, e5, hf⟩ := mb0 hf
    obtain ⟨σ6, e7, hf⟩ := mb0 hf
    refine mx_callV (As := []) (rest := []) hx hb hml hts hown hK hJ rfl rfl (ci := 0) rfl e5 (c_X0_shut l G P v0 τ σ6 e7) me_X0_shut kw_671 kw_672 kw_690 (Nat.le_of_ble_eq_true rfl) (Nat.le_of_ble_eq_true rfl) rfl hl.1 rfl (Nat.le_of_ble_eq_true rfl) dX0_plus_15 (fun H locs hJ => ?_)
    exact my_vret hx hb hr hlocks hJ hf dX0_plus_18
  unfold f_X0_plus at hf
  refine lv_aload_n hx hb dX0_plus_0 rfl (lv_at hl 1 rfl) ?_
  obtain ⟨x1, e2, hf⟩ := mb0 hf
  refine my_gI hx hb hts hown hK hJ fd_RX0_16 hv_0_2 e2 dX0_plus_1 ?_
  refine lv_if_ne (tgt := 14) hx hb dX0_plus_4 (by decide) (fun c3 => ?_) (fun c3 => ?_)
  · rw [if_neg c3] at hf
    exact D14 a0 σ hf _ _ hJ ls (lv_sub hl [0] rfl)
  · rw [if_pos c3] at hf
    refine lv_aload_n hx hb dX0_plus_7 rfl (lv_at hl 2 rfl) ?_
    obtain ⟨x8, e9, hf⟩ := mb0 hf
    refine my_gI hx hb hts hown hK hJ fd_RX0_16 hv_0_2 e9 dX0_plus_8 ?_
    refine lv_if_eq (tgt := 19) hx hb dX0_plus_11 (by decide) (fun c10 => ?_) (fun c10 => ?_)
    · rw [if_pos c10] at hf
      refine lv_aload_n hx hb dX0_plus_19 rfl (lv_at hl 0 rfl) ?_
      refine lv_aload_n hx hb dX0_plus_20 rfl (lv_at hl 1 rfl) ?_
      obtain ⟨x11, e12, hf⟩ := mb0 hf
      refine my_gL hx hb hts hown hK hJ fd_RX0_7 hv_0_0 e12 dX0_plus_21 ?_
      refine lv_aload_n hx hb dX0_plus_24 rfl (lv_at hl 2 rfl) ?_
      obtain ⟨x13, e14, hf⟩ := mb0 hf
      refine my_gL hx hb hts hown hK hJ fd_RX0_7 hv_0_0 e14 dX0_plus_25 ?_
      refine lv_ladd hx hb dX0_plus_28 ?_
      refine lv_aload_n hx hb dX0_plus_29 rfl (lv_at hl 1 rfl) ?_
      obtain ⟨x15, e16, hf⟩ := mb0 hf
      refine my_gL hx hb hts hown hK hJ fd_RX0_13 hv_0_1 e16 dX0_plus_30 ?_
      refine lv_aload_n hx hb dX0_plus_33 rfl (lv_at hl 2 rfl) ?_
      obtain ⟨x17, e18, hf⟩ := mb0 hf
      refine my_gL hx hb hts hown hK hJ fd_RX0_13 hv_0_1 e18 dX0_plus_34 ?_
      refine lv_ladd hx hb dX0_plus_37 ?_
      obtain ⟨i19, e20, hf⟩ := mb0 hf
      obtain ⟨σ21, e22, hf⟩ := mb0 hf
      refine mx_callV (As := [.long (x11 + x13), .long (x15 + x17)]) (rest := []) hx hb hml hts hown hK hJ rfl rfl (ci := 0) rfl e20 (c_X0_keep l G P a0 (x11 + x13) (x15 + x17) σ σ21 e22) me_X0_keep kw_480 kw_481 kw_691 (Nat.le_of_ble_eq_true rfl) (Nat.le_of_ble_eq_true rfl) rfl hl.1 rfl (Nat.le_of_ble_eq_true rfl) dX0_plus_38 (fun H locs hJ => ?_)
      exact my_vret hx hb hr hlocks hJ hf dX0_plus_41
    · rw [if_neg c10] at hf
      exact D14 a0 σ hf _ _ hJ ls (lv_sub hl [0] rfl)
set_option maxHeartbeats 4000000 in
set_option maxRecDepth 100000 in
theorem c_X0_minus (l : Launch) (G : mx_G) (P : mx_P) (a0 : Nat) (a1 : Nat) (a2 : Nat) (σ : mx_S) (σ' : mx_S) (hf : f_X0_minus P a0 a1 a2 σ = some σ') : mxz σ ≤ mpc P → mxu σ ≤ mps P → mx_M l yX0_minus cX0_minus 3 none 1 24 G P [.ref a0, .ref a1, .ref a2] σ none σ' := by
  intro hcap hcau
  refine mx_ofW (by decide +kernel) hcap hcau (Nat.le_of_ble_eq_true rfl) ?_
  intro p e s m below meth c hx hb hr hml hts hown hlocks hname hK hJ ls hl
  have hz0 := hJ.2.1
  have hown : s.vm.findClass RX0 = some m.cls := hown
  have hl : lv_has ls 3 [(0, .ref a0), (1, .ref a1), (2, .ref a2)] := hl
  have D14 : ∀ (v0 : Nat) (τ : mx_S), f_X0_minus_D14 P v0 τ = some σ' → ∀ (H : Heap) (locs : List Loc), mx_J G P s.heap (mxz σ) (mxu σ) τ H locs → ∀ ls : Array Slot, lv_has ls 3 [(0, .ref v0)] → W p l e (mx_rm P 1 24 σ) s m ([.ref a0, .ref a1, .ref a2] : List Value).toArray below meth c H locs (mxz τ - mxz σ) (mxu τ - mxu σ) (mx_Z below G P none σ σ' [.ref a0, .ref a1, .ref a2] s) (F0 m 14 ls []) := by
    intro v0 τ hf _ _ hJ ls hl
    unfold f_X0_minus_D14 at hf
    refine lv_aload_n hx hb dX0_minus_14 rfl (lv_at hl 0 rfl) ?_
    obtain ⟨i4, e5, hf⟩ := mb0 hf
    obtain ⟨σ6, e7, hf⟩ := mb0 hf
    refine mx_callV (As := []) (rest := []) hx hb hml hts hown hK hJ rfl rfl (ci := 0) rfl e5 (c_X0_shut l G P v0 τ σ6 e7) me_X0_shut kw_671 kw_672 kw_690 (Nat.le_of_ble_eq_true rfl) (Nat.le_of_ble_eq_true rfl) rfl hl.1 rfl (Nat.le_of_ble_eq_true rfl) dX0_minus_15 (fun H locs hJ => ?_)
    exact my_vret hx hb hr hlocks hJ hf dX0_minus_18
  unfold f_X0_minus at hf
  refine lv_aload_n hx hb dX0_minus_0 rfl (lv_at hl 1 rfl) ?_
  obtain ⟨x1, e2, hf⟩ := mb0 hf
  refine my_gI hx hb hts hown hK hJ fd_RX0_16 hv_0_2 e2 dX0_minus_1 ?_
  refine lv_if_ne (tgt := 14) hx hb dX0_minus_4 (by decide) (fun c3 => ?_) (fun c3 => ?_)
  · rw [if_neg c3] at hf
    exact D14 a0 σ hf _ _ hJ ls (lv_sub hl [0] rfl)
  · rw [if_pos c3] at hf
    refine lv_aload_n hx hb dX0_minus_7 rfl (lv_at hl 2 rfl) ?_
    obtain ⟨x8, e9, hf⟩ := mb0 hf
    refine my_gI hx hb hts hown hK hJ fd_RX0_16 hv_0_2 e9 dX0_minus_8 ?_
    refine lv_if_eq (tgt := 19) hx hb dX0_minus_11 (by decide) (fun c10 => ?_) (fun c10 => ?_)
    · rw [if_pos c10] at hf
      refine lv_aload_n hx hb dX0_minus_19 rfl (lv_at hl 0 rfl) ?_
      refine lv_aload_n hx hb dX0_minus_20 rfl (lv_at hl 1 rfl) ?_
      obtain ⟨x11, e12, hf⟩ := mb0 hf
      refine my_gL hx hb hts hown hK hJ fd_RX0_7 hv_0_0 e12 dX0_minus_21 ?_
      refine lv_aload_n hx hb dX0_minus_24 rfl (lv_at hl 2 rfl) ?_
      obtain ⟨x13, e14, hf⟩ := mb0 hf
      refine my_gL hx hb hts hown hK hJ fd_RX0_13 hv_0_1 e14 dX0_minus_25 ?_
      refine lv_lsub hx hb dX0_minus_28 ?_
      refine lv_aload_n hx hb dX0_minus_29 rfl (lv_at hl 1 rfl) ?_
      obtain ⟨x15, e16, hf⟩ := mb0 hf
      refine my_gL hx hb hts hown hK hJ fd_RX0_13 hv_0_1 e16 dX0_minus_30 ?_
      refine lv_aload_n hx hb dX0_minus_33 rfl (lv_at hl 2 rfl) ?_
      obtain ⟨x17, e18, hf⟩ := mb0 hf
      refine my_gL hx hb hts hown hK hJ fd_RX0_7 hv_0_0 e18 dX0_minus_34 ?_
      refine lv_lsub hx hb dX0_minus_37 ?_
      obtain ⟨i19, e20, hf⟩ := mb0 hf
      obtain ⟨σ21, e22, hf⟩ := mb0 hf
      refine mx_callV (As := [.long (x11 - x13), .long (x15 - x17)]) (rest := []) hx hb hml hts hown hK hJ rfl rfl (ci := 0) rfl e20 (c_X0_keep l G P a0 (x11 - x13) (x15 - x17) σ σ21 e22) me_X0_keep kw_480 kw_481 kw_691 (Nat.le_of_ble_eq_true rfl) (Nat.le_of_ble_eq_true rfl) rfl hl.1 rfl (Nat.le_of_ble_eq_true rfl) dX0_minus_38 (fun H locs hJ => ?_)
      exact my_vret hx hb hr hlocks hJ hf dX0_minus_41
    · rw [if_neg c10] at hf
      exact D14 a0 σ hf _ _ hJ ls (lv_sub hl [0] rfl)
set_option maxHeartbeats 4000000 in
set_option maxRecDepth 100000 in
theorem c_X0_negative (l : Launch) (G : mx_G) (P : mx_P) (a0 : Nat) (a1 : Nat) (σ : mx_S) (σ' : mx_S) (hf : f_X0_negative P a0 a1 σ = some σ') : mxz σ ≤ mpc P → mxu σ ≤ mps P → mx_M l yX0_negative cX0_negative 2 none 1 24 G P [.ref a0, .ref a1] σ none σ' := by
  intro hcap hcau
  refine mx_ofW (by decide +kernel) hcap hcau (Nat.le_of_ble_eq_true rfl) ?_
  intro p e s m below meth c hx hb hr hml hts hown hlocks hname hK hJ ls hl
  have hz0 := hJ.2.1
  have hown : s.vm.findClass RX0 = some m.cls := hown
  have hl : lv_has ls 2 [(0, .ref a0), (1, .ref a1)] := hl
  unfold f_X0_negative at hf
  refine lv_aload_n hx hb dX0_negative_0 rfl (lv_at hl 1 rfl) ?_
  obtain ⟨x1, e2, hf⟩ := mb0 hf
  refine my_gI hx hb hts hown hK hJ fd_RX0_16 hv_0_2 e2 dX0_negative_1 ?_
  refine lv_if_eq (tgt := 12) hx hb dX0_negative_4 (by decide) (fun c3 => ?_) (fun c3 => ?_)
  · rw [if_pos c3] at hf
    refine lv_aload_n hx hb dX0_negative_12 rfl (lv_at hl 0 rfl) ?_
    refine lv_aload_n hx hb dX0_negative_13 rfl (lv_at hl 1 rfl) ?_
    obtain ⟨x4, e5, hf⟩ := mb0 hf
    refine my_gL hx hb hts hown hK hJ fd_RX0_13 hv_0_1 e5 dX0_negative_14 ?_
    refine lv_lneg hx hb dX0_negative_17 ?_
    refine lv_aload_n hx hb dX0_negative_18 rfl (lv_at hl 1 rfl) ?_
    obtain ⟨x6, e7, hf⟩ := mb0 hf
    refine my_gL hx hb hts hown hK hJ fd_RX0_7 hv_0_0 e7 dX0_negative_19 ?_
    refine lv_lneg hx hb dX0_negative_22 ?_
    obtain ⟨i8, e9, hf⟩ := mb0 hf
    obtain ⟨σ10, e11, hf⟩ := mb0 hf
    refine mx_callV (As := [.long (-x4), .long (-x6)]) (rest := []) hx hb hml hts hown hK hJ rfl rfl (ci := 0) rfl e9 (c_X0_keep l G P a0 (-x4) (-x6) σ σ10 e11) me_X0_keep kw_480 kw_481 kw_691 (Nat.le_of_ble_eq_true rfl) (Nat.le_of_ble_eq_true rfl) rfl hl.1 rfl (Nat.le_of_ble_eq_true rfl) dX0_negative_23 (fun H locs hJ => ?_)
    exact my_vret hx hb hr hlocks hJ hf dX0_negative_26
  · rw [if_neg c3] at hf
    refine lv_aload_n hx hb dX0_negative_7 rfl (lv_at hl 0 rfl) ?_
    obtain ⟨i12, e13, hf⟩ := mb0 hf
    obtain ⟨σ14, e15, hf⟩ := mb0 hf
    refine mx_callV (As := []) (rest := []) hx hb hml hts hown hK hJ rfl rfl (ci := 0) rfl e13 (c_X0_shut l G P a0 σ σ14 e15) me_X0_shut kw_671 kw_672 kw_690 (Nat.le_of_ble_eq_true rfl) (Nat.le_of_ble_eq_true rfl) rfl hl.1 rfl (Nat.le_of_ble_eq_true rfl) dX0_negative_8 (fun H locs hJ => ?_)
    exact my_vret hx hb hr hlocks hJ hf dX0_negative_11
set_option maxHeartbeats 4000000 in
set_option maxRecDepth 100000 in
theorem c_J9_min_f86c9 (l : Launch) (G : mx_G) (P : mx_P) (p0 : Int64) (p2 : Int64) (σ : mx_S) (r : Int64) (σ' : mx_S) (hf : f_J9_min_f86c9 P p0 p2 σ = some (r, σ')) : mxz σ ≤ mpc P → mxu σ ≤ mps P → mx_M l yJ9_min_f86c9 cJ9_min_f86c9 4 (some .long) 0 0 G P [.long p0, .long p2] σ (some (.long r)) σ' := by
  intro hcap hcau
  refine mx_ofW (by decide +kernel) hcap hcau (Nat.le_of_ble_eq_true rfl) ?_
  intro p e s m below meth c hx hb hr hml hts hown hlocks hname hK hJ ls hl
  have hz0 := hJ.2.1
  have hown : s.vm.findClass RJ9 = some m.cls := hown
  have hl : lv_has ls 4 [(0, .long p0), (2, .long p2)] := hl
  have D11 : ∀ (w0 : Int64) (τ : mx_S), f_J9_min_f86c9_D11 P w0 τ = some (r, σ') → ∀ (H : Heap) (locs : List Loc), mx_J G P s.heap (mxz σ) (mxu σ) τ H locs → ∀ ls : Array Slot, lv_has ls 4 [] → W p l e (mx_rm P 0 0 σ) s m ([.long p0, .long p2] : List Value).toArray below meth c H locs (mxz τ - mxz σ) (mxu τ - mxu σ) (mx_Z below G P (some (.long r)) σ σ' [.long p0, .long p2] s) (F0 m 11 ls [.long w0]) := by
    intro w0 τ hf _ _ hJ ls hl
    unfold f_J9_min_f86c9_D11 at hf
    exact my_lret hx hb hr hlocks hJ hf dJ9_min_f86c9_11
  unfold f_J9_min_f86c9 at hf
  refine lv_lload_n hx hb dJ9_min_f86c9_0 rfl (lv_at hl 0 rfl) ?_
  refine lv_lload_n hx hb dJ9_min_f86c9_1 rfl (lv_at hl 1 rfl) ?_
  refine W.lcmp hx hb dJ9_min_f86c9_2 ?_
  refine lv_if_gt (tgt := 10) hx hb dJ9_min_f86c9_3 (by decide) (fun c1 => ?_) (fun c1 => ?_)
  · rw [if_pos c1] at hf
    refine lv_lload_n hx hb dJ9_min_f86c9_10 rfl (lv_at hl 1 rfl) ?_
    exact D11 p2 σ hf _ _ hJ ls (lv_sub hl [] rfl)
  · rw [if_neg c1] at hf
    refine lv_lload_n hx hb dJ9_min_f86c9_6 rfl (lv_at hl 0 rfl) ?_
    refine lv_goto (tgt := 11) hx hb dJ9_min_f86c9_7 (by decide) ?_
    exact D11 p0 σ hf _ _ hJ ls (lv_sub hl [] rfl)
set_option maxHeartbeats 4000000 in
set_option maxRecDepth 100000 in
theorem c_J9_max_f86c9 (l : Launch) (G : mx_G) (P : mx_P) (p0 : Int64) (p2 : Int64) (σ : mx_S) (r : Int64) (σ' : mx_S) (hf : f_J9_max_f86c9 P p0 p2 σ = some (r, σ')) : mxz σ ≤ mpc P → mxu σ ≤ mps P → mx_M l yJ9_max_f86c9 cJ9_max_f86c9 4 (some .long) 0 0 G P [.long p0, .long p2] σ (some (.long r)) σ' := by
  intro hcap hcau
  refine mx_ofW (by decide +kernel) hcap hcau (Nat.le_of_ble_eq_true rfl) ?_
  intro p e s m below meth c hx hb hr hml hts hown hlocks hname hK hJ ls hl
  have hz0 := hJ.2.1
  have hown : s.vm.findClass RJ9 = some m.cls := hown
  have hl : lv_has ls 4 [(0, .long p0), (2, .long p2)] := hl
  have D11 : ∀ (w0 : Int64) (τ : mx_S), f_J9_max_f86c9_D11 P w0 τ = some (r, σ') → ∀ (H : Heap) (locs : List Loc), mx_J G P s.heap (mxz σ) (mxu σ) τ H locs → ∀ ls : Array Slot, lv_has ls 4 [] → W p l e (mx_rm P 0 0 σ) s m ([.long p0, .long p2] : List Value).toArray below meth c H locs (mxz τ - mxz σ) (mxu τ - mxu σ) (mx_Z below G P (some (.long r)) σ σ' [.long p0, .long p2] s) (F0 m 11 ls [.long w0]) := by
    intro w0 τ hf _ _ hJ ls hl
    unfold f_J9_max_f86c9_D11 at hf
    exact my_lret hx hb hr hlocks hJ hf dJ9_max_f86c9_11
  unfold f_J9_max_f86c9 at hf
  refine lv_lload_n hx hb dJ9_max_f86c9_0 rfl (lv_at hl 0 rfl) ?_
  refine lv_lload_n hx hb dJ9_max_f86c9_1 rfl (lv_at hl 1 rfl) ?_
  refine W.lcmp hx hb dJ9_max_f86c9_2 ?_
  refine lv_if_lt (tgt := 10) hx hb dJ9_max_f86c9_3 (by decide) (fun c1 => ?_) (fun c1 => ?_)
  · rw [if_pos c1] at hf
    refine lv_lload_n hx hb dJ9_max_f86c9_10 rfl (lv_at hl 1 rfl) ?_
    exact D11 p2 σ hf _ _ hJ ls (lv_sub hl [] rfl)
  · rw [if_neg c1] at hf
    refine lv_lload_n hx hb dJ9_max_f86c9_6 rfl (lv_at hl 0 rfl) ?_
    refine lv_goto (tgt := 11) hx hb dJ9_max_f86c9_7 (by decide) ?_
    exact D11 p0 σ hf _ _ hJ ls (lv_sub hl [] rfl)
set_option maxHeartbeats 4000000 in
set_option maxRecDepth 100000 in
theorem c_X0_addProduct (l : Launch) (G : mx_G) (P : mx_P) (a0 : Nat) (p1 : Int32) (a2 : Nat) (a3 : Nat) (σ : mx_S) (σ' : mx_S) (hf : f_X0_addProduct P a0 p1 a2 a3 σ = some σ') : mxz σ ≤ mpc P → mxu σ ≤ mps P → mx_M l yX0_addProduct cX0_addProduct 16 none 1 24 G P [.ref a0, .int p1, .ref a2, .ref a3] σ none σ' := by
  intro hcap hcau
  refine mx_ofW (by decide +kernel) hcap hcau (Nat.le_of_ble_eq_true rfl) ?_
  intro p e s m below meth c hx hb hr hml hts hown hlocks hname hK hJ ls hl
  have hz0 := hJ.2.1
  have hown : s.vm.findClass RX0 = some m.cls := hown
  have hl : lv_has ls 16 [(0, .ref a0), (1, .int p1), (2, .ref a2), (3, .ref a3)] := hl
  have D21 : ∀ (v0 : Nat) (τ : mx_S), f_X0_addProduct_D21 P v0 τ = some σ' → ∀ (H : Heap) (locs : List Loc), mx_J G P s.heap (mxz σ) (mxu σ) τ H locs → ∀ ls : Array Slot, lv_has ls 16 [(0, .ref v0)] → W p l e (mx_rm P 1 24 σ) s m ([.ref a0, .int p1, .ref a2, .ref a3] : List Value).toArray below meth c H locs (mxz τ - mxz σ) (mxu τ - mxu σ) (mx_Z below G P none σ σ' [.ref a0, .int p1, .ref a2, .ref a3] s) (F0 m 21 ls []) := by
    intro v0 τ hf _ _ hJ ls hl
    unfold f_X0_addProduct_D21 at hf
    refine lv_aload_n hx hb dX0_addProduct_21 rfl (lv_at hl 0 rfl) ?_
    obtain ⟨i4, e5, hf⟩ := mb0 hf
    obtain ⟨σ6, e7, hf⟩ := mb0 hf
    refine mx_callV (As := []) (rest := []) hx hb hml hts hown hK hJ rfl rfl (ci := 0) rfl e5 (c_X0_shut l G P v0 τ σ6 e7) me_X0_shut kw_671 kw_672 kw_690 (Nat.le_of_ble_eq_true rfl) (Nat.le_of_ble_eq_true rfl) rfl hl.1 rfl (Nat.le_of_ble_eq_true rfl) dX0_addProduct_22 (fun H locs hJ => ?_)
    exact my_vret hx hb hr hlocks hJ hf dX0_addProduct_25
  have D184 : ∀  (τ : mx_S), f_X0_addProduct_D184 P  τ = some σ' → ∀ (H : Heap) (locs : List Loc), mx_J G P s.heap (mxz σ) (mxu σ) τ H locs → ∀ ls : Array Slot, lv_has ls 16 [] → W p l e (mx_rm P 1 24 σ) s m ([.ref a0, .int p1, .ref a2, .ref a3] : List Value).toArray below meth c H locs (mxz τ - mxz σ) (mxu τ - mxu σ) (mx_Z below G P none σ σ' [.ref a0, .int p1, .ref a2, .ref a3] s) (F0 m 184 ls []) := by
    intro  τ hf _ _ hJ ls hl
    unfold f_X0_addProduct_D184 at hf
    exact my_vret hx hb hr hlocks hJ hf dX0_addProduct_184
  have D134 : ∀ (v0 : Nat) (τ : mx_S), f_X0_addProduct_D134 P v0 τ = some σ' → ∀ (H : Heap) (locs : List Loc), mx_J G P s.heap (mxz σ) (mxu σ) τ H locs → ∀ ls : Array Slot, lv_has ls 16 [(0, .ref v0)] → W p l e (mx_rm P 1 24 σ) s m ([.ref a0, .int p1, .ref a2, .ref a3] : List Value).toArray below meth c H locs (mxz τ - mxz σ) (mxu τ - mxu σ) (mx_Z below G P none σ σ' [.ref a0, .int p1, .ref a2, .ref a3] s) (F0 m 134 ls []) := by
    intro v0 τ hf _ _ hJ ls hl
    unfold f_X0_addProduct_D134 at hf
    refine lv_aload_n hx hb dX0_addProduct_134 rfl (lv_at hl 0 rfl) ?_
    obtain ⟨i61, e62, hf⟩ := mb0 hf
    obtain ⟨σ63, e64, hf⟩ := mb0 hf
    refine mx_callV (As := []) (rest := []) hx hb hml hts hown hK hJ rfl rfl (ci := 0) rfl e62 (c_X0_shut l G P v0 τ σ63 e64) me_X0_shut kw_671 kw_672 kw_690 (Nat.le_of_ble_eq_true rfl) (Nat.le_of_ble_eq_true rfl) rfl hl.1 rfl (Nat.le_of_ble_eq_true rfl) dX0_addProduct_135 (fun H locs hJ => ?_)
    refine lv_goto (tgt := 184) hx hb dX0_addProduct_138 (by decide) ?_
    exact D184  σ63 hf _ _ hJ ls (lv_sub hl [] rfl)
  unfold f_X0_addProduct at hf
  refine lv_aload_n hx hb dX0_addProduct_0 rfl (lv_at hl 0 rfl) ?_
  obtain ⟨x1, e2, hf⟩ := mb0 hf
  refine my_gI hx hb hts hown hK hJ fd_RX0_16 hv_0_2 e2 dX0_addProduct_1 ?_
  refine lv_if_ne (tgt := 21) hx hb dX0_addProduct_4 (by decide) (fun c3 => ?_) (fun c3 => ?_)
  · rw [if_neg c3] at hf
    exact D21 a0 σ hf _ _ hJ ls (lv_sub hl [0] rfl)
  · rw [if_pos c3] at hf
    refine lv_aload_n hx hb dX0_addProduct_7 rfl (lv_at hl 2 rfl) ?_
    obtain ⟨x8, e9, hf⟩ := mb0 hf
    refine my_gI hx hb hts hown hK hJ fd_RX0_16 hv_0_2 e9 dX0_addProduct_8 ?_
    refine lv_if_ne (tgt := 21) hx hb dX0_addProduct_11 (by decide) (fun c10 => ?_) (fun c10 => ?_)
    · rw [if_neg c10] at hf
      exact D21 a0 σ hf _ _ hJ ls (lv_sub hl [0] rfl)
    · rw [if_pos c10] at hf
      refine lv_aload_n hx hb dX0_addProduct_14 rfl (lv_at hl 3 rfl) ?_
      obtain ⟨x11, e12, hf⟩ := mb0 hf
      refine my_gI hx hb hts hown hK hJ fd_RX0_16 hv_0_2 e12 dX0_addProduct_15 ?_
      refine lv_if_eq (tgt := 26) hx hb dX0_addProduct_18 (by decide) (fun c13 => ?_) (fun c13 => ?_)
      · rw [if_pos c13] at hf
        refine lv_aload_n hx hb dX0_addProduct_26 rfl (lv_at hl 2 rfl) ?_
        obtain ⟨x14, e15, hf⟩ := mb0 hf
        refine my_gL hx hb hts hown hK hJ fd_RX0_7 hv_0_0 e15 dX0_addProduct_27 ?_
        refine lv_aload_n hx hb dX0_addProduct_30 rfl (lv_at hl 3 rfl) ?_
        obtain ⟨x16, e17, hf⟩ := mb0 hf
        refine my_gL hx hb hts hown hK hJ fd_RX0_7 hv_0_0 e17 dX0_addProduct_31 ?_
        refine lv_lmul hx hb dX0_addProduct_34 ?_
        obtain ⟨x18, e19, hf⟩ := mb0 hf
        refine mx_nL e19 ?_
        refine lv_lstore (lv' := [(4, .long x18), (0, .ref a0), (1, .int p1), (2, .ref a2), (3, .ref a3)]) hx hb dX0_addProduct_35 hl (by decide) rfl (fun ls hl => ?_)
        refine lv_aload_n hx hb dX0_addProduct_37 rfl (lv_at hl 3 rfl) ?_
        obtain ⟨x20, e21, hf⟩ := mb0 hf
        refine my_gL hx hb hts hown hK hJ fd_RX0_7 hv_0_0 e21 dX0_addProduct_38 ?_
        refine lv_aload_n hx hb dX0_addProduct_41 rfl (lv_at hl 4 rfl) ?_
        obtain ⟨x22, e23, hf⟩ := mb0 hf
        refine my_gL hx hb hts hown hK hJ fd_RX0_13 hv_0_1 e23 dX0_addProduct_42 ?_
        refine lv_lmul hx hb dX0_addProduct_45 ?_
        obtain ⟨x24, e25, hf⟩ := mb0 hf
        refine mx_nL e25 ?_
        refine lv_lstore (lv' := [(6, .long x24), (4, .long x18), (0, .ref a0), (1, .int p1), (2, .ref a2), (3, .ref a3)]) hx hb dX0_addProduct_46 hl (by decide) rfl (fun ls hl => ?_)
        refine lv_aload_n hx hb dX0_addProduct_48 rfl (lv_at hl 4 rfl) ?_
        obtain ⟨x26, e27, hf⟩ := mb0 hf
        refine my_gL hx hb hts hown hK hJ fd_RX0_13 hv_0_1 e27 dX0_addProduct_49 ?_
        refine lv_aload_n hx hb dX0_addProduct_52 rfl (lv_at hl 5 rfl) ?_
        obtain ⟨x28, e29, hf⟩ := mb0 hf
        refine my_gL hx hb hts hown hK hJ fd_RX0_7 hv_0_0 e29 dX0_addProduct_53 ?_
        refine lv_lmul hx hb dX0_addProduct_56 ?_
        obtain ⟨x30, e31, hf⟩ := mb0 hf
        refine mx_nL e31 ?_
        refine lv_lstore (lv' := [(8, .long x30), (6, .long x24), (4, .long x18), (0, .ref a0), (1, .int p1), (2, .ref a2), (3, .ref a3)]) hx hb dX0_addProduct_57 hl (by decide) rfl (fun ls hl => ?_)
        refine lv_aload_n hx hb dX0_addProduct_59 rfl (lv_at hl 5 rfl) ?_
        obtain ⟨x32, e33, hf⟩ := mb0 hf
        refine my_gL hx hb hts hown hK hJ fd_RX0_13 hv_0_1 e33 dX0_addProduct_60 ?_
        refine lv_aload_n hx hb dX0_addProduct_63 rfl (lv_at hl 6 rfl) ?_
        obtain ⟨x34, e35, hf⟩ := mb0 hf
        refine my_gL hx hb hts hown hK hJ fd_RX0_13 hv_0_1 e35 dX0_addProduct_64 ?_
        refine lv_lmul hx hb dX0_addProduct_67 ?_
        obtain ⟨x36, e37, hf⟩ := mb0 hf
        refine mx_nL e37 ?_
        refine lv_lstore (lv' := [(10, .long x36), (8, .long x30), (6, .long x24), (4, .long x18), (0, .ref a0), (1, .int p1), (2, .ref a2), (3, .ref a3)]) hx hb dX0_addProduct_68 hl (by decide) rfl (fun ls hl => ?_)
        refine lv_lload hx hb dX0_addProduct_70 (lv_at hl 3 rfl) ?_
        refine lv_lload hx hb dX0_addProduct_72 (lv_at hl 2 rfl) ?_
        obtain ⟨x39, σ38, e40, hf⟩ := mc0 hf
        refine mx_callS (As := [.long x18, .long x24]) (rest := []) hx hb hml hts hown hK hJ rfl rfl (c_J9_min_f86c9 l G P x18 x24 σ x39 σ38 e40) me_J9_min_f86c9 kw_709 kw_708 (Nat.le_of_ble_eq_true rfl) (Nat.le_of_ble_eq_true rfl) rfl hl.1 rfl (Nat.le_of_ble_eq_true rfl) dX0_addProduct_74 (fun H locs hJ => ?_)
        refine lv_lload hx hb dX0_addProduct_77 (lv_at hl 1 rfl) ?_
        refine lv_lload hx hb dX0_addProduct_79 (lv_at hl 0 rfl) ?_
        obtain ⟨x42, σ41, e43, hf⟩ := mc0 hf
        refine mx_callS (As := [.long x30, .long x36]) (rest := [.long x39]) hx hb hml hts hown hK hJ rfl rfl (c_J9_min_f86c9 l G P x30 x36 σ38 x42 σ41 e43) me_J9_min_f86c9 kw_709 kw_708 (Nat.le_of_ble_eq_true rfl) (Nat.le_of_ble_eq_true rfl) rfl hl.1 rfl (Nat.le_of_ble_eq_true rfl) dX0_addProduct_81 (fun H locs hJ => ?_)
        obtain ⟨x45, σ44, e46, hf⟩ := mc0 hf
        refine mx_callS (As := [.long x39, .long x42]) (rest := []) hx hb hml hts hown hK hJ rfl rfl (c_J9_min_f86c9 l G P x39 x42 σ41 x45 σ44 e46) me_J9_min_f86c9 kw_709 kw_708 (Nat.le_of_ble_eq_true rfl) (Nat.le_of_ble_eq_true rfl) rfl hl.1 rfl (Nat.le_of_ble_eq_true rfl) dX0_addProduct_84 (fun H locs hJ => ?_)
        refine lv_bipush (v := 16) hx hb dX0_addProduct_87 (by decide) ?_
        refine lv_lshr hx hb dX0_addProduct_89 rfl ?_
        obtain ⟨x47, e48, hf⟩ := mb0 hf
        refine mx_nL e48 ?_
        refine lv_lstore (lv' := [(12, .long x47), (10, .long x36), (8, .long x30), (6, .long x24), (4, .long x18), (0, .ref a0), (1, .int p1), (2, .ref a2), (3, .ref a3)]) hx hb dX0_addProduct_90 hl (by decide) rfl (fun ls hl => ?_)
        refine lv_lload hx hb dX0_addProduct_92 (lv_at hl 4 rfl) ?_
        refine lv_lload hx hb dX0_addProduct_94 (lv_at hl 3 rfl) ?_
        obtain ⟨x50, σ49, e51, hf⟩ := mc0 hf
        refine mx_callS (As := [.long x18, .long x24]) (rest := []) hx hb hml hts hown hK hJ rfl rfl (c_J9_max_f86c9 l G P x18 x24 σ44 x50 σ49 e51) me_J9_max_f86c9 kw_712 kw_711 (Nat.le_of_ble_eq_true rfl) (Nat.le_of_ble_eq_true rfl) rfl hl.1 rfl (Nat.le_of_ble_eq_true rfl) dX0_addProduct_96 (fun H locs hJ => ?_)
        refine lv_lload hx hb dX0_addProduct_99 (lv_at hl 2 rfl) ?_
        refine lv_lload hx hb dX0_addProduct_101 (lv_at hl 1 rfl) ?_
        obtain ⟨x53, σ52, e54, hf⟩ := mc0 hf
        refine mx_callS (As := [.long x30, .long x36]) (rest := [.long x50]) hx hb hml hts hown hK hJ rfl rfl (c_J9_max_f86c9 l G P x30 x36 σ49 x53 σ52 e54) me_J9_max_f86c9 kw_712 kw_711 (Nat.le_of_ble_eq_true rfl) (Nat.le_of_ble_eq_true rfl) rfl hl.1 rfl (Nat.le_of_ble_eq_true rfl) dX0_addProduct_103 (fun H locs hJ => ?_)
        obtain ⟨x56, σ55, e57, hf⟩ := mc0 hf
        refine mx_callS (As := [.long x50, .long x53]) (rest := []) hx hb hml hts hown hK hJ rfl rfl (c_J9_max_f86c9 l G P x50 x53 σ52 x56 σ55 e57) me_J9_max_f86c9 kw_712 kw_711 (Nat.le_of_ble_eq_true rfl) (Nat.le_of_ble_eq_true rfl) rfl hl.1 rfl (Nat.le_of_ble_eq_true rfl) dX0_addProduct_106 (fun H locs hJ => ?_)
        refine lv_lneg hx hb dX0_addProduct_109 ?_
        refine lv_bipush (v := 16) hx hb dX0_addProduct_110 (by decide) ?_
        refine lv_lshr hx hb dX0_addProduct_112 rfl ?_
        refine lv_lneg hx hb dX0_addProduct_113 ?_
        obtain ⟨x58, e59, hf⟩ := mb0 hf
        refine mx_nL e59 ?_
        refine lv_lstore (lv' := [(14, .long x58), (12, .long x47), (10, .long x36), (8, .long x30), (6, .long x24), (4, .long x18), (0, .ref a0), (1, .int p1), (2, .ref a2), (3, .ref a3)]) hx hb dX0_addProduct_114 hl (by decide) rfl (fun ls hl => ?_)
        refine lv_lload hx hb dX0_addProduct_116 (lv_at hl 1 rfl) ?_
        refine lv_ldc2 hx hb hown (hts _ kw_483) dX0_addProduct_118 ?_
        refine W.lcmp hx hb dX0_addProduct_121 ?_
        refine lv_if_lt (tgt := 134) hx hb dX0_addProduct_122 (by decide) (fun c60 => ?_) (fun c60 => ?_)
        · rw [if_pos c60] at hf
          exact D134 a0 σ55 hf _ _ hJ ls (lv_sub hl [6] rfl)
        · rw [if_neg c60] at hf
          refine lv_lload hx hb dX0_addProduct_125 (lv_at hl 0 rfl) ?_
          refine lv_ldc2 hx hb hown (hts _ kw_484) dX0_addProduct_127 ?_
          refine W.lcmp hx hb dX0_addProduct_130 ?_
          refine lv_if_le (tgt := 141) hx hb dX0_addProduct_131 (by decide) (fun c65 => ?_) (fun c65 => ?_)
          · rw [if_pos c65] at hf
            refine lv_iload_n hx hb dX0_addProduct_141 rfl (lv_at hl 7 rfl) ?_
            refine lv_if_le (tgt := 166) hx hb dX0_addProduct_142 (by decide) (fun c66 => ?_) (fun c66 => ?_)
            · rw [if_pos c66] at hf
              refine lv_aload_n hx hb dX0_addProduct_166 rfl (lv_at hl 6 rfl) ?_
              refine lv_aload_n hx hb dX0_addProduct_167 rfl (lv_at hl 6 rfl) ?_
              obtain ⟨x67, e68, hf⟩ := mb0 hf
              refine my_gL hx hb hts hown hK hJ fd_RX0_7 hv_0_0 e68 dX0_addProduct_168 ?_
              refine lv_lload hx hb dX0_addProduct_171 (lv_at hl 0 rfl) ?_
              refine lv_lsub hx hb dX0_addProduct_173 ?_
              refine lv_aload_n hx hb dX0_addProduct_174 rfl (lv_at hl 6 rfl) ?_
              obtain ⟨x69, e70, hf⟩ := mb0 hf
              refine my_gL hx hb hts hown hK hJ fd_RX0_13 hv_0_1 e70 dX0_addProduct_175 ?_
              refine lv_lload hx hb dX0_addProduct_178 (lv_at hl 1 rfl) ?_
              refine lv_lsub hx hb dX0_addProduct_180 ?_
              obtain ⟨i71, e72, hf⟩ := mb0 hf
              obtain ⟨σ73, e74, hf⟩ := mb0 hf
              refine mx_callV (As := [.long (x67 - x58), .long (x69 - x47)]) (rest := []) hx hb hml hts hown hK hJ rfl rfl (ci := 0) rfl e72 (c_X0_keep l G P a0 (x67 - x58) (x69 - x47) σ55 σ73 e74) me_X0_keep kw_480 kw_481 kw_691 (Nat.le_of_ble_eq_true rfl) (Nat.le_of_ble_eq_true rfl) rfl hl.1 rfl (Nat.le_of_ble_eq_true rfl) dX0_addProduct_181 (fun H locs hJ => ?_)
              exact D184  σ73 hf _ _ hJ ls (lv_sub hl [] rfl)
            · rw [if_neg c66] at hf
              refine lv_aload_n hx hb dX0_addProduct_145 rfl (lv_at hl 6 rfl) ?_
              refine lv_aload_n hx hb dX0_addProduct_146 rfl (lv_at hl 6 rfl) ?_
              obtain ⟨x75, e76, hf⟩ := mb0 hf
              refine my_gL hx hb hts hown hK hJ fd_RX0_7 hv_0_0 e76 dX0_addProduct_147 ?_
              refine lv_lload hx hb dX0_addProduct_150 (lv_at hl 1 rfl) ?_
              refine lv_ladd hx hb dX0_addProduct_152 ?_
              refine lv_aload_n hx hb dX0_addProduct_153 rfl (lv_at hl 6 rfl) ?_
              obtain ⟨x77, e78, hf⟩ := mb0 hf
              refine my_gL hx hb hts hown hK hJ fd_RX0_13 hv_0_1 e78 dX0_addProduct_154 ?_
              refine lv_lload hx hb dX0_addProduct_157 (lv_at hl 0 rfl) ?_
              refine lv_ladd hx hb dX0_addProduct_159 ?_
              obtain ⟨i79, e80, hf⟩ := mb0 hf
              obtain ⟨σ81, e82, hf⟩ := mb0 hf
              refine mx_callV (As := [.long (x75 + x47), .long (x77 + x58)]) (rest := []) hx hb hml hts hown hK hJ rfl rfl (ci := 0) rfl e80 (c_X0_keep l G P a0 (x75 + x47) (x77 + x58) σ55 σ81 e82) me_X0_keep kw_480 kw_481 kw_691 (Nat.le_of_ble_eq_true rfl) (Nat.le_of_ble_eq_true rfl) rfl hl.1 rfl (Nat.le_of_ble_eq_true rfl) dX0_addProduct_160 (fun H locs hJ => ?_)
              refine lv_goto (tgt := 184) hx hb dX0_addProduct_163 (by decide) ?_
              exact D184  σ81 hf _ _ hJ ls (lv_sub hl [] rfl)
          · rw [if_neg c65] at hf
            exact D134 a0 σ55 hf _ _ hJ ls (lv_sub hl [6] rfl)
      · rw [if_neg c13] at hf
        exact D21 a0 σ hf _ _ hJ ls (lv_sub hl [0] rfl)
set_option maxHeartbeats 4000000 in
set_option maxRecDepth 100000 in
theorem c_X0_addSquare (l : Launch) (G : mx_G) (P : mx_P) (a0 : Nat) (a1 : Nat) (σ : mx_S) (σ' : mx_S) (hf : f_X0_addSquare P a0 a1 σ = some σ') : mxz σ ≤ mpc P → mxu σ ≤ mps P → mx_M l yX0_addSquare cX0_addSquare 10 none 1 24 G P [.ref a0, .ref a1] σ none σ' := by
  intro hcap hcau
  refine mx_ofW (by decide +kernel) hcap hcau (Nat.le_of_ble_eq_true rfl) ?_
  intro p e s m below meth c hx hb hr hml hts hown hlocks hname hK hJ ls hl
  have hz0 := hJ.2.1
  have hown : s.vm.findClass RX0 = some m.cls := hown
  have hl : lv_has ls 10 [(0, .ref a0), (1, .ref a1)] := hl
  have D14 : ∀ (v0 : Nat) (τ : mx_S), f_X0_addSquare_D14 P v0 τ = some σ' → ∀ (H : Heap) (locs : List Loc), mx_J G P s.heap (mxz σ) (mxu σ) τ H locs → ∀ ls : Array Slot, lv_has ls 10 [(0, .ref v0)] → W p l e (mx_rm P 1 24 σ) s m ([.ref a0, .ref a1] : List Value).toArray below meth c H locs (mxz τ - mxz σ) (mxu τ - mxu σ) (mx_Z below G P none σ σ' [.ref a0, .ref a1] s) (F0 m 14 ls []) := by
    intro v0 τ hf _ _ hJ ls hl
    unfold f_X0_addSquare_D14 at hf
    refine lv_aload_n hx hb dX0_addSquare_14 rfl (lv_at hl 0 rfl) ?_
    obtain ⟨i4, e5, hf⟩ := mb0 hf
    obtain ⟨σ6, e7, hf⟩ := mb0 hf
    refine mx_callV (As := []) (rest := []) hx hb hml hts hown hK hJ rfl rfl (ci := 0) rfl e5 (c_X0_shut l G P v0 τ σ6 e7) me_X0_shut kw_671 kw_672 kw_690 (Nat.le_of_ble_eq_true rfl) (Nat.le_of_ble_eq_true rfl) rfl hl.1 rfl (Nat.le_of_ble_eq_true rfl) dX0_addSquare_15 (fun H locs hJ => ?_)
    exact my_vret hx hb hr hlocks hJ hf dX0_addSquare_18
  have D120 : ∀  (τ : mx_S), f_X0_addSquare_D120 P  τ = some σ' → ∀ (H : Heap) (locs : List Loc), mx_J G P s.heap (mxz σ) (mxu σ) τ H locs → ∀ ls : Array Slot, lv_has ls 10 [] → W p l e (mx_rm P 1 24 σ) s m ([.ref a0, .ref a1] : List Value).toArray below meth c H locs (mxz τ - mxz σ) (mxu τ - mxu σ) (mx_Z below G P none σ σ' [.ref a0, .ref a1] s) (F0 m 120 ls []) := by
    intro  τ hf _ _ hJ ls hl
    unfold f_X0_addSquare_D120 at hf
    exact my_vret hx hb hr hlocks hJ hf dX0_addSquare_120
  have D71 : ∀ (v0 : Nat) (v2 : Int64) (v4 : Int64) (w0 : Int64) (τ : mx_S), f_X0_addSquare_D71 P v0 v2 v4 w0 τ = some σ' → ∀ (H : Heap) (locs : List Loc), mx_J G P s.heap (mxz σ) (mxu σ) τ H locs → ∀ ls : Array Slot, lv_has ls 10 [(0, .ref v0), (2, .long v2), (4, .long v4)] → W p l e (mx_rm P 1 24 σ) s m ([.ref a0, .ref a1] : List Value).toArray below meth c H locs (mxz τ - mxz σ) (mxu τ - mxu σ) (mx_Z below G P none σ σ' [.ref a0, .ref a1] s) (F0 m 71 ls [.long w0]) := by
    intro v0 v2 v4 w0 τ hf _ _ hJ ls hl
    unfold f_X0_addSquare_D71 at hf
    refine lv_lstore (lv' := [(6, .long w0), (0, .ref v0), (2, .long v2), (4, .long v4)]) hx hb dX0_addSquare_71 hl (by decide) rfl (fun ls hl => ?_)
    refine lv_lload_n hx hb dX0_addSquare_73 rfl (lv_at hl 2 rfl) ?_
    refine lv_lload hx hb dX0_addSquare_74 (lv_at hl 3 rfl) ?_
    obtain ⟨x30, σ29, e31, hf⟩ := mc0 hf
    refine mx_callS (As := [.long v2, .long v4]) (rest := []) hx hb hml hts hown hK hJ rfl rfl (c_J9_max_f86c9 l G P v2 v4 τ x30 σ29 e31) me_J9_max_f86c9 kw_712 kw_711 (Nat.le_of_ble_eq_true rfl) (Nat.le_of_ble_eq_true rfl) rfl hl.1 rfl (Nat.le_of_ble_eq_true rfl) dX0_addSquare_76 (fun H locs hJ => ?_)
    refine lv_lneg hx hb dX0_addSquare_79 ?_
    refine lv_bipush (v := 16) hx hb dX0_addSquare_80 (by decide) ?_
    refine lv_lshr hx hb dX0_addSquare_82 rfl ?_
    refine lv_lneg hx hb dX0_addSquare_83 ?_
    obtain ⟨x32, e33, hf⟩ := mb0 hf
    refine mx_nL e33 ?_
    refine lv_lstore (lv' := [(8, .long x32), (6, .long w0), (0, .ref v0), (2, .long v2), (4, .long v4)]) hx hb dX0_addSquare_84 hl (by decide) rfl (fun ls hl => ?_)
    refine lv_lload hx hb dX0_addSquare_86 (lv_at hl 0 rfl) ?_
    refine lv_ldc2 hx hb hown (hts _ kw_484) dX0_addSquare_88 ?_
    refine W.lcmp hx hb dX0_addSquare_91 ?_
    refine lv_if_le (tgt := 102) hx hb dX0_addSquare_92 (by decide) (fun c34 => ?_) (fun c34 => ?_)
    · rw [if_pos c34] at hf
      refine lv_aload_n hx hb dX0_addSquare_102 rfl (lv_at hl 2 rfl) ?_
      refine lv_aload_n hx hb dX0_addSquare_103 rfl (lv_at hl 2 rfl) ?_
      obtain ⟨x35, e36, hf⟩ := mb0 hf
      refine my_gL hx hb hts hown hK hJ fd_RX0_7 hv_0_0 e36 dX0_addSquare_104 ?_
      refine lv_lload hx hb dX0_addSquare_107 (lv_at hl 1 rfl) ?_
      refine lv_ladd hx hb dX0_addSquare_109 ?_
      refine lv_aload_n hx hb dX0_addSquare_110 rfl (lv_at hl 2 rfl) ?_
      obtain ⟨x37, e38, hf⟩ := mb0 hf
      refine my_gL hx hb hts hown hK hJ fd_RX0_13 hv_0_1 e38 dX0_addSquare_111 ?_
      refine lv_lload hx hb dX0_addSquare_114 (lv_at hl 0 rfl) ?_
      refine lv_ladd hx hb dX0_addSquare_116 ?_
      obtain ⟨i39, e40, hf⟩ := mb0 hf
      obtain ⟨σ41, e42, hf⟩ := mb0 hf
      refine mx_callV (As := [.long (x35 + w0), .long (x37 + x32)]) (rest := []) hx hb hml hts hown hK hJ rfl rfl (ci := 0) rfl e40 (c_X0_keep l G P v0 (x35 + w0) (x37 + x32) σ29 σ41 e42) me_X0_keep kw_480 kw_481 kw_691 (Nat.le_of_ble_eq_true rfl) (Nat.le_of_ble_eq_true rfl) rfl hl.1 rfl (Nat.le_of_ble_eq_true rfl) dX0_addSquare_117 (fun H locs hJ => ?_)
      exact D120  σ41 hf _ _ hJ ls (lv_sub hl [] rfl)
    · rw [if_neg c34] at hf
      refine lv_aload_n hx hb dX0_addSquare_95 rfl (lv_at hl 2 rfl) ?_
      obtain ⟨i43, e44, hf⟩ := mb0 hf
      obtain ⟨σ45, e46, hf⟩ := mb0 hf
      refine mx_callV (As := []) (rest := []) hx hb hml hts hown hK hJ rfl rfl (ci := 0) rfl e44 (c_X0_shut l G P v0 σ29 σ45 e46) me_X0_shut kw_671 kw_672 kw_690 (Nat.le_of_ble_eq_true rfl) (Nat.le_of_ble_eq_true rfl) rfl hl.1 rfl (Nat.le_of_ble_eq_true rfl) dX0_addSquare_96 (fun H locs hJ => ?_)
      refine lv_goto (tgt := 120) hx hb dX0_addSquare_99 (by decide) ?_
      exact D120  σ45 hf _ _ hJ ls (lv_sub hl [] rfl)
  have D62 : ∀ (v0 : Nat) (v2 : Int64) (v4 : Int64) (τ : mx_S), f_X0_addSquare_D62 P v0 v2 v4 τ = some σ' → ∀ (H : Heap) (locs : List Loc), mx_J G P s.heap (mxz σ) (mxu σ) τ H locs → ∀ ls : Array Slot, lv_has ls 10 [(0, .ref v0), (2, .long v2), (4, .long v4)] → W p l e (mx_rm P 1 24 σ) s m ([.ref a0, .ref a1] : List Value).toArray below meth c H locs (mxz τ - mxz σ) (mxu τ - mxu σ) (mx_Z below G P none σ σ' [.ref a0, .ref a1] s) (F0 m 62 ls []) := by
    intro v0 v2 v4 τ hf _ _ hJ ls hl
    unfold f_X0_addSquare_D62 at hf
    refine lv_lload_n hx hb dX0_addSquare_62 rfl (lv_at hl 1 rfl) ?_
    refine lv_lload hx hb dX0_addSquare_63 (lv_at hl 2 rfl) ?_
    obtain ⟨x27, σ26, e28, hf⟩ := mc0 hf
    refine mx_callS (As := [.long v2, .long v4]) (rest := []) hx hb hml hts hown hK hJ rfl rfl (c_J9_min_f86c9 l G P v2 v4 τ x27 σ26 e28) me_J9_min_f86c9 kw_709 kw_708 (Nat.le_of_ble_eq_true rfl) (Nat.le_of_ble_eq_true rfl) rfl hl.1 rfl (Nat.le_of_ble_eq_true rfl) dX0_addSquare_65 (fun H locs hJ => ?_)
    refine lv_bipush (v := 16) hx hb dX0_addSquare_68 (by decide) ?_
    refine lv_lshr hx hb dX0_addSquare_70 rfl ?_
    exact D71 v0 v2 v4 (x27 >>> ((16 : Int32).toInt64 &&& 63)) σ26 hf _ _ hJ ls (lv_sub hl [0, 1, 2] rfl)
  unfold f_X0_addSquare at hf
  refine lv_aload_n hx hb dX0_addSquare_0 rfl (lv_at hl 0 rfl) ?_
  obtain ⟨x1, e2, hf⟩ := mb0 hf
  refine my_gI hx hb hts hown hK hJ fd_RX0_16 hv_0_2 e2 dX0_addSquare_1 ?_
  refine lv_if_ne (tgt := 14) hx hb dX0_addSquare_4 (by decide) (fun c3 => ?_) (fun c3 => ?_)
  · rw [if_neg c3] at hf
    exact D14 a0 σ hf _ _ hJ ls (lv_sub hl [0] rfl)
  · rw [if_pos c3] at hf
    refine lv_aload_n hx hb dX0_addSquare_7 rfl (lv_at hl 1 rfl) ?_
    obtain ⟨x8, e9, hf⟩ := mb0 hf
    refine my_gI hx hb hts hown hK hJ fd_RX0_16 hv_0_2 e9 dX0_addSquare_8 ?_
    refine lv_if_eq (tgt := 19) hx hb dX0_addSquare_11 (by decide) (fun c10 => ?_) (fun c10 => ?_)
    · rw [if_pos c10] at hf
      refine lv_aload_n hx hb dX0_addSquare_19 rfl (lv_at hl 1 rfl) ?_
      obtain ⟨x11, e12, hf⟩ := mb0 hf
      refine my_gL hx hb hts hown hK hJ fd_RX0_7 hv_0_0 e12 dX0_addSquare_20 ?_
      refine lv_aload_n hx hb dX0_addSquare_23 rfl (lv_at hl 1 rfl) ?_
      obtain ⟨x13, e14, hf⟩ := mb0 hf
      refine my_gL hx hb hts hown hK hJ fd_RX0_7 hv_0_0 e14 dX0_addSquare_24 ?_
      refine lv_lmul hx hb dX0_addSquare_27 ?_
      obtain ⟨x15, e16, hf⟩ := mb0 hf
      refine mx_nL e16 ?_
      refine lv_lstore_n (lv' := [(2, .long x15), (0, .ref a0), (1, .ref a1)]) hx hb dX0_addSquare_28 rfl hl (by decide) rfl (fun ls hl => ?_)
      refine lv_aload_n hx hb dX0_addSquare_29 rfl (lv_at hl 2 rfl) ?_
      obtain ⟨x17, e18, hf⟩ := mb0 hf
      refine my_gL hx hb hts hown hK hJ fd_RX0_13 hv_0_1 e18 dX0_addSquare_30 ?_
      refine lv_aload_n hx hb dX0_addSquare_33 rfl (lv_at hl 2 rfl) ?_
      obtain ⟨x19, e20, hf⟩ := mb0 hf
      refine my_gL hx hb hts hown hK hJ fd_RX0_13 hv_0_1 e20 dX0_addSquare_34 ?_
      refine lv_lmul hx hb dX0_addSquare_37 ?_
      obtain ⟨x21, e22, hf⟩ := mb0 hf
      refine mx_nL e22 ?_
      refine lv_lstore (lv' := [(4, .long x21), (2, .long x15), (0, .ref a0), (1, .ref a1)]) hx hb dX0_addSquare_38 hl (by decide) rfl (fun ls hl => ?_)
      refine lv_aload_n hx hb dX0_addSquare_40 rfl (lv_at hl 3 rfl) ?_
      obtain ⟨x23, e24, hf⟩ := mb0 hf
      refine my_gL hx hb hts hown hK hJ fd_RX0_7 hv_0_0 e24 dX0_addSquare_41 ?_
      refine lv_lconst (v := 0) hx hb dX0_addSquare_44 (by decide) ?_
      refine W.lcmp hx hb dX0_addSquare_45 ?_
      refine lv_if_gt (tgt := 62) hx hb dX0_addSquare_46 (by decide) (fun c25 => ?_) (fun c25 => ?_)
      · rw [if_pos c25] at hf
        exact D62 a0 x15 x21 σ hf _ _ hJ ls (lv_sub hl [2, 1, 0] rfl)
      · rw [if_neg c25] at hf
        refine lv_aload_n hx hb dX0_addSquare_49 rfl (lv_at hl 3 rfl) ?_
        obtain ⟨x47, e48, hf⟩ := mb0 hf
        refine my_gL hx hb hts hown hK hJ fd_RX0_13 hv_0_1 e48 dX0_addSquare_50 ?_
        refine lv_lconst (v := 0) hx hb dX0_addSquare_53 (by decide) ?_
        refine W.lcmp hx hb dX0_addSquare_54 ?_
        refine lv_if_lt (tgt := 62) hx hb dX0_addSquare_55 (by decide) (fun c49 => ?_) (fun c49 => ?_)
        · rw [if_pos c49] at hf
          exact D62 a0 x15 x21 σ hf _ _ hJ ls (lv_sub hl [2, 1, 0] rfl)
        · rw [if_neg c49] at hf
          refine lv_lconst (v := 0) hx hb dX0_addSquare_58 (by decide) ?_
          refine lv_goto (tgt := 71) hx hb dX0_addSquare_59 (by decide) ?_
          exact D71 a0 x15 x21 (0 : Int64) σ hf _ _ hJ ls (lv_sub hl [2, 1, 0] rfl)
    · rw [if_neg c10] at hf
      exact D14 a0 σ hf _ _ hJ ls (lv_sub hl [0] rfl)
set_option maxHeartbeats 4000000 in
set_option maxRecDepth 100000 in
theorem c_X0_addWhole (l : Launch) (G : mx_G) (P : mx_P) (a0 : Nat) (p1 : Int64) (a3 : Nat) (σ : mx_S) (σ' : mx_S) (hf : f_X0_addWhole P a0 p1 a3 σ = some σ') : mxz σ ≤ mpc P → mxu σ ≤ mps P → mx_M l yX0_addWhole cX0_addWhole 8 none 1 24 G P [.ref a0, .long p1, .ref a3] σ none σ' := by
  intro hcap hcau
  refine mx_ofW (by decide +kernel) hcap hcau (Nat.le_of_ble_eq_true rfl) ?_
  intro p e s m below meth c hx hb hr hml hts hown hlocks hname hK hJ ls hl
  have hz0 := hJ.2.1
  have hown : s.vm.findClass RX0 = some m.cls := hown
  have hl : lv_has ls 8 [(0, .ref a0), (1, .long p1), (3, .ref a3)] := hl
  have D14 : ∀ (v0 : Nat) (τ : mx_S), f_X0_addWhole_D14 P v0 τ = some σ' → ∀ (H : Heap) (locs : List Loc), mx_J G P s.heap (mxz σ) (mxu σ) τ H locs → ∀ ls : Array Slot, lv_has ls 8 [(0, .ref v0)] → W p l e (mx_rm P 1 24 σ) s m ([.ref a0, .long p1, .ref a3] : List Value).toArray below meth c H locs (mxz τ - mxz σ) (mxu τ - mxu σ) (mx_Z below G P none σ σ' [.ref a0, .long p1, .ref a3] s) (F0 m 14 ls []) := by
    intro v0 τ hf _ _ hJ ls hl
    unfold f_X0_addWhole_D14 at hf
    refine lv_aload_n hx hb dX0_addWhole_14 rfl (lv_at hl 0 rfl) ?_
    obtain ⟨i4, e5, hf⟩ := mb0 hf
    obtain ⟨σ6, e7, hf⟩ := mb0 hf
    refine mx_callV (As := []) (rest := []) hx hb hml hts hown hK hJ rfl rfl (ci := 0) rfl e5 (c_X0_shut l G P v0 τ σ6 e7) me_X0_shut kw_671 kw_672 kw_690 (Nat.le_of_ble_eq_true rfl) (Nat.le_of_ble_eq_true rfl) rfl hl.1 rfl (Nat.le_of_ble_eq_true rfl) dX0_addWhole_15 (fun H locs hJ => ?_)
    exact my_vret hx hb hr hlocks hJ hf dX0_addWhole_18
  have D108 : ∀  (τ : mx_S), f_X0_addWhole_D108 P  τ = some σ' → ∀ (H : Heap) (locs : List Loc), mx_J G P s.heap (mxz σ) (mxu σ) τ H locs → ∀ ls : Array Slot, lv_has ls 8 [] → W p l e (mx_rm P 1 24 σ) s m ([.ref a0, .long p1, .ref a3] : List Value).toArray below meth c H locs (mxz τ - mxz σ) (mxu τ - mxu σ) (mx_Z below G P none σ σ' [.ref a0, .long p1, .ref a3] s) (F0 m 108 ls []) := by
    intro  τ hf _ _ hJ ls hl
    unfold f_X0_addWhole_D108 at hf
    exact my_vret hx hb hr hlocks hJ hf dX0_addWhole_108
  have D83 : ∀ (v0 : Nat) (τ : mx_S), f_X0_addWhole_D83 P v0 τ = some σ' → ∀ (H : Heap) (locs : List Loc), mx_J G P s.heap (mxz σ) (mxu σ) τ H locs → ∀ ls : Array Slot, lv_has ls 8 [(0, .ref v0)] → W p l e (mx_rm P 1 24 σ) s m ([.ref a0, .long p1, .ref a3] : List Value).toArray below meth c H locs (mxz τ - mxz σ) (mxu τ - mxu σ) (mx_Z below G P none σ σ' [.ref a0, .long p1, .ref a3] s) (F0 m 83 ls []) := by
    intro v0 τ hf _ _ hJ ls hl
    unfold f_X0_addWhole_D83 at hf
    refine lv_aload_n hx hb dX0_addWhole_83 rfl (lv_at hl 0 rfl) ?_
    obtain ⟨i18, e19, hf⟩ := mb0 hf
    obtain ⟨σ20, e21, hf⟩ := mb0 hf
    refine mx_callV (As := []) (rest := []) hx hb hml hts hown hK hJ rfl rfl (ci := 0) rfl e19 (c_X0_shut l G P v0 τ σ20 e21) me_X0_shut kw_671 kw_672 kw_690 (Nat.le_of_ble_eq_true rfl) (Nat.le_of_ble_eq_true rfl) rfl hl.1 rfl (Nat.le_of_ble_eq_true rfl) dX0_addWhole_84 (fun H locs hJ => ?_)
    refine lv_goto (tgt := 108) hx hb dX0_addWhole_87 (by decide) ?_
    exact D108  σ20 hf _ _ hJ ls (lv_sub hl [] rfl)
  have D63 : ∀ (v0 : Nat) (v4 : Int64) (w0 : Int64) (τ : mx_S), f_X0_addWhole_D63 P v0 v4 w0 τ = some σ' → ∀ (H : Heap) (locs : List Loc), mx_J G P s.heap (mxz σ) (mxu σ) τ H locs → ∀ ls : Array Slot, lv_has ls 8 [(0, .ref v0), (4, .long v4)] → W p l e (mx_rm P 1 24 σ) s m ([.ref a0, .long p1, .ref a3] : List Value).toArray below meth c H locs (mxz τ - mxz σ) (mxu τ - mxu σ) (mx_Z below G P none σ σ' [.ref a0, .long p1, .ref a3] s) (F0 m 63 ls [.long w0]) := by
    intro v0 v4 w0 τ hf _ _ hJ ls hl
    unfold f_X0_addWhole_D63 at hf
    refine lv_lstore (lv' := [(6, .long w0), (0, .ref v0), (4, .long v4)]) hx hb dX0_addWhole_63 hl (by decide) rfl (fun ls hl => ?_)
    refine lv_lload hx hb dX0_addWhole_65 (lv_at hl 2 rfl) ?_
    refine lv_ldc2 hx hb hown (hts _ kw_483) dX0_addWhole_67 ?_
    refine W.lcmp hx hb dX0_addWhole_70 ?_
    refine lv_if_lt (tgt := 83) hx hb dX0_addWhole_71 (by decide) (fun c17 => ?_) (fun c17 => ?_)
    · rw [if_pos c17] at hf
      exact D83 v0 τ hf _ _ hJ ls (lv_sub hl [1] rfl)
    · rw [if_neg c17] at hf
      refine lv_lload hx hb dX0_addWhole_74 (lv_at hl 0 rfl) ?_
      refine lv_ldc2 hx hb hown (hts _ kw_484) dX0_addWhole_76 ?_
      refine W.lcmp hx hb dX0_addWhole_79 ?_
      refine lv_if_le (tgt := 90) hx hb dX0_addWhole_80 (by decide) (fun c22 => ?_) (fun c22 => ?_)
      · rw [if_pos c22] at hf
        refine lv_aload_n hx hb dX0_addWhole_90 rfl (lv_at hl 1 rfl) ?_
        refine lv_aload_n hx hb dX0_addWhole_91 rfl (lv_at hl 1 rfl) ?_
        obtain ⟨x23, e24, hf⟩ := mb0 hf
        refine my_gL hx hb hts hown hK hJ fd_RX0_7 hv_0_0 e24 dX0_addWhole_92 ?_
        refine lv_lload hx hb dX0_addWhole_95 (lv_at hl 2 rfl) ?_
        refine lv_ladd hx hb dX0_addWhole_97 ?_
        refine lv_aload_n hx hb dX0_addWhole_98 rfl (lv_at hl 1 rfl) ?_
        obtain ⟨x25, e26, hf⟩ := mb0 hf
        refine my_gL hx hb hts hown hK hJ fd_RX0_13 hv_0_1 e26 dX0_addWhole_99 ?_
        refine lv_lload hx hb dX0_addWhole_102 (lv_at hl 0 rfl) ?_
        refine lv_ladd hx hb dX0_addWhole_104 ?_
        obtain ⟨i27, e28, hf⟩ := mb0 hf
        obtain ⟨σ29, e30, hf⟩ := mb0 hf
        refine mx_callV (As := [.long (x23 + v4), .long (x25 + w0)]) (rest := []) hx hb hml hts hown hK hJ rfl rfl (ci := 0) rfl e28 (c_X0_keep l G P v0 (x23 + v4) (x25 + w0) τ σ29 e30) me_X0_keep kw_480 kw_481 kw_691 (Nat.le_of_ble_eq_true rfl) (Nat.le_of_ble_eq_true rfl) rfl hl.1 rfl (Nat.le_of_ble_eq_true rfl) dX0_addWhole_105 (fun H locs hJ => ?_)
        exact D108  σ29 hf _ _ hJ ls (lv_sub hl [] rfl)
      · rw [if_neg c22] at hf
        exact D83 v0 τ hf _ _ hJ ls (lv_sub hl [1] rfl)
  have D40 : ∀ (v0 : Nat) (v1 : Int64) (v3 : Nat) (w0 : Int64) (τ : mx_S), f_X0_addWhole_D40 P v0 v1 v3 w0 τ = some σ' → ∀ (H : Heap) (locs : List Loc), mx_J G P s.heap (mxz σ) (mxu σ) τ H locs → ∀ ls : Array Slot, lv_has ls 8 [(0, .ref v0), (1, .long v1), (3, .ref v3)] → W p l e (mx_rm P 1 24 σ) s m ([.ref a0, .long p1, .ref a3] : List Value).toArray below meth c H locs (mxz τ - mxz σ) (mxu τ - mxu σ) (mx_Z below G P none σ σ' [.ref a0, .long p1, .ref a3] s) (F0 m 40 ls [.long w0]) := by
    intro v0 v1 v3 w0 τ hf _ _ hJ ls hl
    unfold f_X0_addWhole_D40 at hf
    refine lv_lstore (lv' := [(4, .long w0), (0, .ref v0), (1, .long v1), (3, .ref v3)]) hx hb dX0_addWhole_40 hl (by decide) rfl (fun ls hl => ?_)
    refine lv_lload_n hx hb dX0_addWhole_42 rfl (lv_at hl 2 rfl) ?_
    refine lv_lconst (v := 0) hx hb dX0_addWhole_43 (by decide) ?_
    refine W.lcmp hx hb dX0_addWhole_44 ?_
    refine lv_if_lt (tgt := 57) hx hb dX0_addWhole_45 (by decide) (fun c14 => ?_) (fun c14 => ?_)
    · rw [if_pos c14] at hf
      refine lv_lload_n hx hb dX0_addWhole_57 rfl (lv_at hl 2 rfl) ?_
      refine lv_aload_n hx hb dX0_addWhole_58 rfl (lv_at hl 3 rfl) ?_
      obtain ⟨x15, e16, hf⟩ := mb0 hf
      refine my_gL hx hb hts hown hK hJ fd_RX0_7 hv_0_0 e16 dX0_addWhole_59 ?_
      refine lv_lmul hx hb dX0_addWhole_62 ?_
      exact D63 v0 w0 (v1 * x15) τ hf _ _ hJ ls (lv_sub hl [1, 0] rfl)
    · rw [if_neg c14] at hf
      refine lv_lload_n hx hb dX0_addWhole_48 rfl (lv_at hl 2 rfl) ?_
      refine lv_aload_n hx hb dX0_addWhole_49 rfl (lv_at hl 3 rfl) ?_
      obtain ⟨x31, e32, hf⟩ := mb0 hf
      refine my_gL hx hb hts hown hK hJ fd_RX0_13 hv_0_1 e32 dX0_addWhole_50 ?_
      refine lv_lmul hx hb dX0_addWhole_53 ?_
      refine lv_goto (tgt := 63) hx hb dX0_addWhole_54 (by decide) ?_
      exact D63 v0 w0 (v1 * x31) τ hf _ _ hJ ls (lv_sub hl [1, 0] rfl)
  unfold f_X0_addWhole at hf
  refine lv_aload_n hx hb dX0_addWhole_0 rfl (lv_at hl 0 rfl) ?_
  obtain ⟨x1, e2, hf⟩ := mb0 hf
  refine my_gI hx hb hts hown hK hJ fd_RX0_16 hv_0_2 e2 dX0_addWhole_1 ?_
  refine lv_if_ne (tgt := 14) hx hb dX0_addWhole_4 (by decide) (fun c3 => ?_) (fun c3 => ?_)
  · rw [if_neg c3] at hf
    exact D14 a0 σ hf _ _ hJ ls (lv_sub hl [0] rfl)
  · rw [if_pos c3] at hf
    refine lv_aload_n hx hb dX0_addWhole_7 rfl (lv_at hl 2 rfl) ?_
    obtain ⟨x8, e9, hf⟩ := mb0 hf
    refine my_gI hx hb hts hown hK hJ fd_RX0_16 hv_0_2 e9 dX0_addWhole_8 ?_
    refine lv_if_eq (tgt := 19) hx hb dX0_addWhole_11 (by decide) (fun c10 => ?_) (fun c10 => ?_)
    · rw [if_pos c10] at hf
      refine lv_lload_n hx hb dX0_addWhole_19 rfl (lv_at hl 1 rfl) ?_
      refine lv_lconst (v := 0) hx hb dX0_addWhole_20 (by decide) ?_
      refine W.lcmp hx hb dX0_addWhole_21 ?_
      refine lv_if_lt (tgt := 34) hx hb dX0_addWhole_22 (by decide) (fun c11 => ?_) (fun c11 => ?_)
      · rw [if_pos c11] at hf
        refine lv_lload_n hx hb dX0_addWhole_34 rfl (lv_at hl 1 rfl) ?_
        refine lv_aload_n hx hb dX0_addWhole_35 rfl (lv_at hl 2 rfl) ?_
        obtain ⟨x12, e13, hf⟩ := mb0 hf
        refine my_gL hx hb hts hown hK hJ fd_RX0_13 hv_0_1 e13 dX0_addWhole_36 ?_
        refine lv_lmul hx hb dX0_addWhole_39 ?_
        exact D40 a0 p1 a3 (p1 * x12) σ hf _ _ hJ ls (lv_sub hl [0, 1, 2] rfl)
      · rw [if_neg c11] at hf
        refine lv_lload_n hx hb dX0_addWhole_25 rfl (lv_at hl 1 rfl) ?_
        refine lv_aload_n hx hb dX0_addWhole_26 rfl (lv_at hl 2 rfl) ?_
        obtain ⟨x33, e34, hf⟩ := mb0 hf
        refine my_gL hx hb hts hown hK hJ fd_RX0_7 hv_0_0 e34 dX0_addWhole_27 ?_
        refine lv_lmul hx hb dX0_addWhole_30 ?_
        refine lv_goto (tgt := 40) hx hb dX0_addWhole_31 (by decide) ?_
        exact D40 a0 p1 a3 (p1 * x33) σ hf _ _ hJ ls (lv_sub hl [0, 1, 2] rfl)
    · rw [if_neg c10] at hf
      exact D14 a0 σ hf _ _ hJ ls (lv_sub hl [0] rfl)
set_option maxHeartbeats 4000000 in
set_option maxRecDepth 100000 in
theorem c_X0_quotient (l : Launch) (G : mx_G) (P : mx_P) (a0 : Nat) (a1 : Nat) (a2 : Nat) (σ : mx_S) (σ' : mx_S) (hf : f_X0_quotient P a0 a1 a2 σ = some σ') : mxz σ ≤ mpc P → mxu σ ≤ mps P → mx_M l yX0_quotient cX0_quotient 12 none 1 25 G P [.ref a0, .ref a1, .ref a2] σ none σ' := by
  intro hcap hcau
  refine mx_ofW (by decide +kernel) hcap hcau (Nat.le_of_ble_eq_true rfl) ?_
  intro p e s m below meth c hx hb hr hml hts hown hlocks hname hK hJ ls hl
  have hz0 := hJ.2.1
  have hown : s.vm.findClass RX0 = some m.cls := hown
  have hl : lv_has ls 12 [(0, .ref a0), (1, .ref a1), (2, .ref a2)] := hl
  have D32 : ∀ (v0 : Nat) (τ : mx_S), f_X0_quotient_D32 P v0 τ = some σ' → ∀ (H : Heap) (locs : List Loc), mx_J G P s.heap (mxz σ) (mxu σ) τ H locs → ∀ ls : Array Slot, lv_has ls 12 [(0, .ref v0)] → W p l e (mx_rm P 1 25 σ) s m ([.ref a0, .ref a1, .ref a2] : List Value).toArray below meth c H locs (mxz τ - mxz σ) (mxu τ - mxu σ) (mx_Z below G P none σ σ' [.ref a0, .ref a1, .ref a2] s) (F0 m 32 ls []) := by
    intro v0 τ hf _ _ hJ ls hl
    unfold f_X0_quotient_D32 at hf
    refine lv_aload_n hx hb dX0_quotient_32 rfl (lv_at hl 0 rfl) ?_
    obtain ⟨i4, e5, hf⟩ := mb0 hf
    obtain ⟨σ6, e7, hf⟩ := mb0 hf
    refine mx_callV (As := []) (rest := []) hx hb hml hts hown hK hJ rfl rfl (ci := 0) rfl e5 (c_X0_shut l G P v0 τ σ6 e7) me_X0_shut kw_671 kw_672 kw_690 (Nat.le_of_ble_eq_true rfl) (Nat.le_of_ble_eq_true rfl) rfl hl.1 rfl (Nat.le_of_ble_eq_true rfl) dX0_quotient_33 (fun H locs hJ => ?_)
    exact my_vret hx hb hr hlocks hJ hf dX0_quotient_36
  have D169 : ∀ (w0 : Int64) (w1 : Int64) (w2 : Int64) (w3 : Nat) (τ : mx_S), f_X0_quotient_D169 P w0 w1 w2 w3 τ = some σ' → ∀ (H : Heap) (locs : List Loc), mx_J G P s.heap (mxz σ) (mxu σ) τ H locs → ∀ ls : Array Slot, lv_has ls 12 [] → W p l e (mx_rm P 1 25 σ) s m ([.ref a0, .ref a1, .ref a2] : List Value).toArray below meth c H locs (mxz τ - mxz σ) (mxu τ - mxu σ) (mx_Z below G P none σ σ' [.ref a0, .ref a1, .ref a2] s) (F0 m 169 ls [.long w0, .long w1, .long w2, .ref w3]) := by
    intro w0 w1 w2 w3 τ hf _ _ hJ ls hl
    unfold f_X0_quotient_D169 at hf
    obtain ⟨x39, σ38, e40, hf⟩ := mc0 hf
    refine mx_callS (As := [.long w1, .long w0]) (rest := [.long w2, .ref w3]) hx hb hml hts hown hK hJ rfl rfl (c_J9_floorDiv_f86c9 l G P w1 w0 τ x39 σ38 e40) me_J9_floorDiv_f86c9 kw_756 kw_755 (Nat.le_of_ble_eq_true rfl) (Nat.le_of_ble_eq_true rfl) rfl hl.1 rfl (Nat.le_of_ble_eq_true rfl) dX0_quotient_169 (fun H locs hJ => ?_)
    refine lv_lneg hx hb dX0_quotient_172 ?_
    obtain ⟨i41, e42, hf⟩ := mb0 hf
    obtain ⟨σ43, e44, hf⟩ := mb0 hf
    refine mx_callV (As := [.long w2, .long (-x39)]) (rest := []) hx hb hml hts hown hK hJ rfl rfl (ci := 0) rfl e42 (c_X0_keep l G P w3 w2 (-x39) σ38 σ43 e44) me_X0_keep kw_480 kw_481 kw_691 (Nat.le_of_ble_eq_true rfl) (Nat.le_of_ble_eq_true rfl) rfl hl.1 rfl (Nat.le_of_ble_eq_true rfl) dX0_quotient_173 (fun H locs hJ => ?_)
    exact my_vret hx hb hr hlocks hJ hf dX0_quotient_176
  have D149 : ∀ (v6 : Int64) (v8 : Int64) (v10 : Int64) (w0 : Int64) (w1 : Int64) (w2 : Nat) (τ : mx_S), f_X0_quotient_D149 P v6 v8 v10 w0 w1 w2 τ = some σ' → ∀ (H : Heap) (locs : List Loc), mx_J G P s.heap (mxz σ) (mxu σ) τ H locs → ∀ ls : Array Slot, lv_has ls 12 [(6, .long v6), (8, .long v8), (10, .long v10)] → W p l e (mx_rm P 1 25 σ) s m ([.ref a0, .ref a1, .ref a2] : List Value).toArray below meth c H locs (mxz τ - mxz σ) (mxu τ - mxu σ) (mx_Z below G P none σ σ' [.ref a0, .ref a1, .ref a2] s) (F0 m 149 ls [.long w0, .long w1, .ref w2]) := by
    intro v6 v8 v10 w0 w1 w2 τ hf _ _ hJ ls hl
    unfold f_X0_quotient_D149 at hf
    obtain ⟨x35, σ34, e36, hf⟩ := mc0 hf
    refine mx_callS (As := [.long w1, .long w0]) (rest := [.ref w2]) hx hb hml hts hown hK hJ rfl rfl (c_J9_floorDiv_f86c9 l G P w1 w0 τ x35 σ34 e36) me_J9_floorDiv_f86c9 kw_756 kw_755 (Nat.le_of_ble_eq_true rfl) (Nat.le_of_ble_eq_true rfl) rfl hl.1 rfl (Nat.le_of_ble_eq_true rfl) dX0_quotient_149 (fun H locs hJ => ?_)
    refine lv_lload hx hb dX0_quotient_152 (lv_at hl 0 rfl) ?_
    refine lv_lneg hx hb dX0_quotient_154 ?_
    refine lv_lload hx hb dX0_quotient_155 (lv_at hl 0 rfl) ?_
    refine lv_lconst (v := 0) hx hb dX0_quotient_157 (by decide) ?_
    refine W.lcmp hx hb dX0_quotient_158 ?_
    refine lv_if_lt (tgt := 167) hx hb dX0_quotient_159 (by decide) (fun c37 => ?_) (fun c37 => ?_)
    · rw [if_pos c37] at hf
      refine lv_lload hx hb dX0_quotient_167 (lv_at hl 2 rfl) ?_
      exact D169 v10 (-v6) x35 w2 σ34 hf _ _ hJ ls (lv_sub hl [] rfl)
    · rw [if_neg c37] at hf
      refine lv_lload hx hb dX0_quotient_162 (lv_at hl 1 rfl) ?_
      refine lv_goto (tgt := 169) hx hb dX0_quotient_164 (by decide) ?_
      exact D169 v8 (-v6) x35 w2 σ34 hf _ _ hJ ls (lv_sub hl [] rfl)
  have D130 : ∀ (v0 : Nat) (v4 : Int64) (v6 : Int64) (v8 : Int64) (w0 : Int64) (τ : mx_S), f_X0_quotient_D130 P v0 v4 v6 v8 w0 τ = some σ' → ∀ (H : Heap) (locs : List Loc), mx_J G P s.heap (mxz σ) (mxu σ) τ H locs → ∀ ls : Array Slot, lv_has ls 12 [(0, .ref v0), (4, .long v4), (6, .long v6), (8, .long v8)] → W p l e (mx_rm P 1 25 σ) s m ([.ref a0, .ref a1, .ref a2] : List Value).toArray below meth c H locs (mxz τ - mxz σ) (mxu τ - mxu σ) (mx_Z below G P none σ σ' [.ref a0, .ref a1, .ref a2] s) (F0 m 130 ls [.long w0]) := by
    intro v0 v4 v6 v8 w0 τ hf _ _ hJ ls hl
    unfold f_X0_quotient_D130 at hf
    refine lv_lstore (lv' := [(10, .long w0), (0, .ref v0), (4, .long v4), (6, .long v6), (8, .long v8)]) hx hb dX0_quotient_130 hl (by decide) rfl (fun ls hl => ?_)
    refine lv_aload_n hx hb dX0_quotient_132 rfl (lv_at hl 1 rfl) ?_
    refine lv_lload hx hb dX0_quotient_133 (lv_at hl 2 rfl) ?_
    refine lv_lload hx hb dX0_quotient_135 (lv_at hl 2 rfl) ?_
    refine lv_lconst (v := 0) hx hb dX0_quotient_137 (by decide) ?_
    refine W.lcmp hx hb dX0_quotient_138 ?_
    refine lv_if_lt (tgt := 147) hx hb dX0_quotient_139 (by decide) (fun c33 => ?_) (fun c33 => ?_)
    · rw [if_pos c33] at hf
      refine lv_lload hx hb dX0_quotient_147 (lv_at hl 4 rfl) ?_
      exact D149 v6 v8 w0 v8 v4 v0 τ hf _ _ hJ ls (lv_sub hl [3, 4, 0] rfl)
    · rw [if_neg c33] at hf
      refine lv_lload hx hb dX0_quotient_142 (lv_at hl 0 rfl) ?_
      refine lv_goto (tgt := 149) hx hb dX0_quotient_144 (by decide) ?_
      exact D149 v6 v8 w0 w0 v4 v0 τ hf _ _ hJ ls (lv_sub hl [3, 4, 0] rfl)
  have D112 : ∀ (v0 : Nat) (v2 : Nat) (v3 : Int32) (v4 : Int64) (v6 : Int64) (w0 : Int64) (τ : mx_S), f_X0_quotient_D112 P v0 v2 v3 v4 v6 w0 τ = some σ' → ∀ (H : Heap) (locs : List Loc), mx_J G P s.heap (mxz σ) (mxu σ) τ H locs → ∀ ls : Array Slot, lv_has ls 12 [(0, .ref v0), (2, .ref v2), (3, .int v3), (4, .long v4), (6, .long v6)] → W p l e (mx_rm P 1 25 σ) s m ([.ref a0, .ref a1, .ref a2] : List Value).toArray below meth c H locs (mxz τ - mxz σ) (mxu τ - mxu σ) (mx_Z below G P none σ σ' [.ref a0, .ref a1, .ref a2] s) (F0 m 112 ls [.long w0]) := by
    intro v0 v2 v3 v4 v6 w0 τ hf _ _ hJ ls hl
    unfold f_X0_quotient_D112 at hf
    refine lv_lstore (lv' := [(8, .long w0), (0, .ref v0), (2, .ref v2), (3, .int v3), (4, .long v4), (6, .long v6)]) hx hb dX0_quotient_112 hl (by decide) rfl (fun ls hl => ?_)
    refine lv_iload_n hx hb dX0_quotient_114 rfl (lv_at hl 3 rfl) ?_
    refine lv_if_eq (tgt := 126) hx hb dX0_quotient_115 (by decide) (fun c30 => ?_) (fun c30 => ?_)
    · rw [if_pos c30] at hf
      refine lv_aload_n hx hb dX0_quotient_126 rfl (lv_at hl 2 rfl) ?_
      obtain ⟨x31, e32, hf⟩ := mb0 hf
      refine my_gL hx hb hts hown hK hJ fd_RX0_13 hv_0_1 e32 dX0_quotient_127 ?_
      exact D130 v0 v4 v6 w0 x31 τ hf _ _ hJ ls (lv_sub hl [1, 4, 5, 0] rfl)
    · rw [if_neg c30] at hf
      refine lv_aload_n hx hb dX0_quotient_118 rfl (lv_at hl 2 rfl) ?_
      obtain ⟨x45, e46, hf⟩ := mb0 hf
      refine my_gL hx hb hts hown hK hJ fd_RX0_7 hv_0_0 e46 dX0_quotient_119 ?_
      refine lv_lneg hx hb dX0_quotient_122 ?_
      refine lv_goto (tgt := 130) hx hb dX0_quotient_123 (by decide) ?_
      exact D130 v0 v4 v6 w0 (-x45) τ hf _ _ hJ ls (lv_sub hl [1, 4, 5, 0] rfl)
  have D93 : ∀ (v0 : Nat) (v2 : Nat) (v3 : Int32) (v4 : Int64) (w0 : Int64) (w1 : Int64) (τ : mx_S), f_X0_quotient_D93 P v0 v2 v3 v4 w0 w1 τ = some σ' → ∀ (H : Heap) (locs : List Loc), mx_J G P s.heap (mxz σ) (mxu σ) τ H locs → ∀ ls : Array Slot, lv_has ls 12 [(0, .ref v0), (2, .ref v2), (3, .int v3), (4, .long v4)] → W p l e (mx_rm P 1 25 σ) s m ([.ref a0, .ref a1, .ref a2] : List Value).toArray below meth c H locs (mxz τ - mxz σ) (mxu τ - mxu σ) (mx_Z below G P none σ σ' [.ref a0, .ref a1, .ref a2] s) (F0 m 93 ls [.long w0, .long w1]) := by
    intro v0 v2 v3 v4 w0 w1 τ hf _ _ hJ ls hl
    unfold f_X0_quotient_D93 at hf
    refine lv_lmul hx hb dX0_quotient_93 ?_
    obtain ⟨x25, e26, hf⟩ := mb0 hf
    refine mx_nL e26 ?_
    refine lv_lstore (lv' := [(6, .long x25), (0, .ref v0), (2, .ref v2), (3, .int v3), (4, .long v4)]) hx hb dX0_quotient_94 hl (by decide) rfl (fun ls hl => ?_)
    refine lv_iload_n hx hb dX0_quotient_96 rfl (lv_at hl 3 rfl) ?_
    refine lv_if_eq (tgt := 108) hx hb dX0_quotient_97 (by decide) (fun c27 => ?_) (fun c27 => ?_)
    · rw [if_pos c27] at hf
      refine lv_aload_n hx hb dX0_quotient_108 rfl (lv_at hl 2 rfl) ?_
      obtain ⟨x28, e29, hf⟩ := mb0 hf
      refine my_gL hx hb hts hown hK hJ fd_RX0_7 hv_0_0 e29 dX0_quotient_109 ?_
      exact D112 v0 v2 v3 v4 x25 x28 τ hf _ _ hJ ls (lv_sub hl [1, 2, 3, 4, 0] rfl)
    · rw [if_neg c27] at hf
      refine lv_aload_n hx hb dX0_quotient_100 rfl (lv_at hl 2 rfl) ?_
      obtain ⟨x47, e48, hf⟩ := mb0 hf
      refine my_gL hx hb hts hown hK hJ fd_RX0_13 hv_0_1 e48 dX0_quotient_101 ?_
      refine lv_lneg hx hb dX0_quotient_104 ?_
      refine lv_goto (tgt := 112) hx hb dX0_quotient_105 (by decide) ?_
      exact D112 v0 v2 v3 v4 x25 (-x47) τ hf _ _ hJ ls (lv_sub hl [1, 2, 3, 4, 0] rfl)
  have D71 : ∀ (v0 : Nat) (v1 : Nat) (v2 : Nat) (v3 : Int32) (w0 : Int64) (w1 : Int64) (τ : mx_S), f_X0_quotient_D71 P v0 v1 v2 v3 w0 w1 τ = some σ' → ∀ (H : Heap) (locs : List Loc), mx_J G P s.heap (mxz σ) (mxu σ) τ H locs → ∀ ls : Array Slot, lv_has ls 12 [(0, .ref v0), (1, .ref v1), (2, .ref v2), (3, .int v3)] → W p l e (mx_rm P 1 25 σ) s m ([.ref a0, .ref a1, .ref a2] : List Value).toArray below meth c H locs (mxz τ - mxz σ) (mxu τ - mxu σ) (mx_Z below G P none σ σ' [.ref a0, .ref a1, .ref a2] s) (F0 m 71 ls [.long w0, .long w1]) := by
    intro v0 v1 v2 v3 w0 w1 τ hf _ _ hJ ls hl
    unfold f_X0_quotient_D71 at hf
    refine lv_lmul hx hb dX0_quotient_71 ?_
    obtain ⟨x20, e21, hf⟩ := mb0 hf
    refine mx_nL e21 ?_
    refine lv_lstore (lv' := [(4, .long x20), (0, .ref v0), (1, .ref v1), (2, .ref v2), (3, .int v3)]) hx hb dX0_quotient_72 hl (by decide) rfl (fun ls hl => ?_)
    refine lv_ldc2 hx hb hown (hts _ kw_762) dX0_quotient_74 ?_
    refine lv_iload_n hx hb dX0_quotient_77 rfl (lv_at hl 4 rfl) ?_
    refine lv_if_eq (tgt := 89) hx hb dX0_quotient_78 (by decide) (fun c22 => ?_) (fun c22 => ?_)
    · rw [if_pos c22] at hf
      refine lv_aload_n hx hb dX0_quotient_89 rfl (lv_at hl 2 rfl) ?_
      obtain ⟨x23, e24, hf⟩ := mb0 hf
      refine my_gL hx hb hts hown hK hJ fd_RX0_13 hv_0_1 e24 dX0_quotient_90 ?_
      exact D93 v0 v2 v3 x20 x23 (65536 : Int64) τ hf _ _ hJ ls (lv_sub hl [1, 3, 4, 0] rfl)
    · rw [if_neg c22] at hf
      refine lv_aload_n hx hb dX0_quotient_81 rfl (lv_at hl 2 rfl) ?_
      obtain ⟨x49, e50, hf⟩ := mb0 hf
      refine my_gL hx hb hts hown hK hJ fd_RX0_7 hv_0_0 e50 dX0_quotient_82 ?_
      refine lv_lneg hx hb dX0_quotient_85 ?_
      refine lv_goto (tgt := 93) hx hb dX0_quotient_86 (by decide) ?_
      exact D93 v0 v2 v3 x20 (-x49) (65536 : Int64) τ hf _ _ hJ ls (lv_sub hl [1, 3, 4, 0] rfl)
  have D51 : ∀ (v0 : Nat) (v1 : Nat) (v2 : Nat) (w0 : Int32) (τ : mx_S), f_X0_quotient_D51 P v0 v1 v2 w0 τ = some σ' → ∀ (H : Heap) (locs : List Loc), mx_J G P s.heap (mxz σ) (mxu σ) τ H locs → ∀ ls : Array Slot, lv_has ls 12 [(0, .ref v0), (1, .ref v1), (2, .ref v2)] → W p l e (mx_rm P 1 25 σ) s m ([.ref a0, .ref a1, .ref a2] : List Value).toArray below meth c H locs (mxz τ - mxz σ) (mxu τ - mxu σ) (mx_Z below G P none σ σ' [.ref a0, .ref a1, .ref a2] s) (F0 m 51 ls [.int w0]) := by
    intro v0 v1 v2 w0 τ hf _ _ hJ ls hl
    unfold f_X0_quotient_D51 at hf
    refine lv_istore_n (lv' := [(3, .int w0), (0, .ref v0), (1, .ref v1), (2, .ref v2)]) hx hb dX0_quotient_51 rfl hl (by decide) rfl (fun ls hl => ?_)
    refine lv_ldc2 hx hb hown (hts _ kw_762) dX0_quotient_52 ?_
    refine lv_iload_n hx hb dX0_quotient_55 rfl (lv_at hl 0 rfl) ?_
    refine lv_if_eq (tgt := 67) hx hb dX0_quotient_56 (by decide) (fun c17 => ?_) (fun c17 => ?_)
    · rw [if_pos c17] at hf
      refine lv_aload_n hx hb dX0_quotient_67 rfl (lv_at hl 2 rfl) ?_
      obtain ⟨x18, e19, hf⟩ := mb0 hf
      refine my_gL hx hb hts hown hK hJ fd_RX0_7 hv_0_0 e19 dX0_quotient_68 ?_
      exact D71 v0 v1 v2 w0 x18 (65536 : Int64) τ hf _ _ hJ ls (lv_sub hl [1, 2, 3, 0] rfl)
    · rw [if_neg c17] at hf
      refine lv_aload_n hx hb dX0_quotient_59 rfl (lv_at hl 2 rfl) ?_
      obtain ⟨x51, e52, hf⟩ := mb0 hf
      refine my_gL hx hb hts hown hK hJ fd_RX0_13 hv_0_1 e52 dX0_quotient_60 ?_
      refine lv_lneg hx hb dX0_quotient_63 ?_
      refine lv_goto (tgt := 71) hx hb dX0_quotient_64 (by decide) ?_
      exact D71 v0 v1 v2 w0 (-x51) (65536 : Int64) τ hf _ _ hJ ls (lv_sub hl [1, 2, 3, 0] rfl)
  have D37 : ∀ (v0 : Nat) (v1 : Nat) (v2 : Nat) (τ : mx_S), f_X0_quotient_D37 P v0 v1 v2 τ = some σ' → ∀ (H : Heap) (locs : List Loc), mx_J G P s.heap (mxz σ) (mxu σ) τ H locs → ∀ ls : Array Slot, lv_has ls 12 [(0, .ref v0), (1, .ref v1), (2, .ref v2)] → W p l e (mx_rm P 1 25 σ) s m ([.ref a0, .ref a1, .ref a2] : List Value).toArray below meth c H locs (mxz τ - mxz σ) (mxu τ - mxu σ) (mx_Z below G P none σ σ' [.ref a0, .ref a1, .ref a2] s) (F0 m 37 ls []) := by
    intro v0 v1 v2 τ hf _ _ hJ ls hl
    unfold f_X0_quotient_D37 at hf
    refine lv_aload_n hx hb dX0_quotient_37 rfl (lv_at hl 2 rfl) ?_
    obtain ⟨x14, e15, hf⟩ := mb0 hf
    refine my_gL hx hb hts hown hK hJ fd_RX0_13 hv_0_1 e15 dX0_quotient_38 ?_
    refine lv_lconst (v := 0) hx hb dX0_quotient_41 (by decide) ?_
    refine W.lcmp hx hb dX0_quotient_42 ?_
    refine lv_if_ge (tgt := 50) hx hb dX0_quotient_43 (by decide) (fun c16 => ?_) (fun c16 => ?_)
    · rw [if_pos c16] at hf
      refine lv_iconst (v := 0) hx hb dX0_quotient_50 (by decide) ?_
      exact D51 v0 v1 v2 (0 : Int32) τ hf _ _ hJ ls (lv_sub hl [0, 1, 2] rfl)
    · rw [if_neg c16] at hf
      refine lv_iconst (v := 1) hx hb dX0_quotient_46 (by decide) ?_
      refine lv_goto (tgt := 51) hx hb dX0_quotient_47 (by decide) ?_
      exact D51 v0 v1 v2 (1 : Int32) τ hf _ _ hJ ls (lv_sub hl [0, 1, 2] rfl)
  unfold f_X0_quotient at hf
  refine lv_aload_n hx hb dX0_quotient_0 rfl (lv_at hl 1 rfl) ?_
  obtain ⟨x1, e2, hf⟩ := mb0 hf
  refine my_gI hx hb hts hown hK hJ fd_RX0_16 hv_0_2 e2 dX0_quotient_1 ?_
  refine lv_if_ne (tgt := 32) hx hb dX0_quotient_4 (by decide) (fun c3 => ?_) (fun c3 => ?_)
  · rw [if_neg c3] at hf
    exact D32 a0 σ hf _ _ hJ ls (lv_sub hl [0] rfl)
  · rw [if_pos c3] at hf
    refine lv_aload_n hx hb dX0_quotient_7 rfl (lv_at hl 2 rfl) ?_
    obtain ⟨x8, e9, hf⟩ := mb0 hf
    refine my_gI hx hb hts hown hK hJ fd_RX0_16 hv_0_2 e9 dX0_quotient_8 ?_
    refine lv_if_ne (tgt := 32) hx hb dX0_quotient_11 (by decide) (fun c10 => ?_) (fun c10 => ?_)
    · rw [if_neg c10] at hf
      exact D32 a0 σ hf _ _ hJ ls (lv_sub hl [0] rfl)
    · rw [if_pos c10] at hf
      refine lv_aload_n hx hb dX0_quotient_14 rfl (lv_at hl 2 rfl) ?_
      obtain ⟨x11, e12, hf⟩ := mb0 hf
      refine my_gL hx hb hts hown hK hJ fd_RX0_7 hv_0_0 e12 dX0_quotient_15 ?_
      refine lv_lconst (v := 0) hx hb dX0_quotient_18 (by decide) ?_
      refine W.lcmp hx hb dX0_quotient_19 ?_
      refine lv_if_gt (tgt := 37) hx hb dX0_quotient_20 (by decide) (fun c13 => ?_) (fun c13 => ?_)
      · rw [if_pos c13] at hf
        exact D37 a0 a1 a2 σ hf _ _ hJ ls (lv_sub hl [0, 1, 2] rfl)
      · rw [if_neg c13] at hf
        refine lv_aload_n hx hb dX0_quotient_23 rfl (lv_at hl 2 rfl) ?_
        obtain ⟨x53, e54, hf⟩ := mb0 hf
        refine my_gL hx hb hts hown hK hJ fd_RX0_13 hv_0_1 e54 dX0_quotient_24 ?_
        refine lv_lconst (v := 0) hx hb dX0_quotient_27 (by decide) ?_
        refine W.lcmp hx hb dX0_quotient_28 ?_
        refine lv_if_lt (tgt := 37) hx hb dX0_quotient_29 (by decide) (fun c55 => ?_) (fun c55 => ?_)
        · rw [if_pos c55] at hf
          exact D37 a0 a1 a2 σ hf _ _ hJ ls (lv_sub hl [0, 1, 2] rfl)
        · rw [if_neg c55] at hf
          exact D32 a0 σ hf _ _ hJ ls (lv_sub hl [0] rfl)
set_option maxHeartbeats 4000000 in
set_option maxRecDepth 100000 in
theorem c_X0_rootBelow (l : Launch) (G : mx_G) (P : mx_P) (p0 : Int64) (σ : mx_S) (r : Int64) (σ' : mx_S) (hf : f_X0_rootBelow P p0 σ = some (r, σ')) : mxz σ ≤ mpc P → mxu σ ≤ mps P → mx_M l yX0_rootBelow cX0_rootBelow 7 (some .long) 0 0 G P [.long p0] σ (some (.long r)) σ' := by
  intro hcap hcau
  refine mx_ofW (by decide +kernel) hcap hcau (Nat.le_of_ble_eq_true rfl) ?_
  intro p e s m below meth c hx hb hr hml hts hown hlocks hname hK hJ ls hl
  have hz0 := hJ.2.1
  have hown : s.vm.findClass RX0 = some m.cls := hown
  have hl : lv_has ls 7 [(0, .long p0)] := hl
  have D32_6 : ∀ (v0 : Int64) (v2 : Int64) (v4 : Int32) (τ : mx_S) (o : (Int64 × Int32 × mx_S) ⊕ ((Int64 × mx_S))), f_X0_rootBelow_D32_6 P v0 v2 v4 τ = some o → (∀ (y2 : Int64) (y4 : Int32) (υ : mx_S), o = .inl (y2, y4, υ) → ∀ (H : Heap) (locs : List Loc), mx_J G P s.heap (mxz σ) (mxu σ) υ H locs → ∀ ls : Array Slot, lv_has ls 7 [(0, .long v0), (2, .long y2), (4, .int y4)] → W p l e (mx_rm P 0 0 σ) s m ([.long p0] : List Value).toArray below meth c H locs (mxz υ - mxz σ) (mxu υ - mxu σ) (mx_Z below G P (some (.long r)) σ σ' [.long p0] s) (F0 m 6 ls [])) → (∀ (y2 : Int64) (υ : mx_S), o = .inr (y2, υ) → ∀ (H : Heap) (locs : List Loc), mx_J G P s.heap (mxz σ) (mxu σ) υ H locs → ∀ ls : Array Slot, lv_has ls 7 [(2, .long y2)] → W p l e (mx_rm P 0 0 σ) s m ([.long p0] : List Value).toArray below meth c H locs (mxz υ - mxz σ) (mxu υ - mxu σ) (mx_Z below G P (some (.long r)) σ σ' [.long p0] s) (F0 m 38 ls [])) → ∀ (H : Heap) (locs : List Loc), mx_J G P s.heap (mxz σ) (mxu σ) τ H locs → ∀ ls : Array Slot, lv_has ls 7 [(0, .long v0), (2, .long v2), (4, .int v4)] → W p l e (mx_rm P 0 0 σ) s m ([.long p0] : List Value).toArray below meth c H locs (mxz τ - mxz σ) (mxu τ - mxu σ) (mx_Z below G P (some (.long r)) σ σ' [.long p0] s) (F0 m 32 ls []) := by
    intro v0 v2 v4 τ o hf Kb Ke0 H locs hJ ls hl
    unfold f_X0_rootBelow_D32_6 at hf
    obtain ⟨x5, e6, hf⟩ := mb0 hf
    refine lv_iinc (v := x5) (lv' := [(4, .int x5), (0, .long v0), (2, .long v2)]) hx hb dX0_rootBelow_32 hl (k := 2) rfl (by rw [← Option.some.inj e6]; rfl) (by decide) rfl (fun ls hl => ?_)
    refine lv_goto (tgt := 6) hx hb dX0_rootBelow_35 (by decide) ?_
    exact Kb v2 x5 τ (Option.some.inj hf).symm _ _ hJ ls (lv_sub hl [1, 2, 0] rfl)
  have B6 : ∀ (v0 : Int64) (v2 : Int64) (v4 : Int32) (τ : mx_S) (o : (Int64 × Int32 × mx_S) ⊕ ((Int64 × mx_S))), f_X0_rootBelow_B6 P v0 v2 v4 τ = some o → (∀ (y2 : Int64) (y4 : Int32) (υ : mx_S), o = .inl (y2, y4, υ) → ∀ (H : Heap) (locs : List Loc), mx_J G P s.heap (mxz σ) (mxu σ) υ H locs → ∀ ls : Array Slot, lv_has ls 7 [(0, .long v0), (2, .long y2), (4, .int y4)] → W p l e (mx_rm P 0 0 σ) s m ([.long p0] : List Value).toArray below meth c H locs (mxz υ - mxz σ) (mxu υ - mxu σ) (mx_Z below G P (some (.long r)) σ σ' [.long p0] s) (F0 m 6 ls [])) → (∀ (y2 : Int64) (υ : mx_S), o = .inr (y2, υ) → ∀ (H : Heap) (locs : List Loc), mx_J G P s.heap (mxz σ) (mxu σ) υ H locs → ∀ ls : Array Slot, lv_has ls 7 [(2, .long y2)] → W p l e (mx_rm P 0 0 σ) s m ([.long p0] : List Value).toArray below meth c H locs (mxz υ - mxz σ) (mxu υ - mxu σ) (mx_Z below G P (some (.long r)) σ σ' [.long p0] s) (F0 m 38 ls [])) → ∀ (H : Heap) (locs : List Loc), mx_J G P s.heap (mxz σ) (mxu σ) τ H locs → ∀ ls : Array Slot, lv_has ls 7 [(0, .long v0), (2, .long v2), (4, .int v4)] → W p l e (mx_rm P 0 0 σ) s m ([.long p0] : List Value).toArray below meth c H locs (mxz τ - mxz σ) (mxu τ - mxu σ) (mx_Z below G P (some (.long r)) σ σ' [.long p0] s) (F0 m 6 ls []) := by
    intro v0 v2 v4 τ o hf Kb Ke0 H locs hJ ls hl
    unfold f_X0_rootBelow_B6 at hf
    refine lv_iload hx hb dX0_rootBelow_6 (lv_at hl 2 rfl) ?_
    refine lv_if_lt (tgt := 38) hx hb dX0_rootBelow_8 (by decide) (fun c1 => ?_) (fun c1 => ?_)
    · rw [if_pos c1] at hf
      exact Ke0 v2 τ (Option.some.inj hf).symm _ _ hJ ls (lv_sub hl [1] rfl)
    · rw [if_neg c1] at hf
      refine lv_lload_n hx hb dX0_rootBelow_11 rfl (lv_at hl 1 rfl) ?_
      refine lv_lconst (v := 1) hx hb dX0_rootBelow_12 (by decide) ?_
      refine lv_iload hx hb dX0_rootBelow_13 (lv_at hl 2 rfl) ?_
      refine lv_lshl hx hb dX0_rootBelow_15 rfl ?_
      refine lv_lor hx hb dX0_rootBelow_16 ?_
      obtain ⟨x2, e3, hf⟩ := mb0 hf
      refine mx_nL e3 ?_
      refine lv_lstore (lv' := [(5, .long x2), (0, .long v0), (2, .long v2), (4, .int v4)]) hx hb dX0_rootBelow_17 hl (by decide) rfl (fun ls hl => ?_)
      refine lv_lload hx hb dX0_rootBelow_19 (lv_at hl 0 rfl) ?_
      refine lv_lload hx hb dX0_rootBelow_21 (lv_at hl 0 rfl) ?_
      refine lv_lmul hx hb dX0_rootBelow_23 ?_
      refine lv_lload_n hx hb dX0_rootBelow_24 rfl (lv_at hl 1 rfl) ?_
      refine W.lcmp hx hb dX0_rootBelow_25 ?_
      refine lv_if_gt (tgt := 32) hx hb dX0_rootBelow_26 (by decide) (fun c4 => ?_) (fun c4 => ?_)
      · rw [if_pos c4] at hf
        exact D32_6 v0 v2 v4 τ o hf Kb Ke0 _ _ hJ ls (lv_sub hl [1, 2, 3] rfl)
      · rw [if_neg c4] at hf
        refine lv_lload hx hb dX0_rootBelow_29 (lv_at hl 0 rfl) ?_
        refine lv_lstore_n (lv' := [(2, .long x2), (5, .long x2), (0, .long v0), (4, .int v4)]) hx hb dX0_rootBelow_31 rfl hl (by decide) rfl (fun ls hl => ?_)
        exact D32_6 v0 x2 v4 τ o hf Kb Ke0 _ _ hJ ls (lv_sub hl [2, 0, 3] rfl)
  have L6 : ∀ (v0 : Int64) (n : Nat) (v2 : Int64) (v4 : Int32) (τ : mx_S) (o : (Int64 × mx_S)), mx_lp (f_X0_rootBelow_L6 P v0) n (v2, v4, τ) = some o → (∀ (y2 : Int64) (υ : mx_S), o = (y2, υ) → ∀ (H : Heap) (locs : List Loc), mx_J G P s.heap (mxz σ) (mxu σ) υ H locs → ∀ ls : Array Slot, lv_has ls 7 [(2, .long y2)] → W p l e (mx_rm P 0 0 σ) s m ([.long p0] : List Value).toArray below meth c H locs (mxz υ - mxz σ) (mxu υ - mxu σ) (mx_Z below G P (some (.long r)) σ σ' [.long p0] s) (F0 m 38 ls [])) → ∀ (H : Heap) (locs : List Loc), mx_J G P s.heap (mxz σ) (mxu σ) τ H locs → ∀ ls : Array Slot, lv_has ls 7 [(0, .long v0), (2, .long v2), (4, .int v4)] → W p l e (mx_rm P 0 0 σ) s m ([.long p0] : List Value).toArray below meth c H locs (mxz τ - mxz σ) (mxu τ - mxu σ) (mx_Z below G P (some (.long r)) σ σ' [.long p0] s) (F0 m 6 ls []) := by
    intro v0 n
    induction n with
    | zero =>
      intro v2 v4 τ o hf
      rw [mx_lp0] at hf
      cases hf
    | succ n ih =>
      intro v2 v4 τ o hf Ke0 H locs hJ ls hl
      rw [mx_lpS] at hf
      obtain ⟨b, eb, hf⟩ := mb0 hf
      refine B6 v0 v2 v4 τ b eb (fun y2 y4 υ ho H locs hJ ls hl => ?_) (fun y2 υ ho H locs hJ ls hl => ?_) H locs hJ ls hl
      · subst ho
        exact ih y2 y4 υ o hf Ke0 H locs hJ ls hl
      · subst ho
        exact Ke0 y2 υ (Option.some.inj hf).symm _ _ hJ ls hl
  unfold f_X0_rootBelow at hf
  refine lv_lconst (v := 0) hx hb dX0_rootBelow_0 (by decide) ?_
  refine lv_lstore_n (lv' := [(2, .long (0 : Int64)), (0, .long p0)]) hx hb dX0_rootBelow_1 rfl hl (by decide) rfl (fun ls hl => ?_)
  refine lv_bipush (v := 23) hx hb dX0_rootBelow_2 (by decide) ?_
  refine lv_istore (lv' := [(4, .int (23 : Int32)), (2, .long (0 : Int64)), (0, .long p0)]) hx hb dX0_rootBelow_4 hl (by decide) rfl (fun ls hl => ?_)
  obtain ⟨o7, e8, hf⟩ := mb0 hf
  refine L6 p0 (mpN P) (0 : Int64) (23 : Int32) σ o7 e8 (fun y9 σ10 ho H locs hJ ls hl => ?_) _ _ hJ ls (lv_sub hl [2, 1, 0] rfl)
  · rw [ho] at hf
    have hf : (some (y9, σ10)) = some (r, σ') := hf
    refine lv_lload_n hx hb dX0_rootBelow_38 rfl (lv_at hl 0 rfl) ?_
    exact my_lret hx hb hr hlocks hJ hf dX0_rootBelow_39
set_option maxHeartbeats 4000000 in
set_option maxRecDepth 100000 in
theorem c_X0_takeRoot (l : Launch) (G : mx_G) (P : mx_P) (a0 : Nat) (σ : mx_S) (σ' : mx_S) (hf : f_X0_takeRoot P a0 σ = some σ') : mxz σ ≤ mpc P → mxu σ ≤ mps P → mx_M l yX0_takeRoot cX0_takeRoot 5 none 1 26 G P [.ref a0] σ none σ' := by
  intro hcap hcau
  refine mx_ofW (by decide +kernel) hcap hcau (Nat.le_of_ble_eq_true rfl) ?_
  intro p e s m below meth c hx hb hr hml hts hown hlocks hname hK hJ ls hl
  have hz0 := hJ.2.1
  have hown : s.vm.findClass RX0 = some m.cls := hown
  have hl : lv_has ls 5 [(0, .ref a0)] := hl
  have D16 : ∀ (v0 : Nat) (τ : mx_S), f_X0_takeRoot_D16 P v0 τ = some σ' → ∀ (H : Heap) (locs : List Loc), mx_J G P s.heap (mxz σ) (mxu σ) τ H locs → ∀ ls : Array Slot, lv_has ls 5 [(0, .ref v0)] → W p l e (mx_rm P 1 26 σ) s m ([.ref a0] : List Value).toArray below meth c H locs (mxz τ - mxz σ) (mxu τ - mxu σ) (mx_Z below G P none σ σ' [.ref a0] s) (F0 m 16 ls []) := by
    intro v0 τ hf _ _ hJ ls hl
    unfold f_X0_takeRoot_D16 at hf
    refine lv_aload_n hx hb dX0_takeRoot_16 rfl (lv_at hl 0 rfl) ?_
    obtain ⟨i4, e5, hf⟩ := mb0 hf
    obtain ⟨σ6, e7, hf⟩ := mb0 hf
    refine mx_callV (As := []) (rest := []) hx hb hml hts hown hK hJ rfl rfl (ci := 0) rfl e5 (c_X0_shut l G P v0 τ σ6 e7) me_X0_shut kw_671 kw_672 kw_690 (Nat.le_of_ble_eq_true rfl) (Nat.le_of_ble_eq_true rfl) rfl hl.1 rfl (Nat.le_of_ble_eq_true rfl) dX0_takeRoot_17 (fun H locs hJ => ?_)
    exact my_vret hx hb hr hlocks hJ hf dX0_takeRoot_20
  have D66 : ∀ (w0 : Int64) (w1 : Int64) (w2 : Nat) (τ : mx_S), f_X0_takeRoot_D66 P w0 w1 w2 τ = some σ' → ∀ (H : Heap) (locs : List Loc), mx_J G P s.heap (mxz σ) (mxu σ) τ H locs → ∀ ls : Array Slot, lv_has ls 5 [] → W p l e (mx_rm P 1 26 σ) s m ([.ref a0] : List Value).toArray below meth c H locs (mxz τ - mxz σ) (mxu τ - mxu σ) (mx_Z below G P none σ σ' [.ref a0] s) (F0 m 66 ls [.long w0, .long w1, .ref w2]) := by
    intro w0 w1 w2 τ hf _ _ hJ ls hl
    unfold f_X0_takeRoot_D66 at hf
    obtain ⟨i24, e25, hf⟩ := mb0 hf
    obtain ⟨σ26, e27, hf⟩ := mb0 hf
    refine mx_callV (As := [.long w1, .long w0]) (rest := []) hx hb hml hts hown hK hJ rfl rfl (ci := 0) rfl e25 (c_X0_keep l G P w2 w1 w0 τ σ26 e27) me_X0_keep kw_480 kw_481 kw_691 (Nat.le_of_ble_eq_true rfl) (Nat.le_of_ble_eq_true rfl) rfl hl.1 rfl (Nat.le_of_ble_eq_true rfl) dX0_takeRoot_66 (fun H locs hJ => ?_)
    exact my_vret hx hb hr hlocks hJ hf dX0_takeRoot_69
  unfold f_X0_takeRoot at hf
  refine lv_aload_n hx hb dX0_takeRoot_0 rfl (lv_at hl 0 rfl) ?_
  obtain ⟨x1, e2, hf⟩ := mb0 hf
  refine my_gI hx hb hts hown hK hJ fd_RX0_16 hv_0_2 e2 dX0_takeRoot_1 ?_
  refine lv_if_ne (tgt := 16) hx hb dX0_takeRoot_4 (by decide) (fun c3 => ?_) (fun c3 => ?_)
  · rw [if_neg c3] at hf
    exact D16 a0 σ hf _ _ hJ ls (lv_sub hl [0] rfl)
  · rw [if_pos c3] at hf
    refine lv_aload_n hx hb dX0_takeRoot_7 rfl (lv_at hl 0 rfl) ?_
    obtain ⟨x8, e9, hf⟩ := mb0 hf
    refine my_gL hx hb hts hown hK hJ fd_RX0_7 hv_0_0 e9 dX0_takeRoot_8 ?_
    refine lv_lconst (v := 0) hx hb dX0_takeRoot_11 (by decide) ?_
    refine W.lcmp hx hb dX0_takeRoot_12 ?_
    refine lv_if_ge (tgt := 21) hx hb dX0_takeRoot_13 (by decide) (fun c10 => ?_) (fun c10 => ?_)
    · rw [if_pos c10] at hf
      refine lv_aload_n hx hb dX0_takeRoot_21 rfl (lv_at hl 0 rfl) ?_
      obtain ⟨x11, e12, hf⟩ := mb0 hf
      refine my_gL hx hb hts hown hK hJ fd_RX0_7 hv_0_0 e12 dX0_takeRoot_22 ?_
      refine lv_bipush (v := 16) hx hb dX0_takeRoot_25 (by decide) ?_
      refine lv_lshl hx hb dX0_takeRoot_27 rfl ?_
      obtain ⟨x14, σ13, e15, hf⟩ := mc0 hf
      refine mx_callS (As := [.long (x11 <<< ((16 : Int32).toInt64 &&& 63))]) (rest := []) hx hb hml hts hown hK hJ rfl rfl (c_X0_rootBelow l G P (x11 <<< ((16 : Int32).toInt64 &&& 63)) σ x14 σ13 e15) me_X0_rootBelow kw_774 kw_773 (Nat.le_of_ble_eq_true rfl) (Nat.le_of_ble_eq_true rfl) rfl hl.1 rfl (Nat.le_of_ble_eq_true rfl) dX0_takeRoot_28 (fun H locs hJ => ?_)
      refine lv_lstore_n (lv' := [(1, .long x14), (0, .ref a0)]) hx hb dX0_takeRoot_31 rfl hl (by decide) rfl (fun ls hl => ?_)
      refine lv_aload_n hx hb dX0_takeRoot_32 rfl (lv_at hl 1 rfl) ?_
      obtain ⟨x16, e17, hf⟩ := mb0 hf
      refine my_gL hx hb hts hown hK hJ fd_RX0_13 hv_0_1 e17 dX0_takeRoot_33 ?_
      refine lv_bipush (v := 16) hx hb dX0_takeRoot_36 (by decide) ?_
      refine lv_lshl hx hb dX0_takeRoot_38 rfl ?_
      obtain ⟨x19, σ18, e20, hf⟩ := mc0 hf
      refine mx_callS (As := [.long (x16 <<< ((16 : Int32).toInt64 &&& 63))]) (rest := []) hx hb hml hts hown hK hJ rfl rfl (c_X0_rootBelow l G P (x16 <<< ((16 : Int32).toInt64 &&& 63)) σ13 x19 σ18 e20) me_X0_rootBelow kw_774 kw_773 (Nat.le_of_ble_eq_true rfl) (Nat.le_of_ble_eq_true rfl) rfl hl.1 rfl (Nat.le_of_ble_eq_true rfl) dX0_takeRoot_39 (fun H locs hJ => ?_)
      refine lv_lstore_n (lv' := [(3, .long x19), (1, .long x14), (0, .ref a0)]) hx hb dX0_takeRoot_42 rfl hl (by decide) rfl (fun ls hl => ?_)
      refine lv_aload_n hx hb dX0_takeRoot_43 rfl (lv_at hl 2 rfl) ?_
      refine lv_lload_n hx hb dX0_takeRoot_44 rfl (lv_at hl 1 rfl) ?_
      refine lv_lload_n hx hb dX0_takeRoot_45 rfl (lv_at hl 0 rfl) ?_
      refine lv_lload_n hx hb dX0_takeRoot_46 rfl (lv_at hl 0 rfl) ?_
      refine lv_lmul hx hb dX0_takeRoot_47 ?_
      refine lv_aload_n hx hb dX0_takeRoot_48 rfl (lv_at hl 2 rfl) ?_
      obtain ⟨x21, e22, hf⟩ := mb0 hf
      refine my_gL hx hb hts hown hK hJ fd_RX0_13 hv_0_1 e22 dX0_takeRoot_49 ?_
      refine lv_bipush (v := 16) hx hb dX0_takeRoot_52 (by decide) ?_
      refine lv_lshl hx hb dX0_takeRoot_54 rfl ?_
      refine W.lcmp hx hb dX0_takeRoot_55 ?_
      refine lv_if_ge (tgt := 65) hx hb dX0_takeRoot_56 (by decide) (fun c23 => ?_) (fun c23 => ?_)
      · rw [if_pos c23] at hf
        refine lv_lload_n hx hb dX0_takeRoot_65 rfl (lv_at hl 0 rfl) ?_
        exact D66 x19 x14 a0 σ18 hf _ _ hJ ls (lv_sub hl [] rfl)
      · rw [if_neg c23] at hf
        refine lv_lload_n hx hb dX0_takeRoot_59 rfl (lv_at hl 0 rfl) ?_
        refine lv_lconst (v := 1) hx hb dX0_takeRoot_60 (by decide) ?_
        refine lv_ladd hx hb dX0_takeRoot_61 ?_
        refine lv_goto (tgt := 66) hx hb dX0_takeRoot_62 (by decide) ?_
        exact D66 (x19 + (1 : Int64)) x14 a0 σ18 hf _ _ hJ ls (lv_sub hl [] rfl)
    · rw [if_neg c10] at hf
      exact D16 a0 σ hf _ _ hJ ls (lv_sub hl [0] rfl)
set_option maxHeartbeats 4000000 in
set_option maxRecDepth 100000 in
theorem c_X0_shareAmong (l : Launch) (G : mx_G) (P : mx_P) (a0 : Nat) (p1 : Int64) (σ : mx_S) (σ' : mx_S) (hf : f_X0_shareAmong P a0 p1 σ = some σ') : mxz σ ≤ mpc P → mxu σ ≤ mps P → mx_M l yX0_shareAmong cX0_shareAmong 3 none 1 25 G P [.ref a0, .long p1] σ none σ' := by
  intro hcap hcau
  refine mx_ofW (by decide +kernel) hcap hcau (Nat.le_of_ble_eq_true rfl) ?_
  intro p e s m below meth c hx hb hr hml hts hown hlocks hname hK hJ ls hl
  have hz0 := hJ.2.1
  have hown : s.vm.findClass RX0 = some m.cls := hown
  have hl : lv_has ls 3 [(0, .ref a0), (1, .long p1)] := hl
  have D13 : ∀ (v0 : Nat) (τ : mx_S), f_X0_shareAmong_D13 P v0 τ = some σ' → ∀ (H : Heap) (locs : List Loc), mx_J G P s.heap (mxz σ) (mxu σ) τ H locs → ∀ ls : Array Slot, lv_has ls 3 [(0, .ref v0)] → W p l e (mx_rm P 1 25 σ) s m ([.ref a0, .long p1] : List Value).toArray below meth c H locs (mxz τ - mxz σ) (mxu τ - mxu σ) (mx_Z below G P none σ σ' [.ref a0, .long p1] s) (F0 m 13 ls []) := by
    intro v0 τ hf _ _ hJ ls hl
    unfold f_X0_shareAmong_D13 at hf
    refine lv_aload_n hx hb dX0_shareAmong_13 rfl (lv_at hl 0 rfl) ?_
    obtain ⟨i4, e5, hf⟩ := mb0 hf
    obtain ⟨σ6, e7, hf⟩ := mb0 hf
    refine mx_callV (As := []) (rest := []) hx hb hml hts hown hK hJ rfl rfl (ci := 0) rfl e5 (c_X0_shut l G P v0 τ σ6 e7) me_X0_shut kw_671 kw_672 kw_690 (Nat.le_of_ble_eq_true rfl) (Nat.le_of_ble_eq_true rfl) rfl hl.1 rfl (Nat.le_of_ble_eq_true rfl) dX0_shareAmong_14 (fun H locs hJ => ?_)
    exact my_vret hx hb hr hlocks hJ hf dX0_shareAmong_17
  unfold f_X0_shareAmong at hf
  refine lv_aload_n hx hb dX0_shareAmong_0 rfl (lv_at hl 0 rfl) ?_
  obtain ⟨x1, e2, hf⟩ := mb0 hf
  refine my_gI hx hb hts hown hK hJ fd_RX0_16 hv_0_2 e2 dX0_shareAmong_1 ?_
  refine lv_if_ne (tgt := 13) hx hb dX0_shareAmong_4 (by decide) (fun c3 => ?_) (fun c3 => ?_)
  · rw [if_neg c3] at hf
    exact D13 a0 σ hf _ _ hJ ls (lv_sub hl [0] rfl)
  · rw [if_pos c3] at hf
    refine lv_lload_n hx hb dX0_shareAmong_7 rfl (lv_at hl 1 rfl) ?_
    refine lv_lconst (v := 0) hx hb dX0_shareAmong_8 (by decide) ?_
    refine W.lcmp hx hb dX0_shareAmong_9 ?_
    refine lv_if_gt (tgt := 18) hx hb dX0_shareAmong_10 (by decide) (fun c8 => ?_) (fun c8 => ?_)
    · rw [if_pos c8] at hf
      refine lv_aload_n hx hb dX0_shareAmong_18 rfl (lv_at hl 0 rfl) ?_
      refine lv_aload_n hx hb dX0_shareAmong_19 rfl (lv_at hl 0 rfl) ?_
      obtain ⟨x9, e10, hf⟩ := mb0 hf
      refine my_gL hx hb hts hown hK hJ fd_RX0_7 hv_0_0 e10 dX0_shareAmong_20 ?_
      refine lv_lload_n hx hb dX0_shareAmong_23 rfl (lv_at hl 1 rfl) ?_
      obtain ⟨x12, σ11, e13, hf⟩ := mc0 hf
      refine mx_callS (As := [.long x9, .long p1]) (rest := [.ref a0]) hx hb hml hts hown hK hJ rfl rfl (c_J9_floorDiv_f86c9 l G P x9 p1 σ x12 σ11 e13) me_J9_floorDiv_f86c9 kw_756 kw_755 (Nat.le_of_ble_eq_true rfl) (Nat.le_of_ble_eq_true rfl) rfl hl.1 rfl (Nat.le_of_ble_eq_true rfl) dX0_shareAmong_24 (fun H locs hJ => ?_)
      refine lv_aload_n hx hb dX0_shareAmong_27 rfl (lv_at hl 0 rfl) ?_
      obtain ⟨x14, e15, hf⟩ := mb0 hf
      refine my_gL hx hb hts hown hK hJ fd_RX0_13 hv_0_1 e15 dX0_shareAmong_28 ?_
      refine lv_lneg hx hb dX0_shareAmong_31 ?_
      refine lv_lload_n hx hb dX0_shareAmong_32 rfl (lv_at hl 1 rfl) ?_
      obtain ⟨x17, σ16, e18, hf⟩ := mc0 hf
      refine mx_callS (As := [.long (-x14), .long p1]) (rest := [.long x12, .ref a0]) hx hb hml hts hown hK hJ rfl rfl (c_J9_floorDiv_f86c9 l G P (-x14) p1 σ11 x17 σ16 e18) me_J9_floorDiv_f86c9 kw_756 kw_755 (Nat.le_of_ble_eq_true rfl) (Nat.le_of_ble_eq_true rfl) rfl hl.1 rfl (Nat.le_of_ble_eq_true rfl) dX0_shareAmong_33 (fun H locs hJ => ?_)
      refine lv_lneg hx hb dX0_shareAmong_36 ?_
      obtain ⟨i19, e20, hf⟩ := mb0 hf
      obtain ⟨σ21, e22, hf⟩ := mb0 hf
      refine mx_callV (As := [.long x12, .long (-x17)]) (rest := []) hx hb hml hts hown hK hJ rfl rfl (ci := 0) rfl e20 (c_X0_keep l G P a0 x12 (-x17) σ16 σ21 e22) me_X0_keep kw_480 kw_481 kw_691 (Nat.le_of_ble_eq_true rfl) (Nat.le_of_ble_eq_true rfl) rfl hl.1 rfl (Nat.le_of_ble_eq_true rfl) dX0_shareAmong_37 (fun H locs hJ => ?_)
      exact my_vret hx hb hr hlocks hJ hf dX0_shareAmong_40
    · rw [if_neg c8] at hf
      exact D13 a0 σ hf _ _ hJ ls (lv_sub hl [0] rfl)
set_option maxHeartbeats 4000000 in
set_option maxRecDepth 100000 in
theorem c_X0_norm (l : Launch) (G : mx_G) (P : mx_P) (a0 : Nat) (a1 : Nat) (σ : mx_S) (σ' : mx_S) (hf : f_X0_norm P a0 a1 σ = some σ') : mxz σ ≤ mpc P → mxu σ ≤ mps P → mx_M l yX0_norm cX0_norm 2 none 2 53 G P [.ref a0, .ref a1] σ none σ' := by
  intro hcap hcau
  refine mx_ofW (by decide +kernel) hcap hcau (Nat.le_of_ble_eq_true rfl) ?_
  intro p e s m below meth c hx hb hr hml hts hown hlocks hname hK hJ ls hl
  have hz0 := hJ.2.1
  have hown : s.vm.findClass RX0 = some m.cls := hown
  have hl : lv_has ls 2 [(0, .ref a0), (1, .ref a1)] := hl
  unfold f_X0_norm at hf
  refine lv_aload_n hx hb dX0_norm_0 rfl (lv_at hl 0 rfl) ?_
  refine lv_lconst (v := 0) hx hb dX0_norm_1 (by decide) ?_
  refine lv_lconst (v := 0) hx hb dX0_norm_2 (by decide) ?_
  obtain ⟨i1, e2, hf⟩ := mb0 hf
  obtain ⟨σ3, e4, hf⟩ := mb0 hf
  refine mx_callV (As := [.long (0 : Int64), .long (0 : Int64)]) (rest := []) hx hb hml hts hown hK hJ rfl rfl (ci := 0) rfl e2 (c_X0_keep l G P a0 (0 : Int64) (0 : Int64) σ σ3 e4) me_X0_keep kw_480 kw_481 kw_691 (Nat.le_of_ble_eq_true rfl) (Nat.le_of_ble_eq_true rfl) rfl hl.1 rfl (Nat.le_of_ble_eq_true rfl) dX0_norm_3 (fun H locs hJ => ?_)
  refine lv_aload_n hx hb dX0_norm_6 rfl (lv_at hl 0 rfl) ?_
  refine lv_aload_n hx hb dX0_norm_7 rfl (lv_at hl 1 rfl) ?_
  obtain ⟨b5, e6, hf⟩ := mb0 hf
  refine my_gR hx hb hts hown hK hJ fd_RX0_51 hv_8_0 e6 dX0_norm_8 ?_
  obtain ⟨i7, e8, hf⟩ := mb0 hf
  obtain ⟨σ9, e10, hf⟩ := mb0 hf
  refine mx_callV (As := [.ref b5]) (rest := []) hx hb hml hts hown hK hJ rfl rfl (ci := 0) rfl e8 (c_X0_addSquare l G P a0 b5 σ3 σ9 e10) me_X0_addSquare kw_742 kw_743 kw_741 (Nat.le_of_ble_eq_true rfl) (Nat.le_of_ble_eq_true rfl) rfl hl.1 rfl (Nat.le_of_ble_eq_true rfl) dX0_norm_11 (fun H locs hJ => ?_)
  refine lv_aload_n hx hb dX0_norm_14 rfl (lv_at hl 0 rfl) ?_
  refine lv_aload_n hx hb dX0_norm_15 rfl (lv_at hl 1 rfl) ?_
  obtain ⟨b11, e12, hf⟩ := mb0 hf
  refine my_gR hx hb hts hown hK hJ fd_RX0_61 hv_8_1 e12 dX0_norm_16 ?_
  obtain ⟨i13, e14, hf⟩ := mb0 hf
  obtain ⟨σ15, e16, hf⟩ := mb0 hf
  refine mx_callV (As := [.ref b11]) (rest := []) hx hb hml hts hown hK hJ rfl rfl (ci := 0) rfl e14 (c_X0_addSquare l G P a0 b11 σ9 σ15 e16) me_X0_addSquare kw_742 kw_743 kw_741 (Nat.le_of_ble_eq_true rfl) (Nat.le_of_ble_eq_true rfl) rfl hl.1 rfl (Nat.le_of_ble_eq_true rfl) dX0_norm_19 (fun H locs hJ => ?_)
  exact my_vret hx hb hr hlocks hJ hf dX0_norm_22
set_option maxHeartbeats 4000000 in
set_option maxRecDepth 100000 in
theorem c_X0_dot (l : Launch) (G : mx_G) (P : mx_P) (a0 : Nat) (a1 : Nat) (a2 : Nat) (σ : mx_S) (σ' : mx_S) (hf : f_X0_dot P a0 a1 a2 σ = some σ') : mxz σ ≤ mpc P → mxu σ ≤ mps P → mx_M l yX0_dot cX0_dot 3 none 2 59 G P [.ref a0, .ref a1, .ref a2] σ none σ' := by
  intro hcap hcau
  refine mx_ofW (by decide +kernel) hcap hcau (Nat.le_of_ble_eq_true rfl) ?_
  intro p e s m below meth c hx hb hr hml hts hown hlocks hname hK hJ ls hl
  have hz0 := hJ.2.1
  have hown : s.vm.findClass RX0 = some m.cls := hown
  have hl : lv_has ls 3 [(0, .ref a0), (1, .ref a1), (2, .ref a2)] := hl
  unfold f_X0_dot at hf
  refine lv_aload_n hx hb dX0_dot_0 rfl (lv_at hl 0 rfl) ?_
  refine lv_lconst (v := 0) hx hb dX0_dot_1 (by decide) ?_
  refine lv_lconst (v := 0) hx hb dX0_dot_2 (by decide) ?_
  obtain ⟨i1, e2, hf⟩ := mb0 hf
  obtain ⟨σ3, e4, hf⟩ := mb0 hf
  refine mx_callV (As := [.long (0 : Int64), .long (0 : Int64)]) (rest := []) hx hb hml hts hown hK hJ rfl rfl (ci := 0) rfl e2 (c_X0_keep l G P a0 (0 : Int64) (0 : Int64) σ σ3 e4) me_X0_keep kw_480 kw_481 kw_691 (Nat.le_of_ble_eq_true rfl) (Nat.le_of_ble_eq_true rfl) rfl hl.1 rfl (Nat.le_of_ble_eq_true rfl) dX0_dot_3 (fun H locs hJ => ?_)
  refine lv_aload_n hx hb dX0_dot_6 rfl (lv_at hl 0 rfl) ?_
  refine lv_iconst (v := 1) hx hb dX0_dot_7 (by decide) ?_
  refine lv_aload_n hx hb dX0_dot_8 rfl (lv_at hl 1 rfl) ?_
  obtain ⟨b5, e6, hf⟩ := mb0 hf
  refine my_gR hx hb hts hown hK hJ fd_RX0_51 hv_8_0 e6 dX0_dot_9 ?_
  refine lv_aload_n hx hb dX0_dot_12 rfl (lv_at hl 2 rfl) ?_
  obtain ⟨b7, e8, hf⟩ := mb0 hf
  refine my_gR hx hb hts hown hK hJ fd_RX0_51 hv_8_0 e8 dX0_dot_13 ?_
  obtain ⟨i9, e10, hf⟩ := mb0 hf
  obtain ⟨σ11, e12, hf⟩ := mb0 hf
  refine mx_callV (As := [.int (1 : Int32), .ref b5, .ref b7]) (rest := []) hx hb hml hts hown hK hJ rfl rfl (ci := 0) rfl e10 (c_X0_addProduct l G P a0 (1 : Int32) b5 b7 σ3 σ11 e12) me_X0_addProduct kw_705 kw_706 kw_792 (Nat.le_of_ble_eq_true rfl) (Nat.le_of_ble_eq_true rfl) rfl hl.1 rfl (Nat.le_of_ble_eq_true rfl) dX0_dot_16 (fun H locs hJ => ?_)
  refine lv_aload_n hx hb dX0_dot_19 rfl (lv_at hl 0 rfl) ?_
  refine lv_iconst (v := 1) hx hb dX0_dot_20 (by decide) ?_
  refine lv_aload_n hx hb dX0_dot_21 rfl (lv_at hl 1 rfl) ?_
  obtain ⟨b13, e14, hf⟩ := mb0 hf
  refine my_gR hx hb hts hown hK hJ fd_RX0_61 hv_8_1 e14 dX0_dot_22 ?_
  refine lv_aload_n hx hb dX0_dot_25 rfl (lv_at hl 2 rfl) ?_
  obtain ⟨b15, e16, hf⟩ := mb0 hf
  refine my_gR hx hb hts hown hK hJ fd_RX0_61 hv_8_1 e16 dX0_dot_26 ?_
  obtain ⟨i17, e18, hf⟩ := mb0 hf
  obtain ⟨σ19, e20, hf⟩ := mb0 hf
  refine mx_callV (As := [.int (1 : Int32), .ref b13, .ref b15]) (rest := []) hx hb hml hts hown hK hJ rfl rfl (ci := 0) rfl e18 (c_X0_addProduct l G P a0 (1 : Int32) b13 b15 σ11 σ19 e20) me_X0_addProduct kw_705 kw_706 kw_792 (Nat.le_of_ble_eq_true rfl) (Nat.le_of_ble_eq_true rfl) rfl hl.1 rfl (Nat.le_of_ble_eq_true rfl) dX0_dot_29 (fun H locs hJ => ?_)
  exact my_vret hx hb hr hlocks hJ hf dX0_dot_32
set_option maxHeartbeats 4000000 in
set_option maxRecDepth 100000 in
theorem c_X0_cross (l : Launch) (G : mx_G) (P : mx_P) (a0 : Nat) (a1 : Nat) (a2 : Nat) (σ : mx_S) (σ' : mx_S) (hf : f_X0_cross P a0 a1 a2 σ = some σ') : mxz σ ≤ mpc P → mxu σ ≤ mps P → mx_M l yX0_cross cX0_cross 3 none 2 59 G P [.ref a0, .ref a1, .ref a2] σ none σ' := by
  intro hcap hcau
  refine mx_ofW (by decide +kernel) hcap hcau (Nat.le_of_ble_eq_true rfl) ?_
  intro p e s m below meth c hx hb hr hml hts hown hlocks hname hK hJ ls hl
  have hz0 := hJ.2.1
  have hown : s.vm.findClass RX0 = some m.cls := hown
  have hl : lv_has ls 3 [(0, .ref a0), (1, .ref a1), (2, .ref a2)] := hl
  unfold f_X0_cross at hf
  refine lv_aload_n hx hb dX0_cross_0 rfl (lv_at hl 0 rfl) ?_
  refine lv_lconst (v := 0) hx hb dX0_cross_1 (by decide) ?_
  refine lv_lconst (v := 0) hx hb dX0_cross_2 (by decide) ?_
  obtain ⟨i1, e2, hf⟩ := mb0 hf
  obtain ⟨σ3, e4, hf⟩ := mb0 hf
  refine mx_callV (As := [.long (0 : Int64), .long (0 : Int64)]) (rest := []) hx hb hml hts hown hK hJ rfl rfl (ci := 0) rfl e2 (c_X0_keep l G P a0 (0 : Int64) (0 : Int64) σ σ3 e4) me_X0_keep kw_480 kw_481 kw_691 (Nat.le_of_ble_eq_true rfl) (Nat.le_of_ble_eq_true rfl) rfl hl.1 rfl (Nat.le_of_ble_eq_true rfl) dX0_cross_3 (fun H locs hJ => ?_)
  refine lv_aload_n hx hb dX0_cross_6 rfl (lv_at hl 0 rfl) ?_
  refine lv_iconst (v := 1) hx hb dX0_cross_7 (by decide) ?_
  refine lv_aload_n hx hb dX0_cross_8 rfl (lv_at hl 1 rfl) ?_
  obtain ⟨b5, e6, hf⟩ := mb0 hf
  refine my_gR hx hb hts hown hK hJ fd_RX0_51 hv_8_0 e6 dX0_cross_9 ?_
  refine lv_aload_n hx hb dX0_cross_12 rfl (lv_at hl 2 rfl) ?_
  obtain ⟨b7, e8, hf⟩ := mb0 hf
  refine my_gR hx hb hts hown hK hJ fd_RX0_61 hv_8_1 e8 dX0_cross_13 ?_
  obtain ⟨i9, e10, hf⟩ := mb0 hf
  obtain ⟨σ11, e12, hf⟩ := mb0 hf
  refine mx_callV (As := [.int (1 : Int32), .ref b5, .ref b7]) (rest := []) hx hb hml hts hown hK hJ rfl rfl (ci := 0) rfl e10 (c_X0_addProduct l G P a0 (1 : Int32) b5 b7 σ3 σ11 e12) me_X0_addProduct kw_705 kw_706 kw_792 (Nat.le_of_ble_eq_true rfl) (Nat.le_of_ble_eq_true rfl) rfl hl.1 rfl (Nat.le_of_ble_eq_true rfl) dX0_cross_16 (fun H locs hJ => ?_)
  refine lv_aload_n hx hb dX0_cross_19 rfl (lv_at hl 0 rfl) ?_
  refine lv_iconst (v := (-1)) hx hb dX0_cross_20 (by decide) ?_
  refine lv_aload_n hx hb dX0_cross_21 rfl (lv_at hl 1 rfl) ?_
  obtain ⟨b13, e14, hf⟩ := mb0 hf
  refine my_gR hx hb hts hown hK hJ fd_RX0_61 hv_8_1 e14 dX0_cross_22 ?_
  refine lv_aload_n hx hb dX0_cross_25 rfl (lv_at hl 2 rfl) ?_
  obtain ⟨b15, e16, hf⟩ := mb0 hf
  refine my_gR hx hb hts hown hK hJ fd_RX0_51 hv_8_0 e16 dX0_cross_26 ?_
  obtain ⟨i17, e18, hf⟩ := mb0 hf
  obtain ⟨σ19, e20, hf⟩ := mb0 hf
  refine mx_callV (As := [.int (-1 : Int32), .ref b13, .ref b15]) (rest := []) hx hb hml hts hown hK hJ rfl rfl (ci := 0) rfl e18 (c_X0_addProduct l G P a0 (-1 : Int32) b13 b15 σ11 σ19 e20) me_X0_addProduct kw_705 kw_706 kw_792 (Nat.le_of_ble_eq_true rfl) (Nat.le_of_ble_eq_true rfl) rfl hl.1 rfl (Nat.le_of_ble_eq_true rfl) dX0_cross_29 (fun H locs hJ => ?_)
  exact my_vret hx hb hr hlocks hJ hf dX0_cross_32
set_option maxHeartbeats 4000000 in
set_option maxRecDepth 100000 in
theorem c_X3_init (l : Launch) (G : mx_G) (P : mx_P) (a0 : Nat) (σ : mx_S) (σ' : mx_S) (hf : f_X3_init P a0 σ = some σ') : mxz σ ≤ mpc P → mxu σ ≤ mps P → mx_M l yX3_init cX3_init 1 none 1 12 G P [.ref a0] σ none σ' := by
  intro hcap hcau
  refine mx_ofW (by decide +kernel) hcap hcau (Nat.le_of_ble_eq_true rfl) ?_
  intro p e s m below meth c hx hb hr hml hts hown hlocks hname hK hJ ls hl
  have hz0 := hJ.2.1
  have hown : s.vm.findClass RX3 = some m.cls := hown
  have hl : lv_has ls 1 [(0, .ref a0)] := hl
  unfold f_X3_init at hf
  refine lv_aload_n hx hb dX3_init_0 rfl (lv_at hl 0 rfl) ?_
  refine W.objInit hx hb hown (hts _ kw_152) (hts _ kw_35) (hts _ kw_36) rfl (by rw [hml]; exact hl.1) rfl dX3_init_1 (Nat.le_of_ble_eq_true rfl) (Nat.le_of_ble_eq_true rfl) ?_
  refine W.eq (g2 := F0 m 4 ls []) rfl ?_
  refine lv_aload_n hx hb dX3_init_4 rfl (lv_at hl 0 rfl) ?_
  refine lv_lconst (v := 0) hx hb dX3_init_5 (by decide) ?_
  obtain ⟨σ1, e2, hf⟩ := mb0 hf
  refine my_pL hx hb hts hown hK hJ fd_RX3_7 cd_3 (Or.inl rfl) ht_3_0 e2 dX3_init_6 (fun H locs hJ => ?_)
  refine lv_aload_n hx hb dX3_init_9 rfl (lv_at hl 0 rfl) ?_
  refine lv_lconst (v := 1) hx hb dX3_init_10 (by decide) ?_
  obtain ⟨σ3, e4, hf⟩ := mb0 hf
  refine my_pL hx hb hts hown hK hJ fd_RX3_13 cd_3 (Or.inl rfl) ht_3_1 e4 dX3_init_11 (fun H locs hJ => ?_)
  refine lv_aload_n hx hb dX3_init_14 rfl (lv_at hl 0 rfl) ?_
  refine lv_iconst (v := 0) hx hb dX3_init_15 (by decide) ?_
  obtain ⟨σ5, e6, hf⟩ := mb0 hf
  refine my_pZ hx hb hts hown hK hJ fd_RX3_16 cd_3 (Or.inl rfl) ht_3_2 e6 dX3_init_16 (fun H locs hJ => ?_)
  exact my_vret hx hb hr hlocks hJ hf dX3_init_19
set_option maxHeartbeats 4000000 in
set_option maxRecDepth 100000 in
theorem c_X1_init (l : Launch) (G : mx_G) (P : mx_P) (a0 : Nat) (σ : mx_S) (σ' : mx_S) (hf : f_X1_init P a0 σ = some σ') : mxz σ ≤ mpc P → mxu σ ≤ mps P → mx_M l yX1_init cX1_init 1 none 2 32 G P [.ref a0] σ none σ' := by
  intro hcap hcau
  refine mx_ofW (by decide +kernel) hcap hcau (Nat.le_of_ble_eq_true rfl) ?_
  intro p e s m below meth c hx hb hr hml hts hown hlocks hname hK hJ ls hl
  have hz0 := hJ.2.1
  have hown : s.vm.findClass RX1 = some m.cls := hown
  have hl : lv_has ls 1 [(0, .ref a0)] := hl
  unfold f_X1_init at hf
  refine lv_aload_n hx hb dX1_init_0 rfl (lv_at hl 0 rfl) ?_
  refine W.objInit hx hb hown (hts _ kw_563) (hts _ kw_35) (hts _ kw_36) rfl (by rw [hml]; exact hl.1) rfl dX1_init_1 (Nat.le_of_ble_eq_true rfl) (Nat.le_of_ble_eq_true rfl) ?_
  refine W.eq (g2 := F0 m 4 ls []) rfl ?_
  refine lv_aload_n hx hb dX1_init_4 rfl (lv_at hl 0 rfl) ?_
  refine lv_bipush (v := 30) hx hb dX1_init_5 (by decide) ?_
  obtain ⟨b1, σ2, e3, hf⟩ := mc0 hf
  refine mx_nA hx hb hts hK hJ rfl rfl (t := 0) (by decide) rfl (fun _ h => h) (by decide) rfl e3 kw_137 dX1_init_7 (fun H locs hJ => ?_)
  obtain ⟨σ4, e5, hf⟩ := mb0 hf
  refine my_pR hx hb hts hown hK hJ fd_RX1_9 cd_1 (Or.inr ⟨rfl, hname, rfl⟩) ft_1_1 e5 dX1_init_9 (fun H locs hJ => ?_)
  refine lv_aload_n hx hb dX1_init_12 rfl (lv_at hl 0 rfl) ?_
  refine lv_bipush (v := 30) hx hb dX1_init_13 (by decide) ?_
  obtain ⟨b6, σ7, e8, hf⟩ := mc0 hf
  refine mx_nA hx hb hts hK hJ rfl rfl (t := 0) (by decide) rfl (fun _ h => h) (by decide) rfl e8 kw_137 dX1_init_15 (fun H locs hJ => ?_)
  obtain ⟨σ9, e10, hf⟩ := mb0 hf
  refine my_pR hx hb hts hown hK hJ fd_RX1_13 cd_1 (Or.inr ⟨rfl, hname, rfl⟩) ft_1_2 e10 dX1_init_17 (fun H locs hJ => ?_)
  refine lv_aload_n hx hb dX1_init_20 rfl (lv_at hl 0 rfl) ?_
  refine lv_bipush (v := 30) hx hb dX1_init_21 (by decide) ?_
  obtain ⟨b11, σ12, e13, hf⟩ := mc0 hf
  refine mx_nA hx hb hts hK hJ rfl rfl (t := 0) (by decide) rfl (fun _ h => h) (by decide) rfl e13 kw_137 dX1_init_23 (fun H locs hJ => ?_)
  obtain ⟨σ14, e15, hf⟩ := mb0 hf
  refine my_pR hx hb hts hown hK hJ fd_RX1_16 cd_1 (Or.inr ⟨rfl, hname, rfl⟩) ft_1_3 e15 dX1_init_25 (fun H locs hJ => ?_)
  refine lv_aload_n hx hb dX1_init_28 rfl (lv_at hl 0 rfl) ?_
  refine lv_bipush (v := 30) hx hb dX1_init_29 (by decide) ?_
  obtain ⟨b16, σ17, e18, hf⟩ := mc0 hf
  refine mx_nA hx hb hts hK hJ rfl rfl (t := 1) (by decide) rfl (fun _ h => h) (by decide) rfl e18 kw_138 dX1_init_31 (fun H locs hJ => ?_)
  obtain ⟨σ19, e20, hf⟩ := mb0 hf
  refine my_pR hx hb hts hown hK hJ fd_RX1_19 cd_1 (Or.inr ⟨rfl, hname, rfl⟩) ft_1_4 e20 dX1_init_33 (fun H locs hJ => ?_)
  refine lv_aload_n hx hb dX1_init_36 rfl (lv_at hl 0 rfl) ?_
  refine lv_bipush (v := 30) hx hb dX1_init_37 (by decide) ?_
  obtain ⟨b21, σ22, e23, hf⟩ := mc0 hf
  refine mx_nA hx hb hts hK hJ rfl rfl (t := 1) (by decide) rfl (fun _ h => h) (by decide) rfl e23 kw_138 dX1_init_39 (fun H locs hJ => ?_)
  obtain ⟨σ24, e25, hf⟩ := mb0 hf
  refine my_pR hx hb hts hown hK hJ fd_RX1_23 cd_1 (Or.inr ⟨rfl, hname, rfl⟩) ft_1_5 e25 dX1_init_41 (fun H locs hJ => ?_)
  refine lv_aload_n hx hb dX1_init_44 rfl (lv_at hl 0 rfl) ?_
  obtain ⟨b26, σ27, e28, hf⟩ := mc0 hf
  refine mx_nO hx hb hts wi_3 cd_3.1 hown hK hJ rfl rfl (ci := 3) rfl e28 kw_564 kw_148 kw_4 df_3 dX1_init_45 (fun H locs hJ => ?_)
  refine lv_dup hx hb dX1_init_48 rfl ?_
  obtain ⟨σ29, e30, hf⟩ := mb0 hf
  refine mx_callI (As := []) (rest := [.ref b26, .ref a0]) hx hb hml hts hown hK hJ rfl rfl (c_X3_init l G P b26 σ27 σ29 e30) me_X3_init kw_150 rfl kw_565 (Nat.le_of_ble_eq_true rfl) (Nat.le_of_ble_eq_true rfl) rfl hl.1 rfl (Nat.le_of_ble_eq_true rfl) dX1_init_49 (fun H locs hJ => ?_)
  obtain ⟨σ31, e32, hf⟩ := mb0 hf
  refine my_pR hx hb hts hown hK hJ fd_RX1_29 cd_1 (Or.inr ⟨rfl, hname, rfl⟩) ft_1_6 e32 dX1_init_52 (fun H locs hJ => ?_)
  refine lv_aload_n hx hb dX1_init_55 rfl (lv_at hl 0 rfl) ?_
  obtain ⟨b33, σ34, e35, hf⟩ := mc0 hf
  refine mx_nO hx hb hts wi_3 cd_3.1 hown hK hJ rfl rfl (ci := 3) rfl e35 kw_564 kw_148 kw_4 df_3 dX1_init_56 (fun H locs hJ => ?_)
  refine lv_dup hx hb dX1_init_59 rfl ?_
  obtain ⟨σ36, e37, hf⟩ := mb0 hf
  refine mx_callI (As := []) (rest := [.ref b33, .ref a0]) hx hb hml hts hown hK hJ rfl rfl (c_X3_init l G P b33 σ34 σ36 e37) me_X3_init kw_150 rfl kw_565 (Nat.le_of_ble_eq_true rfl) (Nat.le_of_ble_eq_true rfl) rfl hl.1 rfl (Nat.le_of_ble_eq_true rfl) dX1_init_60 (fun H locs hJ => ?_)
  obtain ⟨σ38, e39, hf⟩ := mb0 hf
  refine my_pR hx hb hts hown hK hJ fd_RX1_33 cd_1 (Or.inr ⟨rfl, hname, rfl⟩) ft_1_7 e39 dX1_init_63 (fun H locs hJ => ?_)
  exact my_vret hx hb hr hlocks hJ hf dX1_init_66
set_option maxHeartbeats 4000000 in
set_option maxRecDepth 100000 in
theorem c_X10_rewind (l : Launch) (G : mx_G) (P : mx_P) (a0 : Nat) (σ : mx_S) (σ' : mx_S) (hf : f_X10_rewind P a0 σ = some σ') : mxz σ ≤ mpc P → mxu σ ≤ mps P → mx_M l yX10_rewind cX10_rewind 1 none 0 0 G P [.ref a0] σ none σ' := by
  intro hcap hcau
  refine mx_ofW (by decide +kernel) hcap hcau (Nat.le_of_ble_eq_true rfl) ?_
  intro p e s m below meth c hx hb hr hml hts hown hlocks hname hK hJ ls hl
  have hz0 := hJ.2.1
  have hown : s.vm.findClass RX10 = some m.cls := hown
  have hl : lv_has ls 1 [(0, .ref a0)] := hl
  unfold f_X10_rewind at hf
  refine lv_aload_n hx hb dX10_rewind_0 rfl (lv_at hl 0 rfl) ?_
  refine lv_iconst (v := 0) hx hb dX10_rewind_1 (by decide) ?_
  obtain ⟨σ1, e2, hf⟩ := mb0 hf
  refine my_pI hx hb hts hown hK hJ fd_RX10_54 cd_10 (Or.inl rfl) ht_10_4 e2 dX10_rewind_2 (fun H locs hJ => ?_)
  exact my_vret hx hb hr hlocks hJ hf dX10_rewind_5
set_option maxHeartbeats 4000000 in
set_option maxRecDepth 100000 in
theorem c_X10_byteAt (l : Launch) (G : mx_G) (P : mx_P) (a0 : Nat) (p1 : Int32) (σ : mx_S) (r : Int32) (σ' : mx_S) (hf : f_X10_byteAt P a0 p1 σ = some (r, σ')) : mxz σ ≤ mpc P → mxu σ ≤ mps P → mx_M l yX10_byteAt cX10_byteAt 2 (some .int) 0 0 G P [.ref a0, .int p1] σ (some (.int r)) σ' := by
  intro hcap hcau
  refine mx_ofW (by decide +kernel) hcap hcau (Nat.le_of_ble_eq_true rfl) ?_
  intro p e s m below meth c hx hb hr hml hts hown hlocks hname hK hJ ls hl
  have hz0 := hJ.2.1
  have hown : s.vm.findClass RX10 = some m.cls := hown
  have hl : lv_has ls 2 [(0, .ref a0), (1, .int p1)] := hl
  have D26 : ∀ (w0 : Int32) (τ : mx_S), f_X10_byteAt_D26 P w0 τ = some (r, σ') → ∀ (H : Heap) (locs : List Loc), mx_J G P s.heap (mxz σ) (mxu σ) τ H locs → ∀ ls : Array Slot, lv_has ls 2 [] → W p l e (mx_rm P 0 0 σ) s m ([.ref a0, .int p1] : List Value).toArray below meth c H locs (mxz τ - mxz σ) (mxu τ - mxu σ) (mx_Z below G P (some (.int r)) σ σ' [.ref a0, .int p1] s) (F0 m 26 ls [.int w0]) := by
    intro w0 τ hf _ _ hJ ls hl
    unfold f_X10_byteAt_D26 at hf
    exact my_iret hx hb hr hlocks hJ hf dX10_byteAt_26
  have D25 : ∀  (τ : mx_S), f_X10_byteAt_D25 P  τ = some (r, σ') → ∀ (H : Heap) (locs : List Loc), mx_J G P s.heap (mxz σ) (mxu σ) τ H locs → ∀ ls : Array Slot, lv_has ls 2 [] → W p l e (mx_rm P 0 0 σ) s m ([.ref a0, .int p1] : List Value).toArray below meth c H locs (mxz τ - mxz σ) (mxu τ - mxu σ) (mx_Z below G P (some (.int r)) σ σ' [.ref a0, .int p1] s) (F0 m 25 ls []) := by
    intro  τ hf _ _ hJ ls hl
    unfold f_X10_byteAt_D25 at hf
    refine lv_iconst (v := (-1)) hx hb dX10_byteAt_25 (by decide) ?_
    exact D26 (-1 : Int32) τ hf _ _ hJ ls (lv_sub hl [] rfl)
  unfold f_X10_byteAt at hf
  refine lv_iload_n hx hb dX10_byteAt_0 rfl (lv_at hl 1 rfl) ?_
  refine lv_if_lt (tgt := 25) hx hb dX10_byteAt_1 (by decide) (fun c1 => ?_) (fun c1 => ?_)
  · rw [if_pos c1] at hf
    exact D25  σ hf _ _ hJ ls (lv_sub hl [] rfl)
  · rw [if_neg c1] at hf
    refine lv_iload_n hx hb dX10_byteAt_4 rfl (lv_at hl 1 rfl) ?_
    refine lv_aload_n hx hb dX10_byteAt_5 rfl (lv_at hl 0 rfl) ?_
    obtain ⟨x2, e3, hf⟩ := mb0 hf
    refine my_gI hx hb hts hown hK hJ fd_RX10_33 hv_10_1 e3 dX10_byteAt_6 ?_
    refine lv_icmp_ge (tgt := 25) hx hb dX10_byteAt_9 (by decide) (fun c4 => ?_) (fun c4 => ?_)
    · rw [if_pos c4] at hf
      exact D25  σ hf _ _ hJ ls (lv_sub hl [] rfl)
    · rw [if_neg c4] at hf
      refine lv_aload_n hx hb dX10_byteAt_12 rfl (lv_at hl 0 rfl) ?_
      obtain ⟨b5, e6, hf⟩ := mb0 hf
      refine my_gR hx hb hts hown hK hJ fd_RX10_9 hv_10_0 e6 dX10_byteAt_13 ?_
      refine lv_iload_n hx hb dX10_byteAt_16 rfl (lv_at hl 1 rfl) ?_
      obtain ⟨x7, e8, hf⟩ := mb0 hf
      refine mx_aB hx hb hK hJ e8 dX10_byteAt_17 ?_
      refine lv_sipush (v := 255) hx hb dX10_byteAt_18 (by decide) ?_
      refine lv_iand hx hb dX10_byteAt_21 ?_
      refine lv_goto (tgt := 26) hx hb dX10_byteAt_22 (by decide) ?_
      exact D26 (x7 &&& (255 : Int32)) σ hf _ _ hJ ls (lv_sub hl [] rfl)
set_option maxHeartbeats 4000000 in
set_option maxRecDepth 100000 in
theorem c_X10_skipSpaces (l : Launch) (G : mx_G) (P : mx_P) (a0 : Nat) (σ : mx_S) (σ' : mx_S) (hf : f_X10_skipSpaces P a0 σ = some σ') : mxz σ ≤ mpc P → mxu σ ≤ mps P → mx_M l yX10_skipSpaces cX10_skipSpaces 3 none 1 21 G P [.ref a0] σ none σ' := by
  intro hcap hcau
  refine mx_ofW (by decide +kernel) hcap hcau (Nat.le_of_ble_eq_true rfl) ?_
  intro p e s m below meth c hx hb hr hml hts hown hlocks hname hK hJ ls hl
  have hz0 := hJ.2.1
  have hown : s.vm.findClass RX10 = some m.cls := hown
  have hl : lv_has ls 3 [(0, .ref a0)] := hl
  have D43_2 : ∀ (v0 : Nat) (v1 : Int32) (τ : mx_S) (o : (Int32 × mx_S) ⊕ ((mx_S) ⊕ (mx_S))), f_X10_skipSpaces_D43_2 P v0 v1 τ = some o → (∀ (y1 : Int32) (υ : mx_S), o = .inl (y1, υ) → ∀ (H : Heap) (locs : List Loc), mx_J G P s.heap (mxz σ) (mxu σ) υ H locs → ∀ ls : Array Slot, lv_has ls 3 [(0, .ref v0), (1, .int y1)] → W p l e (mx_rm P 1 21 σ) s m ([.ref a0] : List Value).toArray below meth c H locs (mxz υ - mxz σ) (mxu υ - mxu σ) (mx_Z below G P none σ σ' [.ref a0] s) (F0 m 2 ls [])) → (∀  (υ : mx_S), o = .inr (.inl υ) → ∀ (H : Heap) (locs : List Loc), mx_J G P s.heap (mxz σ) (mxu σ) υ H locs → ∀ ls : Array Slot, lv_has ls 3 [] → W p l e (mx_rm P 1 21 σ) s m ([.ref a0] : List Value).toArray below meth c H locs (mxz υ - mxz σ) (mxu υ - mxu σ) (mx_Z below G P none σ σ' [.ref a0] s) (F0 m 42 ls [])) → (∀  (υ : mx_S), o = .inr (.inr υ) → ∀ (H : Heap) (locs : List Loc), mx_J G P s.heap (mxz σ) (mxu σ) υ H locs → ∀ ls : Array Slot, lv_has ls 3 [] → W p l e (mx_rm P 1 21 σ) s m ([.ref a0] : List Value).toArray below meth c H locs (mxz υ - mxz σ) (mxu υ - mxu σ) (mx_Z below G P none σ σ' [.ref a0] s) (F0 m 59 ls [])) → ∀ (H : Heap) (locs : List Loc), mx_J G P s.heap (mxz σ) (mxu σ) τ H locs → ∀ ls : Array Slot, lv_has ls 3 [(0, .ref v0), (1, .int v1)] → W p l e (mx_rm P 1 21 σ) s m ([.ref a0] : List Value).toArray below meth c H locs (mxz τ - mxz σ) (mxu τ - mxu σ) (mx_Z below G P none σ σ' [.ref a0] s) (F0 m 43 ls []) := by
    intro v0 v1 τ o hf Kb Ke0 Ke1 H locs hJ ls hl
    unfold f_X10_skipSpaces_D43_2 at hf
    refine lv_aload_n hx hb dX10_skipSpaces_43 rfl (lv_at hl 0 rfl) ?_
    refine lv_dup hx hb dX10_skipSpaces_44 rfl ?_
    obtain ⟨x10, e11, hf⟩ := mb0 hf
    refine my_gI hx hb hts hown hK hJ fd_RX10_54 hv_10_4 e11 dX10_skipSpaces_45 ?_
    refine lv_iconst (v := 1) hx hb dX10_skipSpaces_48 (by decide) ?_
    refine lv_iadd hx hb dX10_skipSpaces_49 ?_
    obtain ⟨σ12, e13, hf⟩ := mb0 hf
    refine my_pI hx hb hts hown hK hJ fd_RX10_54 cd_10 (Or.inl rfl) ht_10_4 e13 dX10_skipSpaces_50 (fun H locs hJ => ?_)
    obtain ⟨x14, e15, hf⟩ := mb0 hf
    refine lv_iinc (v := x14) (lv' := [(1, .int x14), (0, .ref v0)]) hx hb dX10_skipSpaces_53 hl (k := 1) rfl (by rw [← Option.some.inj e15]; rfl) (by decide) rfl (fun ls hl => ?_)
    refine lv_goto (tgt := 2) hx hb dX10_skipSpaces_56 (by decide) ?_
    exact Kb x14 σ12 (Option.some.inj hf).symm _ _ hJ ls (lv_sub hl [1, 0] rfl)
  have B2 : ∀ (v0 : Nat) (v1 : Int32) (τ : mx_S) (o : (Int32 × mx_S) ⊕ ((mx_S) ⊕ (mx_S))), f_X10_skipSpaces_B2 P v0 v1 τ = some o → (∀ (y1 : Int32) (υ : mx_S), o = .inl (y1, υ) → ∀ (H : Heap) (locs : List Loc), mx_J G P s.heap (mxz σ) (mxu σ) υ H locs → ∀ ls : Array Slot, lv_has ls 3 [(0, .ref v0), (1, .int y1)] → W p l e (mx_rm P 1 21 σ) s m ([.ref a0] : List Value).toArray below meth c H locs (mxz υ - mxz σ) (mxu υ - mxu σ) (mx_Z below G P none σ σ' [.ref a0] s) (F0 m 2 ls [])) → (∀  (υ : mx_S), o = .inr (.inl υ) → ∀ (H : Heap) (locs : List Loc), mx_J G P s.heap (mxz σ) (mxu σ) υ H locs → ∀ ls : Array Slot, lv_has ls 3 [] → W p l e (mx_rm P 1 21 σ) s m ([.ref a0] : List Value).toArray below meth c H locs (mxz υ - mxz σ) (mxu υ - mxu σ) (mx_Z below G P none σ σ' [.ref a0] s) (F0 m 42 ls [])) → (∀  (υ : mx_S), o = .inr (.inr υ) → ∀ (H : Heap) (locs : List Loc), mx_J G P s.heap (mxz σ) (mxu σ) υ H locs → ∀ ls : Array Slot, lv_has ls 3 [] → W p l e (mx_rm P 1 21 σ) s m ([.ref a0] : List Value).toArray below meth c H locs (mxz υ - mxz σ) (mxu υ - mxu σ) (mx_Z below G P none σ σ' [.ref a0] s) (F0 m 59 ls [])) → ∀ (H : Heap) (locs : List Loc), mx_J G P s.heap (mxz σ) (mxu σ) τ H locs → ∀ ls : Array Slot, lv_has ls 3 [(0, .ref v0), (1, .int v1)] → W p l e (mx_rm P 1 21 σ) s m ([.ref a0] : List Value).toArray below meth c H locs (mxz τ - mxz σ) (mxu τ - mxu σ) (mx_Z below G P none σ σ' [.ref a0] s) (F0 m 2 ls []) := by
    intro v0 v1 τ o hf Kb Ke0 Ke1 H locs hJ ls hl
    unfold f_X10_skipSpaces_B2 at hf
    refine lv_iload_n hx hb dX10_skipSpaces_2 rfl (lv_at hl 1 rfl) ?_
    refine lv_sipush (v := 4000) hx hb dX10_skipSpaces_3 (by decide) ?_
    refine lv_icmp_ge (tgt := 59) hx hb dX10_skipSpaces_6 (by decide) (fun c1 => ?_) (fun c1 => ?_)
    · rw [if_pos c1] at hf
      exact Ke1 τ (Option.some.inj hf).symm _ _ hJ ls (lv_sub hl [] rfl)
    · rw [if_neg c1] at hf
      refine lv_aload_n hx hb dX10_skipSpaces_9 rfl (lv_at hl 0 rfl) ?_
      refine lv_aload_n hx hb dX10_skipSpaces_10 rfl (lv_at hl 0 rfl) ?_
      obtain ⟨x2, e3, hf⟩ := mb0 hf
      refine my_gI hx hb hts hown hK hJ fd_RX10_54 hv_10_4 e3 dX10_skipSpaces_11 ?_
      obtain ⟨i4, e5, hf⟩ := mb0 hf
      obtain ⟨x7, σ6, e8, hf⟩ := mc0 hf
      refine mx_callV (As := [.int x2]) (rest := []) hx hb hml hts hown hK hJ rfl rfl (ci := 10) rfl e5 (c_X10_byteAt l G P v0 x2 τ x7 σ6 e8) me_X10_byteAt kw_637 ks_0 kw_635 (Nat.le_of_ble_eq_true rfl) (Nat.le_of_ble_eq_true rfl) rfl hl.1 rfl (Nat.le_of_ble_eq_true rfl) dX10_skipSpaces_14 (fun H locs hJ => ?_)
      refine lv_istore_n (lv' := [(2, .int x7), (0, .ref v0), (1, .int v1)]) hx hb dX10_skipSpaces_17 rfl hl (by decide) rfl (fun ls hl => ?_)
      refine lv_iload_n hx hb dX10_skipSpaces_18 rfl (lv_at hl 0 rfl) ?_
      refine lv_bipush (v := 9) hx hb dX10_skipSpaces_19 (by decide) ?_
      refine lv_icmp_eq (tgt := 43) hx hb dX10_skipSpaces_21 (by decide) (fun c9 => ?_) (fun c9 => ?_)
      · rw [if_pos c9] at hf
        exact D43_2 v0 v1 σ6 o hf Kb Ke0 Ke1 _ _ hJ ls (lv_sub hl [1, 2] rfl)
      · rw [if_neg c9] at hf
        refine lv_iload_n hx hb dX10_skipSpaces_24 rfl (lv_at hl 0 rfl) ?_
        refine lv_bipush (v := 10) hx hb dX10_skipSpaces_25 (by decide) ?_
        refine lv_icmp_eq (tgt := 43) hx hb dX10_skipSpaces_27 (by decide) (fun c16 => ?_) (fun c16 => ?_)
        · rw [if_pos c16] at hf
          exact D43_2 v0 v1 σ6 o hf Kb Ke0 Ke1 _ _ hJ ls (lv_sub hl [1, 2] rfl)
        · rw [if_neg c16] at hf
          refine lv_iload_n hx hb dX10_skipSpaces_30 rfl (lv_at hl 0 rfl) ?_
          refine lv_bipush (v := 13) hx hb dX10_skipSpaces_31 (by decide) ?_
          refine lv_icmp_eq (tgt := 43) hx hb dX10_skipSpaces_33 (by decide) (fun c17 => ?_) (fun c17 => ?_)
          · rw [if_pos c17] at hf
            exact D43_2 v0 v1 σ6 o hf Kb Ke0 Ke1 _ _ hJ ls (lv_sub hl [1, 2] rfl)
          · rw [if_neg c17] at hf
            refine lv_iload_n hx hb dX10_skipSpaces_36 rfl (lv_at hl 0 rfl) ?_
            refine lv_bipush (v := 32) hx hb dX10_skipSpaces_37 (by decide) ?_
            refine lv_icmp_eq (tgt := 43) hx hb dX10_skipSpaces_39 (by decide) (fun c18 => ?_) (fun c18 => ?_)
            · rw [if_pos c18] at hf
              exact D43_2 v0 v1 σ6 o hf Kb Ke0 Ke1 _ _ hJ ls (lv_sub hl [1, 2] rfl)
            · rw [if_neg c18] at hf
              exact Ke0 σ6 (Option.some.inj hf).symm _ _ hJ ls (lv_sub hl [] rfl)
  have L2 : ∀ (v0 : Nat) (n : Nat) (v1 : Int32) (τ : mx_S) (o : (mx_S) ⊕ (mx_S)), mx_lp (f_X10_skipSpaces_L2 P v0) n (v1, τ) = some o → (∀  (υ : mx_S), o = (.inl υ) → ∀ (H : Heap) (locs : List Loc), mx_J G P s.heap (mxz σ) (mxu σ) υ H locs → ∀ ls : Array Slot, lv_has ls 3 [] → W p l e (mx_rm P 1 21 σ) s m ([.ref a0] : List Value).toArray below meth c H locs (mxz υ - mxz σ) (mxu υ - mxu σ) (mx_Z below G P none σ σ' [.ref a0] s) (F0 m 42 ls [])) → (∀  (υ : mx_S), o = (.inr υ) → ∀ (H : Heap) (locs : List Loc), mx_J G P s.heap (mxz σ) (mxu σ) υ H locs → ∀ ls : Array Slot, lv_has ls 3 [] → W p l e (mx_rm P 1 21 σ) s m ([.ref a0] : List Value).toArray below meth c H locs (mxz υ - mxz σ) (mxu υ - mxu σ) (mx_Z below G P none σ σ' [.ref a0] s) (F0 m 59 ls [])) → ∀ (H : Heap) (locs : List Loc), mx_J G P s.heap (mxz σ) (mxu σ) τ H locs → ∀ ls : Array Slot, lv_has ls 3 [(0, .ref v0), (1, .int v1)] → W p l e (mx_rm P 1 21 σ) s m ([.ref a0] : List Value).toArray below meth c H locs (mxz τ - mxz σ) (mxu τ - mxu σ) (mx_Z below G P none σ σ' [.ref a0] s) (F0 m 2 ls []) := by
    intro v0 n
    induction n with
    | zero =>
      intro v1 τ o hf
      rw [mx_lp0] at hf
      cases hf
    | succ n ih =>
      intro v1 τ o hf Ke0 Ke1 H locs hJ ls hl
      rw [mx_lpS] at hf
      obtain ⟨b, eb, hf⟩ := mb0 hf
      refine B2 v0 v1 τ b eb (fun y1 υ ho H locs hJ ls hl => ?_) (fun  υ ho H locs hJ ls hl => ?_) (fun  υ ho H locs hJ ls hl => ?_) H locs hJ ls hl
      · subst ho
        exact ih y1 υ o hf Ke0 Ke1 H locs hJ ls hl
      · subst ho
        exact Ke0  υ (Option.some.inj hf).symm _ _ hJ ls hl
      · subst ho
        exact Ke1  υ (Option.some.inj hf).symm _ _ hJ ls hl
  unfold f_X10_skipSpaces at hf
  refine lv_iconst (v := 0) hx hb dX10_skipSpaces_0 (by decide) ?_
  refine lv_istore_n (lv' := [(1, .int (0 : Int32)), (0, .ref a0)]) hx hb dX10_skipSpaces_1 rfl hl (by decide) rfl (fun ls hl => ?_)
  obtain ⟨o19, e20, hf⟩ := mb0 hf
  refine L2 a0 (mpN P) (0 : Int32) σ o19 e20 (fun σ21 ho H locs hJ ls hl => ?_) (fun σ22 ho H locs hJ ls hl => ?_) _ _ hJ ls (lv_sub hl [1, 0] rfl)
  · rw [ho] at hf
    have hf : (some σ21) = some σ' := hf
    exact my_vret hx hb hr hlocks hJ hf dX10_skipSpaces_42
  · rw [ho] at hf
    have hf : (some σ22) = some σ' := hf
    exact my_vret hx hb hr hlocks hJ hf dX10_skipSpaces_59
set_option maxHeartbeats 4000000 in
set_option maxRecDepth 100000 in
theorem c_X10_isLetter (l : Launch) (G : mx_G) (P : mx_P) (p0 : Int32) (σ : mx_S) (r : Int32) (σ' : mx_S) (hf : f_X10_isLetter P p0 σ = some (r, σ')) : mxz σ ≤ mpc P → mxu σ ≤ mps P → mx_M l yX10_isLetter cX10_isLetter 1 (some .boolean) 0 0 G P [.int p0] σ (some (.int r)) σ' := by
  intro hcap hcau
  refine mx_ofW (by decide +kernel) hcap hcau (Nat.le_of_ble_eq_true rfl) ?_
  intro p e s m below meth c hx hb hr hml hts hown hlocks hname hK hJ ls hl
  have hz0 := hJ.2.1
  have hown : s.vm.findClass RX10 = some m.cls := hown
  have hl : lv_has ls 1 [(0, .int p0)] := hl
  have D29 : ∀ (w0 : Int32) (τ : mx_S), f_X10_isLetter_D29 P w0 τ = some (r, σ') → ∀ (H : Heap) (locs : List Loc), mx_J G P s.heap (mxz σ) (mxu σ) τ H locs → ∀ ls : Array Slot, lv_has ls 1 [] → W p l e (mx_rm P 0 0 σ) s m ([.int p0] : List Value).toArray below meth c H locs (mxz τ - mxz σ) (mxu τ - mxu σ) (mx_Z below G P (some (.int r)) σ σ' [.int p0] s) (F0 m 29 ls [.int w0]) := by
    intro w0 τ hf _ _ hJ ls hl
    unfold f_X10_isLetter_D29 at hf
    exact mx_zret hx hb hr hlocks hJ hf dX10_isLetter_29
  have D28 : ∀  (τ : mx_S), f_X10_isLetter_D28 P  τ = some (r, σ') → ∀ (H : Heap) (locs : List Loc), mx_J G P s.heap (mxz σ) (mxu σ) τ H locs → ∀ ls : Array Slot, lv_has ls 1 [] → W p l e (mx_rm P 0 0 σ) s m ([.int p0] : List Value).toArray below meth c H locs (mxz τ - mxz σ) (mxu τ - mxu σ) (mx_Z below G P (some (.int r)) σ σ' [.int p0] s) (F0 m 28 ls []) := by
    intro  τ hf _ _ hJ ls hl
    unfold f_X10_isLetter_D28 at hf
    refine lv_iconst (v := 0) hx hb dX10_isLetter_28 (by decide) ?_
    exact D29 (0 : Int32) τ hf _ _ hJ ls (lv_sub hl [] rfl)
  have D24 : ∀  (τ : mx_S), f_X10_isLetter_D24 P  τ = some (r, σ') → ∀ (H : Heap) (locs : List Loc), mx_J G P s.heap (mxz σ) (mxu σ) τ H locs → ∀ ls : Array Slot, lv_has ls 1 [] → W p l e (mx_rm P 0 0 σ) s m ([.int p0] : List Value).toArray below meth c H locs (mxz τ - mxz σ) (mxu τ - mxu σ) (mx_Z below G P (some (.int r)) σ σ' [.int p0] s) (F0 m 24 ls []) := by
    intro  τ hf _ _ hJ ls hl
    unfold f_X10_isLetter_D24 at hf
    refine lv_iconst (v := 1) hx hb dX10_isLetter_24 (by decide) ?_
    refine lv_goto (tgt := 29) hx hb dX10_isLetter_25 (by decide) ?_
    exact D29 (1 : Int32) τ hf _ _ hJ ls (lv_sub hl [] rfl)
  have D12 : ∀ (v0 : Int32) (τ : mx_S), f_X10_isLetter_D12 P v0 τ = some (r, σ') → ∀ (H : Heap) (locs : List Loc), mx_J G P s.heap (mxz σ) (mxu σ) τ H locs → ∀ ls : Array Slot, lv_has ls 1 [(0, .int v0)] → W p l e (mx_rm P 0 0 σ) s m ([.int p0] : List Value).toArray below meth c H locs (mxz τ - mxz σ) (mxu τ - mxu σ) (mx_Z below G P (some (.int r)) σ σ' [.int p0] s) (F0 m 12 ls []) := by
    intro v0 τ hf _ _ hJ ls hl
    unfold f_X10_isLetter_D12 at hf
    refine lv_iload_n hx hb dX10_isLetter_12 rfl (lv_at hl 0 rfl) ?_
    refine lv_bipush (v := 65) hx hb dX10_isLetter_13 (by decide) ?_
    refine lv_icmp_lt (tgt := 28) hx hb dX10_isLetter_15 (by decide) (fun c2 => ?_) (fun c2 => ?_)
    · rw [if_pos c2] at hf
      exact D28  τ hf _ _ hJ ls (lv_sub hl [] rfl)
    · rw [if_neg c2] at hf
      refine lv_iload_n hx hb dX10_isLetter_18 rfl (lv_at hl 0 rfl) ?_
      refine lv_bipush (v := 90) hx hb dX10_isLetter_19 (by decide) ?_
      refine lv_icmp_gt (tgt := 28) hx hb dX10_isLetter_21 (by decide) (fun c3 => ?_) (fun c3 => ?_)
      · rw [if_pos c3] at hf
        exact D28  τ hf _ _ hJ ls (lv_sub hl [] rfl)
      · rw [if_neg c3] at hf
        exact D24  τ hf _ _ hJ ls (lv_sub hl [] rfl)
  unfold f_X10_isLetter at hf
  refine lv_iload_n hx hb dX10_isLetter_0 rfl (lv_at hl 0 rfl) ?_
  refine lv_bipush (v := 97) hx hb dX10_isLetter_1 (by decide) ?_
  refine lv_icmp_lt (tgt := 12) hx hb dX10_isLetter_3 (by decide) (fun c1 => ?_) (fun c1 => ?_)
  · rw [if_pos c1] at hf
    exact D12 p0 σ hf _ _ hJ ls (lv_sub hl [0] rfl)
  · rw [if_neg c1] at hf
    refine lv_iload_n hx hb dX10_isLetter_6 rfl (lv_at hl 0 rfl) ?_
    refine lv_bipush (v := 122) hx hb dX10_isLetter_7 (by decide) ?_
    refine lv_icmp_le (tgt := 24) hx hb dX10_isLetter_9 (by decide) (fun c4 => ?_) (fun c4 => ?_)
    · rw [if_pos c4] at hf
      exact D24  σ hf _ _ hJ ls (lv_sub hl [] rfl)
    · rw [if_neg c4] at hf
      exact D12 p0 σ hf _ _ hJ ls (lv_sub hl [0] rfl)
set_option maxHeartbeats 4000000 in
set_option maxRecDepth 100000 in
theorem c_X10_readWord (l : Launch) (G : mx_G) (P : mx_P) (a0 : Nat) (σ : mx_S) (σ' : mx_S) (hf : f_X10_readWord P a0 σ = some σ') : mxz σ ≤ mpc P → mxu σ ≤ mps P → mx_M l yX10_readWord cX10_readWord 2 none 1 21 G P [.ref a0] σ none σ' := by
  intro hcap hcau
  refine mx_ofW (by decide +kernel) hcap hcau (Nat.le_of_ble_eq_true rfl) ?_
  intro p e s m below meth c hx hb hr hml hts hown hlocks hname hK hJ ls hl
  have hz0 := hJ.2.1
  have hown : s.vm.findClass RX10 = some m.cls := hown
  have hl : lv_has ls 2 [(0, .ref a0)] := hl
  have B7 : ∀ (v0 : Nat) (v1 : Int32) (τ : mx_S) (o : (Int32 × mx_S) ⊕ ((mx_S))), f_X10_readWord_B7 P v0 v1 τ = some o → (∀ (y1 : Int32) (υ : mx_S), o = .inl (y1, υ) → ∀ (H : Heap) (locs : List Loc), mx_J G P s.heap (mxz σ) (mxu σ) υ H locs → ∀ ls : Array Slot, lv_has ls 2 [(0, .ref v0), (1, .int y1)] → W p l e (mx_rm P 1 21 σ) s m ([.ref a0] : List Value).toArray below meth c H locs (mxz υ - mxz σ) (mxu υ - mxu σ) (mx_Z below G P none σ σ' [.ref a0] s) (F0 m 7 ls [])) → (∀  (υ : mx_S), o = .inr υ → ∀ (H : Heap) (locs : List Loc), mx_J G P s.heap (mxz σ) (mxu σ) υ H locs → ∀ ls : Array Slot, lv_has ls 2 [] → W p l e (mx_rm P 1 21 σ) s m ([.ref a0] : List Value).toArray below meth c H locs (mxz υ - mxz σ) (mxu υ - mxu σ) (mx_Z below G P none σ σ' [.ref a0] s) (F0 m 64 ls [])) → ∀ (H : Heap) (locs : List Loc), mx_J G P s.heap (mxz σ) (mxu σ) τ H locs → ∀ ls : Array Slot, lv_has ls 2 [(0, .ref v0), (1, .int v1)] → W p l e (mx_rm P 1 21 σ) s m ([.ref a0] : List Value).toArray below meth c H locs (mxz τ - mxz σ) (mxu τ - mxu σ) (mx_Z below G P none σ σ' [.ref a0] s) (F0 m 7 ls []) := by
    intro v0 v1 τ o hf Kb Ke0 H locs hJ ls hl
    unfold f_X10_readWord_B7 at hf
    refine lv_iload_n hx hb dX10_readWord_7 rfl (lv_at hl 1 rfl) ?_
    refine lv_bipush (v := 8) hx hb dX10_readWord_8 (by decide) ?_
    refine lv_icmp_ge (tgt := 64) hx hb dX10_readWord_10 (by decide) (fun c3 => ?_) (fun c3 => ?_)
    · rw [if_pos c3] at hf
      exact Ke0 τ (Option.some.inj hf).symm _ _ hJ ls (lv_sub hl [] rfl)
    · rw [if_neg c3] at hf
      refine lv_aload_n hx hb dX10_readWord_13 rfl (lv_at hl 0 rfl) ?_
      refine lv_aload_n hx hb dX10_readWord_14 rfl (lv_at hl 0 rfl) ?_
      obtain ⟨x4, e5, hf⟩ := mb0 hf
      refine my_gI hx hb hts hown hK hJ fd_RX10_54 hv_10_4 e5 dX10_readWord_15 ?_
      obtain ⟨i6, e7, hf⟩ := mb0 hf
      obtain ⟨x9, σ8, e10, hf⟩ := mc0 hf
      refine mx_callV (As := [.int x4]) (rest := []) hx hb hml hts hown hK hJ rfl rfl (ci := 10) rfl e7 (c_X10_byteAt l G P v0 x4 τ x9 σ8 e10) me_X10_byteAt kw_637 ks_0 kw_635 (Nat.le_of_ble_eq_true rfl) (Nat.le_of_ble_eq_true rfl) rfl hl.1 rfl (Nat.le_of_ble_eq_true rfl) dX10_readWord_18 (fun H locs hJ => ?_)
      obtain ⟨x12, σ11, e13, hf⟩ := mc0 hf
      refine mx_callS (As := [.int x9]) (rest := []) hx hb hml hts hown hK hJ rfl rfl (c_X10_isLetter l G P x9 σ8 x12 σ11 e13) me_X10_isLetter kw_640 kw_639 (Nat.le_of_ble_eq_true rfl) (Nat.le_of_ble_eq_true rfl) rfl hl.1 rfl (Nat.le_of_ble_eq_true rfl) dX10_readWord_21 (fun H locs hJ => ?_)
      refine lv_if_eq (tgt := 64) hx hb dX10_readWord_24 (by decide) (fun c14 => ?_) (fun c14 => ?_)
      · rw [if_pos c14] at hf
        exact Ke0 σ11 (Option.some.inj hf).symm _ _ hJ ls (lv_sub hl [] rfl)
      · rw [if_neg c14] at hf
        refine lv_aload_n hx hb dX10_readWord_27 rfl (lv_at hl 0 rfl) ?_
        refine lv_aload_n hx hb dX10_readWord_28 rfl (lv_at hl 0 rfl) ?_
        obtain ⟨x15, e16, hf⟩ := mb0 hf
        refine my_gL hx hb hts hown hK hJ fd_RX10_110 hv_10_7 e16 dX10_readWord_29 ?_
        refine lv_bipush (v := 8) hx hb dX10_readWord_32 (by decide) ?_
        refine lv_lshl hx hb dX10_readWord_34 rfl ?_
        refine lv_aload_n hx hb dX10_readWord_35 rfl (lv_at hl 0 rfl) ?_
        refine lv_aload_n hx hb dX10_readWord_36 rfl (lv_at hl 0 rfl) ?_
        obtain ⟨x17, e18, hf⟩ := mb0 hf
        refine my_gI hx hb hts hown hK hJ fd_RX10_54 hv_10_4 e18 dX10_readWord_37 ?_
        obtain ⟨i19, e20, hf⟩ := mb0 hf
        obtain ⟨x22, σ21, e23, hf⟩ := mc0 hf
        refine mx_callV (As := [.int x17]) (rest := [.long (x15 <<< ((8 : Int32).toInt64 &&& 63)), .ref v0]) hx hb hml hts hown hK hJ rfl rfl (ci := 10) rfl e20 (c_X10_byteAt l G P v0 x17 σ11 x22 σ21 e23) me_X10_byteAt kw_637 ks_0 kw_635 (Nat.le_of_ble_eq_true rfl) (Nat.le_of_ble_eq_true rfl) rfl hl.1 rfl (Nat.le_of_ble_eq_true rfl) dX10_readWord_40 (fun H locs hJ => ?_)
        refine lv_i2l hx hb dX10_readWord_43 rfl ?_
        refine lv_lor hx hb dX10_readWord_44 ?_
        obtain ⟨σ24, e25, hf⟩ := mb0 hf
        refine my_pL hx hb hts hown hK hJ fd_RX10_110 cd_10 (Or.inl rfl) ht_10_7 e25 dX10_readWord_45 (fun H locs hJ => ?_)
        refine lv_aload_n hx hb dX10_readWord_48 rfl (lv_at hl 0 rfl) ?_
        refine lv_dup hx hb dX10_readWord_49 rfl ?_
        obtain ⟨x26, e27, hf⟩ := mb0 hf
        refine my_gI hx hb hts hown hK hJ fd_RX10_54 hv_10_4 e27 dX10_readWord_50 ?_
        refine lv_iconst (v := 1) hx hb dX10_readWord_53 (by decide) ?_
        refine lv_iadd hx hb dX10_readWord_54 ?_
        obtain ⟨σ28, e29, hf⟩ := mb0 hf
        refine my_pI hx hb hts hown hK hJ fd_RX10_54 cd_10 (Or.inl rfl) ht_10_4 e29 dX10_readWord_55 (fun H locs hJ => ?_)
        obtain ⟨x30, e31, hf⟩ := mb0 hf
        refine lv_iinc (v := x30) (lv' := [(1, .int x30), (0, .ref v0)]) hx hb dX10_readWord_58 hl (k := 1) rfl (by rw [← Option.some.inj e31]; rfl) (by decide) rfl (fun ls hl => ?_)
        refine lv_goto (tgt := 7) hx hb dX10_readWord_61 (by decide) ?_
        exact Kb x30 σ28 (Option.some.inj hf).symm _ _ hJ ls (lv_sub hl [1, 0] rfl)
  have L7 : ∀ (v0 : Nat) (n : Nat) (v1 : Int32) (τ : mx_S) (o : (mx_S)), mx_lp (f_X10_readWord_L7 P v0) n (v1, τ) = some o → (∀  (υ : mx_S), o = υ → ∀ (H : Heap) (locs : List Loc), mx_J G P s.heap (mxz σ) (mxu σ) υ H locs → ∀ ls : Array Slot, lv_has ls 2 [] → W p l e (mx_rm P 1 21 σ) s m ([.ref a0] : List Value).toArray below meth c H locs (mxz υ - mxz σ) (mxu υ - mxu σ) (mx_Z below G P none σ σ' [.ref a0] s) (F0 m 64 ls [])) → ∀ (H : Heap) (locs : List Loc), mx_J G P s.heap (mxz σ) (mxu σ) τ H locs → ∀ ls : Array Slot, lv_has ls 2 [(0, .ref v0), (1, .int v1)] → W p l e (mx_rm P 1 21 σ) s m ([.ref a0] : List Value).toArray below meth c H locs (mxz τ - mxz σ) (mxu τ - mxu σ) (mx_Z below G P none σ σ' [.ref a0] s) (F0 m 7 ls []) := by
    intro v0 n
    induction n with
    | zero =>
      intro v1 τ o hf
      rw [mx_lp0] at hf
      cases hf
    | succ n ih =>
      intro v1 τ o hf Ke0 H locs hJ ls hl
      rw [mx_lpS] at hf
      obtain ⟨b, eb, hf⟩ := mb0 hf
      refine B7 v0 v1 τ b eb (fun y1 υ ho H locs hJ ls hl => ?_) (fun  υ ho H locs hJ ls hl => ?_) H locs hJ ls hl
      · subst ho
        exact ih y1 υ o hf Ke0 H locs hJ ls hl
      · subst ho
        exact Ke0  υ (Option.some.inj hf).symm _ _ hJ ls hl
  have D64 : ∀  (τ : mx_S), f_X10_readWord_D64 P  τ = some σ' → ∀ (H : Heap) (locs : List Loc), mx_J G P s.heap (mxz σ) (mxu σ) τ H locs → ∀ ls : Array Slot, lv_has ls 2 [] → W p l e (mx_rm P 1 21 σ) s m ([.ref a0] : List Value).toArray below meth c H locs (mxz τ - mxz σ) (mxu τ - mxu σ) (mx_Z below G P none σ σ' [.ref a0] s) (F0 m 64 ls []) := by
    intro  τ hf _ _ hJ ls hl
    unfold f_X10_readWord_D64 at hf
    exact my_vret hx hb hr hlocks hJ hf dX10_readWord_64
  unfold f_X10_readWord at hf
  refine lv_aload_n hx hb dX10_readWord_0 rfl (lv_at hl 0 rfl) ?_
  refine lv_iconst (v := 2) hx hb dX10_readWord_1 (by decide) ?_
  obtain ⟨σ1, e2, hf⟩ := mb0 hf
  refine my_pI hx hb hts hown hK hJ fd_RX10_76 cd_10 (Or.inl rfl) ht_10_5 e2 dX10_readWord_2 (fun H locs hJ => ?_)
  refine lv_iconst (v := 0) hx hb dX10_readWord_5 (by decide) ?_
  refine lv_istore_n (lv' := [(1, .int (0 : Int32)), (0, .ref a0)]) hx hb dX10_readWord_6 rfl hl (by decide) rfl (fun ls hl => ?_)
  obtain ⟨o32, e33, hf⟩ := mb0 hf
  refine L7 a0 (mpN P) (0 : Int32) σ1 o32 e33 (fun σ34 ho H locs hJ ls hl => ?_) _ _ hJ ls (lv_sub hl [1, 0] rfl)
  · rw [ho] at hf
    have hf : (f_X10_readWord_D64 P  σ34) = some σ' := hf
    exact D64  σ34 hf _ _ hJ ls (lv_sub hl [] rfl)
set_option maxHeartbeats 4000000 in
set_option maxRecDepth 100000 in
theorem c_X10_isDigit (l : Launch) (G : mx_G) (P : mx_P) (p0 : Int32) (σ : mx_S) (r : Int32) (σ' : mx_S) (hf : f_X10_isDigit P p0 σ = some (r, σ')) : mxz σ ≤ mpc P → mxu σ ≤ mps P → mx_M l yX10_isDigit cX10_isDigit 1 (some .boolean) 0 0 G P [.int p0] σ (some (.int r)) σ' := by
  intro hcap hcau
  refine mx_ofW (by decide +kernel) hcap hcau (Nat.le_of_ble_eq_true rfl) ?_
  intro p e s m below meth c hx hb hr hml hts hown hlocks hname hK hJ ls hl
  have hz0 := hJ.2.1
  have hown : s.vm.findClass RX10 = some m.cls := hown
  have hl : lv_has ls 1 [(0, .int p0)] := hl
  have D17 : ∀ (w0 : Int32) (τ : mx_S), f_X10_isDigit_D17 P w0 τ = some (r, σ') → ∀ (H : Heap) (locs : List Loc), mx_J G P s.heap (mxz σ) (mxu σ) τ H locs → ∀ ls : Array Slot, lv_has ls 1 [] → W p l e (mx_rm P 0 0 σ) s m ([.int p0] : List Value).toArray below meth c H locs (mxz τ - mxz σ) (mxu τ - mxu σ) (mx_Z below G P (some (.int r)) σ σ' [.int p0] s) (F0 m 17 ls [.int w0]) := by
    intro w0 τ hf _ _ hJ ls hl
    unfold f_X10_isDigit_D17 at hf
    exact mx_zret hx hb hr hlocks hJ hf dX10_isDigit_17
  have D16 : ∀  (τ : mx_S), f_X10_isDigit_D16 P  τ = some (r, σ') → ∀ (H : Heap) (locs : List Loc), mx_J G P s.heap (mxz σ) (mxu σ) τ H locs → ∀ ls : Array Slot, lv_has ls 1 [] → W p l e (mx_rm P 0 0 σ) s m ([.int p0] : List Value).toArray below meth c H locs (mxz τ - mxz σ) (mxu τ - mxu σ) (mx_Z below G P (some (.int r)) σ σ' [.int p0] s) (F0 m 16 ls []) := by
    intro  τ hf _ _ hJ ls hl
    unfold f_X10_isDigit_D16 at hf
    refine lv_iconst (v := 0) hx hb dX10_isDigit_16 (by decide) ?_
    exact D17 (0 : Int32) τ hf _ _ hJ ls (lv_sub hl [] rfl)
  unfold f_X10_isDigit at hf
  refine lv_iload_n hx hb dX10_isDigit_0 rfl (lv_at hl 0 rfl) ?_
  refine lv_bipush (v := 48) hx hb dX10_isDigit_1 (by decide) ?_
  refine lv_icmp_lt (tgt := 16) hx hb dX10_isDigit_3 (by decide) (fun c1 => ?_) (fun c1 => ?_)
  · rw [if_pos c1] at hf
    exact D16  σ hf _ _ hJ ls (lv_sub hl [] rfl)
  · rw [if_neg c1] at hf
    refine lv_iload_n hx hb dX10_isDigit_6 rfl (lv_at hl 0 rfl) ?_
    refine lv_bipush (v := 57) hx hb dX10_isDigit_7 (by decide) ?_
    refine lv_icmp_gt (tgt := 16) hx hb dX10_isDigit_9 (by decide) (fun c2 => ?_) (fun c2 => ?_)
    · rw [if_pos c2] at hf
      exact D16  σ hf _ _ hJ ls (lv_sub hl [] rfl)
    · rw [if_neg c2] at hf
      refine lv_iconst (v := 1) hx hb dX10_isDigit_12 (by decide) ?_
      refine lv_goto (tgt := 17) hx hb dX10_isDigit_13 (by decide) ?_
      exact D17 (1 : Int32) σ hf _ _ hJ ls (lv_sub hl [] rfl)
set_option maxHeartbeats 4000000 in
set_option maxRecDepth 100000 in
theorem c_X10_readDigits (l : Launch) (G : mx_G) (P : mx_P) (a0 : Nat) (σ : mx_S) (r : Int32) (σ' : mx_S) (hf : f_X10_readDigits P a0 σ = some (r, σ')) : mxz σ ≤ mpc P → mxu σ ≤ mps P → mx_M l yX10_readDigits cX10_readDigits 3 (some .int) 1 21 G P [.ref a0] σ (some (.int r)) σ' := by
  intro hcap hcau
  refine mx_ofW (by decide +kernel) hcap hcau (Nat.le_of_ble_eq_true rfl) ?_
  intro p e s m below meth c hx hb hr hml hts hown hlocks hname hK hJ ls hl
  have hz0 := hJ.2.1
  have hown : s.vm.findClass RX10 = some m.cls := hown
  have hl : lv_has ls 3 [(0, .ref a0)] := hl
  have B4 : ∀ (v0 : Nat) (v1 : Int32) (v2 : Int32) (τ : mx_S) (o : (Int32 × Int32 × mx_S) ⊕ ((Int32 × mx_S))), f_X10_readDigits_B4 P v0 v1 v2 τ = some o → (∀ (y1 : Int32) (y2 : Int32) (υ : mx_S), o = .inl (y1, y2, υ) → ∀ (H : Heap) (locs : List Loc), mx_J G P s.heap (mxz σ) (mxu σ) υ H locs → ∀ ls : Array Slot, lv_has ls 3 [(0, .ref v0), (1, .int y1), (2, .int y2)] → W p l e (mx_rm P 1 21 σ) s m ([.ref a0] : List Value).toArray below meth c H locs (mxz υ - mxz σ) (mxu υ - mxu σ) (mx_Z below G P (some (.int r)) σ σ' [.ref a0] s) (F0 m 4 ls [])) → (∀ (y1 : Int32) (υ : mx_S), o = .inr (y1, υ) → ∀ (H : Heap) (locs : List Loc), mx_J G P s.heap (mxz σ) (mxu σ) υ H locs → ∀ ls : Array Slot, lv_has ls 3 [(1, .int y1)] → W p l e (mx_rm P 1 21 σ) s m ([.ref a0] : List Value).toArray below meth c H locs (mxz υ - mxz σ) (mxu υ - mxu σ) (mx_Z below G P (some (.int r)) σ σ' [.ref a0] s) (F0 m 56 ls [])) → ∀ (H : Heap) (locs : List Loc), mx_J G P s.heap (mxz σ) (mxu σ) τ H locs → ∀ ls : Array Slot, lv_has ls 3 [(0, .ref v0), (1, .int v1), (2, .int v2)] → W p l e (mx_rm P 1 21 σ) s m ([.ref a0] : List Value).toArray below meth c H locs (mxz τ - mxz σ) (mxu τ - mxu σ) (mx_Z below G P (some (.int r)) σ σ' [.ref a0] s) (F0 m 4 ls []) := by
    intro v0 v1 v2 τ o hf Kb Ke0 H locs hJ ls hl
    unfold f_X10_readDigits_B4 at hf
    refine lv_iload_n hx hb dX10_readDigits_4 rfl (lv_at hl 2 rfl) ?_
    refine lv_iconst (v := 4) hx hb dX10_readDigits_5 (by decide) ?_
    refine lv_icmp_ge (tgt := 56) hx hb dX10_readDigits_6 (by decide) (fun c1 => ?_) (fun c1 => ?_)
    · rw [if_pos c1] at hf
      exact Ke0 v1 τ (Option.some.inj hf).symm _ _ hJ ls (lv_sub hl [1] rfl)
    · rw [if_neg c1] at hf
      refine lv_aload_n hx hb dX10_readDigits_9 rfl (lv_at hl 0 rfl) ?_
      refine lv_aload_n hx hb dX10_readDigits_10 rfl (lv_at hl 0 rfl) ?_
      obtain ⟨x2, e3, hf⟩ := mb0 hf
      refine my_gI hx hb hts hown hK hJ fd_RX10_54 hv_10_4 e3 dX10_readDigits_11 ?_
      obtain ⟨i4, e5, hf⟩ := mb0 hf
      obtain ⟨x7, σ6, e8, hf⟩ := mc0 hf
      refine mx_callV (As := [.int x2]) (rest := []) hx hb hml hts hown hK hJ rfl rfl (ci := 10) rfl e5 (c_X10_byteAt l G P v0 x2 τ x7 σ6 e8) me_X10_byteAt kw_637 ks_0 kw_635 (Nat.le_of_ble_eq_true rfl) (Nat.le_of_ble_eq_true rfl) rfl hl.1 rfl (Nat.le_of_ble_eq_true rfl) dX10_readDigits_14 (fun H locs hJ => ?_)
      obtain ⟨x10, σ9, e11, hf⟩ := mc0 hf
      refine mx_callS (As := [.int x7]) (rest := []) hx hb hml hts hown hK hJ rfl rfl (c_X10_isDigit l G P x7 σ6 x10 σ9 e11) me_X10_isDigit kw_1076 kw_1075 (Nat.le_of_ble_eq_true rfl) (Nat.le_of_ble_eq_true rfl) rfl hl.1 rfl (Nat.le_of_ble_eq_true rfl) dX10_readDigits_17 (fun H locs hJ => ?_)
      refine lv_if_eq (tgt := 56) hx hb dX10_readDigits_20 (by decide) (fun c12 => ?_) (fun c12 => ?_)
      · rw [if_pos c12] at hf
        exact Ke0 v1 σ9 (Option.some.inj hf).symm _ _ hJ ls (lv_sub hl [1] rfl)
      · rw [if_neg c12] at hf
        refine lv_bipush (v := 10) hx hb dX10_readDigits_23 (by decide) ?_
        refine lv_iload_n hx hb dX10_readDigits_25 rfl (lv_at hl 1 rfl) ?_
        refine lv_imul hx hb dX10_readDigits_26 ?_
        refine lv_aload_n hx hb dX10_readDigits_27 rfl (lv_at hl 0 rfl) ?_
        refine lv_aload_n hx hb dX10_readDigits_28 rfl (lv_at hl 0 rfl) ?_
        obtain ⟨x13, e14, hf⟩ := mb0 hf
        refine my_gI hx hb hts hown hK hJ fd_RX10_54 hv_10_4 e14 dX10_readDigits_29 ?_
        obtain ⟨i15, e16, hf⟩ := mb0 hf
        obtain ⟨x18, σ17, e19, hf⟩ := mc0 hf
        refine mx_callV (As := [.int x13]) (rest := [.int ((10 : Int32) * v1)]) hx hb hml hts hown hK hJ rfl rfl (ci := 10) rfl e16 (c_X10_byteAt l G P v0 x13 σ9 x18 σ17 e19) me_X10_byteAt kw_637 ks_0 kw_635 (Nat.le_of_ble_eq_true rfl) (Nat.le_of_ble_eq_true rfl) rfl hl.1 rfl (Nat.le_of_ble_eq_true rfl) dX10_readDigits_32 (fun H locs hJ => ?_)
        refine lv_iadd hx hb dX10_readDigits_35 ?_
        refine lv_bipush (v := 48) hx hb dX10_readDigits_36 (by decide) ?_
        refine lv_isub hx hb dX10_readDigits_38 ?_
        obtain ⟨x20, e21, hf⟩ := mb0 hf
        refine mx_nI e21 ?_
        refine lv_istore_n (lv' := [(1, .int x20), (0, .ref v0), (2, .int v2)]) hx hb dX10_readDigits_39 rfl hl (by decide) rfl (fun ls hl => ?_)
        refine lv_aload_n hx hb dX10_readDigits_40 rfl (lv_at hl 1 rfl) ?_
        refine lv_dup hx hb dX10_readDigits_41 rfl ?_
        obtain ⟨x22, e23, hf⟩ := mb0 hf
        refine my_gI hx hb hts hown hK hJ fd_RX10_54 hv_10_4 e23 dX10_readDigits_42 ?_
        refine lv_iconst (v := 1) hx hb dX10_readDigits_45 (by decide) ?_
        refine lv_iadd hx hb dX10_readDigits_46 ?_
        obtain ⟨σ24, e25, hf⟩ := mb0 hf
        refine my_pI hx hb hts hown hK hJ fd_RX10_54 cd_10 (Or.inl rfl) ht_10_4 e25 dX10_readDigits_47 (fun H locs hJ => ?_)
        obtain ⟨x26, e27, hf⟩ := mb0 hf
        refine lv_iinc (v := x26) (lv' := [(2, .int x26), (1, .int x20), (0, .ref v0)]) hx hb dX10_readDigits_50 hl (k := 2) rfl (by rw [← Option.some.inj e27]; rfl) (by decide) rfl (fun ls hl => ?_)
        refine lv_goto (tgt := 4) hx hb dX10_readDigits_53 (by decide) ?_
        exact Kb x20 x26 σ24 (Option.some.inj hf).symm _ _ hJ ls (lv_sub hl [2, 1, 0] rfl)
  have L4 : ∀ (v0 : Nat) (n : Nat) (v1 : Int32) (v2 : Int32) (τ : mx_S) (o : (Int32 × mx_S)), mx_lp (f_X10_readDigits_L4 P v0) n (v1, v2, τ) = some o → (∀ (y1 : Int32) (υ : mx_S), o = (y1, υ) → ∀ (H : Heap) (locs : List Loc), mx_J G P s.heap (mxz σ) (mxu σ) υ H locs → ∀ ls : Array Slot, lv_has ls 3 [(1, .int y1)] → W p l e (mx_rm P 1 21 σ) s m ([.ref a0] : List Value).toArray below meth c H locs (mxz υ - mxz σ) (mxu υ - mxu σ) (mx_Z below G P (some (.int r)) σ σ' [.ref a0] s) (F0 m 56 ls [])) → ∀ (H : Heap) (locs : List Loc), mx_J G P s.heap (mxz σ) (mxu σ) τ H locs → ∀ ls : Array Slot, lv_has ls 3 [(0, .ref v0), (1, .int v1), (2, .int v2)] → W p l e (mx_rm P 1 21 σ) s m ([.ref a0] : List Value).toArray below meth c H locs (mxz τ - mxz σ) (mxu τ - mxu σ) (mx_Z below G P (some (.int r)) σ σ' [.ref a0] s) (F0 m 4 ls []) := by
    intro v0 n
    induction n with
    | zero =>
      intro v1 v2 τ o hf
      rw [mx_lp0] at hf
      cases hf
    | succ n ih =>
      intro v1 v2 τ o hf Ke0 H locs hJ ls hl
      rw [mx_lpS] at hf
      obtain ⟨b, eb, hf⟩ := mb0 hf
      refine B4 v0 v1 v2 τ b eb (fun y1 y2 υ ho H locs hJ ls hl => ?_) (fun y1 υ ho H locs hJ ls hl => ?_) H locs hJ ls hl
      · subst ho
        exact ih y1 y2 υ o hf Ke0 H locs hJ ls hl
      · subst ho
        exact Ke0 y1 υ (Option.some.inj hf).symm _ _ hJ ls hl
  have D56 : ∀ (v1 : Int32) (τ : mx_S), f_X10_readDigits_D56 P v1 τ = some (r, σ') → ∀ (H : Heap) (locs : List Loc), mx_J G P s.heap (mxz σ) (mxu σ) τ H locs → ∀ ls : Array Slot, lv_has ls 3 [(1, .int v1)] → W p l e (mx_rm P 1 21 σ) s m ([.ref a0] : List Value).toArray below meth c H locs (mxz τ - mxz σ) (mxu τ - mxu σ) (mx_Z below G P (some (.int r)) σ σ' [.ref a0] s) (F0 m 56 ls []) := by
    intro v1 τ hf _ _ hJ ls hl
    unfold f_X10_readDigits_D56 at hf
    refine lv_iload_n hx hb dX10_readDigits_56 rfl (lv_at hl 0 rfl) ?_
    exact my_iret hx hb hr hlocks hJ hf dX10_readDigits_57
  unfold f_X10_readDigits at hf
  refine lv_iconst (v := 0) hx hb dX10_readDigits_0 (by decide) ?_
  refine lv_istore_n (lv' := [(1, .int (0 : Int32)), (0, .ref a0)]) hx hb dX10_readDigits_1 rfl hl (by decide) rfl (fun ls hl => ?_)
  refine lv_iconst (v := 0) hx hb dX10_readDigits_2 (by decide) ?_
  refine lv_istore_n (lv' := [(2, .int (0 : Int32)), (1, .int (0 : Int32)), (0, .ref a0)]) hx hb dX10_readDigits_3 rfl hl (by decide) rfl (fun ls hl => ?_)
  obtain ⟨o28, e29, hf⟩ := mb0 hf
  refine L4 a0 (mpN P) (0 : Int32) (0 : Int32) σ o28 e29 (fun y30 σ31 ho H locs hJ ls hl => ?_) _ _ hJ ls (lv_sub hl [2, 1, 0] rfl)
  · rw [ho] at hf
    have hf : (f_X10_readDigits_D56 P y30 σ31) = some (r, σ') := hf
    exact D56 y30 σ31 hf _ _ hJ ls (lv_sub hl [0] rfl)
set_option maxHeartbeats 4000000 in
set_option maxRecDepth 100000 in
theorem c_X10_readNumber (l : Launch) (G : mx_G) (P : mx_P) (a0 : Nat) (p1 : Int32) (σ : mx_S) (σ' : mx_S) (hf : f_X10_readNumber P a0 p1 σ = some σ') : mxz σ ≤ mpc P → mxu σ ≤ mps P → mx_M l yX10_readNumber cX10_readNumber 3 none 2 43 G P [.ref a0, .int p1] σ none σ' := by
  intro hcap hcau
  refine mx_ofW (by decide +kernel) hcap hcau (Nat.le_of_ble_eq_true rfl) ?_
  intro p e s m below meth c hx hb hr hml hts hown hlocks hname hK hJ ls hl
  have hz0 := hJ.2.1
  have hown : s.vm.findClass RX10 = some m.cls := hown
  have hl : lv_has ls 3 [(0, .ref a0), (1, .int p1)] := hl
  have D97 : ∀  (τ : mx_S), f_X10_readNumber_D97 P  τ = some σ' → ∀ (H : Heap) (locs : List Loc), mx_J G P s.heap (mxz σ) (mxu σ) τ H locs → ∀ ls : Array Slot, lv_has ls 3 [] → W p l e (mx_rm P 2 43 σ) s m ([.ref a0, .int p1] : List Value).toArray below meth c H locs (mxz τ - mxz σ) (mxu τ - mxu σ) (mx_Z below G P none σ σ' [.ref a0, .int p1] s) (F0 m 97 ls []) := by
    intro  τ hf _ _ hJ ls hl
    unfold f_X10_readNumber_D97 at hf
    exact my_vret hx hb hr hlocks hJ hf dX10_readNumber_97
  have D35 : ∀ (v0 : Nat) (w0 : Int32) (w1 : Nat) (τ : mx_S), f_X10_readNumber_D35 P v0 w0 w1 τ = some σ' → ∀ (H : Heap) (locs : List Loc), mx_J G P s.heap (mxz σ) (mxu σ) τ H locs → ∀ ls : Array Slot, lv_has ls 3 [(0, .ref v0)] → W p l e (mx_rm P 2 43 σ) s m ([.ref a0, .int p1] : List Value).toArray below meth c H locs (mxz τ - mxz σ) (mxu τ - mxu σ) (mx_Z below G P none σ σ' [.ref a0, .int p1] s) (F0 m 35 ls [.int w0, .ref w1]) := by
    intro v0 w0 w1 τ hf _ _ hJ ls hl
    unfold f_X10_readNumber_D35 at hf
    obtain ⟨σ10, e11, hf⟩ := mb0 hf
    refine my_pI hx hb hts hown hK hJ fd_RX10_114 cd_10 (Or.inl rfl) ht_10_8 e11 dX10_readNumber_35 (fun H locs hJ => ?_)
    refine lv_aload_n hx hb dX10_readNumber_38 rfl (lv_at hl 0 rfl) ?_
    refine lv_aload_n hx hb dX10_readNumber_39 rfl (lv_at hl 0 rfl) ?_
    obtain ⟨x12, e13, hf⟩ := mb0 hf
    refine my_gI hx hb hts hown hK hJ fd_RX10_54 hv_10_4 e13 dX10_readNumber_40 ?_
    obtain ⟨i14, e15, hf⟩ := mb0 hf
    obtain ⟨x17, σ16, e18, hf⟩ := mc0 hf
    refine mx_callV (As := [.int x12]) (rest := []) hx hb hml hts hown hK hJ rfl rfl (ci := 10) rfl e15 (c_X10_byteAt l G P v0 x12 σ10 x17 σ16 e18) me_X10_byteAt kw_637 ks_0 kw_635 (Nat.le_of_ble_eq_true rfl) (Nat.le_of_ble_eq_true rfl) rfl hl.1 rfl (Nat.le_of_ble_eq_true rfl) dX10_readNumber_43 (fun H locs hJ => ?_)
    refine lv_bipush (v := 47) hx hb dX10_readNumber_46 (by decide) ?_
    refine lv_icmp_ne (tgt := 97) hx hb dX10_readNumber_48 (by decide) (fun c19 => ?_) (fun c19 => ?_)
    · rw [if_neg c19] at hf
      exact D97  σ16 hf _ _ hJ ls (lv_sub hl [] rfl)
    · rw [if_pos c19] at hf
      refine lv_aload_n hx hb dX10_readNumber_51 rfl (lv_at hl 0 rfl) ?_
      refine lv_aload_n hx hb dX10_readNumber_52 rfl (lv_at hl 0 rfl) ?_
      obtain ⟨x20, e21, hf⟩ := mb0 hf
      refine my_gI hx hb hts hown hK hJ fd_RX10_54 hv_10_4 e21 dX10_readNumber_53 ?_
      refine lv_iconst (v := 1) hx hb dX10_readNumber_56 (by decide) ?_
      refine lv_iadd hx hb dX10_readNumber_57 ?_
      obtain ⟨i22, e23, hf⟩ := mb0 hf
      obtain ⟨x25, σ24, e26, hf⟩ := mc0 hf
      refine mx_callV (As := [.int (x20 + (1 : Int32))]) (rest := []) hx hb hml hts hown hK hJ rfl rfl (ci := 10) rfl e23 (c_X10_byteAt l G P v0 (x20 + (1 : Int32)) σ16 x25 σ24 e26) me_X10_byteAt kw_637 ks_0 kw_635 (Nat.le_of_ble_eq_true rfl) (Nat.le_of_ble_eq_true rfl) rfl hl.1 rfl (Nat.le_of_ble_eq_true rfl) dX10_readNumber_58 (fun H locs hJ => ?_)
      obtain ⟨x28, σ27, e29, hf⟩ := mc0 hf
      refine mx_callS (As := [.int x25]) (rest := []) hx hb hml hts hown hK hJ rfl rfl (c_X10_isDigit l G P x25 σ24 x28 σ27 e29) me_X10_isDigit kw_1076 kw_1075 (Nat.le_of_ble_eq_true rfl) (Nat.le_of_ble_eq_true rfl) rfl hl.1 rfl (Nat.le_of_ble_eq_true rfl) dX10_readNumber_61 (fun H locs hJ => ?_)
      refine lv_if_eq (tgt := 97) hx hb dX10_readNumber_64 (by decide) (fun c30 => ?_) (fun c30 => ?_)
      · rw [if_pos c30] at hf
        exact D97  σ27 hf _ _ hJ ls (lv_sub hl [] rfl)
      · rw [if_neg c30] at hf
        refine lv_aload_n hx hb dX10_readNumber_67 rfl (lv_at hl 0 rfl) ?_
        refine lv_dup hx hb dX10_readNumber_68 rfl ?_
        obtain ⟨x31, e32, hf⟩ := mb0 hf
        refine my_gI hx hb hts hown hK hJ fd_RX10_54 hv_10_4 e32 dX10_readNumber_69 ?_
        refine lv_iconst (v := 1) hx hb dX10_readNumber_72 (by decide) ?_
        refine lv_iadd hx hb dX10_readNumber_73 ?_
        obtain ⟨σ33, e34, hf⟩ := mb0 hf
        refine my_pI hx hb hts hown hK hJ fd_RX10_54 cd_10 (Or.inl rfl) ht_10_4 e34 dX10_readNumber_74 (fun H locs hJ => ?_)
        refine lv_aload_n hx hb dX10_readNumber_77 rfl (lv_at hl 0 rfl) ?_
        refine lv_aload_n hx hb dX10_readNumber_78 rfl (lv_at hl 0 rfl) ?_
        obtain ⟨i35, e36, hf⟩ := mb0 hf
        obtain ⟨x38, σ37, e39, hf⟩ := mc0 hf
        refine mx_callV (As := []) (rest := [.ref v0]) hx hb hml hts hown hK hJ rfl rfl (ci := 10) rfl e36 (c_X10_readDigits l G P v0 σ33 x38 σ37 e39) me_X10_readDigits kw_1084 ks_28 kw_1082 (Nat.le_of_ble_eq_true rfl) (Nat.le_of_ble_eq_true rfl) rfl hl.1 rfl (Nat.le_of_ble_eq_true rfl) dX10_readNumber_79 (fun H locs hJ => ?_)
        obtain ⟨σ40, e41, hf⟩ := mb0 hf
        refine my_pI hx hb hts hown hK hJ fd_RX10_117 cd_10 (Or.inl rfl) ht_10_9 e41 dX10_readNumber_82 (fun H locs hJ => ?_)
        refine lv_aload_n hx hb dX10_readNumber_85 rfl (lv_at hl 0 rfl) ?_
        obtain ⟨x42, e43, hf⟩ := mb0 hf
        refine my_gI hx hb hts hown hK hJ fd_RX10_117 hv_10_9 e43 dX10_readNumber_86 ?_
        refine lv_if_ne (tgt := 97) hx hb dX10_readNumber_89 (by decide) (fun c44 => ?_) (fun c44 => ?_)
        · rw [if_neg c44] at hf
          exact D97  σ40 hf _ _ hJ ls (lv_sub hl [] rfl)
        · rw [if_pos c44] at hf
          refine lv_aload_n hx hb dX10_readNumber_92 rfl (lv_at hl 0 rfl) ?_
          refine lv_iconst (v := 1) hx hb dX10_readNumber_93 (by decide) ?_
          obtain ⟨σ45, e46, hf⟩ := mb0 hf
          refine my_pI hx hb hts hown hK hJ fd_RX10_76 cd_10 (Or.inl rfl) ht_10_5 e46 dX10_readNumber_94 (fun H locs hJ => ?_)
          exact D97  σ45 hf _ _ hJ ls (lv_sub hl [] rfl)
  have D19 : ∀ (v0 : Nat) (v1 : Int32) (τ : mx_S), f_X10_readNumber_D19 P v0 v1 τ = some σ' → ∀ (H : Heap) (locs : List Loc), mx_J G P s.heap (mxz σ) (mxu σ) τ H locs → ∀ ls : Array Slot, lv_has ls 3 [(0, .ref v0), (1, .int v1)] → W p l e (mx_rm P 2 43 σ) s m ([.ref a0, .int p1] : List Value).toArray below meth c H locs (mxz τ - mxz σ) (mxu τ - mxu σ) (mx_Z below G P none σ σ' [.ref a0, .int p1] s) (F0 m 19 ls []) := by
    intro v0 v1 τ hf _ _ hJ ls hl
    unfold f_X10_readNumber_D19 at hf
    refine lv_aload_n hx hb dX10_readNumber_19 rfl (lv_at hl 0 rfl) ?_
    obtain ⟨i4, e5, hf⟩ := mb0 hf
    obtain ⟨x7, σ6, e8, hf⟩ := mc0 hf
    refine mx_callV (As := []) (rest := []) hx hb hml hts hown hK hJ rfl rfl (ci := 10) rfl e5 (c_X10_readDigits l G P v0 τ x7 σ6 e8) me_X10_readDigits kw_1084 ks_28 kw_1082 (Nat.le_of_ble_eq_true rfl) (Nat.le_of_ble_eq_true rfl) rfl hl.1 rfl (Nat.le_of_ble_eq_true rfl) dX10_readNumber_20 (fun H locs hJ => ?_)
    refine lv_istore_n (lv' := [(2, .int x7), (0, .ref v0), (1, .int v1)]) hx hb dX10_readNumber_23 rfl hl (by decide) rfl (fun ls hl => ?_)
    refine lv_aload_n hx hb dX10_readNumber_24 rfl (lv_at hl 1 rfl) ?_
    refine lv_iload_n hx hb dX10_readNumber_25 rfl (lv_at hl 2 rfl) ?_
    refine lv_if_eq (tgt := 34) hx hb dX10_readNumber_26 (by decide) (fun c9 => ?_) (fun c9 => ?_)
    · rw [if_pos c9] at hf
      refine lv_iload_n hx hb dX10_readNumber_34 rfl (lv_at hl 0 rfl) ?_
      exact D35 v0 x7 v0 σ6 hf _ _ hJ ls (lv_sub hl [1] rfl)
    · rw [if_neg c9] at hf
      refine lv_iload_n hx hb dX10_readNumber_29 rfl (lv_at hl 0 rfl) ?_
      refine lv_ineg hx hb dX10_readNumber_30 ?_
      refine lv_goto (tgt := 35) hx hb dX10_readNumber_31 (by decide) ?_
      exact D35 v0 (-x7) v0 σ6 hf _ _ hJ ls (lv_sub hl [1] rfl)
  unfold f_X10_readNumber at hf
  refine lv_aload_n hx hb dX10_readNumber_0 rfl (lv_at hl 0 rfl) ?_
  refine lv_iconst (v := 3) hx hb dX10_readNumber_1 (by decide) ?_
  obtain ⟨σ1, e2, hf⟩ := mb0 hf
  refine my_pI hx hb hts hown hK hJ fd_RX10_76 cd_10 (Or.inl rfl) ht_10_5 e2 dX10_readNumber_2 (fun H locs hJ => ?_)
  refine lv_iload_n hx hb dX10_readNumber_5 rfl (lv_at hl 1 rfl) ?_
  refine lv_if_eq (tgt := 19) hx hb dX10_readNumber_6 (by decide) (fun c3 => ?_) (fun c3 => ?_)
  · rw [if_pos c3] at hf
    exact D19 a0 p1 σ1 hf _ _ hJ ls (lv_sub hl [0, 1] rfl)
  · rw [if_neg c3] at hf
    refine lv_aload_n hx hb dX10_readNumber_9 rfl (lv_at hl 0 rfl) ?_
    refine lv_dup hx hb dX10_readNumber_10 rfl ?_
    obtain ⟨x47, e48, hf⟩ := mb0 hf
    refine my_gI hx hb hts hown hK hJ fd_RX10_54 hv_10_4 e48 dX10_readNumber_11 ?_
    refine lv_iconst (v := 1) hx hb dX10_readNumber_14 (by decide) ?_
    refine lv_iadd hx hb dX10_readNumber_15 ?_
    obtain ⟨σ49, e50, hf⟩ := mb0 hf
    refine my_pI hx hb hts hown hK hJ fd_RX10_54 cd_10 (Or.inl rfl) ht_10_4 e50 dX10_readNumber_16 (fun H locs hJ => ?_)
    exact D19 a0 p1 σ49 hf _ _ hJ ls (lv_sub hl [0, 1] rfl)
set_option maxHeartbeats 4000000 in
set_option maxRecDepth 100000 in
theorem c_X10_readToken (l : Launch) (G : mx_G) (P : mx_P) (a0 : Nat) (σ : mx_S) (σ' : mx_S) (hf : f_X10_readToken P a0 σ = some σ') : mxz σ ≤ mpc P → mxu σ ≤ mps P → mx_M l yX10_readToken cX10_readToken 2 none 3 65 G P [.ref a0] σ none σ' := by
  intro hcap hcau
  refine mx_ofW (by decide +kernel) hcap hcau (Nat.le_of_ble_eq_true rfl) ?_
  intro p e s m below meth c hx hb hr hml hts hown hlocks hname hK hJ ls hl
  have hz0 := hJ.2.1
  have hown : s.vm.findClass RX10 = some m.cls := hown
  have hl : lv_has ls 2 [(0, .ref a0)] := hl
  have D152 : ∀  (τ : mx_S), f_X10_readToken_D152 P  τ = some σ' → ∀ (H : Heap) (locs : List Loc), mx_J G P s.heap (mxz σ) (mxu σ) τ H locs → ∀ ls : Array Slot, lv_has ls 2 [] → W p l e (mx_rm P 3 65 σ) s m ([.ref a0] : List Value).toArray below meth c H locs (mxz τ - mxz σ) (mxu τ - mxu σ) (mx_Z below G P none σ σ' [.ref a0] s) (F0 m 152 ls []) := by
    intro  τ hf _ _ hJ ls hl
    unfold f_X10_readToken_D152 at hf
    exact my_vret hx hb hr hlocks hJ hf dX10_readToken_152
  have D103 : ∀ (w0 : Int32) (w1 : Nat) (τ : mx_S), f_X10_readToken_D103 P w0 w1 τ = some σ' → ∀ (H : Heap) (locs : List Loc), mx_J G P s.heap (mxz σ) (mxu σ) τ H locs → ∀ ls : Array Slot, lv_has ls 2 [] → W p l e (mx_rm P 3 65 σ) s m ([.ref a0] : List Value).toArray below meth c H locs (mxz τ - mxz σ) (mxu τ - mxu σ) (mx_Z below G P none σ σ' [.ref a0] s) (F0 m 103 ls [.int w0, .ref w1]) := by
    intro w0 w1 τ hf _ _ hJ ls hl
    unfold f_X10_readToken_D103 at hf
    obtain ⟨i32, e33, hf⟩ := mb0 hf
    obtain ⟨σ34, e35, hf⟩ := mb0 hf
    refine mx_callV (As := [.int w0]) (rest := []) hx hb hml hts hown hK hJ rfl rfl (ci := 10) rfl e33 (c_X10_readNumber l G P w1 w0 τ σ34 e35) me_X10_readNumber kw_1080 ks_27 kw_1078 (Nat.le_of_ble_eq_true rfl) (Nat.le_of_ble_eq_true rfl) rfl hl.1 rfl (Nat.le_of_ble_eq_true rfl) dX10_readToken_103 (fun H locs hJ => ?_)
    refine lv_goto (tgt := 152) hx hb dX10_readToken_106 (by decide) ?_
    exact D152  σ34 hf _ _ hJ ls (lv_sub hl [] rfl)
  have D91 : ∀ (v0 : Nat) (v1 : Int32) (τ : mx_S), f_X10_readToken_D91 P v0 v1 τ = some σ' → ∀ (H : Heap) (locs : List Loc), mx_J G P s.heap (mxz σ) (mxu σ) τ H locs → ∀ ls : Array Slot, lv_has ls 2 [(0, .ref v0), (1, .int v1)] → W p l e (mx_rm P 3 65 σ) s m ([.ref a0] : List Value).toArray below meth c H locs (mxz τ - mxz σ) (mxu τ - mxu σ) (mx_Z below G P none σ σ' [.ref a0] s) (F0 m 91 ls []) := by
    intro v0 v1 τ hf _ _ hJ ls hl
    unfold f_X10_readToken_D91 at hf
    refine lv_aload_n hx hb dX10_readToken_91 rfl (lv_at hl 0 rfl) ?_
    refine lv_iload_n hx hb dX10_readToken_92 rfl (lv_at hl 1 rfl) ?_
    refine lv_bipush (v := 45) hx hb dX10_readToken_93 (by decide) ?_
    refine lv_icmp_ne (tgt := 102) hx hb dX10_readToken_95 (by decide) (fun c31 => ?_) (fun c31 => ?_)
    · rw [if_neg c31] at hf
      refine lv_iconst (v := 0) hx hb dX10_readToken_102 (by decide) ?_
      exact D103 (0 : Int32) v0 τ hf _ _ hJ ls (lv_sub hl [] rfl)
    · rw [if_pos c31] at hf
      refine lv_iconst (v := 1) hx hb dX10_readToken_98 (by decide) ?_
      refine lv_goto (tgt := 103) hx hb dX10_readToken_99 (by decide) ?_
      exact D103 (1 : Int32) v0 τ hf _ _ hJ ls (lv_sub hl [] rfl)
  have D149 : ∀ (w0 : Int32) (w1 : Nat) (τ : mx_S), f_X10_readToken_D149 P w0 w1 τ = some σ' → ∀ (H : Heap) (locs : List Loc), mx_J G P s.heap (mxz σ) (mxu σ) τ H locs → ∀ ls : Array Slot, lv_has ls 2 [] → W p l e (mx_rm P 3 65 σ) s m ([.ref a0] : List Value).toArray below meth c H locs (mxz τ - mxz σ) (mxu τ - mxu σ) (mx_Z below G P none σ σ' [.ref a0] s) (F0 m 149 ls [.int w0, .ref w1]) := by
    intro w0 w1 τ hf _ _ hJ ls hl
    unfold f_X10_readToken_D149 at hf
    obtain ⟨σ42, e43, hf⟩ := mb0 hf
    refine my_pI hx hb hts hown hK hJ fd_RX10_76 cd_10 (Or.inl rfl) ht_10_5 e43 dX10_readToken_149 (fun H locs hJ => ?_)
    exact D152  σ42 hf _ _ hJ ls (lv_sub hl [] rfl)
  have D144 : ∀ (v1 : Int32) (w0 : Nat) (τ : mx_S), f_X10_readToken_D144 P v1 w0 τ = some σ' → ∀ (H : Heap) (locs : List Loc), mx_J G P s.heap (mxz σ) (mxu σ) τ H locs → ∀ ls : Array Slot, lv_has ls 2 [(1, .int v1)] → W p l e (mx_rm P 3 65 σ) s m ([.ref a0] : List Value).toArray below meth c H locs (mxz τ - mxz σ) (mxu τ - mxu σ) (mx_Z below G P none σ σ' [.ref a0] s) (F0 m 144 ls [.ref w0]) := by
    intro v1 w0 τ hf _ _ hJ ls hl
    unfold f_X10_readToken_D144 at hf
    refine lv_iload_n hx hb dX10_readToken_144 rfl (lv_at hl 0 rfl) ?_
    refine lv_goto (tgt := 149) hx hb dX10_readToken_145 (by decide) ?_
    exact D149 v1 w0 τ hf _ _ hJ ls (lv_sub hl [] rfl)
  have D109 : ∀ (v0 : Nat) (v1 : Int32) (τ : mx_S), f_X10_readToken_D109 P v0 v1 τ = some σ' → ∀ (H : Heap) (locs : List Loc), mx_J G P s.heap (mxz σ) (mxu σ) τ H locs → ∀ ls : Array Slot, lv_has ls 2 [(0, .ref v0), (1, .int v1)] → W p l e (mx_rm P 3 65 σ) s m ([.ref a0] : List Value).toArray below meth c H locs (mxz τ - mxz σ) (mxu τ - mxu σ) (mx_Z below G P none σ σ' [.ref a0] s) (F0 m 109 ls []) := by
    intro v0 v1 τ hf _ _ hJ ls hl
    unfold f_X10_readToken_D109 at hf
    refine lv_aload_n hx hb dX10_readToken_109 rfl (lv_at hl 0 rfl) ?_
    refine lv_dup hx hb dX10_readToken_110 rfl ?_
    obtain ⟨x37, e38, hf⟩ := mb0 hf
    refine my_gI hx hb hts hown hK hJ fd_RX10_54 hv_10_4 e38 dX10_readToken_111 ?_
    refine lv_iconst (v := 1) hx hb dX10_readToken_114 (by decide) ?_
    refine lv_iadd hx hb dX10_readToken_115 ?_
    obtain ⟨σ39, e40, hf⟩ := mb0 hf
    refine my_pI hx hb hts hown hK hJ fd_RX10_54 cd_10 (Or.inl rfl) ht_10_4 e40 dX10_readToken_116 (fun H locs hJ => ?_)
    refine lv_aload_n hx hb dX10_readToken_119 rfl (lv_at hl 0 rfl) ?_
    refine lv_iload_n hx hb dX10_readToken_120 rfl (lv_at hl 1 rfl) ?_
    refine lv_bipush (v := 43) hx hb dX10_readToken_121 (by decide) ?_
    refine lv_icmp_eq (tgt := 144) hx hb dX10_readToken_123 (by decide) (fun c41 => ?_) (fun c41 => ?_)
    · rw [if_pos c41] at hf
      exact D144 v1 v0 σ39 hf _ _ hJ ls (lv_sub hl [1] rfl)
    · rw [if_neg c41] at hf
      refine lv_iload_n hx hb dX10_readToken_126 rfl (lv_at hl 1 rfl) ?_
      refine lv_bipush (v := 45) hx hb dX10_readToken_127 (by decide) ?_
      refine lv_icmp_eq (tgt := 144) hx hb dX10_readToken_129 (by decide) (fun c44 => ?_) (fun c44 => ?_)
      · rw [if_pos c44] at hf
        exact D144 v1 v0 σ39 hf _ _ hJ ls (lv_sub hl [1] rfl)
      · rw [if_neg c44] at hf
        refine lv_iload_n hx hb dX10_readToken_132 rfl (lv_at hl 1 rfl) ?_
        refine lv_bipush (v := 63) hx hb dX10_readToken_133 (by decide) ?_
        refine lv_icmp_eq (tgt := 144) hx hb dX10_readToken_135 (by decide) (fun c45 => ?_) (fun c45 => ?_)
        · rw [if_pos c45] at hf
          exact D144 v1 v0 σ39 hf _ _ hJ ls (lv_sub hl [1] rfl)
        · rw [if_neg c45] at hf
          refine lv_iload_n hx hb dX10_readToken_138 rfl (lv_at hl 1 rfl) ?_
          refine lv_bipush (v := 59) hx hb dX10_readToken_139 (by decide) ?_
          refine lv_icmp_ne (tgt := 148) hx hb dX10_readToken_141 (by decide) (fun c46 => ?_) (fun c46 => ?_)
          · rw [if_neg c46] at hf
            refine lv_iconst (v := 1) hx hb dX10_readToken_148 (by decide) ?_
            exact D149 (1 : Int32) v0 σ39 hf _ _ hJ ls (lv_sub hl [] rfl)
          · rw [if_pos c46] at hf
            exact D144 v1 v0 σ39 hf _ _ hJ ls (lv_sub hl [1] rfl)
  unfold f_X10_readToken at hf
  refine lv_aload_n hx hb dX10_readToken_0 rfl (lv_at hl 0 rfl) ?_
  obtain ⟨i1, e2, hf⟩ := mb0 hf
  obtain ⟨σ3, e4, hf⟩ := mb0 hf
  refine mx_callV (As := []) (rest := []) hx hb hml hts hown hK hJ rfl rfl (ci := 10) rfl e2 (c_X10_skipSpaces l G P a0 σ σ3 e4) me_X10_skipSpaces kw_1069 ks_25 kw_1067 (Nat.le_of_ble_eq_true rfl) (Nat.le_of_ble_eq_true rfl) rfl hl.1 rfl (Nat.le_of_ble_eq_true rfl) dX10_readToken_1 (fun H locs hJ => ?_)
  refine lv_aload_n hx hb dX10_readToken_4 rfl (lv_at hl 0 rfl) ?_
  refine lv_aload_n hx hb dX10_readToken_5 rfl (lv_at hl 0 rfl) ?_
  obtain ⟨x5, e6, hf⟩ := mb0 hf
  refine my_gI hx hb hts hown hK hJ fd_RX10_54 hv_10_4 e6 dX10_readToken_6 ?_
  obtain ⟨σ7, e8, hf⟩ := mb0 hf
  refine my_pI hx hb hts hown hK hJ fd_RX10_70 cd_10 (Or.inl rfl) ht_10_6 e8 dX10_readToken_9 (fun H locs hJ => ?_)
  refine lv_aload_n hx hb dX10_readToken_12 rfl (lv_at hl 0 rfl) ?_
  refine lv_lconst (v := 0) hx hb dX10_readToken_13 (by decide) ?_
  obtain ⟨σ9, e10, hf⟩ := mb0 hf
  refine my_pL hx hb hts hown hK hJ fd_RX10_110 cd_10 (Or.inl rfl) ht_10_7 e10 dX10_readToken_14 (fun H locs hJ => ?_)
  refine lv_aload_n hx hb dX10_readToken_17 rfl (lv_at hl 0 rfl) ?_
  refine lv_iconst (v := 0) hx hb dX10_readToken_18 (by decide) ?_
  obtain ⟨σ11, e12, hf⟩ := mb0 hf
  refine my_pI hx hb hts hown hK hJ fd_RX10_114 cd_10 (Or.inl rfl) ht_10_8 e12 dX10_readToken_19 (fun H locs hJ => ?_)
  refine lv_aload_n hx hb dX10_readToken_22 rfl (lv_at hl 0 rfl) ?_
  refine lv_iconst (v := 1) hx hb dX10_readToken_23 (by decide) ?_
  obtain ⟨σ13, e14, hf⟩ := mb0 hf
  refine my_pI hx hb hts hown hK hJ fd_RX10_117 cd_10 (Or.inl rfl) ht_10_9 e14 dX10_readToken_24 (fun H locs hJ => ?_)
  refine lv_aload_n hx hb dX10_readToken_27 rfl (lv_at hl 0 rfl) ?_
  refine lv_aload_n hx hb dX10_readToken_28 rfl (lv_at hl 0 rfl) ?_
  obtain ⟨x15, e16, hf⟩ := mb0 hf
  refine my_gI hx hb hts hown hK hJ fd_RX10_54 hv_10_4 e16 dX10_readToken_29 ?_
  obtain ⟨i17, e18, hf⟩ := mb0 hf
  obtain ⟨x20, σ19, e21, hf⟩ := mc0 hf
  refine mx_callV (As := [.int x15]) (rest := []) hx hb hml hts hown hK hJ rfl rfl (ci := 10) rfl e18 (c_X10_byteAt l G P a0 x15 σ13 x20 σ19 e21) me_X10_byteAt kw_637 ks_0 kw_635 (Nat.le_of_ble_eq_true rfl) (Nat.le_of_ble_eq_true rfl) rfl hl.1 rfl (Nat.le_of_ble_eq_true rfl) dX10_readToken_32 (fun H locs hJ => ?_)
  refine lv_istore_n (lv' := [(1, .int x20), (0, .ref a0)]) hx hb dX10_readToken_35 rfl hl (by decide) rfl (fun ls hl => ?_)
  refine lv_iload_n hx hb dX10_readToken_36 rfl (lv_at hl 0 rfl) ?_
  refine lv_if_ge (tgt := 48) hx hb dX10_readToken_37 (by decide) (fun c22 => ?_) (fun c22 => ?_)
  · rw [if_pos c22] at hf
    refine lv_iload_n hx hb dX10_readToken_48 rfl (lv_at hl 0 rfl) ?_
    obtain ⟨x24, σ23, e25, hf⟩ := mc0 hf
    refine mx_callS (As := [.int x20]) (rest := []) hx hb hml hts hown hK hJ rfl rfl (c_X10_isLetter l G P x20 σ19 x24 σ23 e25) me_X10_isLetter kw_640 kw_639 (Nat.le_of_ble_eq_true rfl) (Nat.le_of_ble_eq_true rfl) rfl hl.1 rfl (Nat.le_of_ble_eq_true rfl) dX10_readToken_49 (fun H locs hJ => ?_)
    refine lv_if_eq (tgt := 62) hx hb dX10_readToken_52 (by decide) (fun c26 => ?_) (fun c26 => ?_)
    · rw [if_pos c26] at hf
      refine lv_iload_n hx hb dX10_readToken_62 rfl (lv_at hl 0 rfl) ?_
      obtain ⟨x28, σ27, e29, hf⟩ := mc0 hf
      refine mx_callS (As := [.int x20]) (rest := []) hx hb hml hts hown hK hJ rfl rfl (c_X10_isDigit l G P x20 σ23 x28 σ27 e29) me_X10_isDigit kw_1076 kw_1075 (Nat.le_of_ble_eq_true rfl) (Nat.le_of_ble_eq_true rfl) rfl hl.1 rfl (Nat.le_of_ble_eq_true rfl) dX10_readToken_63 (fun H locs hJ => ?_)
      refine lv_if_ne (tgt := 91) hx hb dX10_readToken_66 (by decide) (fun c30 => ?_) (fun c30 => ?_)
      · rw [if_neg c30] at hf
        exact D91 a0 x20 σ27 hf _ _ hJ ls (lv_sub hl [1, 0] rfl)
      · rw [if_pos c30] at hf
        refine lv_iload_n hx hb dX10_readToken_69 rfl (lv_at hl 0 rfl) ?_
        refine lv_bipush (v := 45) hx hb dX10_readToken_70 (by decide) ?_
        refine lv_icmp_ne (tgt := 109) hx hb dX10_readToken_72 (by decide) (fun c36 => ?_) (fun c36 => ?_)
        · rw [if_neg c36] at hf
          exact D109 a0 x20 σ27 hf _ _ hJ ls (lv_sub hl [1, 0] rfl)
        · rw [if_pos c36] at hf
          refine lv_aload_n hx hb dX10_readToken_75 rfl (lv_at hl 1 rfl) ?_
          refine lv_aload_n hx hb dX10_readToken_76 rfl (lv_at hl 1 rfl) ?_
          obtain ⟨x47, e48, hf⟩ := mb0 hf
          refine my_gI hx hb hts hown hK hJ fd_RX10_54 hv_10_4 e48 dX10_readToken_77 ?_
          refine lv_iconst (v := 1) hx hb dX10_readToken_80 (by decide) ?_
          refine lv_iadd hx hb dX10_readToken_81 ?_
          obtain ⟨i49, e50, hf⟩ := mb0 hf
          obtain ⟨x52, σ51, e53, hf⟩ := mc0 hf
          refine mx_callV (As := [.int (x47 + (1 : Int32))]) (rest := []) hx hb hml hts hown hK hJ rfl rfl (ci := 10) rfl e50 (c_X10_byteAt l G P a0 (x47 + (1 : Int32)) σ27 x52 σ51 e53) me_X10_byteAt kw_637 ks_0 kw_635 (Nat.le_of_ble_eq_true rfl) (Nat.le_of_ble_eq_true rfl) rfl hl.1 rfl (Nat.le_of_ble_eq_true rfl) dX10_readToken_82 (fun H locs hJ => ?_)
          obtain ⟨x55, σ54, e56, hf⟩ := mc0 hf
          refine mx_callS (As := [.int x52]) (rest := []) hx hb hml hts hown hK hJ rfl rfl (c_X10_isDigit l G P x52 σ51 x55 σ54 e56) me_X10_isDigit kw_1076 kw_1075 (Nat.le_of_ble_eq_true rfl) (Nat.le_of_ble_eq_true rfl) rfl hl.1 rfl (Nat.le_of_ble_eq_true rfl) dX10_readToken_85 (fun H locs hJ => ?_)
          refine lv_if_eq (tgt := 109) hx hb dX10_readToken_88 (by decide) (fun c57 => ?_) (fun c57 => ?_)
          · rw [if_pos c57] at hf
            exact D109 a0 x20 σ54 hf _ _ hJ ls (lv_sub hl [1, 0] rfl)
          · rw [if_neg c57] at hf
            exact D91 a0 x20 σ54 hf _ _ hJ ls (lv_sub hl [1, 0] rfl)
    · rw [if_neg c26] at hf
      refine lv_aload_n hx hb dX10_readToken_55 rfl (lv_at hl 1 rfl) ?_
      obtain ⟨i58, e59, hf⟩ := mb0 hf
      obtain ⟨σ60, e61, hf⟩ := mb0 hf
      refine mx_callV (As := []) (rest := []) hx hb hml hts hown hK hJ rfl rfl (ci := 10) rfl e59 (c_X10_readWord l G P a0 σ23 σ60 e61) me_X10_readWord kw_1073 ks_26 kw_1071 (Nat.le_of_ble_eq_true rfl) (Nat.le_of_ble_eq_true rfl) rfl hl.1 rfl (Nat.le_of_ble_eq_true rfl) dX10_readToken_56 (fun H locs hJ => ?_)
      refine lv_goto (tgt := 152) hx hb dX10_readToken_59 (by decide) ?_
      exact D152  σ60 hf _ _ hJ ls (lv_sub hl [] rfl)
  · rw [if_neg c22] at hf
    refine lv_aload_n hx hb dX10_readToken_40 rfl (lv_at hl 1 rfl) ?_
    refine lv_iconst (v := 0) hx hb dX10_readToken_41 (by decide) ?_
    obtain ⟨σ62, e63, hf⟩ := mb0 hf
    refine my_pI hx hb hts hown hK hJ fd_RX10_76 cd_10 (Or.inl rfl) ht_10_5 e63 dX10_readToken_42 (fun H locs hJ => ?_)
    refine lv_goto (tgt := 152) hx hb dX10_readToken_45 (by decide) ?_
    exact D152  σ62 hf _ _ hJ ls (lv_sub hl [] rfl)
set_option maxHeartbeats 4000000 in
set_option maxRecDepth 100000 in
theorem c_J0_coder_7d493 (l : Launch) (G : mx_G) (P : mx_P) (a0 : Nat) (σ : mx_S) (r : Int32) (σ' : mx_S) (hf : f_J0_coder_7d493 P a0 σ = some (r, σ')) : mxz σ ≤ mpc P → mxu σ ≤ mps P → mx_M l yJ0_coder_7d493 cJ0_coder_7d493 1 (some .byte) 0 0 G P [.ref (mgK G a0)] σ (some (.int r)) σ' := by
  intro hcap hcau
  refine mx_ofW (by decide +kernel) hcap hcau (Nat.le_of_ble_eq_true rfl) ?_
  intro p e s m below meth c hx hb hr hml hts hown hlocks hname hK hJ ls hl
  have hz0 := hJ.2.1
  have hown : s.vm.findClass RJ0 = some m.cls := hown
  have hl : lv_has ls 1 [(0, .ref (mgK G a0))] := hl
  have D14 : ∀ (w0 : Int32) (τ : mx_S), f_J0_coder_7d493_D14 P w0 τ = some (r, σ') → ∀ (H : Heap) (locs : List Loc), mx_J G P s.heap (mxz σ) (mxu σ) τ H locs → ∀ ls : Array Slot, lv_has ls 1 [] → W p l e (mx_rm P 0 0 σ) s m ([.ref (mgK G a0)] : List Value).toArray below meth c H locs (mxz τ - mxz σ) (mxu τ - mxu σ) (mx_Z below G P (some (.int r)) σ σ' [.ref (mgK G a0)] s) (F0 m 14 ls [.int w0]) := by
    intro w0 τ hf _ _ hJ ls hl
    unfold f_J0_coder_7d493_D14 at hf
    exact mx_bret hx hb hr hlocks hJ hf dJ0_coder_7d493_14
  unfold f_J0_coder_7d493 at hf
  refine va_gets hx hb (mxe_c hK) (mx_Sv hz0 hJ) hown (hts _ kw_1098) (fun _ h => h) dJ0_coder_7d493_0 ?_
  refine lv_if_eq (tgt := 13) hx hb dJ0_coder_7d493_3 (by decide) (fun c1 => ?_) (fun c1 => ?_)
  · rw [if_pos c1] at hf
    refine lv_iconst (v := 1) hx hb dJ0_coder_7d493_13 (by decide) ?_
    exact D14 (1 : Int32) σ hf _ _ hJ ls (lv_sub hl [] rfl)
  · rw [if_neg c1] at hf
    refine lv_aload_n hx hb dJ0_coder_7d493_6 rfl (lv_at hl 0 rfl) ?_
    obtain ⟨i2, e3, hf⟩ := mb0 hf
    refine mx_scod hx hb hts hown hK hz0 hJ e3 kw_2877 dJ0_coder_7d493_7 ?_
    refine lv_goto (tgt := 14) hx hb dJ0_coder_7d493_10 (by decide) ?_
    exact D14 (0 : Int32) σ hf _ _ hJ ls (lv_sub hl [] rfl)
set_option maxHeartbeats 4000000 in
set_option maxRecDepth 100000 in
theorem c_J0_length_8abf5 (l : Launch) (G : mx_G) (P : mx_P) (a0 : Nat) (σ : mx_S) (r : Int32) (σ' : mx_S) (hf : f_J0_length_8abf5 P a0 σ = some (r, σ')) : mxz σ ≤ mpc P → mxu σ ≤ mps P → mx_M l yJ0_length_8abf5 cJ0_length_8abf5 1 (some .int) 1 20 G P [.ref (mgK G a0)] σ (some (.int r)) σ' := by
  intro hcap hcau
  refine mx_ofW (by decide +kernel) hcap hcau (Nat.le_of_ble_eq_true rfl) ?_
  intro p e s m below meth c hx hb hr hml hts hown hlocks hname hK hJ ls hl
  have hz0 := hJ.2.1
  have hown : s.vm.findClass RJ0 = some m.cls := hown
  have hl : lv_has ls 1 [(0, .ref (mgK G a0))] := hl
  unfold f_J0_length_8abf5 at hf
  refine lv_aload_n hx hb dJ0_length_8abf5_0 rfl (lv_at hl 0 rfl) ?_
  obtain ⟨i1, e2, hf⟩ := mb0 hf
  refine mx_sval hx hb hts hown hK hz0 hJ e2 kw_2876 dJ0_length_8abf5_1 ?_
  obtain ⟨i3, e4, hf⟩ := mb0 hf
  refine mx_tlen hx hb hK hz0 hJ e4 dJ0_length_8abf5_4 ?_
  refine lv_aload_n hx hb dJ0_length_8abf5_5 rfl (lv_at hl 0 rfl) ?_
  obtain ⟨i5, e6, hf⟩ := mb0 hf
  obtain ⟨x8, σ7, e9, hf⟩ := mc0 hf
  refine mx_callVS (As := []) (rest := [.int (mt_n a0)]) hx hb hml hts hown hK hz0 hJ rfl rfl e6 (c_J0_coder_7d493 l G P a0 σ x8 σ7 e9) me_J0_coder_7d493 kw_1095 kw_1096 kw_1094 (Nat.le_of_ble_eq_true rfl) (Nat.le_of_ble_eq_true rfl) rfl hl.1 rfl (Nat.le_of_ble_eq_true rfl) dJ0_length_8abf5_6 (fun H locs hJ => ?_)
  refine lv_ishr hx hb dJ0_length_8abf5_9 ?_
  exact my_iret hx hb hr hlocks hJ hf dJ0_length_8abf5_10
set_option maxHeartbeats 4000000 in
set_option maxRecDepth 100000 in
theorem c_J0_isLatin1_aae02 (l : Launch) (G : mx_G) (P : mx_P) (a0 : Nat) (σ : mx_S) (r : Int32) (σ' : mx_S) (hf : f_J0_isLatin1_aae02 P a0 σ = some (r, σ')) : mxz σ ≤ mpc P → mxu σ ≤ mps P → mx_M l yJ0_isLatin1_aae02 cJ0_isLatin1_aae02 1 (some .boolean) 0 0 G P [.ref (mgK G a0)] σ (some (.int r)) σ' := by
  intro hcap hcau
  refine mx_ofW (by decide +kernel) hcap hcau (Nat.le_of_ble_eq_true rfl) ?_
  intro p e s m below meth c hx hb hr hml hts hown hlocks hname hK hJ ls hl
  have hz0 := hJ.2.1
  have hown : s.vm.findClass RJ0 = some m.cls := hown
  have hl : lv_has ls 1 [(0, .ref (mgK G a0))] := hl
  have D18 : ∀ (w0 : Int32) (τ : mx_S), f_J0_isLatin1_aae02_D18 P w0 τ = some (r, σ') → ∀ (H : Heap) (locs : List Loc), mx_J G P s.heap (mxz σ) (mxu σ) τ H locs → ∀ ls : Array Slot, lv_has ls 1 [] → W p l e (mx_rm P 0 0 σ) s m ([.ref (mgK G a0)] : List Value).toArray below meth c H locs (mxz τ - mxz σ) (mxu τ - mxu σ) (mx_Z below G P (some (.int r)) σ σ' [.ref (mgK G a0)] s) (F0 m 18 ls [.int w0]) := by
    intro w0 τ hf _ _ hJ ls hl
    unfold f_J0_isLatin1_aae02_D18 at hf
    exact mx_zret hx hb hr hlocks hJ hf dJ0_isLatin1_aae02_18
  have D17 : ∀  (τ : mx_S), f_J0_isLatin1_aae02_D17 P  τ = some (r, σ') → ∀ (H : Heap) (locs : List Loc), mx_J G P s.heap (mxz σ) (mxu σ) τ H locs → ∀ ls : Array Slot, lv_has ls 1 [] → W p l e (mx_rm P 0 0 σ) s m ([.ref (mgK G a0)] : List Value).toArray below meth c H locs (mxz τ - mxz σ) (mxu τ - mxu σ) (mx_Z below G P (some (.int r)) σ σ' [.ref (mgK G a0)] s) (F0 m 17 ls []) := by
    intro  τ hf _ _ hJ ls hl
    unfold f_J0_isLatin1_aae02_D17 at hf
    refine lv_iconst (v := 0) hx hb dJ0_isLatin1_aae02_17 (by decide) ?_
    exact D18 (0 : Int32) τ hf _ _ hJ ls (lv_sub hl [] rfl)
  unfold f_J0_isLatin1_aae02 at hf
  refine va_gets hx hb (mxe_c hK) (mx_Sv hz0 hJ) hown (hts _ kw_1098) (fun _ h => h) dJ0_isLatin1_aae02_0 ?_
  refine lv_if_eq (tgt := 17) hx hb dJ0_isLatin1_aae02_3 (by decide) (fun c1 => ?_) (fun c1 => ?_)
  · rw [if_pos c1] at hf
    exact D17  σ hf _ _ hJ ls (lv_sub hl [] rfl)
  · rw [if_neg c1] at hf
    refine lv_aload_n hx hb dJ0_isLatin1_aae02_6 rfl (lv_at hl 0 rfl) ?_
    obtain ⟨i2, e3, hf⟩ := mb0 hf
    refine mx_scod hx hb hts hown hK hz0 hJ e3 kw_2877 dJ0_isLatin1_aae02_7 ?_
    refine lv_if_ne (tgt := 17) hx hb dJ0_isLatin1_aae02_10 (by decide) (fun c4 => ?_) (fun c4 => ?_)
    · rw [if_neg c4] at hf
      exact D17  σ hf _ _ hJ ls (lv_sub hl [] rfl)
    · rw [if_pos c4] at hf
      refine lv_iconst (v := 1) hx hb dJ0_isLatin1_aae02_13 (by decide) ?_
      refine lv_goto (tgt := 18) hx hb dJ0_isLatin1_aae02_14 (by decide) ?_
      exact D18 (1 : Int32) σ hf _ _ hJ ls (lv_sub hl [] rfl)
/-! ===== the JDK's index checks, by hand ===== -/
set_option maxHeartbeats 4000000 in
theorem c_J3_checkIndex_8e157 (l : Launch) (G : mx_G) (P : mx_P) (p0 p1 : Int32) (v : Value) (hv : v.category = 1) (σ : mx_S) (h : ¬ p0 < 0 ∧ p0 < p1) : mxz σ ≤ mpc P → mxu σ ≤ mps P → mx_M l yJ3_checkIndex_8e157 cJ3_checkIndex_8e157 3 (some .int) 0 0 G P [.int p0, .int p1, v] σ (some (.int p0)) σ := by
  intro hcap hcau
  refine mx_ofW (by decide +kernel) hcap hcau (by cases v <;> first | exact Nat.le_of_ble_eq_true rfl | exact absurd hv (by simp [Value.category])) ?_
  intro p e s m below meth c hx hb hr hml hts hown hlocks hname hK hJ ls hl
  have hl := lv_sub (l' := [(0, .int p0), (1, .int p1)]) hl [0, 1] rfl
  refine lv_iload_n hx hb dJ3_checkIndex_8e157_0 rfl (lv_at hl 0 rfl) ?_
  refine lv_if_lt (tgt := 9) hx hb dJ3_checkIndex_8e157_1 (by decide) (fun hc => absurd hc h.1) (fun hc => ?_)
  refine lv_iload_n hx hb dJ3_checkIndex_8e157_4 rfl (lv_at hl 0 rfl) ?_
  refine lv_iload_n hx hb dJ3_checkIndex_8e157_5 rfl (lv_at hl 1 rfl) ?_
  refine lv_icmp_lt (tgt := 16) hx hb dJ3_checkIndex_8e157_6 (by decide) (fun hc => ?_) (fun hc => absurd h.2 hc)
  refine lv_iload_n hx hb dJ3_checkIndex_8e157_16 rfl (lv_at hl 0 rfl) ?_
  exact my_iret hx hb hr hlocks hJ rfl dJ3_checkIndex_8e157_17
set_option maxHeartbeats 4000000 in
theorem c_J0_checkIndex_df160 (l : Launch) (G : mx_G) (P : mx_P) (p0 p1 : Int32) (σ σ' : mx_S) (hf : f_J0_checkIndex_df160 P p0 p1 σ = some σ') : mxz σ ≤ mpc P → mxu σ ≤ mps P → mx_M l yJ0_checkIndex_df160 cJ0_checkIndex_df160 2 none 1 22 G P [.int p0, .int p1] σ none σ' := by
  unfold f_J0_checkIndex_df160 at hf
  split at hf
  · rename_i hin
    cases hf
    intro hcap hcau
    refine mx_ofW (by decide +kernel) hcap hcau (Nat.le_of_ble_eq_true rfl) ?_
    intro p e s m below meth c hx hb hr hml hts hown hlocks hname hK hJ ls hl
    have hz0 := hJ.2.1
    have hown : s.vm.findClass RJ0 = some m.cls := hown
    have hl : lv_has ls 2 [(0, .int p0), (1, .int p1)] := hl
    obtain ⟨fv, hfv, hcat, -⟩ := mxe_f hK
    refine lv_iload_n hx hb dJ0_checkIndex_df160_0 rfl (lv_at hl 0 rfl) ?_
    refine lv_iload_n hx hb dJ0_checkIndex_df160_1 rfl (lv_at hl 1 rfl) ?_
    refine va_gets hx hb hfv (mx_Sv hz0 hJ) hown (hts _ kw_1114) (fun _ h => h) dJ0_checkIndex_df160_2 ?_
    refine mx_callS (As := [.int p0, .int p1, fv]) (rest := []) hx hb hml hts hown hK hJ rfl rfl (c_J3_checkIndex_8e157 l G P p0 p1 fv hcat σ hin) me_J3_checkIndex_8e157 kw_1117 kw_1116 (Nat.le_of_ble_eq_true rfl) (Nat.le_of_ble_eq_true rfl) rfl hl.1 rfl (Nat.le_of_ble_eq_true rfl) dJ0_checkIndex_df160_5 (fun H locs hJ => ?_)
    refine lv_pop hx hb dJ0_checkIndex_df160_8 rfl ?_
    exact my_vret hx hb hr hlocks hJ rfl dJ0_checkIndex_df160_9
  · cases hf

set_option maxHeartbeats 4000000 in
set_option maxRecDepth 100000 in
theorem c_J1_charAt_3b067 (l : Launch) (G : mx_G) (P : mx_P) (p0 : Nat) (p1 : Int32) (σ : mx_S) (r : Int32) (σ' : mx_S) (hf : f_J1_charAt_3b067 P p0 p1 σ = some (r, σ')) : mxz σ ≤ mpc P → mxu σ ≤ mps P → mx_M l yJ1_charAt_3b067 cJ1_charAt_3b067 2 (some .char) 2 43 G P [.ref (mgV G p0), .int p1] σ (some (.int r)) σ' := by
  intro hcap hcau
  refine mx_ofW (by decide +kernel) hcap hcau (Nat.le_of_ble_eq_true rfl) ?_
  intro p e s m below meth c hx hb hr hml hts hown hlocks hname hK hJ ls hl
  have hz0 := hJ.2.1
  have hown : s.vm.findClass RJ1 = some m.cls := hown
  have hl : lv_has ls 2 [(0, .ref (mgV G p0)), (1, .int p1)] := hl
  unfold f_J1_charAt_3b067 at hf
  refine lv_iload_n hx hb dJ1_charAt_3b067_0 rfl (lv_at hl 1 rfl) ?_
  refine lv_aload_n hx hb dJ1_charAt_3b067_1 rfl (lv_at hl 0 rfl) ?_
  obtain ⟨i1, e2, hf⟩ := mb0 hf
  refine mx_tlen hx hb hK hz0 hJ e2 dJ1_charAt_3b067_2 ?_
  obtain ⟨σ3, e4, hf⟩ := mb0 hf
  refine mx_callS (As := [.int p1, .int (mt_n p0)]) (rest := []) hx hb hml hts hown hK hJ rfl rfl (c_J0_checkIndex_df160 l G P p1 (mt_n p0) σ σ3 e4) me_J0_checkIndex_df160 kw_1112 kw_1111 (Nat.le_of_ble_eq_true rfl) (Nat.le_of_ble_eq_true rfl) rfl hl.1 rfl (Nat.le_of_ble_eq_true rfl) dJ1_charAt_3b067_3 (fun H locs hJ => ?_)
  refine lv_aload_n hx hb dJ1_charAt_3b067_6 rfl (lv_at hl 0 rfl) ?_
  refine lv_iload_n hx hb dJ1_charAt_3b067_7 rfl (lv_at hl 1 rfl) ?_
  obtain ⟨i5, e6, hf⟩ := mb0 hf
  obtain ⟨x7, e8, hf⟩ := mb0 hf
  refine mx_tb hx hb hK hz0 hJ e6 e8 dJ1_charAt_3b067_8 ?_
  refine lv_sipush (v := 255) hx hb dJ1_charAt_3b067_9 (by decide) ?_
  refine lv_iand hx hb dJ1_charAt_3b067_12 ?_
  refine lv_i2c hx hb dJ1_charAt_3b067_13 rfl ?_
  exact mx_cret hx hb hr hlocks hJ hf dJ1_charAt_3b067_14
set_option maxHeartbeats 4000000 in
set_option maxRecDepth 100000 in
theorem c_J2_length_9d52b (l : Launch) (G : mx_G) (P : mx_P) (a0 : Nat) (σ : mx_S) (r : Int32) (σ' : mx_S) (hf : f_J2_length_9d52b P a0 σ = some (r, σ')) : mxz σ ≤ mpc P → mxu σ ≤ mps P → mx_M l yJ2_length_9d52b cJ2_length_9d52b 1 (some .int) 0 0 G P [.ref a0] σ (some (.int r)) σ' := by
  intro hcap hcau
  refine mx_ofW (by decide +kernel) hcap hcau (Nat.le_of_ble_eq_true rfl) ?_
  intro p e s m below meth c hx hb hr hml hts hown hlocks hname hK hJ ls hl
  have hz0 := hJ.2.1
  have hown : s.vm.findClass RJ2 = some m.cls := hown
  have hl : lv_has ls 1 [(0, .ref a0)] := hl
  unfold f_J2_length_9d52b at hf
  refine lv_aload_n hx hb dJ2_length_9d52b_0 rfl (lv_at hl 0 rfl) ?_
  obtain ⟨x1, e2, hf⟩ := mb0 hf
  refine mx_alen hx hb hK hJ e2 dJ2_length_9d52b_1 ?_
  refine lv_iconst (v := 1) hx hb dJ2_length_9d52b_2 (by decide) ?_
  refine lv_ishr hx hb dJ2_length_9d52b_3 ?_
  exact my_iret hx hb hr hlocks hJ hf dJ2_length_9d52b_4
set_option maxHeartbeats 4000000 in
set_option maxRecDepth 100000 in
theorem c_J2_checkIndex_2214a (l : Launch) (G : mx_G) (P : mx_P) (p0 : Int32) (a1 : Nat) (σ : mx_S) (σ' : mx_S) (hf : f_J2_checkIndex_2214a P p0 a1 σ = some σ') : mxz σ ≤ mpc P → mxu σ ≤ mps P → mx_M l yJ2_checkIndex_2214a cJ2_checkIndex_2214a 2 none 0 0 G P [.int p0, .ref a1] σ none σ' := by
  intro hcap hcau
  refine mx_ofW (by decide +kernel) hcap hcau (Nat.le_of_ble_eq_true rfl) ?_
  intro p e s m below meth c hx hb hr hml hts hown hlocks hname hK hJ ls hl
  have hz0 := hJ.2.1
  have hown : s.vm.findClass RJ2 = some m.cls := hown
  have hl : lv_has ls 2 [(0, .int p0), (1, .ref a1)] := hl
  unfold f_J2_checkIndex_2214a at hf
  refine lv_iload_n hx hb dJ2_checkIndex_2214a_0 rfl (lv_at hl 0 rfl) ?_
  refine lv_aload_n hx hb dJ2_checkIndex_2214a_1 rfl (lv_at hl 1 rfl) ?_
  cases hf
set_option maxHeartbeats 4000000 in
set_option maxRecDepth 100000 in
theorem c_J2_charAt_3b067 (l : Launch) (G : mx_G) (P : mx_P) (a0 : Nat) (p1 : Int32) (σ : mx_S) (r : Int32) (σ' : mx_S) (hf : f_J2_charAt_3b067 P a0 p1 σ = some (r, σ')) : mxz σ ≤ mpc P → mxu σ ≤ mps P → mx_M l yJ2_charAt_3b067 cJ2_charAt_3b067 2 (some .char) 0 0 G P [.ref a0, .int p1] σ (some (.int r)) σ' := by
  intro hcap hcau
  refine mx_ofW (by decide +kernel) hcap hcau (Nat.le_of_ble_eq_true rfl) ?_
  intro p e s m below meth c hx hb hr hml hts hown hlocks hname hK hJ ls hl
  have hz0 := hJ.2.1
  have hown : s.vm.findClass RJ2 = some m.cls := hown
  have hl : lv_has ls 2 [(0, .ref a0), (1, .int p1)] := hl
  unfold f_J2_charAt_3b067 at hf
  refine lv_iload_n hx hb dJ2_charAt_3b067_0 rfl (lv_at hl 1 rfl) ?_
  refine lv_aload_n hx hb dJ2_charAt_3b067_1 rfl (lv_at hl 0 rfl) ?_
  cases hf
set_option maxHeartbeats 4000000 in
set_option maxRecDepth 100000 in
theorem c_J0_charAt_5068e (l : Launch) (G : mx_G) (P : mx_P) (a0 : Nat) (p1 : Int32) (σ : mx_S) (r : Int32) (σ' : mx_S) (hf : f_J0_charAt_5068e P a0 p1 σ = some (r, σ')) : mxz σ ≤ mpc P → mxu σ ≤ mps P → mx_M l yJ0_charAt_5068e cJ0_charAt_5068e 2 (some .char) 3 64 G P [.ref (mgK G a0), .int p1] σ (some (.int r)) σ' := by
  intro hcap hcau
  refine mx_ofW (by decide +kernel) hcap hcau (Nat.le_of_ble_eq_true rfl) ?_
  intro p e s m below meth c hx hb hr hml hts hown hlocks hname hK hJ ls hl
  have hz0 := hJ.2.1
  have hown : s.vm.findClass RJ0 = some m.cls := hown
  have hl : lv_has ls 2 [(0, .ref (mgK G a0)), (1, .int p1)] := hl
  unfold f_J0_charAt_5068e at hf
  refine lv_aload_n hx hb dJ0_charAt_5068e_0 rfl (lv_at hl 0 rfl) ?_
  obtain ⟨i1, e2, hf⟩ := mb0 hf
  obtain ⟨x4, σ3, e5, hf⟩ := mc0 hf
  refine mx_callVS (As := []) (rest := []) hx hb hml hts hown hK hz0 hJ rfl rfl e2 (c_J0_isLatin1_aae02 l G P a0 σ x4 σ3 e5) me_J0_isLatin1_aae02 kw_1105 kw_1106 kw_1104 (Nat.le_of_ble_eq_true rfl) (Nat.le_of_ble_eq_true rfl) rfl hl.1 rfl (Nat.le_of_ble_eq_true rfl) dJ0_charAt_5068e_1 (fun H locs hJ => ?_)
  refine lv_if_eq (tgt := 16) hx hb dJ0_charAt_5068e_4 (by decide) (fun c6 => ?_) (fun c6 => ?_)
  · rw [if_pos c6] at hf
    refine lv_aload_n hx hb dJ0_charAt_5068e_16 rfl (lv_at hl 0 rfl) ?_
    obtain ⟨i7, e8, hf⟩ := mb0 hf
    refine mx_sval hx hb hts hown hK hz0 hJ e8 kw_2876 dJ0_charAt_5068e_17 ?_
    refine lv_iload_n hx hb dJ0_charAt_5068e_20 rfl (lv_at hl 1 rfl) ?_
    cases hf
  · rw [if_neg c6] at hf
    refine lv_aload_n hx hb dJ0_charAt_5068e_7 rfl (lv_at hl 0 rfl) ?_
    obtain ⟨i9, e10, hf⟩ := mb0 hf
    refine mx_sval hx hb hts hown hK hz0 hJ e10 kw_2876 dJ0_charAt_5068e_8 ?_
    refine lv_iload_n hx hb dJ0_charAt_5068e_11 rfl (lv_at hl 1 rfl) ?_
    obtain ⟨x12, σ11, e13, hf⟩ := mc0 hf
    refine mx_callS (As := [.ref (mgV G a0), .int p1]) (rest := []) hx hb hml hts hown hK hJ rfl rfl (c_J1_charAt_3b067 l G P a0 p1 σ3 x12 σ11 e13) me_J1_charAt_3b067 kw_1109 kw_1108 (Nat.le_of_ble_eq_true rfl) (Nat.le_of_ble_eq_true rfl) rfl hl.1 rfl (Nat.le_of_ble_eq_true rfl) dJ0_charAt_5068e_12 (fun H locs hJ => ?_)
    exact mx_cret hx hb hr hlocks hJ hf dJ0_charAt_5068e_15
set_option maxHeartbeats 4000000 in
set_option maxRecDepth 100000 in
theorem c_X10_findForm (l : Launch) (G : mx_G) (P : mx_P) (a0 : Nat) (p1 : Nat) (σ : mx_S) (r : Int32) (σ' : mx_S) (hf : f_X10_findForm P a0 p1 σ = some (r, σ')) : mxz σ ≤ mpc P → mxu σ ≤ mps P → mx_M l yX10_findForm cX10_findForm 6 (some .int) 4 85 G P [.ref a0, .ref (mgK G p1)] σ (some (.int r)) σ' := by
  intro hcap hcau
  refine mx_ofW (by decide +kernel) hcap hcau (Nat.le_of_ble_eq_true rfl) ?_
  intro p e s m below meth c hx hb hr hml hts hown hlocks hname hK hJ ls hl
  have hz0 := hJ.2.1
  have hown : s.vm.findClass RX10 = some m.cls := hown
  have hl : lv_has ls 6 [(0, .ref a0), (1, .ref (mgK G p1))] := hl
  have D82_10 : ∀ (v0 : Nat) (v1 : Nat) (v2 : Int64) (v4 : Int32) (τ : mx_S) (o : (Int64 × Int32 × mx_S) ⊕ ((Int32 × mx_S) ⊕ (mx_S))), f_X10_findForm_D82_10 P v0 v1 v2 v4 τ = some o → (∀ (y2 : Int64) (y4 : Int32) (υ : mx_S), o = .inl (y2, y4, υ) → ∀ (H : Heap) (locs : List Loc), mx_J G P s.heap (mxz σ) (mxu σ) υ H locs → ∀ ls : Array Slot, lv_has ls 6 [(0, .ref v0), (1, .ref (mgK G v1)), (2, .long y2), (4, .int y4)] → W p l e (mx_rm P 4 85 σ) s m ([.ref a0, .ref (mgK G p1)] : List Value).toArray below meth c H locs (mxz υ - mxz σ) (mxu υ - mxu σ) (mx_Z below G P (some (.int r)) σ σ' [.ref a0, .ref (mgK G p1)] s) (F0 m 10 ls [])) → (∀ (y4 : Int32) (υ : mx_S), o = .inr (.inl (y4, υ)) → ∀ (H : Heap) (locs : List Loc), mx_J G P s.heap (mxz σ) (mxu σ) υ H locs → ∀ ls : Array Slot, lv_has ls 6 [(4, .int y4)] → W p l e (mx_rm P 4 85 σ) s m ([.ref a0, .ref (mgK G p1)] : List Value).toArray below meth c H locs (mxz υ - mxz σ) (mxu υ - mxu σ) (mx_Z below G P (some (.int r)) σ σ' [.ref a0, .ref (mgK G p1)] s) (F0 m 77 ls [])) → (∀  (υ : mx_S), o = .inr (.inr υ) → ∀ (H : Heap) (locs : List Loc), mx_J G P s.heap (mxz σ) (mxu σ) υ H locs → ∀ ls : Array Slot, lv_has ls 6 [] → W p l e (mx_rm P 4 85 σ) s m ([.ref a0, .ref (mgK G p1)] : List Value).toArray below meth c H locs (mxz υ - mxz σ) (mxu υ - mxu σ) (mx_Z below G P (some (.int r)) σ σ' [.ref a0, .ref (mgK G p1)] s) (F0 m 88 ls [])) → ∀ (H : Heap) (locs : List Loc), mx_J G P s.heap (mxz σ) (mxu σ) τ H locs → ∀ ls : Array Slot, lv_has ls 6 [(0, .ref v0), (1, .ref (mgK G v1)), (2, .long v2), (4, .int v4)] → W p l e (mx_rm P 4 85 σ) s m ([.ref a0, .ref (mgK G p1)] : List Value).toArray below meth c H locs (mxz τ - mxz σ) (mxu τ - mxu σ) (mx_Z below G P (some (.int r)) σ σ' [.ref a0, .ref (mgK G p1)] s) (F0 m 82 ls []) := by
    intro v0 v1 v2 v4 τ o hf Kb Ke0 Ke1 H locs hJ ls hl
    unfold f_X10_findForm_D82_10 at hf
    obtain ⟨x19, e20, hf⟩ := mb0 hf
    refine lv_iinc (v := x19) (lv' := [(4, .int x19), (0, .ref v0), (1, .ref (mgK G v1)), (2, .long v2)]) hx hb dX10_findForm_82 hl (k := 3) rfl (by rw [← Option.some.inj e20]; rfl) (by decide) rfl (fun ls hl => ?_)
    refine lv_goto (tgt := 10) hx hb dX10_findForm_85 (by decide) ?_
    exact Kb v2 x19 τ (Option.some.inj hf).symm _ _ hJ ls (lv_sub hl [1, 2, 3, 0] rfl)
  have B10 : ∀ (v0 : Nat) (v1 : Nat) (v2 : Int64) (v4 : Int32) (τ : mx_S) (o : (Int64 × Int32 × mx_S) ⊕ ((Int32 × mx_S) ⊕ (mx_S))), f_X10_findForm_B10 P v0 v1 v2 v4 τ = some o → (∀ (y2 : Int64) (y4 : Int32) (υ : mx_S), o = .inl (y2, y4, υ) → ∀ (H : Heap) (locs : List Loc), mx_J G P s.heap (mxz σ) (mxu σ) υ H locs → ∀ ls : Array Slot, lv_has ls 6 [(0, .ref v0), (1, .ref (mgK G v1)), (2, .long y2), (4, .int y4)] → W p l e (mx_rm P 4 85 σ) s m ([.ref a0, .ref (mgK G p1)] : List Value).toArray below meth c H locs (mxz υ - mxz σ) (mxu υ - mxu σ) (mx_Z below G P (some (.int r)) σ σ' [.ref a0, .ref (mgK G p1)] s) (F0 m 10 ls [])) → (∀ (y4 : Int32) (υ : mx_S), o = .inr (.inl (y4, υ)) → ∀ (H : Heap) (locs : List Loc), mx_J G P s.heap (mxz σ) (mxu σ) υ H locs → ∀ ls : Array Slot, lv_has ls 6 [(4, .int y4)] → W p l e (mx_rm P 4 85 σ) s m ([.ref a0, .ref (mgK G p1)] : List Value).toArray below meth c H locs (mxz υ - mxz σ) (mxu υ - mxu σ) (mx_Z below G P (some (.int r)) σ σ' [.ref a0, .ref (mgK G p1)] s) (F0 m 77 ls [])) → (∀  (υ : mx_S), o = .inr (.inr υ) → ∀ (H : Heap) (locs : List Loc), mx_J G P s.heap (mxz σ) (mxu σ) υ H locs → ∀ ls : Array Slot, lv_has ls 6 [] → W p l e (mx_rm P 4 85 σ) s m ([.ref a0, .ref (mgK G p1)] : List Value).toArray below meth c H locs (mxz υ - mxz σ) (mxu υ - mxu σ) (mx_Z below G P (some (.int r)) σ σ' [.ref a0, .ref (mgK G p1)] s) (F0 m 88 ls [])) → ∀ (H : Heap) (locs : List Loc), mx_J G P s.heap (mxz σ) (mxu σ) τ H locs → ∀ ls : Array Slot, lv_has ls 6 [(0, .ref v0), (1, .ref (mgK G v1)), (2, .long v2), (4, .int v4)] → W p l e (mx_rm P 4 85 σ) s m ([.ref a0, .ref (mgK G p1)] : List Value).toArray below meth c H locs (mxz τ - mxz σ) (mxu τ - mxu σ) (mx_Z below G P (some (.int r)) σ σ' [.ref a0, .ref (mgK G p1)] s) (F0 m 10 ls []) := by
    intro v0 v1 v2 v4 τ o hf Kb Ke0 Ke1 H locs hJ ls hl
    unfold f_X10_findForm_B10 at hf
    refine lv_iload hx hb dX10_findForm_10 (lv_at hl 3 rfl) ?_
    refine lv_aload_n hx hb dX10_findForm_12 rfl (lv_at hl 1 rfl) ?_
    obtain ⟨i3, e4, hf⟩ := mb0 hf
    obtain ⟨x6, σ5, e7, hf⟩ := mc0 hf
    refine mx_callVS (As := []) (rest := [.int v4]) hx hb hml hts hown hK hz0 hJ rfl rfl e4 (c_J0_length_8abf5 l G P v1 τ x6 σ5 e7) me_J0_length_8abf5 kw_1091 kw_1092 kw_1090 (Nat.le_of_ble_eq_true rfl) (Nat.le_of_ble_eq_true rfl) rfl hl.1 rfl (Nat.le_of_ble_eq_true rfl) dX10_findForm_13 (fun H locs hJ => ?_)
    refine lv_icmp_ge (tgt := 88) hx hb dX10_findForm_16 (by decide) (fun c8 => ?_) (fun c8 => ?_)
    · rw [if_pos c8] at hf
      exact Ke1 σ5 (Option.some.inj hf).symm _ _ hJ ls (lv_sub hl [] rfl)
    · rw [if_neg c8] at hf
      refine lv_aload_n hx hb dX10_findForm_19 rfl (lv_at hl 1 rfl) ?_
      refine lv_iload hx hb dX10_findForm_20 (lv_at hl 3 rfl) ?_
      obtain ⟨i9, e10, hf⟩ := mb0 hf
      obtain ⟨x12, σ11, e13, hf⟩ := mc0 hf
      refine mx_callVS (As := [.int v4]) (rest := []) hx hb hml hts hown hK hz0 hJ rfl rfl e10 (c_J0_charAt_5068e l G P v1 v4 σ5 x12 σ11 e13) me_J0_charAt_5068e kw_1101 kw_1102 kw_1100 (Nat.le_of_ble_eq_true rfl) (Nat.le_of_ble_eq_true rfl) rfl hl.1 rfl (Nat.le_of_ble_eq_true rfl) dX10_findForm_22 (fun H locs hJ => ?_)
      refine lv_istore (lv' := [(5, .int x12), (0, .ref v0), (1, .ref (mgK G v1)), (2, .long v2), (4, .int v4)]) hx hb dX10_findForm_25 hl (by decide) rfl (fun ls hl => ?_)
      refine lv_iload hx hb dX10_findForm_27 (lv_at hl 0 rfl) ?_
      refine lv_bipush (v := 59) hx hb dX10_findForm_29 (by decide) ?_
      refine lv_icmp_ne (tgt := 49) hx hb dX10_findForm_31 (by decide) (fun c14 => ?_) (fun c14 => ?_)
      · rw [if_neg c14] at hf
        refine lv_iload hx hb dX10_findForm_49 (lv_at hl 0 rfl) ?_
        refine lv_bipush (v := 32) hx hb dX10_findForm_51 (by decide) ?_
        refine lv_icmp_eq (tgt := 68) hx hb dX10_findForm_53 (by decide) (fun c15 => ?_) (fun c15 => ?_)
        · rw [if_pos c15] at hf
          refine lv_lload_n hx hb dX10_findForm_68 rfl (lv_at hl 3 rfl) ?_
          refine lv_aload_n hx hb dX10_findForm_69 rfl (lv_at hl 1 rfl) ?_
          obtain ⟨x16, e17, hf⟩ := mb0 hf
          refine my_gL hx hb hts hown hK hJ fd_RX10_110 hv_10_7 e17 dX10_findForm_70 ?_
          refine W.lcmp hx hb dX10_findForm_73 ?_
          refine lv_if_ne (tgt := 82) hx hb dX10_findForm_74 (by decide) (fun c18 => ?_) (fun c18 => ?_)
          · rw [if_neg c18] at hf
            exact D82_10 v0 v1 v2 v4 σ11 o hf Kb Ke0 Ke1 _ _ hJ ls (lv_sub hl [1, 2, 3, 4] rfl)
          · rw [if_pos c18] at hf
            exact Ke0 v4 σ11 (Option.some.inj hf).symm _ _ hJ ls (lv_sub hl [4] rfl)
        · rw [if_neg c15] at hf
          refine lv_lload_n hx hb dX10_findForm_56 rfl (lv_at hl 3 rfl) ?_
          refine lv_bipush (v := 8) hx hb dX10_findForm_57 (by decide) ?_
          refine lv_lshl hx hb dX10_findForm_59 rfl ?_
          refine lv_iload hx hb dX10_findForm_60 (lv_at hl 0 rfl) ?_
          refine lv_i2l hx hb dX10_findForm_62 rfl ?_
          refine lv_lor hx hb dX10_findForm_63 ?_
          obtain ⟨x21, e22, hf⟩ := mb0 hf
          refine mx_nL e22 ?_
          refine lv_lstore_n (lv' := [(2, .long x21), (5, .int x12), (0, .ref v0), (1, .ref (mgK G v1)), (4, .int v4)]) hx hb dX10_findForm_64 rfl hl (by decide) rfl (fun ls hl => ?_)
          refine lv_goto (tgt := 82) hx hb dX10_findForm_65 (by decide) ?_
          exact D82_10 v0 v1 x21 v4 σ11 o hf Kb Ke0 Ke1 _ _ hJ ls (lv_sub hl [2, 3, 0, 4] rfl)
      · rw [if_pos c14] at hf
        refine lv_aload_n hx hb dX10_findForm_34 rfl (lv_at hl 1 rfl) ?_
        refine lv_dup hx hb dX10_findForm_35 rfl ?_
        obtain ⟨x23, e24, hf⟩ := mb0 hf
        refine my_gI hx hb hts hown hK hJ fd_RX10_107 hv_10_10 e24 dX10_findForm_36 ?_
        refine lv_iconst (v := 1) hx hb dX10_findForm_39 (by decide) ?_
        refine lv_iadd hx hb dX10_findForm_40 ?_
        obtain ⟨σ25, e26, hf⟩ := mb0 hf
        refine my_pI hx hb hts hown hK hJ fd_RX10_107 cd_10 (Or.inl rfl) ht_10_10 e26 dX10_findForm_41 (fun H locs hJ => ?_)
        refine lv_lconst (v := 0) hx hb dX10_findForm_44 (by decide) ?_
        refine lv_lstore_n (lv' := [(2, .long (0 : Int64)), (5, .int x12), (0, .ref v0), (1, .ref (mgK G v1)), (4, .int v4)]) hx hb dX10_findForm_45 rfl hl (by decide) rfl (fun ls hl => ?_)
        refine lv_goto (tgt := 82) hx hb dX10_findForm_46 (by decide) ?_
        exact D82_10 v0 v1 (0 : Int64) v4 σ25 o hf Kb Ke0 Ke1 _ _ hJ ls (lv_sub hl [2, 3, 0, 4] rfl)
  have L10 : ∀ (v0 : Nat) (v1 : Nat) (n : Nat) (v2 : Int64) (v4 : Int32) (τ : mx_S) (o : (Int32 × mx_S) ⊕ (mx_S)), mx_lp (f_X10_findForm_L10 P v0 v1) n (v2, v4, τ) = some o → (∀ (y4 : Int32) (υ : mx_S), o = (.inl (y4, υ)) → ∀ (H : Heap) (locs : List Loc), mx_J G P s.heap (mxz σ) (mxu σ) υ H locs → ∀ ls : Array Slot, lv_has ls 6 [(4, .int y4)] → W p l e (mx_rm P 4 85 σ) s m ([.ref a0, .ref (mgK G p1)] : List Value).toArray below meth c H locs (mxz υ - mxz σ) (mxu υ - mxu σ) (mx_Z below G P (some (.int r)) σ σ' [.ref a0, .ref (mgK G p1)] s) (F0 m 77 ls [])) → (∀  (υ : mx_S), o = (.inr υ) → ∀ (H : Heap) (locs : List Loc), mx_J G P s.heap (mxz σ) (mxu σ) υ H locs → ∀ ls : Array Slot, lv_has ls 6 [] → W p l e (mx_rm P 4 85 σ) s m ([.ref a0, .ref (mgK G p1)] : List Value).toArray below meth c H locs (mxz υ - mxz σ) (mxu υ - mxu σ) (mx_Z below G P (some (.int r)) σ σ' [.ref a0, .ref (mgK G p1)] s) (F0 m 88 ls [])) → ∀ (H : Heap) (locs : List Loc), mx_J G P s.heap (mxz σ) (mxu σ) τ H locs → ∀ ls : Array Slot, lv_has ls 6 [(0, .ref v0), (1, .ref (mgK G v1)), (2, .long v2), (4, .int v4)] → W p l e (mx_rm P 4 85 σ) s m ([.ref a0, .ref (mgK G p1)] : List Value).toArray below meth c H locs (mxz τ - mxz σ) (mxu τ - mxu σ) (mx_Z below G P (some (.int r)) σ σ' [.ref a0, .ref (mgK G p1)] s) (F0 m 10 ls []) := by
    intro v0 v1 n
    induction n with
    | zero =>
      intro v2 v4 τ o hf
      rw [mx_lp0] at hf
      cases hf
    | succ n ih =>
      intro v2 v4 τ o hf Ke0 Ke1 H locs hJ ls hl
      rw [mx_lpS] at hf
      obtain ⟨b, eb, hf⟩ := mb0 hf
      refine B10 v0 v1 v2 v4 τ b eb (fun y2 y4 υ ho H locs hJ ls hl => ?_) (fun y4 υ ho H locs hJ ls hl => ?_) (fun  υ ho H locs hJ ls hl => ?_) H locs hJ ls hl
      · subst ho
        exact ih y2 y4 υ o hf Ke0 Ke1 H locs hJ ls hl
      · subst ho
        exact Ke0 y4 υ (Option.some.inj hf).symm _ _ hJ ls hl
      · subst ho
        exact Ke1  υ (Option.some.inj hf).symm _ _ hJ ls hl
  unfold f_X10_findForm at hf
  refine lv_lconst (v := 0) hx hb dX10_findForm_0 (by decide) ?_
  refine lv_lstore_n (lv' := [(2, .long (0 : Int64)), (0, .ref a0), (1, .ref (mgK G p1))]) hx hb dX10_findForm_1 rfl hl (by decide) rfl (fun ls hl => ?_)
  refine lv_aload_n hx hb dX10_findForm_2 rfl (lv_at hl 1 rfl) ?_
  refine lv_iconst (v := 0) hx hb dX10_findForm_3 (by decide) ?_
  obtain ⟨σ1, e2, hf⟩ := mb0 hf
  refine my_pI hx hb hts hown hK hJ fd_RX10_107 cd_10 (Or.inl rfl) ht_10_10 e2 dX10_findForm_4 (fun H locs hJ => ?_)
  refine lv_iconst (v := 0) hx hb dX10_findForm_7 (by decide) ?_
  refine lv_istore (lv' := [(4, .int (0 : Int32)), (2, .long (0 : Int64)), (0, .ref a0), (1, .ref (mgK G p1))]) hx hb dX10_findForm_8 hl (by decide) rfl (fun ls hl => ?_)
  obtain ⟨o27, e28, hf⟩ := mb0 hf
  refine L10 a0 p1 (mpN P) (0 : Int64) (0 : Int32) σ1 o27 e28 (fun y29 σ30 ho H locs hJ ls hl => ?_) (fun σ31 ho H locs hJ ls hl => ?_) _ _ hJ ls (lv_sub hl [2, 3, 1, 0] rfl)
  · rw [ho] at hf
    have hf : (some ((y29 + (1 : Int32)), σ30)) = some (r, σ') := hf
    refine lv_iload hx hb dX10_findForm_77 (lv_at hl 0 rfl) ?_
    refine lv_iconst (v := 1) hx hb dX10_findForm_79 (by decide) ?_
    refine lv_iadd hx hb dX10_findForm_80 ?_
    exact my_iret hx hb hr hlocks hJ hf dX10_findForm_81
  · rw [ho] at hf
    have hf : (some ((-1 : Int32), σ31)) = some (r, σ') := hf
    refine lv_iconst (v := (-1)) hx hb dX10_findForm_88 (by decide) ?_
    exact my_iret hx hb hr hlocks hJ hf dX10_findForm_89
set_option maxHeartbeats 4000000 in
set_option maxRecDepth 100000 in
theorem c_X10_note (l : Launch) (G : mx_G) (P : mx_P) (a0 : Nat) (p1 : Int32) (p2 : Int32) (σ : mx_S) (σ' : mx_S) (hf : f_X10_note P a0 p1 p2 σ = some σ') : mxz σ ≤ mpc P → mxu σ ≤ mps P → mx_M l yX10_note cX10_note 3 none 0 0 G P [.ref a0, .int p1, .int p2] σ none σ' := by
  intro hcap hcau
  refine mx_ofW (by decide +kernel) hcap hcau (Nat.le_of_ble_eq_true rfl) ?_
  intro p e s m below meth c hx hb hr hml hts hown hlocks hname hK hJ ls hl
  have hz0 := hJ.2.1
  have hown : s.vm.findClass RX10 = some m.cls := hown
  have hl : lv_has ls 3 [(0, .ref a0), (1, .int p1), (2, .int p2)] := hl
  have D17 : ∀  (τ : mx_S), f_X10_note_D17 P  τ = some σ' → ∀ (H : Heap) (locs : List Loc), mx_J G P s.heap (mxz σ) (mxu σ) τ H locs → ∀ ls : Array Slot, lv_has ls 3 [] → W p l e (mx_rm P 0 0 σ) s m ([.ref a0, .int p1, .int p2] : List Value).toArray below meth c H locs (mxz τ - mxz σ) (mxu τ - mxu σ) (mx_Z below G P none σ σ' [.ref a0, .int p1, .int p2] s) (F0 m 17 ls []) := by
    intro  τ hf _ _ hJ ls hl
    unfold f_X10_note_D17 at hf
    exact my_vret hx hb hr hlocks hJ hf dX10_note_17
  unfold f_X10_note at hf
  refine lv_aload_n hx hb dX10_note_0 rfl (lv_at hl 0 rfl) ?_
  obtain ⟨x1, e2, hf⟩ := mb0 hf
  refine my_gI hx hb hts hown hK hJ fd_RX10_48 hv_10_2 e2 dX10_note_1 ?_
  refine lv_if_ne (tgt := 17) hx hb dX10_note_4 (by decide) (fun c3 => ?_) (fun c3 => ?_)
  · rw [if_neg c3] at hf
    exact D17  σ hf _ _ hJ ls (lv_sub hl [] rfl)
  · rw [if_pos c3] at hf
    refine lv_aload_n hx hb dX10_note_7 rfl (lv_at hl 0 rfl) ?_
    refine lv_iload_n hx hb dX10_note_8 rfl (lv_at hl 1 rfl) ?_
    obtain ⟨σ4, e5, hf⟩ := mb0 hf
    refine my_pI hx hb hts hown hK hJ fd_RX10_48 cd_10 (Or.inl rfl) ht_10_2 e5 dX10_note_9 (fun H locs hJ => ?_)
    refine lv_aload_n hx hb dX10_note_12 rfl (lv_at hl 0 rfl) ?_
    refine lv_iload_n hx hb dX10_note_13 rfl (lv_at hl 2 rfl) ?_
    obtain ⟨σ6, e7, hf⟩ := mb0 hf
    refine my_pI hx hb hts hown hK hJ fd_RX10_51 cd_10 (Or.inl rfl) ht_10_3 e7 dX10_note_14 (fun H locs hJ => ?_)
    exact D17  σ6 hf _ _ hJ ls (lv_sub hl [] rfl)
set_option maxHeartbeats 4000000 in
set_option maxRecDepth 100000 in
theorem c_X10_fits (l : Launch) (G : mx_G) (P : mx_P) (a0 : Nat) (p1 : Int32) (σ : mx_S) (r : Int32) (σ' : mx_S) (hf : f_X10_fits P a0 p1 σ = some (r, σ')) : mxz σ ≤ mpc P → mxu σ ≤ mps P → mx_M l yX10_fits cX10_fits 2 (some .boolean) 0 0 G P [.ref a0, .int p1] σ (some (.int r)) σ' := by
  intro hcap hcau
  refine mx_ofW (by decide +kernel) hcap hcau (Nat.le_of_ble_eq_true rfl) ?_
  intro p e s m below meth c hx hb hr hml hts hown hlocks hname hK hJ ls hl
  have hz0 := hJ.2.1
  have hown : s.vm.findClass RX10 = some m.cls := hown
  have hl : lv_has ls 2 [(0, .ref a0), (1, .int p1)] := hl
  have D57 : ∀ (w0 : Int32) (τ : mx_S), f_X10_fits_D57 P w0 τ = some (r, σ') → ∀ (H : Heap) (locs : List Loc), mx_J G P s.heap (mxz σ) (mxu σ) τ H locs → ∀ ls : Array Slot, lv_has ls 2 [] → W p l e (mx_rm P 0 0 σ) s m ([.ref a0, .int p1] : List Value).toArray below meth c H locs (mxz τ - mxz σ) (mxu τ - mxu σ) (mx_Z below G P (some (.int r)) σ σ' [.ref a0, .int p1] s) (F0 m 57 ls [.int w0]) := by
    intro w0 τ hf _ _ hJ ls hl
    unfold f_X10_fits_D57 at hf
    exact mx_zret hx hb hr hlocks hJ hf dX10_fits_57
  have D44 : ∀ (v0 : Nat) (τ : mx_S), f_X10_fits_D44 P v0 τ = some (r, σ') → ∀ (H : Heap) (locs : List Loc), mx_J G P s.heap (mxz σ) (mxu σ) τ H locs → ∀ ls : Array Slot, lv_has ls 2 [(0, .ref v0)] → W p l e (mx_rm P 0 0 σ) s m ([.ref a0, .int p1] : List Value).toArray below meth c H locs (mxz τ - mxz σ) (mxu τ - mxu σ) (mx_Z below G P (some (.int r)) σ σ' [.ref a0, .int p1] s) (F0 m 44 ls []) := by
    intro v0 τ hf _ _ hJ ls hl
    unfold f_X10_fits_D44 at hf
    refine lv_aload_n hx hb dX10_fits_44 rfl (lv_at hl 0 rfl) ?_
    obtain ⟨x2, e3, hf⟩ := mb0 hf
    refine my_gI hx hb hts hown hK hJ fd_RX10_76 hv_10_5 e3 dX10_fits_45 ?_
    refine lv_iconst (v := 2) hx hb dX10_fits_48 (by decide) ?_
    refine lv_icmp_ne (tgt := 56) hx hb dX10_fits_49 (by decide) (fun c4 => ?_) (fun c4 => ?_)
    · rw [if_neg c4] at hf
      refine lv_iconst (v := 0) hx hb dX10_fits_56 (by decide) ?_
      exact D57 (0 : Int32) τ hf _ _ hJ ls (lv_sub hl [] rfl)
    · rw [if_pos c4] at hf
      refine lv_iconst (v := 1) hx hb dX10_fits_52 (by decide) ?_
      refine lv_goto (tgt := 57) hx hb dX10_fits_53 (by decide) ?_
      exact D57 (1 : Int32) τ hf _ _ hJ ls (lv_sub hl [] rfl)
  have D114 : ∀ (w0 : Int32) (τ : mx_S), f_X10_fits_D114 P w0 τ = some (r, σ') → ∀ (H : Heap) (locs : List Loc), mx_J G P s.heap (mxz σ) (mxu σ) τ H locs → ∀ ls : Array Slot, lv_has ls 2 [] → W p l e (mx_rm P 0 0 σ) s m ([.ref a0, .int p1] : List Value).toArray below meth c H locs (mxz τ - mxz σ) (mxu τ - mxu σ) (mx_Z below G P (some (.int r)) σ σ' [.ref a0, .int p1] s) (F0 m 114 ls [.int w0]) := by
    intro w0 τ hf _ _ hJ ls hl
    unfold f_X10_fits_D114 at hf
    exact mx_zret hx hb hr hlocks hJ hf dX10_fits_114
  have D109 : ∀  (τ : mx_S), f_X10_fits_D109 P  τ = some (r, σ') → ∀ (H : Heap) (locs : List Loc), mx_J G P s.heap (mxz σ) (mxu σ) τ H locs → ∀ ls : Array Slot, lv_has ls 2 [] → W p l e (mx_rm P 0 0 σ) s m ([.ref a0, .int p1] : List Value).toArray below meth c H locs (mxz τ - mxz σ) (mxu τ - mxu σ) (mx_Z below G P (some (.int r)) σ σ' [.ref a0, .int p1] s) (F0 m 109 ls []) := by
    intro  τ hf _ _ hJ ls hl
    unfold f_X10_fits_D109 at hf
    refine lv_iconst (v := 1) hx hb dX10_fits_109 (by decide) ?_
    refine lv_goto (tgt := 114) hx hb dX10_fits_110 (by decide) ?_
    exact D114 (1 : Int32) τ hf _ _ hJ ls (lv_sub hl [] rfl)
  have D90 : ∀ (w0 : Int32) (τ : mx_S), f_X10_fits_D90 P w0 τ = some (r, σ') → ∀ (H : Heap) (locs : List Loc), mx_J G P s.heap (mxz σ) (mxu σ) τ H locs → ∀ ls : Array Slot, lv_has ls 2 [] → W p l e (mx_rm P 0 0 σ) s m ([.ref a0, .int p1] : List Value).toArray below meth c H locs (mxz τ - mxz σ) (mxu τ - mxu σ) (mx_Z below G P (some (.int r)) σ σ' [.ref a0, .int p1] s) (F0 m 90 ls [.int w0]) := by
    intro w0 τ hf _ _ hJ ls hl
    unfold f_X10_fits_D90 at hf
    exact mx_zret hx hb hr hlocks hJ hf dX10_fits_90
  have D85 : ∀  (τ : mx_S), f_X10_fits_D85 P  τ = some (r, σ') → ∀ (H : Heap) (locs : List Loc), mx_J G P s.heap (mxz σ) (mxu σ) τ H locs → ∀ ls : Array Slot, lv_has ls 2 [] → W p l e (mx_rm P 0 0 σ) s m ([.ref a0, .int p1] : List Value).toArray below meth c H locs (mxz τ - mxz σ) (mxu τ - mxu σ) (mx_Z below G P (some (.int r)) σ σ' [.ref a0, .int p1] s) (F0 m 85 ls []) := by
    intro  τ hf _ _ hJ ls hl
    unfold f_X10_fits_D85 at hf
    refine lv_iconst (v := 1) hx hb dX10_fits_85 (by decide) ?_
    refine lv_goto (tgt := 90) hx hb dX10_fits_86 (by decide) ?_
    exact D90 (1 : Int32) τ hf _ _ hJ ls (lv_sub hl [] rfl)
  have D128 : ∀ (w0 : Int32) (τ : mx_S), f_X10_fits_D128 P w0 τ = some (r, σ') → ∀ (H : Heap) (locs : List Loc), mx_J G P s.heap (mxz σ) (mxu σ) τ H locs → ∀ ls : Array Slot, lv_has ls 2 [] → W p l e (mx_rm P 0 0 σ) s m ([.ref a0, .int p1] : List Value).toArray below meth c H locs (mxz τ - mxz σ) (mxu τ - mxu σ) (mx_Z below G P (some (.int r)) σ σ' [.ref a0, .int p1] s) (F0 m 128 ls [.int w0]) := by
    intro w0 τ hf _ _ hJ ls hl
    unfold f_X10_fits_D128 at hf
    exact mx_zret hx hb hr hlocks hJ hf dX10_fits_128
  unfold f_X10_fits at hf
  refine lv_iload_n hx hb dX10_fits_0 rfl (lv_at hl 1 rfl) ?_
  by_cases c1 : p1 = (67 : Int32)
  · rw [if_pos c1] at hf
    refine lv_lookup (tgt := 44) (off := 43) hx hb dX10_fits_1 (by decide) (by rw [c1] <;> decide) (by decide) ?_
    exact D44 a0 σ hf _ _ hJ ls (lv_sub hl [0] rfl)
  rw [if_neg c1] at hf
  by_cases c5 : p1 = (68 : Int32)
  · rw [if_pos c5] at hf
    refine lv_lookup (tgt := 91) (off := 90) hx hb dX10_fits_1 (by decide) (by rw [c5] <;> decide) (by decide) ?_
    refine lv_aload_n hx hb dX10_fits_91 rfl (lv_at hl 0 rfl) ?_
    obtain ⟨x6, e7, hf⟩ := mb0 hf
    refine my_gI hx hb hts hown hK hJ fd_RX10_76 hv_10_5 e7 dX10_fits_92 ?_
    refine lv_bipush (v := 43) hx hb dX10_fits_95 (by decide) ?_
    refine lv_icmp_eq (tgt := 109) hx hb dX10_fits_97 (by decide) (fun c8 => ?_) (fun c8 => ?_)
    · rw [if_pos c8] at hf
      exact D109  σ hf _ _ hJ ls (lv_sub hl [] rfl)
    · rw [if_neg c8] at hf
      refine lv_aload_n hx hb dX10_fits_100 rfl (lv_at hl 0 rfl) ?_
      obtain ⟨x9, e10, hf⟩ := mb0 hf
      refine my_gI hx hb hts hown hK hJ fd_RX10_76 hv_10_5 e10 dX10_fits_101 ?_
      refine lv_bipush (v := 45) hx hb dX10_fits_104 (by decide) ?_
      refine lv_icmp_ne (tgt := 113) hx hb dX10_fits_106 (by decide) (fun c11 => ?_) (fun c11 => ?_)
      · rw [if_neg c11] at hf
        refine lv_iconst (v := 0) hx hb dX10_fits_113 (by decide) ?_
        exact D114 (0 : Int32) σ hf _ _ hJ ls (lv_sub hl [] rfl)
      · rw [if_pos c11] at hf
        exact D109  σ hf _ _ hJ ls (lv_sub hl [] rfl)
  rw [if_neg c5] at hf
  by_cases c12 : p1 = (80 : Int32)
  · rw [if_pos c12] at hf
    refine lv_lookup (tgt := 44) (off := 43) hx hb dX10_fits_1 (by decide) (by rw [c12] <;> decide) (by decide) ?_
    exact D44 a0 σ hf _ _ hJ ls (lv_sub hl [0] rfl)
  rw [if_neg c12] at hf
  by_cases c13 : p1 = (83 : Int32)
  · rw [if_pos c13] at hf
    refine lv_lookup (tgt := 58) (off := 57) hx hb dX10_fits_1 (by decide) (by rw [c13] <;> decide) (by decide) ?_
    refine lv_aload_n hx hb dX10_fits_58 rfl (lv_at hl 0 rfl) ?_
    obtain ⟨x14, e15, hf⟩ := mb0 hf
    refine my_gI hx hb hts hown hK hJ fd_RX10_76 hv_10_5 e15 dX10_fits_59 ?_
    refine lv_bipush (v := 43) hx hb dX10_fits_62 (by decide) ?_
    refine lv_icmp_eq (tgt := 85) hx hb dX10_fits_64 (by decide) (fun c16 => ?_) (fun c16 => ?_)
    · rw [if_pos c16] at hf
      exact D85  σ hf _ _ hJ ls (lv_sub hl [] rfl)
    · rw [if_neg c16] at hf
      refine lv_aload_n hx hb dX10_fits_67 rfl (lv_at hl 0 rfl) ?_
      obtain ⟨x17, e18, hf⟩ := mb0 hf
      refine my_gI hx hb hts hown hK hJ fd_RX10_76 hv_10_5 e18 dX10_fits_68 ?_
      refine lv_bipush (v := 45) hx hb dX10_fits_71 (by decide) ?_
      refine lv_icmp_eq (tgt := 85) hx hb dX10_fits_73 (by decide) (fun c19 => ?_) (fun c19 => ?_)
      · rw [if_pos c19] at hf
        exact D85  σ hf _ _ hJ ls (lv_sub hl [] rfl)
      · rw [if_neg c19] at hf
        refine lv_aload_n hx hb dX10_fits_76 rfl (lv_at hl 0 rfl) ?_
        obtain ⟨x20, e21, hf⟩ := mb0 hf
        refine my_gI hx hb hts hown hK hJ fd_RX10_76 hv_10_5 e21 dX10_fits_77 ?_
        refine lv_bipush (v := 63) hx hb dX10_fits_80 (by decide) ?_
        refine lv_icmp_ne (tgt := 89) hx hb dX10_fits_82 (by decide) (fun c22 => ?_) (fun c22 => ?_)
        · rw [if_neg c22] at hf
          refine lv_iconst (v := 0) hx hb dX10_fits_89 (by decide) ?_
          exact D90 (0 : Int32) σ hf _ _ hJ ls (lv_sub hl [] rfl)
        · rw [if_pos c22] at hf
          exact D85  σ hf _ _ hJ ls (lv_sub hl [] rfl)
  rw [if_neg c13] at hf
  refine lv_lookup (tgt := 115) (off := 114) hx hb dX10_fits_1 (by decide) (by rw [lv_osw c1 (by decide)]; rw [lv_osw c5 (by decide)]; rw [lv_osw c12 (by decide)]; rw [lv_osw c13 (by decide)] <;> rfl) (by decide) ?_
  refine lv_aload_n hx hb dX10_fits_115 rfl (lv_at hl 0 rfl) ?_
  obtain ⟨x23, e24, hf⟩ := mb0 hf
  refine my_gI hx hb hts hown hK hJ fd_RX10_76 hv_10_5 e24 dX10_fits_116 ?_
  refine lv_iconst (v := 3) hx hb dX10_fits_119 (by decide) ?_
  refine lv_icmp_ne (tgt := 127) hx hb dX10_fits_120 (by decide) (fun c25 => ?_) (fun c25 => ?_)
  · rw [if_neg c25] at hf
    refine lv_iconst (v := 0) hx hb dX10_fits_127 (by decide) ?_
    exact D128 (0 : Int32) σ hf _ _ hJ ls (lv_sub hl [] rfl)
  · rw [if_pos c25] at hf
    refine lv_iconst (v := 1) hx hb dX10_fits_123 (by decide) ?_
    refine lv_goto (tgt := 128) hx hb dX10_fits_124 (by decide) ?_
    exact D128 (1 : Int32) σ hf _ _ hJ ls (lv_sub hl [] rfl)
set_option maxHeartbeats 4000000 in
set_option maxRecDepth 100000 in
theorem c_X10_keepPart (l : Launch) (G : mx_G) (P : mx_P) (a0 : Nat) (p1 : Int32) (σ : mx_S) (σ' : mx_S) (hf : f_X10_keepPart P a0 p1 σ = some σ') : mxz σ ≤ mpc P → mxu σ ≤ mps P → mx_M l yX10_keepPart cX10_keepPart 2 none 0 0 G P [.ref a0, .int p1] σ none σ' := by
  intro hcap hcau
  refine mx_ofW (by decide +kernel) hcap hcau (Nat.le_of_ble_eq_true rfl) ?_
  intro p e s m below meth c hx hb hr hml hts hown hlocks hname hK hJ ls hl
  have hz0 := hJ.2.1
  have hown : s.vm.findClass RX10 = some m.cls := hown
  have hl : lv_has ls 2 [(0, .ref a0), (1, .int p1)] := hl
  have D63 : ∀ (v0 : Nat) (w0 : Int32) (w1 : Int32) (w2 : Nat) (τ : mx_S), f_X10_keepPart_D63 P v0 w0 w1 w2 τ = some σ' → ∀ (H : Heap) (locs : List Loc), mx_J G P s.heap (mxz σ) (mxu σ) τ H locs → ∀ ls : Array Slot, lv_has ls 2 [(0, .ref v0)] → W p l e (mx_rm P 0 0 σ) s m ([.ref a0, .int p1] : List Value).toArray below meth c H locs (mxz τ - mxz σ) (mxu τ - mxu σ) (mx_Z below G P none σ σ' [.ref a0, .int p1] s) (F0 m 63 ls [.int w0, .int w1, .ref w2]) := by
    intro v0 w0 w1 w2 τ hf _ _ hJ ls hl
    unfold f_X10_keepPart_D63 at hf
    obtain ⟨σ32, e33, hf⟩ := mb0 hf
    refine mx_sI hx hb hK hJ e33 dX10_keepPart_63 (fun H locs hJ => ?_)
    refine lv_aload_n hx hb dX10_keepPart_64 rfl (lv_at hl 0 rfl) ?_
    obtain ⟨b34, e35, hf⟩ := mb0 hf
    refine my_gR hx hb hts hown hK hJ fd_RX10_27 hv_10_17 e35 dX10_keepPart_65 ?_
    refine lv_aload_n hx hb dX10_keepPart_68 rfl (lv_at hl 0 rfl) ?_
    obtain ⟨x36, e37, hf⟩ := mb0 hf
    refine my_gI hx hb hts hown hK hJ fd_RX10_87 hv_10_12 e37 dX10_keepPart_69 ?_
    refine lv_aload_n hx hb dX10_keepPart_72 rfl (lv_at hl 0 rfl) ?_
    obtain ⟨x38, e39, hf⟩ := mb0 hf
    refine my_gI hx hb hts hown hK hJ fd_RX10_117 hv_10_9 e39 dX10_keepPart_73 ?_
    obtain ⟨σ40, e41, hf⟩ := mb0 hf
    refine mx_sI hx hb hK hJ e41 dX10_keepPart_76 (fun H locs hJ => ?_)
    refine lv_aload_n hx hb dX10_keepPart_77 rfl (lv_at hl 0 rfl) ?_
    refine lv_dup hx hb dX10_keepPart_78 rfl ?_
    obtain ⟨x42, e43, hf⟩ := mb0 hf
    refine my_gI hx hb hts hown hK hJ fd_RX10_87 hv_10_12 e43 dX10_keepPart_79 ?_
    refine lv_iconst (v := 1) hx hb dX10_keepPart_82 (by decide) ?_
    refine lv_iadd hx hb dX10_keepPart_83 ?_
    obtain ⟨σ44, e45, hf⟩ := mb0 hf
    refine my_pI hx hb hts hown hK hJ fd_RX10_87 cd_10 (Or.inl rfl) ht_10_12 e45 dX10_keepPart_84 (fun H locs hJ => ?_)
    exact my_vret hx hb hr hlocks hJ hf dX10_keepPart_87
  unfold f_X10_keepPart at hf
  refine lv_aload_n hx hb dX10_keepPart_0 rfl (lv_at hl 0 rfl) ?_
  obtain ⟨b1, e2, hf⟩ := mb0 hf
  refine my_gR hx hb hts hown hK hJ fd_RX10_13 hv_10_13 e2 dX10_keepPart_1 ?_
  refine lv_aload_n hx hb dX10_keepPart_4 rfl (lv_at hl 0 rfl) ?_
  obtain ⟨x3, e4, hf⟩ := mb0 hf
  refine my_gI hx hb hts hown hK hJ fd_RX10_87 hv_10_12 e4 dX10_keepPart_5 ?_
  refine lv_iload_n hx hb dX10_keepPart_8 rfl (lv_at hl 1 rfl) ?_
  obtain ⟨σ5, e6, hf⟩ := mb0 hf
  refine mx_sI hx hb hK hJ e6 dX10_keepPart_9 (fun H locs hJ => ?_)
  refine lv_aload_n hx hb dX10_keepPart_10 rfl (lv_at hl 0 rfl) ?_
  obtain ⟨b7, e8, hf⟩ := mb0 hf
  refine my_gR hx hb hts hown hK hJ fd_RX10_17 hv_10_14 e8 dX10_keepPart_11 ?_
  refine lv_aload_n hx hb dX10_keepPart_14 rfl (lv_at hl 0 rfl) ?_
  obtain ⟨x9, e10, hf⟩ := mb0 hf
  refine my_gI hx hb hts hown hK hJ fd_RX10_87 hv_10_12 e10 dX10_keepPart_15 ?_
  refine lv_aload_n hx hb dX10_keepPart_18 rfl (lv_at hl 0 rfl) ?_
  obtain ⟨x11, e12, hf⟩ := mb0 hf
  refine my_gI hx hb hts hown hK hJ fd_RX10_70 hv_10_6 e12 dX10_keepPart_19 ?_
  obtain ⟨σ13, e14, hf⟩ := mb0 hf
  refine mx_sI hx hb hK hJ e14 dX10_keepPart_22 (fun H locs hJ => ?_)
  refine lv_aload_n hx hb dX10_keepPart_23 rfl (lv_at hl 0 rfl) ?_
  obtain ⟨b15, e16, hf⟩ := mb0 hf
  refine my_gR hx hb hts hown hK hJ fd_RX10_20 hv_10_15 e16 dX10_keepPart_24 ?_
  refine lv_aload_n hx hb dX10_keepPart_27 rfl (lv_at hl 0 rfl) ?_
  obtain ⟨x17, e18, hf⟩ := mb0 hf
  refine my_gI hx hb hts hown hK hJ fd_RX10_87 hv_10_12 e18 dX10_keepPart_28 ?_
  refine lv_aload_n hx hb dX10_keepPart_31 rfl (lv_at hl 0 rfl) ?_
  obtain ⟨x19, e20, hf⟩ := mb0 hf
  refine my_gL hx hb hts hown hK hJ fd_RX10_110 hv_10_7 e20 dX10_keepPart_32 ?_
  obtain ⟨σ21, e22, hf⟩ := mb0 hf
  refine mx_sL hx hb hK hJ e22 dX10_keepPart_35 (fun H locs hJ => ?_)
  refine lv_aload_n hx hb dX10_keepPart_36 rfl (lv_at hl 0 rfl) ?_
  obtain ⟨b23, e24, hf⟩ := mb0 hf
  refine my_gR hx hb hts hown hK hJ fd_RX10_24 hv_10_16 e24 dX10_keepPart_37 ?_
  refine lv_aload_n hx hb dX10_keepPart_40 rfl (lv_at hl 0 rfl) ?_
  obtain ⟨x25, e26, hf⟩ := mb0 hf
  refine my_gI hx hb hts hown hK hJ fd_RX10_87 hv_10_12 e26 dX10_keepPart_41 ?_
  refine lv_aload_n hx hb dX10_keepPart_44 rfl (lv_at hl 0 rfl) ?_
  obtain ⟨x27, e28, hf⟩ := mb0 hf
  refine my_gI hx hb hts hown hK hJ fd_RX10_76 hv_10_5 e28 dX10_keepPart_45 ?_
  refine lv_iconst (v := 3) hx hb dX10_keepPart_48 (by decide) ?_
  refine lv_icmp_ne (tgt := 59) hx hb dX10_keepPart_49 (by decide) (fun c29 => ?_) (fun c29 => ?_)
  · rw [if_neg c29] at hf
    refine lv_aload_n hx hb dX10_keepPart_59 rfl (lv_at hl 0 rfl) ?_
    obtain ⟨x30, e31, hf⟩ := mb0 hf
    refine my_gI hx hb hts hown hK hJ fd_RX10_76 hv_10_5 e31 dX10_keepPart_60 ?_
    exact D63 a0 x30 x25 b23 σ21 hf _ _ hJ ls (lv_sub hl [0] rfl)
  · rw [if_pos c29] at hf
    refine lv_aload_n hx hb dX10_keepPart_52 rfl (lv_at hl 0 rfl) ?_
    obtain ⟨x46, e47, hf⟩ := mb0 hf
    refine my_gI hx hb hts hown hK hJ fd_RX10_114 hv_10_8 e47 dX10_keepPart_53 ?_
    refine lv_goto (tgt := 63) hx hb dX10_keepPart_56 (by decide) ?_
    exact D63 a0 x46 x25 b23 σ21 hf _ _ hJ ls (lv_sub hl [0] rfl)
