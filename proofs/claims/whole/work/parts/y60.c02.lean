set_option maxHeartbeats 4000000 in
set_option maxRecDepth 100000 in
theorem c_X2_init (l : Launch) (G : mx_G) (P : mx_P) (a0 : Nat) (σ : mx_S) (σ' : mx_S) (hf : f_X2_init P a0 σ = some σ') : mxz σ ≤ mpc P → mxu σ ≤ mps P → mx_M l yX2_init cX2_init 1 none 1 12 G P [.ref a0] σ none σ' := by
  intro hcap hcau
  refine mx_ofW (by decide +kernel) hcap hcau (Nat.le_of_ble_eq_true rfl) ?_
  intro p e s m below meth c hx hb hr hml hts hown hlocks hname hK hJ ls hl
  have hz0 := hJ.2.1
  have hown : s.vm.findClass RX2 = some m.cls := hown
  have hl : lv_has ls 1 [(0, .ref a0)] := hl
  unfold f_X2_init at hf
  refine lv_aload_n hx hb dX2_init_0 rfl (lv_at hl 0 rfl) ?_
  refine W.objInit hx hb hown (hts _ kw_292) (hts _ kw_35) (hts _ kw_36) rfl (by rw [hml]; exact hl.1) rfl dX2_init_1 (Nat.le_of_ble_eq_true rfl) (Nat.le_of_ble_eq_true rfl) ?_
  refine W.eq (g2 := F0 m 4 ls []) rfl ?_
  refine lv_aload_n hx hb dX2_init_4 rfl (lv_at hl 0 rfl) ?_
  refine lv_sipush (v := 300) hx hb dX2_init_5 (by decide) ?_
  obtain ⟨b1, σ2, e3, hf⟩ := mc0 hf
  refine mx_nA hx hb hts hK hJ rfl rfl (t := 0) (by decide) rfl (fun _ h => h) (by decide) rfl e3 kw_137 dX2_init_8 (fun H locs hJ => ?_)
  obtain ⟨σ4, e5, hf⟩ := mb0 hf
  refine my_pR hx hb hts hown hK hJ fd_RX2_9 cd_2 (Or.inr ⟨rfl, hname, rfl⟩) ft_2_2 e5 dX2_init_10 (fun H locs hJ => ?_)
  refine lv_aload_n hx hb dX2_init_13 rfl (lv_at hl 0 rfl) ?_
  refine lv_bipush (v := 40) hx hb dX2_init_14 (by decide) ?_
  obtain ⟨b6, σ7, e8, hf⟩ := mc0 hf
  refine mx_nA hx hb hts hK hJ rfl rfl (t := 0) (by decide) rfl (fun _ h => h) (by decide) rfl e8 kw_137 dX2_init_16 (fun H locs hJ => ?_)
  obtain ⟨σ9, e10, hf⟩ := mb0 hf
  refine my_pR hx hb hts hown hK hJ fd_RX2_13 cd_2 (Or.inr ⟨rfl, hname, rfl⟩) ft_2_5 e10 dX2_init_18 (fun H locs hJ => ?_)
  refine lv_aload_n hx hb dX2_init_21 rfl (lv_at hl 0 rfl) ?_
  refine lv_bipush (v := 40) hx hb dX2_init_22 (by decide) ?_
  obtain ⟨b11, σ12, e13, hf⟩ := mc0 hf
  refine mx_nA hx hb hts hK hJ rfl rfl (t := 0) (by decide) rfl (fun _ h => h) (by decide) rfl e13 kw_137 dX2_init_24 (fun H locs hJ => ?_)
  obtain ⟨σ14, e15, hf⟩ := mb0 hf
  refine my_pR hx hb hts hown hK hJ fd_RX2_16 cd_2 (Or.inr ⟨rfl, hname, rfl⟩) ft_2_6 e15 dX2_init_26 (fun H locs hJ => ?_)
  refine lv_aload_n hx hb dX2_init_29 rfl (lv_at hl 0 rfl) ?_
  refine lv_bipush (v := 40) hx hb dX2_init_30 (by decide) ?_
  obtain ⟨b16, σ17, e18, hf⟩ := mc0 hf
  refine mx_nA hx hb hts hK hJ rfl rfl (t := 0) (by decide) rfl (fun _ h => h) (by decide) rfl e18 kw_137 dX2_init_32 (fun H locs hJ => ?_)
  obtain ⟨σ19, e20, hf⟩ := mb0 hf
  refine my_pR hx hb hts hown hK hJ fd_RX2_19 cd_2 (Or.inr ⟨rfl, hname, rfl⟩) ft_2_7 e20 dX2_init_34 (fun H locs hJ => ?_)
  refine lv_aload_n hx hb dX2_init_37 rfl (lv_at hl 0 rfl) ?_
  refine lv_bipush (v := 40) hx hb dX2_init_38 (by decide) ?_
  obtain ⟨b21, σ22, e23, hf⟩ := mc0 hf
  refine mx_nA hx hb hts hK hJ rfl rfl (t := 0) (by decide) rfl (fun _ h => h) (by decide) rfl e23 kw_137 dX2_init_40 (fun H locs hJ => ?_)
  obtain ⟨σ24, e25, hf⟩ := mb0 hf
  refine my_pR hx hb hts hown hK hJ fd_RX2_22 cd_2 (Or.inr ⟨rfl, hname, rfl⟩) ft_2_8 e25 dX2_init_42 (fun H locs hJ => ?_)
  refine lv_aload_n hx hb dX2_init_45 rfl (lv_at hl 0 rfl) ?_
  refine lv_bipush (v := 40) hx hb dX2_init_46 (by decide) ?_
  obtain ⟨b26, σ27, e28, hf⟩ := mc0 hf
  refine mx_nA hx hb hts hK hJ rfl rfl (t := 3) (by decide) rfl (fun _ h => h) (by decide) rfl e28 kw_330 dX2_init_48 (fun H locs hJ => ?_)
  obtain ⟨σ29, e30, hf⟩ := mb0 hf
  refine my_pR hx hb hts hown hK hJ fd_RX2_25 cd_2 (Or.inr ⟨rfl, hname, rfl⟩) ft_2_9 e30 dX2_init_50 (fun H locs hJ => ?_)
  refine lv_aload_n hx hb dX2_init_53 rfl (lv_at hl 0 rfl) ?_
  refine lv_bipush (v := 40) hx hb dX2_init_54 (by decide) ?_
  obtain ⟨b31, σ32, e33, hf⟩ := mc0 hf
  refine mx_nA hx hb hts hK hJ rfl rfl (t := 1) (by decide) rfl (fun _ h => h) (by decide) rfl e33 kw_138 dX2_init_56 (fun H locs hJ => ?_)
  obtain ⟨σ34, e35, hf⟩ := mb0 hf
  refine my_pR hx hb hts hown hK hJ fd_RX2_29 cd_2 (Or.inr ⟨rfl, hname, rfl⟩) ft_2_10 e35 dX2_init_58 (fun H locs hJ => ?_)
  exact my_vret hx hb hr hlocks hJ hf dX2_init_61
set_option maxHeartbeats 4000000 in
set_option maxRecDepth 100000 in
theorem c_J9_min_7cf53 (l : Launch) (G : mx_G) (P : mx_P) (p0 : Int32) (p1 : Int32) (σ : mx_S) (r : Int32) (σ' : mx_S) (hf : f_J9_min_7cf53 P p0 p1 σ = some (r, σ')) : mxz σ ≤ mpc P → mxu σ ≤ mps P → mx_M l yJ9_min_7cf53 cJ9_min_7cf53 2 (some .int) 0 0 G P [.int p0, .int p1] σ (some (.int r)) σ' := by
  intro hcap hcau
  refine mx_ofW (by decide +kernel) hcap hcau (Nat.le_of_ble_eq_true rfl) ?_
  intro p e s m below meth c hx hb hr hml hts hown hlocks hname hK hJ ls hl
  have hz0 := hJ.2.1
  have hown : s.vm.findClass RJ9 = some m.cls := hown
  have hl : lv_has ls 2 [(0, .int p0), (1, .int p1)] := hl
  have D10 : ∀ (w0 : Int32) (τ : mx_S), f_J9_min_7cf53_D10 P w0 τ = some (r, σ') → ∀ (H : Heap) (locs : List Loc), mx_J G P s.heap (mxz σ) (mxu σ) τ H locs → ∀ ls : Array Slot, lv_has ls 2 [] → W p l e (mx_rm P 0 0 σ) s m ([.int p0, .int p1] : List Value).toArray below meth c H locs (mxz τ - mxz σ) (mxu τ - mxu σ) (mx_Z below G P (some (.int r)) σ σ' [.int p0, .int p1] s) (F0 m 10 ls [.int w0]) := by
    intro w0 τ hf _ _ hJ ls hl
    unfold f_J9_min_7cf53_D10 at hf
    exact my_iret hx hb hr hlocks hJ hf dJ9_min_7cf53_10
  unfold f_J9_min_7cf53 at hf
  refine lv_iload_n hx hb dJ9_min_7cf53_0 rfl (lv_at hl 0 rfl) ?_
  refine lv_iload_n hx hb dJ9_min_7cf53_1 rfl (lv_at hl 1 rfl) ?_
  refine lv_icmp_gt (tgt := 9) hx hb dJ9_min_7cf53_2 (by decide) (fun c1 => ?_) (fun c1 => ?_)
  · rw [if_pos c1] at hf
    refine lv_iload_n hx hb dJ9_min_7cf53_9 rfl (lv_at hl 1 rfl) ?_
    exact D10 p1 σ hf _ _ hJ ls (lv_sub hl [] rfl)
  · rw [if_neg c1] at hf
    refine lv_iload_n hx hb dJ9_min_7cf53_5 rfl (lv_at hl 0 rfl) ?_
    refine lv_goto (tgt := 10) hx hb dJ9_min_7cf53_6 (by decide) ?_
    exact D10 p0 σ hf _ _ hJ ls (lv_sub hl [] rfl)
set_option maxHeartbeats 4000000 in
set_option maxRecDepth 100000 in
theorem c_X2_keptEvents (l : Launch) (G : mx_G) (P : mx_P) (a0 : Nat) (σ : mx_S) (r : Int32) (σ' : mx_S) (hf : f_X2_keptEvents P a0 σ = some (r, σ')) : mxz σ ≤ mpc P → mxu σ ≤ mps P → mx_M l yX2_keptEvents cX2_keptEvents 1 (some .int) 1 21 G P [.ref a0] σ (some (.int r)) σ' := by
  intro hcap hcau
  refine mx_ofW (by decide +kernel) hcap hcau (Nat.le_of_ble_eq_true rfl) ?_
  intro p e s m below meth c hx hb hr hml hts hown hlocks hname hK hJ ls hl
  have hz0 := hJ.2.1
  have hown : s.vm.findClass RX2 = some m.cls := hown
  have hl : lv_has ls 1 [(0, .ref a0)] := hl
  unfold f_X2_keptEvents at hf
  refine lv_aload_n hx hb dX2_keptEvents_0 rfl (lv_at hl 0 rfl) ?_
  obtain ⟨x1, e2, hf⟩ := mb0 hf
  refine my_gI hx hb hts hown hK hJ fd_RX2_33 hv_2_1 e2 dX2_keptEvents_1 ?_
  refine lv_bipush (v := 100) hx hb dX2_keptEvents_4 (by decide) ?_
  obtain ⟨x4, σ3, e5, hf⟩ := mc0 hf
  refine mx_callS (As := [.int x1, .int (100 : Int32)]) (rest := []) hx hb hml hts hown hK hJ rfl rfl (c_J9_min_7cf53 l G P x1 (100 : Int32) σ x4 σ3 e5) me_J9_min_7cf53 kw_1504 kw_1856 (Nat.le_of_ble_eq_true rfl) (Nat.le_of_ble_eq_true rfl) rfl hl.1 rfl (Nat.le_of_ble_eq_true rfl) dX2_keptEvents_6 (fun H locs hJ => ?_)
  exact my_iret hx hb hr hlocks hJ hf dX2_keptEvents_9
set_option maxHeartbeats 4000000 in
set_option maxRecDepth 100000 in
theorem c_X7_numberOf (l : Launch) (G : mx_G) (P : mx_P) (a0 : Nat) (p1 : Int64) (σ : mx_S) (r : Int32) (σ' : mx_S) (hf : f_X7_numberOf P a0 p1 σ = some (r, σ')) : mxz σ ≤ mpc P → mxu σ ≤ mps P → mx_M l yX7_numberOf cX7_numberOf 4 (some .int) 0 0 G P [.ref a0, .long p1] σ (some (.int r)) σ' := by
  intro hcap hcau
  refine mx_ofW (by decide +kernel) hcap hcau (Nat.le_of_ble_eq_true rfl) ?_
  intro p e s m below meth c hx hb hr hml hts hown hlocks hname hK hJ ls hl
  have hz0 := hJ.2.1
  have hown : s.vm.findClass RX7 = some m.cls := hown
  have hl : lv_has ls 4 [(0, .ref a0), (1, .long p1)] := hl
  have B2 : ∀ (v0 : Nat) (v1 : Int64) (v3 : Int32) (τ : mx_S) (o : (Int32 × mx_S) ⊕ ((Int32 × mx_S) ⊕ (mx_S))), f_X7_numberOf_B2 P v0 v1 v3 τ = some o → (∀ (y3 : Int32) (υ : mx_S), o = .inl (y3, υ) → ∀ (H : Heap) (locs : List Loc), mx_J G P s.heap (mxz σ) (mxu σ) υ H locs → ∀ ls : Array Slot, lv_has ls 4 [(0, .ref v0), (1, .long v1), (3, .int y3)] → W p l e (mx_rm P 0 0 σ) s m ([.ref a0, .long p1] : List Value).toArray below meth c H locs (mxz υ - mxz σ) (mxu υ - mxu σ) (mx_Z below G P (some (.int r)) σ σ' [.ref a0, .long p1] s) (F0 m 2 ls [])) → (∀ (y3 : Int32) (υ : mx_S), o = .inr (.inl (y3, υ)) → ∀ (H : Heap) (locs : List Loc), mx_J G P s.heap (mxz σ) (mxu σ) υ H locs → ∀ ls : Array Slot, lv_has ls 4 [(3, .int y3)] → W p l e (mx_rm P 0 0 σ) s m ([.ref a0, .long p1] : List Value).toArray below meth c H locs (mxz υ - mxz σ) (mxu υ - mxu σ) (mx_Z below G P (some (.int r)) σ σ' [.ref a0, .long p1] s) (F0 m 24 ls [])) → (∀  (υ : mx_S), o = .inr (.inr υ) → ∀ (H : Heap) (locs : List Loc), mx_J G P s.heap (mxz σ) (mxu σ) υ H locs → ∀ ls : Array Slot, lv_has ls 4 [] → W p l e (mx_rm P 0 0 σ) s m ([.ref a0, .long p1] : List Value).toArray below meth c H locs (mxz υ - mxz σ) (mxu υ - mxu σ) (mx_Z below G P (some (.int r)) σ σ' [.ref a0, .long p1] s) (F0 m 32 ls [])) → ∀ (H : Heap) (locs : List Loc), mx_J G P s.heap (mxz σ) (mxu σ) τ H locs → ∀ ls : Array Slot, lv_has ls 4 [(0, .ref v0), (1, .long v1), (3, .int v3)] → W p l e (mx_rm P 0 0 σ) s m ([.ref a0, .long p1] : List Value).toArray below meth c H locs (mxz τ - mxz σ) (mxu τ - mxu σ) (mx_Z below G P (some (.int r)) σ σ' [.ref a0, .long p1] s) (F0 m 2 ls []) := by
    intro v0 v1 v3 τ o hf Kb Ke0 Ke1 H locs hJ ls hl
    unfold f_X7_numberOf_B2 at hf
    refine lv_iload_n hx hb dX7_numberOf_2 rfl (lv_at hl 2 rfl) ?_
    refine lv_aload_n hx hb dX7_numberOf_3 rfl (lv_at hl 0 rfl) ?_
    obtain ⟨x1, e2, hf⟩ := mb0 hf
    refine my_gI hx hb hts hown hK hJ fd_RX7_77 hv_7_2 e2 dX7_numberOf_4 ?_
    refine lv_icmp_ge (tgt := 32) hx hb dX7_numberOf_7 (by decide) (fun c3 => ?_) (fun c3 => ?_)
    · rw [if_pos c3] at hf
      exact Ke1 τ (Option.some.inj hf).symm _ _ hJ ls (lv_sub hl [] rfl)
    · rw [if_neg c3] at hf
      refine lv_aload_n hx hb dX7_numberOf_10 rfl (lv_at hl 0 rfl) ?_
      obtain ⟨b4, e5, hf⟩ := mb0 hf
      refine my_gR hx hb hts hown hK hJ fd_RX7_11 hv_7_0 e5 dX7_numberOf_11 ?_
      refine lv_iload_n hx hb dX7_numberOf_14 rfl (lv_at hl 2 rfl) ?_
      obtain ⟨b6, e7, hf⟩ := mb0 hf
      refine mx_aR hx hb hK hJ (t := 4) rfl (fun _ _ _ => rfl) e7 dX7_numberOf_15 ?_
      obtain ⟨x8, e9, hf⟩ := mb0 hf
      refine my_gL hx hb hts hown hK hJ fd_RX7_176 hv_5_0 e9 dX7_numberOf_16 ?_
      refine lv_lload_n hx hb dX7_numberOf_19 rfl (lv_at hl 1 rfl) ?_
      refine W.lcmp hx hb dX7_numberOf_20 ?_
      refine lv_if_ne (tgt := 26) hx hb dX7_numberOf_21 (by decide) (fun c10 => ?_) (fun c10 => ?_)
      · rw [if_neg c10] at hf
        obtain ⟨x11, e12, hf⟩ := mb0 hf
        refine lv_iinc (v := x11) (lv' := [(3, .int x11), (0, .ref v0), (1, .long v1)]) hx hb dX7_numberOf_26 hl (k := 2) rfl (by rw [← Option.some.inj e12]; rfl) (by decide) rfl (fun ls hl => ?_)
        refine lv_goto (tgt := 2) hx hb dX7_numberOf_29 (by decide) ?_
        exact Kb x11 τ (Option.some.inj hf).symm _ _ hJ ls (lv_sub hl [1, 2, 0] rfl)
      · rw [if_pos c10] at hf
        exact Ke0 v3 τ (Option.some.inj hf).symm _ _ hJ ls (lv_sub hl [2] rfl)
  have L2 : ∀ (v0 : Nat) (v1 : Int64) (n : Nat) (v3 : Int32) (τ : mx_S) (o : (Int32 × mx_S) ⊕ (mx_S)), mx_lp (f_X7_numberOf_L2 P v0 v1) n (v3, τ) = some o → (∀ (y3 : Int32) (υ : mx_S), o = (.inl (y3, υ)) → ∀ (H : Heap) (locs : List Loc), mx_J G P s.heap (mxz σ) (mxu σ) υ H locs → ∀ ls : Array Slot, lv_has ls 4 [(3, .int y3)] → W p l e (mx_rm P 0 0 σ) s m ([.ref a0, .long p1] : List Value).toArray below meth c H locs (mxz υ - mxz σ) (mxu υ - mxu σ) (mx_Z below G P (some (.int r)) σ σ' [.ref a0, .long p1] s) (F0 m 24 ls [])) → (∀  (υ : mx_S), o = (.inr υ) → ∀ (H : Heap) (locs : List Loc), mx_J G P s.heap (mxz σ) (mxu σ) υ H locs → ∀ ls : Array Slot, lv_has ls 4 [] → W p l e (mx_rm P 0 0 σ) s m ([.ref a0, .long p1] : List Value).toArray below meth c H locs (mxz υ - mxz σ) (mxu υ - mxu σ) (mx_Z below G P (some (.int r)) σ σ' [.ref a0, .long p1] s) (F0 m 32 ls [])) → ∀ (H : Heap) (locs : List Loc), mx_J G P s.heap (mxz σ) (mxu σ) τ H locs → ∀ ls : Array Slot, lv_has ls 4 [(0, .ref v0), (1, .long v1), (3, .int v3)] → W p l e (mx_rm P 0 0 σ) s m ([.ref a0, .long p1] : List Value).toArray below meth c H locs (mxz τ - mxz σ) (mxu τ - mxu σ) (mx_Z below G P (some (.int r)) σ σ' [.ref a0, .long p1] s) (F0 m 2 ls []) := by
    intro v0 v1 n
    induction n with
    | zero =>
      intro v3 τ o hf
      rw [mx_lp0] at hf
      cases hf
    | succ n ih =>
      intro v3 τ o hf Ke0 Ke1 H locs hJ ls hl
      rw [mx_lpS] at hf
      obtain ⟨b, eb, hf⟩ := mb0 hf
      refine B2 v0 v1 v3 τ b eb (fun y3 υ ho H locs hJ ls hl => ?_) (fun y3 υ ho H locs hJ ls hl => ?_) (fun  υ ho H locs hJ ls hl => ?_) H locs hJ ls hl
      · subst ho
        exact ih y3 υ o hf Ke0 Ke1 H locs hJ ls hl
      · subst ho
        exact Ke0 y3 υ (Option.some.inj hf).symm _ _ hJ ls hl
      · subst ho
        exact Ke1  υ (Option.some.inj hf).symm _ _ hJ ls hl
  unfold f_X7_numberOf at hf
  refine lv_iconst (v := 0) hx hb dX7_numberOf_0 (by decide) ?_
  refine lv_istore_n (lv' := [(3, .int (0 : Int32)), (0, .ref a0), (1, .long p1)]) hx hb dX7_numberOf_1 rfl hl (by decide) rfl (fun ls hl => ?_)
  obtain ⟨o13, e14, hf⟩ := mb0 hf
  refine L2 a0 p1 (mpN P) (0 : Int32) σ o13 e14 (fun y15 σ16 ho H locs hJ ls hl => ?_) (fun σ17 ho H locs hJ ls hl => ?_) _ _ hJ ls (lv_sub hl [1, 2, 0] rfl)
  · rw [ho] at hf
    have hf : (some (y15, σ16)) = some (r, σ') := hf
    refine lv_iload_n hx hb dX7_numberOf_24 rfl (lv_at hl 0 rfl) ?_
    exact my_iret hx hb hr hlocks hJ hf dX7_numberOf_25
  · rw [ho] at hf
    have hf : (some ((-1 : Int32), σ17)) = some (r, σ') := hf
    refine lv_iconst (v := (-1)) hx hb dX7_numberOf_32 (by decide) ?_
    exact my_iret hx hb hr hlocks hJ hf dX7_numberOf_33
set_option maxHeartbeats 4000000 in
set_option maxRecDepth 100000 in
theorem c_X2_takeGoal (l : Launch) (G : mx_G) (P : mx_P) (a0 : Nat) (a1 : Nat) (a2 : Nat) (p3 : Int32) (σ : mx_S) (σ' : mx_S) (hf : f_X2_takeGoal P a0 a1 a2 p3 σ = some σ') : mxz σ ≤ mpc P → mxu σ ≤ mps P → mx_M l yX2_takeGoal cX2_takeGoal 4 none 1 25 G P [.ref a0, .ref a1, .ref a2, .int p3] σ none σ' := by
  intro hcap hcau
  refine mx_ofW (by decide +kernel) hcap hcau (Nat.le_of_ble_eq_true rfl) ?_
  intro p e s m below meth c hx hb hr hml hts hown hlocks hname hK hJ ls hl
  have hz0 := hJ.2.1
  have hown : s.vm.findClass RX2 = some m.cls := hown
  have hl : lv_has ls 4 [(0, .ref a0), (1, .ref a1), (2, .ref a2), (3, .int p3)] := hl
  have D74 : ∀  (τ : mx_S), f_X2_takeGoal_D74 P  τ = some σ' → ∀ (H : Heap) (locs : List Loc), mx_J G P s.heap (mxz σ) (mxu σ) τ H locs → ∀ ls : Array Slot, lv_has ls 4 [] → W p l e (mx_rm P 1 25 σ) s m ([.ref a0, .ref a1, .ref a2, .int p3] : List Value).toArray below meth c H locs (mxz τ - mxz σ) (mxu τ - mxu σ) (mx_Z below G P none σ σ' [.ref a0, .ref a1, .ref a2, .int p3] s) (F0 m 74 ls []) := by
    intro  τ hf _ _ hJ ls hl
    unfold f_X2_takeGoal_D74 at hf
    exact my_vret hx hb hr hlocks hJ hf dX2_takeGoal_74
  have D37 : ∀ (v0 : Nat) (v1 : Nat) (v3 : Int32) (w0 : Int32) (w1 : Int32) (w2 : Nat) (τ : mx_S), f_X2_takeGoal_D37 P v0 v1 v3 w0 w1 w2 τ = some σ' → ∀ (H : Heap) (locs : List Loc), mx_J G P s.heap (mxz σ) (mxu σ) τ H locs → ∀ ls : Array Slot, lv_has ls 4 [(0, .ref v0), (1, .ref v1), (3, .int v3)] → W p l e (mx_rm P 1 25 σ) s m ([.ref a0, .ref a1, .ref a2, .int p3] : List Value).toArray below meth c H locs (mxz τ - mxz σ) (mxu τ - mxu σ) (mx_Z below G P none σ σ' [.ref a0, .ref a1, .ref a2, .int p3] s) (F0 m 37 ls [.int w0, .int w1, .ref w2]) := by
    intro v0 v1 v3 w0 w1 w2 τ hf _ _ hJ ls hl
    unfold f_X2_takeGoal_D37 at hf
    obtain ⟨σ21, e22, hf⟩ := mb0 hf
    refine mx_sZ hx hb hK hJ e22 dX2_takeGoal_37 (fun H locs hJ => ?_)
    refine lv_aload_n hx hb dX2_takeGoal_38 rfl (lv_at hl 1 rfl) ?_
    obtain ⟨b23, e24, hf⟩ := mb0 hf
    refine my_gR hx hb hts hown hK hJ fd_RX2_107 hv_10_17 e24 dX2_takeGoal_39 ?_
    refine lv_iconst (v := 4) hx hb dX2_takeGoal_42 (by decide) ?_
    obtain ⟨x25, e26, hf⟩ := mb0 hf
    refine mx_aI hx hb hK hJ e26 dX2_takeGoal_43 ?_
    refine lv_if_le (tgt := 74) hx hb dX2_takeGoal_44 (by decide) (fun c27 => ?_) (fun c27 => ?_)
    · rw [if_pos c27] at hf
      exact D74  σ21 hf _ _ hJ ls (lv_sub hl [] rfl)
    · rw [if_neg c27] at hf
      refine lv_aload_n hx hb dX2_takeGoal_47 rfl (lv_at hl 0 rfl) ?_
      obtain ⟨b28, e29, hf⟩ := mb0 hf
      refine my_gR hx hb hts hown hK hJ fd_RX2_29 hv_2_10 e29 dX2_takeGoal_48 ?_
      refine lv_iload_n hx hb dX2_takeGoal_51 rfl (lv_at hl 2 rfl) ?_
      refine lv_ldc2 hx hb hown (hts _ kw_1824) dX2_takeGoal_52 ?_
      refine lv_aload_n hx hb dX2_takeGoal_55 rfl (lv_at hl 1 rfl) ?_
      obtain ⟨b30, e31, hf⟩ := mb0 hf
      refine my_gR hx hb hts hown hK hJ fd_RX2_104 hv_10_16 e31 dX2_takeGoal_56 ?_
      refine lv_iconst (v := 4) hx hb dX2_takeGoal_59 (by decide) ?_
      obtain ⟨x32, e33, hf⟩ := mb0 hf
      refine mx_aI hx hb hK hJ e33 dX2_takeGoal_60 ?_
      refine lv_i2l hx hb dX2_takeGoal_61 rfl ?_
      refine lv_lmul hx hb dX2_takeGoal_62 ?_
      refine lv_aload_n hx hb dX2_takeGoal_63 rfl (lv_at hl 1 rfl) ?_
      obtain ⟨b34, e35, hf⟩ := mb0 hf
      refine my_gR hx hb hts hown hK hJ fd_RX2_107 hv_10_17 e35 dX2_takeGoal_64 ?_
      refine lv_iconst (v := 4) hx hb dX2_takeGoal_67 (by decide) ?_
      obtain ⟨x36, e37, hf⟩ := mb0 hf
      refine mx_aI hx hb hK hJ e37 dX2_takeGoal_68 ?_
      refine lv_i2l hx hb dX2_takeGoal_69 rfl ?_
      obtain ⟨x39, σ38, e40, hf⟩ := mc0 hf
      refine mx_callS (As := [.long ((65536 : Int64) * (x32.toInt64)), .long (x36.toInt64)]) (rest := [.int v3, .ref b28]) hx hb hml hts hown hK hJ rfl rfl (c_J9_floorDiv_f86c9 l G P ((65536 : Int64) * (x32.toInt64)) (x36.toInt64) σ21 x39 σ38 e40) me_J9_floorDiv_f86c9 kw_756 kw_1825 (Nat.le_of_ble_eq_true rfl) (Nat.le_of_ble_eq_true rfl) rfl hl.1 rfl (Nat.le_of_ble_eq_true rfl) dX2_takeGoal_70 (fun H locs hJ => ?_)
      obtain ⟨σ41, e42, hf⟩ := mb0 hf
      refine mx_sL hx hb hK hJ e42 dX2_takeGoal_73 (fun H locs hJ => ?_)
      exact D74  σ41 hf _ _ hJ ls (lv_sub hl [] rfl)
  unfold f_X2_takeGoal at hf
  refine lv_aload_n hx hb dX2_takeGoal_0 rfl (lv_at hl 0 rfl) ?_
  obtain ⟨b1, e2, hf⟩ := mb0 hf
  refine my_gR hx hb hts hown hK hJ fd_RX2_22 hv_2_8 e2 dX2_takeGoal_1 ?_
  refine lv_iload_n hx hb dX2_takeGoal_4 rfl (lv_at hl 3 rfl) ?_
  refine lv_aload_n hx hb dX2_takeGoal_5 rfl (lv_at hl 2 rfl) ?_
  refine lv_aload_n hx hb dX2_takeGoal_6 rfl (lv_at hl 1 rfl) ?_
  obtain ⟨b3, e4, hf⟩ := mb0 hf
  refine my_gR hx hb hts hown hK hJ fd_RX2_77 hv_10_15 e4 dX2_takeGoal_7 ?_
  refine lv_iconst (v := 2) hx hb dX2_takeGoal_10 (by decide) ?_
  obtain ⟨x5, e6, hf⟩ := mb0 hf
  refine mx_aL hx hb hK hJ e6 dX2_takeGoal_11 ?_
  obtain ⟨i7, e8, hf⟩ := mb0 hf
  obtain ⟨x10, σ9, e11, hf⟩ := mc0 hf
  refine mx_callV (As := [.long x5]) (rest := [.int p3, .ref b1]) hx hb hml hts hown hK hJ rfl rfl (ci := 7) rfl e8 (c_X7_numberOf l G P a2 x5 σ x10 σ9 e11) me_X7_numberOf kw_643 kw_644 kw_1817 (Nat.le_of_ble_eq_true rfl) (Nat.le_of_ble_eq_true rfl) rfl hl.1 rfl (Nat.le_of_ble_eq_true rfl) dX2_takeGoal_12 (fun H locs hJ => ?_)
  obtain ⟨σ12, e13, hf⟩ := mb0 hf
  refine mx_sI hx hb hK hJ e13 dX2_takeGoal_15 (fun H locs hJ => ?_)
  refine lv_aload_n hx hb dX2_takeGoal_16 rfl (lv_at hl 0 rfl) ?_
  obtain ⟨b14, e15, hf⟩ := mb0 hf
  refine my_gR hx hb hts hown hK hJ fd_RX2_25 hv_2_9 e15 dX2_takeGoal_17 ?_
  refine lv_iload_n hx hb dX2_takeGoal_20 rfl (lv_at hl 3 rfl) ?_
  refine lv_aload_n hx hb dX2_takeGoal_21 rfl (lv_at hl 1 rfl) ?_
  obtain ⟨b16, e17, hf⟩ := mb0 hf
  refine my_gR hx hb hts hown hK hJ fd_RX2_104 hv_10_16 e17 dX2_takeGoal_22 ?_
  refine lv_iconst (v := 3) hx hb dX2_takeGoal_25 (by decide) ?_
  obtain ⟨x18, e19, hf⟩ := mb0 hf
  refine mx_aI hx hb hK hJ e19 dX2_takeGoal_26 ?_
  refine lv_bipush (v := 45) hx hb dX2_takeGoal_27 (by decide) ?_
  refine lv_icmp_ne (tgt := 36) hx hb dX2_takeGoal_29 (by decide) (fun c20 => ?_) (fun c20 => ?_)
  · rw [if_neg c20] at hf
    refine lv_iconst (v := 0) hx hb dX2_takeGoal_36 (by decide) ?_
    exact D37 a0 a1 p3 (0 : Int32) p3 b14 σ12 hf _ _ hJ ls (lv_sub hl [0, 1, 3] rfl)
  · rw [if_pos c20] at hf
    refine lv_iconst (v := 1) hx hb dX2_takeGoal_32 (by decide) ?_
    refine lv_goto (tgt := 37) hx hb dX2_takeGoal_33 (by decide) ?_
    exact D37 a0 a1 p3 (1 : Int32) p3 b14 σ12 hf _ _ hJ ls (lv_sub hl [0, 1, 3] rfl)
set_option maxHeartbeats 4000000 in
set_option maxRecDepth 100000 in
theorem c_X2_isTaken (l : Launch) (G : mx_G) (P : mx_P) (a0 : Nat) (a1 : Nat) (a2 : Nat) (p3 : Int32) (σ : mx_S) (r : Int32) (σ' : mx_S) (hf : f_X2_isTaken P a0 a1 a2 p3 σ = some (r, σ')) : mxz σ ≤ mpc P → mxu σ ≤ mps P → mx_M l yX2_isTaken cX2_isTaken 5 (some .boolean) 3 66 G P [.ref a0, .ref a1, .ref a2, .int p3] σ (some (.int r)) σ' := by
  intro hcap hcau
  refine mx_ofW (by decide +kernel) hcap hcau (Nat.le_of_ble_eq_true rfl) ?_
  intro p e s m below meth c hx hb hr hml hts hown hlocks hname hK hJ ls hl
  have hz0 := hJ.2.1
  have hown : s.vm.findClass RX2 = some m.cls := hown
  have hl : lv_has ls 5 [(0, .ref a0), (1, .ref a1), (2, .ref a2), (3, .int p3)] := hl
  have D92_21 : ∀ (v0 : Nat) (v1 : Nat) (v2 : Nat) (v3 : Int32) (v4 : Int32) (τ : mx_S) (o : (Int32 × mx_S) ⊕ ((mx_S))), f_X2_isTaken_D92_21 P v0 v1 v2 v3 v4 τ = some o → (∀ (y4 : Int32) (υ : mx_S), o = .inl (y4, υ) → ∀ (H : Heap) (locs : List Loc), mx_J G P s.heap (mxz σ) (mxu σ) υ H locs → ∀ ls : Array Slot, lv_has ls 5 [(0, .ref v0), (1, .ref v1), (2, .ref v2), (3, .int v3), (4, .int y4)] → W p l e (mx_rm P 3 66 σ) s m ([.ref a0, .ref a1, .ref a2, .int p3] : List Value).toArray below meth c H locs (mxz υ - mxz σ) (mxu υ - mxu σ) (mx_Z below G P (some (.int r)) σ σ' [.ref a0, .ref a1, .ref a2, .int p3] s) (F0 m 21 ls [])) → (∀  (υ : mx_S), o = .inr υ → ∀ (H : Heap) (locs : List Loc), mx_J G P s.heap (mxz σ) (mxu σ) υ H locs → ∀ ls : Array Slot, lv_has ls 5 [(0, .ref v0), (1, .ref v1), (2, .ref v2), (3, .int v3)] → W p l e (mx_rm P 3 66 σ) s m ([.ref a0, .ref a1, .ref a2, .int p3] : List Value).toArray below meth c H locs (mxz υ - mxz σ) (mxu υ - mxu σ) (mx_Z below G P (some (.int r)) σ σ' [.ref a0, .ref a1, .ref a2, .int p3] s) (F0 m 98 ls [])) → ∀ (H : Heap) (locs : List Loc), mx_J G P s.heap (mxz σ) (mxu σ) τ H locs → ∀ ls : Array Slot, lv_has ls 5 [(0, .ref v0), (1, .ref v1), (2, .ref v2), (3, .int v3), (4, .int v4)] → W p l e (mx_rm P 3 66 σ) s m ([.ref a0, .ref a1, .ref a2, .int p3] : List Value).toArray below meth c H locs (mxz τ - mxz σ) (mxu τ - mxu σ) (mx_Z below G P (some (.int r)) σ σ' [.ref a0, .ref a1, .ref a2, .int p3] s) (F0 m 92 ls []) := by
    intro v0 v1 v2 v3 v4 τ o hf Kb Ke0 H locs hJ ls hl
    unfold f_X2_isTaken_D92_21 at hf
    obtain ⟨x16, e17, hf⟩ := mb0 hf
    refine lv_iinc (v := x16) (lv' := [(4, .int x16), (0, .ref v0), (1, .ref v1), (2, .ref v2), (3, .int v3)]) hx hb dX2_isTaken_92 hl (k := 4) rfl (by rw [← Option.some.inj e17]; rfl) (by decide) rfl (fun ls hl => ?_)
    refine lv_goto (tgt := 21) hx hb dX2_isTaken_95 (by decide) ?_
    exact Kb x16 τ (Option.some.inj hf).symm _ _ hJ ls (lv_sub hl [1, 2, 3, 4, 0] rfl)
  have D71_21 : ∀ (v0 : Nat) (v1 : Nat) (v2 : Nat) (v3 : Int32) (v4 : Int32) (τ : mx_S) (o : (Int32 × mx_S) ⊕ ((mx_S))), f_X2_isTaken_D71_21 P v0 v1 v2 v3 v4 τ = some o → (∀ (y4 : Int32) (υ : mx_S), o = .inl (y4, υ) → ∀ (H : Heap) (locs : List Loc), mx_J G P s.heap (mxz σ) (mxu σ) υ H locs → ∀ ls : Array Slot, lv_has ls 5 [(0, .ref v0), (1, .ref v1), (2, .ref v2), (3, .int v3), (4, .int y4)] → W p l e (mx_rm P 3 66 σ) s m ([.ref a0, .ref a1, .ref a2, .int p3] : List Value).toArray below meth c H locs (mxz υ - mxz σ) (mxu υ - mxu σ) (mx_Z below G P (some (.int r)) σ σ' [.ref a0, .ref a1, .ref a2, .int p3] s) (F0 m 21 ls [])) → (∀  (υ : mx_S), o = .inr υ → ∀ (H : Heap) (locs : List Loc), mx_J G P s.heap (mxz σ) (mxu σ) υ H locs → ∀ ls : Array Slot, lv_has ls 5 [(0, .ref v0), (1, .ref v1), (2, .ref v2), (3, .int v3)] → W p l e (mx_rm P 3 66 σ) s m ([.ref a0, .ref a1, .ref a2, .int p3] : List Value).toArray below meth c H locs (mxz υ - mxz σ) (mxu υ - mxu σ) (mx_Z below G P (some (.int r)) σ σ' [.ref a0, .ref a1, .ref a2, .int p3] s) (F0 m 98 ls [])) → ∀ (H : Heap) (locs : List Loc), mx_J G P s.heap (mxz σ) (mxu σ) τ H locs → ∀ ls : Array Slot, lv_has ls 5 [(0, .ref v0), (1, .ref v1), (2, .ref v2), (3, .int v3), (4, .int v4)] → W p l e (mx_rm P 3 66 σ) s m ([.ref a0, .ref a1, .ref a2, .int p3] : List Value).toArray below meth c H locs (mxz τ - mxz σ) (mxu τ - mxu σ) (mx_Z below G P (some (.int r)) σ σ' [.ref a0, .ref a1, .ref a2, .int p3] s) (F0 m 71 ls []) := by
    intro v0 v1 v2 v3 v4 τ o hf Kb Ke0 H locs hJ ls hl
    unfold f_X2_isTaken_D71_21 at hf
    refine lv_aload_n hx hb dX2_isTaken_71 rfl (lv_at hl 1 rfl) ?_
    refine lv_iload hx hb dX2_isTaken_72 (lv_at hl 4 rfl) ?_
    obtain ⟨i10, e11, hf⟩ := mb0 hf
    obtain ⟨x13, σ12, e14, hf⟩ := mc0 hf
    refine mx_callV (As := [.int v4]) (rest := []) hx hb hml hts hown hK hJ rfl rfl (ci := 10) rfl e11 (c_X10_isInRange l G P v1 v4 τ x13 σ12 e14) me_X10_isInRange kw_1165 kw_1166 kw_1818 (Nat.le_of_ble_eq_true rfl) (Nat.le_of_ble_eq_true rfl) rfl hl.1 rfl (Nat.le_of_ble_eq_true rfl) dX2_isTaken_74 (fun H locs hJ => ?_)
    refine lv_if_ne (tgt := 92) hx hb dX2_isTaken_77 (by decide) (fun c15 => ?_) (fun c15 => ?_)
    · rw [if_neg c15] at hf
      exact D92_21 v0 v1 v2 v3 v4 σ12 o hf Kb Ke0 _ _ hJ ls (lv_sub hl [0, 1, 2, 3, 4] rfl)
    · rw [if_pos c15] at hf
      refine lv_aload_n hx hb dX2_isTaken_80 rfl (lv_at hl 1 rfl) ?_
      refine lv_iconst (v := 5) hx hb dX2_isTaken_81 (by decide) ?_
      refine lv_aload_n hx hb dX2_isTaken_82 rfl (lv_at hl 1 rfl) ?_
      obtain ⟨b18, e19, hf⟩ := mb0 hf
      refine my_gR hx hb hts hown hK hJ fd_RX2_86 hv_10_14 e19 dX2_isTaken_83 ?_
      refine lv_iload hx hb dX2_isTaken_86 (lv_at hl 4 rfl) ?_
      obtain ⟨x20, e21, hf⟩ := mb0 hf
      refine mx_aI hx hb hK hJ e21 dX2_isTaken_88 ?_
      obtain ⟨i22, e23, hf⟩ := mb0 hf
      obtain ⟨σ24, e25, hf⟩ := mb0 hf
      refine mx_callV (As := [.int (5 : Int32), .int x20]) (rest := []) hx hb hml hts hown hK hJ rfl rfl (ci := 10) rfl e23 (c_X10_note l G P v1 (5 : Int32) x20 σ12 σ24 e25) me_X10_note kw_1139 kw_1140 kw_1816 (Nat.le_of_ble_eq_true rfl) (Nat.le_of_ble_eq_true rfl) rfl hl.1 rfl (Nat.le_of_ble_eq_true rfl) dX2_isTaken_89 (fun H locs hJ => ?_)
      exact D92_21 v0 v1 v2 v3 v4 σ24 o hf Kb Ke0 _ _ hJ ls (lv_sub hl [0, 1, 2, 3, 4] rfl)
  have B21 : ∀ (v0 : Nat) (v1 : Nat) (v2 : Nat) (v3 : Int32) (v4 : Int32) (τ : mx_S) (o : (Int32 × mx_S) ⊕ ((mx_S))), f_X2_isTaken_B21 P v0 v1 v2 v3 v4 τ = some o → (∀ (y4 : Int32) (υ : mx_S), o = .inl (y4, υ) → ∀ (H : Heap) (locs : List Loc), mx_J G P s.heap (mxz σ) (mxu σ) υ H locs → ∀ ls : Array Slot, lv_has ls 5 [(0, .ref v0), (1, .ref v1), (2, .ref v2), (3, .int v3), (4, .int y4)] → W p l e (mx_rm P 3 66 σ) s m ([.ref a0, .ref a1, .ref a2, .int p3] : List Value).toArray below meth c H locs (mxz υ - mxz σ) (mxu υ - mxu σ) (mx_Z below G P (some (.int r)) σ σ' [.ref a0, .ref a1, .ref a2, .int p3] s) (F0 m 21 ls [])) → (∀  (υ : mx_S), o = .inr υ → ∀ (H : Heap) (locs : List Loc), mx_J G P s.heap (mxz σ) (mxu σ) υ H locs → ∀ ls : Array Slot, lv_has ls 5 [(0, .ref v0), (1, .ref v1), (2, .ref v2), (3, .int v3)] → W p l e (mx_rm P 3 66 σ) s m ([.ref a0, .ref a1, .ref a2, .int p3] : List Value).toArray below meth c H locs (mxz υ - mxz σ) (mxu υ - mxu σ) (mx_Z below G P (some (.int r)) σ σ' [.ref a0, .ref a1, .ref a2, .int p3] s) (F0 m 98 ls [])) → ∀ (H : Heap) (locs : List Loc), mx_J G P s.heap (mxz σ) (mxu σ) τ H locs → ∀ ls : Array Slot, lv_has ls 5 [(0, .ref v0), (1, .ref v1), (2, .ref v2), (3, .int v3), (4, .int v4)] → W p l e (mx_rm P 3 66 σ) s m ([.ref a0, .ref a1, .ref a2, .int p3] : List Value).toArray below meth c H locs (mxz τ - mxz σ) (mxu τ - mxu σ) (mx_Z below G P (some (.int r)) σ σ' [.ref a0, .ref a1, .ref a2, .int p3] s) (F0 m 21 ls []) := by
    intro v0 v1 v2 v3 v4 τ o hf Kb Ke0 H locs hJ ls hl
    unfold f_X2_isTaken_B21 at hf
    refine lv_iload hx hb dX2_isTaken_21 (lv_at hl 4 rfl) ?_
    refine lv_aload_n hx hb dX2_isTaken_23 rfl (lv_at hl 1 rfl) ?_
    obtain ⟨x2, e3, hf⟩ := mb0 hf
    refine my_gI hx hb hts hown hK hJ fd_RX2_71 hv_10_12 e3 dX2_isTaken_24 ?_
    refine lv_icmp_ge (tgt := 98) hx hb dX2_isTaken_27 (by decide) (fun c4 => ?_) (fun c4 => ?_)
    · rw [if_pos c4] at hf
      exact Ke0 τ (Option.some.inj hf).symm _ _ hJ ls (lv_sub hl [0, 1, 2, 3] rfl)
    · rw [if_neg c4] at hf
      refine lv_aload_n hx hb dX2_isTaken_30 rfl (lv_at hl 1 rfl) ?_
      obtain ⟨b5, e6, hf⟩ := mb0 hf
      refine my_gR hx hb hts hown hK hJ fd_RX2_74 hv_10_13 e6 dX2_isTaken_31 ?_
      refine lv_iload hx hb dX2_isTaken_34 (lv_at hl 4 rfl) ?_
      obtain ⟨x7, e8, hf⟩ := mb0 hf
      refine mx_aI hx hb hK hJ e8 dX2_isTaken_36 ?_
      refine lv_bipush (v := 80) hx hb dX2_isTaken_37 (by decide) ?_
      refine lv_icmp_ne (tgt := 71) hx hb dX2_isTaken_39 (by decide) (fun c9 => ?_) (fun c9 => ?_)
      · rw [if_neg c9] at hf
        exact D71_21 v0 v1 v2 v3 v4 τ o hf Kb Ke0 _ _ hJ ls (lv_sub hl [0, 1, 2, 3, 4] rfl)
      · rw [if_pos c9] at hf
        refine lv_aload_n hx hb dX2_isTaken_42 rfl (lv_at hl 2 rfl) ?_
        refine lv_aload_n hx hb dX2_isTaken_43 rfl (lv_at hl 1 rfl) ?_
        obtain ⟨b26, e27, hf⟩ := mb0 hf
        refine my_gR hx hb hts hown hK hJ fd_RX2_77 hv_10_15 e27 dX2_isTaken_44 ?_
        refine lv_iload hx hb dX2_isTaken_47 (lv_at hl 4 rfl) ?_
        obtain ⟨x28, e29, hf⟩ := mb0 hf
        refine mx_aL hx hb hK hJ e29 dX2_isTaken_49 ?_
        obtain ⟨i30, e31, hf⟩ := mb0 hf
        obtain ⟨x33, σ32, e34, hf⟩ := mc0 hf
        refine mx_callV (As := [.long x28]) (rest := []) hx hb hml hts hown hK hJ rfl rfl (ci := 7) rfl e31 (c_X7_numberOf l G P v2 x28 τ x33 σ32 e34) me_X7_numberOf kw_643 kw_644 kw_1817 (Nat.le_of_ble_eq_true rfl) (Nat.le_of_ble_eq_true rfl) rfl hl.1 rfl (Nat.le_of_ble_eq_true rfl) dX2_isTaken_50 (fun H locs hJ => ?_)
        refine lv_if_ge (tgt := 71) hx hb dX2_isTaken_53 (by decide) (fun c35 => ?_) (fun c35 => ?_)
        · rw [if_pos c35] at hf
          exact D71_21 v0 v1 v2 v3 v4 σ32 o hf Kb Ke0 _ _ hJ ls (lv_sub hl [0, 1, 2, 3, 4] rfl)
        · rw [if_neg c35] at hf
          refine lv_aload_n hx hb dX2_isTaken_56 rfl (lv_at hl 1 rfl) ?_
          refine lv_iconst (v := 3) hx hb dX2_isTaken_57 (by decide) ?_
          refine lv_aload_n hx hb dX2_isTaken_58 rfl (lv_at hl 1 rfl) ?_
          obtain ⟨b36, e37, hf⟩ := mb0 hf
          refine my_gR hx hb hts hown hK hJ fd_RX2_86 hv_10_14 e37 dX2_isTaken_59 ?_
          refine lv_iload hx hb dX2_isTaken_62 (lv_at hl 4 rfl) ?_
          obtain ⟨x38, e39, hf⟩ := mb0 hf
          refine mx_aI hx hb hK hJ e39 dX2_isTaken_64 ?_
          obtain ⟨i40, e41, hf⟩ := mb0 hf
          obtain ⟨σ42, e43, hf⟩ := mb0 hf
          refine mx_callV (As := [.int (3 : Int32), .int x38]) (rest := []) hx hb hml hts hown hK hJ rfl rfl (ci := 10) rfl e41 (c_X10_note l G P v1 (3 : Int32) x38 σ32 σ42 e43) me_X10_note kw_1139 kw_1140 kw_1816 (Nat.le_of_ble_eq_true rfl) (Nat.le_of_ble_eq_true rfl) rfl hl.1 rfl (Nat.le_of_ble_eq_true rfl) dX2_isTaken_65 (fun H locs hJ => ?_)
          refine lv_goto (tgt := 92) hx hb dX2_isTaken_68 (by decide) ?_
          exact D92_21 v0 v1 v2 v3 v4 σ42 o hf Kb Ke0 _ _ hJ ls (lv_sub hl [0, 1, 2, 3, 4] rfl)
  have L21 : ∀ (v0 : Nat) (v1 : Nat) (v2 : Nat) (v3 : Int32) (n : Nat) (v4 : Int32) (τ : mx_S) (o : (mx_S)), mx_lp (f_X2_isTaken_L21 P v0 v1 v2 v3) n (v4, τ) = some o → (∀  (υ : mx_S), o = υ → ∀ (H : Heap) (locs : List Loc), mx_J G P s.heap (mxz σ) (mxu σ) υ H locs → ∀ ls : Array Slot, lv_has ls 5 [(0, .ref v0), (1, .ref v1), (2, .ref v2), (3, .int v3)] → W p l e (mx_rm P 3 66 σ) s m ([.ref a0, .ref a1, .ref a2, .int p3] : List Value).toArray below meth c H locs (mxz υ - mxz σ) (mxu υ - mxu σ) (mx_Z below G P (some (.int r)) σ σ' [.ref a0, .ref a1, .ref a2, .int p3] s) (F0 m 98 ls [])) → ∀ (H : Heap) (locs : List Loc), mx_J G P s.heap (mxz σ) (mxu σ) τ H locs → ∀ ls : Array Slot, lv_has ls 5 [(0, .ref v0), (1, .ref v1), (2, .ref v2), (3, .int v3), (4, .int v4)] → W p l e (mx_rm P 3 66 σ) s m ([.ref a0, .ref a1, .ref a2, .int p3] : List Value).toArray below meth c H locs (mxz τ - mxz σ) (mxu τ - mxu σ) (mx_Z below G P (some (.int r)) σ σ' [.ref a0, .ref a1, .ref a2, .int p3] s) (F0 m 21 ls []) := by
    intro v0 v1 v2 v3 n
    induction n with
    | zero =>
      intro v4 τ o hf
      rw [mx_lp0] at hf
      cases hf
    | succ n ih =>
      intro v4 τ o hf Ke0 H locs hJ ls hl
      rw [mx_lpS] at hf
      obtain ⟨b, eb, hf⟩ := mb0 hf
      refine B21 v0 v1 v2 v3 v4 τ b eb (fun y4 υ ho H locs hJ ls hl => ?_) (fun  υ ho H locs hJ ls hl => ?_) H locs hJ ls hl
      · subst ho
        exact ih y4 υ o hf Ke0 H locs hJ ls hl
      · subst ho
        exact Ke0  υ (Option.some.inj hf).symm _ _ hJ ls hl
  have D184 : ∀ (v0 : Nat) (v3 : Int32) (τ : mx_S), f_X2_isTaken_D184 P v0 v3 τ = some (r, σ') → ∀ (H : Heap) (locs : List Loc), mx_J G P s.heap (mxz σ) (mxu σ) τ H locs → ∀ ls : Array Slot, lv_has ls 5 [(0, .ref v0), (3, .int v3)] → W p l e (mx_rm P 3 66 σ) s m ([.ref a0, .ref a1, .ref a2, .int p3] : List Value).toArray below meth c H locs (mxz τ - mxz σ) (mxu τ - mxu σ) (mx_Z below G P (some (.int r)) σ σ' [.ref a0, .ref a1, .ref a2, .int p3] s) (F0 m 184 ls []) := by
    intro v0 v3 τ hf _ _ hJ ls hl
    unfold f_X2_isTaken_D184 at hf
    refine lv_aload_n hx hb dX2_isTaken_184 rfl (lv_at hl 0 rfl) ?_
    refine lv_iload_n hx hb dX2_isTaken_185 rfl (lv_at hl 1 rfl) ?_
    refine lv_iconst (v := 1) hx hb dX2_isTaken_186 (by decide) ?_
    refine lv_iadd hx hb dX2_isTaken_187 ?_
    obtain ⟨σ71, e72, hf⟩ := mb0 hf
    refine my_pI hx hb hts hown hK hJ fd_RX2_43 cd_2 (Or.inl rfl) ht_2_3 e72 dX2_isTaken_188 (fun H locs hJ => ?_)
    refine lv_iconst (v := 1) hx hb dX2_isTaken_191 (by decide) ?_
    exact mx_zret hx hb hr hlocks hJ hf dX2_isTaken_192
  have D169 : ∀ (v0 : Nat) (v1 : Nat) (v2 : Nat) (v3 : Int32) (τ : mx_S), f_X2_isTaken_D169 P v0 v1 v2 v3 τ = some (r, σ') → ∀ (H : Heap) (locs : List Loc), mx_J G P s.heap (mxz σ) (mxu σ) τ H locs → ∀ ls : Array Slot, lv_has ls 5 [(0, .ref v0), (1, .ref v1), (2, .ref v2), (3, .int v3)] → W p l e (mx_rm P 3 66 σ) s m ([.ref a0, .ref a1, .ref a2, .int p3] : List Value).toArray below meth c H locs (mxz τ - mxz σ) (mxu τ - mxu σ) (mx_Z below G P (some (.int r)) σ σ' [.ref a0, .ref a1, .ref a2, .int p3] s) (F0 m 169 ls []) := by
    intro v0 v1 v2 v3 τ hf _ _ hJ ls hl
    unfold f_X2_isTaken_D169 at hf
    refine lv_aload_n hx hb dX2_isTaken_169 rfl (lv_at hl 1 rfl) ?_
    obtain ⟨x68, e69, hf⟩ := mb0 hf
    refine my_gI hx hb hts hown hK hJ fd_RX2_93 hv_10_10 e69 dX2_isTaken_170 ?_
    refine lv_iconst (v := 1) hx hb dX2_isTaken_173 (by decide) ?_
    refine lv_icmp_ne (tgt := 184) hx hb dX2_isTaken_174 (by decide) (fun c70 => ?_) (fun c70 => ?_)
    · rw [if_neg c70] at hf
      exact D184 v0 v3 τ hf _ _ hJ ls (lv_sub hl [0, 3] rfl)
    · rw [if_pos c70] at hf
      refine lv_aload_n hx hb dX2_isTaken_177 rfl (lv_at hl 0 rfl) ?_
      refine lv_aload_n hx hb dX2_isTaken_178 rfl (lv_at hl 1 rfl) ?_
      refine lv_aload_n hx hb dX2_isTaken_179 rfl (lv_at hl 2 rfl) ?_
      refine lv_iload_n hx hb dX2_isTaken_180 rfl (lv_at hl 3 rfl) ?_
      obtain ⟨i73, e74, hf⟩ := mb0 hf
      obtain ⟨σ75, e76, hf⟩ := mb0 hf
      refine mx_callV (As := [.ref v1, .ref v2, .int v3]) (rest := []) hx hb hml hts hown hK hJ rfl rfl (ci := 2) rfl e74 (c_X2_takeGoal l G P v0 v1 v2 v3 τ σ75 e76) me_X2_takeGoal kw_1822 ks_75 kw_1820 (Nat.le_of_ble_eq_true rfl) (Nat.le_of_ble_eq_true rfl) rfl hl.1 rfl (Nat.le_of_ble_eq_true rfl) dX2_isTaken_181 (fun H locs hJ => ?_)
      exact D184 v0 v3 σ75 hf _ _ hJ ls (lv_sub hl [0, 3] rfl)
  have D133 : ∀ (v0 : Nat) (v1 : Nat) (v2 : Nat) (v3 : Int32) (τ : mx_S), f_X2_isTaken_D133 P v0 v1 v2 v3 τ = some (r, σ') → ∀ (H : Heap) (locs : List Loc), mx_J G P s.heap (mxz σ) (mxu σ) τ H locs → ∀ ls : Array Slot, lv_has ls 5 [(0, .ref v0), (1, .ref v1), (2, .ref v2), (3, .int v3)] → W p l e (mx_rm P 3 66 σ) s m ([.ref a0, .ref a1, .ref a2, .int p3] : List Value).toArray below meth c H locs (mxz τ - mxz σ) (mxu τ - mxu σ) (mx_Z below G P (some (.int r)) σ σ' [.ref a0, .ref a1, .ref a2, .int p3] s) (F0 m 133 ls []) := by
    intro v0 v1 v2 v3 τ hf _ _ hJ ls hl
    unfold f_X2_isTaken_D133 at hf
    refine lv_aload_n hx hb dX2_isTaken_133 rfl (lv_at hl 0 rfl) ?_
    obtain ⟨b59, e60, hf⟩ := mb0 hf
    refine my_gR hx hb hts hown hK hJ fd_RX2_19 hv_2_7 e60 dX2_isTaken_134 ?_
    refine lv_iload_n hx hb dX2_isTaken_137 rfl (lv_at hl 3 rfl) ?_
    refine lv_aload_n hx hb dX2_isTaken_138 rfl (lv_at hl 1 rfl) ?_
    refine lv_iconst (v := 0) hx hb dX2_isTaken_139 (by decide) ?_
    obtain ⟨i61, e62, hf⟩ := mb0 hf
    obtain ⟨x64, σ63, e65, hf⟩ := mc0 hf
    refine mx_callV (As := [.int (0 : Int32)]) (rest := [.int v3, .ref b59]) hx hb hml hts hown hK hJ rfl rfl (ci := 10) rfl e62 (c_X10_whole l G P v1 (0 : Int32) τ x64 σ63 e65) me_X10_whole kw_1174 kw_1175 kw_1819 (Nat.le_of_ble_eq_true rfl) (Nat.le_of_ble_eq_true rfl) rfl hl.1 rfl (Nat.le_of_ble_eq_true rfl) dX2_isTaken_140 (fun H locs hJ => ?_)
    obtain ⟨σ66, e67, hf⟩ := mb0 hf
    refine mx_sI hx hb hK hJ e67 dX2_isTaken_143 (fun H locs hJ => ?_)
    refine lv_goto (tgt := 169) hx hb dX2_isTaken_144 (by decide) ?_
    exact D169 v0 v1 v2 v3 σ66 hf _ _ hJ ls (lv_sub hl [0, 1, 2, 3] rfl)
  unfold f_X2_isTaken at hf
  refine lv_iload_n hx hb dX2_isTaken_0 rfl (lv_at hl 3 rfl) ?_
  refine lv_bipush (v := 40) hx hb dX2_isTaken_1 (by decide) ?_
  refine lv_icmp_lt (tgt := 18) hx hb dX2_isTaken_3 (by decide) (fun c1 => ?_) (fun c1 => ?_)
  · rw [if_pos c1] at hf
    refine lv_iconst (v := 0) hx hb dX2_isTaken_18 (by decide) ?_
    refine lv_istore (lv' := [(4, .int (0 : Int32)), (0, .ref a0), (1, .ref a1), (2, .ref a2), (3, .int p3)]) hx hb dX2_isTaken_19 hl (by decide) rfl (fun ls hl => ?_)
    obtain ⟨o44, e45, hf⟩ := mb0 hf
    refine L21 a0 a1 a2 p3 (mpN P) (0 : Int32) σ o44 e45 (fun σ46 ho H locs hJ ls hl => ?_) _ _ hJ ls (lv_sub hl [1, 2, 3, 4, 0] rfl)
    · rw [ho] at hf
      have hf : ((mg_I σ46 a1 10 2).bind fun x47 => (if x47 = 0 then (mg_R σ46 a0 2 5).bind fun b50 => (mg_I σ46 a1 10 10).bind fun x52 => (ms_I P σ46 b50 0 p3 x52).bind fun σ54 => (mg_I σ54 a1 10 10).bind fun x56 => (if x56 = (2 : Int32) then f_X2_isTaken_D133 P a0 a1 a2 p3 σ54 else (mg_I σ54 a1 10 10).bind fun x77 => (if x77 = (3 : Int32) then f_X2_isTaken_D133 P a0 a1 a2 p3 σ54 else (mg_R σ54 a0 2 6).bind fun b80 => (mx_is σ54 a1 10).bind fun i82 => mx_b2 (f_X10_whole P a1 (0 : Int32) σ54) fun x85 σ84 => (ms_I P σ84 b80 0 p3 x85).bind fun σ87 => (mg_R σ87 a0 2 7).bind fun b89 => (mx_is σ87 a1 10).bind fun i91 => mx_b2 (f_X10_whole P a1 (1 : Int32) σ87) fun x94 σ93 => (ms_I P σ93 b89 0 p3 x94).bind fun σ96 => f_X2_isTaken_D169 P a0 a1 a2 p3 σ96)) else mr_Z (0 : Int32) σ46)) = some (r, σ') := hf
      refine lv_aload_n hx hb dX2_isTaken_98 rfl (lv_at hl 1 rfl) ?_
      obtain ⟨x47, e48, hf⟩ := mb0 hf
      refine my_gI hx hb hts hown hK hJ fd_RX2_61 hv_10_2 e48 dX2_isTaken_99 ?_
      refine lv_if_eq (tgt := 107) hx hb dX2_isTaken_102 (by decide) (fun c49 => ?_) (fun c49 => ?_)
      · rw [if_pos c49] at hf
        refine lv_aload_n hx hb dX2_isTaken_107 rfl (lv_at hl 0 rfl) ?_
        obtain ⟨b50, e51, hf⟩ := mb0 hf
        refine my_gR hx hb hts hown hK hJ fd_RX2_13 hv_2_5 e51 dX2_isTaken_108 ?_
        refine lv_iload_n hx hb dX2_isTaken_111 rfl (lv_at hl 3 rfl) ?_
        refine lv_aload_n hx hb dX2_isTaken_112 rfl (lv_at hl 1 rfl) ?_
        obtain ⟨x52, e53, hf⟩ := mb0 hf
        refine my_gI hx hb hts hown hK hJ fd_RX2_93 hv_10_10 e53 dX2_isTaken_113 ?_
        obtain ⟨σ54, e55, hf⟩ := mb0 hf
        refine mx_sI hx hb hK hJ e55 dX2_isTaken_116 (fun H locs hJ => ?_)
        refine lv_aload_n hx hb dX2_isTaken_117 rfl (lv_at hl 1 rfl) ?_
        obtain ⟨x56, e57, hf⟩ := mb0 hf
        refine my_gI hx hb hts hown hK hJ fd_RX2_93 hv_10_10 e57 dX2_isTaken_118 ?_
        refine lv_iconst (v := 2) hx hb dX2_isTaken_121 (by decide) ?_
        refine lv_icmp_eq (tgt := 133) hx hb dX2_isTaken_122 (by decide) (fun c58 => ?_) (fun c58 => ?_)
        · rw [if_pos c58] at hf
          exact D133 a0 a1 a2 p3 σ54 hf _ _ hJ ls (lv_sub hl [0, 1, 2, 3] rfl)
        · rw [if_neg c58] at hf
          refine lv_aload_n hx hb dX2_isTaken_125 rfl (lv_at hl 1 rfl) ?_
          obtain ⟨x77, e78, hf⟩ := mb0 hf
          refine my_gI hx hb hts hown hK hJ fd_RX2_93 hv_10_10 e78 dX2_isTaken_126 ?_
          refine lv_iconst (v := 3) hx hb dX2_isTaken_129 (by decide) ?_
          refine lv_icmp_ne (tgt := 147) hx hb dX2_isTaken_130 (by decide) (fun c79 => ?_) (fun c79 => ?_)
          · rw [if_neg c79] at hf
            refine lv_aload_n hx hb dX2_isTaken_147 rfl (lv_at hl 0 rfl) ?_
            obtain ⟨b80, e81, hf⟩ := mb0 hf
            refine my_gR hx hb hts hown hK hJ fd_RX2_16 hv_2_6 e81 dX2_isTaken_148 ?_
            refine lv_iload_n hx hb dX2_isTaken_151 rfl (lv_at hl 3 rfl) ?_
            refine lv_aload_n hx hb dX2_isTaken_152 rfl (lv_at hl 1 rfl) ?_
            refine lv_iconst (v := 0) hx hb dX2_isTaken_153 (by decide) ?_
            obtain ⟨i82, e83, hf⟩ := mb0 hf
            obtain ⟨x85, σ84, e86, hf⟩ := mc0 hf
            refine mx_callV (As := [.int (0 : Int32)]) (rest := [.int p3, .ref b80]) hx hb hml hts hown hK hJ rfl rfl (ci := 10) rfl e83 (c_X10_whole l G P a1 (0 : Int32) σ54 x85 σ84 e86) me_X10_whole kw_1174 kw_1175 kw_1819 (Nat.le_of_ble_eq_true rfl) (Nat.le_of_ble_eq_true rfl) rfl hl.1 rfl (Nat.le_of_ble_eq_true rfl) dX2_isTaken_154 (fun H locs hJ => ?_)
            obtain ⟨σ87, e88, hf⟩ := mb0 hf
            refine mx_sI hx hb hK hJ e88 dX2_isTaken_157 (fun H locs hJ => ?_)
            refine lv_aload_n hx hb dX2_isTaken_158 rfl (lv_at hl 0 rfl) ?_
            obtain ⟨b89, e90, hf⟩ := mb0 hf
            refine my_gR hx hb hts hown hK hJ fd_RX2_19 hv_2_7 e90 dX2_isTaken_159 ?_
            refine lv_iload_n hx hb dX2_isTaken_162 rfl (lv_at hl 3 rfl) ?_
            refine lv_aload_n hx hb dX2_isTaken_163 rfl (lv_at hl 1 rfl) ?_
            refine lv_iconst (v := 1) hx hb dX2_isTaken_164 (by decide) ?_
            obtain ⟨i91, e92, hf⟩ := mb0 hf
            obtain ⟨x94, σ93, e95, hf⟩ := mc0 hf
            refine mx_callV (As := [.int (1 : Int32)]) (rest := [.int p3, .ref b89]) hx hb hml hts hown hK hJ rfl rfl (ci := 10) rfl e92 (c_X10_whole l G P a1 (1 : Int32) σ87 x94 σ93 e95) me_X10_whole kw_1174 kw_1175 kw_1819 (Nat.le_of_ble_eq_true rfl) (Nat.le_of_ble_eq_true rfl) rfl hl.1 rfl (Nat.le_of_ble_eq_true rfl) dX2_isTaken_165 (fun H locs hJ => ?_)
            obtain ⟨σ96, e97, hf⟩ := mb0 hf
            refine mx_sI hx hb hK hJ e97 dX2_isTaken_168 (fun H locs hJ => ?_)
            exact D169 a0 a1 a2 p3 σ96 hf _ _ hJ ls (lv_sub hl [0, 1, 2, 3] rfl)
          · rw [if_pos c79] at hf
            exact D133 a0 a1 a2 p3 σ54 hf _ _ hJ ls (lv_sub hl [0, 1, 2, 3] rfl)
      · rw [if_neg c49] at hf
        refine lv_iconst (v := 0) hx hb dX2_isTaken_105 (by decide) ?_
        exact mx_zret hx hb hr hlocks hJ hf dX2_isTaken_106
  · rw [if_neg c1] at hf
    refine lv_aload_n hx hb dX2_isTaken_6 rfl (lv_at hl 1 rfl) ?_
    refine lv_bipush (v := 6) hx hb dX2_isTaken_7 (by decide) ?_
    refine lv_aload_n hx hb dX2_isTaken_9 rfl (lv_at hl 1 rfl) ?_
    obtain ⟨x98, e99, hf⟩ := mb0 hf
    refine my_gI hx hb hts hown hK hJ fd_RX2_64 hv_10_11 e99 dX2_isTaken_10 ?_
    obtain ⟨i100, e101, hf⟩ := mb0 hf
    obtain ⟨σ102, e103, hf⟩ := mb0 hf
    refine mx_callV (As := [.int (6 : Int32), .int x98]) (rest := []) hx hb hml hts hown hK hJ rfl rfl (ci := 10) rfl e101 (c_X10_note l G P a1 (6 : Int32) x98 σ σ102 e103) me_X10_note kw_1139 kw_1140 kw_1816 (Nat.le_of_ble_eq_true rfl) (Nat.le_of_ble_eq_true rfl) rfl hl.1 rfl (Nat.le_of_ble_eq_true rfl) dX2_isTaken_13 (fun H locs hJ => ?_)
    refine lv_iconst (v := 0) hx hb dX2_isTaken_16 (by decide) ?_
    exact mx_zret hx hb hr hlocks hJ hf dX2_isTaken_17
set_option maxHeartbeats 4000000 in
set_option maxRecDepth 100000 in
theorem c_X2_isRead (l : Launch) (G : mx_G) (P : mx_P) (a0 : Nat) (a1 : Nat) (a2 : Nat) (σ : mx_S) (r : Int32) (σ' : mx_S) (hf : f_X2_isRead P a0 a1 a2 σ = some (r, σ')) : mxz σ ≤ mpc P → mxu σ ≤ mps P → mx_M l yX2_isRead cX2_isRead 5 (some .boolean) 7 154 G P [.ref a0, .ref a1, .ref a2] σ (some (.int r)) σ' := by
  intro hcap hcau
  refine mx_ofW (by decide +kernel) hcap hcau (Nat.le_of_ble_eq_true rfl) ?_
  intro p e s m below meth c hx hb hr hml hts hown hlocks hname hK hJ ls hl
  have hz0 := hJ.2.1
  have hown : s.vm.findClass RX2 = some m.cls := hown
  have hl : lv_has ls 5 [(0, .ref a0), (1, .ref a1), (2, .ref a2)] := hl
  have D52_15 : ∀ (v0 : Nat) (v1 : Nat) (v2 : Nat) (v4 : Int32) (w0 : Int32) (τ : mx_S) (o : (Int32 × Int32 × mx_S) ⊕ ((mx_S))), f_X2_isRead_D52_15 P v0 v1 v2 v4 w0 τ = some o → (∀ (y3 : Int32) (y4 : Int32) (υ : mx_S), o = .inl (y3, y4, υ) → ∀ (H : Heap) (locs : List Loc), mx_J G P s.heap (mxz σ) (mxu σ) υ H locs → ∀ ls : Array Slot, lv_has ls 5 [(0, .ref v0), (1, .ref v1), (2, .ref v2), (3, .int y3), (4, .int y4)] → W p l e (mx_rm P 7 154 σ) s m ([.ref a0, .ref a1, .ref a2] : List Value).toArray below meth c H locs (mxz υ - mxz σ) (mxu υ - mxu σ) (mx_Z below G P (some (.int r)) σ σ' [.ref a0, .ref a1, .ref a2] s) (F0 m 15 ls [])) → (∀  (υ : mx_S), o = .inr υ → ∀ (H : Heap) (locs : List Loc), mx_J G P s.heap (mxz σ) (mxu σ) υ H locs → ∀ ls : Array Slot, lv_has ls 5 [(1, .ref v1)] → W p l e (mx_rm P 7 154 σ) s m ([.ref a0, .ref a1, .ref a2] : List Value).toArray below meth c H locs (mxz υ - mxz σ) (mxu υ - mxu σ) (mx_Z below G P (some (.int r)) σ σ' [.ref a0, .ref a1, .ref a2] s) (F0 m 59 ls [])) → ∀ (H : Heap) (locs : List Loc), mx_J G P s.heap (mxz σ) (mxu σ) τ H locs → ∀ ls : Array Slot, lv_has ls 5 [(0, .ref v0), (1, .ref v1), (2, .ref v2), (4, .int v4)] → W p l e (mx_rm P 7 154 σ) s m ([.ref a0, .ref a1, .ref a2] : List Value).toArray below meth c H locs (mxz τ - mxz σ) (mxu τ - mxu σ) (mx_Z below G P (some (.int r)) σ σ' [.ref a0, .ref a1, .ref a2] s) (F0 m 52 ls [.int w0]) := by
    intro v0 v1 v2 v4 w0 τ o hf Kb Ke0 H locs hJ ls hl
    unfold f_X2_isRead_D52_15 at hf
    refine lv_istore_n (lv' := [(3, .int w0), (0, .ref v0), (1, .ref v1), (2, .ref v2), (4, .int v4)]) hx hb dX2_isRead_52 rfl hl (by decide) rfl (fun ls hl => ?_)
    obtain ⟨x16, e17, hf⟩ := mb0 hf
    refine lv_iinc (v := x16) (lv' := [(4, .int x16), (3, .int w0), (0, .ref v0), (1, .ref v1), (2, .ref v2)]) hx hb dX2_isRead_53 hl (k := 4) rfl (by rw [← Option.some.inj e17]; rfl) (by decide) rfl (fun ls hl => ?_)
    refine lv_goto (tgt := 15) hx hb dX2_isRead_56 (by decide) ?_
    exact Kb w0 x16 τ (Option.some.inj hf).symm _ _ hJ ls (lv_sub hl [2, 3, 4, 1, 0] rfl)
  have D51_15 : ∀ (v0 : Nat) (v1 : Nat) (v2 : Nat) (v4 : Int32) (τ : mx_S) (o : (Int32 × Int32 × mx_S) ⊕ ((mx_S))), f_X2_isRead_D51_15 P v0 v1 v2 v4 τ = some o → (∀ (y3 : Int32) (y4 : Int32) (υ : mx_S), o = .inl (y3, y4, υ) → ∀ (H : Heap) (locs : List Loc), mx_J G P s.heap (mxz σ) (mxu σ) υ H locs → ∀ ls : Array Slot, lv_has ls 5 [(0, .ref v0), (1, .ref v1), (2, .ref v2), (3, .int y3), (4, .int y4)] → W p l e (mx_rm P 7 154 σ) s m ([.ref a0, .ref a1, .ref a2] : List Value).toArray below meth c H locs (mxz υ - mxz σ) (mxu υ - mxu σ) (mx_Z below G P (some (.int r)) σ σ' [.ref a0, .ref a1, .ref a2] s) (F0 m 15 ls [])) → (∀  (υ : mx_S), o = .inr υ → ∀ (H : Heap) (locs : List Loc), mx_J G P s.heap (mxz σ) (mxu σ) υ H locs → ∀ ls : Array Slot, lv_has ls 5 [(1, .ref v1)] → W p l e (mx_rm P 7 154 σ) s m ([.ref a0, .ref a1, .ref a2] : List Value).toArray below meth c H locs (mxz υ - mxz σ) (mxu υ - mxu σ) (mx_Z below G P (some (.int r)) σ σ' [.ref a0, .ref a1, .ref a2] s) (F0 m 59 ls [])) → ∀ (H : Heap) (locs : List Loc), mx_J G P s.heap (mxz σ) (mxu σ) τ H locs → ∀ ls : Array Slot, lv_has ls 5 [(0, .ref v0), (1, .ref v1), (2, .ref v2), (4, .int v4)] → W p l e (mx_rm P 7 154 σ) s m ([.ref a0, .ref a1, .ref a2] : List Value).toArray below meth c H locs (mxz τ - mxz σ) (mxu τ - mxu σ) (mx_Z below G P (some (.int r)) σ σ' [.ref a0, .ref a1, .ref a2] s) (F0 m 51 ls []) := by
    intro v0 v1 v2 v4 τ o hf Kb Ke0 H locs hJ ls hl
    unfold f_X2_isRead_D51_15 at hf
    refine lv_iconst (v := 0) hx hb dX2_isRead_51 (by decide) ?_
    exact D52_15 v0 v1 v2 v4 (0 : Int32) τ o hf Kb Ke0 _ _ hJ ls (lv_sub hl [0, 1, 2, 3] rfl)
  have B15 : ∀ (v0 : Nat) (v1 : Nat) (v2 : Nat) (v3 : Int32) (v4 : Int32) (τ : mx_S) (o : (Int32 × Int32 × mx_S) ⊕ ((mx_S))), f_X2_isRead_B15 P v0 v1 v2 v3 v4 τ = some o → (∀ (y3 : Int32) (y4 : Int32) (υ : mx_S), o = .inl (y3, y4, υ) → ∀ (H : Heap) (locs : List Loc), mx_J G P s.heap (mxz σ) (mxu σ) υ H locs → ∀ ls : Array Slot, lv_has ls 5 [(0, .ref v0), (1, .ref v1), (2, .ref v2), (3, .int y3), (4, .int y4)] → W p l e (mx_rm P 7 154 σ) s m ([.ref a0, .ref a1, .ref a2] : List Value).toArray below meth c H locs (mxz υ - mxz σ) (mxu υ - mxu σ) (mx_Z below G P (some (.int r)) σ σ' [.ref a0, .ref a1, .ref a2] s) (F0 m 15 ls [])) → (∀  (υ : mx_S), o = .inr υ → ∀ (H : Heap) (locs : List Loc), mx_J G P s.heap (mxz σ) (mxu σ) υ H locs → ∀ ls : Array Slot, lv_has ls 5 [(1, .ref v1)] → W p l e (mx_rm P 7 154 σ) s m ([.ref a0, .ref a1, .ref a2] : List Value).toArray below meth c H locs (mxz υ - mxz σ) (mxu υ - mxu σ) (mx_Z below G P (some (.int r)) σ σ' [.ref a0, .ref a1, .ref a2] s) (F0 m 59 ls [])) → ∀ (H : Heap) (locs : List Loc), mx_J G P s.heap (mxz σ) (mxu σ) τ H locs → ∀ ls : Array Slot, lv_has ls 5 [(0, .ref v0), (1, .ref v1), (2, .ref v2), (3, .int v3), (4, .int v4)] → W p l e (mx_rm P 7 154 σ) s m ([.ref a0, .ref a1, .ref a2] : List Value).toArray below meth c H locs (mxz τ - mxz σ) (mxu τ - mxu σ) (mx_Z below G P (some (.int r)) σ σ' [.ref a0, .ref a1, .ref a2] s) (F0 m 15 ls []) := by
    intro v0 v1 v2 v3 v4 τ o hf Kb Ke0 H locs hJ ls hl
    unfold f_X2_isRead_B15 at hf
    refine lv_iload hx hb dX2_isRead_15 (lv_at hl 4 rfl) ?_
    refine lv_sipush (v := 4000) hx hb dX2_isRead_17 (by decide) ?_
    refine lv_icmp_ge (tgt := 59) hx hb dX2_isRead_20 (by decide) (fun c8 => ?_) (fun c8 => ?_)
    · rw [if_pos c8] at hf
      exact Ke0 τ (Option.some.inj hf).symm _ _ hJ ls (lv_sub hl [1] rfl)
    · rw [if_neg c8] at hf
      refine lv_iload_n hx hb dX2_isRead_23 rfl (lv_at hl 3 rfl) ?_
      refine lv_if_eq (tgt := 59) hx hb dX2_isRead_24 (by decide) (fun c9 => ?_) (fun c9 => ?_)
      · rw [if_pos c9] at hf
        exact Ke0 τ (Option.some.inj hf).symm _ _ hJ ls (lv_sub hl [1] rfl)
      · rw [if_neg c9] at hf
        refine lv_aload_n hx hb dX2_isRead_27 rfl (lv_at hl 1 rfl) ?_
        refine va_ldcS hx hb hown (show vk_R RX2 46 "turn it;until itPDv;again a;way b;" (mgK G 2) s from mxe_str hK 2 (by decide)) dX2_isRead_28 ?_
        obtain ⟨i10, e11, hf⟩ := mb0 hf
        obtain ⟨x13, σ12, e14, hf⟩ := mc0 hf
        refine mx_callV (As := [.ref (mgK G 2)]) (rest := []) hx hb hml hts hown hK hJ rfl rfl (ci := 10) rfl e11 (c_X10_hasStatement l G P v1 2 τ x13 σ12 e14) me_X10_hasStatement kw_1060 kw_1061 kw_1811 (Nat.le_of_ble_eq_true rfl) (Nat.le_of_ble_eq_true rfl) rfl hl.1 rfl (Nat.le_of_ble_eq_true rfl) dX2_isRead_30 (fun H locs hJ => ?_)
        refine lv_if_eq (tgt := 51) hx hb dX2_isRead_33 (by decide) (fun c15 => ?_) (fun c15 => ?_)
        · rw [if_pos c15] at hf
          exact D51_15 v0 v1 v2 v4 σ12 o hf Kb Ke0 _ _ hJ ls (lv_sub hl [0, 1, 2, 4] rfl)
        · rw [if_neg c15] at hf
          refine lv_aload_n hx hb dX2_isRead_36 rfl (lv_at hl 0 rfl) ?_
          refine lv_aload_n hx hb dX2_isRead_37 rfl (lv_at hl 1 rfl) ?_
          refine lv_aload_n hx hb dX2_isRead_38 rfl (lv_at hl 2 rfl) ?_
          refine lv_iload hx hb dX2_isRead_39 (lv_at hl 4 rfl) ?_
          obtain ⟨i18, e19, hf⟩ := mb0 hf
          obtain ⟨x21, σ20, e22, hf⟩ := mc0 hf
          refine mx_callV (As := [.ref v1, .ref v2, .int v4]) (rest := []) hx hb hml hts hown hK hJ rfl rfl (ci := 2) rfl e19 (c_X2_isTaken l G P v0 v1 v2 v4 σ12 x21 σ20 e22) me_X2_isTaken kw_1814 ks_74 kw_1812 (Nat.le_of_ble_eq_true rfl) (Nat.le_of_ble_eq_true rfl) rfl hl.1 rfl (Nat.le_of_ble_eq_true rfl) dX2_isRead_41 (fun H locs hJ => ?_)
          refine lv_if_eq (tgt := 51) hx hb dX2_isRead_44 (by decide) (fun c23 => ?_) (fun c23 => ?_)
          · rw [if_pos c23] at hf
            exact D51_15 v0 v1 v2 v4 σ20 o hf Kb Ke0 _ _ hJ ls (lv_sub hl [0, 1, 2, 4] rfl)
          · rw [if_neg c23] at hf
            refine lv_iconst (v := 1) hx hb dX2_isRead_47 (by decide) ?_
            refine lv_goto (tgt := 52) hx hb dX2_isRead_48 (by decide) ?_
            exact D52_15 v0 v1 v2 v4 (1 : Int32) σ20 o hf Kb Ke0 _ _ hJ ls (lv_sub hl [0, 1, 2, 4] rfl)
  have L15 : ∀ (v0 : Nat) (v1 : Nat) (v2 : Nat) (n : Nat) (v3 : Int32) (v4 : Int32) (τ : mx_S) (o : (mx_S)), mx_lp (f_X2_isRead_L15 P v0 v1 v2) n (v3, v4, τ) = some o → (∀  (υ : mx_S), o = υ → ∀ (H : Heap) (locs : List Loc), mx_J G P s.heap (mxz σ) (mxu σ) υ H locs → ∀ ls : Array Slot, lv_has ls 5 [(1, .ref v1)] → W p l e (mx_rm P 7 154 σ) s m ([.ref a0, .ref a1, .ref a2] : List Value).toArray below meth c H locs (mxz υ - mxz σ) (mxu υ - mxu σ) (mx_Z below G P (some (.int r)) σ σ' [.ref a0, .ref a1, .ref a2] s) (F0 m 59 ls [])) → ∀ (H : Heap) (locs : List Loc), mx_J G P s.heap (mxz σ) (mxu σ) τ H locs → ∀ ls : Array Slot, lv_has ls 5 [(0, .ref v0), (1, .ref v1), (2, .ref v2), (3, .int v3), (4, .int v4)] → W p l e (mx_rm P 7 154 σ) s m ([.ref a0, .ref a1, .ref a2] : List Value).toArray below meth c H locs (mxz τ - mxz σ) (mxu τ - mxu σ) (mx_Z below G P (some (.int r)) σ σ' [.ref a0, .ref a1, .ref a2] s) (F0 m 15 ls []) := by
    intro v0 v1 v2 n
    induction n with
    | zero =>
      intro v3 v4 τ o hf
      rw [mx_lp0] at hf
      cases hf
    | succ n ih =>
      intro v3 v4 τ o hf Ke0 H locs hJ ls hl
      rw [mx_lpS] at hf
      obtain ⟨b, eb, hf⟩ := mb0 hf
      refine B15 v0 v1 v2 v3 v4 τ b eb (fun y3 y4 υ ho H locs hJ ls hl => ?_) (fun  υ ho H locs hJ ls hl => ?_) H locs hJ ls hl
      · subst ho
        exact ih y3 y4 υ o hf Ke0 H locs hJ ls hl
      · subst ho
        exact Ke0  υ (Option.some.inj hf).symm _ _ hJ ls hl
  have D71 : ∀ (w0 : Int32) (τ : mx_S), f_X2_isRead_D71 P w0 τ = some (r, σ') → ∀ (H : Heap) (locs : List Loc), mx_J G P s.heap (mxz σ) (mxu σ) τ H locs → ∀ ls : Array Slot, lv_has ls 5 [] → W p l e (mx_rm P 7 154 σ) s m ([.ref a0, .ref a1, .ref a2] : List Value).toArray below meth c H locs (mxz τ - mxz σ) (mxu τ - mxu σ) (mx_Z below G P (some (.int r)) σ σ' [.ref a0, .ref a1, .ref a2] s) (F0 m 71 ls [.int w0]) := by
    intro w0 τ hf _ _ hJ ls hl
    unfold f_X2_isRead_D71 at hf
    exact mx_zret hx hb hr hlocks hJ hf dX2_isRead_71
  have D59 : ∀ (v1 : Nat) (τ : mx_S), f_X2_isRead_D59 P v1 τ = some (r, σ') → ∀ (H : Heap) (locs : List Loc), mx_J G P s.heap (mxz σ) (mxu σ) τ H locs → ∀ ls : Array Slot, lv_has ls 5 [(1, .ref v1)] → W p l e (mx_rm P 7 154 σ) s m ([.ref a0, .ref a1, .ref a2] : List Value).toArray below meth c H locs (mxz τ - mxz σ) (mxu τ - mxu σ) (mx_Z below G P (some (.int r)) σ σ' [.ref a0, .ref a1, .ref a2] s) (F0 m 59 ls []) := by
    intro v1 τ hf _ _ hJ ls hl
    unfold f_X2_isRead_D59 at hf
    refine lv_aload_n hx hb dX2_isRead_59 rfl (lv_at hl 0 rfl) ?_
    obtain ⟨x27, e28, hf⟩ := mb0 hf
    refine my_gI hx hb hts hown hK hJ fd_RX2_61 hv_10_2 e28 dX2_isRead_60 ?_
    refine lv_if_ne (tgt := 70) hx hb dX2_isRead_63 (by decide) (fun c29 => ?_) (fun c29 => ?_)
    · rw [if_neg c29] at hf
      refine lv_iconst (v := 0) hx hb dX2_isRead_70 (by decide) ?_
      exact D71 (0 : Int32) τ hf _ _ hJ ls (lv_sub hl [] rfl)
    · rw [if_pos c29] at hf
      refine lv_iconst (v := 1) hx hb dX2_isRead_66 (by decide) ?_
      refine lv_goto (tgt := 71) hx hb dX2_isRead_67 (by decide) ?_
      exact D71 (1 : Int32) τ hf _ _ hJ ls (lv_sub hl [] rfl)
  unfold f_X2_isRead at hf
  refine lv_aload_n hx hb dX2_isRead_0 rfl (lv_at hl 0 rfl) ?_
  refine lv_iconst (v := 0) hx hb dX2_isRead_1 (by decide) ?_
  obtain ⟨σ1, e2, hf⟩ := mb0 hf
  refine my_pI hx hb hts hown hK hJ fd_RX2_43 cd_2 (Or.inl rfl) ht_2_3 e2 dX2_isRead_2 (fun H locs hJ => ?_)
  refine lv_aload_n hx hb dX2_isRead_5 rfl (lv_at hl 1 rfl) ?_
  refine va_ldcS hx hb hown (show vk_R RX2 46 "turn it;until itPDv;again a;way b;" (mgK G 2) s from mxe_str hK 2 (by decide)) dX2_isRead_6 ?_
  obtain ⟨i3, e4, hf⟩ := mb0 hf
  obtain ⟨x6, σ5, e7, hf⟩ := mc0 hf
  refine mx_callV (As := [.ref (mgK G 2)]) (rest := []) hx hb hml hts hown hK hJ rfl rfl (ci := 10) rfl e4 (c_X10_isGrammatical l G P a1 2 σ1 x6 σ5 e7) me_X10_isGrammatical kw_1052 kw_1053 kw_1810 (Nat.le_of_ble_eq_true rfl) (Nat.le_of_ble_eq_true rfl) rfl hl.1 rfl (Nat.le_of_ble_eq_true rfl) dX2_isRead_8 (fun H locs hJ => ?_)
  refine lv_istore_n (lv' := [(3, .int x6), (0, .ref a0), (1, .ref a1), (2, .ref a2)]) hx hb dX2_isRead_11 rfl hl (by decide) rfl (fun ls hl => ?_)
  refine lv_iconst (v := 0) hx hb dX2_isRead_12 (by decide) ?_
  refine lv_istore (lv' := [(4, .int (0 : Int32)), (3, .int x6), (0, .ref a0), (1, .ref a1), (2, .ref a2)]) hx hb dX2_isRead_13 hl (by decide) rfl (fun ls hl => ?_)
  obtain ⟨o24, e25, hf⟩ := mb0 hf
  refine L15 a0 a1 a2 (mpN P) x6 (0 : Int32) σ5 o24 e25 (fun σ26 ho H locs hJ ls hl => ?_) _ _ hJ ls (lv_sub hl [2, 3, 4, 1, 0] rfl)
  · rw [ho] at hf
    have hf : (f_X2_isRead_D59 P a1 σ26) = some (r, σ') := hf
    exact D59 a1 σ26 hf _ _ hJ ls (lv_sub hl [0] rfl)
set_option maxHeartbeats 4000000 in
set_option maxRecDepth 100000 in
theorem c_X7_touch (l : Launch) (G : mx_G) (P : mx_P) (a0 : Nat) (p1 : Int32) (σ : mx_S) (σ' : mx_S) (hf : f_X7_touch P a0 p1 σ = some σ') : mxz σ ≤ mpc P → mxu σ ≤ mps P → mx_M l yX7_touch cX7_touch 3 none 0 0 G P [.ref a0, .int p1] σ none σ' := by
  intro hcap hcau
  refine mx_ofW (by decide +kernel) hcap hcau (Nat.le_of_ble_eq_true rfl) ?_
  intro p e s m below meth c hx hb hr hml hts hown hlocks hname hK hJ ls hl
  have hz0 := hJ.2.1
  have hown : s.vm.findClass RX7 = some m.cls := hown
  have hl : lv_has ls 3 [(0, .ref a0), (1, .int p1)] := hl
  have D34_2 : ∀ (v0 : Nat) (v1 : Int32) (v2 : Int32) (τ : mx_S) (o : (Int32 × mx_S) ⊕ ((mx_S))), f_X7_touch_D34_2 P v0 v1 v2 τ = some o → (∀ (y2 : Int32) (υ : mx_S), o = .inl (y2, υ) → ∀ (H : Heap) (locs : List Loc), mx_J G P s.heap (mxz σ) (mxu σ) υ H locs → ∀ ls : Array Slot, lv_has ls 3 [(0, .ref v0), (1, .int v1), (2, .int y2)] → W p l e (mx_rm P 0 0 σ) s m ([.ref a0, .int p1] : List Value).toArray below meth c H locs (mxz υ - mxz σ) (mxu υ - mxu σ) (mx_Z below G P none σ σ' [.ref a0, .int p1] s) (F0 m 2 ls [])) → (∀  (υ : mx_S), o = .inr υ → ∀ (H : Heap) (locs : List Loc), mx_J G P s.heap (mxz σ) (mxu σ) υ H locs → ∀ ls : Array Slot, lv_has ls 3 [] → W p l e (mx_rm P 0 0 σ) s m ([.ref a0, .int p1] : List Value).toArray below meth c H locs (mxz υ - mxz σ) (mxu υ - mxu σ) (mx_Z below G P none σ σ' [.ref a0, .int p1] s) (F0 m 40 ls [])) → ∀ (H : Heap) (locs : List Loc), mx_J G P s.heap (mxz σ) (mxu σ) τ H locs → ∀ ls : Array Slot, lv_has ls 3 [(0, .ref v0), (1, .int v1), (2, .int v2)] → W p l e (mx_rm P 0 0 σ) s m ([.ref a0, .int p1] : List Value).toArray below meth c H locs (mxz τ - mxz σ) (mxu τ - mxu σ) (mx_Z below G P none σ σ' [.ref a0, .int p1] s) (F0 m 34 ls []) := by
    intro v0 v1 v2 τ o hf Kb Ke0 H locs hJ ls hl
    unfold f_X7_touch_D34_2 at hf
    obtain ⟨x11, e12, hf⟩ := mb0 hf
    refine lv_iinc (v := x11) (lv' := [(2, .int x11), (0, .ref v0), (1, .int v1)]) hx hb dX7_touch_34 hl (k := 2) rfl (by rw [← Option.some.inj e12]; rfl) (by decide) rfl (fun ls hl => ?_)
    refine lv_goto (tgt := 2) hx hb dX7_touch_37 (by decide) ?_
    exact Kb x11 τ (Option.some.inj hf).symm _ _ hJ ls (lv_sub hl [1, 2, 0] rfl)
  have B2 : ∀ (v0 : Nat) (v1 : Int32) (v2 : Int32) (τ : mx_S) (o : (Int32 × mx_S) ⊕ ((mx_S))), f_X7_touch_B2 P v0 v1 v2 τ = some o → (∀ (y2 : Int32) (υ : mx_S), o = .inl (y2, υ) → ∀ (H : Heap) (locs : List Loc), mx_J G P s.heap (mxz σ) (mxu σ) υ H locs → ∀ ls : Array Slot, lv_has ls 3 [(0, .ref v0), (1, .int v1), (2, .int y2)] → W p l e (mx_rm P 0 0 σ) s m ([.ref a0, .int p1] : List Value).toArray below meth c H locs (mxz υ - mxz σ) (mxu υ - mxu σ) (mx_Z below G P none σ σ' [.ref a0, .int p1] s) (F0 m 2 ls [])) → (∀  (υ : mx_S), o = .inr υ → ∀ (H : Heap) (locs : List Loc), mx_J G P s.heap (mxz σ) (mxu σ) υ H locs → ∀ ls : Array Slot, lv_has ls 3 [] → W p l e (mx_rm P 0 0 σ) s m ([.ref a0, .int p1] : List Value).toArray below meth c H locs (mxz υ - mxz σ) (mxu υ - mxu σ) (mx_Z below G P none σ σ' [.ref a0, .int p1] s) (F0 m 40 ls [])) → ∀ (H : Heap) (locs : List Loc), mx_J G P s.heap (mxz σ) (mxu σ) τ H locs → ∀ ls : Array Slot, lv_has ls 3 [(0, .ref v0), (1, .int v1), (2, .int v2)] → W p l e (mx_rm P 0 0 σ) s m ([.ref a0, .int p1] : List Value).toArray below meth c H locs (mxz τ - mxz σ) (mxu τ - mxu σ) (mx_Z below G P none σ σ' [.ref a0, .int p1] s) (F0 m 2 ls []) := by
    intro v0 v1 v2 τ o hf Kb Ke0 H locs hJ ls hl
    unfold f_X7_touch_B2 at hf
    refine lv_iload_n hx hb dX7_touch_2 rfl (lv_at hl 2 rfl) ?_
    refine lv_aload_n hx hb dX7_touch_3 rfl (lv_at hl 0 rfl) ?_
    obtain ⟨x1, e2, hf⟩ := mb0 hf
    refine my_gI hx hb hts hown hK hJ fd_RX7_77 hv_7_2 e2 dX7_touch_4 ?_
    refine lv_icmp_ge (tgt := 40) hx hb dX7_touch_7 (by decide) (fun c3 => ?_) (fun c3 => ?_)
    · rw [if_pos c3] at hf
      exact Ke0 τ (Option.some.inj hf).symm _ _ hJ ls (lv_sub hl [] rfl)
    · rw [if_neg c3] at hf
      refine lv_aload_n hx hb dX7_touch_10 rfl (lv_at hl 0 rfl) ?_
      obtain ⟨b4, e5, hf⟩ := mb0 hf
      refine my_gR hx hb hts hown hK hJ fd_RX7_11 hv_7_0 e5 dX7_touch_11 ?_
      refine lv_iload_n hx hb dX7_touch_14 rfl (lv_at hl 2 rfl) ?_
      obtain ⟨b6, e7, hf⟩ := mb0 hf
      refine mx_aR hx hb hK hJ (t := 4) rfl (fun _ _ _ => rfl) e7 dX7_touch_15 ?_
      obtain ⟨x8, e9, hf⟩ := mb0 hf
      refine my_gI hx hb hts hown hK hJ fd_RX7_170 hv_5_8 e9 dX7_touch_16 ?_
      refine lv_iload_n hx hb dX7_touch_19 rfl (lv_at hl 1 rfl) ?_
      refine lv_iand hx hb dX7_touch_20 ?_
      refine lv_if_eq (tgt := 34) hx hb dX7_touch_21 (by decide) (fun c10 => ?_) (fun c10 => ?_)
      · rw [if_pos c10] at hf
        exact D34_2 v0 v1 v2 τ o hf Kb Ke0 _ _ hJ ls (lv_sub hl [0, 1, 2] rfl)
      · rw [if_neg c10] at hf
        refine lv_aload_n hx hb dX7_touch_24 rfl (lv_at hl 0 rfl) ?_
        obtain ⟨b13, e14, hf⟩ := mb0 hf
        refine my_gR hx hb hts hown hK hJ fd_RX7_11 hv_7_0 e14 dX7_touch_25 ?_
        refine lv_iload_n hx hb dX7_touch_28 rfl (lv_at hl 2 rfl) ?_
        obtain ⟨b15, e16, hf⟩ := mb0 hf
        refine mx_aR hx hb hK hJ (t := 4) rfl (fun _ _ _ => rfl) e16 dX7_touch_29 ?_
        refine lv_iconst (v := 0) hx hb dX7_touch_30 (by decide) ?_
        obtain ⟨σ17, e18, hf⟩ := mb0 hf
        refine my_pZ hx hb hts hown hK hJ fd_RX7_187 cd_5 (Or.inl rfl) ht_5_16 e18 dX7_touch_31 (fun H locs hJ => ?_)
        exact D34_2 v0 v1 v2 σ17 o hf Kb Ke0 _ _ hJ ls (lv_sub hl [0, 1, 2] rfl)
  have L2 : ∀ (v0 : Nat) (v1 : Int32) (n : Nat) (v2 : Int32) (τ : mx_S) (o : (mx_S)), mx_lp (f_X7_touch_L2 P v0 v1) n (v2, τ) = some o → (∀  (υ : mx_S), o = υ → ∀ (H : Heap) (locs : List Loc), mx_J G P s.heap (mxz σ) (mxu σ) υ H locs → ∀ ls : Array Slot, lv_has ls 3 [] → W p l e (mx_rm P 0 0 σ) s m ([.ref a0, .int p1] : List Value).toArray below meth c H locs (mxz υ - mxz σ) (mxu υ - mxu σ) (mx_Z below G P none σ σ' [.ref a0, .int p1] s) (F0 m 40 ls [])) → ∀ (H : Heap) (locs : List Loc), mx_J G P s.heap (mxz σ) (mxu σ) τ H locs → ∀ ls : Array Slot, lv_has ls 3 [(0, .ref v0), (1, .int v1), (2, .int v2)] → W p l e (mx_rm P 0 0 σ) s m ([.ref a0, .int p1] : List Value).toArray below meth c H locs (mxz τ - mxz σ) (mxu τ - mxu σ) (mx_Z below G P none σ σ' [.ref a0, .int p1] s) (F0 m 2 ls []) := by
    intro v0 v1 n
    induction n with
    | zero =>
      intro v2 τ o hf
      rw [mx_lp0] at hf
      cases hf
    | succ n ih =>
      intro v2 τ o hf Ke0 H locs hJ ls hl
      rw [mx_lpS] at hf
      obtain ⟨b, eb, hf⟩ := mb0 hf
      refine B2 v0 v1 v2 τ b eb (fun y2 υ ho H locs hJ ls hl => ?_) (fun  υ ho H locs hJ ls hl => ?_) H locs hJ ls hl
      · subst ho
        exact ih y2 υ o hf Ke0 H locs hJ ls hl
      · subst ho
        exact Ke0  υ (Option.some.inj hf).symm _ _ hJ ls hl
  unfold f_X7_touch at hf
  refine lv_iconst (v := 0) hx hb dX7_touch_0 (by decide) ?_
  refine lv_istore_n (lv' := [(2, .int (0 : Int32)), (0, .ref a0), (1, .int p1)]) hx hb dX7_touch_1 rfl hl (by decide) rfl (fun ls hl => ?_)
  obtain ⟨o19, e20, hf⟩ := mb0 hf
  refine L2 a0 p1 (mpN P) (0 : Int32) σ o19 e20 (fun σ21 ho H locs hJ ls hl => ?_) _ _ hJ ls (lv_sub hl [1, 2, 0] rfl)
  · rw [ho] at hf
    have hf : (some σ21) = some σ' := hf
    exact my_vret hx hb hr hlocks hJ hf dX7_touch_40
set_option maxHeartbeats 4000000 in
set_option maxRecDepth 100000 in
theorem c_X7_hangsOnOpen (l : Launch) (G : mx_G) (P : mx_P) (a0 : Nat) (a1 : Nat) (σ : mx_S) (r : Int32) (σ' : mx_S) (hf : f_X7_hangsOnOpen P a0 a1 σ = some (r, σ')) : mxz σ ≤ mpc P → mxu σ ≤ mps P → mx_M l yX7_hangsOnOpen cX7_hangsOnOpen 3 (some .boolean) 0 0 G P [.ref a0, .ref a1] σ (some (.int r)) σ' := by
  intro hcap hcau
  refine mx_ofW (by decide +kernel) hcap hcau (Nat.le_of_ble_eq_true rfl) ?_
  intro p e s m below meth c hx hb hr hml hts hown hlocks hname hK hJ ls hl
  have hz0 := hJ.2.1
  have hown : s.vm.findClass RX7 = some m.cls := hown
  have hl : lv_has ls 3 [(0, .ref a0), (1, .ref a1)] := hl
  have B2 : ∀ (v0 : Nat) (v1 : Nat) (v2 : Int32) (τ : mx_S) (o : (Int32 × mx_S) ⊕ ((mx_S) ⊕ (mx_S))), f_X7_hangsOnOpen_B2 P v0 v1 v2 τ = some o → (∀ (y2 : Int32) (υ : mx_S), o = .inl (y2, υ) → ∀ (H : Heap) (locs : List Loc), mx_J G P s.heap (mxz σ) (mxu σ) υ H locs → ∀ ls : Array Slot, lv_has ls 3 [(0, .ref v0), (1, .ref v1), (2, .int y2)] → W p l e (mx_rm P 0 0 σ) s m ([.ref a0, .ref a1] : List Value).toArray below meth c H locs (mxz υ - mxz σ) (mxu υ - mxu σ) (mx_Z below G P (some (.int r)) σ σ' [.ref a0, .ref a1] s) (F0 m 2 ls [])) → (∀  (υ : mx_S), o = .inr (.inl υ) → ∀ (H : Heap) (locs : List Loc), mx_J G P s.heap (mxz σ) (mxu σ) υ H locs → ∀ ls : Array Slot, lv_has ls 3 [] → W p l e (mx_rm P 0 0 σ) s m ([.ref a0, .ref a1] : List Value).toArray below meth c H locs (mxz υ - mxz σ) (mxu υ - mxu σ) (mx_Z below G P (some (.int r)) σ σ' [.ref a0, .ref a1] s) (F0 m 28 ls [])) → (∀  (υ : mx_S), o = .inr (.inr υ) → ∀ (H : Heap) (locs : List Loc), mx_J G P s.heap (mxz σ) (mxu σ) υ H locs → ∀ ls : Array Slot, lv_has ls 3 [] → W p l e (mx_rm P 0 0 σ) s m ([.ref a0, .ref a1] : List Value).toArray below meth c H locs (mxz υ - mxz σ) (mxu υ - mxu σ) (mx_Z below G P (some (.int r)) σ σ' [.ref a0, .ref a1] s) (F0 m 36 ls [])) → ∀ (H : Heap) (locs : List Loc), mx_J G P s.heap (mxz σ) (mxu σ) τ H locs → ∀ ls : Array Slot, lv_has ls 3 [(0, .ref v0), (1, .ref v1), (2, .int v2)] → W p l e (mx_rm P 0 0 σ) s m ([.ref a0, .ref a1] : List Value).toArray below meth c H locs (mxz τ - mxz σ) (mxu τ - mxu σ) (mx_Z below G P (some (.int r)) σ σ' [.ref a0, .ref a1] s) (F0 m 2 ls []) := by
    intro v0 v1 v2 τ o hf Kb Ke0 Ke1 H locs hJ ls hl
    unfold f_X7_hangsOnOpen_B2 at hf
    refine lv_iload_n hx hb dX7_hangsOnOpen_2 rfl (lv_at hl 2 rfl) ?_
    refine lv_aload_n hx hb dX7_hangsOnOpen_3 rfl (lv_at hl 1 rfl) ?_
    obtain ⟨x1, e2, hf⟩ := mb0 hf
    refine my_gI hx hb hts hown hK hJ fd_RX7_164 hv_5_3 e2 dX7_hangsOnOpen_4 ?_
    refine lv_icmp_ge (tgt := 36) hx hb dX7_hangsOnOpen_7 (by decide) (fun c3 => ?_) (fun c3 => ?_)
    · rw [if_pos c3] at hf
      exact Ke1 τ (Option.some.inj hf).symm _ _ hJ ls (lv_sub hl [] rfl)
    · rw [if_neg c3] at hf
      refine lv_aload_n hx hb dX7_hangsOnOpen_10 rfl (lv_at hl 0 rfl) ?_
      obtain ⟨b4, e5, hf⟩ := mb0 hf
      refine my_gR hx hb hts hown hK hJ fd_RX7_11 hv_7_0 e5 dX7_hangsOnOpen_11 ?_
      refine lv_aload_n hx hb dX7_hangsOnOpen_14 rfl (lv_at hl 1 rfl) ?_
      obtain ⟨b6, e7, hf⟩ := mb0 hf
      refine my_gR hx hb hts hown hK hJ fd_RX7_167 hv_5_2 e7 dX7_hangsOnOpen_15 ?_
      refine lv_iload_n hx hb dX7_hangsOnOpen_18 rfl (lv_at hl 2 rfl) ?_
      obtain ⟨x8, e9, hf⟩ := mb0 hf
      refine mx_aI hx hb hK hJ e9 dX7_hangsOnOpen_19 ?_
      obtain ⟨b10, e11, hf⟩ := mb0 hf
      refine mx_aR hx hb hK hJ (t := 4) rfl (fun _ _ _ => rfl) e11 dX7_hangsOnOpen_20 ?_
      obtain ⟨x12, e13, hf⟩ := mb0 hf
      refine my_gI hx hb hts hown hK hJ fd_RX7_200 hv_5_15 e13 dX7_hangsOnOpen_21 ?_
      refine lv_iconst (v := 2) hx hb dX7_hangsOnOpen_24 (by decide) ?_
      refine lv_icmp_ne (tgt := 30) hx hb dX7_hangsOnOpen_25 (by decide) (fun c14 => ?_) (fun c14 => ?_)
      · rw [if_neg c14] at hf
        obtain ⟨x15, e16, hf⟩ := mb0 hf
        refine lv_iinc (v := x15) (lv' := [(2, .int x15), (0, .ref v0), (1, .ref v1)]) hx hb dX7_hangsOnOpen_30 hl (k := 2) rfl (by rw [← Option.some.inj e16]; rfl) (by decide) rfl (fun ls hl => ?_)
        refine lv_goto (tgt := 2) hx hb dX7_hangsOnOpen_33 (by decide) ?_
        exact Kb x15 τ (Option.some.inj hf).symm _ _ hJ ls (lv_sub hl [1, 2, 0] rfl)
      · rw [if_pos c14] at hf
        exact Ke0 τ (Option.some.inj hf).symm _ _ hJ ls (lv_sub hl [] rfl)
  have L2 : ∀ (v0 : Nat) (v1 : Nat) (n : Nat) (v2 : Int32) (τ : mx_S) (o : (mx_S) ⊕ (mx_S)), mx_lp (f_X7_hangsOnOpen_L2 P v0 v1) n (v2, τ) = some o → (∀  (υ : mx_S), o = (.inl υ) → ∀ (H : Heap) (locs : List Loc), mx_J G P s.heap (mxz σ) (mxu σ) υ H locs → ∀ ls : Array Slot, lv_has ls 3 [] → W p l e (mx_rm P 0 0 σ) s m ([.ref a0, .ref a1] : List Value).toArray below meth c H locs (mxz υ - mxz σ) (mxu υ - mxu σ) (mx_Z below G P (some (.int r)) σ σ' [.ref a0, .ref a1] s) (F0 m 28 ls [])) → (∀  (υ : mx_S), o = (.inr υ) → ∀ (H : Heap) (locs : List Loc), mx_J G P s.heap (mxz σ) (mxu σ) υ H locs → ∀ ls : Array Slot, lv_has ls 3 [] → W p l e (mx_rm P 0 0 σ) s m ([.ref a0, .ref a1] : List Value).toArray below meth c H locs (mxz υ - mxz σ) (mxu υ - mxu σ) (mx_Z below G P (some (.int r)) σ σ' [.ref a0, .ref a1] s) (F0 m 36 ls [])) → ∀ (H : Heap) (locs : List Loc), mx_J G P s.heap (mxz σ) (mxu σ) τ H locs → ∀ ls : Array Slot, lv_has ls 3 [(0, .ref v0), (1, .ref v1), (2, .int v2)] → W p l e (mx_rm P 0 0 σ) s m ([.ref a0, .ref a1] : List Value).toArray below meth c H locs (mxz τ - mxz σ) (mxu τ - mxu σ) (mx_Z below G P (some (.int r)) σ σ' [.ref a0, .ref a1] s) (F0 m 2 ls []) := by
    intro v0 v1 n
    induction n with
    | zero =>
      intro v2 τ o hf
      rw [mx_lp0] at hf
      cases hf
    | succ n ih =>
      intro v2 τ o hf Ke0 Ke1 H locs hJ ls hl
      rw [mx_lpS] at hf
      obtain ⟨b, eb, hf⟩ := mb0 hf
      refine B2 v0 v1 v2 τ b eb (fun y2 υ ho H locs hJ ls hl => ?_) (fun  υ ho H locs hJ ls hl => ?_) (fun  υ ho H locs hJ ls hl => ?_) H locs hJ ls hl
      · subst ho
        exact ih y2 υ o hf Ke0 Ke1 H locs hJ ls hl
      · subst ho
        exact Ke0  υ (Option.some.inj hf).symm _ _ hJ ls hl
      · subst ho
        exact Ke1  υ (Option.some.inj hf).symm _ _ hJ ls hl
  unfold f_X7_hangsOnOpen at hf
  refine lv_iconst (v := 0) hx hb dX7_hangsOnOpen_0 (by decide) ?_
  refine lv_istore_n (lv' := [(2, .int (0 : Int32)), (0, .ref a0), (1, .ref a1)]) hx hb dX7_hangsOnOpen_1 rfl hl (by decide) rfl (fun ls hl => ?_)
  obtain ⟨o17, e18, hf⟩ := mb0 hf
  refine L2 a0 a1 (mpN P) (0 : Int32) σ o17 e18 (fun σ19 ho H locs hJ ls hl => ?_) (fun σ20 ho H locs hJ ls hl => ?_) _ _ hJ ls (lv_sub hl [1, 2, 0] rfl)
  · rw [ho] at hf
    have hf : (mr_Z (1 : Int32) σ19) = some (r, σ') := hf
    refine lv_iconst (v := 1) hx hb dX7_hangsOnOpen_28 (by decide) ?_
    exact mx_zret hx hb hr hlocks hJ hf dX7_hangsOnOpen_29
  · rw [ho] at hf
    have hf : (mr_Z (0 : Int32) σ20) = some (r, σ') := hf
    refine lv_iconst (v := 0) hx hb dX7_hangsOnOpen_36 (by decide) ?_
    exact mx_zret hx hb hr hlocks hJ hf dX7_hangsOnOpen_37
set_option maxHeartbeats 4000000 in
set_option maxRecDepth 100000 in
theorem c_X8_shut (l : Launch) (G : mx_G) (P : mx_P) (a0 : Nat) (σ : mx_S) (σ' : mx_S) (hf : f_X8_shut P a0 σ = some σ') : mxz σ ≤ mpc P → mxu σ ≤ mps P → mx_M l yX8_shut cX8_shut 1 none 1 20 G P [.ref a0] σ none σ' := by
  intro hcap hcau
  refine mx_ofW (by decide +kernel) hcap hcau (Nat.le_of_ble_eq_true rfl) ?_
  intro p e s m below meth c hx hb hr hml hts hown hlocks hname hK hJ ls hl
  have hz0 := hJ.2.1
  have hown : s.vm.findClass RX8 = some m.cls := hown
  have hl : lv_has ls 1 [(0, .ref a0)] := hl
  unfold f_X8_shut at hf
  refine lv_aload_n hx hb dX8_shut_0 rfl (lv_at hl 0 rfl) ?_
  obtain ⟨b1, e2, hf⟩ := mb0 hf
  refine my_gR hx hb hts hown hK hJ fd_RX8_10 hv_8_0 e2 dX8_shut_1 ?_
  obtain ⟨i3, e4, hf⟩ := mb0 hf
  obtain ⟨σ5, e6, hf⟩ := mb0 hf
  refine mx_callV (As := []) (rest := []) hx hb hml hts hown hK hJ rfl rfl (ci := 0) rfl e4 (c_X0_shut l G P b1 σ σ5 e6) me_X0_shut kw_671 kw_672 kw_670 (Nat.le_of_ble_eq_true rfl) (Nat.le_of_ble_eq_true rfl) rfl hl.1 rfl (Nat.le_of_ble_eq_true rfl) dX8_shut_4 (fun H locs hJ => ?_)
  refine lv_aload_n hx hb dX8_shut_7 rfl (lv_at hl 0 rfl) ?_
  obtain ⟨b7, e8, hf⟩ := mb0 hf
  refine my_gR hx hb hts hown hK hJ fd_RX8_16 hv_8_1 e8 dX8_shut_8 ?_
  obtain ⟨i9, e10, hf⟩ := mb0 hf
  obtain ⟨σ11, e12, hf⟩ := mb0 hf
  refine mx_callV (As := []) (rest := []) hx hb hml hts hown hK hJ rfl rfl (ci := 0) rfl e10 (c_X0_shut l G P b7 σ5 σ11 e12) me_X0_shut kw_671 kw_672 kw_670 (Nat.le_of_ble_eq_true rfl) (Nat.le_of_ble_eq_true rfl) rfl hl.1 rfl (Nat.le_of_ble_eq_true rfl) dX8_shut_11 (fun H locs hJ => ?_)
  exact my_vret hx hb hr hlocks hJ hf dX8_shut_14
set_option maxHeartbeats 4000000 in
set_option maxRecDepth 100000 in
theorem c_X8_copy (l : Launch) (G : mx_G) (P : mx_P) (a0 : Nat) (a1 : Nat) (σ : mx_S) (σ' : mx_S) (hf : f_X8_copy P a0 a1 σ = some σ') : mxz σ ≤ mpc P → mxu σ ≤ mps P → mx_M l yX8_copy cX8_copy 2 none 1 21 G P [.ref a0, .ref a1] σ none σ' := by
  intro hcap hcau
  refine mx_ofW (by decide +kernel) hcap hcau (Nat.le_of_ble_eq_true rfl) ?_
  intro p e s m below meth c hx hb hr hml hts hown hlocks hname hK hJ ls hl
  have hz0 := hJ.2.1
  have hown : s.vm.findClass RX8 = some m.cls := hown
  have hl : lv_has ls 2 [(0, .ref a0), (1, .ref a1)] := hl
  unfold f_X8_copy at hf
  refine lv_aload_n hx hb dX8_copy_0 rfl (lv_at hl 0 rfl) ?_
  obtain ⟨b1, e2, hf⟩ := mb0 hf
  refine my_gR hx hb hts hown hK hJ fd_RX8_10 hv_8_0 e2 dX8_copy_1 ?_
  refine lv_aload_n hx hb dX8_copy_4 rfl (lv_at hl 1 rfl) ?_
  obtain ⟨b3, e4, hf⟩ := mb0 hf
  refine my_gR hx hb hts hown hK hJ fd_RX8_10 hv_8_0 e4 dX8_copy_5 ?_
  obtain ⟨i5, e6, hf⟩ := mb0 hf
  obtain ⟨σ7, e8, hf⟩ := mb0 hf
  refine mx_callV (As := [.ref b3]) (rest := []) hx hb hml hts hown hK hJ rfl rfl (ci := 0) rfl e6 (c_X0_copy l G P b1 b3 σ σ7 e8) me_X0_copy kw_683 kw_684 kw_682 (Nat.le_of_ble_eq_true rfl) (Nat.le_of_ble_eq_true rfl) rfl hl.1 rfl (Nat.le_of_ble_eq_true rfl) dX8_copy_8 (fun H locs hJ => ?_)
  refine lv_aload_n hx hb dX8_copy_11 rfl (lv_at hl 0 rfl) ?_
  obtain ⟨b9, e10, hf⟩ := mb0 hf
  refine my_gR hx hb hts hown hK hJ fd_RX8_16 hv_8_1 e10 dX8_copy_12 ?_
  refine lv_aload_n hx hb dX8_copy_15 rfl (lv_at hl 1 rfl) ?_
  obtain ⟨b11, e12, hf⟩ := mb0 hf
  refine my_gR hx hb hts hown hK hJ fd_RX8_16 hv_8_1 e12 dX8_copy_16 ?_
  obtain ⟨i13, e14, hf⟩ := mb0 hf
  obtain ⟨σ15, e16, hf⟩ := mb0 hf
  refine mx_callV (As := [.ref b11]) (rest := []) hx hb hml hts hown hK hJ rfl rfl (ci := 0) rfl e14 (c_X0_copy l G P b9 b11 σ7 σ15 e16) me_X0_copy kw_683 kw_684 kw_682 (Nat.le_of_ble_eq_true rfl) (Nat.le_of_ble_eq_true rfl) rfl hl.1 rfl (Nat.le_of_ble_eq_true rfl) dX8_copy_19 (fun H locs hJ => ?_)
  exact my_vret hx hb hr hlocks hJ hf dX8_copy_22
set_option maxHeartbeats 4000000 in
set_option maxRecDepth 100000 in
theorem c_X8_zero (l : Launch) (G : mx_G) (P : mx_P) (a0 : Nat) (σ : mx_S) (σ' : mx_S) (hf : f_X8_zero P a0 σ = some σ') : mxz σ ≤ mpc P → mxu σ ≤ mps P → mx_M l yX8_zero cX8_zero 1 none 1 24 G P [.ref a0] σ none σ' := by
  intro hcap hcau
  refine mx_ofW (by decide +kernel) hcap hcau (Nat.le_of_ble_eq_true rfl) ?_
  intro p e s m below meth c hx hb hr hml hts hown hlocks hname hK hJ ls hl
  have hz0 := hJ.2.1
  have hown : s.vm.findClass RX8 = some m.cls := hown
  have hl : lv_has ls 1 [(0, .ref a0)] := hl
  unfold f_X8_zero at hf
  refine lv_aload_n hx hb dX8_zero_0 rfl (lv_at hl 0 rfl) ?_
  obtain ⟨b1, e2, hf⟩ := mb0 hf
  refine my_gR hx hb hts hown hK hJ fd_RX8_10 hv_8_0 e2 dX8_zero_1 ?_
  refine lv_lconst (v := 0) hx hb dX8_zero_4 (by decide) ?_
  refine lv_lconst (v := 0) hx hb dX8_zero_5 (by decide) ?_
  obtain ⟨i3, e4, hf⟩ := mb0 hf
  obtain ⟨σ5, e6, hf⟩ := mb0 hf
  refine mx_callV (As := [.long (0 : Int64), .long (0 : Int64)]) (rest := []) hx hb hml hts hown hK hJ rfl rfl (ci := 0) rfl e4 (c_X0_keep l G P b1 (0 : Int64) (0 : Int64) σ σ5 e6) me_X0_keep kw_480 kw_481 kw_696 (Nat.le_of_ble_eq_true rfl) (Nat.le_of_ble_eq_true rfl) rfl hl.1 rfl (Nat.le_of_ble_eq_true rfl) dX8_zero_6 (fun H locs hJ => ?_)
  refine lv_aload_n hx hb dX8_zero_9 rfl (lv_at hl 0 rfl) ?_
  obtain ⟨b7, e8, hf⟩ := mb0 hf
  refine my_gR hx hb hts hown hK hJ fd_RX8_16 hv_8_1 e8 dX8_zero_10 ?_
  refine lv_lconst (v := 0) hx hb dX8_zero_13 (by decide) ?_
  refine lv_lconst (v := 0) hx hb dX8_zero_14 (by decide) ?_
  obtain ⟨i9, e10, hf⟩ := mb0 hf
  obtain ⟨σ11, e12, hf⟩ := mb0 hf
  refine mx_callV (As := [.long (0 : Int64), .long (0 : Int64)]) (rest := []) hx hb hml hts hown hK hJ rfl rfl (ci := 0) rfl e10 (c_X0_keep l G P b7 (0 : Int64) (0 : Int64) σ5 σ11 e12) me_X0_keep kw_480 kw_481 kw_696 (Nat.le_of_ble_eq_true rfl) (Nat.le_of_ble_eq_true rfl) rfl hl.1 rfl (Nat.le_of_ble_eq_true rfl) dX8_zero_15 (fun H locs hJ => ?_)
  exact my_vret hx hb hr hlocks hJ hf dX8_zero_18
set_option maxHeartbeats 4000000 in
set_option maxRecDepth 100000 in
theorem c_X8_product (l : Launch) (G : mx_G) (P : mx_P) (a0 : Nat) (a1 : Nat) (a2 : Nat) (σ : mx_S) (σ' : mx_S) (hf : f_X8_product P a0 a1 a2 σ = some σ') : mxz σ ≤ mpc P → mxu σ ≤ mps P → mx_M l yX8_product cX8_product 3 none 2 59 G P [.ref a0, .ref a1, .ref a2] σ none σ' := by
  intro hcap hcau
  refine mx_ofW (by decide +kernel) hcap hcau (Nat.le_of_ble_eq_true rfl) ?_
  intro p e s m below meth c hx hb hr hml hts hown hlocks hname hK hJ ls hl
  have hz0 := hJ.2.1
  have hown : s.vm.findClass RX8 = some m.cls := hown
  have hl : lv_has ls 3 [(0, .ref a0), (1, .ref a1), (2, .ref a2)] := hl
  unfold f_X8_product at hf
  refine lv_aload_n hx hb dX8_product_0 rfl (lv_at hl 0 rfl) ?_
  obtain ⟨b1, e2, hf⟩ := mb0 hf
  refine my_gR hx hb hts hown hK hJ fd_RX8_10 hv_8_0 e2 dX8_product_1 ?_
  refine lv_lconst (v := 0) hx hb dX8_product_4 (by decide) ?_
  refine lv_lconst (v := 0) hx hb dX8_product_5 (by decide) ?_
  obtain ⟨i3, e4, hf⟩ := mb0 hf
  obtain ⟨σ5, e6, hf⟩ := mb0 hf
  refine mx_callV (As := [.long (0 : Int64), .long (0 : Int64)]) (rest := []) hx hb hml hts hown hK hJ rfl rfl (ci := 0) rfl e4 (c_X0_keep l G P b1 (0 : Int64) (0 : Int64) σ σ5 e6) me_X0_keep kw_480 kw_481 kw_696 (Nat.le_of_ble_eq_true rfl) (Nat.le_of_ble_eq_true rfl) rfl hl.1 rfl (Nat.le_of_ble_eq_true rfl) dX8_product_6 (fun H locs hJ => ?_)
  refine lv_aload_n hx hb dX8_product_9 rfl (lv_at hl 0 rfl) ?_
  obtain ⟨b7, e8, hf⟩ := mb0 hf
  refine my_gR hx hb hts hown hK hJ fd_RX8_10 hv_8_0 e8 dX8_product_10 ?_
  refine lv_iconst (v := 1) hx hb dX8_product_13 (by decide) ?_
  refine lv_aload_n hx hb dX8_product_14 rfl (lv_at hl 1 rfl) ?_
  obtain ⟨b9, e10, hf⟩ := mb0 hf
  refine my_gR hx hb hts hown hK hJ fd_RX8_10 hv_8_0 e10 dX8_product_15 ?_
  refine lv_aload_n hx hb dX8_product_18 rfl (lv_at hl 2 rfl) ?_
  obtain ⟨b11, e12, hf⟩ := mb0 hf
  refine my_gR hx hb hts hown hK hJ fd_RX8_10 hv_8_0 e12 dX8_product_19 ?_
  obtain ⟨i13, e14, hf⟩ := mb0 hf
  obtain ⟨σ15, e16, hf⟩ := mb0 hf
  refine mx_callV (As := [.int (1 : Int32), .ref b9, .ref b11]) (rest := []) hx hb hml hts hown hK hJ rfl rfl (ci := 0) rfl e14 (c_X0_addProduct l G P b7 (1 : Int32) b9 b11 σ5 σ15 e16) me_X0_addProduct kw_705 kw_706 kw_704 (Nat.le_of_ble_eq_true rfl) (Nat.le_of_ble_eq_true rfl) rfl hl.1 rfl (Nat.le_of_ble_eq_true rfl) dX8_product_22 (fun H locs hJ => ?_)
  refine lv_aload_n hx hb dX8_product_25 rfl (lv_at hl 0 rfl) ?_
  obtain ⟨b17, e18, hf⟩ := mb0 hf
  refine my_gR hx hb hts hown hK hJ fd_RX8_10 hv_8_0 e18 dX8_product_26 ?_
  refine lv_iconst (v := (-1)) hx hb dX8_product_29 (by decide) ?_
  refine lv_aload_n hx hb dX8_product_30 rfl (lv_at hl 1 rfl) ?_
  obtain ⟨b19, e20, hf⟩ := mb0 hf
  refine my_gR hx hb hts hown hK hJ fd_RX8_16 hv_8_1 e20 dX8_product_31 ?_
  refine lv_aload_n hx hb dX8_product_34 rfl (lv_at hl 2 rfl) ?_
  obtain ⟨b21, e22, hf⟩ := mb0 hf
  refine my_gR hx hb hts hown hK hJ fd_RX8_16 hv_8_1 e22 dX8_product_35 ?_
  obtain ⟨i23, e24, hf⟩ := mb0 hf
  obtain ⟨σ25, e26, hf⟩ := mb0 hf
  refine mx_callV (As := [.int (-1 : Int32), .ref b19, .ref b21]) (rest := []) hx hb hml hts hown hK hJ rfl rfl (ci := 0) rfl e24 (c_X0_addProduct l G P b17 (-1 : Int32) b19 b21 σ15 σ25 e26) me_X0_addProduct kw_705 kw_706 kw_704 (Nat.le_of_ble_eq_true rfl) (Nat.le_of_ble_eq_true rfl) rfl hl.1 rfl (Nat.le_of_ble_eq_true rfl) dX8_product_38 (fun H locs hJ => ?_)
  refine lv_aload_n hx hb dX8_product_41 rfl (lv_at hl 0 rfl) ?_
  obtain ⟨b27, e28, hf⟩ := mb0 hf
  refine my_gR hx hb hts hown hK hJ fd_RX8_16 hv_8_1 e28 dX8_product_42 ?_
  refine lv_lconst (v := 0) hx hb dX8_product_45 (by decide) ?_
  refine lv_lconst (v := 0) hx hb dX8_product_46 (by decide) ?_
  obtain ⟨i29, e30, hf⟩ := mb0 hf
  obtain ⟨σ31, e32, hf⟩ := mb0 hf
  refine mx_callV (As := [.long (0 : Int64), .long (0 : Int64)]) (rest := []) hx hb hml hts hown hK hJ rfl rfl (ci := 0) rfl e30 (c_X0_keep l G P b27 (0 : Int64) (0 : Int64) σ25 σ31 e32) me_X0_keep kw_480 kw_481 kw_696 (Nat.le_of_ble_eq_true rfl) (Nat.le_of_ble_eq_true rfl) rfl hl.1 rfl (Nat.le_of_ble_eq_true rfl) dX8_product_47 (fun H locs hJ => ?_)
  refine lv_aload_n hx hb dX8_product_50 rfl (lv_at hl 0 rfl) ?_
  obtain ⟨b33, e34, hf⟩ := mb0 hf
  refine my_gR hx hb hts hown hK hJ fd_RX8_16 hv_8_1 e34 dX8_product_51 ?_
  refine lv_iconst (v := 1) hx hb dX8_product_54 (by decide) ?_
  refine lv_aload_n hx hb dX8_product_55 rfl (lv_at hl 1 rfl) ?_
  obtain ⟨b35, e36, hf⟩ := mb0 hf
  refine my_gR hx hb hts hown hK hJ fd_RX8_10 hv_8_0 e36 dX8_product_56 ?_
  refine lv_aload_n hx hb dX8_product_59 rfl (lv_at hl 2 rfl) ?_
  obtain ⟨b37, e38, hf⟩ := mb0 hf
  refine my_gR hx hb hts hown hK hJ fd_RX8_16 hv_8_1 e38 dX8_product_60 ?_
  obtain ⟨i39, e40, hf⟩ := mb0 hf
  obtain ⟨σ41, e42, hf⟩ := mb0 hf
  refine mx_callV (As := [.int (1 : Int32), .ref b35, .ref b37]) (rest := []) hx hb hml hts hown hK hJ rfl rfl (ci := 0) rfl e40 (c_X0_addProduct l G P b33 (1 : Int32) b35 b37 σ31 σ41 e42) me_X0_addProduct kw_705 kw_706 kw_704 (Nat.le_of_ble_eq_true rfl) (Nat.le_of_ble_eq_true rfl) rfl hl.1 rfl (Nat.le_of_ble_eq_true rfl) dX8_product_63 (fun H locs hJ => ?_)
  refine lv_aload_n hx hb dX8_product_66 rfl (lv_at hl 0 rfl) ?_
  obtain ⟨b43, e44, hf⟩ := mb0 hf
  refine my_gR hx hb hts hown hK hJ fd_RX8_16 hv_8_1 e44 dX8_product_67 ?_
  refine lv_iconst (v := 1) hx hb dX8_product_70 (by decide) ?_
  refine lv_aload_n hx hb dX8_product_71 rfl (lv_at hl 1 rfl) ?_
  obtain ⟨b45, e46, hf⟩ := mb0 hf
  refine my_gR hx hb hts hown hK hJ fd_RX8_16 hv_8_1 e46 dX8_product_72 ?_
  refine lv_aload_n hx hb dX8_product_75 rfl (lv_at hl 2 rfl) ?_
  obtain ⟨b47, e48, hf⟩ := mb0 hf
  refine my_gR hx hb hts hown hK hJ fd_RX8_10 hv_8_0 e48 dX8_product_76 ?_
  obtain ⟨i49, e50, hf⟩ := mb0 hf
  obtain ⟨σ51, e52, hf⟩ := mb0 hf
  refine mx_callV (As := [.int (1 : Int32), .ref b45, .ref b47]) (rest := []) hx hb hml hts hown hK hJ rfl rfl (ci := 0) rfl e50 (c_X0_addProduct l G P b43 (1 : Int32) b45 b47 σ41 σ51 e52) me_X0_addProduct kw_705 kw_706 kw_704 (Nat.le_of_ble_eq_true rfl) (Nat.le_of_ble_eq_true rfl) rfl hl.1 rfl (Nat.le_of_ble_eq_true rfl) dX8_product_79 (fun H locs hJ => ?_)
  exact my_vret hx hb hr hlocks hJ hf dX8_product_82
set_option maxHeartbeats 4000000 in
set_option maxRecDepth 100000 in
theorem c_X8_add (l : Launch) (G : mx_G) (P : mx_P) (a0 : Nat) (a1 : Nat) (a2 : Nat) (σ : mx_S) (σ' : mx_S) (hf : f_X8_add P a0 a1 a2 σ = some σ') : mxz σ ≤ mpc P → mxu σ ≤ mps P → mx_M l yX8_add cX8_add 3 none 2 59 G P [.ref a0, .ref a1, .ref a2] σ none σ' := by
  intro hcap hcau
  refine mx_ofW (by decide +kernel) hcap hcau (Nat.le_of_ble_eq_true rfl) ?_
  intro p e s m below meth c hx hb hr hml hts hown hlocks hname hK hJ ls hl
  have hz0 := hJ.2.1
  have hown : s.vm.findClass RX8 = some m.cls := hown
  have hl : lv_has ls 3 [(0, .ref a0), (1, .ref a1), (2, .ref a2)] := hl
  unfold f_X8_add at hf
  refine lv_aload_n hx hb dX8_add_0 rfl (lv_at hl 0 rfl) ?_
  obtain ⟨b1, e2, hf⟩ := mb0 hf
  refine my_gR hx hb hts hown hK hJ fd_RX8_10 hv_8_0 e2 dX8_add_1 ?_
  refine lv_iconst (v := 1) hx hb dX8_add_4 (by decide) ?_
  refine lv_aload_n hx hb dX8_add_5 rfl (lv_at hl 1 rfl) ?_
  refine lv_aload_n hx hb dX8_add_6 rfl (lv_at hl 2 rfl) ?_
  obtain ⟨b3, e4, hf⟩ := mb0 hf
  refine my_gR hx hb hts hown hK hJ fd_RX8_10 hv_8_0 e4 dX8_add_7 ?_
  obtain ⟨i5, e6, hf⟩ := mb0 hf
  obtain ⟨σ7, e8, hf⟩ := mb0 hf
  refine mx_callV (As := [.int (1 : Int32), .ref a1, .ref b3]) (rest := []) hx hb hml hts hown hK hJ rfl rfl (ci := 0) rfl e6 (c_X0_addProduct l G P b1 (1 : Int32) a1 b3 σ σ7 e8) me_X0_addProduct kw_705 kw_706 kw_704 (Nat.le_of_ble_eq_true rfl) (Nat.le_of_ble_eq_true rfl) rfl hl.1 rfl (Nat.le_of_ble_eq_true rfl) dX8_add_10 (fun H locs hJ => ?_)
  refine lv_aload_n hx hb dX8_add_13 rfl (lv_at hl 0 rfl) ?_
  obtain ⟨b9, e10, hf⟩ := mb0 hf
  refine my_gR hx hb hts hown hK hJ fd_RX8_16 hv_8_1 e10 dX8_add_14 ?_
  refine lv_iconst (v := 1) hx hb dX8_add_17 (by decide) ?_
  refine lv_aload_n hx hb dX8_add_18 rfl (lv_at hl 1 rfl) ?_
  refine lv_aload_n hx hb dX8_add_19 rfl (lv_at hl 2 rfl) ?_
  obtain ⟨b11, e12, hf⟩ := mb0 hf
  refine my_gR hx hb hts hown hK hJ fd_RX8_16 hv_8_1 e12 dX8_add_20 ?_
  obtain ⟨i13, e14, hf⟩ := mb0 hf
  obtain ⟨σ15, e16, hf⟩ := mb0 hf
  refine mx_callV (As := [.int (1 : Int32), .ref a1, .ref b11]) (rest := []) hx hb hml hts hown hK hJ rfl rfl (ci := 0) rfl e14 (c_X0_addProduct l G P b9 (1 : Int32) a1 b11 σ7 σ15 e16) me_X0_addProduct kw_705 kw_706 kw_704 (Nat.le_of_ble_eq_true rfl) (Nat.le_of_ble_eq_true rfl) rfl hl.1 rfl (Nat.le_of_ble_eq_true rfl) dX8_add_23 (fun H locs hJ => ?_)
  exact my_vret hx hb hr hlocks hJ hf dX8_add_26
set_option maxHeartbeats 4000000 in
set_option maxRecDepth 100000 in
theorem c_X8_isOpen (l : Launch) (G : mx_G) (P : mx_P) (a0 : Nat) (σ : mx_S) (r : Int32) (σ' : mx_S) (hf : f_X8_isOpen P a0 σ = some (r, σ')) : mxz σ ≤ mpc P → mxu σ ≤ mps P → mx_M l yX8_isOpen cX8_isOpen 1 (some .boolean) 0 0 G P [.ref a0] σ (some (.int r)) σ' := by
  intro hcap hcau
  refine mx_ofW (by decide +kernel) hcap hcau (Nat.le_of_ble_eq_true rfl) ?_
  intro p e s m below meth c hx hb hr hml hts hown hlocks hname hK hJ ls hl
  have hz0 := hJ.2.1
  have hown : s.vm.findClass RX8 = some m.cls := hown
  have hl : lv_has ls 1 [(0, .ref a0)] := hl
  have D25 : ∀ (w0 : Int32) (τ : mx_S), f_X8_isOpen_D25 P w0 τ = some (r, σ') → ∀ (H : Heap) (locs : List Loc), mx_J G P s.heap (mxz σ) (mxu σ) τ H locs → ∀ ls : Array Slot, lv_has ls 1 [] → W p l e (mx_rm P 0 0 σ) s m ([.ref a0] : List Value).toArray below meth c H locs (mxz τ - mxz σ) (mxu τ - mxu σ) (mx_Z below G P (some (.int r)) σ σ' [.ref a0] s) (F0 m 25 ls [.int w0]) := by
    intro w0 τ hf _ _ hJ ls hl
    unfold f_X8_isOpen_D25 at hf
    exact mx_zret hx hb hr hlocks hJ hf dX8_isOpen_25
  have D20 : ∀  (τ : mx_S), f_X8_isOpen_D20 P  τ = some (r, σ') → ∀ (H : Heap) (locs : List Loc), mx_J G P s.heap (mxz σ) (mxu σ) τ H locs → ∀ ls : Array Slot, lv_has ls 1 [] → W p l e (mx_rm P 0 0 σ) s m ([.ref a0] : List Value).toArray below meth c H locs (mxz τ - mxz σ) (mxu τ - mxu σ) (mx_Z below G P (some (.int r)) σ σ' [.ref a0] s) (F0 m 20 ls []) := by
    intro  τ hf _ _ hJ ls hl
    unfold f_X8_isOpen_D20 at hf
    refine lv_iconst (v := 1) hx hb dX8_isOpen_20 (by decide) ?_
    refine lv_goto (tgt := 25) hx hb dX8_isOpen_21 (by decide) ?_
    exact D25 (1 : Int32) τ hf _ _ hJ ls (lv_sub hl [] rfl)
  unfold f_X8_isOpen at hf
  refine lv_aload_n hx hb dX8_isOpen_0 rfl (lv_at hl 0 rfl) ?_
  obtain ⟨b1, e2, hf⟩ := mb0 hf
  refine my_gR hx hb hts hown hK hJ fd_RX8_10 hv_8_0 e2 dX8_isOpen_1 ?_
  obtain ⟨x3, e4, hf⟩ := mb0 hf
  refine my_gI hx hb hts hown hK hJ fd_RX8_19 hv_0_2 e4 dX8_isOpen_4 ?_
  refine lv_if_ne (tgt := 20) hx hb dX8_isOpen_7 (by decide) (fun c5 => ?_) (fun c5 => ?_)
  · rw [if_neg c5] at hf
    exact D20  σ hf _ _ hJ ls (lv_sub hl [] rfl)
  · rw [if_pos c5] at hf
    refine lv_aload_n hx hb dX8_isOpen_10 rfl (lv_at hl 0 rfl) ?_
    obtain ⟨b6, e7, hf⟩ := mb0 hf
    refine my_gR hx hb hts hown hK hJ fd_RX8_16 hv_8_1 e7 dX8_isOpen_11 ?_
    obtain ⟨x8, e9, hf⟩ := mb0 hf
    refine my_gI hx hb hts hown hK hJ fd_RX8_19 hv_0_2 e9 dX8_isOpen_14 ?_
    refine lv_if_eq (tgt := 24) hx hb dX8_isOpen_17 (by decide) (fun c10 => ?_) (fun c10 => ?_)
    · rw [if_pos c10] at hf
      refine lv_iconst (v := 0) hx hb dX8_isOpen_24 (by decide) ?_
      exact D25 (0 : Int32) σ hf _ _ hJ ls (lv_sub hl [] rfl)
    · rw [if_neg c10] at hf
      exact D20  σ hf _ _ hJ ls (lv_sub hl [] rfl)
set_option maxHeartbeats 4000000 in
set_option maxRecDepth 100000 in
theorem c_X7_openOr (l : Launch) (G : mx_G) (P : mx_P) (a0 : Nat) (p1 : Int32) (σ : mx_S) (r : Int32) (σ' : mx_S) (hf : f_X7_openOr P a0 p1 σ = some (r, σ')) : mxz σ ≤ mpc P → mxu σ ≤ mps P → mx_M l yX7_openOr cX7_openOr 2 (some .int) 1 20 G P [.ref a0, .int p1] σ (some (.int r)) σ' := by
  intro hcap hcau
  refine mx_ofW (by decide +kernel) hcap hcau (Nat.le_of_ble_eq_true rfl) ?_
  intro p e s m below meth c hx hb hr hml hts hown hlocks hname hK hJ ls hl
  have hz0 := hJ.2.1
  have hown : s.vm.findClass RX7 = some m.cls := hown
  have hl : lv_has ls 2 [(0, .ref a0), (1, .int p1)] := hl
  have D15 : ∀ (w0 : Int32) (τ : mx_S), f_X7_openOr_D15 P w0 τ = some (r, σ') → ∀ (H : Heap) (locs : List Loc), mx_J G P s.heap (mxz σ) (mxu σ) τ H locs → ∀ ls : Array Slot, lv_has ls 2 [] → W p l e (mx_rm P 1 20 σ) s m ([.ref a0, .int p1] : List Value).toArray below meth c H locs (mxz τ - mxz σ) (mxu τ - mxu σ) (mx_Z below G P (some (.int r)) σ σ' [.ref a0, .int p1] s) (F0 m 15 ls [.int w0]) := by
    intro w0 τ hf _ _ hJ ls hl
    unfold f_X7_openOr_D15 at hf
    exact my_iret hx hb hr hlocks hJ hf dX7_openOr_15
  unfold f_X7_openOr at hf
  refine lv_aload_n hx hb dX7_openOr_0 rfl (lv_at hl 0 rfl) ?_
  obtain ⟨b1, e2, hf⟩ := mb0 hf
  refine my_gR hx hb hts hown hK hJ fd_RX7_194 hv_5_12 e2 dX7_openOr_1 ?_
  obtain ⟨i3, e4, hf⟩ := mb0 hf
  obtain ⟨x6, σ5, e7, hf⟩ := mc0 hf
  refine mx_callV (As := []) (rest := []) hx hb hml hts hown hK hJ rfl rfl (ci := 8) rfl e4 (c_X8_isOpen l G P b1 σ x6 σ5 e7) me_X8_isOpen kw_722 kw_723 kw_721 (Nat.le_of_ble_eq_true rfl) (Nat.le_of_ble_eq_true rfl) rfl hl.1 rfl (Nat.le_of_ble_eq_true rfl) dX7_openOr_4 (fun H locs hJ => ?_)
  refine lv_if_eq (tgt := 14) hx hb dX7_openOr_7 (by decide) (fun c8 => ?_) (fun c8 => ?_)
  · rw [if_pos c8] at hf
    refine lv_iload_n hx hb dX7_openOr_14 rfl (lv_at hl 1 rfl) ?_
    exact D15 p1 σ5 hf _ _ hJ ls (lv_sub hl [] rfl)
  · rw [if_neg c8] at hf
    refine lv_iconst (v := 2) hx hb dX7_openOr_10 (by decide) ?_
    refine lv_goto (tgt := 15) hx hb dX7_openOr_11 (by decide) ?_
    exact D15 (2 : Int32) σ5 hf _ _ hJ ls (lv_sub hl [] rfl)
set_option maxHeartbeats 4000000 in
set_option maxRecDepth 100000 in
theorem c_X7_placeCrank (l : Launch) (G : mx_G) (P : mx_P) (a0 : Nat) (a1 : Nat) (σ : mx_S) (r : Int32) (σ' : mx_S) (hf : f_X7_placeCrank P a0 a1 σ = some (r, σ')) : mxz σ ≤ mpc P → mxu σ ≤ mps P → mx_M l yX7_placeCrank cX7_placeCrank 3 (some .int) 3 81 G P [.ref a0, .ref a1] σ (some (.int r)) σ' := by
  intro hcap hcau
  refine mx_ofW (by decide +kernel) hcap hcau (Nat.le_of_ble_eq_true rfl) ?_
  intro p e s m below meth c hx hb hr hml hts hown hlocks hname hK hJ ls hl
  have hz0 := hJ.2.1
  have hown : s.vm.findClass RX7 = some m.cls := hown
  have hl : lv_has ls 3 [(0, .ref a0), (1, .ref a1)] := hl
  have B83 : ∀ (v0 : Nat) (v1 : Nat) (v2 : Int32) (τ : mx_S) (o : (Int32 × mx_S) ⊕ ((mx_S))), f_X7_placeCrank_B83 P v0 v1 v2 τ = some o → (∀ (y2 : Int32) (υ : mx_S), o = .inl (y2, υ) → ∀ (H : Heap) (locs : List Loc), mx_J G P s.heap (mxz σ) (mxu σ) υ H locs → ∀ ls : Array Slot, lv_has ls 3 [(0, .ref v0), (1, .ref v1), (2, .int y2)] → W p l e (mx_rm P 3 81 σ) s m ([.ref a0, .ref a1] : List Value).toArray below meth c H locs (mxz υ - mxz σ) (mxu υ - mxu σ) (mx_Z below G P (some (.int r)) σ σ' [.ref a0, .ref a1] s) (F0 m 83 ls [])) → (∀  (υ : mx_S), o = .inr υ → ∀ (H : Heap) (locs : List Loc), mx_J G P s.heap (mxz σ) (mxu σ) υ H locs → ∀ ls : Array Slot, lv_has ls 3 [(0, .ref v0), (1, .ref v1)] → W p l e (mx_rm P 3 81 σ) s m ([.ref a0, .ref a1] : List Value).toArray below meth c H locs (mxz υ - mxz σ) (mxu υ - mxu σ) (mx_Z below G P (some (.int r)) σ σ' [.ref a0, .ref a1] s) (F0 m 126 ls [])) → ∀ (H : Heap) (locs : List Loc), mx_J G P s.heap (mxz σ) (mxu σ) τ H locs → ∀ ls : Array Slot, lv_has ls 3 [(0, .ref v0), (1, .ref v1), (2, .int v2)] → W p l e (mx_rm P 3 81 σ) s m ([.ref a0, .ref a1] : List Value).toArray below meth c H locs (mxz τ - mxz σ) (mxu τ - mxu σ) (mx_Z below G P (some (.int r)) σ σ' [.ref a0, .ref a1] s) (F0 m 83 ls []) := by
    intro v0 v1 v2 τ o hf Kb Ke0 H locs hJ ls hl
    unfold f_X7_placeCrank_B83 at hf
    refine lv_iload_n hx hb dX7_placeCrank_83 rfl (lv_at hl 2 rfl) ?_
    refine lv_aload_n hx hb dX7_placeCrank_84 rfl (lv_at hl 1 rfl) ?_
    obtain ⟨x27, e28, hf⟩ := mb0 hf
    refine my_gI hx hb hts hown hK hJ fd_RX7_253 hv_5_5 e28 dX7_placeCrank_85 ?_
    obtain ⟨x30, σ29, e31, hf⟩ := mc0 hf
    refine mx_callS (As := [.int x27]) (rest := [.int v2]) hx hb hml hts hown hK hJ rfl rfl (c_J9_abs_0f7a4 l G P x27 τ x30 σ29 e31) me_J9_abs_0f7a4 kw_698 kw_697 (Nat.le_of_ble_eq_true rfl) (Nat.le_of_ble_eq_true rfl) rfl hl.1 rfl (Nat.le_of_ble_eq_true rfl) dX7_placeCrank_88 (fun H locs hJ => ?_)
    refine lv_icmp_ge (tgt := 126) hx hb dX7_placeCrank_91 (by decide) (fun c32 => ?_) (fun c32 => ?_)
    · rw [if_pos c32] at hf
      exact Ke0 σ29 (Option.some.inj hf).symm _ _ hJ ls (lv_sub hl [0, 1] rfl)
    · rw [if_neg c32] at hf
      refine lv_aload_n hx hb dX7_placeCrank_94 rfl (lv_at hl 0 rfl) ?_
      obtain ⟨b33, e34, hf⟩ := mb0 hf
      refine my_gR hx hb hts hown hK hJ fd_RX7_52 hv_7_12 e34 dX7_placeCrank_95 ?_
      refine lv_aload_n hx hb dX7_placeCrank_98 rfl (lv_at hl 1 rfl) ?_
      obtain ⟨b35, e36, hf⟩ := mb0 hf
      refine my_gR hx hb hts hown hK hJ fd_RX7_259 hv_5_13 e36 dX7_placeCrank_99 ?_
      refine lv_aload_n hx hb dX7_placeCrank_102 rfl (lv_at hl 0 rfl) ?_
      obtain ⟨b37, e38, hf⟩ := mb0 hf
      refine my_gR hx hb hts hown hK hJ fd_RX7_48 hv_7_11 e38 dX7_placeCrank_103 ?_
      obtain ⟨i39, e40, hf⟩ := mb0 hf
      obtain ⟨σ41, e42, hf⟩ := mb0 hf
      refine mx_callV (As := [.ref b35, .ref b37]) (rest := []) hx hb hml hts hown hK hJ rfl rfl (ci := 8) rfl e40 (c_X8_product l G P b33 b35 b37 σ29 σ41 e42) me_X8_product kw_701 kw_702 kw_700 (Nat.le_of_ble_eq_true rfl) (Nat.le_of_ble_eq_true rfl) rfl hl.1 rfl (Nat.le_of_ble_eq_true rfl) dX7_placeCrank_106 (fun H locs hJ => ?_)
      refine lv_aload_n hx hb dX7_placeCrank_109 rfl (lv_at hl 1 rfl) ?_
      obtain ⟨b43, e44, hf⟩ := mb0 hf
      refine my_gR hx hb hts hown hK hJ fd_RX7_259 hv_5_13 e44 dX7_placeCrank_110 ?_
      refine lv_aload_n hx hb dX7_placeCrank_113 rfl (lv_at hl 0 rfl) ?_
      obtain ⟨b45, e46, hf⟩ := mb0 hf
      refine my_gR hx hb hts hown hK hJ fd_RX7_52 hv_7_12 e46 dX7_placeCrank_114 ?_
      obtain ⟨i47, e48, hf⟩ := mb0 hf
      obtain ⟨σ49, e50, hf⟩ := mb0 hf
      refine mx_callV (As := [.ref b45]) (rest := []) hx hb hml hts hown hK hJ rfl rfl (ci := 8) rfl e48 (c_X8_copy l G P b43 b45 σ41 σ49 e50) me_X8_copy kw_679 kw_680 kw_678 (Nat.le_of_ble_eq_true rfl) (Nat.le_of_ble_eq_true rfl) rfl hl.1 rfl (Nat.le_of_ble_eq_true rfl) dX7_placeCrank_117 (fun H locs hJ => ?_)
      obtain ⟨x51, e52, hf⟩ := mb0 hf
      refine lv_iinc (v := x51) (lv' := [(2, .int x51), (0, .ref v0), (1, .ref v1)]) hx hb dX7_placeCrank_120 hl (k := 2) rfl (by rw [← Option.some.inj e52]; rfl) (by decide) rfl (fun ls hl => ?_)
      refine lv_goto (tgt := 83) hx hb dX7_placeCrank_123 (by decide) ?_
      exact Kb x51 σ49 (Option.some.inj hf).symm _ _ hJ ls (lv_sub hl [1, 2, 0] rfl)
  have L83 : ∀ (v0 : Nat) (v1 : Nat) (n : Nat) (v2 : Int32) (τ : mx_S) (o : (mx_S)), mx_lp (f_X7_placeCrank_L83 P v0 v1) n (v2, τ) = some o → (∀  (υ : mx_S), o = υ → ∀ (H : Heap) (locs : List Loc), mx_J G P s.heap (mxz σ) (mxu σ) υ H locs → ∀ ls : Array Slot, lv_has ls 3 [(0, .ref v0), (1, .ref v1)] → W p l e (mx_rm P 3 81 σ) s m ([.ref a0, .ref a1] : List Value).toArray below meth c H locs (mxz υ - mxz σ) (mxu υ - mxu σ) (mx_Z below G P (some (.int r)) σ σ' [.ref a0, .ref a1] s) (F0 m 126 ls [])) → ∀ (H : Heap) (locs : List Loc), mx_J G P s.heap (mxz σ) (mxu σ) τ H locs → ∀ ls : Array Slot, lv_has ls 3 [(0, .ref v0), (1, .ref v1), (2, .int v2)] → W p l e (mx_rm P 3 81 σ) s m ([.ref a0, .ref a1] : List Value).toArray below meth c H locs (mxz τ - mxz σ) (mxu τ - mxu σ) (mx_Z below G P (some (.int r)) σ σ' [.ref a0, .ref a1] s) (F0 m 83 ls []) := by
    intro v0 v1 n
    induction n with
    | zero =>
      intro v2 τ o hf
      rw [mx_lp0] at hf
      cases hf
    | succ n ih =>
      intro v2 τ o hf Ke0 H locs hJ ls hl
      rw [mx_lpS] at hf
      obtain ⟨b, eb, hf⟩ := mb0 hf
      refine B83 v0 v1 v2 τ b eb (fun y2 υ ho H locs hJ ls hl => ?_) (fun  υ ho H locs hJ ls hl => ?_) H locs hJ ls hl
      · subst ho
        exact ih y2 υ o hf Ke0 H locs hJ ls hl
      · subst ho
        exact Ke0  υ (Option.some.inj hf).symm _ _ hJ ls hl
  have D81 : ∀ (v0 : Nat) (v1 : Nat) (τ : mx_S), f_X7_placeCrank_D81 P v0 v1 τ = some (r, σ') → ∀ (H : Heap) (locs : List Loc), mx_J G P s.heap (mxz σ) (mxu σ) τ H locs → ∀ ls : Array Slot, lv_has ls 3 [(0, .ref v0), (1, .ref v1)] → W p l e (mx_rm P 3 81 σ) s m ([.ref a0, .ref a1] : List Value).toArray below meth c H locs (mxz τ - mxz σ) (mxu τ - mxu σ) (mx_Z below G P (some (.int r)) σ σ' [.ref a0, .ref a1] s) (F0 m 81 ls []) := by
    intro v0 v1 τ hf _ _ hJ ls hl
    unfold f_X7_placeCrank_D81 at hf
    refine lv_iconst (v := 1) hx hb dX7_placeCrank_81 (by decide) ?_
    refine lv_istore_n (lv' := [(2, .int (1 : Int32)), (0, .ref v0), (1, .ref v1)]) hx hb dX7_placeCrank_82 rfl hl (by decide) rfl (fun ls hl => ?_)
    obtain ⟨o53, e54, hf⟩ := mb0 hf
    refine L83 v0 v1 (mpN P) (1 : Int32) τ o53 e54 (fun σ55 ho H locs hJ ls hl => ?_) _ _ hJ ls (lv_sub hl [1, 2, 0] rfl)
    · rw [ho] at hf
      have hf : ((mg_R σ55 v0 7 12).bind fun b56 => (mg_R σ55 v1 5 13).bind fun b58 => (mg_R σ55 v1 5 11).bind fun b60 => (mx_is σ55 b56 8).bind fun i62 => (f_X8_product P b56 b58 b60 σ55).bind fun σ64 => (mg_R σ64 v1 5 13).bind fun b66 => (mg_R σ64 v0 7 12).bind fun b68 => (mx_is σ64 b66 8).bind fun i70 => (f_X8_copy P b66 b68 σ64).bind fun σ72 => (mg_R σ72 v1 5 12).bind fun b74 => (mg_R σ72 v0 7 0).bind fun b76 => (mg_R σ72 v1 5 2).bind fun b78 => (ma_I σ72 b78 0 (0 : Int32)).bind fun x80 => (ma_R σ72 b76 4 x80).bind fun b82 => (mg_R σ72 b82 5 12).bind fun b84 => (mx_is σ72 b74 8).bind fun i86 => (f_X8_copy P b74 b84 σ72).bind fun σ88 => (mg_R σ88 v1 5 12).bind fun b90 => (mg_R σ88 v1 5 9).bind fun b92 => (mg_R σ88 v1 5 13).bind fun b94 => (mx_is σ88 b90 8).bind fun i96 => (f_X8_add P b90 b92 b94 σ88).bind fun σ98 => mx_b2 (f_X7_openOr P v1 (0 : Int32) σ98) fun x101 σ100 => some (x101, σ100)) = some (r, σ') := hf
      refine lv_aload_n hx hb dX7_placeCrank_126 rfl (lv_at hl 0 rfl) ?_
      obtain ⟨b56, e57, hf⟩ := mb0 hf
      refine my_gR hx hb hts hown hK hJ fd_RX7_52 hv_7_12 e57 dX7_placeCrank_127 ?_
      refine lv_aload_n hx hb dX7_placeCrank_130 rfl (lv_at hl 1 rfl) ?_
      obtain ⟨b58, e59, hf⟩ := mb0 hf
      refine my_gR hx hb hts hown hK hJ fd_RX7_259 hv_5_13 e59 dX7_placeCrank_131 ?_
      refine lv_aload_n hx hb dX7_placeCrank_134 rfl (lv_at hl 1 rfl) ?_
      obtain ⟨b60, e61, hf⟩ := mb0 hf
      refine my_gR hx hb hts hown hK hJ fd_RX7_275 hv_5_11 e61 dX7_placeCrank_135 ?_
      obtain ⟨i62, e63, hf⟩ := mb0 hf
      obtain ⟨σ64, e65, hf⟩ := mb0 hf
      refine mx_callV (As := [.ref b58, .ref b60]) (rest := []) hx hb hml hts hown hK hJ rfl rfl (ci := 8) rfl e63 (c_X8_product l G P b56 b58 b60 σ55 σ64 e65) me_X8_product kw_701 kw_702 kw_700 (Nat.le_of_ble_eq_true rfl) (Nat.le_of_ble_eq_true rfl) rfl hl.1 rfl (Nat.le_of_ble_eq_true rfl) dX7_placeCrank_138 (fun H locs hJ => ?_)
      refine lv_aload_n hx hb dX7_placeCrank_141 rfl (lv_at hl 1 rfl) ?_
      obtain ⟨b66, e67, hf⟩ := mb0 hf
      refine my_gR hx hb hts hown hK hJ fd_RX7_259 hv_5_13 e67 dX7_placeCrank_142 ?_
      refine lv_aload_n hx hb dX7_placeCrank_145 rfl (lv_at hl 0 rfl) ?_
      obtain ⟨b68, e69, hf⟩ := mb0 hf
      refine my_gR hx hb hts hown hK hJ fd_RX7_52 hv_7_12 e69 dX7_placeCrank_146 ?_
      obtain ⟨i70, e71, hf⟩ := mb0 hf
      obtain ⟨σ72, e73, hf⟩ := mb0 hf
      refine mx_callV (As := [.ref b68]) (rest := []) hx hb hml hts hown hK hJ rfl rfl (ci := 8) rfl e71 (c_X8_copy l G P b66 b68 σ64 σ72 e73) me_X8_copy kw_679 kw_680 kw_678 (Nat.le_of_ble_eq_true rfl) (Nat.le_of_ble_eq_true rfl) rfl hl.1 rfl (Nat.le_of_ble_eq_true rfl) dX7_placeCrank_149 (fun H locs hJ => ?_)
      refine lv_aload_n hx hb dX7_placeCrank_152 rfl (lv_at hl 1 rfl) ?_
      obtain ⟨b74, e75, hf⟩ := mb0 hf
      refine my_gR hx hb hts hown hK hJ fd_RX7_194 hv_5_12 e75 dX7_placeCrank_153 ?_
      refine lv_aload_n hx hb dX7_placeCrank_156 rfl (lv_at hl 0 rfl) ?_
      obtain ⟨b76, e77, hf⟩ := mb0 hf
      refine my_gR hx hb hts hown hK hJ fd_RX7_11 hv_7_0 e77 dX7_placeCrank_157 ?_
      refine lv_aload_n hx hb dX7_placeCrank_160 rfl (lv_at hl 1 rfl) ?_
      obtain ⟨b78, e79, hf⟩ := mb0 hf
      refine my_gR hx hb hts hown hK hJ fd_RX7_167 hv_5_2 e79 dX7_placeCrank_161 ?_
      refine lv_iconst (v := 0) hx hb dX7_placeCrank_164 (by decide) ?_
      obtain ⟨x80, e81, hf⟩ := mb0 hf
      refine mx_aI hx hb hK hJ e81 dX7_placeCrank_165 ?_
      obtain ⟨b82, e83, hf⟩ := mb0 hf
      refine mx_aR hx hb hK hJ (t := 4) rfl (fun _ _ _ => rfl) e83 dX7_placeCrank_166 ?_
      obtain ⟨b84, e85, hf⟩ := mb0 hf
      refine my_gR hx hb hts hown hK hJ fd_RX7_194 hv_5_12 e85 dX7_placeCrank_167 ?_
      obtain ⟨i86, e87, hf⟩ := mb0 hf
      obtain ⟨σ88, e89, hf⟩ := mb0 hf
      refine mx_callV (As := [.ref b84]) (rest := []) hx hb hml hts hown hK hJ rfl rfl (ci := 8) rfl e87 (c_X8_copy l G P b74 b84 σ72 σ88 e89) me_X8_copy kw_679 kw_680 kw_678 (Nat.le_of_ble_eq_true rfl) (Nat.le_of_ble_eq_true rfl) rfl hl.1 rfl (Nat.le_of_ble_eq_true rfl) dX7_placeCrank_170 (fun H locs hJ => ?_)
      refine lv_aload_n hx hb dX7_placeCrank_173 rfl (lv_at hl 1 rfl) ?_
      obtain ⟨b90, e91, hf⟩ := mb0 hf
      refine my_gR hx hb hts hown hK hJ fd_RX7_194 hv_5_12 e91 dX7_placeCrank_174 ?_
      refine lv_aload_n hx hb dX7_placeCrank_177 rfl (lv_at hl 1 rfl) ?_
      obtain ⟨b92, e93, hf⟩ := mb0 hf
      refine my_gR hx hb hts hown hK hJ fd_RX7_234 hv_5_9 e93 dX7_placeCrank_178 ?_
      refine lv_aload_n hx hb dX7_placeCrank_181 rfl (lv_at hl 1 rfl) ?_
      obtain ⟨b94, e95, hf⟩ := mb0 hf
      refine my_gR hx hb hts hown hK hJ fd_RX7_259 hv_5_13 e95 dX7_placeCrank_182 ?_
      obtain ⟨i96, e97, hf⟩ := mb0 hf
      obtain ⟨σ98, e99, hf⟩ := mb0 hf
      refine mx_callV (As := [.ref b92, .ref b94]) (rest := []) hx hb hml hts hown hK hJ rfl rfl (ci := 8) rfl e97 (c_X8_add l G P b90 b92 b94 σ88 σ98 e99) me_X8_add kw_715 kw_716 kw_714 (Nat.le_of_ble_eq_true rfl) (Nat.le_of_ble_eq_true rfl) rfl hl.1 rfl (Nat.le_of_ble_eq_true rfl) dX7_placeCrank_185 (fun H locs hJ => ?_)
      refine lv_aload_n hx hb dX7_placeCrank_188 rfl (lv_at hl 1 rfl) ?_
      refine lv_iconst (v := 0) hx hb dX7_placeCrank_189 (by decide) ?_
      obtain ⟨x101, σ100, e102, hf⟩ := mc0 hf
      refine mx_callS (As := [.ref v1, .int (0 : Int32)]) (rest := []) hx hb hml hts hown hK hJ rfl rfl (c_X7_openOr l G P v1 (0 : Int32) σ98 x101 σ100 e102) me_X7_openOr kw_719 kw_718 (Nat.le_of_ble_eq_true rfl) (Nat.le_of_ble_eq_true rfl) rfl hl.1 rfl (Nat.le_of_ble_eq_true rfl) dX7_placeCrank_190 (fun H locs hJ => ?_)
      exact my_iret hx hb hr hlocks hJ hf dX7_placeCrank_193
  have D40 : ∀ (v0 : Nat) (v1 : Nat) (τ : mx_S), f_X7_placeCrank_D40 P v0 v1 τ = some (r, σ') → ∀ (H : Heap) (locs : List Loc), mx_J G P s.heap (mxz σ) (mxu σ) τ H locs → ∀ ls : Array Slot, lv_has ls 3 [(0, .ref v0), (1, .ref v1)] → W p l e (mx_rm P 3 81 σ) s m ([.ref a0, .ref a1] : List Value).toArray below meth c H locs (mxz τ - mxz σ) (mxu τ - mxu σ) (mx_Z below G P (some (.int r)) σ σ' [.ref a0, .ref a1] s) (F0 m 40 ls []) := by
    intro v0 v1 τ hf _ _ hJ ls hl
    unfold f_X7_placeCrank_D40 at hf
    refine lv_aload_n hx hb dX7_placeCrank_40 rfl (lv_at hl 1 rfl) ?_
    obtain ⟨b16, e17, hf⟩ := mb0 hf
    refine my_gR hx hb hts hown hK hJ fd_RX7_259 hv_5_13 e17 dX7_placeCrank_41 ?_
    refine lv_aload_n hx hb dX7_placeCrank_44 rfl (lv_at hl 0 rfl) ?_
    obtain ⟨b18, e19, hf⟩ := mb0 hf
    refine my_gR hx hb hts hown hK hJ fd_RX7_48 hv_7_11 e19 dX7_placeCrank_45 ?_
    obtain ⟨i20, e21, hf⟩ := mb0 hf
    obtain ⟨σ22, e23, hf⟩ := mb0 hf
    refine mx_callV (As := [.ref b18]) (rest := []) hx hb hml hts hown hK hJ rfl rfl (ci := 8) rfl e21 (c_X8_copy l G P b16 b18 τ σ22 e23) me_X8_copy kw_679 kw_680 kw_678 (Nat.le_of_ble_eq_true rfl) (Nat.le_of_ble_eq_true rfl) rfl hl.1 rfl (Nat.le_of_ble_eq_true rfl) dX7_placeCrank_48 (fun H locs hJ => ?_)
    refine lv_aload_n hx hb dX7_placeCrank_51 rfl (lv_at hl 1 rfl) ?_
    obtain ⟨x24, e25, hf⟩ := mb0 hf
    refine my_gI hx hb hts hown hK hJ fd_RX7_253 hv_5_5 e25 dX7_placeCrank_52 ?_
    refine lv_if_ne (tgt := 81) hx hb dX7_placeCrank_55 (by decide) (fun c26 => ?_) (fun c26 => ?_)
    · rw [if_neg c26] at hf
      exact D81 v0 v1 σ22 hf _ _ hJ ls (lv_sub hl [0, 1] rfl)
    · rw [if_pos c26] at hf
      refine lv_aload_n hx hb dX7_placeCrank_58 rfl (lv_at hl 1 rfl) ?_
      obtain ⟨b103, e104, hf⟩ := mb0 hf
      refine my_gR hx hb hts hown hK hJ fd_RX7_259 hv_5_13 e104 dX7_placeCrank_59 ?_
      obtain ⟨i105, e106, hf⟩ := mb0 hf
      obtain ⟨σ107, e108, hf⟩ := mb0 hf
      refine mx_callV (As := []) (rest := []) hx hb hml hts hown hK hJ rfl rfl (ci := 8) rfl e106 (c_X8_zero l G P b103 σ22 σ107 e108) me_X8_zero kw_693 kw_694 kw_692 (Nat.le_of_ble_eq_true rfl) (Nat.le_of_ble_eq_true rfl) rfl hl.1 rfl (Nat.le_of_ble_eq_true rfl) dX7_placeCrank_62 (fun H locs hJ => ?_)
      refine lv_aload_n hx hb dX7_placeCrank_65 rfl (lv_at hl 1 rfl) ?_
      obtain ⟨b109, e110, hf⟩ := mb0 hf
      refine my_gR hx hb hts hown hK hJ fd_RX7_259 hv_5_13 e110 dX7_placeCrank_66 ?_
      obtain ⟨b111, e112, hf⟩ := mb0 hf
      refine my_gR hx hb hts hown hK hJ fd_RX7_30 hv_8_0 e112 dX7_placeCrank_69 ?_
      refine lv_ldc2 hx hb hown (hts _ kw_478) dX7_placeCrank_72 ?_
      refine lv_ldc2 hx hb hown (hts _ kw_478) dX7_placeCrank_75 ?_
      obtain ⟨i113, e114, hf⟩ := mb0 hf
      obtain ⟨σ115, e116, hf⟩ := mb0 hf
      refine mx_callV (As := [.long (65536 : Int64), .long (65536 : Int64)]) (rest := []) hx hb hml hts hown hK hJ rfl rfl (ci := 0) rfl e114 (c_X0_keep l G P b111 (65536 : Int64) (65536 : Int64) σ107 σ115 e116) me_X0_keep kw_480 kw_481 kw_479 (Nat.le_of_ble_eq_true rfl) (Nat.le_of_ble_eq_true rfl) rfl hl.1 rfl (Nat.le_of_ble_eq_true rfl) dX7_placeCrank_78 (fun H locs hJ => ?_)
      exact D81 v0 v1 σ115 hf _ _ hJ ls (lv_sub hl [0, 1] rfl)
  unfold f_X7_placeCrank at hf
  refine lv_aload_n hx hb dX7_placeCrank_0 rfl (lv_at hl 0 rfl) ?_
  obtain ⟨b1, e2, hf⟩ := mb0 hf
  refine my_gR hx hb hts hown hK hJ fd_RX7_48 hv_7_11 e2 dX7_placeCrank_1 ?_
  refine lv_aload_n hx hb dX7_placeCrank_4 rfl (lv_at hl 0 rfl) ?_
  obtain ⟨b3, e4, hf⟩ := mb0 hf
  refine my_gR hx hb hts hown hK hJ fd_RX7_25 hv_7_5 e4 dX7_placeCrank_5 ?_
  refine lv_aload_n hx hb dX7_placeCrank_8 rfl (lv_at hl 1 rfl) ?_
  obtain ⟨x5, e6, hf⟩ := mb0 hf
  refine my_gI hx hb hts hown hK hJ fd_RX7_247 hv_5_4 e6 dX7_placeCrank_9 ?_
  obtain ⟨b7, e8, hf⟩ := mb0 hf
  refine mx_aR hx hb hK hJ (t := 5) rfl (fun _ _ _ => rfl) e8 dX7_placeCrank_12 ?_
  obtain ⟨i9, e10, hf⟩ := mb0 hf
  obtain ⟨σ11, e12, hf⟩ := mb0 hf
  refine mx_callV (As := [.ref b7]) (rest := []) hx hb hml hts hown hK hJ rfl rfl (ci := 8) rfl e10 (c_X8_copy l G P b1 b7 σ σ11 e12) me_X8_copy kw_679 kw_680 kw_678 (Nat.le_of_ble_eq_true rfl) (Nat.le_of_ble_eq_true rfl) rfl hl.1 rfl (Nat.le_of_ble_eq_true rfl) dX7_placeCrank_13 (fun H locs hJ => ?_)
  refine lv_aload_n hx hb dX7_placeCrank_16 rfl (lv_at hl 1 rfl) ?_
  obtain ⟨x13, e14, hf⟩ := mb0 hf
  refine my_gI hx hb hts hown hK hJ fd_RX7_253 hv_5_5 e14 dX7_placeCrank_17 ?_
  refine lv_if_ge (tgt := 40) hx hb dX7_placeCrank_20 (by decide) (fun c15 => ?_) (fun c15 => ?_)
  · rw [if_pos c15] at hf
    exact D40 a0 a1 σ11 hf _ _ hJ ls (lv_sub hl [0, 1] rfl)
  · rw [if_neg c15] at hf
    refine lv_aload_n hx hb dX7_placeCrank_23 rfl (lv_at hl 0 rfl) ?_
    obtain ⟨b117, e118, hf⟩ := mb0 hf
    refine my_gR hx hb hts hown hK hJ fd_RX7_48 hv_7_11 e118 dX7_placeCrank_24 ?_
    obtain ⟨b119, e120, hf⟩ := mb0 hf
    refine my_gR hx hb hts hown hK hJ fd_RX7_241 hv_8_1 e120 dX7_placeCrank_27 ?_
    refine lv_aload_n hx hb dX7_placeCrank_30 rfl (lv_at hl 0 rfl) ?_
    obtain ⟨b121, e122, hf⟩ := mb0 hf
    refine my_gR hx hb hts hown hK hJ fd_RX7_48 hv_7_11 e122 dX7_placeCrank_31 ?_
    obtain ⟨b123, e124, hf⟩ := mb0 hf
    refine my_gR hx hb hts hown hK hJ fd_RX7_241 hv_8_1 e124 dX7_placeCrank_34 ?_
    obtain ⟨i125, e126, hf⟩ := mb0 hf
    obtain ⟨σ127, e128, hf⟩ := mb0 hf
    refine mx_callV (As := [.ref b123]) (rest := []) hx hb hml hts hown hK hJ rfl rfl (ci := 0) rfl e126 (c_X0_negative l G P b119 b123 σ11 σ127 e128) me_X0_negative kw_687 kw_688 kw_686 (Nat.le_of_ble_eq_true rfl) (Nat.le_of_ble_eq_true rfl) rfl hl.1 rfl (Nat.le_of_ble_eq_true rfl) dX7_placeCrank_37 (fun H locs hJ => ?_)
    exact D40 a0 a1 σ127 hf _ _ hJ ls (lv_sub hl [0, 1] rfl)
set_option maxHeartbeats 4000000 in
set_option maxRecDepth 100000 in
theorem c_X8_minus (l : Launch) (G : mx_G) (P : mx_P) (a0 : Nat) (a1 : Nat) (a2 : Nat) (σ : mx_S) (σ' : mx_S) (hf : f_X8_minus P a0 a1 a2 σ = some σ') : mxz σ ≤ mpc P → mxu σ ≤ mps P → mx_M l yX8_minus cX8_minus 3 none 2 46 G P [.ref a0, .ref a1, .ref a2] σ none σ' := by
  intro hcap hcau
  refine mx_ofW (by decide +kernel) hcap hcau (Nat.le_of_ble_eq_true rfl) ?_
  intro p e s m below meth c hx hb hr hml hts hown hlocks hname hK hJ ls hl
  have hz0 := hJ.2.1
  have hown : s.vm.findClass RX8 = some m.cls := hown
  have hl : lv_has ls 3 [(0, .ref a0), (1, .ref a1), (2, .ref a2)] := hl
  unfold f_X8_minus at hf
  refine lv_aload_n hx hb dX8_minus_0 rfl (lv_at hl 0 rfl) ?_
  obtain ⟨b1, e2, hf⟩ := mb0 hf
  refine my_gR hx hb hts hown hK hJ fd_RX8_10 hv_8_0 e2 dX8_minus_1 ?_
  refine lv_aload_n hx hb dX8_minus_4 rfl (lv_at hl 1 rfl) ?_
  obtain ⟨b3, e4, hf⟩ := mb0 hf
  refine my_gR hx hb hts hown hK hJ fd_RX8_10 hv_8_0 e4 dX8_minus_5 ?_
  refine lv_aload_n hx hb dX8_minus_8 rfl (lv_at hl 2 rfl) ?_
  obtain ⟨b5, e6, hf⟩ := mb0 hf
  refine my_gR hx hb hts hown hK hJ fd_RX8_10 hv_8_0 e6 dX8_minus_9 ?_
  obtain ⟨i7, e8, hf⟩ := mb0 hf
  obtain ⟨σ9, e10, hf⟩ := mb0 hf
  refine mx_callV (As := [.ref b3, .ref b5]) (rest := []) hx hb hml hts hown hK hJ rfl rfl (ci := 0) rfl e8 (c_X0_minus l G P b1 b3 b5 σ σ9 e10) me_X0_minus kw_734 kw_735 kw_733 (Nat.le_of_ble_eq_true rfl) (Nat.le_of_ble_eq_true rfl) rfl hl.1 rfl (Nat.le_of_ble_eq_true rfl) dX8_minus_12 (fun H locs hJ => ?_)
  refine lv_aload_n hx hb dX8_minus_15 rfl (lv_at hl 0 rfl) ?_
  obtain ⟨b11, e12, hf⟩ := mb0 hf
  refine my_gR hx hb hts hown hK hJ fd_RX8_16 hv_8_1 e12 dX8_minus_16 ?_
  refine lv_aload_n hx hb dX8_minus_19 rfl (lv_at hl 1 rfl) ?_
  obtain ⟨b13, e14, hf⟩ := mb0 hf
  refine my_gR hx hb hts hown hK hJ fd_RX8_16 hv_8_1 e14 dX8_minus_20 ?_
  refine lv_aload_n hx hb dX8_minus_23 rfl (lv_at hl 2 rfl) ?_
  obtain ⟨b15, e16, hf⟩ := mb0 hf
  refine my_gR hx hb hts hown hK hJ fd_RX8_16 hv_8_1 e16 dX8_minus_24 ?_
  obtain ⟨i17, e18, hf⟩ := mb0 hf
  obtain ⟨σ19, e20, hf⟩ := mb0 hf
  refine mx_callV (As := [.ref b13, .ref b15]) (rest := []) hx hb hml hts hown hK hJ rfl rfl (ci := 0) rfl e18 (c_X0_minus l G P b11 b13 b15 σ9 σ19 e20) me_X0_minus kw_734 kw_735 kw_733 (Nat.le_of_ble_eq_true rfl) (Nat.le_of_ble_eq_true rfl) rfl hl.1 rfl (Nat.le_of_ble_eq_true rfl) dX8_minus_27 (fun H locs hJ => ?_)
  exact my_vret hx hb hr hlocks hJ hf dX8_minus_30
set_option maxHeartbeats 4000000 in
set_option maxRecDepth 100000 in
theorem c_X7_judgeRest (l : Launch) (G : mx_G) (P : mx_P) (a0 : Nat) (σ : mx_S) (r : Int32) (σ' : mx_S) (hf : f_X7_judgeRest P a0 σ = some (r, σ')) : mxz σ ≤ mpc P → mxu σ ≤ mps P → mx_M l yX7_judgeRest cX7_judgeRest 1 (some .int) 1 24 G P [.ref a0] σ (some (.int r)) σ' := by
  intro hcap hcau
  refine mx_ofW (by decide +kernel) hcap hcau (Nat.le_of_ble_eq_true rfl) ?_
  intro p e s m below meth c hx hb hr hml hts hown hlocks hname hK hJ ls hl
  have hz0 := hJ.2.1
  have hown : s.vm.findClass RX7 = some m.cls := hown
  have hl : lv_has ls 1 [(0, .ref a0)] := hl
  have D22 : ∀  (τ : mx_S), f_X7_judgeRest_D22 P  τ = some (r, σ') → ∀ (H : Heap) (locs : List Loc), mx_J G P s.heap (mxz σ) (mxu σ) τ H locs → ∀ ls : Array Slot, lv_has ls 1 [] → W p l e (mx_rm P 1 24 σ) s m ([.ref a0] : List Value).toArray below meth c H locs (mxz τ - mxz σ) (mxu τ - mxu σ) (mx_Z below G P (some (.int r)) σ σ' [.ref a0] s) (F0 m 22 ls []) := by
    intro  τ hf _ _ hJ ls hl
    unfold f_X7_judgeRest_D22 at hf
    refine lv_iconst (v := 0) hx hb dX7_judgeRest_22 (by decide) ?_
    exact my_iret hx hb hr hlocks hJ hf dX7_judgeRest_23
  unfold f_X7_judgeRest at hf
  refine lv_aload_n hx hb dX7_judgeRest_0 rfl (lv_at hl 0 rfl) ?_
  obtain ⟨b1, e2, hf⟩ := mb0 hf
  refine my_gR hx hb hts hown hK hJ fd_RX7_71 hv_7_18 e2 dX7_judgeRest_1 ?_
  obtain ⟨x3, e4, hf⟩ := mb0 hf
  refine my_gI hx hb hts hown hK hJ fd_RX7_323 hv_0_2 e4 dX7_judgeRest_4 ?_
  refine lv_if_ne (tgt := 22) hx hb dX7_judgeRest_7 (by decide) (fun c5 => ?_) (fun c5 => ?_)
  · rw [if_neg c5] at hf
    exact D22  σ hf _ _ hJ ls (lv_sub hl [] rfl)
  · rw [if_pos c5] at hf
    refine lv_aload_n hx hb dX7_judgeRest_10 rfl (lv_at hl 0 rfl) ?_
    obtain ⟨b6, e7, hf⟩ := mb0 hf
    refine my_gR hx hb hts hown hK hJ fd_RX7_71 hv_7_18 e7 dX7_judgeRest_11 ?_
    obtain ⟨x8, e9, hf⟩ := mb0 hf
    refine my_gL hx hb hts hown hK hJ fd_RX7_326 hv_0_0 e9 dX7_judgeRest_14 ?_
    refine lv_lconst (v := 0) hx hb dX7_judgeRest_17 (by decide) ?_
    refine W.lcmp hx hb dX7_judgeRest_18 ?_
    refine lv_if_lt (tgt := 24) hx hb dX7_judgeRest_19 (by decide) (fun c10 => ?_) (fun c10 => ?_)
    · rw [if_pos c10] at hf
      refine lv_aload_n hx hb dX7_judgeRest_24 rfl (lv_at hl 0 rfl) ?_
      obtain ⟨b11, e12, hf⟩ := mb0 hf
      refine my_gR hx hb hts hown hK hJ fd_RX7_71 hv_7_18 e12 dX7_judgeRest_25 ?_
      obtain ⟨x13, e14, hf⟩ := mb0 hf
      refine my_gL hx hb hts hown hK hJ fd_RX7_329 hv_0_1 e14 dX7_judgeRest_28 ?_
      refine lv_lconst (v := 0) hx hb dX7_judgeRest_31 (by decide) ?_
      refine W.lcmp hx hb dX7_judgeRest_32 ?_
      refine lv_if_ge (tgt := 38) hx hb dX7_judgeRest_33 (by decide) (fun c15 => ?_) (fun c15 => ?_)
      · rw [if_pos c15] at hf
        refine lv_aload_n hx hb dX7_judgeRest_38 rfl (lv_at hl 0 rfl) ?_
        obtain ⟨b16, e17, hf⟩ := mb0 hf
        refine my_gR hx hb hts hown hK hJ fd_RX7_71 hv_7_18 e17 dX7_judgeRest_39 ?_
        refine lv_lconst (v := 0) hx hb dX7_judgeRest_42 (by decide) ?_
        refine lv_aload_n hx hb dX7_judgeRest_43 rfl (lv_at hl 0 rfl) ?_
        obtain ⟨b18, e19, hf⟩ := mb0 hf
        refine my_gR hx hb hts hown hK hJ fd_RX7_71 hv_7_18 e19 dX7_judgeRest_44 ?_
        obtain ⟨x20, e21, hf⟩ := mb0 hf
        refine my_gL hx hb hts hown hK hJ fd_RX7_329 hv_0_1 e21 dX7_judgeRest_47 ?_
        obtain ⟨i22, e23, hf⟩ := mb0 hf
        obtain ⟨σ24, e25, hf⟩ := mb0 hf
        refine mx_callV (As := [.long (0 : Int64), .long x20]) (rest := []) hx hb hml hts hown hK hJ rfl rfl (ci := 0) rfl e23 (c_X0_keep l G P b16 (0 : Int64) x20 σ σ24 e25) me_X0_keep kw_480 kw_481 kw_479 (Nat.le_of_ble_eq_true rfl) (Nat.le_of_ble_eq_true rfl) rfl hl.1 rfl (Nat.le_of_ble_eq_true rfl) dX7_judgeRest_50 (fun H locs hJ => ?_)
        refine lv_iconst (v := 1) hx hb dX7_judgeRest_53 (by decide) ?_
        exact my_iret hx hb hr hlocks hJ hf dX7_judgeRest_54
      · rw [if_neg c15] at hf
        refine lv_iconst (v := 3) hx hb dX7_judgeRest_36 (by decide) ?_
        exact my_iret hx hb hr hlocks hJ hf dX7_judgeRest_37
    · rw [if_neg c10] at hf
      exact D22  σ hf _ _ hJ ls (lv_sub hl [] rfl)
set_option maxHeartbeats 4000000 in
set_option maxRecDepth 100000 in
theorem c_X5_signIn (l : Launch) (G : mx_G) (P : mx_P) (a0 : Nat) (p1 : Int32) (σ : mx_S) (r : Int32) (σ' : mx_S) (hf : f_X5_signIn P a0 p1 σ = some (r, σ')) : mxz σ ≤ mpc P → mxu σ ≤ mps P → mx_M l yX5_signIn cX5_signIn 3 (some .int) 0 0 G P [.ref a0, .int p1] σ (some (.int r)) σ' := by
  intro hcap hcau
  refine mx_ofW (by decide +kernel) hcap hcau (Nat.le_of_ble_eq_true rfl) ?_
  intro p e s m below meth c hx hb hr hml hts hown hlocks hname hK hJ ls hl
  have hz0 := hJ.2.1
  have hown : s.vm.findClass RX5 = some m.cls := hown
  have hl : lv_has ls 3 [(0, .ref a0), (1, .int p1)] := hl
  have D41 : ∀ (w0 : Int32) (τ : mx_S), f_X5_signIn_D41 P w0 τ = some (r, σ') → ∀ (H : Heap) (locs : List Loc), mx_J G P s.heap (mxz σ) (mxu σ) τ H locs → ∀ ls : Array Slot, lv_has ls 3 [] → W p l e (mx_rm P 0 0 σ) s m ([.ref a0, .int p1] : List Value).toArray below meth c H locs (mxz τ - mxz σ) (mxu τ - mxu σ) (mx_Z below G P (some (.int r)) σ σ' [.ref a0, .int p1] s) (F0 m 41 ls [.int w0]) := by
    intro w0 τ hf _ _ hJ ls hl
    unfold f_X5_signIn_D41 at hf
    exact my_iret hx hb hr hlocks hJ hf dX5_signIn_41
  have D31 : ∀ (w0 : Int32) (τ : mx_S), f_X5_signIn_D31 P w0 τ = some (r, σ') → ∀ (H : Heap) (locs : List Loc), mx_J G P s.heap (mxz σ) (mxu σ) τ H locs → ∀ ls : Array Slot, lv_has ls 3 [] → W p l e (mx_rm P 0 0 σ) s m ([.ref a0, .int p1] : List Value).toArray below meth c H locs (mxz τ - mxz σ) (mxu τ - mxu σ) (mx_Z below G P (some (.int r)) σ σ' [.ref a0, .int p1] s) (F0 m 31 ls [.int w0]) := by
    intro w0 τ hf _ _ hJ ls hl
    unfold f_X5_signIn_D31 at hf
    refine lv_istore_n (lv' := [(2, .int w0)]) hx hb dX5_signIn_31 rfl hl (by decide) rfl (fun ls hl => ?_)
    refine lv_iload_n hx hb dX5_signIn_32 rfl (lv_at hl 0 rfl) ?_
    refine lv_if_eq (tgt := 40) hx hb dX5_signIn_33 (by decide) (fun c6 => ?_) (fun c6 => ?_)
    · rw [if_pos c6] at hf
      refine lv_iconst (v := 1) hx hb dX5_signIn_40 (by decide) ?_
      exact D41 (1 : Int32) τ hf _ _ hJ ls (lv_sub hl [] rfl)
    · rw [if_neg c6] at hf
      refine lv_iconst (v := (-1)) hx hb dX5_signIn_36 (by decide) ?_
      refine lv_goto (tgt := 41) hx hb dX5_signIn_37 (by decide) ?_
      exact D41 (-1 : Int32) τ hf _ _ hJ ls (lv_sub hl [] rfl)
  unfold f_X5_signIn at hf
  refine lv_aload_n hx hb dX5_signIn_0 rfl (lv_at hl 0 rfl) ?_
  obtain ⟨x1, e2, hf⟩ := mb0 hf
  refine my_gI hx hb hts hown hK hJ fd_RX5_60 hv_5_7 e2 dX5_signIn_1 ?_
  refine lv_if_lt (tgt := 27) hx hb dX5_signIn_4 (by decide) (fun c3 => ?_) (fun c3 => ?_)
  · rw [if_pos c3] at hf
    refine lv_aload_n hx hb dX5_signIn_27 rfl (lv_at hl 0 rfl) ?_
    obtain ⟨x4, e5, hf⟩ := mb0 hf
    refine my_gI hx hb hts hown hK hJ fd_RX5_63 hv_5_6 e5 dX5_signIn_28 ?_
    exact D31 x4 σ hf _ _ hJ ls (lv_sub hl [] rfl)
  · rw [if_neg c3] at hf
    refine lv_iload_n hx hb dX5_signIn_7 rfl (lv_at hl 1 rfl) ?_
    refine lv_aload_n hx hb dX5_signIn_8 rfl (lv_at hl 0 rfl) ?_
    obtain ⟨x7, e8, hf⟩ := mb0 hf
    refine my_gI hx hb hts hown hK hJ fd_RX5_60 hv_5_7 e8 dX5_signIn_9 ?_
    refine lv_ishr hx hb dX5_signIn_12 ?_
    refine lv_iconst (v := 1) hx hb dX5_signIn_13 (by decide) ?_
    refine lv_iand hx hb dX5_signIn_14 ?_
    refine lv_iconst (v := 1) hx hb dX5_signIn_15 (by decide) ?_
    refine lv_icmp_ne (tgt := 23) hx hb dX5_signIn_16 (by decide) (fun c9 => ?_) (fun c9 => ?_)
    · rw [if_neg c9] at hf
      refine lv_iconst (v := 0) hx hb dX5_signIn_23 (by decide) ?_
      refine lv_goto (tgt := 31) hx hb dX5_signIn_24 (by decide) ?_
      exact D31 (0 : Int32) σ hf _ _ hJ ls (lv_sub hl [] rfl)
    · rw [if_pos c9] at hf
      refine lv_iconst (v := 1) hx hb dX5_signIn_19 (by decide) ?_
      refine lv_goto (tgt := 31) hx hb dX5_signIn_20 (by decide) ?_
      exact D31 (1 : Int32) σ hf _ _ hJ ls (lv_sub hl [] rfl)
set_option maxHeartbeats 4000000 in
set_option maxRecDepth 100000 in
theorem c_X8_addTurned (l : Launch) (G : mx_G) (P : mx_P) (a0 : Nat) (p1 : Int32) (a2 : Nat) (a3 : Nat) (σ : mx_S) (σ' : mx_S) (hf : f_X8_addTurned P a0 p1 a2 a3 σ = some σ') : mxz σ ≤ mpc P → mxu σ ≤ mps P → mx_M l yX8_addTurned cX8_addTurned 4 none 2 59 G P [.ref a0, .int p1, .ref a2, .ref a3] σ none σ' := by
  intro hcap hcau
  refine mx_ofW (by decide +kernel) hcap hcau (Nat.le_of_ble_eq_true rfl) ?_
  intro p e s m below meth c hx hb hr hml hts hown hlocks hname hK hJ ls hl
  have hz0 := hJ.2.1
  have hown : s.vm.findClass RX8 = some m.cls := hown
  have hl : lv_has ls 4 [(0, .ref a0), (1, .int p1), (2, .ref a2), (3, .ref a3)] := hl
  unfold f_X8_addTurned at hf
  refine lv_aload_n hx hb dX8_addTurned_0 rfl (lv_at hl 0 rfl) ?_
  obtain ⟨b1, e2, hf⟩ := mb0 hf
  refine my_gR hx hb hts hown hK hJ fd_RX8_10 hv_8_0 e2 dX8_addTurned_1 ?_
  refine lv_iload_n hx hb dX8_addTurned_4 rfl (lv_at hl 1 rfl) ?_
  refine lv_ineg hx hb dX8_addTurned_5 ?_
  refine lv_aload_n hx hb dX8_addTurned_6 rfl (lv_at hl 2 rfl) ?_
  refine lv_aload_n hx hb dX8_addTurned_7 rfl (lv_at hl 3 rfl) ?_
  obtain ⟨b3, e4, hf⟩ := mb0 hf
  refine my_gR hx hb hts hown hK hJ fd_RX8_16 hv_8_1 e4 dX8_addTurned_8 ?_
  obtain ⟨i5, e6, hf⟩ := mb0 hf
  obtain ⟨σ7, e8, hf⟩ := mb0 hf
  refine mx_callV (As := [.int (-p1), .ref a2, .ref b3]) (rest := []) hx hb hml hts hown hK hJ rfl rfl (ci := 0) rfl e6 (c_X0_addProduct l G P b1 (-p1) a2 b3 σ σ7 e8) me_X0_addProduct kw_705 kw_706 kw_704 (Nat.le_of_ble_eq_true rfl) (Nat.le_of_ble_eq_true rfl) rfl hl.1 rfl (Nat.le_of_ble_eq_true rfl) dX8_addTurned_11 (fun H locs hJ => ?_)
  refine lv_aload_n hx hb dX8_addTurned_14 rfl (lv_at hl 0 rfl) ?_
  obtain ⟨b9, e10, hf⟩ := mb0 hf
  refine my_gR hx hb hts hown hK hJ fd_RX8_16 hv_8_1 e10 dX8_addTurned_15 ?_
  refine lv_iload_n hx hb dX8_addTurned_18 rfl (lv_at hl 1 rfl) ?_
  refine lv_aload_n hx hb dX8_addTurned_19 rfl (lv_at hl 2 rfl) ?_
  refine lv_aload_n hx hb dX8_addTurned_20 rfl (lv_at hl 3 rfl) ?_
  obtain ⟨b11, e12, hf⟩ := mb0 hf
  refine my_gR hx hb hts hown hK hJ fd_RX8_10 hv_8_0 e12 dX8_addTurned_21 ?_
  obtain ⟨i13, e14, hf⟩ := mb0 hf
  obtain ⟨σ15, e16, hf⟩ := mb0 hf
  refine mx_callV (As := [.int p1, .ref a2, .ref b11]) (rest := []) hx hb hml hts hown hK hJ rfl rfl (ci := 0) rfl e14 (c_X0_addProduct l G P b9 p1 a2 b11 σ7 σ15 e16) me_X0_addProduct kw_705 kw_706 kw_704 (Nat.le_of_ble_eq_true rfl) (Nat.le_of_ble_eq_true rfl) rfl hl.1 rfl (Nat.le_of_ble_eq_true rfl) dX8_addTurned_24 (fun H locs hJ => ?_)
  exact my_vret hx hb hr hlocks hJ hf dX8_addTurned_27
set_option maxHeartbeats 4000000 in
set_option maxRecDepth 100000 in
theorem c_X7_placeDyad (l : Launch) (G : mx_G) (P : mx_P) (a0 : Nat) (a1 : Nat) (σ : mx_S) (r : Int32) (σ' : mx_S) (hf : f_X7_placeDyad P a0 a1 σ = some (r, σ')) : mxz σ ≤ mpc P → mxu σ ≤ mps P → mx_M l yX7_placeDyad cX7_placeDyad 4 (some .int) 3 82 G P [.ref a0, .ref a1] σ (some (.int r)) σ' := by
  intro hcap hcau
  refine mx_ofW (by decide +kernel) hcap hcau (Nat.le_of_ble_eq_true rfl) ?_
  intro p e s m below meth c hx hb hr hml hts hown hlocks hname hK hJ ls hl
  have hz0 := hJ.2.1
  have hown : s.vm.findClass RX7 = some m.cls := hown
  have hl : lv_has ls 4 [(0, .ref a0), (1, .ref a1)] := hl
  unfold f_X7_placeDyad at hf
  refine lv_aload_n hx hb dX7_placeDyad_0 rfl (lv_at hl 0 rfl) ?_
  obtain ⟨b1, e2, hf⟩ := mb0 hf
  refine my_gR hx hb hts hown hK hJ fd_RX7_11 hv_7_0 e2 dX7_placeDyad_1 ?_
  refine lv_aload_n hx hb dX7_placeDyad_4 rfl (lv_at hl 1 rfl) ?_
  obtain ⟨b3, e4, hf⟩ := mb0 hf
  refine my_gR hx hb hts hown hK hJ fd_RX7_167 hv_5_2 e4 dX7_placeDyad_5 ?_
  refine lv_iconst (v := 0) hx hb dX7_placeDyad_8 (by decide) ?_
  obtain ⟨x5, e6, hf⟩ := mb0 hf
  refine mx_aI hx hb hK hJ e6 dX7_placeDyad_9 ?_
  obtain ⟨b7, e8, hf⟩ := mb0 hf
  refine mx_aR hx hb hK hJ (t := 4) rfl (fun _ _ _ => rfl) e8 dX7_placeDyad_10 ?_
  obtain ⟨b9, e10, hf⟩ := mb0 hf
  refine my_gR hx hb hts hown hK hJ fd_RX7_194 hv_5_12 e10 dX7_placeDyad_11 ?_
  refine lv_astore_n (lv' := [(2, .ref b9), (0, .ref a0), (1, .ref a1)]) hx hb dX7_placeDyad_14 rfl hl (by decide) rfl (fun ls hl => ?_)
  refine lv_aload_n hx hb dX7_placeDyad_15 rfl (lv_at hl 1 rfl) ?_
  obtain ⟨b11, e12, hf⟩ := mb0 hf
  refine my_gR hx hb hts hown hK hJ fd_RX7_48 hv_7_11 e12 dX7_placeDyad_16 ?_
  refine lv_aload_n hx hb dX7_placeDyad_19 rfl (lv_at hl 1 rfl) ?_
  obtain ⟨b13, e14, hf⟩ := mb0 hf
  refine my_gR hx hb hts hown hK hJ fd_RX7_11 hv_7_0 e14 dX7_placeDyad_20 ?_
  refine lv_aload_n hx hb dX7_placeDyad_23 rfl (lv_at hl 2 rfl) ?_
  obtain ⟨b15, e16, hf⟩ := mb0 hf
  refine my_gR hx hb hts hown hK hJ fd_RX7_167 hv_5_2 e16 dX7_placeDyad_24 ?_
  refine lv_iconst (v := 1) hx hb dX7_placeDyad_27 (by decide) ?_
  obtain ⟨x17, e18, hf⟩ := mb0 hf
  refine mx_aI hx hb hK hJ e18 dX7_placeDyad_28 ?_
  obtain ⟨b19, e20, hf⟩ := mb0 hf
  refine mx_aR hx hb hK hJ (t := 4) rfl (fun _ _ _ => rfl) e20 dX7_placeDyad_29 ?_
  obtain ⟨b21, e22, hf⟩ := mb0 hf
  refine my_gR hx hb hts hown hK hJ fd_RX7_194 hv_5_12 e22 dX7_placeDyad_30 ?_
  refine lv_aload_n hx hb dX7_placeDyad_33 rfl (lv_at hl 0 rfl) ?_
  obtain ⟨i23, e24, hf⟩ := mb0 hf
  obtain ⟨σ25, e26, hf⟩ := mb0 hf
  refine mx_callV (As := [.ref b21, .ref b9]) (rest := []) hx hb hml hts hown hK hJ rfl rfl (ci := 8) rfl e24 (c_X8_minus l G P b11 b21 b9 σ σ25 e26) me_X8_minus kw_730 kw_731 kw_729 (Nat.le_of_ble_eq_true rfl) (Nat.le_of_ble_eq_true rfl) rfl hl.1 rfl (Nat.le_of_ble_eq_true rfl) dX7_placeDyad_34 (fun H locs hJ => ?_)
  refine lv_aload_n hx hb dX7_placeDyad_37 rfl (lv_at hl 1 rfl) ?_
  obtain ⟨b27, e28, hf⟩ := mb0 hf
  refine my_gR hx hb hts hown hK hJ fd_RX7_62 hv_7_15 e28 dX7_placeDyad_38 ?_
  refine lv_aload_n hx hb dX7_placeDyad_41 rfl (lv_at hl 1 rfl) ?_
  obtain ⟨b29, e30, hf⟩ := mb0 hf
  refine my_gR hx hb hts hown hK hJ fd_RX7_48 hv_7_11 e30 dX7_placeDyad_42 ?_
  obtain ⟨i31, e32, hf⟩ := mb0 hf
  obtain ⟨σ33, e34, hf⟩ := mb0 hf
  refine mx_callV (As := [.ref b29]) (rest := []) hx hb hml hts hown hK hJ rfl rfl (ci := 0) rfl e32 (c_X0_norm l G P b27 b29 σ25 σ33 e34) me_X0_norm kw_738 kw_739 kw_737 (Nat.le_of_ble_eq_true rfl) (Nat.le_of_ble_eq_true rfl) rfl hl.1 rfl (Nat.le_of_ble_eq_true rfl) dX7_placeDyad_45 (fun H locs hJ => ?_)
  refine lv_aload_n hx hb dX7_placeDyad_48 rfl (lv_at hl 1 rfl) ?_
  obtain ⟨b35, e36, hf⟩ := mb0 hf
  refine my_gR hx hb hts hown hK hJ fd_RX7_65 hv_7_16 e36 dX7_placeDyad_49 ?_
  refine lv_aload_n hx hb dX7_placeDyad_52 rfl (lv_at hl 1 rfl) ?_
  obtain ⟨b37, e38, hf⟩ := mb0 hf
  refine my_gR hx hb hts hown hK hJ fd_RX7_62 hv_7_15 e38 dX7_placeDyad_53 ?_
  refine lv_aload_n hx hb dX7_placeDyad_56 rfl (lv_at hl 2 rfl) ?_
  obtain ⟨b39, e40, hf⟩ := mb0 hf
  refine my_gR hx hb hts hown hK hJ fd_RX7_234 hv_5_9 e40 dX7_placeDyad_57 ?_
  obtain ⟨i41, e42, hf⟩ := mb0 hf
  obtain ⟨σ43, e44, hf⟩ := mb0 hf
  refine mx_callV (As := [.ref b37, .ref b39]) (rest := []) hx hb hml hts hown hK hJ rfl rfl (ci := 0) rfl e42 (c_X0_plus l G P b35 b37 b39 σ33 σ43 e44) me_X0_plus kw_746 kw_747 kw_745 (Nat.le_of_ble_eq_true rfl) (Nat.le_of_ble_eq_true rfl) rfl hl.1 rfl (Nat.le_of_ble_eq_true rfl) dX7_placeDyad_60 (fun H locs hJ => ?_)
  refine lv_aload_n hx hb dX7_placeDyad_63 rfl (lv_at hl 1 rfl) ?_
  obtain ⟨b45, e46, hf⟩ := mb0 hf
  refine my_gR hx hb hts hown hK hJ fd_RX7_65 hv_7_16 e46 dX7_placeDyad_64 ?_
  refine lv_aload_n hx hb dX7_placeDyad_67 rfl (lv_at hl 1 rfl) ?_
  obtain ⟨b47, e48, hf⟩ := mb0 hf
  refine my_gR hx hb hts hown hK hJ fd_RX7_65 hv_7_16 e48 dX7_placeDyad_68 ?_
  refine lv_aload_n hx hb dX7_placeDyad_71 rfl (lv_at hl 2 rfl) ?_
  obtain ⟨b49, e50, hf⟩ := mb0 hf
  refine my_gR hx hb hts hown hK hJ fd_RX7_244 hv_5_10 e50 dX7_placeDyad_72 ?_
  obtain ⟨i51, e52, hf⟩ := mb0 hf
  obtain ⟨σ53, e54, hf⟩ := mb0 hf
  refine mx_callV (As := [.ref b47, .ref b49]) (rest := []) hx hb hml hts hown hK hJ rfl rfl (ci := 0) rfl e52 (c_X0_minus l G P b45 b47 b49 σ43 σ53 e54) me_X0_minus kw_734 kw_735 kw_749 (Nat.le_of_ble_eq_true rfl) (Nat.le_of_ble_eq_true rfl) rfl hl.1 rfl (Nat.le_of_ble_eq_true rfl) dX7_placeDyad_75 (fun H locs hJ => ?_)
  refine lv_aload_n hx hb dX7_placeDyad_78 rfl (lv_at hl 1 rfl) ?_
  obtain ⟨b55, e56, hf⟩ := mb0 hf
  refine my_gR hx hb hts hown hK hJ fd_RX7_65 hv_7_16 e56 dX7_placeDyad_79 ?_
  refine lv_ldc2 hx hb hown (hts _ kw_750) dX7_placeDyad_82 ?_
  obtain ⟨i57, e58, hf⟩ := mb0 hf
  obtain ⟨σ59, e60, hf⟩ := mb0 hf
  refine mx_callV (As := [.long (2 : Int64)]) (rest := []) hx hb hml hts hown hK hJ rfl rfl (ci := 0) rfl e58 (c_X0_shareAmong l G P b55 (2 : Int64) σ53 σ59 e60) me_X0_shareAmong kw_752 kw_753 kw_751 (Nat.le_of_ble_eq_true rfl) (Nat.le_of_ble_eq_true rfl) rfl hl.1 rfl (Nat.le_of_ble_eq_true rfl) dX7_placeDyad_85 (fun H locs hJ => ?_)
  refine lv_aload_n hx hb dX7_placeDyad_88 rfl (lv_at hl 1 rfl) ?_
  obtain ⟨b61, e62, hf⟩ := mb0 hf
  refine my_gR hx hb hts hown hK hJ fd_RX7_68 hv_7_17 e62 dX7_placeDyad_89 ?_
  refine lv_aload_n hx hb dX7_placeDyad_92 rfl (lv_at hl 1 rfl) ?_
  obtain ⟨b63, e64, hf⟩ := mb0 hf
  refine my_gR hx hb hts hown hK hJ fd_RX7_65 hv_7_16 e64 dX7_placeDyad_93 ?_
  refine lv_aload_n hx hb dX7_placeDyad_96 rfl (lv_at hl 1 rfl) ?_
  obtain ⟨b65, e66, hf⟩ := mb0 hf
  refine my_gR hx hb hts hown hK hJ fd_RX7_62 hv_7_15 e66 dX7_placeDyad_97 ?_
  obtain ⟨i67, e68, hf⟩ := mb0 hf
  obtain ⟨σ69, e70, hf⟩ := mb0 hf
  refine mx_callV (As := [.ref b63, .ref b65]) (rest := []) hx hb hml hts hown hK hJ rfl rfl (ci := 0) rfl e68 (c_X0_quotient l G P b61 b63 b65 σ59 σ69 e70) me_X0_quotient kw_759 kw_760 kw_758 (Nat.le_of_ble_eq_true rfl) (Nat.le_of_ble_eq_true rfl) rfl hl.1 rfl (Nat.le_of_ble_eq_true rfl) dX7_placeDyad_100 (fun H locs hJ => ?_)
  refine lv_aload_n hx hb dX7_placeDyad_103 rfl (lv_at hl 1 rfl) ?_
  obtain ⟨b71, e72, hf⟩ := mb0 hf
  refine my_gR hx hb hts hown hK hJ fd_RX7_71 hv_7_18 e72 dX7_placeDyad_104 ?_
  refine lv_aload_n hx hb dX7_placeDyad_107 rfl (lv_at hl 2 rfl) ?_
  obtain ⟨b73, e74, hf⟩ := mb0 hf
  refine my_gR hx hb hts hown hK hJ fd_RX7_234 hv_5_9 e74 dX7_placeDyad_108 ?_
  obtain ⟨i75, e76, hf⟩ := mb0 hf
  obtain ⟨σ77, e78, hf⟩ := mb0 hf
  refine mx_callV (As := [.ref b73]) (rest := []) hx hb hml hts hown hK hJ rfl rfl (ci := 0) rfl e76 (c_X0_copy l G P b71 b73 σ69 σ77 e78) me_X0_copy kw_683 kw_684 kw_763 (Nat.le_of_ble_eq_true rfl) (Nat.le_of_ble_eq_true rfl) rfl hl.1 rfl (Nat.le_of_ble_eq_true rfl) dX7_placeDyad_111 (fun H locs hJ => ?_)
  refine lv_aload_n hx hb dX7_placeDyad_114 rfl (lv_at hl 1 rfl) ?_
  obtain ⟨b79, e80, hf⟩ := mb0 hf
  refine my_gR hx hb hts hown hK hJ fd_RX7_71 hv_7_18 e80 dX7_placeDyad_115 ?_
  refine lv_iconst (v := (-1)) hx hb dX7_placeDyad_118 (by decide) ?_
  refine lv_aload_n hx hb dX7_placeDyad_119 rfl (lv_at hl 1 rfl) ?_
  obtain ⟨b81, e82, hf⟩ := mb0 hf
  refine my_gR hx hb hts hown hK hJ fd_RX7_65 hv_7_16 e82 dX7_placeDyad_120 ?_
  refine lv_aload_n hx hb dX7_placeDyad_123 rfl (lv_at hl 1 rfl) ?_
  obtain ⟨b83, e84, hf⟩ := mb0 hf
  refine my_gR hx hb hts hown hK hJ fd_RX7_68 hv_7_17 e84 dX7_placeDyad_124 ?_
  obtain ⟨i85, e86, hf⟩ := mb0 hf
  obtain ⟨σ87, e88, hf⟩ := mb0 hf
  refine mx_callV (As := [.int (-1 : Int32), .ref b81, .ref b83]) (rest := []) hx hb hml hts hown hK hJ rfl rfl (ci := 0) rfl e86 (c_X0_addProduct l G P b79 (-1 : Int32) b81 b83 σ77 σ87 e88) me_X0_addProduct kw_705 kw_706 kw_764 (Nat.le_of_ble_eq_true rfl) (Nat.le_of_ble_eq_true rfl) rfl hl.1 rfl (Nat.le_of_ble_eq_true rfl) dX7_placeDyad_127 (fun H locs hJ => ?_)
  refine lv_aload_n hx hb dX7_placeDyad_130 rfl (lv_at hl 1 rfl) ?_
  obtain ⟨i89, e90, hf⟩ := mb0 hf
  obtain ⟨x92, σ91, e93, hf⟩ := mc0 hf
  refine mx_callV (As := []) (rest := []) hx hb hml hts hown hK hJ rfl rfl (ci := 7) rfl e90 (c_X7_judgeRest l G P a0 σ87 x92 σ91 e93) me_X7_judgeRest kw_767 ks_5 kw_765 (Nat.le_of_ble_eq_true rfl) (Nat.le_of_ble_eq_true rfl) rfl hl.1 rfl (Nat.le_of_ble_eq_true rfl) dX7_placeDyad_131 (fun H locs hJ => ?_)
  refine lv_istore_n (lv' := [(3, .int x92), (2, .ref b9), (0, .ref a0), (1, .ref a1)]) hx hb dX7_placeDyad_134 rfl hl (by decide) rfl (fun ls hl => ?_)
  refine lv_iload_n hx hb dX7_placeDyad_135 rfl (lv_at hl 0 rfl) ?_
  refine lv_iconst (v := 3) hx hb dX7_placeDyad_136 (by decide) ?_
  refine lv_icmp_ne (tgt := 142) hx hb dX7_placeDyad_137 (by decide) (fun c94 => ?_) (fun c94 => ?_)
  · rw [if_neg c94] at hf
    refine lv_aload_n hx hb dX7_placeDyad_142 rfl (lv_at hl 2 rfl) ?_
    obtain ⟨b95, e96, hf⟩ := mb0 hf
    refine my_gR hx hb hts hown hK hJ fd_RX7_71 hv_7_18 e96 dX7_placeDyad_143 ?_
    refine lv_aload_n hx hb dX7_placeDyad_146 rfl (lv_at hl 2 rfl) ?_
    obtain ⟨b97, e98, hf⟩ := mb0 hf
    refine my_gR hx hb hts hown hK hJ fd_RX7_71 hv_7_18 e98 dX7_placeDyad_147 ?_
    refine lv_aload_n hx hb dX7_placeDyad_150 rfl (lv_at hl 2 rfl) ?_
    obtain ⟨b99, e100, hf⟩ := mb0 hf
    refine my_gR hx hb hts hown hK hJ fd_RX7_62 hv_7_15 e100 dX7_placeDyad_151 ?_
    obtain ⟨i101, e102, hf⟩ := mb0 hf
    obtain ⟨σ103, e104, hf⟩ := mb0 hf
    refine mx_callV (As := [.ref b97, .ref b99]) (rest := []) hx hb hml hts hown hK hJ rfl rfl (ci := 0) rfl e102 (c_X0_quotient l G P b95 b97 b99 σ91 σ103 e104) me_X0_quotient kw_759 kw_760 kw_758 (Nat.le_of_ble_eq_true rfl) (Nat.le_of_ble_eq_true rfl) rfl hl.1 rfl (Nat.le_of_ble_eq_true rfl) dX7_placeDyad_154 (fun H locs hJ => ?_)
    refine lv_aload_n hx hb dX7_placeDyad_157 rfl (lv_at hl 2 rfl) ?_
    obtain ⟨b105, e106, hf⟩ := mb0 hf
    refine my_gR hx hb hts hown hK hJ fd_RX7_71 hv_7_18 e106 dX7_placeDyad_158 ?_
    obtain ⟨i107, e108, hf⟩ := mb0 hf
    obtain ⟨σ109, e110, hf⟩ := mb0 hf
    refine mx_callV (As := []) (rest := []) hx hb hml hts hown hK hJ rfl rfl (ci := 0) rfl e108 (c_X0_takeRoot l G P b105 σ103 σ109 e110) me_X0_takeRoot kw_770 kw_771 kw_769 (Nat.le_of_ble_eq_true rfl) (Nat.le_of_ble_eq_true rfl) rfl hl.1 rfl (Nat.le_of_ble_eq_true rfl) dX7_placeDyad_161 (fun H locs hJ => ?_)
    refine lv_aload_n hx hb dX7_placeDyad_164 rfl (lv_at hl 3 rfl) ?_
    obtain ⟨b111, e112, hf⟩ := mb0 hf
    refine my_gR hx hb hts hown hK hJ fd_RX7_194 hv_5_12 e112 dX7_placeDyad_165 ?_
    refine lv_aload_n hx hb dX7_placeDyad_168 rfl (lv_at hl 1 rfl) ?_
    obtain ⟨i113, e114, hf⟩ := mb0 hf
    obtain ⟨σ115, e116, hf⟩ := mb0 hf
    refine mx_callV (As := [.ref b9]) (rest := []) hx hb hml hts hown hK hJ rfl rfl (ci := 8) rfl e114 (c_X8_copy l G P b111 b9 σ109 σ115 e116) me_X8_copy kw_679 kw_680 kw_678 (Nat.le_of_ble_eq_true rfl) (Nat.le_of_ble_eq_true rfl) rfl hl.1 rfl (Nat.le_of_ble_eq_true rfl) dX7_placeDyad_169 (fun H locs hJ => ?_)
    refine lv_aload_n hx hb dX7_placeDyad_172 rfl (lv_at hl 3 rfl) ?_
    obtain ⟨b117, e118, hf⟩ := mb0 hf
    refine my_gR hx hb hts hown hK hJ fd_RX7_194 hv_5_12 e118 dX7_placeDyad_173 ?_
    refine lv_aload_n hx hb dX7_placeDyad_176 rfl (lv_at hl 2 rfl) ?_
    obtain ⟨b119, e120, hf⟩ := mb0 hf
    refine my_gR hx hb hts hown hK hJ fd_RX7_68 hv_7_17 e120 dX7_placeDyad_177 ?_
    refine lv_aload_n hx hb dX7_placeDyad_180 rfl (lv_at hl 2 rfl) ?_
    obtain ⟨b121, e122, hf⟩ := mb0 hf
    refine my_gR hx hb hts hown hK hJ fd_RX7_48 hv_7_11 e122 dX7_placeDyad_181 ?_
    obtain ⟨i123, e124, hf⟩ := mb0 hf
    obtain ⟨σ125, e126, hf⟩ := mb0 hf
    refine mx_callV (As := [.ref b119, .ref b121]) (rest := []) hx hb hml hts hown hK hJ rfl rfl (ci := 8) rfl e124 (c_X8_add l G P b117 b119 b121 σ115 σ125 e126) me_X8_add kw_715 kw_716 kw_714 (Nat.le_of_ble_eq_true rfl) (Nat.le_of_ble_eq_true rfl) rfl hl.1 rfl (Nat.le_of_ble_eq_true rfl) dX7_placeDyad_184 (fun H locs hJ => ?_)
    refine lv_aload_n hx hb dX7_placeDyad_187 rfl (lv_at hl 3 rfl) ?_
    obtain ⟨b127, e128, hf⟩ := mb0 hf
    refine my_gR hx hb hts hown hK hJ fd_RX7_194 hv_5_12 e128 dX7_placeDyad_188 ?_
    refine lv_aload_n hx hb dX7_placeDyad_191 rfl (lv_at hl 3 rfl) ?_
    refine lv_aload_n hx hb dX7_placeDyad_192 rfl (lv_at hl 2 rfl) ?_
    obtain ⟨x129, e130, hf⟩ := mb0 hf
    refine my_gI hx hb hts hown hK hJ fd_RX7_84 hv_7_6 e130 dX7_placeDyad_193 ?_
    obtain ⟨i131, e132, hf⟩ := mb0 hf
    obtain ⟨x134, σ133, e135, hf⟩ := mc0 hf
    refine mx_callV (As := [.int x129]) (rest := [.ref b127]) hx hb hml hts hown hK hJ rfl rfl (ci := 5) rfl e132 (c_X5_signIn l G P a1 x129 σ125 x134 σ133 e135) me_X5_signIn kw_777 kw_778 kw_776 (Nat.le_of_ble_eq_true rfl) (Nat.le_of_ble_eq_true rfl) rfl hl.1 rfl (Nat.le_of_ble_eq_true rfl) dX7_placeDyad_196 (fun H locs hJ => ?_)
    refine lv_aload_n hx hb dX7_placeDyad_199 rfl (lv_at hl 2 rfl) ?_
    obtain ⟨b136, e137, hf⟩ := mb0 hf
    refine my_gR hx hb hts hown hK hJ fd_RX7_71 hv_7_18 e137 dX7_placeDyad_200 ?_
    refine lv_aload_n hx hb dX7_placeDyad_203 rfl (lv_at hl 2 rfl) ?_
    obtain ⟨b138, e139, hf⟩ := mb0 hf
    refine my_gR hx hb hts hown hK hJ fd_RX7_48 hv_7_11 e139 dX7_placeDyad_204 ?_
    obtain ⟨i140, e141, hf⟩ := mb0 hf
    obtain ⟨σ142, e143, hf⟩ := mb0 hf
    refine mx_callV (As := [.int x134, .ref b136, .ref b138]) (rest := []) hx hb hml hts hown hK hJ rfl rfl (ci := 8) rfl e141 (c_X8_addTurned l G P b127 x134 b136 b138 σ133 σ142 e143) me_X8_addTurned kw_781 kw_782 kw_780 (Nat.le_of_ble_eq_true rfl) (Nat.le_of_ble_eq_true rfl) rfl hl.1 rfl (Nat.le_of_ble_eq_true rfl) dX7_placeDyad_207 (fun H locs hJ => ?_)
    refine lv_aload_n hx hb dX7_placeDyad_210 rfl (lv_at hl 3 rfl) ?_
    refine lv_iload_n hx hb dX7_placeDyad_211 rfl (lv_at hl 0 rfl) ?_
    obtain ⟨x145, σ144, e146, hf⟩ := mc0 hf
    refine mx_callS (As := [.ref a1, .int x92]) (rest := []) hx hb hml hts hown hK hJ rfl rfl (c_X7_openOr l G P a1 x92 σ142 x145 σ144 e146) me_X7_openOr kw_719 kw_718 (Nat.le_of_ble_eq_true rfl) (Nat.le_of_ble_eq_true rfl) rfl hl.1 rfl (Nat.le_of_ble_eq_true rfl) dX7_placeDyad_212 (fun H locs hJ => ?_)
    exact my_iret hx hb hr hlocks hJ hf dX7_placeDyad_215
  · rw [if_pos c94] at hf
    refine lv_iconst (v := 3) hx hb dX7_placeDyad_140 (by decide) ?_
    exact my_iret hx hb hr hlocks hJ hf dX7_placeDyad_141
set_option maxHeartbeats 4000000 in
set_option maxRecDepth 100000 in
theorem c_X7_placeSlide (l : Launch) (G : mx_G) (P : mx_P) (a0 : Nat) (a1 : Nat) (σ : mx_S) (r : Int32) (σ' : mx_S) (hf : f_X7_placeSlide P a0 a1 σ = some (r, σ')) : mxz σ ≤ mpc P → mxu σ ≤ mps P → mx_M l yX7_placeSlide cX7_placeSlide 4 (some .int) 3 81 G P [.ref a0, .ref a1] σ (some (.int r)) σ' := by
  intro hcap hcau
  refine mx_ofW (by decide +kernel) hcap hcau (Nat.le_of_ble_eq_true rfl) ?_
  intro p e s m below meth c hx hb hr hml hts hown hlocks hname hK hJ ls hl
  have hz0 := hJ.2.1
  have hown : s.vm.findClass RX7 = some m.cls := hown
  have hl : lv_has ls 4 [(0, .ref a0), (1, .ref a1)] := hl
  have D231 : ∀ (v0 : Nat) (v1 : Nat) (v2 : Nat) (v3 : Int32) (τ : mx_S), f_X7_placeSlide_D231 P v0 v1 v2 v3 τ = some (r, σ') → ∀ (H : Heap) (locs : List Loc), mx_J G P s.heap (mxz σ) (mxu σ) τ H locs → ∀ ls : Array Slot, lv_has ls 4 [(0, .ref v0), (1, .ref v1), (2, .ref v2), (3, .int v3)] → W p l e (mx_rm P 3 81 σ) s m ([.ref a0, .ref a1] : List Value).toArray below meth c H locs (mxz τ - mxz σ) (mxu τ - mxu σ) (mx_Z below G P (some (.int r)) σ σ' [.ref a0, .ref a1] s) (F0 m 231 ls []) := by
    intro v0 v1 v2 v3 τ hf _ _ hJ ls hl
    unfold f_X7_placeSlide_D231 at hf
    refine lv_aload_n hx hb dX7_placeSlide_231 rfl (lv_at hl 1 rfl) ?_
    obtain ⟨b147, e148, hf⟩ := mb0 hf
    refine my_gR hx hb hts hown hK hJ fd_RX7_194 hv_5_12 e148 dX7_placeSlide_232 ?_
    refine lv_aload_n hx hb dX7_placeSlide_235 rfl (lv_at hl 2 rfl) ?_
    obtain ⟨i149, e150, hf⟩ := mb0 hf
    obtain ⟨σ151, e152, hf⟩ := mb0 hf
    refine mx_callV (As := [.ref v2]) (rest := []) hx hb hml hts hown hK hJ rfl rfl (ci := 8) rfl e150 (c_X8_copy l G P b147 v2 τ σ151 e152) me_X8_copy kw_679 kw_680 kw_678 (Nat.le_of_ble_eq_true rfl) (Nat.le_of_ble_eq_true rfl) rfl hl.1 rfl (Nat.le_of_ble_eq_true rfl) dX7_placeSlide_236 (fun H locs hJ => ?_)
    refine lv_aload_n hx hb dX7_placeSlide_239 rfl (lv_at hl 1 rfl) ?_
    obtain ⟨b153, e154, hf⟩ := mb0 hf
    refine my_gR hx hb hts hown hK hJ fd_RX7_194 hv_5_12 e154 dX7_placeSlide_240 ?_
    refine lv_aload_n hx hb dX7_placeSlide_243 rfl (lv_at hl 0 rfl) ?_
    obtain ⟨b155, e156, hf⟩ := mb0 hf
    refine my_gR hx hb hts hown hK hJ fd_RX7_68 hv_7_17 e156 dX7_placeSlide_244 ?_
    refine lv_aload_n hx hb dX7_placeSlide_247 rfl (lv_at hl 0 rfl) ?_
    obtain ⟨b157, e158, hf⟩ := mb0 hf
    refine my_gR hx hb hts hown hK hJ fd_RX7_52 hv_7_12 e158 dX7_placeSlide_248 ?_
    obtain ⟨i159, e160, hf⟩ := mb0 hf
    obtain ⟨σ161, e162, hf⟩ := mb0 hf
    refine mx_callV (As := [.ref b155, .ref b157]) (rest := []) hx hb hml hts hown hK hJ rfl rfl (ci := 8) rfl e160 (c_X8_add l G P b153 b155 b157 σ151 σ161 e162) me_X8_add kw_715 kw_716 kw_714 (Nat.le_of_ble_eq_true rfl) (Nat.le_of_ble_eq_true rfl) rfl hl.1 rfl (Nat.le_of_ble_eq_true rfl) dX7_placeSlide_251 (fun H locs hJ => ?_)
    refine lv_aload_n hx hb dX7_placeSlide_254 rfl (lv_at hl 1 rfl) ?_
    refine lv_iload_n hx hb dX7_placeSlide_255 rfl (lv_at hl 3 rfl) ?_
    obtain ⟨x164, σ163, e165, hf⟩ := mc0 hf
    refine mx_callS (As := [.ref v1, .int v3]) (rest := []) hx hb hml hts hown hK hJ rfl rfl (c_X7_openOr l G P v1 v3 σ161 x164 σ163 e165) me_X7_openOr kw_719 kw_718 (Nat.le_of_ble_eq_true rfl) (Nat.le_of_ble_eq_true rfl) rfl hl.1 rfl (Nat.le_of_ble_eq_true rfl) dX7_placeSlide_256 (fun H locs hJ => ?_)
    exact my_iret hx hb hr hlocks hJ hf dX7_placeSlide_259
  unfold f_X7_placeSlide at hf
  refine lv_aload_n hx hb dX7_placeSlide_0 rfl (lv_at hl 0 rfl) ?_
  obtain ⟨b1, e2, hf⟩ := mb0 hf
  refine my_gR hx hb hts hown hK hJ fd_RX7_11 hv_7_0 e2 dX7_placeSlide_1 ?_
  refine lv_aload_n hx hb dX7_placeSlide_4 rfl (lv_at hl 1 rfl) ?_
  obtain ⟨b3, e4, hf⟩ := mb0 hf
  refine my_gR hx hb hts hown hK hJ fd_RX7_167 hv_5_2 e4 dX7_placeSlide_5 ?_
  refine lv_iconst (v := 1) hx hb dX7_placeSlide_8 (by decide) ?_
  obtain ⟨x5, e6, hf⟩ := mb0 hf
  refine mx_aI hx hb hK hJ e6 dX7_placeSlide_9 ?_
  obtain ⟨b7, e8, hf⟩ := mb0 hf
  refine mx_aR hx hb hK hJ (t := 4) rfl (fun _ _ _ => rfl) e8 dX7_placeSlide_10 ?_
  obtain ⟨b9, e10, hf⟩ := mb0 hf
  refine my_gR hx hb hts hown hK hJ fd_RX7_194 hv_5_12 e10 dX7_placeSlide_11 ?_
  refine lv_astore_n (lv' := [(2, .ref b9), (0, .ref a0), (1, .ref a1)]) hx hb dX7_placeSlide_14 rfl hl (by decide) rfl (fun ls hl => ?_)
  refine lv_aload_n hx hb dX7_placeSlide_15 rfl (lv_at hl 1 rfl) ?_
  obtain ⟨b11, e12, hf⟩ := mb0 hf
  refine my_gR hx hb hts hown hK hJ fd_RX7_52 hv_7_12 e12 dX7_placeSlide_16 ?_
  refine lv_aload_n hx hb dX7_placeSlide_19 rfl (lv_at hl 1 rfl) ?_
  obtain ⟨b13, e14, hf⟩ := mb0 hf
  refine my_gR hx hb hts hown hK hJ fd_RX7_11 hv_7_0 e14 dX7_placeSlide_20 ?_
  refine lv_aload_n hx hb dX7_placeSlide_23 rfl (lv_at hl 2 rfl) ?_
  obtain ⟨b15, e16, hf⟩ := mb0 hf
  refine my_gR hx hb hts hown hK hJ fd_RX7_167 hv_5_2 e16 dX7_placeSlide_24 ?_
  refine lv_iconst (v := 2) hx hb dX7_placeSlide_27 (by decide) ?_
  obtain ⟨x17, e18, hf⟩ := mb0 hf
  refine mx_aI hx hb hK hJ e18 dX7_placeSlide_28 ?_
  obtain ⟨b19, e20, hf⟩ := mb0 hf
  refine mx_aR hx hb hK hJ (t := 4) rfl (fun _ _ _ => rfl) e20 dX7_placeSlide_29 ?_
  obtain ⟨b21, e22, hf⟩ := mb0 hf
  refine my_gR hx hb hts hown hK hJ fd_RX7_194 hv_5_12 e22 dX7_placeSlide_30 ?_
  refine lv_aload_n hx hb dX7_placeSlide_33 rfl (lv_at hl 0 rfl) ?_
  obtain ⟨i23, e24, hf⟩ := mb0 hf
  obtain ⟨σ25, e26, hf⟩ := mb0 hf
  refine mx_callV (As := [.ref b21, .ref b9]) (rest := []) hx hb hml hts hown hK hJ rfl rfl (ci := 8) rfl e24 (c_X8_minus l G P b11 b21 b9 σ σ25 e26) me_X8_minus kw_730 kw_731 kw_729 (Nat.le_of_ble_eq_true rfl) (Nat.le_of_ble_eq_true rfl) rfl hl.1 rfl (Nat.le_of_ble_eq_true rfl) dX7_placeSlide_34 (fun H locs hJ => ?_)
  refine lv_aload_n hx hb dX7_placeSlide_37 rfl (lv_at hl 1 rfl) ?_
  obtain ⟨b27, e28, hf⟩ := mb0 hf
  refine my_gR hx hb hts hown hK hJ fd_RX7_62 hv_7_15 e28 dX7_placeSlide_38 ?_
  refine lv_aload_n hx hb dX7_placeSlide_41 rfl (lv_at hl 1 rfl) ?_
  obtain ⟨b29, e30, hf⟩ := mb0 hf
  refine my_gR hx hb hts hown hK hJ fd_RX7_52 hv_7_12 e30 dX7_placeSlide_42 ?_
  obtain ⟨i31, e32, hf⟩ := mb0 hf
  obtain ⟨σ33, e34, hf⟩ := mb0 hf
  refine mx_callV (As := [.ref b29]) (rest := []) hx hb hml hts hown hK hJ rfl rfl (ci := 0) rfl e32 (c_X0_norm l G P b27 b29 σ25 σ33 e34) me_X0_norm kw_738 kw_739 kw_737 (Nat.le_of_ble_eq_true rfl) (Nat.le_of_ble_eq_true rfl) rfl hl.1 rfl (Nat.le_of_ble_eq_true rfl) dX7_placeSlide_45 (fun H locs hJ => ?_)
  refine lv_aload_n hx hb dX7_placeSlide_48 rfl (lv_at hl 1 rfl) ?_
  obtain ⟨b35, e36, hf⟩ := mb0 hf
  refine my_gR hx hb hts hown hK hJ fd_RX7_48 hv_7_11 e36 dX7_placeSlide_49 ?_
  refine lv_aload_n hx hb dX7_placeSlide_52 rfl (lv_at hl 0 rfl) ?_
  refine lv_aload_n hx hb dX7_placeSlide_53 rfl (lv_at hl 1 rfl) ?_
  obtain ⟨b37, e38, hf⟩ := mb0 hf
  refine my_gR hx hb hts hown hK hJ fd_RX7_11 hv_7_0 e38 dX7_placeSlide_54 ?_
  refine lv_aload_n hx hb dX7_placeSlide_57 rfl (lv_at hl 2 rfl) ?_
  obtain ⟨b39, e40, hf⟩ := mb0 hf
  refine my_gR hx hb hts hown hK hJ fd_RX7_167 hv_5_2 e40 dX7_placeSlide_58 ?_
  refine lv_iconst (v := 0) hx hb dX7_placeSlide_61 (by decide) ?_
  obtain ⟨x41, e42, hf⟩ := mb0 hf
  refine mx_aI hx hb hK hJ e42 dX7_placeSlide_62 ?_
  obtain ⟨b43, e44, hf⟩ := mb0 hf
  refine mx_aR hx hb hK hJ (t := 4) rfl (fun _ _ _ => rfl) e44 dX7_placeSlide_63 ?_
  obtain ⟨b45, e46, hf⟩ := mb0 hf
  refine my_gR hx hb hts hown hK hJ fd_RX7_194 hv_5_12 e46 dX7_placeSlide_64 ?_
  obtain ⟨i47, e48, hf⟩ := mb0 hf
  obtain ⟨σ49, e50, hf⟩ := mb0 hf
  refine mx_callV (As := [.ref b9, .ref b45]) (rest := []) hx hb hml hts hown hK hJ rfl rfl (ci := 8) rfl e48 (c_X8_minus l G P b35 b9 b45 σ33 σ49 e50) me_X8_minus kw_730 kw_731 kw_729 (Nat.le_of_ble_eq_true rfl) (Nat.le_of_ble_eq_true rfl) rfl hl.1 rfl (Nat.le_of_ble_eq_true rfl) dX7_placeSlide_67 (fun H locs hJ => ?_)
  refine lv_aload_n hx hb dX7_placeSlide_70 rfl (lv_at hl 1 rfl) ?_
  obtain ⟨b51, e52, hf⟩ := mb0 hf
  refine my_gR hx hb hts hown hK hJ fd_RX7_65 hv_7_16 e52 dX7_placeSlide_71 ?_
  refine lv_aload_n hx hb dX7_placeSlide_74 rfl (lv_at hl 1 rfl) ?_
  obtain ⟨b53, e54, hf⟩ := mb0 hf
  refine my_gR hx hb hts hown hK hJ fd_RX7_48 hv_7_11 e54 dX7_placeSlide_75 ?_
  refine lv_aload_n hx hb dX7_placeSlide_78 rfl (lv_at hl 1 rfl) ?_
  obtain ⟨b55, e56, hf⟩ := mb0 hf
  refine my_gR hx hb hts hown hK hJ fd_RX7_52 hv_7_12 e56 dX7_placeSlide_79 ?_
  obtain ⟨i57, e58, hf⟩ := mb0 hf
  obtain ⟨σ59, e60, hf⟩ := mb0 hf
  refine mx_callV (As := [.ref b53, .ref b55]) (rest := []) hx hb hml hts hown hK hJ rfl rfl (ci := 0) rfl e58 (c_X0_dot l G P b51 b53 b55 σ49 σ59 e60) me_X0_dot kw_789 kw_790 kw_788 (Nat.le_of_ble_eq_true rfl) (Nat.le_of_ble_eq_true rfl) rfl hl.1 rfl (Nat.le_of_ble_eq_true rfl) dX7_placeSlide_82 (fun H locs hJ => ?_)
  refine lv_aload_n hx hb dX7_placeSlide_85 rfl (lv_at hl 1 rfl) ?_
  obtain ⟨b61, e62, hf⟩ := mb0 hf
  refine my_gR hx hb hts hown hK hJ fd_RX7_68 hv_7_17 e62 dX7_placeSlide_86 ?_
  refine lv_aload_n hx hb dX7_placeSlide_89 rfl (lv_at hl 1 rfl) ?_
  obtain ⟨b63, e64, hf⟩ := mb0 hf
  refine my_gR hx hb hts hown hK hJ fd_RX7_65 hv_7_16 e64 dX7_placeSlide_90 ?_
  obtain ⟨i65, e66, hf⟩ := mb0 hf
  obtain ⟨σ67, e68, hf⟩ := mb0 hf
  refine mx_callV (As := [.ref b63]) (rest := []) hx hb hml hts hown hK hJ rfl rfl (ci := 0) rfl e66 (c_X0_negative l G P b61 b63 σ59 σ67 e68) me_X0_negative kw_687 kw_688 kw_686 (Nat.le_of_ble_eq_true rfl) (Nat.le_of_ble_eq_true rfl) rfl hl.1 rfl (Nat.le_of_ble_eq_true rfl) dX7_placeSlide_93 (fun H locs hJ => ?_)
  refine lv_aload_n hx hb dX7_placeSlide_96 rfl (lv_at hl 1 rfl) ?_
  obtain ⟨b69, e70, hf⟩ := mb0 hf
  refine my_gR hx hb hts hown hK hJ fd_RX7_68 hv_7_17 e70 dX7_placeSlide_97 ?_
  refine lv_aload_n hx hb dX7_placeSlide_100 rfl (lv_at hl 1 rfl) ?_
  obtain ⟨b71, e72, hf⟩ := mb0 hf
  refine my_gR hx hb hts hown hK hJ fd_RX7_68 hv_7_17 e72 dX7_placeSlide_101 ?_
  refine lv_aload_n hx hb dX7_placeSlide_104 rfl (lv_at hl 1 rfl) ?_
  obtain ⟨b73, e74, hf⟩ := mb0 hf
  refine my_gR hx hb hts hown hK hJ fd_RX7_62 hv_7_15 e74 dX7_placeSlide_105 ?_
  obtain ⟨i75, e76, hf⟩ := mb0 hf
  obtain ⟨σ77, e78, hf⟩ := mb0 hf
  refine mx_callV (As := [.ref b71, .ref b73]) (rest := []) hx hb hml hts hown hK hJ rfl rfl (ci := 0) rfl e76 (c_X0_quotient l G P b69 b71 b73 σ67 σ77 e78) me_X0_quotient kw_759 kw_760 kw_758 (Nat.le_of_ble_eq_true rfl) (Nat.le_of_ble_eq_true rfl) rfl hl.1 rfl (Nat.le_of_ble_eq_true rfl) dX7_placeSlide_108 (fun H locs hJ => ?_)
  refine lv_aload_n hx hb dX7_placeSlide_111 rfl (lv_at hl 1 rfl) ?_
  obtain ⟨b79, e80, hf⟩ := mb0 hf
  refine my_gR hx hb hts hown hK hJ fd_RX7_71 hv_7_18 e80 dX7_placeSlide_112 ?_
  refine lv_aload_n hx hb dX7_placeSlide_115 rfl (lv_at hl 1 rfl) ?_
  obtain ⟨b81, e82, hf⟩ := mb0 hf
  refine my_gR hx hb hts hown hK hJ fd_RX7_48 hv_7_11 e82 dX7_placeSlide_116 ?_
  obtain ⟨i83, e84, hf⟩ := mb0 hf
  obtain ⟨σ85, e86, hf⟩ := mb0 hf
  refine mx_callV (As := [.ref b81]) (rest := []) hx hb hml hts hown hK hJ rfl rfl (ci := 0) rfl e84 (c_X0_norm l G P b79 b81 σ77 σ85 e86) me_X0_norm kw_738 kw_739 kw_737 (Nat.le_of_ble_eq_true rfl) (Nat.le_of_ble_eq_true rfl) rfl hl.1 rfl (Nat.le_of_ble_eq_true rfl) dX7_placeSlide_119 (fun H locs hJ => ?_)
  refine lv_aload_n hx hb dX7_placeSlide_122 rfl (lv_at hl 1 rfl) ?_
  obtain ⟨b87, e88, hf⟩ := mb0 hf
  refine my_gR hx hb hts hown hK hJ fd_RX7_71 hv_7_18 e88 dX7_placeSlide_123 ?_
  refine lv_iconst (v := 1) hx hb dX7_placeSlide_126 (by decide) ?_
  refine lv_aload_n hx hb dX7_placeSlide_127 rfl (lv_at hl 1 rfl) ?_
  obtain ⟨b89, e90, hf⟩ := mb0 hf
  refine my_gR hx hb hts hown hK hJ fd_RX7_65 hv_7_16 e90 dX7_placeSlide_128 ?_
  refine lv_aload_n hx hb dX7_placeSlide_131 rfl (lv_at hl 1 rfl) ?_
  obtain ⟨b91, e92, hf⟩ := mb0 hf
  refine my_gR hx hb hts hown hK hJ fd_RX7_68 hv_7_17 e92 dX7_placeSlide_132 ?_
  obtain ⟨i93, e94, hf⟩ := mb0 hf
  obtain ⟨σ95, e96, hf⟩ := mb0 hf
  refine mx_callV (As := [.int (1 : Int32), .ref b89, .ref b91]) (rest := []) hx hb hml hts hown hK hJ rfl rfl (ci := 0) rfl e94 (c_X0_addProduct l G P b87 (1 : Int32) b89 b91 σ85 σ95 e96) me_X0_addProduct kw_705 kw_706 kw_764 (Nat.le_of_ble_eq_true rfl) (Nat.le_of_ble_eq_true rfl) rfl hl.1 rfl (Nat.le_of_ble_eq_true rfl) dX7_placeSlide_135 (fun H locs hJ => ?_)
  refine lv_aload_n hx hb dX7_placeSlide_138 rfl (lv_at hl 1 rfl) ?_
  obtain ⟨b97, e98, hf⟩ := mb0 hf
  refine my_gR hx hb hts hown hK hJ fd_RX7_71 hv_7_18 e98 dX7_placeSlide_139 ?_
  refine lv_aload_n hx hb dX7_placeSlide_142 rfl (lv_at hl 2 rfl) ?_
  obtain ⟨b99, e100, hf⟩ := mb0 hf
  refine my_gR hx hb hts hown hK hJ fd_RX7_234 hv_5_9 e100 dX7_placeSlide_143 ?_
  refine lv_aload_n hx hb dX7_placeSlide_146 rfl (lv_at hl 1 rfl) ?_
  obtain ⟨b101, e102, hf⟩ := mb0 hf
  refine my_gR hx hb hts hown hK hJ fd_RX7_71 hv_7_18 e102 dX7_placeSlide_147 ?_
  obtain ⟨i103, e104, hf⟩ := mb0 hf
  obtain ⟨σ105, e106, hf⟩ := mb0 hf
  refine mx_callV (As := [.ref b99, .ref b101]) (rest := []) hx hb hml hts hown hK hJ rfl rfl (ci := 0) rfl e104 (c_X0_minus l G P b97 b99 b101 σ95 σ105 e106) me_X0_minus kw_734 kw_735 kw_749 (Nat.le_of_ble_eq_true rfl) (Nat.le_of_ble_eq_true rfl) rfl hl.1 rfl (Nat.le_of_ble_eq_true rfl) dX7_placeSlide_150 (fun H locs hJ => ?_)
  refine lv_aload_n hx hb dX7_placeSlide_153 rfl (lv_at hl 1 rfl) ?_
  obtain ⟨i107, e108, hf⟩ := mb0 hf
  obtain ⟨x110, σ109, e111, hf⟩ := mc0 hf
  refine mx_callV (As := []) (rest := []) hx hb hml hts hown hK hJ rfl rfl (ci := 7) rfl e108 (c_X7_judgeRest l G P a0 σ105 x110 σ109 e111) me_X7_judgeRest kw_767 ks_5 kw_765 (Nat.le_of_ble_eq_true rfl) (Nat.le_of_ble_eq_true rfl) rfl hl.1 rfl (Nat.le_of_ble_eq_true rfl) dX7_placeSlide_154 (fun H locs hJ => ?_)
  refine lv_istore_n (lv' := [(3, .int x110), (2, .ref b9), (0, .ref a0), (1, .ref a1)]) hx hb dX7_placeSlide_157 rfl hl (by decide) rfl (fun ls hl => ?_)
  refine lv_iload_n hx hb dX7_placeSlide_158 rfl (lv_at hl 0 rfl) ?_
  refine lv_iconst (v := 3) hx hb dX7_placeSlide_159 (by decide) ?_
  refine lv_icmp_ne (tgt := 165) hx hb dX7_placeSlide_160 (by decide) (fun c112 => ?_) (fun c112 => ?_)
  · rw [if_neg c112] at hf
    refine lv_aload_n hx hb dX7_placeSlide_165 rfl (lv_at hl 2 rfl) ?_
    obtain ⟨b113, e114, hf⟩ := mb0 hf
    refine my_gR hx hb hts hown hK hJ fd_RX7_71 hv_7_18 e114 dX7_placeSlide_166 ?_
    refine lv_aload_n hx hb dX7_placeSlide_169 rfl (lv_at hl 2 rfl) ?_
    obtain ⟨b115, e116, hf⟩ := mb0 hf
    refine my_gR hx hb hts hown hK hJ fd_RX7_71 hv_7_18 e116 dX7_placeSlide_170 ?_
    refine lv_aload_n hx hb dX7_placeSlide_173 rfl (lv_at hl 2 rfl) ?_
    obtain ⟨b117, e118, hf⟩ := mb0 hf
    refine my_gR hx hb hts hown hK hJ fd_RX7_62 hv_7_15 e118 dX7_placeSlide_174 ?_
    obtain ⟨i119, e120, hf⟩ := mb0 hf
    obtain ⟨σ121, e122, hf⟩ := mb0 hf
    refine mx_callV (As := [.ref b115, .ref b117]) (rest := []) hx hb hml hts hown hK hJ rfl rfl (ci := 0) rfl e120 (c_X0_quotient l G P b113 b115 b117 σ109 σ121 e122) me_X0_quotient kw_759 kw_760 kw_758 (Nat.le_of_ble_eq_true rfl) (Nat.le_of_ble_eq_true rfl) rfl hl.1 rfl (Nat.le_of_ble_eq_true rfl) dX7_placeSlide_177 (fun H locs hJ => ?_)
    refine lv_aload_n hx hb dX7_placeSlide_180 rfl (lv_at hl 2 rfl) ?_
    obtain ⟨b123, e124, hf⟩ := mb0 hf
    refine my_gR hx hb hts hown hK hJ fd_RX7_71 hv_7_18 e124 dX7_placeSlide_181 ?_
    obtain ⟨i125, e126, hf⟩ := mb0 hf
    obtain ⟨σ127, e128, hf⟩ := mb0 hf
    refine mx_callV (As := []) (rest := []) hx hb hml hts hown hK hJ rfl rfl (ci := 0) rfl e126 (c_X0_takeRoot l G P b123 σ121 σ127 e128) me_X0_takeRoot kw_770 kw_771 kw_769 (Nat.le_of_ble_eq_true rfl) (Nat.le_of_ble_eq_true rfl) rfl hl.1 rfl (Nat.le_of_ble_eq_true rfl) dX7_placeSlide_184 (fun H locs hJ => ?_)
    refine lv_aload_n hx hb dX7_placeSlide_187 rfl (lv_at hl 3 rfl) ?_
    refine lv_aload_n hx hb dX7_placeSlide_188 rfl (lv_at hl 2 rfl) ?_
    obtain ⟨x129, e130, hf⟩ := mb0 hf
    refine my_gI hx hb hts hown hK hJ fd_RX7_84 hv_7_6 e130 dX7_placeSlide_189 ?_
    obtain ⟨i131, e132, hf⟩ := mb0 hf
    obtain ⟨x134, σ133, e135, hf⟩ := mc0 hf
    refine mx_callV (As := [.int x129]) (rest := []) hx hb hml hts hown hK hJ rfl rfl (ci := 5) rfl e132 (c_X5_signIn l G P a1 x129 σ127 x134 σ133 e135) me_X5_signIn kw_777 kw_778 kw_776 (Nat.le_of_ble_eq_true rfl) (Nat.le_of_ble_eq_true rfl) rfl hl.1 rfl (Nat.le_of_ble_eq_true rfl) dX7_placeSlide_192 (fun H locs hJ => ?_)
    refine lv_if_le (tgt := 216) hx hb dX7_placeSlide_195 (by decide) (fun c136 => ?_) (fun c136 => ?_)
    · rw [if_pos c136] at hf
      refine lv_aload_n hx hb dX7_placeSlide_216 rfl (lv_at hl 2 rfl) ?_
      obtain ⟨b137, e138, hf⟩ := mb0 hf
      refine my_gR hx hb hts hown hK hJ fd_RX7_68 hv_7_17 e138 dX7_placeSlide_217 ?_
      refine lv_aload_n hx hb dX7_placeSlide_220 rfl (lv_at hl 2 rfl) ?_
      obtain ⟨b139, e140, hf⟩ := mb0 hf
      refine my_gR hx hb hts hown hK hJ fd_RX7_68 hv_7_17 e140 dX7_placeSlide_221 ?_
      refine lv_aload_n hx hb dX7_placeSlide_224 rfl (lv_at hl 2 rfl) ?_
      obtain ⟨b141, e142, hf⟩ := mb0 hf
      refine my_gR hx hb hts hown hK hJ fd_RX7_71 hv_7_18 e142 dX7_placeSlide_225 ?_
      obtain ⟨i143, e144, hf⟩ := mb0 hf
      obtain ⟨σ145, e146, hf⟩ := mb0 hf
      refine mx_callV (As := [.ref b139, .ref b141]) (rest := []) hx hb hml hts hown hK hJ rfl rfl (ci := 0) rfl e144 (c_X0_minus l G P b137 b139 b141 σ133 σ145 e146) me_X0_minus kw_734 kw_735 kw_749 (Nat.le_of_ble_eq_true rfl) (Nat.le_of_ble_eq_true rfl) rfl hl.1 rfl (Nat.le_of_ble_eq_true rfl) dX7_placeSlide_228 (fun H locs hJ => ?_)
      exact D231 a0 a1 b9 x110 σ145 hf _ _ hJ ls (lv_sub hl [2, 3, 1, 0] rfl)
    · rw [if_neg c136] at hf
      refine lv_aload_n hx hb dX7_placeSlide_198 rfl (lv_at hl 2 rfl) ?_
      obtain ⟨b166, e167, hf⟩ := mb0 hf
      refine my_gR hx hb hts hown hK hJ fd_RX7_68 hv_7_17 e167 dX7_placeSlide_199 ?_
      refine lv_aload_n hx hb dX7_placeSlide_202 rfl (lv_at hl 2 rfl) ?_
      obtain ⟨b168, e169, hf⟩ := mb0 hf
      refine my_gR hx hb hts hown hK hJ fd_RX7_68 hv_7_17 e169 dX7_placeSlide_203 ?_
      refine lv_aload_n hx hb dX7_placeSlide_206 rfl (lv_at hl 2 rfl) ?_
      obtain ⟨b170, e171, hf⟩ := mb0 hf
      refine my_gR hx hb hts hown hK hJ fd_RX7_71 hv_7_18 e171 dX7_placeSlide_207 ?_
      obtain ⟨i172, e173, hf⟩ := mb0 hf
      obtain ⟨σ174, e175, hf⟩ := mb0 hf
      refine mx_callV (As := [.ref b168, .ref b170]) (rest := []) hx hb hml hts hown hK hJ rfl rfl (ci := 0) rfl e173 (c_X0_plus l G P b166 b168 b170 σ133 σ174 e175) me_X0_plus kw_746 kw_747 kw_745 (Nat.le_of_ble_eq_true rfl) (Nat.le_of_ble_eq_true rfl) rfl hl.1 rfl (Nat.le_of_ble_eq_true rfl) dX7_placeSlide_210 (fun H locs hJ => ?_)
      refine lv_goto (tgt := 231) hx hb dX7_placeSlide_213 (by decide) ?_
      exact D231 a0 a1 b9 x110 σ174 hf _ _ hJ ls (lv_sub hl [2, 3, 1, 0] rfl)
  · rw [if_pos c112] at hf
    refine lv_iconst (v := 3) hx hb dX7_placeSlide_163 (by decide) ?_
    exact my_iret hx hb hr hlocks hJ hf dX7_placeSlide_164
set_option maxHeartbeats 4000000 in
set_option maxRecDepth 100000 in
theorem c_X7_span (l : Launch) (G : mx_G) (P : mx_P) (a0 : Nat) (a1 : Nat) (a2 : Nat) (a3 : Nat) (a4 : Nat) (σ : mx_S) (σ' : mx_S) (hf : f_X7_span P a0 a1 a2 a3 a4 σ = some σ') : mxz σ ≤ mpc P → mxu σ ≤ mps P → mx_M l yX7_span cX7_span 5 none 3 82 G P [.ref a0, .ref a1, .ref a2, .ref a3, .ref a4] σ none σ' := by
  intro hcap hcau
  refine mx_ofW (by decide +kernel) hcap hcau (Nat.le_of_ble_eq_true rfl) ?_
  intro p e s m below meth c hx hb hr hml hts hown hlocks hname hK hJ ls hl
  have hz0 := hJ.2.1
  have hown : s.vm.findClass RX7 = some m.cls := hown
  have hl : lv_has ls 5 [(0, .ref a0), (1, .ref a1), (2, .ref a2), (3, .ref a3), (4, .ref a4)] := hl
  unfold f_X7_span at hf
  refine lv_aload_n hx hb dX7_span_0 rfl (lv_at hl 0 rfl) ?_
  obtain ⟨b1, e2, hf⟩ := mb0 hf
  refine my_gR hx hb hts hown hK hJ fd_RX7_48 hv_7_11 e2 dX7_span_1 ?_
  refine lv_aload hx hb dX7_span_4 (lv_at hl 4 rfl) ?_
  refine lv_aload_n hx hb dX7_span_6 rfl (lv_at hl 3 rfl) ?_
  obtain ⟨i3, e4, hf⟩ := mb0 hf
  obtain ⟨σ5, e6, hf⟩ := mb0 hf
  refine mx_callV (As := [.ref a4, .ref a3]) (rest := []) hx hb hml hts hown hK hJ rfl rfl (ci := 8) rfl e4 (c_X8_minus l G P b1 a4 a3 σ σ5 e6) me_X8_minus kw_730 kw_731 kw_729 (Nat.le_of_ble_eq_true rfl) (Nat.le_of_ble_eq_true rfl) rfl hl.1 rfl (Nat.le_of_ble_eq_true rfl) dX7_span_7 (fun H locs hJ => ?_)
  refine lv_aload_n hx hb dX7_span_10 rfl (lv_at hl 2 rfl) ?_
  refine lv_aload_n hx hb dX7_span_11 rfl (lv_at hl 3 rfl) ?_
  obtain ⟨i7, e8, hf⟩ := mb0 hf
  obtain ⟨σ9, e10, hf⟩ := mb0 hf
  refine mx_callV (As := [.ref a3]) (rest := []) hx hb hml hts hown hK hJ rfl rfl (ci := 8) rfl e8 (c_X8_copy l G P a2 a3 σ5 σ9 e10) me_X8_copy kw_679 kw_680 kw_678 (Nat.le_of_ble_eq_true rfl) (Nat.le_of_ble_eq_true rfl) rfl hl.1 rfl (Nat.le_of_ble_eq_true rfl) dX7_span_12 (fun H locs hJ => ?_)
  refine lv_aload_n hx hb dX7_span_15 rfl (lv_at hl 2 rfl) ?_
  refine lv_aload_n hx hb dX7_span_16 rfl (lv_at hl 1 rfl) ?_
  obtain ⟨b11, e12, hf⟩ := mb0 hf
  refine my_gR hx hb hts hown hK hJ fd_RX7_234 hv_5_9 e12 dX7_span_17 ?_
  refine lv_aload_n hx hb dX7_span_20 rfl (lv_at hl 0 rfl) ?_
  obtain ⟨b13, e14, hf⟩ := mb0 hf
  refine my_gR hx hb hts hown hK hJ fd_RX7_48 hv_7_11 e14 dX7_span_21 ?_
  obtain ⟨i15, e16, hf⟩ := mb0 hf
  obtain ⟨σ17, e18, hf⟩ := mb0 hf
  refine mx_callV (As := [.ref b11, .ref b13]) (rest := []) hx hb hml hts hown hK hJ rfl rfl (ci := 8) rfl e16 (c_X8_add l G P a2 b11 b13 σ9 σ17 e18) me_X8_add kw_715 kw_716 kw_714 (Nat.le_of_ble_eq_true rfl) (Nat.le_of_ble_eq_true rfl) rfl hl.1 rfl (Nat.le_of_ble_eq_true rfl) dX7_span_24 (fun H locs hJ => ?_)
  refine lv_aload_n hx hb dX7_span_27 rfl (lv_at hl 2 rfl) ?_
  refine lv_iconst (v := 1) hx hb dX7_span_28 (by decide) ?_
  refine lv_aload_n hx hb dX7_span_29 rfl (lv_at hl 1 rfl) ?_
  obtain ⟨b19, e20, hf⟩ := mb0 hf
  refine my_gR hx hb hts hown hK hJ fd_RX7_244 hv_5_10 e20 dX7_span_30 ?_
  refine lv_aload_n hx hb dX7_span_33 rfl (lv_at hl 0 rfl) ?_
  obtain ⟨b21, e22, hf⟩ := mb0 hf
  refine my_gR hx hb hts hown hK hJ fd_RX7_48 hv_7_11 e22 dX7_span_34 ?_
  obtain ⟨i23, e24, hf⟩ := mb0 hf
  obtain ⟨σ25, e26, hf⟩ := mb0 hf
  refine mx_callV (As := [.int (1 : Int32), .ref b19, .ref b21]) (rest := []) hx hb hml hts hown hK hJ rfl rfl (ci := 8) rfl e24 (c_X8_addTurned l G P a2 (1 : Int32) b19 b21 σ17 σ25 e26) me_X8_addTurned kw_781 kw_782 kw_780 (Nat.le_of_ble_eq_true rfl) (Nat.le_of_ble_eq_true rfl) rfl hl.1 rfl (Nat.le_of_ble_eq_true rfl) dX7_span_37 (fun H locs hJ => ?_)
  exact my_vret hx hb hr hlocks hJ hf dX7_span_40
set_option maxHeartbeats 4000000 in
set_option maxRecDepth 100000 in
theorem c_X7_placeCross (l : Launch) (G : mx_G) (P : mx_P) (a0 : Nat) (a1 : Nat) (σ : mx_S) (r : Int32) (σ' : mx_S) (hf : f_X7_placeCross P a0 a1 σ = some (r, σ')) : mxz σ ≤ mpc P → mxu σ ≤ mps P → mx_M l yX7_placeCross cX7_placeCross 4 (some .int) 3 81 G P [.ref a0, .ref a1] σ (some (.int r)) σ' := by
  intro hcap hcau
  refine mx_ofW (by decide +kernel) hcap hcau (Nat.le_of_ble_eq_true rfl) ?_
  intro p e s m below meth c hx hb hr hml hts hown hlocks hname hK hJ ls hl
  have hz0 := hJ.2.1
  have hown : s.vm.findClass RX7 = some m.cls := hown
  have hl : lv_has ls 4 [(0, .ref a0), (1, .ref a1)] := hl
  unfold f_X7_placeCross at hf
  refine lv_aload_n hx hb dX7_placeCross_0 rfl (lv_at hl 0 rfl) ?_
  obtain ⟨b1, e2, hf⟩ := mb0 hf
  refine my_gR hx hb hts hown hK hJ fd_RX7_11 hv_7_0 e2 dX7_placeCross_1 ?_
  refine lv_aload_n hx hb dX7_placeCross_4 rfl (lv_at hl 1 rfl) ?_
  obtain ⟨b3, e4, hf⟩ := mb0 hf
  refine my_gR hx hb hts hown hK hJ fd_RX7_167 hv_5_2 e4 dX7_placeCross_5 ?_
  refine lv_iconst (v := 0) hx hb dX7_placeCross_8 (by decide) ?_
  obtain ⟨x5, e6, hf⟩ := mb0 hf
  refine mx_aI hx hb hK hJ e6 dX7_placeCross_9 ?_
  obtain ⟨b7, e8, hf⟩ := mb0 hf
  refine mx_aR hx hb hK hJ (t := 4) rfl (fun _ _ _ => rfl) e8 dX7_placeCross_10 ?_
  obtain ⟨b9, e10, hf⟩ := mb0 hf
  refine my_gR hx hb hts hown hK hJ fd_RX7_194 hv_5_12 e10 dX7_placeCross_11 ?_
  refine lv_astore_n (lv' := [(2, .ref b9), (0, .ref a0), (1, .ref a1)]) hx hb dX7_placeCross_14 rfl hl (by decide) rfl (fun ls hl => ?_)
  refine lv_aload_n hx hb dX7_placeCross_15 rfl (lv_at hl 1 rfl) ?_
  obtain ⟨b11, e12, hf⟩ := mb0 hf
  refine my_gR hx hb hts hown hK hJ fd_RX7_11 hv_7_0 e12 dX7_placeCross_16 ?_
  refine lv_aload_n hx hb dX7_placeCross_19 rfl (lv_at hl 2 rfl) ?_
  obtain ⟨b13, e14, hf⟩ := mb0 hf
  refine my_gR hx hb hts hown hK hJ fd_RX7_167 hv_5_2 e14 dX7_placeCross_20 ?_
  refine lv_iconst (v := 2) hx hb dX7_placeCross_23 (by decide) ?_
  obtain ⟨x15, e16, hf⟩ := mb0 hf
  refine mx_aI hx hb hK hJ e16 dX7_placeCross_24 ?_
  obtain ⟨b17, e18, hf⟩ := mb0 hf
  refine mx_aR hx hb hK hJ (t := 4) rfl (fun _ _ _ => rfl) e18 dX7_placeCross_25 ?_
  obtain ⟨b19, e20, hf⟩ := mb0 hf
  refine my_gR hx hb hts hown hK hJ fd_RX7_194 hv_5_12 e20 dX7_placeCross_26 ?_
  refine lv_astore_n (lv' := [(3, .ref b19), (2, .ref b9), (0, .ref a0), (1, .ref a1)]) hx hb dX7_placeCross_29 rfl hl (by decide) rfl (fun ls hl => ?_)
  refine lv_aload_n hx hb dX7_placeCross_30 rfl (lv_at hl 2 rfl) ?_
  obtain ⟨b21, e22, hf⟩ := mb0 hf
  refine my_gR hx hb hts hown hK hJ fd_RX7_48 hv_7_11 e22 dX7_placeCross_31 ?_
  refine lv_aload_n hx hb dX7_placeCross_34 rfl (lv_at hl 2 rfl) ?_
  obtain ⟨b23, e24, hf⟩ := mb0 hf
  refine my_gR hx hb hts hown hK hJ fd_RX7_11 hv_7_0 e24 dX7_placeCross_35 ?_
  refine lv_aload_n hx hb dX7_placeCross_38 rfl (lv_at hl 3 rfl) ?_
  obtain ⟨b25, e26, hf⟩ := mb0 hf
  refine my_gR hx hb hts hown hK hJ fd_RX7_167 hv_5_2 e26 dX7_placeCross_39 ?_
  refine lv_iconst (v := 1) hx hb dX7_placeCross_42 (by decide) ?_
  obtain ⟨x27, e28, hf⟩ := mb0 hf
  refine mx_aI hx hb hK hJ e28 dX7_placeCross_43 ?_
  obtain ⟨b29, e30, hf⟩ := mb0 hf
  refine mx_aR hx hb hK hJ (t := 4) rfl (fun _ _ _ => rfl) e30 dX7_placeCross_44 ?_
  obtain ⟨b31, e32, hf⟩ := mb0 hf
  refine my_gR hx hb hts hown hK hJ fd_RX7_194 hv_5_12 e32 dX7_placeCross_45 ?_
  refine lv_aload_n hx hb dX7_placeCross_48 rfl (lv_at hl 1 rfl) ?_
  obtain ⟨i33, e34, hf⟩ := mb0 hf
  obtain ⟨σ35, e36, hf⟩ := mb0 hf
  refine mx_callV (As := [.ref b31, .ref b9]) (rest := []) hx hb hml hts hown hK hJ rfl rfl (ci := 8) rfl e34 (c_X8_minus l G P b21 b31 b9 σ σ35 e36) me_X8_minus kw_730 kw_731 kw_729 (Nat.le_of_ble_eq_true rfl) (Nat.le_of_ble_eq_true rfl) rfl hl.1 rfl (Nat.le_of_ble_eq_true rfl) dX7_placeCross_49 (fun H locs hJ => ?_)
  refine lv_aload_n hx hb dX7_placeCross_52 rfl (lv_at hl 2 rfl) ?_
  obtain ⟨b37, e38, hf⟩ := mb0 hf
  refine my_gR hx hb hts hown hK hJ fd_RX7_52 hv_7_12 e38 dX7_placeCross_53 ?_
  refine lv_aload_n hx hb dX7_placeCross_56 rfl (lv_at hl 2 rfl) ?_
  obtain ⟨b39, e40, hf⟩ := mb0 hf
  refine my_gR hx hb hts hown hK hJ fd_RX7_11 hv_7_0 e40 dX7_placeCross_57 ?_
  refine lv_aload_n hx hb dX7_placeCross_60 rfl (lv_at hl 3 rfl) ?_
  obtain ⟨b41, e42, hf⟩ := mb0 hf
  refine my_gR hx hb hts hown hK hJ fd_RX7_167 hv_5_2 e42 dX7_placeCross_61 ?_
  refine lv_iconst (v := 3) hx hb dX7_placeCross_64 (by decide) ?_
  obtain ⟨x43, e44, hf⟩ := mb0 hf
  refine mx_aI hx hb hK hJ e44 dX7_placeCross_65 ?_
  obtain ⟨b45, e46, hf⟩ := mb0 hf
  refine mx_aR hx hb hK hJ (t := 4) rfl (fun _ _ _ => rfl) e46 dX7_placeCross_66 ?_
  obtain ⟨b47, e48, hf⟩ := mb0 hf
  refine my_gR hx hb hts hown hK hJ fd_RX7_194 hv_5_12 e48 dX7_placeCross_67 ?_
  refine lv_aload_n hx hb dX7_placeCross_70 rfl (lv_at hl 0 rfl) ?_
  obtain ⟨i49, e50, hf⟩ := mb0 hf
  obtain ⟨σ51, e52, hf⟩ := mb0 hf
  refine mx_callV (As := [.ref b47, .ref b19]) (rest := []) hx hb hml hts hown hK hJ rfl rfl (ci := 8) rfl e50 (c_X8_minus l G P b37 b47 b19 σ35 σ51 e52) me_X8_minus kw_730 kw_731 kw_729 (Nat.le_of_ble_eq_true rfl) (Nat.le_of_ble_eq_true rfl) rfl hl.1 rfl (Nat.le_of_ble_eq_true rfl) dX7_placeCross_71 (fun H locs hJ => ?_)
  refine lv_aload_n hx hb dX7_placeCross_74 rfl (lv_at hl 2 rfl) ?_
  obtain ⟨b53, e54, hf⟩ := mb0 hf
  refine my_gR hx hb hts hown hK hJ fd_RX7_55 hv_7_13 e54 dX7_placeCross_75 ?_
  refine lv_aload_n hx hb dX7_placeCross_78 rfl (lv_at hl 0 rfl) ?_
  refine lv_aload_n hx hb dX7_placeCross_79 rfl (lv_at hl 1 rfl) ?_
  obtain ⟨i55, e56, hf⟩ := mb0 hf
  obtain ⟨σ57, e58, hf⟩ := mb0 hf
  refine mx_callV (As := [.ref b19, .ref b9]) (rest := []) hx hb hml hts hown hK hJ rfl rfl (ci := 8) rfl e56 (c_X8_minus l G P b53 b19 b9 σ51 σ57 e58) me_X8_minus kw_730 kw_731 kw_729 (Nat.le_of_ble_eq_true rfl) (Nat.le_of_ble_eq_true rfl) rfl hl.1 rfl (Nat.le_of_ble_eq_true rfl) dX7_placeCross_80 (fun H locs hJ => ?_)
  refine lv_aload_n hx hb dX7_placeCross_83 rfl (lv_at hl 2 rfl) ?_
  obtain ⟨b59, e60, hf⟩ := mb0 hf
  refine my_gR hx hb hts hown hK hJ fd_RX7_65 hv_7_16 e60 dX7_placeCross_84 ?_
  refine lv_aload_n hx hb dX7_placeCross_87 rfl (lv_at hl 2 rfl) ?_
  obtain ⟨b61, e62, hf⟩ := mb0 hf
  refine my_gR hx hb hts hown hK hJ fd_RX7_55 hv_7_13 e62 dX7_placeCross_88 ?_
  refine lv_aload_n hx hb dX7_placeCross_91 rfl (lv_at hl 2 rfl) ?_
  obtain ⟨b63, e64, hf⟩ := mb0 hf
  refine my_gR hx hb hts hown hK hJ fd_RX7_52 hv_7_12 e64 dX7_placeCross_92 ?_
  obtain ⟨i65, e66, hf⟩ := mb0 hf
  obtain ⟨σ67, e68, hf⟩ := mb0 hf
  refine mx_callV (As := [.ref b61, .ref b63]) (rest := []) hx hb hml hts hown hK hJ rfl rfl (ci := 0) rfl e66 (c_X0_cross l G P b59 b61 b63 σ57 σ67 e68) me_X0_cross kw_802 kw_803 kw_801 (Nat.le_of_ble_eq_true rfl) (Nat.le_of_ble_eq_true rfl) rfl hl.1 rfl (Nat.le_of_ble_eq_true rfl) dX7_placeCross_95 (fun H locs hJ => ?_)
  refine lv_aload_n hx hb dX7_placeCross_98 rfl (lv_at hl 2 rfl) ?_
  obtain ⟨b69, e70, hf⟩ := mb0 hf
  refine my_gR hx hb hts hown hK hJ fd_RX7_62 hv_7_15 e70 dX7_placeCross_99 ?_
  refine lv_aload_n hx hb dX7_placeCross_102 rfl (lv_at hl 2 rfl) ?_
  obtain ⟨b71, e72, hf⟩ := mb0 hf
  refine my_gR hx hb hts hown hK hJ fd_RX7_48 hv_7_11 e72 dX7_placeCross_103 ?_
  refine lv_aload_n hx hb dX7_placeCross_106 rfl (lv_at hl 2 rfl) ?_
  obtain ⟨b73, e74, hf⟩ := mb0 hf
  refine my_gR hx hb hts hown hK hJ fd_RX7_52 hv_7_12 e74 dX7_placeCross_107 ?_
  obtain ⟨i75, e76, hf⟩ := mb0 hf
  obtain ⟨σ77, e78, hf⟩ := mb0 hf
  refine mx_callV (As := [.ref b71, .ref b73]) (rest := []) hx hb hml hts hown hK hJ rfl rfl (ci := 0) rfl e76 (c_X0_cross l G P b69 b71 b73 σ67 σ77 e78) me_X0_cross kw_802 kw_803 kw_801 (Nat.le_of_ble_eq_true rfl) (Nat.le_of_ble_eq_true rfl) rfl hl.1 rfl (Nat.le_of_ble_eq_true rfl) dX7_placeCross_110 (fun H locs hJ => ?_)
  refine lv_aload_n hx hb dX7_placeCross_113 rfl (lv_at hl 2 rfl) ?_
  obtain ⟨b79, e80, hf⟩ := mb0 hf
  refine my_gR hx hb hts hown hK hJ fd_RX7_68 hv_7_17 e80 dX7_placeCross_114 ?_
  refine lv_aload_n hx hb dX7_placeCross_117 rfl (lv_at hl 2 rfl) ?_
  obtain ⟨b81, e82, hf⟩ := mb0 hf
  refine my_gR hx hb hts hown hK hJ fd_RX7_65 hv_7_16 e82 dX7_placeCross_118 ?_
  refine lv_aload_n hx hb dX7_placeCross_121 rfl (lv_at hl 2 rfl) ?_
  obtain ⟨b83, e84, hf⟩ := mb0 hf
  refine my_gR hx hb hts hown hK hJ fd_RX7_62 hv_7_15 e84 dX7_placeCross_122 ?_
  obtain ⟨i85, e86, hf⟩ := mb0 hf
  obtain ⟨σ87, e88, hf⟩ := mb0 hf
  refine mx_callV (As := [.ref b81, .ref b83]) (rest := []) hx hb hml hts hown hK hJ rfl rfl (ci := 0) rfl e86 (c_X0_quotient l G P b79 b81 b83 σ77 σ87 e88) me_X0_quotient kw_759 kw_760 kw_758 (Nat.le_of_ble_eq_true rfl) (Nat.le_of_ble_eq_true rfl) rfl hl.1 rfl (Nat.le_of_ble_eq_true rfl) dX7_placeCross_125 (fun H locs hJ => ?_)
  refine lv_aload_n hx hb dX7_placeCross_128 rfl (lv_at hl 3 rfl) ?_
  obtain ⟨b89, e90, hf⟩ := mb0 hf
  refine my_gR hx hb hts hown hK hJ fd_RX7_194 hv_5_12 e90 dX7_placeCross_129 ?_
  refine lv_aload_n hx hb dX7_placeCross_132 rfl (lv_at hl 1 rfl) ?_
  obtain ⟨i91, e92, hf⟩ := mb0 hf
  obtain ⟨σ93, e94, hf⟩ := mb0 hf
  refine mx_callV (As := [.ref b9]) (rest := []) hx hb hml hts hown hK hJ rfl rfl (ci := 8) rfl e92 (c_X8_copy l G P b89 b9 σ87 σ93 e94) me_X8_copy kw_679 kw_680 kw_678 (Nat.le_of_ble_eq_true rfl) (Nat.le_of_ble_eq_true rfl) rfl hl.1 rfl (Nat.le_of_ble_eq_true rfl) dX7_placeCross_133 (fun H locs hJ => ?_)
  refine lv_aload_n hx hb dX7_placeCross_136 rfl (lv_at hl 3 rfl) ?_
  obtain ⟨b95, e96, hf⟩ := mb0 hf
  refine my_gR hx hb hts hown hK hJ fd_RX7_194 hv_5_12 e96 dX7_placeCross_137 ?_
  refine lv_aload_n hx hb dX7_placeCross_140 rfl (lv_at hl 2 rfl) ?_
  obtain ⟨b97, e98, hf⟩ := mb0 hf
  refine my_gR hx hb hts hown hK hJ fd_RX7_68 hv_7_17 e98 dX7_placeCross_141 ?_
  refine lv_aload_n hx hb dX7_placeCross_144 rfl (lv_at hl 2 rfl) ?_
  obtain ⟨b99, e100, hf⟩ := mb0 hf
  refine my_gR hx hb hts hown hK hJ fd_RX7_48 hv_7_11 e100 dX7_placeCross_145 ?_
  obtain ⟨i101, e102, hf⟩ := mb0 hf
  obtain ⟨σ103, e104, hf⟩ := mb0 hf
  refine mx_callV (As := [.ref b97, .ref b99]) (rest := []) hx hb hml hts hown hK hJ rfl rfl (ci := 8) rfl e102 (c_X8_add l G P b95 b97 b99 σ93 σ103 e104) me_X8_add kw_715 kw_716 kw_714 (Nat.le_of_ble_eq_true rfl) (Nat.le_of_ble_eq_true rfl) rfl hl.1 rfl (Nat.le_of_ble_eq_true rfl) dX7_placeCross_148 (fun H locs hJ => ?_)
  refine lv_aload_n hx hb dX7_placeCross_151 rfl (lv_at hl 3 rfl) ?_
  refine lv_iconst (v := 0) hx hb dX7_placeCross_152 (by decide) ?_
  obtain ⟨x106, σ105, e107, hf⟩ := mc0 hf
  refine mx_callS (As := [.ref a1, .int (0 : Int32)]) (rest := []) hx hb hml hts hown hK hJ rfl rfl (c_X7_openOr l G P a1 (0 : Int32) σ103 x106 σ105 e107) me_X7_openOr kw_719 kw_718 (Nat.le_of_ble_eq_true rfl) (Nat.le_of_ble_eq_true rfl) rfl hl.1 rfl (Nat.le_of_ble_eq_true rfl) dX7_placeCross_153 (fun H locs hJ => ?_)
  exact my_iret hx hb hr hlocks hJ hf dX7_placeCross_156
set_option maxHeartbeats 4000000 in
set_option maxRecDepth 100000 in
theorem c_X7_placeFix (l : Launch) (G : mx_G) (P : mx_P) (a0 : Nat) (σ : mx_S) (r : Int32) (σ' : mx_S) (hf : f_X7_placeFix P a0 σ = some (r, σ')) : mxz σ ≤ mpc P → mxu σ ≤ mps P → mx_M l yX7_placeFix cX7_placeFix 1 (some .int) 2 41 G P [.ref a0] σ (some (.int r)) σ' := by
  intro hcap hcau
  refine mx_ofW (by decide +kernel) hcap hcau (Nat.le_of_ble_eq_true rfl) ?_
  intro p e s m below meth c hx hb hr hml hts hown hlocks hname hK hJ ls hl
  have hz0 := hJ.2.1
  have hown : s.vm.findClass RX7 = some m.cls := hown
  have hl : lv_has ls 1 [(0, .ref a0)] := hl
  unfold f_X7_placeFix at hf
  refine lv_aload_n hx hb dX7_placeFix_0 rfl (lv_at hl 0 rfl) ?_
  obtain ⟨b1, e2, hf⟩ := mb0 hf
  refine my_gR hx hb hts hown hK hJ fd_RX7_194 hv_5_12 e2 dX7_placeFix_1 ?_
  obtain ⟨b3, e4, hf⟩ := mb0 hf
  refine my_gR hx hb hts hown hK hJ fd_RX7_30 hv_8_0 e4 dX7_placeFix_4 ?_
  refine lv_aload_n hx hb dX7_placeFix_7 rfl (lv_at hl 0 rfl) ?_
  obtain ⟨b5, e6, hf⟩ := mb0 hf
  refine my_gR hx hb hts hown hK hJ fd_RX7_234 hv_5_9 e6 dX7_placeFix_8 ?_
  obtain ⟨i7, e8, hf⟩ := mb0 hf
  obtain ⟨σ9, e10, hf⟩ := mb0 hf
  refine mx_callV (As := [.ref b5]) (rest := []) hx hb hml hts hown hK hJ rfl rfl (ci := 0) rfl e8 (c_X0_copy l G P b3 b5 σ σ9 e10) me_X0_copy kw_683 kw_684 kw_763 (Nat.le_of_ble_eq_true rfl) (Nat.le_of_ble_eq_true rfl) rfl hl.1 rfl (Nat.le_of_ble_eq_true rfl) dX7_placeFix_11 (fun H locs hJ => ?_)
  refine lv_aload_n hx hb dX7_placeFix_14 rfl (lv_at hl 0 rfl) ?_
  obtain ⟨b11, e12, hf⟩ := mb0 hf
  refine my_gR hx hb hts hown hK hJ fd_RX7_194 hv_5_12 e12 dX7_placeFix_15 ?_
  obtain ⟨b13, e14, hf⟩ := mb0 hf
  refine my_gR hx hb hts hown hK hJ fd_RX7_241 hv_8_1 e14 dX7_placeFix_18 ?_
  refine lv_aload_n hx hb dX7_placeFix_21 rfl (lv_at hl 0 rfl) ?_
  obtain ⟨b15, e16, hf⟩ := mb0 hf
  refine my_gR hx hb hts hown hK hJ fd_RX7_244 hv_5_10 e16 dX7_placeFix_22 ?_
  obtain ⟨i17, e18, hf⟩ := mb0 hf
  obtain ⟨σ19, e20, hf⟩ := mb0 hf
  refine mx_callV (As := [.ref b15]) (rest := []) hx hb hml hts hown hK hJ rfl rfl (ci := 0) rfl e18 (c_X0_copy l G P b13 b15 σ9 σ19 e20) me_X0_copy kw_683 kw_684 kw_763 (Nat.le_of_ble_eq_true rfl) (Nat.le_of_ble_eq_true rfl) rfl hl.1 rfl (Nat.le_of_ble_eq_true rfl) dX7_placeFix_25 (fun H locs hJ => ?_)
  refine lv_aload_n hx hb dX7_placeFix_28 rfl (lv_at hl 0 rfl) ?_
  refine lv_iconst (v := 0) hx hb dX7_placeFix_29 (by decide) ?_
  obtain ⟨x22, σ21, e23, hf⟩ := mc0 hf
  refine mx_callS (As := [.ref a0, .int (0 : Int32)]) (rest := []) hx hb hml hts hown hK hJ rfl rfl (c_X7_openOr l G P a0 (0 : Int32) σ19 x22 σ21 e23) me_X7_openOr kw_719 kw_718 (Nat.le_of_ble_eq_true rfl) (Nat.le_of_ble_eq_true rfl) rfl hl.1 rfl (Nat.le_of_ble_eq_true rfl) dX7_placeFix_30 (fun H locs hJ => ?_)
  exact my_iret hx hb hr hlocks hJ hf dX7_placeFix_33
set_option maxHeartbeats 4000000 in
set_option maxRecDepth 100000 in
theorem c_X7_look (l : Launch) (G : mx_G) (P : mx_P) (a0 : Nat) (p1 : Int32) (p2 : Int32) (σ : mx_S) (r : Int32) (σ' : mx_S) (hf : f_X7_look P a0 p1 p2 σ = some (r, σ')) : mxz σ ≤ mpc P → mxu σ ≤ mps P → mx_M l yX7_look cX7_look 7 (some .int) 4 106 G P [.ref a0, .int p1, .int p2] σ (some (.int r)) σ' := by
  intro hcap hcau
  refine mx_ofW (by decide +kernel) hcap hcau (Nat.le_of_ble_eq_true rfl) ?_
  intro p e s m below meth c hx hb hr hml hts hown hlocks hname hK hJ ls hl
  have hz0 := hJ.2.1
  have hown : s.vm.findClass RX7 = some m.cls := hown
  have hl : lv_has ls 7 [(0, .ref a0), (1, .int p1), (2, .int p2)] := hl
  have D305_40 : ∀ (v0 : Nat) (v2 : Int32) (v4 : Int32) (v5 : Int32) (τ : mx_S) (o : (Int32 × Int32 × mx_S) ⊕ ((mx_S) ⊕ (Int32 × mx_S) ⊕ (Int32 × mx_S))), f_X7_look_D305_40 P v0 v2 v4 v5 τ = some o → (∀ (y4 : Int32) (y5 : Int32) (υ : mx_S), o = .inl (y4, y5, υ) → ∀ (H : Heap) (locs : List Loc), mx_J G P s.heap (mxz σ) (mxu σ) υ H locs → ∀ ls : Array Slot, lv_has ls 7 [(0, .ref v0), (2, .int v2), (4, .int y4), (5, .int y5)] → W p l e (mx_rm P 4 106 σ) s m ([.ref a0, .int p1, .int p2] : List Value).toArray below meth c H locs (mxz υ - mxz σ) (mxu υ - mxu σ) (mx_Z below G P (some (.int r)) σ σ' [.ref a0, .int p1, .int p2] s) (F0 m 40 ls [])) → (∀  (υ : mx_S), o = .inr (.inl υ) → ∀ (H : Heap) (locs : List Loc), mx_J G P s.heap (mxz σ) (mxu σ) υ H locs → ∀ ls : Array Slot, lv_has ls 7 [] → W p l e (mx_rm P 4 106 σ) s m ([.ref a0, .int p1, .int p2] : List Value).toArray below meth c H locs (mxz υ - mxz σ) (mxu υ - mxu σ) (mx_Z below G P (some (.int r)) σ σ' [.ref a0, .int p1, .int p2] s) (F0 m 280 ls [])) → (∀ (y4 : Int32) (υ : mx_S), o = .inr (.inr (.inl (y4, υ))) → ∀ (H : Heap) (locs : List Loc), mx_J G P s.heap (mxz σ) (mxu σ) υ H locs → ∀ ls : Array Slot, lv_has ls 7 [(4, .int y4)] → W p l e (mx_rm P 4 106 σ) s m ([.ref a0, .int p1, .int p2] : List Value).toArray below meth c H locs (mxz υ - mxz σ) (mxu υ - mxu σ) (mx_Z below G P (some (.int r)) σ σ' [.ref a0, .int p1, .int p2] s) (F0 m 302 ls [])) → (∀ (y4 : Int32) (υ : mx_S), o = .inr (.inr (.inr (y4, υ))) → ∀ (H : Heap) (locs : List Loc), mx_J G P s.heap (mxz σ) (mxu σ) υ H locs → ∀ ls : Array Slot, lv_has ls 7 [(4, .int y4)] → W p l e (mx_rm P 4 106 σ) s m ([.ref a0, .int p1, .int p2] : List Value).toArray below meth c H locs (mxz υ - mxz σ) (mxu υ - mxu σ) (mx_Z below G P (some (.int r)) σ σ' [.ref a0, .int p1, .int p2] s) (F0 m 311 ls [])) → ∀ (H : Heap) (locs : List Loc), mx_J G P s.heap (mxz σ) (mxu σ) τ H locs → ∀ ls : Array Slot, lv_has ls 7 [(0, .ref v0), (2, .int v2), (4, .int v4), (5, .int v5)] → W p l e (mx_rm P 4 106 σ) s m ([.ref a0, .int p1, .int p2] : List Value).toArray below meth c H locs (mxz τ - mxz σ) (mxu τ - mxu σ) (mx_Z below G P (some (.int r)) σ σ' [.ref a0, .int p1, .int p2] s) (F0 m 305 ls []) := by
    intro v0 v2 v4 v5 τ o hf Kb Ke0 Ke1 Ke2 H locs hJ ls hl
    unfold f_X7_look_D305_40 at hf
    obtain ⟨x34, e35, hf⟩ := mb0 hf
    refine lv_iinc (v := x34) (lv' := [(5, .int x34), (0, .ref v0), (2, .int v2), (4, .int v4)]) hx hb dX7_look_305 hl (k := 3) rfl (by rw [← Option.some.inj e35]; rfl) (by decide) rfl (fun ls hl => ?_)
    refine lv_goto (tgt := 40) hx hb dX7_look_308 (by decide) ?_
    exact Kb v4 x34 τ (Option.some.inj hf).symm _ _ hJ ls (lv_sub hl [1, 2, 3, 0] rfl)
  have D293_40 : ∀ (v0 : Nat) (v2 : Int32) (v4 : Int32) (v5 : Int32) (τ : mx_S) (o : (Int32 × Int32 × mx_S) ⊕ ((mx_S) ⊕ (Int32 × mx_S) ⊕ (Int32 × mx_S))), f_X7_look_D293_40 P v0 v2 v4 v5 τ = some o → (∀ (y4 : Int32) (y5 : Int32) (υ : mx_S), o = .inl (y4, y5, υ) → ∀ (H : Heap) (locs : List Loc), mx_J G P s.heap (mxz σ) (mxu σ) υ H locs → ∀ ls : Array Slot, lv_has ls 7 [(0, .ref v0), (2, .int v2), (4, .int y4), (5, .int y5)] → W p l e (mx_rm P 4 106 σ) s m ([.ref a0, .int p1, .int p2] : List Value).toArray below meth c H locs (mxz υ - mxz σ) (mxu υ - mxu σ) (mx_Z below G P (some (.int r)) σ σ' [.ref a0, .int p1, .int p2] s) (F0 m 40 ls [])) → (∀  (υ : mx_S), o = .inr (.inl υ) → ∀ (H : Heap) (locs : List Loc), mx_J G P s.heap (mxz σ) (mxu σ) υ H locs → ∀ ls : Array Slot, lv_has ls 7 [] → W p l e (mx_rm P 4 106 σ) s m ([.ref a0, .int p1, .int p2] : List Value).toArray below meth c H locs (mxz υ - mxz σ) (mxu υ - mxu σ) (mx_Z below G P (some (.int r)) σ σ' [.ref a0, .int p1, .int p2] s) (F0 m 280 ls [])) → (∀ (y4 : Int32) (υ : mx_S), o = .inr (.inr (.inl (y4, υ))) → ∀ (H : Heap) (locs : List Loc), mx_J G P s.heap (mxz σ) (mxu σ) υ H locs → ∀ ls : Array Slot, lv_has ls 7 [(4, .int y4)] → W p l e (mx_rm P 4 106 σ) s m ([.ref a0, .int p1, .int p2] : List Value).toArray below meth c H locs (mxz υ - mxz σ) (mxu υ - mxu σ) (mx_Z below G P (some (.int r)) σ σ' [.ref a0, .int p1, .int p2] s) (F0 m 302 ls [])) → (∀ (y4 : Int32) (υ : mx_S), o = .inr (.inr (.inr (y4, υ))) → ∀ (H : Heap) (locs : List Loc), mx_J G P s.heap (mxz σ) (mxu σ) υ H locs → ∀ ls : Array Slot, lv_has ls 7 [(4, .int y4)] → W p l e (mx_rm P 4 106 σ) s m ([.ref a0, .int p1, .int p2] : List Value).toArray below meth c H locs (mxz υ - mxz σ) (mxu υ - mxu σ) (mx_Z below G P (some (.int r)) σ σ' [.ref a0, .int p1, .int p2] s) (F0 m 311 ls [])) → ∀ (H : Heap) (locs : List Loc), mx_J G P s.heap (mxz σ) (mxu σ) τ H locs → ∀ ls : Array Slot, lv_has ls 7 [(0, .ref v0), (2, .int v2), (4, .int v4), (5, .int v5)] → W p l e (mx_rm P 4 106 σ) s m ([.ref a0, .int p1, .int p2] : List Value).toArray below meth c H locs (mxz τ - mxz σ) (mxu τ - mxu σ) (mx_Z below G P (some (.int r)) σ σ' [.ref a0, .int p1, .int p2] s) (F0 m 293 ls []) := by
    intro v0 v2 v4 v5 τ o hf Kb Ke0 Ke1 Ke2 H locs hJ ls hl
    unfold f_X7_look_D293_40 at hf
    refine lv_iload_n hx hb dX7_look_293 rfl (lv_at hl 1 rfl) ?_
    refine lv_if_eq (tgt := 305) hx hb dX7_look_294 (by decide) (fun c33 => ?_) (fun c33 => ?_)
    · rw [if_pos c33] at hf
      exact D305_40 v0 v2 v4 v5 τ o hf Kb Ke0 Ke1 Ke2 _ _ hJ ls (lv_sub hl [0, 1, 2, 3] rfl)
    · rw [if_neg c33] at hf
      refine lv_iload hx hb dX7_look_297 (lv_at hl 2 rfl) ?_
      refine lv_if_eq (tgt := 305) hx hb dX7_look_299 (by decide) (fun c36 => ?_) (fun c36 => ?_)
      · rw [if_pos c36] at hf
        exact D305_40 v0 v2 v4 v5 τ o hf Kb Ke0 Ke1 Ke2 _ _ hJ ls (lv_sub hl [0, 1, 2, 3] rfl)
      · rw [if_neg c36] at hf
        exact Ke1 v4 τ (Option.some.inj hf).symm _ _ hJ ls (lv_sub hl [2] rfl)
  have D265_40 : ∀ (v0 : Nat) (v2 : Int32) (v4 : Int32) (v5 : Int32) (v6 : Nat) (τ : mx_S) (o : (Int32 × Int32 × mx_S) ⊕ ((mx_S) ⊕ (Int32 × mx_S) ⊕ (Int32 × mx_S))), f_X7_look_D265_40 P v0 v2 v4 v5 v6 τ = some o → (∀ (y4 : Int32) (y5 : Int32) (υ : mx_S), o = .inl (y4, y5, υ) → ∀ (H : Heap) (locs : List Loc), mx_J G P s.heap (mxz σ) (mxu σ) υ H locs → ∀ ls : Array Slot, lv_has ls 7 [(0, .ref v0), (2, .int v2), (4, .int y4), (5, .int y5)] → W p l e (mx_rm P 4 106 σ) s m ([.ref a0, .int p1, .int p2] : List Value).toArray below meth c H locs (mxz υ - mxz σ) (mxu υ - mxu σ) (mx_Z below G P (some (.int r)) σ σ' [.ref a0, .int p1, .int p2] s) (F0 m 40 ls [])) → (∀  (υ : mx_S), o = .inr (.inl υ) → ∀ (H : Heap) (locs : List Loc), mx_J G P s.heap (mxz σ) (mxu σ) υ H locs → ∀ ls : Array Slot, lv_has ls 7 [] → W p l e (mx_rm P 4 106 σ) s m ([.ref a0, .int p1, .int p2] : List Value).toArray below meth c H locs (mxz υ - mxz σ) (mxu υ - mxu σ) (mx_Z below G P (some (.int r)) σ σ' [.ref a0, .int p1, .int p2] s) (F0 m 280 ls [])) → (∀ (y4 : Int32) (υ : mx_S), o = .inr (.inr (.inl (y4, υ))) → ∀ (H : Heap) (locs : List Loc), mx_J G P s.heap (mxz σ) (mxu σ) υ H locs → ∀ ls : Array Slot, lv_has ls 7 [(4, .int y4)] → W p l e (mx_rm P 4 106 σ) s m ([.ref a0, .int p1, .int p2] : List Value).toArray below meth c H locs (mxz υ - mxz σ) (mxu υ - mxu σ) (mx_Z below G P (some (.int r)) σ σ' [.ref a0, .int p1, .int p2] s) (F0 m 302 ls [])) → (∀ (y4 : Int32) (υ : mx_S), o = .inr (.inr (.inr (y4, υ))) → ∀ (H : Heap) (locs : List Loc), mx_J G P s.heap (mxz σ) (mxu σ) υ H locs → ∀ ls : Array Slot, lv_has ls 7 [(4, .int y4)] → W p l e (mx_rm P 4 106 σ) s m ([.ref a0, .int p1, .int p2] : List Value).toArray below meth c H locs (mxz υ - mxz σ) (mxu υ - mxu σ) (mx_Z below G P (some (.int r)) σ σ' [.ref a0, .int p1, .int p2] s) (F0 m 311 ls [])) → ∀ (H : Heap) (locs : List Loc), mx_J G P s.heap (mxz σ) (mxu σ) τ H locs → ∀ ls : Array Slot, lv_has ls 7 [(0, .ref v0), (2, .int v2), (4, .int v4), (5, .int v5), (6, .ref v6)] → W p l e (mx_rm P 4 106 σ) s m ([.ref a0, .int p1, .int p2] : List Value).toArray below meth c H locs (mxz τ - mxz σ) (mxu τ - mxu σ) (mx_Z below G P (some (.int r)) σ σ' [.ref a0, .int p1, .int p2] s) (F0 m 265 ls []) := by
    intro v0 v2 v4 v5 v6 τ o hf Kb Ke0 Ke1 Ke2 H locs hJ ls hl
    unfold f_X7_look_D265_40 at hf
    refine lv_aload hx hb dX7_look_265 (lv_at hl 4 rfl) ?_
    refine lv_iconst (v := 1) hx hb dX7_look_267 (by decide) ?_
    obtain ⟨σ25, e26, hf⟩ := mb0 hf
    refine my_pZ hx hb hts hown hK hJ fd_RX7_187 cd_5 (Or.inl rfl) ht_5_16 e26 dX7_look_268 (fun H locs hJ => ?_)
    refine lv_aload hx hb dX7_look_271 (lv_at hl 4 rfl) ?_
    obtain ⟨x27, e28, hf⟩ := mb0 hf
    refine my_gI hx hb hts hown hK hJ fd_RX7_200 hv_5_15 e28 dX7_look_273 ?_
    refine lv_iconst (v := 3) hx hb dX7_look_276 (by decide) ?_
    refine lv_icmp_ne (tgt := 282) hx hb dX7_look_277 (by decide) (fun c29 => ?_) (fun c29 => ?_)
    · rw [if_neg c29] at hf
      refine lv_aload hx hb dX7_look_282 (lv_at hl 4 rfl) ?_
      obtain ⟨x30, e31, hf⟩ := mb0 hf
      refine my_gI hx hb hts hown hK hJ fd_RX7_200 hv_5_15 e31 dX7_look_284 ?_
      refine lv_if_eq (tgt := 293) hx hb dX7_look_287 (by decide) (fun c32 => ?_) (fun c32 => ?_)
      · rw [if_pos c32] at hf
        exact D293_40 v0 v2 v4 v5 σ25 o hf Kb Ke0 Ke1 Ke2 _ _ hJ ls (lv_sub hl [0, 1, 2, 3] rfl)
      · rw [if_neg c32] at hf
        refine lv_iconst (v := 1) hx hb dX7_look_290 (by decide) ?_
        refine lv_istore (lv' := [(4, .int (1 : Int32)), (0, .ref v0), (2, .int v2), (5, .int v5), (6, .ref v6)]) hx hb dX7_look_291 hl (by decide) rfl (fun ls hl => ?_)
        exact D293_40 v0 v2 (1 : Int32) v5 σ25 o hf Kb Ke0 Ke1 Ke2 _ _ hJ ls (lv_sub hl [1, 2, 0, 3] rfl)
    · rw [if_pos c29] at hf
      exact Ke0 σ25 (Option.some.inj hf).symm _ _ hJ ls (lv_sub hl [] rfl)
  have D97_40 : ∀ (v0 : Nat) (v2 : Int32) (v4 : Int32) (v5 : Int32) (v6 : Nat) (τ : mx_S) (o : (Int32 × Int32 × mx_S) ⊕ ((mx_S) ⊕ (Int32 × mx_S) ⊕ (Int32 × mx_S))), f_X7_look_D97_40 P v0 v2 v4 v5 v6 τ = some o → (∀ (y4 : Int32) (y5 : Int32) (υ : mx_S), o = .inl (y4, y5, υ) → ∀ (H : Heap) (locs : List Loc), mx_J G P s.heap (mxz σ) (mxu σ) υ H locs → ∀ ls : Array Slot, lv_has ls 7 [(0, .ref v0), (2, .int v2), (4, .int y4), (5, .int y5)] → W p l e (mx_rm P 4 106 σ) s m ([.ref a0, .int p1, .int p2] : List Value).toArray below meth c H locs (mxz υ - mxz σ) (mxu υ - mxu σ) (mx_Z below G P (some (.int r)) σ σ' [.ref a0, .int p1, .int p2] s) (F0 m 40 ls [])) → (∀  (υ : mx_S), o = .inr (.inl υ) → ∀ (H : Heap) (locs : List Loc), mx_J G P s.heap (mxz σ) (mxu σ) υ H locs → ∀ ls : Array Slot, lv_has ls 7 [] → W p l e (mx_rm P 4 106 σ) s m ([.ref a0, .int p1, .int p2] : List Value).toArray below meth c H locs (mxz υ - mxz σ) (mxu υ - mxu σ) (mx_Z below G P (some (.int r)) σ σ' [.ref a0, .int p1, .int p2] s) (F0 m 280 ls [])) → (∀ (y4 : Int32) (υ : mx_S), o = .inr (.inr (.inl (y4, υ))) → ∀ (H : Heap) (locs : List Loc), mx_J G P s.heap (mxz σ) (mxu σ) υ H locs → ∀ ls : Array Slot, lv_has ls 7 [(4, .int y4)] → W p l e (mx_rm P 4 106 σ) s m ([.ref a0, .int p1, .int p2] : List Value).toArray below meth c H locs (mxz υ - mxz σ) (mxu υ - mxu σ) (mx_Z below G P (some (.int r)) σ σ' [.ref a0, .int p1, .int p2] s) (F0 m 302 ls [])) → (∀ (y4 : Int32) (υ : mx_S), o = .inr (.inr (.inr (y4, υ))) → ∀ (H : Heap) (locs : List Loc), mx_J G P s.heap (mxz σ) (mxu σ) υ H locs → ∀ ls : Array Slot, lv_has ls 7 [(4, .int y4)] → W p l e (mx_rm P 4 106 σ) s m ([.ref a0, .int p1, .int p2] : List Value).toArray below meth c H locs (mxz υ - mxz σ) (mxu υ - mxu σ) (mx_Z below G P (some (.int r)) σ σ' [.ref a0, .int p1, .int p2] s) (F0 m 311 ls [])) → ∀ (H : Heap) (locs : List Loc), mx_J G P s.heap (mxz σ) (mxu σ) τ H locs → ∀ ls : Array Slot, lv_has ls 7 [(0, .ref v0), (2, .int v2), (4, .int v4), (5, .int v5), (6, .ref v6)] → W p l e (mx_rm P 4 106 σ) s m ([.ref a0, .int p1, .int p2] : List Value).toArray below meth c H locs (mxz τ - mxz σ) (mxu τ - mxu σ) (mx_Z below G P (some (.int r)) σ σ' [.ref a0, .int p1, .int p2] s) (F0 m 97 ls []) := by
    intro v0 v2 v4 v5 v6 τ o hf Kb Ke0 Ke1 Ke2 H locs hJ ls hl
    unfold f_X7_look_D97_40 at hf
    refine lv_aload hx hb dX7_look_97 (lv_at hl 4 rfl) ?_
    obtain ⟨x22, e23, hf⟩ := mb0 hf
    refine my_gI hx hb hts hown hK hJ fd_RX7_187 hv_5_16 e23 dX7_look_99 ?_
    refine lv_if_ne (tgt := 265) hx hb dX7_look_102 (by decide) (fun c24 => ?_) (fun c24 => ?_)
    · rw [if_neg c24] at hf
      exact D265_40 v0 v2 v4 v5 v6 τ o hf Kb Ke0 Ke1 Ke2 _ _ hJ ls (lv_sub hl [0, 1, 2, 3, 4] rfl)
    · rw [if_pos c24] at hf
      refine lv_aload hx hb dX7_look_105 (lv_at hl 4 rfl) ?_
      obtain ⟨x37, e38, hf⟩ := mb0 hf
      refine my_gI hx hb hts hown hK hJ fd_RX7_203 hv_5_1 e38 dX7_look_107 ?_
      by_cases c39 : x37 = (1 : Int32)
      · rw [if_pos c39] at hf
        refine lv_tableIn (tgt := 144) (off := 34) hx hb dX7_look_110 (by rw [c39] <;> decide) (by rw [c39] <;> decide) (by rw [c39] <;> decide) (by decide) ?_
        refine lv_aload hx hb dX7_look_144 (lv_at hl 4 rfl) ?_
        refine lv_aload_n hx hb dX7_look_146 rfl (lv_at hl 0 rfl) ?_
        refine lv_aload hx hb dX7_look_147 (lv_at hl 4 rfl) ?_
        obtain ⟨i40, e41, hf⟩ := mb0 hf
        obtain ⟨x43, σ42, e44, hf⟩ := mc0 hf
        refine mx_callV (As := [.ref v6]) (rest := [.ref v6]) hx hb hml hts hown hK hJ rfl rfl (ci := 7) rfl e41 (c_X7_placeCrank l G P v0 v6 τ x43 σ42 e44) me_X7_placeCrank kw_676 ks_3 kw_674 (Nat.le_of_ble_eq_true rfl) (Nat.le_of_ble_eq_true rfl) rfl hl.1 rfl (Nat.le_of_ble_eq_true rfl) dX7_look_149 (fun H locs hJ => ?_)
        obtain ⟨σ45, e46, hf⟩ := mb0 hf
        refine my_pI hx hb hts hown hK hJ fd_RX7_200 cd_5 (Or.inl rfl) ht_5_15 e46 dX7_look_152 (fun H locs hJ => ?_)
        refine lv_goto (tgt := 265) hx hb dX7_look_155 (by decide) ?_
        exact D265_40 v0 v2 v4 v5 v6 σ45 o hf Kb Ke0 Ke1 Ke2 _ _ hJ ls (lv_sub hl [0, 1, 2, 3, 4] rfl)
      rw [if_neg c39] at hf
      by_cases c47 : x37 = (2 : Int32)
      · rw [if_pos c47] at hf
        refine lv_tableIn (tgt := 158) (off := 48) hx hb dX7_look_110 (by rw [c47] <;> decide) (by rw [c47] <;> decide) (by rw [c47] <;> decide) (by decide) ?_
        refine lv_aload hx hb dX7_look_158 (lv_at hl 4 rfl) ?_
        refine lv_aload_n hx hb dX7_look_160 rfl (lv_at hl 0 rfl) ?_
        refine lv_aload hx hb dX7_look_161 (lv_at hl 4 rfl) ?_
        obtain ⟨i48, e49, hf⟩ := mb0 hf
        obtain ⟨x51, σ50, e52, hf⟩ := mc0 hf
        refine mx_callV (As := [.ref v6]) (rest := [.ref v6]) hx hb hml hts hown hK hJ rfl rfl (ci := 7) rfl e49 (c_X7_placeDyad l G P v0 v6 τ x51 σ50 e52) me_X7_placeDyad kw_727 ks_4 kw_725 (Nat.le_of_ble_eq_true rfl) (Nat.le_of_ble_eq_true rfl) rfl hl.1 rfl (Nat.le_of_ble_eq_true rfl) dX7_look_163 (fun H locs hJ => ?_)
        obtain ⟨σ53, e54, hf⟩ := mb0 hf
        refine my_pI hx hb hts hown hK hJ fd_RX7_200 cd_5 (Or.inl rfl) ht_5_15 e54 dX7_look_166 (fun H locs hJ => ?_)
        refine lv_goto (tgt := 265) hx hb dX7_look_169 (by decide) ?_
        exact D265_40 v0 v2 v4 v5 v6 σ53 o hf Kb Ke0 Ke1 Ke2 _ _ hJ ls (lv_sub hl [0, 1, 2, 3, 4] rfl)
      rw [if_neg c47] at hf
      by_cases c55 : x37 = (3 : Int32)
      · rw [if_pos c55] at hf
        refine lv_tableIn (tgt := 172) (off := 62) hx hb dX7_look_110 (by rw [c55] <;> decide) (by rw [c55] <;> decide) (by rw [c55] <;> decide) (by decide) ?_
        refine lv_aload hx hb dX7_look_172 (lv_at hl 4 rfl) ?_
        refine lv_aload_n hx hb dX7_look_174 rfl (lv_at hl 0 rfl) ?_
        refine lv_aload hx hb dX7_look_175 (lv_at hl 4 rfl) ?_
        obtain ⟨i56, e57, hf⟩ := mb0 hf
        obtain ⟨x59, σ58, e60, hf⟩ := mc0 hf
        refine mx_callV (As := [.ref v6]) (rest := [.ref v6]) hx hb hml hts hown hK hJ rfl rfl (ci := 7) rfl e57 (c_X7_placeSlide l G P v0 v6 τ x59 σ58 e60) me_X7_placeSlide kw_786 ks_6 kw_784 (Nat.le_of_ble_eq_true rfl) (Nat.le_of_ble_eq_true rfl) rfl hl.1 rfl (Nat.le_of_ble_eq_true rfl) dX7_look_177 (fun H locs hJ => ?_)
        obtain ⟨σ61, e62, hf⟩ := mb0 hf
        refine my_pI hx hb hts hown hK hJ fd_RX7_200 cd_5 (Or.inl rfl) ht_5_15 e62 dX7_look_180 (fun H locs hJ => ?_)
        refine lv_goto (tgt := 265) hx hb dX7_look_183 (by decide) ?_
        exact D265_40 v0 v2 v4 v5 v6 σ61 o hf Kb Ke0 Ke1 Ke2 _ _ hJ ls (lv_sub hl [0, 1, 2, 3, 4] rfl)
      rw [if_neg c55] at hf
      by_cases c63 : x37 = (4 : Int32)
      · rw [if_pos c63] at hf
        refine lv_tableIn (tgt := 186) (off := 76) hx hb dX7_look_110 (by rw [c63] <;> decide) (by rw [c63] <;> decide) (by rw [c63] <;> decide) (by decide) ?_
        refine lv_aload_n hx hb dX7_look_186 rfl (lv_at hl 0 rfl) ?_
        refine lv_aload hx hb dX7_look_187 (lv_at hl 4 rfl) ?_
        refine lv_aload hx hb dX7_look_189 (lv_at hl 4 rfl) ?_
        obtain ⟨b64, e65, hf⟩ := mb0 hf
        refine my_gR hx hb hts hown hK hJ fd_RX7_194 hv_5_12 e65 dX7_look_191 ?_
        refine lv_aload_n hx hb dX7_look_194 rfl (lv_at hl 0 rfl) ?_
        obtain ⟨b66, e67, hf⟩ := mb0 hf
        refine my_gR hx hb hts hown hK hJ fd_RX7_11 hv_7_0 e67 dX7_look_195 ?_
        refine lv_aload hx hb dX7_look_198 (lv_at hl 4 rfl) ?_
        obtain ⟨b68, e69, hf⟩ := mb0 hf
        refine my_gR hx hb hts hown hK hJ fd_RX7_167 hv_5_2 e69 dX7_look_200 ?_
        refine lv_iconst (v := 0) hx hb dX7_look_203 (by decide) ?_
        obtain ⟨x70, e71, hf⟩ := mb0 hf
        refine mx_aI hx hb hK hJ e71 dX7_look_204 ?_
        obtain ⟨b72, e73, hf⟩ := mb0 hf
        refine mx_aR hx hb hK hJ (t := 4) rfl (fun _ _ _ => rfl) e73 dX7_look_205 ?_
        obtain ⟨b74, e75, hf⟩ := mb0 hf
        refine my_gR hx hb hts hown hK hJ fd_RX7_194 hv_5_12 e75 dX7_look_206 ?_
        refine lv_aload_n hx hb dX7_look_209 rfl (lv_at hl 0 rfl) ?_
        obtain ⟨b76, e77, hf⟩ := mb0 hf
        refine my_gR hx hb hts hown hK hJ fd_RX7_11 hv_7_0 e77 dX7_look_210 ?_
        refine lv_aload hx hb dX7_look_213 (lv_at hl 4 rfl) ?_
        obtain ⟨b78, e79, hf⟩ := mb0 hf
        refine my_gR hx hb hts hown hK hJ fd_RX7_167 hv_5_2 e79 dX7_look_215 ?_
        refine lv_iconst (v := 1) hx hb dX7_look_218 (by decide) ?_
        obtain ⟨x80, e81, hf⟩ := mb0 hf
        refine mx_aI hx hb hK hJ e81 dX7_look_219 ?_
        obtain ⟨b82, e83, hf⟩ := mb0 hf
        refine mx_aR hx hb hK hJ (t := 4) rfl (fun _ _ _ => rfl) e83 dX7_look_220 ?_
        obtain ⟨b84, e85, hf⟩ := mb0 hf
        refine my_gR hx hb hts hown hK hJ fd_RX7_194 hv_5_12 e85 dX7_look_221 ?_
        obtain ⟨i86, e87, hf⟩ := mb0 hf
        obtain ⟨σ88, e89, hf⟩ := mb0 hf
        refine mx_callV (As := [.ref v6, .ref b64, .ref b74, .ref b84]) (rest := []) hx hb hml hts hown hK hJ rfl rfl (ci := 7) rfl e87 (c_X7_span l G P v0 v6 b64 b74 b84 τ σ88 e89) me_X7_span kw_795 ks_7 kw_793 (Nat.le_of_ble_eq_true rfl) (Nat.le_of_ble_eq_true rfl) rfl hl.1 rfl (Nat.le_of_ble_eq_true rfl) dX7_look_224 (fun H locs hJ => ?_)
        refine lv_aload hx hb dX7_look_227 (lv_at hl 4 rfl) ?_
        refine lv_aload hx hb dX7_look_229 (lv_at hl 4 rfl) ?_
        refine lv_iconst (v := 0) hx hb dX7_look_231 (by decide) ?_
        obtain ⟨x91, σ90, e92, hf⟩ := mc0 hf
        refine mx_callS (As := [.ref v6, .int (0 : Int32)]) (rest := [.ref v6]) hx hb hml hts hown hK hJ rfl rfl (c_X7_openOr l G P v6 (0 : Int32) σ88 x91 σ90 e92) me_X7_openOr kw_719 kw_718 (Nat.le_of_ble_eq_true rfl) (Nat.le_of_ble_eq_true rfl) rfl hl.1 rfl (Nat.le_of_ble_eq_true rfl) dX7_look_232 (fun H locs hJ => ?_)
        obtain ⟨σ93, e94, hf⟩ := mb0 hf
        refine my_pI hx hb hts hown hK hJ fd_RX7_200 cd_5 (Or.inl rfl) ht_5_15 e94 dX7_look_235 (fun H locs hJ => ?_)
        refine lv_goto (tgt := 265) hx hb dX7_look_238 (by decide) ?_
        exact D265_40 v0 v2 v4 v5 v6 σ93 o hf Kb Ke0 Ke1 Ke2 _ _ hJ ls (lv_sub hl [0, 1, 2, 3, 4] rfl)
      rw [if_neg c63] at hf
      by_cases c95 : x37 = (5 : Int32)
      · rw [if_pos c95] at hf
        refine lv_tableIn (tgt := 241) (off := 131) hx hb dX7_look_110 (by rw [c95] <;> decide) (by rw [c95] <;> decide) (by rw [c95] <;> decide) (by decide) ?_
        refine lv_aload hx hb dX7_look_241 (lv_at hl 4 rfl) ?_
        refine lv_aload_n hx hb dX7_look_243 rfl (lv_at hl 0 rfl) ?_
        refine lv_aload hx hb dX7_look_244 (lv_at hl 4 rfl) ?_
        obtain ⟨i96, e97, hf⟩ := mb0 hf
        obtain ⟨x99, σ98, e100, hf⟩ := mc0 hf
        refine mx_callV (As := [.ref v6]) (rest := [.ref v6]) hx hb hml hts hown hK hJ rfl rfl (ci := 7) rfl e97 (c_X7_placeCross l G P v0 v6 τ x99 σ98 e100) me_X7_placeCross kw_799 ks_8 kw_797 (Nat.le_of_ble_eq_true rfl) (Nat.le_of_ble_eq_true rfl) rfl hl.1 rfl (Nat.le_of_ble_eq_true rfl) dX7_look_246 (fun H locs hJ => ?_)
        obtain ⟨σ101, e102, hf⟩ := mb0 hf
        refine my_pI hx hb hts hown hK hJ fd_RX7_200 cd_5 (Or.inl rfl) ht_5_15 e102 dX7_look_249 (fun H locs hJ => ?_)
        refine lv_goto (tgt := 265) hx hb dX7_look_252 (by decide) ?_
        exact D265_40 v0 v2 v4 v5 v6 σ101 o hf Kb Ke0 Ke1 Ke2 _ _ hJ ls (lv_sub hl [0, 1, 2, 3, 4] rfl)
      rw [if_neg c95] at hf
      refine lv_tableOut (tgt := 255) hx hb dX7_look_110 (by have := lv_neT (a := (1)) c39 (by decide); have := lv_neT (a := (2)) c47 (by decide); have := lv_neT (a := (3)) c55 (by decide); have := lv_neT (a := (4)) c63 (by decide); have := lv_neT (a := (5)) c95 (by decide); omega) (by decide) ?_
      refine lv_aload hx hb dX7_look_255 (lv_at hl 4 rfl) ?_
      refine lv_aload hx hb dX7_look_257 (lv_at hl 4 rfl) ?_
      obtain ⟨x104, σ103, e105, hf⟩ := mc0 hf
      refine mx_callS (As := [.ref v6]) (rest := [.ref v6]) hx hb hml hts hown hK hJ rfl rfl (c_X7_placeFix l G P v6 τ x104 σ103 e105) me_X7_placeFix kw_806 kw_805 (Nat.le_of_ble_eq_true rfl) (Nat.le_of_ble_eq_true rfl) rfl hl.1 rfl (Nat.le_of_ble_eq_true rfl) dX7_look_259 (fun H locs hJ => ?_)
      obtain ⟨σ106, e107, hf⟩ := mb0 hf
      refine my_pI hx hb hts hown hK hJ fd_RX7_200 cd_5 (Or.inl rfl) ht_5_15 e107 dX7_look_262 (fun H locs hJ => ?_)
      exact D265_40 v0 v2 v4 v5 v6 σ106 o hf Kb Ke0 Ke1 Ke2 _ _ hJ ls (lv_sub hl [0, 1, 2, 3, 4] rfl)
  have B40 : ∀ (v0 : Nat) (v2 : Int32) (v4 : Int32) (v5 : Int32) (τ : mx_S) (o : (Int32 × Int32 × mx_S) ⊕ ((mx_S) ⊕ (Int32 × mx_S) ⊕ (Int32 × mx_S))), f_X7_look_B40 P v0 v2 v4 v5 τ = some o → (∀ (y4 : Int32) (y5 : Int32) (υ : mx_S), o = .inl (y4, y5, υ) → ∀ (H : Heap) (locs : List Loc), mx_J G P s.heap (mxz σ) (mxu σ) υ H locs → ∀ ls : Array Slot, lv_has ls 7 [(0, .ref v0), (2, .int v2), (4, .int y4), (5, .int y5)] → W p l e (mx_rm P 4 106 σ) s m ([.ref a0, .int p1, .int p2] : List Value).toArray below meth c H locs (mxz υ - mxz σ) (mxu υ - mxu σ) (mx_Z below G P (some (.int r)) σ σ' [.ref a0, .int p1, .int p2] s) (F0 m 40 ls [])) → (∀  (υ : mx_S), o = .inr (.inl υ) → ∀ (H : Heap) (locs : List Loc), mx_J G P s.heap (mxz σ) (mxu σ) υ H locs → ∀ ls : Array Slot, lv_has ls 7 [] → W p l e (mx_rm P 4 106 σ) s m ([.ref a0, .int p1, .int p2] : List Value).toArray below meth c H locs (mxz υ - mxz σ) (mxu υ - mxu σ) (mx_Z below G P (some (.int r)) σ σ' [.ref a0, .int p1, .int p2] s) (F0 m 280 ls [])) → (∀ (y4 : Int32) (υ : mx_S), o = .inr (.inr (.inl (y4, υ))) → ∀ (H : Heap) (locs : List Loc), mx_J G P s.heap (mxz σ) (mxu σ) υ H locs → ∀ ls : Array Slot, lv_has ls 7 [(4, .int y4)] → W p l e (mx_rm P 4 106 σ) s m ([.ref a0, .int p1, .int p2] : List Value).toArray below meth c H locs (mxz υ - mxz σ) (mxu υ - mxu σ) (mx_Z below G P (some (.int r)) σ σ' [.ref a0, .int p1, .int p2] s) (F0 m 302 ls [])) → (∀ (y4 : Int32) (υ : mx_S), o = .inr (.inr (.inr (y4, υ))) → ∀ (H : Heap) (locs : List Loc), mx_J G P s.heap (mxz σ) (mxu σ) υ H locs → ∀ ls : Array Slot, lv_has ls 7 [(4, .int y4)] → W p l e (mx_rm P 4 106 σ) s m ([.ref a0, .int p1, .int p2] : List Value).toArray below meth c H locs (mxz υ - mxz σ) (mxu υ - mxu σ) (mx_Z below G P (some (.int r)) σ σ' [.ref a0, .int p1, .int p2] s) (F0 m 311 ls [])) → ∀ (H : Heap) (locs : List Loc), mx_J G P s.heap (mxz σ) (mxu σ) τ H locs → ∀ ls : Array Slot, lv_has ls 7 [(0, .ref v0), (2, .int v2), (4, .int v4), (5, .int v5)] → W p l e (mx_rm P 4 106 σ) s m ([.ref a0, .int p1, .int p2] : List Value).toArray below meth c H locs (mxz τ - mxz σ) (mxu τ - mxu σ) (mx_Z below G P (some (.int r)) σ σ' [.ref a0, .int p1, .int p2] s) (F0 m 40 ls []) := by
    intro v0 v2 v4 v5 τ o hf Kb Ke0 Ke1 Ke2 H locs hJ ls hl
    unfold f_X7_look_B40 at hf
    refine lv_iload hx hb dX7_look_40 (lv_at hl 3 rfl) ?_
    refine lv_aload_n hx hb dX7_look_42 rfl (lv_at hl 0 rfl) ?_
    obtain ⟨x8, e9, hf⟩ := mb0 hf
    refine my_gI hx hb hts hown hK hJ fd_RX7_77 hv_7_2 e9 dX7_look_43 ?_
    refine lv_icmp_ge (tgt := 311) hx hb dX7_look_46 (by decide) (fun c10 => ?_) (fun c10 => ?_)
    · rw [if_pos c10] at hf
      exact Ke2 v4 τ (Option.some.inj hf).symm _ _ hJ ls (lv_sub hl [2] rfl)
    · rw [if_neg c10] at hf
      refine lv_aload_n hx hb dX7_look_49 rfl (lv_at hl 0 rfl) ?_
      obtain ⟨b11, e12, hf⟩ := mb0 hf
      refine my_gR hx hb hts hown hK hJ fd_RX7_11 hv_7_0 e12 dX7_look_50 ?_
      refine lv_aload_n hx hb dX7_look_53 rfl (lv_at hl 0 rfl) ?_
      obtain ⟨b13, e14, hf⟩ := mb0 hf
      refine my_gR hx hb hts hown hK hJ fd_RX7_16 hv_7_1 e14 dX7_look_54 ?_
      refine lv_iload hx hb dX7_look_57 (lv_at hl 3 rfl) ?_
      obtain ⟨x15, e16, hf⟩ := mb0 hf
      refine mx_aI hx hb hK hJ e16 dX7_look_59 ?_
      obtain ⟨b17, e18, hf⟩ := mb0 hf
      refine mx_aR hx hb hK hJ (t := 4) rfl (fun _ _ _ => rfl) e18 dX7_look_60 ?_
      refine lv_astore (lv' := [(6, .ref b17), (0, .ref v0), (2, .int v2), (4, .int v4), (5, .int v5)]) hx hb dX7_look_61 hl (by decide) rfl (fun ls hl => ?_)
      refine lv_aload hx hb dX7_look_63 (lv_at hl 0 rfl) ?_
      obtain ⟨x19, e20, hf⟩ := mb0 hf
      refine my_gI hx hb hts hown hK hJ fd_RX7_187 hv_5_16 e20 dX7_look_65 ?_
      refine lv_if_ne (tgt := 97) hx hb dX7_look_68 (by decide) (fun c21 => ?_) (fun c21 => ?_)
      · rw [if_neg c21] at hf
        exact D97_40 v0 v2 v4 v5 b17 τ o hf Kb Ke0 Ke1 Ke2 _ _ hJ ls (lv_sub hl [1, 2, 3, 4, 0] rfl)
      · rw [if_pos c21] at hf
        refine lv_aload_n hx hb dX7_look_71 rfl (lv_at hl 1 rfl) ?_
        refine lv_aload hx hb dX7_look_72 (lv_at hl 0 rfl) ?_
        obtain ⟨i108, e109, hf⟩ := mb0 hf
        obtain ⟨x111, σ110, e112, hf⟩ := mc0 hf
        refine mx_callV (As := [.ref b17]) (rest := []) hx hb hml hts hown hK hJ rfl rfl (ci := 7) rfl e109 (c_X7_hangsOnOpen l G P v0 b17 τ x111 σ110 e112) me_X7_hangsOnOpen kw_664 ks_2 kw_662 (Nat.le_of_ble_eq_true rfl) (Nat.le_of_ble_eq_true rfl) rfl hl.1 rfl (Nat.le_of_ble_eq_true rfl) dX7_look_74 (fun H locs hJ => ?_)
        refine lv_if_eq (tgt := 97) hx hb dX7_look_77 (by decide) (fun c113 => ?_) (fun c113 => ?_)
        · rw [if_pos c113] at hf
          exact D97_40 v0 v2 v4 v5 b17 σ110 o hf Kb Ke0 Ke1 Ke2 _ _ hJ ls (lv_sub hl [1, 2, 3, 4, 0] rfl)
        · rw [if_neg c113] at hf
          refine lv_aload hx hb dX7_look_80 (lv_at hl 0 rfl) ?_
          obtain ⟨b114, e115, hf⟩ := mb0 hf
          refine my_gR hx hb hts hown hK hJ fd_RX7_194 hv_5_12 e115 dX7_look_82 ?_
          obtain ⟨i116, e117, hf⟩ := mb0 hf
          obtain ⟨σ118, e119, hf⟩ := mb0 hf
          refine mx_callV (As := []) (rest := []) hx hb hml hts hown hK hJ rfl rfl (ci := 8) rfl e117 (c_X8_shut l G P b114 σ110 σ118 e119) me_X8_shut kw_667 kw_668 kw_666 (Nat.le_of_ble_eq_true rfl) (Nat.le_of_ble_eq_true rfl) rfl hl.1 rfl (Nat.le_of_ble_eq_true rfl) dX7_look_85 (fun H locs hJ => ?_)
          refine lv_aload hx hb dX7_look_88 (lv_at hl 0 rfl) ?_
          refine lv_iconst (v := 2) hx hb dX7_look_90 (by decide) ?_
          obtain ⟨σ120, e121, hf⟩ := mb0 hf
          refine my_pI hx hb hts hown hK hJ fd_RX7_200 cd_5 (Or.inl rfl) ht_5_15 e121 dX7_look_91 (fun H locs hJ => ?_)
          refine lv_goto (tgt := 265) hx hb dX7_look_94 (by decide) ?_
          exact D265_40 v0 v2 v4 v5 b17 σ120 o hf Kb Ke0 Ke1 Ke2 _ _ hJ ls (lv_sub hl [1, 2, 3, 4, 0] rfl)
  have L40 : ∀ (v0 : Nat) (v2 : Int32) (n : Nat) (v4 : Int32) (v5 : Int32) (τ : mx_S) (o : (mx_S) ⊕ (Int32 × mx_S) ⊕ (Int32 × mx_S)), mx_lp (f_X7_look_L40 P v0 v2) n (v4, v5, τ) = some o → (∀  (υ : mx_S), o = (.inl υ) → ∀ (H : Heap) (locs : List Loc), mx_J G P s.heap (mxz σ) (mxu σ) υ H locs → ∀ ls : Array Slot, lv_has ls 7 [] → W p l e (mx_rm P 4 106 σ) s m ([.ref a0, .int p1, .int p2] : List Value).toArray below meth c H locs (mxz υ - mxz σ) (mxu υ - mxu σ) (mx_Z below G P (some (.int r)) σ σ' [.ref a0, .int p1, .int p2] s) (F0 m 280 ls [])) → (∀ (y4 : Int32) (υ : mx_S), o = (.inr (.inl (y4, υ))) → ∀ (H : Heap) (locs : List Loc), mx_J G P s.heap (mxz σ) (mxu σ) υ H locs → ∀ ls : Array Slot, lv_has ls 7 [(4, .int y4)] → W p l e (mx_rm P 4 106 σ) s m ([.ref a0, .int p1, .int p2] : List Value).toArray below meth c H locs (mxz υ - mxz σ) (mxu υ - mxu σ) (mx_Z below G P (some (.int r)) σ σ' [.ref a0, .int p1, .int p2] s) (F0 m 302 ls [])) → (∀ (y4 : Int32) (υ : mx_S), o = (.inr (.inr (y4, υ))) → ∀ (H : Heap) (locs : List Loc), mx_J G P s.heap (mxz σ) (mxu σ) υ H locs → ∀ ls : Array Slot, lv_has ls 7 [(4, .int y4)] → W p l e (mx_rm P 4 106 σ) s m ([.ref a0, .int p1, .int p2] : List Value).toArray below meth c H locs (mxz υ - mxz σ) (mxu υ - mxu σ) (mx_Z below G P (some (.int r)) σ σ' [.ref a0, .int p1, .int p2] s) (F0 m 311 ls [])) → ∀ (H : Heap) (locs : List Loc), mx_J G P s.heap (mxz σ) (mxu σ) τ H locs → ∀ ls : Array Slot, lv_has ls 7 [(0, .ref v0), (2, .int v2), (4, .int v4), (5, .int v5)] → W p l e (mx_rm P 4 106 σ) s m ([.ref a0, .int p1, .int p2] : List Value).toArray below meth c H locs (mxz τ - mxz σ) (mxu τ - mxu σ) (mx_Z below G P (some (.int r)) σ σ' [.ref a0, .int p1, .int p2] s) (F0 m 40 ls []) := by
    intro v0 v2 n
    induction n with
    | zero =>
      intro v4 v5 τ o hf
      rw [mx_lp0] at hf
      cases hf
    | succ n ih =>
      intro v4 v5 τ o hf Ke0 Ke1 Ke2 H locs hJ ls hl
      rw [mx_lpS] at hf
      obtain ⟨b, eb, hf⟩ := mb0 hf
      refine B40 v0 v2 v4 v5 τ b eb (fun y4 y5 υ ho H locs hJ ls hl => ?_) (fun  υ ho H locs hJ ls hl => ?_) (fun y4 υ ho H locs hJ ls hl => ?_) (fun y4 υ ho H locs hJ ls hl => ?_) H locs hJ ls hl
      · subst ho
        exact ih y4 y5 υ o hf Ke0 Ke1 Ke2 H locs hJ ls hl
      · subst ho
        exact Ke0  υ (Option.some.inj hf).symm _ _ hJ ls hl
      · subst ho
        exact Ke1 y4 υ (Option.some.inj hf).symm _ _ hJ ls hl
      · subst ho
        exact Ke2 y4 υ (Option.some.inj hf).symm _ _ hJ ls hl
  have D34 : ∀ (v0 : Nat) (v2 : Int32) (τ : mx_S), f_X7_look_D34 P v0 v2 τ = some (r, σ') → ∀ (H : Heap) (locs : List Loc), mx_J G P s.heap (mxz σ) (mxu σ) τ H locs → ∀ ls : Array Slot, lv_has ls 7 [(0, .ref v0), (2, .int v2)] → W p l e (mx_rm P 4 106 σ) s m ([.ref a0, .int p1, .int p2] : List Value).toArray below meth c H locs (mxz τ - mxz σ) (mxu τ - mxu σ) (mx_Z below G P (some (.int r)) σ σ' [.ref a0, .int p1, .int p2] s) (F0 m 34 ls []) := by
    intro v0 v2 τ hf _ _ hJ ls hl
    unfold f_X7_look_D34 at hf
    refine lv_iconst (v := 0) hx hb dX7_look_34 (by decide) ?_
    refine lv_istore (lv' := [(4, .int (0 : Int32)), (0, .ref v0), (2, .int v2)]) hx hb dX7_look_35 hl (by decide) rfl (fun ls hl => ?_)
    refine lv_iconst (v := 0) hx hb dX7_look_37 (by decide) ?_
    refine lv_istore (lv' := [(5, .int (0 : Int32)), (4, .int (0 : Int32)), (0, .ref v0), (2, .int v2)]) hx hb dX7_look_38 hl (by decide) rfl (fun ls hl => ?_)
    obtain ⟨o122, e123, hf⟩ := mb0 hf
    refine L40 v0 v2 (mpN P) (0 : Int32) (0 : Int32) τ o122 e123 (fun σ124 ho H locs hJ ls hl => ?_) (fun y125 σ126 ho H locs hJ ls hl => ?_) (fun y127 σ128 ho H locs hJ ls hl => ?_) _ _ hJ ls (lv_sub hl [2, 3, 1, 0] rfl)
    · rw [ho] at hf
      have hf : (some ((3 : Int32), σ124)) = some (r, σ') := hf
      refine lv_iconst (v := 3) hx hb dX7_look_280 (by decide) ?_
      exact my_iret hx hb hr hlocks hJ hf dX7_look_281
    · rw [ho] at hf
      have hf : (some (y125, σ126)) = some (r, σ') := hf
      refine lv_iload hx hb dX7_look_302 (lv_at hl 0 rfl) ?_
      exact my_iret hx hb hr hlocks hJ hf dX7_look_304
    · rw [ho] at hf
      have hf : (some (y127, σ128)) = some (r, σ') := hf
      refine lv_iload hx hb dX7_look_311 (lv_at hl 0 rfl) ?_
      exact my_iret hx hb hr hlocks hJ hf dX7_look_313
  unfold f_X7_look at hf
  refine lv_iload_n hx hb dX7_look_0 rfl (lv_at hl 1 rfl) ?_
  refine lv_iconst (v := 1) hx hb dX7_look_1 (by decide) ?_
  refine lv_aload_n hx hb dX7_look_2 rfl (lv_at hl 0 rfl) ?_
  obtain ⟨x1, e2, hf⟩ := mb0 hf
  refine my_gI hx hb hts hown hK hJ fd_RX7_81 hv_7_3 e2 dX7_look_3 ?_
  refine lv_ishl hx hb dX7_look_6 ?_
  refine lv_iconst (v := 1) hx hb dX7_look_7 (by decide) ?_
  refine lv_isub hx hb dX7_look_8 ?_
  refine lv_iand hx hb dX7_look_9 ?_
  obtain ⟨x3, e4, hf⟩ := mb0 hf
  refine mx_nI e4 ?_
  refine lv_istore_n (lv' := [(3, .int x3), (0, .ref a0), (1, .int p1), (2, .int p2)]) hx hb dX7_look_10 rfl hl (by decide) rfl (fun ls hl => ?_)
  refine lv_iload_n hx hb dX7_look_11 rfl (lv_at hl 0 rfl) ?_
  refine lv_aload_n hx hb dX7_look_12 rfl (lv_at hl 1 rfl) ?_
  obtain ⟨x5, e6, hf⟩ := mb0 hf
  refine my_gI hx hb hts hown hK hJ fd_RX7_84 hv_7_6 e6 dX7_look_13 ?_
  refine lv_icmp_eq (tgt := 34) hx hb dX7_look_16 (by decide) (fun c7 => ?_) (fun c7 => ?_)
  · rw [if_pos c7] at hf
    exact D34 a0 p2 σ hf _ _ hJ ls (lv_sub hl [1, 3] rfl)
  · rw [if_neg c7] at hf
    refine lv_aload_n hx hb dX7_look_19 rfl (lv_at hl 1 rfl) ?_
    refine lv_iload_n hx hb dX7_look_20 rfl (lv_at hl 0 rfl) ?_
    refine lv_aload_n hx hb dX7_look_21 rfl (lv_at hl 1 rfl) ?_
    obtain ⟨x129, e130, hf⟩ := mb0 hf
    refine my_gI hx hb hts hown hK hJ fd_RX7_84 hv_7_6 e130 dX7_look_22 ?_
    refine lv_ixor hx hb dX7_look_25 ?_
    obtain ⟨i131, e132, hf⟩ := mb0 hf
    obtain ⟨σ133, e134, hf⟩ := mb0 hf
    refine mx_callV (As := [.int (x3 ^^^ x129)]) (rest := []) hx hb hml hts hown hK hJ rfl rfl (ci := 7) rfl e132 (c_X7_touch l G P a0 (x3 ^^^ x129) σ σ133 e134) me_X7_touch kw_660 ks_1 kw_658 (Nat.le_of_ble_eq_true rfl) (Nat.le_of_ble_eq_true rfl) rfl hl.1 rfl (Nat.le_of_ble_eq_true rfl) dX7_look_26 (fun H locs hJ => ?_)
    refine lv_aload_n hx hb dX7_look_29 rfl (lv_at hl 1 rfl) ?_
    refine lv_iload_n hx hb dX7_look_30 rfl (lv_at hl 0 rfl) ?_
    obtain ⟨σ135, e136, hf⟩ := mb0 hf
    refine my_pI hx hb hts hown hK hJ fd_RX7_84 cd_7 (Or.inl rfl) ht_7_6 e136 dX7_look_31 (fun H locs hJ => ?_)
    exact D34 a0 p2 σ135 hf _ _ hJ ls (lv_sub hl [1, 3] rfl)
set_option maxHeartbeats 4000000 in
set_option maxRecDepth 100000 in
theorem c_X2_isReached (l : Launch) (G : mx_G) (P : mx_P) (a0 : Nat) (a1 : Nat) (p2 : Int32) (σ : mx_S) (r : Int32) (σ' : mx_S) (hf : f_X2_isReached P a0 a1 p2 σ = some (r, σ')) : mxz σ ≤ mpc P → mxu σ ≤ mps P → mx_M l yX2_isReached cX2_isReached 3 (some .boolean) 0 0 G P [.ref a0, .ref a1, .int p2] σ (some (.int r)) σ' := by
  intro hcap hcau
  refine mx_ofW (by decide +kernel) hcap hcau (Nat.le_of_ble_eq_true rfl) ?_
  intro p e s m below meth c hx hb hr hml hts hown hlocks hname hK hJ ls hl
  have hz0 := hJ.2.1
  have hown : s.vm.findClass RX2 = some m.cls := hown
  have hl : lv_has ls 3 [(0, .ref a0), (1, .ref a1), (2, .int p2)] := hl
  have D41 : ∀ (w0 : Int32) (τ : mx_S), f_X2_isReached_D41 P w0 τ = some (r, σ') → ∀ (H : Heap) (locs : List Loc), mx_J G P s.heap (mxz σ) (mxu σ) τ H locs → ∀ ls : Array Slot, lv_has ls 3 [] → W p l e (mx_rm P 0 0 σ) s m ([.ref a0, .ref a1, .int p2] : List Value).toArray below meth c H locs (mxz τ - mxz σ) (mxu τ - mxu σ) (mx_Z below G P (some (.int r)) σ σ' [.ref a0, .ref a1, .int p2] s) (F0 m 41 ls [.int w0]) := by
    intro w0 τ hf _ _ hJ ls hl
    unfold f_X2_isReached_D41 at hf
    exact mx_zret hx hb hr hlocks hJ hf dX2_isReached_41
  have D26 : ∀ (v0 : Nat) (v2 : Int32) (w0 : Int64) (τ : mx_S), f_X2_isReached_D26 P v0 v2 w0 τ = some (r, σ') → ∀ (H : Heap) (locs : List Loc), mx_J G P s.heap (mxz σ) (mxu σ) τ H locs → ∀ ls : Array Slot, lv_has ls 3 [(0, .ref v0), (2, .int v2)] → W p l e (mx_rm P 0 0 σ) s m ([.ref a0, .ref a1, .int p2] : List Value).toArray below meth c H locs (mxz τ - mxz σ) (mxu τ - mxu σ) (mx_Z below G P (some (.int r)) σ σ' [.ref a0, .ref a1, .int p2] s) (F0 m 26 ls [.long w0]) := by
    intro v0 v2 w0 τ hf _ _ hJ ls hl
    unfold f_X2_isReached_D26 at hf
    refine lv_aload_n hx hb dX2_isReached_26 rfl (lv_at hl 0 rfl) ?_
    obtain ⟨b10, e11, hf⟩ := mb0 hf
    refine my_gR hx hb hts hown hK hJ fd_RX2_29 hv_2_10 e11 dX2_isReached_27 ?_
    refine lv_iload_n hx hb dX2_isReached_30 rfl (lv_at hl 1 rfl) ?_
    obtain ⟨x12, e13, hf⟩ := mb0 hf
    refine mx_aL hx hb hK hJ e13 dX2_isReached_31 ?_
    refine W.lcmp hx hb dX2_isReached_32 ?_
    refine lv_if_le (tgt := 40) hx hb dX2_isReached_33 (by decide) (fun c14 => ?_) (fun c14 => ?_)
    · rw [if_pos c14] at hf
      refine lv_iconst (v := 0) hx hb dX2_isReached_40 (by decide) ?_
      exact D41 (0 : Int32) τ hf _ _ hJ ls (lv_sub hl [] rfl)
    · rw [if_neg c14] at hf
      refine lv_iconst (v := 1) hx hb dX2_isReached_36 (by decide) ?_
      refine lv_goto (tgt := 41) hx hb dX2_isReached_37 (by decide) ?_
      exact D41 (1 : Int32) τ hf _ _ hJ ls (lv_sub hl [] rfl)
  unfold f_X2_isReached at hf
  refine lv_aload_n hx hb dX2_isReached_0 rfl (lv_at hl 0 rfl) ?_
  obtain ⟨b1, e2, hf⟩ := mb0 hf
  refine my_gR hx hb hts hown hK hJ fd_RX2_25 hv_2_9 e2 dX2_isReached_1 ?_
  refine lv_iload_n hx hb dX2_isReached_4 rfl (lv_at hl 2 rfl) ?_
  obtain ⟨x3, e4, hf⟩ := mb0 hf
  refine mx_aZ hx hb hK hJ e4 dX2_isReached_5 ?_
  refine lv_if_eq (tgt := 19) hx hb dX2_isReached_6 (by decide) (fun c5 => ?_) (fun c5 => ?_)
  · rw [if_pos c5] at hf
    refine lv_aload_n hx hb dX2_isReached_19 rfl (lv_at hl 1 rfl) ?_
    obtain ⟨b6, e7, hf⟩ := mb0 hf
    refine my_gR hx hb hts hown hK hJ fd_RX2_169 hv_8_0 e7 dX2_isReached_20 ?_
    obtain ⟨x8, e9, hf⟩ := mb0 hf
    refine my_gL hx hb hts hown hK hJ fd_RX2_165 hv_0_0 e9 dX2_isReached_23 ?_
    exact D26 a0 p2 x8 σ hf _ _ hJ ls (lv_sub hl [0, 2] rfl)
  · rw [if_neg c5] at hf
    refine lv_aload_n hx hb dX2_isReached_9 rfl (lv_at hl 1 rfl) ?_
    obtain ⟨b15, e16, hf⟩ := mb0 hf
    refine my_gR hx hb hts hown hK hJ fd_RX2_159 hv_8_1 e16 dX2_isReached_10 ?_
    obtain ⟨x17, e18, hf⟩ := mb0 hf
    refine my_gL hx hb hts hown hK hJ fd_RX2_165 hv_0_0 e18 dX2_isReached_13 ?_
    refine lv_goto (tgt := 26) hx hb dX2_isReached_16 (by decide) ?_
    exact D26 a0 p2 x17 σ hf _ _ hJ ls (lv_sub hl [0, 2] rfl)
set_option maxHeartbeats 4000000 in
set_option maxRecDepth 100000 in
theorem c_X8_direct (l : Launch) (G : mx_G) (P : mx_P) (a0 : Nat) (p1 : Int32) (σ : mx_S) (σ' : mx_S) (hf : f_X8_direct P a0 p1 σ = some σ') : mxz σ ≤ mpc P → mxu σ ≤ mps P → mx_M l yX8_direct cX8_direct 9 none 2 49 G P [.ref a0, .int p1] σ none σ' := by
  intro hcap hcau
  refine mx_ofW (by decide +kernel) hcap hcau (Nat.le_of_ble_eq_true rfl) ?_
  intro p e s m below meth c hx hb hr hml hts hown hlocks hname hK hJ ls hl
  have hz0 := hJ.2.1
  have hown : s.vm.findClass RX8 = some m.cls := hown
  have hl : lv_has ls 9 [(0, .ref a0), (1, .int p1)] := hl
  have D128 : ∀  (τ : mx_S), f_X8_direct_D128 P  τ = some σ' → ∀ (H : Heap) (locs : List Loc), mx_J G P s.heap (mxz σ) (mxu σ) τ H locs → ∀ ls : Array Slot, lv_has ls 9 [] → W p l e (mx_rm P 2 49 σ) s m ([.ref a0, .int p1] : List Value).toArray below meth c H locs (mxz τ - mxz σ) (mxu τ - mxu σ) (mx_Z below G P none σ σ' [.ref a0, .int p1] s) (F0 m 128 ls []) := by
    intro  τ hf _ _ hJ ls hl
    unfold f_X8_direct_D128 at hf
    exact my_vret hx hb hr hlocks hJ hf dX8_direct_128
  have D117 : ∀ (v0 : Nat) (τ : mx_S), f_X8_direct_D117 P v0 τ = some σ' → ∀ (H : Heap) (locs : List Loc), mx_J G P s.heap (mxz σ) (mxu σ) τ H locs → ∀ ls : Array Slot, lv_has ls 9 [(0, .ref v0)] → W p l e (mx_rm P 2 49 σ) s m ([.ref a0, .int p1] : List Value).toArray below meth c H locs (mxz τ - mxz σ) (mxu τ - mxu σ) (mx_Z below G P none σ σ' [.ref a0, .int p1] s) (F0 m 117 ls []) := by
    intro v0 τ hf _ _ hJ ls hl
    unfold f_X8_direct_D117 at hf
    refine lv_aload_n hx hb dX8_direct_117 rfl (lv_at hl 0 rfl) ?_
    obtain ⟨b37, e38, hf⟩ := mb0 hf
    refine my_gR hx hb hts hown hK hJ fd_RX8_16 hv_8_1 e38 dX8_direct_118 ?_
    refine lv_aload_n hx hb dX8_direct_121 rfl (lv_at hl 0 rfl) ?_
    obtain ⟨b39, e40, hf⟩ := mb0 hf
    refine my_gR hx hb hts hown hK hJ fd_RX8_16 hv_8_1 e40 dX8_direct_122 ?_
    obtain ⟨i41, e42, hf⟩ := mb0 hf
    obtain ⟨σ43, e44, hf⟩ := mb0 hf
    refine mx_callV (As := [.ref b39]) (rest := []) hx hb hml hts hown hK hJ rfl rfl (ci := 0) rfl e42 (c_X0_negative l G P b37 b39 τ σ43 e44) me_X0_negative kw_687 kw_688 kw_1049 (Nat.le_of_ble_eq_true rfl) (Nat.le_of_ble_eq_true rfl) rfl hl.1 rfl (Nat.le_of_ble_eq_true rfl) dX8_direct_125 (fun H locs hJ => ?_)
    exact D128  σ43 hf _ _ hJ ls (lv_sub hl [] rfl)
  have D107 : ∀ (v0 : Nat) (v2 : Int32) (τ : mx_S), f_X8_direct_D107 P v0 v2 τ = some σ' → ∀ (H : Heap) (locs : List Loc), mx_J G P s.heap (mxz σ) (mxu σ) τ H locs → ∀ ls : Array Slot, lv_has ls 9 [(0, .ref v0), (2, .int v2)] → W p l e (mx_rm P 2 49 σ) s m ([.ref a0, .int p1] : List Value).toArray below meth c H locs (mxz τ - mxz σ) (mxu τ - mxu σ) (mx_Z below G P none σ σ' [.ref a0, .int p1] s) (F0 m 107 ls []) := by
    intro v0 v2 τ hf _ _ hJ ls hl
    unfold f_X8_direct_D107 at hf
    refine lv_iload_n hx hb dX8_direct_107 rfl (lv_at hl 1 rfl) ?_
    refine lv_iconst (v := 2) hx hb dX8_direct_108 (by decide) ?_
    refine lv_icmp_eq (tgt := 117) hx hb dX8_direct_109 (by decide) (fun c36 => ?_) (fun c36 => ?_)
    · rw [if_pos c36] at hf
      exact D117 v0 τ hf _ _ hJ ls (lv_sub hl [0] rfl)
    · rw [if_neg c36] at hf
      refine lv_iload_n hx hb dX8_direct_112 rfl (lv_at hl 1 rfl) ?_
      refine lv_iconst (v := 3) hx hb dX8_direct_113 (by decide) ?_
      refine lv_icmp_ne (tgt := 128) hx hb dX8_direct_114 (by decide) (fun c45 => ?_) (fun c45 => ?_)
      · rw [if_neg c45] at hf
        exact D128  τ hf _ _ hJ ls (lv_sub hl [] rfl)
      · rw [if_pos c45] at hf
        exact D117 v0 τ hf _ _ hJ ls (lv_sub hl [0] rfl)
  have D96 : ∀ (v0 : Nat) (v2 : Int32) (τ : mx_S), f_X8_direct_D96 P v0 v2 τ = some σ' → ∀ (H : Heap) (locs : List Loc), mx_J G P s.heap (mxz σ) (mxu σ) τ H locs → ∀ ls : Array Slot, lv_has ls 9 [(0, .ref v0), (2, .int v2)] → W p l e (mx_rm P 2 49 σ) s m ([.ref a0, .int p1] : List Value).toArray below meth c H locs (mxz τ - mxz σ) (mxu τ - mxu σ) (mx_Z below G P none σ σ' [.ref a0, .int p1] s) (F0 m 96 ls []) := by
    intro v0 v2 τ hf _ _ hJ ls hl
    unfold f_X8_direct_D96 at hf
    refine lv_aload_n hx hb dX8_direct_96 rfl (lv_at hl 0 rfl) ?_
    obtain ⟨b28, e29, hf⟩ := mb0 hf
    refine my_gR hx hb hts hown hK hJ fd_RX8_10 hv_8_0 e29 dX8_direct_97 ?_
    refine lv_aload_n hx hb dX8_direct_100 rfl (lv_at hl 0 rfl) ?_
    obtain ⟨b30, e31, hf⟩ := mb0 hf
    refine my_gR hx hb hts hown hK hJ fd_RX8_10 hv_8_0 e31 dX8_direct_101 ?_
    obtain ⟨i32, e33, hf⟩ := mb0 hf
    obtain ⟨σ34, e35, hf⟩ := mb0 hf
    refine mx_callV (As := [.ref b30]) (rest := []) hx hb hml hts hown hK hJ rfl rfl (ci := 0) rfl e33 (c_X0_negative l G P b28 b30 τ σ34 e35) me_X0_negative kw_687 kw_688 kw_1049 (Nat.le_of_ble_eq_true rfl) (Nat.le_of_ble_eq_true rfl) rfl hl.1 rfl (Nat.le_of_ble_eq_true rfl) dX8_direct_104 (fun H locs hJ => ?_)
    exact D107 v0 v2 σ34 hf _ _ hJ ls (lv_sub hl [0, 1] rfl)
  have D58 : ∀ (v0 : Nat) (v2 : Int32) (v3 : Int64) (v5 : Int64) (v7 : Nat) (w0 : Nat) (τ : mx_S), f_X8_direct_D58 P v0 v2 v3 v5 v7 w0 τ = some σ' → ∀ (H : Heap) (locs : List Loc), mx_J G P s.heap (mxz σ) (mxu σ) τ H locs → ∀ ls : Array Slot, lv_has ls 9 [(0, .ref v0), (2, .int v2), (3, .long v3), (5, .long v5), (7, .ref v7)] → W p l e (mx_rm P 2 49 σ) s m ([.ref a0, .int p1] : List Value).toArray below meth c H locs (mxz τ - mxz σ) (mxu τ - mxu σ) (mx_Z below G P none σ σ' [.ref a0, .int p1] s) (F0 m 58 ls [.ref w0]) := by
    intro v0 v2 v3 v5 v7 w0 τ hf _ _ hJ ls hl
    unfold f_X8_direct_D58 at hf
    refine lv_astore (lv' := [(8, .ref w0), (0, .ref v0), (2, .int v2), (3, .long v3), (5, .long v5), (7, .ref v7)]) hx hb dX8_direct_58 hl (by decide) rfl (fun ls hl => ?_)
    refine lv_aload hx hb dX8_direct_60 (lv_at hl 5 rfl) ?_
    refine lv_ldc2 hx hb hown (hts _ kw_1042) dX8_direct_62 ?_
    refine lv_lload_n hx hb dX8_direct_65 rfl (lv_at hl 3 rfl) ?_
    refine lv_lload_n hx hb dX8_direct_66 rfl (lv_at hl 3 rfl) ?_
    refine lv_lmul hx hb dX8_direct_67 ?_
    refine lv_lsub hx hb dX8_direct_68 ?_
    refine lv_lload hx hb dX8_direct_69 (lv_at hl 4 rfl) ?_
    obtain ⟨i19, e20, hf⟩ := mb0 hf
    obtain ⟨σ21, e22, hf⟩ := mb0 hf
    refine mx_callV (As := [.long ((65536 : Int64) - (v3 * v3)), .long v5]) (rest := []) hx hb hml hts hown hK hJ rfl rfl (ci := 0) rfl e20 (c_X0_fraction l G P v7 ((65536 : Int64) - (v3 * v3)) v5 τ σ21 e22) me_X0_fraction kw_1044 kw_1045 kw_1043 (Nat.le_of_ble_eq_true rfl) (Nat.le_of_ble_eq_true rfl) rfl hl.1 rfl (Nat.le_of_ble_eq_true rfl) dX8_direct_71 (fun H locs hJ => ?_)
    refine lv_aload hx hb dX8_direct_74 (lv_at hl 0 rfl) ?_
    refine lv_ldc2 hx hb hown (hts _ kw_1048) dX8_direct_76 ?_
    refine lv_lload_n hx hb dX8_direct_79 rfl (lv_at hl 3 rfl) ?_
    refine lv_lmul hx hb dX8_direct_80 ?_
    refine lv_lload hx hb dX8_direct_81 (lv_at hl 4 rfl) ?_
    obtain ⟨i23, e24, hf⟩ := mb0 hf
    obtain ⟨σ25, e26, hf⟩ := mb0 hf
    refine mx_callV (As := [.long ((512 : Int64) * v3), .long v5]) (rest := []) hx hb hml hts hown hK hJ rfl rfl (ci := 0) rfl e24 (c_X0_fraction l G P w0 ((512 : Int64) * v3) v5 σ21 σ25 e26) me_X0_fraction kw_1044 kw_1045 kw_1043 (Nat.le_of_ble_eq_true rfl) (Nat.le_of_ble_eq_true rfl) rfl hl.1 rfl (Nat.le_of_ble_eq_true rfl) dX8_direct_83 (fun H locs hJ => ?_)
    refine lv_iload_n hx hb dX8_direct_86 rfl (lv_at hl 2 rfl) ?_
    refine lv_iconst (v := 1) hx hb dX8_direct_87 (by decide) ?_
    refine lv_icmp_eq (tgt := 96) hx hb dX8_direct_88 (by decide) (fun c27 => ?_) (fun c27 => ?_)
    · rw [if_pos c27] at hf
      exact D96 v0 v2 σ25 hf _ _ hJ ls (lv_sub hl [1, 2] rfl)
    · rw [if_neg c27] at hf
      refine lv_iload_n hx hb dX8_direct_91 rfl (lv_at hl 2 rfl) ?_
      refine lv_iconst (v := 2) hx hb dX8_direct_92 (by decide) ?_
      refine lv_icmp_ne (tgt := 107) hx hb dX8_direct_93 (by decide) (fun c46 => ?_) (fun c46 => ?_)
      · rw [if_neg c46] at hf
        exact D107 v0 v2 σ25 hf _ _ hJ ls (lv_sub hl [1, 2] rfl)
      · rw [if_pos c46] at hf
        exact D96 v0 v2 σ25 hf _ _ hJ ls (lv_sub hl [1, 2] rfl)
  have D39 : ∀ (v0 : Nat) (v2 : Int32) (v3 : Int64) (v5 : Int64) (w0 : Nat) (τ : mx_S), f_X8_direct_D39 P v0 v2 v3 v5 w0 τ = some σ' → ∀ (H : Heap) (locs : List Loc), mx_J G P s.heap (mxz σ) (mxu σ) τ H locs → ∀ ls : Array Slot, lv_has ls 9 [(0, .ref v0), (2, .int v2), (3, .long v3), (5, .long v5)] → W p l e (mx_rm P 2 49 σ) s m ([.ref a0, .int p1] : List Value).toArray below meth c H locs (mxz τ - mxz σ) (mxu τ - mxu σ) (mx_Z below G P none σ σ' [.ref a0, .int p1] s) (F0 m 39 ls [.ref w0]) := by
    intro v0 v2 v3 v5 w0 τ hf _ _ hJ ls hl
    unfold f_X8_direct_D39 at hf
    refine lv_astore (lv' := [(7, .ref w0), (0, .ref v0), (2, .int v2), (3, .long v3), (5, .long v5)]) hx hb dX8_direct_39 hl (by decide) rfl (fun ls hl => ?_)
    refine lv_iload_n hx hb dX8_direct_41 rfl (lv_at hl 2 rfl) ?_
    refine lv_iconst (v := 2) hx hb dX8_direct_42 (by decide) ?_
    obtain ⟨x14, e15, hf⟩ := mb0 hf
    refine lv_irem hx hb dX8_direct_43 (mm_Is e15).1 ?_
    refine mx_eI (mm_Is e15).2 ?_
    refine lv_if_ne (tgt := 54) hx hb dX8_direct_44 (by decide) (fun c16 => ?_) (fun c16 => ?_)
    · rw [if_neg c16] at hf
      refine lv_aload_n hx hb dX8_direct_54 rfl (lv_at hl 1 rfl) ?_
      obtain ⟨b17, e18, hf⟩ := mb0 hf
      refine my_gR hx hb hts hown hK hJ fd_RX8_10 hv_8_0 e18 dX8_direct_55 ?_
      exact D58 v0 v2 v3 v5 w0 b17 τ hf _ _ hJ ls (lv_sub hl [1, 2, 3, 4, 0] rfl)
    · rw [if_pos c16] at hf
      refine lv_aload_n hx hb dX8_direct_47 rfl (lv_at hl 1 rfl) ?_
      obtain ⟨b47, e48, hf⟩ := mb0 hf
      refine my_gR hx hb hts hown hK hJ fd_RX8_16 hv_8_1 e48 dX8_direct_48 ?_
      refine lv_goto (tgt := 58) hx hb dX8_direct_51 (by decide) ?_
      exact D58 v0 v2 v3 v5 w0 b47 τ hf _ _ hJ ls (lv_sub hl [1, 2, 3, 4, 0] rfl)
  unfold f_X8_direct at hf
  refine lv_iload_n hx hb dX8_direct_0 rfl (lv_at hl 1 rfl) ?_
  refine lv_sipush (v := 256) hx hb dX8_direct_1 (by decide) ?_
  obtain ⟨x1, e2, hf⟩ := mb0 hf
  refine lv_idiv hx hb dX8_direct_4 (md_Is e2).1 ?_
  refine mx_eI (md_Is e2).2 ?_
  refine lv_istore_n (lv' := [(2, .int x1), (0, .ref a0), (1, .int p1)]) hx hb dX8_direct_5 rfl hl (by decide) rfl (fun ls hl => ?_)
  refine lv_iload_n hx hb dX8_direct_6 rfl (lv_at hl 2 rfl) ?_
  refine lv_sipush (v := 256) hx hb dX8_direct_7 (by decide) ?_
  obtain ⟨x3, e4, hf⟩ := mb0 hf
  refine lv_irem hx hb dX8_direct_10 (mm_Is e4).1 ?_
  refine mx_eI (mm_Is e4).2 ?_
  refine lv_i2l hx hb dX8_direct_11 rfl ?_
  obtain ⟨x5, e6, hf⟩ := mb0 hf
  refine mx_nL e6 ?_
  refine lv_lstore_n (lv' := [(3, .long x5), (2, .int x1), (0, .ref a0), (1, .int p1)]) hx hb dX8_direct_12 rfl hl (by decide) rfl (fun ls hl => ?_)
  refine lv_ldc2 hx hb hown (hts _ kw_1042) dX8_direct_13 ?_
  refine lv_lload_n hx hb dX8_direct_16 rfl (lv_at hl 0 rfl) ?_
  refine lv_lload_n hx hb dX8_direct_17 rfl (lv_at hl 0 rfl) ?_
  refine lv_lmul hx hb dX8_direct_18 ?_
  refine lv_ladd hx hb dX8_direct_19 ?_
  obtain ⟨x7, e8, hf⟩ := mb0 hf
  refine mx_nL e8 ?_
  refine lv_lstore (lv' := [(5, .long x7), (3, .long x5), (2, .int x1), (0, .ref a0), (1, .int p1)]) hx hb dX8_direct_20 hl (by decide) rfl (fun ls hl => ?_)
  refine lv_iload_n hx hb dX8_direct_22 rfl (lv_at hl 2 rfl) ?_
  refine lv_iconst (v := 2) hx hb dX8_direct_23 (by decide) ?_
  obtain ⟨x9, e10, hf⟩ := mb0 hf
  refine lv_irem hx hb dX8_direct_24 (mm_Is e10).1 ?_
  refine mx_eI (mm_Is e10).2 ?_
  refine lv_if_ne (tgt := 35) hx hb dX8_direct_25 (by decide) (fun c11 => ?_) (fun c11 => ?_)
  · rw [if_neg c11] at hf
    refine lv_aload_n hx hb dX8_direct_35 rfl (lv_at hl 3 rfl) ?_
    obtain ⟨b12, e13, hf⟩ := mb0 hf
    refine my_gR hx hb hts hown hK hJ fd_RX8_16 hv_8_1 e13 dX8_direct_36 ?_
    exact D39 a0 x1 x5 x7 b12 σ hf _ _ hJ ls (lv_sub hl [3, 2, 1, 0] rfl)
  · rw [if_pos c11] at hf
    refine lv_aload_n hx hb dX8_direct_28 rfl (lv_at hl 3 rfl) ?_
    obtain ⟨b49, e50, hf⟩ := mb0 hf
    refine my_gR hx hb hts hown hK hJ fd_RX8_10 hv_8_0 e50 dX8_direct_29 ?_
    refine lv_goto (tgt := 39) hx hb dX8_direct_32 (by decide) ?_
    exact D39 a0 x1 x5 x7 b49 σ hf _ _ hJ ls (lv_sub hl [3, 2, 1, 0] rfl)
