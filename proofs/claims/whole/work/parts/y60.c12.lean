set_option maxHeartbeats 4000000 in
set_option maxRecDepth 100000 in
theorem c_X12_ways (l : Launch) (G : mx_G) (P : mx_P) (a0 : Nat) (σ : mx_S) (r : Int32) (σ' : mx_S) (hf : f_X12_ways P a0 σ = some (r, σ')) : mxz σ ≤ mpc P → mxu σ ≤ mps P → mx_M l yX12_ways cX12_ways 3 (some .int) 7 182 G P [.ref a0] σ (some (.int r)) σ' := by
  intro hcap hcau
  refine mx_ofW (by decide +kernel) hcap hcau (Nat.le_of_ble_eq_true rfl) ?_
  intro p e s m below meth c hx hb hr hml hts hown hlocks hname hK hJ ls hl
  have hz0 := hJ.2.1
  have hown : s.vm.findClass RX12 = some m.cls := hown
  have hl : lv_has ls 3 [(0, .ref a0)] := hl
  have D34_9 : ∀ (v0 : Nat) (v2 : Int32) (w0 : Int32) (τ : mx_S) (o : (Int32 × Int32 × mx_S) ⊕ ((Int32 × mx_S))), f_X12_ways_D34_9 P v0 v2 w0 τ = some o → (∀ (y1 : Int32) (y2 : Int32) (υ : mx_S), o = .inl (y1, y2, υ) → ∀ (H : Heap) (locs : List Loc), mx_J G P s.heap (mxz σ) (mxu σ) υ H locs → ∀ ls : Array Slot, lv_has ls 3 [(0, .ref v0), (1, .int y1), (2, .int y2)] → W p l e (mx_rm P 7 182 σ) s m ([.ref a0] : List Value).toArray below meth c H locs (mxz υ - mxz σ) (mxu υ - mxu σ) (mx_Z below G P (some (.int r)) σ σ' [.ref a0] s) (F0 m 9 ls [])) → (∀ (y1 : Int32) (υ : mx_S), o = .inr (y1, υ) → ∀ (H : Heap) (locs : List Loc), mx_J G P s.heap (mxz σ) (mxu σ) υ H locs → ∀ ls : Array Slot, lv_has ls 3 [(1, .int y1)] → W p l e (mx_rm P 7 182 σ) s m ([.ref a0] : List Value).toArray below meth c H locs (mxz υ - mxz σ) (mxu υ - mxu σ) (mx_Z below G P (some (.int r)) σ σ' [.ref a0] s) (F0 m 41 ls [])) → ∀ (H : Heap) (locs : List Loc), mx_J G P s.heap (mxz σ) (mxu σ) τ H locs → ∀ ls : Array Slot, lv_has ls 3 [(0, .ref v0), (2, .int v2)] → W p l e (mx_rm P 7 182 σ) s m ([.ref a0] : List Value).toArray below meth c H locs (mxz τ - mxz σ) (mxu τ - mxu σ) (mx_Z below G P (some (.int r)) σ σ' [.ref a0] s) (F0 m 34 ls [.int w0]) := by
    intro v0 v2 w0 τ o hf Kb Ke0 H locs hJ ls hl
    unfold f_X12_ways_D34_9 at hf
    refine lv_istore_n (lv' := [(1, .int w0), (0, .ref v0), (2, .int v2)]) hx hb dX12_ways_34 rfl hl (by decide) rfl (fun ls hl => ?_)
    obtain ⟨x12, e13, hf⟩ := mb0 hf
    refine lv_iinc (v := x12) (lv' := [(2, .int x12), (1, .int w0), (0, .ref v0)]) hx hb dX12_ways_35 hl (k := 2) rfl (by rw [← Option.some.inj e13]; rfl) (by decide) rfl (fun ls hl => ?_)
    refine lv_goto (tgt := 9) hx hb dX12_ways_38 (by decide) ?_
    exact Kb w0 x12 τ (Option.some.inj hf).symm _ _ hJ ls (lv_sub hl [2, 1, 0] rfl)
  have B9 : ∀ (v0 : Nat) (v1 : Int32) (v2 : Int32) (τ : mx_S) (o : (Int32 × Int32 × mx_S) ⊕ ((Int32 × mx_S))), f_X12_ways_B9 P v0 v1 v2 τ = some o → (∀ (y1 : Int32) (y2 : Int32) (υ : mx_S), o = .inl (y1, y2, υ) → ∀ (H : Heap) (locs : List Loc), mx_J G P s.heap (mxz σ) (mxu σ) υ H locs → ∀ ls : Array Slot, lv_has ls 3 [(0, .ref v0), (1, .int y1), (2, .int y2)] → W p l e (mx_rm P 7 182 σ) s m ([.ref a0] : List Value).toArray below meth c H locs (mxz υ - mxz σ) (mxu υ - mxu σ) (mx_Z below G P (some (.int r)) σ σ' [.ref a0] s) (F0 m 9 ls [])) → (∀ (y1 : Int32) (υ : mx_S), o = .inr (y1, υ) → ∀ (H : Heap) (locs : List Loc), mx_J G P s.heap (mxz σ) (mxu σ) υ H locs → ∀ ls : Array Slot, lv_has ls 3 [(1, .int y1)] → W p l e (mx_rm P 7 182 σ) s m ([.ref a0] : List Value).toArray below meth c H locs (mxz υ - mxz σ) (mxu υ - mxu σ) (mx_Z below G P (some (.int r)) σ σ' [.ref a0] s) (F0 m 41 ls [])) → ∀ (H : Heap) (locs : List Loc), mx_J G P s.heap (mxz σ) (mxu σ) τ H locs → ∀ ls : Array Slot, lv_has ls 3 [(0, .ref v0), (1, .int v1), (2, .int v2)] → W p l e (mx_rm P 7 182 σ) s m ([.ref a0] : List Value).toArray below meth c H locs (mxz τ - mxz σ) (mxu τ - mxu σ) (mx_Z below G P (some (.int r)) σ σ' [.ref a0] s) (F0 m 9 ls []) := by
    intro v0 v1 v2 τ o hf Kb Ke0 H locs hJ ls hl
    unfold f_X12_ways_B9 at hf
    refine lv_iload_n hx hb dX12_ways_9 rfl (lv_at hl 2 rfl) ?_
    refine lv_iconst (v := 1) hx hb dX12_ways_10 (by decide) ?_
    refine lv_aload_n hx hb dX12_ways_11 rfl (lv_at hl 0 rfl) ?_
    obtain ⟨x3, e4, hf⟩ := mb0 hf
    refine my_gI hx hb hts hown hK hJ fd_RX12_463 hv_12_20 e4 dX12_ways_12 ?_
    refine lv_ishl hx hb dX12_ways_15 ?_
    refine lv_icmp_ge (tgt := 41) hx hb dX12_ways_16 (by decide) (fun c5 => ?_) (fun c5 => ?_)
    · rw [if_pos c5] at hf
      exact Ke0 v1 τ (Option.some.inj hf).symm _ _ hJ ls (lv_sub hl [1] rfl)
    · rw [if_neg c5] at hf
      refine lv_aload_n hx hb dX12_ways_19 rfl (lv_at hl 0 rfl) ?_
      refine lv_iload_n hx hb dX12_ways_20 rfl (lv_at hl 2 rfl) ?_
      obtain ⟨i6, e7, hf⟩ := mb0 hf
      obtain ⟨x9, σ8, e10, hf⟩ := mc0 hf
      refine mx_callV (As := [.int v2]) (rest := []) hx hb hml hts hown hK hJ rfl rfl (ci := 12) rfl e7 (c_X12_worked l G P v0 v2 τ x9 σ8 e10) me_X12_worked kw_2362 ks_103 kw_2360 (Nat.le_of_ble_eq_true rfl) (Nat.le_of_ble_eq_true rfl) rfl hl.1 rfl (Nat.le_of_ble_eq_true rfl) dX12_ways_21 (fun H locs hJ => ?_)
      refine lv_if_le (tgt := 33) hx hb dX12_ways_24 (by decide) (fun c11 => ?_) (fun c11 => ?_)
      · rw [if_pos c11] at hf
        refine lv_iload_n hx hb dX12_ways_33 rfl (lv_at hl 1 rfl) ?_
        exact D34_9 v0 v2 v1 σ8 o hf Kb Ke0 _ _ hJ ls (lv_sub hl [0, 2] rfl)
      · rw [if_neg c11] at hf
        refine lv_iload_n hx hb dX12_ways_27 rfl (lv_at hl 1 rfl) ?_
        refine lv_iconst (v := 1) hx hb dX12_ways_28 (by decide) ?_
        refine lv_iadd hx hb dX12_ways_29 ?_
        refine lv_goto (tgt := 34) hx hb dX12_ways_30 (by decide) ?_
        exact D34_9 v0 v2 (v1 + (1 : Int32)) σ8 o hf Kb Ke0 _ _ hJ ls (lv_sub hl [0, 2] rfl)
  have L9 : ∀ (v0 : Nat) (n : Nat) (v1 : Int32) (v2 : Int32) (τ : mx_S) (o : (Int32 × mx_S)), mx_lp (f_X12_ways_L9 P v0) n (v1, v2, τ) = some o → (∀ (y1 : Int32) (υ : mx_S), o = (y1, υ) → ∀ (H : Heap) (locs : List Loc), mx_J G P s.heap (mxz σ) (mxu σ) υ H locs → ∀ ls : Array Slot, lv_has ls 3 [(1, .int y1)] → W p l e (mx_rm P 7 182 σ) s m ([.ref a0] : List Value).toArray below meth c H locs (mxz υ - mxz σ) (mxu υ - mxu σ) (mx_Z below G P (some (.int r)) σ σ' [.ref a0] s) (F0 m 41 ls [])) → ∀ (H : Heap) (locs : List Loc), mx_J G P s.heap (mxz σ) (mxu σ) τ H locs → ∀ ls : Array Slot, lv_has ls 3 [(0, .ref v0), (1, .int v1), (2, .int v2)] → W p l e (mx_rm P 7 182 σ) s m ([.ref a0] : List Value).toArray below meth c H locs (mxz τ - mxz σ) (mxu τ - mxu σ) (mx_Z below G P (some (.int r)) σ σ' [.ref a0] s) (F0 m 9 ls []) := by
    intro v0 n
    induction n with
    | zero =>
      intro v1 v2 τ o hf
      rw [mx_lp0] at hf
      cases hf
    | succ n ih =>
      intro v1 v2 τ o hf Ke0 H locs hJ ls hl
      rw [mx_lpS] at hf
      obtain ⟨b, eb, hf⟩ := mb0 hf
      refine B9 v0 v1 v2 τ b eb (fun y1 y2 υ ho H locs hJ ls hl => ?_) (fun y1 υ ho H locs hJ ls hl => ?_) H locs hJ ls hl
      · subst ho
        exact ih y1 y2 υ o hf Ke0 H locs hJ ls hl
      · subst ho
        exact Ke0 y1 υ (Option.some.inj hf).symm _ _ hJ ls hl
  unfold f_X12_ways at hf
  refine lv_aload_n hx hb dX12_ways_0 rfl (lv_at hl 0 rfl) ?_
  refine lv_iconst (v := 0) hx hb dX12_ways_1 (by decide) ?_
  obtain ⟨σ1, e2, hf⟩ := mb0 hf
  refine my_pI hx hb hts hown hK hJ fd_RX12_243 cd_12 (Or.inl rfl) ht_12_0 e2 dX12_ways_2 (fun H locs hJ => ?_)
  refine lv_iconst (v := 0) hx hb dX12_ways_5 (by decide) ?_
  refine lv_istore_n (lv' := [(1, .int (0 : Int32)), (0, .ref a0)]) hx hb dX12_ways_6 rfl hl (by decide) rfl (fun ls hl => ?_)
  refine lv_iconst (v := 0) hx hb dX12_ways_7 (by decide) ?_
  refine lv_istore_n (lv' := [(2, .int (0 : Int32)), (1, .int (0 : Int32)), (0, .ref a0)]) hx hb dX12_ways_8 rfl hl (by decide) rfl (fun ls hl => ?_)
  obtain ⟨o14, e15, hf⟩ := mb0 hf
  refine L9 a0 (mpN P) (0 : Int32) (0 : Int32) σ1 o14 e15 (fun y16 σ17 ho H locs hJ ls hl => ?_) _ _ hJ ls (lv_sub hl [2, 1, 0] rfl)
  · rw [ho] at hf
    have hf : (some (y16, σ17)) = some (r, σ') := hf
    refine lv_iload_n hx hb dX12_ways_41 rfl (lv_at hl 0 rfl) ?_
    exact my_iret hx hb hr hlocks hJ hf dX12_ways_42
set_option maxHeartbeats 4000000 in
set_option maxRecDepth 100000 in
theorem c_X12_way (l : Launch) (G : mx_G) (P : mx_P) (a0 : Nat) (p1 : Int32) (p2 : Int32) (σ : mx_S) (r : Int32) (σ' : mx_S) (hf : f_X12_way P a0 p1 p2 σ = some (r, σ')) : mxz σ ≤ mpc P → mxu σ ≤ mps P → mx_M l yX12_way cX12_way 6 (some .int) 7 182 G P [.ref a0, .int p1, .int p2] σ (some (.int r)) σ' := by
  intro hcap hcau
  refine mx_ofW (by decide +kernel) hcap hcau (Nat.le_of_ble_eq_true rfl) ?_
  intro p e s m below meth c hx hb hr hml hts hown hlocks hname hK hJ ls hl
  have hz0 := hJ.2.1
  have hown : s.vm.findClass RX12 = some m.cls := hown
  have hl : lv_has ls 6 [(0, .ref a0), (1, .int p1), (2, .int p2)] := hl
  have D89_33 : ∀ (v0 : Nat) (v1 : Int32) (v2 : Int32) (v3 : Int32) (v4 : Int32) (τ : mx_S) (o : (Int32 × Int32 × mx_S) ⊕ ((Int32 × Int32 × mx_S) ⊕ (mx_S))), f_X12_way_D89_33 P v0 v1 v2 v3 v4 τ = some o → (∀ (y3 : Int32) (y4 : Int32) (υ : mx_S), o = .inl (y3, y4, υ) → ∀ (H : Heap) (locs : List Loc), mx_J G P s.heap (mxz σ) (mxu σ) υ H locs → ∀ ls : Array Slot, lv_has ls 6 [(0, .ref v0), (1, .int v1), (2, .int v2), (3, .int y3), (4, .int y4)] → W p l e (mx_rm P 7 182 σ) s m ([.ref a0, .int p1, .int p2] : List Value).toArray below meth c H locs (mxz υ - mxz σ) (mxu υ - mxu σ) (mx_Z below G P (some (.int r)) σ σ' [.ref a0, .int p1, .int p2] s) (F0 m 33 ls [])) → (∀ (y4 : Int32) (y5 : Int32) (υ : mx_S), o = .inr (.inl (y4, y5, υ)) → ∀ (H : Heap) (locs : List Loc), mx_J G P s.heap (mxz σ) (mxu σ) υ H locs → ∀ ls : Array Slot, lv_has ls 6 [(2, .int v2), (4, .int y4), (5, .int y5)] → W p l e (mx_rm P 7 182 σ) s m ([.ref a0, .int p1, .int p2] : List Value).toArray below meth c H locs (mxz υ - mxz σ) (mxu υ - mxu σ) (mx_Z below G P (some (.int r)) σ σ' [.ref a0, .int p1, .int p2] s) (F0 m 65 ls [])) → (∀  (υ : mx_S), o = .inr (.inr υ) → ∀ (H : Heap) (locs : List Loc), mx_J G P s.heap (mxz σ) (mxu σ) υ H locs → ∀ ls : Array Slot, lv_has ls 6 [(0, .ref v0)] → W p l e (mx_rm P 7 182 σ) s m ([.ref a0, .int p1, .int p2] : List Value).toArray below meth c H locs (mxz υ - mxz σ) (mxu υ - mxu σ) (mx_Z below G P (some (.int r)) σ σ' [.ref a0, .int p1, .int p2] s) (F0 m 95 ls [])) → ∀ (H : Heap) (locs : List Loc), mx_J G P s.heap (mxz σ) (mxu σ) τ H locs → ∀ ls : Array Slot, lv_has ls 6 [(0, .ref v0), (1, .int v1), (2, .int v2), (3, .int v3), (4, .int v4)] → W p l e (mx_rm P 7 182 σ) s m ([.ref a0, .int p1, .int p2] : List Value).toArray below meth c H locs (mxz τ - mxz σ) (mxu τ - mxu σ) (mx_Z below G P (some (.int r)) σ σ' [.ref a0, .int p1, .int p2] s) (F0 m 89 ls []) := by
    intro v0 v1 v2 v3 v4 τ o hf Kb Ke0 Ke1 H locs hJ ls hl
    unfold f_X12_way_D89_33 at hf
    obtain ⟨x22, e23, hf⟩ := mb0 hf
    refine lv_iinc (v := x22) (lv' := [(4, .int x22), (0, .ref v0), (1, .int v1), (2, .int v2), (3, .int v3)]) hx hb dX12_way_89 hl (k := 4) rfl (by rw [← Option.some.inj e23]; rfl) (by decide) rfl (fun ls hl => ?_)
    refine lv_goto (tgt := 33) hx hb dX12_way_92 (by decide) ?_
    exact Kb v3 x22 τ (Option.some.inj hf).symm _ _ hJ ls (lv_sub hl [1, 2, 3, 4, 0] rfl)
  have B33 : ∀ (v0 : Nat) (v1 : Int32) (v2 : Int32) (v3 : Int32) (v4 : Int32) (τ : mx_S) (o : (Int32 × Int32 × mx_S) ⊕ ((Int32 × Int32 × mx_S) ⊕ (mx_S))), f_X12_way_B33 P v0 v1 v2 v3 v4 τ = some o → (∀ (y3 : Int32) (y4 : Int32) (υ : mx_S), o = .inl (y3, y4, υ) → ∀ (H : Heap) (locs : List Loc), mx_J G P s.heap (mxz σ) (mxu σ) υ H locs → ∀ ls : Array Slot, lv_has ls 6 [(0, .ref v0), (1, .int v1), (2, .int v2), (3, .int y3), (4, .int y4)] → W p l e (mx_rm P 7 182 σ) s m ([.ref a0, .int p1, .int p2] : List Value).toArray below meth c H locs (mxz υ - mxz σ) (mxu υ - mxu σ) (mx_Z below G P (some (.int r)) σ σ' [.ref a0, .int p1, .int p2] s) (F0 m 33 ls [])) → (∀ (y4 : Int32) (y5 : Int32) (υ : mx_S), o = .inr (.inl (y4, y5, υ)) → ∀ (H : Heap) (locs : List Loc), mx_J G P s.heap (mxz σ) (mxu σ) υ H locs → ∀ ls : Array Slot, lv_has ls 6 [(2, .int v2), (4, .int y4), (5, .int y5)] → W p l e (mx_rm P 7 182 σ) s m ([.ref a0, .int p1, .int p2] : List Value).toArray below meth c H locs (mxz υ - mxz σ) (mxu υ - mxu σ) (mx_Z below G P (some (.int r)) σ σ' [.ref a0, .int p1, .int p2] s) (F0 m 65 ls [])) → (∀  (υ : mx_S), o = .inr (.inr υ) → ∀ (H : Heap) (locs : List Loc), mx_J G P s.heap (mxz σ) (mxu σ) υ H locs → ∀ ls : Array Slot, lv_has ls 6 [(0, .ref v0)] → W p l e (mx_rm P 7 182 σ) s m ([.ref a0, .int p1, .int p2] : List Value).toArray below meth c H locs (mxz υ - mxz σ) (mxu υ - mxu σ) (mx_Z below G P (some (.int r)) σ σ' [.ref a0, .int p1, .int p2] s) (F0 m 95 ls [])) → ∀ (H : Heap) (locs : List Loc), mx_J G P s.heap (mxz σ) (mxu σ) τ H locs → ∀ ls : Array Slot, lv_has ls 6 [(0, .ref v0), (1, .int v1), (2, .int v2), (3, .int v3), (4, .int v4)] → W p l e (mx_rm P 7 182 σ) s m ([.ref a0, .int p1, .int p2] : List Value).toArray below meth c H locs (mxz τ - mxz σ) (mxu τ - mxu σ) (mx_Z below G P (some (.int r)) σ σ' [.ref a0, .int p1, .int p2] s) (F0 m 33 ls []) := by
    intro v0 v1 v2 v3 v4 τ o hf Kb Ke0 Ke1 H locs hJ ls hl
    unfold f_X12_way_B33 at hf
    refine lv_iload hx hb dX12_way_33 (lv_at hl 4 rfl) ?_
    refine lv_iconst (v := 1) hx hb dX12_way_35 (by decide) ?_
    refine lv_aload_n hx hb dX12_way_36 rfl (lv_at hl 0 rfl) ?_
    obtain ⟨x10, e11, hf⟩ := mb0 hf
    refine my_gI hx hb hts hown hK hJ fd_RX12_463 hv_12_20 e11 dX12_way_37 ?_
    refine lv_ishl hx hb dX12_way_40 ?_
    refine lv_icmp_ge (tgt := 95) hx hb dX12_way_41 (by decide) (fun c12 => ?_) (fun c12 => ?_)
    · rw [if_pos c12] at hf
      exact Ke1 τ (Option.some.inj hf).symm _ _ hJ ls (lv_sub hl [0] rfl)
    · rw [if_neg c12] at hf
      refine lv_aload_n hx hb dX12_way_44 rfl (lv_at hl 0 rfl) ?_
      refine lv_iload hx hb dX12_way_45 (lv_at hl 4 rfl) ?_
      obtain ⟨i13, e14, hf⟩ := mb0 hf
      obtain ⟨x16, σ15, e17, hf⟩ := mc0 hf
      refine mx_callV (As := [.int v4]) (rest := []) hx hb hml hts hown hK hJ rfl rfl (ci := 12) rfl e14 (c_X12_worked l G P v0 v4 τ x16 σ15 e17) me_X12_worked kw_2362 ks_103 kw_2360 (Nat.le_of_ble_eq_true rfl) (Nat.le_of_ble_eq_true rfl) rfl hl.1 rfl (Nat.le_of_ble_eq_true rfl) dX12_way_47 (fun H locs hJ => ?_)
      refine lv_istore (lv' := [(5, .int x16), (0, .ref v0), (1, .int v1), (2, .int v2), (3, .int v3), (4, .int v4)]) hx hb dX12_way_50 hl (by decide) rfl (fun ls hl => ?_)
      refine lv_iload hx hb dX12_way_52 (lv_at hl 0 rfl) ?_
      refine lv_if_ne (tgt := 60) hx hb dX12_way_54 (by decide) (fun c18 => ?_) (fun c18 => ?_)
      · rw [if_neg c18] at hf
        refine lv_iload_n hx hb dX12_way_60 rfl (lv_at hl 4 rfl) ?_
        refine lv_iload_n hx hb dX12_way_61 rfl (lv_at hl 2 rfl) ?_
        refine lv_icmp_ne (tgt := 86) hx hb dX12_way_62 (by decide) (fun c19 => ?_) (fun c19 => ?_)
        · rw [if_neg c19] at hf
          obtain ⟨x20, e21, hf⟩ := mb0 hf
          refine lv_iinc (v := x20) (lv' := [(3, .int x20), (5, .int x16), (0, .ref v0), (1, .int v1), (2, .int v2), (4, .int v4)]) hx hb dX12_way_86 hl (k := 4) rfl (by rw [← Option.some.inj e21]; rfl) (by decide) rfl (fun ls hl => ?_)
          exact D89_33 v0 v1 v2 x20 v4 σ15 o hf Kb Ke0 Ke1 _ _ hJ ls (lv_sub hl [2, 3, 4, 0, 5] rfl)
        · rw [if_pos c19] at hf
          exact Ke0 v4 x16 σ15 (Option.some.inj hf).symm _ _ hJ ls (lv_sub hl [3, 5, 0] rfl)
      · rw [if_pos c18] at hf
        refine lv_goto (tgt := 89) hx hb dX12_way_57 (by decide) ?_
        exact D89_33 v0 v1 v2 v3 v4 σ15 o hf Kb Ke0 Ke1 _ _ hJ ls (lv_sub hl [1, 2, 3, 4, 5] rfl)
  have L33 : ∀ (v0 : Nat) (v1 : Int32) (v2 : Int32) (n : Nat) (v3 : Int32) (v4 : Int32) (τ : mx_S) (o : (Int32 × Int32 × mx_S) ⊕ (mx_S)), mx_lp (f_X12_way_L33 P v0 v1 v2) n (v3, v4, τ) = some o → (∀ (y4 : Int32) (y5 : Int32) (υ : mx_S), o = (.inl (y4, y5, υ)) → ∀ (H : Heap) (locs : List Loc), mx_J G P s.heap (mxz σ) (mxu σ) υ H locs → ∀ ls : Array Slot, lv_has ls 6 [(2, .int v2), (4, .int y4), (5, .int y5)] → W p l e (mx_rm P 7 182 σ) s m ([.ref a0, .int p1, .int p2] : List Value).toArray below meth c H locs (mxz υ - mxz σ) (mxu υ - mxu σ) (mx_Z below G P (some (.int r)) σ σ' [.ref a0, .int p1, .int p2] s) (F0 m 65 ls [])) → (∀  (υ : mx_S), o = (.inr υ) → ∀ (H : Heap) (locs : List Loc), mx_J G P s.heap (mxz σ) (mxu σ) υ H locs → ∀ ls : Array Slot, lv_has ls 6 [(0, .ref v0)] → W p l e (mx_rm P 7 182 σ) s m ([.ref a0, .int p1, .int p2] : List Value).toArray below meth c H locs (mxz υ - mxz σ) (mxu υ - mxu σ) (mx_Z below G P (some (.int r)) σ σ' [.ref a0, .int p1, .int p2] s) (F0 m 95 ls [])) → ∀ (H : Heap) (locs : List Loc), mx_J G P s.heap (mxz σ) (mxu σ) τ H locs → ∀ ls : Array Slot, lv_has ls 6 [(0, .ref v0), (1, .int v1), (2, .int v2), (3, .int v3), (4, .int v4)] → W p l e (mx_rm P 7 182 σ) s m ([.ref a0, .int p1, .int p2] : List Value).toArray below meth c H locs (mxz τ - mxz σ) (mxu τ - mxu σ) (mx_Z below G P (some (.int r)) σ σ' [.ref a0, .int p1, .int p2] s) (F0 m 33 ls []) := by
    intro v0 v1 v2 n
    induction n with
    | zero =>
      intro v3 v4 τ o hf
      rw [mx_lp0] at hf
      cases hf
    | succ n ih =>
      intro v3 v4 τ o hf Ke0 Ke1 H locs hJ ls hl
      rw [mx_lpS] at hf
      obtain ⟨b, eb, hf⟩ := mb0 hf
      refine B33 v0 v1 v2 v3 v4 τ b eb (fun y3 y4 υ ho H locs hJ ls hl => ?_) (fun y4 y5 υ ho H locs hJ ls hl => ?_) (fun  υ ho H locs hJ ls hl => ?_) H locs hJ ls hl
      · subst ho
        exact ih y3 y4 υ o hf Ke0 Ke1 H locs hJ ls hl
      · subst ho
        exact Ke0 y4 y5 υ (Option.some.inj hf).symm _ _ hJ ls hl
      · subst ho
        exact Ke1  υ (Option.some.inj hf).symm _ _ hJ ls hl
  have D85 : ∀ (w0 : Int32) (τ : mx_S), f_X12_way_D85 P w0 τ = some (r, σ') → ∀ (H : Heap) (locs : List Loc), mx_J G P s.heap (mxz σ) (mxu σ) τ H locs → ∀ ls : Array Slot, lv_has ls 6 [] → W p l e (mx_rm P 7 182 σ) s m ([.ref a0, .int p1, .int p2] : List Value).toArray below meth c H locs (mxz τ - mxz σ) (mxu τ - mxu σ) (mx_Z below G P (some (.int r)) σ σ' [.ref a0, .int p1, .int p2] s) (F0 m 85 ls [.int w0]) := by
    intro w0 τ hf _ _ hJ ls hl
    unfold f_X12_way_D85 at hf
    exact my_iret hx hb hr hlocks hJ hf dX12_way_85
  have D16 : ∀ (v0 : Nat) (v1 : Int32) (v2 : Int32) (w0 : Int32) (w1 : Nat) (τ : mx_S), f_X12_way_D16 P v0 v1 v2 w0 w1 τ = some (r, σ') → ∀ (H : Heap) (locs : List Loc), mx_J G P s.heap (mxz σ) (mxu σ) τ H locs → ∀ ls : Array Slot, lv_has ls 6 [(0, .ref v0), (1, .int v1), (2, .int v2)] → W p l e (mx_rm P 7 182 σ) s m ([.ref a0, .int p1, .int p2] : List Value).toArray below meth c H locs (mxz τ - mxz σ) (mxu τ - mxu σ) (mx_Z below G P (some (.int r)) σ σ' [.ref a0, .int p1, .int p2] s) (F0 m 16 ls [.int w0, .ref w1]) := by
    intro v0 v1 v2 w0 w1 τ hf _ _ hJ ls hl
    unfold f_X12_way_D16 at hf
    obtain ⟨σ5, e6, hf⟩ := mb0 hf
    refine my_pI hx hb hts hown hK hJ fd_RX12_243 cd_12 (Or.inl rfl) ht_12_0 e6 dX12_way_16 (fun H locs hJ => ?_)
    refine lv_aload_n hx hb dX12_way_19 rfl (lv_at hl 0 rfl) ?_
    obtain ⟨x7, e8, hf⟩ := mb0 hf
    refine my_gI hx hb hts hown hK hJ fd_RX12_243 hv_12_0 e8 dX12_way_20 ?_
    refine lv_if_le (tgt := 28) hx hb dX12_way_23 (by decide) (fun c9 => ?_) (fun c9 => ?_)
    · rw [if_pos c9] at hf
      refine lv_iconst (v := 0) hx hb dX12_way_28 (by decide) ?_
      refine lv_istore_n (lv' := [(3, .int (0 : Int32)), (0, .ref v0), (1, .int v1), (2, .int v2)]) hx hb dX12_way_29 rfl hl (by decide) rfl (fun ls hl => ?_)
      refine lv_iconst (v := 0) hx hb dX12_way_30 (by decide) ?_
      refine lv_istore (lv' := [(4, .int (0 : Int32)), (3, .int (0 : Int32)), (0, .ref v0), (1, .int v1), (2, .int v2)]) hx hb dX12_way_31 hl (by decide) rfl (fun ls hl => ?_)
      obtain ⟨o24, e25, hf⟩ := mb0 hf
      refine L33 v0 v1 v2 (mpN P) (0 : Int32) (0 : Int32) σ5 o24 e25 (fun y26 y27 σ28 ho H locs hJ ls hl => ?_) (fun σ31 ho H locs hJ ls hl => ?_) _ _ hJ ls (lv_sub hl [2, 3, 4, 1, 0] rfl)
      · rw [ho] at hf
        have hf : ((if v2 = 0 then f_X12_way_D85 P y26 σ28 else (if y27 = (1 : Int32) then f_X12_way_D85 P (1 : Int32) σ28 else f_X12_way_D85 P (0 : Int32) σ28))) = some (r, σ') := hf
        refine lv_iload_n hx hb dX12_way_65 rfl (lv_at hl 0 rfl) ?_
        refine lv_if_ne (tgt := 74) hx hb dX12_way_66 (by decide) (fun c29 => ?_) (fun c29 => ?_)
        · rw [if_neg c29] at hf
          refine lv_iload hx hb dX12_way_74 (lv_at hl 2 rfl) ?_
          refine lv_iconst (v := 1) hx hb dX12_way_76 (by decide) ?_
          refine lv_icmp_ne (tgt := 84) hx hb dX12_way_77 (by decide) (fun c30 => ?_) (fun c30 => ?_)
          · rw [if_neg c30] at hf
            refine lv_iconst (v := 0) hx hb dX12_way_84 (by decide) ?_
            exact D85 (0 : Int32) σ28 hf _ _ hJ ls (lv_sub hl [] rfl)
          · rw [if_pos c30] at hf
            refine lv_iconst (v := 1) hx hb dX12_way_80 (by decide) ?_
            refine lv_goto (tgt := 85) hx hb dX12_way_81 (by decide) ?_
            exact D85 (1 : Int32) σ28 hf _ _ hJ ls (lv_sub hl [] rfl)
        · rw [if_pos c29] at hf
          refine lv_iload hx hb dX12_way_69 (lv_at hl 1 rfl) ?_
          refine lv_goto (tgt := 85) hx hb dX12_way_71 (by decide) ?_
          exact D85 y26 σ28 hf _ _ hJ ls (lv_sub hl [] rfl)
      · rw [ho] at hf
        have hf : ((mp_I P σ31 v0 12 0 (2 : Int32)).bind fun σ32 => some ((0 : Int32), σ32)) = some (r, σ') := hf
        refine lv_aload_n hx hb dX12_way_95 rfl (lv_at hl 0 rfl) ?_
        refine lv_iconst (v := 2) hx hb dX12_way_96 (by decide) ?_
        obtain ⟨σ32, e33, hf⟩ := mb0 hf
        refine my_pI hx hb hts hown hK hJ fd_RX12_243 cd_12 (Or.inl rfl) ht_12_0 e33 dX12_way_97 (fun H locs hJ => ?_)
        refine lv_iconst (v := 0) hx hb dX12_way_100 (by decide) ?_
        exact my_iret hx hb hr hlocks hJ hf dX12_way_101
    · rw [if_neg c9] at hf
      refine lv_iconst (v := 0) hx hb dX12_way_26 (by decide) ?_
      exact my_iret hx hb hr hlocks hJ hf dX12_way_27
  unfold f_X12_way at hf
  refine lv_aload_n hx hb dX12_way_0 rfl (lv_at hl 0 rfl) ?_
  refine lv_iload_n hx hb dX12_way_1 rfl (lv_at hl 2 rfl) ?_
  refine lv_i2l hx hb dX12_way_2 rfl ?_
  refine lv_lconst (v := 0) hx hb dX12_way_3 (by decide) ?_
  refine lv_lconst (v := 1) hx hb dX12_way_4 (by decide) ?_
  obtain ⟨x2, σ1, e3, hf⟩ := mc0 hf
  refine mx_callS (As := [.long (p2.toInt64), .long (0 : Int64), .long (1 : Int64)]) (rest := [.ref a0]) hx hb hml hts hown hK hJ rfl rfl (c_X12_in l G P (p2.toInt64) (0 : Int64) (1 : Int64) σ x2 σ1 e3) me_X12_in kw_2223 kw_2222 (Nat.le_of_ble_eq_true rfl) (Nat.le_of_ble_eq_true rfl) rfl hl.1 rfl (Nat.le_of_ble_eq_true rfl) dX12_way_5 (fun H locs hJ => ?_)
  refine lv_if_eq (tgt := 15) hx hb dX12_way_8 (by decide) (fun c4 => ?_) (fun c4 => ?_)
  · rw [if_pos c4] at hf
    refine lv_iconst (v := 1) hx hb dX12_way_15 (by decide) ?_
    exact D16 a0 p1 p2 (1 : Int32) a0 σ1 hf _ _ hJ ls (lv_sub hl [0, 1, 2] rfl)
  · rw [if_neg c4] at hf
    refine lv_iconst (v := 0) hx hb dX12_way_11 (by decide) ?_
    refine lv_goto (tgt := 16) hx hb dX12_way_12 (by decide) ?_
    exact D16 a0 p1 p2 (0 : Int32) a0 σ1 hf _ _ hJ ls (lv_sub hl [0, 1, 2] rfl)
set_option maxHeartbeats 4000000 in
set_option maxRecDepth 100000 in
theorem c_X12_isPoint (l : Launch) (G : mx_G) (P : mx_P) (a0 : Nat) (p1 : Int32) (σ : mx_S) (r : Int32) (σ' : mx_S) (hf : f_X12_isPoint P a0 p1 σ = some (r, σ')) : mxz σ ≤ mpc P → mxu σ ≤ mps P → mx_M l yX12_isPoint cX12_isPoint 2 (some .boolean) 0 0 G P [.ref a0, .int p1] σ (some (.int r)) σ' := by
  intro hcap hcau
  refine mx_ofW (by decide +kernel) hcap hcau (Nat.le_of_ble_eq_true rfl) ?_
  intro p e s m below meth c hx hb hr hml hts hown hlocks hname hK hJ ls hl
  have hz0 := hJ.2.1
  have hown : s.vm.findClass RX12 = some m.cls := hown
  have hl : lv_has ls 2 [(0, .ref a0), (1, .int p1)] := hl
  have D17 : ∀ (w0 : Int32) (τ : mx_S), f_X12_isPoint_D17 P w0 τ = some (r, σ') → ∀ (H : Heap) (locs : List Loc), mx_J G P s.heap (mxz σ) (mxu σ) τ H locs → ∀ ls : Array Slot, lv_has ls 2 [] → W p l e (mx_rm P 0 0 σ) s m ([.ref a0, .int p1] : List Value).toArray below meth c H locs (mxz τ - mxz σ) (mxu τ - mxu σ) (mx_Z below G P (some (.int r)) σ σ' [.ref a0, .int p1] s) (F0 m 17 ls [.int w0]) := by
    intro w0 τ hf _ _ hJ ls hl
    unfold f_X12_isPoint_D17 at hf
    exact mx_zret hx hb hr hlocks hJ hf dX12_isPoint_17
  have D16 : ∀  (τ : mx_S), f_X12_isPoint_D16 P  τ = some (r, σ') → ∀ (H : Heap) (locs : List Loc), mx_J G P s.heap (mxz σ) (mxu σ) τ H locs → ∀ ls : Array Slot, lv_has ls 2 [] → W p l e (mx_rm P 0 0 σ) s m ([.ref a0, .int p1] : List Value).toArray below meth c H locs (mxz τ - mxz σ) (mxu τ - mxu σ) (mx_Z below G P (some (.int r)) σ σ' [.ref a0, .int p1] s) (F0 m 16 ls []) := by
    intro  τ hf _ _ hJ ls hl
    unfold f_X12_isPoint_D16 at hf
    refine lv_iconst (v := 0) hx hb dX12_isPoint_16 (by decide) ?_
    exact D17 (0 : Int32) τ hf _ _ hJ ls (lv_sub hl [] rfl)
  unfold f_X12_isPoint at hf
  refine lv_iload_n hx hb dX12_isPoint_0 rfl (lv_at hl 1 rfl) ?_
  refine lv_if_lt (tgt := 16) hx hb dX12_isPoint_1 (by decide) (fun c1 => ?_) (fun c1 => ?_)
  · rw [if_pos c1] at hf
    exact D16  σ hf _ _ hJ ls (lv_sub hl [] rfl)
  · rw [if_neg c1] at hf
    refine lv_iload_n hx hb dX12_isPoint_4 rfl (lv_at hl 1 rfl) ?_
    refine lv_aload_n hx hb dX12_isPoint_5 rfl (lv_at hl 0 rfl) ?_
    obtain ⟨x2, e3, hf⟩ := mb0 hf
    refine my_gI hx hb hts hown hK hJ fd_RX12_460 hv_12_19 e3 dX12_isPoint_6 ?_
    refine lv_icmp_ge (tgt := 16) hx hb dX12_isPoint_9 (by decide) (fun c4 => ?_) (fun c4 => ?_)
    · rw [if_pos c4] at hf
      exact D16  σ hf _ _ hJ ls (lv_sub hl [] rfl)
    · rw [if_neg c4] at hf
      refine lv_iconst (v := 1) hx hb dX12_isPoint_12 (by decide) ?_
      refine lv_goto (tgt := 17) hx hb dX12_isPoint_13 (by decide) ?_
      exact D17 (1 : Int32) σ hf _ _ hJ ls (lv_sub hl [] rfl)
set_option maxHeartbeats 4000000 in
set_option maxRecDepth 100000 in
theorem c_X12_sideOf (l : Launch) (G : mx_G) (P : mx_P) (a0 : Nat) (p1 : Int32) (p2 : Int32) (σ : mx_S) (r : Int64) (σ' : mx_S) (hf : f_X12_sideOf P a0 p1 p2 σ = some (r, σ')) : mxz σ ≤ mpc P → mxu σ ≤ mps P → mx_M l yX12_sideOf cX12_sideOf 3 (some .long) 0 0 G P [.ref a0, .int p1, .int p2] σ (some (.long r)) σ' := by
  intro hcap hcau
  refine mx_ofW (by decide +kernel) hcap hcau (Nat.le_of_ble_eq_true rfl) ?_
  intro p e s m below meth c hx hb hr hml hts hown hlocks hname hK hJ ls hl
  have hz0 := hJ.2.1
  have hown : s.vm.findClass RX12 = some m.cls := hown
  have hl : lv_has ls 3 [(0, .ref a0), (1, .int p1), (2, .int p2)] := hl
  have D19 : ∀ (w0 : Int64) (τ : mx_S), f_X12_sideOf_D19 P w0 τ = some (r, σ') → ∀ (H : Heap) (locs : List Loc), mx_J G P s.heap (mxz σ) (mxu σ) τ H locs → ∀ ls : Array Slot, lv_has ls 3 [] → W p l e (mx_rm P 0 0 σ) s m ([.ref a0, .int p1, .int p2] : List Value).toArray below meth c H locs (mxz τ - mxz σ) (mxu τ - mxu σ) (mx_Z below G P (some (.long r)) σ σ' [.ref a0, .int p1, .int p2] s) (F0 m 19 ls [.long w0]) := by
    intro w0 τ hf _ _ hJ ls hl
    unfold f_X12_sideOf_D19 at hf
    exact my_lret hx hb hr hlocks hJ hf dX12_sideOf_19
  unfold f_X12_sideOf at hf
  refine lv_iload_n hx hb dX12_sideOf_0 rfl (lv_at hl 2 rfl) ?_
  refine lv_if_ne (tgt := 13) hx hb dX12_sideOf_1 (by decide) (fun c1 => ?_) (fun c1 => ?_)
  · rw [if_neg c1] at hf
    refine lv_aload_n hx hb dX12_sideOf_13 rfl (lv_at hl 0 rfl) ?_
    obtain ⟨b2, e3, hf⟩ := mb0 hf
    refine my_gR hx hb hts hown hK hJ fd_RX12_17 hv_12_12 e3 dX12_sideOf_14 ?_
    refine lv_iload_n hx hb dX12_sideOf_17 rfl (lv_at hl 1 rfl) ?_
    obtain ⟨x4, e5, hf⟩ := mb0 hf
    refine mx_aL hx hb hK hJ e5 dX12_sideOf_18 ?_
    exact D19 x4 σ hf _ _ hJ ls (lv_sub hl [] rfl)
  · rw [if_pos c1] at hf
    refine lv_aload_n hx hb dX12_sideOf_4 rfl (lv_at hl 0 rfl) ?_
    obtain ⟨b6, e7, hf⟩ := mb0 hf
    refine my_gR hx hb hts hown hK hJ fd_RX12_13 hv_12_11 e7 dX12_sideOf_5 ?_
    refine lv_iload_n hx hb dX12_sideOf_8 rfl (lv_at hl 1 rfl) ?_
    obtain ⟨x8, e9, hf⟩ := mb0 hf
    refine mx_aL hx hb hK hJ e9 dX12_sideOf_9 ?_
    refine lv_goto (tgt := 19) hx hb dX12_sideOf_10 (by decide) ?_
    exact D19 x8 σ hf _ _ hJ ls (lv_sub hl [] rfl)
set_option maxHeartbeats 4000000 in
set_option maxRecDepth 100000 in
theorem c_X12_at (l : Launch) (G : mx_G) (P : mx_P) (a0 : Nat) (p1 : Int32) (p2 : Int32) (p3 : Int32) (p4 : Int32) (σ : mx_S) (r : Int64) (σ' : mx_S) (hf : f_X12_at P a0 p1 p2 p3 p4 σ = some (r, σ')) : mxz σ ≤ mpc P → mxu σ ≤ mps P → mx_M l yX12_at cX12_at 6 (some .long) 7 182 G P [.ref a0, .int p1, .int p2, .int p3, .int p4] σ (some (.long r)) σ' := by
  intro hcap hcau
  refine mx_ofW (by decide +kernel) hcap hcau (Nat.le_of_ble_eq_true rfl) ?_
  intro p e s m below meth c hx hb hr hml hts hown hlocks hname hK hJ ls hl
  have hz0 := hJ.2.1
  have hown : s.vm.findClass RX12 = some m.cls := hown
  have hl : lv_has ls 6 [(0, .ref a0), (1, .int p1), (2, .int p2), (3, .int p3), (4, .int p4)] := hl
  have D104 : ∀ (w0 : Int64) (τ : mx_S), f_X12_at_D104 P w0 τ = some (r, σ') → ∀ (H : Heap) (locs : List Loc), mx_J G P s.heap (mxz σ) (mxu σ) τ H locs → ∀ ls : Array Slot, lv_has ls 6 [] → W p l e (mx_rm P 7 182 σ) s m ([.ref a0, .int p1, .int p2, .int p3, .int p4] : List Value).toArray below meth c H locs (mxz τ - mxz σ) (mxu τ - mxu σ) (mx_Z below G P (some (.long r)) σ σ' [.ref a0, .int p1, .int p2, .int p3, .int p4] s) (F0 m 104 ls [.long w0]) := by
    intro w0 τ hf _ _ hJ ls hl
    unfold f_X12_at_D104 at hf
    exact my_lret hx hb hr hlocks hJ hf dX12_at_104
  have D79 : ∀ (v0 : Nat) (v2 : Int32) (v3 : Int32) (v4 : Int32) (w0 : Int32) (w1 : Nat) (τ : mx_S), f_X12_at_D79 P v0 v2 v3 v4 w0 w1 τ = some (r, σ') → ∀ (H : Heap) (locs : List Loc), mx_J G P s.heap (mxz σ) (mxu σ) τ H locs → ∀ ls : Array Slot, lv_has ls 6 [(0, .ref v0), (2, .int v2), (3, .int v3), (4, .int v4)] → W p l e (mx_rm P 7 182 σ) s m ([.ref a0, .int p1, .int p2, .int p3, .int p4] : List Value).toArray below meth c H locs (mxz τ - mxz σ) (mxu τ - mxu σ) (mx_Z below G P (some (.long r)) σ σ' [.ref a0, .int p1, .int p2, .int p3, .int p4] s) (F0 m 79 ls [.int w0, .ref w1]) := by
    intro v0 v2 v3 v4 w0 w1 τ hf _ _ hJ ls hl
    unfold f_X12_at_D79 at hf
    obtain ⟨σ12, e13, hf⟩ := mb0 hf
    refine my_pI hx hb hts hown hK hJ fd_RX12_243 cd_12 (Or.inl rfl) ht_12_0 e13 dX12_at_79 (fun H locs hJ => ?_)
    refine lv_aload_n hx hb dX12_at_82 rfl (lv_at hl 0 rfl) ?_
    obtain ⟨x14, e15, hf⟩ := mb0 hf
    refine my_gI hx hb hts hown hK hJ fd_RX12_243 hv_12_0 e15 dX12_at_83 ?_
    refine lv_if_le (tgt := 93) hx hb dX12_at_86 (by decide) (fun c16 => ?_) (fun c16 => ?_)
    · rw [if_pos c16] at hf
      refine lv_aload_n hx hb dX12_at_93 rfl (lv_at hl 0 rfl) ?_
      refine lv_iconst (v := 2) hx hb dX12_at_94 (by decide) ?_
      refine lv_iload_n hx hb dX12_at_95 rfl (lv_at hl 1 rfl) ?_
      refine lv_imul hx hb dX12_at_96 ?_
      refine lv_iload_n hx hb dX12_at_97 rfl (lv_at hl 2 rfl) ?_
      refine lv_iadd hx hb dX12_at_98 ?_
      refine lv_iload hx hb dX12_at_99 (lv_at hl 3 rfl) ?_
      obtain ⟨i17, e18, hf⟩ := mb0 hf
      obtain ⟨x20, σ19, e21, hf⟩ := mc0 hf
      refine mx_callV (As := [.int (((2 : Int32) * v2) + v3), .int v4]) (rest := []) hx hb hml hts hown hK hJ rfl rfl (ci := 12) rfl e18 (c_X12_sideOf l G P v0 (((2 : Int32) * v2) + v3) v4 σ12 x20 σ19 e21) me_X12_sideOf kw_2502 ks_131 kw_2500 (Nat.le_of_ble_eq_true rfl) (Nat.le_of_ble_eq_true rfl) rfl hl.1 rfl (Nat.le_of_ble_eq_true rfl) dX12_at_101 (fun H locs hJ => ?_)
      exact D104 x20 σ19 hf _ _ hJ ls (lv_sub hl [] rfl)
    · rw [if_neg c16] at hf
      refine lv_lconst (v := 0) hx hb dX12_at_89 (by decide) ?_
      refine lv_goto (tgt := 104) hx hb dX12_at_90 (by decide) ?_
      exact D104 (0 : Int64) σ12 hf _ _ hJ ls (lv_sub hl [] rfl)
  have D74 : ∀ (v0 : Nat) (v2 : Int32) (v3 : Int32) (v4 : Int32) (w0 : Nat) (τ : mx_S), f_X12_at_D74 P v0 v2 v3 v4 w0 τ = some (r, σ') → ∀ (H : Heap) (locs : List Loc), mx_J G P s.heap (mxz σ) (mxu σ) τ H locs → ∀ ls : Array Slot, lv_has ls 6 [(0, .ref v0), (2, .int v2), (3, .int v3), (4, .int v4)] → W p l e (mx_rm P 7 182 σ) s m ([.ref a0, .int p1, .int p2, .int p3, .int p4] : List Value).toArray below meth c H locs (mxz τ - mxz σ) (mxu τ - mxu σ) (mx_Z below G P (some (.long r)) σ σ' [.ref a0, .int p1, .int p2, .int p3, .int p4] s) (F0 m 74 ls [.ref w0]) := by
    intro v0 v2 v3 v4 w0 τ hf _ _ hJ ls hl
    unfold f_X12_at_D74 at hf
    refine lv_iconst (v := 2) hx hb dX12_at_74 (by decide) ?_
    refine lv_goto (tgt := 79) hx hb dX12_at_75 (by decide) ?_
    exact D79 v0 v2 v3 v4 (2 : Int32) w0 τ hf _ _ hJ ls (lv_sub hl [0, 1, 2, 3] rfl)
  have D38 : ∀ (v0 : Nat) (v1 : Int32) (v2 : Int32) (v3 : Int32) (v4 : Int32) (w0 : Int32) (τ : mx_S), f_X12_at_D38 P v0 v1 v2 v3 v4 w0 τ = some (r, σ') → ∀ (H : Heap) (locs : List Loc), mx_J G P s.heap (mxz σ) (mxu σ) τ H locs → ∀ ls : Array Slot, lv_has ls 6 [(0, .ref v0), (1, .int v1), (2, .int v2), (3, .int v3), (4, .int v4)] → W p l e (mx_rm P 7 182 σ) s m ([.ref a0, .int p1, .int p2, .int p3, .int p4] : List Value).toArray below meth c H locs (mxz τ - mxz σ) (mxu τ - mxu σ) (mx_Z below G P (some (.long r)) σ σ' [.ref a0, .int p1, .int p2, .int p3, .int p4] s) (F0 m 38 ls [.int w0]) := by
    intro v0 v1 v2 v3 v4 w0 τ hf _ _ hJ ls hl
    unfold f_X12_at_D38 at hf
    refine lv_istore (lv' := [(5, .int w0), (0, .ref v0), (1, .int v1), (2, .int v2), (3, .int v3), (4, .int v4)]) hx hb dX12_at_38 hl (by decide) rfl (fun ls hl => ?_)
    refine lv_aload_n hx hb dX12_at_40 rfl (lv_at hl 1 rfl) ?_
    refine lv_iload hx hb dX12_at_41 (lv_at hl 0 rfl) ?_
    refine lv_if_ne (tgt := 50) hx hb dX12_at_43 (by decide) (fun c5 => ?_) (fun c5 => ?_)
    · rw [if_neg c5] at hf
      refine lv_aload_n hx hb dX12_at_50 rfl (lv_at hl 1 rfl) ?_
      refine lv_iload_n hx hb dX12_at_51 rfl (lv_at hl 3 rfl) ?_
      obtain ⟨i6, e7, hf⟩ := mb0 hf
      obtain ⟨x9, σ8, e10, hf⟩ := mc0 hf
      refine mx_callV (As := [.int v2]) (rest := [.ref v0]) hx hb hml hts hown hK hJ rfl rfl (ci := 12) rfl e7 (c_X12_isPoint l G P v0 v2 τ x9 σ8 e10) me_X12_isPoint kw_2498 ks_130 kw_2496 (Nat.le_of_ble_eq_true rfl) (Nat.le_of_ble_eq_true rfl) rfl hl.1 rfl (Nat.le_of_ble_eq_true rfl) dX12_at_52 (fun H locs hJ => ?_)
      refine lv_if_eq (tgt := 74) hx hb dX12_at_55 (by decide) (fun c11 => ?_) (fun c11 => ?_)
      · rw [if_pos c11] at hf
        exact D74 v0 v2 v3 v4 v0 σ8 hf _ _ hJ ls (lv_sub hl [1, 3, 4, 5] rfl)
      · rw [if_neg c11] at hf
        refine lv_aload_n hx hb dX12_at_58 rfl (lv_at hl 1 rfl) ?_
        refine lv_iload_n hx hb dX12_at_59 rfl (lv_at hl 2 rfl) ?_
        obtain ⟨i22, e23, hf⟩ := mb0 hf
        obtain ⟨x25, σ24, e26, hf⟩ := mc0 hf
        refine mx_callV (As := [.int v1]) (rest := [.ref v0]) hx hb hml hts hown hK hJ rfl rfl (ci := 12) rfl e23 (c_X12_worked l G P v0 v1 σ8 x25 σ24 e26) me_X12_worked kw_2362 ks_103 kw_2360 (Nat.le_of_ble_eq_true rfl) (Nat.le_of_ble_eq_true rfl) rfl hl.1 rfl (Nat.le_of_ble_eq_true rfl) dX12_at_60 (fun H locs hJ => ?_)
        refine lv_if_eq (tgt := 74) hx hb dX12_at_63 (by decide) (fun c27 => ?_) (fun c27 => ?_)
        · rw [if_pos c27] at hf
          exact D74 v0 v2 v3 v4 v0 σ24 hf _ _ hJ ls (lv_sub hl [1, 3, 4, 5] rfl)
        · rw [if_neg c27] at hf
          refine lv_aload_n hx hb dX12_at_66 rfl (lv_at hl 1 rfl) ?_
          refine lv_iload_n hx hb dX12_at_67 rfl (lv_at hl 3 rfl) ?_
          obtain ⟨i28, e29, hf⟩ := mb0 hf
          obtain ⟨x31, σ30, e32, hf⟩ := mc0 hf
          refine mx_callV (As := [.int v2]) (rest := [.ref v0]) hx hb hml hts hown hK hJ rfl rfl (ci := 12) rfl e29 (c_X12_isOpen l G P v0 v2 σ24 x31 σ30 e32) me_X12_isOpen kw_2485 ks_129 kw_2483 (Nat.le_of_ble_eq_true rfl) (Nat.le_of_ble_eq_true rfl) rfl hl.1 rfl (Nat.le_of_ble_eq_true rfl) dX12_at_68 (fun H locs hJ => ?_)
          refine lv_if_eq (tgt := 78) hx hb dX12_at_71 (by decide) (fun c33 => ?_) (fun c33 => ?_)
          · rw [if_pos c33] at hf
            refine lv_iconst (v := 0) hx hb dX12_at_78 (by decide) ?_
            exact D79 v0 v2 v3 v4 (0 : Int32) v0 σ30 hf _ _ hJ ls (lv_sub hl [1, 3, 4, 5] rfl)
          · rw [if_neg c33] at hf
            exact D74 v0 v2 v3 v4 v0 σ30 hf _ _ hJ ls (lv_sub hl [1, 3, 4, 5] rfl)
    · rw [if_pos c5] at hf
      refine lv_iconst (v := 1) hx hb dX12_at_46 (by decide) ?_
      refine lv_goto (tgt := 79) hx hb dX12_at_47 (by decide) ?_
      exact D79 v0 v2 v3 v4 (1 : Int32) v0 τ hf _ _ hJ ls (lv_sub hl [1, 3, 4, 5] rfl)
  have D37 : ∀ (v0 : Nat) (v1 : Int32) (v2 : Int32) (v3 : Int32) (v4 : Int32) (τ : mx_S), f_X12_at_D37 P v0 v1 v2 v3 v4 τ = some (r, σ') → ∀ (H : Heap) (locs : List Loc), mx_J G P s.heap (mxz σ) (mxu σ) τ H locs → ∀ ls : Array Slot, lv_has ls 6 [(0, .ref v0), (1, .int v1), (2, .int v2), (3, .int v3), (4, .int v4)] → W p l e (mx_rm P 7 182 σ) s m ([.ref a0, .int p1, .int p2, .int p3, .int p4] : List Value).toArray below meth c H locs (mxz τ - mxz σ) (mxu τ - mxu σ) (mx_Z below G P (some (.long r)) σ σ' [.ref a0, .int p1, .int p2, .int p3, .int p4] s) (F0 m 37 ls []) := by
    intro v0 v1 v2 v3 v4 τ hf _ _ hJ ls hl
    unfold f_X12_at_D37 at hf
    refine lv_iconst (v := 0) hx hb dX12_at_37 (by decide) ?_
    exact D38 v0 v1 v2 v3 v4 (0 : Int32) τ hf _ _ hJ ls (lv_sub hl [0, 1, 2, 3, 4] rfl)
  unfold f_X12_at at hf
  refine lv_iload_n hx hb dX12_at_0 rfl (lv_at hl 1 rfl) ?_
  refine lv_i2l hx hb dX12_at_1 rfl ?_
  refine lv_lconst (v := 0) hx hb dX12_at_2 (by decide) ?_
  refine lv_ldc2 hx hb hown (hts _ kw_2495) dX12_at_3 ?_
  obtain ⟨x2, σ1, e3, hf⟩ := mc0 hf
  refine mx_callS (As := [.long (p1.toInt64), .long (0 : Int64), .long (255 : Int64)]) (rest := []) hx hb hml hts hown hK hJ rfl rfl (c_X12_in l G P (p1.toInt64) (0 : Int64) (255 : Int64) σ x2 σ1 e3) me_X12_in kw_2223 kw_2222 (Nat.le_of_ble_eq_true rfl) (Nat.le_of_ble_eq_true rfl) rfl hl.1 rfl (Nat.le_of_ble_eq_true rfl) dX12_at_6 (fun H locs hJ => ?_)
  refine lv_if_eq (tgt := 37) hx hb dX12_at_9 (by decide) (fun c4 => ?_) (fun c4 => ?_)
  · rw [if_pos c4] at hf
    exact D37 a0 p1 p2 p3 p4 σ1 hf _ _ hJ ls (lv_sub hl [0, 1, 2, 3, 4] rfl)
  · rw [if_neg c4] at hf
    refine lv_iload_n hx hb dX12_at_12 rfl (lv_at hl 3 rfl) ?_
    refine lv_i2l hx hb dX12_at_13 rfl ?_
    refine lv_lconst (v := 0) hx hb dX12_at_14 (by decide) ?_
    refine lv_lconst (v := 1) hx hb dX12_at_15 (by decide) ?_
    obtain ⟨x35, σ34, e36, hf⟩ := mc0 hf
    refine mx_callS (As := [.long (p3.toInt64), .long (0 : Int64), .long (1 : Int64)]) (rest := []) hx hb hml hts hown hK hJ rfl rfl (c_X12_in l G P (p3.toInt64) (0 : Int64) (1 : Int64) σ1 x35 σ34 e36) me_X12_in kw_2223 kw_2222 (Nat.le_of_ble_eq_true rfl) (Nat.le_of_ble_eq_true rfl) rfl hl.1 rfl (Nat.le_of_ble_eq_true rfl) dX12_at_16 (fun H locs hJ => ?_)
    refine lv_if_eq (tgt := 37) hx hb dX12_at_19 (by decide) (fun c37 => ?_) (fun c37 => ?_)
    · rw [if_pos c37] at hf
      exact D37 a0 p1 p2 p3 p4 σ34 hf _ _ hJ ls (lv_sub hl [0, 1, 2, 3, 4] rfl)
    · rw [if_neg c37] at hf
      refine lv_iload hx hb dX12_at_22 (lv_at hl 4 rfl) ?_
      refine lv_i2l hx hb dX12_at_24 rfl ?_
      refine lv_lconst (v := 0) hx hb dX12_at_25 (by decide) ?_
      refine lv_lconst (v := 1) hx hb dX12_at_26 (by decide) ?_
      obtain ⟨x39, σ38, e40, hf⟩ := mc0 hf
      refine mx_callS (As := [.long (p4.toInt64), .long (0 : Int64), .long (1 : Int64)]) (rest := []) hx hb hml hts hown hK hJ rfl rfl (c_X12_in l G P (p4.toInt64) (0 : Int64) (1 : Int64) σ34 x39 σ38 e40) me_X12_in kw_2223 kw_2222 (Nat.le_of_ble_eq_true rfl) (Nat.le_of_ble_eq_true rfl) rfl hl.1 rfl (Nat.le_of_ble_eq_true rfl) dX12_at_27 (fun H locs hJ => ?_)
      refine lv_if_eq (tgt := 37) hx hb dX12_at_30 (by decide) (fun c41 => ?_) (fun c41 => ?_)
      · rw [if_pos c41] at hf
        exact D37 a0 p1 p2 p3 p4 σ38 hf _ _ hJ ls (lv_sub hl [0, 1, 2, 3, 4] rfl)
      · rw [if_neg c41] at hf
        refine lv_iconst (v := 1) hx hb dX12_at_33 (by decide) ?_
        refine lv_goto (tgt := 38) hx hb dX12_at_34 (by decide) ?_
        exact D38 a0 p1 p2 p3 p4 (1 : Int32) σ38 hf _ _ hJ ls (lv_sub hl [0, 1, 2, 3, 4] rfl)
set_option maxHeartbeats 4000000 in
set_option maxRecDepth 100000 in
theorem c_X12_isWay (l : Launch) (G : mx_G) (P : mx_P) (a0 : Nat) (p1 : Int32) (p2 : Int32) (σ : mx_S) (r : Int32) (σ' : mx_S) (hf : f_X12_isWay P a0 p1 p2 σ = some (r, σ')) : mxz σ ≤ mpc P → mxu σ ≤ mps P → mx_M l yX12_isWay cX12_isWay 3 (some .boolean) 1 25 G P [.ref a0, .int p1, .int p2] σ (some (.int r)) σ' := by
  intro hcap hcau
  refine mx_ofW (by decide +kernel) hcap hcau (Nat.le_of_ble_eq_true rfl) ?_
  intro p e s m below meth c hx hb hr hml hts hown hlocks hname hK hJ ls hl
  have hz0 := hJ.2.1
  have hown : s.vm.findClass RX12 = some m.cls := hown
  have hl : lv_has ls 3 [(0, .ref a0), (1, .int p1), (2, .int p2)] := hl
  have D29 : ∀ (w0 : Int32) (τ : mx_S), f_X12_isWay_D29 P w0 τ = some (r, σ') → ∀ (H : Heap) (locs : List Loc), mx_J G P s.heap (mxz σ) (mxu σ) τ H locs → ∀ ls : Array Slot, lv_has ls 3 [] → W p l e (mx_rm P 1 25 σ) s m ([.ref a0, .int p1, .int p2] : List Value).toArray below meth c H locs (mxz τ - mxz σ) (mxu τ - mxu σ) (mx_Z below G P (some (.int r)) σ σ' [.ref a0, .int p1, .int p2] s) (F0 m 29 ls [.int w0]) := by
    intro w0 τ hf _ _ hJ ls hl
    unfold f_X12_isWay_D29 at hf
    exact mx_zret hx hb hr hlocks hJ hf dX12_isWay_29
  have D28 : ∀  (τ : mx_S), f_X12_isWay_D28 P  τ = some (r, σ') → ∀ (H : Heap) (locs : List Loc), mx_J G P s.heap (mxz σ) (mxu σ) τ H locs → ∀ ls : Array Slot, lv_has ls 3 [] → W p l e (mx_rm P 1 25 σ) s m ([.ref a0, .int p1, .int p2] : List Value).toArray below meth c H locs (mxz τ - mxz σ) (mxu τ - mxu σ) (mx_Z below G P (some (.int r)) σ σ' [.ref a0, .int p1, .int p2] s) (F0 m 28 ls []) := by
    intro  τ hf _ _ hJ ls hl
    unfold f_X12_isWay_D28 at hf
    refine lv_iconst (v := 0) hx hb dX12_isWay_28 (by decide) ?_
    exact D29 (0 : Int32) τ hf _ _ hJ ls (lv_sub hl [] rfl)
  unfold f_X12_isWay at hf
  refine lv_iload_n hx hb dX12_isWay_0 rfl (lv_at hl 1 rfl) ?_
  refine lv_i2l hx hb dX12_isWay_1 rfl ?_
  refine lv_lconst (v := 0) hx hb dX12_isWay_2 (by decide) ?_
  refine lv_ldc2 hx hb hown (hts _ kw_2495) dX12_isWay_3 ?_
  obtain ⟨x2, σ1, e3, hf⟩ := mc0 hf
  refine mx_callS (As := [.long (p1.toInt64), .long (0 : Int64), .long (255 : Int64)]) (rest := []) hx hb hml hts hown hK hJ rfl rfl (c_X12_in l G P (p1.toInt64) (0 : Int64) (255 : Int64) σ x2 σ1 e3) me_X12_in kw_2223 kw_2222 (Nat.le_of_ble_eq_true rfl) (Nat.le_of_ble_eq_true rfl) rfl hl.1 rfl (Nat.le_of_ble_eq_true rfl) dX12_isWay_6 (fun H locs hJ => ?_)
  refine lv_if_eq (tgt := 28) hx hb dX12_isWay_9 (by decide) (fun c4 => ?_) (fun c4 => ?_)
  · rw [if_pos c4] at hf
    exact D28  σ1 hf _ _ hJ ls (lv_sub hl [] rfl)
  · rw [if_neg c4] at hf
    refine lv_iload_n hx hb dX12_isWay_12 rfl (lv_at hl 2 rfl) ?_
    refine lv_i2l hx hb dX12_isWay_13 rfl ?_
    refine lv_lconst (v := 0) hx hb dX12_isWay_14 (by decide) ?_
    refine lv_ldc2 hx hb hown (hts _ kw_2354) dX12_isWay_15 ?_
    obtain ⟨x6, σ5, e7, hf⟩ := mc0 hf
    refine mx_callS (As := [.long (p2.toInt64), .long (0 : Int64), .long (3 : Int64)]) (rest := []) hx hb hml hts hown hK hJ rfl rfl (c_X12_in l G P (p2.toInt64) (0 : Int64) (3 : Int64) σ1 x6 σ5 e7) me_X12_in kw_2223 kw_2222 (Nat.le_of_ble_eq_true rfl) (Nat.le_of_ble_eq_true rfl) rfl hl.1 rfl (Nat.le_of_ble_eq_true rfl) dX12_isWay_18 (fun H locs hJ => ?_)
    refine lv_if_eq (tgt := 28) hx hb dX12_isWay_21 (by decide) (fun c8 => ?_) (fun c8 => ?_)
    · rw [if_pos c8] at hf
      exact D28  σ5 hf _ _ hJ ls (lv_sub hl [] rfl)
    · rw [if_neg c8] at hf
      refine lv_iconst (v := 1) hx hb dX12_isWay_24 (by decide) ?_
      refine lv_goto (tgt := 29) hx hb dX12_isWay_25 (by decide) ?_
      exact D29 (1 : Int32) σ5 hf _ _ hJ ls (lv_sub hl [] rfl)
set_option maxHeartbeats 4000000 in
set_option maxRecDepth 100000 in
theorem c_X12_step (l : Launch) (G : mx_G) (P : mx_P) (a0 : Nat) (p1 : Int32) (p2 : Int32) (p3 : Int32) (σ : mx_S) (r : Int32) (σ' : mx_S) (hf : f_X12_step P a0 p1 p2 p3 σ = some (r, σ')) : mxz σ ≤ mpc P → mxu σ ≤ mps P → mx_M l yX12_step cX12_step 7 (some .int) 7 182 G P [.ref a0, .int p1, .int p2, .int p3] σ (some (.int r)) σ' := by
  intro hcap hcau
  refine mx_ofW (by decide +kernel) hcap hcau (Nat.le_of_ble_eq_true rfl) ?_
  intro p e s m below meth c hx hb hr hml hts hown hlocks hname hK hJ ls hl
  have hz0 := hJ.2.1
  have hown : s.vm.findClass RX12 = some m.cls := hown
  have hl : lv_has ls 7 [(0, .ref a0), (1, .int p1), (2, .int p2), (3, .int p3)] := hl
  have B68 : ∀ (v0 : Nat) (v1 : Int32) (v2 : Int32) (v3 : Int32) (v4 : Int32) (v5 : Int32) (τ : mx_S) (o : (Int32 × mx_S) ⊕ ((Int32 × mx_S) ⊕ (mx_S))), f_X12_step_B68 P v0 v1 v2 v3 v4 v5 τ = some o → (∀ (y5 : Int32) (υ : mx_S), o = .inl (y5, υ) → ∀ (H : Heap) (locs : List Loc), mx_J G P s.heap (mxz σ) (mxu σ) υ H locs → ∀ ls : Array Slot, lv_has ls 7 [(0, .ref v0), (1, .int v1), (2, .int v2), (3, .int v3), (4, .int v4), (5, .int y5)] → W p l e (mx_rm P 7 182 σ) s m ([.ref a0, .int p1, .int p2, .int p3] : List Value).toArray below meth c H locs (mxz υ - mxz σ) (mxu υ - mxu σ) (mx_Z below G P (some (.int r)) σ σ' [.ref a0, .int p1, .int p2, .int p3] s) (F0 m 68 ls [])) → (∀ (y6 : Int32) (υ : mx_S), o = .inr (.inl (y6, υ)) → ∀ (H : Heap) (locs : List Loc), mx_J G P s.heap (mxz σ) (mxu σ) υ H locs → ∀ ls : Array Slot, lv_has ls 7 [(0, .ref v0), (2, .int v2), (6, .int y6)] → W p l e (mx_rm P 7 182 σ) s m ([.ref a0, .int p1, .int p2, .int p3] : List Value).toArray below meth c H locs (mxz υ - mxz σ) (mxu υ - mxu σ) (mx_Z below G P (some (.int r)) σ σ' [.ref a0, .int p1, .int p2, .int p3] s) (F0 m 109 ls [])) → (∀  (υ : mx_S), o = .inr (.inr υ) → ∀ (H : Heap) (locs : List Loc), mx_J G P s.heap (mxz σ) (mxu σ) υ H locs → ∀ ls : Array Slot, lv_has ls 7 [(0, .ref v0), (2, .int v2)] → W p l e (mx_rm P 7 182 σ) s m ([.ref a0, .int p1, .int p2, .int p3] : List Value).toArray below meth c H locs (mxz υ - mxz σ) (mxu υ - mxu σ) (mx_Z below G P (some (.int r)) σ σ' [.ref a0, .int p1, .int p2, .int p3] s) (F0 m 130 ls [])) → ∀ (H : Heap) (locs : List Loc), mx_J G P s.heap (mxz σ) (mxu σ) τ H locs → ∀ ls : Array Slot, lv_has ls 7 [(0, .ref v0), (1, .int v1), (2, .int v2), (3, .int v3), (4, .int v4), (5, .int v5)] → W p l e (mx_rm P 7 182 σ) s m ([.ref a0, .int p1, .int p2, .int p3] : List Value).toArray below meth c H locs (mxz τ - mxz σ) (mxu τ - mxu σ) (mx_Z below G P (some (.int r)) σ σ' [.ref a0, .int p1, .int p2, .int p3] s) (F0 m 68 ls []) := by
    intro v0 v1 v2 v3 v4 v5 τ o hf Kb Ke0 Ke1 H locs hJ ls hl
    unfold f_X12_step_B68 at hf
    refine lv_iload hx hb dX12_step_68 (lv_at hl 5 rfl) ?_
    refine lv_iload_n hx hb dX12_step_70 rfl (lv_at hl 3 rfl) ?_
    refine lv_icmp_eq (tgt := 130) hx hb dX12_step_71 (by decide) (fun c13 => ?_) (fun c13 => ?_)
    · rw [if_pos c13] at hf
      exact Ke1 τ (Option.some.inj hf).symm _ _ hJ ls (lv_sub hl [0, 2] rfl)
    · rw [if_neg c13] at hf
      refine lv_aload_n hx hb dX12_step_74 rfl (lv_at hl 0 rfl) ?_
      obtain ⟨b14, e15, hf⟩ := mb0 hf
      refine my_gR hx hb hts hown hK hJ fd_RX12_63 hv_12_34 e15 dX12_step_75 ?_
      refine lv_iload_n hx hb dX12_step_78 rfl (lv_at hl 2 rfl) ?_
      obtain ⟨x16, e17, hf⟩ := mb0 hf
      refine mx_aI hx hb hK hJ e17 dX12_step_79 ?_
      refine lv_istore (lv' := [(6, .int x16), (0, .ref v0), (1, .int v1), (2, .int v2), (3, .int v3), (4, .int v4), (5, .int v5)]) hx hb dX12_step_80 hl (by decide) rfl (fun ls hl => ?_)
      refine lv_aload_n hx hb dX12_step_82 rfl (lv_at hl 1 rfl) ?_
      obtain ⟨b18, e19, hf⟩ := mb0 hf
      refine my_gR hx hb hts hown hK hJ fd_RX12_63 hv_12_34 e19 dX12_step_83 ?_
      refine lv_iload_n hx hb dX12_step_86 rfl (lv_at hl 3 rfl) ?_
      refine lv_iload hx hb dX12_step_87 (lv_at hl 0 rfl) ?_
      refine lv_iload hx hb dX12_step_89 (lv_at hl 5 rfl) ?_
      refine lv_iadd hx hb dX12_step_91 ?_
      refine lv_sipush (v := 1023) hx hb dX12_step_92 (by decide) ?_
      refine lv_iand hx hb dX12_step_95 ?_
      obtain ⟨σ20, e21, hf⟩ := mb0 hf
      refine mx_sI hx hb hK hJ e21 dX12_step_96 (fun H locs hJ => ?_)
      refine lv_aload_n hx hb dX12_step_97 rfl (lv_at hl 1 rfl) ?_
      refine lv_iload_n hx hb dX12_step_98 rfl (lv_at hl 2 rfl) ?_
      obtain ⟨i22, e23, hf⟩ := mb0 hf
      obtain ⟨x25, σ24, e26, hf⟩ := mc0 hf
      refine mx_callV (As := [.int v1]) (rest := []) hx hb hml hts hown hK hJ rfl rfl (ci := 12) rfl e23 (c_X12_worked l G P v0 v1 σ20 x25 σ24 e26) me_X12_worked kw_2362 ks_103 kw_2360 (Nat.le_of_ble_eq_true rfl) (Nat.le_of_ble_eq_true rfl) rfl hl.1 rfl (Nat.le_of_ble_eq_true rfl) dX12_step_99 (fun H locs hJ => ?_)
      refine lv_iconst (v := 1) hx hb dX12_step_102 (by decide) ?_
      refine lv_icmp_ne (tgt := 109) hx hb dX12_step_103 (by decide) (fun c27 => ?_) (fun c27 => ?_)
      · rw [if_neg c27] at hf
        exact Ke0 x16 σ24 (Option.some.inj hf).symm _ _ hJ ls (lv_sub hl [1, 3, 0] rfl)
      · rw [if_pos c27] at hf
        refine lv_goto (tgt := 120) hx hb dX12_step_106 (by decide) ?_
        refine lv_iload hx hb dX12_step_120 (lv_at hl 6 rfl) ?_
        refine lv_iload hx hb dX12_step_122 (lv_at hl 5 rfl) ?_
        refine lv_iadd hx hb dX12_step_124 ?_
        obtain ⟨x28, e29, hf⟩ := mb0 hf
        refine mx_nI e29 ?_
        refine lv_istore (lv' := [(5, .int x28), (6, .int x16), (0, .ref v0), (1, .int v1), (2, .int v2), (3, .int v3), (4, .int v4)]) hx hb dX12_step_125 hl (by decide) rfl (fun ls hl => ?_)
        refine lv_goto (tgt := 68) hx hb dX12_step_127 (by decide) ?_
        exact Kb x28 σ24 (Option.some.inj hf).symm _ _ hJ ls (lv_sub hl [2, 3, 4, 5, 6, 0] rfl)
  have L68 : ∀ (v0 : Nat) (v1 : Int32) (v2 : Int32) (v3 : Int32) (v4 : Int32) (n : Nat) (v5 : Int32) (τ : mx_S) (o : (Int32 × mx_S) ⊕ (mx_S)), mx_lp (f_X12_step_L68 P v0 v1 v2 v3 v4) n (v5, τ) = some o → (∀ (y6 : Int32) (υ : mx_S), o = (.inl (y6, υ)) → ∀ (H : Heap) (locs : List Loc), mx_J G P s.heap (mxz σ) (mxu σ) υ H locs → ∀ ls : Array Slot, lv_has ls 7 [(0, .ref v0), (2, .int v2), (6, .int y6)] → W p l e (mx_rm P 7 182 σ) s m ([.ref a0, .int p1, .int p2, .int p3] : List Value).toArray below meth c H locs (mxz υ - mxz σ) (mxu υ - mxu σ) (mx_Z below G P (some (.int r)) σ σ' [.ref a0, .int p1, .int p2, .int p3] s) (F0 m 109 ls [])) → (∀  (υ : mx_S), o = (.inr υ) → ∀ (H : Heap) (locs : List Loc), mx_J G P s.heap (mxz σ) (mxu σ) υ H locs → ∀ ls : Array Slot, lv_has ls 7 [(0, .ref v0), (2, .int v2)] → W p l e (mx_rm P 7 182 σ) s m ([.ref a0, .int p1, .int p2, .int p3] : List Value).toArray below meth c H locs (mxz υ - mxz σ) (mxu υ - mxu σ) (mx_Z below G P (some (.int r)) σ σ' [.ref a0, .int p1, .int p2, .int p3] s) (F0 m 130 ls [])) → ∀ (H : Heap) (locs : List Loc), mx_J G P s.heap (mxz σ) (mxu σ) τ H locs → ∀ ls : Array Slot, lv_has ls 7 [(0, .ref v0), (1, .int v1), (2, .int v2), (3, .int v3), (4, .int v4), (5, .int v5)] → W p l e (mx_rm P 7 182 σ) s m ([.ref a0, .int p1, .int p2, .int p3] : List Value).toArray below meth c H locs (mxz τ - mxz σ) (mxu τ - mxu σ) (mx_Z below G P (some (.int r)) σ σ' [.ref a0, .int p1, .int p2, .int p3] s) (F0 m 68 ls []) := by
    intro v0 v1 v2 v3 v4 n
    induction n with
    | zero =>
      intro v5 τ o hf
      rw [mx_lp0] at hf
      cases hf
    | succ n ih =>
      intro v5 τ o hf Ke0 Ke1 H locs hJ ls hl
      rw [mx_lpS] at hf
      obtain ⟨b, eb, hf⟩ := mb0 hf
      refine B68 v0 v1 v2 v3 v4 v5 τ b eb (fun y5 υ ho H locs hJ ls hl => ?_) (fun y6 υ ho H locs hJ ls hl => ?_) (fun  υ ho H locs hJ ls hl => ?_) H locs hJ ls hl
      · subst ho
        exact ih y5 υ o hf Ke0 Ke1 H locs hJ ls hl
      · subst ho
        exact Ke0 y6 υ (Option.some.inj hf).symm _ _ hJ ls hl
      · subst ho
        exact Ke1  υ (Option.some.inj hf).symm _ _ hJ ls hl
  have D63 : ∀ (v0 : Nat) (v1 : Int32) (v2 : Int32) (v3 : Int32) (w0 : Int32) (τ : mx_S), f_X12_step_D63 P v0 v1 v2 v3 w0 τ = some (r, σ') → ∀ (H : Heap) (locs : List Loc), mx_J G P s.heap (mxz σ) (mxu σ) τ H locs → ∀ ls : Array Slot, lv_has ls 7 [(0, .ref v0), (1, .int v1), (2, .int v2), (3, .int v3)] → W p l e (mx_rm P 7 182 σ) s m ([.ref a0, .int p1, .int p2, .int p3] : List Value).toArray below meth c H locs (mxz τ - mxz σ) (mxu τ - mxu σ) (mx_Z below G P (some (.int r)) σ σ' [.ref a0, .int p1, .int p2, .int p3] s) (F0 m 63 ls [.int w0]) := by
    intro v0 v1 v2 v3 w0 τ hf _ _ hJ ls hl
    unfold f_X12_step_D63 at hf
    refine lv_istore (lv' := [(4, .int w0), (0, .ref v0), (1, .int v1), (2, .int v2), (3, .int v3)]) hx hb dX12_step_63 hl (by decide) rfl (fun ls hl => ?_)
    refine lv_iconst (v := 0) hx hb dX12_step_65 (by decide) ?_
    refine lv_istore (lv' := [(5, .int (0 : Int32)), (4, .int w0), (0, .ref v0), (1, .int v1), (2, .int v2), (3, .int v3)]) hx hb dX12_step_66 hl (by decide) rfl (fun ls hl => ?_)
    obtain ⟨o30, e31, hf⟩ := mb0 hf
    refine L68 v0 v1 v2 v3 w0 (mpN P) (0 : Int32) τ o30 e31 (fun y32 σ33 ho H locs hJ ls hl => ?_) (fun σ38 ho H locs hJ ls hl => ?_) _ _ hJ ls (lv_sub hl [2, 3, 4, 5, 1, 0] rfl)
    · rw [ho] at hf
      have hf : ((mg_R σ33 v0 12 34).bind fun b34 => (ms_I P σ33 b34 0 v2 y32).bind fun σ36 => some (y32, σ36)) = some (r, σ') := hf
      refine lv_aload_n hx hb dX12_step_109 rfl (lv_at hl 0 rfl) ?_
      obtain ⟨b34, e35, hf⟩ := mb0 hf
      refine my_gR hx hb hts hown hK hJ fd_RX12_63 hv_12_34 e35 dX12_step_110 ?_
      refine lv_iload_n hx hb dX12_step_113 rfl (lv_at hl 1 rfl) ?_
      refine lv_iload hx hb dX12_step_114 (lv_at hl 2 rfl) ?_
      obtain ⟨σ36, e37, hf⟩ := mb0 hf
      refine mx_sI hx hb hK hJ e37 dX12_step_116 (fun H locs hJ => ?_)
      refine lv_iload hx hb dX12_step_117 (lv_at hl 2 rfl) ?_
      exact my_iret hx hb hr hlocks hJ hf dX12_step_119
    · rw [ho] at hf
      have hf : ((mg_R σ38 v0 12 34).bind fun b39 => (ma_I σ38 b39 0 v2).bind fun x41 => some (x41, σ38)) = some (r, σ') := hf
      refine lv_aload_n hx hb dX12_step_130 rfl (lv_at hl 0 rfl) ?_
      obtain ⟨b39, e40, hf⟩ := mb0 hf
      refine my_gR hx hb hts hown hK hJ fd_RX12_63 hv_12_34 e40 dX12_step_131 ?_
      refine lv_iload_n hx hb dX12_step_134 rfl (lv_at hl 1 rfl) ?_
      obtain ⟨x41, e42, hf⟩ := mb0 hf
      refine mx_aI hx hb hK hJ e42 dX12_step_135 ?_
      exact my_iret hx hb hr hlocks hJ hf dX12_step_136
  have D42 : ∀ (v0 : Nat) (v1 : Int32) (v2 : Int32) (v3 : Int32) (w0 : Int32) (w1 : Nat) (τ : mx_S), f_X12_step_D42 P v0 v1 v2 v3 w0 w1 τ = some (r, σ') → ∀ (H : Heap) (locs : List Loc), mx_J G P s.heap (mxz σ) (mxu σ) τ H locs → ∀ ls : Array Slot, lv_has ls 7 [(0, .ref v0), (1, .int v1), (2, .int v2), (3, .int v3)] → W p l e (mx_rm P 7 182 σ) s m ([.ref a0, .int p1, .int p2, .int p3] : List Value).toArray below meth c H locs (mxz τ - mxz σ) (mxu τ - mxu σ) (mx_Z below G P (some (.int r)) σ σ' [.ref a0, .int p1, .int p2, .int p3] s) (F0 m 42 ls [.int w0, .ref w1]) := by
    intro v0 v1 v2 v3 w0 w1 τ hf _ _ hJ ls hl
    unfold f_X12_step_D42 at hf
    obtain ⟨σ7, e8, hf⟩ := mb0 hf
    refine my_pI hx hb hts hown hK hJ fd_RX12_243 cd_12 (Or.inl rfl) ht_12_0 e8 dX12_step_42 (fun H locs hJ => ?_)
    refine lv_aload_n hx hb dX12_step_45 rfl (lv_at hl 0 rfl) ?_
    obtain ⟨x9, e10, hf⟩ := mb0 hf
    refine my_gI hx hb hts hown hK hJ fd_RX12_243 hv_12_0 e10 dX12_step_46 ?_
    refine lv_if_le (tgt := 54) hx hb dX12_step_49 (by decide) (fun c11 => ?_) (fun c11 => ?_)
    · rw [if_pos c11] at hf
      refine lv_iload_n hx hb dX12_step_54 rfl (lv_at hl 3 rfl) ?_
      refine lv_if_ge (tgt := 62) hx hb dX12_step_55 (by decide) (fun c12 => ?_) (fun c12 => ?_)
      · rw [if_pos c12] at hf
        refine lv_iconst (v := 1) hx hb dX12_step_62 (by decide) ?_
        exact D63 v0 v1 v2 v3 (1 : Int32) σ7 hf _ _ hJ ls (lv_sub hl [0, 1, 2, 3] rfl)
      · rw [if_neg c12] at hf
        refine lv_iconst (v := (-1)) hx hb dX12_step_58 (by decide) ?_
        refine lv_goto (tgt := 63) hx hb dX12_step_59 (by decide) ?_
        exact D63 v0 v1 v2 v3 (-1 : Int32) σ7 hf _ _ hJ ls (lv_sub hl [0, 1, 2, 3] rfl)
    · rw [if_neg c11] at hf
      refine lv_iconst (v := 0) hx hb dX12_step_52 (by decide) ?_
      exact my_iret hx hb hr hlocks hJ hf dX12_step_53
  have D24 : ∀ (v0 : Nat) (v1 : Int32) (v2 : Int32) (v3 : Int32) (w0 : Nat) (τ : mx_S), f_X12_step_D24 P v0 v1 v2 v3 w0 τ = some (r, σ') → ∀ (H : Heap) (locs : List Loc), mx_J G P s.heap (mxz σ) (mxu σ) τ H locs → ∀ ls : Array Slot, lv_has ls 7 [(0, .ref v0), (1, .int v1), (2, .int v2), (3, .int v3)] → W p l e (mx_rm P 7 182 σ) s m ([.ref a0, .int p1, .int p2, .int p3] : List Value).toArray below meth c H locs (mxz τ - mxz σ) (mxu τ - mxu σ) (mx_Z below G P (some (.int r)) σ σ' [.ref a0, .int p1, .int p2, .int p3] s) (F0 m 24 ls [.ref w0]) := by
    intro v0 v1 v2 v3 w0 τ hf _ _ hJ ls hl
    unfold f_X12_step_D24 at hf
    refine lv_iconst (v := 1) hx hb dX12_step_24 (by decide) ?_
    refine lv_goto (tgt := 42) hx hb dX12_step_25 (by decide) ?_
    exact D42 v0 v1 v2 v3 (1 : Int32) w0 τ hf _ _ hJ ls (lv_sub hl [0, 1, 2, 3] rfl)
  unfold f_X12_step at hf
  refine lv_aload_n hx hb dX12_step_0 rfl (lv_at hl 0 rfl) ?_
  refine lv_aload_n hx hb dX12_step_1 rfl (lv_at hl 0 rfl) ?_
  refine lv_iload_n hx hb dX12_step_2 rfl (lv_at hl 1 rfl) ?_
  refine lv_iload_n hx hb dX12_step_3 rfl (lv_at hl 2 rfl) ?_
  obtain ⟨i1, e2, hf⟩ := mb0 hf
  obtain ⟨x4, σ3, e5, hf⟩ := mc0 hf
  refine mx_callV (As := [.int p1, .int p2]) (rest := [.ref a0]) hx hb hml hts hown hK hJ rfl rfl (ci := 12) rfl e2 (c_X12_isWay l G P a0 p1 p2 σ x4 σ3 e5) me_X12_isWay kw_2510 ks_132 kw_2508 (Nat.le_of_ble_eq_true rfl) (Nat.le_of_ble_eq_true rfl) rfl hl.1 rfl (Nat.le_of_ble_eq_true rfl) dX12_step_4 (fun H locs hJ => ?_)
  refine lv_if_eq (tgt := 24) hx hb dX12_step_7 (by decide) (fun c6 => ?_) (fun c6 => ?_)
  · rw [if_pos c6] at hf
    exact D24 a0 p1 p2 p3 a0 σ3 hf _ _ hJ ls (lv_sub hl [0, 1, 2, 3] rfl)
  · rw [if_neg c6] at hf
    refine lv_iload_n hx hb dX12_step_10 rfl (lv_at hl 3 rfl) ?_
    refine lv_i2l hx hb dX12_step_11 rfl ?_
    refine lv_ldc2 hx hb hown (hts _ kw_2512) dX12_step_12 ?_
    refine lv_ldc2 hx hb hown (hts _ kw_2355) dX12_step_15 ?_
    obtain ⟨x44, σ43, e45, hf⟩ := mc0 hf
    refine mx_callS (As := [.long (p3.toInt64), .long (-1023 : Int64), .long (1023 : Int64)]) (rest := [.ref a0]) hx hb hml hts hown hK hJ rfl rfl (c_X12_in l G P (p3.toInt64) (-1023 : Int64) (1023 : Int64) σ3 x44 σ43 e45) me_X12_in kw_2223 kw_2222 (Nat.le_of_ble_eq_true rfl) (Nat.le_of_ble_eq_true rfl) rfl hl.1 rfl (Nat.le_of_ble_eq_true rfl) dX12_step_18 (fun H locs hJ => ?_)
    refine lv_if_ne (tgt := 28) hx hb dX12_step_21 (by decide) (fun c46 => ?_) (fun c46 => ?_)
    · rw [if_neg c46] at hf
      refine lv_aload_n hx hb dX12_step_28 rfl (lv_at hl 0 rfl) ?_
      refine lv_iload_n hx hb dX12_step_29 rfl (lv_at hl 1 rfl) ?_
      obtain ⟨i47, e48, hf⟩ := mb0 hf
      obtain ⟨x50, σ49, e51, hf⟩ := mc0 hf
      refine mx_callV (As := [.int p1]) (rest := [.ref a0]) hx hb hml hts hown hK hJ rfl rfl (ci := 12) rfl e48 (c_X12_worked l G P a0 p1 σ43 x50 σ49 e51) me_X12_worked kw_2362 ks_103 kw_2360 (Nat.le_of_ble_eq_true rfl) (Nat.le_of_ble_eq_true rfl) rfl hl.1 rfl (Nat.le_of_ble_eq_true rfl) dX12_step_30 (fun H locs hJ => ?_)
      refine lv_iconst (v := 1) hx hb dX12_step_33 (by decide) ?_
      refine lv_icmp_eq (tgt := 41) hx hb dX12_step_34 (by decide) (fun c52 => ?_) (fun c52 => ?_)
      · rw [if_pos c52] at hf
        refine lv_iconst (v := 0) hx hb dX12_step_41 (by decide) ?_
        exact D42 a0 p1 p2 p3 (0 : Int32) a0 σ49 hf _ _ hJ ls (lv_sub hl [0, 1, 2, 3] rfl)
      · rw [if_neg c52] at hf
        refine lv_iconst (v := 2) hx hb dX12_step_37 (by decide) ?_
        refine lv_goto (tgt := 42) hx hb dX12_step_38 (by decide) ?_
        exact D42 a0 p1 p2 p3 (2 : Int32) a0 σ49 hf _ _ hJ ls (lv_sub hl [0, 1, 2, 3] rfl)
    · rw [if_pos c46] at hf
      exact D24 a0 p1 p2 p3 a0 σ43 hf _ _ hJ ls (lv_sub hl [0, 1, 2, 3] rfl)
set_option maxHeartbeats 4000000 in
set_option maxRecDepth 100000 in
theorem c_X12_sweep (l : Launch) (G : mx_G) (P : mx_P) (a0 : Nat) (p1 : Int32) (p2 : Int32) (σ : mx_S) (r : Int32) (σ' : mx_S) (hf : f_X12_sweep P a0 p1 p2 σ = some (r, σ')) : mxz σ ≤ mpc P → mxu σ ≤ mps P → mx_M l yX12_sweep cX12_sweep 6 (some .int) 7 182 G P [.ref a0, .int p1, .int p2] σ (some (.int r)) σ' := by
  intro hcap hcau
  refine mx_ofW (by decide +kernel) hcap hcau (Nat.le_of_ble_eq_true rfl) ?_
  intro p e s m below meth c hx hb hr hml hts hown hlocks hname hK hJ ls hl
  have hz0 := hJ.2.1
  have hown : s.vm.findClass RX12 = some m.cls := hown
  have hl : lv_has ls 6 [(0, .ref a0), (1, .int p1), (2, .int p2)] := hl
  have D69_13 : ∀ (v0 : Nat) (v1 : Int32) (v2 : Int32) (v3 : Int32) (v5 : Int32) (w0 : Int32) (τ : mx_S) (o : (Int32 × Int32 × mx_S) ⊕ ((Int32 × mx_S))), f_X12_sweep_D69_13 P v0 v1 v2 v3 v5 w0 τ = some o → (∀ (y4 : Int32) (y5 : Int32) (υ : mx_S), o = .inl (y4, y5, υ) → ∀ (H : Heap) (locs : List Loc), mx_J G P s.heap (mxz σ) (mxu σ) υ H locs → ∀ ls : Array Slot, lv_has ls 6 [(0, .ref v0), (1, .int v1), (2, .int v2), (3, .int v3), (4, .int y4), (5, .int y5)] → W p l e (mx_rm P 7 182 σ) s m ([.ref a0, .int p1, .int p2] : List Value).toArray below meth c H locs (mxz υ - mxz σ) (mxu υ - mxu σ) (mx_Z below G P (some (.int r)) σ σ' [.ref a0, .int p1, .int p2] s) (F0 m 13 ls [])) → (∀ (y4 : Int32) (υ : mx_S), o = .inr (y4, υ) → ∀ (H : Heap) (locs : List Loc), mx_J G P s.heap (mxz σ) (mxu σ) υ H locs → ∀ ls : Array Slot, lv_has ls 6 [(0, .ref v0), (2, .int v2), (3, .int v3), (4, .int y4)] → W p l e (mx_rm P 7 182 σ) s m ([.ref a0, .int p1, .int p2] : List Value).toArray below meth c H locs (mxz υ - mxz σ) (mxu υ - mxu σ) (mx_Z below G P (some (.int r)) σ σ' [.ref a0, .int p1, .int p2] s) (F0 m 77 ls [])) → ∀ (H : Heap) (locs : List Loc), mx_J G P s.heap (mxz σ) (mxu σ) τ H locs → ∀ ls : Array Slot, lv_has ls 6 [(0, .ref v0), (1, .int v1), (2, .int v2), (3, .int v3), (5, .int v5)] → W p l e (mx_rm P 7 182 σ) s m ([.ref a0, .int p1, .int p2] : List Value).toArray below meth c H locs (mxz τ - mxz σ) (mxu τ - mxu σ) (mx_Z below G P (some (.int r)) σ σ' [.ref a0, .int p1, .int p2] s) (F0 m 69 ls [.int w0]) := by
    intro v0 v1 v2 v3 v5 w0 τ o hf Kb Ke0 H locs hJ ls hl
    unfold f_X12_sweep_D69_13 at hf
    refine lv_istore (lv' := [(4, .int w0), (0, .ref v0), (1, .int v1), (2, .int v2), (3, .int v3), (5, .int v5)]) hx hb dX12_sweep_69 hl (by decide) rfl (fun ls hl => ?_)
    obtain ⟨x25, e26, hf⟩ := mb0 hf
    refine lv_iinc (v := x25) (lv' := [(5, .int x25), (4, .int w0), (0, .ref v0), (1, .int v1), (2, .int v2), (3, .int v3)]) hx hb dX12_sweep_71 hl (k := 5) rfl (by rw [← Option.some.inj e26]; rfl) (by decide) rfl (fun ls hl => ?_)
    refine lv_goto (tgt := 13) hx hb dX12_sweep_74 (by decide) ?_
    exact Kb w0 x25 τ (Option.some.inj hf).symm _ _ hJ ls (lv_sub hl [2, 3, 4, 5, 1, 0] rfl)
  have D49_13 : ∀ (v0 : Nat) (v1 : Int32) (v2 : Int32) (v3 : Int32) (v4 : Int32) (v5 : Int32) (w0 : Int32) (w1 : Int32) (w2 : Nat) (τ : mx_S) (o : (Int32 × Int32 × mx_S) ⊕ ((Int32 × mx_S))), f_X12_sweep_D49_13 P v0 v1 v2 v3 v4 v5 w0 w1 w2 τ = some o → (∀ (y4 : Int32) (y5 : Int32) (υ : mx_S), o = .inl (y4, y5, υ) → ∀ (H : Heap) (locs : List Loc), mx_J G P s.heap (mxz σ) (mxu σ) υ H locs → ∀ ls : Array Slot, lv_has ls 6 [(0, .ref v0), (1, .int v1), (2, .int v2), (3, .int v3), (4, .int y4), (5, .int y5)] → W p l e (mx_rm P 7 182 σ) s m ([.ref a0, .int p1, .int p2] : List Value).toArray below meth c H locs (mxz υ - mxz σ) (mxu υ - mxu σ) (mx_Z below G P (some (.int r)) σ σ' [.ref a0, .int p1, .int p2] s) (F0 m 13 ls [])) → (∀ (y4 : Int32) (υ : mx_S), o = .inr (y4, υ) → ∀ (H : Heap) (locs : List Loc), mx_J G P s.heap (mxz σ) (mxu σ) υ H locs → ∀ ls : Array Slot, lv_has ls 6 [(0, .ref v0), (2, .int v2), (3, .int v3), (4, .int y4)] → W p l e (mx_rm P 7 182 σ) s m ([.ref a0, .int p1, .int p2] : List Value).toArray below meth c H locs (mxz υ - mxz σ) (mxu υ - mxu σ) (mx_Z below G P (some (.int r)) σ σ' [.ref a0, .int p1, .int p2] s) (F0 m 77 ls [])) → ∀ (H : Heap) (locs : List Loc), mx_J G P s.heap (mxz σ) (mxu σ) τ H locs → ∀ ls : Array Slot, lv_has ls 6 [(0, .ref v0), (1, .int v1), (2, .int v2), (3, .int v3), (4, .int v4), (5, .int v5)] → W p l e (mx_rm P 7 182 σ) s m ([.ref a0, .int p1, .int p2] : List Value).toArray below meth c H locs (mxz τ - mxz σ) (mxu τ - mxu σ) (mx_Z below G P (some (.int r)) σ σ' [.ref a0, .int p1, .int p2] s) (F0 m 49 ls [.int w0, .int w1, .ref w2]) := by
    intro v0 v1 v2 v3 v4 v5 w0 w1 w2 τ o hf Kb Ke0 H locs hJ ls hl
    unfold f_X12_sweep_D49_13 at hf
    obtain ⟨σ18, e19, hf⟩ := mb0 hf
    refine mx_sZ hx hb hK hJ e19 dX12_sweep_49 (fun H locs hJ => ?_)
    refine lv_aload_n hx hb dX12_sweep_50 rfl (lv_at hl 0 rfl) ?_
    obtain ⟨b20, e21, hf⟩ := mb0 hf
    refine my_gR hx hb hts hown hK hJ fd_RX12_114 hv_12_56 e21 dX12_sweep_51 ?_
    refine lv_iload hx hb dX12_sweep_54 (lv_at hl 5 rfl) ?_
    obtain ⟨x22, e23, hf⟩ := mb0 hf
    refine mx_aZ hx hb hK hJ e23 dX12_sweep_56 ?_
    refine lv_if_eq (tgt := 67) hx hb dX12_sweep_57 (by decide) (fun c24 => ?_) (fun c24 => ?_)
    · rw [if_pos c24] at hf
      refine lv_iload hx hb dX12_sweep_67 (lv_at hl 4 rfl) ?_
      exact D69_13 v0 v1 v2 v3 v5 v4 σ18 o hf Kb Ke0 _ _ hJ ls (lv_sub hl [0, 1, 2, 3, 5] rfl)
    · rw [if_neg c24] at hf
      refine lv_iload hx hb dX12_sweep_60 (lv_at hl 4 rfl) ?_
      refine lv_iconst (v := 1) hx hb dX12_sweep_62 (by decide) ?_
      refine lv_iadd hx hb dX12_sweep_63 ?_
      refine lv_goto (tgt := 69) hx hb dX12_sweep_64 (by decide) ?_
      exact D69_13 v0 v1 v2 v3 v5 (v4 + (1 : Int32)) σ18 o hf Kb Ke0 _ _ hJ ls (lv_sub hl [0, 1, 2, 3, 5] rfl)
  have B13 : ∀ (v0 : Nat) (v1 : Int32) (v2 : Int32) (v3 : Int32) (v4 : Int32) (v5 : Int32) (τ : mx_S) (o : (Int32 × Int32 × mx_S) ⊕ ((Int32 × mx_S))), f_X12_sweep_B13 P v0 v1 v2 v3 v4 v5 τ = some o → (∀ (y4 : Int32) (y5 : Int32) (υ : mx_S), o = .inl (y4, y5, υ) → ∀ (H : Heap) (locs : List Loc), mx_J G P s.heap (mxz σ) (mxu σ) υ H locs → ∀ ls : Array Slot, lv_has ls 6 [(0, .ref v0), (1, .int v1), (2, .int v2), (3, .int v3), (4, .int y4), (5, .int y5)] → W p l e (mx_rm P 7 182 σ) s m ([.ref a0, .int p1, .int p2] : List Value).toArray below meth c H locs (mxz υ - mxz σ) (mxu υ - mxu σ) (mx_Z below G P (some (.int r)) σ σ' [.ref a0, .int p1, .int p2] s) (F0 m 13 ls [])) → (∀ (y4 : Int32) (υ : mx_S), o = .inr (y4, υ) → ∀ (H : Heap) (locs : List Loc), mx_J G P s.heap (mxz σ) (mxu σ) υ H locs → ∀ ls : Array Slot, lv_has ls 6 [(0, .ref v0), (2, .int v2), (3, .int v3), (4, .int y4)] → W p l e (mx_rm P 7 182 σ) s m ([.ref a0, .int p1, .int p2] : List Value).toArray below meth c H locs (mxz υ - mxz σ) (mxu υ - mxu σ) (mx_Z below G P (some (.int r)) σ σ' [.ref a0, .int p1, .int p2] s) (F0 m 77 ls [])) → ∀ (H : Heap) (locs : List Loc), mx_J G P s.heap (mxz σ) (mxu σ) τ H locs → ∀ ls : Array Slot, lv_has ls 6 [(0, .ref v0), (1, .int v1), (2, .int v2), (3, .int v3), (4, .int v4), (5, .int v5)] → W p l e (mx_rm P 7 182 σ) s m ([.ref a0, .int p1, .int p2] : List Value).toArray below meth c H locs (mxz τ - mxz σ) (mxu τ - mxu σ) (mx_Z below G P (some (.int r)) σ σ' [.ref a0, .int p1, .int p2] s) (F0 m 13 ls []) := by
    intro v0 v1 v2 v3 v4 v5 τ o hf Kb Ke0 H locs hJ ls hl
    unfold f_X12_sweep_B13 at hf
    refine lv_iload hx hb dX12_sweep_13 (lv_at hl 5 rfl) ?_
    refine lv_sipush (v := 1024) hx hb dX12_sweep_15 (by decide) ?_
    refine lv_icmp_ge (tgt := 77) hx hb dX12_sweep_18 (by decide) (fun c5 => ?_) (fun c5 => ?_)
    · rw [if_pos c5] at hf
      exact Ke0 v4 τ (Option.some.inj hf).symm _ _ hJ ls (lv_sub hl [0, 2, 3, 4] rfl)
    · rw [if_neg c5] at hf
      refine lv_aload_n hx hb dX12_sweep_21 rfl (lv_at hl 0 rfl) ?_
      obtain ⟨b6, e7, hf⟩ := mb0 hf
      refine my_gR hx hb hts hown hK hJ fd_RX12_63 hv_12_34 e7 dX12_sweep_22 ?_
      refine lv_iload_n hx hb dX12_sweep_25 rfl (lv_at hl 2 rfl) ?_
      refine lv_iload hx hb dX12_sweep_26 (lv_at hl 5 rfl) ?_
      obtain ⟨σ8, e9, hf⟩ := mb0 hf
      refine mx_sI hx hb hK hJ e9 dX12_sweep_28 (fun H locs hJ => ?_)
      refine lv_aload_n hx hb dX12_sweep_29 rfl (lv_at hl 0 rfl) ?_
      obtain ⟨b10, e11, hf⟩ := mb0 hf
      refine my_gR hx hb hts hown hK hJ fd_RX12_114 hv_12_56 e11 dX12_sweep_30 ?_
      refine lv_iload hx hb dX12_sweep_33 (lv_at hl 5 rfl) ?_
      refine lv_aload_n hx hb dX12_sweep_35 rfl (lv_at hl 0 rfl) ?_
      refine lv_iload_n hx hb dX12_sweep_36 rfl (lv_at hl 1 rfl) ?_
      obtain ⟨i12, e13, hf⟩ := mb0 hf
      obtain ⟨x15, σ14, e16, hf⟩ := mc0 hf
      refine mx_callV (As := [.int v1]) (rest := [.int v5, .ref b10]) hx hb hml hts hown hK hJ rfl rfl (ci := 12) rfl e13 (c_X12_worked l G P v0 v1 σ8 x15 σ14 e16) me_X12_worked kw_2362 ks_103 kw_2360 (Nat.le_of_ble_eq_true rfl) (Nat.le_of_ble_eq_true rfl) rfl hl.1 rfl (Nat.le_of_ble_eq_true rfl) dX12_sweep_37 (fun H locs hJ => ?_)
      refine lv_iconst (v := 1) hx hb dX12_sweep_40 (by decide) ?_
      refine lv_icmp_ne (tgt := 48) hx hb dX12_sweep_41 (by decide) (fun c17 => ?_) (fun c17 => ?_)
      · rw [if_neg c17] at hf
        refine lv_iconst (v := 0) hx hb dX12_sweep_48 (by decide) ?_
        exact D49_13 v0 v1 v2 v3 v4 v5 (0 : Int32) v5 b10 σ14 o hf Kb Ke0 _ _ hJ ls (lv_sub hl [0, 1, 2, 3, 4, 5] rfl)
      · rw [if_pos c17] at hf
        refine lv_iconst (v := 1) hx hb dX12_sweep_44 (by decide) ?_
        refine lv_goto (tgt := 49) hx hb dX12_sweep_45 (by decide) ?_
        exact D49_13 v0 v1 v2 v3 v4 v5 (1 : Int32) v5 b10 σ14 o hf Kb Ke0 _ _ hJ ls (lv_sub hl [0, 1, 2, 3, 4, 5] rfl)
  have L13 : ∀ (v0 : Nat) (v1 : Int32) (v2 : Int32) (v3 : Int32) (n : Nat) (v4 : Int32) (v5 : Int32) (τ : mx_S) (o : (Int32 × mx_S)), mx_lp (f_X12_sweep_L13 P v0 v1 v2 v3) n (v4, v5, τ) = some o → (∀ (y4 : Int32) (υ : mx_S), o = (y4, υ) → ∀ (H : Heap) (locs : List Loc), mx_J G P s.heap (mxz σ) (mxu σ) υ H locs → ∀ ls : Array Slot, lv_has ls 6 [(0, .ref v0), (2, .int v2), (3, .int v3), (4, .int y4)] → W p l e (mx_rm P 7 182 σ) s m ([.ref a0, .int p1, .int p2] : List Value).toArray below meth c H locs (mxz υ - mxz σ) (mxu υ - mxu σ) (mx_Z below G P (some (.int r)) σ σ' [.ref a0, .int p1, .int p2] s) (F0 m 77 ls [])) → ∀ (H : Heap) (locs : List Loc), mx_J G P s.heap (mxz σ) (mxu σ) τ H locs → ∀ ls : Array Slot, lv_has ls 6 [(0, .ref v0), (1, .int v1), (2, .int v2), (3, .int v3), (4, .int v4), (5, .int v5)] → W p l e (mx_rm P 7 182 σ) s m ([.ref a0, .int p1, .int p2] : List Value).toArray below meth c H locs (mxz τ - mxz σ) (mxu τ - mxu σ) (mx_Z below G P (some (.int r)) σ σ' [.ref a0, .int p1, .int p2] s) (F0 m 13 ls []) := by
    intro v0 v1 v2 v3 n
    induction n with
    | zero =>
      intro v4 v5 τ o hf
      rw [mx_lp0] at hf
      cases hf
    | succ n ih =>
      intro v4 v5 τ o hf Ke0 H locs hJ ls hl
      rw [mx_lpS] at hf
      obtain ⟨b, eb, hf⟩ := mb0 hf
      refine B13 v0 v1 v2 v3 v4 v5 τ b eb (fun y4 y5 υ ho H locs hJ ls hl => ?_) (fun y4 υ ho H locs hJ ls hl => ?_) H locs hJ ls hl
      · subst ho
        exact ih y4 y5 υ o hf Ke0 H locs hJ ls hl
      · subst ho
        exact Ke0 y4 υ (Option.some.inj hf).symm _ _ hJ ls hl
  unfold f_X12_sweep at hf
  refine lv_aload_n hx hb dX12_sweep_0 rfl (lv_at hl 0 rfl) ?_
  obtain ⟨b1, e2, hf⟩ := mb0 hf
  refine my_gR hx hb hts hown hK hJ fd_RX12_63 hv_12_34 e2 dX12_sweep_1 ?_
  refine lv_iload_n hx hb dX12_sweep_4 rfl (lv_at hl 2 rfl) ?_
  obtain ⟨x3, e4, hf⟩ := mb0 hf
  refine mx_aI hx hb hK hJ e4 dX12_sweep_5 ?_
  refine lv_istore_n (lv' := [(3, .int x3), (0, .ref a0), (1, .int p1), (2, .int p2)]) hx hb dX12_sweep_6 rfl hl (by decide) rfl (fun ls hl => ?_)
  refine lv_iconst (v := 0) hx hb dX12_sweep_7 (by decide) ?_
  refine lv_istore (lv' := [(4, .int (0 : Int32)), (3, .int x3), (0, .ref a0), (1, .int p1), (2, .int p2)]) hx hb dX12_sweep_8 hl (by decide) rfl (fun ls hl => ?_)
  refine lv_iconst (v := 0) hx hb dX12_sweep_10 (by decide) ?_
  refine lv_istore (lv' := [(5, .int (0 : Int32)), (4, .int (0 : Int32)), (3, .int x3), (0, .ref a0), (1, .int p1), (2, .int p2)]) hx hb dX12_sweep_11 hl (by decide) rfl (fun ls hl => ?_)
  obtain ⟨o27, e28, hf⟩ := mb0 hf
  refine L13 a0 p1 p2 x3 (mpN P) (0 : Int32) (0 : Int32) σ o27 e28 (fun y29 σ30 ho H locs hJ ls hl => ?_) _ _ hJ ls (lv_sub hl [3, 4, 5, 2, 1, 0] rfl)
  · rw [ho] at hf
    have hf : ((mg_R σ30 a0 12 34).bind fun b31 => (ms_I P σ30 b31 0 p2 x3).bind fun σ33 => some (y29, σ33)) = some (r, σ') := hf
    refine lv_aload_n hx hb dX12_sweep_77 rfl (lv_at hl 0 rfl) ?_
    obtain ⟨b31, e32, hf⟩ := mb0 hf
    refine my_gR hx hb hts hown hK hJ fd_RX12_63 hv_12_34 e32 dX12_sweep_78 ?_
    refine lv_iload_n hx hb dX12_sweep_81 rfl (lv_at hl 1 rfl) ?_
    refine lv_iload_n hx hb dX12_sweep_82 rfl (lv_at hl 2 rfl) ?_
    obtain ⟨σ33, e34, hf⟩ := mb0 hf
    refine mx_sI hx hb hK hJ e34 dX12_sweep_83 (fun H locs hJ => ?_)
    refine lv_iload hx hb dX12_sweep_84 (lv_at hl 3 rfl) ?_
    exact my_iret hx hb hr hlocks hJ hf dX12_sweep_86
set_option maxHeartbeats 4000000 in
set_option maxRecDepth 100000 in
theorem c_X12_range (l : Launch) (G : mx_G) (P : mx_P) (a0 : Nat) (p1 : Int32) (p2 : Int32) (p3 : Int32) (σ : mx_S) (r : Int32) (σ' : mx_S) (hf : f_X12_range P a0 p1 p2 p3 σ = some (r, σ')) : mxz σ ≤ mpc P → mxu σ ≤ mps P → mx_M l yX12_range cX12_range 8 (some .int) 8 207 G P [.ref a0, .int p1, .int p2, .int p3] σ (some (.int r)) σ' := by
  intro hcap hcau
  refine mx_ofW (by decide +kernel) hcap hcau (Nat.le_of_ble_eq_true rfl) ?_
  intro p e s m below meth c hx hb hr hml hts hown hlocks hname hK hJ ls hl
  have hz0 := hJ.2.1
  have hown : s.vm.findClass RX12 = some m.cls := hown
  have hl : lv_has ls 8 [(0, .ref a0), (1, .int p1), (2, .int p2), (3, .int p3)] := hl
  have D133_82 : ∀ (v0 : Nat) (v3 : Int32) (v5 : Int32) (v6 : Int32) (v7 : Int32) (τ : mx_S) (o : (Int32 × Int32 × Int32 × mx_S) ⊕ ((Int32 × Int32 × mx_S))), f_X12_range_D133_82 P v0 v3 v5 v6 v7 τ = some o → (∀ (y5 : Int32) (y6 : Int32) (y7 : Int32) (υ : mx_S), o = .inl (y5, y6, y7, υ) → ∀ (H : Heap) (locs : List Loc), mx_J G P s.heap (mxz σ) (mxu σ) υ H locs → ∀ ls : Array Slot, lv_has ls 8 [(0, .ref v0), (3, .int v3), (5, .int y5), (6, .int y6), (7, .int y7)] → W p l e (mx_rm P 8 207 σ) s m ([.ref a0, .int p1, .int p2, .int p3] : List Value).toArray below meth c H locs (mxz υ - mxz σ) (mxu υ - mxu σ) (mx_Z below G P (some (.int r)) σ σ' [.ref a0, .int p1, .int p2, .int p3] s) (F0 m 82 ls [])) → (∀ (y5 : Int32) (y6 : Int32) (υ : mx_S), o = .inr (y5, y6, υ) → ∀ (H : Heap) (locs : List Loc), mx_J G P s.heap (mxz σ) (mxu σ) υ H locs → ∀ ls : Array Slot, lv_has ls 8 [(3, .int v3), (5, .int y5), (6, .int y6)] → W p l e (mx_rm P 8 207 σ) s m ([.ref a0, .int p1, .int p2, .int p3] : List Value).toArray below meth c H locs (mxz υ - mxz σ) (mxu υ - mxu σ) (mx_Z below G P (some (.int r)) σ σ' [.ref a0, .int p1, .int p2, .int p3] s) (F0 m 139 ls [])) → ∀ (H : Heap) (locs : List Loc), mx_J G P s.heap (mxz σ) (mxu σ) τ H locs → ∀ ls : Array Slot, lv_has ls 8 [(0, .ref v0), (3, .int v3), (5, .int v5), (6, .int v6), (7, .int v7)] → W p l e (mx_rm P 8 207 σ) s m ([.ref a0, .int p1, .int p2, .int p3] : List Value).toArray below meth c H locs (mxz τ - mxz σ) (mxu τ - mxu σ) (mx_Z below G P (some (.int r)) σ σ' [.ref a0, .int p1, .int p2, .int p3] s) (F0 m 133 ls []) := by
    intro v0 v3 v5 v6 v7 τ o hf Kb Ke0 H locs hJ ls hl
    unfold f_X12_range_D133_82 at hf
    obtain ⟨x25, e26, hf⟩ := mb0 hf
    refine lv_iinc (v := x25) (lv' := [(7, .int x25), (0, .ref v0), (3, .int v3), (5, .int v5), (6, .int v6)]) hx hb dX12_range_133 hl (k := 4) rfl (by rw [← Option.some.inj e26]; rfl) (by decide) rfl (fun ls hl => ?_)
    refine lv_goto (tgt := 82) hx hb dX12_range_136 (by decide) ?_
    exact Kb v5 v6 x25 τ (Option.some.inj hf).symm _ _ hJ ls (lv_sub hl [1, 2, 3, 4, 0] rfl)
  have B82 : ∀ (v0 : Nat) (v3 : Int32) (v5 : Int32) (v6 : Int32) (v7 : Int32) (τ : mx_S) (o : (Int32 × Int32 × Int32 × mx_S) ⊕ ((Int32 × Int32 × mx_S))), f_X12_range_B82 P v0 v3 v5 v6 v7 τ = some o → (∀ (y5 : Int32) (y6 : Int32) (y7 : Int32) (υ : mx_S), o = .inl (y5, y6, y7, υ) → ∀ (H : Heap) (locs : List Loc), mx_J G P s.heap (mxz σ) (mxu σ) υ H locs → ∀ ls : Array Slot, lv_has ls 8 [(0, .ref v0), (3, .int v3), (5, .int y5), (6, .int y6), (7, .int y7)] → W p l e (mx_rm P 8 207 σ) s m ([.ref a0, .int p1, .int p2, .int p3] : List Value).toArray below meth c H locs (mxz υ - mxz σ) (mxu υ - mxu σ) (mx_Z below G P (some (.int r)) σ σ' [.ref a0, .int p1, .int p2, .int p3] s) (F0 m 82 ls [])) → (∀ (y5 : Int32) (y6 : Int32) (υ : mx_S), o = .inr (y5, y6, υ) → ∀ (H : Heap) (locs : List Loc), mx_J G P s.heap (mxz σ) (mxu σ) υ H locs → ∀ ls : Array Slot, lv_has ls 8 [(3, .int v3), (5, .int y5), (6, .int y6)] → W p l e (mx_rm P 8 207 σ) s m ([.ref a0, .int p1, .int p2, .int p3] : List Value).toArray below meth c H locs (mxz υ - mxz σ) (mxu υ - mxu σ) (mx_Z below G P (some (.int r)) σ σ' [.ref a0, .int p1, .int p2, .int p3] s) (F0 m 139 ls [])) → ∀ (H : Heap) (locs : List Loc), mx_J G P s.heap (mxz σ) (mxu σ) τ H locs → ∀ ls : Array Slot, lv_has ls 8 [(0, .ref v0), (3, .int v3), (5, .int v5), (6, .int v6), (7, .int v7)] → W p l e (mx_rm P 8 207 σ) s m ([.ref a0, .int p1, .int p2, .int p3] : List Value).toArray below meth c H locs (mxz τ - mxz σ) (mxu τ - mxu σ) (mx_Z below G P (some (.int r)) σ σ' [.ref a0, .int p1, .int p2, .int p3] s) (F0 m 82 ls []) := by
    intro v0 v3 v5 v6 v7 τ o hf Kb Ke0 H locs hJ ls hl
    unfold f_X12_range_B82 at hf
    refine lv_iload hx hb dX12_range_82 (lv_at hl 4 rfl) ?_
    refine lv_sipush (v := 1024) hx hb dX12_range_84 (by decide) ?_
    refine lv_icmp_ge (tgt := 139) hx hb dX12_range_87 (by decide) (fun c19 => ?_) (fun c19 => ?_)
    · rw [if_pos c19] at hf
      exact Ke0 v5 v6 τ (Option.some.inj hf).symm _ _ hJ ls (lv_sub hl [1, 2, 3] rfl)
    · rw [if_neg c19] at hf
      refine lv_aload_n hx hb dX12_range_90 rfl (lv_at hl 0 rfl) ?_
      obtain ⟨b20, e21, hf⟩ := mb0 hf
      refine my_gR hx hb hts hown hK hJ fd_RX12_114 hv_12_56 e21 dX12_range_91 ?_
      refine lv_iload hx hb dX12_range_94 (lv_at hl 4 rfl) ?_
      obtain ⟨x22, e23, hf⟩ := mb0 hf
      refine mx_aZ hx hb hK hJ e23 dX12_range_96 ?_
      refine lv_if_eq (tgt := 133) hx hb dX12_range_97 (by decide) (fun c24 => ?_) (fun c24 => ?_)
      · rw [if_pos c24] at hf
        exact D133_82 v0 v3 v5 v6 v7 τ o hf Kb Ke0 _ _ hJ ls (lv_sub hl [0, 1, 2, 3, 4] rfl)
      · rw [if_neg c24] at hf
        refine lv_aload_n hx hb dX12_range_100 rfl (lv_at hl 0 rfl) ?_
        obtain ⟨b27, e28, hf⟩ := mb0 hf
        refine my_gR hx hb hts hown hK hJ fd_RX12_114 hv_12_56 e28 dX12_range_101 ?_
        refine lv_iload hx hb dX12_range_104 (lv_at hl 4 rfl) ?_
        refine lv_sipush (v := 1023) hx hb dX12_range_106 (by decide) ?_
        refine lv_iadd hx hb dX12_range_109 ?_
        refine lv_sipush (v := 1023) hx hb dX12_range_110 (by decide) ?_
        refine lv_iand hx hb dX12_range_113 ?_
        obtain ⟨x29, e30, hf⟩ := mb0 hf
        refine mx_aZ hx hb hK hJ e30 dX12_range_114 ?_
        refine lv_if_eq (tgt := 121) hx hb dX12_range_115 (by decide) (fun c31 => ?_) (fun c31 => ?_)
        · rw [if_pos c31] at hf
          obtain ⟨x32, e33, hf⟩ := mb0 hf
          refine lv_iinc (v := x32) (lv' := [(5, .int x32), (0, .ref v0), (3, .int v3), (6, .int v6), (7, .int v7)]) hx hb dX12_range_121 hl (k := 2) rfl (by rw [← Option.some.inj e33]; rfl) (by decide) rfl (fun ls hl => ?_)
          refine lv_iload hx hb dX12_range_124 (lv_at hl 3 rfl) ?_
          refine lv_if_ge (tgt := 133) hx hb dX12_range_126 (by decide) (fun c34 => ?_) (fun c34 => ?_)
          · rw [if_pos c34] at hf
            exact D133_82 v0 v3 x32 v6 v7 τ o hf Kb Ke0 _ _ hJ ls (lv_sub hl [1, 2, 0, 3, 4] rfl)
          · rw [if_neg c34] at hf
            refine lv_iload hx hb dX12_range_129 (lv_at hl 4 rfl) ?_
            refine lv_istore (lv' := [(6, .int v7), (5, .int x32), (0, .ref v0), (3, .int v3), (7, .int v7)]) hx hb dX12_range_131 hl (by decide) rfl (fun ls hl => ?_)
            exact D133_82 v0 v3 x32 v7 v7 τ o hf Kb Ke0 _ _ hJ ls (lv_sub hl [2, 3, 1, 0, 4] rfl)
        · rw [if_neg c31] at hf
          refine lv_goto (tgt := 133) hx hb dX12_range_118 (by decide) ?_
          exact D133_82 v0 v3 v5 v6 v7 τ o hf Kb Ke0 _ _ hJ ls (lv_sub hl [0, 1, 2, 3, 4] rfl)
  have L82 : ∀ (v0 : Nat) (v3 : Int32) (n : Nat) (v5 : Int32) (v6 : Int32) (v7 : Int32) (τ : mx_S) (o : (Int32 × Int32 × mx_S)), mx_lp (f_X12_range_L82 P v0 v3) n (v5, v6, v7, τ) = some o → (∀ (y5 : Int32) (y6 : Int32) (υ : mx_S), o = (y5, y6, υ) → ∀ (H : Heap) (locs : List Loc), mx_J G P s.heap (mxz σ) (mxu σ) υ H locs → ∀ ls : Array Slot, lv_has ls 8 [(3, .int v3), (5, .int y5), (6, .int y6)] → W p l e (mx_rm P 8 207 σ) s m ([.ref a0, .int p1, .int p2, .int p3] : List Value).toArray below meth c H locs (mxz υ - mxz σ) (mxu υ - mxu σ) (mx_Z below G P (some (.int r)) σ σ' [.ref a0, .int p1, .int p2, .int p3] s) (F0 m 139 ls [])) → ∀ (H : Heap) (locs : List Loc), mx_J G P s.heap (mxz σ) (mxu σ) τ H locs → ∀ ls : Array Slot, lv_has ls 8 [(0, .ref v0), (3, .int v3), (5, .int v5), (6, .int v6), (7, .int v7)] → W p l e (mx_rm P 8 207 σ) s m ([.ref a0, .int p1, .int p2, .int p3] : List Value).toArray below meth c H locs (mxz τ - mxz σ) (mxu τ - mxu σ) (mx_Z below G P (some (.int r)) σ σ' [.ref a0, .int p1, .int p2, .int p3] s) (F0 m 82 ls []) := by
    intro v0 v3 n
    induction n with
    | zero =>
      intro v5 v6 v7 τ o hf
      rw [mx_lp0] at hf
      cases hf
    | succ n ih =>
      intro v5 v6 v7 τ o hf Ke0 H locs hJ ls hl
      rw [mx_lpS] at hf
      obtain ⟨b, eb, hf⟩ := mb0 hf
      refine B82 v0 v3 v5 v6 v7 τ b eb (fun y5 y6 y7 υ ho H locs hJ ls hl => ?_) (fun y5 y6 υ ho H locs hJ ls hl => ?_) H locs hJ ls hl
      · subst ho
        exact ih y5 y6 y7 υ o hf Ke0 H locs hJ ls hl
      · subst ho
        exact Ke0 y5 y6 υ (Option.some.inj hf).symm _ _ hJ ls hl
  have D151 : ∀ (w0 : Int32) (τ : mx_S), f_X12_range_D151 P w0 τ = some (r, σ') → ∀ (H : Heap) (locs : List Loc), mx_J G P s.heap (mxz σ) (mxu σ) τ H locs → ∀ ls : Array Slot, lv_has ls 8 [] → W p l e (mx_rm P 8 207 σ) s m ([.ref a0, .int p1, .int p2, .int p3] : List Value).toArray below meth c H locs (mxz τ - mxz σ) (mxu τ - mxu σ) (mx_Z below G P (some (.int r)) σ σ' [.ref a0, .int p1, .int p2, .int p3] s) (F0 m 151 ls [.int w0]) := by
    intro w0 τ hf _ _ hJ ls hl
    unfold f_X12_range_D151 at hf
    exact my_iret hx hb hr hlocks hJ hf dX12_range_151
  have D72 : ∀ (w0 : Int32) (τ : mx_S), f_X12_range_D72 P w0 τ = some (r, σ') → ∀ (H : Heap) (locs : List Loc), mx_J G P s.heap (mxz σ) (mxu σ) τ H locs → ∀ ls : Array Slot, lv_has ls 8 [] → W p l e (mx_rm P 8 207 σ) s m ([.ref a0, .int p1, .int p2, .int p3] : List Value).toArray below meth c H locs (mxz τ - mxz σ) (mxu τ - mxu σ) (mx_Z below G P (some (.int r)) σ σ' [.ref a0, .int p1, .int p2, .int p3] s) (F0 m 72 ls [.int w0]) := by
    intro w0 τ hf _ _ hJ ls hl
    unfold f_X12_range_D72 at hf
    exact my_iret hx hb hr hlocks hJ hf dX12_range_72
  have D27 : ∀ (v0 : Nat) (v1 : Int32) (v2 : Int32) (v3 : Int32) (w0 : Int32) (w1 : Nat) (τ : mx_S), f_X12_range_D27 P v0 v1 v2 v3 w0 w1 τ = some (r, σ') → ∀ (H : Heap) (locs : List Loc), mx_J G P s.heap (mxz σ) (mxu σ) τ H locs → ∀ ls : Array Slot, lv_has ls 8 [(0, .ref v0), (1, .int v1), (2, .int v2), (3, .int v3)] → W p l e (mx_rm P 8 207 σ) s m ([.ref a0, .int p1, .int p2, .int p3] : List Value).toArray below meth c H locs (mxz τ - mxz σ) (mxu τ - mxu σ) (mx_Z below G P (some (.int r)) σ σ' [.ref a0, .int p1, .int p2, .int p3] s) (F0 m 27 ls [.int w0, .ref w1]) := by
    intro v0 v1 v2 v3 w0 w1 τ hf _ _ hJ ls hl
    unfold f_X12_range_D27 at hf
    obtain ⟨σ7, e8, hf⟩ := mb0 hf
    refine my_pI hx hb hts hown hK hJ fd_RX12_243 cd_12 (Or.inl rfl) ht_12_0 e8 dX12_range_27 (fun H locs hJ => ?_)
    refine lv_aload_n hx hb dX12_range_30 rfl (lv_at hl 0 rfl) ?_
    obtain ⟨x9, e10, hf⟩ := mb0 hf
    refine my_gI hx hb hts hown hK hJ fd_RX12_243 hv_12_0 e10 dX12_range_31 ?_
    refine lv_if_le (tgt := 39) hx hb dX12_range_34 (by decide) (fun c11 => ?_) (fun c11 => ?_)
    · rw [if_pos c11] at hf
      refine lv_aload_n hx hb dX12_range_39 rfl (lv_at hl 0 rfl) ?_
      refine lv_iload_n hx hb dX12_range_40 rfl (lv_at hl 1 rfl) ?_
      refine lv_iload_n hx hb dX12_range_41 rfl (lv_at hl 2 rfl) ?_
      obtain ⟨i12, e13, hf⟩ := mb0 hf
      obtain ⟨x15, σ14, e16, hf⟩ := mc0 hf
      refine mx_callV (As := [.int v1, .int v2]) (rest := []) hx hb hml hts hown hK hJ rfl rfl (ci := 12) rfl e13 (c_X12_sweep l G P v0 v1 v2 σ7 x15 σ14 e16) me_X12_sweep kw_2519 ks_133 kw_2517 (Nat.le_of_ble_eq_true rfl) (Nat.le_of_ble_eq_true rfl) rfl hl.1 rfl (Nat.le_of_ble_eq_true rfl) dX12_range_42 (fun H locs hJ => ?_)
      refine lv_istore (lv' := [(4, .int x15), (0, .ref v0), (1, .int v1), (2, .int v2), (3, .int v3)]) hx hb dX12_range_45 hl (by decide) rfl (fun ls hl => ?_)
      refine lv_iload_n hx hb dX12_range_47 rfl (lv_at hl 4 rfl) ?_
      refine lv_if_ne (tgt := 54) hx hb dX12_range_48 (by decide) (fun c17 => ?_) (fun c17 => ?_)
      · rw [if_neg c17] at hf
        refine lv_iload hx hb dX12_range_54 (lv_at hl 0 rfl) ?_
        refine lv_sipush (v := 1024) hx hb dX12_range_56 (by decide) ?_
        refine lv_icmp_ne (tgt := 73) hx hb dX12_range_59 (by decide) (fun c18 => ?_) (fun c18 => ?_)
        · rw [if_neg c18] at hf
          refine lv_iconst (v := 0) hx hb dX12_range_73 (by decide) ?_
          refine lv_istore (lv' := [(5, .int (0 : Int32)), (4, .int x15), (0, .ref v0), (1, .int v1), (2, .int v2), (3, .int v3)]) hx hb dX12_range_74 hl (by decide) rfl (fun ls hl => ?_)
          refine lv_iconst (v := (-1)) hx hb dX12_range_76 (by decide) ?_
          refine lv_istore (lv' := [(6, .int (-1 : Int32)), (5, .int (0 : Int32)), (4, .int x15), (0, .ref v0), (1, .int v1), (2, .int v2), (3, .int v3)]) hx hb dX12_range_77 hl (by decide) rfl (fun ls hl => ?_)
          refine lv_iconst (v := 0) hx hb dX12_range_79 (by decide) ?_
          refine lv_istore (lv' := [(7, .int (0 : Int32)), (6, .int (-1 : Int32)), (5, .int (0 : Int32)), (4, .int x15), (0, .ref v0), (1, .int v1), (2, .int v2), (3, .int v3)]) hx hb dX12_range_80 hl (by decide) rfl (fun ls hl => ?_)
          obtain ⟨o35, e36, hf⟩ := mb0 hf
          refine L82 v0 v3 (mpN P) (0 : Int32) (-1 : Int32) (0 : Int32) σ14 o35 e36 (fun y37 y38 σ39 ho H locs hJ ls hl => ?_) _ _ hJ ls (lv_sub hl [4, 7, 2, 1, 0] rfl)
          · rw [ho] at hf
            have hf : ((if v3 = (1 : Int32) then f_X12_range_D151 P y37 σ39 else f_X12_range_D151 P y38 σ39)) = some (r, σ') := hf
            refine lv_iload_n hx hb dX12_range_139 rfl (lv_at hl 0 rfl) ?_
            refine lv_iconst (v := 1) hx hb dX12_range_140 (by decide) ?_
            refine lv_icmp_ne (tgt := 149) hx hb dX12_range_141 (by decide) (fun c40 => ?_) (fun c40 => ?_)
            · rw [if_neg c40] at hf
              refine lv_iload hx hb dX12_range_149 (lv_at hl 2 rfl) ?_
              exact D151 y38 σ39 hf _ _ hJ ls (lv_sub hl [] rfl)
            · rw [if_pos c40] at hf
              refine lv_iload hx hb dX12_range_144 (lv_at hl 1 rfl) ?_
              refine lv_goto (tgt := 151) hx hb dX12_range_146 (by decide) ?_
              exact D151 y37 σ39 hf _ _ hJ ls (lv_sub hl [] rfl)
        · rw [if_pos c18] at hf
          refine lv_iload_n hx hb dX12_range_62 rfl (lv_at hl 4 rfl) ?_
          refine lv_iconst (v := 1) hx hb dX12_range_63 (by decide) ?_
          refine lv_icmp_ne (tgt := 71) hx hb dX12_range_64 (by decide) (fun c41 => ?_) (fun c41 => ?_)
          · rw [if_neg c41] at hf
            refine lv_iconst (v := 0) hx hb dX12_range_71 (by decide) ?_
            exact D72 (0 : Int32) σ14 hf _ _ hJ ls (lv_sub hl [] rfl)
          · rw [if_pos c41] at hf
            refine lv_iconst (v := 1) hx hb dX12_range_67 (by decide) ?_
            refine lv_goto (tgt := 72) hx hb dX12_range_68 (by decide) ?_
            exact D72 (1 : Int32) σ14 hf _ _ hJ ls (lv_sub hl [] rfl)
      · rw [if_pos c17] at hf
        refine lv_iload hx hb dX12_range_51 (lv_at hl 0 rfl) ?_
        exact my_iret hx hb hr hlocks hJ hf dX12_range_53
    · rw [if_neg c11] at hf
      refine lv_iconst (v := 0) hx hb dX12_range_37 (by decide) ?_
      exact my_iret hx hb hr hlocks hJ hf dX12_range_38
  have D26 : ∀ (v0 : Nat) (v1 : Int32) (v2 : Int32) (v3 : Int32) (w0 : Nat) (τ : mx_S), f_X12_range_D26 P v0 v1 v2 v3 w0 τ = some (r, σ') → ∀ (H : Heap) (locs : List Loc), mx_J G P s.heap (mxz σ) (mxu σ) τ H locs → ∀ ls : Array Slot, lv_has ls 8 [(0, .ref v0), (1, .int v1), (2, .int v2), (3, .int v3)] → W p l e (mx_rm P 8 207 σ) s m ([.ref a0, .int p1, .int p2, .int p3] : List Value).toArray below meth c H locs (mxz τ - mxz σ) (mxu τ - mxu σ) (mx_Z below G P (some (.int r)) σ σ' [.ref a0, .int p1, .int p2, .int p3] s) (F0 m 26 ls [.ref w0]) := by
    intro v0 v1 v2 v3 w0 τ hf _ _ hJ ls hl
    unfold f_X12_range_D26 at hf
    refine lv_iconst (v := 1) hx hb dX12_range_26 (by decide) ?_
    exact D27 v0 v1 v2 v3 (1 : Int32) w0 τ hf _ _ hJ ls (lv_sub hl [0, 1, 2, 3] rfl)
  unfold f_X12_range at hf
  refine lv_aload_n hx hb dX12_range_0 rfl (lv_at hl 0 rfl) ?_
  refine lv_aload_n hx hb dX12_range_1 rfl (lv_at hl 0 rfl) ?_
  refine lv_iload_n hx hb dX12_range_2 rfl (lv_at hl 1 rfl) ?_
  refine lv_iload_n hx hb dX12_range_3 rfl (lv_at hl 2 rfl) ?_
  obtain ⟨i1, e2, hf⟩ := mb0 hf
  obtain ⟨x4, σ3, e5, hf⟩ := mc0 hf
  refine mx_callV (As := [.int p1, .int p2]) (rest := [.ref a0]) hx hb hml hts hown hK hJ rfl rfl (ci := 12) rfl e2 (c_X12_isWay l G P a0 p1 p2 σ x4 σ3 e5) me_X12_isWay kw_2510 ks_132 kw_2508 (Nat.le_of_ble_eq_true rfl) (Nat.le_of_ble_eq_true rfl) rfl hl.1 rfl (Nat.le_of_ble_eq_true rfl) dX12_range_4 (fun H locs hJ => ?_)
  refine lv_if_eq (tgt := 26) hx hb dX12_range_7 (by decide) (fun c6 => ?_) (fun c6 => ?_)
  · rw [if_pos c6] at hf
    exact D26 a0 p1 p2 p3 a0 σ3 hf _ _ hJ ls (lv_sub hl [0, 1, 2, 3] rfl)
  · rw [if_neg c6] at hf
    refine lv_iload_n hx hb dX12_range_10 rfl (lv_at hl 3 rfl) ?_
    refine lv_i2l hx hb dX12_range_11 rfl ?_
    refine lv_lconst (v := 0) hx hb dX12_range_12 (by decide) ?_
    refine lv_ldc2 hx hb hown (hts _ kw_2447) dX12_range_13 ?_
    obtain ⟨x43, σ42, e44, hf⟩ := mc0 hf
    refine mx_callS (As := [.long (p3.toInt64), .long (0 : Int64), .long (2 : Int64)]) (rest := [.ref a0]) hx hb hml hts hown hK hJ rfl rfl (c_X12_in l G P (p3.toInt64) (0 : Int64) (2 : Int64) σ3 x43 σ42 e44) me_X12_in kw_2223 kw_2222 (Nat.le_of_ble_eq_true rfl) (Nat.le_of_ble_eq_true rfl) rfl hl.1 rfl (Nat.le_of_ble_eq_true rfl) dX12_range_16 (fun H locs hJ => ?_)
    refine lv_if_eq (tgt := 26) hx hb dX12_range_19 (by decide) (fun c45 => ?_) (fun c45 => ?_)
    · rw [if_pos c45] at hf
      exact D26 a0 p1 p2 p3 a0 σ42 hf _ _ hJ ls (lv_sub hl [0, 1, 2, 3] rfl)
    · rw [if_neg c45] at hf
      refine lv_iconst (v := 0) hx hb dX12_range_22 (by decide) ?_
      refine lv_goto (tgt := 27) hx hb dX12_range_23 (by decide) ?_
      exact D27 a0 p1 p2 p3 (0 : Int32) a0 σ42 hf _ _ hJ ls (lv_sub hl [0, 1, 2, 3] rfl)
set_option maxHeartbeats 4000000 in
set_option maxRecDepth 100000 in
theorem c_X12_spread (l : Launch) (G : mx_G) (P : mx_P) (a0 : Nat) (p1 : Int32) (p2 : Int32) (p3 : Int32) (p4 : Int32) (p5 : Int32) (σ : mx_S) (r : Int64) (σ' : mx_S) (hf : f_X12_spread P a0 p1 p2 p3 p4 p5 σ = some (r, σ')) : mxz σ ≤ mpc P → mxu σ ≤ mps P → mx_M l yX12_spread cX12_spread 13 (some .long) 7 182 G P [.ref a0, .int p1, .int p2, .int p3, .int p4, .int p5] σ (some (.long r)) σ' := by
  intro hcap hcau
  refine mx_ofW (by decide +kernel) hcap hcau (Nat.le_of_ble_eq_true rfl) ?_
  intro p e s m below meth c hx hb hr hml hts hown hlocks hname hK hJ ls hl
  have hz0 := hJ.2.1
  have hown : s.vm.findClass RX12 = some m.cls := hown
  have hl : lv_has ls 13 [(0, .ref a0), (1, .int p1), (2, .int p2), (3, .int p3), (4, .int p4), (5, .int p5)] := hl
  have D157_78 : ∀ (v0 : Nat) (v1 : Int32) (v2 : Int32) (v3 : Int32) (v4 : Int32) (v5 : Int32) (v6 : Int32) (v7 : Int32) (v8 : Int64) (v10 : Int32) (τ : mx_S) (o : (Int32 × Int64 × Int32 × mx_S) ⊕ ((Int32 × Int64 × mx_S))), f_X12_spread_D157_78 P v0 v1 v2 v3 v4 v5 v6 v7 v8 v10 τ = some o → (∀ (y7 : Int32) (y8 : Int64) (y10 : Int32) (υ : mx_S), o = .inl (y7, y8, y10, υ) → ∀ (H : Heap) (locs : List Loc), mx_J G P s.heap (mxz σ) (mxu σ) υ H locs → ∀ ls : Array Slot, lv_has ls 13 [(0, .ref v0), (1, .int v1), (2, .int v2), (3, .int v3), (4, .int v4), (5, .int v5), (6, .int v6), (7, .int y7), (8, .long y8), (10, .int y10)] → W p l e (mx_rm P 7 182 σ) s m ([.ref a0, .int p1, .int p2, .int p3, .int p4, .int p5] : List Value).toArray below meth c H locs (mxz υ - mxz σ) (mxu υ - mxu σ) (mx_Z below G P (some (.long r)) σ σ' [.ref a0, .int p1, .int p2, .int p3, .int p4, .int p5] s) (F0 m 78 ls [])) → (∀ (y7 : Int32) (y8 : Int64) (υ : mx_S), o = .inr (y7, y8, υ) → ∀ (H : Heap) (locs : List Loc), mx_J G P s.heap (mxz σ) (mxu σ) υ H locs → ∀ ls : Array Slot, lv_has ls 13 [(0, .ref v0), (2, .int v2), (6, .int v6), (7, .int y7), (8, .long y8)] → W p l e (mx_rm P 7 182 σ) s m ([.ref a0, .int p1, .int p2, .int p3, .int p4, .int p5] : List Value).toArray below meth c H locs (mxz υ - mxz σ) (mxu υ - mxu σ) (mx_Z below G P (some (.long r)) σ σ' [.ref a0, .int p1, .int p2, .int p3, .int p4, .int p5] s) (F0 m 163 ls [])) → ∀ (H : Heap) (locs : List Loc), mx_J G P s.heap (mxz σ) (mxu σ) τ H locs → ∀ ls : Array Slot, lv_has ls 13 [(0, .ref v0), (1, .int v1), (2, .int v2), (3, .int v3), (4, .int v4), (5, .int v5), (6, .int v6), (7, .int v7), (8, .long v8), (10, .int v10)] → W p l e (mx_rm P 7 182 σ) s m ([.ref a0, .int p1, .int p2, .int p3, .int p4, .int p5] : List Value).toArray below meth c H locs (mxz τ - mxz σ) (mxu τ - mxu σ) (mx_Z below G P (some (.long r)) σ σ' [.ref a0, .int p1, .int p2, .int p3, .int p4, .int p5] s) (F0 m 157 ls []) := by
    intro v0 v1 v2 v3 v4 v5 v6 v7 v8 v10 τ o hf Kb Ke0 H locs hJ ls hl
    unfold f_X12_spread_D157_78 at hf
    obtain ⟨x37, e38, hf⟩ := mb0 hf
    refine lv_iinc (v := x37) (lv' := [(10, .int x37), (0, .ref v0), (1, .int v1), (2, .int v2), (3, .int v3), (4, .int v4), (5, .int v5), (6, .int v6), (7, .int v7), (8, .long v8)]) hx hb dX12_spread_157 hl (k := 9) rfl (by rw [← Option.some.inj e38]; rfl) (by decide) rfl (fun ls hl => ?_)
    refine lv_goto (tgt := 78) hx hb dX12_spread_160 (by decide) ?_
    exact Kb v7 v8 x37 τ (Option.some.inj hf).symm _ _ hJ ls (lv_sub hl [1, 2, 3, 4, 5, 6, 7, 8, 9, 0] rfl)
  have D152_78 : ∀ (v0 : Nat) (v1 : Int32) (v2 : Int32) (v3 : Int32) (v4 : Int32) (v5 : Int32) (v6 : Int32) (v10 : Int32) (w0 : Int64) (τ : mx_S) (o : (Int32 × Int64 × Int32 × mx_S) ⊕ ((Int32 × Int64 × mx_S))), f_X12_spread_D152_78 P v0 v1 v2 v3 v4 v5 v6 v10 w0 τ = some o → (∀ (y7 : Int32) (y8 : Int64) (y10 : Int32) (υ : mx_S), o = .inl (y7, y8, y10, υ) → ∀ (H : Heap) (locs : List Loc), mx_J G P s.heap (mxz σ) (mxu σ) υ H locs → ∀ ls : Array Slot, lv_has ls 13 [(0, .ref v0), (1, .int v1), (2, .int v2), (3, .int v3), (4, .int v4), (5, .int v5), (6, .int v6), (7, .int y7), (8, .long y8), (10, .int y10)] → W p l e (mx_rm P 7 182 σ) s m ([.ref a0, .int p1, .int p2, .int p3, .int p4, .int p5] : List Value).toArray below meth c H locs (mxz υ - mxz σ) (mxu υ - mxu σ) (mx_Z below G P (some (.long r)) σ σ' [.ref a0, .int p1, .int p2, .int p3, .int p4, .int p5] s) (F0 m 78 ls [])) → (∀ (y7 : Int32) (y8 : Int64) (υ : mx_S), o = .inr (y7, y8, υ) → ∀ (H : Heap) (locs : List Loc), mx_J G P s.heap (mxz σ) (mxu σ) υ H locs → ∀ ls : Array Slot, lv_has ls 13 [(0, .ref v0), (2, .int v2), (6, .int v6), (7, .int y7), (8, .long y8)] → W p l e (mx_rm P 7 182 σ) s m ([.ref a0, .int p1, .int p2, .int p3, .int p4, .int p5] : List Value).toArray below meth c H locs (mxz υ - mxz σ) (mxu υ - mxu σ) (mx_Z below G P (some (.long r)) σ σ' [.ref a0, .int p1, .int p2, .int p3, .int p4, .int p5] s) (F0 m 163 ls [])) → ∀ (H : Heap) (locs : List Loc), mx_J G P s.heap (mxz σ) (mxu σ) τ H locs → ∀ ls : Array Slot, lv_has ls 13 [(0, .ref v0), (1, .int v1), (2, .int v2), (3, .int v3), (4, .int v4), (5, .int v5), (6, .int v6), (10, .int v10)] → W p l e (mx_rm P 7 182 σ) s m ([.ref a0, .int p1, .int p2, .int p3, .int p4, .int p5] : List Value).toArray below meth c H locs (mxz τ - mxz σ) (mxu τ - mxu σ) (mx_Z below G P (some (.long r)) σ σ' [.ref a0, .int p1, .int p2, .int p3, .int p4, .int p5] s) (F0 m 152 ls [.long w0]) := by
    intro v0 v1 v2 v3 v4 v5 v6 v10 w0 τ o hf Kb Ke0 H locs hJ ls hl
    unfold f_X12_spread_D152_78 at hf
    refine lv_lstore (lv' := [(8, .long w0), (0, .ref v0), (1, .int v1), (2, .int v2), (3, .int v3), (4, .int v4), (5, .int v5), (6, .int v6), (10, .int v10)]) hx hb dX12_spread_152 hl (by decide) rfl (fun ls hl => ?_)
    refine lv_iconst (v := 1) hx hb dX12_spread_154 (by decide) ?_
    refine lv_istore (lv' := [(7, .int (1 : Int32)), (8, .long w0), (0, .ref v0), (1, .int v1), (2, .int v2), (3, .int v3), (4, .int v4), (5, .int v5), (6, .int v6), (10, .int v10)]) hx hb dX12_spread_155 hl (by decide) rfl (fun ls hl => ?_)
    exact D157_78 v0 v1 v2 v3 v4 v5 v6 (1 : Int32) w0 v10 τ o hf Kb Ke0 _ _ hJ ls (lv_sub hl [2, 3, 4, 5, 6, 7, 8, 0, 1, 9] rfl)
  have B78 : ∀ (v0 : Nat) (v1 : Int32) (v2 : Int32) (v3 : Int32) (v4 : Int32) (v5 : Int32) (v6 : Int32) (v7 : Int32) (v8 : Int64) (v10 : Int32) (τ : mx_S) (o : (Int32 × Int64 × Int32 × mx_S) ⊕ ((Int32 × Int64 × mx_S))), f_X12_spread_B78 P v0 v1 v2 v3 v4 v5 v6 v7 v8 v10 τ = some o → (∀ (y7 : Int32) (y8 : Int64) (y10 : Int32) (υ : mx_S), o = .inl (y7, y8, y10, υ) → ∀ (H : Heap) (locs : List Loc), mx_J G P s.heap (mxz σ) (mxu σ) υ H locs → ∀ ls : Array Slot, lv_has ls 13 [(0, .ref v0), (1, .int v1), (2, .int v2), (3, .int v3), (4, .int v4), (5, .int v5), (6, .int v6), (7, .int y7), (8, .long y8), (10, .int y10)] → W p l e (mx_rm P 7 182 σ) s m ([.ref a0, .int p1, .int p2, .int p3, .int p4, .int p5] : List Value).toArray below meth c H locs (mxz υ - mxz σ) (mxu υ - mxu σ) (mx_Z below G P (some (.long r)) σ σ' [.ref a0, .int p1, .int p2, .int p3, .int p4, .int p5] s) (F0 m 78 ls [])) → (∀ (y7 : Int32) (y8 : Int64) (υ : mx_S), o = .inr (y7, y8, υ) → ∀ (H : Heap) (locs : List Loc), mx_J G P s.heap (mxz σ) (mxu σ) υ H locs → ∀ ls : Array Slot, lv_has ls 13 [(0, .ref v0), (2, .int v2), (6, .int v6), (7, .int y7), (8, .long y8)] → W p l e (mx_rm P 7 182 σ) s m ([.ref a0, .int p1, .int p2, .int p3, .int p4, .int p5] : List Value).toArray below meth c H locs (mxz υ - mxz σ) (mxu υ - mxu σ) (mx_Z below G P (some (.long r)) σ σ' [.ref a0, .int p1, .int p2, .int p3, .int p4, .int p5] s) (F0 m 163 ls [])) → ∀ (H : Heap) (locs : List Loc), mx_J G P s.heap (mxz σ) (mxu σ) τ H locs → ∀ ls : Array Slot, lv_has ls 13 [(0, .ref v0), (1, .int v1), (2, .int v2), (3, .int v3), (4, .int v4), (5, .int v5), (6, .int v6), (7, .int v7), (8, .long v8), (10, .int v10)] → W p l e (mx_rm P 7 182 σ) s m ([.ref a0, .int p1, .int p2, .int p3, .int p4, .int p5] : List Value).toArray below meth c H locs (mxz τ - mxz σ) (mxu τ - mxu σ) (mx_Z below G P (some (.long r)) σ σ' [.ref a0, .int p1, .int p2, .int p3, .int p4, .int p5] s) (F0 m 78 ls []) := by
    intro v0 v1 v2 v3 v4 v5 v6 v7 v8 v10 τ o hf Kb Ke0 H locs hJ ls hl
    unfold f_X12_spread_B78 at hf
    refine lv_iload hx hb dX12_spread_78 (lv_at hl 9 rfl) ?_
    refine lv_sipush (v := 1024) hx hb dX12_spread_80 (by decide) ?_
    refine lv_icmp_ge (tgt := 163) hx hb dX12_spread_83 (by decide) (fun c16 => ?_) (fun c16 => ?_)
    · rw [if_pos c16] at hf
      exact Ke0 v7 v8 τ (Option.some.inj hf).symm _ _ hJ ls (lv_sub hl [0, 2, 6, 7, 8] rfl)
    · rw [if_neg c16] at hf
      refine lv_aload_n hx hb dX12_spread_86 rfl (lv_at hl 0 rfl) ?_
      obtain ⟨b17, e18, hf⟩ := mb0 hf
      refine my_gR hx hb hts hown hK hJ fd_RX12_63 hv_12_34 e18 dX12_spread_87 ?_
      refine lv_iload_n hx hb dX12_spread_90 rfl (lv_at hl 2 rfl) ?_
      refine lv_iload hx hb dX12_spread_91 (lv_at hl 9 rfl) ?_
      obtain ⟨σ19, e20, hf⟩ := mb0 hf
      refine mx_sI hx hb hK hJ e20 dX12_spread_93 (fun H locs hJ => ?_)
      refine lv_aload_n hx hb dX12_spread_94 rfl (lv_at hl 0 rfl) ?_
      refine lv_iload_n hx hb dX12_spread_95 rfl (lv_at hl 1 rfl) ?_
      obtain ⟨i21, e22, hf⟩ := mb0 hf
      obtain ⟨x24, σ23, e25, hf⟩ := mc0 hf
      refine mx_callV (As := [.int v1]) (rest := []) hx hb hml hts hown hK hJ rfl rfl (ci := 12) rfl e22 (c_X12_worked l G P v0 v1 σ19 x24 σ23 e25) me_X12_worked kw_2362 ks_103 kw_2360 (Nat.le_of_ble_eq_true rfl) (Nat.le_of_ble_eq_true rfl) rfl hl.1 rfl (Nat.le_of_ble_eq_true rfl) dX12_spread_96 (fun H locs hJ => ?_)
      refine lv_iconst (v := 1) hx hb dX12_spread_99 (by decide) ?_
      refine lv_icmp_eq (tgt := 106) hx hb dX12_spread_100 (by decide) (fun c26 => ?_) (fun c26 => ?_)
      · rw [if_pos c26] at hf
        refine lv_aload_n hx hb dX12_spread_106 rfl (lv_at hl 0 rfl) ?_
        refine lv_iconst (v := 2) hx hb dX12_spread_107 (by decide) ?_
        refine lv_iload_n hx hb dX12_spread_108 rfl (lv_at hl 3 rfl) ?_
        refine lv_imul hx hb dX12_spread_109 ?_
        refine lv_iload hx hb dX12_spread_110 (lv_at hl 4 rfl) ?_
        refine lv_iadd hx hb dX12_spread_112 ?_
        refine lv_iload hx hb dX12_spread_113 (lv_at hl 5 rfl) ?_
        obtain ⟨i27, e28, hf⟩ := mb0 hf
        obtain ⟨x30, σ29, e31, hf⟩ := mc0 hf
        refine mx_callV (As := [.int (((2 : Int32) * v3) + v4), .int v5]) (rest := []) hx hb hml hts hown hK hJ rfl rfl (ci := 12) rfl e28 (c_X12_sideOf l G P v0 (((2 : Int32) * v3) + v4) v5 σ23 x30 σ29 e31) me_X12_sideOf kw_2502 ks_131 kw_2500 (Nat.le_of_ble_eq_true rfl) (Nat.le_of_ble_eq_true rfl) rfl hl.1 rfl (Nat.le_of_ble_eq_true rfl) dX12_spread_115 (fun H locs hJ => ?_)
        refine lv_lstore (lv' := [(11, .long x30), (0, .ref v0), (1, .int v1), (2, .int v2), (3, .int v3), (4, .int v4), (5, .int v5), (6, .int v6), (7, .int v7), (8, .long v8), (10, .int v10)]) hx hb dX12_spread_118 hl (by decide) rfl (fun ls hl => ?_)
        refine lv_iload hx hb dX12_spread_120 (lv_at hl 8 rfl) ?_
        refine lv_if_ne (tgt := 130) hx hb dX12_spread_122 (by decide) (fun c32 => ?_) (fun c32 => ?_)
        · rw [if_neg c32] at hf
          refine lv_iload hx hb dX12_spread_130 (lv_at hl 6 rfl) ?_
          refine lv_if_ne (tgt := 145) hx hb dX12_spread_132 (by decide) (fun c33 => ?_) (fun c33 => ?_)
          · rw [if_neg c33] at hf
            refine lv_lload hx hb dX12_spread_145 (lv_at hl 9 rfl) ?_
            refine lv_lload hx hb dX12_spread_147 (lv_at hl 0 rfl) ?_
            obtain ⟨x35, σ34, e36, hf⟩ := mc0 hf
            refine mx_callS (As := [.long v8, .long x30]) (rest := []) hx hb hml hts hown hK hJ rfl rfl (c_X12_most l G P v8 x30 σ29 x35 σ34 e36) me_X12_most kw_2413 kw_2412 (Nat.le_of_ble_eq_true rfl) (Nat.le_of_ble_eq_true rfl) rfl hl.1 rfl (Nat.le_of_ble_eq_true rfl) dX12_spread_149 (fun H locs hJ => ?_)
            exact D152_78 v0 v1 v2 v3 v4 v5 v6 v10 x35 σ34 o hf Kb Ke0 _ _ hJ ls (lv_sub hl [1, 2, 3, 4, 5, 6, 7, 10] rfl)
          · rw [if_pos c33] at hf
            refine lv_lload hx hb dX12_spread_135 (lv_at hl 9 rfl) ?_
            refine lv_lload hx hb dX12_spread_137 (lv_at hl 0 rfl) ?_
            obtain ⟨x40, σ39, e41, hf⟩ := mc0 hf
            refine mx_callS (As := [.long v8, .long x30]) (rest := []) hx hb hml hts hown hK hJ rfl rfl (c_X12_smaller l G P v8 x30 σ29 x40 σ39 e41) me_X12_smaller kw_2410 kw_2409 (Nat.le_of_ble_eq_true rfl) (Nat.le_of_ble_eq_true rfl) rfl hl.1 rfl (Nat.le_of_ble_eq_true rfl) dX12_spread_139 (fun H locs hJ => ?_)
            refine lv_goto (tgt := 152) hx hb dX12_spread_142 (by decide) ?_
            exact D152_78 v0 v1 v2 v3 v4 v5 v6 v10 x40 σ39 o hf Kb Ke0 _ _ hJ ls (lv_sub hl [1, 2, 3, 4, 5, 6, 7, 10] rfl)
        · rw [if_pos c32] at hf
          refine lv_lload hx hb dX12_spread_125 (lv_at hl 0 rfl) ?_
          refine lv_goto (tgt := 152) hx hb dX12_spread_127 (by decide) ?_
          exact D152_78 v0 v1 v2 v3 v4 v5 v6 v10 x30 σ29 o hf Kb Ke0 _ _ hJ ls (lv_sub hl [1, 2, 3, 4, 5, 6, 7, 10] rfl)
      · rw [if_neg c26] at hf
        refine lv_goto (tgt := 157) hx hb dX12_spread_103 (by decide) ?_
        exact D157_78 v0 v1 v2 v3 v4 v5 v6 v7 v8 v10 σ23 o hf Kb Ke0 _ _ hJ ls (lv_sub hl [0, 1, 2, 3, 4, 5, 6, 7, 8, 9] rfl)
  have L78 : ∀ (v0 : Nat) (v1 : Int32) (v2 : Int32) (v3 : Int32) (v4 : Int32) (v5 : Int32) (v6 : Int32) (n : Nat) (v7 : Int32) (v8 : Int64) (v10 : Int32) (τ : mx_S) (o : (Int32 × Int64 × mx_S)), mx_lp (f_X12_spread_L78 P v0 v1 v2 v3 v4 v5 v6) n (v7, v8, v10, τ) = some o → (∀ (y7 : Int32) (y8 : Int64) (υ : mx_S), o = (y7, y8, υ) → ∀ (H : Heap) (locs : List Loc), mx_J G P s.heap (mxz σ) (mxu σ) υ H locs → ∀ ls : Array Slot, lv_has ls 13 [(0, .ref v0), (2, .int v2), (6, .int v6), (7, .int y7), (8, .long y8)] → W p l e (mx_rm P 7 182 σ) s m ([.ref a0, .int p1, .int p2, .int p3, .int p4, .int p5] : List Value).toArray below meth c H locs (mxz υ - mxz σ) (mxu υ - mxu σ) (mx_Z below G P (some (.long r)) σ σ' [.ref a0, .int p1, .int p2, .int p3, .int p4, .int p5] s) (F0 m 163 ls [])) → ∀ (H : Heap) (locs : List Loc), mx_J G P s.heap (mxz σ) (mxu σ) τ H locs → ∀ ls : Array Slot, lv_has ls 13 [(0, .ref v0), (1, .int v1), (2, .int v2), (3, .int v3), (4, .int v4), (5, .int v5), (6, .int v6), (7, .int v7), (8, .long v8), (10, .int v10)] → W p l e (mx_rm P 7 182 σ) s m ([.ref a0, .int p1, .int p2, .int p3, .int p4, .int p5] : List Value).toArray below meth c H locs (mxz τ - mxz σ) (mxu τ - mxu σ) (mx_Z below G P (some (.long r)) σ σ' [.ref a0, .int p1, .int p2, .int p3, .int p4, .int p5] s) (F0 m 78 ls []) := by
    intro v0 v1 v2 v3 v4 v5 v6 n
    induction n with
    | zero =>
      intro v7 v8 v10 τ o hf
      rw [mx_lp0] at hf
      cases hf
    | succ n ih =>
      intro v7 v8 v10 τ o hf Ke0 H locs hJ ls hl
      rw [mx_lpS] at hf
      obtain ⟨b, eb, hf⟩ := mb0 hf
      refine B78 v0 v1 v2 v3 v4 v5 v6 v7 v8 v10 τ b eb (fun y7 y8 y10 υ ho H locs hJ ls hl => ?_) (fun y7 y8 υ ho H locs hJ ls hl => ?_) H locs hJ ls hl
      · subst ho
        exact ih y7 y8 y10 υ o hf Ke0 H locs hJ ls hl
      · subst ho
        exact Ke0 y7 y8 υ (Option.some.inj hf).symm _ _ hJ ls hl
  have D182 : ∀ (v8 : Int64) (w0 : Int32) (w1 : Nat) (τ : mx_S), f_X12_spread_D182 P v8 w0 w1 τ = some (r, σ') → ∀ (H : Heap) (locs : List Loc), mx_J G P s.heap (mxz σ) (mxu σ) τ H locs → ∀ ls : Array Slot, lv_has ls 13 [(8, .long v8)] → W p l e (mx_rm P 7 182 σ) s m ([.ref a0, .int p1, .int p2, .int p3, .int p4, .int p5] : List Value).toArray below meth c H locs (mxz τ - mxz σ) (mxu τ - mxu σ) (mx_Z below G P (some (.long r)) σ σ' [.ref a0, .int p1, .int p2, .int p3, .int p4, .int p5] s) (F0 m 182 ls [.int w0, .ref w1]) := by
    intro v8 w0 w1 τ hf _ _ hJ ls hl
    unfold f_X12_spread_D182 at hf
    obtain ⟨σ52, e53, hf⟩ := mb0 hf
    refine my_pI hx hb hts hown hK hJ fd_RX12_243 cd_12 (Or.inl rfl) ht_12_0 e53 dX12_spread_182 (fun H locs hJ => ?_)
    refine lv_lload hx hb dX12_spread_185 (lv_at hl 0 rfl) ?_
    exact my_lret hx hb hr hlocks hJ hf dX12_spread_187
  have D49 : ∀ (v0 : Nat) (v1 : Int32) (v2 : Int32) (v3 : Int32) (v4 : Int32) (v5 : Int32) (w0 : Int32) (w1 : Nat) (τ : mx_S), f_X12_spread_D49 P v0 v1 v2 v3 v4 v5 w0 w1 τ = some (r, σ') → ∀ (H : Heap) (locs : List Loc), mx_J G P s.heap (mxz σ) (mxu σ) τ H locs → ∀ ls : Array Slot, lv_has ls 13 [(0, .ref v0), (1, .int v1), (2, .int v2), (3, .int v3), (4, .int v4), (5, .int v5)] → W p l e (mx_rm P 7 182 σ) s m ([.ref a0, .int p1, .int p2, .int p3, .int p4, .int p5] : List Value).toArray below meth c H locs (mxz τ - mxz σ) (mxu τ - mxu σ) (mx_Z below G P (some (.long r)) σ σ' [.ref a0, .int p1, .int p2, .int p3, .int p4, .int p5] s) (F0 m 49 ls [.int w0, .ref w1]) := by
    intro v0 v1 v2 v3 v4 v5 w0 w1 τ hf _ _ hJ ls hl
    unfold f_X12_spread_D49 at hf
    obtain ⟨σ7, e8, hf⟩ := mb0 hf
    refine my_pI hx hb hts hown hK hJ fd_RX12_243 cd_12 (Or.inl rfl) ht_12_0 e8 dX12_spread_49 (fun H locs hJ => ?_)
    refine lv_aload_n hx hb dX12_spread_52 rfl (lv_at hl 0 rfl) ?_
    obtain ⟨x9, e10, hf⟩ := mb0 hf
    refine my_gI hx hb hts hown hK hJ fd_RX12_243 hv_12_0 e10 dX12_spread_53 ?_
    refine lv_if_le (tgt := 61) hx hb dX12_spread_56 (by decide) (fun c11 => ?_) (fun c11 => ?_)
    · rw [if_pos c11] at hf
      refine lv_aload_n hx hb dX12_spread_61 rfl (lv_at hl 0 rfl) ?_
      obtain ⟨b12, e13, hf⟩ := mb0 hf
      refine my_gR hx hb hts hown hK hJ fd_RX12_63 hv_12_34 e13 dX12_spread_62 ?_
      refine lv_iload_n hx hb dX12_spread_65 rfl (lv_at hl 2 rfl) ?_
      obtain ⟨x14, e15, hf⟩ := mb0 hf
      refine mx_aI hx hb hK hJ e15 dX12_spread_66 ?_
      refine lv_istore (lv' := [(6, .int x14), (0, .ref v0), (1, .int v1), (2, .int v2), (3, .int v3), (4, .int v4), (5, .int v5)]) hx hb dX12_spread_67 hl (by decide) rfl (fun ls hl => ?_)
      refine lv_iconst (v := 0) hx hb dX12_spread_69 (by decide) ?_
      refine lv_istore (lv' := [(7, .int (0 : Int32)), (6, .int x14), (0, .ref v0), (1, .int v1), (2, .int v2), (3, .int v3), (4, .int v4), (5, .int v5)]) hx hb dX12_spread_70 hl (by decide) rfl (fun ls hl => ?_)
      refine lv_lconst (v := 0) hx hb dX12_spread_72 (by decide) ?_
      refine lv_lstore (lv' := [(8, .long (0 : Int64)), (7, .int (0 : Int32)), (6, .int x14), (0, .ref v0), (1, .int v1), (2, .int v2), (3, .int v3), (4, .int v4), (5, .int v5)]) hx hb dX12_spread_73 hl (by decide) rfl (fun ls hl => ?_)
      refine lv_iconst (v := 0) hx hb dX12_spread_75 (by decide) ?_
      refine lv_istore (lv' := [(10, .int (0 : Int32)), (8, .long (0 : Int64)), (7, .int (0 : Int32)), (6, .int x14), (0, .ref v0), (1, .int v1), (2, .int v2), (3, .int v3), (4, .int v4), (5, .int v5)]) hx hb dX12_spread_76 hl (by decide) rfl (fun ls hl => ?_)
      obtain ⟨o42, e43, hf⟩ := mb0 hf
      refine L78 v0 v1 v2 v3 v4 v5 x14 (mpN P) (0 : Int32) (0 : Int64) (0 : Int32) σ7 o42 e43 (fun y44 y45 σ46 ho H locs hJ ls hl => ?_) _ _ hJ ls (lv_sub hl [4, 5, 6, 7, 8, 9, 3, 2, 1, 0] rfl)
      · rw [ho] at hf
        have hf : ((mg_R σ46 v0 12 34).bind fun b47 => (ms_I P σ46 b47 0 v2 x14).bind fun σ49 => (if y44 = 0 then f_X12_spread_D182 P y45 (2 : Int32) v0 σ49 else f_X12_spread_D182 P y45 (0 : Int32) v0 σ49)) = some (r, σ') := hf
        refine lv_aload_n hx hb dX12_spread_163 rfl (lv_at hl 0 rfl) ?_
        obtain ⟨b47, e48, hf⟩ := mb0 hf
        refine my_gR hx hb hts hown hK hJ fd_RX12_63 hv_12_34 e48 dX12_spread_164 ?_
        refine lv_iload_n hx hb dX12_spread_167 rfl (lv_at hl 1 rfl) ?_
        refine lv_iload hx hb dX12_spread_168 (lv_at hl 2 rfl) ?_
        obtain ⟨σ49, e50, hf⟩ := mb0 hf
        refine mx_sI hx hb hK hJ e50 dX12_spread_170 (fun H locs hJ => ?_)
        refine lv_aload_n hx hb dX12_spread_171 rfl (lv_at hl 0 rfl) ?_
        refine lv_iload hx hb dX12_spread_172 (lv_at hl 3 rfl) ?_
        refine lv_if_eq (tgt := 181) hx hb dX12_spread_174 (by decide) (fun c51 => ?_) (fun c51 => ?_)
        · rw [if_pos c51] at hf
          refine lv_iconst (v := 2) hx hb dX12_spread_181 (by decide) ?_
          exact D182 y45 (2 : Int32) v0 σ49 hf _ _ hJ ls (lv_sub hl [4] rfl)
        · rw [if_neg c51] at hf
          refine lv_iconst (v := 0) hx hb dX12_spread_177 (by decide) ?_
          refine lv_goto (tgt := 182) hx hb dX12_spread_178 (by decide) ?_
          exact D182 y45 (0 : Int32) v0 σ49 hf _ _ hJ ls (lv_sub hl [4] rfl)
    · rw [if_neg c11] at hf
      refine lv_lconst (v := 0) hx hb dX12_spread_59 (by decide) ?_
      exact my_lret hx hb hr hlocks hJ hf dX12_spread_60
  have D32 : ∀ (v0 : Nat) (v1 : Int32) (v2 : Int32) (v3 : Int32) (v4 : Int32) (v5 : Int32) (w0 : Nat) (τ : mx_S), f_X12_spread_D32 P v0 v1 v2 v3 v4 v5 w0 τ = some (r, σ') → ∀ (H : Heap) (locs : List Loc), mx_J G P s.heap (mxz σ) (mxu σ) τ H locs → ∀ ls : Array Slot, lv_has ls 13 [(0, .ref v0), (1, .int v1), (2, .int v2), (3, .int v3), (4, .int v4), (5, .int v5)] → W p l e (mx_rm P 7 182 σ) s m ([.ref a0, .int p1, .int p2, .int p3, .int p4, .int p5] : List Value).toArray below meth c H locs (mxz τ - mxz σ) (mxu τ - mxu σ) (mx_Z below G P (some (.long r)) σ σ' [.ref a0, .int p1, .int p2, .int p3, .int p4, .int p5] s) (F0 m 32 ls [.ref w0]) := by
    intro v0 v1 v2 v3 v4 v5 w0 τ hf _ _ hJ ls hl
    unfold f_X12_spread_D32 at hf
    refine lv_iconst (v := 1) hx hb dX12_spread_32 (by decide) ?_
    refine lv_goto (tgt := 49) hx hb dX12_spread_33 (by decide) ?_
    exact D49 v0 v1 v2 v3 v4 v5 (1 : Int32) w0 τ hf _ _ hJ ls (lv_sub hl [0, 1, 2, 3, 4, 5] rfl)
  unfold f_X12_spread at hf
  refine lv_aload_n hx hb dX12_spread_0 rfl (lv_at hl 0 rfl) ?_
  refine lv_aload_n hx hb dX12_spread_1 rfl (lv_at hl 0 rfl) ?_
  refine lv_iload_n hx hb dX12_spread_2 rfl (lv_at hl 1 rfl) ?_
  refine lv_iload_n hx hb dX12_spread_3 rfl (lv_at hl 2 rfl) ?_
  obtain ⟨i1, e2, hf⟩ := mb0 hf
  obtain ⟨x4, σ3, e5, hf⟩ := mc0 hf
  refine mx_callV (As := [.int p1, .int p2]) (rest := [.ref a0]) hx hb hml hts hown hK hJ rfl rfl (ci := 12) rfl e2 (c_X12_isWay l G P a0 p1 p2 σ x4 σ3 e5) me_X12_isWay kw_2510 ks_132 kw_2508 (Nat.le_of_ble_eq_true rfl) (Nat.le_of_ble_eq_true rfl) rfl hl.1 rfl (Nat.le_of_ble_eq_true rfl) dX12_spread_4 (fun H locs hJ => ?_)
  refine lv_if_eq (tgt := 32) hx hb dX12_spread_7 (by decide) (fun c6 => ?_) (fun c6 => ?_)
  · rw [if_pos c6] at hf
    exact D32 a0 p1 p2 p3 p4 p5 a0 σ3 hf _ _ hJ ls (lv_sub hl [0, 1, 2, 3, 4, 5] rfl)
  · rw [if_neg c6] at hf
    refine lv_iload hx hb dX12_spread_10 (lv_at hl 4 rfl) ?_
    refine lv_i2l hx hb dX12_spread_12 rfl ?_
    refine lv_lconst (v := 0) hx hb dX12_spread_13 (by decide) ?_
    refine lv_lconst (v := 1) hx hb dX12_spread_14 (by decide) ?_
    obtain ⟨x55, σ54, e56, hf⟩ := mc0 hf
    refine mx_callS (As := [.long (p4.toInt64), .long (0 : Int64), .long (1 : Int64)]) (rest := [.ref a0]) hx hb hml hts hown hK hJ rfl rfl (c_X12_in l G P (p4.toInt64) (0 : Int64) (1 : Int64) σ3 x55 σ54 e56) me_X12_in kw_2223 kw_2222 (Nat.le_of_ble_eq_true rfl) (Nat.le_of_ble_eq_true rfl) rfl hl.1 rfl (Nat.le_of_ble_eq_true rfl) dX12_spread_15 (fun H locs hJ => ?_)
    refine lv_if_eq (tgt := 32) hx hb dX12_spread_18 (by decide) (fun c57 => ?_) (fun c57 => ?_)
    · rw [if_pos c57] at hf
      exact D32 a0 p1 p2 p3 p4 p5 a0 σ54 hf _ _ hJ ls (lv_sub hl [0, 1, 2, 3, 4, 5] rfl)
    · rw [if_neg c57] at hf
      refine lv_iload hx hb dX12_spread_21 (lv_at hl 5 rfl) ?_
      refine lv_i2l hx hb dX12_spread_23 rfl ?_
      refine lv_lconst (v := 0) hx hb dX12_spread_24 (by decide) ?_
      refine lv_lconst (v := 1) hx hb dX12_spread_25 (by decide) ?_
      obtain ⟨x59, σ58, e60, hf⟩ := mc0 hf
      refine mx_callS (As := [.long (p5.toInt64), .long (0 : Int64), .long (1 : Int64)]) (rest := [.ref a0]) hx hb hml hts hown hK hJ rfl rfl (c_X12_in l G P (p5.toInt64) (0 : Int64) (1 : Int64) σ54 x59 σ58 e60) me_X12_in kw_2223 kw_2222 (Nat.le_of_ble_eq_true rfl) (Nat.le_of_ble_eq_true rfl) rfl hl.1 rfl (Nat.le_of_ble_eq_true rfl) dX12_spread_26 (fun H locs hJ => ?_)
      refine lv_if_ne (tgt := 36) hx hb dX12_spread_29 (by decide) (fun c61 => ?_) (fun c61 => ?_)
      · rw [if_neg c61] at hf
        refine lv_aload_n hx hb dX12_spread_36 rfl (lv_at hl 0 rfl) ?_
        refine lv_iload_n hx hb dX12_spread_37 rfl (lv_at hl 3 rfl) ?_
        obtain ⟨i62, e63, hf⟩ := mb0 hf
        obtain ⟨x65, σ64, e66, hf⟩ := mc0 hf
        refine mx_callV (As := [.int p3]) (rest := [.ref a0]) hx hb hml hts hown hK hJ rfl rfl (ci := 12) rfl e63 (c_X12_isPoint l G P a0 p3 σ58 x65 σ64 e66) me_X12_isPoint kw_2498 ks_130 kw_2496 (Nat.le_of_ble_eq_true rfl) (Nat.le_of_ble_eq_true rfl) rfl hl.1 rfl (Nat.le_of_ble_eq_true rfl) dX12_spread_38 (fun H locs hJ => ?_)
        refine lv_if_eq (tgt := 48) hx hb dX12_spread_41 (by decide) (fun c67 => ?_) (fun c67 => ?_)
        · rw [if_pos c67] at hf
          refine lv_iconst (v := 2) hx hb dX12_spread_48 (by decide) ?_
          exact D49 a0 p1 p2 p3 p4 p5 (2 : Int32) a0 σ64 hf _ _ hJ ls (lv_sub hl [0, 1, 2, 3, 4, 5] rfl)
        · rw [if_neg c67] at hf
          refine lv_iconst (v := 0) hx hb dX12_spread_44 (by decide) ?_
          refine lv_goto (tgt := 49) hx hb dX12_spread_45 (by decide) ?_
          exact D49 a0 p1 p2 p3 p4 p5 (0 : Int32) a0 σ64 hf _ _ hJ ls (lv_sub hl [0, 1, 2, 3, 4, 5] rfl)
      · rw [if_pos c61] at hf
        exact D32 a0 p1 p2 p3 p4 p5 a0 σ58 hf _ _ hJ ls (lv_sub hl [0, 1, 2, 3, 4, 5] rfl)
set_option maxHeartbeats 4000000 in
set_option maxRecDepth 100000 in
theorem c_X12_least (l : Launch) (G : mx_G) (P : mx_P) (a0 : Nat) (p1 : Int32) (p2 : Int32) (p3 : Int32) (p4 : Int32) (p5 : Int32) (σ : mx_S) (r : Int64) (σ' : mx_S) (hf : f_X12_least P a0 p1 p2 p3 p4 p5 σ = some (r, σ')) : mxz σ ≤ mpc P → mxu σ ≤ mps P → mx_M l yX12_least cX12_least 13 (some .long) 7 182 G P [.ref a0, .int p1, .int p2, .int p3, .int p4, .int p5] σ (some (.long r)) σ' := by
  intro hcap hcau
  refine mx_ofW (by decide +kernel) hcap hcau (Nat.le_of_ble_eq_true rfl) ?_
  intro p e s m below meth c hx hb hr hml hts hown hlocks hname hK hJ ls hl
  have hz0 := hJ.2.1
  have hown : s.vm.findClass RX12 = some m.cls := hown
  have hl : lv_has ls 13 [(0, .ref a0), (1, .int p1), (2, .int p2), (3, .int p3), (4, .int p4), (5, .int p5)] := hl
  have D171_76 : ∀ (v0 : Nat) (v1 : Int32) (v2 : Int32) (v3 : Int32) (v4 : Int32) (v5 : Int32) (v6 : Int32) (v7 : Int32) (v8 : Int64) (v10 : Int32) (τ : mx_S) (o : (Int32 × Int64 × Int32 × mx_S) ⊕ ((Int32 × Int64 × mx_S))), f_X12_least_D171_76 P v0 v1 v2 v3 v4 v5 v6 v7 v8 v10 τ = some o → (∀ (y7 : Int32) (y8 : Int64) (y10 : Int32) (υ : mx_S), o = .inl (y7, y8, y10, υ) → ∀ (H : Heap) (locs : List Loc), mx_J G P s.heap (mxz σ) (mxu σ) υ H locs → ∀ ls : Array Slot, lv_has ls 13 [(0, .ref v0), (1, .int v1), (2, .int v2), (3, .int v3), (4, .int v4), (5, .int v5), (6, .int v6), (7, .int y7), (8, .long y8), (10, .int y10)] → W p l e (mx_rm P 7 182 σ) s m ([.ref a0, .int p1, .int p2, .int p3, .int p4, .int p5] : List Value).toArray below meth c H locs (mxz υ - mxz σ) (mxu υ - mxu σ) (mx_Z below G P (some (.long r)) σ σ' [.ref a0, .int p1, .int p2, .int p3, .int p4, .int p5] s) (F0 m 76 ls [])) → (∀ (y7 : Int32) (y8 : Int64) (υ : mx_S), o = .inr (y7, y8, υ) → ∀ (H : Heap) (locs : List Loc), mx_J G P s.heap (mxz σ) (mxu σ) υ H locs → ∀ ls : Array Slot, lv_has ls 13 [(0, .ref v0), (2, .int v2), (6, .int v6), (7, .int y7), (8, .long y8)] → W p l e (mx_rm P 7 182 σ) s m ([.ref a0, .int p1, .int p2, .int p3, .int p4, .int p5] : List Value).toArray below meth c H locs (mxz υ - mxz σ) (mxu υ - mxu σ) (mx_Z below G P (some (.long r)) σ σ' [.ref a0, .int p1, .int p2, .int p3, .int p4, .int p5] s) (F0 m 177 ls [])) → ∀ (H : Heap) (locs : List Loc), mx_J G P s.heap (mxz σ) (mxu σ) τ H locs → ∀ ls : Array Slot, lv_has ls 13 [(0, .ref v0), (1, .int v1), (2, .int v2), (3, .int v3), (4, .int v4), (5, .int v5), (6, .int v6), (7, .int v7), (8, .long v8), (10, .int v10)] → W p l e (mx_rm P 7 182 σ) s m ([.ref a0, .int p1, .int p2, .int p3, .int p4, .int p5] : List Value).toArray below meth c H locs (mxz τ - mxz σ) (mxu τ - mxu σ) (mx_Z below G P (some (.long r)) σ σ' [.ref a0, .int p1, .int p2, .int p3, .int p4, .int p5] s) (F0 m 171 ls []) := by
    intro v0 v1 v2 v3 v4 v5 v6 v7 v8 v10 τ o hf Kb Ke0 H locs hJ ls hl
    unfold f_X12_least_D171_76 at hf
    obtain ⟨x46, e47, hf⟩ := mb0 hf
    refine lv_iinc (v := x46) (lv' := [(10, .int x46), (0, .ref v0), (1, .int v1), (2, .int v2), (3, .int v3), (4, .int v4), (5, .int v5), (6, .int v6), (7, .int v7), (8, .long v8)]) hx hb dX12_least_171 hl (k := 9) rfl (by rw [← Option.some.inj e47]; rfl) (by decide) rfl (fun ls hl => ?_)
    refine lv_goto (tgt := 76) hx hb dX12_least_174 (by decide) ?_
    exact Kb v7 v8 x46 τ (Option.some.inj hf).symm _ _ hJ ls (lv_sub hl [1, 2, 3, 4, 5, 6, 7, 8, 9, 0] rfl)
  have D166_76 : ∀ (v0 : Nat) (v1 : Int32) (v2 : Int32) (v3 : Int32) (v4 : Int32) (v5 : Int32) (v6 : Int32) (v10 : Int32) (w0 : Int64) (τ : mx_S) (o : (Int32 × Int64 × Int32 × mx_S) ⊕ ((Int32 × Int64 × mx_S))), f_X12_least_D166_76 P v0 v1 v2 v3 v4 v5 v6 v10 w0 τ = some o → (∀ (y7 : Int32) (y8 : Int64) (y10 : Int32) (υ : mx_S), o = .inl (y7, y8, y10, υ) → ∀ (H : Heap) (locs : List Loc), mx_J G P s.heap (mxz σ) (mxu σ) υ H locs → ∀ ls : Array Slot, lv_has ls 13 [(0, .ref v0), (1, .int v1), (2, .int v2), (3, .int v3), (4, .int v4), (5, .int v5), (6, .int v6), (7, .int y7), (8, .long y8), (10, .int y10)] → W p l e (mx_rm P 7 182 σ) s m ([.ref a0, .int p1, .int p2, .int p3, .int p4, .int p5] : List Value).toArray below meth c H locs (mxz υ - mxz σ) (mxu υ - mxu σ) (mx_Z below G P (some (.long r)) σ σ' [.ref a0, .int p1, .int p2, .int p3, .int p4, .int p5] s) (F0 m 76 ls [])) → (∀ (y7 : Int32) (y8 : Int64) (υ : mx_S), o = .inr (y7, y8, υ) → ∀ (H : Heap) (locs : List Loc), mx_J G P s.heap (mxz σ) (mxu σ) υ H locs → ∀ ls : Array Slot, lv_has ls 13 [(0, .ref v0), (2, .int v2), (6, .int v6), (7, .int y7), (8, .long y8)] → W p l e (mx_rm P 7 182 σ) s m ([.ref a0, .int p1, .int p2, .int p3, .int p4, .int p5] : List Value).toArray below meth c H locs (mxz υ - mxz σ) (mxu υ - mxu σ) (mx_Z below G P (some (.long r)) σ σ' [.ref a0, .int p1, .int p2, .int p3, .int p4, .int p5] s) (F0 m 177 ls [])) → ∀ (H : Heap) (locs : List Loc), mx_J G P s.heap (mxz σ) (mxu σ) τ H locs → ∀ ls : Array Slot, lv_has ls 13 [(0, .ref v0), (1, .int v1), (2, .int v2), (3, .int v3), (4, .int v4), (5, .int v5), (6, .int v6), (10, .int v10)] → W p l e (mx_rm P 7 182 σ) s m ([.ref a0, .int p1, .int p2, .int p3, .int p4, .int p5] : List Value).toArray below meth c H locs (mxz τ - mxz σ) (mxu τ - mxu σ) (mx_Z below G P (some (.long r)) σ σ' [.ref a0, .int p1, .int p2, .int p3, .int p4, .int p5] s) (F0 m 166 ls [.long w0]) := by
    intro v0 v1 v2 v3 v4 v5 v6 v10 w0 τ o hf Kb Ke0 H locs hJ ls hl
    unfold f_X12_least_D166_76 at hf
    refine lv_lstore (lv' := [(8, .long w0), (0, .ref v0), (1, .int v1), (2, .int v2), (3, .int v3), (4, .int v4), (5, .int v5), (6, .int v6), (10, .int v10)]) hx hb dX12_least_166 hl (by decide) rfl (fun ls hl => ?_)
    refine lv_iconst (v := 1) hx hb dX12_least_168 (by decide) ?_
    refine lv_istore (lv' := [(7, .int (1 : Int32)), (8, .long w0), (0, .ref v0), (1, .int v1), (2, .int v2), (3, .int v3), (4, .int v4), (5, .int v5), (6, .int v6), (10, .int v10)]) hx hb dX12_least_169 hl (by decide) rfl (fun ls hl => ?_)
    exact D171_76 v0 v1 v2 v3 v4 v5 v6 (1 : Int32) w0 v10 τ o hf Kb Ke0 _ _ hJ ls (lv_sub hl [2, 3, 4, 5, 6, 7, 8, 0, 1, 9] rfl)
  have B76 : ∀ (v0 : Nat) (v1 : Int32) (v2 : Int32) (v3 : Int32) (v4 : Int32) (v5 : Int32) (v6 : Int32) (v7 : Int32) (v8 : Int64) (v10 : Int32) (τ : mx_S) (o : (Int32 × Int64 × Int32 × mx_S) ⊕ ((Int32 × Int64 × mx_S))), f_X12_least_B76 P v0 v1 v2 v3 v4 v5 v6 v7 v8 v10 τ = some o → (∀ (y7 : Int32) (y8 : Int64) (y10 : Int32) (υ : mx_S), o = .inl (y7, y8, y10, υ) → ∀ (H : Heap) (locs : List Loc), mx_J G P s.heap (mxz σ) (mxu σ) υ H locs → ∀ ls : Array Slot, lv_has ls 13 [(0, .ref v0), (1, .int v1), (2, .int v2), (3, .int v3), (4, .int v4), (5, .int v5), (6, .int v6), (7, .int y7), (8, .long y8), (10, .int y10)] → W p l e (mx_rm P 7 182 σ) s m ([.ref a0, .int p1, .int p2, .int p3, .int p4, .int p5] : List Value).toArray below meth c H locs (mxz υ - mxz σ) (mxu υ - mxu σ) (mx_Z below G P (some (.long r)) σ σ' [.ref a0, .int p1, .int p2, .int p3, .int p4, .int p5] s) (F0 m 76 ls [])) → (∀ (y7 : Int32) (y8 : Int64) (υ : mx_S), o = .inr (y7, y8, υ) → ∀ (H : Heap) (locs : List Loc), mx_J G P s.heap (mxz σ) (mxu σ) υ H locs → ∀ ls : Array Slot, lv_has ls 13 [(0, .ref v0), (2, .int v2), (6, .int v6), (7, .int y7), (8, .long y8)] → W p l e (mx_rm P 7 182 σ) s m ([.ref a0, .int p1, .int p2, .int p3, .int p4, .int p5] : List Value).toArray below meth c H locs (mxz υ - mxz σ) (mxu υ - mxu σ) (mx_Z below G P (some (.long r)) σ σ' [.ref a0, .int p1, .int p2, .int p3, .int p4, .int p5] s) (F0 m 177 ls [])) → ∀ (H : Heap) (locs : List Loc), mx_J G P s.heap (mxz σ) (mxu σ) τ H locs → ∀ ls : Array Slot, lv_has ls 13 [(0, .ref v0), (1, .int v1), (2, .int v2), (3, .int v3), (4, .int v4), (5, .int v5), (6, .int v6), (7, .int v7), (8, .long v8), (10, .int v10)] → W p l e (mx_rm P 7 182 σ) s m ([.ref a0, .int p1, .int p2, .int p3, .int p4, .int p5] : List Value).toArray below meth c H locs (mxz τ - mxz σ) (mxu τ - mxu σ) (mx_Z below G P (some (.long r)) σ σ' [.ref a0, .int p1, .int p2, .int p3, .int p4, .int p5] s) (F0 m 76 ls []) := by
    intro v0 v1 v2 v3 v4 v5 v6 v7 v8 v10 τ o hf Kb Ke0 H locs hJ ls hl
    unfold f_X12_least_B76 at hf
    refine lv_iload hx hb dX12_least_76 (lv_at hl 9 rfl) ?_
    refine lv_sipush (v := 1024) hx hb dX12_least_78 (by decide) ?_
    refine lv_icmp_ge (tgt := 177) hx hb dX12_least_81 (by decide) (fun c16 => ?_) (fun c16 => ?_)
    · rw [if_pos c16] at hf
      exact Ke0 v7 v8 τ (Option.some.inj hf).symm _ _ hJ ls (lv_sub hl [0, 2, 6, 7, 8] rfl)
    · rw [if_neg c16] at hf
      refine lv_aload_n hx hb dX12_least_84 rfl (lv_at hl 0 rfl) ?_
      obtain ⟨b17, e18, hf⟩ := mb0 hf
      refine my_gR hx hb hts hown hK hJ fd_RX12_63 hv_12_34 e18 dX12_least_85 ?_
      refine lv_iload_n hx hb dX12_least_88 rfl (lv_at hl 2 rfl) ?_
      refine lv_iload hx hb dX12_least_89 (lv_at hl 9 rfl) ?_
      obtain ⟨σ19, e20, hf⟩ := mb0 hf
      refine mx_sI hx hb hK hJ e20 dX12_least_91 (fun H locs hJ => ?_)
      refine lv_aload_n hx hb dX12_least_92 rfl (lv_at hl 0 rfl) ?_
      refine lv_iload_n hx hb dX12_least_93 rfl (lv_at hl 1 rfl) ?_
      obtain ⟨i21, e22, hf⟩ := mb0 hf
      obtain ⟨x24, σ23, e25, hf⟩ := mc0 hf
      refine mx_callV (As := [.int v1]) (rest := []) hx hb hml hts hown hK hJ rfl rfl (ci := 12) rfl e22 (c_X12_worked l G P v0 v1 σ19 x24 σ23 e25) me_X12_worked kw_2362 ks_103 kw_2360 (Nat.le_of_ble_eq_true rfl) (Nat.le_of_ble_eq_true rfl) rfl hl.1 rfl (Nat.le_of_ble_eq_true rfl) dX12_least_94 (fun H locs hJ => ?_)
      refine lv_iconst (v := 1) hx hb dX12_least_97 (by decide) ?_
      refine lv_icmp_eq (tgt := 104) hx hb dX12_least_98 (by decide) (fun c26 => ?_) (fun c26 => ?_)
      · rw [if_pos c26] at hf
        refine lv_aload_n hx hb dX12_least_104 rfl (lv_at hl 0 rfl) ?_
        refine lv_sipush (v := 160) hx hb dX12_least_105 (by decide) ?_
        refine lv_iload_n hx hb dX12_least_108 rfl (lv_at hl 3 rfl) ?_
        refine lv_iload hx hb dX12_least_109 (lv_at hl 4 rfl) ?_
        obtain ⟨i27, e28, hf⟩ := mb0 hf
        obtain ⟨σ29, e30, hf⟩ := mb0 hf
        refine mx_callV (As := [.int (160 : Int32), .int v3, .int v4]) (rest := []) hx hb hml hts hown hK hJ rfl rfl (ci := 12) rfl e28 (c_X12_between l G P v0 (160 : Int32) v3 v4 σ23 σ29 e30) me_X12_between kw_2429 ks_116 kw_2427 (Nat.le_of_ble_eq_true rfl) (Nat.le_of_ble_eq_true rfl) rfl hl.1 rfl (Nat.le_of_ble_eq_true rfl) dX12_least_111 (fun H locs hJ => ?_)
        refine lv_aload_n hx hb dX12_least_114 rfl (lv_at hl 0 rfl) ?_
        refine lv_sipush (v := 162) hx hb dX12_least_115 (by decide) ?_
        refine lv_sipush (v := 160) hx hb dX12_least_118 (by decide) ?_
        obtain ⟨i31, e32, hf⟩ := mb0 hf
        obtain ⟨σ33, e34, hf⟩ := mb0 hf
        refine mx_callV (As := [.int (162 : Int32), .int (160 : Int32)]) (rest := []) hx hb hml hts hown hK hJ rfl rfl (ci := 12) rfl e32 (c_X12_squares l G P v0 (162 : Int32) (160 : Int32) σ29 σ33 e34) me_X12_squares kw_2433 ks_117 kw_2431 (Nat.le_of_ble_eq_true rfl) (Nat.le_of_ble_eq_true rfl) rfl hl.1 rfl (Nat.le_of_ble_eq_true rfl) dX12_least_121 (fun H locs hJ => ?_)
        refine lv_aload_n hx hb dX12_least_124 rfl (lv_at hl 0 rfl) ?_
        obtain ⟨b35, e36, hf⟩ := mb0 hf
        refine my_gR hx hb hts hown hK hJ fd_RX12_20 hv_12_13 e36 dX12_least_125 ?_
        refine lv_sipush (v := 162) hx hb dX12_least_128 (by decide) ?_
        obtain ⟨x37, e38, hf⟩ := mb0 hf
        refine mx_aZ hx hb hK hJ e38 dX12_least_131 ?_
        refine lv_if_eq (tgt := 138) hx hb dX12_least_132 (by decide) (fun c39 => ?_) (fun c39 => ?_)
        · rw [if_pos c39] at hf
          refine lv_aload_n hx hb dX12_least_138 rfl (lv_at hl 0 rfl) ?_
          refine lv_sipush (v := 162) hx hb dX12_least_139 (by decide) ?_
          refine lv_iload hx hb dX12_least_142 (lv_at hl 5 rfl) ?_
          obtain ⟨i40, e41, hf⟩ := mb0 hf
          obtain ⟨x43, σ42, e44, hf⟩ := mc0 hf
          refine mx_callV (As := [.int (162 : Int32), .int v5]) (rest := []) hx hb hml hts hown hK hJ rfl rfl (ci := 12) rfl e41 (c_X12_sideOf l G P v0 (162 : Int32) v5 σ33 x43 σ42 e44) me_X12_sideOf kw_2502 ks_131 kw_2500 (Nat.le_of_ble_eq_true rfl) (Nat.le_of_ble_eq_true rfl) rfl hl.1 rfl (Nat.le_of_ble_eq_true rfl) dX12_least_144 (fun H locs hJ => ?_)
          refine lv_lstore (lv' := [(11, .long x43), (0, .ref v0), (1, .int v1), (2, .int v2), (3, .int v3), (4, .int v4), (5, .int v5), (6, .int v6), (7, .int v7), (8, .long v8), (10, .int v10)]) hx hb dX12_least_147 hl (by decide) rfl (fun ls hl => ?_)
          refine lv_iload hx hb dX12_least_149 (lv_at hl 8 rfl) ?_
          refine lv_if_eq (tgt := 164) hx hb dX12_least_151 (by decide) (fun c45 => ?_) (fun c45 => ?_)
          · rw [if_pos c45] at hf
            refine lv_lload hx hb dX12_least_164 (lv_at hl 0 rfl) ?_
            exact D166_76 v0 v1 v2 v3 v4 v5 v6 v10 x43 σ42 o hf Kb Ke0 _ _ hJ ls (lv_sub hl [1, 2, 3, 4, 5, 6, 7, 10] rfl)
          · rw [if_neg c45] at hf
            refine lv_lload hx hb dX12_least_154 (lv_at hl 9 rfl) ?_
            refine lv_lload hx hb dX12_least_156 (lv_at hl 0 rfl) ?_
            obtain ⟨x49, σ48, e50, hf⟩ := mc0 hf
            refine mx_callS (As := [.long v8, .long x43]) (rest := []) hx hb hml hts hown hK hJ rfl rfl (c_X12_smaller l G P v8 x43 σ42 x49 σ48 e50) me_X12_smaller kw_2410 kw_2409 (Nat.le_of_ble_eq_true rfl) (Nat.le_of_ble_eq_true rfl) rfl hl.1 rfl (Nat.le_of_ble_eq_true rfl) dX12_least_158 (fun H locs hJ => ?_)
            refine lv_goto (tgt := 166) hx hb dX12_least_161 (by decide) ?_
            exact D166_76 v0 v1 v2 v3 v4 v5 v6 v10 x49 σ48 o hf Kb Ke0 _ _ hJ ls (lv_sub hl [1, 2, 3, 4, 5, 6, 7, 10] rfl)
        · rw [if_neg c39] at hf
          refine lv_goto (tgt := 171) hx hb dX12_least_135 (by decide) ?_
          exact D171_76 v0 v1 v2 v3 v4 v5 v6 v7 v8 v10 σ33 o hf Kb Ke0 _ _ hJ ls (lv_sub hl [0, 1, 2, 3, 4, 5, 6, 7, 8, 9] rfl)
      · rw [if_neg c26] at hf
        refine lv_goto (tgt := 171) hx hb dX12_least_101 (by decide) ?_
        exact D171_76 v0 v1 v2 v3 v4 v5 v6 v7 v8 v10 σ23 o hf Kb Ke0 _ _ hJ ls (lv_sub hl [0, 1, 2, 3, 4, 5, 6, 7, 8, 9] rfl)
  have L76 : ∀ (v0 : Nat) (v1 : Int32) (v2 : Int32) (v3 : Int32) (v4 : Int32) (v5 : Int32) (v6 : Int32) (n : Nat) (v7 : Int32) (v8 : Int64) (v10 : Int32) (τ : mx_S) (o : (Int32 × Int64 × mx_S)), mx_lp (f_X12_least_L76 P v0 v1 v2 v3 v4 v5 v6) n (v7, v8, v10, τ) = some o → (∀ (y7 : Int32) (y8 : Int64) (υ : mx_S), o = (y7, y8, υ) → ∀ (H : Heap) (locs : List Loc), mx_J G P s.heap (mxz σ) (mxu σ) υ H locs → ∀ ls : Array Slot, lv_has ls 13 [(0, .ref v0), (2, .int v2), (6, .int v6), (7, .int y7), (8, .long y8)] → W p l e (mx_rm P 7 182 σ) s m ([.ref a0, .int p1, .int p2, .int p3, .int p4, .int p5] : List Value).toArray below meth c H locs (mxz υ - mxz σ) (mxu υ - mxu σ) (mx_Z below G P (some (.long r)) σ σ' [.ref a0, .int p1, .int p2, .int p3, .int p4, .int p5] s) (F0 m 177 ls [])) → ∀ (H : Heap) (locs : List Loc), mx_J G P s.heap (mxz σ) (mxu σ) τ H locs → ∀ ls : Array Slot, lv_has ls 13 [(0, .ref v0), (1, .int v1), (2, .int v2), (3, .int v3), (4, .int v4), (5, .int v5), (6, .int v6), (7, .int v7), (8, .long v8), (10, .int v10)] → W p l e (mx_rm P 7 182 σ) s m ([.ref a0, .int p1, .int p2, .int p3, .int p4, .int p5] : List Value).toArray below meth c H locs (mxz τ - mxz σ) (mxu τ - mxu σ) (mx_Z below G P (some (.long r)) σ σ' [.ref a0, .int p1, .int p2, .int p3, .int p4, .int p5] s) (F0 m 76 ls []) := by
    intro v0 v1 v2 v3 v4 v5 v6 n
    induction n with
    | zero =>
      intro v7 v8 v10 τ o hf
      rw [mx_lp0] at hf
      cases hf
    | succ n ih =>
      intro v7 v8 v10 τ o hf Ke0 H locs hJ ls hl
      rw [mx_lpS] at hf
      obtain ⟨b, eb, hf⟩ := mb0 hf
      refine B76 v0 v1 v2 v3 v4 v5 v6 v7 v8 v10 τ b eb (fun y7 y8 y10 υ ho H locs hJ ls hl => ?_) (fun y7 y8 υ ho H locs hJ ls hl => ?_) H locs hJ ls hl
      · subst ho
        exact ih y7 y8 y10 υ o hf Ke0 H locs hJ ls hl
      · subst ho
        exact Ke0 y7 y8 υ (Option.some.inj hf).symm _ _ hJ ls hl
  have D196 : ∀ (v8 : Int64) (w0 : Int32) (w1 : Nat) (τ : mx_S), f_X12_least_D196 P v8 w0 w1 τ = some (r, σ') → ∀ (H : Heap) (locs : List Loc), mx_J G P s.heap (mxz σ) (mxu σ) τ H locs → ∀ ls : Array Slot, lv_has ls 13 [(8, .long v8)] → W p l e (mx_rm P 7 182 σ) s m ([.ref a0, .int p1, .int p2, .int p3, .int p4, .int p5] : List Value).toArray below meth c H locs (mxz τ - mxz σ) (mxu τ - mxu σ) (mx_Z below G P (some (.long r)) σ σ' [.ref a0, .int p1, .int p2, .int p3, .int p4, .int p5] s) (F0 m 196 ls [.int w0, .ref w1]) := by
    intro v8 w0 w1 τ hf _ _ hJ ls hl
    unfold f_X12_least_D196 at hf
    obtain ⟨σ61, e62, hf⟩ := mb0 hf
    refine my_pI hx hb hts hown hK hJ fd_RX12_243 cd_12 (Or.inl rfl) ht_12_0 e62 dX12_least_196 (fun H locs hJ => ?_)
    refine lv_lload hx hb dX12_least_199 (lv_at hl 0 rfl) ?_
    exact my_lret hx hb hr hlocks hJ hf dX12_least_201
  have D47 : ∀ (v0 : Nat) (v1 : Int32) (v2 : Int32) (v3 : Int32) (v4 : Int32) (v5 : Int32) (w0 : Int32) (w1 : Nat) (τ : mx_S), f_X12_least_D47 P v0 v1 v2 v3 v4 v5 w0 w1 τ = some (r, σ') → ∀ (H : Heap) (locs : List Loc), mx_J G P s.heap (mxz σ) (mxu σ) τ H locs → ∀ ls : Array Slot, lv_has ls 13 [(0, .ref v0), (1, .int v1), (2, .int v2), (3, .int v3), (4, .int v4), (5, .int v5)] → W p l e (mx_rm P 7 182 σ) s m ([.ref a0, .int p1, .int p2, .int p3, .int p4, .int p5] : List Value).toArray below meth c H locs (mxz τ - mxz σ) (mxu τ - mxu σ) (mx_Z below G P (some (.long r)) σ σ' [.ref a0, .int p1, .int p2, .int p3, .int p4, .int p5] s) (F0 m 47 ls [.int w0, .ref w1]) := by
    intro v0 v1 v2 v3 v4 v5 w0 w1 τ hf _ _ hJ ls hl
    unfold f_X12_least_D47 at hf
    obtain ⟨σ7, e8, hf⟩ := mb0 hf
    refine my_pI hx hb hts hown hK hJ fd_RX12_243 cd_12 (Or.inl rfl) ht_12_0 e8 dX12_least_47 (fun H locs hJ => ?_)
    refine lv_aload_n hx hb dX12_least_50 rfl (lv_at hl 0 rfl) ?_
    obtain ⟨x9, e10, hf⟩ := mb0 hf
    refine my_gI hx hb hts hown hK hJ fd_RX12_243 hv_12_0 e10 dX12_least_51 ?_
    refine lv_if_le (tgt := 59) hx hb dX12_least_54 (by decide) (fun c11 => ?_) (fun c11 => ?_)
    · rw [if_pos c11] at hf
      refine lv_aload_n hx hb dX12_least_59 rfl (lv_at hl 0 rfl) ?_
      obtain ⟨b12, e13, hf⟩ := mb0 hf
      refine my_gR hx hb hts hown hK hJ fd_RX12_63 hv_12_34 e13 dX12_least_60 ?_
      refine lv_iload_n hx hb dX12_least_63 rfl (lv_at hl 2 rfl) ?_
      obtain ⟨x14, e15, hf⟩ := mb0 hf
      refine mx_aI hx hb hK hJ e15 dX12_least_64 ?_
      refine lv_istore (lv' := [(6, .int x14), (0, .ref v0), (1, .int v1), (2, .int v2), (3, .int v3), (4, .int v4), (5, .int v5)]) hx hb dX12_least_65 hl (by decide) rfl (fun ls hl => ?_)
      refine lv_iconst (v := 0) hx hb dX12_least_67 (by decide) ?_
      refine lv_istore (lv' := [(7, .int (0 : Int32)), (6, .int x14), (0, .ref v0), (1, .int v1), (2, .int v2), (3, .int v3), (4, .int v4), (5, .int v5)]) hx hb dX12_least_68 hl (by decide) rfl (fun ls hl => ?_)
      refine lv_lconst (v := 0) hx hb dX12_least_70 (by decide) ?_
      refine lv_lstore (lv' := [(8, .long (0 : Int64)), (7, .int (0 : Int32)), (6, .int x14), (0, .ref v0), (1, .int v1), (2, .int v2), (3, .int v3), (4, .int v4), (5, .int v5)]) hx hb dX12_least_71 hl (by decide) rfl (fun ls hl => ?_)
      refine lv_iconst (v := 0) hx hb dX12_least_73 (by decide) ?_
      refine lv_istore (lv' := [(10, .int (0 : Int32)), (8, .long (0 : Int64)), (7, .int (0 : Int32)), (6, .int x14), (0, .ref v0), (1, .int v1), (2, .int v2), (3, .int v3), (4, .int v4), (5, .int v5)]) hx hb dX12_least_74 hl (by decide) rfl (fun ls hl => ?_)
      obtain ⟨o51, e52, hf⟩ := mb0 hf
      refine L76 v0 v1 v2 v3 v4 v5 x14 (mpN P) (0 : Int32) (0 : Int64) (0 : Int32) σ7 o51 e52 (fun y53 y54 σ55 ho H locs hJ ls hl => ?_) _ _ hJ ls (lv_sub hl [4, 5, 6, 7, 8, 9, 3, 2, 1, 0] rfl)
      · rw [ho] at hf
        have hf : ((mg_R σ55 v0 12 34).bind fun b56 => (ms_I P σ55 b56 0 v2 x14).bind fun σ58 => (if y53 = 0 then f_X12_least_D196 P y54 (2 : Int32) v0 σ58 else f_X12_least_D196 P y54 (0 : Int32) v0 σ58)) = some (r, σ') := hf
        refine lv_aload_n hx hb dX12_least_177 rfl (lv_at hl 0 rfl) ?_
        obtain ⟨b56, e57, hf⟩ := mb0 hf
        refine my_gR hx hb hts hown hK hJ fd_RX12_63 hv_12_34 e57 dX12_least_178 ?_
        refine lv_iload_n hx hb dX12_least_181 rfl (lv_at hl 1 rfl) ?_
        refine lv_iload hx hb dX12_least_182 (lv_at hl 2 rfl) ?_
        obtain ⟨σ58, e59, hf⟩ := mb0 hf
        refine mx_sI hx hb hK hJ e59 dX12_least_184 (fun H locs hJ => ?_)
        refine lv_aload_n hx hb dX12_least_185 rfl (lv_at hl 0 rfl) ?_
        refine lv_iload hx hb dX12_least_186 (lv_at hl 3 rfl) ?_
        refine lv_if_eq (tgt := 195) hx hb dX12_least_188 (by decide) (fun c60 => ?_) (fun c60 => ?_)
        · rw [if_pos c60] at hf
          refine lv_iconst (v := 2) hx hb dX12_least_195 (by decide) ?_
          exact D196 y54 (2 : Int32) v0 σ58 hf _ _ hJ ls (lv_sub hl [4] rfl)
        · rw [if_neg c60] at hf
          refine lv_iconst (v := 0) hx hb dX12_least_191 (by decide) ?_
          refine lv_goto (tgt := 196) hx hb dX12_least_192 (by decide) ?_
          exact D196 y54 (0 : Int32) v0 σ58 hf _ _ hJ ls (lv_sub hl [4] rfl)
    · rw [if_neg c11] at hf
      refine lv_lconst (v := 0) hx hb dX12_least_57 (by decide) ?_
      exact my_lret hx hb hr hlocks hJ hf dX12_least_58
  have D21 : ∀ (v0 : Nat) (v1 : Int32) (v2 : Int32) (v3 : Int32) (v4 : Int32) (v5 : Int32) (w0 : Nat) (τ : mx_S), f_X12_least_D21 P v0 v1 v2 v3 v4 v5 w0 τ = some (r, σ') → ∀ (H : Heap) (locs : List Loc), mx_J G P s.heap (mxz σ) (mxu σ) τ H locs → ∀ ls : Array Slot, lv_has ls 13 [(0, .ref v0), (1, .int v1), (2, .int v2), (3, .int v3), (4, .int v4), (5, .int v5)] → W p l e (mx_rm P 7 182 σ) s m ([.ref a0, .int p1, .int p2, .int p3, .int p4, .int p5] : List Value).toArray below meth c H locs (mxz τ - mxz σ) (mxu τ - mxu σ) (mx_Z below G P (some (.long r)) σ σ' [.ref a0, .int p1, .int p2, .int p3, .int p4, .int p5] s) (F0 m 21 ls [.ref w0]) := by
    intro v0 v1 v2 v3 v4 v5 w0 τ hf _ _ hJ ls hl
    unfold f_X12_least_D21 at hf
    refine lv_iconst (v := 1) hx hb dX12_least_21 (by decide) ?_
    refine lv_goto (tgt := 47) hx hb dX12_least_22 (by decide) ?_
    exact D47 v0 v1 v2 v3 v4 v5 (1 : Int32) w0 τ hf _ _ hJ ls (lv_sub hl [0, 1, 2, 3, 4, 5] rfl)
  have D46 : ∀ (v0 : Nat) (v1 : Int32) (v2 : Int32) (v3 : Int32) (v4 : Int32) (v5 : Int32) (w0 : Nat) (τ : mx_S), f_X12_least_D46 P v0 v1 v2 v3 v4 v5 w0 τ = some (r, σ') → ∀ (H : Heap) (locs : List Loc), mx_J G P s.heap (mxz σ) (mxu σ) τ H locs → ∀ ls : Array Slot, lv_has ls 13 [(0, .ref v0), (1, .int v1), (2, .int v2), (3, .int v3), (4, .int v4), (5, .int v5)] → W p l e (mx_rm P 7 182 σ) s m ([.ref a0, .int p1, .int p2, .int p3, .int p4, .int p5] : List Value).toArray below meth c H locs (mxz τ - mxz σ) (mxu τ - mxu σ) (mx_Z below G P (some (.long r)) σ σ' [.ref a0, .int p1, .int p2, .int p3, .int p4, .int p5] s) (F0 m 46 ls [.ref w0]) := by
    intro v0 v1 v2 v3 v4 v5 w0 τ hf _ _ hJ ls hl
    unfold f_X12_least_D46 at hf
    refine lv_iconst (v := 2) hx hb dX12_least_46 (by decide) ?_
    exact D47 v0 v1 v2 v3 v4 v5 (2 : Int32) w0 τ hf _ _ hJ ls (lv_sub hl [0, 1, 2, 3, 4, 5] rfl)
  unfold f_X12_least at hf
  refine lv_aload_n hx hb dX12_least_0 rfl (lv_at hl 0 rfl) ?_
  refine lv_aload_n hx hb dX12_least_1 rfl (lv_at hl 0 rfl) ?_
  refine lv_iload_n hx hb dX12_least_2 rfl (lv_at hl 1 rfl) ?_
  refine lv_iload_n hx hb dX12_least_3 rfl (lv_at hl 2 rfl) ?_
  obtain ⟨i1, e2, hf⟩ := mb0 hf
  obtain ⟨x4, σ3, e5, hf⟩ := mc0 hf
  refine mx_callV (As := [.int p1, .int p2]) (rest := [.ref a0]) hx hb hml hts hown hK hJ rfl rfl (ci := 12) rfl e2 (c_X12_isWay l G P a0 p1 p2 σ x4 σ3 e5) me_X12_isWay kw_2510 ks_132 kw_2508 (Nat.le_of_ble_eq_true rfl) (Nat.le_of_ble_eq_true rfl) rfl hl.1 rfl (Nat.le_of_ble_eq_true rfl) dX12_least_4 (fun H locs hJ => ?_)
  refine lv_if_eq (tgt := 21) hx hb dX12_least_7 (by decide) (fun c6 => ?_) (fun c6 => ?_)
  · rw [if_pos c6] at hf
    exact D21 a0 p1 p2 p3 p4 p5 a0 σ3 hf _ _ hJ ls (lv_sub hl [0, 1, 2, 3, 4, 5] rfl)
  · rw [if_neg c6] at hf
    refine lv_iload hx hb dX12_least_10 (lv_at hl 5 rfl) ?_
    refine lv_i2l hx hb dX12_least_12 rfl ?_
    refine lv_lconst (v := 0) hx hb dX12_least_13 (by decide) ?_
    refine lv_lconst (v := 1) hx hb dX12_least_14 (by decide) ?_
    obtain ⟨x64, σ63, e65, hf⟩ := mc0 hf
    refine mx_callS (As := [.long (p5.toInt64), .long (0 : Int64), .long (1 : Int64)]) (rest := [.ref a0]) hx hb hml hts hown hK hJ rfl rfl (c_X12_in l G P (p5.toInt64) (0 : Int64) (1 : Int64) σ3 x64 σ63 e65) me_X12_in kw_2223 kw_2222 (Nat.le_of_ble_eq_true rfl) (Nat.le_of_ble_eq_true rfl) rfl hl.1 rfl (Nat.le_of_ble_eq_true rfl) dX12_least_15 (fun H locs hJ => ?_)
    refine lv_if_ne (tgt := 25) hx hb dX12_least_18 (by decide) (fun c66 => ?_) (fun c66 => ?_)
    · rw [if_neg c66] at hf
      refine lv_aload_n hx hb dX12_least_25 rfl (lv_at hl 0 rfl) ?_
      refine lv_iload_n hx hb dX12_least_26 rfl (lv_at hl 3 rfl) ?_
      obtain ⟨i67, e68, hf⟩ := mb0 hf
      obtain ⟨x70, σ69, e71, hf⟩ := mc0 hf
      refine mx_callV (As := [.int p3]) (rest := [.ref a0]) hx hb hml hts hown hK hJ rfl rfl (ci := 12) rfl e68 (c_X12_isPoint l G P a0 p3 σ63 x70 σ69 e71) me_X12_isPoint kw_2498 ks_130 kw_2496 (Nat.le_of_ble_eq_true rfl) (Nat.le_of_ble_eq_true rfl) rfl hl.1 rfl (Nat.le_of_ble_eq_true rfl) dX12_least_27 (fun H locs hJ => ?_)
      refine lv_if_eq (tgt := 46) hx hb dX12_least_30 (by decide) (fun c72 => ?_) (fun c72 => ?_)
      · rw [if_pos c72] at hf
        exact D46 a0 p1 p2 p3 p4 p5 a0 σ69 hf _ _ hJ ls (lv_sub hl [0, 1, 2, 3, 4, 5] rfl)
      · rw [if_neg c72] at hf
        refine lv_aload_n hx hb dX12_least_33 rfl (lv_at hl 0 rfl) ?_
        refine lv_iload hx hb dX12_least_34 (lv_at hl 4 rfl) ?_
        obtain ⟨i73, e74, hf⟩ := mb0 hf
        obtain ⟨x76, σ75, e77, hf⟩ := mc0 hf
        refine mx_callV (As := [.int p4]) (rest := [.ref a0]) hx hb hml hts hown hK hJ rfl rfl (ci := 12) rfl e74 (c_X12_isPoint l G P a0 p4 σ69 x76 σ75 e77) me_X12_isPoint kw_2498 ks_130 kw_2496 (Nat.le_of_ble_eq_true rfl) (Nat.le_of_ble_eq_true rfl) rfl hl.1 rfl (Nat.le_of_ble_eq_true rfl) dX12_least_36 (fun H locs hJ => ?_)
        refine lv_if_eq (tgt := 46) hx hb dX12_least_39 (by decide) (fun c78 => ?_) (fun c78 => ?_)
        · rw [if_pos c78] at hf
          exact D46 a0 p1 p2 p3 p4 p5 a0 σ75 hf _ _ hJ ls (lv_sub hl [0, 1, 2, 3, 4, 5] rfl)
        · rw [if_neg c78] at hf
          refine lv_iconst (v := 0) hx hb dX12_least_42 (by decide) ?_
          refine lv_goto (tgt := 47) hx hb dX12_least_43 (by decide) ?_
          exact D47 a0 p1 p2 p3 p4 p5 (0 : Int32) a0 σ75 hf _ _ hJ ls (lv_sub hl [0, 1, 2, 3, 4, 5] rfl)
    · rw [if_pos c66] at hf
      exact D21 a0 p1 p2 p3 p4 p5 a0 σ63 hf _ _ hJ ls (lv_sub hl [0, 1, 2, 3, 4, 5] rfl)
set_option maxHeartbeats 4000000 in
set_option maxRecDepth 100000 in
theorem c_X12_solve (l : Launch) (G : mx_G) (P : mx_P) (a0 : Nat) (p1 : Int32) (p2 : Int32) (p3 : Int32) (p4 : Int32) (p5 : Int32) (σ : mx_S) (σ' : mx_S) (hf : f_X12_solve P a0 p1 p2 p3 p4 p5 σ = some σ') : mxz σ ≤ mpc P → mxu σ ≤ mps P → mx_M l yX12_solve cX12_solve 6 none 4 106 G P [.ref a0, .int p1, .int p2, .int p3, .int p4, .int p5] σ none σ' := by
  intro hcap hcau
  refine mx_ofW (by decide +kernel) hcap hcau (Nat.le_of_ble_eq_true rfl) ?_
  intro p e s m below meth c hx hb hr hml hts hown hlocks hname hK hJ ls hl
  have hz0 := hJ.2.1
  have hown : s.vm.findClass RX12 = some m.cls := hown
  have hl : lv_has ls 6 [(0, .ref a0), (1, .int p1), (2, .int p2), (3, .int p3), (4, .int p4), (5, .int p5)] := hl
  unfold f_X12_solve at hf
  refine lv_aload_n hx hb dX12_solve_0 rfl (lv_at hl 0 rfl) ?_
  refine lv_sipush (v := 180) hx hb dX12_solve_1 (by decide) ?_
  refine lv_iload_n hx hb dX12_solve_4 rfl (lv_at hl 2 rfl) ?_
  refine lv_iload_n hx hb dX12_solve_5 rfl (lv_at hl 3 rfl) ?_
  obtain ⟨i1, e2, hf⟩ := mb0 hf
  obtain ⟨σ3, e4, hf⟩ := mb0 hf
  refine mx_callV (As := [.int (180 : Int32), .int p2, .int p3]) (rest := []) hx hb hml hts hown hK hJ rfl rfl (ci := 12) rfl e2 (c_X12_cross l G P a0 (180 : Int32) p2 p3 σ σ3 e4) me_X12_cross kw_2481 ks_128 kw_2479 (Nat.le_of_ble_eq_true rfl) (Nat.le_of_ble_eq_true rfl) rfl hl.1 rfl (Nat.le_of_ble_eq_true rfl) dX12_solve_6 (fun H locs hJ => ?_)
  refine lv_aload_n hx hb dX12_solve_9 rfl (lv_at hl 0 rfl) ?_
  refine lv_sipush (v := 181) hx hb dX12_solve_10 (by decide) ?_
  refine lv_iload hx hb dX12_solve_13 (lv_at hl 4 rfl) ?_
  refine lv_iload_n hx hb dX12_solve_15 rfl (lv_at hl 3 rfl) ?_
  refine lv_iconst (v := 1) hx hb dX12_solve_16 (by decide) ?_
  refine lv_iadd hx hb dX12_solve_17 ?_
  obtain ⟨i5, e6, hf⟩ := mb0 hf
  obtain ⟨σ7, e8, hf⟩ := mb0 hf
  refine mx_callV (As := [.int (181 : Int32), .int p4, .int (p3 + (1 : Int32))]) (rest := []) hx hb hml hts hown hK hJ rfl rfl (ci := 12) rfl e6 (c_X12_multiply l G P a0 (181 : Int32) p4 (p3 + (1 : Int32)) σ3 σ7 e8) me_X12_multiply kw_2407 ks_112 kw_2405 (Nat.le_of_ble_eq_true rfl) (Nat.le_of_ble_eq_true rfl) rfl hl.1 rfl (Nat.le_of_ble_eq_true rfl) dX12_solve_18 (fun H locs hJ => ?_)
  refine lv_aload_n hx hb dX12_solve_21 rfl (lv_at hl 0 rfl) ?_
  refine lv_sipush (v := 182) hx hb dX12_solve_22 (by decide) ?_
  refine lv_iload hx hb dX12_solve_25 (lv_at hl 5 rfl) ?_
  refine lv_iload_n hx hb dX12_solve_27 rfl (lv_at hl 2 rfl) ?_
  refine lv_iconst (v := 1) hx hb dX12_solve_28 (by decide) ?_
  refine lv_iadd hx hb dX12_solve_29 ?_
  obtain ⟨i9, e10, hf⟩ := mb0 hf
  obtain ⟨σ11, e12, hf⟩ := mb0 hf
  refine mx_callV (As := [.int (182 : Int32), .int p5, .int (p2 + (1 : Int32))]) (rest := []) hx hb hml hts hown hK hJ rfl rfl (ci := 12) rfl e10 (c_X12_multiply l G P a0 (182 : Int32) p5 (p2 + (1 : Int32)) σ7 σ11 e12) me_X12_multiply kw_2407 ks_112 kw_2405 (Nat.le_of_ble_eq_true rfl) (Nat.le_of_ble_eq_true rfl) rfl hl.1 rfl (Nat.le_of_ble_eq_true rfl) dX12_solve_30 (fun H locs hJ => ?_)
  refine lv_aload_n hx hb dX12_solve_33 rfl (lv_at hl 0 rfl) ?_
  refine lv_sipush (v := 181) hx hb dX12_solve_34 (by decide) ?_
  refine lv_sipush (v := 181) hx hb dX12_solve_37 (by decide) ?_
  refine lv_sipush (v := 182) hx hb dX12_solve_40 (by decide) ?_
  obtain ⟨i13, e14, hf⟩ := mb0 hf
  obtain ⟨σ15, e16, hf⟩ := mb0 hf
  refine mx_callV (As := [.int (181 : Int32), .int (181 : Int32), .int (182 : Int32)]) (rest := []) hx hb hml hts hown hK hJ rfl rfl (ci := 12) rfl e14 (c_X12_less l G P a0 (181 : Int32) (181 : Int32) (182 : Int32) σ11 σ15 e16) me_X12_less kw_2417 ks_113 kw_2415 (Nat.le_of_ble_eq_true rfl) (Nat.le_of_ble_eq_true rfl) rfl hl.1 rfl (Nat.le_of_ble_eq_true rfl) dX12_solve_43 (fun H locs hJ => ?_)
  refine lv_aload_n hx hb dX12_solve_46 rfl (lv_at hl 0 rfl) ?_
  refine lv_sipush (v := 183) hx hb dX12_solve_47 (by decide) ?_
  refine lv_iload_n hx hb dX12_solve_50 rfl (lv_at hl 2 rfl) ?_
  refine lv_iload hx hb dX12_solve_51 (lv_at hl 5 rfl) ?_
  obtain ⟨i17, e18, hf⟩ := mb0 hf
  obtain ⟨σ19, e20, hf⟩ := mb0 hf
  refine mx_callV (As := [.int (183 : Int32), .int p2, .int p5]) (rest := []) hx hb hml hts hown hK hJ rfl rfl (ci := 12) rfl e18 (c_X12_multiply l G P a0 (183 : Int32) p2 p5 σ15 σ19 e20) me_X12_multiply kw_2407 ks_112 kw_2405 (Nat.le_of_ble_eq_true rfl) (Nat.le_of_ble_eq_true rfl) rfl hl.1 rfl (Nat.le_of_ble_eq_true rfl) dX12_solve_53 (fun H locs hJ => ?_)
  refine lv_aload_n hx hb dX12_solve_56 rfl (lv_at hl 0 rfl) ?_
  refine lv_sipush (v := 184) hx hb dX12_solve_57 (by decide) ?_
  refine lv_iload_n hx hb dX12_solve_60 rfl (lv_at hl 3 rfl) ?_
  refine lv_iload hx hb dX12_solve_61 (lv_at hl 4 rfl) ?_
  obtain ⟨i21, e22, hf⟩ := mb0 hf
  obtain ⟨σ23, e24, hf⟩ := mb0 hf
  refine mx_callV (As := [.int (184 : Int32), .int p3, .int p4]) (rest := []) hx hb hml hts hown hK hJ rfl rfl (ci := 12) rfl e22 (c_X12_multiply l G P a0 (184 : Int32) p3 p4 σ19 σ23 e24) me_X12_multiply kw_2407 ks_112 kw_2405 (Nat.le_of_ble_eq_true rfl) (Nat.le_of_ble_eq_true rfl) rfl hl.1 rfl (Nat.le_of_ble_eq_true rfl) dX12_solve_63 (fun H locs hJ => ?_)
  refine lv_aload_n hx hb dX12_solve_66 rfl (lv_at hl 0 rfl) ?_
  refine lv_sipush (v := 183) hx hb dX12_solve_67 (by decide) ?_
  refine lv_sipush (v := 183) hx hb dX12_solve_70 (by decide) ?_
  refine lv_sipush (v := 184) hx hb dX12_solve_73 (by decide) ?_
  obtain ⟨i25, e26, hf⟩ := mb0 hf
  obtain ⟨σ27, e28, hf⟩ := mb0 hf
  refine mx_callV (As := [.int (183 : Int32), .int (183 : Int32), .int (184 : Int32)]) (rest := []) hx hb hml hts hown hK hJ rfl rfl (ci := 12) rfl e26 (c_X12_less l G P a0 (183 : Int32) (183 : Int32) (184 : Int32) σ23 σ27 e28) me_X12_less kw_2417 ks_113 kw_2415 (Nat.le_of_ble_eq_true rfl) (Nat.le_of_ble_eq_true rfl) rfl hl.1 rfl (Nat.le_of_ble_eq_true rfl) dX12_solve_76 (fun H locs hJ => ?_)
  refine lv_aload_n hx hb dX12_solve_79 rfl (lv_at hl 0 rfl) ?_
  refine lv_iload_n hx hb dX12_solve_80 rfl (lv_at hl 1 rfl) ?_
  refine lv_sipush (v := 181) hx hb dX12_solve_81 (by decide) ?_
  refine lv_sipush (v := 180) hx hb dX12_solve_84 (by decide) ?_
  obtain ⟨i29, e30, hf⟩ := mb0 hf
  obtain ⟨σ31, e32, hf⟩ := mb0 hf
  refine mx_callV (As := [.int p1, .int (181 : Int32), .int (180 : Int32)]) (rest := []) hx hb hml hts hown hK hJ rfl rfl (ci := 12) rfl e30 (c_X12_divide l G P a0 p1 (181 : Int32) (180 : Int32) σ27 σ31 e32) me_X12_divide kw_2450 ks_121 kw_2448 (Nat.le_of_ble_eq_true rfl) (Nat.le_of_ble_eq_true rfl) rfl hl.1 rfl (Nat.le_of_ble_eq_true rfl) dX12_solve_87 (fun H locs hJ => ?_)
  refine lv_aload_n hx hb dX12_solve_90 rfl (lv_at hl 0 rfl) ?_
  refine lv_iload_n hx hb dX12_solve_91 rfl (lv_at hl 1 rfl) ?_
  refine lv_iconst (v := 1) hx hb dX12_solve_92 (by decide) ?_
  refine lv_iadd hx hb dX12_solve_93 ?_
  refine lv_sipush (v := 183) hx hb dX12_solve_94 (by decide) ?_
  refine lv_sipush (v := 180) hx hb dX12_solve_97 (by decide) ?_
  obtain ⟨i33, e34, hf⟩ := mb0 hf
  obtain ⟨σ35, e36, hf⟩ := mb0 hf
  refine mx_callV (As := [.int (p1 + (1 : Int32)), .int (183 : Int32), .int (180 : Int32)]) (rest := []) hx hb hml hts hown hK hJ rfl rfl (ci := 12) rfl e34 (c_X12_divide l G P a0 (p1 + (1 : Int32)) (183 : Int32) (180 : Int32) σ31 σ35 e36) me_X12_divide kw_2450 ks_121 kw_2448 (Nat.le_of_ble_eq_true rfl) (Nat.le_of_ble_eq_true rfl) rfl hl.1 rfl (Nat.le_of_ble_eq_true rfl) dX12_solve_100 (fun H locs hJ => ?_)
  exact my_vret hx hb hr hlocks hJ hf dX12_solve_103
set_option maxHeartbeats 4000000 in
set_option maxRecDepth 100000 in
theorem c_X12_speedBetween (l : Launch) (G : mx_G) (P : mx_P) (a0 : Nat) (p1 : Int32) (p2 : Int32) (p3 : Int32) (σ : mx_S) (σ' : mx_S) (hf : f_X12_speedBetween P a0 p1 p2 p3 σ = some σ') : mxz σ ≤ mpc P → mxu σ ≤ mps P → mx_M l yX12_speedBetween cX12_speedBetween 4 none 3 70 G P [.ref a0, .int p1, .int p2, .int p3] σ none σ' := by
  intro hcap hcau
  refine mx_ofW (by decide +kernel) hcap hcau (Nat.le_of_ble_eq_true rfl) ?_
  intro p e s m below meth c hx hb hr hml hts hown hlocks hname hK hJ ls hl
  have hz0 := hJ.2.1
  have hown : s.vm.findClass RX12 = some m.cls := hown
  have hl : lv_has ls 4 [(0, .ref a0), (1, .int p1), (2, .int p2), (3, .int p3)] := hl
  unfold f_X12_speedBetween at hf
  refine lv_aload_n hx hb dX12_speedBetween_0 rfl (lv_at hl 0 rfl) ?_
  refine lv_iload_n hx hb dX12_speedBetween_1 rfl (lv_at hl 1 rfl) ?_
  refine lv_bipush (v := 80) hx hb dX12_speedBetween_2 (by decide) ?_
  refine lv_iconst (v := 2) hx hb dX12_speedBetween_4 (by decide) ?_
  refine lv_iload_n hx hb dX12_speedBetween_5 rfl (lv_at hl 2 rfl) ?_
  refine lv_imul hx hb dX12_speedBetween_6 ?_
  refine lv_iadd hx hb dX12_speedBetween_7 ?_
  refine lv_bipush (v := 80) hx hb dX12_speedBetween_8 (by decide) ?_
  refine lv_iconst (v := 2) hx hb dX12_speedBetween_10 (by decide) ?_
  refine lv_iload_n hx hb dX12_speedBetween_11 rfl (lv_at hl 3 rfl) ?_
  refine lv_imul hx hb dX12_speedBetween_12 ?_
  refine lv_iadd hx hb dX12_speedBetween_13 ?_
  obtain ⟨i1, e2, hf⟩ := mb0 hf
  obtain ⟨σ3, e4, hf⟩ := mb0 hf
  refine mx_callV (As := [.int p1, .int ((80 : Int32) + ((2 : Int32) * p2)), .int ((80 : Int32) + ((2 : Int32) * p3))]) (rest := []) hx hb hml hts hown hK hJ rfl rfl (ci := 12) rfl e2 (c_X12_less l G P a0 p1 ((80 : Int32) + ((2 : Int32) * p2)) ((80 : Int32) + ((2 : Int32) * p3)) σ σ3 e4) me_X12_less kw_2417 ks_113 kw_2415 (Nat.le_of_ble_eq_true rfl) (Nat.le_of_ble_eq_true rfl) rfl hl.1 rfl (Nat.le_of_ble_eq_true rfl) dX12_speedBetween_14 (fun H locs hJ => ?_)
  refine lv_aload_n hx hb dX12_speedBetween_17 rfl (lv_at hl 0 rfl) ?_
  refine lv_iload_n hx hb dX12_speedBetween_18 rfl (lv_at hl 1 rfl) ?_
  refine lv_iconst (v := 1) hx hb dX12_speedBetween_19 (by decide) ?_
  refine lv_iadd hx hb dX12_speedBetween_20 ?_
  refine lv_bipush (v := 80) hx hb dX12_speedBetween_21 (by decide) ?_
  refine lv_iconst (v := 2) hx hb dX12_speedBetween_23 (by decide) ?_
  refine lv_iload_n hx hb dX12_speedBetween_24 rfl (lv_at hl 2 rfl) ?_
  refine lv_imul hx hb dX12_speedBetween_25 ?_
  refine lv_iadd hx hb dX12_speedBetween_26 ?_
  refine lv_iconst (v := 1) hx hb dX12_speedBetween_27 (by decide) ?_
  refine lv_iadd hx hb dX12_speedBetween_28 ?_
  refine lv_bipush (v := 80) hx hb dX12_speedBetween_29 (by decide) ?_
  refine lv_iconst (v := 2) hx hb dX12_speedBetween_31 (by decide) ?_
  refine lv_iload_n hx hb dX12_speedBetween_32 rfl (lv_at hl 3 rfl) ?_
  refine lv_imul hx hb dX12_speedBetween_33 ?_
  refine lv_iadd hx hb dX12_speedBetween_34 ?_
  refine lv_iconst (v := 1) hx hb dX12_speedBetween_35 (by decide) ?_
  refine lv_iadd hx hb dX12_speedBetween_36 ?_
  obtain ⟨i5, e6, hf⟩ := mb0 hf
  obtain ⟨σ7, e8, hf⟩ := mb0 hf
  refine mx_callV (As := [.int (p1 + (1 : Int32)), .int (((80 : Int32) + ((2 : Int32) * p2)) + (1 : Int32)), .int (((80 : Int32) + ((2 : Int32) * p3)) + (1 : Int32))]) (rest := []) hx hb hml hts hown hK hJ rfl rfl (ci := 12) rfl e6 (c_X12_less l G P a0 (p1 + (1 : Int32)) (((80 : Int32) + ((2 : Int32) * p2)) + (1 : Int32)) (((80 : Int32) + ((2 : Int32) * p3)) + (1 : Int32)) σ3 σ7 e8) me_X12_less kw_2417 ks_113 kw_2415 (Nat.le_of_ble_eq_true rfl) (Nat.le_of_ble_eq_true rfl) rfl hl.1 rfl (Nat.le_of_ble_eq_true rfl) dX12_speedBetween_37 (fun H locs hJ => ?_)
  exact my_vret hx hb hr hlocks hJ hf dX12_speedBetween_40
set_option maxHeartbeats 4000000 in
set_option maxRecDepth 100000 in
theorem c_X12_lineSpeed (l : Launch) (G : mx_G) (P : mx_P) (a0 : Nat) (p1 : Int32) (p2 : Int32) (p3 : Int32) (p4 : Int32) (p5 : Int32) (σ : mx_S) (σ' : mx_S) (hf : f_X12_lineSpeed P a0 p1 p2 p3 p4 p5 σ = some σ') : mxz σ ≤ mpc P → mxu σ ≤ mps P → mx_M l yX12_lineSpeed cX12_lineSpeed 6 none 4 106 G P [.ref a0, .int p1, .int p2, .int p3, .int p4, .int p5] σ none σ' := by
  intro hcap hcau
  refine mx_ofW (by decide +kernel) hcap hcau (Nat.le_of_ble_eq_true rfl) ?_
  intro p e s m below meth c hx hb hr hml hts hown hlocks hname hK hJ ls hl
  have hz0 := hJ.2.1
  have hown : s.vm.findClass RX12 = some m.cls := hown
  have hl : lv_has ls 6 [(0, .ref a0), (1, .int p1), (2, .int p2), (3, .int p3), (4, .int p4), (5, .int p5)] := hl
  unfold f_X12_lineSpeed at hf
  refine lv_aload_n hx hb dX12_lineSpeed_0 rfl (lv_at hl 0 rfl) ?_
  refine lv_iload_n hx hb dX12_lineSpeed_1 rfl (lv_at hl 1 rfl) ?_
  refine lv_iload_n hx hb dX12_lineSpeed_2 rfl (lv_at hl 2 rfl) ?_
  refine lv_iload_n hx hb dX12_lineSpeed_3 rfl (lv_at hl 3 rfl) ?_
  obtain ⟨i1, e2, hf⟩ := mb0 hf
  obtain ⟨σ3, e4, hf⟩ := mb0 hf
  refine mx_callV (As := [.int p1, .int p2, .int p3]) (rest := []) hx hb hml hts hown hK hJ rfl rfl (ci := 12) rfl e2 (c_X12_cross l G P a0 p1 p2 p3 σ σ3 e4) me_X12_cross kw_2481 ks_128 kw_2479 (Nat.le_of_ble_eq_true rfl) (Nat.le_of_ble_eq_true rfl) rfl hl.1 rfl (Nat.le_of_ble_eq_true rfl) dX12_lineSpeed_4 (fun H locs hJ => ?_)
  refine lv_aload_n hx hb dX12_lineSpeed_7 rfl (lv_at hl 0 rfl) ?_
  refine lv_sipush (v := 190) hx hb dX12_lineSpeed_8 (by decide) ?_
  refine lv_iload hx hb dX12_lineSpeed_11 (lv_at hl 4 rfl) ?_
  refine lv_iload hx hb dX12_lineSpeed_13 (lv_at hl 5 rfl) ?_
  obtain ⟨i5, e6, hf⟩ := mb0 hf
  obtain ⟨σ7, e8, hf⟩ := mb0 hf
  refine mx_callV (As := [.int (190 : Int32), .int p4, .int p5]) (rest := []) hx hb hml hts hown hK hJ rfl rfl (ci := 12) rfl e6 (c_X12_cross l G P a0 (190 : Int32) p4 p5 σ3 σ7 e8) me_X12_cross kw_2481 ks_128 kw_2479 (Nat.le_of_ble_eq_true rfl) (Nat.le_of_ble_eq_true rfl) rfl hl.1 rfl (Nat.le_of_ble_eq_true rfl) dX12_lineSpeed_15 (fun H locs hJ => ?_)
  refine lv_aload_n hx hb dX12_lineSpeed_18 rfl (lv_at hl 0 rfl) ?_
  refine lv_iload_n hx hb dX12_lineSpeed_19 rfl (lv_at hl 1 rfl) ?_
  refine lv_iload_n hx hb dX12_lineSpeed_20 rfl (lv_at hl 1 rfl) ?_
  refine lv_sipush (v := 190) hx hb dX12_lineSpeed_21 (by decide) ?_
  obtain ⟨i9, e10, hf⟩ := mb0 hf
  obtain ⟨σ11, e12, hf⟩ := mb0 hf
  refine mx_callV (As := [.int p1, .int p1, .int (190 : Int32)]) (rest := []) hx hb hml hts hown hK hJ rfl rfl (ci := 12) rfl e10 (c_X12_less l G P a0 p1 p1 (190 : Int32) σ7 σ11 e12) me_X12_less kw_2417 ks_113 kw_2415 (Nat.le_of_ble_eq_true rfl) (Nat.le_of_ble_eq_true rfl) rfl hl.1 rfl (Nat.le_of_ble_eq_true rfl) dX12_lineSpeed_24 (fun H locs hJ => ?_)
  exact my_vret hx hb hr hlocks hJ hf dX12_lineSpeed_27
set_option maxHeartbeats 4000000 in
set_option maxRecDepth 100000 in
theorem c_X12_slideSpeed (l : Launch) (G : mx_G) (P : mx_P) (a0 : Nat) (p1 : Int32) (p2 : Int32) (p3 : Int32) (p4 : Int32) (p5 : Int32) (σ : mx_S) (σ' : mx_S) (hf : f_X12_slideSpeed P a0 p1 p2 p3 p4 p5 σ = some σ') : mxz σ ≤ mpc P → mxu σ ≤ mps P → mx_M l yX12_slideSpeed cX12_slideSpeed 6 none 5 131 G P [.ref a0, .int p1, .int p2, .int p3, .int p4, .int p5] σ none σ' := by
  intro hcap hcau
  refine mx_ofW (by decide +kernel) hcap hcau (Nat.le_of_ble_eq_true rfl) ?_
  intro p e s m below meth c hx hb hr hml hts hown hlocks hname hK hJ ls hl
  have hz0 := hJ.2.1
  have hown : s.vm.findClass RX12 = some m.cls := hown
  have hl : lv_has ls 6 [(0, .ref a0), (1, .int p1), (2, .int p2), (3, .int p3), (4, .int p4), (5, .int p5)] := hl
  unfold f_X12_slideSpeed at hf
  refine lv_aload_n hx hb dX12_slideSpeed_0 rfl (lv_at hl 0 rfl) ?_
  refine lv_sipush (v := 160) hx hb dX12_slideSpeed_1 (by decide) ?_
  refine lv_iload_n hx hb dX12_slideSpeed_4 rfl (lv_at hl 2 rfl) ?_
  refine lv_iload_n hx hb dX12_slideSpeed_5 rfl (lv_at hl 3 rfl) ?_
  obtain ⟨i1, e2, hf⟩ := mb0 hf
  obtain ⟨σ3, e4, hf⟩ := mb0 hf
  refine mx_callV (As := [.int (160 : Int32), .int p2, .int p3]) (rest := []) hx hb hml hts hown hK hJ rfl rfl (ci := 12) rfl e2 (c_X12_between l G P a0 (160 : Int32) p2 p3 σ σ3 e4) me_X12_between kw_2429 ks_116 kw_2427 (Nat.le_of_ble_eq_true rfl) (Nat.le_of_ble_eq_true rfl) rfl hl.1 rfl (Nat.le_of_ble_eq_true rfl) dX12_slideSpeed_6 (fun H locs hJ => ?_)
  refine lv_aload_n hx hb dX12_slideSpeed_9 rfl (lv_at hl 0 rfl) ?_
  refine lv_sipush (v := 162) hx hb dX12_slideSpeed_10 (by decide) ?_
  refine lv_iload hx hb dX12_slideSpeed_13 (lv_at hl 5 rfl) ?_
  refine lv_iload hx hb dX12_slideSpeed_15 (lv_at hl 4 rfl) ?_
  obtain ⟨i5, e6, hf⟩ := mb0 hf
  obtain ⟨σ7, e8, hf⟩ := mb0 hf
  refine mx_callV (As := [.int (162 : Int32), .int p5, .int p4]) (rest := []) hx hb hml hts hown hK hJ rfl rfl (ci := 12) rfl e6 (c_X12_between l G P a0 (162 : Int32) p5 p4 σ3 σ7 e8) me_X12_between kw_2429 ks_116 kw_2427 (Nat.le_of_ble_eq_true rfl) (Nat.le_of_ble_eq_true rfl) rfl hl.1 rfl (Nat.le_of_ble_eq_true rfl) dX12_slideSpeed_17 (fun H locs hJ => ?_)
  refine lv_aload_n hx hb dX12_slideSpeed_20 rfl (lv_at hl 0 rfl) ?_
  refine lv_sipush (v := 164) hx hb dX12_slideSpeed_21 (by decide) ?_
  refine lv_iload hx hb dX12_slideSpeed_24 (lv_at hl 5 rfl) ?_
  refine lv_iload hx hb dX12_slideSpeed_26 (lv_at hl 4 rfl) ?_
  obtain ⟨i9, e10, hf⟩ := mb0 hf
  obtain ⟨σ11, e12, hf⟩ := mb0 hf
  refine mx_callV (As := [.int (164 : Int32), .int p5, .int p4]) (rest := []) hx hb hml hts hown hK hJ rfl rfl (ci := 12) rfl e10 (c_X12_speedBetween l G P a0 (164 : Int32) p5 p4 σ7 σ11 e12) me_X12_speedBetween kw_2551 ks_138 kw_2549 (Nat.le_of_ble_eq_true rfl) (Nat.le_of_ble_eq_true rfl) rfl hl.1 rfl (Nat.le_of_ble_eq_true rfl) dX12_slideSpeed_28 (fun H locs hJ => ?_)
  refine lv_aload_n hx hb dX12_slideSpeed_31 rfl (lv_at hl 0 rfl) ?_
  refine lv_sipush (v := 166) hx hb dX12_slideSpeed_32 (by decide) ?_
  refine lv_iload_n hx hb dX12_slideSpeed_35 rfl (lv_at hl 2 rfl) ?_
  refine lv_iload hx hb dX12_slideSpeed_36 (lv_at hl 4 rfl) ?_
  obtain ⟨i13, e14, hf⟩ := mb0 hf
  obtain ⟨σ15, e16, hf⟩ := mb0 hf
  refine mx_callV (As := [.int (166 : Int32), .int p2, .int p4]) (rest := []) hx hb hml hts hown hK hJ rfl rfl (ci := 12) rfl e14 (c_X12_between l G P a0 (166 : Int32) p2 p4 σ11 σ15 e16) me_X12_between kw_2429 ks_116 kw_2427 (Nat.le_of_ble_eq_true rfl) (Nat.le_of_ble_eq_true rfl) rfl hl.1 rfl (Nat.le_of_ble_eq_true rfl) dX12_slideSpeed_38 (fun H locs hJ => ?_)
  refine lv_aload_n hx hb dX12_slideSpeed_41 rfl (lv_at hl 0 rfl) ?_
  refine lv_sipush (v := 168) hx hb dX12_slideSpeed_42 (by decide) ?_
  refine lv_sipush (v := 160) hx hb dX12_slideSpeed_45 (by decide) ?_
  refine lv_bipush (v := 80) hx hb dX12_slideSpeed_48 (by decide) ?_
  refine lv_iconst (v := 2) hx hb dX12_slideSpeed_50 (by decide) ?_
  refine lv_iload_n hx hb dX12_slideSpeed_51 rfl (lv_at hl 3 rfl) ?_
  refine lv_imul hx hb dX12_slideSpeed_52 ?_
  refine lv_iadd hx hb dX12_slideSpeed_53 ?_
  obtain ⟨i17, e18, hf⟩ := mb0 hf
  obtain ⟨σ19, e20, hf⟩ := mb0 hf
  refine mx_callV (As := [.int (168 : Int32), .int (160 : Int32), .int ((80 : Int32) + ((2 : Int32) * p3))]) (rest := []) hx hb hml hts hown hK hJ rfl rfl (ci := 12) rfl e18 (c_X12_dot l G P a0 (168 : Int32) (160 : Int32) ((80 : Int32) + ((2 : Int32) * p3)) σ15 σ19 e20) me_X12_dot kw_2473 ks_126 kw_2471 (Nat.le_of_ble_eq_true rfl) (Nat.le_of_ble_eq_true rfl) rfl hl.1 rfl (Nat.le_of_ble_eq_true rfl) dX12_slideSpeed_54 (fun H locs hJ => ?_)
  refine lv_aload_n hx hb dX12_slideSpeed_57 rfl (lv_at hl 0 rfl) ?_
  refine lv_sipush (v := 169) hx hb dX12_slideSpeed_58 (by decide) ?_
  refine lv_bipush (v := 80) hx hb dX12_slideSpeed_61 (by decide) ?_
  refine lv_iconst (v := 2) hx hb dX12_slideSpeed_63 (by decide) ?_
  refine lv_iload hx hb dX12_slideSpeed_64 (lv_at hl 4 rfl) ?_
  refine lv_imul hx hb dX12_slideSpeed_66 ?_
  refine lv_iadd hx hb dX12_slideSpeed_67 ?_
  refine lv_sipush (v := 162) hx hb dX12_slideSpeed_68 (by decide) ?_
  refine lv_sipush (v := 166) hx hb dX12_slideSpeed_71 (by decide) ?_
  refine lv_sipush (v := 164) hx hb dX12_slideSpeed_74 (by decide) ?_
  obtain ⟨i21, e22, hf⟩ := mb0 hf
  obtain ⟨σ23, e24, hf⟩ := mb0 hf
  refine mx_callV (As := [.int (169 : Int32), .int ((80 : Int32) + ((2 : Int32) * p4)), .int (162 : Int32), .int (166 : Int32), .int (164 : Int32)]) (rest := []) hx hb hml hts hown hK hJ rfl rfl (ci := 12) rfl e22 (c_X12_lineSpeed l G P a0 (169 : Int32) ((80 : Int32) + ((2 : Int32) * p4)) (162 : Int32) (166 : Int32) (164 : Int32) σ19 σ23 e24) me_X12_lineSpeed kw_2555 ks_139 kw_2553 (Nat.le_of_ble_eq_true rfl) (Nat.le_of_ble_eq_true rfl) rfl hl.1 rfl (Nat.le_of_ble_eq_true rfl) dX12_slideSpeed_77 (fun H locs hJ => ?_)
  refine lv_aload_n hx hb dX12_slideSpeed_80 rfl (lv_at hl 0 rfl) ?_
  refine lv_sipush (v := 170) hx hb dX12_slideSpeed_81 (by decide) ?_
  refine lv_sipush (v := 160) hx hb dX12_slideSpeed_84 (by decide) ?_
  refine lv_sipush (v := 162) hx hb dX12_slideSpeed_87 (by decide) ?_
  obtain ⟨i25, e26, hf⟩ := mb0 hf
  obtain ⟨σ27, e28, hf⟩ := mb0 hf
  refine mx_callV (As := [.int (170 : Int32), .int (160 : Int32), .int (162 : Int32)]) (rest := []) hx hb hml hts hown hK hJ rfl rfl (ci := 12) rfl e26 (c_X12_dot l G P a0 (170 : Int32) (160 : Int32) (162 : Int32) σ23 σ27 e28) me_X12_dot kw_2473 ks_126 kw_2471 (Nat.le_of_ble_eq_true rfl) (Nat.le_of_ble_eq_true rfl) rfl hl.1 rfl (Nat.le_of_ble_eq_true rfl) dX12_slideSpeed_90 (fun H locs hJ => ?_)
  refine lv_aload_n hx hb dX12_slideSpeed_93 rfl (lv_at hl 0 rfl) ?_
  refine lv_sipush (v := 170) hx hb dX12_slideSpeed_94 (by decide) ?_
  refine lv_sipush (v := 170) hx hb dX12_slideSpeed_97 (by decide) ?_
  obtain ⟨i29, e30, hf⟩ := mb0 hf
  obtain ⟨σ31, e32, hf⟩ := mb0 hf
  refine mx_callV (As := [.int (170 : Int32), .int (170 : Int32)]) (rest := []) hx hb hml hts hown hK hJ rfl rfl (ci := 12) rfl e30 (c_X12_turned l G P a0 (170 : Int32) (170 : Int32) σ27 σ31 e32) me_X12_turned kw_2395 ks_109 kw_2393 (Nat.le_of_ble_eq_true rfl) (Nat.le_of_ble_eq_true rfl) rfl hl.1 rfl (Nat.le_of_ble_eq_true rfl) dX12_slideSpeed_100 (fun H locs hJ => ?_)
  refine lv_aload_n hx hb dX12_slideSpeed_103 rfl (lv_at hl 0 rfl) ?_
  refine lv_sipush (v := 171) hx hb dX12_slideSpeed_104 (by decide) ?_
  refine lv_sipush (v := 162) hx hb dX12_slideSpeed_107 (by decide) ?_
  obtain ⟨i33, e34, hf⟩ := mb0 hf
  obtain ⟨σ35, e36, hf⟩ := mb0 hf
  refine mx_callV (As := [.int (171 : Int32), .int (162 : Int32)]) (rest := []) hx hb hml hts hown hK hJ rfl rfl (ci := 12) rfl e34 (c_X12_turned l G P a0 (171 : Int32) (162 : Int32) σ31 σ35 e36) me_X12_turned kw_2395 ks_109 kw_2393 (Nat.le_of_ble_eq_true rfl) (Nat.le_of_ble_eq_true rfl) rfl hl.1 rfl (Nat.le_of_ble_eq_true rfl) dX12_slideSpeed_110 (fun H locs hJ => ?_)
  refine lv_aload_n hx hb dX12_slideSpeed_113 rfl (lv_at hl 0 rfl) ?_
  refine lv_sipush (v := 171) hx hb dX12_slideSpeed_114 (by decide) ?_
  refine lv_sipush (v := 171) hx hb dX12_slideSpeed_117 (by decide) ?_
  refine lv_sipush (v := 168) hx hb dX12_slideSpeed_120 (by decide) ?_
  obtain ⟨i37, e38, hf⟩ := mb0 hf
  obtain ⟨σ39, e40, hf⟩ := mb0 hf
  refine mx_callV (As := [.int (171 : Int32), .int (171 : Int32), .int (168 : Int32)]) (rest := []) hx hb hml hts hown hK hJ rfl rfl (ci := 12) rfl e38 (c_X12_multiply l G P a0 (171 : Int32) (171 : Int32) (168 : Int32) σ35 σ39 e40) me_X12_multiply kw_2407 ks_112 kw_2405 (Nat.le_of_ble_eq_true rfl) (Nat.le_of_ble_eq_true rfl) rfl hl.1 rfl (Nat.le_of_ble_eq_true rfl) dX12_slideSpeed_123 (fun H locs hJ => ?_)
  refine lv_aload_n hx hb dX12_slideSpeed_126 rfl (lv_at hl 0 rfl) ?_
  refine lv_sipush (v := 172) hx hb dX12_slideSpeed_127 (by decide) ?_
  refine lv_sipush (v := 161) hx hb dX12_slideSpeed_130 (by decide) ?_
  refine lv_sipush (v := 169) hx hb dX12_slideSpeed_133 (by decide) ?_
  obtain ⟨i41, e42, hf⟩ := mb0 hf
  obtain ⟨σ43, e44, hf⟩ := mb0 hf
  refine mx_callV (As := [.int (172 : Int32), .int (161 : Int32), .int (169 : Int32)]) (rest := []) hx hb hml hts hown hK hJ rfl rfl (ci := 12) rfl e42 (c_X12_multiply l G P a0 (172 : Int32) (161 : Int32) (169 : Int32) σ39 σ43 e44) me_X12_multiply kw_2407 ks_112 kw_2405 (Nat.le_of_ble_eq_true rfl) (Nat.le_of_ble_eq_true rfl) rfl hl.1 rfl (Nat.le_of_ble_eq_true rfl) dX12_slideSpeed_136 (fun H locs hJ => ?_)
  refine lv_aload_n hx hb dX12_slideSpeed_139 rfl (lv_at hl 0 rfl) ?_
  refine lv_sipush (v := 171) hx hb dX12_slideSpeed_140 (by decide) ?_
  refine lv_sipush (v := 171) hx hb dX12_slideSpeed_143 (by decide) ?_
  refine lv_sipush (v := 172) hx hb dX12_slideSpeed_146 (by decide) ?_
  obtain ⟨i45, e46, hf⟩ := mb0 hf
  obtain ⟨σ47, e48, hf⟩ := mb0 hf
  refine mx_callV (As := [.int (171 : Int32), .int (171 : Int32), .int (172 : Int32)]) (rest := []) hx hb hml hts hown hK hJ rfl rfl (ci := 12) rfl e46 (c_X12_less l G P a0 (171 : Int32) (171 : Int32) (172 : Int32) σ43 σ47 e48) me_X12_less kw_2417 ks_113 kw_2415 (Nat.le_of_ble_eq_true rfl) (Nat.le_of_ble_eq_true rfl) rfl hl.1 rfl (Nat.le_of_ble_eq_true rfl) dX12_slideSpeed_149 (fun H locs hJ => ?_)
  refine lv_aload_n hx hb dX12_slideSpeed_152 rfl (lv_at hl 0 rfl) ?_
  refine lv_sipush (v := 173) hx hb dX12_slideSpeed_153 (by decide) ?_
  refine lv_sipush (v := 160) hx hb dX12_slideSpeed_156 (by decide) ?_
  refine lv_sipush (v := 169) hx hb dX12_slideSpeed_159 (by decide) ?_
  obtain ⟨i49, e50, hf⟩ := mb0 hf
  obtain ⟨σ51, e52, hf⟩ := mb0 hf
  refine mx_callV (As := [.int (173 : Int32), .int (160 : Int32), .int (169 : Int32)]) (rest := []) hx hb hml hts hown hK hJ rfl rfl (ci := 12) rfl e50 (c_X12_multiply l G P a0 (173 : Int32) (160 : Int32) (169 : Int32) σ47 σ51 e52) me_X12_multiply kw_2407 ks_112 kw_2405 (Nat.le_of_ble_eq_true rfl) (Nat.le_of_ble_eq_true rfl) rfl hl.1 rfl (Nat.le_of_ble_eq_true rfl) dX12_slideSpeed_162 (fun H locs hJ => ?_)
  refine lv_aload_n hx hb dX12_slideSpeed_165 rfl (lv_at hl 0 rfl) ?_
  refine lv_sipush (v := 174) hx hb dX12_slideSpeed_166 (by decide) ?_
  refine lv_sipush (v := 163) hx hb dX12_slideSpeed_169 (by decide) ?_
  refine lv_sipush (v := 168) hx hb dX12_slideSpeed_172 (by decide) ?_
  obtain ⟨i53, e54, hf⟩ := mb0 hf
  obtain ⟨σ55, e56, hf⟩ := mb0 hf
  refine mx_callV (As := [.int (174 : Int32), .int (163 : Int32), .int (168 : Int32)]) (rest := []) hx hb hml hts hown hK hJ rfl rfl (ci := 12) rfl e54 (c_X12_multiply l G P a0 (174 : Int32) (163 : Int32) (168 : Int32) σ51 σ55 e56) me_X12_multiply kw_2407 ks_112 kw_2405 (Nat.le_of_ble_eq_true rfl) (Nat.le_of_ble_eq_true rfl) rfl hl.1 rfl (Nat.le_of_ble_eq_true rfl) dX12_slideSpeed_175 (fun H locs hJ => ?_)
  refine lv_aload_n hx hb dX12_slideSpeed_178 rfl (lv_at hl 0 rfl) ?_
  refine lv_sipush (v := 173) hx hb dX12_slideSpeed_179 (by decide) ?_
  refine lv_sipush (v := 173) hx hb dX12_slideSpeed_182 (by decide) ?_
  refine lv_sipush (v := 174) hx hb dX12_slideSpeed_185 (by decide) ?_
  obtain ⟨i57, e58, hf⟩ := mb0 hf
  obtain ⟨σ59, e60, hf⟩ := mb0 hf
  refine mx_callV (As := [.int (173 : Int32), .int (173 : Int32), .int (174 : Int32)]) (rest := []) hx hb hml hts hown hK hJ rfl rfl (ci := 12) rfl e58 (c_X12_less l G P a0 (173 : Int32) (173 : Int32) (174 : Int32) σ55 σ59 e60) me_X12_less kw_2417 ks_113 kw_2415 (Nat.le_of_ble_eq_true rfl) (Nat.le_of_ble_eq_true rfl) rfl hl.1 rfl (Nat.le_of_ble_eq_true rfl) dX12_slideSpeed_188 (fun H locs hJ => ?_)
  refine lv_aload_n hx hb dX12_slideSpeed_191 rfl (lv_at hl 0 rfl) ?_
  refine lv_iload_n hx hb dX12_slideSpeed_192 rfl (lv_at hl 1 rfl) ?_
  refine lv_sipush (v := 171) hx hb dX12_slideSpeed_193 (by decide) ?_
  refine lv_sipush (v := 170) hx hb dX12_slideSpeed_196 (by decide) ?_
  obtain ⟨i61, e62, hf⟩ := mb0 hf
  obtain ⟨σ63, e64, hf⟩ := mb0 hf
  refine mx_callV (As := [.int p1, .int (171 : Int32), .int (170 : Int32)]) (rest := []) hx hb hml hts hown hK hJ rfl rfl (ci := 12) rfl e62 (c_X12_divide l G P a0 p1 (171 : Int32) (170 : Int32) σ59 σ63 e64) me_X12_divide kw_2450 ks_121 kw_2448 (Nat.le_of_ble_eq_true rfl) (Nat.le_of_ble_eq_true rfl) rfl hl.1 rfl (Nat.le_of_ble_eq_true rfl) dX12_slideSpeed_199 (fun H locs hJ => ?_)
  refine lv_aload_n hx hb dX12_slideSpeed_202 rfl (lv_at hl 0 rfl) ?_
  refine lv_iload_n hx hb dX12_slideSpeed_203 rfl (lv_at hl 1 rfl) ?_
  refine lv_iconst (v := 1) hx hb dX12_slideSpeed_204 (by decide) ?_
  refine lv_iadd hx hb dX12_slideSpeed_205 ?_
  refine lv_sipush (v := 173) hx hb dX12_slideSpeed_206 (by decide) ?_
  refine lv_sipush (v := 170) hx hb dX12_slideSpeed_209 (by decide) ?_
  obtain ⟨i65, e66, hf⟩ := mb0 hf
  obtain ⟨σ67, e68, hf⟩ := mb0 hf
  refine mx_callV (As := [.int (p1 + (1 : Int32)), .int (173 : Int32), .int (170 : Int32)]) (rest := []) hx hb hml hts hown hK hJ rfl rfl (ci := 12) rfl e66 (c_X12_divide l G P a0 (p1 + (1 : Int32)) (173 : Int32) (170 : Int32) σ63 σ67 e68) me_X12_divide kw_2450 ks_121 kw_2448 (Nat.le_of_ble_eq_true rfl) (Nat.le_of_ble_eq_true rfl) rfl hl.1 rfl (Nat.le_of_ble_eq_true rfl) dX12_slideSpeed_212 (fun H locs hJ => ?_)
  exact my_vret hx hb hr hlocks hJ hf dX12_slideSpeed_215
set_option maxHeartbeats 4000000 in
set_option maxRecDepth 100000 in
theorem c_X12_crossSpeed (l : Launch) (G : mx_G) (P : mx_P) (a0 : Nat) (p1 : Int32) (p2 : Int32) (p3 : Int32) (p4 : Int32) (p5 : Int32) (p6 : Int32) (σ : mx_S) (σ' : mx_S) (hf : f_X12_crossSpeed P a0 p1 p2 p3 p4 p5 p6 σ = some σ') : mxz σ ≤ mpc P → mxu σ ≤ mps P → mx_M l yX12_crossSpeed cX12_crossSpeed 7 none 5 131 G P [.ref a0, .int p1, .int p2, .int p3, .int p4, .int p5, .int p6] σ none σ' := by
  intro hcap hcau
  refine mx_ofW (by decide +kernel) hcap hcau (Nat.le_of_ble_eq_true rfl) ?_
  intro p e s m below meth c hx hb hr hml hts hown hlocks hname hK hJ ls hl
  have hz0 := hJ.2.1
  have hown : s.vm.findClass RX12 = some m.cls := hown
  have hl : lv_has ls 7 [(0, .ref a0), (1, .int p1), (2, .int p2), (3, .int p3), (4, .int p4), (5, .int p5), (6, .int p6)] := hl
  unfold f_X12_crossSpeed at hf
  refine lv_aload_n hx hb dX12_crossSpeed_0 rfl (lv_at hl 0 rfl) ?_
  refine lv_sipush (v := 160) hx hb dX12_crossSpeed_1 (by decide) ?_
  refine lv_iload hx hb dX12_crossSpeed_4 (lv_at hl 4 rfl) ?_
  refine lv_iload_n hx hb dX12_crossSpeed_6 rfl (lv_at hl 3 rfl) ?_
  obtain ⟨i1, e2, hf⟩ := mb0 hf
  obtain ⟨σ3, e4, hf⟩ := mb0 hf
  refine mx_callV (As := [.int (160 : Int32), .int p4, .int p3]) (rest := []) hx hb hml hts hown hK hJ rfl rfl (ci := 12) rfl e2 (c_X12_between l G P a0 (160 : Int32) p4 p3 σ σ3 e4) me_X12_between kw_2429 ks_116 kw_2427 (Nat.le_of_ble_eq_true rfl) (Nat.le_of_ble_eq_true rfl) rfl hl.1 rfl (Nat.le_of_ble_eq_true rfl) dX12_crossSpeed_7 (fun H locs hJ => ?_)
  refine lv_aload_n hx hb dX12_crossSpeed_10 rfl (lv_at hl 0 rfl) ?_
  refine lv_sipush (v := 162) hx hb dX12_crossSpeed_11 (by decide) ?_
  refine lv_iload hx hb dX12_crossSpeed_14 (lv_at hl 6 rfl) ?_
  refine lv_iload hx hb dX12_crossSpeed_16 (lv_at hl 5 rfl) ?_
  obtain ⟨i5, e6, hf⟩ := mb0 hf
  obtain ⟨σ7, e8, hf⟩ := mb0 hf
  refine mx_callV (As := [.int (162 : Int32), .int p6, .int p5]) (rest := []) hx hb hml hts hown hK hJ rfl rfl (ci := 12) rfl e6 (c_X12_between l G P a0 (162 : Int32) p6 p5 σ3 σ7 e8) me_X12_between kw_2429 ks_116 kw_2427 (Nat.le_of_ble_eq_true rfl) (Nat.le_of_ble_eq_true rfl) rfl hl.1 rfl (Nat.le_of_ble_eq_true rfl) dX12_crossSpeed_18 (fun H locs hJ => ?_)
  refine lv_aload_n hx hb dX12_crossSpeed_21 rfl (lv_at hl 0 rfl) ?_
  refine lv_sipush (v := 164) hx hb dX12_crossSpeed_22 (by decide) ?_
  refine lv_iload_n hx hb dX12_crossSpeed_25 rfl (lv_at hl 2 rfl) ?_
  refine lv_iload_n hx hb dX12_crossSpeed_26 rfl (lv_at hl 3 rfl) ?_
  obtain ⟨i9, e10, hf⟩ := mb0 hf
  obtain ⟨σ11, e12, hf⟩ := mb0 hf
  refine mx_callV (As := [.int (164 : Int32), .int p2, .int p3]) (rest := []) hx hb hml hts hown hK hJ rfl rfl (ci := 12) rfl e10 (c_X12_between l G P a0 (164 : Int32) p2 p3 σ7 σ11 e12) me_X12_between kw_2429 ks_116 kw_2427 (Nat.le_of_ble_eq_true rfl) (Nat.le_of_ble_eq_true rfl) rfl hl.1 rfl (Nat.le_of_ble_eq_true rfl) dX12_crossSpeed_27 (fun H locs hJ => ?_)
  refine lv_aload_n hx hb dX12_crossSpeed_30 rfl (lv_at hl 0 rfl) ?_
  refine lv_sipush (v := 166) hx hb dX12_crossSpeed_31 (by decide) ?_
  refine lv_iload hx hb dX12_crossSpeed_34 (lv_at hl 4 rfl) ?_
  refine lv_iload_n hx hb dX12_crossSpeed_36 rfl (lv_at hl 3 rfl) ?_
  obtain ⟨i13, e14, hf⟩ := mb0 hf
  obtain ⟨σ15, e16, hf⟩ := mb0 hf
  refine mx_callV (As := [.int (166 : Int32), .int p4, .int p3]) (rest := []) hx hb hml hts hown hK hJ rfl rfl (ci := 12) rfl e14 (c_X12_speedBetween l G P a0 (166 : Int32) p4 p3 σ11 σ15 e16) me_X12_speedBetween kw_2551 ks_138 kw_2549 (Nat.le_of_ble_eq_true rfl) (Nat.le_of_ble_eq_true rfl) rfl hl.1 rfl (Nat.le_of_ble_eq_true rfl) dX12_crossSpeed_37 (fun H locs hJ => ?_)
  refine lv_aload_n hx hb dX12_crossSpeed_40 rfl (lv_at hl 0 rfl) ?_
  refine lv_sipush (v := 168) hx hb dX12_crossSpeed_41 (by decide) ?_
  refine lv_bipush (v := 80) hx hb dX12_crossSpeed_44 (by decide) ?_
  refine lv_iconst (v := 2) hx hb dX12_crossSpeed_46 (by decide) ?_
  refine lv_iload_n hx hb dX12_crossSpeed_47 rfl (lv_at hl 3 rfl) ?_
  refine lv_imul hx hb dX12_crossSpeed_48 ?_
  refine lv_iadd hx hb dX12_crossSpeed_49 ?_
  refine lv_sipush (v := 160) hx hb dX12_crossSpeed_50 (by decide) ?_
  refine lv_sipush (v := 164) hx hb dX12_crossSpeed_53 (by decide) ?_
  refine lv_sipush (v := 166) hx hb dX12_crossSpeed_56 (by decide) ?_
  obtain ⟨i17, e18, hf⟩ := mb0 hf
  obtain ⟨σ19, e20, hf⟩ := mb0 hf
  refine mx_callV (As := [.int (168 : Int32), .int ((80 : Int32) + ((2 : Int32) * p3)), .int (160 : Int32), .int (164 : Int32), .int (166 : Int32)]) (rest := []) hx hb hml hts hown hK hJ rfl rfl (ci := 12) rfl e18 (c_X12_lineSpeed l G P a0 (168 : Int32) ((80 : Int32) + ((2 : Int32) * p3)) (160 : Int32) (164 : Int32) (166 : Int32) σ15 σ19 e20) me_X12_lineSpeed kw_2555 ks_139 kw_2553 (Nat.le_of_ble_eq_true rfl) (Nat.le_of_ble_eq_true rfl) rfl hl.1 rfl (Nat.le_of_ble_eq_true rfl) dX12_crossSpeed_59 (fun H locs hJ => ?_)
  refine lv_aload_n hx hb dX12_crossSpeed_62 rfl (lv_at hl 0 rfl) ?_
  refine lv_sipush (v := 164) hx hb dX12_crossSpeed_63 (by decide) ?_
  refine lv_iload_n hx hb dX12_crossSpeed_66 rfl (lv_at hl 2 rfl) ?_
  refine lv_iload hx hb dX12_crossSpeed_67 (lv_at hl 5 rfl) ?_
  obtain ⟨i21, e22, hf⟩ := mb0 hf
  obtain ⟨σ23, e24, hf⟩ := mb0 hf
  refine mx_callV (As := [.int (164 : Int32), .int p2, .int p5]) (rest := []) hx hb hml hts hown hK hJ rfl rfl (ci := 12) rfl e22 (c_X12_between l G P a0 (164 : Int32) p2 p5 σ19 σ23 e24) me_X12_between kw_2429 ks_116 kw_2427 (Nat.le_of_ble_eq_true rfl) (Nat.le_of_ble_eq_true rfl) rfl hl.1 rfl (Nat.le_of_ble_eq_true rfl) dX12_crossSpeed_69 (fun H locs hJ => ?_)
  refine lv_aload_n hx hb dX12_crossSpeed_72 rfl (lv_at hl 0 rfl) ?_
  refine lv_sipush (v := 166) hx hb dX12_crossSpeed_73 (by decide) ?_
  refine lv_iload hx hb dX12_crossSpeed_76 (lv_at hl 6 rfl) ?_
  refine lv_iload hx hb dX12_crossSpeed_78 (lv_at hl 5 rfl) ?_
  obtain ⟨i25, e26, hf⟩ := mb0 hf
  obtain ⟨σ27, e28, hf⟩ := mb0 hf
  refine mx_callV (As := [.int (166 : Int32), .int p6, .int p5]) (rest := []) hx hb hml hts hown hK hJ rfl rfl (ci := 12) rfl e26 (c_X12_speedBetween l G P a0 (166 : Int32) p6 p5 σ23 σ27 e28) me_X12_speedBetween kw_2551 ks_138 kw_2549 (Nat.le_of_ble_eq_true rfl) (Nat.le_of_ble_eq_true rfl) rfl hl.1 rfl (Nat.le_of_ble_eq_true rfl) dX12_crossSpeed_80 (fun H locs hJ => ?_)
  refine lv_aload_n hx hb dX12_crossSpeed_83 rfl (lv_at hl 0 rfl) ?_
  refine lv_sipush (v := 169) hx hb dX12_crossSpeed_84 (by decide) ?_
  refine lv_bipush (v := 80) hx hb dX12_crossSpeed_87 (by decide) ?_
  refine lv_iconst (v := 2) hx hb dX12_crossSpeed_89 (by decide) ?_
  refine lv_iload hx hb dX12_crossSpeed_90 (lv_at hl 5 rfl) ?_
  refine lv_imul hx hb dX12_crossSpeed_92 ?_
  refine lv_iadd hx hb dX12_crossSpeed_93 ?_
  refine lv_sipush (v := 162) hx hb dX12_crossSpeed_94 (by decide) ?_
  refine lv_sipush (v := 164) hx hb dX12_crossSpeed_97 (by decide) ?_
  refine lv_sipush (v := 166) hx hb dX12_crossSpeed_100 (by decide) ?_
  obtain ⟨i29, e30, hf⟩ := mb0 hf
  obtain ⟨σ31, e32, hf⟩ := mb0 hf
  refine mx_callV (As := [.int (169 : Int32), .int ((80 : Int32) + ((2 : Int32) * p5)), .int (162 : Int32), .int (164 : Int32), .int (166 : Int32)]) (rest := []) hx hb hml hts hown hK hJ rfl rfl (ci := 12) rfl e30 (c_X12_lineSpeed l G P a0 (169 : Int32) ((80 : Int32) + ((2 : Int32) * p5)) (162 : Int32) (164 : Int32) (166 : Int32) σ27 σ31 e32) me_X12_lineSpeed kw_2555 ks_139 kw_2553 (Nat.le_of_ble_eq_true rfl) (Nat.le_of_ble_eq_true rfl) rfl hl.1 rfl (Nat.le_of_ble_eq_true rfl) dX12_crossSpeed_103 (fun H locs hJ => ?_)
  refine lv_aload_n hx hb dX12_crossSpeed_106 rfl (lv_at hl 0 rfl) ?_
  refine lv_sipush (v := 170) hx hb dX12_crossSpeed_107 (by decide) ?_
  refine lv_sipush (v := 160) hx hb dX12_crossSpeed_110 (by decide) ?_
  refine lv_sipush (v := 162) hx hb dX12_crossSpeed_113 (by decide) ?_
  obtain ⟨i33, e34, hf⟩ := mb0 hf
  obtain ⟨σ35, e36, hf⟩ := mb0 hf
  refine mx_callV (As := [.int (170 : Int32), .int (160 : Int32), .int (162 : Int32)]) (rest := []) hx hb hml hts hown hK hJ rfl rfl (ci := 12) rfl e34 (c_X12_cross l G P a0 (170 : Int32) (160 : Int32) (162 : Int32) σ31 σ35 e36) me_X12_cross kw_2481 ks_128 kw_2479 (Nat.le_of_ble_eq_true rfl) (Nat.le_of_ble_eq_true rfl) rfl hl.1 rfl (Nat.le_of_ble_eq_true rfl) dX12_crossSpeed_116 (fun H locs hJ => ?_)
  refine lv_aload_n hx hb dX12_crossSpeed_119 rfl (lv_at hl 0 rfl) ?_
  refine lv_sipush (v := 171) hx hb dX12_crossSpeed_120 (by decide) ?_
  refine lv_sipush (v := 160) hx hb dX12_crossSpeed_123 (by decide) ?_
  refine lv_sipush (v := 169) hx hb dX12_crossSpeed_126 (by decide) ?_
  obtain ⟨i37, e38, hf⟩ := mb0 hf
  obtain ⟨σ39, e40, hf⟩ := mb0 hf
  refine mx_callV (As := [.int (171 : Int32), .int (160 : Int32), .int (169 : Int32)]) (rest := []) hx hb hml hts hown hK hJ rfl rfl (ci := 12) rfl e38 (c_X12_multiply l G P a0 (171 : Int32) (160 : Int32) (169 : Int32) σ35 σ39 e40) me_X12_multiply kw_2407 ks_112 kw_2405 (Nat.le_of_ble_eq_true rfl) (Nat.le_of_ble_eq_true rfl) rfl hl.1 rfl (Nat.le_of_ble_eq_true rfl) dX12_crossSpeed_129 (fun H locs hJ => ?_)
  refine lv_aload_n hx hb dX12_crossSpeed_132 rfl (lv_at hl 0 rfl) ?_
  refine lv_sipush (v := 172) hx hb dX12_crossSpeed_133 (by decide) ?_
  refine lv_sipush (v := 162) hx hb dX12_crossSpeed_136 (by decide) ?_
  refine lv_sipush (v := 168) hx hb dX12_crossSpeed_139 (by decide) ?_
  obtain ⟨i41, e42, hf⟩ := mb0 hf
  obtain ⟨σ43, e44, hf⟩ := mb0 hf
  refine mx_callV (As := [.int (172 : Int32), .int (162 : Int32), .int (168 : Int32)]) (rest := []) hx hb hml hts hown hK hJ rfl rfl (ci := 12) rfl e42 (c_X12_multiply l G P a0 (172 : Int32) (162 : Int32) (168 : Int32) σ39 σ43 e44) me_X12_multiply kw_2407 ks_112 kw_2405 (Nat.le_of_ble_eq_true rfl) (Nat.le_of_ble_eq_true rfl) rfl hl.1 rfl (Nat.le_of_ble_eq_true rfl) dX12_crossSpeed_142 (fun H locs hJ => ?_)
  refine lv_aload_n hx hb dX12_crossSpeed_145 rfl (lv_at hl 0 rfl) ?_
  refine lv_sipush (v := 171) hx hb dX12_crossSpeed_146 (by decide) ?_
  refine lv_sipush (v := 171) hx hb dX12_crossSpeed_149 (by decide) ?_
  refine lv_sipush (v := 172) hx hb dX12_crossSpeed_152 (by decide) ?_
  obtain ⟨i45, e46, hf⟩ := mb0 hf
  obtain ⟨σ47, e48, hf⟩ := mb0 hf
  refine mx_callV (As := [.int (171 : Int32), .int (171 : Int32), .int (172 : Int32)]) (rest := []) hx hb hml hts hown hK hJ rfl rfl (ci := 12) rfl e46 (c_X12_less l G P a0 (171 : Int32) (171 : Int32) (172 : Int32) σ43 σ47 e48) me_X12_less kw_2417 ks_113 kw_2415 (Nat.le_of_ble_eq_true rfl) (Nat.le_of_ble_eq_true rfl) rfl hl.1 rfl (Nat.le_of_ble_eq_true rfl) dX12_crossSpeed_155 (fun H locs hJ => ?_)
  refine lv_aload_n hx hb dX12_crossSpeed_158 rfl (lv_at hl 0 rfl) ?_
  refine lv_sipush (v := 173) hx hb dX12_crossSpeed_159 (by decide) ?_
  refine lv_sipush (v := 161) hx hb dX12_crossSpeed_162 (by decide) ?_
  refine lv_sipush (v := 169) hx hb dX12_crossSpeed_165 (by decide) ?_
  obtain ⟨i49, e50, hf⟩ := mb0 hf
  obtain ⟨σ51, e52, hf⟩ := mb0 hf
  refine mx_callV (As := [.int (173 : Int32), .int (161 : Int32), .int (169 : Int32)]) (rest := []) hx hb hml hts hown hK hJ rfl rfl (ci := 12) rfl e50 (c_X12_multiply l G P a0 (173 : Int32) (161 : Int32) (169 : Int32) σ47 σ51 e52) me_X12_multiply kw_2407 ks_112 kw_2405 (Nat.le_of_ble_eq_true rfl) (Nat.le_of_ble_eq_true rfl) rfl hl.1 rfl (Nat.le_of_ble_eq_true rfl) dX12_crossSpeed_168 (fun H locs hJ => ?_)
  refine lv_aload_n hx hb dX12_crossSpeed_171 rfl (lv_at hl 0 rfl) ?_
  refine lv_sipush (v := 174) hx hb dX12_crossSpeed_172 (by decide) ?_
  refine lv_sipush (v := 163) hx hb dX12_crossSpeed_175 (by decide) ?_
  refine lv_sipush (v := 168) hx hb dX12_crossSpeed_178 (by decide) ?_
  obtain ⟨i53, e54, hf⟩ := mb0 hf
  obtain ⟨σ55, e56, hf⟩ := mb0 hf
  refine mx_callV (As := [.int (174 : Int32), .int (163 : Int32), .int (168 : Int32)]) (rest := []) hx hb hml hts hown hK hJ rfl rfl (ci := 12) rfl e54 (c_X12_multiply l G P a0 (174 : Int32) (163 : Int32) (168 : Int32) σ51 σ55 e56) me_X12_multiply kw_2407 ks_112 kw_2405 (Nat.le_of_ble_eq_true rfl) (Nat.le_of_ble_eq_true rfl) rfl hl.1 rfl (Nat.le_of_ble_eq_true rfl) dX12_crossSpeed_181 (fun H locs hJ => ?_)
  refine lv_aload_n hx hb dX12_crossSpeed_184 rfl (lv_at hl 0 rfl) ?_
  refine lv_sipush (v := 173) hx hb dX12_crossSpeed_185 (by decide) ?_
  refine lv_sipush (v := 173) hx hb dX12_crossSpeed_188 (by decide) ?_
  refine lv_sipush (v := 174) hx hb dX12_crossSpeed_191 (by decide) ?_
  obtain ⟨i57, e58, hf⟩ := mb0 hf
  obtain ⟨σ59, e60, hf⟩ := mb0 hf
  refine mx_callV (As := [.int (173 : Int32), .int (173 : Int32), .int (174 : Int32)]) (rest := []) hx hb hml hts hown hK hJ rfl rfl (ci := 12) rfl e58 (c_X12_less l G P a0 (173 : Int32) (173 : Int32) (174 : Int32) σ55 σ59 e60) me_X12_less kw_2417 ks_113 kw_2415 (Nat.le_of_ble_eq_true rfl) (Nat.le_of_ble_eq_true rfl) rfl hl.1 rfl (Nat.le_of_ble_eq_true rfl) dX12_crossSpeed_194 (fun H locs hJ => ?_)
  refine lv_aload_n hx hb dX12_crossSpeed_197 rfl (lv_at hl 0 rfl) ?_
  refine lv_iload_n hx hb dX12_crossSpeed_198 rfl (lv_at hl 1 rfl) ?_
  refine lv_sipush (v := 171) hx hb dX12_crossSpeed_199 (by decide) ?_
  refine lv_sipush (v := 170) hx hb dX12_crossSpeed_202 (by decide) ?_
  obtain ⟨i61, e62, hf⟩ := mb0 hf
  obtain ⟨σ63, e64, hf⟩ := mb0 hf
  refine mx_callV (As := [.int p1, .int (171 : Int32), .int (170 : Int32)]) (rest := []) hx hb hml hts hown hK hJ rfl rfl (ci := 12) rfl e62 (c_X12_divide l G P a0 p1 (171 : Int32) (170 : Int32) σ59 σ63 e64) me_X12_divide kw_2450 ks_121 kw_2448 (Nat.le_of_ble_eq_true rfl) (Nat.le_of_ble_eq_true rfl) rfl hl.1 rfl (Nat.le_of_ble_eq_true rfl) dX12_crossSpeed_205 (fun H locs hJ => ?_)
  refine lv_aload_n hx hb dX12_crossSpeed_208 rfl (lv_at hl 0 rfl) ?_
  refine lv_iload_n hx hb dX12_crossSpeed_209 rfl (lv_at hl 1 rfl) ?_
  refine lv_iconst (v := 1) hx hb dX12_crossSpeed_210 (by decide) ?_
  refine lv_iadd hx hb dX12_crossSpeed_211 ?_
  refine lv_sipush (v := 173) hx hb dX12_crossSpeed_212 (by decide) ?_
  refine lv_sipush (v := 170) hx hb dX12_crossSpeed_215 (by decide) ?_
  obtain ⟨i65, e66, hf⟩ := mb0 hf
  obtain ⟨σ67, e68, hf⟩ := mb0 hf
  refine mx_callV (As := [.int (p1 + (1 : Int32)), .int (173 : Int32), .int (170 : Int32)]) (rest := []) hx hb hml hts hown hK hJ rfl rfl (ci := 12) rfl e66 (c_X12_divide l G P a0 (p1 + (1 : Int32)) (173 : Int32) (170 : Int32) σ63 σ67 e68) me_X12_divide kw_2450 ks_121 kw_2448 (Nat.le_of_ble_eq_true rfl) (Nat.le_of_ble_eq_true rfl) rfl hl.1 rfl (Nat.le_of_ble_eq_true rfl) dX12_crossSpeed_218 (fun H locs hJ => ?_)
  exact my_vret hx hb hr hlocks hJ hf dX12_crossSpeed_221
set_option maxHeartbeats 4000000 in
set_option maxRecDepth 100000 in
theorem c_X12_speedOf (l : Launch) (G : mx_G) (P : mx_P) (a0 : Nat) (p1 : Int32) (p2 : Int32) (σ : mx_S) (σ' : mx_S) (hf : f_X12_speedOf P a0 p1 p2 σ = some σ') : mxz σ ≤ mpc P → mxu σ ≤ mps P → mx_M l yX12_speedOf cX12_speedOf 8 none 6 157 G P [.ref a0, .int p1, .int p2] σ none σ' := by
  intro hcap hcau
  refine mx_ofW (by decide +kernel) hcap hcau (Nat.le_of_ble_eq_true rfl) ?_
  intro p e s m below meth c hx hb hr hml hts hown hlocks hname hK hJ ls hl
  have hz0 := hJ.2.1
  have hown : s.vm.findClass RX12 = some m.cls := hown
  have hl : lv_has ls 8 [(0, .ref a0), (1, .int p1), (2, .int p2)] := hl
  unfold f_X12_speedOf at hf
  refine lv_bipush (v := 80) hx hb dX12_speedOf_0 (by decide) ?_
  refine lv_iconst (v := 2) hx hb dX12_speedOf_2 (by decide) ?_
  refine lv_iload_n hx hb dX12_speedOf_3 rfl (lv_at hl 1 rfl) ?_
  refine lv_imul hx hb dX12_speedOf_4 ?_
  refine lv_iadd hx hb dX12_speedOf_5 ?_
  obtain ⟨x1, e2, hf⟩ := mb0 hf
  refine mx_nI e2 ?_
  refine lv_istore_n (lv' := [(3, .int x1), (0, .ref a0), (1, .int p1), (2, .int p2)]) hx hb dX12_speedOf_6 rfl hl (by decide) rfl (fun ls hl => ?_)
  refine lv_aload_n hx hb dX12_speedOf_7 rfl (lv_at hl 1 rfl) ?_
  obtain ⟨b3, e4, hf⟩ := mb0 hf
  refine my_gR hx hb hts hown hK hJ fd_RX12_27 hv_12_22 e4 dX12_speedOf_8 ?_
  refine lv_iconst (v := 4) hx hb dX12_speedOf_11 (by decide) ?_
  refine lv_iload_n hx hb dX12_speedOf_12 rfl (lv_at hl 2 rfl) ?_
  refine lv_imul hx hb dX12_speedOf_13 ?_
  obtain ⟨x5, e6, hf⟩ := mb0 hf
  refine mx_aI hx hb hK hJ e6 dX12_speedOf_14 ?_
  refine lv_istore (lv' := [(4, .int x5), (3, .int x1), (0, .ref a0), (1, .int p1), (2, .int p2)]) hx hb dX12_speedOf_15 hl (by decide) rfl (fun ls hl => ?_)
  refine lv_aload_n hx hb dX12_speedOf_17 rfl (lv_at hl 2 rfl) ?_
  obtain ⟨b7, e8, hf⟩ := mb0 hf
  refine my_gR hx hb hts hown hK hJ fd_RX12_27 hv_12_22 e8 dX12_speedOf_18 ?_
  refine lv_iconst (v := 4) hx hb dX12_speedOf_21 (by decide) ?_
  refine lv_iload_n hx hb dX12_speedOf_22 rfl (lv_at hl 3 rfl) ?_
  refine lv_imul hx hb dX12_speedOf_23 ?_
  refine lv_iconst (v := 1) hx hb dX12_speedOf_24 (by decide) ?_
  refine lv_iadd hx hb dX12_speedOf_25 ?_
  obtain ⟨x9, e10, hf⟩ := mb0 hf
  refine mx_aI hx hb hK hJ e10 dX12_speedOf_26 ?_
  refine lv_istore (lv' := [(5, .int x9), (4, .int x5), (3, .int x1), (0, .ref a0), (1, .int p1), (2, .int p2)]) hx hb dX12_speedOf_27 hl (by decide) rfl (fun ls hl => ?_)
  refine lv_aload_n hx hb dX12_speedOf_29 rfl (lv_at hl 3 rfl) ?_
  obtain ⟨b11, e12, hf⟩ := mb0 hf
  refine my_gR hx hb hts hown hK hJ fd_RX12_27 hv_12_22 e12 dX12_speedOf_30 ?_
  refine lv_iconst (v := 4) hx hb dX12_speedOf_33 (by decide) ?_
  refine lv_iload_n hx hb dX12_speedOf_34 rfl (lv_at hl 4 rfl) ?_
  refine lv_imul hx hb dX12_speedOf_35 ?_
  refine lv_iconst (v := 2) hx hb dX12_speedOf_36 (by decide) ?_
  refine lv_iadd hx hb dX12_speedOf_37 ?_
  obtain ⟨x13, e14, hf⟩ := mb0 hf
  refine mx_aI hx hb hK hJ e14 dX12_speedOf_38 ?_
  refine lv_istore (lv' := [(6, .int x13), (5, .int x9), (4, .int x5), (3, .int x1), (0, .ref a0), (1, .int p1), (2, .int p2)]) hx hb dX12_speedOf_39 hl (by decide) rfl (fun ls hl => ?_)
  refine lv_aload_n hx hb dX12_speedOf_41 rfl (lv_at hl 4 rfl) ?_
  obtain ⟨b15, e16, hf⟩ := mb0 hf
  refine my_gR hx hb hts hown hK hJ fd_RX12_27 hv_12_22 e16 dX12_speedOf_42 ?_
  refine lv_iconst (v := 4) hx hb dX12_speedOf_45 (by decide) ?_
  refine lv_iload_n hx hb dX12_speedOf_46 rfl (lv_at hl 5 rfl) ?_
  refine lv_imul hx hb dX12_speedOf_47 ?_
  refine lv_iconst (v := 3) hx hb dX12_speedOf_48 (by decide) ?_
  refine lv_iadd hx hb dX12_speedOf_49 ?_
  obtain ⟨x17, e18, hf⟩ := mb0 hf
  refine mx_aI hx hb hK hJ e18 dX12_speedOf_50 ?_
  refine lv_istore (lv' := [(7, .int x17), (6, .int x13), (5, .int x9), (4, .int x5), (3, .int x1), (0, .ref a0), (1, .int p1), (2, .int p2)]) hx hb dX12_speedOf_51 hl (by decide) rfl (fun ls hl => ?_)
  refine lv_aload_n hx hb dX12_speedOf_53 rfl (lv_at hl 5 rfl) ?_
  obtain ⟨b19, e20, hf⟩ := mb0 hf
  refine my_gR hx hb hts hown hK hJ fd_RX12_24 hv_12_21 e20 dX12_speedOf_54 ?_
  refine lv_iload_n hx hb dX12_speedOf_57 rfl (lv_at hl 6 rfl) ?_
  obtain ⟨x21, e22, hf⟩ := mb0 hf
  refine mx_aI hx hb hK hJ e22 dX12_speedOf_58 ?_
  by_cases c23 : x21 = (0 : Int32)
  · rw [if_pos c23] at hf
    refine lv_tableIn (tgt := 92) (off := 33) hx hb dX12_speedOf_59 (by rw [c23] <;> decide) (by rw [c23] <;> decide) (by rw [c23] <;> decide) (by decide) ?_
    refine lv_aload_n hx hb dX12_speedOf_92 rfl (lv_at hl 5 rfl) ?_
    refine lv_iload_n hx hb dX12_speedOf_93 rfl (lv_at hl 4 rfl) ?_
    refine lv_lconst (v := 0) hx hb dX12_speedOf_94 (by decide) ?_
    refine lv_lconst (v := 0) hx hb dX12_speedOf_95 (by decide) ?_
    refine lv_iconst (v := 0) hx hb dX12_speedOf_96 (by decide) ?_
    obtain ⟨i24, e25, hf⟩ := mb0 hf
    obtain ⟨σ26, e27, hf⟩ := mb0 hf
    refine mx_callV (As := [.int x1, .long (0 : Int64), .long (0 : Int64), .int (0 : Int32)]) (rest := []) hx hb hml hts hown hK hJ rfl rfl (ci := 12) rfl e25 (c_X12_box l G P a0 x1 (0 : Int64) (0 : Int64) (0 : Int32) σ σ26 e27) me_X12_box kw_2381 ks_106 kw_2379 (Nat.le_of_ble_eq_true rfl) (Nat.le_of_ble_eq_true rfl) rfl hl.1 rfl (Nat.le_of_ble_eq_true rfl) dX12_speedOf_97 (fun H locs hJ => ?_)
    refine lv_aload_n hx hb dX12_speedOf_100 rfl (lv_at hl 5 rfl) ?_
    refine lv_iload_n hx hb dX12_speedOf_101 rfl (lv_at hl 4 rfl) ?_
    refine lv_iconst (v := 1) hx hb dX12_speedOf_102 (by decide) ?_
    refine lv_iadd hx hb dX12_speedOf_103 ?_
    refine lv_lconst (v := 0) hx hb dX12_speedOf_104 (by decide) ?_
    refine lv_lconst (v := 0) hx hb dX12_speedOf_105 (by decide) ?_
    refine lv_iconst (v := 0) hx hb dX12_speedOf_106 (by decide) ?_
    obtain ⟨i28, e29, hf⟩ := mb0 hf
    obtain ⟨σ30, e31, hf⟩ := mb0 hf
    refine mx_callV (As := [.int (x1 + (1 : Int32)), .long (0 : Int64), .long (0 : Int64), .int (0 : Int32)]) (rest := []) hx hb hml hts hown hK hJ rfl rfl (ci := 12) rfl e29 (c_X12_box l G P a0 (x1 + (1 : Int32)) (0 : Int64) (0 : Int64) (0 : Int32) σ26 σ30 e31) me_X12_box kw_2381 ks_106 kw_2379 (Nat.le_of_ble_eq_true rfl) (Nat.le_of_ble_eq_true rfl) rfl hl.1 rfl (Nat.le_of_ble_eq_true rfl) dX12_speedOf_107 (fun H locs hJ => ?_)
    exact my_vret hx hb hr hlocks hJ hf dX12_speedOf_110
  rw [if_neg c23] at hf
  by_cases c32 : x21 = (1 : Int32)
  · rw [if_pos c32] at hf
    refine lv_tableIn (tgt := 111) (off := 52) hx hb dX12_speedOf_59 (by rw [c32] <;> decide) (by rw [c32] <;> decide) (by rw [c32] <;> decide) (by decide) ?_
    refine lv_aload_n hx hb dX12_speedOf_111 rfl (lv_at hl 5 rfl) ?_
    refine lv_iload_n hx hb dX12_speedOf_112 rfl (lv_at hl 4 rfl) ?_
    refine lv_bipush (v := 80) hx hb dX12_speedOf_113 (by decide) ?_
    refine lv_iconst (v := 2) hx hb dX12_speedOf_115 (by decide) ?_
    refine lv_iload hx hb dX12_speedOf_116 (lv_at hl 3 rfl) ?_
    refine lv_imul hx hb dX12_speedOf_118 ?_
    refine lv_iadd hx hb dX12_speedOf_119 ?_
    obtain ⟨i33, e34, hf⟩ := mb0 hf
    obtain ⟨σ35, e36, hf⟩ := mb0 hf
    refine mx_callV (As := [.int x1, .int ((80 : Int32) + ((2 : Int32) * x5))]) (rest := []) hx hb hml hts hown hK hJ rfl rfl (ci := 12) rfl e34 (c_X12_copy l G P a0 x1 ((80 : Int32) + ((2 : Int32) * x5)) σ σ35 e36) me_X12_copy kw_2399 ks_110 kw_2397 (Nat.le_of_ble_eq_true rfl) (Nat.le_of_ble_eq_true rfl) rfl hl.1 rfl (Nat.le_of_ble_eq_true rfl) dX12_speedOf_120 (fun H locs hJ => ?_)
    refine lv_aload_n hx hb dX12_speedOf_123 rfl (lv_at hl 5 rfl) ?_
    refine lv_iload_n hx hb dX12_speedOf_124 rfl (lv_at hl 4 rfl) ?_
    refine lv_iconst (v := 1) hx hb dX12_speedOf_125 (by decide) ?_
    refine lv_iadd hx hb dX12_speedOf_126 ?_
    refine lv_bipush (v := 80) hx hb dX12_speedOf_127 (by decide) ?_
    refine lv_iconst (v := 2) hx hb dX12_speedOf_129 (by decide) ?_
    refine lv_iload hx hb dX12_speedOf_130 (lv_at hl 3 rfl) ?_
    refine lv_imul hx hb dX12_speedOf_132 ?_
    refine lv_iadd hx hb dX12_speedOf_133 ?_
    refine lv_iconst (v := 1) hx hb dX12_speedOf_134 (by decide) ?_
    refine lv_iadd hx hb dX12_speedOf_135 ?_
    obtain ⟨i37, e38, hf⟩ := mb0 hf
    obtain ⟨σ39, e40, hf⟩ := mb0 hf
    refine mx_callV (As := [.int (x1 + (1 : Int32)), .int (((80 : Int32) + ((2 : Int32) * x5)) + (1 : Int32))]) (rest := []) hx hb hml hts hown hK hJ rfl rfl (ci := 12) rfl e38 (c_X12_copy l G P a0 (x1 + (1 : Int32)) (((80 : Int32) + ((2 : Int32) * x5)) + (1 : Int32)) σ35 σ39 e40) me_X12_copy kw_2399 ks_110 kw_2397 (Nat.le_of_ble_eq_true rfl) (Nat.le_of_ble_eq_true rfl) rfl hl.1 rfl (Nat.le_of_ble_eq_true rfl) dX12_speedOf_136 (fun H locs hJ => ?_)
    refine lv_aload_n hx hb dX12_speedOf_139 rfl (lv_at hl 5 rfl) ?_
    obtain ⟨b41, e42, hf⟩ := mb0 hf
    refine my_gR hx hb hts hown hK hJ fd_RX12_42 hv_12_27 e42 dX12_speedOf_140 ?_
    refine lv_iload_n hx hb dX12_speedOf_143 rfl (lv_at hl 6 rfl) ?_
    obtain ⟨x43, e44, hf⟩ := mb0 hf
    refine mx_aI hx hb hK hJ e44 dX12_speedOf_144 ?_
    refine lv_iload_n hx hb dX12_speedOf_145 rfl (lv_at hl 7 rfl) ?_
    refine lv_icmp_eq (tgt := 150) hx hb dX12_speedOf_146 (by decide) (fun c45 => ?_) (fun c45 => ?_)
    · rw [if_pos c45] at hf
      refine lv_aload_n hx hb dX12_speedOf_150 rfl (lv_at hl 5 rfl) ?_
      refine lv_sipush (v := 160) hx hb dX12_speedOf_151 (by decide) ?_
      refine lv_iload_n hx hb dX12_speedOf_154 rfl (lv_at hl 6 rfl) ?_
      obtain ⟨i46, e47, hf⟩ := mb0 hf
      obtain ⟨σ48, e49, hf⟩ := mb0 hf
      refine mx_callV (As := [.int (160 : Int32), .int p1]) (rest := []) hx hb hml hts hown hK hJ rfl rfl (ci := 12) rfl e47 (c_X12_wayOf l G P a0 (160 : Int32) p1 σ39 σ48 e49) me_X12_wayOf kw_2386 ks_107 kw_2384 (Nat.le_of_ble_eq_true rfl) (Nat.le_of_ble_eq_true rfl) rfl hl.1 rfl (Nat.le_of_ble_eq_true rfl) dX12_speedOf_155 (fun H locs hJ => ?_)
      refine lv_aload_n hx hb dX12_speedOf_158 rfl (lv_at hl 5 rfl) ?_
      refine lv_sipush (v := 162) hx hb dX12_speedOf_159 (by decide) ?_
      refine lv_aload_n hx hb dX12_speedOf_162 rfl (lv_at hl 5 rfl) ?_
      obtain ⟨b50, e51, hf⟩ := mb0 hf
      refine my_gR hx hb hts hown hK hJ fd_RX12_45 hv_12_28 e51 dX12_speedOf_163 ?_
      refine lv_iload_n hx hb dX12_speedOf_166 rfl (lv_at hl 6 rfl) ?_
      obtain ⟨x52, e53, hf⟩ := mb0 hf
      refine mx_aI hx hb hK hJ e53 dX12_speedOf_167 ?_
      refine lv_i2l hx hb dX12_speedOf_168 rfl ?_
      refine lv_aload_n hx hb dX12_speedOf_169 rfl (lv_at hl 5 rfl) ?_
      obtain ⟨b54, e55, hf⟩ := mb0 hf
      refine my_gR hx hb hts hown hK hJ fd_RX12_30 hv_12_23 e55 dX12_speedOf_170 ?_
      refine lv_iload_n hx hb dX12_speedOf_173 rfl (lv_at hl 6 rfl) ?_
      obtain ⟨x56, e57, hf⟩ := mb0 hf
      refine mx_aL hx hb hK hJ e57 dX12_speedOf_174 ?_
      refine lv_lmul hx hb dX12_speedOf_175 ?_
      refine lv_aload_n hx hb dX12_speedOf_176 rfl (lv_at hl 5 rfl) ?_
      obtain ⟨b58, e59, hf⟩ := mb0 hf
      refine my_gR hx hb hts hown hK hJ fd_RX12_33 hv_12_24 e59 dX12_speedOf_177 ?_
      refine lv_iload_n hx hb dX12_speedOf_180 rfl (lv_at hl 6 rfl) ?_
      obtain ⟨x60, e61, hf⟩ := mb0 hf
      refine mx_aL hx hb hK hJ e61 dX12_speedOf_181 ?_
      obtain ⟨i62, e63, hf⟩ := mb0 hf
      obtain ⟨σ64, e65, hf⟩ := mb0 hf
      refine mx_callV (As := [.int (162 : Int32), .long ((x52.toInt64) * x56), .long x60]) (rest := []) hx hb hml hts hown hK hJ rfl rfl (ci := 12) rfl e63 (c_X12_fraction l G P a0 (162 : Int32) ((x52.toInt64) * x56) x60 σ48 σ64 e65) me_X12_fraction kw_2370 ks_105 kw_2368 (Nat.le_of_ble_eq_true rfl) (Nat.le_of_ble_eq_true rfl) rfl hl.1 rfl (Nat.le_of_ble_eq_true rfl) dX12_speedOf_182 (fun H locs hJ => ?_)
      refine lv_aload_n hx hb dX12_speedOf_185 rfl (lv_at hl 5 rfl) ?_
      refine lv_sipush (v := 163) hx hb dX12_speedOf_186 (by decide) ?_
      refine lv_sipush (v := 161) hx hb dX12_speedOf_189 (by decide) ?_
      obtain ⟨i66, e67, hf⟩ := mb0 hf
      obtain ⟨σ68, e69, hf⟩ := mb0 hf
      refine mx_callV (As := [.int (163 : Int32), .int (161 : Int32)]) (rest := []) hx hb hml hts hown hK hJ rfl rfl (ci := 12) rfl e67 (c_X12_turned l G P a0 (163 : Int32) (161 : Int32) σ64 σ68 e69) me_X12_turned kw_2395 ks_109 kw_2393 (Nat.le_of_ble_eq_true rfl) (Nat.le_of_ble_eq_true rfl) rfl hl.1 rfl (Nat.le_of_ble_eq_true rfl) dX12_speedOf_192 (fun H locs hJ => ?_)
      refine lv_aload_n hx hb dX12_speedOf_195 rfl (lv_at hl 5 rfl) ?_
      refine lv_sipush (v := 163) hx hb dX12_speedOf_196 (by decide) ?_
      refine lv_sipush (v := 162) hx hb dX12_speedOf_199 (by decide) ?_
      refine lv_sipush (v := 163) hx hb dX12_speedOf_202 (by decide) ?_
      obtain ⟨i70, e71, hf⟩ := mb0 hf
      obtain ⟨σ72, e73, hf⟩ := mb0 hf
      refine mx_callV (As := [.int (163 : Int32), .int (162 : Int32), .int (163 : Int32)]) (rest := []) hx hb hml hts hown hK hJ rfl rfl (ci := 12) rfl e71 (c_X12_multiply l G P a0 (163 : Int32) (162 : Int32) (163 : Int32) σ68 σ72 e73) me_X12_multiply kw_2407 ks_112 kw_2405 (Nat.le_of_ble_eq_true rfl) (Nat.le_of_ble_eq_true rfl) rfl hl.1 rfl (Nat.le_of_ble_eq_true rfl) dX12_speedOf_205 (fun H locs hJ => ?_)
      refine lv_aload_n hx hb dX12_speedOf_208 rfl (lv_at hl 5 rfl) ?_
      refine lv_sipush (v := 164) hx hb dX12_speedOf_209 (by decide) ?_
      refine lv_sipush (v := 162) hx hb dX12_speedOf_212 (by decide) ?_
      refine lv_sipush (v := 160) hx hb dX12_speedOf_215 (by decide) ?_
      obtain ⟨i74, e75, hf⟩ := mb0 hf
      obtain ⟨σ76, e77, hf⟩ := mb0 hf
      refine mx_callV (As := [.int (164 : Int32), .int (162 : Int32), .int (160 : Int32)]) (rest := []) hx hb hml hts hown hK hJ rfl rfl (ci := 12) rfl e75 (c_X12_multiply l G P a0 (164 : Int32) (162 : Int32) (160 : Int32) σ72 σ76 e77) me_X12_multiply kw_2407 ks_112 kw_2405 (Nat.le_of_ble_eq_true rfl) (Nat.le_of_ble_eq_true rfl) rfl hl.1 rfl (Nat.le_of_ble_eq_true rfl) dX12_speedOf_218 (fun H locs hJ => ?_)
      refine lv_aload_n hx hb dX12_speedOf_221 rfl (lv_at hl 5 rfl) ?_
      refine lv_iload_n hx hb dX12_speedOf_222 rfl (lv_at hl 4 rfl) ?_
      refine lv_iload_n hx hb dX12_speedOf_223 rfl (lv_at hl 4 rfl) ?_
      refine lv_sipush (v := 163) hx hb dX12_speedOf_224 (by decide) ?_
      obtain ⟨i78, e79, hf⟩ := mb0 hf
      obtain ⟨σ80, e81, hf⟩ := mb0 hf
      refine mx_callV (As := [.int x1, .int x1, .int (163 : Int32)]) (rest := []) hx hb hml hts hown hK hJ rfl rfl (ci := 12) rfl e79 (c_X12_add l G P a0 x1 x1 (163 : Int32) σ76 σ80 e81) me_X12_add kw_2421 ks_114 kw_2419 (Nat.le_of_ble_eq_true rfl) (Nat.le_of_ble_eq_true rfl) rfl hl.1 rfl (Nat.le_of_ble_eq_true rfl) dX12_speedOf_227 (fun H locs hJ => ?_)
      refine lv_aload_n hx hb dX12_speedOf_230 rfl (lv_at hl 5 rfl) ?_
      refine lv_iload_n hx hb dX12_speedOf_231 rfl (lv_at hl 4 rfl) ?_
      refine lv_iconst (v := 1) hx hb dX12_speedOf_232 (by decide) ?_
      refine lv_iadd hx hb dX12_speedOf_233 ?_
      refine lv_iload_n hx hb dX12_speedOf_234 rfl (lv_at hl 4 rfl) ?_
      refine lv_iconst (v := 1) hx hb dX12_speedOf_235 (by decide) ?_
      refine lv_iadd hx hb dX12_speedOf_236 ?_
      refine lv_sipush (v := 164) hx hb dX12_speedOf_237 (by decide) ?_
      obtain ⟨i82, e83, hf⟩ := mb0 hf
      obtain ⟨σ84, e85, hf⟩ := mb0 hf
      refine mx_callV (As := [.int (x1 + (1 : Int32)), .int (x1 + (1 : Int32)), .int (164 : Int32)]) (rest := []) hx hb hml hts hown hK hJ rfl rfl (ci := 12) rfl e83 (c_X12_add l G P a0 (x1 + (1 : Int32)) (x1 + (1 : Int32)) (164 : Int32) σ80 σ84 e85) me_X12_add kw_2421 ks_114 kw_2419 (Nat.le_of_ble_eq_true rfl) (Nat.le_of_ble_eq_true rfl) rfl hl.1 rfl (Nat.le_of_ble_eq_true rfl) dX12_speedOf_240 (fun H locs hJ => ?_)
      exact my_vret hx hb hr hlocks hJ hf dX12_speedOf_243
    · rw [if_neg c45] at hf
      exact my_vret hx hb hr hlocks hJ hf dX12_speedOf_149
  rw [if_neg c32] at hf
  by_cases c86 : x21 = (2 : Int32)
  · rw [if_pos c86] at hf
    refine lv_tableIn (tgt := 244) (off := 185) hx hb dX12_speedOf_59 (by rw [c86] <;> decide) (by rw [c86] <;> decide) (by rw [c86] <;> decide) (by decide) ?_
    refine lv_aload_n hx hb dX12_speedOf_244 rfl (lv_at hl 5 rfl) ?_
    refine lv_sipush (v := 160) hx hb dX12_speedOf_245 (by decide) ?_
    refine lv_iload_n hx hb dX12_speedOf_248 rfl (lv_at hl 6 rfl) ?_
    refine lv_iload hx hb dX12_speedOf_249 (lv_at hl 3 rfl) ?_
    obtain ⟨i87, e88, hf⟩ := mb0 hf
    obtain ⟨σ89, e90, hf⟩ := mb0 hf
    refine mx_callV (As := [.int (160 : Int32), .int p1, .int x5]) (rest := []) hx hb hml hts hown hK hJ rfl rfl (ci := 12) rfl e88 (c_X12_between l G P a0 (160 : Int32) p1 x5 σ σ89 e90) me_X12_between kw_2429 ks_116 kw_2427 (Nat.le_of_ble_eq_true rfl) (Nat.le_of_ble_eq_true rfl) rfl hl.1 rfl (Nat.le_of_ble_eq_true rfl) dX12_speedOf_251 (fun H locs hJ => ?_)
    refine lv_aload_n hx hb dX12_speedOf_254 rfl (lv_at hl 5 rfl) ?_
    refine lv_sipush (v := 162) hx hb dX12_speedOf_255 (by decide) ?_
    refine lv_iload_n hx hb dX12_speedOf_258 rfl (lv_at hl 6 rfl) ?_
    refine lv_iload hx hb dX12_speedOf_259 (lv_at hl 2 rfl) ?_
    obtain ⟨i91, e92, hf⟩ := mb0 hf
    obtain ⟨σ93, e94, hf⟩ := mb0 hf
    refine mx_callV (As := [.int (162 : Int32), .int p1, .int x9]) (rest := []) hx hb hml hts hown hK hJ rfl rfl (ci := 12) rfl e92 (c_X12_between l G P a0 (162 : Int32) p1 x9 σ89 σ93 e94) me_X12_between kw_2429 ks_116 kw_2427 (Nat.le_of_ble_eq_true rfl) (Nat.le_of_ble_eq_true rfl) rfl hl.1 rfl (Nat.le_of_ble_eq_true rfl) dX12_speedOf_261 (fun H locs hJ => ?_)
    refine lv_aload_n hx hb dX12_speedOf_264 rfl (lv_at hl 5 rfl) ?_
    refine lv_sipush (v := 164) hx hb dX12_speedOf_265 (by decide) ?_
    refine lv_sipush (v := 160) hx hb dX12_speedOf_268 (by decide) ?_
    refine lv_bipush (v := 80) hx hb dX12_speedOf_271 (by decide) ?_
    refine lv_iconst (v := 2) hx hb dX12_speedOf_273 (by decide) ?_
    refine lv_iload hx hb dX12_speedOf_274 (lv_at hl 3 rfl) ?_
    refine lv_imul hx hb dX12_speedOf_276 ?_
    refine lv_iadd hx hb dX12_speedOf_277 ?_
    obtain ⟨i95, e96, hf⟩ := mb0 hf
    obtain ⟨σ97, e98, hf⟩ := mb0 hf
    refine mx_callV (As := [.int (164 : Int32), .int (160 : Int32), .int ((80 : Int32) + ((2 : Int32) * x5))]) (rest := []) hx hb hml hts hown hK hJ rfl rfl (ci := 12) rfl e96 (c_X12_dot l G P a0 (164 : Int32) (160 : Int32) ((80 : Int32) + ((2 : Int32) * x5)) σ93 σ97 e98) me_X12_dot kw_2473 ks_126 kw_2471 (Nat.le_of_ble_eq_true rfl) (Nat.le_of_ble_eq_true rfl) rfl hl.1 rfl (Nat.le_of_ble_eq_true rfl) dX12_speedOf_278 (fun H locs hJ => ?_)
    refine lv_aload_n hx hb dX12_speedOf_281 rfl (lv_at hl 5 rfl) ?_
    refine lv_sipush (v := 165) hx hb dX12_speedOf_282 (by decide) ?_
    refine lv_sipush (v := 162) hx hb dX12_speedOf_285 (by decide) ?_
    refine lv_bipush (v := 80) hx hb dX12_speedOf_288 (by decide) ?_
    refine lv_iconst (v := 2) hx hb dX12_speedOf_290 (by decide) ?_
    refine lv_iload hx hb dX12_speedOf_291 (lv_at hl 2 rfl) ?_
    refine lv_imul hx hb dX12_speedOf_293 ?_
    refine lv_iadd hx hb dX12_speedOf_294 ?_
    obtain ⟨i99, e100, hf⟩ := mb0 hf
    obtain ⟨σ101, e102, hf⟩ := mb0 hf
    refine mx_callV (As := [.int (165 : Int32), .int (162 : Int32), .int ((80 : Int32) + ((2 : Int32) * x9))]) (rest := []) hx hb hml hts hown hK hJ rfl rfl (ci := 12) rfl e100 (c_X12_dot l G P a0 (165 : Int32) (162 : Int32) ((80 : Int32) + ((2 : Int32) * x9)) σ97 σ101 e102) me_X12_dot kw_2473 ks_126 kw_2471 (Nat.le_of_ble_eq_true rfl) (Nat.le_of_ble_eq_true rfl) rfl hl.1 rfl (Nat.le_of_ble_eq_true rfl) dX12_speedOf_295 (fun H locs hJ => ?_)
    refine lv_aload_n hx hb dX12_speedOf_298 rfl (lv_at hl 5 rfl) ?_
    refine lv_iload_n hx hb dX12_speedOf_299 rfl (lv_at hl 4 rfl) ?_
    refine lv_sipush (v := 160) hx hb dX12_speedOf_300 (by decide) ?_
    refine lv_sipush (v := 162) hx hb dX12_speedOf_303 (by decide) ?_
    refine lv_sipush (v := 164) hx hb dX12_speedOf_306 (by decide) ?_
    refine lv_sipush (v := 165) hx hb dX12_speedOf_309 (by decide) ?_
    obtain ⟨i103, e104, hf⟩ := mb0 hf
    obtain ⟨σ105, e106, hf⟩ := mb0 hf
    refine mx_callV (As := [.int x1, .int (160 : Int32), .int (162 : Int32), .int (164 : Int32), .int (165 : Int32)]) (rest := []) hx hb hml hts hown hK hJ rfl rfl (ci := 12) rfl e104 (c_X12_solve l G P a0 x1 (160 : Int32) (162 : Int32) (164 : Int32) (165 : Int32) σ101 σ105 e106) me_X12_solve kw_2543 ks_136 kw_2541 (Nat.le_of_ble_eq_true rfl) (Nat.le_of_ble_eq_true rfl) rfl hl.1 rfl (Nat.le_of_ble_eq_true rfl) dX12_speedOf_312 (fun H locs hJ => ?_)
    exact my_vret hx hb hr hlocks hJ hf dX12_speedOf_315
  rw [if_neg c86] at hf
  by_cases c107 : x21 = (3 : Int32)
  · rw [if_pos c107] at hf
    refine lv_tableIn (tgt := 316) (off := 257) hx hb dX12_speedOf_59 (by rw [c107] <;> decide) (by rw [c107] <;> decide) (by rw [c107] <;> decide) (by decide) ?_
    refine lv_aload_n hx hb dX12_speedOf_316 rfl (lv_at hl 5 rfl) ?_
    refine lv_iload_n hx hb dX12_speedOf_317 rfl (lv_at hl 4 rfl) ?_
    refine lv_iload_n hx hb dX12_speedOf_318 rfl (lv_at hl 6 rfl) ?_
    refine lv_iload hx hb dX12_speedOf_319 (lv_at hl 3 rfl) ?_
    refine lv_iload hx hb dX12_speedOf_321 (lv_at hl 1 rfl) ?_
    refine lv_iload hx hb dX12_speedOf_323 (lv_at hl 0 rfl) ?_
    obtain ⟨i108, e109, hf⟩ := mb0 hf
    obtain ⟨σ110, e111, hf⟩ := mb0 hf
    refine mx_callV (As := [.int x1, .int p1, .int x5, .int x13, .int x17]) (rest := []) hx hb hml hts hown hK hJ rfl rfl (ci := 12) rfl e109 (c_X12_slideSpeed l G P a0 x1 p1 x5 x13 x17 σ σ110 e111) me_X12_slideSpeed kw_2547 ks_137 kw_2545 (Nat.le_of_ble_eq_true rfl) (Nat.le_of_ble_eq_true rfl) rfl hl.1 rfl (Nat.le_of_ble_eq_true rfl) dX12_speedOf_325 (fun H locs hJ => ?_)
    exact my_vret hx hb hr hlocks hJ hf dX12_speedOf_328
  rw [if_neg c107] at hf
  by_cases c112 : x21 = (4 : Int32)
  · rw [if_pos c112] at hf
    refine lv_tableIn (tgt := 329) (off := 270) hx hb dX12_speedOf_59 (by rw [c112] <;> decide) (by rw [c112] <;> decide) (by rw [c112] <;> decide) (by decide) ?_
    refine lv_aload_n hx hb dX12_speedOf_329 rfl (lv_at hl 5 rfl) ?_
    refine lv_sipush (v := 160) hx hb dX12_speedOf_330 (by decide) ?_
    refine lv_bipush (v := 80) hx hb dX12_speedOf_333 (by decide) ?_
    refine lv_iconst (v := 2) hx hb dX12_speedOf_335 (by decide) ?_
    refine lv_iload hx hb dX12_speedOf_336 (lv_at hl 2 rfl) ?_
    refine lv_imul hx hb dX12_speedOf_338 ?_
    refine lv_iadd hx hb dX12_speedOf_339 ?_
    refine lv_bipush (v := 80) hx hb dX12_speedOf_340 (by decide) ?_
    refine lv_iconst (v := 2) hx hb dX12_speedOf_342 (by decide) ?_
    refine lv_iload hx hb dX12_speedOf_343 (lv_at hl 3 rfl) ?_
    refine lv_imul hx hb dX12_speedOf_345 ?_
    refine lv_iadd hx hb dX12_speedOf_346 ?_
    obtain ⟨i113, e114, hf⟩ := mb0 hf
    obtain ⟨σ115, e116, hf⟩ := mb0 hf
    refine mx_callV (As := [.int (160 : Int32), .int ((80 : Int32) + ((2 : Int32) * x9)), .int ((80 : Int32) + ((2 : Int32) * x5))]) (rest := []) hx hb hml hts hown hK hJ rfl rfl (ci := 12) rfl e114 (c_X12_less l G P a0 (160 : Int32) ((80 : Int32) + ((2 : Int32) * x9)) ((80 : Int32) + ((2 : Int32) * x5)) σ σ115 e116) me_X12_less kw_2417 ks_113 kw_2415 (Nat.le_of_ble_eq_true rfl) (Nat.le_of_ble_eq_true rfl) rfl hl.1 rfl (Nat.le_of_ble_eq_true rfl) dX12_speedOf_347 (fun H locs hJ => ?_)
    refine lv_aload_n hx hb dX12_speedOf_350 rfl (lv_at hl 5 rfl) ?_
    refine lv_sipush (v := 161) hx hb dX12_speedOf_351 (by decide) ?_
    refine lv_bipush (v := 80) hx hb dX12_speedOf_354 (by decide) ?_
    refine lv_iconst (v := 2) hx hb dX12_speedOf_356 (by decide) ?_
    refine lv_iload hx hb dX12_speedOf_357 (lv_at hl 2 rfl) ?_
    refine lv_imul hx hb dX12_speedOf_359 ?_
    refine lv_iadd hx hb dX12_speedOf_360 ?_
    refine lv_iconst (v := 1) hx hb dX12_speedOf_361 (by decide) ?_
    refine lv_iadd hx hb dX12_speedOf_362 ?_
    refine lv_bipush (v := 80) hx hb dX12_speedOf_363 (by decide) ?_
    refine lv_iconst (v := 2) hx hb dX12_speedOf_365 (by decide) ?_
    refine lv_iload hx hb dX12_speedOf_366 (lv_at hl 3 rfl) ?_
    refine lv_imul hx hb dX12_speedOf_368 ?_
    refine lv_iadd hx hb dX12_speedOf_369 ?_
    refine lv_iconst (v := 1) hx hb dX12_speedOf_370 (by decide) ?_
    refine lv_iadd hx hb dX12_speedOf_371 ?_
    obtain ⟨i117, e118, hf⟩ := mb0 hf
    obtain ⟨σ119, e120, hf⟩ := mb0 hf
    refine mx_callV (As := [.int (161 : Int32), .int (((80 : Int32) + ((2 : Int32) * x9)) + (1 : Int32)), .int (((80 : Int32) + ((2 : Int32) * x5)) + (1 : Int32))]) (rest := []) hx hb hml hts hown hK hJ rfl rfl (ci := 12) rfl e118 (c_X12_less l G P a0 (161 : Int32) (((80 : Int32) + ((2 : Int32) * x9)) + (1 : Int32)) (((80 : Int32) + ((2 : Int32) * x5)) + (1 : Int32)) σ115 σ119 e120) me_X12_less kw_2417 ks_113 kw_2415 (Nat.le_of_ble_eq_true rfl) (Nat.le_of_ble_eq_true rfl) rfl hl.1 rfl (Nat.le_of_ble_eq_true rfl) dX12_speedOf_372 (fun H locs hJ => ?_)
    refine lv_aload_n hx hb dX12_speedOf_375 rfl (lv_at hl 5 rfl) ?_
    refine lv_iload_n hx hb dX12_speedOf_376 rfl (lv_at hl 4 rfl) ?_
    refine lv_bipush (v := 80) hx hb dX12_speedOf_377 (by decide) ?_
    refine lv_iconst (v := 2) hx hb dX12_speedOf_379 (by decide) ?_
    refine lv_iload hx hb dX12_speedOf_380 (lv_at hl 3 rfl) ?_
    refine lv_imul hx hb dX12_speedOf_382 ?_
    refine lv_iadd hx hb dX12_speedOf_383 ?_
    refine lv_iload_n hx hb dX12_speedOf_384 rfl (lv_at hl 6 rfl) ?_
    obtain ⟨i121, e122, hf⟩ := mb0 hf
    obtain ⟨σ123, e124, hf⟩ := mb0 hf
    refine mx_callV (As := [.int x1, .int ((80 : Int32) + ((2 : Int32) * x5)), .int p1]) (rest := []) hx hb hml hts hown hK hJ rfl rfl (ci := 12) rfl e122 (c_X12_bodyOf l G P a0 x1 ((80 : Int32) + ((2 : Int32) * x5)) p1 σ119 σ123 e124) me_X12_bodyOf kw_2477 ks_127 kw_2475 (Nat.le_of_ble_eq_true rfl) (Nat.le_of_ble_eq_true rfl) rfl hl.1 rfl (Nat.le_of_ble_eq_true rfl) dX12_speedOf_385 (fun H locs hJ => ?_)
    exact my_vret hx hb hr hlocks hJ hf dX12_speedOf_388
  rw [if_neg c112] at hf
  refine lv_tableOut (tgt := 389) hx hb dX12_speedOf_59 (by have := lv_neT (a := (0)) c23 (by decide); have := lv_neT (a := (1)) c32 (by decide); have := lv_neT (a := (2)) c86 (by decide); have := lv_neT (a := (3)) c107 (by decide); have := lv_neT (a := (4)) c112 (by decide); omega) (by decide) ?_
  refine lv_aload_n hx hb dX12_speedOf_389 rfl (lv_at hl 5 rfl) ?_
  refine lv_iload_n hx hb dX12_speedOf_390 rfl (lv_at hl 4 rfl) ?_
  refine lv_iload_n hx hb dX12_speedOf_391 rfl (lv_at hl 6 rfl) ?_
  refine lv_iload hx hb dX12_speedOf_392 (lv_at hl 3 rfl) ?_
  refine lv_iload hx hb dX12_speedOf_394 (lv_at hl 2 rfl) ?_
  refine lv_iload hx hb dX12_speedOf_396 (lv_at hl 1 rfl) ?_
  refine lv_iload hx hb dX12_speedOf_398 (lv_at hl 0 rfl) ?_
  obtain ⟨i125, e126, hf⟩ := mb0 hf
  obtain ⟨σ127, e128, hf⟩ := mb0 hf
  refine mx_callV (As := [.int x1, .int p1, .int x5, .int x9, .int x13, .int x17]) (rest := []) hx hb hml hts hown hK hJ rfl rfl (ci := 12) rfl e126 (c_X12_crossSpeed l G P a0 x1 p1 x5 x9 x13 x17 σ σ127 e128) me_X12_crossSpeed kw_2559 ks_140 kw_2557 (Nat.le_of_ble_eq_true rfl) (Nat.le_of_ble_eq_true rfl) rfl hl.1 rfl (Nat.le_of_ble_eq_true rfl) dX12_speedOf_400 (fun H locs hJ => ?_)
  exact my_vret hx hb hr hlocks hJ hf dX12_speedOf_403
set_option maxHeartbeats 4000000 in
set_option maxRecDepth 100000 in
theorem c_X12_speeds (l : Launch) (G : mx_G) (P : mx_P) (a0 : Nat) (p1 : Int32) (σ : mx_S) (σ' : mx_S) (hf : f_X12_speeds P a0 p1 σ = some σ') : mxz σ ≤ mpc P → mxu σ ≤ mps P → mx_M l yX12_speeds cX12_speeds 3 none 7 184 G P [.ref a0, .int p1] σ none σ' := by
  intro hcap hcau
  refine mx_ofW (by decide +kernel) hcap hcau (Nat.le_of_ble_eq_true rfl) ?_
  intro p e s m below meth c hx hb hr hml hts hown hlocks hname hK hJ ls hl
  have hz0 := hJ.2.1
  have hown : s.vm.findClass RX12 = some m.cls := hown
  have hl : lv_has ls 3 [(0, .ref a0), (1, .int p1)] := hl
  have B2 : ∀ (v0 : Nat) (v1 : Int32) (v2 : Int32) (τ : mx_S) (o : (Int32 × mx_S) ⊕ ((mx_S))), f_X12_speeds_B2 P v0 v1 v2 τ = some o → (∀ (y2 : Int32) (υ : mx_S), o = .inl (y2, υ) → ∀ (H : Heap) (locs : List Loc), mx_J G P s.heap (mxz σ) (mxu σ) υ H locs → ∀ ls : Array Slot, lv_has ls 3 [(0, .ref v0), (1, .int v1), (2, .int y2)] → W p l e (mx_rm P 7 184 σ) s m ([.ref a0, .int p1] : List Value).toArray below meth c H locs (mxz υ - mxz σ) (mxu υ - mxu σ) (mx_Z below G P none σ σ' [.ref a0, .int p1] s) (F0 m 2 ls [])) → (∀  (υ : mx_S), o = .inr υ → ∀ (H : Heap) (locs : List Loc), mx_J G P s.heap (mxz σ) (mxu σ) υ H locs → ∀ ls : Array Slot, lv_has ls 3 [] → W p l e (mx_rm P 7 184 σ) s m ([.ref a0, .int p1] : List Value).toArray below meth c H locs (mxz υ - mxz σ) (mxu υ - mxu σ) (mx_Z below G P none σ σ' [.ref a0, .int p1] s) (F0 m 27 ls [])) → ∀ (H : Heap) (locs : List Loc), mx_J G P s.heap (mxz σ) (mxu σ) τ H locs → ∀ ls : Array Slot, lv_has ls 3 [(0, .ref v0), (1, .int v1), (2, .int v2)] → W p l e (mx_rm P 7 184 σ) s m ([.ref a0, .int p1] : List Value).toArray below meth c H locs (mxz τ - mxz σ) (mxu τ - mxu σ) (mx_Z below G P none σ σ' [.ref a0, .int p1] s) (F0 m 2 ls []) := by
    intro v0 v1 v2 τ o hf Kb Ke0 H locs hJ ls hl
    unfold f_X12_speeds_B2 at hf
    refine lv_iload_n hx hb dX12_speeds_2 rfl (lv_at hl 2 rfl) ?_
    refine lv_aload_n hx hb dX12_speeds_3 rfl (lv_at hl 0 rfl) ?_
    obtain ⟨x1, e2, hf⟩ := mb0 hf
    refine my_gI hx hb hts hown hK hJ fd_RX12_460 hv_12_19 e2 dX12_speeds_4 ?_
    refine lv_icmp_ge (tgt := 27) hx hb dX12_speeds_7 (by decide) (fun c3 => ?_) (fun c3 => ?_)
    · rw [if_pos c3] at hf
      exact Ke0 τ (Option.some.inj hf).symm _ _ hJ ls (lv_sub hl [] rfl)
    · rw [if_neg c3] at hf
      refine lv_aload_n hx hb dX12_speeds_10 rfl (lv_at hl 0 rfl) ?_
      refine lv_aload_n hx hb dX12_speeds_11 rfl (lv_at hl 0 rfl) ?_
      obtain ⟨b4, e5, hf⟩ := mb0 hf
      refine my_gR hx hb hts hown hK hJ fd_RX12_60 hv_12_33 e5 dX12_speeds_12 ?_
      refine lv_iload_n hx hb dX12_speeds_15 rfl (lv_at hl 2 rfl) ?_
      obtain ⟨x6, e7, hf⟩ := mb0 hf
      refine mx_aI hx hb hK hJ e7 dX12_speeds_16 ?_
      refine lv_iload_n hx hb dX12_speeds_17 rfl (lv_at hl 1 rfl) ?_
      obtain ⟨i8, e9, hf⟩ := mb0 hf
      obtain ⟨σ10, e11, hf⟩ := mb0 hf
      refine mx_callV (As := [.int x6, .int v1]) (rest := []) hx hb hml hts hown hK hJ rfl rfl (ci := 12) rfl e9 (c_X12_speedOf l G P v0 x6 v1 τ σ10 e11) me_X12_speedOf kw_2539 ks_135 kw_2537 (Nat.le_of_ble_eq_true rfl) (Nat.le_of_ble_eq_true rfl) rfl hl.1 rfl (Nat.le_of_ble_eq_true rfl) dX12_speeds_18 (fun H locs hJ => ?_)
      obtain ⟨x12, e13, hf⟩ := mb0 hf
      refine lv_iinc (v := x12) (lv' := [(2, .int x12), (0, .ref v0), (1, .int v1)]) hx hb dX12_speeds_21 hl (k := 2) rfl (by rw [← Option.some.inj e13]; rfl) (by decide) rfl (fun ls hl => ?_)
      refine lv_goto (tgt := 2) hx hb dX12_speeds_24 (by decide) ?_
      exact Kb x12 σ10 (Option.some.inj hf).symm _ _ hJ ls (lv_sub hl [1, 2, 0] rfl)
  have L2 : ∀ (v0 : Nat) (v1 : Int32) (n : Nat) (v2 : Int32) (τ : mx_S) (o : (mx_S)), mx_lp (f_X12_speeds_L2 P v0 v1) n (v2, τ) = some o → (∀  (υ : mx_S), o = υ → ∀ (H : Heap) (locs : List Loc), mx_J G P s.heap (mxz σ) (mxu σ) υ H locs → ∀ ls : Array Slot, lv_has ls 3 [] → W p l e (mx_rm P 7 184 σ) s m ([.ref a0, .int p1] : List Value).toArray below meth c H locs (mxz υ - mxz σ) (mxu υ - mxu σ) (mx_Z below G P none σ σ' [.ref a0, .int p1] s) (F0 m 27 ls [])) → ∀ (H : Heap) (locs : List Loc), mx_J G P s.heap (mxz σ) (mxu σ) τ H locs → ∀ ls : Array Slot, lv_has ls 3 [(0, .ref v0), (1, .int v1), (2, .int v2)] → W p l e (mx_rm P 7 184 σ) s m ([.ref a0, .int p1] : List Value).toArray below meth c H locs (mxz τ - mxz σ) (mxu τ - mxu σ) (mx_Z below G P none σ σ' [.ref a0, .int p1] s) (F0 m 2 ls []) := by
    intro v0 v1 n
    induction n with
    | zero =>
      intro v2 τ o hf
      rw [mx_lp0] at hf
      cases hf
    | succ n ih =>
      intro v2 τ o hf Ke0 H locs hJ ls hl
      rw [mx_lpS] at hf
      obtain ⟨b, eb, hf⟩ := mb0 hf
      refine B2 v0 v1 v2 τ b eb (fun y2 υ ho H locs hJ ls hl => ?_) (fun  υ ho H locs hJ ls hl => ?_) H locs hJ ls hl
      · subst ho
        exact ih y2 υ o hf Ke0 H locs hJ ls hl
      · subst ho
        exact Ke0  υ (Option.some.inj hf).symm _ _ hJ ls hl
  unfold f_X12_speeds at hf
  refine lv_iconst (v := 0) hx hb dX12_speeds_0 (by decide) ?_
  refine lv_istore_n (lv' := [(2, .int (0 : Int32)), (0, .ref a0), (1, .int p1)]) hx hb dX12_speeds_1 rfl hl (by decide) rfl (fun ls hl => ?_)
  obtain ⟨o14, e15, hf⟩ := mb0 hf
  refine L2 a0 p1 (mpN P) (0 : Int32) σ o14 e15 (fun σ16 ho H locs hJ ls hl => ?_) _ _ hJ ls (lv_sub hl [1, 2, 0] rfl)
  · rw [ho] at hf
    have hf : (some σ16) = some σ' := hf
    exact my_vret hx hb hr hlocks hJ hf dX12_speeds_27
set_option maxHeartbeats 4000000 in
set_option maxRecDepth 100000 in
theorem c_X12_isSpeedOpen (l : Launch) (G : mx_G) (P : mx_P) (a0 : Nat) (p1 : Int32) (σ : mx_S) (r : Int32) (σ' : mx_S) (hf : f_X12_isSpeedOpen P a0 p1 σ = some (r, σ')) : mxz σ ≤ mpc P → mxu σ ≤ mps P → mx_M l yX12_isSpeedOpen cX12_isSpeedOpen 2 (some .boolean) 0 0 G P [.ref a0, .int p1] σ (some (.int r)) σ' := by
  intro hcap hcau
  refine mx_ofW (by decide +kernel) hcap hcau (Nat.le_of_ble_eq_true rfl) ?_
  intro p e s m below meth c hx hb hr hml hts hown hlocks hname hK hJ ls hl
  have hz0 := hJ.2.1
  have hown : s.vm.findClass RX12 = some m.cls := hown
  have hl : lv_has ls 2 [(0, .ref a0), (1, .int p1)] := hl
  have D35 : ∀ (w0 : Int32) (τ : mx_S), f_X12_isSpeedOpen_D35 P w0 τ = some (r, σ') → ∀ (H : Heap) (locs : List Loc), mx_J G P s.heap (mxz σ) (mxu σ) τ H locs → ∀ ls : Array Slot, lv_has ls 2 [] → W p l e (mx_rm P 0 0 σ) s m ([.ref a0, .int p1] : List Value).toArray below meth c H locs (mxz τ - mxz σ) (mxu τ - mxu σ) (mx_Z below G P (some (.int r)) σ σ' [.ref a0, .int p1] s) (F0 m 35 ls [.int w0]) := by
    intro w0 τ hf _ _ hJ ls hl
    unfold f_X12_isSpeedOpen_D35 at hf
    exact mx_zret hx hb hr hlocks hJ hf dX12_isSpeedOpen_35
  have D30 : ∀  (τ : mx_S), f_X12_isSpeedOpen_D30 P  τ = some (r, σ') → ∀ (H : Heap) (locs : List Loc), mx_J G P s.heap (mxz σ) (mxu σ) τ H locs → ∀ ls : Array Slot, lv_has ls 2 [] → W p l e (mx_rm P 0 0 σ) s m ([.ref a0, .int p1] : List Value).toArray below meth c H locs (mxz τ - mxz σ) (mxu τ - mxu σ) (mx_Z below G P (some (.int r)) σ σ' [.ref a0, .int p1] s) (F0 m 30 ls []) := by
    intro  τ hf _ _ hJ ls hl
    unfold f_X12_isSpeedOpen_D30 at hf
    refine lv_iconst (v := 1) hx hb dX12_isSpeedOpen_30 (by decide) ?_
    refine lv_goto (tgt := 35) hx hb dX12_isSpeedOpen_31 (by decide) ?_
    exact D35 (1 : Int32) τ hf _ _ hJ ls (lv_sub hl [] rfl)
  unfold f_X12_isSpeedOpen at hf
  refine lv_aload_n hx hb dX12_isSpeedOpen_0 rfl (lv_at hl 0 rfl) ?_
  obtain ⟨b1, e2, hf⟩ := mb0 hf
  refine my_gR hx hb hts hown hK hJ fd_RX12_20 hv_12_13 e2 dX12_isSpeedOpen_1 ?_
  refine lv_bipush (v := 80) hx hb dX12_isSpeedOpen_4 (by decide) ?_
  refine lv_iconst (v := 2) hx hb dX12_isSpeedOpen_6 (by decide) ?_
  refine lv_iload_n hx hb dX12_isSpeedOpen_7 rfl (lv_at hl 1 rfl) ?_
  refine lv_imul hx hb dX12_isSpeedOpen_8 ?_
  refine lv_iadd hx hb dX12_isSpeedOpen_9 ?_
  obtain ⟨x3, e4, hf⟩ := mb0 hf
  refine mx_aZ hx hb hK hJ e4 dX12_isSpeedOpen_10 ?_
  refine lv_if_ne (tgt := 30) hx hb dX12_isSpeedOpen_11 (by decide) (fun c5 => ?_) (fun c5 => ?_)
  · rw [if_neg c5] at hf
    exact D30  σ hf _ _ hJ ls (lv_sub hl [] rfl)
  · rw [if_pos c5] at hf
    refine lv_aload_n hx hb dX12_isSpeedOpen_14 rfl (lv_at hl 0 rfl) ?_
    obtain ⟨b6, e7, hf⟩ := mb0 hf
    refine my_gR hx hb hts hown hK hJ fd_RX12_20 hv_12_13 e7 dX12_isSpeedOpen_15 ?_
    refine lv_bipush (v := 80) hx hb dX12_isSpeedOpen_18 (by decide) ?_
    refine lv_iconst (v := 2) hx hb dX12_isSpeedOpen_20 (by decide) ?_
    refine lv_iload_n hx hb dX12_isSpeedOpen_21 rfl (lv_at hl 1 rfl) ?_
    refine lv_imul hx hb dX12_isSpeedOpen_22 ?_
    refine lv_iadd hx hb dX12_isSpeedOpen_23 ?_
    refine lv_iconst (v := 1) hx hb dX12_isSpeedOpen_24 (by decide) ?_
    refine lv_iadd hx hb dX12_isSpeedOpen_25 ?_
    obtain ⟨x8, e9, hf⟩ := mb0 hf
    refine mx_aZ hx hb hK hJ e9 dX12_isSpeedOpen_26 ?_
    refine lv_if_eq (tgt := 34) hx hb dX12_isSpeedOpen_27 (by decide) (fun c10 => ?_) (fun c10 => ?_)
    · rw [if_pos c10] at hf
      refine lv_iconst (v := 0) hx hb dX12_isSpeedOpen_34 (by decide) ?_
      exact D35 (0 : Int32) σ hf _ _ hJ ls (lv_sub hl [] rfl)
    · rw [if_neg c10] at hf
      exact D30  σ hf _ _ hJ ls (lv_sub hl [] rfl)
