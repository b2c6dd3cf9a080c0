set_option maxHeartbeats 4000000 in
set_option maxRecDepth 100000 in
theorem c_X12_solution (l : Launch) (G : mx_G) (P : mx_P) (a0 : Nat) (σ : mx_S) (r : Int32) (σ' : mx_S) (hf : f_X12_solution P a0 σ = some (r, σ')) : mxz σ ≤ mpc P → mxu σ ≤ mps P → mx_M l yX12_solution cX12_solution 5 (some .int) 6 172 G P [.ref a0] σ (some (.int r)) σ' := by
  intro hcap hcau
  refine mx_ofW (by decide +kernel) hcap hcau (Nat.le_of_ble_eq_true rfl) ?_
  intro p e s m below meth c hx hb hr hml hts hown hlocks hname hK hJ ls hl
  have hz0 := hJ.2.1
  have hown : s.vm.findClass RX12 = some m.cls := hown
  have hl : lv_has ls 5 [(0, .ref a0)] := hl
  have B28 : ∀ (v0 : Nat) (v1 : Int32) (v2 : Int32) (v3 : Int32) (τ : mx_S) (o : (Int32 × mx_S) ⊕ ((Int32 × mx_S))), f_X12_solution_B28 P v0 v1 v2 v3 τ = some o → (∀ (y3 : Int32) (υ : mx_S), o = .inl (y3, υ) → ∀ (H : Heap) (locs : List Loc), mx_J G P s.heap (mxz σ) (mxu σ) υ H locs → ∀ ls : Array Slot, lv_has ls 5 [(0, .ref v0), (1, .int v1), (2, .int v2), (3, .int y3)] → W p l e (mx_rm P 6 172 σ) s m ([.ref a0] : List Value).toArray below meth c H locs (mxz υ - mxz σ) (mxu υ - mxu σ) (mx_Z below G P (some (.int r)) σ σ' [.ref a0] s) (F0 m 28 ls [])) → (∀ (y3 : Int32) (υ : mx_S), o = .inr (y3, υ) → ∀ (H : Heap) (locs : List Loc), mx_J G P s.heap (mxz σ) (mxu σ) υ H locs → ∀ ls : Array Slot, lv_has ls 5 [(0, .ref v0), (1, .int v1), (2, .int v2), (3, .int y3)] → W p l e (mx_rm P 6 172 σ) s m ([.ref a0] : List Value).toArray below meth c H locs (mxz υ - mxz σ) (mxu υ - mxu σ) (mx_Z below G P (some (.int r)) σ σ' [.ref a0] s) (F0 m 58 ls [])) → ∀ (H : Heap) (locs : List Loc), mx_J G P s.heap (mxz σ) (mxu σ) τ H locs → ∀ ls : Array Slot, lv_has ls 5 [(0, .ref v0), (1, .int v1), (2, .int v2), (3, .int v3)] → W p l e (mx_rm P 6 172 σ) s m ([.ref a0] : List Value).toArray below meth c H locs (mxz τ - mxz σ) (mxu τ - mxu σ) (mx_Z below G P (some (.int r)) σ σ' [.ref a0] s) (F0 m 28 ls []) := by
    intro v0 v1 v2 v3 τ o hf Kb Ke0 H locs hJ ls hl
    unfold f_X12_solution_B28 at hf
    refine lv_iload_n hx hb dX12_solution_28 rfl (lv_at hl 3 rfl) ?_
    refine lv_aload_n hx hb dX12_solution_29 rfl (lv_at hl 0 rfl) ?_
    obtain ⟨x12, e13, hf⟩ := mb0 hf
    refine my_gI hx hb hts hown hK hJ fd_RX12_626 hv_12_68 e13 dX12_solution_30 ?_
    refine lv_icmp_ge (tgt := 58) hx hb dX12_solution_33 (by decide) (fun c14 => ?_) (fun c14 => ?_)
    · rw [if_pos c14] at hf
      exact Ke0 v3 τ (Option.some.inj hf).symm _ _ hJ ls (lv_sub hl [0, 1, 2, 3] rfl)
    · rw [if_neg c14] at hf
      refine lv_aload_n hx hb dX12_solution_36 rfl (lv_at hl 0 rfl) ?_
      obtain ⟨b15, e16, hf⟩ := mb0 hf
      refine my_gR hx hb hts hown hK hJ fd_RX12_144 hv_12_69 e16 dX12_solution_37 ?_
      refine lv_bipush (v := 13) hx hb dX12_solution_40 (by decide) ?_
      refine lv_iload_n hx hb dX12_solution_42 rfl (lv_at hl 3 rfl) ?_
      refine lv_imul hx hb dX12_solution_43 ?_
      refine lv_iload_n hx hb dX12_solution_44 rfl (lv_at hl 2 rfl) ?_
      refine lv_iadd hx hb dX12_solution_45 ?_
      obtain ⟨x17, e18, hf⟩ := mb0 hf
      refine mx_aL hx hb hK hJ e18 dX12_solution_46 ?_
      refine lv_lconst (v := 0) hx hb dX12_solution_47 (by decide) ?_
      refine W.lcmp hx hb dX12_solution_48 ?_
      refine lv_if_ne (tgt := 58) hx hb dX12_solution_49 (by decide) (fun c19 => ?_) (fun c19 => ?_)
      · rw [if_neg c19] at hf
        exact Ke0 v3 τ (Option.some.inj hf).symm _ _ hJ ls (lv_sub hl [0, 1, 2, 3] rfl)
      · rw [if_pos c19] at hf
        obtain ⟨x20, e21, hf⟩ := mb0 hf
        refine lv_iinc (v := x20) (lv' := [(3, .int x20), (0, .ref v0), (1, .int v1), (2, .int v2)]) hx hb dX12_solution_52 hl (k := 3) rfl (by rw [← Option.some.inj e21]; rfl) (by decide) rfl (fun ls hl => ?_)
        refine lv_goto (tgt := 28) hx hb dX12_solution_55 (by decide) ?_
        exact Kb x20 τ (Option.some.inj hf).symm _ _ hJ ls (lv_sub hl [1, 2, 3, 0] rfl)
  have L28 : ∀ (v0 : Nat) (v1 : Int32) (v2 : Int32) (n : Nat) (v3 : Int32) (τ : mx_S) (o : (Int32 × mx_S)), mx_lp (f_X12_solution_L28 P v0 v1 v2) n (v3, τ) = some o → (∀ (y3 : Int32) (υ : mx_S), o = (y3, υ) → ∀ (H : Heap) (locs : List Loc), mx_J G P s.heap (mxz σ) (mxu σ) υ H locs → ∀ ls : Array Slot, lv_has ls 5 [(0, .ref v0), (1, .int v1), (2, .int v2), (3, .int y3)] → W p l e (mx_rm P 6 172 σ) s m ([.ref a0] : List Value).toArray below meth c H locs (mxz υ - mxz σ) (mxu υ - mxu σ) (mx_Z below G P (some (.int r)) σ σ' [.ref a0] s) (F0 m 58 ls [])) → ∀ (H : Heap) (locs : List Loc), mx_J G P s.heap (mxz σ) (mxu σ) τ H locs → ∀ ls : Array Slot, lv_has ls 5 [(0, .ref v0), (1, .int v1), (2, .int v2), (3, .int v3)] → W p l e (mx_rm P 6 172 σ) s m ([.ref a0] : List Value).toArray below meth c H locs (mxz τ - mxz σ) (mxu τ - mxu σ) (mx_Z below G P (some (.int r)) σ σ' [.ref a0] s) (F0 m 28 ls []) := by
    intro v0 v1 v2 n
    induction n with
    | zero =>
      intro v3 τ o hf
      rw [mx_lp0] at hf
      cases hf
    | succ n ih =>
      intro v3 τ o hf Ke0 H locs hJ ls hl
      rw [mx_lpS] at hf
      obtain ⟨b, eb, hf⟩ := mb0 hf
      refine B28 v0 v1 v2 v3 τ b eb (fun y3 υ ho H locs hJ ls hl => ?_) (fun y3 υ ho H locs hJ ls hl => ?_) H locs hJ ls hl
      · subst ho
        exact ih y3 υ o hf Ke0 H locs hJ ls hl
      · subst ho
        exact Ke0 y3 υ (Option.some.inj hf).symm _ _ hJ ls hl
  have D100_13 : ∀ (v0 : Nat) (v1 : Int32) (v2 : Int32) (τ : mx_S) (o : (Int32 × Int32 × mx_S) ⊕ ((mx_S) ⊕ (mx_S))), f_X12_solution_D100_13 P v0 v1 v2 τ = some o → (∀ (y1 : Int32) (y2 : Int32) (υ : mx_S), o = .inl (y1, y2, υ) → ∀ (H : Heap) (locs : List Loc), mx_J G P s.heap (mxz σ) (mxu σ) υ H locs → ∀ ls : Array Slot, lv_has ls 5 [(0, .ref v0), (1, .int y1), (2, .int y2)] → W p l e (mx_rm P 6 172 σ) s m ([.ref a0] : List Value).toArray below meth c H locs (mxz υ - mxz σ) (mxu υ - mxu σ) (mx_Z below G P (some (.int r)) σ σ' [.ref a0] s) (F0 m 13 ls [])) → (∀  (υ : mx_S), o = .inr (.inl υ) → ∀ (H : Heap) (locs : List Loc), mx_J G P s.heap (mxz σ) (mxu σ) υ H locs → ∀ ls : Array Slot, lv_has ls 5 [] → W p l e (mx_rm P 6 172 σ) s m ([.ref a0] : List Value).toArray below meth c H locs (mxz υ - mxz σ) (mxu υ - mxu σ) (mx_Z below G P (some (.int r)) σ σ' [.ref a0] s) (F0 m 88 ls [])) → (∀  (υ : mx_S), o = .inr (.inr υ) → ∀ (H : Heap) (locs : List Loc), mx_J G P s.heap (mxz σ) (mxu σ) υ H locs → ∀ ls : Array Slot, lv_has ls 5 [(0, .ref v0)] → W p l e (mx_rm P 6 172 σ) s m ([.ref a0] : List Value).toArray below meth c H locs (mxz υ - mxz σ) (mxu υ - mxu σ) (mx_Z below G P (some (.int r)) σ σ' [.ref a0] s) (F0 m 106 ls [])) → ∀ (H : Heap) (locs : List Loc), mx_J G P s.heap (mxz σ) (mxu σ) τ H locs → ∀ ls : Array Slot, lv_has ls 5 [(0, .ref v0), (1, .int v1), (2, .int v2)] → W p l e (mx_rm P 6 172 σ) s m ([.ref a0] : List Value).toArray below meth c H locs (mxz τ - mxz σ) (mxu τ - mxu σ) (mx_Z below G P (some (.int r)) σ σ' [.ref a0] s) (F0 m 100 ls []) := by
    intro v0 v1 v2 τ o hf Kb Ke0 Ke1 H locs hJ ls hl
    unfold f_X12_solution_D100_13 at hf
    obtain ⟨x46, e47, hf⟩ := mb0 hf
    refine lv_iinc (v := x46) (lv' := [(2, .int x46), (0, .ref v0), (1, .int v1)]) hx hb dX12_solution_100 hl (k := 2) rfl (by rw [← Option.some.inj e47]; rfl) (by decide) rfl (fun ls hl => ?_)
    refine lv_goto (tgt := 13) hx hb dX12_solution_103 (by decide) ?_
    exact Kb v1 x46 τ (Option.some.inj hf).symm _ _ hJ ls (lv_sub hl [1, 2, 0] rfl)
  have D58_13 : ∀ (v0 : Nat) (v1 : Int32) (v2 : Int32) (v3 : Int32) (τ : mx_S) (o : (Int32 × Int32 × mx_S) ⊕ ((mx_S) ⊕ (mx_S))), f_X12_solution_D58_13 P v0 v1 v2 v3 τ = some o → (∀ (y1 : Int32) (y2 : Int32) (υ : mx_S), o = .inl (y1, y2, υ) → ∀ (H : Heap) (locs : List Loc), mx_J G P s.heap (mxz σ) (mxu σ) υ H locs → ∀ ls : Array Slot, lv_has ls 5 [(0, .ref v0), (1, .int y1), (2, .int y2)] → W p l e (mx_rm P 6 172 σ) s m ([.ref a0] : List Value).toArray below meth c H locs (mxz υ - mxz σ) (mxu υ - mxu σ) (mx_Z below G P (some (.int r)) σ σ' [.ref a0] s) (F0 m 13 ls [])) → (∀  (υ : mx_S), o = .inr (.inl υ) → ∀ (H : Heap) (locs : List Loc), mx_J G P s.heap (mxz σ) (mxu σ) υ H locs → ∀ ls : Array Slot, lv_has ls 5 [] → W p l e (mx_rm P 6 172 σ) s m ([.ref a0] : List Value).toArray below meth c H locs (mxz υ - mxz σ) (mxu υ - mxu σ) (mx_Z below G P (some (.int r)) σ σ' [.ref a0] s) (F0 m 88 ls [])) → (∀  (υ : mx_S), o = .inr (.inr υ) → ∀ (H : Heap) (locs : List Loc), mx_J G P s.heap (mxz σ) (mxu σ) υ H locs → ∀ ls : Array Slot, lv_has ls 5 [(0, .ref v0)] → W p l e (mx_rm P 6 172 σ) s m ([.ref a0] : List Value).toArray below meth c H locs (mxz υ - mxz σ) (mxu υ - mxu σ) (mx_Z below G P (some (.int r)) σ σ' [.ref a0] s) (F0 m 106 ls [])) → ∀ (H : Heap) (locs : List Loc), mx_J G P s.heap (mxz σ) (mxu σ) τ H locs → ∀ ls : Array Slot, lv_has ls 5 [(0, .ref v0), (1, .int v1), (2, .int v2), (3, .int v3)] → W p l e (mx_rm P 6 172 σ) s m ([.ref a0] : List Value).toArray below meth c H locs (mxz τ - mxz σ) (mxu τ - mxu σ) (mx_Z below G P (some (.int r)) σ σ' [.ref a0] s) (F0 m 58 ls []) := by
    intro v0 v1 v2 v3 τ o hf Kb Ke0 Ke1 H locs hJ ls hl
    unfold f_X12_solution_D58_13 at hf
    refine lv_iload_n hx hb dX12_solution_58 rfl (lv_at hl 3 rfl) ?_
    refine lv_aload_n hx hb dX12_solution_59 rfl (lv_at hl 0 rfl) ?_
    obtain ⟨x26, e27, hf⟩ := mb0 hf
    refine my_gI hx hb hts hown hK hJ fd_RX12_626 hv_12_68 e27 dX12_solution_60 ?_
    refine lv_icmp_lt (tgt := 69) hx hb dX12_solution_63 (by decide) (fun c28 => ?_) (fun c28 => ?_)
    · rw [if_pos c28] at hf
      refine lv_aload_n hx hb dX12_solution_69 rfl (lv_at hl 0 rfl) ?_
      refine lv_iload_n hx hb dX12_solution_70 rfl (lv_at hl 1 rfl) ?_
      refine lv_iload_n hx hb dX12_solution_71 rfl (lv_at hl 3 rfl) ?_
      obtain ⟨i29, e30, hf⟩ := mb0 hf
      obtain ⟨σ31, e32, hf⟩ := mb0 hf
      refine mx_callV (As := [.int v1, .int v3]) (rest := []) hx hb hml hts hown hK hJ rfl rfl (ci := 12) rfl e30 (c_X12_changeRows l G P v0 v1 v3 τ σ31 e32) me_X12_changeRows kw_2638 ks_148 kw_2636 (Nat.le_of_ble_eq_true rfl) (Nat.le_of_ble_eq_true rfl) rfl hl.1 rfl (Nat.le_of_ble_eq_true rfl) dX12_solution_72 (fun H locs hJ => ?_)
      refine lv_aload_n hx hb dX12_solution_75 rfl (lv_at hl 0 rfl) ?_
      refine lv_iload_n hx hb dX12_solution_76 rfl (lv_at hl 1 rfl) ?_
      refine lv_iload_n hx hb dX12_solution_77 rfl (lv_at hl 2 rfl) ?_
      obtain ⟨i33, e34, hf⟩ := mb0 hf
      obtain ⟨σ35, e36, hf⟩ := mb0 hf
      refine mx_callV (As := [.int v1, .int v2]) (rest := []) hx hb hml hts hown hK hJ rfl rfl (ci := 12) rfl e34 (c_X12_pivot l G P v0 v1 v2 σ31 σ35 e36) me_X12_pivot kw_2642 ks_149 kw_2640 (Nat.le_of_ble_eq_true rfl) (Nat.le_of_ble_eq_true rfl) rfl hl.1 rfl (Nat.le_of_ble_eq_true rfl) dX12_solution_78 (fun H locs hJ => ?_)
      refine lv_aload_n hx hb dX12_solution_81 rfl (lv_at hl 0 rfl) ?_
      obtain ⟨x37, e38, hf⟩ := mb0 hf
      refine my_gI hx hb hts hown hK hJ fd_RX12_283 hv_12_10 e38 dX12_solution_82 ?_
      refine lv_if_eq (tgt := 90) hx hb dX12_solution_85 (by decide) (fun c39 => ?_) (fun c39 => ?_)
      · rw [if_pos c39] at hf
        refine lv_aload_n hx hb dX12_solution_90 rfl (lv_at hl 0 rfl) ?_
        obtain ⟨b40, e41, hf⟩ := mb0 hf
        refine my_gR hx hb hts hown hK hJ fd_RX12_150 hv_12_71 e41 dX12_solution_91 ?_
        refine lv_iload_n hx hb dX12_solution_94 rfl (lv_at hl 2 rfl) ?_
        refine lv_iload_n hx hb dX12_solution_95 rfl (lv_at hl 1 rfl) ?_
        obtain ⟨σ42, e43, hf⟩ := mb0 hf
        refine mx_sI hx hb hK hJ e43 dX12_solution_96 (fun H locs hJ => ?_)
        obtain ⟨x44, e45, hf⟩ := mb0 hf
        refine lv_iinc (v := x44) (lv' := [(1, .int x44), (0, .ref v0), (2, .int v2), (3, .int v3)]) hx hb dX12_solution_97 hl (k := 1) rfl (by rw [← Option.some.inj e45]; rfl) (by decide) rfl (fun ls hl => ?_)
        exact D100_13 v0 x44 v2 σ42 o hf Kb Ke0 Ke1 _ _ hJ ls (lv_sub hl [1, 0, 2] rfl)
      · rw [if_neg c39] at hf
        exact Ke0 σ35 (Option.some.inj hf).symm _ _ hJ ls (lv_sub hl [] rfl)
    · rw [if_neg c28] at hf
      refine lv_goto (tgt := 100) hx hb dX12_solution_66 (by decide) ?_
      exact D100_13 v0 v1 v2 τ o hf Kb Ke0 Ke1 _ _ hJ ls (lv_sub hl [0, 1, 2] rfl)
  have B13 : ∀ (v0 : Nat) (v1 : Int32) (v2 : Int32) (τ : mx_S) (o : (Int32 × Int32 × mx_S) ⊕ ((mx_S) ⊕ (mx_S))), f_X12_solution_B13 P v0 v1 v2 τ = some o → (∀ (y1 : Int32) (y2 : Int32) (υ : mx_S), o = .inl (y1, y2, υ) → ∀ (H : Heap) (locs : List Loc), mx_J G P s.heap (mxz σ) (mxu σ) υ H locs → ∀ ls : Array Slot, lv_has ls 5 [(0, .ref v0), (1, .int y1), (2, .int y2)] → W p l e (mx_rm P 6 172 σ) s m ([.ref a0] : List Value).toArray below meth c H locs (mxz υ - mxz σ) (mxu υ - mxu σ) (mx_Z below G P (some (.int r)) σ σ' [.ref a0] s) (F0 m 13 ls [])) → (∀  (υ : mx_S), o = .inr (.inl υ) → ∀ (H : Heap) (locs : List Loc), mx_J G P s.heap (mxz σ) (mxu σ) υ H locs → ∀ ls : Array Slot, lv_has ls 5 [] → W p l e (mx_rm P 6 172 σ) s m ([.ref a0] : List Value).toArray below meth c H locs (mxz υ - mxz σ) (mxu υ - mxu σ) (mx_Z below G P (some (.int r)) σ σ' [.ref a0] s) (F0 m 88 ls [])) → (∀  (υ : mx_S), o = .inr (.inr υ) → ∀ (H : Heap) (locs : List Loc), mx_J G P s.heap (mxz σ) (mxu σ) υ H locs → ∀ ls : Array Slot, lv_has ls 5 [(0, .ref v0)] → W p l e (mx_rm P 6 172 σ) s m ([.ref a0] : List Value).toArray below meth c H locs (mxz υ - mxz σ) (mxu υ - mxu σ) (mx_Z below G P (some (.int r)) σ σ' [.ref a0] s) (F0 m 106 ls [])) → ∀ (H : Heap) (locs : List Loc), mx_J G P s.heap (mxz σ) (mxu σ) τ H locs → ∀ ls : Array Slot, lv_has ls 5 [(0, .ref v0), (1, .int v1), (2, .int v2)] → W p l e (mx_rm P 6 172 σ) s m ([.ref a0] : List Value).toArray below meth c H locs (mxz τ - mxz σ) (mxu τ - mxu σ) (mx_Z below G P (some (.int r)) σ σ' [.ref a0] s) (F0 m 13 ls []) := by
    intro v0 v1 v2 τ o hf Kb Ke0 Ke1 H locs hJ ls hl
    unfold f_X12_solution_B13 at hf
    refine lv_iload_n hx hb dX12_solution_13 rfl (lv_at hl 2 rfl) ?_
    refine lv_bipush (v := 12) hx hb dX12_solution_14 (by decide) ?_
    refine lv_icmp_ge (tgt := 106) hx hb dX12_solution_16 (by decide) (fun c7 => ?_) (fun c7 => ?_)
    · rw [if_pos c7] at hf
      exact Ke1 τ (Option.some.inj hf).symm _ _ hJ ls (lv_sub hl [0] rfl)
    · rw [if_neg c7] at hf
      refine lv_aload_n hx hb dX12_solution_19 rfl (lv_at hl 0 rfl) ?_
      obtain ⟨b8, e9, hf⟩ := mb0 hf
      refine my_gR hx hb hts hown hK hJ fd_RX12_150 hv_12_71 e9 dX12_solution_20 ?_
      refine lv_iload_n hx hb dX12_solution_23 rfl (lv_at hl 2 rfl) ?_
      refine lv_iconst (v := (-1)) hx hb dX12_solution_24 (by decide) ?_
      obtain ⟨σ10, e11, hf⟩ := mb0 hf
      refine mx_sI hx hb hK hJ e11 dX12_solution_25 (fun H locs hJ => ?_)
      refine lv_iload_n hx hb dX12_solution_26 rfl (lv_at hl 1 rfl) ?_
      refine lv_istore_n (lv' := [(3, .int v1), (0, .ref v0), (1, .int v1), (2, .int v2)]) hx hb dX12_solution_27 rfl hl (by decide) rfl (fun ls hl => ?_)
      obtain ⟨o22, e23, hf⟩ := mb0 hf
      refine L28 v0 v1 v2 (mpN P) v1 σ10 o22 e23 (fun y24 σ25 ho H locs hJ ls hl => ?_) _ _ hJ ls (lv_sub hl [1, 2, 3, 0] rfl)
      · rw [ho] at hf
        have hf : (f_X12_solution_D58_13 P v0 v1 v2 y24 σ25) = some o := hf
        exact D58_13 v0 v1 v2 y24 σ25 o hf Kb Ke0 Ke1 _ _ hJ ls (lv_sub hl [0, 1, 2, 3] rfl)
  have L13 : ∀ (v0 : Nat) (n : Nat) (v1 : Int32) (v2 : Int32) (τ : mx_S) (o : (mx_S) ⊕ (mx_S)), mx_lp (f_X12_solution_L13 P v0) n (v1, v2, τ) = some o → (∀  (υ : mx_S), o = (.inl υ) → ∀ (H : Heap) (locs : List Loc), mx_J G P s.heap (mxz σ) (mxu σ) υ H locs → ∀ ls : Array Slot, lv_has ls 5 [] → W p l e (mx_rm P 6 172 σ) s m ([.ref a0] : List Value).toArray below meth c H locs (mxz υ - mxz σ) (mxu υ - mxu σ) (mx_Z below G P (some (.int r)) σ σ' [.ref a0] s) (F0 m 88 ls [])) → (∀  (υ : mx_S), o = (.inr υ) → ∀ (H : Heap) (locs : List Loc), mx_J G P s.heap (mxz σ) (mxu σ) υ H locs → ∀ ls : Array Slot, lv_has ls 5 [(0, .ref v0)] → W p l e (mx_rm P 6 172 σ) s m ([.ref a0] : List Value).toArray below meth c H locs (mxz υ - mxz σ) (mxu υ - mxu σ) (mx_Z below G P (some (.int r)) σ σ' [.ref a0] s) (F0 m 106 ls [])) → ∀ (H : Heap) (locs : List Loc), mx_J G P s.heap (mxz σ) (mxu σ) τ H locs → ∀ ls : Array Slot, lv_has ls 5 [(0, .ref v0), (1, .int v1), (2, .int v2)] → W p l e (mx_rm P 6 172 σ) s m ([.ref a0] : List Value).toArray below meth c H locs (mxz τ - mxz σ) (mxu τ - mxu σ) (mx_Z below G P (some (.int r)) σ σ' [.ref a0] s) (F0 m 13 ls []) := by
    intro v0 n
    induction n with
    | zero =>
      intro v1 v2 τ o hf
      rw [mx_lp0] at hf
      cases hf
    | succ n ih =>
      intro v1 v2 τ o hf Ke0 Ke1 H locs hJ ls hl
      rw [mx_lpS] at hf
      obtain ⟨b, eb, hf⟩ := mb0 hf
      refine B13 v0 v1 v2 τ b eb (fun y1 y2 υ ho H locs hJ ls hl => ?_) (fun  υ ho H locs hJ ls hl => ?_) (fun  υ ho H locs hJ ls hl => ?_) H locs hJ ls hl
      · subst ho
        exact ih y1 y2 υ o hf Ke0 Ke1 H locs hJ ls hl
      · subst ho
        exact Ke0  υ (Option.some.inj hf).symm _ _ hJ ls hl
      · subst ho
        exact Ke1  υ (Option.some.inj hf).symm _ _ hJ ls hl
  have D154_121 : ∀ (v0 : Nat) (v2 : Int32) (v4 : Int32) (w0 : Int32) (τ : mx_S) (o : (Int32 × Int32 × mx_S) ⊕ ((Int32 × mx_S))), f_X12_solution_D154_121 P v0 v2 v4 w0 τ = some o → (∀ (y3 : Int32) (y4 : Int32) (υ : mx_S), o = .inl (y3, y4, υ) → ∀ (H : Heap) (locs : List Loc), mx_J G P s.heap (mxz σ) (mxu σ) υ H locs → ∀ ls : Array Slot, lv_has ls 5 [(0, .ref v0), (2, .int v2), (3, .int y3), (4, .int y4)] → W p l e (mx_rm P 6 172 σ) s m ([.ref a0] : List Value).toArray below meth c H locs (mxz υ - mxz σ) (mxu υ - mxu σ) (mx_Z below G P (some (.int r)) σ σ' [.ref a0] s) (F0 m 121 ls [])) → (∀ (y3 : Int32) (υ : mx_S), o = .inr (y3, υ) → ∀ (H : Heap) (locs : List Loc), mx_J G P s.heap (mxz σ) (mxu σ) υ H locs → ∀ ls : Array Slot, lv_has ls 5 [(0, .ref v0), (2, .int v2), (3, .int y3)] → W p l e (mx_rm P 6 172 σ) s m ([.ref a0] : List Value).toArray below meth c H locs (mxz υ - mxz σ) (mxu υ - mxu σ) (mx_Z below G P (some (.int r)) σ σ' [.ref a0] s) (F0 m 161 ls [])) → ∀ (H : Heap) (locs : List Loc), mx_J G P s.heap (mxz σ) (mxu σ) τ H locs → ∀ ls : Array Slot, lv_has ls 5 [(0, .ref v0), (2, .int v2), (4, .int v4)] → W p l e (mx_rm P 6 172 σ) s m ([.ref a0] : List Value).toArray below meth c H locs (mxz τ - mxz σ) (mxu τ - mxu σ) (mx_Z below G P (some (.int r)) σ σ' [.ref a0] s) (F0 m 154 ls [.int w0]) := by
    intro v0 v2 v4 w0 τ o hf Kb Ke0 H locs hJ ls hl
    unfold f_X12_solution_D154_121 at hf
    refine lv_istore_n (lv' := [(3, .int w0), (0, .ref v0), (2, .int v2), (4, .int v4)]) hx hb dX12_solution_154 rfl hl (by decide) rfl (fun ls hl => ?_)
    obtain ⟨x57, e58, hf⟩ := mb0 hf
    refine lv_iinc (v := x57) (lv' := [(4, .int x57), (3, .int w0), (0, .ref v0), (2, .int v2)]) hx hb dX12_solution_155 hl (k := 3) rfl (by rw [← Option.some.inj e58]; rfl) (by decide) rfl (fun ls hl => ?_)
    refine lv_goto (tgt := 121) hx hb dX12_solution_158 (by decide) ?_
    exact Kb w0 x57 τ (Option.some.inj hf).symm _ _ hJ ls (lv_sub hl [2, 3, 1, 0] rfl)
  have D153_121 : ∀ (v0 : Nat) (v2 : Int32) (v4 : Int32) (τ : mx_S) (o : (Int32 × Int32 × mx_S) ⊕ ((Int32 × mx_S))), f_X12_solution_D153_121 P v0 v2 v4 τ = some o → (∀ (y3 : Int32) (y4 : Int32) (υ : mx_S), o = .inl (y3, y4, υ) → ∀ (H : Heap) (locs : List Loc), mx_J G P s.heap (mxz σ) (mxu σ) υ H locs → ∀ ls : Array Slot, lv_has ls 5 [(0, .ref v0), (2, .int v2), (3, .int y3), (4, .int y4)] → W p l e (mx_rm P 6 172 σ) s m ([.ref a0] : List Value).toArray below meth c H locs (mxz υ - mxz σ) (mxu υ - mxu σ) (mx_Z below G P (some (.int r)) σ σ' [.ref a0] s) (F0 m 121 ls [])) → (∀ (y3 : Int32) (υ : mx_S), o = .inr (y3, υ) → ∀ (H : Heap) (locs : List Loc), mx_J G P s.heap (mxz σ) (mxu σ) υ H locs → ∀ ls : Array Slot, lv_has ls 5 [(0, .ref v0), (2, .int v2), (3, .int y3)] → W p l e (mx_rm P 6 172 σ) s m ([.ref a0] : List Value).toArray below meth c H locs (mxz υ - mxz σ) (mxu υ - mxu σ) (mx_Z below G P (some (.int r)) σ σ' [.ref a0] s) (F0 m 161 ls [])) → ∀ (H : Heap) (locs : List Loc), mx_J G P s.heap (mxz σ) (mxu σ) τ H locs → ∀ ls : Array Slot, lv_has ls 5 [(0, .ref v0), (2, .int v2), (4, .int v4)] → W p l e (mx_rm P 6 172 σ) s m ([.ref a0] : List Value).toArray below meth c H locs (mxz τ - mxz σ) (mxu τ - mxu σ) (mx_Z below G P (some (.int r)) σ σ' [.ref a0] s) (F0 m 153 ls []) := by
    intro v0 v2 v4 τ o hf Kb Ke0 H locs hJ ls hl
    unfold f_X12_solution_D153_121 at hf
    refine lv_iconst (v := 0) hx hb dX12_solution_153 (by decide) ?_
    exact D154_121 v0 v2 v4 (0 : Int32) τ o hf Kb Ke0 _ _ hJ ls (lv_sub hl [0, 1, 2] rfl)
  have B121 : ∀ (v0 : Nat) (v2 : Int32) (v3 : Int32) (v4 : Int32) (τ : mx_S) (o : (Int32 × Int32 × mx_S) ⊕ ((Int32 × mx_S))), f_X12_solution_B121 P v0 v2 v3 v4 τ = some o → (∀ (y3 : Int32) (y4 : Int32) (υ : mx_S), o = .inl (y3, y4, υ) → ∀ (H : Heap) (locs : List Loc), mx_J G P s.heap (mxz σ) (mxu σ) υ H locs → ∀ ls : Array Slot, lv_has ls 5 [(0, .ref v0), (2, .int v2), (3, .int y3), (4, .int y4)] → W p l e (mx_rm P 6 172 σ) s m ([.ref a0] : List Value).toArray below meth c H locs (mxz υ - mxz σ) (mxu υ - mxu σ) (mx_Z below G P (some (.int r)) σ σ' [.ref a0] s) (F0 m 121 ls [])) → (∀ (y3 : Int32) (υ : mx_S), o = .inr (y3, υ) → ∀ (H : Heap) (locs : List Loc), mx_J G P s.heap (mxz σ) (mxu σ) υ H locs → ∀ ls : Array Slot, lv_has ls 5 [(0, .ref v0), (2, .int v2), (3, .int y3)] → W p l e (mx_rm P 6 172 σ) s m ([.ref a0] : List Value).toArray below meth c H locs (mxz υ - mxz σ) (mxu υ - mxu σ) (mx_Z below G P (some (.int r)) σ σ' [.ref a0] s) (F0 m 161 ls [])) → ∀ (H : Heap) (locs : List Loc), mx_J G P s.heap (mxz σ) (mxu σ) τ H locs → ∀ ls : Array Slot, lv_has ls 5 [(0, .ref v0), (2, .int v2), (3, .int v3), (4, .int v4)] → W p l e (mx_rm P 6 172 σ) s m ([.ref a0] : List Value).toArray below meth c H locs (mxz τ - mxz σ) (mxu τ - mxu σ) (mx_Z below G P (some (.int r)) σ σ' [.ref a0] s) (F0 m 121 ls []) := by
    intro v0 v2 v3 v4 τ o hf Kb Ke0 H locs hJ ls hl
    unfold f_X12_solution_B121 at hf
    refine lv_iload hx hb dX12_solution_121 (lv_at hl 3 rfl) ?_
    refine lv_bipush (v := 12) hx hb dX12_solution_123 (by decide) ?_
    refine lv_icmp_ge (tgt := 161) hx hb dX12_solution_125 (by decide) (fun c55 => ?_) (fun c55 => ?_)
    · rw [if_pos c55] at hf
      exact Ke0 v3 τ (Option.some.inj hf).symm _ _ hJ ls (lv_sub hl [0, 1, 2] rfl)
    · rw [if_neg c55] at hf
      refine lv_iload_n hx hb dX12_solution_128 rfl (lv_at hl 2 rfl) ?_
      refine lv_if_eq (tgt := 153) hx hb dX12_solution_129 (by decide) (fun c56 => ?_) (fun c56 => ?_)
      · rw [if_pos c56] at hf
        exact D153_121 v0 v2 v4 τ o hf Kb Ke0 _ _ hJ ls (lv_sub hl [0, 1, 3] rfl)
      · rw [if_neg c56] at hf
        refine lv_aload_n hx hb dX12_solution_132 rfl (lv_at hl 0 rfl) ?_
        obtain ⟨b59, e60, hf⟩ := mb0 hf
        refine my_gR hx hb hts hown hK hJ fd_RX12_144 hv_12_69 e60 dX12_solution_133 ?_
        refine lv_bipush (v := 13) hx hb dX12_solution_136 (by decide) ?_
        refine lv_iload_n hx hb dX12_solution_138 rfl (lv_at hl 1 rfl) ?_
        refine lv_imul hx hb dX12_solution_139 ?_
        refine lv_iload hx hb dX12_solution_140 (lv_at hl 3 rfl) ?_
        refine lv_iadd hx hb dX12_solution_142 ?_
        obtain ⟨x61, e62, hf⟩ := mb0 hf
        refine mx_aL hx hb hK hJ e62 dX12_solution_143 ?_
        refine lv_lconst (v := 0) hx hb dX12_solution_144 (by decide) ?_
        refine W.lcmp hx hb dX12_solution_145 ?_
        refine lv_if_ne (tgt := 153) hx hb dX12_solution_146 (by decide) (fun c63 => ?_) (fun c63 => ?_)
        · rw [if_neg c63] at hf
          exact D153_121 v0 v2 v4 τ o hf Kb Ke0 _ _ hJ ls (lv_sub hl [0, 1, 3] rfl)
        · rw [if_pos c63] at hf
          refine lv_iconst (v := 1) hx hb dX12_solution_149 (by decide) ?_
          refine lv_goto (tgt := 154) hx hb dX12_solution_150 (by decide) ?_
          exact D154_121 v0 v2 v4 (1 : Int32) τ o hf Kb Ke0 _ _ hJ ls (lv_sub hl [0, 1, 3] rfl)
  have L121 : ∀ (v0 : Nat) (v2 : Int32) (n : Nat) (v3 : Int32) (v4 : Int32) (τ : mx_S) (o : (Int32 × mx_S)), mx_lp (f_X12_solution_L121 P v0 v2) n (v3, v4, τ) = some o → (∀ (y3 : Int32) (υ : mx_S), o = (y3, υ) → ∀ (H : Heap) (locs : List Loc), mx_J G P s.heap (mxz σ) (mxu σ) υ H locs → ∀ ls : Array Slot, lv_has ls 5 [(0, .ref v0), (2, .int v2), (3, .int y3)] → W p l e (mx_rm P 6 172 σ) s m ([.ref a0] : List Value).toArray below meth c H locs (mxz υ - mxz σ) (mxu υ - mxu σ) (mx_Z below G P (some (.int r)) σ σ' [.ref a0] s) (F0 m 161 ls [])) → ∀ (H : Heap) (locs : List Loc), mx_J G P s.heap (mxz σ) (mxu σ) τ H locs → ∀ ls : Array Slot, lv_has ls 5 [(0, .ref v0), (2, .int v2), (3, .int v3), (4, .int v4)] → W p l e (mx_rm P 6 172 σ) s m ([.ref a0] : List Value).toArray below meth c H locs (mxz τ - mxz σ) (mxu τ - mxu σ) (mx_Z below G P (some (.int r)) σ σ' [.ref a0] s) (F0 m 121 ls []) := by
    intro v0 v2 n
    induction n with
    | zero =>
      intro v3 v4 τ o hf
      rw [mx_lp0] at hf
      cases hf
    | succ n ih =>
      intro v3 v4 τ o hf Ke0 H locs hJ ls hl
      rw [mx_lpS] at hf
      obtain ⟨b, eb, hf⟩ := mb0 hf
      refine B121 v0 v2 v3 v4 τ b eb (fun y3 y4 υ ho H locs hJ ls hl => ?_) (fun y3 υ ho H locs hJ ls hl => ?_) H locs hJ ls hl
      · subst ho
        exact ih y3 y4 υ o hf Ke0 H locs hJ ls hl
      · subst ho
        exact Ke0 y3 υ (Option.some.inj hf).symm _ _ hJ ls hl
  have D184_108 : ∀ (v0 : Nat) (v2 : Int32) (τ : mx_S) (o : (Int32 × mx_S) ⊕ ((mx_S) ⊕ (mx_S))), f_X12_solution_D184_108 P v0 v2 τ = some o → (∀ (y2 : Int32) (υ : mx_S), o = .inl (y2, υ) → ∀ (H : Heap) (locs : List Loc), mx_J G P s.heap (mxz σ) (mxu σ) υ H locs → ∀ ls : Array Slot, lv_has ls 5 [(0, .ref v0), (2, .int y2)] → W p l e (mx_rm P 6 172 σ) s m ([.ref a0] : List Value).toArray below meth c H locs (mxz υ - mxz σ) (mxu υ - mxu σ) (mx_Z below G P (some (.int r)) σ σ' [.ref a0] s) (F0 m 108 ls [])) → (∀  (υ : mx_S), o = .inr (.inl υ) → ∀ (H : Heap) (locs : List Loc), mx_J G P s.heap (mxz σ) (mxu σ) υ H locs → ∀ ls : Array Slot, lv_has ls 5 [] → W p l e (mx_rm P 6 172 σ) s m ([.ref a0] : List Value).toArray below meth c H locs (mxz υ - mxz σ) (mxu υ - mxu σ) (mx_Z below G P (some (.int r)) σ σ' [.ref a0] s) (F0 m 182 ls [])) → (∀  (υ : mx_S), o = .inr (.inr υ) → ∀ (H : Heap) (locs : List Loc), mx_J G P s.heap (mxz σ) (mxu σ) υ H locs → ∀ ls : Array Slot, lv_has ls 5 [] → W p l e (mx_rm P 6 172 σ) s m ([.ref a0] : List Value).toArray below meth c H locs (mxz υ - mxz σ) (mxu υ - mxu σ) (mx_Z below G P (some (.int r)) σ σ' [.ref a0] s) (F0 m 190 ls [])) → ∀ (H : Heap) (locs : List Loc), mx_J G P s.heap (mxz σ) (mxu σ) τ H locs → ∀ ls : Array Slot, lv_has ls 5 [(0, .ref v0), (2, .int v2)] → W p l e (mx_rm P 6 172 σ) s m ([.ref a0] : List Value).toArray below meth c H locs (mxz τ - mxz σ) (mxu τ - mxu σ) (mx_Z below G P (some (.int r)) σ σ' [.ref a0] s) (F0 m 184 ls []) := by
    intro v0 v2 τ o hf Kb Ke0 Ke1 H locs hJ ls hl
    unfold f_X12_solution_D184_108 at hf
    obtain ⟨x69, e70, hf⟩ := mb0 hf
    refine lv_iinc (v := x69) (lv' := [(2, .int x69), (0, .ref v0)]) hx hb dX12_solution_184 hl (k := 1) rfl (by rw [← Option.some.inj e70]; rfl) (by decide) rfl (fun ls hl => ?_)
    refine lv_goto (tgt := 108) hx hb dX12_solution_187 (by decide) ?_
    exact Kb x69 τ (Option.some.inj hf).symm _ _ hJ ls (lv_sub hl [1, 0] rfl)
  have B108 : ∀ (v0 : Nat) (v2 : Int32) (τ : mx_S) (o : (Int32 × mx_S) ⊕ ((mx_S) ⊕ (mx_S))), f_X12_solution_B108 P v0 v2 τ = some o → (∀ (y2 : Int32) (υ : mx_S), o = .inl (y2, υ) → ∀ (H : Heap) (locs : List Loc), mx_J G P s.heap (mxz σ) (mxu σ) υ H locs → ∀ ls : Array Slot, lv_has ls 5 [(0, .ref v0), (2, .int y2)] → W p l e (mx_rm P 6 172 σ) s m ([.ref a0] : List Value).toArray below meth c H locs (mxz υ - mxz σ) (mxu υ - mxu σ) (mx_Z below G P (some (.int r)) σ σ' [.ref a0] s) (F0 m 108 ls [])) → (∀  (υ : mx_S), o = .inr (.inl υ) → ∀ (H : Heap) (locs : List Loc), mx_J G P s.heap (mxz σ) (mxu σ) υ H locs → ∀ ls : Array Slot, lv_has ls 5 [] → W p l e (mx_rm P 6 172 σ) s m ([.ref a0] : List Value).toArray below meth c H locs (mxz υ - mxz σ) (mxu υ - mxu σ) (mx_Z below G P (some (.int r)) σ σ' [.ref a0] s) (F0 m 182 ls [])) → (∀  (υ : mx_S), o = .inr (.inr υ) → ∀ (H : Heap) (locs : List Loc), mx_J G P s.heap (mxz σ) (mxu σ) υ H locs → ∀ ls : Array Slot, lv_has ls 5 [] → W p l e (mx_rm P 6 172 σ) s m ([.ref a0] : List Value).toArray below meth c H locs (mxz υ - mxz σ) (mxu υ - mxu σ) (mx_Z below G P (some (.int r)) σ σ' [.ref a0] s) (F0 m 190 ls [])) → ∀ (H : Heap) (locs : List Loc), mx_J G P s.heap (mxz σ) (mxu σ) τ H locs → ∀ ls : Array Slot, lv_has ls 5 [(0, .ref v0), (2, .int v2)] → W p l e (mx_rm P 6 172 σ) s m ([.ref a0] : List Value).toArray below meth c H locs (mxz τ - mxz σ) (mxu τ - mxu σ) (mx_Z below G P (some (.int r)) σ σ' [.ref a0] s) (F0 m 108 ls []) := by
    intro v0 v2 τ o hf Kb Ke0 Ke1 H locs hJ ls hl
    unfold f_X12_solution_B108 at hf
    refine lv_iload_n hx hb dX12_solution_108 rfl (lv_at hl 1 rfl) ?_
    refine lv_aload_n hx hb dX12_solution_109 rfl (lv_at hl 0 rfl) ?_
    obtain ⟨x52, e53, hf⟩ := mb0 hf
    refine my_gI hx hb hts hown hK hJ fd_RX12_626 hv_12_68 e53 dX12_solution_110 ?_
    refine lv_icmp_ge (tgt := 190) hx hb dX12_solution_113 (by decide) (fun c54 => ?_) (fun c54 => ?_)
    · rw [if_pos c54] at hf
      exact Ke1 τ (Option.some.inj hf).symm _ _ hJ ls (lv_sub hl [] rfl)
    · rw [if_neg c54] at hf
      refine lv_iconst (v := 1) hx hb dX12_solution_116 (by decide) ?_
      refine lv_istore_n (lv' := [(3, .int (1 : Int32)), (0, .ref v0), (2, .int v2)]) hx hb dX12_solution_117 rfl hl (by decide) rfl (fun ls hl => ?_)
      refine lv_iconst (v := 0) hx hb dX12_solution_118 (by decide) ?_
      refine lv_istore (lv' := [(4, .int (0 : Int32)), (3, .int (1 : Int32)), (0, .ref v0), (2, .int v2)]) hx hb dX12_solution_119 hl (by decide) rfl (fun ls hl => ?_)
      obtain ⟨o64, e65, hf⟩ := mb0 hf
      refine L121 v0 v2 (mpN P) (1 : Int32) (0 : Int32) τ o64 e65 (fun y66 σ67 ho H locs hJ ls hl => ?_) _ _ hJ ls (lv_sub hl [2, 3, 1, 0] rfl)
      · rw [ho] at hf
        have hf : ((if y66 = 0 then f_X12_solution_D184_108 P v0 v2 σ67 else (mg_R σ67 v0 12 69).bind fun b71 => (ma_L σ67 b71 1 (((13 : Int32) * v2) + (12 : Int32))).bind fun x73 => (if (lg_cmp x73 (0 : Int64)) = 0 then f_X12_solution_D184_108 P v0 v2 σ67 else some (.inr (.inl σ67))))) = some o := hf
        refine lv_iload_n hx hb dX12_solution_161 rfl (lv_at hl 2 rfl) ?_
        refine lv_if_eq (tgt := 184) hx hb dX12_solution_162 (by decide) (fun c68 => ?_) (fun c68 => ?_)
        · rw [if_pos c68] at hf
          exact D184_108 v0 v2 σ67 o hf Kb Ke0 Ke1 _ _ hJ ls (lv_sub hl [0, 1] rfl)
        · rw [if_neg c68] at hf
          refine lv_aload_n hx hb dX12_solution_165 rfl (lv_at hl 0 rfl) ?_
          obtain ⟨b71, e72, hf⟩ := mb0 hf
          refine my_gR hx hb hts hown hK hJ fd_RX12_144 hv_12_69 e72 dX12_solution_166 ?_
          refine lv_bipush (v := 13) hx hb dX12_solution_169 (by decide) ?_
          refine lv_iload_n hx hb dX12_solution_171 rfl (lv_at hl 1 rfl) ?_
          refine lv_imul hx hb dX12_solution_172 ?_
          refine lv_bipush (v := 12) hx hb dX12_solution_173 (by decide) ?_
          refine lv_iadd hx hb dX12_solution_175 ?_
          obtain ⟨x73, e74, hf⟩ := mb0 hf
          refine mx_aL hx hb hK hJ e74 dX12_solution_176 ?_
          refine lv_lconst (v := 0) hx hb dX12_solution_177 (by decide) ?_
          refine W.lcmp hx hb dX12_solution_178 ?_
          refine lv_if_eq (tgt := 184) hx hb dX12_solution_179 (by decide) (fun c75 => ?_) (fun c75 => ?_)
          · rw [if_pos c75] at hf
            exact D184_108 v0 v2 σ67 o hf Kb Ke0 Ke1 _ _ hJ ls (lv_sub hl [0, 1] rfl)
          · rw [if_neg c75] at hf
            exact Ke0 σ67 (Option.some.inj hf).symm _ _ hJ ls (lv_sub hl [] rfl)
  have L108 : ∀ (v0 : Nat) (n : Nat) (v2 : Int32) (τ : mx_S) (o : (mx_S) ⊕ (mx_S)), mx_lp (f_X12_solution_L108 P v0) n (v2, τ) = some o → (∀  (υ : mx_S), o = (.inl υ) → ∀ (H : Heap) (locs : List Loc), mx_J G P s.heap (mxz σ) (mxu σ) υ H locs → ∀ ls : Array Slot, lv_has ls 5 [] → W p l e (mx_rm P 6 172 σ) s m ([.ref a0] : List Value).toArray below meth c H locs (mxz υ - mxz σ) (mxu υ - mxu σ) (mx_Z below G P (some (.int r)) σ σ' [.ref a0] s) (F0 m 182 ls [])) → (∀  (υ : mx_S), o = (.inr υ) → ∀ (H : Heap) (locs : List Loc), mx_J G P s.heap (mxz σ) (mxu σ) υ H locs → ∀ ls : Array Slot, lv_has ls 5 [] → W p l e (mx_rm P 6 172 σ) s m ([.ref a0] : List Value).toArray below meth c H locs (mxz υ - mxz σ) (mxu υ - mxu σ) (mx_Z below G P (some (.int r)) σ σ' [.ref a0] s) (F0 m 190 ls [])) → ∀ (H : Heap) (locs : List Loc), mx_J G P s.heap (mxz σ) (mxu σ) τ H locs → ∀ ls : Array Slot, lv_has ls 5 [(0, .ref v0), (2, .int v2)] → W p l e (mx_rm P 6 172 σ) s m ([.ref a0] : List Value).toArray below meth c H locs (mxz τ - mxz σ) (mxu τ - mxu σ) (mx_Z below G P (some (.int r)) σ σ' [.ref a0] s) (F0 m 108 ls []) := by
    intro v0 n
    induction n with
    | zero =>
      intro v2 τ o hf
      rw [mx_lp0] at hf
      cases hf
    | succ n ih =>
      intro v2 τ o hf Ke0 Ke1 H locs hJ ls hl
      rw [mx_lpS] at hf
      obtain ⟨b, eb, hf⟩ := mb0 hf
      refine B108 v0 v2 τ b eb (fun y2 υ ho H locs hJ ls hl => ?_) (fun  υ ho H locs hJ ls hl => ?_) (fun  υ ho H locs hJ ls hl => ?_) H locs hJ ls hl
      · subst ho
        exact ih y2 υ o hf Ke0 Ke1 H locs hJ ls hl
      · subst ho
        exact Ke0  υ (Option.some.inj hf).symm _ _ hJ ls hl
      · subst ho
        exact Ke1  υ (Option.some.inj hf).symm _ _ hJ ls hl
  unfold f_X12_solution at hf
  refine lv_aload_n hx hb dX12_solution_0 rfl (lv_at hl 0 rfl) ?_
  refine lv_iconst (v := 0) hx hb dX12_solution_1 (by decide) ?_
  obtain ⟨σ1, e2, hf⟩ := mb0 hf
  refine my_pZ hx hb hts hown hK hJ fd_RX12_283 cd_12 (Or.inl rfl) ht_12_10 e2 dX12_solution_2 (fun H locs hJ => ?_)
  refine lv_aload_n hx hb dX12_solution_5 rfl (lv_at hl 0 rfl) ?_
  obtain ⟨i3, e4, hf⟩ := mb0 hf
  obtain ⟨σ5, e6, hf⟩ := mb0 hf
  refine mx_callV (As := []) (rest := []) hx hb hml hts hown hK hJ rfl rfl (ci := 12) rfl e4 (c_X12_makeRows l G P a0 σ1 σ5 e6) me_X12_makeRows kw_2625 ks_145 kw_2623 (Nat.le_of_ble_eq_true rfl) (Nat.le_of_ble_eq_true rfl) rfl hl.1 rfl (Nat.le_of_ble_eq_true rfl) dX12_solution_6 (fun H locs hJ => ?_)
  refine lv_iconst (v := 0) hx hb dX12_solution_9 (by decide) ?_
  refine lv_istore_n (lv' := [(1, .int (0 : Int32)), (0, .ref a0)]) hx hb dX12_solution_10 rfl hl (by decide) rfl (fun ls hl => ?_)
  refine lv_iconst (v := 0) hx hb dX12_solution_11 (by decide) ?_
  refine lv_istore_n (lv' := [(2, .int (0 : Int32)), (1, .int (0 : Int32)), (0, .ref a0)]) hx hb dX12_solution_12 rfl hl (by decide) rfl (fun ls hl => ?_)
  obtain ⟨o48, e49, hf⟩ := mb0 hf
  refine L13 a0 (mpN P) (0 : Int32) (0 : Int32) σ5 o48 e49 (fun σ50 ho H locs hJ ls hl => ?_) (fun σ51 ho H locs hJ ls hl => ?_) _ _ hJ ls (lv_sub hl [2, 1, 0] rfl)
  · rw [ho] at hf
    have hf : (some ((3 : Int32), σ50)) = some (r, σ') := hf
    refine lv_iconst (v := 3) hx hb dX12_solution_88 (by decide) ?_
    exact my_iret hx hb hr hlocks hJ hf dX12_solution_89
  · rw [ho] at hf
    have hf : ((mx_lp (f_X12_solution_L108 P a0) (mpN P) ((0 : Int32), σ51)).bind (Sum.elim (fun t => (fun σ78 => some ((2 : Int32), σ78)) t) (fun t => (fun σ79 => some ((1 : Int32), σ79)) t))) = some (r, σ') := hf
    refine lv_iconst (v := 0) hx hb dX12_solution_106 (by decide) ?_
    refine lv_istore_n (lv' := [(2, .int (0 : Int32)), (0, .ref a0)]) hx hb dX12_solution_107 rfl hl (by decide) rfl (fun ls hl => ?_)
    obtain ⟨o76, e77, hf⟩ := mb0 hf
    refine L108 a0 (mpN P) (0 : Int32) σ51 o76 e77 (fun σ78 ho H locs hJ ls hl => ?_) (fun σ79 ho H locs hJ ls hl => ?_) _ _ hJ ls (lv_sub hl [1, 0] rfl)
    · rw [ho] at hf
      have hf : (some ((2 : Int32), σ78)) = some (r, σ') := hf
      refine lv_iconst (v := 2) hx hb dX12_solution_182 (by decide) ?_
      exact my_iret hx hb hr hlocks hJ hf dX12_solution_183
    · rw [ho] at hf
      have hf : (some ((1 : Int32), σ79)) = some (r, σ') := hf
      refine lv_iconst (v := 1) hx hb dX12_solution_190 (by decide) ?_
      exact my_iret hx hb hr hlocks hJ hf dX12_solution_191
set_option maxHeartbeats 4000000 in
set_option maxRecDepth 100000 in
theorem c_X12_solved (l : Launch) (G : mx_G) (P : mx_P) (a0 : Nat) (σ : mx_S) (r : Int32) (σ' : mx_S) (hf : f_X12_solved P a0 σ = some (r, σ')) : mxz σ ≤ mpc P → mxu σ ≤ mps P → mx_M l yX12_solved cX12_solved 1 (some .int) 7 196 G P [.ref a0] σ (some (.int r)) σ' := by
  intro hcap hcau
  refine mx_ofW (by decide +kernel) hcap hcau (Nat.le_of_ble_eq_true rfl) ?_
  intro p e s m below meth c hx hb hr hml hts hown hlocks hname hK hJ ls hl
  have hz0 := hJ.2.1
  have hown : s.vm.findClass RX12 = some m.cls := hown
  have hl : lv_has ls 1 [(0, .ref a0)] := hl
  unfold f_X12_solved at hf
  refine lv_aload_n hx hb dX12_solved_0 rfl (lv_at hl 0 rfl) ?_
  refine lv_iconst (v := 0) hx hb dX12_solved_1 (by decide) ?_
  obtain ⟨σ1, e2, hf⟩ := mb0 hf
  refine my_pI hx hb hts hown hK hJ fd_RX12_243 cd_12 (Or.inl rfl) ht_12_0 e2 dX12_solved_2 (fun H locs hJ => ?_)
  refine lv_aload_n hx hb dX12_solved_5 rfl (lv_at hl 0 rfl) ?_
  obtain ⟨i3, e4, hf⟩ := mb0 hf
  obtain ⟨x6, σ5, e7, hf⟩ := mc0 hf
  refine mx_callV (As := []) (rest := []) hx hb hml hts hown hK hJ rfl rfl (ci := 12) rfl e4 (c_X12_solution l G P a0 σ1 x6 σ5 e7) me_X12_solution kw_2621 ks_144 kw_2619 (Nat.le_of_ble_eq_true rfl) (Nat.le_of_ble_eq_true rfl) rfl hl.1 rfl (Nat.le_of_ble_eq_true rfl) dX12_solved_6 (fun H locs hJ => ?_)
  exact my_iret hx hb hr hlocks hJ hf dX12_solved_9
set_option maxHeartbeats 4000000 in
set_option maxRecDepth 100000 in
theorem c_X12_turns (l : Launch) (G : mx_G) (P : mx_P) (a0 : Nat) (p1 : Int32) (p2 : Int32) (σ : mx_S) (r : Int64) (σ' : mx_S) (hf : f_X12_turns P a0 p1 p2 σ = some (r, σ')) : mxz σ ≤ mpc P → mxu σ ≤ mps P → mx_M l yX12_turns cX12_turns 6 (some .long) 7 196 G P [.ref a0, .int p1, .int p2] σ (some (.long r)) σ' := by
  intro hcap hcau
  refine mx_ofW (by decide +kernel) hcap hcau (Nat.le_of_ble_eq_true rfl) ?_
  intro p e s m below meth c hx hb hr hml hts hown hlocks hname hK hJ ls hl
  have hz0 := hJ.2.1
  have hown : s.vm.findClass RX12 = some m.cls := hown
  have hl : lv_has ls 6 [(0, .ref a0), (1, .int p1), (2, .int p2)] := hl
  have D105_68 : ∀ (v0 : Nat) (v1 : Int32) (v2 : Int32) (v3 : Int32) (v4 : Int32) (v5 : Int32) (τ : mx_S) (o : (Int32 × Int32 × mx_S) ⊕ ((Int32 × mx_S))), f_X12_turns_D105_68 P v0 v1 v2 v3 v4 v5 τ = some o → (∀ (y4 : Int32) (y5 : Int32) (υ : mx_S), o = .inl (y4, y5, υ) → ∀ (H : Heap) (locs : List Loc), mx_J G P s.heap (mxz σ) (mxu σ) υ H locs → ∀ ls : Array Slot, lv_has ls 6 [(0, .ref v0), (1, .int v1), (2, .int v2), (3, .int v3), (4, .int y4), (5, .int y5)] → W p l e (mx_rm P 7 196 σ) s m ([.ref a0, .int p1, .int p2] : List Value).toArray below meth c H locs (mxz υ - mxz σ) (mxu υ - mxu σ) (mx_Z below G P (some (.long r)) σ σ' [.ref a0, .int p1, .int p2] s) (F0 m 68 ls [])) → (∀ (y4 : Int32) (υ : mx_S), o = .inr (y4, υ) → ∀ (H : Heap) (locs : List Loc), mx_J G P s.heap (mxz σ) (mxu σ) υ H locs → ∀ ls : Array Slot, lv_has ls 6 [(0, .ref v0), (2, .int v2), (3, .int v3), (4, .int y4)] → W p l e (mx_rm P 7 196 σ) s m ([.ref a0, .int p1, .int p2] : List Value).toArray below meth c H locs (mxz υ - mxz σ) (mxu υ - mxu σ) (mx_Z below G P (some (.long r)) σ σ' [.ref a0, .int p1, .int p2] s) (F0 m 111 ls [])) → ∀ (H : Heap) (locs : List Loc), mx_J G P s.heap (mxz σ) (mxu σ) τ H locs → ∀ ls : Array Slot, lv_has ls 6 [(0, .ref v0), (1, .int v1), (2, .int v2), (3, .int v3), (4, .int v4), (5, .int v5)] → W p l e (mx_rm P 7 196 σ) s m ([.ref a0, .int p1, .int p2] : List Value).toArray below meth c H locs (mxz τ - mxz σ) (mxu τ - mxu σ) (mx_Z below G P (some (.long r)) σ σ' [.ref a0, .int p1, .int p2] s) (F0 m 105 ls []) := by
    intro v0 v1 v2 v3 v4 v5 τ o hf Kb Ke0 H locs hJ ls hl
    unfold f_X12_turns_D105_68 at hf
    obtain ⟨x23, e24, hf⟩ := mb0 hf
    refine lv_iinc (v := x23) (lv' := [(5, .int x23), (0, .ref v0), (1, .int v1), (2, .int v2), (3, .int v3), (4, .int v4)]) hx hb dX12_turns_105 hl (k := 5) rfl (by rw [← Option.some.inj e24]; rfl) (by decide) rfl (fun ls hl => ?_)
    refine lv_goto (tgt := 68) hx hb dX12_turns_108 (by decide) ?_
    exact Kb v4 x23 τ (Option.some.inj hf).symm _ _ hJ ls (lv_sub hl [1, 2, 3, 4, 5, 0] rfl)
  have B68 : ∀ (v0 : Nat) (v1 : Int32) (v2 : Int32) (v3 : Int32) (v4 : Int32) (v5 : Int32) (τ : mx_S) (o : (Int32 × Int32 × mx_S) ⊕ ((Int32 × mx_S))), f_X12_turns_B68 P v0 v1 v2 v3 v4 v5 τ = some o → (∀ (y4 : Int32) (y5 : Int32) (υ : mx_S), o = .inl (y4, y5, υ) → ∀ (H : Heap) (locs : List Loc), mx_J G P s.heap (mxz σ) (mxu σ) υ H locs → ∀ ls : Array Slot, lv_has ls 6 [(0, .ref v0), (1, .int v1), (2, .int v2), (3, .int v3), (4, .int y4), (5, .int y5)] → W p l e (mx_rm P 7 196 σ) s m ([.ref a0, .int p1, .int p2] : List Value).toArray below meth c H locs (mxz υ - mxz σ) (mxu υ - mxu σ) (mx_Z below G P (some (.long r)) σ σ' [.ref a0, .int p1, .int p2] s) (F0 m 68 ls [])) → (∀ (y4 : Int32) (υ : mx_S), o = .inr (y4, υ) → ∀ (H : Heap) (locs : List Loc), mx_J G P s.heap (mxz σ) (mxu σ) υ H locs → ∀ ls : Array Slot, lv_has ls 6 [(0, .ref v0), (2, .int v2), (3, .int v3), (4, .int y4)] → W p l e (mx_rm P 7 196 σ) s m ([.ref a0, .int p1, .int p2] : List Value).toArray below meth c H locs (mxz υ - mxz σ) (mxu υ - mxu σ) (mx_Z below G P (some (.long r)) σ σ' [.ref a0, .int p1, .int p2] s) (F0 m 111 ls [])) → ∀ (H : Heap) (locs : List Loc), mx_J G P s.heap (mxz σ) (mxu σ) τ H locs → ∀ ls : Array Slot, lv_has ls 6 [(0, .ref v0), (1, .int v1), (2, .int v2), (3, .int v3), (4, .int v4), (5, .int v5)] → W p l e (mx_rm P 7 196 σ) s m ([.ref a0, .int p1, .int p2] : List Value).toArray below meth c H locs (mxz τ - mxz σ) (mxu τ - mxu σ) (mx_Z below G P (some (.long r)) σ σ' [.ref a0, .int p1, .int p2] s) (F0 m 68 ls []) := by
    intro v0 v1 v2 v3 v4 v5 τ o hf Kb Ke0 H locs hJ ls hl
    unfold f_X12_turns_B68 at hf
    refine lv_iload hx hb dX12_turns_68 (lv_at hl 5 rfl) ?_
    refine lv_bipush (v := 12) hx hb dX12_turns_70 (by decide) ?_
    refine lv_icmp_ge (tgt := 111) hx hb dX12_turns_72 (by decide) (fun c20 => ?_) (fun c20 => ?_)
    · rw [if_pos c20] at hf
      exact Ke0 v4 τ (Option.some.inj hf).symm _ _ hJ ls (lv_sub hl [0, 2, 3, 4] rfl)
    · rw [if_neg c20] at hf
      refine lv_iload_n hx hb dX12_turns_75 rfl (lv_at hl 3 rfl) ?_
      refine lv_if_lt (tgt := 111) hx hb dX12_turns_76 (by decide) (fun c21 => ?_) (fun c21 => ?_)
      · rw [if_pos c21] at hf
        exact Ke0 v4 τ (Option.some.inj hf).symm _ _ hJ ls (lv_sub hl [0, 2, 3, 4] rfl)
      · rw [if_neg c21] at hf
        refine lv_iload hx hb dX12_turns_79 (lv_at hl 5 rfl) ?_
        refine lv_iload_n hx hb dX12_turns_81 rfl (lv_at hl 1 rfl) ?_
        refine lv_icmp_eq (tgt := 105) hx hb dX12_turns_82 (by decide) (fun c22 => ?_) (fun c22 => ?_)
        · rw [if_pos c22] at hf
          exact D105_68 v0 v1 v2 v3 v4 v5 τ o hf Kb Ke0 _ _ hJ ls (lv_sub hl [0, 1, 2, 3, 4, 5] rfl)
        · rw [if_neg c22] at hf
          refine lv_aload_n hx hb dX12_turns_85 rfl (lv_at hl 0 rfl) ?_
          obtain ⟨b25, e26, hf⟩ := mb0 hf
          refine my_gR hx hb hts hown hK hJ fd_RX12_144 hv_12_69 e26 dX12_turns_86 ?_
          refine lv_bipush (v := 13) hx hb dX12_turns_89 (by decide) ?_
          refine lv_iload_n hx hb dX12_turns_91 rfl (lv_at hl 3 rfl) ?_
          refine lv_imul hx hb dX12_turns_92 ?_
          refine lv_iload hx hb dX12_turns_93 (lv_at hl 5 rfl) ?_
          refine lv_iadd hx hb dX12_turns_95 ?_
          obtain ⟨x27, e28, hf⟩ := mb0 hf
          refine mx_aL hx hb hK hJ e28 dX12_turns_96 ?_
          refine lv_lconst (v := 0) hx hb dX12_turns_97 (by decide) ?_
          refine W.lcmp hx hb dX12_turns_98 ?_
          refine lv_if_eq (tgt := 105) hx hb dX12_turns_99 (by decide) (fun c29 => ?_) (fun c29 => ?_)
          · rw [if_pos c29] at hf
            exact D105_68 v0 v1 v2 v3 v4 v5 τ o hf Kb Ke0 _ _ hJ ls (lv_sub hl [0, 1, 2, 3, 4, 5] rfl)
          · rw [if_neg c29] at hf
            obtain ⟨x30, e31, hf⟩ := mb0 hf
            refine lv_iinc (v := x30) (lv' := [(4, .int x30), (0, .ref v0), (1, .int v1), (2, .int v2), (3, .int v3), (5, .int v5)]) hx hb dX12_turns_102 hl (k := 4) rfl (by rw [← Option.some.inj e31]; rfl) (by decide) rfl (fun ls hl => ?_)
            exact D105_68 v0 v1 v2 v3 x30 v5 τ o hf Kb Ke0 _ _ hJ ls (lv_sub hl [1, 2, 3, 4, 0, 5] rfl)
  have L68 : ∀ (v0 : Nat) (v1 : Int32) (v2 : Int32) (v3 : Int32) (n : Nat) (v4 : Int32) (v5 : Int32) (τ : mx_S) (o : (Int32 × mx_S)), mx_lp (f_X12_turns_L68 P v0 v1 v2 v3) n (v4, v5, τ) = some o → (∀ (y4 : Int32) (υ : mx_S), o = (y4, υ) → ∀ (H : Heap) (locs : List Loc), mx_J G P s.heap (mxz σ) (mxu σ) υ H locs → ∀ ls : Array Slot, lv_has ls 6 [(0, .ref v0), (2, .int v2), (3, .int v3), (4, .int y4)] → W p l e (mx_rm P 7 196 σ) s m ([.ref a0, .int p1, .int p2] : List Value).toArray below meth c H locs (mxz υ - mxz σ) (mxu υ - mxu σ) (mx_Z below G P (some (.long r)) σ σ' [.ref a0, .int p1, .int p2] s) (F0 m 111 ls [])) → ∀ (H : Heap) (locs : List Loc), mx_J G P s.heap (mxz σ) (mxu σ) τ H locs → ∀ ls : Array Slot, lv_has ls 6 [(0, .ref v0), (1, .int v1), (2, .int v2), (3, .int v3), (4, .int v4), (5, .int v5)] → W p l e (mx_rm P 7 196 σ) s m ([.ref a0, .int p1, .int p2] : List Value).toArray below meth c H locs (mxz τ - mxz σ) (mxu τ - mxu σ) (mx_Z below G P (some (.long r)) σ σ' [.ref a0, .int p1, .int p2] s) (F0 m 68 ls []) := by
    intro v0 v1 v2 v3 n
    induction n with
    | zero =>
      intro v4 v5 τ o hf
      rw [mx_lp0] at hf
      cases hf
    | succ n ih =>
      intro v4 v5 τ o hf Ke0 H locs hJ ls hl
      rw [mx_lpS] at hf
      obtain ⟨b, eb, hf⟩ := mb0 hf
      refine B68 v0 v1 v2 v3 v4 v5 τ b eb (fun y4 y5 υ ho H locs hJ ls hl => ?_) (fun y4 υ ho H locs hJ ls hl => ?_) H locs hJ ls hl
      · subst ho
        exact ih y4 y5 υ o hf Ke0 H locs hJ ls hl
      · subst ho
        exact Ke0 y4 υ (Option.some.inj hf).symm _ _ hJ ls hl
  have D171 : ∀ (w0 : Int64) (τ : mx_S), f_X12_turns_D171 P w0 τ = some (r, σ') → ∀ (H : Heap) (locs : List Loc), mx_J G P s.heap (mxz σ) (mxu σ) τ H locs → ∀ ls : Array Slot, lv_has ls 6 [] → W p l e (mx_rm P 7 196 σ) s m ([.ref a0, .int p1, .int p2] : List Value).toArray below meth c H locs (mxz τ - mxz σ) (mxu τ - mxu σ) (mx_Z below G P (some (.long r)) σ σ' [.ref a0, .int p1, .int p2] s) (F0 m 171 ls [.long w0]) := by
    intro w0 τ hf _ _ hJ ls hl
    unfold f_X12_turns_D171 at hf
    exact my_lret hx hb hr hlocks hJ hf dX12_turns_171
  have D126 : ∀ (v0 : Nat) (v2 : Int32) (v3 : Int32) (w0 : Int32) (w1 : Nat) (τ : mx_S), f_X12_turns_D126 P v0 v2 v3 w0 w1 τ = some (r, σ') → ∀ (H : Heap) (locs : List Loc), mx_J G P s.heap (mxz σ) (mxu σ) τ H locs → ∀ ls : Array Slot, lv_has ls 6 [(0, .ref v0), (2, .int v2), (3, .int v3)] → W p l e (mx_rm P 7 196 σ) s m ([.ref a0, .int p1, .int p2] : List Value).toArray below meth c H locs (mxz τ - mxz σ) (mxu τ - mxu σ) (mx_Z below G P (some (.long r)) σ σ' [.ref a0, .int p1, .int p2] s) (F0 m 126 ls [.int w0, .ref w1]) := by
    intro v0 v2 v3 w0 w1 τ hf _ _ hJ ls hl
    unfold f_X12_turns_D126 at hf
    obtain ⟨σ37, e38, hf⟩ := mb0 hf
    refine my_pI hx hb hts hown hK hJ fd_RX12_243 cd_12 (Or.inl rfl) ht_12_0 e38 dX12_turns_126 (fun H locs hJ => ?_)
    refine lv_aload_n hx hb dX12_turns_129 rfl (lv_at hl 0 rfl) ?_
    obtain ⟨x39, e40, hf⟩ := mb0 hf
    refine my_gI hx hb hts hown hK hJ fd_RX12_243 hv_12_0 e40 dX12_turns_130 ?_
    refine lv_if_le (tgt := 140) hx hb dX12_turns_133 (by decide) (fun c41 => ?_) (fun c41 => ?_)
    · rw [if_pos c41] at hf
      refine lv_iload_n hx hb dX12_turns_140 rfl (lv_at hl 1 rfl) ?_
      refine lv_if_ne (tgt := 159) hx hb dX12_turns_141 (by decide) (fun c42 => ?_) (fun c42 => ?_)
      · rw [if_neg c42] at hf
        refine lv_aload_n hx hb dX12_turns_159 rfl (lv_at hl 0 rfl) ?_
        obtain ⟨b43, e44, hf⟩ := mb0 hf
        refine my_gR hx hb hts hown hK hJ fd_RX12_147 hv_12_70 e44 dX12_turns_160 ?_
        refine lv_bipush (v := 13) hx hb dX12_turns_163 (by decide) ?_
        refine lv_iload_n hx hb dX12_turns_165 rfl (lv_at hl 2 rfl) ?_
        refine lv_imul hx hb dX12_turns_166 ?_
        refine lv_bipush (v := 12) hx hb dX12_turns_167 (by decide) ?_
        refine lv_iadd hx hb dX12_turns_169 ?_
        obtain ⟨x45, e46, hf⟩ := mb0 hf
        refine mx_aL hx hb hK hJ e46 dX12_turns_170 ?_
        exact D171 x45 σ37 hf _ _ hJ ls (lv_sub hl [] rfl)
      · rw [if_pos c42] at hf
        refine lv_aload_n hx hb dX12_turns_144 rfl (lv_at hl 0 rfl) ?_
        obtain ⟨b47, e48, hf⟩ := mb0 hf
        refine my_gR hx hb hts hown hK hJ fd_RX12_144 hv_12_69 e48 dX12_turns_145 ?_
        refine lv_bipush (v := 13) hx hb dX12_turns_148 (by decide) ?_
        refine lv_iload_n hx hb dX12_turns_150 rfl (lv_at hl 2 rfl) ?_
        refine lv_imul hx hb dX12_turns_151 ?_
        refine lv_bipush (v := 12) hx hb dX12_turns_152 (by decide) ?_
        refine lv_iadd hx hb dX12_turns_154 ?_
        obtain ⟨x49, e50, hf⟩ := mb0 hf
        refine mx_aL hx hb hK hJ e50 dX12_turns_155 ?_
        refine lv_goto (tgt := 171) hx hb dX12_turns_156 (by decide) ?_
        exact D171 x49 σ37 hf _ _ hJ ls (lv_sub hl [] rfl)
    · rw [if_neg c41] at hf
      refine lv_lconst (v := 0) hx hb dX12_turns_136 (by decide) ?_
      refine lv_goto (tgt := 171) hx hb dX12_turns_137 (by decide) ?_
      exact D171 (0 : Int64) σ37 hf _ _ hJ ls (lv_sub hl [] rfl)
  have D121 : ∀ (v0 : Nat) (v2 : Int32) (v3 : Int32) (w0 : Nat) (τ : mx_S), f_X12_turns_D121 P v0 v2 v3 w0 τ = some (r, σ') → ∀ (H : Heap) (locs : List Loc), mx_J G P s.heap (mxz σ) (mxu σ) τ H locs → ∀ ls : Array Slot, lv_has ls 6 [(0, .ref v0), (2, .int v2), (3, .int v3)] → W p l e (mx_rm P 7 196 σ) s m ([.ref a0, .int p1, .int p2] : List Value).toArray below meth c H locs (mxz τ - mxz σ) (mxu τ - mxu σ) (mx_Z below G P (some (.long r)) σ σ' [.ref a0, .int p1, .int p2] s) (F0 m 121 ls [.ref w0]) := by
    intro v0 v2 v3 w0 τ hf _ _ hJ ls hl
    unfold f_X12_turns_D121 at hf
    refine lv_iconst (v := 2) hx hb dX12_turns_121 (by decide) ?_
    refine lv_goto (tgt := 126) hx hb dX12_turns_122 (by decide) ?_
    exact D126 v0 v2 v3 (2 : Int32) w0 τ hf _ _ hJ ls (lv_sub hl [0, 1, 2] rfl)
  have D111 : ∀ (v0 : Nat) (v2 : Int32) (v3 : Int32) (v4 : Int32) (τ : mx_S), f_X12_turns_D111 P v0 v2 v3 v4 τ = some (r, σ') → ∀ (H : Heap) (locs : List Loc), mx_J G P s.heap (mxz σ) (mxu σ) τ H locs → ∀ ls : Array Slot, lv_has ls 6 [(0, .ref v0), (2, .int v2), (3, .int v3), (4, .int v4)] → W p l e (mx_rm P 7 196 σ) s m ([.ref a0, .int p1, .int p2] : List Value).toArray below meth c H locs (mxz τ - mxz σ) (mxu τ - mxu σ) (mx_Z below G P (some (.long r)) σ σ' [.ref a0, .int p1, .int p2] s) (F0 m 111 ls []) := by
    intro v0 v2 v3 v4 τ hf _ _ hJ ls hl
    unfold f_X12_turns_D111 at hf
    refine lv_aload_n hx hb dX12_turns_111 rfl (lv_at hl 0 rfl) ?_
    refine lv_iload_n hx hb dX12_turns_112 rfl (lv_at hl 2 rfl) ?_
    refine lv_if_lt (tgt := 121) hx hb dX12_turns_113 (by decide) (fun c36 => ?_) (fun c36 => ?_)
    · rw [if_pos c36] at hf
      exact D121 v0 v2 v3 v0 τ hf _ _ hJ ls (lv_sub hl [0, 1, 2] rfl)
    · rw [if_neg c36] at hf
      refine lv_iload hx hb dX12_turns_116 (lv_at hl 3 rfl) ?_
      refine lv_if_le (tgt := 125) hx hb dX12_turns_118 (by decide) (fun c51 => ?_) (fun c51 => ?_)
      · rw [if_pos c51] at hf
        refine lv_iconst (v := 0) hx hb dX12_turns_125 (by decide) ?_
        exact D126 v0 v2 v3 (0 : Int32) v0 τ hf _ _ hJ ls (lv_sub hl [0, 1, 2] rfl)
      · rw [if_neg c51] at hf
        exact D121 v0 v2 v3 v0 τ hf _ _ hJ ls (lv_sub hl [0, 1, 2] rfl)
  have D28 : ∀ (v0 : Nat) (v1 : Int32) (v2 : Int32) (w0 : Int32) (w1 : Nat) (τ : mx_S), f_X12_turns_D28 P v0 v1 v2 w0 w1 τ = some (r, σ') → ∀ (H : Heap) (locs : List Loc), mx_J G P s.heap (mxz σ) (mxu σ) τ H locs → ∀ ls : Array Slot, lv_has ls 6 [(0, .ref v0), (1, .int v1), (2, .int v2)] → W p l e (mx_rm P 7 196 σ) s m ([.ref a0, .int p1, .int p2] : List Value).toArray below meth c H locs (mxz τ - mxz σ) (mxu τ - mxu σ) (mx_Z below G P (some (.long r)) σ σ' [.ref a0, .int p1, .int p2] s) (F0 m 28 ls [.int w0, .ref w1]) := by
    intro v0 v1 v2 w0 w1 τ hf _ _ hJ ls hl
    unfold f_X12_turns_D28 at hf
    obtain ⟨σ5, e6, hf⟩ := mb0 hf
    refine my_pI hx hb hts hown hK hJ fd_RX12_243 cd_12 (Or.inl rfl) ht_12_0 e6 dX12_turns_28 (fun H locs hJ => ?_)
    refine lv_aload_n hx hb dX12_turns_31 rfl (lv_at hl 0 rfl) ?_
    obtain ⟨x7, e8, hf⟩ := mb0 hf
    refine my_gI hx hb hts hown hK hJ fd_RX12_243 hv_12_0 e8 dX12_turns_32 ?_
    refine lv_if_le (tgt := 40) hx hb dX12_turns_35 (by decide) (fun c9 => ?_) (fun c9 => ?_)
    · rw [if_pos c9] at hf
      refine lv_aload_n hx hb dX12_turns_40 rfl (lv_at hl 0 rfl) ?_
      obtain ⟨i10, e11, hf⟩ := mb0 hf
      obtain ⟨x13, σ12, e14, hf⟩ := mc0 hf
      refine mx_callV (As := []) (rest := []) hx hb hml hts hown hK hJ rfl rfl (ci := 12) rfl e11 (c_X12_solution l G P v0 σ5 x13 σ12 e14) me_X12_solution kw_2621 ks_144 kw_2619 (Nat.le_of_ble_eq_true rfl) (Nat.le_of_ble_eq_true rfl) rfl hl.1 rfl (Nat.le_of_ble_eq_true rfl) dX12_turns_41 (fun H locs hJ => ?_)
      refine lv_iconst (v := 1) hx hb dX12_turns_44 (by decide) ?_
      refine lv_icmp_eq (tgt := 55) hx hb dX12_turns_45 (by decide) (fun c15 => ?_) (fun c15 => ?_)
      · rw [if_pos c15] at hf
        refine lv_aload_n hx hb dX12_turns_55 rfl (lv_at hl 0 rfl) ?_
        obtain ⟨b16, e17, hf⟩ := mb0 hf
        refine my_gR hx hb hts hown hK hJ fd_RX12_150 hv_12_71 e17 dX12_turns_56 ?_
        refine lv_iload_n hx hb dX12_turns_59 rfl (lv_at hl 1 rfl) ?_
        obtain ⟨x18, e19, hf⟩ := mb0 hf
        refine mx_aI hx hb hK hJ e19 dX12_turns_60 ?_
        refine lv_istore_n (lv' := [(3, .int x18), (0, .ref v0), (1, .int v1), (2, .int v2)]) hx hb dX12_turns_61 rfl hl (by decide) rfl (fun ls hl => ?_)
        refine lv_iconst (v := 0) hx hb dX12_turns_62 (by decide) ?_
        refine lv_istore (lv' := [(4, .int (0 : Int32)), (3, .int x18), (0, .ref v0), (1, .int v1), (2, .int v2)]) hx hb dX12_turns_63 hl (by decide) rfl (fun ls hl => ?_)
        refine lv_iconst (v := 0) hx hb dX12_turns_65 (by decide) ?_
        refine lv_istore (lv' := [(5, .int (0 : Int32)), (4, .int (0 : Int32)), (3, .int x18), (0, .ref v0), (1, .int v1), (2, .int v2)]) hx hb dX12_turns_66 hl (by decide) rfl (fun ls hl => ?_)
        obtain ⟨o32, e33, hf⟩ := mb0 hf
        refine L68 v0 v1 v2 x18 (mpN P) (0 : Int32) (0 : Int32) σ12 o32 e33 (fun y34 σ35 ho H locs hJ ls hl => ?_) _ _ hJ ls (lv_sub hl [3, 4, 5, 2, 1, 0] rfl)
        · rw [ho] at hf
          have hf : (f_X12_turns_D111 P v0 v2 x18 y34 σ35) = some (r, σ') := hf
          exact D111 v0 v2 x18 y34 σ35 hf _ _ hJ ls (lv_sub hl [0, 1, 2, 3] rfl)
      · rw [if_neg c15] at hf
        refine lv_aload_n hx hb dX12_turns_48 rfl (lv_at hl 0 rfl) ?_
        refine lv_iconst (v := 3) hx hb dX12_turns_49 (by decide) ?_
        obtain ⟨σ52, e53, hf⟩ := mb0 hf
        refine my_pI hx hb hts hown hK hJ fd_RX12_243 cd_12 (Or.inl rfl) ht_12_0 e53 dX12_turns_50 (fun H locs hJ => ?_)
        refine lv_lconst (v := 0) hx hb dX12_turns_53 (by decide) ?_
        exact my_lret hx hb hr hlocks hJ hf dX12_turns_54
    · rw [if_neg c9] at hf
      refine lv_lconst (v := 0) hx hb dX12_turns_38 (by decide) ?_
      exact my_lret hx hb hr hlocks hJ hf dX12_turns_39
  have D27 : ∀ (v0 : Nat) (v1 : Int32) (v2 : Int32) (w0 : Nat) (τ : mx_S), f_X12_turns_D27 P v0 v1 v2 w0 τ = some (r, σ') → ∀ (H : Heap) (locs : List Loc), mx_J G P s.heap (mxz σ) (mxu σ) τ H locs → ∀ ls : Array Slot, lv_has ls 6 [(0, .ref v0), (1, .int v1), (2, .int v2)] → W p l e (mx_rm P 7 196 σ) s m ([.ref a0, .int p1, .int p2] : List Value).toArray below meth c H locs (mxz τ - mxz σ) (mxu τ - mxu σ) (mx_Z below G P (some (.long r)) σ σ' [.ref a0, .int p1, .int p2] s) (F0 m 27 ls [.ref w0]) := by
    intro v0 v1 v2 w0 τ hf _ _ hJ ls hl
    unfold f_X12_turns_D27 at hf
    refine lv_iconst (v := 1) hx hb dX12_turns_27 (by decide) ?_
    exact D28 v0 v1 v2 (1 : Int32) w0 τ hf _ _ hJ ls (lv_sub hl [0, 1, 2] rfl)
  unfold f_X12_turns at hf
  refine lv_aload_n hx hb dX12_turns_0 rfl (lv_at hl 0 rfl) ?_
  refine lv_iload_n hx hb dX12_turns_1 rfl (lv_at hl 1 rfl) ?_
  refine lv_i2l hx hb dX12_turns_2 rfl ?_
  refine lv_lconst (v := 0) hx hb dX12_turns_3 (by decide) ?_
  refine lv_ldc2 hx hb hown (hts _ kw_2597) dX12_turns_4 ?_
  obtain ⟨x2, σ1, e3, hf⟩ := mc0 hf
  refine mx_callS (As := [.long (p1.toInt64), .long (0 : Int64), .long (11 : Int64)]) (rest := [.ref a0]) hx hb hml hts hown hK hJ rfl rfl (c_X12_in l G P (p1.toInt64) (0 : Int64) (11 : Int64) σ x2 σ1 e3) me_X12_in kw_2223 kw_2222 (Nat.le_of_ble_eq_true rfl) (Nat.le_of_ble_eq_true rfl) rfl hl.1 rfl (Nat.le_of_ble_eq_true rfl) dX12_turns_7 (fun H locs hJ => ?_)
  refine lv_if_eq (tgt := 27) hx hb dX12_turns_10 (by decide) (fun c4 => ?_) (fun c4 => ?_)
  · rw [if_pos c4] at hf
    exact D27 a0 p1 p2 a0 σ1 hf _ _ hJ ls (lv_sub hl [0, 1, 2] rfl)
  · rw [if_neg c4] at hf
    refine lv_iload_n hx hb dX12_turns_13 rfl (lv_at hl 2 rfl) ?_
    refine lv_i2l hx hb dX12_turns_14 rfl ?_
    refine lv_lconst (v := 0) hx hb dX12_turns_15 (by decide) ?_
    refine lv_lconst (v := 1) hx hb dX12_turns_16 (by decide) ?_
    obtain ⟨x55, σ54, e56, hf⟩ := mc0 hf
    refine mx_callS (As := [.long (p2.toInt64), .long (0 : Int64), .long (1 : Int64)]) (rest := [.ref a0]) hx hb hml hts hown hK hJ rfl rfl (c_X12_in l G P (p2.toInt64) (0 : Int64) (1 : Int64) σ1 x55 σ54 e56) me_X12_in kw_2223 kw_2222 (Nat.le_of_ble_eq_true rfl) (Nat.le_of_ble_eq_true rfl) rfl hl.1 rfl (Nat.le_of_ble_eq_true rfl) dX12_turns_17 (fun H locs hJ => ?_)
    refine lv_if_eq (tgt := 27) hx hb dX12_turns_20 (by decide) (fun c57 => ?_) (fun c57 => ?_)
    · rw [if_pos c57] at hf
      exact D27 a0 p1 p2 a0 σ54 hf _ _ hJ ls (lv_sub hl [0, 1, 2] rfl)
    · rw [if_neg c57] at hf
      refine lv_iconst (v := 0) hx hb dX12_turns_23 (by decide) ?_
      refine lv_goto (tgt := 28) hx hb dX12_turns_24 (by decide) ?_
      exact D28 a0 p1 p2 (0 : Int32) a0 σ54 hf _ _ hJ ls (lv_sub hl [0, 1, 2] rfl)
set_option maxHeartbeats 4000000 in
set_option maxRecDepth 100000 in
theorem c_X12_interference (l : Launch) (G : mx_G) (P : mx_P) (a0 : Nat) (p1 : Int32) (p2 : Int32) (p3 : Int32) (σ : mx_S) (r : Int32) (σ' : mx_S) (hf : f_X12_interference P a0 p1 p2 p3 σ = some (r, σ')) : mxz σ ≤ mpc P → mxu σ ≤ mps P → mx_M l yX12_interference cX12_interference 9 (some .int) 1 23 G P [.ref a0, .int p1, .int p2, .int p3] σ (some (.int r)) σ' := by
  intro hcap hcau
  refine mx_ofW (by decide +kernel) hcap hcau (Nat.le_of_ble_eq_true rfl) ?_
  intro p e s m below meth c hx hb hr hml hts hown hlocks hname hK hJ ls hl
  have hz0 := hJ.2.1
  have hown : s.vm.findClass RX12 = some m.cls := hown
  have hl : lv_has ls 9 [(0, .ref a0), (1, .int p1), (2, .int p2), (3, .int p3)] := hl
  have D169 : ∀ (w0 : Int32) (τ : mx_S), f_X12_interference_D169 P w0 τ = some (r, σ') → ∀ (H : Heap) (locs : List Loc), mx_J G P s.heap (mxz σ) (mxu σ) τ H locs → ∀ ls : Array Slot, lv_has ls 9 [] → W p l e (mx_rm P 1 23 σ) s m ([.ref a0, .int p1, .int p2, .int p3] : List Value).toArray below meth c H locs (mxz τ - mxz σ) (mxu τ - mxu σ) (mx_Z below G P (some (.int r)) σ σ' [.ref a0, .int p1, .int p2, .int p3] s) (F0 m 169 ls [.int w0]) := by
    intro w0 τ hf _ _ hJ ls hl
    unfold f_X12_interference_D169 at hf
    exact my_iret hx hb hr hlocks hJ hf dX12_interference_169
  have D122 : ∀ (w0 : Int32) (τ : mx_S), f_X12_interference_D122 P w0 τ = some (r, σ') → ∀ (H : Heap) (locs : List Loc), mx_J G P s.heap (mxz σ) (mxu σ) τ H locs → ∀ ls : Array Slot, lv_has ls 9 [] → W p l e (mx_rm P 1 23 σ) s m ([.ref a0, .int p1, .int p2, .int p3] : List Value).toArray below meth c H locs (mxz τ - mxz σ) (mxu τ - mxu σ) (mx_Z below G P (some (.int r)) σ σ' [.ref a0, .int p1, .int p2, .int p3] s) (F0 m 122 ls [.int w0]) := by
    intro w0 τ hf _ _ hJ ls hl
    unfold f_X12_interference_D122 at hf
    exact my_iret hx hb hr hlocks hJ hf dX12_interference_122
  have D90 : ∀ (v3 : Int32) (v4 : Int64) (v6 : Int64) (w0 : Int32) (τ : mx_S), f_X12_interference_D90 P v3 v4 v6 w0 τ = some (r, σ') → ∀ (H : Heap) (locs : List Loc), mx_J G P s.heap (mxz σ) (mxu σ) τ H locs → ∀ ls : Array Slot, lv_has ls 9 [(3, .int v3), (4, .long v4), (6, .long v6)] → W p l e (mx_rm P 1 23 σ) s m ([.ref a0, .int p1, .int p2, .int p3] : List Value).toArray below meth c H locs (mxz τ - mxz σ) (mxu τ - mxu σ) (mx_Z below G P (some (.int r)) σ σ' [.ref a0, .int p1, .int p2, .int p3] s) (F0 m 90 ls [.int w0]) := by
    intro v3 v4 v6 w0 τ hf _ _ hJ ls hl
    unfold f_X12_interference_D90 at hf
    refine lv_istore (lv' := [(8, .int w0), (3, .int v3), (4, .long v4), (6, .long v6)]) hx hb dX12_interference_90 hl (by decide) rfl (fun ls hl => ?_)
    refine lv_iload_n hx hb dX12_interference_92 rfl (lv_at hl 1 rfl) ?_
    refine lv_if_eq (tgt := 123) hx hb dX12_interference_93 (by decide) (fun c35 => ?_) (fun c35 => ?_)
    · rw [if_pos c35] at hf
      refine lv_iload hx hb dX12_interference_123 (lv_at hl 0 rfl) ?_
      refine lv_if_ne (tgt := 130) hx hb dX12_interference_125 (by decide) (fun c36 => ?_) (fun c36 => ?_)
      · rw [if_neg c36] at hf
        refine lv_lload hx hb dX12_interference_130 (lv_at hl 3 rfl) ?_
        refine lv_ldc2 hx hb hown (hts _ kw_2675) dX12_interference_132 ?_
        refine lv_ldc2 hx hb hown (hts _ kw_2447) dX12_interference_135 ?_
        refine lv_lload hx hb dX12_interference_138 (lv_at hl 2 rfl) ?_
        refine lv_lmul hx hb dX12_interference_140 ?_
        refine lv_ldc2 hx hb hown (hts _ kw_2672) dX12_interference_141 ?_
        refine lv_lmul hx hb dX12_interference_144 ?_
        refine lv_lsub hx hb dX12_interference_145 ?_
        refine lv_lmul hx hb dX12_interference_146 ?_
        refine lv_lload hx hb dX12_interference_147 (lv_at hl 2 rfl) ?_
        refine lv_lload hx hb dX12_interference_149 (lv_at hl 2 rfl) ?_
        refine lv_lmul hx hb dX12_interference_151 ?_
        refine lv_ldc2 hx hb hown (hts _ kw_2672) dX12_interference_152 ?_
        refine lv_lmul hx hb dX12_interference_155 ?_
        refine lv_ldc2 hx hb hown (hts _ kw_2675) dX12_interference_156 ?_
        refine lv_lsub hx hb dX12_interference_159 ?_
        refine W.lcmp hx hb dX12_interference_160 ?_
        refine lv_if_le (tgt := 168) hx hb dX12_interference_161 (by decide) (fun c37 => ?_) (fun c37 => ?_)
        · rw [if_pos c37] at hf
          refine lv_iconst (v := 1) hx hb dX12_interference_168 (by decide) ?_
          exact D169 (1 : Int32) τ hf _ _ hJ ls (lv_sub hl [] rfl)
        · rw [if_neg c37] at hf
          refine lv_iconst (v := 2) hx hb dX12_interference_164 (by decide) ?_
          refine lv_goto (tgt := 169) hx hb dX12_interference_165 (by decide) ?_
          exact D169 (2 : Int32) τ hf _ _ hJ ls (lv_sub hl [] rfl)
      · rw [if_pos c36] at hf
        refine lv_iconst (v := 0) hx hb dX12_interference_128 (by decide) ?_
        exact my_iret hx hb hr hlocks hJ hf dX12_interference_129
    · rw [if_neg c35] at hf
      refine lv_iload hx hb dX12_interference_96 (lv_at hl 0 rfl) ?_
      refine lv_if_eq (tgt := 105) hx hb dX12_interference_98 (by decide) (fun c38 => ?_) (fun c38 => ?_)
      · rw [if_pos c38] at hf
        refine lv_lload hx hb dX12_interference_105 (lv_at hl 3 rfl) ?_
        refine lv_lload hx hb dX12_interference_107 (lv_at hl 2 rfl) ?_
        refine lv_lsub hx hb dX12_interference_109 ?_
        refine lv_ldc2 hx hb hown (hts _ kw_2674) dX12_interference_110 ?_
        refine W.lcmp hx hb dX12_interference_113 ?_
        refine lv_if_ge (tgt := 121) hx hb dX12_interference_114 (by decide) (fun c39 => ?_) (fun c39 => ?_)
        · rw [if_pos c39] at hf
          refine lv_iconst (v := 0) hx hb dX12_interference_121 (by decide) ?_
          exact D122 (0 : Int32) τ hf _ _ hJ ls (lv_sub hl [] rfl)
        · rw [if_neg c39] at hf
          refine lv_iconst (v := 2) hx hb dX12_interference_117 (by decide) ?_
          refine lv_goto (tgt := 122) hx hb dX12_interference_118 (by decide) ?_
          exact D122 (2 : Int32) τ hf _ _ hJ ls (lv_sub hl [] rfl)
      · rw [if_neg c38] at hf
        refine lv_iconst (v := 1) hx hb dX12_interference_101 (by decide) ?_
        refine lv_goto (tgt := 122) hx hb dX12_interference_102 (by decide) ?_
        exact D122 (1 : Int32) τ hf _ _ hJ ls (lv_sub hl [] rfl)
  have D22 : ∀ (v0 : Nat) (v1 : Int32) (v2 : Int32) (v3 : Int32) (w0 : Int32) (w1 : Nat) (τ : mx_S), f_X12_interference_D22 P v0 v1 v2 v3 w0 w1 τ = some (r, σ') → ∀ (H : Heap) (locs : List Loc), mx_J G P s.heap (mxz σ) (mxu σ) τ H locs → ∀ ls : Array Slot, lv_has ls 9 [(0, .ref v0), (1, .int v1), (2, .int v2), (3, .int v3)] → W p l e (mx_rm P 1 23 σ) s m ([.ref a0, .int p1, .int p2, .int p3] : List Value).toArray below meth c H locs (mxz τ - mxz σ) (mxu τ - mxu σ) (mx_Z below G P (some (.int r)) σ σ' [.ref a0, .int p1, .int p2, .int p3] s) (F0 m 22 ls [.int w0, .ref w1]) := by
    intro v0 v1 v2 v3 w0 w1 τ hf _ _ hJ ls hl
    unfold f_X12_interference_D22 at hf
    obtain ⟨σ7, e8, hf⟩ := mb0 hf
    refine my_pI hx hb hts hown hK hJ fd_RX12_243 cd_12 (Or.inl rfl) ht_12_0 e8 dX12_interference_22 (fun H locs hJ => ?_)
    refine lv_aload_n hx hb dX12_interference_25 rfl (lv_at hl 0 rfl) ?_
    obtain ⟨x9, e10, hf⟩ := mb0 hf
    refine my_gI hx hb hts hown hK hJ fd_RX12_243 hv_12_0 e10 dX12_interference_26 ?_
    refine lv_if_le (tgt := 34) hx hb dX12_interference_29 (by decide) (fun c11 => ?_) (fun c11 => ?_)
    · rw [if_pos c11] at hf
      refine lv_aload_n hx hb dX12_interference_34 rfl (lv_at hl 0 rfl) ?_
      obtain ⟨b12, e13, hf⟩ := mb0 hf
      refine my_gR hx hb hts hown hK hJ fd_RX12_117 hv_12_58 e13 dX12_interference_35 ?_
      refine lv_iload_n hx hb dX12_interference_38 rfl (lv_at hl 1 rfl) ?_
      obtain ⟨x14, e15, hf⟩ := mb0 hf
      refine mx_aI hx hb hK hJ e15 dX12_interference_39 ?_
      refine lv_i2l hx hb dX12_interference_40 rfl ?_
      refine lv_aload_n hx hb dX12_interference_41 rfl (lv_at hl 0 rfl) ?_
      obtain ⟨b16, e17, hf⟩ := mb0 hf
      refine my_gR hx hb hts hown hK hJ fd_RX12_117 hv_12_58 e17 dX12_interference_42 ?_
      refine lv_iload_n hx hb dX12_interference_45 rfl (lv_at hl 2 rfl) ?_
      obtain ⟨x18, e19, hf⟩ := mb0 hf
      refine mx_aI hx hb hK hJ e19 dX12_interference_46 ?_
      refine lv_i2l hx hb dX12_interference_47 rfl ?_
      obtain ⟨x21, σ20, e22, hf⟩ := mc0 hf
      refine mx_callS (As := [.long (x14.toInt64), .long (x18.toInt64)]) (rest := []) hx hb hml hts hown hK hJ rfl rfl (c_X12_smaller l G P (x14.toInt64) (x18.toInt64) σ7 x21 σ20 e22) me_X12_smaller kw_2410 kw_2409 (Nat.le_of_ble_eq_true rfl) (Nat.le_of_ble_eq_true rfl) rfl hl.1 rfl (Nat.le_of_ble_eq_true rfl) dX12_interference_48 (fun H locs hJ => ?_)
      refine lv_lstore (lv' := [(4, .long x21), (0, .ref v0), (1, .int v1), (2, .int v2), (3, .int v3)]) hx hb dX12_interference_51 hl (by decide) rfl (fun ls hl => ?_)
      refine lv_aload_n hx hb dX12_interference_53 rfl (lv_at hl 1 rfl) ?_
      obtain ⟨b23, e24, hf⟩ := mb0 hf
      refine my_gR hx hb hts hown hK hJ fd_RX12_117 hv_12_58 e24 dX12_interference_54 ?_
      refine lv_iload_n hx hb dX12_interference_57 rfl (lv_at hl 2 rfl) ?_
      obtain ⟨x25, e26, hf⟩ := mb0 hf
      refine mx_aI hx hb hK hJ e26 dX12_interference_58 ?_
      refine lv_i2l hx hb dX12_interference_59 rfl ?_
      refine lv_aload_n hx hb dX12_interference_60 rfl (lv_at hl 1 rfl) ?_
      obtain ⟨b27, e28, hf⟩ := mb0 hf
      refine my_gR hx hb hts hown hK hJ fd_RX12_117 hv_12_58 e28 dX12_interference_61 ?_
      refine lv_iload_n hx hb dX12_interference_64 rfl (lv_at hl 3 rfl) ?_
      obtain ⟨x29, e30, hf⟩ := mb0 hf
      refine mx_aI hx hb hK hJ e30 dX12_interference_65 ?_
      refine lv_i2l hx hb dX12_interference_66 rfl ?_
      obtain ⟨x32, σ31, e33, hf⟩ := mc0 hf
      refine mx_callS (As := [.long (x25.toInt64), .long (x29.toInt64)]) (rest := []) hx hb hml hts hown hK hJ rfl rfl (c_X12_most l G P (x25.toInt64) (x29.toInt64) σ20 x32 σ31 e33) me_X12_most kw_2413 kw_2412 (Nat.le_of_ble_eq_true rfl) (Nat.le_of_ble_eq_true rfl) rfl hl.1 rfl (Nat.le_of_ble_eq_true rfl) dX12_interference_67 (fun H locs hJ => ?_)
      refine lv_lstore (lv' := [(6, .long x32), (4, .long x21), (0, .ref v0), (1, .int v1), (2, .int v2), (3, .int v3)]) hx hb dX12_interference_70 hl (by decide) rfl (fun ls hl => ?_)
      refine lv_lload hx hb dX12_interference_72 (lv_at hl 1 rfl) ?_
      refine lv_ldc2 hx hb hown (hts _ kw_2672) dX12_interference_74 ?_
      refine lv_lmul hx hb dX12_interference_77 ?_
      refine lv_ldc2 hx hb hown (hts _ kw_2673) dX12_interference_78 ?_
      refine W.lcmp hx hb dX12_interference_81 ?_
      refine lv_if_ge (tgt := 89) hx hb dX12_interference_82 (by decide) (fun c34 => ?_) (fun c34 => ?_)
      · rw [if_pos c34] at hf
        refine lv_iconst (v := 0) hx hb dX12_interference_89 (by decide) ?_
        exact D90 v3 x21 x32 (0 : Int32) σ31 hf _ _ hJ ls (lv_sub hl [5, 1, 0] rfl)
      · rw [if_neg c34] at hf
        refine lv_iconst (v := 1) hx hb dX12_interference_85 (by decide) ?_
        refine lv_goto (tgt := 90) hx hb dX12_interference_86 (by decide) ?_
        exact D90 v3 x21 x32 (1 : Int32) σ31 hf _ _ hJ ls (lv_sub hl [5, 1, 0] rfl)
    · rw [if_neg c11] at hf
      refine lv_iconst (v := 0) hx hb dX12_interference_32 (by decide) ?_
      exact my_iret hx hb hr hlocks hJ hf dX12_interference_33
  have D21 : ∀ (v0 : Nat) (v1 : Int32) (v2 : Int32) (v3 : Int32) (w0 : Nat) (τ : mx_S), f_X12_interference_D21 P v0 v1 v2 v3 w0 τ = some (r, σ') → ∀ (H : Heap) (locs : List Loc), mx_J G P s.heap (mxz σ) (mxu σ) τ H locs → ∀ ls : Array Slot, lv_has ls 9 [(0, .ref v0), (1, .int v1), (2, .int v2), (3, .int v3)] → W p l e (mx_rm P 1 23 σ) s m ([.ref a0, .int p1, .int p2, .int p3] : List Value).toArray below meth c H locs (mxz τ - mxz σ) (mxu τ - mxu σ) (mx_Z below G P (some (.int r)) σ σ' [.ref a0, .int p1, .int p2, .int p3] s) (F0 m 21 ls [.ref w0]) := by
    intro v0 v1 v2 v3 w0 τ hf _ _ hJ ls hl
    unfold f_X12_interference_D21 at hf
    refine lv_iconst (v := 1) hx hb dX12_interference_21 (by decide) ?_
    exact D22 v0 v1 v2 v3 (1 : Int32) w0 τ hf _ _ hJ ls (lv_sub hl [0, 1, 2, 3] rfl)
  unfold f_X12_interference at hf
  refine lv_aload_n hx hb dX12_interference_0 rfl (lv_at hl 0 rfl) ?_
  refine lv_aload_n hx hb dX12_interference_1 rfl (lv_at hl 0 rfl) ?_
  refine lv_iload_n hx hb dX12_interference_2 rfl (lv_at hl 1 rfl) ?_
  obtain ⟨i1, e2, hf⟩ := mb0 hf
  obtain ⟨x4, σ3, e5, hf⟩ := mc0 hf
  refine mx_callV (As := [.int p1]) (rest := [.ref a0]) hx hb hml hts hown hK hJ rfl rfl (ci := 12) rfl e2 (c_X12_isGear l G P a0 p1 σ x4 σ3 e5) me_X12_isGear kw_2604 ks_143 kw_2602 (Nat.le_of_ble_eq_true rfl) (Nat.le_of_ble_eq_true rfl) rfl hl.1 rfl (Nat.le_of_ble_eq_true rfl) dX12_interference_3 (fun H locs hJ => ?_)
  refine lv_if_eq (tgt := 21) hx hb dX12_interference_6 (by decide) (fun c6 => ?_) (fun c6 => ?_)
  · rw [if_pos c6] at hf
    exact D21 a0 p1 p2 p3 a0 σ3 hf _ _ hJ ls (lv_sub hl [0, 1, 2, 3] rfl)
  · rw [if_neg c6] at hf
    refine lv_aload_n hx hb dX12_interference_9 rfl (lv_at hl 0 rfl) ?_
    refine lv_iload_n hx hb dX12_interference_10 rfl (lv_at hl 2 rfl) ?_
    obtain ⟨i40, e41, hf⟩ := mb0 hf
    obtain ⟨x43, σ42, e44, hf⟩ := mc0 hf
    refine mx_callV (As := [.int p2]) (rest := [.ref a0]) hx hb hml hts hown hK hJ rfl rfl (ci := 12) rfl e41 (c_X12_isGear l G P a0 p2 σ3 x43 σ42 e44) me_X12_isGear kw_2604 ks_143 kw_2602 (Nat.le_of_ble_eq_true rfl) (Nat.le_of_ble_eq_true rfl) rfl hl.1 rfl (Nat.le_of_ble_eq_true rfl) dX12_interference_11 (fun H locs hJ => ?_)
    refine lv_if_eq (tgt := 21) hx hb dX12_interference_14 (by decide) (fun c45 => ?_) (fun c45 => ?_)
    · rw [if_pos c45] at hf
      exact D21 a0 p1 p2 p3 a0 σ42 hf _ _ hJ ls (lv_sub hl [0, 1, 2, 3] rfl)
    · rw [if_neg c45] at hf
      refine lv_iconst (v := 0) hx hb dX12_interference_17 (by decide) ?_
      refine lv_goto (tgt := 22) hx hb dX12_interference_18 (by decide) ?_
      exact D22 a0 p1 p2 p3 (0 : Int32) a0 σ42 hf _ _ hJ ls (lv_sub hl [0, 1, 2, 3] rfl)
set_option maxHeartbeats 4000000 in
set_option maxRecDepth 100000 in
theorem c_X12_trains (l : Launch) (G : mx_G) (P : mx_P) (a0 : Nat) (p1 : Int32) (p2 : Int32) (p3 : Int32) (p4 : Int32) (σ : mx_S) (r : Int32) (σ' : mx_S) (hf : f_X12_trains P a0 p1 p2 p3 p4 σ = some (r, σ')) : mxz σ ≤ mpc P → mxu σ ≤ mps P → mx_M l yX12_trains cX12_trains 12 (some .int) 1 25 G P [.ref a0, .int p1, .int p2, .int p3, .int p4] σ (some (.int r)) σ' := by
  intro hcap hcau
  refine mx_ofW (by decide +kernel) hcap hcau (Nat.le_of_ble_eq_true rfl) ?_
  intro p e s m below meth c hx hb hr hml hts hown hlocks hname hK hJ ls hl
  have hz0 := hJ.2.1
  have hown : s.vm.findClass RX12 = some m.cls := hown
  have hl : lv_has ls 12 [(0, .ref a0), (1, .int p1), (2, .int p2), (3, .int p3), (4, .int p4)] := hl
  have D289_153 : ∀ (v0 : Nat) (v1 : Int32) (v2 : Int32) (v3 : Int32) (v4 : Int32) (v6 : Int32) (v7 : Int32) (v8 : Int32) (v9 : Int64) (v11 : Int32) (τ : mx_S) (o : (Int32 × Int32 × mx_S) ⊕ ((Int32 × mx_S))), f_X12_trains_D289_153 P v0 v1 v2 v3 v4 v6 v7 v8 v9 v11 τ = some o → (∀ (y6 : Int32) (y11 : Int32) (υ : mx_S), o = .inl (y6, y11, υ) → ∀ (H : Heap) (locs : List Loc), mx_J G P s.heap (mxz σ) (mxu σ) υ H locs → ∀ ls : Array Slot, lv_has ls 12 [(0, .ref v0), (1, .int v1), (2, .int v2), (3, .int v3), (4, .int v4), (6, .int y6), (7, .int v7), (8, .int v8), (9, .long v9), (11, .int y11)] → W p l e (mx_rm P 1 25 σ) s m ([.ref a0, .int p1, .int p2, .int p3, .int p4] : List Value).toArray below meth c H locs (mxz υ - mxz σ) (mxu υ - mxu σ) (mx_Z below G P (some (.int r)) σ σ' [.ref a0, .int p1, .int p2, .int p3, .int p4] s) (F0 m 153 ls [])) → (∀ (y6 : Int32) (υ : mx_S), o = .inr (y6, υ) → ∀ (H : Heap) (locs : List Loc), mx_J G P s.heap (mxz σ) (mxu σ) υ H locs → ∀ ls : Array Slot, lv_has ls 12 [(0, .ref v0), (1, .int v1), (2, .int v2), (3, .int v3), (4, .int v4), (6, .int y6), (7, .int v7), (8, .int v8)] → W p l e (mx_rm P 1 25 σ) s m ([.ref a0, .int p1, .int p2, .int p3, .int p4] : List Value).toArray below meth c H locs (mxz υ - mxz σ) (mxu υ - mxu σ) (mx_Z below G P (some (.int r)) σ σ' [.ref a0, .int p1, .int p2, .int p3, .int p4] s) (F0 m 295 ls [])) → ∀ (H : Heap) (locs : List Loc), mx_J G P s.heap (mxz σ) (mxu σ) τ H locs → ∀ ls : Array Slot, lv_has ls 12 [(0, .ref v0), (1, .int v1), (2, .int v2), (3, .int v3), (4, .int v4), (6, .int v6), (7, .int v7), (8, .int v8), (9, .long v9), (11, .int v11)] → W p l e (mx_rm P 1 25 σ) s m ([.ref a0, .int p1, .int p2, .int p3, .int p4] : List Value).toArray below meth c H locs (mxz τ - mxz σ) (mxu τ - mxu σ) (mx_Z below G P (some (.int r)) σ σ' [.ref a0, .int p1, .int p2, .int p3, .int p4] s) (F0 m 289 ls []) := by
    intro v0 v1 v2 v3 v4 v6 v7 v8 v9 v11 τ o hf Kb Ke0 H locs hJ ls hl
    unfold f_X12_trains_D289_153 at hf
    obtain ⟨x27, e28, hf⟩ := mb0 hf
    refine lv_iinc (v := x27) (lv' := [(11, .int x27), (0, .ref v0), (1, .int v1), (2, .int v2), (3, .int v3), (4, .int v4), (6, .int v6), (7, .int v7), (8, .int v8), (9, .long v9)]) hx hb dX12_trains_289 hl (k := 9) rfl (by rw [← Option.some.inj e28]; rfl) (by decide) rfl (fun ls hl => ?_)
    refine lv_goto (tgt := 153) hx hb dX12_trains_292 (by decide) ?_
    exact Kb v6 x27 τ (Option.some.inj hf).symm _ _ hJ ls (lv_sub hl [1, 2, 3, 4, 5, 6, 7, 8, 9, 0] rfl)
  have B153 : ∀ (v0 : Nat) (v1 : Int32) (v2 : Int32) (v3 : Int32) (v4 : Int32) (v7 : Int32) (v8 : Int32) (v9 : Int64) (v6 : Int32) (v11 : Int32) (τ : mx_S) (o : (Int32 × Int32 × mx_S) ⊕ ((Int32 × mx_S))), f_X12_trains_B153 P v0 v1 v2 v3 v4 v7 v8 v9 v6 v11 τ = some o → (∀ (y6 : Int32) (y11 : Int32) (υ : mx_S), o = .inl (y6, y11, υ) → ∀ (H : Heap) (locs : List Loc), mx_J G P s.heap (mxz σ) (mxu σ) υ H locs → ∀ ls : Array Slot, lv_has ls 12 [(0, .ref v0), (1, .int v1), (2, .int v2), (3, .int v3), (4, .int v4), (6, .int y6), (7, .int v7), (8, .int v8), (9, .long v9), (11, .int y11)] → W p l e (mx_rm P 1 25 σ) s m ([.ref a0, .int p1, .int p2, .int p3, .int p4] : List Value).toArray below meth c H locs (mxz υ - mxz σ) (mxu υ - mxu σ) (mx_Z below G P (some (.int r)) σ σ' [.ref a0, .int p1, .int p2, .int p3, .int p4] s) (F0 m 153 ls [])) → (∀ (y6 : Int32) (υ : mx_S), o = .inr (y6, υ) → ∀ (H : Heap) (locs : List Loc), mx_J G P s.heap (mxz σ) (mxu σ) υ H locs → ∀ ls : Array Slot, lv_has ls 12 [(0, .ref v0), (1, .int v1), (2, .int v2), (3, .int v3), (4, .int v4), (6, .int y6), (7, .int v7), (8, .int v8)] → W p l e (mx_rm P 1 25 σ) s m ([.ref a0, .int p1, .int p2, .int p3, .int p4] : List Value).toArray below meth c H locs (mxz υ - mxz σ) (mxu υ - mxu σ) (mx_Z below G P (some (.int r)) σ σ' [.ref a0, .int p1, .int p2, .int p3, .int p4] s) (F0 m 295 ls [])) → ∀ (H : Heap) (locs : List Loc), mx_J G P s.heap (mxz σ) (mxu σ) τ H locs → ∀ ls : Array Slot, lv_has ls 12 [(0, .ref v0), (1, .int v1), (2, .int v2), (3, .int v3), (4, .int v4), (6, .int v6), (7, .int v7), (8, .int v8), (9, .long v9), (11, .int v11)] → W p l e (mx_rm P 1 25 σ) s m ([.ref a0, .int p1, .int p2, .int p3, .int p4] : List Value).toArray below meth c H locs (mxz τ - mxz σ) (mxu τ - mxu σ) (mx_Z below G P (some (.int r)) σ σ' [.ref a0, .int p1, .int p2, .int p3, .int p4] s) (F0 m 153 ls []) := by
    intro v0 v1 v2 v3 v4 v7 v8 v9 v6 v11 τ o hf Kb Ke0 H locs hJ ls hl
    unfold f_X12_trains_B153 at hf
    refine lv_iload hx hb dX12_trains_153 (lv_at hl 9 rfl) ?_
    refine lv_iload hx hb dX12_trains_155 (lv_at hl 4 rfl) ?_
    refine lv_icmp_gt (tgt := 295) hx hb dX12_trains_157 (by decide) (fun c22 => ?_) (fun c22 => ?_)
    · rw [if_pos c22] at hf
      exact Ke0 v6 τ (Option.some.inj hf).symm _ _ hJ ls (lv_sub hl [0, 1, 2, 3, 4, 5, 6, 7] rfl)
    · rw [if_neg c22] at hf
      refine lv_iload hx hb dX12_trains_160 (lv_at hl 9 rfl) ?_
      refine lv_i2l hx hb dX12_trains_162 rfl ?_
      refine lv_iload hx hb dX12_trains_163 (lv_at hl 9 rfl) ?_
      refine lv_i2l hx hb dX12_trains_165 rfl ?_
      refine lv_lmul hx hb dX12_trains_166 ?_
      refine lv_lload hx hb dX12_trains_167 (lv_at hl 8 rfl) ?_
      refine W.lcmp hx hb dX12_trains_169 ?_
      refine lv_if_gt (tgt := 295) hx hb dX12_trains_170 (by decide) (fun c23 => ?_) (fun c23 => ?_)
      · rw [if_pos c23] at hf
        exact Ke0 v6 τ (Option.some.inj hf).symm _ _ hJ ls (lv_sub hl [0, 1, 2, 3, 4, 5, 6, 7] rfl)
      · rw [if_neg c23] at hf
        refine lv_lload hx hb dX12_trains_173 (lv_at hl 8 rfl) ?_
        refine lv_iload hx hb dX12_trains_175 (lv_at hl 9 rfl) ?_
        refine lv_i2l hx hb dX12_trains_177 rfl ?_
        obtain ⟨x24, e25, hf⟩ := mb0 hf
        refine lv_lrem hx hb dX12_trains_178 (mm_Ls e25).1 ?_
        refine mx_eL (mm_Ls e25).2 ?_
        refine lv_lconst (v := 0) hx hb dX12_trains_179 (by decide) ?_
        refine W.lcmp hx hb dX12_trains_180 ?_
        refine lv_if_ne (tgt := 289) hx hb dX12_trains_181 (by decide) (fun c26 => ?_) (fun c26 => ?_)
        · rw [if_neg c26] at hf
          exact D289_153 v0 v1 v2 v3 v4 v6 v7 v8 v9 v11 τ o hf Kb Ke0 _ _ hJ ls (lv_sub hl [0, 1, 2, 3, 4, 5, 6, 7, 8, 9] rfl)
        · rw [if_pos c26] at hf
          refine lv_lload hx hb dX12_trains_184 (lv_at hl 8 rfl) ?_
          refine lv_iload hx hb dX12_trains_186 (lv_at hl 9 rfl) ?_
          refine lv_i2l hx hb dX12_trains_188 rfl ?_
          obtain ⟨x29, e30, hf⟩ := mb0 hf
          refine lv_ldiv hx hb dX12_trains_189 (md_Ls e30).1 ?_
          refine mx_eL (md_Ls e30).2 ?_
          refine lv_iload hx hb dX12_trains_190 (lv_at hl 4 rfl) ?_
          refine lv_i2l hx hb dX12_trains_192 rfl ?_
          refine W.lcmp hx hb dX12_trains_193 ?_
          refine lv_if_le (tgt := 200) hx hb dX12_trains_194 (by decide) (fun c31 => ?_) (fun c31 => ?_)
          · rw [if_pos c31] at hf
            obtain ⟨x32, e33, hf⟩ := mb0 hf
            refine lv_iinc (v := x32) (lv' := [(6, .int x32), (0, .ref v0), (1, .int v1), (2, .int v2), (3, .int v3), (4, .int v4), (7, .int v7), (8, .int v8), (9, .long v9), (11, .int v11)]) hx hb dX12_trains_200 hl (k := 5) rfl (by rw [← Option.some.inj e33]; rfl) (by decide) rfl (fun ls hl => ?_)
            refine lv_aload_n hx hb dX12_trains_203 rfl (lv_at hl 1 rfl) ?_
            obtain ⟨x34, e35, hf⟩ := mb0 hf
            refine my_gI hx hb hts hown hK hJ fd_RX12_665 hv_12_72 e35 dX12_trains_204 ?_
            refine lv_sipush (v := 300) hx hb dX12_trains_207 (by decide) ?_
            refine lv_icmp_ne (tgt := 216) hx hb dX12_trains_210 (by decide) (fun c36 => ?_) (fun c36 => ?_)
            · rw [if_neg c36] at hf
              refine lv_aload_n hx hb dX12_trains_216 rfl (lv_at hl 1 rfl) ?_
              obtain ⟨b37, e38, hf⟩ := mb0 hf
              refine my_gR hx hb hts hown hK hJ fd_RX12_153 hv_12_73 e38 dX12_trains_217 ?_
              refine lv_iconst (v := 4) hx hb dX12_trains_220 (by decide) ?_
              refine lv_aload_n hx hb dX12_trains_221 rfl (lv_at hl 1 rfl) ?_
              obtain ⟨x39, e40, hf⟩ := mb0 hf
              refine my_gI hx hb hts hown hK hJ fd_RX12_665 hv_12_72 e40 dX12_trains_222 ?_
              refine lv_imul hx hb dX12_trains_225 ?_
              refine lv_iload hx hb dX12_trains_226 (lv_at hl 6 rfl) ?_
              obtain ⟨σ41, e42, hf⟩ := mb0 hf
              refine mx_sI hx hb hK hJ e42 dX12_trains_228 (fun H locs hJ => ?_)
              refine lv_aload_n hx hb dX12_trains_229 rfl (lv_at hl 1 rfl) ?_
              obtain ⟨b43, e44, hf⟩ := mb0 hf
              refine my_gR hx hb hts hown hK hJ fd_RX12_153 hv_12_73 e44 dX12_trains_230 ?_
              refine lv_iconst (v := 4) hx hb dX12_trains_233 (by decide) ?_
              refine lv_aload_n hx hb dX12_trains_234 rfl (lv_at hl 1 rfl) ?_
              obtain ⟨x45, e46, hf⟩ := mb0 hf
              refine my_gI hx hb hts hown hK hJ fd_RX12_665 hv_12_72 e46 dX12_trains_235 ?_
              refine lv_imul hx hb dX12_trains_238 ?_
              refine lv_iconst (v := 1) hx hb dX12_trains_239 (by decide) ?_
              refine lv_iadd hx hb dX12_trains_240 ?_
              refine lv_iload hx hb dX12_trains_241 (lv_at hl 9 rfl) ?_
              obtain ⟨σ47, e48, hf⟩ := mb0 hf
              refine mx_sI hx hb hK hJ e48 dX12_trains_243 (fun H locs hJ => ?_)
              refine lv_aload_n hx hb dX12_trains_244 rfl (lv_at hl 1 rfl) ?_
              obtain ⟨b49, e50, hf⟩ := mb0 hf
              refine my_gR hx hb hts hown hK hJ fd_RX12_153 hv_12_73 e50 dX12_trains_245 ?_
              refine lv_iconst (v := 4) hx hb dX12_trains_248 (by decide) ?_
              refine lv_aload_n hx hb dX12_trains_249 rfl (lv_at hl 1 rfl) ?_
              obtain ⟨x51, e52, hf⟩ := mb0 hf
              refine my_gI hx hb hts hown hK hJ fd_RX12_665 hv_12_72 e52 dX12_trains_250 ?_
              refine lv_imul hx hb dX12_trains_253 ?_
              refine lv_iconst (v := 2) hx hb dX12_trains_254 (by decide) ?_
              refine lv_iadd hx hb dX12_trains_255 ?_
              refine lv_iload hx hb dX12_trains_256 (lv_at hl 7 rfl) ?_
              obtain ⟨σ53, e54, hf⟩ := mb0 hf
              refine mx_sI hx hb hK hJ e54 dX12_trains_258 (fun H locs hJ => ?_)
              refine lv_aload_n hx hb dX12_trains_259 rfl (lv_at hl 1 rfl) ?_
              obtain ⟨b55, e56, hf⟩ := mb0 hf
              refine my_gR hx hb hts hown hK hJ fd_RX12_153 hv_12_73 e56 dX12_trains_260 ?_
              refine lv_iconst (v := 4) hx hb dX12_trains_263 (by decide) ?_
              refine lv_aload_n hx hb dX12_trains_264 rfl (lv_at hl 1 rfl) ?_
              obtain ⟨x57, e58, hf⟩ := mb0 hf
              refine my_gI hx hb hts hown hK hJ fd_RX12_665 hv_12_72 e58 dX12_trains_265 ?_
              refine lv_imul hx hb dX12_trains_268 ?_
              refine lv_iconst (v := 3) hx hb dX12_trains_269 (by decide) ?_
              refine lv_iadd hx hb dX12_trains_270 ?_
              refine lv_lload hx hb dX12_trains_271 (lv_at hl 8 rfl) ?_
              refine lv_iload hx hb dX12_trains_273 (lv_at hl 9 rfl) ?_
              refine lv_i2l hx hb dX12_trains_275 rfl ?_
              obtain ⟨x59, e60, hf⟩ := mb0 hf
              refine lv_ldiv hx hb dX12_trains_276 (md_Ls e60).1 ?_
              refine mx_eL (md_Ls e60).2 ?_
              refine lv_l2i hx hb dX12_trains_277 rfl ?_
              obtain ⟨σ61, e62, hf⟩ := mb0 hf
              refine mx_sI hx hb hK hJ e62 dX12_trains_278 (fun H locs hJ => ?_)
              refine lv_aload_n hx hb dX12_trains_279 rfl (lv_at hl 1 rfl) ?_
              refine lv_dup hx hb dX12_trains_280 rfl ?_
              obtain ⟨x63, e64, hf⟩ := mb0 hf
              refine my_gI hx hb hts hown hK hJ fd_RX12_665 hv_12_72 e64 dX12_trains_281 ?_
              refine lv_iconst (v := 1) hx hb dX12_trains_284 (by decide) ?_
              refine lv_iadd hx hb dX12_trains_285 ?_
              obtain ⟨σ65, e66, hf⟩ := mb0 hf
              refine my_pI hx hb hts hown hK hJ fd_RX12_665 cd_12 (Or.inl rfl) ht_12_72 e66 dX12_trains_286 (fun H locs hJ => ?_)
              exact D289_153 v0 v1 v2 v3 v4 x32 v7 v8 v9 v11 σ65 o hf Kb Ke0 _ _ hJ ls (lv_sub hl [1, 2, 3, 4, 5, 0, 6, 7, 8, 9] rfl)
            · rw [if_pos c36] at hf
              refine lv_goto (tgt := 289) hx hb dX12_trains_213 (by decide) ?_
              exact D289_153 v0 v1 v2 v3 v4 x32 v7 v8 v9 v11 τ o hf Kb Ke0 _ _ hJ ls (lv_sub hl [1, 2, 3, 4, 5, 0, 6, 7, 8, 9] rfl)
          · rw [if_neg c31] at hf
            refine lv_goto (tgt := 289) hx hb dX12_trains_197 (by decide) ?_
            exact D289_153 v0 v1 v2 v3 v4 v6 v7 v8 v9 v11 τ o hf Kb Ke0 _ _ hJ ls (lv_sub hl [0, 1, 2, 3, 4, 5, 6, 7, 8, 9] rfl)
  have L153 : ∀ (v0 : Nat) (v1 : Int32) (v2 : Int32) (v3 : Int32) (v4 : Int32) (v7 : Int32) (v8 : Int32) (v9 : Int64) (n : Nat) (v6 : Int32) (v11 : Int32) (τ : mx_S) (o : (Int32 × mx_S)), mx_lp (f_X12_trains_L153 P v0 v1 v2 v3 v4 v7 v8 v9) n (v6, v11, τ) = some o → (∀ (y6 : Int32) (υ : mx_S), o = (y6, υ) → ∀ (H : Heap) (locs : List Loc), mx_J G P s.heap (mxz σ) (mxu σ) υ H locs → ∀ ls : Array Slot, lv_has ls 12 [(0, .ref v0), (1, .int v1), (2, .int v2), (3, .int v3), (4, .int v4), (6, .int y6), (7, .int v7), (8, .int v8)] → W p l e (mx_rm P 1 25 σ) s m ([.ref a0, .int p1, .int p2, .int p3, .int p4] : List Value).toArray below meth c H locs (mxz υ - mxz σ) (mxu υ - mxu σ) (mx_Z below G P (some (.int r)) σ σ' [.ref a0, .int p1, .int p2, .int p3, .int p4] s) (F0 m 295 ls [])) → ∀ (H : Heap) (locs : List Loc), mx_J G P s.heap (mxz σ) (mxu σ) τ H locs → ∀ ls : Array Slot, lv_has ls 12 [(0, .ref v0), (1, .int v1), (2, .int v2), (3, .int v3), (4, .int v4), (6, .int v6), (7, .int v7), (8, .int v8), (9, .long v9), (11, .int v11)] → W p l e (mx_rm P 1 25 σ) s m ([.ref a0, .int p1, .int p2, .int p3, .int p4] : List Value).toArray below meth c H locs (mxz τ - mxz σ) (mxu τ - mxu σ) (mx_Z below G P (some (.int r)) σ σ' [.ref a0, .int p1, .int p2, .int p3, .int p4] s) (F0 m 153 ls []) := by
    intro v0 v1 v2 v3 v4 v7 v8 v9 n
    induction n with
    | zero =>
      intro v6 v11 τ o hf
      rw [mx_lp0] at hf
      cases hf
    | succ n ih =>
      intro v6 v11 τ o hf Ke0 H locs hJ ls hl
      rw [mx_lpS] at hf
      obtain ⟨b, eb, hf⟩ := mb0 hf
      refine B153 v0 v1 v2 v3 v4 v7 v8 v9 v6 v11 τ b eb (fun y6 y11 υ ho H locs hJ ls hl => ?_) (fun y6 υ ho H locs hJ ls hl => ?_) H locs hJ ls hl
      · subst ho
        exact ih y6 y11 υ o hf Ke0 H locs hJ ls hl
      · subst ho
        exact Ke0 y6 υ (Option.some.inj hf).symm _ _ hJ ls hl
  have D295_111 : ∀ (v0 : Nat) (v1 : Int32) (v2 : Int32) (v3 : Int32) (v4 : Int32) (v6 : Int32) (v7 : Int32) (v8 : Int32) (τ : mx_S) (o : (Int32 × Int32 × mx_S) ⊕ ((Int32 × mx_S))), f_X12_trains_D295_111 P v0 v1 v2 v3 v4 v6 v7 v8 τ = some o → (∀ (y6 : Int32) (y8 : Int32) (υ : mx_S), o = .inl (y6, y8, υ) → ∀ (H : Heap) (locs : List Loc), mx_J G P s.heap (mxz σ) (mxu σ) υ H locs → ∀ ls : Array Slot, lv_has ls 12 [(0, .ref v0), (1, .int v1), (2, .int v2), (3, .int v3), (4, .int v4), (6, .int y6), (7, .int v7), (8, .int y8)] → W p l e (mx_rm P 1 25 σ) s m ([.ref a0, .int p1, .int p2, .int p3, .int p4] : List Value).toArray below meth c H locs (mxz υ - mxz σ) (mxu υ - mxu σ) (mx_Z below G P (some (.int r)) σ σ' [.ref a0, .int p1, .int p2, .int p3, .int p4] s) (F0 m 111 ls [])) → (∀ (y6 : Int32) (υ : mx_S), o = .inr (y6, υ) → ∀ (H : Heap) (locs : List Loc), mx_J G P s.heap (mxz σ) (mxu σ) υ H locs → ∀ ls : Array Slot, lv_has ls 12 [(0, .ref v0), (1, .int v1), (2, .int v2), (3, .int v3), (4, .int v4), (6, .int y6), (7, .int v7)] → W p l e (mx_rm P 1 25 σ) s m ([.ref a0, .int p1, .int p2, .int p3, .int p4] : List Value).toArray below meth c H locs (mxz υ - mxz σ) (mxu υ - mxu σ) (mx_Z below G P (some (.int r)) σ σ' [.ref a0, .int p1, .int p2, .int p3, .int p4] s) (F0 m 301 ls [])) → ∀ (H : Heap) (locs : List Loc), mx_J G P s.heap (mxz σ) (mxu σ) τ H locs → ∀ ls : Array Slot, lv_has ls 12 [(0, .ref v0), (1, .int v1), (2, .int v2), (3, .int v3), (4, .int v4), (6, .int v6), (7, .int v7), (8, .int v8)] → W p l e (mx_rm P 1 25 σ) s m ([.ref a0, .int p1, .int p2, .int p3, .int p4] : List Value).toArray below meth c H locs (mxz τ - mxz σ) (mxu τ - mxu σ) (mx_Z below G P (some (.int r)) σ σ' [.ref a0, .int p1, .int p2, .int p3, .int p4] s) (F0 m 295 ls []) := by
    intro v0 v1 v2 v3 v4 v6 v7 v8 τ o hf Kb Ke0 H locs hJ ls hl
    unfold f_X12_trains_D295_111 at hf
    obtain ⟨x71, e72, hf⟩ := mb0 hf
    refine lv_iinc (v := x71) (lv' := [(8, .int x71), (0, .ref v0), (1, .int v1), (2, .int v2), (3, .int v3), (4, .int v4), (6, .int v6), (7, .int v7)]) hx hb dX12_trains_295 hl (k := 7) rfl (by rw [← Option.some.inj e72]; rfl) (by decide) rfl (fun ls hl => ?_)
    refine lv_goto (tgt := 111) hx hb dX12_trains_298 (by decide) ?_
    exact Kb v6 x71 τ (Option.some.inj hf).symm _ _ hJ ls (lv_sub hl [1, 2, 3, 4, 5, 6, 7, 0] rfl)
  have B111 : ∀ (v0 : Nat) (v1 : Int32) (v2 : Int32) (v3 : Int32) (v4 : Int32) (v7 : Int32) (v6 : Int32) (v8 : Int32) (τ : mx_S) (o : (Int32 × Int32 × mx_S) ⊕ ((Int32 × mx_S))), f_X12_trains_B111 P v0 v1 v2 v3 v4 v7 v6 v8 τ = some o → (∀ (y6 : Int32) (y8 : Int32) (υ : mx_S), o = .inl (y6, y8, υ) → ∀ (H : Heap) (locs : List Loc), mx_J G P s.heap (mxz σ) (mxu σ) υ H locs → ∀ ls : Array Slot, lv_has ls 12 [(0, .ref v0), (1, .int v1), (2, .int v2), (3, .int v3), (4, .int v4), (6, .int y6), (7, .int v7), (8, .int y8)] → W p l e (mx_rm P 1 25 σ) s m ([.ref a0, .int p1, .int p2, .int p3, .int p4] : List Value).toArray below meth c H locs (mxz υ - mxz σ) (mxu υ - mxu σ) (mx_Z below G P (some (.int r)) σ σ' [.ref a0, .int p1, .int p2, .int p3, .int p4] s) (F0 m 111 ls [])) → (∀ (y6 : Int32) (υ : mx_S), o = .inr (y6, υ) → ∀ (H : Heap) (locs : List Loc), mx_J G P s.heap (mxz σ) (mxu σ) υ H locs → ∀ ls : Array Slot, lv_has ls 12 [(0, .ref v0), (1, .int v1), (2, .int v2), (3, .int v3), (4, .int v4), (6, .int y6), (7, .int v7)] → W p l e (mx_rm P 1 25 σ) s m ([.ref a0, .int p1, .int p2, .int p3, .int p4] : List Value).toArray below meth c H locs (mxz υ - mxz σ) (mxu υ - mxu σ) (mx_Z below G P (some (.int r)) σ σ' [.ref a0, .int p1, .int p2, .int p3, .int p4] s) (F0 m 301 ls [])) → ∀ (H : Heap) (locs : List Loc), mx_J G P s.heap (mxz σ) (mxu σ) τ H locs → ∀ ls : Array Slot, lv_has ls 12 [(0, .ref v0), (1, .int v1), (2, .int v2), (3, .int v3), (4, .int v4), (6, .int v6), (7, .int v7), (8, .int v8)] → W p l e (mx_rm P 1 25 σ) s m ([.ref a0, .int p1, .int p2, .int p3, .int p4] : List Value).toArray below meth c H locs (mxz τ - mxz σ) (mxu τ - mxu σ) (mx_Z below G P (some (.int r)) σ σ' [.ref a0, .int p1, .int p2, .int p3, .int p4] s) (F0 m 111 ls []) := by
    intro v0 v1 v2 v3 v4 v7 v6 v8 τ o hf Kb Ke0 H locs hJ ls hl
    unfold f_X12_trains_B111 at hf
    refine lv_iload hx hb dX12_trains_111 (lv_at hl 7 rfl) ?_
    refine lv_iload hx hb dX12_trains_113 (lv_at hl 4 rfl) ?_
    refine lv_icmp_gt (tgt := 301) hx hb dX12_trains_115 (by decide) (fun c14 => ?_) (fun c14 => ?_)
    · rw [if_pos c14] at hf
      exact Ke0 v6 τ (Option.some.inj hf).symm _ _ hJ ls (lv_sub hl [0, 1, 2, 3, 4, 5, 6] rfl)
    · rw [if_neg c14] at hf
      refine lv_iload hx hb dX12_trains_118 (lv_at hl 6 rfl) ?_
      refine lv_i2l hx hb dX12_trains_120 rfl ?_
      refine lv_iload hx hb dX12_trains_121 (lv_at hl 7 rfl) ?_
      refine lv_i2l hx hb dX12_trains_123 rfl ?_
      refine lv_lmul hx hb dX12_trains_124 ?_
      refine lv_iload_n hx hb dX12_trains_125 rfl (lv_at hl 2 rfl) ?_
      refine lv_i2l hx hb dX12_trains_126 rfl ?_
      refine lv_lmul hx hb dX12_trains_127 ?_
      obtain ⟨x15, e16, hf⟩ := mb0 hf
      refine mx_nL e16 ?_
      refine lv_lstore (lv' := [(9, .long x15), (0, .ref v0), (1, .int v1), (2, .int v2), (3, .int v3), (4, .int v4), (6, .int v6), (7, .int v7), (8, .int v8)]) hx hb dX12_trains_128 hl (by decide) rfl (fun ls hl => ?_)
      refine lv_lload hx hb dX12_trains_130 (lv_at hl 0 rfl) ?_
      refine lv_iload_n hx hb dX12_trains_132 rfl (lv_at hl 2 rfl) ?_
      refine lv_i2l hx hb dX12_trains_133 rfl ?_
      obtain ⟨x17, e18, hf⟩ := mb0 hf
      refine lv_lrem hx hb dX12_trains_134 (mm_Ls e18).1 ?_
      refine mx_eL (mm_Ls e18).2 ?_
      refine lv_lconst (v := 0) hx hb dX12_trains_135 (by decide) ?_
      refine W.lcmp hx hb dX12_trains_136 ?_
      refine lv_if_eq (tgt := 143) hx hb dX12_trains_137 (by decide) (fun c19 => ?_) (fun c19 => ?_)
      · rw [if_pos c19] at hf
        refine lv_lload hx hb dX12_trains_143 (lv_at hl 0 rfl) ?_
        refine lv_iload_n hx hb dX12_trains_145 rfl (lv_at hl 2 rfl) ?_
        refine lv_i2l hx hb dX12_trains_146 rfl ?_
        obtain ⟨x20, e21, hf⟩ := mb0 hf
        refine lv_ldiv hx hb dX12_trains_147 (md_Ls e21).1 ?_
        refine mx_eL (md_Ls e21).2 ?_
        refine lv_lstore (lv' := [(9, .long x20), (0, .ref v0), (1, .int v1), (2, .int v2), (3, .int v3), (4, .int v4), (6, .int v6), (7, .int v7), (8, .int v8)]) hx hb dX12_trains_148 hl (by decide) rfl (fun ls hl => ?_)
        refine lv_iload_n hx hb dX12_trains_150 rfl (lv_at hl 4 rfl) ?_
        refine lv_istore (lv' := [(11, .int v3), (9, .long x20), (0, .ref v0), (1, .int v1), (2, .int v2), (3, .int v3), (4, .int v4), (6, .int v6), (7, .int v7), (8, .int v8)]) hx hb dX12_trains_151 hl (by decide) rfl (fun ls hl => ?_)
        obtain ⟨o67, e68, hf⟩ := mb0 hf
        refine L153 v0 v1 v2 v3 v4 v7 v8 x20 (mpN P) v6 v3 τ o67 e68 (fun y69 σ70 ho H locs hJ ls hl => ?_) _ _ hJ ls (lv_sub hl [2, 3, 4, 5, 6, 7, 8, 9, 1, 0] rfl)
        · rw [ho] at hf
          have hf : (f_X12_trains_D295_111 P v0 v1 v2 v3 v4 y69 v7 v8 σ70) = some o := hf
          exact D295_111 v0 v1 v2 v3 v4 y69 v7 v8 σ70 o hf Kb Ke0 _ _ hJ ls (lv_sub hl [0, 1, 2, 3, 4, 5, 6, 7] rfl)
      · rw [if_neg c19] at hf
        refine lv_goto (tgt := 295) hx hb dX12_trains_140 (by decide) ?_
        exact D295_111 v0 v1 v2 v3 v4 v6 v7 v8 τ o hf Kb Ke0 _ _ hJ ls (lv_sub hl [1, 2, 3, 4, 5, 6, 7, 8] rfl)
  have L111 : ∀ (v0 : Nat) (v1 : Int32) (v2 : Int32) (v3 : Int32) (v4 : Int32) (v7 : Int32) (n : Nat) (v6 : Int32) (v8 : Int32) (τ : mx_S) (o : (Int32 × mx_S)), mx_lp (f_X12_trains_L111 P v0 v1 v2 v3 v4 v7) n (v6, v8, τ) = some o → (∀ (y6 : Int32) (υ : mx_S), o = (y6, υ) → ∀ (H : Heap) (locs : List Loc), mx_J G P s.heap (mxz σ) (mxu σ) υ H locs → ∀ ls : Array Slot, lv_has ls 12 [(0, .ref v0), (1, .int v1), (2, .int v2), (3, .int v3), (4, .int v4), (6, .int y6), (7, .int v7)] → W p l e (mx_rm P 1 25 σ) s m ([.ref a0, .int p1, .int p2, .int p3, .int p4] : List Value).toArray below meth c H locs (mxz υ - mxz σ) (mxu υ - mxu σ) (mx_Z below G P (some (.int r)) σ σ' [.ref a0, .int p1, .int p2, .int p3, .int p4] s) (F0 m 301 ls [])) → ∀ (H : Heap) (locs : List Loc), mx_J G P s.heap (mxz σ) (mxu σ) τ H locs → ∀ ls : Array Slot, lv_has ls 12 [(0, .ref v0), (1, .int v1), (2, .int v2), (3, .int v3), (4, .int v4), (6, .int v6), (7, .int v7), (8, .int v8)] → W p l e (mx_rm P 1 25 σ) s m ([.ref a0, .int p1, .int p2, .int p3, .int p4] : List Value).toArray below meth c H locs (mxz τ - mxz σ) (mxu τ - mxu σ) (mx_Z below G P (some (.int r)) σ σ' [.ref a0, .int p1, .int p2, .int p3, .int p4] s) (F0 m 111 ls []) := by
    intro v0 v1 v2 v3 v4 v7 n
    induction n with
    | zero =>
      intro v6 v8 τ o hf
      rw [mx_lp0] at hf
      cases hf
    | succ n ih =>
      intro v6 v8 τ o hf Ke0 H locs hJ ls hl
      rw [mx_lpS] at hf
      obtain ⟨b, eb, hf⟩ := mb0 hf
      refine B111 v0 v1 v2 v3 v4 v7 v6 v8 τ b eb (fun y6 y8 υ ho H locs hJ ls hl => ?_) (fun y6 υ ho H locs hJ ls hl => ?_) H locs hJ ls hl
      · subst ho
        exact ih y6 y8 υ o hf Ke0 H locs hJ ls hl
      · subst ho
        exact Ke0 y6 υ (Option.some.inj hf).symm _ _ hJ ls hl
  have B100 : ∀ (v0 : Nat) (v1 : Int32) (v2 : Int32) (v3 : Int32) (v4 : Int32) (v6 : Int32) (v7 : Int32) (τ : mx_S) (o : (Int32 × Int32 × mx_S) ⊕ ((Int32 × mx_S))), f_X12_trains_B100 P v0 v1 v2 v3 v4 v6 v7 τ = some o → (∀ (y6 : Int32) (y7 : Int32) (υ : mx_S), o = .inl (y6, y7, υ) → ∀ (H : Heap) (locs : List Loc), mx_J G P s.heap (mxz σ) (mxu σ) υ H locs → ∀ ls : Array Slot, lv_has ls 12 [(0, .ref v0), (1, .int v1), (2, .int v2), (3, .int v3), (4, .int v4), (6, .int y6), (7, .int y7)] → W p l e (mx_rm P 1 25 σ) s m ([.ref a0, .int p1, .int p2, .int p3, .int p4] : List Value).toArray below meth c H locs (mxz υ - mxz σ) (mxu υ - mxu σ) (mx_Z below G P (some (.int r)) σ σ' [.ref a0, .int p1, .int p2, .int p3, .int p4] s) (F0 m 100 ls [])) → (∀ (y6 : Int32) (υ : mx_S), o = .inr (y6, υ) → ∀ (H : Heap) (locs : List Loc), mx_J G P s.heap (mxz σ) (mxu σ) υ H locs → ∀ ls : Array Slot, lv_has ls 12 [(6, .int y6)] → W p l e (mx_rm P 1 25 σ) s m ([.ref a0, .int p1, .int p2, .int p3, .int p4] : List Value).toArray below meth c H locs (mxz υ - mxz σ) (mxu υ - mxu σ) (mx_Z below G P (some (.int r)) σ σ' [.ref a0, .int p1, .int p2, .int p3, .int p4] s) (F0 m 307 ls [])) → ∀ (H : Heap) (locs : List Loc), mx_J G P s.heap (mxz σ) (mxu σ) τ H locs → ∀ ls : Array Slot, lv_has ls 12 [(0, .ref v0), (1, .int v1), (2, .int v2), (3, .int v3), (4, .int v4), (6, .int v6), (7, .int v7)] → W p l e (mx_rm P 1 25 σ) s m ([.ref a0, .int p1, .int p2, .int p3, .int p4] : List Value).toArray below meth c H locs (mxz τ - mxz σ) (mxu τ - mxu σ) (mx_Z below G P (some (.int r)) σ σ' [.ref a0, .int p1, .int p2, .int p3, .int p4] s) (F0 m 100 ls []) := by
    intro v0 v1 v2 v3 v4 v6 v7 τ o hf Kb Ke0 H locs hJ ls hl
    unfold f_X12_trains_B100 at hf
    refine lv_iload hx hb dX12_trains_100 (lv_at hl 6 rfl) ?_
    refine lv_iload hx hb dX12_trains_102 (lv_at hl 4 rfl) ?_
    refine lv_icmp_gt (tgt := 307) hx hb dX12_trains_104 (by decide) (fun c13 => ?_) (fun c13 => ?_)
    · rw [if_pos c13] at hf
      exact Ke0 v6 τ (Option.some.inj hf).symm _ _ hJ ls (lv_sub hl [5] rfl)
    · rw [if_neg c13] at hf
      refine lv_iload hx hb dX12_trains_107 (lv_at hl 6 rfl) ?_
      refine lv_istore (lv' := [(8, .int v7), (0, .ref v0), (1, .int v1), (2, .int v2), (3, .int v3), (4, .int v4), (6, .int v6), (7, .int v7)]) hx hb dX12_trains_109 hl (by decide) rfl (fun ls hl => ?_)
      obtain ⟨o73, e74, hf⟩ := mb0 hf
      refine L111 v0 v1 v2 v3 v4 v7 (mpN P) v6 v7 τ o73 e74 (fun y75 σ76 ho H locs hJ ls hl => ?_) _ _ hJ ls (lv_sub hl [1, 2, 3, 4, 5, 6, 7, 0] rfl)
      · rw [ho] at hf
        have hf : ((some (v7 + (1 : Int32))).bind fun x77 => some (.inl (y75, x77, σ76))) = some o := hf
        obtain ⟨x77, e78, hf⟩ := mb0 hf
        refine lv_iinc (v := x77) (lv' := [(7, .int x77), (0, .ref v0), (1, .int v1), (2, .int v2), (3, .int v3), (4, .int v4), (6, .int y75)]) hx hb dX12_trains_301 hl (k := 6) rfl (by rw [← Option.some.inj e78]; rfl) (by decide) rfl (fun ls hl => ?_)
        refine lv_goto (tgt := 100) hx hb dX12_trains_304 (by decide) ?_
        exact Kb y75 x77 σ76 (Option.some.inj hf).symm _ _ hJ ls (lv_sub hl [1, 2, 3, 4, 5, 6, 0] rfl)
  have L100 : ∀ (v0 : Nat) (v1 : Int32) (v2 : Int32) (v3 : Int32) (v4 : Int32) (n : Nat) (v6 : Int32) (v7 : Int32) (τ : mx_S) (o : (Int32 × mx_S)), mx_lp (f_X12_trains_L100 P v0 v1 v2 v3 v4) n (v6, v7, τ) = some o → (∀ (y6 : Int32) (υ : mx_S), o = (y6, υ) → ∀ (H : Heap) (locs : List Loc), mx_J G P s.heap (mxz σ) (mxu σ) υ H locs → ∀ ls : Array Slot, lv_has ls 12 [(6, .int y6)] → W p l e (mx_rm P 1 25 σ) s m ([.ref a0, .int p1, .int p2, .int p3, .int p4] : List Value).toArray below meth c H locs (mxz υ - mxz σ) (mxu υ - mxu σ) (mx_Z below G P (some (.int r)) σ σ' [.ref a0, .int p1, .int p2, .int p3, .int p4] s) (F0 m 307 ls [])) → ∀ (H : Heap) (locs : List Loc), mx_J G P s.heap (mxz σ) (mxu σ) τ H locs → ∀ ls : Array Slot, lv_has ls 12 [(0, .ref v0), (1, .int v1), (2, .int v2), (3, .int v3), (4, .int v4), (6, .int v6), (7, .int v7)] → W p l e (mx_rm P 1 25 σ) s m ([.ref a0, .int p1, .int p2, .int p3, .int p4] : List Value).toArray below meth c H locs (mxz τ - mxz σ) (mxu τ - mxu σ) (mx_Z below G P (some (.int r)) σ σ' [.ref a0, .int p1, .int p2, .int p3, .int p4] s) (F0 m 100 ls []) := by
    intro v0 v1 v2 v3 v4 n
    induction n with
    | zero =>
      intro v6 v7 τ o hf
      rw [mx_lp0] at hf
      cases hf
    | succ n ih =>
      intro v6 v7 τ o hf Ke0 H locs hJ ls hl
      rw [mx_lpS] at hf
      obtain ⟨b, eb, hf⟩ := mb0 hf
      refine B100 v0 v1 v2 v3 v4 v6 v7 τ b eb (fun y6 y7 υ ho H locs hJ ls hl => ?_) (fun y6 υ ho H locs hJ ls hl => ?_) H locs hJ ls hl
      · subst ho
        exact ih y6 y7 υ o hf Ke0 H locs hJ ls hl
      · subst ho
        exact Ke0 y6 υ (Option.some.inj hf).symm _ _ hJ ls hl
  have D77 : ∀ (v0 : Nat) (v1 : Int32) (v2 : Int32) (v3 : Int32) (v4 : Int32) (w0 : Int32) (w1 : Nat) (τ : mx_S), f_X12_trains_D77 P v0 v1 v2 v3 v4 w0 w1 τ = some (r, σ') → ∀ (H : Heap) (locs : List Loc), mx_J G P s.heap (mxz σ) (mxu σ) τ H locs → ∀ ls : Array Slot, lv_has ls 12 [(0, .ref v0), (1, .int v1), (2, .int v2), (3, .int v3), (4, .int v4)] → W p l e (mx_rm P 1 25 σ) s m ([.ref a0, .int p1, .int p2, .int p3, .int p4] : List Value).toArray below meth c H locs (mxz τ - mxz σ) (mxu τ - mxu σ) (mx_Z below G P (some (.int r)) σ σ' [.ref a0, .int p1, .int p2, .int p3, .int p4] s) (F0 m 77 ls [.int w0, .ref w1]) := by
    intro v0 v1 v2 v3 v4 w0 w1 τ hf _ _ hJ ls hl
    unfold f_X12_trains_D77 at hf
    obtain ⟨σ6, e7, hf⟩ := mb0 hf
    refine my_pI hx hb hts hown hK hJ fd_RX12_243 cd_12 (Or.inl rfl) ht_12_0 e7 dX12_trains_77 (fun H locs hJ => ?_)
    refine lv_aload_n hx hb dX12_trains_80 rfl (lv_at hl 0 rfl) ?_
    obtain ⟨x8, e9, hf⟩ := mb0 hf
    refine my_gI hx hb hts hown hK hJ fd_RX12_243 hv_12_0 e9 dX12_trains_81 ?_
    refine lv_if_le (tgt := 89) hx hb dX12_trains_84 (by decide) (fun c10 => ?_) (fun c10 => ?_)
    · rw [if_pos c10] at hf
      refine lv_aload_n hx hb dX12_trains_89 rfl (lv_at hl 0 rfl) ?_
      refine lv_iconst (v := 0) hx hb dX12_trains_90 (by decide) ?_
      obtain ⟨σ11, e12, hf⟩ := mb0 hf
      refine my_pI hx hb hts hown hK hJ fd_RX12_665 cd_12 (Or.inl rfl) ht_12_72 e12 dX12_trains_91 (fun H locs hJ => ?_)
      refine lv_iconst (v := 0) hx hb dX12_trains_94 (by decide) ?_
      refine lv_istore (lv' := [(6, .int (0 : Int32)), (0, .ref v0), (1, .int v1), (2, .int v2), (3, .int v3), (4, .int v4)]) hx hb dX12_trains_95 hl (by decide) rfl (fun ls hl => ?_)
      refine lv_iload_n hx hb dX12_trains_97 rfl (lv_at hl 4 rfl) ?_
      refine lv_istore (lv' := [(7, .int v3), (6, .int (0 : Int32)), (0, .ref v0), (1, .int v1), (2, .int v2), (3, .int v3), (4, .int v4)]) hx hb dX12_trains_98 hl (by decide) rfl (fun ls hl => ?_)
      obtain ⟨o79, e80, hf⟩ := mb0 hf
      refine L100 v0 v1 v2 v3 v4 (mpN P) (0 : Int32) v3 σ11 o79 e80 (fun y81 σ82 ho H locs hJ ls hl => ?_) _ _ hJ ls (lv_sub hl [2, 3, 4, 5, 6, 1, 0] rfl)
      · rw [ho] at hf
        have hf : (some (y81, σ82)) = some (r, σ') := hf
        refine lv_iload hx hb dX12_trains_307 (lv_at hl 0 rfl) ?_
        exact my_iret hx hb hr hlocks hJ hf dX12_trains_309
    · rw [if_neg c10] at hf
      refine lv_iconst (v := 0) hx hb dX12_trains_87 (by decide) ?_
      exact my_iret hx hb hr hlocks hJ hf dX12_trains_88
  have D64 : ∀ (v0 : Nat) (v1 : Int32) (v2 : Int32) (v3 : Int32) (v4 : Int32) (w0 : Int32) (τ : mx_S), f_X12_trains_D64 P v0 v1 v2 v3 v4 w0 τ = some (r, σ') → ∀ (H : Heap) (locs : List Loc), mx_J G P s.heap (mxz σ) (mxu σ) τ H locs → ∀ ls : Array Slot, lv_has ls 12 [(0, .ref v0), (1, .int v1), (2, .int v2), (3, .int v3), (4, .int v4)] → W p l e (mx_rm P 1 25 σ) s m ([.ref a0, .int p1, .int p2, .int p3, .int p4] : List Value).toArray below meth c H locs (mxz τ - mxz σ) (mxu τ - mxu σ) (mx_Z below G P (some (.int r)) σ σ' [.ref a0, .int p1, .int p2, .int p3, .int p4] s) (F0 m 64 ls [.int w0]) := by
    intro v0 v1 v2 v3 v4 w0 τ hf _ _ hJ ls hl
    unfold f_X12_trains_D64 at hf
    refine lv_istore (lv' := [(5, .int w0), (0, .ref v0), (1, .int v1), (2, .int v2), (3, .int v3), (4, .int v4)]) hx hb dX12_trains_64 hl (by decide) rfl (fun ls hl => ?_)
    refine lv_aload_n hx hb dX12_trains_66 rfl (lv_at hl 1 rfl) ?_
    refine lv_iload hx hb dX12_trains_67 (lv_at hl 0 rfl) ?_
    refine lv_if_eq (tgt := 76) hx hb dX12_trains_69 (by decide) (fun c5 => ?_) (fun c5 => ?_)
    · rw [if_pos c5] at hf
      refine lv_iconst (v := 1) hx hb dX12_trains_76 (by decide) ?_
      exact D77 v0 v1 v2 v3 v4 (1 : Int32) v0 τ hf _ _ hJ ls (lv_sub hl [1, 2, 3, 4, 5] rfl)
    · rw [if_neg c5] at hf
      refine lv_iconst (v := 0) hx hb dX12_trains_72 (by decide) ?_
      refine lv_goto (tgt := 77) hx hb dX12_trains_73 (by decide) ?_
      exact D77 v0 v1 v2 v3 v4 (0 : Int32) v0 τ hf _ _ hJ ls (lv_sub hl [1, 2, 3, 4, 5] rfl)
  have D63 : ∀ (v0 : Nat) (v1 : Int32) (v2 : Int32) (v3 : Int32) (v4 : Int32) (τ : mx_S), f_X12_trains_D63 P v0 v1 v2 v3 v4 τ = some (r, σ') → ∀ (H : Heap) (locs : List Loc), mx_J G P s.heap (mxz σ) (mxu σ) τ H locs → ∀ ls : Array Slot, lv_has ls 12 [(0, .ref v0), (1, .int v1), (2, .int v2), (3, .int v3), (4, .int v4)] → W p l e (mx_rm P 1 25 σ) s m ([.ref a0, .int p1, .int p2, .int p3, .int p4] : List Value).toArray below meth c H locs (mxz τ - mxz σ) (mxu τ - mxu σ) (mx_Z below G P (some (.int r)) σ σ' [.ref a0, .int p1, .int p2, .int p3, .int p4] s) (F0 m 63 ls []) := by
    intro v0 v1 v2 v3 v4 τ hf _ _ hJ ls hl
    unfold f_X12_trains_D63 at hf
    refine lv_iconst (v := 0) hx hb dX12_trains_63 (by decide) ?_
    exact D64 v0 v1 v2 v3 v4 (0 : Int32) τ hf _ _ hJ ls (lv_sub hl [0, 1, 2, 3, 4] rfl)
  unfold f_X12_trains at hf
  refine lv_iload_n hx hb dX12_trains_0 rfl (lv_at hl 1 rfl) ?_
  refine lv_i2l hx hb dX12_trains_1 rfl ?_
  refine lv_lconst (v := 1) hx hb dX12_trains_2 (by decide) ?_
  refine lv_ldc2 hx hb hown (hts _ kw_2680) dX12_trains_3 ?_
  obtain ⟨x2, σ1, e3, hf⟩ := mc0 hf
  refine mx_callS (As := [.long (p1.toInt64), .long (1 : Int64), .long (10000 : Int64)]) (rest := []) hx hb hml hts hown hK hJ rfl rfl (c_X12_in l G P (p1.toInt64) (1 : Int64) (10000 : Int64) σ x2 σ1 e3) me_X12_in kw_2223 kw_2222 (Nat.le_of_ble_eq_true rfl) (Nat.le_of_ble_eq_true rfl) rfl hl.1 rfl (Nat.le_of_ble_eq_true rfl) dX12_trains_6 (fun H locs hJ => ?_)
  refine lv_if_eq (tgt := 63) hx hb dX12_trains_9 (by decide) (fun c4 => ?_) (fun c4 => ?_)
  · rw [if_pos c4] at hf
    exact D63 a0 p1 p2 p3 p4 σ1 hf _ _ hJ ls (lv_sub hl [0, 1, 2, 3, 4] rfl)
  · rw [if_neg c4] at hf
    refine lv_iload_n hx hb dX12_trains_12 rfl (lv_at hl 2 rfl) ?_
    refine lv_i2l hx hb dX12_trains_13 rfl ?_
    refine lv_lconst (v := 1) hx hb dX12_trains_14 (by decide) ?_
    refine lv_ldc2 hx hb hown (hts _ kw_2680) dX12_trains_15 ?_
    obtain ⟨x84, σ83, e85, hf⟩ := mc0 hf
    refine mx_callS (As := [.long (p2.toInt64), .long (1 : Int64), .long (10000 : Int64)]) (rest := []) hx hb hml hts hown hK hJ rfl rfl (c_X12_in l G P (p2.toInt64) (1 : Int64) (10000 : Int64) σ1 x84 σ83 e85) me_X12_in kw_2223 kw_2222 (Nat.le_of_ble_eq_true rfl) (Nat.le_of_ble_eq_true rfl) rfl hl.1 rfl (Nat.le_of_ble_eq_true rfl) dX12_trains_18 (fun H locs hJ => ?_)
    refine lv_if_eq (tgt := 63) hx hb dX12_trains_21 (by decide) (fun c86 => ?_) (fun c86 => ?_)
    · rw [if_pos c86] at hf
      exact D63 a0 p1 p2 p3 p4 σ83 hf _ _ hJ ls (lv_sub hl [0, 1, 2, 3, 4] rfl)
    · rw [if_neg c86] at hf
      refine lv_iload_n hx hb dX12_trains_24 rfl (lv_at hl 3 rfl) ?_
      refine lv_i2l hx hb dX12_trains_25 rfl ?_
      refine lv_ldc2 hx hb hown (hts _ kw_2595) dX12_trains_26 ?_
      refine lv_ldc2 hx hb hown (hts _ kw_2681) dX12_trains_29 ?_
      obtain ⟨x88, σ87, e89, hf⟩ := mc0 hf
      refine mx_callS (As := [.long (p3.toInt64), .long (4 : Int64), .long (120 : Int64)]) (rest := []) hx hb hml hts hown hK hJ rfl rfl (c_X12_in l G P (p3.toInt64) (4 : Int64) (120 : Int64) σ83 x88 σ87 e89) me_X12_in kw_2223 kw_2222 (Nat.le_of_ble_eq_true rfl) (Nat.le_of_ble_eq_true rfl) rfl hl.1 rfl (Nat.le_of_ble_eq_true rfl) dX12_trains_32 (fun H locs hJ => ?_)
      refine lv_if_eq (tgt := 63) hx hb dX12_trains_35 (by decide) (fun c90 => ?_) (fun c90 => ?_)
      · rw [if_pos c90] at hf
        exact D63 a0 p1 p2 p3 p4 σ87 hf _ _ hJ ls (lv_sub hl [0, 1, 2, 3, 4] rfl)
      · rw [if_neg c90] at hf
        refine lv_iload hx hb dX12_trains_38 (lv_at hl 4 rfl) ?_
        refine lv_i2l hx hb dX12_trains_40 rfl ?_
        refine lv_ldc2 hx hb hown (hts _ kw_2595) dX12_trains_41 ?_
        refine lv_ldc2 hx hb hown (hts _ kw_2681) dX12_trains_44 ?_
        obtain ⟨x92, σ91, e93, hf⟩ := mc0 hf
        refine mx_callS (As := [.long (p4.toInt64), .long (4 : Int64), .long (120 : Int64)]) (rest := []) hx hb hml hts hown hK hJ rfl rfl (c_X12_in l G P (p4.toInt64) (4 : Int64) (120 : Int64) σ87 x92 σ91 e93) me_X12_in kw_2223 kw_2222 (Nat.le_of_ble_eq_true rfl) (Nat.le_of_ble_eq_true rfl) rfl hl.1 rfl (Nat.le_of_ble_eq_true rfl) dX12_trains_47 (fun H locs hJ => ?_)
        refine lv_if_eq (tgt := 63) hx hb dX12_trains_50 (by decide) (fun c94 => ?_) (fun c94 => ?_)
        · rw [if_pos c94] at hf
          exact D63 a0 p1 p2 p3 p4 σ91 hf _ _ hJ ls (lv_sub hl [0, 1, 2, 3, 4] rfl)
        · rw [if_neg c94] at hf
          refine lv_iload_n hx hb dX12_trains_53 rfl (lv_at hl 3 rfl) ?_
          refine lv_iload hx hb dX12_trains_54 (lv_at hl 4 rfl) ?_
          refine lv_icmp_gt (tgt := 63) hx hb dX12_trains_56 (by decide) (fun c95 => ?_) (fun c95 => ?_)
          · rw [if_pos c95] at hf
            exact D63 a0 p1 p2 p3 p4 σ91 hf _ _ hJ ls (lv_sub hl [0, 1, 2, 3, 4] rfl)
          · rw [if_neg c95] at hf
            refine lv_iconst (v := 1) hx hb dX12_trains_59 (by decide) ?_
            refine lv_goto (tgt := 64) hx hb dX12_trains_60 (by decide) ?_
            exact D64 a0 p1 p2 p3 p4 (1 : Int32) σ91 hf _ _ hJ ls (lv_sub hl [0, 1, 2, 3, 4] rfl)
set_option maxHeartbeats 4000000 in
set_option maxRecDepth 100000 in
theorem c_X12_train (l : Launch) (G : mx_G) (P : mx_P) (a0 : Nat) (p1 : Int32) (p2 : Int32) (σ : mx_S) (r : Int32) (σ' : mx_S) (hf : f_X12_train P a0 p1 p2 σ = some (r, σ')) : mxz σ ≤ mpc P → mxu σ ≤ mps P → mx_M l yX12_train cX12_train 3 (some .int) 1 25 G P [.ref a0, .int p1, .int p2] σ (some (.int r)) σ' := by
  intro hcap hcau
  refine mx_ofW (by decide +kernel) hcap hcau (Nat.le_of_ble_eq_true rfl) ?_
  intro p e s m below meth c hx hb hr hml hts hown hlocks hname hK hJ ls hl
  have hz0 := hJ.2.1
  have hown : s.vm.findClass RX12 = some m.cls := hown
  have hl : lv_has ls 3 [(0, .ref a0), (1, .int p1), (2, .int p2)] := hl
  have D62 : ∀ (w0 : Int32) (τ : mx_S), f_X12_train_D62 P w0 τ = some (r, σ') → ∀ (H : Heap) (locs : List Loc), mx_J G P s.heap (mxz σ) (mxu σ) τ H locs → ∀ ls : Array Slot, lv_has ls 3 [] → W p l e (mx_rm P 1 25 σ) s m ([.ref a0, .int p1, .int p2] : List Value).toArray below meth c H locs (mxz τ - mxz σ) (mxu τ - mxu σ) (mx_Z below G P (some (.int r)) σ σ' [.ref a0, .int p1, .int p2] s) (F0 m 62 ls [.int w0]) := by
    intro w0 τ hf _ _ hJ ls hl
    unfold f_X12_train_D62 at hf
    exact my_iret hx hb hr hlocks hJ hf dX12_train_62
  have D38 : ∀ (v0 : Nat) (v1 : Int32) (v2 : Int32) (w0 : Int32) (w1 : Nat) (τ : mx_S), f_X12_train_D38 P v0 v1 v2 w0 w1 τ = some (r, σ') → ∀ (H : Heap) (locs : List Loc), mx_J G P s.heap (mxz σ) (mxu σ) τ H locs → ∀ ls : Array Slot, lv_has ls 3 [(0, .ref v0), (1, .int v1), (2, .int v2)] → W p l e (mx_rm P 1 25 σ) s m ([.ref a0, .int p1, .int p2] : List Value).toArray below meth c H locs (mxz τ - mxz σ) (mxu τ - mxu σ) (mx_Z below G P (some (.int r)) σ σ' [.ref a0, .int p1, .int p2] s) (F0 m 38 ls [.int w0, .ref w1]) := by
    intro v0 v1 v2 w0 w1 τ hf _ _ hJ ls hl
    unfold f_X12_train_D38 at hf
    obtain ⟨σ11, e12, hf⟩ := mb0 hf
    refine my_pI hx hb hts hown hK hJ fd_RX12_243 cd_12 (Or.inl rfl) ht_12_0 e12 dX12_train_38 (fun H locs hJ => ?_)
    refine lv_aload_n hx hb dX12_train_41 rfl (lv_at hl 0 rfl) ?_
    obtain ⟨x13, e14, hf⟩ := mb0 hf
    refine my_gI hx hb hts hown hK hJ fd_RX12_243 hv_12_0 e14 dX12_train_42 ?_
    refine lv_if_le (tgt := 52) hx hb dX12_train_45 (by decide) (fun c15 => ?_) (fun c15 => ?_)
    · rw [if_pos c15] at hf
      refine lv_aload_n hx hb dX12_train_52 rfl (lv_at hl 0 rfl) ?_
      obtain ⟨b16, e17, hf⟩ := mb0 hf
      refine my_gR hx hb hts hown hK hJ fd_RX12_153 hv_12_73 e17 dX12_train_53 ?_
      refine lv_iconst (v := 4) hx hb dX12_train_56 (by decide) ?_
      refine lv_iload_n hx hb dX12_train_57 rfl (lv_at hl 1 rfl) ?_
      refine lv_imul hx hb dX12_train_58 ?_
      refine lv_iload_n hx hb dX12_train_59 rfl (lv_at hl 2 rfl) ?_
      refine lv_iadd hx hb dX12_train_60 ?_
      obtain ⟨x18, e19, hf⟩ := mb0 hf
      refine mx_aI hx hb hK hJ e19 dX12_train_61 ?_
      exact D62 x18 σ11 hf _ _ hJ ls (lv_sub hl [] rfl)
    · rw [if_neg c15] at hf
      refine lv_iconst (v := 0) hx hb dX12_train_48 (by decide) ?_
      refine lv_goto (tgt := 62) hx hb dX12_train_49 (by decide) ?_
      exact D62 (0 : Int32) σ11 hf _ _ hJ ls (lv_sub hl [] rfl)
  unfold f_X12_train at hf
  refine lv_aload_n hx hb dX12_train_0 rfl (lv_at hl 0 rfl) ?_
  refine lv_iload_n hx hb dX12_train_1 rfl (lv_at hl 2 rfl) ?_
  refine lv_i2l hx hb dX12_train_2 rfl ?_
  refine lv_lconst (v := 0) hx hb dX12_train_3 (by decide) ?_
  refine lv_ldc2 hx hb hown (hts _ kw_2354) dX12_train_4 ?_
  obtain ⟨x2, σ1, e3, hf⟩ := mc0 hf
  refine mx_callS (As := [.long (p2.toInt64), .long (0 : Int64), .long (3 : Int64)]) (rest := [.ref a0]) hx hb hml hts hown hK hJ rfl rfl (c_X12_in l G P (p2.toInt64) (0 : Int64) (3 : Int64) σ x2 σ1 e3) me_X12_in kw_2223 kw_2222 (Nat.le_of_ble_eq_true rfl) (Nat.le_of_ble_eq_true rfl) rfl hl.1 rfl (Nat.le_of_ble_eq_true rfl) dX12_train_7 (fun H locs hJ => ?_)
  refine lv_if_ne (tgt := 17) hx hb dX12_train_10 (by decide) (fun c4 => ?_) (fun c4 => ?_)
  · rw [if_neg c4] at hf
    refine lv_iload_n hx hb dX12_train_17 rfl (lv_at hl 1 rfl) ?_
    refine lv_i2l hx hb dX12_train_18 rfl ?_
    refine lv_lconst (v := 0) hx hb dX12_train_19 (by decide) ?_
    refine lv_aload_n hx hb dX12_train_20 rfl (lv_at hl 0 rfl) ?_
    obtain ⟨x5, e6, hf⟩ := mb0 hf
    refine my_gI hx hb hts hown hK hJ fd_RX12_665 hv_12_72 e6 dX12_train_21 ?_
    refine lv_iconst (v := 1) hx hb dX12_train_24 (by decide) ?_
    refine lv_isub hx hb dX12_train_25 ?_
    refine lv_i2l hx hb dX12_train_26 rfl ?_
    obtain ⟨x8, σ7, e9, hf⟩ := mc0 hf
    refine mx_callS (As := [.long (p1.toInt64), .long (0 : Int64), .long ((x5 - (1 : Int32)).toInt64)]) (rest := [.ref a0]) hx hb hml hts hown hK hJ rfl rfl (c_X12_in l G P (p1.toInt64) (0 : Int64) ((x5 - (1 : Int32)).toInt64) σ1 x8 σ7 e9) me_X12_in kw_2223 kw_2222 (Nat.le_of_ble_eq_true rfl) (Nat.le_of_ble_eq_true rfl) rfl hl.1 rfl (Nat.le_of_ble_eq_true rfl) dX12_train_27 (fun H locs hJ => ?_)
    refine lv_if_eq (tgt := 37) hx hb dX12_train_30 (by decide) (fun c10 => ?_) (fun c10 => ?_)
    · rw [if_pos c10] at hf
      refine lv_iconst (v := 2) hx hb dX12_train_37 (by decide) ?_
      exact D38 a0 p1 p2 (2 : Int32) a0 σ7 hf _ _ hJ ls (lv_sub hl [0, 1, 2] rfl)
    · rw [if_neg c10] at hf
      refine lv_iconst (v := 0) hx hb dX12_train_33 (by decide) ?_
      refine lv_goto (tgt := 38) hx hb dX12_train_34 (by decide) ?_
      exact D38 a0 p1 p2 (0 : Int32) a0 σ7 hf _ _ hJ ls (lv_sub hl [0, 1, 2] rfl)
  · rw [if_pos c4] at hf
    refine lv_iconst (v := 1) hx hb dX12_train_13 (by decide) ?_
    refine lv_goto (tgt := 38) hx hb dX12_train_14 (by decide) ?_
    exact D38 a0 p1 p2 (1 : Int32) a0 σ1 hf _ _ hJ ls (lv_sub hl [0, 1, 2] rfl)
set_option maxHeartbeats 4000000 in
set_option maxRecDepth 100000 in
theorem c_X12_camStatement (l : Launch) (G : mx_G) (P : mx_P) (a0 : Nat) (σ : mx_S) (σ' : mx_S) (hf : f_X12_camStatement P a0 σ = some σ') : mxz σ ≤ mpc P → mxu σ ≤ mps P → mx_M l yX12_camStatement cX12_camStatement 3 none 5 116 G P [.ref a0] σ none σ' := by
  intro hcap hcau
  refine mx_ofW (by decide +kernel) hcap hcau (Nat.le_of_ble_eq_true rfl) ?_
  intro p e s m below meth c hx hb hr hml hts hown hlocks hname hK hJ ls hl
  have hz0 := hJ.2.1
  have hown : s.vm.findClass RX12 = some m.cls := hown
  have hl : lv_has ls 3 [(0, .ref a0)] := hl
  have D299 : ∀  (τ : mx_S), f_X12_camStatement_D299 P  τ = some σ' → ∀ (H : Heap) (locs : List Loc), mx_J G P s.heap (mxz σ) (mxu σ) τ H locs → ∀ ls : Array Slot, lv_has ls 3 [] → W p l e (mx_rm P 5 116 σ) s m ([.ref a0] : List Value).toArray below meth c H locs (mxz τ - mxz σ) (mxu τ - mxu σ) (mx_Z below G P none σ σ' [.ref a0] s) (F0 m 299 ls []) := by
    intro  τ hf _ _ hJ ls hl
    unfold f_X12_camStatement_D299 at hf
    exact my_vret hx hb hr hlocks hJ hf dX12_camStatement_299
  have D274 : ∀ (v0 : Nat) (v2 : Int32) (τ : mx_S), f_X12_camStatement_D274 P v0 v2 τ = some σ' → ∀ (H : Heap) (locs : List Loc), mx_J G P s.heap (mxz σ) (mxu σ) τ H locs → ∀ ls : Array Slot, lv_has ls 3 [(0, .ref v0), (2, .int v2)] → W p l e (mx_rm P 5 116 σ) s m ([.ref a0] : List Value).toArray below meth c H locs (mxz τ - mxz σ) (mxu τ - mxu σ) (mx_Z below G P none σ σ' [.ref a0] s) (F0 m 274 ls []) := by
    intro v0 v2 τ hf _ _ hJ ls hl
    unfold f_X12_camStatement_D274 at hf
    refine lv_aload_n hx hb dX12_camStatement_274 rfl (lv_at hl 0 rfl) ?_
    obtain ⟨i46, e47, hf⟩ := mb0 hf
    obtain ⟨σ48, e49, hf⟩ := mb0 hf
    refine mx_callV (As := []) (rest := []) hx hb hml hts hown hK hJ rfl rfl (ci := 12) rfl e47 (c_X12_ends l G P v0 τ σ48 e49) me_X12_ends kw_2328 ks_98 kw_2326 (Nat.le_of_ble_eq_true rfl) (Nat.le_of_ble_eq_true rfl) rfl hl.1 rfl (Nat.le_of_ble_eq_true rfl) dX12_camStatement_275 (fun H locs hJ => ?_)
    refine lv_aload_n hx hb dX12_camStatement_278 rfl (lv_at hl 0 rfl) ?_
    obtain ⟨x50, e51, hf⟩ := mb0 hf
    refine my_gI hx hb hts hown hK hJ fd_RX12_266 hv_12_4 e51 dX12_camStatement_279 ?_
    refine lv_if_ne (tgt := 299) hx hb dX12_camStatement_282 (by decide) (fun c52 => ?_) (fun c52 => ?_)
    · rw [if_neg c52] at hf
      exact D299  σ48 hf _ _ hJ ls (lv_sub hl [] rfl)
    · rw [if_pos c52] at hf
      refine lv_iload_n hx hb dX12_camStatement_285 rfl (lv_at hl 1 rfl) ?_
      refine lv_if_lt (tgt := 299) hx hb dX12_camStatement_286 (by decide) (fun c53 => ?_) (fun c53 => ?_)
      · rw [if_pos c53] at hf
        exact D299  σ48 hf _ _ hJ ls (lv_sub hl [] rfl)
      · rw [if_neg c53] at hf
        refine lv_aload_n hx hb dX12_camStatement_289 rfl (lv_at hl 0 rfl) ?_
        refine lv_dup hx hb dX12_camStatement_290 rfl ?_
        obtain ⟨x54, e55, hf⟩ := mb0 hf
        refine my_gI hx hb hts hown hK hJ fd_RX12_674 hv_12_80 e55 dX12_camStatement_291 ?_
        refine lv_iconst (v := 1) hx hb dX12_camStatement_294 (by decide) ?_
        refine lv_iadd hx hb dX12_camStatement_295 ?_
        obtain ⟨σ56, e57, hf⟩ := mb0 hf
        refine my_pI hx hb hts hown hK hJ fd_RX12_674 cd_12 (Or.inl rfl) ht_12_80 e57 dX12_camStatement_296 (fun H locs hJ => ?_)
        exact D299  σ56 hf _ _ hJ ls (lv_sub hl [] rfl)
  have D270 : ∀ (v0 : Nat) (v2 : Int32) (τ : mx_S), f_X12_camStatement_D270 P v0 v2 τ = some σ' → ∀ (H : Heap) (locs : List Loc), mx_J G P s.heap (mxz σ) (mxu σ) τ H locs → ∀ ls : Array Slot, lv_has ls 3 [(0, .ref v0), (2, .int v2)] → W p l e (mx_rm P 5 116 σ) s m ([.ref a0] : List Value).toArray below meth c H locs (mxz τ - mxz σ) (mxu τ - mxu σ) (mx_Z below G P none σ σ' [.ref a0] s) (F0 m 270 ls []) := by
    intro v0 v2 τ hf _ _ hJ ls hl
    unfold f_X12_camStatement_D270 at hf
    refine lv_aload_n hx hb dX12_camStatement_270 rfl (lv_at hl 0 rfl) ?_
    obtain ⟨i89, e90, hf⟩ := mb0 hf
    obtain ⟨σ91, e92, hf⟩ := mb0 hf
    refine mx_callV (As := []) (rest := []) hx hb hml hts hown hK hJ rfl rfl (ci := 12) rfl e90 (c_X12_scan l G P v0 τ σ91 e92) me_X12_scan kw_2243 ks_82 kw_2241 (Nat.le_of_ble_eq_true rfl) (Nat.le_of_ble_eq_true rfl) rfl hl.1 rfl (Nat.le_of_ble_eq_true rfl) dX12_camStatement_271 (fun H locs hJ => ?_)
    exact D274 v0 v2 σ91 hf _ _ hJ ls (lv_sub hl [0, 1] rfl)
  have D234 : ∀ (v0 : Nat) (v2 : Int32) (τ : mx_S), f_X12_camStatement_D234 P v0 v2 τ = some σ' → ∀ (H : Heap) (locs : List Loc), mx_J G P s.heap (mxz σ) (mxu σ) τ H locs → ∀ ls : Array Slot, lv_has ls 3 [(0, .ref v0), (2, .int v2)] → W p l e (mx_rm P 5 116 σ) s m ([.ref a0] : List Value).toArray below meth c H locs (mxz τ - mxz σ) (mxu τ - mxu σ) (mx_Z below G P none σ σ' [.ref a0] s) (F0 m 234 ls []) := by
    intro v0 v2 τ hf _ _ hJ ls hl
    unfold f_X12_camStatement_D234 at hf
    refine lv_aload_n hx hb dX12_camStatement_234 rfl (lv_at hl 0 rfl) ?_
    obtain ⟨i74, e75, hf⟩ := mb0 hf
    obtain ⟨σ76, e77, hf⟩ := mb0 hf
    refine mx_callV (As := []) (rest := []) hx hb hml hts hown hK hJ rfl rfl (ci := 12) rfl e75 (c_X12_scan l G P v0 τ σ76 e77) me_X12_scan kw_2243 ks_82 kw_2241 (Nat.le_of_ble_eq_true rfl) (Nat.le_of_ble_eq_true rfl) rfl hl.1 rfl (Nat.le_of_ble_eq_true rfl) dX12_camStatement_235 (fun H locs hJ => ?_)
    refine lv_aload_n hx hb dX12_camStatement_238 rfl (lv_at hl 0 rfl) ?_
    refine lv_iconst (v := 2) hx hb dX12_camStatement_239 (by decide) ?_
    obtain ⟨i78, e79, hf⟩ := mb0 hf
    obtain ⟨x81, σ80, e82, hf⟩ := mc0 hf
    refine mx_callV (As := [.int (2 : Int32)]) (rest := []) hx hb hml hts hown hK hJ rfl rfl (ci := 12) rfl e79 (c_X12_takes l G P v0 (2 : Int32) σ76 x81 σ80 e82) me_X12_takes kw_2291 ks_89 kw_2289 (Nat.le_of_ble_eq_true rfl) (Nat.le_of_ble_eq_true rfl) rfl hl.1 rfl (Nat.le_of_ble_eq_true rfl) dX12_camStatement_240 (fun H locs hJ => ?_)
    refine lv_if_ne (tgt := 247) hx hb dX12_camStatement_243 (by decide) (fun c83 => ?_) (fun c83 => ?_)
    · rw [if_neg c83] at hf
      refine lv_aload_n hx hb dX12_camStatement_247 rfl (lv_at hl 0 rfl) ?_
      refine lv_lconst (v := 1) hx hb dX12_camStatement_248 (by decide) ?_
      refine lv_ldc2 hx hb hown (hts _ kw_2595) dX12_camStatement_249 ?_
      obtain ⟨i84, e85, hf⟩ := mb0 hf
      obtain ⟨σ86, e87, hf⟩ := mb0 hf
      refine mx_callV (As := [.long (1 : Int64), .long (4 : Int64)]) (rest := []) hx hb hml hts hown hK hJ rfl rfl (ci := 12) rfl e85 (c_X12_wholeNumber l G P v0 (1 : Int64) (4 : Int64) σ80 σ86 e87) me_X12_wholeNumber kw_2320 ks_96 kw_2318 (Nat.le_of_ble_eq_true rfl) (Nat.le_of_ble_eq_true rfl) rfl hl.1 rfl (Nat.le_of_ble_eq_true rfl) dX12_camStatement_252 (fun H locs hJ => ?_)
      refine lv_iload_n hx hb dX12_camStatement_255 rfl (lv_at hl 1 rfl) ?_
      refine lv_if_lt (tgt := 270) hx hb dX12_camStatement_256 (by decide) (fun c88 => ?_) (fun c88 => ?_)
      · rw [if_pos c88] at hf
        exact D270 v0 v2 σ86 hf _ _ hJ ls (lv_sub hl [0, 1] rfl)
      · rw [if_neg c88] at hf
        refine lv_aload_n hx hb dX12_camStatement_259 rfl (lv_at hl 0 rfl) ?_
        obtain ⟨b93, e94, hf⟩ := mb0 hf
        refine my_gR hx hb hts hown hK hJ fd_RX12_183 hv_12_85 e94 dX12_camStatement_260 ?_
        refine lv_iload_n hx hb dX12_camStatement_263 rfl (lv_at hl 1 rfl) ?_
        refine lv_aload_n hx hb dX12_camStatement_264 rfl (lv_at hl 0 rfl) ?_
        obtain ⟨x95, e96, hf⟩ := mb0 hf
        refine my_gL hx hb hts hown hK hJ fd_RX12_353 hv_12_17 e96 dX12_camStatement_265 ?_
        refine lv_l2i hx hb dX12_camStatement_268 rfl ?_
        obtain ⟨σ97, e98, hf⟩ := mb0 hf
        refine mx_sI hx hb hK hJ e98 dX12_camStatement_269 (fun H locs hJ => ?_)
        exact D270 v0 v2 σ97 hf _ _ hJ ls (lv_sub hl [0, 1] rfl)
    · rw [if_pos c83] at hf
      exact my_vret hx hb hr hlocks hJ hf dX12_camStatement_246
  have D210 : ∀ (v0 : Nat) (v2 : Int32) (τ : mx_S), f_X12_camStatement_D210 P v0 v2 τ = some σ' → ∀ (H : Heap) (locs : List Loc), mx_J G P s.heap (mxz σ) (mxu σ) τ H locs → ∀ ls : Array Slot, lv_has ls 3 [(0, .ref v0), (2, .int v2)] → W p l e (mx_rm P 5 116 σ) s m ([.ref a0] : List Value).toArray below meth c H locs (mxz τ - mxz σ) (mxu τ - mxu σ) (mx_Z below G P none σ σ' [.ref a0] s) (F0 m 210 ls []) := by
    intro v0 v2 τ hf _ _ hJ ls hl
    unfold f_X12_camStatement_D210 at hf
    refine lv_iload_n hx hb dX12_camStatement_210 rfl (lv_at hl 1 rfl) ?_
    refine lv_if_lt (tgt := 234) hx hb dX12_camStatement_211 (by decide) (fun c73 => ?_) (fun c73 => ?_)
    · rw [if_pos c73] at hf
      exact D234 v0 v2 τ hf _ _ hJ ls (lv_sub hl [0, 1] rfl)
    · rw [if_neg c73] at hf
      refine lv_aload_n hx hb dX12_camStatement_214 rfl (lv_at hl 0 rfl) ?_
      obtain ⟨b99, e100, hf⟩ := mb0 hf
      refine my_gR hx hb hts hown hK hJ fd_RX12_177 hv_12_83 e100 dX12_camStatement_215 ?_
      refine lv_iload_n hx hb dX12_camStatement_218 rfl (lv_at hl 1 rfl) ?_
      refine lv_aload_n hx hb dX12_camStatement_219 rfl (lv_at hl 0 rfl) ?_
      obtain ⟨x101, e102, hf⟩ := mb0 hf
      refine my_gL hx hb hts hown hK hJ fd_RX12_353 hv_12_17 e102 dX12_camStatement_220 ?_
      obtain ⟨σ103, e104, hf⟩ := mb0 hf
      refine mx_sL hx hb hK hJ e104 dX12_camStatement_223 (fun H locs hJ => ?_)
      refine lv_aload_n hx hb dX12_camStatement_224 rfl (lv_at hl 0 rfl) ?_
      obtain ⟨b105, e106, hf⟩ := mb0 hf
      refine my_gR hx hb hts hown hK hJ fd_RX12_180 hv_12_84 e106 dX12_camStatement_225 ?_
      refine lv_iload_n hx hb dX12_camStatement_228 rfl (lv_at hl 1 rfl) ?_
      refine lv_aload_n hx hb dX12_camStatement_229 rfl (lv_at hl 0 rfl) ?_
      obtain ⟨x107, e108, hf⟩ := mb0 hf
      refine my_gL hx hb hts hown hK hJ fd_RX12_356 hv_12_18 e108 dX12_camStatement_230 ?_
      obtain ⟨σ109, e110, hf⟩ := mb0 hf
      refine mx_sL hx hb hK hJ e110 dX12_camStatement_233 (fun H locs hJ => ?_)
      exact D234 v0 v2 σ109 hf _ _ hJ ls (lv_sub hl [0, 1] rfl)
  have D201 : ∀ (v0 : Nat) (v2 : Int32) (τ : mx_S), f_X12_camStatement_D201 P v0 v2 τ = some σ' → ∀ (H : Heap) (locs : List Loc), mx_J G P s.heap (mxz σ) (mxu σ) τ H locs → ∀ ls : Array Slot, lv_has ls 3 [(0, .ref v0), (2, .int v2)] → W p l e (mx_rm P 5 116 σ) s m ([.ref a0] : List Value).toArray below meth c H locs (mxz τ - mxz σ) (mxu τ - mxu σ) (mx_Z below G P none σ σ' [.ref a0] s) (F0 m 201 ls []) := by
    intro v0 v2 τ hf _ _ hJ ls hl
    unfold f_X12_camStatement_D201 at hf
    refine lv_aload_n hx hb dX12_camStatement_201 rfl (lv_at hl 0 rfl) ?_
    refine lv_iconst (v := 5) hx hb dX12_camStatement_202 (by decide) ?_
    refine lv_aload_n hx hb dX12_camStatement_203 rfl (lv_at hl 0 rfl) ?_
    obtain ⟨x67, e68, hf⟩ := mb0 hf
    refine my_gI hx hb hts hown hK hJ fd_RX12_337 hv_12_16 e68 dX12_camStatement_204 ?_
    obtain ⟨i69, e70, hf⟩ := mb0 hf
    obtain ⟨σ71, e72, hf⟩ := mb0 hf
    refine mx_callV (As := [.int (5 : Int32), .int x67]) (rest := []) hx hb hml hts hown hK hJ rfl rfl (ci := 12) rfl e70 (c_X12_found l G P v0 (5 : Int32) x67 τ σ71 e72) me_X12_found kw_2299 ks_91 kw_2297 (Nat.le_of_ble_eq_true rfl) (Nat.le_of_ble_eq_true rfl) rfl hl.1 rfl (Nat.le_of_ble_eq_true rfl) dX12_camStatement_207 (fun H locs hJ => ?_)
    exact D210 v0 v2 σ71 hf _ _ hJ ls (lv_sub hl [0, 1] rfl)
  have D159 : ∀ (v0 : Nat) (v1 : Int32) (v2 : Int32) (τ : mx_S), f_X12_camStatement_D159 P v0 v1 v2 τ = some σ' → ∀ (H : Heap) (locs : List Loc), mx_J G P s.heap (mxz σ) (mxu σ) τ H locs → ∀ ls : Array Slot, lv_has ls 3 [(0, .ref v0), (1, .int v1), (2, .int v2)] → W p l e (mx_rm P 5 116 σ) s m ([.ref a0] : List Value).toArray below meth c H locs (mxz τ - mxz σ) (mxu τ - mxu σ) (mx_Z below G P none σ σ' [.ref a0] s) (F0 m 159 ls []) := by
    intro v0 v1 v2 τ hf _ _ hJ ls hl
    unfold f_X12_camStatement_D159 at hf
    refine lv_aload_n hx hb dX12_camStatement_159 rfl (lv_at hl 0 rfl) ?_
    obtain ⟨i41, e42, hf⟩ := mb0 hf
    obtain ⟨σ43, e44, hf⟩ := mb0 hf
    refine mx_callV (As := []) (rest := []) hx hb hml hts hown hK hJ rfl rfl (ci := 12) rfl e42 (c_X12_scan l G P v0 τ σ43 e44) me_X12_scan kw_2243 ks_82 kw_2241 (Nat.le_of_ble_eq_true rfl) (Nat.le_of_ble_eq_true rfl) rfl hl.1 rfl (Nat.le_of_ble_eq_true rfl) dX12_camStatement_160 (fun H locs hJ => ?_)
    refine lv_iload_n hx hb dX12_camStatement_163 rfl (lv_at hl 1 rfl) ?_
    refine lv_if_le (tgt := 274) hx hb dX12_camStatement_164 (by decide) (fun c45 => ?_) (fun c45 => ?_)
    · rw [if_pos c45] at hf
      exact D274 v0 v2 σ43 hf _ _ hJ ls (lv_sub hl [0, 2] rfl)
    · rw [if_neg c45] at hf
      refine lv_aload_n hx hb dX12_camStatement_167 rfl (lv_at hl 0 rfl) ?_
      refine lv_iconst (v := 2) hx hb dX12_camStatement_168 (by decide) ?_
      obtain ⟨i58, e59, hf⟩ := mb0 hf
      obtain ⟨x61, σ60, e62, hf⟩ := mc0 hf
      refine mx_callV (As := [.int (2 : Int32)]) (rest := []) hx hb hml hts hown hK hJ rfl rfl (ci := 12) rfl e59 (c_X12_takes l G P v0 (2 : Int32) σ43 x61 σ60 e62) me_X12_takes kw_2291 ks_89 kw_2289 (Nat.le_of_ble_eq_true rfl) (Nat.le_of_ble_eq_true rfl) rfl hl.1 rfl (Nat.le_of_ble_eq_true rfl) dX12_camStatement_169 (fun H locs hJ => ?_)
      refine lv_if_ne (tgt := 176) hx hb dX12_camStatement_172 (by decide) (fun c63 => ?_) (fun c63 => ?_)
      · rw [if_neg c63] at hf
        refine lv_aload_n hx hb dX12_camStatement_176 rfl (lv_at hl 0 rfl) ?_
        obtain ⟨x64, e65, hf⟩ := mb0 hf
        refine my_gL hx hb hts hown hK hJ fd_RX12_353 hv_12_17 e65 dX12_camStatement_177 ?_
        refine lv_lconst (v := 0) hx hb dX12_camStatement_180 (by decide) ?_
        refine W.lcmp hx hb dX12_camStatement_181 ?_
        refine lv_if_le (tgt := 201) hx hb dX12_camStatement_182 (by decide) (fun c66 => ?_) (fun c66 => ?_)
        · rw [if_pos c66] at hf
          exact D201 v0 v2 σ60 hf _ _ hJ ls (lv_sub hl [0, 2] rfl)
        · rw [if_neg c66] at hf
          refine lv_aload_n hx hb dX12_camStatement_185 rfl (lv_at hl 0 rfl) ?_
          obtain ⟨x111, e112, hf⟩ := mb0 hf
          refine my_gL hx hb hts hown hK hJ fd_RX12_353 hv_12_17 e112 dX12_camStatement_186 ?_
          refine lv_ldc2 hx hb hown (hts _ kw_2313) dX12_camStatement_189 ?_
          refine lv_aload_n hx hb dX12_camStatement_192 rfl (lv_at hl 0 rfl) ?_
          obtain ⟨x113, e114, hf⟩ := mb0 hf
          refine my_gL hx hb hts hown hK hJ fd_RX12_356 hv_12_18 e114 dX12_camStatement_193 ?_
          refine lv_lmul hx hb dX12_camStatement_196 ?_
          refine W.lcmp hx hb dX12_camStatement_197 ?_
          refine lv_if_le (tgt := 210) hx hb dX12_camStatement_198 (by decide) (fun c115 => ?_) (fun c115 => ?_)
          · rw [if_pos c115] at hf
            exact D210 v0 v2 σ60 hf _ _ hJ ls (lv_sub hl [0, 2] rfl)
          · rw [if_neg c115] at hf
            exact D201 v0 v2 σ60 hf _ _ hJ ls (lv_sub hl [0, 2] rfl)
      · rw [if_pos c63] at hf
        exact my_vret hx hb hr hlocks hJ hf dX12_camStatement_175
  have D94 : ∀ (v0 : Nat) (v1 : Int32) (w0 : Int32) (τ : mx_S), f_X12_camStatement_D94 P v0 v1 w0 τ = some σ' → ∀ (H : Heap) (locs : List Loc), mx_J G P s.heap (mxz σ) (mxu σ) τ H locs → ∀ ls : Array Slot, lv_has ls 3 [(0, .ref v0), (1, .int v1)] → W p l e (mx_rm P 5 116 σ) s m ([.ref a0] : List Value).toArray below meth c H locs (mxz τ - mxz σ) (mxu τ - mxu σ) (mx_Z below G P none σ σ' [.ref a0] s) (F0 m 94 ls [.int w0]) := by
    intro v0 v1 w0 τ hf _ _ hJ ls hl
    unfold f_X12_camStatement_D94 at hf
    refine lv_istore_n (lv' := [(2, .int w0), (0, .ref v0), (1, .int v1)]) hx hb dX12_camStatement_94 rfl hl (by decide) rfl (fun ls hl => ?_)
    refine lv_aload_n hx hb dX12_camStatement_95 rfl (lv_at hl 1 rfl) ?_
    obtain ⟨i26, e27, hf⟩ := mb0 hf
    obtain ⟨σ28, e29, hf⟩ := mb0 hf
    refine mx_callV (As := []) (rest := []) hx hb hml hts hown hK hJ rfl rfl (ci := 12) rfl e27 (c_X12_scan l G P v0 τ σ28 e29) me_X12_scan kw_2243 ks_82 kw_2241 (Nat.le_of_ble_eq_true rfl) (Nat.le_of_ble_eq_true rfl) rfl hl.1 rfl (Nat.le_of_ble_eq_true rfl) dX12_camStatement_96 (fun H locs hJ => ?_)
    refine lv_aload_n hx hb dX12_camStatement_99 rfl (lv_at hl 1 rfl) ?_
    refine lv_iconst (v := 2) hx hb dX12_camStatement_100 (by decide) ?_
    obtain ⟨i30, e31, hf⟩ := mb0 hf
    obtain ⟨x33, σ32, e34, hf⟩ := mc0 hf
    refine mx_callV (As := [.int (2 : Int32)]) (rest := []) hx hb hml hts hown hK hJ rfl rfl (ci := 12) rfl e31 (c_X12_takes l G P v0 (2 : Int32) σ28 x33 σ32 e34) me_X12_takes kw_2291 ks_89 kw_2289 (Nat.le_of_ble_eq_true rfl) (Nat.le_of_ble_eq_true rfl) rfl hl.1 rfl (Nat.le_of_ble_eq_true rfl) dX12_camStatement_101 (fun H locs hJ => ?_)
    refine lv_if_ne (tgt := 108) hx hb dX12_camStatement_104 (by decide) (fun c35 => ?_) (fun c35 => ?_)
    · rw [if_neg c35] at hf
      refine lv_aload_n hx hb dX12_camStatement_108 rfl (lv_at hl 1 rfl) ?_
      refine lv_lconst (v := 1) hx hb dX12_camStatement_109 (by decide) ?_
      refine lv_ldc2 hx hb hown (hts _ kw_2697) dX12_camStatement_110 ?_
      obtain ⟨i36, e37, hf⟩ := mb0 hf
      obtain ⟨σ38, e39, hf⟩ := mb0 hf
      refine mx_callV (As := [.long (1 : Int64), .long (360 : Int64)]) (rest := []) hx hb hml hts hown hK hJ rfl rfl (ci := 12) rfl e37 (c_X12_wholeNumber l G P v0 (1 : Int64) (360 : Int64) σ32 σ38 e39) me_X12_wholeNumber kw_2320 ks_96 kw_2318 (Nat.le_of_ble_eq_true rfl) (Nat.le_of_ble_eq_true rfl) rfl hl.1 rfl (Nat.le_of_ble_eq_true rfl) dX12_camStatement_113 (fun H locs hJ => ?_)
      refine lv_iload_n hx hb dX12_camStatement_116 rfl (lv_at hl 0 rfl) ?_
      refine lv_if_lt (tgt := 159) hx hb dX12_camStatement_117 (by decide) (fun c40 => ?_) (fun c40 => ?_)
      · rw [if_pos c40] at hf
        exact D159 v0 v1 w0 σ38 hf _ _ hJ ls (lv_sub hl [1, 2, 0] rfl)
      · rw [if_neg c40] at hf
        refine lv_aload_n hx hb dX12_camStatement_120 rfl (lv_at hl 1 rfl) ?_
        obtain ⟨b116, e117, hf⟩ := mb0 hf
        refine my_gR hx hb hts hown hK hJ fd_RX12_171 hv_12_81 e117 dX12_camStatement_121 ?_
        refine lv_iload_n hx hb dX12_camStatement_124 rfl (lv_at hl 0 rfl) ?_
        refine lv_iload_n hx hb dX12_camStatement_125 rfl (lv_at hl 2 rfl) ?_
        obtain ⟨σ118, e119, hf⟩ := mb0 hf
        refine mx_sI hx hb hK hJ e119 dX12_camStatement_126 (fun H locs hJ => ?_)
        refine lv_aload_n hx hb dX12_camStatement_127 rfl (lv_at hl 1 rfl) ?_
        obtain ⟨b120, e121, hf⟩ := mb0 hf
        refine my_gR hx hb hts hown hK hJ fd_RX12_174 hv_12_82 e121 dX12_camStatement_128 ?_
        refine lv_iload_n hx hb dX12_camStatement_131 rfl (lv_at hl 0 rfl) ?_
        refine lv_aload_n hx hb dX12_camStatement_132 rfl (lv_at hl 1 rfl) ?_
        obtain ⟨x122, e123, hf⟩ := mb0 hf
        refine my_gL hx hb hts hown hK hJ fd_RX12_353 hv_12_17 e123 dX12_camStatement_133 ?_
        refine lv_l2i hx hb dX12_camStatement_136 rfl ?_
        obtain ⟨σ124, e125, hf⟩ := mb0 hf
        refine mx_sI hx hb hK hJ e125 dX12_camStatement_137 (fun H locs hJ => ?_)
        refine lv_aload_n hx hb dX12_camStatement_138 rfl (lv_at hl 1 rfl) ?_
        obtain ⟨b126, e127, hf⟩ := mb0 hf
        refine my_gR hx hb hts hown hK hJ fd_RX12_177 hv_12_83 e127 dX12_camStatement_139 ?_
        refine lv_iload_n hx hb dX12_camStatement_142 rfl (lv_at hl 0 rfl) ?_
        refine lv_lconst (v := 0) hx hb dX12_camStatement_143 (by decide) ?_
        obtain ⟨σ128, e129, hf⟩ := mb0 hf
        refine mx_sL hx hb hK hJ e129 dX12_camStatement_144 (fun H locs hJ => ?_)
        refine lv_aload_n hx hb dX12_camStatement_145 rfl (lv_at hl 1 rfl) ?_
        obtain ⟨b130, e131, hf⟩ := mb0 hf
        refine my_gR hx hb hts hown hK hJ fd_RX12_180 hv_12_84 e131 dX12_camStatement_146 ?_
        refine lv_iload_n hx hb dX12_camStatement_149 rfl (lv_at hl 0 rfl) ?_
        refine lv_lconst (v := 1) hx hb dX12_camStatement_150 (by decide) ?_
        obtain ⟨σ132, e133, hf⟩ := mb0 hf
        refine mx_sL hx hb hK hJ e133 dX12_camStatement_151 (fun H locs hJ => ?_)
        refine lv_aload_n hx hb dX12_camStatement_152 rfl (lv_at hl 1 rfl) ?_
        obtain ⟨b134, e135, hf⟩ := mb0 hf
        refine my_gR hx hb hts hown hK hJ fd_RX12_183 hv_12_85 e135 dX12_camStatement_153 ?_
        refine lv_iload_n hx hb dX12_camStatement_156 rfl (lv_at hl 0 rfl) ?_
        refine lv_iconst (v := 1) hx hb dX12_camStatement_157 (by decide) ?_
        obtain ⟨σ136, e137, hf⟩ := mb0 hf
        refine mx_sI hx hb hK hJ e137 dX12_camStatement_158 (fun H locs hJ => ?_)
        exact D159 v0 v1 w0 σ136 hf _ _ hJ ls (lv_sub hl [1, 2, 0] rfl)
    · rw [if_pos c35] at hf
      exact my_vret hx hb hr hlocks hJ hf dX12_camStatement_107
  have D77 : ∀ (v0 : Nat) (v1 : Int32) (τ : mx_S), f_X12_camStatement_D77 P v0 v1 τ = some σ' → ∀ (H : Heap) (locs : List Loc), mx_J G P s.heap (mxz σ) (mxu σ) τ H locs → ∀ ls : Array Slot, lv_has ls 3 [(0, .ref v0), (1, .int v1)] → W p l e (mx_rm P 5 116 σ) s m ([.ref a0] : List Value).toArray below meth c H locs (mxz τ - mxz σ) (mxu τ - mxu σ) (mx_Z below G P none σ σ' [.ref a0] s) (F0 m 77 ls []) := by
    intro v0 v1 τ hf _ _ hJ ls hl
    unfold f_X12_camStatement_D77 at hf
    refine lv_aload_n hx hb dX12_camStatement_77 rfl (lv_at hl 0 rfl) ?_
    obtain ⟨x23, e24, hf⟩ := mb0 hf
    refine my_gI hx hb hts hown hK hJ fd_RX12_674 hv_12_80 e24 dX12_camStatement_78 ?_
    refine lv_bipush (v := 30) hx hb dX12_camStatement_81 (by decide) ?_
    refine lv_icmp_ge (tgt := 93) hx hb dX12_camStatement_83 (by decide) (fun c25 => ?_) (fun c25 => ?_)
    · rw [if_pos c25] at hf
      refine lv_iconst (v := (-1)) hx hb dX12_camStatement_93 (by decide) ?_
      exact D94 v0 v1 (-1 : Int32) τ hf _ _ hJ ls (lv_sub hl [0, 1] rfl)
    · rw [if_neg c25] at hf
      refine lv_aload_n hx hb dX12_camStatement_86 rfl (lv_at hl 0 rfl) ?_
      obtain ⟨x138, e139, hf⟩ := mb0 hf
      refine my_gI hx hb hts hown hK hJ fd_RX12_674 hv_12_80 e139 dX12_camStatement_87 ?_
      refine lv_goto (tgt := 94) hx hb dX12_camStatement_90 (by decide) ?_
      exact D94 v0 v1 x138 τ hf _ _ hJ ls (lv_sub hl [0, 1] rfl)
  have D43 : ∀ (v0 : Nat) (w0 : Int32) (τ : mx_S), f_X12_camStatement_D43 P v0 w0 τ = some σ' → ∀ (H : Heap) (locs : List Loc), mx_J G P s.heap (mxz σ) (mxu σ) τ H locs → ∀ ls : Array Slot, lv_has ls 3 [(0, .ref v0)] → W p l e (mx_rm P 5 116 σ) s m ([.ref a0] : List Value).toArray below meth c H locs (mxz τ - mxz σ) (mxu τ - mxu σ) (mx_Z below G P none σ σ' [.ref a0] s) (F0 m 43 ls [.int w0]) := by
    intro v0 w0 τ hf _ _ hJ ls hl
    unfold f_X12_camStatement_D43 at hf
    refine lv_istore_n (lv' := [(1, .int w0), (0, .ref v0)]) hx hb dX12_camStatement_43 rfl hl (by decide) rfl (fun ls hl => ?_)
    refine lv_iload_n hx hb dX12_camStatement_44 rfl (lv_at hl 0 rfl) ?_
    refine lv_if_ge (tgt := 58) hx hb dX12_camStatement_45 (by decide) (fun c19 => ?_) (fun c19 => ?_)
    · rw [if_pos c19] at hf
      refine lv_aload_n hx hb dX12_camStatement_58 rfl (lv_at hl 1 rfl) ?_
      obtain ⟨x20, e21, hf⟩ := mb0 hf
      refine my_gI hx hb hts hown hK hJ fd_RX12_674 hv_12_80 e21 dX12_camStatement_59 ?_
      refine lv_bipush (v := 30) hx hb dX12_camStatement_62 (by decide) ?_
      refine lv_icmp_ne (tgt := 77) hx hb dX12_camStatement_64 (by decide) (fun c22 => ?_) (fun c22 => ?_)
      · rw [if_neg c22] at hf
        exact D77 v0 w0 τ hf _ _ hJ ls (lv_sub hl [1, 0] rfl)
      · rw [if_pos c22] at hf
        refine lv_aload_n hx hb dX12_camStatement_67 rfl (lv_at hl 1 rfl) ?_
        refine lv_bipush (v := 6) hx hb dX12_camStatement_68 (by decide) ?_
        refine lv_aload_n hx hb dX12_camStatement_70 rfl (lv_at hl 1 rfl) ?_
        obtain ⟨x140, e141, hf⟩ := mb0 hf
        refine my_gI hx hb hts hown hK hJ fd_RX12_337 hv_12_16 e141 dX12_camStatement_71 ?_
        obtain ⟨i142, e143, hf⟩ := mb0 hf
        obtain ⟨σ144, e145, hf⟩ := mb0 hf
        refine mx_callV (As := [.int (6 : Int32), .int x140]) (rest := []) hx hb hml hts hown hK hJ rfl rfl (ci := 12) rfl e143 (c_X12_found l G P v0 (6 : Int32) x140 τ σ144 e145) me_X12_found kw_2299 ks_91 kw_2297 (Nat.le_of_ble_eq_true rfl) (Nat.le_of_ble_eq_true rfl) rfl hl.1 rfl (Nat.le_of_ble_eq_true rfl) dX12_camStatement_74 (fun H locs hJ => ?_)
        exact D77 v0 w0 σ144 hf _ _ hJ ls (lv_sub hl [1, 0] rfl)
    · rw [if_neg c19] at hf
      refine lv_aload_n hx hb dX12_camStatement_48 rfl (lv_at hl 1 rfl) ?_
      refine lv_iconst (v := 1) hx hb dX12_camStatement_49 (by decide) ?_
      refine lv_aload_n hx hb dX12_camStatement_50 rfl (lv_at hl 1 rfl) ?_
      obtain ⟨x146, e147, hf⟩ := mb0 hf
      refine my_gI hx hb hts hown hK hJ fd_RX12_337 hv_12_16 e147 dX12_camStatement_51 ?_
      obtain ⟨i148, e149, hf⟩ := mb0 hf
      obtain ⟨σ150, e151, hf⟩ := mb0 hf
      refine mx_callV (As := [.int (1 : Int32), .int x146]) (rest := []) hx hb hml hts hown hK hJ rfl rfl (ci := 12) rfl e149 (c_X12_wrong l G P v0 (1 : Int32) x146 τ σ150 e151) me_X12_wrong kw_2287 ks_88 kw_2285 (Nat.le_of_ble_eq_true rfl) (Nat.le_of_ble_eq_true rfl) rfl hl.1 rfl (Nat.le_of_ble_eq_true rfl) dX12_camStatement_54 (fun H locs hJ => ?_)
      exact my_vret hx hb hr hlocks hJ hf dX12_camStatement_57
  unfold f_X12_camStatement at hf
  refine lv_aload_n hx hb dX12_camStatement_0 rfl (lv_at hl 0 rfl) ?_
  refine mx_ldcw hx hb hown (show vk_R RX12 668 "dwell" (mgK G 9) s from mxe_str hK 9 (by decide)) dX12_camStatement_1 ?_
  obtain ⟨i1, e2, hf⟩ := mb0 hf
  obtain ⟨x4, σ3, e5, hf⟩ := mc0 hf
  refine mx_callV (As := [.ref (mgK G 9)]) (rest := []) hx hb hml hts hown hK hJ rfl rfl (ci := 12) rfl e2 (c_X12_isWord l G P a0 9 σ x4 σ3 e5) me_X12_isWord kw_2276 ks_87 kw_2274 (Nat.le_of_ble_eq_true rfl) (Nat.le_of_ble_eq_true rfl) rfl hl.1 rfl (Nat.le_of_ble_eq_true rfl) dX12_camStatement_4 (fun H locs hJ => ?_)
  refine lv_if_eq (tgt := 14) hx hb dX12_camStatement_7 (by decide) (fun c6 => ?_) (fun c6 => ?_)
  · rw [if_pos c6] at hf
    refine lv_aload_n hx hb dX12_camStatement_14 rfl (lv_at hl 0 rfl) ?_
    refine mx_ldcw hx hb hown (show vk_R RX12 670 "rise" (mgK G 10) s from mxe_str hK 10 (by decide)) dX12_camStatement_15 ?_
    obtain ⟨i7, e8, hf⟩ := mb0 hf
    obtain ⟨x10, σ9, e11, hf⟩ := mc0 hf
    refine mx_callV (As := [.ref (mgK G 10)]) (rest := []) hx hb hml hts hown hK hJ rfl rfl (ci := 12) rfl e8 (c_X12_isWord l G P a0 10 σ3 x10 σ9 e11) me_X12_isWord kw_2276 ks_87 kw_2274 (Nat.le_of_ble_eq_true rfl) (Nat.le_of_ble_eq_true rfl) rfl hl.1 rfl (Nat.le_of_ble_eq_true rfl) dX12_camStatement_18 (fun H locs hJ => ?_)
    refine lv_if_eq (tgt := 28) hx hb dX12_camStatement_21 (by decide) (fun c12 => ?_) (fun c12 => ?_)
    · rw [if_pos c12] at hf
      refine lv_aload_n hx hb dX12_camStatement_28 rfl (lv_at hl 0 rfl) ?_
      refine mx_ldcw hx hb hown (show vk_R RX12 672 "fall" (mgK G 11) s from mxe_str hK 11 (by decide)) dX12_camStatement_29 ?_
      obtain ⟨i13, e14, hf⟩ := mb0 hf
      obtain ⟨x16, σ15, e17, hf⟩ := mc0 hf
      refine mx_callV (As := [.ref (mgK G 11)]) (rest := []) hx hb hml hts hown hK hJ rfl rfl (ci := 12) rfl e14 (c_X12_isWord l G P a0 11 σ9 x16 σ15 e17) me_X12_isWord kw_2276 ks_87 kw_2274 (Nat.le_of_ble_eq_true rfl) (Nat.le_of_ble_eq_true rfl) rfl hl.1 rfl (Nat.le_of_ble_eq_true rfl) dX12_camStatement_32 (fun H locs hJ => ?_)
      refine lv_if_eq (tgt := 42) hx hb dX12_camStatement_35 (by decide) (fun c18 => ?_) (fun c18 => ?_)
      · rw [if_pos c18] at hf
        refine lv_iconst (v := (-1)) hx hb dX12_camStatement_42 (by decide) ?_
        exact D43 a0 (-1 : Int32) σ15 hf _ _ hJ ls (lv_sub hl [0] rfl)
      · rw [if_neg c18] at hf
        refine lv_iconst (v := 2) hx hb dX12_camStatement_38 (by decide) ?_
        refine lv_goto (tgt := 43) hx hb dX12_camStatement_39 (by decide) ?_
        exact D43 a0 (2 : Int32) σ15 hf _ _ hJ ls (lv_sub hl [0] rfl)
    · rw [if_neg c12] at hf
      refine lv_iconst (v := 1) hx hb dX12_camStatement_24 (by decide) ?_
      refine lv_goto (tgt := 43) hx hb dX12_camStatement_25 (by decide) ?_
      exact D43 a0 (1 : Int32) σ9 hf _ _ hJ ls (lv_sub hl [0] rfl)
  · rw [if_neg c6] at hf
    refine lv_iconst (v := 0) hx hb dX12_camStatement_10 (by decide) ?_
    refine lv_goto (tgt := 43) hx hb dX12_camStatement_11 (by decide) ?_
    exact D43 a0 (0 : Int32) σ3 hf _ _ hJ ls (lv_sub hl [0] rfl)
set_option maxHeartbeats 4000000 in
set_option maxRecDepth 100000 in
theorem c_X12_camSums (l : Launch) (G : mx_G) (P : mx_P) (a0 : Nat) (σ : mx_S) (σ' : mx_S) (hf : f_X12_camSums P a0 σ = some σ') : mxz σ ≤ mpc P → mxu σ ≤ mps P → mx_M l yX12_camSums cX12_camSums 7 none 4 112 G P [.ref a0] σ none σ' := by
  intro hcap hcau
  refine mx_ofW (by decide +kernel) hcap hcau (Nat.le_of_ble_eq_true rfl) ?_
  intro p e s m below meth c hx hb hr hml hts hown hlocks hname hK hJ ls hl
  have hz0 := hJ.2.1
  have hown : s.vm.findClass RX12 = some m.cls := hown
  have hl : lv_has ls 7 [(0, .ref a0)] := hl
  have D67_15 : ∀ (v0 : Nat) (v1 : Int32) (v6 : Int32) (w0 : Int64) (w1 : Int64) (w2 : Int64) (w3 : Nat) (τ : mx_S) (o : (Int32 × Int64 × Int64 × Int32 × mx_S) ⊕ ((Int32 × Int64 × mx_S))), f_X12_camSums_D67_15 P v0 v1 v6 w0 w1 w2 w3 τ = some o → (∀ (y1 : Int32) (y2 : Int64) (y4 : Int64) (y6 : Int32) (υ : mx_S), o = .inl (y1, y2, y4, y6, υ) → ∀ (H : Heap) (locs : List Loc), mx_J G P s.heap (mxz σ) (mxu σ) υ H locs → ∀ ls : Array Slot, lv_has ls 7 [(0, .ref v0), (1, .int y1), (2, .long y2), (4, .long y4), (6, .int y6)] → W p l e (mx_rm P 4 112 σ) s m ([.ref a0] : List Value).toArray below meth c H locs (mxz υ - mxz σ) (mxu υ - mxu σ) (mx_Z below G P none σ σ' [.ref a0] s) (F0 m 15 ls [])) → (∀ (y1 : Int32) (y2 : Int64) (υ : mx_S), o = .inr (y1, y2, υ) → ∀ (H : Heap) (locs : List Loc), mx_J G P s.heap (mxz σ) (mxu σ) υ H locs → ∀ ls : Array Slot, lv_has ls 7 [(0, .ref v0), (1, .int y1), (2, .long y2)] → W p l e (mx_rm P 4 112 σ) s m ([.ref a0] : List Value).toArray below meth c H locs (mxz υ - mxz σ) (mxu υ - mxu σ) (mx_Z below G P none σ σ' [.ref a0] s) (F0 m 94 ls [])) → ∀ (H : Heap) (locs : List Loc), mx_J G P s.heap (mxz σ) (mxu σ) τ H locs → ∀ ls : Array Slot, lv_has ls 7 [(0, .ref v0), (1, .int v1), (6, .int v6)] → W p l e (mx_rm P 4 112 σ) s m ([.ref a0] : List Value).toArray below meth c H locs (mxz τ - mxz σ) (mxu τ - mxu σ) (mx_Z below G P none σ σ' [.ref a0] s) (F0 m 67 ls [.long w0, .long w1, .long w2, .ref w3]) := by
    intro v0 v1 v6 w0 w1 w2 w3 τ o hf Kb Ke0 H locs hJ ls hl
    unfold f_X12_camSums_D67_15 at hf
    refine lv_aload_n hx hb dX12_camSums_67 rfl (lv_at hl 0 rfl) ?_
    obtain ⟨b21, e22, hf⟩ := mb0 hf
    refine my_gR hx hb hts hown hK hJ fd_RX12_180 hv_12_84 e22 dX12_camSums_68 ?_
    refine lv_iload hx hb dX12_camSums_71 (lv_at hl 2 rfl) ?_
    obtain ⟨x23, e24, hf⟩ := mb0 hf
    refine mx_aL hx hb hK hJ e24 dX12_camSums_73 ?_
    obtain ⟨i25, e26, hf⟩ := mb0 hf
    obtain ⟨σ27, e28, hf⟩ := mb0 hf
    refine mx_callV (As := [.long w2, .long w1, .long w0, .long x23]) (rest := []) hx hb hml hts hown hK hJ rfl rfl (ci := 12) rfl e26 (c_X12_sum l G P w3 w2 w1 w0 x23 τ σ27 e28) me_X12_sum kw_2662 ks_154 kw_2660 (Nat.le_of_ble_eq_true rfl) (Nat.le_of_ble_eq_true rfl) rfl hl.1 rfl (Nat.le_of_ble_eq_true rfl) dX12_camSums_74 (fun H locs hJ => ?_)
    refine lv_aload_n hx hb dX12_camSums_77 rfl (lv_at hl 0 rfl) ?_
    obtain ⟨x29, e30, hf⟩ := mb0 hf
    refine my_gL hx hb hts hown hK hJ fd_RX12_287 hv_12_8 e30 dX12_camSums_78 ?_
    refine lv_lstore_n (lv' := [(2, .long x29), (0, .ref v0), (1, .int v1), (6, .int v6)]) hx hb dX12_camSums_81 rfl hl (by decide) rfl (fun ls hl => ?_)
    refine lv_aload_n hx hb dX12_camSums_82 rfl (lv_at hl 1 rfl) ?_
    obtain ⟨x31, e32, hf⟩ := mb0 hf
    refine my_gL hx hb hts hown hK hJ fd_RX12_291 hv_12_9 e32 dX12_camSums_83 ?_
    refine lv_lstore (lv' := [(4, .long x31), (2, .long x29), (0, .ref v0), (1, .int v1), (6, .int v6)]) hx hb dX12_camSums_86 hl (by decide) rfl (fun ls hl => ?_)
    obtain ⟨x33, e34, hf⟩ := mb0 hf
    refine lv_iinc (v := x33) (lv' := [(6, .int x33), (4, .long x31), (2, .long x29), (0, .ref v0), (1, .int v1)]) hx hb dX12_camSums_88 hl (k := 4) rfl (by rw [← Option.some.inj e34]; rfl) (by decide) rfl (fun ls hl => ?_)
    refine lv_goto (tgt := 15) hx hb dX12_camSums_91 (by decide) ?_
    exact Kb v1 x29 x31 x33 σ27 (Option.some.inj hf).symm _ _ hJ ls (lv_sub hl [3, 4, 2, 1, 0] rfl)
  have B15 : ∀ (v0 : Nat) (v1 : Int32) (v2 : Int64) (v4 : Int64) (v6 : Int32) (τ : mx_S) (o : (Int32 × Int64 × Int64 × Int32 × mx_S) ⊕ ((Int32 × Int64 × mx_S))), f_X12_camSums_B15 P v0 v1 v2 v4 v6 τ = some o → (∀ (y1 : Int32) (y2 : Int64) (y4 : Int64) (y6 : Int32) (υ : mx_S), o = .inl (y1, y2, y4, y6, υ) → ∀ (H : Heap) (locs : List Loc), mx_J G P s.heap (mxz σ) (mxu σ) υ H locs → ∀ ls : Array Slot, lv_has ls 7 [(0, .ref v0), (1, .int y1), (2, .long y2), (4, .long y4), (6, .int y6)] → W p l e (mx_rm P 4 112 σ) s m ([.ref a0] : List Value).toArray below meth c H locs (mxz υ - mxz σ) (mxu υ - mxu σ) (mx_Z below G P none σ σ' [.ref a0] s) (F0 m 15 ls [])) → (∀ (y1 : Int32) (y2 : Int64) (υ : mx_S), o = .inr (y1, y2, υ) → ∀ (H : Heap) (locs : List Loc), mx_J G P s.heap (mxz σ) (mxu σ) υ H locs → ∀ ls : Array Slot, lv_has ls 7 [(0, .ref v0), (1, .int y1), (2, .long y2)] → W p l e (mx_rm P 4 112 σ) s m ([.ref a0] : List Value).toArray below meth c H locs (mxz υ - mxz σ) (mxu υ - mxu σ) (mx_Z below G P none σ σ' [.ref a0] s) (F0 m 94 ls [])) → ∀ (H : Heap) (locs : List Loc), mx_J G P s.heap (mxz σ) (mxu σ) τ H locs → ∀ ls : Array Slot, lv_has ls 7 [(0, .ref v0), (1, .int v1), (2, .long v2), (4, .long v4), (6, .int v6)] → W p l e (mx_rm P 4 112 σ) s m ([.ref a0] : List Value).toArray below meth c H locs (mxz τ - mxz σ) (mxu τ - mxu σ) (mx_Z below G P none σ σ' [.ref a0] s) (F0 m 15 ls []) := by
    intro v0 v1 v2 v4 v6 τ o hf Kb Ke0 H locs hJ ls hl
    unfold f_X12_camSums_B15 at hf
    refine lv_iload hx hb dX12_camSums_15 (lv_at hl 4 rfl) ?_
    refine lv_aload_n hx hb dX12_camSums_17 rfl (lv_at hl 0 rfl) ?_
    obtain ⟨x3, e4, hf⟩ := mb0 hf
    refine my_gI hx hb hts hown hK hJ fd_RX12_674 hv_12_80 e4 dX12_camSums_18 ?_
    refine lv_icmp_ge (tgt := 94) hx hb dX12_camSums_21 (by decide) (fun c5 => ?_) (fun c5 => ?_)
    · rw [if_pos c5] at hf
      exact Ke0 v1 v2 τ (Option.some.inj hf).symm _ _ hJ ls (lv_sub hl [0, 1, 2] rfl)
    · rw [if_neg c5] at hf
      refine lv_iload_n hx hb dX12_camSums_24 rfl (lv_at hl 1 rfl) ?_
      refine lv_aload_n hx hb dX12_camSums_25 rfl (lv_at hl 0 rfl) ?_
      obtain ⟨b6, e7, hf⟩ := mb0 hf
      refine my_gR hx hb hts hown hK hJ fd_RX12_174 hv_12_82 e7 dX12_camSums_26 ?_
      refine lv_iload hx hb dX12_camSums_29 (lv_at hl 4 rfl) ?_
      obtain ⟨x8, e9, hf⟩ := mb0 hf
      refine mx_aI hx hb hK hJ e9 dX12_camSums_31 ?_
      refine lv_iadd hx hb dX12_camSums_32 ?_
      obtain ⟨x10, e11, hf⟩ := mb0 hf
      refine mx_nI e11 ?_
      refine lv_istore_n (lv' := [(1, .int x10), (0, .ref v0), (2, .long v2), (4, .long v4), (6, .int v6)]) hx hb dX12_camSums_33 rfl hl (by decide) rfl (fun ls hl => ?_)
      refine lv_aload_n hx hb dX12_camSums_34 rfl (lv_at hl 1 rfl) ?_
      refine lv_lload_n hx hb dX12_camSums_35 rfl (lv_at hl 2 rfl) ?_
      refine lv_lload hx hb dX12_camSums_36 (lv_at hl 3 rfl) ?_
      refine lv_aload_n hx hb dX12_camSums_38 rfl (lv_at hl 1 rfl) ?_
      obtain ⟨b12, e13, hf⟩ := mb0 hf
      refine my_gR hx hb hts hown hK hJ fd_RX12_171 hv_12_81 e13 dX12_camSums_39 ?_
      refine lv_iload hx hb dX12_camSums_42 (lv_at hl 4 rfl) ?_
      obtain ⟨x14, e15, hf⟩ := mb0 hf
      refine mx_aI hx hb hK hJ e15 dX12_camSums_44 ?_
      refine lv_iconst (v := 2) hx hb dX12_camSums_45 (by decide) ?_
      refine lv_icmp_ne (tgt := 60) hx hb dX12_camSums_46 (by decide) (fun c16 => ?_) (fun c16 => ?_)
      · rw [if_neg c16] at hf
        refine lv_aload_n hx hb dX12_camSums_60 rfl (lv_at hl 1 rfl) ?_
        obtain ⟨b17, e18, hf⟩ := mb0 hf
        refine my_gR hx hb hts hown hK hJ fd_RX12_177 hv_12_83 e18 dX12_camSums_61 ?_
        refine lv_iload hx hb dX12_camSums_64 (lv_at hl 4 rfl) ?_
        obtain ⟨x19, e20, hf⟩ := mb0 hf
        refine mx_aL hx hb hK hJ e20 dX12_camSums_66 ?_
        exact D67_15 v0 x10 v6 x19 v4 v2 v0 τ o hf Kb Ke0 _ _ hJ ls (lv_sub hl [1, 0, 4] rfl)
      · rw [if_pos c16] at hf
        refine lv_aload_n hx hb dX12_camSums_49 rfl (lv_at hl 1 rfl) ?_
        obtain ⟨b35, e36, hf⟩ := mb0 hf
        refine my_gR hx hb hts hown hK hJ fd_RX12_177 hv_12_83 e36 dX12_camSums_50 ?_
        refine lv_iload hx hb dX12_camSums_53 (lv_at hl 4 rfl) ?_
        obtain ⟨x37, e38, hf⟩ := mb0 hf
        refine mx_aL hx hb hK hJ e38 dX12_camSums_55 ?_
        refine lv_lneg hx hb dX12_camSums_56 ?_
        refine lv_goto (tgt := 67) hx hb dX12_camSums_57 (by decide) ?_
        exact D67_15 v0 x10 v6 (-x37) v4 v2 v0 τ o hf Kb Ke0 _ _ hJ ls (lv_sub hl [1, 0, 4] rfl)
  have L15 : ∀ (v0 : Nat) (n : Nat) (v1 : Int32) (v2 : Int64) (v4 : Int64) (v6 : Int32) (τ : mx_S) (o : (Int32 × Int64 × mx_S)), mx_lp (f_X12_camSums_L15 P v0) n (v1, v2, v4, v6, τ) = some o → (∀ (y1 : Int32) (y2 : Int64) (υ : mx_S), o = (y1, y2, υ) → ∀ (H : Heap) (locs : List Loc), mx_J G P s.heap (mxz σ) (mxu σ) υ H locs → ∀ ls : Array Slot, lv_has ls 7 [(0, .ref v0), (1, .int y1), (2, .long y2)] → W p l e (mx_rm P 4 112 σ) s m ([.ref a0] : List Value).toArray below meth c H locs (mxz υ - mxz σ) (mxu υ - mxu σ) (mx_Z below G P none σ σ' [.ref a0] s) (F0 m 94 ls [])) → ∀ (H : Heap) (locs : List Loc), mx_J G P s.heap (mxz σ) (mxu σ) τ H locs → ∀ ls : Array Slot, lv_has ls 7 [(0, .ref v0), (1, .int v1), (2, .long v2), (4, .long v4), (6, .int v6)] → W p l e (mx_rm P 4 112 σ) s m ([.ref a0] : List Value).toArray below meth c H locs (mxz τ - mxz σ) (mxu τ - mxu σ) (mx_Z below G P none σ σ' [.ref a0] s) (F0 m 15 ls []) := by
    intro v0 n
    induction n with
    | zero =>
      intro v1 v2 v4 v6 τ o hf
      rw [mx_lp0] at hf
      cases hf
    | succ n ih =>
      intro v1 v2 v4 v6 τ o hf Ke0 H locs hJ ls hl
      rw [mx_lpS] at hf
      obtain ⟨b, eb, hf⟩ := mb0 hf
      refine B15 v0 v1 v2 v4 v6 τ b eb (fun y1 y2 y4 y6 υ ho H locs hJ ls hl => ?_) (fun y1 y2 υ ho H locs hJ ls hl => ?_) H locs hJ ls hl
      · subst ho
        exact ih y1 y2 y4 y6 υ o hf Ke0 H locs hJ ls hl
      · subst ho
        exact Ke0 y1 y2 υ (Option.some.inj hf).symm _ _ hJ ls hl
  have D134 : ∀  (τ : mx_S), f_X12_camSums_D134 P  τ = some σ' → ∀ (H : Heap) (locs : List Loc), mx_J G P s.heap (mxz σ) (mxu σ) τ H locs → ∀ ls : Array Slot, lv_has ls 7 [] → W p l e (mx_rm P 4 112 σ) s m ([.ref a0] : List Value).toArray below meth c H locs (mxz τ - mxz σ) (mxu τ - mxu σ) (mx_Z below G P none σ σ' [.ref a0] s) (F0 m 134 ls []) := by
    intro  τ hf _ _ hJ ls hl
    unfold f_X12_camSums_D134 at hf
    exact my_vret hx hb hr hlocks hJ hf dX12_camSums_134
  have D124 : ∀ (v0 : Nat) (τ : mx_S), f_X12_camSums_D124 P v0 τ = some σ' → ∀ (H : Heap) (locs : List Loc), mx_J G P s.heap (mxz σ) (mxu σ) τ H locs → ∀ ls : Array Slot, lv_has ls 7 [(0, .ref v0)] → W p l e (mx_rm P 4 112 σ) s m ([.ref a0] : List Value).toArray below meth c H locs (mxz τ - mxz σ) (mxu τ - mxu σ) (mx_Z below G P none σ σ' [.ref a0] s) (F0 m 124 ls []) := by
    intro v0 τ hf _ _ hJ ls hl
    unfold f_X12_camSums_D124 at hf
    refine lv_aload_n hx hb dX12_camSums_124 rfl (lv_at hl 0 rfl) ?_
    refine lv_bipush (v := 8) hx hb dX12_camSums_125 (by decide) ?_
    refine lv_aload_n hx hb dX12_camSums_127 rfl (lv_at hl 0 rfl) ?_
    obtain ⟨x48, e49, hf⟩ := mb0 hf
    refine my_gI hx hb hts hown hK hJ fd_RX12_272 hv_12_3 e49 dX12_camSums_128 ?_
    obtain ⟨i50, e51, hf⟩ := mb0 hf
    obtain ⟨σ52, e53, hf⟩ := mb0 hf
    refine mx_callV (As := [.int (8 : Int32), .int x48]) (rest := []) hx hb hml hts hown hK hJ rfl rfl (ci := 12) rfl e51 (c_X12_wrong l G P v0 (8 : Int32) x48 τ σ52 e53) me_X12_wrong kw_2287 ks_88 kw_2285 (Nat.le_of_ble_eq_true rfl) (Nat.le_of_ble_eq_true rfl) rfl hl.1 rfl (Nat.le_of_ble_eq_true rfl) dX12_camSums_131 (fun H locs hJ => ?_)
    exact D134  σ52 hf _ _ hJ ls (lv_sub hl [] rfl)
  have D111 : ∀ (v0 : Nat) (v2 : Int64) (τ : mx_S), f_X12_camSums_D111 P v0 v2 τ = some σ' → ∀ (H : Heap) (locs : List Loc), mx_J G P s.heap (mxz σ) (mxu σ) τ H locs → ∀ ls : Array Slot, lv_has ls 7 [(0, .ref v0), (2, .long v2)] → W p l e (mx_rm P 4 112 σ) s m ([.ref a0] : List Value).toArray below meth c H locs (mxz τ - mxz σ) (mxu τ - mxu σ) (mx_Z below G P none σ σ' [.ref a0] s) (F0 m 111 ls []) := by
    intro v0 v2 τ hf _ _ hJ ls hl
    unfold f_X12_camSums_D111 at hf
    refine lv_aload_n hx hb dX12_camSums_111 rfl (lv_at hl 0 rfl) ?_
    obtain ⟨x45, e46, hf⟩ := mb0 hf
    refine my_gI hx hb hts hown hK hJ fd_RX12_283 hv_12_10 e46 dX12_camSums_112 ?_
    refine lv_if_ne (tgt := 124) hx hb dX12_camSums_115 (by decide) (fun c47 => ?_) (fun c47 => ?_)
    · rw [if_neg c47] at hf
      exact D124 v0 τ hf _ _ hJ ls (lv_sub hl [0] rfl)
    · rw [if_pos c47] at hf
      refine lv_lload_n hx hb dX12_camSums_118 rfl (lv_at hl 1 rfl) ?_
      refine lv_lconst (v := 0) hx hb dX12_camSums_119 (by decide) ?_
      refine W.lcmp hx hb dX12_camSums_120 ?_
      refine lv_if_eq (tgt := 134) hx hb dX12_camSums_121 (by decide) (fun c54 => ?_) (fun c54 => ?_)
      · rw [if_pos c54] at hf
        exact D134  τ hf _ _ hJ ls (lv_sub hl [] rfl)
      · rw [if_neg c54] at hf
        exact D124 v0 τ hf _ _ hJ ls (lv_sub hl [0] rfl)
  unfold f_X12_camSums at hf
  refine lv_iconst (v := 0) hx hb dX12_camSums_0 (by decide) ?_
  refine lv_istore_n (lv' := [(1, .int (0 : Int32)), (0, .ref a0)]) hx hb dX12_camSums_1 rfl hl (by decide) rfl (fun ls hl => ?_)
  refine lv_lconst (v := 0) hx hb dX12_camSums_2 (by decide) ?_
  refine lv_lstore_n (lv' := [(2, .long (0 : Int64)), (1, .int (0 : Int32)), (0, .ref a0)]) hx hb dX12_camSums_3 rfl hl (by decide) rfl (fun ls hl => ?_)
  refine lv_lconst (v := 1) hx hb dX12_camSums_4 (by decide) ?_
  refine lv_lstore (lv' := [(4, .long (1 : Int64)), (2, .long (0 : Int64)), (1, .int (0 : Int32)), (0, .ref a0)]) hx hb dX12_camSums_5 hl (by decide) rfl (fun ls hl => ?_)
  refine lv_aload_n hx hb dX12_camSums_7 rfl (lv_at hl 3 rfl) ?_
  refine lv_iconst (v := 0) hx hb dX12_camSums_8 (by decide) ?_
  obtain ⟨σ1, e2, hf⟩ := mb0 hf
  refine my_pZ hx hb hts hown hK hJ fd_RX12_283 cd_12 (Or.inl rfl) ht_12_10 e2 dX12_camSums_9 (fun H locs hJ => ?_)
  refine lv_iconst (v := 0) hx hb dX12_camSums_12 (by decide) ?_
  refine lv_istore (lv' := [(6, .int (0 : Int32)), (4, .long (1 : Int64)), (2, .long (0 : Int64)), (1, .int (0 : Int32)), (0, .ref a0)]) hx hb dX12_camSums_13 hl (by decide) rfl (fun ls hl => ?_)
  obtain ⟨o39, e40, hf⟩ := mb0 hf
  refine L15 a0 (mpN P) (0 : Int32) (0 : Int64) (1 : Int64) (0 : Int32) σ1 o39 e40 (fun y41 y42 σ43 ho H locs hJ ls hl => ?_) _ _ hJ ls (lv_sub hl [4, 3, 2, 1, 0] rfl)
  · rw [ho] at hf
    have hf : ((if y41 = (360 : Int32) then f_X12_camSums_D111 P a0 y42 σ43 else (mg_I σ43 a0 12 3).bind fun x55 => (mx_is σ43 a0 12).bind fun i57 => (f_X12_wrong P a0 (7 : Int32) x55 σ43).bind fun σ59 => f_X12_camSums_D111 P a0 y42 σ59)) = some σ' := hf
    refine lv_iload_n hx hb dX12_camSums_94 rfl (lv_at hl 1 rfl) ?_
    refine lv_sipush (v := 360) hx hb dX12_camSums_95 (by decide) ?_
    refine lv_icmp_eq (tgt := 111) hx hb dX12_camSums_98 (by decide) (fun c44 => ?_) (fun c44 => ?_)
    · rw [if_pos c44] at hf
      exact D111 a0 y42 σ43 hf _ _ hJ ls (lv_sub hl [0, 2] rfl)
    · rw [if_neg c44] at hf
      refine lv_aload_n hx hb dX12_camSums_101 rfl (lv_at hl 0 rfl) ?_
      refine lv_bipush (v := 7) hx hb dX12_camSums_102 (by decide) ?_
      refine lv_aload_n hx hb dX12_camSums_104 rfl (lv_at hl 0 rfl) ?_
      obtain ⟨x55, e56, hf⟩ := mb0 hf
      refine my_gI hx hb hts hown hK hJ fd_RX12_272 hv_12_3 e56 dX12_camSums_105 ?_
      obtain ⟨i57, e58, hf⟩ := mb0 hf
      obtain ⟨σ59, e60, hf⟩ := mb0 hf
      refine mx_callV (As := [.int (7 : Int32), .int x55]) (rest := []) hx hb hml hts hown hK hJ rfl rfl (ci := 12) rfl e58 (c_X12_wrong l G P a0 (7 : Int32) x55 σ43 σ59 e60) me_X12_wrong kw_2287 ks_88 kw_2285 (Nat.le_of_ble_eq_true rfl) (Nat.le_of_ble_eq_true rfl) rfl hl.1 rfl (Nat.le_of_ble_eq_true rfl) dX12_camSums_108 (fun H locs hJ => ?_)
      exact D111 a0 y42 σ59 hf _ _ hJ ls (lv_sub hl [0, 2] rfl)
set_option maxHeartbeats 4000000 in
set_option maxRecDepth 100000 in
theorem c_X12_cam (l : Launch) (G : mx_G) (P : mx_P) (a0 : Nat) (σ : mx_S) (r : Int32) (σ' : mx_S) (hf : f_X12_cam P a0 σ = some (r, σ')) : mxz σ ≤ mpc P → mxu σ ≤ mps P → mx_M l yX12_cam cX12_cam 2 (some .int) 6 138 G P [.ref a0] σ (some (.int r)) σ' := by
  intro hcap hcau
  refine mx_ofW (by decide +kernel) hcap hcau (Nat.le_of_ble_eq_true rfl) ?_
  intro p e s m below meth c hx hb hr hml hts hown hlocks hname hK hJ ls hl
  have hz0 := hJ.2.1
  have hown : s.vm.findClass RX12 = some m.cls := hown
  have hl : lv_has ls 2 [(0, .ref a0)] := hl
  have B9 : ∀ (v0 : Nat) (τ : mx_S) (o : (mx_S) ⊕ ((mx_S))), f_X12_cam_B9 P v0  τ = some o → (∀  (υ : mx_S), o = .inl υ → ∀ (H : Heap) (locs : List Loc), mx_J G P s.heap (mxz σ) (mxu σ) υ H locs → ∀ ls : Array Slot, lv_has ls 2 [(0, .ref v0)] → W p l e (mx_rm P 6 138 σ) s m ([.ref a0] : List Value).toArray below meth c H locs (mxz υ - mxz σ) (mxu υ - mxu σ) (mx_Z below G P (some (.int r)) σ σ' [.ref a0] s) (F0 m 9 ls [])) → (∀  (υ : mx_S), o = .inr υ → ∀ (H : Heap) (locs : List Loc), mx_J G P s.heap (mxz σ) (mxu σ) υ H locs → ∀ ls : Array Slot, lv_has ls 2 [(0, .ref v0)] → W p l e (mx_rm P 6 138 σ) s m ([.ref a0] : List Value).toArray below meth c H locs (mxz υ - mxz σ) (mxu υ - mxu σ) (mx_Z below G P (some (.int r)) σ σ' [.ref a0] s) (F0 m 30 ls [])) → ∀ (H : Heap) (locs : List Loc), mx_J G P s.heap (mxz σ) (mxu σ) τ H locs → ∀ ls : Array Slot, lv_has ls 2 [(0, .ref v0)] → W p l e (mx_rm P 6 138 σ) s m ([.ref a0] : List Value).toArray below meth c H locs (mxz τ - mxz σ) (mxu τ - mxu σ) (mx_Z below G P (some (.int r)) σ σ' [.ref a0] s) (F0 m 9 ls []) := by
    intro v0  τ o hf Kb Ke0 H locs hJ ls hl
    unfold f_X12_cam_B9 at hf
    refine lv_aload_n hx hb dX12_cam_9 rfl (lv_at hl 0 rfl) ?_
    obtain ⟨x7, e8, hf⟩ := mb0 hf
    refine my_gI hx hb hts hown hK hJ fd_RX12_266 hv_12_4 e8 dX12_cam_10 ?_
    refine lv_if_ne (tgt := 30) hx hb dX12_cam_13 (by decide) (fun c9 => ?_) (fun c9 => ?_)
    · rw [if_neg c9] at hf
      exact Ke0 τ (Option.some.inj hf).symm _ _ hJ ls (lv_sub hl [0] rfl)
    · rw [if_pos c9] at hf
      refine lv_aload_n hx hb dX12_cam_16 rfl (lv_at hl 0 rfl) ?_
      obtain ⟨x10, e11, hf⟩ := mb0 hf
      refine my_gI hx hb hts hown hK hJ fd_RX12_340 hv_12_15 e11 dX12_cam_17 ?_
      refine lv_if_eq (tgt := 30) hx hb dX12_cam_20 (by decide) (fun c12 => ?_) (fun c12 => ?_)
      · rw [if_pos c12] at hf
        exact Ke0 τ (Option.some.inj hf).symm _ _ hJ ls (lv_sub hl [0] rfl)
      · rw [if_neg c12] at hf
        refine lv_aload_n hx hb dX12_cam_23 rfl (lv_at hl 0 rfl) ?_
        obtain ⟨i13, e14, hf⟩ := mb0 hf
        obtain ⟨σ15, e16, hf⟩ := mb0 hf
        refine mx_callV (As := []) (rest := []) hx hb hml hts hown hK hJ rfl rfl (ci := 12) rfl e14 (c_X12_camStatement l G P v0 τ σ15 e16) me_X12_camStatement kw_2692 ks_155 kw_2690 (Nat.le_of_ble_eq_true rfl) (Nat.le_of_ble_eq_true rfl) rfl hl.1 rfl (Nat.le_of_ble_eq_true rfl) dX12_cam_24 (fun H locs hJ => ?_)
        refine lv_goto (tgt := 9) hx hb dX12_cam_27 (by decide) ?_
        exact Kb σ15 (Option.some.inj hf).symm _ _ hJ ls (lv_sub hl [0] rfl)
  have L9 : ∀ (v0 : Nat) (n : Nat)  (τ : mx_S) (o : (mx_S)), mx_lp (f_X12_cam_L9 P v0) n τ = some o → (∀  (υ : mx_S), o = υ → ∀ (H : Heap) (locs : List Loc), mx_J G P s.heap (mxz σ) (mxu σ) υ H locs → ∀ ls : Array Slot, lv_has ls 2 [(0, .ref v0)] → W p l e (mx_rm P 6 138 σ) s m ([.ref a0] : List Value).toArray below meth c H locs (mxz υ - mxz σ) (mxu υ - mxu σ) (mx_Z below G P (some (.int r)) σ σ' [.ref a0] s) (F0 m 30 ls [])) → ∀ (H : Heap) (locs : List Loc), mx_J G P s.heap (mxz σ) (mxu σ) τ H locs → ∀ ls : Array Slot, lv_has ls 2 [(0, .ref v0)] → W p l e (mx_rm P 6 138 σ) s m ([.ref a0] : List Value).toArray below meth c H locs (mxz τ - mxz σ) (mxu τ - mxu σ) (mx_Z below G P (some (.int r)) σ σ' [.ref a0] s) (F0 m 9 ls []) := by
    intro v0 n
    induction n with
    | zero =>
      intro  τ o hf
      rw [mx_lp0] at hf
      cases hf
    | succ n ih =>
      intro  τ o hf Ke0 H locs hJ ls hl
      rw [mx_lpS] at hf
      obtain ⟨b, eb, hf⟩ := mb0 hf
      refine B9 v0  τ b eb (fun  υ ho H locs hJ ls hl => ?_) (fun  υ ho H locs hJ ls hl => ?_) H locs hJ ls hl
      · subst ho
        exact ih  υ o hf Ke0 H locs hJ ls hl
      · subst ho
        exact Ke0  υ (Option.some.inj hf).symm _ _ hJ ls hl
  have B71 : ∀ (v0 : Nat) (v1 : Int32) (τ : mx_S) (o : (Int32 × mx_S) ⊕ ((mx_S))), f_X12_cam_B71 P v0 v1 τ = some o → (∀ (y1 : Int32) (υ : mx_S), o = .inl (y1, υ) → ∀ (H : Heap) (locs : List Loc), mx_J G P s.heap (mxz σ) (mxu σ) υ H locs → ∀ ls : Array Slot, lv_has ls 2 [(0, .ref v0), (1, .int y1)] → W p l e (mx_rm P 6 138 σ) s m ([.ref a0] : List Value).toArray below meth c H locs (mxz υ - mxz σ) (mxu υ - mxu σ) (mx_Z below G P (some (.int r)) σ σ' [.ref a0] s) (F0 m 71 ls [])) → (∀  (υ : mx_S), o = .inr υ → ∀ (H : Heap) (locs : List Loc), mx_J G P s.heap (mxz σ) (mxu σ) υ H locs → ∀ ls : Array Slot, lv_has ls 2 [(0, .ref v0)] → W p l e (mx_rm P 6 138 σ) s m ([.ref a0] : List Value).toArray below meth c H locs (mxz υ - mxz σ) (mxu υ - mxu σ) (mx_Z below G P (some (.int r)) σ σ' [.ref a0] s) (F0 m 145 ls [])) → ∀ (H : Heap) (locs : List Loc), mx_J G P s.heap (mxz σ) (mxu σ) τ H locs → ∀ ls : Array Slot, lv_has ls 2 [(0, .ref v0), (1, .int v1)] → W p l e (mx_rm P 6 138 σ) s m ([.ref a0] : List Value).toArray below meth c H locs (mxz τ - mxz σ) (mxu τ - mxu σ) (mx_Z below G P (some (.int r)) σ σ' [.ref a0] s) (F0 m 71 ls []) := by
    intro v0 v1 τ o hf Kb Ke0 H locs hJ ls hl
    unfold f_X12_cam_B71 at hf
    refine lv_iload_n hx hb dX12_cam_71 rfl (lv_at hl 1 rfl) ?_
    refine lv_aload_n hx hb dX12_cam_72 rfl (lv_at hl 0 rfl) ?_
    obtain ⟨x34, e35, hf⟩ := mb0 hf
    refine my_gI hx hb hts hown hK hJ fd_RX12_685 hv_12_74 e35 dX12_cam_73 ?_
    refine lv_icmp_ge (tgt := 145) hx hb dX12_cam_76 (by decide) (fun c36 => ?_) (fun c36 => ?_)
    · rw [if_pos c36] at hf
      exact Ke0 τ (Option.some.inj hf).symm _ _ hJ ls (lv_sub hl [0] rfl)
    · rw [if_neg c36] at hf
      refine lv_aload_n hx hb dX12_cam_79 rfl (lv_at hl 0 rfl) ?_
      obtain ⟨b37, e38, hf⟩ := mb0 hf
      refine my_gR hx hb hts hown hK hJ fd_RX12_156 hv_12_75 e38 dX12_cam_80 ?_
      refine lv_iload_n hx hb dX12_cam_83 rfl (lv_at hl 1 rfl) ?_
      refine lv_aload_n hx hb dX12_cam_84 rfl (lv_at hl 0 rfl) ?_
      obtain ⟨b39, e40, hf⟩ := mb0 hf
      refine my_gR hx hb hts hown hK hJ fd_RX12_171 hv_12_81 e40 dX12_cam_85 ?_
      refine lv_iload_n hx hb dX12_cam_88 rfl (lv_at hl 1 rfl) ?_
      obtain ⟨x41, e42, hf⟩ := mb0 hf
      refine mx_aI hx hb hK hJ e42 dX12_cam_89 ?_
      obtain ⟨σ43, e44, hf⟩ := mb0 hf
      refine mx_sI hx hb hK hJ e44 dX12_cam_90 (fun H locs hJ => ?_)
      refine lv_aload_n hx hb dX12_cam_91 rfl (lv_at hl 0 rfl) ?_
      obtain ⟨b45, e46, hf⟩ := mb0 hf
      refine my_gR hx hb hts hown hK hJ fd_RX12_159 hv_12_76 e46 dX12_cam_92 ?_
      refine lv_iload_n hx hb dX12_cam_95 rfl (lv_at hl 1 rfl) ?_
      refine lv_aload_n hx hb dX12_cam_96 rfl (lv_at hl 0 rfl) ?_
      obtain ⟨b47, e48, hf⟩ := mb0 hf
      refine my_gR hx hb hts hown hK hJ fd_RX12_174 hv_12_82 e48 dX12_cam_97 ?_
      refine lv_iload_n hx hb dX12_cam_100 rfl (lv_at hl 1 rfl) ?_
      obtain ⟨x49, e50, hf⟩ := mb0 hf
      refine mx_aI hx hb hK hJ e50 dX12_cam_101 ?_
      obtain ⟨σ51, e52, hf⟩ := mb0 hf
      refine mx_sI hx hb hK hJ e52 dX12_cam_102 (fun H locs hJ => ?_)
      refine lv_aload_n hx hb dX12_cam_103 rfl (lv_at hl 0 rfl) ?_
      obtain ⟨b53, e54, hf⟩ := mb0 hf
      refine my_gR hx hb hts hown hK hJ fd_RX12_162 hv_12_77 e54 dX12_cam_104 ?_
      refine lv_iload_n hx hb dX12_cam_107 rfl (lv_at hl 1 rfl) ?_
      refine lv_aload_n hx hb dX12_cam_108 rfl (lv_at hl 0 rfl) ?_
      obtain ⟨b55, e56, hf⟩ := mb0 hf
      refine my_gR hx hb hts hown hK hJ fd_RX12_177 hv_12_83 e56 dX12_cam_109 ?_
      refine lv_iload_n hx hb dX12_cam_112 rfl (lv_at hl 1 rfl) ?_
      obtain ⟨x57, e58, hf⟩ := mb0 hf
      refine mx_aL hx hb hK hJ e58 dX12_cam_113 ?_
      obtain ⟨σ59, e60, hf⟩ := mb0 hf
      refine mx_sL hx hb hK hJ e60 dX12_cam_114 (fun H locs hJ => ?_)
      refine lv_aload_n hx hb dX12_cam_115 rfl (lv_at hl 0 rfl) ?_
      obtain ⟨b61, e62, hf⟩ := mb0 hf
      refine my_gR hx hb hts hown hK hJ fd_RX12_165 hv_12_78 e62 dX12_cam_116 ?_
      refine lv_iload_n hx hb dX12_cam_119 rfl (lv_at hl 1 rfl) ?_
      refine lv_aload_n hx hb dX12_cam_120 rfl (lv_at hl 0 rfl) ?_
      obtain ⟨b63, e64, hf⟩ := mb0 hf
      refine my_gR hx hb hts hown hK hJ fd_RX12_180 hv_12_84 e64 dX12_cam_121 ?_
      refine lv_iload_n hx hb dX12_cam_124 rfl (lv_at hl 1 rfl) ?_
      obtain ⟨x65, e66, hf⟩ := mb0 hf
      refine mx_aL hx hb hK hJ e66 dX12_cam_125 ?_
      obtain ⟨σ67, e68, hf⟩ := mb0 hf
      refine mx_sL hx hb hK hJ e68 dX12_cam_126 (fun H locs hJ => ?_)
      refine lv_aload_n hx hb dX12_cam_127 rfl (lv_at hl 0 rfl) ?_
      obtain ⟨b69, e70, hf⟩ := mb0 hf
      refine my_gR hx hb hts hown hK hJ fd_RX12_168 hv_12_79 e70 dX12_cam_128 ?_
      refine lv_iload_n hx hb dX12_cam_131 rfl (lv_at hl 1 rfl) ?_
      refine lv_aload_n hx hb dX12_cam_132 rfl (lv_at hl 0 rfl) ?_
      obtain ⟨b71, e72, hf⟩ := mb0 hf
      refine my_gR hx hb hts hown hK hJ fd_RX12_183 hv_12_85 e72 dX12_cam_133 ?_
      refine lv_iload_n hx hb dX12_cam_136 rfl (lv_at hl 1 rfl) ?_
      obtain ⟨x73, e74, hf⟩ := mb0 hf
      refine mx_aI hx hb hK hJ e74 dX12_cam_137 ?_
      obtain ⟨σ75, e76, hf⟩ := mb0 hf
      refine mx_sI hx hb hK hJ e76 dX12_cam_138 (fun H locs hJ => ?_)
      obtain ⟨x77, e78, hf⟩ := mb0 hf
      refine lv_iinc (v := x77) (lv' := [(1, .int x77), (0, .ref v0)]) hx hb dX12_cam_139 hl (k := 1) rfl (by rw [← Option.some.inj e78]; rfl) (by decide) rfl (fun ls hl => ?_)
      refine lv_goto (tgt := 71) hx hb dX12_cam_142 (by decide) ?_
      exact Kb x77 σ75 (Option.some.inj hf).symm _ _ hJ ls (lv_sub hl [1, 0] rfl)
  have L71 : ∀ (v0 : Nat) (n : Nat) (v1 : Int32) (τ : mx_S) (o : (mx_S)), mx_lp (f_X12_cam_L71 P v0) n (v1, τ) = some o → (∀  (υ : mx_S), o = υ → ∀ (H : Heap) (locs : List Loc), mx_J G P s.heap (mxz σ) (mxu σ) υ H locs → ∀ ls : Array Slot, lv_has ls 2 [(0, .ref v0)] → W p l e (mx_rm P 6 138 σ) s m ([.ref a0] : List Value).toArray below meth c H locs (mxz υ - mxz σ) (mxu υ - mxu σ) (mx_Z below G P (some (.int r)) σ σ' [.ref a0] s) (F0 m 145 ls [])) → ∀ (H : Heap) (locs : List Loc), mx_J G P s.heap (mxz σ) (mxu σ) τ H locs → ∀ ls : Array Slot, lv_has ls 2 [(0, .ref v0), (1, .int v1)] → W p l e (mx_rm P 6 138 σ) s m ([.ref a0] : List Value).toArray below meth c H locs (mxz τ - mxz σ) (mxu τ - mxu σ) (mx_Z below G P (some (.int r)) σ σ' [.ref a0] s) (F0 m 71 ls []) := by
    intro v0 n
    induction n with
    | zero =>
      intro v1 τ o hf
      rw [mx_lp0] at hf
      cases hf
    | succ n ih =>
      intro v1 τ o hf Ke0 H locs hJ ls hl
      rw [mx_lpS] at hf
      obtain ⟨b, eb, hf⟩ := mb0 hf
      refine B71 v0 v1 τ b eb (fun y1 υ ho H locs hJ ls hl => ?_) (fun  υ ho H locs hJ ls hl => ?_) H locs hJ ls hl
      · subst ho
        exact ih y1 υ o hf Ke0 H locs hJ ls hl
      · subst ho
        exact Ke0  υ (Option.some.inj hf).symm _ _ hJ ls hl
  have D48 : ∀ (v0 : Nat) (τ : mx_S), f_X12_cam_D48 P v0 τ = some (r, σ') → ∀ (H : Heap) (locs : List Loc), mx_J G P s.heap (mxz σ) (mxu σ) τ H locs → ∀ ls : Array Slot, lv_has ls 2 [(0, .ref v0)] → W p l e (mx_rm P 6 138 σ) s m ([.ref a0] : List Value).toArray below meth c H locs (mxz τ - mxz σ) (mxu τ - mxu σ) (mx_Z below G P (some (.int r)) σ σ' [.ref a0] s) (F0 m 48 ls []) := by
    intro v0 τ hf _ _ hJ ls hl
    unfold f_X12_cam_D48 at hf
    refine lv_aload_n hx hb dX12_cam_48 rfl (lv_at hl 0 rfl) ?_
    obtain ⟨i23, e24, hf⟩ := mb0 hf
    obtain ⟨σ25, e26, hf⟩ := mb0 hf
    refine mx_callV (As := []) (rest := []) hx hb hml hts hown hK hJ rfl rfl (ci := 12) rfl e24 (c_X12_tossFault l G P v0 τ σ25 e26) me_X12_tossFault kw_2344 ks_102 kw_2342 (Nat.le_of_ble_eq_true rfl) (Nat.le_of_ble_eq_true rfl) rfl hl.1 rfl (Nat.le_of_ble_eq_true rfl) dX12_cam_49 (fun H locs hJ => ?_)
    refine lv_aload_n hx hb dX12_cam_52 rfl (lv_at hl 0 rfl) ?_
    obtain ⟨x27, e28, hf⟩ := mb0 hf
    refine my_gI hx hb hts hown hK hJ fd_RX12_243 hv_12_0 e28 dX12_cam_53 ?_
    refine lv_if_le (tgt := 61) hx hb dX12_cam_56 (by decide) (fun c29 => ?_) (fun c29 => ?_)
    · rw [if_pos c29] at hf
      refine lv_aload_n hx hb dX12_cam_61 rfl (lv_at hl 0 rfl) ?_
      refine lv_aload_n hx hb dX12_cam_62 rfl (lv_at hl 0 rfl) ?_
      obtain ⟨x30, e31, hf⟩ := mb0 hf
      refine my_gI hx hb hts hown hK hJ fd_RX12_674 hv_12_80 e31 dX12_cam_63 ?_
      obtain ⟨σ32, e33, hf⟩ := mb0 hf
      refine my_pI hx hb hts hown hK hJ fd_RX12_685 cd_12 (Or.inl rfl) ht_12_74 e33 dX12_cam_66 (fun H locs hJ => ?_)
      refine lv_iconst (v := 0) hx hb dX12_cam_69 (by decide) ?_
      refine lv_istore_n (lv' := [(1, .int (0 : Int32)), (0, .ref v0)]) hx hb dX12_cam_70 rfl hl (by decide) rfl (fun ls hl => ?_)
      obtain ⟨o79, e80, hf⟩ := mb0 hf
      refine L71 v0 (mpN P) (0 : Int32) σ32 o79 e80 (fun σ81 ho H locs hJ ls hl => ?_) _ _ hJ ls (lv_sub hl [1, 0] rfl)
      · rw [ho] at hf
        have hf : ((mg_I σ81 v0 12 74).bind fun x82 => some (x82, σ81)) = some (r, σ') := hf
        refine lv_aload_n hx hb dX12_cam_145 rfl (lv_at hl 0 rfl) ?_
        obtain ⟨x82, e83, hf⟩ := mb0 hf
        refine my_gI hx hb hts hown hK hJ fd_RX12_685 hv_12_74 e83 dX12_cam_146 ?_
        exact my_iret hx hb hr hlocks hJ hf dX12_cam_149
    · rw [if_neg c29] at hf
      refine lv_iconst (v := 0) hx hb dX12_cam_59 (by decide) ?_
      exact my_iret hx hb hr hlocks hJ hf dX12_cam_60
  have D30 : ∀ (v0 : Nat) (τ : mx_S), f_X12_cam_D30 P v0 τ = some (r, σ') → ∀ (H : Heap) (locs : List Loc), mx_J G P s.heap (mxz σ) (mxu σ) τ H locs → ∀ ls : Array Slot, lv_has ls 2 [(0, .ref v0)] → W p l e (mx_rm P 6 138 σ) s m ([.ref a0] : List Value).toArray below meth c H locs (mxz τ - mxz σ) (mxu τ - mxu σ) (mx_Z below G P (some (.int r)) σ σ' [.ref a0] s) (F0 m 30 ls []) := by
    intro v0 τ hf _ _ hJ ls hl
    unfold f_X12_cam_D30 at hf
    refine lv_aload_n hx hb dX12_cam_30 rfl (lv_at hl 0 rfl) ?_
    obtain ⟨x20, e21, hf⟩ := mb0 hf
    refine my_gI hx hb hts hown hK hJ fd_RX12_266 hv_12_4 e21 dX12_cam_31 ?_
    refine lv_if_ne (tgt := 48) hx hb dX12_cam_34 (by decide) (fun c22 => ?_) (fun c22 => ?_)
    · rw [if_neg c22] at hf
      exact D48 v0 τ hf _ _ hJ ls (lv_sub hl [0] rfl)
    · rw [if_pos c22] at hf
      refine lv_aload_n hx hb dX12_cam_37 rfl (lv_at hl 0 rfl) ?_
      obtain ⟨x84, e85, hf⟩ := mb0 hf
      refine my_gI hx hb hts hown hK hJ fd_RX12_275 hv_12_6 e85 dX12_cam_38 ?_
      refine lv_if_ne (tgt := 48) hx hb dX12_cam_41 (by decide) (fun c86 => ?_) (fun c86 => ?_)
      · rw [if_neg c86] at hf
        exact D48 v0 τ hf _ _ hJ ls (lv_sub hl [0] rfl)
      · rw [if_pos c86] at hf
        refine lv_aload_n hx hb dX12_cam_44 rfl (lv_at hl 0 rfl) ?_
        obtain ⟨i87, e88, hf⟩ := mb0 hf
        obtain ⟨σ89, e90, hf⟩ := mb0 hf
        refine mx_callV (As := []) (rest := []) hx hb hml hts hown hK hJ rfl rfl (ci := 12) rfl e88 (c_X12_camSums l G P v0 τ σ89 e90) me_X12_camSums kw_2700 ks_156 kw_2698 (Nat.le_of_ble_eq_true rfl) (Nat.le_of_ble_eq_true rfl) rfl hl.1 rfl (Nat.le_of_ble_eq_true rfl) dX12_cam_45 (fun H locs hJ => ?_)
        exact D48 v0 σ89 hf _ _ hJ ls (lv_sub hl [0] rfl)
  unfold f_X12_cam at hf
  refine lv_aload_n hx hb dX12_cam_0 rfl (lv_at hl 0 rfl) ?_
  obtain ⟨i1, e2, hf⟩ := mb0 hf
  obtain ⟨σ3, e4, hf⟩ := mb0 hf
  refine mx_callV (As := []) (rest := []) hx hb hml hts hown hK hJ rfl rfl (ci := 12) rfl e2 (c_X12_starts l G P a0 σ σ3 e4) me_X12_starts kw_2235 ks_80 kw_2233 (Nat.le_of_ble_eq_true rfl) (Nat.le_of_ble_eq_true rfl) rfl hl.1 rfl (Nat.le_of_ble_eq_true rfl) dX12_cam_1 (fun H locs hJ => ?_)
  refine lv_aload_n hx hb dX12_cam_4 rfl (lv_at hl 0 rfl) ?_
  refine lv_iconst (v := 0) hx hb dX12_cam_5 (by decide) ?_
  obtain ⟨σ5, e6, hf⟩ := mb0 hf
  refine my_pI hx hb hts hown hK hJ fd_RX12_674 cd_12 (Or.inl rfl) ht_12_80 e6 dX12_cam_6 (fun H locs hJ => ?_)
  obtain ⟨o17, e18, hf⟩ := mb0 hf
  refine L9 a0 (mpN P)  σ5 o17 e18 (fun σ19 ho H locs hJ ls hl => ?_) _ _ hJ ls (lv_sub hl [0] rfl)
  · rw [ho] at hf
    have hf : (f_X12_cam_D30 P a0 σ19) = some (r, σ') := hf
    exact D30 a0 σ19 hf _ _ hJ ls (lv_sub hl [0] rfl)
set_option maxHeartbeats 4000000 in
set_option maxRecDepth 100000 in
theorem c_X12_plus (l : Launch) (G : mx_G) (P : mx_P) (a0 : Nat) (p1 : Int64) (σ : mx_S) (σ' : mx_S) (hf : f_X12_plus P a0 p1 σ = some σ') : mxz σ ≤ mpc P → mxu σ ≤ mps P → mx_M l yX12_plus cX12_plus 3 none 4 112 G P [.ref a0, .long p1] σ none σ' := by
  intro hcap hcau
  refine mx_ofW (by decide +kernel) hcap hcau (Nat.le_of_ble_eq_true rfl) ?_
  intro p e s m below meth c hx hb hr hml hts hown hlocks hname hK hJ ls hl
  have hz0 := hJ.2.1
  have hown : s.vm.findClass RX12 = some m.cls := hown
  have hl : lv_has ls 3 [(0, .ref a0), (1, .long p1)] := hl
  unfold f_X12_plus at hf
  refine lv_aload_n hx hb dX12_plus_0 rfl (lv_at hl 0 rfl) ?_
  refine lv_aload_n hx hb dX12_plus_1 rfl (lv_at hl 0 rfl) ?_
  obtain ⟨x1, e2, hf⟩ := mb0 hf
  refine my_gL hx hb hts hown hK hJ fd_RX12_287 hv_12_8 e2 dX12_plus_2 ?_
  refine lv_aload_n hx hb dX12_plus_5 rfl (lv_at hl 0 rfl) ?_
  obtain ⟨x3, e4, hf⟩ := mb0 hf
  refine my_gL hx hb hts hown hK hJ fd_RX12_291 hv_12_9 e4 dX12_plus_6 ?_
  refine lv_lload_n hx hb dX12_plus_9 rfl (lv_at hl 1 rfl) ?_
  refine lv_lconst (v := 1) hx hb dX12_plus_10 (by decide) ?_
  obtain ⟨i5, e6, hf⟩ := mb0 hf
  obtain ⟨σ7, e8, hf⟩ := mb0 hf
  refine mx_callV (As := [.long x1, .long x3, .long p1, .long (1 : Int64)]) (rest := []) hx hb hml hts hown hK hJ rfl rfl (ci := 12) rfl e6 (c_X12_sum l G P a0 x1 x3 p1 (1 : Int64) σ σ7 e8) me_X12_sum kw_2662 ks_154 kw_2660 (Nat.le_of_ble_eq_true rfl) (Nat.le_of_ble_eq_true rfl) rfl hl.1 rfl (Nat.le_of_ble_eq_true rfl) dX12_plus_11 (fun H locs hJ => ?_)
  exact my_vret hx hb hr hlocks hJ hf dX12_plus_14
set_option maxHeartbeats 4000000 in
set_option maxRecDepth 100000 in
theorem c_X12_byT (l : Launch) (G : mx_G) (P : mx_P) (a0 : Nat) (p1 : Int64) (p3 : Int64) (σ : mx_S) (σ' : mx_S) (hf : f_X12_byT P a0 p1 p3 σ = some σ') : mxz σ ≤ mpc P → mxu σ ≤ mps P → mx_M l yX12_byT cX12_byT 5 none 4 112 G P [.ref a0, .long p1, .long p3] σ none σ' := by
  intro hcap hcau
  refine mx_ofW (by decide +kernel) hcap hcau (Nat.le_of_ble_eq_true rfl) ?_
  intro p e s m below meth c hx hb hr hml hts hown hlocks hname hK hJ ls hl
  have hz0 := hJ.2.1
  have hown : s.vm.findClass RX12 = some m.cls := hown
  have hl : lv_has ls 5 [(0, .ref a0), (1, .long p1), (3, .long p3)] := hl
  unfold f_X12_byT at hf
  refine lv_aload_n hx hb dX12_byT_0 rfl (lv_at hl 0 rfl) ?_
  refine lv_aload_n hx hb dX12_byT_1 rfl (lv_at hl 0 rfl) ?_
  obtain ⟨x1, e2, hf⟩ := mb0 hf
  refine my_gL hx hb hts hown hK hJ fd_RX12_287 hv_12_8 e2 dX12_byT_2 ?_
  refine lv_aload_n hx hb dX12_byT_5 rfl (lv_at hl 0 rfl) ?_
  obtain ⟨x3, e4, hf⟩ := mb0 hf
  refine my_gL hx hb hts hown hK hJ fd_RX12_291 hv_12_9 e4 dX12_byT_6 ?_
  refine lv_lload_n hx hb dX12_byT_9 rfl (lv_at hl 1 rfl) ?_
  refine lv_lload_n hx hb dX12_byT_10 rfl (lv_at hl 2 rfl) ?_
  obtain ⟨i5, e6, hf⟩ := mb0 hf
  obtain ⟨σ7, e8, hf⟩ := mb0 hf
  refine mx_callV (As := [.long x1, .long x3, .long p1, .long p3]) (rest := []) hx hb hml hts hown hK hJ rfl rfl (ci := 12) rfl e6 (c_X12_times l G P a0 x1 x3 p1 p3 σ σ7 e8) me_X12_times kw_2650 ks_151 kw_2648 (Nat.le_of_ble_eq_true rfl) (Nat.le_of_ble_eq_true rfl) rfl hl.1 rfl (Nat.le_of_ble_eq_true rfl) dX12_byT_11 (fun H locs hJ => ?_)
  exact my_vret hx hb hr hlocks hJ hf dX12_byT_14
set_option maxHeartbeats 4000000 in
set_option maxRecDepth 100000 in
theorem c_X12_lawAt (l : Launch) (G : mx_G) (P : mx_P) (a0 : Nat) (p1 : Int32) (p2 : Int64) (p4 : Int64) (σ : mx_S) (σ' : mx_S) (hf : f_X12_lawAt P a0 p1 p2 p4 σ = some σ') : mxz σ ≤ mpc P → mxu σ ≤ mps P → mx_M l yX12_lawAt cX12_lawAt 10 none 5 136 G P [.ref a0, .int p1, .long p2, .long p4] σ none σ' := by
  intro hcap hcau
  refine mx_ofW (by decide +kernel) hcap hcau (Nat.le_of_ble_eq_true rfl) ?_
  intro p e s m below meth c hx hb hr hml hts hown hlocks hname hK hJ ls hl
  have hz0 := hJ.2.1
  have hown : s.vm.findClass RX12 = some m.cls := hown
  have hl : lv_has ls 10 [(0, .ref a0), (1, .int p1), (2, .long p2), (4, .long p4)] := hl
  have D208 : ∀ (v0 : Nat) (v2 : Int64) (v4 : Int64) (τ : mx_S), f_X12_lawAt_D208 P v0 v2 v4 τ = some σ' → ∀ (H : Heap) (locs : List Loc), mx_J G P s.heap (mxz σ) (mxu σ) τ H locs → ∀ ls : Array Slot, lv_has ls 10 [(0, .ref v0), (2, .long v2), (4, .long v4)] → W p l e (mx_rm P 5 136 σ) s m ([.ref a0, .int p1, .long p2, .long p4] : List Value).toArray below meth c H locs (mxz τ - mxz σ) (mxu τ - mxu σ) (mx_Z below G P none σ σ' [.ref a0, .int p1, .long p2, .long p4] s) (F0 m 208 ls []) := by
    intro v0 v2 v4 τ hf _ _ hJ ls hl
    unfold f_X12_lawAt_D208 at hf
    refine lv_aload_n hx hb dX12_lawAt_208 rfl (lv_at hl 0 rfl) ?_
    refine lv_lload_n hx hb dX12_lawAt_209 rfl (lv_at hl 1 rfl) ?_
    refine lv_lload hx hb dX12_lawAt_210 (lv_at hl 2 rfl) ?_
    obtain ⟨i31, e32, hf⟩ := mb0 hf
    obtain ⟨σ33, e34, hf⟩ := mb0 hf
    refine mx_callV (As := [.long v2, .long v4]) (rest := []) hx hb hml hts hown hK hJ rfl rfl (ci := 12) rfl e32 (c_X12_byT l G P v0 v2 v4 τ σ33 e34) me_X12_byT kw_2712 ks_158 kw_2710 (Nat.le_of_ble_eq_true rfl) (Nat.le_of_ble_eq_true rfl) rfl hl.1 rfl (Nat.le_of_ble_eq_true rfl) dX12_lawAt_212 (fun H locs hJ => ?_)
    refine lv_aload_n hx hb dX12_lawAt_215 rfl (lv_at hl 0 rfl) ?_
    refine lv_lload_n hx hb dX12_lawAt_216 rfl (lv_at hl 1 rfl) ?_
    refine lv_lload hx hb dX12_lawAt_217 (lv_at hl 2 rfl) ?_
    obtain ⟨i35, e36, hf⟩ := mb0 hf
    obtain ⟨σ37, e38, hf⟩ := mb0 hf
    refine mx_callV (As := [.long v2, .long v4]) (rest := []) hx hb hml hts hown hK hJ rfl rfl (ci := 12) rfl e36 (c_X12_byT l G P v0 v2 v4 σ33 σ37 e38) me_X12_byT kw_2712 ks_158 kw_2710 (Nat.le_of_ble_eq_true rfl) (Nat.le_of_ble_eq_true rfl) rfl hl.1 rfl (Nat.le_of_ble_eq_true rfl) dX12_lawAt_219 (fun H locs hJ => ?_)
    exact my_vret hx hb hr hlocks hJ hf dX12_lawAt_222
  have D172 : ∀ (v0 : Nat) (v1 : Int32) (v2 : Int64) (v4 : Int64) (w0 : Int64) (w1 : Nat) (τ : mx_S), f_X12_lawAt_D172 P v0 v1 v2 v4 w0 w1 τ = some σ' → ∀ (H : Heap) (locs : List Loc), mx_J G P s.heap (mxz σ) (mxu σ) τ H locs → ∀ ls : Array Slot, lv_has ls 10 [(0, .ref v0), (1, .int v1), (2, .long v2), (4, .long v4)] → W p l e (mx_rm P 5 136 σ) s m ([.ref a0, .int p1, .long p2, .long p4] : List Value).toArray below meth c H locs (mxz τ - mxz σ) (mxu τ - mxu σ) (mx_Z below G P none σ σ' [.ref a0, .int p1, .long p2, .long p4] s) (F0 m 172 ls [.long w0, .ref w1]) := by
    intro v0 v1 v2 v4 w0 w1 τ hf _ _ hJ ls hl
    unfold f_X12_lawAt_D172 at hf
    obtain ⟨i22, e23, hf⟩ := mb0 hf
    obtain ⟨σ24, e25, hf⟩ := mb0 hf
    refine mx_callV (As := [.long w0]) (rest := []) hx hb hml hts hown hK hJ rfl rfl (ci := 12) rfl e23 (c_X12_plus l G P w1 w0 τ σ24 e25) me_X12_plus kw_2720 ks_159 kw_2718 (Nat.le_of_ble_eq_true rfl) (Nat.le_of_ble_eq_true rfl) rfl hl.1 rfl (Nat.le_of_ble_eq_true rfl) dX12_lawAt_172 (fun H locs hJ => ?_)
    refine lv_aload_n hx hb dX12_lawAt_175 rfl (lv_at hl 0 rfl) ?_
    refine lv_lload_n hx hb dX12_lawAt_176 rfl (lv_at hl 2 rfl) ?_
    refine lv_lload hx hb dX12_lawAt_177 (lv_at hl 3 rfl) ?_
    obtain ⟨i26, e27, hf⟩ := mb0 hf
    obtain ⟨σ28, e29, hf⟩ := mb0 hf
    refine mx_callV (As := [.long v2, .long v4]) (rest := []) hx hb hml hts hown hK hJ rfl rfl (ci := 12) rfl e27 (c_X12_byT l G P v0 v2 v4 σ24 σ28 e29) me_X12_byT kw_2712 ks_158 kw_2710 (Nat.le_of_ble_eq_true rfl) (Nat.le_of_ble_eq_true rfl) rfl hl.1 rfl (Nat.le_of_ble_eq_true rfl) dX12_lawAt_179 (fun H locs hJ => ?_)
    refine lv_iload_n hx hb dX12_lawAt_182 rfl (lv_at hl 1 rfl) ?_
    refine lv_iconst (v := 4) hx hb dX12_lawAt_183 (by decide) ?_
    refine lv_icmp_ne (tgt := 208) hx hb dX12_lawAt_184 (by decide) (fun c30 => ?_) (fun c30 => ?_)
    · rw [if_neg c30] at hf
      exact D208 v0 v2 v4 σ28 hf _ _ hJ ls (lv_sub hl [0, 2, 3] rfl)
    · rw [if_pos c30] at hf
      refine lv_aload_n hx hb dX12_lawAt_187 rfl (lv_at hl 0 rfl) ?_
      refine lv_ldc2 hx hb hown (hts _ kw_2724) dX12_lawAt_188 ?_
      obtain ⟨i39, e40, hf⟩ := mb0 hf
      obtain ⟨σ41, e42, hf⟩ := mb0 hf
      refine mx_callV (As := [.long (35 : Int64)]) (rest := []) hx hb hml hts hown hK hJ rfl rfl (ci := 12) rfl e40 (c_X12_plus l G P v0 (35 : Int64) σ28 σ41 e42) me_X12_plus kw_2720 ks_159 kw_2718 (Nat.le_of_ble_eq_true rfl) (Nat.le_of_ble_eq_true rfl) rfl hl.1 rfl (Nat.le_of_ble_eq_true rfl) dX12_lawAt_191 (fun H locs hJ => ?_)
      refine lv_aload_n hx hb dX12_lawAt_194 rfl (lv_at hl 0 rfl) ?_
      refine lv_lload_n hx hb dX12_lawAt_195 rfl (lv_at hl 2 rfl) ?_
      refine lv_lload hx hb dX12_lawAt_196 (lv_at hl 3 rfl) ?_
      obtain ⟨i43, e44, hf⟩ := mb0 hf
      obtain ⟨σ45, e46, hf⟩ := mb0 hf
      refine mx_callV (As := [.long v2, .long v4]) (rest := []) hx hb hml hts hown hK hJ rfl rfl (ci := 12) rfl e44 (c_X12_byT l G P v0 v2 v4 σ41 σ45 e46) me_X12_byT kw_2712 ks_158 kw_2710 (Nat.le_of_ble_eq_true rfl) (Nat.le_of_ble_eq_true rfl) rfl hl.1 rfl (Nat.le_of_ble_eq_true rfl) dX12_lawAt_198 (fun H locs hJ => ?_)
      refine lv_aload_n hx hb dX12_lawAt_201 rfl (lv_at hl 0 rfl) ?_
      refine lv_lload_n hx hb dX12_lawAt_202 rfl (lv_at hl 2 rfl) ?_
      refine lv_lload hx hb dX12_lawAt_203 (lv_at hl 3 rfl) ?_
      obtain ⟨i47, e48, hf⟩ := mb0 hf
      obtain ⟨σ49, e50, hf⟩ := mb0 hf
      refine mx_callV (As := [.long v2, .long v4]) (rest := []) hx hb hml hts hown hK hJ rfl rfl (ci := 12) rfl e48 (c_X12_byT l G P v0 v2 v4 σ45 σ49 e50) me_X12_byT kw_2712 ks_158 kw_2710 (Nat.le_of_ble_eq_true rfl) (Nat.le_of_ble_eq_true rfl) rfl hl.1 rfl (Nat.le_of_ble_eq_true rfl) dX12_lawAt_205 (fun H locs hJ => ?_)
      exact D208 v0 v2 v4 σ49 hf _ _ hJ ls (lv_sub hl [0, 2, 3] rfl)
  have D147 : ∀ (v0 : Nat) (v1 : Int32) (v2 : Int64) (v4 : Int64) (w0 : Int64) (w1 : Nat) (τ : mx_S), f_X12_lawAt_D147 P v0 v1 v2 v4 w0 w1 τ = some σ' → ∀ (H : Heap) (locs : List Loc), mx_J G P s.heap (mxz σ) (mxu σ) τ H locs → ∀ ls : Array Slot, lv_has ls 10 [(0, .ref v0), (1, .int v1), (2, .long v2), (4, .long v4)] → W p l e (mx_rm P 5 136 σ) s m ([.ref a0, .int p1, .long p2, .long p4] : List Value).toArray below meth c H locs (mxz τ - mxz σ) (mxu τ - mxu σ) (mx_Z below G P none σ σ' [.ref a0, .int p1, .long p2, .long p4] s) (F0 m 147 ls [.long w0, .ref w1]) := by
    intro v0 v1 v2 v4 w0 w1 τ hf _ _ hJ ls hl
    unfold f_X12_lawAt_D147 at hf
    obtain ⟨i13, e14, hf⟩ := mb0 hf
    obtain ⟨σ15, e16, hf⟩ := mb0 hf
    refine mx_callV (As := [.long w0]) (rest := []) hx hb hml hts hown hK hJ rfl rfl (ci := 12) rfl e14 (c_X12_plus l G P w1 w0 τ σ15 e16) me_X12_plus kw_2720 ks_159 kw_2718 (Nat.le_of_ble_eq_true rfl) (Nat.le_of_ble_eq_true rfl) rfl hl.1 rfl (Nat.le_of_ble_eq_true rfl) dX12_lawAt_147 (fun H locs hJ => ?_)
    refine lv_aload_n hx hb dX12_lawAt_150 rfl (lv_at hl 0 rfl) ?_
    refine lv_lload_n hx hb dX12_lawAt_151 rfl (lv_at hl 2 rfl) ?_
    refine lv_lload hx hb dX12_lawAt_152 (lv_at hl 3 rfl) ?_
    obtain ⟨i17, e18, hf⟩ := mb0 hf
    obtain ⟨σ19, e20, hf⟩ := mb0 hf
    refine mx_callV (As := [.long v2, .long v4]) (rest := []) hx hb hml hts hown hK hJ rfl rfl (ci := 12) rfl e18 (c_X12_byT l G P v0 v2 v4 σ15 σ19 e20) me_X12_byT kw_2712 ks_158 kw_2710 (Nat.le_of_ble_eq_true rfl) (Nat.le_of_ble_eq_true rfl) rfl hl.1 rfl (Nat.le_of_ble_eq_true rfl) dX12_lawAt_154 (fun H locs hJ => ?_)
    refine lv_aload_n hx hb dX12_lawAt_157 rfl (lv_at hl 0 rfl) ?_
    refine lv_iload_n hx hb dX12_lawAt_158 rfl (lv_at hl 1 rfl) ?_
    refine lv_iconst (v := 3) hx hb dX12_lawAt_159 (by decide) ?_
    refine lv_icmp_ne (tgt := 169) hx hb dX12_lawAt_160 (by decide) (fun c21 => ?_) (fun c21 => ?_)
    · rw [if_neg c21] at hf
      refine lv_ldc2 hx hb hown (hts _ kw_2723) dX12_lawAt_169 ?_
      exact D172 v0 v1 v2 v4 (-84 : Int64) v0 σ19 hf _ _ hJ ls (lv_sub hl [0, 1, 2, 3] rfl)
    · rw [if_pos c21] at hf
      refine lv_ldc2 hx hb hown (hts _ kw_2722) dX12_lawAt_163 ?_
      refine lv_goto (tgt := 172) hx hb dX12_lawAt_166 (by decide) ?_
      exact D172 v0 v1 v2 v4 (10 : Int64) v0 σ19 hf _ _ hJ ls (lv_sub hl [0, 1, 2, 3] rfl)
  have D125 : ∀ (v0 : Nat) (v1 : Int32) (v2 : Int64) (v4 : Int64) (w0 : Int64) (w1 : Nat) (τ : mx_S), f_X12_lawAt_D125 P v0 v1 v2 v4 w0 w1 τ = some σ' → ∀ (H : Heap) (locs : List Loc), mx_J G P s.heap (mxz σ) (mxu σ) τ H locs → ∀ ls : Array Slot, lv_has ls 10 [(0, .ref v0), (1, .int v1), (2, .long v2), (4, .long v4)] → W p l e (mx_rm P 5 136 σ) s m ([.ref a0, .int p1, .long p2, .long p4] : List Value).toArray below meth c H locs (mxz τ - mxz σ) (mxu τ - mxu σ) (mx_Z below G P none σ σ' [.ref a0, .int p1, .long p2, .long p4] s) (F0 m 125 ls [.long w0, .ref w1]) := by
    intro v0 v1 v2 v4 w0 w1 τ hf _ _ hJ ls hl
    unfold f_X12_lawAt_D125 at hf
    refine lv_lconst (v := 1) hx hb dX12_lawAt_125 (by decide) ?_
    refine lv_lload_n hx hb dX12_lawAt_126 rfl (lv_at hl 2 rfl) ?_
    refine lv_lload hx hb dX12_lawAt_127 (lv_at hl 3 rfl) ?_
    obtain ⟨i8, e9, hf⟩ := mb0 hf
    obtain ⟨σ10, e11, hf⟩ := mb0 hf
    refine mx_callV (As := [.long w0, .long (1 : Int64), .long v2, .long v4]) (rest := []) hx hb hml hts hown hK hJ rfl rfl (ci := 12) rfl e9 (c_X12_times l G P w1 w0 (1 : Int64) v2 v4 τ σ10 e11) me_X12_times kw_2650 ks_151 kw_2648 (Nat.le_of_ble_eq_true rfl) (Nat.le_of_ble_eq_true rfl) rfl hl.1 rfl (Nat.le_of_ble_eq_true rfl) dX12_lawAt_129 (fun H locs hJ => ?_)
    refine lv_aload_n hx hb dX12_lawAt_132 rfl (lv_at hl 0 rfl) ?_
    refine lv_iload_n hx hb dX12_lawAt_133 rfl (lv_at hl 1 rfl) ?_
    refine lv_iconst (v := 3) hx hb dX12_lawAt_134 (by decide) ?_
    refine lv_icmp_ne (tgt := 144) hx hb dX12_lawAt_135 (by decide) (fun c12 => ?_) (fun c12 => ?_)
    · rw [if_neg c12] at hf
      refine lv_ldc2 hx hb hown (hts _ kw_2717) dX12_lawAt_144 ?_
      exact D147 v0 v1 v2 v4 (70 : Int64) v0 σ10 hf _ _ hJ ls (lv_sub hl [0, 1, 2, 3] rfl)
    · rw [if_pos c12] at hf
      refine lv_ldc2 hx hb hown (hts _ kw_2716) dX12_lawAt_138 ?_
      refine lv_goto (tgt := 147) hx hb dX12_lawAt_141 (by decide) ?_
      exact D147 v0 v1 v2 v4 (-15 : Int64) v0 σ10 hf _ _ hJ ls (lv_sub hl [0, 1, 2, 3] rfl)
  unfold f_X12_lawAt at hf
  refine lv_aload_n hx hb dX12_lawAt_0 rfl (lv_at hl 0 rfl) ?_
  refine lv_lload_n hx hb dX12_lawAt_1 rfl (lv_at hl 2 rfl) ?_
  obtain ⟨σ1, e2, hf⟩ := mb0 hf
  refine my_pL hx hb hts hown hK hJ fd_RX12_287 cd_12 (Or.inl rfl) ht_12_8 e2 dX12_lawAt_2 (fun H locs hJ => ?_)
  refine lv_aload_n hx hb dX12_lawAt_5 rfl (lv_at hl 0 rfl) ?_
  refine lv_lload hx hb dX12_lawAt_6 (lv_at hl 3 rfl) ?_
  obtain ⟨σ3, e4, hf⟩ := mb0 hf
  refine my_pL hx hb hts hown hK hJ fd_RX12_291 cd_12 (Or.inl rfl) ht_12_9 e4 dX12_lawAt_8 (fun H locs hJ => ?_)
  refine lv_iload_n hx hb dX12_lawAt_11 rfl (lv_at hl 1 rfl) ?_
  refine lv_iconst (v := 1) hx hb dX12_lawAt_12 (by decide) ?_
  refine lv_icmp_ne (tgt := 17) hx hb dX12_lawAt_13 (by decide) (fun c5 => ?_) (fun c5 => ?_)
  · rw [if_neg c5] at hf
    refine lv_iload_n hx hb dX12_lawAt_17 rfl (lv_at hl 1 rfl) ?_
    refine lv_iconst (v := 2) hx hb dX12_lawAt_18 (by decide) ?_
    refine lv_icmp_ne (tgt := 110) hx hb dX12_lawAt_19 (by decide) (fun c6 => ?_) (fun c6 => ?_)
    · rw [if_neg c6] at hf
      refine lv_aload_n hx hb dX12_lawAt_110 rfl (lv_at hl 0 rfl) ?_
      refine lv_iload_n hx hb dX12_lawAt_111 rfl (lv_at hl 1 rfl) ?_
      refine lv_iconst (v := 3) hx hb dX12_lawAt_112 (by decide) ?_
      refine lv_icmp_ne (tgt := 122) hx hb dX12_lawAt_113 (by decide) (fun c7 => ?_) (fun c7 => ?_)
      · rw [if_neg c7] at hf
        refine lv_ldc2 hx hb hown (hts _ kw_2715) dX12_lawAt_122 ?_
        exact D125 a0 p1 p2 p4 (-20 : Int64) a0 σ3 hf _ _ hJ ls (lv_sub hl [0, 1, 2, 3] rfl)
      · rw [if_pos c7] at hf
        refine lv_ldc2 hx hb hown (hts _ kw_2714) dX12_lawAt_116 ?_
        refine lv_goto (tgt := 125) hx hb dX12_lawAt_119 (by decide) ?_
        exact D125 a0 p1 p2 p4 (6 : Int64) a0 σ3 hf _ _ hJ ls (lv_sub hl [0, 1, 2, 3] rfl)
    · rw [if_pos c6] at hf
      refine lv_ldc2 hx hb hown (hts _ kw_2447) dX12_lawAt_22 ?_
      refine lv_lload_n hx hb dX12_lawAt_25 rfl (lv_at hl 2 rfl) ?_
      refine lv_lmul hx hb dX12_lawAt_26 ?_
      refine lv_lload hx hb dX12_lawAt_27 (lv_at hl 3 rfl) ?_
      refine W.lcmp hx hb dX12_lawAt_29 ?_
      refine lv_if_gt (tgt := 52) hx hb dX12_lawAt_30 (by decide) (fun c51 => ?_) (fun c51 => ?_)
      · rw [if_pos c51] at hf
        refine lv_aload_n hx hb dX12_lawAt_52 rfl (lv_at hl 0 rfl) ?_
        refine lv_lconst (v := 1) hx hb dX12_lawAt_53 (by decide) ?_
        refine lv_lconst (v := 1) hx hb dX12_lawAt_54 (by decide) ?_
        refine lv_lload_n hx hb dX12_lawAt_55 rfl (lv_at hl 2 rfl) ?_
        refine lv_lneg hx hb dX12_lawAt_56 ?_
        refine lv_lload hx hb dX12_lawAt_57 (lv_at hl 3 rfl) ?_
        obtain ⟨i52, e53, hf⟩ := mb0 hf
        obtain ⟨σ54, e55, hf⟩ := mb0 hf
        refine mx_callV (As := [.long (1 : Int64), .long (1 : Int64), .long (-p2), .long p4]) (rest := []) hx hb hml hts hown hK hJ rfl rfl (ci := 12) rfl e53 (c_X12_sum l G P a0 (1 : Int64) (1 : Int64) (-p2) p4 σ3 σ54 e55) me_X12_sum kw_2662 ks_154 kw_2660 (Nat.le_of_ble_eq_true rfl) (Nat.le_of_ble_eq_true rfl) rfl hl.1 rfl (Nat.le_of_ble_eq_true rfl) dX12_lawAt_59 (fun H locs hJ => ?_)
        refine lv_aload_n hx hb dX12_lawAt_62 rfl (lv_at hl 0 rfl) ?_
        obtain ⟨x56, e57, hf⟩ := mb0 hf
        refine my_gL hx hb hts hown hK hJ fd_RX12_287 hv_12_8 e57 dX12_lawAt_63 ?_
        refine lv_lstore (lv' := [(6, .long x56), (0, .ref a0), (1, .int p1), (2, .long p2), (4, .long p4)]) hx hb dX12_lawAt_66 hl (by decide) rfl (fun ls hl => ?_)
        refine lv_aload_n hx hb dX12_lawAt_68 rfl (lv_at hl 1 rfl) ?_
        obtain ⟨x58, e59, hf⟩ := mb0 hf
        refine my_gL hx hb hts hown hK hJ fd_RX12_291 hv_12_9 e59 dX12_lawAt_69 ?_
        refine lv_lstore (lv' := [(8, .long x58), (6, .long x56), (0, .ref a0), (1, .int p1), (2, .long p2), (4, .long p4)]) hx hb dX12_lawAt_72 hl (by decide) rfl (fun ls hl => ?_)
        refine lv_aload_n hx hb dX12_lawAt_74 rfl (lv_at hl 2 rfl) ?_
        refine lv_ldc2 hx hb hown (hts _ kw_2447) dX12_lawAt_75 ?_
        refine lv_lconst (v := 1) hx hb dX12_lawAt_78 (by decide) ?_
        refine lv_lload hx hb dX12_lawAt_79 (lv_at hl 1 rfl) ?_
        refine lv_lload hx hb dX12_lawAt_81 (lv_at hl 0 rfl) ?_
        obtain ⟨i60, e61, hf⟩ := mb0 hf
        obtain ⟨σ62, e63, hf⟩ := mb0 hf
        refine mx_callV (As := [.long (2 : Int64), .long (1 : Int64), .long x56, .long x58]) (rest := []) hx hb hml hts hown hK hJ rfl rfl (ci := 12) rfl e61 (c_X12_times l G P a0 (2 : Int64) (1 : Int64) x56 x58 σ54 σ62 e63) me_X12_times kw_2650 ks_151 kw_2648 (Nat.le_of_ble_eq_true rfl) (Nat.le_of_ble_eq_true rfl) rfl hl.1 rfl (Nat.le_of_ble_eq_true rfl) dX12_lawAt_83 (fun H locs hJ => ?_)
        refine lv_aload_n hx hb dX12_lawAt_86 rfl (lv_at hl 2 rfl) ?_
        refine lv_lload hx hb dX12_lawAt_87 (lv_at hl 1 rfl) ?_
        refine lv_lload hx hb dX12_lawAt_89 (lv_at hl 0 rfl) ?_
        obtain ⟨i64, e65, hf⟩ := mb0 hf
        obtain ⟨σ66, e67, hf⟩ := mb0 hf
        refine mx_callV (As := [.long x56, .long x58]) (rest := []) hx hb hml hts hown hK hJ rfl rfl (ci := 12) rfl e65 (c_X12_byT l G P a0 x56 x58 σ62 σ66 e67) me_X12_byT kw_2712 ks_158 kw_2710 (Nat.le_of_ble_eq_true rfl) (Nat.le_of_ble_eq_true rfl) rfl hl.1 rfl (Nat.le_of_ble_eq_true rfl) dX12_lawAt_91 (fun H locs hJ => ?_)
        refine lv_aload_n hx hb dX12_lawAt_94 rfl (lv_at hl 2 rfl) ?_
        refine lv_lconst (v := 1) hx hb dX12_lawAt_95 (by decide) ?_
        refine lv_lconst (v := 1) hx hb dX12_lawAt_96 (by decide) ?_
        refine lv_aload_n hx hb dX12_lawAt_97 rfl (lv_at hl 2 rfl) ?_
        obtain ⟨x68, e69, hf⟩ := mb0 hf
        refine my_gL hx hb hts hown hK hJ fd_RX12_287 hv_12_8 e69 dX12_lawAt_98 ?_
        refine lv_lneg hx hb dX12_lawAt_101 ?_
        refine lv_aload_n hx hb dX12_lawAt_102 rfl (lv_at hl 2 rfl) ?_
        obtain ⟨x70, e71, hf⟩ := mb0 hf
        refine my_gL hx hb hts hown hK hJ fd_RX12_291 hv_12_9 e71 dX12_lawAt_103 ?_
        obtain ⟨i72, e73, hf⟩ := mb0 hf
        obtain ⟨σ74, e75, hf⟩ := mb0 hf
        refine mx_callV (As := [.long (1 : Int64), .long (1 : Int64), .long (-x68), .long x70]) (rest := []) hx hb hml hts hown hK hJ rfl rfl (ci := 12) rfl e73 (c_X12_sum l G P a0 (1 : Int64) (1 : Int64) (-x68) x70 σ66 σ74 e75) me_X12_sum kw_2662 ks_154 kw_2660 (Nat.le_of_ble_eq_true rfl) (Nat.le_of_ble_eq_true rfl) rfl hl.1 rfl (Nat.le_of_ble_eq_true rfl) dX12_lawAt_106 (fun H locs hJ => ?_)
        exact my_vret hx hb hr hlocks hJ hf dX12_lawAt_109
      · rw [if_neg c51] at hf
        refine lv_aload_n hx hb dX12_lawAt_33 rfl (lv_at hl 0 rfl) ?_
        refine lv_ldc2 hx hb hown (hts _ kw_2447) dX12_lawAt_34 ?_
        refine lv_lconst (v := 1) hx hb dX12_lawAt_37 (by decide) ?_
        refine lv_lload_n hx hb dX12_lawAt_38 rfl (lv_at hl 2 rfl) ?_
        refine lv_lload hx hb dX12_lawAt_39 (lv_at hl 3 rfl) ?_
        obtain ⟨i76, e77, hf⟩ := mb0 hf
        obtain ⟨σ78, e79, hf⟩ := mb0 hf
        refine mx_callV (As := [.long (2 : Int64), .long (1 : Int64), .long p2, .long p4]) (rest := []) hx hb hml hts hown hK hJ rfl rfl (ci := 12) rfl e77 (c_X12_times l G P a0 (2 : Int64) (1 : Int64) p2 p4 σ3 σ78 e79) me_X12_times kw_2650 ks_151 kw_2648 (Nat.le_of_ble_eq_true rfl) (Nat.le_of_ble_eq_true rfl) rfl hl.1 rfl (Nat.le_of_ble_eq_true rfl) dX12_lawAt_41 (fun H locs hJ => ?_)
        refine lv_aload_n hx hb dX12_lawAt_44 rfl (lv_at hl 0 rfl) ?_
        refine lv_lload_n hx hb dX12_lawAt_45 rfl (lv_at hl 2 rfl) ?_
        refine lv_lload hx hb dX12_lawAt_46 (lv_at hl 3 rfl) ?_
        obtain ⟨i80, e81, hf⟩ := mb0 hf
        obtain ⟨σ82, e83, hf⟩ := mb0 hf
        refine mx_callV (As := [.long p2, .long p4]) (rest := []) hx hb hml hts hown hK hJ rfl rfl (ci := 12) rfl e81 (c_X12_byT l G P a0 p2 p4 σ78 σ82 e83) me_X12_byT kw_2712 ks_158 kw_2710 (Nat.le_of_ble_eq_true rfl) (Nat.le_of_ble_eq_true rfl) rfl hl.1 rfl (Nat.le_of_ble_eq_true rfl) dX12_lawAt_48 (fun H locs hJ => ?_)
        exact my_vret hx hb hr hlocks hJ hf dX12_lawAt_51
  · rw [if_pos c5] at hf
    exact my_vret hx hb hr hlocks hJ hf dX12_lawAt_16
set_option maxHeartbeats 4000000 in
set_option maxRecDepth 100000 in
theorem c_X12_lift (l : Launch) (G : mx_G) (P : mx_P) (a0 : Nat) (p1 : Int32) (p2 : Int32) (p3 : Int32) (σ : mx_S) (r : Int64) (σ' : mx_S) (hf : f_X12_lift P a0 p1 p2 p3 σ = some (r, σ')) : mxz σ ≤ mpc P → mxu σ ≤ mps P → mx_M l yX12_lift cX12_lift 11 (some .long) 6 165 G P [.ref a0, .int p1, .int p2, .int p3] σ (some (.long r)) σ' := by
  intro hcap hcau
  refine mx_ofW (by decide +kernel) hcap hcau (Nat.le_of_ble_eq_true rfl) ?_
  intro p e s m below meth c hx hb hr hml hts hown hlocks hname hK hJ ls hl
  have hz0 := hJ.2.1
  have hown : s.vm.findClass RX12 = some m.cls := hown
  have hl : lv_has ls 11 [(0, .ref a0), (1, .int p1), (2, .int p2), (3, .int p3)] := hl
  have D150_96 : ∀ (v0 : Nat) (v1 : Int32) (v2 : Int32) (v3 : Int32) (v5 : Int32) (v10 : Int32) (w0 : Int64) (w1 : Int64) (w2 : Int64) (w3 : Nat) (τ : mx_S) (o : (Int32 × Int64 × Int64 × Int32 × mx_S) ⊕ ((Int32 × Int64 × Int64 × Int32 × mx_S))), f_X12_lift_D150_96 P v0 v1 v2 v3 v5 v10 w0 w1 w2 w3 τ = some o → (∀ (y5 : Int32) (y6 : Int64) (y8 : Int64) (y10 : Int32) (υ : mx_S), o = .inl (y5, y6, y8, y10, υ) → ∀ (H : Heap) (locs : List Loc), mx_J G P s.heap (mxz σ) (mxu σ) υ H locs → ∀ ls : Array Slot, lv_has ls 11 [(0, .ref v0), (1, .int v1), (2, .int v2), (3, .int v3), (5, .int y5), (6, .long y6), (8, .long y8), (10, .int y10)] → W p l e (mx_rm P 6 165 σ) s m ([.ref a0, .int p1, .int p2, .int p3] : List Value).toArray below meth c H locs (mxz υ - mxz σ) (mxu υ - mxu σ) (mx_Z below G P (some (.long r)) σ σ' [.ref a0, .int p1, .int p2, .int p3] s) (F0 m 96 ls [])) → (∀ (y5 : Int32) (y6 : Int64) (y8 : Int64) (y10 : Int32) (υ : mx_S), o = .inr (y5, y6, y8, y10, υ) → ∀ (H : Heap) (locs : List Loc), mx_J G P s.heap (mxz σ) (mxu σ) υ H locs → ∀ ls : Array Slot, lv_has ls 11 [(0, .ref v0), (1, .int v1), (2, .int v2), (3, .int v3), (5, .int y5), (6, .long y6), (8, .long y8), (10, .int y10)] → W p l e (mx_rm P 6 165 σ) s m ([.ref a0, .int p1, .int p2, .int p3] : List Value).toArray below meth c H locs (mxz υ - mxz σ) (mxu υ - mxu σ) (mx_Z below G P (some (.long r)) σ σ' [.ref a0, .int p1, .int p2, .int p3] s) (F0 m 190 ls [])) → ∀ (H : Heap) (locs : List Loc), mx_J G P s.heap (mxz σ) (mxu σ) τ H locs → ∀ ls : Array Slot, lv_has ls 11 [(0, .ref v0), (1, .int v1), (2, .int v2), (3, .int v3), (5, .int v5), (10, .int v10)] → W p l e (mx_rm P 6 165 σ) s m ([.ref a0, .int p1, .int p2, .int p3] : List Value).toArray below meth c H locs (mxz τ - mxz σ) (mxu τ - mxu σ) (mx_Z below G P (some (.long r)) σ σ' [.ref a0, .int p1, .int p2, .int p3] s) (F0 m 150 ls [.long w0, .long w1, .long w2, .ref w3]) := by
    intro v0 v1 v2 v3 v5 v10 w0 w1 w2 w3 τ o hf Kb Ke0 H locs hJ ls hl
    unfold f_X12_lift_D150_96 at hf
    refine lv_aload_n hx hb dX12_lift_150 rfl (lv_at hl 0 rfl) ?_
    obtain ⟨b30, e31, hf⟩ := mb0 hf
    refine my_gR hx hb hts hown hK hJ fd_RX12_165 hv_12_78 e31 dX12_lift_151 ?_
    refine lv_iload hx hb dX12_lift_154 (lv_at hl 5 rfl) ?_
    obtain ⟨x32, e33, hf⟩ := mb0 hf
    refine mx_aL hx hb hK hJ e33 dX12_lift_156 ?_
    obtain ⟨i34, e35, hf⟩ := mb0 hf
    obtain ⟨σ36, e37, hf⟩ := mb0 hf
    refine mx_callV (As := [.long w2, .long w1, .long w0, .long x32]) (rest := []) hx hb hml hts hown hK hJ rfl rfl (ci := 12) rfl e35 (c_X12_sum l G P w3 w2 w1 w0 x32 τ σ36 e37) me_X12_sum kw_2662 ks_154 kw_2660 (Nat.le_of_ble_eq_true rfl) (Nat.le_of_ble_eq_true rfl) rfl hl.1 rfl (Nat.le_of_ble_eq_true rfl) dX12_lift_157 (fun H locs hJ => ?_)
    refine lv_aload_n hx hb dX12_lift_160 rfl (lv_at hl 0 rfl) ?_
    obtain ⟨x38, e39, hf⟩ := mb0 hf
    refine my_gL hx hb hts hown hK hJ fd_RX12_287 hv_12_8 e39 dX12_lift_161 ?_
    refine lv_lstore (lv' := [(6, .long x38), (0, .ref v0), (1, .int v1), (2, .int v2), (3, .int v3), (5, .int v5), (10, .int v10)]) hx hb dX12_lift_164 hl (by decide) rfl (fun ls hl => ?_)
    refine lv_aload_n hx hb dX12_lift_166 rfl (lv_at hl 1 rfl) ?_
    obtain ⟨x40, e41, hf⟩ := mb0 hf
    refine my_gL hx hb hts hown hK hJ fd_RX12_291 hv_12_9 e41 dX12_lift_167 ?_
    refine lv_lstore (lv' := [(8, .long x40), (6, .long x38), (0, .ref v0), (1, .int v1), (2, .int v2), (3, .int v3), (5, .int v5), (10, .int v10)]) hx hb dX12_lift_170 hl (by decide) rfl (fun ls hl => ?_)
    refine lv_iload hx hb dX12_lift_172 (lv_at hl 6 rfl) ?_
    refine lv_aload_n hx hb dX12_lift_174 rfl (lv_at hl 2 rfl) ?_
    obtain ⟨b42, e43, hf⟩ := mb0 hf
    refine my_gR hx hb hts hown hK hJ fd_RX12_159 hv_12_76 e43 dX12_lift_175 ?_
    refine lv_iload hx hb dX12_lift_178 (lv_at hl 7 rfl) ?_
    obtain ⟨x44, e45, hf⟩ := mb0 hf
    refine mx_aI hx hb hK hJ e45 dX12_lift_180 ?_
    refine lv_iadd hx hb dX12_lift_181 ?_
    obtain ⟨x46, e47, hf⟩ := mb0 hf
    refine mx_nI e47 ?_
    refine lv_istore (lv' := [(5, .int x46), (8, .long x40), (6, .long x38), (0, .ref v0), (1, .int v1), (2, .int v2), (3, .int v3), (10, .int v10)]) hx hb dX12_lift_182 hl (by decide) rfl (fun ls hl => ?_)
    obtain ⟨x48, e49, hf⟩ := mb0 hf
    refine lv_iinc (v := x48) (lv' := [(10, .int x48), (5, .int x46), (8, .long x40), (6, .long x38), (0, .ref v0), (1, .int v1), (2, .int v2), (3, .int v3)]) hx hb dX12_lift_184 hl (k := 7) rfl (by rw [← Option.some.inj e49]; rfl) (by decide) rfl (fun ls hl => ?_)
    refine lv_goto (tgt := 96) hx hb dX12_lift_187 (by decide) ?_
    exact Kb x46 x38 x40 x48 σ36 (Option.some.inj hf).symm _ _ hJ ls (lv_sub hl [4, 5, 6, 7, 1, 3, 2, 0] rfl)
  have B96 : ∀ (v0 : Nat) (v1 : Int32) (v2 : Int32) (v3 : Int32) (v5 : Int32) (v6 : Int64) (v8 : Int64) (v10 : Int32) (τ : mx_S) (o : (Int32 × Int64 × Int64 × Int32 × mx_S) ⊕ ((Int32 × Int64 × Int64 × Int32 × mx_S))), f_X12_lift_B96 P v0 v1 v2 v3 v5 v6 v8 v10 τ = some o → (∀ (y5 : Int32) (y6 : Int64) (y8 : Int64) (y10 : Int32) (υ : mx_S), o = .inl (y5, y6, y8, y10, υ) → ∀ (H : Heap) (locs : List Loc), mx_J G P s.heap (mxz σ) (mxu σ) υ H locs → ∀ ls : Array Slot, lv_has ls 11 [(0, .ref v0), (1, .int v1), (2, .int v2), (3, .int v3), (5, .int y5), (6, .long y6), (8, .long y8), (10, .int y10)] → W p l e (mx_rm P 6 165 σ) s m ([.ref a0, .int p1, .int p2, .int p3] : List Value).toArray below meth c H locs (mxz υ - mxz σ) (mxu υ - mxu σ) (mx_Z below G P (some (.long r)) σ σ' [.ref a0, .int p1, .int p2, .int p3] s) (F0 m 96 ls [])) → (∀ (y5 : Int32) (y6 : Int64) (y8 : Int64) (y10 : Int32) (υ : mx_S), o = .inr (y5, y6, y8, y10, υ) → ∀ (H : Heap) (locs : List Loc), mx_J G P s.heap (mxz σ) (mxu σ) υ H locs → ∀ ls : Array Slot, lv_has ls 11 [(0, .ref v0), (1, .int v1), (2, .int v2), (3, .int v3), (5, .int y5), (6, .long y6), (8, .long y8), (10, .int y10)] → W p l e (mx_rm P 6 165 σ) s m ([.ref a0, .int p1, .int p2, .int p3] : List Value).toArray below meth c H locs (mxz υ - mxz σ) (mxu υ - mxu σ) (mx_Z below G P (some (.long r)) σ σ' [.ref a0, .int p1, .int p2, .int p3] s) (F0 m 190 ls [])) → ∀ (H : Heap) (locs : List Loc), mx_J G P s.heap (mxz σ) (mxu σ) τ H locs → ∀ ls : Array Slot, lv_has ls 11 [(0, .ref v0), (1, .int v1), (2, .int v2), (3, .int v3), (5, .int v5), (6, .long v6), (8, .long v8), (10, .int v10)] → W p l e (mx_rm P 6 165 σ) s m ([.ref a0, .int p1, .int p2, .int p3] : List Value).toArray below meth c H locs (mxz τ - mxz σ) (mxu τ - mxu σ) (mx_Z below G P (some (.long r)) σ σ' [.ref a0, .int p1, .int p2, .int p3] s) (F0 m 96 ls []) := by
    intro v0 v1 v2 v3 v5 v6 v8 v10 τ o hf Kb Ke0 H locs hJ ls hl
    unfold f_X12_lift_B96 at hf
    refine lv_iload_n hx hb dX12_lift_96 rfl (lv_at hl 1 rfl) ?_
    refine lv_i2l hx hb dX12_lift_97 rfl ?_
    refine lv_iload hx hb dX12_lift_98 (lv_at hl 4 rfl) ?_
    refine lv_aload_n hx hb dX12_lift_100 rfl (lv_at hl 0 rfl) ?_
    obtain ⟨b16, e17, hf⟩ := mb0 hf
    refine my_gR hx hb hts hown hK hJ fd_RX12_159 hv_12_76 e17 dX12_lift_101 ?_
    refine lv_iload hx hb dX12_lift_104 (lv_at hl 7 rfl) ?_
    obtain ⟨x18, e19, hf⟩ := mb0 hf
    refine mx_aI hx hb hK hJ e19 dX12_lift_106 ?_
    refine lv_iadd hx hb dX12_lift_107 ?_
    refine lv_i2l hx hb dX12_lift_108 rfl ?_
    refine lv_iload_n hx hb dX12_lift_109 rfl (lv_at hl 2 rfl) ?_
    refine lv_i2l hx hb dX12_lift_110 rfl ?_
    refine lv_lmul hx hb dX12_lift_111 ?_
    refine W.lcmp hx hb dX12_lift_112 ?_
    refine lv_if_lt (tgt := 190) hx hb dX12_lift_113 (by decide) (fun c20 => ?_) (fun c20 => ?_)
    · rw [if_pos c20] at hf
      exact Ke0 v5 v6 v8 v10 τ (Option.some.inj hf).symm _ _ hJ ls (lv_sub hl [0, 1, 2, 3, 4, 5, 6, 7] rfl)
    · rw [if_neg c20] at hf
      refine lv_aload_n hx hb dX12_lift_116 rfl (lv_at hl 0 rfl) ?_
      refine lv_lload hx hb dX12_lift_117 (lv_at hl 5 rfl) ?_
      refine lv_lload hx hb dX12_lift_119 (lv_at hl 6 rfl) ?_
      refine lv_aload_n hx hb dX12_lift_121 rfl (lv_at hl 0 rfl) ?_
      obtain ⟨b21, e22, hf⟩ := mb0 hf
      refine my_gR hx hb hts hown hK hJ fd_RX12_156 hv_12_75 e22 dX12_lift_122 ?_
      refine lv_iload hx hb dX12_lift_125 (lv_at hl 7 rfl) ?_
      obtain ⟨x23, e24, hf⟩ := mb0 hf
      refine mx_aI hx hb hK hJ e24 dX12_lift_127 ?_
      refine lv_iconst (v := 2) hx hb dX12_lift_128 (by decide) ?_
      refine lv_icmp_ne (tgt := 143) hx hb dX12_lift_129 (by decide) (fun c25 => ?_) (fun c25 => ?_)
      · rw [if_neg c25] at hf
        refine lv_aload_n hx hb dX12_lift_143 rfl (lv_at hl 0 rfl) ?_
        obtain ⟨b26, e27, hf⟩ := mb0 hf
        refine my_gR hx hb hts hown hK hJ fd_RX12_162 hv_12_77 e27 dX12_lift_144 ?_
        refine lv_iload hx hb dX12_lift_147 (lv_at hl 7 rfl) ?_
        obtain ⟨x28, e29, hf⟩ := mb0 hf
        refine mx_aL hx hb hK hJ e29 dX12_lift_149 ?_
        exact D150_96 v0 v1 v2 v3 v5 v10 x28 v8 v6 v0 τ o hf Kb Ke0 _ _ hJ ls (lv_sub hl [0, 1, 2, 3, 4, 7] rfl)
      · rw [if_pos c25] at hf
        refine lv_aload_n hx hb dX12_lift_132 rfl (lv_at hl 0 rfl) ?_
        obtain ⟨b50, e51, hf⟩ := mb0 hf
        refine my_gR hx hb hts hown hK hJ fd_RX12_162 hv_12_77 e51 dX12_lift_133 ?_
        refine lv_iload hx hb dX12_lift_136 (lv_at hl 7 rfl) ?_
        obtain ⟨x52, e53, hf⟩ := mb0 hf
        refine mx_aL hx hb hK hJ e53 dX12_lift_138 ?_
        refine lv_lneg hx hb dX12_lift_139 ?_
        refine lv_goto (tgt := 150) hx hb dX12_lift_140 (by decide) ?_
        exact D150_96 v0 v1 v2 v3 v5 v10 (-x52) v8 v6 v0 τ o hf Kb Ke0 _ _ hJ ls (lv_sub hl [0, 1, 2, 3, 4, 7] rfl)
  have L96 : ∀ (v0 : Nat) (v1 : Int32) (v2 : Int32) (v3 : Int32) (n : Nat) (v5 : Int32) (v6 : Int64) (v8 : Int64) (v10 : Int32) (τ : mx_S) (o : (Int32 × Int64 × Int64 × Int32 × mx_S)), mx_lp (f_X12_lift_L96 P v0 v1 v2 v3) n (v5, v6, v8, v10, τ) = some o → (∀ (y5 : Int32) (y6 : Int64) (y8 : Int64) (y10 : Int32) (υ : mx_S), o = (y5, y6, y8, y10, υ) → ∀ (H : Heap) (locs : List Loc), mx_J G P s.heap (mxz σ) (mxu σ) υ H locs → ∀ ls : Array Slot, lv_has ls 11 [(0, .ref v0), (1, .int v1), (2, .int v2), (3, .int v3), (5, .int y5), (6, .long y6), (8, .long y8), (10, .int y10)] → W p l e (mx_rm P 6 165 σ) s m ([.ref a0, .int p1, .int p2, .int p3] : List Value).toArray below meth c H locs (mxz υ - mxz σ) (mxu υ - mxu σ) (mx_Z below G P (some (.long r)) σ σ' [.ref a0, .int p1, .int p2, .int p3] s) (F0 m 190 ls [])) → ∀ (H : Heap) (locs : List Loc), mx_J G P s.heap (mxz σ) (mxu σ) τ H locs → ∀ ls : Array Slot, lv_has ls 11 [(0, .ref v0), (1, .int v1), (2, .int v2), (3, .int v3), (5, .int v5), (6, .long v6), (8, .long v8), (10, .int v10)] → W p l e (mx_rm P 6 165 σ) s m ([.ref a0, .int p1, .int p2, .int p3] : List Value).toArray below meth c H locs (mxz τ - mxz σ) (mxu τ - mxu σ) (mx_Z below G P (some (.long r)) σ σ' [.ref a0, .int p1, .int p2, .int p3] s) (F0 m 96 ls []) := by
    intro v0 v1 v2 v3 n
    induction n with
    | zero =>
      intro v5 v6 v8 v10 τ o hf
      rw [mx_lp0] at hf
      cases hf
    | succ n ih =>
      intro v5 v6 v8 v10 τ o hf Ke0 H locs hJ ls hl
      rw [mx_lpS] at hf
      obtain ⟨b, eb, hf⟩ := mb0 hf
      refine B96 v0 v1 v2 v3 v5 v6 v8 v10 τ b eb (fun y5 y6 y8 y10 υ ho H locs hJ ls hl => ?_) (fun y5 y6 y8 y10 υ ho H locs hJ ls hl => ?_) H locs hJ ls hl
      · subst ho
        exact ih y5 y6 y8 y10 υ o hf Ke0 H locs hJ ls hl
      · subst ho
        exact Ke0 y5 y6 y8 y10 υ (Option.some.inj hf).symm _ _ hJ ls hl
  have D383 : ∀ (w0 : Int64) (τ : mx_S), f_X12_lift_D383 P w0 τ = some (r, σ') → ∀ (H : Heap) (locs : List Loc), mx_J G P s.heap (mxz σ) (mxu σ) τ H locs → ∀ ls : Array Slot, lv_has ls 11 [] → W p l e (mx_rm P 6 165 σ) s m ([.ref a0, .int p1, .int p2, .int p3] : List Value).toArray below meth c H locs (mxz τ - mxz σ) (mxu τ - mxu σ) (mx_Z below G P (some (.long r)) σ σ' [.ref a0, .int p1, .int p2, .int p3] s) (F0 m 383 ls [.long w0]) := by
    intro w0 τ hf _ _ hJ ls hl
    unfold f_X12_lift_D383 at hf
    exact my_lret hx hb hr hlocks hJ hf dX12_lift_383
  have D354 : ∀ (v0 : Nat) (v3 : Int32) (w0 : Int32) (w1 : Nat) (τ : mx_S), f_X12_lift_D354 P v0 v3 w0 w1 τ = some (r, σ') → ∀ (H : Heap) (locs : List Loc), mx_J G P s.heap (mxz σ) (mxu σ) τ H locs → ∀ ls : Array Slot, lv_has ls 11 [(0, .ref v0), (3, .int v3)] → W p l e (mx_rm P 6 165 σ) s m ([.ref a0, .int p1, .int p2, .int p3] : List Value).toArray below meth c H locs (mxz τ - mxz σ) (mxu τ - mxu σ) (mx_Z below G P (some (.long r)) σ σ' [.ref a0, .int p1, .int p2, .int p3] s) (F0 m 354 ls [.int w0, .ref w1]) := by
    intro v0 v3 w0 w1 τ hf _ _ hJ ls hl
    unfold f_X12_lift_D354 at hf
    obtain ⟨σ73, e74, hf⟩ := mb0 hf
    refine my_pI hx hb hts hown hK hJ fd_RX12_243 cd_12 (Or.inl rfl) ht_12_0 e74 dX12_lift_354 (fun H locs hJ => ?_)
    refine lv_aload_n hx hb dX12_lift_357 rfl (lv_at hl 0 rfl) ?_
    obtain ⟨x75, e76, hf⟩ := mb0 hf
    refine my_gI hx hb hts hown hK hJ fd_RX12_243 hv_12_0 e76 dX12_lift_358 ?_
    refine lv_if_le (tgt := 368) hx hb dX12_lift_361 (by decide) (fun c77 => ?_) (fun c77 => ?_)
    · rw [if_pos c77] at hf
      refine lv_iload_n hx hb dX12_lift_368 rfl (lv_at hl 1 rfl) ?_
      refine lv_if_ne (tgt := 379) hx hb dX12_lift_369 (by decide) (fun c78 => ?_) (fun c78 => ?_)
      · rw [if_neg c78] at hf
        refine lv_aload_n hx hb dX12_lift_379 rfl (lv_at hl 0 rfl) ?_
        obtain ⟨x79, e80, hf⟩ := mb0 hf
        refine my_gL hx hb hts hown hK hJ fd_RX12_291 hv_12_9 e80 dX12_lift_380 ?_
        exact D383 x79 σ73 hf _ _ hJ ls (lv_sub hl [] rfl)
      · rw [if_pos c78] at hf
        refine lv_aload_n hx hb dX12_lift_372 rfl (lv_at hl 0 rfl) ?_
        obtain ⟨x81, e82, hf⟩ := mb0 hf
        refine my_gL hx hb hts hown hK hJ fd_RX12_287 hv_12_8 e82 dX12_lift_373 ?_
        refine lv_goto (tgt := 383) hx hb dX12_lift_376 (by decide) ?_
        exact D383 x81 σ73 hf _ _ hJ ls (lv_sub hl [] rfl)
    · rw [if_neg c77] at hf
      refine lv_lconst (v := 0) hx hb dX12_lift_364 (by decide) ?_
      refine lv_goto (tgt := 383) hx hb dX12_lift_365 (by decide) ?_
      exact D383 (0 : Int64) σ73 hf _ _ hJ ls (lv_sub hl [] rfl)
  have D341 : ∀ (v0 : Nat) (v3 : Int32) (τ : mx_S), f_X12_lift_D341 P v0 v3 τ = some (r, σ') → ∀ (H : Heap) (locs : List Loc), mx_J G P s.heap (mxz σ) (mxu σ) τ H locs → ∀ ls : Array Slot, lv_has ls 11 [(0, .ref v0), (3, .int v3)] → W p l e (mx_rm P 6 165 σ) s m ([.ref a0, .int p1, .int p2, .int p3] : List Value).toArray below meth c H locs (mxz τ - mxz σ) (mxu τ - mxu σ) (mx_Z below G P (some (.long r)) σ σ' [.ref a0, .int p1, .int p2, .int p3] s) (F0 m 341 ls []) := by
    intro v0 v3 τ hf _ _ hJ ls hl
    unfold f_X12_lift_D341 at hf
    refine lv_aload_n hx hb dX12_lift_341 rfl (lv_at hl 0 rfl) ?_
    refine lv_aload_n hx hb dX12_lift_342 rfl (lv_at hl 0 rfl) ?_
    obtain ⟨x70, e71, hf⟩ := mb0 hf
    refine my_gI hx hb hts hown hK hJ fd_RX12_283 hv_12_10 e71 dX12_lift_343 ?_
    refine lv_if_eq (tgt := 353) hx hb dX12_lift_346 (by decide) (fun c72 => ?_) (fun c72 => ?_)
    · rw [if_pos c72] at hf
      refine lv_iconst (v := 0) hx hb dX12_lift_353 (by decide) ?_
      exact D354 v0 v3 (0 : Int32) v0 τ hf _ _ hJ ls (lv_sub hl [0, 1] rfl)
    · rw [if_neg c72] at hf
      refine lv_iconst (v := 3) hx hb dX12_lift_349 (by decide) ?_
      refine lv_goto (tgt := 354) hx hb dX12_lift_350 (by decide) ?_
      exact D354 v0 v3 (3 : Int32) v0 τ hf _ _ hJ ls (lv_sub hl [0, 1] rfl)
  have D319 : ∀ (v0 : Nat) (v3 : Int32) (w0 : Int64) (w1 : Int64) (w2 : Int64) (w3 : Nat) (τ : mx_S), f_X12_lift_D319 P v0 v3 w0 w1 w2 w3 τ = some (r, σ') → ∀ (H : Heap) (locs : List Loc), mx_J G P s.heap (mxz σ) (mxu σ) τ H locs → ∀ ls : Array Slot, lv_has ls 11 [(0, .ref v0), (3, .int v3)] → W p l e (mx_rm P 6 165 σ) s m ([.ref a0, .int p1, .int p2, .int p3] : List Value).toArray below meth c H locs (mxz τ - mxz σ) (mxu τ - mxu σ) (mx_Z below G P (some (.long r)) σ σ' [.ref a0, .int p1, .int p2, .int p3] s) (F0 m 319 ls [.long w0, .long w1, .long w2, .ref w3]) := by
    intro v0 v3 w0 w1 w2 w3 τ hf _ _ hJ ls hl
    unfold f_X12_lift_D319 at hf
    refine lv_aload_n hx hb dX12_lift_319 rfl (lv_at hl 0 rfl) ?_
    obtain ⟨x142, e143, hf⟩ := mb0 hf
    refine my_gL hx hb hts hown hK hJ fd_RX12_291 hv_12_9 e143 dX12_lift_320 ?_
    obtain ⟨i144, e145, hf⟩ := mb0 hf
    obtain ⟨σ146, e147, hf⟩ := mb0 hf
    refine mx_callV (As := [.long w2, .long w1, .long w0, .long x142]) (rest := []) hx hb hml hts hown hK hJ rfl rfl (ci := 12) rfl e145 (c_X12_sum l G P w3 w2 w1 w0 x142 τ σ146 e147) me_X12_sum kw_2662 ks_154 kw_2660 (Nat.le_of_ble_eq_true rfl) (Nat.le_of_ble_eq_true rfl) rfl hl.1 rfl (Nat.le_of_ble_eq_true rfl) dX12_lift_323 (fun H locs hJ => ?_)
    refine lv_goto (tgt := 341) hx hb dX12_lift_326 (by decide) ?_
    exact D341 v0 v3 σ146 hf _ _ hJ ls (lv_sub hl [0, 1] rfl)
  have D67 : ∀ (v0 : Nat) (v1 : Int32) (v2 : Int32) (v3 : Int32) (w0 : Int32) (w1 : Nat) (τ : mx_S), f_X12_lift_D67 P v0 v1 v2 v3 w0 w1 τ = some (r, σ') → ∀ (H : Heap) (locs : List Loc), mx_J G P s.heap (mxz σ) (mxu σ) τ H locs → ∀ ls : Array Slot, lv_has ls 11 [(0, .ref v0), (1, .int v1), (2, .int v2), (3, .int v3)] → W p l e (mx_rm P 6 165 σ) s m ([.ref a0, .int p1, .int p2, .int p3] : List Value).toArray below meth c H locs (mxz τ - mxz σ) (mxu τ - mxu σ) (mx_Z below G P (some (.long r)) σ σ' [.ref a0, .int p1, .int p2, .int p3] s) (F0 m 67 ls [.int w0, .ref w1]) := by
    intro v0 v1 v2 v3 w0 w1 τ hf _ _ hJ ls hl
    unfold f_X12_lift_D67 at hf
    obtain ⟨σ9, e10, hf⟩ := mb0 hf
    refine my_pI hx hb hts hown hK hJ fd_RX12_243 cd_12 (Or.inl rfl) ht_12_0 e10 dX12_lift_67 (fun H locs hJ => ?_)
    refine lv_aload_n hx hb dX12_lift_70 rfl (lv_at hl 0 rfl) ?_
    obtain ⟨x11, e12, hf⟩ := mb0 hf
    refine my_gI hx hb hts hown hK hJ fd_RX12_243 hv_12_0 e12 dX12_lift_71 ?_
    refine lv_if_le (tgt := 79) hx hb dX12_lift_74 (by decide) (fun c13 => ?_) (fun c13 => ?_)
    · rw [if_pos c13] at hf
      refine lv_aload_n hx hb dX12_lift_79 rfl (lv_at hl 0 rfl) ?_
      refine lv_iconst (v := 0) hx hb dX12_lift_80 (by decide) ?_
      obtain ⟨σ14, e15, hf⟩ := mb0 hf
      refine my_pZ hx hb hts hown hK hJ fd_RX12_283 cd_12 (Or.inl rfl) ht_12_10 e15 dX12_lift_81 (fun H locs hJ => ?_)
      refine lv_iconst (v := 0) hx hb dX12_lift_84 (by decide) ?_
      refine lv_istore (lv' := [(5, .int (0 : Int32)), (0, .ref v0), (1, .int v1), (2, .int v2), (3, .int v3)]) hx hb dX12_lift_85 hl (by decide) rfl (fun ls hl => ?_)
      refine lv_lconst (v := 0) hx hb dX12_lift_87 (by decide) ?_
      refine lv_lstore (lv' := [(6, .long (0 : Int64)), (5, .int (0 : Int32)), (0, .ref v0), (1, .int v1), (2, .int v2), (3, .int v3)]) hx hb dX12_lift_88 hl (by decide) rfl (fun ls hl => ?_)
      refine lv_lconst (v := 1) hx hb dX12_lift_90 (by decide) ?_
      refine lv_lstore (lv' := [(8, .long (1 : Int64)), (6, .long (0 : Int64)), (5, .int (0 : Int32)), (0, .ref v0), (1, .int v1), (2, .int v2), (3, .int v3)]) hx hb dX12_lift_91 hl (by decide) rfl (fun ls hl => ?_)
      refine lv_iconst (v := 0) hx hb dX12_lift_93 (by decide) ?_
      refine lv_istore (lv' := [(10, .int (0 : Int32)), (8, .long (1 : Int64)), (6, .long (0 : Int64)), (5, .int (0 : Int32)), (0, .ref v0), (1, .int v1), (2, .int v2), (3, .int v3)]) hx hb dX12_lift_94 hl (by decide) rfl (fun ls hl => ?_)
      obtain ⟨o54, e55, hf⟩ := mb0 hf
      refine L96 v0 v1 v2 v3 (mpN P) (0 : Int32) (0 : Int64) (1 : Int64) (0 : Int32) σ14 o54 e55 (fun y56 y57 y58 y59 σ60 ho H locs hJ ls hl => ?_) _ _ hJ ls (lv_sub hl [4, 5, 6, 7, 3, 2, 1, 0] rfl)
      · rw [ho] at hf
        have hf : ((mg_R σ60 v0 12 75).bind fun b61 => (ma_I σ60 b61 0 y59).bind fun x63 => (if x63 ≤ 0 then (mp_L P σ60 v0 12 8 y57).bind fun σ66 => (mp_L P σ66 v0 12 9 y58).bind fun σ68 => f_X12_lift_D341 P v0 v3 σ68 else (mx_is σ60 v0 12).bind fun i83 => (f_X12_lowest P v0 (v1.toInt64) (v2.toInt64) σ60).bind fun σ85 => (mg_L σ85 v0 12 8).bind fun x87 => (mg_L σ85 v0 12 9).bind fun x89 => (mx_is σ85 v0 12).bind fun i91 => (f_X12_sum P v0 x87 x89 ((-y56).toInt64) (1 : Int64) σ85).bind fun σ93 => (mg_L σ93 v0 12 8).bind fun x95 => (mg_L σ93 v0 12 9).bind fun x97 => (mg_R σ93 v0 12 76).bind fun b99 => (ma_I σ93 b99 0 y59).bind fun x101 => (mx_is σ93 v0 12).bind fun i103 => (f_X12_by P v0 x95 x97 (x101.toInt64) (1 : Int64) σ93).bind fun σ105 => (mg_R σ105 v0 12 79).bind fun b107 => (ma_I σ105 b107 0 y59).bind fun x109 => (mg_L σ105 v0 12 8).bind fun x111 => (mg_L σ105 v0 12 9).bind fun x113 => (mx_is σ105 v0 12).bind fun i115 => (f_X12_lawAt P v0 x109 x111 x113 σ105).bind fun σ117 => (mg_L σ117 v0 12 8).bind fun x119 => (mg_L σ117 v0 12 9).bind fun x121 => (mg_R σ117 v0 12 77).bind fun b123 => (ma_L σ117 b123 1 y59).bind fun x125 => (mg_R σ117 v0 12 78).bind fun b127 => (ma_L σ117 b127 1 y59).bind fun x129 => (mx_is σ117 v0 12).bind fun i131 => (f_X12_times P v0 x119 x121 x125 x129 σ117).bind fun σ133 => (mg_R σ133 v0 12 75).bind fun b135 => (ma_I σ133 b135 0 y59).bind fun x137 => (if x137 = (2 : Int32) then (mg_L σ133 v0 12 8).bind fun x148 => f_X12_lift_D319 P v0 v3 (-x148) y58 y57 v0 σ133 else (mg_L σ133 v0 12 8).bind fun x140 => f_X12_lift_D319 P v0 v3 x140 y58 y57 v0 σ133))) = some (r, σ') := hf
        refine lv_aload_n hx hb dX12_lift_190 rfl (lv_at hl 0 rfl) ?_
        obtain ⟨b61, e62, hf⟩ := mb0 hf
        refine my_gR hx hb hts hown hK hJ fd_RX12_156 hv_12_75 e62 dX12_lift_191 ?_
        refine lv_iload hx hb dX12_lift_194 (lv_at hl 7 rfl) ?_
        obtain ⟨x63, e64, hf⟩ := mb0 hf
        refine mx_aI hx hb hK hJ e64 dX12_lift_196 ?_
        refine lv_if_le (tgt := 329) hx hb dX12_lift_197 (by decide) (fun c65 => ?_) (fun c65 => ?_)
        · rw [if_pos c65] at hf
          refine lv_aload_n hx hb dX12_lift_329 rfl (lv_at hl 0 rfl) ?_
          refine lv_lload hx hb dX12_lift_330 (lv_at hl 5 rfl) ?_
          obtain ⟨σ66, e67, hf⟩ := mb0 hf
          refine my_pL hx hb hts hown hK hJ fd_RX12_287 cd_12 (Or.inl rfl) ht_12_8 e67 dX12_lift_332 (fun H locs hJ => ?_)
          refine lv_aload_n hx hb dX12_lift_335 rfl (lv_at hl 0 rfl) ?_
          refine lv_lload hx hb dX12_lift_336 (lv_at hl 6 rfl) ?_
          obtain ⟨σ68, e69, hf⟩ := mb0 hf
          refine my_pL hx hb hts hown hK hJ fd_RX12_291 cd_12 (Or.inl rfl) ht_12_9 e69 dX12_lift_338 (fun H locs hJ => ?_)
          exact D341 v0 v3 σ68 hf _ _ hJ ls (lv_sub hl [0, 3] rfl)
        · rw [if_neg c65] at hf
          refine lv_aload_n hx hb dX12_lift_200 rfl (lv_at hl 0 rfl) ?_
          refine lv_iload_n hx hb dX12_lift_201 rfl (lv_at hl 1 rfl) ?_
          refine lv_i2l hx hb dX12_lift_202 rfl ?_
          refine lv_iload_n hx hb dX12_lift_203 rfl (lv_at hl 2 rfl) ?_
          refine lv_i2l hx hb dX12_lift_204 rfl ?_
          obtain ⟨i83, e84, hf⟩ := mb0 hf
          obtain ⟨σ85, e86, hf⟩ := mb0 hf
          refine mx_callV (As := [.long (v1.toInt64), .long (v2.toInt64)]) (rest := []) hx hb hml hts hown hK hJ rfl rfl (ci := 12) rfl e84 (c_X12_lowest l G P v0 (v1.toInt64) (v2.toInt64) σ60 σ85 e86) me_X12_lowest kw_2633 ks_147 kw_2631 (Nat.le_of_ble_eq_true rfl) (Nat.le_of_ble_eq_true rfl) rfl hl.1 rfl (Nat.le_of_ble_eq_true rfl) dX12_lift_205 (fun H locs hJ => ?_)
          refine lv_aload_n hx hb dX12_lift_208 rfl (lv_at hl 0 rfl) ?_
          refine lv_aload_n hx hb dX12_lift_209 rfl (lv_at hl 0 rfl) ?_
          obtain ⟨x87, e88, hf⟩ := mb0 hf
          refine my_gL hx hb hts hown hK hJ fd_RX12_287 hv_12_8 e88 dX12_lift_210 ?_
          refine lv_aload_n hx hb dX12_lift_213 rfl (lv_at hl 0 rfl) ?_
          obtain ⟨x89, e90, hf⟩ := mb0 hf
          refine my_gL hx hb hts hown hK hJ fd_RX12_291 hv_12_9 e90 dX12_lift_214 ?_
          refine lv_iload hx hb dX12_lift_217 (lv_at hl 4 rfl) ?_
          refine lv_ineg hx hb dX12_lift_219 ?_
          refine lv_i2l hx hb dX12_lift_220 rfl ?_
          refine lv_lconst (v := 1) hx hb dX12_lift_221 (by decide) ?_
          obtain ⟨i91, e92, hf⟩ := mb0 hf
          obtain ⟨σ93, e94, hf⟩ := mb0 hf
          refine mx_callV (As := [.long x87, .long x89, .long ((-y56).toInt64), .long (1 : Int64)]) (rest := []) hx hb hml hts hown hK hJ rfl rfl (ci := 12) rfl e92 (c_X12_sum l G P v0 x87 x89 ((-y56).toInt64) (1 : Int64) σ85 σ93 e94) me_X12_sum kw_2662 ks_154 kw_2660 (Nat.le_of_ble_eq_true rfl) (Nat.le_of_ble_eq_true rfl) rfl hl.1 rfl (Nat.le_of_ble_eq_true rfl) dX12_lift_222 (fun H locs hJ => ?_)
          refine lv_aload_n hx hb dX12_lift_225 rfl (lv_at hl 0 rfl) ?_
          refine lv_aload_n hx hb dX12_lift_226 rfl (lv_at hl 0 rfl) ?_
          obtain ⟨x95, e96, hf⟩ := mb0 hf
          refine my_gL hx hb hts hown hK hJ fd_RX12_287 hv_12_8 e96 dX12_lift_227 ?_
          refine lv_aload_n hx hb dX12_lift_230 rfl (lv_at hl 0 rfl) ?_
          obtain ⟨x97, e98, hf⟩ := mb0 hf
          refine my_gL hx hb hts hown hK hJ fd_RX12_291 hv_12_9 e98 dX12_lift_231 ?_
          refine lv_aload_n hx hb dX12_lift_234 rfl (lv_at hl 0 rfl) ?_
          obtain ⟨b99, e100, hf⟩ := mb0 hf
          refine my_gR hx hb hts hown hK hJ fd_RX12_159 hv_12_76 e100 dX12_lift_235 ?_
          refine lv_iload hx hb dX12_lift_238 (lv_at hl 7 rfl) ?_
          obtain ⟨x101, e102, hf⟩ := mb0 hf
          refine mx_aI hx hb hK hJ e102 dX12_lift_240 ?_
          refine lv_i2l hx hb dX12_lift_241 rfl ?_
          refine lv_lconst (v := 1) hx hb dX12_lift_242 (by decide) ?_
          obtain ⟨i103, e104, hf⟩ := mb0 hf
          obtain ⟨σ105, e106, hf⟩ := mb0 hf
          refine mx_callV (As := [.long x95, .long x97, .long (x101.toInt64), .long (1 : Int64)]) (rest := []) hx hb hml hts hown hK hJ rfl rfl (ci := 12) rfl e104 (c_X12_by l G P v0 x95 x97 (x101.toInt64) (1 : Int64) σ93 σ105 e106) me_X12_by kw_2646 ks_150 kw_2644 (Nat.le_of_ble_eq_true rfl) (Nat.le_of_ble_eq_true rfl) rfl hl.1 rfl (Nat.le_of_ble_eq_true rfl) dX12_lift_243 (fun H locs hJ => ?_)
          refine lv_aload_n hx hb dX12_lift_246 rfl (lv_at hl 0 rfl) ?_
          refine lv_aload_n hx hb dX12_lift_247 rfl (lv_at hl 0 rfl) ?_
          obtain ⟨b107, e108, hf⟩ := mb0 hf
          refine my_gR hx hb hts hown hK hJ fd_RX12_168 hv_12_79 e108 dX12_lift_248 ?_
          refine lv_iload hx hb dX12_lift_251 (lv_at hl 7 rfl) ?_
          obtain ⟨x109, e110, hf⟩ := mb0 hf
          refine mx_aI hx hb hK hJ e110 dX12_lift_253 ?_
          refine lv_aload_n hx hb dX12_lift_254 rfl (lv_at hl 0 rfl) ?_
          obtain ⟨x111, e112, hf⟩ := mb0 hf
          refine my_gL hx hb hts hown hK hJ fd_RX12_287 hv_12_8 e112 dX12_lift_255 ?_
          refine lv_aload_n hx hb dX12_lift_258 rfl (lv_at hl 0 rfl) ?_
          obtain ⟨x113, e114, hf⟩ := mb0 hf
          refine my_gL hx hb hts hown hK hJ fd_RX12_291 hv_12_9 e114 dX12_lift_259 ?_
          obtain ⟨i115, e116, hf⟩ := mb0 hf
          obtain ⟨σ117, e118, hf⟩ := mb0 hf
          refine mx_callV (As := [.int x109, .long x111, .long x113]) (rest := []) hx hb hml hts hown hK hJ rfl rfl (ci := 12) rfl e116 (c_X12_lawAt l G P v0 x109 x111 x113 σ105 σ117 e118) me_X12_lawAt kw_2708 ks_157 kw_2706 (Nat.le_of_ble_eq_true rfl) (Nat.le_of_ble_eq_true rfl) rfl hl.1 rfl (Nat.le_of_ble_eq_true rfl) dX12_lift_262 (fun H locs hJ => ?_)
          refine lv_aload_n hx hb dX12_lift_265 rfl (lv_at hl 0 rfl) ?_
          refine lv_aload_n hx hb dX12_lift_266 rfl (lv_at hl 0 rfl) ?_
          obtain ⟨x119, e120, hf⟩ := mb0 hf
          refine my_gL hx hb hts hown hK hJ fd_RX12_287 hv_12_8 e120 dX12_lift_267 ?_
          refine lv_aload_n hx hb dX12_lift_270 rfl (lv_at hl 0 rfl) ?_
          obtain ⟨x121, e122, hf⟩ := mb0 hf
          refine my_gL hx hb hts hown hK hJ fd_RX12_291 hv_12_9 e122 dX12_lift_271 ?_
          refine lv_aload_n hx hb dX12_lift_274 rfl (lv_at hl 0 rfl) ?_
          obtain ⟨b123, e124, hf⟩ := mb0 hf
          refine my_gR hx hb hts hown hK hJ fd_RX12_162 hv_12_77 e124 dX12_lift_275 ?_
          refine lv_iload hx hb dX12_lift_278 (lv_at hl 7 rfl) ?_
          obtain ⟨x125, e126, hf⟩ := mb0 hf
          refine mx_aL hx hb hK hJ e126 dX12_lift_280 ?_
          refine lv_aload_n hx hb dX12_lift_281 rfl (lv_at hl 0 rfl) ?_
          obtain ⟨b127, e128, hf⟩ := mb0 hf
          refine my_gR hx hb hts hown hK hJ fd_RX12_165 hv_12_78 e128 dX12_lift_282 ?_
          refine lv_iload hx hb dX12_lift_285 (lv_at hl 7 rfl) ?_
          obtain ⟨x129, e130, hf⟩ := mb0 hf
          refine mx_aL hx hb hK hJ e130 dX12_lift_287 ?_
          obtain ⟨i131, e132, hf⟩ := mb0 hf
          obtain ⟨σ133, e134, hf⟩ := mb0 hf
          refine mx_callV (As := [.long x119, .long x121, .long x125, .long x129]) (rest := []) hx hb hml hts hown hK hJ rfl rfl (ci := 12) rfl e132 (c_X12_times l G P v0 x119 x121 x125 x129 σ117 σ133 e134) me_X12_times kw_2650 ks_151 kw_2648 (Nat.le_of_ble_eq_true rfl) (Nat.le_of_ble_eq_true rfl) rfl hl.1 rfl (Nat.le_of_ble_eq_true rfl) dX12_lift_288 (fun H locs hJ => ?_)
          refine lv_aload_n hx hb dX12_lift_291 rfl (lv_at hl 0 rfl) ?_
          refine lv_lload hx hb dX12_lift_292 (lv_at hl 5 rfl) ?_
          refine lv_lload hx hb dX12_lift_294 (lv_at hl 6 rfl) ?_
          refine lv_aload_n hx hb dX12_lift_296 rfl (lv_at hl 0 rfl) ?_
          obtain ⟨b135, e136, hf⟩ := mb0 hf
          refine my_gR hx hb hts hown hK hJ fd_RX12_156 hv_12_75 e136 dX12_lift_297 ?_
          refine lv_iload hx hb dX12_lift_300 (lv_at hl 7 rfl) ?_
          obtain ⟨x137, e138, hf⟩ := mb0 hf
          refine mx_aI hx hb hK hJ e138 dX12_lift_302 ?_
          refine lv_iconst (v := 2) hx hb dX12_lift_303 (by decide) ?_
          refine lv_icmp_ne (tgt := 315) hx hb dX12_lift_304 (by decide) (fun c139 => ?_) (fun c139 => ?_)
          · rw [if_neg c139] at hf
            refine lv_aload_n hx hb dX12_lift_315 rfl (lv_at hl 0 rfl) ?_
            obtain ⟨x140, e141, hf⟩ := mb0 hf
            refine my_gL hx hb hts hown hK hJ fd_RX12_287 hv_12_8 e141 dX12_lift_316 ?_
            exact D319 v0 v3 x140 y58 y57 v0 σ133 hf _ _ hJ ls (lv_sub hl [0, 3] rfl)
          · rw [if_pos c139] at hf
            refine lv_aload_n hx hb dX12_lift_307 rfl (lv_at hl 0 rfl) ?_
            obtain ⟨x148, e149, hf⟩ := mb0 hf
            refine my_gL hx hb hts hown hK hJ fd_RX12_287 hv_12_8 e149 dX12_lift_308 ?_
            refine lv_lneg hx hb dX12_lift_311 ?_
            refine lv_goto (tgt := 319) hx hb dX12_lift_312 (by decide) ?_
            exact D319 v0 v3 (-x148) y58 y57 v0 σ133 hf _ _ hJ ls (lv_sub hl [0, 3] rfl)
    · rw [if_neg c13] at hf
      refine lv_lconst (v := 0) hx hb dX12_lift_77 (by decide) ?_
      exact my_lret hx hb hr hlocks hJ hf dX12_lift_78
  have D43 : ∀ (v0 : Nat) (v1 : Int32) (v2 : Int32) (v3 : Int32) (w0 : Int32) (τ : mx_S), f_X12_lift_D43 P v0 v1 v2 v3 w0 τ = some (r, σ') → ∀ (H : Heap) (locs : List Loc), mx_J G P s.heap (mxz σ) (mxu σ) τ H locs → ∀ ls : Array Slot, lv_has ls 11 [(0, .ref v0), (1, .int v1), (2, .int v2), (3, .int v3)] → W p l e (mx_rm P 6 165 σ) s m ([.ref a0, .int p1, .int p2, .int p3] : List Value).toArray below meth c H locs (mxz τ - mxz σ) (mxu τ - mxu σ) (mx_Z below G P (some (.long r)) σ σ' [.ref a0, .int p1, .int p2, .int p3] s) (F0 m 43 ls [.int w0]) := by
    intro v0 v1 v2 v3 w0 τ hf _ _ hJ ls hl
    unfold f_X12_lift_D43 at hf
    refine lv_istore (lv' := [(4, .int w0), (0, .ref v0), (1, .int v1), (2, .int v2), (3, .int v3)]) hx hb dX12_lift_43 hl (by decide) rfl (fun ls hl => ?_)
    refine lv_aload_n hx hb dX12_lift_45 rfl (lv_at hl 1 rfl) ?_
    refine lv_iload hx hb dX12_lift_46 (lv_at hl 0 rfl) ?_
    refine lv_if_ne (tgt := 55) hx hb dX12_lift_48 (by decide) (fun c5 => ?_) (fun c5 => ?_)
    · rw [if_neg c5] at hf
      refine lv_aload_n hx hb dX12_lift_55 rfl (lv_at hl 1 rfl) ?_
      obtain ⟨x6, e7, hf⟩ := mb0 hf
      refine my_gI hx hb hts hown hK hJ fd_RX12_685 hv_12_74 e7 dX12_lift_56 ?_
      refine lv_if_ne (tgt := 66) hx hb dX12_lift_59 (by decide) (fun c8 => ?_) (fun c8 => ?_)
      · rw [if_neg c8] at hf
        refine lv_iconst (v := 0) hx hb dX12_lift_66 (by decide) ?_
        exact D67 v0 v1 v2 v3 (0 : Int32) v0 τ hf _ _ hJ ls (lv_sub hl [1, 2, 3, 4] rfl)
      · rw [if_pos c8] at hf
        refine lv_iconst (v := 2) hx hb dX12_lift_62 (by decide) ?_
        refine lv_goto (tgt := 67) hx hb dX12_lift_63 (by decide) ?_
        exact D67 v0 v1 v2 v3 (2 : Int32) v0 τ hf _ _ hJ ls (lv_sub hl [1, 2, 3, 4] rfl)
    · rw [if_pos c5] at hf
      refine lv_iconst (v := 1) hx hb dX12_lift_51 (by decide) ?_
      refine lv_goto (tgt := 67) hx hb dX12_lift_52 (by decide) ?_
      exact D67 v0 v1 v2 v3 (1 : Int32) v0 τ hf _ _ hJ ls (lv_sub hl [1, 2, 3, 4] rfl)
  have D42 : ∀ (v0 : Nat) (v1 : Int32) (v2 : Int32) (v3 : Int32) (τ : mx_S), f_X12_lift_D42 P v0 v1 v2 v3 τ = some (r, σ') → ∀ (H : Heap) (locs : List Loc), mx_J G P s.heap (mxz σ) (mxu σ) τ H locs → ∀ ls : Array Slot, lv_has ls 11 [(0, .ref v0), (1, .int v1), (2, .int v2), (3, .int v3)] → W p l e (mx_rm P 6 165 σ) s m ([.ref a0, .int p1, .int p2, .int p3] : List Value).toArray below meth c H locs (mxz τ - mxz σ) (mxu τ - mxu σ) (mx_Z below G P (some (.long r)) σ σ' [.ref a0, .int p1, .int p2, .int p3] s) (F0 m 42 ls []) := by
    intro v0 v1 v2 v3 τ hf _ _ hJ ls hl
    unfold f_X12_lift_D42 at hf
    refine lv_iconst (v := 0) hx hb dX12_lift_42 (by decide) ?_
    exact D43 v0 v1 v2 v3 (0 : Int32) τ hf _ _ hJ ls (lv_sub hl [0, 1, 2, 3] rfl)
  unfold f_X12_lift at hf
  refine lv_iload_n hx hb dX12_lift_0 rfl (lv_at hl 2 rfl) ?_
  refine lv_i2l hx hb dX12_lift_1 rfl ?_
  refine lv_lconst (v := 1) hx hb dX12_lift_2 (by decide) ?_
  refine lv_ldc2 hx hb hown (hts _ kw_2574) dX12_lift_3 ?_
  obtain ⟨x2, σ1, e3, hf⟩ := mc0 hf
  refine mx_callS (As := [.long (p2.toInt64), .long (1 : Int64), .long (1000 : Int64)]) (rest := []) hx hb hml hts hown hK hJ rfl rfl (c_X12_in l G P (p2.toInt64) (1 : Int64) (1000 : Int64) σ x2 σ1 e3) me_X12_in kw_2223 kw_2222 (Nat.le_of_ble_eq_true rfl) (Nat.le_of_ble_eq_true rfl) rfl hl.1 rfl (Nat.le_of_ble_eq_true rfl) dX12_lift_6 (fun H locs hJ => ?_)
  refine lv_if_eq (tgt := 42) hx hb dX12_lift_9 (by decide) (fun c4 => ?_) (fun c4 => ?_)
  · rw [if_pos c4] at hf
    exact D42 a0 p1 p2 p3 σ1 hf _ _ hJ ls (lv_sub hl [0, 1, 2, 3] rfl)
  · rw [if_neg c4] at hf
    refine lv_iload_n hx hb dX12_lift_12 rfl (lv_at hl 1 rfl) ?_
    refine lv_if_lt (tgt := 42) hx hb dX12_lift_13 (by decide) (fun c150 => ?_) (fun c150 => ?_)
    · rw [if_pos c150] at hf
      exact D42 a0 p1 p2 p3 σ1 hf _ _ hJ ls (lv_sub hl [0, 1, 2, 3] rfl)
    · rw [if_neg c150] at hf
      refine lv_iload_n hx hb dX12_lift_16 rfl (lv_at hl 1 rfl) ?_
      refine lv_i2l hx hb dX12_lift_17 rfl ?_
      refine lv_ldc2 hx hb hown (hts _ kw_2697) dX12_lift_18 ?_
      refine lv_iload_n hx hb dX12_lift_21 rfl (lv_at hl 2 rfl) ?_
      refine lv_i2l hx hb dX12_lift_22 rfl ?_
      refine lv_lmul hx hb dX12_lift_23 ?_
      refine W.lcmp hx hb dX12_lift_24 ?_
      refine lv_if_ge (tgt := 42) hx hb dX12_lift_25 (by decide) (fun c151 => ?_) (fun c151 => ?_)
      · rw [if_pos c151] at hf
        exact D42 a0 p1 p2 p3 σ1 hf _ _ hJ ls (lv_sub hl [0, 1, 2, 3] rfl)
      · rw [if_neg c151] at hf
        refine lv_iload_n hx hb dX12_lift_28 rfl (lv_at hl 3 rfl) ?_
        refine lv_i2l hx hb dX12_lift_29 rfl ?_
        refine lv_lconst (v := 0) hx hb dX12_lift_30 (by decide) ?_
        refine lv_lconst (v := 1) hx hb dX12_lift_31 (by decide) ?_
        obtain ⟨x153, σ152, e154, hf⟩ := mc0 hf
        refine mx_callS (As := [.long (p3.toInt64), .long (0 : Int64), .long (1 : Int64)]) (rest := []) hx hb hml hts hown hK hJ rfl rfl (c_X12_in l G P (p3.toInt64) (0 : Int64) (1 : Int64) σ1 x153 σ152 e154) me_X12_in kw_2223 kw_2222 (Nat.le_of_ble_eq_true rfl) (Nat.le_of_ble_eq_true rfl) rfl hl.1 rfl (Nat.le_of_ble_eq_true rfl) dX12_lift_32 (fun H locs hJ => ?_)
        refine lv_if_eq (tgt := 42) hx hb dX12_lift_35 (by decide) (fun c155 => ?_) (fun c155 => ?_)
        · rw [if_pos c155] at hf
          exact D42 a0 p1 p2 p3 σ152 hf _ _ hJ ls (lv_sub hl [0, 1, 2, 3] rfl)
        · rw [if_neg c155] at hf
          refine lv_iconst (v := 1) hx hb dX12_lift_38 (by decide) ?_
          refine lv_goto (tgt := 43) hx hb dX12_lift_39 (by decide) ?_
          exact D43 a0 p1 p2 p3 (1 : Int32) σ152 hf _ _ hJ ls (lv_sub hl [0, 1, 2, 3] rfl)
