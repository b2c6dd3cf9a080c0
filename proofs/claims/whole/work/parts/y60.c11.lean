set_option maxHeartbeats 4000000 in
set_option maxRecDepth 100000 in
theorem c_X12_linkage (l : Launch) (G : mx_G) (P : mx_P) (a0 : Nat) (σ : mx_S) (r : Int32) (σ' : mx_S) (hf : f_X12_linkage P a0 σ = some (r, σ')) : mxz σ ≤ mpc P → mxu σ ≤ mps P → mx_M l yX12_linkage cX12_linkage 3 (some .int) 7 162 G P [.ref a0] σ (some (.int r)) σ' := by
  intro hcap hcau
  refine mx_ofW (by decide +kernel) hcap hcau (Nat.le_of_ble_eq_true rfl) ?_
  intro p e s m below meth c hx hb hr hml hts hown hlocks hname hK hJ ls hl
  have hz0 := hJ.2.1
  have hown : s.vm.findClass RX12 = some m.cls := hown
  have hl : lv_has ls 3 [(0, .ref a0)] := hl
  have B19 : ∀ (v0 : Nat) (τ : mx_S) (o : (mx_S) ⊕ ((mx_S))), f_X12_linkage_B19 P v0  τ = some o → (∀  (υ : mx_S), o = .inl υ → ∀ (H : Heap) (locs : List Loc), mx_J G P s.heap (mxz σ) (mxu σ) υ H locs → ∀ ls : Array Slot, lv_has ls 3 [(0, .ref v0)] → W p l e (mx_rm P 7 162 σ) s m ([.ref a0] : List Value).toArray below meth c H locs (mxz υ - mxz σ) (mxu υ - mxu σ) (mx_Z below G P (some (.int r)) σ σ' [.ref a0] s) (F0 m 19 ls [])) → (∀  (υ : mx_S), o = .inr υ → ∀ (H : Heap) (locs : List Loc), mx_J G P s.heap (mxz σ) (mxu σ) υ H locs → ∀ ls : Array Slot, lv_has ls 3 [(0, .ref v0)] → W p l e (mx_rm P 7 162 σ) s m ([.ref a0] : List Value).toArray below meth c H locs (mxz υ - mxz σ) (mxu υ - mxu σ) (mx_Z below G P (some (.int r)) σ σ' [.ref a0] s) (F0 m 40 ls [])) → ∀ (H : Heap) (locs : List Loc), mx_J G P s.heap (mxz σ) (mxu σ) τ H locs → ∀ ls : Array Slot, lv_has ls 3 [(0, .ref v0)] → W p l e (mx_rm P 7 162 σ) s m ([.ref a0] : List Value).toArray below meth c H locs (mxz τ - mxz σ) (mxu τ - mxu σ) (mx_Z below G P (some (.int r)) σ σ' [.ref a0] s) (F0 m 19 ls []) := by
    intro v0  τ o hf Kb Ke0 H locs hJ ls hl
    unfold f_X12_linkage_B19 at hf
    refine lv_aload_n hx hb dX12_linkage_19 rfl (lv_at hl 0 rfl) ?_
    obtain ⟨x11, e12, hf⟩ := mb0 hf
    refine my_gI hx hb hts hown hK hJ fd_RX12_266 hv_12_4 e12 dX12_linkage_20 ?_
    refine lv_if_ne (tgt := 40) hx hb dX12_linkage_23 (by decide) (fun c13 => ?_) (fun c13 => ?_)
    · rw [if_neg c13] at hf
      exact Ke0 τ (Option.some.inj hf).symm _ _ hJ ls (lv_sub hl [0] rfl)
    · rw [if_pos c13] at hf
      refine lv_aload_n hx hb dX12_linkage_26 rfl (lv_at hl 0 rfl) ?_
      obtain ⟨x14, e15, hf⟩ := mb0 hf
      refine my_gI hx hb hts hown hK hJ fd_RX12_340 hv_12_15 e15 dX12_linkage_27 ?_
      refine lv_if_eq (tgt := 40) hx hb dX12_linkage_30 (by decide) (fun c16 => ?_) (fun c16 => ?_)
      · rw [if_pos c16] at hf
        exact Ke0 τ (Option.some.inj hf).symm _ _ hJ ls (lv_sub hl [0] rfl)
      · rw [if_neg c16] at hf
        refine lv_aload_n hx hb dX12_linkage_33 rfl (lv_at hl 0 rfl) ?_
        obtain ⟨i17, e18, hf⟩ := mb0 hf
        obtain ⟨σ19, e20, hf⟩ := mb0 hf
        refine mx_callV (As := []) (rest := []) hx hb hml hts hown hK hJ rfl rfl (ci := 12) rfl e18 (c_X12_statement l G P v0 τ σ19 e20) me_X12_statement kw_2267 ks_85 kw_2265 (Nat.le_of_ble_eq_true rfl) (Nat.le_of_ble_eq_true rfl) rfl hl.1 rfl (Nat.le_of_ble_eq_true rfl) dX12_linkage_34 (fun H locs hJ => ?_)
        refine lv_goto (tgt := 19) hx hb dX12_linkage_37 (by decide) ?_
        exact Kb σ19 (Option.some.inj hf).symm _ _ hJ ls (lv_sub hl [0] rfl)
  have L19 : ∀ (v0 : Nat) (n : Nat)  (τ : mx_S) (o : (mx_S)), mx_lp (f_X12_linkage_L19 P v0) n τ = some o → (∀  (υ : mx_S), o = υ → ∀ (H : Heap) (locs : List Loc), mx_J G P s.heap (mxz σ) (mxu σ) υ H locs → ∀ ls : Array Slot, lv_has ls 3 [(0, .ref v0)] → W p l e (mx_rm P 7 162 σ) s m ([.ref a0] : List Value).toArray below meth c H locs (mxz υ - mxz σ) (mxu υ - mxu σ) (mx_Z below G P (some (.int r)) σ σ' [.ref a0] s) (F0 m 40 ls [])) → ∀ (H : Heap) (locs : List Loc), mx_J G P s.heap (mxz σ) (mxu σ) τ H locs → ∀ ls : Array Slot, lv_has ls 3 [(0, .ref v0)] → W p l e (mx_rm P 7 162 σ) s m ([.ref a0] : List Value).toArray below meth c H locs (mxz τ - mxz σ) (mxu τ - mxu σ) (mx_Z below G P (some (.int r)) σ σ' [.ref a0] s) (F0 m 19 ls []) := by
    intro v0 n
    induction n with
    | zero =>
      intro  τ o hf
      rw [mx_lp0] at hf
      cases hf
    | succ n ih =>
      intro  τ o hf Ke0 H locs hJ ls hl
      rw [mx_lpS] at hf
      obtain ⟨b, eb, hf⟩ := mb0 hf
      refine B19 v0  τ b eb (fun  υ ho H locs hJ ls hl => ?_) (fun  υ ho H locs hJ ls hl => ?_) H locs hJ ls hl
      · subst ho
        exact ih  υ o hf Ke0 H locs hJ ls hl
      · subst ho
        exact Ke0  υ (Option.some.inj hf).symm _ _ hJ ls hl
  have B319 : ∀ (v0 : Nat) (v1 : Int32) (v2 : Int32) (τ : mx_S) (o : (Int32 × mx_S) ⊕ ((mx_S))), f_X12_linkage_B319 P v0 v1 v2 τ = some o → (∀ (y2 : Int32) (υ : mx_S), o = .inl (y2, υ) → ∀ (H : Heap) (locs : List Loc), mx_J G P s.heap (mxz σ) (mxu σ) υ H locs → ∀ ls : Array Slot, lv_has ls 3 [(0, .ref v0), (1, .int v1), (2, .int y2)] → W p l e (mx_rm P 7 162 σ) s m ([.ref a0] : List Value).toArray below meth c H locs (mxz υ - mxz σ) (mxu υ - mxu σ) (mx_Z below G P (some (.int r)) σ σ' [.ref a0] s) (F0 m 319 ls [])) → (∀  (υ : mx_S), o = .inr υ → ∀ (H : Heap) (locs : List Loc), mx_J G P s.heap (mxz σ) (mxu σ) υ H locs → ∀ ls : Array Slot, lv_has ls 3 [(0, .ref v0), (1, .int v1)] → W p l e (mx_rm P 7 162 σ) s m ([.ref a0] : List Value).toArray below meth c H locs (mxz υ - mxz σ) (mxu υ - mxu σ) (mx_Z below G P (some (.int r)) σ σ' [.ref a0] s) (F0 m 359 ls [])) → ∀ (H : Heap) (locs : List Loc), mx_J G P s.heap (mxz σ) (mxu σ) τ H locs → ∀ ls : Array Slot, lv_has ls 3 [(0, .ref v0), (1, .int v1), (2, .int v2)] → W p l e (mx_rm P 7 162 σ) s m ([.ref a0] : List Value).toArray below meth c H locs (mxz τ - mxz σ) (mxu τ - mxu σ) (mx_Z below G P (some (.int r)) σ σ' [.ref a0] s) (F0 m 319 ls []) := by
    intro v0 v1 v2 τ o hf Kb Ke0 H locs hJ ls hl
    unfold f_X12_linkage_B319 at hf
    refine lv_iload_n hx hb dX12_linkage_319 rfl (lv_at hl 2 rfl) ?_
    refine lv_aload_n hx hb dX12_linkage_320 rfl (lv_at hl 0 rfl) ?_
    obtain ⟨b136, e137, hf⟩ := mb0 hf
    refine my_gR hx hb hts hown hK hJ fd_RX12_78 hv_12_40 e137 dX12_linkage_321 ?_
    refine lv_iload_n hx hb dX12_linkage_324 rfl (lv_at hl 1 rfl) ?_
    obtain ⟨x138, e139, hf⟩ := mb0 hf
    refine mx_aI hx hb hK hJ e139 dX12_linkage_325 ?_
    refine lv_icmp_ge (tgt := 359) hx hb dX12_linkage_326 (by decide) (fun c140 => ?_) (fun c140 => ?_)
    · rw [if_pos c140] at hf
      exact Ke0 τ (Option.some.inj hf).symm _ _ hJ ls (lv_sub hl [0, 1] rfl)
    · rw [if_neg c140] at hf
      refine lv_aload_n hx hb dX12_linkage_329 rfl (lv_at hl 0 rfl) ?_
      obtain ⟨b141, e142, hf⟩ := mb0 hf
      refine my_gR hx hb hts hown hK hJ fd_RX12_57 hv_12_32 e142 dX12_linkage_330 ?_
      refine lv_bipush (v := 8) hx hb dX12_linkage_333 (by decide) ?_
      refine lv_iload_n hx hb dX12_linkage_335 rfl (lv_at hl 1 rfl) ?_
      refine lv_imul hx hb dX12_linkage_336 ?_
      refine lv_iload_n hx hb dX12_linkage_337 rfl (lv_at hl 2 rfl) ?_
      refine lv_iadd hx hb dX12_linkage_338 ?_
      refine lv_aload_n hx hb dX12_linkage_339 rfl (lv_at hl 0 rfl) ?_
      obtain ⟨b143, e144, hf⟩ := mb0 hf
      refine my_gR hx hb hts hown hK hJ fd_RX12_7 hv_12_1 e144 dX12_linkage_340 ?_
      refine lv_aload_n hx hb dX12_linkage_343 rfl (lv_at hl 0 rfl) ?_
      obtain ⟨b145, e146, hf⟩ := mb0 hf
      refine my_gR hx hb hts hown hK hJ fd_RX12_75 hv_12_39 e146 dX12_linkage_344 ?_
      refine lv_iload_n hx hb dX12_linkage_347 rfl (lv_at hl 1 rfl) ?_
      obtain ⟨x147, e148, hf⟩ := mb0 hf
      refine mx_aI hx hb hK hJ e148 dX12_linkage_348 ?_
      refine lv_iload_n hx hb dX12_linkage_349 rfl (lv_at hl 2 rfl) ?_
      refine lv_iadd hx hb dX12_linkage_350 ?_
      obtain ⟨x149, e150, hf⟩ := mb0 hf
      refine mx_aI hx hb hK hJ e150 dX12_linkage_351 ?_
      obtain ⟨σ151, e152, hf⟩ := mb0 hf
      refine mx_sI hx hb hK hJ e152 dX12_linkage_352 (fun H locs hJ => ?_)
      obtain ⟨x153, e154, hf⟩ := mb0 hf
      refine lv_iinc (v := x153) (lv' := [(2, .int x153), (0, .ref v0), (1, .int v1)]) hx hb dX12_linkage_353 hl (k := 2) rfl (by rw [← Option.some.inj e154]; rfl) (by decide) rfl (fun ls hl => ?_)
      refine lv_goto (tgt := 319) hx hb dX12_linkage_356 (by decide) ?_
      exact Kb x153 σ151 (Option.some.inj hf).symm _ _ hJ ls (lv_sub hl [1, 2, 0] rfl)
  have L319 : ∀ (v0 : Nat) (v1 : Int32) (n : Nat) (v2 : Int32) (τ : mx_S) (o : (mx_S)), mx_lp (f_X12_linkage_L319 P v0 v1) n (v2, τ) = some o → (∀  (υ : mx_S), o = υ → ∀ (H : Heap) (locs : List Loc), mx_J G P s.heap (mxz σ) (mxu σ) υ H locs → ∀ ls : Array Slot, lv_has ls 3 [(0, .ref v0), (1, .int v1)] → W p l e (mx_rm P 7 162 σ) s m ([.ref a0] : List Value).toArray below meth c H locs (mxz υ - mxz σ) (mxu υ - mxu σ) (mx_Z below G P (some (.int r)) σ σ' [.ref a0] s) (F0 m 359 ls [])) → ∀ (H : Heap) (locs : List Loc), mx_J G P s.heap (mxz σ) (mxu σ) τ H locs → ∀ ls : Array Slot, lv_has ls 3 [(0, .ref v0), (1, .int v1), (2, .int v2)] → W p l e (mx_rm P 7 162 σ) s m ([.ref a0] : List Value).toArray below meth c H locs (mxz τ - mxz σ) (mxu τ - mxu σ) (mx_Z below G P (some (.int r)) σ σ' [.ref a0] s) (F0 m 319 ls []) := by
    intro v0 v1 n
    induction n with
    | zero =>
      intro v2 τ o hf
      rw [mx_lp0] at hf
      cases hf
    | succ n ih =>
      intro v2 τ o hf Ke0 H locs hJ ls hl
      rw [mx_lpS] at hf
      obtain ⟨b, eb, hf⟩ := mb0 hf
      refine B319 v0 v1 v2 τ b eb (fun y2 υ ho H locs hJ ls hl => ?_) (fun  υ ho H locs hJ ls hl => ?_) H locs hJ ls hl
      · subst ho
        exact ih y2 υ o hf Ke0 H locs hJ ls hl
      · subst ho
        exact Ke0  υ (Option.some.inj hf).symm _ _ hJ ls hl
  have B153 : ∀ (v0 : Nat) (v1 : Int32) (τ : mx_S) (o : (Int32 × mx_S) ⊕ ((mx_S))), f_X12_linkage_B153 P v0 v1 τ = some o → (∀ (y1 : Int32) (υ : mx_S), o = .inl (y1, υ) → ∀ (H : Heap) (locs : List Loc), mx_J G P s.heap (mxz σ) (mxu σ) υ H locs → ∀ ls : Array Slot, lv_has ls 3 [(0, .ref v0), (1, .int y1)] → W p l e (mx_rm P 7 162 σ) s m ([.ref a0] : List Value).toArray below meth c H locs (mxz υ - mxz σ) (mxu υ - mxu σ) (mx_Z below G P (some (.int r)) σ σ' [.ref a0] s) (F0 m 153 ls [])) → (∀  (υ : mx_S), o = .inr υ → ∀ (H : Heap) (locs : List Loc), mx_J G P s.heap (mxz σ) (mxu σ) υ H locs → ∀ ls : Array Slot, lv_has ls 3 [(0, .ref v0)] → W p l e (mx_rm P 7 162 σ) s m ([.ref a0] : List Value).toArray below meth c H locs (mxz υ - mxz σ) (mxu υ - mxu σ) (mx_Z below G P (some (.int r)) σ σ' [.ref a0] s) (F0 m 386 ls [])) → ∀ (H : Heap) (locs : List Loc), mx_J G P s.heap (mxz σ) (mxu σ) τ H locs → ∀ ls : Array Slot, lv_has ls 3 [(0, .ref v0), (1, .int v1)] → W p l e (mx_rm P 7 162 σ) s m ([.ref a0] : List Value).toArray below meth c H locs (mxz τ - mxz σ) (mxu τ - mxu σ) (mx_Z below G P (some (.int r)) σ σ' [.ref a0] s) (F0 m 153 ls []) := by
    intro v0 v1 τ o hf Kb Ke0 H locs hJ ls hl
    unfold f_X12_linkage_B153 at hf
    refine lv_iload_n hx hb dX12_linkage_153 rfl (lv_at hl 1 rfl) ?_
    refine lv_aload_n hx hb dX12_linkage_154 rfl (lv_at hl 0 rfl) ?_
    obtain ⟨x45, e46, hf⟩ := mb0 hf
    refine my_gI hx hb hts hown hK hJ fd_RX12_460 hv_12_19 e46 dX12_linkage_155 ?_
    refine lv_icmp_ge (tgt := 386) hx hb dX12_linkage_158 (by decide) (fun c47 => ?_) (fun c47 => ?_)
    · rw [if_pos c47] at hf
      exact Ke0 τ (Option.some.inj hf).symm _ _ hJ ls (lv_sub hl [0] rfl)
    · rw [if_neg c47] at hf
      refine lv_aload_n hx hb dX12_linkage_161 rfl (lv_at hl 0 rfl) ?_
      obtain ⟨b48, e49, hf⟩ := mb0 hf
      refine my_gR hx hb hts hown hK hJ fd_RX12_24 hv_12_21 e49 dX12_linkage_162 ?_
      refine lv_iload_n hx hb dX12_linkage_165 rfl (lv_at hl 1 rfl) ?_
      refine lv_aload_n hx hb dX12_linkage_166 rfl (lv_at hl 0 rfl) ?_
      obtain ⟨b50, e51, hf⟩ := mb0 hf
      refine my_gR hx hb hts hown hK hJ fd_RX12_81 hv_12_41 e51 dX12_linkage_167 ?_
      refine lv_iload_n hx hb dX12_linkage_170 rfl (lv_at hl 1 rfl) ?_
      obtain ⟨x52, e53, hf⟩ := mb0 hf
      refine mx_aI hx hb hK hJ e53 dX12_linkage_171 ?_
      obtain ⟨σ54, e55, hf⟩ := mb0 hf
      refine mx_sI hx hb hK hJ e55 dX12_linkage_172 (fun H locs hJ => ?_)
      refine lv_aload_n hx hb dX12_linkage_173 rfl (lv_at hl 0 rfl) ?_
      obtain ⟨b56, e57, hf⟩ := mb0 hf
      refine my_gR hx hb hts hown hK hJ fd_RX12_30 hv_12_23 e57 dX12_linkage_174 ?_
      refine lv_iload_n hx hb dX12_linkage_177 rfl (lv_at hl 1 rfl) ?_
      refine lv_aload_n hx hb dX12_linkage_178 rfl (lv_at hl 0 rfl) ?_
      obtain ⟨b58, e59, hf⟩ := mb0 hf
      refine my_gR hx hb hts hown hK hJ fd_RX12_90 hv_12_44 e59 dX12_linkage_179 ?_
      refine lv_iconst (v := 4) hx hb dX12_linkage_182 (by decide) ?_
      refine lv_iload_n hx hb dX12_linkage_183 rfl (lv_at hl 1 rfl) ?_
      refine lv_imul hx hb dX12_linkage_184 ?_
      obtain ⟨x60, e61, hf⟩ := mb0 hf
      refine mx_aL hx hb hK hJ e61 dX12_linkage_185 ?_
      obtain ⟨σ62, e63, hf⟩ := mb0 hf
      refine mx_sL hx hb hK hJ e63 dX12_linkage_186 (fun H locs hJ => ?_)
      refine lv_aload_n hx hb dX12_linkage_187 rfl (lv_at hl 0 rfl) ?_
      obtain ⟨b64, e65, hf⟩ := mb0 hf
      refine my_gR hx hb hts hown hK hJ fd_RX12_33 hv_12_24 e65 dX12_linkage_188 ?_
      refine lv_iload_n hx hb dX12_linkage_191 rfl (lv_at hl 1 rfl) ?_
      refine lv_aload_n hx hb dX12_linkage_192 rfl (lv_at hl 0 rfl) ?_
      obtain ⟨b66, e67, hf⟩ := mb0 hf
      refine my_gR hx hb hts hown hK hJ fd_RX12_90 hv_12_44 e67 dX12_linkage_193 ?_
      refine lv_iconst (v := 4) hx hb dX12_linkage_196 (by decide) ?_
      refine lv_iload_n hx hb dX12_linkage_197 rfl (lv_at hl 1 rfl) ?_
      refine lv_imul hx hb dX12_linkage_198 ?_
      refine lv_iconst (v := 1) hx hb dX12_linkage_199 (by decide) ?_
      refine lv_iadd hx hb dX12_linkage_200 ?_
      obtain ⟨x68, e69, hf⟩ := mb0 hf
      refine mx_aL hx hb hK hJ e69 dX12_linkage_201 ?_
      obtain ⟨σ70, e71, hf⟩ := mb0 hf
      refine mx_sL hx hb hK hJ e71 dX12_linkage_202 (fun H locs hJ => ?_)
      refine lv_aload_n hx hb dX12_linkage_203 rfl (lv_at hl 0 rfl) ?_
      obtain ⟨b72, e73, hf⟩ := mb0 hf
      refine my_gR hx hb hts hown hK hJ fd_RX12_36 hv_12_25 e73 dX12_linkage_204 ?_
      refine lv_iload_n hx hb dX12_linkage_207 rfl (lv_at hl 1 rfl) ?_
      refine lv_aload_n hx hb dX12_linkage_208 rfl (lv_at hl 0 rfl) ?_
      obtain ⟨b74, e75, hf⟩ := mb0 hf
      refine my_gR hx hb hts hown hK hJ fd_RX12_90 hv_12_44 e75 dX12_linkage_209 ?_
      refine lv_iconst (v := 4) hx hb dX12_linkage_212 (by decide) ?_
      refine lv_iload_n hx hb dX12_linkage_213 rfl (lv_at hl 1 rfl) ?_
      refine lv_imul hx hb dX12_linkage_214 ?_
      refine lv_iconst (v := 2) hx hb dX12_linkage_215 (by decide) ?_
      refine lv_iadd hx hb dX12_linkage_216 ?_
      obtain ⟨x76, e77, hf⟩ := mb0 hf
      refine mx_aL hx hb hK hJ e77 dX12_linkage_217 ?_
      obtain ⟨σ78, e79, hf⟩ := mb0 hf
      refine mx_sL hx hb hK hJ e79 dX12_linkage_218 (fun H locs hJ => ?_)
      refine lv_aload_n hx hb dX12_linkage_219 rfl (lv_at hl 0 rfl) ?_
      obtain ⟨b80, e81, hf⟩ := mb0 hf
      refine my_gR hx hb hts hown hK hJ fd_RX12_39 hv_12_26 e81 dX12_linkage_220 ?_
      refine lv_iload_n hx hb dX12_linkage_223 rfl (lv_at hl 1 rfl) ?_
      refine lv_aload_n hx hb dX12_linkage_224 rfl (lv_at hl 0 rfl) ?_
      obtain ⟨b82, e83, hf⟩ := mb0 hf
      refine my_gR hx hb hts hown hK hJ fd_RX12_90 hv_12_44 e83 dX12_linkage_225 ?_
      refine lv_iconst (v := 4) hx hb dX12_linkage_228 (by decide) ?_
      refine lv_iload_n hx hb dX12_linkage_229 rfl (lv_at hl 1 rfl) ?_
      refine lv_imul hx hb dX12_linkage_230 ?_
      refine lv_iconst (v := 3) hx hb dX12_linkage_231 (by decide) ?_
      refine lv_iadd hx hb dX12_linkage_232 ?_
      obtain ⟨x84, e85, hf⟩ := mb0 hf
      refine mx_aL hx hb hK hJ e85 dX12_linkage_233 ?_
      obtain ⟨σ86, e87, hf⟩ := mb0 hf
      refine mx_sL hx hb hK hJ e87 dX12_linkage_234 (fun H locs hJ => ?_)
      refine lv_aload_n hx hb dX12_linkage_235 rfl (lv_at hl 0 rfl) ?_
      obtain ⟨b88, e89, hf⟩ := mb0 hf
      refine my_gR hx hb hts hown hK hJ fd_RX12_42 hv_12_27 e89 dX12_linkage_236 ?_
      refine lv_iload_n hx hb dX12_linkage_239 rfl (lv_at hl 1 rfl) ?_
      refine lv_aload_n hx hb dX12_linkage_240 rfl (lv_at hl 0 rfl) ?_
      obtain ⟨b90, e91, hf⟩ := mb0 hf
      refine my_gR hx hb hts hown hK hJ fd_RX12_93 hv_12_45 e91 dX12_linkage_241 ?_
      refine lv_iconst (v := 3) hx hb dX12_linkage_244 (by decide) ?_
      refine lv_iload_n hx hb dX12_linkage_245 rfl (lv_at hl 1 rfl) ?_
      refine lv_imul hx hb dX12_linkage_246 ?_
      obtain ⟨x92, e93, hf⟩ := mb0 hf
      refine mx_aI hx hb hK hJ e93 dX12_linkage_247 ?_
      obtain ⟨σ94, e95, hf⟩ := mb0 hf
      refine mx_sI hx hb hK hJ e95 dX12_linkage_248 (fun H locs hJ => ?_)
      refine lv_aload_n hx hb dX12_linkage_249 rfl (lv_at hl 0 rfl) ?_
      obtain ⟨b96, e97, hf⟩ := mb0 hf
      refine my_gR hx hb hts hown hK hJ fd_RX12_45 hv_12_28 e97 dX12_linkage_250 ?_
      refine lv_iload_n hx hb dX12_linkage_253 rfl (lv_at hl 1 rfl) ?_
      refine lv_aload_n hx hb dX12_linkage_254 rfl (lv_at hl 0 rfl) ?_
      obtain ⟨b98, e99, hf⟩ := mb0 hf
      refine my_gR hx hb hts hown hK hJ fd_RX12_93 hv_12_45 e99 dX12_linkage_255 ?_
      refine lv_iconst (v := 3) hx hb dX12_linkage_258 (by decide) ?_
      refine lv_iload_n hx hb dX12_linkage_259 rfl (lv_at hl 1 rfl) ?_
      refine lv_imul hx hb dX12_linkage_260 ?_
      refine lv_iconst (v := 1) hx hb dX12_linkage_261 (by decide) ?_
      refine lv_iadd hx hb dX12_linkage_262 ?_
      obtain ⟨x100, e101, hf⟩ := mb0 hf
      refine mx_aI hx hb hK hJ e101 dX12_linkage_263 ?_
      obtain ⟨σ102, e103, hf⟩ := mb0 hf
      refine mx_sI hx hb hK hJ e103 dX12_linkage_264 (fun H locs hJ => ?_)
      refine lv_aload_n hx hb dX12_linkage_265 rfl (lv_at hl 0 rfl) ?_
      obtain ⟨b104, e105, hf⟩ := mb0 hf
      refine my_gR hx hb hts hown hK hJ fd_RX12_48 hv_12_29 e105 dX12_linkage_266 ?_
      refine lv_iload_n hx hb dX12_linkage_269 rfl (lv_at hl 1 rfl) ?_
      refine lv_aload_n hx hb dX12_linkage_270 rfl (lv_at hl 0 rfl) ?_
      obtain ⟨b106, e107, hf⟩ := mb0 hf
      refine my_gR hx hb hts hown hK hJ fd_RX12_93 hv_12_45 e107 dX12_linkage_271 ?_
      refine lv_iconst (v := 3) hx hb dX12_linkage_274 (by decide) ?_
      refine lv_iload_n hx hb dX12_linkage_275 rfl (lv_at hl 1 rfl) ?_
      refine lv_imul hx hb dX12_linkage_276 ?_
      refine lv_iconst (v := 2) hx hb dX12_linkage_277 (by decide) ?_
      refine lv_iadd hx hb dX12_linkage_278 ?_
      obtain ⟨x108, e109, hf⟩ := mb0 hf
      refine mx_aI hx hb hK hJ e109 dX12_linkage_279 ?_
      obtain ⟨σ110, e111, hf⟩ := mb0 hf
      refine mx_sI hx hb hK hJ e111 dX12_linkage_280 (fun H locs hJ => ?_)
      refine lv_aload_n hx hb dX12_linkage_281 rfl (lv_at hl 0 rfl) ?_
      obtain ⟨b112, e113, hf⟩ := mb0 hf
      refine my_gR hx hb hts hown hK hJ fd_RX12_51 hv_12_30 e113 dX12_linkage_282 ?_
      refine lv_iload_n hx hb dX12_linkage_285 rfl (lv_at hl 1 rfl) ?_
      refine lv_aload_n hx hb dX12_linkage_286 rfl (lv_at hl 0 rfl) ?_
      obtain ⟨b114, e115, hf⟩ := mb0 hf
      refine my_gR hx hb hts hown hK hJ fd_RX12_96 hv_12_46 e115 dX12_linkage_287 ?_
      refine lv_iload_n hx hb dX12_linkage_290 rfl (lv_at hl 1 rfl) ?_
      obtain ⟨x116, e117, hf⟩ := mb0 hf
      refine mx_aI hx hb hK hJ e117 dX12_linkage_291 ?_
      obtain ⟨σ118, e119, hf⟩ := mb0 hf
      refine mx_sI hx hb hK hJ e119 dX12_linkage_292 (fun H locs hJ => ?_)
      refine lv_aload_n hx hb dX12_linkage_293 rfl (lv_at hl 0 rfl) ?_
      obtain ⟨b120, e121, hf⟩ := mb0 hf
      refine my_gR hx hb hts hown hK hJ fd_RX12_60 hv_12_33 e121 dX12_linkage_294 ?_
      refine lv_iload_n hx hb dX12_linkage_297 rfl (lv_at hl 1 rfl) ?_
      refine lv_aload_n hx hb dX12_linkage_298 rfl (lv_at hl 0 rfl) ?_
      obtain ⟨b122, e123, hf⟩ := mb0 hf
      refine my_gR hx hb hts hown hK hJ fd_RX12_102 hv_12_48 e123 dX12_linkage_299 ?_
      refine lv_iload_n hx hb dX12_linkage_302 rfl (lv_at hl 1 rfl) ?_
      obtain ⟨x124, e125, hf⟩ := mb0 hf
      refine mx_aI hx hb hK hJ e125 dX12_linkage_303 ?_
      obtain ⟨σ126, e127, hf⟩ := mb0 hf
      refine mx_sI hx hb hK hJ e127 dX12_linkage_304 (fun H locs hJ => ?_)
      refine lv_aload_n hx hb dX12_linkage_305 rfl (lv_at hl 0 rfl) ?_
      obtain ⟨b128, e129, hf⟩ := mb0 hf
      refine my_gR hx hb hts hown hK hJ fd_RX12_54 hv_12_31 e129 dX12_linkage_306 ?_
      refine lv_iload_n hx hb dX12_linkage_309 rfl (lv_at hl 1 rfl) ?_
      refine lv_aload_n hx hb dX12_linkage_310 rfl (lv_at hl 0 rfl) ?_
      obtain ⟨b130, e131, hf⟩ := mb0 hf
      refine my_gR hx hb hts hown hK hJ fd_RX12_78 hv_12_40 e131 dX12_linkage_311 ?_
      refine lv_iload_n hx hb dX12_linkage_314 rfl (lv_at hl 1 rfl) ?_
      obtain ⟨x132, e133, hf⟩ := mb0 hf
      refine mx_aI hx hb hK hJ e133 dX12_linkage_315 ?_
      obtain ⟨σ134, e135, hf⟩ := mb0 hf
      refine mx_sI hx hb hK hJ e135 dX12_linkage_316 (fun H locs hJ => ?_)
      refine lv_iconst (v := 0) hx hb dX12_linkage_317 (by decide) ?_
      refine lv_istore_n (lv' := [(2, .int (0 : Int32)), (0, .ref v0), (1, .int v1)]) hx hb dX12_linkage_318 rfl hl (by decide) rfl (fun ls hl => ?_)
      obtain ⟨o155, e156, hf⟩ := mb0 hf
      refine L319 v0 v1 (mpN P) (0 : Int32) σ134 o155 e156 (fun σ157 ho H locs hJ ls hl => ?_) _ _ hJ ls (lv_sub hl [1, 2, 0] rfl)
      · rw [ho] at hf
        have hf : ((mg_R σ157 v0 12 35).bind fun b158 => (ms_I P σ157 b158 0 v1 (0 : Int32)).bind fun σ160 => (mg_R σ160 v0 12 36).bind fun b162 => (ms_I P σ160 b162 0 v1 (0 : Int32)).bind fun σ164 => (mg_R σ164 v0 12 37).bind fun b166 => (ms_I P σ164 b166 0 v1 (0 : Int32)).bind fun σ168 => (some (v1 + (1 : Int32))).bind fun x170 => some (.inl (x170, σ168))) = some o := hf
        refine lv_aload_n hx hb dX12_linkage_359 rfl (lv_at hl 0 rfl) ?_
        obtain ⟨b158, e159, hf⟩ := mb0 hf
        refine my_gR hx hb hts hown hK hJ fd_RX12_66 hv_12_35 e159 dX12_linkage_360 ?_
        refine lv_iload_n hx hb dX12_linkage_363 rfl (lv_at hl 1 rfl) ?_
        refine lv_iconst (v := 0) hx hb dX12_linkage_364 (by decide) ?_
        obtain ⟨σ160, e161, hf⟩ := mb0 hf
        refine mx_sI hx hb hK hJ e161 dX12_linkage_365 (fun H locs hJ => ?_)
        refine lv_aload_n hx hb dX12_linkage_366 rfl (lv_at hl 0 rfl) ?_
        obtain ⟨b162, e163, hf⟩ := mb0 hf
        refine my_gR hx hb hts hown hK hJ fd_RX12_69 hv_12_36 e163 dX12_linkage_367 ?_
        refine lv_iload_n hx hb dX12_linkage_370 rfl (lv_at hl 1 rfl) ?_
        refine lv_iconst (v := 0) hx hb dX12_linkage_371 (by decide) ?_
        obtain ⟨σ164, e165, hf⟩ := mb0 hf
        refine mx_sI hx hb hK hJ e165 dX12_linkage_372 (fun H locs hJ => ?_)
        refine lv_aload_n hx hb dX12_linkage_373 rfl (lv_at hl 0 rfl) ?_
        obtain ⟨b166, e167, hf⟩ := mb0 hf
        refine my_gR hx hb hts hown hK hJ fd_RX12_72 hv_12_37 e167 dX12_linkage_374 ?_
        refine lv_iload_n hx hb dX12_linkage_377 rfl (lv_at hl 1 rfl) ?_
        refine lv_iconst (v := 0) hx hb dX12_linkage_378 (by decide) ?_
        obtain ⟨σ168, e169, hf⟩ := mb0 hf
        refine mx_sI hx hb hK hJ e169 dX12_linkage_379 (fun H locs hJ => ?_)
        obtain ⟨x170, e171, hf⟩ := mb0 hf
        refine lv_iinc (v := x170) (lv' := [(1, .int x170), (0, .ref v0)]) hx hb dX12_linkage_380 hl (k := 1) rfl (by rw [← Option.some.inj e171]; rfl) (by decide) rfl (fun ls hl => ?_)
        refine lv_goto (tgt := 153) hx hb dX12_linkage_383 (by decide) ?_
        exact Kb x170 σ168 (Option.some.inj hf).symm _ _ hJ ls (lv_sub hl [1, 0] rfl)
  have L153 : ∀ (v0 : Nat) (n : Nat) (v1 : Int32) (τ : mx_S) (o : (mx_S)), mx_lp (f_X12_linkage_L153 P v0) n (v1, τ) = some o → (∀  (υ : mx_S), o = υ → ∀ (H : Heap) (locs : List Loc), mx_J G P s.heap (mxz σ) (mxu σ) υ H locs → ∀ ls : Array Slot, lv_has ls 3 [(0, .ref v0)] → W p l e (mx_rm P 7 162 σ) s m ([.ref a0] : List Value).toArray below meth c H locs (mxz υ - mxz σ) (mxu υ - mxu σ) (mx_Z below G P (some (.int r)) σ σ' [.ref a0] s) (F0 m 386 ls [])) → ∀ (H : Heap) (locs : List Loc), mx_J G P s.heap (mxz σ) (mxu σ) τ H locs → ∀ ls : Array Slot, lv_has ls 3 [(0, .ref v0), (1, .int v1)] → W p l e (mx_rm P 7 162 σ) s m ([.ref a0] : List Value).toArray below meth c H locs (mxz τ - mxz σ) (mxu τ - mxu σ) (mx_Z below G P (some (.int r)) σ σ' [.ref a0] s) (F0 m 153 ls []) := by
    intro v0 n
    induction n with
    | zero =>
      intro v1 τ o hf
      rw [mx_lp0] at hf
      cases hf
    | succ n ih =>
      intro v1 τ o hf Ke0 H locs hJ ls hl
      rw [mx_lpS] at hf
      obtain ⟨b, eb, hf⟩ := mb0 hf
      refine B153 v0 v1 τ b eb (fun y1 υ ho H locs hJ ls hl => ?_) (fun  υ ho H locs hJ ls hl => ?_) H locs hJ ls hl
      · subst ho
        exact ih y1 υ o hf Ke0 H locs hJ ls hl
      · subst ho
        exact Ke0  υ (Option.some.inj hf).symm _ _ hJ ls hl
  have B388 : ∀ (v0 : Nat) (v1 : Int32) (τ : mx_S) (o : (Int32 × mx_S) ⊕ ((mx_S))), f_X12_linkage_B388 P v0 v1 τ = some o → (∀ (y1 : Int32) (υ : mx_S), o = .inl (y1, υ) → ∀ (H : Heap) (locs : List Loc), mx_J G P s.heap (mxz σ) (mxu σ) υ H locs → ∀ ls : Array Slot, lv_has ls 3 [(0, .ref v0), (1, .int y1)] → W p l e (mx_rm P 7 162 σ) s m ([.ref a0] : List Value).toArray below meth c H locs (mxz υ - mxz σ) (mxu υ - mxu σ) (mx_Z below G P (some (.int r)) σ σ' [.ref a0] s) (F0 m 388 ls [])) → (∀  (υ : mx_S), o = .inr υ → ∀ (H : Heap) (locs : List Loc), mx_J G P s.heap (mxz σ) (mxu σ) υ H locs → ∀ ls : Array Slot, lv_has ls 3 [(0, .ref v0)] → W p l e (mx_rm P 7 162 σ) s m ([.ref a0] : List Value).toArray below meth c H locs (mxz υ - mxz σ) (mxu υ - mxu σ) (mx_Z below G P (some (.int r)) σ σ' [.ref a0] s) (F0 m 416 ls [])) → ∀ (H : Heap) (locs : List Loc), mx_J G P s.heap (mxz σ) (mxu σ) τ H locs → ∀ ls : Array Slot, lv_has ls 3 [(0, .ref v0), (1, .int v1)] → W p l e (mx_rm P 7 162 σ) s m ([.ref a0] : List Value).toArray below meth c H locs (mxz τ - mxz σ) (mxu τ - mxu σ) (mx_Z below G P (some (.int r)) σ σ' [.ref a0] s) (F0 m 388 ls []) := by
    intro v0 v1 τ o hf Kb Ke0 H locs hJ ls hl
    unfold f_X12_linkage_B388 at hf
    refine lv_iload_n hx hb dX12_linkage_388 rfl (lv_at hl 1 rfl) ?_
    refine lv_iconst (v := 4) hx hb dX12_linkage_389 (by decide) ?_
    refine lv_aload_n hx hb dX12_linkage_390 rfl (lv_at hl 0 rfl) ?_
    obtain ⟨x175, e176, hf⟩ := mb0 hf
    refine my_gI hx hb hts hown hK hJ fd_RX12_460 hv_12_19 e176 dX12_linkage_391 ?_
    refine lv_imul hx hb dX12_linkage_394 ?_
    refine lv_icmp_ge (tgt := 416) hx hb dX12_linkage_395 (by decide) (fun c177 => ?_) (fun c177 => ?_)
    · rw [if_pos c177] at hf
      exact Ke0 τ (Option.some.inj hf).symm _ _ hJ ls (lv_sub hl [0] rfl)
    · rw [if_neg c177] at hf
      refine lv_aload_n hx hb dX12_linkage_398 rfl (lv_at hl 0 rfl) ?_
      obtain ⟨b178, e179, hf⟩ := mb0 hf
      refine my_gR hx hb hts hown hK hJ fd_RX12_27 hv_12_22 e179 dX12_linkage_399 ?_
      refine lv_iload_n hx hb dX12_linkage_402 rfl (lv_at hl 1 rfl) ?_
      refine lv_aload_n hx hb dX12_linkage_403 rfl (lv_at hl 0 rfl) ?_
      obtain ⟨b180, e181, hf⟩ := mb0 hf
      refine my_gR hx hb hts hown hK hJ fd_RX12_99 hv_12_47 e181 dX12_linkage_404 ?_
      refine lv_iload_n hx hb dX12_linkage_407 rfl (lv_at hl 1 rfl) ?_
      obtain ⟨x182, e183, hf⟩ := mb0 hf
      refine mx_aI hx hb hK hJ e183 dX12_linkage_408 ?_
      obtain ⟨σ184, e185, hf⟩ := mb0 hf
      refine mx_sI hx hb hK hJ e185 dX12_linkage_409 (fun H locs hJ => ?_)
      obtain ⟨x186, e187, hf⟩ := mb0 hf
      refine lv_iinc (v := x186) (lv' := [(1, .int x186), (0, .ref v0)]) hx hb dX12_linkage_410 hl (k := 1) rfl (by rw [← Option.some.inj e187]; rfl) (by decide) rfl (fun ls hl => ?_)
      refine lv_goto (tgt := 388) hx hb dX12_linkage_413 (by decide) ?_
      exact Kb x186 σ184 (Option.some.inj hf).symm _ _ hJ ls (lv_sub hl [1, 0] rfl)
  have L388 : ∀ (v0 : Nat) (n : Nat) (v1 : Int32) (τ : mx_S) (o : (mx_S)), mx_lp (f_X12_linkage_L388 P v0) n (v1, τ) = some o → (∀  (υ : mx_S), o = υ → ∀ (H : Heap) (locs : List Loc), mx_J G P s.heap (mxz σ) (mxu σ) υ H locs → ∀ ls : Array Slot, lv_has ls 3 [(0, .ref v0)] → W p l e (mx_rm P 7 162 σ) s m ([.ref a0] : List Value).toArray below meth c H locs (mxz υ - mxz σ) (mxu υ - mxu σ) (mx_Z below G P (some (.int r)) σ σ' [.ref a0] s) (F0 m 416 ls [])) → ∀ (H : Heap) (locs : List Loc), mx_J G P s.heap (mxz σ) (mxu σ) τ H locs → ∀ ls : Array Slot, lv_has ls 3 [(0, .ref v0), (1, .int v1)] → W p l e (mx_rm P 7 162 σ) s m ([.ref a0] : List Value).toArray below meth c H locs (mxz τ - mxz σ) (mxu τ - mxu σ) (mx_Z below G P (some (.int r)) σ σ' [.ref a0] s) (F0 m 388 ls []) := by
    intro v0 n
    induction n with
    | zero =>
      intro v1 τ o hf
      rw [mx_lp0] at hf
      cases hf
    | succ n ih =>
      intro v1 τ o hf Ke0 H locs hJ ls hl
      rw [mx_lpS] at hf
      obtain ⟨b, eb, hf⟩ := mb0 hf
      refine B388 v0 v1 τ b eb (fun y1 υ ho H locs hJ ls hl => ?_) (fun  υ ho H locs hJ ls hl => ?_) H locs hJ ls hl
      · subst ho
        exact ih y1 υ o hf Ke0 H locs hJ ls hl
      · subst ho
        exact Ke0  υ (Option.some.inj hf).symm _ _ hJ ls hl
  have B418 : ∀ (v0 : Nat) (v1 : Int32) (τ : mx_S) (o : (Int32 × mx_S) ⊕ ((mx_S))), f_X12_linkage_B418 P v0 v1 τ = some o → (∀ (y1 : Int32) (υ : mx_S), o = .inl (y1, υ) → ∀ (H : Heap) (locs : List Loc), mx_J G P s.heap (mxz σ) (mxu σ) υ H locs → ∀ ls : Array Slot, lv_has ls 3 [(0, .ref v0), (1, .int y1)] → W p l e (mx_rm P 7 162 σ) s m ([.ref a0] : List Value).toArray below meth c H locs (mxz υ - mxz σ) (mxu υ - mxu σ) (mx_Z below G P (some (.int r)) σ σ' [.ref a0] s) (F0 m 418 ls [])) → (∀  (υ : mx_S), o = .inr υ → ∀ (H : Heap) (locs : List Loc), mx_J G P s.heap (mxz σ) (mxu σ) υ H locs → ∀ ls : Array Slot, lv_has ls 3 [(0, .ref v0)] → W p l e (mx_rm P 7 162 σ) s m ([.ref a0] : List Value).toArray below meth c H locs (mxz υ - mxz σ) (mxu υ - mxu σ) (mx_Z below G P (some (.int r)) σ σ' [.ref a0] s) (F0 m 436 ls [])) → ∀ (H : Heap) (locs : List Loc), mx_J G P s.heap (mxz σ) (mxu σ) τ H locs → ∀ ls : Array Slot, lv_has ls 3 [(0, .ref v0), (1, .int v1)] → W p l e (mx_rm P 7 162 σ) s m ([.ref a0] : List Value).toArray below meth c H locs (mxz τ - mxz σ) (mxu τ - mxu σ) (mx_Z below G P (some (.int r)) σ σ' [.ref a0] s) (F0 m 418 ls []) := by
    intro v0 v1 τ o hf Kb Ke0 H locs hJ ls hl
    unfold f_X12_linkage_B418 at hf
    refine lv_iload_n hx hb dX12_linkage_418 rfl (lv_at hl 1 rfl) ?_
    refine lv_iconst (v := 4) hx hb dX12_linkage_419 (by decide) ?_
    refine lv_icmp_ge (tgt := 436) hx hb dX12_linkage_420 (by decide) (fun c191 => ?_) (fun c191 => ?_)
    · rw [if_pos c191] at hf
      exact Ke0 τ (Option.some.inj hf).symm _ _ hJ ls (lv_sub hl [0] rfl)
    · rw [if_neg c191] at hf
      refine lv_aload_n hx hb dX12_linkage_423 rfl (lv_at hl 0 rfl) ?_
      obtain ⟨b192, e193, hf⟩ := mb0 hf
      refine my_gR hx hb hts hown hK hJ fd_RX12_63 hv_12_34 e193 dX12_linkage_424 ?_
      refine lv_iload_n hx hb dX12_linkage_427 rfl (lv_at hl 1 rfl) ?_
      refine lv_iconst (v := 0) hx hb dX12_linkage_428 (by decide) ?_
      obtain ⟨σ194, e195, hf⟩ := mb0 hf
      refine mx_sI hx hb hK hJ e195 dX12_linkage_429 (fun H locs hJ => ?_)
      obtain ⟨x196, e197, hf⟩ := mb0 hf
      refine lv_iinc (v := x196) (lv' := [(1, .int x196), (0, .ref v0)]) hx hb dX12_linkage_430 hl (k := 1) rfl (by rw [← Option.some.inj e197]; rfl) (by decide) rfl (fun ls hl => ?_)
      refine lv_goto (tgt := 418) hx hb dX12_linkage_433 (by decide) ?_
      exact Kb x196 σ194 (Option.some.inj hf).symm _ _ hJ ls (lv_sub hl [1, 0] rfl)
  have L418 : ∀ (v0 : Nat) (n : Nat) (v1 : Int32) (τ : mx_S) (o : (mx_S)), mx_lp (f_X12_linkage_L418 P v0) n (v1, τ) = some o → (∀  (υ : mx_S), o = υ → ∀ (H : Heap) (locs : List Loc), mx_J G P s.heap (mxz σ) (mxu σ) υ H locs → ∀ ls : Array Slot, lv_has ls 3 [(0, .ref v0)] → W p l e (mx_rm P 7 162 σ) s m ([.ref a0] : List Value).toArray below meth c H locs (mxz υ - mxz σ) (mxu υ - mxu σ) (mx_Z below G P (some (.int r)) σ σ' [.ref a0] s) (F0 m 436 ls [])) → ∀ (H : Heap) (locs : List Loc), mx_J G P s.heap (mxz σ) (mxu σ) τ H locs → ∀ ls : Array Slot, lv_has ls 3 [(0, .ref v0), (1, .int v1)] → W p l e (mx_rm P 7 162 σ) s m ([.ref a0] : List Value).toArray below meth c H locs (mxz τ - mxz σ) (mxu τ - mxu σ) (mx_Z below G P (some (.int r)) σ σ' [.ref a0] s) (F0 m 418 ls []) := by
    intro v0 n
    induction n with
    | zero =>
      intro v1 τ o hf
      rw [mx_lp0] at hf
      cases hf
    | succ n ih =>
      intro v1 τ o hf Ke0 H locs hJ ls hl
      rw [mx_lpS] at hf
      obtain ⟨b, eb, hf⟩ := mb0 hf
      refine B418 v0 v1 τ b eb (fun y1 υ ho H locs hJ ls hl => ?_) (fun  υ ho H locs hJ ls hl => ?_) H locs hJ ls hl
      · subst ho
        exact ih y1 υ o hf Ke0 H locs hJ ls hl
      · subst ho
        exact Ke0  υ (Option.some.inj hf).symm _ _ hJ ls hl
  have D122 : ∀ (v0 : Nat) (τ : mx_S), f_X12_linkage_D122 P v0 τ = some (r, σ') → ∀ (H : Heap) (locs : List Loc), mx_J G P s.heap (mxz σ) (mxu σ) τ H locs → ∀ ls : Array Slot, lv_has ls 3 [(0, .ref v0)] → W p l e (mx_rm P 7 162 σ) s m ([.ref a0] : List Value).toArray below meth c H locs (mxz τ - mxz σ) (mxu τ - mxu σ) (mx_Z below G P (some (.int r)) σ σ' [.ref a0] s) (F0 m 122 ls []) := by
    intro v0 τ hf _ _ hJ ls hl
    unfold f_X12_linkage_D122 at hf
    refine lv_aload_n hx hb dX12_linkage_122 rfl (lv_at hl 0 rfl) ?_
    obtain ⟨i30, e31, hf⟩ := mb0 hf
    obtain ⟨σ32, e33, hf⟩ := mb0 hf
    refine mx_callV (As := []) (rest := []) hx hb hml hts hown hK hJ rfl rfl (ci := 12) rfl e31 (c_X12_tossFault l G P v0 τ σ32 e33) me_X12_tossFault kw_2344 ks_102 kw_2342 (Nat.le_of_ble_eq_true rfl) (Nat.le_of_ble_eq_true rfl) rfl hl.1 rfl (Nat.le_of_ble_eq_true rfl) dX12_linkage_123 (fun H locs hJ => ?_)
    refine lv_aload_n hx hb dX12_linkage_126 rfl (lv_at hl 0 rfl) ?_
    obtain ⟨x34, e35, hf⟩ := mb0 hf
    refine my_gI hx hb hts hown hK hJ fd_RX12_243 hv_12_0 e35 dX12_linkage_127 ?_
    refine lv_if_le (tgt := 135) hx hb dX12_linkage_130 (by decide) (fun c36 => ?_) (fun c36 => ?_)
    · rw [if_pos c36] at hf
      refine lv_aload_n hx hb dX12_linkage_135 rfl (lv_at hl 0 rfl) ?_
      refine lv_aload_n hx hb dX12_linkage_136 rfl (lv_at hl 0 rfl) ?_
      obtain ⟨x37, e38, hf⟩ := mb0 hf
      refine my_gI hx hb hts hown hK hJ fd_RX12_403 hv_12_38 e38 dX12_linkage_137 ?_
      obtain ⟨σ39, e40, hf⟩ := mb0 hf
      refine my_pI hx hb hts hown hK hJ fd_RX12_460 cd_12 (Or.inl rfl) ht_12_19 e40 dX12_linkage_140 (fun H locs hJ => ?_)
      refine lv_aload_n hx hb dX12_linkage_143 rfl (lv_at hl 0 rfl) ?_
      refine lv_aload_n hx hb dX12_linkage_144 rfl (lv_at hl 0 rfl) ?_
      obtain ⟨x41, e42, hf⟩ := mb0 hf
      refine my_gI hx hb hts hown hK hJ fd_RX12_411 hv_12_53 e42 dX12_linkage_145 ?_
      obtain ⟨σ43, e44, hf⟩ := mb0 hf
      refine my_pI hx hb hts hown hK hJ fd_RX12_463 cd_12 (Or.inl rfl) ht_12_20 e44 dX12_linkage_148 (fun H locs hJ => ?_)
      refine lv_iconst (v := 0) hx hb dX12_linkage_151 (by decide) ?_
      refine lv_istore_n (lv' := [(1, .int (0 : Int32)), (0, .ref v0)]) hx hb dX12_linkage_152 rfl hl (by decide) rfl (fun ls hl => ?_)
      obtain ⟨o172, e173, hf⟩ := mb0 hf
      refine L153 v0 (mpN P) (0 : Int32) σ43 o172 e173 (fun σ174 ho H locs hJ ls hl => ?_) _ _ hJ ls (lv_sub hl [1, 0] rfl)
      · rw [ho] at hf
        have hf : ((mx_lp (f_X12_linkage_L388 P v0) (mpN P) ((0 : Int32), σ174)).bind (fun t => (fun σ190 => (mx_lp (f_X12_linkage_L418 P v0) (mpN P) ((0 : Int32), σ190)).bind (fun t => (fun σ200 => (mg_I σ200 v0 12 19).bind fun x201 => some (x201, σ200)) t)) t)) = some (r, σ') := hf
        refine lv_iconst (v := 0) hx hb dX12_linkage_386 (by decide) ?_
        refine lv_istore_n (lv' := [(1, .int (0 : Int32)), (0, .ref v0)]) hx hb dX12_linkage_387 rfl hl (by decide) rfl (fun ls hl => ?_)
        obtain ⟨o188, e189, hf⟩ := mb0 hf
        refine L388 v0 (mpN P) (0 : Int32) σ174 o188 e189 (fun σ190 ho H locs hJ ls hl => ?_) _ _ hJ ls (lv_sub hl [1, 0] rfl)
        · rw [ho] at hf
          have hf : ((mx_lp (f_X12_linkage_L418 P v0) (mpN P) ((0 : Int32), σ190)).bind (fun t => (fun σ200 => (mg_I σ200 v0 12 19).bind fun x201 => some (x201, σ200)) t)) = some (r, σ') := hf
          refine lv_iconst (v := 0) hx hb dX12_linkage_416 (by decide) ?_
          refine lv_istore_n (lv' := [(1, .int (0 : Int32)), (0, .ref v0)]) hx hb dX12_linkage_417 rfl hl (by decide) rfl (fun ls hl => ?_)
          obtain ⟨o198, e199, hf⟩ := mb0 hf
          refine L418 v0 (mpN P) (0 : Int32) σ190 o198 e199 (fun σ200 ho H locs hJ ls hl => ?_) _ _ hJ ls (lv_sub hl [1, 0] rfl)
          · rw [ho] at hf
            have hf : ((mg_I σ200 v0 12 19).bind fun x201 => some (x201, σ200)) = some (r, σ') := hf
            refine lv_aload_n hx hb dX12_linkage_436 rfl (lv_at hl 0 rfl) ?_
            obtain ⟨x201, e202, hf⟩ := mb0 hf
            refine my_gI hx hb hts hown hK hJ fd_RX12_460 hv_12_19 e202 dX12_linkage_437 ?_
            exact my_iret hx hb hr hlocks hJ hf dX12_linkage_440
    · rw [if_neg c36] at hf
      refine lv_iconst (v := 0) hx hb dX12_linkage_133 (by decide) ?_
      exact my_iret hx hb hr hlocks hJ hf dX12_linkage_134
  have D111_67 : ∀ (v0 : Nat) (v1 : Int32) (w0 : Int32) (w1 : Int32) (w2 : Nat) (τ : mx_S) (o : (Int32 × mx_S) ⊕ ((mx_S))), f_X12_linkage_D111_67 P v0 v1 w0 w1 w2 τ = some o → (∀ (y1 : Int32) (υ : mx_S), o = .inl (y1, υ) → ∀ (H : Heap) (locs : List Loc), mx_J G P s.heap (mxz σ) (mxu σ) υ H locs → ∀ ls : Array Slot, lv_has ls 3 [(0, .ref v0), (1, .int y1)] → W p l e (mx_rm P 7 162 σ) s m ([.ref a0] : List Value).toArray below meth c H locs (mxz υ - mxz σ) (mxu υ - mxu σ) (mx_Z below G P (some (.int r)) σ σ' [.ref a0] s) (F0 m 67 ls [])) → (∀  (υ : mx_S), o = .inr υ → ∀ (H : Heap) (locs : List Loc), mx_J G P s.heap (mxz σ) (mxu σ) υ H locs → ∀ ls : Array Slot, lv_has ls 3 [(0, .ref v0)] → W p l e (mx_rm P 7 162 σ) s m ([.ref a0] : List Value).toArray below meth c H locs (mxz υ - mxz σ) (mxu υ - mxu σ) (mx_Z below G P (some (.int r)) σ σ' [.ref a0] s) (F0 m 118 ls [])) → ∀ (H : Heap) (locs : List Loc), mx_J G P s.heap (mxz σ) (mxu σ) τ H locs → ∀ ls : Array Slot, lv_has ls 3 [(0, .ref v0), (1, .int v1)] → W p l e (mx_rm P 7 162 σ) s m ([.ref a0] : List Value).toArray below meth c H locs (mxz τ - mxz σ) (mxu τ - mxu σ) (mx_Z below G P (some (.int r)) σ σ' [.ref a0] s) (F0 m 111 ls [.int w0, .int w1, .ref w2]) := by
    intro v0 v1 w0 w1 w2 τ o hf Kb Ke0 H locs hJ ls hl
    unfold f_X12_linkage_D111_67 at hf
    obtain ⟨σ229, e230, hf⟩ := mb0 hf
    refine mx_sI hx hb hK hJ e230 dX12_linkage_111 (fun H locs hJ => ?_)
    obtain ⟨x231, e232, hf⟩ := mb0 hf
    refine lv_iinc (v := x231) (lv' := [(1, .int x231), (0, .ref v0)]) hx hb dX12_linkage_112 hl (k := 1) rfl (by rw [← Option.some.inj e232]; rfl) (by decide) rfl (fun ls hl => ?_)
    refine lv_goto (tgt := 67) hx hb dX12_linkage_115 (by decide) ?_
    exact Kb x231 σ229 (Option.some.inj hf).symm _ _ hJ ls (lv_sub hl [1, 0] rfl)
  have B67 : ∀ (v0 : Nat) (v1 : Int32) (τ : mx_S) (o : (Int32 × mx_S) ⊕ ((mx_S))), f_X12_linkage_B67 P v0 v1 τ = some o → (∀ (y1 : Int32) (υ : mx_S), o = .inl (y1, υ) → ∀ (H : Heap) (locs : List Loc), mx_J G P s.heap (mxz σ) (mxu σ) υ H locs → ∀ ls : Array Slot, lv_has ls 3 [(0, .ref v0), (1, .int y1)] → W p l e (mx_rm P 7 162 σ) s m ([.ref a0] : List Value).toArray below meth c H locs (mxz υ - mxz σ) (mxu υ - mxu σ) (mx_Z below G P (some (.int r)) σ σ' [.ref a0] s) (F0 m 67 ls [])) → (∀  (υ : mx_S), o = .inr υ → ∀ (H : Heap) (locs : List Loc), mx_J G P s.heap (mxz σ) (mxu σ) υ H locs → ∀ ls : Array Slot, lv_has ls 3 [(0, .ref v0)] → W p l e (mx_rm P 7 162 σ) s m ([.ref a0] : List Value).toArray below meth c H locs (mxz υ - mxz σ) (mxu υ - mxu σ) (mx_Z below G P (some (.int r)) σ σ' [.ref a0] s) (F0 m 118 ls [])) → ∀ (H : Heap) (locs : List Loc), mx_J G P s.heap (mxz σ) (mxu σ) τ H locs → ∀ ls : Array Slot, lv_has ls 3 [(0, .ref v0), (1, .int v1)] → W p l e (mx_rm P 7 162 σ) s m ([.ref a0] : List Value).toArray below meth c H locs (mxz τ - mxz σ) (mxu τ - mxu σ) (mx_Z below G P (some (.int r)) σ σ' [.ref a0] s) (F0 m 67 ls []) := by
    intro v0 v1 τ o hf Kb Ke0 H locs hJ ls hl
    unfold f_X12_linkage_B67 at hf
    refine lv_iload_n hx hb dX12_linkage_67 rfl (lv_at hl 1 rfl) ?_
    refine lv_iconst (v := 4) hx hb dX12_linkage_68 (by decide) ?_
    refine lv_aload_n hx hb dX12_linkage_69 rfl (lv_at hl 0 rfl) ?_
    obtain ⟨x206, e207, hf⟩ := mb0 hf
    refine my_gI hx hb hts hown hK hJ fd_RX12_403 hv_12_38 e207 dX12_linkage_70 ?_
    refine lv_imul hx hb dX12_linkage_73 ?_
    refine lv_icmp_ge (tgt := 118) hx hb dX12_linkage_74 (by decide) (fun c208 => ?_) (fun c208 => ?_)
    · rw [if_pos c208] at hf
      exact Ke0 τ (Option.some.inj hf).symm _ _ hJ ls (lv_sub hl [0] rfl)
    · rw [if_neg c208] at hf
      refine lv_aload_n hx hb dX12_linkage_77 rfl (lv_at hl 0 rfl) ?_
      obtain ⟨b209, e210, hf⟩ := mb0 hf
      refine my_gR hx hb hts hown hK hJ fd_RX12_99 hv_12_47 e210 dX12_linkage_78 ?_
      refine lv_iload_n hx hb dX12_linkage_81 rfl (lv_at hl 1 rfl) ?_
      refine lv_aload_n hx hb dX12_linkage_82 rfl (lv_at hl 0 rfl) ?_
      obtain ⟨b211, e212, hf⟩ := mb0 hf
      refine my_gR hx hb hts hown hK hJ fd_RX12_87 hv_12_43 e212 dX12_linkage_83 ?_
      refine lv_iload_n hx hb dX12_linkage_86 rfl (lv_at hl 1 rfl) ?_
      obtain ⟨x213, e214, hf⟩ := mb0 hf
      refine mx_aI hx hb hK hJ e214 dX12_linkage_87 ?_
      refine lv_if_ne (tgt := 95) hx hb dX12_linkage_88 (by decide) (fun c215 => ?_) (fun c215 => ?_)
      · rw [if_neg c215] at hf
        refine lv_aload_n hx hb dX12_linkage_95 rfl (lv_at hl 0 rfl) ?_
        refine lv_aload_n hx hb dX12_linkage_96 rfl (lv_at hl 0 rfl) ?_
        obtain ⟨b216, e217, hf⟩ := mb0 hf
        refine my_gR hx hb hts hown hK hJ fd_RX12_84 hv_12_42 e217 dX12_linkage_97 ?_
        refine lv_iload_n hx hb dX12_linkage_100 rfl (lv_at hl 1 rfl) ?_
        obtain ⟨x218, e219, hf⟩ := mb0 hf
        refine mx_aI hx hb hK hJ e219 dX12_linkage_101 ?_
        refine lv_aload_n hx hb dX12_linkage_102 rfl (lv_at hl 0 rfl) ?_
        obtain ⟨b220, e221, hf⟩ := mb0 hf
        refine my_gR hx hb hts hown hK hJ fd_RX12_87 hv_12_43 e221 dX12_linkage_103 ?_
        refine lv_iload_n hx hb dX12_linkage_106 rfl (lv_at hl 1 rfl) ?_
        obtain ⟨x222, e223, hf⟩ := mb0 hf
        refine mx_aI hx hb hK hJ e223 dX12_linkage_107 ?_
        obtain ⟨i224, e225, hf⟩ := mb0 hf
        obtain ⟨x227, σ226, e228, hf⟩ := mc0 hf
        refine mx_callV (As := [.int x218, .int x222]) (rest := [.int v1, .ref b209]) hx hb hml hts hown hK hJ rfl rfl (ci := 12) rfl e225 (c_X12_toldAs l G P v0 x218 x222 τ x227 σ226 e228) me_X12_toldAs kw_2336 ks_100 kw_2334 (Nat.le_of_ble_eq_true rfl) (Nat.le_of_ble_eq_true rfl) rfl hl.1 rfl (Nat.le_of_ble_eq_true rfl) dX12_linkage_108 (fun H locs hJ => ?_)
        exact D111_67 v0 v1 x227 v1 b209 σ226 o hf Kb Ke0 _ _ hJ ls (lv_sub hl [0, 1] rfl)
      · rw [if_pos c215] at hf
        refine lv_iconst (v := (-1)) hx hb dX12_linkage_91 (by decide) ?_
        refine lv_goto (tgt := 111) hx hb dX12_linkage_92 (by decide) ?_
        exact D111_67 v0 v1 (-1 : Int32) v1 b209 τ o hf Kb Ke0 _ _ hJ ls (lv_sub hl [0, 1] rfl)
  have L67 : ∀ (v0 : Nat) (n : Nat) (v1 : Int32) (τ : mx_S) (o : (mx_S)), mx_lp (f_X12_linkage_L67 P v0) n (v1, τ) = some o → (∀  (υ : mx_S), o = υ → ∀ (H : Heap) (locs : List Loc), mx_J G P s.heap (mxz σ) (mxu σ) υ H locs → ∀ ls : Array Slot, lv_has ls 3 [(0, .ref v0)] → W p l e (mx_rm P 7 162 σ) s m ([.ref a0] : List Value).toArray below meth c H locs (mxz υ - mxz σ) (mxu υ - mxu σ) (mx_Z below G P (some (.int r)) σ σ' [.ref a0] s) (F0 m 118 ls [])) → ∀ (H : Heap) (locs : List Loc), mx_J G P s.heap (mxz σ) (mxu σ) τ H locs → ∀ ls : Array Slot, lv_has ls 3 [(0, .ref v0), (1, .int v1)] → W p l e (mx_rm P 7 162 σ) s m ([.ref a0] : List Value).toArray below meth c H locs (mxz τ - mxz σ) (mxu τ - mxu σ) (mx_Z below G P (some (.int r)) σ σ' [.ref a0] s) (F0 m 67 ls []) := by
    intro v0 n
    induction n with
    | zero =>
      intro v1 τ o hf
      rw [mx_lp0] at hf
      cases hf
    | succ n ih =>
      intro v1 τ o hf Ke0 H locs hJ ls hl
      rw [mx_lpS] at hf
      obtain ⟨b, eb, hf⟩ := mb0 hf
      refine B67 v0 v1 τ b eb (fun y1 υ ho H locs hJ ls hl => ?_) (fun  υ ho H locs hJ ls hl => ?_) H locs hJ ls hl
      · subst ho
        exact ih y1 υ o hf Ke0 H locs hJ ls hl
      · subst ho
        exact Ke0  υ (Option.some.inj hf).symm _ _ hJ ls hl
  have D51 : ∀ (v0 : Nat) (τ : mx_S), f_X12_linkage_D51 P v0 τ = some (r, σ') → ∀ (H : Heap) (locs : List Loc), mx_J G P s.heap (mxz σ) (mxu σ) τ H locs → ∀ ls : Array Slot, lv_has ls 3 [(0, .ref v0)] → W p l e (mx_rm P 7 162 σ) s m ([.ref a0] : List Value).toArray below meth c H locs (mxz τ - mxz σ) (mxu τ - mxu σ) (mx_Z below G P (some (.int r)) σ σ' [.ref a0] s) (F0 m 51 ls []) := by
    intro v0 τ hf _ _ hJ ls hl
    unfold f_X12_linkage_D51 at hf
    refine lv_aload_n hx hb dX12_linkage_51 rfl (lv_at hl 0 rfl) ?_
    obtain ⟨x27, e28, hf⟩ := mb0 hf
    refine my_gI hx hb hts hown hK hJ fd_RX12_266 hv_12_4 e28 dX12_linkage_52 ?_
    refine lv_if_ne (tgt := 122) hx hb dX12_linkage_55 (by decide) (fun c29 => ?_) (fun c29 => ?_)
    · rw [if_neg c29] at hf
      exact D122 v0 τ hf _ _ hJ ls (lv_sub hl [0] rfl)
    · rw [if_pos c29] at hf
      refine lv_aload_n hx hb dX12_linkage_58 rfl (lv_at hl 0 rfl) ?_
      obtain ⟨x203, e204, hf⟩ := mb0 hf
      refine my_gI hx hb hts hown hK hJ fd_RX12_275 hv_12_6 e204 dX12_linkage_59 ?_
      refine lv_if_ne (tgt := 122) hx hb dX12_linkage_62 (by decide) (fun c205 => ?_) (fun c205 => ?_)
      · rw [if_neg c205] at hf
        exact D122 v0 τ hf _ _ hJ ls (lv_sub hl [0] rfl)
      · rw [if_pos c205] at hf
        refine lv_iconst (v := 0) hx hb dX12_linkage_65 (by decide) ?_
        refine lv_istore_n (lv' := [(1, .int (0 : Int32)), (0, .ref v0)]) hx hb dX12_linkage_66 rfl hl (by decide) rfl (fun ls hl => ?_)
        obtain ⟨o233, e234, hf⟩ := mb0 hf
        refine L67 v0 (mpN P) (0 : Int32) τ o233 e234 (fun σ235 ho H locs hJ ls hl => ?_) _ _ hJ ls (lv_sub hl [1, 0] rfl)
        · rw [ho] at hf
          have hf : ((mx_is σ235 v0 12).bind fun i236 => (f_X12_findOrder P v0 σ235).bind fun σ238 => f_X12_linkage_D122 P v0 σ238) = some (r, σ') := hf
          refine lv_aload_n hx hb dX12_linkage_118 rfl (lv_at hl 0 rfl) ?_
          obtain ⟨i236, e237, hf⟩ := mb0 hf
          obtain ⟨σ238, e239, hf⟩ := mb0 hf
          refine mx_callV (As := []) (rest := []) hx hb hml hts hown hK hJ rfl rfl (ci := 12) rfl e237 (c_X12_findOrder l G P v0 σ235 σ238 e239) me_X12_findOrder kw_2340 ks_101 kw_2338 (Nat.le_of_ble_eq_true rfl) (Nat.le_of_ble_eq_true rfl) rfl hl.1 rfl (Nat.le_of_ble_eq_true rfl) dX12_linkage_119 (fun H locs hJ => ?_)
          exact D122 v0 σ238 hf _ _ hJ ls (lv_sub hl [0] rfl)
  have D40 : ∀ (v0 : Nat) (τ : mx_S), f_X12_linkage_D40 P v0 τ = some (r, σ') → ∀ (H : Heap) (locs : List Loc), mx_J G P s.heap (mxz σ) (mxu σ) τ H locs → ∀ ls : Array Slot, lv_has ls 3 [(0, .ref v0)] → W p l e (mx_rm P 7 162 σ) s m ([.ref a0] : List Value).toArray below meth c H locs (mxz τ - mxz σ) (mxu τ - mxu σ) (mx_Z below G P (some (.int r)) σ σ' [.ref a0] s) (F0 m 40 ls []) := by
    intro v0 τ hf _ _ hJ ls hl
    unfold f_X12_linkage_D40 at hf
    refine lv_aload_n hx hb dX12_linkage_40 rfl (lv_at hl 0 rfl) ?_
    obtain ⟨x24, e25, hf⟩ := mb0 hf
    refine my_gI hx hb hts hown hK hJ fd_RX12_266 hv_12_4 e25 dX12_linkage_41 ?_
    refine lv_if_ne (tgt := 51) hx hb dX12_linkage_44 (by decide) (fun c26 => ?_) (fun c26 => ?_)
    · rw [if_neg c26] at hf
      exact D51 v0 τ hf _ _ hJ ls (lv_sub hl [0] rfl)
    · rw [if_pos c26] at hf
      refine lv_aload_n hx hb dX12_linkage_47 rfl (lv_at hl 0 rfl) ?_
      obtain ⟨i240, e241, hf⟩ := mb0 hf
      obtain ⟨σ242, e243, hf⟩ := mb0 hf
      refine mx_callV (As := []) (rest := []) hx hb hml hts hown hK hJ rfl rfl (ci := 12) rfl e241 (c_X12_findNames l G P v0 τ σ242 e243) me_X12_findNames kw_2332 ks_99 kw_2330 (Nat.le_of_ble_eq_true rfl) (Nat.le_of_ble_eq_true rfl) rfl hl.1 rfl (Nat.le_of_ble_eq_true rfl) dX12_linkage_48 (fun H locs hJ => ?_)
      exact D51 v0 σ242 hf _ _ hJ ls (lv_sub hl [0] rfl)
  unfold f_X12_linkage at hf
  refine lv_aload_n hx hb dX12_linkage_0 rfl (lv_at hl 0 rfl) ?_
  obtain ⟨i1, e2, hf⟩ := mb0 hf
  obtain ⟨σ3, e4, hf⟩ := mb0 hf
  refine mx_callV (As := []) (rest := []) hx hb hml hts hown hK hJ rfl rfl (ci := 12) rfl e2 (c_X12_starts l G P a0 σ σ3 e4) me_X12_starts kw_2235 ks_80 kw_2233 (Nat.le_of_ble_eq_true rfl) (Nat.le_of_ble_eq_true rfl) rfl hl.1 rfl (Nat.le_of_ble_eq_true rfl) dX12_linkage_1 (fun H locs hJ => ?_)
  refine lv_aload_n hx hb dX12_linkage_4 rfl (lv_at hl 0 rfl) ?_
  refine lv_iconst (v := 0) hx hb dX12_linkage_5 (by decide) ?_
  obtain ⟨σ5, e6, hf⟩ := mb0 hf
  refine my_pI hx hb hts hown hK hJ fd_RX12_403 cd_12 (Or.inl rfl) ht_12_38 e6 dX12_linkage_6 (fun H locs hJ => ?_)
  refine lv_aload_n hx hb dX12_linkage_9 rfl (lv_at hl 0 rfl) ?_
  refine lv_iconst (v := 0) hx hb dX12_linkage_10 (by decide) ?_
  obtain ⟨σ7, e8, hf⟩ := mb0 hf
  refine my_pI hx hb hts hown hK hJ fd_RX12_400 cd_12 (Or.inl rfl) ht_12_50 e8 dX12_linkage_11 (fun H locs hJ => ?_)
  refine lv_aload_n hx hb dX12_linkage_14 rfl (lv_at hl 0 rfl) ?_
  refine lv_iconst (v := 0) hx hb dX12_linkage_15 (by decide) ?_
  obtain ⟨σ9, e10, hf⟩ := mb0 hf
  refine my_pI hx hb hts hown hK hJ fd_RX12_411 cd_12 (Or.inl rfl) ht_12_53 e10 dX12_linkage_16 (fun H locs hJ => ?_)
  obtain ⟨o21, e22, hf⟩ := mb0 hf
  refine L19 a0 (mpN P)  σ9 o21 e22 (fun σ23 ho H locs hJ ls hl => ?_) _ _ hJ ls (lv_sub hl [0] rfl)
  · rw [ho] at hf
    have hf : (f_X12_linkage_D40 P a0 σ23) = some (r, σ') := hf
    exact D40 a0 σ23 hf _ _ hJ ls (lv_sub hl [0] rfl)
set_option maxHeartbeats 4000000 in
set_option maxRecDepth 100000 in
theorem c_X12_point (l : Launch) (G : mx_G) (P : mx_P) (a0 : Nat) (σ : mx_S) (r : Int32) (σ' : mx_S) (hf : f_X12_point P a0 σ = some (r, σ')) : mxz σ ≤ mpc P → mxu σ ≤ mps P → mx_M l yX12_point cX12_point 4 (some .int) 0 0 G P [.ref a0] σ (some (.int r)) σ' := by
  intro hcap hcau
  refine mx_ofW (by decide +kernel) hcap hcau (Nat.le_of_ble_eq_true rfl) ?_
  intro p e s m below meth c hx hb hr hml hts hown hlocks hname hK hJ ls hl
  have hz0 := hJ.2.1
  have hown : s.vm.findClass RX12 = some m.cls := hown
  have hl : lv_has ls 4 [(0, .ref a0)] := hl
  have D73_36 : ∀ (v0 : Nat) (v1 : Int32) (v3 : Int32) (w0 : Int32) (τ : mx_S) (o : (Int32 × Int32 × mx_S) ⊕ ((Int32 × mx_S))), f_X12_point_D73_36 P v0 v1 v3 w0 τ = some o → (∀ (y2 : Int32) (y3 : Int32) (υ : mx_S), o = .inl (y2, y3, υ) → ∀ (H : Heap) (locs : List Loc), mx_J G P s.heap (mxz σ) (mxu σ) υ H locs → ∀ ls : Array Slot, lv_has ls 4 [(0, .ref v0), (1, .int v1), (2, .int y2), (3, .int y3)] → W p l e (mx_rm P 0 0 σ) s m ([.ref a0] : List Value).toArray below meth c H locs (mxz υ - mxz σ) (mxu υ - mxu σ) (mx_Z below G P (some (.int r)) σ σ' [.ref a0] s) (F0 m 36 ls [])) → (∀ (y2 : Int32) (υ : mx_S), o = .inr (y2, υ) → ∀ (H : Heap) (locs : List Loc), mx_J G P s.heap (mxz σ) (mxu σ) υ H locs → ∀ ls : Array Slot, lv_has ls 4 [(0, .ref v0), (1, .int v1), (2, .int y2)] → W p l e (mx_rm P 0 0 σ) s m ([.ref a0] : List Value).toArray below meth c H locs (mxz υ - mxz σ) (mxu υ - mxu σ) (mx_Z below G P (some (.int r)) σ σ' [.ref a0] s) (F0 m 80 ls [])) → ∀ (H : Heap) (locs : List Loc), mx_J G P s.heap (mxz σ) (mxu σ) τ H locs → ∀ ls : Array Slot, lv_has ls 4 [(0, .ref v0), (1, .int v1), (3, .int v3)] → W p l e (mx_rm P 0 0 σ) s m ([.ref a0] : List Value).toArray below meth c H locs (mxz τ - mxz σ) (mxu τ - mxu σ) (mx_Z below G P (some (.int r)) σ σ' [.ref a0] s) (F0 m 73 ls [.int w0]) := by
    intro v0 v1 v3 w0 τ o hf Kb Ke0 H locs hJ ls hl
    unfold f_X12_point_D73_36 at hf
    refine lv_istore_n (lv' := [(2, .int w0), (0, .ref v0), (1, .int v1), (3, .int v3)]) hx hb dX12_point_73 rfl hl (by decide) rfl (fun ls hl => ?_)
    obtain ⟨x26, e27, hf⟩ := mb0 hf
    refine lv_iinc (v := x26) (lv' := [(3, .int x26), (2, .int w0), (0, .ref v0), (1, .int v1)]) hx hb dX12_point_74 hl (k := 3) rfl (by rw [← Option.some.inj e27]; rfl) (by decide) rfl (fun ls hl => ?_)
    refine lv_goto (tgt := 36) hx hb dX12_point_77 (by decide) ?_
    exact Kb w0 x26 τ (Option.some.inj hf).symm _ _ hJ ls (lv_sub hl [2, 3, 1, 0] rfl)
  have B36 : ∀ (v0 : Nat) (v1 : Int32) (v2 : Int32) (v3 : Int32) (τ : mx_S) (o : (Int32 × Int32 × mx_S) ⊕ ((Int32 × mx_S))), f_X12_point_B36 P v0 v1 v2 v3 τ = some o → (∀ (y2 : Int32) (y3 : Int32) (υ : mx_S), o = .inl (y2, y3, υ) → ∀ (H : Heap) (locs : List Loc), mx_J G P s.heap (mxz σ) (mxu σ) υ H locs → ∀ ls : Array Slot, lv_has ls 4 [(0, .ref v0), (1, .int v1), (2, .int y2), (3, .int y3)] → W p l e (mx_rm P 0 0 σ) s m ([.ref a0] : List Value).toArray below meth c H locs (mxz υ - mxz σ) (mxu υ - mxu σ) (mx_Z below G P (some (.int r)) σ σ' [.ref a0] s) (F0 m 36 ls [])) → (∀ (y2 : Int32) (υ : mx_S), o = .inr (y2, υ) → ∀ (H : Heap) (locs : List Loc), mx_J G P s.heap (mxz σ) (mxu σ) υ H locs → ∀ ls : Array Slot, lv_has ls 4 [(0, .ref v0), (1, .int v1), (2, .int y2)] → W p l e (mx_rm P 0 0 σ) s m ([.ref a0] : List Value).toArray below meth c H locs (mxz υ - mxz σ) (mxu υ - mxu σ) (mx_Z below G P (some (.int r)) σ σ' [.ref a0] s) (F0 m 80 ls [])) → ∀ (H : Heap) (locs : List Loc), mx_J G P s.heap (mxz σ) (mxu σ) τ H locs → ∀ ls : Array Slot, lv_has ls 4 [(0, .ref v0), (1, .int v1), (2, .int v2), (3, .int v3)] → W p l e (mx_rm P 0 0 σ) s m ([.ref a0] : List Value).toArray below meth c H locs (mxz τ - mxz σ) (mxu τ - mxu σ) (mx_Z below G P (some (.int r)) σ σ' [.ref a0] s) (F0 m 36 ls []) := by
    intro v0 v1 v2 v3 τ o hf Kb Ke0 H locs hJ ls hl
    unfold f_X12_point_B36 at hf
    refine lv_iload_n hx hb dX12_point_36 rfl (lv_at hl 3 rfl) ?_
    refine lv_aload_n hx hb dX12_point_37 rfl (lv_at hl 0 rfl) ?_
    obtain ⟨x13, e14, hf⟩ := mb0 hf
    refine my_gI hx hb hts hown hK hJ fd_RX12_255 hv_12_2 e14 dX12_point_38 ?_
    refine lv_icmp_ge (tgt := 80) hx hb dX12_point_41 (by decide) (fun c15 => ?_) (fun c15 => ?_)
    · rw [if_pos c15] at hf
      exact Ke0 v2 τ (Option.some.inj hf).symm _ _ hJ ls (lv_sub hl [0, 1, 2] rfl)
    · rw [if_neg c15] at hf
      refine lv_iload_n hx hb dX12_point_44 rfl (lv_at hl 2 rfl) ?_
      refine lv_if_eq (tgt := 80) hx hb dX12_point_45 (by decide) (fun c16 => ?_) (fun c16 => ?_)
      · rw [if_pos c16] at hf
        exact Ke0 v2 τ (Option.some.inj hf).symm _ _ hJ ls (lv_sub hl [0, 1, 2] rfl)
      · rw [if_neg c16] at hf
        refine lv_aload_n hx hb dX12_point_48 rfl (lv_at hl 0 rfl) ?_
        obtain ⟨b17, e18, hf⟩ := mb0 hf
        refine my_gR hx hb hts hown hK hJ fd_RX12_57 hv_12_32 e18 dX12_point_49 ?_
        refine lv_bipush (v := 8) hx hb dX12_point_52 (by decide) ?_
        refine lv_iload_n hx hb dX12_point_54 rfl (lv_at hl 1 rfl) ?_
        refine lv_imul hx hb dX12_point_55 ?_
        refine lv_iload_n hx hb dX12_point_56 rfl (lv_at hl 3 rfl) ?_
        refine lv_iadd hx hb dX12_point_57 ?_
        obtain ⟨x19, e20, hf⟩ := mb0 hf
        refine mx_aI hx hb hK hJ e20 dX12_point_58 ?_
        refine lv_aload_n hx hb dX12_point_59 rfl (lv_at hl 0 rfl) ?_
        obtain ⟨b21, e22, hf⟩ := mb0 hf
        refine my_gR hx hb hts hown hK hJ fd_RX12_7 hv_12_1 e22 dX12_point_60 ?_
        refine lv_iload_n hx hb dX12_point_63 rfl (lv_at hl 3 rfl) ?_
        obtain ⟨x23, e24, hf⟩ := mb0 hf
        refine mx_aI hx hb hK hJ e24 dX12_point_64 ?_
        refine lv_icmp_ne (tgt := 72) hx hb dX12_point_65 (by decide) (fun c25 => ?_) (fun c25 => ?_)
        · rw [if_neg c25] at hf
          refine lv_iconst (v := 0) hx hb dX12_point_72 (by decide) ?_
          exact D73_36 v0 v1 v3 (0 : Int32) τ o hf Kb Ke0 _ _ hJ ls (lv_sub hl [0, 1, 3] rfl)
        · rw [if_pos c25] at hf
          refine lv_iconst (v := 1) hx hb dX12_point_68 (by decide) ?_
          refine lv_goto (tgt := 73) hx hb dX12_point_69 (by decide) ?_
          exact D73_36 v0 v1 v3 (1 : Int32) τ o hf Kb Ke0 _ _ hJ ls (lv_sub hl [0, 1, 3] rfl)
  have L36 : ∀ (v0 : Nat) (v1 : Int32) (n : Nat) (v2 : Int32) (v3 : Int32) (τ : mx_S) (o : (Int32 × mx_S)), mx_lp (f_X12_point_L36 P v0 v1) n (v2, v3, τ) = some o → (∀ (y2 : Int32) (υ : mx_S), o = (y2, υ) → ∀ (H : Heap) (locs : List Loc), mx_J G P s.heap (mxz σ) (mxu σ) υ H locs → ∀ ls : Array Slot, lv_has ls 4 [(0, .ref v0), (1, .int v1), (2, .int y2)] → W p l e (mx_rm P 0 0 σ) s m ([.ref a0] : List Value).toArray below meth c H locs (mxz υ - mxz σ) (mxu υ - mxu σ) (mx_Z below G P (some (.int r)) σ σ' [.ref a0] s) (F0 m 80 ls [])) → ∀ (H : Heap) (locs : List Loc), mx_J G P s.heap (mxz σ) (mxu σ) τ H locs → ∀ ls : Array Slot, lv_has ls 4 [(0, .ref v0), (1, .int v1), (2, .int v2), (3, .int v3)] → W p l e (mx_rm P 0 0 σ) s m ([.ref a0] : List Value).toArray below meth c H locs (mxz τ - mxz σ) (mxu τ - mxu σ) (mx_Z below G P (some (.int r)) σ σ' [.ref a0] s) (F0 m 36 ls []) := by
    intro v0 v1 n
    induction n with
    | zero =>
      intro v2 v3 τ o hf
      rw [mx_lp0] at hf
      cases hf
    | succ n ih =>
      intro v2 v3 τ o hf Ke0 H locs hJ ls hl
      rw [mx_lpS] at hf
      obtain ⟨b, eb, hf⟩ := mb0 hf
      refine B36 v0 v1 v2 v3 τ b eb (fun y2 y3 υ ho H locs hJ ls hl => ?_) (fun y2 υ ho H locs hJ ls hl => ?_) H locs hJ ls hl
      · subst ho
        exact ih y2 y3 υ o hf Ke0 H locs hJ ls hl
      · subst ho
        exact Ke0 y2 υ (Option.some.inj hf).symm _ _ hJ ls hl
  have D80_7 : ∀ (v0 : Nat) (v1 : Int32) (v2 : Int32) (τ : mx_S) (o : (Int32 × mx_S) ⊕ ((Int32 × mx_S) ⊕ (mx_S))), f_X12_point_D80_7 P v0 v1 v2 τ = some o → (∀ (y1 : Int32) (υ : mx_S), o = .inl (y1, υ) → ∀ (H : Heap) (locs : List Loc), mx_J G P s.heap (mxz σ) (mxu σ) υ H locs → ∀ ls : Array Slot, lv_has ls 4 [(0, .ref v0), (1, .int y1)] → W p l e (mx_rm P 0 0 σ) s m ([.ref a0] : List Value).toArray below meth c H locs (mxz υ - mxz σ) (mxu υ - mxu σ) (mx_Z below G P (some (.int r)) σ σ' [.ref a0] s) (F0 m 7 ls [])) → (∀ (y1 : Int32) (υ : mx_S), o = .inr (.inl (y1, υ)) → ∀ (H : Heap) (locs : List Loc), mx_J G P s.heap (mxz σ) (mxu σ) υ H locs → ∀ ls : Array Slot, lv_has ls 4 [(1, .int y1)] → W p l e (mx_rm P 0 0 σ) s m ([.ref a0] : List Value).toArray below meth c H locs (mxz υ - mxz σ) (mxu υ - mxu σ) (mx_Z below G P (some (.int r)) σ σ' [.ref a0] s) (F0 m 84 ls [])) → (∀  (υ : mx_S), o = .inr (.inr υ) → ∀ (H : Heap) (locs : List Loc), mx_J G P s.heap (mxz σ) (mxu σ) υ H locs → ∀ ls : Array Slot, lv_has ls 4 [] → W p l e (mx_rm P 0 0 σ) s m ([.ref a0] : List Value).toArray below meth c H locs (mxz υ - mxz σ) (mxu υ - mxu σ) (mx_Z below G P (some (.int r)) σ σ' [.ref a0] s) (F0 m 92 ls [])) → ∀ (H : Heap) (locs : List Loc), mx_J G P s.heap (mxz σ) (mxu σ) τ H locs → ∀ ls : Array Slot, lv_has ls 4 [(0, .ref v0), (1, .int v1), (2, .int v2)] → W p l e (mx_rm P 0 0 σ) s m ([.ref a0] : List Value).toArray below meth c H locs (mxz τ - mxz σ) (mxu τ - mxu σ) (mx_Z below G P (some (.int r)) σ σ' [.ref a0] s) (F0 m 80 ls []) := by
    intro v0 v1 v2 τ o hf Kb Ke0 Ke1 H locs hJ ls hl
    unfold f_X12_point_D80_7 at hf
    refine lv_iload_n hx hb dX12_point_80 rfl (lv_at hl 2 rfl) ?_
    refine lv_if_eq (tgt := 86) hx hb dX12_point_81 (by decide) (fun c32 => ?_) (fun c32 => ?_)
    · rw [if_pos c32] at hf
      obtain ⟨x33, e34, hf⟩ := mb0 hf
      refine lv_iinc (v := x33) (lv' := [(1, .int x33), (0, .ref v0), (2, .int v2)]) hx hb dX12_point_86 hl (k := 1) rfl (by rw [← Option.some.inj e34]; rfl) (by decide) rfl (fun ls hl => ?_)
      refine lv_goto (tgt := 7) hx hb dX12_point_89 (by decide) ?_
      exact Kb x33 τ (Option.some.inj hf).symm _ _ hJ ls (lv_sub hl [1, 0] rfl)
    · rw [if_neg c32] at hf
      exact Ke0 v1 τ (Option.some.inj hf).symm _ _ hJ ls (lv_sub hl [1] rfl)
  have D33_7 : ∀ (v0 : Nat) (v1 : Int32) (w0 : Int32) (τ : mx_S) (o : (Int32 × mx_S) ⊕ ((Int32 × mx_S) ⊕ (mx_S))), f_X12_point_D33_7 P v0 v1 w0 τ = some o → (∀ (y1 : Int32) (υ : mx_S), o = .inl (y1, υ) → ∀ (H : Heap) (locs : List Loc), mx_J G P s.heap (mxz σ) (mxu σ) υ H locs → ∀ ls : Array Slot, lv_has ls 4 [(0, .ref v0), (1, .int y1)] → W p l e (mx_rm P 0 0 σ) s m ([.ref a0] : List Value).toArray below meth c H locs (mxz υ - mxz σ) (mxu υ - mxu σ) (mx_Z below G P (some (.int r)) σ σ' [.ref a0] s) (F0 m 7 ls [])) → (∀ (y1 : Int32) (υ : mx_S), o = .inr (.inl (y1, υ)) → ∀ (H : Heap) (locs : List Loc), mx_J G P s.heap (mxz σ) (mxu σ) υ H locs → ∀ ls : Array Slot, lv_has ls 4 [(1, .int y1)] → W p l e (mx_rm P 0 0 σ) s m ([.ref a0] : List Value).toArray below meth c H locs (mxz υ - mxz σ) (mxu υ - mxu σ) (mx_Z below G P (some (.int r)) σ σ' [.ref a0] s) (F0 m 84 ls [])) → (∀  (υ : mx_S), o = .inr (.inr υ) → ∀ (H : Heap) (locs : List Loc), mx_J G P s.heap (mxz σ) (mxu σ) υ H locs → ∀ ls : Array Slot, lv_has ls 4 [] → W p l e (mx_rm P 0 0 σ) s m ([.ref a0] : List Value).toArray below meth c H locs (mxz υ - mxz σ) (mxu υ - mxu σ) (mx_Z below G P (some (.int r)) σ σ' [.ref a0] s) (F0 m 92 ls [])) → ∀ (H : Heap) (locs : List Loc), mx_J G P s.heap (mxz σ) (mxu σ) τ H locs → ∀ ls : Array Slot, lv_has ls 4 [(0, .ref v0), (1, .int v1)] → W p l e (mx_rm P 0 0 σ) s m ([.ref a0] : List Value).toArray below meth c H locs (mxz τ - mxz σ) (mxu τ - mxu σ) (mx_Z below G P (some (.int r)) σ σ' [.ref a0] s) (F0 m 33 ls [.int w0]) := by
    intro v0 v1 w0 τ o hf Kb Ke0 Ke1 H locs hJ ls hl
    unfold f_X12_point_D33_7 at hf
    refine lv_istore_n (lv' := [(2, .int w0), (0, .ref v0), (1, .int v1)]) hx hb dX12_point_33 rfl hl (by decide) rfl (fun ls hl => ?_)
    refine lv_iconst (v := 0) hx hb dX12_point_34 (by decide) ?_
    refine lv_istore_n (lv' := [(3, .int (0 : Int32)), (2, .int w0), (0, .ref v0), (1, .int v1)]) hx hb dX12_point_35 rfl hl (by decide) rfl (fun ls hl => ?_)
    obtain ⟨o28, e29, hf⟩ := mb0 hf
    refine L36 v0 v1 (mpN P) w0 (0 : Int32) τ o28 e29 (fun y30 σ31 ho H locs hJ ls hl => ?_) _ _ hJ ls (lv_sub hl [2, 3, 1, 0] rfl)
    · rw [ho] at hf
      have hf : (f_X12_point_D80_7 P v0 v1 y30 σ31) = some o := hf
      exact D80_7 v0 v1 y30 σ31 o hf Kb Ke0 Ke1 _ _ hJ ls (lv_sub hl [0, 1, 2] rfl)
  have B7 : ∀ (v0 : Nat) (v1 : Int32) (τ : mx_S) (o : (Int32 × mx_S) ⊕ ((Int32 × mx_S) ⊕ (mx_S))), f_X12_point_B7 P v0 v1 τ = some o → (∀ (y1 : Int32) (υ : mx_S), o = .inl (y1, υ) → ∀ (H : Heap) (locs : List Loc), mx_J G P s.heap (mxz σ) (mxu σ) υ H locs → ∀ ls : Array Slot, lv_has ls 4 [(0, .ref v0), (1, .int y1)] → W p l e (mx_rm P 0 0 σ) s m ([.ref a0] : List Value).toArray below meth c H locs (mxz υ - mxz σ) (mxu υ - mxu σ) (mx_Z below G P (some (.int r)) σ σ' [.ref a0] s) (F0 m 7 ls [])) → (∀ (y1 : Int32) (υ : mx_S), o = .inr (.inl (y1, υ)) → ∀ (H : Heap) (locs : List Loc), mx_J G P s.heap (mxz σ) (mxu σ) υ H locs → ∀ ls : Array Slot, lv_has ls 4 [(1, .int y1)] → W p l e (mx_rm P 0 0 σ) s m ([.ref a0] : List Value).toArray below meth c H locs (mxz υ - mxz σ) (mxu υ - mxu σ) (mx_Z below G P (some (.int r)) σ σ' [.ref a0] s) (F0 m 84 ls [])) → (∀  (υ : mx_S), o = .inr (.inr υ) → ∀ (H : Heap) (locs : List Loc), mx_J G P s.heap (mxz σ) (mxu σ) υ H locs → ∀ ls : Array Slot, lv_has ls 4 [] → W p l e (mx_rm P 0 0 σ) s m ([.ref a0] : List Value).toArray below meth c H locs (mxz υ - mxz σ) (mxu υ - mxu σ) (mx_Z below G P (some (.int r)) σ σ' [.ref a0] s) (F0 m 92 ls [])) → ∀ (H : Heap) (locs : List Loc), mx_J G P s.heap (mxz σ) (mxu σ) τ H locs → ∀ ls : Array Slot, lv_has ls 4 [(0, .ref v0), (1, .int v1)] → W p l e (mx_rm P 0 0 σ) s m ([.ref a0] : List Value).toArray below meth c H locs (mxz τ - mxz σ) (mxu τ - mxu σ) (mx_Z below G P (some (.int r)) σ σ' [.ref a0] s) (F0 m 7 ls []) := by
    intro v0 v1 τ o hf Kb Ke0 Ke1 H locs hJ ls hl
    unfold f_X12_point_B7 at hf
    refine lv_iload_n hx hb dX12_point_7 rfl (lv_at hl 1 rfl) ?_
    refine lv_aload_n hx hb dX12_point_8 rfl (lv_at hl 0 rfl) ?_
    obtain ⟨x3, e4, hf⟩ := mb0 hf
    refine my_gI hx hb hts hown hK hJ fd_RX12_460 hv_12_19 e4 dX12_point_9 ?_
    refine lv_icmp_ge (tgt := 92) hx hb dX12_point_12 (by decide) (fun c5 => ?_) (fun c5 => ?_)
    · rw [if_pos c5] at hf
      exact Ke1 τ (Option.some.inj hf).symm _ _ hJ ls (lv_sub hl [] rfl)
    · rw [if_neg c5] at hf
      refine lv_aload_n hx hb dX12_point_15 rfl (lv_at hl 0 rfl) ?_
      obtain ⟨b6, e7, hf⟩ := mb0 hf
      refine my_gR hx hb hts hown hK hJ fd_RX12_54 hv_12_31 e7 dX12_point_16 ?_
      refine lv_iload_n hx hb dX12_point_19 rfl (lv_at hl 1 rfl) ?_
      obtain ⟨x8, e9, hf⟩ := mb0 hf
      refine mx_aI hx hb hK hJ e9 dX12_point_20 ?_
      refine lv_aload_n hx hb dX12_point_21 rfl (lv_at hl 0 rfl) ?_
      obtain ⟨x10, e11, hf⟩ := mb0 hf
      refine my_gI hx hb hts hown hK hJ fd_RX12_255 hv_12_2 e11 dX12_point_22 ?_
      refine lv_icmp_ne (tgt := 32) hx hb dX12_point_25 (by decide) (fun c12 => ?_) (fun c12 => ?_)
      · rw [if_neg c12] at hf
        refine lv_iconst (v := 0) hx hb dX12_point_32 (by decide) ?_
        exact D33_7 v0 v1 (0 : Int32) τ o hf Kb Ke0 Ke1 _ _ hJ ls (lv_sub hl [0, 1] rfl)
      · rw [if_pos c12] at hf
        refine lv_iconst (v := 1) hx hb dX12_point_28 (by decide) ?_
        refine lv_goto (tgt := 33) hx hb dX12_point_29 (by decide) ?_
        exact D33_7 v0 v1 (1 : Int32) τ o hf Kb Ke0 Ke1 _ _ hJ ls (lv_sub hl [0, 1] rfl)
  have L7 : ∀ (v0 : Nat) (n : Nat) (v1 : Int32) (τ : mx_S) (o : (Int32 × mx_S) ⊕ (mx_S)), mx_lp (f_X12_point_L7 P v0) n (v1, τ) = some o → (∀ (y1 : Int32) (υ : mx_S), o = (.inl (y1, υ)) → ∀ (H : Heap) (locs : List Loc), mx_J G P s.heap (mxz σ) (mxu σ) υ H locs → ∀ ls : Array Slot, lv_has ls 4 [(1, .int y1)] → W p l e (mx_rm P 0 0 σ) s m ([.ref a0] : List Value).toArray below meth c H locs (mxz υ - mxz σ) (mxu υ - mxu σ) (mx_Z below G P (some (.int r)) σ σ' [.ref a0] s) (F0 m 84 ls [])) → (∀  (υ : mx_S), o = (.inr υ) → ∀ (H : Heap) (locs : List Loc), mx_J G P s.heap (mxz σ) (mxu σ) υ H locs → ∀ ls : Array Slot, lv_has ls 4 [] → W p l e (mx_rm P 0 0 σ) s m ([.ref a0] : List Value).toArray below meth c H locs (mxz υ - mxz σ) (mxu υ - mxu σ) (mx_Z below G P (some (.int r)) σ σ' [.ref a0] s) (F0 m 92 ls [])) → ∀ (H : Heap) (locs : List Loc), mx_J G P s.heap (mxz σ) (mxu σ) τ H locs → ∀ ls : Array Slot, lv_has ls 4 [(0, .ref v0), (1, .int v1)] → W p l e (mx_rm P 0 0 σ) s m ([.ref a0] : List Value).toArray below meth c H locs (mxz τ - mxz σ) (mxu τ - mxu σ) (mx_Z below G P (some (.int r)) σ σ' [.ref a0] s) (F0 m 7 ls []) := by
    intro v0 n
    induction n with
    | zero =>
      intro v1 τ o hf
      rw [mx_lp0] at hf
      cases hf
    | succ n ih =>
      intro v1 τ o hf Ke0 Ke1 H locs hJ ls hl
      rw [mx_lpS] at hf
      obtain ⟨b, eb, hf⟩ := mb0 hf
      refine B7 v0 v1 τ b eb (fun y1 υ ho H locs hJ ls hl => ?_) (fun y1 υ ho H locs hJ ls hl => ?_) (fun  υ ho H locs hJ ls hl => ?_) H locs hJ ls hl
      · subst ho
        exact ih y1 υ o hf Ke0 Ke1 H locs hJ ls hl
      · subst ho
        exact Ke0 y1 υ (Option.some.inj hf).symm _ _ hJ ls hl
      · subst ho
        exact Ke1  υ (Option.some.inj hf).symm _ _ hJ ls hl
  unfold f_X12_point at hf
  refine lv_aload_n hx hb dX12_point_0 rfl (lv_at hl 0 rfl) ?_
  refine lv_iconst (v := 0) hx hb dX12_point_1 (by decide) ?_
  obtain ⟨σ1, e2, hf⟩ := mb0 hf
  refine my_pI hx hb hts hown hK hJ fd_RX12_243 cd_12 (Or.inl rfl) ht_12_0 e2 dX12_point_2 (fun H locs hJ => ?_)
  refine lv_iconst (v := 0) hx hb dX12_point_5 (by decide) ?_
  refine lv_istore_n (lv' := [(1, .int (0 : Int32)), (0, .ref a0)]) hx hb dX12_point_6 rfl hl (by decide) rfl (fun ls hl => ?_)
  obtain ⟨o35, e36, hf⟩ := mb0 hf
  refine L7 a0 (mpN P) (0 : Int32) σ1 o35 e36 (fun y37 σ38 ho H locs hJ ls hl => ?_) (fun σ39 ho H locs hJ ls hl => ?_) _ _ hJ ls (lv_sub hl [1, 0] rfl)
  · rw [ho] at hf
    have hf : (some (y37, σ38)) = some (r, σ') := hf
    refine lv_iload_n hx hb dX12_point_84 rfl (lv_at hl 0 rfl) ?_
    exact my_iret hx hb hr hlocks hJ hf dX12_point_85
  · rw [ho] at hf
    have hf : (some ((-1 : Int32), σ39)) = some (r, σ') := hf
    refine lv_iconst (v := (-1)) hx hb dX12_point_92 (by decide) ?_
    exact my_iret hx hb hr hlocks hJ hf dX12_point_93
set_option maxHeartbeats 4000000 in
set_option maxRecDepth 100000 in
theorem c_X12_input (l : Launch) (G : mx_G) (P : mx_P) (a0 : Nat) (p1 : Int32) (p2 : Int32) (σ : mx_S) (σ' : mx_S) (hf : f_X12_input P a0 p1 p2 σ = some σ') : mxz σ ≤ mpc P → mxu σ ≤ mps P → mx_M l yX12_input cX12_input 3 none 1 25 G P [.ref a0, .int p1, .int p2] σ none σ' := by
  intro hcap hcau
  refine mx_ofW (by decide +kernel) hcap hcau (Nat.le_of_ble_eq_true rfl) ?_
  intro p e s m below meth c hx hb hr hml hts hown hlocks hname hK hJ ls hl
  have hz0 := hJ.2.1
  have hown : s.vm.findClass RX12 = some m.cls := hown
  have hl : lv_has ls 3 [(0, .ref a0), (1, .int p1), (2, .int p2)] := hl
  have D47 : ∀  (τ : mx_S), f_X12_input_D47 P  τ = some σ' → ∀ (H : Heap) (locs : List Loc), mx_J G P s.heap (mxz σ) (mxu σ) τ H locs → ∀ ls : Array Slot, lv_has ls 3 [] → W p l e (mx_rm P 1 25 σ) s m ([.ref a0, .int p1, .int p2] : List Value).toArray below meth c H locs (mxz τ - mxz σ) (mxu τ - mxu σ) (mx_Z below G P none σ σ' [.ref a0, .int p1, .int p2] s) (F0 m 47 ls []) := by
    intro  τ hf _ _ hJ ls hl
    unfold f_X12_input_D47 at hf
    exact my_vret hx hb hr hlocks hJ hf dX12_input_47
  have D30 : ∀ (v0 : Nat) (v1 : Int32) (v2 : Int32) (w0 : Int32) (w1 : Nat) (τ : mx_S), f_X12_input_D30 P v0 v1 v2 w0 w1 τ = some σ' → ∀ (H : Heap) (locs : List Loc), mx_J G P s.heap (mxz σ) (mxu σ) τ H locs → ∀ ls : Array Slot, lv_has ls 3 [(0, .ref v0), (1, .int v1), (2, .int v2)] → W p l e (mx_rm P 1 25 σ) s m ([.ref a0, .int p1, .int p2] : List Value).toArray below meth c H locs (mxz τ - mxz σ) (mxu τ - mxu σ) (mx_Z below G P none σ σ' [.ref a0, .int p1, .int p2] s) (F0 m 30 ls [.int w0, .ref w1]) := by
    intro v0 v1 v2 w0 w1 τ hf _ _ hJ ls hl
    unfold f_X12_input_D30 at hf
    obtain ⟨σ5, e6, hf⟩ := mb0 hf
    refine my_pI hx hb hts hown hK hJ fd_RX12_243 cd_12 (Or.inl rfl) ht_12_0 e6 dX12_input_30 (fun H locs hJ => ?_)
    refine lv_aload_n hx hb dX12_input_33 rfl (lv_at hl 0 rfl) ?_
    obtain ⟨x7, e8, hf⟩ := mb0 hf
    refine my_gI hx hb hts hown hK hJ fd_RX12_243 hv_12_0 e8 dX12_input_34 ?_
    refine lv_if_ne (tgt := 47) hx hb dX12_input_37 (by decide) (fun c9 => ?_) (fun c9 => ?_)
    · rw [if_neg c9] at hf
      exact D47  σ5 hf _ _ hJ ls (lv_sub hl [] rfl)
    · rw [if_pos c9] at hf
      refine lv_aload_n hx hb dX12_input_40 rfl (lv_at hl 0 rfl) ?_
      obtain ⟨b10, e11, hf⟩ := mb0 hf
      refine my_gR hx hb hts hown hK hJ fd_RX12_63 hv_12_34 e11 dX12_input_41 ?_
      refine lv_iload_n hx hb dX12_input_44 rfl (lv_at hl 1 rfl) ?_
      refine lv_iload_n hx hb dX12_input_45 rfl (lv_at hl 2 rfl) ?_
      obtain ⟨σ12, e13, hf⟩ := mb0 hf
      refine mx_sI hx hb hK hJ e13 dX12_input_46 (fun H locs hJ => ?_)
      exact D47  σ12 hf _ _ hJ ls (lv_sub hl [] rfl)
  have D29 : ∀ (v0 : Nat) (v1 : Int32) (v2 : Int32) (w0 : Nat) (τ : mx_S), f_X12_input_D29 P v0 v1 v2 w0 τ = some σ' → ∀ (H : Heap) (locs : List Loc), mx_J G P s.heap (mxz σ) (mxu σ) τ H locs → ∀ ls : Array Slot, lv_has ls 3 [(0, .ref v0), (1, .int v1), (2, .int v2)] → W p l e (mx_rm P 1 25 σ) s m ([.ref a0, .int p1, .int p2] : List Value).toArray below meth c H locs (mxz τ - mxz σ) (mxu τ - mxu σ) (mx_Z below G P none σ σ' [.ref a0, .int p1, .int p2] s) (F0 m 29 ls [.ref w0]) := by
    intro v0 v1 v2 w0 τ hf _ _ hJ ls hl
    unfold f_X12_input_D29 at hf
    refine lv_iconst (v := 1) hx hb dX12_input_29 (by decide) ?_
    exact D30 v0 v1 v2 (1 : Int32) w0 τ hf _ _ hJ ls (lv_sub hl [0, 1, 2] rfl)
  unfold f_X12_input at hf
  refine lv_aload_n hx hb dX12_input_0 rfl (lv_at hl 0 rfl) ?_
  refine lv_iload_n hx hb dX12_input_1 rfl (lv_at hl 1 rfl) ?_
  refine lv_i2l hx hb dX12_input_2 rfl ?_
  refine lv_lconst (v := 0) hx hb dX12_input_3 (by decide) ?_
  refine lv_ldc2 hx hb hown (hts _ kw_2354) dX12_input_4 ?_
  obtain ⟨x2, σ1, e3, hf⟩ := mc0 hf
  refine mx_callS (As := [.long (p1.toInt64), .long (0 : Int64), .long (3 : Int64)]) (rest := [.ref a0]) hx hb hml hts hown hK hJ rfl rfl (c_X12_in l G P (p1.toInt64) (0 : Int64) (3 : Int64) σ x2 σ1 e3) me_X12_in kw_2223 kw_2222 (Nat.le_of_ble_eq_true rfl) (Nat.le_of_ble_eq_true rfl) rfl hl.1 rfl (Nat.le_of_ble_eq_true rfl) dX12_input_7 (fun H locs hJ => ?_)
  refine lv_if_eq (tgt := 29) hx hb dX12_input_10 (by decide) (fun c4 => ?_) (fun c4 => ?_)
  · rw [if_pos c4] at hf
    exact D29 a0 p1 p2 a0 σ1 hf _ _ hJ ls (lv_sub hl [0, 1, 2] rfl)
  · rw [if_neg c4] at hf
    refine lv_iload_n hx hb dX12_input_13 rfl (lv_at hl 2 rfl) ?_
    refine lv_i2l hx hb dX12_input_14 rfl ?_
    refine lv_lconst (v := 0) hx hb dX12_input_15 (by decide) ?_
    refine lv_ldc2 hx hb hown (hts _ kw_2355) dX12_input_16 ?_
    obtain ⟨x15, σ14, e16, hf⟩ := mc0 hf
    refine mx_callS (As := [.long (p2.toInt64), .long (0 : Int64), .long (1023 : Int64)]) (rest := [.ref a0]) hx hb hml hts hown hK hJ rfl rfl (c_X12_in l G P (p2.toInt64) (0 : Int64) (1023 : Int64) σ1 x15 σ14 e16) me_X12_in kw_2223 kw_2222 (Nat.le_of_ble_eq_true rfl) (Nat.le_of_ble_eq_true rfl) rfl hl.1 rfl (Nat.le_of_ble_eq_true rfl) dX12_input_19 (fun H locs hJ => ?_)
    refine lv_if_eq (tgt := 29) hx hb dX12_input_22 (by decide) (fun c17 => ?_) (fun c17 => ?_)
    · rw [if_pos c17] at hf
      exact D29 a0 p1 p2 a0 σ14 hf _ _ hJ ls (lv_sub hl [0, 1, 2] rfl)
    · rw [if_neg c17] at hf
      refine lv_iconst (v := 0) hx hb dX12_input_25 (by decide) ?_
      refine lv_goto (tgt := 30) hx hb dX12_input_26 (by decide) ?_
      exact D30 a0 p1 p2 (0 : Int32) a0 σ14 hf _ _ hJ ls (lv_sub hl [0, 1, 2] rfl)
set_option maxHeartbeats 4000000 in
set_option maxRecDepth 100000 in
theorem c_X12_direction (l : Launch) (G : mx_G) (P : mx_P) (a0 : Nat) (p1 : Int32) (p2 : Int32) (σ : mx_S) (σ' : mx_S) (hf : f_X12_direction P a0 p1 p2 σ = some σ') : mxz σ ≤ mpc P → mxu σ ≤ mps P → mx_M l yX12_direction cX12_direction 8 none 3 73 G P [.ref a0, .int p1, .int p2] σ none σ' := by
  intro hcap hcau
  refine mx_ofW (by decide +kernel) hcap hcau (Nat.le_of_ble_eq_true rfl) ?_
  intro p e s m below meth c hx hb hr hml hts hown hlocks hname hK hJ ls hl
  have hz0 := hJ.2.1
  have hown : s.vm.findClass RX12 = some m.cls := hown
  have hl : lv_has ls 8 [(0, .ref a0), (1, .int p1), (2, .int p2)] := hl
  have B47 : ∀ (v0 : Nat) (v1 : Int32) (v2 : Int32) (v7 : Int32) (τ : mx_S) (o : (Int32 × mx_S) ⊕ ((mx_S))), f_X12_direction_B47 P v0 v1 v2 v7 τ = some o → (∀ (y7 : Int32) (υ : mx_S), o = .inl (y7, υ) → ∀ (H : Heap) (locs : List Loc), mx_J G P s.heap (mxz σ) (mxu σ) υ H locs → ∀ ls : Array Slot, lv_has ls 8 [(0, .ref v0), (1, .int v1), (2, .int v2), (7, .int y7)] → W p l e (mx_rm P 3 73 σ) s m ([.ref a0, .int p1, .int p2] : List Value).toArray below meth c H locs (mxz υ - mxz σ) (mxu υ - mxu σ) (mx_Z below G P none σ σ' [.ref a0, .int p1, .int p2] s) (F0 m 47 ls [])) → (∀  (υ : mx_S), o = .inr υ → ∀ (H : Heap) (locs : List Loc), mx_J G P s.heap (mxz σ) (mxu σ) υ H locs → ∀ ls : Array Slot, lv_has ls 8 [] → W p l e (mx_rm P 3 73 σ) s m ([.ref a0, .int p1, .int p2] : List Value).toArray below meth c H locs (mxz υ - mxz σ) (mxu υ - mxu σ) (mx_Z below G P none σ σ' [.ref a0, .int p1, .int p2] s) (F0 m 89 ls [])) → ∀ (H : Heap) (locs : List Loc), mx_J G P s.heap (mxz σ) (mxu σ) τ H locs → ∀ ls : Array Slot, lv_has ls 8 [(0, .ref v0), (1, .int v1), (2, .int v2), (7, .int v7)] → W p l e (mx_rm P 3 73 σ) s m ([.ref a0, .int p1, .int p2] : List Value).toArray below meth c H locs (mxz τ - mxz σ) (mxu τ - mxu σ) (mx_Z below G P none σ σ' [.ref a0, .int p1, .int p2] s) (F0 m 47 ls []) := by
    intro v0 v1 v2 v7 τ o hf Kb Ke0 H locs hJ ls hl
    unfold f_X12_direction_B47 at hf
    refine lv_iload hx hb dX12_direction_47 (lv_at hl 3 rfl) ?_
    refine lv_iload_n hx hb dX12_direction_49 rfl (lv_at hl 2 rfl) ?_
    refine lv_sipush (v := 256) hx hb dX12_direction_50 (by decide) ?_
    obtain ⟨x15, e16, hf⟩ := mb0 hf
    refine lv_idiv hx hb dX12_direction_53 (md_Is e16).1 ?_
    refine mx_eI (md_Is e16).2 ?_
    refine lv_icmp_ge (tgt := 89) hx hb dX12_direction_54 (by decide) (fun c17 => ?_) (fun c17 => ?_)
    · rw [if_pos c17] at hf
      exact Ke0 τ (Option.some.inj hf).symm _ _ hJ ls (lv_sub hl [] rfl)
    · rw [if_neg c17] at hf
      refine lv_aload_n hx hb dX12_direction_57 rfl (lv_at hl 0 rfl) ?_
      refine lv_sipush (v := 220) hx hb dX12_direction_58 (by decide) ?_
      refine lv_iload_n hx hb dX12_direction_61 rfl (lv_at hl 1 rfl) ?_
      refine lv_iconst (v := 1) hx hb dX12_direction_62 (by decide) ?_
      refine lv_iadd hx hb dX12_direction_63 ?_
      obtain ⟨i18, e19, hf⟩ := mb0 hf
      obtain ⟨σ20, e21, hf⟩ := mb0 hf
      refine mx_callV (As := [.int (220 : Int32), .int (v1 + (1 : Int32))]) (rest := []) hx hb hml hts hown hK hJ rfl rfl (ci := 12) rfl e19 (c_X12_turned l G P v0 (220 : Int32) (v1 + (1 : Int32)) τ σ20 e21) me_X12_turned kw_2395 ks_109 kw_2393 (Nat.le_of_ble_eq_true rfl) (Nat.le_of_ble_eq_true rfl) rfl hl.1 rfl (Nat.le_of_ble_eq_true rfl) dX12_direction_64 (fun H locs hJ => ?_)
      refine lv_aload_n hx hb dX12_direction_67 rfl (lv_at hl 0 rfl) ?_
      refine lv_iload_n hx hb dX12_direction_68 rfl (lv_at hl 1 rfl) ?_
      refine lv_iconst (v := 1) hx hb dX12_direction_69 (by decide) ?_
      refine lv_iadd hx hb dX12_direction_70 ?_
      refine lv_iload_n hx hb dX12_direction_71 rfl (lv_at hl 1 rfl) ?_
      obtain ⟨i22, e23, hf⟩ := mb0 hf
      obtain ⟨σ24, e25, hf⟩ := mb0 hf
      refine mx_callV (As := [.int (v1 + (1 : Int32)), .int v1]) (rest := []) hx hb hml hts hown hK hJ rfl rfl (ci := 12) rfl e23 (c_X12_copy l G P v0 (v1 + (1 : Int32)) v1 σ20 σ24 e25) me_X12_copy kw_2399 ks_110 kw_2397 (Nat.le_of_ble_eq_true rfl) (Nat.le_of_ble_eq_true rfl) rfl hl.1 rfl (Nat.le_of_ble_eq_true rfl) dX12_direction_72 (fun H locs hJ => ?_)
      refine lv_aload_n hx hb dX12_direction_75 rfl (lv_at hl 0 rfl) ?_
      refine lv_iload_n hx hb dX12_direction_76 rfl (lv_at hl 1 rfl) ?_
      refine lv_sipush (v := 220) hx hb dX12_direction_77 (by decide) ?_
      obtain ⟨i26, e27, hf⟩ := mb0 hf
      obtain ⟨σ28, e29, hf⟩ := mb0 hf
      refine mx_callV (As := [.int v1, .int (220 : Int32)]) (rest := []) hx hb hml hts hown hK hJ rfl rfl (ci := 12) rfl e27 (c_X12_copy l G P v0 v1 (220 : Int32) σ24 σ28 e29) me_X12_copy kw_2399 ks_110 kw_2397 (Nat.le_of_ble_eq_true rfl) (Nat.le_of_ble_eq_true rfl) rfl hl.1 rfl (Nat.le_of_ble_eq_true rfl) dX12_direction_80 (fun H locs hJ => ?_)
      obtain ⟨x30, e31, hf⟩ := mb0 hf
      refine lv_iinc (v := x30) (lv' := [(7, .int x30), (0, .ref v0), (1, .int v1), (2, .int v2)]) hx hb dX12_direction_83 hl (k := 3) rfl (by rw [← Option.some.inj e31]; rfl) (by decide) rfl (fun ls hl => ?_)
      refine lv_goto (tgt := 47) hx hb dX12_direction_86 (by decide) ?_
      exact Kb x30 σ28 (Option.some.inj hf).symm _ _ hJ ls (lv_sub hl [1, 2, 3, 0] rfl)
  have L47 : ∀ (v0 : Nat) (v1 : Int32) (v2 : Int32) (n : Nat) (v7 : Int32) (τ : mx_S) (o : (mx_S)), mx_lp (f_X12_direction_L47 P v0 v1 v2) n (v7, τ) = some o → (∀  (υ : mx_S), o = υ → ∀ (H : Heap) (locs : List Loc), mx_J G P s.heap (mxz σ) (mxu σ) υ H locs → ∀ ls : Array Slot, lv_has ls 8 [] → W p l e (mx_rm P 3 73 σ) s m ([.ref a0, .int p1, .int p2] : List Value).toArray below meth c H locs (mxz υ - mxz σ) (mxu υ - mxu σ) (mx_Z below G P none σ σ' [.ref a0, .int p1, .int p2] s) (F0 m 89 ls [])) → ∀ (H : Heap) (locs : List Loc), mx_J G P s.heap (mxz σ) (mxu σ) τ H locs → ∀ ls : Array Slot, lv_has ls 8 [(0, .ref v0), (1, .int v1), (2, .int v2), (7, .int v7)] → W p l e (mx_rm P 3 73 σ) s m ([.ref a0, .int p1, .int p2] : List Value).toArray below meth c H locs (mxz τ - mxz σ) (mxu τ - mxu σ) (mx_Z below G P none σ σ' [.ref a0, .int p1, .int p2] s) (F0 m 47 ls []) := by
    intro v0 v1 v2 n
    induction n with
    | zero =>
      intro v7 τ o hf
      rw [mx_lp0] at hf
      cases hf
    | succ n ih =>
      intro v7 τ o hf Ke0 H locs hJ ls hl
      rw [mx_lpS] at hf
      obtain ⟨b, eb, hf⟩ := mb0 hf
      refine B47 v0 v1 v2 v7 τ b eb (fun y7 υ ho H locs hJ ls hl => ?_) (fun  υ ho H locs hJ ls hl => ?_) H locs hJ ls hl
      · subst ho
        exact ih y7 υ o hf Ke0 H locs hJ ls hl
      · subst ho
        exact Ke0  υ (Option.some.inj hf).symm _ _ hJ ls hl
  unfold f_X12_direction at hf
  refine lv_iload_n hx hb dX12_direction_0 rfl (lv_at hl 2 rfl) ?_
  refine lv_sipush (v := 256) hx hb dX12_direction_1 (by decide) ?_
  obtain ⟨x1, e2, hf⟩ := mb0 hf
  refine lv_irem hx hb dX12_direction_4 (mm_Is e2).1 ?_
  refine mx_eI (mm_Is e2).2 ?_
  refine lv_i2l hx hb dX12_direction_5 rfl ?_
  obtain ⟨x3, e4, hf⟩ := mb0 hf
  refine mx_nL e4 ?_
  refine lv_lstore_n (lv' := [(3, .long x3), (0, .ref a0), (1, .int p1), (2, .int p2)]) hx hb dX12_direction_6 rfl hl (by decide) rfl (fun ls hl => ?_)
  refine lv_ldc2 hx hb hown (hts _ kw_2372) dX12_direction_7 ?_
  refine lv_lload_n hx hb dX12_direction_10 rfl (lv_at hl 0 rfl) ?_
  refine lv_lload_n hx hb dX12_direction_11 rfl (lv_at hl 0 rfl) ?_
  refine lv_lmul hx hb dX12_direction_12 ?_
  refine lv_ladd hx hb dX12_direction_13 ?_
  obtain ⟨x5, e6, hf⟩ := mb0 hf
  refine mx_nL e6 ?_
  refine lv_lstore (lv' := [(5, .long x5), (3, .long x3), (0, .ref a0), (1, .int p1), (2, .int p2)]) hx hb dX12_direction_14 hl (by decide) rfl (fun ls hl => ?_)
  refine lv_aload_n hx hb dX12_direction_16 rfl (lv_at hl 2 rfl) ?_
  refine lv_iload_n hx hb dX12_direction_17 rfl (lv_at hl 3 rfl) ?_
  refine lv_ldc2 hx hb hown (hts _ kw_2372) dX12_direction_18 ?_
  refine lv_lload_n hx hb dX12_direction_21 rfl (lv_at hl 1 rfl) ?_
  refine lv_lload_n hx hb dX12_direction_22 rfl (lv_at hl 1 rfl) ?_
  refine lv_lmul hx hb dX12_direction_23 ?_
  refine lv_lsub hx hb dX12_direction_24 ?_
  refine lv_lload hx hb dX12_direction_25 (lv_at hl 0 rfl) ?_
  obtain ⟨i7, e8, hf⟩ := mb0 hf
  obtain ⟨σ9, e10, hf⟩ := mb0 hf
  refine mx_callV (As := [.int p1, .long ((65536 : Int64) - (x3 * x3)), .long x5]) (rest := []) hx hb hml hts hown hK hJ rfl rfl (ci := 12) rfl e8 (c_X12_fraction l G P a0 p1 ((65536 : Int64) - (x3 * x3)) x5 σ σ9 e10) me_X12_fraction kw_2370 ks_105 kw_2368 (Nat.le_of_ble_eq_true rfl) (Nat.le_of_ble_eq_true rfl) rfl hl.1 rfl (Nat.le_of_ble_eq_true rfl) dX12_direction_27 (fun H locs hJ => ?_)
  refine lv_aload_n hx hb dX12_direction_30 rfl (lv_at hl 2 rfl) ?_
  refine lv_iload_n hx hb dX12_direction_31 rfl (lv_at hl 3 rfl) ?_
  refine lv_iconst (v := 1) hx hb dX12_direction_32 (by decide) ?_
  refine lv_iadd hx hb dX12_direction_33 ?_
  refine lv_ldc2 hx hb hown (hts _ kw_2392) dX12_direction_34 ?_
  refine lv_lload_n hx hb dX12_direction_37 rfl (lv_at hl 1 rfl) ?_
  refine lv_lmul hx hb dX12_direction_38 ?_
  refine lv_lload hx hb dX12_direction_39 (lv_at hl 0 rfl) ?_
  obtain ⟨i11, e12, hf⟩ := mb0 hf
  obtain ⟨σ13, e14, hf⟩ := mb0 hf
  refine mx_callV (As := [.int (p1 + (1 : Int32)), .long ((512 : Int64) * x3), .long x5]) (rest := []) hx hb hml hts hown hK hJ rfl rfl (ci := 12) rfl e12 (c_X12_fraction l G P a0 (p1 + (1 : Int32)) ((512 : Int64) * x3) x5 σ9 σ13 e14) me_X12_fraction kw_2370 ks_105 kw_2368 (Nat.le_of_ble_eq_true rfl) (Nat.le_of_ble_eq_true rfl) rfl hl.1 rfl (Nat.le_of_ble_eq_true rfl) dX12_direction_41 (fun H locs hJ => ?_)
  refine lv_iconst (v := 0) hx hb dX12_direction_44 (by decide) ?_
  refine lv_istore (lv' := [(7, .int (0 : Int32)), (5, .long x5), (3, .long x3), (0, .ref a0), (1, .int p1), (2, .int p2)]) hx hb dX12_direction_45 hl (by decide) rfl (fun ls hl => ?_)
  obtain ⟨o32, e33, hf⟩ := mb0 hf
  refine L47 a0 p1 p2 (mpN P) (0 : Int32) σ13 o32 e33 (fun σ34 ho H locs hJ ls hl => ?_) _ _ hJ ls (lv_sub hl [3, 4, 5, 0] rfl)
  · rw [ho] at hf
    have hf : (some σ34) = some σ' := hf
    exact my_vret hx hb hr hlocks hJ hf dX12_direction_89
set_option maxHeartbeats 4000000 in
set_option maxRecDepth 100000 in
theorem c_X12_turnPair (l : Launch) (G : mx_G) (P : mx_P) (a0 : Nat) (p1 : Int32) (p2 : Int32) (p3 : Int32) (σ : mx_S) (σ' : mx_S) (hf : f_X12_turnPair P a0 p1 p2 p3 σ = some σ') : mxz σ ≤ mpc P → mxu σ ≤ mps P → mx_M l yX12_turnPair cX12_turnPair 4 none 3 83 G P [.ref a0, .int p1, .int p2, .int p3] σ none σ' := by
  intro hcap hcau
  refine mx_ofW (by decide +kernel) hcap hcau (Nat.le_of_ble_eq_true rfl) ?_
  intro p e s m below meth c hx hb hr hml hts hown hlocks hname hK hJ ls hl
  have hz0 := hJ.2.1
  have hown : s.vm.findClass RX12 = some m.cls := hown
  have hl : lv_has ls 4 [(0, .ref a0), (1, .int p1), (2, .int p2), (3, .int p3)] := hl
  unfold f_X12_turnPair at hf
  refine lv_aload_n hx hb dX12_turnPair_0 rfl (lv_at hl 0 rfl) ?_
  refine lv_sipush (v := 221) hx hb dX12_turnPair_1 (by decide) ?_
  refine lv_iload_n hx hb dX12_turnPair_4 rfl (lv_at hl 2 rfl) ?_
  refine lv_iload_n hx hb dX12_turnPair_5 rfl (lv_at hl 3 rfl) ?_
  obtain ⟨i1, e2, hf⟩ := mb0 hf
  obtain ⟨σ3, e4, hf⟩ := mb0 hf
  refine mx_callV (As := [.int (221 : Int32), .int p2, .int p3]) (rest := []) hx hb hml hts hown hK hJ rfl rfl (ci := 12) rfl e2 (c_X12_multiply l G P a0 (221 : Int32) p2 p3 σ σ3 e4) me_X12_multiply kw_2407 ks_112 kw_2405 (Nat.le_of_ble_eq_true rfl) (Nat.le_of_ble_eq_true rfl) rfl hl.1 rfl (Nat.le_of_ble_eq_true rfl) dX12_turnPair_6 (fun H locs hJ => ?_)
  refine lv_aload_n hx hb dX12_turnPair_9 rfl (lv_at hl 0 rfl) ?_
  refine lv_sipush (v := 222) hx hb dX12_turnPair_10 (by decide) ?_
  refine lv_iload_n hx hb dX12_turnPair_13 rfl (lv_at hl 2 rfl) ?_
  refine lv_iconst (v := 1) hx hb dX12_turnPair_14 (by decide) ?_
  refine lv_iadd hx hb dX12_turnPair_15 ?_
  refine lv_iload_n hx hb dX12_turnPair_16 rfl (lv_at hl 3 rfl) ?_
  refine lv_iconst (v := 1) hx hb dX12_turnPair_17 (by decide) ?_
  refine lv_iadd hx hb dX12_turnPair_18 ?_
  obtain ⟨i5, e6, hf⟩ := mb0 hf
  obtain ⟨σ7, e8, hf⟩ := mb0 hf
  refine mx_callV (As := [.int (222 : Int32), .int (p2 + (1 : Int32)), .int (p3 + (1 : Int32))]) (rest := []) hx hb hml hts hown hK hJ rfl rfl (ci := 12) rfl e6 (c_X12_multiply l G P a0 (222 : Int32) (p2 + (1 : Int32)) (p3 + (1 : Int32)) σ3 σ7 e8) me_X12_multiply kw_2407 ks_112 kw_2405 (Nat.le_of_ble_eq_true rfl) (Nat.le_of_ble_eq_true rfl) rfl hl.1 rfl (Nat.le_of_ble_eq_true rfl) dX12_turnPair_19 (fun H locs hJ => ?_)
  refine lv_aload_n hx hb dX12_turnPair_22 rfl (lv_at hl 0 rfl) ?_
  refine lv_sipush (v := 223) hx hb dX12_turnPair_23 (by decide) ?_
  refine lv_iload_n hx hb dX12_turnPair_26 rfl (lv_at hl 2 rfl) ?_
  refine lv_iload_n hx hb dX12_turnPair_27 rfl (lv_at hl 3 rfl) ?_
  refine lv_iconst (v := 1) hx hb dX12_turnPair_28 (by decide) ?_
  refine lv_iadd hx hb dX12_turnPair_29 ?_
  obtain ⟨i9, e10, hf⟩ := mb0 hf
  obtain ⟨σ11, e12, hf⟩ := mb0 hf
  refine mx_callV (As := [.int (223 : Int32), .int p2, .int (p3 + (1 : Int32))]) (rest := []) hx hb hml hts hown hK hJ rfl rfl (ci := 12) rfl e10 (c_X12_multiply l G P a0 (223 : Int32) p2 (p3 + (1 : Int32)) σ7 σ11 e12) me_X12_multiply kw_2407 ks_112 kw_2405 (Nat.le_of_ble_eq_true rfl) (Nat.le_of_ble_eq_true rfl) rfl hl.1 rfl (Nat.le_of_ble_eq_true rfl) dX12_turnPair_30 (fun H locs hJ => ?_)
  refine lv_aload_n hx hb dX12_turnPair_33 rfl (lv_at hl 0 rfl) ?_
  refine lv_sipush (v := 224) hx hb dX12_turnPair_34 (by decide) ?_
  refine lv_iload_n hx hb dX12_turnPair_37 rfl (lv_at hl 2 rfl) ?_
  refine lv_iconst (v := 1) hx hb dX12_turnPair_38 (by decide) ?_
  refine lv_iadd hx hb dX12_turnPair_39 ?_
  refine lv_iload_n hx hb dX12_turnPair_40 rfl (lv_at hl 3 rfl) ?_
  obtain ⟨i13, e14, hf⟩ := mb0 hf
  obtain ⟨σ15, e16, hf⟩ := mb0 hf
  refine mx_callV (As := [.int (224 : Int32), .int (p2 + (1 : Int32)), .int p3]) (rest := []) hx hb hml hts hown hK hJ rfl rfl (ci := 12) rfl e14 (c_X12_multiply l G P a0 (224 : Int32) (p2 + (1 : Int32)) p3 σ11 σ15 e16) me_X12_multiply kw_2407 ks_112 kw_2405 (Nat.le_of_ble_eq_true rfl) (Nat.le_of_ble_eq_true rfl) rfl hl.1 rfl (Nat.le_of_ble_eq_true rfl) dX12_turnPair_41 (fun H locs hJ => ?_)
  refine lv_aload_n hx hb dX12_turnPair_44 rfl (lv_at hl 0 rfl) ?_
  refine lv_iload_n hx hb dX12_turnPair_45 rfl (lv_at hl 1 rfl) ?_
  refine lv_sipush (v := 221) hx hb dX12_turnPair_46 (by decide) ?_
  refine lv_sipush (v := 222) hx hb dX12_turnPair_49 (by decide) ?_
  obtain ⟨i17, e18, hf⟩ := mb0 hf
  obtain ⟨σ19, e20, hf⟩ := mb0 hf
  refine mx_callV (As := [.int p1, .int (221 : Int32), .int (222 : Int32)]) (rest := []) hx hb hml hts hown hK hJ rfl rfl (ci := 12) rfl e18 (c_X12_less l G P a0 p1 (221 : Int32) (222 : Int32) σ15 σ19 e20) me_X12_less kw_2417 ks_113 kw_2415 (Nat.le_of_ble_eq_true rfl) (Nat.le_of_ble_eq_true rfl) rfl hl.1 rfl (Nat.le_of_ble_eq_true rfl) dX12_turnPair_52 (fun H locs hJ => ?_)
  refine lv_aload_n hx hb dX12_turnPair_55 rfl (lv_at hl 0 rfl) ?_
  refine lv_iload_n hx hb dX12_turnPair_56 rfl (lv_at hl 1 rfl) ?_
  refine lv_iconst (v := 1) hx hb dX12_turnPair_57 (by decide) ?_
  refine lv_iadd hx hb dX12_turnPair_58 ?_
  refine lv_sipush (v := 223) hx hb dX12_turnPair_59 (by decide) ?_
  refine lv_sipush (v := 224) hx hb dX12_turnPair_62 (by decide) ?_
  obtain ⟨i21, e22, hf⟩ := mb0 hf
  obtain ⟨σ23, e24, hf⟩ := mb0 hf
  refine mx_callV (As := [.int (p1 + (1 : Int32)), .int (223 : Int32), .int (224 : Int32)]) (rest := []) hx hb hml hts hown hK hJ rfl rfl (ci := 12) rfl e22 (c_X12_add l G P a0 (p1 + (1 : Int32)) (223 : Int32) (224 : Int32) σ19 σ23 e24) me_X12_add kw_2421 ks_114 kw_2419 (Nat.le_of_ble_eq_true rfl) (Nat.le_of_ble_eq_true rfl) rfl hl.1 rfl (Nat.le_of_ble_eq_true rfl) dX12_turnPair_65 (fun H locs hJ => ?_)
  exact my_vret hx hb hr hlocks hJ hf dX12_turnPair_68
set_option maxHeartbeats 4000000 in
set_option maxRecDepth 100000 in
theorem c_X12_wayOf (l : Launch) (G : mx_G) (P : mx_P) (a0 : Nat) (p1 : Int32) (p2 : Int32) (σ : mx_S) (σ' : mx_S) (hf : f_X12_wayOf P a0 p1 p2 σ = some σ') : mxz σ ≤ mpc P → mxu σ ≤ mps P → mx_M l yX12_wayOf cX12_wayOf 5 none 4 106 G P [.ref a0, .int p1, .int p2] σ none σ' := by
  intro hcap hcau
  refine mx_ofW (by decide +kernel) hcap hcau (Nat.le_of_ble_eq_true rfl) ?_
  intro p e s m below meth c hx hb hr hml hts hown hlocks hname hK hJ ls hl
  have hz0 := hJ.2.1
  have hown : s.vm.findClass RX12 = some m.cls := hown
  have hl : lv_has ls 5 [(0, .ref a0), (1, .int p1), (2, .int p2)] := hl
  have D101_89 : ∀ (v0 : Nat) (v1 : Int32) (v2 : Int32) (v3 : Int32) (v4 : Int32) (w0 : Int32) (w1 : Int32) (τ : mx_S) (o : (Int32 × mx_S) ⊕ ((mx_S))), f_X12_wayOf_D101_89 P v0 v1 v2 v3 v4 w0 w1 τ = some o → (∀ (y4 : Int32) (υ : mx_S), o = .inl (y4, υ) → ∀ (H : Heap) (locs : List Loc), mx_J G P s.heap (mxz σ) (mxu σ) υ H locs → ∀ ls : Array Slot, lv_has ls 5 [(0, .ref v0), (1, .int v1), (2, .int v2), (3, .int v3), (4, .int y4)] → W p l e (mx_rm P 4 106 σ) s m ([.ref a0, .int p1, .int p2] : List Value).toArray below meth c H locs (mxz υ - mxz σ) (mxu υ - mxu σ) (mx_Z below G P none σ σ' [.ref a0, .int p1, .int p2] s) (F0 m 89 ls [])) → (∀  (υ : mx_S), o = .inr υ → ∀ (H : Heap) (locs : List Loc), mx_J G P s.heap (mxz σ) (mxu σ) υ H locs → ∀ ls : Array Slot, lv_has ls 5 [(0, .ref v0), (1, .int v1), (2, .int v2)] → W p l e (mx_rm P 4 106 σ) s m ([.ref a0, .int p1, .int p2] : List Value).toArray below meth c H locs (mxz υ - mxz σ) (mxu υ - mxu σ) (mx_Z below G P none σ σ' [.ref a0, .int p1, .int p2] s) (F0 m 119 ls [])) → ∀ (H : Heap) (locs : List Loc), mx_J G P s.heap (mxz σ) (mxu σ) τ H locs → ∀ ls : Array Slot, lv_has ls 5 [(0, .ref v0), (1, .int v1), (2, .int v2), (3, .int v3), (4, .int v4)] → W p l e (mx_rm P 4 106 σ) s m ([.ref a0, .int p1, .int p2] : List Value).toArray below meth c H locs (mxz τ - mxz σ) (mxu τ - mxu σ) (mx_Z below G P none σ σ' [.ref a0, .int p1, .int p2] s) (F0 m 101 ls [.int w0, .int w1]) := by
    intro v0 v1 v2 v3 v4 w0 w1 τ o hf Kb Ke0 H locs hJ ls hl
    unfold f_X12_wayOf_D101_89 at hf
    refine lv_icmp_ge (tgt := 119) hx hb dX12_wayOf_101 (by decide) (fun c28 => ?_) (fun c28 => ?_)
    · rw [if_pos c28] at hf
      exact Ke0 τ (Option.some.inj hf).symm _ _ hJ ls (lv_sub hl [0, 1, 2] rfl)
    · rw [if_neg c28] at hf
      refine lv_aload_n hx hb dX12_wayOf_104 rfl (lv_at hl 0 rfl) ?_
      refine lv_iload_n hx hb dX12_wayOf_105 rfl (lv_at hl 1 rfl) ?_
      refine lv_iload_n hx hb dX12_wayOf_106 rfl (lv_at hl 1 rfl) ?_
      refine lv_sipush (v := 210) hx hb dX12_wayOf_107 (by decide) ?_
      obtain ⟨i29, e30, hf⟩ := mb0 hf
      obtain ⟨σ31, e32, hf⟩ := mb0 hf
      refine mx_callV (As := [.int v1, .int v1, .int (210 : Int32)]) (rest := []) hx hb hml hts hown hK hJ rfl rfl (ci := 12) rfl e30 (c_X12_turnPair l G P v0 v1 v1 (210 : Int32) τ σ31 e32) me_X12_turnPair kw_2403 ks_111 kw_2401 (Nat.le_of_ble_eq_true rfl) (Nat.le_of_ble_eq_true rfl) rfl hl.1 rfl (Nat.le_of_ble_eq_true rfl) dX12_wayOf_110 (fun H locs hJ => ?_)
      obtain ⟨x33, e34, hf⟩ := mb0 hf
      refine lv_iinc (v := x33) (lv' := [(4, .int x33), (0, .ref v0), (1, .int v1), (2, .int v2), (3, .int v3)]) hx hb dX12_wayOf_113 hl (k := 4) rfl (by rw [← Option.some.inj e34]; rfl) (by decide) rfl (fun ls hl => ?_)
      refine lv_goto (tgt := 89) hx hb dX12_wayOf_116 (by decide) ?_
      exact Kb x33 σ31 (Option.some.inj hf).symm _ _ hJ ls (lv_sub hl [1, 2, 3, 4, 0] rfl)
  have B89 : ∀ (v0 : Nat) (v1 : Int32) (v2 : Int32) (v3 : Int32) (v4 : Int32) (τ : mx_S) (o : (Int32 × mx_S) ⊕ ((mx_S))), f_X12_wayOf_B89 P v0 v1 v2 v3 v4 τ = some o → (∀ (y4 : Int32) (υ : mx_S), o = .inl (y4, υ) → ∀ (H : Heap) (locs : List Loc), mx_J G P s.heap (mxz σ) (mxu σ) υ H locs → ∀ ls : Array Slot, lv_has ls 5 [(0, .ref v0), (1, .int v1), (2, .int v2), (3, .int v3), (4, .int y4)] → W p l e (mx_rm P 4 106 σ) s m ([.ref a0, .int p1, .int p2] : List Value).toArray below meth c H locs (mxz υ - mxz σ) (mxu υ - mxu σ) (mx_Z below G P none σ σ' [.ref a0, .int p1, .int p2] s) (F0 m 89 ls [])) → (∀  (υ : mx_S), o = .inr υ → ∀ (H : Heap) (locs : List Loc), mx_J G P s.heap (mxz σ) (mxu σ) υ H locs → ∀ ls : Array Slot, lv_has ls 5 [(0, .ref v0), (1, .int v1), (2, .int v2)] → W p l e (mx_rm P 4 106 σ) s m ([.ref a0, .int p1, .int p2] : List Value).toArray below meth c H locs (mxz υ - mxz σ) (mxu υ - mxu σ) (mx_Z below G P none σ σ' [.ref a0, .int p1, .int p2] s) (F0 m 119 ls [])) → ∀ (H : Heap) (locs : List Loc), mx_J G P s.heap (mxz σ) (mxu σ) τ H locs → ∀ ls : Array Slot, lv_has ls 5 [(0, .ref v0), (1, .int v1), (2, .int v2), (3, .int v3), (4, .int v4)] → W p l e (mx_rm P 4 106 σ) s m ([.ref a0, .int p1, .int p2] : List Value).toArray below meth c H locs (mxz τ - mxz σ) (mxu τ - mxu σ) (mx_Z below G P none σ σ' [.ref a0, .int p1, .int p2] s) (F0 m 89 ls []) := by
    intro v0 v1 v2 v3 v4 τ o hf Kb Ke0 H locs hJ ls hl
    unfold f_X12_wayOf_B89 at hf
    refine lv_iload hx hb dX12_wayOf_89 (lv_at hl 4 rfl) ?_
    refine lv_iload_n hx hb dX12_wayOf_91 rfl (lv_at hl 3 rfl) ?_
    refine lv_if_ge (tgt := 100) hx hb dX12_wayOf_92 (by decide) (fun c27 => ?_) (fun c27 => ?_)
    · rw [if_pos c27] at hf
      refine lv_iload_n hx hb dX12_wayOf_100 rfl (lv_at hl 3 rfl) ?_
      exact D101_89 v0 v1 v2 v3 v4 v3 v4 τ o hf Kb Ke0 _ _ hJ ls (lv_sub hl [0, 1, 2, 3, 4] rfl)
    · rw [if_neg c27] at hf
      refine lv_iload_n hx hb dX12_wayOf_95 rfl (lv_at hl 3 rfl) ?_
      refine lv_ineg hx hb dX12_wayOf_96 ?_
      refine lv_goto (tgt := 101) hx hb dX12_wayOf_97 (by decide) ?_
      exact D101_89 v0 v1 v2 v3 v4 (-v3) v4 τ o hf Kb Ke0 _ _ hJ ls (lv_sub hl [0, 1, 2, 3, 4] rfl)
  have L89 : ∀ (v0 : Nat) (v1 : Int32) (v2 : Int32) (v3 : Int32) (n : Nat) (v4 : Int32) (τ : mx_S) (o : (mx_S)), mx_lp (f_X12_wayOf_L89 P v0 v1 v2 v3) n (v4, τ) = some o → (∀  (υ : mx_S), o = υ → ∀ (H : Heap) (locs : List Loc), mx_J G P s.heap (mxz σ) (mxu σ) υ H locs → ∀ ls : Array Slot, lv_has ls 5 [(0, .ref v0), (1, .int v1), (2, .int v2)] → W p l e (mx_rm P 4 106 σ) s m ([.ref a0, .int p1, .int p2] : List Value).toArray below meth c H locs (mxz υ - mxz σ) (mxu υ - mxu σ) (mx_Z below G P none σ σ' [.ref a0, .int p1, .int p2] s) (F0 m 119 ls [])) → ∀ (H : Heap) (locs : List Loc), mx_J G P s.heap (mxz σ) (mxu σ) τ H locs → ∀ ls : Array Slot, lv_has ls 5 [(0, .ref v0), (1, .int v1), (2, .int v2), (3, .int v3), (4, .int v4)] → W p l e (mx_rm P 4 106 σ) s m ([.ref a0, .int p1, .int p2] : List Value).toArray below meth c H locs (mxz τ - mxz σ) (mxu τ - mxu σ) (mx_Z below G P none σ σ' [.ref a0, .int p1, .int p2] s) (F0 m 89 ls []) := by
    intro v0 v1 v2 v3 n
    induction n with
    | zero =>
      intro v4 τ o hf
      rw [mx_lp0] at hf
      cases hf
    | succ n ih =>
      intro v4 τ o hf Ke0 H locs hJ ls hl
      rw [mx_lpS] at hf
      obtain ⟨b, eb, hf⟩ := mb0 hf
      refine B89 v0 v1 v2 v3 v4 τ b eb (fun y4 υ ho H locs hJ ls hl => ?_) (fun  υ ho H locs hJ ls hl => ?_) H locs hJ ls hl
      · subst ho
        exact ih y4 υ o hf Ke0 H locs hJ ls hl
      · subst ho
        exact Ke0  υ (Option.some.inj hf).symm _ _ hJ ls hl
  have D119 : ∀ (v0 : Nat) (v1 : Int32) (v2 : Int32) (τ : mx_S), f_X12_wayOf_D119 P v0 v1 v2 τ = some σ' → ∀ (H : Heap) (locs : List Loc), mx_J G P s.heap (mxz σ) (mxu σ) τ H locs → ∀ ls : Array Slot, lv_has ls 5 [(0, .ref v0), (1, .int v1), (2, .int v2)] → W p l e (mx_rm P 4 106 σ) s m ([.ref a0, .int p1, .int p2] : List Value).toArray below meth c H locs (mxz τ - mxz σ) (mxu τ - mxu σ) (mx_Z below G P none σ σ' [.ref a0, .int p1, .int p2] s) (F0 m 119 ls []) := by
    intro v0 v1 v2 τ hf _ _ hJ ls hl
    unfold f_X12_wayOf_D119 at hf
    refine lv_aload_n hx hb dX12_wayOf_119 rfl (lv_at hl 0 rfl) ?_
    refine lv_sipush (v := 212) hx hb dX12_wayOf_120 (by decide) ?_
    refine lv_aload_n hx hb dX12_wayOf_123 rfl (lv_at hl 0 rfl) ?_
    obtain ⟨b38, e39, hf⟩ := mb0 hf
    refine my_gR hx hb hts hown hK hJ fd_RX12_48 hv_12_29 e39 dX12_wayOf_124 ?_
    refine lv_iload_n hx hb dX12_wayOf_127 rfl (lv_at hl 2 rfl) ?_
    obtain ⟨x40, e41, hf⟩ := mb0 hf
    refine mx_aI hx hb hK hJ e41 dX12_wayOf_128 ?_
    obtain ⟨i42, e43, hf⟩ := mb0 hf
    obtain ⟨σ44, e45, hf⟩ := mb0 hf
    refine mx_callV (As := [.int (212 : Int32), .int x40]) (rest := []) hx hb hml hts hown hK hJ rfl rfl (ci := 12) rfl e43 (c_X12_direction l G P v0 (212 : Int32) x40 τ σ44 e45) me_X12_direction kw_2390 ks_108 kw_2388 (Nat.le_of_ble_eq_true rfl) (Nat.le_of_ble_eq_true rfl) rfl hl.1 rfl (Nat.le_of_ble_eq_true rfl) dX12_wayOf_129 (fun H locs hJ => ?_)
    refine lv_aload_n hx hb dX12_wayOf_132 rfl (lv_at hl 0 rfl) ?_
    refine lv_iload_n hx hb dX12_wayOf_133 rfl (lv_at hl 1 rfl) ?_
    refine lv_iload_n hx hb dX12_wayOf_134 rfl (lv_at hl 1 rfl) ?_
    refine lv_sipush (v := 212) hx hb dX12_wayOf_135 (by decide) ?_
    obtain ⟨i46, e47, hf⟩ := mb0 hf
    obtain ⟨σ48, e49, hf⟩ := mb0 hf
    refine mx_callV (As := [.int v1, .int v1, .int (212 : Int32)]) (rest := []) hx hb hml hts hown hK hJ rfl rfl (ci := 12) rfl e47 (c_X12_turnPair l G P v0 v1 v1 (212 : Int32) σ44 σ48 e49) me_X12_turnPair kw_2403 ks_111 kw_2401 (Nat.le_of_ble_eq_true rfl) (Nat.le_of_ble_eq_true rfl) rfl hl.1 rfl (Nat.le_of_ble_eq_true rfl) dX12_wayOf_138 (fun H locs hJ => ?_)
    exact my_vret hx hb hr hlocks hJ hf dX12_wayOf_141
  have D68 : ∀ (v0 : Nat) (v1 : Int32) (v2 : Int32) (v3 : Int32) (τ : mx_S), f_X12_wayOf_D68 P v0 v1 v2 v3 τ = some σ' → ∀ (H : Heap) (locs : List Loc), mx_J G P s.heap (mxz σ) (mxu σ) τ H locs → ∀ ls : Array Slot, lv_has ls 5 [(0, .ref v0), (1, .int v1), (2, .int v2), (3, .int v3)] → W p l e (mx_rm P 4 106 σ) s m ([.ref a0, .int p1, .int p2] : List Value).toArray below meth c H locs (mxz τ - mxz σ) (mxu τ - mxu σ) (mx_Z below G P none σ σ' [.ref a0, .int p1, .int p2] s) (F0 m 68 ls []) := by
    intro v0 v1 v2 v3 τ hf _ _ hJ ls hl
    unfold f_X12_wayOf_D68 at hf
    refine lv_aload_n hx hb dX12_wayOf_68 rfl (lv_at hl 0 rfl) ?_
    refine lv_iload_n hx hb dX12_wayOf_69 rfl (lv_at hl 1 rfl) ?_
    refine lv_sipush (v := 210) hx hb dX12_wayOf_70 (by decide) ?_
    obtain ⟨i19, e20, hf⟩ := mb0 hf
    obtain ⟨σ21, e22, hf⟩ := mb0 hf
    refine mx_callV (As := [.int v1, .int (210 : Int32)]) (rest := []) hx hb hml hts hown hK hJ rfl rfl (ci := 12) rfl e20 (c_X12_copy l G P v0 v1 (210 : Int32) τ σ21 e22) me_X12_copy kw_2399 ks_110 kw_2397 (Nat.le_of_ble_eq_true rfl) (Nat.le_of_ble_eq_true rfl) rfl hl.1 rfl (Nat.le_of_ble_eq_true rfl) dX12_wayOf_73 (fun H locs hJ => ?_)
    refine lv_aload_n hx hb dX12_wayOf_76 rfl (lv_at hl 0 rfl) ?_
    refine lv_iload_n hx hb dX12_wayOf_77 rfl (lv_at hl 1 rfl) ?_
    refine lv_iconst (v := 1) hx hb dX12_wayOf_78 (by decide) ?_
    refine lv_iadd hx hb dX12_wayOf_79 ?_
    refine lv_sipush (v := 211) hx hb dX12_wayOf_80 (by decide) ?_
    obtain ⟨i23, e24, hf⟩ := mb0 hf
    obtain ⟨σ25, e26, hf⟩ := mb0 hf
    refine mx_callV (As := [.int (v1 + (1 : Int32)), .int (211 : Int32)]) (rest := []) hx hb hml hts hown hK hJ rfl rfl (ci := 12) rfl e24 (c_X12_copy l G P v0 (v1 + (1 : Int32)) (211 : Int32) σ21 σ25 e26) me_X12_copy kw_2399 ks_110 kw_2397 (Nat.le_of_ble_eq_true rfl) (Nat.le_of_ble_eq_true rfl) rfl hl.1 rfl (Nat.le_of_ble_eq_true rfl) dX12_wayOf_83 (fun H locs hJ => ?_)
    refine lv_iconst (v := 1) hx hb dX12_wayOf_86 (by decide) ?_
    refine lv_istore (lv' := [(4, .int (1 : Int32)), (0, .ref v0), (1, .int v1), (2, .int v2), (3, .int v3)]) hx hb dX12_wayOf_87 hl (by decide) rfl (fun ls hl => ?_)
    obtain ⟨o35, e36, hf⟩ := mb0 hf
    refine L89 v0 v1 v2 v3 (mpN P) (1 : Int32) σ25 o35 e36 (fun σ37 ho H locs hJ ls hl => ?_) _ _ hJ ls (lv_sub hl [1, 2, 3, 4, 0] rfl)
    · rw [ho] at hf
      have hf : (f_X12_wayOf_D119 P v0 v1 v2 σ37) = some σ' := hf
      exact D119 v0 v1 v2 σ37 hf _ _ hJ ls (lv_sub hl [0, 1, 2] rfl)
  unfold f_X12_wayOf at hf
  refine lv_aload_n hx hb dX12_wayOf_0 rfl (lv_at hl 0 rfl) ?_
  obtain ⟨b1, e2, hf⟩ := mb0 hf
  refine my_gR hx hb hts hown hK hJ fd_RX12_45 hv_12_28 e2 dX12_wayOf_1 ?_
  refine lv_iload_n hx hb dX12_wayOf_4 rfl (lv_at hl 2 rfl) ?_
  obtain ⟨x3, e4, hf⟩ := mb0 hf
  refine mx_aI hx hb hK hJ e4 dX12_wayOf_5 ?_
  refine lv_istore_n (lv' := [(3, .int x3), (0, .ref a0), (1, .int p1), (2, .int p2)]) hx hb dX12_wayOf_6 rfl hl (by decide) rfl (fun ls hl => ?_)
  refine lv_iload_n hx hb dX12_wayOf_7 rfl (lv_at hl 0 rfl) ?_
  refine lv_if_ne (tgt := 36) hx hb dX12_wayOf_8 (by decide) (fun c5 => ?_) (fun c5 => ?_)
  · rw [if_neg c5] at hf
    refine lv_aload_n hx hb dX12_wayOf_36 rfl (lv_at hl 1 rfl) ?_
    refine lv_sipush (v := 210) hx hb dX12_wayOf_37 (by decide) ?_
    refine lv_aload_n hx hb dX12_wayOf_40 rfl (lv_at hl 1 rfl) ?_
    obtain ⟨b6, e7, hf⟩ := mb0 hf
    refine my_gR hx hb hts hown hK hJ fd_RX12_63 hv_12_34 e7 dX12_wayOf_41 ?_
    refine lv_aload_n hx hb dX12_wayOf_44 rfl (lv_at hl 1 rfl) ?_
    obtain ⟨b8, e9, hf⟩ := mb0 hf
    refine my_gR hx hb hts hown hK hJ fd_RX12_42 hv_12_27 e9 dX12_wayOf_45 ?_
    refine lv_iload_n hx hb dX12_wayOf_48 rfl (lv_at hl 3 rfl) ?_
    obtain ⟨x10, e11, hf⟩ := mb0 hf
    refine mx_aI hx hb hK hJ e11 dX12_wayOf_49 ?_
    obtain ⟨x12, e13, hf⟩ := mb0 hf
    refine mx_aI hx hb hK hJ e13 dX12_wayOf_50 ?_
    obtain ⟨i14, e15, hf⟩ := mb0 hf
    obtain ⟨σ16, e17, hf⟩ := mb0 hf
    refine mx_callV (As := [.int (210 : Int32), .int x12]) (rest := []) hx hb hml hts hown hK hJ rfl rfl (ci := 12) rfl e15 (c_X12_direction l G P a0 (210 : Int32) x12 σ σ16 e17) me_X12_direction kw_2390 ks_108 kw_2388 (Nat.le_of_ble_eq_true rfl) (Nat.le_of_ble_eq_true rfl) rfl hl.1 rfl (Nat.le_of_ble_eq_true rfl) dX12_wayOf_51 (fun H locs hJ => ?_)
    refine lv_iload_n hx hb dX12_wayOf_54 rfl (lv_at hl 0 rfl) ?_
    refine lv_if_ge (tgt := 68) hx hb dX12_wayOf_55 (by decide) (fun c18 => ?_) (fun c18 => ?_)
    · rw [if_pos c18] at hf
      exact D68 a0 p1 p2 x3 σ16 hf _ _ hJ ls (lv_sub hl [1, 2, 3, 0] rfl)
    · rw [if_neg c18] at hf
      refine lv_aload_n hx hb dX12_wayOf_58 rfl (lv_at hl 1 rfl) ?_
      refine lv_sipush (v := 211) hx hb dX12_wayOf_59 (by decide) ?_
      refine lv_sipush (v := 211) hx hb dX12_wayOf_62 (by decide) ?_
      obtain ⟨i50, e51, hf⟩ := mb0 hf
      obtain ⟨σ52, e53, hf⟩ := mb0 hf
      refine mx_callV (As := [.int (211 : Int32), .int (211 : Int32)]) (rest := []) hx hb hml hts hown hK hJ rfl rfl (ci := 12) rfl e51 (c_X12_turned l G P a0 (211 : Int32) (211 : Int32) σ16 σ52 e53) me_X12_turned kw_2395 ks_109 kw_2393 (Nat.le_of_ble_eq_true rfl) (Nat.le_of_ble_eq_true rfl) rfl hl.1 rfl (Nat.le_of_ble_eq_true rfl) dX12_wayOf_65 (fun H locs hJ => ?_)
      exact D68 a0 p1 p2 x3 σ52 hf _ _ hJ ls (lv_sub hl [1, 2, 3, 0] rfl)
  · rw [if_pos c5] at hf
    refine lv_aload_n hx hb dX12_wayOf_11 rfl (lv_at hl 1 rfl) ?_
    refine lv_iload_n hx hb dX12_wayOf_12 rfl (lv_at hl 2 rfl) ?_
    refine lv_ldc2 hx hb hown (hts _ kw_2372) dX12_wayOf_13 ?_
    refine lv_ldc2 hx hb hown (hts _ kw_2372) dX12_wayOf_16 ?_
    refine lv_iconst (v := 0) hx hb dX12_wayOf_19 (by decide) ?_
    obtain ⟨i54, e55, hf⟩ := mb0 hf
    obtain ⟨σ56, e57, hf⟩ := mb0 hf
    refine mx_callV (As := [.int p1, .long (65536 : Int64), .long (65536 : Int64), .int (0 : Int32)]) (rest := []) hx hb hml hts hown hK hJ rfl rfl (ci := 12) rfl e55 (c_X12_box l G P a0 p1 (65536 : Int64) (65536 : Int64) (0 : Int32) σ σ56 e57) me_X12_box kw_2381 ks_106 kw_2379 (Nat.le_of_ble_eq_true rfl) (Nat.le_of_ble_eq_true rfl) rfl hl.1 rfl (Nat.le_of_ble_eq_true rfl) dX12_wayOf_20 (fun H locs hJ => ?_)
    refine lv_aload_n hx hb dX12_wayOf_23 rfl (lv_at hl 1 rfl) ?_
    refine lv_iload_n hx hb dX12_wayOf_24 rfl (lv_at hl 2 rfl) ?_
    refine lv_iconst (v := 1) hx hb dX12_wayOf_25 (by decide) ?_
    refine lv_iadd hx hb dX12_wayOf_26 ?_
    refine lv_lconst (v := 0) hx hb dX12_wayOf_27 (by decide) ?_
    refine lv_lconst (v := 0) hx hb dX12_wayOf_28 (by decide) ?_
    refine lv_iconst (v := 0) hx hb dX12_wayOf_29 (by decide) ?_
    obtain ⟨i58, e59, hf⟩ := mb0 hf
    obtain ⟨σ60, e61, hf⟩ := mb0 hf
    refine mx_callV (As := [.int (p1 + (1 : Int32)), .long (0 : Int64), .long (0 : Int64), .int (0 : Int32)]) (rest := []) hx hb hml hts hown hK hJ rfl rfl (ci := 12) rfl e59 (c_X12_box l G P a0 (p1 + (1 : Int32)) (0 : Int64) (0 : Int64) (0 : Int32) σ56 σ60 e61) me_X12_box kw_2381 ks_106 kw_2379 (Nat.le_of_ble_eq_true rfl) (Nat.le_of_ble_eq_true rfl) rfl hl.1 rfl (Nat.le_of_ble_eq_true rfl) dX12_wayOf_30 (fun H locs hJ => ?_)
    refine lv_goto (tgt := 119) hx hb dX12_wayOf_33 (by decide) ?_
    exact D119 a0 p1 p2 σ60 hf _ _ hJ ls (lv_sub hl [1, 2, 3] rfl)
set_option maxHeartbeats 4000000 in
set_option maxRecDepth 100000 in
theorem c_X12_between (l : Launch) (G : mx_G) (P : mx_P) (a0 : Nat) (p1 : Int32) (p2 : Int32) (p3 : Int32) (σ : mx_S) (σ' : mx_S) (hf : f_X12_between P a0 p1 p2 p3 σ = some σ') : mxz σ ≤ mpc P → mxu σ ≤ mps P → mx_M l yX12_between cX12_between 4 none 3 70 G P [.ref a0, .int p1, .int p2, .int p3] σ none σ' := by
  intro hcap hcau
  refine mx_ofW (by decide +kernel) hcap hcau (Nat.le_of_ble_eq_true rfl) ?_
  intro p e s m below meth c hx hb hr hml hts hown hlocks hname hK hJ ls hl
  have hz0 := hJ.2.1
  have hown : s.vm.findClass RX12 = some m.cls := hown
  have hl : lv_has ls 4 [(0, .ref a0), (1, .int p1), (2, .int p2), (3, .int p3)] := hl
  unfold f_X12_between at hf
  refine lv_aload_n hx hb dX12_between_0 rfl (lv_at hl 0 rfl) ?_
  refine lv_iload_n hx hb dX12_between_1 rfl (lv_at hl 1 rfl) ?_
  refine lv_iconst (v := 2) hx hb dX12_between_2 (by decide) ?_
  refine lv_iload_n hx hb dX12_between_3 rfl (lv_at hl 2 rfl) ?_
  refine lv_imul hx hb dX12_between_4 ?_
  refine lv_iconst (v := 2) hx hb dX12_between_5 (by decide) ?_
  refine lv_iload_n hx hb dX12_between_6 rfl (lv_at hl 3 rfl) ?_
  refine lv_imul hx hb dX12_between_7 ?_
  obtain ⟨i1, e2, hf⟩ := mb0 hf
  obtain ⟨σ3, e4, hf⟩ := mb0 hf
  refine mx_callV (As := [.int p1, .int ((2 : Int32) * p2), .int ((2 : Int32) * p3)]) (rest := []) hx hb hml hts hown hK hJ rfl rfl (ci := 12) rfl e2 (c_X12_less l G P a0 p1 ((2 : Int32) * p2) ((2 : Int32) * p3) σ σ3 e4) me_X12_less kw_2417 ks_113 kw_2415 (Nat.le_of_ble_eq_true rfl) (Nat.le_of_ble_eq_true rfl) rfl hl.1 rfl (Nat.le_of_ble_eq_true rfl) dX12_between_8 (fun H locs hJ => ?_)
  refine lv_aload_n hx hb dX12_between_11 rfl (lv_at hl 0 rfl) ?_
  refine lv_iload_n hx hb dX12_between_12 rfl (lv_at hl 1 rfl) ?_
  refine lv_iconst (v := 1) hx hb dX12_between_13 (by decide) ?_
  refine lv_iadd hx hb dX12_between_14 ?_
  refine lv_iconst (v := 2) hx hb dX12_between_15 (by decide) ?_
  refine lv_iload_n hx hb dX12_between_16 rfl (lv_at hl 2 rfl) ?_
  refine lv_imul hx hb dX12_between_17 ?_
  refine lv_iconst (v := 1) hx hb dX12_between_18 (by decide) ?_
  refine lv_iadd hx hb dX12_between_19 ?_
  refine lv_iconst (v := 2) hx hb dX12_between_20 (by decide) ?_
  refine lv_iload_n hx hb dX12_between_21 rfl (lv_at hl 3 rfl) ?_
  refine lv_imul hx hb dX12_between_22 ?_
  refine lv_iconst (v := 1) hx hb dX12_between_23 (by decide) ?_
  refine lv_iadd hx hb dX12_between_24 ?_
  obtain ⟨i5, e6, hf⟩ := mb0 hf
  obtain ⟨σ7, e8, hf⟩ := mb0 hf
  refine mx_callV (As := [.int (p1 + (1 : Int32)), .int (((2 : Int32) * p2) + (1 : Int32)), .int (((2 : Int32) * p3) + (1 : Int32))]) (rest := []) hx hb hml hts hown hK hJ rfl rfl (ci := 12) rfl e6 (c_X12_less l G P a0 (p1 + (1 : Int32)) (((2 : Int32) * p2) + (1 : Int32)) (((2 : Int32) * p3) + (1 : Int32)) σ3 σ7 e8) me_X12_less kw_2417 ks_113 kw_2415 (Nat.le_of_ble_eq_true rfl) (Nat.le_of_ble_eq_true rfl) rfl hl.1 rfl (Nat.le_of_ble_eq_true rfl) dX12_between_25 (fun H locs hJ => ?_)
  exact my_vret hx hb hr hlocks hJ hf dX12_between_28
set_option maxHeartbeats 4000000 in
set_option maxRecDepth 100000 in
theorem c_X12_dot (l : Launch) (G : mx_G) (P : mx_P) (a0 : Nat) (p1 : Int32) (p2 : Int32) (p3 : Int32) (σ : mx_S) (σ' : mx_S) (hf : f_X12_dot P a0 p1 p2 p3 σ = some σ') : mxz σ ≤ mpc P → mxu σ ≤ mps P → mx_M l yX12_dot cX12_dot 4 none 3 83 G P [.ref a0, .int p1, .int p2, .int p3] σ none σ' := by
  intro hcap hcau
  refine mx_ofW (by decide +kernel) hcap hcau (Nat.le_of_ble_eq_true rfl) ?_
  intro p e s m below meth c hx hb hr hml hts hown hlocks hname hK hJ ls hl
  have hz0 := hJ.2.1
  have hown : s.vm.findClass RX12 = some m.cls := hown
  have hl : lv_has ls 4 [(0, .ref a0), (1, .int p1), (2, .int p2), (3, .int p3)] := hl
  unfold f_X12_dot at hf
  refine lv_aload_n hx hb dX12_dot_0 rfl (lv_at hl 0 rfl) ?_
  refine lv_sipush (v := 225) hx hb dX12_dot_1 (by decide) ?_
  refine lv_iload_n hx hb dX12_dot_4 rfl (lv_at hl 2 rfl) ?_
  refine lv_iload_n hx hb dX12_dot_5 rfl (lv_at hl 3 rfl) ?_
  obtain ⟨i1, e2, hf⟩ := mb0 hf
  obtain ⟨σ3, e4, hf⟩ := mb0 hf
  refine mx_callV (As := [.int (225 : Int32), .int p2, .int p3]) (rest := []) hx hb hml hts hown hK hJ rfl rfl (ci := 12) rfl e2 (c_X12_multiply l G P a0 (225 : Int32) p2 p3 σ σ3 e4) me_X12_multiply kw_2407 ks_112 kw_2405 (Nat.le_of_ble_eq_true rfl) (Nat.le_of_ble_eq_true rfl) rfl hl.1 rfl (Nat.le_of_ble_eq_true rfl) dX12_dot_6 (fun H locs hJ => ?_)
  refine lv_aload_n hx hb dX12_dot_9 rfl (lv_at hl 0 rfl) ?_
  refine lv_sipush (v := 226) hx hb dX12_dot_10 (by decide) ?_
  refine lv_iload_n hx hb dX12_dot_13 rfl (lv_at hl 2 rfl) ?_
  refine lv_iconst (v := 1) hx hb dX12_dot_14 (by decide) ?_
  refine lv_iadd hx hb dX12_dot_15 ?_
  refine lv_iload_n hx hb dX12_dot_16 rfl (lv_at hl 3 rfl) ?_
  refine lv_iconst (v := 1) hx hb dX12_dot_17 (by decide) ?_
  refine lv_iadd hx hb dX12_dot_18 ?_
  obtain ⟨i5, e6, hf⟩ := mb0 hf
  obtain ⟨σ7, e8, hf⟩ := mb0 hf
  refine mx_callV (As := [.int (226 : Int32), .int (p2 + (1 : Int32)), .int (p3 + (1 : Int32))]) (rest := []) hx hb hml hts hown hK hJ rfl rfl (ci := 12) rfl e6 (c_X12_multiply l G P a0 (226 : Int32) (p2 + (1 : Int32)) (p3 + (1 : Int32)) σ3 σ7 e8) me_X12_multiply kw_2407 ks_112 kw_2405 (Nat.le_of_ble_eq_true rfl) (Nat.le_of_ble_eq_true rfl) rfl hl.1 rfl (Nat.le_of_ble_eq_true rfl) dX12_dot_19 (fun H locs hJ => ?_)
  refine lv_aload_n hx hb dX12_dot_22 rfl (lv_at hl 0 rfl) ?_
  refine lv_iload_n hx hb dX12_dot_23 rfl (lv_at hl 1 rfl) ?_
  refine lv_sipush (v := 225) hx hb dX12_dot_24 (by decide) ?_
  refine lv_sipush (v := 226) hx hb dX12_dot_27 (by decide) ?_
  obtain ⟨i9, e10, hf⟩ := mb0 hf
  obtain ⟨σ11, e12, hf⟩ := mb0 hf
  refine mx_callV (As := [.int p1, .int (225 : Int32), .int (226 : Int32)]) (rest := []) hx hb hml hts hown hK hJ rfl rfl (ci := 12) rfl e10 (c_X12_add l G P a0 p1 (225 : Int32) (226 : Int32) σ7 σ11 e12) me_X12_add kw_2421 ks_114 kw_2419 (Nat.le_of_ble_eq_true rfl) (Nat.le_of_ble_eq_true rfl) rfl hl.1 rfl (Nat.le_of_ble_eq_true rfl) dX12_dot_30 (fun H locs hJ => ?_)
  exact my_vret hx hb hr hlocks hJ hf dX12_dot_33
set_option maxHeartbeats 4000000 in
set_option maxRecDepth 100000 in
theorem c_X12_cross (l : Launch) (G : mx_G) (P : mx_P) (a0 : Nat) (p1 : Int32) (p2 : Int32) (p3 : Int32) (σ : mx_S) (σ' : mx_S) (hf : f_X12_cross P a0 p1 p2 p3 σ = some σ') : mxz σ ≤ mpc P → mxu σ ≤ mps P → mx_M l yX12_cross cX12_cross 4 none 3 83 G P [.ref a0, .int p1, .int p2, .int p3] σ none σ' := by
  intro hcap hcau
  refine mx_ofW (by decide +kernel) hcap hcau (Nat.le_of_ble_eq_true rfl) ?_
  intro p e s m below meth c hx hb hr hml hts hown hlocks hname hK hJ ls hl
  have hz0 := hJ.2.1
  have hown : s.vm.findClass RX12 = some m.cls := hown
  have hl : lv_has ls 4 [(0, .ref a0), (1, .int p1), (2, .int p2), (3, .int p3)] := hl
  unfold f_X12_cross at hf
  refine lv_aload_n hx hb dX12_cross_0 rfl (lv_at hl 0 rfl) ?_
  refine lv_sipush (v := 225) hx hb dX12_cross_1 (by decide) ?_
  refine lv_iload_n hx hb dX12_cross_4 rfl (lv_at hl 2 rfl) ?_
  refine lv_iload_n hx hb dX12_cross_5 rfl (lv_at hl 3 rfl) ?_
  refine lv_iconst (v := 1) hx hb dX12_cross_6 (by decide) ?_
  refine lv_iadd hx hb dX12_cross_7 ?_
  obtain ⟨i1, e2, hf⟩ := mb0 hf
  obtain ⟨σ3, e4, hf⟩ := mb0 hf
  refine mx_callV (As := [.int (225 : Int32), .int p2, .int (p3 + (1 : Int32))]) (rest := []) hx hb hml hts hown hK hJ rfl rfl (ci := 12) rfl e2 (c_X12_multiply l G P a0 (225 : Int32) p2 (p3 + (1 : Int32)) σ σ3 e4) me_X12_multiply kw_2407 ks_112 kw_2405 (Nat.le_of_ble_eq_true rfl) (Nat.le_of_ble_eq_true rfl) rfl hl.1 rfl (Nat.le_of_ble_eq_true rfl) dX12_cross_8 (fun H locs hJ => ?_)
  refine lv_aload_n hx hb dX12_cross_11 rfl (lv_at hl 0 rfl) ?_
  refine lv_sipush (v := 226) hx hb dX12_cross_12 (by decide) ?_
  refine lv_iload_n hx hb dX12_cross_15 rfl (lv_at hl 2 rfl) ?_
  refine lv_iconst (v := 1) hx hb dX12_cross_16 (by decide) ?_
  refine lv_iadd hx hb dX12_cross_17 ?_
  refine lv_iload_n hx hb dX12_cross_18 rfl (lv_at hl 3 rfl) ?_
  obtain ⟨i5, e6, hf⟩ := mb0 hf
  obtain ⟨σ7, e8, hf⟩ := mb0 hf
  refine mx_callV (As := [.int (226 : Int32), .int (p2 + (1 : Int32)), .int p3]) (rest := []) hx hb hml hts hown hK hJ rfl rfl (ci := 12) rfl e6 (c_X12_multiply l G P a0 (226 : Int32) (p2 + (1 : Int32)) p3 σ3 σ7 e8) me_X12_multiply kw_2407 ks_112 kw_2405 (Nat.le_of_ble_eq_true rfl) (Nat.le_of_ble_eq_true rfl) rfl hl.1 rfl (Nat.le_of_ble_eq_true rfl) dX12_cross_19 (fun H locs hJ => ?_)
  refine lv_aload_n hx hb dX12_cross_22 rfl (lv_at hl 0 rfl) ?_
  refine lv_iload_n hx hb dX12_cross_23 rfl (lv_at hl 1 rfl) ?_
  refine lv_sipush (v := 225) hx hb dX12_cross_24 (by decide) ?_
  refine lv_sipush (v := 226) hx hb dX12_cross_27 (by decide) ?_
  obtain ⟨i9, e10, hf⟩ := mb0 hf
  obtain ⟨σ11, e12, hf⟩ := mb0 hf
  refine mx_callV (As := [.int p1, .int (225 : Int32), .int (226 : Int32)]) (rest := []) hx hb hml hts hown hK hJ rfl rfl (ci := 12) rfl e10 (c_X12_less l G P a0 p1 (225 : Int32) (226 : Int32) σ7 σ11 e12) me_X12_less kw_2417 ks_113 kw_2415 (Nat.le_of_ble_eq_true rfl) (Nat.le_of_ble_eq_true rfl) rfl hl.1 rfl (Nat.le_of_ble_eq_true rfl) dX12_cross_30 (fun H locs hJ => ?_)
  exact my_vret hx hb hr hlocks hJ hf dX12_cross_33
set_option maxHeartbeats 4000000 in
set_option maxRecDepth 100000 in
theorem c_X12_squares (l : Launch) (G : mx_G) (P : mx_P) (a0 : Nat) (p1 : Int32) (p2 : Int32) (σ : mx_S) (σ' : mx_S) (hf : f_X12_squares P a0 p1 p2 σ = some σ') : mxz σ ≤ mpc P → mxu σ ≤ mps P → mx_M l yX12_squares cX12_squares 3 none 3 76 G P [.ref a0, .int p1, .int p2] σ none σ' := by
  intro hcap hcau
  refine mx_ofW (by decide +kernel) hcap hcau (Nat.le_of_ble_eq_true rfl) ?_
  intro p e s m below meth c hx hb hr hml hts hown hlocks hname hK hJ ls hl
  have hz0 := hJ.2.1
  have hown : s.vm.findClass RX12 = some m.cls := hown
  have hl : lv_has ls 3 [(0, .ref a0), (1, .int p1), (2, .int p2)] := hl
  unfold f_X12_squares at hf
  refine lv_aload_n hx hb dX12_squares_0 rfl (lv_at hl 0 rfl) ?_
  refine lv_sipush (v := 225) hx hb dX12_squares_1 (by decide) ?_
  refine lv_iload_n hx hb dX12_squares_4 rfl (lv_at hl 2 rfl) ?_
  obtain ⟨i1, e2, hf⟩ := mb0 hf
  obtain ⟨σ3, e4, hf⟩ := mb0 hf
  refine mx_callV (As := [.int (225 : Int32), .int p2]) (rest := []) hx hb hml hts hown hK hJ rfl rfl (ci := 12) rfl e2 (c_X12_square l G P a0 (225 : Int32) p2 σ σ3 e4) me_X12_square kw_2437 ks_118 kw_2435 (Nat.le_of_ble_eq_true rfl) (Nat.le_of_ble_eq_true rfl) rfl hl.1 rfl (Nat.le_of_ble_eq_true rfl) dX12_squares_5 (fun H locs hJ => ?_)
  refine lv_aload_n hx hb dX12_squares_8 rfl (lv_at hl 0 rfl) ?_
  refine lv_sipush (v := 226) hx hb dX12_squares_9 (by decide) ?_
  refine lv_iload_n hx hb dX12_squares_12 rfl (lv_at hl 2 rfl) ?_
  refine lv_iconst (v := 1) hx hb dX12_squares_13 (by decide) ?_
  refine lv_iadd hx hb dX12_squares_14 ?_
  obtain ⟨i5, e6, hf⟩ := mb0 hf
  obtain ⟨σ7, e8, hf⟩ := mb0 hf
  refine mx_callV (As := [.int (226 : Int32), .int (p2 + (1 : Int32))]) (rest := []) hx hb hml hts hown hK hJ rfl rfl (ci := 12) rfl e6 (c_X12_square l G P a0 (226 : Int32) (p2 + (1 : Int32)) σ3 σ7 e8) me_X12_square kw_2437 ks_118 kw_2435 (Nat.le_of_ble_eq_true rfl) (Nat.le_of_ble_eq_true rfl) rfl hl.1 rfl (Nat.le_of_ble_eq_true rfl) dX12_squares_15 (fun H locs hJ => ?_)
  refine lv_aload_n hx hb dX12_squares_18 rfl (lv_at hl 0 rfl) ?_
  refine lv_iload_n hx hb dX12_squares_19 rfl (lv_at hl 1 rfl) ?_
  refine lv_sipush (v := 225) hx hb dX12_squares_20 (by decide) ?_
  refine lv_sipush (v := 226) hx hb dX12_squares_23 (by decide) ?_
  obtain ⟨i9, e10, hf⟩ := mb0 hf
  obtain ⟨σ11, e12, hf⟩ := mb0 hf
  refine mx_callV (As := [.int p1, .int (225 : Int32), .int (226 : Int32)]) (rest := []) hx hb hml hts hown hK hJ rfl rfl (ci := 12) rfl e10 (c_X12_add l G P a0 p1 (225 : Int32) (226 : Int32) σ7 σ11 e12) me_X12_add kw_2421 ks_114 kw_2419 (Nat.le_of_ble_eq_true rfl) (Nat.le_of_ble_eq_true rfl) rfl hl.1 rfl (Nat.le_of_ble_eq_true rfl) dX12_squares_26 (fun H locs hJ => ?_)
  exact my_vret hx hb hr hlocks hJ hf dX12_squares_29
set_option maxHeartbeats 4000000 in
set_option maxRecDepth 100000 in
theorem c_X12_squared (l : Launch) (G : mx_G) (P : mx_P) (a0 : Nat) (p1 : Int32) (p2 : Int64) (p4 : Int64) (σ : mx_S) (σ' : mx_S) (hf : f_X12_squared P a0 p1 p2 p4 σ = some σ') : mxz σ ≤ mpc P → mxu σ ≤ mps P → mx_M l yX12_squared cX12_squared 6 none 3 73 G P [.ref a0, .int p1, .long p2, .long p4] σ none σ' := by
  intro hcap hcau
  refine mx_ofW (by decide +kernel) hcap hcau (Nat.le_of_ble_eq_true rfl) ?_
  intro p e s m below meth c hx hb hr hml hts hown hlocks hname hK hJ ls hl
  have hz0 := hJ.2.1
  have hown : s.vm.findClass RX12 = some m.cls := hown
  have hl : lv_has ls 6 [(0, .ref a0), (1, .int p1), (2, .long p2), (4, .long p4)] := hl
  unfold f_X12_squared at hf
  refine lv_aload_n hx hb dX12_squared_0 rfl (lv_at hl 0 rfl) ?_
  refine lv_iload_n hx hb dX12_squared_1 rfl (lv_at hl 1 rfl) ?_
  refine lv_lload_n hx hb dX12_squared_2 rfl (lv_at hl 2 rfl) ?_
  refine lv_lload_n hx hb dX12_squared_3 rfl (lv_at hl 2 rfl) ?_
  refine lv_lmul hx hb dX12_squared_4 ?_
  refine lv_lload hx hb dX12_squared_5 (lv_at hl 3 rfl) ?_
  refine lv_lload hx hb dX12_squared_7 (lv_at hl 3 rfl) ?_
  refine lv_lmul hx hb dX12_squared_9 ?_
  obtain ⟨i1, e2, hf⟩ := mb0 hf
  obtain ⟨σ3, e4, hf⟩ := mb0 hf
  refine mx_callV (As := [.int p1, .long (p2 * p2), .long (p4 * p4)]) (rest := []) hx hb hml hts hown hK hJ rfl rfl (ci := 12) rfl e2 (c_X12_fraction l G P a0 p1 (p2 * p2) (p4 * p4) σ σ3 e4) me_X12_fraction kw_2370 ks_105 kw_2368 (Nat.le_of_ble_eq_true rfl) (Nat.le_of_ble_eq_true rfl) rfl hl.1 rfl (Nat.le_of_ble_eq_true rfl) dX12_squared_10 (fun H locs hJ => ?_)
  exact my_vret hx hb hr hlocks hJ hf dX12_squared_13
set_option maxHeartbeats 4000000 in
set_option maxRecDepth 100000 in
theorem c_X12_askRoot (l : Launch) (G : mx_G) (P : mx_P) (a0 : Nat) (p1 : Int32) (σ : mx_S) (σ' : mx_S) (hf : f_X12_askRoot P a0 p1 σ = some σ') : mxz σ ≤ mpc P → mxu σ ≤ mps P → mx_M l yX12_askRoot cX12_askRoot 2 none 0 0 G P [.ref a0, .int p1] σ none σ' := by
  intro hcap hcau
  refine mx_ofW (by decide +kernel) hcap hcau (Nat.le_of_ble_eq_true rfl) ?_
  intro p e s m below meth c hx hb hr hml hts hown hlocks hname hK hJ ls hl
  have hz0 := hJ.2.1
  have hown : s.vm.findClass RX12 = some m.cls := hown
  have hl : lv_has ls 2 [(0, .ref a0), (1, .int p1)] := hl
  have D52 : ∀  (τ : mx_S), f_X12_askRoot_D52 P  τ = some σ' → ∀ (H : Heap) (locs : List Loc), mx_J G P s.heap (mxz σ) (mxu σ) τ H locs → ∀ ls : Array Slot, lv_has ls 2 [] → W p l e (mx_rm P 0 0 σ) s m ([.ref a0, .int p1] : List Value).toArray below meth c H locs (mxz τ - mxz σ) (mxu τ - mxu σ) (mx_Z below G P none σ σ' [.ref a0, .int p1] s) (F0 m 52 ls []) := by
    intro  τ hf _ _ hJ ls hl
    unfold f_X12_askRoot_D52 at hf
    exact my_vret hx hb hr hlocks hJ hf dX12_askRoot_52
  unfold f_X12_askRoot at hf
  refine lv_aload_n hx hb dX12_askRoot_0 rfl (lv_at hl 0 rfl) ?_
  obtain ⟨b1, e2, hf⟩ := mb0 hf
  refine my_gR hx hb hts hown hK hJ fd_RX12_20 hv_12_13 e2 dX12_askRoot_1 ?_
  refine lv_iload_n hx hb dX12_askRoot_4 rfl (lv_at hl 1 rfl) ?_
  obtain ⟨x3, e4, hf⟩ := mb0 hf
  refine mx_aZ hx hb hK hJ e4 dX12_askRoot_5 ?_
  refine lv_if_eq (tgt := 10) hx hb dX12_askRoot_6 (by decide) (fun c5 => ?_) (fun c5 => ?_)
  · rw [if_pos c5] at hf
    refine lv_aload_n hx hb dX12_askRoot_10 rfl (lv_at hl 0 rfl) ?_
    obtain ⟨b6, e7, hf⟩ := mb0 hf
    refine my_gR hx hb hts hown hK hJ fd_RX12_17 hv_12_12 e7 dX12_askRoot_11 ?_
    refine lv_iload_n hx hb dX12_askRoot_14 rfl (lv_at hl 1 rfl) ?_
    obtain ⟨x8, e9, hf⟩ := mb0 hf
    refine mx_aL hx hb hK hJ e9 dX12_askRoot_15 ?_
    refine lv_lconst (v := 0) hx hb dX12_askRoot_16 (by decide) ?_
    refine W.lcmp hx hb dX12_askRoot_17 ?_
    refine lv_if_ge (tgt := 29) hx hb dX12_askRoot_18 (by decide) (fun c10 => ?_) (fun c10 => ?_)
    · rw [if_pos c10] at hf
      refine lv_aload_n hx hb dX12_askRoot_29 rfl (lv_at hl 0 rfl) ?_
      obtain ⟨b11, e12, hf⟩ := mb0 hf
      refine my_gR hx hb hts hown hK hJ fd_RX12_13 hv_12_11 e12 dX12_askRoot_30 ?_
      refine lv_iload_n hx hb dX12_askRoot_33 rfl (lv_at hl 1 rfl) ?_
      obtain ⟨x13, e14, hf⟩ := mb0 hf
      refine mx_aL hx hb hK hJ e14 dX12_askRoot_34 ?_
      refine lv_lconst (v := 0) hx hb dX12_askRoot_35 (by decide) ?_
      refine W.lcmp hx hb dX12_askRoot_36 ?_
      refine lv_if_ge (tgt := 52) hx hb dX12_askRoot_37 (by decide) (fun c15 => ?_) (fun c15 => ?_)
      · rw [if_pos c15] at hf
        exact D52  σ hf _ _ hJ ls (lv_sub hl [] rfl)
      · rw [if_neg c15] at hf
        refine lv_aload_n hx hb dX12_askRoot_40 rfl (lv_at hl 0 rfl) ?_
        refine lv_iconst (v := 1) hx hb dX12_askRoot_41 (by decide) ?_
        obtain ⟨σ16, e17, hf⟩ := mb0 hf
        refine my_pZ hx hb hts hown hK hJ fd_RX12_503 cd_12 (Or.inl rfl) ht_12_55 e17 dX12_askRoot_42 (fun H locs hJ => ?_)
        refine lv_aload_n hx hb dX12_askRoot_45 rfl (lv_at hl 0 rfl) ?_
        obtain ⟨b18, e19, hf⟩ := mb0 hf
        refine my_gR hx hb hts hown hK hJ fd_RX12_13 hv_12_11 e19 dX12_askRoot_46 ?_
        refine lv_iload_n hx hb dX12_askRoot_49 rfl (lv_at hl 1 rfl) ?_
        refine lv_lconst (v := 0) hx hb dX12_askRoot_50 (by decide) ?_
        obtain ⟨σ20, e21, hf⟩ := mb0 hf
        refine mx_sL hx hb hK hJ e21 dX12_askRoot_51 (fun H locs hJ => ?_)
        exact D52  σ20 hf _ _ hJ ls (lv_sub hl [] rfl)
    · rw [if_neg c10] at hf
      refine lv_aload_n hx hb dX12_askRoot_21 rfl (lv_at hl 0 rfl) ?_
      refine lv_iconst (v := 1) hx hb dX12_askRoot_22 (by decide) ?_
      obtain ⟨σ22, e23, hf⟩ := mb0 hf
      refine my_pZ hx hb hts hown hK hJ fd_RX12_500 cd_12 (Or.inl rfl) ht_12_54 e23 dX12_askRoot_23 (fun H locs hJ => ?_)
      refine lv_goto (tgt := 52) hx hb dX12_askRoot_26 (by decide) ?_
      exact D52  σ22 hf _ _ hJ ls (lv_sub hl [] rfl)
  · rw [if_neg c5] at hf
    exact my_vret hx hb hr hlocks hJ hf dX12_askRoot_9
set_option maxHeartbeats 4000000 in
set_option maxRecDepth 100000 in
theorem c_X12_isMinus (l : Launch) (G : mx_G) (P : mx_P) (a0 : Nat) (p1 : Int32) (p2 : Int32) (σ : mx_S) (r : Int32) (σ' : mx_S) (hf : f_X12_isMinus P a0 p1 p2 σ = some (r, σ')) : mxz σ ≤ mpc P → mxu σ ≤ mps P → mx_M l yX12_isMinus cX12_isMinus 3 (some .boolean) 0 0 G P [.ref a0, .int p1, .int p2] σ (some (.int r)) σ' := by
  intro hcap hcau
  refine mx_ofW (by decide +kernel) hcap hcau (Nat.le_of_ble_eq_true rfl) ?_
  intro p e s m below meth c hx hb hr hml hts hown hlocks hname hK hJ ls hl
  have hz0 := hJ.2.1
  have hown : s.vm.findClass RX12 = some m.cls := hown
  have hl : lv_has ls 3 [(0, .ref a0), (1, .int p1), (2, .int p2)] := hl
  have D41 : ∀ (w0 : Int32) (τ : mx_S), f_X12_isMinus_D41 P w0 τ = some (r, σ') → ∀ (H : Heap) (locs : List Loc), mx_J G P s.heap (mxz σ) (mxu σ) τ H locs → ∀ ls : Array Slot, lv_has ls 3 [] → W p l e (mx_rm P 0 0 σ) s m ([.ref a0, .int p1, .int p2] : List Value).toArray below meth c H locs (mxz τ - mxz σ) (mxu τ - mxu σ) (mx_Z below G P (some (.int r)) σ σ' [.ref a0, .int p1, .int p2] s) (F0 m 41 ls [.int w0]) := by
    intro w0 τ hf _ _ hJ ls hl
    unfold f_X12_isMinus_D41 at hf
    exact mx_zret hx hb hr hlocks hJ hf dX12_isMinus_41
  have D36 : ∀  (τ : mx_S), f_X12_isMinus_D36 P  τ = some (r, σ') → ∀ (H : Heap) (locs : List Loc), mx_J G P s.heap (mxz σ) (mxu σ) τ H locs → ∀ ls : Array Slot, lv_has ls 3 [] → W p l e (mx_rm P 0 0 σ) s m ([.ref a0, .int p1, .int p2] : List Value).toArray below meth c H locs (mxz τ - mxz σ) (mxu τ - mxu σ) (mx_Z below G P (some (.int r)) σ σ' [.ref a0, .int p1, .int p2] s) (F0 m 36 ls []) := by
    intro  τ hf _ _ hJ ls hl
    unfold f_X12_isMinus_D36 at hf
    refine lv_iconst (v := 1) hx hb dX12_isMinus_36 (by decide) ?_
    refine lv_goto (tgt := 41) hx hb dX12_isMinus_37 (by decide) ?_
    exact D41 (1 : Int32) τ hf _ _ hJ ls (lv_sub hl [] rfl)
  have D40 : ∀  (τ : mx_S), f_X12_isMinus_D40 P  τ = some (r, σ') → ∀ (H : Heap) (locs : List Loc), mx_J G P s.heap (mxz σ) (mxu σ) τ H locs → ∀ ls : Array Slot, lv_has ls 3 [] → W p l e (mx_rm P 0 0 σ) s m ([.ref a0, .int p1, .int p2] : List Value).toArray below meth c H locs (mxz τ - mxz σ) (mxu τ - mxu σ) (mx_Z below G P (some (.int r)) σ σ' [.ref a0, .int p1, .int p2] s) (F0 m 40 ls []) := by
    intro  τ hf _ _ hJ ls hl
    unfold f_X12_isMinus_D40 at hf
    refine lv_iconst (v := 0) hx hb dX12_isMinus_40 (by decide) ?_
    exact D41 (0 : Int32) τ hf _ _ hJ ls (lv_sub hl [] rfl)
  unfold f_X12_isMinus at hf
  refine lv_aload_n hx hb dX12_isMinus_0 rfl (lv_at hl 0 rfl) ?_
  obtain ⟨b1, e2, hf⟩ := mb0 hf
  refine my_gR hx hb hts hown hK hJ fd_RX12_51 hv_12_30 e2 dX12_isMinus_1 ?_
  refine lv_iload_n hx hb dX12_isMinus_4 rfl (lv_at hl 2 rfl) ?_
  obtain ⟨x3, e4, hf⟩ := mb0 hf
  refine mx_aI hx hb hK hJ e4 dX12_isMinus_5 ?_
  refine lv_iconst (v := 1) hx hb dX12_isMinus_6 (by decide) ?_
  refine lv_icmp_eq (tgt := 36) hx hb dX12_isMinus_7 (by decide) (fun c5 => ?_) (fun c5 => ?_)
  · rw [if_pos c5] at hf
    exact D36  σ hf _ _ hJ ls (lv_sub hl [] rfl)
  · rw [if_neg c5] at hf
    refine lv_aload_n hx hb dX12_isMinus_10 rfl (lv_at hl 0 rfl) ?_
    obtain ⟨b6, e7, hf⟩ := mb0 hf
    refine my_gR hx hb hts hown hK hJ fd_RX12_51 hv_12_30 e7 dX12_isMinus_11 ?_
    refine lv_iload_n hx hb dX12_isMinus_14 rfl (lv_at hl 2 rfl) ?_
    obtain ⟨x8, e9, hf⟩ := mb0 hf
    refine mx_aI hx hb hK hJ e9 dX12_isMinus_15 ?_
    refine lv_iconst (v := 1) hx hb dX12_isMinus_16 (by decide) ?_
    refine lv_icmp_le (tgt := 40) hx hb dX12_isMinus_17 (by decide) (fun c10 => ?_) (fun c10 => ?_)
    · rw [if_pos c10] at hf
      exact D40  σ hf _ _ hJ ls (lv_sub hl [] rfl)
    · rw [if_neg c10] at hf
      refine lv_iload_n hx hb dX12_isMinus_20 rfl (lv_at hl 1 rfl) ?_
      refine lv_aload_n hx hb dX12_isMinus_21 rfl (lv_at hl 0 rfl) ?_
      obtain ⟨b11, e12, hf⟩ := mb0 hf
      refine my_gR hx hb hts hown hK hJ fd_RX12_51 hv_12_30 e12 dX12_isMinus_22 ?_
      refine lv_iload_n hx hb dX12_isMinus_25 rfl (lv_at hl 2 rfl) ?_
      obtain ⟨x13, e14, hf⟩ := mb0 hf
      refine mx_aI hx hb hK hJ e14 dX12_isMinus_26 ?_
      refine lv_iconst (v := 2) hx hb dX12_isMinus_27 (by decide) ?_
      refine lv_isub hx hb dX12_isMinus_28 ?_
      refine lv_ishr hx hb dX12_isMinus_29 ?_
      refine lv_iconst (v := 1) hx hb dX12_isMinus_30 (by decide) ?_
      refine lv_iand hx hb dX12_isMinus_31 ?_
      refine lv_iconst (v := 1) hx hb dX12_isMinus_32 (by decide) ?_
      refine lv_icmp_ne (tgt := 40) hx hb dX12_isMinus_33 (by decide) (fun c15 => ?_) (fun c15 => ?_)
      · rw [if_neg c15] at hf
        exact D40  σ hf _ _ hJ ls (lv_sub hl [] rfl)
      · rw [if_pos c15] at hf
        exact D36  σ hf _ _ hJ ls (lv_sub hl [] rfl)
set_option maxHeartbeats 4000000 in
set_option maxRecDepth 100000 in
theorem c_X12_dyadPlace (l : Launch) (G : mx_G) (P : mx_P) (a0 : Nat) (p1 : Int32) (p2 : Int32) (p3 : Int32) (p4 : Int32) (σ : mx_S) (σ' : mx_S) (hf : f_X12_dyadPlace P a0 p1 p2 p3 p4 σ = some σ') : mxz σ ≤ mpc P → mxu σ ≤ mps P → mx_M l yX12_dyadPlace cX12_dyadPlace 6 none 4 98 G P [.ref a0, .int p1, .int p2, .int p3, .int p4] σ none σ' := by
  intro hcap hcau
  refine mx_ofW (by decide +kernel) hcap hcau (Nat.le_of_ble_eq_true rfl) ?_
  intro p e s m below meth c hx hb hr hml hts hown hlocks hname hK hJ ls hl
  have hz0 := hJ.2.1
  have hown : s.vm.findClass RX12 = some m.cls := hown
  have hl : lv_has ls 6 [(0, .ref a0), (1, .int p1), (2, .int p2), (3, .int p3), (4, .int p4)] := hl
  have D330 : ∀  (τ : mx_S), f_X12_dyadPlace_D330 P  τ = some σ' → ∀ (H : Heap) (locs : List Loc), mx_J G P s.heap (mxz σ) (mxu σ) τ H locs → ∀ ls : Array Slot, lv_has ls 6 [] → W p l e (mx_rm P 4 98 σ) s m ([.ref a0, .int p1, .int p2, .int p3, .int p4] : List Value).toArray below meth c H locs (mxz τ - mxz σ) (mxu τ - mxu σ) (mx_Z below G P none σ σ' [.ref a0, .int p1, .int p2, .int p3, .int p4] s) (F0 m 330 ls []) := by
    intro  τ hf _ _ hJ ls hl
    unfold f_X12_dyadPlace_D330 at hf
    exact my_vret hx hb hr hlocks hJ hf dX12_dyadPlace_330
  unfold f_X12_dyadPlace at hf
  refine lv_iconst (v := 2) hx hb dX12_dyadPlace_0 (by decide) ?_
  refine lv_iload_n hx hb dX12_dyadPlace_1 rfl (lv_at hl 2 rfl) ?_
  refine lv_imul hx hb dX12_dyadPlace_2 ?_
  obtain ⟨x1, e2, hf⟩ := mb0 hf
  refine mx_nI e2 ?_
  refine lv_istore (lv' := [(5, .int x1), (0, .ref a0), (1, .int p1), (2, .int p2), (3, .int p3), (4, .int p4)]) hx hb dX12_dyadPlace_3 hl (by decide) rfl (fun ls hl => ?_)
  refine lv_aload_n hx hb dX12_dyadPlace_5 rfl (lv_at hl 1 rfl) ?_
  refine lv_sipush (v := 160) hx hb dX12_dyadPlace_6 (by decide) ?_
  refine lv_iload hx hb dX12_dyadPlace_9 (lv_at hl 5 rfl) ?_
  refine lv_iload_n hx hb dX12_dyadPlace_11 rfl (lv_at hl 4 rfl) ?_
  obtain ⟨i3, e4, hf⟩ := mb0 hf
  obtain ⟨σ5, e6, hf⟩ := mb0 hf
  refine mx_callV (As := [.int (160 : Int32), .int p4, .int p3]) (rest := []) hx hb hml hts hown hK hJ rfl rfl (ci := 12) rfl e4 (c_X12_between l G P a0 (160 : Int32) p4 p3 σ σ5 e6) me_X12_between kw_2429 ks_116 kw_2427 (Nat.le_of_ble_eq_true rfl) (Nat.le_of_ble_eq_true rfl) rfl hl.1 rfl (Nat.le_of_ble_eq_true rfl) dX12_dyadPlace_12 (fun H locs hJ => ?_)
  refine lv_aload_n hx hb dX12_dyadPlace_15 rfl (lv_at hl 1 rfl) ?_
  refine lv_sipush (v := 162) hx hb dX12_dyadPlace_16 (by decide) ?_
  refine lv_sipush (v := 160) hx hb dX12_dyadPlace_19 (by decide) ?_
  obtain ⟨i7, e8, hf⟩ := mb0 hf
  obtain ⟨σ9, e10, hf⟩ := mb0 hf
  refine mx_callV (As := [.int (162 : Int32), .int (160 : Int32)]) (rest := []) hx hb hml hts hown hK hJ rfl rfl (ci := 12) rfl e8 (c_X12_squares l G P a0 (162 : Int32) (160 : Int32) σ5 σ9 e10) me_X12_squares kw_2433 ks_117 kw_2431 (Nat.le_of_ble_eq_true rfl) (Nat.le_of_ble_eq_true rfl) rfl hl.1 rfl (Nat.le_of_ble_eq_true rfl) dX12_dyadPlace_22 (fun H locs hJ => ?_)
  refine lv_aload_n hx hb dX12_dyadPlace_25 rfl (lv_at hl 1 rfl) ?_
  refine lv_sipush (v := 163) hx hb dX12_dyadPlace_26 (by decide) ?_
  refine lv_aload_n hx hb dX12_dyadPlace_29 rfl (lv_at hl 1 rfl) ?_
  obtain ⟨b11, e12, hf⟩ := mb0 hf
  refine my_gR hx hb hts hown hK hJ fd_RX12_30 hv_12_23 e12 dX12_dyadPlace_30 ?_
  refine lv_iload_n hx hb dX12_dyadPlace_33 rfl (lv_at hl 3 rfl) ?_
  obtain ⟨x13, e14, hf⟩ := mb0 hf
  refine mx_aL hx hb hK hJ e14 dX12_dyadPlace_34 ?_
  refine lv_aload_n hx hb dX12_dyadPlace_35 rfl (lv_at hl 1 rfl) ?_
  obtain ⟨b15, e16, hf⟩ := mb0 hf
  refine my_gR hx hb hts hown hK hJ fd_RX12_33 hv_12_24 e16 dX12_dyadPlace_36 ?_
  refine lv_iload_n hx hb dX12_dyadPlace_39 rfl (lv_at hl 3 rfl) ?_
  obtain ⟨x17, e18, hf⟩ := mb0 hf
  refine mx_aL hx hb hK hJ e18 dX12_dyadPlace_40 ?_
  obtain ⟨i19, e20, hf⟩ := mb0 hf
  obtain ⟨σ21, e22, hf⟩ := mb0 hf
  refine mx_callV (As := [.int (163 : Int32), .long x13, .long x17]) (rest := []) hx hb hml hts hown hK hJ rfl rfl (ci := 12) rfl e20 (c_X12_squared l G P a0 (163 : Int32) x13 x17 σ9 σ21 e22) me_X12_squared kw_2441 ks_119 kw_2439 (Nat.le_of_ble_eq_true rfl) (Nat.le_of_ble_eq_true rfl) rfl hl.1 rfl (Nat.le_of_ble_eq_true rfl) dX12_dyadPlace_41 (fun H locs hJ => ?_)
  refine lv_aload_n hx hb dX12_dyadPlace_44 rfl (lv_at hl 1 rfl) ?_
  refine lv_sipush (v := 164) hx hb dX12_dyadPlace_45 (by decide) ?_
  refine lv_aload_n hx hb dX12_dyadPlace_48 rfl (lv_at hl 1 rfl) ?_
  obtain ⟨b23, e24, hf⟩ := mb0 hf
  refine my_gR hx hb hts hown hK hJ fd_RX12_36 hv_12_25 e24 dX12_dyadPlace_49 ?_
  refine lv_iload_n hx hb dX12_dyadPlace_52 rfl (lv_at hl 3 rfl) ?_
  obtain ⟨x25, e26, hf⟩ := mb0 hf
  refine mx_aL hx hb hK hJ e26 dX12_dyadPlace_53 ?_
  refine lv_aload_n hx hb dX12_dyadPlace_54 rfl (lv_at hl 1 rfl) ?_
  obtain ⟨b27, e28, hf⟩ := mb0 hf
  refine my_gR hx hb hts hown hK hJ fd_RX12_39 hv_12_26 e28 dX12_dyadPlace_55 ?_
  refine lv_iload_n hx hb dX12_dyadPlace_58 rfl (lv_at hl 3 rfl) ?_
  obtain ⟨x29, e30, hf⟩ := mb0 hf
  refine mx_aL hx hb hK hJ e30 dX12_dyadPlace_59 ?_
  obtain ⟨i31, e32, hf⟩ := mb0 hf
  obtain ⟨σ33, e34, hf⟩ := mb0 hf
  refine mx_callV (As := [.int (164 : Int32), .long x25, .long x29]) (rest := []) hx hb hml hts hown hK hJ rfl rfl (ci := 12) rfl e32 (c_X12_squared l G P a0 (164 : Int32) x25 x29 σ21 σ33 e34) me_X12_squared kw_2441 ks_119 kw_2439 (Nat.le_of_ble_eq_true rfl) (Nat.le_of_ble_eq_true rfl) rfl hl.1 rfl (Nat.le_of_ble_eq_true rfl) dX12_dyadPlace_60 (fun H locs hJ => ?_)
  refine lv_aload_n hx hb dX12_dyadPlace_63 rfl (lv_at hl 1 rfl) ?_
  refine lv_sipush (v := 165) hx hb dX12_dyadPlace_64 (by decide) ?_
  refine lv_sipush (v := 162) hx hb dX12_dyadPlace_67 (by decide) ?_
  refine lv_sipush (v := 163) hx hb dX12_dyadPlace_70 (by decide) ?_
  obtain ⟨i35, e36, hf⟩ := mb0 hf
  obtain ⟨σ37, e38, hf⟩ := mb0 hf
  refine mx_callV (As := [.int (165 : Int32), .int (162 : Int32), .int (163 : Int32)]) (rest := []) hx hb hml hts hown hK hJ rfl rfl (ci := 12) rfl e36 (c_X12_add l G P a0 (165 : Int32) (162 : Int32) (163 : Int32) σ33 σ37 e38) me_X12_add kw_2421 ks_114 kw_2419 (Nat.le_of_ble_eq_true rfl) (Nat.le_of_ble_eq_true rfl) rfl hl.1 rfl (Nat.le_of_ble_eq_true rfl) dX12_dyadPlace_73 (fun H locs hJ => ?_)
  refine lv_aload_n hx hb dX12_dyadPlace_76 rfl (lv_at hl 1 rfl) ?_
  refine lv_sipush (v := 165) hx hb dX12_dyadPlace_77 (by decide) ?_
  refine lv_sipush (v := 165) hx hb dX12_dyadPlace_80 (by decide) ?_
  refine lv_sipush (v := 164) hx hb dX12_dyadPlace_83 (by decide) ?_
  obtain ⟨i39, e40, hf⟩ := mb0 hf
  obtain ⟨σ41, e42, hf⟩ := mb0 hf
  refine mx_callV (As := [.int (165 : Int32), .int (165 : Int32), .int (164 : Int32)]) (rest := []) hx hb hml hts hown hK hJ rfl rfl (ci := 12) rfl e40 (c_X12_less l G P a0 (165 : Int32) (165 : Int32) (164 : Int32) σ37 σ41 e42) me_X12_less kw_2417 ks_113 kw_2415 (Nat.le_of_ble_eq_true rfl) (Nat.le_of_ble_eq_true rfl) rfl hl.1 rfl (Nat.le_of_ble_eq_true rfl) dX12_dyadPlace_86 (fun H locs hJ => ?_)
  refine lv_aload_n hx hb dX12_dyadPlace_89 rfl (lv_at hl 1 rfl) ?_
  refine lv_sipush (v := 165) hx hb dX12_dyadPlace_90 (by decide) ?_
  refine lv_sipush (v := 165) hx hb dX12_dyadPlace_93 (by decide) ?_
  obtain ⟨i43, e44, hf⟩ := mb0 hf
  obtain ⟨σ45, e46, hf⟩ := mb0 hf
  refine mx_callV (As := [.int (165 : Int32), .int (165 : Int32)]) (rest := []) hx hb hml hts hown hK hJ rfl rfl (ci := 12) rfl e44 (c_X12_half l G P a0 (165 : Int32) (165 : Int32) σ41 σ45 e46) me_X12_half kw_2445 ks_120 kw_2443 (Nat.le_of_ble_eq_true rfl) (Nat.le_of_ble_eq_true rfl) rfl hl.1 rfl (Nat.le_of_ble_eq_true rfl) dX12_dyadPlace_96 (fun H locs hJ => ?_)
  refine lv_aload_n hx hb dX12_dyadPlace_99 rfl (lv_at hl 1 rfl) ?_
  refine lv_sipush (v := 166) hx hb dX12_dyadPlace_100 (by decide) ?_
  refine lv_sipush (v := 165) hx hb dX12_dyadPlace_103 (by decide) ?_
  refine lv_sipush (v := 162) hx hb dX12_dyadPlace_106 (by decide) ?_
  obtain ⟨i47, e48, hf⟩ := mb0 hf
  obtain ⟨σ49, e50, hf⟩ := mb0 hf
  refine mx_callV (As := [.int (166 : Int32), .int (165 : Int32), .int (162 : Int32)]) (rest := []) hx hb hml hts hown hK hJ rfl rfl (ci := 12) rfl e48 (c_X12_divide l G P a0 (166 : Int32) (165 : Int32) (162 : Int32) σ45 σ49 e50) me_X12_divide kw_2450 ks_121 kw_2448 (Nat.le_of_ble_eq_true rfl) (Nat.le_of_ble_eq_true rfl) rfl hl.1 rfl (Nat.le_of_ble_eq_true rfl) dX12_dyadPlace_109 (fun H locs hJ => ?_)
  refine lv_aload_n hx hb dX12_dyadPlace_112 rfl (lv_at hl 1 rfl) ?_
  refine lv_sipush (v := 167) hx hb dX12_dyadPlace_113 (by decide) ?_
  refine lv_sipush (v := 165) hx hb dX12_dyadPlace_116 (by decide) ?_
  refine lv_sipush (v := 166) hx hb dX12_dyadPlace_119 (by decide) ?_
  obtain ⟨i51, e52, hf⟩ := mb0 hf
  obtain ⟨σ53, e54, hf⟩ := mb0 hf
  refine mx_callV (As := [.int (167 : Int32), .int (165 : Int32), .int (166 : Int32)]) (rest := []) hx hb hml hts hown hK hJ rfl rfl (ci := 12) rfl e52 (c_X12_multiply l G P a0 (167 : Int32) (165 : Int32) (166 : Int32) σ49 σ53 e54) me_X12_multiply kw_2407 ks_112 kw_2405 (Nat.le_of_ble_eq_true rfl) (Nat.le_of_ble_eq_true rfl) rfl hl.1 rfl (Nat.le_of_ble_eq_true rfl) dX12_dyadPlace_122 (fun H locs hJ => ?_)
  refine lv_aload_n hx hb dX12_dyadPlace_125 rfl (lv_at hl 1 rfl) ?_
  refine lv_sipush (v := 167) hx hb dX12_dyadPlace_126 (by decide) ?_
  refine lv_sipush (v := 163) hx hb dX12_dyadPlace_129 (by decide) ?_
  refine lv_sipush (v := 167) hx hb dX12_dyadPlace_132 (by decide) ?_
  obtain ⟨i55, e56, hf⟩ := mb0 hf
  obtain ⟨σ57, e58, hf⟩ := mb0 hf
  refine mx_callV (As := [.int (167 : Int32), .int (163 : Int32), .int (167 : Int32)]) (rest := []) hx hb hml hts hown hK hJ rfl rfl (ci := 12) rfl e56 (c_X12_less l G P a0 (167 : Int32) (163 : Int32) (167 : Int32) σ53 σ57 e58) me_X12_less kw_2417 ks_113 kw_2415 (Nat.le_of_ble_eq_true rfl) (Nat.le_of_ble_eq_true rfl) rfl hl.1 rfl (Nat.le_of_ble_eq_true rfl) dX12_dyadPlace_135 (fun H locs hJ => ?_)
  refine lv_aload_n hx hb dX12_dyadPlace_138 rfl (lv_at hl 1 rfl) ?_
  refine lv_sipush (v := 167) hx hb dX12_dyadPlace_139 (by decide) ?_
  obtain ⟨i59, e60, hf⟩ := mb0 hf
  obtain ⟨σ61, e62, hf⟩ := mb0 hf
  refine mx_callV (As := [.int (167 : Int32)]) (rest := []) hx hb hml hts hown hK hJ rfl rfl (ci := 12) rfl e60 (c_X12_askRoot l G P a0 (167 : Int32) σ57 σ61 e62) me_X12_askRoot kw_2454 ks_122 kw_2452 (Nat.le_of_ble_eq_true rfl) (Nat.le_of_ble_eq_true rfl) rfl hl.1 rfl (Nat.le_of_ble_eq_true rfl) dX12_dyadPlace_142 (fun H locs hJ => ?_)
  refine lv_aload_n hx hb dX12_dyadPlace_145 rfl (lv_at hl 1 rfl) ?_
  obtain ⟨x63, e64, hf⟩ := mb0 hf
  refine my_gI hx hb hts hown hK hJ fd_RX12_500 hv_12_54 e64 dX12_dyadPlace_146 ?_
  refine lv_if_eq (tgt := 153) hx hb dX12_dyadPlace_149 (by decide) (fun c65 => ?_) (fun c65 => ?_)
  · rw [if_pos c65] at hf
    refine lv_aload_n hx hb dX12_dyadPlace_153 rfl (lv_at hl 1 rfl) ?_
    refine lv_sipush (v := 168) hx hb dX12_dyadPlace_154 (by decide) ?_
    refine lv_sipush (v := 167) hx hb dX12_dyadPlace_157 (by decide) ?_
    refine lv_sipush (v := 162) hx hb dX12_dyadPlace_160 (by decide) ?_
    obtain ⟨i66, e67, hf⟩ := mb0 hf
    obtain ⟨σ68, e69, hf⟩ := mb0 hf
    refine mx_callV (As := [.int (168 : Int32), .int (167 : Int32), .int (162 : Int32)]) (rest := []) hx hb hml hts hown hK hJ rfl rfl (ci := 12) rfl e67 (c_X12_divide l G P a0 (168 : Int32) (167 : Int32) (162 : Int32) σ61 σ68 e69) me_X12_divide kw_2450 ks_121 kw_2448 (Nat.le_of_ble_eq_true rfl) (Nat.le_of_ble_eq_true rfl) rfl hl.1 rfl (Nat.le_of_ble_eq_true rfl) dX12_dyadPlace_163 (fun H locs hJ => ?_)
    refine lv_aload_n hx hb dX12_dyadPlace_166 rfl (lv_at hl 1 rfl) ?_
    refine lv_sipush (v := 168) hx hb dX12_dyadPlace_167 (by decide) ?_
    refine lv_sipush (v := 168) hx hb dX12_dyadPlace_170 (by decide) ?_
    obtain ⟨i70, e71, hf⟩ := mb0 hf
    obtain ⟨σ72, e73, hf⟩ := mb0 hf
    refine mx_callV (As := [.int (168 : Int32), .int (168 : Int32)]) (rest := []) hx hb hml hts hown hK hJ rfl rfl (ci := 12) rfl e71 (c_X12_rootOf l G P a0 (168 : Int32) (168 : Int32) σ68 σ72 e73) me_X12_rootOf kw_2458 ks_123 kw_2456 (Nat.le_of_ble_eq_true rfl) (Nat.le_of_ble_eq_true rfl) rfl hl.1 rfl (Nat.le_of_ble_eq_true rfl) dX12_dyadPlace_173 (fun H locs hJ => ?_)
    refine lv_aload_n hx hb dX12_dyadPlace_176 rfl (lv_at hl 1 rfl) ?_
    refine lv_sipush (v := 169) hx hb dX12_dyadPlace_177 (by decide) ?_
    refine lv_sipush (v := 161) hx hb dX12_dyadPlace_180 (by decide) ?_
    obtain ⟨i74, e75, hf⟩ := mb0 hf
    obtain ⟨σ76, e77, hf⟩ := mb0 hf
    refine mx_callV (As := [.int (169 : Int32), .int (161 : Int32)]) (rest := []) hx hb hml hts hown hK hJ rfl rfl (ci := 12) rfl e75 (c_X12_turned l G P a0 (169 : Int32) (161 : Int32) σ72 σ76 e77) me_X12_turned kw_2395 ks_109 kw_2393 (Nat.le_of_ble_eq_true rfl) (Nat.le_of_ble_eq_true rfl) rfl hl.1 rfl (Nat.le_of_ble_eq_true rfl) dX12_dyadPlace_183 (fun H locs hJ => ?_)
    refine lv_aload_n hx hb dX12_dyadPlace_186 rfl (lv_at hl 1 rfl) ?_
    refine lv_sipush (v := 169) hx hb dX12_dyadPlace_187 (by decide) ?_
    refine lv_sipush (v := 168) hx hb dX12_dyadPlace_190 (by decide) ?_
    refine lv_sipush (v := 169) hx hb dX12_dyadPlace_193 (by decide) ?_
    obtain ⟨i78, e79, hf⟩ := mb0 hf
    obtain ⟨σ80, e81, hf⟩ := mb0 hf
    refine mx_callV (As := [.int (169 : Int32), .int (168 : Int32), .int (169 : Int32)]) (rest := []) hx hb hml hts hown hK hJ rfl rfl (ci := 12) rfl e79 (c_X12_multiply l G P a0 (169 : Int32) (168 : Int32) (169 : Int32) σ76 σ80 e81) me_X12_multiply kw_2407 ks_112 kw_2405 (Nat.le_of_ble_eq_true rfl) (Nat.le_of_ble_eq_true rfl) rfl hl.1 rfl (Nat.le_of_ble_eq_true rfl) dX12_dyadPlace_196 (fun H locs hJ => ?_)
    refine lv_aload_n hx hb dX12_dyadPlace_199 rfl (lv_at hl 1 rfl) ?_
    refine lv_sipush (v := 170) hx hb dX12_dyadPlace_200 (by decide) ?_
    refine lv_sipush (v := 168) hx hb dX12_dyadPlace_203 (by decide) ?_
    refine lv_sipush (v := 160) hx hb dX12_dyadPlace_206 (by decide) ?_
    obtain ⟨i82, e83, hf⟩ := mb0 hf
    obtain ⟨σ84, e85, hf⟩ := mb0 hf
    refine mx_callV (As := [.int (170 : Int32), .int (168 : Int32), .int (160 : Int32)]) (rest := []) hx hb hml hts hown hK hJ rfl rfl (ci := 12) rfl e83 (c_X12_multiply l G P a0 (170 : Int32) (168 : Int32) (160 : Int32) σ80 σ84 e85) me_X12_multiply kw_2407 ks_112 kw_2405 (Nat.le_of_ble_eq_true rfl) (Nat.le_of_ble_eq_true rfl) rfl hl.1 rfl (Nat.le_of_ble_eq_true rfl) dX12_dyadPlace_209 (fun H locs hJ => ?_)
    refine lv_aload_n hx hb dX12_dyadPlace_212 rfl (lv_at hl 1 rfl) ?_
    refine lv_sipush (v := 171) hx hb dX12_dyadPlace_213 (by decide) ?_
    refine lv_sipush (v := 166) hx hb dX12_dyadPlace_216 (by decide) ?_
    refine lv_sipush (v := 160) hx hb dX12_dyadPlace_219 (by decide) ?_
    obtain ⟨i86, e87, hf⟩ := mb0 hf
    obtain ⟨σ88, e89, hf⟩ := mb0 hf
    refine mx_callV (As := [.int (171 : Int32), .int (166 : Int32), .int (160 : Int32)]) (rest := []) hx hb hml hts hown hK hJ rfl rfl (ci := 12) rfl e87 (c_X12_multiply l G P a0 (171 : Int32) (166 : Int32) (160 : Int32) σ84 σ88 e89) me_X12_multiply kw_2407 ks_112 kw_2405 (Nat.le_of_ble_eq_true rfl) (Nat.le_of_ble_eq_true rfl) rfl hl.1 rfl (Nat.le_of_ble_eq_true rfl) dX12_dyadPlace_222 (fun H locs hJ => ?_)
    refine lv_aload_n hx hb dX12_dyadPlace_225 rfl (lv_at hl 1 rfl) ?_
    refine lv_sipush (v := 172) hx hb dX12_dyadPlace_226 (by decide) ?_
    refine lv_sipush (v := 166) hx hb dX12_dyadPlace_229 (by decide) ?_
    refine lv_sipush (v := 161) hx hb dX12_dyadPlace_232 (by decide) ?_
    obtain ⟨i90, e91, hf⟩ := mb0 hf
    obtain ⟨σ92, e93, hf⟩ := mb0 hf
    refine mx_callV (As := [.int (172 : Int32), .int (166 : Int32), .int (161 : Int32)]) (rest := []) hx hb hml hts hown hK hJ rfl rfl (ci := 12) rfl e91 (c_X12_multiply l G P a0 (172 : Int32) (166 : Int32) (161 : Int32) σ88 σ92 e93) me_X12_multiply kw_2407 ks_112 kw_2405 (Nat.le_of_ble_eq_true rfl) (Nat.le_of_ble_eq_true rfl) rfl hl.1 rfl (Nat.le_of_ble_eq_true rfl) dX12_dyadPlace_235 (fun H locs hJ => ?_)
    refine lv_aload_n hx hb dX12_dyadPlace_238 rfl (lv_at hl 1 rfl) ?_
    refine lv_sipush (v := 171) hx hb dX12_dyadPlace_239 (by decide) ?_
    refine lv_iconst (v := 2) hx hb dX12_dyadPlace_242 (by decide) ?_
    refine lv_iload_n hx hb dX12_dyadPlace_243 rfl (lv_at hl 4 rfl) ?_
    refine lv_imul hx hb dX12_dyadPlace_244 ?_
    refine lv_sipush (v := 171) hx hb dX12_dyadPlace_245 (by decide) ?_
    obtain ⟨i94, e95, hf⟩ := mb0 hf
    obtain ⟨σ96, e97, hf⟩ := mb0 hf
    refine mx_callV (As := [.int (171 : Int32), .int ((2 : Int32) * p3), .int (171 : Int32)]) (rest := []) hx hb hml hts hown hK hJ rfl rfl (ci := 12) rfl e95 (c_X12_add l G P a0 (171 : Int32) ((2 : Int32) * p3) (171 : Int32) σ92 σ96 e97) me_X12_add kw_2421 ks_114 kw_2419 (Nat.le_of_ble_eq_true rfl) (Nat.le_of_ble_eq_true rfl) rfl hl.1 rfl (Nat.le_of_ble_eq_true rfl) dX12_dyadPlace_248 (fun H locs hJ => ?_)
    refine lv_aload_n hx hb dX12_dyadPlace_251 rfl (lv_at hl 1 rfl) ?_
    refine lv_sipush (v := 172) hx hb dX12_dyadPlace_252 (by decide) ?_
    refine lv_iconst (v := 2) hx hb dX12_dyadPlace_255 (by decide) ?_
    refine lv_iload_n hx hb dX12_dyadPlace_256 rfl (lv_at hl 4 rfl) ?_
    refine lv_imul hx hb dX12_dyadPlace_257 ?_
    refine lv_iconst (v := 1) hx hb dX12_dyadPlace_258 (by decide) ?_
    refine lv_iadd hx hb dX12_dyadPlace_259 ?_
    refine lv_sipush (v := 172) hx hb dX12_dyadPlace_260 (by decide) ?_
    obtain ⟨i98, e99, hf⟩ := mb0 hf
    obtain ⟨σ100, e101, hf⟩ := mb0 hf
    refine mx_callV (As := [.int (172 : Int32), .int (((2 : Int32) * p3) + (1 : Int32)), .int (172 : Int32)]) (rest := []) hx hb hml hts hown hK hJ rfl rfl (ci := 12) rfl e99 (c_X12_add l G P a0 (172 : Int32) (((2 : Int32) * p3) + (1 : Int32)) (172 : Int32) σ96 σ100 e101) me_X12_add kw_2421 ks_114 kw_2419 (Nat.le_of_ble_eq_true rfl) (Nat.le_of_ble_eq_true rfl) rfl hl.1 rfl (Nat.le_of_ble_eq_true rfl) dX12_dyadPlace_263 (fun H locs hJ => ?_)
    refine lv_aload_n hx hb dX12_dyadPlace_266 rfl (lv_at hl 1 rfl) ?_
    refine lv_iload_n hx hb dX12_dyadPlace_267 rfl (lv_at hl 2 rfl) ?_
    refine lv_iload_n hx hb dX12_dyadPlace_268 rfl (lv_at hl 3 rfl) ?_
    obtain ⟨i102, e103, hf⟩ := mb0 hf
    obtain ⟨x105, σ104, e106, hf⟩ := mc0 hf
    refine mx_callV (As := [.int p1, .int p2]) (rest := []) hx hb hml hts hown hK hJ rfl rfl (ci := 12) rfl e103 (c_X12_isMinus l G P a0 p1 p2 σ100 x105 σ104 e106) me_X12_isMinus kw_2465 ks_124 kw_2463 (Nat.le_of_ble_eq_true rfl) (Nat.le_of_ble_eq_true rfl) rfl hl.1 rfl (Nat.le_of_ble_eq_true rfl) dX12_dyadPlace_269 (fun H locs hJ => ?_)
    refine lv_if_eq (tgt := 304) hx hb dX12_dyadPlace_272 (by decide) (fun c107 => ?_) (fun c107 => ?_)
    · rw [if_pos c107] at hf
      refine lv_aload_n hx hb dX12_dyadPlace_304 rfl (lv_at hl 1 rfl) ?_
      refine lv_iload hx hb dX12_dyadPlace_305 (lv_at hl 0 rfl) ?_
      refine lv_sipush (v := 171) hx hb dX12_dyadPlace_307 (by decide) ?_
      refine lv_sipush (v := 169) hx hb dX12_dyadPlace_310 (by decide) ?_
      obtain ⟨i108, e109, hf⟩ := mb0 hf
      obtain ⟨σ110, e111, hf⟩ := mb0 hf
      refine mx_callV (As := [.int x1, .int (171 : Int32), .int (169 : Int32)]) (rest := []) hx hb hml hts hown hK hJ rfl rfl (ci := 12) rfl e109 (c_X12_add l G P a0 x1 (171 : Int32) (169 : Int32) σ104 σ110 e111) me_X12_add kw_2421 ks_114 kw_2419 (Nat.le_of_ble_eq_true rfl) (Nat.le_of_ble_eq_true rfl) rfl hl.1 rfl (Nat.le_of_ble_eq_true rfl) dX12_dyadPlace_313 (fun H locs hJ => ?_)
      refine lv_aload_n hx hb dX12_dyadPlace_316 rfl (lv_at hl 1 rfl) ?_
      refine lv_iload hx hb dX12_dyadPlace_317 (lv_at hl 0 rfl) ?_
      refine lv_iconst (v := 1) hx hb dX12_dyadPlace_319 (by decide) ?_
      refine lv_iadd hx hb dX12_dyadPlace_320 ?_
      refine lv_sipush (v := 172) hx hb dX12_dyadPlace_321 (by decide) ?_
      refine lv_sipush (v := 170) hx hb dX12_dyadPlace_324 (by decide) ?_
      obtain ⟨i112, e113, hf⟩ := mb0 hf
      obtain ⟨σ114, e115, hf⟩ := mb0 hf
      refine mx_callV (As := [.int (x1 + (1 : Int32)), .int (172 : Int32), .int (170 : Int32)]) (rest := []) hx hb hml hts hown hK hJ rfl rfl (ci := 12) rfl e113 (c_X12_add l G P a0 (x1 + (1 : Int32)) (172 : Int32) (170 : Int32) σ110 σ114 e115) me_X12_add kw_2421 ks_114 kw_2419 (Nat.le_of_ble_eq_true rfl) (Nat.le_of_ble_eq_true rfl) rfl hl.1 rfl (Nat.le_of_ble_eq_true rfl) dX12_dyadPlace_327 (fun H locs hJ => ?_)
      exact D330  σ114 hf _ _ hJ ls (lv_sub hl [] rfl)
    · rw [if_neg c107] at hf
      refine lv_aload_n hx hb dX12_dyadPlace_275 rfl (lv_at hl 1 rfl) ?_
      refine lv_iload hx hb dX12_dyadPlace_276 (lv_at hl 0 rfl) ?_
      refine lv_sipush (v := 171) hx hb dX12_dyadPlace_278 (by decide) ?_
      refine lv_sipush (v := 169) hx hb dX12_dyadPlace_281 (by decide) ?_
      obtain ⟨i116, e117, hf⟩ := mb0 hf
      obtain ⟨σ118, e119, hf⟩ := mb0 hf
      refine mx_callV (As := [.int x1, .int (171 : Int32), .int (169 : Int32)]) (rest := []) hx hb hml hts hown hK hJ rfl rfl (ci := 12) rfl e117 (c_X12_less l G P a0 x1 (171 : Int32) (169 : Int32) σ104 σ118 e119) me_X12_less kw_2417 ks_113 kw_2415 (Nat.le_of_ble_eq_true rfl) (Nat.le_of_ble_eq_true rfl) rfl hl.1 rfl (Nat.le_of_ble_eq_true rfl) dX12_dyadPlace_284 (fun H locs hJ => ?_)
      refine lv_aload_n hx hb dX12_dyadPlace_287 rfl (lv_at hl 1 rfl) ?_
      refine lv_iload hx hb dX12_dyadPlace_288 (lv_at hl 0 rfl) ?_
      refine lv_iconst (v := 1) hx hb dX12_dyadPlace_290 (by decide) ?_
      refine lv_iadd hx hb dX12_dyadPlace_291 ?_
      refine lv_sipush (v := 172) hx hb dX12_dyadPlace_292 (by decide) ?_
      refine lv_sipush (v := 170) hx hb dX12_dyadPlace_295 (by decide) ?_
      obtain ⟨i120, e121, hf⟩ := mb0 hf
      obtain ⟨σ122, e123, hf⟩ := mb0 hf
      refine mx_callV (As := [.int (x1 + (1 : Int32)), .int (172 : Int32), .int (170 : Int32)]) (rest := []) hx hb hml hts hown hK hJ rfl rfl (ci := 12) rfl e121 (c_X12_less l G P a0 (x1 + (1 : Int32)) (172 : Int32) (170 : Int32) σ118 σ122 e123) me_X12_less kw_2417 ks_113 kw_2415 (Nat.le_of_ble_eq_true rfl) (Nat.le_of_ble_eq_true rfl) rfl hl.1 rfl (Nat.le_of_ble_eq_true rfl) dX12_dyadPlace_298 (fun H locs hJ => ?_)
      refine lv_goto (tgt := 330) hx hb dX12_dyadPlace_301 (by decide) ?_
      exact D330  σ122 hf _ _ hJ ls (lv_sub hl [] rfl)
  · rw [if_neg c65] at hf
    exact my_vret hx hb hr hlocks hJ hf dX12_dyadPlace_152
set_option maxHeartbeats 4000000 in
set_option maxRecDepth 100000 in
theorem c_X12_slidePlace (l : Launch) (G : mx_G) (P : mx_P) (a0 : Nat) (p1 : Int32) (p2 : Int32) (p3 : Int32) (p4 : Int32) (p5 : Int32) (σ : mx_S) (σ' : mx_S) (hf : f_X12_slidePlace P a0 p1 p2 p3 p4 p5 σ = some σ') : mxz σ ≤ mpc P → mxu σ ≤ mps P → mx_M l yX12_slidePlace cX12_slidePlace 7 none 4 106 G P [.ref a0, .int p1, .int p2, .int p3, .int p4, .int p5] σ none σ' := by
  intro hcap hcau
  refine mx_ofW (by decide +kernel) hcap hcau (Nat.le_of_ble_eq_true rfl) ?_
  intro p e s m below meth c hx hb hr hml hts hown hlocks hname hK hJ ls hl
  have hz0 := hJ.2.1
  have hown : s.vm.findClass RX12 = some m.cls := hown
  have hl : lv_has ls 7 [(0, .ref a0), (1, .int p1), (2, .int p2), (3, .int p3), (4, .int p4), (5, .int p5)] := hl
  have D216 : ∀ (v0 : Nat) (v4 : Int32) (v6 : Int32) (τ : mx_S), f_X12_slidePlace_D216 P v0 v4 v6 τ = some σ' → ∀ (H : Heap) (locs : List Loc), mx_J G P s.heap (mxz σ) (mxu σ) τ H locs → ∀ ls : Array Slot, lv_has ls 7 [(0, .ref v0), (4, .int v4), (6, .int v6)] → W p l e (mx_rm P 4 106 σ) s m ([.ref a0, .int p1, .int p2, .int p3, .int p4, .int p5] : List Value).toArray below meth c H locs (mxz τ - mxz σ) (mxu τ - mxu σ) (mx_Z below G P none σ σ' [.ref a0, .int p1, .int p2, .int p3, .int p4, .int p5] s) (F0 m 216 ls []) := by
    intro v0 v4 v6 τ hf _ _ hJ ls hl
    unfold f_X12_slidePlace_D216 at hf
    refine lv_aload_n hx hb dX12_slidePlace_216 rfl (lv_at hl 0 rfl) ?_
    refine lv_sipush (v := 171) hx hb dX12_slidePlace_217 (by decide) ?_
    refine lv_sipush (v := 170) hx hb dX12_slidePlace_220 (by decide) ?_
    refine lv_sipush (v := 160) hx hb dX12_slidePlace_223 (by decide) ?_
    obtain ⟨i80, e81, hf⟩ := mb0 hf
    obtain ⟨σ82, e83, hf⟩ := mb0 hf
    refine mx_callV (As := [.int (171 : Int32), .int (170 : Int32), .int (160 : Int32)]) (rest := []) hx hb hml hts hown hK hJ rfl rfl (ci := 12) rfl e81 (c_X12_multiply l G P v0 (171 : Int32) (170 : Int32) (160 : Int32) τ σ82 e83) me_X12_multiply kw_2407 ks_112 kw_2405 (Nat.le_of_ble_eq_true rfl) (Nat.le_of_ble_eq_true rfl) rfl hl.1 rfl (Nat.le_of_ble_eq_true rfl) dX12_slidePlace_226 (fun H locs hJ => ?_)
    refine lv_aload_n hx hb dX12_slidePlace_229 rfl (lv_at hl 0 rfl) ?_
    refine lv_sipush (v := 172) hx hb dX12_slidePlace_230 (by decide) ?_
    refine lv_sipush (v := 170) hx hb dX12_slidePlace_233 (by decide) ?_
    refine lv_sipush (v := 161) hx hb dX12_slidePlace_236 (by decide) ?_
    obtain ⟨i84, e85, hf⟩ := mb0 hf
    obtain ⟨σ86, e87, hf⟩ := mb0 hf
    refine mx_callV (As := [.int (172 : Int32), .int (170 : Int32), .int (161 : Int32)]) (rest := []) hx hb hml hts hown hK hJ rfl rfl (ci := 12) rfl e85 (c_X12_multiply l G P v0 (172 : Int32) (170 : Int32) (161 : Int32) σ82 σ86 e87) me_X12_multiply kw_2407 ks_112 kw_2405 (Nat.le_of_ble_eq_true rfl) (Nat.le_of_ble_eq_true rfl) rfl hl.1 rfl (Nat.le_of_ble_eq_true rfl) dX12_slidePlace_239 (fun H locs hJ => ?_)
    refine lv_aload_n hx hb dX12_slidePlace_242 rfl (lv_at hl 0 rfl) ?_
    refine lv_iload hx hb dX12_slidePlace_243 (lv_at hl 2 rfl) ?_
    refine lv_iconst (v := 2) hx hb dX12_slidePlace_245 (by decide) ?_
    refine lv_iload hx hb dX12_slidePlace_246 (lv_at hl 1 rfl) ?_
    refine lv_imul hx hb dX12_slidePlace_248 ?_
    refine lv_sipush (v := 171) hx hb dX12_slidePlace_249 (by decide) ?_
    obtain ⟨i88, e89, hf⟩ := mb0 hf
    obtain ⟨σ90, e91, hf⟩ := mb0 hf
    refine mx_callV (As := [.int v6, .int ((2 : Int32) * v4), .int (171 : Int32)]) (rest := []) hx hb hml hts hown hK hJ rfl rfl (ci := 12) rfl e89 (c_X12_add l G P v0 v6 ((2 : Int32) * v4) (171 : Int32) σ86 σ90 e91) me_X12_add kw_2421 ks_114 kw_2419 (Nat.le_of_ble_eq_true rfl) (Nat.le_of_ble_eq_true rfl) rfl hl.1 rfl (Nat.le_of_ble_eq_true rfl) dX12_slidePlace_252 (fun H locs hJ => ?_)
    refine lv_aload_n hx hb dX12_slidePlace_255 rfl (lv_at hl 0 rfl) ?_
    refine lv_iload hx hb dX12_slidePlace_256 (lv_at hl 2 rfl) ?_
    refine lv_iconst (v := 1) hx hb dX12_slidePlace_258 (by decide) ?_
    refine lv_iadd hx hb dX12_slidePlace_259 ?_
    refine lv_iconst (v := 2) hx hb dX12_slidePlace_260 (by decide) ?_
    refine lv_iload hx hb dX12_slidePlace_261 (lv_at hl 1 rfl) ?_
    refine lv_imul hx hb dX12_slidePlace_263 ?_
    refine lv_iconst (v := 1) hx hb dX12_slidePlace_264 (by decide) ?_
    refine lv_iadd hx hb dX12_slidePlace_265 ?_
    refine lv_sipush (v := 172) hx hb dX12_slidePlace_266 (by decide) ?_
    obtain ⟨i92, e93, hf⟩ := mb0 hf
    obtain ⟨σ94, e95, hf⟩ := mb0 hf
    refine mx_callV (As := [.int (v6 + (1 : Int32)), .int (((2 : Int32) * v4) + (1 : Int32)), .int (172 : Int32)]) (rest := []) hx hb hml hts hown hK hJ rfl rfl (ci := 12) rfl e93 (c_X12_add l G P v0 (v6 + (1 : Int32)) (((2 : Int32) * v4) + (1 : Int32)) (172 : Int32) σ90 σ94 e95) me_X12_add kw_2421 ks_114 kw_2419 (Nat.le_of_ble_eq_true rfl) (Nat.le_of_ble_eq_true rfl) rfl hl.1 rfl (Nat.le_of_ble_eq_true rfl) dX12_slidePlace_269 (fun H locs hJ => ?_)
    exact my_vret hx hb hr hlocks hJ hf dX12_slidePlace_272
  unfold f_X12_slidePlace at hf
  refine lv_iconst (v := 2) hx hb dX12_slidePlace_0 (by decide) ?_
  refine lv_iload_n hx hb dX12_slidePlace_1 rfl (lv_at hl 2 rfl) ?_
  refine lv_imul hx hb dX12_slidePlace_2 ?_
  obtain ⟨x1, e2, hf⟩ := mb0 hf
  refine mx_nI e2 ?_
  refine lv_istore (lv' := [(6, .int x1), (0, .ref a0), (1, .int p1), (2, .int p2), (3, .int p3), (4, .int p4), (5, .int p5)]) hx hb dX12_slidePlace_3 hl (by decide) rfl (fun ls hl => ?_)
  refine lv_aload_n hx hb dX12_slidePlace_5 rfl (lv_at hl 1 rfl) ?_
  refine lv_sipush (v := 160) hx hb dX12_slidePlace_6 (by decide) ?_
  refine lv_iload hx hb dX12_slidePlace_9 (lv_at hl 6 rfl) ?_
  refine lv_iload hx hb dX12_slidePlace_11 (lv_at hl 5 rfl) ?_
  obtain ⟨i3, e4, hf⟩ := mb0 hf
  obtain ⟨σ5, e6, hf⟩ := mb0 hf
  refine mx_callV (As := [.int (160 : Int32), .int p5, .int p4]) (rest := []) hx hb hml hts hown hK hJ rfl rfl (ci := 12) rfl e4 (c_X12_between l G P a0 (160 : Int32) p5 p4 σ σ5 e6) me_X12_between kw_2429 ks_116 kw_2427 (Nat.le_of_ble_eq_true rfl) (Nat.le_of_ble_eq_true rfl) rfl hl.1 rfl (Nat.le_of_ble_eq_true rfl) dX12_slidePlace_13 (fun H locs hJ => ?_)
  refine lv_aload_n hx hb dX12_slidePlace_16 rfl (lv_at hl 1 rfl) ?_
  refine lv_sipush (v := 162) hx hb dX12_slidePlace_17 (by decide) ?_
  refine lv_sipush (v := 160) hx hb dX12_slidePlace_20 (by decide) ?_
  obtain ⟨i7, e8, hf⟩ := mb0 hf
  obtain ⟨σ9, e10, hf⟩ := mb0 hf
  refine mx_callV (As := [.int (162 : Int32), .int (160 : Int32)]) (rest := []) hx hb hml hts hown hK hJ rfl rfl (ci := 12) rfl e8 (c_X12_squares l G P a0 (162 : Int32) (160 : Int32) σ5 σ9 e10) me_X12_squares kw_2433 ks_117 kw_2431 (Nat.le_of_ble_eq_true rfl) (Nat.le_of_ble_eq_true rfl) rfl hl.1 rfl (Nat.le_of_ble_eq_true rfl) dX12_slidePlace_23 (fun H locs hJ => ?_)
  refine lv_aload_n hx hb dX12_slidePlace_26 rfl (lv_at hl 1 rfl) ?_
  refine lv_sipush (v := 163) hx hb dX12_slidePlace_27 (by decide) ?_
  refine lv_iload hx hb dX12_slidePlace_30 (lv_at hl 5 rfl) ?_
  refine lv_iload_n hx hb dX12_slidePlace_32 rfl (lv_at hl 4 rfl) ?_
  obtain ⟨i11, e12, hf⟩ := mb0 hf
  obtain ⟨σ13, e14, hf⟩ := mb0 hf
  refine mx_callV (As := [.int (163 : Int32), .int p4, .int p3]) (rest := []) hx hb hml hts hown hK hJ rfl rfl (ci := 12) rfl e12 (c_X12_between l G P a0 (163 : Int32) p4 p3 σ9 σ13 e14) me_X12_between kw_2429 ks_116 kw_2427 (Nat.le_of_ble_eq_true rfl) (Nat.le_of_ble_eq_true rfl) rfl hl.1 rfl (Nat.le_of_ble_eq_true rfl) dX12_slidePlace_33 (fun H locs hJ => ?_)
  refine lv_aload_n hx hb dX12_slidePlace_36 rfl (lv_at hl 1 rfl) ?_
  refine lv_sipush (v := 165) hx hb dX12_slidePlace_37 (by decide) ?_
  refine lv_sipush (v := 163) hx hb dX12_slidePlace_40 (by decide) ?_
  refine lv_sipush (v := 160) hx hb dX12_slidePlace_43 (by decide) ?_
  obtain ⟨i15, e16, hf⟩ := mb0 hf
  obtain ⟨σ17, e18, hf⟩ := mb0 hf
  refine mx_callV (As := [.int (165 : Int32), .int (163 : Int32), .int (160 : Int32)]) (rest := []) hx hb hml hts hown hK hJ rfl rfl (ci := 12) rfl e16 (c_X12_dot l G P a0 (165 : Int32) (163 : Int32) (160 : Int32) σ13 σ17 e18) me_X12_dot kw_2473 ks_126 kw_2471 (Nat.le_of_ble_eq_true rfl) (Nat.le_of_ble_eq_true rfl) rfl hl.1 rfl (Nat.le_of_ble_eq_true rfl) dX12_slidePlace_46 (fun H locs hJ => ?_)
  refine lv_aload_n hx hb dX12_slidePlace_49 rfl (lv_at hl 1 rfl) ?_
  refine lv_sipush (v := 166) hx hb dX12_slidePlace_50 (by decide) ?_
  refine lv_sipush (v := 165) hx hb dX12_slidePlace_53 (by decide) ?_
  obtain ⟨i19, e20, hf⟩ := mb0 hf
  obtain ⟨σ21, e22, hf⟩ := mb0 hf
  refine mx_callV (As := [.int (166 : Int32), .int (165 : Int32)]) (rest := []) hx hb hml hts hown hK hJ rfl rfl (ci := 12) rfl e20 (c_X12_turned l G P a0 (166 : Int32) (165 : Int32) σ17 σ21 e22) me_X12_turned kw_2395 ks_109 kw_2393 (Nat.le_of_ble_eq_true rfl) (Nat.le_of_ble_eq_true rfl) rfl hl.1 rfl (Nat.le_of_ble_eq_true rfl) dX12_slidePlace_56 (fun H locs hJ => ?_)
  refine lv_aload_n hx hb dX12_slidePlace_59 rfl (lv_at hl 1 rfl) ?_
  refine lv_sipush (v := 166) hx hb dX12_slidePlace_60 (by decide) ?_
  refine lv_sipush (v := 166) hx hb dX12_slidePlace_63 (by decide) ?_
  refine lv_sipush (v := 162) hx hb dX12_slidePlace_66 (by decide) ?_
  obtain ⟨i23, e24, hf⟩ := mb0 hf
  obtain ⟨σ25, e26, hf⟩ := mb0 hf
  refine mx_callV (As := [.int (166 : Int32), .int (166 : Int32), .int (162 : Int32)]) (rest := []) hx hb hml hts hown hK hJ rfl rfl (ci := 12) rfl e24 (c_X12_divide l G P a0 (166 : Int32) (166 : Int32) (162 : Int32) σ21 σ25 e26) me_X12_divide kw_2450 ks_121 kw_2448 (Nat.le_of_ble_eq_true rfl) (Nat.le_of_ble_eq_true rfl) rfl hl.1 rfl (Nat.le_of_ble_eq_true rfl) dX12_slidePlace_69 (fun H locs hJ => ?_)
  refine lv_aload_n hx hb dX12_slidePlace_72 rfl (lv_at hl 1 rfl) ?_
  refine lv_sipush (v := 167) hx hb dX12_slidePlace_73 (by decide) ?_
  refine lv_sipush (v := 163) hx hb dX12_slidePlace_76 (by decide) ?_
  obtain ⟨i27, e28, hf⟩ := mb0 hf
  obtain ⟨σ29, e30, hf⟩ := mb0 hf
  refine mx_callV (As := [.int (167 : Int32), .int (163 : Int32)]) (rest := []) hx hb hml hts hown hK hJ rfl rfl (ci := 12) rfl e28 (c_X12_squares l G P a0 (167 : Int32) (163 : Int32) σ25 σ29 e30) me_X12_squares kw_2433 ks_117 kw_2431 (Nat.le_of_ble_eq_true rfl) (Nat.le_of_ble_eq_true rfl) rfl hl.1 rfl (Nat.le_of_ble_eq_true rfl) dX12_slidePlace_79 (fun H locs hJ => ?_)
  refine lv_aload_n hx hb dX12_slidePlace_82 rfl (lv_at hl 1 rfl) ?_
  refine lv_sipush (v := 168) hx hb dX12_slidePlace_83 (by decide) ?_
  refine lv_sipush (v := 165) hx hb dX12_slidePlace_86 (by decide) ?_
  refine lv_sipush (v := 166) hx hb dX12_slidePlace_89 (by decide) ?_
  obtain ⟨i31, e32, hf⟩ := mb0 hf
  obtain ⟨σ33, e34, hf⟩ := mb0 hf
  refine mx_callV (As := [.int (168 : Int32), .int (165 : Int32), .int (166 : Int32)]) (rest := []) hx hb hml hts hown hK hJ rfl rfl (ci := 12) rfl e32 (c_X12_multiply l G P a0 (168 : Int32) (165 : Int32) (166 : Int32) σ29 σ33 e34) me_X12_multiply kw_2407 ks_112 kw_2405 (Nat.le_of_ble_eq_true rfl) (Nat.le_of_ble_eq_true rfl) rfl hl.1 rfl (Nat.le_of_ble_eq_true rfl) dX12_slidePlace_92 (fun H locs hJ => ?_)
  refine lv_aload_n hx hb dX12_slidePlace_95 rfl (lv_at hl 1 rfl) ?_
  refine lv_sipush (v := 167) hx hb dX12_slidePlace_96 (by decide) ?_
  refine lv_sipush (v := 167) hx hb dX12_slidePlace_99 (by decide) ?_
  refine lv_sipush (v := 168) hx hb dX12_slidePlace_102 (by decide) ?_
  obtain ⟨i35, e36, hf⟩ := mb0 hf
  obtain ⟨σ37, e38, hf⟩ := mb0 hf
  refine mx_callV (As := [.int (167 : Int32), .int (167 : Int32), .int (168 : Int32)]) (rest := []) hx hb hml hts hown hK hJ rfl rfl (ci := 12) rfl e36 (c_X12_add l G P a0 (167 : Int32) (167 : Int32) (168 : Int32) σ33 σ37 e38) me_X12_add kw_2421 ks_114 kw_2419 (Nat.le_of_ble_eq_true rfl) (Nat.le_of_ble_eq_true rfl) rfl hl.1 rfl (Nat.le_of_ble_eq_true rfl) dX12_slidePlace_105 (fun H locs hJ => ?_)
  refine lv_aload_n hx hb dX12_slidePlace_108 rfl (lv_at hl 1 rfl) ?_
  refine lv_sipush (v := 169) hx hb dX12_slidePlace_109 (by decide) ?_
  refine lv_aload_n hx hb dX12_slidePlace_112 rfl (lv_at hl 1 rfl) ?_
  obtain ⟨b39, e40, hf⟩ := mb0 hf
  refine my_gR hx hb hts hown hK hJ fd_RX12_30 hv_12_23 e40 dX12_slidePlace_113 ?_
  refine lv_iload_n hx hb dX12_slidePlace_116 rfl (lv_at hl 3 rfl) ?_
  obtain ⟨x41, e42, hf⟩ := mb0 hf
  refine mx_aL hx hb hK hJ e42 dX12_slidePlace_117 ?_
  refine lv_aload_n hx hb dX12_slidePlace_118 rfl (lv_at hl 1 rfl) ?_
  obtain ⟨b43, e44, hf⟩ := mb0 hf
  refine my_gR hx hb hts hown hK hJ fd_RX12_33 hv_12_24 e44 dX12_slidePlace_119 ?_
  refine lv_iload_n hx hb dX12_slidePlace_122 rfl (lv_at hl 3 rfl) ?_
  obtain ⟨x45, e46, hf⟩ := mb0 hf
  refine mx_aL hx hb hK hJ e46 dX12_slidePlace_123 ?_
  obtain ⟨i47, e48, hf⟩ := mb0 hf
  obtain ⟨σ49, e50, hf⟩ := mb0 hf
  refine mx_callV (As := [.int (169 : Int32), .long x41, .long x45]) (rest := []) hx hb hml hts hown hK hJ rfl rfl (ci := 12) rfl e48 (c_X12_squared l G P a0 (169 : Int32) x41 x45 σ37 σ49 e50) me_X12_squared kw_2441 ks_119 kw_2439 (Nat.le_of_ble_eq_true rfl) (Nat.le_of_ble_eq_true rfl) rfl hl.1 rfl (Nat.le_of_ble_eq_true rfl) dX12_slidePlace_124 (fun H locs hJ => ?_)
  refine lv_aload_n hx hb dX12_slidePlace_127 rfl (lv_at hl 1 rfl) ?_
  refine lv_sipush (v := 169) hx hb dX12_slidePlace_128 (by decide) ?_
  refine lv_sipush (v := 169) hx hb dX12_slidePlace_131 (by decide) ?_
  refine lv_sipush (v := 167) hx hb dX12_slidePlace_134 (by decide) ?_
  obtain ⟨i51, e52, hf⟩ := mb0 hf
  obtain ⟨σ53, e54, hf⟩ := mb0 hf
  refine mx_callV (As := [.int (169 : Int32), .int (169 : Int32), .int (167 : Int32)]) (rest := []) hx hb hml hts hown hK hJ rfl rfl (ci := 12) rfl e52 (c_X12_less l G P a0 (169 : Int32) (169 : Int32) (167 : Int32) σ49 σ53 e54) me_X12_less kw_2417 ks_113 kw_2415 (Nat.le_of_ble_eq_true rfl) (Nat.le_of_ble_eq_true rfl) rfl hl.1 rfl (Nat.le_of_ble_eq_true rfl) dX12_slidePlace_137 (fun H locs hJ => ?_)
  refine lv_aload_n hx hb dX12_slidePlace_140 rfl (lv_at hl 1 rfl) ?_
  refine lv_sipush (v := 169) hx hb dX12_slidePlace_141 (by decide) ?_
  obtain ⟨i55, e56, hf⟩ := mb0 hf
  obtain ⟨σ57, e58, hf⟩ := mb0 hf
  refine mx_callV (As := [.int (169 : Int32)]) (rest := []) hx hb hml hts hown hK hJ rfl rfl (ci := 12) rfl e56 (c_X12_askRoot l G P a0 (169 : Int32) σ53 σ57 e58) me_X12_askRoot kw_2454 ks_122 kw_2452 (Nat.le_of_ble_eq_true rfl) (Nat.le_of_ble_eq_true rfl) rfl hl.1 rfl (Nat.le_of_ble_eq_true rfl) dX12_slidePlace_144 (fun H locs hJ => ?_)
  refine lv_aload_n hx hb dX12_slidePlace_147 rfl (lv_at hl 1 rfl) ?_
  obtain ⟨x59, e60, hf⟩ := mb0 hf
  refine my_gI hx hb hts hown hK hJ fd_RX12_500 hv_12_54 e60 dX12_slidePlace_148 ?_
  refine lv_if_eq (tgt := 155) hx hb dX12_slidePlace_151 (by decide) (fun c61 => ?_) (fun c61 => ?_)
  · rw [if_pos c61] at hf
    refine lv_aload_n hx hb dX12_slidePlace_155 rfl (lv_at hl 1 rfl) ?_
    refine lv_sipush (v := 169) hx hb dX12_slidePlace_156 (by decide) ?_
    refine lv_sipush (v := 169) hx hb dX12_slidePlace_159 (by decide) ?_
    refine lv_sipush (v := 162) hx hb dX12_slidePlace_162 (by decide) ?_
    obtain ⟨i62, e63, hf⟩ := mb0 hf
    obtain ⟨σ64, e65, hf⟩ := mb0 hf
    refine mx_callV (As := [.int (169 : Int32), .int (169 : Int32), .int (162 : Int32)]) (rest := []) hx hb hml hts hown hK hJ rfl rfl (ci := 12) rfl e63 (c_X12_divide l G P a0 (169 : Int32) (169 : Int32) (162 : Int32) σ57 σ64 e65) me_X12_divide kw_2450 ks_121 kw_2448 (Nat.le_of_ble_eq_true rfl) (Nat.le_of_ble_eq_true rfl) rfl hl.1 rfl (Nat.le_of_ble_eq_true rfl) dX12_slidePlace_165 (fun H locs hJ => ?_)
    refine lv_aload_n hx hb dX12_slidePlace_168 rfl (lv_at hl 1 rfl) ?_
    refine lv_sipush (v := 169) hx hb dX12_slidePlace_169 (by decide) ?_
    refine lv_sipush (v := 169) hx hb dX12_slidePlace_172 (by decide) ?_
    obtain ⟨i66, e67, hf⟩ := mb0 hf
    obtain ⟨σ68, e69, hf⟩ := mb0 hf
    refine mx_callV (As := [.int (169 : Int32), .int (169 : Int32)]) (rest := []) hx hb hml hts hown hK hJ rfl rfl (ci := 12) rfl e67 (c_X12_rootOf l G P a0 (169 : Int32) (169 : Int32) σ64 σ68 e69) me_X12_rootOf kw_2458 ks_123 kw_2456 (Nat.le_of_ble_eq_true rfl) (Nat.le_of_ble_eq_true rfl) rfl hl.1 rfl (Nat.le_of_ble_eq_true rfl) dX12_slidePlace_175 (fun H locs hJ => ?_)
    refine lv_aload_n hx hb dX12_slidePlace_178 rfl (lv_at hl 1 rfl) ?_
    refine lv_iload_n hx hb dX12_slidePlace_179 rfl (lv_at hl 2 rfl) ?_
    refine lv_iload_n hx hb dX12_slidePlace_180 rfl (lv_at hl 3 rfl) ?_
    obtain ⟨i70, e71, hf⟩ := mb0 hf
    obtain ⟨x73, σ72, e74, hf⟩ := mc0 hf
    refine mx_callV (As := [.int p1, .int p2]) (rest := []) hx hb hml hts hown hK hJ rfl rfl (ci := 12) rfl e71 (c_X12_isMinus l G P a0 p1 p2 σ68 x73 σ72 e74) me_X12_isMinus kw_2465 ks_124 kw_2463 (Nat.le_of_ble_eq_true rfl) (Nat.le_of_ble_eq_true rfl) rfl hl.1 rfl (Nat.le_of_ble_eq_true rfl) dX12_slidePlace_181 (fun H locs hJ => ?_)
    refine lv_if_eq (tgt := 203) hx hb dX12_slidePlace_184 (by decide) (fun c75 => ?_) (fun c75 => ?_)
    · rw [if_pos c75] at hf
      refine lv_aload_n hx hb dX12_slidePlace_203 rfl (lv_at hl 1 rfl) ?_
      refine lv_sipush (v := 170) hx hb dX12_slidePlace_204 (by decide) ?_
      refine lv_sipush (v := 166) hx hb dX12_slidePlace_207 (by decide) ?_
      refine lv_sipush (v := 169) hx hb dX12_slidePlace_210 (by decide) ?_
      obtain ⟨i76, e77, hf⟩ := mb0 hf
      obtain ⟨σ78, e79, hf⟩ := mb0 hf
      refine mx_callV (As := [.int (170 : Int32), .int (166 : Int32), .int (169 : Int32)]) (rest := []) hx hb hml hts hown hK hJ rfl rfl (ci := 12) rfl e77 (c_X12_add l G P a0 (170 : Int32) (166 : Int32) (169 : Int32) σ72 σ78 e79) me_X12_add kw_2421 ks_114 kw_2419 (Nat.le_of_ble_eq_true rfl) (Nat.le_of_ble_eq_true rfl) rfl hl.1 rfl (Nat.le_of_ble_eq_true rfl) dX12_slidePlace_213 (fun H locs hJ => ?_)
      exact D216 a0 p4 x1 σ78 hf _ _ hJ ls (lv_sub hl [1, 5, 0] rfl)
    · rw [if_neg c75] at hf
      refine lv_aload_n hx hb dX12_slidePlace_187 rfl (lv_at hl 1 rfl) ?_
      refine lv_sipush (v := 170) hx hb dX12_slidePlace_188 (by decide) ?_
      refine lv_sipush (v := 166) hx hb dX12_slidePlace_191 (by decide) ?_
      refine lv_sipush (v := 169) hx hb dX12_slidePlace_194 (by decide) ?_
      obtain ⟨i96, e97, hf⟩ := mb0 hf
      obtain ⟨σ98, e99, hf⟩ := mb0 hf
      refine mx_callV (As := [.int (170 : Int32), .int (166 : Int32), .int (169 : Int32)]) (rest := []) hx hb hml hts hown hK hJ rfl rfl (ci := 12) rfl e97 (c_X12_less l G P a0 (170 : Int32) (166 : Int32) (169 : Int32) σ72 σ98 e99) me_X12_less kw_2417 ks_113 kw_2415 (Nat.le_of_ble_eq_true rfl) (Nat.le_of_ble_eq_true rfl) rfl hl.1 rfl (Nat.le_of_ble_eq_true rfl) dX12_slidePlace_197 (fun H locs hJ => ?_)
      refine lv_goto (tgt := 216) hx hb dX12_slidePlace_200 (by decide) ?_
      exact D216 a0 p4 x1 σ98 hf _ _ hJ ls (lv_sub hl [1, 5, 0] rfl)
  · rw [if_neg c61] at hf
    exact my_vret hx hb hr hlocks hJ hf dX12_slidePlace_154
set_option maxHeartbeats 4000000 in
set_option maxRecDepth 100000 in
theorem c_X12_bodyOf (l : Launch) (G : mx_G) (P : mx_P) (a0 : Nat) (p1 : Int32) (p2 : Int32) (p3 : Int32) (σ : mx_S) (σ' : mx_S) (hf : f_X12_bodyOf P a0 p1 p2 p3 σ = some σ') : mxz σ ≤ mpc P → mxu σ ≤ mps P → mx_M l yX12_bodyOf cX12_bodyOf 4 none 3 83 G P [.ref a0, .int p1, .int p2, .int p3] σ none σ' := by
  intro hcap hcau
  refine mx_ofW (by decide +kernel) hcap hcau (Nat.le_of_ble_eq_true rfl) ?_
  intro p e s m below meth c hx hb hr hml hts hown hlocks hname hK hJ ls hl
  have hz0 := hJ.2.1
  have hown : s.vm.findClass RX12 = some m.cls := hown
  have hl : lv_has ls 4 [(0, .ref a0), (1, .int p1), (2, .int p2), (3, .int p3)] := hl
  unfold f_X12_bodyOf at hf
  refine lv_aload_n hx hb dX12_bodyOf_0 rfl (lv_at hl 0 rfl) ?_
  refine lv_sipush (v := 162) hx hb dX12_bodyOf_1 (by decide) ?_
  refine lv_aload_n hx hb dX12_bodyOf_4 rfl (lv_at hl 0 rfl) ?_
  obtain ⟨b1, e2, hf⟩ := mb0 hf
  refine my_gR hx hb hts hown hK hJ fd_RX12_30 hv_12_23 e2 dX12_bodyOf_5 ?_
  refine lv_iload_n hx hb dX12_bodyOf_8 rfl (lv_at hl 3 rfl) ?_
  obtain ⟨x3, e4, hf⟩ := mb0 hf
  refine mx_aL hx hb hK hJ e4 dX12_bodyOf_9 ?_
  refine lv_aload_n hx hb dX12_bodyOf_10 rfl (lv_at hl 0 rfl) ?_
  obtain ⟨b5, e6, hf⟩ := mb0 hf
  refine my_gR hx hb hts hown hK hJ fd_RX12_33 hv_12_24 e6 dX12_bodyOf_11 ?_
  refine lv_iload_n hx hb dX12_bodyOf_14 rfl (lv_at hl 3 rfl) ?_
  obtain ⟨x7, e8, hf⟩ := mb0 hf
  refine mx_aL hx hb hK hJ e8 dX12_bodyOf_15 ?_
  obtain ⟨i9, e10, hf⟩ := mb0 hf
  obtain ⟨σ11, e12, hf⟩ := mb0 hf
  refine mx_callV (As := [.int (162 : Int32), .long x3, .long x7]) (rest := []) hx hb hml hts hown hK hJ rfl rfl (ci := 12) rfl e10 (c_X12_fraction l G P a0 (162 : Int32) x3 x7 σ σ11 e12) me_X12_fraction kw_2370 ks_105 kw_2368 (Nat.le_of_ble_eq_true rfl) (Nat.le_of_ble_eq_true rfl) rfl hl.1 rfl (Nat.le_of_ble_eq_true rfl) dX12_bodyOf_16 (fun H locs hJ => ?_)
  refine lv_aload_n hx hb dX12_bodyOf_19 rfl (lv_at hl 0 rfl) ?_
  refine lv_sipush (v := 163) hx hb dX12_bodyOf_20 (by decide) ?_
  refine lv_aload_n hx hb dX12_bodyOf_23 rfl (lv_at hl 0 rfl) ?_
  obtain ⟨b13, e14, hf⟩ := mb0 hf
  refine my_gR hx hb hts hown hK hJ fd_RX12_36 hv_12_25 e14 dX12_bodyOf_24 ?_
  refine lv_iload_n hx hb dX12_bodyOf_27 rfl (lv_at hl 3 rfl) ?_
  obtain ⟨x15, e16, hf⟩ := mb0 hf
  refine mx_aL hx hb hK hJ e16 dX12_bodyOf_28 ?_
  refine lv_aload_n hx hb dX12_bodyOf_29 rfl (lv_at hl 0 rfl) ?_
  obtain ⟨b17, e18, hf⟩ := mb0 hf
  refine my_gR hx hb hts hown hK hJ fd_RX12_39 hv_12_26 e18 dX12_bodyOf_30 ?_
  refine lv_iload_n hx hb dX12_bodyOf_33 rfl (lv_at hl 3 rfl) ?_
  obtain ⟨x19, e20, hf⟩ := mb0 hf
  refine mx_aL hx hb hK hJ e20 dX12_bodyOf_34 ?_
  obtain ⟨i21, e22, hf⟩ := mb0 hf
  obtain ⟨σ23, e24, hf⟩ := mb0 hf
  refine mx_callV (As := [.int (163 : Int32), .long x15, .long x19]) (rest := []) hx hb hml hts hown hK hJ rfl rfl (ci := 12) rfl e22 (c_X12_fraction l G P a0 (163 : Int32) x15 x19 σ11 σ23 e24) me_X12_fraction kw_2370 ks_105 kw_2368 (Nat.le_of_ble_eq_true rfl) (Nat.le_of_ble_eq_true rfl) rfl hl.1 rfl (Nat.le_of_ble_eq_true rfl) dX12_bodyOf_35 (fun H locs hJ => ?_)
  refine lv_aload_n hx hb dX12_bodyOf_38 rfl (lv_at hl 0 rfl) ?_
  refine lv_sipush (v := 164) hx hb dX12_bodyOf_39 (by decide) ?_
  refine lv_sipush (v := 162) hx hb dX12_bodyOf_42 (by decide) ?_
  refine lv_sipush (v := 160) hx hb dX12_bodyOf_45 (by decide) ?_
  obtain ⟨i25, e26, hf⟩ := mb0 hf
  obtain ⟨σ27, e28, hf⟩ := mb0 hf
  refine mx_callV (As := [.int (164 : Int32), .int (162 : Int32), .int (160 : Int32)]) (rest := []) hx hb hml hts hown hK hJ rfl rfl (ci := 12) rfl e26 (c_X12_multiply l G P a0 (164 : Int32) (162 : Int32) (160 : Int32) σ23 σ27 e28) me_X12_multiply kw_2407 ks_112 kw_2405 (Nat.le_of_ble_eq_true rfl) (Nat.le_of_ble_eq_true rfl) rfl hl.1 rfl (Nat.le_of_ble_eq_true rfl) dX12_bodyOf_48 (fun H locs hJ => ?_)
  refine lv_aload_n hx hb dX12_bodyOf_51 rfl (lv_at hl 0 rfl) ?_
  refine lv_sipush (v := 165) hx hb dX12_bodyOf_52 (by decide) ?_
  refine lv_sipush (v := 162) hx hb dX12_bodyOf_55 (by decide) ?_
  refine lv_sipush (v := 161) hx hb dX12_bodyOf_58 (by decide) ?_
  obtain ⟨i29, e30, hf⟩ := mb0 hf
  obtain ⟨σ31, e32, hf⟩ := mb0 hf
  refine mx_callV (As := [.int (165 : Int32), .int (162 : Int32), .int (161 : Int32)]) (rest := []) hx hb hml hts hown hK hJ rfl rfl (ci := 12) rfl e30 (c_X12_multiply l G P a0 (165 : Int32) (162 : Int32) (161 : Int32) σ27 σ31 e32) me_X12_multiply kw_2407 ks_112 kw_2405 (Nat.le_of_ble_eq_true rfl) (Nat.le_of_ble_eq_true rfl) rfl hl.1 rfl (Nat.le_of_ble_eq_true rfl) dX12_bodyOf_61 (fun H locs hJ => ?_)
  refine lv_aload_n hx hb dX12_bodyOf_64 rfl (lv_at hl 0 rfl) ?_
  refine lv_sipush (v := 166) hx hb dX12_bodyOf_65 (by decide) ?_
  refine lv_sipush (v := 161) hx hb dX12_bodyOf_68 (by decide) ?_
  obtain ⟨i33, e34, hf⟩ := mb0 hf
  obtain ⟨σ35, e36, hf⟩ := mb0 hf
  refine mx_callV (As := [.int (166 : Int32), .int (161 : Int32)]) (rest := []) hx hb hml hts hown hK hJ rfl rfl (ci := 12) rfl e34 (c_X12_turned l G P a0 (166 : Int32) (161 : Int32) σ31 σ35 e36) me_X12_turned kw_2395 ks_109 kw_2393 (Nat.le_of_ble_eq_true rfl) (Nat.le_of_ble_eq_true rfl) rfl hl.1 rfl (Nat.le_of_ble_eq_true rfl) dX12_bodyOf_71 (fun H locs hJ => ?_)
  refine lv_aload_n hx hb dX12_bodyOf_74 rfl (lv_at hl 0 rfl) ?_
  refine lv_sipush (v := 166) hx hb dX12_bodyOf_75 (by decide) ?_
  refine lv_sipush (v := 163) hx hb dX12_bodyOf_78 (by decide) ?_
  refine lv_sipush (v := 166) hx hb dX12_bodyOf_81 (by decide) ?_
  obtain ⟨i37, e38, hf⟩ := mb0 hf
  obtain ⟨σ39, e40, hf⟩ := mb0 hf
  refine mx_callV (As := [.int (166 : Int32), .int (163 : Int32), .int (166 : Int32)]) (rest := []) hx hb hml hts hown hK hJ rfl rfl (ci := 12) rfl e38 (c_X12_multiply l G P a0 (166 : Int32) (163 : Int32) (166 : Int32) σ35 σ39 e40) me_X12_multiply kw_2407 ks_112 kw_2405 (Nat.le_of_ble_eq_true rfl) (Nat.le_of_ble_eq_true rfl) rfl hl.1 rfl (Nat.le_of_ble_eq_true rfl) dX12_bodyOf_84 (fun H locs hJ => ?_)
  refine lv_aload_n hx hb dX12_bodyOf_87 rfl (lv_at hl 0 rfl) ?_
  refine lv_sipush (v := 167) hx hb dX12_bodyOf_88 (by decide) ?_
  refine lv_sipush (v := 163) hx hb dX12_bodyOf_91 (by decide) ?_
  refine lv_sipush (v := 160) hx hb dX12_bodyOf_94 (by decide) ?_
  obtain ⟨i41, e42, hf⟩ := mb0 hf
  obtain ⟨σ43, e44, hf⟩ := mb0 hf
  refine mx_callV (As := [.int (167 : Int32), .int (163 : Int32), .int (160 : Int32)]) (rest := []) hx hb hml hts hown hK hJ rfl rfl (ci := 12) rfl e42 (c_X12_multiply l G P a0 (167 : Int32) (163 : Int32) (160 : Int32) σ39 σ43 e44) me_X12_multiply kw_2407 ks_112 kw_2405 (Nat.le_of_ble_eq_true rfl) (Nat.le_of_ble_eq_true rfl) rfl hl.1 rfl (Nat.le_of_ble_eq_true rfl) dX12_bodyOf_97 (fun H locs hJ => ?_)
  refine lv_aload_n hx hb dX12_bodyOf_100 rfl (lv_at hl 0 rfl) ?_
  refine lv_sipush (v := 164) hx hb dX12_bodyOf_101 (by decide) ?_
  refine lv_iload_n hx hb dX12_bodyOf_104 rfl (lv_at hl 2 rfl) ?_
  refine lv_sipush (v := 164) hx hb dX12_bodyOf_105 (by decide) ?_
  obtain ⟨i45, e46, hf⟩ := mb0 hf
  obtain ⟨σ47, e48, hf⟩ := mb0 hf
  refine mx_callV (As := [.int (164 : Int32), .int p2, .int (164 : Int32)]) (rest := []) hx hb hml hts hown hK hJ rfl rfl (ci := 12) rfl e46 (c_X12_add l G P a0 (164 : Int32) p2 (164 : Int32) σ43 σ47 e48) me_X12_add kw_2421 ks_114 kw_2419 (Nat.le_of_ble_eq_true rfl) (Nat.le_of_ble_eq_true rfl) rfl hl.1 rfl (Nat.le_of_ble_eq_true rfl) dX12_bodyOf_108 (fun H locs hJ => ?_)
  refine lv_aload_n hx hb dX12_bodyOf_111 rfl (lv_at hl 0 rfl) ?_
  refine lv_sipush (v := 165) hx hb dX12_bodyOf_112 (by decide) ?_
  refine lv_iload_n hx hb dX12_bodyOf_115 rfl (lv_at hl 2 rfl) ?_
  refine lv_iconst (v := 1) hx hb dX12_bodyOf_116 (by decide) ?_
  refine lv_iadd hx hb dX12_bodyOf_117 ?_
  refine lv_sipush (v := 165) hx hb dX12_bodyOf_118 (by decide) ?_
  obtain ⟨i49, e50, hf⟩ := mb0 hf
  obtain ⟨σ51, e52, hf⟩ := mb0 hf
  refine mx_callV (As := [.int (165 : Int32), .int (p2 + (1 : Int32)), .int (165 : Int32)]) (rest := []) hx hb hml hts hown hK hJ rfl rfl (ci := 12) rfl e50 (c_X12_add l G P a0 (165 : Int32) (p2 + (1 : Int32)) (165 : Int32) σ47 σ51 e52) me_X12_add kw_2421 ks_114 kw_2419 (Nat.le_of_ble_eq_true rfl) (Nat.le_of_ble_eq_true rfl) rfl hl.1 rfl (Nat.le_of_ble_eq_true rfl) dX12_bodyOf_121 (fun H locs hJ => ?_)
  refine lv_aload_n hx hb dX12_bodyOf_124 rfl (lv_at hl 0 rfl) ?_
  refine lv_iload_n hx hb dX12_bodyOf_125 rfl (lv_at hl 1 rfl) ?_
  refine lv_sipush (v := 164) hx hb dX12_bodyOf_126 (by decide) ?_
  refine lv_sipush (v := 166) hx hb dX12_bodyOf_129 (by decide) ?_
  obtain ⟨i53, e54, hf⟩ := mb0 hf
  obtain ⟨σ55, e56, hf⟩ := mb0 hf
  refine mx_callV (As := [.int p1, .int (164 : Int32), .int (166 : Int32)]) (rest := []) hx hb hml hts hown hK hJ rfl rfl (ci := 12) rfl e54 (c_X12_add l G P a0 p1 (164 : Int32) (166 : Int32) σ51 σ55 e56) me_X12_add kw_2421 ks_114 kw_2419 (Nat.le_of_ble_eq_true rfl) (Nat.le_of_ble_eq_true rfl) rfl hl.1 rfl (Nat.le_of_ble_eq_true rfl) dX12_bodyOf_132 (fun H locs hJ => ?_)
  refine lv_aload_n hx hb dX12_bodyOf_135 rfl (lv_at hl 0 rfl) ?_
  refine lv_iload_n hx hb dX12_bodyOf_136 rfl (lv_at hl 1 rfl) ?_
  refine lv_iconst (v := 1) hx hb dX12_bodyOf_137 (by decide) ?_
  refine lv_iadd hx hb dX12_bodyOf_138 ?_
  refine lv_sipush (v := 165) hx hb dX12_bodyOf_139 (by decide) ?_
  refine lv_sipush (v := 167) hx hb dX12_bodyOf_142 (by decide) ?_
  obtain ⟨i57, e58, hf⟩ := mb0 hf
  obtain ⟨σ59, e60, hf⟩ := mb0 hf
  refine mx_callV (As := [.int (p1 + (1 : Int32)), .int (165 : Int32), .int (167 : Int32)]) (rest := []) hx hb hml hts hown hK hJ rfl rfl (ci := 12) rfl e58 (c_X12_add l G P a0 (p1 + (1 : Int32)) (165 : Int32) (167 : Int32) σ55 σ59 e60) me_X12_add kw_2421 ks_114 kw_2419 (Nat.le_of_ble_eq_true rfl) (Nat.le_of_ble_eq_true rfl) rfl hl.1 rfl (Nat.le_of_ble_eq_true rfl) dX12_bodyOf_145 (fun H locs hJ => ?_)
  exact my_vret hx hb hr hlocks hJ hf dX12_bodyOf_148
set_option maxHeartbeats 4000000 in
set_option maxRecDepth 100000 in
theorem c_X12_placeOf (l : Launch) (G : mx_G) (P : mx_P) (a0 : Nat) (p1 : Int32) (p2 : Int32) (σ : mx_S) (σ' : mx_S) (hf : f_X12_placeOf P a0 p1 p2 σ = some σ') : mxz σ ≤ mpc P → mxu σ ≤ mps P → mx_M l yX12_placeOf cX12_placeOf 8 none 5 132 G P [.ref a0, .int p1, .int p2] σ none σ' := by
  intro hcap hcau
  refine mx_ofW (by decide +kernel) hcap hcau (Nat.le_of_ble_eq_true rfl) ?_
  intro p e s m below meth c hx hb hr hml hts hown hlocks hname hK hJ ls hl
  have hz0 := hJ.2.1
  have hown : s.vm.findClass RX12 = some m.cls := hown
  have hl : lv_has ls 8 [(0, .ref a0), (1, .int p1), (2, .int p2)] := hl
  unfold f_X12_placeOf at hf
  refine lv_iconst (v := 2) hx hb dX12_placeOf_0 (by decide) ?_
  refine lv_iload_n hx hb dX12_placeOf_1 rfl (lv_at hl 2 rfl) ?_
  refine lv_imul hx hb dX12_placeOf_2 ?_
  obtain ⟨x1, e2, hf⟩ := mb0 hf
  refine mx_nI e2 ?_
  refine lv_istore_n (lv' := [(3, .int x1), (0, .ref a0), (1, .int p1), (2, .int p2)]) hx hb dX12_placeOf_3 rfl hl (by decide) rfl (fun ls hl => ?_)
  refine lv_aload_n hx hb dX12_placeOf_4 rfl (lv_at hl 1 rfl) ?_
  obtain ⟨b3, e4, hf⟩ := mb0 hf
  refine my_gR hx hb hts hown hK hJ fd_RX12_27 hv_12_22 e4 dX12_placeOf_5 ?_
  refine lv_iconst (v := 4) hx hb dX12_placeOf_8 (by decide) ?_
  refine lv_iload_n hx hb dX12_placeOf_9 rfl (lv_at hl 3 rfl) ?_
  refine lv_imul hx hb dX12_placeOf_10 ?_
  obtain ⟨x5, e6, hf⟩ := mb0 hf
  refine mx_aI hx hb hK hJ e6 dX12_placeOf_11 ?_
  refine lv_istore (lv' := [(4, .int x5), (3, .int x1), (0, .ref a0), (1, .int p1), (2, .int p2)]) hx hb dX12_placeOf_12 hl (by decide) rfl (fun ls hl => ?_)
  refine lv_aload_n hx hb dX12_placeOf_14 rfl (lv_at hl 2 rfl) ?_
  obtain ⟨b7, e8, hf⟩ := mb0 hf
  refine my_gR hx hb hts hown hK hJ fd_RX12_27 hv_12_22 e8 dX12_placeOf_15 ?_
  refine lv_iconst (v := 4) hx hb dX12_placeOf_18 (by decide) ?_
  refine lv_iload_n hx hb dX12_placeOf_19 rfl (lv_at hl 4 rfl) ?_
  refine lv_imul hx hb dX12_placeOf_20 ?_
  refine lv_iconst (v := 1) hx hb dX12_placeOf_21 (by decide) ?_
  refine lv_iadd hx hb dX12_placeOf_22 ?_
  obtain ⟨x9, e10, hf⟩ := mb0 hf
  refine mx_aI hx hb hK hJ e10 dX12_placeOf_23 ?_
  refine lv_istore (lv' := [(5, .int x9), (4, .int x5), (3, .int x1), (0, .ref a0), (1, .int p1), (2, .int p2)]) hx hb dX12_placeOf_24 hl (by decide) rfl (fun ls hl => ?_)
  refine lv_aload_n hx hb dX12_placeOf_26 rfl (lv_at hl 3 rfl) ?_
  obtain ⟨b11, e12, hf⟩ := mb0 hf
  refine my_gR hx hb hts hown hK hJ fd_RX12_27 hv_12_22 e12 dX12_placeOf_27 ?_
  refine lv_iconst (v := 4) hx hb dX12_placeOf_30 (by decide) ?_
  refine lv_iload_n hx hb dX12_placeOf_31 rfl (lv_at hl 5 rfl) ?_
  refine lv_imul hx hb dX12_placeOf_32 ?_
  refine lv_iconst (v := 2) hx hb dX12_placeOf_33 (by decide) ?_
  refine lv_iadd hx hb dX12_placeOf_34 ?_
  obtain ⟨x13, e14, hf⟩ := mb0 hf
  refine mx_aI hx hb hK hJ e14 dX12_placeOf_35 ?_
  refine lv_istore (lv' := [(6, .int x13), (5, .int x9), (4, .int x5), (3, .int x1), (0, .ref a0), (1, .int p1), (2, .int p2)]) hx hb dX12_placeOf_36 hl (by decide) rfl (fun ls hl => ?_)
  refine lv_aload_n hx hb dX12_placeOf_38 rfl (lv_at hl 4 rfl) ?_
  obtain ⟨b15, e16, hf⟩ := mb0 hf
  refine my_gR hx hb hts hown hK hJ fd_RX12_27 hv_12_22 e16 dX12_placeOf_39 ?_
  refine lv_iconst (v := 4) hx hb dX12_placeOf_42 (by decide) ?_
  refine lv_iload_n hx hb dX12_placeOf_43 rfl (lv_at hl 6 rfl) ?_
  refine lv_imul hx hb dX12_placeOf_44 ?_
  refine lv_iconst (v := 3) hx hb dX12_placeOf_45 (by decide) ?_
  refine lv_iadd hx hb dX12_placeOf_46 ?_
  obtain ⟨x17, e18, hf⟩ := mb0 hf
  refine mx_aI hx hb hK hJ e18 dX12_placeOf_47 ?_
  refine lv_istore (lv' := [(7, .int x17), (6, .int x13), (5, .int x9), (4, .int x5), (3, .int x1), (0, .ref a0), (1, .int p1), (2, .int p2)]) hx hb dX12_placeOf_48 hl (by decide) rfl (fun ls hl => ?_)
  refine lv_aload_n hx hb dX12_placeOf_50 rfl (lv_at hl 5 rfl) ?_
  obtain ⟨b19, e20, hf⟩ := mb0 hf
  refine my_gR hx hb hts hown hK hJ fd_RX12_24 hv_12_21 e20 dX12_placeOf_51 ?_
  refine lv_iload_n hx hb dX12_placeOf_54 rfl (lv_at hl 7 rfl) ?_
  obtain ⟨x21, e22, hf⟩ := mb0 hf
  refine mx_aI hx hb hK hJ e22 dX12_placeOf_55 ?_
  by_cases c23 : x21 = (0 : Int32)
  · rw [if_pos c23] at hf
    refine lv_tableIn (tgt := 92) (off := 36) hx hb dX12_placeOf_56 (by rw [c23] <;> decide) (by rw [c23] <;> decide) (by rw [c23] <;> decide) (by decide) ?_
    refine lv_aload_n hx hb dX12_placeOf_92 rfl (lv_at hl 5 rfl) ?_
    refine lv_iload_n hx hb dX12_placeOf_93 rfl (lv_at hl 4 rfl) ?_
    refine lv_aload_n hx hb dX12_placeOf_94 rfl (lv_at hl 5 rfl) ?_
    obtain ⟨b24, e25, hf⟩ := mb0 hf
    refine my_gR hx hb hts hown hK hJ fd_RX12_30 hv_12_23 e25 dX12_placeOf_95 ?_
    refine lv_iload_n hx hb dX12_placeOf_98 rfl (lv_at hl 7 rfl) ?_
    obtain ⟨x26, e27, hf⟩ := mb0 hf
    refine mx_aL hx hb hK hJ e27 dX12_placeOf_99 ?_
    refine lv_aload_n hx hb dX12_placeOf_100 rfl (lv_at hl 5 rfl) ?_
    obtain ⟨b28, e29, hf⟩ := mb0 hf
    refine my_gR hx hb hts hown hK hJ fd_RX12_33 hv_12_24 e29 dX12_placeOf_101 ?_
    refine lv_iload_n hx hb dX12_placeOf_104 rfl (lv_at hl 7 rfl) ?_
    obtain ⟨x30, e31, hf⟩ := mb0 hf
    refine mx_aL hx hb hK hJ e31 dX12_placeOf_105 ?_
    obtain ⟨i32, e33, hf⟩ := mb0 hf
    obtain ⟨σ34, e35, hf⟩ := mb0 hf
    refine mx_callV (As := [.int x1, .long x26, .long x30]) (rest := []) hx hb hml hts hown hK hJ rfl rfl (ci := 12) rfl e33 (c_X12_fraction l G P a0 x1 x26 x30 σ σ34 e35) me_X12_fraction kw_2370 ks_105 kw_2368 (Nat.le_of_ble_eq_true rfl) (Nat.le_of_ble_eq_true rfl) rfl hl.1 rfl (Nat.le_of_ble_eq_true rfl) dX12_placeOf_106 (fun H locs hJ => ?_)
    refine lv_aload_n hx hb dX12_placeOf_109 rfl (lv_at hl 5 rfl) ?_
    refine lv_iload_n hx hb dX12_placeOf_110 rfl (lv_at hl 4 rfl) ?_
    refine lv_iconst (v := 1) hx hb dX12_placeOf_111 (by decide) ?_
    refine lv_iadd hx hb dX12_placeOf_112 ?_
    refine lv_aload_n hx hb dX12_placeOf_113 rfl (lv_at hl 5 rfl) ?_
    obtain ⟨b36, e37, hf⟩ := mb0 hf
    refine my_gR hx hb hts hown hK hJ fd_RX12_36 hv_12_25 e37 dX12_placeOf_114 ?_
    refine lv_iload_n hx hb dX12_placeOf_117 rfl (lv_at hl 7 rfl) ?_
    obtain ⟨x38, e39, hf⟩ := mb0 hf
    refine mx_aL hx hb hK hJ e39 dX12_placeOf_118 ?_
    refine lv_aload_n hx hb dX12_placeOf_119 rfl (lv_at hl 5 rfl) ?_
    obtain ⟨b40, e41, hf⟩ := mb0 hf
    refine my_gR hx hb hts hown hK hJ fd_RX12_39 hv_12_26 e41 dX12_placeOf_120 ?_
    refine lv_iload_n hx hb dX12_placeOf_123 rfl (lv_at hl 7 rfl) ?_
    obtain ⟨x42, e43, hf⟩ := mb0 hf
    refine mx_aL hx hb hK hJ e43 dX12_placeOf_124 ?_
    obtain ⟨i44, e45, hf⟩ := mb0 hf
    obtain ⟨σ46, e47, hf⟩ := mb0 hf
    refine mx_callV (As := [.int (x1 + (1 : Int32)), .long x38, .long x42]) (rest := []) hx hb hml hts hown hK hJ rfl rfl (ci := 12) rfl e45 (c_X12_fraction l G P a0 (x1 + (1 : Int32)) x38 x42 σ34 σ46 e47) me_X12_fraction kw_2370 ks_105 kw_2368 (Nat.le_of_ble_eq_true rfl) (Nat.le_of_ble_eq_true rfl) rfl hl.1 rfl (Nat.le_of_ble_eq_true rfl) dX12_placeOf_125 (fun H locs hJ => ?_)
    exact my_vret hx hb hr hlocks hJ hf dX12_placeOf_128
  rw [if_neg c23] at hf
  by_cases c48 : x21 = (1 : Int32)
  · rw [if_pos c48] at hf
    refine lv_tableIn (tgt := 129) (off := 73) hx hb dX12_placeOf_56 (by rw [c48] <;> decide) (by rw [c48] <;> decide) (by rw [c48] <;> decide) (by decide) ?_
    refine lv_aload_n hx hb dX12_placeOf_129 rfl (lv_at hl 5 rfl) ?_
    refine lv_sipush (v := 160) hx hb dX12_placeOf_130 (by decide) ?_
    refine lv_iload_n hx hb dX12_placeOf_133 rfl (lv_at hl 7 rfl) ?_
    obtain ⟨i49, e50, hf⟩ := mb0 hf
    obtain ⟨σ51, e52, hf⟩ := mb0 hf
    refine mx_callV (As := [.int (160 : Int32), .int p2]) (rest := []) hx hb hml hts hown hK hJ rfl rfl (ci := 12) rfl e50 (c_X12_wayOf l G P a0 (160 : Int32) p2 σ σ51 e52) me_X12_wayOf kw_2386 ks_107 kw_2384 (Nat.le_of_ble_eq_true rfl) (Nat.le_of_ble_eq_true rfl) rfl hl.1 rfl (Nat.le_of_ble_eq_true rfl) dX12_placeOf_134 (fun H locs hJ => ?_)
    refine lv_aload_n hx hb dX12_placeOf_137 rfl (lv_at hl 5 rfl) ?_
    refine lv_sipush (v := 162) hx hb dX12_placeOf_138 (by decide) ?_
    refine lv_aload_n hx hb dX12_placeOf_141 rfl (lv_at hl 5 rfl) ?_
    obtain ⟨b53, e54, hf⟩ := mb0 hf
    refine my_gR hx hb hts hown hK hJ fd_RX12_30 hv_12_23 e54 dX12_placeOf_142 ?_
    refine lv_iload_n hx hb dX12_placeOf_145 rfl (lv_at hl 7 rfl) ?_
    obtain ⟨x55, e56, hf⟩ := mb0 hf
    refine mx_aL hx hb hK hJ e56 dX12_placeOf_146 ?_
    refine lv_aload_n hx hb dX12_placeOf_147 rfl (lv_at hl 5 rfl) ?_
    obtain ⟨b57, e58, hf⟩ := mb0 hf
    refine my_gR hx hb hts hown hK hJ fd_RX12_33 hv_12_24 e58 dX12_placeOf_148 ?_
    refine lv_iload_n hx hb dX12_placeOf_151 rfl (lv_at hl 7 rfl) ?_
    obtain ⟨x59, e60, hf⟩ := mb0 hf
    refine mx_aL hx hb hK hJ e60 dX12_placeOf_152 ?_
    obtain ⟨i61, e62, hf⟩ := mb0 hf
    obtain ⟨σ63, e64, hf⟩ := mb0 hf
    refine mx_callV (As := [.int (162 : Int32), .long x55, .long x59]) (rest := []) hx hb hml hts hown hK hJ rfl rfl (ci := 12) rfl e62 (c_X12_fraction l G P a0 (162 : Int32) x55 x59 σ51 σ63 e64) me_X12_fraction kw_2370 ks_105 kw_2368 (Nat.le_of_ble_eq_true rfl) (Nat.le_of_ble_eq_true rfl) rfl hl.1 rfl (Nat.le_of_ble_eq_true rfl) dX12_placeOf_153 (fun H locs hJ => ?_)
    refine lv_aload_n hx hb dX12_placeOf_156 rfl (lv_at hl 5 rfl) ?_
    refine lv_sipush (v := 160) hx hb dX12_placeOf_157 (by decide) ?_
    refine lv_sipush (v := 162) hx hb dX12_placeOf_160 (by decide) ?_
    refine lv_sipush (v := 160) hx hb dX12_placeOf_163 (by decide) ?_
    obtain ⟨i65, e66, hf⟩ := mb0 hf
    obtain ⟨σ67, e68, hf⟩ := mb0 hf
    refine mx_callV (As := [.int (160 : Int32), .int (162 : Int32), .int (160 : Int32)]) (rest := []) hx hb hml hts hown hK hJ rfl rfl (ci := 12) rfl e66 (c_X12_multiply l G P a0 (160 : Int32) (162 : Int32) (160 : Int32) σ63 σ67 e68) me_X12_multiply kw_2407 ks_112 kw_2405 (Nat.le_of_ble_eq_true rfl) (Nat.le_of_ble_eq_true rfl) rfl hl.1 rfl (Nat.le_of_ble_eq_true rfl) dX12_placeOf_166 (fun H locs hJ => ?_)
    refine lv_aload_n hx hb dX12_placeOf_169 rfl (lv_at hl 5 rfl) ?_
    refine lv_sipush (v := 161) hx hb dX12_placeOf_170 (by decide) ?_
    refine lv_sipush (v := 162) hx hb dX12_placeOf_173 (by decide) ?_
    refine lv_sipush (v := 161) hx hb dX12_placeOf_176 (by decide) ?_
    obtain ⟨i69, e70, hf⟩ := mb0 hf
    obtain ⟨σ71, e72, hf⟩ := mb0 hf
    refine mx_callV (As := [.int (161 : Int32), .int (162 : Int32), .int (161 : Int32)]) (rest := []) hx hb hml hts hown hK hJ rfl rfl (ci := 12) rfl e70 (c_X12_multiply l G P a0 (161 : Int32) (162 : Int32) (161 : Int32) σ67 σ71 e72) me_X12_multiply kw_2407 ks_112 kw_2405 (Nat.le_of_ble_eq_true rfl) (Nat.le_of_ble_eq_true rfl) rfl hl.1 rfl (Nat.le_of_ble_eq_true rfl) dX12_placeOf_179 (fun H locs hJ => ?_)
    refine lv_aload_n hx hb dX12_placeOf_182 rfl (lv_at hl 5 rfl) ?_
    refine lv_iload_n hx hb dX12_placeOf_183 rfl (lv_at hl 4 rfl) ?_
    refine lv_iconst (v := 2) hx hb dX12_placeOf_184 (by decide) ?_
    refine lv_iload hx hb dX12_placeOf_185 (lv_at hl 3 rfl) ?_
    refine lv_imul hx hb dX12_placeOf_187 ?_
    refine lv_sipush (v := 160) hx hb dX12_placeOf_188 (by decide) ?_
    obtain ⟨i73, e74, hf⟩ := mb0 hf
    obtain ⟨σ75, e76, hf⟩ := mb0 hf
    refine mx_callV (As := [.int x1, .int ((2 : Int32) * x5), .int (160 : Int32)]) (rest := []) hx hb hml hts hown hK hJ rfl rfl (ci := 12) rfl e74 (c_X12_add l G P a0 x1 ((2 : Int32) * x5) (160 : Int32) σ71 σ75 e76) me_X12_add kw_2421 ks_114 kw_2419 (Nat.le_of_ble_eq_true rfl) (Nat.le_of_ble_eq_true rfl) rfl hl.1 rfl (Nat.le_of_ble_eq_true rfl) dX12_placeOf_191 (fun H locs hJ => ?_)
    refine lv_aload_n hx hb dX12_placeOf_194 rfl (lv_at hl 5 rfl) ?_
    refine lv_iload_n hx hb dX12_placeOf_195 rfl (lv_at hl 4 rfl) ?_
    refine lv_iconst (v := 1) hx hb dX12_placeOf_196 (by decide) ?_
    refine lv_iadd hx hb dX12_placeOf_197 ?_
    refine lv_iconst (v := 2) hx hb dX12_placeOf_198 (by decide) ?_
    refine lv_iload hx hb dX12_placeOf_199 (lv_at hl 3 rfl) ?_
    refine lv_imul hx hb dX12_placeOf_201 ?_
    refine lv_iconst (v := 1) hx hb dX12_placeOf_202 (by decide) ?_
    refine lv_iadd hx hb dX12_placeOf_203 ?_
    refine lv_sipush (v := 161) hx hb dX12_placeOf_204 (by decide) ?_
    obtain ⟨i77, e78, hf⟩ := mb0 hf
    obtain ⟨σ79, e80, hf⟩ := mb0 hf
    refine mx_callV (As := [.int (x1 + (1 : Int32)), .int (((2 : Int32) * x5) + (1 : Int32)), .int (161 : Int32)]) (rest := []) hx hb hml hts hown hK hJ rfl rfl (ci := 12) rfl e78 (c_X12_add l G P a0 (x1 + (1 : Int32)) (((2 : Int32) * x5) + (1 : Int32)) (161 : Int32) σ75 σ79 e80) me_X12_add kw_2421 ks_114 kw_2419 (Nat.le_of_ble_eq_true rfl) (Nat.le_of_ble_eq_true rfl) rfl hl.1 rfl (Nat.le_of_ble_eq_true rfl) dX12_placeOf_207 (fun H locs hJ => ?_)
    exact my_vret hx hb hr hlocks hJ hf dX12_placeOf_210
  rw [if_neg c48] at hf
  by_cases c81 : x21 = (2 : Int32)
  · rw [if_pos c81] at hf
    refine lv_tableIn (tgt := 211) (off := 155) hx hb dX12_placeOf_56 (by rw [c81] <;> decide) (by rw [c81] <;> decide) (by rw [c81] <;> decide) (by decide) ?_
    refine lv_aload_n hx hb dX12_placeOf_211 rfl (lv_at hl 5 rfl) ?_
    refine lv_iload_n hx hb dX12_placeOf_212 rfl (lv_at hl 6 rfl) ?_
    refine lv_iload_n hx hb dX12_placeOf_213 rfl (lv_at hl 7 rfl) ?_
    refine lv_iload hx hb dX12_placeOf_214 (lv_at hl 3 rfl) ?_
    refine lv_iload hx hb dX12_placeOf_216 (lv_at hl 2 rfl) ?_
    obtain ⟨i82, e83, hf⟩ := mb0 hf
    obtain ⟨σ84, e85, hf⟩ := mb0 hf
    refine mx_callV (As := [.int p1, .int p2, .int x5, .int x9]) (rest := []) hx hb hml hts hown hK hJ rfl rfl (ci := 12) rfl e83 (c_X12_dyadPlace l G P a0 p1 p2 x5 x9 σ σ84 e85) me_X12_dyadPlace kw_2425 ks_115 kw_2423 (Nat.le_of_ble_eq_true rfl) (Nat.le_of_ble_eq_true rfl) rfl hl.1 rfl (Nat.le_of_ble_eq_true rfl) dX12_placeOf_218 (fun H locs hJ => ?_)
    exact my_vret hx hb hr hlocks hJ hf dX12_placeOf_221
  rw [if_neg c81] at hf
  by_cases c86 : x21 = (3 : Int32)
  · rw [if_pos c86] at hf
    refine lv_tableIn (tgt := 222) (off := 166) hx hb dX12_placeOf_56 (by rw [c86] <;> decide) (by rw [c86] <;> decide) (by rw [c86] <;> decide) (by decide) ?_
    refine lv_aload_n hx hb dX12_placeOf_222 rfl (lv_at hl 5 rfl) ?_
    refine lv_iload_n hx hb dX12_placeOf_223 rfl (lv_at hl 6 rfl) ?_
    refine lv_iload_n hx hb dX12_placeOf_224 rfl (lv_at hl 7 rfl) ?_
    refine lv_iload hx hb dX12_placeOf_225 (lv_at hl 3 rfl) ?_
    refine lv_iload hx hb dX12_placeOf_227 (lv_at hl 1 rfl) ?_
    refine lv_iload hx hb dX12_placeOf_229 (lv_at hl 0 rfl) ?_
    obtain ⟨i87, e88, hf⟩ := mb0 hf
    obtain ⟨σ89, e90, hf⟩ := mb0 hf
    refine mx_callV (As := [.int p1, .int p2, .int x5, .int x13, .int x17]) (rest := []) hx hb hml hts hown hK hJ rfl rfl (ci := 12) rfl e88 (c_X12_slidePlace l G P a0 p1 p2 x5 x13 x17 σ σ89 e90) me_X12_slidePlace kw_2469 ks_125 kw_2467 (Nat.le_of_ble_eq_true rfl) (Nat.le_of_ble_eq_true rfl) rfl hl.1 rfl (Nat.le_of_ble_eq_true rfl) dX12_placeOf_231 (fun H locs hJ => ?_)
    exact my_vret hx hb hr hlocks hJ hf dX12_placeOf_234
  rw [if_neg c86] at hf
  by_cases c91 : x21 = (4 : Int32)
  · rw [if_pos c91] at hf
    refine lv_tableIn (tgt := 235) (off := 179) hx hb dX12_placeOf_56 (by rw [c91] <;> decide) (by rw [c91] <;> decide) (by rw [c91] <;> decide) (by decide) ?_
    refine lv_aload_n hx hb dX12_placeOf_235 rfl (lv_at hl 5 rfl) ?_
    refine lv_sipush (v := 160) hx hb dX12_placeOf_236 (by decide) ?_
    refine lv_iload hx hb dX12_placeOf_239 (lv_at hl 2 rfl) ?_
    refine lv_iload hx hb dX12_placeOf_241 (lv_at hl 3 rfl) ?_
    obtain ⟨i92, e93, hf⟩ := mb0 hf
    obtain ⟨σ94, e95, hf⟩ := mb0 hf
    refine mx_callV (As := [.int (160 : Int32), .int x9, .int x5]) (rest := []) hx hb hml hts hown hK hJ rfl rfl (ci := 12) rfl e93 (c_X12_between l G P a0 (160 : Int32) x9 x5 σ σ94 e95) me_X12_between kw_2429 ks_116 kw_2427 (Nat.le_of_ble_eq_true rfl) (Nat.le_of_ble_eq_true rfl) rfl hl.1 rfl (Nat.le_of_ble_eq_true rfl) dX12_placeOf_243 (fun H locs hJ => ?_)
    refine lv_aload_n hx hb dX12_placeOf_246 rfl (lv_at hl 5 rfl) ?_
    refine lv_iload_n hx hb dX12_placeOf_247 rfl (lv_at hl 4 rfl) ?_
    refine lv_iconst (v := 2) hx hb dX12_placeOf_248 (by decide) ?_
    refine lv_iload hx hb dX12_placeOf_249 (lv_at hl 3 rfl) ?_
    refine lv_imul hx hb dX12_placeOf_251 ?_
    refine lv_iload_n hx hb dX12_placeOf_252 rfl (lv_at hl 7 rfl) ?_
    obtain ⟨i96, e97, hf⟩ := mb0 hf
    obtain ⟨σ98, e99, hf⟩ := mb0 hf
    refine mx_callV (As := [.int x1, .int ((2 : Int32) * x5), .int p2]) (rest := []) hx hb hml hts hown hK hJ rfl rfl (ci := 12) rfl e97 (c_X12_bodyOf l G P a0 x1 ((2 : Int32) * x5) p2 σ94 σ98 e99) me_X12_bodyOf kw_2477 ks_127 kw_2475 (Nat.le_of_ble_eq_true rfl) (Nat.le_of_ble_eq_true rfl) rfl hl.1 rfl (Nat.le_of_ble_eq_true rfl) dX12_placeOf_253 (fun H locs hJ => ?_)
    exact my_vret hx hb hr hlocks hJ hf dX12_placeOf_256
  rw [if_neg c91] at hf
  refine lv_tableOut (tgt := 257) hx hb dX12_placeOf_56 (by have := lv_neT (a := (0)) c23 (by decide); have := lv_neT (a := (1)) c48 (by decide); have := lv_neT (a := (2)) c81 (by decide); have := lv_neT (a := (3)) c86 (by decide); have := lv_neT (a := (4)) c91 (by decide); omega) (by decide) ?_
  refine lv_aload_n hx hb dX12_placeOf_257 rfl (lv_at hl 5 rfl) ?_
  refine lv_sipush (v := 160) hx hb dX12_placeOf_258 (by decide) ?_
  refine lv_iload hx hb dX12_placeOf_261 (lv_at hl 2 rfl) ?_
  refine lv_iload hx hb dX12_placeOf_263 (lv_at hl 3 rfl) ?_
  obtain ⟨i100, e101, hf⟩ := mb0 hf
  obtain ⟨σ102, e103, hf⟩ := mb0 hf
  refine mx_callV (As := [.int (160 : Int32), .int x9, .int x5]) (rest := []) hx hb hml hts hown hK hJ rfl rfl (ci := 12) rfl e101 (c_X12_between l G P a0 (160 : Int32) x9 x5 σ σ102 e103) me_X12_between kw_2429 ks_116 kw_2427 (Nat.le_of_ble_eq_true rfl) (Nat.le_of_ble_eq_true rfl) rfl hl.1 rfl (Nat.le_of_ble_eq_true rfl) dX12_placeOf_265 (fun H locs hJ => ?_)
  refine lv_aload_n hx hb dX12_placeOf_268 rfl (lv_at hl 5 rfl) ?_
  refine lv_sipush (v := 162) hx hb dX12_placeOf_269 (by decide) ?_
  refine lv_iload hx hb dX12_placeOf_272 (lv_at hl 0 rfl) ?_
  refine lv_iload hx hb dX12_placeOf_274 (lv_at hl 1 rfl) ?_
  obtain ⟨i104, e105, hf⟩ := mb0 hf
  obtain ⟨σ106, e107, hf⟩ := mb0 hf
  refine mx_callV (As := [.int (162 : Int32), .int x17, .int x13]) (rest := []) hx hb hml hts hown hK hJ rfl rfl (ci := 12) rfl e105 (c_X12_between l G P a0 (162 : Int32) x17 x13 σ102 σ106 e107) me_X12_between kw_2429 ks_116 kw_2427 (Nat.le_of_ble_eq_true rfl) (Nat.le_of_ble_eq_true rfl) rfl hl.1 rfl (Nat.le_of_ble_eq_true rfl) dX12_placeOf_276 (fun H locs hJ => ?_)
  refine lv_aload_n hx hb dX12_placeOf_279 rfl (lv_at hl 5 rfl) ?_
  refine lv_sipush (v := 164) hx hb dX12_placeOf_280 (by decide) ?_
  refine lv_iload hx hb dX12_placeOf_283 (lv_at hl 1 rfl) ?_
  refine lv_iload hx hb dX12_placeOf_285 (lv_at hl 3 rfl) ?_
  obtain ⟨i108, e109, hf⟩ := mb0 hf
  obtain ⟨σ110, e111, hf⟩ := mb0 hf
  refine mx_callV (As := [.int (164 : Int32), .int x13, .int x5]) (rest := []) hx hb hml hts hown hK hJ rfl rfl (ci := 12) rfl e109 (c_X12_between l G P a0 (164 : Int32) x13 x5 σ106 σ110 e111) me_X12_between kw_2429 ks_116 kw_2427 (Nat.le_of_ble_eq_true rfl) (Nat.le_of_ble_eq_true rfl) rfl hl.1 rfl (Nat.le_of_ble_eq_true rfl) dX12_placeOf_287 (fun H locs hJ => ?_)
  refine lv_aload_n hx hb dX12_placeOf_290 rfl (lv_at hl 5 rfl) ?_
  refine lv_sipush (v := 166) hx hb dX12_placeOf_291 (by decide) ?_
  refine lv_sipush (v := 164) hx hb dX12_placeOf_294 (by decide) ?_
  refine lv_sipush (v := 162) hx hb dX12_placeOf_297 (by decide) ?_
  obtain ⟨i112, e113, hf⟩ := mb0 hf
  obtain ⟨σ114, e115, hf⟩ := mb0 hf
  refine mx_callV (As := [.int (166 : Int32), .int (164 : Int32), .int (162 : Int32)]) (rest := []) hx hb hml hts hown hK hJ rfl rfl (ci := 12) rfl e113 (c_X12_cross l G P a0 (166 : Int32) (164 : Int32) (162 : Int32) σ110 σ114 e115) me_X12_cross kw_2481 ks_128 kw_2479 (Nat.le_of_ble_eq_true rfl) (Nat.le_of_ble_eq_true rfl) rfl hl.1 rfl (Nat.le_of_ble_eq_true rfl) dX12_placeOf_300 (fun H locs hJ => ?_)
  refine lv_aload_n hx hb dX12_placeOf_303 rfl (lv_at hl 5 rfl) ?_
  refine lv_sipush (v := 167) hx hb dX12_placeOf_304 (by decide) ?_
  refine lv_sipush (v := 160) hx hb dX12_placeOf_307 (by decide) ?_
  refine lv_sipush (v := 162) hx hb dX12_placeOf_310 (by decide) ?_
  obtain ⟨i116, e117, hf⟩ := mb0 hf
  obtain ⟨σ118, e119, hf⟩ := mb0 hf
  refine mx_callV (As := [.int (167 : Int32), .int (160 : Int32), .int (162 : Int32)]) (rest := []) hx hb hml hts hown hK hJ rfl rfl (ci := 12) rfl e117 (c_X12_cross l G P a0 (167 : Int32) (160 : Int32) (162 : Int32) σ114 σ118 e119) me_X12_cross kw_2481 ks_128 kw_2479 (Nat.le_of_ble_eq_true rfl) (Nat.le_of_ble_eq_true rfl) rfl hl.1 rfl (Nat.le_of_ble_eq_true rfl) dX12_placeOf_313 (fun H locs hJ => ?_)
  refine lv_aload_n hx hb dX12_placeOf_316 rfl (lv_at hl 5 rfl) ?_
  refine lv_sipush (v := 168) hx hb dX12_placeOf_317 (by decide) ?_
  refine lv_sipush (v := 166) hx hb dX12_placeOf_320 (by decide) ?_
  refine lv_sipush (v := 167) hx hb dX12_placeOf_323 (by decide) ?_
  obtain ⟨i120, e121, hf⟩ := mb0 hf
  obtain ⟨σ122, e123, hf⟩ := mb0 hf
  refine mx_callV (As := [.int (168 : Int32), .int (166 : Int32), .int (167 : Int32)]) (rest := []) hx hb hml hts hown hK hJ rfl rfl (ci := 12) rfl e121 (c_X12_divide l G P a0 (168 : Int32) (166 : Int32) (167 : Int32) σ118 σ122 e123) me_X12_divide kw_2450 ks_121 kw_2448 (Nat.le_of_ble_eq_true rfl) (Nat.le_of_ble_eq_true rfl) rfl hl.1 rfl (Nat.le_of_ble_eq_true rfl) dX12_placeOf_326 (fun H locs hJ => ?_)
  refine lv_aload_n hx hb dX12_placeOf_329 rfl (lv_at hl 5 rfl) ?_
  refine lv_sipush (v := 169) hx hb dX12_placeOf_330 (by decide) ?_
  refine lv_sipush (v := 168) hx hb dX12_placeOf_333 (by decide) ?_
  refine lv_sipush (v := 160) hx hb dX12_placeOf_336 (by decide) ?_
  obtain ⟨i124, e125, hf⟩ := mb0 hf
  obtain ⟨σ126, e127, hf⟩ := mb0 hf
  refine mx_callV (As := [.int (169 : Int32), .int (168 : Int32), .int (160 : Int32)]) (rest := []) hx hb hml hts hown hK hJ rfl rfl (ci := 12) rfl e125 (c_X12_multiply l G P a0 (169 : Int32) (168 : Int32) (160 : Int32) σ122 σ126 e127) me_X12_multiply kw_2407 ks_112 kw_2405 (Nat.le_of_ble_eq_true rfl) (Nat.le_of_ble_eq_true rfl) rfl hl.1 rfl (Nat.le_of_ble_eq_true rfl) dX12_placeOf_339 (fun H locs hJ => ?_)
  refine lv_aload_n hx hb dX12_placeOf_342 rfl (lv_at hl 5 rfl) ?_
  refine lv_sipush (v := 170) hx hb dX12_placeOf_343 (by decide) ?_
  refine lv_sipush (v := 168) hx hb dX12_placeOf_346 (by decide) ?_
  refine lv_sipush (v := 161) hx hb dX12_placeOf_349 (by decide) ?_
  obtain ⟨i128, e129, hf⟩ := mb0 hf
  obtain ⟨σ130, e131, hf⟩ := mb0 hf
  refine mx_callV (As := [.int (170 : Int32), .int (168 : Int32), .int (161 : Int32)]) (rest := []) hx hb hml hts hown hK hJ rfl rfl (ci := 12) rfl e129 (c_X12_multiply l G P a0 (170 : Int32) (168 : Int32) (161 : Int32) σ126 σ130 e131) me_X12_multiply kw_2407 ks_112 kw_2405 (Nat.le_of_ble_eq_true rfl) (Nat.le_of_ble_eq_true rfl) rfl hl.1 rfl (Nat.le_of_ble_eq_true rfl) dX12_placeOf_352 (fun H locs hJ => ?_)
  refine lv_aload_n hx hb dX12_placeOf_355 rfl (lv_at hl 5 rfl) ?_
  refine lv_iload_n hx hb dX12_placeOf_356 rfl (lv_at hl 4 rfl) ?_
  refine lv_iconst (v := 2) hx hb dX12_placeOf_357 (by decide) ?_
  refine lv_iload hx hb dX12_placeOf_358 (lv_at hl 3 rfl) ?_
  refine lv_imul hx hb dX12_placeOf_360 ?_
  refine lv_sipush (v := 169) hx hb dX12_placeOf_361 (by decide) ?_
  obtain ⟨i132, e133, hf⟩ := mb0 hf
  obtain ⟨σ134, e135, hf⟩ := mb0 hf
  refine mx_callV (As := [.int x1, .int ((2 : Int32) * x5), .int (169 : Int32)]) (rest := []) hx hb hml hts hown hK hJ rfl rfl (ci := 12) rfl e133 (c_X12_add l G P a0 x1 ((2 : Int32) * x5) (169 : Int32) σ130 σ134 e135) me_X12_add kw_2421 ks_114 kw_2419 (Nat.le_of_ble_eq_true rfl) (Nat.le_of_ble_eq_true rfl) rfl hl.1 rfl (Nat.le_of_ble_eq_true rfl) dX12_placeOf_364 (fun H locs hJ => ?_)
  refine lv_aload_n hx hb dX12_placeOf_367 rfl (lv_at hl 5 rfl) ?_
  refine lv_iload_n hx hb dX12_placeOf_368 rfl (lv_at hl 4 rfl) ?_
  refine lv_iconst (v := 1) hx hb dX12_placeOf_369 (by decide) ?_
  refine lv_iadd hx hb dX12_placeOf_370 ?_
  refine lv_iconst (v := 2) hx hb dX12_placeOf_371 (by decide) ?_
  refine lv_iload hx hb dX12_placeOf_372 (lv_at hl 3 rfl) ?_
  refine lv_imul hx hb dX12_placeOf_374 ?_
  refine lv_iconst (v := 1) hx hb dX12_placeOf_375 (by decide) ?_
  refine lv_iadd hx hb dX12_placeOf_376 ?_
  refine lv_sipush (v := 170) hx hb dX12_placeOf_377 (by decide) ?_
  obtain ⟨i136, e137, hf⟩ := mb0 hf
  obtain ⟨σ138, e139, hf⟩ := mb0 hf
  refine mx_callV (As := [.int (x1 + (1 : Int32)), .int (((2 : Int32) * x5) + (1 : Int32)), .int (170 : Int32)]) (rest := []) hx hb hml hts hown hK hJ rfl rfl (ci := 12) rfl e137 (c_X12_add l G P a0 (x1 + (1 : Int32)) (((2 : Int32) * x5) + (1 : Int32)) (170 : Int32) σ134 σ138 e139) me_X12_add kw_2421 ks_114 kw_2419 (Nat.le_of_ble_eq_true rfl) (Nat.le_of_ble_eq_true rfl) rfl hl.1 rfl (Nat.le_of_ble_eq_true rfl) dX12_placeOf_380 (fun H locs hJ => ?_)
  exact my_vret hx hb hr hlocks hJ hf dX12_placeOf_383
set_option maxHeartbeats 4000000 in
set_option maxRecDepth 100000 in
theorem c_X12_isOpen (l : Launch) (G : mx_G) (P : mx_P) (a0 : Nat) (p1 : Int32) (σ : mx_S) (r : Int32) (σ' : mx_S) (hf : f_X12_isOpen P a0 p1 σ = some (r, σ')) : mxz σ ≤ mpc P → mxu σ ≤ mps P → mx_M l yX12_isOpen cX12_isOpen 2 (some .boolean) 0 0 G P [.ref a0, .int p1] σ (some (.int r)) σ' := by
  intro hcap hcau
  refine mx_ofW (by decide +kernel) hcap hcau (Nat.le_of_ble_eq_true rfl) ?_
  intro p e s m below meth c hx hb hr hml hts hown hlocks hname hK hJ ls hl
  have hz0 := hJ.2.1
  have hown : s.vm.findClass RX12 = some m.cls := hown
  have hl : lv_has ls 2 [(0, .ref a0), (1, .int p1)] := hl
  have D29 : ∀ (w0 : Int32) (τ : mx_S), f_X12_isOpen_D29 P w0 τ = some (r, σ') → ∀ (H : Heap) (locs : List Loc), mx_J G P s.heap (mxz σ) (mxu σ) τ H locs → ∀ ls : Array Slot, lv_has ls 2 [] → W p l e (mx_rm P 0 0 σ) s m ([.ref a0, .int p1] : List Value).toArray below meth c H locs (mxz τ - mxz σ) (mxu τ - mxu σ) (mx_Z below G P (some (.int r)) σ σ' [.ref a0, .int p1] s) (F0 m 29 ls [.int w0]) := by
    intro w0 τ hf _ _ hJ ls hl
    unfold f_X12_isOpen_D29 at hf
    exact mx_zret hx hb hr hlocks hJ hf dX12_isOpen_29
  have D24 : ∀  (τ : mx_S), f_X12_isOpen_D24 P  τ = some (r, σ') → ∀ (H : Heap) (locs : List Loc), mx_J G P s.heap (mxz σ) (mxu σ) τ H locs → ∀ ls : Array Slot, lv_has ls 2 [] → W p l e (mx_rm P 0 0 σ) s m ([.ref a0, .int p1] : List Value).toArray below meth c H locs (mxz τ - mxz σ) (mxu τ - mxu σ) (mx_Z below G P (some (.int r)) σ σ' [.ref a0, .int p1] s) (F0 m 24 ls []) := by
    intro  τ hf _ _ hJ ls hl
    unfold f_X12_isOpen_D24 at hf
    refine lv_iconst (v := 1) hx hb dX12_isOpen_24 (by decide) ?_
    refine lv_goto (tgt := 29) hx hb dX12_isOpen_25 (by decide) ?_
    exact D29 (1 : Int32) τ hf _ _ hJ ls (lv_sub hl [] rfl)
  unfold f_X12_isOpen at hf
  refine lv_aload_n hx hb dX12_isOpen_0 rfl (lv_at hl 0 rfl) ?_
  obtain ⟨b1, e2, hf⟩ := mb0 hf
  refine my_gR hx hb hts hown hK hJ fd_RX12_20 hv_12_13 e2 dX12_isOpen_1 ?_
  refine lv_iconst (v := 2) hx hb dX12_isOpen_4 (by decide) ?_
  refine lv_iload_n hx hb dX12_isOpen_5 rfl (lv_at hl 1 rfl) ?_
  refine lv_imul hx hb dX12_isOpen_6 ?_
  obtain ⟨x3, e4, hf⟩ := mb0 hf
  refine mx_aZ hx hb hK hJ e4 dX12_isOpen_7 ?_
  refine lv_if_ne (tgt := 24) hx hb dX12_isOpen_8 (by decide) (fun c5 => ?_) (fun c5 => ?_)
  · rw [if_neg c5] at hf
    exact D24  σ hf _ _ hJ ls (lv_sub hl [] rfl)
  · rw [if_pos c5] at hf
    refine lv_aload_n hx hb dX12_isOpen_11 rfl (lv_at hl 0 rfl) ?_
    obtain ⟨b6, e7, hf⟩ := mb0 hf
    refine my_gR hx hb hts hown hK hJ fd_RX12_20 hv_12_13 e7 dX12_isOpen_12 ?_
    refine lv_iconst (v := 2) hx hb dX12_isOpen_15 (by decide) ?_
    refine lv_iload_n hx hb dX12_isOpen_16 rfl (lv_at hl 1 rfl) ?_
    refine lv_imul hx hb dX12_isOpen_17 ?_
    refine lv_iconst (v := 1) hx hb dX12_isOpen_18 (by decide) ?_
    refine lv_iadd hx hb dX12_isOpen_19 ?_
    obtain ⟨x8, e9, hf⟩ := mb0 hf
    refine mx_aZ hx hb hK hJ e9 dX12_isOpen_20 ?_
    refine lv_if_eq (tgt := 28) hx hb dX12_isOpen_21 (by decide) (fun c10 => ?_) (fun c10 => ?_)
    · rw [if_pos c10] at hf
      refine lv_iconst (v := 0) hx hb dX12_isOpen_28 (by decide) ?_
      exact D29 (0 : Int32) σ hf _ _ hJ ls (lv_sub hl [] rfl)
    · rw [if_neg c10] at hf
      exact D24  σ hf _ _ hJ ls (lv_sub hl [] rfl)
set_option maxHeartbeats 4000000 in
set_option maxRecDepth 100000 in
theorem c_X12_worked (l : Launch) (G : mx_G) (P : mx_P) (a0 : Nat) (p1 : Int32) (σ : mx_S) (r : Int32) (σ' : mx_S) (hf : f_X12_worked P a0 p1 σ = some (r, σ')) : mxz σ ≤ mpc P → mxu σ ≤ mps P → mx_M l yX12_worked cX12_worked 4 (some .int) 6 159 G P [.ref a0, .int p1] σ (some (.int r)) σ' := by
  intro hcap hcau
  refine mx_ofW (by decide +kernel) hcap hcau (Nat.le_of_ble_eq_true rfl) ?_
  intro p e s m below meth c hx hb hr hml hts hown hlocks hname hK hJ ls hl
  have hz0 := hJ.2.1
  have hown : s.vm.findClass RX12 = some m.cls := hown
  have hl : lv_has ls 4 [(0, .ref a0), (1, .int p1)] := hl
  have D64_14 : ∀ (v0 : Nat) (v1 : Int32) (v3 : Int32) (w0 : Int32) (τ : mx_S) (o : (Int32 × Int32 × mx_S) ⊕ ((mx_S) ⊕ (Int32 × mx_S))), f_X12_worked_D64_14 P v0 v1 v3 w0 τ = some o → (∀ (y2 : Int32) (y3 : Int32) (υ : mx_S), o = .inl (y2, y3, υ) → ∀ (H : Heap) (locs : List Loc), mx_J G P s.heap (mxz σ) (mxu σ) υ H locs → ∀ ls : Array Slot, lv_has ls 4 [(0, .ref v0), (1, .int v1), (2, .int y2), (3, .int y3)] → W p l e (mx_rm P 6 159 σ) s m ([.ref a0, .int p1] : List Value).toArray below meth c H locs (mxz υ - mxz σ) (mxu υ - mxu σ) (mx_Z below G P (some (.int r)) σ σ' [.ref a0, .int p1] s) (F0 m 14 ls [])) → (∀  (υ : mx_S), o = .inr (.inl υ) → ∀ (H : Heap) (locs : List Loc), mx_J G P s.heap (mxz σ) (mxu σ) υ H locs → ∀ ls : Array Slot, lv_has ls 4 [] → W p l e (mx_rm P 6 159 σ) s m ([.ref a0, .int p1] : List Value).toArray below meth c H locs (mxz υ - mxz σ) (mxu υ - mxu σ) (mx_Z below G P (some (.int r)) σ σ' [.ref a0, .int p1] s) (F0 m 40 ls [])) → (∀ (y2 : Int32) (υ : mx_S), o = .inr (.inr (y2, υ)) → ∀ (H : Heap) (locs : List Loc), mx_J G P s.heap (mxz σ) (mxu σ) υ H locs → ∀ ls : Array Slot, lv_has ls 4 [(0, .ref v0), (2, .int y2)] → W p l e (mx_rm P 6 159 σ) s m ([.ref a0, .int p1] : List Value).toArray below meth c H locs (mxz υ - mxz σ) (mxu υ - mxu σ) (mx_Z below G P (some (.int r)) σ σ' [.ref a0, .int p1] s) (F0 m 71 ls [])) → ∀ (H : Heap) (locs : List Loc), mx_J G P s.heap (mxz σ) (mxu σ) τ H locs → ∀ ls : Array Slot, lv_has ls 4 [(0, .ref v0), (1, .int v1), (3, .int v3)] → W p l e (mx_rm P 6 159 σ) s m ([.ref a0, .int p1] : List Value).toArray below meth c H locs (mxz τ - mxz σ) (mxu τ - mxu σ) (mx_Z below G P (some (.int r)) σ σ' [.ref a0, .int p1] s) (F0 m 64 ls [.int w0]) := by
    intro v0 v1 v3 w0 τ o hf Kb Ke0 Ke1 H locs hJ ls hl
    unfold f_X12_worked_D64_14 at hf
    refine lv_istore_n (lv' := [(2, .int w0), (0, .ref v0), (1, .int v1), (3, .int v3)]) hx hb dX12_worked_64 rfl hl (by decide) rfl (fun ls hl => ?_)
    obtain ⟨x20, e21, hf⟩ := mb0 hf
    refine lv_iinc (v := x20) (lv' := [(3, .int x20), (2, .int w0), (0, .ref v0), (1, .int v1)]) hx hb dX12_worked_65 hl (k := 3) rfl (by rw [← Option.some.inj e21]; rfl) (by decide) rfl (fun ls hl => ?_)
    refine lv_goto (tgt := 14) hx hb dX12_worked_68 (by decide) ?_
    exact Kb w0 x20 τ (Option.some.inj hf).symm _ _ hJ ls (lv_sub hl [2, 3, 1, 0] rfl)
  have D59_14 : ∀ (v0 : Nat) (v1 : Int32) (v3 : Int32) (τ : mx_S) (o : (Int32 × Int32 × mx_S) ⊕ ((mx_S) ⊕ (Int32 × mx_S))), f_X12_worked_D59_14 P v0 v1 v3 τ = some o → (∀ (y2 : Int32) (y3 : Int32) (υ : mx_S), o = .inl (y2, y3, υ) → ∀ (H : Heap) (locs : List Loc), mx_J G P s.heap (mxz σ) (mxu σ) υ H locs → ∀ ls : Array Slot, lv_has ls 4 [(0, .ref v0), (1, .int v1), (2, .int y2), (3, .int y3)] → W p l e (mx_rm P 6 159 σ) s m ([.ref a0, .int p1] : List Value).toArray below meth c H locs (mxz υ - mxz σ) (mxu υ - mxu σ) (mx_Z below G P (some (.int r)) σ σ' [.ref a0, .int p1] s) (F0 m 14 ls [])) → (∀  (υ : mx_S), o = .inr (.inl υ) → ∀ (H : Heap) (locs : List Loc), mx_J G P s.heap (mxz σ) (mxu σ) υ H locs → ∀ ls : Array Slot, lv_has ls 4 [] → W p l e (mx_rm P 6 159 σ) s m ([.ref a0, .int p1] : List Value).toArray below meth c H locs (mxz υ - mxz σ) (mxu υ - mxu σ) (mx_Z below G P (some (.int r)) σ σ' [.ref a0, .int p1] s) (F0 m 40 ls [])) → (∀ (y2 : Int32) (υ : mx_S), o = .inr (.inr (y2, υ)) → ∀ (H : Heap) (locs : List Loc), mx_J G P s.heap (mxz σ) (mxu σ) υ H locs → ∀ ls : Array Slot, lv_has ls 4 [(0, .ref v0), (2, .int y2)] → W p l e (mx_rm P 6 159 σ) s m ([.ref a0, .int p1] : List Value).toArray below meth c H locs (mxz υ - mxz σ) (mxu υ - mxu σ) (mx_Z below G P (some (.int r)) σ σ' [.ref a0, .int p1] s) (F0 m 71 ls [])) → ∀ (H : Heap) (locs : List Loc), mx_J G P s.heap (mxz σ) (mxu σ) τ H locs → ∀ ls : Array Slot, lv_has ls 4 [(0, .ref v0), (1, .int v1), (3, .int v3)] → W p l e (mx_rm P 6 159 σ) s m ([.ref a0, .int p1] : List Value).toArray below meth c H locs (mxz τ - mxz σ) (mxu τ - mxu σ) (mx_Z below G P (some (.int r)) σ σ' [.ref a0, .int p1] s) (F0 m 59 ls []) := by
    intro v0 v1 v3 τ o hf Kb Ke0 Ke1 H locs hJ ls hl
    unfold f_X12_worked_D59_14 at hf
    refine lv_iconst (v := 1) hx hb dX12_worked_59 (by decide) ?_
    refine lv_goto (tgt := 64) hx hb dX12_worked_60 (by decide) ?_
    exact D64_14 v0 v1 v3 (1 : Int32) τ o hf Kb Ke0 Ke1 _ _ hJ ls (lv_sub hl [0, 1, 2] rfl)
  have B14 : ∀ (v0 : Nat) (v1 : Int32) (v2 : Int32) (v3 : Int32) (τ : mx_S) (o : (Int32 × Int32 × mx_S) ⊕ ((mx_S) ⊕ (Int32 × mx_S))), f_X12_worked_B14 P v0 v1 v2 v3 τ = some o → (∀ (y2 : Int32) (y3 : Int32) (υ : mx_S), o = .inl (y2, y3, υ) → ∀ (H : Heap) (locs : List Loc), mx_J G P s.heap (mxz σ) (mxu σ) υ H locs → ∀ ls : Array Slot, lv_has ls 4 [(0, .ref v0), (1, .int v1), (2, .int y2), (3, .int y3)] → W p l e (mx_rm P 6 159 σ) s m ([.ref a0, .int p1] : List Value).toArray below meth c H locs (mxz υ - mxz σ) (mxu υ - mxu σ) (mx_Z below G P (some (.int r)) σ σ' [.ref a0, .int p1] s) (F0 m 14 ls [])) → (∀  (υ : mx_S), o = .inr (.inl υ) → ∀ (H : Heap) (locs : List Loc), mx_J G P s.heap (mxz σ) (mxu σ) υ H locs → ∀ ls : Array Slot, lv_has ls 4 [] → W p l e (mx_rm P 6 159 σ) s m ([.ref a0, .int p1] : List Value).toArray below meth c H locs (mxz υ - mxz σ) (mxu υ - mxu σ) (mx_Z below G P (some (.int r)) σ σ' [.ref a0, .int p1] s) (F0 m 40 ls [])) → (∀ (y2 : Int32) (υ : mx_S), o = .inr (.inr (y2, υ)) → ∀ (H : Heap) (locs : List Loc), mx_J G P s.heap (mxz σ) (mxu σ) υ H locs → ∀ ls : Array Slot, lv_has ls 4 [(0, .ref v0), (2, .int y2)] → W p l e (mx_rm P 6 159 σ) s m ([.ref a0, .int p1] : List Value).toArray below meth c H locs (mxz υ - mxz σ) (mxu υ - mxu σ) (mx_Z below G P (some (.int r)) σ σ' [.ref a0, .int p1] s) (F0 m 71 ls [])) → ∀ (H : Heap) (locs : List Loc), mx_J G P s.heap (mxz σ) (mxu σ) τ H locs → ∀ ls : Array Slot, lv_has ls 4 [(0, .ref v0), (1, .int v1), (2, .int v2), (3, .int v3)] → W p l e (mx_rm P 6 159 σ) s m ([.ref a0, .int p1] : List Value).toArray below meth c H locs (mxz τ - mxz σ) (mxu τ - mxu σ) (mx_Z below G P (some (.int r)) σ σ' [.ref a0, .int p1] s) (F0 m 14 ls []) := by
    intro v0 v1 v2 v3 τ o hf Kb Ke0 Ke1 H locs hJ ls hl
    unfold f_X12_worked_B14 at hf
    refine lv_iload_n hx hb dX12_worked_14 rfl (lv_at hl 3 rfl) ?_
    refine lv_aload_n hx hb dX12_worked_15 rfl (lv_at hl 0 rfl) ?_
    obtain ⟨x5, e6, hf⟩ := mb0 hf
    refine my_gI hx hb hts hown hK hJ fd_RX12_460 hv_12_19 e6 dX12_worked_16 ?_
    refine lv_icmp_ge (tgt := 71) hx hb dX12_worked_19 (by decide) (fun c7 => ?_) (fun c7 => ?_)
    · rw [if_pos c7] at hf
      exact Ke1 v2 τ (Option.some.inj hf).symm _ _ hJ ls (lv_sub hl [0, 2] rfl)
    · rw [if_neg c7] at hf
      refine lv_aload_n hx hb dX12_worked_22 rfl (lv_at hl 0 rfl) ?_
      refine lv_iload_n hx hb dX12_worked_23 rfl (lv_at hl 1 rfl) ?_
      refine lv_aload_n hx hb dX12_worked_24 rfl (lv_at hl 0 rfl) ?_
      obtain ⟨b8, e9, hf⟩ := mb0 hf
      refine my_gR hx hb hts hown hK hJ fd_RX12_60 hv_12_33 e9 dX12_worked_25 ?_
      refine lv_iload_n hx hb dX12_worked_28 rfl (lv_at hl 3 rfl) ?_
      obtain ⟨x10, e11, hf⟩ := mb0 hf
      refine mx_aI hx hb hK hJ e11 dX12_worked_29 ?_
      obtain ⟨i12, e13, hf⟩ := mb0 hf
      obtain ⟨σ14, e15, hf⟩ := mb0 hf
      refine mx_callV (As := [.int v1, .int x10]) (rest := []) hx hb hml hts hown hK hJ rfl rfl (ci := 12) rfl e13 (c_X12_placeOf l G P v0 v1 x10 τ σ14 e15) me_X12_placeOf kw_2366 ks_104 kw_2364 (Nat.le_of_ble_eq_true rfl) (Nat.le_of_ble_eq_true rfl) rfl hl.1 rfl (Nat.le_of_ble_eq_true rfl) dX12_worked_30 (fun H locs hJ => ?_)
      refine lv_aload_n hx hb dX12_worked_33 rfl (lv_at hl 0 rfl) ?_
      obtain ⟨x16, e17, hf⟩ := mb0 hf
      refine my_gI hx hb hts hown hK hJ fd_RX12_500 hv_12_54 e17 dX12_worked_34 ?_
      refine lv_if_eq (tgt := 42) hx hb dX12_worked_37 (by decide) (fun c18 => ?_) (fun c18 => ?_)
      · rw [if_pos c18] at hf
        refine lv_iload_n hx hb dX12_worked_42 rfl (lv_at hl 2 rfl) ?_
        refine lv_if_ne (tgt := 59) hx hb dX12_worked_43 (by decide) (fun c19 => ?_) (fun c19 => ?_)
        · rw [if_neg c19] at hf
          exact D59_14 v0 v1 v3 σ14 o hf Kb Ke0 Ke1 _ _ hJ ls (lv_sub hl [0, 1, 3] rfl)
        · rw [if_pos c19] at hf
          refine lv_aload_n hx hb dX12_worked_46 rfl (lv_at hl 0 rfl) ?_
          refine lv_aload_n hx hb dX12_worked_47 rfl (lv_at hl 0 rfl) ?_
          obtain ⟨b22, e23, hf⟩ := mb0 hf
          refine my_gR hx hb hts hown hK hJ fd_RX12_60 hv_12_33 e23 dX12_worked_48 ?_
          refine lv_iload_n hx hb dX12_worked_51 rfl (lv_at hl 3 rfl) ?_
          obtain ⟨x24, e25, hf⟩ := mb0 hf
          refine mx_aI hx hb hK hJ e25 dX12_worked_52 ?_
          obtain ⟨i26, e27, hf⟩ := mb0 hf
          obtain ⟨x29, σ28, e30, hf⟩ := mc0 hf
          refine mx_callV (As := [.int x24]) (rest := []) hx hb hml hts hown hK hJ rfl rfl (ci := 12) rfl e27 (c_X12_isOpen l G P v0 x24 σ14 x29 σ28 e30) me_X12_isOpen kw_2485 ks_129 kw_2483 (Nat.le_of_ble_eq_true rfl) (Nat.le_of_ble_eq_true rfl) rfl hl.1 rfl (Nat.le_of_ble_eq_true rfl) dX12_worked_53 (fun H locs hJ => ?_)
          refine lv_if_eq (tgt := 63) hx hb dX12_worked_56 (by decide) (fun c31 => ?_) (fun c31 => ?_)
          · rw [if_pos c31] at hf
            refine lv_iconst (v := 0) hx hb dX12_worked_63 (by decide) ?_
            exact D64_14 v0 v1 v3 (0 : Int32) σ28 o hf Kb Ke0 Ke1 _ _ hJ ls (lv_sub hl [0, 1, 3] rfl)
          · rw [if_neg c31] at hf
            exact D59_14 v0 v1 v3 σ28 o hf Kb Ke0 Ke1 _ _ hJ ls (lv_sub hl [0, 1, 3] rfl)
      · rw [if_neg c18] at hf
        exact Ke0 σ14 (Option.some.inj hf).symm _ _ hJ ls (lv_sub hl [] rfl)
  have L14 : ∀ (v0 : Nat) (v1 : Int32) (n : Nat) (v2 : Int32) (v3 : Int32) (τ : mx_S) (o : (mx_S) ⊕ (Int32 × mx_S)), mx_lp (f_X12_worked_L14 P v0 v1) n (v2, v3, τ) = some o → (∀  (υ : mx_S), o = (.inl υ) → ∀ (H : Heap) (locs : List Loc), mx_J G P s.heap (mxz σ) (mxu σ) υ H locs → ∀ ls : Array Slot, lv_has ls 4 [] → W p l e (mx_rm P 6 159 σ) s m ([.ref a0, .int p1] : List Value).toArray below meth c H locs (mxz υ - mxz σ) (mxu υ - mxu σ) (mx_Z below G P (some (.int r)) σ σ' [.ref a0, .int p1] s) (F0 m 40 ls [])) → (∀ (y2 : Int32) (υ : mx_S), o = (.inr (y2, υ)) → ∀ (H : Heap) (locs : List Loc), mx_J G P s.heap (mxz σ) (mxu σ) υ H locs → ∀ ls : Array Slot, lv_has ls 4 [(0, .ref v0), (2, .int y2)] → W p l e (mx_rm P 6 159 σ) s m ([.ref a0, .int p1] : List Value).toArray below meth c H locs (mxz υ - mxz σ) (mxu υ - mxu σ) (mx_Z below G P (some (.int r)) σ σ' [.ref a0, .int p1] s) (F0 m 71 ls [])) → ∀ (H : Heap) (locs : List Loc), mx_J G P s.heap (mxz σ) (mxu σ) τ H locs → ∀ ls : Array Slot, lv_has ls 4 [(0, .ref v0), (1, .int v1), (2, .int v2), (3, .int v3)] → W p l e (mx_rm P 6 159 σ) s m ([.ref a0, .int p1] : List Value).toArray below meth c H locs (mxz τ - mxz σ) (mxu τ - mxu σ) (mx_Z below G P (some (.int r)) σ σ' [.ref a0, .int p1] s) (F0 m 14 ls []) := by
    intro v0 v1 n
    induction n with
    | zero =>
      intro v2 v3 τ o hf
      rw [mx_lp0] at hf
      cases hf
    | succ n ih =>
      intro v2 v3 τ o hf Ke0 Ke1 H locs hJ ls hl
      rw [mx_lpS] at hf
      obtain ⟨b, eb, hf⟩ := mb0 hf
      refine B14 v0 v1 v2 v3 τ b eb (fun y2 y3 υ ho H locs hJ ls hl => ?_) (fun  υ ho H locs hJ ls hl => ?_) (fun y2 υ ho H locs hJ ls hl => ?_) H locs hJ ls hl
      · subst ho
        exact ih y2 y3 υ o hf Ke0 Ke1 H locs hJ ls hl
      · subst ho
        exact Ke0  υ (Option.some.inj hf).symm _ _ hJ ls hl
      · subst ho
        exact Ke1 y2 υ (Option.some.inj hf).symm _ _ hJ ls hl
  have D87 : ∀ (w0 : Int32) (τ : mx_S), f_X12_worked_D87 P w0 τ = some (r, σ') → ∀ (H : Heap) (locs : List Loc), mx_J G P s.heap (mxz σ) (mxu σ) τ H locs → ∀ ls : Array Slot, lv_has ls 4 [] → W p l e (mx_rm P 6 159 σ) s m ([.ref a0, .int p1] : List Value).toArray below meth c H locs (mxz τ - mxz σ) (mxu τ - mxu σ) (mx_Z below G P (some (.int r)) σ σ' [.ref a0, .int p1] s) (F0 m 87 ls [.int w0]) := by
    intro w0 τ hf _ _ hJ ls hl
    unfold f_X12_worked_D87 at hf
    exact my_iret hx hb hr hlocks hJ hf dX12_worked_87
  have D82 : ∀  (τ : mx_S), f_X12_worked_D82 P  τ = some (r, σ') → ∀ (H : Heap) (locs : List Loc), mx_J G P s.heap (mxz σ) (mxu σ) τ H locs → ∀ ls : Array Slot, lv_has ls 4 [] → W p l e (mx_rm P 6 159 σ) s m ([.ref a0, .int p1] : List Value).toArray below meth c H locs (mxz τ - mxz σ) (mxu τ - mxu σ) (mx_Z below G P (some (.int r)) σ σ' [.ref a0, .int p1] s) (F0 m 82 ls []) := by
    intro  τ hf _ _ hJ ls hl
    unfold f_X12_worked_D82 at hf
    refine lv_iconst (v := 2) hx hb dX12_worked_82 (by decide) ?_
    refine lv_goto (tgt := 87) hx hb dX12_worked_83 (by decide) ?_
    exact D87 (2 : Int32) τ hf _ _ hJ ls (lv_sub hl [] rfl)
  unfold f_X12_worked at hf
  refine lv_aload_n hx hb dX12_worked_0 rfl (lv_at hl 0 rfl) ?_
  refine lv_iconst (v := 0) hx hb dX12_worked_1 (by decide) ?_
  obtain ⟨σ1, e2, hf⟩ := mb0 hf
  refine my_pZ hx hb hts hown hK hJ fd_RX12_500 cd_12 (Or.inl rfl) ht_12_54 e2 dX12_worked_2 (fun H locs hJ => ?_)
  refine lv_aload_n hx hb dX12_worked_5 rfl (lv_at hl 0 rfl) ?_
  refine lv_iconst (v := 0) hx hb dX12_worked_6 (by decide) ?_
  obtain ⟨σ3, e4, hf⟩ := mb0 hf
  refine my_pZ hx hb hts hown hK hJ fd_RX12_503 cd_12 (Or.inl rfl) ht_12_55 e4 dX12_worked_7 (fun H locs hJ => ?_)
  refine lv_iconst (v := 0) hx hb dX12_worked_10 (by decide) ?_
  refine lv_istore_n (lv' := [(2, .int (0 : Int32)), (0, .ref a0), (1, .int p1)]) hx hb dX12_worked_11 rfl hl (by decide) rfl (fun ls hl => ?_)
  refine lv_iconst (v := 0) hx hb dX12_worked_12 (by decide) ?_
  refine lv_istore_n (lv' := [(3, .int (0 : Int32)), (2, .int (0 : Int32)), (0, .ref a0), (1, .int p1)]) hx hb dX12_worked_13 rfl hl (by decide) rfl (fun ls hl => ?_)
  obtain ⟨o32, e33, hf⟩ := mb0 hf
  refine L14 a0 p1 (mpN P) (0 : Int32) (0 : Int32) σ3 o32 e33 (fun σ34 ho H locs hJ ls hl => ?_) (fun y35 σ36 ho H locs hJ ls hl => ?_) _ _ hJ ls (lv_sub hl [2, 3, 1, 0] rfl)
  · rw [ho] at hf
    have hf : (some ((0 : Int32), σ34)) = some (r, σ') := hf
    refine lv_iconst (v := 0) hx hb dX12_worked_40 (by decide) ?_
    exact my_iret hx hb hr hlocks hJ hf dX12_worked_41
  · rw [ho] at hf
    have hf : ((mg_I σ36 a0 12 55).bind fun x37 => (if x37 = 0 then (if y35 = 0 then f_X12_worked_D87 P (1 : Int32) σ36 else f_X12_worked_D82 P  σ36) else f_X12_worked_D82 P  σ36)) = some (r, σ') := hf
    refine lv_aload_n hx hb dX12_worked_71 rfl (lv_at hl 0 rfl) ?_
    obtain ⟨x37, e38, hf⟩ := mb0 hf
    refine my_gI hx hb hts hown hK hJ fd_RX12_503 hv_12_55 e38 dX12_worked_72 ?_
    refine lv_if_ne (tgt := 82) hx hb dX12_worked_75 (by decide) (fun c39 => ?_) (fun c39 => ?_)
    · rw [if_neg c39] at hf
      exact D82  σ36 hf _ _ hJ ls (lv_sub hl [] rfl)
    · rw [if_pos c39] at hf
      refine lv_iload_n hx hb dX12_worked_78 rfl (lv_at hl 1 rfl) ?_
      refine lv_if_eq (tgt := 86) hx hb dX12_worked_79 (by decide) (fun c40 => ?_) (fun c40 => ?_)
      · rw [if_pos c40] at hf
        refine lv_iconst (v := 1) hx hb dX12_worked_86 (by decide) ?_
        exact D87 (1 : Int32) σ36 hf _ _ hJ ls (lv_sub hl [] rfl)
      · rw [if_neg c40] at hf
        exact D82  σ36 hf _ _ hJ ls (lv_sub hl [] rfl)
