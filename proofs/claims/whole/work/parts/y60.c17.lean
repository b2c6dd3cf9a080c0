set_option maxHeartbeats 4000000 in
set_option maxRecDepth 100000 in
theorem c_X12_taken (l : Launch) (G : mx_G) (P : mx_P) (a0 : Nat) (p1 : Int32) (p2 : Int32) (σ : mx_S) (r : Int32) (σ' : mx_S) (hf : f_X12_taken P a0 p1 p2 σ = some (r, σ')) : mxz σ ≤ mpc P → mxu σ ≤ mps P → mx_M l yX12_taken cX12_taken 4 (some .int) 4 96 G P [.ref a0, .int p1, .int p2] σ (some (.int r)) σ' := by
  intro hcap hcau
  refine mx_ofW (by decide +kernel) hcap hcau (Nat.le_of_ble_eq_true rfl) ?_
  intro p e s m below meth c hx hb hr hml hts hown hlocks hname hK hJ ls hl
  have hz0 := hJ.2.1
  have hown : s.vm.findClass RX12 = some m.cls := hown
  have hl : lv_has ls 4 [(0, .ref a0), (1, .int p1), (2, .int p2)] := hl
  unfold f_X12_taken at hf
  refine lv_aload_n hx hb dX12_taken_0 rfl (lv_at hl 0 rfl) ?_
  refine lv_iconst (v := 2) hx hb dX12_taken_1 (by decide) ?_
  obtain ⟨i1, e2, hf⟩ := mb0 hf
  obtain ⟨x4, σ3, e5, hf⟩ := mc0 hf
  refine mx_callV (As := [.int (2 : Int32)]) (rest := []) hx hb hml hts hown hK hJ rfl rfl (ci := 12) rfl e2 (c_X12_takes l G P a0 (2 : Int32) σ x4 σ3 e5) me_X12_takes kw_2291 ks_89 kw_2289 (Nat.le_of_ble_eq_true rfl) (Nat.le_of_ble_eq_true rfl) rfl hl.1 rfl (Nat.le_of_ble_eq_true rfl) dX12_taken_2 (fun H locs hJ => ?_)
  refine lv_if_ne (tgt := 10) hx hb dX12_taken_5 (by decide) (fun c6 => ?_) (fun c6 => ?_)
  · rw [if_neg c6] at hf
    refine lv_aload_n hx hb dX12_taken_10 rfl (lv_at hl 0 rfl) ?_
    refine lv_iload_n hx hb dX12_taken_11 rfl (lv_at hl 1 rfl) ?_
    refine lv_i2l hx hb dX12_taken_12 rfl ?_
    refine lv_iload_n hx hb dX12_taken_13 rfl (lv_at hl 2 rfl) ?_
    refine lv_i2l hx hb dX12_taken_14 rfl ?_
    obtain ⟨i7, e8, hf⟩ := mb0 hf
    obtain ⟨σ9, e10, hf⟩ := mb0 hf
    refine mx_callV (As := [.long (p1.toInt64), .long (p2.toInt64)]) (rest := []) hx hb hml hts hown hK hJ rfl rfl (ci := 12) rfl e8 (c_X12_wholeNumber l G P a0 (p1.toInt64) (p2.toInt64) σ3 σ9 e10) me_X12_wholeNumber kw_2320 ks_96 kw_2318 (Nat.le_of_ble_eq_true rfl) (Nat.le_of_ble_eq_true rfl) rfl hl.1 rfl (Nat.le_of_ble_eq_true rfl) dX12_taken_15 (fun H locs hJ => ?_)
    refine lv_aload_n hx hb dX12_taken_18 rfl (lv_at hl 0 rfl) ?_
    obtain ⟨x11, e12, hf⟩ := mb0 hf
    refine my_gL hx hb hts hown hK hJ fd_RX12_353 hv_12_17 e12 dX12_taken_19 ?_
    refine lv_l2i hx hb dX12_taken_22 rfl ?_
    obtain ⟨x13, e14, hf⟩ := mb0 hf
    refine mx_nI e14 ?_
    refine lv_istore_n (lv' := [(3, .int x13), (0, .ref a0), (1, .int p1), (2, .int p2)]) hx hb dX12_taken_23 rfl hl (by decide) rfl (fun ls hl => ?_)
    refine lv_aload_n hx hb dX12_taken_24 rfl (lv_at hl 1 rfl) ?_
    obtain ⟨i15, e16, hf⟩ := mb0 hf
    obtain ⟨σ17, e18, hf⟩ := mb0 hf
    refine mx_callV (As := []) (rest := []) hx hb hml hts hown hK hJ rfl rfl (ci := 12) rfl e16 (c_X12_scan l G P a0 σ9 σ17 e18) me_X12_scan kw_2243 ks_82 kw_2241 (Nat.le_of_ble_eq_true rfl) (Nat.le_of_ble_eq_true rfl) rfl hl.1 rfl (Nat.le_of_ble_eq_true rfl) dX12_taken_25 (fun H locs hJ => ?_)
    refine lv_iload_n hx hb dX12_taken_28 rfl (lv_at hl 0 rfl) ?_
    exact my_iret hx hb hr hlocks hJ hf dX12_taken_29
  · rw [if_pos c6] at hf
    refine lv_iconst (v := 0) hx hb dX12_taken_8 (by decide) ?_
    exact my_iret hx hb hr hlocks hJ hf dX12_taken_9
set_option maxHeartbeats 4000000 in
set_option maxRecDepth 100000 in
theorem c_X12_driveStatement (l : Launch) (G : mx_G) (P : mx_P) (a0 : Nat) (σ : mx_S) (σ' : mx_S) (hf : f_X12_driveStatement P a0 σ = some σ') : mxz σ ≤ mpc P → mxu σ ≤ mps P → mx_M l yX12_driveStatement cX12_driveStatement 10 none 5 119 G P [.ref a0] σ none σ' := by
  intro hcap hcau
  refine mx_ofW (by decide +kernel) hcap hcau (Nat.le_of_ble_eq_true rfl) ?_
  intro p e s m below meth c hx hb hr hml hts hown hlocks hname hK hJ ls hl
  have hz0 := hJ.2.1
  have hown : s.vm.findClass RX12 = some m.cls := hown
  have hl : lv_has ls 10 [(0, .ref a0)] := hl
  have D342 : ∀  (τ : mx_S), f_X12_driveStatement_D342 P  τ = some σ' → ∀ (H : Heap) (locs : List Loc), mx_J G P s.heap (mxz σ) (mxu σ) τ H locs → ∀ ls : Array Slot, lv_has ls 10 [] → W p l e (mx_rm P 5 119 σ) s m ([.ref a0] : List Value).toArray below meth c H locs (mxz τ - mxz σ) (mxu τ - mxu σ) (mx_Z below G P none σ σ' [.ref a0] s) (F0 m 342 ls []) := by
    intro  τ hf _ _ hJ ls hl
    unfold f_X12_driveStatement_D342 at hf
    exact my_vret hx hb hr hlocks hJ hf dX12_driveStatement_342
  have D327 : ∀ (v0 : Nat) (v1 : Int32) (v2 : Int32) (v3 : Int32) (v4 : Int32) (v5 : Int32) (v6 : Int32) (v7 : Int32) (v8 : Int64) (τ : mx_S), f_X12_driveStatement_D327 P v0 v1 v2 v3 v4 v5 v6 v7 v8 τ = some σ' → ∀ (H : Heap) (locs : List Loc), mx_J G P s.heap (mxz σ) (mxu σ) τ H locs → ∀ ls : Array Slot, lv_has ls 10 [(0, .ref v0), (1, .int v1), (2, .int v2), (3, .int v3), (4, .int v4), (5, .int v5), (6, .int v6), (7, .int v7), (8, .long v8)] → W p l e (mx_rm P 5 119 σ) s m ([.ref a0] : List Value).toArray below meth c H locs (mxz τ - mxz σ) (mxu τ - mxu σ) (mx_Z below G P none σ σ' [.ref a0] s) (F0 m 327 ls []) := by
    intro v0 v1 v2 v3 v4 v5 v6 v7 v8 τ hf _ _ hJ ls hl
    unfold f_X12_driveStatement_D327 at hf
    refine lv_aload_n hx hb dX12_driveStatement_327 rfl (lv_at hl 0 rfl) ?_
    obtain ⟨i48, e49, hf⟩ := mb0 hf
    obtain ⟨σ50, e51, hf⟩ := mb0 hf
    refine mx_callV (As := []) (rest := []) hx hb hml hts hown hK hJ rfl rfl (ci := 12) rfl e49 (c_X12_ends l G P v0 τ σ50 e51) me_X12_ends kw_2328 ks_98 kw_2326 (Nat.le_of_ble_eq_true rfl) (Nat.le_of_ble_eq_true rfl) rfl hl.1 rfl (Nat.le_of_ble_eq_true rfl) dX12_driveStatement_328 (fun H locs hJ => ?_)
    refine lv_aload_n hx hb dX12_driveStatement_331 rfl (lv_at hl 0 rfl) ?_
    obtain ⟨x52, e53, hf⟩ := mb0 hf
    refine my_gI hx hb hts hown hK hJ fd_RX12_266 hv_12_4 e53 dX12_driveStatement_332 ?_
    refine lv_if_gt (tgt := 342) hx hb dX12_driveStatement_335 (by decide) (fun c54 => ?_) (fun c54 => ?_)
    · rw [if_pos c54] at hf
      exact D342  σ50 hf _ _ hJ ls (lv_sub hl [] rfl)
    · rw [if_neg c54] at hf
      refine lv_iload_n hx hb dX12_driveStatement_338 rfl (lv_at hl 3 rfl) ?_
      refine lv_if_ne (tgt := 343) hx hb dX12_driveStatement_339 (by decide) (fun c55 => ?_) (fun c55 => ?_)
      · rw [if_neg c55] at hf
        refine lv_aload_n hx hb dX12_driveStatement_343 rfl (lv_at hl 0 rfl) ?_
        obtain ⟨b56, e57, hf⟩ := mb0 hf
        refine my_gR hx hb hts hown hK hJ fd_RX12_225 hv_12_106 e57 dX12_driveStatement_344 ?_
        refine lv_iload_n hx hb dX12_driveStatement_347 rfl (lv_at hl 2 rfl) ?_
        refine lv_iload_n hx hb dX12_driveStatement_348 rfl (lv_at hl 1 rfl) ?_
        obtain ⟨σ58, e59, hf⟩ := mb0 hf
        refine mx_sI hx hb hK hJ e59 dX12_driveStatement_349 (fun H locs hJ => ?_)
        refine lv_aload_n hx hb dX12_driveStatement_350 rfl (lv_at hl 0 rfl) ?_
        obtain ⟨b60, e61, hf⟩ := mb0 hf
        refine my_gR hx hb hts hown hK hJ fd_RX12_228 hv_12_107 e61 dX12_driveStatement_351 ?_
        refine lv_iload_n hx hb dX12_driveStatement_354 rfl (lv_at hl 2 rfl) ?_
        refine lv_iload hx hb dX12_driveStatement_355 (lv_at hl 4 rfl) ?_
        obtain ⟨σ62, e63, hf⟩ := mb0 hf
        refine mx_sI hx hb hK hJ e63 dX12_driveStatement_357 (fun H locs hJ => ?_)
        refine lv_aload_n hx hb dX12_driveStatement_358 rfl (lv_at hl 0 rfl) ?_
        obtain ⟨b64, e65, hf⟩ := mb0 hf
        refine my_gR hx hb hts hown hK hJ fd_RX12_231 hv_12_108 e65 dX12_driveStatement_359 ?_
        refine lv_iload_n hx hb dX12_driveStatement_362 rfl (lv_at hl 2 rfl) ?_
        refine lv_iload hx hb dX12_driveStatement_363 (lv_at hl 5 rfl) ?_
        obtain ⟨σ66, e67, hf⟩ := mb0 hf
        refine mx_sI hx hb hK hJ e67 dX12_driveStatement_365 (fun H locs hJ => ?_)
        refine lv_aload_n hx hb dX12_driveStatement_366 rfl (lv_at hl 0 rfl) ?_
        obtain ⟨b68, e69, hf⟩ := mb0 hf
        refine my_gR hx hb hts hown hK hJ fd_RX12_234 hv_12_109 e69 dX12_driveStatement_367 ?_
        refine lv_iload_n hx hb dX12_driveStatement_370 rfl (lv_at hl 2 rfl) ?_
        refine lv_iload hx hb dX12_driveStatement_371 (lv_at hl 6 rfl) ?_
        obtain ⟨σ70, e71, hf⟩ := mb0 hf
        refine mx_sI hx hb hK hJ e71 dX12_driveStatement_373 (fun H locs hJ => ?_)
        refine lv_aload_n hx hb dX12_driveStatement_374 rfl (lv_at hl 0 rfl) ?_
        obtain ⟨b72, e73, hf⟩ := mb0 hf
        refine my_gR hx hb hts hown hK hJ fd_RX12_237 hv_12_110 e73 dX12_driveStatement_375 ?_
        refine lv_iload_n hx hb dX12_driveStatement_378 rfl (lv_at hl 2 rfl) ?_
        refine lv_iload hx hb dX12_driveStatement_379 (lv_at hl 7 rfl) ?_
        obtain ⟨σ74, e75, hf⟩ := mb0 hf
        refine mx_sZ hx hb hK hJ e75 dX12_driveStatement_381 (fun H locs hJ => ?_)
        refine lv_aload_n hx hb dX12_driveStatement_382 rfl (lv_at hl 0 rfl) ?_
        obtain ⟨b76, e77, hf⟩ := mb0 hf
        refine my_gR hx hb hts hown hK hJ fd_RX12_240 hv_12_111 e77 dX12_driveStatement_383 ?_
        refine lv_iload_n hx hb dX12_driveStatement_386 rfl (lv_at hl 2 rfl) ?_
        refine lv_lload hx hb dX12_driveStatement_387 (lv_at hl 8 rfl) ?_
        obtain ⟨σ78, e79, hf⟩ := mb0 hf
        refine mx_sL hx hb hK hJ e79 dX12_driveStatement_389 (fun H locs hJ => ?_)
        refine lv_aload_n hx hb dX12_driveStatement_390 rfl (lv_at hl 0 rfl) ?_
        refine lv_dup hx hb dX12_driveStatement_391 rfl ?_
        obtain ⟨x80, e81, hf⟩ := mb0 hf
        refine my_gI hx hb hts hown hK hJ fd_RX12_800 hv_12_105 e81 dX12_driveStatement_392 ?_
        refine lv_iconst (v := 1) hx hb dX12_driveStatement_395 (by decide) ?_
        refine lv_iadd hx hb dX12_driveStatement_396 ?_
        obtain ⟨σ82, e83, hf⟩ := mb0 hf
        refine my_pI hx hb hts hown hK hJ fd_RX12_800 cd_12 (Or.inl rfl) ht_12_105 e83 dX12_driveStatement_397 (fun H locs hJ => ?_)
        exact my_vret hx hb hr hlocks hJ hf dX12_driveStatement_400
      · rw [if_pos c55] at hf
        exact D342  σ50 hf _ _ hJ ls (lv_sub hl [] rfl)
  have D291 : ∀ (v0 : Nat) (v1 : Int32) (v2 : Int32) (v3 : Int32) (v4 : Int32) (v5 : Int32) (v6 : Int32) (w0 : Int32) (τ : mx_S), f_X12_driveStatement_D291 P v0 v1 v2 v3 v4 v5 v6 w0 τ = some σ' → ∀ (H : Heap) (locs : List Loc), mx_J G P s.heap (mxz σ) (mxu σ) τ H locs → ∀ ls : Array Slot, lv_has ls 10 [(0, .ref v0), (1, .int v1), (2, .int v2), (3, .int v3), (4, .int v4), (5, .int v5), (6, .int v6)] → W p l e (mx_rm P 5 119 σ) s m ([.ref a0] : List Value).toArray below meth c H locs (mxz τ - mxz σ) (mxu τ - mxu σ) (mx_Z below G P none σ σ' [.ref a0] s) (F0 m 291 ls [.int w0]) := by
    intro v0 v1 v2 v3 v4 v5 v6 w0 τ hf _ _ hJ ls hl
    unfold f_X12_driveStatement_D291 at hf
    refine lv_istore (lv' := [(7, .int w0), (0, .ref v0), (1, .int v1), (2, .int v2), (3, .int v3), (4, .int v4), (5, .int v5), (6, .int v6)]) hx hb dX12_driveStatement_291 hl (by decide) rfl (fun ls hl => ?_)
    refine lv_aload_n hx hb dX12_driveStatement_293 rfl (lv_at hl 1 rfl) ?_
    obtain ⟨i112, e113, hf⟩ := mb0 hf
    obtain ⟨σ114, e115, hf⟩ := mb0 hf
    refine mx_callV (As := []) (rest := []) hx hb hml hts hown hK hJ rfl rfl (ci := 12) rfl e113 (c_X12_scan l G P v0 τ σ114 e115) me_X12_scan kw_2243 ks_82 kw_2241 (Nat.le_of_ble_eq_true rfl) (Nat.le_of_ble_eq_true rfl) rfl hl.1 rfl (Nat.le_of_ble_eq_true rfl) dX12_driveStatement_294 (fun H locs hJ => ?_)
    refine lv_aload_n hx hb dX12_driveStatement_297 rfl (lv_at hl 1 rfl) ?_
    refine lv_iconst (v := 2) hx hb dX12_driveStatement_298 (by decide) ?_
    obtain ⟨i116, e117, hf⟩ := mb0 hf
    obtain ⟨x119, σ118, e120, hf⟩ := mc0 hf
    refine mx_callV (As := [.int (2 : Int32)]) (rest := []) hx hb hml hts hown hK hJ rfl rfl (ci := 12) rfl e117 (c_X12_takes l G P v0 (2 : Int32) σ114 x119 σ118 e120) me_X12_takes kw_2291 ks_89 kw_2289 (Nat.le_of_ble_eq_true rfl) (Nat.le_of_ble_eq_true rfl) rfl hl.1 rfl (Nat.le_of_ble_eq_true rfl) dX12_driveStatement_299 (fun H locs hJ => ?_)
    refine lv_if_ne (tgt := 306) hx hb dX12_driveStatement_302 (by decide) (fun c121 => ?_) (fun c121 => ?_)
    · rw [if_neg c121] at hf
      refine lv_ldc2 hx hb hown (hts _ kw_2372) dX12_driveStatement_306 ?_
      refine lv_aload_n hx hb dX12_driveStatement_309 rfl (lv_at hl 1 rfl) ?_
      obtain ⟨x122, e123, hf⟩ := mb0 hf
      refine my_gL hx hb hts hown hK hJ fd_RX12_353 hv_12_17 e123 dX12_driveStatement_310 ?_
      refine lv_lmul hx hb dX12_driveStatement_313 ?_
      refine lv_aload_n hx hb dX12_driveStatement_314 rfl (lv_at hl 1 rfl) ?_
      obtain ⟨x124, e125, hf⟩ := mb0 hf
      refine my_gL hx hb hts hown hK hJ fd_RX12_356 hv_12_18 e125 dX12_driveStatement_315 ?_
      obtain ⟨x127, σ126, e128, hf⟩ := mc0 hf
      refine mx_callS (As := [.long ((65536 : Int64) * x122), .long x124]) (rest := []) hx hb hml hts hown hK hJ rfl rfl (c_X12_down l G P ((65536 : Int64) * x122) x124 σ118 x127 σ126 e128) me_X12_down kw_2374 kw_2373 (Nat.le_of_ble_eq_true rfl) (Nat.le_of_ble_eq_true rfl) rfl hl.1 rfl (Nat.le_of_ble_eq_true rfl) dX12_driveStatement_318 (fun H locs hJ => ?_)
      refine lv_lstore (lv' := [(8, .long x127), (7, .int w0), (0, .ref v0), (1, .int v1), (2, .int v2), (3, .int v3), (4, .int v4), (5, .int v5), (6, .int v6)]) hx hb dX12_driveStatement_321 hl (by decide) rfl (fun ls hl => ?_)
      refine lv_aload_n hx hb dX12_driveStatement_323 rfl (lv_at hl 2 rfl) ?_
      obtain ⟨i129, e130, hf⟩ := mb0 hf
      obtain ⟨σ131, e132, hf⟩ := mb0 hf
      refine mx_callV (As := []) (rest := []) hx hb hml hts hown hK hJ rfl rfl (ci := 12) rfl e130 (c_X12_scan l G P v0 σ126 σ131 e132) me_X12_scan kw_2243 ks_82 kw_2241 (Nat.le_of_ble_eq_true rfl) (Nat.le_of_ble_eq_true rfl) rfl hl.1 rfl (Nat.le_of_ble_eq_true rfl) dX12_driveStatement_324 (fun H locs hJ => ?_)
      exact D327 v0 v1 v2 v3 v4 v5 v6 w0 x127 σ131 hf _ _ hJ ls (lv_sub hl [2, 3, 4, 5, 6, 7, 8, 1, 0] rfl)
    · rw [if_pos c121] at hf
      exact my_vret hx hb hr hlocks hJ hf dX12_driveStatement_305
  have D277 : ∀ (v0 : Nat) (v1 : Int32) (v2 : Int32) (v3 : Int32) (v4 : Int32) (v5 : Int32) (v6 : Int32) (τ : mx_S), f_X12_driveStatement_D277 P v0 v1 v2 v3 v4 v5 v6 τ = some σ' → ∀ (H : Heap) (locs : List Loc), mx_J G P s.heap (mxz σ) (mxu σ) τ H locs → ∀ ls : Array Slot, lv_has ls 10 [(0, .ref v0), (1, .int v1), (2, .int v2), (3, .int v3), (4, .int v4), (5, .int v5), (6, .int v6)] → W p l e (mx_rm P 5 119 σ) s m ([.ref a0] : List Value).toArray below meth c H locs (mxz τ - mxz σ) (mxu τ - mxu σ) (mx_Z below G P none σ σ' [.ref a0] s) (F0 m 277 ls []) := by
    intro v0 v1 v2 v3 v4 v5 v6 τ hf _ _ hJ ls hl
    unfold f_X12_driveStatement_D277 at hf
    refine lv_aload_n hx hb dX12_driveStatement_277 rfl (lv_at hl 0 rfl) ?_
    obtain ⟨x109, e110, hf⟩ := mb0 hf
    refine my_gI hx hb hts hown hK hJ fd_RX12_340 hv_12_15 e110 dX12_driveStatement_278 ?_
    refine lv_bipush (v := 43) hx hb dX12_driveStatement_281 (by decide) ?_
    refine lv_icmp_ne (tgt := 290) hx hb dX12_driveStatement_283 (by decide) (fun c111 => ?_) (fun c111 => ?_)
    · rw [if_neg c111] at hf
      refine lv_iconst (v := 0) hx hb dX12_driveStatement_290 (by decide) ?_
      exact D291 v0 v1 v2 v3 v4 v5 v6 (0 : Int32) τ hf _ _ hJ ls (lv_sub hl [0, 1, 2, 3, 4, 5, 6] rfl)
    · rw [if_pos c111] at hf
      refine lv_iconst (v := 1) hx hb dX12_driveStatement_286 (by decide) ?_
      refine lv_goto (tgt := 291) hx hb dX12_driveStatement_287 (by decide) ?_
      exact D291 v0 v1 v2 v3 v4 v5 v6 (1 : Int32) τ hf _ _ hJ ls (lv_sub hl [0, 1, 2, 3, 4, 5, 6] rfl)
  have D245 : ∀ (v0 : Nat) (v1 : Int32) (v2 : Int32) (v3 : Int32) (v4 : Int32) (v5 : Int32) (v6 : Int32) (τ : mx_S), f_X12_driveStatement_D245 P v0 v1 v2 v3 v4 v5 v6 τ = some σ' → ∀ (H : Heap) (locs : List Loc), mx_J G P s.heap (mxz σ) (mxu σ) τ H locs → ∀ ls : Array Slot, lv_has ls 10 [(0, .ref v0), (1, .int v1), (2, .int v2), (3, .int v3), (4, .int v4), (5, .int v5), (6, .int v6)] → W p l e (mx_rm P 5 119 σ) s m ([.ref a0] : List Value).toArray below meth c H locs (mxz τ - mxz σ) (mxu τ - mxu σ) (mx_Z below G P none σ σ' [.ref a0] s) (F0 m 245 ls []) := by
    intro v0 v1 v2 v3 v4 v5 v6 τ hf _ _ hJ ls hl
    unfold f_X12_driveStatement_D245 at hf
    refine lv_aload_n hx hb dX12_driveStatement_245 rfl (lv_at hl 0 rfl) ?_
    obtain ⟨i102, e103, hf⟩ := mb0 hf
    obtain ⟨σ104, e105, hf⟩ := mb0 hf
    refine mx_callV (As := []) (rest := []) hx hb hml hts hown hK hJ rfl rfl (ci := 12) rfl e103 (c_X12_scan l G P v0 τ σ104 e105) me_X12_scan kw_2243 ks_82 kw_2241 (Nat.le_of_ble_eq_true rfl) (Nat.le_of_ble_eq_true rfl) rfl hl.1 rfl (Nat.le_of_ble_eq_true rfl) dX12_driveStatement_246 (fun H locs hJ => ?_)
    refine lv_aload_n hx hb dX12_driveStatement_249 rfl (lv_at hl 0 rfl) ?_
    obtain ⟨x106, e107, hf⟩ := mb0 hf
    refine my_gI hx hb hts hown hK hJ fd_RX12_340 hv_12_15 e107 dX12_driveStatement_250 ?_
    refine lv_bipush (v := 43) hx hb dX12_driveStatement_253 (by decide) ?_
    refine lv_icmp_eq (tgt := 277) hx hb dX12_driveStatement_255 (by decide) (fun c108 => ?_) (fun c108 => ?_)
    · rw [if_pos c108] at hf
      exact D277 v0 v1 v2 v3 v4 v5 v6 σ104 hf _ _ hJ ls (lv_sub hl [0, 1, 2, 3, 4, 5, 6] rfl)
    · rw [if_neg c108] at hf
      refine lv_aload_n hx hb dX12_driveStatement_258 rfl (lv_at hl 0 rfl) ?_
      obtain ⟨x133, e134, hf⟩ := mb0 hf
      refine my_gI hx hb hts hown hK hJ fd_RX12_340 hv_12_15 e134 dX12_driveStatement_259 ?_
      refine lv_bipush (v := 45) hx hb dX12_driveStatement_262 (by decide) ?_
      refine lv_icmp_eq (tgt := 277) hx hb dX12_driveStatement_264 (by decide) (fun c135 => ?_) (fun c135 => ?_)
      · rw [if_pos c135] at hf
        exact D277 v0 v1 v2 v3 v4 v5 v6 σ104 hf _ _ hJ ls (lv_sub hl [0, 1, 2, 3, 4, 5, 6] rfl)
      · rw [if_neg c135] at hf
        refine lv_aload_n hx hb dX12_driveStatement_267 rfl (lv_at hl 0 rfl) ?_
        refine lv_iconst (v := 1) hx hb dX12_driveStatement_268 (by decide) ?_
        refine lv_aload_n hx hb dX12_driveStatement_269 rfl (lv_at hl 0 rfl) ?_
        obtain ⟨x136, e137, hf⟩ := mb0 hf
        refine my_gI hx hb hts hown hK hJ fd_RX12_337 hv_12_16 e137 dX12_driveStatement_270 ?_
        obtain ⟨i138, e139, hf⟩ := mb0 hf
        obtain ⟨σ140, e141, hf⟩ := mb0 hf
        refine mx_callV (As := [.int (1 : Int32), .int x136]) (rest := []) hx hb hml hts hown hK hJ rfl rfl (ci := 12) rfl e139 (c_X12_wrong l G P v0 (1 : Int32) x136 σ104 σ140 e141) me_X12_wrong kw_2287 ks_88 kw_2285 (Nat.le_of_ble_eq_true rfl) (Nat.le_of_ble_eq_true rfl) rfl hl.1 rfl (Nat.le_of_ble_eq_true rfl) dX12_driveStatement_273 (fun H locs hJ => ?_)
        exact my_vret hx hb hr hlocks hJ hf dX12_driveStatement_276
  have D187 : ∀ (v0 : Nat) (v1 : Int32) (v2 : Int32) (v3 : Int32) (v4 : Int32) (w0 : Int32) (τ : mx_S), f_X12_driveStatement_D187 P v0 v1 v2 v3 v4 w0 τ = some σ' → ∀ (H : Heap) (locs : List Loc), mx_J G P s.heap (mxz σ) (mxu σ) τ H locs → ∀ ls : Array Slot, lv_has ls 10 [(0, .ref v0), (1, .int v1), (2, .int v2), (3, .int v3), (4, .int v4)] → W p l e (mx_rm P 5 119 σ) s m ([.ref a0] : List Value).toArray below meth c H locs (mxz τ - mxz σ) (mxu τ - mxu σ) (mx_Z below G P none σ σ' [.ref a0] s) (F0 m 187 ls [.int w0]) := by
    intro v0 v1 v2 v3 v4 w0 τ hf _ _ hJ ls hl
    unfold f_X12_driveStatement_D187 at hf
    refine lv_istore (lv' := [(5, .int w0), (0, .ref v0), (1, .int v1), (2, .int v2), (3, .int v3), (4, .int v4)]) hx hb dX12_driveStatement_187 hl (by decide) rfl (fun ls hl => ?_)
    refine lv_iconst (v := (-1)) hx hb dX12_driveStatement_189 (by decide) ?_
    refine lv_istore (lv' := [(6, .int (-1 : Int32)), (5, .int w0), (0, .ref v0), (1, .int v1), (2, .int v2), (3, .int v3), (4, .int v4)]) hx hb dX12_driveStatement_190 hl (by decide) rfl (fun ls hl => ?_)
    refine lv_iconst (v := 0) hx hb dX12_driveStatement_192 (by decide) ?_
    refine lv_istore (lv' := [(7, .int (0 : Int32)), (6, .int (-1 : Int32)), (5, .int w0), (0, .ref v0), (1, .int v1), (2, .int v2), (3, .int v3), (4, .int v4)]) hx hb dX12_driveStatement_193 hl (by decide) rfl (fun ls hl => ?_)
    refine lv_lconst (v := 0) hx hb dX12_driveStatement_195 (by decide) ?_
    refine lv_lstore (lv' := [(8, .long (0 : Int64)), (7, .int (0 : Int32)), (6, .int (-1 : Int32)), (5, .int w0), (0, .ref v0), (1, .int v1), (2, .int v2), (3, .int v3), (4, .int v4)]) hx hb dX12_driveStatement_196 hl (by decide) rfl (fun ls hl => ?_)
    refine lv_iload_n hx hb dX12_driveStatement_198 rfl (lv_at hl 5 rfl) ?_
    refine lv_iconst (v := 1) hx hb dX12_driveStatement_199 (by decide) ?_
    refine lv_icmp_ne (tgt := 327) hx hb dX12_driveStatement_200 (by decide) (fun c47 => ?_) (fun c47 => ?_)
    · rw [if_neg c47] at hf
      exact D327 v0 v1 v2 v3 v4 w0 (-1 : Int32) (0 : Int32) (0 : Int64) τ hf _ _ hJ ls (lv_sub hl [4, 5, 6, 7, 8, 3, 2, 1, 0] rfl)
    · rw [if_pos c47] at hf
      refine lv_aload_n hx hb dX12_driveStatement_203 rfl (lv_at hl 4 rfl) ?_
      refine lv_iconst (v := 1) hx hb dX12_driveStatement_204 (by decide) ?_
      obtain ⟨i84, e85, hf⟩ := mb0 hf
      obtain ⟨x87, σ86, e88, hf⟩ := mc0 hf
      refine mx_callV (As := [.int (1 : Int32)]) (rest := []) hx hb hml hts hown hK hJ rfl rfl (ci := 12) rfl e85 (c_X12_takes l G P v0 (1 : Int32) τ x87 σ86 e88) me_X12_takes kw_2291 ks_89 kw_2289 (Nat.le_of_ble_eq_true rfl) (Nat.le_of_ble_eq_true rfl) rfl hl.1 rfl (Nat.le_of_ble_eq_true rfl) dX12_driveStatement_205 (fun H locs hJ => ?_)
      refine lv_if_ne (tgt := 212) hx hb dX12_driveStatement_208 (by decide) (fun c89 => ?_) (fun c89 => ?_)
      · rw [if_neg c89] at hf
        refine lv_aload_n hx hb dX12_driveStatement_212 rfl (lv_at hl 4 rfl) ?_
        refine lv_aload_n hx hb dX12_driveStatement_213 rfl (lv_at hl 4 rfl) ?_
        obtain ⟨x90, e91, hf⟩ := mb0 hf
        refine my_gI hx hb hts hown hK hJ fd_RX12_337 hv_12_16 e91 dX12_driveStatement_214 ?_
        refine lv_aload_n hx hb dX12_driveStatement_217 rfl (lv_at hl 4 rfl) ?_
        obtain ⟨x92, e93, hf⟩ := mb0 hf
        refine my_gI hx hb hts hown hK hJ fd_RX12_330 hv_12_14 e93 dX12_driveStatement_218 ?_
        refine lv_aload_n hx hb dX12_driveStatement_221 rfl (lv_at hl 4 rfl) ?_
        obtain ⟨x94, e95, hf⟩ := mb0 hf
        refine my_gI hx hb hts hown hK hJ fd_RX12_337 hv_12_16 e95 dX12_driveStatement_222 ?_
        refine lv_isub hx hb dX12_driveStatement_225 ?_
        obtain ⟨i96, e97, hf⟩ := mb0 hf
        obtain ⟨x99, σ98, e100, hf⟩ := mc0 hf
        refine mx_callV (As := [.int x90, .int (x92 - x94)]) (rest := []) hx hb hml hts hown hK hJ rfl rfl (ci := 12) rfl e97 (c_X12_pointNamed l G P v0 x90 (x92 - x94) σ86 x99 σ98 e100) me_X12_pointNamed kw_2853 ks_179 kw_2851 (Nat.le_of_ble_eq_true rfl) (Nat.le_of_ble_eq_true rfl) rfl hl.1 rfl (Nat.le_of_ble_eq_true rfl) dX12_driveStatement_226 (fun H locs hJ => ?_)
        refine lv_istore (lv' := [(6, .int x99), (8, .long (0 : Int64)), (7, .int (0 : Int32)), (5, .int w0), (0, .ref v0), (1, .int v1), (2, .int v2), (3, .int v3), (4, .int v4)]) hx hb dX12_driveStatement_229 hl (by decide) rfl (fun ls hl => ?_)
        refine lv_iload hx hb dX12_driveStatement_231 (lv_at hl 0 rfl) ?_
        refine lv_if_ge (tgt := 245) hx hb dX12_driveStatement_233 (by decide) (fun c101 => ?_) (fun c101 => ?_)
        · rw [if_pos c101] at hf
          exact D245 v0 v1 v2 v3 v4 w0 x99 σ98 hf _ _ hJ ls (lv_sub hl [4, 5, 6, 7, 8, 3, 0] rfl)
        · rw [if_neg c101] at hf
          refine lv_aload_n hx hb dX12_driveStatement_236 rfl (lv_at hl 4 rfl) ?_
          refine lv_iconst (v := 3) hx hb dX12_driveStatement_237 (by decide) ?_
          refine lv_aload_n hx hb dX12_driveStatement_238 rfl (lv_at hl 4 rfl) ?_
          obtain ⟨x142, e143, hf⟩ := mb0 hf
          refine my_gI hx hb hts hown hK hJ fd_RX12_337 hv_12_16 e143 dX12_driveStatement_239 ?_
          obtain ⟨i144, e145, hf⟩ := mb0 hf
          obtain ⟨σ146, e147, hf⟩ := mb0 hf
          refine mx_callV (As := [.int (3 : Int32), .int x142]) (rest := []) hx hb hml hts hown hK hJ rfl rfl (ci := 12) rfl e145 (c_X12_found l G P v0 (3 : Int32) x142 σ98 σ146 e147) me_X12_found kw_2299 ks_91 kw_2297 (Nat.le_of_ble_eq_true rfl) (Nat.le_of_ble_eq_true rfl) rfl hl.1 rfl (Nat.le_of_ble_eq_true rfl) dX12_driveStatement_242 (fun H locs hJ => ?_)
          exact D245 v0 v1 v2 v3 v4 w0 x99 σ146 hf _ _ hJ ls (lv_sub hl [4, 5, 6, 7, 8, 3, 0] rfl)
      · rw [if_pos c89] at hf
        exact my_vret hx hb hr hlocks hJ hf dX12_driveStatement_211
  have D166 : ∀ (v0 : Nat) (v1 : Int32) (v2 : Int32) (v3 : Int32) (w0 : Int32) (τ : mx_S), f_X12_driveStatement_D166 P v0 v1 v2 v3 w0 τ = some σ' → ∀ (H : Heap) (locs : List Loc), mx_J G P s.heap (mxz σ) (mxu σ) τ H locs → ∀ ls : Array Slot, lv_has ls 10 [(0, .ref v0), (1, .int v1), (2, .int v2), (3, .int v3)] → W p l e (mx_rm P 5 119 σ) s m ([.ref a0] : List Value).toArray below meth c H locs (mxz τ - mxz σ) (mxu τ - mxu σ) (mx_Z below G P none σ σ' [.ref a0] s) (F0 m 166 ls [.int w0]) := by
    intro v0 v1 v2 v3 w0 τ hf _ _ hJ ls hl
    unfold f_X12_driveStatement_D166 at hf
    refine lv_istore (lv' := [(4, .int w0), (0, .ref v0), (1, .int v1), (2, .int v2), (3, .int v3)]) hx hb dX12_driveStatement_166 hl (by decide) rfl (fun ls hl => ?_)
    refine lv_iload_n hx hb dX12_driveStatement_168 rfl (lv_at hl 2 rfl) ?_
    refine lv_iconst (v := 2) hx hb dX12_driveStatement_169 (by decide) ?_
    refine lv_icmp_ge (tgt := 186) hx hb dX12_driveStatement_170 (by decide) (fun c46 => ?_) (fun c46 => ?_)
    · rw [if_pos c46] at hf
      refine lv_iconst (v := 0) hx hb dX12_driveStatement_186 (by decide) ?_
      exact D187 v0 v1 v2 v3 w0 (0 : Int32) τ hf _ _ hJ ls (lv_sub hl [1, 2, 3, 4, 0] rfl)
    · rw [if_neg c46] at hf
      refine lv_aload_n hx hb dX12_driveStatement_173 rfl (lv_at hl 1 rfl) ?_
      refine lv_sipush (v := (-1023)) hx hb dX12_driveStatement_174 (by decide) ?_
      refine lv_sipush (v := 1023) hx hb dX12_driveStatement_177 (by decide) ?_
      obtain ⟨i148, e149, hf⟩ := mb0 hf
      obtain ⟨x151, σ150, e152, hf⟩ := mc0 hf
      refine mx_callV (As := [.int (-1023 : Int32), .int (1023 : Int32)]) (rest := []) hx hb hml hts hown hK hJ rfl rfl (ci := 12) rfl e149 (c_X12_taken l G P v0 (-1023 : Int32) (1023 : Int32) τ x151 σ150 e152) me_X12_taken kw_2849 ks_178 kw_2847 (Nat.le_of_ble_eq_true rfl) (Nat.le_of_ble_eq_true rfl) rfl hl.1 rfl (Nat.le_of_ble_eq_true rfl) dX12_driveStatement_180 (fun H locs hJ => ?_)
      refine lv_goto (tgt := 187) hx hb dX12_driveStatement_183 (by decide) ?_
      exact D187 v0 v1 v2 v3 w0 x151 σ150 hf _ _ hJ ls (lv_sub hl [1, 2, 3, 4, 0] rfl)
  have D124 : ∀ (v0 : Nat) (v1 : Int32) (v2 : Int32) (w0 : Int32) (τ : mx_S), f_X12_driveStatement_D124 P v0 v1 v2 w0 τ = some σ' → ∀ (H : Heap) (locs : List Loc), mx_J G P s.heap (mxz σ) (mxu σ) τ H locs → ∀ ls : Array Slot, lv_has ls 10 [(0, .ref v0), (1, .int v1), (2, .int v2)] → W p l e (mx_rm P 5 119 σ) s m ([.ref a0] : List Value).toArray below meth c H locs (mxz τ - mxz σ) (mxu τ - mxu σ) (mx_Z below G P none σ σ' [.ref a0] s) (F0 m 124 ls [.int w0]) := by
    intro v0 v1 v2 w0 τ hf _ _ hJ ls hl
    unfold f_X12_driveStatement_D124 at hf
    refine lv_istore_n (lv' := [(3, .int w0), (0, .ref v0), (1, .int v1), (2, .int v2)]) hx hb dX12_driveStatement_124 rfl hl (by decide) rfl (fun ls hl => ?_)
    refine lv_aload_n hx hb dX12_driveStatement_125 rfl (lv_at hl 1 rfl) ?_
    obtain ⟨i35, e36, hf⟩ := mb0 hf
    obtain ⟨σ37, e38, hf⟩ := mb0 hf
    refine mx_callV (As := []) (rest := []) hx hb hml hts hown hK hJ rfl rfl (ci := 12) rfl e36 (c_X12_scan l G P v0 τ σ37 e38) me_X12_scan kw_2243 ks_82 kw_2241 (Nat.le_of_ble_eq_true rfl) (Nat.le_of_ble_eq_true rfl) rfl hl.1 rfl (Nat.le_of_ble_eq_true rfl) dX12_driveStatement_126 (fun H locs hJ => ?_)
    refine lv_iload_n hx hb dX12_driveStatement_129 rfl (lv_at hl 2 rfl) ?_
    refine lv_iconst (v := 2) hx hb dX12_driveStatement_130 (by decide) ?_
    refine lv_icmp_ne (tgt := 144) hx hb dX12_driveStatement_131 (by decide) (fun c39 => ?_) (fun c39 => ?_)
    · rw [if_neg c39] at hf
      refine lv_iload_n hx hb dX12_driveStatement_144 rfl (lv_at hl 2 rfl) ?_
      refine lv_iconst (v := 3) hx hb dX12_driveStatement_145 (by decide) ?_
      refine lv_icmp_ne (tgt := 160) hx hb dX12_driveStatement_146 (by decide) (fun c40 => ?_) (fun c40 => ?_)
      · rw [if_neg c40] at hf
        refine lv_aload_n hx hb dX12_driveStatement_160 rfl (lv_at hl 1 rfl) ?_
        refine lv_iconst (v := 0) hx hb dX12_driveStatement_161 (by decide) ?_
        refine lv_iconst (v := 3) hx hb dX12_driveStatement_162 (by decide) ?_
        obtain ⟨i41, e42, hf⟩ := mb0 hf
        obtain ⟨x44, σ43, e45, hf⟩ := mc0 hf
        refine mx_callV (As := [.int (0 : Int32), .int (3 : Int32)]) (rest := []) hx hb hml hts hown hK hJ rfl rfl (ci := 12) rfl e42 (c_X12_taken l G P v0 (0 : Int32) (3 : Int32) σ37 x44 σ43 e45) me_X12_taken kw_2849 ks_178 kw_2847 (Nat.le_of_ble_eq_true rfl) (Nat.le_of_ble_eq_true rfl) rfl hl.1 rfl (Nat.le_of_ble_eq_true rfl) dX12_driveStatement_163 (fun H locs hJ => ?_)
        exact D166 v0 v1 v2 w0 x44 σ43 hf _ _ hJ ls (lv_sub hl [1, 2, 3, 0] rfl)
      · rw [if_pos c40] at hf
        refine lv_aload_n hx hb dX12_driveStatement_149 rfl (lv_at hl 1 rfl) ?_
        refine lv_iconst (v := 0) hx hb dX12_driveStatement_150 (by decide) ?_
        refine lv_sipush (v := 255) hx hb dX12_driveStatement_151 (by decide) ?_
        obtain ⟨i153, e154, hf⟩ := mb0 hf
        obtain ⟨x156, σ155, e157, hf⟩ := mc0 hf
        refine mx_callV (As := [.int (0 : Int32), .int (255 : Int32)]) (rest := []) hx hb hml hts hown hK hJ rfl rfl (ci := 12) rfl e154 (c_X12_taken l G P v0 (0 : Int32) (255 : Int32) σ37 x156 σ155 e157) me_X12_taken kw_2849 ks_178 kw_2847 (Nat.le_of_ble_eq_true rfl) (Nat.le_of_ble_eq_true rfl) rfl hl.1 rfl (Nat.le_of_ble_eq_true rfl) dX12_driveStatement_154 (fun H locs hJ => ?_)
        refine lv_goto (tgt := 166) hx hb dX12_driveStatement_157 (by decide) ?_
        exact D166 v0 v1 v2 w0 x156 σ155 hf _ _ hJ ls (lv_sub hl [1, 2, 3, 0] rfl)
    · rw [if_pos c39] at hf
      refine lv_aload_n hx hb dX12_driveStatement_134 rfl (lv_at hl 1 rfl) ?_
      refine lv_iconst (v := 1) hx hb dX12_driveStatement_135 (by decide) ?_
      refine lv_bipush (v := 9) hx hb dX12_driveStatement_136 (by decide) ?_
      obtain ⟨i158, e159, hf⟩ := mb0 hf
      obtain ⟨x161, σ160, e162, hf⟩ := mc0 hf
      refine mx_callV (As := [.int (1 : Int32), .int (9 : Int32)]) (rest := []) hx hb hml hts hown hK hJ rfl rfl (ci := 12) rfl e159 (c_X12_taken l G P v0 (1 : Int32) (9 : Int32) σ37 x161 σ160 e162) me_X12_taken kw_2849 ks_178 kw_2847 (Nat.le_of_ble_eq_true rfl) (Nat.le_of_ble_eq_true rfl) rfl hl.1 rfl (Nat.le_of_ble_eq_true rfl) dX12_driveStatement_138 (fun H locs hJ => ?_)
      refine lv_goto (tgt := 166) hx hb dX12_driveStatement_141 (by decide) ?_
      exact D166 v0 v1 v2 w0 x161 σ160 hf _ _ hJ ls (lv_sub hl [1, 2, 3, 0] rfl)
  have D109 : ∀ (v0 : Nat) (v1 : Int32) (w0 : Int32) (τ : mx_S), f_X12_driveStatement_D109 P v0 v1 w0 τ = some σ' → ∀ (H : Heap) (locs : List Loc), mx_J G P s.heap (mxz σ) (mxu σ) τ H locs → ∀ ls : Array Slot, lv_has ls 10 [(0, .ref v0), (1, .int v1)] → W p l e (mx_rm P 5 119 σ) s m ([.ref a0] : List Value).toArray below meth c H locs (mxz τ - mxz σ) (mxu τ - mxu σ) (mx_Z below G P none σ σ' [.ref a0] s) (F0 m 109 ls [.int w0]) := by
    intro v0 v1 w0 τ hf _ _ hJ ls hl
    unfold f_X12_driveStatement_D109 at hf
    refine lv_istore_n (lv' := [(2, .int w0), (0, .ref v0), (1, .int v1)]) hx hb dX12_driveStatement_109 rfl hl (by decide) rfl (fun ls hl => ?_)
    refine lv_aload_n hx hb dX12_driveStatement_110 rfl (lv_at hl 1 rfl) ?_
    obtain ⟨x32, e33, hf⟩ := mb0 hf
    refine my_gI hx hb hts hown hK hJ fd_RX12_800 hv_12_105 e33 dX12_driveStatement_111 ?_
    refine lv_bipush (v := 40) hx hb dX12_driveStatement_114 (by decide) ?_
    refine lv_icmp_ge (tgt := 123) hx hb dX12_driveStatement_116 (by decide) (fun c34 => ?_) (fun c34 => ?_)
    · rw [if_pos c34] at hf
      refine lv_iconst (v := 0) hx hb dX12_driveStatement_123 (by decide) ?_
      exact D124 v0 v1 w0 (0 : Int32) τ hf _ _ hJ ls (lv_sub hl [1, 2, 0] rfl)
    · rw [if_neg c34] at hf
      refine lv_iconst (v := 1) hx hb dX12_driveStatement_119 (by decide) ?_
      refine lv_goto (tgt := 124) hx hb dX12_driveStatement_120 (by decide) ?_
      exact D124 v0 v1 w0 (1 : Int32) τ hf _ _ hJ ls (lv_sub hl [1, 2, 0] rfl)
  have D91 : ∀ (v0 : Nat) (v1 : Int32) (τ : mx_S), f_X12_driveStatement_D91 P v0 v1 τ = some σ' → ∀ (H : Heap) (locs : List Loc), mx_J G P s.heap (mxz σ) (mxu σ) τ H locs → ∀ ls : Array Slot, lv_has ls 10 [(0, .ref v0), (1, .int v1)] → W p l e (mx_rm P 5 119 σ) s m ([.ref a0] : List Value).toArray below meth c H locs (mxz τ - mxz σ) (mxu τ - mxu σ) (mx_Z below G P none σ σ' [.ref a0] s) (F0 m 91 ls []) := by
    intro v0 v1 τ hf _ _ hJ ls hl
    unfold f_X12_driveStatement_D91 at hf
    refine lv_aload_n hx hb dX12_driveStatement_91 rfl (lv_at hl 0 rfl) ?_
    obtain ⟨x29, e30, hf⟩ := mb0 hf
    refine my_gI hx hb hts hown hK hJ fd_RX12_800 hv_12_105 e30 dX12_driveStatement_92 ?_
    refine lv_bipush (v := 40) hx hb dX12_driveStatement_95 (by decide) ?_
    refine lv_icmp_ge (tgt := 107) hx hb dX12_driveStatement_97 (by decide) (fun c31 => ?_) (fun c31 => ?_)
    · rw [if_pos c31] at hf
      refine lv_bipush (v := 39) hx hb dX12_driveStatement_107 (by decide) ?_
      exact D109 v0 v1 (39 : Int32) τ hf _ _ hJ ls (lv_sub hl [0, 1] rfl)
    · rw [if_neg c31] at hf
      refine lv_aload_n hx hb dX12_driveStatement_100 rfl (lv_at hl 0 rfl) ?_
      obtain ⟨x163, e164, hf⟩ := mb0 hf
      refine my_gI hx hb hts hown hK hJ fd_RX12_800 hv_12_105 e164 dX12_driveStatement_101 ?_
      refine lv_goto (tgt := 109) hx hb dX12_driveStatement_104 (by decide) ?_
      exact D109 v0 v1 x163 τ hf _ _ hJ ls (lv_sub hl [0, 1] rfl)
  have D57 : ∀ (v0 : Nat) (w0 : Int32) (τ : mx_S), f_X12_driveStatement_D57 P v0 w0 τ = some σ' → ∀ (H : Heap) (locs : List Loc), mx_J G P s.heap (mxz σ) (mxu σ) τ H locs → ∀ ls : Array Slot, lv_has ls 10 [(0, .ref v0)] → W p l e (mx_rm P 5 119 σ) s m ([.ref a0] : List Value).toArray below meth c H locs (mxz τ - mxz σ) (mxu τ - mxu σ) (mx_Z below G P none σ σ' [.ref a0] s) (F0 m 57 ls [.int w0]) := by
    intro v0 w0 τ hf _ _ hJ ls hl
    unfold f_X12_driveStatement_D57 at hf
    refine lv_istore_n (lv' := [(1, .int w0), (0, .ref v0)]) hx hb dX12_driveStatement_57 rfl hl (by decide) rfl (fun ls hl => ?_)
    refine lv_iload_n hx hb dX12_driveStatement_58 rfl (lv_at hl 0 rfl) ?_
    refine lv_if_ge (tgt := 72) hx hb dX12_driveStatement_59 (by decide) (fun c25 => ?_) (fun c25 => ?_)
    · rw [if_pos c25] at hf
      refine lv_aload_n hx hb dX12_driveStatement_72 rfl (lv_at hl 1 rfl) ?_
      obtain ⟨x26, e27, hf⟩ := mb0 hf
      refine my_gI hx hb hts hown hK hJ fd_RX12_800 hv_12_105 e27 dX12_driveStatement_73 ?_
      refine lv_bipush (v := 40) hx hb dX12_driveStatement_76 (by decide) ?_
      refine lv_icmp_ne (tgt := 91) hx hb dX12_driveStatement_78 (by decide) (fun c28 => ?_) (fun c28 => ?_)
      · rw [if_neg c28] at hf
        exact D91 v0 w0 τ hf _ _ hJ ls (lv_sub hl [1, 0] rfl)
      · rw [if_pos c28] at hf
        refine lv_aload_n hx hb dX12_driveStatement_81 rfl (lv_at hl 1 rfl) ?_
        refine lv_bipush (v := 6) hx hb dX12_driveStatement_82 (by decide) ?_
        refine lv_aload_n hx hb dX12_driveStatement_84 rfl (lv_at hl 1 rfl) ?_
        obtain ⟨x165, e166, hf⟩ := mb0 hf
        refine my_gI hx hb hts hown hK hJ fd_RX12_337 hv_12_16 e166 dX12_driveStatement_85 ?_
        obtain ⟨i167, e168, hf⟩ := mb0 hf
        obtain ⟨σ169, e170, hf⟩ := mb0 hf
        refine mx_callV (As := [.int (6 : Int32), .int x165]) (rest := []) hx hb hml hts hown hK hJ rfl rfl (ci := 12) rfl e168 (c_X12_found l G P v0 (6 : Int32) x165 τ σ169 e170) me_X12_found kw_2299 ks_91 kw_2297 (Nat.le_of_ble_eq_true rfl) (Nat.le_of_ble_eq_true rfl) rfl hl.1 rfl (Nat.le_of_ble_eq_true rfl) dX12_driveStatement_88 (fun H locs hJ => ?_)
        exact D91 v0 w0 σ169 hf _ _ hJ ls (lv_sub hl [1, 0] rfl)
    · rw [if_neg c25] at hf
      refine lv_aload_n hx hb dX12_driveStatement_62 rfl (lv_at hl 1 rfl) ?_
      refine lv_iconst (v := 1) hx hb dX12_driveStatement_63 (by decide) ?_
      refine lv_aload_n hx hb dX12_driveStatement_64 rfl (lv_at hl 1 rfl) ?_
      obtain ⟨x171, e172, hf⟩ := mb0 hf
      refine my_gI hx hb hts hown hK hJ fd_RX12_337 hv_12_16 e172 dX12_driveStatement_65 ?_
      obtain ⟨i173, e174, hf⟩ := mb0 hf
      obtain ⟨σ175, e176, hf⟩ := mb0 hf
      refine mx_callV (As := [.int (1 : Int32), .int x171]) (rest := []) hx hb hml hts hown hK hJ rfl rfl (ci := 12) rfl e174 (c_X12_wrong l G P v0 (1 : Int32) x171 τ σ175 e176) me_X12_wrong kw_2287 ks_88 kw_2285 (Nat.le_of_ble_eq_true rfl) (Nat.le_of_ble_eq_true rfl) rfl hl.1 rfl (Nat.le_of_ble_eq_true rfl) dX12_driveStatement_68 (fun H locs hJ => ?_)
      exact my_vret hx hb hr hlocks hJ hf dX12_driveStatement_71
  unfold f_X12_driveStatement at hf
  refine lv_aload_n hx hb dX12_driveStatement_0 rfl (lv_at hl 0 rfl) ?_
  refine mx_ldcw hx hb hown (show vk_R RX12 792 "turn" (mgK G 12) s from mxe_str hK 12 (by decide)) dX12_driveStatement_1 ?_
  obtain ⟨i1, e2, hf⟩ := mb0 hf
  obtain ⟨x4, σ3, e5, hf⟩ := mc0 hf
  refine mx_callV (As := [.ref (mgK G 12)]) (rest := []) hx hb hml hts hown hK hJ rfl rfl (ci := 12) rfl e2 (c_X12_isWord l G P a0 12 σ x4 σ3 e5) me_X12_isWord kw_2276 ks_87 kw_2274 (Nat.le_of_ble_eq_true rfl) (Nat.le_of_ble_eq_true rfl) rfl hl.1 rfl (Nat.le_of_ble_eq_true rfl) dX12_driveStatement_4 (fun H locs hJ => ?_)
  refine lv_if_eq (tgt := 14) hx hb dX12_driveStatement_7 (by decide) (fun c6 => ?_) (fun c6 => ?_)
  · rw [if_pos c6] at hf
    refine lv_aload_n hx hb dX12_driveStatement_14 rfl (lv_at hl 0 rfl) ?_
    refine mx_ldcw hx hb hown (show vk_R RX12 794 "until" (mgK G 13) s from mxe_str hK 13 (by decide)) dX12_driveStatement_15 ?_
    obtain ⟨i7, e8, hf⟩ := mb0 hf
    obtain ⟨x10, σ9, e11, hf⟩ := mc0 hf
    refine mx_callV (As := [.ref (mgK G 13)]) (rest := []) hx hb hml hts hown hK hJ rfl rfl (ci := 12) rfl e8 (c_X12_isWord l G P a0 13 σ3 x10 σ9 e11) me_X12_isWord kw_2276 ks_87 kw_2274 (Nat.le_of_ble_eq_true rfl) (Nat.le_of_ble_eq_true rfl) rfl hl.1 rfl (Nat.le_of_ble_eq_true rfl) dX12_driveStatement_18 (fun H locs hJ => ?_)
    refine lv_if_eq (tgt := 28) hx hb dX12_driveStatement_21 (by decide) (fun c12 => ?_) (fun c12 => ?_)
    · rw [if_pos c12] at hf
      refine lv_aload_n hx hb dX12_driveStatement_28 rfl (lv_at hl 0 rfl) ?_
      refine mx_ldcw hx hb hown (show vk_R RX12 796 "again" (mgK G 14) s from mxe_str hK 14 (by decide)) dX12_driveStatement_29 ?_
      obtain ⟨i13, e14, hf⟩ := mb0 hf
      obtain ⟨x16, σ15, e17, hf⟩ := mc0 hf
      refine mx_callV (As := [.ref (mgK G 14)]) (rest := []) hx hb hml hts hown hK hJ rfl rfl (ci := 12) rfl e14 (c_X12_isWord l G P a0 14 σ9 x16 σ15 e17) me_X12_isWord kw_2276 ks_87 kw_2274 (Nat.le_of_ble_eq_true rfl) (Nat.le_of_ble_eq_true rfl) rfl hl.1 rfl (Nat.le_of_ble_eq_true rfl) dX12_driveStatement_32 (fun H locs hJ => ?_)
      refine lv_if_eq (tgt := 42) hx hb dX12_driveStatement_35 (by decide) (fun c18 => ?_) (fun c18 => ?_)
      · rw [if_pos c18] at hf
        refine lv_aload_n hx hb dX12_driveStatement_42 rfl (lv_at hl 0 rfl) ?_
        refine mx_ldcw hx hb hown (show vk_R RX12 798 "way" (mgK G 15) s from mxe_str hK 15 (by decide)) dX12_driveStatement_43 ?_
        obtain ⟨i19, e20, hf⟩ := mb0 hf
        obtain ⟨x22, σ21, e23, hf⟩ := mc0 hf
        refine mx_callV (As := [.ref (mgK G 15)]) (rest := []) hx hb hml hts hown hK hJ rfl rfl (ci := 12) rfl e20 (c_X12_isWord l G P a0 15 σ15 x22 σ21 e23) me_X12_isWord kw_2276 ks_87 kw_2274 (Nat.le_of_ble_eq_true rfl) (Nat.le_of_ble_eq_true rfl) rfl hl.1 rfl (Nat.le_of_ble_eq_true rfl) dX12_driveStatement_46 (fun H locs hJ => ?_)
        refine lv_if_eq (tgt := 56) hx hb dX12_driveStatement_49 (by decide) (fun c24 => ?_) (fun c24 => ?_)
        · rw [if_pos c24] at hf
          refine lv_iconst (v := (-1)) hx hb dX12_driveStatement_56 (by decide) ?_
          exact D57 a0 (-1 : Int32) σ21 hf _ _ hJ ls (lv_sub hl [0] rfl)
        · rw [if_neg c24] at hf
          refine lv_iconst (v := 3) hx hb dX12_driveStatement_52 (by decide) ?_
          refine lv_goto (tgt := 57) hx hb dX12_driveStatement_53 (by decide) ?_
          exact D57 a0 (3 : Int32) σ21 hf _ _ hJ ls (lv_sub hl [0] rfl)
      · rw [if_neg c18] at hf
        refine lv_iconst (v := 2) hx hb dX12_driveStatement_38 (by decide) ?_
        refine lv_goto (tgt := 57) hx hb dX12_driveStatement_39 (by decide) ?_
        exact D57 a0 (2 : Int32) σ15 hf _ _ hJ ls (lv_sub hl [0] rfl)
    · rw [if_neg c12] at hf
      refine lv_iconst (v := 1) hx hb dX12_driveStatement_24 (by decide) ?_
      refine lv_goto (tgt := 57) hx hb dX12_driveStatement_25 (by decide) ?_
      exact D57 a0 (1 : Int32) σ9 hf _ _ hJ ls (lv_sub hl [0] rfl)
  · rw [if_neg c6] at hf
    refine lv_iconst (v := 0) hx hb dX12_driveStatement_10 (by decide) ?_
    refine lv_goto (tgt := 57) hx hb dX12_driveStatement_11 (by decide) ?_
    exact D57 a0 (0 : Int32) σ3 hf _ _ hJ ls (lv_sub hl [0] rfl)
set_option maxHeartbeats 4000000 in
set_option maxRecDepth 100000 in
theorem c_X12_isReached (l : Launch) (G : mx_G) (P : mx_P) (a0 : Nat) (p1 : Int32) (σ : mx_S) (r : Int32) (σ' : mx_S) (hf : f_X12_isReached P a0 p1 σ = some (r, σ')) : mxz σ ≤ mpc P → mxu σ ≤ mps P → mx_M l yX12_isReached cX12_isReached 2 (some .boolean) 7 182 G P [.ref a0, .int p1] σ (some (.int r)) σ' := by
  intro hcap hcau
  refine mx_ofW (by decide +kernel) hcap hcau (Nat.le_of_ble_eq_true rfl) ?_
  intro p e s m below meth c hx hb hr hml hts hown hlocks hname hK hJ ls hl
  have hz0 := hJ.2.1
  have hown : s.vm.findClass RX12 = some m.cls := hown
  have hl : lv_has ls 2 [(0, .ref a0), (1, .int p1)] := hl
  have D21 : ∀  (τ : mx_S), f_X12_isReached_D21 P  τ = some (r, σ') → ∀ (H : Heap) (locs : List Loc), mx_J G P s.heap (mxz σ) (mxu σ) τ H locs → ∀ ls : Array Slot, lv_has ls 2 [] → W p l e (mx_rm P 7 182 σ) s m ([.ref a0, .int p1] : List Value).toArray below meth c H locs (mxz τ - mxz σ) (mxu τ - mxu σ) (mx_Z below G P (some (.int r)) σ σ' [.ref a0, .int p1] s) (F0 m 21 ls []) := by
    intro  τ hf _ _ hJ ls hl
    unfold f_X12_isReached_D21 at hf
    refine lv_iconst (v := 0) hx hb dX12_isReached_21 (by decide) ?_
    exact mx_zret hx hb hr hlocks hJ hf dX12_isReached_22
  have D66 : ∀ (w0 : Int32) (τ : mx_S), f_X12_isReached_D66 P w0 τ = some (r, σ') → ∀ (H : Heap) (locs : List Loc), mx_J G P s.heap (mxz σ) (mxu σ) τ H locs → ∀ ls : Array Slot, lv_has ls 2 [] → W p l e (mx_rm P 7 182 σ) s m ([.ref a0, .int p1] : List Value).toArray below meth c H locs (mxz τ - mxz σ) (mxu τ - mxu σ) (mx_Z below G P (some (.int r)) σ σ' [.ref a0, .int p1] s) (F0 m 66 ls [.int w0]) := by
    intro w0 τ hf _ _ hJ ls hl
    unfold f_X12_isReached_D66 at hf
    exact mx_zret hx hb hr hlocks hJ hf dX12_isReached_66
  have D49 : ∀ (v0 : Nat) (v1 : Int32) (w0 : Int32) (w1 : Int32) (w2 : Nat) (τ : mx_S), f_X12_isReached_D49 P v0 v1 w0 w1 w2 τ = some (r, σ') → ∀ (H : Heap) (locs : List Loc), mx_J G P s.heap (mxz σ) (mxu σ) τ H locs → ∀ ls : Array Slot, lv_has ls 2 [(0, .ref v0), (1, .int v1)] → W p l e (mx_rm P 7 182 σ) s m ([.ref a0, .int p1] : List Value).toArray below meth c H locs (mxz τ - mxz σ) (mxu τ - mxu σ) (mx_Z below G P (some (.int r)) σ σ' [.ref a0, .int p1] s) (F0 m 49 ls [.int w0, .int w1, .ref w2]) := by
    intro v0 v1 w0 w1 w2 τ hf _ _ hJ ls hl
    unfold f_X12_isReached_D49 at hf
    refine lv_iadd hx hb dX12_isReached_49 ?_
    obtain ⟨x25, e26, hf⟩ := mb0 hf
    refine mx_aL hx hb hK hJ e26 dX12_isReached_50 ?_
    refine lv_aload_n hx hb dX12_isReached_51 rfl (lv_at hl 0 rfl) ?_
    obtain ⟨b27, e28, hf⟩ := mb0 hf
    refine my_gR hx hb hts hown hK hJ fd_RX12_219 hv_12_101 e28 dX12_isReached_52 ?_
    refine lv_iload_n hx hb dX12_isReached_55 rfl (lv_at hl 1 rfl) ?_
    obtain ⟨x29, e30, hf⟩ := mb0 hf
    refine mx_aL hx hb hK hJ e30 dX12_isReached_56 ?_
    refine W.lcmp hx hb dX12_isReached_57 ?_
    refine lv_if_le (tgt := 65) hx hb dX12_isReached_58 (by decide) (fun c31 => ?_) (fun c31 => ?_)
    · rw [if_pos c31] at hf
      refine lv_iconst (v := 0) hx hb dX12_isReached_65 (by decide) ?_
      exact D66 (0 : Int32) τ hf _ _ hJ ls (lv_sub hl [] rfl)
    · rw [if_neg c31] at hf
      refine lv_iconst (v := 1) hx hb dX12_isReached_61 (by decide) ?_
      refine lv_goto (tgt := 66) hx hb dX12_isReached_62 (by decide) ?_
      exact D66 (1 : Int32) τ hf _ _ hJ ls (lv_sub hl [] rfl)
  unfold f_X12_isReached at hf
  refine lv_aload_n hx hb dX12_isReached_0 rfl (lv_at hl 0 rfl) ?_
  obtain ⟨b1, e2, hf⟩ := mb0 hf
  refine my_gR hx hb hts hown hK hJ fd_RX12_204 hv_12_96 e2 dX12_isReached_1 ?_
  refine lv_iload_n hx hb dX12_isReached_4 rfl (lv_at hl 1 rfl) ?_
  obtain ⟨x3, e4, hf⟩ := mb0 hf
  refine mx_aI hx hb hK hJ e4 dX12_isReached_5 ?_
  refine lv_if_eq (tgt := 21) hx hb dX12_isReached_6 (by decide) (fun c5 => ?_) (fun c5 => ?_)
  · rw [if_pos c5] at hf
    exact D21  σ hf _ _ hJ ls (lv_sub hl [] rfl)
  · rw [if_neg c5] at hf
    refine lv_aload_n hx hb dX12_isReached_9 rfl (lv_at hl 0 rfl) ?_
    refine lv_aload_n hx hb dX12_isReached_10 rfl (lv_at hl 0 rfl) ?_
    obtain ⟨x6, e7, hf⟩ := mb0 hf
    refine my_gI hx hb hts hown hK hJ fd_RX12_809 hv_12_112 e7 dX12_isReached_11 ?_
    obtain ⟨i8, e9, hf⟩ := mb0 hf
    obtain ⟨x11, σ10, e12, hf⟩ := mc0 hf
    refine mx_callV (As := [.int x6]) (rest := []) hx hb hml hts hown hK hJ rfl rfl (ci := 12) rfl e9 (c_X12_worked l G P a0 x6 σ x11 σ10 e12) me_X12_worked kw_2362 ks_103 kw_2360 (Nat.le_of_ble_eq_true rfl) (Nat.le_of_ble_eq_true rfl) rfl hl.1 rfl (Nat.le_of_ble_eq_true rfl) dX12_isReached_14 (fun H locs hJ => ?_)
    refine lv_iconst (v := 1) hx hb dX12_isReached_17 (by decide) ?_
    refine lv_icmp_eq (tgt := 23) hx hb dX12_isReached_18 (by decide) (fun c13 => ?_) (fun c13 => ?_)
    · rw [if_pos c13] at hf
      refine lv_aload_n hx hb dX12_isReached_23 rfl (lv_at hl 0 rfl) ?_
      obtain ⟨b14, e15, hf⟩ := mb0 hf
      refine my_gR hx hb hts hown hK hJ fd_RX12_13 hv_12_11 e15 dX12_isReached_24 ?_
      refine lv_iconst (v := 2) hx hb dX12_isReached_27 (by decide) ?_
      refine lv_aload_n hx hb dX12_isReached_28 rfl (lv_at hl 0 rfl) ?_
      obtain ⟨b16, e17, hf⟩ := mb0 hf
      refine my_gR hx hb hts hown hK hJ fd_RX12_213 hv_12_99 e17 dX12_isReached_29 ?_
      refine lv_iload_n hx hb dX12_isReached_32 rfl (lv_at hl 1 rfl) ?_
      obtain ⟨x18, e19, hf⟩ := mb0 hf
      refine mx_aI hx hb hK hJ e19 dX12_isReached_33 ?_
      refine lv_imul hx hb dX12_isReached_34 ?_
      refine lv_aload_n hx hb dX12_isReached_35 rfl (lv_at hl 0 rfl) ?_
      obtain ⟨b20, e21, hf⟩ := mb0 hf
      refine my_gR hx hb hts hown hK hJ fd_RX12_216 hv_12_100 e21 dX12_isReached_36 ?_
      refine lv_iload_n hx hb dX12_isReached_39 rfl (lv_at hl 1 rfl) ?_
      obtain ⟨x22, e23, hf⟩ := mb0 hf
      refine mx_aZ hx hb hK hJ e23 dX12_isReached_40 ?_
      refine lv_if_eq (tgt := 48) hx hb dX12_isReached_41 (by decide) (fun c24 => ?_) (fun c24 => ?_)
      · rw [if_pos c24] at hf
        refine lv_iconst (v := 1) hx hb dX12_isReached_48 (by decide) ?_
        exact D49 a0 p1 (1 : Int32) ((2 : Int32) * x18) b14 σ10 hf _ _ hJ ls (lv_sub hl [0, 1] rfl)
      · rw [if_neg c24] at hf
        refine lv_iconst (v := 0) hx hb dX12_isReached_44 (by decide) ?_
        refine lv_goto (tgt := 49) hx hb dX12_isReached_45 (by decide) ?_
        exact D49 a0 p1 (0 : Int32) ((2 : Int32) * x18) b14 σ10 hf _ _ hJ ls (lv_sub hl [0, 1] rfl)
    · rw [if_neg c13] at hf
      exact D21  σ10 hf _ _ hJ ls (lv_sub hl [] rfl)
set_option maxHeartbeats 4000000 in
set_option maxRecDepth 100000 in
theorem c_X12_goOn (l : Launch) (G : mx_G) (P : mx_P) (a0 : Nat) (p1 : Int32) (σ : mx_S) (σ' : mx_S) (hf : f_X12_goOn P a0 p1 σ = some σ') : mxz σ ≤ mpc P → mxu σ ≤ mps P → mx_M l yX12_goOn cX12_goOn 6 none 8 203 G P [.ref a0, .int p1] σ none σ' := by
  intro hcap hcau
  refine mx_ofW (by decide +kernel) hcap hcau (Nat.le_of_ble_eq_true rfl) ?_
  intro p e s m below meth c hx hb hr hml hts hown hlocks hname hK hJ ls hl
  have hz0 := hJ.2.1
  have hown : s.vm.findClass RX12 = some m.cls := hown
  have hl : lv_has ls 6 [(0, .ref a0), (1, .int p1)] := hl
  have B25 : ∀ (v0 : Nat) (v1 : Int32) (v2 : Int32) (v3 : Int32) (v4 : Int32) (τ : mx_S) (o : (Int32 × mx_S) ⊕ ((mx_S) ⊕ (Int32 × mx_S) ⊕ (mx_S))), f_X12_goOn_B25 P v0 v1 v2 v3 v4 τ = some o → (∀ (y4 : Int32) (υ : mx_S), o = .inl (y4, υ) → ∀ (H : Heap) (locs : List Loc), mx_J G P s.heap (mxz σ) (mxu σ) υ H locs → ∀ ls : Array Slot, lv_has ls 6 [(0, .ref v0), (1, .int v1), (2, .int v2), (3, .int v3), (4, .int y4)] → W p l e (mx_rm P 8 203 σ) s m ([.ref a0, .int p1] : List Value).toArray below meth c H locs (mxz υ - mxz σ) (mxu υ - mxu σ) (mx_Z below G P none σ σ' [.ref a0, .int p1] s) (F0 m 25 ls [])) → (∀  (υ : mx_S), o = .inr (.inl υ) → ∀ (H : Heap) (locs : List Loc), mx_J G P s.heap (mxz σ) (mxu σ) υ H locs → ∀ ls : Array Slot, lv_has ls 6 [(0, .ref v0)] → W p l e (mx_rm P 8 203 σ) s m ([.ref a0, .int p1] : List Value).toArray below meth c H locs (mxz υ - mxz σ) (mxu υ - mxu σ) (mx_Z below G P none σ σ' [.ref a0, .int p1] s) (F0 m 54 ls [])) → (∀ (y5 : Int32) (υ : mx_S), o = .inr (.inr (.inl (y5, υ))) → ∀ (H : Heap) (locs : List Loc), mx_J G P s.heap (mxz σ) (mxu σ) υ H locs → ∀ ls : Array Slot, lv_has ls 6 [(0, .ref v0), (2, .int v2), (5, .int y5)] → W p l e (mx_rm P 8 203 σ) s m ([.ref a0, .int p1] : List Value).toArray below meth c H locs (mxz υ - mxz σ) (mxu υ - mxu σ) (mx_Z below G P none σ σ' [.ref a0, .int p1] s) (F0 m 107 ls [])) → (∀  (υ : mx_S), o = .inr (.inr (.inr υ)) → ∀ (H : Heap) (locs : List Loc), mx_J G P s.heap (mxz σ) (mxu σ) υ H locs → ∀ ls : Array Slot, lv_has ls 6 [(0, .ref v0), (1, .int v1), (2, .int v2)] → W p l e (mx_rm P 8 203 σ) s m ([.ref a0, .int p1] : List Value).toArray below meth c H locs (mxz υ - mxz σ) (mxu υ - mxu σ) (mx_Z below G P none σ σ' [.ref a0, .int p1] s) (F0 m 130 ls [])) → ∀ (H : Heap) (locs : List Loc), mx_J G P s.heap (mxz σ) (mxu σ) τ H locs → ∀ ls : Array Slot, lv_has ls 6 [(0, .ref v0), (1, .int v1), (2, .int v2), (3, .int v3), (4, .int v4)] → W p l e (mx_rm P 8 203 σ) s m ([.ref a0, .int p1] : List Value).toArray below meth c H locs (mxz τ - mxz σ) (mxu τ - mxu σ) (mx_Z below G P none σ σ' [.ref a0, .int p1] s) (F0 m 25 ls []) := by
    intro v0 v1 v2 v3 v4 τ o hf Kb Ke0 Ke1 Ke2 H locs hJ ls hl
    unfold f_X12_goOn_B25 at hf
    refine lv_iload hx hb dX12_goOn_25 (lv_at hl 4 rfl) ?_
    refine lv_aload_n hx hb dX12_goOn_27 rfl (lv_at hl 0 rfl) ?_
    obtain ⟨b10, e11, hf⟩ := mb0 hf
    refine my_gR hx hb hts hown hK hJ fd_RX12_210 hv_12_98 e11 dX12_goOn_28 ?_
    refine lv_iload_n hx hb dX12_goOn_31 rfl (lv_at hl 1 rfl) ?_
    obtain ⟨x12, e13, hf⟩ := mb0 hf
    refine mx_aI hx hb hK hJ e13 dX12_goOn_32 ?_
    refine lv_icmp_eq (tgt := 130) hx hb dX12_goOn_33 (by decide) (fun c14 => ?_) (fun c14 => ?_)
    · rw [if_pos c14] at hf
      exact Ke2 τ (Option.some.inj hf).symm _ _ hJ ls (lv_sub hl [0, 1, 2] rfl)
    · rw [if_neg c14] at hf
      refine lv_aload_n hx hb dX12_goOn_36 rfl (lv_at hl 0 rfl) ?_
      refine lv_iload_n hx hb dX12_goOn_37 rfl (lv_at hl 1 rfl) ?_
      obtain ⟨i15, e16, hf⟩ := mb0 hf
      obtain ⟨x18, σ17, e19, hf⟩ := mc0 hf
      refine mx_callV (As := [.int v1]) (rest := []) hx hb hml hts hown hK hJ rfl rfl (ci := 12) rfl e16 (c_X12_isReached l G P v0 v1 τ x18 σ17 e19) me_X12_isReached kw_2865 ks_182 kw_2863 (Nat.le_of_ble_eq_true rfl) (Nat.le_of_ble_eq_true rfl) rfl hl.1 rfl (Nat.le_of_ble_eq_true rfl) dX12_goOn_38 (fun H locs hJ => ?_)
      refine lv_if_ne (tgt := 130) hx hb dX12_goOn_41 (by decide) (fun c20 => ?_) (fun c20 => ?_)
      · rw [if_neg c20] at hf
        exact Ke2 σ17 (Option.some.inj hf).symm _ _ hJ ls (lv_sub hl [0, 1, 2] rfl)
      · rw [if_pos c20] at hf
        refine lv_aload_n hx hb dX12_goOn_44 rfl (lv_at hl 0 rfl) ?_
        obtain ⟨x21, e22, hf⟩ := mb0 hf
        refine my_gI hx hb hts hown hK hJ fd_RX12_815 hv_12_102 e22 dX12_goOn_45 ?_
        refine lv_sipush (v := 2000) hx hb dX12_goOn_48 (by decide) ?_
        refine lv_icmp_ne (tgt := 60) hx hb dX12_goOn_51 (by decide) (fun c23 => ?_) (fun c23 => ?_)
        · rw [if_neg c23] at hf
          refine lv_aload_n hx hb dX12_goOn_60 rfl (lv_at hl 0 rfl) ?_
          refine lv_dup hx hb dX12_goOn_61 rfl ?_
          obtain ⟨x24, e25, hf⟩ := mb0 hf
          refine my_gI hx hb hts hown hK hJ fd_RX12_815 hv_12_102 e25 dX12_goOn_62 ?_
          refine lv_iconst (v := 1) hx hb dX12_goOn_65 (by decide) ?_
          refine lv_iadd hx hb dX12_goOn_66 ?_
          obtain ⟨σ26, e27, hf⟩ := mb0 hf
          refine my_pI hx hb hts hown hK hJ fd_RX12_815 cd_12 (Or.inl rfl) ht_12_102 e27 dX12_goOn_67 (fun H locs hJ => ?_)
          refine lv_aload_n hx hb dX12_goOn_70 rfl (lv_at hl 0 rfl) ?_
          obtain ⟨b28, e29, hf⟩ := mb0 hf
          refine my_gR hx hb hts hown hK hJ fd_RX12_63 hv_12_34 e29 dX12_goOn_71 ?_
          refine lv_iload_n hx hb dX12_goOn_74 rfl (lv_at hl 2 rfl) ?_
          obtain ⟨x30, e31, hf⟩ := mb0 hf
          refine mx_aI hx hb hK hJ e31 dX12_goOn_75 ?_
          refine lv_istore (lv' := [(5, .int x30), (0, .ref v0), (1, .int v1), (2, .int v2), (3, .int v3), (4, .int v4)]) hx hb dX12_goOn_76 hl (by decide) rfl (fun ls hl => ?_)
          refine lv_aload_n hx hb dX12_goOn_78 rfl (lv_at hl 1 rfl) ?_
          obtain ⟨b32, e33, hf⟩ := mb0 hf
          refine my_gR hx hb hts hown hK hJ fd_RX12_63 hv_12_34 e33 dX12_goOn_79 ?_
          refine lv_iload_n hx hb dX12_goOn_82 rfl (lv_at hl 3 rfl) ?_
          refine lv_iload hx hb dX12_goOn_83 (lv_at hl 0 rfl) ?_
          refine lv_iload_n hx hb dX12_goOn_85 rfl (lv_at hl 4 rfl) ?_
          refine lv_iadd hx hb dX12_goOn_86 ?_
          refine lv_sipush (v := 1023) hx hb dX12_goOn_87 (by decide) ?_
          refine lv_iand hx hb dX12_goOn_90 ?_
          obtain ⟨σ34, e35, hf⟩ := mb0 hf
          refine mx_sI hx hb hK hJ e35 dX12_goOn_91 (fun H locs hJ => ?_)
          refine lv_aload_n hx hb dX12_goOn_92 rfl (lv_at hl 1 rfl) ?_
          refine lv_aload_n hx hb dX12_goOn_93 rfl (lv_at hl 1 rfl) ?_
          obtain ⟨x36, e37, hf⟩ := mb0 hf
          refine my_gI hx hb hts hown hK hJ fd_RX12_809 hv_12_112 e37 dX12_goOn_94 ?_
          obtain ⟨i38, e39, hf⟩ := mb0 hf
          obtain ⟨x41, σ40, e42, hf⟩ := mc0 hf
          refine mx_callV (As := [.int x36]) (rest := []) hx hb hml hts hown hK hJ rfl rfl (ci := 12) rfl e39 (c_X12_worked l G P v0 x36 σ34 x41 σ40 e42) me_X12_worked kw_2362 ks_103 kw_2360 (Nat.le_of_ble_eq_true rfl) (Nat.le_of_ble_eq_true rfl) rfl hl.1 rfl (Nat.le_of_ble_eq_true rfl) dX12_goOn_97 (fun H locs hJ => ?_)
          refine lv_iconst (v := 1) hx hb dX12_goOn_100 (by decide) ?_
          refine lv_icmp_ne (tgt := 107) hx hb dX12_goOn_101 (by decide) (fun c43 => ?_) (fun c43 => ?_)
          · rw [if_neg c43] at hf
            exact Ke1 x30 σ40 (Option.some.inj hf).symm _ _ hJ ls (lv_sub hl [1, 3, 0] rfl)
          · rw [if_pos c43] at hf
            refine lv_goto (tgt := 121) hx hb dX12_goOn_104 (by decide) ?_
            refine lv_iload hx hb dX12_goOn_121 (lv_at hl 5 rfl) ?_
            refine lv_iload_n hx hb dX12_goOn_123 rfl (lv_at hl 4 rfl) ?_
            refine lv_iadd hx hb dX12_goOn_124 ?_
            obtain ⟨x44, e45, hf⟩ := mb0 hf
            refine mx_nI e45 ?_
            refine lv_istore (lv' := [(4, .int x44), (5, .int x30), (0, .ref v0), (1, .int v1), (2, .int v2), (3, .int v3)]) hx hb dX12_goOn_125 hl (by decide) rfl (fun ls hl => ?_)
            refine lv_goto (tgt := 25) hx hb dX12_goOn_127 (by decide) ?_
            exact Kb x44 σ40 (Option.some.inj hf).symm _ _ hJ ls (lv_sub hl [2, 3, 4, 5, 0] rfl)
        · rw [if_pos c23] at hf
          exact Ke0 σ17 (Option.some.inj hf).symm _ _ hJ ls (lv_sub hl [0] rfl)
  have L25 : ∀ (v0 : Nat) (v1 : Int32) (v2 : Int32) (v3 : Int32) (n : Nat) (v4 : Int32) (τ : mx_S) (o : (mx_S) ⊕ (Int32 × mx_S) ⊕ (mx_S)), mx_lp (f_X12_goOn_L25 P v0 v1 v2 v3) n (v4, τ) = some o → (∀  (υ : mx_S), o = (.inl υ) → ∀ (H : Heap) (locs : List Loc), mx_J G P s.heap (mxz σ) (mxu σ) υ H locs → ∀ ls : Array Slot, lv_has ls 6 [(0, .ref v0)] → W p l e (mx_rm P 8 203 σ) s m ([.ref a0, .int p1] : List Value).toArray below meth c H locs (mxz υ - mxz σ) (mxu υ - mxu σ) (mx_Z below G P none σ σ' [.ref a0, .int p1] s) (F0 m 54 ls [])) → (∀ (y5 : Int32) (υ : mx_S), o = (.inr (.inl (y5, υ))) → ∀ (H : Heap) (locs : List Loc), mx_J G P s.heap (mxz σ) (mxu σ) υ H locs → ∀ ls : Array Slot, lv_has ls 6 [(0, .ref v0), (2, .int v2), (5, .int y5)] → W p l e (mx_rm P 8 203 σ) s m ([.ref a0, .int p1] : List Value).toArray below meth c H locs (mxz υ - mxz σ) (mxu υ - mxu σ) (mx_Z below G P none σ σ' [.ref a0, .int p1] s) (F0 m 107 ls [])) → (∀  (υ : mx_S), o = (.inr (.inr υ)) → ∀ (H : Heap) (locs : List Loc), mx_J G P s.heap (mxz σ) (mxu σ) υ H locs → ∀ ls : Array Slot, lv_has ls 6 [(0, .ref v0), (1, .int v1), (2, .int v2)] → W p l e (mx_rm P 8 203 σ) s m ([.ref a0, .int p1] : List Value).toArray below meth c H locs (mxz υ - mxz σ) (mxu υ - mxu σ) (mx_Z below G P none σ σ' [.ref a0, .int p1] s) (F0 m 130 ls [])) → ∀ (H : Heap) (locs : List Loc), mx_J G P s.heap (mxz σ) (mxu σ) τ H locs → ∀ ls : Array Slot, lv_has ls 6 [(0, .ref v0), (1, .int v1), (2, .int v2), (3, .int v3), (4, .int v4)] → W p l e (mx_rm P 8 203 σ) s m ([.ref a0, .int p1] : List Value).toArray below meth c H locs (mxz τ - mxz σ) (mxu τ - mxu σ) (mx_Z below G P none σ σ' [.ref a0, .int p1] s) (F0 m 25 ls []) := by
    intro v0 v1 v2 v3 n
    induction n with
    | zero =>
      intro v4 τ o hf
      rw [mx_lp0] at hf
      cases hf
    | succ n ih =>
      intro v4 τ o hf Ke0 Ke1 Ke2 H locs hJ ls hl
      rw [mx_lpS] at hf
      obtain ⟨b, eb, hf⟩ := mb0 hf
      refine B25 v0 v1 v2 v3 v4 τ b eb (fun y4 υ ho H locs hJ ls hl => ?_) (fun  υ ho H locs hJ ls hl => ?_) (fun y5 υ ho H locs hJ ls hl => ?_) (fun  υ ho H locs hJ ls hl => ?_) H locs hJ ls hl
      · subst ho
        exact ih y4 υ o hf Ke0 Ke1 Ke2 H locs hJ ls hl
      · subst ho
        exact Ke0  υ (Option.some.inj hf).symm _ _ hJ ls hl
      · subst ho
        exact Ke1 y5 υ (Option.some.inj hf).symm _ _ hJ ls hl
      · subst ho
        exact Ke2  υ (Option.some.inj hf).symm _ _ hJ ls hl
  have D184 : ∀ (v0 : Nat) (τ : mx_S), f_X12_goOn_D184 P v0 τ = some σ' → ∀ (H : Heap) (locs : List Loc), mx_J G P s.heap (mxz σ) (mxu σ) τ H locs → ∀ ls : Array Slot, lv_has ls 6 [(0, .ref v0)] → W p l e (mx_rm P 8 203 σ) s m ([.ref a0, .int p1] : List Value).toArray below meth c H locs (mxz τ - mxz σ) (mxu τ - mxu σ) (mx_Z below G P none σ σ' [.ref a0, .int p1] s) (F0 m 184 ls []) := by
    intro v0 τ hf _ _ hJ ls hl
    unfold f_X12_goOn_D184 at hf
    refine lv_aload_n hx hb dX12_goOn_184 rfl (lv_at hl 0 rfl) ?_
    refine lv_dup hx hb dX12_goOn_185 rfl ?_
    obtain ⟨x63, e64, hf⟩ := mb0 hf
    refine my_gI hx hb hts hown hK hJ fd_RX12_821 hv_12_103 e64 dX12_goOn_186 ?_
    refine lv_iconst (v := 1) hx hb dX12_goOn_189 (by decide) ?_
    refine lv_iadd hx hb dX12_goOn_190 ?_
    obtain ⟨σ65, e66, hf⟩ := mb0 hf
    refine my_pI hx hb hts hown hK hJ fd_RX12_821 cd_12 (Or.inl rfl) ht_12_103 e66 dX12_goOn_191 (fun H locs hJ => ?_)
    exact my_vret hx hb hr hlocks hJ hf dX12_goOn_194
  have D130 : ∀ (v0 : Nat) (v1 : Int32) (v2 : Int32) (τ : mx_S), f_X12_goOn_D130 P v0 v1 v2 τ = some σ' → ∀ (H : Heap) (locs : List Loc), mx_J G P s.heap (mxz σ) (mxu σ) τ H locs → ∀ ls : Array Slot, lv_has ls 6 [(0, .ref v0), (1, .int v1), (2, .int v2)] → W p l e (mx_rm P 8 203 σ) s m ([.ref a0, .int p1] : List Value).toArray below meth c H locs (mxz τ - mxz σ) (mxu τ - mxu σ) (mx_Z below G P none σ σ' [.ref a0, .int p1] s) (F0 m 130 ls []) := by
    intro v0 v1 v2 τ hf _ _ hJ ls hl
    unfold f_X12_goOn_D130 at hf
    refine lv_aload_n hx hb dX12_goOn_130 rfl (lv_at hl 0 rfl) ?_
    obtain ⟨x60, e61, hf⟩ := mb0 hf
    refine my_gI hx hb hts hown hK hJ fd_RX12_821 hv_12_103 e61 dX12_goOn_131 ?_
    refine lv_bipush (v := 100) hx hb dX12_goOn_134 (by decide) ?_
    refine lv_icmp_ge (tgt := 184) hx hb dX12_goOn_136 (by decide) (fun c62 => ?_) (fun c62 => ?_)
    · rw [if_pos c62] at hf
      exact D184 v0 τ hf _ _ hJ ls (lv_sub hl [0] rfl)
    · rw [if_neg c62] at hf
      refine lv_aload_n hx hb dX12_goOn_139 rfl (lv_at hl 0 rfl) ?_
      obtain ⟨b67, e68, hf⟩ := mb0 hf
      refine my_gR hx hb hts hown hK hJ fd_RX12_222 hv_12_104 e68 dX12_goOn_140 ?_
      refine lv_iconst (v := 3) hx hb dX12_goOn_143 (by decide) ?_
      refine lv_aload_n hx hb dX12_goOn_144 rfl (lv_at hl 0 rfl) ?_
      obtain ⟨x69, e70, hf⟩ := mb0 hf
      refine my_gI hx hb hts hown hK hJ fd_RX12_821 hv_12_103 e70 dX12_goOn_145 ?_
      refine lv_imul hx hb dX12_goOn_148 ?_
      refine lv_iload_n hx hb dX12_goOn_149 rfl (lv_at hl 1 rfl) ?_
      obtain ⟨σ71, e72, hf⟩ := mb0 hf
      refine mx_sI hx hb hK hJ e72 dX12_goOn_150 (fun H locs hJ => ?_)
      refine lv_aload_n hx hb dX12_goOn_151 rfl (lv_at hl 0 rfl) ?_
      obtain ⟨b73, e74, hf⟩ := mb0 hf
      refine my_gR hx hb hts hown hK hJ fd_RX12_222 hv_12_104 e74 dX12_goOn_152 ?_
      refine lv_iconst (v := 3) hx hb dX12_goOn_155 (by decide) ?_
      refine lv_aload_n hx hb dX12_goOn_156 rfl (lv_at hl 0 rfl) ?_
      obtain ⟨x75, e76, hf⟩ := mb0 hf
      refine my_gI hx hb hts hown hK hJ fd_RX12_821 hv_12_103 e76 dX12_goOn_157 ?_
      refine lv_imul hx hb dX12_goOn_160 ?_
      refine lv_iconst (v := 1) hx hb dX12_goOn_161 (by decide) ?_
      refine lv_iadd hx hb dX12_goOn_162 ?_
      refine lv_iload_n hx hb dX12_goOn_163 rfl (lv_at hl 2 rfl) ?_
      obtain ⟨σ77, e78, hf⟩ := mb0 hf
      refine mx_sI hx hb hK hJ e78 dX12_goOn_164 (fun H locs hJ => ?_)
      refine lv_aload_n hx hb dX12_goOn_165 rfl (lv_at hl 0 rfl) ?_
      obtain ⟨b79, e80, hf⟩ := mb0 hf
      refine my_gR hx hb hts hown hK hJ fd_RX12_222 hv_12_104 e80 dX12_goOn_166 ?_
      refine lv_iconst (v := 3) hx hb dX12_goOn_169 (by decide) ?_
      refine lv_aload_n hx hb dX12_goOn_170 rfl (lv_at hl 0 rfl) ?_
      obtain ⟨x81, e82, hf⟩ := mb0 hf
      refine my_gI hx hb hts hown hK hJ fd_RX12_821 hv_12_103 e82 dX12_goOn_171 ?_
      refine lv_imul hx hb dX12_goOn_174 ?_
      refine lv_iconst (v := 2) hx hb dX12_goOn_175 (by decide) ?_
      refine lv_iadd hx hb dX12_goOn_176 ?_
      refine lv_aload_n hx hb dX12_goOn_177 rfl (lv_at hl 0 rfl) ?_
      obtain ⟨b83, e84, hf⟩ := mb0 hf
      refine my_gR hx hb hts hown hK hJ fd_RX12_63 hv_12_34 e84 dX12_goOn_178 ?_
      refine lv_iload_n hx hb dX12_goOn_181 rfl (lv_at hl 2 rfl) ?_
      obtain ⟨x85, e86, hf⟩ := mb0 hf
      refine mx_aI hx hb hK hJ e86 dX12_goOn_182 ?_
      obtain ⟨σ87, e88, hf⟩ := mb0 hf
      refine mx_sI hx hb hK hJ e88 dX12_goOn_183 (fun H locs hJ => ?_)
      exact D184 v0 σ87 hf _ _ hJ ls (lv_sub hl [0] rfl)
  have D21 : ∀ (v0 : Nat) (v1 : Int32) (v2 : Int32) (w0 : Int32) (τ : mx_S), f_X12_goOn_D21 P v0 v1 v2 w0 τ = some σ' → ∀ (H : Heap) (locs : List Loc), mx_J G P s.heap (mxz σ) (mxu σ) τ H locs → ∀ ls : Array Slot, lv_has ls 6 [(0, .ref v0), (1, .int v1), (2, .int v2)] → W p l e (mx_rm P 8 203 σ) s m ([.ref a0, .int p1] : List Value).toArray below meth c H locs (mxz τ - mxz σ) (mxu τ - mxu σ) (mx_Z below G P none σ σ' [.ref a0, .int p1] s) (F0 m 21 ls [.int w0]) := by
    intro v0 v1 v2 w0 τ hf _ _ hJ ls hl
    unfold f_X12_goOn_D21 at hf
    refine lv_istore_n (lv' := [(3, .int w0), (0, .ref v0), (1, .int v1), (2, .int v2)]) hx hb dX12_goOn_21 rfl hl (by decide) rfl (fun ls hl => ?_)
    refine lv_iconst (v := 0) hx hb dX12_goOn_22 (by decide) ?_
    refine lv_istore (lv' := [(4, .int (0 : Int32)), (3, .int w0), (0, .ref v0), (1, .int v1), (2, .int v2)]) hx hb dX12_goOn_23 hl (by decide) rfl (fun ls hl => ?_)
    obtain ⟨o46, e47, hf⟩ := mb0 hf
    refine L25 v0 v1 v2 w0 (mpN P) (0 : Int32) τ o46 e47 (fun σ48 ho H locs hJ ls hl => ?_) (fun y51 σ52 ho H locs hJ ls hl => ?_) (fun σ59 ho H locs hJ ls hl => ?_) _ _ hJ ls (lv_sub hl [2, 3, 4, 1, 0] rfl)
    · rw [ho] at hf
      have hf : ((mp_I P σ48 v0 12 113 (2 : Int32)).bind fun σ49 => some σ49) = some σ' := hf
      refine lv_aload_n hx hb dX12_goOn_54 rfl (lv_at hl 0 rfl) ?_
      refine lv_iconst (v := 2) hx hb dX12_goOn_55 (by decide) ?_
      obtain ⟨σ49, e50, hf⟩ := mb0 hf
      refine my_pI hx hb hts hown hK hJ fd_RX12_818 cd_12 (Or.inl rfl) ht_12_113 e50 dX12_goOn_56 (fun H locs hJ => ?_)
      exact my_vret hx hb hr hlocks hJ hf dX12_goOn_59
    · rw [ho] at hf
      have hf : ((mg_R σ52 v0 12 34).bind fun b53 => (ms_I P σ52 b53 0 v2 y51).bind fun σ55 => (mp_I P σ55 v0 12 113 (1 : Int32)).bind fun σ57 => some σ57) = some σ' := hf
      refine lv_aload_n hx hb dX12_goOn_107 rfl (lv_at hl 0 rfl) ?_
      obtain ⟨b53, e54, hf⟩ := mb0 hf
      refine my_gR hx hb hts hown hK hJ fd_RX12_63 hv_12_34 e54 dX12_goOn_108 ?_
      refine lv_iload_n hx hb dX12_goOn_111 rfl (lv_at hl 1 rfl) ?_
      refine lv_iload hx hb dX12_goOn_112 (lv_at hl 2 rfl) ?_
      obtain ⟨σ55, e56, hf⟩ := mb0 hf
      refine mx_sI hx hb hK hJ e56 dX12_goOn_114 (fun H locs hJ => ?_)
      refine lv_aload_n hx hb dX12_goOn_115 rfl (lv_at hl 0 rfl) ?_
      refine lv_iconst (v := 1) hx hb dX12_goOn_116 (by decide) ?_
      obtain ⟨σ57, e58, hf⟩ := mb0 hf
      refine my_pI hx hb hts hown hK hJ fd_RX12_818 cd_12 (Or.inl rfl) ht_12_113 e58 dX12_goOn_117 (fun H locs hJ => ?_)
      exact my_vret hx hb hr hlocks hJ hf dX12_goOn_120
    · rw [ho] at hf
      have hf : (f_X12_goOn_D130 P v0 v1 v2 σ59) = some σ' := hf
      exact D130 v0 v1 v2 σ59 hf _ _ hJ ls (lv_sub hl [0, 1, 2] rfl)
  unfold f_X12_goOn at hf
  refine lv_aload_n hx hb dX12_goOn_0 rfl (lv_at hl 0 rfl) ?_
  obtain ⟨b1, e2, hf⟩ := mb0 hf
  refine my_gR hx hb hts hown hK hJ fd_RX12_207 hv_12_97 e2 dX12_goOn_1 ?_
  refine lv_iload_n hx hb dX12_goOn_4 rfl (lv_at hl 1 rfl) ?_
  obtain ⟨x3, e4, hf⟩ := mb0 hf
  refine mx_aI hx hb hK hJ e4 dX12_goOn_5 ?_
  refine lv_istore_n (lv' := [(2, .int x3), (0, .ref a0), (1, .int p1)]) hx hb dX12_goOn_6 rfl hl (by decide) rfl (fun ls hl => ?_)
  refine lv_aload_n hx hb dX12_goOn_7 rfl (lv_at hl 1 rfl) ?_
  obtain ⟨b5, e6, hf⟩ := mb0 hf
  refine my_gR hx hb hts hown hK hJ fd_RX12_210 hv_12_98 e6 dX12_goOn_8 ?_
  refine lv_iload_n hx hb dX12_goOn_11 rfl (lv_at hl 2 rfl) ?_
  obtain ⟨x7, e8, hf⟩ := mb0 hf
  refine mx_aI hx hb hK hJ e8 dX12_goOn_12 ?_
  refine lv_if_ge (tgt := 20) hx hb dX12_goOn_13 (by decide) (fun c9 => ?_) (fun c9 => ?_)
  · rw [if_pos c9] at hf
    refine lv_iconst (v := 1) hx hb dX12_goOn_20 (by decide) ?_
    exact D21 a0 p1 x3 (1 : Int32) σ hf _ _ hJ ls (lv_sub hl [1, 2, 0] rfl)
  · rw [if_neg c9] at hf
    refine lv_iconst (v := (-1)) hx hb dX12_goOn_16 (by decide) ?_
    refine lv_goto (tgt := 21) hx hb dX12_goOn_17 (by decide) ?_
    exact D21 a0 p1 x3 (-1 : Int32) σ hf _ _ hJ ls (lv_sub hl [1, 2, 0] rfl)
set_option maxHeartbeats 4000000 in
set_option maxRecDepth 100000 in
theorem c_X12_doOrder (l : Launch) (G : mx_G) (P : mx_P) (a0 : Nat) (p1 : Int32) (σ : mx_S) (σ' : mx_S) (hf : f_X12_doOrder P a0 p1 σ = some σ') : mxz σ ≤ mpc P → mxu σ ≤ mps P → mx_M l yX12_doOrder cX12_doOrder 2 none 9 228 G P [.ref a0, .int p1] σ none σ' := by
  intro hcap hcau
  refine mx_ofW (by decide +kernel) hcap hcau (Nat.le_of_ble_eq_true rfl) ?_
  intro p e s m below meth c hx hb hr hml hts hown hlocks hname hK hJ ls hl
  have hz0 := hJ.2.1
  have hown : s.vm.findClass RX12 = some m.cls := hown
  have hl : lv_has ls 2 [(0, .ref a0), (1, .int p1)] := hl
  have D38 : ∀  (τ : mx_S), f_X12_doOrder_D38 P  τ = some σ' → ∀ (H : Heap) (locs : List Loc), mx_J G P s.heap (mxz σ) (mxu σ) τ H locs → ∀ ls : Array Slot, lv_has ls 2 [] → W p l e (mx_rm P 9 228 σ) s m ([.ref a0, .int p1] : List Value).toArray below meth c H locs (mxz τ - mxz σ) (mxu τ - mxu σ) (mx_Z below G P none σ σ' [.ref a0, .int p1] s) (F0 m 38 ls []) := by
    intro  τ hf _ _ hJ ls hl
    unfold f_X12_doOrder_D38 at hf
    exact my_vret hx hb hr hlocks hJ hf dX12_doOrder_38
  unfold f_X12_doOrder at hf
  refine lv_aload_n hx hb dX12_doOrder_0 rfl (lv_at hl 0 rfl) ?_
  obtain ⟨b1, e2, hf⟩ := mb0 hf
  refine my_gR hx hb hts hown hK hJ fd_RX12_204 hv_12_96 e2 dX12_doOrder_1 ?_
  refine lv_iload_n hx hb dX12_doOrder_4 rfl (lv_at hl 1 rfl) ?_
  obtain ⟨x3, e4, hf⟩ := mb0 hf
  refine mx_aI hx hb hK hJ e4 dX12_doOrder_5 ?_
  refine lv_iconst (v := 2) hx hb dX12_doOrder_6 (by decide) ?_
  refine lv_icmp_ge (tgt := 18) hx hb dX12_doOrder_7 (by decide) (fun c5 => ?_) (fun c5 => ?_)
  · rw [if_pos c5] at hf
    refine lv_aload_n hx hb dX12_doOrder_18 rfl (lv_at hl 0 rfl) ?_
    obtain ⟨b6, e7, hf⟩ := mb0 hf
    refine my_gR hx hb hts hown hK hJ fd_RX12_204 hv_12_96 e7 dX12_doOrder_19 ?_
    refine lv_iload_n hx hb dX12_doOrder_22 rfl (lv_at hl 1 rfl) ?_
    obtain ⟨x8, e9, hf⟩ := mb0 hf
    refine mx_aI hx hb hK hJ e9 dX12_doOrder_23 ?_
    refine lv_iconst (v := 3) hx hb dX12_doOrder_24 (by decide) ?_
    refine lv_icmp_ne (tgt := 38) hx hb dX12_doOrder_25 (by decide) (fun c10 => ?_) (fun c10 => ?_)
    · rw [if_neg c10] at hf
      exact D38  σ hf _ _ hJ ls (lv_sub hl [] rfl)
    · rw [if_pos c10] at hf
      refine lv_aload_n hx hb dX12_doOrder_28 rfl (lv_at hl 0 rfl) ?_
      refine lv_aload_n hx hb dX12_doOrder_29 rfl (lv_at hl 0 rfl) ?_
      obtain ⟨b11, e12, hf⟩ := mb0 hf
      refine my_gR hx hb hts hown hK hJ fd_RX12_207 hv_12_97 e12 dX12_doOrder_30 ?_
      refine lv_iload_n hx hb dX12_doOrder_33 rfl (lv_at hl 1 rfl) ?_
      obtain ⟨x13, e14, hf⟩ := mb0 hf
      refine mx_aI hx hb hK hJ e14 dX12_doOrder_34 ?_
      obtain ⟨σ15, e16, hf⟩ := mb0 hf
      refine my_pI hx hb hts hown hK hJ fd_RX12_809 cd_12 (Or.inl rfl) ht_12_112 e16 dX12_doOrder_35 (fun H locs hJ => ?_)
      exact D38  σ15 hf _ _ hJ ls (lv_sub hl [] rfl)
  · rw [if_neg c5] at hf
    refine lv_aload_n hx hb dX12_doOrder_10 rfl (lv_at hl 0 rfl) ?_
    refine lv_iload_n hx hb dX12_doOrder_11 rfl (lv_at hl 1 rfl) ?_
    obtain ⟨i17, e18, hf⟩ := mb0 hf
    obtain ⟨σ19, e20, hf⟩ := mb0 hf
    refine mx_callV (As := [.int p1]) (rest := []) hx hb hml hts hown hK hJ rfl rfl (ci := 12) rfl e18 (c_X12_goOn l G P a0 p1 σ σ19 e20) me_X12_goOn kw_2861 ks_181 kw_2859 (Nat.le_of_ble_eq_true rfl) (Nat.le_of_ble_eq_true rfl) rfl hl.1 rfl (Nat.le_of_ble_eq_true rfl) dX12_doOrder_12 (fun H locs hJ => ?_)
    refine lv_goto (tgt := 38) hx hb dX12_doOrder_15 (by decide) ?_
    exact D38  σ19 hf _ _ hJ ls (lv_sub hl [] rfl)
set_option maxHeartbeats 4000000 in
set_option maxRecDepth 100000 in
theorem c_X12_drive (l : Launch) (G : mx_G) (P : mx_P) (a0 : Nat) (σ : mx_S) (r : Int32) (σ' : mx_S) (hf : f_X12_drive P a0 σ = some (r, σ')) : mxz σ ≤ mpc P → mxu σ ≤ mps P → mx_M l yX12_drive cX12_drive 5 (some .int) 10 249 G P [.ref a0] σ (some (.int r)) σ' := by
  intro hcap hcau
  refine mx_ofW (by decide +kernel) hcap hcau (Nat.le_of_ble_eq_true rfl) ?_
  intro p e s m below meth c hx hb hr hml hts hown hlocks hname hK hJ ls hl
  have hz0 := hJ.2.1
  have hown : s.vm.findClass RX12 = some m.cls := hown
  have hl : lv_has ls 5 [(0, .ref a0)] := hl
  have B9 : ∀ (v0 : Nat) (τ : mx_S) (o : (mx_S) ⊕ ((mx_S))), f_X12_drive_B9 P v0  τ = some o → (∀  (υ : mx_S), o = .inl υ → ∀ (H : Heap) (locs : List Loc), mx_J G P s.heap (mxz σ) (mxu σ) υ H locs → ∀ ls : Array Slot, lv_has ls 5 [(0, .ref v0)] → W p l e (mx_rm P 10 249 σ) s m ([.ref a0] : List Value).toArray below meth c H locs (mxz υ - mxz σ) (mxu υ - mxu σ) (mx_Z below G P (some (.int r)) σ σ' [.ref a0] s) (F0 m 9 ls [])) → (∀  (υ : mx_S), o = .inr υ → ∀ (H : Heap) (locs : List Loc), mx_J G P s.heap (mxz σ) (mxu σ) υ H locs → ∀ ls : Array Slot, lv_has ls 5 [(0, .ref v0)] → W p l e (mx_rm P 10 249 σ) s m ([.ref a0] : List Value).toArray below meth c H locs (mxz υ - mxz σ) (mxu υ - mxu σ) (mx_Z below G P (some (.int r)) σ σ' [.ref a0] s) (F0 m 30 ls [])) → ∀ (H : Heap) (locs : List Loc), mx_J G P s.heap (mxz σ) (mxu σ) τ H locs → ∀ ls : Array Slot, lv_has ls 5 [(0, .ref v0)] → W p l e (mx_rm P 10 249 σ) s m ([.ref a0] : List Value).toArray below meth c H locs (mxz τ - mxz σ) (mxu τ - mxu σ) (mx_Z below G P (some (.int r)) σ σ' [.ref a0] s) (F0 m 9 ls []) := by
    intro v0  τ o hf Kb Ke0 H locs hJ ls hl
    unfold f_X12_drive_B9 at hf
    refine lv_aload_n hx hb dX12_drive_9 rfl (lv_at hl 0 rfl) ?_
    obtain ⟨x7, e8, hf⟩ := mb0 hf
    refine my_gI hx hb hts hown hK hJ fd_RX12_266 hv_12_4 e8 dX12_drive_10 ?_
    refine lv_if_ne (tgt := 30) hx hb dX12_drive_13 (by decide) (fun c9 => ?_) (fun c9 => ?_)
    · rw [if_neg c9] at hf
      exact Ke0 τ (Option.some.inj hf).symm _ _ hJ ls (lv_sub hl [0] rfl)
    · rw [if_pos c9] at hf
      refine lv_aload_n hx hb dX12_drive_16 rfl (lv_at hl 0 rfl) ?_
      obtain ⟨x10, e11, hf⟩ := mb0 hf
      refine my_gI hx hb hts hown hK hJ fd_RX12_340 hv_12_15 e11 dX12_drive_17 ?_
      refine lv_if_eq (tgt := 30) hx hb dX12_drive_20 (by decide) (fun c12 => ?_) (fun c12 => ?_)
      · rw [if_pos c12] at hf
        exact Ke0 τ (Option.some.inj hf).symm _ _ hJ ls (lv_sub hl [0] rfl)
      · rw [if_neg c12] at hf
        refine lv_aload_n hx hb dX12_drive_23 rfl (lv_at hl 0 rfl) ?_
        obtain ⟨i13, e14, hf⟩ := mb0 hf
        obtain ⟨σ15, e16, hf⟩ := mb0 hf
        refine mx_callV (As := []) (rest := []) hx hb hml hts hown hK hJ rfl rfl (ci := 12) rfl e14 (c_X12_driveStatement l G P v0 τ σ15 e16) me_X12_driveStatement kw_2841 ks_177 kw_2839 (Nat.le_of_ble_eq_true rfl) (Nat.le_of_ble_eq_true rfl) rfl hl.1 rfl (Nat.le_of_ble_eq_true rfl) dX12_drive_24 (fun H locs hJ => ?_)
        refine lv_goto (tgt := 9) hx hb dX12_drive_27 (by decide) ?_
        exact Kb σ15 (Option.some.inj hf).symm _ _ hJ ls (lv_sub hl [0] rfl)
  have L9 : ∀ (v0 : Nat) (n : Nat)  (τ : mx_S) (o : (mx_S)), mx_lp (f_X12_drive_L9 P v0) n τ = some o → (∀  (υ : mx_S), o = υ → ∀ (H : Heap) (locs : List Loc), mx_J G P s.heap (mxz σ) (mxu σ) υ H locs → ∀ ls : Array Slot, lv_has ls 5 [(0, .ref v0)] → W p l e (mx_rm P 10 249 σ) s m ([.ref a0] : List Value).toArray below meth c H locs (mxz υ - mxz σ) (mxu υ - mxu σ) (mx_Z below G P (some (.int r)) σ σ' [.ref a0] s) (F0 m 30 ls [])) → ∀ (H : Heap) (locs : List Loc), mx_J G P s.heap (mxz σ) (mxu σ) τ H locs → ∀ ls : Array Slot, lv_has ls 5 [(0, .ref v0)] → W p l e (mx_rm P 10 249 σ) s m ([.ref a0] : List Value).toArray below meth c H locs (mxz τ - mxz σ) (mxu τ - mxu σ) (mx_Z below G P (some (.int r)) σ σ' [.ref a0] s) (F0 m 9 ls []) := by
    intro v0 n
    induction n with
    | zero =>
      intro  τ o hf
      rw [mx_lp0] at hf
      cases hf
    | succ n ih =>
      intro  τ o hf Ke0 H locs hJ ls hl
      rw [mx_lpS] at hf
      obtain ⟨b, eb, hf⟩ := mb0 hf
      refine B9 v0  τ b eb (fun  υ ho H locs hJ ls hl => ?_) (fun  υ ho H locs hJ ls hl => ?_) H locs hJ ls hl
      · subst ho
        exact ih  υ o hf Ke0 H locs hJ ls hl
      · subst ho
        exact Ke0  υ (Option.some.inj hf).symm _ _ hJ ls hl
  have B53 : ∀ (v0 : Nat) (v1 : Int32) (τ : mx_S) (o : (Int32 × mx_S) ⊕ ((mx_S))), f_X12_drive_B53 P v0 v1 τ = some o → (∀ (y1 : Int32) (υ : mx_S), o = .inl (y1, υ) → ∀ (H : Heap) (locs : List Loc), mx_J G P s.heap (mxz σ) (mxu σ) υ H locs → ∀ ls : Array Slot, lv_has ls 5 [(0, .ref v0), (1, .int y1)] → W p l e (mx_rm P 10 249 σ) s m ([.ref a0] : List Value).toArray below meth c H locs (mxz υ - mxz σ) (mxu υ - mxu σ) (mx_Z below G P (some (.int r)) σ σ' [.ref a0] s) (F0 m 53 ls [])) → (∀  (υ : mx_S), o = .inr υ → ∀ (H : Heap) (locs : List Loc), mx_J G P s.heap (mxz σ) (mxu σ) υ H locs → ∀ ls : Array Slot, lv_has ls 5 [(0, .ref v0)] → W p l e (mx_rm P 10 249 σ) s m ([.ref a0] : List Value).toArray below meth c H locs (mxz υ - mxz σ) (mxu υ - mxu σ) (mx_Z below G P (some (.int r)) σ σ' [.ref a0] s) (F0 m 139 ls [])) → ∀ (H : Heap) (locs : List Loc), mx_J G P s.heap (mxz σ) (mxu σ) τ H locs → ∀ ls : Array Slot, lv_has ls 5 [(0, .ref v0), (1, .int v1)] → W p l e (mx_rm P 10 249 σ) s m ([.ref a0] : List Value).toArray below meth c H locs (mxz τ - mxz σ) (mxu τ - mxu σ) (mx_Z below G P (some (.int r)) σ σ' [.ref a0] s) (F0 m 53 ls []) := by
    intro v0 v1 τ o hf Kb Ke0 H locs hJ ls hl
    unfold f_X12_drive_B53 at hf
    refine lv_iload_n hx hb dX12_drive_53 rfl (lv_at hl 1 rfl) ?_
    refine lv_aload_n hx hb dX12_drive_54 rfl (lv_at hl 0 rfl) ?_
    obtain ⟨x31, e32, hf⟩ := mb0 hf
    refine my_gI hx hb hts hown hK hJ fd_RX12_830 hv_12_95 e32 dX12_drive_55 ?_
    refine lv_icmp_ge (tgt := 139) hx hb dX12_drive_58 (by decide) (fun c33 => ?_) (fun c33 => ?_)
    · rw [if_pos c33] at hf
      exact Ke0 τ (Option.some.inj hf).symm _ _ hJ ls (lv_sub hl [0] rfl)
    · rw [if_neg c33] at hf
      refine lv_aload_n hx hb dX12_drive_61 rfl (lv_at hl 0 rfl) ?_
      obtain ⟨b34, e35, hf⟩ := mb0 hf
      refine my_gR hx hb hts hown hK hJ fd_RX12_204 hv_12_96 e35 dX12_drive_62 ?_
      refine lv_iload_n hx hb dX12_drive_65 rfl (lv_at hl 1 rfl) ?_
      refine lv_aload_n hx hb dX12_drive_66 rfl (lv_at hl 0 rfl) ?_
      obtain ⟨b36, e37, hf⟩ := mb0 hf
      refine my_gR hx hb hts hown hK hJ fd_RX12_225 hv_12_106 e37 dX12_drive_67 ?_
      refine lv_iload_n hx hb dX12_drive_70 rfl (lv_at hl 1 rfl) ?_
      obtain ⟨x38, e39, hf⟩ := mb0 hf
      refine mx_aI hx hb hK hJ e39 dX12_drive_71 ?_
      obtain ⟨σ40, e41, hf⟩ := mb0 hf
      refine mx_sI hx hb hK hJ e41 dX12_drive_72 (fun H locs hJ => ?_)
      refine lv_aload_n hx hb dX12_drive_73 rfl (lv_at hl 0 rfl) ?_
      obtain ⟨b42, e43, hf⟩ := mb0 hf
      refine my_gR hx hb hts hown hK hJ fd_RX12_207 hv_12_97 e43 dX12_drive_74 ?_
      refine lv_iload_n hx hb dX12_drive_77 rfl (lv_at hl 1 rfl) ?_
      refine lv_aload_n hx hb dX12_drive_78 rfl (lv_at hl 0 rfl) ?_
      obtain ⟨b44, e45, hf⟩ := mb0 hf
      refine my_gR hx hb hts hown hK hJ fd_RX12_228 hv_12_107 e45 dX12_drive_79 ?_
      refine lv_iload_n hx hb dX12_drive_82 rfl (lv_at hl 1 rfl) ?_
      obtain ⟨x46, e47, hf⟩ := mb0 hf
      refine mx_aI hx hb hK hJ e47 dX12_drive_83 ?_
      obtain ⟨σ48, e49, hf⟩ := mb0 hf
      refine mx_sI hx hb hK hJ e49 dX12_drive_84 (fun H locs hJ => ?_)
      refine lv_aload_n hx hb dX12_drive_85 rfl (lv_at hl 0 rfl) ?_
      obtain ⟨b50, e51, hf⟩ := mb0 hf
      refine my_gR hx hb hts hown hK hJ fd_RX12_210 hv_12_98 e51 dX12_drive_86 ?_
      refine lv_iload_n hx hb dX12_drive_89 rfl (lv_at hl 1 rfl) ?_
      refine lv_aload_n hx hb dX12_drive_90 rfl (lv_at hl 0 rfl) ?_
      obtain ⟨b52, e53, hf⟩ := mb0 hf
      refine my_gR hx hb hts hown hK hJ fd_RX12_231 hv_12_108 e53 dX12_drive_91 ?_
      refine lv_iload_n hx hb dX12_drive_94 rfl (lv_at hl 1 rfl) ?_
      obtain ⟨x54, e55, hf⟩ := mb0 hf
      refine mx_aI hx hb hK hJ e55 dX12_drive_95 ?_
      obtain ⟨σ56, e57, hf⟩ := mb0 hf
      refine mx_sI hx hb hK hJ e57 dX12_drive_96 (fun H locs hJ => ?_)
      refine lv_aload_n hx hb dX12_drive_97 rfl (lv_at hl 0 rfl) ?_
      obtain ⟨b58, e59, hf⟩ := mb0 hf
      refine my_gR hx hb hts hown hK hJ fd_RX12_213 hv_12_99 e59 dX12_drive_98 ?_
      refine lv_iload_n hx hb dX12_drive_101 rfl (lv_at hl 1 rfl) ?_
      refine lv_aload_n hx hb dX12_drive_102 rfl (lv_at hl 0 rfl) ?_
      obtain ⟨b60, e61, hf⟩ := mb0 hf
      refine my_gR hx hb hts hown hK hJ fd_RX12_234 hv_12_109 e61 dX12_drive_103 ?_
      refine lv_iload_n hx hb dX12_drive_106 rfl (lv_at hl 1 rfl) ?_
      obtain ⟨x62, e63, hf⟩ := mb0 hf
      refine mx_aI hx hb hK hJ e63 dX12_drive_107 ?_
      obtain ⟨σ64, e65, hf⟩ := mb0 hf
      refine mx_sI hx hb hK hJ e65 dX12_drive_108 (fun H locs hJ => ?_)
      refine lv_aload_n hx hb dX12_drive_109 rfl (lv_at hl 0 rfl) ?_
      obtain ⟨b66, e67, hf⟩ := mb0 hf
      refine my_gR hx hb hts hown hK hJ fd_RX12_216 hv_12_100 e67 dX12_drive_110 ?_
      refine lv_iload_n hx hb dX12_drive_113 rfl (lv_at hl 1 rfl) ?_
      refine lv_aload_n hx hb dX12_drive_114 rfl (lv_at hl 0 rfl) ?_
      obtain ⟨b68, e69, hf⟩ := mb0 hf
      refine my_gR hx hb hts hown hK hJ fd_RX12_237 hv_12_110 e69 dX12_drive_115 ?_
      refine lv_iload_n hx hb dX12_drive_118 rfl (lv_at hl 1 rfl) ?_
      obtain ⟨x70, e71, hf⟩ := mb0 hf
      refine mx_aZ hx hb hK hJ e71 dX12_drive_119 ?_
      obtain ⟨σ72, e73, hf⟩ := mb0 hf
      refine mx_sZ hx hb hK hJ e73 dX12_drive_120 (fun H locs hJ => ?_)
      refine lv_aload_n hx hb dX12_drive_121 rfl (lv_at hl 0 rfl) ?_
      obtain ⟨b74, e75, hf⟩ := mb0 hf
      refine my_gR hx hb hts hown hK hJ fd_RX12_219 hv_12_101 e75 dX12_drive_122 ?_
      refine lv_iload_n hx hb dX12_drive_125 rfl (lv_at hl 1 rfl) ?_
      refine lv_aload_n hx hb dX12_drive_126 rfl (lv_at hl 0 rfl) ?_
      obtain ⟨b76, e77, hf⟩ := mb0 hf
      refine my_gR hx hb hts hown hK hJ fd_RX12_240 hv_12_111 e77 dX12_drive_127 ?_
      refine lv_iload_n hx hb dX12_drive_130 rfl (lv_at hl 1 rfl) ?_
      obtain ⟨x78, e79, hf⟩ := mb0 hf
      refine mx_aL hx hb hK hJ e79 dX12_drive_131 ?_
      obtain ⟨σ80, e81, hf⟩ := mb0 hf
      refine mx_sL hx hb hK hJ e81 dX12_drive_132 (fun H locs hJ => ?_)
      obtain ⟨x82, e83, hf⟩ := mb0 hf
      refine lv_iinc (v := x82) (lv' := [(1, .int x82), (0, .ref v0)]) hx hb dX12_drive_133 hl (k := 1) rfl (by rw [← Option.some.inj e83]; rfl) (by decide) rfl (fun ls hl => ?_)
      refine lv_goto (tgt := 53) hx hb dX12_drive_136 (by decide) ?_
      exact Kb x82 σ80 (Option.some.inj hf).symm _ _ hJ ls (lv_sub hl [1, 0] rfl)
  have L53 : ∀ (v0 : Nat) (n : Nat) (v1 : Int32) (τ : mx_S) (o : (mx_S)), mx_lp (f_X12_drive_L53 P v0) n (v1, τ) = some o → (∀  (υ : mx_S), o = υ → ∀ (H : Heap) (locs : List Loc), mx_J G P s.heap (mxz σ) (mxu σ) υ H locs → ∀ ls : Array Slot, lv_has ls 5 [(0, .ref v0)] → W p l e (mx_rm P 10 249 σ) s m ([.ref a0] : List Value).toArray below meth c H locs (mxz υ - mxz σ) (mxu υ - mxu σ) (mx_Z below G P (some (.int r)) σ σ' [.ref a0] s) (F0 m 139 ls [])) → ∀ (H : Heap) (locs : List Loc), mx_J G P s.heap (mxz σ) (mxu σ) τ H locs → ∀ ls : Array Slot, lv_has ls 5 [(0, .ref v0), (1, .int v1)] → W p l e (mx_rm P 10 249 σ) s m ([.ref a0] : List Value).toArray below meth c H locs (mxz τ - mxz σ) (mxu τ - mxu σ) (mx_Z below G P (some (.int r)) σ σ' [.ref a0] s) (F0 m 53 ls []) := by
    intro v0 n
    induction n with
    | zero =>
      intro v1 τ o hf
      rw [mx_lp0] at hf
      cases hf
    | succ n ih =>
      intro v1 τ o hf Ke0 H locs hJ ls hl
      rw [mx_lpS] at hf
      obtain ⟨b, eb, hf⟩ := mb0 hf
      refine B53 v0 v1 τ b eb (fun y1 υ ho H locs hJ ls hl => ?_) (fun  υ ho H locs hJ ls hl => ?_) H locs hJ ls hl
      · subst ho
        exact ih y1 υ o hf Ke0 H locs hJ ls hl
      · subst ho
        exact Ke0  υ (Option.some.inj hf).symm _ _ hJ ls hl
  have B211 : ∀ (v0 : Nat) (v1 : Int32) (v2 : Int32) (v3 : Int32) (v4 : Int32) (τ : mx_S) (o : (Int32 × mx_S) ⊕ ((mx_S))), f_X12_drive_B211 P v0 v1 v2 v3 v4 τ = some o → (∀ (y4 : Int32) (υ : mx_S), o = .inl (y4, υ) → ∀ (H : Heap) (locs : List Loc), mx_J G P s.heap (mxz σ) (mxu σ) υ H locs → ∀ ls : Array Slot, lv_has ls 5 [(0, .ref v0), (1, .int v1), (2, .int v2), (3, .int v3), (4, .int y4)] → W p l e (mx_rm P 10 249 σ) s m ([.ref a0] : List Value).toArray below meth c H locs (mxz υ - mxz σ) (mxu υ - mxu σ) (mx_Z below G P (some (.int r)) σ σ' [.ref a0] s) (F0 m 211 ls [])) → (∀  (υ : mx_S), o = .inr υ → ∀ (H : Heap) (locs : List Loc), mx_J G P s.heap (mxz σ) (mxu σ) υ H locs → ∀ ls : Array Slot, lv_has ls 5 [(0, .ref v0), (1, .int v1), (2, .int v2), (3, .int v3)] → W p l e (mx_rm P 10 249 σ) s m ([.ref a0] : List Value).toArray below meth c H locs (mxz υ - mxz σ) (mxu υ - mxu σ) (mx_Z below G P (some (.int r)) σ σ' [.ref a0] s) (F0 m 236 ls [])) → ∀ (H : Heap) (locs : List Loc), mx_J G P s.heap (mxz σ) (mxu σ) τ H locs → ∀ ls : Array Slot, lv_has ls 5 [(0, .ref v0), (1, .int v1), (2, .int v2), (3, .int v3), (4, .int v4)] → W p l e (mx_rm P 10 249 σ) s m ([.ref a0] : List Value).toArray below meth c H locs (mxz τ - mxz σ) (mxu τ - mxu σ) (mx_Z below G P (some (.int r)) σ σ' [.ref a0] s) (F0 m 211 ls []) := by
    intro v0 v1 v2 v3 v4 τ o hf Kb Ke0 H locs hJ ls hl
    unfold f_X12_drive_B211 at hf
    refine lv_iload hx hb dX12_drive_211 (lv_at hl 4 rfl) ?_
    refine lv_iload_n hx hb dX12_drive_213 rfl (lv_at hl 2 rfl) ?_
    refine lv_icmp_ge (tgt := 236) hx hb dX12_drive_214 (by decide) (fun c115 => ?_) (fun c115 => ?_)
    · rw [if_pos c115] at hf
      exact Ke0 τ (Option.some.inj hf).symm _ _ hJ ls (lv_sub hl [0, 1, 2, 3] rfl)
    · rw [if_neg c115] at hf
      refine lv_aload_n hx hb dX12_drive_217 rfl (lv_at hl 0 rfl) ?_
      obtain ⟨x116, e117, hf⟩ := mb0 hf
      refine my_gI hx hb hts hown hK hJ fd_RX12_818 hv_12_113 e117 dX12_drive_218 ?_
      refine lv_if_ne (tgt := 236) hx hb dX12_drive_221 (by decide) (fun c118 => ?_) (fun c118 => ?_)
      · rw [if_neg c118] at hf
        exact Ke0 τ (Option.some.inj hf).symm _ _ hJ ls (lv_sub hl [0, 1, 2, 3] rfl)
      · rw [if_pos c118] at hf
        refine lv_aload_n hx hb dX12_drive_224 rfl (lv_at hl 0 rfl) ?_
        refine lv_iload hx hb dX12_drive_225 (lv_at hl 4 rfl) ?_
        obtain ⟨i119, e120, hf⟩ := mb0 hf
        obtain ⟨σ121, e122, hf⟩ := mb0 hf
        refine mx_callV (As := [.int v4]) (rest := []) hx hb hml hts hown hK hJ rfl rfl (ci := 12) rfl e120 (c_X12_doOrder l G P v0 v4 τ σ121 e122) me_X12_doOrder kw_2857 ks_180 kw_2855 (Nat.le_of_ble_eq_true rfl) (Nat.le_of_ble_eq_true rfl) rfl hl.1 rfl (Nat.le_of_ble_eq_true rfl) dX12_drive_227 (fun H locs hJ => ?_)
        obtain ⟨x123, e124, hf⟩ := mb0 hf
        refine lv_iinc (v := x123) (lv' := [(4, .int x123), (0, .ref v0), (1, .int v1), (2, .int v2), (3, .int v3)]) hx hb dX12_drive_230 hl (k := 4) rfl (by rw [← Option.some.inj e124]; rfl) (by decide) rfl (fun ls hl => ?_)
        refine lv_goto (tgt := 211) hx hb dX12_drive_233 (by decide) ?_
        exact Kb x123 σ121 (Option.some.inj hf).symm _ _ hJ ls (lv_sub hl [1, 2, 3, 4, 0] rfl)
  have L211 : ∀ (v0 : Nat) (v1 : Int32) (v2 : Int32) (v3 : Int32) (n : Nat) (v4 : Int32) (τ : mx_S) (o : (mx_S)), mx_lp (f_X12_drive_L211 P v0 v1 v2 v3) n (v4, τ) = some o → (∀  (υ : mx_S), o = υ → ∀ (H : Heap) (locs : List Loc), mx_J G P s.heap (mxz σ) (mxu σ) υ H locs → ∀ ls : Array Slot, lv_has ls 5 [(0, .ref v0), (1, .int v1), (2, .int v2), (3, .int v3)] → W p l e (mx_rm P 10 249 σ) s m ([.ref a0] : List Value).toArray below meth c H locs (mxz υ - mxz σ) (mxu υ - mxu σ) (mx_Z below G P (some (.int r)) σ σ' [.ref a0] s) (F0 m 236 ls [])) → ∀ (H : Heap) (locs : List Loc), mx_J G P s.heap (mxz σ) (mxu σ) τ H locs → ∀ ls : Array Slot, lv_has ls 5 [(0, .ref v0), (1, .int v1), (2, .int v2), (3, .int v3), (4, .int v4)] → W p l e (mx_rm P 10 249 σ) s m ([.ref a0] : List Value).toArray below meth c H locs (mxz τ - mxz σ) (mxu τ - mxu σ) (mx_Z below G P (some (.int r)) σ σ' [.ref a0] s) (F0 m 211 ls []) := by
    intro v0 v1 v2 v3 n
    induction n with
    | zero =>
      intro v4 τ o hf
      rw [mx_lp0] at hf
      cases hf
    | succ n ih =>
      intro v4 τ o hf Ke0 H locs hJ ls hl
      rw [mx_lpS] at hf
      obtain ⟨b, eb, hf⟩ := mb0 hf
      refine B211 v0 v1 v2 v3 v4 τ b eb (fun y4 υ ho H locs hJ ls hl => ?_) (fun  υ ho H locs hJ ls hl => ?_) H locs hJ ls hl
      · subst ho
        exact ih y4 υ o hf Ke0 H locs hJ ls hl
      · subst ho
        exact Ke0  υ (Option.some.inj hf).symm _ _ hJ ls hl
  have D236_198 : ∀ (v0 : Nat) (v1 : Int32) (v2 : Int32) (v3 : Int32) (τ : mx_S) (o : (Int32 × mx_S) ⊕ ((mx_S))), f_X12_drive_D236_198 P v0 v1 v2 v3 τ = some o → (∀ (y3 : Int32) (υ : mx_S), o = .inl (y3, υ) → ∀ (H : Heap) (locs : List Loc), mx_J G P s.heap (mxz σ) (mxu σ) υ H locs → ∀ ls : Array Slot, lv_has ls 5 [(0, .ref v0), (1, .int v1), (2, .int v2), (3, .int y3)] → W p l e (mx_rm P 10 249 σ) s m ([.ref a0] : List Value).toArray below meth c H locs (mxz υ - mxz σ) (mxu υ - mxu σ) (mx_Z below G P (some (.int r)) σ σ' [.ref a0] s) (F0 m 198 ls [])) → (∀  (υ : mx_S), o = .inr υ → ∀ (H : Heap) (locs : List Loc), mx_J G P s.heap (mxz σ) (mxu σ) υ H locs → ∀ ls : Array Slot, lv_has ls 5 [(0, .ref v0), (2, .int v2)] → W p l e (mx_rm P 10 249 σ) s m ([.ref a0] : List Value).toArray below meth c H locs (mxz υ - mxz σ) (mxu υ - mxu σ) (mx_Z below G P (some (.int r)) σ σ' [.ref a0] s) (F0 m 242 ls [])) → ∀ (H : Heap) (locs : List Loc), mx_J G P s.heap (mxz σ) (mxu σ) τ H locs → ∀ ls : Array Slot, lv_has ls 5 [(0, .ref v0), (1, .int v1), (2, .int v2), (3, .int v3)] → W p l e (mx_rm P 10 249 σ) s m ([.ref a0] : List Value).toArray below meth c H locs (mxz τ - mxz σ) (mxu τ - mxu σ) (mx_Z below G P (some (.int r)) σ σ' [.ref a0] s) (F0 m 236 ls []) := by
    intro v0 v1 v2 v3 τ o hf Kb Ke0 H locs hJ ls hl
    unfold f_X12_drive_D236_198 at hf
    obtain ⟨x128, e129, hf⟩ := mb0 hf
    refine lv_iinc (v := x128) (lv' := [(3, .int x128), (0, .ref v0), (1, .int v1), (2, .int v2)]) hx hb dX12_drive_236 hl (k := 3) rfl (by rw [← Option.some.inj e129]; rfl) (by decide) rfl (fun ls hl => ?_)
    refine lv_goto (tgt := 198) hx hb dX12_drive_239 (by decide) ?_
    exact Kb x128 τ (Option.some.inj hf).symm _ _ hJ ls (lv_sub hl [1, 2, 3, 0] rfl)
  have B198 : ∀ (v0 : Nat) (v1 : Int32) (v2 : Int32) (v3 : Int32) (τ : mx_S) (o : (Int32 × mx_S) ⊕ ((mx_S))), f_X12_drive_B198 P v0 v1 v2 v3 τ = some o → (∀ (y3 : Int32) (υ : mx_S), o = .inl (y3, υ) → ∀ (H : Heap) (locs : List Loc), mx_J G P s.heap (mxz σ) (mxu σ) υ H locs → ∀ ls : Array Slot, lv_has ls 5 [(0, .ref v0), (1, .int v1), (2, .int v2), (3, .int y3)] → W p l e (mx_rm P 10 249 σ) s m ([.ref a0] : List Value).toArray below meth c H locs (mxz υ - mxz σ) (mxu υ - mxu σ) (mx_Z below G P (some (.int r)) σ σ' [.ref a0] s) (F0 m 198 ls [])) → (∀  (υ : mx_S), o = .inr υ → ∀ (H : Heap) (locs : List Loc), mx_J G P s.heap (mxz σ) (mxu σ) υ H locs → ∀ ls : Array Slot, lv_has ls 5 [(0, .ref v0), (2, .int v2)] → W p l e (mx_rm P 10 249 σ) s m ([.ref a0] : List Value).toArray below meth c H locs (mxz υ - mxz σ) (mxu υ - mxu σ) (mx_Z below G P (some (.int r)) σ σ' [.ref a0] s) (F0 m 242 ls [])) → ∀ (H : Heap) (locs : List Loc), mx_J G P s.heap (mxz σ) (mxu σ) τ H locs → ∀ ls : Array Slot, lv_has ls 5 [(0, .ref v0), (1, .int v1), (2, .int v2), (3, .int v3)] → W p l e (mx_rm P 10 249 σ) s m ([.ref a0] : List Value).toArray below meth c H locs (mxz τ - mxz σ) (mxu τ - mxu σ) (mx_Z below G P (some (.int r)) σ σ' [.ref a0] s) (F0 m 198 ls []) := by
    intro v0 v1 v2 v3 τ o hf Kb Ke0 H locs hJ ls hl
    unfold f_X12_drive_B198 at hf
    refine lv_iload_n hx hb dX12_drive_198 rfl (lv_at hl 3 rfl) ?_
    refine lv_aload_n hx hb dX12_drive_199 rfl (lv_at hl 0 rfl) ?_
    obtain ⟨b110, e111, hf⟩ := mb0 hf
    refine my_gR hx hb hts hown hK hJ fd_RX12_207 hv_12_97 e111 dX12_drive_200 ?_
    refine lv_iload_n hx hb dX12_drive_203 rfl (lv_at hl 2 rfl) ?_
    obtain ⟨x112, e113, hf⟩ := mb0 hf
    refine mx_aI hx hb hK hJ e113 dX12_drive_204 ?_
    refine lv_icmp_ge (tgt := 242) hx hb dX12_drive_205 (by decide) (fun c114 => ?_) (fun c114 => ?_)
    · rw [if_pos c114] at hf
      exact Ke0 τ (Option.some.inj hf).symm _ _ hJ ls (lv_sub hl [0, 2] rfl)
    · rw [if_neg c114] at hf
      refine lv_iload_n hx hb dX12_drive_208 rfl (lv_at hl 1 rfl) ?_
      refine lv_istore (lv' := [(4, .int v1), (0, .ref v0), (1, .int v1), (2, .int v2), (3, .int v3)]) hx hb dX12_drive_209 hl (by decide) rfl (fun ls hl => ?_)
      obtain ⟨o125, e126, hf⟩ := mb0 hf
      refine L211 v0 v1 v2 v3 (mpN P) v1 τ o125 e126 (fun σ127 ho H locs hJ ls hl => ?_) _ _ hJ ls (lv_sub hl [1, 2, 3, 4, 0] rfl)
      · rw [ho] at hf
        have hf : (f_X12_drive_D236_198 P v0 v1 v2 v3 σ127) = some o := hf
        exact D236_198 v0 v1 v2 v3 σ127 o hf Kb Ke0 _ _ hJ ls (lv_sub hl [0, 1, 2, 3] rfl)
  have L198 : ∀ (v0 : Nat) (v1 : Int32) (v2 : Int32) (n : Nat) (v3 : Int32) (τ : mx_S) (o : (mx_S)), mx_lp (f_X12_drive_L198 P v0 v1 v2) n (v3, τ) = some o → (∀  (υ : mx_S), o = υ → ∀ (H : Heap) (locs : List Loc), mx_J G P s.heap (mxz σ) (mxu σ) υ H locs → ∀ ls : Array Slot, lv_has ls 5 [(0, .ref v0), (2, .int v2)] → W p l e (mx_rm P 10 249 σ) s m ([.ref a0] : List Value).toArray below meth c H locs (mxz υ - mxz σ) (mxu υ - mxu σ) (mx_Z below G P (some (.int r)) σ σ' [.ref a0] s) (F0 m 242 ls [])) → ∀ (H : Heap) (locs : List Loc), mx_J G P s.heap (mxz σ) (mxu σ) τ H locs → ∀ ls : Array Slot, lv_has ls 5 [(0, .ref v0), (1, .int v1), (2, .int v2), (3, .int v3)] → W p l e (mx_rm P 10 249 σ) s m ([.ref a0] : List Value).toArray below meth c H locs (mxz τ - mxz σ) (mxu τ - mxu σ) (mx_Z below G P (some (.int r)) σ σ' [.ref a0] s) (F0 m 198 ls []) := by
    intro v0 v1 v2 n
    induction n with
    | zero =>
      intro v3 τ o hf
      rw [mx_lp0] at hf
      cases hf
    | succ n ih =>
      intro v3 τ o hf Ke0 H locs hJ ls hl
      rw [mx_lpS] at hf
      obtain ⟨b, eb, hf⟩ := mb0 hf
      refine B198 v0 v1 v2 v3 τ b eb (fun y3 υ ho H locs hJ ls hl => ?_) (fun  υ ho H locs hJ ls hl => ?_) H locs hJ ls hl
      · subst ho
        exact ih y3 υ o hf Ke0 H locs hJ ls hl
      · subst ho
        exact Ke0  υ (Option.some.inj hf).symm _ _ hJ ls hl
  have D246_163 : ∀ (v0 : Nat) (v1 : Int32) (v2 : Int32) (τ : mx_S) (o : (Int32 × Int32 × mx_S) ⊕ ((mx_S))), f_X12_drive_D246_163 P v0 v1 v2 τ = some o → (∀ (y1 : Int32) (y2 : Int32) (υ : mx_S), o = .inl (y1, y2, υ) → ∀ (H : Heap) (locs : List Loc), mx_J G P s.heap (mxz σ) (mxu σ) υ H locs → ∀ ls : Array Slot, lv_has ls 5 [(0, .ref v0), (1, .int y1), (2, .int y2)] → W p l e (mx_rm P 10 249 σ) s m ([.ref a0] : List Value).toArray below meth c H locs (mxz υ - mxz σ) (mxu υ - mxu σ) (mx_Z below G P (some (.int r)) σ σ' [.ref a0] s) (F0 m 163 ls [])) → (∀  (υ : mx_S), o = .inr υ → ∀ (H : Heap) (locs : List Loc), mx_J G P s.heap (mxz σ) (mxu σ) υ H locs → ∀ ls : Array Slot, lv_has ls 5 [(0, .ref v0)] → W p l e (mx_rm P 10 249 σ) s m ([.ref a0] : List Value).toArray below meth c H locs (mxz υ - mxz σ) (mxu υ - mxu σ) (mx_Z below G P (some (.int r)) σ σ' [.ref a0] s) (F0 m 252 ls [])) → ∀ (H : Heap) (locs : List Loc), mx_J G P s.heap (mxz σ) (mxu σ) τ H locs → ∀ ls : Array Slot, lv_has ls 5 [(0, .ref v0), (1, .int v1), (2, .int v2)] → W p l e (mx_rm P 10 249 σ) s m ([.ref a0] : List Value).toArray below meth c H locs (mxz τ - mxz σ) (mxu τ - mxu σ) (mx_Z below G P (some (.int r)) σ σ' [.ref a0] s) (F0 m 246 ls []) := by
    intro v0 v1 v2 τ o hf Kb Ke0 H locs hJ ls hl
    unfold f_X12_drive_D246_163 at hf
    obtain ⟨x135, e136, hf⟩ := mb0 hf
    refine lv_iinc (v := x135) (lv' := [(2, .int x135), (0, .ref v0), (1, .int v1)]) hx hb dX12_drive_246 hl (k := 2) rfl (by rw [← Option.some.inj e136]; rfl) (by decide) rfl (fun ls hl => ?_)
    refine lv_goto (tgt := 163) hx hb dX12_drive_249 (by decide) ?_
    exact Kb v1 x135 τ (Option.some.inj hf).symm _ _ hJ ls (lv_sub hl [1, 2, 0] rfl)
  have B163 : ∀ (v0 : Nat) (v1 : Int32) (v2 : Int32) (τ : mx_S) (o : (Int32 × Int32 × mx_S) ⊕ ((mx_S))), f_X12_drive_B163 P v0 v1 v2 τ = some o → (∀ (y1 : Int32) (y2 : Int32) (υ : mx_S), o = .inl (y1, y2, υ) → ∀ (H : Heap) (locs : List Loc), mx_J G P s.heap (mxz σ) (mxu σ) υ H locs → ∀ ls : Array Slot, lv_has ls 5 [(0, .ref v0), (1, .int y1), (2, .int y2)] → W p l e (mx_rm P 10 249 σ) s m ([.ref a0] : List Value).toArray below meth c H locs (mxz υ - mxz σ) (mxu υ - mxu σ) (mx_Z below G P (some (.int r)) σ σ' [.ref a0] s) (F0 m 163 ls [])) → (∀  (υ : mx_S), o = .inr υ → ∀ (H : Heap) (locs : List Loc), mx_J G P s.heap (mxz σ) (mxu σ) υ H locs → ∀ ls : Array Slot, lv_has ls 5 [(0, .ref v0)] → W p l e (mx_rm P 10 249 σ) s m ([.ref a0] : List Value).toArray below meth c H locs (mxz υ - mxz σ) (mxu υ - mxu σ) (mx_Z below G P (some (.int r)) σ σ' [.ref a0] s) (F0 m 252 ls [])) → ∀ (H : Heap) (locs : List Loc), mx_J G P s.heap (mxz σ) (mxu σ) τ H locs → ∀ ls : Array Slot, lv_has ls 5 [(0, .ref v0), (1, .int v1), (2, .int v2)] → W p l e (mx_rm P 10 249 σ) s m ([.ref a0] : List Value).toArray below meth c H locs (mxz τ - mxz σ) (mxu τ - mxu σ) (mx_Z below G P (some (.int r)) σ σ' [.ref a0] s) (F0 m 163 ls []) := by
    intro v0 v1 v2 τ o hf Kb Ke0 H locs hJ ls hl
    unfold f_X12_drive_B163 at hf
    refine lv_iload_n hx hb dX12_drive_163 rfl (lv_at hl 2 rfl) ?_
    refine lv_aload_n hx hb dX12_drive_164 rfl (lv_at hl 0 rfl) ?_
    obtain ⟨x95, e96, hf⟩ := mb0 hf
    refine my_gI hx hb hts hown hK hJ fd_RX12_830 hv_12_95 e96 dX12_drive_165 ?_
    refine lv_icmp_ge (tgt := 252) hx hb dX12_drive_168 (by decide) (fun c97 => ?_) (fun c97 => ?_)
    · rw [if_pos c97] at hf
      exact Ke0 τ (Option.some.inj hf).symm _ _ hJ ls (lv_sub hl [0] rfl)
    · rw [if_neg c97] at hf
      refine lv_aload_n hx hb dX12_drive_171 rfl (lv_at hl 0 rfl) ?_
      obtain ⟨x98, e99, hf⟩ := mb0 hf
      refine my_gI hx hb hts hown hK hJ fd_RX12_818 hv_12_113 e99 dX12_drive_172 ?_
      refine lv_if_ne (tgt := 252) hx hb dX12_drive_175 (by decide) (fun c100 => ?_) (fun c100 => ?_)
      · rw [if_neg c100] at hf
        exact Ke0 τ (Option.some.inj hf).symm _ _ hJ ls (lv_sub hl [0] rfl)
      · rw [if_pos c100] at hf
        refine lv_aload_n hx hb dX12_drive_178 rfl (lv_at hl 0 rfl) ?_
        refine lv_iload_n hx hb dX12_drive_179 rfl (lv_at hl 2 rfl) ?_
        obtain ⟨i101, e102, hf⟩ := mb0 hf
        obtain ⟨σ103, e104, hf⟩ := mb0 hf
        refine mx_callV (As := [.int v2]) (rest := []) hx hb hml hts hown hK hJ rfl rfl (ci := 12) rfl e102 (c_X12_doOrder l G P v0 v2 τ σ103 e104) me_X12_doOrder kw_2857 ks_180 kw_2855 (Nat.le_of_ble_eq_true rfl) (Nat.le_of_ble_eq_true rfl) rfl hl.1 rfl (Nat.le_of_ble_eq_true rfl) dX12_drive_180 (fun H locs hJ => ?_)
        refine lv_aload_n hx hb dX12_drive_183 rfl (lv_at hl 0 rfl) ?_
        obtain ⟨b105, e106, hf⟩ := mb0 hf
        refine my_gR hx hb hts hown hK hJ fd_RX12_204 hv_12_96 e106 dX12_drive_184 ?_
        refine lv_iload_n hx hb dX12_drive_187 rfl (lv_at hl 2 rfl) ?_
        obtain ⟨x107, e108, hf⟩ := mb0 hf
        refine mx_aI hx hb hK hJ e108 dX12_drive_188 ?_
        refine lv_iconst (v := 2) hx hb dX12_drive_189 (by decide) ?_
        refine lv_icmp_eq (tgt := 196) hx hb dX12_drive_190 (by decide) (fun c109 => ?_) (fun c109 => ?_)
        · rw [if_pos c109] at hf
          refine lv_iconst (v := 0) hx hb dX12_drive_196 (by decide) ?_
          refine lv_istore_n (lv' := [(3, .int (0 : Int32)), (0, .ref v0), (1, .int v1), (2, .int v2)]) hx hb dX12_drive_197 rfl hl (by decide) rfl (fun ls hl => ?_)
          obtain ⟨o130, e131, hf⟩ := mb0 hf
          refine L198 v0 v1 v2 (mpN P) (0 : Int32) σ103 o130 e131 (fun σ132 ho H locs hJ ls hl => ?_) _ _ hJ ls (lv_sub hl [1, 2, 3, 0] rfl)
          · rw [ho] at hf
            have hf : ((some (v2 + (1 : Int32))).bind fun x133 => f_X12_drive_D246_163 P v0 x133 v2 σ132) = some o := hf
            refine lv_iload_n hx hb dX12_drive_242 rfl (lv_at hl 1 rfl) ?_
            refine lv_iconst (v := 1) hx hb dX12_drive_243 (by decide) ?_
            refine lv_iadd hx hb dX12_drive_244 ?_
            obtain ⟨x133, e134, hf⟩ := mb0 hf
            refine mx_nI e134 ?_
            refine lv_istore_n (lv' := [(1, .int x133), (0, .ref v0), (2, .int v2)]) hx hb dX12_drive_245 rfl hl (by decide) rfl (fun ls hl => ?_)
            exact D246_163 v0 x133 v2 σ132 o hf Kb Ke0 _ _ hJ ls (lv_sub hl [1, 0, 2] rfl)
        · rw [if_neg c109] at hf
          refine lv_goto (tgt := 246) hx hb dX12_drive_193 (by decide) ?_
          exact D246_163 v0 v1 v2 σ103 o hf Kb Ke0 _ _ hJ ls (lv_sub hl [0, 1, 2] rfl)
  have L163 : ∀ (v0 : Nat) (n : Nat) (v1 : Int32) (v2 : Int32) (τ : mx_S) (o : (mx_S)), mx_lp (f_X12_drive_L163 P v0) n (v1, v2, τ) = some o → (∀  (υ : mx_S), o = υ → ∀ (H : Heap) (locs : List Loc), mx_J G P s.heap (mxz σ) (mxu σ) υ H locs → ∀ ls : Array Slot, lv_has ls 5 [(0, .ref v0)] → W p l e (mx_rm P 10 249 σ) s m ([.ref a0] : List Value).toArray below meth c H locs (mxz υ - mxz σ) (mxu υ - mxu σ) (mx_Z below G P (some (.int r)) σ σ' [.ref a0] s) (F0 m 252 ls [])) → ∀ (H : Heap) (locs : List Loc), mx_J G P s.heap (mxz σ) (mxu σ) τ H locs → ∀ ls : Array Slot, lv_has ls 5 [(0, .ref v0), (1, .int v1), (2, .int v2)] → W p l e (mx_rm P 10 249 σ) s m ([.ref a0] : List Value).toArray below meth c H locs (mxz τ - mxz σ) (mxu τ - mxu σ) (mx_Z below G P (some (.int r)) σ σ' [.ref a0] s) (F0 m 163 ls []) := by
    intro v0 n
    induction n with
    | zero =>
      intro v1 v2 τ o hf
      rw [mx_lp0] at hf
      cases hf
    | succ n ih =>
      intro v1 v2 τ o hf Ke0 H locs hJ ls hl
      rw [mx_lpS] at hf
      obtain ⟨b, eb, hf⟩ := mb0 hf
      refine B163 v0 v1 v2 τ b eb (fun y1 y2 υ ho H locs hJ ls hl => ?_) (fun  υ ho H locs hJ ls hl => ?_) H locs hJ ls hl
      · subst ho
        exact ih y1 y2 υ o hf Ke0 H locs hJ ls hl
      · subst ho
        exact Ke0  υ (Option.some.inj hf).symm _ _ hJ ls hl
  have D252 : ∀ (v0 : Nat) (τ : mx_S), f_X12_drive_D252 P v0 τ = some (r, σ') → ∀ (H : Heap) (locs : List Loc), mx_J G P s.heap (mxz σ) (mxu σ) τ H locs → ∀ ls : Array Slot, lv_has ls 5 [(0, .ref v0)] → W p l e (mx_rm P 10 249 σ) s m ([.ref a0] : List Value).toArray below meth c H locs (mxz τ - mxz σ) (mxu τ - mxu σ) (mx_Z below G P (some (.int r)) σ σ' [.ref a0] s) (F0 m 252 ls []) := by
    intro v0 τ hf _ _ hJ ls hl
    unfold f_X12_drive_D252 at hf
    refine lv_aload_n hx hb dX12_drive_252 rfl (lv_at hl 0 rfl) ?_
    obtain ⟨x140, e141, hf⟩ := mb0 hf
    refine my_gI hx hb hts hown hK hJ fd_RX12_818 hv_12_113 e141 dX12_drive_253 ?_
    exact my_iret hx hb hr hlocks hJ hf dX12_drive_256
  have D30 : ∀ (v0 : Nat) (τ : mx_S), f_X12_drive_D30 P v0 τ = some (r, σ') → ∀ (H : Heap) (locs : List Loc), mx_J G P s.heap (mxz σ) (mxu σ) τ H locs → ∀ ls : Array Slot, lv_has ls 5 [(0, .ref v0)] → W p l e (mx_rm P 10 249 σ) s m ([.ref a0] : List Value).toArray below meth c H locs (mxz τ - mxz σ) (mxu τ - mxu σ) (mx_Z below G P (some (.int r)) σ σ' [.ref a0] s) (F0 m 30 ls []) := by
    intro v0 τ hf _ _ hJ ls hl
    unfold f_X12_drive_D30 at hf
    refine lv_aload_n hx hb dX12_drive_30 rfl (lv_at hl 0 rfl) ?_
    obtain ⟨i20, e21, hf⟩ := mb0 hf
    obtain ⟨σ22, e23, hf⟩ := mb0 hf
    refine mx_callV (As := []) (rest := []) hx hb hml hts hown hK hJ rfl rfl (ci := 12) rfl e21 (c_X12_tossFault l G P v0 τ σ22 e23) me_X12_tossFault kw_2344 ks_102 kw_2342 (Nat.le_of_ble_eq_true rfl) (Nat.le_of_ble_eq_true rfl) rfl hl.1 rfl (Nat.le_of_ble_eq_true rfl) dX12_drive_31 (fun H locs hJ => ?_)
    refine lv_aload_n hx hb dX12_drive_34 rfl (lv_at hl 0 rfl) ?_
    obtain ⟨x24, e25, hf⟩ := mb0 hf
    refine my_gI hx hb hts hown hK hJ fd_RX12_243 hv_12_0 e25 dX12_drive_35 ?_
    refine lv_if_le (tgt := 43) hx hb dX12_drive_38 (by decide) (fun c26 => ?_) (fun c26 => ?_)
    · rw [if_pos c26] at hf
      refine lv_aload_n hx hb dX12_drive_43 rfl (lv_at hl 0 rfl) ?_
      refine lv_aload_n hx hb dX12_drive_44 rfl (lv_at hl 0 rfl) ?_
      obtain ⟨x27, e28, hf⟩ := mb0 hf
      refine my_gI hx hb hts hown hK hJ fd_RX12_800 hv_12_105 e28 dX12_drive_45 ?_
      obtain ⟨σ29, e30, hf⟩ := mb0 hf
      refine my_pI hx hb hts hown hK hJ fd_RX12_830 cd_12 (Or.inl rfl) ht_12_95 e30 dX12_drive_48 (fun H locs hJ => ?_)
      refine lv_iconst (v := 0) hx hb dX12_drive_51 (by decide) ?_
      refine lv_istore_n (lv' := [(1, .int (0 : Int32)), (0, .ref v0)]) hx hb dX12_drive_52 rfl hl (by decide) rfl (fun ls hl => ?_)
      obtain ⟨o84, e85, hf⟩ := mb0 hf
      refine L53 v0 (mpN P) (0 : Int32) σ29 o84 e85 (fun σ86 ho H locs hJ ls hl => ?_) _ _ hJ ls (lv_sub hl [1, 0] rfl)
      · rw [ho] at hf
        have hf : ((mp_I P σ86 v0 12 102 (0 : Int32)).bind fun σ87 => (mp_I P σ87 v0 12 103 (0 : Int32)).bind fun σ89 => (mp_I P σ89 v0 12 113 (0 : Int32)).bind fun σ91 => (mp_I P σ91 v0 12 112 (0 : Int32)).bind fun σ93 => (mx_lp (f_X12_drive_L163 P v0) (mpN P) ((0 : Int32), (0 : Int32), σ93)).bind (fun t => (fun σ139 => f_X12_drive_D252 P v0 σ139) t)) = some (r, σ') := hf
        refine lv_aload_n hx hb dX12_drive_139 rfl (lv_at hl 0 rfl) ?_
        refine lv_iconst (v := 0) hx hb dX12_drive_140 (by decide) ?_
        obtain ⟨σ87, e88, hf⟩ := mb0 hf
        refine my_pI hx hb hts hown hK hJ fd_RX12_815 cd_12 (Or.inl rfl) ht_12_102 e88 dX12_drive_141 (fun H locs hJ => ?_)
        refine lv_aload_n hx hb dX12_drive_144 rfl (lv_at hl 0 rfl) ?_
        refine lv_iconst (v := 0) hx hb dX12_drive_145 (by decide) ?_
        obtain ⟨σ89, e90, hf⟩ := mb0 hf
        refine my_pI hx hb hts hown hK hJ fd_RX12_821 cd_12 (Or.inl rfl) ht_12_103 e90 dX12_drive_146 (fun H locs hJ => ?_)
        refine lv_aload_n hx hb dX12_drive_149 rfl (lv_at hl 0 rfl) ?_
        refine lv_iconst (v := 0) hx hb dX12_drive_150 (by decide) ?_
        obtain ⟨σ91, e92, hf⟩ := mb0 hf
        refine my_pI hx hb hts hown hK hJ fd_RX12_818 cd_12 (Or.inl rfl) ht_12_113 e92 dX12_drive_151 (fun H locs hJ => ?_)
        refine lv_aload_n hx hb dX12_drive_154 rfl (lv_at hl 0 rfl) ?_
        refine lv_iconst (v := 0) hx hb dX12_drive_155 (by decide) ?_
        obtain ⟨σ93, e94, hf⟩ := mb0 hf
        refine my_pI hx hb hts hown hK hJ fd_RX12_809 cd_12 (Or.inl rfl) ht_12_112 e94 dX12_drive_156 (fun H locs hJ => ?_)
        refine lv_iconst (v := 0) hx hb dX12_drive_159 (by decide) ?_
        refine lv_istore_n (lv' := [(1, .int (0 : Int32)), (0, .ref v0)]) hx hb dX12_drive_160 rfl hl (by decide) rfl (fun ls hl => ?_)
        refine lv_iconst (v := 0) hx hb dX12_drive_161 (by decide) ?_
        refine lv_istore_n (lv' := [(2, .int (0 : Int32)), (1, .int (0 : Int32)), (0, .ref v0)]) hx hb dX12_drive_162 rfl hl (by decide) rfl (fun ls hl => ?_)
        obtain ⟨o137, e138, hf⟩ := mb0 hf
        refine L163 v0 (mpN P) (0 : Int32) (0 : Int32) σ93 o137 e138 (fun σ139 ho H locs hJ ls hl => ?_) _ _ hJ ls (lv_sub hl [2, 1, 0] rfl)
        · rw [ho] at hf
          have hf : (f_X12_drive_D252 P v0 σ139) = some (r, σ') := hf
          exact D252 v0 σ139 hf _ _ hJ ls (lv_sub hl [0] rfl)
    · rw [if_neg c26] at hf
      refine lv_iconst (v := 0) hx hb dX12_drive_41 (by decide) ?_
      exact my_iret hx hb hr hlocks hJ hf dX12_drive_42
  unfold f_X12_drive at hf
  refine lv_aload_n hx hb dX12_drive_0 rfl (lv_at hl 0 rfl) ?_
  obtain ⟨i1, e2, hf⟩ := mb0 hf
  obtain ⟨σ3, e4, hf⟩ := mb0 hf
  refine mx_callV (As := []) (rest := []) hx hb hml hts hown hK hJ rfl rfl (ci := 12) rfl e2 (c_X12_starts l G P a0 σ σ3 e4) me_X12_starts kw_2235 ks_80 kw_2233 (Nat.le_of_ble_eq_true rfl) (Nat.le_of_ble_eq_true rfl) rfl hl.1 rfl (Nat.le_of_ble_eq_true rfl) dX12_drive_1 (fun H locs hJ => ?_)
  refine lv_aload_n hx hb dX12_drive_4 rfl (lv_at hl 0 rfl) ?_
  refine lv_iconst (v := 0) hx hb dX12_drive_5 (by decide) ?_
  obtain ⟨σ5, e6, hf⟩ := mb0 hf
  refine my_pI hx hb hts hown hK hJ fd_RX12_800 cd_12 (Or.inl rfl) ht_12_105 e6 dX12_drive_6 (fun H locs hJ => ?_)
  obtain ⟨o17, e18, hf⟩ := mb0 hf
  refine L9 a0 (mpN P)  σ5 o17 e18 (fun σ19 ho H locs hJ ls hl => ?_) _ _ hJ ls (lv_sub hl [0] rfl)
  · rw [ho] at hf
    have hf : (f_X12_drive_D30 P a0 σ19) = some (r, σ') := hf
    exact D30 a0 σ19 hf _ _ hJ ls (lv_sub hl [0] rfl)
set_option maxHeartbeats 4000000 in
set_option maxRecDepth 100000 in
theorem c_X12_event (l : Launch) (G : mx_G) (P : mx_P) (a0 : Nat) (p1 : Int32) (p2 : Int32) (σ : mx_S) (r : Int32) (σ' : mx_S) (hf : f_X12_event P a0 p1 p2 σ = some (r, σ')) : mxz σ ≤ mpc P → mxu σ ≤ mps P → mx_M l yX12_event cX12_event 3 (some .int) 1 25 G P [.ref a0, .int p1, .int p2] σ (some (.int r)) σ' := by
  intro hcap hcau
  refine mx_ofW (by decide +kernel) hcap hcau (Nat.le_of_ble_eq_true rfl) ?_
  intro p e s m below meth c hx hb hr hml hts hown hlocks hname hK hJ ls hl
  have hz0 := hJ.2.1
  have hown : s.vm.findClass RX12 = some m.cls := hown
  have hl : lv_has ls 3 [(0, .ref a0), (1, .int p1), (2, .int p2)] := hl
  have D76 : ∀ (w0 : Int32) (τ : mx_S), f_X12_event_D76 P w0 τ = some (r, σ') → ∀ (H : Heap) (locs : List Loc), mx_J G P s.heap (mxz σ) (mxu σ) τ H locs → ∀ ls : Array Slot, lv_has ls 3 [] → W p l e (mx_rm P 1 25 σ) s m ([.ref a0, .int p1, .int p2] : List Value).toArray below meth c H locs (mxz τ - mxz σ) (mxu τ - mxu σ) (mx_Z below G P (some (.int r)) σ σ' [.ref a0, .int p1, .int p2] s) (F0 m 76 ls [.int w0]) := by
    intro w0 τ hf _ _ hJ ls hl
    unfold f_X12_event_D76 at hf
    exact my_iret hx hb hr hlocks hJ hf dX12_event_76
  have D52 : ∀ (v0 : Nat) (v1 : Int32) (v2 : Int32) (w0 : Int32) (w1 : Nat) (τ : mx_S), f_X12_event_D52 P v0 v1 v2 w0 w1 τ = some (r, σ') → ∀ (H : Heap) (locs : List Loc), mx_J G P s.heap (mxz σ) (mxu σ) τ H locs → ∀ ls : Array Slot, lv_has ls 3 [(0, .ref v0), (1, .int v1), (2, .int v2)] → W p l e (mx_rm P 1 25 σ) s m ([.ref a0, .int p1, .int p2] : List Value).toArray below meth c H locs (mxz τ - mxz σ) (mxu τ - mxu σ) (mx_Z below G P (some (.int r)) σ σ' [.ref a0, .int p1, .int p2] s) (F0 m 52 ls [.int w0, .ref w1]) := by
    intro v0 v1 v2 w0 w1 τ hf _ _ hJ ls hl
    unfold f_X12_event_D52 at hf
    obtain ⟨σ12, e13, hf⟩ := mb0 hf
    refine my_pI hx hb hts hown hK hJ fd_RX12_243 cd_12 (Or.inl rfl) ht_12_0 e13 dX12_event_52 (fun H locs hJ => ?_)
    refine lv_aload_n hx hb dX12_event_55 rfl (lv_at hl 0 rfl) ?_
    obtain ⟨x14, e15, hf⟩ := mb0 hf
    refine my_gI hx hb hts hown hK hJ fd_RX12_243 hv_12_0 e15 dX12_event_56 ?_
    refine lv_if_le (tgt := 66) hx hb dX12_event_59 (by decide) (fun c16 => ?_) (fun c16 => ?_)
    · rw [if_pos c16] at hf
      refine lv_aload_n hx hb dX12_event_66 rfl (lv_at hl 0 rfl) ?_
      obtain ⟨b17, e18, hf⟩ := mb0 hf
      refine my_gR hx hb hts hown hK hJ fd_RX12_222 hv_12_104 e18 dX12_event_67 ?_
      refine lv_iconst (v := 3) hx hb dX12_event_70 (by decide) ?_
      refine lv_iload_n hx hb dX12_event_71 rfl (lv_at hl 1 rfl) ?_
      refine lv_imul hx hb dX12_event_72 ?_
      refine lv_iload_n hx hb dX12_event_73 rfl (lv_at hl 2 rfl) ?_
      refine lv_iadd hx hb dX12_event_74 ?_
      obtain ⟨x19, e20, hf⟩ := mb0 hf
      refine mx_aI hx hb hK hJ e20 dX12_event_75 ?_
      exact D76 x19 σ12 hf _ _ hJ ls (lv_sub hl [] rfl)
    · rw [if_neg c16] at hf
      refine lv_iconst (v := 0) hx hb dX12_event_62 (by decide) ?_
      refine lv_goto (tgt := 76) hx hb dX12_event_63 (by decide) ?_
      exact D76 (0 : Int32) σ12 hf _ _ hJ ls (lv_sub hl [] rfl)
  have D38 : ∀ (v0 : Nat) (v1 : Int32) (v2 : Int32) (w0 : Int32) (w1 : Int64) (w2 : Int64) (w3 : Nat) (τ : mx_S), f_X12_event_D38 P v0 v1 v2 w0 w1 w2 w3 τ = some (r, σ') → ∀ (H : Heap) (locs : List Loc), mx_J G P s.heap (mxz σ) (mxu σ) τ H locs → ∀ ls : Array Slot, lv_has ls 3 [(0, .ref v0), (1, .int v1), (2, .int v2)] → W p l e (mx_rm P 1 25 σ) s m ([.ref a0, .int p1, .int p2] : List Value).toArray below meth c H locs (mxz τ - mxz σ) (mxu τ - mxu σ) (mx_Z below G P (some (.int r)) σ σ' [.ref a0, .int p1, .int p2] s) (F0 m 38 ls [.int w0, .long w1, .long w2, .ref w3]) := by
    intro v0 v1 v2 w0 w1 w2 w3 τ hf _ _ hJ ls hl
    unfold f_X12_event_D38 at hf
    refine lv_iconst (v := 1) hx hb dX12_event_38 (by decide) ?_
    refine lv_isub hx hb dX12_event_39 ?_
    refine lv_i2l hx hb dX12_event_40 rfl ?_
    obtain ⟨x9, σ8, e10, hf⟩ := mc0 hf
    refine mx_callS (As := [.long w2, .long w1, .long ((w0 - (1 : Int32)).toInt64)]) (rest := [.ref w3]) hx hb hml hts hown hK hJ rfl rfl (c_X12_in l G P w2 w1 ((w0 - (1 : Int32)).toInt64) τ x9 σ8 e10) me_X12_in kw_2223 kw_2222 (Nat.le_of_ble_eq_true rfl) (Nat.le_of_ble_eq_true rfl) rfl hl.1 rfl (Nat.le_of_ble_eq_true rfl) dX12_event_41 (fun H locs hJ => ?_)
    refine lv_if_eq (tgt := 51) hx hb dX12_event_44 (by decide) (fun c11 => ?_) (fun c11 => ?_)
    · rw [if_pos c11] at hf
      refine lv_iconst (v := 2) hx hb dX12_event_51 (by decide) ?_
      exact D52 v0 v1 v2 (2 : Int32) w3 σ8 hf _ _ hJ ls (lv_sub hl [0, 1, 2] rfl)
    · rw [if_neg c11] at hf
      refine lv_iconst (v := 0) hx hb dX12_event_47 (by decide) ?_
      refine lv_goto (tgt := 52) hx hb dX12_event_48 (by decide) ?_
      exact D52 v0 v1 v2 (0 : Int32) w3 σ8 hf _ _ hJ ls (lv_sub hl [0, 1, 2] rfl)
  unfold f_X12_event at hf
  refine lv_aload_n hx hb dX12_event_0 rfl (lv_at hl 0 rfl) ?_
  refine lv_iload_n hx hb dX12_event_1 rfl (lv_at hl 2 rfl) ?_
  refine lv_i2l hx hb dX12_event_2 rfl ?_
  refine lv_lconst (v := 0) hx hb dX12_event_3 (by decide) ?_
  refine lv_ldc2 hx hb hown (hts _ kw_2447) dX12_event_4 ?_
  obtain ⟨x2, σ1, e3, hf⟩ := mc0 hf
  refine mx_callS (As := [.long (p2.toInt64), .long (0 : Int64), .long (2 : Int64)]) (rest := [.ref a0]) hx hb hml hts hown hK hJ rfl rfl (c_X12_in l G P (p2.toInt64) (0 : Int64) (2 : Int64) σ x2 σ1 e3) me_X12_in kw_2223 kw_2222 (Nat.le_of_ble_eq_true rfl) (Nat.le_of_ble_eq_true rfl) rfl hl.1 rfl (Nat.le_of_ble_eq_true rfl) dX12_event_7 (fun H locs hJ => ?_)
  refine lv_if_ne (tgt := 17) hx hb dX12_event_10 (by decide) (fun c4 => ?_) (fun c4 => ?_)
  · rw [if_neg c4] at hf
    refine lv_iload_n hx hb dX12_event_17 rfl (lv_at hl 1 rfl) ?_
    refine lv_i2l hx hb dX12_event_18 rfl ?_
    refine lv_lconst (v := 0) hx hb dX12_event_19 (by decide) ?_
    refine lv_aload_n hx hb dX12_event_20 rfl (lv_at hl 0 rfl) ?_
    obtain ⟨x5, e6, hf⟩ := mb0 hf
    refine my_gI hx hb hts hown hK hJ fd_RX12_821 hv_12_103 e6 dX12_event_21 ?_
    refine lv_bipush (v := 100) hx hb dX12_event_24 (by decide) ?_
    refine lv_icmp_ge (tgt := 36) hx hb dX12_event_26 (by decide) (fun c7 => ?_) (fun c7 => ?_)
    · rw [if_pos c7] at hf
      refine lv_bipush (v := 100) hx hb dX12_event_36 (by decide) ?_
      exact D38 a0 p1 p2 (100 : Int32) (0 : Int64) (p1.toInt64) a0 σ1 hf _ _ hJ ls (lv_sub hl [0, 1, 2] rfl)
    · rw [if_neg c7] at hf
      refine lv_aload_n hx hb dX12_event_29 rfl (lv_at hl 0 rfl) ?_
      obtain ⟨x21, e22, hf⟩ := mb0 hf
      refine my_gI hx hb hts hown hK hJ fd_RX12_821 hv_12_103 e22 dX12_event_30 ?_
      refine lv_goto (tgt := 38) hx hb dX12_event_33 (by decide) ?_
      exact D38 a0 p1 p2 x21 (0 : Int64) (p1.toInt64) a0 σ1 hf _ _ hJ ls (lv_sub hl [0, 1, 2] rfl)
  · rw [if_pos c4] at hf
    refine lv_iconst (v := 1) hx hb dX12_event_13 (by decide) ?_
    refine lv_goto (tgt := 52) hx hb dX12_event_14 (by decide) ?_
    exact D52 a0 p1 p2 (1 : Int32) a0 σ1 hf _ _ hJ ls (lv_sub hl [0, 1, 2] rfl)
set_option maxHeartbeats 4000000 in
set_option maxRecDepth 100000 in
theorem c_X12_count (l : Launch) (G : mx_G) (P : mx_P) (a0 : Nat) (p1 : Int32) (σ : mx_S) (r : Int32) (σ' : mx_S) (hf : f_X12_count P a0 p1 σ = some (r, σ')) : mxz σ ≤ mpc P → mxu σ ≤ mps P → mx_M l yX12_count cX12_count 2 (some .int) 0 0 G P [.ref a0, .int p1] σ (some (.int r)) σ' := by
  intro hcap hcau
  refine mx_ofW (by decide +kernel) hcap hcau (Nat.le_of_ble_eq_true rfl) ?_
  intro p e s m below meth c hx hb hr hml hts hown hlocks hname hK hJ ls hl
  have hz0 := hJ.2.1
  have hown : s.vm.findClass RX12 = some m.cls := hown
  have hl : lv_has ls 2 [(0, .ref a0), (1, .int p1)] := hl
  have D82 : ∀ (v0 : Nat) (v1 : Int32) (τ : mx_S), f_X12_count_D82 P v0 v1 τ = some (r, σ') → ∀ (H : Heap) (locs : List Loc), mx_J G P s.heap (mxz σ) (mxu σ) τ H locs → ∀ ls : Array Slot, lv_has ls 2 [(0, .ref v0), (1, .int v1)] → W p l e (mx_rm P 0 0 σ) s m ([.ref a0, .int p1] : List Value).toArray below meth c H locs (mxz τ - mxz σ) (mxu τ - mxu σ) (mx_Z below G P (some (.int r)) σ σ' [.ref a0, .int p1] s) (F0 m 82 ls []) := by
    intro v0 v1 τ hf _ _ hJ ls hl
    unfold f_X12_count_D82 at hf
    refine lv_aload_n hx hb dX12_count_82 rfl (lv_at hl 0 rfl) ?_
    obtain ⟨b10, e11, hf⟩ := mb0 hf
    refine my_gR hx hb hts hown hK hJ fd_RX12_63 hv_12_34 e11 dX12_count_83 ?_
    refine lv_iload_n hx hb dX12_count_86 rfl (lv_at hl 1 rfl) ?_
    refine lv_iconst (v := 2) hx hb dX12_count_87 (by decide) ?_
    refine lv_isub hx hb dX12_count_88 ?_
    obtain ⟨x12, e13, hf⟩ := mb0 hf
    refine mx_aI hx hb hK hJ e13 dX12_count_89 ?_
    exact my_iret hx hb hr hlocks hJ hf dX12_count_90
  unfold f_X12_count at hf
  refine lv_aload_n hx hb dX12_count_0 rfl (lv_at hl 0 rfl) ?_
  refine lv_iconst (v := 0) hx hb dX12_count_1 (by decide) ?_
  obtain ⟨σ1, e2, hf⟩ := mb0 hf
  refine my_pI hx hb hts hown hK hJ fd_RX12_243 cd_12 (Or.inl rfl) ht_12_0 e2 dX12_count_2 (fun H locs hJ => ?_)
  refine lv_iload_n hx hb dX12_count_5 rfl (lv_at hl 1 rfl) ?_
  by_cases c3 : p1 = (0 : Int32)
  · rw [if_pos c3] at hf
    refine lv_tableIn (tgt := 72) (off := 66) hx hb dX12_count_6 (by rw [c3] <;> decide) (by rw [c3] <;> decide) (by rw [c3] <;> decide) (by decide) ?_
    refine lv_aload_n hx hb dX12_count_72 rfl (lv_at hl 0 rfl) ?_
    obtain ⟨x4, e5, hf⟩ := mb0 hf
    refine my_gI hx hb hts hown hK hJ fd_RX12_460 hv_12_19 e5 dX12_count_73 ?_
    exact my_iret hx hb hr hlocks hJ hf dX12_count_76
  rw [if_neg c3] at hf
  by_cases c6 : p1 = (1 : Int32)
  · rw [if_pos c6] at hf
    refine lv_tableIn (tgt := 77) (off := 71) hx hb dX12_count_6 (by rw [c6] <;> decide) (by rw [c6] <;> decide) (by rw [c6] <;> decide) (by decide) ?_
    refine lv_aload_n hx hb dX12_count_77 rfl (lv_at hl 0 rfl) ?_
    obtain ⟨x7, e8, hf⟩ := mb0 hf
    refine my_gI hx hb hts hown hK hJ fd_RX12_463 hv_12_20 e8 dX12_count_78 ?_
    exact my_iret hx hb hr hlocks hJ hf dX12_count_81
  rw [if_neg c6] at hf
  by_cases c9 : p1 = (2 : Int32)
  · rw [if_pos c9] at hf
    refine lv_tableIn (tgt := 82) (off := 76) hx hb dX12_count_6 (by rw [c9] <;> decide) (by rw [c9] <;> decide) (by rw [c9] <;> decide) (by decide) ?_
    exact D82 a0 p1 σ1 hf _ _ hJ ls (lv_sub hl [0, 1] rfl)
  rw [if_neg c9] at hf
  by_cases c14 : p1 = (3 : Int32)
  · rw [if_pos c14] at hf
    refine lv_tableIn (tgt := 82) (off := 76) hx hb dX12_count_6 (by rw [c14] <;> decide) (by rw [c14] <;> decide) (by rw [c14] <;> decide) (by decide) ?_
    exact D82 a0 p1 σ1 hf _ _ hJ ls (lv_sub hl [0, 1] rfl)
  rw [if_neg c14] at hf
  by_cases c15 : p1 = (4 : Int32)
  · rw [if_pos c15] at hf
    refine lv_tableIn (tgt := 82) (off := 76) hx hb dX12_count_6 (by rw [c15] <;> decide) (by rw [c15] <;> decide) (by rw [c15] <;> decide) (by decide) ?_
    exact D82 a0 p1 σ1 hf _ _ hJ ls (lv_sub hl [0, 1] rfl)
  rw [if_neg c15] at hf
  by_cases c16 : p1 = (5 : Int32)
  · rw [if_pos c16] at hf
    refine lv_tableIn (tgt := 82) (off := 76) hx hb dX12_count_6 (by rw [c16] <;> decide) (by rw [c16] <;> decide) (by rw [c16] <;> decide) (by decide) ?_
    exact D82 a0 p1 σ1 hf _ _ hJ ls (lv_sub hl [0, 1] rfl)
  rw [if_neg c16] at hf
  by_cases c17 : p1 = (6 : Int32)
  · rw [if_pos c17] at hf
    refine lv_tableIn (tgt := 91) (off := 85) hx hb dX12_count_6 (by rw [c17] <;> decide) (by rw [c17] <;> decide) (by rw [c17] <;> decide) (by decide) ?_
    refine lv_aload_n hx hb dX12_count_91 rfl (lv_at hl 0 rfl) ?_
    obtain ⟨x18, e19, hf⟩ := mb0 hf
    refine my_gI hx hb hts hown hK hJ fd_RX12_615 hv_12_57 e19 dX12_count_92 ?_
    exact my_iret hx hb hr hlocks hJ hf dX12_count_95
  rw [if_neg c17] at hf
  by_cases c20 : p1 = (7 : Int32)
  · rw [if_pos c20] at hf
    refine lv_tableIn (tgt := 96) (off := 90) hx hb dX12_count_6 (by rw [c20] <;> decide) (by rw [c20] <;> decide) (by rw [c20] <;> decide) (by decide) ?_
    refine lv_aload_n hx hb dX12_count_96 rfl (lv_at hl 0 rfl) ?_
    obtain ⟨x21, e22, hf⟩ := mb0 hf
    refine my_gI hx hb hts hown hK hJ fd_RX12_623 hv_12_60 e22 dX12_count_97 ?_
    exact my_iret hx hb hr hlocks hJ hf dX12_count_100
  rw [if_neg c20] at hf
  by_cases c23 : p1 = (8 : Int32)
  · rw [if_pos c23] at hf
    refine lv_tableIn (tgt := 101) (off := 95) hx hb dX12_count_6 (by rw [c23] <;> decide) (by rw [c23] <;> decide) (by rw [c23] <;> decide) (by decide) ?_
    refine lv_aload_n hx hb dX12_count_101 rfl (lv_at hl 0 rfl) ?_
    obtain ⟨x24, e25, hf⟩ := mb0 hf
    refine my_gI hx hb hts hown hK hJ fd_RX12_815 hv_12_102 e25 dX12_count_102 ?_
    exact my_iret hx hb hr hlocks hJ hf dX12_count_105
  rw [if_neg c23] at hf
  by_cases c26 : p1 = (9 : Int32)
  · rw [if_pos c26] at hf
    refine lv_tableIn (tgt := 106) (off := 100) hx hb dX12_count_6 (by rw [c26] <;> decide) (by rw [c26] <;> decide) (by rw [c26] <;> decide) (by decide) ?_
    refine lv_aload_n hx hb dX12_count_106 rfl (lv_at hl 0 rfl) ?_
    obtain ⟨x27, e28, hf⟩ := mb0 hf
    refine my_gI hx hb hts hown hK hJ fd_RX12_821 hv_12_103 e28 dX12_count_107 ?_
    exact my_iret hx hb hr hlocks hJ hf dX12_count_110
  rw [if_neg c26] at hf
  by_cases c29 : p1 = (10 : Int32)
  · rw [if_pos c29] at hf
    refine lv_tableIn (tgt := 111) (off := 105) hx hb dX12_count_6 (by rw [c29] <;> decide) (by rw [c29] <;> decide) (by rw [c29] <;> decide) (by decide) ?_
    refine lv_aload_n hx hb dX12_count_111 rfl (lv_at hl 0 rfl) ?_
    obtain ⟨x30, e31, hf⟩ := mb0 hf
    refine my_gI hx hb hts hown hK hJ fd_RX12_255 hv_12_2 e31 dX12_count_112 ?_
    exact my_iret hx hb hr hlocks hJ hf dX12_count_115
  rw [if_neg c29] at hf
  by_cases c32 : p1 = (11 : Int32)
  · rw [if_pos c32] at hf
    refine lv_tableIn (tgt := 116) (off := 110) hx hb dX12_count_6 (by rw [c32] <;> decide) (by rw [c32] <;> decide) (by rw [c32] <;> decide) (by decide) ?_
    refine lv_aload_n hx hb dX12_count_116 rfl (lv_at hl 0 rfl) ?_
    obtain ⟨x33, e34, hf⟩ := mb0 hf
    refine my_gI hx hb hts hown hK hJ fd_RX12_665 hv_12_72 e34 dX12_count_117 ?_
    exact my_iret hx hb hr hlocks hJ hf dX12_count_120
  rw [if_neg c32] at hf
  by_cases c35 : p1 = (12 : Int32)
  · rw [if_pos c35] at hf
    refine lv_tableIn (tgt := 121) (off := 115) hx hb dX12_count_6 (by rw [c35] <;> decide) (by rw [c35] <;> decide) (by rw [c35] <;> decide) (by decide) ?_
    refine lv_aload_n hx hb dX12_count_121 rfl (lv_at hl 0 rfl) ?_
    obtain ⟨x36, e37, hf⟩ := mb0 hf
    refine my_gI hx hb hts hown hK hJ fd_RX12_780 hv_12_91 e37 dX12_count_122 ?_
    exact my_iret hx hb hr hlocks hJ hf dX12_count_125
  rw [if_neg c35] at hf
  refine lv_tableOut (tgt := 126) hx hb dX12_count_6 (by have := lv_neT (a := (0)) c3 (by decide); have := lv_neT (a := (1)) c6 (by decide); have := lv_neT (a := (2)) c9 (by decide); have := lv_neT (a := (3)) c14 (by decide); have := lv_neT (a := (4)) c15 (by decide); have := lv_neT (a := (5)) c16 (by decide); have := lv_neT (a := (6)) c17 (by decide); have := lv_neT (a := (7)) c20 (by decide); have := lv_neT (a := (8)) c23 (by decide); have := lv_neT (a := (9)) c26 (by decide); have := lv_neT (a := (10)) c29 (by decide); have := lv_neT (a := (11)) c32 (by decide); have := lv_neT (a := (12)) c35 (by decide); omega) (by decide) ?_
  refine lv_iconst (v := (-1)) hx hb dX12_count_126 (by decide) ?_
  exact my_iret hx hb hr hlocks hJ hf dX12_count_127
set_option maxHeartbeats 4000000 in
set_option maxRecDepth 100000 in
theorem c_L_feed (l : Launch) (hlt : l.stackTraces = false) (G : mx_G) (P : mx_P) (a0 : Nat) (p1 : Int32) (p2 : Int32) (p3 : Int32) (p4 : Int32) (p5 : Int32) (a6 : Nat) (σ : mx_S) (r : Int32) (σ' : mx_S) (hf : f_L_feed P a0 p1 p2 p3 p4 p5 a6 σ = some (r, σ')) : mxz σ ≤ mpc P → mxu σ ≤ mps P → mx_MW l yL_feed cL_feed 8 (some .int) [(0, 16, 19, 13)] 7 106 G P [.ref a0, .int p1, .int p2, .int p3, .int p4, .int p5, .ref a6] σ (some (.int r)) σ' := by
  intro hcap hcau
  refine mx_ofWW (by decide +kernel) hcap hcau (Nat.le_of_ble_eq_true rfl) ?_
  intro p e s m below meth c hx hb hr hml hts hown hlocks hname htb hK hJ ls hl
  have hz0 := hJ.2.1
  have hown : s.vm.findClass RLn = some m.cls := hown
  have hl : lv_has ls 8 [(0, .ref a0), (1, .int p1), (2, .int p2), (3, .int p3), (4, .int p4), (5, .int p5), (6, .ref a6)] := hl
  unfold f_L_feed at hf
  refine lv_aload hx hb dL_feed_0 (lv_at hl 6 rfl) ?_
  refine lv_iconst (v := 0) hx hb dL_feed_2 (by decide) ?_
  refine lv_aload_n hx hb dL_feed_3 rfl (lv_at hl 0 rfl) ?_
  refine lv_iload_n hx hb dL_feed_4 rfl (lv_at hl 1 rfl) ?_
  refine lv_iload_n hx hb dL_feed_5 rfl (lv_at hl 2 rfl) ?_
  refine lv_iload_n hx hb dL_feed_6 rfl (lv_at hl 3 rfl) ?_
  refine lv_iload hx hb dL_feed_7 (lv_at hl 4 rfl) ?_
  refine lv_iload hx hb dL_feed_9 (lv_at hl 5 rfl) ?_
  obtain ⟨i1, e2, hf⟩ := mb0 hf
  rcases mtry hf with ⟨E, σ5, e4, hf⟩ | ⟨x6, σ3, e4, hf⟩
  · skip
    by_cases c7 : E = "java/lang/IndexOutOfBoundsException"
    · subst c7
      rw [if_pos rfl] at hf
      refine mx_callVC (As := [.int p1, .int p2, .int p3, .int p4, .int p5]) (rest := [.int (0 : Int32), .ref a6]) hx hb hml hts hown hK hJ rfl rfl (ci := 11) rfl e2 (ct_X11_feed l hlt G P a0 p1 p2 p3 p4 p5 σ _ σ5 e4) me_X11_feed kw_919 kw_920 kw_918 (Nat.le_of_ble_eq_true rfl) (Nat.le_of_ble_eq_true rfl) rfl hl.1 rfl (Nat.le_of_ble_eq_true rfl) dL_feed_11 (by decide) (tableOf []) ⟨0, 16, 19, 13⟩ (tableOf []) htb (fun w hw => nomatch hw) (by decide) (by decide) kw_917 mx_cast_3 (fun H locs q hJ => ?_)
      refine lv_astore (lv' := [(7, .ref q), (0, .ref a0), (1, .int p1), (2, .int p2), (3, .int p3), (4, .int p4), (5, .int p5), (6, .ref a6)]) hx hb dL_feed_19 hl (by decide) rfl (fun ls hl => ?_)
      refine lv_iconst (v := 1) hx hb dL_feed_21 (by decide) ?_
      exact my_iret hx hb hr hlocks hJ hf dL_feed_22
    rw [if_neg c7] at hf
    cases hf
  refine mx_callV (As := [.int p1, .int p2, .int p3, .int p4, .int p5]) (rest := [.int (0 : Int32), .ref a6]) hx hb hml hts hown hK hJ rfl rfl (ci := 11) rfl e2 (c_X11_feed l G P a0 p1 p2 p3 p4 p5 σ x6 σ3 e4) me_X11_feed kw_919 kw_920 kw_918 (Nat.le_of_ble_eq_true rfl) (Nat.le_of_ble_eq_true rfl) rfl hl.1 rfl (Nat.le_of_ble_eq_true rfl) dL_feed_11 (fun H locs hJ => ?_)
  refine lv_i2l hx hb dL_feed_14 rfl ?_
  obtain ⟨σ8, e9, hf⟩ := mb0 hf
  refine mx_sL hx hb hK hJ e9 dL_feed_15 (fun H locs hJ => ?_)
  refine lv_goto (tgt := 23) hx hb dL_feed_16 (by decide) ?_
  refine lv_iconst (v := 0) hx hb dL_feed_23 (by decide) ?_
  exact my_iret hx hb hr hlocks hJ hf dL_feed_24
set_option maxHeartbeats 4000000 in
set_option maxRecDepth 100000 in
theorem c_L_end (l : Launch) (hlt : l.stackTraces = false) (G : mx_G) (P : mx_P) (a0 : Nat) (p1 : Int32) (a2 : Nat) (σ : mx_S) (r : Int32) (σ' : mx_S) (hf : f_L_end P a0 p1 a2 σ = some (r, σ')) : mxz σ ≤ mpc P → mxu σ ≤ mps P → mx_MW l yL_end cL_end 4 (some .int) [(0, 9, 12, 19)] 8 124 G P [.ref a0, .int p1, .ref a2] σ (some (.int r)) σ' := by
  intro hcap hcau
  refine mx_ofWW (by decide +kernel) hcap hcau (Nat.le_of_ble_eq_true rfl) ?_
  intro p e s m below meth c hx hb hr hml hts hown hlocks hname htb hK hJ ls hl
  have hz0 := hJ.2.1
  have hown : s.vm.findClass RLn = some m.cls := hown
  have hl : lv_has ls 4 [(0, .ref a0), (1, .int p1), (2, .ref a2)] := hl
  unfold f_L_end at hf
  refine lv_aload_n hx hb dL_end_0 rfl (lv_at hl 2 rfl) ?_
  refine lv_iconst (v := 0) hx hb dL_end_1 (by decide) ?_
  refine lv_aload_n hx hb dL_end_2 rfl (lv_at hl 0 rfl) ?_
  refine lv_iload_n hx hb dL_end_3 rfl (lv_at hl 1 rfl) ?_
  obtain ⟨i1, e2, hf⟩ := mb0 hf
  rcases mtry hf with ⟨E, σ5, e4, hf⟩ | ⟨x6, σ3, e4, hf⟩
  · skip
    by_cases c7 : E = "java/lang/IllegalArgumentException"
    · subst c7
      rw [if_pos rfl] at hf
      refine mx_callVC (As := [.int p1]) (rest := [.int (0 : Int32), .ref a2]) hx hb hml hts hown hK hJ rfl rfl (ci := 11) rfl e2 (ct_X11_end l hlt G P a0 p1 σ _ σ5 e4) me_X11_end kw_1001 kw_1002 kw_1000 (Nat.le_of_ble_eq_true rfl) (Nat.le_of_ble_eq_true rfl) rfl hl.1 rfl (Nat.le_of_ble_eq_true rfl) dL_end_4 (by decide) (tableOf []) ⟨0, 9, 12, 19⟩ (tableOf []) htb (fun w hw => nomatch hw) (by decide) (by decide) kw_999 mx_cast_0 (fun H locs q hJ => ?_)
      refine lv_astore_n (lv' := [(3, .ref q), (0, .ref a0), (1, .int p1), (2, .ref a2)]) hx hb dL_end_12 rfl hl (by decide) rfl (fun ls hl => ?_)
      refine lv_iconst (v := 1) hx hb dL_end_13 (by decide) ?_
      exact my_iret hx hb hr hlocks hJ hf dL_end_14
    rw [if_neg c7] at hf
    cases hf
  refine mx_callV (As := [.int p1]) (rest := [.int (0 : Int32), .ref a2]) hx hb hml hts hown hK hJ rfl rfl (ci := 11) rfl e2 (c_X11_end l G P a0 p1 σ x6 σ3 e4) me_X11_end kw_1001 kw_1002 kw_1000 (Nat.le_of_ble_eq_true rfl) (Nat.le_of_ble_eq_true rfl) rfl hl.1 rfl (Nat.le_of_ble_eq_true rfl) dL_end_4 (fun H locs hJ => ?_)
  refine lv_i2l hx hb dL_end_7 rfl ?_
  obtain ⟨σ8, e9, hf⟩ := mb0 hf
  refine mx_sL hx hb hK hJ e9 dL_end_8 (fun H locs hJ => ?_)
  refine lv_goto (tgt := 15) hx hb dL_end_9 (by decide) ?_
  refine lv_iconst (v := 0) hx hb dL_end_15 (by decide) ?_
  exact my_iret hx hb hr hlocks hJ hf dL_end_16
set_option maxHeartbeats 4000000 in
set_option maxRecDepth 100000 in
theorem c_L_linkage (l : Launch) (hlt : l.stackTraces = false) (G : mx_G) (P : mx_P) (a0 : Nat) (a1 : Nat) (σ : mx_S) (r : Int32) (σ' : mx_S) (hf : f_L_linkage P a0 a1 σ = some (r, σ')) : mxz σ ≤ mpc P → mxu σ ≤ mps P → mx_MW l yL_linkage cL_linkage 3 (some .int) [(0, 8, 11, 25)] 9 199 G P [.ref a0, .ref a1] σ (some (.int r)) σ' := by
  intro hcap hcau
  refine mx_ofWW (by decide +kernel) hcap hcau (Nat.le_of_ble_eq_true rfl) ?_
  intro p e s m below meth c hx hb hr hml hts hown hlocks hname htb hK hJ ls hl
  have hz0 := hJ.2.1
  have hown : s.vm.findClass RLn = some m.cls := hown
  have hl : lv_has ls 3 [(0, .ref a0), (1, .ref a1)] := hl
  unfold f_L_linkage at hf
  refine lv_aload_n hx hb dL_linkage_0 rfl (lv_at hl 1 rfl) ?_
  refine lv_iconst (v := 0) hx hb dL_linkage_1 (by decide) ?_
  refine lv_aload_n hx hb dL_linkage_2 rfl (lv_at hl 0 rfl) ?_
  obtain ⟨i1, e2, hf⟩ := mb0 hf
  rcases mtry hf with ⟨E, σ5, e4, hf⟩ | ⟨x6, σ3, e4, hf⟩
  · skip
    by_cases c7 : E = "java/lang/UnsupportedOperationException"
    · subst c7
      rw [if_pos rfl] at hf
      refine mx_callVC (As := []) (rest := [.int (0 : Int32), .ref a1]) hx hb hml hts hown hK hJ rfl rfl (ci := 11) rfl e2 (ct_X11_linkage l hlt G P a0 σ _ σ5 e4) me_X11_linkage kw_1027 kw_1028 kw_1026 (Nat.le_of_ble_eq_true rfl) (Nat.le_of_ble_eq_true rfl) rfl hl.1 rfl (Nat.le_of_ble_eq_true rfl) dL_linkage_3 (by decide) (tableOf []) ⟨0, 8, 11, 25⟩ (tableOf []) htb (fun w hw => nomatch hw) (by decide) (by decide) kw_1025 mx_cast_4 (fun H locs q hJ => ?_)
      refine lv_astore_n (lv' := [(2, .ref q), (0, .ref a0), (1, .ref a1)]) hx hb dL_linkage_11 rfl hl (by decide) rfl (fun ls hl => ?_)
      refine lv_iconst (v := 1) hx hb dL_linkage_12 (by decide) ?_
      exact my_iret hx hb hr hlocks hJ hf dL_linkage_13
    rw [if_neg c7] at hf
    cases hf
  refine mx_callV (As := []) (rest := [.int (0 : Int32), .ref a1]) hx hb hml hts hown hK hJ rfl rfl (ci := 11) rfl e2 (c_X11_linkage l G P a0 σ x6 σ3 e4) me_X11_linkage kw_1027 kw_1028 kw_1026 (Nat.le_of_ble_eq_true rfl) (Nat.le_of_ble_eq_true rfl) rfl hl.1 rfl (Nat.le_of_ble_eq_true rfl) dL_linkage_3 (fun H locs hJ => ?_)
  refine lv_i2l hx hb dL_linkage_6 rfl ?_
  obtain ⟨σ8, e9, hf⟩ := mb0 hf
  refine mx_sL hx hb hK hJ e9 dL_linkage_7 (fun H locs hJ => ?_)
  refine lv_goto (tgt := 14) hx hb dL_linkage_8 (by decide) ?_
  refine lv_iconst (v := 0) hx hb dL_linkage_14 (by decide) ?_
  exact my_iret hx hb hr hlocks hJ hf dL_linkage_15
set_option maxHeartbeats 4000000 in
set_option maxRecDepth 100000 in
theorem c_L_input (l : Launch) (hlt : l.stackTraces = false) (G : mx_G) (P : mx_P) (a0 : Nat) (p1 : Int32) (p2 : Int32) (σ : mx_S) (r : Int32) (σ' : mx_S) (hf : f_L_input P a0 p1 p2 σ = some (r, σ')) : mxz σ ≤ mpc P → mxu σ ≤ mps P → mx_MW l yL_input cL_input 4 (some .int) [(0, 6, 9, 19)] 8 125 G P [.ref a0, .int p1, .int p2] σ (some (.int r)) σ' := by
  intro hcap hcau
  refine mx_ofWW (by decide +kernel) hcap hcau (Nat.le_of_ble_eq_true rfl) ?_
  intro p e s m below meth c hx hb hr hml hts hown hlocks hname htb hK hJ ls hl
  have hz0 := hJ.2.1
  have hown : s.vm.findClass RLn = some m.cls := hown
  have hl : lv_has ls 4 [(0, .ref a0), (1, .int p1), (2, .int p2)] := hl
  unfold f_L_input at hf
  refine lv_aload_n hx hb dL_input_0 rfl (lv_at hl 0 rfl) ?_
  refine lv_iload_n hx hb dL_input_1 rfl (lv_at hl 1 rfl) ?_
  refine lv_iload_n hx hb dL_input_2 rfl (lv_at hl 2 rfl) ?_
  obtain ⟨i1, e2, hf⟩ := mb0 hf
  rcases mtry0 hf with ⟨E, σ5, e4, hf⟩ | ⟨σ3, e4, hf⟩
  · skip
    by_cases c6 : E = "java/lang/IllegalArgumentException"
    · subst c6
      rw [if_pos rfl] at hf
      refine mx_callVC (As := [.int p1, .int p2]) (rest := []) hx hb hml hts hown hK hJ rfl rfl (ci := 11) rfl e2 (ct_X11_input l hlt G P a0 p1 p2 σ _ σ5 e4) me_X11_input kw_1227 kw_1228 kw_1226 (Nat.le_of_ble_eq_true rfl) (Nat.le_of_ble_eq_true rfl) rfl hl.1 rfl (Nat.le_of_ble_eq_true rfl) dL_input_3 (by decide) (tableOf []) ⟨0, 6, 9, 19⟩ (tableOf []) htb (fun w hw => nomatch hw) (by decide) (by decide) kw_999 mx_cast_0 (fun H locs q hJ => ?_)
      refine lv_astore_n (lv' := [(3, .ref q), (0, .ref a0), (1, .int p1), (2, .int p2)]) hx hb dL_input_9 rfl hl (by decide) rfl (fun ls hl => ?_)
      refine lv_iconst (v := 1) hx hb dL_input_10 (by decide) ?_
      exact my_iret hx hb hr hlocks hJ hf dL_input_11
    rw [if_neg c6] at hf
    cases hf
  refine mx_callV (As := [.int p1, .int p2]) (rest := []) hx hb hml hts hown hK hJ rfl rfl (ci := 11) rfl e2 (c_X11_input l G P a0 p1 p2 σ σ3 e4) me_X11_input kw_1227 kw_1228 kw_1226 (Nat.le_of_ble_eq_true rfl) (Nat.le_of_ble_eq_true rfl) rfl hl.1 rfl (Nat.le_of_ble_eq_true rfl) dL_input_3 (fun H locs hJ => ?_)
  refine lv_goto (tgt := 12) hx hb dL_input_6 (by decide) ?_
  refine lv_iconst (v := 0) hx hb dL_input_12 (by decide) ?_
  exact my_iret hx hb hr hlocks hJ hf dL_input_13
set_option maxHeartbeats 4000000 in
set_option maxRecDepth 100000 in
theorem c_L_way (l : Launch) (hlt : l.stackTraces = false) (G : mx_G) (P : mx_P) (a0 : Nat) (p1 : Int32) (p2 : Int32) (a3 : Nat) (σ : mx_S) (r : Int32) (σ' : mx_S) (hf : f_L_way P a0 p1 p2 a3 σ = some (r, σ')) : mxz σ ≤ mpc P → mxu σ ≤ mps P → mx_MW l yL_way cL_way 5 (some .int) [(0, 10, 13, 19), (0, 10, 17, 35)] 8 176 G P [.ref a0, .int p1, .int p2, .ref a3] σ (some (.int r)) σ' := by
  intro hcap hcau
  refine mx_ofWW (by decide +kernel) hcap hcau (Nat.le_of_ble_eq_true rfl) ?_
  intro p e s m below meth c hx hb hr hml hts hown hlocks hname htb hK hJ ls hl
  have hz0 := hJ.2.1
  have hown : s.vm.findClass RLn = some m.cls := hown
  have hl : lv_has ls 5 [(0, .ref a0), (1, .int p1), (2, .int p2), (3, .ref a3)] := hl
  unfold f_L_way at hf
  refine lv_aload_n hx hb dL_way_0 rfl (lv_at hl 3 rfl) ?_
  refine lv_iconst (v := 0) hx hb dL_way_1 (by decide) ?_
  refine lv_aload_n hx hb dL_way_2 rfl (lv_at hl 0 rfl) ?_
  refine lv_iload_n hx hb dL_way_3 rfl (lv_at hl 1 rfl) ?_
  refine lv_iload_n hx hb dL_way_4 rfl (lv_at hl 2 rfl) ?_
  obtain ⟨i1, e2, hf⟩ := mb0 hf
  rcases mtry hf with ⟨E, σ5, e4, hf⟩ | ⟨x6, σ3, e4, hf⟩
  · skip
    by_cases c7 : E = "java/lang/IllegalArgumentException"
    · subst c7
      rw [if_pos rfl] at hf
      refine mx_callVC (As := [.int p1, .int p2]) (rest := [.int (0 : Int32), .ref a3]) hx hb hml hts hown hK hJ rfl rfl (ci := 11) rfl e2 (ct_X11_way l hlt G P a0 p1 p2 σ _ σ5 e4) me_X11_way kw_1236 kw_1237 kw_1235 (Nat.le_of_ble_eq_true rfl) (Nat.le_of_ble_eq_true rfl) rfl hl.1 rfl (Nat.le_of_ble_eq_true rfl) dL_way_5 (by decide) (tableOf []) ⟨0, 10, 13, 19⟩ (tableOf [(0, 10, 17, 35)]) htb (fun w hw => nomatch hw) (by decide) (by decide) kw_999 mx_cast_0 (fun H locs q hJ => ?_)
      refine lv_astore (lv' := [(4, .ref q), (0, .ref a0), (1, .int p1), (2, .int p2), (3, .ref a3)]) hx hb dL_way_13 hl (by decide) rfl (fun ls hl => ?_)
      refine lv_iconst (v := 1) hx hb dL_way_15 (by decide) ?_
      exact my_iret hx hb hr hlocks hJ hf dL_way_16
    rw [if_neg c7] at hf
    by_cases c8 : E = "java/util/NoSuchElementException"
    · subst c8
      rw [if_pos rfl] at hf
      refine mx_callVC (As := [.int p1, .int p2]) (rest := [.int (0 : Int32), .ref a3]) hx hb hml hts hown hK hJ rfl rfl (ci := 11) rfl e2 (ct_X11_way l hlt G P a0 p1 p2 σ _ σ5 e4) me_X11_way kw_1236 kw_1237 kw_1235 (Nat.le_of_ble_eq_true rfl) (Nat.le_of_ble_eq_true rfl) rfl hl.1 rfl (Nat.le_of_ble_eq_true rfl) dL_way_5 (by decide) (tableOf [(0, 10, 13, 19)]) ⟨0, 10, 17, 35⟩ (tableOf []) htb (by
      intro w hw
      simp only [tableOf, List.map_cons, List.map_nil, List.mem_cons, List.not_mem_nil, or_false] at hw
      rcases hw with rfl
      · exact ⟨by decide, "java/lang/IllegalArgumentException", kw_999, by decide, by decide⟩) (by decide) (by decide) kw_1234 mx_cast_1 (fun H locs q hJ => ?_)
      refine lv_astore (lv' := [(4, .ref q), (0, .ref a0), (1, .int p1), (2, .int p2), (3, .ref a3)]) hx hb dL_way_17 hl (by decide) rfl (fun ls hl => ?_)
      refine lv_iconst (v := 2) hx hb dL_way_19 (by decide) ?_
      exact my_iret hx hb hr hlocks hJ hf dL_way_20
    rw [if_neg c8] at hf
    cases hf
  refine mx_callV (As := [.int p1, .int p2]) (rest := [.int (0 : Int32), .ref a3]) hx hb hml hts hown hK hJ rfl rfl (ci := 11) rfl e2 (c_X11_way l G P a0 p1 p2 σ x6 σ3 e4) me_X11_way kw_1236 kw_1237 kw_1235 (Nat.le_of_ble_eq_true rfl) (Nat.le_of_ble_eq_true rfl) rfl hl.1 rfl (Nat.le_of_ble_eq_true rfl) dL_way_5 (fun H locs hJ => ?_)
  refine lv_i2l hx hb dL_way_8 rfl ?_
  obtain ⟨σ9, e10, hf⟩ := mb0 hf
  refine mx_sL hx hb hK hJ e10 dL_way_9 (fun H locs hJ => ?_)
  refine lv_goto (tgt := 21) hx hb dL_way_10 (by decide) ?_
  refine lv_iconst (v := 0) hx hb dL_way_21 (by decide) ?_
  exact my_iret hx hb hr hlocks hJ hf dL_way_22
set_option maxHeartbeats 4000000 in
set_option maxRecDepth 100000 in
theorem c_L_at (l : Launch) (hlt : l.stackTraces = false) (G : mx_G) (P : mx_P) (a0 : Nat) (p1 : Int32) (p2 : Int32) (p3 : Int32) (p4 : Int32) (a5 : Nat) (σ : mx_S) (r : Int32) (σ' : mx_S) (hf : f_L_at P a0 p1 p2 p3 p4 a5 σ = some (r, σ')) : mxz σ ≤ mpc P → mxu σ ≤ mps P → mx_MW l yL_at cL_at 7 (some .int) [(0, 13, 16, 19), (0, 13, 20, 35)] 9 156 G P [.ref a0, .int p1, .int p2, .int p3, .int p4, .ref a5] σ (some (.int r)) σ' := by
  intro hcap hcau
  refine mx_ofWW (by decide +kernel) hcap hcau (Nat.le_of_ble_eq_true rfl) ?_
  intro p e s m below meth c hx hb hr hml hts hown hlocks hname htb hK hJ ls hl
  have hz0 := hJ.2.1
  have hown : s.vm.findClass RLn = some m.cls := hown
  have hl : lv_has ls 7 [(0, .ref a0), (1, .int p1), (2, .int p2), (3, .int p3), (4, .int p4), (5, .ref a5)] := hl
  unfold f_L_at at hf
  refine lv_aload hx hb dL_at_0 (lv_at hl 5 rfl) ?_
  refine lv_iconst (v := 0) hx hb dL_at_2 (by decide) ?_
  refine lv_aload_n hx hb dL_at_3 rfl (lv_at hl 0 rfl) ?_
  refine lv_iload_n hx hb dL_at_4 rfl (lv_at hl 1 rfl) ?_
  refine lv_iload_n hx hb dL_at_5 rfl (lv_at hl 2 rfl) ?_
  refine lv_iload_n hx hb dL_at_6 rfl (lv_at hl 3 rfl) ?_
  refine lv_iload hx hb dL_at_7 (lv_at hl 4 rfl) ?_
  obtain ⟨i1, e2, hf⟩ := mb0 hf
  rcases mtry hf with ⟨E, σ5, e4, hf⟩ | ⟨x6, σ3, e4, hf⟩
  · skip
    by_cases c7 : E = "java/lang/IllegalArgumentException"
    · subst c7
      rw [if_pos rfl] at hf
      refine mx_callVC (As := [.int p1, .int p2, .int p3, .int p4]) (rest := [.int (0 : Int32), .ref a5]) hx hb hml hts hown hK hJ rfl rfl (ci := 11) rfl e2 (ct_X11_at l hlt G P a0 p1 p2 p3 p4 σ _ σ5 e4) me_X11_at kw_1264 kw_1265 kw_1263 (Nat.le_of_ble_eq_true rfl) (Nat.le_of_ble_eq_true rfl) rfl hl.1 rfl (Nat.le_of_ble_eq_true rfl) dL_at_9 (by decide) (tableOf []) ⟨0, 13, 16, 19⟩ (tableOf [(0, 13, 20, 35)]) htb (fun w hw => nomatch hw) (by decide) (by decide) kw_999 mx_cast_0 (fun H locs q hJ => ?_)
      refine lv_astore (lv' := [(6, .ref q), (0, .ref a0), (1, .int p1), (2, .int p2), (3, .int p3), (4, .int p4), (5, .ref a5)]) hx hb dL_at_16 hl (by decide) rfl (fun ls hl => ?_)
      refine lv_iconst (v := 1) hx hb dL_at_18 (by decide) ?_
      exact my_iret hx hb hr hlocks hJ hf dL_at_19
    rw [if_neg c7] at hf
    by_cases c8 : E = "java/util/NoSuchElementException"
    · subst c8
      rw [if_pos rfl] at hf
      refine mx_callVC (As := [.int p1, .int p2, .int p3, .int p4]) (rest := [.int (0 : Int32), .ref a5]) hx hb hml hts hown hK hJ rfl rfl (ci := 11) rfl e2 (ct_X11_at l hlt G P a0 p1 p2 p3 p4 σ _ σ5 e4) me_X11_at kw_1264 kw_1265 kw_1263 (Nat.le_of_ble_eq_true rfl) (Nat.le_of_ble_eq_true rfl) rfl hl.1 rfl (Nat.le_of_ble_eq_true rfl) dL_at_9 (by decide) (tableOf [(0, 13, 16, 19)]) ⟨0, 13, 20, 35⟩ (tableOf []) htb (by
      intro w hw
      simp only [tableOf, List.map_cons, List.map_nil, List.mem_cons, List.not_mem_nil, or_false] at hw
      rcases hw with rfl
      · exact ⟨by decide, "java/lang/IllegalArgumentException", kw_999, by decide, by decide⟩) (by decide) (by decide) kw_1234 mx_cast_1 (fun H locs q hJ => ?_)
      refine lv_astore (lv' := [(6, .ref q), (0, .ref a0), (1, .int p1), (2, .int p2), (3, .int p3), (4, .int p4), (5, .ref a5)]) hx hb dL_at_20 hl (by decide) rfl (fun ls hl => ?_)
      refine lv_iconst (v := 2) hx hb dL_at_22 (by decide) ?_
      exact my_iret hx hb hr hlocks hJ hf dL_at_23
    rw [if_neg c8] at hf
    cases hf
  refine mx_callV (As := [.int p1, .int p2, .int p3, .int p4]) (rest := [.int (0 : Int32), .ref a5]) hx hb hml hts hown hK hJ rfl rfl (ci := 11) rfl e2 (c_X11_at l G P a0 p1 p2 p3 p4 σ x6 σ3 e4) me_X11_at kw_1264 kw_1265 kw_1263 (Nat.le_of_ble_eq_true rfl) (Nat.le_of_ble_eq_true rfl) rfl hl.1 rfl (Nat.le_of_ble_eq_true rfl) dL_at_9 (fun H locs hJ => ?_)
  obtain ⟨σ9, e10, hf⟩ := mb0 hf
  refine mx_sL hx hb hK hJ e10 dL_at_12 (fun H locs hJ => ?_)
  refine lv_goto (tgt := 24) hx hb dL_at_13 (by decide) ?_
  refine lv_iconst (v := 0) hx hb dL_at_24 (by decide) ?_
  exact my_iret hx hb hr hlocks hJ hf dL_at_25
set_option maxHeartbeats 4000000 in
set_option maxRecDepth 100000 in
theorem c_L_step (l : Launch) (hlt : l.stackTraces = false) (G : mx_G) (P : mx_P) (a0 : Nat) (p1 : Int32) (p2 : Int32) (p3 : Int32) (a4 : Nat) (σ : mx_S) (r : Int32) (σ' : mx_S) (hf : f_L_step P a0 p1 p2 p3 a4 σ = some (r, σ')) : mxz σ ≤ mpc P → mxu σ ≤ mps P → mx_MW l yL_step cL_step 6 (some .int) [(0, 12, 15, 19), (0, 12, 19, 45)] 9 181 G P [.ref a0, .int p1, .int p2, .int p3, .ref a4] σ (some (.int r)) σ' := by
  intro hcap hcau
  refine mx_ofWW (by decide +kernel) hcap hcau (Nat.le_of_ble_eq_true rfl) ?_
  intro p e s m below meth c hx hb hr hml hts hown hlocks hname htb hK hJ ls hl
  have hz0 := hJ.2.1
  have hown : s.vm.findClass RLn = some m.cls := hown
  have hl : lv_has ls 6 [(0, .ref a0), (1, .int p1), (2, .int p2), (3, .int p3), (4, .ref a4)] := hl
  unfold f_L_step at hf
  refine lv_aload hx hb dL_step_0 (lv_at hl 4 rfl) ?_
  refine lv_iconst (v := 0) hx hb dL_step_2 (by decide) ?_
  refine lv_aload_n hx hb dL_step_3 rfl (lv_at hl 0 rfl) ?_
  refine lv_iload_n hx hb dL_step_4 rfl (lv_at hl 1 rfl) ?_
  refine lv_iload_n hx hb dL_step_5 rfl (lv_at hl 2 rfl) ?_
  refine lv_iload_n hx hb dL_step_6 rfl (lv_at hl 3 rfl) ?_
  obtain ⟨i1, e2, hf⟩ := mb0 hf
  rcases mtry hf with ⟨E, σ5, e4, hf⟩ | ⟨x6, σ3, e4, hf⟩
  · skip
    by_cases c7 : E = "java/lang/IllegalArgumentException"
    · subst c7
      rw [if_pos rfl] at hf
      refine mx_callVC (As := [.int p1, .int p2, .int p3]) (rest := [.int (0 : Int32), .ref a4]) hx hb hml hts hown hK hJ rfl rfl (ci := 11) rfl e2 (ct_X11_step l hlt G P a0 p1 p2 p3 σ _ σ5 e4) me_X11_step kw_1281 kw_1282 kw_1280 (Nat.le_of_ble_eq_true rfl) (Nat.le_of_ble_eq_true rfl) rfl hl.1 rfl (Nat.le_of_ble_eq_true rfl) dL_step_7 (by decide) (tableOf []) ⟨0, 12, 15, 19⟩ (tableOf [(0, 12, 19, 45)]) htb (fun w hw => nomatch hw) (by decide) (by decide) kw_999 mx_cast_0 (fun H locs q hJ => ?_)
      refine lv_astore (lv' := [(5, .ref q), (0, .ref a0), (1, .int p1), (2, .int p2), (3, .int p3), (4, .ref a4)]) hx hb dL_step_15 hl (by decide) rfl (fun ls hl => ?_)
      refine lv_iconst (v := 1) hx hb dL_step_17 (by decide) ?_
      exact my_iret hx hb hr hlocks hJ hf dL_step_18
    rw [if_neg c7] at hf
    by_cases c8 : E = "java/lang/IllegalStateException"
    · subst c8
      rw [if_pos rfl] at hf
      refine mx_callVC (As := [.int p1, .int p2, .int p3]) (rest := [.int (0 : Int32), .ref a4]) hx hb hml hts hown hK hJ rfl rfl (ci := 11) rfl e2 (ct_X11_step l hlt G P a0 p1 p2 p3 σ _ σ5 e4) me_X11_step kw_1281 kw_1282 kw_1280 (Nat.le_of_ble_eq_true rfl) (Nat.le_of_ble_eq_true rfl) rfl hl.1 rfl (Nat.le_of_ble_eq_true rfl) dL_step_7 (by decide) (tableOf [(0, 12, 15, 19)]) ⟨0, 12, 19, 45⟩ (tableOf []) htb (by
      intro w hw
      simp only [tableOf, List.map_cons, List.map_nil, List.mem_cons, List.not_mem_nil, or_false] at hw
      rcases hw with rfl
      · exact ⟨by decide, "java/lang/IllegalArgumentException", kw_999, by decide, by decide⟩) (by decide) (by decide) kw_1279 mx_cast_2 (fun H locs q hJ => ?_)
      refine lv_astore (lv' := [(5, .ref q), (0, .ref a0), (1, .int p1), (2, .int p2), (3, .int p3), (4, .ref a4)]) hx hb dL_step_19 hl (by decide) rfl (fun ls hl => ?_)
      refine lv_iconst (v := 2) hx hb dL_step_21 (by decide) ?_
      exact my_iret hx hb hr hlocks hJ hf dL_step_22
    rw [if_neg c8] at hf
    cases hf
  refine mx_callV (As := [.int p1, .int p2, .int p3]) (rest := [.int (0 : Int32), .ref a4]) hx hb hml hts hown hK hJ rfl rfl (ci := 11) rfl e2 (c_X11_step l G P a0 p1 p2 p3 σ x6 σ3 e4) me_X11_step kw_1281 kw_1282 kw_1280 (Nat.le_of_ble_eq_true rfl) (Nat.le_of_ble_eq_true rfl) rfl hl.1 rfl (Nat.le_of_ble_eq_true rfl) dL_step_7 (fun H locs hJ => ?_)
  refine lv_i2l hx hb dL_step_10 rfl ?_
  obtain ⟨σ9, e10, hf⟩ := mb0 hf
  refine mx_sL hx hb hK hJ e10 dL_step_11 (fun H locs hJ => ?_)
  refine lv_goto (tgt := 23) hx hb dL_step_12 (by decide) ?_
  refine lv_iconst (v := 0) hx hb dL_step_23 (by decide) ?_
  exact my_iret hx hb hr hlocks hJ hf dL_step_24
set_option maxHeartbeats 4000000 in
set_option maxRecDepth 100000 in
theorem c_L_range (l : Launch) (hlt : l.stackTraces = false) (G : mx_G) (P : mx_P) (a0 : Nat) (p1 : Int32) (p2 : Int32) (p3 : Int32) (a4 : Nat) (σ : mx_S) (r : Int32) (σ' : mx_S) (hf : f_L_range P a0 p1 p2 p3 a4 σ = some (r, σ')) : mxz σ ≤ mpc P → mxu σ ≤ mps P → mx_MW l yL_range cL_range 6 (some .int) [(0, 12, 15, 19)] 8 185 G P [.ref a0, .int p1, .int p2, .int p3, .ref a4] σ (some (.int r)) σ' := by
  intro hcap hcau
  refine mx_ofWW (by decide +kernel) hcap hcau (Nat.le_of_ble_eq_true rfl) ?_
  intro p e s m below meth c hx hb hr hml hts hown hlocks hname htb hK hJ ls hl
  have hz0 := hJ.2.1
  have hown : s.vm.findClass RLn = some m.cls := hown
  have hl : lv_has ls 6 [(0, .ref a0), (1, .int p1), (2, .int p2), (3, .int p3), (4, .ref a4)] := hl
  unfold f_L_range at hf
  refine lv_aload hx hb dL_range_0 (lv_at hl 4 rfl) ?_
  refine lv_iconst (v := 0) hx hb dL_range_2 (by decide) ?_
  refine lv_aload_n hx hb dL_range_3 rfl (lv_at hl 0 rfl) ?_
  refine lv_iload_n hx hb dL_range_4 rfl (lv_at hl 1 rfl) ?_
  refine lv_iload_n hx hb dL_range_5 rfl (lv_at hl 2 rfl) ?_
  refine lv_iload_n hx hb dL_range_6 rfl (lv_at hl 3 rfl) ?_
  obtain ⟨i1, e2, hf⟩ := mb0 hf
  rcases mtry hf with ⟨E, σ5, e4, hf⟩ | ⟨x6, σ3, e4, hf⟩
  · skip
    by_cases c7 : E = "java/lang/IllegalArgumentException"
    · subst c7
      rw [if_pos rfl] at hf
      refine mx_callVC (As := [.int p1, .int p2, .int p3]) (rest := [.int (0 : Int32), .ref a4]) hx hb hml hts hown hK hJ rfl rfl (ci := 11) rfl e2 (ct_X11_range l hlt G P a0 p1 p2 p3 σ _ σ5 e4) me_X11_range kw_1314 kw_1315 kw_1313 (Nat.le_of_ble_eq_true rfl) (Nat.le_of_ble_eq_true rfl) rfl hl.1 rfl (Nat.le_of_ble_eq_true rfl) dL_range_7 (by decide) (tableOf []) ⟨0, 12, 15, 19⟩ (tableOf []) htb (fun w hw => nomatch hw) (by decide) (by decide) kw_999 mx_cast_0 (fun H locs q hJ => ?_)
      refine lv_astore (lv' := [(5, .ref q), (0, .ref a0), (1, .int p1), (2, .int p2), (3, .int p3), (4, .ref a4)]) hx hb dL_range_15 hl (by decide) rfl (fun ls hl => ?_)
      refine lv_iconst (v := 1) hx hb dL_range_17 (by decide) ?_
      exact my_iret hx hb hr hlocks hJ hf dL_range_18
    rw [if_neg c7] at hf
    cases hf
  refine mx_callV (As := [.int p1, .int p2, .int p3]) (rest := [.int (0 : Int32), .ref a4]) hx hb hml hts hown hK hJ rfl rfl (ci := 11) rfl e2 (c_X11_range l G P a0 p1 p2 p3 σ x6 σ3 e4) me_X11_range kw_1314 kw_1315 kw_1313 (Nat.le_of_ble_eq_true rfl) (Nat.le_of_ble_eq_true rfl) rfl hl.1 rfl (Nat.le_of_ble_eq_true rfl) dL_range_7 (fun H locs hJ => ?_)
  refine lv_i2l hx hb dL_range_10 rfl ?_
  obtain ⟨σ8, e9, hf⟩ := mb0 hf
  refine mx_sL hx hb hK hJ e9 dL_range_11 (fun H locs hJ => ?_)
  refine lv_goto (tgt := 19) hx hb dL_range_12 (by decide) ?_
  refine lv_iconst (v := 0) hx hb dL_range_19 (by decide) ?_
  exact my_iret hx hb hr hlocks hJ hf dL_range_20
set_option maxHeartbeats 4000000 in
set_option maxRecDepth 100000 in
theorem c_L_spread (l : Launch) (hlt : l.stackTraces = false) (G : mx_G) (P : mx_P) (a0 : Nat) (p1 : Int32) (p2 : Int32) (p3 : Int32) (p4 : Int32) (p5 : Int32) (a6 : Nat) (σ : mx_S) (r : Int32) (σ' : mx_S) (hf : f_L_spread P a0 p1 p2 p3 p4 p5 a6 σ = some (r, σ')) : mxz σ ≤ mpc P → mxu σ ≤ mps P → mx_MW l yL_spread cL_spread 8 (some .int) [(0, 15, 18, 19), (0, 15, 22, 35)] 8 185 G P [.ref a0, .int p1, .int p2, .int p3, .int p4, .int p5, .ref a6] σ (some (.int r)) σ' := by
  intro hcap hcau
  refine mx_ofWW (by decide +kernel) hcap hcau (Nat.le_of_ble_eq_true rfl) ?_
  intro p e s m below meth c hx hb hr hml hts hown hlocks hname htb hK hJ ls hl
  have hz0 := hJ.2.1
  have hown : s.vm.findClass RLn = some m.cls := hown
  have hl : lv_has ls 8 [(0, .ref a0), (1, .int p1), (2, .int p2), (3, .int p3), (4, .int p4), (5, .int p5), (6, .ref a6)] := hl
  unfold f_L_spread at hf
  refine lv_aload hx hb dL_spread_0 (lv_at hl 6 rfl) ?_
  refine lv_iconst (v := 0) hx hb dL_spread_2 (by decide) ?_
  refine lv_aload_n hx hb dL_spread_3 rfl (lv_at hl 0 rfl) ?_
  refine lv_iload_n hx hb dL_spread_4 rfl (lv_at hl 1 rfl) ?_
  refine lv_iload_n hx hb dL_spread_5 rfl (lv_at hl 2 rfl) ?_
  refine lv_iload_n hx hb dL_spread_6 rfl (lv_at hl 3 rfl) ?_
  refine lv_iload hx hb dL_spread_7 (lv_at hl 4 rfl) ?_
  refine lv_iload hx hb dL_spread_9 (lv_at hl 5 rfl) ?_
  obtain ⟨i1, e2, hf⟩ := mb0 hf
  rcases mtry hf with ⟨E, σ5, e4, hf⟩ | ⟨x6, σ3, e4, hf⟩
  · skip
    by_cases c7 : E = "java/lang/IllegalArgumentException"
    · subst c7
      rw [if_pos rfl] at hf
      refine mx_callVC (As := [.int p1, .int p2, .int p3, .int p4, .int p5]) (rest := [.int (0 : Int32), .ref a6]) hx hb hml hts hown hK hJ rfl rfl (ci := 11) rfl e2 (ct_X11_spread l hlt G P a0 p1 p2 p3 p4 p5 σ _ σ5 e4) me_X11_spread kw_1325 kw_1326 kw_1324 (Nat.le_of_ble_eq_true rfl) (Nat.le_of_ble_eq_true rfl) rfl hl.1 rfl (Nat.le_of_ble_eq_true rfl) dL_spread_11 (by decide) (tableOf []) ⟨0, 15, 18, 19⟩ (tableOf [(0, 15, 22, 35)]) htb (fun w hw => nomatch hw) (by decide) (by decide) kw_999 mx_cast_0 (fun H locs q hJ => ?_)
      refine lv_astore (lv' := [(7, .ref q), (0, .ref a0), (1, .int p1), (2, .int p2), (3, .int p3), (4, .int p4), (5, .int p5), (6, .ref a6)]) hx hb dL_spread_18 hl (by decide) rfl (fun ls hl => ?_)
      refine lv_iconst (v := 1) hx hb dL_spread_20 (by decide) ?_
      exact my_iret hx hb hr hlocks hJ hf dL_spread_21
    rw [if_neg c7] at hf
    by_cases c8 : E = "java/util/NoSuchElementException"
    · subst c8
      rw [if_pos rfl] at hf
      refine mx_callVC (As := [.int p1, .int p2, .int p3, .int p4, .int p5]) (rest := [.int (0 : Int32), .ref a6]) hx hb hml hts hown hK hJ rfl rfl (ci := 11) rfl e2 (ct_X11_spread l hlt G P a0 p1 p2 p3 p4 p5 σ _ σ5 e4) me_X11_spread kw_1325 kw_1326 kw_1324 (Nat.le_of_ble_eq_true rfl) (Nat.le_of_ble_eq_true rfl) rfl hl.1 rfl (Nat.le_of_ble_eq_true rfl) dL_spread_11 (by decide) (tableOf [(0, 15, 18, 19)]) ⟨0, 15, 22, 35⟩ (tableOf []) htb (by
      intro w hw
      simp only [tableOf, List.map_cons, List.map_nil, List.mem_cons, List.not_mem_nil, or_false] at hw
      rcases hw with rfl
      · exact ⟨by decide, "java/lang/IllegalArgumentException", kw_999, by decide, by decide⟩) (by decide) (by decide) kw_1234 mx_cast_1 (fun H locs q hJ => ?_)
      refine lv_astore (lv' := [(7, .ref q), (0, .ref a0), (1, .int p1), (2, .int p2), (3, .int p3), (4, .int p4), (5, .int p5), (6, .ref a6)]) hx hb dL_spread_22 hl (by decide) rfl (fun ls hl => ?_)
      refine lv_iconst (v := 2) hx hb dL_spread_24 (by decide) ?_
      exact my_iret hx hb hr hlocks hJ hf dL_spread_25
    rw [if_neg c8] at hf
    cases hf
  refine mx_callV (As := [.int p1, .int p2, .int p3, .int p4, .int p5]) (rest := [.int (0 : Int32), .ref a6]) hx hb hml hts hown hK hJ rfl rfl (ci := 11) rfl e2 (c_X11_spread l G P a0 p1 p2 p3 p4 p5 σ x6 σ3 e4) me_X11_spread kw_1325 kw_1326 kw_1324 (Nat.le_of_ble_eq_true rfl) (Nat.le_of_ble_eq_true rfl) rfl hl.1 rfl (Nat.le_of_ble_eq_true rfl) dL_spread_11 (fun H locs hJ => ?_)
  obtain ⟨σ9, e10, hf⟩ := mb0 hf
  refine mx_sL hx hb hK hJ e10 dL_spread_14 (fun H locs hJ => ?_)
  refine lv_goto (tgt := 26) hx hb dL_spread_15 (by decide) ?_
  refine lv_iconst (v := 0) hx hb dL_spread_26 (by decide) ?_
  exact my_iret hx hb hr hlocks hJ hf dL_spread_27
set_option maxHeartbeats 4000000 in
set_option maxRecDepth 100000 in
theorem c_L_least (l : Launch) (hlt : l.stackTraces = false) (G : mx_G) (P : mx_P) (a0 : Nat) (p1 : Int32) (p2 : Int32) (p3 : Int32) (p4 : Int32) (p5 : Int32) (a6 : Nat) (σ : mx_S) (r : Int32) (σ' : mx_S) (hf : f_L_least P a0 p1 p2 p3 p4 p5 a6 σ = some (r, σ')) : mxz σ ≤ mpc P → mxu σ ≤ mps P → mx_MW l yL_least cL_least 8 (some .int) [(0, 15, 18, 19), (0, 15, 22, 35)] 8 183 G P [.ref a0, .int p1, .int p2, .int p3, .int p4, .int p5, .ref a6] σ (some (.int r)) σ' := by
  intro hcap hcau
  refine mx_ofWW (by decide +kernel) hcap hcau (Nat.le_of_ble_eq_true rfl) ?_
  intro p e s m below meth c hx hb hr hml hts hown hlocks hname htb hK hJ ls hl
  have hz0 := hJ.2.1
  have hown : s.vm.findClass RLn = some m.cls := hown
  have hl : lv_has ls 8 [(0, .ref a0), (1, .int p1), (2, .int p2), (3, .int p3), (4, .int p4), (5, .int p5), (6, .ref a6)] := hl
  unfold f_L_least at hf
  refine lv_aload hx hb dL_least_0 (lv_at hl 6 rfl) ?_
  refine lv_iconst (v := 0) hx hb dL_least_2 (by decide) ?_
  refine lv_aload_n hx hb dL_least_3 rfl (lv_at hl 0 rfl) ?_
  refine lv_iload_n hx hb dL_least_4 rfl (lv_at hl 1 rfl) ?_
  refine lv_iload_n hx hb dL_least_5 rfl (lv_at hl 2 rfl) ?_
  refine lv_iload_n hx hb dL_least_6 rfl (lv_at hl 3 rfl) ?_
  refine lv_iload hx hb dL_least_7 (lv_at hl 4 rfl) ?_
  refine lv_iload hx hb dL_least_9 (lv_at hl 5 rfl) ?_
  obtain ⟨i1, e2, hf⟩ := mb0 hf
  rcases mtry hf with ⟨E, σ5, e4, hf⟩ | ⟨x6, σ3, e4, hf⟩
  · skip
    by_cases c7 : E = "java/lang/IllegalArgumentException"
    · subst c7
      rw [if_pos rfl] at hf
      refine mx_callVC (As := [.int p1, .int p2, .int p3, .int p4, .int p5]) (rest := [.int (0 : Int32), .ref a6]) hx hb hml hts hown hK hJ rfl rfl (ci := 11) rfl e2 (ct_X11_least l hlt G P a0 p1 p2 p3 p4 p5 σ _ σ5 e4) me_X11_least kw_1339 kw_1340 kw_1338 (Nat.le_of_ble_eq_true rfl) (Nat.le_of_ble_eq_true rfl) rfl hl.1 rfl (Nat.le_of_ble_eq_true rfl) dL_least_11 (by decide) (tableOf []) ⟨0, 15, 18, 19⟩ (tableOf [(0, 15, 22, 35)]) htb (fun w hw => nomatch hw) (by decide) (by decide) kw_999 mx_cast_0 (fun H locs q hJ => ?_)
      refine lv_astore (lv' := [(7, .ref q), (0, .ref a0), (1, .int p1), (2, .int p2), (3, .int p3), (4, .int p4), (5, .int p5), (6, .ref a6)]) hx hb dL_least_18 hl (by decide) rfl (fun ls hl => ?_)
      refine lv_iconst (v := 1) hx hb dL_least_20 (by decide) ?_
      exact my_iret hx hb hr hlocks hJ hf dL_least_21
    rw [if_neg c7] at hf
    by_cases c8 : E = "java/util/NoSuchElementException"
    · subst c8
      rw [if_pos rfl] at hf
      refine mx_callVC (As := [.int p1, .int p2, .int p3, .int p4, .int p5]) (rest := [.int (0 : Int32), .ref a6]) hx hb hml hts hown hK hJ rfl rfl (ci := 11) rfl e2 (ct_X11_least l hlt G P a0 p1 p2 p3 p4 p5 σ _ σ5 e4) me_X11_least kw_1339 kw_1340 kw_1338 (Nat.le_of_ble_eq_true rfl) (Nat.le_of_ble_eq_true rfl) rfl hl.1 rfl (Nat.le_of_ble_eq_true rfl) dL_least_11 (by decide) (tableOf [(0, 15, 18, 19)]) ⟨0, 15, 22, 35⟩ (tableOf []) htb (by
      intro w hw
      simp only [tableOf, List.map_cons, List.map_nil, List.mem_cons, List.not_mem_nil, or_false] at hw
      rcases hw with rfl
      · exact ⟨by decide, "java/lang/IllegalArgumentException", kw_999, by decide, by decide⟩) (by decide) (by decide) kw_1234 mx_cast_1 (fun H locs q hJ => ?_)
      refine lv_astore (lv' := [(7, .ref q), (0, .ref a0), (1, .int p1), (2, .int p2), (3, .int p3), (4, .int p4), (5, .int p5), (6, .ref a6)]) hx hb dL_least_22 hl (by decide) rfl (fun ls hl => ?_)
      refine lv_iconst (v := 2) hx hb dL_least_24 (by decide) ?_
      exact my_iret hx hb hr hlocks hJ hf dL_least_25
    rw [if_neg c8] at hf
    cases hf
  refine mx_callV (As := [.int p1, .int p2, .int p3, .int p4, .int p5]) (rest := [.int (0 : Int32), .ref a6]) hx hb hml hts hown hK hJ rfl rfl (ci := 11) rfl e2 (c_X11_least l G P a0 p1 p2 p3 p4 p5 σ x6 σ3 e4) me_X11_least kw_1339 kw_1340 kw_1338 (Nat.le_of_ble_eq_true rfl) (Nat.le_of_ble_eq_true rfl) rfl hl.1 rfl (Nat.le_of_ble_eq_true rfl) dL_least_11 (fun H locs hJ => ?_)
  obtain ⟨σ9, e10, hf⟩ := mb0 hf
  refine mx_sL hx hb hK hJ e10 dL_least_14 (fun H locs hJ => ?_)
  refine lv_goto (tgt := 26) hx hb dL_least_15 (by decide) ?_
  refine lv_iconst (v := 0) hx hb dL_least_26 (by decide) ?_
  exact my_iret hx hb hr hlocks hJ hf dL_least_27
set_option maxHeartbeats 4000000 in
set_option maxRecDepth 100000 in
theorem c_L_speed (l : Launch) (hlt : l.stackTraces = false) (G : mx_G) (P : mx_P) (a0 : Nat) (p1 : Int32) (p2 : Int32) (p3 : Int32) (p4 : Int32) (p5 : Int32) (a6 : Nat) (σ : mx_S) (r : Int32) (σ' : mx_S) (hf : f_L_speed P a0 p1 p2 p3 p4 p5 a6 σ = some (r, σ')) : mxz σ ≤ mpc P → mxu σ ≤ mps P → mx_MW l yL_speed cL_speed 8 (some .int) [(0, 15, 18, 19), (0, 15, 22, 35), (0, 15, 26, 45)] 9 178 G P [.ref a0, .int p1, .int p2, .int p3, .int p4, .int p5, .ref a6] σ (some (.int r)) σ' := by
  intro hcap hcau
  refine mx_ofWW (by decide +kernel) hcap hcau (Nat.le_of_ble_eq_true rfl) ?_
  intro p e s m below meth c hx hb hr hml hts hown hlocks hname htb hK hJ ls hl
  have hz0 := hJ.2.1
  have hown : s.vm.findClass RLn = some m.cls := hown
  have hl : lv_has ls 8 [(0, .ref a0), (1, .int p1), (2, .int p2), (3, .int p3), (4, .int p4), (5, .int p5), (6, .ref a6)] := hl
  unfold f_L_speed at hf
  refine lv_aload hx hb dL_speed_0 (lv_at hl 6 rfl) ?_
  refine lv_iconst (v := 0) hx hb dL_speed_2 (by decide) ?_
  refine lv_aload_n hx hb dL_speed_3 rfl (lv_at hl 0 rfl) ?_
  refine lv_iload_n hx hb dL_speed_4 rfl (lv_at hl 1 rfl) ?_
  refine lv_iload_n hx hb dL_speed_5 rfl (lv_at hl 2 rfl) ?_
  refine lv_iload_n hx hb dL_speed_6 rfl (lv_at hl 3 rfl) ?_
  refine lv_iload hx hb dL_speed_7 (lv_at hl 4 rfl) ?_
  refine lv_iload hx hb dL_speed_9 (lv_at hl 5 rfl) ?_
  obtain ⟨i1, e2, hf⟩ := mb0 hf
  rcases mtry hf with ⟨E, σ5, e4, hf⟩ | ⟨x6, σ3, e4, hf⟩
  · skip
    by_cases c7 : E = "java/lang/IllegalArgumentException"
    · subst c7
      rw [if_pos rfl] at hf
      refine mx_callVC (As := [.int p1, .int p2, .int p3, .int p4, .int p5]) (rest := [.int (0 : Int32), .ref a6]) hx hb hml hts hown hK hJ rfl rfl (ci := 11) rfl e2 (ct_X11_speed l hlt G P a0 p1 p2 p3 p4 p5 σ _ σ5 e4) me_X11_speed kw_1354 kw_1355 kw_1353 (Nat.le_of_ble_eq_true rfl) (Nat.le_of_ble_eq_true rfl) rfl hl.1 rfl (Nat.le_of_ble_eq_true rfl) dL_speed_11 (by decide) (tableOf []) ⟨0, 15, 18, 19⟩ (tableOf [(0, 15, 22, 35), (0, 15, 26, 45)]) htb (fun w hw => nomatch hw) (by decide) (by decide) kw_999 mx_cast_0 (fun H locs q hJ => ?_)
      refine lv_astore (lv' := [(7, .ref q), (0, .ref a0), (1, .int p1), (2, .int p2), (3, .int p3), (4, .int p4), (5, .int p5), (6, .ref a6)]) hx hb dL_speed_18 hl (by decide) rfl (fun ls hl => ?_)
      refine lv_iconst (v := 1) hx hb dL_speed_20 (by decide) ?_
      exact my_iret hx hb hr hlocks hJ hf dL_speed_21
    rw [if_neg c7] at hf
    by_cases c8 : E = "java/util/NoSuchElementException"
    · subst c8
      rw [if_pos rfl] at hf
      refine mx_callVC (As := [.int p1, .int p2, .int p3, .int p4, .int p5]) (rest := [.int (0 : Int32), .ref a6]) hx hb hml hts hown hK hJ rfl rfl (ci := 11) rfl e2 (ct_X11_speed l hlt G P a0 p1 p2 p3 p4 p5 σ _ σ5 e4) me_X11_speed kw_1354 kw_1355 kw_1353 (Nat.le_of_ble_eq_true rfl) (Nat.le_of_ble_eq_true rfl) rfl hl.1 rfl (Nat.le_of_ble_eq_true rfl) dL_speed_11 (by decide) (tableOf [(0, 15, 18, 19)]) ⟨0, 15, 22, 35⟩ (tableOf [(0, 15, 26, 45)]) htb (by
      intro w hw
      simp only [tableOf, List.map_cons, List.map_nil, List.mem_cons, List.not_mem_nil, or_false] at hw
      rcases hw with rfl
      · exact ⟨by decide, "java/lang/IllegalArgumentException", kw_999, by decide, by decide⟩) (by decide) (by decide) kw_1234 mx_cast_1 (fun H locs q hJ => ?_)
      refine lv_astore (lv' := [(7, .ref q), (0, .ref a0), (1, .int p1), (2, .int p2), (3, .int p3), (4, .int p4), (5, .int p5), (6, .ref a6)]) hx hb dL_speed_22 hl (by decide) rfl (fun ls hl => ?_)
      refine lv_iconst (v := 2) hx hb dL_speed_24 (by decide) ?_
      exact my_iret hx hb hr hlocks hJ hf dL_speed_25
    rw [if_neg c8] at hf
    by_cases c9 : E = "java/lang/IllegalStateException"
    · subst c9
      rw [if_pos rfl] at hf
      refine mx_callVC (As := [.int p1, .int p2, .int p3, .int p4, .int p5]) (rest := [.int (0 : Int32), .ref a6]) hx hb hml hts hown hK hJ rfl rfl (ci := 11) rfl e2 (ct_X11_speed l hlt G P a0 p1 p2 p3 p4 p5 σ _ σ5 e4) me_X11_speed kw_1354 kw_1355 kw_1353 (Nat.le_of_ble_eq_true rfl) (Nat.le_of_ble_eq_true rfl) rfl hl.1 rfl (Nat.le_of_ble_eq_true rfl) dL_speed_11 (by decide) (tableOf [(0, 15, 18, 19), (0, 15, 22, 35)]) ⟨0, 15, 26, 45⟩ (tableOf []) htb (by
      intro w hw
      simp only [tableOf, List.map_cons, List.map_nil, List.mem_cons, List.not_mem_nil, or_false] at hw
      rcases hw with rfl | rfl
      · exact ⟨by decide, "java/lang/IllegalArgumentException", kw_999, by decide, by decide⟩
      · exact ⟨by decide, "java/util/NoSuchElementException", kw_1234, by decide, by decide⟩) (by decide) (by decide) kw_1279 mx_cast_2 (fun H locs q hJ => ?_)
      refine lv_astore (lv' := [(7, .ref q), (0, .ref a0), (1, .int p1), (2, .int p2), (3, .int p3), (4, .int p4), (5, .int p5), (6, .ref a6)]) hx hb dL_speed_26 hl (by decide) rfl (fun ls hl => ?_)
      refine lv_iconst (v := 3) hx hb dL_speed_28 (by decide) ?_
      exact my_iret hx hb hr hlocks hJ hf dL_speed_29
    rw [if_neg c9] at hf
    cases hf
  refine mx_callV (As := [.int p1, .int p2, .int p3, .int p4, .int p5]) (rest := [.int (0 : Int32), .ref a6]) hx hb hml hts hown hK hJ rfl rfl (ci := 11) rfl e2 (c_X11_speed l G P a0 p1 p2 p3 p4 p5 σ x6 σ3 e4) me_X11_speed kw_1354 kw_1355 kw_1353 (Nat.le_of_ble_eq_true rfl) (Nat.le_of_ble_eq_true rfl) rfl hl.1 rfl (Nat.le_of_ble_eq_true rfl) dL_speed_11 (fun H locs hJ => ?_)
  obtain ⟨σ10, e11, hf⟩ := mb0 hf
  refine mx_sL hx hb hK hJ e11 dL_speed_14 (fun H locs hJ => ?_)
  refine lv_goto (tgt := 30) hx hb dL_speed_15 (by decide) ?_
  refine lv_iconst (v := 0) hx hb dL_speed_30 (by decide) ?_
  exact my_iret hx hb hr hlocks hJ hf dL_speed_31
set_option maxHeartbeats 4000000 in
set_option maxRecDepth 100000 in
theorem c_L_pole (l : Launch) (hlt : l.stackTraces = false) (G : mx_G) (P : mx_P) (a0 : Nat) (p1 : Int32) (p2 : Int32) (p3 : Int32) (p4 : Int32) (p5 : Int32) (p6 : Int32) (a7 : Nat) (σ : mx_S) (r : Int32) (σ' : mx_S) (hf : f_L_pole P a0 p1 p2 p3 p4 p5 p6 a7 σ = some (r, σ')) : mxz σ ≤ mpc P → mxu σ ≤ mps P → mx_MW l yL_pole cL_pole 9 (some .int) [(0, 17, 20, 19), (0, 17, 24, 35), (0, 17, 28, 45)] 9 179 G P [.ref a0, .int p1, .int p2, .int p3, .int p4, .int p5, .int p6, .ref a7] σ (some (.int r)) σ' := by
  intro hcap hcau
  refine mx_ofWW (by decide +kernel) hcap hcau (Nat.le_of_ble_eq_true rfl) ?_
  intro p e s m below meth c hx hb hr hml hts hown hlocks hname htb hK hJ ls hl
  have hz0 := hJ.2.1
  have hown : s.vm.findClass RLn = some m.cls := hown
  have hl : lv_has ls 9 [(0, .ref a0), (1, .int p1), (2, .int p2), (3, .int p3), (4, .int p4), (5, .int p5), (6, .int p6), (7, .ref a7)] := hl
  unfold f_L_pole at hf
  refine lv_aload hx hb dL_pole_0 (lv_at hl 7 rfl) ?_
  refine lv_iconst (v := 0) hx hb dL_pole_2 (by decide) ?_
  refine lv_aload_n hx hb dL_pole_3 rfl (lv_at hl 0 rfl) ?_
  refine lv_iload_n hx hb dL_pole_4 rfl (lv_at hl 1 rfl) ?_
  refine lv_iload_n hx hb dL_pole_5 rfl (lv_at hl 2 rfl) ?_
  refine lv_iload_n hx hb dL_pole_6 rfl (lv_at hl 3 rfl) ?_
  refine lv_iload hx hb dL_pole_7 (lv_at hl 4 rfl) ?_
  refine lv_iload hx hb dL_pole_9 (lv_at hl 5 rfl) ?_
  refine lv_iload hx hb dL_pole_11 (lv_at hl 6 rfl) ?_
  obtain ⟨i1, e2, hf⟩ := mb0 hf
  rcases mtry hf with ⟨E, σ5, e4, hf⟩ | ⟨x6, σ3, e4, hf⟩
  · skip
    by_cases c7 : E = "java/lang/IllegalArgumentException"
    · subst c7
      rw [if_pos rfl] at hf
      refine mx_callVC (As := [.int p1, .int p2, .int p3, .int p4, .int p5, .int p6]) (rest := [.int (0 : Int32), .ref a7]) hx hb hml hts hown hK hJ rfl rfl (ci := 11) rfl e2 (ct_X11_pole l hlt G P a0 p1 p2 p3 p4 p5 p6 σ _ σ5 e4) me_X11_pole kw_1389 kw_1390 kw_1388 (Nat.le_of_ble_eq_true rfl) (Nat.le_of_ble_eq_true rfl) rfl hl.1 rfl (Nat.le_of_ble_eq_true rfl) dL_pole_13 (by decide) (tableOf []) ⟨0, 17, 20, 19⟩ (tableOf [(0, 17, 24, 35), (0, 17, 28, 45)]) htb (fun w hw => nomatch hw) (by decide) (by decide) kw_999 mx_cast_0 (fun H locs q hJ => ?_)
      refine lv_astore (lv' := [(8, .ref q), (0, .ref a0), (1, .int p1), (2, .int p2), (3, .int p3), (4, .int p4), (5, .int p5), (6, .int p6), (7, .ref a7)]) hx hb dL_pole_20 hl (by decide) rfl (fun ls hl => ?_)
      refine lv_iconst (v := 1) hx hb dL_pole_22 (by decide) ?_
      exact my_iret hx hb hr hlocks hJ hf dL_pole_23
    rw [if_neg c7] at hf
    by_cases c8 : E = "java/util/NoSuchElementException"
    · subst c8
      rw [if_pos rfl] at hf
      refine mx_callVC (As := [.int p1, .int p2, .int p3, .int p4, .int p5, .int p6]) (rest := [.int (0 : Int32), .ref a7]) hx hb hml hts hown hK hJ rfl rfl (ci := 11) rfl e2 (ct_X11_pole l hlt G P a0 p1 p2 p3 p4 p5 p6 σ _ σ5 e4) me_X11_pole kw_1389 kw_1390 kw_1388 (Nat.le_of_ble_eq_true rfl) (Nat.le_of_ble_eq_true rfl) rfl hl.1 rfl (Nat.le_of_ble_eq_true rfl) dL_pole_13 (by decide) (tableOf [(0, 17, 20, 19)]) ⟨0, 17, 24, 35⟩ (tableOf [(0, 17, 28, 45)]) htb (by
      intro w hw
      simp only [tableOf, List.map_cons, List.map_nil, List.mem_cons, List.not_mem_nil, or_false] at hw
      rcases hw with rfl
      · exact ⟨by decide, "java/lang/IllegalArgumentException", kw_999, by decide, by decide⟩) (by decide) (by decide) kw_1234 mx_cast_1 (fun H locs q hJ => ?_)
      refine lv_astore (lv' := [(8, .ref q), (0, .ref a0), (1, .int p1), (2, .int p2), (3, .int p3), (4, .int p4), (5, .int p5), (6, .int p6), (7, .ref a7)]) hx hb dL_pole_24 hl (by decide) rfl (fun ls hl => ?_)
      refine lv_iconst (v := 2) hx hb dL_pole_26 (by decide) ?_
      exact my_iret hx hb hr hlocks hJ hf dL_pole_27
    rw [if_neg c8] at hf
    by_cases c9 : E = "java/lang/IllegalStateException"
    · subst c9
      rw [if_pos rfl] at hf
      refine mx_callVC (As := [.int p1, .int p2, .int p3, .int p4, .int p5, .int p6]) (rest := [.int (0 : Int32), .ref a7]) hx hb hml hts hown hK hJ rfl rfl (ci := 11) rfl e2 (ct_X11_pole l hlt G P a0 p1 p2 p3 p4 p5 p6 σ _ σ5 e4) me_X11_pole kw_1389 kw_1390 kw_1388 (Nat.le_of_ble_eq_true rfl) (Nat.le_of_ble_eq_true rfl) rfl hl.1 rfl (Nat.le_of_ble_eq_true rfl) dL_pole_13 (by decide) (tableOf [(0, 17, 20, 19), (0, 17, 24, 35)]) ⟨0, 17, 28, 45⟩ (tableOf []) htb (by
      intro w hw
      simp only [tableOf, List.map_cons, List.map_nil, List.mem_cons, List.not_mem_nil, or_false] at hw
      rcases hw with rfl | rfl
      · exact ⟨by decide, "java/lang/IllegalArgumentException", kw_999, by decide, by decide⟩
      · exact ⟨by decide, "java/util/NoSuchElementException", kw_1234, by decide, by decide⟩) (by decide) (by decide) kw_1279 mx_cast_2 (fun H locs q hJ => ?_)
      refine lv_astore (lv' := [(8, .ref q), (0, .ref a0), (1, .int p1), (2, .int p2), (3, .int p3), (4, .int p4), (5, .int p5), (6, .int p6), (7, .ref a7)]) hx hb dL_pole_28 hl (by decide) rfl (fun ls hl => ?_)
      refine lv_iconst (v := 3) hx hb dL_pole_30 (by decide) ?_
      exact my_iret hx hb hr hlocks hJ hf dL_pole_31
    rw [if_neg c9] at hf
    cases hf
  refine mx_callV (As := [.int p1, .int p2, .int p3, .int p4, .int p5, .int p6]) (rest := [.int (0 : Int32), .ref a7]) hx hb hml hts hown hK hJ rfl rfl (ci := 11) rfl e2 (c_X11_pole l G P a0 p1 p2 p3 p4 p5 p6 σ x6 σ3 e4) me_X11_pole kw_1389 kw_1390 kw_1388 (Nat.le_of_ble_eq_true rfl) (Nat.le_of_ble_eq_true rfl) rfl hl.1 rfl (Nat.le_of_ble_eq_true rfl) dL_pole_13 (fun H locs hJ => ?_)
  obtain ⟨σ10, e11, hf⟩ := mb0 hf
  refine mx_sL hx hb hK hJ e11 dL_pole_16 (fun H locs hJ => ?_)
  refine lv_goto (tgt := 32) hx hb dL_pole_17 (by decide) ?_
  refine lv_iconst (v := 0) hx hb dL_pole_32 (by decide) ?_
  exact my_iret hx hb hr hlocks hJ hf dL_pole_33
set_option maxHeartbeats 4000000 in
set_option maxRecDepth 100000 in
theorem c_L_load (l : Launch) (hlt : l.stackTraces = false) (G : mx_G) (P : mx_P) (a0 : Nat) (p1 : Int32) (p2 : Int32) (p3 : Int32) (σ : mx_S) (r : Int32) (σ' : mx_S) (hf : f_L_load P a0 p1 p2 p3 σ = some (r, σ')) : mxz σ ≤ mpc P → mxu σ ≤ mps P → mx_MW l yL_load cL_load 5 (some .int) [(0, 7, 10, 19), (0, 7, 14, 35)] 8 126 G P [.ref a0, .int p1, .int p2, .int p3] σ (some (.int r)) σ' := by
  intro hcap hcau
  refine mx_ofWW (by decide +kernel) hcap hcau (Nat.le_of_ble_eq_true rfl) ?_
  intro p e s m below meth c hx hb hr hml hts hown hlocks hname htb hK hJ ls hl
  have hz0 := hJ.2.1
  have hown : s.vm.findClass RLn = some m.cls := hown
  have hl : lv_has ls 5 [(0, .ref a0), (1, .int p1), (2, .int p2), (3, .int p3)] := hl
  unfold f_L_load at hf
  refine lv_aload_n hx hb dL_load_0 rfl (lv_at hl 0 rfl) ?_
  refine lv_iload_n hx hb dL_load_1 rfl (lv_at hl 1 rfl) ?_
  refine lv_iload_n hx hb dL_load_2 rfl (lv_at hl 2 rfl) ?_
  refine lv_iload_n hx hb dL_load_3 rfl (lv_at hl 3 rfl) ?_
  obtain ⟨i1, e2, hf⟩ := mb0 hf
  rcases mtry0 hf with ⟨E, σ5, e4, hf⟩ | ⟨σ3, e4, hf⟩
  · skip
    by_cases c6 : E = "java/lang/IllegalArgumentException"
    · subst c6
      rw [if_pos rfl] at hf
      refine mx_callVC (As := [.int p1, .int p2, .int p3]) (rest := []) hx hb hml hts hown hK hJ rfl rfl (ci := 11) rfl e2 (ct_X11_load l hlt G P a0 p1 p2 p3 σ _ σ5 e4) me_X11_load kw_1400 kw_1401 kw_1399 (Nat.le_of_ble_eq_true rfl) (Nat.le_of_ble_eq_true rfl) rfl hl.1 rfl (Nat.le_of_ble_eq_true rfl) dL_load_4 (by decide) (tableOf []) ⟨0, 7, 10, 19⟩ (tableOf [(0, 7, 14, 35)]) htb (fun w hw => nomatch hw) (by decide) (by decide) kw_999 mx_cast_0 (fun H locs q hJ => ?_)
      refine lv_astore (lv' := [(4, .ref q), (0, .ref a0), (1, .int p1), (2, .int p2), (3, .int p3)]) hx hb dL_load_10 hl (by decide) rfl (fun ls hl => ?_)
      refine lv_iconst (v := 1) hx hb dL_load_12 (by decide) ?_
      exact my_iret hx hb hr hlocks hJ hf dL_load_13
    rw [if_neg c6] at hf
    by_cases c7 : E = "java/util/NoSuchElementException"
    · subst c7
      rw [if_pos rfl] at hf
      refine mx_callVC (As := [.int p1, .int p2, .int p3]) (rest := []) hx hb hml hts hown hK hJ rfl rfl (ci := 11) rfl e2 (ct_X11_load l hlt G P a0 p1 p2 p3 σ _ σ5 e4) me_X11_load kw_1400 kw_1401 kw_1399 (Nat.le_of_ble_eq_true rfl) (Nat.le_of_ble_eq_true rfl) rfl hl.1 rfl (Nat.le_of_ble_eq_true rfl) dL_load_4 (by decide) (tableOf [(0, 7, 10, 19)]) ⟨0, 7, 14, 35⟩ (tableOf []) htb (by
      intro w hw
      simp only [tableOf, List.map_cons, List.map_nil, List.mem_cons, List.not_mem_nil, or_false] at hw
      rcases hw with rfl
      · exact ⟨by decide, "java/lang/IllegalArgumentException", kw_999, by decide, by decide⟩) (by decide) (by decide) kw_1234 mx_cast_1 (fun H locs q hJ => ?_)
      refine lv_astore (lv' := [(4, .ref q), (0, .ref a0), (1, .int p1), (2, .int p2), (3, .int p3)]) hx hb dL_load_14 hl (by decide) rfl (fun ls hl => ?_)
      refine lv_iconst (v := 2) hx hb dL_load_16 (by decide) ?_
      exact my_iret hx hb hr hlocks hJ hf dL_load_17
    rw [if_neg c7] at hf
    cases hf
  refine mx_callV (As := [.int p1, .int p2, .int p3]) (rest := []) hx hb hml hts hown hK hJ rfl rfl (ci := 11) rfl e2 (c_X11_load l G P a0 p1 p2 p3 σ σ3 e4) me_X11_load kw_1400 kw_1401 kw_1399 (Nat.le_of_ble_eq_true rfl) (Nat.le_of_ble_eq_true rfl) rfl hl.1 rfl (Nat.le_of_ble_eq_true rfl) dL_load_4 (fun H locs hJ => ?_)
  refine lv_goto (tgt := 18) hx hb dL_load_7 (by decide) ?_
  refine lv_iconst (v := 0) hx hb dL_load_18 (by decide) ?_
  exact my_iret hx hb hr hlocks hJ hf dL_load_19
set_option maxHeartbeats 4000000 in
set_option maxRecDepth 100000 in
theorem c_L_mass (l : Launch) (hlt : l.stackTraces = false) (G : mx_G) (P : mx_P) (a0 : Nat) (p1 : Int32) (p2 : Int32) (σ : mx_S) (r : Int32) (σ' : mx_S) (hf : f_L_mass P a0 p1 p2 σ = some (r, σ')) : mxz σ ≤ mpc P → mxu σ ≤ mps P → mx_MW l yL_mass cL_mass 4 (some .int) [(0, 6, 9, 19), (0, 6, 12, 35)] 8 125 G P [.ref a0, .int p1, .int p2] σ (some (.int r)) σ' := by
  intro hcap hcau
  refine mx_ofWW (by decide +kernel) hcap hcau (Nat.le_of_ble_eq_true rfl) ?_
  intro p e s m below meth c hx hb hr hml hts hown hlocks hname htb hK hJ ls hl
  have hz0 := hJ.2.1
  have hown : s.vm.findClass RLn = some m.cls := hown
  have hl : lv_has ls 4 [(0, .ref a0), (1, .int p1), (2, .int p2)] := hl
  unfold f_L_mass at hf
  refine lv_aload_n hx hb dL_mass_0 rfl (lv_at hl 0 rfl) ?_
  refine lv_iload_n hx hb dL_mass_1 rfl (lv_at hl 1 rfl) ?_
  refine lv_iload_n hx hb dL_mass_2 rfl (lv_at hl 2 rfl) ?_
  obtain ⟨i1, e2, hf⟩ := mb0 hf
  rcases mtry0 hf with ⟨E, σ5, e4, hf⟩ | ⟨σ3, e4, hf⟩
  · skip
    by_cases c6 : E = "java/lang/IllegalArgumentException"
    · subst c6
      rw [if_pos rfl] at hf
      refine mx_callVC (As := [.int p1, .int p2]) (rest := []) hx hb hml hts hown hK hJ rfl rfl (ci := 11) rfl e2 (ct_X11_mass l hlt G P a0 p1 p2 σ _ σ5 e4) me_X11_mass kw_1407 kw_1408 kw_1406 (Nat.le_of_ble_eq_true rfl) (Nat.le_of_ble_eq_true rfl) rfl hl.1 rfl (Nat.le_of_ble_eq_true rfl) dL_mass_3 (by decide) (tableOf []) ⟨0, 6, 9, 19⟩ (tableOf [(0, 6, 12, 35)]) htb (fun w hw => nomatch hw) (by decide) (by decide) kw_999 mx_cast_0 (fun H locs q hJ => ?_)
      refine lv_astore_n (lv' := [(3, .ref q), (0, .ref a0), (1, .int p1), (2, .int p2)]) hx hb dL_mass_9 rfl hl (by decide) rfl (fun ls hl => ?_)
      refine lv_iconst (v := 1) hx hb dL_mass_10 (by decide) ?_
      exact my_iret hx hb hr hlocks hJ hf dL_mass_11
    rw [if_neg c6] at hf
    by_cases c7 : E = "java/util/NoSuchElementException"
    · subst c7
      rw [if_pos rfl] at hf
      refine mx_callVC (As := [.int p1, .int p2]) (rest := []) hx hb hml hts hown hK hJ rfl rfl (ci := 11) rfl e2 (ct_X11_mass l hlt G P a0 p1 p2 σ _ σ5 e4) me_X11_mass kw_1407 kw_1408 kw_1406 (Nat.le_of_ble_eq_true rfl) (Nat.le_of_ble_eq_true rfl) rfl hl.1 rfl (Nat.le_of_ble_eq_true rfl) dL_mass_3 (by decide) (tableOf [(0, 6, 9, 19)]) ⟨0, 6, 12, 35⟩ (tableOf []) htb (by
      intro w hw
      simp only [tableOf, List.map_cons, List.map_nil, List.mem_cons, List.not_mem_nil, or_false] at hw
      rcases hw with rfl
      · exact ⟨by decide, "java/lang/IllegalArgumentException", kw_999, by decide, by decide⟩) (by decide) (by decide) kw_1234 mx_cast_1 (fun H locs q hJ => ?_)
      refine lv_astore_n (lv' := [(3, .ref q), (0, .ref a0), (1, .int p1), (2, .int p2)]) hx hb dL_mass_12 rfl hl (by decide) rfl (fun ls hl => ?_)
      refine lv_iconst (v := 2) hx hb dL_mass_13 (by decide) ?_
      exact my_iret hx hb hr hlocks hJ hf dL_mass_14
    rw [if_neg c7] at hf
    cases hf
  refine mx_callV (As := [.int p1, .int p2]) (rest := []) hx hb hml hts hown hK hJ rfl rfl (ci := 11) rfl e2 (c_X11_mass l G P a0 p1 p2 σ σ3 e4) me_X11_mass kw_1407 kw_1408 kw_1406 (Nat.le_of_ble_eq_true rfl) (Nat.le_of_ble_eq_true rfl) rfl hl.1 rfl (Nat.le_of_ble_eq_true rfl) dL_mass_3 (fun H locs hJ => ?_)
  refine lv_goto (tgt := 15) hx hb dL_mass_6 (by decide) ?_
  refine lv_iconst (v := 0) hx hb dL_mass_15 (by decide) ?_
  exact my_iret hx hb hr hlocks hJ hf dL_mass_16
set_option maxHeartbeats 4000000 in
set_option maxRecDepth 100000 in
theorem c_L_moment (l : Launch) (hlt : l.stackTraces = false) (G : mx_G) (P : mx_P) (a0 : Nat) (p1 : Int32) (p2 : Int32) (p3 : Int32) (a4 : Nat) (σ : mx_S) (r : Int32) (σ' : mx_S) (hf : f_L_moment P a0 p1 p2 p3 a4 σ = some (r, σ')) : mxz σ ≤ mpc P → mxu σ ≤ mps P → mx_MW l yL_moment cL_moment 6 (some .int) [(0, 11, 14, 19), (0, 11, 18, 35), (0, 11, 22, 45)] 9 176 G P [.ref a0, .int p1, .int p2, .int p3, .ref a4] σ (some (.int r)) σ' := by
  intro hcap hcau
  refine mx_ofWW (by decide +kernel) hcap hcau (Nat.le_of_ble_eq_true rfl) ?_
  intro p e s m below meth c hx hb hr hml hts hown hlocks hname htb hK hJ ls hl
  have hz0 := hJ.2.1
  have hown : s.vm.findClass RLn = some m.cls := hown
  have hl : lv_has ls 6 [(0, .ref a0), (1, .int p1), (2, .int p2), (3, .int p3), (4, .ref a4)] := hl
  unfold f_L_moment at hf
  refine lv_aload hx hb dL_moment_0 (lv_at hl 4 rfl) ?_
  refine lv_iconst (v := 0) hx hb dL_moment_2 (by decide) ?_
  refine lv_aload_n hx hb dL_moment_3 rfl (lv_at hl 0 rfl) ?_
  refine lv_iload_n hx hb dL_moment_4 rfl (lv_at hl 1 rfl) ?_
  refine lv_iload_n hx hb dL_moment_5 rfl (lv_at hl 2 rfl) ?_
  refine lv_iload_n hx hb dL_moment_6 rfl (lv_at hl 3 rfl) ?_
  obtain ⟨i1, e2, hf⟩ := mb0 hf
  rcases mtry hf with ⟨E, σ5, e4, hf⟩ | ⟨x6, σ3, e4, hf⟩
  · skip
    by_cases c7 : E = "java/lang/IllegalArgumentException"
    · subst c7
      rw [if_pos rfl] at hf
      refine mx_callVC (As := [.int p1, .int p2, .int p3]) (rest := [.int (0 : Int32), .ref a4]) hx hb hml hts hown hK hJ rfl rfl (ci := 11) rfl e2 (ct_X11_moment l hlt G P a0 p1 p2 p3 σ _ σ5 e4) me_X11_moment kw_1414 kw_1415 kw_1413 (Nat.le_of_ble_eq_true rfl) (Nat.le_of_ble_eq_true rfl) rfl hl.1 rfl (Nat.le_of_ble_eq_true rfl) dL_moment_7 (by decide) (tableOf []) ⟨0, 11, 14, 19⟩ (tableOf [(0, 11, 18, 35), (0, 11, 22, 45)]) htb (fun w hw => nomatch hw) (by decide) (by decide) kw_999 mx_cast_0 (fun H locs q hJ => ?_)
      refine lv_astore (lv' := [(5, .ref q), (0, .ref a0), (1, .int p1), (2, .int p2), (3, .int p3), (4, .ref a4)]) hx hb dL_moment_14 hl (by decide) rfl (fun ls hl => ?_)
      refine lv_iconst (v := 1) hx hb dL_moment_16 (by decide) ?_
      exact my_iret hx hb hr hlocks hJ hf dL_moment_17
    rw [if_neg c7] at hf
    by_cases c8 : E = "java/util/NoSuchElementException"
    · subst c8
      rw [if_pos rfl] at hf
      refine mx_callVC (As := [.int p1, .int p2, .int p3]) (rest := [.int (0 : Int32), .ref a4]) hx hb hml hts hown hK hJ rfl rfl (ci := 11) rfl e2 (ct_X11_moment l hlt G P a0 p1 p2 p3 σ _ σ5 e4) me_X11_moment kw_1414 kw_1415 kw_1413 (Nat.le_of_ble_eq_true rfl) (Nat.le_of_ble_eq_true rfl) rfl hl.1 rfl (Nat.le_of_ble_eq_true rfl) dL_moment_7 (by decide) (tableOf [(0, 11, 14, 19)]) ⟨0, 11, 18, 35⟩ (tableOf [(0, 11, 22, 45)]) htb (by
      intro w hw
      simp only [tableOf, List.map_cons, List.map_nil, List.mem_cons, List.not_mem_nil, or_false] at hw
      rcases hw with rfl
      · exact ⟨by decide, "java/lang/IllegalArgumentException", kw_999, by decide, by decide⟩) (by decide) (by decide) kw_1234 mx_cast_1 (fun H locs q hJ => ?_)
      refine lv_astore (lv' := [(5, .ref q), (0, .ref a0), (1, .int p1), (2, .int p2), (3, .int p3), (4, .ref a4)]) hx hb dL_moment_18 hl (by decide) rfl (fun ls hl => ?_)
      refine lv_iconst (v := 2) hx hb dL_moment_20 (by decide) ?_
      exact my_iret hx hb hr hlocks hJ hf dL_moment_21
    rw [if_neg c8] at hf
    by_cases c9 : E = "java/lang/IllegalStateException"
    · subst c9
      rw [if_pos rfl] at hf
      refine mx_callVC (As := [.int p1, .int p2, .int p3]) (rest := [.int (0 : Int32), .ref a4]) hx hb hml hts hown hK hJ rfl rfl (ci := 11) rfl e2 (ct_X11_moment l hlt G P a0 p1 p2 p3 σ _ σ5 e4) me_X11_moment kw_1414 kw_1415 kw_1413 (Nat.le_of_ble_eq_true rfl) (Nat.le_of_ble_eq_true rfl) rfl hl.1 rfl (Nat.le_of_ble_eq_true rfl) dL_moment_7 (by decide) (tableOf [(0, 11, 14, 19), (0, 11, 18, 35)]) ⟨0, 11, 22, 45⟩ (tableOf []) htb (by
      intro w hw
      simp only [tableOf, List.map_cons, List.map_nil, List.mem_cons, List.not_mem_nil, or_false] at hw
      rcases hw with rfl | rfl
      · exact ⟨by decide, "java/lang/IllegalArgumentException", kw_999, by decide, by decide⟩
      · exact ⟨by decide, "java/util/NoSuchElementException", kw_1234, by decide, by decide⟩) (by decide) (by decide) kw_1279 mx_cast_2 (fun H locs q hJ => ?_)
      refine lv_astore (lv' := [(5, .ref q), (0, .ref a0), (1, .int p1), (2, .int p2), (3, .int p3), (4, .ref a4)]) hx hb dL_moment_22 hl (by decide) rfl (fun ls hl => ?_)
      refine lv_iconst (v := 3) hx hb dL_moment_24 (by decide) ?_
      exact my_iret hx hb hr hlocks hJ hf dL_moment_25
    rw [if_neg c9] at hf
    cases hf
  refine mx_callV (As := [.int p1, .int p2, .int p3]) (rest := [.int (0 : Int32), .ref a4]) hx hb hml hts hown hK hJ rfl rfl (ci := 11) rfl e2 (c_X11_moment l G P a0 p1 p2 p3 σ x6 σ3 e4) me_X11_moment kw_1414 kw_1415 kw_1413 (Nat.le_of_ble_eq_true rfl) (Nat.le_of_ble_eq_true rfl) rfl hl.1 rfl (Nat.le_of_ble_eq_true rfl) dL_moment_7 (fun H locs hJ => ?_)
  obtain ⟨σ10, e11, hf⟩ := mb0 hf
  refine mx_sL hx hb hK hJ e11 dL_moment_10 (fun H locs hJ => ?_)
  refine lv_goto (tgt := 26) hx hb dL_moment_11 (by decide) ?_
  refine lv_iconst (v := 0) hx hb dL_moment_26 (by decide) ?_
  exact my_iret hx hb hr hlocks hJ hf dL_moment_27
set_option maxHeartbeats 4000000 in
set_option maxRecDepth 100000 in
theorem c_L_middle (l : Launch) (hlt : l.stackTraces = false) (G : mx_G) (P : mx_P) (a0 : Nat) (p1 : Int32) (p2 : Int32) (p3 : Int32) (a4 : Nat) (σ : mx_S) (r : Int32) (σ' : mx_S) (hf : f_L_middle P a0 p1 p2 p3 a4 σ = some (r, σ')) : mxz σ ≤ mpc P → mxu σ ≤ mps P → mx_MW l yL_middle cL_middle 6 (some .int) [(0, 11, 14, 19), (0, 11, 18, 35), (0, 11, 22, 45)] 9 176 G P [.ref a0, .int p1, .int p2, .int p3, .ref a4] σ (some (.int r)) σ' := by
  intro hcap hcau
  refine mx_ofWW (by decide +kernel) hcap hcau (Nat.le_of_ble_eq_true rfl) ?_
  intro p e s m below meth c hx hb hr hml hts hown hlocks hname htb hK hJ ls hl
  have hz0 := hJ.2.1
  have hown : s.vm.findClass RLn = some m.cls := hown
  have hl : lv_has ls 6 [(0, .ref a0), (1, .int p1), (2, .int p2), (3, .int p3), (4, .ref a4)] := hl
  unfold f_L_middle at hf
  refine lv_aload hx hb dL_middle_0 (lv_at hl 4 rfl) ?_
  refine lv_iconst (v := 0) hx hb dL_middle_2 (by decide) ?_
  refine lv_aload_n hx hb dL_middle_3 rfl (lv_at hl 0 rfl) ?_
  refine lv_iload_n hx hb dL_middle_4 rfl (lv_at hl 1 rfl) ?_
  refine lv_iload_n hx hb dL_middle_5 rfl (lv_at hl 2 rfl) ?_
  refine lv_iload_n hx hb dL_middle_6 rfl (lv_at hl 3 rfl) ?_
  obtain ⟨i1, e2, hf⟩ := mb0 hf
  rcases mtry hf with ⟨E, σ5, e4, hf⟩ | ⟨x6, σ3, e4, hf⟩
  · skip
    by_cases c7 : E = "java/lang/IllegalArgumentException"
    · subst c7
      rw [if_pos rfl] at hf
      refine mx_callVC (As := [.int p1, .int p2, .int p3]) (rest := [.int (0 : Int32), .ref a4]) hx hb hml hts hown hK hJ rfl rfl (ci := 11) rfl e2 (ct_X11_middle l hlt G P a0 p1 p2 p3 σ _ σ5 e4) me_X11_middle kw_1429 kw_1430 kw_1428 (Nat.le_of_ble_eq_true rfl) (Nat.le_of_ble_eq_true rfl) rfl hl.1 rfl (Nat.le_of_ble_eq_true rfl) dL_middle_7 (by decide) (tableOf []) ⟨0, 11, 14, 19⟩ (tableOf [(0, 11, 18, 35), (0, 11, 22, 45)]) htb (fun w hw => nomatch hw) (by decide) (by decide) kw_999 mx_cast_0 (fun H locs q hJ => ?_)
      refine lv_astore (lv' := [(5, .ref q), (0, .ref a0), (1, .int p1), (2, .int p2), (3, .int p3), (4, .ref a4)]) hx hb dL_middle_14 hl (by decide) rfl (fun ls hl => ?_)
      refine lv_iconst (v := 1) hx hb dL_middle_16 (by decide) ?_
      exact my_iret hx hb hr hlocks hJ hf dL_middle_17
    rw [if_neg c7] at hf
    by_cases c8 : E = "java/util/NoSuchElementException"
    · subst c8
      rw [if_pos rfl] at hf
      refine mx_callVC (As := [.int p1, .int p2, .int p3]) (rest := [.int (0 : Int32), .ref a4]) hx hb hml hts hown hK hJ rfl rfl (ci := 11) rfl e2 (ct_X11_middle l hlt G P a0 p1 p2 p3 σ _ σ5 e4) me_X11_middle kw_1429 kw_1430 kw_1428 (Nat.le_of_ble_eq_true rfl) (Nat.le_of_ble_eq_true rfl) rfl hl.1 rfl (Nat.le_of_ble_eq_true rfl) dL_middle_7 (by decide) (tableOf [(0, 11, 14, 19)]) ⟨0, 11, 18, 35⟩ (tableOf [(0, 11, 22, 45)]) htb (by
      intro w hw
      simp only [tableOf, List.map_cons, List.map_nil, List.mem_cons, List.not_mem_nil, or_false] at hw
      rcases hw with rfl
      · exact ⟨by decide, "java/lang/IllegalArgumentException", kw_999, by decide, by decide⟩) (by decide) (by decide) kw_1234 mx_cast_1 (fun H locs q hJ => ?_)
      refine lv_astore (lv' := [(5, .ref q), (0, .ref a0), (1, .int p1), (2, .int p2), (3, .int p3), (4, .ref a4)]) hx hb dL_middle_18 hl (by decide) rfl (fun ls hl => ?_)
      refine lv_iconst (v := 2) hx hb dL_middle_20 (by decide) ?_
      exact my_iret hx hb hr hlocks hJ hf dL_middle_21
    rw [if_neg c8] at hf
    by_cases c9 : E = "java/lang/IllegalStateException"
    · subst c9
      rw [if_pos rfl] at hf
      refine mx_callVC (As := [.int p1, .int p2, .int p3]) (rest := [.int (0 : Int32), .ref a4]) hx hb hml hts hown hK hJ rfl rfl (ci := 11) rfl e2 (ct_X11_middle l hlt G P a0 p1 p2 p3 σ _ σ5 e4) me_X11_middle kw_1429 kw_1430 kw_1428 (Nat.le_of_ble_eq_true rfl) (Nat.le_of_ble_eq_true rfl) rfl hl.1 rfl (Nat.le_of_ble_eq_true rfl) dL_middle_7 (by decide) (tableOf [(0, 11, 14, 19), (0, 11, 18, 35)]) ⟨0, 11, 22, 45⟩ (tableOf []) htb (by
      intro w hw
      simp only [tableOf, List.map_cons, List.map_nil, List.mem_cons, List.not_mem_nil, or_false] at hw
      rcases hw with rfl | rfl
      · exact ⟨by decide, "java/lang/IllegalArgumentException", kw_999, by decide, by decide⟩
      · exact ⟨by decide, "java/util/NoSuchElementException", kw_1234, by decide, by decide⟩) (by decide) (by decide) kw_1279 mx_cast_2 (fun H locs q hJ => ?_)
      refine lv_astore (lv' := [(5, .ref q), (0, .ref a0), (1, .int p1), (2, .int p2), (3, .int p3), (4, .ref a4)]) hx hb dL_middle_22 hl (by decide) rfl (fun ls hl => ?_)
      refine lv_iconst (v := 3) hx hb dL_middle_24 (by decide) ?_
      exact my_iret hx hb hr hlocks hJ hf dL_middle_25
    rw [if_neg c9] at hf
    cases hf
  refine mx_callV (As := [.int p1, .int p2, .int p3]) (rest := [.int (0 : Int32), .ref a4]) hx hb hml hts hown hK hJ rfl rfl (ci := 11) rfl e2 (c_X11_middle l G P a0 p1 p2 p3 σ x6 σ3 e4) me_X11_middle kw_1429 kw_1430 kw_1428 (Nat.le_of_ble_eq_true rfl) (Nat.le_of_ble_eq_true rfl) rfl hl.1 rfl (Nat.le_of_ble_eq_true rfl) dL_middle_7 (fun H locs hJ => ?_)
  obtain ⟨σ10, e11, hf⟩ := mb0 hf
  refine mx_sL hx hb hK hJ e11 dL_middle_10 (fun H locs hJ => ?_)
  refine lv_goto (tgt := 26) hx hb dL_middle_11 (by decide) ?_
  refine lv_iconst (v := 0) hx hb dL_middle_26 (by decide) ?_
  exact my_iret hx hb hr hlocks hJ hf dL_middle_27
set_option maxHeartbeats 4000000 in
set_option maxRecDepth 100000 in
theorem c_L_gear (l : Launch) (hlt : l.stackTraces = false) (G : mx_G) (P : mx_P) (a0 : Nat) (p1 : Int32) (p2 : Int32) (a3 : Nat) (σ : mx_S) (r : Int32) (σ' : mx_S) (hf : f_L_gear P a0 p1 p2 a3 σ = some (r, σ')) : mxz σ ≤ mpc P → mxu σ ≤ mps P → mx_MW l yL_gear cL_gear 5 (some .int) [(0, 10, 13, 19), (0, 10, 17, 13)] 8 125 G P [.ref a0, .int p1, .int p2, .ref a3] σ (some (.int r)) σ' := by
  intro hcap hcau
  refine mx_ofWW (by decide +kernel) hcap hcau (Nat.le_of_ble_eq_true rfl) ?_
  intro p e s m below meth c hx hb hr hml hts hown hlocks hname htb hK hJ ls hl
  have hz0 := hJ.2.1
  have hown : s.vm.findClass RLn = some m.cls := hown
  have hl : lv_has ls 5 [(0, .ref a0), (1, .int p1), (2, .int p2), (3, .ref a3)] := hl
  unfold f_L_gear at hf
  refine lv_aload_n hx hb dL_gear_0 rfl (lv_at hl 3 rfl) ?_
  refine lv_iconst (v := 0) hx hb dL_gear_1 (by decide) ?_
  refine lv_aload_n hx hb dL_gear_2 rfl (lv_at hl 0 rfl) ?_
  refine lv_iload_n hx hb dL_gear_3 rfl (lv_at hl 1 rfl) ?_
  refine lv_iload_n hx hb dL_gear_4 rfl (lv_at hl 2 rfl) ?_
  obtain ⟨i1, e2, hf⟩ := mb0 hf
  rcases mtry hf with ⟨E, σ5, e4, hf⟩ | ⟨x6, σ3, e4, hf⟩
  · skip
    by_cases c7 : E = "java/lang/IllegalArgumentException"
    · subst c7
      rw [if_pos rfl] at hf
      refine mx_callVC (As := [.int p1, .int p2]) (rest := [.int (0 : Int32), .ref a3]) hx hb hml hts hown hK hJ rfl rfl (ci := 11) rfl e2 (ct_X11_gear l hlt G P a0 p1 p2 σ _ σ5 e4) me_X11_gear kw_1445 kw_1446 kw_1444 (Nat.le_of_ble_eq_true rfl) (Nat.le_of_ble_eq_true rfl) rfl hl.1 rfl (Nat.le_of_ble_eq_true rfl) dL_gear_5 (by decide) (tableOf []) ⟨0, 10, 13, 19⟩ (tableOf [(0, 10, 17, 13)]) htb (fun w hw => nomatch hw) (by decide) (by decide) kw_999 mx_cast_0 (fun H locs q hJ => ?_)
      refine lv_astore (lv' := [(4, .ref q), (0, .ref a0), (1, .int p1), (2, .int p2), (3, .ref a3)]) hx hb dL_gear_13 hl (by decide) rfl (fun ls hl => ?_)
      refine lv_iconst (v := 1) hx hb dL_gear_15 (by decide) ?_
      exact my_iret hx hb hr hlocks hJ hf dL_gear_16
    rw [if_neg c7] at hf
    by_cases c8 : E = "java/lang/IndexOutOfBoundsException"
    · subst c8
      rw [if_pos rfl] at hf
      refine mx_callVC (As := [.int p1, .int p2]) (rest := [.int (0 : Int32), .ref a3]) hx hb hml hts hown hK hJ rfl rfl (ci := 11) rfl e2 (ct_X11_gear l hlt G P a0 p1 p2 σ _ σ5 e4) me_X11_gear kw_1445 kw_1446 kw_1444 (Nat.le_of_ble_eq_true rfl) (Nat.le_of_ble_eq_true rfl) rfl hl.1 rfl (Nat.le_of_ble_eq_true rfl) dL_gear_5 (by decide) (tableOf [(0, 10, 13, 19)]) ⟨0, 10, 17, 13⟩ (tableOf []) htb (by
      intro w hw
      simp only [tableOf, List.map_cons, List.map_nil, List.mem_cons, List.not_mem_nil, or_false] at hw
      rcases hw with rfl
      · exact ⟨by decide, "java/lang/IllegalArgumentException", kw_999, by decide, by decide⟩) (by decide) (by decide) kw_917 mx_cast_3 (fun H locs q hJ => ?_)
      refine lv_astore (lv' := [(4, .ref q), (0, .ref a0), (1, .int p1), (2, .int p2), (3, .ref a3)]) hx hb dL_gear_17 hl (by decide) rfl (fun ls hl => ?_)
      refine lv_iconst (v := 2) hx hb dL_gear_19 (by decide) ?_
      exact my_iret hx hb hr hlocks hJ hf dL_gear_20
    rw [if_neg c8] at hf
    cases hf
  refine mx_callV (As := [.int p1, .int p2]) (rest := [.int (0 : Int32), .ref a3]) hx hb hml hts hown hK hJ rfl rfl (ci := 11) rfl e2 (c_X11_gear l G P a0 p1 p2 σ x6 σ3 e4) me_X11_gear kw_1445 kw_1446 kw_1444 (Nat.le_of_ble_eq_true rfl) (Nat.le_of_ble_eq_true rfl) rfl hl.1 rfl (Nat.le_of_ble_eq_true rfl) dL_gear_5 (fun H locs hJ => ?_)
  refine lv_i2l hx hb dL_gear_8 rfl ?_
  obtain ⟨σ9, e10, hf⟩ := mb0 hf
  refine mx_sL hx hb hK hJ e10 dL_gear_9 (fun H locs hJ => ?_)
  refine lv_goto (tgt := 21) hx hb dL_gear_10 (by decide) ?_
  refine lv_iconst (v := 0) hx hb dL_gear_21 (by decide) ?_
  exact my_iret hx hb hr hlocks hJ hf dL_gear_22
set_option maxHeartbeats 4000000 in
set_option maxRecDepth 100000 in
theorem c_L_mesh (l : Launch) (hlt : l.stackTraces = false) (G : mx_G) (P : mx_P) (a0 : Nat) (p1 : Int32) (p2 : Int32) (p3 : Int32) (p4 : Int32) (a5 : Nat) (σ : mx_S) (r : Int32) (σ' : mx_S) (hf : f_L_mesh P a0 p1 p2 p3 p4 a5 σ = some (r, σ')) : mxz σ ≤ mpc P → mxu σ ≤ mps P → mx_MW l yL_mesh cL_mesh 7 (some .int) [(0, 14, 17, 19), (0, 14, 21, 35), (0, 14, 25, 45), (0, 14, 29, 13)] 8 127 G P [.ref a0, .int p1, .int p2, .int p3, .int p4, .ref a5] σ (some (.int r)) σ' := by
  intro hcap hcau
  refine mx_ofWW (by decide +kernel) hcap hcau (Nat.le_of_ble_eq_true rfl) ?_
  intro p e s m below meth c hx hb hr hml hts hown hlocks hname htb hK hJ ls hl
  have hz0 := hJ.2.1
  have hown : s.vm.findClass RLn = some m.cls := hown
  have hl : lv_has ls 7 [(0, .ref a0), (1, .int p1), (2, .int p2), (3, .int p3), (4, .int p4), (5, .ref a5)] := hl
  unfold f_L_mesh at hf
  refine lv_aload hx hb dL_mesh_0 (lv_at hl 5 rfl) ?_
  refine lv_iconst (v := 0) hx hb dL_mesh_2 (by decide) ?_
  refine lv_aload_n hx hb dL_mesh_3 rfl (lv_at hl 0 rfl) ?_
  refine lv_iload_n hx hb dL_mesh_4 rfl (lv_at hl 1 rfl) ?_
  refine lv_iload_n hx hb dL_mesh_5 rfl (lv_at hl 2 rfl) ?_
  refine lv_iload_n hx hb dL_mesh_6 rfl (lv_at hl 3 rfl) ?_
  refine lv_iload hx hb dL_mesh_7 (lv_at hl 4 rfl) ?_
  obtain ⟨i1, e2, hf⟩ := mb0 hf
  rcases mtry hf with ⟨E, σ5, e4, hf⟩ | ⟨x6, σ3, e4, hf⟩
  · skip
    by_cases c7 : E = "java/lang/IllegalArgumentException"
    · subst c7
      rw [if_pos rfl] at hf
      refine mx_callVC (As := [.int p1, .int p2, .int p3, .int p4]) (rest := [.int (0 : Int32), .ref a5]) hx hb hml hts hown hK hJ rfl rfl (ci := 11) rfl e2 (ct_X11_mesh l hlt G P a0 p1 p2 p3 p4 σ _ σ5 e4) me_X11_mesh kw_1459 kw_1460 kw_1458 (Nat.le_of_ble_eq_true rfl) (Nat.le_of_ble_eq_true rfl) rfl hl.1 rfl (Nat.le_of_ble_eq_true rfl) dL_mesh_9 (by decide) (tableOf []) ⟨0, 14, 17, 19⟩ (tableOf [(0, 14, 21, 35), (0, 14, 25, 45), (0, 14, 29, 13)]) htb (fun w hw => nomatch hw) (by decide) (by decide) kw_999 mx_cast_0 (fun H locs q hJ => ?_)
      refine lv_astore (lv' := [(6, .ref q), (0, .ref a0), (1, .int p1), (2, .int p2), (3, .int p3), (4, .int p4), (5, .ref a5)]) hx hb dL_mesh_17 hl (by decide) rfl (fun ls hl => ?_)
      refine lv_iconst (v := 1) hx hb dL_mesh_19 (by decide) ?_
      exact my_iret hx hb hr hlocks hJ hf dL_mesh_20
    rw [if_neg c7] at hf
    by_cases c8 : E = "java/util/NoSuchElementException"
    · subst c8
      rw [if_pos rfl] at hf
      refine mx_callVC (As := [.int p1, .int p2, .int p3, .int p4]) (rest := [.int (0 : Int32), .ref a5]) hx hb hml hts hown hK hJ rfl rfl (ci := 11) rfl e2 (ct_X11_mesh l hlt G P a0 p1 p2 p3 p4 σ _ σ5 e4) me_X11_mesh kw_1459 kw_1460 kw_1458 (Nat.le_of_ble_eq_true rfl) (Nat.le_of_ble_eq_true rfl) rfl hl.1 rfl (Nat.le_of_ble_eq_true rfl) dL_mesh_9 (by decide) (tableOf [(0, 14, 17, 19)]) ⟨0, 14, 21, 35⟩ (tableOf [(0, 14, 25, 45), (0, 14, 29, 13)]) htb (by
      intro w hw
      simp only [tableOf, List.map_cons, List.map_nil, List.mem_cons, List.not_mem_nil, or_false] at hw
      rcases hw with rfl
      · exact ⟨by decide, "java/lang/IllegalArgumentException", kw_999, by decide, by decide⟩) (by decide) (by decide) kw_1234 mx_cast_1 (fun H locs q hJ => ?_)
      refine lv_astore (lv' := [(6, .ref q), (0, .ref a0), (1, .int p1), (2, .int p2), (3, .int p3), (4, .int p4), (5, .ref a5)]) hx hb dL_mesh_21 hl (by decide) rfl (fun ls hl => ?_)
      refine lv_iconst (v := 2) hx hb dL_mesh_23 (by decide) ?_
      exact my_iret hx hb hr hlocks hJ hf dL_mesh_24
    rw [if_neg c8] at hf
    by_cases c9 : E = "java/lang/IllegalStateException"
    · subst c9
      rw [if_pos rfl] at hf
      refine mx_callVC (As := [.int p1, .int p2, .int p3, .int p4]) (rest := [.int (0 : Int32), .ref a5]) hx hb hml hts hown hK hJ rfl rfl (ci := 11) rfl e2 (ct_X11_mesh l hlt G P a0 p1 p2 p3 p4 σ _ σ5 e4) me_X11_mesh kw_1459 kw_1460 kw_1458 (Nat.le_of_ble_eq_true rfl) (Nat.le_of_ble_eq_true rfl) rfl hl.1 rfl (Nat.le_of_ble_eq_true rfl) dL_mesh_9 (by decide) (tableOf [(0, 14, 17, 19), (0, 14, 21, 35)]) ⟨0, 14, 25, 45⟩ (tableOf [(0, 14, 29, 13)]) htb (by
      intro w hw
      simp only [tableOf, List.map_cons, List.map_nil, List.mem_cons, List.not_mem_nil, or_false] at hw
      rcases hw with rfl | rfl
      · exact ⟨by decide, "java/lang/IllegalArgumentException", kw_999, by decide, by decide⟩
      · exact ⟨by decide, "java/util/NoSuchElementException", kw_1234, by decide, by decide⟩) (by decide) (by decide) kw_1279 mx_cast_2 (fun H locs q hJ => ?_)
      refine lv_astore (lv' := [(6, .ref q), (0, .ref a0), (1, .int p1), (2, .int p2), (3, .int p3), (4, .int p4), (5, .ref a5)]) hx hb dL_mesh_25 hl (by decide) rfl (fun ls hl => ?_)
      refine lv_iconst (v := 3) hx hb dL_mesh_27 (by decide) ?_
      exact my_iret hx hb hr hlocks hJ hf dL_mesh_28
    rw [if_neg c9] at hf
    by_cases c10 : E = "java/lang/IndexOutOfBoundsException"
    · subst c10
      rw [if_pos rfl] at hf
      refine mx_callVC (As := [.int p1, .int p2, .int p3, .int p4]) (rest := [.int (0 : Int32), .ref a5]) hx hb hml hts hown hK hJ rfl rfl (ci := 11) rfl e2 (ct_X11_mesh l hlt G P a0 p1 p2 p3 p4 σ _ σ5 e4) me_X11_mesh kw_1459 kw_1460 kw_1458 (Nat.le_of_ble_eq_true rfl) (Nat.le_of_ble_eq_true rfl) rfl hl.1 rfl (Nat.le_of_ble_eq_true rfl) dL_mesh_9 (by decide) (tableOf [(0, 14, 17, 19), (0, 14, 21, 35), (0, 14, 25, 45)]) ⟨0, 14, 29, 13⟩ (tableOf []) htb (by
      intro w hw
      simp only [tableOf, List.map_cons, List.map_nil, List.mem_cons, List.not_mem_nil, or_false] at hw
      rcases hw with rfl | rfl | rfl
      · exact ⟨by decide, "java/lang/IllegalArgumentException", kw_999, by decide, by decide⟩
      · exact ⟨by decide, "java/util/NoSuchElementException", kw_1234, by decide, by decide⟩
      · exact ⟨by decide, "java/lang/IllegalStateException", kw_1279, by decide, by decide⟩) (by decide) (by decide) kw_917 mx_cast_3 (fun H locs q hJ => ?_)
      refine lv_astore (lv' := [(6, .ref q), (0, .ref a0), (1, .int p1), (2, .int p2), (3, .int p3), (4, .int p4), (5, .ref a5)]) hx hb dL_mesh_29 hl (by decide) rfl (fun ls hl => ?_)
      refine lv_iconst (v := 4) hx hb dL_mesh_31 (by decide) ?_
      exact my_iret hx hb hr hlocks hJ hf dL_mesh_32
    rw [if_neg c10] at hf
    cases hf
  refine mx_callV (As := [.int p1, .int p2, .int p3, .int p4]) (rest := [.int (0 : Int32), .ref a5]) hx hb hml hts hown hK hJ rfl rfl (ci := 11) rfl e2 (c_X11_mesh l G P a0 p1 p2 p3 p4 σ x6 σ3 e4) me_X11_mesh kw_1459 kw_1460 kw_1458 (Nat.le_of_ble_eq_true rfl) (Nat.le_of_ble_eq_true rfl) rfl hl.1 rfl (Nat.le_of_ble_eq_true rfl) dL_mesh_9 (fun H locs hJ => ?_)
  refine lv_i2l hx hb dL_mesh_12 rfl ?_
  obtain ⟨σ11, e12, hf⟩ := mb0 hf
  refine mx_sL hx hb hK hJ e12 dL_mesh_13 (fun H locs hJ => ?_)
  refine lv_goto (tgt := 33) hx hb dL_mesh_14 (by decide) ?_
  refine lv_iconst (v := 0) hx hb dL_mesh_33 (by decide) ?_
  exact my_iret hx hb hr hlocks hJ hf dL_mesh_34
set_option maxHeartbeats 4000000 in
set_option maxRecDepth 100000 in
theorem c_L_shaft (l : Launch) (hlt : l.stackTraces = false) (G : mx_G) (P : mx_P) (a0 : Nat) (p1 : Int32) (p2 : Int32) (p3 : Int32) (p4 : Int32) (σ : mx_S) (r : Int32) (σ' : mx_S) (hf : f_L_shaft P a0 p1 p2 p3 p4 σ = some (r, σ')) : mxz σ ≤ mpc P → mxu σ ≤ mps P → mx_MW l yL_shaft cL_shaft 6 (some .int) [(0, 9, 12, 19)] 8 127 G P [.ref a0, .int p1, .int p2, .int p3, .int p4] σ (some (.int r)) σ' := by
  intro hcap hcau
  refine mx_ofWW (by decide +kernel) hcap hcau (Nat.le_of_ble_eq_true rfl) ?_
  intro p e s m below meth c hx hb hr hml hts hown hlocks hname htb hK hJ ls hl
  have hz0 := hJ.2.1
  have hown : s.vm.findClass RLn = some m.cls := hown
  have hl : lv_has ls 6 [(0, .ref a0), (1, .int p1), (2, .int p2), (3, .int p3), (4, .int p4)] := hl
  unfold f_L_shaft at hf
  refine lv_aload_n hx hb dL_shaft_0 rfl (lv_at hl 0 rfl) ?_
  refine lv_iload_n hx hb dL_shaft_1 rfl (lv_at hl 1 rfl) ?_
  refine lv_iload_n hx hb dL_shaft_2 rfl (lv_at hl 2 rfl) ?_
  refine lv_iload_n hx hb dL_shaft_3 rfl (lv_at hl 3 rfl) ?_
  refine lv_iload hx hb dL_shaft_4 (lv_at hl 4 rfl) ?_
  obtain ⟨i1, e2, hf⟩ := mb0 hf
  rcases mtry0 hf with ⟨E, σ5, e4, hf⟩ | ⟨σ3, e4, hf⟩
  · skip
    by_cases c6 : E = "java/lang/IllegalArgumentException"
    · subst c6
      rw [if_pos rfl] at hf
      refine mx_callVC (As := [.int p1, .int p2, .int p3, .int p4]) (rest := []) hx hb hml hts hown hK hJ rfl rfl (ci := 11) rfl e2 (ct_X11_shaft l hlt G P a0 p1 p2 p3 p4 σ _ σ5 e4) me_X11_shaft kw_1470 kw_1471 kw_1469 (Nat.le_of_ble_eq_true rfl) (Nat.le_of_ble_eq_true rfl) rfl hl.1 rfl (Nat.le_of_ble_eq_true rfl) dL_shaft_6 (by decide) (tableOf []) ⟨0, 9, 12, 19⟩ (tableOf []) htb (fun w hw => nomatch hw) (by decide) (by decide) kw_999 mx_cast_0 (fun H locs q hJ => ?_)
      refine lv_astore (lv' := [(5, .ref q), (0, .ref a0), (1, .int p1), (2, .int p2), (3, .int p3), (4, .int p4)]) hx hb dL_shaft_12 hl (by decide) rfl (fun ls hl => ?_)
      refine lv_iconst (v := 1) hx hb dL_shaft_14 (by decide) ?_
      exact my_iret hx hb hr hlocks hJ hf dL_shaft_15
    rw [if_neg c6] at hf
    cases hf
  refine mx_callV (As := [.int p1, .int p2, .int p3, .int p4]) (rest := []) hx hb hml hts hown hK hJ rfl rfl (ci := 11) rfl e2 (c_X11_shaft l G P a0 p1 p2 p3 p4 σ σ3 e4) me_X11_shaft kw_1470 kw_1471 kw_1469 (Nat.le_of_ble_eq_true rfl) (Nat.le_of_ble_eq_true rfl) rfl hl.1 rfl (Nat.le_of_ble_eq_true rfl) dL_shaft_6 (fun H locs hJ => ?_)
  refine lv_goto (tgt := 16) hx hb dL_shaft_9 (by decide) ?_
  refine lv_iconst (v := 0) hx hb dL_shaft_16 (by decide) ?_
  exact my_iret hx hb hr hlocks hJ hf dL_shaft_17
set_option maxHeartbeats 4000000 in
set_option maxRecDepth 100000 in
theorem c_L_turns (l : Launch) (hlt : l.stackTraces = false) (G : mx_G) (P : mx_P) (a0 : Nat) (p1 : Int32) (p2 : Int32) (a3 : Nat) (σ : mx_S) (r : Int32) (σ' : mx_S) (hf : f_L_turns P a0 p1 p2 a3 σ = some (r, σ')) : mxz σ ≤ mpc P → mxu σ ≤ mps P → mx_MW l yL_turns cL_turns 5 (some .int) [(0, 9, 12, 19), (0, 9, 16, 35), (0, 9, 20, 45)] 8 199 G P [.ref a0, .int p1, .int p2, .ref a3] σ (some (.int r)) σ' := by
  intro hcap hcau
  refine mx_ofWW (by decide +kernel) hcap hcau (Nat.le_of_ble_eq_true rfl) ?_
  intro p e s m below meth c hx hb hr hml hts hown hlocks hname htb hK hJ ls hl
  have hz0 := hJ.2.1
  have hown : s.vm.findClass RLn = some m.cls := hown
  have hl : lv_has ls 5 [(0, .ref a0), (1, .int p1), (2, .int p2), (3, .ref a3)] := hl
  unfold f_L_turns at hf
  refine lv_aload_n hx hb dL_turns_0 rfl (lv_at hl 3 rfl) ?_
  refine lv_iconst (v := 0) hx hb dL_turns_1 (by decide) ?_
  refine lv_aload_n hx hb dL_turns_2 rfl (lv_at hl 0 rfl) ?_
  refine lv_iload_n hx hb dL_turns_3 rfl (lv_at hl 1 rfl) ?_
  refine lv_iload_n hx hb dL_turns_4 rfl (lv_at hl 2 rfl) ?_
  obtain ⟨i1, e2, hf⟩ := mb0 hf
  rcases mtry hf with ⟨E, σ5, e4, hf⟩ | ⟨x6, σ3, e4, hf⟩
  · skip
    by_cases c7 : E = "java/lang/IllegalArgumentException"
    · subst c7
      rw [if_pos rfl] at hf
      refine mx_callVC (As := [.int p1, .int p2]) (rest := [.int (0 : Int32), .ref a3]) hx hb hml hts hown hK hJ rfl rfl (ci := 11) rfl e2 (ct_X11_turns l hlt G P a0 p1 p2 σ _ σ5 e4) me_X11_turns kw_1481 kw_1482 kw_1480 (Nat.le_of_ble_eq_true rfl) (Nat.le_of_ble_eq_true rfl) rfl hl.1 rfl (Nat.le_of_ble_eq_true rfl) dL_turns_5 (by decide) (tableOf []) ⟨0, 9, 12, 19⟩ (tableOf [(0, 9, 16, 35), (0, 9, 20, 45)]) htb (fun w hw => nomatch hw) (by decide) (by decide) kw_999 mx_cast_0 (fun H locs q hJ => ?_)
      refine lv_astore (lv' := [(4, .ref q), (0, .ref a0), (1, .int p1), (2, .int p2), (3, .ref a3)]) hx hb dL_turns_12 hl (by decide) rfl (fun ls hl => ?_)
      refine lv_iconst (v := 1) hx hb dL_turns_14 (by decide) ?_
      exact my_iret hx hb hr hlocks hJ hf dL_turns_15
    rw [if_neg c7] at hf
    by_cases c8 : E = "java/util/NoSuchElementException"
    · subst c8
      rw [if_pos rfl] at hf
      refine mx_callVC (As := [.int p1, .int p2]) (rest := [.int (0 : Int32), .ref a3]) hx hb hml hts hown hK hJ rfl rfl (ci := 11) rfl e2 (ct_X11_turns l hlt G P a0 p1 p2 σ _ σ5 e4) me_X11_turns kw_1481 kw_1482 kw_1480 (Nat.le_of_ble_eq_true rfl) (Nat.le_of_ble_eq_true rfl) rfl hl.1 rfl (Nat.le_of_ble_eq_true rfl) dL_turns_5 (by decide) (tableOf [(0, 9, 12, 19)]) ⟨0, 9, 16, 35⟩ (tableOf [(0, 9, 20, 45)]) htb (by
      intro w hw
      simp only [tableOf, List.map_cons, List.map_nil, List.mem_cons, List.not_mem_nil, or_false] at hw
      rcases hw with rfl
      · exact ⟨by decide, "java/lang/IllegalArgumentException", kw_999, by decide, by decide⟩) (by decide) (by decide) kw_1234 mx_cast_1 (fun H locs q hJ => ?_)
      refine lv_astore (lv' := [(4, .ref q), (0, .ref a0), (1, .int p1), (2, .int p2), (3, .ref a3)]) hx hb dL_turns_16 hl (by decide) rfl (fun ls hl => ?_)
      refine lv_iconst (v := 2) hx hb dL_turns_18 (by decide) ?_
      exact my_iret hx hb hr hlocks hJ hf dL_turns_19
    rw [if_neg c8] at hf
    by_cases c9 : E = "java/lang/IllegalStateException"
    · subst c9
      rw [if_pos rfl] at hf
      refine mx_callVC (As := [.int p1, .int p2]) (rest := [.int (0 : Int32), .ref a3]) hx hb hml hts hown hK hJ rfl rfl (ci := 11) rfl e2 (ct_X11_turns l hlt G P a0 p1 p2 σ _ σ5 e4) me_X11_turns kw_1481 kw_1482 kw_1480 (Nat.le_of_ble_eq_true rfl) (Nat.le_of_ble_eq_true rfl) rfl hl.1 rfl (Nat.le_of_ble_eq_true rfl) dL_turns_5 (by decide) (tableOf [(0, 9, 12, 19), (0, 9, 16, 35)]) ⟨0, 9, 20, 45⟩ (tableOf []) htb (by
      intro w hw
      simp only [tableOf, List.map_cons, List.map_nil, List.mem_cons, List.not_mem_nil, or_false] at hw
      rcases hw with rfl | rfl
      · exact ⟨by decide, "java/lang/IllegalArgumentException", kw_999, by decide, by decide⟩
      · exact ⟨by decide, "java/util/NoSuchElementException", kw_1234, by decide, by decide⟩) (by decide) (by decide) kw_1279 mx_cast_2 (fun H locs q hJ => ?_)
      refine lv_astore (lv' := [(4, .ref q), (0, .ref a0), (1, .int p1), (2, .int p2), (3, .ref a3)]) hx hb dL_turns_20 hl (by decide) rfl (fun ls hl => ?_)
      refine lv_iconst (v := 3) hx hb dL_turns_22 (by decide) ?_
      exact my_iret hx hb hr hlocks hJ hf dL_turns_23
    rw [if_neg c9] at hf
    cases hf
  refine mx_callV (As := [.int p1, .int p2]) (rest := [.int (0 : Int32), .ref a3]) hx hb hml hts hown hK hJ rfl rfl (ci := 11) rfl e2 (c_X11_turns l G P a0 p1 p2 σ x6 σ3 e4) me_X11_turns kw_1481 kw_1482 kw_1480 (Nat.le_of_ble_eq_true rfl) (Nat.le_of_ble_eq_true rfl) rfl hl.1 rfl (Nat.le_of_ble_eq_true rfl) dL_turns_5 (fun H locs hJ => ?_)
  obtain ⟨σ10, e11, hf⟩ := mb0 hf
  refine mx_sL hx hb hK hJ e11 dL_turns_8 (fun H locs hJ => ?_)
  refine lv_goto (tgt := 24) hx hb dL_turns_9 (by decide) ?_
  refine lv_iconst (v := 0) hx hb dL_turns_24 (by decide) ?_
  exact my_iret hx hb hr hlocks hJ hf dL_turns_25
set_option maxHeartbeats 4000000 in
set_option maxRecDepth 100000 in
theorem c_L_interference (l : Launch) (hlt : l.stackTraces = false) (G : mx_G) (P : mx_P) (a0 : Nat) (p1 : Int32) (p2 : Int32) (p3 : Int32) (a4 : Nat) (σ : mx_S) (r : Int32) (σ' : mx_S) (hf : f_L_interference P a0 p1 p2 p3 a4 σ = some (r, σ')) : mxz σ ≤ mpc P → mxu σ ≤ mps P → mx_MW l yL_interference cL_interference 6 (some .int) [(0, 12, 15, 35)] 8 124 G P [.ref a0, .int p1, .int p2, .int p3, .ref a4] σ (some (.int r)) σ' := by
  intro hcap hcau
  refine mx_ofWW (by decide +kernel) hcap hcau (Nat.le_of_ble_eq_true rfl) ?_
  intro p e s m below meth c hx hb hr hml hts hown hlocks hname htb hK hJ ls hl
  have hz0 := hJ.2.1
  have hown : s.vm.findClass RLn = some m.cls := hown
  have hl : lv_has ls 6 [(0, .ref a0), (1, .int p1), (2, .int p2), (3, .int p3), (4, .ref a4)] := hl
  unfold f_L_interference at hf
  refine lv_aload hx hb dL_interference_0 (lv_at hl 4 rfl) ?_
  refine lv_iconst (v := 0) hx hb dL_interference_2 (by decide) ?_
  refine lv_aload_n hx hb dL_interference_3 rfl (lv_at hl 0 rfl) ?_
  refine lv_iload_n hx hb dL_interference_4 rfl (lv_at hl 1 rfl) ?_
  refine lv_iload_n hx hb dL_interference_5 rfl (lv_at hl 2 rfl) ?_
  refine lv_iload_n hx hb dL_interference_6 rfl (lv_at hl 3 rfl) ?_
  obtain ⟨i1, e2, hf⟩ := mb0 hf
  rcases mtry hf with ⟨E, σ5, e4, hf⟩ | ⟨x6, σ3, e4, hf⟩
  · skip
    by_cases c7 : E = "java/util/NoSuchElementException"
    · subst c7
      rw [if_pos rfl] at hf
      refine mx_callVC (As := [.int p1, .int p2, .int p3]) (rest := [.int (0 : Int32), .ref a4]) hx hb hml hts hown hK hJ rfl rfl (ci := 11) rfl e2 (ct_X11_interference l hlt G P a0 p1 p2 p3 σ _ σ5 e4) me_X11_interference kw_1496 kw_1497 kw_1495 (Nat.le_of_ble_eq_true rfl) (Nat.le_of_ble_eq_true rfl) rfl hl.1 rfl (Nat.le_of_ble_eq_true rfl) dL_interference_7 (by decide) (tableOf []) ⟨0, 12, 15, 35⟩ (tableOf []) htb (fun w hw => nomatch hw) (by decide) (by decide) kw_1234 mx_cast_1 (fun H locs q hJ => ?_)
      refine lv_astore (lv' := [(5, .ref q), (0, .ref a0), (1, .int p1), (2, .int p2), (3, .int p3), (4, .ref a4)]) hx hb dL_interference_15 hl (by decide) rfl (fun ls hl => ?_)
      refine lv_iconst (v := 1) hx hb dL_interference_17 (by decide) ?_
      exact my_iret hx hb hr hlocks hJ hf dL_interference_18
    rw [if_neg c7] at hf
    cases hf
  refine mx_callV (As := [.int p1, .int p2, .int p3]) (rest := [.int (0 : Int32), .ref a4]) hx hb hml hts hown hK hJ rfl rfl (ci := 11) rfl e2 (c_X11_interference l G P a0 p1 p2 p3 σ x6 σ3 e4) me_X11_interference kw_1496 kw_1497 kw_1495 (Nat.le_of_ble_eq_true rfl) (Nat.le_of_ble_eq_true rfl) rfl hl.1 rfl (Nat.le_of_ble_eq_true rfl) dL_interference_7 (fun H locs hJ => ?_)
  refine lv_i2l hx hb dL_interference_10 rfl ?_
  obtain ⟨σ8, e9, hf⟩ := mb0 hf
  refine mx_sL hx hb hK hJ e9 dL_interference_11 (fun H locs hJ => ?_)
  refine lv_goto (tgt := 19) hx hb dL_interference_12 (by decide) ?_
  refine lv_iconst (v := 0) hx hb dL_interference_19 (by decide) ?_
  exact my_iret hx hb hr hlocks hJ hf dL_interference_20
set_option maxHeartbeats 4000000 in
set_option maxRecDepth 100000 in
theorem c_L_trains (l : Launch) (hlt : l.stackTraces = false) (G : mx_G) (P : mx_P) (a0 : Nat) (p1 : Int32) (p2 : Int32) (p3 : Int32) (p4 : Int32) (a5 : Nat) (σ : mx_S) (r : Int32) (σ' : mx_S) (hf : f_L_trains P a0 p1 p2 p3 p4 a5 σ = some (r, σ')) : mxz σ ≤ mpc P → mxu σ ≤ mps P → mx_MW l yL_trains cL_trains 7 (some .int) [(0, 14, 17, 19)] 8 127 G P [.ref a0, .int p1, .int p2, .int p3, .int p4, .ref a5] σ (some (.int r)) σ' := by
  intro hcap hcau
  refine mx_ofWW (by decide +kernel) hcap hcau (Nat.le_of_ble_eq_true rfl) ?_
  intro p e s m below meth c hx hb hr hml hts hown hlocks hname htb hK hJ ls hl
  have hz0 := hJ.2.1
  have hown : s.vm.findClass RLn = some m.cls := hown
  have hl : lv_has ls 7 [(0, .ref a0), (1, .int p1), (2, .int p2), (3, .int p3), (4, .int p4), (5, .ref a5)] := hl
  unfold f_L_trains at hf
  refine lv_aload hx hb dL_trains_0 (lv_at hl 5 rfl) ?_
  refine lv_iconst (v := 0) hx hb dL_trains_2 (by decide) ?_
  refine lv_aload_n hx hb dL_trains_3 rfl (lv_at hl 0 rfl) ?_
  refine lv_iload_n hx hb dL_trains_4 rfl (lv_at hl 1 rfl) ?_
  refine lv_iload_n hx hb dL_trains_5 rfl (lv_at hl 2 rfl) ?_
  refine lv_iload_n hx hb dL_trains_6 rfl (lv_at hl 3 rfl) ?_
  refine lv_iload hx hb dL_trains_7 (lv_at hl 4 rfl) ?_
  obtain ⟨i1, e2, hf⟩ := mb0 hf
  rcases mtry hf with ⟨E, σ5, e4, hf⟩ | ⟨x6, σ3, e4, hf⟩
  · skip
    by_cases c7 : E = "java/lang/IllegalArgumentException"
    · subst c7
      rw [if_pos rfl] at hf
      refine mx_callVC (As := [.int p1, .int p2, .int p3, .int p4]) (rest := [.int (0 : Int32), .ref a5]) hx hb hml hts hown hK hJ rfl rfl (ci := 11) rfl e2 (ct_X11_trains l hlt G P a0 p1 p2 p3 p4 σ _ σ5 e4) me_X11_trains kw_1518 kw_1519 kw_1517 (Nat.le_of_ble_eq_true rfl) (Nat.le_of_ble_eq_true rfl) rfl hl.1 rfl (Nat.le_of_ble_eq_true rfl) dL_trains_9 (by decide) (tableOf []) ⟨0, 14, 17, 19⟩ (tableOf []) htb (fun w hw => nomatch hw) (by decide) (by decide) kw_999 mx_cast_0 (fun H locs q hJ => ?_)
      refine lv_astore (lv' := [(6, .ref q), (0, .ref a0), (1, .int p1), (2, .int p2), (3, .int p3), (4, .int p4), (5, .ref a5)]) hx hb dL_trains_17 hl (by decide) rfl (fun ls hl => ?_)
      refine lv_iconst (v := 1) hx hb dL_trains_19 (by decide) ?_
      exact my_iret hx hb hr hlocks hJ hf dL_trains_20
    rw [if_neg c7] at hf
    cases hf
  refine mx_callV (As := [.int p1, .int p2, .int p3, .int p4]) (rest := [.int (0 : Int32), .ref a5]) hx hb hml hts hown hK hJ rfl rfl (ci := 11) rfl e2 (c_X11_trains l G P a0 p1 p2 p3 p4 σ x6 σ3 e4) me_X11_trains kw_1518 kw_1519 kw_1517 (Nat.le_of_ble_eq_true rfl) (Nat.le_of_ble_eq_true rfl) rfl hl.1 rfl (Nat.le_of_ble_eq_true rfl) dL_trains_9 (fun H locs hJ => ?_)
  refine lv_i2l hx hb dL_trains_12 rfl ?_
  obtain ⟨σ8, e9, hf⟩ := mb0 hf
  refine mx_sL hx hb hK hJ e9 dL_trains_13 (fun H locs hJ => ?_)
  refine lv_goto (tgt := 21) hx hb dL_trains_14 (by decide) ?_
  refine lv_iconst (v := 0) hx hb dL_trains_21 (by decide) ?_
  exact my_iret hx hb hr hlocks hJ hf dL_trains_22
set_option maxHeartbeats 4000000 in
set_option maxRecDepth 100000 in
theorem c_L_train (l : Launch) (hlt : l.stackTraces = false) (G : mx_G) (P : mx_P) (a0 : Nat) (p1 : Int32) (p2 : Int32) (a3 : Nat) (σ : mx_S) (r : Int32) (σ' : mx_S) (hf : f_L_train P a0 p1 p2 a3 σ = some (r, σ')) : mxz σ ≤ mpc P → mxu σ ≤ mps P → mx_MW l yL_train cL_train 5 (some .int) [(0, 10, 13, 19), (0, 10, 17, 35)] 8 125 G P [.ref a0, .int p1, .int p2, .ref a3] σ (some (.int r)) σ' := by
  intro hcap hcau
  refine mx_ofWW (by decide +kernel) hcap hcau (Nat.le_of_ble_eq_true rfl) ?_
  intro p e s m below meth c hx hb hr hml hts hown hlocks hname htb hK hJ ls hl
  have hz0 := hJ.2.1
  have hown : s.vm.findClass RLn = some m.cls := hown
  have hl : lv_has ls 5 [(0, .ref a0), (1, .int p1), (2, .int p2), (3, .ref a3)] := hl
  unfold f_L_train at hf
  refine lv_aload_n hx hb dL_train_0 rfl (lv_at hl 3 rfl) ?_
  refine lv_iconst (v := 0) hx hb dL_train_1 (by decide) ?_
  refine lv_aload_n hx hb dL_train_2 rfl (lv_at hl 0 rfl) ?_
  refine lv_iload_n hx hb dL_train_3 rfl (lv_at hl 1 rfl) ?_
  refine lv_iload_n hx hb dL_train_4 rfl (lv_at hl 2 rfl) ?_
  obtain ⟨i1, e2, hf⟩ := mb0 hf
  rcases mtry hf with ⟨E, σ5, e4, hf⟩ | ⟨x6, σ3, e4, hf⟩
  · skip
    by_cases c7 : E = "java/lang/IllegalArgumentException"
    · subst c7
      rw [if_pos rfl] at hf
      refine mx_callVC (As := [.int p1, .int p2]) (rest := [.int (0 : Int32), .ref a3]) hx hb hml hts hown hK hJ rfl rfl (ci := 11) rfl e2 (ct_X11_train l hlt G P a0 p1 p2 σ _ σ5 e4) me_X11_train kw_1537 kw_1538 kw_1536 (Nat.le_of_ble_eq_true rfl) (Nat.le_of_ble_eq_true rfl) rfl hl.1 rfl (Nat.le_of_ble_eq_true rfl) dL_train_5 (by decide) (tableOf []) ⟨0, 10, 13, 19⟩ (tableOf [(0, 10, 17, 35)]) htb (fun w hw => nomatch hw) (by decide) (by decide) kw_999 mx_cast_0 (fun H locs q hJ => ?_)
      refine lv_astore (lv' := [(4, .ref q), (0, .ref a0), (1, .int p1), (2, .int p2), (3, .ref a3)]) hx hb dL_train_13 hl (by decide) rfl (fun ls hl => ?_)
      refine lv_iconst (v := 1) hx hb dL_train_15 (by decide) ?_
      exact my_iret hx hb hr hlocks hJ hf dL_train_16
    rw [if_neg c7] at hf
    by_cases c8 : E = "java/util/NoSuchElementException"
    · subst c8
      rw [if_pos rfl] at hf
      refine mx_callVC (As := [.int p1, .int p2]) (rest := [.int (0 : Int32), .ref a3]) hx hb hml hts hown hK hJ rfl rfl (ci := 11) rfl e2 (ct_X11_train l hlt G P a0 p1 p2 σ _ σ5 e4) me_X11_train kw_1537 kw_1538 kw_1536 (Nat.le_of_ble_eq_true rfl) (Nat.le_of_ble_eq_true rfl) rfl hl.1 rfl (Nat.le_of_ble_eq_true rfl) dL_train_5 (by decide) (tableOf [(0, 10, 13, 19)]) ⟨0, 10, 17, 35⟩ (tableOf []) htb (by
      intro w hw
      simp only [tableOf, List.map_cons, List.map_nil, List.mem_cons, List.not_mem_nil, or_false] at hw
      rcases hw with rfl
      · exact ⟨by decide, "java/lang/IllegalArgumentException", kw_999, by decide, by decide⟩) (by decide) (by decide) kw_1234 mx_cast_1 (fun H locs q hJ => ?_)
      refine lv_astore (lv' := [(4, .ref q), (0, .ref a0), (1, .int p1), (2, .int p2), (3, .ref a3)]) hx hb dL_train_17 hl (by decide) rfl (fun ls hl => ?_)
      refine lv_iconst (v := 2) hx hb dL_train_19 (by decide) ?_
      exact my_iret hx hb hr hlocks hJ hf dL_train_20
    rw [if_neg c8] at hf
    cases hf
  refine mx_callV (As := [.int p1, .int p2]) (rest := [.int (0 : Int32), .ref a3]) hx hb hml hts hown hK hJ rfl rfl (ci := 11) rfl e2 (c_X11_train l G P a0 p1 p2 σ x6 σ3 e4) me_X11_train kw_1537 kw_1538 kw_1536 (Nat.le_of_ble_eq_true rfl) (Nat.le_of_ble_eq_true rfl) rfl hl.1 rfl (Nat.le_of_ble_eq_true rfl) dL_train_5 (fun H locs hJ => ?_)
  refine lv_i2l hx hb dL_train_8 rfl ?_
  obtain ⟨σ9, e10, hf⟩ := mb0 hf
  refine mx_sL hx hb hK hJ e10 dL_train_9 (fun H locs hJ => ?_)
  refine lv_goto (tgt := 21) hx hb dL_train_10 (by decide) ?_
  refine lv_iconst (v := 0) hx hb dL_train_21 (by decide) ?_
  exact my_iret hx hb hr hlocks hJ hf dL_train_22
set_option maxHeartbeats 4000000 in
set_option maxRecDepth 100000 in
theorem c_L_cam (l : Launch) (hlt : l.stackTraces = false) (G : mx_G) (P : mx_P) (a0 : Nat) (a1 : Nat) (σ : mx_S) (r : Int32) (σ' : mx_S) (hf : f_L_cam P a0 a1 σ = some (r, σ')) : mxz σ ≤ mpc P → mxu σ ≤ mps P → mx_MW l yL_cam cL_cam 3 (some .int) [(0, 8, 11, 25)] 9 199 G P [.ref a0, .ref a1] σ (some (.int r)) σ' := by
  intro hcap hcau
  refine mx_ofWW (by decide +kernel) hcap hcau (Nat.le_of_ble_eq_true rfl) ?_
  intro p e s m below meth c hx hb hr hml hts hown hlocks hname htb hK hJ ls hl
  have hz0 := hJ.2.1
  have hown : s.vm.findClass RLn = some m.cls := hown
  have hl : lv_has ls 3 [(0, .ref a0), (1, .ref a1)] := hl
  unfold f_L_cam at hf
  refine lv_aload_n hx hb dL_cam_0 rfl (lv_at hl 1 rfl) ?_
  refine lv_iconst (v := 0) hx hb dL_cam_1 (by decide) ?_
  refine lv_aload_n hx hb dL_cam_2 rfl (lv_at hl 0 rfl) ?_
  obtain ⟨i1, e2, hf⟩ := mb0 hf
  rcases mtry hf with ⟨E, σ5, e4, hf⟩ | ⟨x6, σ3, e4, hf⟩
  · skip
    by_cases c7 : E = "java/lang/UnsupportedOperationException"
    · subst c7
      rw [if_pos rfl] at hf
      refine mx_callVC (As := []) (rest := [.int (0 : Int32), .ref a1]) hx hb hml hts hown hK hJ rfl rfl (ci := 11) rfl e2 (ct_X11_cam l hlt G P a0 σ _ σ5 e4) me_X11_cam kw_1544 kw_1545 kw_1543 (Nat.le_of_ble_eq_true rfl) (Nat.le_of_ble_eq_true rfl) rfl hl.1 rfl (Nat.le_of_ble_eq_true rfl) dL_cam_3 (by decide) (tableOf []) ⟨0, 8, 11, 25⟩ (tableOf []) htb (fun w hw => nomatch hw) (by decide) (by decide) kw_1025 mx_cast_4 (fun H locs q hJ => ?_)
      refine lv_astore_n (lv' := [(2, .ref q), (0, .ref a0), (1, .ref a1)]) hx hb dL_cam_11 rfl hl (by decide) rfl (fun ls hl => ?_)
      refine lv_iconst (v := 1) hx hb dL_cam_12 (by decide) ?_
      exact my_iret hx hb hr hlocks hJ hf dL_cam_13
    rw [if_neg c7] at hf
    cases hf
  refine mx_callV (As := []) (rest := [.int (0 : Int32), .ref a1]) hx hb hml hts hown hK hJ rfl rfl (ci := 11) rfl e2 (c_X11_cam l G P a0 σ x6 σ3 e4) me_X11_cam kw_1544 kw_1545 kw_1543 (Nat.le_of_ble_eq_true rfl) (Nat.le_of_ble_eq_true rfl) rfl hl.1 rfl (Nat.le_of_ble_eq_true rfl) dL_cam_3 (fun H locs hJ => ?_)
  refine lv_i2l hx hb dL_cam_6 rfl ?_
  obtain ⟨σ8, e9, hf⟩ := mb0 hf
  refine mx_sL hx hb hK hJ e9 dL_cam_7 (fun H locs hJ => ?_)
  refine lv_goto (tgt := 14) hx hb dL_cam_8 (by decide) ?_
  refine lv_iconst (v := 0) hx hb dL_cam_14 (by decide) ?_
  exact my_iret hx hb hr hlocks hJ hf dL_cam_15
set_option maxHeartbeats 4000000 in
set_option maxRecDepth 100000 in
theorem c_L_lift (l : Launch) (hlt : l.stackTraces = false) (G : mx_G) (P : mx_P) (a0 : Nat) (p1 : Int32) (p2 : Int32) (p3 : Int32) (a4 : Nat) (σ : mx_S) (r : Int32) (σ' : mx_S) (hf : f_L_lift P a0 p1 p2 p3 a4 σ = some (r, σ')) : mxz σ ≤ mpc P → mxu σ ≤ mps P → mx_MW l yL_lift cL_lift 6 (some .int) [(0, 11, 14, 19), (0, 11, 18, 35), (0, 11, 22, 45)] 8 207 G P [.ref a0, .int p1, .int p2, .int p3, .ref a4] σ (some (.int r)) σ' := by
  intro hcap hcau
  refine mx_ofWW (by decide +kernel) hcap hcau (Nat.le_of_ble_eq_true rfl) ?_
  intro p e s m below meth c hx hb hr hml hts hown hlocks hname htb hK hJ ls hl
  have hz0 := hJ.2.1
  have hown : s.vm.findClass RLn = some m.cls := hown
  have hl : lv_has ls 6 [(0, .ref a0), (1, .int p1), (2, .int p2), (3, .int p3), (4, .ref a4)] := hl
  unfold f_L_lift at hf
  refine lv_aload hx hb dL_lift_0 (lv_at hl 4 rfl) ?_
  refine lv_iconst (v := 0) hx hb dL_lift_2 (by decide) ?_
  refine lv_aload_n hx hb dL_lift_3 rfl (lv_at hl 0 rfl) ?_
  refine lv_iload_n hx hb dL_lift_4 rfl (lv_at hl 1 rfl) ?_
  refine lv_iload_n hx hb dL_lift_5 rfl (lv_at hl 2 rfl) ?_
  refine lv_iload_n hx hb dL_lift_6 rfl (lv_at hl 3 rfl) ?_
  obtain ⟨i1, e2, hf⟩ := mb0 hf
  rcases mtry hf with ⟨E, σ5, e4, hf⟩ | ⟨x6, σ3, e4, hf⟩
  · skip
    by_cases c7 : E = "java/lang/IllegalArgumentException"
    · subst c7
      rw [if_pos rfl] at hf
      refine mx_callVC (As := [.int p1, .int p2, .int p3]) (rest := [.int (0 : Int32), .ref a4]) hx hb hml hts hown hK hJ rfl rfl (ci := 11) rfl e2 (ct_X11_lift l hlt G P a0 p1 p2 p3 σ _ σ5 e4) me_X11_lift kw_1575 kw_1576 kw_1574 (Nat.le_of_ble_eq_true rfl) (Nat.le_of_ble_eq_true rfl) rfl hl.1 rfl (Nat.le_of_ble_eq_true rfl) dL_lift_7 (by decide) (tableOf []) ⟨0, 11, 14, 19⟩ (tableOf [(0, 11, 18, 35), (0, 11, 22, 45)]) htb (fun w hw => nomatch hw) (by decide) (by decide) kw_999 mx_cast_0 (fun H locs q hJ => ?_)
      refine lv_astore (lv' := [(5, .ref q), (0, .ref a0), (1, .int p1), (2, .int p2), (3, .int p3), (4, .ref a4)]) hx hb dL_lift_14 hl (by decide) rfl (fun ls hl => ?_)
      refine lv_iconst (v := 1) hx hb dL_lift_16 (by decide) ?_
      exact my_iret hx hb hr hlocks hJ hf dL_lift_17
    rw [if_neg c7] at hf
    by_cases c8 : E = "java/util/NoSuchElementException"
    · subst c8
      rw [if_pos rfl] at hf
      refine mx_callVC (As := [.int p1, .int p2, .int p3]) (rest := [.int (0 : Int32), .ref a4]) hx hb hml hts hown hK hJ rfl rfl (ci := 11) rfl e2 (ct_X11_lift l hlt G P a0 p1 p2 p3 σ _ σ5 e4) me_X11_lift kw_1575 kw_1576 kw_1574 (Nat.le_of_ble_eq_true rfl) (Nat.le_of_ble_eq_true rfl) rfl hl.1 rfl (Nat.le_of_ble_eq_true rfl) dL_lift_7 (by decide) (tableOf [(0, 11, 14, 19)]) ⟨0, 11, 18, 35⟩ (tableOf [(0, 11, 22, 45)]) htb (by
      intro w hw
      simp only [tableOf, List.map_cons, List.map_nil, List.mem_cons, List.not_mem_nil, or_false] at hw
      rcases hw with rfl
      · exact ⟨by decide, "java/lang/IllegalArgumentException", kw_999, by decide, by decide⟩) (by decide) (by decide) kw_1234 mx_cast_1 (fun H locs q hJ => ?_)
      refine lv_astore (lv' := [(5, .ref q), (0, .ref a0), (1, .int p1), (2, .int p2), (3, .int p3), (4, .ref a4)]) hx hb dL_lift_18 hl (by decide) rfl (fun ls hl => ?_)
      refine lv_iconst (v := 2) hx hb dL_lift_20 (by decide) ?_
      exact my_iret hx hb hr hlocks hJ hf dL_lift_21
    rw [if_neg c8] at hf
    by_cases c9 : E = "java/lang/IllegalStateException"
    · subst c9
      rw [if_pos rfl] at hf
      refine mx_callVC (As := [.int p1, .int p2, .int p3]) (rest := [.int (0 : Int32), .ref a4]) hx hb hml hts hown hK hJ rfl rfl (ci := 11) rfl e2 (ct_X11_lift l hlt G P a0 p1 p2 p3 σ _ σ5 e4) me_X11_lift kw_1575 kw_1576 kw_1574 (Nat.le_of_ble_eq_true rfl) (Nat.le_of_ble_eq_true rfl) rfl hl.1 rfl (Nat.le_of_ble_eq_true rfl) dL_lift_7 (by decide) (tableOf [(0, 11, 14, 19), (0, 11, 18, 35)]) ⟨0, 11, 22, 45⟩ (tableOf []) htb (by
      intro w hw
      simp only [tableOf, List.map_cons, List.map_nil, List.mem_cons, List.not_mem_nil, or_false] at hw
      rcases hw with rfl | rfl
      · exact ⟨by decide, "java/lang/IllegalArgumentException", kw_999, by decide, by decide⟩
      · exact ⟨by decide, "java/util/NoSuchElementException", kw_1234, by decide, by decide⟩) (by decide) (by decide) kw_1279 mx_cast_2 (fun H locs q hJ => ?_)
      refine lv_astore (lv' := [(5, .ref q), (0, .ref a0), (1, .int p1), (2, .int p2), (3, .int p3), (4, .ref a4)]) hx hb dL_lift_22 hl (by decide) rfl (fun ls hl => ?_)
      refine lv_iconst (v := 3) hx hb dL_lift_24 (by decide) ?_
      exact my_iret hx hb hr hlocks hJ hf dL_lift_25
    rw [if_neg c9] at hf
    cases hf
  refine mx_callV (As := [.int p1, .int p2, .int p3]) (rest := [.int (0 : Int32), .ref a4]) hx hb hml hts hown hK hJ rfl rfl (ci := 11) rfl e2 (c_X11_lift l G P a0 p1 p2 p3 σ x6 σ3 e4) me_X11_lift kw_1575 kw_1576 kw_1574 (Nat.le_of_ble_eq_true rfl) (Nat.le_of_ble_eq_true rfl) rfl hl.1 rfl (Nat.le_of_ble_eq_true rfl) dL_lift_7 (fun H locs hJ => ?_)
  obtain ⟨σ10, e11, hf⟩ := mb0 hf
  refine mx_sL hx hb hK hJ e11 dL_lift_10 (fun H locs hJ => ?_)
  refine lv_goto (tgt := 26) hx hb dL_lift_11 (by decide) ?_
  refine lv_iconst (v := 0) hx hb dL_lift_26 (by decide) ?_
  exact my_iret hx hb hr hlocks hJ hf dL_lift_27
