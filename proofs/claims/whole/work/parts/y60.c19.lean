set_option maxHeartbeats 16000000 in
set_option maxRecDepth 100000 in
theorem lw_D2910_23 {p : Program} {e : Env} {s : State} {m : MethodId} {below : List Frame} {meth : Method} {c : Code} (l : Launch) (hlt : l.stackTraces = false) {b L : Nat} {xs : Nat → Int32} (C0 : lw_At p s m meth c b L xs) (G : mx_G) (P : mx_P) (σ : mx_S) (hK : mx_K G P s) (hJ : mx_J G P s.heap (mxz σ) (mxu σ) σ s.heap []) (hbE : mpb P = s.heap.size) (hRc : room_1.cells = mpc P - mxz σ) (hRs : room_1.slots = mps P - mxu σ) : ∀ (v0 : Nat) (v1 : Nat) (v2 : Nat) (v3 : Nat) (v4 : Int32) (τ : mx_S) (o : (Int32 × mx_S) ⊕ ((mx_S))), f_L_law_D2910_23 P L xs v0 v1 v2 v3 v4 τ = some o → (∀ (y4 : Int32) (υ : mx_S), o = .inl (y4, υ) → ∀ (H : Heap) (locs : List Loc), mx_J G P s.heap (mxz σ) (mxu σ) υ H locs → ∀ ls : Array Slot, lv_has ls 8 [(0, .ref b), (1, .ref v1), (2, .ref v2), (3, .ref v3), (4, .int y4)] → W p l e room_1 s m #[Value.ref b] below meth c H locs (mxz υ - mxz σ) (mxu υ - mxu σ) (lw_Z below #[Value.ref b] s) (F0 m 23 ls [])) → (∀  (υ : mx_S), o = .inr υ → ∀ (H : Heap) (locs : List Loc), mx_J G P s.heap (mxz σ) (mxu σ) υ H locs → ∀ ls : Array Slot, lv_has ls 8 [] → W p l e room_1 s m #[Value.ref b] below meth c H locs (mxz υ - mxz σ) (mxu υ - mxu σ) (lw_Z below #[Value.ref b] s) (F0 m 2916 ls [])) → ∀ (H : Heap) (locs : List Loc), mx_J G P s.heap (mxz σ) (mxu σ) τ H locs → ∀ ls : Array Slot, lv_has ls 8 [(0, .ref b), (1, .ref v1), (2, .ref v2), (3, .ref v3), (4, .int v4)] → W p l e room_1 s m #[Value.ref b] below meth c H locs (mxz τ - mxz σ) (mxu τ - mxu σ) (lw_Z below #[Value.ref b] s) (F0 m 2910 ls []) := by
  obtain ⟨hx, hb, hr, hml, hown, hts, hX, hbl, hlocks, hgv⟩ := id C0
  have hts : ∀ w ∈ mx_tbl, w.before #[Value.ref b] s = true := fun w hw => hts w (List.mem_filter.mp hw).1
  have hz0 := hJ.2.1
  have hbP : b < mpb P := by omega
  have hC : mpc P - mxz σ ≤ room_1.cells := Nat.le_of_eq hRc.symm
  have hS : mps P - mxu σ ≤ room_1.slots := Nat.le_of_eq hRs.symm
  have hown : s.vm.findClass RLn = some m.cls := hown
  intro v0 v1 v2 v3 v4 τ o hf Kb Ke0 H locs hJ ls hl
  unfold f_L_law_D2910_23 at hf
  obtain ⟨x53, e54, hf⟩ := mb0 hf
  refine lv_iinc (v := x53) (lv' := [(4, .int x53), (0, .ref b), (1, .ref v1), (2, .ref v2), (3, .ref v3)]) hx hb dL_law_2910 hl (k := 4) rfl (by rw [← Option.some.inj e54]; rfl) (by decide) rfl (fun ls hl => ?_)
  refine lv_goto (tgt := 23) hx hb dL_law_2913 (by decide) ?_
  exact Kb x53 τ (Option.some.inj hf).symm _ _ hJ ls (lv_sub hl [1, 2, 3, 4, 0] rfl)
set_option maxHeartbeats 16000000 in
set_option maxRecDepth 100000 in
theorem lw_D321_23 {p : Program} {e : Env} {s : State} {m : MethodId} {below : List Frame} {meth : Method} {c : Code} (l : Launch) (hlt : l.stackTraces = false) {b L : Nat} {xs : Nat → Int32} (C0 : lw_At p s m meth c b L xs) (G : mx_G) (P : mx_P) (σ : mx_S) (hK : mx_K G P s) (hJ : mx_J G P s.heap (mxz σ) (mxu σ) σ s.heap []) (hbE : mpb P = s.heap.size) (hRc : room_1.cells = mpc P - mxz σ) (hRs : room_1.slots = mps P - mxu σ) : ∀ (v0 : Nat) (v1 : Nat) (v2 : Nat) (v3 : Nat) (v4 : Int32) (τ : mx_S) (o : (Int32 × mx_S) ⊕ ((mx_S))), f_L_law_D321_23 P L xs v0 v1 v2 v3 v4 τ = some o → (∀ (y4 : Int32) (υ : mx_S), o = .inl (y4, υ) → ∀ (H : Heap) (locs : List Loc), mx_J G P s.heap (mxz σ) (mxu σ) υ H locs → ∀ ls : Array Slot, lv_has ls 8 [(0, .ref b), (1, .ref v1), (2, .ref v2), (3, .ref v3), (4, .int y4)] → W p l e room_1 s m #[Value.ref b] below meth c H locs (mxz υ - mxz σ) (mxu υ - mxu σ) (lw_Z below #[Value.ref b] s) (F0 m 23 ls [])) → (∀  (υ : mx_S), o = .inr υ → ∀ (H : Heap) (locs : List Loc), mx_J G P s.heap (mxz σ) (mxu σ) υ H locs → ∀ ls : Array Slot, lv_has ls 8 [] → W p l e room_1 s m #[Value.ref b] below meth c H locs (mxz υ - mxz σ) (mxu υ - mxu σ) (lw_Z below #[Value.ref b] s) (F0 m 2916 ls [])) → ∀ (H : Heap) (locs : List Loc), mx_J G P s.heap (mxz σ) (mxu σ) τ H locs → ∀ ls : Array Slot, lv_has ls 8 [(0, .ref b), (1, .ref v1), (2, .ref v2), (3, .ref v3), (4, .int v4)] → W p l e room_1 s m #[Value.ref b] below meth c H locs (mxz τ - mxz σ) (mxu τ - mxu σ) (lw_Z below #[Value.ref b] s) (F0 m 321 ls []) := by
  obtain ⟨hx, hb, hr, hml, hown, hts, hX, hbl, hlocks, hgv⟩ := id C0
  have hts : ∀ w ∈ mx_tbl, w.before #[Value.ref b] s = true := fun w hw => hts w (List.mem_filter.mp hw).1
  have hz0 := hJ.2.1
  have hbP : b < mpb P := by omega
  have hC : mpc P - mxz σ ≤ room_1.cells := Nat.le_of_eq hRc.symm
  have hS : mps P - mxu σ ≤ room_1.slots := Nat.le_of_eq hRs.symm
  have hown : s.vm.findClass RLn = some m.cls := hown
  have D2910_23 := @lw_D2910_23 p e s m below meth c l hlt b L xs C0 G P σ hK hJ hbE hRc hRs
  intro v0 v1 v2 v3 v4 τ o hf Kb Ke0 H locs hJ ls hl
  unfold f_L_law_D321_23 at hf
  refine lv_goto (tgt := 2910) hx hb dL_law_321 (by decide) ?_
  exact D2910_23 v0 v1 v2 v3 v4 τ o hf Kb Ke0 _ _ hJ ls (lv_sub hl [0, 1, 2, 3, 4] rfl)
set_option maxHeartbeats 16000000 in
set_option maxRecDepth 100000 in
theorem lw_D220_23 {p : Program} {e : Env} {s : State} {m : MethodId} {below : List Frame} {meth : Method} {c : Code} (l : Launch) (hlt : l.stackTraces = false) {b L : Nat} {xs : Nat → Int32} (C0 : lw_At p s m meth c b L xs) (G : mx_G) (P : mx_P) (σ : mx_S) (hK : mx_K G P s) (hJ : mx_J G P s.heap (mxz σ) (mxu σ) σ s.heap []) (hbE : mpb P = s.heap.size) (hRc : room_1.cells = mpc P - mxz σ) (hRs : room_1.slots = mps P - mxu σ) : ∀ (v0 : Nat) (v1 : Nat) (v2 : Nat) (v3 : Nat) (v4 : Int32) (τ : mx_S) (o : (Int32 × mx_S) ⊕ ((mx_S))), f_L_law_D220_23 P L xs v0 v1 v2 v3 v4 τ = some o → (∀ (y4 : Int32) (υ : mx_S), o = .inl (y4, υ) → ∀ (H : Heap) (locs : List Loc), mx_J G P s.heap (mxz σ) (mxu σ) υ H locs → ∀ ls : Array Slot, lv_has ls 8 [(0, .ref b), (1, .ref v1), (2, .ref v2), (3, .ref v3), (4, .int y4)] → W p l e room_1 s m #[Value.ref b] below meth c H locs (mxz υ - mxz σ) (mxu υ - mxu σ) (lw_Z below #[Value.ref b] s) (F0 m 23 ls [])) → (∀  (υ : mx_S), o = .inr υ → ∀ (H : Heap) (locs : List Loc), mx_J G P s.heap (mxz σ) (mxu σ) υ H locs → ∀ ls : Array Slot, lv_has ls 8 [] → W p l e room_1 s m #[Value.ref b] below meth c H locs (mxz υ - mxz σ) (mxu υ - mxu σ) (lw_Z below #[Value.ref b] s) (F0 m 2916 ls [])) → ∀ (H : Heap) (locs : List Loc), mx_J G P s.heap (mxz σ) (mxu σ) τ H locs → ∀ ls : Array Slot, lv_has ls 8 [(0, .ref b), (1, .ref v1), (2, .ref v2), (3, .ref v3), (4, .int v4)] → W p l e room_1 s m #[Value.ref b] below meth c H locs (mxz τ - mxz σ) (mxu τ - mxu σ) (lw_Z below #[Value.ref b] s) (F0 m 220 ls []) := by
  obtain ⟨hx, hb, hr, hml, hown, hts, hX, hbl, hlocks, hgv⟩ := id C0
  have hts : ∀ w ∈ mx_tbl, w.before #[Value.ref b] s = true := fun w hw => hts w (List.mem_filter.mp hw).1
  have hz0 := hJ.2.1
  have hbP : b < mpb P := by omega
  have hC : mpc P - mxz σ ≤ room_1.cells := Nat.le_of_eq hRc.symm
  have hS : mps P - mxu σ ≤ room_1.slots := Nat.le_of_eq hRs.symm
  have hown : s.vm.findClass RLn = some m.cls := hown
  have D321_23 := @lw_D321_23 p e s m below meth c l hlt b L xs C0 G P σ hK hJ hbE hRc hRs
  intro v0 v1 v2 v3 v4 τ o hf Kb Ke0 H locs hJ ls hl
  unfold f_L_law_D220_23 at hf
  refine lv_aload_n hx hb dL_law_220 rfl (lv_at hl 1 rfl) ?_
  refine lv_aload_n hx hb dL_law_221 rfl (lv_at hl 0 rfl) ?_
  refine lv_iload hx hb dL_law_222 (lv_at hl 4 rfl) ?_
  refine lv_iconst (v := 1) hx hb dL_law_224 (by decide) ?_
  refine lv_iadd hx hb dL_law_225 ?_
  obtain ⟨x18, e19, hf⟩ := mb0 hf
  refine mx_sld hx hb hX hbl hbP hz0 hJ e19 dL_law_226 ?_
  refine lv_aload_n hx hb dL_law_227 rfl (lv_at hl 0 rfl) ?_
  refine lv_iload hx hb dL_law_228 (lv_at hl 4 rfl) ?_
  refine lv_iconst (v := 2) hx hb dL_law_230 (by decide) ?_
  refine lv_iadd hx hb dL_law_231 ?_
  obtain ⟨x20, e21, hf⟩ := mb0 hf
  refine mx_sld hx hb hX hbl hbP hz0 hJ e21 dL_law_232 ?_
  refine lv_aload_n hx hb dL_law_233 rfl (lv_at hl 0 rfl) ?_
  refine lv_iload hx hb dL_law_234 (lv_at hl 4 rfl) ?_
  refine lv_iconst (v := 3) hx hb dL_law_236 (by decide) ?_
  refine lv_iadd hx hb dL_law_237 ?_
  obtain ⟨x22, e23, hf⟩ := mb0 hf
  refine mx_sld hx hb hX hbl hbP hz0 hJ e23 dL_law_238 ?_
  refine lv_aload_n hx hb dL_law_239 rfl (lv_at hl 0 rfl) ?_
  refine lv_iload hx hb dL_law_240 (lv_at hl 4 rfl) ?_
  refine lv_iconst (v := 4) hx hb dL_law_242 (by decide) ?_
  refine lv_iadd hx hb dL_law_243 ?_
  obtain ⟨x24, e25, hf⟩ := mb0 hf
  refine mx_sld hx hb hX hbl hbP hz0 hJ e25 dL_law_244 ?_
  refine lv_aload_n hx hb dL_law_245 rfl (lv_at hl 0 rfl) ?_
  refine lv_iload hx hb dL_law_246 (lv_at hl 4 rfl) ?_
  refine lv_iconst (v := 5) hx hb dL_law_248 (by decide) ?_
  refine lv_iadd hx hb dL_law_249 ?_
  obtain ⟨x26, e27, hf⟩ := mb0 hf
  refine mx_sld hx hb hX hbl hbP hz0 hJ e27 dL_law_250 ?_
  refine lv_aload_n hx hb dL_law_251 rfl (lv_at hl 3 rfl) ?_
  obtain ⟨x29, σ28, e30, hf⟩ := mc0 hf
  refine mx_callSW (As := [.ref v1, .int x18, .int x20, .int x22, .int x24, .int x26, .ref v3]) (rest := []) hx hb hml hts hown hK hJ hRc hRs (c_L_feed l hlt G P v1 x18 x20 x22 x24 x26 v3 τ x29 σ28 e30) mw_L_feed kw_915 kw_914 (Nat.le_of_ble_eq_true rfl) (Nat.le_of_ble_eq_true rfl) rfl hl.1 rfl (Nat.le_of_ble_eq_true rfl) dL_law_252 (fun H locs hJ => ?_)
  refine lv_istore (lv' := [(5, .int x29), (0, .ref b), (1, .ref v1), (2, .ref v2), (3, .ref v3), (4, .int v4)]) hx hb dL_law_255 hl (by decide) rfl (fun ls hl => ?_)
  refine lv_aload_n hx hb dL_law_257 rfl (lv_at hl 3 rfl) ?_
  refine lv_aload_n hx hb dL_law_258 rfl (lv_at hl 1 rfl) ?_
  refine lv_iload hx hb dL_law_259 (lv_at hl 5 rfl) ?_
  refine lv_iconst (v := 1) hx hb dL_law_261 (by decide) ?_
  refine lv_iadd hx hb dL_law_262 ?_
  obtain ⟨x31, e32, hf⟩ := mb0 hf
  refine mx_sld hx hb hX hbl hbP hz0 hJ e32 dL_law_263 ?_
  refine lv_aload_n hx hb dL_law_264 rfl (lv_at hl 1 rfl) ?_
  refine lv_iload hx hb dL_law_265 (lv_at hl 5 rfl) ?_
  refine lv_iconst (v := 2) hx hb dL_law_267 (by decide) ?_
  refine lv_iadd hx hb dL_law_268 ?_
  obtain ⟨x33, e34, hf⟩ := mb0 hf
  refine mx_sld hx hb hX hbl hbP hz0 hJ e34 dL_law_269 ?_
  refine lv_aload_n hx hb dL_law_270 rfl (lv_at hl 1 rfl) ?_
  refine lv_iload hx hb dL_law_271 (lv_at hl 5 rfl) ?_
  refine lv_iconst (v := 3) hx hb dL_law_273 (by decide) ?_
  refine lv_iadd hx hb dL_law_274 ?_
  obtain ⟨x35, e36, hf⟩ := mb0 hf
  refine mx_sld hx hb hX hbl hbP hz0 hJ e36 dL_law_275 ?_
  refine lv_aload_n hx hb dL_law_276 rfl (lv_at hl 1 rfl) ?_
  refine lv_iload hx hb dL_law_277 (lv_at hl 5 rfl) ?_
  refine lv_iconst (v := 4) hx hb dL_law_279 (by decide) ?_
  refine lv_iadd hx hb dL_law_280 ?_
  obtain ⟨x37, e38, hf⟩ := mb0 hf
  refine mx_sld hx hb hX hbl hbP hz0 hJ e38 dL_law_281 ?_
  refine lv_aload_n hx hb dL_law_282 rfl (lv_at hl 1 rfl) ?_
  refine lv_iload hx hb dL_law_283 (lv_at hl 5 rfl) ?_
  refine lv_iconst (v := 5) hx hb dL_law_285 (by decide) ?_
  refine lv_iadd hx hb dL_law_286 ?_
  obtain ⟨x39, e40, hf⟩ := mb0 hf
  refine mx_sld hx hb hX hbl hbP hz0 hJ e40 dL_law_287 ?_
  obtain ⟨i41, e42, hf⟩ := mb0 hf
  obtain ⟨x44, σ43, e45, hf⟩ := mc0 hf
  refine mx_callV (As := [.int x31, .int x33, .int x35, .int x37, .int x39]) (rest := []) hx hb hml hts hown hK hJ hRc hRs (ci := 12) rfl e42 (c_X12_feed l G P v2 x31 x33 x35 x37 x39 σ28 x44 σ43 e45) me_X12_feed kw_2211 kw_2212 kw_2210 (Nat.le_of_ble_eq_true rfl) (Nat.le_of_ble_eq_true rfl) rfl hl.1 rfl (Nat.le_of_ble_eq_true rfl) dL_law_288 (fun H locs hJ => ?_)
  refine lv_istore (lv' := [(6, .int x44), (5, .int x29), (0, .ref b), (1, .ref v1), (2, .ref v2), (3, .ref v3), (4, .int v4)]) hx hb dL_law_291 hl (by decide) rfl (fun ls hl => ?_)
  refine lv_aload_n hx hb dL_law_293 rfl (lv_at hl 4 rfl) ?_
  obtain ⟨i46, e47, hf⟩ := mb0 hf
  obtain ⟨x49, σ48, e50, hf⟩ := mc0 hf
  refine mx_callV (As := []) (rest := []) hx hb hml hts hown hK hJ hRc hRs (ci := 12) rfl e47 (c_X12_thrown l G P v2 σ43 x49 σ48 e50) me_X12_thrown kw_2207 kw_2208 kw_2206 (Nat.le_of_ble_eq_true rfl) (Nat.le_of_ble_eq_true rfl) rfl hl.1 rfl (Nat.le_of_ble_eq_true rfl) dL_law_294 (fun H locs hJ => ?_)
  refine lv_iload hx hb dL_law_297 (lv_at hl 1 rfl) ?_
  refine lv_icmp_eq (tgt := 304) hx hb dL_law_299 (by decide) (fun c51 => ?_) (fun c51 => ?_)
  · rw [if_pos c51] at hf
    refine lv_iload hx hb dL_law_304 (lv_at hl 1 rfl) ?_
    refine lv_if_ne (tgt := 321) hx hb dL_law_306 (by decide) (fun c52 => ?_) (fun c52 => ?_)
    · rw [if_neg c52] at hf
      exact D321_23 v0 v1 v2 v3 v4 σ48 o hf Kb Ke0 _ _ hJ ls (lv_sub hl [2, 3, 4, 5, 6] rfl)
    · rw [if_pos c52] at hf
      refine lv_aload_n hx hb dL_law_309 rfl (lv_at hl 5 rfl) ?_
      refine lv_iconst (v := 0) hx hb dL_law_310 (by decide) ?_
      obtain ⟨x55, e56, hf⟩ := mb0 hf
      refine mx_aL hx hb hK hJ e56 dL_law_311 ?_
      refine lv_iload hx hb dL_law_312 (lv_at hl 0 rfl) ?_
      refine lv_i2l hx hb dL_law_314 rfl ?_
      refine W.lcmp hx hb dL_law_315 ?_
      refine lv_if_eq (tgt := 321) hx hb dL_law_316 (by decide) (fun c57 => ?_) (fun c57 => ?_)
      · rw [if_pos c57] at hf
        exact D321_23 v0 v1 v2 v3 v4 σ48 o hf Kb Ke0 _ _ hJ ls (lv_sub hl [2, 3, 4, 5, 6] rfl)
      · rw [if_neg c57] at hf
        cases hf
  · rw [if_neg c51] at hf
    cases hf
set_option maxHeartbeats 16000000 in
set_option maxRecDepth 100000 in
theorem lw_D377_23 {p : Program} {e : Env} {s : State} {m : MethodId} {below : List Frame} {meth : Method} {c : Code} (l : Launch) (hlt : l.stackTraces = false) {b L : Nat} {xs : Nat → Int32} (C0 : lw_At p s m meth c b L xs) (G : mx_G) (P : mx_P) (σ : mx_S) (hK : mx_K G P s) (hJ : mx_J G P s.heap (mxz σ) (mxu σ) σ s.heap []) (hbE : mpb P = s.heap.size) (hRc : room_1.cells = mpc P - mxz σ) (hRs : room_1.slots = mps P - mxu σ) : ∀ (v0 : Nat) (v1 : Nat) (v2 : Nat) (v3 : Nat) (v4 : Int32) (τ : mx_S) (o : (Int32 × mx_S) ⊕ ((mx_S))), f_L_law_D377_23 P L xs v0 v1 v2 v3 v4 τ = some o → (∀ (y4 : Int32) (υ : mx_S), o = .inl (y4, υ) → ∀ (H : Heap) (locs : List Loc), mx_J G P s.heap (mxz σ) (mxu σ) υ H locs → ∀ ls : Array Slot, lv_has ls 8 [(0, .ref b), (1, .ref v1), (2, .ref v2), (3, .ref v3), (4, .int y4)] → W p l e room_1 s m #[Value.ref b] below meth c H locs (mxz υ - mxz σ) (mxu υ - mxu σ) (lw_Z below #[Value.ref b] s) (F0 m 23 ls [])) → (∀  (υ : mx_S), o = .inr υ → ∀ (H : Heap) (locs : List Loc), mx_J G P s.heap (mxz σ) (mxu σ) υ H locs → ∀ ls : Array Slot, lv_has ls 8 [] → W p l e room_1 s m #[Value.ref b] below meth c H locs (mxz υ - mxz σ) (mxu υ - mxu σ) (lw_Z below #[Value.ref b] s) (F0 m 2916 ls [])) → ∀ (H : Heap) (locs : List Loc), mx_J G P s.heap (mxz σ) (mxu σ) τ H locs → ∀ ls : Array Slot, lv_has ls 8 [(0, .ref b), (1, .ref v1), (2, .ref v2), (3, .ref v3), (4, .int v4)] → W p l e room_1 s m #[Value.ref b] below meth c H locs (mxz τ - mxz σ) (mxu τ - mxu σ) (lw_Z below #[Value.ref b] s) (F0 m 377 ls []) := by
  obtain ⟨hx, hb, hr, hml, hown, hts, hX, hbl, hlocks, hgv⟩ := id C0
  have hts : ∀ w ∈ mx_tbl, w.before #[Value.ref b] s = true := fun w hw => hts w (List.mem_filter.mp hw).1
  have hz0 := hJ.2.1
  have hbP : b < mpb P := by omega
  have hC : mpc P - mxz σ ≤ room_1.cells := Nat.le_of_eq hRc.symm
  have hS : mps P - mxu σ ≤ room_1.slots := Nat.le_of_eq hRs.symm
  have hown : s.vm.findClass RLn = some m.cls := hown
  have D2910_23 := @lw_D2910_23 p e s m below meth c l hlt b L xs C0 G P σ hK hJ hbE hRc hRs
  intro v0 v1 v2 v3 v4 τ o hf Kb Ke0 H locs hJ ls hl
  unfold f_L_law_D377_23 at hf
  refine lv_goto (tgt := 2910) hx hb dL_law_377 (by decide) ?_
  exact D2910_23 v0 v1 v2 v3 v4 τ o hf Kb Ke0 _ _ hJ ls (lv_sub hl [0, 1, 2, 3, 4] rfl)
set_option maxHeartbeats 16000000 in
set_option maxRecDepth 100000 in
theorem lw_D324_23 {p : Program} {e : Env} {s : State} {m : MethodId} {below : List Frame} {meth : Method} {c : Code} (l : Launch) (hlt : l.stackTraces = false) {b L : Nat} {xs : Nat → Int32} (C0 : lw_At p s m meth c b L xs) (G : mx_G) (P : mx_P) (σ : mx_S) (hK : mx_K G P s) (hJ : mx_J G P s.heap (mxz σ) (mxu σ) σ s.heap []) (hbE : mpb P = s.heap.size) (hRc : room_1.cells = mpc P - mxz σ) (hRs : room_1.slots = mps P - mxu σ) : ∀ (v0 : Nat) (v1 : Nat) (v2 : Nat) (v3 : Nat) (v4 : Int32) (τ : mx_S) (o : (Int32 × mx_S) ⊕ ((mx_S))), f_L_law_D324_23 P L xs v0 v1 v2 v3 v4 τ = some o → (∀ (y4 : Int32) (υ : mx_S), o = .inl (y4, υ) → ∀ (H : Heap) (locs : List Loc), mx_J G P s.heap (mxz σ) (mxu σ) υ H locs → ∀ ls : Array Slot, lv_has ls 8 [(0, .ref b), (1, .ref v1), (2, .ref v2), (3, .ref v3), (4, .int y4)] → W p l e room_1 s m #[Value.ref b] below meth c H locs (mxz υ - mxz σ) (mxu υ - mxu σ) (lw_Z below #[Value.ref b] s) (F0 m 23 ls [])) → (∀  (υ : mx_S), o = .inr υ → ∀ (H : Heap) (locs : List Loc), mx_J G P s.heap (mxz σ) (mxu σ) υ H locs → ∀ ls : Array Slot, lv_has ls 8 [] → W p l e room_1 s m #[Value.ref b] below meth c H locs (mxz υ - mxz σ) (mxu υ - mxu σ) (lw_Z below #[Value.ref b] s) (F0 m 2916 ls [])) → ∀ (H : Heap) (locs : List Loc), mx_J G P s.heap (mxz σ) (mxu σ) τ H locs → ∀ ls : Array Slot, lv_has ls 8 [(0, .ref b), (1, .ref v1), (2, .ref v2), (3, .ref v3), (4, .int v4)] → W p l e room_1 s m #[Value.ref b] below meth c H locs (mxz τ - mxz σ) (mxu τ - mxu σ) (lw_Z below #[Value.ref b] s) (F0 m 324 ls []) := by
  obtain ⟨hx, hb, hr, hml, hown, hts, hX, hbl, hlocks, hgv⟩ := id C0
  have hts : ∀ w ∈ mx_tbl, w.before #[Value.ref b] s = true := fun w hw => hts w (List.mem_filter.mp hw).1
  have hz0 := hJ.2.1
  have hbP : b < mpb P := by omega
  have hC : mpc P - mxz σ ≤ room_1.cells := Nat.le_of_eq hRc.symm
  have hS : mps P - mxu σ ≤ room_1.slots := Nat.le_of_eq hRs.symm
  have hown : s.vm.findClass RLn = some m.cls := hown
  have D377_23 := @lw_D377_23 p e s m below meth c l hlt b L xs C0 G P σ hK hJ hbE hRc hRs
  intro v0 v1 v2 v3 v4 τ o hf Kb Ke0 H locs hJ ls hl
  unfold f_L_law_D324_23 at hf
  refine lv_aload_n hx hb dL_law_324 rfl (lv_at hl 1 rfl) ?_
  refine lv_aload_n hx hb dL_law_325 rfl (lv_at hl 0 rfl) ?_
  refine lv_iload hx hb dL_law_326 (lv_at hl 4 rfl) ?_
  refine lv_iconst (v := 1) hx hb dL_law_328 (by decide) ?_
  refine lv_iadd hx hb dL_law_329 ?_
  obtain ⟨x59, e60, hf⟩ := mb0 hf
  refine mx_sld hx hb hX hbl hbP hz0 hJ e60 dL_law_330 ?_
  refine lv_aload_n hx hb dL_law_331 rfl (lv_at hl 3 rfl) ?_
  obtain ⟨x62, σ61, e63, hf⟩ := mc0 hf
  refine mx_callSW (As := [.ref v1, .int x59, .ref v3]) (rest := []) hx hb hml hts hown hK hJ hRc hRs (c_L_end l hlt G P v1 x59 v3 τ x62 σ61 e63) mw_L_end kw_997 kw_996 (Nat.le_of_ble_eq_true rfl) (Nat.le_of_ble_eq_true rfl) rfl hl.1 rfl (Nat.le_of_ble_eq_true rfl) dL_law_332 (fun H locs hJ => ?_)
  refine lv_istore (lv' := [(5, .int x62), (0, .ref b), (1, .ref v1), (2, .ref v2), (3, .ref v3), (4, .int v4)]) hx hb dL_law_335 hl (by decide) rfl (fun ls hl => ?_)
  refine lv_aload_n hx hb dL_law_337 rfl (lv_at hl 3 rfl) ?_
  refine lv_aload_n hx hb dL_law_338 rfl (lv_at hl 1 rfl) ?_
  refine lv_iload hx hb dL_law_339 (lv_at hl 5 rfl) ?_
  refine lv_iconst (v := 1) hx hb dL_law_341 (by decide) ?_
  refine lv_iadd hx hb dL_law_342 ?_
  obtain ⟨x64, e65, hf⟩ := mb0 hf
  refine mx_sld hx hb hX hbl hbP hz0 hJ e65 dL_law_343 ?_
  obtain ⟨i66, e67, hf⟩ := mb0 hf
  obtain ⟨x69, σ68, e70, hf⟩ := mc0 hf
  refine mx_callV (As := [.int x64]) (rest := []) hx hb hml hts hown hK hJ hRc hRs (ci := 12) rfl e67 (c_X12_end l G P v2 x64 σ61 x69 σ68 e70) me_X12_end kw_2219 kw_2220 kw_2218 (Nat.le_of_ble_eq_true rfl) (Nat.le_of_ble_eq_true rfl) rfl hl.1 rfl (Nat.le_of_ble_eq_true rfl) dL_law_344 (fun H locs hJ => ?_)
  refine lv_istore (lv' := [(6, .int x69), (5, .int x62), (0, .ref b), (1, .ref v1), (2, .ref v2), (3, .ref v3), (4, .int v4)]) hx hb dL_law_347 hl (by decide) rfl (fun ls hl => ?_)
  refine lv_aload_n hx hb dL_law_349 rfl (lv_at hl 4 rfl) ?_
  obtain ⟨i71, e72, hf⟩ := mb0 hf
  obtain ⟨x74, σ73, e75, hf⟩ := mc0 hf
  refine mx_callV (As := []) (rest := []) hx hb hml hts hown hK hJ hRc hRs (ci := 12) rfl e72 (c_X12_thrown l G P v2 σ68 x74 σ73 e75) me_X12_thrown kw_2207 kw_2208 kw_2206 (Nat.le_of_ble_eq_true rfl) (Nat.le_of_ble_eq_true rfl) rfl hl.1 rfl (Nat.le_of_ble_eq_true rfl) dL_law_350 (fun H locs hJ => ?_)
  refine lv_iload hx hb dL_law_353 (lv_at hl 1 rfl) ?_
  refine lv_icmp_eq (tgt := 360) hx hb dL_law_355 (by decide) (fun c76 => ?_) (fun c76 => ?_)
  · rw [if_pos c76] at hf
    refine lv_iload hx hb dL_law_360 (lv_at hl 1 rfl) ?_
    refine lv_if_ne (tgt := 377) hx hb dL_law_362 (by decide) (fun c77 => ?_) (fun c77 => ?_)
    · rw [if_neg c77] at hf
      exact D377_23 v0 v1 v2 v3 v4 σ73 o hf Kb Ke0 _ _ hJ ls (lv_sub hl [2, 3, 4, 5, 6] rfl)
    · rw [if_pos c77] at hf
      refine lv_aload_n hx hb dL_law_365 rfl (lv_at hl 5 rfl) ?_
      refine lv_iconst (v := 0) hx hb dL_law_366 (by decide) ?_
      obtain ⟨x78, e79, hf⟩ := mb0 hf
      refine mx_aL hx hb hK hJ e79 dL_law_367 ?_
      refine lv_iload hx hb dL_law_368 (lv_at hl 0 rfl) ?_
      refine lv_i2l hx hb dL_law_370 rfl ?_
      refine W.lcmp hx hb dL_law_371 ?_
      refine lv_if_eq (tgt := 377) hx hb dL_law_372 (by decide) (fun c80 => ?_) (fun c80 => ?_)
      · rw [if_pos c80] at hf
        exact D377_23 v0 v1 v2 v3 v4 σ73 o hf Kb Ke0 _ _ hJ ls (lv_sub hl [2, 3, 4, 5, 6] rfl)
      · rw [if_neg c80] at hf
        cases hf
  · rw [if_neg c76] at hf
    cases hf
set_option maxHeartbeats 16000000 in
set_option maxRecDepth 100000 in
theorem lw_D380_23 {p : Program} {e : Env} {s : State} {m : MethodId} {below : List Frame} {meth : Method} {c : Code} (l : Launch) (hlt : l.stackTraces = false) {b L : Nat} {xs : Nat → Int32} (C0 : lw_At p s m meth c b L xs) (G : mx_G) (P : mx_P) (σ : mx_S) (hK : mx_K G P s) (hJ : mx_J G P s.heap (mxz σ) (mxu σ) σ s.heap []) (hbE : mpb P = s.heap.size) (hRc : room_1.cells = mpc P - mxz σ) (hRs : room_1.slots = mps P - mxu σ) : ∀ (v0 : Nat) (v1 : Nat) (v2 : Nat) (v3 : Nat) (v4 : Int32) (τ : mx_S) (o : (Int32 × mx_S) ⊕ ((mx_S))), f_L_law_D380_23 P L xs v0 v1 v2 v3 v4 τ = some o → (∀ (y4 : Int32) (υ : mx_S), o = .inl (y4, υ) → ∀ (H : Heap) (locs : List Loc), mx_J G P s.heap (mxz σ) (mxu σ) υ H locs → ∀ ls : Array Slot, lv_has ls 8 [(0, .ref b), (1, .ref v1), (2, .ref v2), (3, .ref v3), (4, .int y4)] → W p l e room_1 s m #[Value.ref b] below meth c H locs (mxz υ - mxz σ) (mxu υ - mxu σ) (lw_Z below #[Value.ref b] s) (F0 m 23 ls [])) → (∀  (υ : mx_S), o = .inr υ → ∀ (H : Heap) (locs : List Loc), mx_J G P s.heap (mxz σ) (mxu σ) υ H locs → ∀ ls : Array Slot, lv_has ls 8 [] → W p l e room_1 s m #[Value.ref b] below meth c H locs (mxz υ - mxz σ) (mxu υ - mxu σ) (lw_Z below #[Value.ref b] s) (F0 m 2916 ls [])) → ∀ (H : Heap) (locs : List Loc), mx_J G P s.heap (mxz σ) (mxu σ) τ H locs → ∀ ls : Array Slot, lv_has ls 8 [(0, .ref b), (1, .ref v1), (2, .ref v2), (3, .ref v3), (4, .int v4)] → W p l e room_1 s m #[Value.ref b] below meth c H locs (mxz τ - mxz σ) (mxu τ - mxu σ) (lw_Z below #[Value.ref b] s) (F0 m 380 ls []) := by
  obtain ⟨hx, hb, hr, hml, hown, hts, hX, hbl, hlocks, hgv⟩ := id C0
  have hts : ∀ w ∈ mx_tbl, w.before #[Value.ref b] s = true := fun w hw => hts w (List.mem_filter.mp hw).1
  have hz0 := hJ.2.1
  have hbP : b < mpb P := by omega
  have hC : mpc P - mxz σ ≤ room_1.cells := Nat.le_of_eq hRc.symm
  have hS : mps P - mxu σ ≤ room_1.slots := Nat.le_of_eq hRs.symm
  have hown : s.vm.findClass RLn = some m.cls := hown
  have D2910_23 := @lw_D2910_23 p e s m below meth c l hlt b L xs C0 G P σ hK hJ hbE hRc hRs
  intro v0 v1 v2 v3 v4 τ o hf Kb Ke0 H locs hJ ls hl
  unfold f_L_law_D380_23 at hf
  refine lv_aload_n hx hb dL_law_380 rfl (lv_at hl 1 rfl) ?_
  refine lv_aload_n hx hb dL_law_381 rfl (lv_at hl 0 rfl) ?_
  refine lv_iload hx hb dL_law_382 (lv_at hl 4 rfl) ?_
  refine lv_iconst (v := 1) hx hb dL_law_384 (by decide) ?_
  refine lv_iadd hx hb dL_law_385 ?_
  obtain ⟨x82, e83, hf⟩ := mb0 hf
  refine mx_sld hx hb hX hbl hbP hz0 hJ e83 dL_law_386 ?_
  obtain ⟨i84, e85, hf⟩ := mb0 hf
  obtain ⟨x87, σ86, e88, hf⟩ := mc0 hf
  refine mx_callV (As := [.int x82]) (rest := []) hx hb hml hts hown hK hJ hRc hRs (ci := 11) rfl e85 (c_X11_fault l G P v1 x82 τ x87 σ86 e88) me_X11_fault kw_624 kw_625 kw_623 (Nat.le_of_ble_eq_true rfl) (Nat.le_of_ble_eq_true rfl) rfl hl.1 rfl (Nat.le_of_ble_eq_true rfl) dL_law_387 (fun H locs hJ => ?_)
  refine lv_aload_n hx hb dL_law_390 rfl (lv_at hl 2 rfl) ?_
  refine lv_aload_n hx hb dL_law_391 rfl (lv_at hl 0 rfl) ?_
  refine lv_iload hx hb dL_law_392 (lv_at hl 4 rfl) ?_
  refine lv_iconst (v := 1) hx hb dL_law_394 (by decide) ?_
  refine lv_iadd hx hb dL_law_395 ?_
  obtain ⟨x89, e90, hf⟩ := mb0 hf
  refine mx_sld hx hb hX hbl hbP hz0 hJ e90 dL_law_396 ?_
  obtain ⟨i91, e92, hf⟩ := mb0 hf
  obtain ⟨x94, σ93, e95, hf⟩ := mc0 hf
  refine mx_callV (As := [.int x89]) (rest := [.int x87]) hx hb hml hts hown hK hJ hRc hRs (ci := 12) rfl e92 (c_X12_fault l G P v2 x89 σ86 x94 σ93 e95) me_X12_fault kw_2226 kw_2227 kw_2225 (Nat.le_of_ble_eq_true rfl) (Nat.le_of_ble_eq_true rfl) rfl hl.1 rfl (Nat.le_of_ble_eq_true rfl) dL_law_397 (fun H locs hJ => ?_)
  refine lv_icmp_eq (tgt := 2910) hx hb dL_law_400 (by decide) (fun c96 => ?_) (fun c96 => ?_)
  · rw [if_pos c96] at hf
    exact D2910_23 v0 v1 v2 v3 v4 σ93 o hf Kb Ke0 _ _ hJ ls (lv_sub hl [0, 1, 2, 3, 4] rfl)
  · rw [if_neg c96] at hf
    cases hf
set_option maxHeartbeats 16000000 in
set_option maxRecDepth 100000 in
theorem lw_D446_23 {p : Program} {e : Env} {s : State} {m : MethodId} {below : List Frame} {meth : Method} {c : Code} (l : Launch) (hlt : l.stackTraces = false) {b L : Nat} {xs : Nat → Int32} (C0 : lw_At p s m meth c b L xs) (G : mx_G) (P : mx_P) (σ : mx_S) (hK : mx_K G P s) (hJ : mx_J G P s.heap (mxz σ) (mxu σ) σ s.heap []) (hbE : mpb P = s.heap.size) (hRc : room_1.cells = mpc P - mxz σ) (hRs : room_1.slots = mps P - mxu σ) : ∀ (v0 : Nat) (v1 : Nat) (v2 : Nat) (v3 : Nat) (v4 : Int32) (τ : mx_S) (o : (Int32 × mx_S) ⊕ ((mx_S))), f_L_law_D446_23 P L xs v0 v1 v2 v3 v4 τ = some o → (∀ (y4 : Int32) (υ : mx_S), o = .inl (y4, υ) → ∀ (H : Heap) (locs : List Loc), mx_J G P s.heap (mxz σ) (mxu σ) υ H locs → ∀ ls : Array Slot, lv_has ls 8 [(0, .ref b), (1, .ref v1), (2, .ref v2), (3, .ref v3), (4, .int y4)] → W p l e room_1 s m #[Value.ref b] below meth c H locs (mxz υ - mxz σ) (mxu υ - mxu σ) (lw_Z below #[Value.ref b] s) (F0 m 23 ls [])) → (∀  (υ : mx_S), o = .inr υ → ∀ (H : Heap) (locs : List Loc), mx_J G P s.heap (mxz σ) (mxu σ) υ H locs → ∀ ls : Array Slot, lv_has ls 8 [] → W p l e room_1 s m #[Value.ref b] below meth c H locs (mxz υ - mxz σ) (mxu υ - mxu σ) (lw_Z below #[Value.ref b] s) (F0 m 2916 ls [])) → ∀ (H : Heap) (locs : List Loc), mx_J G P s.heap (mxz σ) (mxu σ) τ H locs → ∀ ls : Array Slot, lv_has ls 8 [(0, .ref b), (1, .ref v1), (2, .ref v2), (3, .ref v3), (4, .int v4)] → W p l e room_1 s m #[Value.ref b] below meth c H locs (mxz τ - mxz σ) (mxu τ - mxu σ) (lw_Z below #[Value.ref b] s) (F0 m 446 ls []) := by
  obtain ⟨hx, hb, hr, hml, hown, hts, hX, hbl, hlocks, hgv⟩ := id C0
  have hts : ∀ w ∈ mx_tbl, w.before #[Value.ref b] s = true := fun w hw => hts w (List.mem_filter.mp hw).1
  have hz0 := hJ.2.1
  have hbP : b < mpb P := by omega
  have hC : mpc P - mxz σ ≤ room_1.cells := Nat.le_of_eq hRc.symm
  have hS : mps P - mxu σ ≤ room_1.slots := Nat.le_of_eq hRs.symm
  have hown : s.vm.findClass RLn = some m.cls := hown
  have D2910_23 := @lw_D2910_23 p e s m below meth c l hlt b L xs C0 G P σ hK hJ hbE hRc hRs
  intro v0 v1 v2 v3 v4 τ o hf Kb Ke0 H locs hJ ls hl
  unfold f_L_law_D446_23 at hf
  refine lv_goto (tgt := 2910) hx hb dL_law_446 (by decide) ?_
  exact D2910_23 v0 v1 v2 v3 v4 τ o hf Kb Ke0 _ _ hJ ls (lv_sub hl [0, 1, 2, 3, 4] rfl)
set_option maxHeartbeats 16000000 in
set_option maxRecDepth 100000 in
theorem lw_D405_23 {p : Program} {e : Env} {s : State} {m : MethodId} {below : List Frame} {meth : Method} {c : Code} (l : Launch) (hlt : l.stackTraces = false) {b L : Nat} {xs : Nat → Int32} (C0 : lw_At p s m meth c b L xs) (G : mx_G) (P : mx_P) (σ : mx_S) (hK : mx_K G P s) (hJ : mx_J G P s.heap (mxz σ) (mxu σ) σ s.heap []) (hbE : mpb P = s.heap.size) (hRc : room_1.cells = mpc P - mxz σ) (hRs : room_1.slots = mps P - mxu σ) : ∀ (v0 : Nat) (v1 : Nat) (v2 : Nat) (v3 : Nat) (v4 : Int32) (τ : mx_S) (o : (Int32 × mx_S) ⊕ ((mx_S))), f_L_law_D405_23 P L xs v0 v1 v2 v3 v4 τ = some o → (∀ (y4 : Int32) (υ : mx_S), o = .inl (y4, υ) → ∀ (H : Heap) (locs : List Loc), mx_J G P s.heap (mxz σ) (mxu σ) υ H locs → ∀ ls : Array Slot, lv_has ls 8 [(0, .ref b), (1, .ref v1), (2, .ref v2), (3, .ref v3), (4, .int y4)] → W p l e room_1 s m #[Value.ref b] below meth c H locs (mxz υ - mxz σ) (mxu υ - mxu σ) (lw_Z below #[Value.ref b] s) (F0 m 23 ls [])) → (∀  (υ : mx_S), o = .inr υ → ∀ (H : Heap) (locs : List Loc), mx_J G P s.heap (mxz σ) (mxu σ) υ H locs → ∀ ls : Array Slot, lv_has ls 8 [] → W p l e room_1 s m #[Value.ref b] below meth c H locs (mxz υ - mxz σ) (mxu υ - mxu σ) (lw_Z below #[Value.ref b] s) (F0 m 2916 ls [])) → ∀ (H : Heap) (locs : List Loc), mx_J G P s.heap (mxz σ) (mxu σ) τ H locs → ∀ ls : Array Slot, lv_has ls 8 [(0, .ref b), (1, .ref v1), (2, .ref v2), (3, .ref v3), (4, .int v4)] → W p l e room_1 s m #[Value.ref b] below meth c H locs (mxz τ - mxz σ) (mxu τ - mxu σ) (lw_Z below #[Value.ref b] s) (F0 m 405 ls []) := by
  obtain ⟨hx, hb, hr, hml, hown, hts, hX, hbl, hlocks, hgv⟩ := id C0
  have hts : ∀ w ∈ mx_tbl, w.before #[Value.ref b] s = true := fun w hw => hts w (List.mem_filter.mp hw).1
  have hz0 := hJ.2.1
  have hbP : b < mpb P := by omega
  have hC : mpc P - mxz σ ≤ room_1.cells := Nat.le_of_eq hRc.symm
  have hS : mps P - mxu σ ≤ room_1.slots := Nat.le_of_eq hRs.symm
  have hown : s.vm.findClass RLn = some m.cls := hown
  have D446_23 := @lw_D446_23 p e s m below meth c l hlt b L xs C0 G P σ hK hJ hbE hRc hRs
  intro v0 v1 v2 v3 v4 τ o hf Kb Ke0 H locs hJ ls hl
  unfold f_L_law_D405_23 at hf
  refine lv_aload_n hx hb dL_law_405 rfl (lv_at hl 1 rfl) ?_
  refine lv_aload_n hx hb dL_law_406 rfl (lv_at hl 3 rfl) ?_
  obtain ⟨x99, σ98, e100, hf⟩ := mc0 hf
  refine mx_callSW (As := [.ref v1, .ref v3]) (rest := []) hx hb hml hts hown hK hJ hRc hRs (c_L_linkage l hlt G P v1 v3 τ x99 σ98 e100) mw_L_linkage kw_1023 kw_1022 (Nat.le_of_ble_eq_true rfl) (Nat.le_of_ble_eq_true rfl) rfl hl.1 rfl (Nat.le_of_ble_eq_true rfl) dL_law_407 (fun H locs hJ => ?_)
  refine lv_istore (lv' := [(5, .int x99), (0, .ref b), (1, .ref v1), (2, .ref v2), (3, .ref v3), (4, .int v4)]) hx hb dL_law_410 hl (by decide) rfl (fun ls hl => ?_)
  refine lv_aload_n hx hb dL_law_412 rfl (lv_at hl 3 rfl) ?_
  obtain ⟨i101, e102, hf⟩ := mb0 hf
  obtain ⟨x104, σ103, e105, hf⟩ := mc0 hf
  refine mx_callV (As := []) (rest := []) hx hb hml hts hown hK hJ hRc hRs (ci := 12) rfl e102 (c_X12_linkage l G P v2 σ98 x104 σ103 e105) me_X12_linkage kw_2230 kw_2231 kw_2229 (Nat.le_of_ble_eq_true rfl) (Nat.le_of_ble_eq_true rfl) rfl hl.1 rfl (Nat.le_of_ble_eq_true rfl) dL_law_413 (fun H locs hJ => ?_)
  refine lv_istore (lv' := [(6, .int x104), (5, .int x99), (0, .ref b), (1, .ref v1), (2, .ref v2), (3, .ref v3), (4, .int v4)]) hx hb dL_law_416 hl (by decide) rfl (fun ls hl => ?_)
  refine lv_aload_n hx hb dL_law_418 rfl (lv_at hl 4 rfl) ?_
  obtain ⟨i106, e107, hf⟩ := mb0 hf
  obtain ⟨x109, σ108, e110, hf⟩ := mc0 hf
  refine mx_callV (As := []) (rest := []) hx hb hml hts hown hK hJ hRc hRs (ci := 12) rfl e107 (c_X12_thrown l G P v2 σ103 x109 σ108 e110) me_X12_thrown kw_2207 kw_2208 kw_2206 (Nat.le_of_ble_eq_true rfl) (Nat.le_of_ble_eq_true rfl) rfl hl.1 rfl (Nat.le_of_ble_eq_true rfl) dL_law_419 (fun H locs hJ => ?_)
  refine lv_iload hx hb dL_law_422 (lv_at hl 1 rfl) ?_
  refine lv_icmp_eq (tgt := 429) hx hb dL_law_424 (by decide) (fun c111 => ?_) (fun c111 => ?_)
  · rw [if_pos c111] at hf
    refine lv_iload hx hb dL_law_429 (lv_at hl 1 rfl) ?_
    refine lv_if_ne (tgt := 446) hx hb dL_law_431 (by decide) (fun c112 => ?_) (fun c112 => ?_)
    · rw [if_neg c112] at hf
      exact D446_23 v0 v1 v2 v3 v4 σ108 o hf Kb Ke0 _ _ hJ ls (lv_sub hl [2, 3, 4, 5, 6] rfl)
    · rw [if_pos c112] at hf
      refine lv_aload_n hx hb dL_law_434 rfl (lv_at hl 5 rfl) ?_
      refine lv_iconst (v := 0) hx hb dL_law_435 (by decide) ?_
      obtain ⟨x113, e114, hf⟩ := mb0 hf
      refine mx_aL hx hb hK hJ e114 dL_law_436 ?_
      refine lv_iload hx hb dL_law_437 (lv_at hl 0 rfl) ?_
      refine lv_i2l hx hb dL_law_439 rfl ?_
      refine W.lcmp hx hb dL_law_440 ?_
      refine lv_if_eq (tgt := 446) hx hb dL_law_441 (by decide) (fun c115 => ?_) (fun c115 => ?_)
      · rw [if_pos c115] at hf
        exact D446_23 v0 v1 v2 v3 v4 σ108 o hf Kb Ke0 _ _ hJ ls (lv_sub hl [2, 3, 4, 5, 6] rfl)
      · rw [if_neg c115] at hf
        cases hf
  · rw [if_neg c111] at hf
    cases hf
set_option maxHeartbeats 16000000 in
set_option maxRecDepth 100000 in
theorem lw_D449_23 {p : Program} {e : Env} {s : State} {m : MethodId} {below : List Frame} {meth : Method} {c : Code} (l : Launch) (hlt : l.stackTraces = false) {b L : Nat} {xs : Nat → Int32} (C0 : lw_At p s m meth c b L xs) (G : mx_G) (P : mx_P) (σ : mx_S) (hK : mx_K G P s) (hJ : mx_J G P s.heap (mxz σ) (mxu σ) σ s.heap []) (hbE : mpb P = s.heap.size) (hRc : room_1.cells = mpc P - mxz σ) (hRs : room_1.slots = mps P - mxu σ) : ∀ (v0 : Nat) (v1 : Nat) (v2 : Nat) (v3 : Nat) (v4 : Int32) (τ : mx_S) (o : (Int32 × mx_S) ⊕ ((mx_S))), f_L_law_D449_23 P L xs v0 v1 v2 v3 v4 τ = some o → (∀ (y4 : Int32) (υ : mx_S), o = .inl (y4, υ) → ∀ (H : Heap) (locs : List Loc), mx_J G P s.heap (mxz σ) (mxu σ) υ H locs → ∀ ls : Array Slot, lv_has ls 8 [(0, .ref b), (1, .ref v1), (2, .ref v2), (3, .ref v3), (4, .int y4)] → W p l e room_1 s m #[Value.ref b] below meth c H locs (mxz υ - mxz σ) (mxu υ - mxu σ) (lw_Z below #[Value.ref b] s) (F0 m 23 ls [])) → (∀  (υ : mx_S), o = .inr υ → ∀ (H : Heap) (locs : List Loc), mx_J G P s.heap (mxz σ) (mxu σ) υ H locs → ∀ ls : Array Slot, lv_has ls 8 [] → W p l e room_1 s m #[Value.ref b] below meth c H locs (mxz υ - mxz σ) (mxu υ - mxu σ) (lw_Z below #[Value.ref b] s) (F0 m 2916 ls [])) → ∀ (H : Heap) (locs : List Loc), mx_J G P s.heap (mxz σ) (mxu σ) τ H locs → ∀ ls : Array Slot, lv_has ls 8 [(0, .ref b), (1, .ref v1), (2, .ref v2), (3, .ref v3), (4, .int v4)] → W p l e room_1 s m #[Value.ref b] below meth c H locs (mxz τ - mxz σ) (mxu τ - mxu σ) (lw_Z below #[Value.ref b] s) (F0 m 449 ls []) := by
  obtain ⟨hx, hb, hr, hml, hown, hts, hX, hbl, hlocks, hgv⟩ := id C0
  have hts : ∀ w ∈ mx_tbl, w.before #[Value.ref b] s = true := fun w hw => hts w (List.mem_filter.mp hw).1
  have hz0 := hJ.2.1
  have hbP : b < mpb P := by omega
  have hC : mpc P - mxz σ ≤ room_1.cells := Nat.le_of_eq hRc.symm
  have hS : mps P - mxu σ ≤ room_1.slots := Nat.le_of_eq hRs.symm
  have hown : s.vm.findClass RLn = some m.cls := hown
  have D2910_23 := @lw_D2910_23 p e s m below meth c l hlt b L xs C0 G P σ hK hJ hbE hRc hRs
  intro v0 v1 v2 v3 v4 τ o hf Kb Ke0 H locs hJ ls hl
  unfold f_L_law_D449_23 at hf
  refine lv_aload_n hx hb dL_law_449 rfl (lv_at hl 1 rfl) ?_
  obtain ⟨i117, e118, hf⟩ := mb0 hf
  obtain ⟨x120, σ119, e121, hf⟩ := mc0 hf
  refine mx_callV (As := []) (rest := []) hx hb hml hts hown hK hJ hRc hRs (ci := 11) rfl e118 (c_X11_point l G P v1 τ x120 σ119 e121) me_X11_point kw_628 kw_629 kw_627 (Nat.le_of_ble_eq_true rfl) (Nat.le_of_ble_eq_true rfl) rfl hl.1 rfl (Nat.le_of_ble_eq_true rfl) dL_law_450 (fun H locs hJ => ?_)
  refine lv_aload_n hx hb dL_law_453 rfl (lv_at hl 2 rfl) ?_
  obtain ⟨i122, e123, hf⟩ := mb0 hf
  obtain ⟨x125, σ124, e126, hf⟩ := mc0 hf
  refine mx_callV (As := []) (rest := [.int x120]) hx hb hml hts hown hK hJ hRc hRs (ci := 12) rfl e123 (c_X12_point l G P v2 σ119 x125 σ124 e126) me_X12_point kw_2347 kw_2348 kw_2346 (Nat.le_of_ble_eq_true rfl) (Nat.le_of_ble_eq_true rfl) rfl hl.1 rfl (Nat.le_of_ble_eq_true rfl) dL_law_454 (fun H locs hJ => ?_)
  refine lv_icmp_eq (tgt := 2910) hx hb dL_law_457 (by decide) (fun c127 => ?_) (fun c127 => ?_)
  · rw [if_pos c127] at hf
    exact D2910_23 v0 v1 v2 v3 v4 σ124 o hf Kb Ke0 _ _ hJ ls (lv_sub hl [0, 1, 2, 3, 4] rfl)
  · rw [if_neg c127] at hf
    cases hf
set_option maxHeartbeats 16000000 in
set_option maxRecDepth 100000 in
theorem lw_D462_23 {p : Program} {e : Env} {s : State} {m : MethodId} {below : List Frame} {meth : Method} {c : Code} (l : Launch) (hlt : l.stackTraces = false) {b L : Nat} {xs : Nat → Int32} (C0 : lw_At p s m meth c b L xs) (G : mx_G) (P : mx_P) (σ : mx_S) (hK : mx_K G P s) (hJ : mx_J G P s.heap (mxz σ) (mxu σ) σ s.heap []) (hbE : mpb P = s.heap.size) (hRc : room_1.cells = mpc P - mxz σ) (hRs : room_1.slots = mps P - mxu σ) : ∀ (v0 : Nat) (v1 : Nat) (v2 : Nat) (v3 : Nat) (v4 : Int32) (τ : mx_S) (o : (Int32 × mx_S) ⊕ ((mx_S))), f_L_law_D462_23 P L xs v0 v1 v2 v3 v4 τ = some o → (∀ (y4 : Int32) (υ : mx_S), o = .inl (y4, υ) → ∀ (H : Heap) (locs : List Loc), mx_J G P s.heap (mxz σ) (mxu σ) υ H locs → ∀ ls : Array Slot, lv_has ls 8 [(0, .ref b), (1, .ref v1), (2, .ref v2), (3, .ref v3), (4, .int y4)] → W p l e room_1 s m #[Value.ref b] below meth c H locs (mxz υ - mxz σ) (mxu υ - mxu σ) (lw_Z below #[Value.ref b] s) (F0 m 23 ls [])) → (∀  (υ : mx_S), o = .inr υ → ∀ (H : Heap) (locs : List Loc), mx_J G P s.heap (mxz σ) (mxu σ) υ H locs → ∀ ls : Array Slot, lv_has ls 8 [] → W p l e room_1 s m #[Value.ref b] below meth c H locs (mxz υ - mxz σ) (mxu υ - mxu σ) (lw_Z below #[Value.ref b] s) (F0 m 2916 ls [])) → ∀ (H : Heap) (locs : List Loc), mx_J G P s.heap (mxz σ) (mxu σ) τ H locs → ∀ ls : Array Slot, lv_has ls 8 [(0, .ref b), (1, .ref v1), (2, .ref v2), (3, .ref v3), (4, .int v4)] → W p l e room_1 s m #[Value.ref b] below meth c H locs (mxz τ - mxz σ) (mxu τ - mxu σ) (lw_Z below #[Value.ref b] s) (F0 m 462 ls []) := by
  obtain ⟨hx, hb, hr, hml, hown, hts, hX, hbl, hlocks, hgv⟩ := id C0
  have hts : ∀ w ∈ mx_tbl, w.before #[Value.ref b] s = true := fun w hw => hts w (List.mem_filter.mp hw).1
  have hz0 := hJ.2.1
  have hbP : b < mpb P := by omega
  have hC : mpc P - mxz σ ≤ room_1.cells := Nat.le_of_eq hRc.symm
  have hS : mps P - mxu σ ≤ room_1.slots := Nat.le_of_eq hRs.symm
  have hown : s.vm.findClass RLn = some m.cls := hown
  have D2910_23 := @lw_D2910_23 p e s m below meth c l hlt b L xs C0 G P σ hK hJ hbE hRc hRs
  intro v0 v1 v2 v3 v4 τ o hf Kb Ke0 H locs hJ ls hl
  unfold f_L_law_D462_23 at hf
  refine lv_aload_n hx hb dL_law_462 rfl (lv_at hl 1 rfl) ?_
  refine lv_aload_n hx hb dL_law_463 rfl (lv_at hl 0 rfl) ?_
  refine lv_iload hx hb dL_law_464 (lv_at hl 4 rfl) ?_
  refine lv_iconst (v := 1) hx hb dL_law_466 (by decide) ?_
  refine lv_iadd hx hb dL_law_467 ?_
  obtain ⟨x129, e130, hf⟩ := mb0 hf
  refine mx_sld hx hb hX hbl hbP hz0 hJ e130 dL_law_468 ?_
  refine lv_aload_n hx hb dL_law_469 rfl (lv_at hl 0 rfl) ?_
  refine lv_iload hx hb dL_law_470 (lv_at hl 4 rfl) ?_
  refine lv_iconst (v := 2) hx hb dL_law_472 (by decide) ?_
  refine lv_iadd hx hb dL_law_473 ?_
  obtain ⟨x131, e132, hf⟩ := mb0 hf
  refine mx_sld hx hb hX hbl hbP hz0 hJ e132 dL_law_474 ?_
  obtain ⟨x134, σ133, e135, hf⟩ := mc0 hf
  refine mx_callSW (As := [.ref v1, .int x129, .int x131]) (rest := []) hx hb hml hts hown hK hJ hRc hRs (c_L_input l hlt G P v1 x129 x131 τ x134 σ133 e135) mw_L_input kw_1224 kw_1223 (Nat.le_of_ble_eq_true rfl) (Nat.le_of_ble_eq_true rfl) rfl hl.1 rfl (Nat.le_of_ble_eq_true rfl) dL_law_475 (fun H locs hJ => ?_)
  refine lv_istore (lv' := [(5, .int x134), (0, .ref b), (1, .ref v1), (2, .ref v2), (3, .ref v3), (4, .int v4)]) hx hb dL_law_478 hl (by decide) rfl (fun ls hl => ?_)
  refine lv_aload_n hx hb dL_law_480 rfl (lv_at hl 3 rfl) ?_
  refine lv_aload_n hx hb dL_law_481 rfl (lv_at hl 1 rfl) ?_
  refine lv_iload hx hb dL_law_482 (lv_at hl 5 rfl) ?_
  refine lv_iconst (v := 1) hx hb dL_law_484 (by decide) ?_
  refine lv_iadd hx hb dL_law_485 ?_
  obtain ⟨x136, e137, hf⟩ := mb0 hf
  refine mx_sld hx hb hX hbl hbP hz0 hJ e137 dL_law_486 ?_
  refine lv_aload_n hx hb dL_law_487 rfl (lv_at hl 1 rfl) ?_
  refine lv_iload hx hb dL_law_488 (lv_at hl 5 rfl) ?_
  refine lv_iconst (v := 2) hx hb dL_law_490 (by decide) ?_
  refine lv_iadd hx hb dL_law_491 ?_
  obtain ⟨x138, e139, hf⟩ := mb0 hf
  refine mx_sld hx hb hX hbl hbP hz0 hJ e139 dL_law_492 ?_
  obtain ⟨i140, e141, hf⟩ := mb0 hf
  obtain ⟨σ142, e143, hf⟩ := mb0 hf
  refine mx_callV (As := [.int x136, .int x138]) (rest := []) hx hb hml hts hown hK hJ hRc hRs (ci := 12) rfl e141 (c_X12_input l G P v2 x136 x138 σ133 σ142 e143) me_X12_input kw_2351 kw_2352 kw_2350 (Nat.le_of_ble_eq_true rfl) (Nat.le_of_ble_eq_true rfl) rfl hl.1 rfl (Nat.le_of_ble_eq_true rfl) dL_law_493 (fun H locs hJ => ?_)
  refine lv_aload_n hx hb dL_law_496 rfl (lv_at hl 3 rfl) ?_
  obtain ⟨i144, e145, hf⟩ := mb0 hf
  obtain ⟨x147, σ146, e148, hf⟩ := mc0 hf
  refine mx_callV (As := []) (rest := []) hx hb hml hts hown hK hJ hRc hRs (ci := 12) rfl e145 (c_X12_thrown l G P v2 σ142 x147 σ146 e148) me_X12_thrown kw_2207 kw_2208 kw_2206 (Nat.le_of_ble_eq_true rfl) (Nat.le_of_ble_eq_true rfl) rfl hl.1 rfl (Nat.le_of_ble_eq_true rfl) dL_law_497 (fun H locs hJ => ?_)
  refine lv_iload hx hb dL_law_500 (lv_at hl 0 rfl) ?_
  refine lv_icmp_eq (tgt := 507) hx hb dL_law_502 (by decide) (fun c149 => ?_) (fun c149 => ?_)
  · rw [if_pos c149] at hf
    refine lv_goto (tgt := 2910) hx hb dL_law_507 (by decide) ?_
    exact D2910_23 v0 v1 v2 v3 v4 σ146 o hf Kb Ke0 _ _ hJ ls (lv_sub hl [1, 2, 3, 4, 5] rfl)
  · rw [if_neg c149] at hf
    cases hf
set_option maxHeartbeats 16000000 in
set_option maxRecDepth 100000 in
theorem lw_D510_23 {p : Program} {e : Env} {s : State} {m : MethodId} {below : List Frame} {meth : Method} {c : Code} (l : Launch) (hlt : l.stackTraces = false) {b L : Nat} {xs : Nat → Int32} (C0 : lw_At p s m meth c b L xs) (G : mx_G) (P : mx_P) (σ : mx_S) (hK : mx_K G P s) (hJ : mx_J G P s.heap (mxz σ) (mxu σ) σ s.heap []) (hbE : mpb P = s.heap.size) (hRc : room_1.cells = mpc P - mxz σ) (hRs : room_1.slots = mps P - mxu σ) : ∀ (v0 : Nat) (v1 : Nat) (v2 : Nat) (v3 : Nat) (v4 : Int32) (τ : mx_S) (o : (Int32 × mx_S) ⊕ ((mx_S))), f_L_law_D510_23 P L xs v0 v1 v2 v3 v4 τ = some o → (∀ (y4 : Int32) (υ : mx_S), o = .inl (y4, υ) → ∀ (H : Heap) (locs : List Loc), mx_J G P s.heap (mxz σ) (mxu σ) υ H locs → ∀ ls : Array Slot, lv_has ls 8 [(0, .ref b), (1, .ref v1), (2, .ref v2), (3, .ref v3), (4, .int y4)] → W p l e room_1 s m #[Value.ref b] below meth c H locs (mxz υ - mxz σ) (mxu υ - mxu σ) (lw_Z below #[Value.ref b] s) (F0 m 23 ls [])) → (∀  (υ : mx_S), o = .inr υ → ∀ (H : Heap) (locs : List Loc), mx_J G P s.heap (mxz σ) (mxu σ) υ H locs → ∀ ls : Array Slot, lv_has ls 8 [] → W p l e room_1 s m #[Value.ref b] below meth c H locs (mxz υ - mxz σ) (mxu υ - mxu σ) (lw_Z below #[Value.ref b] s) (F0 m 2916 ls [])) → ∀ (H : Heap) (locs : List Loc), mx_J G P s.heap (mxz σ) (mxu σ) τ H locs → ∀ ls : Array Slot, lv_has ls 8 [(0, .ref b), (1, .ref v1), (2, .ref v2), (3, .ref v3), (4, .int v4)] → W p l e room_1 s m #[Value.ref b] below meth c H locs (mxz τ - mxz σ) (mxu τ - mxu σ) (lw_Z below #[Value.ref b] s) (F0 m 510 ls []) := by
  obtain ⟨hx, hb, hr, hml, hown, hts, hX, hbl, hlocks, hgv⟩ := id C0
  have hts : ∀ w ∈ mx_tbl, w.before #[Value.ref b] s = true := fun w hw => hts w (List.mem_filter.mp hw).1
  have hz0 := hJ.2.1
  have hbP : b < mpb P := by omega
  have hC : mpc P - mxz σ ≤ room_1.cells := Nat.le_of_eq hRc.symm
  have hS : mps P - mxu σ ≤ room_1.slots := Nat.le_of_eq hRs.symm
  have hown : s.vm.findClass RLn = some m.cls := hown
  have D2910_23 := @lw_D2910_23 p e s m below meth c l hlt b L xs C0 G P σ hK hJ hbE hRc hRs
  intro v0 v1 v2 v3 v4 τ o hf Kb Ke0 H locs hJ ls hl
  unfold f_L_law_D510_23 at hf
  refine lv_aload_n hx hb dL_law_510 rfl (lv_at hl 1 rfl) ?_
  obtain ⟨i151, e152, hf⟩ := mb0 hf
  obtain ⟨x154, σ153, e155, hf⟩ := mc0 hf
  refine mx_callV (As := []) (rest := []) hx hb hml hts hown hK hJ hRc hRs (ci := 11) rfl e152 (c_X11_ways l G P v1 τ x154 σ153 e155) me_X11_ways kw_647 kw_648 kw_646 (Nat.le_of_ble_eq_true rfl) (Nat.le_of_ble_eq_true rfl) rfl hl.1 rfl (Nat.le_of_ble_eq_true rfl) dL_law_511 (fun H locs hJ => ?_)
  refine lv_aload_n hx hb dL_law_514 rfl (lv_at hl 2 rfl) ?_
  obtain ⟨i156, e157, hf⟩ := mb0 hf
  obtain ⟨x159, σ158, e160, hf⟩ := mc0 hf
  refine mx_callV (As := []) (rest := [.int x154]) hx hb hml hts hown hK hJ hRc hRs (ci := 12) rfl e157 (c_X12_ways l G P v2 σ153 x159 σ158 e160) me_X12_ways kw_2357 kw_2358 kw_2356 (Nat.le_of_ble_eq_true rfl) (Nat.le_of_ble_eq_true rfl) rfl hl.1 rfl (Nat.le_of_ble_eq_true rfl) dL_law_515 (fun H locs hJ => ?_)
  refine lv_icmp_eq (tgt := 2910) hx hb dL_law_518 (by decide) (fun c161 => ?_) (fun c161 => ?_)
  · rw [if_pos c161] at hf
    exact D2910_23 v0 v1 v2 v3 v4 σ158 o hf Kb Ke0 _ _ hJ ls (lv_sub hl [0, 1, 2, 3, 4] rfl)
  · rw [if_neg c161] at hf
    cases hf
set_option maxHeartbeats 16000000 in
set_option maxRecDepth 100000 in
theorem lw_D588_23 {p : Program} {e : Env} {s : State} {m : MethodId} {below : List Frame} {meth : Method} {c : Code} (l : Launch) (hlt : l.stackTraces = false) {b L : Nat} {xs : Nat → Int32} (C0 : lw_At p s m meth c b L xs) (G : mx_G) (P : mx_P) (σ : mx_S) (hK : mx_K G P s) (hJ : mx_J G P s.heap (mxz σ) (mxu σ) σ s.heap []) (hbE : mpb P = s.heap.size) (hRc : room_1.cells = mpc P - mxz σ) (hRs : room_1.slots = mps P - mxu σ) : ∀ (v0 : Nat) (v1 : Nat) (v2 : Nat) (v3 : Nat) (v4 : Int32) (τ : mx_S) (o : (Int32 × mx_S) ⊕ ((mx_S))), f_L_law_D588_23 P L xs v0 v1 v2 v3 v4 τ = some o → (∀ (y4 : Int32) (υ : mx_S), o = .inl (y4, υ) → ∀ (H : Heap) (locs : List Loc), mx_J G P s.heap (mxz σ) (mxu σ) υ H locs → ∀ ls : Array Slot, lv_has ls 8 [(0, .ref b), (1, .ref v1), (2, .ref v2), (3, .ref v3), (4, .int y4)] → W p l e room_1 s m #[Value.ref b] below meth c H locs (mxz υ - mxz σ) (mxu υ - mxu σ) (lw_Z below #[Value.ref b] s) (F0 m 23 ls [])) → (∀  (υ : mx_S), o = .inr υ → ∀ (H : Heap) (locs : List Loc), mx_J G P s.heap (mxz σ) (mxu σ) υ H locs → ∀ ls : Array Slot, lv_has ls 8 [] → W p l e room_1 s m #[Value.ref b] below meth c H locs (mxz υ - mxz σ) (mxu υ - mxu σ) (lw_Z below #[Value.ref b] s) (F0 m 2916 ls [])) → ∀ (H : Heap) (locs : List Loc), mx_J G P s.heap (mxz σ) (mxu σ) τ H locs → ∀ ls : Array Slot, lv_has ls 8 [(0, .ref b), (1, .ref v1), (2, .ref v2), (3, .ref v3), (4, .int v4)] → W p l e room_1 s m #[Value.ref b] below meth c H locs (mxz τ - mxz σ) (mxu τ - mxu σ) (lw_Z below #[Value.ref b] s) (F0 m 588 ls []) := by
  obtain ⟨hx, hb, hr, hml, hown, hts, hX, hbl, hlocks, hgv⟩ := id C0
  have hts : ∀ w ∈ mx_tbl, w.before #[Value.ref b] s = true := fun w hw => hts w (List.mem_filter.mp hw).1
  have hz0 := hJ.2.1
  have hbP : b < mpb P := by omega
  have hC : mpc P - mxz σ ≤ room_1.cells := Nat.le_of_eq hRc.symm
  have hS : mps P - mxu σ ≤ room_1.slots := Nat.le_of_eq hRs.symm
  have hown : s.vm.findClass RLn = some m.cls := hown
  have D2910_23 := @lw_D2910_23 p e s m below meth c l hlt b L xs C0 G P σ hK hJ hbE hRc hRs
  intro v0 v1 v2 v3 v4 τ o hf Kb Ke0 H locs hJ ls hl
  unfold f_L_law_D588_23 at hf
  refine lv_goto (tgt := 2910) hx hb dL_law_588 (by decide) ?_
  exact D2910_23 v0 v1 v2 v3 v4 τ o hf Kb Ke0 _ _ hJ ls (lv_sub hl [0, 1, 2, 3, 4] rfl)
set_option maxHeartbeats 16000000 in
set_option maxRecDepth 100000 in
theorem lw_D523_23 {p : Program} {e : Env} {s : State} {m : MethodId} {below : List Frame} {meth : Method} {c : Code} (l : Launch) (hlt : l.stackTraces = false) {b L : Nat} {xs : Nat → Int32} (C0 : lw_At p s m meth c b L xs) (G : mx_G) (P : mx_P) (σ : mx_S) (hK : mx_K G P s) (hJ : mx_J G P s.heap (mxz σ) (mxu σ) σ s.heap []) (hbE : mpb P = s.heap.size) (hRc : room_1.cells = mpc P - mxz σ) (hRs : room_1.slots = mps P - mxu σ) : ∀ (v0 : Nat) (v1 : Nat) (v2 : Nat) (v3 : Nat) (v4 : Int32) (τ : mx_S) (o : (Int32 × mx_S) ⊕ ((mx_S))), f_L_law_D523_23 P L xs v0 v1 v2 v3 v4 τ = some o → (∀ (y4 : Int32) (υ : mx_S), o = .inl (y4, υ) → ∀ (H : Heap) (locs : List Loc), mx_J G P s.heap (mxz σ) (mxu σ) υ H locs → ∀ ls : Array Slot, lv_has ls 8 [(0, .ref b), (1, .ref v1), (2, .ref v2), (3, .ref v3), (4, .int y4)] → W p l e room_1 s m #[Value.ref b] below meth c H locs (mxz υ - mxz σ) (mxu υ - mxu σ) (lw_Z below #[Value.ref b] s) (F0 m 23 ls [])) → (∀  (υ : mx_S), o = .inr υ → ∀ (H : Heap) (locs : List Loc), mx_J G P s.heap (mxz σ) (mxu σ) υ H locs → ∀ ls : Array Slot, lv_has ls 8 [] → W p l e room_1 s m #[Value.ref b] below meth c H locs (mxz υ - mxz σ) (mxu υ - mxu σ) (lw_Z below #[Value.ref b] s) (F0 m 2916 ls [])) → ∀ (H : Heap) (locs : List Loc), mx_J G P s.heap (mxz σ) (mxu σ) τ H locs → ∀ ls : Array Slot, lv_has ls 8 [(0, .ref b), (1, .ref v1), (2, .ref v2), (3, .ref v3), (4, .int v4)] → W p l e room_1 s m #[Value.ref b] below meth c H locs (mxz τ - mxz σ) (mxu τ - mxu σ) (lw_Z below #[Value.ref b] s) (F0 m 523 ls []) := by
  obtain ⟨hx, hb, hr, hml, hown, hts, hX, hbl, hlocks, hgv⟩ := id C0
  have hts : ∀ w ∈ mx_tbl, w.before #[Value.ref b] s = true := fun w hw => hts w (List.mem_filter.mp hw).1
  have hz0 := hJ.2.1
  have hbP : b < mpb P := by omega
  have hC : mpc P - mxz σ ≤ room_1.cells := Nat.le_of_eq hRc.symm
  have hS : mps P - mxu σ ≤ room_1.slots := Nat.le_of_eq hRs.symm
  have hown : s.vm.findClass RLn = some m.cls := hown
  have D588_23 := @lw_D588_23 p e s m below meth c l hlt b L xs C0 G P σ hK hJ hbE hRc hRs
  intro v0 v1 v2 v3 v4 τ o hf Kb Ke0 H locs hJ ls hl
  unfold f_L_law_D523_23 at hf
  refine lv_aload_n hx hb dL_law_523 rfl (lv_at hl 1 rfl) ?_
  refine lv_aload_n hx hb dL_law_524 rfl (lv_at hl 0 rfl) ?_
  refine lv_iload hx hb dL_law_525 (lv_at hl 4 rfl) ?_
  refine lv_iconst (v := 1) hx hb dL_law_527 (by decide) ?_
  refine lv_iadd hx hb dL_law_528 ?_
  obtain ⟨x163, e164, hf⟩ := mb0 hf
  refine mx_sld hx hb hX hbl hbP hz0 hJ e164 dL_law_529 ?_
  refine lv_aload_n hx hb dL_law_530 rfl (lv_at hl 0 rfl) ?_
  refine lv_iload hx hb dL_law_531 (lv_at hl 4 rfl) ?_
  refine lv_iconst (v := 2) hx hb dL_law_533 (by decide) ?_
  refine lv_iadd hx hb dL_law_534 ?_
  obtain ⟨x165, e166, hf⟩ := mb0 hf
  refine mx_sld hx hb hX hbl hbP hz0 hJ e166 dL_law_535 ?_
  refine lv_aload_n hx hb dL_law_536 rfl (lv_at hl 3 rfl) ?_
  obtain ⟨x168, σ167, e169, hf⟩ := mc0 hf
  refine mx_callSW (As := [.ref v1, .int x163, .int x165, .ref v3]) (rest := []) hx hb hml hts hown hK hJ hRc hRs (c_L_way l hlt G P v1 x163 x165 v3 τ x168 σ167 e169) mw_L_way kw_1232 kw_1231 (Nat.le_of_ble_eq_true rfl) (Nat.le_of_ble_eq_true rfl) rfl hl.1 rfl (Nat.le_of_ble_eq_true rfl) dL_law_537 (fun H locs hJ => ?_)
  refine lv_istore (lv' := [(5, .int x168), (0, .ref b), (1, .ref v1), (2, .ref v2), (3, .ref v3), (4, .int v4)]) hx hb dL_law_540 hl (by decide) rfl (fun ls hl => ?_)
  refine lv_aload_n hx hb dL_law_542 rfl (lv_at hl 3 rfl) ?_
  refine lv_aload_n hx hb dL_law_543 rfl (lv_at hl 1 rfl) ?_
  refine lv_iload hx hb dL_law_544 (lv_at hl 5 rfl) ?_
  refine lv_iconst (v := 1) hx hb dL_law_546 (by decide) ?_
  refine lv_iadd hx hb dL_law_547 ?_
  obtain ⟨x170, e171, hf⟩ := mb0 hf
  refine mx_sld hx hb hX hbl hbP hz0 hJ e171 dL_law_548 ?_
  refine lv_aload_n hx hb dL_law_549 rfl (lv_at hl 1 rfl) ?_
  refine lv_iload hx hb dL_law_550 (lv_at hl 5 rfl) ?_
  refine lv_iconst (v := 2) hx hb dL_law_552 (by decide) ?_
  refine lv_iadd hx hb dL_law_553 ?_
  obtain ⟨x172, e173, hf⟩ := mb0 hf
  refine mx_sld hx hb hX hbl hbP hz0 hJ e173 dL_law_554 ?_
  obtain ⟨i174, e175, hf⟩ := mb0 hf
  obtain ⟨x177, σ176, e178, hf⟩ := mc0 hf
  refine mx_callV (As := [.int x170, .int x172]) (rest := []) hx hb hml hts hown hK hJ hRc hRs (ci := 12) rfl e175 (c_X12_way l G P v2 x170 x172 σ167 x177 σ176 e178) me_X12_way kw_2488 kw_2489 kw_2487 (Nat.le_of_ble_eq_true rfl) (Nat.le_of_ble_eq_true rfl) rfl hl.1 rfl (Nat.le_of_ble_eq_true rfl) dL_law_555 (fun H locs hJ => ?_)
  refine lv_istore (lv' := [(6, .int x177), (5, .int x168), (0, .ref b), (1, .ref v1), (2, .ref v2), (3, .ref v3), (4, .int v4)]) hx hb dL_law_558 hl (by decide) rfl (fun ls hl => ?_)
  refine lv_aload_n hx hb dL_law_560 rfl (lv_at hl 4 rfl) ?_
  obtain ⟨i179, e180, hf⟩ := mb0 hf
  obtain ⟨x182, σ181, e183, hf⟩ := mc0 hf
  refine mx_callV (As := []) (rest := []) hx hb hml hts hown hK hJ hRc hRs (ci := 12) rfl e180 (c_X12_thrown l G P v2 σ176 x182 σ181 e183) me_X12_thrown kw_2207 kw_2208 kw_2206 (Nat.le_of_ble_eq_true rfl) (Nat.le_of_ble_eq_true rfl) rfl hl.1 rfl (Nat.le_of_ble_eq_true rfl) dL_law_561 (fun H locs hJ => ?_)
  refine lv_iload hx hb dL_law_564 (lv_at hl 1 rfl) ?_
  refine lv_icmp_eq (tgt := 571) hx hb dL_law_566 (by decide) (fun c184 => ?_) (fun c184 => ?_)
  · rw [if_pos c184] at hf
    refine lv_iload hx hb dL_law_571 (lv_at hl 1 rfl) ?_
    refine lv_if_ne (tgt := 588) hx hb dL_law_573 (by decide) (fun c185 => ?_) (fun c185 => ?_)
    · rw [if_neg c185] at hf
      exact D588_23 v0 v1 v2 v3 v4 σ181 o hf Kb Ke0 _ _ hJ ls (lv_sub hl [2, 3, 4, 5, 6] rfl)
    · rw [if_pos c185] at hf
      refine lv_aload_n hx hb dL_law_576 rfl (lv_at hl 5 rfl) ?_
      refine lv_iconst (v := 0) hx hb dL_law_577 (by decide) ?_
      obtain ⟨x186, e187, hf⟩ := mb0 hf
      refine mx_aL hx hb hK hJ e187 dL_law_578 ?_
      refine lv_iload hx hb dL_law_579 (lv_at hl 0 rfl) ?_
      refine lv_i2l hx hb dL_law_581 rfl ?_
      refine W.lcmp hx hb dL_law_582 ?_
      refine lv_if_eq (tgt := 588) hx hb dL_law_583 (by decide) (fun c188 => ?_) (fun c188 => ?_)
      · rw [if_pos c188] at hf
        exact D588_23 v0 v1 v2 v3 v4 σ181 o hf Kb Ke0 _ _ hJ ls (lv_sub hl [2, 3, 4, 5, 6] rfl)
      · rw [if_neg c188] at hf
        cases hf
  · rw [if_neg c184] at hf
    cases hf
set_option maxHeartbeats 16000000 in
set_option maxRecDepth 100000 in
theorem lw_D679_23 {p : Program} {e : Env} {s : State} {m : MethodId} {below : List Frame} {meth : Method} {c : Code} (l : Launch) (hlt : l.stackTraces = false) {b L : Nat} {xs : Nat → Int32} (C0 : lw_At p s m meth c b L xs) (G : mx_G) (P : mx_P) (σ : mx_S) (hK : mx_K G P s) (hJ : mx_J G P s.heap (mxz σ) (mxu σ) σ s.heap []) (hbE : mpb P = s.heap.size) (hRc : room_1.cells = mpc P - mxz σ) (hRs : room_1.slots = mps P - mxu σ) : ∀ (v0 : Nat) (v1 : Nat) (v2 : Nat) (v3 : Nat) (v4 : Int32) (τ : mx_S) (o : (Int32 × mx_S) ⊕ ((mx_S))), f_L_law_D679_23 P L xs v0 v1 v2 v3 v4 τ = some o → (∀ (y4 : Int32) (υ : mx_S), o = .inl (y4, υ) → ∀ (H : Heap) (locs : List Loc), mx_J G P s.heap (mxz σ) (mxu σ) υ H locs → ∀ ls : Array Slot, lv_has ls 8 [(0, .ref b), (1, .ref v1), (2, .ref v2), (3, .ref v3), (4, .int y4)] → W p l e room_1 s m #[Value.ref b] below meth c H locs (mxz υ - mxz σ) (mxu υ - mxu σ) (lw_Z below #[Value.ref b] s) (F0 m 23 ls [])) → (∀  (υ : mx_S), o = .inr υ → ∀ (H : Heap) (locs : List Loc), mx_J G P s.heap (mxz σ) (mxu σ) υ H locs → ∀ ls : Array Slot, lv_has ls 8 [] → W p l e room_1 s m #[Value.ref b] below meth c H locs (mxz υ - mxz σ) (mxu υ - mxu σ) (lw_Z below #[Value.ref b] s) (F0 m 2916 ls [])) → ∀ (H : Heap) (locs : List Loc), mx_J G P s.heap (mxz σ) (mxu σ) τ H locs → ∀ ls : Array Slot, lv_has ls 8 [(0, .ref b), (1, .ref v1), (2, .ref v2), (3, .ref v3), (4, .int v4)] → W p l e room_1 s m #[Value.ref b] below meth c H locs (mxz τ - mxz σ) (mxu τ - mxu σ) (lw_Z below #[Value.ref b] s) (F0 m 679 ls []) := by
  obtain ⟨hx, hb, hr, hml, hown, hts, hX, hbl, hlocks, hgv⟩ := id C0
  have hts : ∀ w ∈ mx_tbl, w.before #[Value.ref b] s = true := fun w hw => hts w (List.mem_filter.mp hw).1
  have hz0 := hJ.2.1
  have hbP : b < mpb P := by omega
  have hC : mpc P - mxz σ ≤ room_1.cells := Nat.le_of_eq hRc.symm
  have hS : mps P - mxu σ ≤ room_1.slots := Nat.le_of_eq hRs.symm
  have hown : s.vm.findClass RLn = some m.cls := hown
  have D2910_23 := @lw_D2910_23 p e s m below meth c l hlt b L xs C0 G P σ hK hJ hbE hRc hRs
  intro v0 v1 v2 v3 v4 τ o hf Kb Ke0 H locs hJ ls hl
  unfold f_L_law_D679_23 at hf
  refine lv_goto (tgt := 2910) hx hb dL_law_679 (by decide) ?_
  exact D2910_23 v0 v1 v2 v3 v4 τ o hf Kb Ke0 _ _ hJ ls (lv_sub hl [0, 1, 2, 3, 4] rfl)
set_option maxHeartbeats 16000000 in
set_option maxRecDepth 100000 in
theorem lw_D591_23 {p : Program} {e : Env} {s : State} {m : MethodId} {below : List Frame} {meth : Method} {c : Code} (l : Launch) (hlt : l.stackTraces = false) {b L : Nat} {xs : Nat → Int32} (C0 : lw_At p s m meth c b L xs) (G : mx_G) (P : mx_P) (σ : mx_S) (hK : mx_K G P s) (hJ : mx_J G P s.heap (mxz σ) (mxu σ) σ s.heap []) (hbE : mpb P = s.heap.size) (hRc : room_1.cells = mpc P - mxz σ) (hRs : room_1.slots = mps P - mxu σ) : ∀ (v0 : Nat) (v1 : Nat) (v2 : Nat) (v3 : Nat) (v4 : Int32) (τ : mx_S) (o : (Int32 × mx_S) ⊕ ((mx_S))), f_L_law_D591_23 P L xs v0 v1 v2 v3 v4 τ = some o → (∀ (y4 : Int32) (υ : mx_S), o = .inl (y4, υ) → ∀ (H : Heap) (locs : List Loc), mx_J G P s.heap (mxz σ) (mxu σ) υ H locs → ∀ ls : Array Slot, lv_has ls 8 [(0, .ref b), (1, .ref v1), (2, .ref v2), (3, .ref v3), (4, .int y4)] → W p l e room_1 s m #[Value.ref b] below meth c H locs (mxz υ - mxz σ) (mxu υ - mxu σ) (lw_Z below #[Value.ref b] s) (F0 m 23 ls [])) → (∀  (υ : mx_S), o = .inr υ → ∀ (H : Heap) (locs : List Loc), mx_J G P s.heap (mxz σ) (mxu σ) υ H locs → ∀ ls : Array Slot, lv_has ls 8 [] → W p l e room_1 s m #[Value.ref b] below meth c H locs (mxz υ - mxz σ) (mxu υ - mxu σ) (lw_Z below #[Value.ref b] s) (F0 m 2916 ls [])) → ∀ (H : Heap) (locs : List Loc), mx_J G P s.heap (mxz σ) (mxu σ) τ H locs → ∀ ls : Array Slot, lv_has ls 8 [(0, .ref b), (1, .ref v1), (2, .ref v2), (3, .ref v3), (4, .int v4)] → W p l e room_1 s m #[Value.ref b] below meth c H locs (mxz τ - mxz σ) (mxu τ - mxu σ) (lw_Z below #[Value.ref b] s) (F0 m 591 ls []) := by
  obtain ⟨hx, hb, hr, hml, hown, hts, hX, hbl, hlocks, hgv⟩ := id C0
  have hts : ∀ w ∈ mx_tbl, w.before #[Value.ref b] s = true := fun w hw => hts w (List.mem_filter.mp hw).1
  have hz0 := hJ.2.1
  have hbP : b < mpb P := by omega
  have hC : mpc P - mxz σ ≤ room_1.cells := Nat.le_of_eq hRc.symm
  have hS : mps P - mxu σ ≤ room_1.slots := Nat.le_of_eq hRs.symm
  have hown : s.vm.findClass RLn = some m.cls := hown
  have D679_23 := @lw_D679_23 p e s m below meth c l hlt b L xs C0 G P σ hK hJ hbE hRc hRs
  intro v0 v1 v2 v3 v4 τ o hf Kb Ke0 H locs hJ ls hl
  unfold f_L_law_D591_23 at hf
  refine lv_aload_n hx hb dL_law_591 rfl (lv_at hl 1 rfl) ?_
  refine lv_aload_n hx hb dL_law_592 rfl (lv_at hl 0 rfl) ?_
  refine lv_iload hx hb dL_law_593 (lv_at hl 4 rfl) ?_
  refine lv_iconst (v := 1) hx hb dL_law_595 (by decide) ?_
  refine lv_iadd hx hb dL_law_596 ?_
  obtain ⟨x190, e191, hf⟩ := mb0 hf
  refine mx_sld hx hb hX hbl hbP hz0 hJ e191 dL_law_597 ?_
  refine lv_aload_n hx hb dL_law_598 rfl (lv_at hl 0 rfl) ?_
  refine lv_iload hx hb dL_law_599 (lv_at hl 4 rfl) ?_
  refine lv_iconst (v := 2) hx hb dL_law_601 (by decide) ?_
  refine lv_iadd hx hb dL_law_602 ?_
  obtain ⟨x192, e193, hf⟩ := mb0 hf
  refine mx_sld hx hb hX hbl hbP hz0 hJ e193 dL_law_603 ?_
  refine lv_aload_n hx hb dL_law_604 rfl (lv_at hl 0 rfl) ?_
  refine lv_iload hx hb dL_law_605 (lv_at hl 4 rfl) ?_
  refine lv_iconst (v := 3) hx hb dL_law_607 (by decide) ?_
  refine lv_iadd hx hb dL_law_608 ?_
  obtain ⟨x194, e195, hf⟩ := mb0 hf
  refine mx_sld hx hb hX hbl hbP hz0 hJ e195 dL_law_609 ?_
  refine lv_aload_n hx hb dL_law_610 rfl (lv_at hl 0 rfl) ?_
  refine lv_iload hx hb dL_law_611 (lv_at hl 4 rfl) ?_
  refine lv_iconst (v := 4) hx hb dL_law_613 (by decide) ?_
  refine lv_iadd hx hb dL_law_614 ?_
  obtain ⟨x196, e197, hf⟩ := mb0 hf
  refine mx_sld hx hb hX hbl hbP hz0 hJ e197 dL_law_615 ?_
  refine lv_aload_n hx hb dL_law_616 rfl (lv_at hl 3 rfl) ?_
  obtain ⟨x199, σ198, e200, hf⟩ := mc0 hf
  refine mx_callSW (As := [.ref v1, .int x190, .int x192, .int x194, .int x196, .ref v3]) (rest := []) hx hb hml hts hown hK hJ hRc hRs (c_L_at l hlt G P v1 x190 x192 x194 x196 v3 τ x199 σ198 e200) mw_L_at kw_1261 kw_1260 (Nat.le_of_ble_eq_true rfl) (Nat.le_of_ble_eq_true rfl) rfl hl.1 rfl (Nat.le_of_ble_eq_true rfl) dL_law_617 (fun H locs hJ => ?_)
  refine lv_istore (lv' := [(5, .int x199), (0, .ref b), (1, .ref v1), (2, .ref v2), (3, .ref v3), (4, .int v4)]) hx hb dL_law_620 hl (by decide) rfl (fun ls hl => ?_)
  refine lv_aload_n hx hb dL_law_622 rfl (lv_at hl 3 rfl) ?_
  refine lv_aload_n hx hb dL_law_623 rfl (lv_at hl 1 rfl) ?_
  refine lv_iload hx hb dL_law_624 (lv_at hl 5 rfl) ?_
  refine lv_iconst (v := 1) hx hb dL_law_626 (by decide) ?_
  refine lv_iadd hx hb dL_law_627 ?_
  obtain ⟨x201, e202, hf⟩ := mb0 hf
  refine mx_sld hx hb hX hbl hbP hz0 hJ e202 dL_law_628 ?_
  refine lv_aload_n hx hb dL_law_629 rfl (lv_at hl 1 rfl) ?_
  refine lv_iload hx hb dL_law_630 (lv_at hl 5 rfl) ?_
  refine lv_iconst (v := 2) hx hb dL_law_632 (by decide) ?_
  refine lv_iadd hx hb dL_law_633 ?_
  obtain ⟨x203, e204, hf⟩ := mb0 hf
  refine mx_sld hx hb hX hbl hbP hz0 hJ e204 dL_law_634 ?_
  refine lv_aload_n hx hb dL_law_635 rfl (lv_at hl 1 rfl) ?_
  refine lv_iload hx hb dL_law_636 (lv_at hl 5 rfl) ?_
  refine lv_iconst (v := 3) hx hb dL_law_638 (by decide) ?_
  refine lv_iadd hx hb dL_law_639 ?_
  obtain ⟨x205, e206, hf⟩ := mb0 hf
  refine mx_sld hx hb hX hbl hbP hz0 hJ e206 dL_law_640 ?_
  refine lv_aload_n hx hb dL_law_641 rfl (lv_at hl 1 rfl) ?_
  refine lv_iload hx hb dL_law_642 (lv_at hl 5 rfl) ?_
  refine lv_iconst (v := 4) hx hb dL_law_644 (by decide) ?_
  refine lv_iadd hx hb dL_law_645 ?_
  obtain ⟨x207, e208, hf⟩ := mb0 hf
  refine mx_sld hx hb hX hbl hbP hz0 hJ e208 dL_law_646 ?_
  obtain ⟨i209, e210, hf⟩ := mb0 hf
  obtain ⟨x212, σ211, e213, hf⟩ := mc0 hf
  refine mx_callV (As := [.int x201, .int x203, .int x205, .int x207]) (rest := []) hx hb hml hts hown hK hJ hRc hRs (ci := 12) rfl e210 (c_X12_at l G P v2 x201 x203 x205 x207 σ198 x212 σ211 e213) me_X12_at kw_2492 kw_2493 kw_2491 (Nat.le_of_ble_eq_true rfl) (Nat.le_of_ble_eq_true rfl) rfl hl.1 rfl (Nat.le_of_ble_eq_true rfl) dL_law_647 (fun H locs hJ => ?_)
  refine lv_lstore (lv' := [(6, .long x212), (5, .int x199), (0, .ref b), (1, .ref v1), (2, .ref v2), (3, .ref v3), (4, .int v4)]) hx hb dL_law_650 hl (by decide) rfl (fun ls hl => ?_)
  refine lv_aload_n hx hb dL_law_652 rfl (lv_at hl 4 rfl) ?_
  obtain ⟨i214, e215, hf⟩ := mb0 hf
  obtain ⟨x217, σ216, e218, hf⟩ := mc0 hf
  refine mx_callV (As := []) (rest := []) hx hb hml hts hown hK hJ hRc hRs (ci := 12) rfl e215 (c_X12_thrown l G P v2 σ211 x217 σ216 e218) me_X12_thrown kw_2207 kw_2208 kw_2206 (Nat.le_of_ble_eq_true rfl) (Nat.le_of_ble_eq_true rfl) rfl hl.1 rfl (Nat.le_of_ble_eq_true rfl) dL_law_653 (fun H locs hJ => ?_)
  refine lv_iload hx hb dL_law_656 (lv_at hl 1 rfl) ?_
  refine lv_icmp_eq (tgt := 663) hx hb dL_law_658 (by decide) (fun c219 => ?_) (fun c219 => ?_)
  · rw [if_pos c219] at hf
    refine lv_iload hx hb dL_law_663 (lv_at hl 1 rfl) ?_
    refine lv_if_ne (tgt := 679) hx hb dL_law_665 (by decide) (fun c220 => ?_) (fun c220 => ?_)
    · rw [if_neg c220] at hf
      exact D679_23 v0 v1 v2 v3 v4 σ216 o hf Kb Ke0 _ _ hJ ls (lv_sub hl [2, 3, 4, 5, 6] rfl)
    · rw [if_pos c220] at hf
      refine lv_aload_n hx hb dL_law_668 rfl (lv_at hl 5 rfl) ?_
      refine lv_iconst (v := 0) hx hb dL_law_669 (by decide) ?_
      obtain ⟨x221, e222, hf⟩ := mb0 hf
      refine mx_aL hx hb hK hJ e222 dL_law_670 ?_
      refine lv_lload hx hb dL_law_671 (lv_at hl 0 rfl) ?_
      refine W.lcmp hx hb dL_law_673 ?_
      refine lv_if_eq (tgt := 679) hx hb dL_law_674 (by decide) (fun c223 => ?_) (fun c223 => ?_)
      · rw [if_pos c223] at hf
        exact D679_23 v0 v1 v2 v3 v4 σ216 o hf Kb Ke0 _ _ hJ ls (lv_sub hl [2, 3, 4, 5, 6] rfl)
      · rw [if_neg c223] at hf
        cases hf
  · rw [if_neg c219] at hf
    cases hf
set_option maxHeartbeats 16000000 in
set_option maxRecDepth 100000 in
theorem lw_D759_23 {p : Program} {e : Env} {s : State} {m : MethodId} {below : List Frame} {meth : Method} {c : Code} (l : Launch) (hlt : l.stackTraces = false) {b L : Nat} {xs : Nat → Int32} (C0 : lw_At p s m meth c b L xs) (G : mx_G) (P : mx_P) (σ : mx_S) (hK : mx_K G P s) (hJ : mx_J G P s.heap (mxz σ) (mxu σ) σ s.heap []) (hbE : mpb P = s.heap.size) (hRc : room_1.cells = mpc P - mxz σ) (hRs : room_1.slots = mps P - mxu σ) : ∀ (v0 : Nat) (v1 : Nat) (v2 : Nat) (v3 : Nat) (v4 : Int32) (τ : mx_S) (o : (Int32 × mx_S) ⊕ ((mx_S))), f_L_law_D759_23 P L xs v0 v1 v2 v3 v4 τ = some o → (∀ (y4 : Int32) (υ : mx_S), o = .inl (y4, υ) → ∀ (H : Heap) (locs : List Loc), mx_J G P s.heap (mxz σ) (mxu σ) υ H locs → ∀ ls : Array Slot, lv_has ls 8 [(0, .ref b), (1, .ref v1), (2, .ref v2), (3, .ref v3), (4, .int y4)] → W p l e room_1 s m #[Value.ref b] below meth c H locs (mxz υ - mxz σ) (mxu υ - mxu σ) (lw_Z below #[Value.ref b] s) (F0 m 23 ls [])) → (∀  (υ : mx_S), o = .inr υ → ∀ (H : Heap) (locs : List Loc), mx_J G P s.heap (mxz σ) (mxu σ) υ H locs → ∀ ls : Array Slot, lv_has ls 8 [] → W p l e room_1 s m #[Value.ref b] below meth c H locs (mxz υ - mxz σ) (mxu υ - mxu σ) (lw_Z below #[Value.ref b] s) (F0 m 2916 ls [])) → ∀ (H : Heap) (locs : List Loc), mx_J G P s.heap (mxz σ) (mxu σ) τ H locs → ∀ ls : Array Slot, lv_has ls 8 [(0, .ref b), (1, .ref v1), (2, .ref v2), (3, .ref v3), (4, .int v4)] → W p l e room_1 s m #[Value.ref b] below meth c H locs (mxz τ - mxz σ) (mxu τ - mxu σ) (lw_Z below #[Value.ref b] s) (F0 m 759 ls []) := by
  obtain ⟨hx, hb, hr, hml, hown, hts, hX, hbl, hlocks, hgv⟩ := id C0
  have hts : ∀ w ∈ mx_tbl, w.before #[Value.ref b] s = true := fun w hw => hts w (List.mem_filter.mp hw).1
  have hz0 := hJ.2.1
  have hbP : b < mpb P := by omega
  have hC : mpc P - mxz σ ≤ room_1.cells := Nat.le_of_eq hRc.symm
  have hS : mps P - mxu σ ≤ room_1.slots := Nat.le_of_eq hRs.symm
  have hown : s.vm.findClass RLn = some m.cls := hown
  have D2910_23 := @lw_D2910_23 p e s m below meth c l hlt b L xs C0 G P σ hK hJ hbE hRc hRs
  intro v0 v1 v2 v3 v4 τ o hf Kb Ke0 H locs hJ ls hl
  unfold f_L_law_D759_23 at hf
  refine lv_goto (tgt := 2910) hx hb dL_law_759 (by decide) ?_
  exact D2910_23 v0 v1 v2 v3 v4 τ o hf Kb Ke0 _ _ hJ ls (lv_sub hl [0, 1, 2, 3, 4] rfl)
set_option maxHeartbeats 16000000 in
set_option maxRecDepth 100000 in
theorem lw_D682_23 {p : Program} {e : Env} {s : State} {m : MethodId} {below : List Frame} {meth : Method} {c : Code} (l : Launch) (hlt : l.stackTraces = false) {b L : Nat} {xs : Nat → Int32} (C0 : lw_At p s m meth c b L xs) (G : mx_G) (P : mx_P) (σ : mx_S) (hK : mx_K G P s) (hJ : mx_J G P s.heap (mxz σ) (mxu σ) σ s.heap []) (hbE : mpb P = s.heap.size) (hRc : room_1.cells = mpc P - mxz σ) (hRs : room_1.slots = mps P - mxu σ) : ∀ (v0 : Nat) (v1 : Nat) (v2 : Nat) (v3 : Nat) (v4 : Int32) (τ : mx_S) (o : (Int32 × mx_S) ⊕ ((mx_S))), f_L_law_D682_23 P L xs v0 v1 v2 v3 v4 τ = some o → (∀ (y4 : Int32) (υ : mx_S), o = .inl (y4, υ) → ∀ (H : Heap) (locs : List Loc), mx_J G P s.heap (mxz σ) (mxu σ) υ H locs → ∀ ls : Array Slot, lv_has ls 8 [(0, .ref b), (1, .ref v1), (2, .ref v2), (3, .ref v3), (4, .int y4)] → W p l e room_1 s m #[Value.ref b] below meth c H locs (mxz υ - mxz σ) (mxu υ - mxu σ) (lw_Z below #[Value.ref b] s) (F0 m 23 ls [])) → (∀  (υ : mx_S), o = .inr υ → ∀ (H : Heap) (locs : List Loc), mx_J G P s.heap (mxz σ) (mxu σ) υ H locs → ∀ ls : Array Slot, lv_has ls 8 [] → W p l e room_1 s m #[Value.ref b] below meth c H locs (mxz υ - mxz σ) (mxu υ - mxu σ) (lw_Z below #[Value.ref b] s) (F0 m 2916 ls [])) → ∀ (H : Heap) (locs : List Loc), mx_J G P s.heap (mxz σ) (mxu σ) τ H locs → ∀ ls : Array Slot, lv_has ls 8 [(0, .ref b), (1, .ref v1), (2, .ref v2), (3, .ref v3), (4, .int v4)] → W p l e room_1 s m #[Value.ref b] below meth c H locs (mxz τ - mxz σ) (mxu τ - mxu σ) (lw_Z below #[Value.ref b] s) (F0 m 682 ls []) := by
  obtain ⟨hx, hb, hr, hml, hown, hts, hX, hbl, hlocks, hgv⟩ := id C0
  have hts : ∀ w ∈ mx_tbl, w.before #[Value.ref b] s = true := fun w hw => hts w (List.mem_filter.mp hw).1
  have hz0 := hJ.2.1
  have hbP : b < mpb P := by omega
  have hC : mpc P - mxz σ ≤ room_1.cells := Nat.le_of_eq hRc.symm
  have hS : mps P - mxu σ ≤ room_1.slots := Nat.le_of_eq hRs.symm
  have hown : s.vm.findClass RLn = some m.cls := hown
  have D759_23 := @lw_D759_23 p e s m below meth c l hlt b L xs C0 G P σ hK hJ hbE hRc hRs
  intro v0 v1 v2 v3 v4 τ o hf Kb Ke0 H locs hJ ls hl
  unfold f_L_law_D682_23 at hf
  refine lv_aload_n hx hb dL_law_682 rfl (lv_at hl 1 rfl) ?_
  refine lv_aload_n hx hb dL_law_683 rfl (lv_at hl 0 rfl) ?_
  refine lv_iload hx hb dL_law_684 (lv_at hl 4 rfl) ?_
  refine lv_iconst (v := 1) hx hb dL_law_686 (by decide) ?_
  refine lv_iadd hx hb dL_law_687 ?_
  obtain ⟨x225, e226, hf⟩ := mb0 hf
  refine mx_sld hx hb hX hbl hbP hz0 hJ e226 dL_law_688 ?_
  refine lv_aload_n hx hb dL_law_689 rfl (lv_at hl 0 rfl) ?_
  refine lv_iload hx hb dL_law_690 (lv_at hl 4 rfl) ?_
  refine lv_iconst (v := 2) hx hb dL_law_692 (by decide) ?_
  refine lv_iadd hx hb dL_law_693 ?_
  obtain ⟨x227, e228, hf⟩ := mb0 hf
  refine mx_sld hx hb hX hbl hbP hz0 hJ e228 dL_law_694 ?_
  refine lv_aload_n hx hb dL_law_695 rfl (lv_at hl 0 rfl) ?_
  refine lv_iload hx hb dL_law_696 (lv_at hl 4 rfl) ?_
  refine lv_iconst (v := 3) hx hb dL_law_698 (by decide) ?_
  refine lv_iadd hx hb dL_law_699 ?_
  obtain ⟨x229, e230, hf⟩ := mb0 hf
  refine mx_sld hx hb hX hbl hbP hz0 hJ e230 dL_law_700 ?_
  refine lv_aload_n hx hb dL_law_701 rfl (lv_at hl 3 rfl) ?_
  obtain ⟨x232, σ231, e233, hf⟩ := mc0 hf
  refine mx_callSW (As := [.ref v1, .int x225, .int x227, .int x229, .ref v3]) (rest := []) hx hb hml hts hown hK hJ hRc hRs (c_L_step l hlt G P v1 x225 x227 x229 v3 τ x232 σ231 e233) mw_L_step kw_1277 kw_1276 (Nat.le_of_ble_eq_true rfl) (Nat.le_of_ble_eq_true rfl) rfl hl.1 rfl (Nat.le_of_ble_eq_true rfl) dL_law_702 (fun H locs hJ => ?_)
  refine lv_istore (lv' := [(5, .int x232), (0, .ref b), (1, .ref v1), (2, .ref v2), (3, .ref v3), (4, .int v4)]) hx hb dL_law_705 hl (by decide) rfl (fun ls hl => ?_)
  refine lv_aload_n hx hb dL_law_707 rfl (lv_at hl 3 rfl) ?_
  refine lv_aload_n hx hb dL_law_708 rfl (lv_at hl 1 rfl) ?_
  refine lv_iload hx hb dL_law_709 (lv_at hl 5 rfl) ?_
  refine lv_iconst (v := 1) hx hb dL_law_711 (by decide) ?_
  refine lv_iadd hx hb dL_law_712 ?_
  obtain ⟨x234, e235, hf⟩ := mb0 hf
  refine mx_sld hx hb hX hbl hbP hz0 hJ e235 dL_law_713 ?_
  refine lv_aload_n hx hb dL_law_714 rfl (lv_at hl 1 rfl) ?_
  refine lv_iload hx hb dL_law_715 (lv_at hl 5 rfl) ?_
  refine lv_iconst (v := 2) hx hb dL_law_717 (by decide) ?_
  refine lv_iadd hx hb dL_law_718 ?_
  obtain ⟨x236, e237, hf⟩ := mb0 hf
  refine mx_sld hx hb hX hbl hbP hz0 hJ e237 dL_law_719 ?_
  refine lv_aload_n hx hb dL_law_720 rfl (lv_at hl 1 rfl) ?_
  refine lv_iload hx hb dL_law_721 (lv_at hl 5 rfl) ?_
  refine lv_iconst (v := 3) hx hb dL_law_723 (by decide) ?_
  refine lv_iadd hx hb dL_law_724 ?_
  obtain ⟨x238, e239, hf⟩ := mb0 hf
  refine mx_sld hx hb hX hbl hbP hz0 hJ e239 dL_law_725 ?_
  obtain ⟨i240, e241, hf⟩ := mb0 hf
  obtain ⟨x243, σ242, e244, hf⟩ := mc0 hf
  refine mx_callV (As := [.int x234, .int x236, .int x238]) (rest := []) hx hb hml hts hown hK hJ hRc hRs (ci := 12) rfl e241 (c_X12_step l G P v2 x234 x236 x238 σ231 x243 σ242 e244) me_X12_step kw_2505 kw_2506 kw_2504 (Nat.le_of_ble_eq_true rfl) (Nat.le_of_ble_eq_true rfl) rfl hl.1 rfl (Nat.le_of_ble_eq_true rfl) dL_law_726 (fun H locs hJ => ?_)
  refine lv_istore (lv' := [(6, .int x243), (5, .int x232), (0, .ref b), (1, .ref v1), (2, .ref v2), (3, .ref v3), (4, .int v4)]) hx hb dL_law_729 hl (by decide) rfl (fun ls hl => ?_)
  refine lv_aload_n hx hb dL_law_731 rfl (lv_at hl 4 rfl) ?_
  obtain ⟨i245, e246, hf⟩ := mb0 hf
  obtain ⟨x248, σ247, e249, hf⟩ := mc0 hf
  refine mx_callV (As := []) (rest := []) hx hb hml hts hown hK hJ hRc hRs (ci := 12) rfl e246 (c_X12_thrown l G P v2 σ242 x248 σ247 e249) me_X12_thrown kw_2207 kw_2208 kw_2206 (Nat.le_of_ble_eq_true rfl) (Nat.le_of_ble_eq_true rfl) rfl hl.1 rfl (Nat.le_of_ble_eq_true rfl) dL_law_732 (fun H locs hJ => ?_)
  refine lv_iload hx hb dL_law_735 (lv_at hl 1 rfl) ?_
  refine lv_icmp_eq (tgt := 742) hx hb dL_law_737 (by decide) (fun c250 => ?_) (fun c250 => ?_)
  · rw [if_pos c250] at hf
    refine lv_iload hx hb dL_law_742 (lv_at hl 1 rfl) ?_
    refine lv_if_ne (tgt := 759) hx hb dL_law_744 (by decide) (fun c251 => ?_) (fun c251 => ?_)
    · rw [if_neg c251] at hf
      exact D759_23 v0 v1 v2 v3 v4 σ247 o hf Kb Ke0 _ _ hJ ls (lv_sub hl [2, 3, 4, 5, 6] rfl)
    · rw [if_pos c251] at hf
      refine lv_aload_n hx hb dL_law_747 rfl (lv_at hl 5 rfl) ?_
      refine lv_iconst (v := 0) hx hb dL_law_748 (by decide) ?_
      obtain ⟨x252, e253, hf⟩ := mb0 hf
      refine mx_aL hx hb hK hJ e253 dL_law_749 ?_
      refine lv_iload hx hb dL_law_750 (lv_at hl 0 rfl) ?_
      refine lv_i2l hx hb dL_law_752 rfl ?_
      refine W.lcmp hx hb dL_law_753 ?_
      refine lv_if_eq (tgt := 759) hx hb dL_law_754 (by decide) (fun c254 => ?_) (fun c254 => ?_)
      · rw [if_pos c254] at hf
        exact D759_23 v0 v1 v2 v3 v4 σ247 o hf Kb Ke0 _ _ hJ ls (lv_sub hl [2, 3, 4, 5, 6] rfl)
      · rw [if_neg c254] at hf
        cases hf
  · rw [if_neg c250] at hf
    cases hf
set_option maxHeartbeats 16000000 in
set_option maxRecDepth 100000 in
theorem lw_D839_23 {p : Program} {e : Env} {s : State} {m : MethodId} {below : List Frame} {meth : Method} {c : Code} (l : Launch) (hlt : l.stackTraces = false) {b L : Nat} {xs : Nat → Int32} (C0 : lw_At p s m meth c b L xs) (G : mx_G) (P : mx_P) (σ : mx_S) (hK : mx_K G P s) (hJ : mx_J G P s.heap (mxz σ) (mxu σ) σ s.heap []) (hbE : mpb P = s.heap.size) (hRc : room_1.cells = mpc P - mxz σ) (hRs : room_1.slots = mps P - mxu σ) : ∀ (v0 : Nat) (v1 : Nat) (v2 : Nat) (v3 : Nat) (v4 : Int32) (τ : mx_S) (o : (Int32 × mx_S) ⊕ ((mx_S))), f_L_law_D839_23 P L xs v0 v1 v2 v3 v4 τ = some o → (∀ (y4 : Int32) (υ : mx_S), o = .inl (y4, υ) → ∀ (H : Heap) (locs : List Loc), mx_J G P s.heap (mxz σ) (mxu σ) υ H locs → ∀ ls : Array Slot, lv_has ls 8 [(0, .ref b), (1, .ref v1), (2, .ref v2), (3, .ref v3), (4, .int y4)] → W p l e room_1 s m #[Value.ref b] below meth c H locs (mxz υ - mxz σ) (mxu υ - mxu σ) (lw_Z below #[Value.ref b] s) (F0 m 23 ls [])) → (∀  (υ : mx_S), o = .inr υ → ∀ (H : Heap) (locs : List Loc), mx_J G P s.heap (mxz σ) (mxu σ) υ H locs → ∀ ls : Array Slot, lv_has ls 8 [] → W p l e room_1 s m #[Value.ref b] below meth c H locs (mxz υ - mxz σ) (mxu υ - mxu σ) (lw_Z below #[Value.ref b] s) (F0 m 2916 ls [])) → ∀ (H : Heap) (locs : List Loc), mx_J G P s.heap (mxz σ) (mxu σ) τ H locs → ∀ ls : Array Slot, lv_has ls 8 [(0, .ref b), (1, .ref v1), (2, .ref v2), (3, .ref v3), (4, .int v4)] → W p l e room_1 s m #[Value.ref b] below meth c H locs (mxz τ - mxz σ) (mxu τ - mxu σ) (lw_Z below #[Value.ref b] s) (F0 m 839 ls []) := by
  obtain ⟨hx, hb, hr, hml, hown, hts, hX, hbl, hlocks, hgv⟩ := id C0
  have hts : ∀ w ∈ mx_tbl, w.before #[Value.ref b] s = true := fun w hw => hts w (List.mem_filter.mp hw).1
  have hz0 := hJ.2.1
  have hbP : b < mpb P := by omega
  have hC : mpc P - mxz σ ≤ room_1.cells := Nat.le_of_eq hRc.symm
  have hS : mps P - mxu σ ≤ room_1.slots := Nat.le_of_eq hRs.symm
  have hown : s.vm.findClass RLn = some m.cls := hown
  have D2910_23 := @lw_D2910_23 p e s m below meth c l hlt b L xs C0 G P σ hK hJ hbE hRc hRs
  intro v0 v1 v2 v3 v4 τ o hf Kb Ke0 H locs hJ ls hl
  unfold f_L_law_D839_23 at hf
  refine lv_goto (tgt := 2910) hx hb dL_law_839 (by decide) ?_
  exact D2910_23 v0 v1 v2 v3 v4 τ o hf Kb Ke0 _ _ hJ ls (lv_sub hl [0, 1, 2, 3, 4] rfl)
set_option maxHeartbeats 16000000 in
set_option maxRecDepth 100000 in
theorem lw_D762_23 {p : Program} {e : Env} {s : State} {m : MethodId} {below : List Frame} {meth : Method} {c : Code} (l : Launch) (hlt : l.stackTraces = false) {b L : Nat} {xs : Nat → Int32} (C0 : lw_At p s m meth c b L xs) (G : mx_G) (P : mx_P) (σ : mx_S) (hK : mx_K G P s) (hJ : mx_J G P s.heap (mxz σ) (mxu σ) σ s.heap []) (hbE : mpb P = s.heap.size) (hRc : room_1.cells = mpc P - mxz σ) (hRs : room_1.slots = mps P - mxu σ) : ∀ (v0 : Nat) (v1 : Nat) (v2 : Nat) (v3 : Nat) (v4 : Int32) (τ : mx_S) (o : (Int32 × mx_S) ⊕ ((mx_S))), f_L_law_D762_23 P L xs v0 v1 v2 v3 v4 τ = some o → (∀ (y4 : Int32) (υ : mx_S), o = .inl (y4, υ) → ∀ (H : Heap) (locs : List Loc), mx_J G P s.heap (mxz σ) (mxu σ) υ H locs → ∀ ls : Array Slot, lv_has ls 8 [(0, .ref b), (1, .ref v1), (2, .ref v2), (3, .ref v3), (4, .int y4)] → W p l e room_1 s m #[Value.ref b] below meth c H locs (mxz υ - mxz σ) (mxu υ - mxu σ) (lw_Z below #[Value.ref b] s) (F0 m 23 ls [])) → (∀  (υ : mx_S), o = .inr υ → ∀ (H : Heap) (locs : List Loc), mx_J G P s.heap (mxz σ) (mxu σ) υ H locs → ∀ ls : Array Slot, lv_has ls 8 [] → W p l e room_1 s m #[Value.ref b] below meth c H locs (mxz υ - mxz σ) (mxu υ - mxu σ) (lw_Z below #[Value.ref b] s) (F0 m 2916 ls [])) → ∀ (H : Heap) (locs : List Loc), mx_J G P s.heap (mxz σ) (mxu σ) τ H locs → ∀ ls : Array Slot, lv_has ls 8 [(0, .ref b), (1, .ref v1), (2, .ref v2), (3, .ref v3), (4, .int v4)] → W p l e room_1 s m #[Value.ref b] below meth c H locs (mxz τ - mxz σ) (mxu τ - mxu σ) (lw_Z below #[Value.ref b] s) (F0 m 762 ls []) := by
  obtain ⟨hx, hb, hr, hml, hown, hts, hX, hbl, hlocks, hgv⟩ := id C0
  have hts : ∀ w ∈ mx_tbl, w.before #[Value.ref b] s = true := fun w hw => hts w (List.mem_filter.mp hw).1
  have hz0 := hJ.2.1
  have hbP : b < mpb P := by omega
  have hC : mpc P - mxz σ ≤ room_1.cells := Nat.le_of_eq hRc.symm
  have hS : mps P - mxu σ ≤ room_1.slots := Nat.le_of_eq hRs.symm
  have hown : s.vm.findClass RLn = some m.cls := hown
  have D839_23 := @lw_D839_23 p e s m below meth c l hlt b L xs C0 G P σ hK hJ hbE hRc hRs
  intro v0 v1 v2 v3 v4 τ o hf Kb Ke0 H locs hJ ls hl
  unfold f_L_law_D762_23 at hf
  refine lv_aload_n hx hb dL_law_762 rfl (lv_at hl 1 rfl) ?_
  refine lv_aload_n hx hb dL_law_763 rfl (lv_at hl 0 rfl) ?_
  refine lv_iload hx hb dL_law_764 (lv_at hl 4 rfl) ?_
  refine lv_iconst (v := 1) hx hb dL_law_766 (by decide) ?_
  refine lv_iadd hx hb dL_law_767 ?_
  obtain ⟨x256, e257, hf⟩ := mb0 hf
  refine mx_sld hx hb hX hbl hbP hz0 hJ e257 dL_law_768 ?_
  refine lv_aload_n hx hb dL_law_769 rfl (lv_at hl 0 rfl) ?_
  refine lv_iload hx hb dL_law_770 (lv_at hl 4 rfl) ?_
  refine lv_iconst (v := 2) hx hb dL_law_772 (by decide) ?_
  refine lv_iadd hx hb dL_law_773 ?_
  obtain ⟨x258, e259, hf⟩ := mb0 hf
  refine mx_sld hx hb hX hbl hbP hz0 hJ e259 dL_law_774 ?_
  refine lv_aload_n hx hb dL_law_775 rfl (lv_at hl 0 rfl) ?_
  refine lv_iload hx hb dL_law_776 (lv_at hl 4 rfl) ?_
  refine lv_iconst (v := 3) hx hb dL_law_778 (by decide) ?_
  refine lv_iadd hx hb dL_law_779 ?_
  obtain ⟨x260, e261, hf⟩ := mb0 hf
  refine mx_sld hx hb hX hbl hbP hz0 hJ e261 dL_law_780 ?_
  refine lv_aload_n hx hb dL_law_781 rfl (lv_at hl 3 rfl) ?_
  obtain ⟨x263, σ262, e264, hf⟩ := mc0 hf
  refine mx_callSW (As := [.ref v1, .int x256, .int x258, .int x260, .ref v3]) (rest := []) hx hb hml hts hown hK hJ hRc hRs (c_L_range l hlt G P v1 x256 x258 x260 v3 τ x263 σ262 e264) mw_L_range kw_1311 kw_1310 (Nat.le_of_ble_eq_true rfl) (Nat.le_of_ble_eq_true rfl) rfl hl.1 rfl (Nat.le_of_ble_eq_true rfl) dL_law_782 (fun H locs hJ => ?_)
  refine lv_istore (lv' := [(5, .int x263), (0, .ref b), (1, .ref v1), (2, .ref v2), (3, .ref v3), (4, .int v4)]) hx hb dL_law_785 hl (by decide) rfl (fun ls hl => ?_)
  refine lv_aload_n hx hb dL_law_787 rfl (lv_at hl 3 rfl) ?_
  refine lv_aload_n hx hb dL_law_788 rfl (lv_at hl 1 rfl) ?_
  refine lv_iload hx hb dL_law_789 (lv_at hl 5 rfl) ?_
  refine lv_iconst (v := 1) hx hb dL_law_791 (by decide) ?_
  refine lv_iadd hx hb dL_law_792 ?_
  obtain ⟨x265, e266, hf⟩ := mb0 hf
  refine mx_sld hx hb hX hbl hbP hz0 hJ e266 dL_law_793 ?_
  refine lv_aload_n hx hb dL_law_794 rfl (lv_at hl 1 rfl) ?_
  refine lv_iload hx hb dL_law_795 (lv_at hl 5 rfl) ?_
  refine lv_iconst (v := 2) hx hb dL_law_797 (by decide) ?_
  refine lv_iadd hx hb dL_law_798 ?_
  obtain ⟨x267, e268, hf⟩ := mb0 hf
  refine mx_sld hx hb hX hbl hbP hz0 hJ e268 dL_law_799 ?_
  refine lv_aload_n hx hb dL_law_800 rfl (lv_at hl 1 rfl) ?_
  refine lv_iload hx hb dL_law_801 (lv_at hl 5 rfl) ?_
  refine lv_iconst (v := 3) hx hb dL_law_803 (by decide) ?_
  refine lv_iadd hx hb dL_law_804 ?_
  obtain ⟨x269, e270, hf⟩ := mb0 hf
  refine mx_sld hx hb hX hbl hbP hz0 hJ e270 dL_law_805 ?_
  obtain ⟨i271, e272, hf⟩ := mb0 hf
  obtain ⟨x274, σ273, e275, hf⟩ := mc0 hf
  refine mx_callV (As := [.int x265, .int x267, .int x269]) (rest := []) hx hb hml hts hown hK hJ hRc hRs (ci := 12) rfl e272 (c_X12_range l G P v2 x265 x267 x269 σ262 x274 σ273 e275) me_X12_range kw_2514 kw_2515 kw_2513 (Nat.le_of_ble_eq_true rfl) (Nat.le_of_ble_eq_true rfl) rfl hl.1 rfl (Nat.le_of_ble_eq_true rfl) dL_law_806 (fun H locs hJ => ?_)
  refine lv_istore (lv' := [(6, .int x274), (5, .int x263), (0, .ref b), (1, .ref v1), (2, .ref v2), (3, .ref v3), (4, .int v4)]) hx hb dL_law_809 hl (by decide) rfl (fun ls hl => ?_)
  refine lv_aload_n hx hb dL_law_811 rfl (lv_at hl 4 rfl) ?_
  obtain ⟨i276, e277, hf⟩ := mb0 hf
  obtain ⟨x279, σ278, e280, hf⟩ := mc0 hf
  refine mx_callV (As := []) (rest := []) hx hb hml hts hown hK hJ hRc hRs (ci := 12) rfl e277 (c_X12_thrown l G P v2 σ273 x279 σ278 e280) me_X12_thrown kw_2207 kw_2208 kw_2206 (Nat.le_of_ble_eq_true rfl) (Nat.le_of_ble_eq_true rfl) rfl hl.1 rfl (Nat.le_of_ble_eq_true rfl) dL_law_812 (fun H locs hJ => ?_)
  refine lv_iload hx hb dL_law_815 (lv_at hl 1 rfl) ?_
  refine lv_icmp_eq (tgt := 822) hx hb dL_law_817 (by decide) (fun c281 => ?_) (fun c281 => ?_)
  · rw [if_pos c281] at hf
    refine lv_iload hx hb dL_law_822 (lv_at hl 1 rfl) ?_
    refine lv_if_ne (tgt := 839) hx hb dL_law_824 (by decide) (fun c282 => ?_) (fun c282 => ?_)
    · rw [if_neg c282] at hf
      exact D839_23 v0 v1 v2 v3 v4 σ278 o hf Kb Ke0 _ _ hJ ls (lv_sub hl [2, 3, 4, 5, 6] rfl)
    · rw [if_pos c282] at hf
      refine lv_aload_n hx hb dL_law_827 rfl (lv_at hl 5 rfl) ?_
      refine lv_iconst (v := 0) hx hb dL_law_828 (by decide) ?_
      obtain ⟨x283, e284, hf⟩ := mb0 hf
      refine mx_aL hx hb hK hJ e284 dL_law_829 ?_
      refine lv_iload hx hb dL_law_830 (lv_at hl 0 rfl) ?_
      refine lv_i2l hx hb dL_law_832 rfl ?_
      refine W.lcmp hx hb dL_law_833 ?_
      refine lv_if_eq (tgt := 839) hx hb dL_law_834 (by decide) (fun c285 => ?_) (fun c285 => ?_)
      · rw [if_pos c285] at hf
        exact D839_23 v0 v1 v2 v3 v4 σ278 o hf Kb Ke0 _ _ hJ ls (lv_sub hl [2, 3, 4, 5, 6] rfl)
      · rw [if_neg c285] at hf
        cases hf
  · rw [if_neg c281] at hf
    cases hf
set_option maxHeartbeats 16000000 in
set_option maxRecDepth 100000 in
theorem lw_D942_23 {p : Program} {e : Env} {s : State} {m : MethodId} {below : List Frame} {meth : Method} {c : Code} (l : Launch) (hlt : l.stackTraces = false) {b L : Nat} {xs : Nat → Int32} (C0 : lw_At p s m meth c b L xs) (G : mx_G) (P : mx_P) (σ : mx_S) (hK : mx_K G P s) (hJ : mx_J G P s.heap (mxz σ) (mxu σ) σ s.heap []) (hbE : mpb P = s.heap.size) (hRc : room_1.cells = mpc P - mxz σ) (hRs : room_1.slots = mps P - mxu σ) : ∀ (v0 : Nat) (v1 : Nat) (v2 : Nat) (v3 : Nat) (v4 : Int32) (τ : mx_S) (o : (Int32 × mx_S) ⊕ ((mx_S))), f_L_law_D942_23 P L xs v0 v1 v2 v3 v4 τ = some o → (∀ (y4 : Int32) (υ : mx_S), o = .inl (y4, υ) → ∀ (H : Heap) (locs : List Loc), mx_J G P s.heap (mxz σ) (mxu σ) υ H locs → ∀ ls : Array Slot, lv_has ls 8 [(0, .ref b), (1, .ref v1), (2, .ref v2), (3, .ref v3), (4, .int y4)] → W p l e room_1 s m #[Value.ref b] below meth c H locs (mxz υ - mxz σ) (mxu υ - mxu σ) (lw_Z below #[Value.ref b] s) (F0 m 23 ls [])) → (∀  (υ : mx_S), o = .inr υ → ∀ (H : Heap) (locs : List Loc), mx_J G P s.heap (mxz σ) (mxu σ) υ H locs → ∀ ls : Array Slot, lv_has ls 8 [] → W p l e room_1 s m #[Value.ref b] below meth c H locs (mxz υ - mxz σ) (mxu υ - mxu σ) (lw_Z below #[Value.ref b] s) (F0 m 2916 ls [])) → ∀ (H : Heap) (locs : List Loc), mx_J G P s.heap (mxz σ) (mxu σ) τ H locs → ∀ ls : Array Slot, lv_has ls 8 [(0, .ref b), (1, .ref v1), (2, .ref v2), (3, .ref v3), (4, .int v4)] → W p l e room_1 s m #[Value.ref b] below meth c H locs (mxz τ - mxz σ) (mxu τ - mxu σ) (lw_Z below #[Value.ref b] s) (F0 m 942 ls []) := by
  obtain ⟨hx, hb, hr, hml, hown, hts, hX, hbl, hlocks, hgv⟩ := id C0
  have hts : ∀ w ∈ mx_tbl, w.before #[Value.ref b] s = true := fun w hw => hts w (List.mem_filter.mp hw).1
  have hz0 := hJ.2.1
  have hbP : b < mpb P := by omega
  have hC : mpc P - mxz σ ≤ room_1.cells := Nat.le_of_eq hRc.symm
  have hS : mps P - mxu σ ≤ room_1.slots := Nat.le_of_eq hRs.symm
  have hown : s.vm.findClass RLn = some m.cls := hown
  have D2910_23 := @lw_D2910_23 p e s m below meth c l hlt b L xs C0 G P σ hK hJ hbE hRc hRs
  intro v0 v1 v2 v3 v4 τ o hf Kb Ke0 H locs hJ ls hl
  unfold f_L_law_D942_23 at hf
  refine lv_goto (tgt := 2910) hx hb dL_law_942 (by decide) ?_
  exact D2910_23 v0 v1 v2 v3 v4 τ o hf Kb Ke0 _ _ hJ ls (lv_sub hl [0, 1, 2, 3, 4] rfl)
set_option maxHeartbeats 16000000 in
set_option maxRecDepth 100000 in
theorem lw_D842_23 {p : Program} {e : Env} {s : State} {m : MethodId} {below : List Frame} {meth : Method} {c : Code} (l : Launch) (hlt : l.stackTraces = false) {b L : Nat} {xs : Nat → Int32} (C0 : lw_At p s m meth c b L xs) (G : mx_G) (P : mx_P) (σ : mx_S) (hK : mx_K G P s) (hJ : mx_J G P s.heap (mxz σ) (mxu σ) σ s.heap []) (hbE : mpb P = s.heap.size) (hRc : room_1.cells = mpc P - mxz σ) (hRs : room_1.slots = mps P - mxu σ) : ∀ (v0 : Nat) (v1 : Nat) (v2 : Nat) (v3 : Nat) (v4 : Int32) (τ : mx_S) (o : (Int32 × mx_S) ⊕ ((mx_S))), f_L_law_D842_23 P L xs v0 v1 v2 v3 v4 τ = some o → (∀ (y4 : Int32) (υ : mx_S), o = .inl (y4, υ) → ∀ (H : Heap) (locs : List Loc), mx_J G P s.heap (mxz σ) (mxu σ) υ H locs → ∀ ls : Array Slot, lv_has ls 8 [(0, .ref b), (1, .ref v1), (2, .ref v2), (3, .ref v3), (4, .int y4)] → W p l e room_1 s m #[Value.ref b] below meth c H locs (mxz υ - mxz σ) (mxu υ - mxu σ) (lw_Z below #[Value.ref b] s) (F0 m 23 ls [])) → (∀  (υ : mx_S), o = .inr υ → ∀ (H : Heap) (locs : List Loc), mx_J G P s.heap (mxz σ) (mxu σ) υ H locs → ∀ ls : Array Slot, lv_has ls 8 [] → W p l e room_1 s m #[Value.ref b] below meth c H locs (mxz υ - mxz σ) (mxu υ - mxu σ) (lw_Z below #[Value.ref b] s) (F0 m 2916 ls [])) → ∀ (H : Heap) (locs : List Loc), mx_J G P s.heap (mxz σ) (mxu σ) τ H locs → ∀ ls : Array Slot, lv_has ls 8 [(0, .ref b), (1, .ref v1), (2, .ref v2), (3, .ref v3), (4, .int v4)] → W p l e room_1 s m #[Value.ref b] below meth c H locs (mxz τ - mxz σ) (mxu τ - mxu σ) (lw_Z below #[Value.ref b] s) (F0 m 842 ls []) := by
  obtain ⟨hx, hb, hr, hml, hown, hts, hX, hbl, hlocks, hgv⟩ := id C0
  have hts : ∀ w ∈ mx_tbl, w.before #[Value.ref b] s = true := fun w hw => hts w (List.mem_filter.mp hw).1
  have hz0 := hJ.2.1
  have hbP : b < mpb P := by omega
  have hC : mpc P - mxz σ ≤ room_1.cells := Nat.le_of_eq hRc.symm
  have hS : mps P - mxu σ ≤ room_1.slots := Nat.le_of_eq hRs.symm
  have hown : s.vm.findClass RLn = some m.cls := hown
  have D942_23 := @lw_D942_23 p e s m below meth c l hlt b L xs C0 G P σ hK hJ hbE hRc hRs
  intro v0 v1 v2 v3 v4 τ o hf Kb Ke0 H locs hJ ls hl
  unfold f_L_law_D842_23 at hf
  refine lv_aload_n hx hb dL_law_842 rfl (lv_at hl 1 rfl) ?_
  refine lv_aload_n hx hb dL_law_843 rfl (lv_at hl 0 rfl) ?_
  refine lv_iload hx hb dL_law_844 (lv_at hl 4 rfl) ?_
  refine lv_iconst (v := 1) hx hb dL_law_846 (by decide) ?_
  refine lv_iadd hx hb dL_law_847 ?_
  obtain ⟨x287, e288, hf⟩ := mb0 hf
  refine mx_sld hx hb hX hbl hbP hz0 hJ e288 dL_law_848 ?_
  refine lv_aload_n hx hb dL_law_849 rfl (lv_at hl 0 rfl) ?_
  refine lv_iload hx hb dL_law_850 (lv_at hl 4 rfl) ?_
  refine lv_iconst (v := 2) hx hb dL_law_852 (by decide) ?_
  refine lv_iadd hx hb dL_law_853 ?_
  obtain ⟨x289, e290, hf⟩ := mb0 hf
  refine mx_sld hx hb hX hbl hbP hz0 hJ e290 dL_law_854 ?_
  refine lv_aload_n hx hb dL_law_855 rfl (lv_at hl 0 rfl) ?_
  refine lv_iload hx hb dL_law_856 (lv_at hl 4 rfl) ?_
  refine lv_iconst (v := 3) hx hb dL_law_858 (by decide) ?_
  refine lv_iadd hx hb dL_law_859 ?_
  obtain ⟨x291, e292, hf⟩ := mb0 hf
  refine mx_sld hx hb hX hbl hbP hz0 hJ e292 dL_law_860 ?_
  refine lv_aload_n hx hb dL_law_861 rfl (lv_at hl 0 rfl) ?_
  refine lv_iload hx hb dL_law_862 (lv_at hl 4 rfl) ?_
  refine lv_iconst (v := 4) hx hb dL_law_864 (by decide) ?_
  refine lv_iadd hx hb dL_law_865 ?_
  obtain ⟨x293, e294, hf⟩ := mb0 hf
  refine mx_sld hx hb hX hbl hbP hz0 hJ e294 dL_law_866 ?_
  refine lv_aload_n hx hb dL_law_867 rfl (lv_at hl 0 rfl) ?_
  refine lv_iload hx hb dL_law_868 (lv_at hl 4 rfl) ?_
  refine lv_iconst (v := 5) hx hb dL_law_870 (by decide) ?_
  refine lv_iadd hx hb dL_law_871 ?_
  obtain ⟨x295, e296, hf⟩ := mb0 hf
  refine mx_sld hx hb hX hbl hbP hz0 hJ e296 dL_law_872 ?_
  refine lv_aload_n hx hb dL_law_873 rfl (lv_at hl 3 rfl) ?_
  obtain ⟨x298, σ297, e299, hf⟩ := mc0 hf
  refine mx_callSW (As := [.ref v1, .int x287, .int x289, .int x291, .int x293, .int x295, .ref v3]) (rest := []) hx hb hml hts hown hK hJ hRc hRs (c_L_spread l hlt G P v1 x287 x289 x291 x293 x295 v3 τ x298 σ297 e299) mw_L_spread kw_1322 kw_1321 (Nat.le_of_ble_eq_true rfl) (Nat.le_of_ble_eq_true rfl) rfl hl.1 rfl (Nat.le_of_ble_eq_true rfl) dL_law_874 (fun H locs hJ => ?_)
  refine lv_istore (lv' := [(5, .int x298), (0, .ref b), (1, .ref v1), (2, .ref v2), (3, .ref v3), (4, .int v4)]) hx hb dL_law_877 hl (by decide) rfl (fun ls hl => ?_)
  refine lv_aload_n hx hb dL_law_879 rfl (lv_at hl 3 rfl) ?_
  refine lv_aload_n hx hb dL_law_880 rfl (lv_at hl 1 rfl) ?_
  refine lv_iload hx hb dL_law_881 (lv_at hl 5 rfl) ?_
  refine lv_iconst (v := 1) hx hb dL_law_883 (by decide) ?_
  refine lv_iadd hx hb dL_law_884 ?_
  obtain ⟨x300, e301, hf⟩ := mb0 hf
  refine mx_sld hx hb hX hbl hbP hz0 hJ e301 dL_law_885 ?_
  refine lv_aload_n hx hb dL_law_886 rfl (lv_at hl 1 rfl) ?_
  refine lv_iload hx hb dL_law_887 (lv_at hl 5 rfl) ?_
  refine lv_iconst (v := 2) hx hb dL_law_889 (by decide) ?_
  refine lv_iadd hx hb dL_law_890 ?_
  obtain ⟨x302, e303, hf⟩ := mb0 hf
  refine mx_sld hx hb hX hbl hbP hz0 hJ e303 dL_law_891 ?_
  refine lv_aload_n hx hb dL_law_892 rfl (lv_at hl 1 rfl) ?_
  refine lv_iload hx hb dL_law_893 (lv_at hl 5 rfl) ?_
  refine lv_iconst (v := 3) hx hb dL_law_895 (by decide) ?_
  refine lv_iadd hx hb dL_law_896 ?_
  obtain ⟨x304, e305, hf⟩ := mb0 hf
  refine mx_sld hx hb hX hbl hbP hz0 hJ e305 dL_law_897 ?_
  refine lv_aload_n hx hb dL_law_898 rfl (lv_at hl 1 rfl) ?_
  refine lv_iload hx hb dL_law_899 (lv_at hl 5 rfl) ?_
  refine lv_iconst (v := 4) hx hb dL_law_901 (by decide) ?_
  refine lv_iadd hx hb dL_law_902 ?_
  obtain ⟨x306, e307, hf⟩ := mb0 hf
  refine mx_sld hx hb hX hbl hbP hz0 hJ e307 dL_law_903 ?_
  refine lv_aload_n hx hb dL_law_904 rfl (lv_at hl 1 rfl) ?_
  refine lv_iload hx hb dL_law_905 (lv_at hl 5 rfl) ?_
  refine lv_iconst (v := 5) hx hb dL_law_907 (by decide) ?_
  refine lv_iadd hx hb dL_law_908 ?_
  obtain ⟨x308, e309, hf⟩ := mb0 hf
  refine mx_sld hx hb hX hbl hbP hz0 hJ e309 dL_law_909 ?_
  obtain ⟨i310, e311, hf⟩ := mb0 hf
  obtain ⟨x313, σ312, e314, hf⟩ := mc0 hf
  refine mx_callV (As := [.int x300, .int x302, .int x304, .int x306, .int x308]) (rest := []) hx hb hml hts hown hK hJ hRc hRs (ci := 12) rfl e311 (c_X12_spread l G P v2 x300 x302 x304 x306 x308 σ297 x313 σ312 e314) me_X12_spread kw_2522 kw_2523 kw_2521 (Nat.le_of_ble_eq_true rfl) (Nat.le_of_ble_eq_true rfl) rfl hl.1 rfl (Nat.le_of_ble_eq_true rfl) dL_law_910 (fun H locs hJ => ?_)
  refine lv_lstore (lv' := [(6, .long x313), (5, .int x298), (0, .ref b), (1, .ref v1), (2, .ref v2), (3, .ref v3), (4, .int v4)]) hx hb dL_law_913 hl (by decide) rfl (fun ls hl => ?_)
  refine lv_aload_n hx hb dL_law_915 rfl (lv_at hl 4 rfl) ?_
  obtain ⟨i315, e316, hf⟩ := mb0 hf
  obtain ⟨x318, σ317, e319, hf⟩ := mc0 hf
  refine mx_callV (As := []) (rest := []) hx hb hml hts hown hK hJ hRc hRs (ci := 12) rfl e316 (c_X12_thrown l G P v2 σ312 x318 σ317 e319) me_X12_thrown kw_2207 kw_2208 kw_2206 (Nat.le_of_ble_eq_true rfl) (Nat.le_of_ble_eq_true rfl) rfl hl.1 rfl (Nat.le_of_ble_eq_true rfl) dL_law_916 (fun H locs hJ => ?_)
  refine lv_iload hx hb dL_law_919 (lv_at hl 1 rfl) ?_
  refine lv_icmp_eq (tgt := 926) hx hb dL_law_921 (by decide) (fun c320 => ?_) (fun c320 => ?_)
  · rw [if_pos c320] at hf
    refine lv_iload hx hb dL_law_926 (lv_at hl 1 rfl) ?_
    refine lv_if_ne (tgt := 942) hx hb dL_law_928 (by decide) (fun c321 => ?_) (fun c321 => ?_)
    · rw [if_neg c321] at hf
      exact D942_23 v0 v1 v2 v3 v4 σ317 o hf Kb Ke0 _ _ hJ ls (lv_sub hl [2, 3, 4, 5, 6] rfl)
    · rw [if_pos c321] at hf
      refine lv_aload_n hx hb dL_law_931 rfl (lv_at hl 5 rfl) ?_
      refine lv_iconst (v := 0) hx hb dL_law_932 (by decide) ?_
      obtain ⟨x322, e323, hf⟩ := mb0 hf
      refine mx_aL hx hb hK hJ e323 dL_law_933 ?_
      refine lv_lload hx hb dL_law_934 (lv_at hl 0 rfl) ?_
      refine W.lcmp hx hb dL_law_936 ?_
      refine lv_if_eq (tgt := 942) hx hb dL_law_937 (by decide) (fun c324 => ?_) (fun c324 => ?_)
      · rw [if_pos c324] at hf
        exact D942_23 v0 v1 v2 v3 v4 σ317 o hf Kb Ke0 _ _ hJ ls (lv_sub hl [2, 3, 4, 5, 6] rfl)
      · rw [if_neg c324] at hf
        cases hf
  · rw [if_neg c320] at hf
    cases hf
set_option maxHeartbeats 16000000 in
set_option maxRecDepth 100000 in
theorem lw_D1045_23 {p : Program} {e : Env} {s : State} {m : MethodId} {below : List Frame} {meth : Method} {c : Code} (l : Launch) (hlt : l.stackTraces = false) {b L : Nat} {xs : Nat → Int32} (C0 : lw_At p s m meth c b L xs) (G : mx_G) (P : mx_P) (σ : mx_S) (hK : mx_K G P s) (hJ : mx_J G P s.heap (mxz σ) (mxu σ) σ s.heap []) (hbE : mpb P = s.heap.size) (hRc : room_1.cells = mpc P - mxz σ) (hRs : room_1.slots = mps P - mxu σ) : ∀ (v0 : Nat) (v1 : Nat) (v2 : Nat) (v3 : Nat) (v4 : Int32) (τ : mx_S) (o : (Int32 × mx_S) ⊕ ((mx_S))), f_L_law_D1045_23 P L xs v0 v1 v2 v3 v4 τ = some o → (∀ (y4 : Int32) (υ : mx_S), o = .inl (y4, υ) → ∀ (H : Heap) (locs : List Loc), mx_J G P s.heap (mxz σ) (mxu σ) υ H locs → ∀ ls : Array Slot, lv_has ls 8 [(0, .ref b), (1, .ref v1), (2, .ref v2), (3, .ref v3), (4, .int y4)] → W p l e room_1 s m #[Value.ref b] below meth c H locs (mxz υ - mxz σ) (mxu υ - mxu σ) (lw_Z below #[Value.ref b] s) (F0 m 23 ls [])) → (∀  (υ : mx_S), o = .inr υ → ∀ (H : Heap) (locs : List Loc), mx_J G P s.heap (mxz σ) (mxu σ) υ H locs → ∀ ls : Array Slot, lv_has ls 8 [] → W p l e room_1 s m #[Value.ref b] below meth c H locs (mxz υ - mxz σ) (mxu υ - mxu σ) (lw_Z below #[Value.ref b] s) (F0 m 2916 ls [])) → ∀ (H : Heap) (locs : List Loc), mx_J G P s.heap (mxz σ) (mxu σ) τ H locs → ∀ ls : Array Slot, lv_has ls 8 [(0, .ref b), (1, .ref v1), (2, .ref v2), (3, .ref v3), (4, .int v4)] → W p l e room_1 s m #[Value.ref b] below meth c H locs (mxz τ - mxz σ) (mxu τ - mxu σ) (lw_Z below #[Value.ref b] s) (F0 m 1045 ls []) := by
  obtain ⟨hx, hb, hr, hml, hown, hts, hX, hbl, hlocks, hgv⟩ := id C0
  have hts : ∀ w ∈ mx_tbl, w.before #[Value.ref b] s = true := fun w hw => hts w (List.mem_filter.mp hw).1
  have hz0 := hJ.2.1
  have hbP : b < mpb P := by omega
  have hC : mpc P - mxz σ ≤ room_1.cells := Nat.le_of_eq hRc.symm
  have hS : mps P - mxu σ ≤ room_1.slots := Nat.le_of_eq hRs.symm
  have hown : s.vm.findClass RLn = some m.cls := hown
  have D2910_23 := @lw_D2910_23 p e s m below meth c l hlt b L xs C0 G P σ hK hJ hbE hRc hRs
  intro v0 v1 v2 v3 v4 τ o hf Kb Ke0 H locs hJ ls hl
  unfold f_L_law_D1045_23 at hf
  refine lv_goto (tgt := 2910) hx hb dL_law_1045 (by decide) ?_
  exact D2910_23 v0 v1 v2 v3 v4 τ o hf Kb Ke0 _ _ hJ ls (lv_sub hl [0, 1, 2, 3, 4] rfl)
set_option maxHeartbeats 16000000 in
set_option maxRecDepth 100000 in
theorem lw_D945_23 {p : Program} {e : Env} {s : State} {m : MethodId} {below : List Frame} {meth : Method} {c : Code} (l : Launch) (hlt : l.stackTraces = false) {b L : Nat} {xs : Nat → Int32} (C0 : lw_At p s m meth c b L xs) (G : mx_G) (P : mx_P) (σ : mx_S) (hK : mx_K G P s) (hJ : mx_J G P s.heap (mxz σ) (mxu σ) σ s.heap []) (hbE : mpb P = s.heap.size) (hRc : room_1.cells = mpc P - mxz σ) (hRs : room_1.slots = mps P - mxu σ) : ∀ (v0 : Nat) (v1 : Nat) (v2 : Nat) (v3 : Nat) (v4 : Int32) (τ : mx_S) (o : (Int32 × mx_S) ⊕ ((mx_S))), f_L_law_D945_23 P L xs v0 v1 v2 v3 v4 τ = some o → (∀ (y4 : Int32) (υ : mx_S), o = .inl (y4, υ) → ∀ (H : Heap) (locs : List Loc), mx_J G P s.heap (mxz σ) (mxu σ) υ H locs → ∀ ls : Array Slot, lv_has ls 8 [(0, .ref b), (1, .ref v1), (2, .ref v2), (3, .ref v3), (4, .int y4)] → W p l e room_1 s m #[Value.ref b] below meth c H locs (mxz υ - mxz σ) (mxu υ - mxu σ) (lw_Z below #[Value.ref b] s) (F0 m 23 ls [])) → (∀  (υ : mx_S), o = .inr υ → ∀ (H : Heap) (locs : List Loc), mx_J G P s.heap (mxz σ) (mxu σ) υ H locs → ∀ ls : Array Slot, lv_has ls 8 [] → W p l e room_1 s m #[Value.ref b] below meth c H locs (mxz υ - mxz σ) (mxu υ - mxu σ) (lw_Z below #[Value.ref b] s) (F0 m 2916 ls [])) → ∀ (H : Heap) (locs : List Loc), mx_J G P s.heap (mxz σ) (mxu σ) τ H locs → ∀ ls : Array Slot, lv_has ls 8 [(0, .ref b), (1, .ref v1), (2, .ref v2), (3, .ref v3), (4, .int v4)] → W p l e room_1 s m #[Value.ref b] below meth c H locs (mxz τ - mxz σ) (mxu τ - mxu σ) (lw_Z below #[Value.ref b] s) (F0 m 945 ls []) := by
  obtain ⟨hx, hb, hr, hml, hown, hts, hX, hbl, hlocks, hgv⟩ := id C0
  have hts : ∀ w ∈ mx_tbl, w.before #[Value.ref b] s = true := fun w hw => hts w (List.mem_filter.mp hw).1
  have hz0 := hJ.2.1
  have hbP : b < mpb P := by omega
  have hC : mpc P - mxz σ ≤ room_1.cells := Nat.le_of_eq hRc.symm
  have hS : mps P - mxu σ ≤ room_1.slots := Nat.le_of_eq hRs.symm
  have hown : s.vm.findClass RLn = some m.cls := hown
  have D1045_23 := @lw_D1045_23 p e s m below meth c l hlt b L xs C0 G P σ hK hJ hbE hRc hRs
  intro v0 v1 v2 v3 v4 τ o hf Kb Ke0 H locs hJ ls hl
  unfold f_L_law_D945_23 at hf
  refine lv_aload_n hx hb dL_law_945 rfl (lv_at hl 1 rfl) ?_
  refine lv_aload_n hx hb dL_law_946 rfl (lv_at hl 0 rfl) ?_
  refine lv_iload hx hb dL_law_947 (lv_at hl 4 rfl) ?_
  refine lv_iconst (v := 1) hx hb dL_law_949 (by decide) ?_
  refine lv_iadd hx hb dL_law_950 ?_
  obtain ⟨x326, e327, hf⟩ := mb0 hf
  refine mx_sld hx hb hX hbl hbP hz0 hJ e327 dL_law_951 ?_
  refine lv_aload_n hx hb dL_law_952 rfl (lv_at hl 0 rfl) ?_
  refine lv_iload hx hb dL_law_953 (lv_at hl 4 rfl) ?_
  refine lv_iconst (v := 2) hx hb dL_law_955 (by decide) ?_
  refine lv_iadd hx hb dL_law_956 ?_
  obtain ⟨x328, e329, hf⟩ := mb0 hf
  refine mx_sld hx hb hX hbl hbP hz0 hJ e329 dL_law_957 ?_
  refine lv_aload_n hx hb dL_law_958 rfl (lv_at hl 0 rfl) ?_
  refine lv_iload hx hb dL_law_959 (lv_at hl 4 rfl) ?_
  refine lv_iconst (v := 3) hx hb dL_law_961 (by decide) ?_
  refine lv_iadd hx hb dL_law_962 ?_
  obtain ⟨x330, e331, hf⟩ := mb0 hf
  refine mx_sld hx hb hX hbl hbP hz0 hJ e331 dL_law_963 ?_
  refine lv_aload_n hx hb dL_law_964 rfl (lv_at hl 0 rfl) ?_
  refine lv_iload hx hb dL_law_965 (lv_at hl 4 rfl) ?_
  refine lv_iconst (v := 4) hx hb dL_law_967 (by decide) ?_
  refine lv_iadd hx hb dL_law_968 ?_
  obtain ⟨x332, e333, hf⟩ := mb0 hf
  refine mx_sld hx hb hX hbl hbP hz0 hJ e333 dL_law_969 ?_
  refine lv_aload_n hx hb dL_law_970 rfl (lv_at hl 0 rfl) ?_
  refine lv_iload hx hb dL_law_971 (lv_at hl 4 rfl) ?_
  refine lv_iconst (v := 5) hx hb dL_law_973 (by decide) ?_
  refine lv_iadd hx hb dL_law_974 ?_
  obtain ⟨x334, e335, hf⟩ := mb0 hf
  refine mx_sld hx hb hX hbl hbP hz0 hJ e335 dL_law_975 ?_
  refine lv_aload_n hx hb dL_law_976 rfl (lv_at hl 3 rfl) ?_
  obtain ⟨x337, σ336, e338, hf⟩ := mc0 hf
  refine mx_callSW (As := [.ref v1, .int x326, .int x328, .int x330, .int x332, .int x334, .ref v3]) (rest := []) hx hb hml hts hown hK hJ hRc hRs (c_L_least l hlt G P v1 x326 x328 x330 x332 x334 v3 τ x337 σ336 e338) mw_L_least kw_1336 kw_1335 (Nat.le_of_ble_eq_true rfl) (Nat.le_of_ble_eq_true rfl) rfl hl.1 rfl (Nat.le_of_ble_eq_true rfl) dL_law_977 (fun H locs hJ => ?_)
  refine lv_istore (lv' := [(5, .int x337), (0, .ref b), (1, .ref v1), (2, .ref v2), (3, .ref v3), (4, .int v4)]) hx hb dL_law_980 hl (by decide) rfl (fun ls hl => ?_)
  refine lv_aload_n hx hb dL_law_982 rfl (lv_at hl 3 rfl) ?_
  refine lv_aload_n hx hb dL_law_983 rfl (lv_at hl 1 rfl) ?_
  refine lv_iload hx hb dL_law_984 (lv_at hl 5 rfl) ?_
  refine lv_iconst (v := 1) hx hb dL_law_986 (by decide) ?_
  refine lv_iadd hx hb dL_law_987 ?_
  obtain ⟨x339, e340, hf⟩ := mb0 hf
  refine mx_sld hx hb hX hbl hbP hz0 hJ e340 dL_law_988 ?_
  refine lv_aload_n hx hb dL_law_989 rfl (lv_at hl 1 rfl) ?_
  refine lv_iload hx hb dL_law_990 (lv_at hl 5 rfl) ?_
  refine lv_iconst (v := 2) hx hb dL_law_992 (by decide) ?_
  refine lv_iadd hx hb dL_law_993 ?_
  obtain ⟨x341, e342, hf⟩ := mb0 hf
  refine mx_sld hx hb hX hbl hbP hz0 hJ e342 dL_law_994 ?_
  refine lv_aload_n hx hb dL_law_995 rfl (lv_at hl 1 rfl) ?_
  refine lv_iload hx hb dL_law_996 (lv_at hl 5 rfl) ?_
  refine lv_iconst (v := 3) hx hb dL_law_998 (by decide) ?_
  refine lv_iadd hx hb dL_law_999 ?_
  obtain ⟨x343, e344, hf⟩ := mb0 hf
  refine mx_sld hx hb hX hbl hbP hz0 hJ e344 dL_law_1000 ?_
  refine lv_aload_n hx hb dL_law_1001 rfl (lv_at hl 1 rfl) ?_
  refine lv_iload hx hb dL_law_1002 (lv_at hl 5 rfl) ?_
  refine lv_iconst (v := 4) hx hb dL_law_1004 (by decide) ?_
  refine lv_iadd hx hb dL_law_1005 ?_
  obtain ⟨x345, e346, hf⟩ := mb0 hf
  refine mx_sld hx hb hX hbl hbP hz0 hJ e346 dL_law_1006 ?_
  refine lv_aload_n hx hb dL_law_1007 rfl (lv_at hl 1 rfl) ?_
  refine lv_iload hx hb dL_law_1008 (lv_at hl 5 rfl) ?_
  refine lv_iconst (v := 5) hx hb dL_law_1010 (by decide) ?_
  refine lv_iadd hx hb dL_law_1011 ?_
  obtain ⟨x347, e348, hf⟩ := mb0 hf
  refine mx_sld hx hb hX hbl hbP hz0 hJ e348 dL_law_1012 ?_
  obtain ⟨i349, e350, hf⟩ := mb0 hf
  obtain ⟨x352, σ351, e353, hf⟩ := mc0 hf
  refine mx_callV (As := [.int x339, .int x341, .int x343, .int x345, .int x347]) (rest := []) hx hb hml hts hown hK hJ hRc hRs (ci := 12) rfl e350 (c_X12_least l G P v2 x339 x341 x343 x345 x347 σ336 x352 σ351 e353) me_X12_least kw_2526 kw_2527 kw_2525 (Nat.le_of_ble_eq_true rfl) (Nat.le_of_ble_eq_true rfl) rfl hl.1 rfl (Nat.le_of_ble_eq_true rfl) dL_law_1013 (fun H locs hJ => ?_)
  refine lv_lstore (lv' := [(6, .long x352), (5, .int x337), (0, .ref b), (1, .ref v1), (2, .ref v2), (3, .ref v3), (4, .int v4)]) hx hb dL_law_1016 hl (by decide) rfl (fun ls hl => ?_)
  refine lv_aload_n hx hb dL_law_1018 rfl (lv_at hl 4 rfl) ?_
  obtain ⟨i354, e355, hf⟩ := mb0 hf
  obtain ⟨x357, σ356, e358, hf⟩ := mc0 hf
  refine mx_callV (As := []) (rest := []) hx hb hml hts hown hK hJ hRc hRs (ci := 12) rfl e355 (c_X12_thrown l G P v2 σ351 x357 σ356 e358) me_X12_thrown kw_2207 kw_2208 kw_2206 (Nat.le_of_ble_eq_true rfl) (Nat.le_of_ble_eq_true rfl) rfl hl.1 rfl (Nat.le_of_ble_eq_true rfl) dL_law_1019 (fun H locs hJ => ?_)
  refine lv_iload hx hb dL_law_1022 (lv_at hl 1 rfl) ?_
  refine lv_icmp_eq (tgt := 1029) hx hb dL_law_1024 (by decide) (fun c359 => ?_) (fun c359 => ?_)
  · rw [if_pos c359] at hf
    refine lv_iload hx hb dL_law_1029 (lv_at hl 1 rfl) ?_
    refine lv_if_ne (tgt := 1045) hx hb dL_law_1031 (by decide) (fun c360 => ?_) (fun c360 => ?_)
    · rw [if_neg c360] at hf
      exact D1045_23 v0 v1 v2 v3 v4 σ356 o hf Kb Ke0 _ _ hJ ls (lv_sub hl [2, 3, 4, 5, 6] rfl)
    · rw [if_pos c360] at hf
      refine lv_aload_n hx hb dL_law_1034 rfl (lv_at hl 5 rfl) ?_
      refine lv_iconst (v := 0) hx hb dL_law_1035 (by decide) ?_
      obtain ⟨x361, e362, hf⟩ := mb0 hf
      refine mx_aL hx hb hK hJ e362 dL_law_1036 ?_
      refine lv_lload hx hb dL_law_1037 (lv_at hl 0 rfl) ?_
      refine W.lcmp hx hb dL_law_1039 ?_
      refine lv_if_eq (tgt := 1045) hx hb dL_law_1040 (by decide) (fun c363 => ?_) (fun c363 => ?_)
      · rw [if_pos c363] at hf
        exact D1045_23 v0 v1 v2 v3 v4 σ356 o hf Kb Ke0 _ _ hJ ls (lv_sub hl [2, 3, 4, 5, 6] rfl)
      · rw [if_neg c363] at hf
        cases hf
  · rw [if_neg c359] at hf
    cases hf
set_option maxHeartbeats 16000000 in
set_option maxRecDepth 100000 in
theorem lw_D1148_23 {p : Program} {e : Env} {s : State} {m : MethodId} {below : List Frame} {meth : Method} {c : Code} (l : Launch) (hlt : l.stackTraces = false) {b L : Nat} {xs : Nat → Int32} (C0 : lw_At p s m meth c b L xs) (G : mx_G) (P : mx_P) (σ : mx_S) (hK : mx_K G P s) (hJ : mx_J G P s.heap (mxz σ) (mxu σ) σ s.heap []) (hbE : mpb P = s.heap.size) (hRc : room_1.cells = mpc P - mxz σ) (hRs : room_1.slots = mps P - mxu σ) : ∀ (v0 : Nat) (v1 : Nat) (v2 : Nat) (v3 : Nat) (v4 : Int32) (τ : mx_S) (o : (Int32 × mx_S) ⊕ ((mx_S))), f_L_law_D1148_23 P L xs v0 v1 v2 v3 v4 τ = some o → (∀ (y4 : Int32) (υ : mx_S), o = .inl (y4, υ) → ∀ (H : Heap) (locs : List Loc), mx_J G P s.heap (mxz σ) (mxu σ) υ H locs → ∀ ls : Array Slot, lv_has ls 8 [(0, .ref b), (1, .ref v1), (2, .ref v2), (3, .ref v3), (4, .int y4)] → W p l e room_1 s m #[Value.ref b] below meth c H locs (mxz υ - mxz σ) (mxu υ - mxu σ) (lw_Z below #[Value.ref b] s) (F0 m 23 ls [])) → (∀  (υ : mx_S), o = .inr υ → ∀ (H : Heap) (locs : List Loc), mx_J G P s.heap (mxz σ) (mxu σ) υ H locs → ∀ ls : Array Slot, lv_has ls 8 [] → W p l e room_1 s m #[Value.ref b] below meth c H locs (mxz υ - mxz σ) (mxu υ - mxu σ) (lw_Z below #[Value.ref b] s) (F0 m 2916 ls [])) → ∀ (H : Heap) (locs : List Loc), mx_J G P s.heap (mxz σ) (mxu σ) τ H locs → ∀ ls : Array Slot, lv_has ls 8 [(0, .ref b), (1, .ref v1), (2, .ref v2), (3, .ref v3), (4, .int v4)] → W p l e room_1 s m #[Value.ref b] below meth c H locs (mxz τ - mxz σ) (mxu τ - mxu σ) (lw_Z below #[Value.ref b] s) (F0 m 1148 ls []) := by
  obtain ⟨hx, hb, hr, hml, hown, hts, hX, hbl, hlocks, hgv⟩ := id C0
  have hts : ∀ w ∈ mx_tbl, w.before #[Value.ref b] s = true := fun w hw => hts w (List.mem_filter.mp hw).1
  have hz0 := hJ.2.1
  have hbP : b < mpb P := by omega
  have hC : mpc P - mxz σ ≤ room_1.cells := Nat.le_of_eq hRc.symm
  have hS : mps P - mxu σ ≤ room_1.slots := Nat.le_of_eq hRs.symm
  have hown : s.vm.findClass RLn = some m.cls := hown
  have D2910_23 := @lw_D2910_23 p e s m below meth c l hlt b L xs C0 G P σ hK hJ hbE hRc hRs
  intro v0 v1 v2 v3 v4 τ o hf Kb Ke0 H locs hJ ls hl
  unfold f_L_law_D1148_23 at hf
  refine lv_goto (tgt := 2910) hx hb dL_law_1148 (by decide) ?_
  exact D2910_23 v0 v1 v2 v3 v4 τ o hf Kb Ke0 _ _ hJ ls (lv_sub hl [0, 1, 2, 3, 4] rfl)
set_option maxHeartbeats 16000000 in
set_option maxRecDepth 100000 in
theorem lw_D1048_23 {p : Program} {e : Env} {s : State} {m : MethodId} {below : List Frame} {meth : Method} {c : Code} (l : Launch) (hlt : l.stackTraces = false) {b L : Nat} {xs : Nat → Int32} (C0 : lw_At p s m meth c b L xs) (G : mx_G) (P : mx_P) (σ : mx_S) (hK : mx_K G P s) (hJ : mx_J G P s.heap (mxz σ) (mxu σ) σ s.heap []) (hbE : mpb P = s.heap.size) (hRc : room_1.cells = mpc P - mxz σ) (hRs : room_1.slots = mps P - mxu σ) : ∀ (v0 : Nat) (v1 : Nat) (v2 : Nat) (v3 : Nat) (v4 : Int32) (τ : mx_S) (o : (Int32 × mx_S) ⊕ ((mx_S))), f_L_law_D1048_23 P L xs v0 v1 v2 v3 v4 τ = some o → (∀ (y4 : Int32) (υ : mx_S), o = .inl (y4, υ) → ∀ (H : Heap) (locs : List Loc), mx_J G P s.heap (mxz σ) (mxu σ) υ H locs → ∀ ls : Array Slot, lv_has ls 8 [(0, .ref b), (1, .ref v1), (2, .ref v2), (3, .ref v3), (4, .int y4)] → W p l e room_1 s m #[Value.ref b] below meth c H locs (mxz υ - mxz σ) (mxu υ - mxu σ) (lw_Z below #[Value.ref b] s) (F0 m 23 ls [])) → (∀  (υ : mx_S), o = .inr υ → ∀ (H : Heap) (locs : List Loc), mx_J G P s.heap (mxz σ) (mxu σ) υ H locs → ∀ ls : Array Slot, lv_has ls 8 [] → W p l e room_1 s m #[Value.ref b] below meth c H locs (mxz υ - mxz σ) (mxu υ - mxu σ) (lw_Z below #[Value.ref b] s) (F0 m 2916 ls [])) → ∀ (H : Heap) (locs : List Loc), mx_J G P s.heap (mxz σ) (mxu σ) τ H locs → ∀ ls : Array Slot, lv_has ls 8 [(0, .ref b), (1, .ref v1), (2, .ref v2), (3, .ref v3), (4, .int v4)] → W p l e room_1 s m #[Value.ref b] below meth c H locs (mxz τ - mxz σ) (mxu τ - mxu σ) (lw_Z below #[Value.ref b] s) (F0 m 1048 ls []) := by
  obtain ⟨hx, hb, hr, hml, hown, hts, hX, hbl, hlocks, hgv⟩ := id C0
  have hts : ∀ w ∈ mx_tbl, w.before #[Value.ref b] s = true := fun w hw => hts w (List.mem_filter.mp hw).1
  have hz0 := hJ.2.1
  have hbP : b < mpb P := by omega
  have hC : mpc P - mxz σ ≤ room_1.cells := Nat.le_of_eq hRc.symm
  have hS : mps P - mxu σ ≤ room_1.slots := Nat.le_of_eq hRs.symm
  have hown : s.vm.findClass RLn = some m.cls := hown
  have D1148_23 := @lw_D1148_23 p e s m below meth c l hlt b L xs C0 G P σ hK hJ hbE hRc hRs
  intro v0 v1 v2 v3 v4 τ o hf Kb Ke0 H locs hJ ls hl
  unfold f_L_law_D1048_23 at hf
  refine lv_aload_n hx hb dL_law_1048 rfl (lv_at hl 1 rfl) ?_
  refine lv_aload_n hx hb dL_law_1049 rfl (lv_at hl 0 rfl) ?_
  refine lv_iload hx hb dL_law_1050 (lv_at hl 4 rfl) ?_
  refine lv_iconst (v := 1) hx hb dL_law_1052 (by decide) ?_
  refine lv_iadd hx hb dL_law_1053 ?_
  obtain ⟨x365, e366, hf⟩ := mb0 hf
  refine mx_sld hx hb hX hbl hbP hz0 hJ e366 dL_law_1054 ?_
  refine lv_aload_n hx hb dL_law_1055 rfl (lv_at hl 0 rfl) ?_
  refine lv_iload hx hb dL_law_1056 (lv_at hl 4 rfl) ?_
  refine lv_iconst (v := 2) hx hb dL_law_1058 (by decide) ?_
  refine lv_iadd hx hb dL_law_1059 ?_
  obtain ⟨x367, e368, hf⟩ := mb0 hf
  refine mx_sld hx hb hX hbl hbP hz0 hJ e368 dL_law_1060 ?_
  refine lv_aload_n hx hb dL_law_1061 rfl (lv_at hl 0 rfl) ?_
  refine lv_iload hx hb dL_law_1062 (lv_at hl 4 rfl) ?_
  refine lv_iconst (v := 3) hx hb dL_law_1064 (by decide) ?_
  refine lv_iadd hx hb dL_law_1065 ?_
  obtain ⟨x369, e370, hf⟩ := mb0 hf
  refine mx_sld hx hb hX hbl hbP hz0 hJ e370 dL_law_1066 ?_
  refine lv_aload_n hx hb dL_law_1067 rfl (lv_at hl 0 rfl) ?_
  refine lv_iload hx hb dL_law_1068 (lv_at hl 4 rfl) ?_
  refine lv_iconst (v := 4) hx hb dL_law_1070 (by decide) ?_
  refine lv_iadd hx hb dL_law_1071 ?_
  obtain ⟨x371, e372, hf⟩ := mb0 hf
  refine mx_sld hx hb hX hbl hbP hz0 hJ e372 dL_law_1072 ?_
  refine lv_aload_n hx hb dL_law_1073 rfl (lv_at hl 0 rfl) ?_
  refine lv_iload hx hb dL_law_1074 (lv_at hl 4 rfl) ?_
  refine lv_iconst (v := 5) hx hb dL_law_1076 (by decide) ?_
  refine lv_iadd hx hb dL_law_1077 ?_
  obtain ⟨x373, e374, hf⟩ := mb0 hf
  refine mx_sld hx hb hX hbl hbP hz0 hJ e374 dL_law_1078 ?_
  refine lv_aload_n hx hb dL_law_1079 rfl (lv_at hl 3 rfl) ?_
  obtain ⟨x376, σ375, e377, hf⟩ := mc0 hf
  refine mx_callSW (As := [.ref v1, .int x365, .int x367, .int x369, .int x371, .int x373, .ref v3]) (rest := []) hx hb hml hts hown hK hJ hRc hRs (c_L_speed l hlt G P v1 x365 x367 x369 x371 x373 v3 τ x376 σ375 e377) mw_L_speed kw_1351 kw_1350 (Nat.le_of_ble_eq_true rfl) (Nat.le_of_ble_eq_true rfl) rfl hl.1 rfl (Nat.le_of_ble_eq_true rfl) dL_law_1080 (fun H locs hJ => ?_)
  refine lv_istore (lv' := [(5, .int x376), (0, .ref b), (1, .ref v1), (2, .ref v2), (3, .ref v3), (4, .int v4)]) hx hb dL_law_1083 hl (by decide) rfl (fun ls hl => ?_)
  refine lv_aload_n hx hb dL_law_1085 rfl (lv_at hl 3 rfl) ?_
  refine lv_aload_n hx hb dL_law_1086 rfl (lv_at hl 1 rfl) ?_
  refine lv_iload hx hb dL_law_1087 (lv_at hl 5 rfl) ?_
  refine lv_iconst (v := 1) hx hb dL_law_1089 (by decide) ?_
  refine lv_iadd hx hb dL_law_1090 ?_
  obtain ⟨x378, e379, hf⟩ := mb0 hf
  refine mx_sld hx hb hX hbl hbP hz0 hJ e379 dL_law_1091 ?_
  refine lv_aload_n hx hb dL_law_1092 rfl (lv_at hl 1 rfl) ?_
  refine lv_iload hx hb dL_law_1093 (lv_at hl 5 rfl) ?_
  refine lv_iconst (v := 2) hx hb dL_law_1095 (by decide) ?_
  refine lv_iadd hx hb dL_law_1096 ?_
  obtain ⟨x380, e381, hf⟩ := mb0 hf
  refine mx_sld hx hb hX hbl hbP hz0 hJ e381 dL_law_1097 ?_
  refine lv_aload_n hx hb dL_law_1098 rfl (lv_at hl 1 rfl) ?_
  refine lv_iload hx hb dL_law_1099 (lv_at hl 5 rfl) ?_
  refine lv_iconst (v := 3) hx hb dL_law_1101 (by decide) ?_
  refine lv_iadd hx hb dL_law_1102 ?_
  obtain ⟨x382, e383, hf⟩ := mb0 hf
  refine mx_sld hx hb hX hbl hbP hz0 hJ e383 dL_law_1103 ?_
  refine lv_aload_n hx hb dL_law_1104 rfl (lv_at hl 1 rfl) ?_
  refine lv_iload hx hb dL_law_1105 (lv_at hl 5 rfl) ?_
  refine lv_iconst (v := 4) hx hb dL_law_1107 (by decide) ?_
  refine lv_iadd hx hb dL_law_1108 ?_
  obtain ⟨x384, e385, hf⟩ := mb0 hf
  refine mx_sld hx hb hX hbl hbP hz0 hJ e385 dL_law_1109 ?_
  refine lv_aload_n hx hb dL_law_1110 rfl (lv_at hl 1 rfl) ?_
  refine lv_iload hx hb dL_law_1111 (lv_at hl 5 rfl) ?_
  refine lv_iconst (v := 5) hx hb dL_law_1113 (by decide) ?_
  refine lv_iadd hx hb dL_law_1114 ?_
  obtain ⟨x386, e387, hf⟩ := mb0 hf
  refine mx_sld hx hb hX hbl hbP hz0 hJ e387 dL_law_1115 ?_
  obtain ⟨i388, e389, hf⟩ := mb0 hf
  obtain ⟨x391, σ390, e392, hf⟩ := mc0 hf
  refine mx_callV (As := [.int x378, .int x380, .int x382, .int x384, .int x386]) (rest := []) hx hb hml hts hown hK hJ hRc hRs (ci := 12) rfl e389 (c_X12_speed l G P v2 x378 x380 x382 x384 x386 σ375 x391 σ390 e392) me_X12_speed kw_2530 kw_2531 kw_2529 (Nat.le_of_ble_eq_true rfl) (Nat.le_of_ble_eq_true rfl) rfl hl.1 rfl (Nat.le_of_ble_eq_true rfl) dL_law_1116 (fun H locs hJ => ?_)
  refine lv_lstore (lv' := [(6, .long x391), (5, .int x376), (0, .ref b), (1, .ref v1), (2, .ref v2), (3, .ref v3), (4, .int v4)]) hx hb dL_law_1119 hl (by decide) rfl (fun ls hl => ?_)
  refine lv_aload_n hx hb dL_law_1121 rfl (lv_at hl 4 rfl) ?_
  obtain ⟨i393, e394, hf⟩ := mb0 hf
  obtain ⟨x396, σ395, e397, hf⟩ := mc0 hf
  refine mx_callV (As := []) (rest := []) hx hb hml hts hown hK hJ hRc hRs (ci := 12) rfl e394 (c_X12_thrown l G P v2 σ390 x396 σ395 e397) me_X12_thrown kw_2207 kw_2208 kw_2206 (Nat.le_of_ble_eq_true rfl) (Nat.le_of_ble_eq_true rfl) rfl hl.1 rfl (Nat.le_of_ble_eq_true rfl) dL_law_1122 (fun H locs hJ => ?_)
  refine lv_iload hx hb dL_law_1125 (lv_at hl 1 rfl) ?_
  refine lv_icmp_eq (tgt := 1132) hx hb dL_law_1127 (by decide) (fun c398 => ?_) (fun c398 => ?_)
  · rw [if_pos c398] at hf
    refine lv_iload hx hb dL_law_1132 (lv_at hl 1 rfl) ?_
    refine lv_if_ne (tgt := 1148) hx hb dL_law_1134 (by decide) (fun c399 => ?_) (fun c399 => ?_)
    · rw [if_neg c399] at hf
      exact D1148_23 v0 v1 v2 v3 v4 σ395 o hf Kb Ke0 _ _ hJ ls (lv_sub hl [2, 3, 4, 5, 6] rfl)
    · rw [if_pos c399] at hf
      refine lv_aload_n hx hb dL_law_1137 rfl (lv_at hl 5 rfl) ?_
      refine lv_iconst (v := 0) hx hb dL_law_1138 (by decide) ?_
      obtain ⟨x400, e401, hf⟩ := mb0 hf
      refine mx_aL hx hb hK hJ e401 dL_law_1139 ?_
      refine lv_lload hx hb dL_law_1140 (lv_at hl 0 rfl) ?_
      refine W.lcmp hx hb dL_law_1142 ?_
      refine lv_if_eq (tgt := 1148) hx hb dL_law_1143 (by decide) (fun c402 => ?_) (fun c402 => ?_)
      · rw [if_pos c402] at hf
        exact D1148_23 v0 v1 v2 v3 v4 σ395 o hf Kb Ke0 _ _ hJ ls (lv_sub hl [2, 3, 4, 5, 6] rfl)
      · rw [if_neg c402] at hf
        cases hf
  · rw [if_neg c398] at hf
    cases hf
set_option maxHeartbeats 16000000 in
set_option maxRecDepth 100000 in
theorem lw_D1265_23 {p : Program} {e : Env} {s : State} {m : MethodId} {below : List Frame} {meth : Method} {c : Code} (l : Launch) (hlt : l.stackTraces = false) {b L : Nat} {xs : Nat → Int32} (C0 : lw_At p s m meth c b L xs) (G : mx_G) (P : mx_P) (σ : mx_S) (hK : mx_K G P s) (hJ : mx_J G P s.heap (mxz σ) (mxu σ) σ s.heap []) (hbE : mpb P = s.heap.size) (hRc : room_1.cells = mpc P - mxz σ) (hRs : room_1.slots = mps P - mxu σ) : ∀ (v0 : Nat) (v1 : Nat) (v2 : Nat) (v3 : Nat) (v4 : Int32) (τ : mx_S) (o : (Int32 × mx_S) ⊕ ((mx_S))), f_L_law_D1265_23 P L xs v0 v1 v2 v3 v4 τ = some o → (∀ (y4 : Int32) (υ : mx_S), o = .inl (y4, υ) → ∀ (H : Heap) (locs : List Loc), mx_J G P s.heap (mxz σ) (mxu σ) υ H locs → ∀ ls : Array Slot, lv_has ls 8 [(0, .ref b), (1, .ref v1), (2, .ref v2), (3, .ref v3), (4, .int y4)] → W p l e room_1 s m #[Value.ref b] below meth c H locs (mxz υ - mxz σ) (mxu υ - mxu σ) (lw_Z below #[Value.ref b] s) (F0 m 23 ls [])) → (∀  (υ : mx_S), o = .inr υ → ∀ (H : Heap) (locs : List Loc), mx_J G P s.heap (mxz σ) (mxu σ) υ H locs → ∀ ls : Array Slot, lv_has ls 8 [] → W p l e room_1 s m #[Value.ref b] below meth c H locs (mxz υ - mxz σ) (mxu υ - mxu σ) (lw_Z below #[Value.ref b] s) (F0 m 2916 ls [])) → ∀ (H : Heap) (locs : List Loc), mx_J G P s.heap (mxz σ) (mxu σ) τ H locs → ∀ ls : Array Slot, lv_has ls 8 [(0, .ref b), (1, .ref v1), (2, .ref v2), (3, .ref v3), (4, .int v4)] → W p l e room_1 s m #[Value.ref b] below meth c H locs (mxz τ - mxz σ) (mxu τ - mxu σ) (lw_Z below #[Value.ref b] s) (F0 m 1265 ls []) := by
  obtain ⟨hx, hb, hr, hml, hown, hts, hX, hbl, hlocks, hgv⟩ := id C0
  have hts : ∀ w ∈ mx_tbl, w.before #[Value.ref b] s = true := fun w hw => hts w (List.mem_filter.mp hw).1
  have hz0 := hJ.2.1
  have hbP : b < mpb P := by omega
  have hC : mpc P - mxz σ ≤ room_1.cells := Nat.le_of_eq hRc.symm
  have hS : mps P - mxu σ ≤ room_1.slots := Nat.le_of_eq hRs.symm
  have hown : s.vm.findClass RLn = some m.cls := hown
  have D2910_23 := @lw_D2910_23 p e s m below meth c l hlt b L xs C0 G P σ hK hJ hbE hRc hRs
  intro v0 v1 v2 v3 v4 τ o hf Kb Ke0 H locs hJ ls hl
  unfold f_L_law_D1265_23 at hf
  refine lv_goto (tgt := 2910) hx hb dL_law_1265 (by decide) ?_
  exact D2910_23 v0 v1 v2 v3 v4 τ o hf Kb Ke0 _ _ hJ ls (lv_sub hl [0, 1, 2, 3, 4] rfl)
set_option maxHeartbeats 16000000 in
set_option maxRecDepth 100000 in
theorem lw_D1151_23 {p : Program} {e : Env} {s : State} {m : MethodId} {below : List Frame} {meth : Method} {c : Code} (l : Launch) (hlt : l.stackTraces = false) {b L : Nat} {xs : Nat → Int32} (C0 : lw_At p s m meth c b L xs) (G : mx_G) (P : mx_P) (σ : mx_S) (hK : mx_K G P s) (hJ : mx_J G P s.heap (mxz σ) (mxu σ) σ s.heap []) (hbE : mpb P = s.heap.size) (hRc : room_1.cells = mpc P - mxz σ) (hRs : room_1.slots = mps P - mxu σ) : ∀ (v0 : Nat) (v1 : Nat) (v2 : Nat) (v3 : Nat) (v4 : Int32) (τ : mx_S) (o : (Int32 × mx_S) ⊕ ((mx_S))), f_L_law_D1151_23 P L xs v0 v1 v2 v3 v4 τ = some o → (∀ (y4 : Int32) (υ : mx_S), o = .inl (y4, υ) → ∀ (H : Heap) (locs : List Loc), mx_J G P s.heap (mxz σ) (mxu σ) υ H locs → ∀ ls : Array Slot, lv_has ls 8 [(0, .ref b), (1, .ref v1), (2, .ref v2), (3, .ref v3), (4, .int y4)] → W p l e room_1 s m #[Value.ref b] below meth c H locs (mxz υ - mxz σ) (mxu υ - mxu σ) (lw_Z below #[Value.ref b] s) (F0 m 23 ls [])) → (∀  (υ : mx_S), o = .inr υ → ∀ (H : Heap) (locs : List Loc), mx_J G P s.heap (mxz σ) (mxu σ) υ H locs → ∀ ls : Array Slot, lv_has ls 8 [] → W p l e room_1 s m #[Value.ref b] below meth c H locs (mxz υ - mxz σ) (mxu υ - mxu σ) (lw_Z below #[Value.ref b] s) (F0 m 2916 ls [])) → ∀ (H : Heap) (locs : List Loc), mx_J G P s.heap (mxz σ) (mxu σ) τ H locs → ∀ ls : Array Slot, lv_has ls 8 [(0, .ref b), (1, .ref v1), (2, .ref v2), (3, .ref v3), (4, .int v4)] → W p l e room_1 s m #[Value.ref b] below meth c H locs (mxz τ - mxz σ) (mxu τ - mxu σ) (lw_Z below #[Value.ref b] s) (F0 m 1151 ls []) := by
  obtain ⟨hx, hb, hr, hml, hown, hts, hX, hbl, hlocks, hgv⟩ := id C0
  have hts : ∀ w ∈ mx_tbl, w.before #[Value.ref b] s = true := fun w hw => hts w (List.mem_filter.mp hw).1
  have hz0 := hJ.2.1
  have hbP : b < mpb P := by omega
  have hC : mpc P - mxz σ ≤ room_1.cells := Nat.le_of_eq hRc.symm
  have hS : mps P - mxu σ ≤ room_1.slots := Nat.le_of_eq hRs.symm
  have hown : s.vm.findClass RLn = some m.cls := hown
  have D1265_23 := @lw_D1265_23 p e s m below meth c l hlt b L xs C0 G P σ hK hJ hbE hRc hRs
  intro v0 v1 v2 v3 v4 τ o hf Kb Ke0 H locs hJ ls hl
  unfold f_L_law_D1151_23 at hf
  refine lv_aload_n hx hb dL_law_1151 rfl (lv_at hl 1 rfl) ?_
  refine lv_aload_n hx hb dL_law_1152 rfl (lv_at hl 0 rfl) ?_
  refine lv_iload hx hb dL_law_1153 (lv_at hl 4 rfl) ?_
  refine lv_iconst (v := 1) hx hb dL_law_1155 (by decide) ?_
  refine lv_iadd hx hb dL_law_1156 ?_
  obtain ⟨x404, e405, hf⟩ := mb0 hf
  refine mx_sld hx hb hX hbl hbP hz0 hJ e405 dL_law_1157 ?_
  refine lv_aload_n hx hb dL_law_1158 rfl (lv_at hl 0 rfl) ?_
  refine lv_iload hx hb dL_law_1159 (lv_at hl 4 rfl) ?_
  refine lv_iconst (v := 2) hx hb dL_law_1161 (by decide) ?_
  refine lv_iadd hx hb dL_law_1162 ?_
  obtain ⟨x406, e407, hf⟩ := mb0 hf
  refine mx_sld hx hb hX hbl hbP hz0 hJ e407 dL_law_1163 ?_
  refine lv_aload_n hx hb dL_law_1164 rfl (lv_at hl 0 rfl) ?_
  refine lv_iload hx hb dL_law_1165 (lv_at hl 4 rfl) ?_
  refine lv_iconst (v := 3) hx hb dL_law_1167 (by decide) ?_
  refine lv_iadd hx hb dL_law_1168 ?_
  obtain ⟨x408, e409, hf⟩ := mb0 hf
  refine mx_sld hx hb hX hbl hbP hz0 hJ e409 dL_law_1169 ?_
  refine lv_aload_n hx hb dL_law_1170 rfl (lv_at hl 0 rfl) ?_
  refine lv_iload hx hb dL_law_1171 (lv_at hl 4 rfl) ?_
  refine lv_iconst (v := 4) hx hb dL_law_1173 (by decide) ?_
  refine lv_iadd hx hb dL_law_1174 ?_
  obtain ⟨x410, e411, hf⟩ := mb0 hf
  refine mx_sld hx hb hX hbl hbP hz0 hJ e411 dL_law_1175 ?_
  refine lv_aload_n hx hb dL_law_1176 rfl (lv_at hl 0 rfl) ?_
  refine lv_iload hx hb dL_law_1177 (lv_at hl 4 rfl) ?_
  refine lv_iconst (v := 5) hx hb dL_law_1179 (by decide) ?_
  refine lv_iadd hx hb dL_law_1180 ?_
  obtain ⟨x412, e413, hf⟩ := mb0 hf
  refine mx_sld hx hb hX hbl hbP hz0 hJ e413 dL_law_1181 ?_
  refine lv_aload_n hx hb dL_law_1182 rfl (lv_at hl 0 rfl) ?_
  refine lv_iload hx hb dL_law_1183 (lv_at hl 4 rfl) ?_
  refine lv_bipush (v := 6) hx hb dL_law_1185 (by decide) ?_
  refine lv_iadd hx hb dL_law_1187 ?_
  obtain ⟨x414, e415, hf⟩ := mb0 hf
  refine mx_sld hx hb hX hbl hbP hz0 hJ e415 dL_law_1188 ?_
  refine lv_aload_n hx hb dL_law_1189 rfl (lv_at hl 3 rfl) ?_
  obtain ⟨x417, σ416, e418, hf⟩ := mc0 hf
  refine mx_callSW (As := [.ref v1, .int x404, .int x406, .int x408, .int x410, .int x412, .int x414, .ref v3]) (rest := []) hx hb hml hts hown hK hJ hRc hRs (c_L_pole l hlt G P v1 x404 x406 x408 x410 x412 x414 v3 τ x417 σ416 e418) mw_L_pole kw_1386 kw_1385 (Nat.le_of_ble_eq_true rfl) (Nat.le_of_ble_eq_true rfl) rfl hl.1 rfl (Nat.le_of_ble_eq_true rfl) dL_law_1190 (fun H locs hJ => ?_)
  refine lv_istore (lv' := [(5, .int x417), (0, .ref b), (1, .ref v1), (2, .ref v2), (3, .ref v3), (4, .int v4)]) hx hb dL_law_1193 hl (by decide) rfl (fun ls hl => ?_)
  refine lv_aload_n hx hb dL_law_1195 rfl (lv_at hl 3 rfl) ?_
  refine lv_aload_n hx hb dL_law_1196 rfl (lv_at hl 1 rfl) ?_
  refine lv_iload hx hb dL_law_1197 (lv_at hl 5 rfl) ?_
  refine lv_iconst (v := 1) hx hb dL_law_1199 (by decide) ?_
  refine lv_iadd hx hb dL_law_1200 ?_
  obtain ⟨x419, e420, hf⟩ := mb0 hf
  refine mx_sld hx hb hX hbl hbP hz0 hJ e420 dL_law_1201 ?_
  refine lv_aload_n hx hb dL_law_1202 rfl (lv_at hl 1 rfl) ?_
  refine lv_iload hx hb dL_law_1203 (lv_at hl 5 rfl) ?_
  refine lv_iconst (v := 2) hx hb dL_law_1205 (by decide) ?_
  refine lv_iadd hx hb dL_law_1206 ?_
  obtain ⟨x421, e422, hf⟩ := mb0 hf
  refine mx_sld hx hb hX hbl hbP hz0 hJ e422 dL_law_1207 ?_
  refine lv_aload_n hx hb dL_law_1208 rfl (lv_at hl 1 rfl) ?_
  refine lv_iload hx hb dL_law_1209 (lv_at hl 5 rfl) ?_
  refine lv_iconst (v := 3) hx hb dL_law_1211 (by decide) ?_
  refine lv_iadd hx hb dL_law_1212 ?_
  obtain ⟨x423, e424, hf⟩ := mb0 hf
  refine mx_sld hx hb hX hbl hbP hz0 hJ e424 dL_law_1213 ?_
  refine lv_aload_n hx hb dL_law_1214 rfl (lv_at hl 1 rfl) ?_
  refine lv_iload hx hb dL_law_1215 (lv_at hl 5 rfl) ?_
  refine lv_iconst (v := 4) hx hb dL_law_1217 (by decide) ?_
  refine lv_iadd hx hb dL_law_1218 ?_
  obtain ⟨x425, e426, hf⟩ := mb0 hf
  refine mx_sld hx hb hX hbl hbP hz0 hJ e426 dL_law_1219 ?_
  refine lv_aload_n hx hb dL_law_1220 rfl (lv_at hl 1 rfl) ?_
  refine lv_iload hx hb dL_law_1221 (lv_at hl 5 rfl) ?_
  refine lv_iconst (v := 5) hx hb dL_law_1223 (by decide) ?_
  refine lv_iadd hx hb dL_law_1224 ?_
  obtain ⟨x427, e428, hf⟩ := mb0 hf
  refine mx_sld hx hb hX hbl hbP hz0 hJ e428 dL_law_1225 ?_
  refine lv_aload_n hx hb dL_law_1226 rfl (lv_at hl 1 rfl) ?_
  refine lv_iload hx hb dL_law_1227 (lv_at hl 5 rfl) ?_
  refine lv_bipush (v := 6) hx hb dL_law_1229 (by decide) ?_
  refine lv_iadd hx hb dL_law_1231 ?_
  obtain ⟨x429, e430, hf⟩ := mb0 hf
  refine mx_sld hx hb hX hbl hbP hz0 hJ e430 dL_law_1232 ?_
  obtain ⟨i431, e432, hf⟩ := mb0 hf
  obtain ⟨x434, σ433, e435, hf⟩ := mc0 hf
  refine mx_callV (As := [.int x419, .int x421, .int x423, .int x425, .int x427, .int x429]) (rest := []) hx hb hml hts hown hK hJ hRc hRs (ci := 12) rfl e432 (c_X12_pole l G P v2 x419 x421 x423 x425 x427 x429 σ416 x434 σ433 e435) me_X12_pole kw_2566 kw_2567 kw_2565 (Nat.le_of_ble_eq_true rfl) (Nat.le_of_ble_eq_true rfl) rfl hl.1 rfl (Nat.le_of_ble_eq_true rfl) dL_law_1233 (fun H locs hJ => ?_)
  refine lv_lstore (lv' := [(6, .long x434), (5, .int x417), (0, .ref b), (1, .ref v1), (2, .ref v2), (3, .ref v3), (4, .int v4)]) hx hb dL_law_1236 hl (by decide) rfl (fun ls hl => ?_)
  refine lv_aload_n hx hb dL_law_1238 rfl (lv_at hl 4 rfl) ?_
  obtain ⟨i436, e437, hf⟩ := mb0 hf
  obtain ⟨x439, σ438, e440, hf⟩ := mc0 hf
  refine mx_callV (As := []) (rest := []) hx hb hml hts hown hK hJ hRc hRs (ci := 12) rfl e437 (c_X12_thrown l G P v2 σ433 x439 σ438 e440) me_X12_thrown kw_2207 kw_2208 kw_2206 (Nat.le_of_ble_eq_true rfl) (Nat.le_of_ble_eq_true rfl) rfl hl.1 rfl (Nat.le_of_ble_eq_true rfl) dL_law_1239 (fun H locs hJ => ?_)
  refine lv_iload hx hb dL_law_1242 (lv_at hl 1 rfl) ?_
  refine lv_icmp_eq (tgt := 1249) hx hb dL_law_1244 (by decide) (fun c441 => ?_) (fun c441 => ?_)
  · rw [if_pos c441] at hf
    refine lv_iload hx hb dL_law_1249 (lv_at hl 1 rfl) ?_
    refine lv_if_ne (tgt := 1265) hx hb dL_law_1251 (by decide) (fun c442 => ?_) (fun c442 => ?_)
    · rw [if_neg c442] at hf
      exact D1265_23 v0 v1 v2 v3 v4 σ438 o hf Kb Ke0 _ _ hJ ls (lv_sub hl [2, 3, 4, 5, 6] rfl)
    · rw [if_pos c442] at hf
      refine lv_aload_n hx hb dL_law_1254 rfl (lv_at hl 5 rfl) ?_
      refine lv_iconst (v := 0) hx hb dL_law_1255 (by decide) ?_
      obtain ⟨x443, e444, hf⟩ := mb0 hf
      refine mx_aL hx hb hK hJ e444 dL_law_1256 ?_
      refine lv_lload hx hb dL_law_1257 (lv_at hl 0 rfl) ?_
      refine W.lcmp hx hb dL_law_1259 ?_
      refine lv_if_eq (tgt := 1265) hx hb dL_law_1260 (by decide) (fun c445 => ?_) (fun c445 => ?_)
      · rw [if_pos c445] at hf
        exact D1265_23 v0 v1 v2 v3 v4 σ438 o hf Kb Ke0 _ _ hJ ls (lv_sub hl [2, 3, 4, 5, 6] rfl)
      · rw [if_neg c445] at hf
        cases hf
  · rw [if_neg c441] at hf
    cases hf
set_option maxHeartbeats 16000000 in
set_option maxRecDepth 100000 in
theorem lw_D1268_23 {p : Program} {e : Env} {s : State} {m : MethodId} {below : List Frame} {meth : Method} {c : Code} (l : Launch) (hlt : l.stackTraces = false) {b L : Nat} {xs : Nat → Int32} (C0 : lw_At p s m meth c b L xs) (G : mx_G) (P : mx_P) (σ : mx_S) (hK : mx_K G P s) (hJ : mx_J G P s.heap (mxz σ) (mxu σ) σ s.heap []) (hbE : mpb P = s.heap.size) (hRc : room_1.cells = mpc P - mxz σ) (hRs : room_1.slots = mps P - mxu σ) : ∀ (v0 : Nat) (v1 : Nat) (v2 : Nat) (v3 : Nat) (v4 : Int32) (τ : mx_S) (o : (Int32 × mx_S) ⊕ ((mx_S))), f_L_law_D1268_23 P L xs v0 v1 v2 v3 v4 τ = some o → (∀ (y4 : Int32) (υ : mx_S), o = .inl (y4, υ) → ∀ (H : Heap) (locs : List Loc), mx_J G P s.heap (mxz σ) (mxu σ) υ H locs → ∀ ls : Array Slot, lv_has ls 8 [(0, .ref b), (1, .ref v1), (2, .ref v2), (3, .ref v3), (4, .int y4)] → W p l e room_1 s m #[Value.ref b] below meth c H locs (mxz υ - mxz σ) (mxu υ - mxu σ) (lw_Z below #[Value.ref b] s) (F0 m 23 ls [])) → (∀  (υ : mx_S), o = .inr υ → ∀ (H : Heap) (locs : List Loc), mx_J G P s.heap (mxz σ) (mxu σ) υ H locs → ∀ ls : Array Slot, lv_has ls 8 [] → W p l e room_1 s m #[Value.ref b] below meth c H locs (mxz υ - mxz σ) (mxu υ - mxu σ) (lw_Z below #[Value.ref b] s) (F0 m 2916 ls [])) → ∀ (H : Heap) (locs : List Loc), mx_J G P s.heap (mxz σ) (mxu σ) τ H locs → ∀ ls : Array Slot, lv_has ls 8 [(0, .ref b), (1, .ref v1), (2, .ref v2), (3, .ref v3), (4, .int v4)] → W p l e room_1 s m #[Value.ref b] below meth c H locs (mxz τ - mxz σ) (mxu τ - mxu σ) (lw_Z below #[Value.ref b] s) (F0 m 1268 ls []) := by
  obtain ⟨hx, hb, hr, hml, hown, hts, hX, hbl, hlocks, hgv⟩ := id C0
  have hts : ∀ w ∈ mx_tbl, w.before #[Value.ref b] s = true := fun w hw => hts w (List.mem_filter.mp hw).1
  have hz0 := hJ.2.1
  have hbP : b < mpb P := by omega
  have hC : mpc P - mxz σ ≤ room_1.cells := Nat.le_of_eq hRc.symm
  have hS : mps P - mxu σ ≤ room_1.slots := Nat.le_of_eq hRs.symm
  have hown : s.vm.findClass RLn = some m.cls := hown
  have D2910_23 := @lw_D2910_23 p e s m below meth c l hlt b L xs C0 G P σ hK hJ hbE hRc hRs
  intro v0 v1 v2 v3 v4 τ o hf Kb Ke0 H locs hJ ls hl
  unfold f_L_law_D1268_23 at hf
  refine lv_aload_n hx hb dL_law_1268 rfl (lv_at hl 1 rfl) ?_
  refine lv_aload_n hx hb dL_law_1269 rfl (lv_at hl 0 rfl) ?_
  refine lv_iload hx hb dL_law_1270 (lv_at hl 4 rfl) ?_
  refine lv_iconst (v := 1) hx hb dL_law_1272 (by decide) ?_
  refine lv_iadd hx hb dL_law_1273 ?_
  obtain ⟨x447, e448, hf⟩ := mb0 hf
  refine mx_sld hx hb hX hbl hbP hz0 hJ e448 dL_law_1274 ?_
  refine lv_aload_n hx hb dL_law_1275 rfl (lv_at hl 0 rfl) ?_
  refine lv_iload hx hb dL_law_1276 (lv_at hl 4 rfl) ?_
  refine lv_iconst (v := 2) hx hb dL_law_1278 (by decide) ?_
  refine lv_iadd hx hb dL_law_1279 ?_
  obtain ⟨x449, e450, hf⟩ := mb0 hf
  refine mx_sld hx hb hX hbl hbP hz0 hJ e450 dL_law_1280 ?_
  refine lv_aload_n hx hb dL_law_1281 rfl (lv_at hl 0 rfl) ?_
  refine lv_iload hx hb dL_law_1282 (lv_at hl 4 rfl) ?_
  refine lv_iconst (v := 3) hx hb dL_law_1284 (by decide) ?_
  refine lv_iadd hx hb dL_law_1285 ?_
  obtain ⟨x451, e452, hf⟩ := mb0 hf
  refine mx_sld hx hb hX hbl hbP hz0 hJ e452 dL_law_1286 ?_
  obtain ⟨x454, σ453, e455, hf⟩ := mc0 hf
  refine mx_callSW (As := [.ref v1, .int x447, .int x449, .int x451]) (rest := []) hx hb hml hts hown hK hJ hRc hRs (c_L_load l hlt G P v1 x447 x449 x451 τ x454 σ453 e455) mw_L_load kw_1397 kw_1396 (Nat.le_of_ble_eq_true rfl) (Nat.le_of_ble_eq_true rfl) rfl hl.1 rfl (Nat.le_of_ble_eq_true rfl) dL_law_1287 (fun H locs hJ => ?_)
  refine lv_istore (lv' := [(5, .int x454), (0, .ref b), (1, .ref v1), (2, .ref v2), (3, .ref v3), (4, .int v4)]) hx hb dL_law_1290 hl (by decide) rfl (fun ls hl => ?_)
  refine lv_aload_n hx hb dL_law_1292 rfl (lv_at hl 3 rfl) ?_
  refine lv_aload_n hx hb dL_law_1293 rfl (lv_at hl 1 rfl) ?_
  refine lv_iload hx hb dL_law_1294 (lv_at hl 5 rfl) ?_
  refine lv_iconst (v := 1) hx hb dL_law_1296 (by decide) ?_
  refine lv_iadd hx hb dL_law_1297 ?_
  obtain ⟨x456, e457, hf⟩ := mb0 hf
  refine mx_sld hx hb hX hbl hbP hz0 hJ e457 dL_law_1298 ?_
  refine lv_aload_n hx hb dL_law_1299 rfl (lv_at hl 1 rfl) ?_
  refine lv_iload hx hb dL_law_1300 (lv_at hl 5 rfl) ?_
  refine lv_iconst (v := 2) hx hb dL_law_1302 (by decide) ?_
  refine lv_iadd hx hb dL_law_1303 ?_
  obtain ⟨x458, e459, hf⟩ := mb0 hf
  refine mx_sld hx hb hX hbl hbP hz0 hJ e459 dL_law_1304 ?_
  refine lv_aload_n hx hb dL_law_1305 rfl (lv_at hl 1 rfl) ?_
  refine lv_iload hx hb dL_law_1306 (lv_at hl 5 rfl) ?_
  refine lv_iconst (v := 3) hx hb dL_law_1308 (by decide) ?_
  refine lv_iadd hx hb dL_law_1309 ?_
  obtain ⟨x460, e461, hf⟩ := mb0 hf
  refine mx_sld hx hb hX hbl hbP hz0 hJ e461 dL_law_1310 ?_
  obtain ⟨i462, e463, hf⟩ := mb0 hf
  obtain ⟨σ464, e465, hf⟩ := mb0 hf
  refine mx_callV (As := [.int x456, .int x458, .int x460]) (rest := []) hx hb hml hts hown hK hJ hRc hRs (ci := 12) rfl e463 (c_X12_load l G P v2 x456 x458 x460 σ453 σ464 e465) me_X12_load kw_2570 kw_2571 kw_2569 (Nat.le_of_ble_eq_true rfl) (Nat.le_of_ble_eq_true rfl) rfl hl.1 rfl (Nat.le_of_ble_eq_true rfl) dL_law_1311 (fun H locs hJ => ?_)
  refine lv_aload_n hx hb dL_law_1314 rfl (lv_at hl 3 rfl) ?_
  obtain ⟨i466, e467, hf⟩ := mb0 hf
  obtain ⟨x469, σ468, e470, hf⟩ := mc0 hf
  refine mx_callV (As := []) (rest := []) hx hb hml hts hown hK hJ hRc hRs (ci := 12) rfl e467 (c_X12_thrown l G P v2 σ464 x469 σ468 e470) me_X12_thrown kw_2207 kw_2208 kw_2206 (Nat.le_of_ble_eq_true rfl) (Nat.le_of_ble_eq_true rfl) rfl hl.1 rfl (Nat.le_of_ble_eq_true rfl) dL_law_1315 (fun H locs hJ => ?_)
  refine lv_iload hx hb dL_law_1318 (lv_at hl 0 rfl) ?_
  refine lv_icmp_eq (tgt := 1325) hx hb dL_law_1320 (by decide) (fun c471 => ?_) (fun c471 => ?_)
  · rw [if_pos c471] at hf
    refine lv_goto (tgt := 2910) hx hb dL_law_1325 (by decide) ?_
    exact D2910_23 v0 v1 v2 v3 v4 σ468 o hf Kb Ke0 _ _ hJ ls (lv_sub hl [1, 2, 3, 4, 5] rfl)
  · rw [if_neg c471] at hf
    cases hf
set_option maxHeartbeats 16000000 in
set_option maxRecDepth 100000 in
theorem lw_D1328_23 {p : Program} {e : Env} {s : State} {m : MethodId} {below : List Frame} {meth : Method} {c : Code} (l : Launch) (hlt : l.stackTraces = false) {b L : Nat} {xs : Nat → Int32} (C0 : lw_At p s m meth c b L xs) (G : mx_G) (P : mx_P) (σ : mx_S) (hK : mx_K G P s) (hJ : mx_J G P s.heap (mxz σ) (mxu σ) σ s.heap []) (hbE : mpb P = s.heap.size) (hRc : room_1.cells = mpc P - mxz σ) (hRs : room_1.slots = mps P - mxu σ) : ∀ (v0 : Nat) (v1 : Nat) (v2 : Nat) (v3 : Nat) (v4 : Int32) (τ : mx_S) (o : (Int32 × mx_S) ⊕ ((mx_S))), f_L_law_D1328_23 P L xs v0 v1 v2 v3 v4 τ = some o → (∀ (y4 : Int32) (υ : mx_S), o = .inl (y4, υ) → ∀ (H : Heap) (locs : List Loc), mx_J G P s.heap (mxz σ) (mxu σ) υ H locs → ∀ ls : Array Slot, lv_has ls 8 [(0, .ref b), (1, .ref v1), (2, .ref v2), (3, .ref v3), (4, .int y4)] → W p l e room_1 s m #[Value.ref b] below meth c H locs (mxz υ - mxz σ) (mxu υ - mxu σ) (lw_Z below #[Value.ref b] s) (F0 m 23 ls [])) → (∀  (υ : mx_S), o = .inr υ → ∀ (H : Heap) (locs : List Loc), mx_J G P s.heap (mxz σ) (mxu σ) υ H locs → ∀ ls : Array Slot, lv_has ls 8 [] → W p l e room_1 s m #[Value.ref b] below meth c H locs (mxz υ - mxz σ) (mxu υ - mxu σ) (lw_Z below #[Value.ref b] s) (F0 m 2916 ls [])) → ∀ (H : Heap) (locs : List Loc), mx_J G P s.heap (mxz σ) (mxu σ) τ H locs → ∀ ls : Array Slot, lv_has ls 8 [(0, .ref b), (1, .ref v1), (2, .ref v2), (3, .ref v3), (4, .int v4)] → W p l e room_1 s m #[Value.ref b] below meth c H locs (mxz τ - mxz σ) (mxu τ - mxu σ) (lw_Z below #[Value.ref b] s) (F0 m 1328 ls []) := by
  obtain ⟨hx, hb, hr, hml, hown, hts, hX, hbl, hlocks, hgv⟩ := id C0
  have hts : ∀ w ∈ mx_tbl, w.before #[Value.ref b] s = true := fun w hw => hts w (List.mem_filter.mp hw).1
  have hz0 := hJ.2.1
  have hbP : b < mpb P := by omega
  have hC : mpc P - mxz σ ≤ room_1.cells := Nat.le_of_eq hRc.symm
  have hS : mps P - mxu σ ≤ room_1.slots := Nat.le_of_eq hRs.symm
  have hown : s.vm.findClass RLn = some m.cls := hown
  have D2910_23 := @lw_D2910_23 p e s m below meth c l hlt b L xs C0 G P σ hK hJ hbE hRc hRs
  intro v0 v1 v2 v3 v4 τ o hf Kb Ke0 H locs hJ ls hl
  unfold f_L_law_D1328_23 at hf
  refine lv_aload_n hx hb dL_law_1328 rfl (lv_at hl 1 rfl) ?_
  refine lv_aload_n hx hb dL_law_1329 rfl (lv_at hl 0 rfl) ?_
  refine lv_iload hx hb dL_law_1330 (lv_at hl 4 rfl) ?_
  refine lv_iconst (v := 1) hx hb dL_law_1332 (by decide) ?_
  refine lv_iadd hx hb dL_law_1333 ?_
  obtain ⟨x473, e474, hf⟩ := mb0 hf
  refine mx_sld hx hb hX hbl hbP hz0 hJ e474 dL_law_1334 ?_
  refine lv_aload_n hx hb dL_law_1335 rfl (lv_at hl 0 rfl) ?_
  refine lv_iload hx hb dL_law_1336 (lv_at hl 4 rfl) ?_
  refine lv_iconst (v := 2) hx hb dL_law_1338 (by decide) ?_
  refine lv_iadd hx hb dL_law_1339 ?_
  obtain ⟨x475, e476, hf⟩ := mb0 hf
  refine mx_sld hx hb hX hbl hbP hz0 hJ e476 dL_law_1340 ?_
  obtain ⟨x478, σ477, e479, hf⟩ := mc0 hf
  refine mx_callSW (As := [.ref v1, .int x473, .int x475]) (rest := []) hx hb hml hts hown hK hJ hRc hRs (c_L_mass l hlt G P v1 x473 x475 τ x478 σ477 e479) mw_L_mass kw_1404 kw_1403 (Nat.le_of_ble_eq_true rfl) (Nat.le_of_ble_eq_true rfl) rfl hl.1 rfl (Nat.le_of_ble_eq_true rfl) dL_law_1341 (fun H locs hJ => ?_)
  refine lv_istore (lv' := [(5, .int x478), (0, .ref b), (1, .ref v1), (2, .ref v2), (3, .ref v3), (4, .int v4)]) hx hb dL_law_1344 hl (by decide) rfl (fun ls hl => ?_)
  refine lv_aload_n hx hb dL_law_1346 rfl (lv_at hl 3 rfl) ?_
  refine lv_aload_n hx hb dL_law_1347 rfl (lv_at hl 1 rfl) ?_
  refine lv_iload hx hb dL_law_1348 (lv_at hl 5 rfl) ?_
  refine lv_iconst (v := 1) hx hb dL_law_1350 (by decide) ?_
  refine lv_iadd hx hb dL_law_1351 ?_
  obtain ⟨x480, e481, hf⟩ := mb0 hf
  refine mx_sld hx hb hX hbl hbP hz0 hJ e481 dL_law_1352 ?_
  refine lv_aload_n hx hb dL_law_1353 rfl (lv_at hl 1 rfl) ?_
  refine lv_iload hx hb dL_law_1354 (lv_at hl 5 rfl) ?_
  refine lv_iconst (v := 2) hx hb dL_law_1356 (by decide) ?_
  refine lv_iadd hx hb dL_law_1357 ?_
  obtain ⟨x482, e483, hf⟩ := mb0 hf
  refine mx_sld hx hb hX hbl hbP hz0 hJ e483 dL_law_1358 ?_
  obtain ⟨i484, e485, hf⟩ := mb0 hf
  obtain ⟨σ486, e487, hf⟩ := mb0 hf
  refine mx_callV (As := [.int x480, .int x482]) (rest := []) hx hb hml hts hown hK hJ hRc hRs (ci := 12) rfl e485 (c_X12_mass l G P v2 x480 x482 σ477 σ486 e487) me_X12_mass kw_2576 kw_2577 kw_2575 (Nat.le_of_ble_eq_true rfl) (Nat.le_of_ble_eq_true rfl) rfl hl.1 rfl (Nat.le_of_ble_eq_true rfl) dL_law_1359 (fun H locs hJ => ?_)
  refine lv_aload_n hx hb dL_law_1362 rfl (lv_at hl 3 rfl) ?_
  obtain ⟨i488, e489, hf⟩ := mb0 hf
  obtain ⟨x491, σ490, e492, hf⟩ := mc0 hf
  refine mx_callV (As := []) (rest := []) hx hb hml hts hown hK hJ hRc hRs (ci := 12) rfl e489 (c_X12_thrown l G P v2 σ486 x491 σ490 e492) me_X12_thrown kw_2207 kw_2208 kw_2206 (Nat.le_of_ble_eq_true rfl) (Nat.le_of_ble_eq_true rfl) rfl hl.1 rfl (Nat.le_of_ble_eq_true rfl) dL_law_1363 (fun H locs hJ => ?_)
  refine lv_iload hx hb dL_law_1366 (lv_at hl 0 rfl) ?_
  refine lv_icmp_eq (tgt := 1373) hx hb dL_law_1368 (by decide) (fun c493 => ?_) (fun c493 => ?_)
  · rw [if_pos c493] at hf
    refine lv_goto (tgt := 2910) hx hb dL_law_1373 (by decide) ?_
    exact D2910_23 v0 v1 v2 v3 v4 σ490 o hf Kb Ke0 _ _ hJ ls (lv_sub hl [1, 2, 3, 4, 5] rfl)
  · rw [if_neg c493] at hf
    cases hf
set_option maxHeartbeats 16000000 in
set_option maxRecDepth 100000 in
theorem lw_D1452_23 {p : Program} {e : Env} {s : State} {m : MethodId} {below : List Frame} {meth : Method} {c : Code} (l : Launch) (hlt : l.stackTraces = false) {b L : Nat} {xs : Nat → Int32} (C0 : lw_At p s m meth c b L xs) (G : mx_G) (P : mx_P) (σ : mx_S) (hK : mx_K G P s) (hJ : mx_J G P s.heap (mxz σ) (mxu σ) σ s.heap []) (hbE : mpb P = s.heap.size) (hRc : room_1.cells = mpc P - mxz σ) (hRs : room_1.slots = mps P - mxu σ) : ∀ (v0 : Nat) (v1 : Nat) (v2 : Nat) (v3 : Nat) (v4 : Int32) (τ : mx_S) (o : (Int32 × mx_S) ⊕ ((mx_S))), f_L_law_D1452_23 P L xs v0 v1 v2 v3 v4 τ = some o → (∀ (y4 : Int32) (υ : mx_S), o = .inl (y4, υ) → ∀ (H : Heap) (locs : List Loc), mx_J G P s.heap (mxz σ) (mxu σ) υ H locs → ∀ ls : Array Slot, lv_has ls 8 [(0, .ref b), (1, .ref v1), (2, .ref v2), (3, .ref v3), (4, .int y4)] → W p l e room_1 s m #[Value.ref b] below meth c H locs (mxz υ - mxz σ) (mxu υ - mxu σ) (lw_Z below #[Value.ref b] s) (F0 m 23 ls [])) → (∀  (υ : mx_S), o = .inr υ → ∀ (H : Heap) (locs : List Loc), mx_J G P s.heap (mxz σ) (mxu σ) υ H locs → ∀ ls : Array Slot, lv_has ls 8 [] → W p l e room_1 s m #[Value.ref b] below meth c H locs (mxz υ - mxz σ) (mxu υ - mxu σ) (lw_Z below #[Value.ref b] s) (F0 m 2916 ls [])) → ∀ (H : Heap) (locs : List Loc), mx_J G P s.heap (mxz σ) (mxu σ) τ H locs → ∀ ls : Array Slot, lv_has ls 8 [(0, .ref b), (1, .ref v1), (2, .ref v2), (3, .ref v3), (4, .int v4)] → W p l e room_1 s m #[Value.ref b] below meth c H locs (mxz τ - mxz σ) (mxu τ - mxu σ) (lw_Z below #[Value.ref b] s) (F0 m 1452 ls []) := by
  obtain ⟨hx, hb, hr, hml, hown, hts, hX, hbl, hlocks, hgv⟩ := id C0
  have hts : ∀ w ∈ mx_tbl, w.before #[Value.ref b] s = true := fun w hw => hts w (List.mem_filter.mp hw).1
  have hz0 := hJ.2.1
  have hbP : b < mpb P := by omega
  have hC : mpc P - mxz σ ≤ room_1.cells := Nat.le_of_eq hRc.symm
  have hS : mps P - mxu σ ≤ room_1.slots := Nat.le_of_eq hRs.symm
  have hown : s.vm.findClass RLn = some m.cls := hown
  have D2910_23 := @lw_D2910_23 p e s m below meth c l hlt b L xs C0 G P σ hK hJ hbE hRc hRs
  intro v0 v1 v2 v3 v4 τ o hf Kb Ke0 H locs hJ ls hl
  unfold f_L_law_D1452_23 at hf
  refine lv_goto (tgt := 2910) hx hb dL_law_1452 (by decide) ?_
  exact D2910_23 v0 v1 v2 v3 v4 τ o hf Kb Ke0 _ _ hJ ls (lv_sub hl [0, 1, 2, 3, 4] rfl)
set_option maxHeartbeats 16000000 in
set_option maxRecDepth 100000 in
theorem lw_D1376_23 {p : Program} {e : Env} {s : State} {m : MethodId} {below : List Frame} {meth : Method} {c : Code} (l : Launch) (hlt : l.stackTraces = false) {b L : Nat} {xs : Nat → Int32} (C0 : lw_At p s m meth c b L xs) (G : mx_G) (P : mx_P) (σ : mx_S) (hK : mx_K G P s) (hJ : mx_J G P s.heap (mxz σ) (mxu σ) σ s.heap []) (hbE : mpb P = s.heap.size) (hRc : room_1.cells = mpc P - mxz σ) (hRs : room_1.slots = mps P - mxu σ) : ∀ (v0 : Nat) (v1 : Nat) (v2 : Nat) (v3 : Nat) (v4 : Int32) (τ : mx_S) (o : (Int32 × mx_S) ⊕ ((mx_S))), f_L_law_D1376_23 P L xs v0 v1 v2 v3 v4 τ = some o → (∀ (y4 : Int32) (υ : mx_S), o = .inl (y4, υ) → ∀ (H : Heap) (locs : List Loc), mx_J G P s.heap (mxz σ) (mxu σ) υ H locs → ∀ ls : Array Slot, lv_has ls 8 [(0, .ref b), (1, .ref v1), (2, .ref v2), (3, .ref v3), (4, .int y4)] → W p l e room_1 s m #[Value.ref b] below meth c H locs (mxz υ - mxz σ) (mxu υ - mxu σ) (lw_Z below #[Value.ref b] s) (F0 m 23 ls [])) → (∀  (υ : mx_S), o = .inr υ → ∀ (H : Heap) (locs : List Loc), mx_J G P s.heap (mxz σ) (mxu σ) υ H locs → ∀ ls : Array Slot, lv_has ls 8 [] → W p l e room_1 s m #[Value.ref b] below meth c H locs (mxz υ - mxz σ) (mxu υ - mxu σ) (lw_Z below #[Value.ref b] s) (F0 m 2916 ls [])) → ∀ (H : Heap) (locs : List Loc), mx_J G P s.heap (mxz σ) (mxu σ) τ H locs → ∀ ls : Array Slot, lv_has ls 8 [(0, .ref b), (1, .ref v1), (2, .ref v2), (3, .ref v3), (4, .int v4)] → W p l e room_1 s m #[Value.ref b] below meth c H locs (mxz τ - mxz σ) (mxu τ - mxu σ) (lw_Z below #[Value.ref b] s) (F0 m 1376 ls []) := by
  obtain ⟨hx, hb, hr, hml, hown, hts, hX, hbl, hlocks, hgv⟩ := id C0
  have hts : ∀ w ∈ mx_tbl, w.before #[Value.ref b] s = true := fun w hw => hts w (List.mem_filter.mp hw).1
  have hz0 := hJ.2.1
  have hbP : b < mpb P := by omega
  have hC : mpc P - mxz σ ≤ room_1.cells := Nat.le_of_eq hRc.symm
  have hS : mps P - mxu σ ≤ room_1.slots := Nat.le_of_eq hRs.symm
  have hown : s.vm.findClass RLn = some m.cls := hown
  have D1452_23 := @lw_D1452_23 p e s m below meth c l hlt b L xs C0 G P σ hK hJ hbE hRc hRs
  intro v0 v1 v2 v3 v4 τ o hf Kb Ke0 H locs hJ ls hl
  unfold f_L_law_D1376_23 at hf
  refine lv_aload_n hx hb dL_law_1376 rfl (lv_at hl 1 rfl) ?_
  refine lv_aload_n hx hb dL_law_1377 rfl (lv_at hl 0 rfl) ?_
  refine lv_iload hx hb dL_law_1378 (lv_at hl 4 rfl) ?_
  refine lv_iconst (v := 1) hx hb dL_law_1380 (by decide) ?_
  refine lv_iadd hx hb dL_law_1381 ?_
  obtain ⟨x495, e496, hf⟩ := mb0 hf
  refine mx_sld hx hb hX hbl hbP hz0 hJ e496 dL_law_1382 ?_
  refine lv_aload_n hx hb dL_law_1383 rfl (lv_at hl 0 rfl) ?_
  refine lv_iload hx hb dL_law_1384 (lv_at hl 4 rfl) ?_
  refine lv_iconst (v := 2) hx hb dL_law_1386 (by decide) ?_
  refine lv_iadd hx hb dL_law_1387 ?_
  obtain ⟨x497, e498, hf⟩ := mb0 hf
  refine mx_sld hx hb hX hbl hbP hz0 hJ e498 dL_law_1388 ?_
  refine lv_aload_n hx hb dL_law_1389 rfl (lv_at hl 0 rfl) ?_
  refine lv_iload hx hb dL_law_1390 (lv_at hl 4 rfl) ?_
  refine lv_iconst (v := 3) hx hb dL_law_1392 (by decide) ?_
  refine lv_iadd hx hb dL_law_1393 ?_
  obtain ⟨x499, e500, hf⟩ := mb0 hf
  refine mx_sld hx hb hX hbl hbP hz0 hJ e500 dL_law_1394 ?_
  refine lv_aload_n hx hb dL_law_1395 rfl (lv_at hl 3 rfl) ?_
  obtain ⟨x502, σ501, e503, hf⟩ := mc0 hf
  refine mx_callSW (As := [.ref v1, .int x495, .int x497, .int x499, .ref v3]) (rest := []) hx hb hml hts hown hK hJ hRc hRs (c_L_moment l hlt G P v1 x495 x497 x499 v3 τ x502 σ501 e503) mw_L_moment kw_1411 kw_1410 (Nat.le_of_ble_eq_true rfl) (Nat.le_of_ble_eq_true rfl) rfl hl.1 rfl (Nat.le_of_ble_eq_true rfl) dL_law_1396 (fun H locs hJ => ?_)
  refine lv_istore (lv' := [(5, .int x502), (0, .ref b), (1, .ref v1), (2, .ref v2), (3, .ref v3), (4, .int v4)]) hx hb dL_law_1399 hl (by decide) rfl (fun ls hl => ?_)
  refine lv_aload_n hx hb dL_law_1401 rfl (lv_at hl 3 rfl) ?_
  refine lv_aload_n hx hb dL_law_1402 rfl (lv_at hl 1 rfl) ?_
  refine lv_iload hx hb dL_law_1403 (lv_at hl 5 rfl) ?_
  refine lv_iconst (v := 1) hx hb dL_law_1405 (by decide) ?_
  refine lv_iadd hx hb dL_law_1406 ?_
  obtain ⟨x504, e505, hf⟩ := mb0 hf
  refine mx_sld hx hb hX hbl hbP hz0 hJ e505 dL_law_1407 ?_
  refine lv_aload_n hx hb dL_law_1408 rfl (lv_at hl 1 rfl) ?_
  refine lv_iload hx hb dL_law_1409 (lv_at hl 5 rfl) ?_
  refine lv_iconst (v := 2) hx hb dL_law_1411 (by decide) ?_
  refine lv_iadd hx hb dL_law_1412 ?_
  obtain ⟨x506, e507, hf⟩ := mb0 hf
  refine mx_sld hx hb hX hbl hbP hz0 hJ e507 dL_law_1413 ?_
  refine lv_aload_n hx hb dL_law_1414 rfl (lv_at hl 1 rfl) ?_
  refine lv_iload hx hb dL_law_1415 (lv_at hl 5 rfl) ?_
  refine lv_iconst (v := 3) hx hb dL_law_1417 (by decide) ?_
  refine lv_iadd hx hb dL_law_1418 ?_
  obtain ⟨x508, e509, hf⟩ := mb0 hf
  refine mx_sld hx hb hX hbl hbP hz0 hJ e509 dL_law_1419 ?_
  obtain ⟨i510, e511, hf⟩ := mb0 hf
  obtain ⟨x513, σ512, e514, hf⟩ := mc0 hf
  refine mx_callV (As := [.int x504, .int x506, .int x508]) (rest := []) hx hb hml hts hown hK hJ hRc hRs (ci := 12) rfl e511 (c_X12_moment l G P v2 x504 x506 x508 σ501 x513 σ512 e514) me_X12_moment kw_2580 kw_2581 kw_2579 (Nat.le_of_ble_eq_true rfl) (Nat.le_of_ble_eq_true rfl) rfl hl.1 rfl (Nat.le_of_ble_eq_true rfl) dL_law_1420 (fun H locs hJ => ?_)
  refine lv_lstore (lv' := [(6, .long x513), (5, .int x502), (0, .ref b), (1, .ref v1), (2, .ref v2), (3, .ref v3), (4, .int v4)]) hx hb dL_law_1423 hl (by decide) rfl (fun ls hl => ?_)
  refine lv_aload_n hx hb dL_law_1425 rfl (lv_at hl 4 rfl) ?_
  obtain ⟨i515, e516, hf⟩ := mb0 hf
  obtain ⟨x518, σ517, e519, hf⟩ := mc0 hf
  refine mx_callV (As := []) (rest := []) hx hb hml hts hown hK hJ hRc hRs (ci := 12) rfl e516 (c_X12_thrown l G P v2 σ512 x518 σ517 e519) me_X12_thrown kw_2207 kw_2208 kw_2206 (Nat.le_of_ble_eq_true rfl) (Nat.le_of_ble_eq_true rfl) rfl hl.1 rfl (Nat.le_of_ble_eq_true rfl) dL_law_1426 (fun H locs hJ => ?_)
  refine lv_iload hx hb dL_law_1429 (lv_at hl 1 rfl) ?_
  refine lv_icmp_eq (tgt := 1436) hx hb dL_law_1431 (by decide) (fun c520 => ?_) (fun c520 => ?_)
  · rw [if_pos c520] at hf
    refine lv_iload hx hb dL_law_1436 (lv_at hl 1 rfl) ?_
    refine lv_if_ne (tgt := 1452) hx hb dL_law_1438 (by decide) (fun c521 => ?_) (fun c521 => ?_)
    · rw [if_neg c521] at hf
      exact D1452_23 v0 v1 v2 v3 v4 σ517 o hf Kb Ke0 _ _ hJ ls (lv_sub hl [2, 3, 4, 5, 6] rfl)
    · rw [if_pos c521] at hf
      refine lv_aload_n hx hb dL_law_1441 rfl (lv_at hl 5 rfl) ?_
      refine lv_iconst (v := 0) hx hb dL_law_1442 (by decide) ?_
      obtain ⟨x522, e523, hf⟩ := mb0 hf
      refine mx_aL hx hb hK hJ e523 dL_law_1443 ?_
      refine lv_lload hx hb dL_law_1444 (lv_at hl 0 rfl) ?_
      refine W.lcmp hx hb dL_law_1446 ?_
      refine lv_if_eq (tgt := 1452) hx hb dL_law_1447 (by decide) (fun c524 => ?_) (fun c524 => ?_)
      · rw [if_pos c524] at hf
        exact D1452_23 v0 v1 v2 v3 v4 σ517 o hf Kb Ke0 _ _ hJ ls (lv_sub hl [2, 3, 4, 5, 6] rfl)
      · rw [if_neg c524] at hf
        cases hf
  · rw [if_neg c520] at hf
    cases hf
set_option maxHeartbeats 16000000 in
set_option maxRecDepth 100000 in
theorem lw_D1531_23 {p : Program} {e : Env} {s : State} {m : MethodId} {below : List Frame} {meth : Method} {c : Code} (l : Launch) (hlt : l.stackTraces = false) {b L : Nat} {xs : Nat → Int32} (C0 : lw_At p s m meth c b L xs) (G : mx_G) (P : mx_P) (σ : mx_S) (hK : mx_K G P s) (hJ : mx_J G P s.heap (mxz σ) (mxu σ) σ s.heap []) (hbE : mpb P = s.heap.size) (hRc : room_1.cells = mpc P - mxz σ) (hRs : room_1.slots = mps P - mxu σ) : ∀ (v0 : Nat) (v1 : Nat) (v2 : Nat) (v3 : Nat) (v4 : Int32) (τ : mx_S) (o : (Int32 × mx_S) ⊕ ((mx_S))), f_L_law_D1531_23 P L xs v0 v1 v2 v3 v4 τ = some o → (∀ (y4 : Int32) (υ : mx_S), o = .inl (y4, υ) → ∀ (H : Heap) (locs : List Loc), mx_J G P s.heap (mxz σ) (mxu σ) υ H locs → ∀ ls : Array Slot, lv_has ls 8 [(0, .ref b), (1, .ref v1), (2, .ref v2), (3, .ref v3), (4, .int y4)] → W p l e room_1 s m #[Value.ref b] below meth c H locs (mxz υ - mxz σ) (mxu υ - mxu σ) (lw_Z below #[Value.ref b] s) (F0 m 23 ls [])) → (∀  (υ : mx_S), o = .inr υ → ∀ (H : Heap) (locs : List Loc), mx_J G P s.heap (mxz σ) (mxu σ) υ H locs → ∀ ls : Array Slot, lv_has ls 8 [] → W p l e room_1 s m #[Value.ref b] below meth c H locs (mxz υ - mxz σ) (mxu υ - mxu σ) (lw_Z below #[Value.ref b] s) (F0 m 2916 ls [])) → ∀ (H : Heap) (locs : List Loc), mx_J G P s.heap (mxz σ) (mxu σ) τ H locs → ∀ ls : Array Slot, lv_has ls 8 [(0, .ref b), (1, .ref v1), (2, .ref v2), (3, .ref v3), (4, .int v4)] → W p l e room_1 s m #[Value.ref b] below meth c H locs (mxz τ - mxz σ) (mxu τ - mxu σ) (lw_Z below #[Value.ref b] s) (F0 m 1531 ls []) := by
  obtain ⟨hx, hb, hr, hml, hown, hts, hX, hbl, hlocks, hgv⟩ := id C0
  have hts : ∀ w ∈ mx_tbl, w.before #[Value.ref b] s = true := fun w hw => hts w (List.mem_filter.mp hw).1
  have hz0 := hJ.2.1
  have hbP : b < mpb P := by omega
  have hC : mpc P - mxz σ ≤ room_1.cells := Nat.le_of_eq hRc.symm
  have hS : mps P - mxu σ ≤ room_1.slots := Nat.le_of_eq hRs.symm
  have hown : s.vm.findClass RLn = some m.cls := hown
  have D2910_23 := @lw_D2910_23 p e s m below meth c l hlt b L xs C0 G P σ hK hJ hbE hRc hRs
  intro v0 v1 v2 v3 v4 τ o hf Kb Ke0 H locs hJ ls hl
  unfold f_L_law_D1531_23 at hf
  refine lv_goto (tgt := 2910) hx hb dL_law_1531 (by decide) ?_
  exact D2910_23 v0 v1 v2 v3 v4 τ o hf Kb Ke0 _ _ hJ ls (lv_sub hl [0, 1, 2, 3, 4] rfl)
set_option maxHeartbeats 16000000 in
set_option maxRecDepth 100000 in
theorem lw_D1455_23 {p : Program} {e : Env} {s : State} {m : MethodId} {below : List Frame} {meth : Method} {c : Code} (l : Launch) (hlt : l.stackTraces = false) {b L : Nat} {xs : Nat → Int32} (C0 : lw_At p s m meth c b L xs) (G : mx_G) (P : mx_P) (σ : mx_S) (hK : mx_K G P s) (hJ : mx_J G P s.heap (mxz σ) (mxu σ) σ s.heap []) (hbE : mpb P = s.heap.size) (hRc : room_1.cells = mpc P - mxz σ) (hRs : room_1.slots = mps P - mxu σ) : ∀ (v0 : Nat) (v1 : Nat) (v2 : Nat) (v3 : Nat) (v4 : Int32) (τ : mx_S) (o : (Int32 × mx_S) ⊕ ((mx_S))), f_L_law_D1455_23 P L xs v0 v1 v2 v3 v4 τ = some o → (∀ (y4 : Int32) (υ : mx_S), o = .inl (y4, υ) → ∀ (H : Heap) (locs : List Loc), mx_J G P s.heap (mxz σ) (mxu σ) υ H locs → ∀ ls : Array Slot, lv_has ls 8 [(0, .ref b), (1, .ref v1), (2, .ref v2), (3, .ref v3), (4, .int y4)] → W p l e room_1 s m #[Value.ref b] below meth c H locs (mxz υ - mxz σ) (mxu υ - mxu σ) (lw_Z below #[Value.ref b] s) (F0 m 23 ls [])) → (∀  (υ : mx_S), o = .inr υ → ∀ (H : Heap) (locs : List Loc), mx_J G P s.heap (mxz σ) (mxu σ) υ H locs → ∀ ls : Array Slot, lv_has ls 8 [] → W p l e room_1 s m #[Value.ref b] below meth c H locs (mxz υ - mxz σ) (mxu υ - mxu σ) (lw_Z below #[Value.ref b] s) (F0 m 2916 ls [])) → ∀ (H : Heap) (locs : List Loc), mx_J G P s.heap (mxz σ) (mxu σ) τ H locs → ∀ ls : Array Slot, lv_has ls 8 [(0, .ref b), (1, .ref v1), (2, .ref v2), (3, .ref v3), (4, .int v4)] → W p l e room_1 s m #[Value.ref b] below meth c H locs (mxz τ - mxz σ) (mxu τ - mxu σ) (lw_Z below #[Value.ref b] s) (F0 m 1455 ls []) := by
  obtain ⟨hx, hb, hr, hml, hown, hts, hX, hbl, hlocks, hgv⟩ := id C0
  have hts : ∀ w ∈ mx_tbl, w.before #[Value.ref b] s = true := fun w hw => hts w (List.mem_filter.mp hw).1
  have hz0 := hJ.2.1
  have hbP : b < mpb P := by omega
  have hC : mpc P - mxz σ ≤ room_1.cells := Nat.le_of_eq hRc.symm
  have hS : mps P - mxu σ ≤ room_1.slots := Nat.le_of_eq hRs.symm
  have hown : s.vm.findClass RLn = some m.cls := hown
  have D1531_23 := @lw_D1531_23 p e s m below meth c l hlt b L xs C0 G P σ hK hJ hbE hRc hRs
  intro v0 v1 v2 v3 v4 τ o hf Kb Ke0 H locs hJ ls hl
  unfold f_L_law_D1455_23 at hf
  refine lv_aload_n hx hb dL_law_1455 rfl (lv_at hl 1 rfl) ?_
  refine lv_aload_n hx hb dL_law_1456 rfl (lv_at hl 0 rfl) ?_
  refine lv_iload hx hb dL_law_1457 (lv_at hl 4 rfl) ?_
  refine lv_iconst (v := 1) hx hb dL_law_1459 (by decide) ?_
  refine lv_iadd hx hb dL_law_1460 ?_
  obtain ⟨x526, e527, hf⟩ := mb0 hf
  refine mx_sld hx hb hX hbl hbP hz0 hJ e527 dL_law_1461 ?_
  refine lv_aload_n hx hb dL_law_1462 rfl (lv_at hl 0 rfl) ?_
  refine lv_iload hx hb dL_law_1463 (lv_at hl 4 rfl) ?_
  refine lv_iconst (v := 2) hx hb dL_law_1465 (by decide) ?_
  refine lv_iadd hx hb dL_law_1466 ?_
  obtain ⟨x528, e529, hf⟩ := mb0 hf
  refine mx_sld hx hb hX hbl hbP hz0 hJ e529 dL_law_1467 ?_
  refine lv_aload_n hx hb dL_law_1468 rfl (lv_at hl 0 rfl) ?_
  refine lv_iload hx hb dL_law_1469 (lv_at hl 4 rfl) ?_
  refine lv_iconst (v := 3) hx hb dL_law_1471 (by decide) ?_
  refine lv_iadd hx hb dL_law_1472 ?_
  obtain ⟨x530, e531, hf⟩ := mb0 hf
  refine mx_sld hx hb hX hbl hbP hz0 hJ e531 dL_law_1473 ?_
  refine lv_aload_n hx hb dL_law_1474 rfl (lv_at hl 3 rfl) ?_
  obtain ⟨x533, σ532, e534, hf⟩ := mc0 hf
  refine mx_callSW (As := [.ref v1, .int x526, .int x528, .int x530, .ref v3]) (rest := []) hx hb hml hts hown hK hJ hRc hRs (c_L_middle l hlt G P v1 x526 x528 x530 v3 τ x533 σ532 e534) mw_L_middle kw_1426 kw_1425 (Nat.le_of_ble_eq_true rfl) (Nat.le_of_ble_eq_true rfl) rfl hl.1 rfl (Nat.le_of_ble_eq_true rfl) dL_law_1475 (fun H locs hJ => ?_)
  refine lv_istore (lv' := [(5, .int x533), (0, .ref b), (1, .ref v1), (2, .ref v2), (3, .ref v3), (4, .int v4)]) hx hb dL_law_1478 hl (by decide) rfl (fun ls hl => ?_)
  refine lv_aload_n hx hb dL_law_1480 rfl (lv_at hl 3 rfl) ?_
  refine lv_aload_n hx hb dL_law_1481 rfl (lv_at hl 1 rfl) ?_
  refine lv_iload hx hb dL_law_1482 (lv_at hl 5 rfl) ?_
  refine lv_iconst (v := 1) hx hb dL_law_1484 (by decide) ?_
  refine lv_iadd hx hb dL_law_1485 ?_
  obtain ⟨x535, e536, hf⟩ := mb0 hf
  refine mx_sld hx hb hX hbl hbP hz0 hJ e536 dL_law_1486 ?_
  refine lv_aload_n hx hb dL_law_1487 rfl (lv_at hl 1 rfl) ?_
  refine lv_iload hx hb dL_law_1488 (lv_at hl 5 rfl) ?_
  refine lv_iconst (v := 2) hx hb dL_law_1490 (by decide) ?_
  refine lv_iadd hx hb dL_law_1491 ?_
  obtain ⟨x537, e538, hf⟩ := mb0 hf
  refine mx_sld hx hb hX hbl hbP hz0 hJ e538 dL_law_1492 ?_
  refine lv_aload_n hx hb dL_law_1493 rfl (lv_at hl 1 rfl) ?_
  refine lv_iload hx hb dL_law_1494 (lv_at hl 5 rfl) ?_
  refine lv_iconst (v := 3) hx hb dL_law_1496 (by decide) ?_
  refine lv_iadd hx hb dL_law_1497 ?_
  obtain ⟨x539, e540, hf⟩ := mb0 hf
  refine mx_sld hx hb hX hbl hbP hz0 hJ e540 dL_law_1498 ?_
  obtain ⟨i541, e542, hf⟩ := mb0 hf
  obtain ⟨x544, σ543, e545, hf⟩ := mc0 hf
  refine mx_callV (As := [.int x535, .int x537, .int x539]) (rest := []) hx hb hml hts hown hK hJ hRc hRs (ci := 12) rfl e542 (c_X12_middle l G P v2 x535 x537 x539 σ532 x544 σ543 e545) me_X12_middle kw_2588 kw_2589 kw_2587 (Nat.le_of_ble_eq_true rfl) (Nat.le_of_ble_eq_true rfl) rfl hl.1 rfl (Nat.le_of_ble_eq_true rfl) dL_law_1499 (fun H locs hJ => ?_)
  refine lv_lstore (lv' := [(6, .long x544), (5, .int x533), (0, .ref b), (1, .ref v1), (2, .ref v2), (3, .ref v3), (4, .int v4)]) hx hb dL_law_1502 hl (by decide) rfl (fun ls hl => ?_)
  refine lv_aload_n hx hb dL_law_1504 rfl (lv_at hl 4 rfl) ?_
  obtain ⟨i546, e547, hf⟩ := mb0 hf
  obtain ⟨x549, σ548, e550, hf⟩ := mc0 hf
  refine mx_callV (As := []) (rest := []) hx hb hml hts hown hK hJ hRc hRs (ci := 12) rfl e547 (c_X12_thrown l G P v2 σ543 x549 σ548 e550) me_X12_thrown kw_2207 kw_2208 kw_2206 (Nat.le_of_ble_eq_true rfl) (Nat.le_of_ble_eq_true rfl) rfl hl.1 rfl (Nat.le_of_ble_eq_true rfl) dL_law_1505 (fun H locs hJ => ?_)
  refine lv_iload hx hb dL_law_1508 (lv_at hl 1 rfl) ?_
  refine lv_icmp_eq (tgt := 1515) hx hb dL_law_1510 (by decide) (fun c551 => ?_) (fun c551 => ?_)
  · rw [if_pos c551] at hf
    refine lv_iload hx hb dL_law_1515 (lv_at hl 1 rfl) ?_
    refine lv_if_ne (tgt := 1531) hx hb dL_law_1517 (by decide) (fun c552 => ?_) (fun c552 => ?_)
    · rw [if_neg c552] at hf
      exact D1531_23 v0 v1 v2 v3 v4 σ548 o hf Kb Ke0 _ _ hJ ls (lv_sub hl [2, 3, 4, 5, 6] rfl)
    · rw [if_pos c552] at hf
      refine lv_aload_n hx hb dL_law_1520 rfl (lv_at hl 5 rfl) ?_
      refine lv_iconst (v := 0) hx hb dL_law_1521 (by decide) ?_
      obtain ⟨x553, e554, hf⟩ := mb0 hf
      refine mx_aL hx hb hK hJ e554 dL_law_1522 ?_
      refine lv_lload hx hb dL_law_1523 (lv_at hl 0 rfl) ?_
      refine W.lcmp hx hb dL_law_1525 ?_
      refine lv_if_eq (tgt := 1531) hx hb dL_law_1526 (by decide) (fun c555 => ?_) (fun c555 => ?_)
      · rw [if_pos c555] at hf
        exact D1531_23 v0 v1 v2 v3 v4 σ548 o hf Kb Ke0 _ _ hJ ls (lv_sub hl [2, 3, 4, 5, 6] rfl)
      · rw [if_neg c555] at hf
        cases hf
  · rw [if_neg c551] at hf
    cases hf
set_option maxHeartbeats 16000000 in
set_option maxRecDepth 100000 in
theorem lw_D1599_23 {p : Program} {e : Env} {s : State} {m : MethodId} {below : List Frame} {meth : Method} {c : Code} (l : Launch) (hlt : l.stackTraces = false) {b L : Nat} {xs : Nat → Int32} (C0 : lw_At p s m meth c b L xs) (G : mx_G) (P : mx_P) (σ : mx_S) (hK : mx_K G P s) (hJ : mx_J G P s.heap (mxz σ) (mxu σ) σ s.heap []) (hbE : mpb P = s.heap.size) (hRc : room_1.cells = mpc P - mxz σ) (hRs : room_1.slots = mps P - mxu σ) : ∀ (v0 : Nat) (v1 : Nat) (v2 : Nat) (v3 : Nat) (v4 : Int32) (τ : mx_S) (o : (Int32 × mx_S) ⊕ ((mx_S))), f_L_law_D1599_23 P L xs v0 v1 v2 v3 v4 τ = some o → (∀ (y4 : Int32) (υ : mx_S), o = .inl (y4, υ) → ∀ (H : Heap) (locs : List Loc), mx_J G P s.heap (mxz σ) (mxu σ) υ H locs → ∀ ls : Array Slot, lv_has ls 8 [(0, .ref b), (1, .ref v1), (2, .ref v2), (3, .ref v3), (4, .int y4)] → W p l e room_1 s m #[Value.ref b] below meth c H locs (mxz υ - mxz σ) (mxu υ - mxu σ) (lw_Z below #[Value.ref b] s) (F0 m 23 ls [])) → (∀  (υ : mx_S), o = .inr υ → ∀ (H : Heap) (locs : List Loc), mx_J G P s.heap (mxz σ) (mxu σ) υ H locs → ∀ ls : Array Slot, lv_has ls 8 [] → W p l e room_1 s m #[Value.ref b] below meth c H locs (mxz υ - mxz σ) (mxu υ - mxu σ) (lw_Z below #[Value.ref b] s) (F0 m 2916 ls [])) → ∀ (H : Heap) (locs : List Loc), mx_J G P s.heap (mxz σ) (mxu σ) τ H locs → ∀ ls : Array Slot, lv_has ls 8 [(0, .ref b), (1, .ref v1), (2, .ref v2), (3, .ref v3), (4, .int v4)] → W p l e room_1 s m #[Value.ref b] below meth c H locs (mxz τ - mxz σ) (mxu τ - mxu σ) (lw_Z below #[Value.ref b] s) (F0 m 1599 ls []) := by
  obtain ⟨hx, hb, hr, hml, hown, hts, hX, hbl, hlocks, hgv⟩ := id C0
  have hts : ∀ w ∈ mx_tbl, w.before #[Value.ref b] s = true := fun w hw => hts w (List.mem_filter.mp hw).1
  have hz0 := hJ.2.1
  have hbP : b < mpb P := by omega
  have hC : mpc P - mxz σ ≤ room_1.cells := Nat.le_of_eq hRc.symm
  have hS : mps P - mxu σ ≤ room_1.slots := Nat.le_of_eq hRs.symm
  have hown : s.vm.findClass RLn = some m.cls := hown
  have D2910_23 := @lw_D2910_23 p e s m below meth c l hlt b L xs C0 G P σ hK hJ hbE hRc hRs
  intro v0 v1 v2 v3 v4 τ o hf Kb Ke0 H locs hJ ls hl
  unfold f_L_law_D1599_23 at hf
  refine lv_goto (tgt := 2910) hx hb dL_law_1599 (by decide) ?_
  exact D2910_23 v0 v1 v2 v3 v4 τ o hf Kb Ke0 _ _ hJ ls (lv_sub hl [0, 1, 2, 3, 4] rfl)
set_option maxHeartbeats 16000000 in
set_option maxRecDepth 100000 in
theorem lw_D1534_23 {p : Program} {e : Env} {s : State} {m : MethodId} {below : List Frame} {meth : Method} {c : Code} (l : Launch) (hlt : l.stackTraces = false) {b L : Nat} {xs : Nat → Int32} (C0 : lw_At p s m meth c b L xs) (G : mx_G) (P : mx_P) (σ : mx_S) (hK : mx_K G P s) (hJ : mx_J G P s.heap (mxz σ) (mxu σ) σ s.heap []) (hbE : mpb P = s.heap.size) (hRc : room_1.cells = mpc P - mxz σ) (hRs : room_1.slots = mps P - mxu σ) : ∀ (v0 : Nat) (v1 : Nat) (v2 : Nat) (v3 : Nat) (v4 : Int32) (τ : mx_S) (o : (Int32 × mx_S) ⊕ ((mx_S))), f_L_law_D1534_23 P L xs v0 v1 v2 v3 v4 τ = some o → (∀ (y4 : Int32) (υ : mx_S), o = .inl (y4, υ) → ∀ (H : Heap) (locs : List Loc), mx_J G P s.heap (mxz σ) (mxu σ) υ H locs → ∀ ls : Array Slot, lv_has ls 8 [(0, .ref b), (1, .ref v1), (2, .ref v2), (3, .ref v3), (4, .int y4)] → W p l e room_1 s m #[Value.ref b] below meth c H locs (mxz υ - mxz σ) (mxu υ - mxu σ) (lw_Z below #[Value.ref b] s) (F0 m 23 ls [])) → (∀  (υ : mx_S), o = .inr υ → ∀ (H : Heap) (locs : List Loc), mx_J G P s.heap (mxz σ) (mxu σ) υ H locs → ∀ ls : Array Slot, lv_has ls 8 [] → W p l e room_1 s m #[Value.ref b] below meth c H locs (mxz υ - mxz σ) (mxu υ - mxu σ) (lw_Z below #[Value.ref b] s) (F0 m 2916 ls [])) → ∀ (H : Heap) (locs : List Loc), mx_J G P s.heap (mxz σ) (mxu σ) τ H locs → ∀ ls : Array Slot, lv_has ls 8 [(0, .ref b), (1, .ref v1), (2, .ref v2), (3, .ref v3), (4, .int v4)] → W p l e room_1 s m #[Value.ref b] below meth c H locs (mxz τ - mxz σ) (mxu τ - mxu σ) (lw_Z below #[Value.ref b] s) (F0 m 1534 ls []) := by
  obtain ⟨hx, hb, hr, hml, hown, hts, hX, hbl, hlocks, hgv⟩ := id C0
  have hts : ∀ w ∈ mx_tbl, w.before #[Value.ref b] s = true := fun w hw => hts w (List.mem_filter.mp hw).1
  have hz0 := hJ.2.1
  have hbP : b < mpb P := by omega
  have hC : mpc P - mxz σ ≤ room_1.cells := Nat.le_of_eq hRc.symm
  have hS : mps P - mxu σ ≤ room_1.slots := Nat.le_of_eq hRs.symm
  have hown : s.vm.findClass RLn = some m.cls := hown
  have D1599_23 := @lw_D1599_23 p e s m below meth c l hlt b L xs C0 G P σ hK hJ hbE hRc hRs
  intro v0 v1 v2 v3 v4 τ o hf Kb Ke0 H locs hJ ls hl
  unfold f_L_law_D1534_23 at hf
  refine lv_aload_n hx hb dL_law_1534 rfl (lv_at hl 1 rfl) ?_
  refine lv_aload_n hx hb dL_law_1535 rfl (lv_at hl 0 rfl) ?_
  refine lv_iload hx hb dL_law_1536 (lv_at hl 4 rfl) ?_
  refine lv_iconst (v := 1) hx hb dL_law_1538 (by decide) ?_
  refine lv_iadd hx hb dL_law_1539 ?_
  obtain ⟨x557, e558, hf⟩ := mb0 hf
  refine mx_sld hx hb hX hbl hbP hz0 hJ e558 dL_law_1540 ?_
  refine lv_aload_n hx hb dL_law_1541 rfl (lv_at hl 0 rfl) ?_
  refine lv_iload hx hb dL_law_1542 (lv_at hl 4 rfl) ?_
  refine lv_iconst (v := 2) hx hb dL_law_1544 (by decide) ?_
  refine lv_iadd hx hb dL_law_1545 ?_
  obtain ⟨x559, e560, hf⟩ := mb0 hf
  refine mx_sld hx hb hX hbl hbP hz0 hJ e560 dL_law_1546 ?_
  refine lv_aload_n hx hb dL_law_1547 rfl (lv_at hl 3 rfl) ?_
  obtain ⟨x562, σ561, e563, hf⟩ := mc0 hf
  refine mx_callSW (As := [.ref v1, .int x557, .int x559, .ref v3]) (rest := []) hx hb hml hts hown hK hJ hRc hRs (c_L_gear l hlt G P v1 x557 x559 v3 τ x562 σ561 e563) mw_L_gear kw_1442 kw_1441 (Nat.le_of_ble_eq_true rfl) (Nat.le_of_ble_eq_true rfl) rfl hl.1 rfl (Nat.le_of_ble_eq_true rfl) dL_law_1548 (fun H locs hJ => ?_)
  refine lv_istore (lv' := [(5, .int x562), (0, .ref b), (1, .ref v1), (2, .ref v2), (3, .ref v3), (4, .int v4)]) hx hb dL_law_1551 hl (by decide) rfl (fun ls hl => ?_)
  refine lv_aload_n hx hb dL_law_1553 rfl (lv_at hl 3 rfl) ?_
  refine lv_aload_n hx hb dL_law_1554 rfl (lv_at hl 1 rfl) ?_
  refine lv_iload hx hb dL_law_1555 (lv_at hl 5 rfl) ?_
  refine lv_iconst (v := 1) hx hb dL_law_1557 (by decide) ?_
  refine lv_iadd hx hb dL_law_1558 ?_
  obtain ⟨x564, e565, hf⟩ := mb0 hf
  refine mx_sld hx hb hX hbl hbP hz0 hJ e565 dL_law_1559 ?_
  refine lv_aload_n hx hb dL_law_1560 rfl (lv_at hl 1 rfl) ?_
  refine lv_iload hx hb dL_law_1561 (lv_at hl 5 rfl) ?_
  refine lv_iconst (v := 2) hx hb dL_law_1563 (by decide) ?_
  refine lv_iadd hx hb dL_law_1564 ?_
  obtain ⟨x566, e567, hf⟩ := mb0 hf
  refine mx_sld hx hb hX hbl hbP hz0 hJ e567 dL_law_1565 ?_
  obtain ⟨i568, e569, hf⟩ := mb0 hf
  obtain ⟨x571, σ570, e572, hf⟩ := mc0 hf
  refine mx_callV (As := [.int x564, .int x566]) (rest := []) hx hb hml hts hown hK hJ hRc hRs (ci := 12) rfl e569 (c_X12_gear l G P v2 x564 x566 σ561 x571 σ570 e572) me_X12_gear kw_2592 kw_2593 kw_2591 (Nat.le_of_ble_eq_true rfl) (Nat.le_of_ble_eq_true rfl) rfl hl.1 rfl (Nat.le_of_ble_eq_true rfl) dL_law_1566 (fun H locs hJ => ?_)
  refine lv_istore (lv' := [(6, .int x571), (5, .int x562), (0, .ref b), (1, .ref v1), (2, .ref v2), (3, .ref v3), (4, .int v4)]) hx hb dL_law_1569 hl (by decide) rfl (fun ls hl => ?_)
  refine lv_aload_n hx hb dL_law_1571 rfl (lv_at hl 4 rfl) ?_
  obtain ⟨i573, e574, hf⟩ := mb0 hf
  obtain ⟨x576, σ575, e577, hf⟩ := mc0 hf
  refine mx_callV (As := []) (rest := []) hx hb hml hts hown hK hJ hRc hRs (ci := 12) rfl e574 (c_X12_thrown l G P v2 σ570 x576 σ575 e577) me_X12_thrown kw_2207 kw_2208 kw_2206 (Nat.le_of_ble_eq_true rfl) (Nat.le_of_ble_eq_true rfl) rfl hl.1 rfl (Nat.le_of_ble_eq_true rfl) dL_law_1572 (fun H locs hJ => ?_)
  refine lv_iload hx hb dL_law_1575 (lv_at hl 1 rfl) ?_
  refine lv_icmp_eq (tgt := 1582) hx hb dL_law_1577 (by decide) (fun c578 => ?_) (fun c578 => ?_)
  · rw [if_pos c578] at hf
    refine lv_iload hx hb dL_law_1582 (lv_at hl 1 rfl) ?_
    refine lv_if_ne (tgt := 1599) hx hb dL_law_1584 (by decide) (fun c579 => ?_) (fun c579 => ?_)
    · rw [if_neg c579] at hf
      exact D1599_23 v0 v1 v2 v3 v4 σ575 o hf Kb Ke0 _ _ hJ ls (lv_sub hl [2, 3, 4, 5, 6] rfl)
    · rw [if_pos c579] at hf
      refine lv_aload_n hx hb dL_law_1587 rfl (lv_at hl 5 rfl) ?_
      refine lv_iconst (v := 0) hx hb dL_law_1588 (by decide) ?_
      obtain ⟨x580, e581, hf⟩ := mb0 hf
      refine mx_aL hx hb hK hJ e581 dL_law_1589 ?_
      refine lv_iload hx hb dL_law_1590 (lv_at hl 0 rfl) ?_
      refine lv_i2l hx hb dL_law_1592 rfl ?_
      refine W.lcmp hx hb dL_law_1593 ?_
      refine lv_if_eq (tgt := 1599) hx hb dL_law_1594 (by decide) (fun c582 => ?_) (fun c582 => ?_)
      · rw [if_pos c582] at hf
        exact D1599_23 v0 v1 v2 v3 v4 σ575 o hf Kb Ke0 _ _ hJ ls (lv_sub hl [2, 3, 4, 5, 6] rfl)
      · rw [if_neg c582] at hf
        cases hf
  · rw [if_neg c578] at hf
    cases hf
set_option maxHeartbeats 16000000 in
set_option maxRecDepth 100000 in
theorem lw_D1707_23 {p : Program} {e : Env} {s : State} {m : MethodId} {below : List Frame} {meth : Method} {c : Code} (l : Launch) (hlt : l.stackTraces = false) {b L : Nat} {xs : Nat → Int32} (C0 : lw_At p s m meth c b L xs) (G : mx_G) (P : mx_P) (σ : mx_S) (hK : mx_K G P s) (hJ : mx_J G P s.heap (mxz σ) (mxu σ) σ s.heap []) (hbE : mpb P = s.heap.size) (hRc : room_1.cells = mpc P - mxz σ) (hRs : room_1.slots = mps P - mxu σ) : ∀ (v0 : Nat) (v1 : Nat) (v2 : Nat) (v3 : Nat) (v4 : Int32) (τ : mx_S) (o : (Int32 × mx_S) ⊕ ((mx_S))), f_L_law_D1707_23 P L xs v0 v1 v2 v3 v4 τ = some o → (∀ (y4 : Int32) (υ : mx_S), o = .inl (y4, υ) → ∀ (H : Heap) (locs : List Loc), mx_J G P s.heap (mxz σ) (mxu σ) υ H locs → ∀ ls : Array Slot, lv_has ls 8 [(0, .ref b), (1, .ref v1), (2, .ref v2), (3, .ref v3), (4, .int y4)] → W p l e room_1 s m #[Value.ref b] below meth c H locs (mxz υ - mxz σ) (mxu υ - mxu σ) (lw_Z below #[Value.ref b] s) (F0 m 23 ls [])) → (∀  (υ : mx_S), o = .inr υ → ∀ (H : Heap) (locs : List Loc), mx_J G P s.heap (mxz σ) (mxu σ) υ H locs → ∀ ls : Array Slot, lv_has ls 8 [] → W p l e room_1 s m #[Value.ref b] below meth c H locs (mxz υ - mxz σ) (mxu υ - mxu σ) (lw_Z below #[Value.ref b] s) (F0 m 2916 ls [])) → ∀ (H : Heap) (locs : List Loc), mx_J G P s.heap (mxz σ) (mxu σ) τ H locs → ∀ ls : Array Slot, lv_has ls 8 [(0, .ref b), (1, .ref v1), (2, .ref v2), (3, .ref v3), (4, .int v4)] → W p l e room_1 s m #[Value.ref b] below meth c H locs (mxz τ - mxz σ) (mxu τ - mxu σ) (lw_Z below #[Value.ref b] s) (F0 m 1707 ls []) := by
  obtain ⟨hx, hb, hr, hml, hown, hts, hX, hbl, hlocks, hgv⟩ := id C0
  have hts : ∀ w ∈ mx_tbl, w.before #[Value.ref b] s = true := fun w hw => hts w (List.mem_filter.mp hw).1
  have hz0 := hJ.2.1
  have hbP : b < mpb P := by omega
  have hC : mpc P - mxz σ ≤ room_1.cells := Nat.le_of_eq hRc.symm
  have hS : mps P - mxu σ ≤ room_1.slots := Nat.le_of_eq hRs.symm
  have hown : s.vm.findClass RLn = some m.cls := hown
  have D2910_23 := @lw_D2910_23 p e s m below meth c l hlt b L xs C0 G P σ hK hJ hbE hRc hRs
  intro v0 v1 v2 v3 v4 τ o hf Kb Ke0 H locs hJ ls hl
  unfold f_L_law_D1707_23 at hf
  refine lv_goto (tgt := 2910) hx hb dL_law_1707 (by decide) ?_
  exact D2910_23 v0 v1 v2 v3 v4 τ o hf Kb Ke0 _ _ hJ ls (lv_sub hl [0, 1, 2, 3, 4] rfl)
set_option maxHeartbeats 16000000 in
set_option maxRecDepth 100000 in
theorem lw_D1668_23 {p : Program} {e : Env} {s : State} {m : MethodId} {below : List Frame} {meth : Method} {c : Code} (l : Launch) (hlt : l.stackTraces = false) {b L : Nat} {xs : Nat → Int32} (C0 : lw_At p s m meth c b L xs) (G : mx_G) (P : mx_P) (σ : mx_S) (hK : mx_K G P s) (hJ : mx_J G P s.heap (mxz σ) (mxu σ) σ s.heap []) (hbE : mpb P = s.heap.size) (hRc : room_1.cells = mpc P - mxz σ) (hRs : room_1.slots = mps P - mxu σ) : ∀ (v0 : Nat) (v1 : Nat) (v2 : Nat) (v3 : Nat) (v4 : Int32) (v5 : Int32) (w0 : Int32) (w1 : Int32) (w2 : Int32) (w3 : Nat) (τ : mx_S) (o : (Int32 × mx_S) ⊕ ((mx_S))), f_L_law_D1668_23 P L xs v0 v1 v2 v3 v4 v5 w0 w1 w2 w3 τ = some o → (∀ (y4 : Int32) (υ : mx_S), o = .inl (y4, υ) → ∀ (H : Heap) (locs : List Loc), mx_J G P s.heap (mxz σ) (mxu σ) υ H locs → ∀ ls : Array Slot, lv_has ls 8 [(0, .ref b), (1, .ref v1), (2, .ref v2), (3, .ref v3), (4, .int y4)] → W p l e room_1 s m #[Value.ref b] below meth c H locs (mxz υ - mxz σ) (mxu υ - mxu σ) (lw_Z below #[Value.ref b] s) (F0 m 23 ls [])) → (∀  (υ : mx_S), o = .inr υ → ∀ (H : Heap) (locs : List Loc), mx_J G P s.heap (mxz σ) (mxu σ) υ H locs → ∀ ls : Array Slot, lv_has ls 8 [] → W p l e room_1 s m #[Value.ref b] below meth c H locs (mxz υ - mxz σ) (mxu υ - mxu σ) (lw_Z below #[Value.ref b] s) (F0 m 2916 ls [])) → ∀ (H : Heap) (locs : List Loc), mx_J G P s.heap (mxz σ) (mxu σ) τ H locs → ∀ ls : Array Slot, lv_has ls 8 [(0, .ref b), (1, .ref v1), (2, .ref v2), (3, .ref v3), (4, .int v4), (5, .int v5)] → W p l e room_1 s m #[Value.ref b] below meth c H locs (mxz τ - mxz σ) (mxu τ - mxu σ) (lw_Z below #[Value.ref b] s) (F0 m 1668 ls [.int w0, .int w1, .int w2, .ref w3]) := by
  obtain ⟨hx, hb, hr, hml, hown, hts, hX, hbl, hlocks, hgv⟩ := id C0
  have hts : ∀ w ∈ mx_tbl, w.before #[Value.ref b] s = true := fun w hw => hts w (List.mem_filter.mp hw).1
  have hz0 := hJ.2.1
  have hbP : b < mpb P := by omega
  have hC : mpc P - mxz σ ≤ room_1.cells := Nat.le_of_eq hRc.symm
  have hS : mps P - mxu σ ≤ room_1.slots := Nat.le_of_eq hRs.symm
  have hown : s.vm.findClass RLn = some m.cls := hown
  have D1707_23 := @lw_D1707_23 p e s m below meth c l hlt b L xs C0 G P σ hK hJ hbE hRc hRs
  intro v0 v1 v2 v3 v4 v5 w0 w1 w2 w3 τ o hf Kb Ke0 H locs hJ ls hl
  unfold f_L_law_D1668_23 at hf
  refine lv_aload_n hx hb dL_law_1668 rfl (lv_at hl 0 rfl) ?_
  refine lv_iload hx hb dL_law_1669 (lv_at hl 4 rfl) ?_
  refine lv_iconst (v := 4) hx hb dL_law_1671 (by decide) ?_
  refine lv_iadd hx hb dL_law_1672 ?_
  obtain ⟨x603, e604, hf⟩ := mb0 hf
  refine mx_sld hx hb hX hbl hbP hz0 hJ e604 dL_law_1673 ?_
  obtain ⟨i605, e606, hf⟩ := mb0 hf
  obtain ⟨x608, σ607, e609, hf⟩ := mc0 hf
  refine mx_callV (As := [.int w2, .int w1, .int w0, .int x603]) (rest := []) hx hb hml hts hown hK hJ hRc hRs (ci := 12) rfl e606 (c_X12_mesh l G P w3 w2 w1 w0 x603 τ x608 σ607 e609) me_X12_mesh kw_2599 kw_2600 kw_2598 (Nat.le_of_ble_eq_true rfl) (Nat.le_of_ble_eq_true rfl) rfl hl.1 rfl (Nat.le_of_ble_eq_true rfl) dL_law_1674 (fun H locs hJ => ?_)
  refine lv_istore (lv' := [(6, .int x608), (0, .ref b), (1, .ref v1), (2, .ref v2), (3, .ref v3), (4, .int v4), (5, .int v5)]) hx hb dL_law_1677 hl (by decide) rfl (fun ls hl => ?_)
  refine lv_aload_n hx hb dL_law_1679 rfl (lv_at hl 3 rfl) ?_
  obtain ⟨i610, e611, hf⟩ := mb0 hf
  obtain ⟨x613, σ612, e614, hf⟩ := mc0 hf
  refine mx_callV (As := []) (rest := []) hx hb hml hts hown hK hJ hRc hRs (ci := 12) rfl e611 (c_X12_thrown l G P v2 σ607 x613 σ612 e614) me_X12_thrown kw_2207 kw_2208 kw_2206 (Nat.le_of_ble_eq_true rfl) (Nat.le_of_ble_eq_true rfl) rfl hl.1 rfl (Nat.le_of_ble_eq_true rfl) dL_law_1680 (fun H locs hJ => ?_)
  refine lv_iload hx hb dL_law_1683 (lv_at hl 6 rfl) ?_
  refine lv_icmp_eq (tgt := 1690) hx hb dL_law_1685 (by decide) (fun c615 => ?_) (fun c615 => ?_)
  · rw [if_pos c615] at hf
    refine lv_iload hx hb dL_law_1690 (lv_at hl 6 rfl) ?_
    refine lv_if_ne (tgt := 1707) hx hb dL_law_1692 (by decide) (fun c616 => ?_) (fun c616 => ?_)
    · rw [if_neg c616] at hf
      exact D1707_23 v0 v1 v2 v3 v4 σ612 o hf Kb Ke0 _ _ hJ ls (lv_sub hl [1, 2, 3, 4, 5] rfl)
    · rw [if_pos c616] at hf
      refine lv_aload_n hx hb dL_law_1695 rfl (lv_at hl 4 rfl) ?_
      refine lv_iconst (v := 0) hx hb dL_law_1696 (by decide) ?_
      obtain ⟨x617, e618, hf⟩ := mb0 hf
      refine mx_aL hx hb hK hJ e618 dL_law_1697 ?_
      refine lv_iload hx hb dL_law_1698 (lv_at hl 0 rfl) ?_
      refine lv_i2l hx hb dL_law_1700 rfl ?_
      refine W.lcmp hx hb dL_law_1701 ?_
      refine lv_if_eq (tgt := 1707) hx hb dL_law_1702 (by decide) (fun c619 => ?_) (fun c619 => ?_)
      · rw [if_pos c619] at hf
        exact D1707_23 v0 v1 v2 v3 v4 σ612 o hf Kb Ke0 _ _ hJ ls (lv_sub hl [1, 2, 3, 4, 5] rfl)
      · rw [if_neg c619] at hf
        cases hf
  · rw [if_neg c615] at hf
    cases hf
set_option maxHeartbeats 16000000 in
set_option maxRecDepth 100000 in
theorem lw_D1629_23 {p : Program} {e : Env} {s : State} {m : MethodId} {below : List Frame} {meth : Method} {c : Code} (l : Launch) (hlt : l.stackTraces = false) {b L : Nat} {xs : Nat → Int32} (C0 : lw_At p s m meth c b L xs) (G : mx_G) (P : mx_P) (σ : mx_S) (hK : mx_K G P s) (hJ : mx_J G P s.heap (mxz σ) (mxu σ) σ s.heap []) (hbE : mpb P = s.heap.size) (hRc : room_1.cells = mpc P - mxz σ) (hRs : room_1.slots = mps P - mxu σ) : ∀ (v0 : Nat) (v1 : Nat) (v2 : Nat) (v3 : Nat) (v4 : Int32) (w0 : Int32) (w1 : Int32) (w2 : Int32) (w3 : Nat) (τ : mx_S) (o : (Int32 × mx_S) ⊕ ((mx_S))), f_L_law_D1629_23 P L xs v0 v1 v2 v3 v4 w0 w1 w2 w3 τ = some o → (∀ (y4 : Int32) (υ : mx_S), o = .inl (y4, υ) → ∀ (H : Heap) (locs : List Loc), mx_J G P s.heap (mxz σ) (mxu σ) υ H locs → ∀ ls : Array Slot, lv_has ls 8 [(0, .ref b), (1, .ref v1), (2, .ref v2), (3, .ref v3), (4, .int y4)] → W p l e room_1 s m #[Value.ref b] below meth c H locs (mxz υ - mxz σ) (mxu υ - mxu σ) (lw_Z below #[Value.ref b] s) (F0 m 23 ls [])) → (∀  (υ : mx_S), o = .inr υ → ∀ (H : Heap) (locs : List Loc), mx_J G P s.heap (mxz σ) (mxu σ) υ H locs → ∀ ls : Array Slot, lv_has ls 8 [] → W p l e room_1 s m #[Value.ref b] below meth c H locs (mxz υ - mxz σ) (mxu υ - mxu σ) (lw_Z below #[Value.ref b] s) (F0 m 2916 ls [])) → ∀ (H : Heap) (locs : List Loc), mx_J G P s.heap (mxz σ) (mxu σ) τ H locs → ∀ ls : Array Slot, lv_has ls 8 [(0, .ref b), (1, .ref v1), (2, .ref v2), (3, .ref v3), (4, .int v4)] → W p l e room_1 s m #[Value.ref b] below meth c H locs (mxz τ - mxz σ) (mxu τ - mxu σ) (lw_Z below #[Value.ref b] s) (F0 m 1629 ls [.int w0, .int w1, .int w2, .ref w3]) := by
  obtain ⟨hx, hb, hr, hml, hown, hts, hX, hbl, hlocks, hgv⟩ := id C0
  have hts : ∀ w ∈ mx_tbl, w.before #[Value.ref b] s = true := fun w hw => hts w (List.mem_filter.mp hw).1
  have hz0 := hJ.2.1
  have hbP : b < mpb P := by omega
  have hC : mpc P - mxz σ ≤ room_1.cells := Nat.le_of_eq hRc.symm
  have hS : mps P - mxu σ ≤ room_1.slots := Nat.le_of_eq hRs.symm
  have hown : s.vm.findClass RLn = some m.cls := hown
  have D1668_23 := @lw_D1668_23 p e s m below meth c l hlt b L xs C0 G P σ hK hJ hbE hRc hRs
  intro v0 v1 v2 v3 v4 w0 w1 w2 w3 τ o hf Kb Ke0 H locs hJ ls hl
  unfold f_L_law_D1629_23 at hf
  refine lv_aload_n hx hb dL_law_1629 rfl (lv_at hl 0 rfl) ?_
  refine lv_iload hx hb dL_law_1630 (lv_at hl 4 rfl) ?_
  refine lv_iconst (v := 4) hx hb dL_law_1632 (by decide) ?_
  refine lv_iadd hx hb dL_law_1633 ?_
  obtain ⟨x591, e592, hf⟩ := mb0 hf
  refine mx_sld hx hb hX hbl hbP hz0 hJ e592 dL_law_1634 ?_
  refine lv_aload_n hx hb dL_law_1635 rfl (lv_at hl 3 rfl) ?_
  obtain ⟨x594, σ593, e595, hf⟩ := mc0 hf
  refine mx_callSW (As := [.ref w3, .int w2, .int w1, .int w0, .int x591, .ref v3]) (rest := []) hx hb hml hts hown hK hJ hRc hRs (c_L_mesh l hlt G P w3 w2 w1 w0 x591 v3 τ x594 σ593 e595) mw_L_mesh kw_1456 kw_1455 (Nat.le_of_ble_eq_true rfl) (Nat.le_of_ble_eq_true rfl) rfl hl.1 rfl (Nat.le_of_ble_eq_true rfl) dL_law_1636 (fun H locs hJ => ?_)
  refine lv_istore (lv' := [(5, .int x594), (0, .ref b), (1, .ref v1), (2, .ref v2), (3, .ref v3), (4, .int v4)]) hx hb dL_law_1639 hl (by decide) rfl (fun ls hl => ?_)
  refine lv_aload_n hx hb dL_law_1641 rfl (lv_at hl 3 rfl) ?_
  refine lv_aload_n hx hb dL_law_1642 rfl (lv_at hl 1 rfl) ?_
  refine lv_iload hx hb dL_law_1643 (lv_at hl 5 rfl) ?_
  refine lv_iconst (v := 1) hx hb dL_law_1645 (by decide) ?_
  refine lv_iadd hx hb dL_law_1646 ?_
  obtain ⟨x596, e597, hf⟩ := mb0 hf
  refine mx_sld hx hb hX hbl hbP hz0 hJ e597 dL_law_1647 ?_
  refine lv_aload_n hx hb dL_law_1648 rfl (lv_at hl 1 rfl) ?_
  refine lv_iload hx hb dL_law_1649 (lv_at hl 5 rfl) ?_
  refine lv_iconst (v := 2) hx hb dL_law_1651 (by decide) ?_
  refine lv_iadd hx hb dL_law_1652 ?_
  obtain ⟨x598, e599, hf⟩ := mb0 hf
  refine mx_sld hx hb hX hbl hbP hz0 hJ e599 dL_law_1653 ?_
  refine lv_aload_n hx hb dL_law_1654 rfl (lv_at hl 1 rfl) ?_
  refine lv_iload hx hb dL_law_1655 (lv_at hl 5 rfl) ?_
  refine lv_iconst (v := 3) hx hb dL_law_1657 (by decide) ?_
  refine lv_iadd hx hb dL_law_1658 ?_
  obtain ⟨x600, e601, hf⟩ := mb0 hf
  refine mx_sld hx hb hX hbl hbP hz0 hJ e601 dL_law_1659 ?_
  refine lv_if_eq (tgt := 1667) hx hb dL_law_1660 (by decide) (fun c602 => ?_) (fun c602 => ?_)
  · rw [if_pos c602] at hf
    refine lv_iconst (v := 0) hx hb dL_law_1667 (by decide) ?_
    exact D1668_23 v0 v1 v2 v3 v4 x594 (0 : Int32) x598 x596 v2 σ593 o hf Kb Ke0 _ _ hJ ls (lv_sub hl [1, 2, 3, 4, 5, 0] rfl)
  · rw [if_neg c602] at hf
    refine lv_iconst (v := 1) hx hb dL_law_1663 (by decide) ?_
    refine lv_goto (tgt := 1668) hx hb dL_law_1664 (by decide) ?_
    exact D1668_23 v0 v1 v2 v3 v4 x594 (1 : Int32) x598 x596 v2 σ593 o hf Kb Ke0 _ _ hJ ls (lv_sub hl [1, 2, 3, 4, 5, 0] rfl)
set_option maxHeartbeats 16000000 in
set_option maxRecDepth 100000 in
theorem lw_D1602_23 {p : Program} {e : Env} {s : State} {m : MethodId} {below : List Frame} {meth : Method} {c : Code} (l : Launch) (hlt : l.stackTraces = false) {b L : Nat} {xs : Nat → Int32} (C0 : lw_At p s m meth c b L xs) (G : mx_G) (P : mx_P) (σ : mx_S) (hK : mx_K G P s) (hJ : mx_J G P s.heap (mxz σ) (mxu σ) σ s.heap []) (hbE : mpb P = s.heap.size) (hRc : room_1.cells = mpc P - mxz σ) (hRs : room_1.slots = mps P - mxu σ) : ∀ (v0 : Nat) (v1 : Nat) (v2 : Nat) (v3 : Nat) (v4 : Int32) (τ : mx_S) (o : (Int32 × mx_S) ⊕ ((mx_S))), f_L_law_D1602_23 P L xs v0 v1 v2 v3 v4 τ = some o → (∀ (y4 : Int32) (υ : mx_S), o = .inl (y4, υ) → ∀ (H : Heap) (locs : List Loc), mx_J G P s.heap (mxz σ) (mxu σ) υ H locs → ∀ ls : Array Slot, lv_has ls 8 [(0, .ref b), (1, .ref v1), (2, .ref v2), (3, .ref v3), (4, .int y4)] → W p l e room_1 s m #[Value.ref b] below meth c H locs (mxz υ - mxz σ) (mxu υ - mxu σ) (lw_Z below #[Value.ref b] s) (F0 m 23 ls [])) → (∀  (υ : mx_S), o = .inr υ → ∀ (H : Heap) (locs : List Loc), mx_J G P s.heap (mxz σ) (mxu σ) υ H locs → ∀ ls : Array Slot, lv_has ls 8 [] → W p l e room_1 s m #[Value.ref b] below meth c H locs (mxz υ - mxz σ) (mxu υ - mxu σ) (lw_Z below #[Value.ref b] s) (F0 m 2916 ls [])) → ∀ (H : Heap) (locs : List Loc), mx_J G P s.heap (mxz σ) (mxu σ) τ H locs → ∀ ls : Array Slot, lv_has ls 8 [(0, .ref b), (1, .ref v1), (2, .ref v2), (3, .ref v3), (4, .int v4)] → W p l e room_1 s m #[Value.ref b] below meth c H locs (mxz τ - mxz σ) (mxu τ - mxu σ) (lw_Z below #[Value.ref b] s) (F0 m 1602 ls []) := by
  obtain ⟨hx, hb, hr, hml, hown, hts, hX, hbl, hlocks, hgv⟩ := id C0
  have hts : ∀ w ∈ mx_tbl, w.before #[Value.ref b] s = true := fun w hw => hts w (List.mem_filter.mp hw).1
  have hz0 := hJ.2.1
  have hbP : b < mpb P := by omega
  have hC : mpc P - mxz σ ≤ room_1.cells := Nat.le_of_eq hRc.symm
  have hS : mps P - mxu σ ≤ room_1.slots := Nat.le_of_eq hRs.symm
  have hown : s.vm.findClass RLn = some m.cls := hown
  have D1629_23 := @lw_D1629_23 p e s m below meth c l hlt b L xs C0 G P σ hK hJ hbE hRc hRs
  intro v0 v1 v2 v3 v4 τ o hf Kb Ke0 H locs hJ ls hl
  unfold f_L_law_D1602_23 at hf
  refine lv_aload_n hx hb dL_law_1602 rfl (lv_at hl 1 rfl) ?_
  refine lv_aload_n hx hb dL_law_1603 rfl (lv_at hl 0 rfl) ?_
  refine lv_iload hx hb dL_law_1604 (lv_at hl 4 rfl) ?_
  refine lv_iconst (v := 1) hx hb dL_law_1606 (by decide) ?_
  refine lv_iadd hx hb dL_law_1607 ?_
  obtain ⟨x584, e585, hf⟩ := mb0 hf
  refine mx_sld hx hb hX hbl hbP hz0 hJ e585 dL_law_1608 ?_
  refine lv_aload_n hx hb dL_law_1609 rfl (lv_at hl 0 rfl) ?_
  refine lv_iload hx hb dL_law_1610 (lv_at hl 4 rfl) ?_
  refine lv_iconst (v := 2) hx hb dL_law_1612 (by decide) ?_
  refine lv_iadd hx hb dL_law_1613 ?_
  obtain ⟨x586, e587, hf⟩ := mb0 hf
  refine mx_sld hx hb hX hbl hbP hz0 hJ e587 dL_law_1614 ?_
  refine lv_aload_n hx hb dL_law_1615 rfl (lv_at hl 0 rfl) ?_
  refine lv_iload hx hb dL_law_1616 (lv_at hl 4 rfl) ?_
  refine lv_iconst (v := 3) hx hb dL_law_1618 (by decide) ?_
  refine lv_iadd hx hb dL_law_1619 ?_
  obtain ⟨x588, e589, hf⟩ := mb0 hf
  refine mx_sld hx hb hX hbl hbP hz0 hJ e589 dL_law_1620 ?_
  refine lv_if_eq (tgt := 1628) hx hb dL_law_1621 (by decide) (fun c590 => ?_) (fun c590 => ?_)
  · rw [if_pos c590] at hf
    refine lv_iconst (v := 0) hx hb dL_law_1628 (by decide) ?_
    exact D1629_23 v0 v1 v2 v3 v4 (0 : Int32) x586 x584 v1 τ o hf Kb Ke0 _ _ hJ ls (lv_sub hl [0, 1, 2, 3, 4] rfl)
  · rw [if_neg c590] at hf
    refine lv_iconst (v := 1) hx hb dL_law_1624 (by decide) ?_
    refine lv_goto (tgt := 1629) hx hb dL_law_1625 (by decide) ?_
    exact D1629_23 v0 v1 v2 v3 v4 (1 : Int32) x586 x584 v1 τ o hf Kb Ke0 _ _ hJ ls (lv_sub hl [0, 1, 2, 3, 4] rfl)
set_option maxHeartbeats 16000000 in
set_option maxRecDepth 100000 in
theorem lw_D1710_23 {p : Program} {e : Env} {s : State} {m : MethodId} {below : List Frame} {meth : Method} {c : Code} (l : Launch) (hlt : l.stackTraces = false) {b L : Nat} {xs : Nat → Int32} (C0 : lw_At p s m meth c b L xs) (G : mx_G) (P : mx_P) (σ : mx_S) (hK : mx_K G P s) (hJ : mx_J G P s.heap (mxz σ) (mxu σ) σ s.heap []) (hbE : mpb P = s.heap.size) (hRc : room_1.cells = mpc P - mxz σ) (hRs : room_1.slots = mps P - mxu σ) : ∀ (v0 : Nat) (v1 : Nat) (v2 : Nat) (v3 : Nat) (v4 : Int32) (τ : mx_S) (o : (Int32 × mx_S) ⊕ ((mx_S))), f_L_law_D1710_23 P L xs v0 v1 v2 v3 v4 τ = some o → (∀ (y4 : Int32) (υ : mx_S), o = .inl (y4, υ) → ∀ (H : Heap) (locs : List Loc), mx_J G P s.heap (mxz σ) (mxu σ) υ H locs → ∀ ls : Array Slot, lv_has ls 8 [(0, .ref b), (1, .ref v1), (2, .ref v2), (3, .ref v3), (4, .int y4)] → W p l e room_1 s m #[Value.ref b] below meth c H locs (mxz υ - mxz σ) (mxu υ - mxu σ) (lw_Z below #[Value.ref b] s) (F0 m 23 ls [])) → (∀  (υ : mx_S), o = .inr υ → ∀ (H : Heap) (locs : List Loc), mx_J G P s.heap (mxz σ) (mxu σ) υ H locs → ∀ ls : Array Slot, lv_has ls 8 [] → W p l e room_1 s m #[Value.ref b] below meth c H locs (mxz υ - mxz σ) (mxu υ - mxu σ) (lw_Z below #[Value.ref b] s) (F0 m 2916 ls [])) → ∀ (H : Heap) (locs : List Loc), mx_J G P s.heap (mxz σ) (mxu σ) τ H locs → ∀ ls : Array Slot, lv_has ls 8 [(0, .ref b), (1, .ref v1), (2, .ref v2), (3, .ref v3), (4, .int v4)] → W p l e room_1 s m #[Value.ref b] below meth c H locs (mxz τ - mxz σ) (mxu τ - mxu σ) (lw_Z below #[Value.ref b] s) (F0 m 1710 ls []) := by
  obtain ⟨hx, hb, hr, hml, hown, hts, hX, hbl, hlocks, hgv⟩ := id C0
  have hts : ∀ w ∈ mx_tbl, w.before #[Value.ref b] s = true := fun w hw => hts w (List.mem_filter.mp hw).1
  have hz0 := hJ.2.1
  have hbP : b < mpb P := by omega
  have hC : mpc P - mxz σ ≤ room_1.cells := Nat.le_of_eq hRc.symm
  have hS : mps P - mxu σ ≤ room_1.slots := Nat.le_of_eq hRs.symm
  have hown : s.vm.findClass RLn = some m.cls := hown
  have D2910_23 := @lw_D2910_23 p e s m below meth c l hlt b L xs C0 G P σ hK hJ hbE hRc hRs
  intro v0 v1 v2 v3 v4 τ o hf Kb Ke0 H locs hJ ls hl
  unfold f_L_law_D1710_23 at hf
  refine lv_aload_n hx hb dL_law_1710 rfl (lv_at hl 1 rfl) ?_
  refine lv_aload_n hx hb dL_law_1711 rfl (lv_at hl 0 rfl) ?_
  refine lv_iload hx hb dL_law_1712 (lv_at hl 4 rfl) ?_
  refine lv_iconst (v := 1) hx hb dL_law_1714 (by decide) ?_
  refine lv_iadd hx hb dL_law_1715 ?_
  obtain ⟨x621, e622, hf⟩ := mb0 hf
  refine mx_sld hx hb hX hbl hbP hz0 hJ e622 dL_law_1716 ?_
  refine lv_aload_n hx hb dL_law_1717 rfl (lv_at hl 0 rfl) ?_
  refine lv_iload hx hb dL_law_1718 (lv_at hl 4 rfl) ?_
  refine lv_iconst (v := 2) hx hb dL_law_1720 (by decide) ?_
  refine lv_iadd hx hb dL_law_1721 ?_
  obtain ⟨x623, e624, hf⟩ := mb0 hf
  refine mx_sld hx hb hX hbl hbP hz0 hJ e624 dL_law_1722 ?_
  refine lv_aload_n hx hb dL_law_1723 rfl (lv_at hl 0 rfl) ?_
  refine lv_iload hx hb dL_law_1724 (lv_at hl 4 rfl) ?_
  refine lv_iconst (v := 3) hx hb dL_law_1726 (by decide) ?_
  refine lv_iadd hx hb dL_law_1727 ?_
  obtain ⟨x625, e626, hf⟩ := mb0 hf
  refine mx_sld hx hb hX hbl hbP hz0 hJ e626 dL_law_1728 ?_
  refine lv_aload_n hx hb dL_law_1729 rfl (lv_at hl 0 rfl) ?_
  refine lv_iload hx hb dL_law_1730 (lv_at hl 4 rfl) ?_
  refine lv_iconst (v := 4) hx hb dL_law_1732 (by decide) ?_
  refine lv_iadd hx hb dL_law_1733 ?_
  obtain ⟨x627, e628, hf⟩ := mb0 hf
  refine mx_sld hx hb hX hbl hbP hz0 hJ e628 dL_law_1734 ?_
  obtain ⟨x630, σ629, e631, hf⟩ := mc0 hf
  refine mx_callSW (As := [.ref v1, .int x621, .int x623, .int x625, .int x627]) (rest := []) hx hb hml hts hown hK hJ hRc hRs (c_L_shaft l hlt G P v1 x621 x623 x625 x627 τ x630 σ629 e631) mw_L_shaft kw_1467 kw_1466 (Nat.le_of_ble_eq_true rfl) (Nat.le_of_ble_eq_true rfl) rfl hl.1 rfl (Nat.le_of_ble_eq_true rfl) dL_law_1735 (fun H locs hJ => ?_)
  refine lv_istore (lv' := [(5, .int x630), (0, .ref b), (1, .ref v1), (2, .ref v2), (3, .ref v3), (4, .int v4)]) hx hb dL_law_1738 hl (by decide) rfl (fun ls hl => ?_)
  refine lv_aload_n hx hb dL_law_1740 rfl (lv_at hl 3 rfl) ?_
  refine lv_aload_n hx hb dL_law_1741 rfl (lv_at hl 1 rfl) ?_
  refine lv_iload hx hb dL_law_1742 (lv_at hl 5 rfl) ?_
  refine lv_iconst (v := 1) hx hb dL_law_1744 (by decide) ?_
  refine lv_iadd hx hb dL_law_1745 ?_
  obtain ⟨x632, e633, hf⟩ := mb0 hf
  refine mx_sld hx hb hX hbl hbP hz0 hJ e633 dL_law_1746 ?_
  refine lv_aload_n hx hb dL_law_1747 rfl (lv_at hl 1 rfl) ?_
  refine lv_iload hx hb dL_law_1748 (lv_at hl 5 rfl) ?_
  refine lv_iconst (v := 2) hx hb dL_law_1750 (by decide) ?_
  refine lv_iadd hx hb dL_law_1751 ?_
  obtain ⟨x634, e635, hf⟩ := mb0 hf
  refine mx_sld hx hb hX hbl hbP hz0 hJ e635 dL_law_1752 ?_
  refine lv_aload_n hx hb dL_law_1753 rfl (lv_at hl 1 rfl) ?_
  refine lv_iload hx hb dL_law_1754 (lv_at hl 5 rfl) ?_
  refine lv_iconst (v := 3) hx hb dL_law_1756 (by decide) ?_
  refine lv_iadd hx hb dL_law_1757 ?_
  obtain ⟨x636, e637, hf⟩ := mb0 hf
  refine mx_sld hx hb hX hbl hbP hz0 hJ e637 dL_law_1758 ?_
  refine lv_aload_n hx hb dL_law_1759 rfl (lv_at hl 1 rfl) ?_
  refine lv_iload hx hb dL_law_1760 (lv_at hl 5 rfl) ?_
  refine lv_iconst (v := 4) hx hb dL_law_1762 (by decide) ?_
  refine lv_iadd hx hb dL_law_1763 ?_
  obtain ⟨x638, e639, hf⟩ := mb0 hf
  refine mx_sld hx hb hX hbl hbP hz0 hJ e639 dL_law_1764 ?_
  obtain ⟨i640, e641, hf⟩ := mb0 hf
  obtain ⟨σ642, e643, hf⟩ := mb0 hf
  refine mx_callV (As := [.int x632, .int x634, .int x636, .int x638]) (rest := []) hx hb hml hts hown hK hJ hRc hRs (ci := 12) rfl e641 (c_X12_shaft l G P v2 x632 x634 x636 x638 σ629 σ642 e643) me_X12_shaft kw_2608 kw_2609 kw_2607 (Nat.le_of_ble_eq_true rfl) (Nat.le_of_ble_eq_true rfl) rfl hl.1 rfl (Nat.le_of_ble_eq_true rfl) dL_law_1765 (fun H locs hJ => ?_)
  refine lv_aload_n hx hb dL_law_1768 rfl (lv_at hl 3 rfl) ?_
  obtain ⟨i644, e645, hf⟩ := mb0 hf
  obtain ⟨x647, σ646, e648, hf⟩ := mc0 hf
  refine mx_callV (As := []) (rest := []) hx hb hml hts hown hK hJ hRc hRs (ci := 12) rfl e645 (c_X12_thrown l G P v2 σ642 x647 σ646 e648) me_X12_thrown kw_2207 kw_2208 kw_2206 (Nat.le_of_ble_eq_true rfl) (Nat.le_of_ble_eq_true rfl) rfl hl.1 rfl (Nat.le_of_ble_eq_true rfl) dL_law_1769 (fun H locs hJ => ?_)
  refine lv_iload hx hb dL_law_1772 (lv_at hl 0 rfl) ?_
  refine lv_icmp_eq (tgt := 1779) hx hb dL_law_1774 (by decide) (fun c649 => ?_) (fun c649 => ?_)
  · rw [if_pos c649] at hf
    refine lv_goto (tgt := 2910) hx hb dL_law_1779 (by decide) ?_
    exact D2910_23 v0 v1 v2 v3 v4 σ646 o hf Kb Ke0 _ _ hJ ls (lv_sub hl [1, 2, 3, 4, 5] rfl)
  · rw [if_neg c649] at hf
    cases hf
set_option maxHeartbeats 16000000 in
set_option maxRecDepth 100000 in
theorem lw_D1782_23 {p : Program} {e : Env} {s : State} {m : MethodId} {below : List Frame} {meth : Method} {c : Code} (l : Launch) (hlt : l.stackTraces = false) {b L : Nat} {xs : Nat → Int32} (C0 : lw_At p s m meth c b L xs) (G : mx_G) (P : mx_P) (σ : mx_S) (hK : mx_K G P s) (hJ : mx_J G P s.heap (mxz σ) (mxu σ) σ s.heap []) (hbE : mpb P = s.heap.size) (hRc : room_1.cells = mpc P - mxz σ) (hRs : room_1.slots = mps P - mxu σ) : ∀ (v0 : Nat) (v1 : Nat) (v2 : Nat) (v3 : Nat) (v4 : Int32) (τ : mx_S) (o : (Int32 × mx_S) ⊕ ((mx_S))), f_L_law_D1782_23 P L xs v0 v1 v2 v3 v4 τ = some o → (∀ (y4 : Int32) (υ : mx_S), o = .inl (y4, υ) → ∀ (H : Heap) (locs : List Loc), mx_J G P s.heap (mxz σ) (mxu σ) υ H locs → ∀ ls : Array Slot, lv_has ls 8 [(0, .ref b), (1, .ref v1), (2, .ref v2), (3, .ref v3), (4, .int y4)] → W p l e room_1 s m #[Value.ref b] below meth c H locs (mxz υ - mxz σ) (mxu υ - mxu σ) (lw_Z below #[Value.ref b] s) (F0 m 23 ls [])) → (∀  (υ : mx_S), o = .inr υ → ∀ (H : Heap) (locs : List Loc), mx_J G P s.heap (mxz σ) (mxu σ) υ H locs → ∀ ls : Array Slot, lv_has ls 8 [] → W p l e room_1 s m #[Value.ref b] below meth c H locs (mxz υ - mxz σ) (mxu υ - mxu σ) (lw_Z below #[Value.ref b] s) (F0 m 2916 ls [])) → ∀ (H : Heap) (locs : List Loc), mx_J G P s.heap (mxz σ) (mxu σ) τ H locs → ∀ ls : Array Slot, lv_has ls 8 [(0, .ref b), (1, .ref v1), (2, .ref v2), (3, .ref v3), (4, .int v4)] → W p l e room_1 s m #[Value.ref b] below meth c H locs (mxz τ - mxz σ) (mxu τ - mxu σ) (lw_Z below #[Value.ref b] s) (F0 m 1782 ls []) := by
  obtain ⟨hx, hb, hr, hml, hown, hts, hX, hbl, hlocks, hgv⟩ := id C0
  have hts : ∀ w ∈ mx_tbl, w.before #[Value.ref b] s = true := fun w hw => hts w (List.mem_filter.mp hw).1
  have hz0 := hJ.2.1
  have hbP : b < mpb P := by omega
  have hC : mpc P - mxz σ ≤ room_1.cells := Nat.le_of_eq hRc.symm
  have hS : mps P - mxu σ ≤ room_1.slots := Nat.le_of_eq hRs.symm
  have hown : s.vm.findClass RLn = some m.cls := hown
  have D2910_23 := @lw_D2910_23 p e s m below meth c l hlt b L xs C0 G P σ hK hJ hbE hRc hRs
  intro v0 v1 v2 v3 v4 τ o hf Kb Ke0 H locs hJ ls hl
  unfold f_L_law_D1782_23 at hf
  refine lv_aload_n hx hb dL_law_1782 rfl (lv_at hl 1 rfl) ?_
  obtain ⟨i651, e652, hf⟩ := mb0 hf
  obtain ⟨σ653, e654, hf⟩ := mb0 hf
  refine mx_callV (As := []) (rest := []) hx hb hml hts hown hK hJ hRc hRs (ci := 11) rfl e652 (c_X11_clear l G P v1 τ σ653 e654) me_X11_clear kw_809 kw_810 kw_808 (Nat.le_of_ble_eq_true rfl) (Nat.le_of_ble_eq_true rfl) rfl hl.1 rfl (Nat.le_of_ble_eq_true rfl) dL_law_1783 (fun H locs hJ => ?_)
  refine lv_aload_n hx hb dL_law_1786 rfl (lv_at hl 2 rfl) ?_
  obtain ⟨i655, e656, hf⟩ := mb0 hf
  obtain ⟨σ657, e658, hf⟩ := mb0 hf
  refine mx_callV (As := []) (rest := []) hx hb hml hts hown hK hJ hRc hRs (ci := 12) rfl e656 (c_X12_clear l G P v2 σ653 σ657 e658) me_X12_clear kw_2612 kw_2613 kw_2611 (Nat.le_of_ble_eq_true rfl) (Nat.le_of_ble_eq_true rfl) rfl hl.1 rfl (Nat.le_of_ble_eq_true rfl) dL_law_1787 (fun H locs hJ => ?_)
  refine lv_goto (tgt := 2910) hx hb dL_law_1790 (by decide) ?_
  exact D2910_23 v0 v1 v2 v3 v4 σ657 o hf Kb Ke0 _ _ hJ ls (lv_sub hl [0, 1, 2, 3, 4] rfl)
set_option maxHeartbeats 16000000 in
set_option maxRecDepth 100000 in
theorem lw_D1793_23 {p : Program} {e : Env} {s : State} {m : MethodId} {below : List Frame} {meth : Method} {c : Code} (l : Launch) (hlt : l.stackTraces = false) {b L : Nat} {xs : Nat → Int32} (C0 : lw_At p s m meth c b L xs) (G : mx_G) (P : mx_P) (σ : mx_S) (hK : mx_K G P s) (hJ : mx_J G P s.heap (mxz σ) (mxu σ) σ s.heap []) (hbE : mpb P = s.heap.size) (hRc : room_1.cells = mpc P - mxz σ) (hRs : room_1.slots = mps P - mxu σ) : ∀ (v0 : Nat) (v1 : Nat) (v2 : Nat) (v3 : Nat) (v4 : Int32) (τ : mx_S) (o : (Int32 × mx_S) ⊕ ((mx_S))), f_L_law_D1793_23 P L xs v0 v1 v2 v3 v4 τ = some o → (∀ (y4 : Int32) (υ : mx_S), o = .inl (y4, υ) → ∀ (H : Heap) (locs : List Loc), mx_J G P s.heap (mxz σ) (mxu σ) υ H locs → ∀ ls : Array Slot, lv_has ls 8 [(0, .ref b), (1, .ref v1), (2, .ref v2), (3, .ref v3), (4, .int y4)] → W p l e room_1 s m #[Value.ref b] below meth c H locs (mxz υ - mxz σ) (mxu υ - mxu σ) (lw_Z below #[Value.ref b] s) (F0 m 23 ls [])) → (∀  (υ : mx_S), o = .inr υ → ∀ (H : Heap) (locs : List Loc), mx_J G P s.heap (mxz σ) (mxu σ) υ H locs → ∀ ls : Array Slot, lv_has ls 8 [] → W p l e room_1 s m #[Value.ref b] below meth c H locs (mxz υ - mxz σ) (mxu υ - mxu σ) (lw_Z below #[Value.ref b] s) (F0 m 2916 ls [])) → ∀ (H : Heap) (locs : List Loc), mx_J G P s.heap (mxz σ) (mxu σ) τ H locs → ∀ ls : Array Slot, lv_has ls 8 [(0, .ref b), (1, .ref v1), (2, .ref v2), (3, .ref v3), (4, .int v4)] → W p l e room_1 s m #[Value.ref b] below meth c H locs (mxz τ - mxz σ) (mxu τ - mxu σ) (lw_Z below #[Value.ref b] s) (F0 m 1793 ls []) := by
  obtain ⟨hx, hb, hr, hml, hown, hts, hX, hbl, hlocks, hgv⟩ := id C0
  have hts : ∀ w ∈ mx_tbl, w.before #[Value.ref b] s = true := fun w hw => hts w (List.mem_filter.mp hw).1
  have hz0 := hJ.2.1
  have hbP : b < mpb P := by omega
  have hC : mpc P - mxz σ ≤ room_1.cells := Nat.le_of_eq hRc.symm
  have hS : mps P - mxu σ ≤ room_1.slots := Nat.le_of_eq hRs.symm
  have hown : s.vm.findClass RLn = some m.cls := hown
  have D2910_23 := @lw_D2910_23 p e s m below meth c l hlt b L xs C0 G P σ hK hJ hbE hRc hRs
  intro v0 v1 v2 v3 v4 τ o hf Kb Ke0 H locs hJ ls hl
  unfold f_L_law_D1793_23 at hf
  refine lv_aload_n hx hb dL_law_1793 rfl (lv_at hl 1 rfl) ?_
  obtain ⟨i660, e661, hf⟩ := mb0 hf
  obtain ⟨x663, σ662, e664, hf⟩ := mc0 hf
  refine mx_callV (As := []) (rest := []) hx hb hml hts hown hK hJ hRc hRs (ci := 11) rfl e661 (c_X11_solved l G P v1 τ x663 σ662 e664) me_X11_solved kw_820 kw_821 kw_819 (Nat.le_of_ble_eq_true rfl) (Nat.le_of_ble_eq_true rfl) rfl hl.1 rfl (Nat.le_of_ble_eq_true rfl) dL_law_1794 (fun H locs hJ => ?_)
  refine lv_aload_n hx hb dL_law_1797 rfl (lv_at hl 2 rfl) ?_
  obtain ⟨i665, e666, hf⟩ := mb0 hf
  obtain ⟨x668, σ667, e669, hf⟩ := mc0 hf
  refine mx_callV (As := []) (rest := [.int x663]) hx hb hml hts hown hK hJ hRc hRs (ci := 12) rfl e666 (c_X12_solved l G P v2 σ662 x668 σ667 e669) me_X12_solved kw_2616 kw_2617 kw_2615 (Nat.le_of_ble_eq_true rfl) (Nat.le_of_ble_eq_true rfl) rfl hl.1 rfl (Nat.le_of_ble_eq_true rfl) dL_law_1798 (fun H locs hJ => ?_)
  refine lv_icmp_eq (tgt := 2910) hx hb dL_law_1801 (by decide) (fun c670 => ?_) (fun c670 => ?_)
  · rw [if_pos c670] at hf
    exact D2910_23 v0 v1 v2 v3 v4 σ667 o hf Kb Ke0 _ _ hJ ls (lv_sub hl [0, 1, 2, 3, 4] rfl)
  · rw [if_neg c670] at hf
    cases hf
set_option maxHeartbeats 16000000 in
set_option maxRecDepth 100000 in
theorem lw_D1870_23 {p : Program} {e : Env} {s : State} {m : MethodId} {below : List Frame} {meth : Method} {c : Code} (l : Launch) (hlt : l.stackTraces = false) {b L : Nat} {xs : Nat → Int32} (C0 : lw_At p s m meth c b L xs) (G : mx_G) (P : mx_P) (σ : mx_S) (hK : mx_K G P s) (hJ : mx_J G P s.heap (mxz σ) (mxu σ) σ s.heap []) (hbE : mpb P = s.heap.size) (hRc : room_1.cells = mpc P - mxz σ) (hRs : room_1.slots = mps P - mxu σ) : ∀ (v0 : Nat) (v1 : Nat) (v2 : Nat) (v3 : Nat) (v4 : Int32) (τ : mx_S) (o : (Int32 × mx_S) ⊕ ((mx_S))), f_L_law_D1870_23 P L xs v0 v1 v2 v3 v4 τ = some o → (∀ (y4 : Int32) (υ : mx_S), o = .inl (y4, υ) → ∀ (H : Heap) (locs : List Loc), mx_J G P s.heap (mxz σ) (mxu σ) υ H locs → ∀ ls : Array Slot, lv_has ls 8 [(0, .ref b), (1, .ref v1), (2, .ref v2), (3, .ref v3), (4, .int y4)] → W p l e room_1 s m #[Value.ref b] below meth c H locs (mxz υ - mxz σ) (mxu υ - mxu σ) (lw_Z below #[Value.ref b] s) (F0 m 23 ls [])) → (∀  (υ : mx_S), o = .inr υ → ∀ (H : Heap) (locs : List Loc), mx_J G P s.heap (mxz σ) (mxu σ) υ H locs → ∀ ls : Array Slot, lv_has ls 8 [] → W p l e room_1 s m #[Value.ref b] below meth c H locs (mxz υ - mxz σ) (mxu υ - mxu σ) (lw_Z below #[Value.ref b] s) (F0 m 2916 ls [])) → ∀ (H : Heap) (locs : List Loc), mx_J G P s.heap (mxz σ) (mxu σ) τ H locs → ∀ ls : Array Slot, lv_has ls 8 [(0, .ref b), (1, .ref v1), (2, .ref v2), (3, .ref v3), (4, .int v4)] → W p l e room_1 s m #[Value.ref b] below meth c H locs (mxz τ - mxz σ) (mxu τ - mxu σ) (lw_Z below #[Value.ref b] s) (F0 m 1870 ls []) := by
  obtain ⟨hx, hb, hr, hml, hown, hts, hX, hbl, hlocks, hgv⟩ := id C0
  have hts : ∀ w ∈ mx_tbl, w.before #[Value.ref b] s = true := fun w hw => hts w (List.mem_filter.mp hw).1
  have hz0 := hJ.2.1
  have hbP : b < mpb P := by omega
  have hC : mpc P - mxz σ ≤ room_1.cells := Nat.le_of_eq hRc.symm
  have hS : mps P - mxu σ ≤ room_1.slots := Nat.le_of_eq hRs.symm
  have hown : s.vm.findClass RLn = some m.cls := hown
  have D2910_23 := @lw_D2910_23 p e s m below meth c l hlt b L xs C0 G P σ hK hJ hbE hRc hRs
  intro v0 v1 v2 v3 v4 τ o hf Kb Ke0 H locs hJ ls hl
  unfold f_L_law_D1870_23 at hf
  refine lv_goto (tgt := 2910) hx hb dL_law_1870 (by decide) ?_
  exact D2910_23 v0 v1 v2 v3 v4 τ o hf Kb Ke0 _ _ hJ ls (lv_sub hl [0, 1, 2, 3, 4] rfl)
set_option maxHeartbeats 16000000 in
set_option maxRecDepth 100000 in
theorem lw_D1806_23 {p : Program} {e : Env} {s : State} {m : MethodId} {below : List Frame} {meth : Method} {c : Code} (l : Launch) (hlt : l.stackTraces = false) {b L : Nat} {xs : Nat → Int32} (C0 : lw_At p s m meth c b L xs) (G : mx_G) (P : mx_P) (σ : mx_S) (hK : mx_K G P s) (hJ : mx_J G P s.heap (mxz σ) (mxu σ) σ s.heap []) (hbE : mpb P = s.heap.size) (hRc : room_1.cells = mpc P - mxz σ) (hRs : room_1.slots = mps P - mxu σ) : ∀ (v0 : Nat) (v1 : Nat) (v2 : Nat) (v3 : Nat) (v4 : Int32) (τ : mx_S) (o : (Int32 × mx_S) ⊕ ((mx_S))), f_L_law_D1806_23 P L xs v0 v1 v2 v3 v4 τ = some o → (∀ (y4 : Int32) (υ : mx_S), o = .inl (y4, υ) → ∀ (H : Heap) (locs : List Loc), mx_J G P s.heap (mxz σ) (mxu σ) υ H locs → ∀ ls : Array Slot, lv_has ls 8 [(0, .ref b), (1, .ref v1), (2, .ref v2), (3, .ref v3), (4, .int y4)] → W p l e room_1 s m #[Value.ref b] below meth c H locs (mxz υ - mxz σ) (mxu υ - mxu σ) (lw_Z below #[Value.ref b] s) (F0 m 23 ls [])) → (∀  (υ : mx_S), o = .inr υ → ∀ (H : Heap) (locs : List Loc), mx_J G P s.heap (mxz σ) (mxu σ) υ H locs → ∀ ls : Array Slot, lv_has ls 8 [] → W p l e room_1 s m #[Value.ref b] below meth c H locs (mxz υ - mxz σ) (mxu υ - mxu σ) (lw_Z below #[Value.ref b] s) (F0 m 2916 ls [])) → ∀ (H : Heap) (locs : List Loc), mx_J G P s.heap (mxz σ) (mxu σ) τ H locs → ∀ ls : Array Slot, lv_has ls 8 [(0, .ref b), (1, .ref v1), (2, .ref v2), (3, .ref v3), (4, .int v4)] → W p l e room_1 s m #[Value.ref b] below meth c H locs (mxz τ - mxz σ) (mxu τ - mxu σ) (lw_Z below #[Value.ref b] s) (F0 m 1806 ls []) := by
  obtain ⟨hx, hb, hr, hml, hown, hts, hX, hbl, hlocks, hgv⟩ := id C0
  have hts : ∀ w ∈ mx_tbl, w.before #[Value.ref b] s = true := fun w hw => hts w (List.mem_filter.mp hw).1
  have hz0 := hJ.2.1
  have hbP : b < mpb P := by omega
  have hC : mpc P - mxz σ ≤ room_1.cells := Nat.le_of_eq hRc.symm
  have hS : mps P - mxu σ ≤ room_1.slots := Nat.le_of_eq hRs.symm
  have hown : s.vm.findClass RLn = some m.cls := hown
  have D1870_23 := @lw_D1870_23 p e s m below meth c l hlt b L xs C0 G P σ hK hJ hbE hRc hRs
  intro v0 v1 v2 v3 v4 τ o hf Kb Ke0 H locs hJ ls hl
  unfold f_L_law_D1806_23 at hf
  refine lv_aload_n hx hb dL_law_1806 rfl (lv_at hl 1 rfl) ?_
  refine lv_aload_n hx hb dL_law_1807 rfl (lv_at hl 0 rfl) ?_
  refine lv_iload hx hb dL_law_1808 (lv_at hl 4 rfl) ?_
  refine lv_iconst (v := 1) hx hb dL_law_1810 (by decide) ?_
  refine lv_iadd hx hb dL_law_1811 ?_
  obtain ⟨x672, e673, hf⟩ := mb0 hf
  refine mx_sld hx hb hX hbl hbP hz0 hJ e673 dL_law_1812 ?_
  refine lv_aload_n hx hb dL_law_1813 rfl (lv_at hl 0 rfl) ?_
  refine lv_iload hx hb dL_law_1814 (lv_at hl 4 rfl) ?_
  refine lv_iconst (v := 2) hx hb dL_law_1816 (by decide) ?_
  refine lv_iadd hx hb dL_law_1817 ?_
  obtain ⟨x674, e675, hf⟩ := mb0 hf
  refine mx_sld hx hb hX hbl hbP hz0 hJ e675 dL_law_1818 ?_
  refine lv_aload_n hx hb dL_law_1819 rfl (lv_at hl 3 rfl) ?_
  obtain ⟨x677, σ676, e678, hf⟩ := mc0 hf
  refine mx_callSW (As := [.ref v1, .int x672, .int x674, .ref v3]) (rest := []) hx hb hml hts hown hK hJ hRc hRs (c_L_turns l hlt G P v1 x672 x674 v3 τ x677 σ676 e678) mw_L_turns kw_1478 kw_1477 (Nat.le_of_ble_eq_true rfl) (Nat.le_of_ble_eq_true rfl) rfl hl.1 rfl (Nat.le_of_ble_eq_true rfl) dL_law_1820 (fun H locs hJ => ?_)
  refine lv_istore (lv' := [(5, .int x677), (0, .ref b), (1, .ref v1), (2, .ref v2), (3, .ref v3), (4, .int v4)]) hx hb dL_law_1823 hl (by decide) rfl (fun ls hl => ?_)
  refine lv_aload_n hx hb dL_law_1825 rfl (lv_at hl 3 rfl) ?_
  refine lv_aload_n hx hb dL_law_1826 rfl (lv_at hl 1 rfl) ?_
  refine lv_iload hx hb dL_law_1827 (lv_at hl 5 rfl) ?_
  refine lv_iconst (v := 1) hx hb dL_law_1829 (by decide) ?_
  refine lv_iadd hx hb dL_law_1830 ?_
  obtain ⟨x679, e680, hf⟩ := mb0 hf
  refine mx_sld hx hb hX hbl hbP hz0 hJ e680 dL_law_1831 ?_
  refine lv_aload_n hx hb dL_law_1832 rfl (lv_at hl 1 rfl) ?_
  refine lv_iload hx hb dL_law_1833 (lv_at hl 5 rfl) ?_
  refine lv_iconst (v := 2) hx hb dL_law_1835 (by decide) ?_
  refine lv_iadd hx hb dL_law_1836 ?_
  obtain ⟨x681, e682, hf⟩ := mb0 hf
  refine mx_sld hx hb hX hbl hbP hz0 hJ e682 dL_law_1837 ?_
  obtain ⟨i683, e684, hf⟩ := mb0 hf
  obtain ⟨x686, σ685, e687, hf⟩ := mc0 hf
  refine mx_callV (As := [.int x679, .int x681]) (rest := []) hx hb hml hts hown hK hJ hRc hRs (ci := 12) rfl e684 (c_X12_turns l G P v2 x679 x681 σ676 x686 σ685 e687) me_X12_turns kw_2665 kw_2666 kw_2664 (Nat.le_of_ble_eq_true rfl) (Nat.le_of_ble_eq_true rfl) rfl hl.1 rfl (Nat.le_of_ble_eq_true rfl) dL_law_1838 (fun H locs hJ => ?_)
  refine lv_lstore (lv' := [(6, .long x686), (5, .int x677), (0, .ref b), (1, .ref v1), (2, .ref v2), (3, .ref v3), (4, .int v4)]) hx hb dL_law_1841 hl (by decide) rfl (fun ls hl => ?_)
  refine lv_aload_n hx hb dL_law_1843 rfl (lv_at hl 4 rfl) ?_
  obtain ⟨i688, e689, hf⟩ := mb0 hf
  obtain ⟨x691, σ690, e692, hf⟩ := mc0 hf
  refine mx_callV (As := []) (rest := []) hx hb hml hts hown hK hJ hRc hRs (ci := 12) rfl e689 (c_X12_thrown l G P v2 σ685 x691 σ690 e692) me_X12_thrown kw_2207 kw_2208 kw_2206 (Nat.le_of_ble_eq_true rfl) (Nat.le_of_ble_eq_true rfl) rfl hl.1 rfl (Nat.le_of_ble_eq_true rfl) dL_law_1844 (fun H locs hJ => ?_)
  refine lv_iload hx hb dL_law_1847 (lv_at hl 1 rfl) ?_
  refine lv_icmp_eq (tgt := 1854) hx hb dL_law_1849 (by decide) (fun c693 => ?_) (fun c693 => ?_)
  · rw [if_pos c693] at hf
    refine lv_iload hx hb dL_law_1854 (lv_at hl 1 rfl) ?_
    refine lv_if_ne (tgt := 1870) hx hb dL_law_1856 (by decide) (fun c694 => ?_) (fun c694 => ?_)
    · rw [if_neg c694] at hf
      exact D1870_23 v0 v1 v2 v3 v4 σ690 o hf Kb Ke0 _ _ hJ ls (lv_sub hl [2, 3, 4, 5, 6] rfl)
    · rw [if_pos c694] at hf
      refine lv_aload_n hx hb dL_law_1859 rfl (lv_at hl 5 rfl) ?_
      refine lv_iconst (v := 0) hx hb dL_law_1860 (by decide) ?_
      obtain ⟨x695, e696, hf⟩ := mb0 hf
      refine mx_aL hx hb hK hJ e696 dL_law_1861 ?_
      refine lv_lload hx hb dL_law_1862 (lv_at hl 0 rfl) ?_
      refine W.lcmp hx hb dL_law_1864 ?_
      refine lv_if_eq (tgt := 1870) hx hb dL_law_1865 (by decide) (fun c697 => ?_) (fun c697 => ?_)
      · rw [if_pos c697] at hf
        exact D1870_23 v0 v1 v2 v3 v4 σ690 o hf Kb Ke0 _ _ hJ ls (lv_sub hl [2, 3, 4, 5, 6] rfl)
      · rw [if_neg c697] at hf
        cases hf
  · rw [if_neg c693] at hf
    cases hf
set_option maxHeartbeats 16000000 in
set_option maxRecDepth 100000 in
theorem lw_D1966_23 {p : Program} {e : Env} {s : State} {m : MethodId} {below : List Frame} {meth : Method} {c : Code} (l : Launch) (hlt : l.stackTraces = false) {b L : Nat} {xs : Nat → Int32} (C0 : lw_At p s m meth c b L xs) (G : mx_G) (P : mx_P) (σ : mx_S) (hK : mx_K G P s) (hJ : mx_J G P s.heap (mxz σ) (mxu σ) σ s.heap []) (hbE : mpb P = s.heap.size) (hRc : room_1.cells = mpc P - mxz σ) (hRs : room_1.slots = mps P - mxu σ) : ∀ (v0 : Nat) (v1 : Nat) (v2 : Nat) (v3 : Nat) (v4 : Int32) (τ : mx_S) (o : (Int32 × mx_S) ⊕ ((mx_S))), f_L_law_D1966_23 P L xs v0 v1 v2 v3 v4 τ = some o → (∀ (y4 : Int32) (υ : mx_S), o = .inl (y4, υ) → ∀ (H : Heap) (locs : List Loc), mx_J G P s.heap (mxz σ) (mxu σ) υ H locs → ∀ ls : Array Slot, lv_has ls 8 [(0, .ref b), (1, .ref v1), (2, .ref v2), (3, .ref v3), (4, .int y4)] → W p l e room_1 s m #[Value.ref b] below meth c H locs (mxz υ - mxz σ) (mxu υ - mxu σ) (lw_Z below #[Value.ref b] s) (F0 m 23 ls [])) → (∀  (υ : mx_S), o = .inr υ → ∀ (H : Heap) (locs : List Loc), mx_J G P s.heap (mxz σ) (mxu σ) υ H locs → ∀ ls : Array Slot, lv_has ls 8 [] → W p l e room_1 s m #[Value.ref b] below meth c H locs (mxz υ - mxz σ) (mxu υ - mxu σ) (lw_Z below #[Value.ref b] s) (F0 m 2916 ls [])) → ∀ (H : Heap) (locs : List Loc), mx_J G P s.heap (mxz σ) (mxu σ) τ H locs → ∀ ls : Array Slot, lv_has ls 8 [(0, .ref b), (1, .ref v1), (2, .ref v2), (3, .ref v3), (4, .int v4)] → W p l e room_1 s m #[Value.ref b] below meth c H locs (mxz τ - mxz σ) (mxu τ - mxu σ) (lw_Z below #[Value.ref b] s) (F0 m 1966 ls []) := by
  obtain ⟨hx, hb, hr, hml, hown, hts, hX, hbl, hlocks, hgv⟩ := id C0
  have hts : ∀ w ∈ mx_tbl, w.before #[Value.ref b] s = true := fun w hw => hts w (List.mem_filter.mp hw).1
  have hz0 := hJ.2.1
  have hbP : b < mpb P := by omega
  have hC : mpc P - mxz σ ≤ room_1.cells := Nat.le_of_eq hRc.symm
  have hS : mps P - mxu σ ≤ room_1.slots := Nat.le_of_eq hRs.symm
  have hown : s.vm.findClass RLn = some m.cls := hown
  have D2910_23 := @lw_D2910_23 p e s m below meth c l hlt b L xs C0 G P σ hK hJ hbE hRc hRs
  intro v0 v1 v2 v3 v4 τ o hf Kb Ke0 H locs hJ ls hl
  unfold f_L_law_D1966_23 at hf
  refine lv_goto (tgt := 2910) hx hb dL_law_1966 (by decide) ?_
  exact D2910_23 v0 v1 v2 v3 v4 τ o hf Kb Ke0 _ _ hJ ls (lv_sub hl [0, 1, 2, 3, 4] rfl)
set_option maxHeartbeats 16000000 in
set_option maxRecDepth 100000 in
theorem lw_D1933_23 {p : Program} {e : Env} {s : State} {m : MethodId} {below : List Frame} {meth : Method} {c : Code} (l : Launch) (hlt : l.stackTraces = false) {b L : Nat} {xs : Nat → Int32} (C0 : lw_At p s m meth c b L xs) (G : mx_G) (P : mx_P) (σ : mx_S) (hK : mx_K G P s) (hJ : mx_J G P s.heap (mxz σ) (mxu σ) σ s.heap []) (hbE : mpb P = s.heap.size) (hRc : room_1.cells = mpc P - mxz σ) (hRs : room_1.slots = mps P - mxu σ) : ∀ (v0 : Nat) (v1 : Nat) (v2 : Nat) (v3 : Nat) (v4 : Int32) (v5 : Int32) (w0 : Int32) (w1 : Int32) (w2 : Int32) (w3 : Nat) (τ : mx_S) (o : (Int32 × mx_S) ⊕ ((mx_S))), f_L_law_D1933_23 P L xs v0 v1 v2 v3 v4 v5 w0 w1 w2 w3 τ = some o → (∀ (y4 : Int32) (υ : mx_S), o = .inl (y4, υ) → ∀ (H : Heap) (locs : List Loc), mx_J G P s.heap (mxz σ) (mxu σ) υ H locs → ∀ ls : Array Slot, lv_has ls 8 [(0, .ref b), (1, .ref v1), (2, .ref v2), (3, .ref v3), (4, .int y4)] → W p l e room_1 s m #[Value.ref b] below meth c H locs (mxz υ - mxz σ) (mxu υ - mxu σ) (lw_Z below #[Value.ref b] s) (F0 m 23 ls [])) → (∀  (υ : mx_S), o = .inr υ → ∀ (H : Heap) (locs : List Loc), mx_J G P s.heap (mxz σ) (mxu σ) υ H locs → ∀ ls : Array Slot, lv_has ls 8 [] → W p l e room_1 s m #[Value.ref b] below meth c H locs (mxz υ - mxz σ) (mxu υ - mxu σ) (lw_Z below #[Value.ref b] s) (F0 m 2916 ls [])) → ∀ (H : Heap) (locs : List Loc), mx_J G P s.heap (mxz σ) (mxu σ) τ H locs → ∀ ls : Array Slot, lv_has ls 8 [(0, .ref b), (1, .ref v1), (2, .ref v2), (3, .ref v3), (4, .int v4), (5, .int v5)] → W p l e room_1 s m #[Value.ref b] below meth c H locs (mxz τ - mxz σ) (mxu τ - mxu σ) (lw_Z below #[Value.ref b] s) (F0 m 1933 ls [.int w0, .int w1, .int w2, .ref w3]) := by
  obtain ⟨hx, hb, hr, hml, hown, hts, hX, hbl, hlocks, hgv⟩ := id C0
  have hts : ∀ w ∈ mx_tbl, w.before #[Value.ref b] s = true := fun w hw => hts w (List.mem_filter.mp hw).1
  have hz0 := hJ.2.1
  have hbP : b < mpb P := by omega
  have hC : mpc P - mxz σ ≤ room_1.cells := Nat.le_of_eq hRc.symm
  have hS : mps P - mxu σ ≤ room_1.slots := Nat.le_of_eq hRs.symm
  have hown : s.vm.findClass RLn = some m.cls := hown
  have D1966_23 := @lw_D1966_23 p e s m below meth c l hlt b L xs C0 G P σ hK hJ hbE hRc hRs
  intro v0 v1 v2 v3 v4 v5 w0 w1 w2 w3 τ o hf Kb Ke0 H locs hJ ls hl
  unfold f_L_law_D1933_23 at hf
  obtain ⟨i716, e717, hf⟩ := mb0 hf
  obtain ⟨x719, σ718, e720, hf⟩ := mc0 hf
  refine mx_callV (As := [.int w2, .int w1, .int w0]) (rest := []) hx hb hml hts hown hK hJ hRc hRs (ci := 12) rfl e717 (c_X12_interference l G P w3 w2 w1 w0 τ x719 σ718 e720) me_X12_interference kw_2669 kw_2670 kw_2668 (Nat.le_of_ble_eq_true rfl) (Nat.le_of_ble_eq_true rfl) rfl hl.1 rfl (Nat.le_of_ble_eq_true rfl) dL_law_1933 (fun H locs hJ => ?_)
  refine lv_istore (lv' := [(6, .int x719), (0, .ref b), (1, .ref v1), (2, .ref v2), (3, .ref v3), (4, .int v4), (5, .int v5)]) hx hb dL_law_1936 hl (by decide) rfl (fun ls hl => ?_)
  refine lv_aload_n hx hb dL_law_1938 rfl (lv_at hl 3 rfl) ?_
  obtain ⟨i721, e722, hf⟩ := mb0 hf
  obtain ⟨x724, σ723, e725, hf⟩ := mc0 hf
  refine mx_callV (As := []) (rest := []) hx hb hml hts hown hK hJ hRc hRs (ci := 12) rfl e722 (c_X12_thrown l G P v2 σ718 x724 σ723 e725) me_X12_thrown kw_2207 kw_2208 kw_2206 (Nat.le_of_ble_eq_true rfl) (Nat.le_of_ble_eq_true rfl) rfl hl.1 rfl (Nat.le_of_ble_eq_true rfl) dL_law_1939 (fun H locs hJ => ?_)
  refine lv_iload hx hb dL_law_1942 (lv_at hl 6 rfl) ?_
  refine lv_icmp_eq (tgt := 1949) hx hb dL_law_1944 (by decide) (fun c726 => ?_) (fun c726 => ?_)
  · rw [if_pos c726] at hf
    refine lv_iload hx hb dL_law_1949 (lv_at hl 6 rfl) ?_
    refine lv_if_ne (tgt := 1966) hx hb dL_law_1951 (by decide) (fun c727 => ?_) (fun c727 => ?_)
    · rw [if_neg c727] at hf
      exact D1966_23 v0 v1 v2 v3 v4 σ723 o hf Kb Ke0 _ _ hJ ls (lv_sub hl [1, 2, 3, 4, 5] rfl)
    · rw [if_pos c727] at hf
      refine lv_aload_n hx hb dL_law_1954 rfl (lv_at hl 4 rfl) ?_
      refine lv_iconst (v := 0) hx hb dL_law_1955 (by decide) ?_
      obtain ⟨x728, e729, hf⟩ := mb0 hf
      refine mx_aL hx hb hK hJ e729 dL_law_1956 ?_
      refine lv_iload hx hb dL_law_1957 (lv_at hl 0 rfl) ?_
      refine lv_i2l hx hb dL_law_1959 rfl ?_
      refine W.lcmp hx hb dL_law_1960 ?_
      refine lv_if_eq (tgt := 1966) hx hb dL_law_1961 (by decide) (fun c730 => ?_) (fun c730 => ?_)
      · rw [if_pos c730] at hf
        exact D1966_23 v0 v1 v2 v3 v4 σ723 o hf Kb Ke0 _ _ hJ ls (lv_sub hl [1, 2, 3, 4, 5] rfl)
      · rw [if_neg c730] at hf
        cases hf
  · rw [if_neg c726] at hf
    cases hf
set_option maxHeartbeats 16000000 in
set_option maxRecDepth 100000 in
theorem lw_D1900_23 {p : Program} {e : Env} {s : State} {m : MethodId} {below : List Frame} {meth : Method} {c : Code} (l : Launch) (hlt : l.stackTraces = false) {b L : Nat} {xs : Nat → Int32} (C0 : lw_At p s m meth c b L xs) (G : mx_G) (P : mx_P) (σ : mx_S) (hK : mx_K G P s) (hJ : mx_J G P s.heap (mxz σ) (mxu σ) σ s.heap []) (hbE : mpb P = s.heap.size) (hRc : room_1.cells = mpc P - mxz σ) (hRs : room_1.slots = mps P - mxu σ) : ∀ (v0 : Nat) (v1 : Nat) (v2 : Nat) (v3 : Nat) (v4 : Int32) (w0 : Int32) (w1 : Int32) (w2 : Int32) (w3 : Nat) (τ : mx_S) (o : (Int32 × mx_S) ⊕ ((mx_S))), f_L_law_D1900_23 P L xs v0 v1 v2 v3 v4 w0 w1 w2 w3 τ = some o → (∀ (y4 : Int32) (υ : mx_S), o = .inl (y4, υ) → ∀ (H : Heap) (locs : List Loc), mx_J G P s.heap (mxz σ) (mxu σ) υ H locs → ∀ ls : Array Slot, lv_has ls 8 [(0, .ref b), (1, .ref v1), (2, .ref v2), (3, .ref v3), (4, .int y4)] → W p l e room_1 s m #[Value.ref b] below meth c H locs (mxz υ - mxz σ) (mxu υ - mxu σ) (lw_Z below #[Value.ref b] s) (F0 m 23 ls [])) → (∀  (υ : mx_S), o = .inr υ → ∀ (H : Heap) (locs : List Loc), mx_J G P s.heap (mxz σ) (mxu σ) υ H locs → ∀ ls : Array Slot, lv_has ls 8 [] → W p l e room_1 s m #[Value.ref b] below meth c H locs (mxz υ - mxz σ) (mxu υ - mxu σ) (lw_Z below #[Value.ref b] s) (F0 m 2916 ls [])) → ∀ (H : Heap) (locs : List Loc), mx_J G P s.heap (mxz σ) (mxu σ) τ H locs → ∀ ls : Array Slot, lv_has ls 8 [(0, .ref b), (1, .ref v1), (2, .ref v2), (3, .ref v3), (4, .int v4)] → W p l e room_1 s m #[Value.ref b] below meth c H locs (mxz τ - mxz σ) (mxu τ - mxu σ) (lw_Z below #[Value.ref b] s) (F0 m 1900 ls [.int w0, .int w1, .int w2, .ref w3]) := by
  obtain ⟨hx, hb, hr, hml, hown, hts, hX, hbl, hlocks, hgv⟩ := id C0
  have hts : ∀ w ∈ mx_tbl, w.before #[Value.ref b] s = true := fun w hw => hts w (List.mem_filter.mp hw).1
  have hz0 := hJ.2.1
  have hbP : b < mpb P := by omega
  have hC : mpc P - mxz σ ≤ room_1.cells := Nat.le_of_eq hRc.symm
  have hS : mps P - mxu σ ≤ room_1.slots := Nat.le_of_eq hRs.symm
  have hown : s.vm.findClass RLn = some m.cls := hown
  have D1933_23 := @lw_D1933_23 p e s m below meth c l hlt b L xs C0 G P σ hK hJ hbE hRc hRs
  intro v0 v1 v2 v3 v4 w0 w1 w2 w3 τ o hf Kb Ke0 H locs hJ ls hl
  unfold f_L_law_D1900_23 at hf
  refine lv_aload_n hx hb dL_law_1900 rfl (lv_at hl 3 rfl) ?_
  obtain ⟨x707, σ706, e708, hf⟩ := mc0 hf
  refine mx_callSW (As := [.ref w3, .int w2, .int w1, .int w0, .ref v3]) (rest := []) hx hb hml hts hown hK hJ hRc hRs (c_L_interference l hlt G P w3 w2 w1 w0 v3 τ x707 σ706 e708) mw_L_interference kw_1493 kw_1492 (Nat.le_of_ble_eq_true rfl) (Nat.le_of_ble_eq_true rfl) rfl hl.1 rfl (Nat.le_of_ble_eq_true rfl) dL_law_1901 (fun H locs hJ => ?_)
  refine lv_istore (lv' := [(5, .int x707), (0, .ref b), (1, .ref v1), (2, .ref v2), (3, .ref v3), (4, .int v4)]) hx hb dL_law_1904 hl (by decide) rfl (fun ls hl => ?_)
  refine lv_aload_n hx hb dL_law_1906 rfl (lv_at hl 3 rfl) ?_
  refine lv_aload_n hx hb dL_law_1907 rfl (lv_at hl 1 rfl) ?_
  refine lv_iload hx hb dL_law_1908 (lv_at hl 5 rfl) ?_
  refine lv_iconst (v := 1) hx hb dL_law_1910 (by decide) ?_
  refine lv_iadd hx hb dL_law_1911 ?_
  obtain ⟨x709, e710, hf⟩ := mb0 hf
  refine mx_sld hx hb hX hbl hbP hz0 hJ e710 dL_law_1912 ?_
  refine lv_aload_n hx hb dL_law_1913 rfl (lv_at hl 1 rfl) ?_
  refine lv_iload hx hb dL_law_1914 (lv_at hl 5 rfl) ?_
  refine lv_iconst (v := 2) hx hb dL_law_1916 (by decide) ?_
  refine lv_iadd hx hb dL_law_1917 ?_
  obtain ⟨x711, e712, hf⟩ := mb0 hf
  refine mx_sld hx hb hX hbl hbP hz0 hJ e712 dL_law_1918 ?_
  refine lv_aload_n hx hb dL_law_1919 rfl (lv_at hl 1 rfl) ?_
  refine lv_iload hx hb dL_law_1920 (lv_at hl 5 rfl) ?_
  refine lv_iconst (v := 3) hx hb dL_law_1922 (by decide) ?_
  refine lv_iadd hx hb dL_law_1923 ?_
  obtain ⟨x713, e714, hf⟩ := mb0 hf
  refine mx_sld hx hb hX hbl hbP hz0 hJ e714 dL_law_1924 ?_
  refine lv_if_eq (tgt := 1932) hx hb dL_law_1925 (by decide) (fun c715 => ?_) (fun c715 => ?_)
  · rw [if_pos c715] at hf
    refine lv_iconst (v := 0) hx hb dL_law_1932 (by decide) ?_
    exact D1933_23 v0 v1 v2 v3 v4 x707 (0 : Int32) x711 x709 v2 σ706 o hf Kb Ke0 _ _ hJ ls (lv_sub hl [1, 2, 3, 4, 5, 0] rfl)
  · rw [if_neg c715] at hf
    refine lv_iconst (v := 1) hx hb dL_law_1928 (by decide) ?_
    refine lv_goto (tgt := 1933) hx hb dL_law_1929 (by decide) ?_
    exact D1933_23 v0 v1 v2 v3 v4 x707 (1 : Int32) x711 x709 v2 σ706 o hf Kb Ke0 _ _ hJ ls (lv_sub hl [1, 2, 3, 4, 5, 0] rfl)
set_option maxHeartbeats 16000000 in
set_option maxRecDepth 100000 in
theorem lw_D1873_23 {p : Program} {e : Env} {s : State} {m : MethodId} {below : List Frame} {meth : Method} {c : Code} (l : Launch) (hlt : l.stackTraces = false) {b L : Nat} {xs : Nat → Int32} (C0 : lw_At p s m meth c b L xs) (G : mx_G) (P : mx_P) (σ : mx_S) (hK : mx_K G P s) (hJ : mx_J G P s.heap (mxz σ) (mxu σ) σ s.heap []) (hbE : mpb P = s.heap.size) (hRc : room_1.cells = mpc P - mxz σ) (hRs : room_1.slots = mps P - mxu σ) : ∀ (v0 : Nat) (v1 : Nat) (v2 : Nat) (v3 : Nat) (v4 : Int32) (τ : mx_S) (o : (Int32 × mx_S) ⊕ ((mx_S))), f_L_law_D1873_23 P L xs v0 v1 v2 v3 v4 τ = some o → (∀ (y4 : Int32) (υ : mx_S), o = .inl (y4, υ) → ∀ (H : Heap) (locs : List Loc), mx_J G P s.heap (mxz σ) (mxu σ) υ H locs → ∀ ls : Array Slot, lv_has ls 8 [(0, .ref b), (1, .ref v1), (2, .ref v2), (3, .ref v3), (4, .int y4)] → W p l e room_1 s m #[Value.ref b] below meth c H locs (mxz υ - mxz σ) (mxu υ - mxu σ) (lw_Z below #[Value.ref b] s) (F0 m 23 ls [])) → (∀  (υ : mx_S), o = .inr υ → ∀ (H : Heap) (locs : List Loc), mx_J G P s.heap (mxz σ) (mxu σ) υ H locs → ∀ ls : Array Slot, lv_has ls 8 [] → W p l e room_1 s m #[Value.ref b] below meth c H locs (mxz υ - mxz σ) (mxu υ - mxu σ) (lw_Z below #[Value.ref b] s) (F0 m 2916 ls [])) → ∀ (H : Heap) (locs : List Loc), mx_J G P s.heap (mxz σ) (mxu σ) τ H locs → ∀ ls : Array Slot, lv_has ls 8 [(0, .ref b), (1, .ref v1), (2, .ref v2), (3, .ref v3), (4, .int v4)] → W p l e room_1 s m #[Value.ref b] below meth c H locs (mxz τ - mxz σ) (mxu τ - mxu σ) (lw_Z below #[Value.ref b] s) (F0 m 1873 ls []) := by
  obtain ⟨hx, hb, hr, hml, hown, hts, hX, hbl, hlocks, hgv⟩ := id C0
  have hts : ∀ w ∈ mx_tbl, w.before #[Value.ref b] s = true := fun w hw => hts w (List.mem_filter.mp hw).1
  have hz0 := hJ.2.1
  have hbP : b < mpb P := by omega
  have hC : mpc P - mxz σ ≤ room_1.cells := Nat.le_of_eq hRc.symm
  have hS : mps P - mxu σ ≤ room_1.slots := Nat.le_of_eq hRs.symm
  have hown : s.vm.findClass RLn = some m.cls := hown
  have D1900_23 := @lw_D1900_23 p e s m below meth c l hlt b L xs C0 G P σ hK hJ hbE hRc hRs
  intro v0 v1 v2 v3 v4 τ o hf Kb Ke0 H locs hJ ls hl
  unfold f_L_law_D1873_23 at hf
  refine lv_aload_n hx hb dL_law_1873 rfl (lv_at hl 1 rfl) ?_
  refine lv_aload_n hx hb dL_law_1874 rfl (lv_at hl 0 rfl) ?_
  refine lv_iload hx hb dL_law_1875 (lv_at hl 4 rfl) ?_
  refine lv_iconst (v := 1) hx hb dL_law_1877 (by decide) ?_
  refine lv_iadd hx hb dL_law_1878 ?_
  obtain ⟨x699, e700, hf⟩ := mb0 hf
  refine mx_sld hx hb hX hbl hbP hz0 hJ e700 dL_law_1879 ?_
  refine lv_aload_n hx hb dL_law_1880 rfl (lv_at hl 0 rfl) ?_
  refine lv_iload hx hb dL_law_1881 (lv_at hl 4 rfl) ?_
  refine lv_iconst (v := 2) hx hb dL_law_1883 (by decide) ?_
  refine lv_iadd hx hb dL_law_1884 ?_
  obtain ⟨x701, e702, hf⟩ := mb0 hf
  refine mx_sld hx hb hX hbl hbP hz0 hJ e702 dL_law_1885 ?_
  refine lv_aload_n hx hb dL_law_1886 rfl (lv_at hl 0 rfl) ?_
  refine lv_iload hx hb dL_law_1887 (lv_at hl 4 rfl) ?_
  refine lv_iconst (v := 3) hx hb dL_law_1889 (by decide) ?_
  refine lv_iadd hx hb dL_law_1890 ?_
  obtain ⟨x703, e704, hf⟩ := mb0 hf
  refine mx_sld hx hb hX hbl hbP hz0 hJ e704 dL_law_1891 ?_
  refine lv_if_eq (tgt := 1899) hx hb dL_law_1892 (by decide) (fun c705 => ?_) (fun c705 => ?_)
  · rw [if_pos c705] at hf
    refine lv_iconst (v := 0) hx hb dL_law_1899 (by decide) ?_
    exact D1900_23 v0 v1 v2 v3 v4 (0 : Int32) x701 x699 v1 τ o hf Kb Ke0 _ _ hJ ls (lv_sub hl [0, 1, 2, 3, 4] rfl)
  · rw [if_neg c705] at hf
    refine lv_iconst (v := 1) hx hb dL_law_1895 (by decide) ?_
    refine lv_goto (tgt := 1900) hx hb dL_law_1896 (by decide) ?_
    exact D1900_23 v0 v1 v2 v3 v4 (1 : Int32) x701 x699 v1 τ o hf Kb Ke0 _ _ hJ ls (lv_sub hl [0, 1, 2, 3, 4] rfl)
set_option maxHeartbeats 16000000 in
set_option maxRecDepth 100000 in
theorem lw_D2058_23 {p : Program} {e : Env} {s : State} {m : MethodId} {below : List Frame} {meth : Method} {c : Code} (l : Launch) (hlt : l.stackTraces = false) {b L : Nat} {xs : Nat → Int32} (C0 : lw_At p s m meth c b L xs) (G : mx_G) (P : mx_P) (σ : mx_S) (hK : mx_K G P s) (hJ : mx_J G P s.heap (mxz σ) (mxu σ) σ s.heap []) (hbE : mpb P = s.heap.size) (hRc : room_1.cells = mpc P - mxz σ) (hRs : room_1.slots = mps P - mxu σ) : ∀ (v0 : Nat) (v1 : Nat) (v2 : Nat) (v3 : Nat) (v4 : Int32) (τ : mx_S) (o : (Int32 × mx_S) ⊕ ((mx_S))), f_L_law_D2058_23 P L xs v0 v1 v2 v3 v4 τ = some o → (∀ (y4 : Int32) (υ : mx_S), o = .inl (y4, υ) → ∀ (H : Heap) (locs : List Loc), mx_J G P s.heap (mxz σ) (mxu σ) υ H locs → ∀ ls : Array Slot, lv_has ls 8 [(0, .ref b), (1, .ref v1), (2, .ref v2), (3, .ref v3), (4, .int y4)] → W p l e room_1 s m #[Value.ref b] below meth c H locs (mxz υ - mxz σ) (mxu υ - mxu σ) (lw_Z below #[Value.ref b] s) (F0 m 23 ls [])) → (∀  (υ : mx_S), o = .inr υ → ∀ (H : Heap) (locs : List Loc), mx_J G P s.heap (mxz σ) (mxu σ) υ H locs → ∀ ls : Array Slot, lv_has ls 8 [] → W p l e room_1 s m #[Value.ref b] below meth c H locs (mxz υ - mxz σ) (mxu υ - mxu σ) (lw_Z below #[Value.ref b] s) (F0 m 2916 ls [])) → ∀ (H : Heap) (locs : List Loc), mx_J G P s.heap (mxz σ) (mxu σ) τ H locs → ∀ ls : Array Slot, lv_has ls 8 [(0, .ref b), (1, .ref v1), (2, .ref v2), (3, .ref v3), (4, .int v4)] → W p l e room_1 s m #[Value.ref b] below meth c H locs (mxz τ - mxz σ) (mxu τ - mxu σ) (lw_Z below #[Value.ref b] s) (F0 m 2058 ls []) := by
  obtain ⟨hx, hb, hr, hml, hown, hts, hX, hbl, hlocks, hgv⟩ := id C0
  have hts : ∀ w ∈ mx_tbl, w.before #[Value.ref b] s = true := fun w hw => hts w (List.mem_filter.mp hw).1
  have hz0 := hJ.2.1
  have hbP : b < mpb P := by omega
  have hC : mpc P - mxz σ ≤ room_1.cells := Nat.le_of_eq hRc.symm
  have hS : mps P - mxu σ ≤ room_1.slots := Nat.le_of_eq hRs.symm
  have hown : s.vm.findClass RLn = some m.cls := hown
  have D2910_23 := @lw_D2910_23 p e s m below meth c l hlt b L xs C0 G P σ hK hJ hbE hRc hRs
  intro v0 v1 v2 v3 v4 τ o hf Kb Ke0 H locs hJ ls hl
  unfold f_L_law_D2058_23 at hf
  refine lv_goto (tgt := 2910) hx hb dL_law_2058 (by decide) ?_
  exact D2910_23 v0 v1 v2 v3 v4 τ o hf Kb Ke0 _ _ hJ ls (lv_sub hl [0, 1, 2, 3, 4] rfl)
set_option maxHeartbeats 16000000 in
set_option maxRecDepth 100000 in
theorem lw_D1969_23 {p : Program} {e : Env} {s : State} {m : MethodId} {below : List Frame} {meth : Method} {c : Code} (l : Launch) (hlt : l.stackTraces = false) {b L : Nat} {xs : Nat → Int32} (C0 : lw_At p s m meth c b L xs) (G : mx_G) (P : mx_P) (σ : mx_S) (hK : mx_K G P s) (hJ : mx_J G P s.heap (mxz σ) (mxu σ) σ s.heap []) (hbE : mpb P = s.heap.size) (hRc : room_1.cells = mpc P - mxz σ) (hRs : room_1.slots = mps P - mxu σ) : ∀ (v0 : Nat) (v1 : Nat) (v2 : Nat) (v3 : Nat) (v4 : Int32) (τ : mx_S) (o : (Int32 × mx_S) ⊕ ((mx_S))), f_L_law_D1969_23 P L xs v0 v1 v2 v3 v4 τ = some o → (∀ (y4 : Int32) (υ : mx_S), o = .inl (y4, υ) → ∀ (H : Heap) (locs : List Loc), mx_J G P s.heap (mxz σ) (mxu σ) υ H locs → ∀ ls : Array Slot, lv_has ls 8 [(0, .ref b), (1, .ref v1), (2, .ref v2), (3, .ref v3), (4, .int y4)] → W p l e room_1 s m #[Value.ref b] below meth c H locs (mxz υ - mxz σ) (mxu υ - mxu σ) (lw_Z below #[Value.ref b] s) (F0 m 23 ls [])) → (∀  (υ : mx_S), o = .inr υ → ∀ (H : Heap) (locs : List Loc), mx_J G P s.heap (mxz σ) (mxu σ) υ H locs → ∀ ls : Array Slot, lv_has ls 8 [] → W p l e room_1 s m #[Value.ref b] below meth c H locs (mxz υ - mxz σ) (mxu υ - mxu σ) (lw_Z below #[Value.ref b] s) (F0 m 2916 ls [])) → ∀ (H : Heap) (locs : List Loc), mx_J G P s.heap (mxz σ) (mxu σ) τ H locs → ∀ ls : Array Slot, lv_has ls 8 [(0, .ref b), (1, .ref v1), (2, .ref v2), (3, .ref v3), (4, .int v4)] → W p l e room_1 s m #[Value.ref b] below meth c H locs (mxz τ - mxz σ) (mxu τ - mxu σ) (lw_Z below #[Value.ref b] s) (F0 m 1969 ls []) := by
  obtain ⟨hx, hb, hr, hml, hown, hts, hX, hbl, hlocks, hgv⟩ := id C0
  have hts : ∀ w ∈ mx_tbl, w.before #[Value.ref b] s = true := fun w hw => hts w (List.mem_filter.mp hw).1
  have hz0 := hJ.2.1
  have hbP : b < mpb P := by omega
  have hC : mpc P - mxz σ ≤ room_1.cells := Nat.le_of_eq hRc.symm
  have hS : mps P - mxu σ ≤ room_1.slots := Nat.le_of_eq hRs.symm
  have hown : s.vm.findClass RLn = some m.cls := hown
  have D2058_23 := @lw_D2058_23 p e s m below meth c l hlt b L xs C0 G P σ hK hJ hbE hRc hRs
  intro v0 v1 v2 v3 v4 τ o hf Kb Ke0 H locs hJ ls hl
  unfold f_L_law_D1969_23 at hf
  refine lv_aload_n hx hb dL_law_1969 rfl (lv_at hl 1 rfl) ?_
  refine lv_aload_n hx hb dL_law_1970 rfl (lv_at hl 0 rfl) ?_
  refine lv_iload hx hb dL_law_1971 (lv_at hl 4 rfl) ?_
  refine lv_iconst (v := 1) hx hb dL_law_1973 (by decide) ?_
  refine lv_iadd hx hb dL_law_1974 ?_
  obtain ⟨x732, e733, hf⟩ := mb0 hf
  refine mx_sld hx hb hX hbl hbP hz0 hJ e733 dL_law_1975 ?_
  refine lv_aload_n hx hb dL_law_1976 rfl (lv_at hl 0 rfl) ?_
  refine lv_iload hx hb dL_law_1977 (lv_at hl 4 rfl) ?_
  refine lv_iconst (v := 2) hx hb dL_law_1979 (by decide) ?_
  refine lv_iadd hx hb dL_law_1980 ?_
  obtain ⟨x734, e735, hf⟩ := mb0 hf
  refine mx_sld hx hb hX hbl hbP hz0 hJ e735 dL_law_1981 ?_
  refine lv_aload_n hx hb dL_law_1982 rfl (lv_at hl 0 rfl) ?_
  refine lv_iload hx hb dL_law_1983 (lv_at hl 4 rfl) ?_
  refine lv_iconst (v := 3) hx hb dL_law_1985 (by decide) ?_
  refine lv_iadd hx hb dL_law_1986 ?_
  obtain ⟨x736, e737, hf⟩ := mb0 hf
  refine mx_sld hx hb hX hbl hbP hz0 hJ e737 dL_law_1987 ?_
  refine lv_aload_n hx hb dL_law_1988 rfl (lv_at hl 0 rfl) ?_
  refine lv_iload hx hb dL_law_1989 (lv_at hl 4 rfl) ?_
  refine lv_iconst (v := 4) hx hb dL_law_1991 (by decide) ?_
  refine lv_iadd hx hb dL_law_1992 ?_
  obtain ⟨x738, e739, hf⟩ := mb0 hf
  refine mx_sld hx hb hX hbl hbP hz0 hJ e739 dL_law_1993 ?_
  refine lv_aload_n hx hb dL_law_1994 rfl (lv_at hl 3 rfl) ?_
  obtain ⟨x741, σ740, e742, hf⟩ := mc0 hf
  refine mx_callSW (As := [.ref v1, .int x732, .int x734, .int x736, .int x738, .ref v3]) (rest := []) hx hb hml hts hown hK hJ hRc hRs (c_L_trains l hlt G P v1 x732 x734 x736 x738 v3 τ x741 σ740 e742) mw_L_trains kw_1515 kw_1514 (Nat.le_of_ble_eq_true rfl) (Nat.le_of_ble_eq_true rfl) rfl hl.1 rfl (Nat.le_of_ble_eq_true rfl) dL_law_1995 (fun H locs hJ => ?_)
  refine lv_istore (lv' := [(5, .int x741), (0, .ref b), (1, .ref v1), (2, .ref v2), (3, .ref v3), (4, .int v4)]) hx hb dL_law_1998 hl (by decide) rfl (fun ls hl => ?_)
  refine lv_aload_n hx hb dL_law_2000 rfl (lv_at hl 3 rfl) ?_
  refine lv_aload_n hx hb dL_law_2001 rfl (lv_at hl 1 rfl) ?_
  refine lv_iload hx hb dL_law_2002 (lv_at hl 5 rfl) ?_
  refine lv_iconst (v := 1) hx hb dL_law_2004 (by decide) ?_
  refine lv_iadd hx hb dL_law_2005 ?_
  obtain ⟨x743, e744, hf⟩ := mb0 hf
  refine mx_sld hx hb hX hbl hbP hz0 hJ e744 dL_law_2006 ?_
  refine lv_aload_n hx hb dL_law_2007 rfl (lv_at hl 1 rfl) ?_
  refine lv_iload hx hb dL_law_2008 (lv_at hl 5 rfl) ?_
  refine lv_iconst (v := 2) hx hb dL_law_2010 (by decide) ?_
  refine lv_iadd hx hb dL_law_2011 ?_
  obtain ⟨x745, e746, hf⟩ := mb0 hf
  refine mx_sld hx hb hX hbl hbP hz0 hJ e746 dL_law_2012 ?_
  refine lv_aload_n hx hb dL_law_2013 rfl (lv_at hl 1 rfl) ?_
  refine lv_iload hx hb dL_law_2014 (lv_at hl 5 rfl) ?_
  refine lv_iconst (v := 3) hx hb dL_law_2016 (by decide) ?_
  refine lv_iadd hx hb dL_law_2017 ?_
  obtain ⟨x747, e748, hf⟩ := mb0 hf
  refine mx_sld hx hb hX hbl hbP hz0 hJ e748 dL_law_2018 ?_
  refine lv_aload_n hx hb dL_law_2019 rfl (lv_at hl 1 rfl) ?_
  refine lv_iload hx hb dL_law_2020 (lv_at hl 5 rfl) ?_
  refine lv_iconst (v := 4) hx hb dL_law_2022 (by decide) ?_
  refine lv_iadd hx hb dL_law_2023 ?_
  obtain ⟨x749, e750, hf⟩ := mb0 hf
  refine mx_sld hx hb hX hbl hbP hz0 hJ e750 dL_law_2024 ?_
  obtain ⟨i751, e752, hf⟩ := mb0 hf
  obtain ⟨x754, σ753, e755, hf⟩ := mc0 hf
  refine mx_callV (As := [.int x743, .int x745, .int x747, .int x749]) (rest := []) hx hb hml hts hown hK hJ hRc hRs (ci := 12) rfl e752 (c_X12_trains l G P v2 x743 x745 x747 x749 σ740 x754 σ753 e755) me_X12_trains kw_2677 kw_2678 kw_2676 (Nat.le_of_ble_eq_true rfl) (Nat.le_of_ble_eq_true rfl) rfl hl.1 rfl (Nat.le_of_ble_eq_true rfl) dL_law_2025 (fun H locs hJ => ?_)
  refine lv_istore (lv' := [(6, .int x754), (5, .int x741), (0, .ref b), (1, .ref v1), (2, .ref v2), (3, .ref v3), (4, .int v4)]) hx hb dL_law_2028 hl (by decide) rfl (fun ls hl => ?_)
  refine lv_aload_n hx hb dL_law_2030 rfl (lv_at hl 4 rfl) ?_
  obtain ⟨i756, e757, hf⟩ := mb0 hf
  obtain ⟨x759, σ758, e760, hf⟩ := mc0 hf
  refine mx_callV (As := []) (rest := []) hx hb hml hts hown hK hJ hRc hRs (ci := 12) rfl e757 (c_X12_thrown l G P v2 σ753 x759 σ758 e760) me_X12_thrown kw_2207 kw_2208 kw_2206 (Nat.le_of_ble_eq_true rfl) (Nat.le_of_ble_eq_true rfl) rfl hl.1 rfl (Nat.le_of_ble_eq_true rfl) dL_law_2031 (fun H locs hJ => ?_)
  refine lv_iload hx hb dL_law_2034 (lv_at hl 1 rfl) ?_
  refine lv_icmp_eq (tgt := 2041) hx hb dL_law_2036 (by decide) (fun c761 => ?_) (fun c761 => ?_)
  · rw [if_pos c761] at hf
    refine lv_iload hx hb dL_law_2041 (lv_at hl 1 rfl) ?_
    refine lv_if_ne (tgt := 2058) hx hb dL_law_2043 (by decide) (fun c762 => ?_) (fun c762 => ?_)
    · rw [if_neg c762] at hf
      exact D2058_23 v0 v1 v2 v3 v4 σ758 o hf Kb Ke0 _ _ hJ ls (lv_sub hl [2, 3, 4, 5, 6] rfl)
    · rw [if_pos c762] at hf
      refine lv_aload_n hx hb dL_law_2046 rfl (lv_at hl 5 rfl) ?_
      refine lv_iconst (v := 0) hx hb dL_law_2047 (by decide) ?_
      obtain ⟨x763, e764, hf⟩ := mb0 hf
      refine mx_aL hx hb hK hJ e764 dL_law_2048 ?_
      refine lv_iload hx hb dL_law_2049 (lv_at hl 0 rfl) ?_
      refine lv_i2l hx hb dL_law_2051 rfl ?_
      refine W.lcmp hx hb dL_law_2052 ?_
      refine lv_if_eq (tgt := 2058) hx hb dL_law_2053 (by decide) (fun c765 => ?_) (fun c765 => ?_)
      · rw [if_pos c765] at hf
        exact D2058_23 v0 v1 v2 v3 v4 σ758 o hf Kb Ke0 _ _ hJ ls (lv_sub hl [2, 3, 4, 5, 6] rfl)
      · rw [if_neg c765] at hf
        cases hf
  · rw [if_neg c761] at hf
    cases hf
set_option maxHeartbeats 16000000 in
set_option maxRecDepth 100000 in
theorem lw_D2126_23 {p : Program} {e : Env} {s : State} {m : MethodId} {below : List Frame} {meth : Method} {c : Code} (l : Launch) (hlt : l.stackTraces = false) {b L : Nat} {xs : Nat → Int32} (C0 : lw_At p s m meth c b L xs) (G : mx_G) (P : mx_P) (σ : mx_S) (hK : mx_K G P s) (hJ : mx_J G P s.heap (mxz σ) (mxu σ) σ s.heap []) (hbE : mpb P = s.heap.size) (hRc : room_1.cells = mpc P - mxz σ) (hRs : room_1.slots = mps P - mxu σ) : ∀ (v0 : Nat) (v1 : Nat) (v2 : Nat) (v3 : Nat) (v4 : Int32) (τ : mx_S) (o : (Int32 × mx_S) ⊕ ((mx_S))), f_L_law_D2126_23 P L xs v0 v1 v2 v3 v4 τ = some o → (∀ (y4 : Int32) (υ : mx_S), o = .inl (y4, υ) → ∀ (H : Heap) (locs : List Loc), mx_J G P s.heap (mxz σ) (mxu σ) υ H locs → ∀ ls : Array Slot, lv_has ls 8 [(0, .ref b), (1, .ref v1), (2, .ref v2), (3, .ref v3), (4, .int y4)] → W p l e room_1 s m #[Value.ref b] below meth c H locs (mxz υ - mxz σ) (mxu υ - mxu σ) (lw_Z below #[Value.ref b] s) (F0 m 23 ls [])) → (∀  (υ : mx_S), o = .inr υ → ∀ (H : Heap) (locs : List Loc), mx_J G P s.heap (mxz σ) (mxu σ) υ H locs → ∀ ls : Array Slot, lv_has ls 8 [] → W p l e room_1 s m #[Value.ref b] below meth c H locs (mxz υ - mxz σ) (mxu υ - mxu σ) (lw_Z below #[Value.ref b] s) (F0 m 2916 ls [])) → ∀ (H : Heap) (locs : List Loc), mx_J G P s.heap (mxz σ) (mxu σ) τ H locs → ∀ ls : Array Slot, lv_has ls 8 [(0, .ref b), (1, .ref v1), (2, .ref v2), (3, .ref v3), (4, .int v4)] → W p l e room_1 s m #[Value.ref b] below meth c H locs (mxz τ - mxz σ) (mxu τ - mxu σ) (lw_Z below #[Value.ref b] s) (F0 m 2126 ls []) := by
  obtain ⟨hx, hb, hr, hml, hown, hts, hX, hbl, hlocks, hgv⟩ := id C0
  have hts : ∀ w ∈ mx_tbl, w.before #[Value.ref b] s = true := fun w hw => hts w (List.mem_filter.mp hw).1
  have hz0 := hJ.2.1
  have hbP : b < mpb P := by omega
  have hC : mpc P - mxz σ ≤ room_1.cells := Nat.le_of_eq hRc.symm
  have hS : mps P - mxu σ ≤ room_1.slots := Nat.le_of_eq hRs.symm
  have hown : s.vm.findClass RLn = some m.cls := hown
  have D2910_23 := @lw_D2910_23 p e s m below meth c l hlt b L xs C0 G P σ hK hJ hbE hRc hRs
  intro v0 v1 v2 v3 v4 τ o hf Kb Ke0 H locs hJ ls hl
  unfold f_L_law_D2126_23 at hf
  refine lv_goto (tgt := 2910) hx hb dL_law_2126 (by decide) ?_
  exact D2910_23 v0 v1 v2 v3 v4 τ o hf Kb Ke0 _ _ hJ ls (lv_sub hl [0, 1, 2, 3, 4] rfl)
set_option maxHeartbeats 16000000 in
set_option maxRecDepth 100000 in
theorem lw_D2061_23 {p : Program} {e : Env} {s : State} {m : MethodId} {below : List Frame} {meth : Method} {c : Code} (l : Launch) (hlt : l.stackTraces = false) {b L : Nat} {xs : Nat → Int32} (C0 : lw_At p s m meth c b L xs) (G : mx_G) (P : mx_P) (σ : mx_S) (hK : mx_K G P s) (hJ : mx_J G P s.heap (mxz σ) (mxu σ) σ s.heap []) (hbE : mpb P = s.heap.size) (hRc : room_1.cells = mpc P - mxz σ) (hRs : room_1.slots = mps P - mxu σ) : ∀ (v0 : Nat) (v1 : Nat) (v2 : Nat) (v3 : Nat) (v4 : Int32) (τ : mx_S) (o : (Int32 × mx_S) ⊕ ((mx_S))), f_L_law_D2061_23 P L xs v0 v1 v2 v3 v4 τ = some o → (∀ (y4 : Int32) (υ : mx_S), o = .inl (y4, υ) → ∀ (H : Heap) (locs : List Loc), mx_J G P s.heap (mxz σ) (mxu σ) υ H locs → ∀ ls : Array Slot, lv_has ls 8 [(0, .ref b), (1, .ref v1), (2, .ref v2), (3, .ref v3), (4, .int y4)] → W p l e room_1 s m #[Value.ref b] below meth c H locs (mxz υ - mxz σ) (mxu υ - mxu σ) (lw_Z below #[Value.ref b] s) (F0 m 23 ls [])) → (∀  (υ : mx_S), o = .inr υ → ∀ (H : Heap) (locs : List Loc), mx_J G P s.heap (mxz σ) (mxu σ) υ H locs → ∀ ls : Array Slot, lv_has ls 8 [] → W p l e room_1 s m #[Value.ref b] below meth c H locs (mxz υ - mxz σ) (mxu υ - mxu σ) (lw_Z below #[Value.ref b] s) (F0 m 2916 ls [])) → ∀ (H : Heap) (locs : List Loc), mx_J G P s.heap (mxz σ) (mxu σ) τ H locs → ∀ ls : Array Slot, lv_has ls 8 [(0, .ref b), (1, .ref v1), (2, .ref v2), (3, .ref v3), (4, .int v4)] → W p l e room_1 s m #[Value.ref b] below meth c H locs (mxz τ - mxz σ) (mxu τ - mxu σ) (lw_Z below #[Value.ref b] s) (F0 m 2061 ls []) := by
  obtain ⟨hx, hb, hr, hml, hown, hts, hX, hbl, hlocks, hgv⟩ := id C0
  have hts : ∀ w ∈ mx_tbl, w.before #[Value.ref b] s = true := fun w hw => hts w (List.mem_filter.mp hw).1
  have hz0 := hJ.2.1
  have hbP : b < mpb P := by omega
  have hC : mpc P - mxz σ ≤ room_1.cells := Nat.le_of_eq hRc.symm
  have hS : mps P - mxu σ ≤ room_1.slots := Nat.le_of_eq hRs.symm
  have hown : s.vm.findClass RLn = some m.cls := hown
  have D2126_23 := @lw_D2126_23 p e s m below meth c l hlt b L xs C0 G P σ hK hJ hbE hRc hRs
  intro v0 v1 v2 v3 v4 τ o hf Kb Ke0 H locs hJ ls hl
  unfold f_L_law_D2061_23 at hf
  refine lv_aload_n hx hb dL_law_2061 rfl (lv_at hl 1 rfl) ?_
  refine lv_aload_n hx hb dL_law_2062 rfl (lv_at hl 0 rfl) ?_
  refine lv_iload hx hb dL_law_2063 (lv_at hl 4 rfl) ?_
  refine lv_iconst (v := 1) hx hb dL_law_2065 (by decide) ?_
  refine lv_iadd hx hb dL_law_2066 ?_
  obtain ⟨x767, e768, hf⟩ := mb0 hf
  refine mx_sld hx hb hX hbl hbP hz0 hJ e768 dL_law_2067 ?_
  refine lv_aload_n hx hb dL_law_2068 rfl (lv_at hl 0 rfl) ?_
  refine lv_iload hx hb dL_law_2069 (lv_at hl 4 rfl) ?_
  refine lv_iconst (v := 2) hx hb dL_law_2071 (by decide) ?_
  refine lv_iadd hx hb dL_law_2072 ?_
  obtain ⟨x769, e770, hf⟩ := mb0 hf
  refine mx_sld hx hb hX hbl hbP hz0 hJ e770 dL_law_2073 ?_
  refine lv_aload_n hx hb dL_law_2074 rfl (lv_at hl 3 rfl) ?_
  obtain ⟨x772, σ771, e773, hf⟩ := mc0 hf
  refine mx_callSW (As := [.ref v1, .int x767, .int x769, .ref v3]) (rest := []) hx hb hml hts hown hK hJ hRc hRs (c_L_train l hlt G P v1 x767 x769 v3 τ x772 σ771 e773) mw_L_train kw_1534 kw_1533 (Nat.le_of_ble_eq_true rfl) (Nat.le_of_ble_eq_true rfl) rfl hl.1 rfl (Nat.le_of_ble_eq_true rfl) dL_law_2075 (fun H locs hJ => ?_)
  refine lv_istore (lv' := [(5, .int x772), (0, .ref b), (1, .ref v1), (2, .ref v2), (3, .ref v3), (4, .int v4)]) hx hb dL_law_2078 hl (by decide) rfl (fun ls hl => ?_)
  refine lv_aload_n hx hb dL_law_2080 rfl (lv_at hl 3 rfl) ?_
  refine lv_aload_n hx hb dL_law_2081 rfl (lv_at hl 1 rfl) ?_
  refine lv_iload hx hb dL_law_2082 (lv_at hl 5 rfl) ?_
  refine lv_iconst (v := 1) hx hb dL_law_2084 (by decide) ?_
  refine lv_iadd hx hb dL_law_2085 ?_
  obtain ⟨x774, e775, hf⟩ := mb0 hf
  refine mx_sld hx hb hX hbl hbP hz0 hJ e775 dL_law_2086 ?_
  refine lv_aload_n hx hb dL_law_2087 rfl (lv_at hl 1 rfl) ?_
  refine lv_iload hx hb dL_law_2088 (lv_at hl 5 rfl) ?_
  refine lv_iconst (v := 2) hx hb dL_law_2090 (by decide) ?_
  refine lv_iadd hx hb dL_law_2091 ?_
  obtain ⟨x776, e777, hf⟩ := mb0 hf
  refine mx_sld hx hb hX hbl hbP hz0 hJ e777 dL_law_2092 ?_
  obtain ⟨i778, e779, hf⟩ := mb0 hf
  obtain ⟨x781, σ780, e782, hf⟩ := mc0 hf
  refine mx_callV (As := [.int x774, .int x776]) (rest := []) hx hb hml hts hown hK hJ hRc hRs (ci := 12) rfl e779 (c_X12_train l G P v2 x774 x776 σ771 x781 σ780 e782) me_X12_train kw_2683 kw_2684 kw_2682 (Nat.le_of_ble_eq_true rfl) (Nat.le_of_ble_eq_true rfl) rfl hl.1 rfl (Nat.le_of_ble_eq_true rfl) dL_law_2093 (fun H locs hJ => ?_)
  refine lv_istore (lv' := [(6, .int x781), (5, .int x772), (0, .ref b), (1, .ref v1), (2, .ref v2), (3, .ref v3), (4, .int v4)]) hx hb dL_law_2096 hl (by decide) rfl (fun ls hl => ?_)
  refine lv_aload_n hx hb dL_law_2098 rfl (lv_at hl 4 rfl) ?_
  obtain ⟨i783, e784, hf⟩ := mb0 hf
  obtain ⟨x786, σ785, e787, hf⟩ := mc0 hf
  refine mx_callV (As := []) (rest := []) hx hb hml hts hown hK hJ hRc hRs (ci := 12) rfl e784 (c_X12_thrown l G P v2 σ780 x786 σ785 e787) me_X12_thrown kw_2207 kw_2208 kw_2206 (Nat.le_of_ble_eq_true rfl) (Nat.le_of_ble_eq_true rfl) rfl hl.1 rfl (Nat.le_of_ble_eq_true rfl) dL_law_2099 (fun H locs hJ => ?_)
  refine lv_iload hx hb dL_law_2102 (lv_at hl 1 rfl) ?_
  refine lv_icmp_eq (tgt := 2109) hx hb dL_law_2104 (by decide) (fun c788 => ?_) (fun c788 => ?_)
  · rw [if_pos c788] at hf
    refine lv_iload hx hb dL_law_2109 (lv_at hl 1 rfl) ?_
    refine lv_if_ne (tgt := 2126) hx hb dL_law_2111 (by decide) (fun c789 => ?_) (fun c789 => ?_)
    · rw [if_neg c789] at hf
      exact D2126_23 v0 v1 v2 v3 v4 σ785 o hf Kb Ke0 _ _ hJ ls (lv_sub hl [2, 3, 4, 5, 6] rfl)
    · rw [if_pos c789] at hf
      refine lv_aload_n hx hb dL_law_2114 rfl (lv_at hl 5 rfl) ?_
      refine lv_iconst (v := 0) hx hb dL_law_2115 (by decide) ?_
      obtain ⟨x790, e791, hf⟩ := mb0 hf
      refine mx_aL hx hb hK hJ e791 dL_law_2116 ?_
      refine lv_iload hx hb dL_law_2117 (lv_at hl 0 rfl) ?_
      refine lv_i2l hx hb dL_law_2119 rfl ?_
      refine W.lcmp hx hb dL_law_2120 ?_
      refine lv_if_eq (tgt := 2126) hx hb dL_law_2121 (by decide) (fun c792 => ?_) (fun c792 => ?_)
      · rw [if_pos c792] at hf
        exact D2126_23 v0 v1 v2 v3 v4 σ785 o hf Kb Ke0 _ _ hJ ls (lv_sub hl [2, 3, 4, 5, 6] rfl)
      · rw [if_neg c792] at hf
        cases hf
  · rw [if_neg c788] at hf
    cases hf
set_option maxHeartbeats 16000000 in
set_option maxRecDepth 100000 in
theorem lw_D2170_23 {p : Program} {e : Env} {s : State} {m : MethodId} {below : List Frame} {meth : Method} {c : Code} (l : Launch) (hlt : l.stackTraces = false) {b L : Nat} {xs : Nat → Int32} (C0 : lw_At p s m meth c b L xs) (G : mx_G) (P : mx_P) (σ : mx_S) (hK : mx_K G P s) (hJ : mx_J G P s.heap (mxz σ) (mxu σ) σ s.heap []) (hbE : mpb P = s.heap.size) (hRc : room_1.cells = mpc P - mxz σ) (hRs : room_1.slots = mps P - mxu σ) : ∀ (v0 : Nat) (v1 : Nat) (v2 : Nat) (v3 : Nat) (v4 : Int32) (τ : mx_S) (o : (Int32 × mx_S) ⊕ ((mx_S))), f_L_law_D2170_23 P L xs v0 v1 v2 v3 v4 τ = some o → (∀ (y4 : Int32) (υ : mx_S), o = .inl (y4, υ) → ∀ (H : Heap) (locs : List Loc), mx_J G P s.heap (mxz σ) (mxu σ) υ H locs → ∀ ls : Array Slot, lv_has ls 8 [(0, .ref b), (1, .ref v1), (2, .ref v2), (3, .ref v3), (4, .int y4)] → W p l e room_1 s m #[Value.ref b] below meth c H locs (mxz υ - mxz σ) (mxu υ - mxu σ) (lw_Z below #[Value.ref b] s) (F0 m 23 ls [])) → (∀  (υ : mx_S), o = .inr υ → ∀ (H : Heap) (locs : List Loc), mx_J G P s.heap (mxz σ) (mxu σ) υ H locs → ∀ ls : Array Slot, lv_has ls 8 [] → W p l e room_1 s m #[Value.ref b] below meth c H locs (mxz υ - mxz σ) (mxu υ - mxu σ) (lw_Z below #[Value.ref b] s) (F0 m 2916 ls [])) → ∀ (H : Heap) (locs : List Loc), mx_J G P s.heap (mxz σ) (mxu σ) τ H locs → ∀ ls : Array Slot, lv_has ls 8 [(0, .ref b), (1, .ref v1), (2, .ref v2), (3, .ref v3), (4, .int v4)] → W p l e room_1 s m #[Value.ref b] below meth c H locs (mxz τ - mxz σ) (mxu τ - mxu σ) (lw_Z below #[Value.ref b] s) (F0 m 2170 ls []) := by
  obtain ⟨hx, hb, hr, hml, hown, hts, hX, hbl, hlocks, hgv⟩ := id C0
  have hts : ∀ w ∈ mx_tbl, w.before #[Value.ref b] s = true := fun w hw => hts w (List.mem_filter.mp hw).1
  have hz0 := hJ.2.1
  have hbP : b < mpb P := by omega
  have hC : mpc P - mxz σ ≤ room_1.cells := Nat.le_of_eq hRc.symm
  have hS : mps P - mxu σ ≤ room_1.slots := Nat.le_of_eq hRs.symm
  have hown : s.vm.findClass RLn = some m.cls := hown
  have D2910_23 := @lw_D2910_23 p e s m below meth c l hlt b L xs C0 G P σ hK hJ hbE hRc hRs
  intro v0 v1 v2 v3 v4 τ o hf Kb Ke0 H locs hJ ls hl
  unfold f_L_law_D2170_23 at hf
  refine lv_goto (tgt := 2910) hx hb dL_law_2170 (by decide) ?_
  exact D2910_23 v0 v1 v2 v3 v4 τ o hf Kb Ke0 _ _ hJ ls (lv_sub hl [0, 1, 2, 3, 4] rfl)
set_option maxHeartbeats 16000000 in
set_option maxRecDepth 100000 in
theorem lw_D2129_23 {p : Program} {e : Env} {s : State} {m : MethodId} {below : List Frame} {meth : Method} {c : Code} (l : Launch) (hlt : l.stackTraces = false) {b L : Nat} {xs : Nat → Int32} (C0 : lw_At p s m meth c b L xs) (G : mx_G) (P : mx_P) (σ : mx_S) (hK : mx_K G P s) (hJ : mx_J G P s.heap (mxz σ) (mxu σ) σ s.heap []) (hbE : mpb P = s.heap.size) (hRc : room_1.cells = mpc P - mxz σ) (hRs : room_1.slots = mps P - mxu σ) : ∀ (v0 : Nat) (v1 : Nat) (v2 : Nat) (v3 : Nat) (v4 : Int32) (τ : mx_S) (o : (Int32 × mx_S) ⊕ ((mx_S))), f_L_law_D2129_23 P L xs v0 v1 v2 v3 v4 τ = some o → (∀ (y4 : Int32) (υ : mx_S), o = .inl (y4, υ) → ∀ (H : Heap) (locs : List Loc), mx_J G P s.heap (mxz σ) (mxu σ) υ H locs → ∀ ls : Array Slot, lv_has ls 8 [(0, .ref b), (1, .ref v1), (2, .ref v2), (3, .ref v3), (4, .int y4)] → W p l e room_1 s m #[Value.ref b] below meth c H locs (mxz υ - mxz σ) (mxu υ - mxu σ) (lw_Z below #[Value.ref b] s) (F0 m 23 ls [])) → (∀  (υ : mx_S), o = .inr υ → ∀ (H : Heap) (locs : List Loc), mx_J G P s.heap (mxz σ) (mxu σ) υ H locs → ∀ ls : Array Slot, lv_has ls 8 [] → W p l e room_1 s m #[Value.ref b] below meth c H locs (mxz υ - mxz σ) (mxu υ - mxu σ) (lw_Z below #[Value.ref b] s) (F0 m 2916 ls [])) → ∀ (H : Heap) (locs : List Loc), mx_J G P s.heap (mxz σ) (mxu σ) τ H locs → ∀ ls : Array Slot, lv_has ls 8 [(0, .ref b), (1, .ref v1), (2, .ref v2), (3, .ref v3), (4, .int v4)] → W p l e room_1 s m #[Value.ref b] below meth c H locs (mxz τ - mxz σ) (mxu τ - mxu σ) (lw_Z below #[Value.ref b] s) (F0 m 2129 ls []) := by
  obtain ⟨hx, hb, hr, hml, hown, hts, hX, hbl, hlocks, hgv⟩ := id C0
  have hts : ∀ w ∈ mx_tbl, w.before #[Value.ref b] s = true := fun w hw => hts w (List.mem_filter.mp hw).1
  have hz0 := hJ.2.1
  have hbP : b < mpb P := by omega
  have hC : mpc P - mxz σ ≤ room_1.cells := Nat.le_of_eq hRc.symm
  have hS : mps P - mxu σ ≤ room_1.slots := Nat.le_of_eq hRs.symm
  have hown : s.vm.findClass RLn = some m.cls := hown
  have D2170_23 := @lw_D2170_23 p e s m below meth c l hlt b L xs C0 G P σ hK hJ hbE hRc hRs
  intro v0 v1 v2 v3 v4 τ o hf Kb Ke0 H locs hJ ls hl
  unfold f_L_law_D2129_23 at hf
  refine lv_aload_n hx hb dL_law_2129 rfl (lv_at hl 1 rfl) ?_
  refine lv_aload_n hx hb dL_law_2130 rfl (lv_at hl 3 rfl) ?_
  obtain ⟨x795, σ794, e796, hf⟩ := mc0 hf
  refine mx_callSW (As := [.ref v1, .ref v3]) (rest := []) hx hb hml hts hown hK hJ hRc hRs (c_L_cam l hlt G P v1 v3 τ x795 σ794 e796) mw_L_cam kw_1541 kw_1540 (Nat.le_of_ble_eq_true rfl) (Nat.le_of_ble_eq_true rfl) rfl hl.1 rfl (Nat.le_of_ble_eq_true rfl) dL_law_2131 (fun H locs hJ => ?_)
  refine lv_istore (lv' := [(5, .int x795), (0, .ref b), (1, .ref v1), (2, .ref v2), (3, .ref v3), (4, .int v4)]) hx hb dL_law_2134 hl (by decide) rfl (fun ls hl => ?_)
  refine lv_aload_n hx hb dL_law_2136 rfl (lv_at hl 3 rfl) ?_
  obtain ⟨i797, e798, hf⟩ := mb0 hf
  obtain ⟨x800, σ799, e801, hf⟩ := mc0 hf
  refine mx_callV (As := []) (rest := []) hx hb hml hts hown hK hJ hRc hRs (ci := 12) rfl e798 (c_X12_cam l G P v2 σ794 x800 σ799 e801) me_X12_cam kw_2687 kw_2688 kw_2686 (Nat.le_of_ble_eq_true rfl) (Nat.le_of_ble_eq_true rfl) rfl hl.1 rfl (Nat.le_of_ble_eq_true rfl) dL_law_2137 (fun H locs hJ => ?_)
  refine lv_istore (lv' := [(6, .int x800), (5, .int x795), (0, .ref b), (1, .ref v1), (2, .ref v2), (3, .ref v3), (4, .int v4)]) hx hb dL_law_2140 hl (by decide) rfl (fun ls hl => ?_)
  refine lv_aload_n hx hb dL_law_2142 rfl (lv_at hl 4 rfl) ?_
  obtain ⟨i802, e803, hf⟩ := mb0 hf
  obtain ⟨x805, σ804, e806, hf⟩ := mc0 hf
  refine mx_callV (As := []) (rest := []) hx hb hml hts hown hK hJ hRc hRs (ci := 12) rfl e803 (c_X12_thrown l G P v2 σ799 x805 σ804 e806) me_X12_thrown kw_2207 kw_2208 kw_2206 (Nat.le_of_ble_eq_true rfl) (Nat.le_of_ble_eq_true rfl) rfl hl.1 rfl (Nat.le_of_ble_eq_true rfl) dL_law_2143 (fun H locs hJ => ?_)
  refine lv_iload hx hb dL_law_2146 (lv_at hl 1 rfl) ?_
  refine lv_icmp_eq (tgt := 2153) hx hb dL_law_2148 (by decide) (fun c807 => ?_) (fun c807 => ?_)
  · rw [if_pos c807] at hf
    refine lv_iload hx hb dL_law_2153 (lv_at hl 1 rfl) ?_
    refine lv_if_ne (tgt := 2170) hx hb dL_law_2155 (by decide) (fun c808 => ?_) (fun c808 => ?_)
    · rw [if_neg c808] at hf
      exact D2170_23 v0 v1 v2 v3 v4 σ804 o hf Kb Ke0 _ _ hJ ls (lv_sub hl [2, 3, 4, 5, 6] rfl)
    · rw [if_pos c808] at hf
      refine lv_aload_n hx hb dL_law_2158 rfl (lv_at hl 5 rfl) ?_
      refine lv_iconst (v := 0) hx hb dL_law_2159 (by decide) ?_
      obtain ⟨x809, e810, hf⟩ := mb0 hf
      refine mx_aL hx hb hK hJ e810 dL_law_2160 ?_
      refine lv_iload hx hb dL_law_2161 (lv_at hl 0 rfl) ?_
      refine lv_i2l hx hb dL_law_2163 rfl ?_
      refine W.lcmp hx hb dL_law_2164 ?_
      refine lv_if_eq (tgt := 2170) hx hb dL_law_2165 (by decide) (fun c811 => ?_) (fun c811 => ?_)
      · rw [if_pos c811] at hf
        exact D2170_23 v0 v1 v2 v3 v4 σ804 o hf Kb Ke0 _ _ hJ ls (lv_sub hl [2, 3, 4, 5, 6] rfl)
      · rw [if_neg c811] at hf
        cases hf
  · rw [if_neg c807] at hf
    cases hf
set_option maxHeartbeats 16000000 in
set_option maxRecDepth 100000 in
theorem lw_D2249_23 {p : Program} {e : Env} {s : State} {m : MethodId} {below : List Frame} {meth : Method} {c : Code} (l : Launch) (hlt : l.stackTraces = false) {b L : Nat} {xs : Nat → Int32} (C0 : lw_At p s m meth c b L xs) (G : mx_G) (P : mx_P) (σ : mx_S) (hK : mx_K G P s) (hJ : mx_J G P s.heap (mxz σ) (mxu σ) σ s.heap []) (hbE : mpb P = s.heap.size) (hRc : room_1.cells = mpc P - mxz σ) (hRs : room_1.slots = mps P - mxu σ) : ∀ (v0 : Nat) (v1 : Nat) (v2 : Nat) (v3 : Nat) (v4 : Int32) (τ : mx_S) (o : (Int32 × mx_S) ⊕ ((mx_S))), f_L_law_D2249_23 P L xs v0 v1 v2 v3 v4 τ = some o → (∀ (y4 : Int32) (υ : mx_S), o = .inl (y4, υ) → ∀ (H : Heap) (locs : List Loc), mx_J G P s.heap (mxz σ) (mxu σ) υ H locs → ∀ ls : Array Slot, lv_has ls 8 [(0, .ref b), (1, .ref v1), (2, .ref v2), (3, .ref v3), (4, .int y4)] → W p l e room_1 s m #[Value.ref b] below meth c H locs (mxz υ - mxz σ) (mxu υ - mxu σ) (lw_Z below #[Value.ref b] s) (F0 m 23 ls [])) → (∀  (υ : mx_S), o = .inr υ → ∀ (H : Heap) (locs : List Loc), mx_J G P s.heap (mxz σ) (mxu σ) υ H locs → ∀ ls : Array Slot, lv_has ls 8 [] → W p l e room_1 s m #[Value.ref b] below meth c H locs (mxz υ - mxz σ) (mxu υ - mxu σ) (lw_Z below #[Value.ref b] s) (F0 m 2916 ls [])) → ∀ (H : Heap) (locs : List Loc), mx_J G P s.heap (mxz σ) (mxu σ) τ H locs → ∀ ls : Array Slot, lv_has ls 8 [(0, .ref b), (1, .ref v1), (2, .ref v2), (3, .ref v3), (4, .int v4)] → W p l e room_1 s m #[Value.ref b] below meth c H locs (mxz τ - mxz σ) (mxu τ - mxu σ) (lw_Z below #[Value.ref b] s) (F0 m 2249 ls []) := by
  obtain ⟨hx, hb, hr, hml, hown, hts, hX, hbl, hlocks, hgv⟩ := id C0
  have hts : ∀ w ∈ mx_tbl, w.before #[Value.ref b] s = true := fun w hw => hts w (List.mem_filter.mp hw).1
  have hz0 := hJ.2.1
  have hbP : b < mpb P := by omega
  have hC : mpc P - mxz σ ≤ room_1.cells := Nat.le_of_eq hRc.symm
  have hS : mps P - mxu σ ≤ room_1.slots := Nat.le_of_eq hRs.symm
  have hown : s.vm.findClass RLn = some m.cls := hown
  have D2910_23 := @lw_D2910_23 p e s m below meth c l hlt b L xs C0 G P σ hK hJ hbE hRc hRs
  intro v0 v1 v2 v3 v4 τ o hf Kb Ke0 H locs hJ ls hl
  unfold f_L_law_D2249_23 at hf
  refine lv_goto (tgt := 2910) hx hb dL_law_2249 (by decide) ?_
  exact D2910_23 v0 v1 v2 v3 v4 τ o hf Kb Ke0 _ _ hJ ls (lv_sub hl [0, 1, 2, 3, 4] rfl)
set_option maxHeartbeats 16000000 in
set_option maxRecDepth 100000 in
theorem lw_D2173_23 {p : Program} {e : Env} {s : State} {m : MethodId} {below : List Frame} {meth : Method} {c : Code} (l : Launch) (hlt : l.stackTraces = false) {b L : Nat} {xs : Nat → Int32} (C0 : lw_At p s m meth c b L xs) (G : mx_G) (P : mx_P) (σ : mx_S) (hK : mx_K G P s) (hJ : mx_J G P s.heap (mxz σ) (mxu σ) σ s.heap []) (hbE : mpb P = s.heap.size) (hRc : room_1.cells = mpc P - mxz σ) (hRs : room_1.slots = mps P - mxu σ) : ∀ (v0 : Nat) (v1 : Nat) (v2 : Nat) (v3 : Nat) (v4 : Int32) (τ : mx_S) (o : (Int32 × mx_S) ⊕ ((mx_S))), f_L_law_D2173_23 P L xs v0 v1 v2 v3 v4 τ = some o → (∀ (y4 : Int32) (υ : mx_S), o = .inl (y4, υ) → ∀ (H : Heap) (locs : List Loc), mx_J G P s.heap (mxz σ) (mxu σ) υ H locs → ∀ ls : Array Slot, lv_has ls 8 [(0, .ref b), (1, .ref v1), (2, .ref v2), (3, .ref v3), (4, .int y4)] → W p l e room_1 s m #[Value.ref b] below meth c H locs (mxz υ - mxz σ) (mxu υ - mxu σ) (lw_Z below #[Value.ref b] s) (F0 m 23 ls [])) → (∀  (υ : mx_S), o = .inr υ → ∀ (H : Heap) (locs : List Loc), mx_J G P s.heap (mxz σ) (mxu σ) υ H locs → ∀ ls : Array Slot, lv_has ls 8 [] → W p l e room_1 s m #[Value.ref b] below meth c H locs (mxz υ - mxz σ) (mxu υ - mxu σ) (lw_Z below #[Value.ref b] s) (F0 m 2916 ls [])) → ∀ (H : Heap) (locs : List Loc), mx_J G P s.heap (mxz σ) (mxu σ) τ H locs → ∀ ls : Array Slot, lv_has ls 8 [(0, .ref b), (1, .ref v1), (2, .ref v2), (3, .ref v3), (4, .int v4)] → W p l e room_1 s m #[Value.ref b] below meth c H locs (mxz τ - mxz σ) (mxu τ - mxu σ) (lw_Z below #[Value.ref b] s) (F0 m 2173 ls []) := by
  obtain ⟨hx, hb, hr, hml, hown, hts, hX, hbl, hlocks, hgv⟩ := id C0
  have hts : ∀ w ∈ mx_tbl, w.before #[Value.ref b] s = true := fun w hw => hts w (List.mem_filter.mp hw).1
  have hz0 := hJ.2.1
  have hbP : b < mpb P := by omega
  have hC : mpc P - mxz σ ≤ room_1.cells := Nat.le_of_eq hRc.symm
  have hS : mps P - mxu σ ≤ room_1.slots := Nat.le_of_eq hRs.symm
  have hown : s.vm.findClass RLn = some m.cls := hown
  have D2249_23 := @lw_D2249_23 p e s m below meth c l hlt b L xs C0 G P σ hK hJ hbE hRc hRs
  intro v0 v1 v2 v3 v4 τ o hf Kb Ke0 H locs hJ ls hl
  unfold f_L_law_D2173_23 at hf
  refine lv_aload_n hx hb dL_law_2173 rfl (lv_at hl 1 rfl) ?_
  refine lv_aload_n hx hb dL_law_2174 rfl (lv_at hl 0 rfl) ?_
  refine lv_iload hx hb dL_law_2175 (lv_at hl 4 rfl) ?_
  refine lv_iconst (v := 1) hx hb dL_law_2177 (by decide) ?_
  refine lv_iadd hx hb dL_law_2178 ?_
  obtain ⟨x813, e814, hf⟩ := mb0 hf
  refine mx_sld hx hb hX hbl hbP hz0 hJ e814 dL_law_2179 ?_
  refine lv_aload_n hx hb dL_law_2180 rfl (lv_at hl 0 rfl) ?_
  refine lv_iload hx hb dL_law_2181 (lv_at hl 4 rfl) ?_
  refine lv_iconst (v := 2) hx hb dL_law_2183 (by decide) ?_
  refine lv_iadd hx hb dL_law_2184 ?_
  obtain ⟨x815, e816, hf⟩ := mb0 hf
  refine mx_sld hx hb hX hbl hbP hz0 hJ e816 dL_law_2185 ?_
  refine lv_aload_n hx hb dL_law_2186 rfl (lv_at hl 0 rfl) ?_
  refine lv_iload hx hb dL_law_2187 (lv_at hl 4 rfl) ?_
  refine lv_iconst (v := 3) hx hb dL_law_2189 (by decide) ?_
  refine lv_iadd hx hb dL_law_2190 ?_
  obtain ⟨x817, e818, hf⟩ := mb0 hf
  refine mx_sld hx hb hX hbl hbP hz0 hJ e818 dL_law_2191 ?_
  refine lv_aload_n hx hb dL_law_2192 rfl (lv_at hl 3 rfl) ?_
  obtain ⟨x820, σ819, e821, hf⟩ := mc0 hf
  refine mx_callSW (As := [.ref v1, .int x813, .int x815, .int x817, .ref v3]) (rest := []) hx hb hml hts hown hK hJ hRc hRs (c_L_lift l hlt G P v1 x813 x815 x817 v3 τ x820 σ819 e821) mw_L_lift kw_1572 kw_1571 (Nat.le_of_ble_eq_true rfl) (Nat.le_of_ble_eq_true rfl) rfl hl.1 rfl (Nat.le_of_ble_eq_true rfl) dL_law_2193 (fun H locs hJ => ?_)
  refine lv_istore (lv' := [(5, .int x820), (0, .ref b), (1, .ref v1), (2, .ref v2), (3, .ref v3), (4, .int v4)]) hx hb dL_law_2196 hl (by decide) rfl (fun ls hl => ?_)
  refine lv_aload_n hx hb dL_law_2198 rfl (lv_at hl 3 rfl) ?_
  refine lv_aload_n hx hb dL_law_2199 rfl (lv_at hl 1 rfl) ?_
  refine lv_iload hx hb dL_law_2200 (lv_at hl 5 rfl) ?_
  refine lv_iconst (v := 1) hx hb dL_law_2202 (by decide) ?_
  refine lv_iadd hx hb dL_law_2203 ?_
  obtain ⟨x822, e823, hf⟩ := mb0 hf
  refine mx_sld hx hb hX hbl hbP hz0 hJ e823 dL_law_2204 ?_
  refine lv_aload_n hx hb dL_law_2205 rfl (lv_at hl 1 rfl) ?_
  refine lv_iload hx hb dL_law_2206 (lv_at hl 5 rfl) ?_
  refine lv_iconst (v := 2) hx hb dL_law_2208 (by decide) ?_
  refine lv_iadd hx hb dL_law_2209 ?_
  obtain ⟨x824, e825, hf⟩ := mb0 hf
  refine mx_sld hx hb hX hbl hbP hz0 hJ e825 dL_law_2210 ?_
  refine lv_aload_n hx hb dL_law_2211 rfl (lv_at hl 1 rfl) ?_
  refine lv_iload hx hb dL_law_2212 (lv_at hl 5 rfl) ?_
  refine lv_iconst (v := 3) hx hb dL_law_2214 (by decide) ?_
  refine lv_iadd hx hb dL_law_2215 ?_
  obtain ⟨x826, e827, hf⟩ := mb0 hf
  refine mx_sld hx hb hX hbl hbP hz0 hJ e827 dL_law_2216 ?_
  obtain ⟨i828, e829, hf⟩ := mb0 hf
  obtain ⟨x831, σ830, e832, hf⟩ := mc0 hf
  refine mx_callV (As := [.int x822, .int x824, .int x826]) (rest := []) hx hb hml hts hown hK hJ hRc hRs (ci := 12) rfl e829 (c_X12_lift l G P v2 x822 x824 x826 σ819 x831 σ830 e832) me_X12_lift kw_2703 kw_2704 kw_2702 (Nat.le_of_ble_eq_true rfl) (Nat.le_of_ble_eq_true rfl) rfl hl.1 rfl (Nat.le_of_ble_eq_true rfl) dL_law_2217 (fun H locs hJ => ?_)
  refine lv_lstore (lv' := [(6, .long x831), (5, .int x820), (0, .ref b), (1, .ref v1), (2, .ref v2), (3, .ref v3), (4, .int v4)]) hx hb dL_law_2220 hl (by decide) rfl (fun ls hl => ?_)
  refine lv_aload_n hx hb dL_law_2222 rfl (lv_at hl 4 rfl) ?_
  obtain ⟨i833, e834, hf⟩ := mb0 hf
  obtain ⟨x836, σ835, e837, hf⟩ := mc0 hf
  refine mx_callV (As := []) (rest := []) hx hb hml hts hown hK hJ hRc hRs (ci := 12) rfl e834 (c_X12_thrown l G P v2 σ830 x836 σ835 e837) me_X12_thrown kw_2207 kw_2208 kw_2206 (Nat.le_of_ble_eq_true rfl) (Nat.le_of_ble_eq_true rfl) rfl hl.1 rfl (Nat.le_of_ble_eq_true rfl) dL_law_2223 (fun H locs hJ => ?_)
  refine lv_iload hx hb dL_law_2226 (lv_at hl 1 rfl) ?_
  refine lv_icmp_eq (tgt := 2233) hx hb dL_law_2228 (by decide) (fun c838 => ?_) (fun c838 => ?_)
  · rw [if_pos c838] at hf
    refine lv_iload hx hb dL_law_2233 (lv_at hl 1 rfl) ?_
    refine lv_if_ne (tgt := 2249) hx hb dL_law_2235 (by decide) (fun c839 => ?_) (fun c839 => ?_)
    · rw [if_neg c839] at hf
      exact D2249_23 v0 v1 v2 v3 v4 σ835 o hf Kb Ke0 _ _ hJ ls (lv_sub hl [2, 3, 4, 5, 6] rfl)
    · rw [if_pos c839] at hf
      refine lv_aload_n hx hb dL_law_2238 rfl (lv_at hl 5 rfl) ?_
      refine lv_iconst (v := 0) hx hb dL_law_2239 (by decide) ?_
      obtain ⟨x840, e841, hf⟩ := mb0 hf
      refine mx_aL hx hb hK hJ e841 dL_law_2240 ?_
      refine lv_lload hx hb dL_law_2241 (lv_at hl 0 rfl) ?_
      refine W.lcmp hx hb dL_law_2243 ?_
      refine lv_if_eq (tgt := 2249) hx hb dL_law_2244 (by decide) (fun c842 => ?_) (fun c842 => ?_)
      · rw [if_pos c842] at hf
        exact D2249_23 v0 v1 v2 v3 v4 σ835 o hf Kb Ke0 _ _ hJ ls (lv_sub hl [2, 3, 4, 5, 6] rfl)
      · rw [if_neg c842] at hf
        cases hf
  · rw [if_neg c838] at hf
    cases hf
set_option maxHeartbeats 16000000 in
set_option maxRecDepth 100000 in
theorem lw_D2304_23 {p : Program} {e : Env} {s : State} {m : MethodId} {below : List Frame} {meth : Method} {c : Code} (l : Launch) (hlt : l.stackTraces = false) {b L : Nat} {xs : Nat → Int32} (C0 : lw_At p s m meth c b L xs) (G : mx_G) (P : mx_P) (σ : mx_S) (hK : mx_K G P s) (hJ : mx_J G P s.heap (mxz σ) (mxu σ) σ s.heap []) (hbE : mpb P = s.heap.size) (hRc : room_1.cells = mpc P - mxz σ) (hRs : room_1.slots = mps P - mxu σ) : ∀ (v0 : Nat) (v1 : Nat) (v2 : Nat) (v3 : Nat) (v4 : Int32) (τ : mx_S) (o : (Int32 × mx_S) ⊕ ((mx_S))), f_L_law_D2304_23 P L xs v0 v1 v2 v3 v4 τ = some o → (∀ (y4 : Int32) (υ : mx_S), o = .inl (y4, υ) → ∀ (H : Heap) (locs : List Loc), mx_J G P s.heap (mxz σ) (mxu σ) υ H locs → ∀ ls : Array Slot, lv_has ls 8 [(0, .ref b), (1, .ref v1), (2, .ref v2), (3, .ref v3), (4, .int y4)] → W p l e room_1 s m #[Value.ref b] below meth c H locs (mxz υ - mxz σ) (mxu υ - mxu σ) (lw_Z below #[Value.ref b] s) (F0 m 23 ls [])) → (∀  (υ : mx_S), o = .inr υ → ∀ (H : Heap) (locs : List Loc), mx_J G P s.heap (mxz σ) (mxu σ) υ H locs → ∀ ls : Array Slot, lv_has ls 8 [] → W p l e room_1 s m #[Value.ref b] below meth c H locs (mxz υ - mxz σ) (mxu υ - mxu σ) (lw_Z below #[Value.ref b] s) (F0 m 2916 ls [])) → ∀ (H : Heap) (locs : List Loc), mx_J G P s.heap (mxz σ) (mxu σ) τ H locs → ∀ ls : Array Slot, lv_has ls 8 [(0, .ref b), (1, .ref v1), (2, .ref v2), (3, .ref v3), (4, .int v4)] → W p l e room_1 s m #[Value.ref b] below meth c H locs (mxz τ - mxz σ) (mxu τ - mxu σ) (lw_Z below #[Value.ref b] s) (F0 m 2304 ls []) := by
  obtain ⟨hx, hb, hr, hml, hown, hts, hX, hbl, hlocks, hgv⟩ := id C0
  have hts : ∀ w ∈ mx_tbl, w.before #[Value.ref b] s = true := fun w hw => hts w (List.mem_filter.mp hw).1
  have hz0 := hJ.2.1
  have hbP : b < mpb P := by omega
  have hC : mpc P - mxz σ ≤ room_1.cells := Nat.le_of_eq hRc.symm
  have hS : mps P - mxu σ ≤ room_1.slots := Nat.le_of_eq hRs.symm
  have hown : s.vm.findClass RLn = some m.cls := hown
  have D2910_23 := @lw_D2910_23 p e s m below meth c l hlt b L xs C0 G P σ hK hJ hbE hRc hRs
  intro v0 v1 v2 v3 v4 τ o hf Kb Ke0 H locs hJ ls hl
  unfold f_L_law_D2304_23 at hf
  refine lv_goto (tgt := 2910) hx hb dL_law_2304 (by decide) ?_
  exact D2910_23 v0 v1 v2 v3 v4 τ o hf Kb Ke0 _ _ hJ ls (lv_sub hl [0, 1, 2, 3, 4] rfl)
set_option maxHeartbeats 16000000 in
set_option maxRecDepth 100000 in
theorem lw_D2252_23 {p : Program} {e : Env} {s : State} {m : MethodId} {below : List Frame} {meth : Method} {c : Code} (l : Launch) (hlt : l.stackTraces = false) {b L : Nat} {xs : Nat → Int32} (C0 : lw_At p s m meth c b L xs) (G : mx_G) (P : mx_P) (σ : mx_S) (hK : mx_K G P s) (hJ : mx_J G P s.heap (mxz σ) (mxu σ) σ s.heap []) (hbE : mpb P = s.heap.size) (hRc : room_1.cells = mpc P - mxz σ) (hRs : room_1.slots = mps P - mxu σ) : ∀ (v0 : Nat) (v1 : Nat) (v2 : Nat) (v3 : Nat) (v4 : Int32) (τ : mx_S) (o : (Int32 × mx_S) ⊕ ((mx_S))), f_L_law_D2252_23 P L xs v0 v1 v2 v3 v4 τ = some o → (∀ (y4 : Int32) (υ : mx_S), o = .inl (y4, υ) → ∀ (H : Heap) (locs : List Loc), mx_J G P s.heap (mxz σ) (mxu σ) υ H locs → ∀ ls : Array Slot, lv_has ls 8 [(0, .ref b), (1, .ref v1), (2, .ref v2), (3, .ref v3), (4, .int y4)] → W p l e room_1 s m #[Value.ref b] below meth c H locs (mxz υ - mxz σ) (mxu υ - mxu σ) (lw_Z below #[Value.ref b] s) (F0 m 23 ls [])) → (∀  (υ : mx_S), o = .inr υ → ∀ (H : Heap) (locs : List Loc), mx_J G P s.heap (mxz σ) (mxu σ) υ H locs → ∀ ls : Array Slot, lv_has ls 8 [] → W p l e room_1 s m #[Value.ref b] below meth c H locs (mxz υ - mxz σ) (mxu υ - mxu σ) (lw_Z below #[Value.ref b] s) (F0 m 2916 ls [])) → ∀ (H : Heap) (locs : List Loc), mx_J G P s.heap (mxz σ) (mxu σ) τ H locs → ∀ ls : Array Slot, lv_has ls 8 [(0, .ref b), (1, .ref v1), (2, .ref v2), (3, .ref v3), (4, .int v4)] → W p l e room_1 s m #[Value.ref b] below meth c H locs (mxz τ - mxz σ) (mxu τ - mxu σ) (lw_Z below #[Value.ref b] s) (F0 m 2252 ls []) := by
  obtain ⟨hx, hb, hr, hml, hown, hts, hX, hbl, hlocks, hgv⟩ := id C0
  have hts : ∀ w ∈ mx_tbl, w.before #[Value.ref b] s = true := fun w hw => hts w (List.mem_filter.mp hw).1
  have hz0 := hJ.2.1
  have hbP : b < mpb P := by omega
  have hC : mpc P - mxz σ ≤ room_1.cells := Nat.le_of_eq hRc.symm
  have hS : mps P - mxu σ ≤ room_1.slots := Nat.le_of_eq hRs.symm
  have hown : s.vm.findClass RLn = some m.cls := hown
  have D2304_23 := @lw_D2304_23 p e s m below meth c l hlt b L xs C0 G P σ hK hJ hbE hRc hRs
  intro v0 v1 v2 v3 v4 τ o hf Kb Ke0 H locs hJ ls hl
  unfold f_L_law_D2252_23 at hf
  refine lv_aload_n hx hb dL_law_2252 rfl (lv_at hl 1 rfl) ?_
  refine lv_aload_n hx hb dL_law_2253 rfl (lv_at hl 0 rfl) ?_
  refine lv_iload hx hb dL_law_2254 (lv_at hl 4 rfl) ?_
  refine lv_iconst (v := 1) hx hb dL_law_2256 (by decide) ?_
  refine lv_iadd hx hb dL_law_2257 ?_
  obtain ⟨x844, e845, hf⟩ := mb0 hf
  refine mx_sld hx hb hX hbl hbP hz0 hJ e845 dL_law_2258 ?_
  refine lv_aload_n hx hb dL_law_2259 rfl (lv_at hl 3 rfl) ?_
  obtain ⟨x847, σ846, e848, hf⟩ := mc0 hf
  refine mx_callSW (As := [.ref v1, .int x844, .ref v3]) (rest := []) hx hb hml hts hown hK hJ hRc hRs (c_L_camAbout l hlt G P v1 x844 v3 τ x847 σ846 e848) mw_L_camAbout kw_1613 kw_1612 (Nat.le_of_ble_eq_true rfl) (Nat.le_of_ble_eq_true rfl) rfl hl.1 rfl (Nat.le_of_ble_eq_true rfl) dL_law_2260 (fun H locs hJ => ?_)
  refine lv_istore (lv' := [(5, .int x847), (0, .ref b), (1, .ref v1), (2, .ref v2), (3, .ref v3), (4, .int v4)]) hx hb dL_law_2263 hl (by decide) rfl (fun ls hl => ?_)
  refine lv_aload_n hx hb dL_law_2265 rfl (lv_at hl 3 rfl) ?_
  refine lv_aload_n hx hb dL_law_2266 rfl (lv_at hl 1 rfl) ?_
  refine lv_iload hx hb dL_law_2267 (lv_at hl 5 rfl) ?_
  refine lv_iconst (v := 1) hx hb dL_law_2269 (by decide) ?_
  refine lv_iadd hx hb dL_law_2270 ?_
  obtain ⟨x849, e850, hf⟩ := mb0 hf
  refine mx_sld hx hb hX hbl hbP hz0 hJ e850 dL_law_2271 ?_
  obtain ⟨i851, e852, hf⟩ := mb0 hf
  obtain ⟨x854, σ853, e855, hf⟩ := mc0 hf
  refine mx_callV (As := [.int x849]) (rest := []) hx hb hml hts hown hK hJ hRc hRs (ci := 12) rfl e852 (c_X12_camAbout l G P v2 x849 σ846 x854 σ853 e855) me_X12_camAbout kw_2726 kw_2727 kw_2725 (Nat.le_of_ble_eq_true rfl) (Nat.le_of_ble_eq_true rfl) rfl hl.1 rfl (Nat.le_of_ble_eq_true rfl) dL_law_2272 (fun H locs hJ => ?_)
  refine lv_lstore (lv' := [(6, .long x854), (5, .int x847), (0, .ref b), (1, .ref v1), (2, .ref v2), (3, .ref v3), (4, .int v4)]) hx hb dL_law_2275 hl (by decide) rfl (fun ls hl => ?_)
  refine lv_aload_n hx hb dL_law_2277 rfl (lv_at hl 4 rfl) ?_
  obtain ⟨i856, e857, hf⟩ := mb0 hf
  obtain ⟨x859, σ858, e860, hf⟩ := mc0 hf
  refine mx_callV (As := []) (rest := []) hx hb hml hts hown hK hJ hRc hRs (ci := 12) rfl e857 (c_X12_thrown l G P v2 σ853 x859 σ858 e860) me_X12_thrown kw_2207 kw_2208 kw_2206 (Nat.le_of_ble_eq_true rfl) (Nat.le_of_ble_eq_true rfl) rfl hl.1 rfl (Nat.le_of_ble_eq_true rfl) dL_law_2278 (fun H locs hJ => ?_)
  refine lv_iload hx hb dL_law_2281 (lv_at hl 1 rfl) ?_
  refine lv_icmp_eq (tgt := 2288) hx hb dL_law_2283 (by decide) (fun c861 => ?_) (fun c861 => ?_)
  · rw [if_pos c861] at hf
    refine lv_iload hx hb dL_law_2288 (lv_at hl 1 rfl) ?_
    refine lv_if_ne (tgt := 2304) hx hb dL_law_2290 (by decide) (fun c862 => ?_) (fun c862 => ?_)
    · rw [if_neg c862] at hf
      exact D2304_23 v0 v1 v2 v3 v4 σ858 o hf Kb Ke0 _ _ hJ ls (lv_sub hl [2, 3, 4, 5, 6] rfl)
    · rw [if_pos c862] at hf
      refine lv_aload_n hx hb dL_law_2293 rfl (lv_at hl 5 rfl) ?_
      refine lv_iconst (v := 0) hx hb dL_law_2294 (by decide) ?_
      obtain ⟨x863, e864, hf⟩ := mb0 hf
      refine mx_aL hx hb hK hJ e864 dL_law_2295 ?_
      refine lv_lload hx hb dL_law_2296 (lv_at hl 0 rfl) ?_
      refine W.lcmp hx hb dL_law_2298 ?_
      refine lv_if_eq (tgt := 2304) hx hb dL_law_2299 (by decide) (fun c865 => ?_) (fun c865 => ?_)
      · rw [if_pos c865] at hf
        exact D2304_23 v0 v1 v2 v3 v4 σ858 o hf Kb Ke0 _ _ hJ ls (lv_sub hl [2, 3, 4, 5, 6] rfl)
      · rw [if_neg c865] at hf
        cases hf
  · rw [if_neg c861] at hf
    cases hf
set_option maxHeartbeats 16000000 in
set_option maxRecDepth 100000 in
theorem lw_D2384_23 {p : Program} {e : Env} {s : State} {m : MethodId} {below : List Frame} {meth : Method} {c : Code} (l : Launch) (hlt : l.stackTraces = false) {b L : Nat} {xs : Nat → Int32} (C0 : lw_At p s m meth c b L xs) (G : mx_G) (P : mx_P) (σ : mx_S) (hK : mx_K G P s) (hJ : mx_J G P s.heap (mxz σ) (mxu σ) σ s.heap []) (hbE : mpb P = s.heap.size) (hRc : room_1.cells = mpc P - mxz σ) (hRs : room_1.slots = mps P - mxu σ) : ∀ (v0 : Nat) (v1 : Nat) (v2 : Nat) (v3 : Nat) (v4 : Int32) (τ : mx_S) (o : (Int32 × mx_S) ⊕ ((mx_S))), f_L_law_D2384_23 P L xs v0 v1 v2 v3 v4 τ = some o → (∀ (y4 : Int32) (υ : mx_S), o = .inl (y4, υ) → ∀ (H : Heap) (locs : List Loc), mx_J G P s.heap (mxz σ) (mxu σ) υ H locs → ∀ ls : Array Slot, lv_has ls 8 [(0, .ref b), (1, .ref v1), (2, .ref v2), (3, .ref v3), (4, .int y4)] → W p l e room_1 s m #[Value.ref b] below meth c H locs (mxz υ - mxz σ) (mxu υ - mxu σ) (lw_Z below #[Value.ref b] s) (F0 m 23 ls [])) → (∀  (υ : mx_S), o = .inr υ → ∀ (H : Heap) (locs : List Loc), mx_J G P s.heap (mxz σ) (mxu σ) υ H locs → ∀ ls : Array Slot, lv_has ls 8 [] → W p l e room_1 s m #[Value.ref b] below meth c H locs (mxz υ - mxz σ) (mxu υ - mxu σ) (lw_Z below #[Value.ref b] s) (F0 m 2916 ls [])) → ∀ (H : Heap) (locs : List Loc), mx_J G P s.heap (mxz σ) (mxu σ) τ H locs → ∀ ls : Array Slot, lv_has ls 8 [(0, .ref b), (1, .ref v1), (2, .ref v2), (3, .ref v3), (4, .int v4)] → W p l e room_1 s m #[Value.ref b] below meth c H locs (mxz τ - mxz σ) (mxu τ - mxu σ) (lw_Z below #[Value.ref b] s) (F0 m 2384 ls []) := by
  obtain ⟨hx, hb, hr, hml, hown, hts, hX, hbl, hlocks, hgv⟩ := id C0
  have hts : ∀ w ∈ mx_tbl, w.before #[Value.ref b] s = true := fun w hw => hts w (List.mem_filter.mp hw).1
  have hz0 := hJ.2.1
  have hbP : b < mpb P := by omega
  have hC : mpc P - mxz σ ≤ room_1.cells := Nat.le_of_eq hRc.symm
  have hS : mps P - mxu σ ≤ room_1.slots := Nat.le_of_eq hRs.symm
  have hown : s.vm.findClass RLn = some m.cls := hown
  have D2910_23 := @lw_D2910_23 p e s m below meth c l hlt b L xs C0 G P σ hK hJ hbE hRc hRs
  intro v0 v1 v2 v3 v4 τ o hf Kb Ke0 H locs hJ ls hl
  unfold f_L_law_D2384_23 at hf
  refine lv_goto (tgt := 2910) hx hb dL_law_2384 (by decide) ?_
  exact D2910_23 v0 v1 v2 v3 v4 τ o hf Kb Ke0 _ _ hJ ls (lv_sub hl [0, 1, 2, 3, 4] rfl)
set_option maxHeartbeats 16000000 in
set_option maxRecDepth 100000 in
theorem lw_D2307_23 {p : Program} {e : Env} {s : State} {m : MethodId} {below : List Frame} {meth : Method} {c : Code} (l : Launch) (hlt : l.stackTraces = false) {b L : Nat} {xs : Nat → Int32} (C0 : lw_At p s m meth c b L xs) (G : mx_G) (P : mx_P) (σ : mx_S) (hK : mx_K G P s) (hJ : mx_J G P s.heap (mxz σ) (mxu σ) σ s.heap []) (hbE : mpb P = s.heap.size) (hRc : room_1.cells = mpc P - mxz σ) (hRs : room_1.slots = mps P - mxu σ) : ∀ (v0 : Nat) (v1 : Nat) (v2 : Nat) (v3 : Nat) (v4 : Int32) (τ : mx_S) (o : (Int32 × mx_S) ⊕ ((mx_S))), f_L_law_D2307_23 P L xs v0 v1 v2 v3 v4 τ = some o → (∀ (y4 : Int32) (υ : mx_S), o = .inl (y4, υ) → ∀ (H : Heap) (locs : List Loc), mx_J G P s.heap (mxz σ) (mxu σ) υ H locs → ∀ ls : Array Slot, lv_has ls 8 [(0, .ref b), (1, .ref v1), (2, .ref v2), (3, .ref v3), (4, .int y4)] → W p l e room_1 s m #[Value.ref b] below meth c H locs (mxz υ - mxz σ) (mxu υ - mxu σ) (lw_Z below #[Value.ref b] s) (F0 m 23 ls [])) → (∀  (υ : mx_S), o = .inr υ → ∀ (H : Heap) (locs : List Loc), mx_J G P s.heap (mxz σ) (mxu σ) υ H locs → ∀ ls : Array Slot, lv_has ls 8 [] → W p l e room_1 s m #[Value.ref b] below meth c H locs (mxz υ - mxz σ) (mxu υ - mxu σ) (lw_Z below #[Value.ref b] s) (F0 m 2916 ls [])) → ∀ (H : Heap) (locs : List Loc), mx_J G P s.heap (mxz σ) (mxu σ) τ H locs → ∀ ls : Array Slot, lv_has ls 8 [(0, .ref b), (1, .ref v1), (2, .ref v2), (3, .ref v3), (4, .int v4)] → W p l e room_1 s m #[Value.ref b] below meth c H locs (mxz τ - mxz σ) (mxu τ - mxu σ) (lw_Z below #[Value.ref b] s) (F0 m 2307 ls []) := by
  obtain ⟨hx, hb, hr, hml, hown, hts, hX, hbl, hlocks, hgv⟩ := id C0
  have hts : ∀ w ∈ mx_tbl, w.before #[Value.ref b] s = true := fun w hw => hts w (List.mem_filter.mp hw).1
  have hz0 := hJ.2.1
  have hbP : b < mpb P := by omega
  have hC : mpc P - mxz σ ≤ room_1.cells := Nat.le_of_eq hRc.symm
  have hS : mps P - mxu σ ≤ room_1.slots := Nat.le_of_eq hRs.symm
  have hown : s.vm.findClass RLn = some m.cls := hown
  have D2384_23 := @lw_D2384_23 p e s m below meth c l hlt b L xs C0 G P σ hK hJ hbE hRc hRs
  intro v0 v1 v2 v3 v4 τ o hf Kb Ke0 H locs hJ ls hl
  unfold f_L_law_D2307_23 at hf
  refine lv_aload_n hx hb dL_law_2307 rfl (lv_at hl 1 rfl) ?_
  refine lv_aload_n hx hb dL_law_2308 rfl (lv_at hl 0 rfl) ?_
  refine lv_iload hx hb dL_law_2309 (lv_at hl 4 rfl) ?_
  refine lv_iconst (v := 1) hx hb dL_law_2311 (by decide) ?_
  refine lv_iadd hx hb dL_law_2312 ?_
  obtain ⟨x867, e868, hf⟩ := mb0 hf
  refine mx_sld hx hb hX hbl hbP hz0 hJ e868 dL_law_2313 ?_
  refine lv_aload_n hx hb dL_law_2314 rfl (lv_at hl 0 rfl) ?_
  refine lv_iload hx hb dL_law_2315 (lv_at hl 4 rfl) ?_
  refine lv_iconst (v := 2) hx hb dL_law_2317 (by decide) ?_
  refine lv_iadd hx hb dL_law_2318 ?_
  obtain ⟨x869, e870, hf⟩ := mb0 hf
  refine mx_sld hx hb hX hbl hbP hz0 hJ e870 dL_law_2319 ?_
  refine lv_aload_n hx hb dL_law_2320 rfl (lv_at hl 0 rfl) ?_
  refine lv_iload hx hb dL_law_2321 (lv_at hl 4 rfl) ?_
  refine lv_iconst (v := 3) hx hb dL_law_2323 (by decide) ?_
  refine lv_iadd hx hb dL_law_2324 ?_
  obtain ⟨x871, e872, hf⟩ := mb0 hf
  refine mx_sld hx hb hX hbl hbP hz0 hJ e872 dL_law_2325 ?_
  refine lv_aload_n hx hb dL_law_2326 rfl (lv_at hl 3 rfl) ?_
  obtain ⟨x874, σ873, e875, hf⟩ := mc0 hf
  refine mx_callSW (As := [.ref v1, .int x867, .int x869, .int x871, .ref v3]) (rest := []) hx hb hml hts hown hK hJ hRc hRs (c_L_corner l hlt G P v1 x867 x869 x871 v3 τ x874 σ873 e875) mw_L_corner kw_1636 kw_1635 (Nat.le_of_ble_eq_true rfl) (Nat.le_of_ble_eq_true rfl) rfl hl.1 rfl (Nat.le_of_ble_eq_true rfl) dL_law_2327 (fun H locs hJ => ?_)
  refine lv_istore (lv' := [(5, .int x874), (0, .ref b), (1, .ref v1), (2, .ref v2), (3, .ref v3), (4, .int v4)]) hx hb dL_law_2330 hl (by decide) rfl (fun ls hl => ?_)
  refine lv_aload_n hx hb dL_law_2332 rfl (lv_at hl 3 rfl) ?_
  refine lv_aload_n hx hb dL_law_2333 rfl (lv_at hl 1 rfl) ?_
  refine lv_iload hx hb dL_law_2334 (lv_at hl 5 rfl) ?_
  refine lv_iconst (v := 1) hx hb dL_law_2336 (by decide) ?_
  refine lv_iadd hx hb dL_law_2337 ?_
  obtain ⟨x876, e877, hf⟩ := mb0 hf
  refine mx_sld hx hb hX hbl hbP hz0 hJ e877 dL_law_2338 ?_
  refine lv_aload_n hx hb dL_law_2339 rfl (lv_at hl 1 rfl) ?_
  refine lv_iload hx hb dL_law_2340 (lv_at hl 5 rfl) ?_
  refine lv_iconst (v := 2) hx hb dL_law_2342 (by decide) ?_
  refine lv_iadd hx hb dL_law_2343 ?_
  obtain ⟨x878, e879, hf⟩ := mb0 hf
  refine mx_sld hx hb hX hbl hbP hz0 hJ e879 dL_law_2344 ?_
  refine lv_aload_n hx hb dL_law_2345 rfl (lv_at hl 1 rfl) ?_
  refine lv_iload hx hb dL_law_2346 (lv_at hl 5 rfl) ?_
  refine lv_iconst (v := 3) hx hb dL_law_2348 (by decide) ?_
  refine lv_iadd hx hb dL_law_2349 ?_
  obtain ⟨x880, e881, hf⟩ := mb0 hf
  refine mx_sld hx hb hX hbl hbP hz0 hJ e881 dL_law_2350 ?_
  obtain ⟨i882, e883, hf⟩ := mb0 hf
  obtain ⟨x885, σ884, e886, hf⟩ := mc0 hf
  refine mx_callV (As := [.int x876, .int x878, .int x880]) (rest := []) hx hb hml hts hown hK hJ hRc hRs (ci := 12) rfl e883 (c_X12_corner l G P v2 x876 x878 x880 σ873 x885 σ884 e886) me_X12_corner kw_2747 kw_2748 kw_2746 (Nat.le_of_ble_eq_true rfl) (Nat.le_of_ble_eq_true rfl) rfl hl.1 rfl (Nat.le_of_ble_eq_true rfl) dL_law_2351 (fun H locs hJ => ?_)
  refine lv_istore (lv' := [(6, .int x885), (5, .int x874), (0, .ref b), (1, .ref v1), (2, .ref v2), (3, .ref v3), (4, .int v4)]) hx hb dL_law_2354 hl (by decide) rfl (fun ls hl => ?_)
  refine lv_aload_n hx hb dL_law_2356 rfl (lv_at hl 4 rfl) ?_
  obtain ⟨i887, e888, hf⟩ := mb0 hf
  obtain ⟨x890, σ889, e891, hf⟩ := mc0 hf
  refine mx_callV (As := []) (rest := []) hx hb hml hts hown hK hJ hRc hRs (ci := 12) rfl e888 (c_X12_thrown l G P v2 σ884 x890 σ889 e891) me_X12_thrown kw_2207 kw_2208 kw_2206 (Nat.le_of_ble_eq_true rfl) (Nat.le_of_ble_eq_true rfl) rfl hl.1 rfl (Nat.le_of_ble_eq_true rfl) dL_law_2357 (fun H locs hJ => ?_)
  refine lv_iload hx hb dL_law_2360 (lv_at hl 1 rfl) ?_
  refine lv_icmp_eq (tgt := 2367) hx hb dL_law_2362 (by decide) (fun c892 => ?_) (fun c892 => ?_)
  · rw [if_pos c892] at hf
    refine lv_iload hx hb dL_law_2367 (lv_at hl 1 rfl) ?_
    refine lv_if_ne (tgt := 2384) hx hb dL_law_2369 (by decide) (fun c893 => ?_) (fun c893 => ?_)
    · rw [if_neg c893] at hf
      exact D2384_23 v0 v1 v2 v3 v4 σ889 o hf Kb Ke0 _ _ hJ ls (lv_sub hl [2, 3, 4, 5, 6] rfl)
    · rw [if_pos c893] at hf
      refine lv_aload_n hx hb dL_law_2372 rfl (lv_at hl 5 rfl) ?_
      refine lv_iconst (v := 0) hx hb dL_law_2373 (by decide) ?_
      obtain ⟨x894, e895, hf⟩ := mb0 hf
      refine mx_aL hx hb hK hJ e895 dL_law_2374 ?_
      refine lv_iload hx hb dL_law_2375 (lv_at hl 0 rfl) ?_
      refine lv_i2l hx hb dL_law_2377 rfl ?_
      refine W.lcmp hx hb dL_law_2378 ?_
      refine lv_if_eq (tgt := 2384) hx hb dL_law_2379 (by decide) (fun c896 => ?_) (fun c896 => ?_)
      · rw [if_pos c896] at hf
        exact D2384_23 v0 v1 v2 v3 v4 σ889 o hf Kb Ke0 _ _ hJ ls (lv_sub hl [2, 3, 4, 5, 6] rfl)
      · rw [if_neg c896] at hf
        cases hf
  · rw [if_neg c892] at hf
    cases hf
set_option maxHeartbeats 16000000 in
set_option maxRecDepth 100000 in
theorem lw_D2387_23 {p : Program} {e : Env} {s : State} {m : MethodId} {below : List Frame} {meth : Method} {c : Code} (l : Launch) (hlt : l.stackTraces = false) {b L : Nat} {xs : Nat → Int32} (C0 : lw_At p s m meth c b L xs) (G : mx_G) (P : mx_P) (σ : mx_S) (hK : mx_K G P s) (hJ : mx_J G P s.heap (mxz σ) (mxu σ) σ s.heap []) (hbE : mpb P = s.heap.size) (hRc : room_1.cells = mpc P - mxz σ) (hRs : room_1.slots = mps P - mxu σ) : ∀ (v0 : Nat) (v1 : Nat) (v2 : Nat) (v3 : Nat) (v4 : Int32) (τ : mx_S) (o : (Int32 × mx_S) ⊕ ((mx_S))), f_L_law_D2387_23 P L xs v0 v1 v2 v3 v4 τ = some o → (∀ (y4 : Int32) (υ : mx_S), o = .inl (y4, υ) → ∀ (H : Heap) (locs : List Loc), mx_J G P s.heap (mxz σ) (mxu σ) υ H locs → ∀ ls : Array Slot, lv_has ls 8 [(0, .ref b), (1, .ref v1), (2, .ref v2), (3, .ref v3), (4, .int y4)] → W p l e room_1 s m #[Value.ref b] below meth c H locs (mxz υ - mxz σ) (mxu υ - mxu σ) (lw_Z below #[Value.ref b] s) (F0 m 23 ls [])) → (∀  (υ : mx_S), o = .inr υ → ∀ (H : Heap) (locs : List Loc), mx_J G P s.heap (mxz σ) (mxu σ) υ H locs → ∀ ls : Array Slot, lv_has ls 8 [] → W p l e room_1 s m #[Value.ref b] below meth c H locs (mxz υ - mxz σ) (mxu υ - mxu σ) (lw_Z below #[Value.ref b] s) (F0 m 2916 ls [])) → ∀ (H : Heap) (locs : List Loc), mx_J G P s.heap (mxz σ) (mxu σ) τ H locs → ∀ ls : Array Slot, lv_has ls 8 [(0, .ref b), (1, .ref v1), (2, .ref v2), (3, .ref v3), (4, .int v4)] → W p l e room_1 s m #[Value.ref b] below meth c H locs (mxz τ - mxz σ) (mxu τ - mxu σ) (lw_Z below #[Value.ref b] s) (F0 m 2387 ls []) := by
  obtain ⟨hx, hb, hr, hml, hown, hts, hX, hbl, hlocks, hgv⟩ := id C0
  have hts : ∀ w ∈ mx_tbl, w.before #[Value.ref b] s = true := fun w hw => hts w (List.mem_filter.mp hw).1
  have hz0 := hJ.2.1
  have hbP : b < mpb P := by omega
  have hC : mpc P - mxz σ ≤ room_1.cells := Nat.le_of_eq hRc.symm
  have hS : mps P - mxu σ ≤ room_1.slots := Nat.le_of_eq hRs.symm
  have hown : s.vm.findClass RLn = some m.cls := hown
  have D2910_23 := @lw_D2910_23 p e s m below meth c l hlt b L xs C0 G P σ hK hJ hbE hRc hRs
  intro v0 v1 v2 v3 v4 τ o hf Kb Ke0 H locs hJ ls hl
  unfold f_L_law_D2387_23 at hf
  refine lv_aload_n hx hb dL_law_2387 rfl (lv_at hl 1 rfl) ?_
  refine lv_aload_n hx hb dL_law_2388 rfl (lv_at hl 0 rfl) ?_
  refine lv_iload hx hb dL_law_2389 (lv_at hl 4 rfl) ?_
  refine lv_iconst (v := 1) hx hb dL_law_2391 (by decide) ?_
  refine lv_iadd hx hb dL_law_2392 ?_
  obtain ⟨x898, e899, hf⟩ := mb0 hf
  refine mx_sld hx hb hX hbl hbP hz0 hJ e899 dL_law_2393 ?_
  obtain ⟨x901, σ900, e902, hf⟩ := mc0 hf
  refine mx_callSW (As := [.ref v1, .int x898]) (rest := []) hx hb hml hts hown hK hJ hRc hRs (c_L_empty l hlt G P v1 x898 τ x901 σ900 e902) mw_L_empty kw_1647 kw_1646 (Nat.le_of_ble_eq_true rfl) (Nat.le_of_ble_eq_true rfl) rfl hl.1 rfl (Nat.le_of_ble_eq_true rfl) dL_law_2394 (fun H locs hJ => ?_)
  refine lv_istore (lv' := [(5, .int x901), (0, .ref b), (1, .ref v1), (2, .ref v2), (3, .ref v3), (4, .int v4)]) hx hb dL_law_2397 hl (by decide) rfl (fun ls hl => ?_)
  refine lv_aload_n hx hb dL_law_2399 rfl (lv_at hl 3 rfl) ?_
  refine lv_aload_n hx hb dL_law_2400 rfl (lv_at hl 1 rfl) ?_
  refine lv_iload hx hb dL_law_2401 (lv_at hl 5 rfl) ?_
  refine lv_iconst (v := 1) hx hb dL_law_2403 (by decide) ?_
  refine lv_iadd hx hb dL_law_2404 ?_
  obtain ⟨x903, e904, hf⟩ := mb0 hf
  refine mx_sld hx hb hX hbl hbP hz0 hJ e904 dL_law_2405 ?_
  obtain ⟨i905, e906, hf⟩ := mb0 hf
  obtain ⟨σ907, e908, hf⟩ := mb0 hf
  refine mx_callV (As := [.int x903]) (rest := []) hx hb hml hts hown hK hJ hRc hRs (ci := 12) rfl e906 (c_X12_empty l G P v2 x903 σ900 σ907 e908) me_X12_empty kw_2752 kw_2753 kw_2751 (Nat.le_of_ble_eq_true rfl) (Nat.le_of_ble_eq_true rfl) rfl hl.1 rfl (Nat.le_of_ble_eq_true rfl) dL_law_2406 (fun H locs hJ => ?_)
  refine lv_aload_n hx hb dL_law_2409 rfl (lv_at hl 3 rfl) ?_
  obtain ⟨i909, e910, hf⟩ := mb0 hf
  obtain ⟨x912, σ911, e913, hf⟩ := mc0 hf
  refine mx_callV (As := []) (rest := []) hx hb hml hts hown hK hJ hRc hRs (ci := 12) rfl e910 (c_X12_thrown l G P v2 σ907 x912 σ911 e913) me_X12_thrown kw_2207 kw_2208 kw_2206 (Nat.le_of_ble_eq_true rfl) (Nat.le_of_ble_eq_true rfl) rfl hl.1 rfl (Nat.le_of_ble_eq_true rfl) dL_law_2410 (fun H locs hJ => ?_)
  refine lv_iload hx hb dL_law_2413 (lv_at hl 0 rfl) ?_
  refine lv_icmp_eq (tgt := 2420) hx hb dL_law_2415 (by decide) (fun c914 => ?_) (fun c914 => ?_)
  · rw [if_pos c914] at hf
    refine lv_goto (tgt := 2910) hx hb dL_law_2420 (by decide) ?_
    exact D2910_23 v0 v1 v2 v3 v4 σ911 o hf Kb Ke0 _ _ hJ ls (lv_sub hl [1, 2, 3, 4, 5] rfl)
  · rw [if_neg c914] at hf
    cases hf
set_option maxHeartbeats 16000000 in
set_option maxRecDepth 100000 in
theorem lw_D2487_23 {p : Program} {e : Env} {s : State} {m : MethodId} {below : List Frame} {meth : Method} {c : Code} (l : Launch) (hlt : l.stackTraces = false) {b L : Nat} {xs : Nat → Int32} (C0 : lw_At p s m meth c b L xs) (G : mx_G) (P : mx_P) (σ : mx_S) (hK : mx_K G P s) (hJ : mx_J G P s.heap (mxz σ) (mxu σ) σ s.heap []) (hbE : mpb P = s.heap.size) (hRc : room_1.cells = mpc P - mxz σ) (hRs : room_1.slots = mps P - mxu σ) : ∀ (v0 : Nat) (v1 : Nat) (v2 : Nat) (v3 : Nat) (v4 : Int32) (τ : mx_S) (o : (Int32 × mx_S) ⊕ ((mx_S))), f_L_law_D2487_23 P L xs v0 v1 v2 v3 v4 τ = some o → (∀ (y4 : Int32) (υ : mx_S), o = .inl (y4, υ) → ∀ (H : Heap) (locs : List Loc), mx_J G P s.heap (mxz σ) (mxu σ) υ H locs → ∀ ls : Array Slot, lv_has ls 8 [(0, .ref b), (1, .ref v1), (2, .ref v2), (3, .ref v3), (4, .int y4)] → W p l e room_1 s m #[Value.ref b] below meth c H locs (mxz υ - mxz σ) (mxu υ - mxu σ) (lw_Z below #[Value.ref b] s) (F0 m 23 ls [])) → (∀  (υ : mx_S), o = .inr υ → ∀ (H : Heap) (locs : List Loc), mx_J G P s.heap (mxz σ) (mxu σ) υ H locs → ∀ ls : Array Slot, lv_has ls 8 [] → W p l e room_1 s m #[Value.ref b] below meth c H locs (mxz υ - mxz σ) (mxu υ - mxu σ) (lw_Z below #[Value.ref b] s) (F0 m 2916 ls [])) → ∀ (H : Heap) (locs : List Loc), mx_J G P s.heap (mxz σ) (mxu σ) τ H locs → ∀ ls : Array Slot, lv_has ls 8 [(0, .ref b), (1, .ref v1), (2, .ref v2), (3, .ref v3), (4, .int v4)] → W p l e room_1 s m #[Value.ref b] below meth c H locs (mxz τ - mxz σ) (mxu τ - mxu σ) (lw_Z below #[Value.ref b] s) (F0 m 2487 ls []) := by
  obtain ⟨hx, hb, hr, hml, hown, hts, hX, hbl, hlocks, hgv⟩ := id C0
  have hts : ∀ w ∈ mx_tbl, w.before #[Value.ref b] s = true := fun w hw => hts w (List.mem_filter.mp hw).1
  have hz0 := hJ.2.1
  have hbP : b < mpb P := by omega
  have hC : mpc P - mxz σ ≤ room_1.cells := Nat.le_of_eq hRc.symm
  have hS : mps P - mxu σ ≤ room_1.slots := Nat.le_of_eq hRs.symm
  have hown : s.vm.findClass RLn = some m.cls := hown
  have D2910_23 := @lw_D2910_23 p e s m below meth c l hlt b L xs C0 G P σ hK hJ hbE hRc hRs
  intro v0 v1 v2 v3 v4 τ o hf Kb Ke0 H locs hJ ls hl
  unfold f_L_law_D2487_23 at hf
  refine lv_goto (tgt := 2910) hx hb dL_law_2487 (by decide) ?_
  exact D2910_23 v0 v1 v2 v3 v4 τ o hf Kb Ke0 _ _ hJ ls (lv_sub hl [0, 1, 2, 3, 4] rfl)
set_option maxHeartbeats 16000000 in
set_option maxRecDepth 100000 in
theorem lw_D2423_23 {p : Program} {e : Env} {s : State} {m : MethodId} {below : List Frame} {meth : Method} {c : Code} (l : Launch) (hlt : l.stackTraces = false) {b L : Nat} {xs : Nat → Int32} (C0 : lw_At p s m meth c b L xs) (G : mx_G) (P : mx_P) (σ : mx_S) (hK : mx_K G P s) (hJ : mx_J G P s.heap (mxz σ) (mxu σ) σ s.heap []) (hbE : mpb P = s.heap.size) (hRc : room_1.cells = mpc P - mxz σ) (hRs : room_1.slots = mps P - mxu σ) : ∀ (v0 : Nat) (v1 : Nat) (v2 : Nat) (v3 : Nat) (v4 : Int32) (τ : mx_S) (o : (Int32 × mx_S) ⊕ ((mx_S))), f_L_law_D2423_23 P L xs v0 v1 v2 v3 v4 τ = some o → (∀ (y4 : Int32) (υ : mx_S), o = .inl (y4, υ) → ∀ (H : Heap) (locs : List Loc), mx_J G P s.heap (mxz σ) (mxu σ) υ H locs → ∀ ls : Array Slot, lv_has ls 8 [(0, .ref b), (1, .ref v1), (2, .ref v2), (3, .ref v3), (4, .int y4)] → W p l e room_1 s m #[Value.ref b] below meth c H locs (mxz υ - mxz σ) (mxu υ - mxu σ) (lw_Z below #[Value.ref b] s) (F0 m 23 ls [])) → (∀  (υ : mx_S), o = .inr υ → ∀ (H : Heap) (locs : List Loc), mx_J G P s.heap (mxz σ) (mxu σ) υ H locs → ∀ ls : Array Slot, lv_has ls 8 [] → W p l e room_1 s m #[Value.ref b] below meth c H locs (mxz υ - mxz σ) (mxu υ - mxu σ) (lw_Z below #[Value.ref b] s) (F0 m 2916 ls [])) → ∀ (H : Heap) (locs : List Loc), mx_J G P s.heap (mxz σ) (mxu σ) τ H locs → ∀ ls : Array Slot, lv_has ls 8 [(0, .ref b), (1, .ref v1), (2, .ref v2), (3, .ref v3), (4, .int v4)] → W p l e room_1 s m #[Value.ref b] below meth c H locs (mxz τ - mxz σ) (mxu τ - mxu σ) (lw_Z below #[Value.ref b] s) (F0 m 2423 ls []) := by
  obtain ⟨hx, hb, hr, hml, hown, hts, hX, hbl, hlocks, hgv⟩ := id C0
  have hts : ∀ w ∈ mx_tbl, w.before #[Value.ref b] s = true := fun w hw => hts w (List.mem_filter.mp hw).1
  have hz0 := hJ.2.1
  have hbP : b < mpb P := by omega
  have hC : mpc P - mxz σ ≤ room_1.cells := Nat.le_of_eq hRc.symm
  have hS : mps P - mxu σ ≤ room_1.slots := Nat.le_of_eq hRs.symm
  have hown : s.vm.findClass RLn = some m.cls := hown
  have D2487_23 := @lw_D2487_23 p e s m below meth c l hlt b L xs C0 G P σ hK hJ hbE hRc hRs
  intro v0 v1 v2 v3 v4 τ o hf Kb Ke0 H locs hJ ls hl
  unfold f_L_law_D2423_23 at hf
  refine lv_aload_n hx hb dL_law_2423 rfl (lv_at hl 1 rfl) ?_
  refine lv_aload_n hx hb dL_law_2424 rfl (lv_at hl 0 rfl) ?_
  refine lv_iload hx hb dL_law_2425 (lv_at hl 4 rfl) ?_
  refine lv_iconst (v := 1) hx hb dL_law_2427 (by decide) ?_
  refine lv_iadd hx hb dL_law_2428 ?_
  obtain ⟨x916, e917, hf⟩ := mb0 hf
  refine mx_sld hx hb hX hbl hbP hz0 hJ e917 dL_law_2429 ?_
  refine lv_aload_n hx hb dL_law_2430 rfl (lv_at hl 0 rfl) ?_
  refine lv_iload hx hb dL_law_2431 (lv_at hl 4 rfl) ?_
  refine lv_iconst (v := 2) hx hb dL_law_2433 (by decide) ?_
  refine lv_iadd hx hb dL_law_2434 ?_
  obtain ⟨x918, e919, hf⟩ := mb0 hf
  refine mx_sld hx hb hX hbl hbP hz0 hJ e919 dL_law_2435 ?_
  refine lv_aload_n hx hb dL_law_2436 rfl (lv_at hl 3 rfl) ?_
  obtain ⟨x921, σ920, e922, hf⟩ := mc0 hf
  refine mx_callSW (As := [.ref v1, .int x916, .int x918, .ref v3]) (rest := []) hx hb hml hts hown hK hJ hRc hRs (c_L_plate l hlt G P v1 x916 x918 v3 τ x921 σ920 e922) mw_L_plate kw_1654 kw_1653 (Nat.le_of_ble_eq_true rfl) (Nat.le_of_ble_eq_true rfl) rfl hl.1 rfl (Nat.le_of_ble_eq_true rfl) dL_law_2437 (fun H locs hJ => ?_)
  refine lv_istore (lv' := [(5, .int x921), (0, .ref b), (1, .ref v1), (2, .ref v2), (3, .ref v3), (4, .int v4)]) hx hb dL_law_2440 hl (by decide) rfl (fun ls hl => ?_)
  refine lv_aload_n hx hb dL_law_2442 rfl (lv_at hl 3 rfl) ?_
  refine lv_aload_n hx hb dL_law_2443 rfl (lv_at hl 1 rfl) ?_
  refine lv_iload hx hb dL_law_2444 (lv_at hl 5 rfl) ?_
  refine lv_iconst (v := 1) hx hb dL_law_2446 (by decide) ?_
  refine lv_iadd hx hb dL_law_2447 ?_
  obtain ⟨x923, e924, hf⟩ := mb0 hf
  refine mx_sld hx hb hX hbl hbP hz0 hJ e924 dL_law_2448 ?_
  refine lv_aload_n hx hb dL_law_2449 rfl (lv_at hl 1 rfl) ?_
  refine lv_iload hx hb dL_law_2450 (lv_at hl 5 rfl) ?_
  refine lv_iconst (v := 2) hx hb dL_law_2452 (by decide) ?_
  refine lv_iadd hx hb dL_law_2453 ?_
  obtain ⟨x925, e926, hf⟩ := mb0 hf
  refine mx_sld hx hb hX hbl hbP hz0 hJ e926 dL_law_2454 ?_
  obtain ⟨i927, e928, hf⟩ := mb0 hf
  obtain ⟨x930, σ929, e931, hf⟩ := mc0 hf
  refine mx_callV (As := [.int x923, .int x925]) (rest := []) hx hb hml hts hown hK hJ hRc hRs (ci := 12) rfl e928 (c_X12_plate l G P v2 x923 x925 σ920 x930 σ929 e931) me_X12_plate kw_2756 kw_2757 kw_2755 (Nat.le_of_ble_eq_true rfl) (Nat.le_of_ble_eq_true rfl) rfl hl.1 rfl (Nat.le_of_ble_eq_true rfl) dL_law_2455 (fun H locs hJ => ?_)
  refine lv_lstore (lv' := [(6, .long x930), (5, .int x921), (0, .ref b), (1, .ref v1), (2, .ref v2), (3, .ref v3), (4, .int v4)]) hx hb dL_law_2458 hl (by decide) rfl (fun ls hl => ?_)
  refine lv_aload_n hx hb dL_law_2460 rfl (lv_at hl 4 rfl) ?_
  obtain ⟨i932, e933, hf⟩ := mb0 hf
  obtain ⟨x935, σ934, e936, hf⟩ := mc0 hf
  refine mx_callV (As := []) (rest := []) hx hb hml hts hown hK hJ hRc hRs (ci := 12) rfl e933 (c_X12_thrown l G P v2 σ929 x935 σ934 e936) me_X12_thrown kw_2207 kw_2208 kw_2206 (Nat.le_of_ble_eq_true rfl) (Nat.le_of_ble_eq_true rfl) rfl hl.1 rfl (Nat.le_of_ble_eq_true rfl) dL_law_2461 (fun H locs hJ => ?_)
  refine lv_iload hx hb dL_law_2464 (lv_at hl 1 rfl) ?_
  refine lv_icmp_eq (tgt := 2471) hx hb dL_law_2466 (by decide) (fun c937 => ?_) (fun c937 => ?_)
  · rw [if_pos c937] at hf
    refine lv_iload hx hb dL_law_2471 (lv_at hl 1 rfl) ?_
    refine lv_if_ne (tgt := 2487) hx hb dL_law_2473 (by decide) (fun c938 => ?_) (fun c938 => ?_)
    · rw [if_neg c938] at hf
      exact D2487_23 v0 v1 v2 v3 v4 σ934 o hf Kb Ke0 _ _ hJ ls (lv_sub hl [2, 3, 4, 5, 6] rfl)
    · rw [if_pos c938] at hf
      refine lv_aload_n hx hb dL_law_2476 rfl (lv_at hl 5 rfl) ?_
      refine lv_iconst (v := 0) hx hb dL_law_2477 (by decide) ?_
      obtain ⟨x939, e940, hf⟩ := mb0 hf
      refine mx_aL hx hb hK hJ e940 dL_law_2478 ?_
      refine lv_lload hx hb dL_law_2479 (lv_at hl 0 rfl) ?_
      refine W.lcmp hx hb dL_law_2481 ?_
      refine lv_if_eq (tgt := 2487) hx hb dL_law_2482 (by decide) (fun c941 => ?_) (fun c941 => ?_)
      · rw [if_pos c941] at hf
        exact D2487_23 v0 v1 v2 v3 v4 σ934 o hf Kb Ke0 _ _ hJ ls (lv_sub hl [2, 3, 4, 5, 6] rfl)
      · rw [if_neg c941] at hf
        cases hf
  · rw [if_neg c937] at hf
    cases hf
set_option maxHeartbeats 16000000 in
set_option maxRecDepth 100000 in
theorem lw_D2567_23 {p : Program} {e : Env} {s : State} {m : MethodId} {below : List Frame} {meth : Method} {c : Code} (l : Launch) (hlt : l.stackTraces = false) {b L : Nat} {xs : Nat → Int32} (C0 : lw_At p s m meth c b L xs) (G : mx_G) (P : mx_P) (σ : mx_S) (hK : mx_K G P s) (hJ : mx_J G P s.heap (mxz σ) (mxu σ) σ s.heap []) (hbE : mpb P = s.heap.size) (hRc : room_1.cells = mpc P - mxz σ) (hRs : room_1.slots = mps P - mxu σ) : ∀ (v0 : Nat) (v1 : Nat) (v2 : Nat) (v3 : Nat) (v4 : Int32) (τ : mx_S) (o : (Int32 × mx_S) ⊕ ((mx_S))), f_L_law_D2567_23 P L xs v0 v1 v2 v3 v4 τ = some o → (∀ (y4 : Int32) (υ : mx_S), o = .inl (y4, υ) → ∀ (H : Heap) (locs : List Loc), mx_J G P s.heap (mxz σ) (mxu σ) υ H locs → ∀ ls : Array Slot, lv_has ls 8 [(0, .ref b), (1, .ref v1), (2, .ref v2), (3, .ref v3), (4, .int y4)] → W p l e room_1 s m #[Value.ref b] below meth c H locs (mxz υ - mxz σ) (mxu υ - mxu σ) (lw_Z below #[Value.ref b] s) (F0 m 23 ls [])) → (∀  (υ : mx_S), o = .inr υ → ∀ (H : Heap) (locs : List Loc), mx_J G P s.heap (mxz σ) (mxu σ) υ H locs → ∀ ls : Array Slot, lv_has ls 8 [] → W p l e room_1 s m #[Value.ref b] below meth c H locs (mxz υ - mxz σ) (mxu υ - mxu σ) (lw_Z below #[Value.ref b] s) (F0 m 2916 ls [])) → ∀ (H : Heap) (locs : List Loc), mx_J G P s.heap (mxz σ) (mxu σ) τ H locs → ∀ ls : Array Slot, lv_has ls 8 [(0, .ref b), (1, .ref v1), (2, .ref v2), (3, .ref v3), (4, .int v4)] → W p l e room_1 s m #[Value.ref b] below meth c H locs (mxz τ - mxz σ) (mxu τ - mxu σ) (lw_Z below #[Value.ref b] s) (F0 m 2567 ls []) := by
  obtain ⟨hx, hb, hr, hml, hown, hts, hX, hbl, hlocks, hgv⟩ := id C0
  have hts : ∀ w ∈ mx_tbl, w.before #[Value.ref b] s = true := fun w hw => hts w (List.mem_filter.mp hw).1
  have hz0 := hJ.2.1
  have hbP : b < mpb P := by omega
  have hC : mpc P - mxz σ ≤ room_1.cells := Nat.le_of_eq hRc.symm
  have hS : mps P - mxu σ ≤ room_1.slots := Nat.le_of_eq hRs.symm
  have hown : s.vm.findClass RLn = some m.cls := hown
  have D2910_23 := @lw_D2910_23 p e s m below meth c l hlt b L xs C0 G P σ hK hJ hbE hRc hRs
  intro v0 v1 v2 v3 v4 τ o hf Kb Ke0 H locs hJ ls hl
  unfold f_L_law_D2567_23 at hf
  refine lv_goto (tgt := 2910) hx hb dL_law_2567 (by decide) ?_
  exact D2910_23 v0 v1 v2 v3 v4 τ o hf Kb Ke0 _ _ hJ ls (lv_sub hl [0, 1, 2, 3, 4] rfl)
set_option maxHeartbeats 16000000 in
set_option maxRecDepth 100000 in
theorem lw_D2490_23 {p : Program} {e : Env} {s : State} {m : MethodId} {below : List Frame} {meth : Method} {c : Code} (l : Launch) (hlt : l.stackTraces = false) {b L : Nat} {xs : Nat → Int32} (C0 : lw_At p s m meth c b L xs) (G : mx_G) (P : mx_P) (σ : mx_S) (hK : mx_K G P s) (hJ : mx_J G P s.heap (mxz σ) (mxu σ) σ s.heap []) (hbE : mpb P = s.heap.size) (hRc : room_1.cells = mpc P - mxz σ) (hRs : room_1.slots = mps P - mxu σ) : ∀ (v0 : Nat) (v1 : Nat) (v2 : Nat) (v3 : Nat) (v4 : Int32) (τ : mx_S) (o : (Int32 × mx_S) ⊕ ((mx_S))), f_L_law_D2490_23 P L xs v0 v1 v2 v3 v4 τ = some o → (∀ (y4 : Int32) (υ : mx_S), o = .inl (y4, υ) → ∀ (H : Heap) (locs : List Loc), mx_J G P s.heap (mxz σ) (mxu σ) υ H locs → ∀ ls : Array Slot, lv_has ls 8 [(0, .ref b), (1, .ref v1), (2, .ref v2), (3, .ref v3), (4, .int y4)] → W p l e room_1 s m #[Value.ref b] below meth c H locs (mxz υ - mxz σ) (mxu υ - mxu σ) (lw_Z below #[Value.ref b] s) (F0 m 23 ls [])) → (∀  (υ : mx_S), o = .inr υ → ∀ (H : Heap) (locs : List Loc), mx_J G P s.heap (mxz σ) (mxu σ) υ H locs → ∀ ls : Array Slot, lv_has ls 8 [] → W p l e room_1 s m #[Value.ref b] below meth c H locs (mxz υ - mxz σ) (mxu υ - mxu σ) (lw_Z below #[Value.ref b] s) (F0 m 2916 ls [])) → ∀ (H : Heap) (locs : List Loc), mx_J G P s.heap (mxz σ) (mxu σ) τ H locs → ∀ ls : Array Slot, lv_has ls 8 [(0, .ref b), (1, .ref v1), (2, .ref v2), (3, .ref v3), (4, .int v4)] → W p l e room_1 s m #[Value.ref b] below meth c H locs (mxz τ - mxz σ) (mxu τ - mxu σ) (lw_Z below #[Value.ref b] s) (F0 m 2490 ls []) := by
  obtain ⟨hx, hb, hr, hml, hown, hts, hX, hbl, hlocks, hgv⟩ := id C0
  have hts : ∀ w ∈ mx_tbl, w.before #[Value.ref b] s = true := fun w hw => hts w (List.mem_filter.mp hw).1
  have hz0 := hJ.2.1
  have hbP : b < mpb P := by omega
  have hC : mpc P - mxz σ ≤ room_1.cells := Nat.le_of_eq hRc.symm
  have hS : mps P - mxu σ ≤ room_1.slots := Nat.le_of_eq hRs.symm
  have hown : s.vm.findClass RLn = some m.cls := hown
  have D2567_23 := @lw_D2567_23 p e s m below meth c l hlt b L xs C0 G P σ hK hJ hbE hRc hRs
  intro v0 v1 v2 v3 v4 τ o hf Kb Ke0 H locs hJ ls hl
  unfold f_L_law_D2490_23 at hf
  refine lv_aload_n hx hb dL_law_2490 rfl (lv_at hl 1 rfl) ?_
  refine lv_aload_n hx hb dL_law_2491 rfl (lv_at hl 0 rfl) ?_
  refine lv_iload hx hb dL_law_2492 (lv_at hl 4 rfl) ?_
  refine lv_iconst (v := 1) hx hb dL_law_2494 (by decide) ?_
  refine lv_iadd hx hb dL_law_2495 ?_
  obtain ⟨x943, e944, hf⟩ := mb0 hf
  refine mx_sld hx hb hX hbl hbP hz0 hJ e944 dL_law_2496 ?_
  refine lv_aload_n hx hb dL_law_2497 rfl (lv_at hl 0 rfl) ?_
  refine lv_iload hx hb dL_law_2498 (lv_at hl 4 rfl) ?_
  refine lv_iconst (v := 2) hx hb dL_law_2500 (by decide) ?_
  refine lv_iadd hx hb dL_law_2501 ?_
  obtain ⟨x945, e946, hf⟩ := mb0 hf
  refine mx_sld hx hb hX hbl hbP hz0 hJ e946 dL_law_2502 ?_
  refine lv_aload_n hx hb dL_law_2503 rfl (lv_at hl 0 rfl) ?_
  refine lv_iload hx hb dL_law_2504 (lv_at hl 4 rfl) ?_
  refine lv_iconst (v := 3) hx hb dL_law_2506 (by decide) ?_
  refine lv_iadd hx hb dL_law_2507 ?_
  obtain ⟨x947, e948, hf⟩ := mb0 hf
  refine mx_sld hx hb hX hbl hbP hz0 hJ e948 dL_law_2508 ?_
  refine lv_aload_n hx hb dL_law_2509 rfl (lv_at hl 3 rfl) ?_
  obtain ⟨x950, σ949, e951, hf⟩ := mc0 hf
  refine mx_callSW (As := [.ref v1, .int x943, .int x945, .int x947, .ref v3]) (rest := []) hx hb hml hts hown hK hJ hRc hRs (c_L_inside l hlt G P v1 x943 x945 x947 v3 τ x950 σ949 e951) mw_L_inside kw_1707 kw_1706 (Nat.le_of_ble_eq_true rfl) (Nat.le_of_ble_eq_true rfl) rfl hl.1 rfl (Nat.le_of_ble_eq_true rfl) dL_law_2510 (fun H locs hJ => ?_)
  refine lv_istore (lv' := [(5, .int x950), (0, .ref b), (1, .ref v1), (2, .ref v2), (3, .ref v3), (4, .int v4)]) hx hb dL_law_2513 hl (by decide) rfl (fun ls hl => ?_)
  refine lv_aload_n hx hb dL_law_2515 rfl (lv_at hl 3 rfl) ?_
  refine lv_aload_n hx hb dL_law_2516 rfl (lv_at hl 1 rfl) ?_
  refine lv_iload hx hb dL_law_2517 (lv_at hl 5 rfl) ?_
  refine lv_iconst (v := 1) hx hb dL_law_2519 (by decide) ?_
  refine lv_iadd hx hb dL_law_2520 ?_
  obtain ⟨x952, e953, hf⟩ := mb0 hf
  refine mx_sld hx hb hX hbl hbP hz0 hJ e953 dL_law_2521 ?_
  refine lv_aload_n hx hb dL_law_2522 rfl (lv_at hl 1 rfl) ?_
  refine lv_iload hx hb dL_law_2523 (lv_at hl 5 rfl) ?_
  refine lv_iconst (v := 2) hx hb dL_law_2525 (by decide) ?_
  refine lv_iadd hx hb dL_law_2526 ?_
  obtain ⟨x954, e955, hf⟩ := mb0 hf
  refine mx_sld hx hb hX hbl hbP hz0 hJ e955 dL_law_2527 ?_
  refine lv_aload_n hx hb dL_law_2528 rfl (lv_at hl 1 rfl) ?_
  refine lv_iload hx hb dL_law_2529 (lv_at hl 5 rfl) ?_
  refine lv_iconst (v := 3) hx hb dL_law_2531 (by decide) ?_
  refine lv_iadd hx hb dL_law_2532 ?_
  obtain ⟨x956, e957, hf⟩ := mb0 hf
  refine mx_sld hx hb hX hbl hbP hz0 hJ e957 dL_law_2533 ?_
  obtain ⟨i958, e959, hf⟩ := mb0 hf
  obtain ⟨x961, σ960, e962, hf⟩ := mc0 hf
  refine mx_callV (As := [.int x952, .int x954, .int x956]) (rest := []) hx hb hml hts hown hK hJ hRc hRs (ci := 12) rfl e959 (c_X12_inside l G P v2 x952 x954 x956 σ949 x961 σ960 e962) me_X12_inside kw_2788 kw_2789 kw_2787 (Nat.le_of_ble_eq_true rfl) (Nat.le_of_ble_eq_true rfl) rfl hl.1 rfl (Nat.le_of_ble_eq_true rfl) dL_law_2534 (fun H locs hJ => ?_)
  refine lv_istore (lv' := [(6, .int x961), (5, .int x950), (0, .ref b), (1, .ref v1), (2, .ref v2), (3, .ref v3), (4, .int v4)]) hx hb dL_law_2537 hl (by decide) rfl (fun ls hl => ?_)
  refine lv_aload_n hx hb dL_law_2539 rfl (lv_at hl 4 rfl) ?_
  obtain ⟨i963, e964, hf⟩ := mb0 hf
  obtain ⟨x966, σ965, e967, hf⟩ := mc0 hf
  refine mx_callV (As := []) (rest := []) hx hb hml hts hown hK hJ hRc hRs (ci := 12) rfl e964 (c_X12_thrown l G P v2 σ960 x966 σ965 e967) me_X12_thrown kw_2207 kw_2208 kw_2206 (Nat.le_of_ble_eq_true rfl) (Nat.le_of_ble_eq_true rfl) rfl hl.1 rfl (Nat.le_of_ble_eq_true rfl) dL_law_2540 (fun H locs hJ => ?_)
  refine lv_iload hx hb dL_law_2543 (lv_at hl 1 rfl) ?_
  refine lv_icmp_eq (tgt := 2550) hx hb dL_law_2545 (by decide) (fun c968 => ?_) (fun c968 => ?_)
  · rw [if_pos c968] at hf
    refine lv_iload hx hb dL_law_2550 (lv_at hl 1 rfl) ?_
    refine lv_if_ne (tgt := 2567) hx hb dL_law_2552 (by decide) (fun c969 => ?_) (fun c969 => ?_)
    · rw [if_neg c969] at hf
      exact D2567_23 v0 v1 v2 v3 v4 σ965 o hf Kb Ke0 _ _ hJ ls (lv_sub hl [2, 3, 4, 5, 6] rfl)
    · rw [if_pos c969] at hf
      refine lv_aload_n hx hb dL_law_2555 rfl (lv_at hl 5 rfl) ?_
      refine lv_iconst (v := 0) hx hb dL_law_2556 (by decide) ?_
      obtain ⟨x970, e971, hf⟩ := mb0 hf
      refine mx_aL hx hb hK hJ e971 dL_law_2557 ?_
      refine lv_iload hx hb dL_law_2558 (lv_at hl 0 rfl) ?_
      refine lv_i2l hx hb dL_law_2560 rfl ?_
      refine W.lcmp hx hb dL_law_2561 ?_
      refine lv_if_eq (tgt := 2567) hx hb dL_law_2562 (by decide) (fun c972 => ?_) (fun c972 => ?_)
      · rw [if_pos c972] at hf
        exact D2567_23 v0 v1 v2 v3 v4 σ965 o hf Kb Ke0 _ _ hJ ls (lv_sub hl [2, 3, 4, 5, 6] rfl)
      · rw [if_neg c972] at hf
        cases hf
  · rw [if_neg c968] at hf
    cases hf
set_option maxHeartbeats 16000000 in
set_option maxRecDepth 100000 in
theorem lw_D2646_23 {p : Program} {e : Env} {s : State} {m : MethodId} {below : List Frame} {meth : Method} {c : Code} (l : Launch) (hlt : l.stackTraces = false) {b L : Nat} {xs : Nat → Int32} (C0 : lw_At p s m meth c b L xs) (G : mx_G) (P : mx_P) (σ : mx_S) (hK : mx_K G P s) (hJ : mx_J G P s.heap (mxz σ) (mxu σ) σ s.heap []) (hbE : mpb P = s.heap.size) (hRc : room_1.cells = mpc P - mxz σ) (hRs : room_1.slots = mps P - mxu σ) : ∀ (v0 : Nat) (v1 : Nat) (v2 : Nat) (v3 : Nat) (v4 : Int32) (τ : mx_S) (o : (Int32 × mx_S) ⊕ ((mx_S))), f_L_law_D2646_23 P L xs v0 v1 v2 v3 v4 τ = some o → (∀ (y4 : Int32) (υ : mx_S), o = .inl (y4, υ) → ∀ (H : Heap) (locs : List Loc), mx_J G P s.heap (mxz σ) (mxu σ) υ H locs → ∀ ls : Array Slot, lv_has ls 8 [(0, .ref b), (1, .ref v1), (2, .ref v2), (3, .ref v3), (4, .int y4)] → W p l e room_1 s m #[Value.ref b] below meth c H locs (mxz υ - mxz σ) (mxu υ - mxu σ) (lw_Z below #[Value.ref b] s) (F0 m 23 ls [])) → (∀  (υ : mx_S), o = .inr υ → ∀ (H : Heap) (locs : List Loc), mx_J G P s.heap (mxz σ) (mxu σ) υ H locs → ∀ ls : Array Slot, lv_has ls 8 [] → W p l e room_1 s m #[Value.ref b] below meth c H locs (mxz υ - mxz σ) (mxu υ - mxu σ) (lw_Z below #[Value.ref b] s) (F0 m 2916 ls [])) → ∀ (H : Heap) (locs : List Loc), mx_J G P s.heap (mxz σ) (mxu σ) τ H locs → ∀ ls : Array Slot, lv_has ls 8 [(0, .ref b), (1, .ref v1), (2, .ref v2), (3, .ref v3), (4, .int v4)] → W p l e room_1 s m #[Value.ref b] below meth c H locs (mxz τ - mxz σ) (mxu τ - mxu σ) (lw_Z below #[Value.ref b] s) (F0 m 2646 ls []) := by
  obtain ⟨hx, hb, hr, hml, hown, hts, hX, hbl, hlocks, hgv⟩ := id C0
  have hts : ∀ w ∈ mx_tbl, w.before #[Value.ref b] s = true := fun w hw => hts w (List.mem_filter.mp hw).1
  have hz0 := hJ.2.1
  have hbP : b < mpb P := by omega
  have hC : mpc P - mxz σ ≤ room_1.cells := Nat.le_of_eq hRc.symm
  have hS : mps P - mxu σ ≤ room_1.slots := Nat.le_of_eq hRs.symm
  have hown : s.vm.findClass RLn = some m.cls := hown
  have D2910_23 := @lw_D2910_23 p e s m below meth c l hlt b L xs C0 G P σ hK hJ hbE hRc hRs
  intro v0 v1 v2 v3 v4 τ o hf Kb Ke0 H locs hJ ls hl
  unfold f_L_law_D2646_23 at hf
  refine lv_goto (tgt := 2910) hx hb dL_law_2646 (by decide) ?_
  exact D2910_23 v0 v1 v2 v3 v4 τ o hf Kb Ke0 _ _ hJ ls (lv_sub hl [0, 1, 2, 3, 4] rfl)
set_option maxHeartbeats 16000000 in
set_option maxRecDepth 100000 in
theorem lw_D2570_23 {p : Program} {e : Env} {s : State} {m : MethodId} {below : List Frame} {meth : Method} {c : Code} (l : Launch) (hlt : l.stackTraces = false) {b L : Nat} {xs : Nat → Int32} (C0 : lw_At p s m meth c b L xs) (G : mx_G) (P : mx_P) (σ : mx_S) (hK : mx_K G P s) (hJ : mx_J G P s.heap (mxz σ) (mxu σ) σ s.heap []) (hbE : mpb P = s.heap.size) (hRc : room_1.cells = mpc P - mxz σ) (hRs : room_1.slots = mps P - mxu σ) : ∀ (v0 : Nat) (v1 : Nat) (v2 : Nat) (v3 : Nat) (v4 : Int32) (τ : mx_S) (o : (Int32 × mx_S) ⊕ ((mx_S))), f_L_law_D2570_23 P L xs v0 v1 v2 v3 v4 τ = some o → (∀ (y4 : Int32) (υ : mx_S), o = .inl (y4, υ) → ∀ (H : Heap) (locs : List Loc), mx_J G P s.heap (mxz σ) (mxu σ) υ H locs → ∀ ls : Array Slot, lv_has ls 8 [(0, .ref b), (1, .ref v1), (2, .ref v2), (3, .ref v3), (4, .int y4)] → W p l e room_1 s m #[Value.ref b] below meth c H locs (mxz υ - mxz σ) (mxu υ - mxu σ) (lw_Z below #[Value.ref b] s) (F0 m 23 ls [])) → (∀  (υ : mx_S), o = .inr υ → ∀ (H : Heap) (locs : List Loc), mx_J G P s.heap (mxz σ) (mxu σ) υ H locs → ∀ ls : Array Slot, lv_has ls 8 [] → W p l e room_1 s m #[Value.ref b] below meth c H locs (mxz υ - mxz σ) (mxu υ - mxu σ) (lw_Z below #[Value.ref b] s) (F0 m 2916 ls [])) → ∀ (H : Heap) (locs : List Loc), mx_J G P s.heap (mxz σ) (mxu σ) τ H locs → ∀ ls : Array Slot, lv_has ls 8 [(0, .ref b), (1, .ref v1), (2, .ref v2), (3, .ref v3), (4, .int v4)] → W p l e room_1 s m #[Value.ref b] below meth c H locs (mxz τ - mxz σ) (mxu τ - mxu σ) (lw_Z below #[Value.ref b] s) (F0 m 2570 ls []) := by
  obtain ⟨hx, hb, hr, hml, hown, hts, hX, hbl, hlocks, hgv⟩ := id C0
  have hts : ∀ w ∈ mx_tbl, w.before #[Value.ref b] s = true := fun w hw => hts w (List.mem_filter.mp hw).1
  have hz0 := hJ.2.1
  have hbP : b < mpb P := by omega
  have hC : mpc P - mxz σ ≤ room_1.cells := Nat.le_of_eq hRc.symm
  have hS : mps P - mxu σ ≤ room_1.slots := Nat.le_of_eq hRs.symm
  have hown : s.vm.findClass RLn = some m.cls := hown
  have D2646_23 := @lw_D2646_23 p e s m below meth c l hlt b L xs C0 G P σ hK hJ hbE hRc hRs
  intro v0 v1 v2 v3 v4 τ o hf Kb Ke0 H locs hJ ls hl
  unfold f_L_law_D2570_23 at hf
  refine lv_aload_n hx hb dL_law_2570 rfl (lv_at hl 1 rfl) ?_
  refine lv_aload_n hx hb dL_law_2571 rfl (lv_at hl 0 rfl) ?_
  refine lv_iload hx hb dL_law_2572 (lv_at hl 4 rfl) ?_
  refine lv_iconst (v := 1) hx hb dL_law_2574 (by decide) ?_
  refine lv_iadd hx hb dL_law_2575 ?_
  obtain ⟨x974, e975, hf⟩ := mb0 hf
  refine mx_sld hx hb hX hbl hbP hz0 hJ e975 dL_law_2576 ?_
  refine lv_aload_n hx hb dL_law_2577 rfl (lv_at hl 0 rfl) ?_
  refine lv_iload hx hb dL_law_2578 (lv_at hl 4 rfl) ?_
  refine lv_iconst (v := 2) hx hb dL_law_2580 (by decide) ?_
  refine lv_iadd hx hb dL_law_2581 ?_
  obtain ⟨x976, e977, hf⟩ := mb0 hf
  refine mx_sld hx hb hX hbl hbP hz0 hJ e977 dL_law_2582 ?_
  refine lv_aload_n hx hb dL_law_2583 rfl (lv_at hl 0 rfl) ?_
  refine lv_iload hx hb dL_law_2584 (lv_at hl 4 rfl) ?_
  refine lv_iconst (v := 3) hx hb dL_law_2586 (by decide) ?_
  refine lv_iadd hx hb dL_law_2587 ?_
  obtain ⟨x978, e979, hf⟩ := mb0 hf
  refine mx_sld hx hb hX hbl hbP hz0 hJ e979 dL_law_2588 ?_
  refine lv_aload_n hx hb dL_law_2589 rfl (lv_at hl 3 rfl) ?_
  obtain ⟨x981, σ980, e982, hf⟩ := mc0 hf
  refine mx_callSW (As := [.ref v1, .int x974, .int x976, .int x978, .ref v3]) (rest := []) hx hb hml hts hown hK hJ hRc hRs (c_L_distance l hlt G P v1 x974 x976 x978 v3 τ x981 σ980 e982) mw_L_distance kw_1718 kw_1717 (Nat.le_of_ble_eq_true rfl) (Nat.le_of_ble_eq_true rfl) rfl hl.1 rfl (Nat.le_of_ble_eq_true rfl) dL_law_2590 (fun H locs hJ => ?_)
  refine lv_istore (lv' := [(5, .int x981), (0, .ref b), (1, .ref v1), (2, .ref v2), (3, .ref v3), (4, .int v4)]) hx hb dL_law_2593 hl (by decide) rfl (fun ls hl => ?_)
  refine lv_aload_n hx hb dL_law_2595 rfl (lv_at hl 3 rfl) ?_
  refine lv_aload_n hx hb dL_law_2596 rfl (lv_at hl 1 rfl) ?_
  refine lv_iload hx hb dL_law_2597 (lv_at hl 5 rfl) ?_
  refine lv_iconst (v := 1) hx hb dL_law_2599 (by decide) ?_
  refine lv_iadd hx hb dL_law_2600 ?_
  obtain ⟨x983, e984, hf⟩ := mb0 hf
  refine mx_sld hx hb hX hbl hbP hz0 hJ e984 dL_law_2601 ?_
  refine lv_aload_n hx hb dL_law_2602 rfl (lv_at hl 1 rfl) ?_
  refine lv_iload hx hb dL_law_2603 (lv_at hl 5 rfl) ?_
  refine lv_iconst (v := 2) hx hb dL_law_2605 (by decide) ?_
  refine lv_iadd hx hb dL_law_2606 ?_
  obtain ⟨x985, e986, hf⟩ := mb0 hf
  refine mx_sld hx hb hX hbl hbP hz0 hJ e986 dL_law_2607 ?_
  refine lv_aload_n hx hb dL_law_2608 rfl (lv_at hl 1 rfl) ?_
  refine lv_iload hx hb dL_law_2609 (lv_at hl 5 rfl) ?_
  refine lv_iconst (v := 3) hx hb dL_law_2611 (by decide) ?_
  refine lv_iadd hx hb dL_law_2612 ?_
  obtain ⟨x987, e988, hf⟩ := mb0 hf
  refine mx_sld hx hb hX hbl hbP hz0 hJ e988 dL_law_2613 ?_
  obtain ⟨i989, e990, hf⟩ := mb0 hf
  obtain ⟨x992, σ991, e993, hf⟩ := mc0 hf
  refine mx_callV (As := [.int x983, .int x985, .int x987]) (rest := []) hx hb hml hts hown hK hJ hRc hRs (ci := 12) rfl e990 (c_X12_distance l G P v2 x983 x985 x987 σ980 x992 σ991 e993) me_X12_distance kw_2796 kw_2797 kw_2795 (Nat.le_of_ble_eq_true rfl) (Nat.le_of_ble_eq_true rfl) rfl hl.1 rfl (Nat.le_of_ble_eq_true rfl) dL_law_2614 (fun H locs hJ => ?_)
  refine lv_lstore (lv' := [(6, .long x992), (5, .int x981), (0, .ref b), (1, .ref v1), (2, .ref v2), (3, .ref v3), (4, .int v4)]) hx hb dL_law_2617 hl (by decide) rfl (fun ls hl => ?_)
  refine lv_aload_n hx hb dL_law_2619 rfl (lv_at hl 4 rfl) ?_
  obtain ⟨i994, e995, hf⟩ := mb0 hf
  obtain ⟨x997, σ996, e998, hf⟩ := mc0 hf
  refine mx_callV (As := []) (rest := []) hx hb hml hts hown hK hJ hRc hRs (ci := 12) rfl e995 (c_X12_thrown l G P v2 σ991 x997 σ996 e998) me_X12_thrown kw_2207 kw_2208 kw_2206 (Nat.le_of_ble_eq_true rfl) (Nat.le_of_ble_eq_true rfl) rfl hl.1 rfl (Nat.le_of_ble_eq_true rfl) dL_law_2620 (fun H locs hJ => ?_)
  refine lv_iload hx hb dL_law_2623 (lv_at hl 1 rfl) ?_
  refine lv_icmp_eq (tgt := 2630) hx hb dL_law_2625 (by decide) (fun c999 => ?_) (fun c999 => ?_)
  · rw [if_pos c999] at hf
    refine lv_iload hx hb dL_law_2630 (lv_at hl 1 rfl) ?_
    refine lv_if_ne (tgt := 2646) hx hb dL_law_2632 (by decide) (fun c1000 => ?_) (fun c1000 => ?_)
    · rw [if_neg c1000] at hf
      exact D2646_23 v0 v1 v2 v3 v4 σ996 o hf Kb Ke0 _ _ hJ ls (lv_sub hl [2, 3, 4, 5, 6] rfl)
    · rw [if_pos c1000] at hf
      refine lv_aload_n hx hb dL_law_2635 rfl (lv_at hl 5 rfl) ?_
      refine lv_iconst (v := 0) hx hb dL_law_2636 (by decide) ?_
      obtain ⟨x1001, e1002, hf⟩ := mb0 hf
      refine mx_aL hx hb hK hJ e1002 dL_law_2637 ?_
      refine lv_lload hx hb dL_law_2638 (lv_at hl 0 rfl) ?_
      refine W.lcmp hx hb dL_law_2640 ?_
      refine lv_if_eq (tgt := 2646) hx hb dL_law_2641 (by decide) (fun c1003 => ?_) (fun c1003 => ?_)
      · rw [if_pos c1003] at hf
        exact D2646_23 v0 v1 v2 v3 v4 σ996 o hf Kb Ke0 _ _ hJ ls (lv_sub hl [2, 3, 4, 5, 6] rfl)
      · rw [if_neg c1003] at hf
        cases hf
  · rw [if_neg c999] at hf
    cases hf
set_option maxHeartbeats 16000000 in
set_option maxRecDepth 100000 in
theorem lw_D2714_23 {p : Program} {e : Env} {s : State} {m : MethodId} {below : List Frame} {meth : Method} {c : Code} (l : Launch) (hlt : l.stackTraces = false) {b L : Nat} {xs : Nat → Int32} (C0 : lw_At p s m meth c b L xs) (G : mx_G) (P : mx_P) (σ : mx_S) (hK : mx_K G P s) (hJ : mx_J G P s.heap (mxz σ) (mxu σ) σ s.heap []) (hbE : mpb P = s.heap.size) (hRc : room_1.cells = mpc P - mxz σ) (hRs : room_1.slots = mps P - mxu σ) : ∀ (v0 : Nat) (v1 : Nat) (v2 : Nat) (v3 : Nat) (v4 : Int32) (τ : mx_S) (o : (Int32 × mx_S) ⊕ ((mx_S))), f_L_law_D2714_23 P L xs v0 v1 v2 v3 v4 τ = some o → (∀ (y4 : Int32) (υ : mx_S), o = .inl (y4, υ) → ∀ (H : Heap) (locs : List Loc), mx_J G P s.heap (mxz σ) (mxu σ) υ H locs → ∀ ls : Array Slot, lv_has ls 8 [(0, .ref b), (1, .ref v1), (2, .ref v2), (3, .ref v3), (4, .int y4)] → W p l e room_1 s m #[Value.ref b] below meth c H locs (mxz υ - mxz σ) (mxu υ - mxu σ) (lw_Z below #[Value.ref b] s) (F0 m 23 ls [])) → (∀  (υ : mx_S), o = .inr υ → ∀ (H : Heap) (locs : List Loc), mx_J G P s.heap (mxz σ) (mxu σ) υ H locs → ∀ ls : Array Slot, lv_has ls 8 [] → W p l e room_1 s m #[Value.ref b] below meth c H locs (mxz υ - mxz σ) (mxu υ - mxu σ) (lw_Z below #[Value.ref b] s) (F0 m 2916 ls [])) → ∀ (H : Heap) (locs : List Loc), mx_J G P s.heap (mxz σ) (mxu σ) τ H locs → ∀ ls : Array Slot, lv_has ls 8 [(0, .ref b), (1, .ref v1), (2, .ref v2), (3, .ref v3), (4, .int v4)] → W p l e room_1 s m #[Value.ref b] below meth c H locs (mxz τ - mxz σ) (mxu τ - mxu σ) (lw_Z below #[Value.ref b] s) (F0 m 2714 ls []) := by
  obtain ⟨hx, hb, hr, hml, hown, hts, hX, hbl, hlocks, hgv⟩ := id C0
  have hts : ∀ w ∈ mx_tbl, w.before #[Value.ref b] s = true := fun w hw => hts w (List.mem_filter.mp hw).1
  have hz0 := hJ.2.1
  have hbP : b < mpb P := by omega
  have hC : mpc P - mxz σ ≤ room_1.cells := Nat.le_of_eq hRc.symm
  have hS : mps P - mxu σ ≤ room_1.slots := Nat.le_of_eq hRs.symm
  have hown : s.vm.findClass RLn = some m.cls := hown
  have D2910_23 := @lw_D2910_23 p e s m below meth c l hlt b L xs C0 G P σ hK hJ hbE hRc hRs
  intro v0 v1 v2 v3 v4 τ o hf Kb Ke0 H locs hJ ls hl
  unfold f_L_law_D2714_23 at hf
  refine lv_goto (tgt := 2910) hx hb dL_law_2714 (by decide) ?_
  exact D2910_23 v0 v1 v2 v3 v4 τ o hf Kb Ke0 _ _ hJ ls (lv_sub hl [0, 1, 2, 3, 4] rfl)
set_option maxHeartbeats 16000000 in
set_option maxRecDepth 100000 in
theorem lw_D2649_23 {p : Program} {e : Env} {s : State} {m : MethodId} {below : List Frame} {meth : Method} {c : Code} (l : Launch) (hlt : l.stackTraces = false) {b L : Nat} {xs : Nat → Int32} (C0 : lw_At p s m meth c b L xs) (G : mx_G) (P : mx_P) (σ : mx_S) (hK : mx_K G P s) (hJ : mx_J G P s.heap (mxz σ) (mxu σ) σ s.heap []) (hbE : mpb P = s.heap.size) (hRc : room_1.cells = mpc P - mxz σ) (hRs : room_1.slots = mps P - mxu σ) : ∀ (v0 : Nat) (v1 : Nat) (v2 : Nat) (v3 : Nat) (v4 : Int32) (τ : mx_S) (o : (Int32 × mx_S) ⊕ ((mx_S))), f_L_law_D2649_23 P L xs v0 v1 v2 v3 v4 τ = some o → (∀ (y4 : Int32) (υ : mx_S), o = .inl (y4, υ) → ∀ (H : Heap) (locs : List Loc), mx_J G P s.heap (mxz σ) (mxu σ) υ H locs → ∀ ls : Array Slot, lv_has ls 8 [(0, .ref b), (1, .ref v1), (2, .ref v2), (3, .ref v3), (4, .int y4)] → W p l e room_1 s m #[Value.ref b] below meth c H locs (mxz υ - mxz σ) (mxu υ - mxu σ) (lw_Z below #[Value.ref b] s) (F0 m 23 ls [])) → (∀  (υ : mx_S), o = .inr υ → ∀ (H : Heap) (locs : List Loc), mx_J G P s.heap (mxz σ) (mxu σ) υ H locs → ∀ ls : Array Slot, lv_has ls 8 [] → W p l e room_1 s m #[Value.ref b] below meth c H locs (mxz υ - mxz σ) (mxu υ - mxu σ) (lw_Z below #[Value.ref b] s) (F0 m 2916 ls [])) → ∀ (H : Heap) (locs : List Loc), mx_J G P s.heap (mxz σ) (mxu σ) τ H locs → ∀ ls : Array Slot, lv_has ls 8 [(0, .ref b), (1, .ref v1), (2, .ref v2), (3, .ref v3), (4, .int v4)] → W p l e room_1 s m #[Value.ref b] below meth c H locs (mxz τ - mxz σ) (mxu τ - mxu σ) (lw_Z below #[Value.ref b] s) (F0 m 2649 ls []) := by
  obtain ⟨hx, hb, hr, hml, hown, hts, hX, hbl, hlocks, hgv⟩ := id C0
  have hts : ∀ w ∈ mx_tbl, w.before #[Value.ref b] s = true := fun w hw => hts w (List.mem_filter.mp hw).1
  have hz0 := hJ.2.1
  have hbP : b < mpb P := by omega
  have hC : mpc P - mxz σ ≤ room_1.cells := Nat.le_of_eq hRc.symm
  have hS : mps P - mxu σ ≤ room_1.slots := Nat.le_of_eq hRs.symm
  have hown : s.vm.findClass RLn = some m.cls := hown
  have D2714_23 := @lw_D2714_23 p e s m below meth c l hlt b L xs C0 G P σ hK hJ hbE hRc hRs
  intro v0 v1 v2 v3 v4 τ o hf Kb Ke0 H locs hJ ls hl
  unfold f_L_law_D2649_23 at hf
  refine lv_aload_n hx hb dL_law_2649 rfl (lv_at hl 1 rfl) ?_
  refine lv_aload_n hx hb dL_law_2650 rfl (lv_at hl 0 rfl) ?_
  refine lv_iload hx hb dL_law_2651 (lv_at hl 4 rfl) ?_
  refine lv_iconst (v := 1) hx hb dL_law_2653 (by decide) ?_
  refine lv_iadd hx hb dL_law_2654 ?_
  obtain ⟨x1005, e1006, hf⟩ := mb0 hf
  refine mx_sld hx hb hX hbl hbP hz0 hJ e1006 dL_law_2655 ?_
  refine lv_aload_n hx hb dL_law_2656 rfl (lv_at hl 0 rfl) ?_
  refine lv_iload hx hb dL_law_2657 (lv_at hl 4 rfl) ?_
  refine lv_iconst (v := 2) hx hb dL_law_2659 (by decide) ?_
  refine lv_iadd hx hb dL_law_2660 ?_
  obtain ⟨x1007, e1008, hf⟩ := mb0 hf
  refine mx_sld hx hb hX hbl hbP hz0 hJ e1008 dL_law_2661 ?_
  refine lv_aload_n hx hb dL_law_2662 rfl (lv_at hl 3 rfl) ?_
  obtain ⟨x1010, σ1009, e1011, hf⟩ := mc0 hf
  refine mx_callSW (As := [.ref v1, .int x1005, .int x1007, .ref v3]) (rest := []) hx hb hml hts hown hK hJ hRc hRs (c_L_kinds l hlt G P v1 x1005 x1007 v3 τ x1010 σ1009 e1011) mw_L_kinds kw_1742 kw_1741 (Nat.le_of_ble_eq_true rfl) (Nat.le_of_ble_eq_true rfl) rfl hl.1 rfl (Nat.le_of_ble_eq_true rfl) dL_law_2663 (fun H locs hJ => ?_)
  refine lv_istore (lv' := [(5, .int x1010), (0, .ref b), (1, .ref v1), (2, .ref v2), (3, .ref v3), (4, .int v4)]) hx hb dL_law_2666 hl (by decide) rfl (fun ls hl => ?_)
  refine lv_aload_n hx hb dL_law_2668 rfl (lv_at hl 3 rfl) ?_
  refine lv_aload_n hx hb dL_law_2669 rfl (lv_at hl 1 rfl) ?_
  refine lv_iload hx hb dL_law_2670 (lv_at hl 5 rfl) ?_
  refine lv_iconst (v := 1) hx hb dL_law_2672 (by decide) ?_
  refine lv_iadd hx hb dL_law_2673 ?_
  obtain ⟨x1012, e1013, hf⟩ := mb0 hf
  refine mx_sld hx hb hX hbl hbP hz0 hJ e1013 dL_law_2674 ?_
  refine lv_aload_n hx hb dL_law_2675 rfl (lv_at hl 1 rfl) ?_
  refine lv_iload hx hb dL_law_2676 (lv_at hl 5 rfl) ?_
  refine lv_iconst (v := 2) hx hb dL_law_2678 (by decide) ?_
  refine lv_iadd hx hb dL_law_2679 ?_
  obtain ⟨x1014, e1015, hf⟩ := mb0 hf
  refine mx_sld hx hb hX hbl hbP hz0 hJ e1015 dL_law_2680 ?_
  obtain ⟨i1016, e1017, hf⟩ := mb0 hf
  obtain ⟨x1019, σ1018, e1020, hf⟩ := mc0 hf
  refine mx_callV (As := [.int x1012, .int x1014]) (rest := []) hx hb hml hts hown hK hJ hRc hRs (ci := 12) rfl e1017 (c_X12_kinds l G P v2 x1012 x1014 σ1009 x1019 σ1018 e1020) me_X12_kinds kw_2812 kw_2813 kw_2811 (Nat.le_of_ble_eq_true rfl) (Nat.le_of_ble_eq_true rfl) rfl hl.1 rfl (Nat.le_of_ble_eq_true rfl) dL_law_2681 (fun H locs hJ => ?_)
  refine lv_istore (lv' := [(6, .int x1019), (5, .int x1010), (0, .ref b), (1, .ref v1), (2, .ref v2), (3, .ref v3), (4, .int v4)]) hx hb dL_law_2684 hl (by decide) rfl (fun ls hl => ?_)
  refine lv_aload_n hx hb dL_law_2686 rfl (lv_at hl 4 rfl) ?_
  obtain ⟨i1021, e1022, hf⟩ := mb0 hf
  obtain ⟨x1024, σ1023, e1025, hf⟩ := mc0 hf
  refine mx_callV (As := []) (rest := []) hx hb hml hts hown hK hJ hRc hRs (ci := 12) rfl e1022 (c_X12_thrown l G P v2 σ1018 x1024 σ1023 e1025) me_X12_thrown kw_2207 kw_2208 kw_2206 (Nat.le_of_ble_eq_true rfl) (Nat.le_of_ble_eq_true rfl) rfl hl.1 rfl (Nat.le_of_ble_eq_true rfl) dL_law_2687 (fun H locs hJ => ?_)
  refine lv_iload hx hb dL_law_2690 (lv_at hl 1 rfl) ?_
  refine lv_icmp_eq (tgt := 2697) hx hb dL_law_2692 (by decide) (fun c1026 => ?_) (fun c1026 => ?_)
  · rw [if_pos c1026] at hf
    refine lv_iload hx hb dL_law_2697 (lv_at hl 1 rfl) ?_
    refine lv_if_ne (tgt := 2714) hx hb dL_law_2699 (by decide) (fun c1027 => ?_) (fun c1027 => ?_)
    · rw [if_neg c1027] at hf
      exact D2714_23 v0 v1 v2 v3 v4 σ1023 o hf Kb Ke0 _ _ hJ ls (lv_sub hl [2, 3, 4, 5, 6] rfl)
    · rw [if_pos c1027] at hf
      refine lv_aload_n hx hb dL_law_2702 rfl (lv_at hl 5 rfl) ?_
      refine lv_iconst (v := 0) hx hb dL_law_2703 (by decide) ?_
      obtain ⟨x1028, e1029, hf⟩ := mb0 hf
      refine mx_aL hx hb hK hJ e1029 dL_law_2704 ?_
      refine lv_iload hx hb dL_law_2705 (lv_at hl 0 rfl) ?_
      refine lv_i2l hx hb dL_law_2707 rfl ?_
      refine W.lcmp hx hb dL_law_2708 ?_
      refine lv_if_eq (tgt := 2714) hx hb dL_law_2709 (by decide) (fun c1030 => ?_) (fun c1030 => ?_)
      · rw [if_pos c1030] at hf
        exact D2714_23 v0 v1 v2 v3 v4 σ1023 o hf Kb Ke0 _ _ hJ ls (lv_sub hl [2, 3, 4, 5, 6] rfl)
      · rw [if_neg c1030] at hf
        cases hf
  · rw [if_neg c1026] at hf
    cases hf
set_option maxHeartbeats 16000000 in
set_option maxRecDepth 100000 in
theorem lw_D2770_23 {p : Program} {e : Env} {s : State} {m : MethodId} {below : List Frame} {meth : Method} {c : Code} (l : Launch) (hlt : l.stackTraces = false) {b L : Nat} {xs : Nat → Int32} (C0 : lw_At p s m meth c b L xs) (G : mx_G) (P : mx_P) (σ : mx_S) (hK : mx_K G P s) (hJ : mx_J G P s.heap (mxz σ) (mxu σ) σ s.heap []) (hbE : mpb P = s.heap.size) (hRc : room_1.cells = mpc P - mxz σ) (hRs : room_1.slots = mps P - mxu σ) : ∀ (v0 : Nat) (v1 : Nat) (v2 : Nat) (v3 : Nat) (v4 : Int32) (τ : mx_S) (o : (Int32 × mx_S) ⊕ ((mx_S))), f_L_law_D2770_23 P L xs v0 v1 v2 v3 v4 τ = some o → (∀ (y4 : Int32) (υ : mx_S), o = .inl (y4, υ) → ∀ (H : Heap) (locs : List Loc), mx_J G P s.heap (mxz σ) (mxu σ) υ H locs → ∀ ls : Array Slot, lv_has ls 8 [(0, .ref b), (1, .ref v1), (2, .ref v2), (3, .ref v3), (4, .int y4)] → W p l e room_1 s m #[Value.ref b] below meth c H locs (mxz υ - mxz σ) (mxu υ - mxu σ) (lw_Z below #[Value.ref b] s) (F0 m 23 ls [])) → (∀  (υ : mx_S), o = .inr υ → ∀ (H : Heap) (locs : List Loc), mx_J G P s.heap (mxz σ) (mxu σ) υ H locs → ∀ ls : Array Slot, lv_has ls 8 [] → W p l e room_1 s m #[Value.ref b] below meth c H locs (mxz υ - mxz σ) (mxu υ - mxu σ) (lw_Z below #[Value.ref b] s) (F0 m 2916 ls [])) → ∀ (H : Heap) (locs : List Loc), mx_J G P s.heap (mxz σ) (mxu σ) τ H locs → ∀ ls : Array Slot, lv_has ls 8 [(0, .ref b), (1, .ref v1), (2, .ref v2), (3, .ref v3), (4, .int v4)] → W p l e room_1 s m #[Value.ref b] below meth c H locs (mxz τ - mxz σ) (mxu τ - mxu σ) (lw_Z below #[Value.ref b] s) (F0 m 2770 ls []) := by
  obtain ⟨hx, hb, hr, hml, hown, hts, hX, hbl, hlocks, hgv⟩ := id C0
  have hts : ∀ w ∈ mx_tbl, w.before #[Value.ref b] s = true := fun w hw => hts w (List.mem_filter.mp hw).1
  have hz0 := hJ.2.1
  have hbP : b < mpb P := by omega
  have hC : mpc P - mxz σ ≤ room_1.cells := Nat.le_of_eq hRc.symm
  have hS : mps P - mxu σ ≤ room_1.slots := Nat.le_of_eq hRs.symm
  have hown : s.vm.findClass RLn = some m.cls := hown
  have D2910_23 := @lw_D2910_23 p e s m below meth c l hlt b L xs C0 G P σ hK hJ hbE hRc hRs
  intro v0 v1 v2 v3 v4 τ o hf Kb Ke0 H locs hJ ls hl
  unfold f_L_law_D2770_23 at hf
  refine lv_goto (tgt := 2910) hx hb dL_law_2770 (by decide) ?_
  exact D2910_23 v0 v1 v2 v3 v4 τ o hf Kb Ke0 _ _ hJ ls (lv_sub hl [0, 1, 2, 3, 4] rfl)
set_option maxHeartbeats 16000000 in
set_option maxRecDepth 100000 in
theorem lw_D2717_23 {p : Program} {e : Env} {s : State} {m : MethodId} {below : List Frame} {meth : Method} {c : Code} (l : Launch) (hlt : l.stackTraces = false) {b L : Nat} {xs : Nat → Int32} (C0 : lw_At p s m meth c b L xs) (G : mx_G) (P : mx_P) (σ : mx_S) (hK : mx_K G P s) (hJ : mx_J G P s.heap (mxz σ) (mxu σ) σ s.heap []) (hbE : mpb P = s.heap.size) (hRc : room_1.cells = mpc P - mxz σ) (hRs : room_1.slots = mps P - mxu σ) : ∀ (v0 : Nat) (v1 : Nat) (v2 : Nat) (v3 : Nat) (v4 : Int32) (τ : mx_S) (o : (Int32 × mx_S) ⊕ ((mx_S))), f_L_law_D2717_23 P L xs v0 v1 v2 v3 v4 τ = some o → (∀ (y4 : Int32) (υ : mx_S), o = .inl (y4, υ) → ∀ (H : Heap) (locs : List Loc), mx_J G P s.heap (mxz σ) (mxu σ) υ H locs → ∀ ls : Array Slot, lv_has ls 8 [(0, .ref b), (1, .ref v1), (2, .ref v2), (3, .ref v3), (4, .int y4)] → W p l e room_1 s m #[Value.ref b] below meth c H locs (mxz υ - mxz σ) (mxu υ - mxu σ) (lw_Z below #[Value.ref b] s) (F0 m 23 ls [])) → (∀  (υ : mx_S), o = .inr υ → ∀ (H : Heap) (locs : List Loc), mx_J G P s.heap (mxz σ) (mxu σ) υ H locs → ∀ ls : Array Slot, lv_has ls 8 [] → W p l e room_1 s m #[Value.ref b] below meth c H locs (mxz υ - mxz σ) (mxu υ - mxu σ) (lw_Z below #[Value.ref b] s) (F0 m 2916 ls [])) → ∀ (H : Heap) (locs : List Loc), mx_J G P s.heap (mxz σ) (mxu σ) τ H locs → ∀ ls : Array Slot, lv_has ls 8 [(0, .ref b), (1, .ref v1), (2, .ref v2), (3, .ref v3), (4, .int v4)] → W p l e room_1 s m #[Value.ref b] below meth c H locs (mxz τ - mxz σ) (mxu τ - mxu σ) (lw_Z below #[Value.ref b] s) (F0 m 2717 ls []) := by
  obtain ⟨hx, hb, hr, hml, hown, hts, hX, hbl, hlocks, hgv⟩ := id C0
  have hts : ∀ w ∈ mx_tbl, w.before #[Value.ref b] s = true := fun w hw => hts w (List.mem_filter.mp hw).1
  have hz0 := hJ.2.1
  have hbP : b < mpb P := by omega
  have hC : mpc P - mxz σ ≤ room_1.cells := Nat.le_of_eq hRc.symm
  have hS : mps P - mxu σ ≤ room_1.slots := Nat.le_of_eq hRs.symm
  have hown : s.vm.findClass RLn = some m.cls := hown
  have D2770_23 := @lw_D2770_23 p e s m below meth c l hlt b L xs C0 G P σ hK hJ hbE hRc hRs
  intro v0 v1 v2 v3 v4 τ o hf Kb Ke0 H locs hJ ls hl
  unfold f_L_law_D2717_23 at hf
  refine lv_aload_n hx hb dL_law_2717 rfl (lv_at hl 1 rfl) ?_
  refine lv_aload_n hx hb dL_law_2718 rfl (lv_at hl 0 rfl) ?_
  refine lv_iload hx hb dL_law_2719 (lv_at hl 4 rfl) ?_
  refine lv_iconst (v := 1) hx hb dL_law_2721 (by decide) ?_
  refine lv_iadd hx hb dL_law_2722 ?_
  obtain ⟨x1032, e1033, hf⟩ := mb0 hf
  refine mx_sld hx hb hX hbl hbP hz0 hJ e1033 dL_law_2723 ?_
  refine lv_aload_n hx hb dL_law_2724 rfl (lv_at hl 3 rfl) ?_
  obtain ⟨x1035, σ1034, e1036, hf⟩ := mc0 hf
  refine mx_callSW (As := [.ref v1, .int x1032, .ref v3]) (rest := []) hx hb hml hts hown hK hJ hRc hRs (c_L_kind l hlt G P v1 x1032 v3 τ x1035 σ1034 e1036) mw_L_kind kw_1792 kw_1791 (Nat.le_of_ble_eq_true rfl) (Nat.le_of_ble_eq_true rfl) rfl hl.1 rfl (Nat.le_of_ble_eq_true rfl) dL_law_2725 (fun H locs hJ => ?_)
  refine lv_istore (lv' := [(5, .int x1035), (0, .ref b), (1, .ref v1), (2, .ref v2), (3, .ref v3), (4, .int v4)]) hx hb dL_law_2728 hl (by decide) rfl (fun ls hl => ?_)
  refine lv_aload_n hx hb dL_law_2730 rfl (lv_at hl 3 rfl) ?_
  refine lv_aload_n hx hb dL_law_2731 rfl (lv_at hl 1 rfl) ?_
  refine lv_iload hx hb dL_law_2732 (lv_at hl 5 rfl) ?_
  refine lv_iconst (v := 1) hx hb dL_law_2734 (by decide) ?_
  refine lv_iadd hx hb dL_law_2735 ?_
  obtain ⟨x1037, e1038, hf⟩ := mb0 hf
  refine mx_sld hx hb hX hbl hbP hz0 hJ e1038 dL_law_2736 ?_
  obtain ⟨i1039, e1040, hf⟩ := mb0 hf
  obtain ⟨x1042, σ1041, e1043, hf⟩ := mc0 hf
  refine mx_callV (As := [.int x1037]) (rest := []) hx hb hml hts hown hK hJ hRc hRs (ci := 12) rfl e1040 (c_X12_kind l G P v2 x1037 σ1034 x1042 σ1041 e1043) me_X12_kind kw_2832 kw_2833 kw_2831 (Nat.le_of_ble_eq_true rfl) (Nat.le_of_ble_eq_true rfl) rfl hl.1 rfl (Nat.le_of_ble_eq_true rfl) dL_law_2737 (fun H locs hJ => ?_)
  refine lv_istore (lv' := [(6, .int x1042), (5, .int x1035), (0, .ref b), (1, .ref v1), (2, .ref v2), (3, .ref v3), (4, .int v4)]) hx hb dL_law_2740 hl (by decide) rfl (fun ls hl => ?_)
  refine lv_aload_n hx hb dL_law_2742 rfl (lv_at hl 4 rfl) ?_
  obtain ⟨i1044, e1045, hf⟩ := mb0 hf
  obtain ⟨x1047, σ1046, e1048, hf⟩ := mc0 hf
  refine mx_callV (As := []) (rest := []) hx hb hml hts hown hK hJ hRc hRs (ci := 12) rfl e1045 (c_X12_thrown l G P v2 σ1041 x1047 σ1046 e1048) me_X12_thrown kw_2207 kw_2208 kw_2206 (Nat.le_of_ble_eq_true rfl) (Nat.le_of_ble_eq_true rfl) rfl hl.1 rfl (Nat.le_of_ble_eq_true rfl) dL_law_2743 (fun H locs hJ => ?_)
  refine lv_iload hx hb dL_law_2746 (lv_at hl 1 rfl) ?_
  refine lv_icmp_eq (tgt := 2753) hx hb dL_law_2748 (by decide) (fun c1049 => ?_) (fun c1049 => ?_)
  · rw [if_pos c1049] at hf
    refine lv_iload hx hb dL_law_2753 (lv_at hl 1 rfl) ?_
    refine lv_if_ne (tgt := 2770) hx hb dL_law_2755 (by decide) (fun c1050 => ?_) (fun c1050 => ?_)
    · rw [if_neg c1050] at hf
      exact D2770_23 v0 v1 v2 v3 v4 σ1046 o hf Kb Ke0 _ _ hJ ls (lv_sub hl [2, 3, 4, 5, 6] rfl)
    · rw [if_pos c1050] at hf
      refine lv_aload_n hx hb dL_law_2758 rfl (lv_at hl 5 rfl) ?_
      refine lv_iconst (v := 0) hx hb dL_law_2759 (by decide) ?_
      obtain ⟨x1051, e1052, hf⟩ := mb0 hf
      refine mx_aL hx hb hK hJ e1052 dL_law_2760 ?_
      refine lv_iload hx hb dL_law_2761 (lv_at hl 0 rfl) ?_
      refine lv_i2l hx hb dL_law_2763 rfl ?_
      refine W.lcmp hx hb dL_law_2764 ?_
      refine lv_if_eq (tgt := 2770) hx hb dL_law_2765 (by decide) (fun c1053 => ?_) (fun c1053 => ?_)
      · rw [if_pos c1053] at hf
        exact D2770_23 v0 v1 v2 v3 v4 σ1046 o hf Kb Ke0 _ _ hJ ls (lv_sub hl [2, 3, 4, 5, 6] rfl)
      · rw [if_neg c1053] at hf
        cases hf
  · rw [if_neg c1049] at hf
    cases hf
set_option maxHeartbeats 16000000 in
set_option maxRecDepth 100000 in
theorem lw_D2814_23 {p : Program} {e : Env} {s : State} {m : MethodId} {below : List Frame} {meth : Method} {c : Code} (l : Launch) (hlt : l.stackTraces = false) {b L : Nat} {xs : Nat → Int32} (C0 : lw_At p s m meth c b L xs) (G : mx_G) (P : mx_P) (σ : mx_S) (hK : mx_K G P s) (hJ : mx_J G P s.heap (mxz σ) (mxu σ) σ s.heap []) (hbE : mpb P = s.heap.size) (hRc : room_1.cells = mpc P - mxz σ) (hRs : room_1.slots = mps P - mxu σ) : ∀ (v0 : Nat) (v1 : Nat) (v2 : Nat) (v3 : Nat) (v4 : Int32) (τ : mx_S) (o : (Int32 × mx_S) ⊕ ((mx_S))), f_L_law_D2814_23 P L xs v0 v1 v2 v3 v4 τ = some o → (∀ (y4 : Int32) (υ : mx_S), o = .inl (y4, υ) → ∀ (H : Heap) (locs : List Loc), mx_J G P s.heap (mxz σ) (mxu σ) υ H locs → ∀ ls : Array Slot, lv_has ls 8 [(0, .ref b), (1, .ref v1), (2, .ref v2), (3, .ref v3), (4, .int y4)] → W p l e room_1 s m #[Value.ref b] below meth c H locs (mxz υ - mxz σ) (mxu υ - mxu σ) (lw_Z below #[Value.ref b] s) (F0 m 23 ls [])) → (∀  (υ : mx_S), o = .inr υ → ∀ (H : Heap) (locs : List Loc), mx_J G P s.heap (mxz σ) (mxu σ) υ H locs → ∀ ls : Array Slot, lv_has ls 8 [] → W p l e room_1 s m #[Value.ref b] below meth c H locs (mxz υ - mxz σ) (mxu υ - mxu σ) (lw_Z below #[Value.ref b] s) (F0 m 2916 ls [])) → ∀ (H : Heap) (locs : List Loc), mx_J G P s.heap (mxz σ) (mxu σ) τ H locs → ∀ ls : Array Slot, lv_has ls 8 [(0, .ref b), (1, .ref v1), (2, .ref v2), (3, .ref v3), (4, .int v4)] → W p l e room_1 s m #[Value.ref b] below meth c H locs (mxz τ - mxz σ) (mxu τ - mxu σ) (lw_Z below #[Value.ref b] s) (F0 m 2814 ls []) := by
  obtain ⟨hx, hb, hr, hml, hown, hts, hX, hbl, hlocks, hgv⟩ := id C0
  have hts : ∀ w ∈ mx_tbl, w.before #[Value.ref b] s = true := fun w hw => hts w (List.mem_filter.mp hw).1
  have hz0 := hJ.2.1
  have hbP : b < mpb P := by omega
  have hC : mpc P - mxz σ ≤ room_1.cells := Nat.le_of_eq hRc.symm
  have hS : mps P - mxu σ ≤ room_1.slots := Nat.le_of_eq hRs.symm
  have hown : s.vm.findClass RLn = some m.cls := hown
  have D2910_23 := @lw_D2910_23 p e s m below meth c l hlt b L xs C0 G P σ hK hJ hbE hRc hRs
  intro v0 v1 v2 v3 v4 τ o hf Kb Ke0 H locs hJ ls hl
  unfold f_L_law_D2814_23 at hf
  refine lv_goto (tgt := 2910) hx hb dL_law_2814 (by decide) ?_
  exact D2910_23 v0 v1 v2 v3 v4 τ o hf Kb Ke0 _ _ hJ ls (lv_sub hl [0, 1, 2, 3, 4] rfl)
set_option maxHeartbeats 16000000 in
set_option maxRecDepth 100000 in
theorem lw_D2773_23 {p : Program} {e : Env} {s : State} {m : MethodId} {below : List Frame} {meth : Method} {c : Code} (l : Launch) (hlt : l.stackTraces = false) {b L : Nat} {xs : Nat → Int32} (C0 : lw_At p s m meth c b L xs) (G : mx_G) (P : mx_P) (σ : mx_S) (hK : mx_K G P s) (hJ : mx_J G P s.heap (mxz σ) (mxu σ) σ s.heap []) (hbE : mpb P = s.heap.size) (hRc : room_1.cells = mpc P - mxz σ) (hRs : room_1.slots = mps P - mxu σ) : ∀ (v0 : Nat) (v1 : Nat) (v2 : Nat) (v3 : Nat) (v4 : Int32) (τ : mx_S) (o : (Int32 × mx_S) ⊕ ((mx_S))), f_L_law_D2773_23 P L xs v0 v1 v2 v3 v4 τ = some o → (∀ (y4 : Int32) (υ : mx_S), o = .inl (y4, υ) → ∀ (H : Heap) (locs : List Loc), mx_J G P s.heap (mxz σ) (mxu σ) υ H locs → ∀ ls : Array Slot, lv_has ls 8 [(0, .ref b), (1, .ref v1), (2, .ref v2), (3, .ref v3), (4, .int y4)] → W p l e room_1 s m #[Value.ref b] below meth c H locs (mxz υ - mxz σ) (mxu υ - mxu σ) (lw_Z below #[Value.ref b] s) (F0 m 23 ls [])) → (∀  (υ : mx_S), o = .inr υ → ∀ (H : Heap) (locs : List Loc), mx_J G P s.heap (mxz σ) (mxu σ) υ H locs → ∀ ls : Array Slot, lv_has ls 8 [] → W p l e room_1 s m #[Value.ref b] below meth c H locs (mxz υ - mxz σ) (mxu υ - mxu σ) (lw_Z below #[Value.ref b] s) (F0 m 2916 ls [])) → ∀ (H : Heap) (locs : List Loc), mx_J G P s.heap (mxz σ) (mxu σ) τ H locs → ∀ ls : Array Slot, lv_has ls 8 [(0, .ref b), (1, .ref v1), (2, .ref v2), (3, .ref v3), (4, .int v4)] → W p l e room_1 s m #[Value.ref b] below meth c H locs (mxz τ - mxz σ) (mxu τ - mxu σ) (lw_Z below #[Value.ref b] s) (F0 m 2773 ls []) := by
  obtain ⟨hx, hb, hr, hml, hown, hts, hX, hbl, hlocks, hgv⟩ := id C0
  have hts : ∀ w ∈ mx_tbl, w.before #[Value.ref b] s = true := fun w hw => hts w (List.mem_filter.mp hw).1
  have hz0 := hJ.2.1
  have hbP : b < mpb P := by omega
  have hC : mpc P - mxz σ ≤ room_1.cells := Nat.le_of_eq hRc.symm
  have hS : mps P - mxu σ ≤ room_1.slots := Nat.le_of_eq hRs.symm
  have hown : s.vm.findClass RLn = some m.cls := hown
  have D2814_23 := @lw_D2814_23 p e s m below meth c l hlt b L xs C0 G P σ hK hJ hbE hRc hRs
  intro v0 v1 v2 v3 v4 τ o hf Kb Ke0 H locs hJ ls hl
  unfold f_L_law_D2773_23 at hf
  refine lv_aload_n hx hb dL_law_2773 rfl (lv_at hl 1 rfl) ?_
  refine lv_aload_n hx hb dL_law_2774 rfl (lv_at hl 3 rfl) ?_
  obtain ⟨x1056, σ1055, e1057, hf⟩ := mc0 hf
  refine mx_callSW (As := [.ref v1, .ref v3]) (rest := []) hx hb hml hts hown hK hJ hRc hRs (c_L_drive l hlt G P v1 v3 τ x1056 σ1055 e1057) mw_L_drive kw_1799 kw_1798 (Nat.le_of_ble_eq_true rfl) (Nat.le_of_ble_eq_true rfl) rfl hl.1 rfl (Nat.le_of_ble_eq_true rfl) dL_law_2775 (fun H locs hJ => ?_)
  refine lv_istore (lv' := [(5, .int x1056), (0, .ref b), (1, .ref v1), (2, .ref v2), (3, .ref v3), (4, .int v4)]) hx hb dL_law_2778 hl (by decide) rfl (fun ls hl => ?_)
  refine lv_aload_n hx hb dL_law_2780 rfl (lv_at hl 3 rfl) ?_
  obtain ⟨i1058, e1059, hf⟩ := mb0 hf
  obtain ⟨x1061, σ1060, e1062, hf⟩ := mc0 hf
  refine mx_callV (As := []) (rest := []) hx hb hml hts hown hK hJ hRc hRs (ci := 12) rfl e1059 (c_X12_drive l G P v2 σ1055 x1061 σ1060 e1062) me_X12_drive kw_2836 kw_2837 kw_2835 (Nat.le_of_ble_eq_true rfl) (Nat.le_of_ble_eq_true rfl) rfl hl.1 rfl (Nat.le_of_ble_eq_true rfl) dL_law_2781 (fun H locs hJ => ?_)
  refine lv_istore (lv' := [(6, .int x1061), (5, .int x1056), (0, .ref b), (1, .ref v1), (2, .ref v2), (3, .ref v3), (4, .int v4)]) hx hb dL_law_2784 hl (by decide) rfl (fun ls hl => ?_)
  refine lv_aload_n hx hb dL_law_2786 rfl (lv_at hl 4 rfl) ?_
  obtain ⟨i1063, e1064, hf⟩ := mb0 hf
  obtain ⟨x1066, σ1065, e1067, hf⟩ := mc0 hf
  refine mx_callV (As := []) (rest := []) hx hb hml hts hown hK hJ hRc hRs (ci := 12) rfl e1064 (c_X12_thrown l G P v2 σ1060 x1066 σ1065 e1067) me_X12_thrown kw_2207 kw_2208 kw_2206 (Nat.le_of_ble_eq_true rfl) (Nat.le_of_ble_eq_true rfl) rfl hl.1 rfl (Nat.le_of_ble_eq_true rfl) dL_law_2787 (fun H locs hJ => ?_)
  refine lv_iload hx hb dL_law_2790 (lv_at hl 1 rfl) ?_
  refine lv_icmp_eq (tgt := 2797) hx hb dL_law_2792 (by decide) (fun c1068 => ?_) (fun c1068 => ?_)
  · rw [if_pos c1068] at hf
    refine lv_iload hx hb dL_law_2797 (lv_at hl 1 rfl) ?_
    refine lv_if_ne (tgt := 2814) hx hb dL_law_2799 (by decide) (fun c1069 => ?_) (fun c1069 => ?_)
    · rw [if_neg c1069] at hf
      exact D2814_23 v0 v1 v2 v3 v4 σ1065 o hf Kb Ke0 _ _ hJ ls (lv_sub hl [2, 3, 4, 5, 6] rfl)
    · rw [if_pos c1069] at hf
      refine lv_aload_n hx hb dL_law_2802 rfl (lv_at hl 5 rfl) ?_
      refine lv_iconst (v := 0) hx hb dL_law_2803 (by decide) ?_
      obtain ⟨x1070, e1071, hf⟩ := mb0 hf
      refine mx_aL hx hb hK hJ e1071 dL_law_2804 ?_
      refine lv_iload hx hb dL_law_2805 (lv_at hl 0 rfl) ?_
      refine lv_i2l hx hb dL_law_2807 rfl ?_
      refine W.lcmp hx hb dL_law_2808 ?_
      refine lv_if_eq (tgt := 2814) hx hb dL_law_2809 (by decide) (fun c1072 => ?_) (fun c1072 => ?_)
      · rw [if_pos c1072] at hf
        exact D2814_23 v0 v1 v2 v3 v4 σ1065 o hf Kb Ke0 _ _ hJ ls (lv_sub hl [2, 3, 4, 5, 6] rfl)
      · rw [if_neg c1072] at hf
        cases hf
  · rw [if_neg c1068] at hf
    cases hf
set_option maxHeartbeats 16000000 in
set_option maxRecDepth 100000 in
theorem lw_D2882_23 {p : Program} {e : Env} {s : State} {m : MethodId} {below : List Frame} {meth : Method} {c : Code} (l : Launch) (hlt : l.stackTraces = false) {b L : Nat} {xs : Nat → Int32} (C0 : lw_At p s m meth c b L xs) (G : mx_G) (P : mx_P) (σ : mx_S) (hK : mx_K G P s) (hJ : mx_J G P s.heap (mxz σ) (mxu σ) σ s.heap []) (hbE : mpb P = s.heap.size) (hRc : room_1.cells = mpc P - mxz σ) (hRs : room_1.slots = mps P - mxu σ) : ∀ (v0 : Nat) (v1 : Nat) (v2 : Nat) (v3 : Nat) (v4 : Int32) (τ : mx_S) (o : (Int32 × mx_S) ⊕ ((mx_S))), f_L_law_D2882_23 P L xs v0 v1 v2 v3 v4 τ = some o → (∀ (y4 : Int32) (υ : mx_S), o = .inl (y4, υ) → ∀ (H : Heap) (locs : List Loc), mx_J G P s.heap (mxz σ) (mxu σ) υ H locs → ∀ ls : Array Slot, lv_has ls 8 [(0, .ref b), (1, .ref v1), (2, .ref v2), (3, .ref v3), (4, .int y4)] → W p l e room_1 s m #[Value.ref b] below meth c H locs (mxz υ - mxz σ) (mxu υ - mxu σ) (lw_Z below #[Value.ref b] s) (F0 m 23 ls [])) → (∀  (υ : mx_S), o = .inr υ → ∀ (H : Heap) (locs : List Loc), mx_J G P s.heap (mxz σ) (mxu σ) υ H locs → ∀ ls : Array Slot, lv_has ls 8 [] → W p l e room_1 s m #[Value.ref b] below meth c H locs (mxz υ - mxz σ) (mxu υ - mxu σ) (lw_Z below #[Value.ref b] s) (F0 m 2916 ls [])) → ∀ (H : Heap) (locs : List Loc), mx_J G P s.heap (mxz σ) (mxu σ) τ H locs → ∀ ls : Array Slot, lv_has ls 8 [(0, .ref b), (1, .ref v1), (2, .ref v2), (3, .ref v3), (4, .int v4)] → W p l e room_1 s m #[Value.ref b] below meth c H locs (mxz τ - mxz σ) (mxu τ - mxu σ) (lw_Z below #[Value.ref b] s) (F0 m 2882 ls []) := by
  obtain ⟨hx, hb, hr, hml, hown, hts, hX, hbl, hlocks, hgv⟩ := id C0
  have hts : ∀ w ∈ mx_tbl, w.before #[Value.ref b] s = true := fun w hw => hts w (List.mem_filter.mp hw).1
  have hz0 := hJ.2.1
  have hbP : b < mpb P := by omega
  have hC : mpc P - mxz σ ≤ room_1.cells := Nat.le_of_eq hRc.symm
  have hS : mps P - mxu σ ≤ room_1.slots := Nat.le_of_eq hRs.symm
  have hown : s.vm.findClass RLn = some m.cls := hown
  have D2910_23 := @lw_D2910_23 p e s m below meth c l hlt b L xs C0 G P σ hK hJ hbE hRc hRs
  intro v0 v1 v2 v3 v4 τ o hf Kb Ke0 H locs hJ ls hl
  unfold f_L_law_D2882_23 at hf
  refine lv_goto (tgt := 2910) hx hb dL_law_2882 (by decide) ?_
  exact D2910_23 v0 v1 v2 v3 v4 τ o hf Kb Ke0 _ _ hJ ls (lv_sub hl [0, 1, 2, 3, 4] rfl)
set_option maxHeartbeats 16000000 in
set_option maxRecDepth 100000 in
theorem lw_D2817_23 {p : Program} {e : Env} {s : State} {m : MethodId} {below : List Frame} {meth : Method} {c : Code} (l : Launch) (hlt : l.stackTraces = false) {b L : Nat} {xs : Nat → Int32} (C0 : lw_At p s m meth c b L xs) (G : mx_G) (P : mx_P) (σ : mx_S) (hK : mx_K G P s) (hJ : mx_J G P s.heap (mxz σ) (mxu σ) σ s.heap []) (hbE : mpb P = s.heap.size) (hRc : room_1.cells = mpc P - mxz σ) (hRs : room_1.slots = mps P - mxu σ) : ∀ (v0 : Nat) (v1 : Nat) (v2 : Nat) (v3 : Nat) (v4 : Int32) (τ : mx_S) (o : (Int32 × mx_S) ⊕ ((mx_S))), f_L_law_D2817_23 P L xs v0 v1 v2 v3 v4 τ = some o → (∀ (y4 : Int32) (υ : mx_S), o = .inl (y4, υ) → ∀ (H : Heap) (locs : List Loc), mx_J G P s.heap (mxz σ) (mxu σ) υ H locs → ∀ ls : Array Slot, lv_has ls 8 [(0, .ref b), (1, .ref v1), (2, .ref v2), (3, .ref v3), (4, .int y4)] → W p l e room_1 s m #[Value.ref b] below meth c H locs (mxz υ - mxz σ) (mxu υ - mxu σ) (lw_Z below #[Value.ref b] s) (F0 m 23 ls [])) → (∀  (υ : mx_S), o = .inr υ → ∀ (H : Heap) (locs : List Loc), mx_J G P s.heap (mxz σ) (mxu σ) υ H locs → ∀ ls : Array Slot, lv_has ls 8 [] → W p l e room_1 s m #[Value.ref b] below meth c H locs (mxz υ - mxz σ) (mxu υ - mxu σ) (lw_Z below #[Value.ref b] s) (F0 m 2916 ls [])) → ∀ (H : Heap) (locs : List Loc), mx_J G P s.heap (mxz σ) (mxu σ) τ H locs → ∀ ls : Array Slot, lv_has ls 8 [(0, .ref b), (1, .ref v1), (2, .ref v2), (3, .ref v3), (4, .int v4)] → W p l e room_1 s m #[Value.ref b] below meth c H locs (mxz τ - mxz σ) (mxu τ - mxu σ) (lw_Z below #[Value.ref b] s) (F0 m 2817 ls []) := by
  obtain ⟨hx, hb, hr, hml, hown, hts, hX, hbl, hlocks, hgv⟩ := id C0
  have hts : ∀ w ∈ mx_tbl, w.before #[Value.ref b] s = true := fun w hw => hts w (List.mem_filter.mp hw).1
  have hz0 := hJ.2.1
  have hbP : b < mpb P := by omega
  have hC : mpc P - mxz σ ≤ room_1.cells := Nat.le_of_eq hRc.symm
  have hS : mps P - mxu σ ≤ room_1.slots := Nat.le_of_eq hRs.symm
  have hown : s.vm.findClass RLn = some m.cls := hown
  have D2882_23 := @lw_D2882_23 p e s m below meth c l hlt b L xs C0 G P σ hK hJ hbE hRc hRs
  intro v0 v1 v2 v3 v4 τ o hf Kb Ke0 H locs hJ ls hl
  unfold f_L_law_D2817_23 at hf
  refine lv_aload_n hx hb dL_law_2817 rfl (lv_at hl 1 rfl) ?_
  refine lv_aload_n hx hb dL_law_2818 rfl (lv_at hl 0 rfl) ?_
  refine lv_iload hx hb dL_law_2819 (lv_at hl 4 rfl) ?_
  refine lv_iconst (v := 1) hx hb dL_law_2821 (by decide) ?_
  refine lv_iadd hx hb dL_law_2822 ?_
  obtain ⟨x1074, e1075, hf⟩ := mb0 hf
  refine mx_sld hx hb hX hbl hbP hz0 hJ e1075 dL_law_2823 ?_
  refine lv_aload_n hx hb dL_law_2824 rfl (lv_at hl 0 rfl) ?_
  refine lv_iload hx hb dL_law_2825 (lv_at hl 4 rfl) ?_
  refine lv_iconst (v := 2) hx hb dL_law_2827 (by decide) ?_
  refine lv_iadd hx hb dL_law_2828 ?_
  obtain ⟨x1076, e1077, hf⟩ := mb0 hf
  refine mx_sld hx hb hX hbl hbP hz0 hJ e1077 dL_law_2829 ?_
  refine lv_aload_n hx hb dL_law_2830 rfl (lv_at hl 3 rfl) ?_
  obtain ⟨x1079, σ1078, e1080, hf⟩ := mc0 hf
  refine mx_callSW (As := [.ref v1, .int x1074, .int x1076, .ref v3]) (rest := []) hx hb hml hts hown hK hJ hRc hRs (c_L_event l hlt G P v1 x1074 x1076 v3 τ x1079 σ1078 e1080) mw_L_event kw_1846 kw_1845 (Nat.le_of_ble_eq_true rfl) (Nat.le_of_ble_eq_true rfl) rfl hl.1 rfl (Nat.le_of_ble_eq_true rfl) dL_law_2831 (fun H locs hJ => ?_)
  refine lv_istore (lv' := [(5, .int x1079), (0, .ref b), (1, .ref v1), (2, .ref v2), (3, .ref v3), (4, .int v4)]) hx hb dL_law_2834 hl (by decide) rfl (fun ls hl => ?_)
  refine lv_aload_n hx hb dL_law_2836 rfl (lv_at hl 3 rfl) ?_
  refine lv_aload_n hx hb dL_law_2837 rfl (lv_at hl 1 rfl) ?_
  refine lv_iload hx hb dL_law_2838 (lv_at hl 5 rfl) ?_
  refine lv_iconst (v := 1) hx hb dL_law_2840 (by decide) ?_
  refine lv_iadd hx hb dL_law_2841 ?_
  obtain ⟨x1081, e1082, hf⟩ := mb0 hf
  refine mx_sld hx hb hX hbl hbP hz0 hJ e1082 dL_law_2842 ?_
  refine lv_aload_n hx hb dL_law_2843 rfl (lv_at hl 1 rfl) ?_
  refine lv_iload hx hb dL_law_2844 (lv_at hl 5 rfl) ?_
  refine lv_iconst (v := 2) hx hb dL_law_2846 (by decide) ?_
  refine lv_iadd hx hb dL_law_2847 ?_
  obtain ⟨x1083, e1084, hf⟩ := mb0 hf
  refine mx_sld hx hb hX hbl hbP hz0 hJ e1084 dL_law_2848 ?_
  obtain ⟨i1085, e1086, hf⟩ := mb0 hf
  obtain ⟨x1088, σ1087, e1089, hf⟩ := mc0 hf
  refine mx_callV (As := [.int x1081, .int x1083]) (rest := []) hx hb hml hts hown hK hJ hRc hRs (ci := 12) rfl e1086 (c_X12_event l G P v2 x1081 x1083 σ1078 x1088 σ1087 e1089) me_X12_event kw_2868 kw_2869 kw_2867 (Nat.le_of_ble_eq_true rfl) (Nat.le_of_ble_eq_true rfl) rfl hl.1 rfl (Nat.le_of_ble_eq_true rfl) dL_law_2849 (fun H locs hJ => ?_)
  refine lv_istore (lv' := [(6, .int x1088), (5, .int x1079), (0, .ref b), (1, .ref v1), (2, .ref v2), (3, .ref v3), (4, .int v4)]) hx hb dL_law_2852 hl (by decide) rfl (fun ls hl => ?_)
  refine lv_aload_n hx hb dL_law_2854 rfl (lv_at hl 4 rfl) ?_
  obtain ⟨i1090, e1091, hf⟩ := mb0 hf
  obtain ⟨x1093, σ1092, e1094, hf⟩ := mc0 hf
  refine mx_callV (As := []) (rest := []) hx hb hml hts hown hK hJ hRc hRs (ci := 12) rfl e1091 (c_X12_thrown l G P v2 σ1087 x1093 σ1092 e1094) me_X12_thrown kw_2207 kw_2208 kw_2206 (Nat.le_of_ble_eq_true rfl) (Nat.le_of_ble_eq_true rfl) rfl hl.1 rfl (Nat.le_of_ble_eq_true rfl) dL_law_2855 (fun H locs hJ => ?_)
  refine lv_iload hx hb dL_law_2858 (lv_at hl 1 rfl) ?_
  refine lv_icmp_eq (tgt := 2865) hx hb dL_law_2860 (by decide) (fun c1095 => ?_) (fun c1095 => ?_)
  · rw [if_pos c1095] at hf
    refine lv_iload hx hb dL_law_2865 (lv_at hl 1 rfl) ?_
    refine lv_if_ne (tgt := 2882) hx hb dL_law_2867 (by decide) (fun c1096 => ?_) (fun c1096 => ?_)
    · rw [if_neg c1096] at hf
      exact D2882_23 v0 v1 v2 v3 v4 σ1092 o hf Kb Ke0 _ _ hJ ls (lv_sub hl [2, 3, 4, 5, 6] rfl)
    · rw [if_pos c1096] at hf
      refine lv_aload_n hx hb dL_law_2870 rfl (lv_at hl 5 rfl) ?_
      refine lv_iconst (v := 0) hx hb dL_law_2871 (by decide) ?_
      obtain ⟨x1097, e1098, hf⟩ := mb0 hf
      refine mx_aL hx hb hK hJ e1098 dL_law_2872 ?_
      refine lv_iload hx hb dL_law_2873 (lv_at hl 0 rfl) ?_
      refine lv_i2l hx hb dL_law_2875 rfl ?_
      refine W.lcmp hx hb dL_law_2876 ?_
      refine lv_if_eq (tgt := 2882) hx hb dL_law_2877 (by decide) (fun c1099 => ?_) (fun c1099 => ?_)
      · rw [if_pos c1099] at hf
        exact D2882_23 v0 v1 v2 v3 v4 σ1092 o hf Kb Ke0 _ _ hJ ls (lv_sub hl [2, 3, 4, 5, 6] rfl)
      · rw [if_neg c1099] at hf
        cases hf
  · rw [if_neg c1095] at hf
    cases hf
set_option maxHeartbeats 16000000 in
set_option maxRecDepth 100000 in
theorem lw_D2885_23 {p : Program} {e : Env} {s : State} {m : MethodId} {below : List Frame} {meth : Method} {c : Code} (l : Launch) (hlt : l.stackTraces = false) {b L : Nat} {xs : Nat → Int32} (C0 : lw_At p s m meth c b L xs) (G : mx_G) (P : mx_P) (σ : mx_S) (hK : mx_K G P s) (hJ : mx_J G P s.heap (mxz σ) (mxu σ) σ s.heap []) (hbE : mpb P = s.heap.size) (hRc : room_1.cells = mpc P - mxz σ) (hRs : room_1.slots = mps P - mxu σ) : ∀ (v0 : Nat) (v1 : Nat) (v2 : Nat) (v3 : Nat) (v4 : Int32) (τ : mx_S) (o : (Int32 × mx_S) ⊕ ((mx_S))), f_L_law_D2885_23 P L xs v0 v1 v2 v3 v4 τ = some o → (∀ (y4 : Int32) (υ : mx_S), o = .inl (y4, υ) → ∀ (H : Heap) (locs : List Loc), mx_J G P s.heap (mxz σ) (mxu σ) υ H locs → ∀ ls : Array Slot, lv_has ls 8 [(0, .ref b), (1, .ref v1), (2, .ref v2), (3, .ref v3), (4, .int y4)] → W p l e room_1 s m #[Value.ref b] below meth c H locs (mxz υ - mxz σ) (mxu υ - mxu σ) (lw_Z below #[Value.ref b] s) (F0 m 23 ls [])) → (∀  (υ : mx_S), o = .inr υ → ∀ (H : Heap) (locs : List Loc), mx_J G P s.heap (mxz σ) (mxu σ) υ H locs → ∀ ls : Array Slot, lv_has ls 8 [] → W p l e room_1 s m #[Value.ref b] below meth c H locs (mxz υ - mxz σ) (mxu υ - mxu σ) (lw_Z below #[Value.ref b] s) (F0 m 2916 ls [])) → ∀ (H : Heap) (locs : List Loc), mx_J G P s.heap (mxz σ) (mxu σ) τ H locs → ∀ ls : Array Slot, lv_has ls 8 [(0, .ref b), (1, .ref v1), (2, .ref v2), (3, .ref v3), (4, .int v4)] → W p l e room_1 s m #[Value.ref b] below meth c H locs (mxz τ - mxz σ) (mxu τ - mxu σ) (lw_Z below #[Value.ref b] s) (F0 m 2885 ls []) := by
  obtain ⟨hx, hb, hr, hml, hown, hts, hX, hbl, hlocks, hgv⟩ := id C0
  have hts : ∀ w ∈ mx_tbl, w.before #[Value.ref b] s = true := fun w hw => hts w (List.mem_filter.mp hw).1
  have hz0 := hJ.2.1
  have hbP : b < mpb P := by omega
  have hC : mpc P - mxz σ ≤ room_1.cells := Nat.le_of_eq hRc.symm
  have hS : mps P - mxu σ ≤ room_1.slots := Nat.le_of_eq hRs.symm
  have hown : s.vm.findClass RLn = some m.cls := hown
  have D2910_23 := @lw_D2910_23 p e s m below meth c l hlt b L xs C0 G P σ hK hJ hbE hRc hRs
  intro v0 v1 v2 v3 v4 τ o hf Kb Ke0 H locs hJ ls hl
  unfold f_L_law_D2885_23 at hf
  refine lv_aload_n hx hb dL_law_2885 rfl (lv_at hl 1 rfl) ?_
  refine lv_aload_n hx hb dL_law_2886 rfl (lv_at hl 0 rfl) ?_
  refine lv_iload hx hb dL_law_2887 (lv_at hl 4 rfl) ?_
  refine lv_iconst (v := 1) hx hb dL_law_2889 (by decide) ?_
  refine lv_iadd hx hb dL_law_2890 ?_
  obtain ⟨x1101, e1102, hf⟩ := mb0 hf
  refine mx_sld hx hb hX hbl hbP hz0 hJ e1102 dL_law_2891 ?_
  obtain ⟨i1103, e1104, hf⟩ := mb0 hf
  obtain ⟨x1106, σ1105, e1107, hf⟩ := mc0 hf
  refine mx_callV (As := [.int x1101]) (rest := []) hx hb hml hts hown hK hJ hRc hRs (ci := 11) rfl e1104 (c_X11_count l G P v1 x1101 τ x1106 σ1105 e1107) me_X11_count kw_911 kw_912 kw_910 (Nat.le_of_ble_eq_true rfl) (Nat.le_of_ble_eq_true rfl) rfl hl.1 rfl (Nat.le_of_ble_eq_true rfl) dL_law_2892 (fun H locs hJ => ?_)
  refine lv_aload_n hx hb dL_law_2895 rfl (lv_at hl 2 rfl) ?_
  refine lv_aload_n hx hb dL_law_2896 rfl (lv_at hl 0 rfl) ?_
  refine lv_iload hx hb dL_law_2897 (lv_at hl 4 rfl) ?_
  refine lv_iconst (v := 1) hx hb dL_law_2899 (by decide) ?_
  refine lv_iadd hx hb dL_law_2900 ?_
  obtain ⟨x1108, e1109, hf⟩ := mb0 hf
  refine mx_sld hx hb hX hbl hbP hz0 hJ e1109 dL_law_2901 ?_
  obtain ⟨i1110, e1111, hf⟩ := mb0 hf
  obtain ⟨x1113, σ1112, e1114, hf⟩ := mc0 hf
  refine mx_callV (As := [.int x1108]) (rest := [.int x1106]) hx hb hml hts hown hK hJ hRc hRs (ci := 12) rfl e1111 (c_X12_count l G P v2 x1108 σ1105 x1113 σ1112 e1114) me_X12_count kw_2872 kw_2873 kw_2871 (Nat.le_of_ble_eq_true rfl) (Nat.le_of_ble_eq_true rfl) rfl hl.1 rfl (Nat.le_of_ble_eq_true rfl) dL_law_2902 (fun H locs hJ => ?_)
  refine lv_icmp_eq (tgt := 2910) hx hb dL_law_2905 (by decide) (fun c1115 => ?_) (fun c1115 => ?_)
  · rw [if_pos c1115] at hf
    exact D2910_23 v0 v1 v2 v3 v4 σ1112 o hf Kb Ke0 _ _ hJ ls (lv_sub hl [0, 1, 2, 3, 4] rfl)
  · rw [if_neg c1115] at hf
    cases hf
set_option maxHeartbeats 16000000 in
set_option maxRecDepth 100000 in
theorem lw_B23 {p : Program} {e : Env} {s : State} {m : MethodId} {below : List Frame} {meth : Method} {c : Code} (l : Launch) (hlt : l.stackTraces = false) {b L : Nat} {xs : Nat → Int32} (C0 : lw_At p s m meth c b L xs) (G : mx_G) (P : mx_P) (σ : mx_S) (hK : mx_K G P s) (hJ : mx_J G P s.heap (mxz σ) (mxu σ) σ s.heap []) (hbE : mpb P = s.heap.size) (hRc : room_1.cells = mpc P - mxz σ) (hRs : room_1.slots = mps P - mxu σ) : ∀ (v0 : Nat) (v1 : Nat) (v2 : Nat) (v3 : Nat) (v4 : Int32) (τ : mx_S) (o : (Int32 × mx_S) ⊕ ((mx_S))), f_L_law_B23 P L xs v0 v1 v2 v3 v4 τ = some o → (∀ (y4 : Int32) (υ : mx_S), o = .inl (y4, υ) → ∀ (H : Heap) (locs : List Loc), mx_J G P s.heap (mxz σ) (mxu σ) υ H locs → ∀ ls : Array Slot, lv_has ls 8 [(0, .ref b), (1, .ref v1), (2, .ref v2), (3, .ref v3), (4, .int y4)] → W p l e room_1 s m #[Value.ref b] below meth c H locs (mxz υ - mxz σ) (mxu υ - mxu σ) (lw_Z below #[Value.ref b] s) (F0 m 23 ls [])) → (∀  (υ : mx_S), o = .inr υ → ∀ (H : Heap) (locs : List Loc), mx_J G P s.heap (mxz σ) (mxu σ) υ H locs → ∀ ls : Array Slot, lv_has ls 8 [] → W p l e room_1 s m #[Value.ref b] below meth c H locs (mxz υ - mxz σ) (mxu υ - mxu σ) (lw_Z below #[Value.ref b] s) (F0 m 2916 ls [])) → ∀ (H : Heap) (locs : List Loc), mx_J G P s.heap (mxz σ) (mxu σ) τ H locs → ∀ ls : Array Slot, lv_has ls 8 [(0, .ref b), (1, .ref v1), (2, .ref v2), (3, .ref v3), (4, .int v4)] → W p l e room_1 s m #[Value.ref b] below meth c H locs (mxz τ - mxz σ) (mxu τ - mxu σ) (lw_Z below #[Value.ref b] s) (F0 m 23 ls []) := by
  obtain ⟨hx, hb, hr, hml, hown, hts, hX, hbl, hlocks, hgv⟩ := id C0
  have hts : ∀ w ∈ mx_tbl, w.before #[Value.ref b] s = true := fun w hw => hts w (List.mem_filter.mp hw).1
  have hz0 := hJ.2.1
  have hbP : b < mpb P := by omega
  have hC : mpc P - mxz σ ≤ room_1.cells := Nat.le_of_eq hRc.symm
  have hS : mps P - mxu σ ≤ room_1.slots := Nat.le_of_eq hRs.symm
  have hown : s.vm.findClass RLn = some m.cls := hown
  have D2910_23 := @lw_D2910_23 p e s m below meth c l hlt b L xs C0 G P σ hK hJ hbE hRc hRs
  have D220_23 := @lw_D220_23 p e s m below meth c l hlt b L xs C0 G P σ hK hJ hbE hRc hRs
  have D324_23 := @lw_D324_23 p e s m below meth c l hlt b L xs C0 G P σ hK hJ hbE hRc hRs
  have D380_23 := @lw_D380_23 p e s m below meth c l hlt b L xs C0 G P σ hK hJ hbE hRc hRs
  have D405_23 := @lw_D405_23 p e s m below meth c l hlt b L xs C0 G P σ hK hJ hbE hRc hRs
  have D449_23 := @lw_D449_23 p e s m below meth c l hlt b L xs C0 G P σ hK hJ hbE hRc hRs
  have D462_23 := @lw_D462_23 p e s m below meth c l hlt b L xs C0 G P σ hK hJ hbE hRc hRs
  have D510_23 := @lw_D510_23 p e s m below meth c l hlt b L xs C0 G P σ hK hJ hbE hRc hRs
  have D523_23 := @lw_D523_23 p e s m below meth c l hlt b L xs C0 G P σ hK hJ hbE hRc hRs
  have D591_23 := @lw_D591_23 p e s m below meth c l hlt b L xs C0 G P σ hK hJ hbE hRc hRs
  have D682_23 := @lw_D682_23 p e s m below meth c l hlt b L xs C0 G P σ hK hJ hbE hRc hRs
  have D762_23 := @lw_D762_23 p e s m below meth c l hlt b L xs C0 G P σ hK hJ hbE hRc hRs
  have D842_23 := @lw_D842_23 p e s m below meth c l hlt b L xs C0 G P σ hK hJ hbE hRc hRs
  have D945_23 := @lw_D945_23 p e s m below meth c l hlt b L xs C0 G P σ hK hJ hbE hRc hRs
  have D1048_23 := @lw_D1048_23 p e s m below meth c l hlt b L xs C0 G P σ hK hJ hbE hRc hRs
  have D1151_23 := @lw_D1151_23 p e s m below meth c l hlt b L xs C0 G P σ hK hJ hbE hRc hRs
  have D1268_23 := @lw_D1268_23 p e s m below meth c l hlt b L xs C0 G P σ hK hJ hbE hRc hRs
  have D1328_23 := @lw_D1328_23 p e s m below meth c l hlt b L xs C0 G P σ hK hJ hbE hRc hRs
  have D1376_23 := @lw_D1376_23 p e s m below meth c l hlt b L xs C0 G P σ hK hJ hbE hRc hRs
  have D1455_23 := @lw_D1455_23 p e s m below meth c l hlt b L xs C0 G P σ hK hJ hbE hRc hRs
  have D1534_23 := @lw_D1534_23 p e s m below meth c l hlt b L xs C0 G P σ hK hJ hbE hRc hRs
  have D1602_23 := @lw_D1602_23 p e s m below meth c l hlt b L xs C0 G P σ hK hJ hbE hRc hRs
  have D1710_23 := @lw_D1710_23 p e s m below meth c l hlt b L xs C0 G P σ hK hJ hbE hRc hRs
  have D1782_23 := @lw_D1782_23 p e s m below meth c l hlt b L xs C0 G P σ hK hJ hbE hRc hRs
  have D1793_23 := @lw_D1793_23 p e s m below meth c l hlt b L xs C0 G P σ hK hJ hbE hRc hRs
  have D1806_23 := @lw_D1806_23 p e s m below meth c l hlt b L xs C0 G P σ hK hJ hbE hRc hRs
  have D1873_23 := @lw_D1873_23 p e s m below meth c l hlt b L xs C0 G P σ hK hJ hbE hRc hRs
  have D1969_23 := @lw_D1969_23 p e s m below meth c l hlt b L xs C0 G P σ hK hJ hbE hRc hRs
  have D2061_23 := @lw_D2061_23 p e s m below meth c l hlt b L xs C0 G P σ hK hJ hbE hRc hRs
  have D2129_23 := @lw_D2129_23 p e s m below meth c l hlt b L xs C0 G P σ hK hJ hbE hRc hRs
  have D2173_23 := @lw_D2173_23 p e s m below meth c l hlt b L xs C0 G P σ hK hJ hbE hRc hRs
  have D2252_23 := @lw_D2252_23 p e s m below meth c l hlt b L xs C0 G P σ hK hJ hbE hRc hRs
  have D2307_23 := @lw_D2307_23 p e s m below meth c l hlt b L xs C0 G P σ hK hJ hbE hRc hRs
  have D2387_23 := @lw_D2387_23 p e s m below meth c l hlt b L xs C0 G P σ hK hJ hbE hRc hRs
  have D2423_23 := @lw_D2423_23 p e s m below meth c l hlt b L xs C0 G P σ hK hJ hbE hRc hRs
  have D2490_23 := @lw_D2490_23 p e s m below meth c l hlt b L xs C0 G P σ hK hJ hbE hRc hRs
  have D2570_23 := @lw_D2570_23 p e s m below meth c l hlt b L xs C0 G P σ hK hJ hbE hRc hRs
  have D2649_23 := @lw_D2649_23 p e s m below meth c l hlt b L xs C0 G P σ hK hJ hbE hRc hRs
  have D2717_23 := @lw_D2717_23 p e s m below meth c l hlt b L xs C0 G P σ hK hJ hbE hRc hRs
  have D2773_23 := @lw_D2773_23 p e s m below meth c l hlt b L xs C0 G P σ hK hJ hbE hRc hRs
  have D2817_23 := @lw_D2817_23 p e s m below meth c l hlt b L xs C0 G P σ hK hJ hbE hRc hRs
  have D2885_23 := @lw_D2885_23 p e s m below meth c l hlt b L xs C0 G P σ hK hJ hbE hRc hRs
  intro v0 v1 v2 v3 v4 τ o hf Kb Ke0 H locs hJ ls hl
  unfold f_L_law_B23 at hf
  refine lv_iload hx hb dL_law_23 (lv_at hl 4 rfl) ?_
  refine lv_aload_n hx hb dL_law_25 rfl (lv_at hl 0 rfl) ?_
  refine mx_slen hx hb hX hbl hbP hz0 hJ dL_law_26 ?_
  refine lv_bipush (v := 7) hx hb dL_law_27 (by decide) ?_
  refine lv_isub hx hb dL_law_29 ?_
  refine lv_icmp_gt (tgt := 2916) hx hb dL_law_30 (by decide) (fun c14 => ?_) (fun c14 => ?_)
  · rw [if_pos c14] at hf
    exact Ke0 τ (Option.some.inj hf).symm _ _ hJ ls (lv_sub hl [] rfl)
  · rw [if_neg c14] at hf
    refine lv_aload_n hx hb dL_law_33 rfl (lv_at hl 0 rfl) ?_
    refine lv_iload hx hb dL_law_34 (lv_at hl 4 rfl) ?_
    obtain ⟨x15, e16, hf⟩ := mb0 hf
    refine mx_sld hx hb hX hbl hbP hz0 hJ e16 dL_law_36 ?_
    refine lv_bipush (v := 63) hx hb dL_law_37 (by decide) ?_
    refine lv_iand hx hb dL_law_39 ?_
    by_cases c17 : (x15 &&& (63 : Int32)) = (0 : Int32)
    · rw [if_pos c17] at hf
      refine lv_tableIn (tgt := 220) (off := 180) hx hb dL_law_40 (by rw [c17] <;> decide) (by rw [c17] <;> decide) (by rw [c17] <;> decide) (by decide) ?_
      exact D220_23 v0 v1 v2 v3 v4 τ o hf Kb Ke0 _ _ hJ ls (lv_sub hl [0, 1, 2, 3, 4] rfl)
    rw [if_neg c17] at hf
    by_cases c58 : (x15 &&& (63 : Int32)) = (1 : Int32)
    · rw [if_pos c58] at hf
      refine lv_tableIn (tgt := 324) (off := 284) hx hb dL_law_40 (by rw [c58] <;> decide) (by rw [c58] <;> decide) (by rw [c58] <;> decide) (by decide) ?_
      exact D324_23 v0 v1 v2 v3 v4 τ o hf Kb Ke0 _ _ hJ ls (lv_sub hl [0, 1, 2, 3, 4] rfl)
    rw [if_neg c58] at hf
    by_cases c81 : (x15 &&& (63 : Int32)) = (2 : Int32)
    · rw [if_pos c81] at hf
      refine lv_tableIn (tgt := 380) (off := 340) hx hb dL_law_40 (by rw [c81] <;> decide) (by rw [c81] <;> decide) (by rw [c81] <;> decide) (by decide) ?_
      exact D380_23 v0 v1 v2 v3 v4 τ o hf Kb Ke0 _ _ hJ ls (lv_sub hl [0, 1, 2, 3, 4] rfl)
    rw [if_neg c81] at hf
    by_cases c97 : (x15 &&& (63 : Int32)) = (3 : Int32)
    · rw [if_pos c97] at hf
      refine lv_tableIn (tgt := 405) (off := 365) hx hb dL_law_40 (by rw [c97] <;> decide) (by rw [c97] <;> decide) (by rw [c97] <;> decide) (by decide) ?_
      exact D405_23 v0 v1 v2 v3 v4 τ o hf Kb Ke0 _ _ hJ ls (lv_sub hl [0, 1, 2, 3, 4] rfl)
    rw [if_neg c97] at hf
    by_cases c116 : (x15 &&& (63 : Int32)) = (4 : Int32)
    · rw [if_pos c116] at hf
      refine lv_tableIn (tgt := 449) (off := 409) hx hb dL_law_40 (by rw [c116] <;> decide) (by rw [c116] <;> decide) (by rw [c116] <;> decide) (by decide) ?_
      exact D449_23 v0 v1 v2 v3 v4 τ o hf Kb Ke0 _ _ hJ ls (lv_sub hl [0, 1, 2, 3, 4] rfl)
    rw [if_neg c116] at hf
    by_cases c128 : (x15 &&& (63 : Int32)) = (5 : Int32)
    · rw [if_pos c128] at hf
      refine lv_tableIn (tgt := 462) (off := 422) hx hb dL_law_40 (by rw [c128] <;> decide) (by rw [c128] <;> decide) (by rw [c128] <;> decide) (by decide) ?_
      exact D462_23 v0 v1 v2 v3 v4 τ o hf Kb Ke0 _ _ hJ ls (lv_sub hl [0, 1, 2, 3, 4] rfl)
    rw [if_neg c128] at hf
    by_cases c150 : (x15 &&& (63 : Int32)) = (6 : Int32)
    · rw [if_pos c150] at hf
      refine lv_tableIn (tgt := 510) (off := 470) hx hb dL_law_40 (by rw [c150] <;> decide) (by rw [c150] <;> decide) (by rw [c150] <;> decide) (by decide) ?_
      exact D510_23 v0 v1 v2 v3 v4 τ o hf Kb Ke0 _ _ hJ ls (lv_sub hl [0, 1, 2, 3, 4] rfl)
    rw [if_neg c150] at hf
    by_cases c162 : (x15 &&& (63 : Int32)) = (7 : Int32)
    · rw [if_pos c162] at hf
      refine lv_tableIn (tgt := 523) (off := 483) hx hb dL_law_40 (by rw [c162] <;> decide) (by rw [c162] <;> decide) (by rw [c162] <;> decide) (by decide) ?_
      exact D523_23 v0 v1 v2 v3 v4 τ o hf Kb Ke0 _ _ hJ ls (lv_sub hl [0, 1, 2, 3, 4] rfl)
    rw [if_neg c162] at hf
    by_cases c189 : (x15 &&& (63 : Int32)) = (8 : Int32)
    · rw [if_pos c189] at hf
      refine lv_tableIn (tgt := 591) (off := 551) hx hb dL_law_40 (by rw [c189] <;> decide) (by rw [c189] <;> decide) (by rw [c189] <;> decide) (by decide) ?_
      exact D591_23 v0 v1 v2 v3 v4 τ o hf Kb Ke0 _ _ hJ ls (lv_sub hl [0, 1, 2, 3, 4] rfl)
    rw [if_neg c189] at hf
    by_cases c224 : (x15 &&& (63 : Int32)) = (9 : Int32)
    · rw [if_pos c224] at hf
      refine lv_tableIn (tgt := 682) (off := 642) hx hb dL_law_40 (by rw [c224] <;> decide) (by rw [c224] <;> decide) (by rw [c224] <;> decide) (by decide) ?_
      exact D682_23 v0 v1 v2 v3 v4 τ o hf Kb Ke0 _ _ hJ ls (lv_sub hl [0, 1, 2, 3, 4] rfl)
    rw [if_neg c224] at hf
    by_cases c255 : (x15 &&& (63 : Int32)) = (10 : Int32)
    · rw [if_pos c255] at hf
      refine lv_tableIn (tgt := 762) (off := 722) hx hb dL_law_40 (by rw [c255] <;> decide) (by rw [c255] <;> decide) (by rw [c255] <;> decide) (by decide) ?_
      exact D762_23 v0 v1 v2 v3 v4 τ o hf Kb Ke0 _ _ hJ ls (lv_sub hl [0, 1, 2, 3, 4] rfl)
    rw [if_neg c255] at hf
    by_cases c286 : (x15 &&& (63 : Int32)) = (11 : Int32)
    · rw [if_pos c286] at hf
      refine lv_tableIn (tgt := 842) (off := 802) hx hb dL_law_40 (by rw [c286] <;> decide) (by rw [c286] <;> decide) (by rw [c286] <;> decide) (by decide) ?_
      exact D842_23 v0 v1 v2 v3 v4 τ o hf Kb Ke0 _ _ hJ ls (lv_sub hl [0, 1, 2, 3, 4] rfl)
    rw [if_neg c286] at hf
    by_cases c325 : (x15 &&& (63 : Int32)) = (12 : Int32)
    · rw [if_pos c325] at hf
      refine lv_tableIn (tgt := 945) (off := 905) hx hb dL_law_40 (by rw [c325] <;> decide) (by rw [c325] <;> decide) (by rw [c325] <;> decide) (by decide) ?_
      exact D945_23 v0 v1 v2 v3 v4 τ o hf Kb Ke0 _ _ hJ ls (lv_sub hl [0, 1, 2, 3, 4] rfl)
    rw [if_neg c325] at hf
    by_cases c364 : (x15 &&& (63 : Int32)) = (13 : Int32)
    · rw [if_pos c364] at hf
      refine lv_tableIn (tgt := 1048) (off := 1008) hx hb dL_law_40 (by rw [c364] <;> decide) (by rw [c364] <;> decide) (by rw [c364] <;> decide) (by decide) ?_
      exact D1048_23 v0 v1 v2 v3 v4 τ o hf Kb Ke0 _ _ hJ ls (lv_sub hl [0, 1, 2, 3, 4] rfl)
    rw [if_neg c364] at hf
    by_cases c403 : (x15 &&& (63 : Int32)) = (14 : Int32)
    · rw [if_pos c403] at hf
      refine lv_tableIn (tgt := 1151) (off := 1111) hx hb dL_law_40 (by rw [c403] <;> decide) (by rw [c403] <;> decide) (by rw [c403] <;> decide) (by decide) ?_
      exact D1151_23 v0 v1 v2 v3 v4 τ o hf Kb Ke0 _ _ hJ ls (lv_sub hl [0, 1, 2, 3, 4] rfl)
    rw [if_neg c403] at hf
    by_cases c446 : (x15 &&& (63 : Int32)) = (15 : Int32)
    · rw [if_pos c446] at hf
      refine lv_tableIn (tgt := 1268) (off := 1228) hx hb dL_law_40 (by rw [c446] <;> decide) (by rw [c446] <;> decide) (by rw [c446] <;> decide) (by decide) ?_
      exact D1268_23 v0 v1 v2 v3 v4 τ o hf Kb Ke0 _ _ hJ ls (lv_sub hl [0, 1, 2, 3, 4] rfl)
    rw [if_neg c446] at hf
    by_cases c472 : (x15 &&& (63 : Int32)) = (16 : Int32)
    · rw [if_pos c472] at hf
      refine lv_tableIn (tgt := 1328) (off := 1288) hx hb dL_law_40 (by rw [c472] <;> decide) (by rw [c472] <;> decide) (by rw [c472] <;> decide) (by decide) ?_
      exact D1328_23 v0 v1 v2 v3 v4 τ o hf Kb Ke0 _ _ hJ ls (lv_sub hl [0, 1, 2, 3, 4] rfl)
    rw [if_neg c472] at hf
    by_cases c494 : (x15 &&& (63 : Int32)) = (17 : Int32)
    · rw [if_pos c494] at hf
      refine lv_tableIn (tgt := 1376) (off := 1336) hx hb dL_law_40 (by rw [c494] <;> decide) (by rw [c494] <;> decide) (by rw [c494] <;> decide) (by decide) ?_
      exact D1376_23 v0 v1 v2 v3 v4 τ o hf Kb Ke0 _ _ hJ ls (lv_sub hl [0, 1, 2, 3, 4] rfl)
    rw [if_neg c494] at hf
    by_cases c525 : (x15 &&& (63 : Int32)) = (18 : Int32)
    · rw [if_pos c525] at hf
      refine lv_tableIn (tgt := 1455) (off := 1415) hx hb dL_law_40 (by rw [c525] <;> decide) (by rw [c525] <;> decide) (by rw [c525] <;> decide) (by decide) ?_
      exact D1455_23 v0 v1 v2 v3 v4 τ o hf Kb Ke0 _ _ hJ ls (lv_sub hl [0, 1, 2, 3, 4] rfl)
    rw [if_neg c525] at hf
    by_cases c556 : (x15 &&& (63 : Int32)) = (19 : Int32)
    · rw [if_pos c556] at hf
      refine lv_tableIn (tgt := 1534) (off := 1494) hx hb dL_law_40 (by rw [c556] <;> decide) (by rw [c556] <;> decide) (by rw [c556] <;> decide) (by decide) ?_
      exact D1534_23 v0 v1 v2 v3 v4 τ o hf Kb Ke0 _ _ hJ ls (lv_sub hl [0, 1, 2, 3, 4] rfl)
    rw [if_neg c556] at hf
    by_cases c583 : (x15 &&& (63 : Int32)) = (20 : Int32)
    · rw [if_pos c583] at hf
      refine lv_tableIn (tgt := 1602) (off := 1562) hx hb dL_law_40 (by rw [c583] <;> decide) (by rw [c583] <;> decide) (by rw [c583] <;> decide) (by decide) ?_
      exact D1602_23 v0 v1 v2 v3 v4 τ o hf Kb Ke0 _ _ hJ ls (lv_sub hl [0, 1, 2, 3, 4] rfl)
    rw [if_neg c583] at hf
    by_cases c620 : (x15 &&& (63 : Int32)) = (21 : Int32)
    · rw [if_pos c620] at hf
      refine lv_tableIn (tgt := 1710) (off := 1670) hx hb dL_law_40 (by rw [c620] <;> decide) (by rw [c620] <;> decide) (by rw [c620] <;> decide) (by decide) ?_
      exact D1710_23 v0 v1 v2 v3 v4 τ o hf Kb Ke0 _ _ hJ ls (lv_sub hl [0, 1, 2, 3, 4] rfl)
    rw [if_neg c620] at hf
    by_cases c650 : (x15 &&& (63 : Int32)) = (22 : Int32)
    · rw [if_pos c650] at hf
      refine lv_tableIn (tgt := 1782) (off := 1742) hx hb dL_law_40 (by rw [c650] <;> decide) (by rw [c650] <;> decide) (by rw [c650] <;> decide) (by decide) ?_
      exact D1782_23 v0 v1 v2 v3 v4 τ o hf Kb Ke0 _ _ hJ ls (lv_sub hl [0, 1, 2, 3, 4] rfl)
    rw [if_neg c650] at hf
    by_cases c659 : (x15 &&& (63 : Int32)) = (23 : Int32)
    · rw [if_pos c659] at hf
      refine lv_tableIn (tgt := 1793) (off := 1753) hx hb dL_law_40 (by rw [c659] <;> decide) (by rw [c659] <;> decide) (by rw [c659] <;> decide) (by decide) ?_
      exact D1793_23 v0 v1 v2 v3 v4 τ o hf Kb Ke0 _ _ hJ ls (lv_sub hl [0, 1, 2, 3, 4] rfl)
    rw [if_neg c659] at hf
    by_cases c671 : (x15 &&& (63 : Int32)) = (24 : Int32)
    · rw [if_pos c671] at hf
      refine lv_tableIn (tgt := 1806) (off := 1766) hx hb dL_law_40 (by rw [c671] <;> decide) (by rw [c671] <;> decide) (by rw [c671] <;> decide) (by decide) ?_
      exact D1806_23 v0 v1 v2 v3 v4 τ o hf Kb Ke0 _ _ hJ ls (lv_sub hl [0, 1, 2, 3, 4] rfl)
    rw [if_neg c671] at hf
    by_cases c698 : (x15 &&& (63 : Int32)) = (25 : Int32)
    · rw [if_pos c698] at hf
      refine lv_tableIn (tgt := 1873) (off := 1833) hx hb dL_law_40 (by rw [c698] <;> decide) (by rw [c698] <;> decide) (by rw [c698] <;> decide) (by decide) ?_
      exact D1873_23 v0 v1 v2 v3 v4 τ o hf Kb Ke0 _ _ hJ ls (lv_sub hl [0, 1, 2, 3, 4] rfl)
    rw [if_neg c698] at hf
    by_cases c731 : (x15 &&& (63 : Int32)) = (26 : Int32)
    · rw [if_pos c731] at hf
      refine lv_tableIn (tgt := 1969) (off := 1929) hx hb dL_law_40 (by rw [c731] <;> decide) (by rw [c731] <;> decide) (by rw [c731] <;> decide) (by decide) ?_
      exact D1969_23 v0 v1 v2 v3 v4 τ o hf Kb Ke0 _ _ hJ ls (lv_sub hl [0, 1, 2, 3, 4] rfl)
    rw [if_neg c731] at hf
    by_cases c766 : (x15 &&& (63 : Int32)) = (27 : Int32)
    · rw [if_pos c766] at hf
      refine lv_tableIn (tgt := 2061) (off := 2021) hx hb dL_law_40 (by rw [c766] <;> decide) (by rw [c766] <;> decide) (by rw [c766] <;> decide) (by decide) ?_
      exact D2061_23 v0 v1 v2 v3 v4 τ o hf Kb Ke0 _ _ hJ ls (lv_sub hl [0, 1, 2, 3, 4] rfl)
    rw [if_neg c766] at hf
    by_cases c793 : (x15 &&& (63 : Int32)) = (28 : Int32)
    · rw [if_pos c793] at hf
      refine lv_tableIn (tgt := 2129) (off := 2089) hx hb dL_law_40 (by rw [c793] <;> decide) (by rw [c793] <;> decide) (by rw [c793] <;> decide) (by decide) ?_
      exact D2129_23 v0 v1 v2 v3 v4 τ o hf Kb Ke0 _ _ hJ ls (lv_sub hl [0, 1, 2, 3, 4] rfl)
    rw [if_neg c793] at hf
    by_cases c812 : (x15 &&& (63 : Int32)) = (29 : Int32)
    · rw [if_pos c812] at hf
      refine lv_tableIn (tgt := 2173) (off := 2133) hx hb dL_law_40 (by rw [c812] <;> decide) (by rw [c812] <;> decide) (by rw [c812] <;> decide) (by decide) ?_
      exact D2173_23 v0 v1 v2 v3 v4 τ o hf Kb Ke0 _ _ hJ ls (lv_sub hl [0, 1, 2, 3, 4] rfl)
    rw [if_neg c812] at hf
    by_cases c843 : (x15 &&& (63 : Int32)) = (30 : Int32)
    · rw [if_pos c843] at hf
      refine lv_tableIn (tgt := 2252) (off := 2212) hx hb dL_law_40 (by rw [c843] <;> decide) (by rw [c843] <;> decide) (by rw [c843] <;> decide) (by decide) ?_
      exact D2252_23 v0 v1 v2 v3 v4 τ o hf Kb Ke0 _ _ hJ ls (lv_sub hl [0, 1, 2, 3, 4] rfl)
    rw [if_neg c843] at hf
    by_cases c866 : (x15 &&& (63 : Int32)) = (31 : Int32)
    · rw [if_pos c866] at hf
      refine lv_tableIn (tgt := 2307) (off := 2267) hx hb dL_law_40 (by rw [c866] <;> decide) (by rw [c866] <;> decide) (by rw [c866] <;> decide) (by decide) ?_
      exact D2307_23 v0 v1 v2 v3 v4 τ o hf Kb Ke0 _ _ hJ ls (lv_sub hl [0, 1, 2, 3, 4] rfl)
    rw [if_neg c866] at hf
    by_cases c897 : (x15 &&& (63 : Int32)) = (32 : Int32)
    · rw [if_pos c897] at hf
      refine lv_tableIn (tgt := 2387) (off := 2347) hx hb dL_law_40 (by rw [c897] <;> decide) (by rw [c897] <;> decide) (by rw [c897] <;> decide) (by decide) ?_
      exact D2387_23 v0 v1 v2 v3 v4 τ o hf Kb Ke0 _ _ hJ ls (lv_sub hl [0, 1, 2, 3, 4] rfl)
    rw [if_neg c897] at hf
    by_cases c915 : (x15 &&& (63 : Int32)) = (33 : Int32)
    · rw [if_pos c915] at hf
      refine lv_tableIn (tgt := 2423) (off := 2383) hx hb dL_law_40 (by rw [c915] <;> decide) (by rw [c915] <;> decide) (by rw [c915] <;> decide) (by decide) ?_
      exact D2423_23 v0 v1 v2 v3 v4 τ o hf Kb Ke0 _ _ hJ ls (lv_sub hl [0, 1, 2, 3, 4] rfl)
    rw [if_neg c915] at hf
    by_cases c942 : (x15 &&& (63 : Int32)) = (34 : Int32)
    · rw [if_pos c942] at hf
      refine lv_tableIn (tgt := 2490) (off := 2450) hx hb dL_law_40 (by rw [c942] <;> decide) (by rw [c942] <;> decide) (by rw [c942] <;> decide) (by decide) ?_
      exact D2490_23 v0 v1 v2 v3 v4 τ o hf Kb Ke0 _ _ hJ ls (lv_sub hl [0, 1, 2, 3, 4] rfl)
    rw [if_neg c942] at hf
    by_cases c973 : (x15 &&& (63 : Int32)) = (35 : Int32)
    · rw [if_pos c973] at hf
      refine lv_tableIn (tgt := 2570) (off := 2530) hx hb dL_law_40 (by rw [c973] <;> decide) (by rw [c973] <;> decide) (by rw [c973] <;> decide) (by decide) ?_
      exact D2570_23 v0 v1 v2 v3 v4 τ o hf Kb Ke0 _ _ hJ ls (lv_sub hl [0, 1, 2, 3, 4] rfl)
    rw [if_neg c973] at hf
    by_cases c1004 : (x15 &&& (63 : Int32)) = (36 : Int32)
    · rw [if_pos c1004] at hf
      refine lv_tableIn (tgt := 2649) (off := 2609) hx hb dL_law_40 (by rw [c1004] <;> decide) (by rw [c1004] <;> decide) (by rw [c1004] <;> decide) (by decide) ?_
      exact D2649_23 v0 v1 v2 v3 v4 τ o hf Kb Ke0 _ _ hJ ls (lv_sub hl [0, 1, 2, 3, 4] rfl)
    rw [if_neg c1004] at hf
    by_cases c1031 : (x15 &&& (63 : Int32)) = (37 : Int32)
    · rw [if_pos c1031] at hf
      refine lv_tableIn (tgt := 2717) (off := 2677) hx hb dL_law_40 (by rw [c1031] <;> decide) (by rw [c1031] <;> decide) (by rw [c1031] <;> decide) (by decide) ?_
      exact D2717_23 v0 v1 v2 v3 v4 τ o hf Kb Ke0 _ _ hJ ls (lv_sub hl [0, 1, 2, 3, 4] rfl)
    rw [if_neg c1031] at hf
    by_cases c1054 : (x15 &&& (63 : Int32)) = (38 : Int32)
    · rw [if_pos c1054] at hf
      refine lv_tableIn (tgt := 2773) (off := 2733) hx hb dL_law_40 (by rw [c1054] <;> decide) (by rw [c1054] <;> decide) (by rw [c1054] <;> decide) (by decide) ?_
      exact D2773_23 v0 v1 v2 v3 v4 τ o hf Kb Ke0 _ _ hJ ls (lv_sub hl [0, 1, 2, 3, 4] rfl)
    rw [if_neg c1054] at hf
    by_cases c1073 : (x15 &&& (63 : Int32)) = (39 : Int32)
    · rw [if_pos c1073] at hf
      refine lv_tableIn (tgt := 2817) (off := 2777) hx hb dL_law_40 (by rw [c1073] <;> decide) (by rw [c1073] <;> decide) (by rw [c1073] <;> decide) (by decide) ?_
      exact D2817_23 v0 v1 v2 v3 v4 τ o hf Kb Ke0 _ _ hJ ls (lv_sub hl [0, 1, 2, 3, 4] rfl)
    rw [if_neg c1073] at hf
    by_cases c1100 : (x15 &&& (63 : Int32)) = (40 : Int32)
    · rw [if_pos c1100] at hf
      refine lv_tableIn (tgt := 2885) (off := 2845) hx hb dL_law_40 (by rw [c1100] <;> decide) (by rw [c1100] <;> decide) (by rw [c1100] <;> decide) (by decide) ?_
      exact D2885_23 v0 v1 v2 v3 v4 τ o hf Kb Ke0 _ _ hJ ls (lv_sub hl [0, 1, 2, 3, 4] rfl)
    rw [if_neg c1100] at hf
    refine lv_tableOut (tgt := 2910) hx hb dL_law_40 (by have := lv_neT (a := (0)) c17 (by decide); have := lv_neT (a := (1)) c58 (by decide); have := lv_neT (a := (2)) c81 (by decide); have := lv_neT (a := (3)) c97 (by decide); have := lv_neT (a := (4)) c116 (by decide); have := lv_neT (a := (5)) c128 (by decide); have := lv_neT (a := (6)) c150 (by decide); have := lv_neT (a := (7)) c162 (by decide); have := lv_neT (a := (8)) c189 (by decide); have := lv_neT (a := (9)) c224 (by decide); have := lv_neT (a := (10)) c255 (by decide); have := lv_neT (a := (11)) c286 (by decide); have := lv_neT (a := (12)) c325 (by decide); have := lv_neT (a := (13)) c364 (by decide); have := lv_neT (a := (14)) c403 (by decide); have := lv_neT (a := (15)) c446 (by decide); have := lv_neT (a := (16)) c472 (by decide); have := lv_neT (a := (17)) c494 (by decide); have := lv_neT (a := (18)) c525 (by decide); have := lv_neT (a := (19)) c556 (by decide); have := lv_neT (a := (20)) c583 (by decide); have := lv_neT (a := (21)) c620 (by decide); have := lv_neT (a := (22)) c650 (by decide); have := lv_neT (a := (23)) c659 (by decide); have := lv_neT (a := (24)) c671 (by decide); have := lv_neT (a := (25)) c698 (by decide); have := lv_neT (a := (26)) c731 (by decide); have := lv_neT (a := (27)) c766 (by decide); have := lv_neT (a := (28)) c793 (by decide); have := lv_neT (a := (29)) c812 (by decide); have := lv_neT (a := (30)) c843 (by decide); have := lv_neT (a := (31)) c866 (by decide); have := lv_neT (a := (32)) c897 (by decide); have := lv_neT (a := (33)) c915 (by decide); have := lv_neT (a := (34)) c942 (by decide); have := lv_neT (a := (35)) c973 (by decide); have := lv_neT (a := (36)) c1004 (by decide); have := lv_neT (a := (37)) c1031 (by decide); have := lv_neT (a := (38)) c1054 (by decide); have := lv_neT (a := (39)) c1073 (by decide); have := lv_neT (a := (40)) c1100 (by decide); omega) (by decide) ?_
    exact D2910_23 v0 v1 v2 v3 v4 τ o hf Kb Ke0 _ _ hJ ls (lv_sub hl [0, 1, 2, 3, 4] rfl)
set_option maxHeartbeats 16000000 in
set_option maxRecDepth 100000 in
theorem lw_L23 {p : Program} {e : Env} {s : State} {m : MethodId} {below : List Frame} {meth : Method} {c : Code} (l : Launch) (hlt : l.stackTraces = false) {b L : Nat} {xs : Nat → Int32} (C0 : lw_At p s m meth c b L xs) (G : mx_G) (P : mx_P) (σ : mx_S) (hK : mx_K G P s) (hJ : mx_J G P s.heap (mxz σ) (mxu σ) σ s.heap []) (hbE : mpb P = s.heap.size) (hRc : room_1.cells = mpc P - mxz σ) (hRs : room_1.slots = mps P - mxu σ) : ∀ (v0 : Nat) (v1 : Nat) (v2 : Nat) (v3 : Nat) (n : Nat) (v4 : Int32) (τ : mx_S) (o : (mx_S)), mx_lp (f_L_law_L23 P L xs v0 v1 v2 v3) n (v4, τ) = some o → (∀  (υ : mx_S), o = υ → ∀ (H : Heap) (locs : List Loc), mx_J G P s.heap (mxz σ) (mxu σ) υ H locs → ∀ ls : Array Slot, lv_has ls 8 [] → W p l e room_1 s m #[Value.ref b] below meth c H locs (mxz υ - mxz σ) (mxu υ - mxu σ) (lw_Z below #[Value.ref b] s) (F0 m 2916 ls [])) → ∀ (H : Heap) (locs : List Loc), mx_J G P s.heap (mxz σ) (mxu σ) τ H locs → ∀ ls : Array Slot, lv_has ls 8 [(0, .ref b), (1, .ref v1), (2, .ref v2), (3, .ref v3), (4, .int v4)] → W p l e room_1 s m #[Value.ref b] below meth c H locs (mxz τ - mxz σ) (mxu τ - mxu σ) (lw_Z below #[Value.ref b] s) (F0 m 23 ls []) := by
  obtain ⟨hx, hb, hr, hml, hown, hts, hX, hbl, hlocks, hgv⟩ := id C0
  have hts : ∀ w ∈ mx_tbl, w.before #[Value.ref b] s = true := fun w hw => hts w (List.mem_filter.mp hw).1
  have hz0 := hJ.2.1
  have hbP : b < mpb P := by omega
  have hC : mpc P - mxz σ ≤ room_1.cells := Nat.le_of_eq hRc.symm
  have hS : mps P - mxu σ ≤ room_1.slots := Nat.le_of_eq hRs.symm
  have hown : s.vm.findClass RLn = some m.cls := hown
  have B23 := @lw_B23 p e s m below meth c l hlt b L xs C0 G P σ hK hJ hbE hRc hRs
  intro v0 v1 v2 v3 n
  induction n with
  | zero =>
    intro v4 τ o hf
    rw [mx_lp0] at hf
    cases hf
  | succ n ih =>
    intro v4 τ o hf Ke0 H locs hJ ls hl
    rw [mx_lpS] at hf
    obtain ⟨b, eb, hf⟩ := mb0 hf
    refine B23 v0 v1 v2 v3 v4 τ b eb (fun y4 υ ho H locs hJ ls hl => ?_) (fun  υ ho H locs hJ ls hl => ?_) H locs hJ ls hl
    · subst ho
      exact ih y4 υ o hf Ke0 H locs hJ ls hl
    · subst ho
      exact Ke0  υ (Option.some.inj hf).symm _ _ hJ ls hl
set_option maxHeartbeats 16000000 in
set_option maxRecDepth 100000 in
theorem c_L_law {p : Program} {e : Env} {s : State} {m : MethodId} {below : List Frame} {meth : Method} {c : Code} (l : Launch) (hlt : l.stackTraces = false) {b L : Nat} {xs : Nat → Int32} (C0 : lw_At p s m meth c b L xs) (G : mx_G) (P : mx_P) (σ σ' : mx_S) (hK : mx_K G P s) (hJ : mx_J G P s.heap (mxz σ) (mxu σ) σ s.heap []) (hbE : mpb P = s.heap.size) (hRc : room_1.cells = mpc P - mxz σ) (hRs : room_1.slots = mps P - mxu σ) (hf : f_L_law P L xs b σ = some (1, σ')) : W p l e room_1 s m #[Value.ref b] below meth c s.heap [] 0 0 (lw_Z below #[Value.ref b] s) (entryFrame m ([Value.ref b] : List Value).toArray 8) := by
  obtain ⟨hx, hb, hr, hml, hown, hts, hX, hbl, hlocks, hgv⟩ := id C0
  have hts : ∀ w ∈ mx_tbl, w.before #[Value.ref b] s = true := fun w hw => hts w (List.mem_filter.mp hw).1
  have hz0 := hJ.2.1
  have hbP : b < mpb P := by omega
  have hC : mpc P - mxz σ ≤ room_1.cells := Nat.le_of_eq hRc.symm
  have hS : mps P - mxu σ ≤ room_1.slots := Nat.le_of_eq hRs.symm
  have hown : s.vm.findClass RLn = some m.cls := hown
  have hl := lv_entry ([.ref b]) (n := 8) (Nat.le_of_ble_eq_true rfl)
  rw [lg_entry_eq]
  generalize (lg_sl ([.ref b]) ++ List.replicate (8 - (lg_sl ([.ref b])).length) Slot.unset).toArray = ls at hl ⊢
  have hl : lv_has ls 8 [(0, .ref b)] := hl
  have L23 := @lw_L23 p e s m below meth c l hlt b L xs C0 G P σ hK hJ hbE hRc hRs
  unfold f_L_law at hf
  have hJ0 : W p l e room_1 s m #[Value.ref b] below meth c s.heap [] (mxz σ - mxz σ) (mxu σ - mxu σ) (lw_Z below #[Value.ref b] s) (F0 m 0 ls []) := by
    obtain ⟨b1, σ2, e3, hf⟩ := mc0 hf
    refine mx_nO hx hb hts wi_11 cd_11.1 hown hK hJ hRc hRs (ci := 11) rfl e3 kw_29 kw_30 kw_1 df_11 dL_law_0 (fun H locs hJ => ?_)
    refine lv_dup hx hb dL_law_3 rfl ?_
    obtain ⟨σ4, e5, hf⟩ := mb0 hf
    refine mx_callI (As := []) (rest := [.ref b1]) hx hb hml hts hown hK hJ hRc hRs (c_X11_init l G P b1 σ2 σ4 e5) me_X11_init kw_32 rfl kw_31 (Nat.le_of_ble_eq_true rfl) (Nat.le_of_ble_eq_true rfl) rfl hl.1 rfl (Nat.le_of_ble_eq_true rfl) dL_law_4 (fun H locs hJ => ?_)
    refine lv_astore_n (lv' := [(1, .ref b1), (0, .ref b)]) hx hb dL_law_7 rfl hl (by decide) rfl (fun ls hl => ?_)
    obtain ⟨b6, σ7, e8, hf⟩ := mc0 hf
    refine mx_nO hx hb hts wi_12 cd_12.1 hown hK hJ hRc hRs (ci := 12) rfl e8 kw_1857 kw_1858 kw_13 df_12 dL_law_8 (fun H locs hJ => ?_)
    refine lv_dup hx hb dL_law_11 rfl ?_
    obtain ⟨σ9, e10, hf⟩ := mb0 hf
    refine mx_callI (As := []) (rest := [.ref b6]) hx hb hml hts hown hK hJ hRc hRs (c_X12_init l G P b6 σ7 σ9 e10) me_X12_init kw_1860 rfl kw_1859 (Nat.le_of_ble_eq_true rfl) (Nat.le_of_ble_eq_true rfl) rfl hl.1 rfl (Nat.le_of_ble_eq_true rfl) dL_law_12 (fun H locs hJ => ?_)
    refine lv_astore_n (lv' := [(2, .ref b6), (1, .ref b1), (0, .ref b)]) hx hb dL_law_15 rfl hl (by decide) rfl (fun ls hl => ?_)
    refine lv_iconst (v := 1) hx hb dL_law_16 (by decide) ?_
    obtain ⟨b11, σ12, e13, hf⟩ := mc0 hf
    refine mx_nA hx hb hts hK hJ hRc hRs (t := 1) (by decide) rfl (fun _ h => h) (by decide) rfl e13 kw_138 dL_law_17 (fun H locs hJ => ?_)
    refine lv_astore_n (lv' := [(3, .ref b11), (2, .ref b6), (1, .ref b1), (0, .ref b)]) hx hb dL_law_19 rfl hl (by decide) rfl (fun ls hl => ?_)
    refine lv_iconst (v := 0) hx hb dL_law_20 (by decide) ?_
    refine lv_istore (lv' := [(4, .int (0 : Int32)), (3, .ref b11), (2, .ref b6), (1, .ref b1), (0, .ref b)]) hx hb dL_law_21 hl (by decide) rfl (fun ls hl => ?_)
    obtain ⟨o1116, e1117, hf⟩ := mb0 hf
    refine L23 b b1 b6 b11 (mpN P) (0 : Int32) σ12 o1116 e1117 (fun σ1118 ho H locs hJ ls hl => ?_) _ _ hJ ls (lv_sub hl [4, 3, 2, 1, 0] rfl)
    · rw [ho] at hf
      have hf : (mr_Z (1 : Int32) σ1118) = some (1, σ') := hf
      refine lv_iconst (v := 1) hx hb dL_law_2916 (by decide) ?_
      exact mx_lawret hx hb hr hlocks hbE hJ hC hS hf dL_law_2917
  rw [Nat.sub_self, Nat.sub_self] at hJ0
  exact hJ0
