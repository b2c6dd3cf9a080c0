/-! ===== mx: new long[n][k] ===== -/
theorem mx_gr_r (G : mx_G) (σ : mx_S) (N K q t n : Nat) (H : Heap) (h : H[q]? = some (arrV (mgA G t) n (fun j => mx_val (mx_at t) (if mxz σ ≤ q ∧ q < mxz σ + 1 + N then 0 else mxI σ q j) (if mxz σ ≤ q ∧ q < mxz σ + 1 + N then 0 else mxL σ q j) (if q = mxz σ then (if j < N then some (mxz σ + 1 + j) else none) else if mxz σ ≤ q ∧ q < mxz σ + 1 + N then none else mxR σ q j)))) : mx_ar G (mx_gr σ N K) q t n H := h
theorem mx_outer (c : ClassId) (N h0 : Nat) : ∀ i : Nat, Jvm.Free.Multi.outerC c N h0 i = arrV c N (fun j => va_rf (if j < i then some (h0 + 1 + j) else none))
  | 0 => by
    show ({ cls := c, slots := Array.replicate N .null, vm := .none } : Cell) = _
    rw [arrV_new]
    congr 1
  | i + 1 => by
    show (Jvm.Free.Multi.outerC c N h0 i).setSlot i (.ref (h0 + 1 + i)) = _
    rw [mx_outer c N h0 i, arrV_store]
    congr 1
    funext j
    by_cases h1 : j = i
    · subst h1
      simp [updV, va_rf]
    · by_cases h2 : j < i
      · have : j < i + 1 := by omega
        simp [updV, h1, h2, this]
      · have : ¬ j < i + 1 := by omega
        simp [updV, h1, h2, this]
section MXM
variable {p : Program} {l : Launch} {e : Env} {R : Room} {s : State} {m : MethodId} {args : Array Value} {below : List Frame} {meth : Method} {c : Code} {H : Heap} {locs : List Loc} {cells slots : Nat} {Q : State → Prop}
variable {cc : ByteArray} {pc : Nat} {ls : Array Slot} {rest : List Value} {G : mx_G} {P : mx_P} {z0 u0 : Nat} {σ σ' : mx_S} {a : Nat}
theorem mx_nM (hexec : p.tables.exec = Jvm.exec) (hb : c.code = cc) {own : String} (hts : ∀ w ∈ mx_tbl, w.before args s = true) (hown : s.vm.findClass own = some m.cls) (hK : mx_K G P s) (hJ : mx_J G P s.heap z0 u0 σ H locs) (hRc : R.cells = mpc P - z0) (hRs : R.slots = mps P - u0) {n k : Int32} {q index : Nat} (hx : mn_M P σ n k = some (q, σ')) (hcl : Cond.classLink own index ("[" ++ (FieldType.array .long).toString) ∈ mx_tbl) (harr : Cond.arrayClass .long ∈ mx_tbl) (hdg : decode cc pc = .ok (.multianewarray index 2, 4))
    (kk : ∀ (H1 : Heap) (locs1 : List Loc), mx_J G P s.heap z0 u0 σ' H1 locs1 → W p l e R s m args below meth c H1 locs1 (mxz σ' - z0) (mxu σ' - u0) Q (F0 m (pc + 4) ls (.ref q :: rest))) : W p l e R s m args below meth c H locs (mxz σ - z0) (mxu σ - u0) Q (F0 m pc ls (.int k :: .int n :: rest)) := by
  unfold mn_M at hx
  split at hx
  · rename_i hroom
    obtain ⟨r0, r1, r2, r3, r4, r5⟩ := hroom
    generalize hN : n.toNatClampNeg = N at *
    generalize hM : k.toNatClampNeg = K at *
    have e1 : mxz σ = q := congrArg Prod.fst (Option.some.inj hx)
    have e2 : mx_gr σ N K = σ' := congrArg Prod.snd (Option.some.inj hx)
    have hsz := hJ.2.1
    have hz0 := hJ.2.2.2.1
    have hu0 := hJ.2.2.2.2.2.1
    have hlt9 : ∀ x sh, mxA σ x = some sh → x < H.size := fun x sh h => mx_J_lt hJ h
    intro T hT Xs
    obtain ⟨vm₁, cA, comp, -, fA, fC, -, -, X', step⟩ := Xs.multianewarray2F hexec hown (hts _ hcl) (show (Cond.arrayOver (.array .long)).before args s = true from hK.2.2.2.2.2.2.2.2.2.2.2.2.1) (hts _ harr) (g := F0 m pc ls (.int k :: .int n :: rest)) rfl (by rw [hb]; exact hdg) rfl r0 r1 (by rw [hN]; exact Nat.le_trans (Nat.mul_le_mul r2 (Nat.le_refl 4)) (by decide)) (by rw [hM]; exact Nat.le_trans (Nat.mul_le_mul r3 (show componentBytes .long ≤ 8 by decide)) (by decide)) (by rw [hM]; omega) rfl rfl (by rw [hN, hRc]; omega) (by rw [hN, hM, hRs]; omega)
    rw [hN, hM] at X' step
    have hcA : cA = mgA G 7 := Option.some.inj (fA.symm.trans (hK.arr (t := 7) (by decide)).2)
    have hcC : comp = mgA G 1 := Option.some.inj (fC.symm.trans (hK.arr (t := 1) (by decide)).2)
    subst hcA; subst hcC
    generalize hF : Jvm.Free.Multi.fill (T.setVm vm₁) (mgA G 7) (mgA G 1) N K (defaultValue .long) N = F at X' step
    have hTh : (T.setVm vm₁).heap = H := hT
    obtain ⟨f1, f2, -, -⟩ := Jvm.Free.Multi.fill_facts (T.setVm vm₁) (mgA G 7) (mgA G 1) N K (defaultValue .long) N
    rw [hF, hTh] at f1 f2
    have hold : ∀ x : Nat, x < H.size → F.heap[x]? = H[x]? := fun x hx => by
      have := Jvm.Free.Multi.fill_old (T.setVm vm₁) (mgA G 7) (mgA G 1) N K (defaultValue .long) (a := x) (by rw [hTh]; exact hx) N
      rw [hF, hTh] at this
      exact this
    have hrow : ∀ j : Nat, j < N → F.heap[H.size + 1 + j]? = some (Jvm.Free.Multi.innerC (mgA G 1) K (defaultValue .long)) := fun j hj => by
      have := Jvm.Free.Multi.fill_inner (T.setVm vm₁) (mgA G 7) (mgA G 1) N K (defaultValue .long) N j hj
      rw [hF, hTh] at this
      exact this
    rw [mx_outer] at f2
    have hJ' : mx_J G P s.heap z0 u0 σ' F.heap locs := by
      obtain ⟨⟨a1, a2⟩, j1, j2, j3, j4, j5, j6, j7, j8⟩ := hJ
      rw [← e2]
      refine ⟨⟨fun x ci hx => ?_, fun x t n' hx => ?_⟩, by rw [f1, hsz]; rfl, j2, by show z0 ≤ mxz σ + 1 + N; omega, r4, by show u0 ≤ mxu σ + N + N * K; omega, r5, j7, fun x hx => (hold x (by omega)).trans (j8 x hx)⟩
      · rw [mx_gr_A] at hx
        split at hx
        · cases hx
        · rename_i h1
          split at hx
          · cases hx
          · rename_i h2
            have hxl := hlt9 x _ hx
            obtain ⟨r, hr, ob⟩ := a1 x ci hx
            refine ⟨r, hr, (ob.kept (hold x hxl)).to fun j _ => ?_⟩
            rw [mx_gr_I, mx_gr_L, mx_gr_R, if_neg h2, if_neg h2, if_neg h1, if_neg h2]
      · rw [mx_gr_A] at hx
        split at hx
        · rename_i h1
          cases hx
          refine ⟨by decide, ?_⟩
          apply mx_gr_r
          rw [h1, ← hsz, f2]
          congr 2
          funext j
          rw [if_pos rfl]
          rfl
        · rename_i h1
          split at hx
          · rename_i h2
            cases hx
            refine ⟨by decide, ?_⟩
            apply mx_gr_r
            obtain ⟨j, hj, rfl⟩ : ∃ j, j < N ∧ x = H.size + 1 + j := ⟨x - (H.size + 1), by omega, by omega⟩
            rw [hrow j hj]
            show some ({ cls := mgA G 1, slots := Array.replicate K (defaultValue .long), vm := .none } : Cell) = _
            rw [arrV_new]
            congr 2
            funext j'
            rw [if_pos h2, if_pos h2]
            rfl
          · rename_i h2
            have hxl := hlt9 x _ hx
            refine ⟨(a2 x t n' hx).1, ?_⟩
            apply mx_gr_r
            rw [hold x hxl, (a2 x t n' hx).2]
            congr 2
            funext j
            rw [if_neg h2, if_neg h2, if_neg h1, if_neg h2]
    have hc1 : mxz σ - z0 + 1 + N = mxz σ' - z0 := by rw [← e2]; show _ = mxz σ + 1 + N - z0; omega
    have hs1 : mxu σ - u0 + N + N * K = mxu σ' - u0 := by rw [← e2]; show _ = mxu σ + N + N * K - u0; omega
    rw [hc1, hs1] at X'
    have := kk F.heap locs hJ' F rfl X'
    obtain ⟨t2, b1, b2⟩ := this
    refine ⟨t2, step t2 ?_, b2⟩
    rw [← e1, ← hsz, ← hT] at b1
    exact b1
  · cases hx
end MXM
