/-! ===== mx: the rows of the machine over the picture ===== -/
section MX
variable {p : Program} {l : Launch} {e : Env} {R : Room} {s : State} {m : MethodId} {args : Array Value} {below : List Frame} {meth : Method} {c : Code} {H : Heap} {locs : List Loc} {cells slots : Nat} {Q : State → Prop}
variable {cc : ByteArray} {pc : Nat} {ls : Array Slot} {rest : List Value} {G : mx_G} {P : mx_P} {z0 u0 : Nat} {σ σ' : mx_S} {a : Nat}
theorem mx_get (hexec : p.tables.exec = Jvm.exec) (hb : c.code = cc) {own C : String} {T : u_T} {N ci index : Nat} (hts : ∀ w ∈ mx_tbl, w.before args s = true) (hin : ∀ w ∈ u_ws C T N, w ∈ mx_tbl) (hown : s.vm.findClass own = some m.cls) (hK : mx_K G P s) (hJ : mx_J G P s.heap z0 u0 σ H locs) (hc : mx_cl[ci]? = some (C, T, N)) (hs : mxA σ a = some (.inl ci)) {k : Nat} (hk : k < N) (hlink : Cond.fieldLink own index (T k).1 (T k).2.1 (T k).2.2.1 ∈ mx_tbl) {v : Value} (hv : mx_val (mx_ty ci k) (mxI σ a k) (mxL σ a k) (mxR σ a k) = v) (hdg : decode cc pc = .ok (.getfield index, 3))
    (kk : W p l e R s m args below meth c H locs cells slots Q (F0 m (pc + 3) ls (v :: rest))) : W p l e R s m args below meth c H locs cells slots Q (F0 m pc ls (.ref a :: rest)) := by
  obtain ⟨r, h1, cell, q1, q2, q3, q4⟩ := hJ.1.1 a ci hs
  have hr : r = (C, T, N) := Option.some.inj (h1.symm.trans hc)
  subst hr
  obtain ⟨hS, hfc, kC, hkC, hkind⟩ := hK.1.1 ci _ hc
  obtain ⟨cf, kf, fi, f, hi, hsl⟩ := hS k hk
  refine W.getf hexec hb hown (hts _ hlink) hi (u_facts hfc hkC (u_lays hts hin hk) hi).1 q1 (by rw [q3]; exact fun h => by cases h) (v := v) ?_ rfl rfl hdg kk
  rw [hsl, q4 k hk, ← hv]
theorem mx_gI (hexec : p.tables.exec = Jvm.exec) (hb : c.code = cc) {own C : String} {T : u_T} {N ci index : Nat} (hts : ∀ w ∈ mx_tbl, w.before args s = true) (hin : ∀ w ∈ u_ws C T N, w ∈ mx_tbl) (hown : s.vm.findClass own = some m.cls) (hK : mx_K G P s) (hJ : mx_J G P s.heap z0 u0 σ H locs) (hc : mx_cl[ci]? = some (C, T, N)) {k : Nat} {x : Int32} (hx : mg_I σ a ci k = some x) (hk : k < N) (hlink : Cond.fieldLink own index (T k).1 (T k).2.1 (T k).2.2.1 ∈ mx_tbl) (hv : ∀ x y r, mx_val (mx_ty ci k) x y r = .int x) (hdg : decode cc pc = .ok (.getfield index, 3))
    (kk : W p l e R s m args below meth c H locs cells slots Q (F0 m (pc + 3) ls (.int x :: rest))) : W p l e R s m args below meth c H locs cells slots Q (F0 m pc ls (.ref a :: rest)) := by
  unfold mg_I at hx
  split at hx
  · rename_i hs
    cases hx
    exact mx_get hexec hb hts hin hown hK hJ hc hs hk hlink (hv _ _ _) hdg kk
  · cases hx
theorem mx_gL (hexec : p.tables.exec = Jvm.exec) (hb : c.code = cc) {own C : String} {T : u_T} {N ci index : Nat} (hts : ∀ w ∈ mx_tbl, w.before args s = true) (hin : ∀ w ∈ u_ws C T N, w ∈ mx_tbl) (hown : s.vm.findClass own = some m.cls) (hK : mx_K G P s) (hJ : mx_J G P s.heap z0 u0 σ H locs) (hc : mx_cl[ci]? = some (C, T, N)) {k : Nat} {x : Int64} (hx : mg_L σ a ci k = some x) (hk : k < N) (hlink : Cond.fieldLink own index (T k).1 (T k).2.1 (T k).2.2.1 ∈ mx_tbl) (hv : ∀ x y r, mx_val (mx_ty ci k) x y r = .long y) (hdg : decode cc pc = .ok (.getfield index, 3))
    (kk : W p l e R s m args below meth c H locs cells slots Q (F0 m (pc + 3) ls (.long x :: rest))) : W p l e R s m args below meth c H locs cells slots Q (F0 m pc ls (.ref a :: rest)) := by
  unfold mg_L at hx
  split at hx
  · rename_i hs
    cases hx
    exact mx_get hexec hb hts hin hown hK hJ hc hs hk hlink (hv _ _ _) hdg kk
  · cases hx
theorem mx_gR (hexec : p.tables.exec = Jvm.exec) (hb : c.code = cc) {own C : String} {T : u_T} {N ci index : Nat} (hts : ∀ w ∈ mx_tbl, w.before args s = true) (hin : ∀ w ∈ u_ws C T N, w ∈ mx_tbl) (hown : s.vm.findClass own = some m.cls) (hK : mx_K G P s) (hJ : mx_J G P s.heap z0 u0 σ H locs) (hc : mx_cl[ci]? = some (C, T, N)) {k x : Nat} (hx : mg_R σ a ci k = some x) (hk : k < N) (hlink : Cond.fieldLink own index (T k).1 (T k).2.1 (T k).2.2.1 ∈ mx_tbl) (hv : ∀ x y r, mx_val (mx_ty ci k) x y r = va_rf r) (hdg : decode cc pc = .ok (.getfield index, 3))
    (kk : W p l e R s m args below meth c H locs cells slots Q (F0 m (pc + 3) ls (.ref x :: rest))) : W p l e R s m args below meth c H locs cells slots Q (F0 m pc ls (.ref a :: rest)) := by
  unfold mg_R at hx
  split at hx
  · rename_i hs
    refine mx_get hexec hb hts hin hown hK hJ hc hs hk hlink (v := .ref x) ?_ hdg kk
    rw [hv, hx]
    rfl
  · cases hx
theorem mx_put (hexec : p.tables.exec = Jvm.exec) (hb : c.code = cc) {own C : String} {T : u_T} {N ci index : Nat} (hts : ∀ w ∈ mx_tbl, w.before args s = true) (hin : ∀ w ∈ u_ws C T N, w ∈ mx_tbl) (hty : ∀ k, k < N → parseFieldDescriptor (T k).2.2.1 = some (mx_ty ci k)) (hnm : ∀ a, a < N → ∀ b, b < N → a ≠ b → (T a).2.1 ≠ (T b).2.1) (hown : s.vm.findClass own = some m.cls) (hK : mx_K G P s) (hJ : mx_J G P s.heap z0 u0 σ H locs) (hc : mx_cl[ci]? = some (C, T, N)) (hs : mxA σ a = some (.inl ci)) (hba : mpb P ≤ a) {k : Nat} (hk : k < N) (hlink : Cond.fieldLink own index (T k).1 (T k).2.1 (T k).2.2.1 ∈ mx_tbl) (hfin : (T k).2.2.2 = false ∨ ((T k).2.2.2 = true ∧ meth.name = "<init>" ∧ (T k).1 = own)) {v : Value} (hn : narrow (mx_ty ci k) v = v) (hfit : fits (mx_ty ci k) v = true) (hm : mx_same σ σ' a k) (hv : mx_val (mx_ty ci k) (mxI σ' a k) (mxL σ' a k) (mxR σ' a k) = v) (hdg : decode cc pc = .ok (.putfield index, 3))
    (kk : ∀ (H1 : Heap) (locs1 : List Loc), mx_J G P s.heap z0 u0 σ' H1 locs1 → W p l e R s m args below meth c H1 locs1 (mxz σ' - z0) (mxu σ' - u0) Q (F0 m (pc + 3) ls rest)) : W p l e R s m args below meth c H locs (mxz σ - z0) (mxu σ - u0) Q (F0 m pc ls (v :: .ref a :: rest)) := by
  have hap := va_apart (own := own) hts hin (mx_ty ci) hty hnm hK.1 hc
  obtain ⟨r, h1, cell, q1, q2, q3, q4⟩ := hJ.1.1 a ci hs
  have hr : r = (C, T, N) := Option.some.inj (h1.symm.trans hc)
  subst hr
  obtain ⟨hS, hfc, kC, hkC, hkind⟩ := hK.1.1 ci _ hc
  obtain ⟨cf, kf, fi, f, hi, hsl⟩ := hS k hk
  have hlay := hts _ (hin _ (u_in_lay hk))
  unfold u_lay at hlay
  have hst := (u_facts hfc hkC (u_lays hts hin hk) hi).1
  have fin : ∀ H' : Heap, H'[a]? = some (cell.setSlot (G.2.1 ci k) v) → H'.size = H.size → (∀ q, q ≠ a → H'[q]? = H[q]?) → W p l e R s m args below meth c H' (locs ++ [⟨a, G.2.1 ci k⟩]) (mxz σ - z0) (mxu σ - u0) Q (F0 m (pc + 3) ls rest) := by
    intro H' e1 e2 e3
    have hJ' : mx_J G P s.heap z0 u0 σ' H' (locs ++ [⟨a, G.2.1 ci k⟩]) := by
      refine mx_J_set hJ hm e2 e3 hba (fun ci' h => ?_) (fun t n h => ?_)
      · have : ci' = ci := by rw [hs] at h; cases h; rfl
        subst this
        refine ⟨_, hc, t_OB.to (V := updV (fun k => mx_val (mx_ty ci' k) (mxI σ a k) (mxL σ a k) (mxR σ a k)) k v) ⟨_, e1, q2, q3, t_set q4 hap hk v⟩ (fun j _ => ?_)⟩
        by_cases hj : j = k
        · subst hj; rw [hv]; simp [updV]
        · obtain ⟨e4, e5, e6⟩ := hm.2.2.2 a j (fun x => hj x.2)
          rw [e4, e5, e6]; simp [updV, hj]
      · rw [hs] at h; cases h
    have := kk H' _ hJ'
    rw [hm.2.1, hm.2.2.1] at this
    exact this
  rcases hfin with hfin | ⟨hfin, hin2, hdecl⟩
  · rw [if_neg (by rw [hfin]; decide)] at hlay
    have h6 := u_store hfc hkC hkind hlay hi (hty k hk) hn hfit
    refine W.putK hexec hb (f := f) ⟨hown, hts _ hlink, ⟨_, _, _, hi⟩, hst⟩ (by rw [q2]; exact h6) q1 q3 (by rw [hsl]; exact k2_hasslot (q4 k hk)) rfl rfl hdg fun H' e1 e2 e3 => ?_
    rw [hsl] at e1 ⊢
    exact fin H' e1 e2 e3
  · rw [if_pos hfin] at hlay
    have hcf : m.cls = cf := by
      obtain ⟨_, _, c', _, _, _, -, -, hf', -, -, -, hown2, -⟩ := Cond.laysFinal_spec hlay
      have e1 : c' = cf := by have := hi.symm.trans hf'; simp at this; exact this.1.symm
      rw [hdecl] at hown2
      rw [← e1]; exact Option.some.inj (hown.symm.trans hown2)
    have h6 := u_fits hfc hkC hkind (Or.inr hlay) hi (hty k hk) hn hfit
    refine W.putFinK hexec hb hown (hts _ hlink) hi hst hcf hin2 (by rw [q2]; exact h6) q1 q3 (by rw [hsl]; exact k2_hasslot (q4 k hk)) rfl rfl hdg fun H' e1 e2 e3 => ?_
    rw [hsl] at e1 ⊢
    exact fin H' e1 e2 e3
theorem mx_pI (hexec : p.tables.exec = Jvm.exec) (hb : c.code = cc) {own C : String} {T : u_T} {N ci index : Nat} (hts : ∀ w ∈ mx_tbl, w.before args s = true) (hin : ∀ w ∈ u_ws C T N, w ∈ mx_tbl) (hty : ∀ k, k < N → parseFieldDescriptor (T k).2.2.1 = some (mx_ty ci k)) (hnm : ∀ a, a < N → ∀ b, b < N → a ≠ b → (T a).2.1 ≠ (T b).2.1) (hown : s.vm.findClass own = some m.cls) (hK : mx_K G P s) (hJ : mx_J G P s.heap z0 u0 σ H locs) (hc : mx_cl[ci]? = some (C, T, N)) {k : Nat} {x : Int32} (hx : mp_I P σ a ci k x = some σ') (hk : k < N) (hlink : Cond.fieldLink own index (T k).1 (T k).2.1 (T k).2.2.1 ∈ mx_tbl) (hfin : (T k).2.2.2 = false ∨ ((T k).2.2.2 = true ∧ meth.name = "<init>" ∧ (T k).1 = own)) (ht : mx_ty ci k = .int) (hdg : decode cc pc = .ok (.putfield index, 3))
    (kk : ∀ (H1 : Heap) (locs1 : List Loc), mx_J G P s.heap z0 u0 σ' H1 locs1 → W p l e R s m args below meth c H1 locs1 (mxz σ' - z0) (mxu σ' - u0) Q (F0 m (pc + 3) ls rest)) : W p l e R s m args below meth c H locs (mxz σ - z0) (mxu σ - u0) Q (F0 m pc ls (.int x :: .ref a :: rest)) := by
  unfold mp_I at hx
  split at hx
  · rename_i hs
    cases hx
    refine mx_put hexec hb hts hin hty hnm hown hK hJ hc hs.1 hs.2 hk hlink hfin (by rw [ht]; rfl) (by rw [ht]; rfl) (mx_same_I σ a k x) ?_ hdg kk
    rw [ht, mx_rI]
    rfl
  · cases hx
theorem mx_pZ (hexec : p.tables.exec = Jvm.exec) (hb : c.code = cc) {own C : String} {T : u_T} {N ci index : Nat} (hts : ∀ w ∈ mx_tbl, w.before args s = true) (hin : ∀ w ∈ u_ws C T N, w ∈ mx_tbl) (hty : ∀ k, k < N → parseFieldDescriptor (T k).2.2.1 = some (mx_ty ci k)) (hnm : ∀ a, a < N → ∀ b, b < N → a ≠ b → (T a).2.1 ≠ (T b).2.1) (hown : s.vm.findClass own = some m.cls) (hK : mx_K G P s) (hJ : mx_J G P s.heap z0 u0 σ H locs) (hc : mx_cl[ci]? = some (C, T, N)) {k : Nat} {x : Int32} (hx : mp_Z P σ a ci k x = some σ') (hk : k < N) (hlink : Cond.fieldLink own index (T k).1 (T k).2.1 (T k).2.2.1 ∈ mx_tbl) (hfin : (T k).2.2.2 = false ∨ ((T k).2.2.2 = true ∧ meth.name = "<init>" ∧ (T k).1 = own)) (ht : mx_ty ci k = .boolean) (hdg : decode cc pc = .ok (.putfield index, 3))
    (kk : ∀ (H1 : Heap) (locs1 : List Loc), mx_J G P s.heap z0 u0 σ' H1 locs1 → W p l e R s m args below meth c H1 locs1 (mxz σ' - z0) (mxu σ' - u0) Q (F0 m (pc + 3) ls rest)) : W p l e R s m args below meth c H locs (mxz σ - z0) (mxu σ - u0) Q (F0 m pc ls (.int x :: .ref a :: rest)) := by
  unfold mp_Z at hx
  split at hx
  · rename_i hs
    cases hx
    refine mx_put hexec hb hts hin hty hnm hown hK hJ hc hs.1 hs.2.1 hk hlink hfin (by rw [ht]; rcases hs.2.2 with h | h <;> rw [h] <;> decide) (by rw [ht]; rcases hs.2.2 with h | h <;> rw [h] <;> decide) (mx_same_I σ a k x) ?_ hdg kk
    rw [ht, mx_rI]
    rfl
  · cases hx
theorem mx_pL (hexec : p.tables.exec = Jvm.exec) (hb : c.code = cc) {own C : String} {T : u_T} {N ci index : Nat} (hts : ∀ w ∈ mx_tbl, w.before args s = true) (hin : ∀ w ∈ u_ws C T N, w ∈ mx_tbl) (hty : ∀ k, k < N → parseFieldDescriptor (T k).2.2.1 = some (mx_ty ci k)) (hnm : ∀ a, a < N → ∀ b, b < N → a ≠ b → (T a).2.1 ≠ (T b).2.1) (hown : s.vm.findClass own = some m.cls) (hK : mx_K G P s) (hJ : mx_J G P s.heap z0 u0 σ H locs) (hc : mx_cl[ci]? = some (C, T, N)) {k : Nat} {x : Int64} (hx : mp_L P σ a ci k x = some σ') (hk : k < N) (hlink : Cond.fieldLink own index (T k).1 (T k).2.1 (T k).2.2.1 ∈ mx_tbl) (hfin : (T k).2.2.2 = false ∨ ((T k).2.2.2 = true ∧ meth.name = "<init>" ∧ (T k).1 = own)) (ht : mx_ty ci k = .long) (hdg : decode cc pc = .ok (.putfield index, 3))
    (kk : ∀ (H1 : Heap) (locs1 : List Loc), mx_J G P s.heap z0 u0 σ' H1 locs1 → W p l e R s m args below meth c H1 locs1 (mxz σ' - z0) (mxu σ' - u0) Q (F0 m (pc + 3) ls rest)) : W p l e R s m args below meth c H locs (mxz σ - z0) (mxu σ - u0) Q (F0 m pc ls (.long x :: .ref a :: rest)) := by
  unfold mp_L at hx
  split at hx
  · rename_i hs
    cases hx
    refine mx_put hexec hb hts hin hty hnm hown hK hJ hc hs.1 hs.2 hk hlink hfin (by rw [ht]; rfl) (by rw [ht]; rfl) (mx_same_L σ a k x) ?_ hdg kk
    rw [ht, mx_rL]
    rfl
  · cases hx
theorem mx_pR (hexec : p.tables.exec = Jvm.exec) (hb : c.code = cc) {own C : String} {T : u_T} {N ci index : Nat} (hts : ∀ w ∈ mx_tbl, w.before args s = true) (hin : ∀ w ∈ u_ws C T N, w ∈ mx_tbl) (hty : ∀ k, k < N → parseFieldDescriptor (T k).2.2.1 = some (mx_ty ci k)) (hnm : ∀ a, a < N → ∀ b, b < N → a ≠ b → (T a).2.1 ≠ (T b).2.1) (hown : s.vm.findClass own = some m.cls) (hK : mx_K G P s) (hJ : mx_J G P s.heap z0 u0 σ H locs) (hc : mx_cl[ci]? = some (C, T, N)) {k : Nat} {x : Nat} (hx : mp_R P σ a ci k x = some σ') (hk : k < N) (hlink : Cond.fieldLink own index (T k).1 (T k).2.1 (T k).2.2.1 ∈ mx_tbl) (hfin : (T k).2.2.2 = false ∨ ((T k).2.2.2 = true ∧ meth.name = "<init>" ∧ (T k).1 = own)) (hn : ∀ v, narrow (mx_ty ci k) (.ref v) = .ref v) (hft : ∀ v, fits (mx_ty ci k) (.ref v) = true) (hv : ∀ x y r, mx_val (mx_ty ci k) x y r = va_rf r) (hdg : decode cc pc = .ok (.putfield index, 3))
    (kk : ∀ (H1 : Heap) (locs1 : List Loc), mx_J G P s.heap z0 u0 σ' H1 locs1 → W p l e R s m args below meth c H1 locs1 (mxz σ' - z0) (mxu σ' - u0) Q (F0 m (pc + 3) ls rest)) : W p l e R s m args below meth c H locs (mxz σ - z0) (mxu σ - u0) Q (F0 m pc ls (.ref x :: .ref a :: rest)) := by
  unfold mp_R at hx
  split at hx
  · rename_i hs
    cases hx
    refine mx_put hexec hb hts hin hty hnm hown hK hJ hc hs.1 hs.2 hk hlink hfin (hn x) (hft x) (mx_same_R σ a k x) ?_ hdg kk
    rw [hv, mx_rR]
    rfl
  · cases hx
-- arrays
theorem mx_alen (hexec : p.tables.exec = Jvm.exec) (hb : c.code = cc) (hK : mx_K G P s) (hJ : mx_J G P s.heap z0 u0 σ H locs) {t : Nat} {x : Int32} (hx : ma_n σ a t = some x) (hdg : decode cc pc = .ok (.arraylength, 1))
    (kk : W p l e R s m args below meth c H locs cells slots Q (F0 m (pc + 1) ls (.int x :: rest))) : W p l e R s m args below meth c H locs cells slots Q (F0 m pc ls (.ref a :: rest)) := by
  unfold ma_n at hx
  split at hx
  · rename_i t' n hs
    split at hx
    · rename_i ht
      subst ht
      cases hx
      obtain ⟨h8, har⟩ := hJ.1.2 a t' n hs
      refine W.alen hexec hb har ((hK.arr h8).1 n _) ?_ rfl rfl hdg kk
      rw [arrV_size]
    · cases hx
  · cases hx
theorem mx_aI (hexec : p.tables.exec = Jvm.exec) (hb : c.code = cc) (hK : mx_K G P s) (hJ : mx_J G P s.heap z0 u0 σ H locs) {i x : Int32} (hx : ma_I σ a 0 i = some x) (hdg : decode cc pc = .ok (.iaload, 1))
    (kk : W p l e R s m args below meth c H locs cells slots Q (F0 m (pc + 1) ls (.int x :: rest))) : W p l e R s m args below meth c H locs cells slots Q (F0 m pc ls (.int i :: .ref a :: rest)) := by
  obtain ⟨j, h1, h2⟩ := mb0 hx
  obtain ⟨n, hs, hin, rfl, hlt⟩ := mx_ixs h1
  cases h2
  obtain ⟨h8, har⟩ := hJ.1.2 a 0 n hs
  exact W.iald (v := .int (mxI σ a i.toNatClampNeg)) hexec hb har ((hK.arr h8).1 n _) (fun q => by cases q) (by rw [arrV_size]; exact hin) (by rw [arrV_read _ _ hlt]; rfl) rfl rfl hdg kk
theorem mx_aB (hexec : p.tables.exec = Jvm.exec) (hb : c.code = cc) (hK : mx_K G P s) (hJ : mx_J G P s.heap z0 u0 σ H locs) {i x : Int32} (hx : ma_I σ a 2 i = some x) (hdg : decode cc pc = .ok (.baload, 1))
    (kk : W p l e R s m args below meth c H locs cells slots Q (F0 m (pc + 1) ls (.int x :: rest))) : W p l e R s m args below meth c H locs cells slots Q (F0 m pc ls (.int i :: .ref a :: rest)) := by
  obtain ⟨j, h1, h2⟩ := mb0 hx
  obtain ⟨n, hs, hin, rfl, hlt⟩ := mx_ixs h1
  cases h2
  obtain ⟨h8, har⟩ := hJ.1.2 a 2 n hs
  exact W.bald (v := .int (mxI σ a i.toNatClampNeg)) hexec hb har ((hK.arr h8).1 n _) (fun q => by cases q) (by rw [arrV_size]; exact hin) (by rw [arrV_read _ _ hlt]; rfl) rfl rfl hdg kk
theorem mx_aZ (hexec : p.tables.exec = Jvm.exec) (hb : c.code = cc) (hK : mx_K G P s) (hJ : mx_J G P s.heap z0 u0 σ H locs) {i x : Int32} (hx : ma_I σ a 3 i = some x) (hdg : decode cc pc = .ok (.baload, 1))
    (kk : W p l e R s m args below meth c H locs cells slots Q (F0 m (pc + 1) ls (.int x :: rest))) : W p l e R s m args below meth c H locs cells slots Q (F0 m pc ls (.int i :: .ref a :: rest)) := by
  obtain ⟨j, h1, h2⟩ := mb0 hx
  obtain ⟨n, hs, hin, rfl, hlt⟩ := mx_ixs h1
  cases h2
  obtain ⟨h8, har⟩ := hJ.1.2 a 3 n hs
  exact W.zald (v := .int (mxI σ a i.toNatClampNeg)) hexec hb har ((hK.arr h8).1 n _) (fun q => by cases q) (by rw [arrV_size]; exact hin) (by rw [arrV_read _ _ hlt]; rfl) rfl rfl hdg kk
theorem mx_aL (hexec : p.tables.exec = Jvm.exec) (hb : c.code = cc) (hK : mx_K G P s) (hJ : mx_J G P s.heap z0 u0 σ H locs) {i : Int32} {x : Int64} (hx : ma_L σ a 1 i = some x) (hdg : decode cc pc = .ok (.laload, 1))
    (kk : W p l e R s m args below meth c H locs cells slots Q (F0 m (pc + 1) ls (.long x :: rest))) : W p l e R s m args below meth c H locs cells slots Q (F0 m pc ls (.int i :: .ref a :: rest)) := by
  obtain ⟨j, h1, h2⟩ := mb0 hx
  obtain ⟨n, hs, hin, rfl, hlt⟩ := mx_ixs h1
  cases h2
  obtain ⟨h8, har⟩ := hJ.1.2 a 1 n hs
  exact W.lald (v := .long (mxL σ a i.toNatClampNeg)) hexec hb har ((hK.arr h8).1 n _) (fun q => by cases q) (by rw [arrV_size]; exact hin) (by rw [arrV_read _ _ hlt]; rfl) rfl rfl hdg kk
theorem mx_aR (hexec : p.tables.exec = Jvm.exec) (hb : c.code = cc) (hK : mx_K G P s) (hJ : mx_J G P s.heap z0 u0 σ H locs) {t : Nat} (ht : (mx_at t).isReference = true) (hv : ∀ x y r, mx_val (mx_at t) x y r = va_rf r) {i : Int32} {x : Nat} (hx : ma_R σ a t i = some x) (hdg : decode cc pc = .ok (.aaload, 1))
    (kk : W p l e R s m args below meth c H locs cells slots Q (F0 m (pc + 1) ls (.ref x :: rest))) : W p l e R s m args below meth c H locs cells slots Q (F0 m pc ls (.int i :: .ref a :: rest)) := by
  obtain ⟨j, h1, h2⟩ := mb0 hx
  obtain ⟨n, hs, hin, rfl, hlt⟩ := mx_ixs h1
  obtain ⟨h8, har⟩ := hJ.1.2 a t n hs
  exact W.aald (v := .ref x) (ty := mx_at t) hexec hb har ((hK.arr h8).1 n _) ht (fun q => by cases q) (by rw [arrV_size]; exact hin) (by rw [arrV_read _ _ hlt, hv, h2]; rfl) rfl rfl hdg kk
theorem mx_ast {t n : Nat} {v : Value} {j : Nat} (hJ : mx_J G P s.heap z0 u0 σ H locs) (hs : mxA σ a = some (.inr (t, n))) (hba : mpb P ≤ a) (hm : mx_same σ σ' a j) (hv : mx_val (mx_at t) (mxI σ' a j) (mxL σ' a j) (mxR σ' a j) = v) {H' : Heap} (e1 : H'[a]? = some ((arrV (mgA G t) n (fun j => mx_val (mx_at t) (mxI σ a j) (mxL σ a j) (mxR σ a j))).setSlot j v)) (e2 : H'.size = H.size) (e3 : ∀ q, q ≠ a → H'[q]? = H[q]?)
    (kk : ∀ (H1 : Heap) (locs1 : List Loc), mx_J G P s.heap z0 u0 σ' H1 locs1 → W p l e R s m args below meth c H1 locs1 (mxz σ' - z0) (mxu σ' - u0) Q (F0 m pc ls rest)) : W p l e R s m args below meth c H' (locs ++ [⟨a, j⟩]) (mxz σ - z0) (mxu σ - u0) Q (F0 m pc ls rest) := by
  have hJ' : mx_J G P s.heap z0 u0 σ' H' (locs ++ [⟨a, j⟩]) := by
    refine mx_J_set hJ hm e2 e3 hba (fun ci' h => ?_) (fun t' n' h => ?_)
    · rw [hs] at h; cases h
    · rw [hs] at h
      cases h
      show H'[a]? = _
      rw [e1, arrV_store]
      congr 2
      funext q
      by_cases hq : q = j
      · subst hq; rw [hv]; simp [updV]
      · obtain ⟨e4, e5, e6⟩ := hm.2.2.2 a q (fun x => hq x.2)
        rw [e4, e5, e6]; simp [updV, hq]
  have := kk H' _ hJ'
  rw [hm.2.1, hm.2.2.1] at this
  exact this
theorem mx_sI (hexec : p.tables.exec = Jvm.exec) (hb : c.code = cc) (hK : mx_K G P s) (hJ : mx_J G P s.heap z0 u0 σ H locs) {i x : Int32} (hx : ms_I P σ a 0 i x = some σ') (hdg : decode cc pc = .ok (.iastore, 1))
    (kk : ∀ (H1 : Heap) (locs1 : List Loc), mx_J G P s.heap z0 u0 σ' H1 locs1 → W p l e R s m args below meth c H1 locs1 (mxz σ' - z0) (mxu σ' - u0) Q (F0 m (pc + 1) ls rest)) : W p l e R s m args below meth c H locs (mxz σ - z0) (mxu σ - u0) Q (F0 m pc ls (.int x :: .int i :: .ref a :: rest)) := by
  obtain ⟨j, h1, h2⟩ := mb0 hx
  obtain ⟨n, hs, hin, rfl, hlt⟩ := mx_ixs h1
  split at h2
  · rename_i hba
    cases h2
    obtain ⟨h8, har⟩ := hJ.1.2 a 0 n hs
    refine W.iast hexec hb har ((hK.arr h8).1 n _) (fun q => by cases q) (by rw [arrV_size]; exact hin) rfl rfl hdg fun H' e1 e2 e3 => ?_
    exact mx_ast hJ hs hba (mx_same_I σ a _ x) (by rw [mx_rI]; rfl) e1 e2 e3 kk
  · cases h2
theorem mx_sB (hexec : p.tables.exec = Jvm.exec) (hb : c.code = cc) (hK : mx_K G P s) (hJ : mx_J G P s.heap z0 u0 σ H locs) {i x : Int32} (hx : ms_I P σ a 2 i x.toInt8.toInt32 = some σ') (hdg : decode cc pc = .ok (.bastore, 1))
    (kk : ∀ (H1 : Heap) (locs1 : List Loc), mx_J G P s.heap z0 u0 σ' H1 locs1 → W p l e R s m args below meth c H1 locs1 (mxz σ' - z0) (mxu σ' - u0) Q (F0 m (pc + 1) ls rest)) : W p l e R s m args below meth c H locs (mxz σ - z0) (mxu σ - u0) Q (F0 m pc ls (.int x :: .int i :: .ref a :: rest)) := by
  obtain ⟨j, h1, h2⟩ := mb0 hx
  obtain ⟨n, hs, hin, rfl, hlt⟩ := mx_ixs h1
  split at h2
  · rename_i hba
    cases h2
    obtain ⟨h8, har⟩ := hJ.1.2 a 2 n hs
    refine W.bast hexec hb har ((hK.arr h8).1 n _) (fun q => by cases q) (by rw [arrV_size]; exact hin) rfl rfl hdg fun H' e1 e2 e3 => ?_
    exact mx_ast hJ hs hba (mx_same_I σ a _ x.toInt8.toInt32) (by rw [mx_rI]; rfl) e1 e2 e3 kk
  · cases h2
theorem mx_sZ (hexec : p.tables.exec = Jvm.exec) (hb : c.code = cc) (hK : mx_K G P s) (hJ : mx_J G P s.heap z0 u0 σ H locs) {i x : Int32} (hx : ms_I P σ a 3 i (vp_nar .boolean x) = some σ') (hdg : decode cc pc = .ok (.bastore, 1))
    (kk : ∀ (H1 : Heap) (locs1 : List Loc), mx_J G P s.heap z0 u0 σ' H1 locs1 → W p l e R s m args below meth c H1 locs1 (mxz σ' - z0) (mxu σ' - u0) Q (F0 m (pc + 1) ls rest)) : W p l e R s m args below meth c H locs (mxz σ - z0) (mxu σ - u0) Q (F0 m pc ls (.int x :: .int i :: .ref a :: rest)) := by
  obtain ⟨j, h1, h2⟩ := mb0 hx
  obtain ⟨n, hs, hin, rfl, hlt⟩ := mx_ixs h1
  split at h2
  · rename_i hba
    cases h2
    obtain ⟨h8, har⟩ := hJ.1.2 a 3 n hs
    refine W.zast hexec hb har ((hK.arr h8).1 n _) (fun q => by cases q) (by rw [arrV_size]; exact hin) rfl rfl hdg fun H' e1 e2 e3 => ?_
    exact mx_ast hJ hs hba (mx_same_I σ a _ (vp_nar .boolean x)) (by rw [mx_rI]; rfl) e1 e2 e3 kk
  · cases h2
theorem mx_sL (hexec : p.tables.exec = Jvm.exec) (hb : c.code = cc) (hK : mx_K G P s) (hJ : mx_J G P s.heap z0 u0 σ H locs) {i : Int32} {x : Int64} (hx : ms_L P σ a 1 i x = some σ') (hdg : decode cc pc = .ok (.lastore, 1))
    (kk : ∀ (H1 : Heap) (locs1 : List Loc), mx_J G P s.heap z0 u0 σ' H1 locs1 → W p l e R s m args below meth c H1 locs1 (mxz σ' - z0) (mxu σ' - u0) Q (F0 m (pc + 1) ls rest)) : W p l e R s m args below meth c H locs (mxz σ - z0) (mxu σ - u0) Q (F0 m pc ls (.long x :: .int i :: .ref a :: rest)) := by
  obtain ⟨j, h1, h2⟩ := mb0 hx
  obtain ⟨n, hs, hin, rfl, hlt⟩ := mx_ixs h1
  split at h2
  · rename_i hba
    cases h2
    obtain ⟨h8, har⟩ := hJ.1.2 a 1 n hs
    refine W.last hexec hb har ((hK.arr h8).1 n _) (fun q => by cases q) (by rw [arrV_size]; exact hin) rfl rfl hdg fun H' e1 e2 e3 => ?_
    exact mx_ast hJ hs hba (mx_same_L σ a _ x) (by rw [mx_rL]; rfl) e1 e2 e3 kk
  · cases h2
theorem mx_sR (hexec : p.tables.exec = Jvm.exec) (hb : c.code = cc) (hK : mx_K G P s) (hJ : mx_J G P s.heap z0 u0 σ H locs) {t ci : Nat} {r : vw_C} (hc : mx_cl[ci]? = some r) (ht : mx_at t = .object r.1) {i : Int32} {x : Nat} (hx : ms_R P σ a t i ci x = some σ') (hdg : decode cc pc = .ok (.aastore, 1))
    (kk : ∀ (H1 : Heap) (locs1 : List Loc), mx_J G P s.heap z0 u0 σ' H1 locs1 → W p l e R s m args below meth c H1 locs1 (mxz σ' - z0) (mxu σ' - u0) Q (F0 m (pc + 1) ls rest)) : W p l e R s m args below meth c H locs (mxz σ - z0) (mxu σ - u0) Q (F0 m pc ls (.ref x :: .int i :: .ref a :: rest)) := by
  obtain ⟨j, h1, h2⟩ := mb0 hx
  obtain ⟨n, hs, hin, rfl, hlt⟩ := mx_ixs h1
  split at h2
  · rename_i hba
    cases h2
    obtain ⟨h8, har⟩ := hJ.1.2 a t n hs
    have h0 : ¬ i < 0 := fun q => hin (Or.inl q)
    obtain ⟨r', hr', cellV, g1, g2, g3, -⟩ := hJ.1.1 x ci hba.2
    have hcls := (hK.1.1 ci r hc).2
    have hra := (hK.arr h8).2
    rw [ht] at hra
    obtain ⟨kA, comp, k1, k2, k3, -⟩ := hra
    have hcomp : comp = G.1 ci := Option.some.inj (k3.symm.trans hcls.1)
    subst hcomp
    obtain ⟨kC, hkC, -⟩ := hcls.2
    refine W.aast hexec hb har (fun q h => by cases h) (fun h => by cases h) k1 k2 rfl hkC ⟨h0, by rw [arrV_size]; exact hlt⟩ g1 (fun q h => by rw [g3] at h; cases h) (by rw [g2]; exact hkC) (by rw [g2]; exact va_assign hcls) rfl rfl hdg fun H' e1 e2 e3 => ?_
    exact mx_ast hJ hs hba.1 (mx_same_R σ a _ x) (by rw [ht, mx_rR]; rfl) e1 e2 e3 kk
  · cases h2
end MX
