/-! ===== mx: methods with handlers, and the law ===== -/
def mx_MW (l : Launch) (y : MethodName) (cc : ByteArray) (maxL : Nat) (ret : Option FieldType) (hh : List (Nat × Nat × Nat × Nat)) (fr lo : Nat) (G : mx_G) (P : mx_P) (av : List Value) (σ : mx_S) (o : Option Value) (σ' : mx_S) : Prop :=
  Met l y (Cond.codeWith y cc maxL ret hh :: mx_tbl) (mx_rm P fr lo σ) (mx_Pc G P av σ) (mx_Qc G P o σ σ') (mxz σ' - mxz σ) (mxu σ' - mxu σ) (fun q => mpb P ≤ q)
theorem mx_ofWW {l : Launch} {y : MethodName} {cc : ByteArray} {maxL : Nat} {ret : Option FieldType} {hh : List (Nat × Nat × Nat × Nat)} {fr lo : Nat} {G : mx_G} {P : mx_P} {av : List Value} {σ : mx_S} {o : Option Value} {σ' : mx_S} (hy : plainFor y = true) (hc : mxz σ ≤ mpc P) (hu : mxu σ ≤ mps P) (hav : (lg_sl av).length ≤ maxL)
    (body : ∀ (p : Program) (e : Env) (s : State) (m : MethodId) (below : List Frame) (meth : Method) (c : Code), p.tables.exec = Jvm.exec → c.code = cc → meth.sig.returnType = ret → c.maxLocals = maxL → (∀ w ∈ mx_tbl, w.before av.toArray s = true) → s.vm.findClass y.cls = some m.cls → meth.locks = false → meth.name = y.name → c.exceptionTable.toList = tableOf hh → mx_K G P s → mx_J G P s.heap (mxz σ) (mxu σ) σ s.heap [] → ∀ ls : Array Slot, lv_has ls maxL (lv_args 0 av) →
      W p l e (mx_rm P fr lo σ) s m av.toArray below meth c s.heap [] (mxz σ - mxz σ) (mxu σ - mxu σ) (mx_Z below G P o σ σ' av s) (F0 m 0 ls [])) : mx_MW l y cc maxL ret hh fr lo G P av σ o σ' := by
  unfold mx_MW
  refine MetFree.of_bodySF (code := cc) (maxLocals := maxL) (ret := ret) hy ?_ ?_
  · intro args s m h hn
    obtain ⟨m9, meth, c, hn9, h1, h2, h3, h4, h5, h6, h7, -⟩ := Cond.codeWith_spec (atoms_spec (ws := Cond.codeWith y cc maxL ret hh :: mx_tbl) h _ List.mem_cons_self)
    cases hn.symm.trans hn9
    exact ⟨meth, c, h1, h2, h3, h4, by assumption, by assumption⟩
  · intro p e s m args below meth c s₁ B hml hv _
    obtain ⟨rfl, hab, hsz, hba, hK⟩ := hv
    have hts := atoms_spec (ws := Cond.codeWith y cc maxL ret hh :: mx_tbl) B.pre
    have hh0 : s₁.heap = s.heap := by rw [B.state]; rfl
    have hl := lv_entry av (n := maxL) hav
    have := body p e s m below meth c B.exec B.bytes B.returns hml (fun w hw => hts w (List.mem_cons_of_mem _ hw)) (findClass_of_methodNamed B.named) B.notSynchronized (name_of_methodNamed B.named B.method).1 (vx_table (x := y) B (hts _ List.mem_cons_self)) hK ⟨hab, hsz, (fun q hq => by cases hq), Nat.le_refl _, hc, Nat.le_refl _, hu, hba, fun _ _ => rfl⟩ _ hl
    rw [Nat.sub_self, Nat.sub_self] at this
    rw [← lg_entry_eq] at this
    obtain ⟨t, a1, o, b1, b2, b3⟩ := this s₁ hh0 (Stand.of_body B)
    exact ⟨t, o, a1, b1, b2, ⟨b3.1, b3.2⟩⟩
def mx_meW (y : MethodName) (bytes : ByteArray) (maxL : Nat) (ret : Option FieldType) (hh : List (Nat × Nat × Nat × Nat)) (n : Nat) : Prop := Cond.codeWith y bytes maxL ret hh ∈ mx_tbl ∧ Cond.initialized y.cls ∈ mx_tbl ∧ (y.cls ≠ "java/lang/invoke/MethodHandle" ∧ y.cls ≠ "java/lang/invoke/VarHandle") ∧ (parseMethodDescriptor y.desc).map (fun d => d.parameters.length) = some n
theorem mtry {α β : Type} {o : Option ((String × mx_S) ⊕ (α × mx_S))} {h : String → mx_S → Option β} {g : α → mx_S → Option β} {z : β} (hf : mx_try o h g = some z) : (∃ E τ, o = some (.inl (E, τ)) ∧ h E τ = some z) ∨ ∃ a τ, o = some (.inr (a, τ)) ∧ g a τ = some z := by
  match o, hf with
  | none, hf => cases hf
  | some (.inl (E, τ)), hf => exact Or.inl ⟨E, τ, rfl, hf⟩
  | some (.inr (a, τ)), hf => exact Or.inr ⟨a, τ, rfl, hf⟩
theorem mtry0 {β : Type} {o : Option ((String × mx_S) ⊕ mx_S)} {h : String → mx_S → Option β} {g : mx_S → Option β} {z : β} (hf : mx_try0 o h g = some z) : (∃ E τ, o = some (.inl (E, τ)) ∧ h E τ = some z) ∨ ∃ τ, o = some (.inr τ) ∧ g τ = some z := by
  match o, hf with
  | none, hf => cases hf
  | some (.inl (E, τ)), hf => exact Or.inl ⟨E, τ, rfl, hf⟩
  | some (.inr τ), hf => exact Or.inr ⟨τ, rfl, hf⟩
section MXH
variable {p : Program} {l : Launch} {e : Env} {R : Room} {s : State} {m : MethodId} {args : Array Value} {below : List Frame} {meth : Method} {c : Code} {H : Heap} {locs : List Loc} {cells slots : Nat} {Q : State → Prop}
variable {cc : ByteArray} {pc : Nat} {ls : Array Slot} {rest : List Value} {G : mx_G} {P : mx_P} {z0 u0 : Nat} {σ σ' : mx_S} {a : Nat}
theorem mx_backW {y : MethodName} {bytes : ByteArray} {maxL : Nat} {ret : Option FieldType} {hh : List (Nat × Nat × Nat × Nat)} {fr lo : Nat} {av : List Value} {o : Option Value} (hts : ∀ w ∈ mx_tbl, w.before args s = true) (hM : mx_MW l y bytes maxL ret hh fr lo G P av σ o σ') (hcode : Cond.codeWith y bytes maxL ret hh ∈ mx_tbl) (hini : Cond.initialized y.cls ∈ mx_tbl) (hfr : fr + 1 ≤ R.frames) (hlo : 8 + (maxL + 11) + lo ≤ R.locals) :
    Back l R p e below s args y 3 8 (fun A v => A.cells + (mpc P - mxz σ) ≤ R.cells ∧ A.slots + (mps P - mxu σ) ≤ R.slots ∧ mx_Pc G P av σ v A.U) (PostOf (mx_Qc G P o σ σ') (mxz σ' - mxz σ) (mxu σ' - mxu σ) (fun q => mpb P ≤ q)) := by
  refine Back.of_freeWith (handlers := hh) (S := headSpec (Cond.codeWith y bytes maxL ret hh :: mx_tbl) (mx_rm P fr lo σ)) (P := mx_Pc G P av σ) (K := fun _ _ _ _ _ => True) (Q := fun a st o' t => mx_Qc G P o σ σ' a st o' t ∧ ∃ L, FrameEnd st o' t L (mxz σ' - mxz σ) (mxu σ' - mxu σ) ∧ ∀ q ∈ L, mpb P ≤ q.base) (bytes := bytes) (maxL := maxL) (ret := ret)
    (E := fun a st o t L k n => k = mxz σ' - mxz σ ∧ n = mxu σ' - mxu σ ∧ ∀ q ∈ L, mpb P ≤ q.base) hM hfr hlo ?_ ?_ (fun _ _ _ _ _ _ _ _ _ => trivial) ?_ ?_
  · intro m meth c A a X hp
    have hw : ∀ w ∈ mx_tbl, w.before a A.U = true := mx_good hts X.warmed
    exact ⟨atoms_intro fun w hw' => (List.mem_cons.mp hw').elim (fun h => h ▸ hw _ hcode) (hw w), hw _ hcode, hw _ hini, hp.1, hp.2.1⟩
  · intro m meth c A a g mk X hp
    exact mx_blind _ _ _ _ hp.2.2
  · intro a st o t ⟨hq, L, hF, hL⟩
    exact ⟨L, _, _, hF, rfl, rfl, hL⟩
  · intro m meth c A a g mk v t L k n X hp hq hF ⟨e1, e2, hL⟩
    subst e1; subst e2
    exact ⟨g, mk, t, L, rfl, rfl, hq.1, rfl, hL, rfl, rfl⟩
theorem mx_callSW (hexec : p.tables.exec = Jvm.exec) (hb : c.code = cc) {nL : Nat} (hml : c.maxLocals = nL) {own : String} (hts : ∀ w ∈ mx_tbl, w.before args s = true) (hown : s.vm.findClass own = some m.cls) (hK : mx_K G P s) (hJ : mx_J G P s.heap z0 u0 σ H locs) (hRc : R.cells = mpc P - z0) (hRs : R.slots = mps P - u0)
    {y : MethodName} {bytes : ByteArray} {maxL : Nat} {ret : Option FieldType} {hh : List (Nat × Nat × Nat × Nat)} {fr lo n index : Nat} {As : List Value} {o : Option Value} (hM : mxz σ ≤ mpc P → mxu σ ≤ mps P → mx_MW l y bytes maxL ret hh fr lo G P As σ o σ') (hme : mx_meW y bytes maxL ret hh n) (hstat : Cond.static y ∈ mx_tbl) (hlink : Cond.methodLink own index y ∈ mx_tbl) (hfr : fr + 1 ≤ R.frames) (hlo : 8 + (maxL + 11) + lo ≤ R.locals)
    (hn : As.length = n) (hsize : ls.size = nL) {st : List Value} (hst : st = As.reverse ++ rest) (hW : (rest.map fun v => v.category).sum ≤ 8) (hdg : decode cc pc = .ok (.invokestatic index, 3))
    (kk : ∀ (H1 : Heap) (locs1 : List Loc), mx_J G P s.heap z0 u0 σ' H1 locs1 → W p l e R s m args below meth c H1 locs1 (mxz σ' - z0) (mxu σ' - u0) Q (F0 m (pc + 3) ls (o.toList ++ rest))) : W p l e R s m args below meth c H locs (mxz σ - z0) (mxu σ - u0) Q (F0 m pc ls st) := by
  intro T hT X
  obtain ⟨v, vm₁, ⟨U', l2, c2, s2⟩, hW₁, X', ⟨g', mk, t, L, e1, e2, hq, h1, hL, h2, h3⟩, stp⟩ := vx_callSW X hexec hown (hts _ hlink) (hts _ hstat) (hts _ hme.2.1) (hts _ hme.1) hme.2.2.1 (mx_backW hts (hM hJ.2.2.2.2.1 hJ.2.2.2.2.2.2.1) hme.1 hme.2.1 hfr hlo) (g := F0 m pc ls st) rfl (hsize.trans hml.symm) (argsL := As) (rest := rest) (mx_len hme.2.2.2 hn) hst (lv_room (st := rest) hW) (by rw [hb]; exact hdg) (mx_pre hJ hK hRc hRs hT As)
  dsimp only [Pt.U, Pt.locs, Pt.cells, Pt.slots] at X' e1 e2 h1 h2 h3 stp
  obtain ⟨rfl, hJ', z1, z2⟩ := mx_after hJ (st := (T.setVm vm₁).calling g' mk _) hT hq hL
  subst h1; subst h2; subst h3
  rw [← e1] at hJ'
  rw [z1, z2] at X'
  obtain ⟨t2, a1, b1⟩ := kk U'.heap _ hJ' U' rfl X'
  exact ⟨t2, stp t2 a1, b1⟩
theorem mx_afterT (hJ : mx_J G P s.heap z0 u0 σ H locs) {E E' : String} {st t : State} {L : List Loc} (hst : st.heap = H) (hx : mx_XC G P E σ σ' E' st t) (hL : ∀ q ∈ L, mpb P ≤ q.base) : E' = E ∧ mx_J G P s.heap z0 u0 σ' t.heap (locs ++ L) ∧ mxz σ - z0 + (mxz σ' - mxz σ) = mxz σ' - z0 ∧ mxu σ - u0 + (mxu σ' - mxu σ) = mxu σ' - u0 := by
  obtain ⟨j1, j2, j3, j4, j5, j6, j7, j8, j9⟩ := hJ
  obtain ⟨h1, h2, h3, h4, h5, h6, h7, h8⟩ := hx
  refine ⟨h1, ⟨h2, h3, fun q hq => ?_, by omega, h5, by omega, h7, j8, fun q hq => by rw [h8 q hq, hst]; exact j9 q hq⟩, by omega, by omega⟩
  rcases List.mem_append.mp hq with h | h
  · exact j3 q h
  · exact hL q h
/-- a callee throws, and a row of the own table catches it -/
theorem mx_callVC (hexec : p.tables.exec = Jvm.exec) (hb : c.code = cc) {nL : Nat} (hml : c.maxLocals = nL) {own : String} (hts : ∀ w ∈ mx_tbl, w.before args s = true) (hown : s.vm.findClass own = some m.cls) (hK : mx_K G P s) (hJ : mx_J G P s.heap z0 u0 σ H locs) (hRc : R.cells = mpc P - z0) (hRs : R.slots = mps P - u0)
    {y : MethodName} {bytes : ByteArray} {maxL : Nat} {ret : Option FieldType} {fr lo n index ci : Nat} {C : String} {T0 : u_T} {N : Nat} {x : Unit} (hc : mx_cl[ci]? = some (C, T0, N)) (hs : mx_is σ a ci = some x) {As : List Value} {E : String} (hM : mxz σ ≤ mpc P → mxu σ ≤ mps P → mx_Mt l y bytes maxL ret fr lo G P (.ref a :: As) σ E σ') (hme : mx_me y bytes maxL ret n) (hinst : Cond.instanceMethod y ∈ mx_tbl) (hsel : Cond.selects C y y ∈ mx_tbl) (hlink : Cond.methodLink own index y ∈ mx_tbl) (hfr : fr + 1 ≤ R.frames) (hlo : 8 + (maxL + 11) + lo ≤ R.locals)
    (hn : As.length = n) (hsize : ls.size = nL) {st : List Value} (hst : st = As.reverse ++ .ref a :: rest) (hW : (rest.map fun v => v.category).sum ≤ 8) (hdg : decode cc pc = .ok (.invokevirtual index, 3))
    (hE : E ∈ mx_ex) (pre : List ExceptionTableEntry) (z : ExceptionTableEntry) (suf : List ExceptionTableEntry) (hsplit : c.exceptionTable.toList = pre ++ z :: suf) (hpass : ∀ w ∈ pre, w.catchType ≠ 0 ∧ ∃ nm : String, Cond.classLink own w.catchType nm ∈ mx_tbl ∧ nm ∈ mx_ex ∧ E ≠ nm) (hcov : covers z pc = true) (h0 : z.catchType ≠ 0) (hck : Cond.classLink own z.catchType E ∈ mx_tbl) (hcast : Cond.castable E E ∈ mx_wk)
    (kk : ∀ (H1 : Heap) (locs1 : List Loc) (q : Nat), mx_J G P s.heap z0 u0 σ' H1 locs1 → W p l e R s m args below meth c H1 locs1 (mxz σ' - z0) (mxu σ' - u0) Q (F0 m z.handlerPc ls [.ref q])) : W p l e R s m args below meth c H locs (mxz σ - z0) (mxu σ - u0) Q (F0 m pc ls st) := by
  intro T hT X
  obtain ⟨r, hr, cellB, g1, g2, g3, -⟩ := hJ.1.1 a ci (mx_iss hs)
  have hcls : s.vm.findClass C = some cellB.cls := by rw [g2]; exact (hK.1.1 ci _ hc).2.1
  rcases vx_callV X hexec hown (hts _ hlink) (hts _ hinst) (hts _ hsel) (hts _ hme.1) hme.2.2.1 (mx_backT hts (hM hJ.2.2.2.2.1 hJ.2.2.2.2.2.2.1) hme.1 hme.2.1 hfr hlo) (b := a) (by rw [hT]; exact g1) (by rw [g3]; rfl) hcls (g := F0 m pc ls st) rfl (hsize.trans hml.symm) (argsL := As) (rest := rest) (mx_len hme.2.2.2 hn) hst (lv_room (st := rest) hW) (by rw [hb]; exact hdg) (mx_pre hJ hK hRc hRs hT (.ref a :: As)) with ⟨v, vm₁, B, hW₁, X', ⟨g', mk, t, L, e1, e2, hq, hrest⟩, stp⟩ | ⟨q, vm₁, ⟨U', l2, c2, s2⟩, hW₁, X', ⟨g', mk, t, L, E', ce, e1, e2, hx, hce, hcv, hcl, h1, hL, h2, h3⟩, stp⟩
  · exact hq.elim
  · dsimp only [Pt.U, Pt.locs, Pt.cells, Pt.slots] at X' e1 e2 h1 h2 h3 stp
    subst h1; subst h2; subst h3
    obtain ⟨rfl, hJ', z1, z2⟩ := mx_afterT hJ (st := (T.setVm vm₁).calling g' mk _) hT hx hL
    rw [← e1] at hJ'
    rw [z1, z2] at X'
    have hV : vx_W p l e R s m args below meth c U'.heap (locs ++ L) (mxz σ' - z0) (mxu σ' - u0) Q (F0 m pc ls rest) q :=
      vx_catch hown pre z suf hsplit (fun w hw => Or.inr ⟨(hpass w hw).1, by obtain ⟨nm, k1, k2, k3⟩ := (hpass w hw).2; exact ⟨nm, hts _ k1, mxe_n hK _ hE nm k2 k3⟩⟩) hcov h0 (hts _ hck) (va_Nw.use rfl (mxe_w hK _ hcast)) (by rw [e1]; exact hce) hcv (vx_cls hW₁ hcl) (kk _ _ q hJ')
    obtain ⟨t2, a1, b1⟩ := hV U' rfl X'
    exact ⟨t2, stp.trans a1, b1⟩
theorem mx_sld {b L : Nat} {xs : Nat → Int32} (hexec : p.tables.exec = Jvm.exec) (hb : c.code = cc) (hX : va_X b L xs s s.heap) (hbl : b < s.heap.size) (hbP : b < mpb P) (hz : s.heap.size = z0) (hJ : mx_J G P s.heap z0 u0 σ H locs) {i v : Int32} (hx : mt_x L xs i = some v) (hdg : decode cc pc = .ok (.iaload, 1))
    (kk : W p l e R s m args below meth c H locs cells slots Q (F0 m (pc + 1) ls (.int v :: rest))) : W p l e R s m args below meth c H locs cells slots Q (F0 m pc ls (.int i :: .ref b :: rest)) := by
  unfold mt_x at hx
  split at hx
  · rename_i hin
    cases hx
    exact va_sld hexec hb hX hbl (A := mx_ba P) (Nat.not_le.mpr hbP) (mx_Sv hz hJ) (vp_in_iff.mpr hin) hdg kk
  · cases hx
theorem mx_slen {b L : Nat} {xs : Nat → Int32} (hexec : p.tables.exec = Jvm.exec) (hb : c.code = cc) (hX : va_X b L xs s s.heap) (hbl : b < s.heap.size) (hbP : b < mpb P) (hz : s.heap.size = z0) (hJ : mx_J G P s.heap z0 u0 σ H locs) (hdg : decode cc pc = .ok (.arraylength, 1))
    (kk : W p l e R s m args below meth c H locs cells slots Q (F0 m (pc + 1) ls (.int (nI L) :: rest))) : W p l e R s m args below meth c H locs cells slots Q (F0 m pc ls (.ref b :: rest)) :=
  va_slen hexec hb hX hbl (A := mx_ba P) (Nat.not_le.mpr hbP) (mx_Sv hz hJ) hdg kk
theorem mx_lawret {b : Nat} (hexec : p.tables.exec = Jvm.exec) (hb : c.code = code) (hr : meth.sig.returnType = ret) (hlocks : meth.locks = false) (hbP : mpb P = s.heap.size) (hJ : mx_J G P s.heap z0 u0 σ H locs) (hC : mpc P - z0 ≤ room_1.cells) (hS : mps P - u0 ≤ room_1.slots) {v : Int32} (hf : mr_Z v σ = some (1, σ')) (hdg : decode code pc = .ok (.ireturn, 1)) : W p l e room_1 s m #[Value.ref b] below meth c H locs (mxz σ - z0) (mxu σ - u0) (lw_Z below #[Value.ref b] s) (F0 m pc ls [.int v]) := by
  unfold mr_Z at hf
  split at hf
  · have hv : v = 1 := congrArg Prod.fst (Option.some.inj hf)
    subst hv
    refine va_forget (fun q hq => by have := hJ.2.2.1 q hq; omega) ?_
    refine W.widen (k := room_1.cells) (n := room_1.slots) (by have := hJ.2.2.2.2.1; omega) (by have := hJ.2.2.2.2.2.2.1; omega) ?_
    exact lw_ret hexec hb hr hlocks hdg
  · cases hf
end MXH
