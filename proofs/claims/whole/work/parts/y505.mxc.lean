/-! ===== mx: new cells, calls, the frame of a method ===== -/
def mx_rm (P : mx_P) (fr lo : Nat) (σ : mx_S) : Room := { frames := fr, cells := mpc P - mxz σ, slots := mps P - mxu σ, locals := lo }
def mx_Pc (G : mx_G) (P : mx_P) (av : List Value) (σ : mx_S) : Array Value → State → Prop := fun v U => v = av.toArray ∧ mx_ab G σ U.heap ∧ U.heap.size = mxz σ ∧ mpb P ≤ mxz σ ∧ mx_K G P U
def mx_Qc (G : mx_G) (P : mx_P) (o : Option Value) (σ σ' : mx_S) : Array Value → State → Outcome → State → Prop := fun _ st oc t => oc = .returned o ∧ mx_ab G σ' t.heap ∧ t.heap.size = mxz σ' ∧ mxz σ ≤ mxz σ' ∧ mxz σ' ≤ mpc P ∧ mxu σ ≤ mxu σ' ∧ mxu σ' ≤ mps P ∧ ∀ q, q < mpb P → t.heap[q]? = st.heap[q]?
/-- a method's contract: from the picture σ with the arguments av it answers o and leaves the picture σ' -/
def mx_M (l : Launch) (y : MethodName) (cc : ByteArray) (maxL : Nat) (ret : Option FieldType) (fr lo : Nat) (G : mx_G) (P : mx_P) (av : List Value) (σ : mx_S) (o : Option Value) (σ' : mx_S) : Prop :=
  Met l y (Cond.code y cc maxL ret :: mx_tbl) (mx_rm P fr lo σ) (mx_Pc G P av σ) (mx_Qc G P o σ σ') (mxz σ' - mxz σ) (mxu σ' - mxu σ) (fun q => mpb P ≤ q)
def mx_Z (below : List Frame) (G : mx_G) (P : mx_P) (o : Option Value) (σ σ' : mx_S) (av : List Value) (s : State) : State → Prop := MQ below (mx_Qc G P o σ σ') av.toArray s (mxz σ' - mxz σ) (mxu σ' - mxu σ) (fun q => mpb P ≤ q)
theorem mx_ofB {l : Launch} {y : MethodName} {ws ws' : List Cond} {rm : Room} {Pc : Array Value → State → Prop} {Qc : Array Value → State → Outcome → State → Prop} {mc ms : Nat} {free : Addr → Prop} {cc : ByteArray} {maxL : Nat} {ret : Option FieldType}
    (hy : plainFor y = true) (hw : ws = Cond.code y cc maxL ret :: ws')
    (body : ∀ p e s m args below meth c s₁, BodyLoose p l y (headSpec ws rm) cc maxL ret e s m args below meth c s₁ → c.maxLocals = maxL → Pc args s →
      W p l e (headSpec ws rm).room s m args below meth c s.heap [] 0 0 (MQ below Qc args s mc ms free) (entryFrame m args maxL)) : Met l y ws rm Pc Qc mc ms free := by
  refine MetFree.of_bodySF (code := cc) (maxLocals := maxL) (ret := ret) hy ?_ ?_
  · intro args s m h hn
    obtain ⟨meth, c, h1, h2, h3, h4, h5, h6, -, -⟩ := Cond.code_spec hn (atoms_spec (ws := ws) h _ (by rw [hw]; exact List.mem_cons_self))
    exact ⟨meth, c, h1, h2, h3, h4, h5, h6⟩
  · intro p e s m args below meth c s₁ B hml hP _
    have hh0 : s₁.heap = s.heap := by rw [B.state]; rfl
    obtain ⟨t, a1, o, b1, b2, b3⟩ := body p e s m args below meth c s₁ B hml hP s₁ hh0 (Stand.of_body B)
    exact ⟨t, o, a1, b1, b2, ⟨b3.1, b3.2⟩⟩
theorem mx_ofW {l : Launch} {y : MethodName} {cc : ByteArray} {maxL : Nat} {ret : Option FieldType} {fr lo : Nat} {G : mx_G} {P : mx_P} {av : List Value} {σ : mx_S} {o : Option Value} {σ' : mx_S} (hy : plainFor y = true) (hc : mxz σ ≤ mpc P) (hu : mxu σ ≤ mps P) (hav : (lg_sl av).length ≤ maxL)
    (body : ∀ (p : Program) (e : Env) (s : State) (m : MethodId) (below : List Frame) (meth : Method) (c : Code), p.tables.exec = Jvm.exec → c.code = cc → meth.sig.returnType = ret → c.maxLocals = maxL → (∀ w ∈ mx_tbl, w.before av.toArray s = true) → s.vm.findClass y.cls = some m.cls → meth.locks = false → meth.name = y.name → mx_K G P s → mx_J G P s.heap (mxz σ) (mxu σ) σ s.heap [] → ∀ ls : Array Slot, lv_has ls maxL (lv_args 0 av) →
      W p l e (mx_rm P fr lo σ) s m av.toArray below meth c s.heap [] (mxz σ - mxz σ) (mxu σ - mxu σ) (mx_Z below G P o σ σ' av s) (F0 m 0 ls [])) : mx_M l y cc maxL ret fr lo G P av σ o σ' := by
  refine mx_ofB (cc := cc) (maxL := maxL) (ret := ret) hy rfl ?_
  intro p e s m args below meth c s₁ B hml hv
  obtain ⟨rfl, hab, hsz, hba, hK⟩ := hv
  have hts := atoms_spec (ws := Cond.code y cc maxL ret :: mx_tbl) B.pre
  have hl := lv_entry av (n := maxL) hav
  have := body p e s m below meth c B.exec B.bytes B.returns hml (fun w hw => hts w (List.mem_cons_of_mem _ hw)) (findClass_of_methodNamed B.named) B.notSynchronized (name_of_methodNamed B.named B.method).1 hK ⟨hab, hsz, (fun q hq => by cases hq), Nat.le_refl _, hc, Nat.le_refl _, hu, hba, fun _ _ => rfl⟩ _ hl
  rw [lg_entry_eq]
  rw [Nat.sub_self, Nat.sub_self] at this
  exact this
theorem mx_blind {G : mx_G} {P : mx_P} {av : List Value} {σ : mx_S} : FrameBlind (mx_Pc G P av σ) := fun a U g mk q => ⟨q.1, q.2.1, q.2.2.1, q.2.2.2.1, mx_K.at (s := U) (U := U.calling g mk a) q.2.2.2.2 (State.WarmedH.refl U) (fun _ _ => rfl)⟩
section MXC
variable {p : Program} {l : Launch} {e : Env} {R : Room} {s : State} {m : MethodId} {args : Array Value} {below : List Frame} {meth : Method} {c : Code} {H : Heap} {locs : List Loc} {cells slots : Nat} {Q : State → Prop}
variable {cc : ByteArray} {pc : Nat} {ls : Array Slot} {rest : List Value} {G : mx_G} {P : mx_P} {z0 u0 : Nat} {σ σ' : mx_S} {a : Nat}
theorem mx_back {y : MethodName} {bytes : ByteArray} {maxL : Nat} {ret : Option FieldType} {fr lo : Nat} {av : List Value} {o : Option Value} (hts : ∀ w ∈ mx_tbl, w.before args s = true) (hM : mx_M l y bytes maxL ret fr lo G P av σ o σ') (hcode : Cond.code y bytes maxL ret ∈ mx_tbl) (hini : Cond.initialized y.cls ∈ mx_tbl) (hfr : fr + 1 ≤ R.frames) (hlo : 8 + (maxL + 11) + lo ≤ R.locals) :
    Back l R p e below s args y 3 8 (fun A v => A.cells + (mpc P - mxz σ) ≤ R.cells ∧ A.slots + (mps P - mxu σ) ≤ R.slots ∧ mx_Pc G P av σ v A.U) (PostOf (mx_Qc G P o σ σ') (mxz σ' - mxz σ) (mxu σ' - mxu σ) (fun q => mpb P ≤ q)) := by
  refine Back.of_free (S := headSpec (Cond.code y bytes maxL ret :: mx_tbl) (mx_rm P fr lo σ)) (P := mx_Pc G P av σ) (K := fun _ _ _ _ _ => True) (Q := fun a st o' t => mx_Qc G P o σ σ' a st o' t ∧ ∃ L, FrameEnd st o' t L (mxz σ' - mxz σ) (mxu σ' - mxu σ) ∧ ∀ q ∈ L, mpb P ≤ q.base) (bytes := bytes) (maxL := maxL) (ret := ret)
    (E := fun a st o t L k n => k = mxz σ' - mxz σ ∧ n = mxu σ' - mxu σ ∧ ∀ q ∈ L, mpb P ≤ q.base) hM hfr hlo ?_ ?_ (fun _ _ _ _ _ _ _ _ _ => trivial) ?_ ?_
  · intro m meth c A a X hp
    have hw : ∀ w ∈ mx_tbl, w.before a A.U = true := mx_good hts X.warmed
    exact ⟨atoms_intro fun w hw' => (List.mem_cons.mp hw').elim (fun h => h ▸ hw _ hcode) (hw w), hw _ hcode, hw _ hini, hp.1, hp.2.1⟩
  · intro m meth c A a g mk X hp
    exact mx_blind _ _ _ _ hp.2.2
  · intro a st o t ⟨hq, L, hF, hL⟩
    exact ⟨L, _, _, hF, rfl, rfl, hL⟩
  · intro m meth c A a g mk v t L k n X hp hq hF ⟨e1, e2, hL⟩
    subst e1; subst e2
    exact ⟨g, mk, t, L, rfl, rfl, hq.1, rfl, hL, rfl, rfl⟩
/-- what is known of a method by its name: its words, how many arguments -/
def mx_me (y : MethodName) (bytes : ByteArray) (maxL : Nat) (ret : Option FieldType) (n : Nat) : Prop := Cond.code y bytes maxL ret ∈ mx_tbl ∧ Cond.initialized y.cls ∈ mx_tbl ∧ (y.cls ≠ "java/lang/invoke/MethodHandle" ∧ y.cls ≠ "java/lang/invoke/VarHandle") ∧ (parseMethodDescriptor y.desc).map (fun d => d.parameters.length) = some n
theorem mx_len {y : MethodName} {n : Nat} {As : List Value} (h : (parseMethodDescriptor y.desc).map (fun d => d.parameters.length) = some n) (hn : As.length = n) : ∀ sig, parseMethodDescriptor y.desc = some sig → As.length = sig.parameters.length := by
  intro sig hs
  rw [hs] at h
  exact hn.trans (Option.some.inj h).symm
theorem mx_pre (hJ : mx_J G P s.heap z0 u0 σ H locs) (hK : mx_K G P s) (hRc : R.cells = mpc P - z0) (hRs : R.slots = mps P - u0) {T : State} (hT : T.heap = H) (av : List Value) : ∀ vm₁, s.WarmedH vm₁ → (fun (A : Pt) v => A.cells + (mpc P - mxz σ) ≤ R.cells ∧ A.slots + (mps P - mxu σ) ≤ R.slots ∧ mx_Pc G P av σ v A.U) ⟨T.setVm vm₁, locs, mxz σ - z0, mxu σ - u0⟩ av.toArray := by
  intro vm₁ hW
  obtain ⟨j1, j2, j3, j4, j5, j6, j7, j8, j9⟩ := hJ
  refine ⟨?_, ?_, rfl, ?_, ?_, ?_, ?_⟩
  · show mxz σ - z0 + _ ≤ _
    rw [hRc]; omega
  · show mxu σ - u0 + _ ≤ _
    rw [hRs]; omega
  · show mx_ab G σ T.heap
    rw [hT]; exact j1
  · show T.heap.size = _
    rw [hT]; exact j2
  · omega
  · exact mx_K.at (U := T.setVm vm₁) hK hW (fun q hq => by show T.heap[q]? = _; rw [hT]; exact j9 q hq)
theorem mx_after (hJ : mx_J G P s.heap z0 u0 σ H locs) {st : State} {v : Array Value} {oc : Option Value} {o : Option Value} {t : State} {L : List Loc} (hst : st.heap = H) (hq : mx_Qc G P o σ σ' v st (.returned oc) t) (hL : ∀ q ∈ L, mpb P ≤ q.base) : oc = o ∧ mx_J G P s.heap z0 u0 σ' t.heap (locs ++ L) ∧ mxz σ - z0 + (mxz σ' - mxz σ) = mxz σ' - z0 ∧ mxu σ - u0 + (mxu σ' - mxu σ) = mxu σ' - u0 := by
  obtain ⟨j1, j2, j3, j4, j5, j6, j7, j8, j9⟩ := hJ
  obtain ⟨h1, h2, h3, h4, h5, h6, h7, h8⟩ := hq
  refine ⟨by cases h1; rfl, ⟨h2, h3, fun q hq => ?_, by omega, h5, by omega, h7, j8, fun q hq => by rw [h8 q hq, hst]; exact j9 q hq⟩, by omega, by omega⟩
  rcases List.mem_append.mp hq with h | h
  · exact j3 q h
  · exact hL q h
theorem mx_callS (hexec : p.tables.exec = Jvm.exec) (hb : c.code = cc) {nL : Nat} (hml : c.maxLocals = nL) {own : String} (hts : ∀ w ∈ mx_tbl, w.before args s = true) (hown : s.vm.findClass own = some m.cls) (hK : mx_K G P s) (hJ : mx_J G P s.heap z0 u0 σ H locs) (hRc : R.cells = mpc P - z0) (hRs : R.slots = mps P - u0)
    {y : MethodName} {bytes : ByteArray} {maxL : Nat} {ret : Option FieldType} {fr lo n index : Nat} {As : List Value} {o : Option Value} (hM : mxz σ ≤ mpc P → mxu σ ≤ mps P → mx_M l y bytes maxL ret fr lo G P As σ o σ') (hme : mx_me y bytes maxL ret n) (hstat : Cond.static y ∈ mx_tbl) (hlink : Cond.methodLink own index y ∈ mx_tbl) (hfr : fr + 1 ≤ R.frames) (hlo : 8 + (maxL + 11) + lo ≤ R.locals)
    (hn : As.length = n) (hsize : ls.size = nL) {st : List Value} (hst : st = As.reverse ++ rest) (hW : (rest.map fun v => v.category).sum ≤ 8) (hdg : decode cc pc = .ok (.invokestatic index, 3))
    (kk : ∀ (H1 : Heap) (locs1 : List Loc), mx_J G P s.heap z0 u0 σ' H1 locs1 → W p l e R s m args below meth c H1 locs1 (mxz σ' - z0) (mxu σ' - u0) Q (F0 m (pc + 3) ls (o.toList ++ rest))) : W p l e R s m args below meth c H locs (mxz σ - z0) (mxu σ - u0) Q (F0 m pc ls st) := by
  intro T hT X
  obtain ⟨v, vm₁, ⟨U', l2, c2, s2⟩, hW₁, X', ⟨g', mk, t, L, e1, e2, hq, h1, hL, h2, h3⟩, stp⟩ := callS X hexec hown (hts _ hlink) (hts _ hstat) (hts _ hme.2.1) (hts _ hme.1) hme.2.2.1 (mx_back hts (hM hJ.2.2.2.2.1 hJ.2.2.2.2.2.2.1) hme.1 hme.2.1 hfr hlo) (g := F0 m pc ls st) rfl (hsize.trans hml.symm) (argsL := As) (rest := rest) (mx_len hme.2.2.2 hn) hst (lv_room (st := rest) hW) (by rw [hb]; exact hdg) (mx_pre hJ hK hRc hRs hT As)
  dsimp only [Pt.U, Pt.locs, Pt.cells, Pt.slots] at X' e1 e2 h1 h2 h3 stp
  obtain ⟨rfl, hJ', z1, z2⟩ := mx_after hJ (st := (T.setVm vm₁).calling g' mk _) hT hq hL
  subst h1; subst h2; subst h3
  rw [← e1] at hJ'
  rw [z1, z2] at X'
  obtain ⟨t2, a1, b1⟩ := kk U'.heap _ hJ' U' rfl X'
  exact ⟨t2, stp t2 a1, b1⟩
theorem mx_callI (hexec : p.tables.exec = Jvm.exec) (hb : c.code = cc) {nL : Nat} (hml : c.maxLocals = nL) {own : String} (hts : ∀ w ∈ mx_tbl, w.before args s = true) (hown : s.vm.findClass own = some m.cls) (hK : mx_K G P s) (hJ : mx_J G P s.heap z0 u0 σ H locs) (hRc : R.cells = mpc P - z0) (hRs : R.slots = mps P - u0)
    {y : MethodName} {bytes : ByteArray} {maxL : Nat} {fr lo n index : Nat} {As : List Value} (hM : mxz σ ≤ mpc P → mxu σ ≤ mps P → mx_M l y bytes maxL none fr lo G P (.ref a :: As) σ none σ') (hme : mx_me y bytes maxL none n) (hinst : Cond.instanceMethod y ∈ mx_tbl) (hy1 : y.name = "<init>") (hlink : Cond.methodLink own index y ∈ mx_tbl) (hfr : fr + 1 ≤ R.frames) (hlo : 8 + (maxL + 11) + lo ≤ R.locals)
    (hn : As.length = n) (hsize : ls.size = nL) {st : List Value} (hst : st = As.reverse ++ .ref a :: rest) (hW : (rest.map fun v => v.category).sum ≤ 8) (hdg : decode cc pc = .ok (.invokespecial index, 3))
    (kk : ∀ (H1 : Heap) (locs1 : List Loc), mx_J G P s.heap z0 u0 σ' H1 locs1 → W p l e R s m args below meth c H1 locs1 (mxz σ' - z0) (mxu σ' - u0) Q (F0 m (pc + 3) ls rest)) : W p l e R s m args below meth c H locs (mxz σ - z0) (mxu σ - u0) Q (F0 m pc ls st) := by
  intro T hT X
  obtain ⟨v, vm₁, ⟨U', l2, c2, s2⟩, hW₁, X', ⟨g', mk, t, L, e1, e2, hq, h1, hL, h2, h3⟩, stp⟩ := callI X hexec hown hy1 (hts _ hlink) (hts _ hinst) (hts _ hme.1) hme.2.2.1 (mx_back hts (hM hJ.2.2.2.2.1 hJ.2.2.2.2.2.2.1) hme.1 hme.2.1 hfr hlo) (g := F0 m pc ls st) rfl (hsize.trans hml.symm) (a := a) (argsL := As) (rest := rest) (mx_len hme.2.2.2 hn) hst (lv_room (st := rest) hW) (by rw [hb]; exact hdg) (mx_pre hJ hK hRc hRs hT (.ref a :: As))
  dsimp only [Pt.U, Pt.locs, Pt.cells, Pt.slots] at X' e1 e2 h1 h2 h3 stp
  obtain ⟨rfl, hJ', z1, z2⟩ := mx_after hJ (st := (T.setVm vm₁).calling g' mk _) hT hq hL
  subst h1; subst h2; subst h3
  rw [← e1] at hJ'
  rw [z1, z2] at X'
  obtain ⟨t2, a1, b1⟩ := kk U'.heap _ hJ' U' rfl X'
  exact ⟨t2, stp t2 a1, b1⟩
theorem mx_iss {ci : Nat} {x : Unit} (h : mx_is σ a ci = some x) : mxA σ a = some (.inl ci) := by
  unfold mx_is at h
  split at h
  · assumption
  · cases h
theorem mx_callV (hexec : p.tables.exec = Jvm.exec) (hb : c.code = cc) {nL : Nat} (hml : c.maxLocals = nL) {own : String} (hts : ∀ w ∈ mx_tbl, w.before args s = true) (hown : s.vm.findClass own = some m.cls) (hK : mx_K G P s) (hJ : mx_J G P s.heap z0 u0 σ H locs) (hRc : R.cells = mpc P - z0) (hRs : R.slots = mps P - u0)
    {y : MethodName} {bytes : ByteArray} {maxL : Nat} {ret : Option FieldType} {fr lo n index ci : Nat} {C : String} {T : u_T} {N : Nat} {x : Unit} (hc : mx_cl[ci]? = some (C, T, N)) (hs : mx_is σ a ci = some x) {As : List Value} {o : Option Value} (hM : mxz σ ≤ mpc P → mxu σ ≤ mps P → mx_M l y bytes maxL ret fr lo G P (.ref a :: As) σ o σ') (hme : mx_me y bytes maxL ret n) (hinst : Cond.instanceMethod y ∈ mx_tbl) (hsel : Cond.selects C y y ∈ mx_tbl) (hlink : Cond.methodLink own index y ∈ mx_tbl) (hfr : fr + 1 ≤ R.frames) (hlo : 8 + (maxL + 11) + lo ≤ R.locals)
    (hn : As.length = n) (hsize : ls.size = nL) {st : List Value} (hst : st = As.reverse ++ .ref a :: rest) (hW : (rest.map fun v => v.category).sum ≤ 8) (hdg : decode cc pc = .ok (.invokevirtual index, 3))
    (kk : ∀ (H1 : Heap) (locs1 : List Loc), mx_J G P s.heap z0 u0 σ' H1 locs1 → W p l e R s m args below meth c H1 locs1 (mxz σ' - z0) (mxu σ' - u0) Q (F0 m (pc + 3) ls (o.toList ++ rest))) : W p l e R s m args below meth c H locs (mxz σ - z0) (mxu σ - u0) Q (F0 m pc ls st) := by
  intro T hT X
  obtain ⟨r, hr, cellB, g1, g2, g3, -⟩ := hJ.1.1 a ci (mx_iss hs)
  have hcls : s.vm.findClass C = some cellB.cls := by rw [g2]; exact (hK.1.1 ci _ hc).2.1
  obtain ⟨v, vm₁, ⟨U', l2, c2, s2⟩, hW₁, X', ⟨g', mk, t, L, e1, e2, hq, h1, hL, h2, h3⟩, stp⟩ := callV X hexec hown (hts _ hlink) (hts _ hinst) (hts _ hsel) (hts _ hme.1) hme.2.2.1 (mx_back hts (hM hJ.2.2.2.2.1 hJ.2.2.2.2.2.2.1) hme.1 hme.2.1 hfr hlo) (b := a) (by rw [hT]; exact g1) (by rw [g3]; rfl) hcls (g := F0 m pc ls st) rfl (hsize.trans hml.symm) (argsL := As) (rest := rest) (mx_len hme.2.2.2 hn) hst (lv_room (st := rest) hW) (by rw [hb]; exact hdg) (mx_pre hJ hK hRc hRs hT (.ref a :: As))
  dsimp only [Pt.U, Pt.locs, Pt.cells, Pt.slots] at X' e1 e2 h1 h2 h3 stp
  obtain ⟨rfl, hJ', z1, z2⟩ := mx_after hJ (st := (T.setVm vm₁).calling g' mk _) hT hq hL
  subst h1; subst h2; subst h3
  rw [← e1] at hJ'
  rw [z1, z2] at X'
  obtain ⟨t2, a1, b1⟩ := kk U'.heap _ hJ' U' rfl X'
  exact ⟨t2, stp t2 a1, b1⟩
-- new cells
theorem mx_nO (hexec : p.tables.exec = Jvm.exec) (hb : c.code = cc) {own C : String} {T : u_T} {N ci index : Nat} (hts : ∀ w ∈ mx_tbl, w.before args s = true) (hin : ∀ w ∈ u_ws C T N, w ∈ mx_tbl) (hty : ∀ k, k < N → parseFieldDescriptor (T k).2.2.1 = some (mx_ty ci k)) (hown : s.vm.findClass own = some m.cls) (hK : mx_K G P s) (hJ : mx_J G P s.heap z0 u0 σ H locs) (hRc : R.cells = mpc P - z0) (hRs : R.slots = mps P - u0) (hc : mx_cl[ci]? = some (C, T, N)) {q : Nat} (hx : mn_O P σ ci N = some (q, σ')) (hcl : Cond.classLink own index C ∈ mx_tbl) (hinst : Cond.instantiable C N ∈ mx_tbl) (hini : Cond.initialized C ∈ mx_tbl) (hdf : ∀ j, j < N → defaultValue (mx_ty ci j) = mx_val (mx_ty ci j) 0 0 none) (hdg : decode cc pc = .ok (.new index, 3))
    (kk : ∀ (H1 : Heap) (locs1 : List Loc), mx_J G P s.heap z0 u0 σ' H1 locs1 → W p l e R s m args below meth c H1 locs1 (mxz σ' - z0) (mxu σ' - u0) Q (F0 m (pc + 3) ls (.ref q :: rest))) : W p l e R s m args below meth c H locs (mxz σ - z0) (mxu σ - u0) Q (F0 m pc ls rest) := by
  unfold mn_O at hx
  split at hx
  · rename_i hroom
    obtain ⟨r1, r2⟩ := hroom
    have e1 : mxz σ = q := congrArg Prod.fst (Option.some.inj hx)
    have e2 : mx_new σ (.inl ci) N = σ' := congrArg Prod.snd (Option.some.inj hx)
    subst e2
    have hsz := hJ.2.1
    have hz0 := hJ.2.2.2.1
    have hu0 := hJ.2.2.2.2.2.1
    have hKn := hK.1.1 ci _ hc
    refine W.newcK hexec hb hown (hts _ hcl) (hts _ hinst) (hts _ hini) rfl hdg (by rw [hRc]; omega) (by rw [hRs]; omega) hKn.2.1 rfl fun H1 kC hkC d1 z1 o1 => ?_
    have hJ' : mx_J G P s.heap z0 u0 (mx_new σ (.inl ci) N) H1 locs := by
      refine mx_J_new hJ r1 r2 z1 o1 (fun ci' h => ?_) (fun t k h => by cases h)
      cases h
      refine ⟨_, hc, (u_born (mx_ty ci) hts hin hKn hkC d1 hty).to fun j hj => ?_⟩
      rw [hdf j hj]
      show mx_val _ 0 0 none = mx_val _ (if H.size = mxz σ then 0 else _) (if H.size = mxz σ then 0 else _) (if H.size = mxz σ then none else _)
      rw [if_pos hsz, if_pos hsz, if_pos hsz]
    have := kk H1 _ hJ'
    rw [← e1, ← hsz] at this
    rw [show mxz σ - z0 + 1 = mxz (mx_new σ (.inl ci) N) - z0 from by show _ = mxz σ + 1 - z0; omega, show mxu σ - u0 + N = mxu (mx_new σ (.inl ci) N) - u0 from by show _ = mxu σ + N - u0; omega]
    exact this
  · cases hx
theorem mx_nA (hexec : p.tables.exec = Jvm.exec) (hb : c.code = cc) (hts : ∀ w ∈ mx_tbl, w.before args s = true) (hK : mx_K G P s) (hJ : mx_J G P s.heap z0 u0 σ H locs) (hRc : R.cells = mpc P - z0) (hRs : R.slots = mps P - u0) {t : Nat} (ht8 : t < 8) {atype : ArrayType} (hat : newarray.typeOf atype = mx_at t) (hnm : ∀ cA, va_RA s cA (mx_at t) → s.vm.findClass ("[" ++ (mx_at t).toString) = some cA) (hcb : componentBytes (mx_at t) ≤ 8) (hdf : defaultValue (mx_at t) = mx_val (mx_at t) 0 0 none) {n : Int32} {q : Nat} (hx : mn_A P σ t n = some (q, σ')) (harr : Cond.arrayClass (mx_at t) ∈ mx_tbl) (hdg : decode cc pc = .ok (.newarray atype, 2))
    (kk : ∀ (H1 : Heap) (locs1 : List Loc), mx_J G P s.heap z0 u0 σ' H1 locs1 → W p l e R s m args below meth c H1 locs1 (mxz σ' - z0) (mxu σ' - u0) Q (F0 m (pc + 2) ls (.ref q :: rest))) : W p l e R s m args below meth c H locs (mxz σ - z0) (mxu σ - u0) Q (F0 m pc ls (.int n :: rest)) := by
  unfold mn_A at hx
  split at hx
  · rename_i hroom
    obtain ⟨r0, r3, r1, r2⟩ := hroom
    have e1 : mxz σ = q := congrArg Prod.fst (Option.some.inj hx)
    have e2 : mx_new σ (.inr (t, n.toNatClampNeg)) n.toNatClampNeg = σ' := congrArg Prod.snd (Option.some.inj hx)
    subst e2
    have hsz := hJ.2.1
    have hz0 := hJ.2.2.2.1
    have hu0 := hJ.2.2.2.2.2.1
    have hby : n.toNatClampNeg * componentBytes (mx_at t) ≤ 536870912 := Nat.le_trans (Nat.mul_le_mul r3 hcb) (by decide)
    refine va_newaK hexec hb (by rw [hat]; exact hts _ harr) rfl hdg rfl r0 rfl (by rw [hat]; exact hby) (by rw [hRc]; omega) (by rw [hRs]; omega) rfl fun H1 cA d1 z1 o1 hAr hNm => ?_
    rw [hat] at d1 hNm
    have hcA : cA = mgA G t := Option.some.inj (hNm.symm.trans (hnm _ (hK.arr ht8).2))
    subst hcA
    have hJ' : mx_J G P s.heap z0 u0 (mx_new σ (.inr (t, n.toNatClampNeg)) n.toNatClampNeg) H1 locs := by
      refine mx_J_new hJ r1 r2 z1 o1 (fun ci' h => by cases h) (fun t' k h => ?_)
      cases h
      refine ⟨ht8, ?_⟩
      show H1[H.size]? = some (arrV _ _ (fun j => mx_val _ (if H.size = mxz σ then 0 else _) (if H.size = mxz σ then 0 else _) (if H.size = mxz σ then none else _)))
      rw [d1, hdf]
      congr 2
      funext j
      rw [if_pos hsz, if_pos hsz, if_pos hsz]
    have := kk H1 _ hJ'
    rw [← e1, ← hsz] at this
    rw [show mxz σ - z0 + 1 = mxz (mx_new σ (.inr (t, n.toNatClampNeg)) n.toNatClampNeg) - z0 from by show _ = mxz σ + 1 - z0; omega, show mxu σ - u0 + n.toNatClampNeg = mxu (mx_new σ (.inr (t, n.toNatClampNeg)) n.toNatClampNeg) - u0 from by show _ = mxu σ + n.toNatClampNeg - u0; omega]
    exact this
  · cases hx
-- ends
theorem mx_iret (hexec : p.tables.exec = Jvm.exec) (hb : c.code = cc) (hr : meth.sig.returnType = some .int) (hlocks : meth.locks = false) {σ0 : mx_S} {av : List Value} (hJ : mx_J G P s.heap (mxz σ0) (mxu σ0) σ H locs) {v : Int32} (hdg : decode cc pc = .ok (.ireturn, 1)) : W p l e R s m av.toArray below meth c H locs (mxz σ - mxz σ0) (mxu σ - mxu σ0) (mx_Z below G P (some (.int v)) σ0 σ av s) (F0 m pc ls [.int v]) :=
  W.iret hexec hb hr (fun t ht _ => ⟨rfl, by rw [ht]; exact hJ.1, by rw [ht]; exact hJ.2.1, hJ.2.2.2.1, hJ.2.2.2.2.1, hJ.2.2.2.2.2.1, hJ.2.2.2.2.2.2.1, fun q hq => by rw [ht]; exact hJ.2.2.2.2.2.2.2.2 q hq⟩) hJ.2.2.1 hdg hlocks
theorem mx_lret (hexec : p.tables.exec = Jvm.exec) (hb : c.code = cc) (hr : meth.sig.returnType = some .long) (hlocks : meth.locks = false) {σ0 : mx_S} {av : List Value} (hJ : mx_J G P s.heap (mxz σ0) (mxu σ0) σ H locs) {v : Int64} (hdg : decode cc pc = .ok (.lreturn, 1)) : W p l e R s m av.toArray below meth c H locs (mxz σ - mxz σ0) (mxu σ - mxu σ0) (mx_Z below G P (some (.long v)) σ0 σ av s) (F0 m pc ls [.long v]) :=
  W.lret hexec hb hr (fun t ht _ => ⟨rfl, by rw [ht]; exact hJ.1, by rw [ht]; exact hJ.2.1, hJ.2.2.2.1, hJ.2.2.2.2.1, hJ.2.2.2.2.2.1, hJ.2.2.2.2.2.2.1, fun q hq => by rw [ht]; exact hJ.2.2.2.2.2.2.2.2 q hq⟩) hJ.2.2.1 hdg hlocks
theorem mx_vret (hexec : p.tables.exec = Jvm.exec) (hb : c.code = cc) (hr : meth.sig.returnType = none) (hlocks : meth.locks = false) {σ0 : mx_S} {av : List Value} (hJ : mx_J G P s.heap (mxz σ0) (mxu σ0) σ H locs) (hdg : decode cc pc = .ok (.return_, 1)) : W p l e R s m av.toArray below meth c H locs (mxz σ - mxz σ0) (mxu σ - mxu σ0) (mx_Z below G P none σ0 σ av s) (F0 m pc ls []) :=
  W.vret hexec hb hr (fun t ht _ => ⟨rfl, by rw [ht]; exact hJ.1, by rw [ht]; exact hJ.2.1, hJ.2.2.2.1, hJ.2.2.2.2.1, hJ.2.2.2.2.2.1, hJ.2.2.2.2.2.2.1, fun q hq => by rw [ht]; exact hJ.2.2.2.2.2.2.2.2 q hq⟩) hJ.2.2.1 hdg hlocks
theorem mx_zret (hexec : p.tables.exec = Jvm.exec) (hb : c.code = cc) (hr : meth.sig.returnType = some .boolean) (hlocks : meth.locks = false) {σ0 : mx_S} {av : List Value} (hJ : mx_J G P s.heap (mxz σ0) (mxu σ0) σ H locs) {v w : Int32} (hx : mr_Z v σ = some (w, σ')) (hdg : decode cc pc = .ok (.ireturn, 1)) : W p l e R s m av.toArray below meth c H locs (mxz σ - mxz σ0) (mxu σ - mxu σ0) (mx_Z below G P (some (.int w)) σ0 σ' av s) (F0 m pc ls [.int v]) := by
  unfold mr_Z at hx
  split at hx
  · rename_i h01
    cases hx
    exact W.zret hexec hb hr (by rcases h01 with h | h <;> rw [h] <;> decide) (fun t ht _ => ⟨rfl, by rw [ht]; exact hJ.1, by rw [ht]; exact hJ.2.1, hJ.2.2.2.1, hJ.2.2.2.2.1, hJ.2.2.2.2.2.1, hJ.2.2.2.2.2.2.1, fun q hq => by rw [ht]; exact hJ.2.2.2.2.2.2.2.2 q hq⟩) hJ.2.2.1 hdg hlocks
  · cases hx
theorem mx_cret (hexec : p.tables.exec = Jvm.exec) (hb : c.code = cc) (hr : meth.sig.returnType = some .char) (hlocks : meth.locks = false) {σ0 : mx_S} {av : List Value} (hJ : mx_J G P s.heap (mxz σ0) (mxu σ0) σ H locs) {v w : Int32} (hx : mr_C v σ = some (w, σ')) (hdg : decode cc pc = .ok (.ireturn, 1)) : W p l e R s m av.toArray below meth c H locs (mxz σ - mxz σ0) (mxu σ - mxu σ0) (mx_Z below G P (some (.int w)) σ0 σ' av s) (F0 m pc ls [.int v]) := by
  unfold mr_C at hx
  split at hx
  · rename_i h01
    cases hx
    exact W.zret hexec hb hr (by rw [← h01]; exact pk_nc _) (fun t ht _ => ⟨rfl, by rw [ht]; exact hJ.1, by rw [ht]; exact hJ.2.1, hJ.2.2.2.1, hJ.2.2.2.2.1, hJ.2.2.2.2.2.1, hJ.2.2.2.2.2.2.1, fun q hq => by rw [ht]; exact hJ.2.2.2.2.2.2.2.2 q hq⟩) hJ.2.2.1 hdg hlocks
  · cases hx
theorem mx_bret (hexec : p.tables.exec = Jvm.exec) (hb : c.code = cc) (hr : meth.sig.returnType = some .byte) (hlocks : meth.locks = false) {σ0 : mx_S} {av : List Value} (hJ : mx_J G P s.heap (mxz σ0) (mxu σ0) σ H locs) {v w : Int32} (hx : mr_B v σ = some (w, σ')) (hdg : decode cc pc = .ok (.ireturn, 1)) : W p l e R s m av.toArray below meth c H locs (mxz σ - mxz σ0) (mxu σ - mxu σ0) (mx_Z below G P (some (.int w)) σ0 σ' av s) (F0 m pc ls [.int v]) := by
  unfold mr_B at hx
  split at hx
  · rename_i h01
    cases hx
    exact W.zret hexec hb hr (by rw [← h01]; exact pk_nb _) (fun t ht _ => ⟨rfl, by rw [ht]; exact hJ.1, by rw [ht]; exact hJ.2.1, hJ.2.2.2.1, hJ.2.2.2.2.1, hJ.2.2.2.2.2.1, hJ.2.2.2.2.2.2.1, fun q hq => by rw [ht]; exact hJ.2.2.2.2.2.2.2.2 q hq⟩) hJ.2.2.1 hdg hlocks
  · cases hx
end MXC
