/-! ===== mx: methods that throw ===== -/
def mx_XC (G : mx_G) (P : mx_P) (E : String) (σ σ' : mx_S) : String → State → State → Prop := fun E' st t => E' = E ∧ mx_ab G σ' t.heap ∧ t.heap.size = mxz σ' ∧ mxz σ ≤ mxz σ' ∧ mxz σ' ≤ mpc P ∧ mxu σ ≤ mxu σ' ∧ mxu σ' ≤ mps P ∧ ∀ q, q < mpb P → t.heap[q]? = st.heap[q]?
/-- a method's contract where it throws: an object of class E, the picture σ' behind it -/
def mx_Mt (l : Launch) (y : MethodName) (cc : ByteArray) (maxL : Nat) (ret : Option FieldType) (fr lo : Nat) (G : mx_G) (P : mx_P) (av : List Value) (σ : mx_S) (E : String) (σ' : mx_S) : Prop :=
  vx_Met l y (Cond.code y cc maxL ret :: mx_tbl) (mx_rm P fr lo σ) (mx_Pc G P av σ) (fun _ _ _ _ => False) (mx_XC G P E σ σ') (mxz σ' - mxz σ) (mxu σ' - mxu σ) (fun q => mpb P ≤ q)
def mx_Zt (below : List Frame) (G : mx_G) (P : mx_P) (E : String) (σ σ' : mx_S) (av : List Value) (s : State) : State → Prop := vx_MQ below (fun _ _ _ _ => False) (mx_XC G P E σ σ') av.toArray s (mxz σ' - mxz σ) (mxu σ' - mxu σ) (fun q => mpb P ≤ q)
theorem mx_ofWt {l : Launch} {y : MethodName} {cc : ByteArray} {maxL : Nat} {ret : Option FieldType} {fr lo : Nat} {G : mx_G} {P : mx_P} {av : List Value} {σ : mx_S} {E : String} {σ' : mx_S} (hy : plainName y.cls = true) (hc : mxz σ ≤ mpc P) (hu : mxu σ ≤ mps P) (hav : (lg_sl av).length ≤ maxL)
    (body : ∀ (p : Program) (e : Env) (s : State) (m : MethodId) (below : List Frame) (meth : Method) (c : Code), p.tables.exec = Jvm.exec → c.code = cc → meth.sig.returnType = ret → c.maxLocals = maxL → (∀ w ∈ mx_tbl, w.before av.toArray s = true) → s.vm.findClass y.cls = some m.cls → meth.locks = false → meth.name = y.name → (∀ x ∈ c.exceptionTable.toList, False) → mx_K G P s → mx_J G P s.heap (mxz σ) (mxu σ) σ s.heap [] → ∀ ls : Array Slot, lv_has ls maxL (lv_args 0 av) →
      W p l e (mx_rm P fr lo σ) s m av.toArray below meth c s.heap [] (mxz σ - mxz σ) (mxu σ - mxu σ) (mx_Zt below G P E σ σ' av s) (F0 m 0 ls [])) : mx_Mt l y cc maxL ret fr lo G P av σ E σ' := by
  refine vx_ofW (cc := cc) (maxL := maxL) (ret := ret) hy rfl ?_
  intro p e s m args below meth c s₁ B hml hnt hv
  obtain ⟨rfl, hab, hsz, hba, hK⟩ := hv
  have hts := atoms_spec (ws := Cond.code y cc maxL ret :: mx_tbl) B.pre
  have hl := lv_entry av (n := maxL) hav
  have := body p e s m below meth c B.exec B.bytes B.returns hml (fun w hw => hts w (List.mem_cons_of_mem _ hw)) (findClass_of_methodNamed B.named) B.notSynchronized (name_of_methodNamed B.named B.method).1 hnt hK ⟨hab, hsz, (fun q hq => by cases hq), Nat.le_refl _, hc, Nat.le_refl _, hu, hba, fun _ _ => rfl⟩ _ hl
  rw [lg_entry_eq]
  rw [Nat.sub_self, Nat.sub_self] at this
  exact this
-- pure steps of methods that throw
theorem mbx_n {α β : Type} {o : Option ((String × mx_S) ⊕ α)} {g : α → Option ((String × mx_S) ⊕ β)} {z : β} (h : mx_bx o g = some (.inr z)) : ∃ a, o = some (.inr a) ∧ g a = some (.inr z) := by
  match o, h with
  | none, h => cases h
  | some (.inl x), h => cases h
  | some (.inr a), h => exact ⟨a, rfl, h⟩
theorem mbx_t {α β : Type} {o : Option ((String × mx_S) ⊕ α)} {g : α → Option ((String × mx_S) ⊕ β)} {z : String × mx_S} (h : mx_bx o g = some (.inl z)) : o = some (.inl z) ∨ ∃ a, o = some (.inr a) ∧ g a = some (.inl z) := by
  match o, h with
  | none, h => cases h
  | some (.inl x), h => cases h; exact Or.inl rfl
  | some (.inr a), h => exact Or.inr ⟨a, rfl, h⟩
theorem mbx2_n {α β : Type} {o : Option ((String × mx_S) ⊕ (α × mx_S))} {g : α → mx_S → Option ((String × mx_S) ⊕ β)} {z : β} (h : mx_bx2 o g = some (.inr z)) : ∃ a b, o = some (.inr (a, b)) ∧ g a b = some (.inr z) := by
  match o, h with
  | none, h => cases h
  | some (.inl x), h => cases h
  | some (.inr (a, b)), h => exact ⟨a, b, rfl, h⟩
theorem mbx2_t {α β : Type} {o : Option ((String × mx_S) ⊕ (α × mx_S))} {g : α → mx_S → Option ((String × mx_S) ⊕ β)} {z : String × mx_S} (h : mx_bx2 o g = some (.inl z)) : o = some (.inl z) ∨ ∃ a b, o = some (.inr (a, b)) ∧ g a b = some (.inl z) := by
  match o, h with
  | none, h => cases h
  | some (.inl x), h => cases h; exact Or.inl rfl
  | some (.inr (a, b)), h => exact Or.inr ⟨a, b, rfl, h⟩
theorem mx_inr {α β : Type} {x y : β} (h : some (Sum.inr x : α ⊕ β) = some (.inr y)) : some x = some y := by cases h; rfl
theorem mx_inl {β : Type} {a b : String} {x y : mx_S} (h : some (Sum.inl (a, x) : (String × mx_S) ⊕ β) = some (.inl (b, y))) : a = b ∧ x = y := by cases h; exact ⟨rfl, rfl⟩
theorem mx_all2 {L : List Cond} (h : L.all (fun w => decide (w ∈ mx_tbl) || decide (w ∈ mx_wk)) = true) : ∀ w ∈ L, w ∈ mx_tbl ∨ w ∈ mx_wk := by
  intro w hw
  have := List.all_eq_true.mp h w hw
  rw [Bool.or_eq_true, decide_eq_true_eq, decide_eq_true_eq] at this
  exact this
theorem mx_wkT : ∀ w ∈ mx_wk, w.onTables = true := by
  intro w hw
  have hq := (List.mem_filter.mp hw).2
  cases w <;> first | exact absurd (show false = true from hq) Bool.false_ne_true | rfl
section MXX
variable {p : Program} {l : Launch} {e : Env} {R : Room} {s : State} {m : MethodId} {args : Array Value} {below : List Frame} {meth : Method} {c : Code} {H : Heap} {locs : List Loc} {cells slots : Nat} {Q : State → Prop}
variable {cc : ByteArray} {pc : Nat} {ls : Array Slot} {rest : List Value} {G : mx_G} {P : mx_P} {z0 u0 : Nat} {σ σ' : mx_S} {a : Nat}
theorem mx_backT {y : MethodName} {bytes : ByteArray} {maxL : Nat} {ret : Option FieldType} {fr lo : Nat} {av : List Value} {E : String} (hts : ∀ w ∈ mx_tbl, w.before args s = true) (hM : mx_Mt l y bytes maxL ret fr lo G P av σ E σ') (hcode : Cond.code y bytes maxL ret ∈ mx_tbl) (hini : Cond.initialized y.cls ∈ mx_tbl) (hfr : fr + 1 ≤ R.frames) (hlo : 8 + (maxL + 11) + lo ≤ R.locals) :
    vx_Back l R p e below s args y 3 8 (fun A v => A.cells + (mpc P - mxz σ) ≤ R.cells ∧ A.slots + (mps P - mxu σ) ≤ R.slots ∧ mx_Pc G P av σ v A.U) (PostOf (fun _ _ _ _ => False) (mxz σ' - mxz σ) (mxu σ' - mxu σ) (fun q => mpb P ≤ q)) (vx_Post (mx_XC G P E σ σ') (mxz σ' - mxz σ) (mxu σ' - mxu σ) (fun q => mpb P ≤ q)) :=
  mx_vback (bytes := bytes) (maxL := maxL) (ret := ret) hM mx_blind hfr hlo (fun w hw a' U hW => (List.mem_cons.mp hw).elim (fun h => h ▸ mx_good hts hW _ hcode) (mx_good hts hW w)) List.mem_cons_self (fun a' U hW => mx_good hts hW _ hini)
/-- behind a throw of a callee: the picture, where nothing here catches it -/
theorem mx_leave {σ0 : mx_S} {av : List Value} {E : String} (hnt : ∀ x ∈ c.exceptionTable.toList, False) (hlocks : meth.locks = false) (hJ : mx_J G P s.heap (mxz σ0) (mxu σ0) σ H locs) {T U' : State} {vm₁ : Vm} {g' : JFrame} {mk : MethodId} {v : Array Value} {t : State} {L : List Loc} {ce : Cell} {q : Addr} {E' : String} (hT : T.heap = H) (e1 : U'.heap = t.heap) (hx : mx_XC G P E σ σ' E' ((T.setVm vm₁).calling g' mk v) t) (hce : t.heap[q]? = some ce) (hcv : ce.vm = .none) (hcl : s.vm.findClass E' = some ce.cls) (hL : ∀ z ∈ L, mpb P ≤ z.base)
    (X' : Stand p l e R s m av.toArray below meth c U' (locs ++ L) (mxz σ - mxz σ0 + (mxz σ' - mxz σ)) (mxu σ - mxu σ0 + (mxu σ' - mxu σ))) {pc' : Nat} {st : List Value} : ∃ t', Steps p.tables e below ((U'.setTop (F0 m pc' ls st)).pushFrame (.throwing q)) t' ∧ mx_Zt below G P E σ0 σ' av s t' := by
  obtain ⟨rfl, h2, h3, h4, h5, h6, h7, h8⟩ := hx
  obtain ⟨j1, j2, j3, j4, j5, j6, j7, j8, j9⟩ := hJ
  refine vx_out (rest := st) (pc := pc') (ls := ls) (E := E') (ce := ce) (q := q) (H := U'.heap) (locs := locs ++ L) (mc := mxz σ' - mxz σ0) (ms := mxu σ' - mxu σ0) (fun x hx => (hnt x hx).elim) hlocks (by rw [e1]; exact hce) hcv hcl (fun t9 ht9 hal => ?_) (fun z hz => ?_) (by omega) (by omega) U' rfl X'
  · refine ⟨rfl, by rw [ht9, e1]; exact h2, by rw [ht9, e1]; exact h3, by omega, h5, by omega, h7, fun x hx => ?_⟩
    rw [ht9, e1, h8 x hx]
    show T.heap[x]? = _
    rw [hT]; exact j9 x hx
  · rcases List.mem_append.mp hz with h | h
    · exact j3 z h
    · exact hL z h
theorem mx_callST {σ0 : mx_S} {av : List Value} (hexec : p.tables.exec = Jvm.exec) (hb : c.code = cc) {nL : Nat} (hml : c.maxLocals = nL) {own : String} (hts : ∀ w ∈ mx_tbl, w.before av.toArray s = true) (hown : s.vm.findClass own = some m.cls) (hK : mx_K G P s) (hJ : mx_J G P s.heap (mxz σ0) (mxu σ0) σ H locs) (hRc : R.cells = mpc P - mxz σ0) (hRs : R.slots = mps P - mxu σ0) (hnt : ∀ x ∈ c.exceptionTable.toList, False) (hlocks : meth.locks = false)
    {y : MethodName} {bytes : ByteArray} {maxL : Nat} {ret : Option FieldType} {fr lo n index : Nat} {As : List Value} {E : String} (hM : mxz σ ≤ mpc P → mxu σ ≤ mps P → mx_Mt l y bytes maxL ret fr lo G P As σ E σ') (hme : mx_me y bytes maxL ret n) (hstat : Cond.static y ∈ mx_tbl) (hlink : Cond.methodLink own index y ∈ mx_tbl) (hfr : fr + 1 ≤ R.frames) (hlo : 8 + (maxL + 11) + lo ≤ R.locals)
    (hn : As.length = n) (hsize : ls.size = nL) {st : List Value} (hst : st = As.reverse ++ rest) (hW : (rest.map fun v => v.category).sum ≤ 8) (hdg : decode cc pc = .ok (.invokestatic index, 3)) : W p l e R s m av.toArray below meth c H locs (mxz σ - mxz σ0) (mxu σ - mxu σ0) (mx_Zt below G P E σ0 σ' av s) (F0 m pc ls st) := by
  intro T hT X
  rcases vx_callS X hexec hown (hts _ hlink) (hts _ hstat) (hts _ hme.2.1) (hts _ hme.1) hme.2.2.1 (mx_backT hts (hM hJ.2.2.2.2.1 hJ.2.2.2.2.2.2.1) hme.1 hme.2.1 hfr hlo) (g := F0 m pc ls st) rfl (hsize.trans hml.symm) (argsL := As) (rest := rest) (mx_len hme.2.2.2 hn) hst (lv_room (st := rest) hW) (by rw [hb]; exact hdg) (mx_pre hJ hK hRc hRs hT As) with ⟨v, vm₁, B, hW₁, X', ⟨g', mk, t, L, e1, e2, hq, hrest⟩, stp⟩ | ⟨q, vm₁, ⟨U', l2, c2, s2⟩, hW₁, X', ⟨g', mk, t, L, E', ce, e1, e2, hx, hce, hcv, hcl, h1, hL, h2, h3⟩, stp⟩
  · exact hq.elim
  · dsimp only [Pt.U, Pt.locs, Pt.cells, Pt.slots] at X' e1 e2 h1 h2 h3 stp
    subst h1; subst h2; subst h3
    obtain ⟨t2, a1, b1⟩ := mx_leave hnt hlocks hJ hT e1 hx hce hcv (vx_cls hW₁ hcl) hL X' (pc' := pc) (st := rest) (ls := ls)
    exact ⟨t2, stp.trans a1, b1⟩
theorem mx_callVT {σ0 : mx_S} {av : List Value} (hexec : p.tables.exec = Jvm.exec) (hb : c.code = cc) {nL : Nat} (hml : c.maxLocals = nL) {own : String} (hts : ∀ w ∈ mx_tbl, w.before av.toArray s = true) (hown : s.vm.findClass own = some m.cls) (hK : mx_K G P s) (hJ : mx_J G P s.heap (mxz σ0) (mxu σ0) σ H locs) (hRc : R.cells = mpc P - mxz σ0) (hRs : R.slots = mps P - mxu σ0) (hnt : ∀ x ∈ c.exceptionTable.toList, False) (hlocks : meth.locks = false)
    {y : MethodName} {bytes : ByteArray} {maxL : Nat} {ret : Option FieldType} {fr lo n index ci : Nat} {C : String} {T0 : u_T} {N : Nat} {x : Unit} (hc : mx_cl[ci]? = some (C, T0, N)) (hs : mx_is σ a ci = some x) {As : List Value} {E : String} (hM : mxz σ ≤ mpc P → mxu σ ≤ mps P → mx_Mt l y bytes maxL ret fr lo G P (.ref a :: As) σ E σ') (hme : mx_me y bytes maxL ret n) (hinst : Cond.instanceMethod y ∈ mx_tbl) (hsel : Cond.selects C y y ∈ mx_tbl) (hlink : Cond.methodLink own index y ∈ mx_tbl) (hfr : fr + 1 ≤ R.frames) (hlo : 8 + (maxL + 11) + lo ≤ R.locals)
    (hn : As.length = n) (hsize : ls.size = nL) {st : List Value} (hst : st = As.reverse ++ .ref a :: rest) (hW : (rest.map fun v => v.category).sum ≤ 8) (hdg : decode cc pc = .ok (.invokevirtual index, 3)) : W p l e R s m av.toArray below meth c H locs (mxz σ - mxz σ0) (mxu σ - mxu σ0) (mx_Zt below G P E σ0 σ' av s) (F0 m pc ls st) := by
  intro T hT X
  obtain ⟨r, hr, cellB, g1, g2, g3, -⟩ := hJ.1.1 a ci (mx_iss hs)
  have hcls : s.vm.findClass C = some cellB.cls := by rw [g2]; exact (hK.1.1 ci _ hc).2.1
  rcases vx_callV X hexec hown (hts _ hlink) (hts _ hinst) (hts _ hsel) (hts _ hme.1) hme.2.2.1 (mx_backT hts (hM hJ.2.2.2.2.1 hJ.2.2.2.2.2.2.1) hme.1 hme.2.1 hfr hlo) (b := a) (by rw [hT]; exact g1) (by rw [g3]; rfl) hcls (g := F0 m pc ls st) rfl (hsize.trans hml.symm) (argsL := As) (rest := rest) (mx_len hme.2.2.2 hn) hst (lv_room (st := rest) hW) (by rw [hb]; exact hdg) (mx_pre hJ hK hRc hRs hT (.ref a :: As)) with ⟨v, vm₁, B, hW₁, X', ⟨g', mk, t, L, e1, e2, hq, hrest⟩, stp⟩ | ⟨q, vm₁, ⟨U', l2, c2, s2⟩, hW₁, X', ⟨g', mk, t, L, E', ce, e1, e2, hx, hce, hcv, hcl, h1, hL, h2, h3⟩, stp⟩
  · exact hq.elim
  · dsimp only [Pt.U, Pt.locs, Pt.cells, Pt.slots] at X' e1 e2 h1 h2 h3 stp
    subst h1; subst h2; subst h3
    obtain ⟨t2, a1, b1⟩ := mx_leave hnt hlocks hJ hT e1 hx hce hcv (vx_cls hW₁ hcl) hL X' (pc' := pc) (st := rest) (ls := ls)
    exact ⟨t2, stp.trans a1, b1⟩
/-- the words of a throw: each among those that every call keeps, or among those that hold on -/
def mx_thw (own : String) (ik ic : Nat) (cls : String) (names : List String) : Prop := (∀ w ∈ vx_at0 own ic cls names, w ∈ mx_tbl ∨ w ∈ mx_wk) ∧ (∀ w ∈ Cond.classLink own ik cls :: Cond.initialized cls :: vx_at0 own ic cls names, vx_ot w = true) ∧ Bundle.fit cls = true ∧ (∀ n ∈ names, Bundle.fit n = true) ∧ Cond.classLink own ik cls ∈ mx_tbl ∧ Cond.initialized cls ∈ mx_tbl ∧ ∀ w ∈ mx_wk, w.onTables = true
theorem mx_thr {σ0 : mx_S} {av : List Value} (hexec : p.tables.exec = Jvm.exec) (hb : c.code = cc) (hlt : l.stackTraces = false) {own cls : String} {names : List String} {ik ic : Nat} (hts : ∀ w ∈ mx_tbl, w.before av.toArray s = true) (hown : s.vm.findClass own = some m.cls) (hK : mx_K G P s) (hz : s.heap.size = mxz σ0) (hJ : mx_J G P s.heap (mxz σ0) (mxu σ0) σ H locs) (hRc : R.cells = mpc P - mxz σ0) (hRs : R.slots = mps P - mxu σ0) (hnt : ∀ x ∈ c.exceptionTable.toList, False) (hlocks : meth.locks = false)
    (hw : mx_thw own ik ic cls names) (hml : c.maxLocals = ls.size) (d0 : decode cc pc = .ok (.new ik, 3)) (d3 : decode cc (pc + 3) = .ok (.dup, 1)) (d4 : decode cc (pc + 4) = .ok (.invokespecial ic, 3)) (d7 : decode cc (pc + 7) = .ok (.athrow, 1)) (hfr : names.length + 3 < R.frames) (hlo : (rest.map fun v => v.category).sum + (13 * (names.length + 1) + 42) ≤ R.locals) (hx : mx_th P σ = some σ') :
    W p l e R s m av.toArray below meth c H locs (mxz σ - mxz σ0) (mxu σ - mxu σ0) (mx_Zt below G P cls σ0 σ' av s) (F0 m pc ls rest) := by
  unfold mx_th at hx
  split at hx
  · rename_i hroom
    cases hx
    obtain ⟨w1, w2, w3, w4, w5, w6, w7⟩ := hw
    obtain ⟨j1, j2, j3, j4, j5, j6, j7, j8, j9⟩ := id hJ
    refine mx_throw0 (A := mx_ba P) hexec hb hlt hown w3 w4 (hts _ w5) (hts _ w6) (fun w hw => (w1 w hw).elim (hts w) (fun h => va_Nw.use (w7 w h) (mxe_w hK w h))) w2 (mxe_u hK) (mxe_s hK) (mx_Sv hz hJ) hml.symm d0 d3 d4 d7 (fun x hx => (hnt x hx).elim) hfr hlo (by rw [hRc]; omega) (by rw [hRs]; omega) hlocks (fun t hal hsz hold => ?_) j3 (by show _ ≤ mxz σ + 1 - mxz σ0; omega) (by show _ ≤ mxu σ + 6 - mxu σ0; omega)
    refine ⟨rfl, ⟨fun q ci hq => ?_, fun q t' n hq => ?_⟩, by rw [hsz, j2], by show mxz σ0 ≤ mxz σ + 1; omega, hroom.1, by show mxu σ0 ≤ mxu σ + 6; omega, hroom.2, fun q hq => ?_⟩
    · obtain ⟨r, hr, ob⟩ := j1.1 q ci hq
      exact ⟨r, hr, ob.kept (hold q (mx_J_lt hJ hq))⟩
    · refine ⟨(j1.2 q t' n hq).1, ?_⟩
      show t.heap[q]? = _
      rw [hold q (mx_J_lt hJ hq)]; exact (j1.2 q t' n hq).2
    · rw [hold q (by omega)]; exact j9 q hq
  · cases hx
end MXX
