/-! ===== mx: short forms of the rows, for rows by program ===== -/
def mx_fd (own : String) (index ci k : Nat) (C : String) (T : u_T) (N : Nat) : Prop := mx_cl[ci]? = some (C, T, N) ∧ k < N ∧ (∀ w ∈ u_ws C T N, w ∈ mx_tbl) ∧ Cond.fieldLink own index (T k).1 (T k).2.1 (T k).2.2.1 ∈ mx_tbl
def mx_cd (ci : Nat) (T : u_T) (N : Nat) : Prop := (∀ k, k < N → parseFieldDescriptor (T k).2.2.1 = some (mx_ty ci k)) ∧ ∀ a, a < N → ∀ b, b < N → a ≠ b → (T a).2.1 ≠ (T b).2.1
theorem mc0 {α β γ : Type} {o : Option (α × β)} {g : α → β → Option γ} {z : γ} (h : mx_b2 o g = some z) : ∃ a b, o = some (a, b) ∧ g a b = some z := by
  match o, h with
  | none, h => cases h
  | some (a, b), h => exact ⟨a, b, rfl, h⟩
theorem md_Is {x y q : Int32} (h : md_I x y = some q) : ¬ y = 0 ∧ x / y = q := by
  unfold md_I at h
  split at h
  · cases h
  · rename_i hy; exact ⟨hy, Option.some.inj h⟩
theorem mm_Is {x y q : Int32} (h : mm_I x y = some q) : ¬ y = 0 ∧ x - x / y * y = q := by
  unfold mm_I at h
  split at h
  · cases h
  · rename_i hy; exact ⟨hy, Option.some.inj h⟩
theorem md_Ls {x y q : Int64} (h : md_L x y = some q) : ¬ y = 0 ∧ x / y = q := by
  unfold md_L at h
  split at h
  · cases h
  · rename_i hy; exact ⟨hy, Option.some.inj h⟩
theorem mm_Ls {x y q : Int64} (h : mm_L x y = some q) : ¬ y = 0 ∧ x - x / y * y = q := by
  unfold mm_L at h
  split at h
  · cases h
  · rename_i hy; exact ⟨hy, Option.some.inj h⟩
section MXD
variable {p : Program} {l : Launch} {e : Env} {R : Room} {s : State} {m : MethodId} {args : Array Value} {below : List Frame} {meth : Method} {c : Code} {H : Heap} {locs : List Loc} {cells slots : Nat} {Q : State → Prop}
variable {cc : ByteArray} {pc : Nat} {ls : Array Slot} {rest : List Value} {G : mx_G} {P : mx_P} {z0 u0 : Nat} {σ σ' : mx_S} {a : Nat}
theorem mx_nI {x y : Int32} (h : some x = some y) (k : W p l e R s m args below meth c H locs cells slots Q (F0 m pc ls (.int y :: rest))) : W p l e R s m args below meth c H locs cells slots Q (F0 m pc ls (.int x :: rest)) := Option.some.inj h ▸ k
theorem mx_nL {x y : Int64} (h : some x = some y) (k : W p l e R s m args below meth c H locs cells slots Q (F0 m pc ls (.long y :: rest))) : W p l e R s m args below meth c H locs cells slots Q (F0 m pc ls (.long x :: rest)) := Option.some.inj h ▸ k
theorem mx_eI {x y : Int32} (h : x = y) (k : W p l e R s m args below meth c H locs cells slots Q (F0 m pc ls (.int y :: rest))) : W p l e R s m args below meth c H locs cells slots Q (F0 m pc ls (.int x :: rest)) := h ▸ k
theorem mx_eL {x y : Int64} (h : x = y) (k : W p l e R s m args below meth c H locs cells slots Q (F0 m pc ls (.long y :: rest))) : W p l e R s m args below meth c H locs cells slots Q (F0 m pc ls (.long x :: rest)) := h ▸ k
theorem my_gI (hexec : p.tables.exec = Jvm.exec) (hb : c.code = cc) {own C : String} {T : u_T} {N ci index k : Nat} (hts : ∀ w ∈ mx_tbl, w.before args s = true) (hown : s.vm.findClass own = some m.cls) (hK : mx_K G P s) (hJ : mx_J G P s.heap z0 u0 σ H locs) (hd : mx_fd own index ci k C T N) (hv : ∀ x y r, mx_val (mx_ty ci k) x y r = .int x) {x : Int32} (hx : mg_I σ a ci k = some x) (hdg : decode cc pc = .ok (.getfield index, 3))
    (kk : W p l e R s m args below meth c H locs cells slots Q (F0 m (pc + 3) ls (.int x :: rest))) : W p l e R s m args below meth c H locs cells slots Q (F0 m pc ls (.ref a :: rest)) := mx_gI hexec hb hts hd.2.2.1 hown hK hJ hd.1 hx hd.2.1 hd.2.2.2 hv hdg kk
theorem my_gL (hexec : p.tables.exec = Jvm.exec) (hb : c.code = cc) {own C : String} {T : u_T} {N ci index k : Nat} (hts : ∀ w ∈ mx_tbl, w.before args s = true) (hown : s.vm.findClass own = some m.cls) (hK : mx_K G P s) (hJ : mx_J G P s.heap z0 u0 σ H locs) (hd : mx_fd own index ci k C T N) (hv : ∀ x y r, mx_val (mx_ty ci k) x y r = .long y) {x : Int64} (hx : mg_L σ a ci k = some x) (hdg : decode cc pc = .ok (.getfield index, 3))
    (kk : W p l e R s m args below meth c H locs cells slots Q (F0 m (pc + 3) ls (.long x :: rest))) : W p l e R s m args below meth c H locs cells slots Q (F0 m pc ls (.ref a :: rest)) := mx_gL hexec hb hts hd.2.2.1 hown hK hJ hd.1 hx hd.2.1 hd.2.2.2 hv hdg kk
theorem my_gR (hexec : p.tables.exec = Jvm.exec) (hb : c.code = cc) {own C : String} {T : u_T} {N ci index k : Nat} (hts : ∀ w ∈ mx_tbl, w.before args s = true) (hown : s.vm.findClass own = some m.cls) (hK : mx_K G P s) (hJ : mx_J G P s.heap z0 u0 σ H locs) (hd : mx_fd own index ci k C T N) (hv : ∀ x y r, mx_val (mx_ty ci k) x y r = va_rf r) {x : Nat} (hx : mg_R σ a ci k = some x) (hdg : decode cc pc = .ok (.getfield index, 3))
    (kk : W p l e R s m args below meth c H locs cells slots Q (F0 m (pc + 3) ls (.ref x :: rest))) : W p l e R s m args below meth c H locs cells slots Q (F0 m pc ls (.ref a :: rest)) := mx_gR hexec hb hts hd.2.2.1 hown hK hJ hd.1 hx hd.2.1 hd.2.2.2 hv hdg kk
theorem my_pI (hexec : p.tables.exec = Jvm.exec) (hb : c.code = cc) {own C : String} {T : u_T} {N ci index k : Nat} (hts : ∀ w ∈ mx_tbl, w.before args s = true) (hown : s.vm.findClass own = some m.cls) (hK : mx_K G P s) (hJ : mx_J G P s.heap z0 u0 σ H locs) (hd : mx_fd own index ci k C T N) (hcd : mx_cd ci T N) (hfin : (T k).2.2.2 = false ∨ ((T k).2.2.2 = true ∧ meth.name = "<init>" ∧ (T k).1 = own)) (ht : mx_ty ci k = .int) {x : Int32} (hx : mp_I P σ a ci k x = some σ') (hdg : decode cc pc = .ok (.putfield index, 3))
    (kk : ∀ (H1 : Heap) (locs1 : List Loc), mx_J G P s.heap z0 u0 σ' H1 locs1 → W p l e R s m args below meth c H1 locs1 (mxz σ' - z0) (mxu σ' - u0) Q (F0 m (pc + 3) ls rest)) : W p l e R s m args below meth c H locs (mxz σ - z0) (mxu σ - u0) Q (F0 m pc ls (.int x :: .ref a :: rest)) := mx_pI hexec hb hts hd.2.2.1 hcd.1 hcd.2 hown hK hJ hd.1 hx hd.2.1 hd.2.2.2 hfin ht hdg kk
theorem my_pZ (hexec : p.tables.exec = Jvm.exec) (hb : c.code = cc) {own C : String} {T : u_T} {N ci index k : Nat} (hts : ∀ w ∈ mx_tbl, w.before args s = true) (hown : s.vm.findClass own = some m.cls) (hK : mx_K G P s) (hJ : mx_J G P s.heap z0 u0 σ H locs) (hd : mx_fd own index ci k C T N) (hcd : mx_cd ci T N) (hfin : (T k).2.2.2 = false ∨ ((T k).2.2.2 = true ∧ meth.name = "<init>" ∧ (T k).1 = own)) (ht : mx_ty ci k = .boolean) {x : Int32} (hx : mp_Z P σ a ci k x = some σ') (hdg : decode cc pc = .ok (.putfield index, 3))
    (kk : ∀ (H1 : Heap) (locs1 : List Loc), mx_J G P s.heap z0 u0 σ' H1 locs1 → W p l e R s m args below meth c H1 locs1 (mxz σ' - z0) (mxu σ' - u0) Q (F0 m (pc + 3) ls rest)) : W p l e R s m args below meth c H locs (mxz σ - z0) (mxu σ - u0) Q (F0 m pc ls (.int x :: .ref a :: rest)) := mx_pZ hexec hb hts hd.2.2.1 hcd.1 hcd.2 hown hK hJ hd.1 hx hd.2.1 hd.2.2.2 hfin ht hdg kk
theorem my_pL (hexec : p.tables.exec = Jvm.exec) (hb : c.code = cc) {own C : String} {T : u_T} {N ci index k : Nat} (hts : ∀ w ∈ mx_tbl, w.before args s = true) (hown : s.vm.findClass own = some m.cls) (hK : mx_K G P s) (hJ : mx_J G P s.heap z0 u0 σ H locs) (hd : mx_fd own index ci k C T N) (hcd : mx_cd ci T N) (hfin : (T k).2.2.2 = false ∨ ((T k).2.2.2 = true ∧ meth.name = "<init>" ∧ (T k).1 = own)) (ht : mx_ty ci k = .long) {x : Int64} (hx : mp_L P σ a ci k x = some σ') (hdg : decode cc pc = .ok (.putfield index, 3))
    (kk : ∀ (H1 : Heap) (locs1 : List Loc), mx_J G P s.heap z0 u0 σ' H1 locs1 → W p l e R s m args below meth c H1 locs1 (mxz σ' - z0) (mxu σ' - u0) Q (F0 m (pc + 3) ls rest)) : W p l e R s m args below meth c H locs (mxz σ - z0) (mxu σ - u0) Q (F0 m pc ls (.long x :: .ref a :: rest)) := mx_pL hexec hb hts hd.2.2.1 hcd.1 hcd.2 hown hK hJ hd.1 hx hd.2.1 hd.2.2.2 hfin ht hdg kk
/-- a field of references -/
def mx_ft (ci k : Nat) : Prop := (∀ v, narrow (mx_ty ci k) (.ref v) = .ref v) ∧ (∀ v, fits (mx_ty ci k) (.ref v) = true) ∧ ∀ x y r, mx_val (mx_ty ci k) x y r = va_rf r
theorem my_pR (hexec : p.tables.exec = Jvm.exec) (hb : c.code = cc) {own C : String} {T : u_T} {N ci index k : Nat} (hts : ∀ w ∈ mx_tbl, w.before args s = true) (hown : s.vm.findClass own = some m.cls) (hK : mx_K G P s) (hJ : mx_J G P s.heap z0 u0 σ H locs) (hd : mx_fd own index ci k C T N) (hcd : mx_cd ci T N) (hfin : (T k).2.2.2 = false ∨ ((T k).2.2.2 = true ∧ meth.name = "<init>" ∧ (T k).1 = own)) (ht : mx_ft ci k) {x : Nat} (hx : mp_R P σ a ci k x = some σ') (hdg : decode cc pc = .ok (.putfield index, 3))
    (kk : ∀ (H1 : Heap) (locs1 : List Loc), mx_J G P s.heap z0 u0 σ' H1 locs1 → W p l e R s m args below meth c H1 locs1 (mxz σ' - z0) (mxu σ' - u0) Q (F0 m (pc + 3) ls rest)) : W p l e R s m args below meth c H locs (mxz σ - z0) (mxu σ - u0) Q (F0 m pc ls (.ref x :: .ref a :: rest)) := mx_pR hexec hb hts hd.2.2.1 hcd.1 hcd.2 hown hK hJ hd.1 hx hd.2.1 hd.2.2.2 hfin ht.1 ht.2.1 ht.2.2 hdg kk
-- ends, by what the pure side came to
theorem my_iret (hexec : p.tables.exec = Jvm.exec) (hb : c.code = cc) (hr : meth.sig.returnType = some .int) (hlocks : meth.locks = false) {σ0 : mx_S} {av : List Value} (hJ : mx_J G P s.heap (mxz σ0) (mxu σ0) σ H locs) {v w : Int32} (hx : some (v, σ) = some (w, σ')) (hdg : decode cc pc = .ok (.ireturn, 1)) : W p l e R s m av.toArray below meth c H locs (mxz σ - mxz σ0) (mxu σ - mxu σ0) (mx_Z below G P (some (.int w)) σ0 σ' av s) (F0 m pc ls [.int v]) := by
  cases hx
  exact mx_iret hexec hb hr hlocks hJ hdg
theorem my_lret (hexec : p.tables.exec = Jvm.exec) (hb : c.code = cc) (hr : meth.sig.returnType = some .long) (hlocks : meth.locks = false) {σ0 : mx_S} {av : List Value} (hJ : mx_J G P s.heap (mxz σ0) (mxu σ0) σ H locs) {v w : Int64} (hx : some (v, σ) = some (w, σ')) (hdg : decode cc pc = .ok (.lreturn, 1)) : W p l e R s m av.toArray below meth c H locs (mxz σ - mxz σ0) (mxu σ - mxu σ0) (mx_Z below G P (some (.long w)) σ0 σ' av s) (F0 m pc ls [.long v]) := by
  cases hx
  exact mx_lret hexec hb hr hlocks hJ hdg
theorem my_vret (hexec : p.tables.exec = Jvm.exec) (hb : c.code = cc) (hr : meth.sig.returnType = none) (hlocks : meth.locks = false) {σ0 : mx_S} {av : List Value} (hJ : mx_J G P s.heap (mxz σ0) (mxu σ0) σ H locs) (hx : some σ = some σ') (hdg : decode cc pc = .ok (.return_, 1)) : W p l e R s m av.toArray below meth c H locs (mxz σ - mxz σ0) (mxu σ - mxu σ0) (mx_Z below G P none σ0 σ' av s) (F0 m pc ls []) := by
  cases hx
  exact mx_vret hexec hb hr hlocks hJ hdg
theorem my_aret (hexec : p.tables.exec = Jvm.exec) (hb : c.code = cc) {rt : FieldType} (hr : meth.sig.returnType = some rt) (hrt : (∃ n, rt = .object n) ∨ ∃ t, rt = .array t) (hlocks : meth.locks = false) {σ0 : mx_S} {av : List Value} (hJ : mx_J G P s.heap (mxz σ0) (mxu σ0) σ H locs) {v w : Nat} (hx : some (v, σ) = some (w, σ')) (hdg : decode cc pc = .ok (.areturn, 1)) : W p l e R s m av.toArray below meth c H locs (mxz σ - mxz σ0) (mxu σ - mxu σ0) (mx_Z below G P (some (.ref w)) σ0 σ' av s) (F0 m pc ls [.ref v]) := by
  cases hx
  exact W.aret hexec hb hr hrt (Or.inr ⟨_, rfl⟩) (fun t ht _ => ⟨rfl, by rw [ht]; exact hJ.1, by rw [ht]; exact hJ.2.1, hJ.2.2.2.1, hJ.2.2.2.2.1, hJ.2.2.2.2.2.1, hJ.2.2.2.2.2.2.1, fun q hq => by rw [ht]; exact hJ.2.2.2.2.2.2.2.2 q hq⟩) hJ.2.2.1 hdg hlocks
end MXD
