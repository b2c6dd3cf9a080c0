/-! ===== mx: a typed picture of the heap: which cell is what, ints, longs, references by address and place ===== -/
/-- numbers of classes, places of their fields, numbers of array classes; where the String constants lie, their bytes, the static tables -/
abbrev mx_G : Type := (Nat → ClassId) × (Nat → Nat → Nat) × (Nat → ClassId) × (Nat → Nat) × (Nat → Nat) × (Nat → Nat)
abbrev mgA (G : mx_G) : Nat → ClassId := G.2.2.1
abbrev mgK (G : mx_G) : Nat → Nat := G.2.2.2.1
abbrev mgV (G : mx_G) : Nat → Nat := G.2.2.2.2.1
abbrev mgT (G : mx_G) : Nat → Nat := G.2.2.2.2.2
def mx_ty (ci : Nat) : Nat → FieldType := match ci with
  | 0 => tyX0
  | 1 => tyX1
  | 2 => tyX2
  | 3 => tyX3
  | 4 => tyX4
  | 5 => tyX5
  | 6 => tyX6
  | 7 => tyX7
  | 8 => tyX8
  | 9 => tyX9
  | 10 => tyX10
  | 11 => tyX11
  | _ => tyX12
def mx_at (t : Nat) : FieldType := match t with
  | 0 => .int
  | 1 => .long
  | 2 => .byte
  | 3 => .boolean
  | 4 => .object "MechanismHouse$Joint"
  | 5 => .object "MechanismHouse$Pair"
  | 6 => .object "MechanismHouse$Plate"
  | _ => .array .long
abbrev mx_cl : List vw_C := [(RX0, TX0, 3), (RX1, TX1, 8), (RX2, TX2, 11), (RX3, TX3, 3), (RX4, TX4, 18), (RX5, TX5, 20), (RX6, TX6, 10), (RX7, TX7, 20), (RX8, TX8, 2), (RX9, TX9, 3), (RX10, TX10, 20), (RX11, TX11, 10), (RX12, TX12, 114)]
def mx_tys (G : mx_G) : List (ClassId × FieldType) := [(mgA G 0, mx_at 0), (mgA G 1, mx_at 1), (mgA G 2, mx_at 2), (mgA G 3, mx_at 3), (mgA G 4, mx_at 4), (mgA G 5, mx_at 5), (mgA G 6, mx_at 6), (mgA G 7, mx_at 7)]
/-- the String constants: whose, which entry, the text -/
def mx_sr (i : Nat) : String × Nat × String := match i with
  | 0 => ("MechanismHouse$Linkage", 95, "fix Cxx;crank CPrink;dyad CPPrrS;slide CPrPPS;body CPPxx;cross CPPPP;")
  | 1 => ("MechanismHouse$Cam", 40, "dwell w;rise wrl;fall wrl;")
  | 2 => ("MechanismHouse$Drive", 46, "turn it;until itPDv;again a;way b;")
  | 3 => ("MechanismHouseModel", 384, "fix")
  | 4 => ("MechanismHouseModel", 390, "crank")
  | 5 => ("MechanismHouseModel", 392, "dyad")
  | 6 => ("MechanismHouseModel", 394, "slide")
  | 7 => ("MechanismHouseModel", 396, "body")
  | 8 => ("MechanismHouseModel", 398, "cross")
  | 9 => ("MechanismHouseModel", 668, "dwell")
  | 10 => ("MechanismHouseModel", 670, "rise")
  | 11 => ("MechanismHouseModel", 672, "fall")
  | 12 => ("MechanismHouseModel", 792, "turn")
  | 13 => ("MechanismHouseModel", 794, "until")
  | 14 => ("MechanismHouseModel", 796, "again")
  | _ => ("MechanismHouseModel", 798, "way")
def mx_AO (ty : FieldType) (U : State) : Prop := (Cond.arrayOver ty).before #[] U = true
abbrev mx_ba (P : mx_P) : Nat → Prop := fun q => mpb P ≤ q
/-- words that hold on under warmer tables, though they aren't among those that every call keeps -/
def mx_wq (w : Cond) : Bool := match w with
  | .castable _ _ => true
  | .declares _ => true
  | _ => false
def mx_wk : List Cond := tables_1.filter mx_wq
theorem mx_wk.at {w : Cond} (hq : mx_wq w = true) {s U : State} (hW : s.WarmedH U.vm) (h : va_Nw w s) : va_Nw w U := by
  cases w <;> first | exact absurd (show false = true from hq) Bool.false_ne_true | exact va_Nw.warmC hW h | exact va_Nw.warmD hW h
abbrev mx_ex : List String := ["java/lang/IllegalArgumentException", "java/util/NoSuchElementException", "java/lang/IllegalStateException", "java/lang/IndexOutOfBoundsException", "java/lang/UnsupportedOperationException"]
/-- what the start says of the machine's own: array classes, String constants, static fields that nobody writes -/
def mx_E (G : mx_G) (P : mx_P) (U : State) : Prop :=
  (va_AO "MechanismHouse$Joint" U ∧ va_AO "MechanismHouse$Pair" U ∧ va_AO "MechanismHouse$Plate" U) ∧
  (∀ i, i < 16 → vk_R (mx_sr i).1 (mx_sr i).2.1 (mx_sr i).2.2 (mgK G i) U) ∧
  vk_S 16 mx_sl mx_sb (mgK G) (mgV G) (mx_ba P) U U.heap ∧
  (va_Z "MechanismHouse$Cam" "STEEP_TOPS" "[I" (.ref (mgT G 0)) (mx_ba P) U U.heap ∧ va_T .int (mgT G 0) 5 (fun j => .int (mx_st1.getD j 0)) (mx_ba P) U U.heap) ∧
  (va_Z "MechanismHouse$Cam" "STEEP_BOTTOMS" "[I" (.ref (mgT G 1)) (mx_ba P) U U.heap ∧ va_T .int (mgT G 1) 5 (fun j => .int (mx_st2.getD j 0)) (mx_ba P) U U.heap) ∧
  va_Z "java/lang/String" "COMPACT_STRINGS" "Z" (.int 1) (mx_ba P) U U.heap ∧
  va_Zq "jdk/internal/util/Preconditions" "SIOOBE_FORMATTER" "Ljava/util/function/BiFunction;" (mx_ba P) U U.heap ∧
  vx_Zq Bundle.tN "UNASSIGNED_STACK" Bundle.steD (mx_ba P) U U.heap ∧ vx_Zq Bundle.tN "SUPPRESSED_SENTINEL" Bundle.listD (mx_ba P) U U.heap ∧ (∀ w ∈ mx_wk, va_Nw w U) ∧ (∀ a ∈ mx_ex, ∀ b ∈ mx_ex, a ≠ b → va_Nc a b U) ∧
  (mx_AO (.array .long) U ∧ ∃ kA, U.vm.classes[mgA G 7]? = some kA ∧ kA.kind = .array (mgA G 1) (.array .long))
theorem mx_AO.moved {u U : State} (hvm : u.vm.Alike U.vm) (h : mx_AO (.array .long) u) : mx_AO (.array .long) U := by
  obtain ⟨comp, c, k, h1, h2, h3, h4, h5⟩ := arrayOver_specB h
  obtain ⟨k', hk', he⟩ := hvm.2.2 _ _ h3
  have hi : (U.vm.classes.findIdx? fun (x : Class) => match x.kind with | .array component _ => component == comp | _ => false) = some c := by
    have e1 := va_idx_bare U.vm comp
    have e2 := va_idx_bare u.vm comp
    rw [hvm.bare_eq] at e1
    exact e1.symm.trans (e2.trans h2)
  have hkind : k'.kind = .array comp (.array .long) := by rw [he]; exact h4
  have f1 : U.vm.findClass (FieldType.array .long).toString = some comp := by rw [hvm.findClass]; exact h1
  have f2 : U.vm.findClass ("[" ++ (FieldType.array .long).toString) = some c := by rw [hvm.findClass]; exact h5
  unfold mx_AO Cond.before Cond.holds
  simp only [Cond.value]
  rw [f1, Option.bind_some]
  refine (congrArg (fun o : Option Nat => (o.bind (fun c => (U.vm.classes[c]?).map fun (k : Class) => match k.kind with | .array _ ty => decide (ty = FieldType.array .long) && decide (U.vm.findClass ("[" ++ (FieldType.array .long).toString) = some c) | _ => false) == some true)) hi).trans ?_
  simp [hk', hkind, f2]
theorem mx_E.at {G : mx_G} {P : mx_P} {s U : State} (h : mx_E G P s) (hW : s.WarmedH U.vm) (hq : ∀ q, q < mpb P → U.heap[q]? = s.heap[q]?) : mx_E G P U := by
  have hk : ∀ a : Nat, a < s.heap.size → ¬ mx_ba P a → U.heap[a]? = s.heap[a]? := fun a _ ha => hq a (Nat.not_le.mp ha)
  have hv := hW.alike
  obtain ⟨⟨a1, a2, a3⟩, b, c, ⟨d1, d2⟩, ⟨e1, e2⟩, f, g, i, j, k, nc, n1, kA, n2, n3⟩ := h
  exact ⟨⟨a1.moved hv, a2.moved hv, a3.moved hv⟩, fun n hn => (b n hn).warm hW, vk_S.moved hv (c.kept hk), ⟨va_Z.moved hv (d1.kept hk), va_T.moved hv (d2.kept hk)⟩, ⟨va_Z.moved hv (e1.kept hk), va_T.moved hv (e2.kept hk)⟩, va_Z.moved hv (f.kept hk), va_Zq.moved hv (g.kept hk), vx_Zq.moved hv (i.kept hk), vx_Zq.moved hv (j.kept hk), fun w hw => mx_wk.at (List.mem_filter.mp hw).2 hW (k w hw), fun a ha b hb hab => (nc a ha b hb hab).moved hv, n1.moved hv, by
    obtain ⟨k', hk', he⟩ := hv.2.2 _ _ n2
    exact ⟨k', hk', by rw [he]; exact n3⟩⟩
def mx_K (G : mx_G) (P : mx_P) (U : State) : Prop := va_K (G.1, G.2.1) mx_cl (mx_tys G) U ∧ mx_E G P U
theorem mx_K.at {G : mx_G} {P : mx_P} {s U : State} (h : mx_K G P s) (hW : s.WarmedH U.vm) (hq : ∀ q, q < mpb P → U.heap[q]? = s.heap[q]?) : mx_K G P U := ⟨va_K.moved hW.alike h.1, h.2.at hW hq⟩
theorem mx_K.arr {G : mx_G} {P : mx_P} {U : State} (h : mx_K G P U) {t : Nat} (ht : t < 8) : ArrOfT U (mgA G t) (mx_at t) ∧ va_RA U (mgA G t) (mx_at t) := by
  refine h.1.2 t (mgA G t, mx_at t) ?_
  match t, ht with
  | 0, _ => rfl
  | 1, _ => rfl
  | 2, _ => rfl
  | 3, _ => rfl
  | 4, _ => rfl
  | 5, _ => rfl
  | 6, _ => rfl
  | 7, _ => rfl
def mx_val (ft : FieldType) (x : Int32) (y : Int64) (r : Option Nat) : Value := match ft with
  | .long => .long y
  | .object _ => va_rf r
  | .array _ => va_rf r
  | _ => .int x
def mx_ob (G : mx_G) (σ : mx_S) (q ci : Nat) (H : Heap) : Prop := ∃ r : vw_C, mx_cl[ci]? = some r ∧ t_OB q (G.1 ci) r.2.2 (G.2.1 ci) H (fun k => mx_val (mx_ty ci k) (mxI σ q k) (mxL σ q k) (mxR σ q k))
def mx_ar (G : mx_G) (σ : mx_S) (q t n : Nat) (H : Heap) : Prop := H[q]? = some (arrV (mgA G t) n (fun j => mx_val (mx_at t) (mxI σ q j) (mxL σ q j) (mxR σ q j)))
def mx_ab (G : mx_G) (σ : mx_S) (H : Heap) : Prop := (∀ q ci, mxA σ q = some (.inl ci) → mx_ob G σ q ci H) ∧ (∀ q t n, mxA σ q = some (.inr (t, n)) → t < 8 ∧ mx_ar G σ q t n H)
def mx_J (G : mx_G) (P : mx_P) (H0 : Heap) (z0 u0 : Nat) (σ : mx_S) (H : Heap) (locs : List Loc) : Prop := mx_ab G σ H ∧ H.size = mxz σ ∧ (∀ q ∈ locs, mpb P ≤ q.base) ∧ z0 ≤ mxz σ ∧ mxz σ ≤ mpc P ∧ u0 ≤ mxu σ ∧ mxu σ ≤ mps P ∧ mpb P ≤ z0 ∧ ∀ q, q < mpb P → H[q]? = H0[q]?
-- what a pure step asks and answers
-- loops: a body says how to go on, or what comes out
theorem mb0 {α β : Type} {o : Option α} {g : α → Option β} {z : β} (h : o.bind g = some z) : ∃ a, o = some a ∧ g a = some z := by
  cases o with
  | none => cases h
  | some a => exact ⟨a, rfl, h⟩
theorem mb1 {α β γ : Type} {o : Option α} {g : α → Option β} {k : β → Option γ} {z : γ} (h : (o.bind g).bind k = some z) : ∃ a, o = some a ∧ (g a).bind k = some z := by
  cases o with
  | none => cases h
  | some a => exact ⟨a, rfl, h⟩
theorem mb2 {α β γ δ : Type} {o : Option α} {g : α → Option β} {k : β → Option γ} {k2 : γ → Option δ} {z : δ} (h : ((o.bind g).bind k).bind k2 = some z) : ∃ a, o = some a ∧ ((g a).bind k).bind k2 = some z := by
  cases o with
  | none => cases h
  | some a => exact ⟨a, rfl, h⟩
theorem mb3 {α β γ δ ε : Type} {o : Option α} {g : α → Option β} {k : β → Option γ} {k2 : γ → Option δ} {k3 : δ → Option ε} {z : ε} (h : (((o.bind g).bind k).bind k2).bind k3 = some z) : ∃ a, o = some a ∧ (((g a).bind k).bind k2).bind k3 = some z := by
  cases o with
  | none => cases h
  | some a => exact ⟨a, rfl, h⟩
theorem mx_good {args a' : Array Value} {s U : State} (hts : ∀ w ∈ mx_tbl, w.before args s = true) (hW : s.WarmedH U.vm) : ∀ w ∈ mx_tbl, w.before a' U = true := fun w hw => word_at hW (good_of_word (List.mem_filter.mp hw).2) (hts w hw)
theorem mx_ixs {σ : mx_S} {a t : Nat} {i : Int32} {j : Nat} (h : mx_ix σ a t i = some j) : ∃ n, mxA σ a = some (.inr (t, n)) ∧ vp_in i n ∧ i.toNatClampNeg = j ∧ j < n := by
  unfold mx_ix at h
  split at h
  · rename_i t' n hs
    split at h
    · rename_i hc
      obtain ⟨rfl, h1, h2⟩ := hc
      cases h
      have hin : vp_in i n := vp_in_iff.mpr ⟨h1, h2⟩
      exact ⟨n, hs, hin, rfl, Nat.not_le.mp fun q => hin (Or.inr q)⟩
    · cases h
  · cases h
theorem mx_rI (σ : mx_S) (a k : Nat) (x : Int32) : mxI (mx_setI σ a k x) a k = x := if_pos ⟨rfl, rfl⟩
theorem mx_rL (σ : mx_S) (a k : Nat) (x : Int64) : mxL (mx_setL σ a k x) a k = x := if_pos ⟨rfl, rfl⟩
theorem mx_rR (σ : mx_S) (a k : Nat) (x : Nat) : mxR (mx_setR σ a k x) a k = some x := if_pos ⟨rfl, rfl⟩
/-- one place of one cell has a new content -/
def mx_same (σ σ' : mx_S) (a k : Nat) : Prop := mxA σ' = mxA σ ∧ mxz σ' = mxz σ ∧ mxu σ' = mxu σ ∧ ∀ q j, ¬ (q = a ∧ j = k) → mxI σ' q j = mxI σ q j ∧ mxL σ' q j = mxL σ q j ∧ mxR σ' q j = mxR σ q j
theorem mx_same_I (σ : mx_S) (a k : Nat) (x : Int32) : mx_same σ (mx_setI σ a k x) a k := ⟨rfl, rfl, rfl, fun _ _ h => ⟨if_neg h, rfl, rfl⟩⟩
theorem mx_same_L (σ : mx_S) (a k : Nat) (x : Int64) : mx_same σ (mx_setL σ a k x) a k := ⟨rfl, rfl, rfl, fun _ _ h => ⟨rfl, if_neg h, rfl⟩⟩
theorem mx_same_R (σ : mx_S) (a k : Nat) (x : Nat) : mx_same σ (mx_setR σ a k x) a k := ⟨rfl, rfl, rfl, fun _ _ h => ⟨rfl, rfl, if_neg h⟩⟩
theorem mx_J_set {G : mx_G} {P : mx_P} {z0 u0 : Nat} {σ σ' : mx_S} {H0 H H' : Heap} {locs : List Loc} {a k k' : Nat} (hJ : mx_J G P H0 z0 u0 σ H locs) (hm : mx_same σ σ' a k) (hz : H'.size = H.size) (ho : ∀ q, q ≠ a → H'[q]? = H[q]?) (hb : mpb P ≤ a)
    (h1 : ∀ ci, mxA σ a = some (.inl ci) → mx_ob G σ' a ci H') (h2 : ∀ t n, mxA σ a = some (.inr (t, n)) → mx_ar G σ' a t n H') : mx_J G P H0 z0 u0 σ' H' (locs ++ [⟨a, k'⟩]) := by
  obtain ⟨⟨a1, a2⟩, j1, j2, j3, j4, j5, j6, j7, j8⟩ := hJ
  obtain ⟨m1, m2, m3, m4⟩ := hm
  refine ⟨⟨fun q ci hq => ?_, fun q t n hq => ?_⟩, by rw [hz, j1, m2], fun x hx => ?_, by rw [m2]; exact j3, by rw [m2]; exact j4, by rw [m3]; exact j5, by rw [m3]; exact j6, j7, fun q hq => (ho q (by omega)).trans (j8 q hq)⟩
  · rw [m1] at hq
    by_cases e : q = a
    · subst e; exact h1 ci hq
    · obtain ⟨r, hr, ob⟩ := a1 q ci hq
      refine ⟨r, hr, (ob.kept (ho q e)).to fun j _ => ?_⟩
      obtain ⟨e1, e2, e3⟩ := m4 q j (fun x => e x.1)
      show mx_val _ (mxI σ q j) (mxL σ q j) (mxR σ q j) = mx_val _ (mxI σ' q j) (mxL σ' q j) (mxR σ' q j)
      rw [e1, e2, e3]
  · rw [m1] at hq
    by_cases e : q = a
    · subst e; exact ⟨(a2 q t n hq).1, h2 t n hq⟩
    · refine ⟨(a2 q t n hq).1, ?_⟩
      show H'[q]? = _
      rw [ho q e, (a2 q t n hq).2]
      congr 2
      funext j
      obtain ⟨e1, e2, e3⟩ := m4 q j (fun x => e x.1)
      rw [e1, e2, e3]
  · rcases List.mem_append.mp hx with h | h
    · exact j2 x h
    · rw [List.mem_singleton.mp h]; exact hb
theorem mx_J_lt {G : mx_G} {P : mx_P} {z0 u0 : Nat} {σ : mx_S} {H0 H : Heap} {locs : List Loc} (hJ : mx_J G P H0 z0 u0 σ H locs) {q : Nat} {sh : mx_Sh} (h : mxA σ q = some sh) : q < H.size := by
  match sh, h with
  | .inl ci, h =>
    obtain ⟨r, hr, cell, hc, -⟩ := hJ.1.1 q ci h
    exact (Array.getElem?_eq_some_iff.mp hc).1
  | .inr (t, n), h => exact (Array.getElem?_eq_some_iff.mp (hJ.1.2 q t n h).2).1
theorem mx_def (ft : FieldType) : mx_val ft 0 0 none = defaultValue ft ∨ ft = .float ∨ ft = .double := by
  cases ft <;> first | exact Or.inl rfl | exact Or.inr (Or.inl rfl) | exact Or.inr (Or.inr rfl)
/-- a cell more -/
theorem mx_J_new {G : mx_G} {P : mx_P} {z0 u0 n : Nat} {σ : mx_S} {sh : mx_Sh} {H0 H H' : Heap} {locs : List Loc} (hJ : mx_J G P H0 z0 u0 σ H locs) (hc : mxz σ + 1 ≤ mpc P) (hu : mxu σ + n ≤ mps P) (hz : H'.size = H.size + 1) (ho : ∀ q, q < H.size → H'[q]? = H[q]?)
    (h1 : ∀ ci, sh = .inl ci → mx_ob G (mx_new σ sh n) H.size ci H') (h2 : ∀ t k, sh = .inr (t, k) → t < 8 ∧ mx_ar G (mx_new σ sh n) H.size t k H') : mx_J G P H0 z0 u0 (mx_new σ sh n) H' locs := by
  have hlt : ∀ q x, mxA σ q = some x → q < H.size := fun q x h => mx_J_lt hJ h
  obtain ⟨⟨a1, a2⟩, j1, j2, j3, j4, j5, j6, j7, j8⟩ := hJ
  have key : ∀ q j, q ≠ mxz σ → mxI (mx_new σ sh n) q j = mxI σ q j ∧ mxL (mx_new σ sh n) q j = mxL σ q j ∧ mxR (mx_new σ sh n) q j = mxR σ q j := fun q j h => ⟨if_neg h, if_neg h, if_neg h⟩
  refine ⟨⟨fun q ci hq => ?_, fun q t k hq => ?_⟩, by rw [hz, j1]; rfl, j2, Nat.le_trans j3 (Nat.le_succ _), hc, Nat.le_trans j5 (Nat.le_add_right _ _), hu, j7, fun q hq => (ho q (by omega)).trans (j8 q hq)⟩
  · by_cases e : q = mxz σ
    · have hq' : some sh = some (Sum.inl ci) := by rw [← hq]; exact (if_pos e).symm
      have := h1 ci (Option.some.inj hq')
      rw [j1] at this
      rw [e]; exact this
    · have hq' : mxA σ q = some (.inl ci) := by rw [← hq]; exact (if_neg e).symm
      obtain ⟨r, hr, ob⟩ := a1 q ci hq'
      refine ⟨r, hr, (ob.kept (ho q (hlt q _ hq'))).to fun j _ => ?_⟩
      obtain ⟨e1, e2, e3⟩ := key q j e
      show mx_val _ (mxI σ q j) (mxL σ q j) (mxR σ q j) = mx_val _ (mxI (mx_new σ sh n) q j) (mxL (mx_new σ sh n) q j) (mxR (mx_new σ sh n) q j)
      rw [e1, e2, e3]
  · by_cases e : q = mxz σ
    · have hq' : some sh = some (Sum.inr (t, k)) := by rw [← hq]; exact (if_pos e).symm
      have := h2 t k (Option.some.inj hq')
      rw [j1] at this
      rw [e]; exact this
    · have hq' : mxA σ q = some (.inr (t, k)) := by rw [← hq]; exact (if_neg e).symm
      refine ⟨(a2 q t k hq').1, ?_⟩
      show H'[q]? = _
      rw [ho q (hlt q _ hq'), (a2 q t k hq').2]
      congr 2
      funext j
      obtain ⟨e1, e2, e3⟩ := key q j e
      rw [e1, e2, e3]
