/-! ===== mx: a typed picture of the heap: which cell is what, ints, longs, references by address and place ===== -/
abbrev mx_Sh : Type := Nat ⊕ (Nat × Nat)
abbrev mx_S : Type := (Nat → Option mx_Sh) × (Nat → Nat → Int32) × (Nat → Nat → Int64) × (Nat → Nat → Option Nat) × Nat × Nat
abbrev mxA (σ : mx_S) : Nat → Option mx_Sh := σ.1
abbrev mxI (σ : mx_S) : Nat → Nat → Int32 := σ.2.1
abbrev mxL (σ : mx_S) : Nat → Nat → Int64 := σ.2.2.1
abbrev mxR (σ : mx_S) : Nat → Nat → Option Nat := σ.2.2.2.1
abbrev mxz (σ : mx_S) : Nat := σ.2.2.2.2.1
abbrev mxu (σ : mx_S) : Nat := σ.2.2.2.2.2
/-- fuel of loops, the first address that may be written, the last cell, the last slot -/
abbrev mx_P : Type := Nat × Nat × Nat × Nat
abbrev mpN (P : mx_P) : Nat := P.1
abbrev mpb (P : mx_P) : Nat := P.2.1
abbrev mpc (P : mx_P) : Nat := P.2.2.1
abbrev mps (P : mx_P) : Nat := P.2.2.2
abbrev mx_G : Type := (Nat → ClassId) × (Nat → Nat → Nat) × (Nat → ClassId)
def mx_ty (ci : Nat) : Nat → FieldType := match ci with
  | 0 => tyX0
  | 1 => tyX1
  | 2 => tyX2
  | 3 => tyX3
  | 4 => tyX4
  | 5 => tyX5
  | 6 => tyX6
  | 7 => tyX7
  | 8 => tyX8
  | 9 => tyX9
  | 10 => tyX10
  | 11 => tyX11
  | 12 => tyX12
  | _ => tyS
def mx_at (t : Nat) : FieldType := match t with
  | 0 => .int
  | 1 => .long
  | 2 => .byte
  | 3 => .boolean
  | 4 => .object "MechanismHouse$Joint"
  | 5 => .object "MechanismHouse$Pair"
  | 6 => .object "MechanismHouse$Plate"
  | _ => .array .long
abbrev mx_cl : List vw_C := [(RX0, TX0, 3), (RX1, TX1, 8), (RX2, TX2, 11), (RX3, TX3, 3), (RX4, TX4, 18), (RX5, TX5, 20), (RX6, TX6, 10), (RX7, TX7, 20), (RX8, TX8, 2), (RX9, TX9, 3), (RX10, TX10, 20), (RX11, TX11, 10), (RX12, TX12, 114), (RJ0, TS, 2)]
def mx_tys (G : mx_G) : List (ClassId × FieldType) := [(G.2.2 0, mx_at 0), (G.2.2 1, mx_at 1), (G.2.2 2, mx_at 2), (G.2.2 3, mx_at 3), (G.2.2 4, mx_at 4), (G.2.2 5, mx_at 5), (G.2.2 6, mx_at 6), (G.2.2 7, mx_at 7)]
def mx_K (G : mx_G) (U : State) : Prop := va_K (G.1, G.2.1) mx_cl (mx_tys G) U
theorem mx_K.moved {G : mx_G} {u U : State} (hvm : u.vm.Alike U.vm) (h : mx_K G u) : mx_K G U := va_K.moved hvm h
theorem mx_K.arr {G : mx_G} {U : State} (h : mx_K G U) {t : Nat} (ht : t < 8) : ArrOfT U (G.2.2 t) (mx_at t) ∧ va_RA U (G.2.2 t) (mx_at t) := by
  refine h.2 t (G.2.2 t, mx_at t) ?_
  match t, ht with
  | 0, _ => rfl
  | 1, _ => rfl
  | 2, _ => rfl
  | 3, _ => rfl
  | 4, _ => rfl
  | 5, _ => rfl
  | 6, _ => rfl
  | 7, _ => rfl
def mx_val (ft : FieldType) (x : Int32) (y : Int64) (r : Option Nat) : Value := match ft with
  | .long => .long y
  | .object _ => va_rf r
  | .array _ => va_rf r
  | _ => .int x
def mx_ob (G : mx_G) (σ : mx_S) (q ci : Nat) (H : Heap) : Prop := ∃ r : vw_C, mx_cl[ci]? = some r ∧ t_OB q (G.1 ci) r.2.2 (G.2.1 ci) H (fun k => mx_val (mx_ty ci k) (mxI σ q k) (mxL σ q k) (mxR σ q k))
def mx_ar (G : mx_G) (σ : mx_S) (q t n : Nat) (H : Heap) : Prop := H[q]? = some (arrV (G.2.2 t) n (fun j => mx_val (mx_at t) (mxI σ q j) (mxL σ q j) (mxR σ q j)))
def mx_ab (G : mx_G) (σ : mx_S) (H : Heap) : Prop := (∀ q ci, mxA σ q = some (.inl ci) → mx_ob G σ q ci H) ∧ (∀ q t n, mxA σ q = some (.inr (t, n)) → t < 8 ∧ mx_ar G σ q t n H)
def mx_J (G : mx_G) (P : mx_P) (z0 u0 : Nat) (σ : mx_S) (H : Heap) (locs : List Loc) : Prop := mx_ab G σ H ∧ H.size = mxz σ ∧ (∀ q ∈ locs, mpb P ≤ q.base) ∧ z0 ≤ mxz σ ∧ mxz σ ≤ mpc P ∧ u0 ≤ mxu σ ∧ mxu σ ≤ mps P
-- what a pure step asks and answers
def mx_w {α : Type} (f : Nat → Nat → α) (a k : Nat) (v : α) : Nat → Nat → α := fun q j => if q = a ∧ j = k then v else f q j
def mx_setI (σ : mx_S) (a k : Nat) (x : Int32) : mx_S := (mxA σ, mx_w (mxI σ) a k x, mxL σ, mxR σ, mxz σ, mxu σ)
def mx_setL (σ : mx_S) (a k : Nat) (x : Int64) : mx_S := (mxA σ, mxI σ, mx_w (mxL σ) a k x, mxR σ, mxz σ, mxu σ)
def mx_setR (σ : mx_S) (a k : Nat) (x : Nat) : mx_S := (mxA σ, mxI σ, mxL σ, mx_w (mxR σ) a k (some x), mxz σ, mxu σ)
def mg_I (σ : mx_S) (a ci k : Nat) : Option Int32 := if mxA σ a = some (.inl ci) then some (mxI σ a k) else none
def mg_L (σ : mx_S) (a ci k : Nat) : Option Int64 := if mxA σ a = some (.inl ci) then some (mxL σ a k) else none
def mg_R (σ : mx_S) (a ci k : Nat) : Option Nat := if mxA σ a = some (.inl ci) then mxR σ a k else none
def mp_I (P : mx_P) (σ : mx_S) (a ci k : Nat) (x : Int32) : Option mx_S := if mxA σ a = some (.inl ci) ∧ mpb P ≤ a then some (mx_setI σ a k x) else none
def mp_Z (P : mx_P) (σ : mx_S) (a ci k : Nat) (x : Int32) : Option mx_S := if mxA σ a = some (.inl ci) ∧ mpb P ≤ a ∧ (x = 0 ∨ x = 1) then some (mx_setI σ a k x) else none
def mp_L (P : mx_P) (σ : mx_S) (a ci k : Nat) (x : Int64) : Option mx_S := if mxA σ a = some (.inl ci) ∧ mpb P ≤ a then some (mx_setL σ a k x) else none
def mp_R (P : mx_P) (σ : mx_S) (a ci k : Nat) (x : Nat) : Option mx_S := if mxA σ a = some (.inl ci) ∧ mpb P ≤ a then some (mx_setR σ a k x) else none
def mx_ix (σ : mx_S) (a t : Nat) (i : Int32) : Option Nat := match mxA σ a with
  | some (.inr (t', n)) => if t' = t ∧ 0 ≤ i.toInt ∧ i.toInt < n then some i.toNatClampNeg else none
  | _ => none
def ma_n (σ : mx_S) (a t : Nat) : Option Int32 := match mxA σ a with
  | some (.inr (t', n)) => if t' = t then some (Int32.ofNat n) else none
  | _ => none
def ma_I (σ : mx_S) (a t : Nat) (i : Int32) : Option Int32 := (mx_ix σ a t i).bind fun j => some (mxI σ a j)
def ma_L (σ : mx_S) (a t : Nat) (i : Int32) : Option Int64 := (mx_ix σ a t i).bind fun j => some (mxL σ a j)
def ma_R (σ : mx_S) (a t : Nat) (i : Int32) : Option Nat := (mx_ix σ a t i).bind fun j => mxR σ a j
def ms_I (P : mx_P) (σ : mx_S) (a t : Nat) (i : Int32) (x : Int32) : Option mx_S := (mx_ix σ a t i).bind fun j => if mpb P ≤ a then some (mx_setI σ a j x) else none
def ms_L (P : mx_P) (σ : mx_S) (a t : Nat) (i : Int32) (x : Int64) : Option mx_S := (mx_ix σ a t i).bind fun j => if mpb P ≤ a then some (mx_setL σ a j x) else none
/-- an object of kind ci into an array of references -/
def ms_R (P : mx_P) (σ : mx_S) (a t : Nat) (i : Int32) (ci x : Nat) : Option mx_S := (mx_ix σ a t i).bind fun j => if mpb P ≤ a ∧ mxA σ x = some (.inl ci) then some (mx_setR σ a j x) else none
def mx_new (σ : mx_S) (sh : mx_Sh) (n : Nat) : mx_S := ((fun q => if q = mxz σ then some sh else mxA σ q), (fun q j => if q = mxz σ then 0 else mxI σ q j), (fun q j => if q = mxz σ then 0 else mxL σ q j), (fun q j => if q = mxz σ then none else mxR σ q j), mxz σ + 1, mxu σ + n)
def mn_O (P : mx_P) (σ : mx_S) (ci n : Nat) : Option (Nat × mx_S) := if mxz σ + 1 ≤ mpc P ∧ mxu σ + n ≤ mps P then some (mxz σ, mx_new σ (.inl ci) n) else none
def mn_A (P : mx_P) (σ : mx_S) (t : Nat) (n : Int32) : Option (Nat × mx_S) := if ¬ n < 0 ∧ n.toNatClampNeg ≤ 65536 ∧ mxz σ + 1 ≤ mpc P ∧ mxu σ + n.toNatClampNeg ≤ mps P then some (mxz σ, mx_new σ (.inr (t, n.toNatClampNeg)) n.toNatClampNeg) else none
def mr_Z (r : Int32) (σ : mx_S) : Option (Int32 × mx_S) := if r = 0 ∨ r = 1 then some (r, σ) else none
def mr_C (r : Int32) (σ : mx_S) : Option (Int32 × mx_S) := if (r.toUInt32 % 65536).toInt32 = r then some (r, σ) else none
def mr_B (r : Int32) (σ : mx_S) : Option (Int32 × mx_S) := if r.toInt8.toInt32 = r then some (r, σ) else none
def md_I (x y : Int32) : Option Int32 := if y = 0 then none else some (x / y)
def mm_I (x y : Int32) : Option Int32 := if y = 0 then none else some (x - x / y * y)
def md_L (x y : Int64) : Option Int64 := if y = 0 then none else some (x / y)
def mm_L (x y : Int64) : Option Int64 := if y = 0 then none else some (x - x / y * y)
-- loops: a body says how to go on, or what comes out
def mx_lk {τ ρ : Type} (f : τ → Option ρ) (r : τ ⊕ ρ) : Option ρ := match r with
  | .inl y => f y
  | .inr z => some z
def mx_lp {τ ρ : Type} (b : τ → Option (τ ⊕ ρ)) : Nat → τ → Option ρ
  | 0, _ => none
  | n + 1, x => (b x).bind (mx_lk (mx_lp b n))
theorem mx_lp0 {τ ρ : Type} (b : τ → Option (τ ⊕ ρ)) (x : τ) : mx_lp b 0 x = none := rfl
theorem mx_lpS {τ ρ : Type} (b : τ → Option (τ ⊕ ρ)) (n : Nat) (x : τ) : mx_lp b (n + 1) x = (b x).bind (mx_lk (mx_lp b n)) := rfl
theorem mb0 {α β : Type} {o : Option α} {g : α → Option β} {z : β} (h : o.bind g = some z) : ∃ a, o = some a ∧ g a = some z := by
  cases o with
  | none => cases h
  | some a => exact ⟨a, rfl, h⟩
theorem mb1 {α β γ : Type} {o : Option α} {g : α → Option β} {k : β → Option γ} {z : γ} (h : (o.bind g).bind k = some z) : ∃ a, o = some a ∧ (g a).bind k = some z := by
  cases o with
  | none => cases h
  | some a => exact ⟨a, rfl, h⟩
theorem mb2 {α β γ δ : Type} {o : Option α} {g : α → Option β} {k : β → Option γ} {k2 : γ → Option δ} {z : δ} (h : ((o.bind g).bind k).bind k2 = some z) : ∃ a, o = some a ∧ ((g a).bind k).bind k2 = some z := by
  cases o with
  | none => cases h
  | some a => exact ⟨a, rfl, h⟩
theorem mb3 {α β γ δ ε : Type} {o : Option α} {g : α → Option β} {k : β → Option γ} {k2 : γ → Option δ} {k3 : δ → Option ε} {z : ε} (h : (((o.bind g).bind k).bind k2).bind k3 = some z) : ∃ a, o = some a ∧ (((g a).bind k).bind k2).bind k3 = some z := by
  cases o with
  | none => cases h
  | some a => exact ⟨a, rfl, h⟩
-- the words that hold at every call
def mx_tbl : List Cond := lw_tbl.filter goodWord
theorem mx_in {w : Cond} (h : w ∈ lw_tbl) (g : goodWord w = true) : w ∈ mx_tbl := List.mem_filter.mpr ⟨h, g⟩
theorem mx_good {args a' : Array Value} {s U : State} (hts : ∀ w ∈ mx_tbl, w.before args s = true) (hW : s.WarmedH U.vm) : ∀ w ∈ mx_tbl, w.before a' U = true := fun w hw => word_at hW (good_of_word (List.mem_filter.mp hw).2) (hts w hw)
theorem mx_ixs {σ : mx_S} {a t : Nat} {i : Int32} {j : Nat} (h : mx_ix σ a t i = some j) : ∃ n, mxA σ a = some (.inr (t, n)) ∧ vp_in i n ∧ i.toNatClampNeg = j ∧ j < n := by
  unfold mx_ix at h
  split at h
  · rename_i t' n hs
    split at h
    · rename_i hc
      obtain ⟨rfl, h1, h2⟩ := hc
      cases h
      have hin : vp_in i n := vp_in_iff.mpr ⟨h1, h2⟩
      exact ⟨n, hs, hin, rfl, Nat.not_le.mp fun q => hin (Or.inr q)⟩
    · cases h
  · cases h
theorem mx_rI (σ : mx_S) (a k : Nat) (x : Int32) : mxI (mx_setI σ a k x) a k = x := if_pos ⟨rfl, rfl⟩
theorem mx_rL (σ : mx_S) (a k : Nat) (x : Int64) : mxL (mx_setL σ a k x) a k = x := if_pos ⟨rfl, rfl⟩
theorem mx_rR (σ : mx_S) (a k : Nat) (x : Nat) : mxR (mx_setR σ a k x) a k = some x := if_pos ⟨rfl, rfl⟩
/-- one place of one cell has a new content -/
def mx_same (σ σ' : mx_S) (a k : Nat) : Prop := mxA σ' = mxA σ ∧ mxz σ' = mxz σ ∧ mxu σ' = mxu σ ∧ ∀ q j, ¬ (q = a ∧ j = k) → mxI σ' q j = mxI σ q j ∧ mxL σ' q j = mxL σ q j ∧ mxR σ' q j = mxR σ q j
theorem mx_same_I (σ : mx_S) (a k : Nat) (x : Int32) : mx_same σ (mx_setI σ a k x) a k := ⟨rfl, rfl, rfl, fun _ _ h => ⟨if_neg h, rfl, rfl⟩⟩
theorem mx_same_L (σ : mx_S) (a k : Nat) (x : Int64) : mx_same σ (mx_setL σ a k x) a k := ⟨rfl, rfl, rfl, fun _ _ h => ⟨rfl, if_neg h, rfl⟩⟩
theorem mx_same_R (σ : mx_S) (a k : Nat) (x : Nat) : mx_same σ (mx_setR σ a k x) a k := ⟨rfl, rfl, rfl, fun _ _ h => ⟨rfl, rfl, if_neg h⟩⟩
theorem mx_J_set {G : mx_G} {P : mx_P} {z0 u0 : Nat} {σ σ' : mx_S} {H H' : Heap} {locs : List Loc} {a k k' : Nat} (hJ : mx_J G P z0 u0 σ H locs) (hm : mx_same σ σ' a k) (hz : H'.size = H.size) (ho : ∀ q, q ≠ a → H'[q]? = H[q]?) (hb : mpb P ≤ a)
    (h1 : ∀ ci, mxA σ a = some (.inl ci) → mx_ob G σ' a ci H') (h2 : ∀ t n, mxA σ a = some (.inr (t, n)) → mx_ar G σ' a t n H') : mx_J G P z0 u0 σ' H' (locs ++ [⟨a, k'⟩]) := by
  obtain ⟨⟨a1, a2⟩, j1, j2, j3⟩ := hJ
  obtain ⟨m1, m2, m3, m4⟩ := hm
  refine ⟨⟨fun q ci hq => ?_, fun q t n hq => ?_⟩, by rw [hz, j1, m2], fun x hx => ?_, by rw [m2, m3]; exact j3⟩
  · rw [m1] at hq
    by_cases e : q = a
    · subst e; exact h1 ci hq
    · obtain ⟨r, hr, ob⟩ := a1 q ci hq
      refine ⟨r, hr, (ob.kept (ho q e)).to fun j _ => ?_⟩
      obtain ⟨e1, e2, e3⟩ := m4 q j (fun x => e x.1)
      show mx_val _ (mxI σ q j) (mxL σ q j) (mxR σ q j) = mx_val _ (mxI σ' q j) (mxL σ' q j) (mxR σ' q j)
      rw [e1, e2, e3]
  · rw [m1] at hq
    by_cases e : q = a
    · subst e; exact ⟨(a2 q t n hq).1, h2 t n hq⟩
    · refine ⟨(a2 q t n hq).1, ?_⟩
      show H'[q]? = _
      rw [ho q e, (a2 q t n hq).2]
      congr 2
      funext j
      obtain ⟨e1, e2, e3⟩ := m4 q j (fun x => e x.1)
      rw [e1, e2, e3]
  · rcases List.mem_append.mp hx with h | h
    · exact j2 x h
    · rw [List.mem_singleton.mp h]; exact hb
theorem mx_J_lt {G : mx_G} {P : mx_P} {z0 u0 : Nat} {σ : mx_S} {H : Heap} {locs : List Loc} (hJ : mx_J G P z0 u0 σ H locs) {q : Nat} {sh : mx_Sh} (h : mxA σ q = some sh) : q < H.size := by
  match sh, h with
  | .inl ci, h =>
    obtain ⟨r, hr, cell, hc, -⟩ := hJ.1.1 q ci h
    exact (Array.getElem?_eq_some_iff.mp hc).1
  | .inr (t, n), h => exact (Array.getElem?_eq_some_iff.mp (hJ.1.2 q t n h).2).1
theorem mx_def (ft : FieldType) : mx_val ft 0 0 none = defaultValue ft ∨ ft = .float ∨ ft = .double := by
  cases ft <;> first | exact Or.inl rfl | exact Or.inr (Or.inl rfl) | exact Or.inr (Or.inr rfl)
/-- a cell more -/
theorem mx_J_new {G : mx_G} {P : mx_P} {z0 u0 n : Nat} {σ : mx_S} {sh : mx_Sh} {H H' : Heap} {locs : List Loc} (hJ : mx_J G P z0 u0 σ H locs) (hc : mxz σ + 1 ≤ mpc P) (hu : mxu σ + n ≤ mps P) (hz : H'.size = H.size + 1) (ho : ∀ q, q < H.size → H'[q]? = H[q]?)
    (h1 : ∀ ci, sh = .inl ci → mx_ob G (mx_new σ sh n) H.size ci H') (h2 : ∀ t k, sh = .inr (t, k) → t < 8 ∧ mx_ar G (mx_new σ sh n) H.size t k H') : mx_J G P z0 u0 (mx_new σ sh n) H' locs := by
  have hlt : ∀ q x, mxA σ q = some x → q < H.size := fun q x h => mx_J_lt hJ h
  obtain ⟨⟨a1, a2⟩, j1, j2, j3, j4, j5, j6⟩ := hJ
  have key : ∀ q j, q ≠ mxz σ → mxI (mx_new σ sh n) q j = mxI σ q j ∧ mxL (mx_new σ sh n) q j = mxL σ q j ∧ mxR (mx_new σ sh n) q j = mxR σ q j := fun q j h => ⟨if_neg h, if_neg h, if_neg h⟩
  refine ⟨⟨fun q ci hq => ?_, fun q t k hq => ?_⟩, by rw [hz, j1]; rfl, j2, Nat.le_trans j3 (Nat.le_succ _), hc, Nat.le_trans j5 (Nat.le_add_right _ _), hu⟩
  · by_cases e : q = mxz σ
    · have hq' : some sh = some (Sum.inl ci) := by rw [← hq]; exact (if_pos e).symm
      have := h1 ci (Option.some.inj hq')
      rw [j1] at this
      rw [e]; exact this
    · have hq' : mxA σ q = some (.inl ci) := by rw [← hq]; exact (if_neg e).symm
      obtain ⟨r, hr, ob⟩ := a1 q ci hq'
      refine ⟨r, hr, (ob.kept (ho q (hlt q _ hq'))).to fun j _ => ?_⟩
      obtain ⟨e1, e2, e3⟩ := key q j e
      show mx_val _ (mxI σ q j) (mxL σ q j) (mxR σ q j) = mx_val _ (mxI (mx_new σ sh n) q j) (mxL (mx_new σ sh n) q j) (mxR (mx_new σ sh n) q j)
      rw [e1, e2, e3]
  · by_cases e : q = mxz σ
    · have hq' : some sh = some (Sum.inr (t, k)) := by rw [← hq]; exact (if_pos e).symm
      have := h2 t k (Option.some.inj hq')
      rw [j1] at this
      rw [e]; exact this
    · have hq' : mxA σ q = some (.inr (t, k)) := by rw [← hq]; exact (if_neg e).symm
      refine ⟨(a2 q t k hq').1, ?_⟩
      show H'[q]? = _
      rw [ho q (hlt q _ hq'), (a2 q t k hq').2]
      congr 2
      funext j
      obtain ⟨e1, e2, e3⟩ := key q j e
      rw [e1, e2, e3]
