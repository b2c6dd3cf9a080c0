/-! ===== the picture: cells, reads, writes, loops ===== -/
abbrev mx_Sh : Type := Nat ⊕ (Nat × Nat)
abbrev mx_S : Type := (Nat → Option mx_Sh) × (Nat → Nat → Int32) × (Nat → Nat → Int64) × (Nat → Nat → Option Nat) × Nat × Nat
abbrev mxA (σ : mx_S) : Nat → Option mx_Sh := σ.1
abbrev mxI (σ : mx_S) : Nat → Nat → Int32 := σ.2.1
abbrev mxL (σ : mx_S) : Nat → Nat → Int64 := σ.2.2.1
abbrev mxR (σ : mx_S) : Nat → Nat → Option Nat := σ.2.2.2.1
abbrev mxz (σ : mx_S) : Nat := σ.2.2.2.2.1
abbrev mxu (σ : mx_S) : Nat := σ.2.2.2.2.2
/-- fuel of loops, the first address that may be written, the last cell, the last slot -/
abbrev mx_P : Type := Nat × Nat × Nat × Nat
abbrev mpN (P : mx_P) : Nat := P.1
abbrev mpb (P : mx_P) : Nat := P.2.1
abbrev mpc (P : mx_P) : Nat := P.2.2.1
abbrev mps (P : mx_P) : Nat := P.2.2.2
abbrev mx_sl : List Nat := [69, 26, 34, 3, 5, 4, 5, 4, 5, 5, 4, 4, 4, 5, 5, 3]
abbrev mx_sb : List (List Int32) := [[102, 105, 120, 32, 67, 120, 120, 59, 99, 114, 97, 110, 107, 32, 67, 80, 114, 105, 110, 107, 59, 100, 121, 97, 100, 32, 67, 80, 80, 114, 114, 83, 59, 115, 108, 105, 100, 101, 32, 67, 80, 114, 80, 80, 83, 59, 98, 111, 100, 121, 32, 67, 80, 80, 120, 120, 59, 99, 114, 111, 115, 115, 32, 67, 80, 80, 80, 80, 59], [100, 119, 101, 108, 108, 32, 119, 59, 114, 105, 115, 101, 32, 119, 114, 108, 59, 102, 97, 108, 108, 32, 119, 114, 108, 59], [116, 117, 114, 110, 32, 105, 116, 59, 117, 110, 116, 105, 108, 32, 105, 116, 80, 68, 118, 59, 97, 103, 97, 105, 110, 32, 97, 59, 119, 97, 121, 32, 98, 59], [102, 105, 120], [99, 114, 97, 110, 107], [100, 121, 97, 100], [115, 108, 105, 100, 101], [98, 111, 100, 121], [99, 114, 111, 115, 115], [100, 119, 101, 108, 108], [114, 105, 115, 101], [102, 97, 108, 108], [116, 117, 114, 110], [117, 110, 116, 105, 108], [97, 103, 97, 105, 110], [119, 97, 121]]
abbrev mx_st1 : List Int32 := [0, 1, 2, 15, 35]
abbrev mx_st2 : List Int32 := [1, 1, 1, 8, 16]
def mx_w {α : Type} (f : Nat → Nat → α) (a k : Nat) (v : α) : Nat → Nat → α := fun q j => if q = a ∧ j = k then v else f q j
def mx_setI (σ : mx_S) (a k : Nat) (x : Int32) : mx_S := (mxA σ, mx_w (mxI σ) a k x, mxL σ, mxR σ, mxz σ, mxu σ)
def mx_setL (σ : mx_S) (a k : Nat) (x : Int64) : mx_S := (mxA σ, mxI σ, mx_w (mxL σ) a k x, mxR σ, mxz σ, mxu σ)
def mx_setR (σ : mx_S) (a k : Nat) (x : Nat) : mx_S := (mxA σ, mxI σ, mxL σ, mx_w (mxR σ) a k (some x), mxz σ, mxu σ)
def mg_I (σ : mx_S) (a ci k : Nat) : Option Int32 := if mxA σ a = some (.inl ci) then some (mxI σ a k) else none
def mg_L (σ : mx_S) (a ci k : Nat) : Option Int64 := if mxA σ a = some (.inl ci) then some (mxL σ a k) else none
def mg_R (σ : mx_S) (a ci k : Nat) : Option Nat := if mxA σ a = some (.inl ci) then mxR σ a k else none
def mp_I (P : mx_P) (σ : mx_S) (a ci k : Nat) (x : Int32) : Option mx_S := if mxA σ a = some (.inl ci) ∧ mpb P ≤ a then some (mx_setI σ a k x) else none
def mp_Z (P : mx_P) (σ : mx_S) (a ci k : Nat) (x : Int32) : Option mx_S := if mxA σ a = some (.inl ci) ∧ mpb P ≤ a ∧ (x = 0 ∨ x = 1) then some (mx_setI σ a k x) else none
def mp_L (P : mx_P) (σ : mx_S) (a ci k : Nat) (x : Int64) : Option mx_S := if mxA σ a = some (.inl ci) ∧ mpb P ≤ a then some (mx_setL σ a k x) else none
def mp_R (P : mx_P) (σ : mx_S) (a ci k : Nat) (x : Nat) : Option mx_S := if mxA σ a = some (.inl ci) ∧ mpb P ≤ a then some (mx_setR σ a k x) else none
def mx_ix (σ : mx_S) (a t : Nat) (i : Int32) : Option Nat := match mxA σ a with
  | some (.inr (t', n)) => if t' = t ∧ 0 ≤ i.toInt ∧ i.toInt < n then some i.toNatClampNeg else none
  | _ => none
def ma_n (σ : mx_S) (a t : Nat) : Option Int32 := match mxA σ a with
  | some (.inr (t', n)) => if t' = t then some (Int32.ofNat n) else none
  | _ => none
def ma_I (σ : mx_S) (a t : Nat) (i : Int32) : Option Int32 := (mx_ix σ a t i).bind fun j => some (mxI σ a j)
def ma_L (σ : mx_S) (a t : Nat) (i : Int32) : Option Int64 := (mx_ix σ a t i).bind fun j => some (mxL σ a j)
def ma_R (σ : mx_S) (a t : Nat) (i : Int32) : Option Nat := (mx_ix σ a t i).bind fun j => mxR σ a j
def ms_I (P : mx_P) (σ : mx_S) (a t : Nat) (i : Int32) (x : Int32) : Option mx_S := (mx_ix σ a t i).bind fun j => if mpb P ≤ a then some (mx_setI σ a j x) else none
def ms_L (P : mx_P) (σ : mx_S) (a t : Nat) (i : Int32) (x : Int64) : Option mx_S := (mx_ix σ a t i).bind fun j => if mpb P ≤ a then some (mx_setL σ a j x) else none
/-- an object of kind ci into an array of references -/
def ms_R (P : mx_P) (σ : mx_S) (a t : Nat) (i : Int32) (ci x : Nat) : Option mx_S := (mx_ix σ a t i).bind fun j => if mpb P ≤ a ∧ mxA σ x = some (.inl ci) then some (mx_setR σ a j x) else none
def mx_new (σ : mx_S) (sh : mx_Sh) (n : Nat) : mx_S := ((fun q => if q = mxz σ then some sh else mxA σ q), (fun q j => if q = mxz σ then 0 else mxI σ q j), (fun q j => if q = mxz σ then 0 else mxL σ q j), (fun q j => if q = mxz σ then none else mxR σ q j), mxz σ + 1, mxu σ + n)
def mn_O (P : mx_P) (σ : mx_S) (ci n : Nat) : Option (Nat × mx_S) := if mxz σ + 1 ≤ mpc P ∧ mxu σ + n ≤ mps P then some (mxz σ, mx_new σ (.inl ci) n) else none
def mn_A (P : mx_P) (σ : mx_S) (t : Nat) (n : Int32) : Option (Nat × mx_S) := if ¬ n < 0 ∧ n.toNatClampNeg ≤ 65536 ∧ mxz σ + 1 ≤ mpc P ∧ mxu σ + n.toNatClampNeg ≤ mps P then some (mxz σ, mx_new σ (.inr (t, n.toNatClampNeg)) n.toNatClampNeg) else none
def mr_Z (r : Int32) (σ : mx_S) : Option (Int32 × mx_S) := if r = 0 ∨ r = 1 then some (r, σ) else none
def mr_C (r : Int32) (σ : mx_S) : Option (Int32 × mx_S) := if (r.toUInt32 % 65536).toInt32 = r then some (r, σ) else none
def mr_B (r : Int32) (σ : mx_S) : Option (Int32 × mx_S) := if r.toInt8.toInt32 = r then some (r, σ) else none
def md_I (x y : Int32) : Option Int32 := if y = 0 then none else some (x / y)
def mm_I (x y : Int32) : Option Int32 := if y = 0 then none else some (x - x / y * y)
def md_L (x y : Int64) : Option Int64 := if y = 0 then none else some (x / y)
def mm_L (x y : Int64) : Option Int64 := if y = 0 then none else some (x - x / y * y)
def mx_lk {τ ρ : Type} (f : τ → Option ρ) (r : τ ⊕ ρ) : Option ρ := match r with
  | .inl y => f y
  | .inr z => some z
def mx_lp {τ ρ : Type} (b : τ → Option (τ ⊕ ρ)) : Nat → τ → Option ρ
  | 0, _ => none
  | n + 1, x => (b x).bind (mx_lk (mx_lp b n))
theorem mx_lp0 {τ ρ : Type} (b : τ → Option (τ ⊕ ρ)) (x : τ) : mx_lp b 0 x = none := rfl
theorem mx_lpS {τ ρ : Type} (b : τ → Option (τ ⊕ ρ)) (n : Nat) (x : τ) : mx_lp b (n + 1) x = (b x).bind (mx_lk (mx_lp b n)) := rfl
def mx_is (σ : mx_S) (a ci : Nat) : Option Unit := if mxA σ a = some (.inl ci) then some () else none
def mx_b2 {α β γ : Type} (o : Option (α × β)) (g : α → β → Option γ) : Option γ := match o with
  | none => none
  | some (a, b) => g a b
/-- the i-th String constant: there, its length, its bytes -/
def mt_ok (i : Nat) : Option Unit := if i < 16 then some () else none
def mt_n (i : Nat) : Int32 := Int32.ofNat (mx_sl.getD i 0)
def mt_b (i : Nat) (k : Int32) : Option Int32 := if 0 ≤ k.toInt ∧ k.toInt < (mx_sl.getD i 0 : Nat) then some ((mx_sb.getD i []).getD k.toNatClampNeg 0) else none
def mt_t (l : List Int32) (k : Int32) : Option Int32 := if 0 ≤ k.toInt ∧ k.toInt < 5 then some (l.getD k.toNatClampNeg 0) else none
/-- a row of an array of rows of longs -/
def ms_Q (P : mx_P) (σ : mx_S) (a : Nat) (i : Int32) (x : Nat) : Option mx_S := (mx_ix σ a 7 i).bind fun j => match mxA σ x with
  | some (.inr (t, _)) => if mpb P ≤ a ∧ t = 1 then some (mx_setR σ a j x) else none
  | _ => none
def mx_th (P : mx_P) (σ : mx_S) : Option mx_S := if mxz σ + 1 ≤ mpc P ∧ mxu σ + 6 ≤ mps P then some (mxA σ, mxI σ, mxL σ, mxR σ, mxz σ + 1, mxu σ + 6) else none
def mx_bx {α β : Type} (o : Option ((String × mx_S) ⊕ α)) (g : α → Option ((String × mx_S) ⊕ β)) : Option ((String × mx_S) ⊕ β) := match o with
  | none => none
  | some (.inl x) => some (.inl x)
  | some (.inr a) => g a
def mx_bx2 {α β : Type} (o : Option ((String × mx_S) ⊕ (α × mx_S))) (g : α → mx_S → Option ((String × mx_S) ⊕ β)) : Option ((String × mx_S) ⊕ β) := match o with
  | none => none
  | some (.inl x) => some (.inl x)
  | some (.inr (a, b)) => g a b
def mx_try {α β : Type} (o : Option ((String × mx_S) ⊕ (α × mx_S))) (h : String → mx_S → Option β) (g : α → mx_S → Option β) : Option β := match o with
  | none => none
  | some (.inl (E, τ)) => h E τ
  | some (.inr (a, τ)) => g a τ
def mx_try0 {β : Type} (o : Option ((String × mx_S) ⊕ mx_S)) (h : String → mx_S → Option β) (g : mx_S → Option β) : Option β := match o with
  | none => none
  | some (.inl (E, τ)) => h E τ
  | some (.inr τ) => g τ
/-- of the script's L ints xs the i-th -/
def mt_x (L : Nat) (xs : Nat → Int32) (i : Int32) : Option Int32 := if 0 ≤ i.toInt ∧ i.toInt < L then some (xs i.toNatClampNeg) else none
def mx_gr (σ : mx_S) (N K : Nat) : mx_S := ((fun q => if q = mxz σ then some (.inr (7, N)) else if mxz σ ≤ q ∧ q < mxz σ + 1 + N then some (.inr (1, K)) else mxA σ q), (fun q j => if mxz σ ≤ q ∧ q < mxz σ + 1 + N then 0 else mxI σ q j), (fun q j => if mxz σ ≤ q ∧ q < mxz σ + 1 + N then 0 else mxL σ q j), (fun q j => if q = mxz σ then (if j < N then some (mxz σ + 1 + j) else none) else if mxz σ ≤ q ∧ q < mxz σ + 1 + N then none else mxR σ q j), mxz σ + 1 + N, mxu σ + N + N * K)
def mn_M (P : mx_P) (σ : mx_S) (n k : Int32) : Option (Nat × mx_S) := if ¬ n < 0 ∧ ¬ k < 0 ∧ n.toNatClampNeg ≤ 65536 ∧ k.toNatClampNeg ≤ 65536 ∧ mxz σ + 1 + n.toNatClampNeg ≤ mpc P ∧ mxu σ + n.toNatClampNeg + n.toNatClampNeg * k.toNatClampNeg ≤ mps P then some (mxz σ, mx_gr σ n.toNatClampNeg k.toNatClampNeg) else none
theorem mx_gr_A (σ : mx_S) (N K q : Nat) : mxA (mx_gr σ N K) q = if q = mxz σ then some (.inr (7, N)) else if mxz σ ≤ q ∧ q < mxz σ + 1 + N then some (.inr (1, K)) else mxA σ q := rfl
theorem mx_gr_I (σ : mx_S) (N K q j : Nat) : mxI (mx_gr σ N K) q j = if mxz σ ≤ q ∧ q < mxz σ + 1 + N then 0 else mxI σ q j := rfl
theorem mx_gr_L (σ : mx_S) (N K q j : Nat) : mxL (mx_gr σ N K) q j = if mxz σ ≤ q ∧ q < mxz σ + 1 + N then 0 else mxL σ q j := rfl
theorem mx_gr_R (σ : mx_S) (N K q j : Nat) : mxR (mx_gr σ N K) q j = if q = mxz σ then (if j < N then some (mxz σ + 1 + j) else none) else if mxz σ ≤ q ∧ q < mxz σ + 1 + N then none else mxR σ q j := rfl
