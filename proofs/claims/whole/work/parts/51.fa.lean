/-! ===== fa: a linkage, by itself ===== -/
section FAA
/-- points, marks, kind, what it hangs on, one and two, power input turn, sign, order -/
abbrev LK : Type := Nat × Nat × (Nat → Nat) × (Nat → Nat → Nat) × (Nat → BV × BV) × (Nat → Int × Nat × Nat) × (Nat → Nat) × (Nat → Nat)
abbrev kN (K : LK) : Nat := K.1
abbrev kB (K : LK) : Nat := K.2.1
abbrev kK (K : LK) : Nat → Nat := K.2.2.1
abbrev kA (K : LK) : Nat → Nat → Nat := K.2.2.2.1
abbrev kO (K : LK) : Nat → BV × BV := K.2.2.2.2.1
abbrev kP (K : LK) : Nat → Int × Nat × Nat := K.2.2.2.2.2.1
abbrev kS (K : LK) : Nat → Nat := K.2.2.2.2.2.2.1
abbrev kQ (K : LK) : Nat → Nat := K.2.2.2.2.2.2.2
def g_np (k : Nat) : Nat := if k = 0 then 0 else if k = 1 then 1 else if k = 2 then 2 else if k = 3 then 3 else if k = 4 then 2 else 4
def g_sg (s w : Nat) : Bool := if s = 0 then false else if s = 1 then true else w.testBit (s - 2)
def g_pt (K : LK) (pl : Nat → Nat) (w : Nat) (V : Nat → V2) (p : Nat) : Nat × V2 :=
  if kK K p = 0 then (0, kO K p)
  else if kK K p = 1 then (0, v_sc (kO K p).1 (V (kA K p 0)) (g_aim (kP K p).1 (g_D (pl (kP K p).2.1)) (g_D (kP K p).2.2)))
  else if kK K p = 2 then g_dyad (kO K p).1 (kO K p).2 (V (kA K p 0)) (V (kA K p 1)) (g_sg (kS K p) w)
  else if kK K p = 3 then g_slide (kO K p).1 (V (kA K p 0)) (V (kA K p 1)) (V (kA K p 2)) (g_sg (kS K p) w)
  else if kK K p = 4 then (0, g_body (kO K p).1 (kO K p).2 (V (kA K p 0)) (V (kA K p 1)))
  else (0, g_cross (V (kA K p 0)) (V (kA K p 1)) (V (kA K p 2)) (V (kA K p 3)))
/-- an open pair is open in both -/
def v_N (v : V2) : V2 := if v_open v then (none, none) else v
def s_pt (K : LK) (pl : Nat → Nat) (w : Nat) (S : Nat → Nat × V2) (p : Nat) : Nat × V2 :=
  (g_st (g_pt K pl w (fun q => (S q).2) p).1 (g_pt K pl w (fun q => (S q).2) p).2, v_N (g_pt K pl w (fun q => (S q).2) p).2)
def s_it (K : LK) (pl : Nat → Nat) (w : Nat) : Nat → Nat → Nat × V2
  | 0 => fun _ => (0, (none, none))
  | k + 1 => fun p => s_pt K pl w (s_it K pl w k) p
/-- what each point comes to -/
def s_S (K : LK) (pl : Nat → Nat) (w : Nat) : Nat → Nat × V2 := s_it K pl w 40
/-- each point comes behind those it hangs on -/
def kT (K : LK) : Prop := kN K ≤ 40 ∧ kB K ≤ 8 ∧ (∀ i, i < kN K → kQ K i < kN K ∧ kK K (kQ K i) ≤ 5 ∧ ∀ j, j < g_np (kK K (kQ K i)) → ∃ i', i' < i ∧ kQ K i' = kA K (kQ K i) j) ∧ (∀ i j, i < kN K → j < kN K → kQ K i = kQ K j → i = j) ∧ ∀ p, p < kN K → ∃ i, i < kN K ∧ kQ K i = p
variable {K : LK} {pl : Nat → Nat} {w : Nat} {S S' : Nat → Nat × V2} {V V' : Nat → V2} {p : Nat}
theorem g_pt_0 (c : kK K p = 0) : g_pt K pl w V p = (0, kO K p) := by
  unfold g_pt
  rw [if_pos c]
theorem g_pt_1 (c : kK K p = 1) : g_pt K pl w V p = (0, v_sc (kO K p).1 (V (kA K p 0)) (g_aim (kP K p).1 (g_D (pl (kP K p).2.1)) (g_D (kP K p).2.2))) := by
  unfold g_pt
  rw [if_neg (by omega), if_pos c]
theorem g_pt_2 (c : kK K p = 2) : g_pt K pl w V p = g_dyad (kO K p).1 (kO K p).2 (V (kA K p 0)) (V (kA K p 1)) (g_sg (kS K p) w) := by
  unfold g_pt
  rw [if_neg (by omega), if_neg (by omega), if_pos c]
theorem g_pt_3 (c : kK K p = 3) : g_pt K pl w V p = g_slide (kO K p).1 (V (kA K p 0)) (V (kA K p 1)) (V (kA K p 2)) (g_sg (kS K p) w) := by
  unfold g_pt
  rw [if_neg (by omega), if_neg (by omega), if_neg (by omega), if_pos c]
theorem g_pt_4 (c : kK K p = 4) : g_pt K pl w V p = (0, g_body (kO K p).1 (kO K p).2 (V (kA K p 0)) (V (kA K p 1))) := by
  unfold g_pt
  rw [if_neg (by omega), if_neg (by omega), if_neg (by omega), if_neg (by omega), if_pos c]
theorem g_pt_5 (c : kK K p = 5) : g_pt K pl w V p = (0, g_cross (V (kA K p 0)) (V (kA K p 1)) (V (kA K p 2)) (V (kA K p 3))) := by
  unfold g_pt
  rw [if_neg (by omega), if_neg (by omega), if_neg (by omega), if_neg (by omega), if_neg (by omega)]
theorem g_pt_cg (hk : kK K p ≤ 5) (h : ∀ j, j < g_np (kK K p) → V (kA K p j) = V' (kA K p j)) : g_pt K pl w V p = g_pt K pl w V' p := by
  have hc : kK K p = 0 ∨ kK K p = 1 ∨ kK K p = 2 ∨ kK K p = 3 ∨ kK K p = 4 ∨ kK K p = 5 := by omega
  rcases hc with c | c | c | c | c | c
  · rw [c] at h; rw [g_pt_0 c, g_pt_0 c]
  · rw [c] at h; rw [g_pt_1 c, g_pt_1 c, h 0 (by decide)]
  · rw [c] at h; rw [g_pt_2 c, g_pt_2 c, h 0 (by decide), h 1 (by decide)]
  · rw [c] at h; rw [g_pt_3 c, g_pt_3 c, h 0 (by decide), h 1 (by decide), h 2 (by decide)]
  · rw [c] at h; rw [g_pt_4 c, g_pt_4 c, h 0 (by decide), h 1 (by decide)]
  · rw [c] at h; rw [g_pt_5 c, g_pt_5 c, h 0 (by decide), h 1 (by decide), h 2 (by decide), h 3 (by decide)]
theorem s_pt_cg (hk : kK K p ≤ 5) (h : ∀ j, j < g_np (kK K p) → (S (kA K p j)).2 = (S' (kA K p j)).2) : s_pt K pl w S p = s_pt K pl w S' p := by
  unfold s_pt
  rw [g_pt_cg (V := fun q => (S q).2) (V' := fun q => (S' q).2) hk h]
theorem s_st (hT : kT K) : ∀ i k, i < kN K → i < k → s_it K pl w (k + 1) (kQ K i) = s_it K pl w k (kQ K i) := by
  intro i
  induction i using Nat.strongRecOn with
  | _ i ih =>
    intro k hi hk
    obtain ⟨f, rfl⟩ : ∃ f, k = f + 1 := ⟨k - 1, by omega⟩
    show s_pt K pl w (s_it K pl w (f + 1)) _ = s_pt K pl w (s_it K pl w f) _
    obtain ⟨a1, a2, a3⟩ := hT.2.2.1 i hi
    refine s_pt_cg a2 fun j hj => ?_
    obtain ⟨i', h1, h2⟩ := a3 j hj
    rw [← h2, ih i' h1 f (by omega) (by omega)]
/-- the one equation -/
theorem s_fx (hT : kT K) (hp : p < kN K) : s_S K pl w p = s_pt K pl w (s_S K pl w) p := by
  obtain ⟨i, hi, rfl⟩ := hT.2.2.2.2 p hp
  exact (s_st hT i 40 hi (by have := hT.1; omega)).symm
/-! open points -/
theorem na (A : BV) : b_add none A = none := rfl
theorem ns (A : BV) : b_sub none A = none := rfl
theorem nm (A : BV) : b_mul none A = none := rfl
theorem nm' (A : BV) : b_mul A none = none := by cases A <;> rfl
theorem nd (A : BV) : b_div none A = none := rfl
theorem nd' (A : BV) : b_div A none = none := by cases A <;> rfl
theorem nq : b_sq none = none := rfl
theorem nh (n : Int) : b_share n none = none := rfl
theorem nr : b_root none = none := rfl
theorem nn : b_neg none = none := rfl
theorem nj : g_judge none = (0, none) := rfl
theorem op_cr {one : BV} {A T : V2} (h : v_open A = true) : v_open (v_sc one A T) = true := by
  obtain ⟨a, b⟩ := A
  unfold v_open at h ⊢
  unfold v_sc
  cases a
  · simp [na]
  · cases b
    · simp [na]
    · simp at h
theorem op_dy {one two : BV} {A B : V2} {s : Bool} (h : v_open A = true ∨ v_open B = true) : (g_dyad one two A B s).1 = 0 ∧ v_open (g_dyad one two A B s).2 = true := by
  have hd : d_n A B = none := by
    obtain ⟨a, b⟩ := A
    obtain ⟨c, d⟩ := B
    unfold d_n n_sq v_sub v_open at *
    cases a <;> cases b <;> cases c <;> cases d <;> simp [ns, b_sub_n, nq, na, b_add_n] at h ⊢
  have he : d_e one two A B = none := by unfold d_e; rw [hd]; rfl
  have ht : d_t one two A B = none := by unfold d_t; rw [he]; rfl
  have hj : d_j one two A B = (0, none) := by unfold d_j; rw [he, nm, b_sub_n]; rfl
  unfold g_dyad
  rw [hj, hd]
  refine ⟨rfl, ?_⟩
  unfold v_open v_tn
  cases s <;> simp [nd, nr, nm, b_add_n, b_sub_n]
theorem op_sl {one : BV} {A D E : V2} {s : Bool} (h : v_open A = true ∨ v_open D = true ∨ v_open E = true) : (g_slide one A D E s).1 = 0 ∧ v_open (g_slide one A D E s).2 = true := by
  have he : s_e A D E = none ∧ (n_sq (v_sub D A) = none ∨ n_sq (v_sub E D) = none) := by
    obtain ⟨a, b⟩ := A
    obtain ⟨c, d⟩ := D
    obtain ⟨e, f⟩ := E
    unfold s_e v_dot n_sq v_sub v_open at *
    cases a <;> cases b <;> cases c <;> cases d <;> cases e <;> cases f <;> simp [ns, b_sub_n, nq, na, b_add_n, nm, nm'] at h ⊢
  have ht : s_t A D E = none := by unfold s_t; rw [he.1]; rfl
  have hj : s_j one A D E = (0, none) := by unfold s_j; rw [he.1, nm, b_add_n, b_sub_n]; rfl
  unfold g_slide s_k
  rw [hj, ht]
  refine ⟨rfl, ?_⟩
  unfold v_open v_sc
  cases s <;> simp [na, ns, nm, b_add_n]
theorem op_bo {one two : BV} {A B : V2} (h : v_open A = true ∨ v_open B = true) : v_open (g_body one two A B) = true := by
  obtain ⟨a, b⟩ := A
  obtain ⟨c, d⟩ := B
  unfold g_body v_tn v_sc v_sub v_open at *
  cases a <;> cases b <;> cases c <;> cases d <;> simp [ns, b_sub_n, na, b_add_n, nm, nm'] at h ⊢
theorem op_cs {A B D E : V2} (h : v_open A = true ∨ v_open B = true ∨ v_open D = true ∨ v_open E = true) : v_open (g_cross A B D E) = true := by
  have ht : b_div (v_crs (v_sub D A) (v_sub E D)) (v_crs (v_sub B A) (v_sub E D)) = none := by
    obtain ⟨a, b⟩ := A
    obtain ⟨c, d⟩ := B
    obtain ⟨e, f⟩ := D
    obtain ⟨g, i⟩ := E
    unfold v_crs v_sub v_open at *
    cases a <;> cases b <;> cases c <;> cases d <;> cases e <;> cases f <;> cases g <;> cases i <;> simp [ns, b_sub_n, nm, nm', nd, nd'] at h ⊢
  unfold g_cross
  rw [ht]
  unfold v_open v_sc
  simp [nm, b_add_n]
end FAA
