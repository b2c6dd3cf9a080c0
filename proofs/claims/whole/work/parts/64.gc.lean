/-! ===== gc: speeds, by themselves ===== -/
section GCS
variable {K : LK} {pl : Nat → Nat} {i p : Nat} {X V V' W : Nat → V2}
def g_vp (K : LK) (pl : Nat → Nat) (i : Nat) (X V : Nat → V2) (p : Nat) : V2 :=
  if kK K p = 0 then (b_0, b_0)
  else if kK K p = 1 then (if (kP K p).2.1 = i then v_tn false (kO K p).2 (V (kA K p 0)) (k_aim K pl p) else V (kA K p 0))
  else if kK K p = 2 then g_vdy (X p) (X (kA K p 0)) (X (kA K p 1)) (V (kA K p 0)) (V (kA K p 1))
  else if kK K p = 3 then g_vsl (X p) (X (kA K p 0)) (X (kA K p 1)) (X (kA K p 2)) (V (kA K p 0)) (V (kA K p 1)) (V (kA K p 2))
  else if kK K p = 4 then g_body (kO K p).1 (kO K p).2 (V (kA K p 0)) (V (kA K p 1))
  else g_vcr (X p) (X (kA K p 0)) (X (kA K p 1)) (X (kA K p 2)) (X (kA K p 3)) (V (kA K p 0)) (V (kA K p 1)) (V (kA K p 2)) (V (kA K p 3))
theorem g_vp_0 (c : kK K p = 0) : g_vp K pl i X V p = (b_0, b_0) := by
  unfold g_vp; rw [if_pos c]
theorem g_vp_1 (c : kK K p = 1) : g_vp K pl i X V p = (if (kP K p).2.1 = i then v_tn false (kO K p).2 (V (kA K p 0)) (k_aim K pl p) else V (kA K p 0)) := by
  unfold g_vp; rw [if_neg (by omega), if_pos c]
theorem g_vp_2 (c : kK K p = 2) : g_vp K pl i X V p = g_vdy (X p) (X (kA K p 0)) (X (kA K p 1)) (V (kA K p 0)) (V (kA K p 1)) := by
  unfold g_vp; rw [if_neg (by omega), if_neg (by omega), if_pos c]
theorem g_vp_3 (c : kK K p = 3) : g_vp K pl i X V p = g_vsl (X p) (X (kA K p 0)) (X (kA K p 1)) (X (kA K p 2)) (V (kA K p 0)) (V (kA K p 1)) (V (kA K p 2)) := by
  unfold g_vp; rw [if_neg (by omega), if_neg (by omega), if_neg (by omega), if_pos c]
theorem g_vp_4 (c : kK K p = 4) : g_vp K pl i X V p = g_body (kO K p).1 (kO K p).2 (V (kA K p 0)) (V (kA K p 1)) := by
  unfold g_vp; rw [if_neg (by omega), if_neg (by omega), if_neg (by omega), if_neg (by omega), if_pos c]
theorem g_vp_5 (c : kK K p = 5) : g_vp K pl i X V p = g_vcr (X p) (X (kA K p 0)) (X (kA K p 1)) (X (kA K p 2)) (X (kA K p 3)) (V (kA K p 0)) (V (kA K p 1)) (V (kA K p 2)) (V (kA K p 3)) := by
  unfold g_vp; rw [if_neg (by omega), if_neg (by omega), if_neg (by omega), if_neg (by omega), if_neg (by omega)]
theorem g_vp_cg (hk : kK K p ≤ 5) (h : ∀ j, j < g_np (kK K p) → V (kA K p j) = V' (kA K p j)) : g_vp K pl i X V p = g_vp K pl i X V' p := by
  have hc : kK K p = 0 ∨ kK K p = 1 ∨ kK K p = 2 ∨ kK K p = 3 ∨ kK K p = 4 ∨ kK K p = 5 := by omega
  rcases hc with c | c | c | c | c | c
  · rw [g_vp_0 c, g_vp_0 c]
  · rw [c] at h; rw [g_vp_1 c, g_vp_1 c, h 0 (by decide)]
  · rw [c] at h; rw [g_vp_2 c, g_vp_2 c, h 0 (by decide), h 1 (by decide)]
  · rw [c] at h; rw [g_vp_3 c, g_vp_3 c, h 0 (by decide), h 1 (by decide), h 2 (by decide)]
  · rw [c] at h; rw [g_vp_4 c, g_vp_4 c, h 0 (by decide), h 1 (by decide)]
  · rw [c] at h; rw [g_vp_5 c, g_vp_5 c, h 0 (by decide), h 1 (by decide), h 2 (by decide), h 3 (by decide)]
/-! open speeds -/
theorem op_tn {two : BV} {A T : V2} (h : v_open A = true) : v_open (v_tn false two A T) = true := by
  obtain ⟨a, b⟩ := A
  unfold v_open at h ⊢
  unfold v_tn
  cases a
  · simp [ns]
  · cases b
    · simp [na]
    · simp at h
theorem dot_no {A v : V2} (h : v_open v = true) : v_dot A v = none := by
  obtain ⟨a, b⟩ := v
  unfold v_open at h
  unfold v_dot
  cases a
  · simp [nm', na]
  · cases b
    · simp [nm', b_add_n]
    · simp at h
theorem crs_no {A v : V2} (h : v_open v = true) : v_crs A v = none := by
  obtain ⟨a, b⟩ := v
  unfold v_open at h
  unfold v_crs
  cases a
  · simp [nm', b_sub_n]
  · cases b
    · simp [nm', ns]
    · simp at h
theorem crs_no' {A v : V2} (h : v_open v = true) : v_crs v A = none := by
  obtain ⟨a, b⟩ := v
  unfold v_open at h
  unfold v_crs
  cases a
  · simp [nm, ns]
  · cases b
    · simp [nm, b_sub_n]
    · simp at h
theorem sub_op {A v : V2} (h : v_open v = true) : v_open (v_sub A v) = true ∧ v_open (v_sub v A) = true := by
  obtain ⟨a, b⟩ := v
  unfold v_open at h ⊢
  unfold v_sub
  cases a
  · simp [ns, b_sub_n]
  · cases b
    · simp [ns, b_sub_n]
    · simp at h
theorem dft_no {c f t vf vt : V2} (h : v_open vf = true ∨ v_open vt = true) : g_dft c f t vf vt = none := by
  unfold g_dft
  rcases h with h | h
  · rw [crs_no' h]; rfl
  · rw [crs_no (sub_op h).2, b_sub_n]
theorem op_v (hk : kK K p ≤ 5) (h : ∃ j, j < g_np (kK K p) ∧ v_open (V (kA K p j)) = true) : v_open (g_vp K pl i X V p) = true := by
  obtain ⟨j, hj, h⟩ := h
  have hc : kK K p = 0 ∨ kK K p = 1 ∨ kK K p = 2 ∨ kK K p = 3 ∨ kK K p = 4 ∨ kK K p = 5 := by omega
  rcases hc with c | c | c | c | c | c <;> rw [c] at hj
  · exact absurd hj (by simp [g_np])
  · have : j = 0 := by simp [g_np] at hj; omega
    subst this; rw [g_vp_1 c]
    split
    · exact op_tn h
    · exact h
  · have : j = 0 ∨ j = 1 := by simp [g_np] at hj; omega
    rw [g_vp_2 c]
    unfold g_vdy g_slv v_open
    rcases this with rfl | rfl
    · rw [dot_no h]; simp [nm, nm', ns, b_sub_n, nd]
    · rw [dot_no (v := V (kA K p 1)) h]; simp [nm, nm', ns, b_sub_n, nd]
  · have : j = 0 ∨ j = 1 ∨ j = 2 := by simp [g_np] at hj; omega
    rw [g_vp_3 c]
    unfold g_vsl v_open
    rcases this with rfl | rfl | rfl
    · rw [dot_no h]; simp [nm, nm', nn, ns, b_sub_n, nd]
    · rw [dft_no (Or.inl h)]; simp [nm, nm', ns, b_sub_n, nd]
    · rw [dft_no (Or.inr h)]; simp [nm, nm', ns, b_sub_n, nd]
  · have : j = 0 ∨ j = 1 := by simp [g_np] at hj; omega
    rw [g_vp_4 c]
    rcases this with rfl | rfl
    · exact op_bo (Or.inl h)
    · exact op_bo (Or.inr h)
  · have : j = 0 ∨ j = 1 ∨ j = 2 ∨ j = 3 := by simp [g_np] at hj; omega
    rw [g_vp_5 c]
    unfold g_vcr v_open
    rcases this with rfl | rfl | rfl | rfl
    · rw [dft_no (vf := V (kA K p 0)) (Or.inl h)]; simp [nm, nm', ns, b_sub_n, nd]
    · rw [dft_no (vt := V (kA K p 1)) (Or.inr h)]; simp [nm, nm', ns, b_sub_n, nd]
    · rw [dft_no (vf := V (kA K p 2)) (Or.inl h)]; simp [nm, nm', ns, b_sub_n, nd]
    · rw [dft_no (vt := V (kA K p 3)) (Or.inr h)]; simp [nm, nm', ns, b_sub_n, nd]
theorem g_vp_N (hk : kK K p ≤ 5) (h : ∀ j, j < g_np (kK K p) → v_N (V (kA K p j)) = W (kA K p j)) : v_N (g_vp K pl i X V p) = v_N (g_vp K pl i X W p) := by
  by_cases ho : ∃ j, j < g_np (kK K p) ∧ v_open (V (kA K p j)) = true
  · have ho' : ∃ j, j < g_np (kK K p) ∧ v_open (W (kA K p j)) = true := by
      obtain ⟨j, hj, h1⟩ := ho
      exact ⟨j, hj, by rw [← h j hj, v_N_open]; exact h1⟩
    rw [v_N_no (op_v hk ho), v_N_no (op_v hk ho')]
  · rw [g_vp_cg hk fun j hj => ?_]
    rw [← h j hj, v_N_id]
    cases hv : v_open (V (kA K p j))
    · rfl
    · exact absurd ⟨j, hj, hv⟩ ho
/-- the speeds, for places X -/
def t_it (K : LK) (pl : Nat → Nat) (i : Nat) (X : Nat → V2) : Nat → Nat → V2
  | 0 => fun _ => (none, none)
  | k + 1 => fun p => v_N (g_vp K pl i X (t_it K pl i X k) p)
def t_V (K : LK) (pl : Nat → Nat) (i : Nat) (X : Nat → V2) : Nat → V2 := t_it K pl i X 40
theorem t_st (hT : kT K) : ∀ n k, n < kN K → n < k → t_it K pl i X (k + 1) (kQ K n) = t_it K pl i X k (kQ K n) := by
  intro n
  induction n using Nat.strongRecOn with
  | _ n ih =>
    intro k hn hk
    obtain ⟨f, rfl⟩ : ∃ f, k = f + 1 := ⟨k - 1, by omega⟩
    show v_N (g_vp K pl i X (t_it K pl i X (f + 1)) _) = v_N (g_vp K pl i X (t_it K pl i X f) _)
    obtain ⟨a1, a2, a3⟩ := hT.2.2.1 n hn
    rw [g_vp_cg a2 fun j hj => ?_]
    obtain ⟨n', h1, h2⟩ := a3 j hj
    rw [← h2, ih n' h1 f (by omega) (by omega)]
theorem t_fx (hT : kT K) (hp : p < kN K) : t_V K pl i X p = v_N (g_vp K pl i X (t_V K pl i X) p) := by
  obtain ⟨n, hn, rfl⟩ := hT.2.2.2.2 p hp
  exact (t_st hT n 40 hn (by have := hT.1; omega)).symm
end GCS
