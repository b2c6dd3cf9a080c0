/-! ===== the claim, out of the pure side ===== -/
def mx_s0 (z : Nat) : mx_S := (fun _ => none, fun _ _ => 0, fun _ _ => 0, fun _ _ => none, z, 0)
/-- the law's walk, where the pure side comes to 1 -/
theorem whole_gate {p : Program} {e : Env} {s : State} {m : MethodId} {below : List Frame} {meth : Method} {c : Code} (fu : Nat) (l : Launch) (hlt : l.stackTraces = false) {b L : Nat} {xs : Nat → Int32} (C0 : lw_At p s m meth c b L xs) (hm : ∃ σ', f_L_law (fu, s.heap.size, s.heap.size + room_1.cells, room_1.slots) L xs b (mx_s0 s.heap.size) = some (1, σ')) : W p l e room_1 s m #[Value.ref b] below meth c s.heap [] 0 0 (lw_Z below #[Value.ref b] s) (entryFrame m ([Value.ref b] : List Value).toArray 8) := by
  obtain ⟨G, hK⟩ := mx_start fu C0
  obtain ⟨σ', hf⟩ := hm
  refine c_L_law l hlt C0 G (fu, s.heap.size, s.heap.size + room_1.cells, room_1.slots) (mx_s0 s.heap.size) σ' hK ⟨⟨fun q ci h => (by cases h), fun q t n h => (by cases h)⟩, rfl, fun q h => (by cases h), Nat.le_refl _, Nat.le_add_right _ _, Nat.le_refl _, Nat.zero_le _, Nat.le_refl _, fun _ _ => rfl⟩ rfl ?_ rfl hf
  show room_1.cells = s.heap.size + room_1.cells - s.heap.size
  omega
