/-! ===== go: the reference's scratch boxes may change ===== -/
section GOS
variable {P : mx_P} {σ σ0 τ : mx_S} {m : Nat} {E' : Nat → BV} {K : LK} {pl : Nat → Nat} {fn fd : Bool}
theorem RS_H (hT : kT K) (h : RS m K σ0 pl σ) (g : H σ m E' fn fd τ) : RS m K σ0 pl τ := by
  obtain ⟨hK, -, hF⟩ := h
  have hI : ∀ q j, q ≠ m + 4 → q ≠ m + 18 → q ≠ m + 35 → (q = m → j ≠ 54 ∧ j ≠ 55) → mxI τ q j = mxI σ q j := fun q j c1 _ _ c4 => g.2.2.2.1 q j c1 c4
  refine ⟨RK_of hT hK hI g.2.2.2.2.1 fun j hj => ?_, ⟨E', g.2.2.2.2.2.1⟩, hF.tr ⟨g.1, g.2.1, g.2.2.1, hI, g.2.2.2.2.1⟩⟩
  rw [g.2.2.2.1 _ _ (by omega) (fun z => by omega)]; exact hK.2.2.2.1 j hj
end GOS
