/-! ===== kk: cams ===== -/
section KKS
variable {σ τ : mx_S} {x n c : Nat} {ns : List Nat} {W K L : Nat → Nat} {T B : Nat → Int}
/-- what a cam tells: n statements; widths W, kinds K (0 dwell, 1 rise, 2 fall), laws L, lifts T/B -/
def CmO (n : Nat) (W K L : Nat → Nat) (T B : Nat → Int) : Prop := n ≤ 30 ∧ (∀ k, k < n → 1 ≤ W k ∧ W k ≤ 360 ∧ K k ≤ 2 ∧ (K k ≠ 0 → 1 ≤ L k ∧ L k ≤ 4 ∧ 1 ≤ T k ∧ T k ≤ 60 * B k ∧ 1 ≤ B k ∧ B k ≤ 9999 ∧ gcI (T k) (B k) = 1)) ∧ (n = 0 ∨ (kqs n W = 360 ∧ (∃ k, k < n ∧ K k ≠ 1) ∧ ∃ k, k < n ∧ K k ≠ 2))
def CmC (σ : mx_S) (c n : Nat) (W K L : Nat → Nat) (T B : Nat → Int) : Prop := mxI σ c 0 = q_n n ∧ ∀ k, k < n → mxI σ (c + 1) k = q_n (W k) ∧ mxI σ (c + 2) k = (if K k = 0 then 0 else if K k = 1 then 1 else -1) ∧ mxI σ (c + 3) k = (if K k = 0 then 0 else q_n (L k)) ∧ (K k ≠ 0 → (mxL σ (c + 4) k).toInt = T k ∧ (mxL σ (c + 5) k).toInt = B k)
def CmR (σ : mx_S) (m n : Nat) (W K L : Nat → Nat) (T B : Nat → Int) : Prop := mxI σ m 74 = q_n n ∧ ∀ k, k < n → mxI σ (m + 49) k = q_n (K k) ∧ mxI σ (m + 50) k = q_n (W k) ∧ (K k ≠ 0 → (mxL σ (m + 51) k).toInt = T k ∧ (mxL σ (m + 52) k).toInt = B k ∧ mxI σ (m + 53) k = q_n (L k)) ∧ (K k = 0 → mxL σ (m + 51) k = 0 ∧ mxL σ (m + 52) k = 1 ∧ mxI σ (m + 53) k = 1)
def RCm (x : Nat) (σ : mx_S) : Prop := ∃ c c' n W K L T B, mxR σ x 8 = some c ∧ mxR σ x 9 = some c' ∧ ((c = x + 1481 ∧ c' = x + 1489) ∨ (c = x + 1489 ∧ c' = x + 1481)) ∧ CmO n W K L T B ∧ CmC σ c n W K L T B ∧ CmR σ (x + 1497) n W K L T B
theorem RCm_cg (h : RCm x σ) (hR : mxR τ = mxR σ) (e : ∀ q j, cp x 6 q j → mxI τ q j = mxI σ q j ∧ mxL τ q j = mxL σ q j) : RCm x τ := by
  obtain ⟨c, c', n, W, K, L, T, B, h1, h2, h3, h4, ⟨h5, h6⟩, ⟨h7, h8⟩⟩ := h
  have e2 : ∀ q j, (x + 1481 ≤ q ∧ q < x + 1497) ∨ (x + 1546 ≤ q ∧ q ≤ x + 1550) ∨ (q = x + 1497 ∧ j = 74) → mxI τ q j = mxI σ q j ∧ mxL τ q j = mxL σ q j := fun q j z => e q j z
  refine ⟨c, c', n, W, K, L, T, B, by rw [hR]; exact h1, by rw [hR]; exact h2, h3, h4, ⟨(e2 _ _ (by omega)).1.trans h5, fun k hk => ?_⟩, ⟨(e2 _ _ (by omega)).1.trans h7, fun k hk => ?_⟩⟩
  · rw [(e2 (c + 1) k (by omega)).1, (e2 (c + 2) k (by omega)).1, (e2 (c + 3) k (by omega)).1, (e2 (c + 4) k (by omega)).2, (e2 (c + 5) k (by omega)).2]
    exact h6 k hk
  · rw [(e2 (x + 1497 + 49) k (by omega)).1, (e2 (x + 1497 + 50) k (by omega)).1, (e2 (x + 1497 + 51) k (by omega)).2, (e2 (x + 1497 + 52) k (by omega)).2, (e2 (x + 1497 + 53) k (by omega)).1]
    exact h8 k hk
theorem RCm.fr (h : RCm x σ) (f : Fr x ns σ τ) (hn : 6 ∉ ns) : RCm x τ := RCm_cg h f.2.1 fun q j hq => f.2.2.1 6 q j hq hn
end KKS
