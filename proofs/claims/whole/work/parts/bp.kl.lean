/-! ===== kl: cams: the class's smoothness ===== -/
section KLS2
variable {P : mx_P} {σ τ : mx_S} {x n c : Nat} {W K L : Nat → Nat} {T B : Nat → Int}
def cmS (K L : Nat → Nat) : Nat → Nat
  | 0 => 2
  | k + 1 => if K k ≠ 0 ∧ L k = 1 then 0 else if K k ≠ 0 ∧ L k = 2 ∧ cmS K L k = 2 then 1 else cmS K L k
theorem cmS_le (k : Nat) : cmS K L k ≤ 2 := by
  induction k with
  | zero => exact Nat.le_refl _
  | succ k ih =>
    unfold cmS; split
    · omega
    · split <;> omega
theorem cmS_0 (n : Nat) : cmS K L n = 0 ↔ ∃ k, k < n ∧ K k ≠ 0 ∧ L k = 1 := by
  induction n with
  | zero => constructor
            · intro z; exact absurd z (show ¬ (2 : Nat) = 0 by decide)
            · rintro ⟨k, hk, -⟩; omega
  | succ n ih =>
    unfold cmS
    by_cases e : K n ≠ 0 ∧ L n = 1
    · rw [if_pos e]; exact ⟨fun _ => ⟨n, by omega, e⟩, fun _ => rfl⟩
    · rw [if_neg e]
      have h : (if K n ≠ 0 ∧ L n = 2 ∧ cmS K L n = 2 then 1 else cmS K L n) = 0 ↔ cmS K L n = 0 := by
        split
        · rename_i y; constructor
          · intro z; omega
          · intro z; omega
        · exact Iff.rfl
      rw [h, ih]
      constructor
      · rintro ⟨k, hk, y⟩; exact ⟨k, by omega, y⟩
      · rintro ⟨k, hk, y⟩
        by_cases ek : k = n
        · rw [ek] at y; exact absurd y e
        · exact ⟨k, by omega, y⟩
theorem c_smo (hC : LyC (mxA σ) (mxR σ) c) (hN : 100 < mpN P) (ho : CmO n W K L T B) (h : CmC σ c n W K L T B) : f_X1_smoothness P c σ = some (q_n (cmS K L n), σ) := by
  obtain ⟨o1, o2, -⟩ := ho
  obtain ⟨h1, h2⟩ := h
  have lp : mx_lp (f_X1_smoothness_L4 P c) (mpN P) ((2 : Int32), (0 : Int32), σ) = some (q_n (cmS K L n), σ) :=
    lpT (fun k => (q_n (cmS K L k), q_n k, σ)) n (fun k hk => by
      show f_X1_smoothness_B4 P c (q_n (cmS K L k)) (q_n k) σ = _
      unfold f_X1_smoothness_B4
      have D : ∀ w : Int32, f_X1_smoothness_D44_4 P c w (q_n k) σ = some (.inl (w, q_n (k + 1), σ)) := fun w => by
        unfold f_X1_smoothness_D44_4; rw [Option.bind_some, q_nS]
      obtain ⟨-, -, -, o⟩ := o2 k hk
      have le := cmS_le (K := K) (L := L) k
      have un : cmS K L (k + 1) = if K k ≠ 0 ∧ L k = 1 then 0 else if K k ≠ 0 ∧ L k = 2 ∧ cmS K L k = 2 then 1 else cmS K L k := rfl
      rw [bd (ac_gI hC), h1, if_neg (qn_ge hk (by omega)), bd (ac_r3 hC), bd (ac_g3 hC (by omega)), bd (ac_r3 hC), bd (ac_g3 hC (by omega)), (h2 k hk).2.2.1]
      by_cases k0 : K k = 0
      · rw [if_pos k0, if_neg (by decide), if_neg (by decide), D, un, if_neg (fun y => y.1 k0), if_neg (fun y => y.1 k0)]
      · have ol := o k0
        rw [if_neg k0]
        by_cases l1 : L k = 1
        · rw [if_pos (by rw [l1]; rfl), D, un, if_pos ⟨k0, l1⟩]; rfl
        · rw [if_neg (show ¬ q_n (L k) = (1 : Int32) from fun y => l1 ((q_nI (l := 1) (by omega) (by omega)).mp y))]
          by_cases l2 : L k = 2
          · rw [if_pos (by rw [l2]; rfl)]
            by_cases s2 : cmS K L k = 2
            · rw [if_pos (by rw [s2]; rfl), D, un, if_neg (fun y => l1 y.2), if_pos ⟨k0, l2, s2⟩]; rfl
            · rw [if_neg (show ¬ q_n (cmS K L k) = (2 : Int32) from fun y => s2 ((q_nI (l := 2) (by omega) (by omega)).mp y)), D, un, if_neg (fun y => l1 y.2), if_neg (fun y => s2 y.2.2)]
          · rw [if_neg (show ¬ q_n (L k) = (2 : Int32) from fun y => l2 ((q_nI (l := 2) (by omega) (by omega)).mp y)), D, un, if_neg (fun y => l1 y.2), if_neg (fun y => l2 y.2.1)]) (by
      show f_X1_smoothness_B4 P c (q_n (cmS K L n)) (q_n n) σ = _
      unfold f_X1_smoothness_B4
      rw [bd (ac_gI hC), h1, if_pos ((q_nLe (by omega) (by omega)).mpr (Nat.le_refl _))]) (by omega)
  unfold f_X1_smoothness
  rw [bd lp]
end KLS2
