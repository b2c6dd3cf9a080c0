/-! ===== kg: exact fractions: flags, lowest terms ===== -/
section KGS
variable {P : mx_P} {σ σ1 σ2 τ : mx_S} {a j m : Nat} {u v : Int64} {c d x z : Int} {p q : Prop}
/-- a flag that was set unless p -/
def Sg (a j : Nat) (σ τ : mx_S) (p : Prop) : Prop := (p ∧ τ = σ) ∨ (¬ p ∧ mxI τ a j = 1 ∧ Fz (fun q i => q = a ∧ i = j) σ τ)
theorem Sg.tr (h1 : Sg a j σ σ1 p) (h2 : Sg a j σ1 σ2 q) : Sg a j σ σ2 (p ∧ q) := by
  rcases h1 with ⟨p1, e1⟩ | ⟨p1, e1, f1⟩
  · rcases h2 with ⟨p2, e2⟩ | ⟨p2, e2, f2⟩
    · exact Or.inl ⟨⟨p1, p2⟩, e2.trans e1⟩
    · subst e1; exact Or.inr ⟨fun y => p2 y.2, e2, f2⟩
  · rcases h2 with ⟨p2, e2⟩ | ⟨p2, e2, f2⟩
    · subst e2; exact Or.inr ⟨fun y => p1 y.1, e1, f1⟩
    · exact Or.inr ⟨fun y => p1 y.1, e2, f1.tr f2⟩
theorem Sg.A (h : Sg a j σ τ p) : mxA τ = mxA σ ∧ mxR τ = mxR σ := by
  rcases h with ⟨-, e⟩ | ⟨-, -, f⟩
  · subst e; exact ⟨rfl, rfl⟩
  · exact ⟨f.1, f.2.1⟩
theorem Sg.L (h : Sg a j σ τ p) : ∀ b i, ¬ (b = a ∧ i = j) → mxL τ b i = mxL σ b i := fun b i hb => by
  rcases h with ⟨-, e⟩ | ⟨-, -, f⟩
  · subst e; rfl
  · exact (f.2.2.2 b i hb).2
theorem c_ck2 (hA : mxA σ a = some (.inl 3)) (hb : mpb P ≤ a) (hu : B64 u c 1000000000000000) (hv : B64 v d 1000000000000000) : ∃ w τ e, f_X3_checked P a u v σ = some (w, τ) ∧ B64 w e 1000000000000000 ∧ (c.natAbs * d.natAbs ≤ 1000000000000000 → e = c * d) ∧ Sg a 2 σ τ (c.natAbs * d.natAbs ≤ 1000000000000000) := by
  rcases c_chk (P := P) hA hb hu hv with ⟨h1, w, h2, h3⟩ | ⟨h1, h2⟩
  · exact ⟨w, σ, c * d, h2, h3, fun _ => rfl, Or.inl ⟨h1, rfl⟩⟩
  · exact ⟨0, _, 0, h2, ⟨rfl, by simp⟩, fun y => absurd y (by omega), Or.inr ⟨by omega, sI_e, Fz.rf.sI ⟨rfl, rfl⟩ _⟩⟩
theorem r_pr2 (hM : LyM σ m) (hb : mpb P ≤ m) (hu : B64 u c 1000000000000000) (hv : B64 v d 1000000000000000) : ∃ w τ e, f_X12_product P m u v σ = some (w, τ) ∧ B64 w e 1000000000000000 ∧ (c.natAbs * d.natAbs ≤ 1000000000000000 → e = c * d) ∧ Sg m 10 σ τ (c.natAbs * d.natAbs ≤ 1000000000000000) := by
  rcases r_prd (P := P) hM hb hu hv with ⟨h1, w, h2, h3⟩ | ⟨h1, h2⟩
  · exact ⟨w, σ, c * d, h2, h3, fun _ => rfl, Or.inl ⟨h1, rfl⟩⟩
  · exact ⟨0, _, 0, h2, ⟨rfl, by simp⟩, fun y => absurd y (by omega), Or.inr ⟨by omega, sI_e, Fz.rf.sI ⟨rfl, rfl⟩ _⟩⟩
/-- the class's lowest terms -/
theorem c_red (hf : 5000 ≤ mpN P) (hA : mxA σ a = some (.inl 3)) (hb : mpb P ≤ a) (hu : B64 u x 1000000000000000) (hv : B64 v z 1000000000000000) (hz : 1 ≤ z) : ∃ τ, f_X3_reduce P a u v σ = some τ ∧ (mxL τ a 0).toInt = x / (gcI x z : Int) ∧ (mxL τ a 1).toInt = z / (gcI x z : Int) ∧ mxI τ a 2 = mxI σ a 2 ∧ Fz (fun q j => q = a ∧ j ≤ 2) σ τ := by
  have hd : z ≠ 0 := by omega
  have hg := gc_pos (c := x) hd
  have hgl := gc_le (c := x) hd
  have hgd := hv.2
  have gcd1 : f_X3_gcd P u v σ = some (l_n (gcI x z), σ) := by
    have := c_gcd (P := P) (σ := σ) (x := u) (y := v) hf (by rw [hu.1]; have := hu.2; omega) (by rw [hv.1]; omega)
    rw [hu.1, hv.1] at this
    exact this
  obtain ⟨r1, q1, k1⟩ := dv_ex hg (by omega) hu (by omega) (gc_l (c := x) (d := z))
  obtain ⟨r2, q2, k2⟩ := dv_ex hg (by omega) hv (by omega) (gc_r (c := x) (d := z))
  have eab : v = l_n z.natAbs := by
    apply Int64.toInt.inj; rw [l_nT (by omega), hv.1]; omega
  have A2 : mxA (mx_setL σ a 0 r1) a = some (.inl 3) := hA
  have d55 : f_X3_reduce_D55 P a v (l_n (gcI x z)) r1 a σ = some (mx_setL (mx_setL σ a 0 r1) a 1 r2) := by
    unfold f_X3_reduce_D55
    rw [bd (q_pL hA hb _), k_absL, k_absT64 (by rw [hv.1]; omega), hv.1, bd2 rfl, ← eab, bd q2, bd (q_pL A2 hb _)]
  refine ⟨mx_setL (mx_setL σ a 0 r1) a 1 r2, ?_, ?_, ?_, rfl, (Fz.rf.sL ⟨rfl, by omega⟩ _).sL ⟨rfl, by omega⟩ _⟩
  · unfold f_X3_reduce
    rw [bd2 gcd1, if_neg (fun y => hd (by rw [← hv.1, q_cmp0.mp y]; rfl)), if_neg (fun y => l_nne hg (by omega) (q_cmp0.mp y)), if_pos (by rw [l_nn, hv.1]; omega), bd q1, d55]
  · rw [sL_n (by omega), sL_e]; exact k1.1
  · rw [sL_e]; exact k2.1
/-- the reference's lowest terms -/
def SLw (m : Nat) (q j : Nat) : Prop := q = m ∧ (j = 8 ∨ j = 9 ∨ j = 10)
theorem r_low (hf : 5000 ≤ mpN P) (hM : LyM σ m) (hb : mpb P ≤ m) (hu : B64 u x 2000000000000000) (hv : B64 v z 1000000000000000) (h01 : mxI σ m 10 = 0 ∧ 1 ≤ z ∨ mxI σ m 10 = 1) : ∃ τ, f_X12_lowest P m u v σ = some τ ∧ Fz (SLw m) σ τ ∧ ((mxI σ m 10 = 0 ∧ x.natAbs ≤ 1000000000000000 ∧ mxI τ m 10 = 0 ∧ (mxL τ m 8).toInt = x / (gcI x z : Int) ∧ (mxL τ m 9).toInt = z / (gcI x z : Int)) ∨ (¬ (mxI σ m 10 = 0 ∧ x.natAbs ≤ 1000000000000000) ∧ mxI τ m 10 = 1 ∧ mxL τ m 8 = 0 ∧ mxL τ m 9 = 1)) := by
  have hd : ∀ τ, LyM τ m → f_X12_lowest_D29 P m τ = some (mx_setL (mx_setL τ m 8 0) m 9 1) := fun τ h => by
    unfold f_X12_lowest_D29
    have h2 : LyM (mx_setL τ m 8 0) m := h
    rw [bd (am_pL h hb _), bd (am_pL h2 hb _)]
  have s8 : ∀ j, j = 8 ∨ j = 9 ∨ j = 10 → SLw m m j := fun j h => ⟨rfl, h⟩
  have hu2 := hu.2
  have hv2 := hv.2
  have sz : f_X12_size P u σ = some (l_n x.natAbs, σ) := by rw [k_size64 (by rw [hu.1]; omega), hu.1]
  unfold f_X12_lowest
  rw [bd2 sz]
  by_cases g : x.natAbs ≤ 1000000000000000
  · rw [l_15, if_pos (by rw [q_cmp_le, q_lle, l_nT (by omega), l_nT (by omega)]; exact Int.ofNat_le.mpr g)]
    unfold f_X12_lowest_D16
    rw [bd (am_gI hM)]
    rcases h01 with ⟨h0, hz⟩ | h1
    · rw [if_pos h0]
      have hd0 : z ≠ 0 := by omega
      have hg := gc_pos (c := x) hd0
      have hgl := gc_le (c := x) hd0
      by_cases x0 : x = 0
      · rw [if_pos (by rw [q_cmp0]; apply Int64.toInt.inj; rw [hu.1, x0]; rfl), hd σ hM]
        refine ⟨_, rfl, (Fz.rf.sL (s8 8 (by omega)) _).sL (s8 9 (by omega)) _, Or.inl ⟨h0, g, h0, ?_, ?_⟩⟩
        · rw [sL_n (by omega), sL_e, x0, Int.zero_ediv]; rfl
        · rw [sL_e, x0]
          have : (gcI 0 z : Int) = z := by unfold gcI; rw [Int.natAbs_zero, Nat.gcd_zero_left]; omega
          rw [this, Int.ediv_self hd0]; rfl
      · have hu' : B64 u x 1000000000000000 := ⟨hu.1, g⟩
        have gcd1 : f_X12_gcd P u v σ = some (l_n (gcI x z), σ) := by
          have := r_gcd (P := P) (σ := σ) (x := u) (y := v) hf (by rw [hu.1]; omega) (by rw [hv.1]; omega)
          rw [hu.1, hv.1] at this
          exact this
        obtain ⟨r1, q1, k1⟩ := dv_ex hg (by omega) hu' (by omega) (gc_l (c := x) (d := z))
        obtain ⟨r2, q2, k2⟩ := dv_ex hg (by omega) hv (by omega) (gc_r (c := x) (d := z))
        have m2 : LyM (mx_setL σ m 8 r1) m := hM
        rw [if_neg (fun y => x0 (by rw [← hu.1, q_cmp0.mp y]; rfl)), bd2 gcd1, bd q1, bd (am_pL hM hb _), bd q2, bd (am_pL m2 hb _)]
        refine ⟨_, rfl, (Fz.rf.sL (s8 8 (by omega)) _).sL (s8 9 (by omega)) _, Or.inl ⟨h0, g, h0, ?_, ?_⟩⟩
        · rw [sL_n (by omega), sL_e]; exact k1.1
        · rw [sL_e]; exact k2.1
    · rw [if_neg (by rw [h1]; decide), hd σ hM]
      refine ⟨_, rfl, (Fz.rf.sL (s8 8 (by omega)) _).sL (s8 9 (by omega)) _, Or.inr ⟨fun y => by rw [h1] at y; exact absurd y.1 (by decide), h1, ?_, sL_e⟩⟩
      rw [sL_n (by omega), sL_e]
  · have m2 : LyM (mx_setI σ m 10 1) m := hM
    rw [l_15, if_neg (by rw [q_cmp_le, q_lle, l_nT (by omega), l_nT (by omega)]; exact fun y => g (Int.ofNat_le.mp y)), bd (am_pZ hM hb (Or.inr rfl))]
    unfold f_X12_lowest_D16
    rw [bd (am_gI m2), sI_e, if_neg (by decide), hd _ m2]
    refine ⟨_, rfl, ((Fz.rf.sI (s8 10 (by omega)) _).sL (s8 8 (by omega)) _).sL (s8 9 (by omega)) _, Or.inr ⟨fun y => g y.2, ?_, ?_, sL_e⟩⟩
    · rw [IsL, IsL, sI_e]
    · rw [sL_n (by omega), sL_e]
end KGS
