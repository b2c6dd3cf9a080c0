/-! ===== kn: cams: the reference's smoothness ===== -/
section KNS
variable {P : mx_P} {σ σ1 τ : mx_S} {x n c m k g : Nat} {W K L : Nat → Nat} {T B : Nat → Int}
def cmB (K L : Nat → Nat) : Nat → Int32
  | 0 => 0
  | k + 1 => if K k ≠ 0 ∧ L k = 2 then 1 else cmB K L k
theorem cmB_01 (k : Nat) : cmB K L k = 0 ∨ cmB K L k = 1 := by
  induction k with
  | zero => exact Or.inl rfl
  | succ k ih =>
    unfold cmB; split
    · exact Or.inr rfl
    · exact ih
theorem cmBS (k : Nat) (h : ∀ j, j < k → ¬ (K j ≠ 0 ∧ L j = 1)) : (cmB K L k = 0 ∧ cmS K L k = 2) ∨ (cmB K L k = 1 ∧ cmS K L k = 1) := by
  induction k with
  | zero => exact Or.inl ⟨rfl, rfl⟩
  | succ k ih =>
    have hk := h k (by omega)
    have ih' := ih fun j hj => h j (by omega)
    unfold cmB cmS
    rw [if_neg hk]
    by_cases z : K k ≠ 0 ∧ L k = 2
    · rw [if_pos z]
      right
      refine ⟨rfl, ?_⟩
      rcases ih' with ⟨-, y⟩ | ⟨-, y⟩
      · rw [if_pos ⟨z.1, z.2, y⟩]
      · rw [if_neg (fun w => by omega), y]
    · rw [if_neg z, if_neg (fun w => z ⟨w.1, w.2.1⟩)]
      exact ih'
/-- the slope goes on over into the next statement -/
def cmE (n : Nat) (W K L : Nat → Nat) (T B : Nat → Int) (j : Nat) : Prop := slP W K L T B ((j + 1) % n) = slP W K L T B j ∧ slQ W K L T B ((j + 1) % n) = slQ W K L T B j
theorem cm_jmp (ho : CmO n W K L T B) (hn : 0 < n) : (∀ j, j < n → cmE n W K L T B j) ↔ ¬ ∃ k, k < n ∧ K k ≠ 0 ∧ L k = 1 := by
  have sg := fun k (hk : k < n) => sl_sg (k := k) ho hk
  constructor
  · rintro h ⟨k, hk, k0, l1⟩
    have all : ∀ j, j < n → slP W K L T B j = slP W K L T B 0 := fun j => by
      induction j with
      | zero => exact fun _ => rfl
      | succ j ih =>
        intro hj
        have := (h j (by omega)).1
        rw [Nat.mod_eq_of_lt hj] at this
        rw [this, ih (by omega)]
    obtain ⟨o1, o2, o3⟩ := id ho
    have k2 := (o2 k hk).2.2.1
    rcases o3 with z | ⟨-, ⟨a, ha, a1⟩, ⟨b, hb, b2⟩⟩
    · omega
    · by_cases K1 : K k = 1
      · have s := (sg k hk).1.mpr ⟨K1, l1⟩
        rw [all k hk, ← all a ha] at s
        exact a1 ((sg a ha).1.mp s).1
      · have s := (sg k hk).2.mpr ⟨by omega, l1⟩
        rw [all k hk, ← all b hb] at s
        exact b2 ((sg b hb).2.mp s).1
  · intro h j hj
    have z : ∀ k, k < n → slP W K L T B k = 0 ∧ slQ W K L T B k = 1 := fun k hk => by
      unfold slP slQ
      rw [if_neg (fun y => h ⟨k, hk, y⟩), if_neg (fun y => h ⟨k, hk, y⟩)]
      exact ⟨rfl, rfl⟩
    have hm := Nat.mod_lt (j + 1) hn
    exact ⟨(z _ hm).1.trans (z j hj).1.symm, (z _ hm).2.trans (z j hj).2.symm⟩
theorem r_smo (hf : 5000 ≤ mpN P) (hM : LyM σ m) (hb : mpb P ≤ m) (ho : CmO n W K L T B) (h : CmR σ m n W K L T B) (hn : 0 < n) (h0 : mxI σ m 10 = 0) : ∃ τ, f_X12_smooth P m σ = some (q_n (cmS K L n), τ) ∧ Fz (SLw m) σ τ := by
  obtain ⟨r, e1, h1⟩ := q_for (f_X12_smooth_L4 P m) (fun k t => t.1 = cmB K L k ∧ t.2.1 = q_n k ∧ Fz (SLw m) σ t.2.2 ∧ mxI t.2.2 m 10 = 0 ∧ ∀ j, j < k → cmE n W K L T B j) (fun r => (∃ τ, r = .inl τ ∧ Fz (SLw m) σ τ ∧ ¬ ∀ j, j < n → cmE n W K L T B j) ∨ (∃ τ, r = .inr (cmB K L n, τ) ∧ Fz (SLw m) σ τ ∧ ∀ j, j < n → cmE n W K L T B j)) n
    (by
      rintro k ⟨v1, v2, s⟩ hk ⟨i1, i2, f, i3, i4⟩
      dsimp only at i1 i2 f i3
      subst i1 i2
      have Ms : LyM s m := f.M hM
      have hs := h.fz f S74
      obtain ⟨s6, e6, f6, z6, p6, q6⟩ := r_slp (P := P) hf Ms hb ho hs hk i3
      have M6 : LyM s6 m := f6.M Ms
      have h6 := hs.fz f6 S74
      have hm := Nat.mod_lt (k + 1) hn
      obtain ⟨s18, e18, f18, z18, p18, q18⟩ := r_slp (P := P) hf M6 hb ho h6 hm z6
      have M18 : LyM s18 m := f18.M M6
      have h18 := (h6.fz f18 S74).2 k hk
      have F : Fz (SLw m) σ s18 := (f.tr f6).tr f18
      obtain ⟨o1, o2, -⟩ := id ho
      have ok := o2 k hk
      show (∃ t', f_X12_smooth_B4 P m (cmB K L k) (q_n k) s = some (.inl t') ∧ _) ∨ (∃ r, f_X12_smooth_B4 P m (cmB K L k) (q_n k) s = some (.inr r) ∧ _)
      unfold f_X12_smooth_B4
      rw [bd (am_gI Ms), hs.1, if_neg (qn_ge hk (by omega)), bd (am_is Ms), bd e6, bd (am_gL M6), bd (am_gL M6), bd (am_gI M6), h6.1, q_nS, bd (k_mm (by omega) (by omega) (by omega)), bd (am_is M6), bd e18, bd (am_gL M18)]
      by_cases c1 : slP W K L T B ((k + 1) % n) = slP W K L T B k
      · rw [if_pos (q_cmp0.mpr (Int64.toInt.inj (by rw [p18, p6, c1]))), bd (am_gL M18)]
        by_cases c2 : slQ W K L T B ((k + 1) % n) = slQ W K L T B k
        · left
          rw [if_pos (q_cmp0.mpr (Int64.toInt.inj (by rw [q18, q6, c2])))]
          have D : ∀ w : Int32, w = cmB K L (k + 1) → ∃ t', f_X12_smooth_D89_4 P m (q_n k) w s18 = some (.inl t') ∧ t'.1 = cmB K L (k + 1) ∧ t'.2.1 = q_n (k + 1) ∧ Fz (SLw m) σ t'.2.2 ∧ mxI t'.2.2 m 10 = 0 ∧ ∀ j, j < k + 1 → cmE n W K L T B j := fun w hw => by
            unfold f_X12_smooth_D89_4
            rw [Option.bind_some, q_nS]
            refine ⟨_, rfl, hw, rfl, F, z18, fun j hj => ?_⟩
            by_cases ej : j = k
            · rw [ej]; exact ⟨c1, c2⟩
            · exact i4 j (by omega)
          have un : cmB K L (k + 1) = if K k ≠ 0 ∧ L k = 2 then 1 else cmB K L k := rfl
          unfold f_X12_smooth_D88_4 f_X12_smooth_D84_4
          rcases cmB_01 (K := K) (L := L) k with b0 | b1
          · rw [if_pos b0, bd (am_r75 M18), bd (am_g75 M18 (by omega)), h18.1]
            by_cases k0 : K k = 0
            · rw [k0, if_pos (by decide)]
              exact D 0 (by rw [un, if_neg (fun y => y.1 k0), b0])
            · obtain ⟨l1, l4, -⟩ := ok.2.2.2 k0
              rw [if_neg (show ¬ q_n (K k) ≤ 0 from fun y => k0 (by have := (q_nLe (k := K k) (l := 0) (by omega) (by omega)).mp y; omega)), bd (am_r79 M18), bd (am_g79 M18 (by omega)), (h18.2.2.1 k0).2.2]
              by_cases l2 : L k = 2
              · rw [if_pos (by rw [l2]; rfl)]
                exact D 1 (by rw [un, if_pos ⟨k0, l2⟩])
              · rw [if_neg (show ¬ q_n (L k) = (2 : Int32) from fun y => l2 ((q_nI (l := 2) (by omega) (by omega)).mp y))]
                exact D 0 (by rw [un, if_neg (fun y => l2 y.2), b0])
          · rw [if_neg (by rw [b1]; decide)]
            exact D 1 (by rw [un, b1]; split <;> rfl)
        · right
          rw [if_neg (fun y => c2 (by rw [← q18, ← q6, q_cmp0.mp y]))]
          exact ⟨_, rfl, Or.inl ⟨s18, rfl, F, fun y => c2 (y k hk).2⟩⟩
      · right
        rw [if_neg (fun y => c1 (by rw [← p18, ← p6, q_cmp0.mp y]))]
        exact ⟨_, rfl, Or.inl ⟨s18, rfl, F, fun y => c1 (y k hk).1⟩⟩)
    (by
      rintro ⟨v1, v2, s⟩ ⟨i1, i2, f, i3, i4⟩
      dsimp only at i1 i2 f i3
      subst i1 i2
      have Ms : LyM s m := f.M hM
      have hs := h.fz f S74
      have := ho.1
      show ∃ r, f_X12_smooth_B4 P m (cmB K L n) (q_n n) s = some (.inr r) ∧ _
      unfold f_X12_smooth_B4
      rw [bd (am_gI Ms), hs.1, if_pos ((q_nLe (by omega) (by omega)).mpr (Nat.le_refl _))]
      exact ⟨_, rfl, Or.inr ⟨s, rfl, f, i4⟩⟩)
    n 0 ((0 : Int32), (0 : Int32), σ) (mpN P) (by omega) ⟨rfl, rfl, Fz.rf, h0, fun j hj => by omega⟩ (by have := ho.1; omega)
  unfold f_X12_smooth
  rw [bd e1]
  rcases h1 with ⟨τ, er, F, J⟩ | ⟨τ, er, F, J⟩
  · subst er
    rw [cm_jmp ho hn] at J
    have e0 : cmS K L n = 0 := (cmS_0 n).mpr (Classical.byContradiction J)
    rw [e0]
    exact ⟨τ, rfl, F⟩
  · subst er
    rw [cm_jmp ho hn] at J
    refine ⟨τ, ?_, F⟩
    show (if cmB K L n = 0 then f_X12_smooth_D105 P (2 : Int32) τ else f_X12_smooth_D105 P (1 : Int32) τ) = _
    unfold f_X12_smooth_D105
    rcases cmBS (K := K) (L := L) n (fun j hj y => J ⟨j, hj, y⟩) with ⟨b, s⟩ | ⟨b, s⟩
    · rw [if_pos b, s]; rfl
    · rw [if_neg (by rw [b]; decide), s]; rfl
end KNS
