/-! ===== km: cams: the reference's slope ===== -/
section KMS
variable {P : mx_P} {σ σ1 τ : mx_S} {x n c m k g : Nat} {W K L : Nat → Nat} {T B : Nat → Int} {p q d e : Int}
theorem dvsg (hg : 0 < g) (h : (g : Int) ∣ d) : (0 < d ↔ 0 < d / (g : Int)) ∧ (d < 0 ↔ d / (g : Int) < 0) := by
  obtain ⟨k, hk⟩ := h
  have e : d / g = k := by rw [hk]; exact Int.mul_ediv_cancel_left _ (by omega)
  have hg' : (0 : Int) < g := by omega
  rw [e, hk]
  constructor
  · constructor
    · intro z
      apply Classical.byContradiction
      intro y
      have := Int.mul_nonpos_of_nonneg_of_nonpos (a := (g : Int)) (b := k) (by omega) (by omega)
      omega
    · intro z; exact Int.mul_pos hg' z
  · constructor
    · intro z
      apply Classical.byContradiction
      intro y
      have := Int.mul_nonneg (a := (g : Int)) (b := k) (by omega) (by omega)
      omega
    · intro z; exact Int.mul_neg_of_pos_of_neg hg' z
theorem fto_s (hq : q ≠ 0) (hd : d ≠ 0) (h1 : p.natAbs * e.natAbs ≤ 1000000000000000) (h2 : q.natAbs * d.natAbs ≤ 1000000000000000) : fto p q e d := by
  have g1 := gc_pos (c := p) (d := d) hd
  have g2 := gc_pos (c := e) (d := q) hq
  exact ⟨Nat.le_trans (Nat.mul_le_mul (dvb g1 gc_l) (dvb g2 gc_l)) h1, Nat.le_trans (Nat.mul_le_mul (dvb g2 gc_r) (dvb g1 gc_r)) h2⟩
theorem ft_sg (hq : 1 ≤ q) (hd : 1 ≤ d) (he : 1 ≤ e) : (0 < p ↔ 0 < ftx p q e d / (gcI (ftx p q e d) (ftz p q e d) : Int)) ∧ (p < 0 ↔ ftx p q e d / (gcI (ftx p q e d) (ftz p q e d) : Int) < 0) := by
  have g1 := gc_pos (c := p) (d := d) (by omega)
  have g2 := gc_pos (c := e) (d := q) (by omega)
  have p1 := dvp g2 (gc_r (c := e) (d := q)) hq
  have p2 := dvp g1 (gc_r (c := p) (d := d)) hd
  have p3 := dvp g2 (gc_l (c := e) (d := q)) he
  have zp : 1 ≤ ftz p q e d := by
    unfold ftz
    have := Int.mul_le_mul p1 p2 (by omega) (by omega)
    omega
  have g3 := gc_pos (c := ftx p q e d) (d := ftz p q e d) (by omega)
  have s1 := dvsg g1 (gc_l (c := p) (d := d))
  have s2 := dvsg g3 (gc_l (c := ftx p q e d) (d := ftz p q e d))
  rw [← s2.1, ← s2.2, s1.1, s1.2]
  unfold ftx
  constructor
  · refine ⟨fun z => Int.mul_pos z (by omega), fun z => ?_⟩
    apply Classical.byContradiction
    intro y
    have := Int.mul_nonneg (a := -(p / (gcI p d : Int))) (b := e / (gcI e q : Int)) (by omega) (by omega)
    rw [Int.neg_mul] at this
    omega
  · constructor
    · intro z; exact Int.mul_neg_of_neg_of_pos z (by omega)
    · intro z
      apply Classical.byContradiction
      intro y
      have := Int.mul_nonneg (a := p / (gcI p d : Int)) (b := e / (gcI e q : Int)) (by omega) (by omega)
      omega
/-- the signed lift of a statement -/
def cmT (K : Nat → Nat) (T : Nat → Int) (k : Nat) : Int := if K k = 2 then -T k else T k
def slP (W K L : Nat → Nat) (T B : Nat → Int) (k : Nat) : Int := if K k ≠ 0 ∧ L k = 1 then ftx (cmT K T k) (B k) 1 (W k) / (gcI (ftx (cmT K T k) (B k) 1 (W k)) (ftz (cmT K T k) (B k) 1 (W k)) : Int) else 0
def slQ (W K L : Nat → Nat) (T B : Nat → Int) (k : Nat) : Int := if K k ≠ 0 ∧ L k = 1 then ftz (cmT K T k) (B k) 1 (W k) / (gcI (ftx (cmT K T k) (B k) 1 (W k)) (ftz (cmT K T k) (B k) 1 (W k)) : Int) else 1
theorem CmR.fz {S : Nat → Nat → Prop} (h : CmR σ m n W K L T B) (f : Fz S σ τ) (hs : ∀ q j, S q j → (q < m + 49 ∨ m + 53 < q) ∧ (q = m → j ≠ 74)) : CmR τ m n W K L T B := by
  obtain ⟨h7, h8⟩ := h
  have e2 : ∀ q j, (m + 49 ≤ q ∧ q ≤ m + 53) ∨ (q = m ∧ j = 74) → mxI τ q j = mxI σ q j ∧ mxL τ q j = mxL σ q j := fun q j z => f.2.2.2 q j fun y => by have := hs q j y; omega
  refine ⟨(e2 _ _ (by omega)).1.trans h7, fun k hk => ?_⟩
  rw [(e2 (m + 49) k (by omega)).1, (e2 (m + 50) k (by omega)).1, (e2 (m + 51) k (by omega)).2, (e2 (m + 52) k (by omega)).2, (e2 (m + 53) k (by omega)).1]
  exact h8 k hk
theorem S74 (q j : Nat) (y : SLw m q j) : (q < m + 49 ∨ m + 53 < q) ∧ (q = m → j ≠ 74) := by unfold SLw at y; omega
theorem l_nB {a A : Nat} (h : a ≤ A) (h2 : A < 4611686018427387904) : B64 (l_n a) (a : Int) A := ⟨l_nT (by omega), by rw [Int.natAbs_natCast]; exact h⟩
theorem b64N {u : Int64} {A : Nat} (h : B64 u p A) (h2 : A < 4611686018427387904) : B64 (-u) (-p) A := by
  have := h.2
  refine ⟨?_, by rw [Int.natAbs_neg]; exact h.2⟩
  rw [q_lneg (by rw [h.1]; omega), h.1]
theorem r_slp (hf : 5000 ≤ mpN P) (hM : LyM σ m) (hb : mpb P ≤ m) (ho : CmO n W K L T B) (h : CmR σ m n W K L T B) (hk : k < n) (h0 : mxI σ m 10 = 0) : ∃ τ, f_X12_slope P m (q_n k) σ = some τ ∧ Fz (SLw m) σ τ ∧ mxI τ m 10 = 0 ∧ (mxL τ m 8).toInt = slP W K L T B k ∧ (mxL τ m 9).toInt = slQ W K L T B k := by
  obtain ⟨o1, o2, -⟩ := ho
  obtain ⟨w1, w2, k2, o⟩ := o2 k hk
  have s8 : ∀ j, j = 8 ∨ j = 9 ∨ j = 10 → SLw m m j := fun j h => ⟨rfl, h⟩
  obtain ⟨σ3, e3⟩ : ∃ σ3, σ3 = mx_setL (mx_setL σ m 8 0) m 9 1 := ⟨_, rfl⟩
  have f3 : Fz (SLw m) σ σ3 := by rw [e3]; exact (Fz.rf.sL (s8 8 (by omega)) _).sL (s8 9 (by omega)) _
  have M3 : LyM σ3 m := f3.M hM
  have R3 := (h.fz f3 S74).2 k hk
  have h30 : mxI σ3 m 10 = 0 := by rw [e3]; exact h0
  have no : ¬ (K k ≠ 0 ∧ L k = 1) → Fz (SLw m) σ σ3 ∧ mxI σ3 m 10 = 0 ∧ (mxL σ3 m 8).toInt = slP W K L T B k ∧ (mxL σ3 m 9).toInt = slQ W K L T B k := fun z => by
    refine ⟨f3, h30, ?_, ?_⟩
    · rw [e3, sL_n (by omega), sL_e]; unfold slP; rw [if_neg z]; rfl
    · rw [e3, sL_e]; unfold slQ; rw [if_neg z]; rfl
  unfold f_X12_slope f_X12_slope_D73
  rw [bd (am_pL hM hb _), bd (am_pL (show LyM (mx_setL σ m 8 0) m from hM) hb _), ← e3, bd (am_r75 M3), bd (am_g75 M3 (by omega)), R3.1]
  by_cases k0 : K k = 0
  · rw [k0, if_pos (by decide)]
    exact ⟨σ3, rfl, no fun y => y.1 k0⟩
  · obtain ⟨l1, l4, t1, t2, b1, b2, gg⟩ := o k0
    rw [if_neg (show ¬ q_n (K k) ≤ 0 from fun y => k0 (by have := (q_nLe (k := K k) (l := 0) (by omega) (by omega)).mp y; omega)), bd (am_r79 M3), bd (am_g79 M3 (by omega)), (R3.2.2.1 k0).2.2]
    by_cases L1 : L k = 1
    · have bT : B64 (mxL σ3 (m + 51) k) (T k) 600000 := ⟨(R3.2.2.1 k0).1, by omega⟩
      have bB : B64 (mxL σ3 (m + 52) k) (B k) 1000000000000000 := ⟨(R3.2.2.1 k0).2.1, by omega⟩
      have bW : B64 (l_n (W k)) (W k : Int) 1000000000000000 := l_nB (by omega) (by omega)
      have b1' : B64 (1 : Int64) (1 : Int) 1000000000000000 := ⟨rfl, by decide⟩
      have go : ∀ u, B64 u (cmT K T k) 600000 → ∃ τ, f_X12_slope_D56 P m (q_n k) u m σ3 = some τ ∧ Fz (SLw m) σ τ ∧ mxI τ m 10 = 0 ∧ (mxL τ m 8).toInt = slP W K L T B k ∧ (mxL τ m 9).toInt = slQ W K L T B k := fun u hu => by
        obtain ⟨τ, e, f, r⟩ := r_tim (P := P) hf M3 hb (b64w hu (by omega)) bB b1' bW b1 (by omega) (Or.inl h30)
        have ok : fto (cmT K T k) (B k) 1 (W k : Int) := by
          have := hu.2
          refine fto_s (by omega) (by omega) (by show _ * 1 ≤ _; omega) ?_
          have h1 : (B k).natAbs ≤ 9999 := by omega
          have h2 : (W k : Int).natAbs ≤ 360 := by omega
          have := Nat.mul_le_mul h1 h2
          omega
        refine ⟨τ, ?_, f3.tr f, ?_⟩
        · unfold f_X12_slope_D56 f_X12_slope_D73 f_X12_by f_X12_by_D32
          rw [bd (am_r78 M3), bd (am_g78 M3 (by omega)), bd (am_r76 M3), bd (am_g76 M3 (by omega)), R3.2.1, bd (am_is M3), q_nL (by omega), if_pos (by rw [l_nn, l_nT (by omega)]; omega), bd (am_is M3), bd e, Option.bind_some]
        · rcases r with ⟨-, r1, r2, r3⟩ | ⟨z, -⟩
          · refine ⟨r1, ?_, ?_⟩
            · rw [r2]; unfold slP; rw [if_pos ⟨k0, L1⟩]
            · rw [r3]; unfold slQ; rw [if_pos ⟨k0, L1⟩]
          · exact absurd ⟨h30, ok⟩ z
      rw [if_pos (by rw [L1]; rfl), bd (am_r75 M3), bd (am_g75 M3 (by omega)), R3.1]
      by_cases K2 : K k = 2
      · rw [if_pos (by rw [K2]; rfl), bd (am_r77 M3), bd (am_g77 M3 (by omega))]
        refine go _ ?_
        unfold cmT; rw [if_pos K2]
        exact b64N bT (by omega)
      · rw [if_neg (show ¬ q_n (K k) = (2 : Int32) from fun y => K2 ((q_nI (l := 2) (by omega) (by omega)).mp y)), bd (am_r77 M3), bd (am_g77 M3 (by omega))]
        refine go _ ?_
        unfold cmT; rw [if_neg K2]
        exact bT
    · rw [if_neg (show ¬ q_n (L k) = (1 : Int32) from fun y => L1 ((q_nI (l := 1) (by omega) (by omega)).mp y))]
      exact ⟨σ3, rfl, no fun y => L1 y.2⟩
/-- the sign of the slope -/
theorem sl_sg (ho : CmO n W K L T B) (hk : k < n) : (0 < slP W K L T B k ↔ K k = 1 ∧ L k = 1) ∧ (slP W K L T B k < 0 ↔ K k = 2 ∧ L k = 1) := by
  obtain ⟨o1, o2, -⟩ := ho
  obtain ⟨w1, w2, k2, o⟩ := o2 k hk
  unfold slP
  by_cases z : K k ≠ 0 ∧ L k = 1
  · rw [if_pos z]
    obtain ⟨l1, l4, t1, t2, b1, b2, gg⟩ := o z.1
    have s := ft_sg (p := cmT K T k) (q := B k) (d := W k) (e := 1) b1 (by omega) (by omega)
    rw [← s.1, ← s.2]
    unfold cmT
    split <;> constructor <;> constructor <;> omega
  · rw [if_neg z]
    constructor <;> constructor <;> omega
end KMS
