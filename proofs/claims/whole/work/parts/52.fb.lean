/-! ===== fb: the reference works a way out ===== -/
section FBA
variable {P : mx_P} {σ σ0 : mx_S} {m : Nat} {E : Nat → BV} {fn fd : Bool} {K : LK} {pl : Nat → Nat} {w p : Nat} {V W : Nat → V2}
theorem op_pt (hk : kK K p ≤ 5) (h : ∃ j, j < g_np (kK K p) ∧ v_open (V (kA K p j)) = true) : (g_pt K pl w V p).1 = 0 ∧ v_open (g_pt K pl w V p).2 = true := by
  obtain ⟨j, hj, h⟩ := h
  have hc : kK K p = 0 ∨ kK K p = 1 ∨ kK K p = 2 ∨ kK K p = 3 ∨ kK K p = 4 ∨ kK K p = 5 := by omega
  rcases hc with c | c | c | c | c | c <;> rw [c] at hj
  · exact absurd hj (by simp [g_np])
  · have : j = 0 := by simp [g_np] at hj; omega
    subst this; rw [g_pt_1 c]; exact ⟨rfl, op_cr h⟩
  · have : j = 0 ∨ j = 1 := by simp [g_np] at hj; omega
    rw [g_pt_2 c]
    rcases this with rfl | rfl
    · exact op_dy (Or.inl h)
    · exact op_dy (Or.inr h)
  · have : j = 0 ∨ j = 1 ∨ j = 2 := by simp [g_np] at hj; omega
    rw [g_pt_3 c]
    rcases this with rfl | rfl | rfl
    · exact op_sl (Or.inl h)
    · exact op_sl (Or.inr (Or.inl h))
    · exact op_sl (Or.inr (Or.inr h))
  · have : j = 0 ∨ j = 1 := by simp [g_np] at hj; omega
    rw [g_pt_4 c]
    rcases this with rfl | rfl
    · exact ⟨rfl, op_bo (Or.inl h)⟩
    · exact ⟨rfl, op_bo (Or.inr h)⟩
  · have : j = 0 ∨ j = 1 ∨ j = 2 ∨ j = 3 := by simp [g_np] at hj; omega
    rw [g_pt_5 c]
    rcases this with rfl | rfl | rfl | rfl
    · exact ⟨rfl, op_cs (Or.inl h)⟩
    · exact ⟨rfl, op_cs (Or.inr (Or.inl h))⟩
    · exact ⟨rfl, op_cs (Or.inr (Or.inr (Or.inl h)))⟩
    · exact ⟨rfl, op_cs (Or.inr (Or.inr (Or.inr h)))⟩
theorem v_N_open {v : V2} : v_open (v_N v) = v_open v := by
  unfold v_N
  cases h : v_open v
  · rw [if_neg (by decide), h]
  · rw [if_pos rfl]; rfl
theorem v_N_id {v : V2} (h : v_open v = false) : v_N v = v := by unfold v_N; rw [h]; rfl
theorem v_N_no {v : V2} (h : v_open v = true) : v_N v = (none, none) := by unfold v_N; rw [h]; rfl
/-- the raw places and the normalized ones come to the same -/
theorem g_pt_N (hk : kK K p ≤ 5) (h : ∀ j, j < g_np (kK K p) → v_N (V (kA K p j)) = W (kA K p j)) : (g_pt K pl w V p).1 = (g_pt K pl w W p).1 ∧ v_N (g_pt K pl w V p).2 = v_N (g_pt K pl w W p).2 := by
  by_cases ho : ∃ j, j < g_np (kK K p) ∧ v_open (V (kA K p j)) = true
  · have ho' : ∃ j, j < g_np (kK K p) ∧ v_open (W (kA K p j)) = true := by
      obtain ⟨j, hj, h1⟩ := ho
      exact ⟨j, hj, by rw [← h j hj, v_N_open]; exact h1⟩
    obtain ⟨a1, a2⟩ := op_pt (pl := pl) (w := w) hk ho
    obtain ⟨b1, b2⟩ := op_pt (pl := pl) (w := w) hk ho'
    rw [a1, b1, v_N_no a2, v_N_no b2]; exact ⟨rfl, rfl⟩
  · have e : g_pt K pl w V p = g_pt K pl w W p := by
      refine g_pt_cg hk fun j hj => ?_
      rw [← h j hj, v_N_id]
      cases hv : v_open (V (kA K p j))
      · rfl
      · exact absurd ⟨j, hj, hv⟩ ho
    rw [e]; exact ⟨rfl, rfl⟩
theorem g_st_N {n : Nat} {v : V2} : g_st n (v_N v) = g_st n v := by unfold g_st; rw [v_N_open]
/-- a reference's linkage -/
def RK (σ : mx_S) (m : Nat) (K : LK) (pl : Nat → Nat) : Prop :=
  mxI σ m 19 = q_n (kN K) ∧ mxI σ m 20 = q_n (kB K) ∧ (∀ i, i < kN K → mxI σ (m + 17) i = q_n (kQ K i)) ∧ (∀ i, i < 4 → mxI σ (m + 18) i = q_n (pl i) ∧ pl i < 1024) ∧
  ∀ p, p < kN K → mxI σ (m + 5) p = q_n (kK K p) ∧ (∀ j, j < g_np (kK K p) → kA K p j < 40 ∧ kA K p j ≠ p ∧ mxI σ (m + 6) (4 * p + (if kK K p = 3 ∧ 0 < j then j + 1 else j)) = q_n (kA K p j)) ∧
    (kK K p ≠ 5 → -9999 ≤ (mxL σ (m + 7) p).toInt ∧ (mxL σ (m + 7) p).toInt ≤ 9999 ∧ 0 < (mxL σ (m + 8) p).toInt ∧ (mxL σ (m + 8) p).toInt ≤ 9999 ∧ (kO K p).1 = (if kK K p = 2 ∨ kK K p = 3 then b_frac ((mxL σ (m + 7) p).toInt * (mxL σ (m + 7) p).toInt) ((mxL σ (m + 8) p).toInt * (mxL σ (m + 8) p).toInt) else b_frac (mxL σ (m + 7) p).toInt (mxL σ (m + 8) p).toInt)) ∧
    (kK K p = 0 ∨ kK K p = 2 ∨ kK K p = 4 → -9999 ≤ (mxL σ (m + 9) p).toInt ∧ (mxL σ (m + 9) p).toInt ≤ 9999 ∧ 0 < (mxL σ (m + 10) p).toInt ∧ (mxL σ (m + 10) p).toInt ≤ 9999 ∧ (kO K p).2 = (if kK K p = 2 then b_frac ((mxL σ (m + 9) p).toInt * (mxL σ (m + 9) p).toInt) ((mxL σ (m + 10) p).toInt * (mxL σ (m + 10) p).toInt) else b_frac (mxL σ (m + 9) p).toInt (mxL σ (m + 10) p).toInt)) ∧
    (kK K p = 1 → (mxI σ (m + 12) p).toInt = (kP K p).1 ∧ -8 ≤ (kP K p).1 ∧ (kP K p).1 ≤ 8 ∧ (kP K p).2.1 < 4 ∧ mxI σ (m + 11) p = q_n (kP K p).2.1 ∧ (kP K p).2.2 < 1024 ∧ mxI σ (m + 13) p = q_n (kP K p).2.2 ∧ (kO K p).2 = b_frac ((kP K p).1 * (mxL σ (m + 7) p).toInt) (mxL σ (m + 8) p).toInt) ∧
    (kK K p = 2 ∨ kK K p = 3 → mxI σ (m + 14) p = q_n (kS K p) ∧ kS K p ≤ 9)
theorem sm_sg : ∀ s : Fin 10, ∀ w : Fin 256, smI (q_n s.1) (q_n w.1) = g_sg s.1 w.1 := by decide +kernel
theorem kT_K (hT : kT K) (hp : p < kN K) : kK K p ≤ 5 := by
  obtain ⟨i, hi, rfl⟩ := hT.2.2.2.2 p hp
  exact (hT.2.2.1 i hi).2.1
/-- one point -/
theorem r_pt (hf : 100 ≤ mpN P) (h : H σ0 m E false fd σ) (hM : LyM σ0 m) (hp : mpb P ≤ m) (hK : RK σ0 m K pl) (hT : kT K) (hpp : p < kN K) (hw : w < 256) :
    Wp (f_X12_placeOf P m (q_n w) (q_n p) σ) (RfQ σ0 m p E ((g_pt K pl w (eR E) p).1 == 3) (fd || (g_pt K pl w (eR E) p).1 == 1) (g_pt K pl w (eR E) p).2) := by
  obtain ⟨-, -, -, hpl, hK⟩ := hK
  obtain ⟨k0, kon, kf, ks, kp, ksg⟩ := hK p hpp
  have h40 : p < 40 := by have := hT.1; omega
  have hk5 := kT_K hT hpp
  have hc : kK K p = 0 ∨ kK K p = 1 ∨ kK K p = 2 ∨ kK K p = 3 ∨ kK K p = 4 ∨ kK K p = 5 := by omega
  rcases hc with c | c | c | c | c | c
  · rw [g_pt_0 c]
    obtain ⟨f1, f2, f3, f4, f5⟩ := kf (by omega)
    obtain ⟨s1, s2, s3, s4, s5⟩ := ks (by omega)
    rw [if_neg (by omega)] at f5 s5
    have e : kO K p = (b_frac (mxL σ0 (m + 7) p).toInt (mxL σ0 (m + 8) p).toInt, b_frac (mxL σ0 (m + 9) p).toInt (mxL σ0 (m + 10) p).toInt) := Prod.ext f5 s5
    dsimp only
    rw [e, show (fd || (0 : Nat) == 1) = fd by cases fd <;> rfl]
    exact r_fix h hM hp h40 (by rw [k0, c]) f1 f2 f3 f4 s1 s2 s3 s4
  · rw [g_pt_1 c]
    obtain ⟨f1, f2, f3, f4, f5⟩ := kf (by omega)
    rw [if_neg (by omega)] at f5
    obtain ⟨p1, p2, p3, p4, p5, p6, p7, -⟩ := kp c
    rw [c] at kon
    obtain ⟨a1, a2, a3⟩ := kon 0 (by decide)
    dsimp only
    rw [f5, show (fd || (0 : Nat) == 1) = fd by cases fd <;> rfl]
    exact r_crank (ja := kA K p 0) h hM hp h40 (by rw [k0, c]) hf a1 a2 (by simpa using a3) f1 f2 f3 f4 p1 p2 p3 p4 p5 (hpl _ p4).2 (hpl _ p4).1 p6 p7
  · rw [g_pt_2 c]
    obtain ⟨f1, f2, f3, f4, f5⟩ := kf (by omega)
    obtain ⟨s1, s2, s3, s4, s5⟩ := ks (by omega)
    rw [if_pos (by omega)] at f5 s5
    rw [c] at kon
    obtain ⟨a1, a2, a3⟩ := kon 0 (by decide)
    obtain ⟨b1, b2, b3⟩ := kon 1 (by decide)
    obtain ⟨g1, g2⟩ := ksg (by omega)
    have es := sm_sg ⟨kS K p, by omega⟩ ⟨w, hw⟩
    dsimp only at es
    rw [f5, s5, ← es, ← g1]
    exact r_dyad (ja := kA K p 0) (jb := kA K p 1) h hM hp h40 (by rw [k0, c]) hf a1 a2 (by simpa using a3) b1 b2 (by simpa using b3) f1 f2 f3 f4 s1 s2 s3 s4
  · rw [g_pt_3 c]
    obtain ⟨f1, f2, f3, f4, f5⟩ := kf (by omega)
    rw [if_pos (by omega)] at f5
    rw [c] at kon
    obtain ⟨a1, a2, a3⟩ := kon 0 (by decide)
    obtain ⟨b1, b2, b3⟩ := kon 1 (by decide)
    obtain ⟨d1, d2, d3⟩ := kon 2 (by decide)
    obtain ⟨g1, g2⟩ := ksg (by omega)
    have es := sm_sg ⟨kS K p, by omega⟩ ⟨w, hw⟩
    dsimp only at es
    rw [f5, ← es, ← g1]
    exact r_slide (ja := kA K p 0) (jd := kA K p 1) (je := kA K p 2) h hM hp h40 (by rw [k0, c]) hf a1 a2 (by simpa using a3) b1 b2 (by simpa using b3) d1 d2 (by simpa using d3) f1 f2 f3 f4
  · rw [g_pt_4 c]
    obtain ⟨f1, f2, f3, f4, f5⟩ := kf (by omega)
    obtain ⟨s1, s2, s3, s4, s5⟩ := ks (by omega)
    rw [if_neg (by omega)] at f5 s5
    rw [c] at kon
    obtain ⟨a1, a2, a3⟩ := kon 0 (by decide)
    obtain ⟨b1, b2, b3⟩ := kon 1 (by decide)
    dsimp only
    rw [f5, s5, show (fd || (0 : Nat) == 1) = fd by cases fd <;> rfl]
    exact r_body (ja := kA K p 0) (jb := kA K p 1) h hM hp h40 (by rw [k0, c]) a1 a2 (by simpa using a3) b1 b2 (by simpa using b3) f1 f2 f3 f4 s1 s2 s3 s4
  · rw [g_pt_5 c]
    rw [c] at kon
    obtain ⟨a1, a2, a3⟩ := kon 0 (by decide)
    obtain ⟨b1, b2, b3⟩ := kon 1 (by decide)
    obtain ⟨d1, d2, d3⟩ := kon 2 (by decide)
    obtain ⟨e1, e2, e3⟩ := kon 3 (by decide)
    dsimp only
    rw [show (fd || (0 : Nat) == 1) = fd by cases fd <;> rfl]
    exact r_cross_ (ja := kA K p 0) (jb := kA K p 1) (jd := kA K p 2) (je := kA K p 3) h hM hp h40 (by rw [k0, c]) a1 a2 (by simpa using a3) b1 b2 (by simpa using b3) d1 d2 (by simpa using d3) e1 e2 (by simpa using e3)
def g_any (K : LK) (pl : Nat → Nat) (w : Nat) (f : Nat → Bool) : Nat → Bool
  | 0 => false
  | k + 1 => g_any K pl w f k || f (s_S K pl w (kQ K k)).1
/-- 0: not, 1: sure, 2: in doubt -/
def g_wy (K : LK) (pl : Nat → Nat) (w : Nat) : Nat := if g_any K pl w (· == 3) (kN K) then 0 else if g_any K pl w (· != 0) (kN K) then 2 else 1
theorem any_t {f : Nat → Bool} : ∀ {n : Nat}, g_any K pl w f n = true ↔ ∃ i, i < n ∧ f (s_S K pl w (kQ K i)).1 = true
  | 0 => by simp [g_any]
  | n + 1 => by
    rw [g_any, Bool.or_eq_true, any_t]
    constructor
    · rintro (⟨i, h1, h2⟩ | h)
      · exact ⟨i, by omega, h2⟩
      · exact ⟨n, by omega, h⟩
    · rintro ⟨i, h1, h2⟩
      by_cases h : i = n
      · subst h; exact Or.inr h2
      · exact Or.inl ⟨i, by omega, h2⟩
theorem any_f {f : Nat → Bool} {n : Nat} : g_any K pl w f n = false ↔ ∀ i, i < n → f (s_S K pl w (kQ K i)).1 = false := by
  constructor
  · intro h i hi
    cases hv : f (s_S K pl w (kQ K i)).1
    · rfl
    · have := any_t.mpr ⟨i, hi, hv⟩
      rw [h] at this; cases this
  · intro h
    cases hv : g_any K pl w f n
    · rfl
    · obtain ⟨i, h1, h2⟩ := any_t.mp hv
      rw [h i h1] at h2; cases h2
theorem H_rb (h : H σ0 m E fn fd σ) : True := trivial
theorem uu_open {β : Type} {Q : β → Prop} {k : Int32 → mx_S → Option β} (h : H σ0 m E fn fd σ) (hM : LyM σ0 m) (ha : p < 40) (hk : Wp (k (bI (v_open (eR E p))) σ) Q) : Wp (mx_b2 (f_X12_isOpen P m (q_n p) σ) k) Q := by
  have hM' := H_M h hM
  have z1 : mr_Z 1 σ = some (1, σ) := if_pos (Or.inr rfl)
  have z0 : mr_Z 0 σ = some (0, σ) := if_pos (Or.inl rfl)
  have n1 : ¬ (1 : Int32) = 0 := by decide
  have e : f_X12_isOpen P m (q_n p) σ = some (bI (v_open (eR E p)), σ) := by
    unfold f_X12_isOpen f_X12_isOpen_D24 f_X12_isOpen_D29
    simp only [q_m2, q_nS, ↓bd (am_r13 hM'), ↓bd (am_g13 hM' (show 2 * p < 320 by omega)), ↓bd (am_g13 hM' (show 2 * p + 1 < 320 by omega)), z0, z1]
    unfold eR v_open
    rcases RR_o (H_B h (show 2 * p < 320 by omega)).1 with ⟨a0, e, -⟩ | ⟨a0, e⟩
    · rw [a0, e, if_pos rfl]
      rcases RR_o (H_B h (show 2 * p + 1 < 320 by omega)).1 with ⟨b0, e, -⟩ | ⟨b0, e⟩
      · rw [b0, e, if_pos rfl]; rfl
      · rw [b0, e, if_neg n1]; rfl
    · rw [a0, e, if_neg n1]; rfl
  rw [e]; exact hk
theorem r_worked (hf : 100 ≤ mpN P) (h : H σ0 m E fn fd σ) (hM : LyM σ0 m) (hp : mpb P ≤ m) (hK : RK σ0 m K pl) (hT : kT K) (hw : w < 256) :
    Wp (f_X12_worked P m (q_n w) σ) (fun r => r.1 = q_n (g_wy K pl w) ∧ ∃ E' fn' fd', H σ0 m E' fn' fd' r.2 ∧ (g_wy K pl w ≠ 0 → ∀ p, p < kN K → v_N (eR E' p) = (s_S K pl w p).2) ∧ ∀ q, 80 ≤ q → q < 160 → E' q = E q) := by
  have hK' := hK
  obtain ⟨k19, k20, kQ', hpl, hK⟩ := hK
  have hn40 := hT.1
  unfold f_X12_worked f_X12_worked_D82 f_X12_worked_D87
  refine uu_s54 (b := false) h hM hp rfl fun σ1 h1 => ?_
  refine uu_s55 (b := false) h1 hM hp rfl fun σ2 h2 => ?_
  obtain ⟨r, er, hr⟩ := q_for (f_X12_worked_L14 P m (q_n w))
    (fun k x => ∃ (a : Bool) (E' : Nat → BV) (fd' : Bool), x.1 = bI a ∧ x.2.1 = q_n k ∧ H σ0 m E' false fd' x.2.2 ∧ (∀ i, i < k → v_N (eR E' (kQ K i)) = (s_S K pl w (kQ K i)).2) ∧ g_any K pl w (· == 3) k = false ∧ (fd' || a) = g_any K pl w (· != 0) k ∧ ∀ q, 80 ≤ q → q < 160 → E' q = E q)
    (fun r => (∃ τ, r = .inl τ ∧ g_any K pl w (· == 3) (kN K) = true ∧ ∃ E' fn' fd', H σ0 m E' fn' fd' τ ∧ ∀ q, 80 ≤ q → q < 160 → E' q = E q) ∨
      (∃ (a : Bool) (τ : mx_S) (E' : Nat → BV) (fd' : Bool), r = .inr (bI a, τ) ∧ H σ0 m E' false fd' τ ∧ (∀ i, i < kN K → v_N (eR E' (kQ K i)) = (s_S K pl w (kQ K i)).2) ∧ g_any K pl w (· == 3) (kN K) = false ∧ (fd' || a) = g_any K pl w (· != 0) (kN K) ∧ ∀ q, 80 ≤ q → q < 160 → E' q = E q)) (kN K)
    (by
      rintro k ⟨x, y, τ⟩ hk ⟨a, E', fd', i1, i2, i3, i4, i5, i6, i7⟩
      dsimp only at i1 i2 i3
      subst i1; subst i2
      obtain ⟨q1, q2, q3⟩ := hT.2.2.1 k hk
      suffices hww : Wp (f_X12_worked_B14 P m (q_n w) (bI a) (q_n k) τ) (fun z => (∃ t', z = .inl t' ∧ ∃ (a : Bool) (E' : Nat → BV) (fd' : Bool), t'.1 = bI a ∧ t'.2.1 = q_n (k + 1) ∧ H σ0 m E' false fd' t'.2.2 ∧ (∀ i, i < k + 1 → v_N (eR E' (kQ K i)) = (s_S K pl w (kQ K i)).2) ∧ g_any K pl w (· == 3) (k + 1) = false ∧ (fd' || a) = g_any K pl w (· != 0) (k + 1) ∧ ∀ q, 80 ≤ q → q < 160 → E' q = E q) ∨ (∃ τ, z = .inr (.inl τ) ∧ g_any K pl w (· == 3) (kN K) = true ∧ ∃ E' fn' fd', H σ0 m E' fn' fd' τ ∧ ∀ q, 80 ≤ q → q < 160 → E' q = E q)) by
        obtain ⟨z, ez, hz⟩ := hww
        rcases hz with ⟨t', rfl, hz⟩ | ⟨τ', rfl, hz⟩
        · exact Or.inl ⟨t', ez, hz⟩
        · exact Or.inr ⟨_, ez, Or.inl ⟨τ', rfl, hz⟩⟩
      unfold f_X12_worked_B14
      refine uu_gI i3 hM (by decide) ?_
      rw [k19, if_neg (by rw [q_nLe (by omega) (by omega)]; omega)]
      refine uu_R i3 (am_r33 hM) (uu_aI i3 (am_g33 hM (by omega)) (by omega) (by omega) ?_)
      rw [kQ' k hk]
      refine uu_is i3 hM (Wp_b (Wp_mo (r_pt hf i3 hM hp hK' hT q1 hw) ?_))
      rintro τ1 ⟨E1, h3, h4, h5⟩
      -- the spec's point
      have hpar : ∀ j, j < g_np (kK K (kQ K k)) → v_N (eR E' (kA K (kQ K k) j)) = (s_S K pl w (kA K (kQ K k) j)).2 := by
        intro j hj
        obtain ⟨i', r1, r2⟩ := q3 j hj
        rw [← r2]; exact i4 i' r1
      obtain ⟨n1, n2⟩ := g_pt_N (pl := pl) (w := w) (V := eR E') (W := fun q => (s_S K pl w q).2) q2 hpar
      have hS := s_fx (pl := pl) (w := w) hT q1
      have hS1 : (s_S K pl w (kQ K k)).1 = g_st (g_pt K pl w (eR E') (kQ K k)).1 (g_pt K pl w (eR E') (kQ K k)).2 := by
        rw [hS]; unfold s_pt; dsimp only; rw [n1, ← g_st_N, ← n2, g_st_N]
      have hS2 : (s_S K pl w (kQ K k)).2 = v_N (g_pt K pl w (eR E') (kQ K k)).2 := by
        rw [hS]; unfold s_pt; dsimp only; rw [n2]
      have hfr : ∀ q, 80 ≤ q → q < 160 → E1 q = E q := fun q c1 c2 => (h5 q c2 (by omega) (by omega)).trans (i7 q c1 c2)
      refine uu_g54 h3 hM ?_
      by_cases h33 : (g_pt K pl w (eR E') (kQ K k)).1 = 3
      · rw [if_neg (by rw [h33]; decide)]
        refine Wp_s (Or.inr ⟨_, rfl, any_t.mpr ⟨k, hk, ?_⟩, _, _, _, h3, hfr⟩)
        rw [hS1]; unfold g_st; rw [if_pos h33]; rfl
      · have b3 : ((g_pt K pl w (eR E') (kQ K k)).1 == 3) = false := beq_eq_false_iff_ne.mpr h33
        rw [b3] at h3 h4 ⊢
        obtain ⟨v1, v2⟩ := h4 rfl
        have hv : eR E1 (kQ K k) = (g_pt K pl w (eR E') (kQ K k)).2 := Prod.ext v1 v2
        rw [if_pos (by rfl)]
        have nxt : ∀ i, i < k + 1 → v_N (eR E1 (kQ K i)) = (s_S K pl w (kQ K i)).2 := by
          intro i hi
          by_cases e : i = k
          · subst e; rw [hv, hS2]
          · have hne : kQ K i ≠ kQ K k := fun z => e (hT.2.2.2.1 i k (by omega) hk z)
            have hlt := (hT.2.2.1 i (by omega)).1
            have : eR E1 (kQ K i) = eR E' (kQ K i) := by
              unfold eR; rw [h5 _ (by omega) (by omega) (by omega), h5 _ (by omega) (by omega) (by omega)]
            rw [this]; exact i4 i (by omega)
        have no3 : g_any K pl w (· == 3) (k + 1) = false := by
          rw [g_any, i5, Bool.false_or, hS1]
          unfold g_st; rw [if_neg h33]
          split
          · rfl
          · exact b3
        have fin : ∀ (a' : Bool) (τ2 : mx_S), H σ0 m E1 false (fd' || (g_pt K pl w (eR E') (kQ K k)).1 == 1) τ2 → (a' = (a || v_open (g_pt K pl w (eR E') (kQ K k)).2)) → ∃ t', (some (.inl (bI a', q_n k + 1, τ2)) : Option ((Int32 × Int32 × mx_S) ⊕ ((mx_S) ⊕ (Int32 × mx_S)))) = some (.inl t') ∧ ∃ (a : Bool) (E' : Nat → BV) (fd' : Bool), t'.1 = bI a ∧ t'.2.1 = q_n (k + 1) ∧ H σ0 m E' false fd' t'.2.2 ∧ (∀ i, i < k + 1 → v_N (eR E' (kQ K i)) = (s_S K pl w (kQ K i)).2) ∧ g_any K pl w (· == 3) (k + 1) = false ∧ (fd' || a) = g_any K pl w (· != 0) (k + 1) ∧ ∀ q, 80 ≤ q → q < 160 → E' q = E q := by
          intro a' τ2 h6 ha'
          refine ⟨_, rfl, a', E1, _, rfl, q_nS k, h6, nxt, no3, ?_, hfr⟩
          rw [g_any, ← i6, hS1, ha']
          have g013 : (g_pt K pl w (eR E') (kQ K k)).1 = 0 ∨ (g_pt K pl w (eR E') (kQ K k)).1 = 1 := by
            have hc : kK K (kQ K k) = 0 ∨ kK K (kQ K k) = 1 ∨ kK K (kQ K k) = 2 ∨ kK K (kQ K k) = 3 ∨ kK K (kQ K k) = 4 ∨ kK K (kQ K k) = 5 := by omega
            rcases hc with c | c | c | c | c | c
            · rw [g_pt_0 c]; exact Or.inl rfl
            · rw [g_pt_1 c]; exact Or.inl rfl
            · rw [g_pt_2 c] at h33 ⊢
              rcases g_j3 (b_sub (kO K (kQ K k)).1 (b_mul (d_e (kO K (kQ K k)).1 (kO K (kQ K k)).2 (eR E' (kA K (kQ K k) 0)) (eR E' (kA K (kQ K k) 1))) (d_t (kO K (kQ K k)).1 (kO K (kQ K k)).2 (eR E' (kA K (kQ K k) 0)) (eR E' (kA K (kQ K k) 1))))) with g | g | g
              · exact Or.inl g
              · exact Or.inr g
              · exact absurd g h33
            · rw [g_pt_3 c] at h33 ⊢
              rcases g_j3 (b_sub (kO K (kQ K k)).1 (b_add (n_sq (v_sub (eR E' (kA K (kQ K k) 1)) (eR E' (kA K (kQ K k) 0)))) (b_mul (s_e (eR E' (kA K (kQ K k) 0)) (eR E' (kA K (kQ K k) 1)) (eR E' (kA K (kQ K k) 2))) (s_t (eR E' (kA K (kQ K k) 0)) (eR E' (kA K (kQ K k) 1)) (eR E' (kA K (kQ K k) 2)))))) with g | g | g
              · exact Or.inl g
              · exact Or.inr g
              · exact absurd g h33
            · rw [g_pt_4 c]; exact Or.inl rfl
            · rw [g_pt_5 c]; exact Or.inl rfl
          unfold g_st
          rw [if_neg h33]
          rcases g013 with g | g <;> rw [g] <;> cases v_open (g_pt K pl w (eR E') (kQ K k)).2 <;> cases fd' <;> cases a <;> rfl
        unfold f_X12_worked_D59_14 f_X12_worked_D64_14
        cases a
        · rw [if_pos (by rfl)]
          refine uu_R h3 (am_r33 hM) (uu_aI h3 (am_g33 hM (by omega)) (by omega) (by omega) ?_)
          rw [kQ' k hk]
          refine uu_is h3 hM (uu_open h3 hM (by omega) ?_)
          rw [hv]
          cases hvo : v_open (g_pt K pl w (eR E') (kQ K k)).2
          · rw [if_pos (by rfl), bds]
            obtain ⟨t', e, hh⟩ := fin false _ h3 (by rw [hvo]; rfl)
            exact Wp_e e (Or.inl ⟨t', rfl, hh⟩)
          · rw [if_neg (by decide), bds]
            obtain ⟨t', e, hh⟩ := fin true _ h3 (by rw [hvo]; rfl)
            exact Wp_e e (Or.inl ⟨t', rfl, hh⟩)
        · rw [if_neg (by decide), bds]
          obtain ⟨t', e, hh⟩ := fin true _ h3 (by simp)
          exact Wp_e e (Or.inl ⟨t', rfl, hh⟩))
    (by
      rintro ⟨x, y, τ⟩ ⟨a, E', fd', i1, i2, i3, i4, i5, i6, i7⟩
      dsimp only at i1 i2 i3
      subst i1; subst i2
      refine ⟨.inr (bI a, τ), ?_, Or.inr ⟨a, τ, E', fd', rfl, i3, i4, i5, i6, i7⟩⟩
      show f_X12_worked_B14 P m (q_n w) (bI a) (q_n (kN K)) τ = _
      unfold f_X12_worked_B14
      rw [am_gI (H_M i3 hM), Option.bind_some, i3.2.2.2.1 m 19 (by omega) (fun _ => by decide), k19, if_pos (by rw [q_nLe (by omega) (by omega)]; omega)])
    (kN K) 0 ((0 : Int32), (0 : Int32), σ2) (mpN P) (by omega) ⟨false, E, false, rfl, rfl, h2, fun i hi => absurd hi (Nat.not_lt_zero i), rfl, rfl, fun _ _ _ => rfl⟩ (by omega)
  rw [bd er]
  rcases hr with ⟨τ, rfl, hr1, E', fn', fd', hr2, hr3⟩ | ⟨a, τ, E', fd', rfl, hr2, hr3, hr4, hr5, hr6⟩
  · refine Wp_s ⟨?_, E', fn', fd', hr2, fun z => ?_, hr3⟩
    · unfold g_wy; rw [hr1]; rfl
    · unfold g_wy at z; rw [hr1] at z; exact absurd rfl z
  · show Wp ((mg_I τ m 12 55).bind _) _
    refine uu_g55 hr2 hM ?_
    have hall : ∀ p, p < kN K → v_N (eR E' p) = (s_S K pl w p).2 := by
      intro p hp
      obtain ⟨i, hi, rfl⟩ := hT.2.2.2.2 p hp
      exact hr3 i hi
    unfold g_wy
    rw [hr4, ← hr5]
    cases fd'
    · rw [if_pos (by rfl)]
      cases a
      · rw [if_pos (by rfl)]; exact Wp_s ⟨rfl, E', _, _, hr2, fun _ => hall, hr6⟩
      · rw [if_neg (show ¬ bI true = 0 by decide)]; exact Wp_s ⟨rfl, E', _, _, hr2, fun _ => hall, hr6⟩
    · rw [if_neg (by decide)]; exact Wp_s ⟨rfl, E', _, _, hr2, fun _ => hall, hr6⟩
end FBA
