/-! ===== ls: rows of fractions; how they are worked out; the class's cells ===== -/
section LSS
abbrev MT := Nat → Nat → Int × Int
def mu (M : MT) (r k : Nat) (z : Int × Int) : MT := fun i j => if i = r ∧ j = k then z else M i j
def OKz (z : Int × Int) : Prop := 1 ≤ z.2 ∧ gcI z.1 z.2 = 1 ∧ z.1.natAbs ≤ 1000000000000000 ∧ z.2.natAbs ≤ 1000000000000000
def MO (n : Nat) (M : MT) : Prop := ∀ r, r < n → ∀ k, k < 13 → OKz (M r k)
def iv (z : Int × Int) : Int × Int := (if z.1 < 0 then -z.2 else z.2, (z.1.natAbs : Int))
def dvS (r : Nat) (w : Int × Int) (k : Nat) (M : MT) : Option MT := (fmul (some (M r k)) w.1 w.2).map (mu M r k)
def dvL (M : MT) (r : Nat) (w : Int × Int) : Nat → Option MT
  | 0 => some M
  | k + 1 => (dvL M r w k).bind (dvS r w k)
def tkS (j r : Nat) (w : Int × Int) (k : Nat) (M : MT) : Option MT := if (M r k).1 = 0 then some M else (fmul (some w) (M r k).1 (M r k).2).bind fun z => (fadd (some (M j k)) (-z.1) z.2).map (mu M j k)
def tkL (M : MT) (j r : Nat) (w : Int × Int) : Nat → Option MT
  | 0 => some M
  | k + 1 => (tkL M j r w k).bind (tkS j r w k)
def elS (r s j : Nat) (M : MT) : Option MT := if j = r ∨ (M j s).1 = 0 then some M else tkL M j r (M j s) 13
def elL (M : MT) (r s : Nat) : Nat → Option MT
  | 0 => some M
  | j + 1 => (elL M r s j).bind (elS r s j)
def sw (M : MT) (a b : Nat) : MT := fun i => if i = a then M b else if i = b then M a else M i
def fs (M : MT) (s : Nat) : Nat → Nat → Nat
  | 0, j => j
  | f + 1, j => if (M j s).1 = 0 then fs M s f (j + 1) else j
abbrev RS3 := MT × Nat × (Nat → Int32)
def stp (n s : Nat) (t : RS3) : Option RS3 := if fs t.1 s (n - t.2.1) t.2.1 < n then (dvL (sw t.1 t.2.1 (fs t.1 s (n - t.2.1) t.2.1)) t.2.1 (iv (sw t.1 t.2.1 (fs t.1 s (n - t.2.1) t.2.1) t.2.1 s)) 13).bind fun M2 => (elL M2 t.2.1 s n).map fun M3 => (M3, t.2.1 + 1, fun i => if i = s then q_n t.2.1 else t.2.2 i) else some t
def rdu (n : Nat) (M : MT) : Nat → Option RS3
  | 0 => some (M, 0, fun _ => -1)
  | s + 1 => (rdu n M s).bind (stp n s)
variable {P : mx_P} {σ σ0 σ1 τ : mx_S} {g r k n s a j : Nat} {π : Nat → Nat} {M M' : MT} {w z : Int × Int}
theorem OKz_f (h : OKz z) : OKf (some z) := fun y e => by cases e; exact h
theorem OKf_z (h : OKf (some z)) : OKz z := h z rfl
theorem mu_e : mu M r k z r k = z := if_pos ⟨rfl, rfl⟩
theorem mu_n {i l : Nat} (h : ¬ (i = r ∧ l = k)) : mu M r k z i l = M i l := if_neg h
theorem mu_id : mu M r k (M r k) = M := by
  funext i j
  unfold mu
  split
  · rename_i h; rw [h.1, h.2]
  · rfl
theorem mu_O (h : MO n M) (hz : OKz z) : MO n (mu M r k z) := by
  intro i hi l hl
  unfold mu
  split
  · exact hz
  · exact h i hi l hl
theorem oz_0 (h : OKz z) (h0 : z.1 = 0) : z = (0, 1) := by
  obtain ⟨h1, h2, -, -⟩ := h
  obtain ⟨p, q⟩ := z
  dsimp only at *
  subst h0
  unfold gcI at h2
  have : q.natAbs = 1 := by simpa using h2
  have : q = 1 := by omega
  rw [this]
theorem fm_0 {c d : Int} (hd : 1 ≤ d) : fmul (some (0, 1)) c d = some (0, 1) := by
  have g0 : (gcI 0 d : Int) = d := by unfold gcI; rw [Int.natAbs_zero, Nat.gcd_zero_left]; omega
  have e1 : ftx 0 1 c d = 0 := by unfold ftx; rw [Int.zero_ediv, Int.zero_mul]
  have e2 : ftz 0 1 c d = 1 := by
    unfold ftz; rw [gc_1, g0, Int.ediv_self (by omega)]; rfl
  have o1 : fto 0 1 c d := by
    unfold fto; rw [gc_1, g0, Int.ediv_self (by omega), Int.zero_ediv]; simp
  unfold fmul
  rw [Option.bind_some, if_pos (show fto (0, 1).1 (0, 1).2 c d from o1)]
  show some (ftx 0 1 c d, ftz 0 1 c d) = _
  rw [e1, e2]
theorem dv_0 (h : OKz (M r k)) (h0 : (M r k).1 = 0) (hd : 1 ≤ w.2) : dvS r w k M = some M := by
  unfold dvS
  have e := oz_0 h h0
  rw [e, fm_0 hd]
  show some (mu M r k (0, 1)) = _
  rw [← e, mu_id]
theorem iv_O (h : OKz z) (h0 : z.1 ≠ 0) : OKz (iv z) := by
  obtain ⟨h1, h2, h3, h4⟩ := h
  unfold iv
  refine ⟨by show (1 : Int) ≤ (z.1.natAbs : Int); omega, ?_, ?_, ?_⟩
  · show gcI (if z.1 < 0 then -z.2 else z.2) (z.1.natAbs : Int) = 1
    unfold gcI at *
    rw [Nat.gcd_comm] at h2
    split
    · rw [Int.natAbs_neg, Int.natAbs_natCast]; exact h2
    · rw [Int.natAbs_natCast]; exact h2
  · show (if z.1 < 0 then -z.2 else z.2).natAbs ≤ _
    split
    · rw [Int.natAbs_neg]; exact h4
    · exact h4
  · show ((z.1.natAbs : Int)).natAbs ≤ _
    rw [Int.natAbs_natCast]; exact h3
theorem dv_mo {k k' : Nat} (h : k ≤ k') (e : dvL M r w k = none) : dvL M r w k' = none := by
  induction k' with
  | zero => obtain rfl : k = 0 := by omega
            exact e
  | succ m ih =>
    rcases Nat.eq_or_lt_of_le h with h | h
    · rw [← h]; exact e
    · show (dvL M r w m).bind _ = none
      rw [ih (by omega)]; rfl
theorem tk_mo {k k' : Nat} (h : k ≤ k') (e : tkL M j r w k = none) : tkL M j r w k' = none := by
  induction k' with
  | zero => obtain rfl : k = 0 := by omega
            exact e
  | succ m ih =>
    rcases Nat.eq_or_lt_of_le h with h | h
    · rw [← h]; exact e
    · show (tkL M j r w m).bind _ = none
      rw [ih (by omega)]; rfl
theorem el_mo {k k' : Nat} (h : k ≤ k') (e : elL M r s k = none) : elL M r s k' = none := by
  induction k' with
  | zero => obtain rfl : k = 0 := by omega
            exact e
  | succ m ih =>
    rcases Nat.eq_or_lt_of_le h with h | h
    · rw [← h]; exact e
    · show (elL M r s m).bind _ = none
      rw [ih (by omega)]; rfl
theorem rd_mo {k k' : Nat} (h : k ≤ k') (e : rdu n M k = none) : rdu n M k' = none := by
  induction k' with
  | zero => obtain rfl : k = 0 := by omega
            exact e
  | succ m ih =>
    rcases Nat.eq_or_lt_of_le h with h | h
    · rw [← h]; exact e
    · show (rdu n M m).bind _ = none
      rw [ih (by omega)]; rfl
theorem dvS_O (h : MO n M) (hr : r < n) (hk : k < 13) (hw : OKz w) (e : dvS r w k M = some M') : MO n M' := by
  unfold dvS at e
  obtain ⟨z, e1, e2⟩ := Option.map_eq_some_iff.mp e
  subst e2
  exact mu_O h ((OKf_m (OKz_f (h r hr k hk)) hw.1 hw.2.1) z e1)
theorem ng_O {c d : Int} (h : OKz (c, d)) : OKz (-c, d) := by
  obtain ⟨h1, h2, h3, h4⟩ := h
  refine ⟨h1, ?_, ?_, h4⟩
  · show gcI (-c) d = 1
    unfold gcI at *; rw [Int.natAbs_neg]; exact h2
  · show (-c).natAbs ≤ _
    rw [Int.natAbs_neg]; exact h3
theorem tkS_O (h : MO n M) (hr : r < n) (hj : j < n) (hk : k < 13) (hw : OKz w) (e : tkS j r w k M = some M') : MO n M' := by
  unfold tkS at e
  split at e
  · cases e; exact h
  · obtain ⟨z, e1, e2⟩ := Option.bind_eq_some_iff.mp e
    obtain ⟨y, e3, e4⟩ := Option.map_eq_some_iff.mp e2
    subst e4
    have hm := h r hr k hk
    have hz : OKz z := (OKf_m (OKz_f hw) hm.1 hm.2.1) z e1
    exact mu_O h ((OKf_a (OKz_f (h j hj k hk)) hz.1) y e3)
theorem dvL_O (h : MO n M) (hr : r < n) (hw : OKz w) : ∀ k, k ≤ 13 → ∀ M', dvL M r w k = some M' → MO n M'
  | 0, _, M', e => by cases e; exact h
  | k + 1, hk, M', e => by
    obtain ⟨M1, e1, e2⟩ := Option.bind_eq_some_iff.mp e
    exact dvS_O (dvL_O h hr hw k (by omega) M1 e1) hr (by omega) hw e2
theorem tkL_O (h : MO n M) (hr : r < n) (hj : j < n) (hw : OKz w) : ∀ k, k ≤ 13 → ∀ M', tkL M j r w k = some M' → MO n M'
  | 0, _, M', e => by cases e; exact h
  | k + 1, hk, M', e => by
    obtain ⟨M1, e1, e2⟩ := Option.bind_eq_some_iff.mp e
    exact tkS_O (tkL_O h hr hj hw k (by omega) M1 e1) hr hj (by omega) hw e2
theorem elS_O (h : MO n M) (hr : r < n) (hj : j < n) (hs : s < 13) (e : elS r s j M = some M') : MO n M' := by
  unfold elS at e
  split at e
  · cases e; exact h
  · exact tkL_O h hr hj (h j hj s hs) 13 (by omega) M' e
theorem elL_O (h : MO n M) (hr : r < n) (hs : s < 13) : ∀ j, j ≤ n → ∀ M', elL M r s j = some M' → MO n M'
  | 0, _, M', e => by cases e; exact h
  | j + 1, hj, M', e => by
    obtain ⟨M1, e1, e2⟩ := Option.bind_eq_some_iff.mp e
    exact elS_O (elL_O h hr hs j (by omega) M1 e1) hr (by omega) hs e2
theorem sw_O {a b : Nat} (h : MO n M) (ha : a < n) (hb : b < n) : MO n (sw M a b) := by
  intro i hi k hk
  unfold sw
  split
  · exact h b hb k hk
  · split
    · exact h a ha k hk
    · exact h i hi k hk
def FS (M : MT) (s n r j : Nat) : Prop := r ≤ j ∧ j ≤ n ∧ (∀ i, r ≤ i → i < j → (M i s).1 = 0) ∧ (j < n → (M j s).1 ≠ 0)
theorem fs_FS : ∀ f r, r + f = n → FS M s n r (fs M s f r)
  | 0, r, h => ⟨Nat.le_refl _, by show r ≤ n; omega, fun i h1 h2 => absurd h2 (by show ¬ i < r; omega), fun h2 => absurd h2 (by show ¬ r < n; omega)⟩
  | f + 1, r, h => by
    unfold fs
    by_cases y : (M r s).1 = 0
    · rw [if_pos y]
      obtain ⟨h1, h2, h3, h4⟩ := fs_FS f (r + 1) (by omega)
      refine ⟨by omega, h2, fun i hi1 hi2 => ?_, h4⟩
      rcases Nat.eq_or_lt_of_le hi1 with e | e
      · rw [← e]; exact y
      · exact h3 i e hi2
    · rw [if_neg y]
      exact ⟨Nat.le_refl _, by omega, fun i h1 h2 => absurd h2 (by omega), fun _ => y⟩
theorem FS_u {j' : Nat} (h : FS M s n r j) (h' : FS M s n r j') : j = j' := by
  obtain ⟨a1, a2, a3, a4⟩ := h
  obtain ⟨b1, b2, b3, b4⟩ := h'
  rcases Nat.lt_trichotomy j j' with c | c | c
  · exact absurd (b3 j a1 c) (a4 (by omega))
  · exact c
  · exact absurd (a3 j' b1 c) (b4 (by omega))
theorem FS_fs (h : FS M s n r j) : fs M s (n - r) r = j := FS_u (fs_FS (n - r) r (by have := h.1; have := h.2.1; omega)) h
theorem stp_O (h : MO n M) (hr : r ≤ n) (hs : s < 12) {pv : Nat → Int32} {t' : RS3} (e : stp n s (M, r, pv) = some t') : MO n t'.1 ∧ t'.2.1 ≤ n := by
  unfold stp at e
  have f := fs_FS (M := M) (s := s) (n := n) (n - r) r (by omega)
  dsimp only at e
  split at e
  · rename_i y
    obtain ⟨M2, e1, e2⟩ := Option.bind_eq_some_iff.mp e
    obtain ⟨M3, e3, e4⟩ := Option.map_eq_some_iff.mp e2
    subst e4
    have rn : r < n := Nat.lt_of_le_of_lt f.1 y
    have o1 := sw_O h rn y
    have nz : (sw M r (fs M s (n - r) r) r s).1 ≠ 0 := by
      unfold sw; rw [if_pos rfl]; exact f.2.2.2 y
    have o2 := dvL_O o1 rn (iv_O (o1 r rn s (by omega)) nz) 13 (by omega) M2 e1
    exact ⟨elL_O o2 rn (by omega) n (Nat.le_refl _) M3 e3, rn⟩
  · cases e; exact ⟨h, hr⟩
theorem rd_O (h : MO n M) : ∀ s, s ≤ 12 → ∀ t, rdu n M s = some t → MO n t.1 ∧ t.2.1 ≤ n
  | 0, _, t, e => by cases e; exact ⟨h, Nat.zero_le _⟩
  | s + 1, hs, t, e => by
    obtain ⟨t1, e1, e2⟩ := Option.bind_eq_some_iff.mp e
    obtain ⟨h1, h2⟩ := rd_O h s (by omega) t1 e1
    exact stp_O (pv := t1.2.2) h1 h2 (by omega) e2
theorem stp_n {t : RS3} (h : t.2.1 = n) : stp n s t = some t := by
  unfold stp
  rw [h, Nat.sub_self]
  exact if_neg (show ¬ n < n by omega)
theorem rdu_n {t : RS3} (h : t.2.1 = n) (e : rdu n M s = some t) : ∀ i, rdu n M (s + i) = some t
  | 0 => e
  | i + 1 => by
    show (rdu n M (s + i)).bind _ = _
    rw [rdu_n h e i]; exact stp_n h
end LSS
