/-! ===== gt: the relation of both linkages ===== -/
section GTS
variable {M : BV} {P : mx_P} {σ σ0 τ : mx_S} {x l l' m : Nat} {E : Nat → BV} {K : LK} {pl pl0 pl' mk : Nat → Nat} {wy p : Nat}
theorem CF_rg (hT : kT K) (h : CF σ l K pl mk) (e : ∀ q j, l ≤ q → q < l + 676 → mxI τ q j = mxI σ q j) : CF τ l K pl mk := by
  have hn := hT.1
  obtain ⟨a1, a2, a3, a4, a5⟩ := h
  refine ⟨?_, ?_, fun i hi => ?_, fun i hi => ?_, fun p hp => ?_⟩
  · rw [e _ _ (by omega) (by omega)]; exact a1
  · rw [e _ _ (by omega) (by omega)]; exact a2
  · rw [e _ _ (by omega) (by omega)]; exact a3 i hi
  · rw [e _ _ (by omega) (by omega)]; exact a4 i hi
  · have hp4 : p < 40 := by omega
    obtain ⟨c1, c2, c3, c4, c5, c6, c7, c8⟩ := a5 p hp
    refine ⟨?_, ?_, fun j hjj => ?_, fun hk => ?_, fun hk => ?_, ?_, c7, c8⟩
    · rw [e _ _ (by omega) (by omega)]; exact c1
    · rw [e _ _ (by omega) (by omega)]; exact c2
    · rw [e _ _ (by omega) (by omega)]; exact c3 j hjj
    · rw [e _ _ (by omega) (by omega), e _ _ (by omega) (by omega)]; exact c4 hk
    · rw [e _ _ (by omega) (by omega), e _ _ (by omega) (by omega)]; exact c5 hk
    · rw [e _ _ (by omega) (by omega)]; exact c6
theorem LZ_rg (hT : kT K) (h : LZ M l K pl mk E wy σ) (hA : mxA τ = mxA σ) (e : ∀ q j, l ≤ q → q < l + 676 → mxI τ q j = mxI σ q j) (f : ∀ q j, l ≤ q → q < l + 676 → mxL τ q j = mxL σ q j) : LZ M l K pl mk E wy τ := by
  have hn := hT.1
  obtain ⟨hC, hl, hE, h6, hwy, hF⟩ := h
  refine ⟨CF_rg hT hC e, ⟨rfl, rfl, ⟨rfl, rfl⟩, fun _ _ _ _ => rfl, fun _ _ _ => rfl, fun q hq => ?_⟩, hE, ?_, hwy, fun p hp => ?_⟩
  · have hq' := (bx_A hA).mp hq
    have := hl.2.2.2.2.2 q hq'
    unfold rd at this ⊢
    rw [e _ _ hq'.1 hq'.2.1, f _ _ hq'.1 hq'.2.1, f _ _ hq'.1 hq'.2.1]; exact this
  · rw [e _ _ (by omega) (by omega)]; exact h6
  · obtain ⟨d1, d2⟩ := hF p hp
    rw [e _ _ (by omega) (by omega)]
    refine ⟨d1, fun z => ?_⟩
    obtain ⟨d3, d4⟩ := d2 z
    exact ⟨by rw [e _ _ (by omega) (by omega)]; exact d3, d4⟩
theorem RK_rg (hT : kT K) (h : RK σ m K pl) (e : ∀ q j, m + 2 ≤ q → q ≤ m + 21 → mxI τ q j = mxI σ q j) (f : ∀ q j, m + 2 ≤ q → q ≤ m + 21 → mxL τ q j = mxL σ q j) (h1 : mxI τ m 19 = mxI σ m 19) (h2 : mxI τ m 20 = mxI σ m 20) : RK τ m K pl := by
  obtain ⟨a1, a2, a3, a4, a5⟩ := h
  refine ⟨h1.trans a1, h2.trans a2, fun i hi => ?_, fun i hi => ?_, fun p hpp => ?_⟩
  · rw [e _ _ (by omega) (by omega)]; exact a3 i hi
  · rw [e _ _ (by omega) (by omega)]; exact a4 i hi
  · obtain ⟨c1, c2, c3, c4, c5, c6⟩ := a5 p hpp
    refine ⟨?_, fun j hj => ?_, fun hk => ?_, fun hk => ?_, fun hk => ?_, fun hk => ?_⟩
    · rw [e _ _ (by omega) (by omega)]; exact c1
    · rw [e _ _ (by omega) (by omega)]; exact c2 j hj
    · rw [f _ _ (by omega) (by omega), f _ _ (by omega) (by omega)]; exact c3 hk
    · rw [f _ _ (by omega) (by omega), f _ _ (by omega) (by omega)]; exact c4 hk
    · rw [e _ _ (by omega) (by omega), e _ _ (by omega) (by omega), e _ _ (by omega) (by omega), f _ _ (by omega) (by omega), f _ _ (by omega) (by omega)]; exact c5 hk
    · rw [e _ _ (by omega) (by omega)]; exact c6 hk
theorem HZ_rg (h : HZ m E σ) (e : ∀ q j, m + 2 ≤ q → q ≤ m + 21 → mxI τ q j = mxI σ q j) (f : ∀ q j, m + 2 ≤ q → q ≤ m + 21 → mxL τ q j = mxL σ q j) : HZ m E τ := by
  intro d hd
  have := h d hd
  unfold rr at this ⊢
  rw [e _ _ (by omega) (by omega), f _ _ (by omega) (by omega), f _ _ (by omega) (by omega)]; exact this
def ltr (b : Int32) : Bool := decide ((97 ≤ b.toInt ∧ b.toInt ≤ 122) ∨ (65 ≤ b.toInt ∧ b.toInt ≤ 90))
/-- a name as one number -/
def pk (bs : List Nat) : Nat := bs.foldl (fun a b => a * 256 + b) 0
/-- what a point bears: load, mass, name -/
abbrev LB := Nat → (Int × Int × Int) × List Nat
def LBok (n : Nat) (B : LB) : Prop := ∀ p, p < n → (-1000 ≤ (B p).1.1 ∧ (B p).1.1 ≤ 1000) ∧ (-1000 ≤ (B p).1.2.1 ∧ (B p).1.2.1 ≤ 1000) ∧ (0 ≤ (B p).1.2.2 ∧ (B p).1.2.2 ≤ 1000) ∧ (0 < (B p).2.length ∧ (B p).2.length ≤ 8 ∧ ∀ b, b ∈ (B p).2 → b < 256 ∧ ltr (q_n b) = true)
def cB (σ : mx_S) (l n : Nat) (B : LB) : Prop := ∀ p, p < n → (mxI σ (l + 2 + 16 * p) 17).toInt = (B p).1.1 ∧ (mxI σ (l + 2 + 16 * p) 18).toInt = (B p).1.2.1 ∧ (mxI σ (l + 2 + 16 * p) 19).toInt = (B p).1.2.2 ∧ mxL σ (l + 2 + 16 * p) 0 = l_n (pk (B p).2)
def rB (σ : mx_S) (m n : Nat) (B : LB) : Prop := ∀ p, p < n → (mxI σ (m + 19) p).toInt = (B p).1.1 ∧ (mxI σ (m + 20) p).toInt = (B p).1.2.1 ∧ (mxI σ (m + 21) p).toInt = (B p).1.2.2 ∧ mxI σ (m + 15) p = q_n (B p).2.length ∧ ∀ j b, (B p).2[j]? = some b → mxI σ (m + 16) (8 * p + j) = q_n b
/-- the spare linkage: only its boxes and places are sure -/
def SpL (σ : mx_S) (l : Nat) : Prop := ∃ (E : Nat → BV) (pl : Nat → Nat), (∀ q, bx σ l q → RB (rd σ q) (E q)) ∧ ∀ i, i < 4 → mxI σ (l + 643) i = q_n (pl i) ∧ pl i < 1024 ∧ eM E l i = g_D (pl i)
/-- the class's linkages -/
def RLc (x l l' : Nat) (K : LK) (mk pl : Nat → Nat) (B : LB) (σ : mx_S) : Prop :=
  (mxR σ x 6 = some l ∧ mxR σ x 7 = some l' ∧ ((l = x + 129 ∧ l' = x + 805) ∨ (l = x + 805 ∧ l' = x + 129))) ∧ (∃ M E wy, LZ M l K pl mk E wy σ) ∧ (mxI σ l 10 = 0 ∨ (mxI σ l 10 = 1 ∧ FW σ l (g_wl K pl (2 ^ kB K)))) ∧ cB σ l (kN K) B ∧ SpL σ l'
/-- the reference's -/
def RLr (m : Nat) (K : LK) (pl : Nat → Nat) (B : LB) (σ : mx_S) : Prop := RK σ m K pl ∧ (∃ E, HZ m E σ) ∧ rB σ m (kN K) B
/-- both -/
def RL (x : Nat) (σ : mx_S) : Prop := ∃ l l' K mk pl B, kT K ∧ LBok (kN K) B ∧ RLc x l l' K mk pl B σ ∧ RLr (x + 1497) K pl B σ
theorem SpL_rg (h : SpL σ l) (hA : mxA τ = mxA σ) (e : ∀ q j, l ≤ q → q < l + 676 → mxI τ q j = mxI σ q j) (f : ∀ q j, l ≤ q → q < l + 676 → mxL τ q j = mxL σ q j) : SpL τ l := by
  obtain ⟨E, pl, h1, h2⟩ := h
  refine ⟨E, pl, fun q hq => ?_, fun i hi => ?_⟩
  · have hq' := (bx_A hA).mp hq
    have := h1 q hq'
    unfold rd at this ⊢
    rw [e _ _ hq'.1 hq'.2.1, f _ _ hq'.1 hq'.2.1, f _ _ hq'.1 hq'.2.1]; exact this
  · rw [e _ _ (by omega) (by omega)]; exact h2 i hi
theorem cB_rg {n : Nat} {B : LB} (hn : n ≤ 40) (h : cB σ l n B) (e : ∀ p, p < 40 → mxI τ (l + 2 + 16 * p) 17 = mxI σ (l + 2 + 16 * p) 17 ∧ mxI τ (l + 2 + 16 * p) 18 = mxI σ (l + 2 + 16 * p) 18 ∧ mxI τ (l + 2 + 16 * p) 19 = mxI σ (l + 2 + 16 * p) 19 ∧ mxL τ (l + 2 + 16 * p) 0 = mxL σ (l + 2 + 16 * p) 0) : cB τ l n B := by
  intro p hp
  obtain ⟨e1, e2, e3, e4⟩ := e p (by omega)
  rw [e1, e2, e3, e4]; exact h p hp
theorem FW_rg {ws : List (Nat × Bool)} (h : FW σ l ws) (e1 : mxI τ l 9 = mxI σ l 9) (e2 : ∀ j, mxI τ (l + 657) j = mxI σ (l + 657) j ∧ mxI τ (l + 658) j = mxI σ (l + 658) j) : FW τ l ws := by
  refine ⟨e1.trans h.1, fun j e he => ?_⟩
  rw [(e2 j).1, (e2 j).2]; exact h.2 j e he
theorem RLc_rg {B : LB} (hT : kT K) (h : RLc x l l' K mk pl B σ) (hA : mxA τ = mxA σ) (hR : mxR τ = mxR σ) (e : ∀ q j, x + 129 ≤ q → q < x + 1481 → mxI τ q j = mxI σ q j) (f : ∀ q j, x + 129 ≤ q → q < x + 1481 → mxL τ q j = mxL σ q j) : RLc x l l' K mk pl B τ := by
  obtain ⟨⟨a1, a2, a3⟩, ⟨M, E, wy, hz⟩, a4, a5, a6⟩ := h
  have hl : x + 129 ≤ l ∧ l + 676 ≤ x + 1481 := by omega
  have hl' : x + 129 ≤ l' ∧ l' + 676 ≤ x + 1481 := by omega
  have hn := hT.1
  refine ⟨⟨by rw [hR]; exact a1, by rw [hR]; exact a2, a3⟩, ⟨M, E, wy, LZ_rg hT hz hA (fun q j _ _ => e q j (by omega) (by omega)) (fun q j _ _ => f q j (by omega) (by omega))⟩, ?_, cB_rg hn a5 (fun p hp => ⟨e _ _ (by omega) (by omega), e _ _ (by omega) (by omega), e _ _ (by omega) (by omega), f _ _ (by omega) (by omega)⟩), SpL_rg a6 hA (fun q j _ _ => e q j (by omega) (by omega)) (fun q j _ _ => f q j (by omega) (by omega))⟩
  rw [e _ _ (by omega) (by omega)]
  rcases a4 with h | ⟨h1, h2⟩
  · exact Or.inl h
  · exact Or.inr ⟨h1, FW_rg h2 (e _ _ (by omega) (by omega)) fun j => ⟨e _ _ (by omega) (by omega), e _ _ (by omega) (by omega)⟩⟩
theorem rB_rg {n : Nat} {B : LB} (h : rB σ m n B) (e : ∀ q j, m + 15 ≤ q → q ≤ m + 21 → q ≠ m + 18 → mxI τ q j = mxI σ q j) : rB τ m n B := by
  intro p hp
  obtain ⟨h1, h2, h3, h4, h5⟩ := h p hp
  refine ⟨by rw [e _ _ (by omega) (by omega) (by omega)]; exact h1, by rw [e _ _ (by omega) (by omega) (by omega)]; exact h2, by rw [e _ _ (by omega) (by omega) (by omega)]; exact h3, by rw [e _ _ (by omega) (by omega) (by omega)]; exact h4, fun j b hb => by rw [e _ _ (by omega) (by omega) (by omega)]; exact h5 j b hb⟩
theorem RLr_rg {B : LB} (hT : kT K) (h : RLr m K pl B σ) (e : ∀ q j, m + 2 ≤ q → q ≤ m + 21 → mxI τ q j = mxI σ q j) (f : ∀ q j, m + 2 ≤ q → q ≤ m + 21 → mxL τ q j = mxL σ q j) (h1 : mxI τ m 19 = mxI σ m 19) (h2 : mxI τ m 20 = mxI σ m 20) : RLr m K pl B τ := by
  obtain ⟨a1, ⟨E, a2⟩, a3⟩ := h
  exact ⟨RK_rg hT a1 e f h1 h2, ⟨E, HZ_rg a2 e f⟩, rB_rg a3 fun q j c1 c2 _ => e q j (by omega) c2⟩
/-- a call that leaves the linkage alone -/
theorem RL.fr {ns : List Nat} (h : RL x σ) (f : Fr x ns σ τ) (hn : 7 ∉ ns) : RL x τ := by
  obtain ⟨l, l', K, mk, pl, B, hT, hB, hc, hr⟩ := h
  obtain ⟨f1, f2, f3, -⟩ := f
  refine ⟨l, l', K, mk, pl, B, hT, hB, RLc_rg hT hc f1 f2 (fun q j c1 c2 => (f3 7 q j (Or.inl ⟨c1, c2⟩) hn).1) (fun q j c1 c2 => (f3 7 q j (Or.inl ⟨c1, c2⟩) hn).2), RLr_rg hT hr (fun q j c1 c2 => (f3 7 q j (Or.inr (Or.inl ⟨by omega, by omega⟩)) hn).1) (fun q j c1 c2 => (f3 7 q j (Or.inr (Or.inl ⟨by omega, by omega⟩)) hn).2) ?_ ?_⟩
  · exact (f3 7 _ _ (Or.inr (Or.inr ⟨rfl, Or.inl rfl⟩)) hn).1
  · exact (f3 7 _ _ (Or.inr (Or.inr ⟨rfl, Or.inr rfl⟩)) hn).1
end GTS
