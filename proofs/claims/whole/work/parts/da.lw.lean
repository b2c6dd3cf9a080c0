/-! ===== lw: the class writes the rows; outcome ===== -/
section LWS
variable {P : mx_P} {σ σ0 σ1 τ : mx_S} {g r k n s a j b x l N : Nat} {π : Nat → Nat} {pv : Nat → Int32} {M M' : MT} {w z : Int × Int} {S : Nat → Nat → Prop} {u v : Int64} {gs : List (Nat × Nat)} {ms : List (Nat × Nat × Bool × Int32)} {sh : Nat → Nat × Int32 × Int32}
def ZRo (M : MT) (r : Nat) (v : Int32) : Prop := ∀ k, k < 12 → q_n k ≠ v → (M r k).1 = 0
def ctr (M : MT) (n : Nat) : Prop := ∃ r, r < n ∧ (M r 12).1 ≠ 0 ∧ ∀ k, k < 12 → (M r k).1 = 0
theorem Zr_m : ZRo M r (-1) ↔ ∀ k, k < 12 → (M r k).1 = 0 := by
  refine ⟨fun h k hk => h k hk fun e => ?_, fun h k hk _ => h k hk⟩
  have : (q_n k).toInt = (-1 : Int32).toInt := by rw [e]
  rw [q_nT (by omega)] at this
  have h1 : (-1 : Int32).toInt = -1 := rfl
  omega
theorem c_oz (hf : 5000 ≤ mpN P) (h : CG σ0 σ g π n pv M) (hn : n ≤ 32) (hr : r < n) (v : Int32) : ∃ c, f_X4_othersAreZero P g (q_n r) v σ = some (c, σ) ∧ ((c = 0 ∧ ¬ ZRo M r v) ∨ (c = 1 ∧ ZRo M r v)) := by
  obtain ⟨ρ, e, y⟩ := q_for (f_X4_othersAreZero_L2 P g (q_n r) v) (fun k t => t = (q_n k, σ) ∧ ∀ i, i < k → q_n i ≠ v → (M r i).1 = 0) (fun ρ => (ρ = .inl σ ∧ ¬ ZRo M r v) ∨ (ρ = .inr σ ∧ ZRo M r v)) 12
    (by
      rintro k t hk ⟨rfl, i2⟩
      show (∃ t', f_X4_othersAreZero_B2 P g (q_n r) v (q_n k) σ = some (.inl t') ∧ _) ∨ ∃ ρ, f_X4_othersAreZero_B2 P g (q_n r) v (q_n k) σ = some (.inr ρ) ∧ _
      have D : (q_n k ≠ v → (M r k).1 = 0) → ∃ t', f_X4_othersAreZero_D28_2 P g (q_n r) v (q_n k) σ = some (.inl t') ∧ t' = (q_n (k + 1), σ) ∧ ∀ i, i < k + 1 → q_n i ≠ v → (M r i).1 = 0 := fun y => by
        unfold f_X4_othersAreZero_D28_2
        rw [Option.bind_some, q_nS]
        refine ⟨_, rfl, rfl, fun i hi => ?_⟩
        rcases Nat.eq_or_lt_of_le (Nat.le_of_lt_succ hi) with e | e
        · rw [e]; exact y
        · exact i2 i e
      unfold f_X4_othersAreZero_B2
      rw [if_neg (by rw [show (12 : Int32) = q_n 12 from rfl]; exact qn_ge hk (by omega))]
      by_cases kv : q_n k = v
      · left
        rw [if_pos kv]
        exact D fun z => absurd kv z
      · rw [if_neg kv, bd (ag_r10 h.2.1), bd (h.tt (by omega)), bd (h.T (by omega) (by omega))]
        by_cases y : (M r k).1 = 0
        · left
          rw [if_pos ((h.t0 hr (by omega)).mpr y)]
          exact D fun _ => y
        · right
          rw [if_neg (fun z => y ((h.t0 hr (by omega)).mp z))]
          exact ⟨_, rfl, Or.inl ⟨rfl, fun z => y (z k hk kv)⟩⟩)
    (by
      rintro t ⟨rfl, i2⟩
      refine ⟨.inr σ, ?_, Or.inr ⟨rfl, i2⟩⟩
      show f_X4_othersAreZero_B2 P g (q_n r) v (q_n 12) σ = _
      unfold f_X4_othersAreZero_B2
      rw [if_pos (by decide)])
    12 0 (q_n 0, σ) (mpN P) rfl ⟨rfl, fun i hi => absurd hi (by omega)⟩ (by omega)
  unfold f_X4_othersAreZero
  rw [show (0 : Int32) = q_n 0 from rfl, bd e]
  rcases y with ⟨rfl, y⟩ | ⟨rfl, y⟩
  · exact ⟨0, rfl, Or.inl ⟨rfl, y⟩⟩
  · exact ⟨1, rfl, Or.inr ⟨rfl, y⟩⟩
theorem c_ctr (hf : 5000 ≤ mpN P) (h : CG σ0 σ g π n pv M) (hn : n ≤ 32) : ∃ c, f_X4_contradicts P g σ = some (c, σ) ∧ ((c = 0 ∧ ¬ ctr M n) ∨ (c = 1 ∧ ctr M n)) := by
  obtain ⟨ρ, e, y⟩ := q_for (f_X4_contradicts_L2 P g) (fun k t => t = (q_n k, σ) ∧ ∀ i, i < k → ¬ ((M i 12).1 ≠ 0 ∧ ∀ k, k < 12 → (M i k).1 = 0)) (fun ρ => (ρ = .inl σ ∧ ctr M n) ∨ (ρ = .inr σ ∧ ¬ ctr M n)) n
    (by
      rintro k t hk ⟨rfl, i2⟩
      show (∃ t', f_X4_contradicts_B2 P g (q_n k) σ = some (.inl t') ∧ _) ∨ ∃ ρ, f_X4_contradicts_B2 P g (q_n k) σ = some (.inr ρ) ∧ _
      have D : (¬ ((M k 12).1 ≠ 0 ∧ ∀ l, l < 12 → (M k l).1 = 0)) → ∃ t', f_X4_contradicts_D35_2 P g (q_n k) σ = some (.inl t') ∧ t' = (q_n (k + 1), σ) ∧ ∀ i, i < k + 1 → ¬ ((M i 12).1 ≠ 0 ∧ ∀ k, k < 12 → (M i k).1 = 0) := fun y => by
        unfold f_X4_contradicts_D35_2
        rw [Option.bind_some, q_nS]
        refine ⟨_, rfl, rfl, fun i hi => ?_⟩
        rcases Nat.eq_or_lt_of_le (Nat.le_of_lt_succ hi) with e | e
        · rw [e]; exact y
        · exact i2 i e
      unfold f_X4_contradicts_B2
      rw [bd (ag_gI h.2.1), h.2.2.2.1, if_neg (qn_ge hk (by omega)), bd (ag_r10 h.2.1), bd (h.tt (by omega)), bd (show ma_L σ (g + 9 + π k) 1 (12 : Int32) = _ from h.T (k := 12) (by omega) (by omega))]
      by_cases y : (M k 12).1 = 0
      · left
        rw [if_pos ((h.t0 hk (by omega)).mpr y)]
        exact D fun z => z.1 y
      · rw [if_neg (fun z => y ((h.t0 hk (by omega)).mp z)), bd h.is]
        obtain ⟨c, e, y2⟩ := c_oz (P := P) hf h hn hk (-1)
        rw [bd2 e]
        rcases y2 with ⟨rfl, y2⟩ | ⟨rfl, y2⟩
        · left
          rw [if_pos rfl]
          exact D fun z => y2 (Zr_m.mpr z.2)
        · right
          rw [if_neg (by decide)]
          exact ⟨_, rfl, Or.inl ⟨rfl, k, hk, y, Zr_m.mp y2⟩⟩)
    (by
      rintro t ⟨rfl, i2⟩
      refine ⟨.inr σ, ?_, Or.inr ⟨rfl, fun ⟨i, hi, z⟩ => i2 i hi z⟩⟩
      show f_X4_contradicts_B2 P g (q_n n) σ = _
      unfold f_X4_contradicts_B2
      rw [bd (ag_gI h.2.1), h.2.2.2.1, if_pos ((q_nLe (by omega) (by omega)).mpr (Nat.le_refl _))])
    n 0 (q_n 0, σ) (mpN P) (by omega) ⟨rfl, fun i hi => absurd hi (by omega)⟩ (by omega)
  unfold f_X4_contradicts
  rw [show (0 : Int32) = q_n 0 from rfl, bd e]
  rcases y with ⟨rfl, y⟩ | ⟨rfl, y⟩
  · exact ⟨1, rfl, Or.inr ⟨rfl, y⟩⟩
  · exact ⟨0, rfl, Or.inl ⟨rfl, y⟩⟩
/-- the rows as they are told -/
def gz (gs : List (Nat × Nat)) (i : Nat) : Nat × Nat := gs.getD i (0, 0)
def gsg (b : Bool) (z : Nat) : Int := if b then -(z : Int) else z
def inc (R : Nat → Int × Int) (k : Nat) (d : Int) : Nat → Int × Int := fun i => if i = k then ((R i).1 + d, (R i).2) else R i
def rE : Nat → Int × Int := fun _ => (0, 1)
def rowM (gs : List (Nat × Nat)) (e : Nat × Nat × Bool × Int32) : Nat → Int × Int :=
  if e.2.2.2 < 0 then inc (inc rE (gz gs e.1).2 (gz gs e.1).1) (gz gs e.2.1).2 (gsg e.2.2.1 (gz gs e.2.1).1)
  else inc (inc (inc rE (gz gs e.1).2 (gz gs e.1).1) (gz gs e.2.1).2 (gsg e.2.2.1 (gz gs e.2.1).1)) e.2.2.2.toInt.toNat (-((gz gs e.1).1 + gsg e.2.2.1 (gz gs e.2.1).1))
def rowS (s : Nat) (h : Nat × Int32 × Int32) : Nat → Int × Int := fun i => if i = 12 then (if h.1 = 2 then (h.2.1.toInt / (gcI h.2.1.toInt h.2.2.toInt : Int), h.2.2.toInt / (gcI h.2.1.toInt h.2.2.toInt : Int)) else (0, 1)) else if i = s then (1, 1) else (0, 1)
def rU (M : MT) (n : Nat) (R : Nat → Int × Int) : MT := fun i => if i = n then R else M i
def meM (gs : List (Nat × Nat)) (ms : List (Nat × Nat × Bool × Int32)) : Nat → MT
  | 0 => fun _ => rE
  | m + 1 => rU (meM gs ms m) m (rowM gs (ms.getD m (0, 0, false, 0)))
def shM (M : MT) (n : Nat) (sh : Nat → Nat × Int32 × Int32) : Nat → MT × Nat
  | 0 => (M, n)
  | s + 1 => if (sh s).1 = 0 then shM M n sh s else (rU (shM M n sh s).1 (shM M n sh s).2 (rowS s (sh s)), (shM M n sh s).2 + 1)
def mkM (gs : List (Nat × Nat)) (ms : List (Nat × Nat × Bool × Int32)) (sh : Nat → Nat × Int32 × Int32) (s : Nat) : MT × Nat := shM (meM gs ms ms.length) ms.length sh s
theorem mk_le : ∀ s, (mkM gs ms sh s).2 ≤ ms.length + s
  | 0 => Nat.le_refl _
  | s + 1 => by
    have h := mk_le s
    show (if (sh s).1 = 0 then mkM gs ms sh s else (rU (mkM gs ms sh s).1 (mkM gs ms sh s).2 (rowS s (sh s)), (mkM gs ms sh s).2 + 1)).2 ≤ _
    split
    · omega
    · show (mkM gs ms sh s).2 + 1 ≤ _
      omega
end LWS
