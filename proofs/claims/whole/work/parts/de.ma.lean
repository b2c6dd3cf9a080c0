/-! ===== ma: the class's outcome and what is known ===== -/
section MAS
variable {P : mx_P} {σ σ0 σ1 τ : mx_S} {g r k n s a j b x l N m : Nat} {π : Nat → Nat} {pv : Nat → Int32} {M M' : MT} {R R' : Nat → Int × Int} {w z : Int × Int} {S : Nat → Nat → Prop} {u v : Int64} {gs : List (Nat × Nat)} {ms : List (Nat × Nat × Bool × Int32)} {sh : Nat → Nat × Int32 × Int32}
def rdA (gs : List (Nat × Nat)) (ms : List (Nat × Nat × Bool × Int32)) (sh : Nat → Nat × Int32 × Int32) : Option RS3 := rdu (mkM gs ms sh 12).2 (mkM gs ms sh 12).1 12
def OC (gs : List (Nat × Nat)) (ms : List (Nat × Nat × Bool × Int32)) (sh : Nat → Nat × Int32 × Int32) (v : Int32) : Prop := (rdA gs ms sh = none ∧ v = 3) ∨ ∃ T, rdA gs ms sh = some T ∧ ((ctr T.1 (mkM gs ms sh 12).2 ∧ v = 2) ∨ (¬ ctr T.1 (mkM gs ms sh 12).2 ∧ v = 1))
theorem OC_u {v v' : Int32} (h : OC gs ms sh v) (h' : OC gs ms sh v') : v = v' := by
  rcases h with ⟨a, rfl⟩ | ⟨T, a, b⟩
  · rcases h' with ⟨-, rfl⟩ | ⟨T, c, -⟩
    · rfl
    · rw [a] at c; cases c
  · rcases h' with ⟨c, -⟩ | ⟨T', c, d⟩
    · rw [a] at c; cases c
    · rw [a] at c
      cases c
      rcases b with ⟨b, rfl⟩ | ⟨b, rfl⟩ <;> rcases d with ⟨d, rfl⟩ | ⟨d, rfl⟩
      · rfl
      · exact absurd b d
      · exact absurd d b
      · rfl
def GC (σ : mx_S) (g : Nat) (gs : List (Nat × Nat)) (ms : List (Nat × Nat × Bool × Int32)) (sh : Nat → Nat × Int32 × Int32) : Prop :=
  (∃ π, Pm σ g π) ∧ (mxI σ g 14 = 0 ∨ (mxI σ g 14 = 3 ∧ rdA gs ms sh = none) ∨ ∃ T π, rdA gs ms sh = some T ∧ CG σ σ g π (mkM gs ms sh 12).2 T.2.2 T.1 ∧ ((ctr T.1 (mkM gs ms sh 12).2 ∧ mxI σ g 14 = 2) ∨ (¬ ctr T.1 (mkM gs ms sh 12).2 ∧ mxI σ g 14 = 1)))
theorem meM_O (hR : RGc σ g gs ms sh) : ∀ m, m ≤ ms.length → ∀ r, r < m → ∀ k, k < 13 → OKz (meM gs ms m r k)
  | 0, _, r, hr, k, hk => absurd hr (by omega)
  | m + 1, hm, r, hr, k, hk => by
    show OKz (rU (meM gs ms m) m _ r k)
    by_cases y : r = m
    · subst y
      rw [rU_e]
      obtain ⟨-, b5, b6, -⟩ := hR.2.1.2.2 r (by omega)
      exact rowM_O (hR.1.2 _ b5).2.2.1 (hR.1.2 _ b6).2.2.1 k
    · rw [rU_n y]
      exact meM_O hR m (by omega) r (by omega) k hk
theorem mk_O (hR : RGc σ g gs ms sh) : ∀ s, s ≤ 12 → MO (mkM gs ms sh s).2 (mkM gs ms sh s).1
  | 0, _ => fun r hr k hk => meM_O hR ms.length (Nat.le_refl _) r hr k hk
  | s + 1, hs => by
    have ih := mk_O hR s (by omega)
    obtain ⟨-, -, c3⟩ := hR.2.2 s (by omega)
    by_cases h0 : (sh s).1 = 0
    · rw [mk_s1 h0]; exact ih
    · rw [mk_s2 h0]
      intro r hr k hk
      show OKz (rU (mkM gs ms sh s).1 (mkM gs ms sh s).2 (rowS s (sh s)) r k)
      have hr' : r < (mkM gs ms sh s).2 + 1 := hr
      by_cases y : r = (mkM gs ms sh s).2
      · subst y
        rw [rU_e]
        exact rowS_O (fun z => (c3 z).2.2) k
      · rw [rU_n y]
        exact ih r (by omega) k hk
theorem CG.self (h : CG σ0 σ g π n pv M) : CG σ σ g π n pv M := ⟨FG.rf, h.2⟩
theorem CG.s14 (h : CG σ0 σ g π n pv M) (v : Int32) : CG σ0 (mx_setI σ g 14 v) g π n pv M := by
  obtain ⟨h1, hG, hP, h4, h5, hM⟩ := h
  have F : Fz (fun q j => q = g ∧ j = 14) σ (mx_setI σ g 14 v) := Fz.sI (S := fun q j => q = g ∧ j = 14) Fz.rf ⟨rfl, rfl⟩ _
  exact ⟨h1.tr (F.G fun q j y => by unfold SG; omega), hG, hP, (sI_n (by omega)).trans h4, fun s hs => (sI_n (by omega)).trans (h5 s hs), hM⟩
theorem n32 (hR : RGc σ g gs ms sh) : (mkM gs ms sh 12).2 ≤ 32 := by
  have := mk_le (gs := gs) (ms := ms) (sh := sh) 12
  have := hR.2.1.2.1
  omega
theorem c_oc (hf : 5000 ≤ mpN P) (hb : mpb P ≤ g) (hG : LyG (mxA σ) (mxR σ) g) (hR : RGc σ g gs ms sh) (hC : GC σ g gs ms sh) : ∃ v τ, f_X4_outcome P g σ = some (v, τ) ∧ OC gs ms sh v ∧ FG g σ τ ∧ GC τ g gs ms sh ∧ mxI τ g 14 = v := by
  have hC' := hC
  obtain ⟨⟨π, hP⟩, hc⟩ := hC'
  have D42 : ∀ τ, LyG (mxA τ) (mxR τ) g → f_X4_outcome_D42 P g τ = some (mxI τ g 14, τ) := fun τ y => by
    unfold f_X4_outcome_D42
    rw [bd (ag_gI y)]
  by_cases h0 : mxI σ g 14 = 0
  · obtain ⟨s1, pv, e1, C1⟩ := c_wrs (P := P) hf hb FG.rf hG hP hR
    have hO := mk_O hR 12 (Nat.le_refl _)
    obtain ⟨c, s2, e2, y⟩ := c_rdu (P := P) hf hb C1 hO (n32 hR)
    have hpre : f_X4_outcome P g σ = (if c = 0 then (mp_I P s2 g 4 14 (3 : Int32)).bind fun σ24 => f_X4_outcome_D42 P g σ24 else (mx_is s2 g 4).bind fun i16 => mx_b2 (f_X4_contradicts P g s2) fun x19 σ18 => (if x19 = 0 then f_X4_outcome_D39 P g (1 : Int32) g σ18 else f_X4_outcome_D39 P g (2 : Int32) g σ18)) := by
      unfold f_X4_outcome
      rw [bd (ag_gI hG), if_pos h0, bd (ag_is hG), bd e1, bd C1.is, bd2 e2]
    rw [hpre]
    rcases y with ⟨rfl, y1, y2, y3, π', y4⟩ | ⟨rfl, T, π', y1, C2⟩
    · rw [if_pos rfl, bd (ag_pI y3 hb _), D42 (mx_setI s2 g 14 3) y3]
      have F : Fz (fun q j => q = g ∧ j = 14) s2 (mx_setI s2 g 14 3) := Fz.sI (S := fun q j => q = g ∧ j = 14) Fz.rf ⟨rfl, rfl⟩ _
      refine ⟨_, _, rfl, Or.inl ⟨y1, sI_e⟩, y2.tr (F.G fun q j y => by unfold SG; omega), ⟨⟨π', F.pm y4⟩, Or.inr (Or.inl ⟨sI_e, y1⟩)⟩, rfl⟩
    · rw [if_neg (by decide), bd C2.is]
      obtain ⟨c, e3, y⟩ := c_ctr (P := P) hf C2 (n32 hR)
      rw [bd2 e3]
      rcases y with ⟨rfl, y⟩ | ⟨rfl, y⟩
      · rw [if_pos rfl]
        unfold f_X4_outcome_D39
        rw [bd (ag_pI C2.2.1 hb _), D42 (mx_setI s2 g 14 1) C2.2.1]
        have C3 := C2.s14 1
        exact ⟨_, _, rfl, Or.inr ⟨T, y1, Or.inr ⟨y, sI_e⟩⟩, C3.1, ⟨⟨π', C3.2.2.1⟩, Or.inr (Or.inr ⟨T, π', y1, C3.self, Or.inr ⟨y, sI_e⟩⟩)⟩, rfl⟩
      · rw [if_neg (by decide)]
        unfold f_X4_outcome_D39
        rw [bd (ag_pI C2.2.1 hb _), D42 (mx_setI s2 g 14 2) C2.2.1]
        have C3 := C2.s14 2
        exact ⟨_, _, rfl, Or.inr ⟨T, y1, Or.inl ⟨y, sI_e⟩⟩, C3.1, ⟨⟨π', C3.2.2.1⟩, Or.inr (Or.inr ⟨T, π', y1, C3.self, Or.inl ⟨y, sI_e⟩⟩)⟩, rfl⟩
  · refine ⟨mxI σ g 14, σ, ?_, ?_, FG.rf, hC, rfl⟩
    · unfold f_X4_outcome
      rw [bd (ag_gI hG), if_neg h0, D42 _ hG]
    · rcases hc with h | ⟨h1, h2⟩ | ⟨T, π', h1, -, h2⟩
      · exact absurd h h0
      · exact Or.inl ⟨h2, h1⟩
      · exact Or.inr ⟨T, h1, h2⟩
/-- what turns says of shaft s, from the worked rows -/
def knw (T : RS3) (s : Nat) : Prop := ∃ r, T.2.2 s = q_n r ∧ r < 32 ∧ ∀ k, k < 12 → k ≠ s → (T.1 r k).1 = 0
theorem pv_r : ∀ s, s ≤ 12 → ∀ T, rdu n M s = some T → T.2.1 ≤ n → ∀ i, T.2.2 i = -1 ∨ ∃ r, r < T.2.1 ∧ T.2.2 i = q_n r
  | 0, _, T, e, _, i => by cases e; exact Or.inl rfl
  | s + 1, hs, T, e, hT, i => by
    obtain ⟨T1, e1, e2⟩ := Option.bind_eq_some_iff.mp e
    unfold stp at e2
    split at e2
    · rename_i y
      obtain ⟨M2, e3, e4⟩ := Option.bind_eq_some_iff.mp e2
      obtain ⟨M3, e5, e6⟩ := Option.map_eq_some_iff.mp e4
      subst e6
      have hT' : T1.2.1 + 1 ≤ n := hT
      show (if i = s then q_n T1.2.1 else T1.2.2 i) = -1 ∨ ∃ r, r < T1.2.1 + 1 ∧ (if i = s then q_n T1.2.1 else T1.2.2 i) = q_n r
      split
      · exact Or.inr ⟨_, by omega, rfl⟩
      · rcases pv_r s (by omega) T1 e1 (by omega) i with h | ⟨r, h1, h2⟩
        · exact Or.inl h
        · exact Or.inr ⟨r, by omega, h2⟩
    · have e3 := Option.some.inj e2
      rw [← e3] at hT ⊢
      exact pv_r s (by omega) T1 e1 hT i
theorem q_nn {r : Nat} (h : r < 32) : ¬ q_n r < 0 := fun z => by rw [q_n0, q_nLt (by omega) (by omega)] at z; omega
theorem c_kn (hf : 5000 ≤ mpN P) {T : RS3} (h : CG σ0 σ g π n T.2.2 T.1) (hO : MO n T.1) (hn : n ≤ 32) (hs : s < 12) (hpv : T.2.2 s = -1 ∨ ∃ r, r < n ∧ T.2.2 s = q_n r) (hA : mxA σ a = some (.inl 3)) (hb : mpb P ≤ a) (ha : a < g ∨ g + 75 ≤ a) : ∃ c τ, f_X4_isKnown P g (q_n s) a σ = some (c, τ) ∧ Fz (fun q j => q = a ∧ j ≤ 2) σ τ ∧ ((c = 0 ∧ τ = σ ∧ (T.2.2 s = -1 ∨ ∃ r, r < n ∧ T.2.2 s = q_n r ∧ ¬ ∀ k, k < 12 → k ≠ s → (T.1 r k).1 = 0)) ∨ (c = 1 ∧ ∃ r, r < n ∧ T.2.2 s = q_n r ∧ (∀ k, k < 12 → k ≠ s → (T.1 r k).1 = 0) ∧ FOc τ a (some (T.1 r 12)))) := by
  have h5 := h.2.2.2.2.1 s hs
  unfold f_X4_isKnown
  rw [bd (ag_r12 h.2.1), bd (ag_g12 h.2.1 hs), h5]
  rcases hpv with y | ⟨r, hr, y⟩
  · rw [y, if_pos (by decide)]
    exact ⟨0, σ, rfl, Fz.rf, Or.inl ⟨rfl, rfl, Or.inl rfl⟩⟩
  · rw [y, if_neg (q_nn (by omega)), bd h.is]
    obtain ⟨c, e, z⟩ := c_oz (P := P) hf h hn hr (q_n s)
    have zz : ZRo T.1 r (q_n s) ↔ ∀ k, k < 12 → k ≠ s → (T.1 r k).1 = 0 := ⟨fun w k hk hks => w k hk fun q => hks ((q_nI (by omega) (by omega)).mp q), fun w k hk hks => w k hk fun q => hks (by rw [q])⟩
    rw [bd2 e]
    rcases z with ⟨rfl, z⟩ | ⟨rfl, z⟩
    · rw [if_pos rfl]
      exact ⟨0, σ, rfl, Fz.rf, Or.inl ⟨rfl, rfl, Or.inr ⟨r, hr, rfl, fun w => z (zz.mpr w)⟩⟩⟩
    · rw [if_neg (by decide), bd h.is]
      obtain ⟨τ, e2, f, F⟩ := c_rdc (P := P) (k := 12) h.2.1 h.2.2.1 h.2.2.2.2.2 hO hn hr (by omega) hA hb ha
      rw [bd (show f_X4_readCell P g a (q_n r) (12 : Int32) σ = some τ from e2)]
      exact ⟨1, τ, rfl, F, Or.inr ⟨rfl, r, hr, rfl, zz.mp z, f⟩⟩
end MAS
