/-! ===== mk: frames of all parts; one call of the law ===== -/
section MKS
variable {P : mx_P} {σ τ τ1 τ2 : mx_S} {x : Nat} {T : Nat → Nat → Prop} {ns : List Nat} {L : Nat} {xs : Nat → Int32} {v4 y i : Int32}
/-- the references as they were -/
def rR (σ τ : mx_S) : mx_S := (mxA τ, mxI τ, mxL τ, mxR σ, mxz τ, mxu τ)
theorem Fw.fr (h : Fw x T ns σ τ) : Fr x ns σ (rR σ τ) := ⟨h.1, rfl, h.2.2⟩
theorem RT.fw (h : RT x σ) (f : Fw x T ns σ τ) (hn : 0 ∉ ns) : RT x τ := by
  obtain ⟨bs, h1, h2, h3, h4⟩ := RT.fr h f.fr hn
  exact ⟨bs, h1, h2, h3, h4⟩
theorem RTs.fr (h : RTs x σ) (f : Fr x ns σ τ) (hn : 2 ∉ ns) : RTs x τ := by
  obtain ⟨T, h⟩ := h
  exact ⟨T, h.fr f hn⟩
theorem RTs.fw (h : RTs x σ) (f : Fw x T ns σ τ) (hn : 2 ∉ ns) : RTs x τ := by
  obtain ⟨T, h1, h2⟩ := RTs.fr h f.fr hn
  exact ⟨T, h1, h2⟩
theorem RPl.fw (h : RPl x σ) (f : Fw x T ns σ τ) (hn : 3 ∉ ns) : RPl x τ := RPl_cg h fun q j hq => f.2.2.1 3 q j hq hn
theorem RKd.fw (h : RKd x σ) (f : Fw x T ns σ τ) (hn : 4 ∉ ns) : RKd x τ := RKd_cg h fun q j hq => (f.2.2.1 4 q j hq hn).1
theorem RDe.fw (h : RDe x σ) (f : Fw x T ns σ τ) (hn : 5 ∉ ns) : RDe x τ := RDe_cg h fun q j hq => (f.2.2.1 5 q j hq hn).1
theorem RGs.fw (h : RGs x σ) (f : Fw x T ns σ τ) (hn : 1 ∉ ns) (hT : ∀ q j, T q j → q = x) : RGs x τ := by
  obtain ⟨gs, ms, sh, h0, hC⟩ := h
  refine ⟨gs, ms, sh, h0.cg fun q j hq => (f.2.2.1 1 q j hq hn).1, hC.cg (n32 h0.c) f.1 (fun q j y => f.2.1 q j fun z => by have := hT q j z; omega) fun q j y => f.2.2.1 1 q j ?_ hn⟩
  simp only [cp]
  omega
theorem RCm.fw (h : RCm x σ) (f : Fw x T ns σ τ) (hn : 6 ∉ ns) (hT : ∀ j, j = 8 ∨ j = 9 → ¬ T x j) : RCm x τ := by
  obtain ⟨c, c', n, W, K, L, T', B, r8, r9, h1, h2, h3, h4⟩ := RCm.fr h f.fr hn
  exact ⟨c, c', n, W, K, L, T', B, (f.2.1 x 8 (hT 8 (Or.inl rfl))).trans r8, (f.2.1 x 9 (hT 9 (Or.inr rfl))).trans r9, h1, h2, h3, h4⟩
theorem RLc_rw {l l' : Nat} {K : LK} {mk pl : Nat → Nat} {B : LB} (hT : kT K) (h : RLc x l l' K mk pl B σ) (hA : mxA τ = mxA σ) (hR : mxR τ x 6 = mxR σ x 6 ∧ mxR τ x 7 = mxR σ x 7) (e : ∀ q j, x + 129 ≤ q → q < x + 1481 → mxI τ q j = mxI σ q j) (f : ∀ q j, x + 129 ≤ q → q < x + 1481 → mxL τ q j = mxL σ q j) : RLc x l l' K mk pl B τ := by
  obtain ⟨⟨a1, a2, a3⟩, ⟨M, E, wy, hz⟩, a4, a5, a6⟩ := h
  have hl : x + 129 ≤ l ∧ l + 676 ≤ x + 1481 := by omega
  have hl' : x + 129 ≤ l' ∧ l' + 676 ≤ x + 1481 := by omega
  have hn := hT.1
  refine ⟨⟨hR.1.trans a1, hR.2.trans a2, a3⟩, ⟨M, E, wy, LZ_rg hT hz hA (fun q j _ _ => e q j (by omega) (by omega)) (fun q j _ _ => f q j (by omega) (by omega))⟩, ?_, cB_rg hn a5 (fun p hp => ⟨e _ _ (by omega) (by omega), e _ _ (by omega) (by omega), e _ _ (by omega) (by omega), f _ _ (by omega) (by omega)⟩), SpL_rg a6 hA (fun q j _ _ => e q j (by omega) (by omega)) (fun q j _ _ => f q j (by omega) (by omega))⟩
  rw [e _ _ (by omega) (by omega)]
  rcases a4 with h | ⟨h1, h2⟩
  · exact Or.inl h
  · exact Or.inr ⟨h1, FW_rg h2 (e _ _ (by omega) (by omega)) fun j => ⟨e _ _ (by omega) (by omega), e _ _ (by omega) (by omega)⟩⟩
theorem RL.fw (h : RL x σ) (f : Fw x T ns σ τ) (hn : 7 ∉ ns) (hT : ∀ j, j = 6 ∨ j = 7 → ¬ T x j) : RL x τ := by
  obtain ⟨l, l', K, mk, pl, B, hkT, hB, hc, hr⟩ := h
  obtain ⟨f1, f2, f3, -⟩ := f
  refine ⟨l, l', K, mk, pl, B, hkT, hB, RLc_rw hkT hc f1 ⟨f2 x 6 (hT 6 (Or.inl rfl)), f2 x 7 (hT 7 (Or.inr rfl))⟩ (fun q j c1 c2 => (f3 7 q j (Or.inl ⟨c1, c2⟩) hn).1) (fun q j c1 c2 => (f3 7 q j (Or.inl ⟨c1, c2⟩) hn).2), RLr_rg hkT hr (fun q j c1 c2 => (f3 7 q j (Or.inr (Or.inl ⟨by omega, by omega⟩)) hn).1) (fun q j c1 c2 => (f3 7 q j (Or.inr (Or.inl ⟨by omega, by omega⟩)) hn).2) ?_ ?_⟩
  · exact (f3 7 _ _ (Or.inr (Or.inr ⟨rfl, Or.inl rfl⟩)) hn).1
  · exact (f3 7 _ _ (Or.inr (Or.inr ⟨rfl, Or.inr rfl⟩)) hn).1
/-- what any call leaves -/
def Wk (x : Nat) (σ τ : mx_S) : Prop := mxA τ = mxA σ ∧ (∀ q j, ¬ rfS x q j → mxR τ q j = mxR σ q j) ∧ mxz τ ≤ mxz σ + 1 ∧ mxu τ ≤ mxu σ + 6
theorem Fr.k (h : Fr x ns σ τ) : Wk x σ τ := ⟨h.1, fun q j _ => by rw [h.2.1], h.2.2.2.2.1, h.2.2.2.2.2.1⟩
theorem Fw.k (h : Fw x T ns σ τ) (hT : ∀ q j, T q j → rfS x q j) : Wk x σ τ := ⟨h.1, fun q j z => h.2.1 q j fun y => z (hT q j y), h.2.2.2.2.1, h.2.2.2.2.2.1⟩
theorem Wk.rf : Wk x σ σ := ⟨rfl, fun _ _ _ => rfl, Nat.le_add_right _ _, Nat.le_add_right _ _⟩
theorem mtb_r {γ : Type} (h : mt_x L xs i = some y) (g : Int32 → Option γ) : (mt_x L xs i).bind g = g y := by rw [h]; rfl
/-- the six ints behind a call's number -/
def Ax (L : Nat) (xs : Nat → Int32) (v4 y1 y2 y3 y4 y5 y6 : Int32) : Prop := mt_x L xs (v4 + (1 : Int32)) = some y1 ∧ mt_x L xs (v4 + (2 : Int32)) = some y2 ∧ mt_x L xs (v4 + (3 : Int32)) = some y3 ∧ mt_x L xs (v4 + (4 : Int32)) = some y4 ∧ mt_x L xs (v4 + (5 : Int32)) = some y5 ∧ mt_x L xs (v4 + (6 : Int32)) = some y6
/-- what a call of the law comes to -/
def Cs (x : Nat) (v4 : Int32) (σ : mx_S) (o : Option ((Int32 × mx_S) ⊕ mx_S)) : Prop := ∃ τ, o = some (.inl (v4 + (7 : Int32), τ)) ∧ Wk x σ τ ∧ Iv x τ
theorem Cs_i {c : Prop} {hd : Decidable c} {A B : Option ((Int32 × mx_S) ⊕ mx_S)} (h1 : Cs x v4 σ A) (h2 : Cs x v4 σ B) : Cs x v4 σ (@ite _ c hd A B) := by
  by_cases z : c
  · rw [if_pos z]; exact h1
  · rw [if_neg z]; exact h2
theorem co_32 {γ : Type} {l : Option (Int32 × mx_S)} {f : mx_S → Option (Int32 × mx_S)} {k v : Int32} (D : mx_S → Option γ) (hH : LyH (mxA σ) (mxR σ) x) (h1 : l = some (k, τ1)) (h2 : f τ1 = some (v, τ2)) (h3 : mxI τ2 (x + 1497) 0 = k) (h4 : k = 0 → mxL τ2 (x + 1575) 0 = v.toInt64) (h5 : mxA τ1 = mxA σ) (h6 : mxA τ2 = mxA σ) :
    (mx_b2 l fun k σ1 => (mx_is σ1 (x + 1497) 12).bind fun _ => mx_b2 (f σ1) fun v σ2 => (mx_is σ2 (x + 1497) 12).bind fun _ => mx_b2 (f_X12_thrown P (x + 1497) σ2) fun w σ3 => (if w = k then (if k = 0 then (ma_L σ3 (x + 1575) 1 (0 : Int32)).bind fun u => (if (lg_cmp u (v.toInt64)) = 0 then D σ3 else none) else D σ3) else none)) = D τ2 := by
  have e1 : mxA τ1 (x + 1497) = some (.inl 12) := by rw [h5]; exact (LyH_m hH).1
  have e2 : mxA τ2 (x + 1497) = some (.inl 12) := by rw [h6]; exact (LyH_m hH).1
  have e3 : mxA τ2 (x + 1575) = some (.inr (1, 1)) := by rw [h6]; exact LyH_u hH
  rw [h1, q_b2, q_is e1, Option.bind_some, h2, q_b2, q_is e2, Option.bind_some, k_thrown e2, q_b2, if_pos h3]
  by_cases z : k = 0
  · rw [if_pos z, show ma_L τ2 (x + 1575) 1 (0 : Int32) = some (mxL τ2 (x + 1575) 0) from q_aLn (j := 0) e3 (by decide) (by decide), Option.bind_some, if_pos (q_cmp0.mpr (h4 z))]
  · rw [if_neg z]
theorem co_64 {γ : Type} {l : Option (Int32 × mx_S)} {f : mx_S → Option (Int64 × mx_S)} {k : Int32} {v : Int64} (D : mx_S → Option γ) (hH : LyH (mxA σ) (mxR σ) x) (h1 : l = some (k, τ1)) (h2 : f τ1 = some (v, τ2)) (h3 : mxI τ2 (x + 1497) 0 = k) (h4 : k = 0 → mxL τ2 (x + 1575) 0 = v) (h5 : mxA τ1 = mxA σ) (h6 : mxA τ2 = mxA σ) :
    (mx_b2 l fun k σ1 => (mx_is σ1 (x + 1497) 12).bind fun _ => mx_b2 (f σ1) fun v σ2 => (mx_is σ2 (x + 1497) 12).bind fun _ => mx_b2 (f_X12_thrown P (x + 1497) σ2) fun w σ3 => (if w = k then (if k = 0 then (ma_L σ3 (x + 1575) 1 (0 : Int32)).bind fun u => (if (lg_cmp u v) = 0 then D σ3 else none) else D σ3) else none)) = D τ2 := by
  have e1 : mxA τ1 (x + 1497) = some (.inl 12) := by rw [h5]; exact (LyH_m hH).1
  have e2 : mxA τ2 (x + 1497) = some (.inl 12) := by rw [h6]; exact (LyH_m hH).1
  have e3 : mxA τ2 (x + 1575) = some (.inr (1, 1)) := by rw [h6]; exact LyH_u hH
  rw [h1, q_b2, q_is e1, Option.bind_some, h2, q_b2, q_is e2, Option.bind_some, k_thrown e2, q_b2, if_pos h3]
  by_cases z : k = 0
  · rw [if_pos z, show ma_L τ2 (x + 1575) 1 (0 : Int32) = some (mxL τ2 (x + 1575) 0) from q_aLn (j := 0) e3 (by decide) (by decide), Option.bind_some, if_pos (q_cmp0.mpr (h4 z))]
  · rw [if_neg z]
theorem co_0 {γ : Type} {l : Option (Int32 × mx_S)} {f : mx_S → Option mx_S} {k : Int32} (D : mx_S → Option γ) (hH : LyH (mxA σ) (mxR σ) x) (h1 : l = some (k, τ1)) (h2 : f τ1 = some τ2) (h3 : mxI τ2 (x + 1497) 0 = k) (h5 : mxA τ1 = mxA σ) (h6 : mxA τ2 = mxA σ) :
    (mx_b2 l fun k σ1 => (mx_is σ1 (x + 1497) 12).bind fun _ => (f σ1).bind fun σ2 => (mx_is σ2 (x + 1497) 12).bind fun _ => mx_b2 (f_X12_thrown P (x + 1497) σ2) fun w σ3 => (if w = k then D σ3 else none)) = D τ2 := by
  have e1 : mxA τ1 (x + 1497) = some (.inl 12) := by rw [h5]; exact (LyH_m hH).1
  have e2 : mxA τ2 (x + 1497) = some (.inl 12) := by rw [h6]; exact (LyH_m hH).1
  rw [h1, q_b2, q_is e1, Option.bind_some, h2, Option.bind_some, q_is e2, Option.bind_some, k_thrown e2, q_b2, if_pos h3]
theorem co_c {γ : Type} {l : Option (Int32 × mx_S)} {f : mx_S → Option (Int32 × mx_S)} {v : Int32} (D : mx_S → Option γ) (hH : LyH (mxA σ) (mxR σ) x) (h1 : l = some (v, τ1)) (h2 : f τ1 = some (v, τ2)) (h5 : mxA τ1 = mxA σ) :
    ((mx_is σ x 11).bind fun _ => mx_b2 l fun v σ1 => (mx_is σ1 (x + 1497) 12).bind fun _ => mx_b2 (f σ1) fun w σ2 => (if v = w then D σ2 else none)) = D τ2 := by
  have e1 : mxA τ1 (x + 1497) = some (.inl 12) := by rw [h5]; exact (LyH_m hH).1
  rw [q_is (LyH_o hH), Option.bind_some, h1, q_b2, q_is e1, Option.bind_some, h2, q_b2, if_pos rfl]
end MKS
