/-! ===== hv: a joint becomes what a statement tells ===== -/
section HVX
variable {σ : mx_S} {l : Nat} {E : Nat → BV}
theorem bx_bs {t' : Nat} {r : rw3} {V : BV} (h : ∀ q, bx σ l q → RB (rd σ q) (E q)) (hr : RB r V) : ∀ q, bx (bs σ t' r) l q → RB (rd (bs σ t' r) q) (up E t' V q) := by
  intro q hb
  have hb' : bx σ l q := hb
  by_cases e : q = t'
  · subst e; rw [rd_e, up_e]; exact hr
  · rw [rd_n e, up_n e]; exact h q hb'
end HVX
section HVS
variable {P : mx_P} {σ σ0 σ1 σ2 τ : mx_S} {x m n t l p a N i k j u K c np : Nat} {bs : List Nat} {on : Nat → Nat} {E : Nat → BV} {inp pow msk mi bt mark : Int32}
def JS (σ : mx_S) (l c np : Nat) (on : Nat → Nat) (inp pow msk mi bt : Int32) (E : Nat → BV) : Prop := mxI σ c 3 = q_n np ∧ (∀ j, j < np → mxI σ (c + 1) j = q_n (on j)) ∧ mxI σ c 4 = inp ∧ mxI σ c 5 = pow ∧ mxI σ c 8 = msk ∧ mxI σ c 6 = mi ∧ mxI σ c 7 = bt ∧ ∀ q, bx σ l q → RB (rd σ q) (E q)
def jF (c : Nat) : Nat → Nat → Prop := fun q j => (q = c ∧ 3 ≤ j ∧ j ≤ 8) ∨ (c + 1 ≤ q ∧ q ≤ c + 6)
theorem PtI_j {d s j' : Nat} (h : PtI σ t bs d s j') (hc : t + 8 ≤ c) (f : Fz (jF c) σ τ) : PtI τ t bs d s j' := by
  obtain ⟨q1, q2, q3, q4, q5⟩ := h
  have e : ∀ b, b ≤ 6 → mxI τ (t + b) j' = mxI σ (t + b) j' ∧ mxL τ (t + b) j' = mxL σ (t + b) j' := fun b hb => f.2.2.2 _ _ (fun z => by unfold jF at z; omega)
  refine ⟨?_, ?_, fun z => ?_, fun z => ⟨?_, ?_⟩, fun z => ?_⟩
  · rw [(e 2 (by omega)).1]; exact q1
  · rw [(e 3 (by omega)).1]; exact q2
  · rw [(e 4 (by omega)).2]; exact q3 z
  · rw [(e 5 (by omega)).1]; exact (q4 z).1
  · rw [(e 6 (by omega)).1]; exact (q4 z).2
  · rw [(e 5 (by omega)).1]; exact q5 z
theorem tdC_j (h : tdC σ t bs N i K) (hc : t + 8 ≤ c) (f : Fz (jF c) σ τ) : tdC τ t bs N i K :=
  ⟨(f.2.2.2 _ _ (fun z => by unfold jF at z; omega)).1.trans h.1, fun j h1 h2 => by rw [(f.2.2.2 _ _ (fun z => by unfold jF at z; omega)).2]; exact h.2 j h1 h2⟩
/-- a cell of the joint that is no box -/
theorem bx_sI {q' j' : Nat} {v : Int32} (h : ∀ q, bx σ l q → RB (rd σ q) (E q)) (hq : mxA σ q' ≠ some (.inl 0)) : ∀ q, bx (mx_setI σ q' j' v) l q → RB (rd (mx_setI σ q' j' v) q) (E q) := by
  intro q hb
  have hb' : bx σ l q := hb
  have hne : q ≠ q' := fun z => hq (by rw [← z]; exact hb'.2.2)
  have e : rd (mx_setI σ q' j' v) q = rd σ q := by unfold rd; rw [sI_n (fun z => hne z.1)]; rfl
  rw [e]; exact h q hb'
section
variable {bs : List Nat}
theorem bJ_5 (hJ : LyJ (mxA σ) (mxR σ) c) : mxA σ c ≠ some (.inl 0) ∧ mxA σ (c + 1) ≠ some (.inl 0) := by
  rw [LyJ_o hJ, LyJ_a2 hJ]; exact ⟨by simp, by simp⟩
/-- a part P -/
theorem b_P {s v : Nat} (hf : 5000 ≤ mpN P) (hT : LyT σ t) (hJ : LyJ (mxA σ) (mxR σ) c) (hb : mpb P ≤ c) (h256 : ∀ b, b ∈ bs → b < 256) (hTd : tdC σ t bs N 0 K) (hK : K ≤ 450) (hg : ∀ j, j < K → gnm (cnA bs N 0 j)) (hj : j < 6) (hn : mxI σ t 12 = q_n n) (hjn : j < n) (hn6 : n ≤ 6) (hP : PtI σ t bs 80 s j) (hk : kdA bs s = 2) (htl : telA bs N K (nmA bs s) = some v) (hnp : np < 4) (h : JS σ l c np on inp pow msk mi bt E) {fst : Int32} :
    ∃ τ, f_X5_become_B63 P c t mark fst (q_n j) σ = some (.inl (fst, q_n (j + 1), τ)) ∧ JS τ l c (np + 1) (upl on np v) inp pow msk mi bt E ∧ Fz (jF c) σ τ := by
  sorry
end
end HVS
