/-! ===== ia: the linkage that a text tells ===== -/
section IAS
variable {P : mx_P} {σ σ0 σ1 σ2 τ : mx_S} {x m n t l p a N i k j u K c np fm r mk : Nat} {bl : List Nat} {on : Nat → Nat} {E : Nat → BV}
def tkT (bl : List Nat) (N u j : Nat) : Nat := tkI bl N (psI bl N (sqA bl N 0 u) 1) j
def fmT (bl : List Nat) (N u : Nat) : Nat := fmA (gst 0) ((wfm bl 0 (tkI bl N (sqA bl N 0 u) 0)).getD 0)
def teT (bl : List Nat) (N K s : Nat) : Nat := (telA bl N K (nmA bl s)).getD 0
def whT (bl : List Nat) (s : Nat) : Int := (tpA bl s).tdiv (nmB bl (nmD bl s))
def nuT (bl : List Nat) (fm s : Nat) : BV := fxV fm (tpA bl s) (nmB bl (nmD bl s))
def pIx (fm j : Nat) : Nat := if fm = 3 ∧ 0 < j then j + 2 else j + 1
def oT (bl : List Nat) (N u : Nat) : BV × BV :=
  if fmT bl N u = 0 then (nuT bl 0 (tkT bl N u 1), nuT bl 0 (tkT bl N u 2))
  else if fmT bl N u = 1 then (nuT bl 1 (tkT bl N u 2), b_frac (whT bl (tkT bl N u 4) * tpA bl (tkT bl N u 2)) (nmB bl (nmD bl (tkT bl N u 2))))
  else if fmT bl N u = 2 then (nuT bl 2 (tkT bl N u 3), nuT bl 2 (tkT bl N u 4))
  else if fmT bl N u = 3 then (nuT bl 3 (tkT bl N u 2), none)
  else if fmT bl N u = 4 then (nuT bl 4 (tkT bl N u 3), nuT bl 4 (tkT bl N u 4))
  else (none, none)
def pT (bl : List Nat) (N u : Nat) : Int × Nat × Nat := (whT bl (tkT bl N u 4), (whT bl (tkT bl N u 3)).toNat, (whT bl (tkT bl N u 5)).toNat)
def isQ (bl : List Nat) (N u : Nat) : Bool := decide ((fmT bl N u = 2 ∨ fmT bl N u = 3) ∧ kdA bl (tkT bl N u 5) = 63)
def mkT (bl : List Nat) (N : Nat) : Nat → Nat
  | 0 => 0
  | u + 1 => if isQ bl N u then mkT bl N u + 1 else mkT bl N u
def sT (bl : List Nat) (N u : Nat) : Nat := if kdA bl (tkT bl N u 5) = 63 then 2 + mkT bl N u else if kdA bl (tkT bl N u 5) = 45 then 1 else 0
def LKt (bl : List Nat) (N K : Nat) (q : Nat → Nat) : LK := (K, mkT bl N K, fmT bl N, fun u j => teT bl N K (tkT bl N u (pIx (fmT bl N u) j)), oT bl N, pT bl N, sT bl N, q)
/-- a joint's own mask -/
def msO (bl : List Nat) (N u : Nat) : Nat := if fmT bl N u = 1 then 2 ^ (8 + (pT bl N u).2.1) else if isQ bl N u then 2 ^ mkT bl N u else 0
/-- the class's joint, as it became -/
def CJ (σ : mx_S) (E : Nat → BV) (bl : List Nat) (l N K u : Nat) : Prop :=
  (mxI σ (l + 2 + 16 * u) 1 = q_n (fmT bl N u) ∧ fmT bl N u < 6 ∧ mxI σ (l + 2 + 16 * u) 3 = q_n (g_np (fmT bl N u)) ∧ (∀ j, j < g_np (fmT bl N u) → mxI σ (l + 2 + 16 * u + 1) j = q_n (teT bl N K (tkT bl N u (pIx (fmT bl N u) j))) ∧ telA bl N K (nmA bl (tkT bl N u (pIx (fmT bl N u) j))) = some (teT bl N K (tkT bl N u (pIx (fmT bl N u) j))))) ∧
  (fmT bl N u = 1 → mxI σ (l + 2 + 16 * u) 4 = q_n (pT bl N u).2.1 ∧ (mxI σ (l + 2 + 16 * u) 5).toInt = (pT bl N u).1 ∧ (pT bl N u).2.1 < 4 ∧ -8 ≤ (pT bl N u).1 ∧ (pT bl N u).1 ≤ 8 ∧ (pT bl N u).2.2 < 1024) ∧
  (fmT bl N u = 2 ∨ fmT bl N u = 3 → mxI σ (l + 2 + 16 * u) 6 = (if kdA bl (tkT bl N u 5) = 45 then 1 else 0) ∧ mxI σ (l + 2 + 16 * u) 7 = (if kdA bl (tkT bl N u 5) = 63 then q_n (mkT bl N u) else -1)) ∧
  mxI σ (l + 2 + 16 * u) 8 = q_n (msO bl N u) ∧
  (mxL σ (l + 2 + 16 * u) 0 = l_n (pk (cnA bl N 0 u)) ∧ mxI σ (l + 2 + 16 * u) 16 = 0 ∧ mxI σ (l + 2 + 16 * u) 17 = 0 ∧ mxI σ (l + 2 + 16 * u) 18 = 0 ∧ mxI σ (l + 2 + 16 * u) 19 = 0) ∧
  (fmT bl N u ≠ 5 → E (l + 2 + 16 * u + 2) = (oT bl N u).1) ∧ (fmT bl N u ≠ 3 → fmT bl N u ≠ 5 → E (l + 2 + 16 * u + 3) = (oT bl N u).2) ∧ (fmT bl N u = 1 → (E (l + 2 + 16 * u + 4 + 1), E (l + 2 + 16 * u + 4 + 2)) = g_D (pT bl N u).2.2)
/-- nothing is wrong with a statement's parts -/
def okT (bl : List Nat) (N K u k n : Nat) : Prop := ∀ j, j < n → by' (gst 0) (k + 1 + j) ≠ 67 → (by' (gst 0) (k + 1 + j) = 80 → (telA bl N K (nmA bl (tkT bl N u j))).isSome = true) ∧ (by' (gst 0) (k + 1 + j) ≠ 80 → by' (gst 0) (k + 1 + j) ≠ 83 → rgL (by' (gst 0) (k + 1 + j)) (tpA bl (tkT bl N u j)) (nmB bl (nmD bl (tkT bl N u j))) = true)
theorem te_some {s : Nat} (h : (telA bl N K (nmA bl s)).isSome = true) : telA bl N K (nmA bl s) = some (teT bl N K s) := by
  unfold teT
  cases e : telA bl N K (nmA bl s) with
  | none => rw [e] at h; cases h
  | some v => rfl
theorem wh_of {s : Nat} {lo hi : Int} (h3 : kdA bl s = 3) (h : whB (tpA bl s) (nmB bl (nmD bl s)) lo hi = true) : lo ≤ whT bl s ∧ whT bl s ≤ hi := by
  have h1 := of_decide_eq_true h
  unfold whT
  rw [tdv_eq (nmB_p h3) h1.1]
  exact h1.2
theorem q_1m : ∀ b : Fin 8, ((1 : Int32) <<< (q_n b.1 &&& 31)) = q_n (2 ^ b.1) := by decide +kernel
/-- everything but the loop's own frame -/
theorem CJ_pre {k n : Nat} (h : StO bl N 0 (sqA bl N 0 u) k n) : fmT bl N u = fmA (gst 0) k ∧ nLt 0 k = n ∧ (k = 3 ∨ k = 13 ∨ k = 25 ∨ k = 38 ∨ k = 50 ∨ k = 62) ∧ ∀ j, j < n → fit (by' (gst 0) (k + 1 + j)) (kdA bl (tkT bl N u j)) = true := by
  obtain ⟨h1, h2, h3⟩ := StO_k (by omega) h
  refine ⟨?_, nLt_e h.2.2.1, g0_tab ⟨k, h1⟩ h2, fun j hj => msm_no h.2.2.2.1 j hj⟩
  unfold fmT; rw [h.2.1]; rfl
theorem fit_2 {c : Nat} {v : Int32} (hc : c = 67 ∨ c = 80) (h : fit c v = true) : v = 2 := by unfold fit at h; rw [if_pos hc] at h; exact of_decide_eq_true h
theorem fit_3 {c : Nat} {v : Int32} (hc : c ≠ 67 ∧ c ≠ 80 ∧ c ≠ 68 ∧ c ≠ 83) (h : fit c v = true) : v = 3 := by unfold fit at h; rw [if_neg (by omega), if_neg hc.2.2.1, if_neg hc.2.2.2] at h; exact of_decide_eq_true h
theorem fit_S {v : Int32} (h : fit 83 v = true) : v ≠ 3 := by
  unfold fit at h
  rw [if_neg (by decide), if_neg (by decide), if_pos rfl] at h
  have := of_decide_eq_true h
  rcases this with z | z | z <;> rw [z] <;> decide
end IAS
