/-! ===== hp: strings, forms ===== -/
section HPS
variable {P : mx_P} {σ σ0 σ1 σ2 τ : mx_S} {x m n t p : Nat} {bs : List Nat}
def gst (i : Nat) : List Nat := (mx_sb.getD i []).map fun c => c.toInt.toNat
theorem gst_ok : ∀ i : Fin 16, (gst i.1).length = mx_sl.getD i.1 0 ∧ (gst i.1).length < 100 ∧ (∀ c, c ∈ gst i.1 → c < 128) ∧ mx_sb.getD i.1 [] = (gst i.1).map q_n := by decide +kernel
theorem s_len {i : Nat} (hi : i < 16) : f_J0_length_8abf5 P i σ = some (q_n (gst i).length, σ) := by
  have ok : mt_ok i = some () := if_pos hi
  have h := (gst_ok ⟨i, hi⟩).1
  unfold f_J0_length_8abf5 f_J0_coder_7d493 f_J0_coder_7d493_D14
  rw [bd ok, bd ok, bd ok, if_neg (by decide), bd ok, bd2 (show mr_B 0 σ = some (0, σ) from rfl)]
  have : mt_n i >>> ((0 : Int32) &&& 31) = q_n (gst i).length := by
    have e : ((0 : Int32) &&& 31) = 0 := by decide
    rw [e, Int32.shiftRight_zero]
    unfold mt_n; rw [← h]; rfl
  rw [this]
theorem c255 : ∀ c : Fin 128, (((q_n c.1 &&& (255 : Int32)).toUInt32 % 65536).toInt32) = q_n c.1 ∧ ((q_n c.1).toUInt32 % 65536).toInt32 = q_n c.1 := by decide +kernel
theorem s_at {i k : Nat} (hi : i < 16) (hk : k < (gst i).length) : f_J0_charAt_5068e P i (q_n k) σ = some (q_n (by' (gst i) k), σ) := by
  have ok : mt_ok i = some () := if_pos hi
  obtain ⟨h1, h2, h3, h4⟩ := gst_ok ⟨i, hi⟩
  dsimp only at h1 h2 h3 h4
  have hc : by' (gst i) k < 128 := h3 _ (List.mem_of_getElem? (by_i hk))
  have hb : mt_b i (q_n k) = some (q_n (by' (gst i) k)) := by
    unfold mt_b
    rw [if_pos (by rw [q_nT (by omega)]; omega), show (q_n k).toNatClampNeg = k from Int32.toNatClampNeg_ofNat_of_lt (by omega), h4]
    congr 1
    rw [List.getD_eq_getElem?_getD, List.getElem?_map, by_i hk]; rfl
  have hi1 : f_J0_isLatin1_aae02 P i σ = some (1, σ) := by
    unfold f_J0_isLatin1_aae02 f_J0_isLatin1_aae02_D18
    rw [if_neg (by decide), bd ok, if_pos rfl]; exact if_pos (Or.inr rfl)
  have hn : mt_n i = q_n (gst i).length := by unfold mt_n; rw [← h1]; rfl
  have h1c : f_J1_charAt_3b067 P i (q_n k) σ = some (q_n (by' (gst i) k), σ) := by
    unfold f_J1_charAt_3b067 f_J0_checkIndex_df160
    rw [bd ok, hn, if_pos ⟨by rw [q_lt, q_nT (by omega), q_i0]; omega, by rw [q_nLt (by omega) (by omega)]; exact hk⟩, bds, bd ok, bd hb, (c255 ⟨_, hc⟩).1]
    exact if_pos (c255 ⟨_, hc⟩).2
  unfold f_J0_charAt_5068e
  rw [bd ok, bd2 hi1, if_neg zi10, bd ok, bd2 h1c]
  exact if_pos (c255 ⟨_, hc⟩).2
/-- the form and the word before place k of a grammar -/
def fmA (g : List Nat) : Nat → Nat
  | 0 => 0
  | k + 1 => if by' g k = 59 then fmA g k + 1 else fmA g k
def wdA (g : List Nat) : Nat → Nat
  | 0 => 0
  | k + 1 => if by' g k = 59 then 0 else if by' g k = 32 then wdA g k else wdA g k * 256 + by' g k
def ffS (g : List Nat) (v : Int64) (k : Nat) : Bool := decide (by' g k = 32 ∧ l_n (wdA g k) = v)
theorem fmA_le (g : List Nat) : ∀ k, fmA g k ≤ k
  | 0 => Nat.le_refl _
  | k + 1 => by rw [fmA]; have := fmA_le g k; split <;> omega
theorem c_form {i : Nat} {v : Int64} (hi : i < 16) (hf : 5000 ≤ mpN P) (hT : LyT σ t) (hb : mpb P ≤ t) (h7 : mxL σ t 7 = v) :
    (∃ k, r_fst (ffS (gst i) v) (gst i).length = some k ∧ f_X10_findForm P t i σ = some (q_n (k + 1), mx_setI σ t 10 (q_n (fmA (gst i) k)))) ∨ (r_fst (ffS (gst i) v) (gst i).length = none ∧ ∃ w, f_X10_findForm P t i σ = some (-1, mx_setI σ t 10 w)) := by
  have ok : mt_ok i = some () := if_pos hi
  obtain ⟨h1, h2, h3, -⟩ := gst_ok ⟨i, hi⟩
  dsimp only at h1 h2 h3
  have set2 : ∀ (u w : Int32), mx_setI (mx_setI σ t 10 u) t 10 w = mx_setI σ t 10 w := fun u w => by
    have e : mx_w (mx_w (mxI σ) t 10 u) t 10 w = mx_w (mxI σ) t 10 w := by
      funext q j
      unfold mx_w
      by_cases c : q = t ∧ j = 10
      · rw [if_pos c, if_pos c]
      · rw [if_neg c, if_neg c, if_neg c]
    show (mxA σ, mx_w (mx_w (mxI σ) t 10 u) t 10 w, mxL σ, mxR σ, mxz σ, mxu σ) = (mxA σ, mx_w (mxI σ) t 10 w, mxL σ, mxR σ, mxz σ, mxu σ)
    rw [e]
  unfold f_X10_findForm
  rw [bd (at_pI hT hb _)]
  obtain ⟨r, er, hr⟩ := q_for (f_X10_findForm_L10 P t i)
    (fun k s => s = (l_n (wdA (gst i) k), q_n k, mx_setI σ t 10 (q_n (fmA (gst i) k))) ∧ r_fst (ffS (gst i) v) k = none)
    (fun r => (∃ k, r_fst (ffS (gst i) v) (gst i).length = some k ∧ r = .inl (q_n k, mx_setI σ t 10 (q_n (fmA (gst i) k)))) ∨ (r_fst (ffS (gst i) v) (gst i).length = none ∧ ∃ w, r = .inr (mx_setI σ t 10 w))) (gst i).length
    (by
      rintro k s hk ⟨rfl, i2⟩
      have hTτ : LyT (mx_setI σ t 10 (q_n (fmA (gst i) k))) t := hT
      have hc : by' (gst i) k < 128 := h3 _ (List.mem_of_getElem? (by_i hk))
      have nq : ∀ c : Nat, c < 128 → (q_n (by' (gst i) k) = q_n c ↔ by' (gst i) k = c) := fun c hc' => q_nI (by omega) (by omega)
      show (∃ t', f_X10_findForm_B10 P t i (l_n (wdA (gst i) k)) (q_n k) _ = _ ∧ _) ∨ (∃ r, f_X10_findForm_B10 P t i (l_n (wdA (gst i) k)) (q_n k) _ = _ ∧ _)
      unfold f_X10_findForm_B10 f_X10_findForm_D82_10
      rw [bd ok, bd2 (s_len hi), if_neg (by rw [q_nLe (by omega) (by omega)]; omega), bd ok, bd2 (s_at hi hk)]
      by_cases c1 : by' (gst i) k = 59
      · rw [if_pos (by rw [c1]; rfl), bd (at_gI hTτ), sI_e, q_nS, bd (at_pI hTτ hb _), set2, bds, q_nS]
        refine Or.inl ⟨_, rfl, ?_, ?_⟩
        · rw [wdA, if_pos c1, fmA, if_pos c1]; rfl
        · rw [r_fst, i2, show ffS (gst i) v k = false from decide_eq_false (fun z => by omega)]; rfl
      · rw [if_neg (show ¬ q_n (by' (gst i) k) = (59 : Int32) from fun z => c1 ((nq 59 (by omega)).mp z))]
        by_cases c2 : by' (gst i) k = 32
        · rw [if_pos (by rw [c2]; rfl), bd (at_gL hTτ), show mxL (mx_setI σ t 10 (q_n (fmA (gst i) k))) t 7 = v from h7]
          by_cases c3 : l_n (wdA (gst i) k) = v
          · rw [if_pos (q_cmp0.mpr c3)]
            exact Or.inr ⟨_, rfl, Or.inl ⟨k, fst_at hk (decide_eq_true ⟨c2, c3⟩) i2, rfl⟩⟩
          · rw [if_neg (fun z => c3 (q_cmp0.mp z)), bds, q_nS]
            refine Or.inl ⟨_, rfl, ?_, ?_⟩
            · rw [wdA, if_neg c1, if_pos c2, fmA, if_neg c1]
            · rw [r_fst, i2, show ffS (gst i) v k = false from decide_eq_false (fun z => c3 z.2)]; rfl
        · rw [if_neg (show ¬ q_n (by' (gst i) k) = (32 : Int32) from fun z => c2 ((nq 32 (by omega)).mp z)), bds, pk_step (by omega), bds, q_nS]
          refine Or.inl ⟨_, rfl, ?_, ?_⟩
          · rw [wdA, if_neg c1, if_neg c2, fmA, if_neg c1]
          · rw [r_fst, i2, show ffS (gst i) v k = false from decide_eq_false (fun z => c2 z.1)]; rfl)
    (by
      rintro s ⟨rfl, i2⟩
      refine ⟨.inr (mx_setI σ t 10 (q_n (fmA (gst i) (gst i).length))), ?_, Or.inr ⟨i2, _, rfl⟩⟩
      show f_X10_findForm_B10 P t i (l_n (wdA (gst i) (gst i).length)) (q_n (gst i).length) (mx_setI σ t 10 (q_n (fmA (gst i) (gst i).length))) = _
      unfold f_X10_findForm_B10
      rw [bd ok, bd2 (s_len hi), if_pos (by rw [q_nLe (by omega) (by omega)]; exact Nat.le_refl _)])
    (gst i).length 0 ((0 : Int64), (0 : Int32), mx_setI σ t 10 0) (mpN P) (by omega) ⟨rfl, rfl⟩ (by omega)
  rw [bd er]
  rcases hr with ⟨k, hk, rfl⟩ | ⟨hk, w, rfl⟩
  · refine Or.inl ⟨k, hk, ?_⟩
    show some (q_n k + 1, _) = _
    rw [q_nS]
  · exact Or.inr ⟨hk, w, rfl⟩
end HPS
