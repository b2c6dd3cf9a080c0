/-! ===== hk: point ===== -/
section HKS
variable {P : mx_P} {σ σ0 σ1 σ2 τ : mx_S} {x m n t l : Nat} {bs : List Nat}
/-- a good name -/
def gnm (bs : List Nat) : Prop := 0 < bs.length ∧ bs.length ≤ 8 ∧ ∀ b, b ∈ bs → b < 256 ∧ ltr (q_n b) = true
theorem gnm_b {bs : List Nat} (h : gnm bs) : (∀ b, b ∈ bs → b < 128) ∧ (∀ b, b ∈ bs → 0 < b ∧ b < 256) :=
  ⟨fun b hb => by have := ltr_n (h.2.2 b hb).1 (h.2.2 b hb).2; omega, fun b hb => by have := ltr_n (h.2.2 b hb).1 (h.2.2 b hb).2; omega⟩
theorem gnm_pos {bs : List Nat} (h : gnm bs) : 0 < pk bs := by
  obtain ⟨h1, -, -⟩ := id h
  cases bs with
  | nil => exact absurd h1 (Nat.lt_irrefl 0)
  | cons a l =>
    rw [pk_cons]
    have := (gnm_b h).2 a List.mem_cons_self
    have : 0 < a * 256 ^ l.length := Nat.mul_pos this.1 (Nat.pow_pos (by omega))
    omega
theorem bA_lt {k : Nat} (h : k < bs.length) : bA bs k = q_n bs[k] := by unfold bA; rw [List.getElem?_eq_getElem h]
theorem take_s {k : Nat} (h : k < bs.length) : bs.take (k + 1) = bs.take k ++ [bs[k]] := by
  rw [List.take_succ, List.getElem?_eq_getElem h]; rfl
theorem c_wname (hf : 100 ≤ mpN P) (hT : LyT σ t) (h : TC σ t bs) : ∃ v, f_X10_wholeName P t σ = some (v, σ) ∧ ((v = l_n (pk bs) ∧ gnm bs) ∨ (v = 0 ∧ ¬ gnm bs)) := by
  have hl := h.1
  have hb256 : ∀ b, b ∈ bs → b < 256 := fun b hb => by
    obtain ⟨k, hk⟩ := List.getElem?_of_mem hb
    exact (h.2.2 k b hk).1
  unfold f_X10_wholeName f_X10_wholeName_D17
  rw [bd (at_gI hT), h.2.1]
  by_cases c1 : bs.length < 1
  · rw [if_pos (by rw [show (1 : Int32) = q_n 1 from rfl, q_nLt (by omega) (by omega)]; exact c1)]
    exact ⟨0, rfl, Or.inr ⟨rfl, fun z => by have := z.1; omega⟩⟩
  rw [if_neg (by rw [show (1 : Int32) = q_n 1 from rfl, q_nLt (by omega) (by omega)]; exact c1), bd (at_gI hT), h.2.1]
  by_cases c2 : bs.length ≤ 8
  · rw [if_pos (by rw [show (8 : Int32) = q_n 8 from rfl, q_nLe (by omega) (by omega)]; exact c2)]
    obtain ⟨r, er, hr⟩ := q_for (f_X10_wholeName_L23 P t)
      (fun k s => s = (l_n (pk (bs.take k)), q_n k, σ) ∧ ∀ b, b ∈ bs.take k → ltr (q_n b) = true)
      (fun r => (r = .inr (l_n (pk bs), σ) ∧ gnm bs) ∨ (r = .inl σ ∧ ¬ gnm bs)) bs.length
      (by
        rintro k s hk ⟨rfl, i2⟩
        have e := bA_lt hk
        have hbk : bs[k] < 256 := hb256 _ (List.getElem_mem hk)
        show (∃ t', f_X10_wholeName_B23 P t (l_n (pk (bs.take k))) (q_n k) σ = _ ∧ _) ∨ (∃ r, f_X10_wholeName_B23 P t (l_n (pk (bs.take k))) (q_n k) σ = _ ∧ _)
        unfold f_X10_wholeName_B23
        rw [bd (at_gI hT), h.2.1, if_neg (by rw [q_nLe (by omega) (by omega)]; omega), bd (at_is hT), bd2 (c_byte hT h (by omega)), bd2 (c_ltr _), bd (at_is hT), bd2 (c_byte hT h (by omega)), e]
        cases hlt : ltr (q_n bs[k]) with
        | true =>
          rw [if_neg (by decide), bds, bds, pk_step hbk, q_nS]
          refine Or.inl ⟨_, rfl, ?_, fun b hb => ?_⟩
          · rw [take_s hk, pk_snoc]
          · rw [take_s hk] at hb
            rcases List.mem_append.mp hb with hb | hb
            · exact i2 b hb
            · rw [List.mem_singleton] at hb; rw [hb]; exact hlt
        | false =>
          rw [if_pos (by rfl)]
          refine Or.inr ⟨_, rfl, Or.inr ⟨rfl, fun z => ?_⟩⟩
          have := (z.2.2 _ (List.getElem_mem hk)).2
          rw [hlt] at this; cases this)
      (by
        rintro s ⟨rfl, i2⟩
        rw [List.take_length] at i2
        refine ⟨_, ?_, Or.inl ⟨rfl, by omega, c2, fun b hb => ⟨hb256 b hb, i2 b hb⟩⟩⟩
        show f_X10_wholeName_B23 P t (l_n (pk (bs.take bs.length))) (q_n bs.length) σ = _
        unfold f_X10_wholeName_B23
        rw [bd (at_gI hT), h.2.1, if_pos (by rw [q_nLe (by omega) (by omega)]; exact Nat.le_refl _), List.take_length])
      bs.length 0 ((0 : Int64), (0 : Int32), σ) (mpN P) (by omega) ⟨rfl, fun b hb => by cases hb⟩ (by omega)
    rw [bd er]
    rcases hr with ⟨rfl, hg⟩ | ⟨rfl, hg⟩
    · exact ⟨_, rfl, Or.inl ⟨rfl, hg⟩⟩
    · exact ⟨_, rfl, Or.inr ⟨rfl, hg⟩⟩
  · rw [if_neg (by rw [show (8 : Int32) = q_n 8 from rfl, q_nLe (by omega) (by omega)]; exact c2)]
    exact ⟨0, rfl, Or.inr ⟨rfl, fun z => by have := z.2.1; omega⟩⟩
theorem fst_no {s : Nat → Bool} : ∀ {n : Nat}, (∀ p, p < n → s p = false) → r_fst s n = none
  | 0, _ => rfl
  | n + 1, h => by rw [r_fst, fst_no fun p hp => h p (by omega), h n (by omega)]; rfl
theorem fst_cg {s s' : Nat → Bool} : ∀ {n : Nat}, (∀ p, p < n → s p = s' p) → r_fst s n = r_fst s' n
  | 0, _ => rfl
  | n + 1, h => by rw [r_fst, r_fst, fst_cg fun p hp => h p (by omega), h n (by omega)]
theorem fst_at {s : Nat → Bool} {k : Nat} : ∀ {n : Nat}, k < n → s k = true → r_fst s k = none → r_fst s n = some k
  | 0, h, _, _ => absurd h (Nat.not_lt_zero k)
  | n + 1, h, h1, h2 => by
    rw [r_fst]
    by_cases e : k = n
    · subst e; rw [h2, h1]; rfl
    · rw [fst_at (n := n) (by omega) h1 h2]
theorem c_nof (hf : 100 ≤ mpN P) (hL : LyL (mxA σ) (mxR σ) l) (hn : n ≤ 40) (h2 : mxI σ l 2 = q_n n) (v : Int64) : f_X7_numberOf P l v σ = some (r_fI (r_fst (fun p => decide (mxL σ (l + 2 + 16 * p) 0 = v)) n), σ) := by
  unfold f_X7_numberOf
  obtain ⟨r, er, hr⟩ := q_for (f_X7_numberOf_L2 P l v)
    (fun k s => s = (q_n k, σ) ∧ r_fst (fun p => decide (mxL σ (l + 2 + 16 * p) 0 = v)) k = none)
    (fun r => (∃ k, r = .inl (q_n k, σ) ∧ r_fst (fun p => decide (mxL σ (l + 2 + 16 * p) 0 = v)) n = some k) ∨ (r = .inr σ ∧ r_fst (fun p => decide (mxL σ (l + 2 + 16 * p) 0 = v)) n = none)) n
    (by
      rintro k s hk ⟨rfl, i2⟩
      have hk4 : k < 40 := by omega
      show (∃ t', f_X7_numberOf_B2 P l v (q_n k) σ = _ ∧ _) ∨ (∃ r, f_X7_numberOf_B2 P l v (q_n k) σ = _ ∧ _)
      unfold f_X7_numberOf_B2
      rw [bd (al_gI hL), h2, if_neg (by rw [q_nLe (by omega) (by omega)]; omega), bd (al_r0 hL), bd (al_j hL hk4), bd (q_gL (LyJ_o (LyL_j hL k hk4).2))]
      by_cases c : mxL σ (l + 2 + 16 * k) 0 = v
      · rw [if_pos (q_cmp0.mpr c)]
        exact Or.inr ⟨_, rfl, Or.inl ⟨k, rfl, fst_at hk (decide_eq_true c) i2⟩⟩
      · rw [if_neg (fun z => c (q_cmp0.mp z)), bds, q_nS]
        refine Or.inl ⟨_, rfl, rfl, ?_⟩
        rw [r_fst, i2, decide_eq_false c]; rfl)
    (by
      rintro s ⟨rfl, i2⟩
      refine ⟨_, ?_, Or.inr ⟨rfl, i2⟩⟩
      show f_X7_numberOf_B2 P l v (q_n n) σ = _
      unfold f_X7_numberOf_B2
      rw [bd (al_gI hL), h2, if_pos (by rw [q_nLe (by omega) (by omega)]; exact Nat.le_refl _)])
    n 0 ((0 : Int32), σ) (mpN P) (by omega) ⟨rfl, rfl⟩ (by omega)
  rw [bd er]
  rcases hr with ⟨k, rfl, hr⟩ | ⟨rfl, hr⟩
  · rw [hr]; rfl
  · rw [hr]; rfl
/-- the first k bytes are the same -/
def eqK (a b : Nat → Nat) : Nat → Bool
  | 0 => true
  | k + 1 => eqK a b k && decide (a k = b k)
theorem eqK_le {a b : Nat → Nat} : ∀ {n k : Nat}, k ≤ n → eqK a b k = false → eqK a b n = false
  | 0, k, h, e => by have h0 : k = 0 := (by omega); rw [h0] at e; exact e
  | n + 1, k, h, e => by
    by_cases c : k = n + 1
    · subst c; exact e
    · rw [eqK, eqK_le (n := n) (by omega) e]; rfl
theorem eqK_t {a b : Nat → Nat} : ∀ {n : Nat}, eqK a b n = true ↔ ∀ j, j < n → a j = b j
  | 0 => ⟨fun _ j hj => absurd hj (Nat.not_lt_zero j), fun _ => rfl⟩
  | n + 1 => by
    rw [eqK, Bool.and_eq_true, eqK_t (n := n), decide_eq_true_iff]
    refine ⟨fun ⟨h1, h2⟩ j hj => ?_, fun h => ⟨fun j hj => h j (by omega), h n (by omega)⟩⟩
    by_cases e : j = n
    · subst e; exact h2
    · exact h1 j (by omega)
/-- bytes by number -/
def by' (l : List Nat) (k : Nat) : Nat := (l[k]?).getD 0
theorem by_i {l : List Nat} {k : Nat} (h : k < l.length) : l[k]? = some (by' l k) := by unfold by'; rw [List.getElem?_eq_getElem h]; rfl
theorem by_ext {l r : List Nat} (h : l.length = r.length) : l = r ↔ eqK (by' l) (by' r) r.length = true := by
  rw [eqK_t]
  refine ⟨fun e j _ => by rw [e], fun e => List.ext_getElem? fun j => ?_⟩
  by_cases c : j < r.length
  · rw [by_i (by omega), by_i c, e j c]
  · rw [List.getElem?_eq_none (by omega), List.getElem?_eq_none (by omega)]
theorem r_pin {B : LB} {k : Nat} (hf : 100 ≤ mpN P) (hM : LyM σ m) (h : TR σ m bs) (hB : rB σ m n B) (hg : LBok n B) (hn : n ≤ 40) (hk : k < n) (h19 : mxI σ m 19 = q_n n) : f_X12_point_B7 P m (q_n k) σ = (if (B k).2 = bs then some (.inr (.inl (q_n k, σ))) else some (.inl (q_n (k + 1), σ))) := by
  obtain ⟨-, -, -, b4, b5⟩ := hB k hk
  obtain ⟨-, -, -, g1, g2, g3⟩ := hg k hk
  have hl := h.1
  unfold f_X12_point_B7
  rw [bd (am_gI hM), h19, if_neg (by rw [q_nLe (by omega) (by omega)]; omega), bd (am_r31 hM), bd (am_g31 hM (by omega)), b4, bd (am_gI hM), h.2.1]
  have fin : ∀ b : Bool, f_X12_point_D80_7 P m (q_n k) (bI b) σ = (if b then some (.inr (.inl (q_n k, σ))) else some (.inl (q_n (k + 1), σ))) := by
    intro b
    unfold f_X12_point_D80_7
    cases b
    · rw [if_pos (by rfl), bds, q_nS]; rfl
    · rw [if_neg (by decide)]; rfl
  by_cases c : (B k).2.length = bs.length
  · rw [if_pos (by rw [c])]
    have hlp : mx_lp (f_X12_point_L36 P m (q_n k)) (mpN P) ((1 : Int32), (0 : Int32), σ) = some (bI (eqK (by' (B k).2) (by' bs) bs.length), σ) := by
      obtain ⟨r, er, rfl⟩ := q_for (f_X12_point_L36 P m (q_n k))
        (fun j s => s = (bI (eqK (by' (B k).2) (by' bs) j), q_n j, σ))
        (fun r => r = (bI (eqK (by' (B k).2) (by' bs) bs.length), σ)) bs.length
        (by
          rintro j s hj rfl
          show (∃ t', f_X12_point_B36 P m (q_n k) (bI (eqK (by' (B k).2) (by' bs) j)) (q_n j) σ = _ ∧ _) ∨ (∃ r, f_X12_point_B36 P m (q_n k) (bI (eqK (by' (B k).2) (by' bs) j)) (q_n j) σ = _ ∧ _)
          unfold f_X12_point_B36 f_X12_point_D73_36
          rw [bd (am_gI hM), h.2.1, if_neg (by rw [q_nLe (by omega) (by omega)]; omega)]
          cases e : eqK (by' (B k).2) (by' bs) j with
          | false =>
            rw [if_pos (by rfl)]
            exact Or.inr ⟨_, rfl, by rw [eqK_le (Nat.le_of_lt hj) e]⟩
          | true =>
            have q1 := b5 j _ (by_i (l := (B k).2) (by omega))
            have q2 := h.2.2 j _ (by_i hj)
            have q3 : by' (B k).2 j < 256 := (g3 _ (List.mem_of_getElem? (by_i (l := (B k).2) (by omega)))).1
            rw [if_neg (by decide), bd (am_r32 hM), show (8 : Int32) = q_n 8 from rfl, q_nM, q_nA, bd (am_g32 hM (by omega)), q1, bd (am_r1 hM), bd (am_g1 hM (by omega)), q2.2]
            by_cases d : by' (B k).2 j = by' bs j
            · rw [if_pos (by rw [d]), bds, q_nS]
              exact Or.inl ⟨_, rfl, by rw [eqK, e, decide_eq_true d]; rfl⟩
            · rw [if_neg (fun z => d (by rw [q_nI (by omega) (by omega)] at z; exact z)), bds, q_nS]
              exact Or.inl ⟨_, rfl, by rw [eqK, e, decide_eq_false d]; rfl⟩)
        (by
          rintro s rfl
          refine ⟨_, ?_, rfl⟩
          show f_X12_point_B36 P m (q_n k) (bI (eqK (by' (B k).2) (by' bs) bs.length)) (q_n bs.length) σ = _
          unfold f_X12_point_B36
          rw [bd (am_gI hM), h.2.1, if_pos (by rw [q_nLe (by omega) (by omega)]; exact Nat.le_refl _)])
        bs.length 0 ((1 : Int32), (0 : Int32), σ) (mpN P) (by omega) rfl (by omega)
      exact er
    unfold f_X12_point_D33_7
    rw [bd hlp]
    show f_X12_point_D80_7 P m (q_n k) (bI (eqK (by' (B k).2) (by' bs) bs.length)) σ = _
    rw [fin]
    cases e : eqK (by' (B k).2) (by' bs) bs.length with
    | true => rw [if_pos rfl, if_pos ((by_ext c).mpr e)]
    | false => rw [if_neg (by decide), if_neg (fun z => by rw [(by_ext c).mp z] at e; cases e)]
  · rw [if_neg (fun z => c (by rw [q_nI (by omega) (by omega)] at z; exact z))]
    have hlp : mx_lp (f_X12_point_L36 P m (q_n k)) (mpN P) ((0 : Int32), (0 : Int32), σ) = some ((0 : Int32), σ) := by
      refine lp_out ?_ (by omega)
      show f_X12_point_B36 P m (q_n k) 0 0 σ = _
      unfold f_X12_point_B36
      rw [bd (am_gI hM), if_pos rfl]
      split <;> rfl
    unfold f_X12_point_D33_7
    rw [bd hlp]
    show f_X12_point_D80_7 P m (q_n k) (bI false) σ = _
    rw [fin, if_neg (show ¬ (false = true) by decide), if_neg (fun z => c (by rw [z]))]
theorem r_point {B : LB} (hf : 100 ≤ mpN P) (hM : LyM σ m) (hb : mpb P ≤ m) (h : TR σ m bs) (h19 : mxI σ m 19 = q_n n) (hB : rB σ m n B) (hg : LBok n B) (hn : n ≤ 40) : f_X12_point P m σ = some (r_fI (r_fst (fun p => decide ((B p).2 = bs)) n), mx_setI σ m 0 0) := by
  obtain ⟨τ, eτ⟩ : ∃ τ, τ = mx_setI σ m 0 0 := ⟨_, rfl⟩
  have hMτ : LyM τ m := by rw [eτ]; exact hM
  have hτ : TR τ m bs := by rw [eτ]; exact TR_cg h (sI_n (by omega)) (fun k => sI_n (by omega))
  have hBτ : rB τ m n B := by rw [eτ]; exact rB_rg hB fun q j c1 c2 c3 => sI_n (by omega)
  have h19τ : mxI τ m 19 = q_n n := by rw [eτ, sI_n (by omega)]; exact h19
  unfold f_X12_point
  rw [bd (am_pI hM hb _), ← eτ]
  obtain ⟨r, er, hr⟩ := q_for (f_X12_point_L7 P m)
    (fun k s => s = (q_n k, τ) ∧ r_fst (fun p => decide ((B p).2 = bs)) k = none)
    (fun r => (∃ k, r = .inl (q_n k, τ) ∧ r_fst (fun p => decide ((B p).2 = bs)) n = some k) ∨ (r = .inr τ ∧ r_fst (fun p => decide ((B p).2 = bs)) n = none)) n
    (by
      rintro k s hk ⟨rfl, i2⟩
      have e := r_pin (P := P) hf hMτ hτ hBτ hg hn hk h19τ
      show (∃ t', f_X12_point_B7 P m (q_n k) τ = _ ∧ _) ∨ (∃ r, f_X12_point_B7 P m (q_n k) τ = _ ∧ _)
      rw [e]
      by_cases c : (B k).2 = bs
      · rw [if_pos c]
        exact Or.inr ⟨_, rfl, Or.inl ⟨k, rfl, fst_at hk (decide_eq_true c) i2⟩⟩
      · rw [if_neg c]
        refine Or.inl ⟨_, rfl, rfl, ?_⟩
        rw [r_fst, i2, decide_eq_false c]; rfl)
    (by
      rintro s ⟨rfl, i2⟩
      refine ⟨_, ?_, Or.inr ⟨rfl, i2⟩⟩
      show f_X12_point_B7 P m (q_n n) τ = _
      unfold f_X12_point_B7
      rw [bd (am_gI hMτ), h19τ, if_pos (by rw [q_nLe (by omega) (by omega)]; exact Nat.le_refl _)])
    n 0 ((0 : Int32), τ) (mpN P) (by omega) ⟨rfl, rfl⟩ (by omega)
  rw [bd er]
  rcases hr with ⟨k, rfl, hr⟩ | ⟨rfl, hr⟩
  · rw [hr]; rfl
  · rw [hr]; rfl
theorem g_point (hS : St P σ x) (h : RT x σ) (hl : RL x σ) : Qc x σ (f_X11_point P x σ) (fun τ => f_X12_point P (x + 1497) τ) [] (fun _ => True) := by
  obtain ⟨bs, hC, hR, -, -⟩ := id h
  obtain ⟨l, l', K, mk, pl, B, hT, hB, hc, hr⟩ := hl
  obtain ⟨hLl, hbl, hp6⟩ := St_L hS hc
  obtain ⟨hL, hb, hN, hrm⟩ := hS
  have hn := hT.1
  have hx := LyH_o hL
  have hTt := LyH_t hL
  have hM := LyH_m hL
  obtain ⟨M, E, wy, hz⟩ := hc.2.1
  obtain ⟨v, ev, hv⟩ := c_wname (P := P) (by omega) hTt hC
  refine ⟨r_fI (r_fst (fun p => decide ((B p).2 = bs)) (kN K)), σ, _, ?_, r_point (by omega) hM (by omega) hR hr.1.1 hr.2.2 hB hn, rfl, Fr.rf.sI (Or.inr cp_t) _, trivial⟩
  unfold f_X11_point
  rw [bd hp6, bd ((q_gR hx).trans (LyH_r0 hL)), bd (at_is hTt), bd2 ev, bd (al_is hLl), bd2 (c_nof (by omega) hLl hn hz.1.1 v)]
  congr 3
  refine fst_cg fun p hp => ?_
  obtain ⟨-, -, -, e4⟩ := hc.2.2.2.1 p hp
  rw [e4]
  have hgp : gnm (B p).2 := (hB p hp).2.2.2
  have b1 := pn_63 (gnm_b hgp).1 hgp.2.1
  rcases hv with ⟨rfl, hg⟩ | ⟨rfl, hg⟩
  · have b2 := pn_63 (gnm_b hg).1 hg.2.1
    rw [decide_eq_decide, l_nI b1 b2]
    exact ⟨fun z => pn_inj _ _ (gnm_b hgp).2 (gnm_b hg).2 z, fun z => by rw [z]⟩
  · have b2 := gnm_pos hgp
    rw [decide_eq_decide]
    exact ⟨fun z => absurd z (l_nne b2 b1), fun z => absurd (z ▸ hgp) hg⟩
end HKS
