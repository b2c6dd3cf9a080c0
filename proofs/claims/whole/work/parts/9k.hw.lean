/-! ===== hw: numbers and turns of a joint ===== -/
section HWS
variable {P : mx_P} {σ σ0 σ1 σ2 τ : mx_S} {x m n t l p a N i k j u K c np : Nat} {bl : List Nat} {on : Nat → Nat} {E : Nat → BV} {inp pow msk mi bt mark fst : Int32}
def fxV (fm : Nat) (tp : Int) (b : Nat) : BV := if fm = 2 ∨ fm = 3 then b_frac (tp * tp) (b * b) else b_frac tp b
theorem rd_oI {q d : Nat} {r : rw3} (h : q ≠ d) (j : Nat) : mxI (bs σ d r) q j = mxI σ q j := I_bs h
theorem sq_b4 {tp : Int} (h1 : -10000 < tp) (h2 : tp < 10000) : 0 ≤ tp * tp ∧ tp * tp ≤ 100000000 := by
  have e : ((tp.natAbs * tp.natAbs : Nat) : Int) = tp * tp := Int.natAbs_mul_self
  have hm : tp.natAbs * tp.natAbs ≤ 10000 * 10000 := Nat.mul_le_mul (by omega) (by omega)
  generalize tp.natAbs * tp.natAbs = w at e hm
  omega
theorem sq_n4 {b : Nat} (h3 : 0 < b) (h4 : b < 10000) : (0 : Int) < (b : Int) * b ∧ (b : Int) * b ≤ 100000000 := by
  have e : ((b * b : Nat) : Int) = (b : Int) * b := Int.natCast_mul b b
  have hm : b * b ≤ 10000 * 10000 := Nat.mul_le_mul (by omega) (by omega)
  have hp : 0 < b * b := Nat.mul_pos h3 h3
  generalize b * b = w at e hm hp
  omega
theorem c_tknum {fm d : Nat} {tp : Int} {b : Nat} (hJ : LyJ (mxA σ) (mxR σ) c) (hfm : mxI σ c 1 = q_n fm) (hf6 : fm < 6) (hd : mxA σ d = some (.inl 0)) (hb : mpb P ≤ d) (h1 : -10000 < tp) (h2 : tp < 10000) (h3 : 0 < b) (h4 : b < 10000) {p q : Int64} (hp : p.toInt = tp) (hq : q.toInt = b) : ∃ r, f_X5_takeNumber P c d p q σ = some (bs σ d r) ∧ RB r (fxV fm tp b) := by
  have nq : ∀ e : Nat, e < 6 → (q_n fm = q_n e ↔ fm = e) := fun e he => q_nI (by omega) (by omega)
  obtain ⟨hb1, hb2⟩ := sq_b4 h1 h2
  obtain ⟨hb3, hb4⟩ := sq_n4 h3 h4
  have hpp : (p * p).toInt = tp * tp := by
    rw [q_lmul (by rw [hp]; omega) (by rw [hp]; omega), hp]
  have hqq : (q * q).toInt = (b : Int) * b := by
    rw [q_lmul (by rw [hq]; omega) (by rw [hq]; omega), hq]
  have hsq : ∃ r, f_X5_takeNumber_D16 P d p q σ = some (bs σ d r) ∧ RB r (b_frac (tp * tp) (b * b)) := by
    obtain ⟨r, e, hr⟩ := c_frac (P := P) (σ := σ) (t := d) (p := p * p) (q := q * q) (by rw [hpp]; omega) (by rw [hpp]; omega) (by rw [hqq]; exact hb3) hd hb
    unfold f_X5_takeNumber_D16 f_X5_takeNumber_D38
    rw [bd (q_is hd), bd e]
    exact ⟨r, rfl, by rw [hpp, hqq] at hr; exact hr⟩
  unfold f_X5_takeNumber f_X5_takeNumber_D38 fxV
  rw [bd (q_gI (LyJ_o hJ)), hfm, bd (q_gI (LyJ_o hJ)), hfm]
  by_cases c2 : fm = 2
  · rw [if_pos (by rw [c2]; rfl), if_pos (Or.inl c2)]; exact hsq
  rw [if_neg (show ¬ q_n fm = (2 : Int32) from fun z => c2 ((nq 2 (by omega)).mp z))]
  by_cases c3 : fm = 3
  · rw [if_pos (by rw [c3]; rfl), if_pos (Or.inr c3)]; exact hsq
  rw [if_neg (show ¬ q_n fm = (3 : Int32) from fun z => c3 ((nq 3 (by omega)).mp z)), if_neg (show ¬ (fm = 2 ∨ fm = 3) by omega)]
  obtain ⟨r, e, hr⟩ := c_frac (P := P) (σ := σ) (t := d) (p := p) (q := q) (by rw [hp]; omega) (by rw [hp]; omega) (by rw [hq]; omega) hd hb
  rw [bd (q_is hd), bd e]
  exact ⟨r, rfl, by rw [hp, hq] at hr; exact hr⟩
/-- a part x or r -/
theorem b_x {s d fm : Nat} {ff : Bool} (hT : LyT σ t) (hJ : LyJ (mxA σ) (mxR σ) c) (hb : mpb P ≤ c) (h256 : ∀ b, b ∈ bl → b < 256) (hj : j < 6) (hn : mxI σ t 12 = q_n n) (hjn : j < n) (hn6 : n ≤ 6) (hd : d = 120 ∨ d = 114) (hP : PtI σ t bl d s j) (hk : kdA bl s = 3) (hfm : mxI σ c 1 = q_n fm) (hf6 : fm < 6) (h : JS σ l c np on inp pow msk mi bt E) :
    ∃ τ, f_X5_become_B63 P c t mark (bI ff) (q_n j) σ = some (.inl (0, q_n (j + 1), τ)) ∧ JS τ l c np on inp pow msk mi bt (up E (if ff then c + 2 else c + 3) (fxV fm (tpA bl s) (nmB bl (nmD bl s)))) ∧ Fz (jF c) σ τ := by
  obtain ⟨q1, q2, q3, q4, q5⟩ := id hP
  obtain ⟨h3, hon, h4, h5, h8, h6, h7, hE⟩ := h
  obtain ⟨m1, m2, m3, m4, m5, m6⟩ := NmI_of h256 hP hk
  have key : ∀ e : Nat, mxA σ e = some (.inl 0) → (e = c + 2 ∨ e = c + 3) → ∃ τ, f_X5_become_D112_63 P c t mark (q_n j) e c σ = some (.inl (0, q_n (j + 1), τ)) ∧ JS τ l c np on inp pow msk mi bt (up E e (fxV fm (tpA bl s) (nmB bl (nmD bl s)))) ∧ Fz (jF c) σ τ := by
    intro e he hec
    obtain ⟨r, er, hr⟩ := c_tknum (P := P) (p := (mxI σ (t + 5) j).toInt64) (q := (q_n (nmB bl (nmD bl s))).toInt64) hJ hfm hf6 he (by omega) m3 m4 m5 m6 (by rw [i64i]; exact m1) (by rw [i64i, q_nT (by omega)])
    unfold f_X5_become_D112_63 f_X5_become_D144_63
    rw [bd (at_r16 hT), bd (at_g16 hT hj), bd (at_r17 hT), bd (at_g17 hT hj), m2, bd (q_is (LyJ_o hJ)), bd er, bds, q_nS]
    have nc : c ≠ e := by omega
    have nc1 : c + 1 ≠ e := by omega
    refine ⟨_, rfl, ⟨by rw [I_bs nc]; exact h3, fun j' hj' => by rw [I_bs nc1]; exact hon j' hj', by rw [I_bs nc]; exact h4, by rw [I_bs nc]; exact h5, by rw [I_bs nc]; exact h8, by rw [I_bs nc]; exact h6, by rw [I_bs nc]; exact h7, bx_bs hE hr⟩, ⟨rfl, rfl, ⟨rfl, rfl⟩, fun q j' hq => ?_⟩⟩
    have nqe : q ≠ e := fun z => hq (Or.inr (by omega))
    exact ⟨I_bs nqe, L_bs nqe⟩
  rw [b_pre hT hj hn hjn hn6 q1 (by omega), if_pos hd]
  unfold f_X5_become_D96_63
  cases ff
  · rw [if_pos (by rfl), bd ((q_gR (LyJ_o hJ)).trans (LyJ_r10 hJ))]
    exact key (c + 3) (LyJ_a10 hJ) (Or.inr rfl)
  · rw [if_neg (by decide), bd ((q_gR (LyJ_o hJ)).trans (LyJ_r9 hJ))]
    exact key (c + 2) (LyJ_a9 hJ) (Or.inl rfl)
/-- a part k -/
theorem b_k {s v : Nat} (hT : LyT σ t) (hJ : LyJ (mxA σ) (mxR σ) c) (hbl : mpb P ≤ l) (hx4 : px σ l (c + 4)) (h256 : ∀ b, b ∈ bl → b < 256) (hj : j < 6) (hn : mxI σ t 12 = q_n n) (hjn : j < n) (hn6 : n ≤ 6) (hP : PtI σ t bl 107 s j) (hk : kdA bl s = 3) (hv : (tpA bl s).tdiv (nmB bl (nmD bl s)) = v) (hv4 : v < 1024) (h : JS σ l c np on inp pow msk mi bt E) :
    ∃ τ, f_X5_become_B63 P c t mark fst (q_n j) σ = some (.inl (fst, q_n (j + 1), τ)) ∧ JS τ l c np on inp pow msk mi bt (up (up E (c + 5) (g_D v).1) (c + 6) (g_D v).2) ∧ Fz (fun q _ => bx σ l q) σ τ := by
  obtain ⟨q1, q2, q3, q4, q5⟩ := id hP
  obtain ⟨h3, hon, h4, h5, h8, h6, h7, hE⟩ := h
  obtain ⟨n5, n1⟩ := bJ_5 hJ
  obtain ⟨w, ew, hw⟩ := c_whl (P := P) hT hj (NmI_of h256 hP hk)
  have ewv : w = q_n v := Int32.toInt.inj (by rw [hw, hv, q_nT (by omega)])
  subst ewv
  have g0 : G σ l E σ := ⟨rfl, rfl, ⟨rfl, rfl⟩, fun _ _ _ => ⟨rfl, rfl⟩, hE⟩
  obtain ⟨τ, eτ, hτ⟩ := w_dir (P := P) (k := v) (f := fun σ' => some σ') (Q := fun τ => G σ l (up (up E (c + 4 + 1) (g_D v).1) (c + 4 + 2) (g_D v).2) τ) g0 hbl hx4 hv4 (fun σ' g => ⟨_, rfl, g⟩)
  have eD : f_X8_direct P (c + 4) (q_n v) σ = some τ := by
    cases hq : f_X8_direct P (c + 4) (q_n v) σ with
    | none => rw [hq] at eτ; cases eτ
    | some y => rw [hq] at eτ; exact eτ
  have tk : f_X5_takePart P c t (q_n j) mark σ = some τ := by
    unfold f_X5_takePart f_X5_takePart_D186
    rw [bd (at_r13 hT), bd (at_g13 hT hj), q1, if_neg (by decide), if_neg (by decide), if_pos (by rfl), bd ((q_gR (LyJ_o hJ)).trans (LyJ_r11 hJ)), bd (at_is hT), bd2 ew, bd (pr_i (LyJ_a11 hJ)), bd eD]
  have bc : ¬ bx σ l c := fun z => n5 z.2.2
  have bc1 : ¬ bx σ l (c + 1) := fun z => n1 z.2.2
  refine ⟨τ, by rw [b_pre hT hj hn hjn hn6 q1 (by omega), if_neg (by omega), bd (q_is (LyJ_o hJ)), bd tk], ⟨?_, fun j' hj' => ?_, ?_, ?_, ?_, ?_, ?_, fun q hq => ?_⟩, ⟨hτ.1, hτ.2.1, hτ.2.2.1, fun q j' hq => hτ.2.2.2.1 q j' hq⟩⟩
  · rw [(hτ.2.2.2.1 _ _ bc).1]; exact h3
  · rw [(hτ.2.2.2.1 _ _ bc1).1]; exact hon j' hj'
  · rw [(hτ.2.2.2.1 _ _ bc).1]; exact h4
  · rw [(hτ.2.2.2.1 _ _ bc).1]; exact h5
  · rw [(hτ.2.2.2.1 _ _ bc).1]; exact h8
  · rw [(hτ.2.2.2.1 _ _ bc).1]; exact h6
  · rw [(hτ.2.2.2.1 _ _ bc).1]; exact h7
  · exact hτ.2.2.2.2 q ((bx_A hτ.1).mp hq)
end HWS
