/-! ===== ij: the class's isRead ===== -/
section IJS
variable {P : mx_P} {σ σ0 σ1 σ2 τ : mx_S} {x m n t l p a N i k j u K c r : Nat} {bl : List Nat} {E E' : Nat → BV} {M : BV} {pl mk : Nat → Nat} {o : List Nat} {v : Int64}
/-- what reading a linkage may change -/
def isF (l t : Nat) : Nat → Nat → Prop := fun q j => (q = t ∧ (2 ≤ j ∧ j ≤ 12 ∨ j = 19)) ∨ (t + 2 ≤ q ∧ q ≤ t + 7) ∨ (l ≤ q ∧ q < l + 676)
/-- the names that a text tells -/
def BTx (bl : List Nat) (N : Nat) : LB := fun p => ((0, 0, 0), cnA bl N 0 p)
/-- what comes of a linkage's text -/
def OutC (bl : List Nat) (N K : Nat) (e : Option Nat) (l t : Nat) (r : Int32) (τ : mx_S) : Prop :=
  (∃ q, e = some q ∧ r = 0 ∧ mxI τ t 2 = 1 ∧ mxI τ t 3 = q_n q ∧ SpL τ l) ∨
  (∃ cq : Nat × Nat, e = none ∧ lsF bl N K K = some cq ∧ r = 0 ∧ mxI τ t 2 = q_n cq.1 ∧ mxI τ t 3 = q_n cq.2 ∧ SpL τ l) ∨
  (∃ p, e = none ∧ lsF bl N K K = none ∧ K ≤ 40 ∧ p < K ∧ p ∉ oTx bl N K ∧ (∀ q, q < p → q ∈ oTx bl N K) ∧ r = 0 ∧ mxI τ t 2 = 4 ∧ mxI τ t 3 = q_n (tkT bl N p 0) ∧ SpL τ l) ∨
  (e = none ∧ lsF bl N K K = none ∧ K ≤ 40 ∧ (∀ q, q < K → q ∈ oTx bl N K) ∧ r = 1 ∧ mxI τ t 2 = 0 ∧ mxI τ t 3 = 0 ∧ mxI τ l 2 = q_n K ∧ kT (LKx bl N K) ∧ (∃ M E mk, LZ M l (LKx bl N K) (fun _ => 0) mk E 0 τ) ∧ mxI τ l 10 = 0 ∧ cB τ l K (BTx bl N))
theorem SpL_of (hE : ∀ q, bx τ l q → RB (rd τ q) (E q)) (hp : ∀ i, i < 4 → mxI τ (l + 643) i = 0 ∧ eM E l i = g_D 0) : SpL τ l := ⟨E, fun _ => 0, hE, fun i hi => ⟨(hp i hi).1, (by show 0 < 1024; decide), (hp i hi).2⟩⟩
theorem c_isr (hN : N = 4000) (hf : 5000 ≤ mpN P) (hT : LyT σ t) (hbt : mpb P ≤ t) (hL : LyL (mxA σ) (mxR σ) l) (hlt : t + 8 ≤ l) (hC : TC σ t bl) (hS : SpL σ l) : ∃ K e r τ, Txt bl N 0 K e ∧ f_X7_isRead P l t σ = some (r, τ) ∧ Fz (isF l t) σ τ ∧ OutC bl N K e l t r τ := by
  have hz1 : ∀ σ, mr_Z 1 σ = some (1, σ) := fun σ => if_pos (Or.inr rfl)
  have hz0 : ∀ σ, mr_Z 0 σ = some (0, σ) := fun σ => if_pos (Or.inl rfl)
  have hbl : mpb P ≤ l := by omega
  obtain ⟨E, pl, hE, hpl⟩ := hS
  -- the four cells
  obtain ⟨σ1, e1⟩ : ∃ σ1, σ1 = mx_setI σ l 2 0 := ⟨_, rfl⟩
  obtain ⟨σ2, e2⟩ : ∃ σ2, σ2 = mx_setI σ1 l 3 0 := ⟨_, rfl⟩
  obtain ⟨σ3, e3⟩ : ∃ σ3, σ3 = mx_setI σ2 l 6 0 := ⟨_, rfl⟩
  obtain ⟨σ4, e4⟩ : ∃ σ4, σ4 = mx_setI σ3 l 10 0 := ⟨_, rfl⟩
  have s4 : Fz (fun q j => q = l ∧ (j = 2 ∨ j = 3 ∨ j = 6 ∨ j = 10)) σ σ4 := by
    rw [e4, e3, e2, e1]
    exact (((Fz.rf.sI ⟨rfl, by omega⟩ _).sI ⟨rfl, by omega⟩ _).sI ⟨rfl, by omega⟩ _).sI ⟨rfl, by omega⟩ _
  have hL1 : LyL (mxA σ1) (mxR σ1) l := by rw [e1]; exact hL
  have hL2 : LyL (mxA σ2) (mxR σ2) l := by rw [e2]; exact hL1
  have hL3 : LyL (mxA σ3) (mxR σ3) l := by rw [e3]; exact hL2
  have hL4 : LyL (mxA σ4) (mxR σ4) l := by rw [e4]; exact hL3
  have c10 : mxI σ4 l 10 = 0 := by rw [e4]; exact sI_e
  have c6 : mxI σ4 l 6 = 0 := by rw [e4, sI_n (by omega), e3]; exact sI_e
  have c3 : mxI σ4 l 3 = 0 := by rw [e4, sI_n (by omega), e3, sI_n (by omega), e2]; exact sI_e
  have c2 : mxI σ4 l 2 = 0 := by rw [e4, sI_n (by omega), e3, sI_n (by omega), e2, sI_n (by omega), e1]; exact sI_e
  have hE4 : ∀ q, bx σ4 l q → RB (rd σ4 q) (E q) := fun q hq => by
    have hq' : bx σ l q := (bx_A s4.1).mp hq
    have hne : q ≠ l := fun e => nb_o hL (e ▸ hq')
    have g : ∀ j', mxI σ4 q j' = mxI σ q j' ∧ mxL σ4 q j' = mxL σ q j' := fun j' => s4.2.2.2 _ _ (fun z => hne z.1)
    have := hE q hq'
    unfold rd at this ⊢
    rw [(g 0).2, (g 1).2, (g 2).1]; exact this
  have hz4 := LZ_0 (pl := pl) c2 c3 c6 hE4 (fun i hi => ⟨(s4.2.2.2 _ _ (fun z => by omega)).1.trans (hpl i hi).1, (hpl i hi).2⟩)
  -- the four inputs
  obtain ⟨σ5, e5, f5, d10, E5, pl5, h05, hz5⟩ := c_mv0 (P := P) (t := t) hf hL4 hbl hz4 c10
  have s5 : Fz (isF l t) σ σ5 := (s4.mo fun q j z => by unfold isF; omega).tr (f5.mo fun q j z => by unfold lF at z; unfold isF; omega)
  obtain ⟨⟨g2, g3, -, g4, -⟩, ⟨-, -, -, -, -, gE⟩, ⟨⟨-, gM⟩, -⟩, g6, -⟩ := hz5
  have tc : ∀ q j, q < l → mxI σ5 q j = mxI σ q j ∧ mxL σ5 q j = mxL σ q j := fun q j hq => by
    have a := s4.2.2.2 q j (fun z => by omega)
    have b := f5.2.2.2 q j (fun z => by unfold lF at z; omega)
    exact ⟨b.1.trans a.1, b.2.trans a.2⟩
  have hT5 := s5.T hT
  have hC5 : TC σ5 t bl := TC_cg hC (tc _ _ (by omega)).1 (fun q => (tc _ _ (by omega)).1)
  have hL5 : LyL (mxA σ5) (mxR σ5) l := by rw [s5.1, s5.2.1]; exact hL
  -- the first reading
  obtain ⟨K, e, σ6, hTx, e6, a4, aN, aS, aT, f6⟩ := c_gram (P := P) (i := 0) hN (by omega) hf hT5 hbt hC5
  have s6 : Fz (isF l t) σ σ6 := s5.tr (f6.mo fun q j z => by unfold gmS at z; unfold isF; omega)
  have lc : ∀ q j, l ≤ q → mxI σ6 q j = mxI σ5 q j ∧ mxL σ6 q j = mxL σ5 q j := fun q j hq => f6.2.2.2 q j (fun z => by unfold gmS at z; omega)
  have hT6 := s6.T hT
  have hL6 : LyL (mxA σ6) (mxR σ6) l := by rw [s6.1, s6.2.1]; exact hL
  have hC6 : TC σ6 t bl := TC_cg hC5 (f6.2.2.2 _ _ (fun z => by unfold gmS at z; omega)).1 (fun q => (f6.2.2.2 _ _ (fun z => by unfold gmS at z; omega)).1)
  have hE6 : ∀ q, bx σ6 l q → RB (rd σ6 q) (E5 q) := fun q hq => by
    have hq' : bx σ5 l q := (bx_A f6.1).mp hq
    have := gE q hq'
    unfold rd at this ⊢
    rw [(lc q 0 hq'.1).2, (lc q 1 hq'.1).2, (lc q 2 hq'.1).1]; exact this
  have hp6 : ∀ i, i < 4 → mxI σ6 (l + 643) i = 0 ∧ eM E5 l i = g_D 0 := fun i hi => by
    have z := h05 i hi
    refine ⟨(lc _ _ (by omega)).1.trans ((g4 i hi).1.trans (by rw [z]; rfl)), ?_⟩
    rw [gM i hi, z]
  have hpre : f_X7_isRead P l t σ = (mx_lp (f_X7_isRead_L48 P l t) (mpN P) (bI e.isNone, (0 : Int32), σ6)).bind (fun s => f_X7_isRead_D89 P l t s) := by
    unfold f_X7_isRead
    rw [bd (al_pI hL hbl _), ← e1, bd (al_pI hL1 hbl _), ← e2, bd (al_pI hL2 hbl _), ← e3, bd (al_pZ hL3 hbl (Or.inl rfl)), ← e4, bd e5]
    show ((mx_is σ5 t 10).bind fun i19 => mx_b2 (f_X10_isGrammatical P t 0 σ5) fun x22 σ21 => (mx_lp (f_X7_isRead_L48 P l t) (mpN P) (x22, (0 : Int32), σ21)).bind (fun s => (fun σ42 => f_X7_isRead_D89 P l t σ42) s)) = _
    rw [bd (at_is hT5), bd2 e6]
  have d115 : ∀ s, LyT s t → mxI s t 2 ≠ 0 → f_X7_isRead_D115 P t s = some (0, s) := fun s hs h => by
    unfold f_X7_isRead_D115 f_X7_isRead_D127
    rw [bd (at_gI hs), if_neg h, hz0]
  have d89 : ∀ s, LyT s t → mxI s t 2 ≠ 0 → f_X7_isRead_D89 P l t s = some (0, s) := fun s hs h => by
    unfold f_X7_isRead_D89
    rw [bd (at_gI hs), if_neg h, d115 s hs h]
  have h41 : ∀ c : Nat, 0 < c → c < 10 → q_n c ≠ 0 := fun c h1 h2 z => by rw [show (0 : Int32) = q_n 0 from rfl, q_nI (by omega) (by omega)] at z; omega
  cases e with
  | some q =>
    obtain ⟨a2, a3⟩ := aS q rfl
    have estop : mx_lp (f_X7_isRead_L48 P l t) (mpN P) (bI (some q : Option Nat).isNone, (0 : Int32), σ6) = some σ6 := by
      obtain ⟨fu, hfu⟩ : ∃ fu, mpN P = fu + 1 := ⟨mpN P - 1, by omega⟩
      have : f_X7_isRead_L48 P l t (bI (some q : Option Nat).isNone, (0 : Int32), σ6) = some (.inr σ6) := by
        show f_X7_isRead_B48 P l t 0 0 σ6 = _
        unfold f_X7_isRead_B48
        rw [if_neg (by decide), if_pos rfl]
      rw [hfu, mx_lpS, this]; rfl
    rw [hpre, bd estop]
    have n0 : mxI σ6 t 2 ≠ 0 := by rw [a2]; decide
    exact ⟨K, some q, 0, σ6, hTx, d89 σ6 hT6 n0, s6, Or.inl ⟨q, rfl, rfl, a2, a3, SpL_of hE6 hp6⟩⟩
  | none =>
    obtain ⟨a2, a3⟩ := aN rfl
    have hX := TxH_of hC.1 (TC_256 hC) hTx.1
    obtain ⟨σ7, e7, f7, hr⟩ := c_read2 (P := P) (E := E5) hN hf hT6 hbt hL6 hlt hC6 hX (aT rfl) hTx a4 ⟨a2, a3⟩ ((lc l 2 (by omega)).1.trans g2) ((lc l 3 (by omega)).1.trans g3) hE6
    have e7' : mx_lp (f_X7_isRead_L48 P l t) (mpN P) (bI (none : Option Nat).isNone, (0 : Int32), σ6) = some σ7 := e7
    have s7 : Fz (isF l t) σ σ7 := s6.tr (f7.mo fun q j z => by unfold rdF at z; unfold isF; omega)
    have hT7 := s7.T hT
    have hL7 : LyL (mxA σ7) (mxR σ7) l := by rw [s7.1, s7.2.1]; exact hL
    have hp7 : ∀ E', (∀ q, l + 642 ≤ q → E' q = E5 q) → ∀ i, i < 4 → mxI σ7 (l + 643) i = 0 ∧ eM E' l i = g_D 0 := fun E' hE' i hi => by
      refine ⟨(f7.2.2.2 _ _ (fun z => by unfold rdF at z; omega)).1.trans (hp6 i hi).1, ?_⟩
      rw [← (hp6 i hi).2]
      unfold eM
      rw [hE' _ (by omega), hE' _ (by omega)]
    rw [hpre, bd e7']
    rcases hr with ⟨hls, hK40, ⟨b2, b3⟩, bl2, bl3, hK8, E7, hE7, hhi, hcj⟩ | ⟨cq, hls, b2, b3, b4, b5, E7, hE7, hhi⟩
    · -- nothing lesser: the order
      obtain ⟨r, σ8, v, e8, hI, hout⟩ := c_arr (P := P) (by omega) hL7 hbl hK40 (CJ_ar hcj) bl2 (fun q hq => ⟨(hcj q hq).2.2.2.1, ms_lt hK8 hcj hq⟩)
      have f8 := hI.1
      have s8 : Fz (isF l t) σ σ8 := s7.tr (f8.mo fun q j z => by unfold isF; rcases z with z | ⟨p, z1, z2, z3⟩ <;> omega)
      have hT8 := s8.T hT
      have kp : ∀ q j, q ≠ l + 642 → (j ≠ 8 ∨ (∀ p, p < 40 → q ≠ l + 2 + 16 * p)) → mxI σ8 q j = mxI σ7 q j ∧ mxL σ8 q j = mxL σ7 q j := fun q j h1 h2 => f8.2.2.2 q j (fun z => by
        rcases z with z | ⟨p, z1, z2, z3⟩
        · exact h1 z
        · rcases h2 with h2 | h2
          · exact h2 z3
          · exact h2 p z1 z2)
      have hE8 : ∀ q, bx σ8 l q → RB (rd σ8 q) (E7 q) := fun q hq => by
        have hq' : bx σ7 l q := (bx_A f8.1).mp hq
        have n1 : q ≠ l + 642 := fun e => nb_q hL7 (e ▸ hq')
        have n2 : ∀ p, p < 40 → q ≠ l + 2 + 16 * p := fun p hp e => nb_j hL7 hp (e ▸ hq')
        have := hE7 q hq'
        unfold rd at this ⊢
        rw [(kp q 0 n1 (Or.inr n2)).2, (kp q 1 n1 (Or.inr n2)).2, (kp q 2 n1 (Or.inr n2)).1]; exact this
      have hp8 : ∀ i, i < 4 → mxI σ8 (l + 643) i = 0 ∧ eM E7 l i = g_D 0 := fun i hi => ⟨(kp _ _ (by omega) (Or.inr (fun p hp => by omega))).1.trans (hp7 E7 hhi i hi).1, (hp7 E7 hhi i hi).2⟩
      have t2 : mxI σ8 t 2 = 0 := (kp _ _ (by omega) (Or.inl (by omega))).1.trans b2
      have t3 : mxI σ8 t 3 = 0 := (kp _ _ (by omega) (Or.inl (by omega))).1.trans b3
      have hpre2 : f_X7_isRead_D89 P l t σ7 = (if r < 0 then f_X7_isRead_D115 P t σ8 else mx_b2 (f_X7_placeOfTeller P t r σ8) fun x56 σ55 => (mx_is σ55 t 10).bind fun i58 => (f_X10_note P t (4 : Int32) x56 σ55).bind fun σ60 => f_X7_isRead_D115 P t σ60) := by
        unfold f_X7_isRead_D89
        rw [bd (at_gI hT7), b2, if_pos rfl, bd (al_is hL7), bd2 e8]
      rw [hpre2]
      rcases hout with ⟨p, hp, rfl, hp1, hp2⟩ | ⟨rfl, hfull⟩
      · -- a point hangs on itself
        have hC8 : TC σ8 t bl := TC_cg hC (by rw [(s8.2.2.2 _ _ (fun z => by unfold isF at z; omega)).1]) (fun q => (s8.2.2.2 _ _ (fun z => by unfold isF at z; omega)).1)
        obtain ⟨σ9, e9, f9⟩ := c_pot (P := P) hN hf hT8 hbt hC8 hTx.1 (by omega) hp
        have hT9 := f9.T hT8
        obtain ⟨σa, ea, hna, fa⟩ := c_note (P := P) (w := (4 : Int32)) (pos := q_n (tkT bl N p 0)) hT9 hbt
        have t9 : mxI σ9 t 2 = 0 := (f9.2.2.2 _ _ (fun z => by unfold hsS at z; omega)).1.trans t2
        obtain ⟨na2, na3⟩ := hna.1 t9
        have hTa := fa.T hT9
        rw [if_neg (by rw [show (0 : Int32) = q_n 0 from rfl, q_nLt (by omega) (by omega)]; omega), bd2 e9, bd (at_is hT9), bd ea, d115 σa hTa (by rw [na2]; decide)]
        have k9 : ∀ q j, l ≤ q → mxI σa q j = mxI σ8 q j ∧ mxL σa q j = mxL σ8 q j := fun q j hq => by
          have y1 := f9.2.2.2 q j (fun z => by unfold hsS at z; omega)
          have y2 := fa.2.2.2 q j (fun z => by omega)
          exact ⟨y2.1.trans y1.1, y2.2.trans y1.2⟩
        refine ⟨K, none, 0, σa, hTx, rfl, (s8.tr (f9.mo fun q j z => by unfold hsS at z; unfold isF; omega)).tr (fa.mo fun q j z => by unfold isF; omega), Or.inr (Or.inr (Or.inl ⟨p, rfl, hls, hK40, hp, hp1, hp2, rfl, na2, na3, SpL_of (E := E7) (fun q hq => ?_) (fun i hi => ⟨(k9 _ _ (by omega)).1.trans (hp8 i hi).1, (hp8 i hi).2⟩)⟩))⟩
        have hq' : bx σ8 l q := (bx_A (fa.1.trans f9.1)).mp hq
        have := hE8 q hq'
        unfold rd at this ⊢
        rw [(k9 q 0 hq'.1).2, (k9 q 1 hq'.1).2, (k9 q 2 hq'.1).1]; exact this
      · -- all is well
        have l2 : mxI σ8 l 2 = q_n K := (kp _ _ (by omega) (Or.inl (by omega))).1.trans bl2
        obtain ⟨hk, mk, hz⟩ := LZ_t hK40 hK8 hcj hI hfull l2 ((kp _ _ (by omega) (Or.inl (by omega))).1.trans bl3) ((kp _ _ (by omega) (Or.inl (by omega))).1.trans ((f7.2.2.2 _ _ (fun z => by unfold rdF at z; omega)).1.trans ((lc _ _ (by omega)).1.trans g6))) hE8 hp8
        have ed : f_X7_isRead_D115 P t σ8 = some (1, σ8) := by
          unfold f_X7_isRead_D115 f_X7_isRead_D127
          rw [bd (at_gI hT8), t2, if_pos rfl, hz1]
        rw [if_pos (by decide), ed]
        refine ⟨K, none, 1, σ8, hTx, rfl, s8, Or.inr (Or.inr (Or.inr ⟨rfl, hls, hK40, hfull, rfl, t2, t3, l2, hk, ⟨_, _, mk, hz⟩, ?_, fun p hp => ?_⟩))⟩
        · exact (kp _ _ (by omega) (Or.inl (by omega))).1.trans ((f7.2.2.2 _ _ (fun z => by unfold rdF at z; omega)).1.trans ((lc _ _ (by omega)).1.trans d10))
        · obtain ⟨-, -, -, -, ⟨q1, q2, q3, q4, q5⟩, -⟩ := hcj p hp
          have z0 : (0 : Int32).toInt = 0 := rfl
          refine ⟨?_, ?_, ?_, ?_⟩
          · rw [(kp _ _ (by omega) (Or.inl (by omega))).1, q3, z0]; rfl
          · rw [(kp _ _ (by omega) (Or.inl (by omega))).1, q4, z0]; rfl
          · rw [(kp _ _ (by omega) (Or.inl (by omega))).1, q5, z0]; rfl
          · rw [(kp _ _ (by omega) (Or.inl (by omega))).2, q1]; rfl
    · -- a lesser fault
      rw [d89 σ7 hT7 (by rw [b2]; exact h41 _ b4 b5)]
      exact ⟨K, none, 0, σ7, hTx, rfl, s7, Or.inr (Or.inl ⟨cq, rfl, hls, rfl, b2, b3, SpL_of hE7 (hp7 E7 hhi)⟩)⟩
end IJS
