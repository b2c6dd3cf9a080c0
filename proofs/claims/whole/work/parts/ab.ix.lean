/-! ===== ix: linkage, the reference's ===== -/
section IXS
variable {P : mx_P} {σ σ0 σ1 σ2 τ : mx_S} {x m n t l p q a N i k j u v w K c s f r : Nat} {bl : List Nat} {S : Nat → Nat → Prop}
/-- what a text that is refused changes -/
def lkB (m : Nat) : Nat → Nat → Prop := fun q j => (q = m ∧ (j = 0 ∨ 2 ≤ j ∧ j ≤ 7 ∨ 14 ≤ j ∧ j ≤ 18 ∨ j = 38 ∨ j = 50 ∨ j = 53)) ∨ (m + 22 ≤ q ∧ q ≤ m + 34)
/-- what a text that is taken changes -/
def lkG (m : Nat) : Nat → Nat → Prop := fun q j => lkB m q j ∨ (q = m ∧ (j = 19 ∨ j = 20)) ∨ (m + 5 ≤ q ∧ q ≤ m + 21)
theorem TkR_f (h : TkR σ m bl s) (f : Fz S σ τ) (hs : ∀ q j, S q j → ¬ (q = m ∧ 14 ≤ j ∧ j ≤ 18)) : TkR τ m bl s := by
  obtain ⟨h1, h2, h3, h4⟩ := h
  have g : ∀ j, 14 ≤ j ∧ j ≤ 18 → mxI τ m j = mxI σ m j ∧ mxL τ m j = mxL σ m j := fun j h => f.2.2.2 m j (fun z => hs m j z ⟨rfl, h⟩)
  refine ⟨fun k => (g 14 (by omega)).1.trans (h1 k), (g 15 (by omega)).1.trans h2, (g 16 (by omega)).1.trans h3, fun k => ?_⟩
  rw [(g 17 (by omega)).2, (g 18 (by omega)).2]; exact h4 k
theorem r_sta (hN : N = 4000) (hf : 20000 ≤ mpN P) (hb : mpb P ≤ m) (hM : LyM σ m) (hT : TR σ m bl) : ∃ σ0 τ, f_X12_starts P m σ = some τ ∧ Fz (fun q j => q = m ∧ 2 ≤ j ∧ j ≤ 5) σ σ0 ∧ (mxI σ0 m 2 = 0 ∧ mxI σ0 m 4 = 0 ∧ mxI σ0 m 5 = 0) ∧ TS σ0 m bl ∧ LyM σ0 m ∧ Fz (fun q j => q = m ∧ (j = 6 ∨ 14 ≤ j ∧ j ≤ 18)) σ0 τ ∧ mxI τ m 6 = 0 ∧ TkR τ m bl (tkI bl N 0 0) := by
  obtain ⟨t1, e1⟩ : ∃ t1, t1 = mx_setI σ m 3 (q_n bl.length) := ⟨_, rfl⟩
  obtain ⟨t2, e2⟩ : ∃ t2, t2 = mx_setI t1 m 2 0 := ⟨_, rfl⟩
  obtain ⟨t3, e3⟩ : ∃ t3, t3 = mx_setI t2 m 4 0 := ⟨_, rfl⟩
  obtain ⟨t4, e4⟩ : ∃ t4, t4 = mx_setI t3 m 5 0 := ⟨_, rfl⟩
  obtain ⟨t5, e5⟩ : ∃ t5, t5 = mx_setI t4 m 14 0 := ⟨_, rfl⟩
  obtain ⟨t6, e6⟩ : ∃ t6, t6 = mx_setI t5 m 6 0 := ⟨_, rfl⟩
  have h1 : LyM t1 m := by rw [e1]; exact hM
  have h2 : LyM t2 m := by rw [e2]; exact h1
  have h3 : LyM t3 m := by rw [e3]; exact h2
  have h4 : LyM t4 m := by rw [e4]; exact h3
  have h5 : LyM t5 m := by rw [e5]; exact h4
  have h6 : LyM t6 m := by rw [e6]; exact h5
  have F4 : Fz (fun q j => q = m ∧ 2 ≤ j ∧ j ≤ 5) σ t4 := by
    rw [e4, e3, e2, e1]
    exact (((Fz.rf.sI ⟨rfl, by omega, by omega⟩ _).sI ⟨rfl, by omega, by omega⟩ _).sI ⟨rfl, by omega, by omega⟩ _).sI ⟨rfl, by omega, by omega⟩ _
  have hS4 : TS t4 m bl := by
    refine ⟨hT.1, ?_, fun k b hk => ⟨(hT.2.2 k b hk).1, ?_⟩⟩
    · rw [e4, sI_n (by omega), e3, sI_n (by omega), e2, sI_n (by omega), e1]; exact sI_e
    · rw [(F4.2.2.2 _ _ (fun z => by omega)).1]; exact (hT.2.2 k b hk).2
  have F6 : Fz (fun q j => q = m ∧ (j = 6 ∨ 14 ≤ j ∧ j ≤ 18)) t4 t6 := by
    rw [e6, e5]
    exact (Fz.rf.sI ⟨rfl, by omega⟩ _).sI ⟨rfl, by omega⟩ _
  have hS6 : TS t6 m bl := TS_f hS4 F6 (fun q j z => by omega)
  have c14 : mxI t6 m 14 = q_n 0 := by rw [e6, sI_n (by omega), e5]; exact sI_e
  obtain ⟨τ, es, hk, f⟩ := r_tok (P := P) hN hf h6 hb hS6 c14 (Nat.zero_le _)
  refine ⟨t4, τ, ?_, F4, ⟨?_, ?_, ?_⟩, hS4, h4, F6.tr (f.mo fun q j z => ⟨z.1, Or.inr z.2⟩), ?_, hk⟩
  · unfold f_X12_starts
    have et : f_X12_takeInput P m σ = some t4 := by
      unfold f_X12_takeInput
      rw [bd (am_gI hM), hT.2.1, bd (am_pI hM hb _), ← e1, bd (am_pI h1 hb _), ← e2, bd (am_pI h2 hb _), ← e3, bd (am_pI h3 hb _), ← e4]
    rw [bd (am_is hM), bd et, bd (am_pI h4 hb _), ← e5, bd (am_pI h5 hb _), ← e6, bd (am_is h6), bd es]
  · rw [e4, sI_n (by omega), e3, sI_n (by omega), e2]; exact sI_e
  · rw [e4, sI_n (by omega), e3]; exact sI_e
  · rw [e4]; exact sI_e
  · rw [(f.2.2.2 _ _ (fun z => by omega)).1, e6]; exact sI_e
theorem RQ_0 (hM : LyM σ0 m) (hT : TS σ0 m bl) (f : Fz (rlF m) σ0 τ) (h4 : mxI τ m 4 = 0) (h5 : mxI τ m 5 = 0) (h6 : mxI τ m 6 = 0) (h38 : mxI τ m 38 = 0) (h50 : mxI τ m 50 = 0) (h53 : mxI τ m 53 = 0) : RQ σ0 m bl N 0 0 0 τ := by
  refine ⟨⟨f.M hM, TS_f hT f (fun q j z => by unfold rlF at z; omega), f⟩, ⟨h4, h5⟩, ⟨h38, fun v hv => absurd hv (Nat.not_lt_zero v)⟩, ⟨[], h50, Nat.zero_le _, fun i s hi => (by cases hi), fun s => ⟨fun z => (by cases z), fun z => ?_⟩⟩, ⟨none, h6, fun s c z => ?_⟩, ?_, fun v i hb => ?_, fun v hv => absurd hv (Nat.not_lt_zero v)⟩
  · obtain ⟨v, i, hb, -⟩ := z
    exact absurd (bfr_z.mp hb).1 (Nat.not_lt_zero v)
  · obtain ⟨v, i, hb, -⟩ := z
    exact absurd (bfr_z.mp hb).1 (Nat.not_lt_zero v)
  · rw [h53]
    unfold akA
    rw [if_pos (by omega), mkT]
    rfl
  · exact absurd (bfr_z.mp hb).1 (Nat.not_lt_zero v)
theorem ts_B (hM : LyM τ m) (hb : mpb P ≤ m) (hc0 : 0 < c) (hc : c < 10) (h4 : mxI τ m 4 = q_n c) : f_X12_linkage_D122 P m τ = some (0, mx_setI τ m 0 1) := by
  have hM' : LyM (mx_setI τ m 0 1) m := hM
  have t : f_X12_tossFault P m τ = some (mx_setI τ m 0 1) := by
    unfold f_X12_tossFault f_X12_tossFault_D26 f_X12_tossFault_D39
    rw [bd (am_gI hM), h4, if_neg (fun z => by rw [show (0 : Int32) = q_n 0 from rfl, q_nI (by omega) (by omega)] at z; omega), bd (am_gI hM), h4, if_neg (fun z => by rw [show (0 : Int32) = q_n 0 from rfl, q_nLe (by omega) (by omega)] at z; omega), bd (am_pI hM hb _)]
  unfold f_X12_linkage_D122
  rw [bd (am_is hM), bd t, bd (am_gI hM'), sI_e, if_neg (show ¬ (1 : Int32) ≤ 0 by decide)]
theorem ts_L (hM : LyM τ m) (hb : mpb P ≤ m) (h4 : mxI τ m 4 = 0) (hF : FtL τ m (some (c, q))) : ∃ τ2, f_X12_linkage_D122 P m τ = some (0, τ2) ∧ mxI τ2 m 0 = 1 ∧ mxI τ2 m 4 = q_n c ∧ mxI τ2 m 5 = q_n q ∧ Fz (fun q j => q = m ∧ (j = 0 ∨ j = 4 ∨ j = 5)) τ τ2 := by
  obtain ⟨a1, a2, a3, a4, a5⟩ := hF
  obtain ⟨τ1, e, b1, b2, f⟩ := r_wrg (P := P) (w := q_n c) (v := q_n q) hM hb h4
  have hM1 := f.M hM
  have hM' : LyM (mx_setI τ1 m 0 1) m := hM1
  have t : f_X12_tossFault P m τ = some (mx_setI τ1 m 0 1) := by
    unfold f_X12_tossFault f_X12_tossFault_D26 f_X12_tossFault_D39
    rw [bd (am_gI hM), h4, if_pos rfl, bd (am_gI hM), a4, if_neg (fun z => by rw [show (0 : Int32) = q_n 0 from rfl, q_nLe (by omega) (by omega)] at z; omega), bd (am_gI hM), a4, bd (am_gI hM), a5, bd (am_is hM), bd e, bd (am_gI hM1), b1, if_neg (fun z => by rw [show (0 : Int32) = q_n 0 from rfl, q_nLe (by omega) (by omega)] at z; omega), bd (am_pI hM1 hb _)]
  refine ⟨mx_setI τ1 m 0 1, ?_, sI_e, ?_, ?_, (f.mo fun q j z => ⟨z.1, Or.inr z.2⟩).sI ⟨rfl, Or.inl rfl⟩ _⟩
  · unfold f_X12_linkage_D122
    rw [bd (am_is hM), bd t, bd (am_gI hM'), sI_e, if_neg (show ¬ (1 : Int32) ≤ 0 by decide)]
  · rw [sI_n (by omega)]; exact b1
  · rw [sI_n (by omega)]; exact b2
def gdF (m : Nat) : Nat → Nat → Prop := fun q j => (q = m ∧ (j = 0 ∨ j = 19 ∨ j = 20)) ∨ (m + 5 ≤ q ∧ q ≤ m + 21)
theorem r_good {sA lA : Nat → Nat} (hf : 5000 ≤ mpN P) (hb : mpb P ≤ m) (hM : LyM σ m) (hK : K ≤ 40) (h4 : mxI σ m 4 = 0) (h6 : mxI σ m 6 = 0) (h38 : mxI σ m 38 = q_n K) (hn : ∀ p, p < K → lA p ≤ 8 ∧ sA p + lA p ≤ 4000 ∧ mxI σ (m + 22) p = q_n (sA p) ∧ mxI σ (m + 23) p = q_n (lA p)) : ∃ τ, f_X12_linkage_D122 P m σ = some (q_n K, τ) ∧ Fz (gdF m) σ τ ∧ mxI τ m 0 = 0 ∧ mxI τ m 19 = q_n K ∧ mxI τ m 20 = mxI σ m 53 ∧ (∀ p, p < K → Cpy σ τ m p (sA p) (lA p)) ∧ (∀ i, i < 4 * K → mxI τ (m + 6) i = mxI σ (m + 30) i) ∧ ∀ i, i < 4 → mxI τ (m + 18) i = 0 := by
  obtain ⟨t1, e1⟩ : ∃ t1, t1 = mx_setI σ m 0 0 := ⟨_, rfl⟩
  obtain ⟨t2, e2⟩ : ∃ t2, t2 = mx_setI t1 m 19 (q_n K) := ⟨_, rfl⟩
  obtain ⟨t3, e3⟩ : ∃ t3, t3 = mx_setI t2 m 20 (mxI σ m 53) := ⟨_, rfl⟩
  have h1 : LyM t1 m := by rw [e1]; exact hM
  have h2 : LyM t2 m := by rw [e2]; exact h1
  have h3 : LyM t3 m := by rw [e3]; exact h2
  have F3 : Fz (fun q j => q = m ∧ (j = 0 ∨ j = 19 ∨ j = 20)) σ t3 := by
    rw [e3, e2, e1]
    exact ((Fz.rf.sI ⟨rfl, by omega⟩ _).sI ⟨rfl, by omega⟩ _).sI ⟨rfl, by omega⟩ _
  have g3 : ∀ q j, q ≠ m → mxI t3 q j = mxI σ q j ∧ mxL t3 q j = mxL σ q j := fun q j z => F3.2.2.2 q j (fun y => z y.1)
  have c19 : mxI t3 m 19 = q_n K := by rw [e3, sI_n (by omega), e2]; exact sI_e
  obtain ⟨t4, e4, F4, C4⟩ := r_cpy (P := P) (sA := sA) (lA := lA) hf hb h3 hK c19 (fun p hp => by
    obtain ⟨n1, n2, n3, n4⟩ := hn p hp
    exact ⟨n1, n2, (g3 _ _ (by omega)).1.trans n3, (g3 _ _ (by omega)).1.trans n4⟩)
  have c19' : mxI t4 m 19 = q_n K := (F4.2.2.2 _ _ (fun z => by unfold cpF at z; omega)).1.trans c19
  obtain ⟨t5, e5, F5, C5⟩ := r_cpo (P := P) hf hb (F4.M h3) hK c19'
  obtain ⟨t6, e6, F6, C6⟩ := r_cp0 (P := P) hf hb (F5.M (F4.M h3))
  have h6M := F6.M (F5.M (F4.M h3))
  have up : ∀ j, mxI t6 m j = mxI t3 m j := fun j => (F6.2.2.2 _ _ (fun z => by omega)).1.trans ((F5.2.2.2 _ _ (fun z => by omega)).1.trans (F4.2.2.2 _ _ (fun z => by unfold cpF at z; omega)).1)
  refine ⟨t6, ?_, ?_, ?_, (up 19).trans c19, ?_, fun p hp => ?_, fun i hi => ?_, C6⟩
  · have t : f_X12_tossFault P m σ = some t1 := by
      unfold f_X12_tossFault f_X12_tossFault_D26 f_X12_tossFault_D39
      rw [bd (am_gI hM), h4, if_pos rfl, bd (am_gI hM), h6, if_pos (show (0 : Int32) ≤ 0 by decide), bd (am_gI hM), h4, if_pos (show (0 : Int32) ≤ 0 by decide), bd (am_pI hM hb _), ← e1]
    have z1 : mxI t1 m 0 = 0 := by rw [e1]; exact sI_e
    have z38 : mxI t1 m 38 = q_n K := by rw [e1, sI_n (by omega)]; exact h38
    have z53 : mxI t2 m 53 = mxI σ m 53 := by rw [e2, sI_n (by omega), e1, sI_n (by omega)]
    unfold f_X12_linkage_D122
    rw [bd (am_is hM), bd t, bd (am_gI h1), z1, if_pos (show (0 : Int32) ≤ 0 by decide), bd (am_gI h1), z38, bd (am_pI h1 hb _), ← e2, bd (am_gI h2), z53, bd (am_pI h2 hb _), ← e3, bd e4]
    try dsimp only
    rw [bd e5]
    try dsimp only
    rw [bd e6]
    try dsimp only
    rw [bd (am_gI h6M), up 19, c19]
  · exact (((F3.mo fun q j z => Or.inl z).tr (F4.mo fun q j z => Or.inr z)).tr (F5.mo fun q j z => by unfold cpF; omega)).tr (F6.mo fun q j z => by unfold cpF; omega)
  · rw [up 0, e3, sI_n (by omega), e2, sI_n (by omega), e1]; exact sI_e
  · rw [up 20, e3]; exact sI_e
  · have a := Cpy_s (fun q k z => g3 q k (by omega)) (C4 p hp)
    have hL := (hn p hp).1
    exact Cpy_t hL F6 (fun q k z y => by unfold cpR at y; omega) (Cpy_t hL F5 (fun q k z y => by unfold cpR at y; omega) a)
  · rw [(F6.2.2.2 _ _ (fun z => by omega)).1, C5 i hi, (F4.2.2.2 _ _ (fun z => by unfold cpF at z; omega)).1, (g3 _ _ (by omega)).1]
/-- what comes of a linkage's text in the reference -/
def OutR (σ : mx_S) (bl : List Nat) (N K : Nat) (e : Option Nat) (m : Nat) (r : Int32) (τ : mx_S) : Prop :=
  (∃ q, e = some q ∧ r = 0 ∧ mxI τ m 0 = 1 ∧ mxI τ m 4 = 1 ∧ mxI τ m 5 = q_n q ∧ Fz (lkB m) σ τ) ∨
  (∃ cq : Nat × Nat, e = none ∧ lsF bl N K K = some cq ∧ r = 0 ∧ mxI τ m 0 = 1 ∧ mxI τ m 4 = q_n cq.1 ∧ mxI τ m 5 = q_n cq.2 ∧ Fz (lkB m) σ τ) ∨
  (∃ p, e = none ∧ lsF bl N K K = none ∧ p < K ∧ p ∉ oTx bl N K ∧ (∀ q, q < p → q ∈ oTx bl N K) ∧ r = 0 ∧ mxI τ m 0 = 1 ∧ mxI τ m 4 = 4 ∧ mxI τ m 5 = q_n (tkT bl N p 0) ∧ Fz (lkB m) σ τ) ∨
  (e = none ∧ lsF bl N K K = none ∧ (∀ q, q < K → q ∈ oTx bl N K) ∧ r = q_n K ∧ mxI τ m 0 = 0 ∧ mxI τ m 4 = 0 ∧ mxI τ m 5 = 0 ∧ Fz (lkG m) σ τ ∧ (kT (LKx bl N K) → RK τ m (LKx bl N K) (fun _ => 0)) ∧ rB τ m K (BTx bl N))
theorem r_link (hN : N = 4000) (hf : 20000 ≤ mpN P) (hb : mpb P ≤ m) (hM : LyM σ m) (hT : TR σ m bl) : ∃ K e r τ, Txt bl N 0 K e ∧ f_X12_linkage P m σ = some (r, τ) ∧ mxI τ m 2 = 0 ∧ OutR σ bl N K e m r τ := by
  obtain ⟨σ0, s1, es, f0, ⟨z2, z4, z5⟩, hS0, hM0, fs, z6, hk⟩ := r_sta (P := P) hN hf hb hM hT
  have hlen := hT.1
  have h256 := TS_256 hS0
  have hMs : LyM s1 m := fs.M hM0
  obtain ⟨s2, e2⟩ : ∃ s2, s2 = mx_setI s1 m 38 0 := ⟨_, rfl⟩
  obtain ⟨s3, e3⟩ : ∃ s3, s3 = mx_setI s2 m 50 0 := ⟨_, rfl⟩
  obtain ⟨s4, e4⟩ : ∃ s4, s4 = mx_setI s3 m 53 0 := ⟨_, rfl⟩
  have hM2 : LyM s2 m := by rw [e2]; exact hMs
  have hM3 : LyM s3 m := by rw [e3]; exact hM2
  have F4 : Fz (fun q j => q = m ∧ (j = 38 ∨ j = 50 ∨ j = 53)) s1 s4 := by
    rw [e4, e3, e2]
    exact ((Fz.rf.sI ⟨rfl, by omega⟩ _).sI ⟨rfl, by omega⟩ _).sI ⟨rfl, by omega⟩ _
  have F04 : Fz (rlF m) σ0 s4 := (fs.mo fun q j z => by unfold rlF; omega).tr (F4.mo fun q j z => by unfold rlF; omega)
  have c4 : ∀ j, j = 2 ∨ j = 4 ∨ j = 5 → mxI s4 m j = 0 := fun j hj => by
    rw [(F4.2.2.2 _ _ (fun z => by omega)).1, (fs.2.2.2 _ _ (fun z => by omega)).1]
    rcases hj with rfl | rfl | rfl
    · exact z2
    · exact z4
    · exact z5
  have hQ : RQ σ0 m bl N 0 0 0 s4 := RQ_0 hM0 hS0 F04 (c4 4 (by omega)) (c4 5 (by omega)) ((F4.2.2.2 _ _ (fun z => by omega)).1.trans z6) (by rw [e4, sI_n (by omega), e3, sI_n (by omega), e2]; exact sI_e) (by rw [e4, sI_n (by omega), e3]; exact sI_e) (by rw [e4]; exact sI_e)
  have hk4 : TkR s4 m bl (tkI bl N 0 0) := TkR_f hk F4 (fun q j z => by omega)
  obtain ⟨s5, e5, K, e, hTx, hO⟩ := r_txt (P := P) hN hf hb hQ hk4
  have hlk : f_X12_linkage P m σ = f_X12_linkage_D40 P m s5 := by
    unfold f_X12_linkage
    rw [bd (am_is hM), bd es, bd (am_pI hMs hb _), ← e2, bd (am_pI hM2 hb _), ← e3, bd (am_pI hM3 hb _), ← e4, bd e5]
  have f0B : Fz (lkB m) σ σ0 := f0.mo fun q j z => by unfold lkB; omega
  have rB' : ∀ {τ τ' : mx_S}, Fz (rlF m) τ τ' → Fz (lkB m) τ τ' := fun f => f.mo fun q j z => by unfold rlF at z; unfold lkB; omega
  refine ⟨K, e, ?_⟩
  rw [hlk]
  unfold f_X12_linkage_D40 f_X12_linkage_D51
  cases e with
  | some q =>
    obtain ⟨hB5, h14, h15⟩ := hO
    have hM5 := hB5.1
    rw [bd (am_gI hM5), h14, if_neg zi10, bd (am_gI hM5), h14, if_neg zi10, ts_B (c := 1) hM5 hb (by omega) (by omega) h14]
    refine ⟨0, _, hTx, rfl, ?_, Or.inl ⟨q, rfl, rfl, sI_e, ?_, ?_, (f0B.tr (rB' hB5.2.2)).sI (Or.inl ⟨rfl, Or.inl rfl⟩) _⟩⟩
    · rw [sI_n (by omega), (hB5.2.2.2.2.2 _ _ (fun z => by unfold rlF at z; omega)).1]; exact z2
    · rw [sI_n (by omega)]; exact h14
    · rw [sI_n (by omega)]; exact h15
  | none =>
    have hR : RQ σ0 m bl N K K 0 s5 := hO
    have hG : GdT bl N K := hTx.1
    have h9 := sqA_9 h256 hTx.1 K (Nat.le_refl _)
    have hsq := sqA_b hTx.1
    have hK460 : K < 460 := by have := (hsq K (Nat.le_refl _)).2; omega
    have hB5 := hR.1
    have hM5 := hB5.1
    have a4 := hR.2.1.1
    obtain ⟨s6, e6, F6, hF6⟩ := r_fnm (P := P) hf hb hG hK460 hR
    have hM6 := F6.M hM5
    have k4 : mxI s6 m 4 = 0 := (F6.2.2.2 _ _ (fun z => by unfold fnF at z; omega)).1.trans a4
    have k5 : mxI s6 m 5 = 0 := (F6.2.2.2 _ _ (fun z => by unfold fnF at z; omega)).1.trans hR.2.1.2
    have F06 : Fz (rlF m) σ0 s6 := hB5.2.2.tr (F6.mo fun q j z => by unfold fnF at z; unfold rlF; omega)
    rw [bd (am_gI hM5), a4, if_pos rfl, bd (am_is hM5), bd e6, bd (am_gI hM6), k4, if_pos rfl, bd (am_gI hM6)]
    cases hls : lsF bl N K K with
    | some cq =>
      obtain ⟨c, q⟩ := cq
      rw [hls] at hF6
      obtain ⟨τ2, e7, b0, b4, b5, f7⟩ := ts_L (P := P) hM6 hb k4 hF6
      rw [hF6.2.2.2.1, if_neg (fun z => by have h1 := hF6.1; have h2 := hF6.2.1; rw [show (0 : Int32) = q_n 0 from rfl, q_nI (by omega) (by omega)] at z; omega), e7]
      refine ⟨0, τ2, hTx, rfl, ?_, Or.inr (Or.inl ⟨(c, q), rfl, hls, rfl, b0, b4, b5, (f0B.tr (rB' F06)).tr (f7.mo fun q j z => by unfold lkB; omega)⟩)⟩
      rw [(f7.2.2.2 _ _ (fun z => by omega)).1, (F06.2.2.2 _ _ (fun z => by unfold rlF at z; omega)).1]; exact z2
    | none =>
      rw [hls] at hF6
      have hK : K ≤ 40 := ls_40 h256 hG hls
      have hTS6 : TS s6 m bl := TS_f hB5.2.1 F6 (fun q j z => by unfold fnF at z; omega)
      have hNm6 : NmR s6 m bl N K := NmR_f hR.2.2.1 F6 (fun q j z => by unfold fnF at z; omega)
      have hRc6 : RcR s6 m bl N K 0 := RcR_f hR.2.2.2.2.2.2.1 F6 (fun q j z => by unfold fnF at z; omega)
      have hUn6 : UnR s6 m bl N K := UnR_f hR.2.2.2.2.2.2.2 F6 (fun q j z => by unfold fnF at z; omega)
      have hA6 : mxI s6 m 53 = q_n (akA bl N K 0) := (F6.2.2.2 _ _ (fun z => by unfold fnF at z; omega)).1.trans hR.2.2.2.2.2.1
      obtain ⟨s7, e7, F7, hO7⟩ := r_on (P := P) hf hb hG hK hM6 hTS6 hNm6 hRc6 hUn6
      have hM7 := F7.M hM6
      have hNm7 : NmR s7 m bl N K := NmR_f hNm6 F7 (fun q j z => by omega)
      have q4 : mxI s7 m 4 = 0 := (F7.2.2.2 _ _ (fun z => by omega)).1.trans k4
      obtain ⟨s8, e8, h8⟩ := r_fo (P := P) (by omega) hb hM7 hK h256 hG hls hO7 hNm7 q4
      rw [show mxI s6 m 6 = 0 from hF6, if_pos rfl, bd e7]
      try dsimp only
      rw [bd (am_is hM7), bd e8]
      have F07 : Fz (rlF m) σ0 s7 := F06.tr (F7.mo fun q j z => by unfold rlF; omega)
      rcases h8 with ⟨p, p1, p2, p3, p4, p5, F8⟩ | ⟨hfull, F8, hOr8⟩
      · have F08 : Fz (rlF m) σ0 s8 := F07.tr (F8.mo fun q j z => by unfold foF orF wrF at z; unfold rlF; omega)
        rw [ts_B (c := 4) (F8.M hM7) hb (by omega) (by omega) p4]
        refine ⟨0, _, hTx, rfl, ?_, Or.inr (Or.inr (Or.inl ⟨p, rfl, hls, p1, p2, p3, rfl, sI_e, ?_, ?_, (f0B.tr (rB' F08)).sI (Or.inl ⟨rfl, Or.inl rfl⟩) _⟩))⟩
        · rw [sI_n (by omega), (F08.2.2.2 _ _ (fun z => by unfold rlF at z; omega)).1]; exact z2
        · rw [sI_n (by omega)]; exact p4
        · rw [sI_n (by omega)]; exact p5
      · have F08 : Fz (rlF m) σ0 s8 := F07.tr (F8.mo fun q j z => by unfold orF at z; unfold rlF; omega)
        have hM8 := F8.M hM7
        have g8 : ∀ q j, q ≠ m + 30 → ¬ orF m q j → mxI s8 q j = mxI s6 q j := fun q j z1 z2 => (F8.2.2.2 _ _ z2).1.trans (F7.2.2.2 _ _ z1).1
        have F78 : Fz (fun q j => q = m + 30 ∨ orF m q j) s6 s8 := (F7.mo fun _ _ z => Or.inl z).tr (F8.mo fun _ _ z => Or.inr z)
        have hTS8 : TS s8 m bl := TS_f hTS6 F78 (fun q j z => by unfold orF at z; omega)
        have hNm8 : NmR s8 m bl N K := NmR_f hNm6 F78 (fun q j z => by unfold orF at z; omega)
        have hRc8 : RcR s8 m bl N K 0 := RcR_f hRc6 F78 (fun q j z => by unfold orF at z; omega)
        have hO8 : OnR s8 m bl N K := fun v hv k hk => (F8.2.2.2 _ _ (fun z => by unfold orF at z; omega)).1.trans (hO7 v hv k hk)
        have hT0 : ∀ p, p < K → tkT bl N p 0 ≤ bl.length := fun p hp => tkT_le (hsq p (by omega)).2
        obtain ⟨τ, e9, F9, b0, b19, b20, hC, hc6, hc18⟩ := r_good (P := P) (sA := fun p => tkT bl N p 0) (lA := fun p => enA bl (tkT bl N p 0) - tkT bl N p 0) (by omega) hb hM8 hK ((g8 _ _ (by omega) (by unfold orF; omega)).trans k4) ((g8 _ _ (by omega) (by unfold orF; omega)).trans hF6) hNm8.1 (fun p hp => by
          obtain ⟨hh, hfit, -, -⟩ := gd_h h256 hG hp
          have hn3 : 3 ≤ nT bl N p := (n_6 ⟨_, hh.2.2.1⟩).2
          have k2 : kdA bl (tkT bl N p 0) = 2 := by
            have := hfit 0 (by omega)
            rw [show lT bl N p 0 = 67 from (lf_n ⟨_, hh.2.2.1⟩).2.2.2] at this
            exact fit_2 (Or.inl rfl) this
          have hg := (wd_gnm h256 k2).2.1
          rw [seg_len (hT0 p hp)] at hg
          have he := enA_le (bs := bl) (hT0 p hp)
          exact ⟨hg, by omega, (hNm8.2 p hp).1, (hNm8.2 p hp).2⟩)
        rw [e9]
        have w53 : kT (LKx bl N K) → mxI s8 m 53 = q_n (mkT bl N K) := fun hk => by
          rw [g8 _ _ (by omega) (by unfold orF; omega), hA6]
          unfold akA
          have h8 : mkT bl N K ≤ 8 := hk.2.1
          rw [if_pos (by omega), show min (mkT bl N K) 8 = mkT bl N K by omega]
        refine ⟨q_n K, τ, hTx, rfl, ?_, Or.inr (Or.inr (Or.inr ⟨rfl, hls, hfull, rfl, b0, ?_, ?_, ?_, fun hk => RK_t h256 hG hK hls hk hfull hRc8 hO8 hOr8 b19 (b20.trans (w53 hk)) hC hc6 hc18, rB_t hTS8 hT0 hNm8 hC⟩))⟩
        · rw [(F9.2.2.2 _ _ (fun z => by unfold gdF at z; omega)).1, (F08.2.2.2 _ _ (fun z => by unfold rlF at z; omega)).1]; exact z2
        · rw [(F9.2.2.2 _ _ (fun z => by unfold gdF at z; omega)).1, g8 _ _ (by omega) (by unfold orF; omega)]; exact k4
        · rw [(F9.2.2.2 _ _ (fun z => by unfold gdF at z; omega)).1, g8 _ _ (by omega) (by unfold orF; omega)]; exact k5
        · exact ((f0B.tr (rB' F08)).mo fun q j z => Or.inl z).tr (F9.mo fun q j z => by unfold gdF at z; unfold lkB; omega)
end IXS
