/-! ===== lq: drive, the reference ===== -/
section LQS
variable {P : mx_P} {σ σ0 σ1 σ2 τ : mx_S} {x m n t l p a N i k j u v c f s b q K nk : Nat} {bl w : List Nat} {S : Nat → Nat → Prop} {e : Option Nat} {fs : Option (Nat × Nat)} {B : LB} {KL : LK} {pl : Nat → Nat} {O : OD}
def vkB (m q j : Nat) : Prop := (q = m ∧ (j = 0 ∨ 2 ≤ j ∧ j ≤ 7 ∨ 14 ≤ j ∧ j ≤ 18 ∨ j = 105)) ∨ (m + 72 ≤ q ∧ q ≤ m + 77)
def vkG (m q j : Nat) : Prop := vkB m q j ∨ (q = m ∧ (j = 54 ∨ j = 55 ∨ j = 95 ∨ j = 102 ∨ j = 103 ∨ j = 112 ∨ j = 113)) ∨ (m + 65 ≤ q ∧ q ≤ m + 71) ∨ q = m + 2 ∨ q = m + 3 ∨ q = m + 4 ∨ q = m + 18 ∨ q = m + 35
theorem tv_B (hM : LyM τ m) (hb : mpb P ≤ m) (hc0 : 0 < c) (hc : c < 10) (h4 : mxI τ m 4 = q_n c) : f_X12_drive_D30 P m τ = some (0, mx_setI τ m 0 1) := by
  have hM' : LyM (mx_setI τ m 0 1) m := hM
  have t : f_X12_tossFault P m τ = some (mx_setI τ m 0 1) := by
    unfold f_X12_tossFault f_X12_tossFault_D26 f_X12_tossFault_D39
    rw [bd (am_gI hM), h4, if_neg (fun z => by rw [show (0 : Int32) = q_n 0 from rfl, q_nI (by omega) (by omega)] at z; omega), bd (am_gI hM), h4, if_neg (fun z => by rw [show (0 : Int32) = q_n 0 from rfl, q_nLe (by omega) (by omega)] at z; omega), bd (am_pI hM hb _)]
  unfold f_X12_drive_D30
  rw [bd (am_is hM), bd t, bd (am_gI hM'), sI_e, if_neg (show ¬ (1 : Int32) ≤ 0 by decide)]
theorem tv_L (hM : LyM τ m) (hb : mpb P ≤ m) (h4 : mxI τ m 4 = 0) (hF : FtL τ m (some (c, q))) : ∃ τ2, f_X12_drive_D30 P m τ = some (0, τ2) ∧ mxI τ2 m 0 = 1 ∧ mxI τ2 m 4 = q_n c ∧ mxI τ2 m 5 = q_n q ∧ Fz (fun q j => q = m ∧ (j = 0 ∨ j = 4 ∨ j = 5)) τ τ2 := by
  obtain ⟨a1, a2, a3, a4, a5⟩ := hF
  obtain ⟨τ1, e, b1, b2, f⟩ := r_wrg (P := P) (w := q_n c) (v := q_n q) hM hb h4
  have hM1 := f.M hM
  have hM' : LyM (mx_setI τ1 m 0 1) m := hM1
  have t : f_X12_tossFault P m τ = some (mx_setI τ1 m 0 1) := by
    unfold f_X12_tossFault f_X12_tossFault_D26 f_X12_tossFault_D39
    rw [bd (am_gI hM), h4, if_pos rfl, bd (am_gI hM), a4, if_neg (fun z => by rw [show (0 : Int32) = q_n 0 from rfl, q_nLe (by omega) (by omega)] at z; omega), bd (am_gI hM), a4, bd (am_gI hM), a5, bd (am_is hM), bd e, bd (am_gI hM1), b1, if_neg (fun z => by rw [show (0 : Int32) = q_n 0 from rfl, q_nLe (by omega) (by omega)] at z; omega), bd (am_pI hM1 hb _)]
  refine ⟨mx_setI τ1 m 0 1, ?_, sI_e, ?_, ?_, (f.mo fun q j z => ⟨z.1, Or.inr z.2⟩).sI ⟨rfl, Or.inl rfl⟩ _⟩
  · unfold f_X12_drive_D30
    rw [bd (am_is hM), bd t, bd (am_gI hM'), sI_e, if_neg (show ¬ (1 : Int32) ≤ 0 by decide)]
  · rw [sI_n (by omega)]; exact b1
  · rw [sI_n (by omega)]; exact b2
/-- the orders are copied -/
theorem r_dcp (hf : 5000 ≤ mpN P) (hM : LyM σ m) (hb : mpb P ≤ m) (hK : K ≤ 40) (h95 : mxI σ m 95 = q_n K) (hv : ∀ v, v < K → DVr σ m O v) : ∃ τ, mx_lp (f_X12_drive_L53 P m) (mpN P) ((0 : Int32), σ) = some τ ∧ Fz (fun q _ => m + 65 ≤ q ∧ q ≤ m + 70) σ τ ∧ DvR τ m K O := by
  obtain ⟨τ, e, F, g⟩ := q_for (f_X12_drive_L53 P m) (fun i t => t.1 = q_n i ∧ Fz (fun q _ => m + 65 ≤ q ∧ q ≤ m + 70) σ t.2 ∧ ∀ v, v < i → mxI t.2 (m + 65) v = mxI σ (m + 72) v ∧ mxI t.2 (m + 66) v = mxI σ (m + 73) v ∧ mxI t.2 (m + 67) v = mxI σ (m + 74) v ∧ mxI t.2 (m + 68) v = mxI σ (m + 75) v ∧ mxI t.2 (m + 69) v = vp_nar .boolean (mxI σ (m + 76) v) ∧ mxL t.2 (m + 70) v = mxL σ (m + 77) v) (fun τ => Fz (fun q _ => m + 65 ≤ q ∧ q ≤ m + 70) σ τ ∧ ∀ v, v < K → mxI τ (m + 65) v = mxI σ (m + 72) v ∧ mxI τ (m + 66) v = mxI σ (m + 73) v ∧ mxI τ (m + 67) v = mxI σ (m + 74) v ∧ mxI τ (m + 68) v = mxI σ (m + 75) v ∧ mxI τ (m + 69) v = vp_nar .boolean (mxI σ (m + 76) v) ∧ mxL τ (m + 70) v = mxL σ (m + 77) v) K
    (by
      rintro i ⟨v1, s⟩ hi ⟨i1, F, g⟩
      dsimp only at i1 F g
      subst i1
      left
      have Ms := F.M hM
      have s95 : mxI s m 95 = q_n K := (F.gi (by omega)).trans h95
      have old : ∀ q j, m + 72 ≤ q → mxI s q j = mxI σ q j ∧ mxL s q j = mxL σ q j := fun q j hq => F.2.2.2 q j (by omega)
      obtain ⟨s1, E1⟩ : ∃ s1, s1 = mx_setI s (m + 65) i (mxI s (m + 72) i) := ⟨_, rfl⟩
      obtain ⟨s2, E2⟩ : ∃ s2, s2 = mx_setI s1 (m + 66) i (mxI s1 (m + 73) i) := ⟨_, rfl⟩
      obtain ⟨s3, E3⟩ : ∃ s3, s3 = mx_setI s2 (m + 67) i (mxI s2 (m + 74) i) := ⟨_, rfl⟩
      obtain ⟨s4, E4⟩ : ∃ s4, s4 = mx_setI s3 (m + 68) i (mxI s3 (m + 75) i) := ⟨_, rfl⟩
      obtain ⟨s5, E5⟩ : ∃ s5, s5 = mx_setI s4 (m + 69) i (vp_nar .boolean (mxI s4 (m + 76) i)) := ⟨_, rfl⟩
      obtain ⟨s6, E6⟩ : ∃ s6, s6 = mx_setL s5 (m + 70) i (mxL s5 (m + 77) i) := ⟨_, rfl⟩
      have f1 : Fz (fun q j => m + 65 ≤ q ∧ q ≤ m + 70 ∧ j = i) s s1 := by rw [E1]; exact Fz.rf.sI (by omega) _
      have f2 : Fz (fun q j => m + 65 ≤ q ∧ q ≤ m + 70 ∧ j = i) s s2 := by rw [E2]; exact f1.sI (by omega) _
      have f3 : Fz (fun q j => m + 65 ≤ q ∧ q ≤ m + 70 ∧ j = i) s s3 := by rw [E3]; exact f2.sI (by omega) _
      have f4 : Fz (fun q j => m + 65 ≤ q ∧ q ≤ m + 70 ∧ j = i) s s4 := by rw [E4]; exact f3.sI (by omega) _
      have f5 : Fz (fun q j => m + 65 ≤ q ∧ q ≤ m + 70 ∧ j = i) s s5 := by rw [E5]; exact f4.sI (by omega) _
      have f6 : Fz (fun q j => m + 65 ≤ q ∧ q ≤ m + 70 ∧ j = i) s s6 := by rw [E6]; exact f5.sL (by omega) _
      show ∃ t', f_X12_drive_B53 P m (q_n i) s = some (.inl t') ∧ _
      unfold f_X12_drive_B53
      rw [bd (am_gI Ms), s95, if_neg (qn_ge hi (by omega)), bd (am_r96 Ms), bd (am_r106 Ms), bd (am_g106 Ms (by omega)), bd (am_s96 Ms hb (by omega) _), ← E1, bd (am_r97 (f1.M Ms)), bd (am_r107 (f1.M Ms)), bd (am_g107 (f1.M Ms) (by omega)), bd (am_s97 (f1.M Ms) hb (by omega) _), ← E2, bd (am_r98 (f2.M Ms)), bd (am_r108 (f2.M Ms)), bd (am_g108 (f2.M Ms) (by omega)), bd (am_s98 (f2.M Ms) hb (by omega) _), ← E3, bd (am_r99 (f3.M Ms)), bd (am_r109 (f3.M Ms)), bd (am_g109 (f3.M Ms) (by omega)), bd (am_s99 (f3.M Ms) hb (by omega) _), ← E4, bd (am_r100 (f4.M Ms)), bd (am_r110 (f4.M Ms)), bd (am_g110 (f4.M Ms) (by omega)), bd (am_s100 (f4.M Ms) hb (by omega) _), ← E5, bd (am_r101 (f5.M Ms)), bd (am_r111 (f5.M Ms)), bd (am_g111 (f5.M Ms) (by omega)), bd (am_s101 (f5.M Ms) hb (by omega) _), ← E6, Option.bind_some, q_nS]
      refine ⟨_, rfl, rfl, F.tr (f6.mo fun q j z => ⟨z.1, z.2.1⟩), fun v hv' => ?_⟩
      by_cases ev : v = i
      · subst ev
        refine ⟨?_, ?_, ?_, ?_, ?_, ?_⟩
        · show mxI s6 (m + 65) v = _
          rw [E6, IsL, E5, sI_n (by omega), E4, sI_n (by omega), E3, sI_n (by omega), E2, sI_n (by omega), E1, sI_e]; exact (old _ _ (by omega)).1
        · show mxI s6 (m + 66) v = _
          rw [E6, IsL, E5, sI_n (by omega), E4, sI_n (by omega), E3, sI_n (by omega), E2, sI_e, f1.gi (by omega)]; exact (old _ _ (by omega)).1
        · show mxI s6 (m + 67) v = _
          rw [E6, IsL, E5, sI_n (by omega), E4, sI_n (by omega), E3, sI_e, f2.gi (by omega)]; exact (old _ _ (by omega)).1
        · show mxI s6 (m + 68) v = _
          rw [E6, IsL, E5, sI_n (by omega), E4, sI_e, f3.gi (by omega)]; exact (old _ _ (by omega)).1
        · show mxI s6 (m + 69) v = _
          rw [E6, IsL, E5, sI_e, f4.gi (by omega), (old _ _ (by omega)).1]
        · show mxL s6 (m + 70) v = _
          rw [E6, sL_e, (f5.2.2.2 _ _ (by omega)).2]; exact (old _ _ (by omega)).2
      · have k := fun q => f6.2.2.2 q v (by omega)
        dsimp only
        rw [(k (m + 65)).1, (k (m + 66)).1, (k (m + 67)).1, (k (m + 68)).1, (k (m + 69)).1, (k (m + 70)).2]
        exact g v (by omega))
    (by
      rintro ⟨v1, s⟩ ⟨i1, F, g⟩
      dsimp only at i1 F g
      subst i1
      have Ms := F.M hM
      have s95 : mxI s m 95 = q_n K := (F.gi (by omega)).trans h95
      show ∃ r, f_X12_drive_B53 P m (q_n K) s = some (.inr r) ∧ _
      unfold f_X12_drive_B53
      rw [bd (am_gI Ms), s95, if_pos ((q_nLe (by omega) (by omega)).mpr (Nat.le_refl _))]
      exact ⟨s, rfl, F, g⟩)
    K 0 ((0 : Int32), σ) (mpN P) (by omega) ⟨rfl, Fz.rf, fun v hv => by omega⟩ (by omega)
  refine ⟨τ, e, F, (F.gi (by omega)).trans h95, fun v hv' => ?_⟩
  obtain ⟨g1, g2, g3, g4, g5, g6⟩ := g v hv'
  obtain ⟨d1, d2, d3, d4⟩ := hv v hv'
  rw [g1, g2, g3, g4, g5, g6]
  refine ⟨d1, d2, d3, fun z => ?_⟩
  obtain ⟨x1, x2, x3⟩ := d4 z
  refine ⟨x1, ?_, x3⟩
  rw [x2]
  generalize (!(O v).2.2.2.2.1) = y
  cases y <;> decide
/-- what comes of a drive's text in the reference -/
def OutW (σ : mx_S) (bl : List Nat) (N : Nat) (B : LB) (KL : LK) (pl : Nat → Nat) (K : Nat) (e : Option Nat) (m : Nat) (r : Int32) (τ : mx_S) : Prop :=
  (∃ q, e = some q ∧ r = 0 ∧ mxI τ m 0 = 1 ∧ mxI τ m 4 = 1 ∧ mxI τ m 5 = q_n q ∧ Fz (vkB m) σ τ) ∨
  (∃ cq, e = none ∧ dLs bl N B (kN KL) K = some cq ∧ r = 0 ∧ mxI τ m 0 = 1 ∧ mxI τ m 4 = q_n cq.1 ∧ mxI τ m 5 = q_n cq.2 ∧ Fz (vkB m) σ τ) ∨
  (e = none ∧ dLs bl N B (kN KL) K = none ∧ mxI τ m 0 = 0 ∧ mxI τ m 4 = 0 ∧ mxI τ m 5 = 0 ∧ Fz (vkG m) σ τ ∧ DvO K (dO bl N B (kN KL)) KL ∧ r = q_n (runL KL (dO bl N B (kN KL)) (flD (dO bl N B (kN KL)) K K 0 0) (pl, 0, [], 0)).2 ∧ ∃ σ9, RD m KL B K (dO bl N B (kN KL)) σ9 (runL KL (dO bl N B (kN KL)) (flD (dO bl N B (kN KL)) K K 0 0) (pl, 0, [], 0)).2 (runL KL (dO bl N B (kN KL)) (flD (dO bl N B (kN KL)) K K 0 0) (pl, 0, [], 0)).1 τ)
theorem r_drv (hN : N = 4000) (hf : 20000 ≤ mpN P) (hb : mpb P ≤ m) (hM : LyM σ m) (hT : TR σ m bl) (hkT : kT KL) (hr : RLr m KL pl B σ) (hB : LBok (kN KL) B) : ∃ K e r τ, Txt bl N 2 K e ∧ f_X12_drive P m σ = some (r, τ) ∧ mxI τ m 2 = 0 ∧ OutW σ bl N B KL pl K e m r τ := by
  obtain ⟨σ0, s1, es, f0, ⟨z2, z4, z5⟩, hS0, hM0, fs, z6, hk⟩ := r_sta (P := P) hN hf hb hM hT
  have M1 := fs.M hM0
  have hn := hkT.1
  obtain ⟨s2, E2⟩ : ∃ s2, s2 = mx_setI s1 m 105 0 := ⟨_, rfl⟩
  have fz : Fz (fun q j => q = m ∧ j = 105) s1 s2 := by rw [E2]; exact Fz.rf.sI ⟨rfl, rfl⟩ _
  have F2 : Fz (rdF2 m) σ0 s2 := (fs.mo fun q j z => by unfold rdF2; omega).tr (fz.mo fun q j z => by unfold rdF2; omega)
  have I0 : RvI σ0 m bl N B (kN KL) 0 s2 := by
    refine ⟨⟨F2.M hM0, TS_f hS0 F2 (fun q j z => by unfold rdF2 at z; omega), F2⟩, ⟨?_, ?_⟩, ?_, fun z hz => absurd hz (by unfold dLs; simp), ?_, fun _ v hv => by omega, TkR_f hk fz (fun q j z => by omega)⟩
    · rw [fz.gi (by omega), fs.gi (by omega)]; exact z4
    · rw [fz.gi (by omega), fs.gi (by omega)]; exact z5
    · show mxI s2 m 6 = 0
      rw [fz.gi (by omega)]; exact z6
    · rw [E2, sI_e]; rfl
  have hrl : ∀ s, Fz (rdF2 m) σ0 s → RLr m KL pl B s := fun s F => by
    have k : ∀ q j, m + 2 ≤ q → q ≤ m + 21 → mxI s q j = mxI σ q j ∧ mxL s q j = mxL σ q j := fun q j h1 h2 => by
      have a := F.2.2.2 q j (fun z => by unfold rdF2 at z; omega)
      have b := f0.2.2.2 q j (by omega)
      exact ⟨a.1.trans b.1, a.2.trans b.2⟩
    have km : ∀ j, j = 19 ∨ j = 20 → mxI s m j = mxI σ m j := fun j hj => (F.gi (fun z => by unfold rdF2 at z; omega)).trans (f0.gi (by omega))
    exact RLr_rg hkT hr (fun q j h1 h2 => (k q j h1 h2).1) (fun q j h1 h2 => (k q j h1 h2).2) (km 19 (by omega)) (km 20 (by omega))
  have hrB : ∀ s, Fz (rdF2 m) σ0 s → rB s m (kN KL) B ∧ mxI s m 19 = q_n (kN KL) := fun s F => ⟨(hrl s F).2.2, (hrl s F).1.1⟩
  obtain ⟨K, e, τ, hTx, eL, hres⟩ := r_dtx (P := P) hN hf hb hrB hB hn I0
  have un : f_X12_drive P m σ = f_X12_drive_D30 P m τ := by
    unfold f_X12_drive
    rw [bd (am_is hM), bd es, bd (am_pI M1 hb _), ← E2, bd eL]
  have cB : ∀ q j, rdF2 m q j → vkB m q j := fun q j z => by unfold rdF2 at z; unfold vkB; omega
  have F0 : Fz (vkB m) σ σ0 := f0.mo fun q j z => by unfold vkB; omega
  have m2 : ∀ s, Fz (rdF2 m) σ0 s → mxI s m 2 = 0 := fun s F => by rw [F.gi (fun z => by unfold rdF2 at z; omega)]; exact z2
  rcases hres with ⟨rfl, hI⟩ | ⟨q, rfl, hX⟩
  · obtain ⟨a1, a2, a3, a4, a5, a6, a7⟩ := hI
    have hMτ := a1.1
    have Fτ : Fz (vkB m) σ τ := F0.tr (a1.2.2.mo cB)
    cases hl : dLs bl N B (kN KL) K with
    | some cq =>
      rw [hl] at a3
      obtain ⟨c, q⟩ := cq
      obtain ⟨τ2, e2, y0, y4, y5, f2⟩ := tv_L (P := P) hMτ hb a2.1 a3
      refine ⟨K, none, 0, τ2, hTx, by rw [un, e2], ?_, Or.inr (Or.inl ⟨(c, q), rfl, hl, rfl, y0, y4, y5, Fτ.tr (f2.mo fun q j z => by unfold vkB; omega)⟩)⟩
      rw [f2.gi (by omega)]; exact m2 τ a1.2.2
    | none =>
      rw [hl] at a3
      have a36 : mxI τ m 6 = 0 := a3
      have hP := d_P hTx.1 hl
      have k40 := hP.1
      obtain ⟨t1, E1⟩ : ∃ t1, t1 = mx_setI τ m 0 0 := ⟨_, rfl⟩
      obtain ⟨t2, E2'⟩ : ∃ t2, t2 = mx_setI t1 m 95 (q_n K) := ⟨_, rfl⟩
      have T1 : LyM t1 m := by rw [E1]; exact hMτ
      have T2 : LyM t2 m := by rw [E2']; exact T1
      have g2 : Fz (fun q j => q = m ∧ (j = 0 ∨ j = 95)) τ t2 := by rw [E2', E1]; exact (Fz.rf.sI ⟨rfl, by omega⟩ _).sI ⟨rfl, by omega⟩ _
      have c95 : mxI t2 m 95 = q_n K := by rw [E2']; exact sI_e
      obtain ⟨t3, e3, F3, D3⟩ := r_dcp (P := P) (O := dO bl N B (kN KL)) (by omega) T2 hb k40 c95 (fun v hv => DVr_f (a6 hl v hv) g2 (fun q j z => by omega))
      have T3 := F3.M T2
      obtain ⟨t4, E4⟩ : ∃ t4, t4 = mx_setI t3 m 102 0 := ⟨_, rfl⟩
      obtain ⟨t5, E5⟩ : ∃ t5, t5 = mx_setI t4 m 103 0 := ⟨_, rfl⟩
      obtain ⟨t6, E6⟩ : ∃ t6, t6 = mx_setI t5 m 113 0 := ⟨_, rfl⟩
      obtain ⟨t7, E7⟩ : ∃ t7, t7 = mx_setI t6 m 112 0 := ⟨_, rfl⟩
      have T4 : LyM t4 m := by rw [E4]; exact T3
      have T5 : LyM t5 m := by rw [E5]; exact T4
      have T6 : LyM t6 m := by rw [E6]; exact T5
      have T7 : LyM t7 m := by rw [E7]; exact T6
      have g7 : Fz (fun q j => q = m ∧ (j = 102 ∨ j = 103 ∨ j = 112 ∨ j = 113)) t3 t7 := by rw [E7, E6, E5, E4]; exact (((Fz.rf.sI ⟨rfl, by omega⟩ _).sI ⟨rfl, by omega⟩ _).sI ⟨rfl, by omega⟩ _).sI ⟨rfl, by omega⟩ _
      have GG : Fz (fun q j => (q = m ∧ (j = 0 ∨ j = 95 ∨ j = 102 ∨ j = 103 ∨ j = 112 ∨ j = 113)) ∨ (m + 65 ≤ q ∧ q ≤ m + 70)) τ t7 := ((g2.mo fun q j z => by omega).tr (F3.mo fun q j z => by omega)).tr (g7.mo fun q j z => by omega)
      have rl7 : RLr m KL pl B t7 := RLr_rg hkT (hrl τ a1.2.2) (fun q j h1 h2 => (GG.2.2.2 q j (by omega)).1) (fun q j h1 h2 => (GG.2.2.2 q j (by omega)).2) (GG.gi (by omega)) (GG.gi (by omega))
      have hd : RD m KL B K (dO bl N B (kN KL)) t7 0 (pl, 0, [], 0) t7 := by
        refine ⟨rl7, DvR_cg D3 (g7.gi (by omega)) (fun q j hq => g7.2.2.2 q j (by omega)), ⟨?_, Nat.zero_le _⟩, ⟨?_, fun j e hj he => by cases he⟩, ⟨?_, by show 0 < 256; omega⟩, ?_, Fz.rf⟩
        · rw [E7, sI_n (by omega), E6, sI_n (by omega), E5, sI_n (by omega), E4, sI_e]; rfl
        · rw [E7, sI_n (by omega), E6, sI_n (by omega), E5, sI_e]; rfl
        · rw [E7, sI_e]; rfl
        · rw [E7, sI_n (by omega), E6, sI_e]; rfl
      obtain ⟨τ9, e9, h9, -⟩ := r_run (P := P) (by omega) T7 hb hkT hP K 0 0 ((pl, 0, [], 0), 0) t7 (mpN P) (by omega) (Nat.le_refl _) hd (by show 0 < 100; omega) (by show 0 + K * 1000 < 900000; omega) (by omega)
      have unH : runH KL (dO bl N B (kN KL)) (flD (dO bl N B (kN KL)) K K 0 0) ((pl, 0, [], 0), 0) = runL KL (dO bl N B (kN KL)) (flD (dO bl N B (kN KL)) K K 0 0) (pl, 0, [], 0) := by
        unfold runH; rw [if_pos rfl]
      rw [unH] at h9
      have F9 := h9.2.2.2.2.2.2
      have T9 := F9.M T7
      have FF : Fz (vkG m) σ τ9 := ((Fτ.mo (T := vkG m) fun q j z => Or.inl z).tr (GG.mo (T := vkG m) fun q j z => by unfold vkG vkB; omega)).tr (F9.mo (T := vkG m) fun q j z => by unfold rvF at z; unfold vkG; omega)
      have km : ∀ j, j = 2 ∨ j = 4 ∨ j = 5 → mxI τ9 m j = mxI τ m j := fun j hj => (F9.gi (fun z => by unfold rvF at z; omega)).trans (GG.gi (by omega))
      refine ⟨K, none, q_n (runL KL (dO bl N B (kN KL)) (flD (dO bl N B (kN KL)) K K 0 0) (pl, 0, [], 0)).2, τ9, hTx, ?_, (km 2 (by omega)).trans (m2 τ a1.2.2), Or.inr (Or.inr ⟨rfl, hl, ?_, (km 4 (by omega)).trans a2.1, (km 5 (by omega)).trans a2.2, FF, hP, rfl, t7, h9⟩)⟩
      · have t : f_X12_tossFault P m τ = some t1 := by
          unfold f_X12_tossFault f_X12_tossFault_D26 f_X12_tossFault_D39
          rw [bd (am_gI hMτ), a2.1, if_pos rfl, bd (am_gI hMτ), a36, if_pos (show (0 : Int32) ≤ 0 by decide), bd (am_gI hMτ), a2.1, if_pos (show (0 : Int32) ≤ 0 by decide), bd (am_pI hMτ hb _), ← E1]
        have z1 : mxI t1 m 0 = 0 := by rw [E1]; exact sI_e
        have z105 : mxI t1 m 105 = q_n K := by rw [E1, sI_n (by omega), a5]; congr 1; omega
        rw [un]
        unfold f_X12_drive_D30
        rw [bd (am_is hMτ), bd t, bd (am_gI T1), z1, if_pos (show (0 : Int32) ≤ 0 by decide), bd (am_gI T1), z105, bd (am_pI T1 hb _), ← E2', bd e3]
        show (mp_I P t3 m 12 102 (0 : Int32)).bind _ = _
        rw [bd (am_pI T3 hb _), ← E4, bd (am_pI T4 hb _), ← E5, bd (am_pI T5 hb _), ← E6, bd (am_pI T6 hb _), ← E7, bd (show mx_lp (f_X12_drive_L163 P m) (mpN P) ((0 : Int32), (0 : Int32), t7) = some τ9 from e9)]
        show f_X12_drive_D252 P m τ9 = _
        unfold f_X12_drive_D252
        rw [bd (am_gI T9), h9.2.2.2.2.2.1]
      · rw [F9.gi (fun z => by unfold rvF at z; omega), g7.gi (by omega), F3.gi (by omega), E2', sI_n (by omega), E1, sI_e]
  · obtain ⟨a1, a4, a5⟩ := hX
    have hMτ := a1.1
    have Fτ : Fz (vkB m) σ τ := F0.tr (a1.2.2.mo cB)
    have e2 := tv_B (P := P) (c := 1) hMτ hb (by omega) (by omega) a4
    refine ⟨K, some q, 0, _, hTx, by rw [un, e2], ?_, Or.inl ⟨q, rfl, rfl, sI_e, ?_, ?_, Fτ.sI (Or.inl ⟨rfl, Or.inl rfl⟩) _⟩⟩
    · rw [sI_n (by omega)]; exact m2 τ a1.2.2
    · rw [sI_n (by omega)]; exact a4
    · rw [sI_n (by omega)]; exact a5
end LQS
