/-! ===== ld: cam ===== -/
section LDS
variable {P : mx_P} {σ σ0 σ1 σ2 τ τ' : mx_S} {x m n t l p a N i k j u v c f s b q K : Nat} {bl : List Nat} {S : Nat → Nat → Prop} {e : Option Nat} {fs : Option (Nat × Nat)} {r r' : Int32}
/-- what a text that is refused changes; one that is taken -/
def ckB (m q j : Nat) : Prop := (q = m ∧ (j = 0 ∨ 2 ≤ j ∧ j ≤ 10 ∨ 14 ≤ j ∧ j ≤ 18 ∨ j = 80)) ∨ (m + 54 ≤ q ∧ q ≤ m + 58)
def ckG (m q j : Nat) : Prop := ckB m q j ∨ (q = m ∧ j = 74) ∨ (m + 49 ≤ q ∧ q ≤ m + 53)
theorem tc_B (hM : LyM τ m) (hb : mpb P ≤ m) (hc0 : 0 < c) (hc : c < 10) (h4 : mxI τ m 4 = q_n c) : f_X12_cam_D48 P m τ = some (0, mx_setI τ m 0 1) := by
  have hM' : LyM (mx_setI τ m 0 1) m := hM
  have t : f_X12_tossFault P m τ = some (mx_setI τ m 0 1) := by
    unfold f_X12_tossFault f_X12_tossFault_D26 f_X12_tossFault_D39
    rw [bd (am_gI hM), h4, if_neg (fun z => by rw [show (0 : Int32) = q_n 0 from rfl, q_nI (by omega) (by omega)] at z; omega), bd (am_gI hM), h4, if_neg (fun z => by rw [show (0 : Int32) = q_n 0 from rfl, q_nLe (by omega) (by omega)] at z; omega), bd (am_pI hM hb _)]
  unfold f_X12_cam_D48
  rw [bd (am_is hM), bd t, bd (am_gI hM'), sI_e, if_neg (show ¬ (1 : Int32) ≤ 0 by decide)]
theorem tc_L (hM : LyM τ m) (hb : mpb P ≤ m) (h4 : mxI τ m 4 = 0) (hF : FtL τ m (some (c, q))) : ∃ τ2, f_X12_cam_D48 P m τ = some (0, τ2) ∧ mxI τ2 m 0 = 1 ∧ mxI τ2 m 4 = q_n c ∧ mxI τ2 m 5 = q_n q ∧ Fz (fun q j => q = m ∧ (j = 0 ∨ j = 4 ∨ j = 5)) τ τ2 := by
  obtain ⟨a1, a2, a3, a4, a5⟩ := hF
  obtain ⟨τ1, e, b1, b2, f⟩ := r_wrg (P := P) (w := q_n c) (v := q_n q) hM hb h4
  have hM1 := f.M hM
  have hM' : LyM (mx_setI τ1 m 0 1) m := hM1
  have t : f_X12_tossFault P m τ = some (mx_setI τ1 m 0 1) := by
    unfold f_X12_tossFault f_X12_tossFault_D26 f_X12_tossFault_D39
    rw [bd (am_gI hM), h4, if_pos rfl, bd (am_gI hM), a4, if_neg (fun z => by rw [show (0 : Int32) = q_n 0 from rfl, q_nLe (by omega) (by omega)] at z; omega), bd (am_gI hM), a4, bd (am_gI hM), a5, bd (am_is hM), bd e, bd (am_gI hM1), b1, if_neg (fun z => by rw [show (0 : Int32) = q_n 0 from rfl, q_nLe (by omega) (by omega)] at z; omega), bd (am_pI hM1 hb _)]
  refine ⟨mx_setI τ1 m 0 1, ?_, sI_e, ?_, ?_, (f.mo fun q j z => ⟨z.1, Or.inr z.2⟩).sI ⟨rfl, Or.inl rfl⟩ _⟩
  · unfold f_X12_cam_D48
    rw [bd (am_is hM), bd t, bd (am_gI hM'), sI_e, if_neg (show ¬ (1 : Int32) ≤ 0 by decide)]
  · rw [sI_n (by omega)]; exact b1
  · rw [sI_n (by omega)]; exact b2
theorem tc_G (hf : 5000 ≤ mpN P) (hM : LyM σ m) (hb : mpb P ≤ m) (hK : K ≤ 30) (h4 : mxI σ m 4 = 0) (h6 : mxI σ m 6 = 0) (h80 : mxI σ m 80 = q_n K) (hv : ∀ v, v < K → CVr σ m bl N v) : ∃ τ, f_X12_cam_D48 P m σ = some (q_n K, τ) ∧ mxI τ m 0 = 0 ∧ CmR τ m K (cmW' bl N) (cfF bl N) (cmL' bl N) (cmT' bl N) (cmB' bl N) ∧ Fz (fun q j => (q = m ∧ (j = 0 ∨ j = 74)) ∨ (m + 49 ≤ q ∧ q ≤ m + 53)) σ τ := by
  obtain ⟨t1, e1⟩ : ∃ t1, t1 = mx_setI σ m 0 0 := ⟨_, rfl⟩
  obtain ⟨t2, e2⟩ : ∃ t2, t2 = mx_setI t1 m 74 (q_n K) := ⟨_, rfl⟩
  have M1 : LyM t1 m := by rw [e1]; exact hM
  have M2 : LyM t2 m := by rw [e2]; exact M1
  have F2 : Fz (fun q j => (q = m ∧ (j = 0 ∨ j = 74)) ∨ (m + 49 ≤ q ∧ q ≤ m + 53)) σ t2 := by
    rw [e2, e1]
    exact (Fz.rf.sI (Or.inl ⟨rfl, by omega⟩) _).sI (Or.inl ⟨rfl, by omega⟩) _
  have c74 : mxI t2 m 74 = q_n K := by rw [e2]; exact sI_e
  obtain ⟨s, eL, F, g⟩ := q_for (f_X12_cam_L71 P m) (fun i t => t.1 = q_n i ∧ Fz (fun q j => m + 49 ≤ q ∧ q ≤ m + 53) t2 t.2 ∧ ∀ v, v < i → ∀ d, d < 5 → mxI t.2 (m + 49 + d) v = mxI t2 (m + 54 + d) v ∧ mxL t.2 (m + 49 + d) v = mxL t2 (m + 54 + d) v ∨ (d = 2 ∨ d = 3) ∧ mxL t.2 (m + 49 + d) v = mxL t2 (m + 54 + d) v ∨ (d ≠ 2 ∧ d ≠ 3) ∧ mxI t.2 (m + 49 + d) v = mxI t2 (m + 54 + d) v) (fun s => Fz (fun q j => m + 49 ≤ q ∧ q ≤ m + 53) t2 s ∧ ∀ v, v < K → ∀ d, d < 5 → mxI s (m + 49 + d) v = mxI t2 (m + 54 + d) v ∧ mxL s (m + 49 + d) v = mxL t2 (m + 54 + d) v ∨ (d = 2 ∨ d = 3) ∧ mxL s (m + 49 + d) v = mxL t2 (m + 54 + d) v ∨ (d ≠ 2 ∧ d ≠ 3) ∧ mxI s (m + 49 + d) v = mxI t2 (m + 54 + d) v) K
    (by
      rintro i ⟨v1, s⟩ hi ⟨i1, F, g⟩
      dsimp only at i1 F g
      subst i1
      left
      have Ms := F.M M2
      have s74 : mxI s m 74 = q_n K := (F.gi (by omega)).trans c74
      obtain ⟨s1, E1⟩ : ∃ s1, s1 = mx_setI s (m + 49) i (mxI s (m + 54) i) := ⟨_, rfl⟩
      obtain ⟨s2, E2⟩ : ∃ s2, s2 = mx_setI s1 (m + 50) i (mxI s1 (m + 55) i) := ⟨_, rfl⟩
      obtain ⟨s3, E3⟩ : ∃ s3, s3 = mx_setL s2 (m + 51) i (mxL s2 (m + 56) i) := ⟨_, rfl⟩
      obtain ⟨s4, E4⟩ : ∃ s4, s4 = mx_setL s3 (m + 52) i (mxL s3 (m + 57) i) := ⟨_, rfl⟩
      obtain ⟨s5, E5⟩ : ∃ s5, s5 = mx_setI s4 (m + 53) i (mxI s4 (m + 58) i) := ⟨_, rfl⟩
      have f1 : Fz (fun q j => m + 49 ≤ q ∧ q ≤ m + 53 ∧ j = i) s s1 := by rw [E1]; exact Fz.rf.sI (by omega) _
      have f2 : Fz (fun q j => m + 49 ≤ q ∧ q ≤ m + 53 ∧ j = i) s s2 := by rw [E2]; exact f1.sI (by omega) _
      have f3 : Fz (fun q j => m + 49 ≤ q ∧ q ≤ m + 53 ∧ j = i) s s3 := by rw [E3]; exact f2.sL (by omega) _
      have f4 : Fz (fun q j => m + 49 ≤ q ∧ q ≤ m + 53 ∧ j = i) s s4 := by rw [E4]; exact f3.sL (by omega) _
      have f5 : Fz (fun q j => m + 49 ≤ q ∧ q ≤ m + 53 ∧ j = i) s s5 := by rw [E5]; exact f4.sI (by omega) _
      show ∃ t', f_X12_cam_B71 P m (q_n i) s = some (.inl t') ∧ _
      unfold f_X12_cam_B71
      rw [bd (am_gI Ms), s74, if_neg (qn_ge hi (by omega)), bd (am_r75 Ms), bd (am_r81 Ms), bd (am_g81 Ms (by omega)), bd (am_s75 Ms hb (by omega) _), ← E1, bd (am_r76 (f1.M Ms)), bd (am_r82 (f1.M Ms)), bd (am_g82 (f1.M Ms) (by omega)), bd (am_s76 (f1.M Ms) hb (by omega) _), ← E2, bd (am_r77 (f2.M Ms)), bd (am_r83 (f2.M Ms)), bd (am_g83 (f2.M Ms) (by omega)), bd (am_s77 (f2.M Ms) hb (by omega) _), ← E3, bd (am_r78 (f3.M Ms)), bd (am_r84 (f3.M Ms)), bd (am_g84 (f3.M Ms) (by omega)), bd (am_s78 (f3.M Ms) hb (by omega) _), ← E4, bd (am_r79 (f4.M Ms)), bd (am_r85 (f4.M Ms)), bd (am_g85 (f4.M Ms) (by omega)), bd (am_s79 (f4.M Ms) hb (by omega) _), ← E5, Option.bind_some, q_nS]
      refine ⟨_, rfl, rfl, F.tr (f5.mo fun q j z => ⟨z.1, z.2.1⟩), fun v hv d hd => ?_⟩
      have old : ∀ q, m + 54 ≤ q → mxI s q i = mxI t2 q i ∧ mxL s q i = mxL t2 q i := fun q hq => F.2.2.2 q i (by omega)
      by_cases ev : v = i
      · subst ev
        obtain rfl | rfl | rfl | rfl | rfl : d = 0 ∨ d = 1 ∨ d = 2 ∨ d = 3 ∨ d = 4 := by omega
        · refine Or.inr (Or.inr ⟨by omega, ?_⟩)
          show mxI s5 (m + 49) v = mxI t2 (m + 54) v
          rw [E5, sI_n (by omega), E4, IsL, E3, IsL, E2, sI_n (by omega), E1, sI_e]; exact (old _ (by omega)).1
        · refine Or.inr (Or.inr ⟨by omega, ?_⟩)
          show mxI s5 (m + 50) v = mxI t2 (m + 55) v
          rw [E5, sI_n (by omega), E4, IsL, E3, IsL, E2, sI_e, E1, sI_n (by omega)]; exact (old _ (by omega)).1
        · refine Or.inr (Or.inl ⟨by omega, ?_⟩)
          show mxL s5 (m + 51) v = mxL t2 (m + 56) v
          rw [E5, LsI, E4, sL_n (by omega), E3, sL_e, E2, LsI, E1, LsI]; exact (old _ (by omega)).2
        · refine Or.inr (Or.inl ⟨by omega, ?_⟩)
          show mxL s5 (m + 52) v = mxL t2 (m + 57) v
          rw [E5, LsI, E4, sL_e, E3, sL_n (by omega), E2, LsI, E1, LsI]; exact (old _ (by omega)).2
        · refine Or.inr (Or.inr ⟨by omega, ?_⟩)
          show mxI s5 (m + 53) v = mxI t2 (m + 58) v
          rw [E5, sI_e, E4, IsL, E3, IsL, E2, sI_n (by omega), E1, sI_n (by omega)]; exact (old _ (by omega)).1
      · have k := f5.2.2.2 (m + 49 + d) v (by omega)
        have := g v (by omega) d hd
        dsimp only
        rw [k.1, k.2]
        exact this)
    (by
      rintro ⟨v1, s⟩ ⟨i1, F, g⟩
      dsimp only at i1 F g
      subst i1
      have Ms := F.M M2
      have s74 : mxI s m 74 = q_n K := (F.gi (by omega)).trans c74
      show ∃ r, f_X12_cam_B71 P m (q_n K) s = some (.inr r) ∧ _
      unfold f_X12_cam_B71
      rw [bd (am_gI Ms), s74, if_pos ((q_nLe (by omega) (by omega)).mpr (Nat.le_refl _))]
      exact ⟨s, rfl, F, g⟩)
    K 0 ((0 : Int32), t2) (mpN P) (by omega) ⟨rfl, Fz.rf, fun v hv => by omega⟩ (by omega)
  have Ms := F.M M2
  have s74 : mxI s m 74 = q_n K := (F.gi (by omega)).trans c74
  refine ⟨s, ?_, ?_, ⟨s74, fun v hv' => ?_⟩, F2.tr (F.mo fun q j z => Or.inr z)⟩
  · have t : f_X12_tossFault P m σ = some t1 := by
      unfold f_X12_tossFault f_X12_tossFault_D26 f_X12_tossFault_D39
      rw [bd (am_gI hM), h4, if_pos rfl, bd (am_gI hM), h6, if_pos (show (0 : Int32) ≤ 0 by decide), bd (am_gI hM), h4, if_pos (show (0 : Int32) ≤ 0 by decide), bd (am_pI hM hb _), ← e1]
    have z1 : mxI t1 m 0 = 0 := by rw [e1]; exact sI_e
    have z80 : mxI t1 m 80 = q_n K := by rw [e1, sI_n (by omega)]; exact h80
    unfold f_X12_cam_D48
    rw [bd (am_is hM), bd t, bd (am_gI M1), z1, if_pos (show (0 : Int32) ≤ 0 by decide), bd (am_gI M1), z80, bd (am_pI M1 hb _), ← e2, bd eL]
    show (mg_I s m 12 74).bind _ = _
    rw [bd (am_gI Ms), s74]
  · rw [F.gi (by omega), e2, sI_n (by omega), e1, sI_e]
  · have hI : ∀ d, d < 5 → d ≠ 2 → d ≠ 3 → mxI s (m + 49 + d) v = mxI σ (m + 54 + d) v := fun d hd d2 d3 => by
      have e : mxI t2 (m + 54 + d) v = mxI σ (m + 54 + d) v := F2.gi (by omega)
      rcases g v hv' d hd with ⟨y, -⟩ | ⟨y, -⟩ | ⟨-, y⟩
      · exact y.trans e
      · omega
      · exact y.trans e
    have hL : ∀ d, d = 2 ∨ d = 3 → mxL s (m + 49 + d) v = mxL σ (m + 54 + d) v := fun d hd => by
      have e : mxL t2 (m + 54 + d) v = mxL σ (m + 54 + d) v := (F2.2.2.2 _ _ (by omega)).2
      rcases g v hv' d (by omega) with ⟨-, y⟩ | ⟨-, y⟩ | ⟨y, -⟩
      · exact y.trans e
      · exact y.trans e
      · omega
    obtain ⟨c1, c2, c3, c4⟩ := hv v hv'
    have i0 : mxI s (m + 49) v = mxI σ (m + 54) v := hI 0 (by omega) (by omega) (by omega)
    have i1 : mxI s (m + 50) v = mxI σ (m + 55) v := hI 1 (by omega) (by omega) (by omega)
    have i4 : mxI s (m + 53) v = mxI σ (m + 58) v := hI 4 (by omega) (by omega) (by omega)
    have l2 : mxL s (m + 51) v = mxL σ (m + 56) v := hL 2 (by omega)
    have l3 : mxL s (m + 52) v = mxL σ (m + 57) v := hL 3 (by omega)
    rw [i0, i1, i4, l2, l3]
    exact ⟨c1, c2, c3, c4⟩
/-- what comes of a cam's text in the reference -/
def OutM (σ : mx_S) (bl : List Nat) (N K : Nat) (e : Option Nat) (m : Nat) (r : Int32) (τ : mx_S) : Prop :=
  (∃ q, e = some q ∧ r = 0 ∧ mxI τ m 0 = 1 ∧ mxI τ m 4 = 1 ∧ mxI τ m 5 = q_n q ∧ Fz (ckB m) σ τ) ∨
  (∃ cq, e = none ∧ cmLs bl N K = some cq ∧ r = 0 ∧ mxI τ m 0 = 1 ∧ mxI τ m 4 = q_n cq.1 ∧ mxI τ m 5 = q_n cq.2 ∧ Fz (ckB m) σ τ) ∨
  (e = none ∧ cmLs bl N K = none ∧ smT bl N K ≠ 0 ∧ r = 0 ∧ mxI τ m 0 = 1 ∧ mxI τ m 4 = q_n (smT bl N K) ∧ mxI τ m 5 = q_n bl.length ∧ Fz (ckB m) σ τ) ∨
  (e = none ∧ cmLs bl N K = none ∧ smT bl N K = 0 ∧ r = q_n K ∧ mxI τ m 0 = 0 ∧ mxI τ m 4 = 0 ∧ mxI τ m 5 = 0 ∧ Fz (ckG m) σ τ ∧ CmP K (cmW' bl N) (cfF bl N) (cmL' bl N) (cmT' bl N) (cmB' bl N) ∧ CmR τ m K (cmW' bl N) (cfF bl N) (cmL' bl N) (cmT' bl N) (cmB' bl N))
theorem r_cam (hN : N = 4000) (hf : 20000 ≤ mpN P) (hb : mpb P ≤ m) (hM : LyM σ m) (hT : TR σ m bl) : ∃ K e r τ, Txt bl N 1 K e ∧ f_X12_cam P m σ = some (r, τ) ∧ mxI τ m 2 = 0 ∧ OutM σ bl N K e m r τ := by
  obtain ⟨σ0, s1, es, f0, ⟨z2, z4, z5⟩, hS0, hM0, fs, z6, hk⟩ := r_sta (P := P) hN hf hb hM hT
  have M1 := fs.M hM0
  obtain ⟨s2, E2⟩ : ∃ s2, s2 = mx_setI s1 m 80 0 := ⟨_, rfl⟩
  have fz : Fz (fun q j => q = m ∧ j = 80) s1 s2 := by rw [E2]; exact Fz.rf.sI ⟨rfl, rfl⟩ _
  have F2 : Fz (rcF m) σ0 s2 := (fs.mo fun q j z => by unfold rcF; omega).tr (fz.mo fun q j z => by unfold rcF; omega)
  have I0 : RcI σ0 m bl N 0 s2 := by
    refine ⟨⟨F2.M hM0, TS_f hS0 F2 (fun q j z => by unfold rcF at z; omega), F2⟩, ⟨?_, ?_⟩, ?_, fun z hz => absurd hz (by unfold cmLs; simp), ?_, fun _ v hv => by omega, TkR_f hk fz (fun q j z => by omega)⟩
    · rw [fz.gi (by omega), fs.gi (by omega)]; exact z4
    · rw [fz.gi (by omega), fs.gi (by omega)]; exact z5
    · show mxI s2 m 6 = 0
      rw [fz.gi (by omega)]; exact z6
    · rw [E2, sI_e]; rfl
  obtain ⟨K, e, τ, hTx, eL, hr⟩ := r_ctx (P := P) hN hf hb I0
  have un : f_X12_cam P m σ = f_X12_cam_D30 P m τ := by
    unfold f_X12_cam
    rw [bd (am_is hM), bd es, bd (am_pI M1 hb _), ← E2, bd eL]
  have cB : ∀ q j, rcF m q j → ckB m q j := fun q j z => by unfold rcF at z; unfold ckB; omega
  have F0 : Fz (ckB m) σ σ0 := f0.mo fun q j z => by unfold ckB; omega
  have m2 : ∀ s, Fz (rcF m) σ0 s → mxI s m 2 = 0 := fun s F => by rw [F.gi (fun z => by unfold rcF at z; omega)]; exact z2
  rcases hr with ⟨rfl, hI⟩ | ⟨q, rfl, hX⟩
  · obtain ⟨a1, a2, a3, a4, a5, a6, a7⟩ := hI
    have hMτ := a1.1
    have Fτ : Fz (ckB m) σ τ := F0.tr (a1.2.2.mo cB)
    have h256 := TS_256 a1.2.1
    cases hl : cmLs bl N K with
    | some cq =>
      rw [hl] at a3
      obtain ⟨c, q⟩ := cq
      obtain ⟨τ2, e2, y0, y4, y5, f2⟩ := tc_L (P := P) hMτ hb a2.1 a3
      have a36 : mxI τ m 6 = q_n c := a3.2.2.2.1
      have c0 : 0 < c ∧ c < 10 := ⟨a3.1, a3.2.1⟩
      refine ⟨K, none, 0, τ2, hTx, ?_, ?_, Or.inr (Or.inl ⟨(c, q), rfl, hl, rfl, y0, y4, y5, Fτ.tr (f2.mo fun q j z => by unfold ckB; omega)⟩)⟩
      · rw [un]
        unfold f_X12_cam_D30
        rw [bd (am_gI hMτ), a2.1, if_pos rfl, bd (am_gI hMτ), a36, if_neg (fun z => by rw [show (0 : Int32) = q_n 0 from rfl, q_nI (by omega) (by omega)] at z; omega), e2]
      · rw [f2.gi (by omega)]; exact m2 τ a1.2.2
    | none =>
      rw [hl] at a3
      have a36 : mxI τ m 6 = 0 := a3
      have hP := cm_P h256 hTx.1 hl
      have k30 := hP.1
      obtain ⟨τ1, e1, f1, y4, y5⟩ := r_sms (P := P) (by omega) hMτ hb hP (by rw [a5]; congr 1; omega) (a6 hl) a1.2.1.2.1 a2
      have M1' := f1.M hMτ
      have F1 : Fz (ckB m) σ τ1 := Fτ.tr (f1.mo fun q j z => by unfold ckB; omega)
      have un2 : f_X12_cam P m σ = f_X12_cam_D48 P m τ1 := by
        rw [un]
        unfold f_X12_cam_D30
        rw [bd (am_gI hMτ), a2.1, if_pos rfl, bd (am_gI hMτ), a36, if_pos rfl, bd (am_is hMτ), bd e1]
      have s8 : smT bl N K ≤ 8 := by
        unfold smT smC
        split
        · omega
        · split
          · omega
          · split <;> omega
      have m21 : mxI τ1 m 2 = 0 := by rw [f1.gi (by omega)]; exact m2 τ a1.2.2
      by_cases z : smT bl N K = 0
      · rw [z] at y4 y5
        rw [if_pos rfl] at y5
        obtain ⟨τ2, e2, w0, wR, f2⟩ := tc_G (P := P) (K := K) (bl := bl) (N := N) (by omega) M1' hb k30 y4 ((f1.gi (by omega)).trans a36) ((f1.gi (by omega)).trans (by rw [a5]; congr 1; omega)) (fun v hv => CVr_f (a6 hl v hv) f1 (fun q j z => by omega))
        refine ⟨K, none, q_n K, τ2, hTx, by rw [un2, e2], ?_, Or.inr (Or.inr (Or.inr ⟨rfl, hl, z, rfl, w0, ?_, ?_, ?_, hP, wR⟩))⟩
        · rw [f2.gi (by omega)]; exact m21
        · rw [f2.gi (by omega)]; exact y4
        · rw [f2.gi (by omega)]; exact y5
        · exact (F1.mo fun q j z => Or.inl z).tr (f2.mo fun q j z => by unfold ckB; omega)
      · rw [if_neg z] at y5
        have e2 := tc_B (P := P) M1' hb (show 0 < smT bl N K by omega) (by omega) y4
        refine ⟨K, none, 0, _, hTx, by rw [un2, e2], ?_, Or.inr (Or.inr (Or.inl ⟨rfl, hl, z, rfl, sI_e, ?_, ?_, F1.sI (Or.inl ⟨rfl, Or.inl rfl⟩) _⟩))⟩
        · rw [sI_n (by omega)]; exact m21
        · rw [sI_n (by omega)]; exact y4
        · rw [sI_n (by omega)]; exact y5
  · obtain ⟨a1, a4, a5⟩ := hX
    have hMτ := a1.1
    have Fτ : Fz (ckB m) σ τ := F0.tr (a1.2.2.mo cB)
    have e2 := tc_B (P := P) (c := 1) hMτ hb (by omega) (by omega) a4
    refine ⟨K, some q, 0, _, hTx, ?_, ?_, Or.inl ⟨q, rfl, rfl, sI_e, ?_, ?_, Fτ.sI (Or.inl ⟨rfl, Or.inl rfl⟩) _⟩⟩
    · rw [un]
      unfold f_X12_cam_D30
      rw [bd (am_gI hMτ), a4, if_neg (by decide), e2]
    · rw [sI_n (by omega)]; exact m2 τ a1.2.2
    · rw [sI_n (by omega)]; exact a4
    · rw [sI_n (by omega)]; exact a5
end LDS
