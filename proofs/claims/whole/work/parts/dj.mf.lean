/-! ===== mf: the reference's turns; gears of both ===== -/
section MFS
variable {P : mx_P} {σ σ0 σ1 τ : mx_S} {m r k n s a j b l N L q x : Nat} {pv pv' : Nat → Int32} {M M' : MT} {w z : Int × Int} {u v : Int64} {gs gs' : List (Nat × Nat)} {ms : List (Nat × Nat × Bool × Int32)} {sh : Nat → Nat × Int32 × Int32} {T : RS3} {S : Nat → Nat → Prop}
def KNo (T : RS3) (n s r : Nat) : Prop := r < n ∧ T.2.2 s = q_n r ∧ ∀ k, k < 12 → k ≠ s → (T.1 r k).1 = 0
theorem KNo_u {r' : Nat} (hn : n ≤ 32) (h : KNo T n s r) (h' : KNo T n s r') : r = r' := (q_nI (by have := h.1; omega) (by have := h'.1; omega)).mp (h.2.1.symm.trans h'.2.1)
theorem KNo_m (hn : n ≤ 32) (h : T.2.2 s = -1) : ¬ KNo T n s r := fun y => by
  have e : (q_n r).toInt = (-1 : Int32).toInt := by rw [← y.2.1, h]
  rw [q_nT (by have := y.1; omega)] at e
  have h1 : (-1 : Int32).toInt = -1 := rfl
  omega
theorem r_oth (hf : 5000 ≤ mpN P) (h : CRo σ0 σ m n n L pv M) (hn : n ≤ 32) (hr : r < n) (hs : s < 12) (w : Int32) : ∃ c, mx_lp (f_X12_turns_L68 P m (q_n s) w (q_n r)) (mpN P) ((0 : Int32), (0 : Int32), σ) = some (q_n c, σ) ∧ c ≤ 12 ∧ (c = 0 ↔ ∀ k, k < 12 → k ≠ s → (M r k).1 = 0) := by
  obtain ⟨ρ, e, c, y, z⟩ := q_for (f_X12_turns_L68 P m (q_n s) w (q_n r)) (fun k t => ∃ c, t = (q_n c, q_n k, σ) ∧ c ≤ k ∧ (c = 0 ↔ ∀ i, i < k → i ≠ s → (M r i).1 = 0)) (fun ρ => ∃ c, ρ = (q_n c, σ) ∧ c ≤ 12 ∧ (c = 0 ↔ ∀ k, k < 12 → k ≠ s → (M r k).1 = 0)) 12
    (by
      rintro k t hk ⟨c, rfl, ck, y⟩
      left
      show ∃ t', f_X12_turns_B68 P m (q_n s) w (q_n r) (q_n c) (q_n k) σ = some (.inl t') ∧ _
      have D : (k ≠ s → (M r k).1 = 0) → ∃ t', f_X12_turns_D105_68 P m (q_n s) w (q_n r) (q_n c) (q_n k) σ = some (.inl t') ∧ ∃ c, t' = (q_n c, q_n (k + 1), σ) ∧ c ≤ k + 1 ∧ (c = 0 ↔ ∀ i, i < k + 1 → i ≠ s → (M r i).1 = 0) := fun z => by
        unfold f_X12_turns_D105_68
        rw [Option.bind_some, q_nS]
        refine ⟨_, rfl, c, rfl, by omega, ⟨fun w i hi => ?_, fun w => y.mpr fun i hi => w i (by omega)⟩⟩
        rcases Nat.eq_or_lt_of_le (Nat.le_of_lt_succ hi) with e | e
        · rw [e]; exact z
        · exact y.mp w i e
      unfold f_X12_turns_B68
      rw [if_neg (by rw [show (12 : Int32) = q_n 12 from rfl]; exact qn_ge hk (by omega)), if_neg (q_nn (by omega))]
      by_cases ks : k = s
      · rw [if_pos (by rw [ks])]
        exact D fun z => absurd ks z
      · rw [if_neg (fun z => ks ((q_nI (by omega) (by omega)).mp z)), bd (am_r69 h.2.1), bd (h.T (by omega) (by omega))]
        by_cases z : (M r k).1 = 0
        · rw [if_pos ((h.t0 hr (by omega)).mpr z)]
          exact D fun _ => z
        · rw [if_neg (fun w => z ((h.t0 hr (by omega)).mp w)), Option.bind_some, q_nS]
          unfold f_X12_turns_D105_68
          rw [Option.bind_some, q_nS]
          exact ⟨_, rfl, c + 1, rfl, by omega, ⟨fun w => absurd w (by omega), fun w => absurd (w k (by omega) ks) z⟩⟩)
    (by
      rintro t ⟨c, rfl, ck, y⟩
      refine ⟨(q_n c, σ), ?_, c, rfl, ck, y⟩
      show f_X12_turns_B68 P m (q_n s) w (q_n r) (q_n c) (q_n 12) σ = _
      unfold f_X12_turns_B68
      rw [if_pos (by decide)])
    12 0 ((0 : Int32), (0 : Int32), σ) (mpN P) rfl ⟨0, rfl, by omega, ⟨fun _ i hi => absurd hi (by omega), fun _ => rfl⟩⟩ (by omega)
  exact ⟨c, by rw [e, y], z⟩
def SRt (m q j : Nat) : Prop := SRo m q j ∨ (q = m ∧ j = 0)
def TnO (gs : List (Nat × Nat)) (ms : List (Nat × Nat × Bool × Int32)) (sh : Nat → Nat × Int32 × Int32) (s : Nat) (w : Int32) (k : Int32) (v : Int64) : Prop := ∃ c, OC gs ms sh c ∧ ((c ≠ 1 ∧ k = 3) ∨ (c = 1 ∧ ∃ T, rdA gs ms sh = some T ∧ (((∀ r, ¬ KNo T (mkM gs ms sh 12).2 s r) ∧ k = 2) ∨ (k = 0 ∧ ∃ r, KNo T (mkM gs ms sh 12).2 s r ∧ v.toInt = if w = 0 then (T.1 r 12).1 else (T.1 r 12).2))))
theorem r_trn (hf : 5000 ≤ mpN P) (hb : mpb P ≤ m) (hM : LyM σ m) (hR : RGr σ m gs ms sh) (hs : s < 12) (w : Int32) : ∃ v τ, f_X12_turns_D28 P m (q_n s) w 0 m σ = some (v, τ) ∧ Fz (SRt m) σ τ ∧ TnO gs ms sh s w (mxI τ m 0) v := by
  obtain ⟨s1, e1⟩ : ∃ s1, s1 = mx_setI σ m 0 0 := ⟨_, rfl⟩
  have F1 : Fz (SRt m) σ s1 := by rw [e1]; exact Fz.rf.sI (Or.inr ⟨rfl, rfl⟩) _
  have hM1 : LyM s1 m := F1.M hM
  have hR1 : RGr s1 m gs ms sh := by
    obtain ⟨⟨a1, a2⟩, ⟨b1, b2, b3⟩, c⟩ := hR
    have e : ∀ q j, ¬ (q = m ∧ j = 0) → mxI s1 q j = mxI σ q j := fun q j y => by rw [e1]; exact sI_n y
    refine ⟨⟨a1, fun j hj => ?_⟩, ⟨?_, b2, fun j hj => ?_⟩, fun s hs => ?_⟩
    · rw [e (m + 36) j (by omega), e (m + 37) j (by omega)]; exact a2 j hj
    · rw [e m 60 (by omega)]; exact b1
    · rw [e (m + 38) j (by omega), e (m + 39) j (by omega), e (m + 40) j (by omega), e (m + 41) j (by omega)]; exact b3 j hj
    · rw [e (m + 42) s (by omega), e (m + 43) s (by omega), e (m + 44) s (by omega)]; exact c s hs
  obtain ⟨c, s2, e2, hc, F2, h2⟩ := r_sol (P := P) hf hb hM1 hR1
  have F12 : Fz (SRt m) σ s2 := F1.tr (F2.mo fun q j y => Or.inl y)
  have hM2 : LyM s2 m := F12.M hM
  have pre : f_X12_turns_D28 P m (q_n s) w 0 m σ = (if c = (1 : Int32) then (mg_R s2 m 12 71).bind fun b16 => (ma_I s2 b16 0 (q_n s)).bind fun x18 => (mx_lp (f_X12_turns_L68 P m (q_n s) w x18) (mpN P) ((0 : Int32), (0 : Int32), s2)).bind (fun t => (fun y34 σ35 => f_X12_turns_D111 P m w x18 y34 σ35) t.1 t.2) else (mp_I P s2 m 12 0 (3 : Int32)).bind fun σ52 => some ((0 : Int64), σ52)) := by
    unfold f_X12_turns_D28
    rw [bd (am_pI hM hb _), ← e1, bd (am_gI hM1), show mxI s1 m 0 = 0 by rw [e1]; exact sI_e, if_pos (by decide), bd (am_is hM1), bd2 e2]
  rw [pre]
  by_cases c1 : c = 1
  · obtain ⟨T, t1, C⟩ := h2 c1
    rw [if_pos c1, bd (am_r71 hM2), bd (am_g71 hM2 hs), C.2.2.2.1 s hs]
    have n32 := n32r hR
    have hpv := pv_r (n := (mkM gs ms sh 12).2) (M := (mkM gs ms sh 12).1) 12 (Nat.le_refl _) T t1 (rd_O (RGr_O hR) 12 (Nat.le_refl _) T t1).2 s
    have rn := (rd_O (RGr_O hR) 12 (Nat.le_refl _) T t1).2
    have two : ∀ w3, f_X12_turns_D121 P m w w3 m s2 = some (0, mx_setI s2 m 0 2) := fun w3 => by
      unfold f_X12_turns_D121
      exact rt_turns_D126 (w := 2) hM2 hb (by omega) (by omega) w w3
    rcases hpv with y | ⟨r, hr, y⟩
    · have lp : mx_lp (f_X12_turns_L68 P m (q_n s) w (T.2.2 s)) (mpN P) ((0 : Int32), (0 : Int32), s2) = some ((0 : Int32), s2) := by
        rw [y]
        obtain ⟨fu, hfu⟩ : ∃ fu, mpN P = fu + 1 := ⟨mpN P - 1, by omega⟩
        rw [hfu]
        have : f_X12_turns_L68 P m (q_n s) w (-1) ((0 : Int32), (0 : Int32), s2) = some (.inr ((0 : Int32), s2)) := by
          show f_X12_turns_B68 P m (q_n s) w (-1) 0 0 s2 = _
          unfold f_X12_turns_B68
          rw [if_neg (by decide), if_pos (by decide)]
        exact lpT (fun _ => ((0 : Int32), (0 : Int32), s2)) 0 (fun i hi => absurd hi (by omega)) this (by omega)
      rw [bd lp]
      show ∃ v τ, f_X12_turns_D111 P m w (T.2.2 s) 0 s2 = some (v, τ) ∧ _
      unfold f_X12_turns_D111
      rw [if_pos (show T.2.2 s < 0 by rw [y]; decide), two]
      exact ⟨_, _, rfl, F12.sI (Or.inr ⟨rfl, rfl⟩) _, c, hc, Or.inr ⟨c1, T, t1, Or.inl ⟨fun r => KNo_m n32 y, sI_e⟩⟩⟩
    · have hrn : r < (mkM gs ms sh 12).2 := by omega
      obtain ⟨d, ed, d12, dz⟩ := r_oth (P := P) hf C n32 hrn hs w
      rw [y, bd ed]
      show ∃ v τ, f_X12_turns_D111 P m w (q_n r) (q_n d) s2 = some (v, τ) ∧ _
      unfold f_X12_turns_D111
      rw [if_neg (q_nn (by omega))]
      by_cases d0 : d = 0
      · rw [if_pos (by rw [d0]; decide)]
        unfold f_X12_turns_D126 f_X12_turns_D171
        have s3M : LyM (mx_setI s2 m 0 0) m := hM2
        rw [bd (am_pI hM2 hb _), bd (am_gI s3M), sI_e, if_pos (by decide)]
        have k0 : KNo T (mkM gs ms sh 12).2 s r := ⟨hrn, y, dz.mp d0⟩
        have m12 := C.2.2.2.2 r hrn 12 (by omega)
        have F3 : Fz (SRt m) σ (mx_setI s2 m 0 0) := F12.sI (Or.inr ⟨rfl, rfl⟩) _
        by_cases w0 : w = 0
        · rw [if_pos w0, bd (am_r69 s3M), bd (show ma_L (mx_setI s2 m 0 0) (m + 45) 1 (((13 : Int32) * q_n r) + (12 : Int32)) = some (mxL s2 (m + 45) (13 * r + 12)) from C.T (k := 12) (by omega) (by omega))]
          exact ⟨_, _, rfl, F3, c, hc, Or.inr ⟨c1, T, t1, Or.inr ⟨sI_e, r, k0, by rw [if_pos w0]; exact m12.1⟩⟩⟩
        · rw [if_neg w0, bd (am_r70 s3M), bd (show ma_L (mx_setI s2 m 0 0) (m + 46) 1 (((13 : Int32) * q_n r) + (12 : Int32)) = some (mxL s2 (m + 46) (13 * r + 12)) from C.B (k := 12) (by omega) (by omega))]
          exact ⟨_, _, rfl, F3, c, hc, Or.inr ⟨c1, T, t1, Or.inr ⟨sI_e, r, k0, by rw [if_neg w0]; exact m12.2⟩⟩⟩
      · rw [if_neg (fun z => d0 (by rw [q_n0, q_nLe (by omega) (by omega)] at z; omega)), two]
        refine ⟨_, _, rfl, F12.sI (Or.inr ⟨rfl, rfl⟩) _, c, hc, Or.inr ⟨c1, T, t1, Or.inl ⟨fun r' k' => d0 (dz.mpr ?_), sI_e⟩⟩⟩
        have : r = r' := (q_nI (by omega) (by have := k'.1; omega)).mp (y.symm.trans k'.2.1)
        rw [this]
        exact k'.2.2
  · rw [if_neg c1, bd (am_pI hM2 hb _)]
    exact ⟨_, _, rfl, F12.sI (Or.inr ⟨rfl, rfl⟩) _, c, hc, Or.inl ⟨c1, sI_e⟩⟩
theorem TnO_u {w k k' : Int32} {v v' : Int64} (hn : (mkM gs ms sh 12).2 ≤ 32) (h : TnO gs ms sh s w k v) (h' : TnO gs ms sh s w k' v') : k = k' ∧ (k = 0 → v = v') := by
  obtain ⟨c, h1, h2⟩ := h
  obtain ⟨c', h1', h2'⟩ := h'
  obtain rfl := OC_u h1 h1'
  rcases h2 with ⟨a, rfl⟩ | ⟨a, T, t, b⟩
  · rcases h2' with ⟨a', rfl⟩ | ⟨a', -⟩
    · exact ⟨rfl, fun z => absurd z (by decide)⟩
    · exact absurd a' a
  · rcases h2' with ⟨a', -⟩ | ⟨a', T', t', b'⟩
    · exact absurd a a'
    · rw [t] at t'
      cases t'
      rcases b with ⟨b, rfl⟩ | ⟨rfl, r, b, e⟩
      · rcases b' with ⟨-, rfl⟩ | ⟨-, r', b', -⟩
        · exact ⟨rfl, fun z => absurd z (by decide)⟩
        · exact absurd b' (b r')
      · rcases b' with ⟨b', -⟩ | ⟨rfl, r', b', e'⟩
        · exact absurd b (b' r)
        · obtain rfl := KNo_u hn b b'
          exact ⟨rfl, fun _ => Int64.toInt.inj (e.trans e'.symm)⟩
end MFS
