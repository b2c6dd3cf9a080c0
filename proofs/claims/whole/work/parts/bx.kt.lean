/-! ===== kt: cams: the laws, the reference ===== -/
section KTS
variable {P : mx_P} {σ σ1 τ : mx_S} {a m k c l : Nat} {u v w t : Int64} {p q d e : Int} {o : Option (Int × Int)}
theorem r_byt (hf : 5000 ≤ mpN P) (hM : LyM σ m) (hb : mpb P ≤ m) (h : FOr σ m o) (ho : OKf o) (hw : B64 w p 1000000000000000) (ht : B64 t q 1000000000000000) (hq : 1 ≤ q) (g2 : gcI p q = 1) : ∃ τ, f_X12_byT P m w t σ = some τ ∧ Fz (SLw m) σ τ ∧ FOr τ m (fmul o p q) := by
  obtain ⟨τ, e, f, r⟩ := r_mulO (P := P) hf hM hb h ho hw ht hq g2
  refine ⟨τ, ?_, f, r⟩
  unfold f_X12_byT
  rw [bd (am_gL hM), bd (am_gL hM), bd (am_is hM), bd e]
theorem r_plS (hf : 5000 ≤ mpN P) (hM : LyM σ m) (hb : mpb P ≤ m) (h : FOr σ m o) (ho : OKf o) (hw : B64 w p 1000000000000000) : ∃ τ, f_X12_plus P m w σ = some τ ∧ Fz (SLw m) σ τ ∧ FOr τ m (fadd o p 1) := by
  obtain ⟨τ, e, f, r⟩ := r_addO (P := P) (t := 1) (d := 1) hf hM hb h ho hw ⟨rfl, by decide⟩ (by omega)
  refine ⟨τ, ?_, f, r⟩
  unfold f_X12_plus
  rw [bd (am_gL hM), bd (am_gL hM), bd (am_is hM), bd e]
theorem r_law (hf : 5000 ≤ mpN P) (hM : LyM σ m) (hb : mpb P ≤ m) (hu : B64 u p 1000000000) (hv : B64 v q 1000000000) (hq : 1 ≤ q) (hg : gcI p q = 1) (hl : mxI σ m 10 = 0 ∨ (mxI σ m 10 = 1 ∧ u = 0 ∧ v = 1)) (l1 : 1 ≤ l) (l4 : l ≤ 4) : ∃ τ, f_X12_lawAt P m (q_n l) u v σ = some τ ∧ Fz (SLw m) σ τ ∧ FOr τ m (if mxI σ m 10 = 0 then lwO l p q else none) := by
  have s8 : ∀ j, j = 8 ∨ j = 9 ∨ j = 10 → SLw m m j := fun j h => ⟨rfl, h⟩
  obtain ⟨σ3, e3⟩ : ∃ σ3, σ3 = mx_setL (mx_setL σ m 8 u) m 9 v := ⟨_, rfl⟩
  have f3 : Fz (SLw m) σ σ3 := by rw [e3]; exact (Fz.rf.sL (s8 8 (by omega)) _).sL (s8 9 (by omega)) _
  have M3 : LyM σ3 m := f3.M hM
  have h30 : mxI σ3 m 10 = mxI σ m 10 := by rw [e3]; rfl
  have c8 : mxL σ3 m 8 = u := by rw [e3, sL_n (by omega), sL_e]
  have c9 : mxL σ3 m 9 = v := by rw [e3, sL_e]
  have fl3 : mxI σ3 m 10 = 0 ∨ mxI σ3 m 10 = 1 := by rw [h30]; rcases hl with y | ⟨y, -⟩ <;> first | exact Or.inl y | exact Or.inr y
  have hu' := b64w hu (show 1000000000 ≤ 1000000000000000 by omega)
  have hv' := b64w hv (show 1000000000 ≤ 1000000000000000 by omega)
  have one : B64 (1 : Int64) 1 1000000000000000 := ⟨rfl, by decide⟩
  have hu2 := hu.2
  have hv2 := hv.2
  rw [← h30]
  unfold f_X12_lawAt
  rw [bd (am_pL hM hb _), bd (am_pL (show LyM (mx_setL σ m 8 u) m from hM) hb _), ← e3]
  have three : ∀ (n : Int) (w0 : Int64), B64 w0 n 1000 → ∃ s1, f_X12_times P m w0 1 u v σ3 = some s1 ∧ Fz (SLw m) σ3 s1 ∧ LyM s1 m ∧ FOr s1 m (if mxI σ3 m 10 = 0 then fpw (some (n, 1)) p q 1 else none) ∧ OKf (if mxI σ3 m 10 = 0 then fpw (some (n, 1)) p q 1 else none) := fun n w0 hn => by
    have hn2 := hn.2
    obtain ⟨s1, e1, f1, g1⟩ := r_mulG (P := P) hf M3 hb (b64w hn (by omega)) one hu' hv' (by omega) hq fl3 (gc_1 n) hg
    refine ⟨s1, e1, f1, f1.M M3, g1, ?_⟩
    split
    · exact OKf_p (OK1 n (by omega)) hq hg 1
    · exact fun z hz => absurd hz (by simp)
  have step : ∀ s o' (n : Int) (w0 : Int64), B64 w0 n 1000 → LyM s m → FOr s m o' → OKf o' → ∃ s1 s2, f_X12_plus P m w0 s = some s1 ∧ LyM s1 m ∧ f_X12_byT P m u v s1 = some s2 ∧ LyM s2 m ∧ Fz (SLw m) s s2 ∧ FOr s2 m (fpw (fadd o' n 1) p q 1) ∧ OKf (fpw (fadd o' n 1) p q 1) := fun s o' n w0 hn Ms g ok => by
    obtain ⟨s1, e1, f1, g1⟩ := r_plS (P := P) hf Ms hb g ok (b64w hn (by omega))
    have M1 := f1.M Ms
    have ok1 := OKf_a (c := n) (d := 1) ok (by omega)
    obtain ⟨s2, e2, f2, g2⟩ := r_byt (P := P) hf M1 hb g1 ok1 hu' hv' hq hg
    exact ⟨s1, s2, e1, M1, e2, f2.M M1, f1.tr f2, g2, OKf_m ok1 hq hg⟩
  have two : ∀ s o', LyM s m → FOr s m o' → OKf o' → ∃ s1, f_X12_lawAt_D208 P m u v s = some s1 ∧ LyM s1 m ∧ Fz (SLw m) s s1 ∧ FOr s1 m (fmul (fmul o' p q) p q) := fun s o' Ms g ok => by
    obtain ⟨s1, e1, f1, g1⟩ := r_byt (P := P) hf Ms hb g ok hu' hv' hq hg
    have M1 := f1.M Ms
    have ok1 := OKf_m ok hq hg
    obtain ⟨s2, e2, f2, g2⟩ := r_byt (P := P) hf M1 hb g1 ok1 hu' hv' hq hg
    refine ⟨s2, ?_, f2.M M1, f1.tr f2, g2⟩
    unfold f_X12_lawAt_D208
    rw [bd (am_is Ms), bd e1, bd (am_is M1), bd e2]
  obtain rfl | rfl | rfl | rfl : l = 1 ∨ l = 2 ∨ l = 3 ∨ l = 4 := by omega
  · rw [if_pos (show q_n 1 = (1 : Int32) from rfl)]
    refine ⟨σ3, rfl, f3, ?_⟩
    split
    · rename_i z; exact ⟨z, by rw [c8]; exact hu.1, by rw [c9]; exact hv.1⟩
    · rename_i z
      rcases hl with y | ⟨y1, y2, y3⟩
      · rw [← h30] at y; exact absurd y z
      · exact ⟨by rw [h30]; exact y1, by rw [c8]; exact y2, by rw [c9]; exact y3⟩
  · rw [if_neg (show ¬ q_n 2 = (1 : Int32) by decide), if_pos (show q_n 2 = (2 : Int32) from rfl)]
    have b2p := b64M (show B64 (2 : Int64) 2 2 from ⟨rfl, by decide⟩) hu (by omega)
    unfold lwO
    rw [if_neg (show ¬ (2 : Nat) = 1 by decide), if_pos (show (2 : Nat) = 2 from rfl)]
    by_cases late : 2 * p ≤ q
    · rw [if_pos late, if_neg (show ¬ 0 < lg_cmp ((2 : Int64) * u) v by rw [q_cmp_gt, q_llt, b2p.1, hv.1]; omega)]
      obtain ⟨s1, e1, f1, M1, g1, ok1⟩ := three 2 2 ⟨rfl, by decide⟩
      obtain ⟨s2, e2, f2, g2⟩ := r_byt (P := P) hf M1 hb g1 ok1 hu' hv' hq hg
      refine ⟨s2, ?_, (f3.tr f1).tr f2, ?_⟩
      · rw [bd (am_is M3), bd e1, bd (am_is M1), bd e2]
      · split
        · rename_i z; rw [if_pos z] at g2; exact g2
        · rename_i z; rw [if_neg z] at g2; exact g2
    · rw [if_neg late, if_pos (show 0 < lg_cmp ((2 : Int64) * u) v by rw [q_cmp_gt, q_llt, b2p.1, hv.1]; omega)]
      obtain ⟨s1, e1, f1, g1⟩ := r_addG (P := P) hf M3 hb one one (b64N hu' (by omega)) hv' (by omega) hq fl3
      have M1 := f1.M M3
      rw [fadd_cm hq] at g1
      have ok0 : OKf (some (-p, q)) := OKf_n (OKs hq hg (by omega) (by omega))
      have ok1 : OKf (if mxI σ3 m 10 = 0 then fadd (some (-p, q)) 1 1 else none) := by
        split
        · exact OKf_a ok0 (by omega)
        · exact fun z hz => absurd hz (by simp)
      obtain ⟨a', b', B1, B2, b1, gab, hc⟩ := FOr_c g1 ok1
      have fl1 := FOr_01 g1
      obtain ⟨s2, e2, f2, g2⟩ := r_mulG (P := P) (u := 2) (p := 2) hf M1 hb ⟨rfl, by decide⟩ one B1 B2 (by omega) b1 fl1 (gc_1 2) gab
      have M2 := f2.M M1
      have ok2 : OKf (if mxI s1 m 10 = 0 then fmul (some (2, 1)) a' b' else none) := by
        split
        · exact OKf_m (OK1 2 (by decide)) b1 gab
        · exact fun z hz => absurd hz (by simp)
      obtain ⟨s3, e3', f3', g3⟩ := r_byt (P := P) hf M2 hb g2 ok2 B1 B2 b1 gab
      have M3' := f3'.M M2
      have ok3 := OKf_m ok2 b1 gab
      obtain ⟨x', y', X1, Y1, y1, gxy, hc3⟩ := FOr_c g3 ok3
      have fl3' := FOr_01 g3
      obtain ⟨s4, e4, f4, g4⟩ := r_addG (P := P) hf M3' hb one one (b64N X1 (by omega)) Y1 (by omega) y1 fl3'
      refine ⟨s4, ?_, (((f3.tr f1).tr f2).tr f3').tr f4, ?_⟩
      · rw [bd (am_is M3), bd e1, bd (am_gL M1), bd (am_gL M1), bd (am_is M1), bd e2, bd (am_is M2), bd e3', bd (am_gL M3'), bd (am_gL M3'), bd (am_is M3'), bd e4]
      · rw [fadd_cm y1] at g4
        rcases hc with ⟨z1, z2⟩ | ⟨z1, z2, -⟩
        · have z0 : mxI σ3 m 10 = 0 := Classical.byContradiction fun y => by rw [if_neg y] at z2; exact absurd z2 (by simp)
          rw [if_pos z0] at z2 ⊢
          rw [z2, Option.bind_some]
          rw [if_pos z1] at hc3
          have un : fpw (some (2, 1)) a' b' 2 = fmul (fmul (some (2, 1)) a' b') a' b' := rfl
          show FOr s4 m (fadd (fneg (fpw (some (2, 1)) a' b' 2)) 1 1)
          rw [un]
          rcases hc3 with ⟨k1, k2⟩ | ⟨k1, k2, -⟩
          · rw [k2]; rw [if_pos k1] at g4; exact g4
          · rw [k2]; rw [if_neg (by rw [k1]; decide)] at g4; exact g4
        · have hn : ¬ mxI s1 m 10 = 0 := by rw [z1]; decide
          rw [if_neg hn] at hc3
          have k1 : ¬ mxI s3 m 10 = 0 := by
            rcases hc3 with ⟨-, k⟩ | ⟨k, -⟩
            · exact absurd k (by unfold fmul; simp)
            · rw [k]; decide
          rw [if_neg k1] at g4
          split
          · rename_i z0
            rw [if_pos z0] at z2
            rw [z2]; exact g4
          · exact g4
  · rw [if_neg (show ¬ q_n 3 = (1 : Int32) by decide), if_neg (show ¬ q_n 3 = (2 : Int32) by decide), if_pos (show q_n 3 = (3 : Int32) from rfl)]
    obtain ⟨s1, e1, f1, M1, g1, ok1⟩ := three 6 6 ⟨rfl, by decide⟩
    obtain ⟨s2, s3, e2, M2, e3', M3', f3', g3, ok3⟩ := step s1 _ (-15) (-15) ⟨rfl, by decide⟩ M1 g1 ok1
    obtain ⟨s4, s5, e4, M4, e5, M5, f5, g5, ok5⟩ := step s3 _ 10 10 ⟨rfl, by decide⟩ M3' g3 ok3
    obtain ⟨s6, e6, M6, f6, g6⟩ := two s5 _ M5 g5 ok5
    refine ⟨s6, ?_, (((f3.tr f1).tr f3').tr f5).tr f6, ?_⟩
    · unfold f_X12_lawAt_D125
      rw [bd (am_is M3), bd e1, if_pos (show q_n 3 = (3 : Int32) from rfl)]
      unfold f_X12_lawAt_D147
      rw [bd (am_is M1), bd e2, bd (am_is M2), bd e3', if_pos (show q_n 3 = (3 : Int32) from rfl)]
      unfold f_X12_lawAt_D172
      rw [bd (am_is M3'), bd e4, bd (am_is M4), bd e5, if_neg (show ¬ q_n 3 = (4 : Int32) by decide), e6]
    · split
      · rename_i z; rw [if_pos z] at g6; exact g6
      · rename_i z; rw [if_neg z] at g6; exact g6
  · rw [if_neg (show ¬ q_n 4 = (1 : Int32) by decide), if_neg (show ¬ q_n 4 = (2 : Int32) by decide), if_neg (show ¬ q_n 4 = (3 : Int32) by decide)]
    obtain ⟨s1, e1, f1, M1, g1, ok1⟩ := three (-20) (-20) ⟨rfl, by decide⟩
    obtain ⟨s2, s3, e2, M2, e3', M3', f3', g3, ok3⟩ := step s1 _ 70 70 ⟨rfl, by decide⟩ M1 g1 ok1
    obtain ⟨s4, s5, e4, M4, e5, M5, f5, g5, ok5⟩ := step s3 _ (-84) (-84) ⟨rfl, by decide⟩ M3' g3 ok3
    obtain ⟨s7, s8', e7, M7, e8, M8, f8, g8, ok8⟩ := step s5 _ 35 35 ⟨rfl, by decide⟩ M5 g5 ok5
    obtain ⟨s9, e9, f9, g9⟩ := r_byt (P := P) hf M8 hb g8 ok8 hu' hv' hq hg
    have M9 := f9.M M8
    have ok9 := OKf_m ok8 hq hg
    obtain ⟨s6, e6, M6, f6, g6⟩ := two s9 _ M9 g9 ok9
    refine ⟨s6, ?_, (((((f3.tr f1).tr f3').tr f5).tr f8).tr f9).tr f6, ?_⟩
    · unfold f_X12_lawAt_D125
      rw [bd (am_is M3), bd e1, if_neg (show ¬ q_n 4 = (3 : Int32) by decide)]
      unfold f_X12_lawAt_D147
      rw [bd (am_is M1), bd e2, bd (am_is M2), bd e3', if_neg (show ¬ q_n 4 = (3 : Int32) by decide)]
      unfold f_X12_lawAt_D172
      rw [bd (am_is M3'), bd e4, bd (am_is M4), bd e5, if_pos (show q_n 4 = (4 : Int32) from rfl), bd (am_is M5), bd e7, bd (am_is M7), bd e8, bd (am_is M8), bd e9, e6]
    · split
      · rename_i z; rw [if_pos z] at g6; exact g6
      · rename_i z; rw [if_neg z] at g6; exact g6
end KTS
