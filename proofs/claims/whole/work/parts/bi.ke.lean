/-! ===== ke: kinds ===== -/
section KES
variable {P : mx_P} {σ τ : mx_S} {x : Nat}
theorem g_kinds (hS : St P σ x) (h : RKd x σ) (a b : Int32) : Q32 x σ (f_L_kinds P x a b (x + 1575) σ) (fun τ => f_X12_kinds P (x + 1497) a b τ) [4] (RKd x) := by
  obtain ⟨hH, hb, hN, hrm⟩ := hS
  have hx := LyH_o hH
  have hM := LyH_m hH
  have hK : LyKd σ (x + 112) := LyH_k hH
  have hbm : mpb P ≤ x + 1497 := by omega
  have hbk : mpb P ≤ x + 112 := by omega
  have e3 : (3 : Int32).toInt = 3 ∧ (6 : Int32).toInt = 6 ∧ (0 : Int32).toInt = 0 ∧ (15 : Int32).toInt = 15 := ⟨rfl, rfl, rfl, rfl⟩
  have e3' : (3 : Int64).toInt = 3 ∧ (6 : Int64).toInt = 6 ∧ (0 : Int64).toInt = 0 ∧ (15 : Int64).toInt = 15 := ⟨rfl, rfl, rfl, rfl⟩
  have m4 : LyM (th σ) (x + 1497) := hM
  have thr : f_X12_kinds_D31 P (x + 1497) a b (x + 1497) (th σ) = some (0, mx_setI (th σ) (x + 1497) 0 1) := by
    have m5 : LyM (mx_setI (th σ) (x + 1497) 0 1) (x + 1497) := hM
    unfold f_X12_kinds_D31 f_X12_kinds_D32
    rw [bd (am_pI m4 hbm _), bd (am_gI m5), sI_e, if_neg (show ¬ (1 : Int32) ≤ 0 by decide)]
  by_cases ra : 3 ≤ a.toInt ∧ a.toInt ≤ 6
  · by_cases rb : 0 ≤ b.toInt ∧ b.toInt ≤ 15
    · obtain ⟨n, h3, h7, rfl⟩ : ∃ n, 3 ≤ n ∧ n < 7 ∧ a = q_n n := ⟨a.toInt.toNat, by omega, by omega, q_ofT (by omega)⟩
      obtain ⟨j, hj, rfl⟩ : ∃ j, j < 16 ∧ b = q_n j := ⟨b.toInt.toNat, by omega, q_ofT (by omega)⟩
      obtain ⟨L, h0, hs⟩ := kqL_ex n j
      obtain ⟨σ1, e1, L1, f1⟩ := c_lst (P := P) hK hbk h7 h3 (by omega) hj h0 hs
      have l156 := kqL_156 h7 h3 h0 hs (Nat.le_refl _)
      have hH1 : LyH (mxA σ1) (mxR σ1) x := by rw [f1.1, f1.2.1]; exact hH
      have c1 : f_X11_kinds P x (q_n n) (q_n j) σ = some (.inr (q_n (L (2 ^ kqr n)).length, σ1)) := by
        unfold f_X11_kinds
        rw [bdx (rg_t (by rw [e3.1, e3.2.1]; exact ra) σ), bdx (rg_t (by rw [e3.2.2.1, e3.2.2.2]; exact rb) σ), bd (ah_r3 hH), bd (ak_is hK), bd e1, bd (ah_r3 hH1), bd (ak_gI (f1.Kd hK)), L1.1]
      have m1 : LyM σ1 (x + 1497) := f1.M hM
      have m2 : LyM (mx_setL σ1 (x + 1575) 0 (q_n (L (2 ^ kqr n)).length).toInt64) (x + 1497) := m1
      have m3 : LyM (mx_setI (mx_setL σ1 (x + 1575) 0 (q_n (L (2 ^ kqr n)).length).toInt64) (x + 1497) 0 0) (x + 1497) := m1
      have m5 : LyM (mx_setI (mx_setI (mx_setL σ1 (x + 1575) 0 (q_n (L (2 ^ kqr n)).length).toInt64) (x + 1497) 0 0) (x + 1497) 91 0) (x + 1497) := m1
      obtain ⟨σ2, e2, L2, f2⟩ := r_kls (P := P) m5 hbm h7 h3 (by omega) hj h0 hs sI_e
      have t0 := (kq_t3 n h7 h3).1
      have ed : md_I (q_n n * (q_n n - 1)) (2 : Int32) = some (q_n (kqr n)) := by
        have : ∀ n : Fin 7, 3 ≤ n.1 → md_I (q_n n.1 * (q_n n.1 - 1)) (2 : Int32) = some (q_n (kqr n.1)) := by decide +kernel
        exact this ⟨n, h7⟩ h3
      have sh := kb_1 ⟨kqr n, by omega⟩
      dsimp only at sh
      have r1 : f_X12_kinds P (x + 1497) (q_n n) (q_n j) (mx_setL σ1 (x + 1575) 0 (q_n (L (2 ^ kqr n)).length).toInt64) = some (q_n (L (2 ^ kqr n)).length, σ2) := by
        unfold f_X12_kinds
        rw [bd2 (in_t (l := 3) (u := 6) (by rw [e3'.1, e3'.2.1]; exact ra) _), if_neg zi10, bd2 (in_t (l := 0) (u := 15) (by rw [e3'.2.2.1, e3'.2.2.2]; exact rb) _), if_neg zi10]
        unfold f_X12_kinds_D32
        rw [bd (am_pI m2 hbm _), bd (am_gI m3), sI_e, if_pos (show (0 : Int32) ≤ 0 by decide), bd (am_pI m3 hbm _), bd ed, Option.bind_some, sh, bd e2]
        dsimp only
        rw [bd (am_gI (f2.M m5)), L2.1]
      have F1 : Fr x [4] σ σ1 := f1.fr fun i q j hc hi z => by
        have : i = 4 := cp_dj hc (show cp x 4 q j from Or.inl (by unfold SKK at z; omega))
        exact hi (by rw [this]; simp)
      have hz : mxz σ1 = mxz σ := f1.2.2.1.1
      have c91 : cp x 4 (x + 1497) 91 := Or.inr (Or.inr ⟨rfl, rfl⟩)
      have F2 : Fr x [4] σ1 (mx_setI (mx_setI (mx_setL σ1 (x + 1575) 0 (q_n (L (2 ^ kqr n)).length).toInt64) (x + 1497) 0 0) (x + 1497) 91 0) := (((sL_o _).mo (by simp)).sI (Or.inr cp_t) 0).sI (Or.inl ⟨4, by simp, c91⟩) 0
      have F3 : Fr x [4] (mx_setI (mx_setI (mx_setL σ1 (x + 1575) 0 (q_n (L (2 ^ kqr n)).length).toInt64) (x + 1497) 0 0) (x + 1497) 91 0) σ2 := f2.fr fun i q j hc hi z => by
        by_cases y : q = x + 1560 ∨ q = x + 1561
        · rcases i with _ | _ | _ | _ | _ | _ | _ | _ | i <;> first | exact hc.elim | (simp only [cp] at hc; omega)
        · have : i = 4 := cp_dj hc (show cp x 4 q j by
            unfold SRR at z
            rcases z with z | z
            · exact Or.inr (Or.inr (by omega))
            · exact Or.inr (Or.inl (by omega)))
          exact hi (by rw [this]; simp)
      have g2 : ∀ q j, ¬ SRR (x + 1497) q j → ¬ (q = x + 1497 ∧ j = 0) → mxI σ2 q j = mxI σ1 q j := fun q j z1 z2 => by
        rw [f2.gi z1, sI_n (fun y => z1 (Or.inl y)), sI_n z2, IsL]
      refine ⟨0, q_n (L (2 ^ kqr n)).length, _, σ2, hr_kinds hx c1 (LyH_u hH1) (by omega), r1, ?_, fun _ => ?_, f1.1, (F1.tr' F2 hz).tr' F3 ?_, (L (2 ^ kqr n)).length, l156, ?_, L2.1, fun k hk => ?_⟩
      · rw [f2.gi (by unfold SRR; omega), sI_n (by omega), sI_e]
      · rw [(f2.2.2.2 (x + 1575) 0 (by unfold SRR; omega)).2, LsI, LsI]; exact sL_e
      · exact hz
      · rw [g2 _ _ (by unfold SRR; omega) (by omega)]; exact L1.1
      · rw [g2 _ _ (by unfold SRR; omega) (by omega), L1.2 k hk]; exact (L2.2 k hk).symm
    · refine thr32 (w := 1) (ht_kinds1 hx ?_) ?_ (by decide) (RKd_t h 1)
      · unfold f_X11_kinds
        rw [bdx (rg_t (by rw [e3.1, e3.2.1]; exact ra) σ), bdxl (rg_f (by rw [e3.2.2.1, e3.2.2.2]; exact rb) hrm)]
      · show f_X12_kinds P (x + 1497) a b (th σ) = _
        unfold f_X12_kinds
        rw [bd2 (in_t (l := 3) (u := 6) (by rw [e3'.1, e3'.2.1]; exact ra) _), if_neg zi10, bd2 (in_f (l := 0) (u := 15) (by rw [e3'.2.2.1, e3'.2.2.2]; exact rb) _), if_pos rfl, thr]
  · refine thr32 (w := 1) (ht_kinds1 hx ?_) ?_ (by decide) (RKd_t h 1)
    · unfold f_X11_kinds
      rw [bdxl (rg_f (by rw [e3.1, e3.2.1]; exact ra) hrm)]
    · show f_X12_kinds P (x + 1497) a b (th σ) = _
      unfold f_X12_kinds
      rw [bd2 (in_f (l := 3) (u := 6) (by rw [e3'.1, e3'.2.1]; exact ra) _), if_pos rfl, thr]
end KES
