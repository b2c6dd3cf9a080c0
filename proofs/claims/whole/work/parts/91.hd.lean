/-! ===== hd: middle ===== -/
section HDS
variable {M : BV} {P : mx_P} {σ σ0 σ1 τ : mx_S} {x l l' m n : Nat} {E : Nat → BV} {K : LK} {pl pl0 pl' mk : Nat → Nat} {wy w p i : Nat} {B : LB} {β R : Type} {fn fd : Bool}
/-- what middle answers -/
def MiS (T : Int) (F : Nat → Bool → BV) (wy : Nat → Nat) (pl : Nat → Nat) (a1 a2 a3 : Int32) (k : Nat) (val : Int) (pl' : Nat → Nat) : Prop := pl' = pl ∧
  ((k = 1 ∧ ¬ (rg a1 255 ∧ rg a2 1 ∧ rg a3 1)) ∨ ((rg a1 255 ∧ rg a2 1 ∧ rg a3 1) ∧ ∃ w ax sd, w < 256 ∧ a1 = q_n w ∧ a2 = bI ax ∧ a3 = bI sd ∧
    ((k = 2 ∧ T = 0) ∨ (0 < T ∧ ((k = 3 ∧ wy w ≠ 1) ∨ (k = 2 ∧ wy w = 1 ∧ F w ax = none) ∨ (k = 0 ∧ wy w = 1 ∧ F w ax ≠ none ∧ val = b_sd sd (F w ax)))))))
def T_mi (K : LK) (B : LB) : Int := g_ms (fun p => (B p).1.2.2) (kN K)
def F_mi (K : LK) (pl : Nat → Nat) (B : LB) (w : Nat) (ax : Bool) : BV := b_share (T_mi K B) (g_mi (fun p => v_ax ax (s_S K pl w p).2) (fun p => (B p).1.2.2) (kN K))
theorem c_middle (h : Cx P x l K mk pl σ) (hB : LBok (kN K) B) (hcB : ∀ M τ, CS M l K mk σ pl pl τ → cB τ l (kN K) B) (a1 a2 a3 : Int32) : Wp (f_X11_middle P x a1 a2 a3 σ) (CO Int64.toInt (MiS (T_mi K B) (F_mi K pl B) (g_wy K pl) pl a1 a2 a3) (lP σ l K mk pl)) := by
  obtain ⟨hx, hLl, hb, hN, hrm, h6', hT, M, hcs⟩ := id h
  obtain ⟨p1, -, -, p4, p5⟩ := cx_p h hcs
  have hn := hT.1
  have bad : ¬ (rg a1 255 ∧ rg a2 1 ∧ rg a3 1) → CO (R := Int64) Int64.toInt (MiS (T_mi K B) (F_mi K pl B) (g_wy K pl) pl a1 a2 a3) (lP σ l K mk pl) (.inl (exn 1, th σ)) := fun hb => co_t (by omega) (by omega) ⟨rfl, Or.inl ⟨rfl, hb⟩⟩ ⟨M, hcs⟩
  unfold f_X11_middle f_X11_middle_D35 f_X11_middle_D69
  refine w_rg hrm (fun h1 => ?_) (fun h1 => bad (fun z => h1 z.1))
  refine w_rg hrm (fun h2 => ?_) (fun h2 => bad (fun z => h2 z.2.1))
  refine w_rg hrm (fun h3 => ?_) (fun h3 => bad (fun z => h3 z.2.2))
  have hok : rg a1 255 ∧ rg a2 1 ∧ rg a3 1 := ⟨h1, h2, h3⟩
  obtain ⟨w, hw, rfl⟩ := rg_n (u := 255) h1
  obtain ⟨ax, rfl⟩ := rg_b h2
  obtain ⟨sd, rfl⟩ := rg_b h3
  have hb0 := hcB _ _ hcs
  obtain ⟨y, ey, hy⟩ := c_massG (P := P) (ms := fun p => (B p).1.2.2) (by omega) hLl hn p4 (fun p hpp => ⟨(hb0 p hpp).2.2.1, (hB p hpp).2.2.1⟩)
  have hT0 := g_ms_b (n := kN K) (ms := fun p => (B p).1.2.2) (fun p hpp => (hB p hpp).2.2.1)
  have hyT : y.toInt = T_mi K B := hy
  rw [bd p1, bd (al_is hLl), bd2 ey]
  by_cases h0 : y ≤ 0
  · rw [if_pos h0]
    refine w_np0 hrm (co_t (by omega) (by omega) ⟨rfl, Or.inr ⟨hok, w, ax, sd, by omega, rfl, rfl, rfl, Or.inl ⟨rfl, ?_⟩⟩⟩ ⟨M, hcs⟩)
    rw [q_le, hyT, q_i0] at h0
    have : 0 ≤ T_mi K B := hT0.1
    omega
  rw [if_neg h0]
  have hTp : 0 < T_mi K B := by rw [q_le, hyT, q_i0] at h0; omega
  refine w_np1 ?_
  rw [bd p5]
  refine w_sure h hcs (show w < 256 by omega) (fun τ E j1 hE hwy => ?_) (fun τ j1 hwy => co_t (by omega) (by omega) ⟨rfl, Or.inr ⟨hok, w, ax, sd, by omega, rfl, rfl, rfl, Or.inr ⟨hTp, Or.inl ⟨rfl, hwy⟩⟩⟩⟩ ⟨M, j1⟩)
  obtain ⟨q1, q2, q3, q4, q5⟩ := cx_p h j1
  rw [bd q1, bd (al_is q3)]
  obtain ⟨wy', hz'⟩ := hE.1
  have hb2 := hcB _ _ j1
  refine Wp_b (Wp_mo (c_midG (ax := ax) (ms := fun p => (B p).1.2.2) (by omega) (LL_G hz'.2.1) q3 hb hn q4 (fun p hpp => ⟨(hb2 p hpp).2.2.1, (hB p hpp).2.2.1⟩) hTp) ?_)
  rintro τ3 ⟨E3, g3, hE3, hM3⟩
  have eF : E3 (l + 675) = F_mi K pl B w ax := by
    rw [hM3]; unfold F_mi; rw [g_mi_cg (V' := fun p => v_ax ax (s_S K pl w p).2) (fun p hpp => ⟨by rw [(hE.2 p hpp).1], rfl⟩)]; rfl
  have j3 := CS_G hLl hT j1 hz' g3 hE3 eF
  exact c_mst h j3 (fun hM => co_t (by omega) (by omega) ⟨rfl, Or.inr ⟨hok, w, ax, sd, by omega, rfl, rfl, rfl, Or.inr ⟨hTp, Or.inr (Or.inl ⟨rfl, hwy, hM⟩)⟩⟩⟩ ⟨_, j3⟩) (fun v hM hv => co_r ⟨rfl, Or.inr ⟨hok, w, ax, sd, by omega, rfl, rfl, rfl, Or.inr ⟨hTp, Or.inr (Or.inr ⟨rfl, hwy, hM, hv⟩)⟩⟩⟩ ⟨_, j3⟩)
theorem lp_out {τ ρ : Type} {b : τ → Option (τ ⊕ ρ)} {t : τ} {r : ρ} {fu : Nat} (h : b t = some (.inr r)) (hf : 0 < fu) : mx_lp b fu t = some r := by
  obtain ⟨r', e, rfl⟩ := q_for b (fun _ s => s = t) (fun s => s = r) 0 (fun k _ hk => absurd hk (Nat.not_lt_zero k)) (fun s hs => ⟨r, by rw [hs]; exact h, rfl⟩) 0 0 t fu rfl rfl hf
  exact e
theorem i32e {a b : Nat} (ha : a < 100) (hb : b < 100) : q_n a = q_n b ↔ a = b := q_nI (by omega) (by omega)
theorem r_middle {a1 a2 a3 : Int32} {k : Nat} {val : Int} (hf : 100 ≤ mpN P) (hT : kT K) (hB : LBok (kN K) B) (hp : mpb P ≤ m) (hS : MiS (T_mi K B) (F_mi K pl B) (g_wy K pl) pl a1 a2 a3 k val pl') (h : RLr m K pl B τ) (hM : LyM τ m) : Wp (f_X12_middle P m a1 a2 a3 τ) (RO Int64.toInt id m K τ k val pl') := by
  have h0 := RSq_of h
  have hn := hT.1
  obtain ⟨rfl, hS⟩ := hS
  unfold f_X12_middle f_X12_middle_D37
  rcases hS with ⟨rfl, hbad⟩ | ⟨⟨o1, o2, o3⟩, w, ax, sd, hw, rfl, rfl, rfl, hS⟩
  · have t1 : Wp (f_X12_middle_D38 P m a1 a2 a3 1 m τ) (RO Int64.toInt id m K τ 1 val pl') := by
      unfold f_X12_middle_D38
      refine u_th hM hp ?_
      rw [if_neg (by decide)]
      exact ⟨_, rfl, RO_c (c := 1) hT h0 (by omega) rfl⟩
    exact b_in (fun h1 => b_in (fun h2 => b_in (fun h3 => absurd ⟨h1, h2, h3⟩ hbad) fun _ => t1) fun _ => t1) fun _ => t1
  · refine b_in (fun h1 => b_in (fun h2 => b_in (fun h3 => ?_) fun z => absurd o3 z) fun z => absurd o2 z) fun z => absurd o1 z
    unfold f_X12_middle_D38
    refine u_th hM hp ?_
    rw [if_pos (by decide)]
    have h5 := RSq.th (v := 0) hT h0
    have hM5 := RSq_M h5 hM
    have hrB : rB (mx_setI τ m 0 0) m (kN K) B := (RSq_RLr h h5).2.2
    obtain ⟨y, ey, hy⟩ := r_masL (P := P) (v1 := q_n w) (v2 := bI ax) (v3 := bI sd) (ms := fun p => (B p).1.2.2) hf hM5 hn h5.1.1.1 (fun p hpp => ⟨(hrB p hpp).2.2.1, (hB p hpp).2.2.1⟩)
    have hyT : y.toInt = T_mi K B := hy
    rw [bd ey]
    dsimp only
    rw [bd (am_is hM5)]
    refine Wp_b2 (Wp_mo (rs_work3 hf hM5 hp hT h5.1 hw) ?_)
    rintro ⟨r, τ4⟩ ⟨⟨⟨j1, j2, j3⟩, -⟩, fn, fd, j6, j7⟩
    dsimp only at j1 j2 j3 j6 j7 ⊢
    subst j1
    have h6 := h5.go j2
    have hM6 := RSq_M h6 hM
    have hrB6 : rB τ4 m (kN K) B := (RSq_RLr h h6).2.2
    have hwy3 : g_wy K pl' w ≤ 2 := by unfold g_wy; split <;> (try split) <;> omega
    -- the last word
    have fin : ∀ (c : Nat) (τ' : mx_S) (w1 : Int32), 0 < c → c < 4 → w1 = q_n c → k = c → RSq m K τ pl' τ' → Wp (f_X12_middle_D210 P m (bI sd) y w1 m τ') (RO Int64.toInt id m K τ k val pl') := by
      rintro c τ' w1 c0 c4 rfl rfl hq
      unfold f_X12_middle_D210
      refine u_th (RSq_M hq hM) hp ?_
      rw [if_neg (pos_th c0 c4)]
      exact ⟨_, rfl, RO_t hT hq c0⟩
    have hz0 : y = 0 ↔ T_mi K B = 0 := ⟨fun z => by rw [← hyT, z]; rfl, fun z => Int64.toInt.inj (by rw [hyT, z]; rfl)⟩
    have li200 : (200 : Int32) = q_n 200 := rfl
    by_cases hw1 : g_wy K pl' w = 1
    · obtain ⟨E4, hz4, hall⟩ := j3 (by omega)
      have hso : ∀ p, p < kN K → eR E4 p = (s_S K pl' w p).2 := fun p hpp => by
        have e2 := hall p hpp
        have hso := (wy1 hT hw1 hpp).2
        rw [v_N_id (by rw [← v_N_open, e2]; exact hso)] at e2
        exact e2
      have g4 := H_self hz4 j6 j7
      refine uu_is g4 hM6 ?_
      rw [li200]
      refine uu_box0 g4 hM6 hp (by omega) fun τ9 v hv g9 => ?_
      rw [hw1, show q_n 1 = (1 : Int32) from rfl]
      refine Wp_b (Wp_mo (r_midL (ax := ax) (ms := fun p => (B p).1.2.2) hf g9 hM6 hp hn h6.1.1.1 (fun p hpp => ⟨(hrB6 p hpp).2.2.1, (hB p hpp).2.2.1⟩) (by rw [up_e, hv])) ?_)
      rintro τb ⟨Eb, gb, hEb⟩
      have hEb' : Eb 200 = g_mi (fun p => v_ax ax (s_S K pl' w p).2) (fun p => (B p).1.2.2) (kN K) := by
        rw [hEb]
        refine g_mi_cg fun p hpp => ⟨?_, rfl⟩
        rw [← hso p hpp]; unfold eR; rw [up_n (by omega), up_n (by omega)]
      have hb8 := h6.go (RS_H hT h6.1 gb)
      have hMb := RSq_M hb8 hM
      have hzb : HZ m Eb τb := gb.2.2.2.2.2.1
      have hb2 := hzb 200 (by omega)
      unfold f_X12_middle_D172
      by_cases hy0 : y = 0
      · rw [if_pos (q_cmp0.mpr hy0)]
        rcases hS with ⟨rfl, -⟩ | ⟨z, -⟩
        · exact fin 2 _ _ (by omega) (by omega) rfl rfl hb8
        · have := hz0.mp hy0; omega
      rw [if_neg (fun z => hy0 (q_cmp0.mp z)), if_pos rfl, li200, bd (am_r13 hMb), bd (am_g13 hMb (by omega))]
      rcases hS with ⟨-, z⟩ | ⟨hTp, hS⟩
      · exact absurd (hz0.mpr z) hy0
      replace hS := hS.resolve_left (fun z => z.2 hw1)
      rcases RR_o hb2.1 with ⟨e0, e1, e2, e3, e4⟩ | ⟨e0, e1⟩
      · rw [if_pos e0]
        have eF : F_mi K pl' B w ax = some ((mxL τb (m + 2) 200).toInt / T_mi K B, -(-(mxL τb (m + 3) 200).toInt / T_mi K B)) := by
          unfold F_mi; rw [← hEb', e1]; rfl
        rcases hS with ⟨-, -, z⟩ | ⟨rfl, -, -, rfl⟩
        · rw [eF] at z; cases z
        unfold f_X12_middle_D210 f_X12_middle_D255
        refine u_th hMb hp ?_
        rw [if_pos (by decide)]
        have h9 := RSq.th (v := 0) hT hb8
        have hM9 := RSq_M h9 hM
        cases sd
        · obtain ⟨r, er, hr⟩ := k_dn (P := P) (x := mxL τb (m + 2) 200) (y := y) (by rw [hyT]; exact hTp) (by omega) (mx_setI τb m 0 0)
          rw [if_pos (by rfl), li200, bd (am_r11 hM9), bd (am_g11 hM9 (by omega))]
          rw [show mxL (mx_setI τb m 0 0) (m + 2) 200 = mxL τb (m + 2) 200 from rfl, bd2 er]
          exact ⟨_, rfl, if_pos ⟨rfl, rfl⟩, fun _ => by rw [hr, eF, hyT]; rfl, h9⟩
        · obtain ⟨r, er, hr⟩ := k_up (P := P) (x := mxL τb (m + 3) 200) (y := y) (by rw [hyT]; exact hTp) (by omega) (mx_setI τb m 0 0)
          rw [if_neg (by decide), li200, bd (am_r12 hM9), bd (am_g12 hM9 (by omega))]
          rw [show mxL (mx_setI τb m 0 0) (m + 3) 200 = mxL τb (m + 3) 200 from rfl, bd2 er]
          exact ⟨_, rfl, if_pos ⟨rfl, rfl⟩, fun _ => by rw [hr, eF, hyT]; rfl, h9⟩
      · rw [if_neg (by rw [e0]; decide)]
        have eF : F_mi K pl' B w ax = none := by unfold F_mi; rw [← hEb', e1]; rfl
        rcases hS with ⟨rfl, -, z⟩ | ⟨-, -, z, -⟩
        · exact fin 2 _ _ (by omega) (by omega) rfl rfl hb8
        · exact absurd eF z
    · obtain ⟨E4, hz4⟩ := j2.2.1
      have g4 := H_self hz4 j6 j7
      have hne : ¬ q_n (g_wy K pl' w) = (1 : Int32) := fun z => hw1 (by rw [show (1 : Int32) = q_n 1 from rfl, q_nI (by omega) (by omega)] at z; exact z)
      refine uu_is g4 hM6 ?_
      rw [li200]
      refine uu_box0 g4 hM6 hp (by omega) fun τ9 v hv g9 => ?_
      have hb8 := h6.go (RS_H hT h6.1 g9)
      have hMb := RSq_M hb8 hM
      have eo : mx_lp (f_X12_middle_L104 P m (bI ax) (bI sd) y (q_n (g_wy K pl' w))) (mpN P) ((0 : Int32), τ9) = some τ9 := by
        refine lp_out ?_ (by omega)
        show f_X12_middle_B104 P m (bI ax) (bI sd) y (q_n (g_wy K pl' w)) 0 τ9 = _
        unfold f_X12_middle_B104
        rw [bd (am_gI hMb), if_neg hne]
        split <;> rfl
      rw [bd eo]
      unfold f_X12_middle_D172
      by_cases hy0 : y = 0
      · rw [if_pos (q_cmp0.mpr hy0)]
        rcases hS with ⟨rfl, -⟩ | ⟨z, -⟩
        · exact fin 2 _ _ (by omega) (by omega) rfl rfl hb8
        · have := hz0.mp hy0; omega
      rw [if_neg (fun z => hy0 (q_cmp0.mp z)), if_neg hne]
      rcases hS with ⟨-, z⟩ | ⟨hTp, ⟨rfl, -⟩ | ⟨-, z, -⟩ | ⟨-, z, -⟩⟩
      · exact absurd (hz0.mpr z) hy0
      · exact fin 3 _ _ (by omega) (by omega) rfl rfl hb8
      · exact absurd z hw1
      · exact absurd z hw1
theorem g_middle (hS : St P σ x) (h : RL x σ) (a1 a2 a3 : Int32) : Q64 x σ (f_L_middle P x a1 a2 a3 (x + 1575) σ) (fun τ => f_X12_middle P (x + 1497) a1 a2 a3 τ) [7] (RL x) := by
  obtain ⟨l, l', K, mk, pl, B, hT, hB, hc, hr⟩ := h
  have hx := LyH_o hS.1
  have hb := hS.2.1
  refine asm64 (S := MiS (T_mi K B) (F_mi K pl B) (g_wy K pl) pl a1 a2 a3) (cd := id) hS hT hB hc hr (fun τ v e ho => hr_middle hx e ho (by omega)) (fun τ k pl' k0 k4 hSS e => ?_) (c_middle (Cx_of hS hT hc) hB (hcB_of hS hT hc) a1 a2 a3) (fun k val pl' τ1 hSS hr1 hM1 => r_middle (by have := hS.2.2.1; omega) hT hB (by omega) hSS hr1 hM1) cd_id
  have hk : k = 1 ∨ k = 2 ∨ k = 3 := by omega
  rcases hk with rfl | rfl | rfl
  · exact ht_middle1 hx e
  · exact ht_middle2 hx e
  · exact ht_middle3 hx e
end HDS
