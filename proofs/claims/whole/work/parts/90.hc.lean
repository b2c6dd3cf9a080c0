/-! ===== hc: moment, middle ===== -/
section HCS
variable {M : BV} {P : mx_P} {σ σ0 σ1 τ : mx_S} {x l l' m n : Nat} {E : Nat → BV} {K : LK} {pl pl0 pl' mk : Nat → Nat} {wy w p i : Nat} {B : LB} {β R : Type} {fn fd : Bool}
/-- what moment answers -/
def MoS (F : Nat → Nat → BV) (wy : Nat → Nat) (pl : Nat → Nat) (a1 a2 a3 : Int32) (k : Nat) (val : Int) (pl' : Nat → Nat) : Prop := pl' = pl ∧
  ((k = 1 ∧ ¬ (rg a1 255 ∧ rg a2 3 ∧ rg a3 1)) ∨ ((rg a1 255 ∧ rg a2 3 ∧ rg a3 1) ∧ ∃ w i sd, w < 256 ∧ i < 4 ∧ a1 = q_n w ∧ a2 = q_n i ∧ a3 = bI sd ∧
    ((k = 3 ∧ wy w ≠ 1) ∨ (k = 2 ∧ wy w = 1 ∧ F w i = none) ∨ (k = 0 ∧ wy w = 1 ∧ F w i ≠ none ∧ val = b_sd sd (F w i)))))
def F_mo (K : LK) (pl : Nat → Nat) (B : LB) (w i : Nat) : BV := b_neg (g_mo (V_sp K pl w i) (fun p => (B p).1.1) (fun p => (B p).1.2.1) (kN K))
theorem c_moment (h : Cx P x l K mk pl σ) (hB : LBok (kN K) B) (hcB : ∀ M τ, CS M l K mk σ pl pl τ → cB τ l (kN K) B) (a1 a2 a3 : Int32) : Wp (f_X11_moment P x a1 a2 a3 σ) (CO Int64.toInt (MoS (F_mo K pl B) (g_wy K pl) pl a1 a2 a3) (lP σ l K mk pl)) := by
  obtain ⟨hx, hLl, hb, hN, hrm, h6', hT, M, hcs⟩ := id h
  obtain ⟨p1, -, -, p4, p5⟩ := cx_p h hcs
  have hn := hT.1
  have bad : ¬ (rg a1 255 ∧ rg a2 3 ∧ rg a3 1) → CO (R := Int64) Int64.toInt (MoS (F_mo K pl B) (g_wy K pl) pl a1 a2 a3) (lP σ l K mk pl) (.inl (exn 1, th σ)) := fun hb => co_t (by omega) (by omega) ⟨rfl, Or.inl ⟨rfl, hb⟩⟩ ⟨M, hcs⟩
  unfold f_X11_moment f_X11_moment_D58
  refine w_rg hrm (fun h1 => ?_) (fun h1 => bad (fun z => h1 z.1))
  refine w_rg hrm (fun h2 => ?_) (fun h2 => bad (fun z => h2 z.2.1))
  refine w_rg hrm (fun h3 => ?_) (fun h3 => bad (fun z => h3 z.2.2))
  have hok : rg a1 255 ∧ rg a2 3 ∧ rg a3 1 := ⟨h1, h2, h3⟩
  obtain ⟨w, hw, rfl⟩ := rg_n (u := 255) h1
  obtain ⟨i, hi, rfl⟩ := rg_n (u := 3) h2
  obtain ⟨sd, rfl⟩ := rg_b h3
  rw [bd p5]
  refine w_sure h hcs (show w < 256 by omega) (fun τ E j1 hE hwy => ?_) (fun τ j1 hwy => co_t (by omega) (by omega) ⟨rfl, Or.inr ⟨hok, w, i, sd, by omega, by omega, rfl, rfl, rfl, Or.inl ⟨rfl, hwy⟩⟩⟩ ⟨M, j1⟩)
  obtain ⟨q1, q2, q3, q4, q5⟩ := cx_p h j1
  rw [bd q1, bd (al_is q3)]
  refine Wp_b (Wp_mo (cs_speeds (by omega) hLl hb hT j1 hE (show i < 4 by omega)) ?_)
  rintro τ2 ⟨M', E', j2, hE', hV⟩
  obtain ⟨r1, r2, r3, r4, r5⟩ := cx_p h j2
  rw [bd r1, bd (al_is r3)]
  obtain ⟨wy', hz'⟩ := hE'.1
  have hb2 := hcB _ _ j2
  refine Wp_b (Wp_mo (c_momG (fx := fun p => (B p).1.1) (fy := fun p => (B p).1.2.1) (by omega) (LL_G hz'.2.1) r3 hb hn r4 (fun p hpp => ⟨(hb2 p hpp).1, (hB p hpp).1⟩) (fun p hpp => ⟨(hb2 p hpp).2.1, (hB p hpp).2.1⟩)) ?_)
  rintro τ3 ⟨E3, g3, hE3, hM3⟩
  have eF : E3 (l + 675) = F_mo K pl B w i := by
    rw [hM3]; unfold F_mo; rw [g_mo_cg (fun p hpp => ⟨hV p hpp, rfl, rfl⟩)]; rfl
  have j3 := CS_G hLl hT j2 hz' g3 hE3 eF
  exact c_mst h j3 (fun hM => co_t (by omega) (by omega) ⟨rfl, Or.inr ⟨hok, w, i, sd, by omega, by omega, rfl, rfl, rfl, Or.inr (Or.inl ⟨rfl, hwy, hM⟩)⟩⟩ ⟨_, j3⟩) (fun v hM hv => co_r ⟨rfl, Or.inr ⟨hok, w, i, sd, by omega, by omega, rfl, rfl, rfl, Or.inr (Or.inr ⟨rfl, hwy, hM, hv⟩)⟩⟩ ⟨_, j3⟩)
theorem r_moment {a1 a2 a3 : Int32} {k : Nat} {val : Int} (hf : 100 ≤ mpN P) (hT : kT K) (hB : LBok (kN K) B) (hp : mpb P ≤ m) (hS : MoS (F_mo K pl B) (g_wy K pl) pl a1 a2 a3 k val pl') (h : RLr m K pl B τ) (hM : LyM τ m) : Wp (f_X12_moment P m a1 a2 a3 τ) (RO Int64.toInt id m K τ k val pl') := by
  have h0 := RSq_of h
  have hn := hT.1
  obtain ⟨rfl, hS⟩ := hS
  have thr : ∀ (c : Nat) (w1 : Int32) (τ' : mx_S), 0 < c → c < 4 → w1 = q_n c → RSq m K τ pl' τ' → Wp (f_X12_moment_D38 P m a2 a3 w1 m τ') (RO Int64.toInt id m K τ c val pl') := by
    rintro c w1 τ' c0 c4 rfl hq
    unfold f_X12_moment_D38
    refine u_th (RSq_M hq hM) hp ?_
    rw [if_neg (pos_th c0 c4)]
    exact ⟨_, rfl, RO_t hT hq c0⟩
  unfold f_X12_moment f_X12_moment_D20
  rw [bd (am_is hM)]
  rcases hS with ⟨rfl, hbad⟩ | ⟨⟨o1, o2, o3⟩, w, i, sd, hw, hi, rfl, rfl, rfl, hS⟩
  · have t1 := thr 1 1 τ (by omega) (by omega) rfl h0
    exact b_isw (fun h1 => b_in (fun h3 => absurd ⟨h1.1, h1.2, h3⟩ hbad) fun _ => t1) fun _ => t1
  · refine b_isw (fun h1 => b_in (fun h3 => ?_) fun z => absurd o3 z) fun z => absurd ⟨o1, o2⟩ z
    rw [bd (am_is hM)]
    refine Wp_b2 (Wp_mo (rs_work3 hf hM hp hT h0.1 hw) ?_)
    rintro ⟨r, τ4⟩ ⟨⟨⟨j1, j2, j3⟩, -⟩, fn, fd, j6, j7⟩
    dsimp only at j1 j2 j3 j6 j7 ⊢
    subst j1
    have h6 := h0.go j2
    have hM6 := RSq_M h6 hM
    have hwy3 : g_wy K pl' w ≤ 2 := by unfold g_wy; split <;> (try split) <;> omega
    by_cases hw1 : g_wy K pl' w = 1
    · rw [if_pos (by rw [hw1]; rfl)]
      replace hS := hS.resolve_left (fun z => z.2 hw1)
      obtain ⟨E4, hz4, hall⟩ := j3 (by omega)
      unfold f_X12_moment_D38 f_X12_moment_D205 f_X12_moment_D227
      refine u_th hM6 hp ?_
      rw [if_pos (by decide)]
      have h7 := RSq.th (v := 0) hT h6
      have hM7 := RSq_M h7 hM
      have hz7 : HZ m E4 (mx_setI τ4 m 0 0) := fun d hd => by rw [rr_sI (by omega)]; exact hz4 d hd
      have hrB : rB (mx_setI τ4 m 0 0) m (kN K) B := (RSq_RLr h h7).2.2
      refine r_sv hf hT hp hM h7 hz7 (by rw [q_II, if_neg (by omega)]; exact j6) (by rw [q_II, if_neg (by omega)]; exact j7) hi hw1 hall fun τ8 E8 h8 g8 _ hv8 => ?_
      refine uu_is g8 hM7 ?_
      rw [li_200]
      refine uu_box0 g8 hM7 hp (by omega) fun τ9 v hv g9 => ?_
      refine Wp_b (Wp_mo (r_momG (fx := fun p => (B p).1.1) (fy := fun p => (B p).1.2.1) hf g9 hM7 hp hn h7.1.1.1 (fun p hpp => ⟨(hrB p hpp).1, (hB p hpp).1⟩) (fun p hpp => ⟨(hrB p hpp).2.1, (hB p hpp).2.1⟩) (by rw [up_e, hv])) ?_)
      rintro τa ⟨Ea, ga, hEa⟩
      dsimp only
      refine uu_is ga hM7 (uu_turned ga hM7 hp (by omega) (by omega) fun τb vb hvb gb => ?_)
      have eF : vb = F_mo K pl' B w i := by
        rw [hvb, hEa]; unfold F_mo
        rw [← g_mo_N, g_mo_cg (V' := V_sp K pl' w i) (fun p hpp => ⟨?_, rfl, rfl⟩)]
        rw [← (hv8 p hpp).2]
        unfold eW; rw [up_n (by omega), up_n (by omega)]
      have hb8 := h7.go (RS_H hT h7.1 gb)
      have hMb := RSq_M hb8 hM
      have hzb : HZ m _ τb := gb.2.2.2.2.2.1
      rw [bd (am_r13 hMb), bd (am_g13 hMb (by omega))]
      have hb2 := hzb 200 (by omega)
      rw [up_e, eF] at hb2
      rcases RR_o hb2.1 with ⟨e0, e1, -, -, -⟩ | ⟨e0, e1⟩
      · rw [if_pos e0]
        have hne : F_mo K pl' B w i ≠ none := by rw [e1]; simp
        rcases hS with ⟨-, -, z⟩ | ⟨rfl, -, -, rfl⟩
        · exact absurd z hne
        refine u_th hMb hp ?_
        rw [if_pos (by decide)]
        have h9 := RSq.th (v := 0) hT hb8
        have hM9 := RSq_M h9 hM
        have hz9 : HZ m (up Ea 200 vb) (mx_setI τb m 0 0) := fun d hd => by rw [rr_sI (by omega)]; exact hzb d hd
        obtain ⟨y, ey, hy⟩ := r_side (P := P) (sd := sd) (d := 200) hM9 hz9 (by omega) (by rw [up_e, eF]; exact hne)
        rw [bd (am_is hM9), bd2 ey]
        exact ⟨_, rfl, if_pos ⟨rfl, rfl⟩, fun _ => by rw [hy, up_e, eF], h9⟩
      · rw [if_neg (by rw [e0]; decide)]
        rcases hS with ⟨rfl, -, z⟩ | ⟨-, -, z, -⟩
        · refine u_th hMb hp ?_
          rw [if_neg (by decide)]
          exact ⟨_, rfl, RO_c (c := 2) hT hb8 (by omega) rfl⟩
        · exact absurd e1 z
    · rw [if_neg (fun z => hw1 (by rw [show (1 : Int32) = q_n 1 from rfl, q_nI (by omega) (by omega)] at z; exact z))]
      rcases hS with ⟨rfl, -⟩ | ⟨-, z, -⟩ | ⟨-, z, -⟩
      · exact thr 3 3 _ (by omega) (by omega) rfl h6
      · exact absurd z hw1
      · exact absurd z hw1
theorem hcB_of (hS : St P σ x) (hT : kT K) (hc : RLc x l l' K mk pl B σ) : ∀ M τ, CS M l K mk σ pl pl τ → cB τ l (kN K) B := by
  intro M τ h
  have hl := hc.1.2.2
  have hLl : LyL (mxA σ) (mxR σ) l := by rcases hl with ⟨rfl, -⟩ | ⟨rfl, -⟩; exact LyH_l1 hS.1; exact LyH_l2 hS.1
  exact (CS_RLc hLl hT hc h).2.2.2.1
theorem g_moment (hS : St P σ x) (h : RL x σ) (a1 a2 a3 : Int32) : Q64 x σ (f_L_moment P x a1 a2 a3 (x + 1575) σ) (fun τ => f_X12_moment P (x + 1497) a1 a2 a3 τ) [7] (RL x) := by
  obtain ⟨l, l', K, mk, pl, B, hT, hB, hc, hr⟩ := h
  have hx := LyH_o hS.1
  have hb := hS.2.1
  refine asm64 (S := MoS (F_mo K pl B) (g_wy K pl) pl a1 a2 a3) (cd := id) hS hT hB hc hr (fun τ v e ho => hr_moment hx e ho (by omega)) (fun τ k pl' k0 k4 hSS e => ?_) (c_moment (Cx_of hS hT hc) hB (hcB_of hS hT hc) a1 a2 a3) (fun k val pl' τ1 hSS hr1 hM1 => r_moment (by have := hS.2.2.1; omega) hT hB (by omega) hSS hr1 hM1) cd_id
  have hk : k = 1 ∨ k = 2 ∨ k = 3 := by omega
  rcases hk with rfl | rfl | rfl
  · exact ht_moment1 hx e
  · exact ht_moment2 hx e
  · exact ht_moment3 hx e
end HCS
