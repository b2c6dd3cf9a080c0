/-! ===== hb: pole, moment ===== -/
section HBS
variable {M : BV} {P : mx_P} {σ σ0 σ1 τ : mx_S} {x l l' m n : Nat} {E : Nat → BV} {K : LK} {pl pl0 pl' mk : Nat → Nat} {wy w p i : Nat} {B : LB} {β R : Type} {fn fd : Bool}
theorem b_mul_n {A : BV} : b_mul A none = none := by cases A <;> rfl
theorem b_div_n {A : BV} : b_div A none = none := by cases A <;> rfl
theorem dot_nn {a b : V2} (h : v_open b = true) : v_dot a b = none := by
  unfold v_dot
  cases h1 : b.1 with
  | none => rw [b_mul_n]; rfl
  | some u => cases h2 : b.2 with
    | none => rw [b_mul_n, b_add_n]
    | some v => unfold v_open at h; rw [h1, h2] at h; cases h
theorem slv_no {a b : V2} {m q : BV} (h : m = none ∨ q = none) : v_open (g_slv a b m q) = true := by
  have e : (g_slv a b m q).1 = none := by
    unfold g_slv
    rcases h with rfl | rfl
    · rfl
    · show b_div (b_sub (b_mul m b.2) (b_mul none a.2)) _ = none
      rw [show b_mul none a.2 = none from rfl, b_sub_n]; rfl
  unfold v_open; rw [e]; rfl
theorem slv_N {a b x y : V2} : v_N (g_slv a b (v_dot x a) (v_dot y b)) = v_N (g_slv (v_N a) (v_N b) (v_dot x (v_N a)) (v_dot y (v_N b))) := by
  cases ha : v_open a with
  | true =>
    rw [v_N_no (slv_no (Or.inl (dot_nn ha))), v_N_no (slv_no (Or.inl (dot_nn (by rw [v_N_open]; exact ha))))]
  | false => cases hb : v_open b with
    | true => rw [v_N_no (slv_no (Or.inr (dot_nn hb))), v_N_no (slv_no (Or.inr (dot_nn (by rw [v_N_open]; exact hb))))]
    | false => rw [v_N_id ha, v_N_id hb]
def V_po (K : LK) (pl : Nat → Nat) (w i p q : Nat) : V2 := g_slv (V_sp K pl w i p) (V_sp K pl w i q) (v_dot (s_S K pl w p).2 (V_sp K pl w i p)) (v_dot (s_S K pl w q).2 (V_sp K pl w i q))
/-- what pole answers -/
def PoS (V : Nat → Nat → Nat → Nat → V2) (wy : Nat → Nat) (n : Nat) (pl : Nat → Nat) (a1 a2 a3 a4 a5 a6 : Int32) (k : Nat) (val : Int) (pl' : Nat → Nat) : Prop := pl' = pl ∧
  ((k = 1 ∧ ¬ (rg a1 255 ∧ rg a2 3 ∧ rg a5 1 ∧ rg a6 1)) ∨ ((rg a1 255 ∧ rg a2 3 ∧ rg a5 1 ∧ rg a6 1) ∧ ((k = 2 ∧ ¬ (wi a3 n ∧ wi a4 n)) ∨ ∃ w i p q ax sd, w < 256 ∧ i < 4 ∧ p < n ∧ q < n ∧ a1 = q_n w ∧ a2 = q_n i ∧ a3 = q_n p ∧ a4 = q_n q ∧ a5 = bI ax ∧ a6 = bI sd ∧
    ((k = 3 ∧ wy w ≠ 1) ∨ (k = 2 ∧ wy w = 1 ∧ v_open (V w i p q) = true) ∨ (k = 0 ∧ wy w = 1 ∧ v_open (V w i p q) = false ∧ val = b_sd sd (v_ax ax (V w i p q)))))))
theorem c_pole (h : Cx P x l K mk pl σ) (a1 a2 a3 a4 a5 a6 : Int32) : Wp (f_X11_pole P x a1 a2 a3 a4 a5 a6 σ) (CO Int64.toInt (PoS (V_po K pl) (g_wy K pl) (kN K) pl a1 a2 a3 a4 a5 a6) (lP σ l K mk pl)) := by
  obtain ⟨hx, hLl, hb, hN, hrm, h6', hT, M, hcs⟩ := id h
  obtain ⟨p1, -, -, p4, p5⟩ := cx_p h hcs
  have hn := hT.1
  have bad : ¬ (rg a1 255 ∧ rg a2 3 ∧ rg a5 1 ∧ rg a6 1) → CO (R := Int64) Int64.toInt (PoS (V_po K pl) (g_wy K pl) (kN K) pl a1 a2 a3 a4 a5 a6) (lP σ l K mk pl) (.inl (exn 1, th σ)) := fun hb => co_t (by omega) (by omega) ⟨rfl, Or.inl ⟨rfl, hb⟩⟩ ⟨M, hcs⟩
  unfold f_X11_pole f_X11_pole_D61 f_X11_pole_D62
  refine w_rg hrm (fun h1 => ?_) (fun h1 => bad (fun z => h1 z.1))
  refine w_rg hrm (fun h2 => ?_) (fun h2 => bad (fun z => h2 z.2.1))
  refine w_rg hrm (fun h5 => ?_) (fun h5 => bad (fun z => h5 z.2.2.1))
  refine w_rg hrm (fun h6 => ?_) (fun h6 => bad (fun z => h6 z.2.2.2))
  have hok : rg a1 255 ∧ rg a2 3 ∧ rg a5 1 ∧ rg a6 1 := ⟨h1, h2, h5, h6⟩
  have no : ¬ (wi a3 (kN K) ∧ wi a4 (kN K)) → CO (R := Int64) Int64.toInt (PoS (V_po K pl) (g_wy K pl) (kN K) pl a1 a2 a3 a4 a5 a6) (lP σ l K mk pl) (.inl (exn 2, th σ)) := fun hb => co_t (by omega) (by omega) ⟨rfl, Or.inr ⟨hok, Or.inl ⟨rfl, hb⟩⟩⟩ ⟨M, hcs⟩
  rw [bd p1, bd (al_gI hLl), p4]
  refine b_wi (by omega) (fun h3 => ?_) (fun h3 => w_np0 hrm (no (fun z => h3 z.1)))
  rw [bd p1, bd (al_gI hLl), p4]
  refine b_wi (by omega) (fun h4 => ?_) (fun h4 => w_np0 hrm (no (fun z => h4 z.2)))
  obtain ⟨w, hw, rfl⟩ := rg_n (u := 255) h1
  obtain ⟨i, hi, rfl⟩ := rg_n (u := 3) h2
  obtain ⟨p, hpp, rfl⟩ := wi_n h3
  obtain ⟨q, hqq, rfl⟩ := wi_n h4
  obtain ⟨ax, rfl⟩ := rg_b h5
  obtain ⟨sd, rfl⟩ := rg_b h6
  refine w_np1 ?_
  rw [bd p5]
  refine w_sure h hcs (show w < 256 by omega) (fun τ E j1 hE hwy => ?_) (fun τ j1 hwy => co_t (by omega) (by omega) ⟨rfl, Or.inr ⟨hok, Or.inr ⟨w, i, p, q, ax, sd, by omega, by omega, hpp, hqq, rfl, rfl, rfl, rfl, rfl, rfl, Or.inl ⟨rfl, hwy⟩⟩⟩⟩ ⟨M, j1⟩)
  obtain ⟨q1, q2, q3, q4, q5⟩ := cx_p h j1
  rw [bd q1, bd (al_is q3)]
  refine Wp_b (Wp_mo (cs_speeds (by omega) hLl hb hT j1 hE (show i < 4 by omega)) ?_)
  rintro τ2 ⟨M', E', j2, hE', hV⟩
  obtain ⟨r1, r2, r3, r4, r5⟩ := cx_p h j2
  rw [bd r1, bd (al_is r3)]
  obtain ⟨wy', hz'⟩ := hE'.1
  refine Wp_b2 (Wp_mo (c_poleG (LL_G hz'.2.1) hb r3 (show p < 40 by omega) (show q < 40 by omega)) ?_)
  rintro ⟨y, τ3⟩ ⟨rfl, E3, g3, hE3, v1, v2⟩
  dsimp only at g3 ⊢
  have j3 := CS_G hLl hT j2 hz' g3 hE3 rfl
  obtain ⟨s1, s2, s3, s4, s5⟩ := cx_p h j3
  have tg := (tx_of r3).2.2.2.1
  have hvp : (E3 (l + 668 + 1), E3 (l + 668 + 2)) = V_po K pl w i p q := by
    rw [v1, v2, hV p hpp, hV q hqq, (hE'.2 p hpp).1, (hE'.2 q hqq).1]; rfl
  refine Wp_bx2 (Wp_mo (c_cn g3 tg s2) ?_)
  rw [hvp]
  rintro r (⟨ho, rfl⟩ | ⟨ho, v, rfl, hv⟩)
  · exact co_t (by omega) (by omega) ⟨rfl, Or.inr ⟨hok, Or.inr ⟨w, i, p, q, ax, sd, by omega, by omega, hpp, hqq, rfl, rfl, rfl, rfl, rfl, rfl, Or.inr (Or.inl ⟨rfl, hwy, ho⟩)⟩⟩⟩ ⟨_, j3⟩
  · exact ⟨_, rfl, co_r ⟨rfl, Or.inr ⟨hok, Or.inr ⟨w, i, p, q, ax, sd, by omega, by omega, hpp, hqq, rfl, rfl, rfl, rfl, rfl, rfl, Or.inr (Or.inr ⟨rfl, hwy, ho, hv⟩)⟩⟩⟩ ⟨_, j3⟩⟩
theorem r_poleA {a1 a2 a3 a4 a5 a6 : Int32} {k : Nat} {val : Int} (hf : 100 ≤ mpN P) (hT : kT K) (hp : mpb P ≤ m) (hS : PoS (V_po K pl) (g_wy K pl) (kN K) pl a1 a2 a3 a4 a5 a6 k val pl') (h : RLr m K pl B τ) (hM : LyM τ m) : Wp (f_X12_pole P m a1 a2 a3 a4 a5 a6 τ) (RO Int64.toInt id m K τ k val pl') := by
  have h0 := RSq_of h
  have hn := hT.1
  obtain ⟨rfl, hS⟩ := hS
  have thr : ∀ (c : Nat) (w1 : Int32), 0 < c → c < 4 → w1 = q_n c → Wp (f_X12_pole_D58 P m a1 a2 a3 a4 a5 a6 w1 m τ) (RO Int64.toInt id m K τ c val pl') := by
    rintro c w1 c0 c4 rfl
    unfold f_X12_pole_D58
    refine u_th hM hp ?_
    rw [if_neg (pos_th c0 c4)]
    exact ⟨_, rfl, RO_t hT h0 c0⟩
  unfold f_X12_pole f_X12_pole_D32 f_X12_pole_D57
  rw [bd (am_is hM)]
  rcases hS with ⟨rfl, hbad⟩ | ⟨⟨o1, o2, o5, o6⟩, hS⟩
  · have t1 := thr 1 1 (by omega) (by omega) rfl
    exact b_isw (fun h1 => b_in (fun h5 => b_in (fun h6 => absurd ⟨h1.1, h1.2, h5, h6⟩ hbad) fun _ => t1) fun _ => t1) fun _ => t1
  · refine b_isw (fun h1 => b_in (fun h5 => b_in (fun h6 => ?_) fun z => absurd o6 z) fun z => absurd o5 z) fun z => absurd ⟨o1, o2⟩ z
    rw [bd (am_is hM)]
    rcases hS with ⟨rfl, h2⟩ | ⟨w, i, p, q, ax, sd, hw, hi, hpp, hqq, rfl, rfl, rfl, rfl, rfl, rfl, hS⟩
    · refine b_isp hM hn h.1.1 (fun z1 => ?_) fun _ => thr 2 _ (by omega) (by omega) rfl
      rw [bd (am_is hM)]
      exact b_isp hM hn h.1.1 (fun z2 => absurd ⟨z1, z2⟩ h2) fun _ => thr 2 _ (by omega) (by omega) rfl
    · refine b_isp hM hn h.1.1 (fun _ => ?_) (fun z => absurd (wi_q hpp hn) z)
      rw [bd (am_is hM)]
      refine b_isp hM hn h.1.1 (fun _ => ?_) (fun z => absurd (wi_q hqq hn) z)
      unfold f_X12_pole_D58 f_X12_pole_D174 f_X12_pole_D179 f_X12_pole_D205
      refine u_th hM hp ?_
      have h5 := RSq.th (v := 0) hT h0
      have hM5 := RSq_M h5 hM
      rw [if_pos (by decide), bd (am_is hM5)]
      refine Wp_b2 (Wp_mo (rs_work3 hf hM5 hp hT h5.1 hw) ?_)
      rintro ⟨r, τ4⟩ ⟨⟨⟨j1, j2, j3⟩, -⟩, fn, fd, j6, j7⟩
      dsimp only at j1 j2 j3 j6 j7 ⊢
      subst j1
      have h6 := h5.go j2
      have hM6 := RSq_M h6 hM
      have hwy3 : g_wy K pl' w ≤ 2 := by unfold g_wy; split <;> (try split) <;> omega
      by_cases hw1 : g_wy K pl' w = 1
      · rw [if_pos (by rw [hw1]; rfl)]
        replace hS := hS.resolve_left (fun z => z.2 hw1)
        obtain ⟨E4, hz4, hall⟩ := j3 (by omega)
        refine r_sv hf hT hp hM h6 hz4 j6 j7 hi hw1 hall fun τ7 E7 h7 g7 _ hv7 => ?_
        refine uu_pole g7 hM6 hp (show p < 40 by omega) (show q < 40 by omega) fun τ8 E8 g8 hv8 => ?_
        have h8 := h6.go (RS_H hT h6.1 g8)
        have hM8 := RSq_M h8 hM
        have hz8 : HZ m E8 τ8 := g8.2.2.2.2.2.1
        have e2 : v_N (E8 162, E8 163) = v_N (V_po K pl' w i p q) := by
          rw [hv8, slv_N, (hv7 p hpp).2, (hv7 q hqq).2, (hv7 p hpp).1, (hv7 q hqq).1]; rfl
        have eo : v_open (E8 162, E8 163) = v_open (V_po K pl' w i p q) := by rw [← v_N_open, e2, v_N_open]
        have bad2 : ∀ {A : mx_S → Option (Int64 × mx_S)}, k = 2 → Wp ((mp_I P τ8 m 12 0 2).bind fun τ => (mg_I τ m 12 0).bind fun y => if y ≤ 0 then A τ else some (0, τ)) (RO Int64.toInt id m K τ k val pl') := by
          rintro A rfl
          refine u_th hM8 hp ?_
          rw [if_neg (by decide)]
          exact ⟨_, rfl, RO_c (c := 2) hT h8 (by omega) rfl⟩
        rw [li_162, li_163, bd (am_r13 hM8), bd (am_g13 hM8 (by omega)), bd (am_r13 hM8), bd (am_g13 hM8 (by omega))]
        unfold v_open at eo
        dsimp only at eo
        rcases RR_o (hz8 162 (by omega)).1 with ⟨e0, e1, -, -, -⟩ | ⟨e0, e1⟩
        · rw [if_pos e0]
          rcases RR_o (hz8 163 (by omega)).1 with ⟨e3, e4, -, -, -⟩ | ⟨e3, e4⟩
          · rw [if_pos e3]
            have ho : v_open (V_po K pl' w i p q) = false := by unfold v_open; rw [← eo, e1, e4]; rfl
            have ho8 : v_open (E8 162, E8 163) = false := by unfold v_open; rw [e1, e4]; rfl
            rcases hS with ⟨-, -, z⟩ | ⟨rfl, -, -, rfl⟩
            · rw [ho] at z; cases z
            rw [v_N_id ho8, v_N_id ho] at e2
            refine u_th hM8 hp ?_
            rw [if_pos (by decide)]
            have h9 := RSq.th (v := 0) hT h8
            have hM9 := RSq_M h9 hM
            have hz9 : HZ m E8 (mx_setI τ8 m 0 0) := fun d hd => by rw [rr_sI (by omega)]; exact hz8 d hd
            have hidx : q_n 162 + bI ax = q_n (162 + (if ax then 1 else 0)) := by
              cases ax
              · exact Int32.add_zero _
              · exact q_nS _
            have hval : E8 (162 + (if ax then 1 else 0)) = v_ax ax (V_po K pl' w i p q) := by
              rw [← e2]; unfold v_ax; cases ax <;> rfl
            obtain ⟨y, ey, hy⟩ := r_side (P := P) (sd := sd) (d := 162 + (if ax then 1 else 0)) hM9 hz9 (by split <;> omega) (by rw [hval]; exact v_ax_ne ho)
            rw [bd (am_is hM9), hidx, bd2 ey]
            exact ⟨_, rfl, if_pos ⟨rfl, rfl⟩, fun _ => by rw [hy, hval], h9⟩
          · rw [if_neg (by rw [e3]; decide)]
            have ho : v_open (V_po K pl' w i p q) = true := by unfold v_open; rw [← eo, e1, e4]; rfl
            rcases hS with ⟨rfl, -, z⟩ | ⟨-, -, z, -⟩
            · exact bad2 rfl
            · rw [ho] at z; cases z
        · rw [if_neg (by rw [e0]; decide)]
          have ho : v_open (V_po K pl' w i p q) = true := by unfold v_open; rw [← eo, e1]; rfl
          rcases hS with ⟨rfl, -, z⟩ | ⟨-, -, z, -⟩
          · exact bad2 rfl
          · rw [ho] at z; cases z
      · rw [if_neg (fun z => hw1 (by rw [show (1 : Int32) = q_n 1 from rfl, q_nI (by omega) (by omega)] at z; exact z)), am_pI hM6 hp]
        rcases hS with ⟨rfl, -⟩ | ⟨-, z, -⟩ | ⟨-, z, -⟩
        · exact ⟨_, rfl, RO_c (c := 3) hT h6 (by omega) rfl⟩
        · exact absurd z hw1
        · exact absurd z hw1
theorem g_pole (hS : St P σ x) (h : RL x σ) (a1 a2 a3 a4 a5 a6 : Int32) : Q64 x σ (f_L_pole P x a1 a2 a3 a4 a5 a6 (x + 1575) σ) (fun τ => f_X12_pole P (x + 1497) a1 a2 a3 a4 a5 a6 τ) [7] (RL x) := by
  obtain ⟨l, l', K, mk, pl, B, hT, hB, hc, hr⟩ := h
  have hx := LyH_o hS.1
  have hb := hS.2.1
  refine asm64 (S := PoS (V_po K pl) (g_wy K pl) (kN K) pl a1 a2 a3 a4 a5 a6) (cd := id) hS hT hB hc hr (fun τ v e ho => hr_pole hx e ho (by omega)) (fun τ k pl' k0 k4 hSS e => ?_) (c_pole (Cx_of hS hT hc) a1 a2 a3 a4 a5 a6) (fun k val pl' τ1 hSS hr1 hM1 => r_poleA (by have := hS.2.2.1; omega) hT (by omega) hSS hr1 hM1) cd_id
  have hk : k = 1 ∨ k = 2 ∨ k = 3 := by omega
  rcases hk with rfl | rfl | rfl
  · exact ht_pole1 hx e
  · exact ht_pole2 hx e
  · exact ht_pole3 hx e
end HBS
