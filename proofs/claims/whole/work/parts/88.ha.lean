/-! ===== ha: least, speed, pole ===== -/
section HAS
variable {M : BV} {P : mx_P} {σ σ0 σ1 τ : mx_S} {x l l' m n : Nat} {E : Nat → BV} {K : LK} {pl pl0 pl' mk : Nat → Nat} {wy w p i : Nat} {B : LB} {β R : Type} {fn fd : Bool}
theorem b_wi {v : Int32} {n : Nat} (hn : n < 2147483648) {A C : mx_S → Option β} {Q : β → Prop} (h1 : wi v n → Wp (C σ) Q) (h2 : ¬ wi v n → Wp (A σ) Q) : Wp (mx_b2 (f_X11_isWithin P v (q_n n) σ) fun y τ => if y = 0 then A τ else C τ) Q :=
  w_wi hn (fun h => by rw [if_neg zi10]; exact h1 h) (fun h => by rw [if_pos rfl]; exact h2 h)
/-- what least answers -/
def LeS (F : Nat → Nat → Nat → Nat → BV) (n : Nat) (pl : Nat → Nat) (a1 a2 a3 a4 a5 : Int32) (k : Nat) (val : Int) (pl' : Nat → Nat) : Prop := pl' = pl ∧
  ((k = 1 ∧ ¬ (rg a1 255 ∧ rg a2 3 ∧ rg a5 1)) ∨ ((rg a1 255 ∧ rg a2 3 ∧ rg a5 1) ∧ ((k = 2 ∧ ¬ (wi a3 n ∧ wi a4 n)) ∨ ∃ w i p q sd, w < 256 ∧ i < 4 ∧ p < n ∧ q < n ∧ a1 = q_n w ∧ a2 = q_n i ∧ a3 = q_n p ∧ a4 = q_n q ∧ a5 = bI sd ∧
    ((k = 2 ∧ F w i p q = none) ∨ (k = 0 ∧ F w i p q ≠ none ∧ val = b_sd sd (F w i p q))))))
def F_le (N : Nat) (K : LK) (pl : Nat → Nat) (w i p q : Nat) : BV := g_fold b_lst (g_sr K pl w i) (fun k => v_nrm (v_sub (s_S K (upl pl i k) w p).2 (s_S K (upl pl i k) w q).2)) N
theorem c_least {N : Nat} (hN0 : N = 1024) (h : Cx P x l K mk pl σ) (a1 a2 a3 a4 a5 : Int32) : Wp (f_X11_least P x a1 a2 a3 a4 a5 σ) (CO Int64.toInt (LeS (F_le N K pl) (kN K) pl a1 a2 a3 a4 a5) (lP σ l K mk pl)) := by
  obtain ⟨hx, hLl, hb, hN, hrm, h6, hT, M, hcs⟩ := id h
  obtain ⟨p1, -, -, p4, p5⟩ := cx_p h hcs
  have hn := hT.1
  have bad : ¬ (rg a1 255 ∧ rg a2 3 ∧ rg a5 1) → CO (R := Int64) Int64.toInt (LeS (F_le N K pl) (kN K) pl a1 a2 a3 a4 a5) (lP σ l K mk pl) (.inl (exn 1, th σ)) := fun hb => co_t (by omega) (by omega) ⟨rfl, Or.inl ⟨rfl, hb⟩⟩ ⟨M, hcs⟩
  unfold f_X11_least f_X11_least_D54 f_X11_least_D55 f_X11_least_D88
  refine w_rg hrm (fun h1 => ?_) (fun h1 => bad (fun z => h1 z.1))
  refine w_rg hrm (fun h2 => ?_) (fun h2 => bad (fun z => h2 z.2.1))
  refine w_rg hrm (fun h5 => ?_) (fun h5 => bad (fun z => h5 z.2.2))
  have hok : rg a1 255 ∧ rg a2 3 ∧ rg a5 1 := ⟨h1, h2, h5⟩
  have no : ¬ (wi a3 (kN K) ∧ wi a4 (kN K)) → CO (R := Int64) Int64.toInt (LeS (F_le N K pl) (kN K) pl a1 a2 a3 a4 a5) (lP σ l K mk pl) (.inl (exn 2, th σ)) := fun hb => co_t (by omega) (by omega) ⟨rfl, Or.inr ⟨hok, Or.inl ⟨rfl, hb⟩⟩⟩ ⟨M, hcs⟩
  rw [bd p1, bd (al_gI hLl), p4]
  refine b_wi (by omega) (fun h3 => ?_) (fun h3 => w_np0 hrm (no (fun z => h3 z.1)))
  rw [bd p1, bd (al_gI hLl), p4]
  refine b_wi (by omega) (fun h4 => ?_) (fun h4 => w_np0 hrm (no (fun z => h4 z.2)))
  obtain ⟨w, hw, rfl⟩ := rg_n (u := 255) h1
  obtain ⟨i, hi, rfl⟩ := rg_n (u := 3) h2
  obtain ⟨p, hpp, rfl⟩ := wi_n h3
  obtain ⟨q, hqq, rfl⟩ := wi_n h4
  obtain ⟨sd, rfl⟩ := rg_b h5
  refine w_np1 ?_
  rw [bd p1, bd (al_is hLl)]
  refine Wp_b (Wp_mo (c_appr (by omega) hLl hb hT hcs (show i < 4 by omega) (show w < 256 by omega) hpp hqq hN0) ?_)
  intro τ j1
  exact c_mst h j1 (fun hM => co_t (by omega) (by omega) ⟨rfl, Or.inr ⟨hok, Or.inr ⟨w, i, p, q, sd, by omega, by omega, hpp, hqq, rfl, rfl, rfl, rfl, rfl, Or.inl ⟨rfl, hM⟩⟩⟩⟩ ⟨_, j1⟩) (fun v hM hv => co_r ⟨rfl, Or.inr ⟨hok, Or.inr ⟨w, i, p, q, sd, by omega, by omega, hpp, hqq, rfl, rfl, rfl, rfl, rfl, Or.inr ⟨rfl, hM, hv⟩⟩⟩⟩ ⟨_, j1⟩)
theorem r_least {N : Nat} (hN0 : N = 1024) {a1 a2 a3 a4 a5 : Int32} {k : Nat} {val : Int} (hf : 2000 ≤ mpN P) (hT : kT K) (hp : mpb P ≤ m) (hS : LeS (F_le N K pl) (kN K) pl a1 a2 a3 a4 a5 k val pl') (h : RLr m K pl B τ) (hM : LyM τ m) : Wp (f_X12_least P m a1 a2 a3 a4 a5 τ) (RO Int64.toInt id m K τ k val pl') := by
  have h0 := RSq_of h
  have hn := hT.1
  obtain ⟨rfl, hS⟩ := hS
  have thr : ∀ (c : Nat) (w1 : Int32), 0 < c → c < 4 → w1 = q_n c → Wp (f_X12_least_D47 P m a1 a2 a3 a4 a5 w1 m τ) (RO Int64.toInt id m K τ c val pl') := by
    rintro c w1 c0 c4 rfl
    unfold f_X12_least_D47
    refine u_th hM hp ?_
    rw [if_neg (pos_th c0 c4)]
    exact ⟨_, rfl, RO_t hT h0 c0⟩
  unfold f_X12_least f_X12_least_D21 f_X12_least_D46
  rw [bd (am_is hM)]
  rcases hS with ⟨rfl, hbad⟩ | ⟨⟨o1, o2, o5⟩, hS⟩
  · have t1 := thr 1 1 (by omega) (by omega) rfl
    exact b_isw (fun h1 => b_in (fun h5 => absurd ⟨h1.1, h1.2, h5⟩ hbad) fun _ => t1) fun _ => t1
  · refine b_isw (fun h1 => b_in (fun h5 => ?_) fun z => absurd o5 z) fun z => absurd ⟨o1, o2⟩ z
    rw [bd (am_is hM)]
    rcases hS with ⟨rfl, h2⟩ | ⟨w, i, p, q, sd, hw, hi, hpp, hqq, rfl, rfl, rfl, rfl, rfl, hS⟩
    · refine b_isp hM hn h.1.1 (fun z1 => ?_) fun _ => thr 2 _ (by omega) (by omega) rfl
      rw [bd (am_is hM)]
      exact b_isp hM hn h.1.1 (fun z2 => absurd ⟨z1, z2⟩ h2) fun _ => thr 2 _ (by omega) (by omega) rfl
    · refine b_isp hM hn h.1.1 (fun _ => ?_) (fun z => absurd (wi_q hpp hn) z)
      rw [bd (am_is hM)]
      refine b_isp hM hn h.1.1 (fun _ => ?_) (fun z => absurd (wi_q hqq hn) z)
      unfold f_X12_least_D47 f_X12_least_D196
      refine u_th hM hp ?_
      have h5 := RSq.th (v := 0) hT h0
      have hM5 := RSq_M h5 hM
      obtain ⟨e18, hlt⟩ := h5.1.1.2.2.2.1 i hi
      rw [if_pos (by decide), bd (am_r34 hM5), bd (am_g34 hM5 hi), e18]
      refine Wp_b (Wp_mo (r_lst hf hM5 hp hT h5.1 hi hw hpp hqq hN0 rfl rfl) ?_)
      rintro ⟨y1, y2, τ6⟩ ⟨k1, k2, a, k3⟩
      dsimp only at k1 k2 k3 ⊢
      have hM6 := RS_M k3 hM5
      obtain ⟨τ7, e7, h7⟩ := rs_set (P := P) hM5 hp hT k3 hi hlt
      rw [upl_back] at h7
      rw [bd (am_r34 hM6), bd e7]
      exact r_fin hT hp hM (h5.go h7) (RS_M h7 hM5) k1 k2 hS
theorem g_least (hS : St P σ x) (h : RL x σ) (a1 a2 a3 a4 a5 : Int32) : Q64 x σ (f_L_least P x a1 a2 a3 a4 a5 (x + 1575) σ) (fun τ => f_X12_least P (x + 1497) a1 a2 a3 a4 a5 τ) [7] (RL x) := by
  obtain ⟨l, l', K, mk, pl, B, hT, hB, hc, hr⟩ := h
  have hx := LyH_o hS.1
  have hb := hS.2.1
  obtain ⟨N, hN0⟩ : ∃ N, N = 1024 := ⟨_, rfl⟩
  refine asm64 (S := LeS (F_le N K pl) (kN K) pl a1 a2 a3 a4 a5) (cd := id) hS hT hB hc hr (fun τ v e ho => hr_least hx e ho (by omega)) (fun τ k pl' k0 k4 hSS e => ?_) (c_least hN0 (Cx_of hS hT hc) a1 a2 a3 a4 a5) (fun k val pl' τ1 hSS hr1 hM1 => r_least hN0 (by have := hS.2.2.1; omega) hT (by omega) hSS hr1 hM1) cd_id
  have hk : k = 1 ∨ k = 2 := by
    obtain ⟨-, ⟨rfl, -⟩ | ⟨-, ⟨rfl, -⟩ | ⟨w, i, p, q, sd, -, -, -, -, -, -, -, -, -, ⟨rfl, -⟩ | ⟨rfl, -⟩⟩⟩⟩ := hSS <;> omega
  rcases hk with rfl | rfl
  · exact ht_least1 hx e
  · exact ht_least2 hx e
/-- what speed answers: V w i p the speed -/
def VeS (V : Nat → Nat → Nat → V2) (wy : Nat → Nat) (n : Nat) (pl : Nat → Nat) (a1 a2 a3 a4 a5 : Int32) (k : Nat) (val : Int) (pl' : Nat → Nat) : Prop := pl' = pl ∧
  ((k = 1 ∧ ¬ (rg a1 255 ∧ rg a2 3 ∧ rg a4 1 ∧ rg a5 1)) ∨ ((rg a1 255 ∧ rg a2 3 ∧ rg a4 1 ∧ rg a5 1) ∧ ((k = 2 ∧ ¬ wi a3 n) ∨ ∃ w i p ax sd, w < 256 ∧ i < 4 ∧ p < n ∧ a1 = q_n w ∧ a2 = q_n i ∧ a3 = q_n p ∧ a4 = bI ax ∧ a5 = bI sd ∧
    ((k = 3 ∧ wy w ≠ 1) ∨ (k = 2 ∧ wy w = 1 ∧ v_open (V w i p) = true) ∨ (k = 0 ∧ wy w = 1 ∧ v_open (V w i p) = false ∧ val = b_sd sd (v_ax ax (V w i p)))))))
def V_sp (K : LK) (pl : Nat → Nat) (w i p : Nat) : V2 := t_V K pl i (fun p => (s_S K pl w p).2) p
theorem c_speed (h : Cx P x l K mk pl σ) (a1 a2 a3 a4 a5 : Int32) : Wp (f_X11_speed P x a1 a2 a3 a4 a5 σ) (CO Int64.toInt (VeS (V_sp K pl) (g_wy K pl) (kN K) pl a1 a2 a3 a4 a5) (lP σ l K mk pl)) := by
  obtain ⟨hx, hLl, hb, hN, hrm, h6, hT, M, hcs⟩ := id h
  obtain ⟨p1, -, -, p4, p5⟩ := cx_p h hcs
  have hn := hT.1
  have bad : ¬ (rg a1 255 ∧ rg a2 3 ∧ rg a4 1 ∧ rg a5 1) → CO (R := Int64) Int64.toInt (VeS (V_sp K pl) (g_wy K pl) (kN K) pl a1 a2 a3 a4 a5) (lP σ l K mk pl) (.inl (exn 1, th σ)) := fun hb => co_t (by omega) (by omega) ⟨rfl, Or.inl ⟨rfl, hb⟩⟩ ⟨M, hcs⟩
  unfold f_X11_speed
  refine w_rg hrm (fun h1 => ?_) (fun h1 => bad (fun z => h1 z.1))
  refine w_rg hrm (fun h2 => ?_) (fun h2 => bad (fun z => h2 z.2.1))
  refine w_rg hrm (fun h4 => ?_) (fun h4 => bad (fun z => h4 z.2.2.1))
  refine w_rg hrm (fun h5 => ?_) (fun h5 => bad (fun z => h5 z.2.2.2))
  have hok : rg a1 255 ∧ rg a2 3 ∧ rg a4 1 ∧ rg a5 1 := ⟨h1, h2, h4, h5⟩
  rw [bd p1, bd (al_gI hLl), p4]
  refine w_wi (by omega) (fun h3 => ?_) (fun h3 => w_np0 hrm (co_t (by omega) (by omega) ⟨rfl, Or.inr ⟨hok, Or.inl ⟨rfl, h3⟩⟩⟩ ⟨M, hcs⟩))
  obtain ⟨w, hw, rfl⟩ := rg_n (u := 255) h1
  obtain ⟨i, hi, rfl⟩ := rg_n (u := 3) h2
  obtain ⟨p, hpp, rfl⟩ := wi_n h3
  obtain ⟨ax, rfl⟩ := rg_b h4
  obtain ⟨sd, rfl⟩ := rg_b h5
  have hp4 : p < 40 := by omega
  refine w_np1 ?_
  rw [bd p5]
  refine w_sure h hcs (show w < 256 by omega) (fun τ E j1 hE hwy => ?_) (fun τ j1 hwy => co_t (by omega) (by omega) ⟨rfl, Or.inr ⟨hok, Or.inr ⟨w, i, p, ax, sd, by omega, by omega, hpp, rfl, rfl, rfl, rfl, rfl, Or.inl ⟨rfl, hwy⟩⟩⟩⟩ ⟨M, j1⟩)
  obtain ⟨q1, q2, q3, q4, q5⟩ := cx_p h j1
  rw [bd q1, bd (al_is q3)]
  refine Wp_b (Wp_mo (cs_speeds (by omega) hLl hb hT j1 hE (show i < 4 by omega)) ?_)
  rintro τ2 ⟨M', E', j2, hE', hV⟩
  obtain ⟨r1, r2, r3, r4, r5⟩ := cx_p h j2
  obtain ⟨ya, -, -, -, -, -, pv⟩ := jx_of r3 hp4
  rw [bd r1, bd (al_r0 r3), bd (al_j r3 hp4), bd ((q_gR (LyJ_o ya)).trans (LyJ_r14 ya))]
  obtain ⟨wy', hz'⟩ := hE'.1
  have hvp : (E' (l + 2 + 16 * p + 13 + 1), E' (l + 2 + 16 * p + 13 + 2)) = V_sp K pl w i p := hV p hpp
  refine Wp_bx2 (Wp_mo (c_cn (LL_G hz'.2.1) pv r2) ?_)
  rw [hvp]
  rintro r (⟨ho, rfl⟩ | ⟨ho, v, rfl, hv⟩)
  · exact co_t (by omega) (by omega) ⟨rfl, Or.inr ⟨hok, Or.inr ⟨w, i, p, ax, sd, by omega, by omega, hpp, rfl, rfl, rfl, rfl, rfl, Or.inr (Or.inl ⟨rfl, hwy, ho⟩)⟩⟩⟩ ⟨M', j2⟩
  · exact ⟨_, rfl, co_r ⟨rfl, Or.inr ⟨hok, Or.inr ⟨w, i, p, ax, sd, by omega, by omega, hpp, rfl, rfl, rfl, rfl, rfl, Or.inr (Or.inr ⟨rfl, hwy, ho, hv⟩)⟩⟩⟩ ⟨M', j2⟩⟩
theorem r_isos (hM : LyM σ m) (h : HZ m E σ) (hp : p < 40) : f_X12_isSpeedOpen P m (q_n p) σ = some (bI (v_open (eW E p)), σ) := by
  have y1 : mr_Z 1 σ = some (1, σ) := if_pos (Or.inr rfl)
  have y0 : mr_Z 0 σ = some (0, σ) := if_pos (Or.inl rfl)
  unfold f_X12_isSpeedOpen f_X12_isSpeedOpen_D30 f_X12_isSpeedOpen_D35
  rw [li_80, q_m2, q_nA, q_nS, bd (am_r13 hM), bd (am_g13 hM (by omega)), bd (am_r13 hM), bd (am_g13 hM (by omega))]
  unfold v_open eW
  rcases RR_o (h (80 + 2 * p) (by omega)).1 with ⟨e0, e1, -, -, -⟩ | ⟨e0, e1⟩
  · rw [if_pos e0, e1]
    rcases RR_o (h (80 + 2 * p + 1) (by omega)).1 with ⟨e2, e3, -, -, -⟩ | ⟨e2, e3⟩
    · rw [if_pos e2, e3]; exact y0
    · rw [if_neg (by rw [e2]; decide), e3]; exact y1
  · rw [if_neg (by rw [e0]; decide), e1]; exact y1
/-- worked, sure, and the speeds -/
theorem r_sv {k : mx_S → Option β} {Q : β → Prop} (hf : 100 ≤ mpN P) (hT : kT K) (hp : mpb P ≤ m) (hM : LyM σ0 m) (h0 : RSq m K σ0 pl τ) (hz : HZ m E τ) (h1 : mxI τ m 54 = bI fn) (h2 : mxI τ m 55 = bI fd) (hi : i < 4) (hw1 : g_wy K pl w = 1) (hall : ∀ p, p < kN K → v_N (eR E p) = (s_S K pl w p).2)
    (hk : ∀ τ' E', RSq m K σ0 pl τ' → H τ m E' fn fd τ' → HZ m E' τ' → (∀ p, p < kN K → eR E' p = (s_S K pl w p).2 ∧ v_N (eW E' p) = V_sp K pl w i p) → Wp (k τ') Q) : Wp ((mx_is τ m 12).bind fun _ => (f_X12_speeds P m (q_n i) τ).bind k) Q := by
  have hn := hT.1
  have hM4 := RSq_M h0 hM
  have hso : ∀ p, p < kN K → eR E p = (s_S K pl w p).2 := fun p hpp => by
    have e2 := hall p hpp
    have hso := (wy1 hT hw1 hpp).2
    rw [v_N_id (by rw [← v_N_open, e2]; exact hso)] at e2
    exact e2
  rw [bd (am_is hM4)]
  refine Wp_b (Wp_mo (r_speeds hf (H_self hz h1 h2) hM4 hp h0.1.1 hT hi hso) ?_)
  rintro τ' ⟨E', g, hv, hE⟩
  refine hk τ' E' (h0.go (RS_H hT h0.1 g)) g g.2.2.2.2.2.1 fun p hpp => ⟨?_, hv p hpp⟩
  rw [← hso p hpp]; unfold eR; rw [hE _ (by omega), hE _ (by omega)]
theorem r_speed {a1 a2 a3 a4 a5 : Int32} {k : Nat} {val : Int} (hf : 100 ≤ mpN P) (hT : kT K) (hp : mpb P ≤ m) (hS : VeS (V_sp K pl) (g_wy K pl) (kN K) pl a1 a2 a3 a4 a5 k val pl') (h : RLr m K pl B τ) (hM : LyM τ m) : Wp (f_X12_speed P m a1 a2 a3 a4 a5 τ) (RO Int64.toInt id m K τ k val pl') := by
  have h0 := RSq_of h
  have hn := hT.1
  obtain ⟨rfl, hS⟩ := hS
  have thr : ∀ (c : Nat) (w1 : Int32), 0 < c → c < 4 → w1 = q_n c → Wp (f_X12_speed_D49 P m a1 a2 a3 a4 a5 w1 m τ) (RO Int64.toInt id m K τ c val pl') := by
    rintro c w1 c0 c4 rfl
    unfold f_X12_speed_D49
    refine u_th hM hp ?_
    rw [if_neg (pos_th c0 c4)]
    exact ⟨_, rfl, RO_t hT h0 c0⟩
  unfold f_X12_speed f_X12_speed_D32
  rw [bd (am_is hM)]
  rcases hS with ⟨rfl, hbad⟩ | ⟨⟨o1, o2, o4, o5⟩, hS⟩
  · have t1 := thr 1 1 (by omega) (by omega) rfl
    exact b_isw (fun h1 => b_in (fun h4 => b_in (fun h5 => absurd ⟨h1.1, h1.2, h4, h5⟩ hbad) fun _ => t1) fun _ => t1) fun _ => t1
  · refine b_isw (fun h1 => b_in (fun h4 => b_in (fun h5 => ?_) fun z => absurd o5 z) fun z => absurd o4 z) fun z => absurd ⟨o1, o2⟩ z
    rw [bd (am_is hM)]
    rcases hS with ⟨rfl, h2⟩ | ⟨w, i, p, ax, sd, hw, hi, hpp, rfl, rfl, rfl, rfl, rfl, hS⟩
    · exact b_isp hM hn h.1.1 (fun z => absurd z h2) fun _ => thr 2 _ (by omega) (by omega) rfl
    · refine b_isp hM hn h.1.1 (fun _ => ?_) (fun z => absurd (wi_q hpp hn) z)
      unfold f_X12_speed_D49 f_X12_speed_D96 f_X12_speed_D125
      refine u_th hM hp ?_
      have h5 := RSq.th (v := 0) hT h0
      have hM5 := RSq_M h5 hM
      rw [if_pos (by decide), bd (am_is hM5)]
      refine Wp_b2 (Wp_mo (rs_work3 hf hM5 hp hT h5.1 hw) ?_)
      rintro ⟨r, τ4⟩ ⟨⟨⟨j1, j2, j3⟩, -⟩, fn, fd, j6, j7⟩
      dsimp only at j1 j2 j3 j6 j7 ⊢
      subst j1
      have h6 := h5.go j2
      have hM6 := RSq_M h6 hM
      have hwy3 : g_wy K pl' w ≤ 2 := by unfold g_wy; split <;> (try split) <;> omega
      by_cases hw1 : g_wy K pl' w = 1
      · rw [if_pos (by rw [hw1]; rfl)]
        replace hS := hS.resolve_left (fun z => z.2 hw1)
        obtain ⟨E4, hz4, hall⟩ := j3 (by omega)
        refine r_sv hf hT hp hM h6 hz4 j6 j7 hi hw1 hall fun τ7 E7 h7 _ hz7 hv7 => ?_
        have hM7 := RSq_M h7 hM
        obtain ⟨-, e2⟩ := hv7 p hpp
        rw [bd (am_is hM7), bd2 (r_isos hM7 hz7 (by omega))]
        rcases hS with ⟨rfl, -, ho⟩ | ⟨rfl, -, ho, rfl⟩
        · rw [if_neg (by rw [← v_N_open, e2, ho]; decide)]
          refine u_th hM7 hp ?_
          rw [if_neg (by decide)]
          exact ⟨_, rfl, RO_c (c := 2) hT h7 (by omega) rfl⟩
        · rw [if_pos (by rw [← v_N_open, e2, ho]; rfl)]
          refine u_th hM7 hp ?_
          rw [v_N_id (by rw [← v_N_open, e2]; exact ho)] at e2
          rw [if_pos (by decide)]
          have h8 := RSq.th (v := 0) hT h7
          have hM8 := RSq_M h8 hM
          have hz8 : HZ m E7 (mx_setI τ7 m 0 0) := fun d hd => by rw [rr_sI (by omega)]; exact hz7 d hd
          have hidx : (80 : Int32) + (2 : Int32) * q_n p + bI ax = q_n (80 + 2 * p + (if ax then 1 else 0)) := by
            rw [li_80, q_m2, q_nA]; cases ax
            · exact Int32.add_zero _
            · exact q_nS _
          have hval : E7 (80 + 2 * p + (if ax then 1 else 0)) = v_ax ax (V_sp K pl' w i p) := by
            rw [← e2]; unfold eW v_ax; cases ax <;> rfl
          obtain ⟨y, ey, hy⟩ := r_side (P := P) (sd := sd) (d := 80 + 2 * p + (if ax then 1 else 0)) hM8 hz8 (by split <;> omega) (by rw [hval]; exact v_ax_ne ho)
          rw [bd (am_is hM8), hidx, bd2 ey]
          exact ⟨_, rfl, if_pos ⟨rfl, rfl⟩, fun _ => by rw [hy, hval], h8⟩
      · rw [if_neg (fun z => hw1 (by rw [show (1 : Int32) = q_n 1 from rfl, q_nI (by omega) (by omega)] at z; exact z)), am_pI hM6 hp]
        rcases hS with ⟨rfl, -⟩ | ⟨-, z, -⟩ | ⟨-, z, -⟩
        · exact ⟨_, rfl, RO_c (c := 3) hT h6 (by omega) rfl⟩
        · exact absurd z hw1
        · exact absurd z hw1
theorem g_speed (hS : St P σ x) (h : RL x σ) (a1 a2 a3 a4 a5 : Int32) : Q64 x σ (f_L_speed P x a1 a2 a3 a4 a5 (x + 1575) σ) (fun τ => f_X12_speed P (x + 1497) a1 a2 a3 a4 a5 τ) [7] (RL x) := by
  obtain ⟨l, l', K, mk, pl, B, hT, hB, hc, hr⟩ := h
  have hx := LyH_o hS.1
  have hb := hS.2.1
  refine asm64 (S := VeS (V_sp K pl) (g_wy K pl) (kN K) pl a1 a2 a3 a4 a5) (cd := id) hS hT hB hc hr (fun τ v e ho => hr_speed hx e ho (by omega)) (fun τ k pl' k0 k4 hSS e => ?_) (c_speed (Cx_of hS hT hc) a1 a2 a3 a4 a5) (fun k val pl' τ1 hSS hr1 hM1 => r_speed (by have := hS.2.2.1; omega) hT (by omega) hSS hr1 hM1) cd_id
  have hk : k = 1 ∨ k = 2 ∨ k = 3 := by omega
  rcases hk with rfl | rfl | rfl
  · exact ht_speed1 hx e
  · exact ht_speed2 hx e
  · exact ht_speed3 hx e
end HAS
