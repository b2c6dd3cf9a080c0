/-! ===== gz: spread, least ===== -/
section GZS
variable {M : BV} {P : mx_P} {σ σ0 σ1 τ : mx_S} {x l l' m n : Nat} {E : Nat → BV} {K : LK} {pl pl0 pl' mk : Nat → Nat} {wy w p i : Nat} {B : LB} {β R : Type} {fn fd : Bool}
theorem c_mst {sd : Bool} {Q : (String × mx_S) ⊕ (Int64 × mx_S) → Prop} (h : Cx P x l K mk pl σ) (hcs : CS M l K mk σ pl pl' τ) (hbad : M = none → Q (.inl (exn 2, th τ))) (hok : ∀ v : Int64, M ≠ none → v.toInt = b_sd sd M → Q (.inr (v, τ))) :
    Wp ((mg_R τ x 11 6).bind fun b24 => (mg_R τ b24 7 19).bind fun b26 => (mg_I τ b26 0 2).bind fun x28 => (if x28 = 0 then mx_bx (f_X11_needPresence P 1 τ) (fun σ31 => (mg_R σ31 x 11 6).bind fun b33 => (mg_R σ31 b33 7 19).bind fun b35 => (mx_is σ31 b35 0).bind fun i37 => mx_b2 (f_X0_number P b35 (bI sd) σ31) fun x40 σ39 => some (.inr (x40, σ39))) else mx_bx (f_X11_needPresence P 0 τ) (fun σ31 => (mg_R σ31 x 11 6).bind fun b33 => (mg_R σ31 b33 7 19).bind fun b35 => (mx_is σ31 b35 0).bind fun i37 => mx_b2 (f_X0_number P b35 (bI sd) σ31) fun x40 σ39 => some (.inr (x40, σ39))))) Q := by
  obtain ⟨q1, q2, q3, q4, q5⟩ := cx_p h hcs
  obtain ⟨E, wy, hz⟩ := hcs.1
  have hA := LyL_a19 q3
  have hB := hz.2.1.2.2.2.2.2 (l + 675) ⟨by omega, by omega, hA⟩
  rw [hz.2.2.1.1.1] at hB
  have hr19 : mg_R τ l 7 19 = some (l + 675) := (q_gR (LyL_o q3)).trans (LyL_r19 q3)
  rw [bd q1, bd hr19, bd (q_gI hA)]
  rcases RB_o hB with ⟨e0, e1, -, -, -⟩ | ⟨e0, e1⟩
  · have hne : M ≠ none := by rw [e1]; simp
    rw [if_pos e0]
    refine w_np1 ?_
    obtain ⟨v, ev, hv⟩ := c_num (P := P) (sd := sd) hA hB hne
    rw [bd q1, bd hr19, bd (q_is hA), bd2 ev]
    exact ⟨_, rfl, hok v hne hv⟩
  · rw [if_neg e0]
    exact w_np0 q2 (hbad e1)
/-- what spread answers -/
def SpS (F : Nat → Nat → Nat → Bool → BV) (n : Nat) (pl : Nat → Nat) (a1 a2 a3 a4 a5 : Int32) (k : Nat) (val : Int) (pl' : Nat → Nat) : Prop := pl' = pl ∧
  ((k = 1 ∧ ¬ (rg a1 255 ∧ rg a2 3 ∧ rg a4 1 ∧ rg a5 1)) ∨ ((rg a1 255 ∧ rg a2 3 ∧ rg a4 1 ∧ rg a5 1) ∧ ((k = 2 ∧ ¬ wi a3 n) ∨ ∃ w i p ax sd, w < 256 ∧ i < 4 ∧ p < n ∧ a1 = q_n w ∧ a2 = q_n i ∧ a3 = q_n p ∧ a4 = bI ax ∧ a5 = bI sd ∧
    ((k = 2 ∧ F w i p ax = none) ∨ (k = 0 ∧ F w i p ax ≠ none ∧ val = b_sd sd (F w i p ax))))))
def F_sp (N : Nat) (K : LK) (pl : Nat → Nat) (w i p : Nat) (ax : Bool) : BV := g_fold b_hull (g_sr K pl w i) (fun k => v_ax ax (s_S K (upl pl i k) w p).2) N
theorem c_spread {N : Nat} (hN0 : N = 1024) (h : Cx P x l K mk pl σ) (a1 a2 a3 a4 a5 : Int32) : Wp (f_X11_spread P x a1 a2 a3 a4 a5 σ) (CO Int64.toInt (SpS (F_sp N K pl) (kN K) pl a1 a2 a3 a4 a5) (lP σ l K mk pl)) := by
  obtain ⟨hx, hLl, hb, hN, hrm, h6, hT, M, hcs⟩ := id h
  obtain ⟨p1, -, -, p4, p5⟩ := cx_p h hcs
  have hn := hT.1
  have bad : ¬ (rg a1 255 ∧ rg a2 3 ∧ rg a4 1 ∧ rg a5 1) → CO (R := Int64) Int64.toInt (SpS (F_sp N K pl) (kN K) pl a1 a2 a3 a4 a5) (lP σ l K mk pl) (.inl (exn 1, th σ)) := fun hb => co_t (by omega) (by omega) ⟨rfl, Or.inl ⟨rfl, hb⟩⟩ ⟨M, hcs⟩
  unfold f_X11_spread f_X11_spread_D72
  refine w_rg hrm (fun h1 => ?_) (fun h1 => bad (fun z => h1 z.1))
  refine w_rg hrm (fun h2 => ?_) (fun h2 => bad (fun z => h2 z.2.1))
  refine w_rg hrm (fun h4 => ?_) (fun h4 => bad (fun z => h4 z.2.2.1))
  refine w_rg hrm (fun h5 => ?_) (fun h5 => bad (fun z => h5 z.2.2.2))
  have hok : rg a1 255 ∧ rg a2 3 ∧ rg a4 1 ∧ rg a5 1 := ⟨h1, h2, h4, h5⟩
  rw [bd p1, bd (al_gI hLl), p4]
  refine w_wi (by omega) (fun h3 => ?_) (fun h3 => w_np0 hrm (co_t (by omega) (by omega) ⟨rfl, Or.inr ⟨hok, Or.inl ⟨rfl, h3⟩⟩⟩ ⟨M, hcs⟩))
  obtain ⟨w, hw, rfl⟩ := rg_n (u := 255) h1
  obtain ⟨i, hi, rfl⟩ := rg_n (u := 3) h2
  obtain ⟨p, hpp, rfl⟩ := wi_n h3
  obtain ⟨ax, rfl⟩ := rg_b h4
  obtain ⟨sd, rfl⟩ := rg_b h5
  refine w_np1 ?_
  rw [bd p1, bd (al_is hLl)]
  refine Wp_b (Wp_mo (c_sweep (by omega) hLl hb hT hcs (show i < 4 by omega) (show w < 256 by omega) hpp hN0) ?_)
  intro τ j1
  exact c_mst h j1 (fun hM => co_t (by omega) (by omega) ⟨rfl, Or.inr ⟨hok, Or.inr ⟨w, i, p, ax, sd, by omega, by omega, hpp, rfl, rfl, rfl, rfl, rfl, Or.inl ⟨rfl, hM⟩⟩⟩⟩ ⟨_, j1⟩) (fun v hM hv => co_r ⟨rfl, Or.inr ⟨hok, Or.inr ⟨w, i, p, ax, sd, by omega, by omega, hpp, rfl, rfl, rfl, rfl, rfl, Or.inr ⟨rfl, hM, hv⟩⟩⟩⟩ ⟨_, j1⟩)
theorem wi_q {p n : Nat} (h : p < n) (hn : n ≤ 40) : wi (q_n p) n := ⟨by rw [q_nT (by omega)]; omega, by rw [q_nT (by omega)]; omega⟩
/-- the last word after a sweep -/
theorem r_fin {F : BV} {sd : Bool} {k : Nat} {val : Int} {y : Int32} {v : Int64} (hT : kT K) (hp : mpb P ≤ m) (hM : LyM τ m) (hq : RSq m K σ0 pl σ1) (hM1 : LyM σ1 m) (hy : y = bI F.isSome) (hv : v.toInt = b_sd sd F) (hS : (k = 2 ∧ F = none) ∨ (k = 0 ∧ F ≠ none ∧ val = b_sd sd F)) :
    Wp (if y = 0 then (mp_I P σ1 m 12 0 2).bind fun σ52 => some (v, σ52) else (mp_I P σ1 m 12 0 0).bind fun σ52 => some (v, σ52)) (RO Int64.toInt id m K σ0 k val pl) := by
  subst hy
  rw [am_pI hM1 hp, am_pI hM1 hp]
  rcases hS with ⟨rfl, rfl⟩ | ⟨rfl, h1, rfl⟩
  · rw [if_pos (by rfl)]
    exact ⟨_, rfl, RO_c (c := 2) hT hq (by omega) rfl⟩
  · cases F with
    | none => exact absurd rfl h1
    | some z =>
      rw [if_neg (show ¬ bI (some z).isSome = 0 from (show ¬ bI true = 0 by decide))]
      exact ⟨_, rfl, if_pos ⟨rfl, rfl⟩, fun _ => hv, hq.th hT⟩
theorem r_spread {N : Nat} (hN0 : N = 1024) {a1 a2 a3 a4 a5 : Int32} {k : Nat} {val : Int} (hf : 2000 ≤ mpN P) (hT : kT K) (hp : mpb P ≤ m) (hS : SpS (F_sp N K pl) (kN K) pl a1 a2 a3 a4 a5 k val pl') (h : RLr m K pl B τ) (hM : LyM τ m) : Wp (f_X12_spread P m a1 a2 a3 a4 a5 τ) (RO Int64.toInt id m K τ k val pl') := by
  have h0 := RSq_of h
  have hn := hT.1
  obtain ⟨rfl, hS⟩ := hS
  have thr : ∀ (c : Nat) (w1 : Int32), 0 < c → c < 4 → w1 = q_n c → Wp (f_X12_spread_D49 P m a1 a2 a3 a4 a5 w1 m τ) (RO Int64.toInt id m K τ c val pl') := by
    rintro c w1 c0 c4 rfl
    unfold f_X12_spread_D49
    refine u_th hM hp ?_
    rw [if_neg (pos_th c0 c4)]
    exact ⟨_, rfl, RO_t hT h0 c0⟩
  unfold f_X12_spread f_X12_spread_D32
  rw [bd (am_is hM)]
  rcases hS with ⟨rfl, hbad⟩ | ⟨⟨o1, o2, o4, o5⟩, hS⟩
  · have t1 := thr 1 1 (by omega) (by omega) rfl
    exact b_isw (fun h1 => b_in (fun h4 => b_in (fun h5 => absurd ⟨h1.1, h1.2, h4, h5⟩ hbad) fun _ => t1) fun _ => t1) fun _ => t1
  · refine b_isw (fun h1 => b_in (fun h4 => b_in (fun h5 => ?_) fun z => absurd o5 z) fun z => absurd o4 z) fun z => absurd ⟨o1, o2⟩ z
    rw [bd (am_is hM)]
    rcases hS with ⟨rfl, h2⟩ | ⟨w, i, p, ax, sd, hw, hi, hpp, rfl, rfl, rfl, rfl, rfl, hS⟩
    · exact b_isp hM hn h.1.1 (fun z => absurd z h2) fun _ => thr 2 _ (by omega) (by omega) rfl
    · refine b_isp hM hn h.1.1 (fun _ => ?_) (fun z => absurd (wi_q hpp hn) z)
      unfold f_X12_spread_D49 f_X12_spread_D182
      refine u_th hM hp ?_
      have h5 := RSq.th (v := 0) hT h0
      have hM5 := RSq_M h5 hM
      obtain ⟨e18, hlt⟩ := h5.1.1.2.2.2.1 i hi
      rw [if_pos (by decide), bd (am_r34 hM5), bd (am_g34 hM5 hi), e18]
      refine Wp_b (Wp_mo (r_spr hf hM5 hp hT h5.1 hi hw hpp hN0 rfl) ?_)
      rintro ⟨y1, y2, τ6⟩ ⟨k1, k2, a, k3⟩
      dsimp only at k1 k2 k3 ⊢
      have hM6 := RS_M k3 hM5
      obtain ⟨τ7, e7, h7⟩ := rs_set (P := P) hM5 hp hT k3 hi hlt
      rw [upl_back] at h7
      rw [bd (am_r34 hM6), bd e7]
      exact r_fin hT hp hM (h5.go h7) (RS_M h7 hM5) k1 k2 hS
theorem g_spread (hS : St P σ x) (h : RL x σ) (a1 a2 a3 a4 a5 : Int32) : Q64 x σ (f_L_spread P x a1 a2 a3 a4 a5 (x + 1575) σ) (fun τ => f_X12_spread P (x + 1497) a1 a2 a3 a4 a5 τ) [7] (RL x) := by
  obtain ⟨l, l', K, mk, pl, B, hT, hB, hc, hr⟩ := h
  have hx := LyH_o hS.1
  have hb := hS.2.1
  obtain ⟨N, hN0⟩ : ∃ N, N = 1024 := ⟨_, rfl⟩
  refine asm64 (S := SpS (F_sp N K pl) (kN K) pl a1 a2 a3 a4 a5) (cd := id) hS hT hB hc hr (fun τ v e ho => hr_spread hx e ho (by omega)) (fun τ k pl' k0 k4 hSS e => ?_) (c_spread hN0 (Cx_of hS hT hc) a1 a2 a3 a4 a5) (fun k val pl' τ1 hSS hr1 hM1 => r_spread hN0 (by have := hS.2.2.1; omega) hT (by omega) hSS hr1 hM1) cd_id
  have hk : k = 1 ∨ k = 2 := by
    obtain ⟨-, ⟨rfl, -⟩ | ⟨-, ⟨rfl, -⟩ | ⟨w, i, p, ax, sd, -, -, -, -, -, -, -, -, ⟨rfl, -⟩ | ⟨rfl, -⟩⟩⟩⟩ := hSS <;> omega
  rcases hk with rfl | rfl
  · exact ht_spread1 hx e
  · exact ht_spread2 hx e
end GZS
