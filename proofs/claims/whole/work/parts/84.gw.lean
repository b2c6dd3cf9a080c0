/-! ===== gw: at ===== -/
section GWS
variable {M : BV} {P : mx_P} {σ σ0 σ1 τ : mx_S} {x l l' m : Nat} {E : Nat → BV} {K : LK} {pl pl0 pl' mk : Nat → Nat} {wy w p i : Nat} {B : LB} {β R : Type} {fn fd : Bool}
def Cx (P : mx_P) (x l : Nat) (K : LK) (mk pl : Nat → Nat) (σ : mx_S) : Prop := mxA σ x = some (.inl 11) ∧ LyL (mxA σ) (mxR σ) l ∧ mpb P ≤ l ∧ 100000 ≤ mpN P ∧ Rm P σ 1 6 ∧ mxR σ x 6 = some l ∧ kT K ∧ ∃ M, CS M l K mk σ pl pl σ
theorem Cx_of (hS : St P σ x) (hT : kT K) (hc : RLc x l l' K mk pl B σ) : Cx P x l K mk pl σ := by
  obtain ⟨hL, hb, hN, hrm⟩ := hS
  have hl := hc.1.2.2
  have hLl : LyL (mxA σ) (mxR σ) l := by rcases hl with ⟨rfl, -⟩ | ⟨rfl, -⟩; exact LyH_l1 hL; exact LyH_l2 hL
  obtain ⟨M, E, wy, hz⟩ := hc.2.1
  exact ⟨LyH_o hL, hLl, by omega, hN, hrm, hc.1.1, hT, M, ⟨E, wy, hz⟩, CFr.rf, Or.inr ⟨rfl, rfl⟩⟩
theorem cx_p (h : Cx P x l K mk pl σ) (hc : CS M l K mk σ pl pl' τ) : mg_R τ x 11 6 = some l ∧ Rm P τ 1 6 ∧ LyL (mxA τ) (mxR τ) l ∧ mxI τ l 2 = q_n (kN K) ∧ mx_is τ x 11 = some () := by
  obtain ⟨h1, h2, h3, h4, h5, h6, h7, -⟩ := h
  have hx : mxA τ x = some (.inl 11) := by rw [hc.2.1.1]; exact h1
  obtain ⟨⟨E, wy, hz⟩, hf, -⟩ := id hc
  refine ⟨(q_gR hx).trans (by rw [hf.2.1]; exact h6), ?_, CS_L hc h2, hz.1.1, q_is hx⟩
  unfold Rm at *; rw [hf.2.2.1.1, hf.2.2.1.2]; exact h5
theorem Wp_bx {α : Type} {o : Option ((String × mx_S) ⊕ α)} {g : α → Option ((String × mx_S) ⊕ β)} {Q : (String × mx_S) ⊕ β → Prop} (h : Wp o (fun r => match r with | .inl e => Q (.inl e) | .inr a => Wp (g a) Q)) : Wp (mx_bx o g) Q := by
  obtain ⟨r, rfl, h⟩ := h
  rcases r with e | a
  · exact ⟨_, rfl, h⟩
  · exact h
theorem Wp_bx2 {α : Type} {o : Option ((String × mx_S) ⊕ (α × mx_S))} {g : α → mx_S → Option ((String × mx_S) ⊕ β)} {Q : (String × mx_S) ⊕ β → Prop} (h : Wp o (fun r => match r with | .inl e => Q (.inl e) | .inr (a, b) => Wp (g a b) Q)) : Wp (mx_bx2 o g) Q := by
  obtain ⟨r, rfl, h⟩ := h
  rcases r with e | ⟨a, b⟩
  · exact ⟨_, rfl, h⟩
  · exact h
theorem c_num {A : BV} {sd : Bool} {a : Nat} (hA : mxA σ a = some (.inl 0)) (hE : RB (rd σ a) A) (hne : A ≠ none) : ∃ v, f_X0_number P a (bI sd) σ = some (v, σ) ∧ v.toInt = b_sd sd A := by
  unfold f_X0_number f_X0_number_D15
  rcases RB_o hE with ⟨-, e, -, -, -⟩ | ⟨-, e⟩
  · cases sd
    · rw [if_pos (by rfl), bd (q_gL hA)]; exact ⟨_, rfl, by rw [e]; rfl⟩
    · rw [if_neg (by decide), bd (q_gL hA)]; exact ⟨_, rfl, by rw [e]; rfl⟩
  · exact absurd e hne
theorem c_cn {ax sd : Bool} {a : Nat} (g : G σ0 l E σ) (hx : px σ0 l a) (hr : Rm P σ 1 6) : Wp (f_X11_closedNumber P a (bI ax) (bI sd) σ) (fun r => (v_open (E (a + 1), E (a + 2)) = true ∧ r = .inl (exn 2, th σ)) ∨ (v_open (E (a + 1), E (a + 2)) = false ∧ ∃ v, r = .inr (v, σ) ∧ v.toInt = b_sd sd (v_ax ax (E (a + 1), E (a + 2))))) := by
  unfold f_X11_closedNumber f_X11_closedNumber_D12 f_X11_closedNumber_D30
  refine w_pis g hx ?_
  refine w_iso g hx ?_
  cases ho : v_open (E (a + 1), E (a + 2)) with
  | true =>
    rw [if_neg (by decide)]
    exact w_np0 hr (Or.inl ⟨rfl, rfl⟩)
  | false =>
    rw [if_pos (by rfl)]
    refine w_np1 ?_
    have hP := G_P g hx
    have hne := v_ax_ne (ax := ax) ho
    cases ax
    · obtain ⟨v, ev, hv⟩ := c_num (P := P) (sd := sd) (LyP_x hP) (G_B g hx.2.1) hne
      rw [if_pos (by rfl), bd (pr_0 hP), bd (pr_ix hP), bd2 ev]
      exact ⟨_, rfl, Or.inr ⟨rfl, v, rfl, hv⟩⟩
    · obtain ⟨v, ev, hv⟩ := c_num (P := P) (sd := sd) (LyP_y hP) (G_B g hx.2.2) hne
      rw [if_neg (by decide), bd (pr_1 hP), bd (pr_iy hP), bd2 ev]
      exact ⟨_, rfl, Or.inr ⟨rfl, v, rfl, hv⟩⟩
/-- what at answers -/
def AtS (K : LK) (pl : Nat → Nat) (a1 a2 a3 a4 : Int32) (k : Nat) (val : Int) (pl' : Nat → Nat) : Prop := pl' = pl ∧
  ((k = 1 ∧ ¬ (rg a1 255 ∧ rg a3 1 ∧ rg a4 1)) ∨ ((rg a1 255 ∧ rg a3 1 ∧ rg a4 1) ∧ ((k = 2 ∧ ¬ wi a2 (kN K)) ∨ ∃ w p ax sd, w < 256 ∧ p < kN K ∧ a1 = q_n w ∧ a2 = q_n p ∧ a3 = bI ax ∧ a4 = bI sd ∧
    ((k = 2 ∧ (g_wy K pl w = 0 ∨ v_open (s_S K pl w p).2 = true)) ∨ (k = 0 ∧ g_wy K pl w ≠ 0 ∧ v_open (s_S K pl w p).2 = false ∧ val = b_sd sd (v_ax ax (s_S K pl w p).2))))))
theorem c_at (h : Cx P x l K mk pl σ) (a1 a2 a3 a4 : Int32) : Wp (f_X11_at P x a1 a2 a3 a4 σ) (CO Int64.toInt (AtS K pl a1 a2 a3 a4) (lP σ l K mk pl)) := by
  obtain ⟨hx, hLl, hb, hN, hrm, h6, hT, M, hcs⟩ := id h
  obtain ⟨p1, -, -, p4, p5⟩ := cx_p h hcs
  have hn := hT.1
  have bad : ∀ k, k = 1 → ¬ (rg a1 255 ∧ rg a3 1 ∧ rg a4 1) → CO (R := Int64) Int64.toInt (AtS K pl a1 a2 a3 a4) (lP σ l K mk pl) (.inl (exn k, th σ)) := by
    rintro k rfl hb
    exact ⟨σ, 1, pl, rfl, rfl, by omega, by omega, ⟨rfl, Or.inl ⟨rfl, hb⟩⟩, M, hcs⟩
  unfold f_X11_at f_X11_at_D53
  refine w_rg hrm (fun h1 => ?_) (fun h1 => bad 1 rfl (fun z => h1 z.1))
  refine w_rg hrm (fun h3 => ?_) (fun h3 => bad 1 rfl (fun z => h3 z.2.1))
  refine w_rg hrm (fun h4 => ?_) (fun h4 => bad 1 rfl (fun z => h4 z.2.2))
  have hok : rg a1 255 ∧ rg a3 1 ∧ rg a4 1 := ⟨h1, h3, h4⟩
  rw [bd p1, bd (al_gI hLl), p4]
  refine w_wi (by omega) (fun h2 => ?_) (fun h2 => w_np0 hrm ⟨σ, 2, pl, rfl, rfl, by omega, by omega, ⟨rfl, Or.inr ⟨hok, Or.inl ⟨rfl, h2⟩⟩⟩, M, hcs⟩)
  obtain ⟨w, hw, rfl⟩ := rg_n (u := 255) h1
  obtain ⟨p, hpp, rfl⟩ := wi_n h2
  obtain ⟨ax, rfl⟩ := rg_b h3
  obtain ⟨sd, rfl⟩ := rg_b h4
  refine w_np1 ?_
  rw [bd p1, bd (al_is hLl)]
  refine Wp_b2 (Wp_mo (cs_look false (by omega) hLl hb hT hcs (show w < 256 by omega)) ?_)
  rintro ⟨r, τ⟩ ⟨j1, j2, j3, j4, j5⟩
  dsimp only at j1 j2 j3 j4 j5 ⊢
  obtain ⟨q1, q2, q3, q4, q5⟩ := cx_p h j1
  have hp4 : p < 40 := by omega
  by_cases hr3 : r = 3
  · rw [if_pos hr3]
    refine w_np0 q2 ⟨τ, 2, pl, rfl, rfl, by omega, by omega, ⟨rfl, Or.inr ⟨hok, Or.inr ⟨w, p, ax, sd, by omega, hpp, rfl, rfl, rfl, rfl, Or.inl ⟨rfl, Or.inl ((j4 rfl).mp hr3)⟩⟩⟩⟩, M, j1⟩
  · rw [if_neg hr3]
    have hwy : g_wy K pl w ≠ 0 := fun z => hr3 ((j4 rfl).mpr z)
    obtain ⟨E', wy', hz', hall⟩ := j5 (Or.inr ⟨rfl, hr3⟩)
    obtain ⟨-, e2, -, -⟩ := hall p hpp
    obtain ⟨ya, -, -, -, pa, -, -⟩ := jx_of q3 hp4
    refine w_np1 ?_
    rw [bd q1, bd (al_r0 q3), bd (al_j q3 hp4), bd ((q_gR (LyJ_o ya)).trans (LyJ_r12 ya))]
    refine Wp_bx2 (Wp_mo (c_cn (LL_G hz'.2.1) pa q2) ?_)
    rintro r (⟨ho, rfl⟩ | ⟨ho, v, rfl, hv⟩)
    · refine ⟨τ, 2, pl, rfl, rfl, by omega, by omega, ⟨rfl, Or.inr ⟨hok, Or.inr ⟨w, p, ax, sd, by omega, hpp, rfl, rfl, rfl, rfl, Or.inl ⟨rfl, Or.inr ?_⟩⟩⟩⟩, M, j1⟩
      rw [← e2, v_N_open]; exact ho
    · refine ⟨_, rfl, pl, ⟨rfl, Or.inr ⟨hok, Or.inr ⟨w, p, ax, sd, by omega, hpp, rfl, rfl, rfl, rfl, Or.inr ⟨rfl, hwy, ?_, ?_⟩⟩⟩⟩, M, j1⟩
      · rw [← e2, v_N_open]; exact ho
      · rw [hv, ← e2, v_N_id (show v_open (eA E' l p) = false from ho)]; rfl
end GWS
