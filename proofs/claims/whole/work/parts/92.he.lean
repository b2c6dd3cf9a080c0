/-! ===== he: ways, way, input ===== -/
section HES
variable {M : BV} {P : mx_P} {σ σ0 σ1 τ : mx_S} {x l l' m n : Nat} {E : Nat → BV} {K : LK} {pl pl0 pl' mk : Nat → Nat} {wy w p i : Nat} {B B' : LB} {β R : Type} {fn fd : Bool}
theorem Lw_rg {q j : Nat} (h : Lw l q j) : l ≤ q ∧ q < l + 676 := by
  rcases h with ⟨h1, -⟩ | h1 | h1 <;> omega
theorem WFr_o (h : WFr l σ τ) {q : Nat} (hq : ¬ (l ≤ q ∧ q < l + 676)) (j : Nat) : mxI τ q j = mxI σ q j ∧ mxL τ q j = mxL σ q j := by
  have hb : ¬ bx σ l q := fun z => hq ⟨z.1, z.2.1⟩
  exact ⟨h.2.2.2.1 q j hb (fun z => hq (Lc_rg z)) (fun z => hq (Lw_rg z)), h.2.2.2.2 q j hb⟩
/-- a leg of the class -/
def LgC (x l l' : Nat) (K : LK) (mk : Nat → Nat) (pl : Nat → Nat) (B B' : LB) (σ : mx_S) (pl' : Nat → Nat) (τ : mx_S) : Prop := RLc x l l' K mk pl' B' τ ∧ RLr (x + 1497) K pl B τ ∧ Fr x [7] σ τ ∧ mxz τ = mxz σ
theorem LgC_of (hT : kT K) (hr : RLr (x + 1497) K pl B σ) (hc : RLc x l l' K mk pl' B' τ) (hA : mxA τ = mxA σ) (hR : mxR τ = mxR σ) (hz : mxz τ = mxz σ ∧ mxu τ = mxu σ) (ho : ∀ q, ¬ (l ≤ q ∧ q < l + 676) → ∀ j, mxI τ q j = mxI σ q j ∧ mxL τ q j = mxL σ q j) : LgC x l l' K mk pl B B' σ pl' τ := by
  have hl := hc.1.2.2
  refine ⟨hc, RLr_rg hT hr (fun q j c1 c2 => (ho q (fun z => by omega) j).1) (fun q j c1 c2 => (ho q (fun z => by omega) j).2) (ho _ (fun z => by omega) _).1 (ho _ (fun z => by omega) _).1, ⟨hA, hR, fun i q j hq hi => ?_, by omega, by omega, by omega, fun _ => hz.2⟩, hz.1⟩
  have := (cp_off hq (by simpa using hi)).1
  exact ho q (fun z => this (by omega)) j
theorem LgC_fr {σ1 : mx_S} (hT : kT K) (h : LgC x l l' K mk pl B B' σ pl' τ) (f : Fr x [] τ σ1) : RLc x l l' K mk pl' B' σ1 ∧ RLr (x + 1497) K pl B σ1 ∧ Fr x [7] σ σ1 :=
  ⟨RLc_rg hT h.1 f.1 f.2.1 (fun q j c1 c2 => (f.2.2.1 7 q j (Or.inl ⟨c1, c2⟩) (by simp)).1) (fun q j c1 c2 => (f.2.2.1 7 q j (Or.inl ⟨c1, c2⟩) (by simp)).2), RLr_fr hT h.2.1 f.2.2.1 (by simp), Fr.tr' h.2.2.1 (f.mo (by simp)) h.2.2.2⟩
theorem asmG {vi : R → Int} {f : mx_S → Option (R × mx_S)} {lo : Option (Int32 × mx_S)} {fX : Option ((String × mx_S) ⊕ (R × mx_S))} {S : Nat → Int → (Nat → Nat) → Prop} {cd : Nat → Nat} {g : R → Int64} (hS : St P σ x) (hT : kT K) (hB : LBok (kN K) B)
    (hg : ∀ v w, vi v = vi w → g v = g w)
    (h0 : ∀ τ v, fX = some (.inr (v, τ)) → mxA τ (x + 1575) = some (.inr (1, 1)) → lo = some (0, mx_setL τ (x + 1575) 0 (g v)))
    (ht : ∀ τ k pl', 0 < k → k < 4 → S k 0 pl' → fX = some (.inl (exn k, τ)) → lo = some (q_n (cd k), τ))
    (hcl : Wp fX (CO vi S (LgC x l l' K mk pl B B σ)))
    (hrf : ∀ k val pl' τ1, S k val pl' → RLr (x + 1497) K pl B τ1 → LyM τ1 (x + 1497) → Wp (f τ1) (RO vi cd (x + 1497) K τ1 k val pl'))
    (hcd : cd 0 = 0 ∧ ∀ k, 0 < k → k < 4 → q_n (cd k) ≠ 0) :
    ∃ k v τ1 τ2, lo = some (k, τ1) ∧ f τ1 = some (v, τ2) ∧ mxI τ2 (x + 1497) 0 = k ∧ (k = 0 → mxL τ2 (x + 1575) 0 = g v) ∧ mxA τ1 = mxA σ ∧ Fr x [7] σ τ2 ∧ RL x τ2 := by
  obtain ⟨hL, hb, hN, hrm⟩ := hS
  obtain ⟨r, er, hr0⟩ := hcl
  rcases r with ⟨s, τ⟩ | ⟨v, τ⟩
  · obtain ⟨τ', k, pl', rfl, rfl, hk, hk4, hSS, hC⟩ := hr0
    obtain ⟨c1, c2, c3⟩ := LgC_fr hT hC (Fr.th Fr.rf rfl)
    have hM : LyM (th τ') (x + 1497) := by unfold LyM; rw [c3.1, c3.2.1]; exact LyH_m hL
    obtain ⟨⟨v, τ2⟩, e2, h1, h2, h3⟩ := hrf k 0 pl' _ hSS c2 hM
    obtain ⟨d1, d2, d3⟩ := leg2 hT c1 c2 h3
    exact ⟨_, v, _, τ2, ht _ k pl' hk hk4 hSS er, e2, h1, fun z => absurd z (hcd.2 k hk hk4), c3.1, c3.tr d3 h3.2.2.2.1.1, l, l', K, mk, pl', B, hT, hB, d1, d2⟩
  · obtain ⟨pl', hSS, hC⟩ := hr0
    obtain ⟨c1, c2, c3⟩ := LgC_fr hT hC (Fr.rf.sL (Or.inr cp_o) (g v))
    have hM : LyM (mx_setL τ (x + 1575) 0 (g v)) (x + 1497) := by unfold LyM; rw [c3.1, c3.2.1]; exact LyH_m hL
    obtain ⟨⟨w, τ2⟩, e2, h1, h2, h3⟩ := hrf 0 (vi v) pl' _ hSS c2 hM
    obtain ⟨d1, d2, d3⟩ := leg2 hT c1 c2 h3
    refine ⟨_, w, _, τ2, h0 _ v er (by rw [hC.2.2.1.1]; exact LyH_u hL), e2, ?_, fun _ => ?_, c3.1, c3.tr d3 h3.2.2.2.1.1, l, l', K, mk, pl', B, hT, hB, d1, d2⟩
    · rw [h1, hcd.1]; rfl
    · rw [h3.2.2.2.2.2 _ _ (by omega) (by omega), q_LL, if_pos ⟨rfl, rfl⟩]
      exact hg _ _ (h2 rfl).symm
theorem St_L (hS : St P σ x) (hc : RLc x l l' K mk pl B σ) : LyL (mxA σ) (mxR σ) l ∧ mpb P ≤ l ∧ mg_R σ x 11 6 = some l := by
  have hl := hc.1.2.2
  have hb := hS.2.1
  exact ⟨by rcases hl with ⟨rfl, -⟩ | ⟨rfl, -⟩; exact LyH_l1 hS.1; exact LyH_l2 hS.1, by omega, (q_gR (LyH_o hS.1)).trans hc.1.1⟩
/-- the list of ways, in its frame -/
theorem c_listL (hS : St P σ x) (hT : kT K) (hc : RLc x l l' K mk pl B σ) (hr : RLr (x + 1497) K pl B σ) {N : Nat} (hN : N = 2 ^ kB K) : Wp (f_X7_listWays P l σ) (fun τ => LgC x l l' K mk pl B B σ pl τ ∧ FW τ l (g_wl K pl N) ∧ mxA τ = mxA σ ∧ mxR τ = mxR σ ∧ (mxz τ = mxz σ ∧ mxu τ = mxu σ)) := by
  obtain ⟨hLl, hbl, -⟩ := St_L hS hc
  have hn := hT.1
  obtain ⟨⟨a1, a2, a3⟩, ⟨M, E, wy, hz⟩, a4, a5, a6⟩ := id hc
  refine Wp_mo (c_list hN (by have := hS.2.2.1; omega) hLl hbl hT hz (by rw [hN]; exact a4)) ?_
  rintro τ ⟨⟨E', wy', hz'⟩, h10, hFW, hW⟩
  refine ⟨LgC_of hT hr ⟨⟨by rw [hW.2.1]; exact a1, by rw [hW.2.1]; exact a2, a3⟩, ⟨M, E', wy', hz'⟩, Or.inr ⟨h10, by rw [← hN]; exact hFW⟩, cB_rg hn a5 (fun p hp => ?_), SpL_rg a6 hW.1 (fun q j c1 c2 => (WFr_o hW (fun z => by omega) j).1) (fun q j c1 c2 => (WFr_o hW (fun z => by omega) j).2)⟩ hW.1 hW.2.1 hW.2.2.1 (fun q hq j => WFr_o hW hq j), hFW, hW.1, hW.2.1, hW.2.2.1⟩
  have hj : ∀ j, 17 ≤ j → mxI τ (l + 2 + 16 * p) j = mxI σ (l + 2 + 16 * p) j := fun j hj => hW.2.2.2.1 _ _ (nb_j hLl hp) (fun z => by rcases z with ⟨p, z1, z2, z3⟩ | ⟨z1, z2⟩ <;> omega) (fun z => by rcases z with ⟨z1, z2⟩ | z1 | z1 <;> omega)
  exact ⟨hj _ (by omega), hj _ (by omega), hj _ (by omega), hW.2.2.2.2 _ _ (nb_j hLl hp)⟩
theorem g_ways (hS : St P σ x) (h : RL x σ) : Qc x σ (f_X11_ways P x σ) (fun τ => f_X12_ways P (x + 1497) τ) [7] (RL x) := by
  obtain ⟨l, l', K, mk, pl, B, hT, hB, hc, hr⟩ := h
  obtain ⟨hLl, hbl, hp6⟩ := St_L hS hc
  have hb := hS.2.1
  have hN0 := hS.2.2.1
  obtain ⟨N, hN⟩ : ∃ N, N = 2 ^ kB K := ⟨_, rfl⟩
  obtain ⟨τ, e1, hC, hFW, hA, hR, hzu⟩ := c_listL (P := P) hS hT hc hr hN
  have hM : LyM τ (x + 1497) := by unfold LyM; rw [hA, hR]; exact LyH_m hS.1
  have hLt : LyL (mxA τ) (mxR τ) l := by rw [hA, hR]; exact hLl
  have hp6' : mg_R τ x 11 6 = some l := (q_gR (by rw [hA]; exact LyH_o hS.1)).trans hC.1.1.1
  have h0 := RSq_of hC.2.1
  have h5 := RSq.th (v := 0) hT h0
  have hM5 := RSq_M h5 hM
  obtain ⟨⟨y, τ2⟩, e2, k1, k2⟩ := r_ways (P := P) hN (by omega) hM5 (show mpb P ≤ x + 1497 by omega) hT h5.1
  dsimp only at k1 k2
  obtain ⟨d1, d2, d3⟩ := leg2 hT hC.1 hC.2.1 (h5.go k2)
  refine ⟨q_n (g_wl K pl N).length, τ, τ2, ?_, ?_, hA, hC.2.2.1.tr d3 (h5.go k2).2.2.2.1.1, l, l', K, mk, pl, B, hT, hB, d1, d2⟩
  · unfold f_X11_ways
    rw [bd hp6, bd (al_is hLl), bd e1, bd hp6', bd (al_gI hLt), hFW.1]
  · show f_X12_ways P (x + 1497) τ = _
    unfold f_X12_ways
    rw [bd (am_pI hM (by omega) _), bd e2, ← k1]
/-- what way answers -/
def WaS (ws : List (Nat × Bool)) (pl : Nat → Nat) (a1 a2 : Int32) (k : Nat) (val : Int) (pl' : Nat → Nat) : Prop := pl' = pl ∧
  ((k = 1 ∧ ¬ rg a2 1) ∨ (rg a2 1 ∧ ((k = 2 ∧ ¬ wi a1 ws.length) ∨ ∃ j e b, a1 = q_n j ∧ ws[j]? = some e ∧ a2 = bI b ∧ k = 0 ∧ val = (if b then bI e.2 else q_n e.1).toInt)))
theorem c_way (hS : St P σ x) (hT : kT K) (hc : RLc x l l' K mk pl B σ) (hr : RLr (x + 1497) K pl B σ) {N : Nat} (hN : N = 2 ^ kB K) (a1 a2 : Int32) : Wp (f_X11_way P x a1 a2 σ) (CO Int32.toInt (WaS (g_wl K pl N) pl a1 a2) (LgC x l l' K mk pl B B σ)) := by
  obtain ⟨hLl, hbl, hp6⟩ := St_L hS hc
  have hrm := hS.2.2.2
  have hN2 : N ≤ 256 := by rw [hN]; exact p256 hT.2.1
  have hlen : (g_wl K pl N).length ≤ N := wl_len N
  unfold f_X11_way f_X11_way_D52
  refine w_rg hrm (fun h2 => ?_) (fun h2 => co_t (by omega) (by omega) ⟨rfl, Or.inl ⟨rfl, h2⟩⟩ (LgC_of hT hr hc rfl rfl ⟨rfl, rfl⟩ fun _ _ _ => ⟨rfl, rfl⟩))
  rw [bd hp6, bd (al_is hLl)]
  refine Wp_b (Wp_mo (c_listL hS hT hc hr hN) ?_)
  rintro τ ⟨hC, hFW, hA, hR, hzu⟩
  have hLt : LyL (mxA τ) (mxR τ) l := by rw [hA, hR]; exact hLl
  have hp6' : mg_R τ x 11 6 = some l := (q_gR (by rw [hA]; exact LyH_o hS.1)).trans hC.1.1.1
  have hrm' : Rm P τ 1 6 := by unfold Rm; rw [hzu.1, hzu.2]; exact hrm
  rw [bd hp6', bd (al_gI hLt), hFW.1]
  refine w_wi (by omega) (fun h1 => ?_) (fun h1 => w_np0 hrm' (co_t (by omega) (by omega) ⟨rfl, Or.inr ⟨h2, Or.inl ⟨rfl, h1⟩⟩⟩ hC))
  obtain ⟨j, hj, rfl⟩ := wi_n h1
  obtain ⟨b, rfl⟩ := rg_b h2
  obtain ⟨e, he⟩ : ∃ e, (g_wl K pl N)[j]? = some e := ⟨_, List.getElem?_eq_getElem hj⟩
  obtain ⟨f1, f2⟩ := hFW.2 j e he
  refine w_np1 ?_
  cases b
  · rw [if_pos (by rfl), bd hp6', bd (al_r7 hLt), bd (al_g7 hLt (by omega)), f1]
    exact ⟨_, rfl, co_r ⟨rfl, Or.inr ⟨h2, Or.inr ⟨j, e, false, rfl, he, rfl, rfl, rfl⟩⟩⟩ hC⟩
  · rw [if_neg (by decide), bd hp6', bd (al_r8 hLt), bd (al_g8 hLt (by omega)), f2]
    exact ⟨_, rfl, co_r ⟨rfl, Or.inr ⟨h2, Or.inr ⟨j, e, true, rfl, he, rfl, rfl, rfl⟩⟩⟩ hC⟩
theorem r_way2 {N : Nat} (hN : N = 2 ^ kB K) {a1 a2 : Int32} {k : Nat} {val : Int} (hf : 2000 ≤ mpN P) (hT : kT K) (hp : mpb P ≤ m) (hS : WaS (g_wl K pl N) pl a1 a2 k val pl') (h : RLr m K pl B τ) (hM : LyM τ m) : Wp (f_X12_way P m a1 a2 τ) (RO Int32.toInt id m K τ k val pl') := by
  have h0 := RSq_of h
  have hN2 : N ≤ 256 := by rw [hN]; exact p256 hT.2.1
  obtain ⟨rfl, hS⟩ := hS
  have hlen : (g_wl K pl' N).length ≤ N := wl_len N
  unfold f_X12_way f_X12_way_D16 f_X12_way_D85
  rcases hS with ⟨rfl, hbad⟩ | ⟨o2, hS⟩
  · refine b_in (fun z => absurd z hbad) fun _ => ?_
    refine u_th hM hp ?_
    rw [if_neg (by decide)]
    exact ⟨_, rfl, RO_c (c := 1) hT h0 (by omega) rfl⟩
  · refine b_in (fun _ => ?_) fun z => absurd o2 z
    refine u_th hM hp ?_
    rw [if_pos (by decide)]
    have h5 := RSq.th (v := 0) hT h0
    have hM5 := RSq_M h5 hM
    refine Wp_b (Wp_mo (r_wayl hN hf hM5 hp hT h5.1 a1 a2) ?_)
    rintro r (⟨i, e, τ6, rfl, rfl, he, k3⟩ | ⟨τ6, rfl, hno, k3⟩)
    · have h6 := h5.go k3
      have h60 : mxI τ6 m 0 = 0 := by rw [k3.2.2.2.2.2.1 m 0 (by omega) (by omega) (by omega) (fun _ => by decide)]; exact if_pos ⟨rfl, rfl⟩
      have hi := (List.getElem?_eq_some_iff.mp he).1
      rcases hS with ⟨rfl, hw⟩ | ⟨j, e', b, e1, he', rfl, rfl, rfl⟩
      · exact absurd ⟨by rw [q_nT (by omega)]; omega, by rw [q_nT (by omega)]; omega⟩ hw
      have hj := (List.getElem?_eq_some_iff.mp he').1
      have eij : i = j := by rw [q_nI (by omega) (by omega)] at e1; exact e1
      subst eij
      have ee : e' = e := by rw [he] at he'; exact (Option.some.inj he').symm
      subst ee
      show Wp (if bI b = 0 then some (q_n e'.1, τ6) else if (if e'.2 then (1 : Int32) else 2) = (1 : Int32) then some (1, τ6) else some (0, τ6)) _
      cases b
      · rw [if_pos (by rfl)]
        exact ⟨_, rfl, h60, fun _ => rfl, h6⟩
      · rw [if_neg (by decide)]
        cases e'.2
        · rw [if_neg (by decide)]; exact ⟨_, rfl, h60, fun _ => rfl, h6⟩
        · rw [if_pos (by decide)]; exact ⟨_, rfl, h60, fun _ => rfl, h6⟩
    · have h6 := h5.go k3
      have hM6 := RSq_M h6 hM
      rcases hS with ⟨rfl, hw⟩ | ⟨j, e', b, rfl, he', rfl, rfl, rfl⟩
      · show Wp ((mp_I P τ6 m 12 0 2).bind fun σ32 => some ((0 : Int32), σ32)) _
        rw [am_pI hM6 hp]
        exact ⟨_, rfl, RO_c (c := 2) hT h6 (by omega) rfl⟩
      · exact absurd rfl (hno j (List.getElem?_eq_some_iff.mp he').1)
theorem g_way (hS : St P σ x) (h : RL x σ) (a1 a2 : Int32) : Q32 x σ (f_L_way P x a1 a2 (x + 1575) σ) (fun τ => f_X12_way P (x + 1497) a1 a2 τ) [7] (RL x) := by
  obtain ⟨l, l', K, mk, pl, B, hT, hB, hc, hr⟩ := h
  have hx := LyH_o hS.1
  have hb := hS.2.1
  obtain ⟨N, hN⟩ : ∃ N, N = 2 ^ kB K := ⟨_, rfl⟩
  refine asmG (g := Int32.toInt64) (S := WaS (g_wl K pl N) pl a1 a2) (cd := id) hS hT hB (fun _ _ h => by rw [Int32.toInt.inj h]) (fun τ v e ho => hr_way hx e ho (by omega)) (fun τ k pl' k0 k4 hSS e => ?_) (c_way hS hT hc hr hN a1 a2) (fun k val pl' τ1 hSS hr1 hM1 => r_way2 hN (by have := hS.2.2.1; omega) hT (by omega) hSS hr1 hM1) cd_id
  have hk : k = 1 ∨ k = 2 := by
    obtain ⟨-, ⟨rfl, -⟩ | ⟨-, ⟨rfl, -⟩ | ⟨j, e, b, -, -, -, rfl, -⟩⟩⟩ := hSS <;> omega
  rcases hk with rfl | rfl
  · exact ht_way1 hx e
  · exact ht_way2 hx e
end HES
