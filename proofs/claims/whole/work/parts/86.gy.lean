/-! ===== gy: step, range ===== -/
section GYS
variable {M : BV} {P : mx_P} {σ σ0 σ1 τ : mx_S} {x l l' m n : Nat} {E : Nat → BV} {K : LK} {pl pl0 pl' mk : Nat → Nat} {wy w p i : Nat} {B : LB} {β R : Type} {fn fd : Bool}
theorem co_t {vi : R → Int} {S : Nat → Int → (Nat → Nat) → Prop} {C : (Nat → Nat) → mx_S → Prop} {k : Nat} (hk : 0 < k) (hk4 : k < 4) (hS : S k 0 pl') (hC : C pl' τ) : CO vi S C (.inl (exn k, th τ)) := ⟨τ, k, pl', rfl, rfl, hk, hk4, hS, hC⟩
theorem co_r {vi : R → Int} {S : Nat → Int → (Nat → Nat) → Prop} {C : (Nat → Nat) → mx_S → Prop} {v : R} (hS : S 0 (vi v) pl') (hC : C pl' τ) : CO vi S C (.inr (v, τ)) := ⟨pl', hS, hC⟩
theorem RO_c {vi : R → Int} {cd : Nat → Nat} {k c : Nat} {v : R} {val : Int} (hT : kT K) (h : RSq m K σ0 pl τ) (h0 : 0 < k) (hc : cd k = c) : RO vi cd m K σ0 k val pl (v, mx_setI τ m 0 (q_n c)) :=
  ⟨by rw [hc]; exact if_pos ⟨rfl, rfl⟩, fun z => by omega, h.th hT⟩
theorem w_sure {k : mx_S → Option ((String × mx_S) ⊕ β)} {Q : (String × mx_S) ⊕ β → Prop} (h : Cx P x l K mk pl σ) (hcs : CS M l K mk σ pl pl' τ) (hw : w < 256) (ok : ∀ τ' E, CS M l K mk σ pl pl' τ' → SuR M l K pl' mk w E τ' → g_wy K pl' w = 1 → Wp (k τ') Q) (bad : ∀ τ', CS M l K mk σ pl pl' τ' → g_wy K pl' w ≠ 1 → Q (.inl (exn 3, th τ'))) : Wp (mx_bx (f_X11_needSure P x (q_n w) τ) k) Q := by
  obtain ⟨hx, hLl, hb, hN, hrm, h6, hT, -⟩ := id h
  obtain ⟨p1, -, p3, p4, p5⟩ := cx_p h hcs
  refine Wp_bx ?_
  unfold f_X11_needSure f_X11_needSure_D17
  rw [bd p1, bd (al_is p3)]
  refine Wp_b2 (Wp_mo (cs_sure (by omega) hLl hb hT hcs hw) ?_)
  rintro ⟨r, τ'⟩ ⟨j1, j2, j3⟩
  dsimp only at j1 j2 j3 ⊢
  obtain ⟨q1, q2, q3, q4, q5⟩ := cx_p h j1
  by_cases hr : r = 0
  · rw [if_pos hr, nl_1]
    obtain ⟨E, hE⟩ := j3 hr
    exact ⟨_, rfl, ok τ' E j1 hE (j2.mp hr)⟩
  · rw [if_neg hr, nl_0 q2]
    exact ⟨_, rfl, bad τ' j1 (fun z => hr (j2.mpr z))⟩
def rgs (a : Int32) (u : Int) : Prop := -u ≤ a.toInt ∧ a.toInt ≤ u
/-- what step answers -/
def StS (K : LK) (pl : Nat → Nat) (a1 a2 a3 : Int32) (k : Nat) (val : Int) (pl' : Nat → Nat) : Prop :=
  (k = 1 ∧ pl' = pl ∧ ¬ (rg a1 255 ∧ rg a2 3 ∧ rgs a3 1023)) ∨ ((rg a1 255 ∧ rg a2 3 ∧ rgs a3 1023) ∧ ∃ w i, w < 256 ∧ i < 4 ∧ a1 = q_n w ∧ a2 = q_n i ∧
    ((k = 3 ∧ pl' = pl ∧ g_wy K pl w ≠ 1) ∨ (k = 0 ∧ g_wy K pl w = 1 ∧ pl' = g_stp K w i (decide (0 ≤ a3.toInt)) a3.toInt.natAbs pl ∧ val = (q_n (pl' i)).toInt)))
theorem c_step (h : Cx P x l K mk pl σ) (a1 a2 a3 : Int32) : Wp (f_X11_step P x a1 a2 a3 σ) (CO Int32.toInt (StS K pl a1 a2 a3) (lP σ l K mk pl)) := by
  obtain ⟨hx, hLl, hb, hN, hrm, h6, hT, M, hcs⟩ := id h
  obtain ⟨p1, -, -, p4, p5⟩ := cx_p h hcs
  have bad : ¬ (rg a1 255 ∧ rg a2 3 ∧ rgs a3 1023) → CO (R := Int32) Int32.toInt (StS K pl a1 a2 a3) (lP σ l K mk pl) (.inl (exn 1, th σ)) := fun hb => co_t (by omega) (by omega) (Or.inl ⟨rfl, rfl, hb⟩) ⟨M, hcs⟩
  unfold f_X11_step
  refine w_rg hrm (fun h1 => ?_) (fun h1 => bad (fun z => h1 z.1))
  refine w_rg hrm (fun h2 => ?_) (fun h2 => bad (fun z => h2 z.2.1))
  refine w_rg hrm (fun h3 => ?_) (fun h3 => bad (fun z => h3 z.2.2))
  have hok : rg a1 255 ∧ rg a2 3 ∧ rgs a3 1023 := ⟨h1, h2, h3⟩
  obtain ⟨w, hw, rfl⟩ := rg_n (u := 255) h1
  obtain ⟨i, hi, rfl⟩ := rg_n (u := 3) h2
  rw [bd p5]
  refine w_sure h hcs (show w < 256 by omega) (fun τ E j1 _ hwy => ?_) (fun τ j1 hwy => co_t (by omega) (by omega) (Or.inr ⟨hok, w, i, by omega, by omega, rfl, rfl, Or.inl ⟨rfl, rfl, hwy⟩⟩) ⟨M, j1⟩)
  obtain ⟨q1, q2, q3, q4, q5⟩ := cx_p h j1
  rw [bd q1, bd (al_is q3)]
  refine Wp_b (Wp_mo (c_walk (by omega) hLl hb hT j1 (show i < 4 by omega) (show w < 256 by omega) h3.1 h3.2) ?_)
  intro τ2 j2
  obtain ⟨r1, r2, r3, r4, r5⟩ := cx_p h j2
  obtain ⟨E2, wy2, hz2⟩ := j2.1
  rw [bd r1, bd (al_r4 r3), bd (al_g4 r3 (show i < 4 by omega)), (hz2.1.2.2.2.1 i (by omega)).1]
  exact ⟨_, rfl, co_r (Or.inr ⟨hok, w, i, by omega, by omega, rfl, rfl, Or.inr ⟨rfl, hwy, rfl, rfl⟩⟩) ⟨M, j2⟩⟩
theorem r_step {a1 a2 a3 : Int32} {k : Nat} {val : Int} (hf : 2000 ≤ mpN P) (hT : kT K) (hp : mpb P ≤ m) (hS : StS K pl a1 a2 a3 k val pl') (h : RLr m K pl B τ) (hM : LyM τ m) : Wp (f_X12_step P m a1 a2 a3 τ) (RO Int32.toInt (fun k => if k = 3 then 2 else k) m K τ k val pl') := by
  have h0 := RSq_of h
  unfold f_X12_step f_X12_step_D24
  rw [bd (am_is hM)]
  have thr : ∀ (k c : Nat) (w1 : Int32) (τ' : mx_S), 0 < k → 0 < c → c < 4 → w1 = q_n c → (if k = 3 then 2 else k) = c → RSq m K τ pl τ' → Wp (f_X12_step_D42 P m a1 a2 a3 w1 m τ') (RO Int32.toInt (fun k => if k = 3 then 2 else k) m K τ k val pl) := by
    rintro k c w1 τ' k0 c0 c4 rfl hkc hq
    unfold f_X12_step_D42
    refine u_th (RSq_M hq hM) hp ?_
    rw [if_neg (pos_th c0 c4)]
    exact ⟨_, rfl, RO_c hT hq k0 hkc⟩
  rcases hS with ⟨rfl, rfl, hbad⟩ | ⟨⟨o1, o2, o3⟩, w, i, hw, hi, rfl, rfl, hS⟩
  · refine b_isw (fun h1 => b_in (fun h3 => absurd ⟨h1.1, h1.2, h3⟩ hbad) fun h3 => ?_) fun h1 => ?_
    all_goals exact thr 1 1 _ _ (by omega) (by omega) (by omega) rfl rfl h0
  · refine b_isw (fun h1 => b_in (fun h3 => ?_) fun h3 => absurd o3 h3) fun h1 => absurd ⟨o1, o2⟩ h1
    rw [bd (am_is hM)]
    refine Wp_b2 (Wp_mo (rs_work (by omega) hM hp hT h0.1 hw) ?_)
    rintro ⟨r, τ4⟩ ⟨j1, j2, -⟩
    dsimp only at j1 j2 ⊢
    subst j1
    have h4 := h0.go j2
    have hM4 := RSq_M h4 hM
    have hwy3 : g_wy K pl w ≤ 2 := by unfold g_wy; split <;> (try split) <;> omega
    rcases hS with ⟨rfl, rfl, hwy⟩ | ⟨rfl, hwy, rfl, rfl⟩
    · rw [if_neg (fun z => hwy (by rw [show (1 : Int32) = q_n 1 from rfl, q_nI (by omega) (by omega)] at z; exact z))]
      exact thr 3 2 _ _ (by omega) (by omega) (by omega) rfl rfl h4
    · rw [if_pos (by rw [hwy]; rfl)]
      unfold f_X12_step_D42
      refine u_th hM4 hp ?_
      have h5 := RSq.th (v := 0) hT h4
      have hM5 := RSq_M h5 hM
      rw [if_pos (by decide)]
      by_cases hs : 0 ≤ a3.toInt
      · have e : decide (0 ≤ a3.toInt) = true := decide_eq_true hs
        have key := r_walk (by omega) hM5 hp hT h5.1 hi hw o3.1 o3.2 true (by rw [e])
        rw [if_pos (by rw [q_le]; exact hs)]
        refine Wp_mo key ?_
        rintro ⟨r, τ6⟩ ⟨k1, k2⟩
        dsimp only at k1 k2
        rw [e]
        subst k2
        refine ⟨?_, fun _ => rfl, h5.go k1⟩
        rw [k1.2.2.2.2.2.1 m 0 (by omega) (by omega) (by omega) (fun _ => by decide)]; exact if_pos ⟨rfl, rfl⟩
      · have e : decide (0 ≤ a3.toInt) = false := decide_eq_false hs
        have key := r_walk (by omega) hM5 hp hT h5.1 hi hw o3.1 o3.2 false (by rw [e])
        rw [if_neg (by rw [q_le]; exact hs)]
        refine Wp_mo key ?_
        rintro ⟨r, τ6⟩ ⟨k1, k2⟩
        dsimp only at k1 k2
        rw [e]
        subst k2
        refine ⟨?_, fun _ => rfl, h5.go k1⟩
        rw [k1.2.2.2.2.2.1 m 0 (by omega) (by omega) (by omega) (fun _ => by decide)]; exact if_pos ⟨rfl, rfl⟩
theorem cd_id : (id 0 : Nat) = 0 ∧ ∀ k, 0 < k → k < 4 → q_n (id k) ≠ 0 := ⟨rfl, fun k k0 k4 => fun z => by rw [id, show (0 : Int32) = q_n 0 from rfl, q_nI (by omega) (by omega)] at z; omega⟩
theorem g_step (hS : St P σ x) (h : RL x σ) (a1 a2 a3 : Int32) : Q32 x σ (f_L_step P x a1 a2 a3 (x + 1575) σ) (fun τ => f_X12_step P (x + 1497) a1 a2 a3 τ) [7] (RL x) := by
  obtain ⟨l, l', K, mk, pl, B, hT, hB, hc, hr⟩ := h
  have hx := LyH_o hS.1
  have hb := hS.2.1
  refine asm32 (S := StS K pl a1 a2 a3) (cd := fun k => if k = 3 then 2 else k) hS hT hB hc hr (fun τ v e ho => hr_step hx e ho (by omega)) (fun τ k pl' k0 k4 hSS e => ?_) (c_step (Cx_of hS hT hc) a1 a2 a3) (fun k val pl' τ1 hSS hr1 hM1 => r_step (by have := hS.2.2.1; omega) hT (by omega) hSS hr1 hM1) ⟨rfl, fun k k0 k4 => fun z => ?_⟩
  · have hk : k = 1 ∨ k = 3 := by
      obtain ⟨rfl, -⟩ | ⟨-, w, i, -, -, -, -, ⟨rfl, -⟩ | ⟨rfl, -⟩⟩ := hSS <;> omega
    rcases hk with rfl | rfl
    · exact ht_step1 hx e
    · exact ht_step2 hx e
  · rw [show (0 : Int32) = q_n 0 from rfl, q_nI (by split <;> omega) (by omega)] at z
    split at z <;> omega
/-- what range answers -/
def RgS (N : Nat) (K : LK) (pl : Nat → Nat) (a1 a2 a3 : Int32) (k : Nat) (val : Int) (pl' : Nat → Nat) : Prop := pl' = pl ∧
  ((k = 1 ∧ ¬ (rg a1 255 ∧ rg a2 3 ∧ rg a3 2)) ∨ ((rg a1 255 ∧ rg a2 3 ∧ rg a3 2) ∧ ∃ w i, w < 256 ∧ i < 4 ∧ a1 = q_n w ∧ a2 = q_n i ∧ k = 0 ∧ val = (g_rng N (g_sr K pl w i) a3).toInt))
theorem c_range {N : Nat} (hN0 : N = 1024) (h : Cx P x l K mk pl σ) (a1 a2 a3 : Int32) : Wp (f_X11_range P x a1 a2 a3 σ) (CO Int32.toInt (RgS N K pl a1 a2 a3) (lP σ l K mk pl)) := by
  obtain ⟨hx, hLl, hb, hN, hrm, h6, hT, M, hcs⟩ := id h
  obtain ⟨p1, -, -, p4, p5⟩ := cx_p h hcs
  have bad : ¬ (rg a1 255 ∧ rg a2 3 ∧ rg a3 2) → CO (R := Int32) Int32.toInt (RgS N K pl a1 a2 a3) (lP σ l K mk pl) (.inl (exn 1, th σ)) := fun hb => co_t (by omega) (by omega) ⟨rfl, Or.inl ⟨rfl, hb⟩⟩ ⟨M, hcs⟩
  unfold f_X11_range
  refine w_rg hrm (fun h1 => ?_) (fun h1 => bad (fun z => h1 z.1))
  refine w_rg hrm (fun h2 => ?_) (fun h2 => bad (fun z => h2 z.2.1))
  refine w_rg hrm (fun h3 => ?_) (fun h3 => bad (fun z => h3 z.2.2))
  have hok : rg a1 255 ∧ rg a2 3 ∧ rg a3 2 := ⟨h1, h2, h3⟩
  obtain ⟨w, hw, rfl⟩ := rg_n (u := 255) h1
  obtain ⟨i, hi, rfl⟩ := rg_n (u := 3) h2
  rw [bd p1, bd (al_is hLl)]
  refine Wp_b2 (Wp_mo (c_runs (by omega) hLl hb hT hcs (show i < 4 by omega) (show w < 256 by omega) a3 hN0) ?_)
  rintro ⟨r, τ⟩ ⟨j1, j2⟩
  dsimp only at j1 j2 ⊢
  subst j1
  exact ⟨_, rfl, co_r ⟨rfl, Or.inr ⟨hok, w, i, by omega, by omega, rfl, rfl, rfl, rfl⟩⟩ ⟨M, j2⟩⟩
theorem r_rangeA {N : Nat} (hN0 : N = 1024) {a1 a2 a3 : Int32} {k : Nat} {val : Int} (hf : 2000 ≤ mpN P) (hT : kT K) (hp : mpb P ≤ m) (hS : RgS N K pl a1 a2 a3 k val pl') (h : RLr m K pl B τ) (hM : LyM τ m) : Wp (f_X12_range P m a1 a2 a3 τ) (RO Int32.toInt id m K τ k val pl') := by
  have h0 := RSq_of h
  obtain ⟨rfl, hS⟩ := hS
  unfold f_X12_range f_X12_range_D26
  rw [bd (am_is hM)]
  rcases hS with ⟨rfl, hbad⟩ | ⟨⟨o1, o2, o3⟩, w, i, hw, hi, rfl, rfl, rfl, rfl⟩
  · have thr : Wp (f_X12_range_D27 P m a1 a2 a3 1 m τ) (RO Int32.toInt id m K τ 1 val pl') := by
      unfold f_X12_range_D27
      refine u_th hM hp ?_
      rw [if_neg (by decide)]
      exact ⟨_, rfl, RO_c (c := 1) hT h0 (by omega) rfl⟩
    exact b_isw (fun h1 => b_in (fun h3 => absurd ⟨h1.1, h1.2, h3⟩ hbad) fun h3 => thr) fun h1 => thr
  · refine b_isw (fun h1 => b_in (fun h3 => ?_) fun h3 => absurd o3 h3) fun h1 => absurd ⟨o1, o2⟩ h1
    refine Wp_mo (r_range hf hM hp hT h0.1 hi hw a3 hN0) ?_
    rintro ⟨r, τ6⟩ ⟨k1, k2⟩
    dsimp only at k1 k2
    subst k1
    refine ⟨?_, fun _ => rfl, (RSq.th (v := 0) hT h0).go k2⟩
    rw [k2.2.2.2.2.2.1 m 0 (by omega) (by omega) (by omega) (fun _ => by decide)]; exact if_pos ⟨rfl, rfl⟩
theorem g_range (hS : St P σ x) (h : RL x σ) (a1 a2 a3 : Int32) : Q32 x σ (f_L_range P x a1 a2 a3 (x + 1575) σ) (fun τ => f_X12_range P (x + 1497) a1 a2 a3 τ) [7] (RL x) := by
  obtain ⟨l, l', K, mk, pl, B, hT, hB, hc, hr⟩ := h
  have hx := LyH_o hS.1
  have hb := hS.2.1
  obtain ⟨N, hN0⟩ : ∃ N, N = 1024 := ⟨_, rfl⟩
  refine asm32 (S := RgS N K pl a1 a2 a3) (cd := id) hS hT hB hc hr (fun τ v e ho => hr_range hx e ho (by omega)) (fun τ k pl' k0 k4 hSS e => ?_) (c_range hN0 (Cx_of hS hT hc) a1 a2 a3) (fun k val pl' τ1 hSS hr1 hM1 => r_rangeA hN0 (by have := hS.2.2.1; omega) hT (by omega) hSS hr1 hM1) cd_id
  have hk : k = 1 := by
    obtain ⟨-, ⟨rfl, -⟩ | ⟨-, w, i, -, -, -, -, rfl, -⟩⟩ := hSS <;> omega
  subst hk
  exact ht_range1 hx e
end GYS
