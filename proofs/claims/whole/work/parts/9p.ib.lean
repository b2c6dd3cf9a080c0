/-! ===== ib: a joint becomes what the text tells ===== -/
section IBS
variable {P : mx_P} {σ σ0 σ1 σ2 τ : mx_S} {x m n t l p a N i k j u K c np fm r mk : Nat} {bl : List Nat} {on : Nat → Nat} {E : Nat → BV}
theorem c_bec {k n : Nat} (hf : 5000 ≤ mpN P) (hT : LyT σ t) (hL : LyL (mxA σ) (mxR σ) l) (hu : u < 40) (hlt : t + 8 ≤ l) (hb : mpb P ≤ l) (hX : TxH bl N K) (hTd : tdC σ t bl N 0 K) (hO : StO bl N 0 (sqA bl N 0 u) k n) (hok : okT bl N K u k n) (hmk : isQ bl N u = true → mkT bl N u < 8) (h10 : mxI σ t 10 = q_n (fmA (gst 0) k)) (h12 : mxI σ t 12 = q_n n) (hP : ∀ j, j < n → PtI σ t bl (by' (gst 0) (k + 1 + j)) (tkT bl N u j) j) (hE : ∀ q, bx σ l q → RB (rd σ q) (E q)) (hc : c = l + 2 + 16 * u) :
    ∃ τ E', f_X5_become P c t (q_n (mkT bl N u)) σ = some τ ∧ CJ τ E' bl l N K u ∧ (∀ q, bx τ l q → RB (rd τ q) (E' q)) ∧ (∀ q, ¬ (c + 2 ≤ q ∧ q ≤ c + 6) → E' q = E q) ∧ Fz (fun q j => q = c ∨ jFb σ l c q j) σ τ := by
  obtain ⟨p1, p2, p3, p4⟩ := CJ_pre hO
  have hn0 := StO_n (by omega) hO
  have hk0 : kdA bl (tkT bl N u 0) = 2 := by
    refine fit_2 (c := by' (gst 0) (k + 1 + 0)) ?_ (p4 0 hn0)
    obtain ⟨q1, q2, -⟩ := StO_k (by omega) hO
    exact Or.inl (g0_C ⟨k, q1⟩ q2)
  obtain ⟨τ0, hbeg, B0, J0, nm, z16, z17, z18, z19, f0⟩ := b_begin (P := P) (mark := q_n (mkT bl N u)) (fm := fmA (gst 0) k) (lt := fun j => by' (gst 0) (k + 1 + j)) (tk := tkT bl N u) (on := fun _ => 0) hf hT hL hu hc hlt hb hTd h12 hn0 h10 hP hk0 hE
  obtain ⟨n5, n1⟩ := bJ_5 (BC_J B0).1
  -- what every form needs at its end
  have fin : ∀ (τ : mx_S) (np : Nat) (on : Nat → Nat) (inp pow msk mi bt : Int32) (E' : Nat → BV), f_X5_become P c t (q_n (mkT bl N u)) σ = some τ → BC τ t bl l c N K n (fmA (gst 0) k) (fun j => by' (gst 0) (k + 1 + j)) (tkT bl N u) → JS τ l c np on inp pow msk mi bt E' → Fz (jFb τ0 l c) τ0 τ → fmT bl N u < 6 → np = g_np (fmT bl N u) → (∀ j, j < np → on j = teT bl N K (tkT bl N u (pIx (fmT bl N u) j)) ∧ (telA bl N K (nmA bl (tkT bl N u (pIx (fmT bl N u) j)))).isSome = true) →
      (fmT bl N u = 1 → inp = q_n (pT bl N u).2.1 ∧ pow.toInt = (pT bl N u).1 ∧ (pT bl N u).2.1 < 4 ∧ -8 ≤ (pT bl N u).1 ∧ (pT bl N u).1 ≤ 8 ∧ (pT bl N u).2.2 < 1024) → (fmT bl N u = 2 ∨ fmT bl N u = 3 → mi = (if kdA bl (tkT bl N u 5) = 45 then 1 else 0) ∧ bt = (if kdA bl (tkT bl N u 5) = 63 then q_n (mkT bl N u) else -1)) → msk = q_n (msO bl N u) →
      (fmT bl N u ≠ 5 → E' (c + 2) = (oT bl N u).1) → (fmT bl N u ≠ 3 → fmT bl N u ≠ 5 → E' (c + 3) = (oT bl N u).2) → (fmT bl N u = 1 → (E' (c + 5), E' (c + 6)) = g_D (pT bl N u).2.2) → (∀ q, ¬ (c + 2 ≤ q ∧ q ≤ c + 6) → E' q = E q) →
      ∃ τ E', f_X5_become P c t (q_n (mkT bl N u)) σ = some τ ∧ CJ τ E' bl l N K u ∧ (∀ q, bx τ l q → RB (rd τ q) (E' q)) ∧ (∀ q, ¬ (c + 2 ≤ q ∧ q ≤ c + 6) → E' q = E q) ∧ Fz (fun q j => q = c ∨ jFb σ l c q j) σ τ := by
    intro τ np on inp pow msk mi bt E' hb' B J f h6 hnp hon h1 h23 hms he1 he2 he3 he
    obtain ⟨j3, jo, j4, j5, j8, j6, j7, jE⟩ := J
    have keep : ∀ d, d < 3 ∨ 8 < d → mxI τ c d = mxI τ0 c d ∧ mxL τ c d = mxL τ0 c d := fun d hd => f.2.2.2 c d (fun z => by
      rcases z with z | z
      · unfold jF at z; omega
      · exact n5 z.2.2)
    refine ⟨τ, E', hb', ?_, jE, he, ?_⟩
    · unfold CJ
      rw [← hc]
      refine ⟨⟨B.2.2.2.2.2.1.trans (by rw [p1]), h6, j3.trans (by rw [hnp]), fun j hj => ?_⟩, fun z => ⟨j4.trans (h1 z).1, by rw [j5]; exact (h1 z).2.1, (h1 z).2.2⟩, fun z => ⟨j6.trans (h23 z).1, j7.trans (h23 z).2⟩, j8.trans hms, ⟨?_, ?_, ?_, ?_, ?_⟩, he1, he2, fun z => he3 z⟩
      · obtain ⟨a1, a2⟩ := hon j (by omega)
        exact ⟨(jo j (by omega)).trans (by rw [a1]), te_some a2⟩
      · rw [(keep 0 (by omega)).2]; exact nm
      · rw [(keep 16 (by omega)).1]; exact z16
      · rw [(keep 17 (by omega)).1]; exact z17
      · rw [(keep 18 (by omega)).1]; exact z18
      · rw [(keep 19 (by omega)).1]; exact z19
    · refine (f0.mo fun q j z => Or.inl z).tr (f.mo fun q j z => Or.inr ?_)
      rcases z with z | z
      · exact Or.inl z
      · exact Or.inr ((bx_A f0.1).mp z)
  have bec : ∀ τ τ', mx_lp (f_X5_become_L63 P c t (q_n (mkT bl N u))) (mpN P) ((1 : Int32), (1 : Int32), τ0) = some τ → bTl P c t τ = some τ' → f_X5_become P c t (q_n (mkT bl N u)) σ = some τ' := fun τ τ' h1 h2 => by
    rw [hbeg, bd h1]; exact h2
  obtain ⟨T0, T1, T2, T3, T4, T5⟩ := g0_lt
  obtain ⟨F0, F1, F2, F3, F4, F5⟩ := g0_fm
  obtain ⟨M0, M1, M2, M3, M4, M5⟩ := g0_n
  have up5 : ∀ (V : Nat → BV) (a : Nat) (b : BV) q, c + 2 ≤ a → a ≤ c + 6 → ¬ (c + 2 ≤ q ∧ q ≤ c + 6) → up V a b q = V q := fun V a b q h1 h2 h3 => up_n (by omega)
  rcases p3 with rfl | rfl | rfl | rfl | rfl | rfl
  · -- fix
    have hn : n = 3 := by omega
    subst hn
    rw [F0] at B0 p1 fin
    have k1 := fit_3 (c := 120) (by omega) (by have := p4 1 (by omega); rw [show 3 + 1 + 1 = 5 from rfl, T0.2.1] at this; exact this)
    have k2 := fit_3 (c := 120) (by omega) (by have := p4 2 (by omega); rw [show 3 + 1 + 2 = 6 from rfl, T0.2.2] at this; exact this)
    obtain ⟨τ, e, B, J, f⟩ := bm_0 (P := P) (mark := q_n (mkT bl N u)) hf hb hX B0 J0 T0.2.1 T0.2.2 k1 k2
    refine fin τ _ _ _ _ _ _ _ _ (bec τ τ e (bf_o B (by omega) (by omega))) B J f (by omega) (by rw [p1]; rfl) (fun j hj => absurd hj (Nat.not_lt_zero j)) (fun z => by omega) (fun z => by omega) ?_ (fun _ => ?_) (fun _ _ => ?_) (fun z => by omega) (fun q hq => ?_)
    · unfold msO isQ; rw [p1, if_neg (by omega), decide_eq_false (by omega)]; rfl
    · rw [up_n (by omega), up_e]; unfold oT; rw [if_pos p1]; rfl
    · rw [up_e]; unfold oT; rw [if_pos p1]; rfl
    · rw [up5 _ _ _ _ (by omega) (by omega) hq, up5 _ _ _ _ (by omega) (by omega) hq]
  · -- crank
    have hn : n = 6 := by omega
    subst hn
    rw [F1] at B0 p1 fin
    have k1 := fit_2 (c := 80) (Or.inr rfl) (by have := p4 1 (by omega); rw [show 13 + 1 + 1 = 15 from rfl, T1.2.1] at this; exact this)
    have k2 := fit_3 (c := 114) (by omega) (by have := p4 2 (by omega); rw [show 13 + 1 + 2 = 16 from rfl, T1.2.2.1] at this; exact this)
    have k3 := fit_3 (c := 105) (by omega) (by have := p4 3 (by omega); rw [show 13 + 1 + 3 = 17 from rfl, T1.2.2.2.1] at this; exact this)
    have k4 := fit_3 (c := 110) (by omega) (by have := p4 4 (by omega); rw [show 13 + 1 + 4 = 18 from rfl, T1.2.2.2.2.1] at this; exact this)
    have k5 := fit_3 (c := 107) (by omega) (by have := p4 5 (by omega); rw [show 13 + 1 + 5 = 19 from rfl, T1.2.2.2.2.2] at this; exact this)
    have o1 := hok 1 (by omega)
    have o3 := hok 3 (by omega)
    have o4 := hok 4 (by omega)
    have o5 := hok 5 (by omega)
    rw [show 13 + 1 + 1 = 15 from rfl, T1.2.1] at o1
    rw [show 13 + 1 + 3 = 17 from rfl, T1.2.2.2.1] at o3
    rw [show 13 + 1 + 4 = 18 from rfl, T1.2.2.2.2.1] at o4
    rw [show 13 + 1 + 5 = 19 from rfl, T1.2.2.2.2.2] at o5
    have t1 := te_some ((o1 (by omega)).1 rfl)
    have w3 := wh_of (lo := 0) (hi := 3) k3 ((o3 (by omega)).2 (by omega) (by omega))
    have w4 := wh_of (lo := -8) (hi := 8) k4 ((o4 (by omega)).2 (by omega) (by omega))
    have w5 := wh_of (lo := 0) (hi := 1023) k5 ((o5 (by omega)).2 (by omega) (by omega))
    obtain ⟨τ, w, hw, e, B, J, f⟩ := bm_1 (P := P) (mark := q_n (mkT bl N u)) (vi := (whT bl (tkT bl N u 3)).toNat) (vk := (whT bl (tkT bl N u 5)).toNat) hf hb hX B0 J0 T1.2.1 T1.2.2.1 T1.2.2.2.1 T1.2.2.2.2.1 T1.2.2.2.2.2 k1 k2 k3 k4 k5 t1 (by show whT bl (tkT bl N u 3) = _; omega) (by omega) (by show whT bl (tkT bl N u 5) = _; omega) (by omega)
    have hw' : w.toInt = whT bl (tkT bl N u 4) := hw
    obtain ⟨τ', e', B', J', f'⟩ := bf_1 (P := P) hb hX B J (by omega) (by omega) k2
    have f2 : Fz (jFb τ0 l c) τ0 τ' := f.tr (f'.mo fun q j z => by
      rcases z with z | z
      · exact Or.inl z
      · exact Or.inr ((bx_A f.1).mp z))
    refine fin τ' _ _ _ _ _ _ _ _ (bec τ τ' e e') B' J' f2 (by omega) (by rw [p1]; rfl) (fun j hj => ?_) (fun _ => ⟨rfl, hw', ?_, ?_, ?_, ?_⟩) (fun z => by omega) ?_ (fun _ => ?_) (fun _ _ => ?_) (fun _ => ?_) (fun q hq => ?_)
    · have hj0 : j = 0 := by omega
      subst hj0
      rw [p1]
      exact ⟨rfl, (o1 (by omega)).1 rfl⟩
    · show (whT bl (tkT bl N u 3)).toNat < 4; omega
    · show -8 ≤ whT bl (tkT bl N u 4); omega
    · show whT bl (tkT bl N u 4) ≤ 8; omega
    · show (whT bl (tkT bl N u 5)).toNat < 1024; omega
    · unfold msO; rw [if_pos p1]
      exact q_256 ⟨(whT bl (tkT bl N u 3)).toNat, by omega⟩
    · rw [up_n (by omega), up_n (by omega), up_n (by omega), up_e]; unfold oT; rw [if_neg (by omega), if_pos p1]; rfl
    · rw [up_e, hw']; unfold oT; rw [if_neg (by omega), if_pos p1]
    · rw [up_n (by omega), up_n (by omega), up_e, up_n (by omega), up_e]; rfl
    · rw [up5 _ _ _ _ (by omega) (by omega) hq, up5 _ _ _ _ (by omega) (by omega) hq, up5 _ _ _ _ (by omega) (by omega) hq, up5 _ _ _ _ (by omega) (by omega) hq]
  · -- dyad
    have hn : n = 6 := by omega
    subst hn
    rw [F2] at B0 p1 fin
    have k1 := fit_2 (c := 80) (Or.inr rfl) (by have := p4 1 (by omega); rw [show 25 + 1 + 1 = 27 from rfl, T2.2.1] at this; exact this)
    have k2 := fit_2 (c := 80) (Or.inr rfl) (by have := p4 2 (by omega); rw [show 25 + 1 + 2 = 28 from rfl, T2.2.2.1] at this; exact this)
    have k3 := fit_3 (c := 114) (by omega) (by have := p4 3 (by omega); rw [show 25 + 1 + 3 = 29 from rfl, T2.2.2.2.1] at this; exact this)
    have k4 := fit_3 (c := 114) (by omega) (by have := p4 4 (by omega); rw [show 25 + 1 + 4 = 30 from rfl, T2.2.2.2.2.1] at this; exact this)
    have k5 := fit_S (by have := p4 5 (by omega); rw [show 25 + 1 + 5 = 31 from rfl, T2.2.2.2.2.2] at this; exact this)
    have o1 := hok 1 (by omega)
    rw [show 25 + 1 + 1 = 27 from rfl, T2.2.1] at o1
    have t1 := te_some ((o1 (by omega)).1 rfl)
    have o2 := hok 2 (by omega)
    rw [show 25 + 1 + 2 = 28 from rfl, T2.2.2.1] at o2
    have t2 := te_some ((o2 (by omega)).1 rfl)
    obtain ⟨τ, e, B, J, f⟩ := bm_2 (P := P) (mk := mkT bl N u) hf hb hX B0 J0 T2.2.1 T2.2.2.1 T2.2.2.2.1 T2.2.2.2.2.1 T2.2.2.2.2.2 k1 k2 k3 k4 k5 t1 t2
    refine fin τ _ _ _ _ _ _ _ _ (bec τ τ e (bf_o B (by omega) (by omega))) B J f (by omega) (by rw [p1]; rfl) (fun j hj => ?_) (fun z => by omega) (fun _ => ⟨rfl, rfl⟩) ?_ (fun _ => ?_) (fun _ _ => ?_) (fun z => by omega) (fun q hq => ?_)
    · rw [p1]
      rcases j with _ | _ | j
      · exact ⟨rfl, (o1 (by omega)).1 rfl⟩
      · exact ⟨rfl, (o2 (by omega)).1 rfl⟩
      · omega
    · unfold msO isQ
      rw [if_neg (show ¬ fmT bl N u = 1 by omega)]
      by_cases c63 : kdA bl (tkT bl N u 5) = 63
      · have hq : isQ bl N u = true := by unfold isQ; exact decide_eq_true ⟨by omega, c63⟩
        rw [if_pos c63, decide_eq_true (show (fmT bl N u = 2 ∨ fmT bl N u = 3) ∧ kdA bl (tkT bl N u 5) = 63 from ⟨by omega, c63⟩), if_pos rfl]
        exact q_1m ⟨mkT bl N u, hmk hq⟩
      · rw [if_neg c63, decide_eq_false (fun z => c63 z.2)]; rfl
    · rw [up_n (by omega), up_e]; unfold oT; rw [if_neg (by omega), if_neg (by omega), if_pos p1]; rfl
    · rw [up_e]; unfold oT; rw [if_neg (by omega), if_neg (by omega), if_pos p1]; rfl
    · rw [up5 _ _ _ _ (by omega) (by omega) hq, up5 _ _ _ _ (by omega) (by omega) hq]
  · -- slide
    have hn : n = 6 := by omega
    subst hn
    rw [F3] at B0 p1 fin
    have k1 := fit_2 (c := 80) (Or.inr rfl) (by have := p4 1 (by omega); rw [show 38 + 1 + 1 = 40 from rfl, T3.2.1] at this; exact this)
    have k2 := fit_3 (c := 114) (by omega) (by have := p4 2 (by omega); rw [show 38 + 1 + 2 = 41 from rfl, T3.2.2.1] at this; exact this)
    have k3 := fit_2 (c := 80) (Or.inr rfl) (by have := p4 3 (by omega); rw [show 38 + 1 + 3 = 42 from rfl, T3.2.2.2.1] at this; exact this)
    have k4 := fit_2 (c := 80) (Or.inr rfl) (by have := p4 4 (by omega); rw [show 38 + 1 + 4 = 43 from rfl, T3.2.2.2.2.1] at this; exact this)
    have k5 := fit_S (by have := p4 5 (by omega); rw [show 38 + 1 + 5 = 44 from rfl, T3.2.2.2.2.2] at this; exact this)
    have o1 := hok 1 (by omega)
    rw [show 38 + 1 + 1 = 40 from rfl, T3.2.1] at o1
    have t1 := te_some ((o1 (by omega)).1 rfl)
    have o3 := hok 3 (by omega)
    rw [show 38 + 1 + 3 = 42 from rfl, T3.2.2.2.1] at o3
    have t3 := te_some ((o3 (by omega)).1 rfl)
    have o4 := hok 4 (by omega)
    rw [show 38 + 1 + 4 = 43 from rfl, T3.2.2.2.2.1] at o4
    have t4 := te_some ((o4 (by omega)).1 rfl)
    obtain ⟨τ, e, B, J, f⟩ := bm_3 (P := P) (mk := mkT bl N u) hf hb hX B0 J0 T3.2.1 T3.2.2.1 T3.2.2.2.1 T3.2.2.2.2.1 T3.2.2.2.2.2 k1 k2 k3 k4 k5 t1 t3 t4
    refine fin τ _ _ _ _ _ _ _ _ (bec τ τ e (bf_o B (by omega) (by omega))) B J f (by omega) (by rw [p1]; rfl) (fun j hj => ?_) (fun z => by omega) (fun _ => ⟨rfl, rfl⟩) ?_ (fun _ => ?_) (fun z _ => absurd p1 z) (fun z => by omega) (fun q hq => ?_)
    · rw [p1]
      rcases j with _ | _ | _ | j
      · exact ⟨rfl, (o1 (by omega)).1 rfl⟩
      · exact ⟨rfl, (o3 (by omega)).1 rfl⟩
      · exact ⟨rfl, (o4 (by omega)).1 rfl⟩
      · omega
    · unfold msO isQ
      rw [if_neg (show ¬ fmT bl N u = 1 by omega)]
      by_cases c63 : kdA bl (tkT bl N u 5) = 63
      · have hq : isQ bl N u = true := by unfold isQ; exact decide_eq_true ⟨by omega, c63⟩
        rw [if_pos c63, decide_eq_true (show (fmT bl N u = 2 ∨ fmT bl N u = 3) ∧ kdA bl (tkT bl N u 5) = 63 from ⟨by omega, c63⟩), if_pos rfl]
        exact q_1m ⟨mkT bl N u, hmk hq⟩
      · rw [if_neg c63, decide_eq_false (fun z => c63 z.2)]; rfl
    · rw [up_e]; unfold oT; rw [if_neg (by omega), if_neg (by omega), if_neg (by omega), if_pos p1]; rfl
    · rw [up5 _ _ _ _ (by omega) (by omega) hq]
  · -- body
    have hn : n = 5 := by omega
    subst hn
    rw [F4] at B0 p1 fin
    have k1 := fit_2 (c := 80) (Or.inr rfl) (by have := p4 1 (by omega); rw [show 50 + 1 + 1 = 52 from rfl, T4.2.1] at this; exact this)
    have k2 := fit_2 (c := 80) (Or.inr rfl) (by have := p4 2 (by omega); rw [show 50 + 1 + 2 = 53 from rfl, T4.2.2.1] at this; exact this)
    have k3 := fit_3 (c := 120) (by omega) (by have := p4 3 (by omega); rw [show 50 + 1 + 3 = 54 from rfl, T4.2.2.2.1] at this; exact this)
    have k4 := fit_3 (c := 120) (by omega) (by have := p4 4 (by omega); rw [show 50 + 1 + 4 = 55 from rfl, T4.2.2.2.2] at this; exact this)
    have o1 := hok 1 (by omega)
    rw [show 50 + 1 + 1 = 52 from rfl, T4.2.1] at o1
    have t1 := te_some ((o1 (by omega)).1 rfl)
    have o2 := hok 2 (by omega)
    rw [show 50 + 1 + 2 = 53 from rfl, T4.2.2.1] at o2
    have t2 := te_some ((o2 (by omega)).1 rfl)
    obtain ⟨τ, e, B, J, f⟩ := bm_4 (P := P) (mark := q_n (mkT bl N u)) hf hb hX B0 J0 T4.2.1 T4.2.2.1 T4.2.2.2.1 T4.2.2.2.2 k1 k2 k3 k4 t1 t2
    refine fin τ _ _ _ _ _ _ _ _ (bec τ τ e (bf_o B (by omega) (by omega))) B J f (by omega) (by rw [p1]; rfl) (fun j hj => ?_) (fun z => by omega) (fun z => by omega) ?_ (fun _ => ?_) (fun _ _ => ?_) (fun z => by omega) (fun q hq => ?_)
    · rw [p1]
      rcases j with _ | _ | j
      · exact ⟨rfl, (o1 (by omega)).1 rfl⟩
      · exact ⟨rfl, (o2 (by omega)).1 rfl⟩
      · omega
    · unfold msO isQ; rw [p1, if_neg (by omega), decide_eq_false (by omega)]; rfl
    · rw [up_n (by omega), up_e]; unfold oT; rw [if_neg (by omega), if_neg (by omega), if_neg (by omega), if_neg (by omega), if_pos p1]; rfl
    · rw [up_e]; unfold oT; rw [if_neg (by omega), if_neg (by omega), if_neg (by omega), if_neg (by omega), if_pos p1]; rfl
    · rw [up5 _ _ _ _ (by omega) (by omega) hq, up5 _ _ _ _ (by omega) (by omega) hq]
  · -- cross
    have hn : n = 5 := by omega
    subst hn
    rw [F5] at B0 p1 fin
    have k1 := fit_2 (c := 80) (Or.inr rfl) (by have := p4 1 (by omega); rw [show 62 + 1 + 1 = 64 from rfl, T5.2.1] at this; exact this)
    have k2 := fit_2 (c := 80) (Or.inr rfl) (by have := p4 2 (by omega); rw [show 62 + 1 + 2 = 65 from rfl, T5.2.2.1] at this; exact this)
    have k3 := fit_2 (c := 80) (Or.inr rfl) (by have := p4 3 (by omega); rw [show 62 + 1 + 3 = 66 from rfl, T5.2.2.2.1] at this; exact this)
    have k4 := fit_2 (c := 80) (Or.inr rfl) (by have := p4 4 (by omega); rw [show 62 + 1 + 4 = 67 from rfl, T5.2.2.2.2] at this; exact this)
    have o1 := hok 1 (by omega)
    rw [show 62 + 1 + 1 = 64 from rfl, T5.2.1] at o1
    have t1 := te_some ((o1 (by omega)).1 rfl)
    have o2 := hok 2 (by omega)
    rw [show 62 + 1 + 2 = 65 from rfl, T5.2.2.1] at o2
    have t2 := te_some ((o2 (by omega)).1 rfl)
    have o3 := hok 3 (by omega)
    rw [show 62 + 1 + 3 = 66 from rfl, T5.2.2.2.1] at o3
    have t3 := te_some ((o3 (by omega)).1 rfl)
    have o4 := hok 4 (by omega)
    rw [show 62 + 1 + 4 = 67 from rfl, T5.2.2.2.2] at o4
    have t4 := te_some ((o4 (by omega)).1 rfl)
    obtain ⟨τ, e, B, J, f⟩ := bm_5 (P := P) (mark := q_n (mkT bl N u)) hf hb hX B0 J0 T5.2.1 T5.2.2.1 T5.2.2.2.1 T5.2.2.2.2 k1 k2 k3 k4 t1 t2 t3 t4
    refine fin τ _ _ _ _ _ _ _ _ (bec τ τ e (bf_o B (by omega) (by omega))) B J f (by omega) (by rw [p1]; rfl) (fun j hj => ?_) (fun z => by omega) (fun z => by omega) ?_ (fun z => absurd p1 z) (fun _ z => absurd p1 z) (fun z => by omega) (fun q hq => rfl)
    · rw [p1]
      rcases j with _ | _ | _ | _ | j
      · exact ⟨rfl, (o1 (by omega)).1 rfl⟩
      · exact ⟨rfl, (o2 (by omega)).1 rfl⟩
      · exact ⟨rfl, (o3 (by omega)).1 rfl⟩
      · exact ⟨rfl, (o4 (by omega)).1 rfl⟩
      · omega
    · unfold msO isQ; rw [p1, if_neg (by omega), decide_eq_false (by omega)]; rfl
end IBS
