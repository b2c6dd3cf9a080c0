/-! ===== lg: drives, the class runs ===== -/
section LGS
variable {M : BV} {P : mx_P} {σ σ0 σ1 τ : mx_S} {x l l' n k i w t j a : Nat} {K : LK} {mk pl pl' : Nat → Nat} {B : LB} {O : OD} {s : DS}
theorem c_rcD {c : Nat} {y : Bool} {lo V : Int} (hD : LyO (mxA σ) (mxR σ) 2 al2 (x + 120)) (hP : LyP (mxA σ) (mxR σ) c) (hk : k < 40) (h6 : mxI σ (x + 120 + 6) k = bI y) (h7 : (mxL σ (x + 120 + 7) k).toInt = V) (hlo : (mxL σ (c + (if y then 2 else 1)) 0).toInt = lo) : f_X2_isReached P (x + 120) c (q_n k) σ = some (bI (decide (V < lo)), σ) := by
  have hz1 : mr_Z 1 σ = some (1, σ) := if_pos (Or.inr rfl)
  have hz0 : mr_Z 0 σ = some (0, σ) := if_pos (Or.inl rfl)
  have D26 : ∀ v : Int64, v.toInt = lo → f_X2_isReached_D26 P (x + 120) (q_n k) v σ = some (bI (decide (V < lo)), σ) := fun v hv => by
    unfold f_X2_isReached_D26 f_X2_isReached_D41
    rw [bd (ad_r10 hD), bd (ad_g10 hD hk)]
    by_cases c : V < lo
    · rw [if_neg (by rw [q_cmp_le, q_lle, hv, h7]; omega), hz1, decide_eq_true c]; rfl
    · rw [if_pos (by rw [q_cmp_le, q_lle, hv, h7]; omega), hz0, decide_eq_false c]; rfl
  unfold f_X2_isReached
  rw [bd (ad_r9 hD), bd (ad_g9 hD hk), h6]
  cases y with
  | false => rw [if_pos (show bI false = 0 by decide), bd (pr_0 hP), bd (q_gL (LyP_x hP))]; exact D26 _ hlo
  | true => rw [if_neg (show ¬ bI true = 0 by decide), bd (pr_1 hP), bd (q_gL (LyP_y hP))]; exact D26 _ hlo
def MvP (x l l' : Nat) (K : LK) (mk : Nat → Nat) (B : LB) (n : Nat) (O : OD) (σ0 : mx_S) (k i : Nat) (r : mx_S ⊕ mx_S ⊕ (Int32 × mx_S) ⊕ mx_S) (v : DS × Nat) : Prop :=
  (v.2 = 0 ∧ ∃ τ s1, (r = .inl τ ∨ r = .inr (.inr (.inr τ))) ∧ CD x l l' K mk B n O σ0 s1 τ ∧ v.1 = evD O k s1) ∨
  (v.2 = 2 ∧ ∃ τ, r = .inr (.inl τ) ∧ CD x l l' K mk B n O σ0 v.1 τ) ∨
  (v.2 = 1 ∧ ∃ τ pl', r = .inr (.inr (.inl (q_n (v.1.1 i), τ))) ∧ CD x l l' K mk B n O σ0 (pl', v.1.2) τ ∧ upl pl' i (v.1.1 i) = v.1.1 ∧ v.1.1 i < 1024)
theorem mvD_l : ∀ (t : Nat) (s : DS), (mvD K O k t s).1.2.2.1.length ≤ s.2.2.1.length + 1
  | 0, s => by unfold mvD evD; simp
  | t + 1, s => by
    unfold mvD
    split
    · unfold evD; simp
    · split
      · simp
      · split
        · exact mvD_l t (upD O k s)
        · simp
theorem nx_1024 (u : Bool) (a : Nat) : nx u a < 1024 := by unfold nx; split <;> omega
theorem c_mvL (hf : 3000 ≤ mpN P) (hL : LyL (mxA σ0) (mxR σ0) l) (hp : mpb P ≤ x) (hD : LyO (mxA σ0) (mxR σ0) 2 al2 (x + 120)) (hT : kT K) (hO : DvO n O K) (hk : k < n) (f2 : (O k).1 < 2) : ∀ (t j : Nat) (s : DS) (σ : mx_S) (fu : Nat), j + t = (O k).2.2.1.natAbs → CD x l l' K mk B n O σ0 s σ → t < fu → ∃ r, mx_lp (f_X2_move_L48 P (x + 120) l (q_n k) (q_n (O k).2.1) (if decide (0 ≤ (O k).2.2.1) then 1 else -1)) fu (q_n j, σ) = some r ∧ MvP x l l' K mk B n O σ0 k (O k).2.1 r (mvD K O k t s) := by
  obtain ⟨n40, hO2⟩ := hO
  obtain ⟨o1, o2, o3, -, -⟩ := hO2 k hk
  obtain ⟨a3, b1, b2⟩ := o2 f2
  intro t
  induction t with
  | zero =>
    intro j s σ fu hj h hfu
    have hDσ := CD_D h hD
    have hv := (h.2.1.2 k hk).2.1 f2
    refine ⟨.inr (.inr (.inr σ)), lp_out ?_ hfu, Or.inl ⟨rfl, σ, s, Or.inr rfl, h, rfl⟩⟩
    show f_X2_move_B48 P (x + 120) l (q_n k) (q_n (O k).2.1) _ (q_n j) σ = _
    unfold f_X2_move_B48
    rw [bd (ad_r7 hDσ), bd (ad_g7 hDσ (by omega)), k_abs, k_absT (by rw [hv.2]; omega), hv.2, bd2 rfl, if_pos (by rw [q_nLe (by omega) (by omega)]; omega)]
  | succ t ih =>
    intro j s σ fu hj h hfu
    have hDσ := CD_D h hD
    have hl := (RLc_l h.1).1
    have hk2 := h.2.1.2 k hk
    have hv := hk2.2.1 f2
    -- a step that is made
    have D121 : ∀ τ, CD x l l' K mk B n O σ0 s τ → rcD K O k s = false → ∃ r, (f_X2_move_D121_48 P (x + 120) l (q_n k) (q_n (O k).2.1) (if decide (0 ≤ (O k).2.2.1) then 1 else -1) (q_n j) τ = some r) ∧ ((∃ t', r = .inl t' ∧ ∃ r', mx_lp (f_X2_move_L48 P (x + 120) l (q_n k) (q_n (O k).2.1) (if decide (0 ≤ (O k).2.2.1) then 1 else -1)) (fu - 1) t' = some r' ∧ MvP x l l' K mk B n O σ0 k (O k).2.1 r' (mvD K O k (t + 1) s)) ∨ ∃ r', r = .inr r' ∧ MvP x l l' K mk B n O σ0 k (O k).2.1 r' (mvD K O k (t + 1) s)) := fun τ hτ hnr => by
      have hDτ := CD_D hτ hD
      have hLτ := CD_L hτ hL
      obtain ⟨c1, c2, c3, c4, c5, c6⟩ := id hτ
      unfold f_X2_move_D121_48
      rw [bd (ad_gI hDτ), c3.1]
      have un : mvD K O k (t + 1) s = if s.2.1 = 2000 then (s, 2) else if g_wy K (upD O k s).1 s.2.2.2 = 1 then mvD K O k t (upD O k s) else ((s.1, s.2.1 + 1, s.2.2.1, s.2.2.2), 1) := by
        show (if rcD K O k s then _ else _) = _
        rw [if_neg (by rw [hnr]; decide)]
      by_cases c : s.2.1 = 2000
      · rw [if_pos c] at un
        rw [if_neg (show ¬ q_n s.2.1 < (2000 : Int32) by rw [show (2000 : Int32) = q_n 2000 from rfl, q_nLt (by omega) (by omega)]; omega)]
        exact ⟨_, rfl, Or.inr ⟨_, rfl, Or.inr (Or.inl ⟨by rw [un], τ, rfl, by rw [un]; exact hτ⟩)⟩⟩
      · rw [if_neg c] at un
        have hst : CD x l l' K mk B n O σ0 (s.1, s.2.1 + 1, s.2.2.1, s.2.2.2) (mx_setI τ (x + 120) 0 (q_n (s.2.1 + 1))) := CD_set hT hτ (Or.inl ⟨rfl, by omega⟩) rfl ⟨sI_e, by show s.2.1 + 1 ≤ 2000; omega⟩ (DeC_cg c4 (sI_n (by omega)) fun j => sI_n (by omega)) ⟨(sI_n (by omega)).trans c5.1, c5.2⟩
        obtain ⟨s1, E1⟩ : ∃ s1, s1 = mx_setI τ (x + 120) 0 (q_n (s.2.1 + 1)) := ⟨_, rfl⟩
        rw [← E1] at hst
        have hL1 := CD_L hst hL
        have hpl := (RLc_l hst.1).2 (O k).2.1 (by omega)
        dsimp only at hpl
        obtain ⟨s2, e2, h2⟩ := c_mtD (P := P) (k := nx (decide (0 ≤ (O k).2.2.1)) (s.1 (O k).2.1)) (by omega) hL (by omega) hT hst (show (O k).2.1 < 4 by omega) (nx_1024 _ _)
        have h2' : CD x l l' K mk B n O σ0 (upD O k s) s2 := h2
        have hD2 := CD_D h2' hD
        have hL2 := CD_L h2' hL
        obtain ⟨r3, s3, e3, h3, h3r, -⟩ := c_lkD (P := P) (by omega) hL (by omega) hT h2'
        have w4 : mxI s2 (x + 120) 4 = q_n s.2.2.2 := h2'.2.2.2.2.1.1
        rw [if_pos (show q_n s.2.1 < (2000 : Int32) by rw [show (2000 : Int32) = q_n 2000 from rfl, q_nLt (by omega) (by omega)]; omega), bd (ad_gI hDτ), c3.1, q_nS, bd (ad_pI hDτ (by omega) _), ← E1, bd (al_r4 hL1), bd (al_g4 hL1 (by omega)), hpl.1, bd (al_is hL1), nx_q, bd e2, bd (ad_gI hD2), w4, bd (al_is hL2), bd2 (show f_X7_look P l (q_n s.2.2.2) 1 s2 = some (r3, s3) from e3)]
        by_cases c3' : r3 = 0
        · have hs := h3r.mp c3'
          rw [if_pos (show g_wy K (upD O k s).1 s.2.2.2 = 1 from hs)] at un
          rw [if_pos c3', Option.bind_some, q_nS]
          refine ⟨_, rfl, Or.inl ⟨_, rfl, ?_⟩⟩
          rw [un]
          exact ih (j + 1) (upD O k s) s3 (fu - 1) (by omega) h3 (by omega)
        · have hs : ¬ g_wy K (upD O k s).1 s.2.2.2 = 1 := fun y => c3' (h3r.mpr y)
          rw [if_neg hs] at un
          rw [if_neg c3']
          refine ⟨_, rfl, Or.inr ⟨_, rfl, Or.inr (Or.inr ⟨by rw [un], s3, (upD O k s).1, by rw [un], by rw [un]; exact h3, ?_, by rw [un]; exact hpl.2⟩)⟩⟩
          rw [un]
          funext q
          show (if q = (O k).2.1 then s.1 (O k).2.1 else if q = (O k).2.1 then _ else s.1 q) = s.1 q
          by_cases eq : q = (O k).2.1
          · rw [if_pos eq, eq]
          · rw [if_neg eq, if_neg eq]
    have fin : ∀ τ, CD x l l' K mk B n O σ0 s τ → rcD K O k s = false → f_X2_move_B48 P (x + 120) l (q_n k) (q_n (O k).2.1) (if decide (0 ≤ (O k).2.2.1) then 1 else -1) (q_n j) σ = f_X2_move_D121_48 P (x + 120) l (q_n k) (q_n (O k).2.1) (if decide (0 ≤ (O k).2.2.1) then 1 else -1) (q_n j) τ → ∃ r, mx_lp (f_X2_move_L48 P (x + 120) l (q_n k) (q_n (O k).2.1) (if decide (0 ≤ (O k).2.2.1) then 1 else -1)) fu (q_n j, σ) = some r ∧ MvP x l l' K mk B n O σ0 k (O k).2.1 r (mvD K O k (t + 1) s) := fun τ hτ hnr he => by
      obtain ⟨r, e1, e2⟩ := D121 τ hτ hnr
      rcases e2 with ⟨t', rfl, r', e3, e4⟩ | ⟨r', rfl, e4⟩
      · refine ⟨r', ?_, e4⟩
        rw [mx_lp_s (show f_X2_move_L48 P (x + 120) l (q_n k) (q_n (O k).2.1) (if decide (0 ≤ (O k).2.2.1) then 1 else -1) (q_n j, σ) = some (.inl t') from he.trans e1) (by omega)]
        exact e3
      · exact ⟨r', lp_out (show f_X2_move_L48 P (x + 120) l (q_n k) (q_n (O k).2.1) (if decide (0 ≤ (O k).2.2.1) then 1 else -1) (q_n j, σ) = some (.inr r') from he.trans e1) (by omega), e4⟩
    have head : f_X2_move_B48 P (x + 120) l (q_n k) (q_n (O k).2.1) (if decide (0 ≤ (O k).2.2.1) then 1 else -1) (q_n j) σ = (if q_n (O k).1 = (1 : Int32) then mx_b2 (f_X7_look P l (q_n s.2.2.2) (1 : Int32) σ) fun x75 σ74 => (if x75 = 0 then f_X2_move_D89_48 P (x + 120) l (q_n k) (q_n (O k).2.1) (if decide (0 ≤ (O k).2.2.1) then 1 else -1) (q_n j) (1 : Int32) σ74 else f_X2_move_D88_48 P (x + 120) l (q_n k) (q_n (O k).2.1) (if decide (0 ≤ (O k).2.2.1) then 1 else -1) (q_n j) σ74) else f_X2_move_D88_48 P (x + 120) l (q_n k) (q_n (O k).2.1) (if decide (0 ≤ (O k).2.2.1) then 1 else -1) (q_n j) σ) := by
      unfold f_X2_move_B48
      rw [bd (ad_r7 hDσ), bd (ad_g7 hDσ (by omega)), k_abs, k_absT (by rw [hv.2]; omega), hv.2, bd2 rfl, if_neg (by rw [q_nLe (by omega) (by omega)]; omega), bd (ad_r5 hDσ), bd (ad_g5 hDσ (by omega)), hk2.1, bd (ad_gI hDσ), h.2.2.2.2.1.1, bd (al_is (CD_L h hL))]
    by_cases f1 : (O k).1 = 1
    · rw [if_pos (show q_n (O k).1 = (1 : Int32) by rw [f1]; rfl)] at head
      obtain ⟨r3, s3, e3, h3, h3r, h3v⟩ := c_lkD (P := P) (by omega) hL (by omega) hT h
      rw [bd2 e3] at head
      have hD3 := CD_D h3 hD
      have hL3 := CD_L h3 hL
      by_cases c3 : r3 = 0
      · rw [if_pos c3] at head
        have hc := o3 f1
        have hn := hT.1
        obtain ⟨v1, v2⟩ := h3v c3 (O k).2.2.2.1 (O k).2.2.2.2.1 hc
        obtain ⟨q5, q6, q7⟩ := (h3.2.1.2 k hk).2.2.2 f1
        obtain ⟨ya, -, -, -, pa, -, -⟩ := jx_of hL3 (show (O k).2.2.2.1 < 40 by omega)
        have hr := c_rcD (P := P) hD3 pa.1 (show k < 40 by omega) q6 q7 v1
        have e89 : f_X2_move_D89_48 P (x + 120) l (q_n k) (q_n (O k).2.1) (if decide (0 ≤ (O k).2.2.1) then 1 else -1) (q_n j) (1 : Int32) s3 = (if bI (decide ((O k).2.2.2.2.2 < b_sd false (v_ax (O k).2.2.2.2.1 (s_S K s.1 s.2.2.2 (O k).2.2.2.1).2))) = 0 then f_X2_move_D121_48 P (x + 120) l (q_n k) (q_n (O k).2.1) (if decide (0 ≤ (O k).2.2.1) then 1 else -1) (q_n j) s3 else some (.inr (.inl s3))) := by
          unfold f_X2_move_D89_48
          rw [if_neg (by decide), bd (al_r0 hL3), bd (ad_r8 hD3), bd (ad_g8 hD3 (by omega)), q5, bd (al_j hL3 (by omega)), bd ((q_gR (LyJ_o ya)).trans (LyJ_r12 ya)), bd (ad_is hD3), bd2 hr]
        rw [e89] at head
        by_cases lt : (O k).2.2.2.2.2 < b_sd false (v_ax (O k).2.2.2.2.1 (s_S K s.1 s.2.2.2 (O k).2.2.2.1).2)
        · have rc : rcD K O k s = true := decide_eq_true ⟨f1, h3r.mp c3, lt⟩
          rw [decide_eq_true lt, if_neg (show ¬ bI true = 0 by decide)] at head
          have un : mvD K O k (t + 1) s = (evD O k s, 0) := by
            show (if rcD K O k s then _ else _) = _
            rw [if_pos rc]
          exact ⟨.inl s3, lp_out head (by omega), Or.inl ⟨by rw [un], s3, s, Or.inl rfl, h3, by rw [un]⟩⟩
        · have rc : rcD K O k s = false := decide_eq_false fun y => lt y.2.2
          rw [decide_eq_false lt, if_pos (show bI false = 0 by decide)] at head
          exact fin s3 h3 rc head
      · rw [if_neg c3] at head
        have rc : rcD K O k s = false := decide_eq_false fun y => c3 (h3r.mpr y.2.1)
        refine fin s3 h3 rc (head.trans ?_)
        unfold f_X2_move_D88_48 f_X2_move_D89_48
        rw [if_pos rfl]
    · rw [if_neg (show ¬ q_n (O k).1 = (1 : Int32) from fun y => f1 ((q_nI (l := 1) (by omega) (by omega)).mp y))] at head
      have rc : rcD K O k s = false := decide_eq_false fun y => f1 y.1
      refine fin σ h rc (head.trans ?_)
      unfold f_X2_move_D88_48 f_X2_move_D89_48
      rw [if_pos rfl]
/-- one order -/
def doD (K : LK) (O : OD) (k : Nat) (s : DS) : DS × Nat := if (O k).1 = 3 then ((s.1, s.2.1, s.2.2.1, (O k).2.1), 0) else if (O k).1 = 2 then (s, 0) else mvD K O k (O k).2.2.1.natAbs s
theorem doD_l : (doD K O k s).1.2.2.1.length ≤ s.2.2.1.length + 1 := by
  unfold doD
  split
  · simp
  · split
    · simp
    · exact mvD_l _ _
theorem c_mov (hf : 3000 ≤ mpN P) (hL : LyL (mxA σ0) (mxR σ0) l) (hp : mpb P ≤ x) (hD : LyO (mxA σ0) (mxR σ0) 2 al2 (x + 120)) (hT : kT K) (hO : DvO n O K) (hk : k < n) (f2 : (O k).1 ≠ 2) (h : CD x l l' K mk B n O σ0 s σ) (hev : s.2.2.1.length < 900000) : ∃ τ, f_X2_move P (x + 120) l (q_n k) σ = some (q_n (doD K O k s).2, τ) ∧ CD x l l' K mk B n O σ0 (doD K O k s).1 τ := by
  obtain ⟨n40, hO2⟩ := id hO
  obtain ⟨o1, o2, o3, o4, o5⟩ := hO2 k hk
  have hDσ := CD_D h hD
  obtain ⟨c1, c2, c3, c4⟩ := h.2.1.2 k hk
  obtain ⟨d1, d2, d3, d4, d5, d6⟩ := id h
  have hl := (RLc_l d1).1
  unfold f_X2_move
  rw [bd (ad_r5 hDσ), bd (ad_g5 hDσ (by omega)), c1]
  by_cases f3 : (O k).1 = 3
  · rw [if_pos (show q_n (O k).1 = (3 : Int32) by rw [f3]; rfl), bd (ad_r7 hDσ), bd (ad_g7 hDσ (by omega)), c3 (by omega), bd (ad_pI hDσ (by omega) _)]
    have un : doD K O k s = ((s.1, s.2.1, s.2.2.1, (O k).2.1), 0) := by unfold doD; rw [if_pos f3]
    rw [un]
    have := o5 f3
    exact ⟨_, rfl, CD_set hT h (Or.inl ⟨rfl, by omega⟩) rfl ⟨(sI_n (by omega)).trans d3.1, d3.2⟩ (DeC_cg d4 (sI_n (by omega)) fun j => sI_n (by omega)) ⟨sI_e, by show (O k).2.1 < 256; omega⟩⟩
  · have f2' : (O k).1 < 2 := by omega
    have un : doD K O k s = mvD K O k (O k).2.2.1.natAbs s := by unfold doD; rw [if_neg f3, if_neg f2]
    rw [un]
    obtain ⟨a3, b1, b2⟩ := o2 f2'
    obtain ⟨e1, e2⟩ := c2 f2'
    obtain ⟨r, er, hr⟩ := c_mvL (P := P) hf hL hp hD hT hO hk f2' (O k).2.2.1.natAbs 0 s σ (mpN P) (by omega) h (by omega)
    have d192 : ∀ τ s1, CD x l l' K mk B n O σ0 s1 τ → s1.2.2.1.length < 1000000 → ∃ τ', f_X2_move_D192 P (x + 120) l (q_n k) (q_n (O k).2.1) τ = some (q_n 0, τ') ∧ CD x l l' K mk B n O σ0 (evD O k s1) τ' := fun τ s1 hτ hlen => by
      have hLτ := CD_L hτ hL
      have hDτ := CD_D hτ hD
      have hpl := (RLc_l hτ.1).2 (O k).2.1 (by omega)
      obtain ⟨τ', e, h'⟩ := c_keD (P := P) (k := k) hD (by omega) hT hτ hlen
      refine ⟨τ', ?_, h'⟩
      unfold f_X2_move_D192
      rw [bd (al_r4 hLτ), bd (al_g4 hLτ (by omega)), hpl.1, bd (ad_is hDτ), bd e]
      rfl
    have body : ∀ u : Int32, u = (if decide (0 ≤ (O k).2.2.1) then 1 else -1) → ∃ τ, f_X2_move_D43 P (x + 120) l (q_n k) (q_n (O k).2.1) u σ = some (q_n (mvD K O k (O k).2.2.1.natAbs s).2, τ) ∧ CD x l l' K mk B n O σ0 (mvD K O k (O k).2.2.1.natAbs s).1 τ := fun u hu => by
      unfold f_X2_move_D43
      rw [hu, show (0 : Int32) = q_n 0 from rfl, bd er]
      have hln := mvD_l (K := K) (O := O) (k := k) (O k).2.2.1.natAbs s
      rcases hr with ⟨h0, τ, s1, hrr, hc, hs⟩ | ⟨h0, τ, rfl, hc⟩ | ⟨h0, τ, pl', rfl, hc, hu2, h4⟩
      · have hlen : s1.2.2.1.length < 1000000 := by
          rw [hs] at hln
          unfold evD at hln
          dsimp only at hln
          rw [List.length_append] at hln
          omega
        obtain ⟨τ', e', h'⟩ := d192 τ s1 hc hlen
        rw [h0, hs]
        refine ⟨τ', ?_, h'⟩
        rcases hrr with rfl | rfl
        · exact e'
        · exact e'
      · rw [h0]
        exact ⟨τ, rfl, hc⟩
      · rw [h0]
        have hLτ := CD_L hc hL
        obtain ⟨τ', e', h'⟩ := c_mtD (P := P) (by omega) hL (by omega) hT hc (show (O k).2.1 < 4 by omega) h4
        dsimp only at h'
        rw [hu2] at h'
        refine ⟨τ', ?_, h'⟩
        show (mx_is τ l 7).bind _ = _
        rw [bd (al_is hLτ), bd e']
        rfl
    rw [if_neg (show ¬ q_n (O k).1 = (3 : Int32) from fun y => f3 ((q_nI (l := 3) (by omega) (by omega)).mp y)), bd (ad_r6 hDσ), bd (ad_g6 hDσ (by omega)), e1, bd (ad_r7 hDσ), bd (ad_g7 hDσ (by omega))]
    by_cases b0 : 0 ≤ (O k).2.2.1
    · rw [if_pos (show 0 ≤ mxI σ (x + 120 + 4) k by rw [q_le, q_i0, e2]; exact b0)]
      exact body 1 (by rw [decide_eq_true b0, if_pos rfl])
    · rw [if_neg (show ¬ 0 ≤ mxI σ (x + 120 + 4) k by rw [q_le, q_i0, e2]; exact b0)]
      exact body (-1) (by rw [decide_eq_false b0, if_neg (by decide)])
end LGS
