/-! ===== lh: drives, the class's run ===== -/
section LHS
variable {M : BV} {P : mx_P} {σ σ0 σ1 τ : mx_S} {x l l' n k i w t j a : Nat} {K : LK} {mk pl pl' : Nat → Nat} {B : LB} {O : OD} {s : DS}
/-- orders one after the other, until one is barred or tired -/
def runL (K : LK) (O : OD) : List Nat → DS → DS × Nat
  | [], s => (s, 0)
  | k :: ks, s => if (doD K O k s).2 = 0 then runL K O ks (doD K O k s).1 else doD K O k s
/-- the orders from k on, a the beginning of the block -/
def flD (O : OD) (n : Nat) : Nat → Nat → Nat → List Nat
  | 0, _, _ => []
  | f + 1, a, k => if k < n then (if (O k).1 = 2 then (List.replicate (O k).2.1 (List.range' a (k - a))).flatten ++ flD O n f (k + 1) (k + 1) else k :: flD O n f a (k + 1)) else []
/-- how many deeds that is -/
def cA (O : OD) (n : Nat) : Nat → Nat → Nat → Nat
  | 0, _, _ => 0
  | f + 1, a, k => if k < n then (if (O k).1 = 2 then 1 + (O k).2.1 * (k - a + 1) + cA O n f (k + 1) (k + 1) else 1 + cA O n f a (k + 1)) else 0
theorem cA_b (hO : DvO n O K) : ∀ f a k, a ≤ k → k + f = n → cA O n f a k ≤ 10 * f + 9 * (k - a)
  | 0, a, k, _, _ => by unfold cA; omega
  | f + 1, a, k, ha, hk => by
    unfold cA
    rw [if_pos (by omega)]
    split
    · rename_i f2
      have h1 := ((hO.2 k (by omega)).2.2.2.1 f2).2
      have := cA_b hO f (k + 1) (k + 1) (Nat.le_refl _) (by omega)
      have h2 := Nat.mul_le_mul_right (k - a + 1) h1
      omega
    · have := cA_b hO f a (k + 1) (by omega) (by omega)
      omega
theorem mvD_h : ∀ (t : Nat) (s : DS), (mvD K O k t s).2 < 100
  | 0, s => by unfold mvD; show 0 < 100; omega
  | t + 1, s => by
    unfold mvD
    by_cases c1 : rcD K O k s = true
    · rw [if_pos c1]; show 0 < 100; omega
    · rw [if_neg c1]
      by_cases c2 : s.2.1 = 2000
      · rw [if_pos c2]; show 2 < 100; omega
      · rw [if_neg c2]
        by_cases c3 : g_wy K (upD O k s).1 s.2.2.2 = 1
        · rw [if_pos c3]; exact mvD_h t _
        · rw [if_neg c3]; show 1 < 100; omega
theorem doD_h : (doD K O k s).2 < 100 := by
  unfold doD
  by_cases c1 : (O k).1 = 3
  · rw [if_pos c1]; show 0 < 100; omega
  · rw [if_neg c1]
    by_cases c2 : (O k).1 = 2
    · rw [if_pos c2]; show 0 < 100; omega
    · rw [if_neg c2]; exact mvD_h _ _
theorem c_runL (hf : 3000 ≤ mpN P) (hL : LyL (mxA σ0) (mxR σ0) l) (hp : mpb P ≤ x) (hD : LyO (mxA σ0) (mxR σ0) 2 al2 (x + 120)) (hT : kT K) (hO : DvO n O K) : ∀ N : Nat,
    (∀ f a k s σ dd fu, k + f = n → a ≤ k → (∀ j, a ≤ j → j < k → (O j).1 ≠ 2) → cA O n f a k ≤ N → dd + N ≤ 990 → N < fu → s.2.2.1.length + N < 900000 → CD x l l' K mk B n O σ0 s σ → ∃ τ, mx_lp (f_X2_run_L28 P (x + 120) l) fu ((0 : Int32), q_n a, (-1 : Int32), q_n k, q_n dd, σ) = some (q_n (runL K O (flD O n f a k) s).2, τ) ∧ CD x l l' K mk B n O σ0 (runL K O (flD O n f a k) s).1 τ) ∧
    (∀ f a r m k s σ dd fu, k + 1 + f = n → m ≤ k - a → a ≤ k → (∀ j, a ≤ j → j < k → (O j).1 ≠ 2) → (O k).1 = 2 → m + 1 + r * (k - a + 1) + cA O n f (k + 1) (k + 1) ≤ N → r < 10 → dd + N ≤ 990 → N < fu → s.2.2.1.length + N < 900000 → CD x l l' K mk B n O σ0 s σ → ∃ τ, mx_lp (f_X2_run_L28 P (x + 120) l) fu ((0 : Int32), q_n a, q_n r, q_n (k - m), q_n dd, σ) = some (q_n (runL K O (List.range' (k - m) m ++ ((List.replicate r (List.range' a (k - a))).flatten ++ flD O n f (k + 1) (k + 1))) s).2, τ) ∧ CD x l l' K mk B n O σ0 (runL K O (List.range' (k - m) m ++ ((List.replicate r (List.range' a (k - a))).flatten ++ flD O n f (k + 1) (k + 1))) s).1 τ) := by
  have n40 := hO.1
  -- the end of the loop
  have stop : ∀ (h : Nat) a b k dd σ s fu, 0 < fu → dd < 2000 → k < 2000 → CD x l l' K mk B n O σ0 s σ → (n ≤ k ∨ 0 < h) → h < 100 → mx_lp (f_X2_run_L28 P (x + 120) l) fu (q_n h, a, b, q_n k, q_n dd, σ) = some (q_n h, σ) := fun h a b k dd σ s fu hfu hdd hkk hc ho hh => by
    have hDσ := CD_D hc hD
    refine lp_out ?_ hfu
    show f_X2_run_B28 P (x + 120) l (q_n h) a b (q_n k) (q_n dd) σ = _
    unfold f_X2_run_B28
    by_cases d1 : (1000 : Int32) ≤ q_n dd
    · rw [if_pos d1]
    · rw [if_neg d1, bd (ad_gI hDσ), hc.2.1.1]
      by_cases d2 : q_n n ≤ q_n k
      · rw [if_pos d2]
      · rw [if_neg d2]
        rcases ho with ho | ho
        · exact absurd ((q_nLe (by omega) (by omega)).mpr ho) d2
        · rw [if_neg (show ¬ q_n h = 0 from fun y => by have := (q_nI (k := h) (l := 0) (by omega) (by omega)).mp y; omega)]
  -- the head of a deed
  have head : ∀ a b k dd σ s, dd < 990 → k < n → CD x l l' K mk B n O σ0 s σ → f_X2_run_L28 P (x + 120) l ((0 : Int32), a, b, q_n k, q_n dd, σ) = (if q_n (O k).1 = (2 : Int32) then (if 0 ≤ b then f_X2_run_D91_28 P (x + 120) l 0 a (q_n k) (q_n dd) b σ else f_X2_run_D91_28 P (x + 120) l 0 a (q_n k) (q_n dd) (mxI σ (x + 120 + 4) k) σ) else mx_b2 (f_X2_move P (x + 120) l (q_n k) σ) fun x32 σ31 => (some (q_n k + (1 : Int32))).bind fun x34 => f_X2_run_D116_28 P (x + 120) l x32 a b x34 (q_n dd) σ31) := fun a b k dd σ s hdd hk hc => by
    have hDσ := CD_D hc hD
    show f_X2_run_B28 P (x + 120) l 0 a b (q_n k) (q_n dd) σ = _
    unfold f_X2_run_B28
    rw [if_neg (show ¬ (1000 : Int32) ≤ q_n dd by rw [show (1000 : Int32) = q_n 1000 from rfl, q_nLe (by omega) (by omega)]; omega), bd (ad_gI hDσ), hc.2.1.1, if_neg (qn_ge hk (by omega)), if_pos rfl, bd (ad_r5 hDσ), bd (ad_g5 hDσ (by omega)), (hc.2.1.2 k hk).1, bd (ad_r7 hDσ), bd (ad_g7 hDσ (by omega)), bd (ad_is hDσ)]
  have fm2 : ∀ k, k < n → (q_n (O k).1 = (2 : Int32) ↔ (O k).1 = 2) := fun k hk => by
    have := (hO.2 k hk).1
    exact q_nI (l := 2) (by omega) (by omega)
  -- an order that is no again
  have one : ∀ a b k dd σ s fu ks, dd < 990 → 1 < fu → k < n → (O k).1 ≠ 2 → s.2.2.1.length < 900000 → CD x l l' K mk B n O σ0 s σ → (∀ σ' s', CD x l l' K mk B n O σ0 s' σ' → s'.2.2.1.length ≤ s.2.2.1.length + 1 → ∃ τ, mx_lp (f_X2_run_L28 P (x + 120) l) (fu - 1) ((0 : Int32), a, b, q_n (k + 1), q_n (dd + 1), σ') = some (q_n (runL K O ks s').2, τ) ∧ CD x l l' K mk B n O σ0 (runL K O ks s').1 τ) → ∃ τ, mx_lp (f_X2_run_L28 P (x + 120) l) fu ((0 : Int32), a, b, q_n k, q_n dd, σ) = some (q_n (runL K O (k :: ks) s).2, τ) ∧ CD x l l' K mk B n O σ0 (runL K O (k :: ks) s).1 τ := fun a b k dd σ s fu ks hdd hfu hk f2 hlen hc next => by
    obtain ⟨σ', e1, h1⟩ := c_mov (P := P) hf hL hp hD hT hO hk f2 hc hlen
    have hst : f_X2_run_L28 P (x + 120) l ((0 : Int32), a, b, q_n k, q_n dd, σ) = some (.inl (q_n (doD K O k s).2, a, b, q_n (k + 1), q_n (dd + 1), σ')) := by
      rw [head a b k dd σ s hdd hk hc, if_neg (fun y => f2 ((fm2 k hk).mp y)), bd2 e1, Option.bind_some]
      unfold f_X2_run_D116_28
      rw [Option.bind_some, q_nS, q_nS]
    rw [mx_lp_s hst (by omega)]
    by_cases h0 : (doD K O k s).2 = 0
    · have un : runL K O (k :: ks) s = runL K O ks (doD K O k s).1 := by
        show (if _ then _ else _) = _
        rw [if_pos h0]
      rw [un, h0]
      exact next σ' _ h1 doD_l
    · have un : runL K O (k :: ks) s = doD K O k s := by
        show (if _ then _ else _) = _
        rw [if_neg h0]
      rw [un]
      have h3 : (doD K O k s).2 < 100 := doD_h
      exact ⟨σ', stop _ a b (k + 1) (dd + 1) σ' _ (fu - 1) (by omega) (by omega) (by omega) h1 (Or.inr (by omega)) h3, h1⟩
  intro N
  induction N with
  | zero =>
    refine ⟨fun f a k s σ dd fu hk ha hna hc hdd hfu hlen h => ?_, fun f a r m k s σ dd fu hk hm ha hna h2 hc => by omega⟩
    cases f with
    | zero =>
      refine ⟨σ, ?_, h⟩
      exact stop 0 _ _ k dd σ s fu (by omega) (by omega) (by omega) h (Or.inl (by omega)) (by omega)
    | succ f =>
      unfold cA at hc
      rw [if_pos (by omega)] at hc
      split at hc <;> omega
  | succ N ih =>
    obtain ⟨ihA, ihB⟩ := ih
    refine ⟨fun f a k s σ dd fu hk ha hna hc hdd hfu hlen h => ?_, fun f a r m k s σ dd fu hk hm ha hna h2 hc hr hdd hfu hlen h => ?_⟩
    · cases f with
      | zero =>
        refine ⟨σ, ?_, h⟩
        exact stop 0 _ _ k dd σ s fu (by omega) (by omega) (by omega) h (Or.inl (by omega)) (by omega)
      | succ f =>
        have hkn : k < n := by omega
        by_cases f2 : (O k).1 = 2
        · have hA := (hO.2 k hkn).2.2.2.1 f2
          have cv : mxI σ (x + 120 + 4) k = q_n (O k).2.1 := (h.2.1.2 k hkn).2.2.1 (by omega)
          have hc' : 1 + (O k).2.1 * (k - a + 1) + cA O n f (k + 1) (k + 1) ≤ N + 1 := by
            have hc2 : (if k < n then (if (O k).1 = 2 then 1 + (O k).2.1 * (k - a + 1) + cA O n f (k + 1) (k + 1) else 1 + cA O n f a (k + 1)) else 0) ≤ N + 1 := hc
            rw [if_pos hkn, if_pos f2] at hc2
            exact hc2
          obtain ⟨r, hr⟩ : ∃ r, (O k).2.1 = r + 1 := ⟨(O k).2.1 - 1, by omega⟩
          have un : flD O n (f + 1) a k = List.range' (k - (k - a)) (k - a) ++ ((List.replicate r (List.range' a (k - a))).flatten ++ flD O n f (k + 1) (k + 1)) := by
            show (if k < n then (if (O k).1 = 2 then _ else _) else _) = _
            rw [if_pos hkn, if_pos f2, hr, List.replicate_succ, List.flatten_cons, List.append_assoc, show k - (k - a) = a by omega]
          rw [un]
          have hst : f_X2_run_L28 P (x + 120) l ((0 : Int32), q_n a, (-1 : Int32), q_n k, q_n dd, σ) = some (.inl ((0 : Int32), q_n a, q_n r, q_n a, q_n (dd + 1), σ)) := by
            rw [head _ _ k dd σ s (by omega) hkn h, if_pos ((fm2 k hkn).mpr f2), if_neg (by decide), cv]
            unfold f_X2_run_D91_28 f_X2_run_D116_28
            rw [if_neg (show ¬ q_n (O k).2.1 ≤ 0 from fun y => by have := (q_nLe (k := (O k).2.1) (l := 0) (by omega) (by omega)).mp y; omega), Option.bind_some, Option.bind_some, q_nS, hr, show q_n (r + 1) + (-1 : Int32) = q_n r by rw [← q_nS, Int32.add_assoc, show (1 : Int32) + -1 = 0 by decide, Int32.add_zero]]
          rw [mx_lp_s hst (by omega)]
          have := ihB f a r (k - a) k s σ (dd + 1) (fu - 1) (by omega) (Nat.le_refl _) ha hna f2 (by rw [hr, Nat.succ_mul] at hc'; omega) (by omega) (by omega) (by omega) (by omega) h
          rw [show k - (k - a) = a by omega] at this ⊢
          exact this
        · have un : flD O n (f + 1) a k = k :: flD O n f a (k + 1) := by
            show (if k < n then (if (O k).1 = 2 then _ else _) else _) = _
            rw [if_pos hkn, if_neg f2]
          have hc' : 1 + cA O n f a (k + 1) ≤ N + 1 := by
            have hc2 : (if k < n then (if (O k).1 = 2 then 1 + (O k).2.1 * (k - a + 1) + cA O n f (k + 1) (k + 1) else 1 + cA O n f a (k + 1)) else 0) ≤ N + 1 := hc
            rw [if_pos hkn, if_neg f2] at hc2
            exact hc2
          rw [un]
          refine one _ _ k dd σ s fu _ (by omega) (by omega) hkn f2 (by omega) h fun σ' s' h' hl' => ?_
          exact ihA f a (k + 1) s' σ' (dd + 1) (fu - 1) (by omega) (by omega) (fun j j1 j2 => by
            by_cases ej : j = k
            · rw [ej]; exact f2
            · exact hna j j1 (by omega)) (by omega) (by omega) (by omega) (by omega) h'
    · cases m with
      | zero =>
        have hkn : k < n := by omega
        show ∃ τ, mx_lp (f_X2_run_L28 P (x + 120) l) fu ((0 : Int32), q_n a, q_n r, q_n k, q_n dd, σ) = some (q_n (runL K O ((List.replicate r (List.range' a (k - a))).flatten ++ flD O n f (k + 1) (k + 1)) s).2, τ) ∧ CD x l l' K mk B n O σ0 (runL K O ((List.replicate r (List.range' a (k - a))).flatten ++ flD O n f (k + 1) (k + 1)) s).1 τ
        have r0 : (0 : Int32) ≤ q_n r := by rw [q_le, q_i0, q_nT (by omega)]; omega
        cases r with
        | zero =>
          have hst : f_X2_run_L28 P (x + 120) l ((0 : Int32), q_n a, q_n 0, q_n k, q_n dd, σ) = some (.inl ((0 : Int32), q_n (k + 1), (-1 : Int32), q_n (k + 1), q_n (dd + 1), σ)) := by
            rw [head _ _ k dd σ s (by omega) hkn h, if_pos ((fm2 k hkn).mpr h2), if_pos r0]
            unfold f_X2_run_D91_28 f_X2_run_D116_28
            rw [if_pos (show q_n 0 ≤ 0 by decide), Option.bind_some, Option.bind_some, q_nS, q_nS]
          rw [mx_lp_s hst (by omega)]
          exact ihA f (k + 1) (k + 1) s σ (dd + 1) (fu - 1) (by omega) (Nat.le_refl _) (fun j j1 j2 => by omega) (by omega) (by omega) (by omega) (by omega) h
        | succ r =>
          have hst : f_X2_run_L28 P (x + 120) l ((0 : Int32), q_n a, q_n (r + 1), q_n k, q_n dd, σ) = some (.inl ((0 : Int32), q_n a, q_n r, q_n a, q_n (dd + 1), σ)) := by
            rw [head _ _ k dd σ s (by omega) hkn h, if_pos ((fm2 k hkn).mpr h2), if_pos r0]
            unfold f_X2_run_D91_28 f_X2_run_D116_28
            rw [if_neg (show ¬ q_n (r + 1) ≤ 0 from fun y => by have := (q_nLe (k := r + 1) (l := 0) (by omega) (by omega)).mp y; omega), Option.bind_some, Option.bind_some, q_nS, show q_n (r + 1) + (-1 : Int32) = q_n r by rw [← q_nS, Int32.add_assoc, show (1 : Int32) + -1 = 0 by decide, Int32.add_zero]]
          rw [mx_lp_s hst (by omega)]
          have := ihB f a r (k - a) k s σ (dd + 1) (fu - 1) (by omega) (Nat.le_refl _) ha hna h2 (by rw [Nat.succ_mul] at hc; omega) (by omega) (by omega) (by omega) (by omega) h
          rw [show k - (k - a) = a by omega] at this
          rw [List.replicate_succ, List.flatten_cons, List.append_assoc]
          exact this
      | succ m =>
        have hkn : k - (m + 1) < n := by omega
        have f2 := hna (k - (m + 1)) (by omega) (by omega)
        rw [List.range'_succ, List.cons_append]
        refine one _ _ (k - (m + 1)) dd σ s fu _ (by omega) (by omega) hkn f2 (by omega) h fun σ' s' h' hl' => ?_
        have := ihB f a r m k s' σ' (dd + 1) (fu - 1) hk (by omega) ha hna h2 (by omega) hr (by omega) (by omega) (by omega) h'
        rw [show k - m = k - (m + 1) + 1 by omega] at this
        exact this
theorem c_run (hf : 5000 ≤ mpN P) (hL : LyL (mxA σ) (mxR σ) l) (hp : mpb P ≤ x) (hD : LyO (mxA σ) (mxR σ) 2 al2 (x + 120)) (hT : kT K) (hO : DvO n O K) (h1 : RLc x l l' K mk pl B σ) (h2 : DvC σ (x + 120) n O) : ∃ τ, f_X2_run P (x + 120) l σ = some (q_n (runL K O (flD O n n 0 0) (pl, 0, [], 0)).2, τ) ∧ CD x l l' K mk B n O σ (runL K O (flD O n n 0 0) (pl, 0, [], 0)).1 τ := by
  obtain ⟨s1, E1⟩ : ∃ s1, s1 = mx_setI σ (x + 120) 0 0 := ⟨_, rfl⟩
  obtain ⟨s2, E2⟩ : ∃ s2, s2 = mx_setI s1 (x + 120) 1 0 := ⟨_, rfl⟩
  obtain ⟨s3, E3⟩ : ∃ s3, s3 = mx_setI s2 (x + 120) 4 0 := ⟨_, rfl⟩
  have D1 : LyO (mxA s1) (mxR s1) 2 al2 (x + 120) := by rw [E1]; exact hD
  have D2 : LyO (mxA s2) (mxR s2) 2 al2 (x + 120) := by rw [E2]; exact D1
  have f3 : Fz (dvF x) σ s3 := by rw [E3, E2, E1]; exact ((Fz.rf.sI (Or.inr (by omega)) _).sI (Or.inr (by omega)) _).sI (Or.inr (by omega)) _
  have c3 : ∀ q j, q ≠ x + 120 ∨ j = 3 → mxI s3 q j = mxI σ q j := fun q j hq => by rw [E3, sI_n (by omega), E2, sI_n (by omega), E1, sI_n (by omega)]
  have cl : ∀ q j, mxL s3 q j = mxL σ q j := fun q j => by rw [E3, E2, E1]; rfl
  have hc : CD x l l' K mk B n O σ (pl, 0, [], 0) s3 := by
    refine ⟨RLc_rg hT h1 f3.1 f3.2.1 (fun q j z1 z2 => c3 q j (by omega)) (fun q j z1 z2 => cl q j), DvC_cg h2 (fun q j hq h3 h1 => ⟨c3 q j (by omega), cl q j⟩), ⟨?_, Nat.zero_le _⟩, ⟨?_, fun j e hj he => by cases he⟩, ⟨?_, by show 0 < 256; omega⟩, f3⟩
    · rw [E3, sI_n (by omega), E2, sI_n (by omega), E1, sI_e]; rfl
    · rw [E3, sI_n (by omega), E2, sI_e]; rfl
    · rw [E3, sI_e]; rfl
  have hcb := cA_b hO n 0 0 (Nat.le_refl _) (by omega)
  have n40 := hO.1
  obtain ⟨τ, e, hτ⟩ := (c_runL (P := P) (by omega) hL hp hD hT hO 900).1 n 0 0 (pl, 0, [], 0) s3 0 (mpN P) (by omega) (Nat.le_refl _) (fun j j1 j2 => by omega) (by omega) (by omega) (by omega) (by show 0 + 900 < 900000; omega) hc
  refine ⟨τ, ?_, hτ⟩
  unfold f_X2_run f_X2_run_D122
  rw [bd (ad_pI hD (by omega) _), ← E1, bd (ad_pI D1 (by omega) _), ← E2, bd (ad_pI D2 (by omega) _), ← E3]
  rw [bd (show mx_lp (f_X2_run_L28 P (x + 120) l) (mpN P) ((0 : Int32), (0 : Int32), (-1 : Int32), (0 : Int32), (0 : Int32), s3) = some (q_n (runL K O (flD O n n 0 0) (pl, 0, [], 0)).2, τ) from e)]
end LHS
