/-! ===== ly: the class writes all rows; outcome ===== -/
section LYS
variable {P : mx_P} {σ σ0 σ1 τ : mx_S} {g r k n s a j b x l N m : Nat} {π : Nat → Nat} {pv : Nat → Int32} {M M' : MT} {R R' : Nat → Int × Int} {w z : Int × Int} {S : Nat → Nat → Prop} {u v : Int64} {gs : List (Nat × Nat)} {ms : List (Nat × Nat × Bool × Int32)} {sh : Nat → Nat × Int32 × Int32}
theorem sg64 {c : Bool} {y : Nat} (hy : y ≤ 2000) : B64 ((if c = true then (-1 : Int32) else 1).toInt64 * (q_n y).toInt64) (gsg c y) 2000 := by
  rw [q_nL (by omega)]
  have h1 : B64 (l_n y) (y : Int) 2000 := ⟨l_nT (by omega), by omega⟩
  unfold gsg
  cases c with
  | true =>
    have h2 : B64 ((-1 : Int32).toInt64) (-1) 1 := ⟨by decide, by decide⟩
    have := b64M h2 h1 (by omega)
    rw [if_pos rfl, if_pos rfl]
    exact ⟨this.1.trans (by omega), by omega⟩
  | false =>
    have h2 : B64 ((1 : Int32).toInt64) 1 1 := ⟨by decide, by decide⟩
    have := b64M h2 h1 (by omega)
    rw [if_neg (by simp), if_neg (by simp)]
    exact ⟨this.1.trans (by omega), by omega⟩
theorem CGp.tt (h : CGp σ0 σ g π n N pv M) (hr : r < 32) : ma_R σ (g + 8) 7 (q_n r) = some (g + 9 + π r) := cg_t h.2.1 h.2.2.1 hr
theorem CGp.T (h : CGp σ0 σ g π n N pv M) (hr : r < 32) (hk : k < 13) : ma_L σ (g + 9 + π r) 1 (q_n k) = some (mxL σ (g + 9 + π r) k) := cg_T h.2.1 h.2.2.1 hr hk
theorem CGp.sTT (h : CGp σ0 σ g π n N pv M) (hb : mpb P ≤ g) (hr : r < 32) (hk : k < 13) (v : Int64) : ms_L P σ (g + 9 + π r) 1 (q_n k) v = some (mx_setL σ (g + 9 + π r) k v) := cg_sT h.2.1 h.2.2.1 hb hr hk v
theorem c_wm (hb : mpb P ≤ g) (h : CGp σ0 σ g π n (n + 1) pv (rU M n rE)) (hn : n < 32) (hR : RGc σ0 g gs ms sh) (hm : m < ms.length) : ∃ τ, f_X4_writeMesh P g (q_n (4 * m)) σ = some τ ∧ CGp σ0 τ g π n (n + 1) pv (rU M n (rowM gs (ms.getD m (0, 0, false, 0)))) := by
  obtain ⟨e, he⟩ : ∃ e, e = ms.getD m (0, 0, false, 0) := ⟨_, rfl⟩
  rw [← he]
  have H : ∀ {τ M'}, CGp σ0 τ g π n (n + 1) pv M' → RGc τ g gs ms sh := fun y => hR.fg y.1
  have facts : ∀ {τ M'}, CGp σ0 τ g π n (n + 1) pv M' → (mxI τ (g + 3) (4 * m) = q_n e.1 ∧ mxI τ (g + 3) (4 * m + 1) = q_n e.2.1 ∧ mxI τ (g + 3) (4 * m + 2) = (if e.2.2.1 then -1 else 1) ∧ mxI τ (g + 3) (4 * m + 3) = e.2.2.2) ∧ mxI τ (g + 1) e.1 = q_n (gz gs e.1).1 ∧ mxI τ (g + 1) e.2.1 = q_n (gz gs e.2.1).1 ∧ mxI τ (g + 2) e.1 = q_n (gz gs e.1).2 ∧ mxI τ (g + 2) e.2.1 = q_n (gz gs e.2.1).2 := fun {τ M'} y => by
    obtain ⟨⟨a1, a2⟩, ⟨b1, b2, b3⟩, c⟩ := H y
    obtain ⟨b4, b5, b6, b7⟩ := b3 m hm
    rw [← he] at b4 b5 b6 b7
    exact ⟨b4, (a2 _ b5).1, (a2 _ b6).1, (a2 _ b5).2.1, (a2 _ b6).2.1⟩
  obtain ⟨⟨a1, a2⟩, ⟨b1, b2, b3⟩, c⟩ := H h
  obtain ⟨-, b5, b6, b7, b8⟩ := b3 m hm
  rw [← he] at b5 b6 b7 b8
  obtain ⟨-, -, za, sa⟩ := a2 _ b5
  obtain ⟨-, -, zb, sb⟩ := a2 _ b6
  obtain ⟨f1, f2, f3, f4, f5⟩ := facts h
  obtain ⟨ua, hua⟩ : ∃ ua : Int64, ua = (q_n (gz gs e.1).1).toInt64 := ⟨_, rfl⟩
  obtain ⟨ub, hub⟩ : ∃ ub : Int64, ub = (if e.2.2.1 = true then (-1 : Int32) else 1).toInt64 * (q_n (gz gs e.2.1).1).toInt64 := ⟨_, rfl⟩
  have Ba : B64 ua ((gz gs e.1).1 : Int) 2000 := by rw [hua, q_nL (by omega)]; exact ⟨l_nT (by omega), by omega⟩
  have Bb : B64 ub (gsg e.2.2.1 (gz gs e.2.1).1) 2000 := by rw [hub]; exact sg64 zb
  have r0 := h.row (k := (gz gs e.1).2) (by omega)
  have B0 : B64 (mxL σ (g + 9 + π n) (gz gs e.1).2) 0 0 := ⟨r0, by decide⟩
  obtain ⟨s1, e1⟩ : ∃ s1, s1 = mx_setL σ (g + 9 + π n) (gz gs e.1).2 (mxL σ (g + 9 + π n) (gz gs e.1).2 + ua) := ⟨_, rfl⟩
  have C1 : CGp σ0 s1 g π n (n + 1) pv (rU M n (inc rE (gz gs e.1).2 (gz gs e.1).1)) := by
    rw [e1]; exact h.inc hn ((b64A B0 Ba (by omega)).1.trans (by rw [rE_i]))
  obtain ⟨-, -, -, -, g5⟩ := facts C1
  obtain ⟨⟨-, g1, -, -⟩, -⟩ := facts C1
  have r1 := C1.row (k := (gz gs e.2.1).2) (by omega)
  have k1 := inc_b (k := (gz gs e.1).2) (d := ((gz gs e.1).1 : Int)) (show (rE (gz gs e.2.1).2).1.natAbs ≤ 0 from Nat.le_refl _)
  have B1 : B64 (mxL s1 (g + 9 + π n) (gz gs e.2.1).2) (inc rE (gz gs e.1).2 (gz gs e.1).1 (gz gs e.2.1).2).1 2000 := ⟨r1, by omega⟩
  obtain ⟨s2, e2⟩ : ∃ s2, s2 = mx_setL s1 (g + 9 + π n) (gz gs e.2.1).2 (mxL s1 (g + 9 + π n) (gz gs e.2.1).2 + ub) := ⟨_, rfl⟩
  have C2 : CGp σ0 s2 g π n (n + 1) pv (rU M n (inc (inc rE (gz gs e.1).2 (gz gs e.1).1) (gz gs e.2.1).2 (gsg e.2.2.1 (gz gs e.2.1).1))) := by
    rw [e2]; exact C1.inc hn (b64A B1 Bb (by omega)).1
  obtain ⟨⟨-, -, -, k4⟩, -⟩ := facts C2
  have p1 : q_n (4 * m) + (1 : Int32) = q_n (4 * m + 1) := q_nS _
  have p2 : q_n (4 * m) + (2 : Int32) = q_n (4 * m + 2) := q_nA _ 2
  have p3 : q_n (4 * m) + (3 : Int32) = q_n (4 * m + 3) := q_nA _ 3
  have m20 : m < 20 := by omega
  have body : f_X4_writeMesh P g (q_n (4 * m)) σ = (if e.2.2.2 < 0 then f_X4_writeMesh_D128 P s2 else (mg_R s2 g 4 10).bind fun b66 => (mg_I s2 g 4 13).bind fun x68 => (ma_R s2 b66 7 x68).bind fun b70 => (mg_R s2 g 4 5).bind fun b72 => (ma_I s2 b72 0 (q_n (4 * m) + (3 : Int32))).bind fun x74 => (ma_L s2 b70 1 x74).bind fun x76 => (ms_L P s2 b70 1 x74 (x76 - (ua + ub))).bind fun σ78 => f_X4_writeMesh_D128 P σ78) := by
    unfold f_X4_writeMesh
    rw [p1, p2, p3]
    rw [bd (ag_r3 h.2.1), bd (ag_r5 h.2.1), bd (ag_g5 h.2.1 (by omega)), f1.1, bd (ag_g3 h.2.1 (by omega)), f2, Option.bind_some, bd (ag_r5 h.2.1), bd (ag_g5 h.2.1 (by omega)), f1.2.2.1, bd (ag_r3 h.2.1), bd (ag_r5 h.2.1), bd (ag_g5 h.2.1 (by omega)), f1.2.1, bd (ag_g3 h.2.1 (by omega)), f3, Option.bind_some, ← hua, ← hub, bd (ag_r10 h.2.1), bd (ag_gI h.2.1), h.2.2.2.1, bd (h.tt hn), bd (ag_r4 h.2.1), bd (ag_r5 h.2.1), bd (ag_g5 h.2.1 (by omega)), f1.1, bd (ag_g4 h.2.1 (by omega)), f4, bd (h.T hn (by omega)), bd (h.sTT hb hn (by omega) _), ← e1, bd (ag_r10 C1.2.1), bd (ag_gI C1.2.1), C1.2.2.2.1, bd (C1.tt hn), bd (ag_r4 C1.2.1), bd (ag_r5 C1.2.1), bd (ag_g5 C1.2.1 (by omega)), g1, bd (ag_g4 C1.2.1 (by omega)), g5, bd (C1.T hn (by omega)), bd (C1.sTT hb hn (by omega) _), ← e2, bd (ag_r5 C2.2.1), bd (ag_g5 C2.2.1 (by omega)), k4]
  rw [body]
  unfold rowM
  by_cases y : e.2.2.2 < 0
  · rw [if_pos y, if_pos y]
    exact ⟨s2, rfl, C2⟩
  · rw [if_neg y, if_neg y]
    have y0 : 0 ≤ e.2.2.2.toInt := by
      rw [Int32.lt_iff_toInt_lt] at y
      have : (0 : Int32).toInt = 0 := rfl
      omega
    have ea := q_ofT (i := e.2.2.2) (by omega)
    obtain ⟨t, ht⟩ : ∃ t, t = e.2.2.2.toInt.toNat := ⟨_, rfl⟩
    rw [← ht] at ea ⊢
    have t12 : t < 12 := by omega
    have r2 := C2.row (k := t) (by omega)
    have k2 := inc_b (k := (gz gs e.2.1).2) (d := gsg e.2.2.1 (gz gs e.2.1).1) (inc_b (k := (gz gs e.1).2) (d := ((gz gs e.1).1 : Int)) (show (rE t).1.natAbs ≤ 0 from Nat.le_refl _))
    rw [gsg_b] at k2
    have B2 : B64 (mxL s2 (g + 9 + π n) t) (inc (inc rE (gz gs e.1).2 (gz gs e.1).1) (gz gs e.2.1).2 (gsg e.2.2.1 (gz gs e.2.1).1) t).1 4000 := ⟨r2, by omega⟩
    have B3 := b64S B2 (b64A Ba Bb (by omega)) (by omega)
    rw [bd (ag_r10 C2.2.1), bd (ag_gI C2.2.1), C2.2.2.2.1, bd (C2.tt hn), bd (ag_r5 C2.2.1), p3, bd (ag_g5 C2.2.1 (by omega)), k4, ea, bd (C2.T hn (by omega)), bd (C2.sTT hb hn (by omega) _)]
    exact ⟨_, rfl, C2.inc hn (B3.1.trans (by omega))⟩
end LYS
