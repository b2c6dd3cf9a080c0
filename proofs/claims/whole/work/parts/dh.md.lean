/-! ===== md: the reference changes rows, divides, takes away ===== -/
section MDS
variable {P : mx_P} {σ σ0 σ1 τ : mx_S} {m r k n s a j b l N L q : Nat} {pv : Nat → Int32} {M M' : MT} {R R' : Nat → Int × Int} {w z : Int × Int} {d : Int} {S : Nat → Nat → Prop} {u v : Int64}
theorem r_chg (hf : 5000 ≤ mpN P) (hb : mpb P ≤ m) (h : CRo σ0 σ m n n L pv M) (hn : n ≤ 32) (hr : r < n) (hj : j < n) : ∃ τ, f_X12_changeRows P m (q_n r) (q_n j) σ = some τ ∧ CRo σ0 τ m n n L pv (sw M r j) ∧ mxI τ m 10 = mxI σ m 10 := by
  obtain ⟨ρ, e, C, I⟩ := q_for (f_X12_changeRows_L2 P m (q_n r) (q_n j)) (fun k t => t.1 = q_n k ∧ CRo σ0 t.2 m n n L pv (fun i l => if l < k then sw M r j i l else M i l) ∧ mxI t.2 m 10 = mxI σ m 10) (fun t => CRo σ0 t m n n L pv (fun i l => if l < 13 then sw M r j i l else M i l) ∧ mxI t m 10 = mxI σ m 10) 13
    (by
      rintro k ⟨v1, t⟩ hk ⟨i1, C, I⟩
      dsimp only at i1 C I
      subst i1
      left
      show ∃ t', f_X12_changeRows_B2 P m (q_n r) (q_n j) (q_n k) t = some (.inl t') ∧ _
      obtain ⟨Mk, hMk⟩ : ∃ Mk : MT, Mk = fun i l => if l < k then sw M r j i l else M i l := ⟨_, rfl⟩
      rw [← hMk] at C
      obtain ⟨t1, e1⟩ : ∃ t1, t1 = mx_setL t (m + 45) (13 * r + k) (mxL t (m + 45) (13 * j + k)) := ⟨_, rfl⟩
      obtain ⟨t2, e2⟩ : ∃ t2, t2 = mx_setL t1 (m + 46) (13 * r + k) (mxL t (m + 46) (13 * j + k)) := ⟨_, rfl⟩
      have C1 := C.sT hr hk (mxL t (m + 45) (13 * j + k))
      have C2 := C.sC hr hk (mxL t (m + 45) (13 * j + k)) (mxL t (m + 46) (13 * j + k))
      rw [← e1] at C1 C2
      rw [← e2] at C2
      have C3 := C2.sT hj hk (mxL t (m + 45) (13 * r + k))
      have C4 := C2.sC hj hk (mxL t (m + 45) (13 * r + k)) (mxL t (m + 46) (13 * r + k))
      have l1 : mxL t1 (m + 46) (13 * j + k) = mxL t (m + 46) (13 * j + k) := by rw [e1]; exact sL_n (by omega)
      unfold f_X12_changeRows_B2
      rw [if_neg (by rw [show (13 : Int32) = q_n 13 from rfl]; exact qn_ge hk (by omega)), bd (am_r69 C.2.1), bd (C.T (by omega) hk), bd (am_r70 C.2.1), bd (C.B (by omega) hk), bd (am_r69 C.2.1), bd (am_r69 C.2.1), bd (C.T (by omega) hk), ix13, bd (am_s69 C.2.1 hb (by omega) _), ← e1, bd (am_r70 C1.2.1), bd (am_r70 C1.2.1), bd (C1.B (by omega) hk), l1, bd (am_s70 C1.2.1 hb (by omega) _), ← e2, bd (am_r69 C2.2.1), ix13, bd (am_s69 C2.2.1 hb (by omega) _), bd (am_r70 C3.2.1), bd (am_s70 C3.2.1 hb (by omega) _), Option.bind_some, q_nS]
      refine ⟨_, rfl, rfl, C4.cg fun i hi l hl => ?_, ?_⟩
      · have mr := C.2.2.2.2 r hr k hk
        have mj := C.2.2.2.2 j hj k hk
        have vk : ∀ i, Mk i k = M i k := fun i => by rw [hMk]; exact if_neg (by omega)
        rw [mr.1, mr.2, mj.1, mj.2, vk, vk]
        show (if l < k + 1 then sw M r j i l else M i l) = _
        by_cases y : l = k
        · subst y
          rw [if_pos (by omega)]
          by_cases yj : i = j
          · subst yj
            rw [mu_e]
            unfold sw
            by_cases yr : i = r
            · rw [if_pos yr, yr]
            · rw [if_neg yr, if_pos rfl]
          · rw [mu_n (by omega)]
            by_cases yr : i = r
            · subst yr
              rw [mu_e]
              unfold sw
              rw [if_pos rfl]
            · rw [mu_n (by omega), vk]
              unfold sw
              rw [if_neg yr, if_neg yj]
        · rw [mu_n (by omega), mu_n (by omega), hMk]
          show _ = if l < k then sw M r j i l else M i l
          by_cases z : l < k
          · rw [if_pos z, if_pos (by omega)]
          · rw [if_neg z, if_neg (by omega)]
      · show mxI t2 m 10 = _
        rw [e2, e1]; exact I)
    (by
      rintro ⟨v1, t⟩ ⟨i1, C, I⟩
      dsimp only at i1 C I
      subst i1
      refine ⟨t, ?_, C, I⟩
      show f_X12_changeRows_B2 P m (q_n r) (q_n j) (q_n 13) t = _
      unfold f_X12_changeRows_B2
      rw [if_pos (by decide)])
    13 0 ((0 : Int32), σ) (mpN P) rfl ⟨rfl, h.cg fun i _ l _ => by rw [if_neg (by omega)], rfl⟩ (by omega)
  refine ⟨ρ, ?_, C.cg fun i _ l hl => by rw [if_pos hl], I⟩
  unfold f_X12_changeRows
  rw [bd e]
def RXo (σ0 σ : mx_S) (m n L : Nat) (pv : Nat → Int32) : Prop := Fz (SRo m) σ0 σ ∧ LyM σ m ∧ mxI σ m 68 = q_n n
theorem CRo.X (h : CRo σ0 σ m n N L pv M) : RXo σ0 σ m n L pv := ⟨h.1, h.2.1, h.2.2.1⟩
/-- flag and rows -/
def FR (σ0 σ : mx_S) (m n L : Nat) (pv : Nat → Int32) (o : Option MT) : Prop := match o with
  | none => mxI σ m 10 = 1 ∧ RXo σ0 σ m n L pv
  | some M => mxI σ m 10 = 0 ∧ CRo σ0 σ m n n L pv M
theorem FR_x {o : Option MT} (h : FR σ0 σ m n L pv o) : LyM σ m ∧ mxI σ m 68 = q_n n ∧ (mxI σ m 10 = 0 ∨ mxI σ m 10 = 1) := by
  cases o with
  | none => exact ⟨h.2.2.1, h.2.2.2, Or.inr h.1⟩
  | some M => exact ⟨h.2.2.1, h.2.2.2.1, Or.inl h.1⟩
theorem r_byi (hf : 5000 ≤ mpN P) (hM : LyM σ m) (hb : mpb P ≤ m) {p q : Int} {x y c d : Int64} (hx : B64 x p 1000000000000000) (hy : B64 y q 1000000000000000) (hp : OKz (p, q)) (hc : B64 c z.1 1000000000000000) (hd : B64 d z.2 1000000000000000) (hz : OKz z) (h0 : z.1 ≠ 0) (h10 : mxI σ m 10 = 0) : ∃ τ, f_X12_by P m x y c d σ = some τ ∧ Fz (SLw m) σ τ ∧ FOr τ m (fmul (some (p, q)) (iv z).1 (iv z).2) := by
  have hi := iv_O hz h0
  have ivn : (iv z).1 = if z.1 < 0 then -z.2 else z.2 := rfl
  have ivd : (iv z).2 = (z.1.natAbs : Int) := rfl
  have key : ∀ w t, B64 w (iv z).1 1000000000000000 → B64 t (iv z).2 1000000000000000 → ∃ τ, f_X12_times P m x y w t σ = some τ ∧ Fz (SLw m) σ τ ∧ FOr τ m (fmul (some (p, q)) (iv z).1 (iv z).2) := fun w t hw ht => by
    obtain ⟨τ, e, f, r⟩ := r_mulG (P := P) hf hM hb hx hy hw ht hp.1 hi.1 (Or.inl h10) hp.2.1 hi.2.1
    rw [if_pos h10] at r
    exact ⟨τ, e, f, r⟩
  unfold f_X12_by f_X12_by_D32
  by_cases y : z.1 < 0
  · obtain ⟨τ, e, f, r⟩ := key (-d) (-c) (by rw [ivn, if_pos y]; exact b64n hd (by omega)) (by rw [ivd, show (z.1.natAbs : Int) = -z.1 by omega]; exact b64n hc (by omega))
    rw [if_neg (show ¬ 0 ≤ lg_cmp c (0 : Int64) from fun w => by rw [l_nn, hc.1] at w; omega), bd (am_is hM), bd e]
    exact ⟨τ, rfl, f, r⟩
  · obtain ⟨τ, e, f, r⟩ := key d c (by rw [ivn, if_neg y]; exact hd) (by rw [ivd, show (z.1.natAbs : Int) = z.1 by omega]; exact hc)
    rw [if_pos (show 0 ≤ lg_cmp c (0 : Int64) from by rw [l_nn, hc.1]; omega), bd (am_is hM), bd e]
    exact ⟨τ, rfl, f, r⟩
theorem FR_k (hb : mpb P ≤ m) {o : Option (Int × Int)} (h : CRo σ0 σ m n n L pv M) (hr : r < n) (hn : n ≤ 32) (hk : k < 13) (ho : FOr σ m o) : ∃ τ, f_X12_keepFraction P m (((13 : Int32) * q_n r) + q_n k) σ = some τ ∧ FR σ0 τ m n L pv (o.map (mu M r k)) := by
  obtain ⟨τ, e, C, I⟩ := r_kf (P := P) hb h hr hn hk
  refine ⟨τ, e, ?_⟩
  cases o with
  | none => exact ⟨I.trans ho.1, C.X⟩
  | some y =>
    refine ⟨I.trans ho.1, ?_⟩
    rw [ho.2.1, ho.2.2] at C
    exact C
theorem r_dvl (hf : 5000 ≤ mpN P) (hb : mpb P ≤ m) (h : CRo σ0 σ m n n L pv M) (h10 : mxI σ m 10 = 0) (hO : MO n M) (hn : n ≤ 32) (hr : r < n) (hz : OKz z) (h0 : z.1 ≠ 0) (hu : B64 u z.1 1000000000000000) (hv : B64 v z.2 1000000000000000) (hs : s < 12) : ∃ τ, mx_lp (f_X12_pivot_L28 P m (q_n r) (q_n s) u v) (mpN P) ((0 : Int32), σ) = some τ ∧ FR σ0 τ m n L pv (dvL M r (iv z) 13) := by
  have hi := iv_O hz h0
  refine q_for (f_X12_pivot_L28 P m (q_n r) (q_n s) u v) (fun k t => t.1 = q_n k ∧ FR σ0 t.2 m n L pv (dvL M r (iv z) k)) _ 13 ?_ ?_ 13 0 ((0 : Int32), σ) (mpN P) rfl ⟨rfl, h10, h⟩ (by omega)
  · rintro k ⟨v7, t⟩ hk ⟨i1, i2⟩
    dsimp only at i1 i2
    subst i1
    show (∃ t', f_X12_pivot_B28 P m (q_n r) (q_n s) u v (q_n k) t = some (.inl t') ∧ _) ∨ ∃ ρ, f_X12_pivot_B28 P m (q_n r) (q_n s) u v (q_n k) t = some (.inr ρ) ∧ _
    have D : ∀ τ, FR σ0 τ m n L pv (dvL M r (iv z) (k + 1)) → ∃ t', f_X12_pivot_D104_28 P m (q_n r) (q_n s) u v (q_n k) τ = some (.inl t') ∧ t'.1 = q_n (k + 1) ∧ FR σ0 t'.2 m n L pv (dvL M r (iv z) (k + 1)) := fun τ y => by
      unfold f_X12_pivot_D104_28
      rw [Option.bind_some, q_nS]
      exact ⟨_, rfl, rfl, y⟩
    unfold f_X12_pivot_B28
    rw [if_neg (by rw [show (13 : Int32) = q_n 13 from rfl]; exact qn_ge hk (by omega)), bd (am_gI (FR_x i2).1)]
    cases eo : dvL M r (iv z) k with
    | none =>
      rw [eo] at i2
      right
      rw [if_neg (by rw [i2.1]; decide)]
      refine ⟨_, rfl, ?_⟩
      rw [dv_mo (k := k) (k' := 13) (by omega) eo]
      exact i2
    | some Mk =>
      rw [eo] at i2
      obtain ⟨f0, C⟩ := i2
      have hOk := dvL_O hO hr hi k (by omega) Mk eo
      have hd : dvL M r (iv z) (k + 1) = dvS r (iv z) k Mk := by show (dvL M r (iv z) k).bind _ = _; rw [eo]; rfl
      rw [if_pos f0, bd (am_r69 C.2.1), bd (C.T (by omega) hk)]
      left
      by_cases y0 : (Mk r k).1 = 0
      · rw [if_pos ((C.t0 hr hk).mpr y0)]
        refine D t ?_
        rw [hd, dv_0 (hOk r hr k hk) y0 hi.1]
        exact ⟨f0, C⟩
      · rw [if_neg (fun z => y0 ((C.t0 hr hk).mp z)), bd (am_r69 C.2.1), bd (C.T (by omega) hk), bd (am_r70 C.2.1), bd (C.B (by omega) hk), bd (am_is C.2.1)]
        obtain ⟨t1, e1, F1, o1⟩ := r_byi (P := P) hf C.2.1 hb (C.b1 hOk hr hk) (C.b2 hOk hr hk) (hOk r hr k hk) hu hv hz h0 f0
        have C1 := C.fz F1
        obtain ⟨t2, e2, o2⟩ := FR_k (P := P) hb C1 hr hn hk o1
        rw [bd e1, bd (am_is C1.2.1), bd e2]
        refine D t2 ?_
        rw [hd]
        exact o2
  · rintro ⟨v7, t⟩ ⟨i1, i2⟩
    dsimp only at i1 i2
    subst i1
    refine ⟨t, ?_, i2⟩
    show f_X12_pivot_B28 P m (q_n r) (q_n s) u v (q_n 13) t = _
    unfold f_X12_pivot_B28
    rw [if_pos (by decide)]
theorem r_tkl (hf : 5000 ≤ mpN P) (hb : mpb P ≤ m) (h : CRo σ0 σ m n n L pv M) (h10 : mxI σ m 10 = 0) (hO : MO n M) (hn : n ≤ 32) (hr : r < n) (hj : j < n) (hw : OKz w) (hu : B64 u w.1 1000000000000000) (hv : B64 v w.2 1000000000000000) : ∃ τ, mx_lp (f_X12_pivot_L176 P m (q_n r) (q_n s) (q_n j) u v) (mpN P) ((0 : Int32), σ) = some τ ∧ FR σ0 τ m n L pv (tkL M j r w 13) := by
  refine q_for (f_X12_pivot_L176 P m (q_n r) (q_n s) (q_n j) u v) (fun k t => t.1 = q_n k ∧ FR σ0 t.2 m n L pv (tkL M j r w k)) _ 13 ?_ ?_ 13 0 ((0 : Int32), σ) (mpN P) rfl ⟨rfl, h10, h⟩ (by omega)
  · rintro k ⟨v7, t⟩ hk ⟨i1, i2⟩
    dsimp only at i1 i2
    subst i1
    show (∃ t', f_X12_pivot_B176 P m (q_n r) (q_n s) (q_n j) u v (q_n k) t = some (.inl t') ∧ _) ∨ ∃ ρ, f_X12_pivot_B176 P m (q_n r) (q_n s) (q_n j) u v (q_n k) t = some (.inr ρ) ∧ _
    have D : ∀ τ, FR σ0 τ m n L pv (tkL M j r w (k + 1)) → ∃ t', f_X12_pivot_D293_176 P m (q_n r) (q_n s) (q_n j) u v (q_n k) τ = some (.inl t') ∧ t'.1 = q_n (k + 1) ∧ FR σ0 t'.2 m n L pv (tkL M j r w (k + 1)) := fun τ y => by
      unfold f_X12_pivot_D293_176
      rw [Option.bind_some, q_nS]
      exact ⟨_, rfl, rfl, y⟩
    unfold f_X12_pivot_B176
    rw [if_neg (by rw [show (13 : Int32) = q_n 13 from rfl]; exact qn_ge hk (by omega)), bd (am_gI (FR_x i2).1)]
    cases eo : tkL M j r w k with
    | none =>
      rw [eo] at i2
      right
      rw [if_neg (by rw [i2.1]; decide)]
      refine ⟨_, rfl, ?_⟩
      rw [tk_mo (k := k) (k' := 13) (by omega) eo]
      exact i2
    | some Mk =>
      rw [eo] at i2
      obtain ⟨f0, C⟩ := i2
      have hOk := tkL_O hO hr hj hw k (by omega) Mk eo
      have hd : tkL M j r w (k + 1) = tkS j r w k Mk := by show (tkL M j r w k).bind _ = _; rw [eo]; rfl
      rw [if_pos f0, bd (am_r69 C.2.1), bd (C.T (by omega) hk)]
      left
      by_cases y0 : (Mk r k).1 = 0
      · rw [if_pos ((C.t0 hr hk).mpr y0)]
        refine D t ?_
        rw [hd]
        unfold tkS
        rw [if_pos y0]
        exact ⟨f0, C⟩
      · have hmr := hOk r hr k hk
        have hmj := hOk j hj k hk
        rw [if_neg (fun z => y0 ((C.t0 hr hk).mp z)), bd (am_r69 C.2.1), bd (C.T (by omega) hk), bd (am_r70 C.2.1), bd (C.B (by omega) hk), bd (am_is C.2.1)]
        obtain ⟨t1, e1, F1, o1⟩ := r_mulG (P := P) (p := w.1) (q := w.2) hf C.2.1 hb hu hv (C.b1 hOk hr hk) (C.b2 hOk hr hk) hw.1 hmr.1 (Or.inl f0) hw.2.1 hmr.2.1
        rw [if_pos f0] at o1
        have C1 := C.fz F1
        have ok1 : OKf (fmul (some w) (Mk r k).1 (Mk r k).2) := OKf_m (OKz_f hw) hmr.1 hmr.2.1
        obtain ⟨c, dd, b1, b2, q1, -, hc⟩ := FOr_c (o := fmul (some w) (Mk r k).1 (Mk r k).2) o1 ok1
        obtain ⟨t2, e2, F2, o2⟩ := r_addG (P := P) (p := (Mk j k).1) (q := (Mk j k).2) hf C1.2.1 hb (C1.b1 hOk hj hk) (C1.b2 hOk hj hk) (b64n b1 (by omega)) b2 hmj.1 q1 (FOr_01 (o := fmul (some w) (Mk r k).1 (Mk r k).2) o1)
        have C2 := C1.fz F2
        obtain ⟨t3, e3, o3⟩ := FR_k (P := P) hb C2 hj hn hk o2
        rw [bd e1, bd (am_r69 C1.2.1), bd (C1.T (by omega) hk), bd (am_r70 C1.2.1), bd (C1.B (by omega) hk), bd (am_gL C1.2.1), bd (am_gL C1.2.1), bd (am_is C1.2.1), bd e2, bd (am_is C2.2.1), bd e3]
        refine D t3 ?_
        rw [hd]
        unfold tkS
        rw [if_neg y0]
        rcases hc with ⟨fl, he⟩ | ⟨fl, he, -⟩
        · rw [if_pos fl] at o3
          rw [he]
          exact o3
        · rw [if_neg (by rw [fl]; decide)] at o3
          rw [he]
          exact o3
  · rintro ⟨v7, t⟩ ⟨i1, i2⟩
    dsimp only at i1 i2
    subst i1
    refine ⟨t, ?_, i2⟩
    show f_X12_pivot_B176 P m (q_n r) (q_n s) (q_n j) u v (q_n 13) t = _
    unfold f_X12_pivot_B176
    rw [if_pos (by decide)]
theorem r_piv (hf : 5000 ≤ mpN P) (hb : mpb P ≤ m) (h : CRo σ0 σ m n n L pv M) (h10 : mxI σ m 10 = 0) (hO : MO n M) (hn : n ≤ 32) (hr : r < n) (hs : s < 12) (h0 : (M r s).1 ≠ 0) : ∃ τ, f_X12_pivot P m (q_n r) (q_n s) σ = some τ ∧ FR σ0 τ m n L pv ((dvL M r (iv (M r s)) 13).bind fun M2 => elL M2 r s n) := by
  have hz := hO r hr s (by omega)
  obtain ⟨s1, e1, o1⟩ := r_dvl (P := P) hf hb h h10 hO hn hr hz h0 (h.b1 hO hr (by omega)) (h.b2 hO hr (by omega)) hs
  have lp : ∃ τ, mx_lp (f_X12_pivot_L113 P m (q_n r) (q_n s)) (mpN P) ((0 : Int32), s1) = some τ ∧ FR σ0 τ m n L pv ((dvL M r (iv (M r s)) 13).bind fun M2 => elL M2 r s n) := by
    refine q_for (f_X12_pivot_L113 P m (q_n r) (q_n s)) (fun j t => t.1 = q_n j ∧ FR σ0 t.2 m n L pv ((dvL M r (iv (M r s)) 13).bind fun M2 => elL M2 r s j)) _ n ?_ ?_ n 0 ((0 : Int32), s1) (mpN P) (by omega) ⟨rfl, ?_⟩ (by omega)
    · rintro j ⟨v7, t⟩ hj ⟨i1, i2⟩
      dsimp only at i1 i2
      subst i1
      show (∃ t', f_X12_pivot_B113 P m (q_n r) (q_n s) (q_n j) t = some (.inl t') ∧ _) ∨ ∃ ρ, f_X12_pivot_B113 P m (q_n r) (q_n s) (q_n j) t = some (.inr ρ) ∧ _
      unfold f_X12_pivot_B113
      rw [bd (am_gI (FR_x i2).1), (FR_x i2).2.1, if_neg (qn_ge hj (by omega)), bd (am_gI (FR_x i2).1)]
      cases e2 : dvL M r (iv (M r s)) 13 with
      | none =>
        rw [e2] at i2
        right
        rw [if_neg (by rw [i2.1]; decide)]
        exact ⟨_, rfl, i2⟩
      | some M2 =>
        rw [e2] at i2
        have hO2 := dvL_O hO hr (iv_O hz h0) 13 (by omega) M2 e2
        have D : ∀ τ, FR σ0 τ m n L pv (elL M2 r s (j + 1)) → ∃ t', f_X12_pivot_D299_113 P m (q_n r) (q_n s) (q_n j) τ = some (.inl t') ∧ t'.1 = q_n (j + 1) ∧ FR σ0 t'.2 m n L pv ((some M2).bind fun M2 => elL M2 r s (j + 1)) := fun τ y => by
          unfold f_X12_pivot_D299_113
          rw [Option.bind_some, q_nS]
          exact ⟨_, rfl, rfl, y⟩
        have i3 : FR σ0 t m n L pv (elL M2 r s j) := i2
        cases eo : elL M2 r s j with
        | none =>
          rw [eo] at i3
          right
          rw [if_neg (by rw [i3.1]; decide)]
          refine ⟨_, rfl, ?_⟩
          show FR σ0 t m n L pv (elL M2 r s n)
          rw [el_mo (k := j) (k' := n) (by omega) eo]
          exact i3
        | some Mk =>
          rw [eo] at i3
          obtain ⟨f0, C⟩ := i3
          have hOk := elL_O hO2 hr (by omega) j (by omega) Mk eo
          have hd : elL M2 r s (j + 1) = elS r s j Mk := by show (elL M2 r s j).bind _ = _; rw [eo]; rfl
          rw [if_pos f0, bd (am_r69 C.2.1), bd (C.T (by omega) (by omega)), bd (am_r70 C.2.1), bd (C.B (by omega) (by omega))]
          left
          by_cases jr : j = r
          · rw [if_pos (by rw [jr])]
            refine D t ?_
            rw [hd]; unfold elS; rw [if_pos (Or.inl jr)]
            exact ⟨f0, C⟩
          · rw [if_neg (fun z => jr ((q_nI (by omega) (by omega)).mp z))]
            by_cases y0 : (Mk j s).1 = 0
            · rw [if_pos ((C.t0 hj (by omega)).mpr y0)]
              refine D t ?_
              rw [hd]; unfold elS; rw [if_pos (Or.inr y0)]
              exact ⟨f0, C⟩
            · rw [if_neg (fun z => y0 ((C.t0 hj (by omega)).mp z))]
              obtain ⟨t2, e3, o3⟩ := r_tkl (P := P) (s := s) hf hb C f0 hOk hn hr hj (hOk j hj s (by omega)) (C.b1 hOk hj (by omega)) (C.b2 hOk hj (by omega))
              rw [bd e3]
              refine D t2 ?_
              rw [hd]; unfold elS; rw [if_neg (by omega)]
              exact o3
    · rintro ⟨v7, t⟩ ⟨i1, i2⟩
      dsimp only at i1 i2
      subst i1
      refine ⟨t, ?_, i2⟩
      show f_X12_pivot_B113 P m (q_n r) (q_n s) (q_n n) t = _
      unfold f_X12_pivot_B113
      rw [bd (am_gI (FR_x i2).1), (FR_x i2).2.1, if_pos ((q_nLe (by omega) (by omega)).mpr (Nat.le_refl _))]
    · show FR σ0 s1 m n L pv _
      cases e2 : dvL M r (iv (M r s)) 13 with
      | none => rw [e2] at o1; exact o1
      | some M2 => rw [e2] at o1; exact o1
  obtain ⟨τ, e2, o2⟩ := lp
  refine ⟨τ, ?_, o2⟩
  unfold f_X12_pivot f_X12_pivot_D110 f_X12_pivot_D305
  rw [bd (am_r69 h.2.1), bd (h.T (by omega) (by omega)), bd (am_r70 h.2.1), bd (h.B (by omega) (by omega)), bd e1]
  show (mx_lp (f_X12_pivot_L113 P m (q_n r) (q_n s)) (mpN P) ((0 : Int32), s1)).bind _ = _
  rw [bd e2]
end MDS
