/-! ===== kv: lift, the reference ===== -/
section KVS
variable {P : mx_P} {σ σ1 τ : mx_S} {x n c m k g f a b p q r : Nat} {W K L : Nat → Nat} {T B : Nat → Int} {o : Option (Int × Int)} {u v w t : Int64}
/-- a sum of the reference in two locals -/
def RLo (σ : mx_S) (m : Nat) (u v : Int64) (o : Option (Int × Int)) : Prop := match o with
  | none => mxI σ m 10 = 1 ∧ u = 0 ∧ v = 1
  | some z => mxI σ m 10 = 0 ∧ u.toInt = z.1 ∧ v.toInt = z.2
theorem RLo_c (h : RLo σ m u v o) (ho : OKf o) : ∃ p q, B64 u p 1000000000000000 ∧ B64 v q 1000000000000000 ∧ 1 ≤ q ∧ gcI p q = 1 ∧ ((mxI σ m 10 = 0 ∧ o = some (p, q)) ∨ (mxI σ m 10 = 1 ∧ o = none ∧ u = 0 ∧ v = 1)) := by
  cases o with
  | none => exact ⟨0, 1, ⟨by rw [h.2.1]; rfl, by simp⟩, ⟨by rw [h.2.2]; rfl, by simp⟩, by omega, by decide, Or.inr ⟨h.1, rfl, h.2⟩⟩
  | some z =>
    obtain ⟨h1, h2, h3, h4⟩ := ho z rfl
    exact ⟨z.1, z.2, ⟨h.2.1, h3⟩, ⟨h.2.2, h4⟩, h1, h2, Or.inl ⟨h.1, rfl⟩⟩
theorem r_addL {c d : Int} (hf : 5000 ≤ mpN P) (hM : LyM σ m) (hb : mpb P ≤ m) (h : RLo σ m u v o) (ho : OKf o) (hw : B64 w c 1000000000000000) (ht : B64 t d 1000000000000000) (hd : 1 ≤ d) : ∃ τ, f_X12_sum P m u v w t σ = some τ ∧ Fz (SLw m) σ τ ∧ FOr τ m (fadd o c d) := by
  obtain ⟨p, q, b1, b2, q1, g1, hc⟩ := RLo_c h ho
  have h01 : mxI σ m 10 = 0 ∨ mxI σ m 10 = 1 := by
    rcases hc with ⟨z, -⟩ | ⟨z, -⟩
    · exact Or.inl z
    · exact Or.inr z
  obtain ⟨τ, e, f, r⟩ := r_addG (P := P) hf hM hb b1 b2 hw ht q1 hd h01
  refine ⟨τ, e, f, ?_⟩
  rcases hc with ⟨z, e⟩ | ⟨z, e, -⟩
  · rw [if_pos z] at r; rw [e]; exact r
  · rw [if_neg (by rw [z]; decide)] at r; rw [e]; exact r
/-- the degrees less those before, in lowest terms -/
theorem li_sub (hq : 1 ≤ q) (hq2 : q ≤ 1000) (hp : p ≤ 360000) (hb : b * q ≤ p) : fadd (some ((p : Int) / (gcI p q : Int), (q : Int) / (gcI p q : Int))) (-(b : Int)) 1 = some (((p - b * q : Nat) : Int) / (gcI ((p - b * q : Nat) : Int) q : Int), (q : Int) / (gcI ((p - b * q : Nat) : Int) q : Int)) := by
  obtain ⟨h1, h2, h3, h4⟩ := li_X (r := p) hq hq2 hp
  have g := gc_pos (c := (p : Int)) (d := (q : Int)) (by omega)
  have m1 := dvm g (gc_l (c := (p : Int)) (d := (q : Int)))
  have m2 := dvm g (gc_r (c := (p : Int)) (d := (q : Int)))
  have b360 : b ≤ 360000 := by
    have := Nat.le_mul_of_pos_right b (show 0 < q by omega)
    omega
  have okf := OKf_a (c := -(b : Int)) (d := 1) (OKs h1 h2 (by omega) (by omega)) (by omega)
  generalize (p : Int) / (gcI p q : Int) = X at *
  generalize (q : Int) / (gcI p q : Int) = Z at *
  generalize (gcI (p : Int) (q : Int) : Int) = H at m1 m2
  have x1 : fqx X Z (-(b : Int)) 1 = X + -(b : Int) * Z := by unfold fqx; rw [gc_1]; simp
  have z1 : fqz Z 1 = Z := by unfold fqz; rw [gc_1]; simp
  have bz : b * Z.natAbs ≤ 360000 * 1000 := Nat.mul_le_mul b360 h4
  have bz2 : (-(b : Int) * Z).natAbs = b * Z.natAbs := by rw [Int.natAbs_mul]; congr 1; omega
  have o1 : fqo X Z (-(b : Int)) 1 := by
    unfold fqo; rw [gc_1]; simp
    refine ⟨by omega, ?_, by omega⟩
    omega
  have e : fadd (some (X, Z)) (-(b : Int)) 1 = some ((X + -(b : Int) * Z) / (gcI (X + -(b : Int) * Z) Z : Int), Z / (gcI (X + -(b : Int) * Z) Z : Int)) := by
    unfold fadd
    rw [Option.bind_some, if_pos (show fqo (X, Z).1 (X, Z).2 (-(b : Int)) 1 ∧ (fqx (X, Z).1 (X, Z).2 (-(b : Int)) 1).natAbs ≤ 1000000000000000 from ⟨o1, by show (fqx X Z (-(b : Int)) 1).natAbs ≤ _; rw [x1]; omega⟩)]
    show some (fqx X Z (-(b : Int)) 1 / (gcI (fqx X Z (-(b : Int)) 1) (fqz Z 1) : Int), fqz Z 1 / (gcI (fqx X Z (-(b : Int)) 1) (fqz Z 1) : Int)) = _
    rw [x1, z1]
  rw [e] at okf ⊢
  obtain ⟨k1, k2, -, -⟩ := okf _ rfl
  dsimp only at k1 k2
  have gz := gc_pos (c := X + -(b : Int) * Z) (d := Z) (by omega)
  have n1 := dvm gz (gc_l (c := X + -(b : Int) * Z) (d := Z))
  have n2 := dvm gz (gc_r (c := X + -(b : Int) * Z) (d := Z))
  generalize (X + -(b : Int) * Z) / (gcI (X + -(b : Int) * Z) Z : Int) = A at *
  generalize Z / (gcI (X + -(b : Int) * Z) Z : Int) = D at *
  have er : ((p - b * q : Nat) : Int) = (p : Int) - b * q := by rw [Int.natCast_sub hb, Int.natCast_mul]
  have cr : A * (q : Int) = ((p - b * q : Nat) : Int) * D := by
    rw [er, ← m1, ← m2]
    apply Int.eq_of_mul_eq_mul_right (show (gcI (X + -(b : Int) * Z) Z : Int) ≠ 0 by omega)
    generalize (gcI (X + -(b : Int) * Z) Z : Int) = G at *
    have e1 : A * (Z * H) * G = (A * G) * Z * H := by grind
    have e2 : (X * H - b * (Z * H)) * D * G = (X + -(b : Int) * Z) * (D * G) * H := by grind
    rw [e1, e2, n1, n2]
  obtain ⟨g', gp', y1, y2, y3⟩ := lw_u k1 (by omega) cr k2
  rw [y3]
  congr 2
  · rw [y1]; exact (Int.mul_ediv_cancel _ (by omega)).symm
  · rw [y2]; exact (Int.mul_ediv_cancel _ (by omega)).symm
theorem r_lif (hf : 5000 ≤ mpN P) (hM : LyM σ m) (hb : mpb P ≤ m) (ho : CmO n W K L T B) (h : CmR σ m n W K L T B) (hn : n ≠ 0) (hk : k < n) (hq : 1 ≤ q) (hq2 : q ≤ 1000) (hp : p < 360 * q) (k1 : p < kqs (k + 1) W * q) (k2 : kqs k W * q ≤ p) (k3 : ∀ j, j < k → kqs (j + 1) W * q ≤ p) (w : Int32) (hw : w = 0 ∨ w = 1) : ∃ τ, Fz (fun q j => q = m ∧ (j = 0 ∨ j = 8 ∨ j = 9 ∨ j = 10)) σ τ ∧ match liO W K L T B p q k with
    | none => f_X12_lift_D67 P m (q_n p) (q_n q) w 0 m σ = some (0, τ) ∧ mxI τ m 0 = 3
    | some z => ∃ v, f_X12_lift_D67 P m (q_n p) (q_n q) w 0 m σ = some (v, τ) ∧ v.toInt = (if w = 0 then z.1 else z.2) ∧ mxI τ m 0 = 0 := by
  have n30 := ho.1
  have s8 : ∀ j, j = 8 ∨ j = 9 ∨ j = 10 → SLw m m j := fun j h => ⟨rfl, h⟩
  have SM : ∀ q j, SLw m q j → (q = m ∧ (j = 0 ∨ j = 8 ∨ j = 9 ∨ j = 10)) := fun q j y => ⟨y.1, Or.inr y.2⟩
  obtain ⟨σ14, e14⟩ : ∃ σ14, σ14 = mx_setI (mx_setI σ m 0 0) m 10 0 := ⟨_, rfl⟩
  have M9 : LyM (mx_setI σ m 0 0) m := hM
  have F14 : Fz (fun q j => q = m ∧ (j = 0 ∨ j = 8 ∨ j = 9 ∨ j = 10)) σ σ14 := by rw [e14]; exact (Fz.rf.sI ⟨rfl, by omega⟩ _).sI ⟨rfl, by omega⟩ _
  have M14 : LyM σ14 m := F14.M hM
  have h14 : CmR σ14 m n W K L T B := h.fz F14 fun q j y => by omega
  have z14 : mxI σ14 m 0 = 0 := by rw [e14, sI_n (by omega), sI_e]
  have wid : ∀ j, j < n → kqs j W ≤ 360 ∧ W j ≤ 360 ∧ kqs (j + 1) W = kqs j W + W j := fun j hj => ⟨kqs_360 ho hn (by omega), (ho.2.1 j hj).2.1, rfl⟩
  have p6 : p < 360000 := by omega
  have cmp : ∀ j, j < n → (lg_cmp ((q_n p).toInt64) (((q_n (kqs j W) + q_n (W j)).toInt64) * ((q_n q).toInt64)) < 0 ↔ ¬ kqs (j + 1) W * q ≤ p) := fun j hj => by
    obtain ⟨a1, a2, a3⟩ := wid j hj
    have : kqs (j + 1) W * q ≤ 720 * 1000 := Nat.mul_le_mul (by omega) hq2
    rw [q_nA, q_nL (by omega), q_nL (by omega), q_nL (by omega), l_nM, q_cmp_lt, ← a3, l_nLt (by omega) (by omega)]
    omega
  obtain ⟨⟨r1, r2, r3, r4, s⟩, e1, hr1, hr4, F, g⟩ := q_for (f_X12_lift_L96 P m (q_n p) (q_n q) w) (fun i t => t.1 = q_n (kqs i W) ∧ t.2.2.2.1 = q_n i ∧ Fz (SLw m) σ14 t.2.2.2.2 ∧ RLo t.2.2.2.2 m t.2.1 t.2.2.1 (liP K T B i)) (fun r => r.1 = q_n (kqs k W) ∧ r.2.2.2.1 = q_n k ∧ Fz (SLw m) σ14 r.2.2.2.2 ∧ RLo r.2.2.2.2 m r.2.1 r.2.2.1 (liP K T B k)) k
    (by
      rintro i ⟨v5, v6, v8, v10, s⟩ hi ⟨i1, i2, F, g⟩
      dsimp only at i1 i2 F g
      subst i1 i2
      left
      have Ms := F.M M14
      have hs := (h14.fz F S74).2 i (by omega)
      obtain ⟨w1, w2, kk2, oo⟩ := ho.2.1 i (by omega)
      have okp := OKf_lp (k := i) ho.pp (by omega)
      show ∃ t', f_X12_lift_B96 P m (q_n p) (q_n q) w (q_n (kqs i W)) v6 v8 (q_n i) s = some (.inl t') ∧ _
      unfold f_X12_lift_B96
      rw [bd (am_r76 Ms), bd (am_g76 Ms (by omega)), hs.2.1, if_neg (fun y => (cmp i (by omega)).mp y (k3 i hi)), bd (am_r75 Ms), bd (am_g75 Ms (by omega)), hs.1]
      have D : ∀ u (c d : Int), B64 u c 1000000000000000 → B64 (mxL s (m + 52) i) d 1000000000000000 → 1 ≤ d → fadd (liP K T B i) c d = liP K T B (i + 1) → ∃ t', f_X12_lift_D150_96 P m (q_n p) (q_n q) w (q_n (kqs i W)) (q_n i) u v8 v6 m s = some (.inl t') ∧ t'.1 = q_n (kqs (i + 1) W) ∧ t'.2.2.2.1 = q_n (i + 1) ∧ Fz (SLw m) σ14 t'.2.2.2.2 ∧ RLo t'.2.2.2.2 m t'.2.1 t'.2.2.1 (liP K T B (i + 1)) := fun u c d bu bd' hd he => by
        obtain ⟨s1, e1, f1, g1⟩ := r_addL (P := P) hf Ms hb g okp bu bd' hd
        have M1 := f1.M Ms
        have hs1 := ((h14.fz F S74).fz f1 S74).2 i (by omega)
        unfold f_X12_lift_D150_96
        rw [bd (am_r78 Ms), bd (am_g78 Ms (by omega)), bd (am_is Ms), bd e1, bd (am_gL M1), bd (am_gL M1), bd (am_r76 M1), bd (am_g76 M1 (by omega)), hs1.2.1, Option.bind_some, Option.bind_some, q_nS, q_nA]
        rw [he] at g1
        exact ⟨_, rfl, rfl, rfl, F.tr f1, g1⟩
      by_cases k0 : K i = 0
      · obtain ⟨d1, d2, d3⟩ := hs.2.2.2 k0
        rw [if_neg (show ¬ q_n (K i) = (2 : Int32) by rw [k0]; decide), bd (am_r77 Ms), bd (am_g77 Ms (by omega)), d1]
        refine D 0 0 1 ⟨rfl, by decide⟩ (by rw [d2]; exact ⟨rfl, by decide⟩) (by omega) ?_
        rw [fadd_0 okp]
        show _ = if K i = 0 then _ else _
        rw [if_pos k0]
      · obtain ⟨l1, l4, t1, t2, b1, b2, gg⟩ := oo k0
        obtain ⟨d1, d2, d3⟩ := hs.2.2.1 k0
        have bT : B64 (mxL s (m + 51) i) (T i) 1000000000000000 := ⟨d1, by omega⟩
        have bB : B64 (mxL s (m + 52) i) (B i) 1000000000000000 := ⟨d2, by omega⟩
        have un : liP K T B (i + 1) = fadd (liP K T B i) (cmT K T i) (B i) := by
          show (if K i = 0 then _ else _) = _
          rw [if_neg k0]
        by_cases K2 : K i = 2
        · rw [if_pos (show q_n (K i) = (2 : Int32) by rw [K2]; rfl), bd (am_r77 Ms), bd (am_g77 Ms (by omega))]
          refine D _ (-T i) (B i) (b64N bT (by omega)) bB b1 ?_
          rw [un]; unfold cmT; rw [if_pos K2]
        · rw [if_neg (show ¬ q_n (K i) = (2 : Int32) from fun y => K2 ((q_nI (l := 2) (by omega) (by omega)).mp y)), bd (am_r77 Ms), bd (am_g77 Ms (by omega))]
          refine D _ (T i) (B i) bT bB b1 ?_
          rw [un]; unfold cmT; rw [if_neg K2])
    (by
      rintro ⟨v5, v6, v8, v10, s⟩ ⟨i1, i2, F, g⟩
      dsimp only at i1 i2 F g
      subst i1 i2
      have Ms := F.M M14
      have hs := (h14.fz F S74).2 k hk
      show ∃ r, f_X12_lift_B96 P m (q_n p) (q_n q) w (q_n (kqs k W)) v6 v8 (q_n k) s = some (.inr r) ∧ _
      unfold f_X12_lift_B96
      rw [bd (am_r76 Ms), bd (am_g76 Ms (by omega)), hs.2.1, if_pos ((cmp k hk).mpr (by omega))]
      exact ⟨_, rfl, rfl, rfl, F, g⟩)
    k 0 ((0 : Int32), (0 : Int64), (1 : Int64), (0 : Int32), σ14) (mpN P) (by omega) ⟨rfl, rfl, Fz.rf, by rw [e14]; exact ⟨sI_e, rfl, rfl⟩⟩ (by omega)
  dsimp only at hr1 hr4 F g
  subst hr1 hr4
  have Ms := F.M M14
  have hs' := h14.fz F S74
  have hs := hs'.2 k hk
  obtain ⟨w1, w2, kk2, oo⟩ := ho.2.1 k hk
  have okp := OKf_lp (k := k) ho.pp (by omega)
  have FS := F14.tr (F.mo SM)
  -- the end
  have last : ∀ s6 o', Fz (SLw m) s s6 → FOr s6 m o' → ∃ τ, Fz (fun q j => q = m ∧ (j = 0 ∨ j = 8 ∨ j = 9 ∨ j = 10)) σ τ ∧ match o' with
      | none => f_X12_lift_D341 P m w s6 = some (0, τ) ∧ mxI τ m 0 = 3
      | some z => ∃ v, f_X12_lift_D341 P m w s6 = some (v, τ) ∧ v.toInt = (if w = 0 then z.1 else z.2) ∧ mxI τ m 0 = 0 := fun s6 o' f6 g6 => by
    have M6 := f6.M Ms
    unfold f_X12_lift_D341
    rw [bd (am_gI M6)]
    cases o' with
    | none =>
      have M7 : LyM (mx_setI s6 m 0 3) m := M6
      refine ⟨mx_setI s6 m 0 3, (FS.tr (f6.mo SM)).sI ⟨rfl, by omega⟩ _, ?_, sI_e⟩
      rw [if_neg (by rw [g6.1]; decide)]
      unfold f_X12_lift_D354 f_X12_lift_D383
      rw [bd (am_pI M6 hb _), bd (am_gI M7), sI_e, if_neg (by decide)]
    | some z =>
      have M7 : LyM (mx_setI s6 m 0 0) m := M6
      refine ⟨mx_setI s6 m 0 0, (FS.tr (f6.mo SM)).sI ⟨rfl, by omega⟩ _, ?_⟩
      rw [if_pos g6.1]
      unfold f_X12_lift_D354 f_X12_lift_D383
      rw [bd (am_pI M6 hb _), bd (am_gI M7), sI_e, if_pos (show (0 : Int32) ≤ 0 by decide)]
      rcases hw with rfl | rfl
      · rw [if_pos rfl, bd (am_gL M7), LsI]
        exact ⟨_, rfl, by rw [if_pos rfl]; exact g6.2.1, rfl⟩
      · rw [if_neg (by decide), bd (am_gL M7), LsI]
        exact ⟨_, rfl, by rw [if_neg (by decide)]; exact g6.2.2, rfl⟩
  have pre : f_X12_lift_D67 P m (q_n p) (q_n q) w 0 m σ = (if q_n (K k) ≤ 0 then (mp_L P s m 12 8 r2).bind fun σ66 => (mp_L P σ66 m 12 9 r3).bind fun σ68 => f_X12_lift_D341 P m w σ68 else (mx_is s m 12).bind fun i83 => (f_X12_lowest P m ((q_n p).toInt64) ((q_n q).toInt64) s).bind fun σ85 => (mg_L σ85 m 12 8).bind fun x87 => (mg_L σ85 m 12 9).bind fun x89 => (mx_is σ85 m 12).bind fun i91 => (f_X12_sum P m x87 x89 ((-(q_n (kqs k W))).toInt64) (1 : Int64) σ85).bind fun σ93 => (mg_L σ93 m 12 8).bind fun x95 => (mg_L σ93 m 12 9).bind fun x97 => (mg_R σ93 m 12 76).bind fun b99 => (ma_I σ93 b99 0 (q_n k)).bind fun x101 => (mx_is σ93 m 12).bind fun i103 => (f_X12_by P m x95 x97 (x101.toInt64) (1 : Int64) σ93).bind fun σ105 => (mg_R σ105 m 12 79).bind fun b107 => (ma_I σ105 b107 0 (q_n k)).bind fun x109 => (mg_L σ105 m 12 8).bind fun x111 => (mg_L σ105 m 12 9).bind fun x113 => (mx_is σ105 m 12).bind fun i115 => (f_X12_lawAt P m x109 x111 x113 σ105).bind fun σ117 => (mg_L σ117 m 12 8).bind fun x119 => (mg_L σ117 m 12 9).bind fun x121 => (mg_R σ117 m 12 77).bind fun b123 => (ma_L σ117 b123 1 (q_n k)).bind fun x125 => (mg_R σ117 m 12 78).bind fun b127 => (ma_L σ117 b127 1 (q_n k)).bind fun x129 => (mx_is σ117 m 12).bind fun i131 => (f_X12_times P m x119 x121 x125 x129 σ117).bind fun σ133 => (mg_R σ133 m 12 75).bind fun b135 => (ma_I σ133 b135 0 (q_n k)).bind fun x137 => (if x137 = (2 : Int32) then (mg_L σ133 m 12 8).bind fun x148 => f_X12_lift_D319 P m w (-x148) r3 r2 m σ133 else (mg_L σ133 m 12 8).bind fun x140 => f_X12_lift_D319 P m w x140 r3 r2 m σ133)) := by
    unfold f_X12_lift_D67
    rw [bd (am_pI hM hb _), bd (am_gI M9), sI_e, if_pos (show (0 : Int32) ≤ 0 by decide), bd (am_pZ M9 hb (Or.inl rfl)), ← e14, bd e1]
    show (mg_R s m 12 75).bind _ = _
    rw [bd (am_r75 Ms), bd (am_g75 Ms (by omega)), hs.1]
  rw [pre]
  unfold liO
  by_cases k0 : K k = 0
  · rw [if_pos k0, if_pos (show q_n (K k) ≤ 0 by rw [k0]; decide), bd (am_pL Ms hb _), bd (am_pL (show LyM (mx_setL s m 8 r2) m from Ms) hb _)]
    refine last _ (liP K T B k) ((Fz.rf.sL (s8 8 (by omega)) _).sL (s8 9 (by omega)) _) ?_
    have c8 : mxL (mx_setL (mx_setL s m 8 r2) m 9 r3) m 8 = r2 := by rw [sL_n (by omega), sL_e]
    have c9 : mxL (mx_setL (mx_setL s m 8 r2) m 9 r3) m 9 = r3 := sL_e
    unfold FOr
    rw [c8, c9]
    exact g
  · obtain ⟨l1, l4, t1, t2, b1, b2, gg⟩ := oo k0
    rw [if_neg k0, if_neg (show ¬ q_n (K k) ≤ 0 from fun y => k0 (by have := (q_nLe (k := K k) (l := 0) (by omega) (by omega)).mp y; omega))]
    have okn : OKf none := fun z hz => absurd hz (by simp)
    have fl : mxI s m 10 = 0 ∨ mxI s m 10 = 1 := by
      obtain ⟨_, _, _, _, _, _, y⟩ := RLo_c g okp
      rcases y with ⟨z, -⟩ | ⟨z, -⟩
      · exact Or.inl z
      · exact Or.inr z
    -- the degrees in lowest terms
    obtain ⟨s1, e1', f1, g1⟩ := r_low (P := P) (u := l_n p) (v := l_n q) (x := p) (z := q) hf Ms hb (l_nB (by omega) (by omega)) (l_nB (by omega) (by omega)) (by rcases fl with y | y <;> first | exact Or.inr y | exact Or.inl ⟨y, by omega⟩)
    have M1 := f1.M Ms
    obtain ⟨X1, X2, X3, X4⟩ := li_X (r := p) (q := q) hq hq2 (by omega)
    have G1 : FOr s1 m (if mxI s m 10 = 0 then some ((p : Int) / (gcI p q : Int), (q : Int) / (gcI p q : Int)) else none) := by
      rcases g1 with ⟨y1, -, y2⟩ | ⟨y1, y2⟩
      · rw [if_pos y1]; exact y2
      · rw [if_neg (fun y => y1 ⟨y, by omega⟩)]; exact y2
    have ok1 : OKf (if mxI s m 10 = 0 then some ((p : Int) / (gcI p q : Int), (q : Int) / (gcI p q : Int)) else none) := by
      split
      · exact OKs X1 X2 (by omega) (by omega)
      · exact okn
    have kb := (wid k hk).1
    have bneg : B64 ((-(q_n (kqs k W))).toInt64) (-(kqs k W : Int)) 1000000000000000 := by
      refine ⟨?_, by omega⟩
      rw [Int32.toInt_toInt64, q_ineg (by rw [q_nT (by omega)]; omega), q_nT (by omega)]
    obtain ⟨s2, e2, f2, g2⟩ := r_addO (P := P) (t := 1) (d := 1) hf M1 hb G1 ok1 bneg ⟨rfl, by decide⟩ (by omega)
    have M2 := f2.M M1
    have ok2 := OKf_a (c := -(kqs k W : Int)) (d := 1) ok1 (by omega)
    obtain ⟨s3, e3, f3, g3⟩ := r_mulO (P := P) (w := 1) (c := 1) (t := l_n (W k)) (d := W k) hf M2 hb g2 ok2 ⟨rfl, by decide⟩ (l_nB (by omega) (by omega)) (by omega) (gc_1l _)
    have M3 := f3.M M2
    have by3 : f_X12_by P m (mxL s2 m 8) (mxL s2 m 9) (l_n (W k)) (1 : Int64) s2 = some s3 := by
      unfold f_X12_by f_X12_by_D32
      rw [if_pos (by rw [l_nn, l_nT (by omega)]; omega), bd (am_is M2), bd e3]
    obtain ⟨lt, lt1, lt2, lt3, lt4⟩ := li_t (r := p - kqs k W * q) (q := q) (w := W k) hq hq2 (by omega) w1 w2
    have G3 : FOr s3 m (if mxI s m 10 = 0 then some (liT (p - kqs k W * q) q (W k)) else none) := by
      by_cases y : mxI s m 10 = 0
      · rw [if_pos y] at g3 ⊢
        rw [li_sub hq hq2 (by omega) k2, lt] at g3
        exact g3
      · rw [if_neg y] at g3 ⊢
        exact g3
    -- the law
    have lawE : ∃ u' v', B64 (mxL s3 m 8) u' 1000000000 ∧ B64 (mxL s3 m 9) v' 1000000000 ∧ 1 ≤ v' ∧ gcI u' v' = 1 ∧ ((mxI s3 m 10 = 0 ∧ mxI s m 10 = 0 ∧ u' = (liT (p - kqs k W * q) q (W k)).1 ∧ v' = (liT (p - kqs k W * q) q (W k)).2) ∨ (mxI s3 m 10 = 1 ∧ mxI s m 10 ≠ 0 ∧ mxL s3 m 8 = 0 ∧ mxL s3 m 9 = 1)) := by
      by_cases y : mxI s m 10 = 0
      · rw [if_pos y] at G3
        exact ⟨_, _, ⟨G3.2.1, lt3⟩, ⟨G3.2.2, lt4⟩, lt1, lt2, Or.inl ⟨G3.1, y, rfl, rfl⟩⟩
      · rw [if_neg y] at G3
        exact ⟨0, 1, ⟨by rw [G3.2.1]; rfl, by decide⟩, ⟨by rw [G3.2.2]; rfl, by decide⟩, by omega, by decide, Or.inr ⟨G3.1, y, G3.2⟩⟩
    obtain ⟨u', v', bu, bv, v1, guv, hcase⟩ := lawE
    obtain ⟨s4, e4, f4, g4⟩ := r_law (P := P) (l := L k) hf M3 hb bu bv v1 guv (by rcases hcase with ⟨y, -⟩ | ⟨y, -, y2⟩ <;> first | exact Or.inl y | exact Or.inr ⟨y, y2⟩) l1 l4
    have M4 := f4.M M3
    have ok4 : OKf (if mxI s3 m 10 = 0 then lwO (L k) u' v' else none) := by
      split
      · exact OKf_lw v1 guv bu.2 bv.2
      · exact okn
    have hR1 := (hs'.fz f1 S74)
    have hR2 := hR1.fz f2 S74
    have hR3 := hR2.fz f3 S74
    have hR4 := hR3.fz f4 S74
    have q4 := hR4.2 k hk
    obtain ⟨d1, d2, d3⟩ := q4.2.2.1 k0
    have bT : B64 (mxL s4 (m + 51) k) (T k) 1000000000000000 := ⟨d1, by omega⟩
    have bB : B64 (mxL s4 (m + 52) k) (B k) 1000000000000000 := ⟨d2, by omega⟩
    obtain ⟨s5, e5, f5, g5⟩ := r_mulO (P := P) hf M4 hb g4 ok4 bT bB b1 gg
    have M5 := f5.M M4
    have ok5 := OKf_m ok4 b1 gg
    have hR5 := (hR4.fz f5 S74).2 k hk
    obtain ⟨y1, y2, Y1, Y2, yq, gy, hy⟩ := FOr_c g5 ok5
    obtain ⟨a', b', A1, A2, bq, gab, hab⟩ := RLo_c g okp
    have fl5 := FOr_01 g5
    have D319 : ∀ u'' c'', B64 u'' c'' 1000000000000000 → c'' = (if K k = 2 then -y1 else y1) → ∃ τ, Fz (fun q j => q = m ∧ (j = 0 ∨ j = 8 ∨ j = 9 ∨ j = 10)) σ τ ∧ match ((fmul (lwO (L k) (liT (p - kqs k W * q) q (W k)).1 (liT (p - kqs k W * q) q (W k)).2) (T k) (B k)).bind fun z => fadd (liP K T B k) (if K k = 2 then -z.1 else z.1) z.2) with
        | none => f_X12_lift_D319 P m w u'' r3 r2 m s5 = some (0, τ) ∧ mxI τ m 0 = 3
        | some z => ∃ v, f_X12_lift_D319 P m w u'' r3 r2 m s5 = some (v, τ) ∧ v.toInt = (if w = 0 then z.1 else z.2) ∧ mxI τ m 0 = 0 := fun u'' c'' hu'' hc'' => by
      obtain ⟨s6, e6, f6, g6⟩ := r_addG (P := P) hf M5 hb A1 A2 hu'' Y2 bq yq fl5
      have d319 : f_X12_lift_D319 P m w u'' r3 r2 m s5 = f_X12_lift_D341 P m w s6 := by
        unfold f_X12_lift_D319
        rw [bd (am_gL M5), bd (am_is M5), bd e6]
      rw [d319]
      have oe : (if mxI s5 m 10 = 0 then fadd (some (a', b')) c'' y2 else none) = ((fmul (lwO (L k) (liT (p - kqs k W * q) q (W k)).1 (liT (p - kqs k W * q) q (W k)).2) (T k) (B k)).bind fun z => fadd (liP K T B k) (if K k = 2 then -z.1 else z.1) z.2) := by
        rcases hcase with ⟨z3, z0, eu, ev⟩ | ⟨z3, z0, -⟩
        · rw [if_pos z3, eu, ev] at hy
          rcases hab with ⟨-, ho'⟩ | ⟨w1', -⟩
          · rw [ho']
            rcases hy with ⟨j1, j2⟩ | ⟨j1, j2, -⟩
            · rw [j2, if_pos j1, hc'', Option.bind_some]
            · rw [j2, if_neg (by rw [j1]; decide)]; rfl
          · rw [w1'] at z0; exact absurd z0 (by decide)
        · rw [if_neg (by rw [z3]; decide)] at hy
          rcases hab with ⟨w1', -⟩ | ⟨-, ho', -⟩
          · exact absurd w1' z0
          · rcases hy with ⟨-, j2⟩ | ⟨j1, -⟩
            · exact absurd j2 (by unfold fmul; simp)
            · rw [if_neg (by rw [j1]; decide), ho']
              cases fmul (lwO (L k) (liT (p - kqs k W * q) q (W k)).1 (liT (p - kqs k W * q) q (W k)).2) (T k) (B k) <;> rfl
      rw [oe] at g6
      exact last s6 _ ((((((f1.tr f2).tr f3).tr f4).tr f5).tr f6)) g6
    rw [bd (am_is Ms), q_nL (by omega), q_nL (by omega), bd e1', bd (am_gL M1), bd (am_gL M1), bd (am_is M1), bd e2, bd (am_gL M2), bd (am_gL M2), bd (am_r76 M2), bd (am_g76 M2 (by omega)), (hR2.2 k hk).2.1, q_nL (by omega), bd (am_is M2), bd by3, bd (am_r79 M3), bd (am_g79 M3 (by omega)), ((hR3.2 k hk).2.2.1 k0).2.2, bd (am_gL M3), bd (am_gL M3), bd (am_is M3), bd e4, bd (am_gL M4), bd (am_gL M4), bd (am_r77 M4), bd (am_g77 M4 (by omega)), bd (am_r78 M4), bd (am_g78 M4 (by omega)), bd (am_is M4), bd e5, bd (am_r75 M5), bd (am_g75 M5 (by omega)), hR5.1]
    by_cases K2 : K k = 2
    · rw [if_pos (show q_n (K k) = (2 : Int32) by rw [K2]; rfl), bd (am_gL M5)]
      exact D319 _ (-y1) (b64N Y1 (by omega)) (by rw [if_pos K2])
    · rw [if_neg (show ¬ q_n (K k) = (2 : Int32) from fun y => K2 ((q_nI (l := 2) (by omega) (by omega)).mp y)), bd (am_gL M5)]
      exact D319 _ y1 Y1 (by rw [if_neg K2])
end KVS
