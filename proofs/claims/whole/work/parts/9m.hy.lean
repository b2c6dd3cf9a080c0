/-! ===== hy: the forms ===== -/
section HYS
variable {P : mx_P} {σ σ0 σ1 σ2 τ : mx_S} {x m n t l p a N i k j u K c np fm r : Nat} {bl : List Nat} {on : Nat → Nat} {E : Nat → BV} {inp pow msk mi bt mark fst : Int32} {lt tk : Nat → Nat}
/-- what the text gives -/
def TxH (bl : List Nat) (N K : Nat) : Prop := (∀ b, b ∈ bl → b < 256) ∧ K ≤ 450 ∧ ∀ j, j < K → gnm (cnA bl N 0 j)
theorem Fz_b0 {S : Nat → Nat → Prop} (hA : mxA σ = mxA σ0) (f : Fz S σ τ) (h : ∀ q j, S q j → jF c q j ∨ bx σ l q) : Fz (jFb σ0 l c) σ τ := f.mo fun q j z => by
  rcases h q j z with z | z
  · exact Or.inl z
  · exact Or.inr ((bx_A hA).mp z)
theorem BC_0 (hA : mxA σ = mxA σ0) (h : BC σ t bl l c N K n fm lt tk) (f : Fz (jFb σ0 l c) σ τ) : BC τ t bl l c N K n fm lt tk := BC_f h (f.mo fun q j z => by
  rcases z with z | z
  · exact Or.inl z
  · exact Or.inr ((bx_A hA).mpr z))
theorem sb_P {v : Nat} (hf : 5000 ≤ mpN P) (hb : mpb P ≤ l) (hX : TxH bl N K) (hA : mxA σ = mxA σ0) (B : BC σ t bl l c N K n fm lt tk) (h : JS σ l c np on inp pow msk mi bt E) (hn6 : n ≤ 6) (hjn : j < n) (hlt : lt j = 80) (hk : kdA bl (tk j) = 2) (htl : telA bl N K (nmA bl (tk j)) = some v) (hnp : np < 4) (hr : 0 < r) :
    ∃ τ, mx_lp (f_X5_become_L63 P c t mark) r (fst, q_n j, σ) = mx_lp (f_X5_become_L63 P c t mark) (r - 1) (fst, q_n (j + 1), τ) ∧ BC τ t bl l c N K n fm lt tk ∧ JS τ l c (np + 1) (upl on np v) inp pow msk mi bt E ∧ Fz (jFb σ0 l c) σ τ ∧ mxA τ = mxA σ0 := by
  have hJ := BC_J B
  have hP := B.2.2.2.2.2.2 j hjn
  rw [hlt] at hP
  obtain ⟨τ, e, h1, f⟩ := b_P (P := P) (mark := mark) (fst := fst) hf B.1 hJ.1 (by have := hJ.2.2; omega) hX.1 B.2.2.2.1 hX.2.1 hX.2.2 (by omega) B.2.2.2.2.1 hjn hn6 hP hk htl hnp h
  have f' : Fz (jFb σ0 l c) σ τ := Fz_b0 hA f fun q j z => Or.inl z
  exact ⟨τ, mx_lp_s e hr, BC_0 hA B f', h1, f', f.1.trans hA⟩
theorem sb_x {ff : Bool} (hb : mpb P ≤ l) (hX : TxH bl N K) (hA : mxA σ = mxA σ0) (B : BC σ t bl l c N K n fm lt tk) (h : JS σ l c np on inp pow msk mi bt E) (hn6 : n ≤ 6) (hjn : j < n) (hlt : lt j = 120 ∨ lt j = 114) (hk : kdA bl (tk j) = 3) (hf6 : fm < 6) (hr : 0 < r) :
    ∃ τ, mx_lp (f_X5_become_L63 P c t mark) r (bI ff, q_n j, σ) = mx_lp (f_X5_become_L63 P c t mark) (r - 1) ((0 : Int32), q_n (j + 1), τ) ∧ BC τ t bl l c N K n fm lt tk ∧ JS τ l c np on inp pow msk mi bt (up E (if ff then c + 2 else c + 3) (fxV fm (tpA bl (tk j)) (nmB bl (nmD bl (tk j))))) ∧ Fz (jFb σ0 l c) σ τ ∧ mxA τ = mxA σ0 := by
  have hJ := BC_J B
  have hP := B.2.2.2.2.2.2 j hjn
  obtain ⟨τ, e, h1, f⟩ := b_x (P := P) (mark := mark) (ff := ff) B.1 hJ.1 (by have := hJ.2.2; omega) hX.1 (by omega) B.2.2.2.2.1 hjn hn6 hlt hP hk B.2.2.2.2.2.1 hf6 h
  have f' : Fz (jFb σ0 l c) σ τ := Fz_b0 hA f fun q j z => Or.inl z
  exact ⟨τ, mx_lp_s e hr, BC_0 hA B f', h1, f', f.1.trans hA⟩
theorem sb_i {v : Nat} (hb : mpb P ≤ l) (hX : TxH bl N K) (hA : mxA σ = mxA σ0) (B : BC σ t bl l c N K n fm lt tk) (h : JS σ l c np on inp pow msk mi bt E) (hn6 : n ≤ 6) (hjn : j < n) (hlt : lt j = 105) (hk : kdA bl (tk j) = 3) (hv : (tpA bl (tk j)).tdiv (nmB bl (nmD bl (tk j))) = v) (hv4 : v < 4) (hr : 0 < r) :
    ∃ τ, mx_lp (f_X5_become_L63 P c t mark) r (fst, q_n j, σ) = mx_lp (f_X5_become_L63 P c t mark) (r - 1) (fst, q_n (j + 1), τ) ∧ BC τ t bl l c N K n fm lt tk ∧ JS τ l c np on (q_n v) pow ((256 : Int32) <<< (q_n v &&& 31)) mi bt E ∧ Fz (jFb σ0 l c) σ τ ∧ mxA τ = mxA σ0 := by
  have hJ := BC_J B
  have hP := B.2.2.2.2.2.2 j hjn
  rw [hlt] at hP
  obtain ⟨τ, e, h1, f⟩ := b_i (P := P) (mark := mark) (fst := fst) B.1 hJ.1 (by have := hJ.2.2; omega) hX.1 (by omega) B.2.2.2.2.1 hjn hn6 hP hk hv hv4 h
  have f' : Fz (jFb σ0 l c) σ τ := Fz_b0 hA f fun q j z => Or.inl z
  exact ⟨τ, mx_lp_s e hr, BC_0 hA B f', h1, f', f.1.trans hA⟩
theorem sb_n (hb : mpb P ≤ l) (hX : TxH bl N K) (hA : mxA σ = mxA σ0) (B : BC σ t bl l c N K n fm lt tk) (h : JS σ l c np on inp pow msk mi bt E) (hn6 : n ≤ 6) (hjn : j < n) (hlt : lt j = 110) (hk : kdA bl (tk j) = 3) (hr : 0 < r) :
    ∃ τ w, w.toInt = (tpA bl (tk j)).tdiv (nmB bl (nmD bl (tk j))) ∧ mx_lp (f_X5_become_L63 P c t mark) r (fst, q_n j, σ) = mx_lp (f_X5_become_L63 P c t mark) (r - 1) (fst, q_n (j + 1), τ) ∧ BC τ t bl l c N K n fm lt tk ∧ JS τ l c np on inp w msk mi bt E ∧ Fz (jFb σ0 l c) σ τ ∧ mxA τ = mxA σ0 := by
  have hJ := BC_J B
  have hP := B.2.2.2.2.2.2 j hjn
  rw [hlt] at hP
  obtain ⟨τ, w, e, hw, h1, f⟩ := b_n (P := P) (mark := mark) (fst := fst) B.1 hJ.1 (by have := hJ.2.2; omega) hX.1 (by omega) B.2.2.2.2.1 hjn hn6 hP hk h
  have f' : Fz (jFb σ0 l c) σ τ := Fz_b0 hA f fun q j z => Or.inl z
  exact ⟨τ, w, hw, mx_lp_s e hr, BC_0 hA B f', h1, f', f.1.trans hA⟩
theorem sb_k {v : Nat} (hb : mpb P ≤ l) (hX : TxH bl N K) (hA : mxA σ = mxA σ0) (B : BC σ t bl l c N K n fm lt tk) (h : JS σ l c np on inp pow msk mi bt E) (hn6 : n ≤ 6) (hjn : j < n) (hlt : lt j = 107) (hk : kdA bl (tk j) = 3) (hv : (tpA bl (tk j)).tdiv (nmB bl (nmD bl (tk j))) = v) (hv4 : v < 1024) (hr : 0 < r) :
    ∃ τ, mx_lp (f_X5_become_L63 P c t mark) r (fst, q_n j, σ) = mx_lp (f_X5_become_L63 P c t mark) (r - 1) (fst, q_n (j + 1), τ) ∧ BC τ t bl l c N K n fm lt tk ∧ JS τ l c np on inp pow msk mi bt (up (up E (c + 5) (g_D v).1) (c + 6) (g_D v).2) ∧ Fz (jFb σ0 l c) σ τ ∧ mxA τ = mxA σ0 := by
  have hJ := BC_J B
  have hP := B.2.2.2.2.2.2 j hjn
  rw [hlt] at hP
  obtain ⟨τ, e, h1, f⟩ := b_k (P := P) (mark := mark) (fst := fst) B.1 hJ.1 hb hJ.2.1 hX.1 (by omega) B.2.2.2.2.1 hjn hn6 hP hk hv hv4 h
  have f' : Fz (jFb σ0 l c) σ τ := Fz_b0 hA f fun q j z => Or.inr z
  exact ⟨τ, mx_lp_s e hr, BC_0 hA B f', h1, f', f.1.trans hA⟩
theorem sb_S {mk : Nat} (hb : mpb P ≤ l) (hA : mxA σ = mxA σ0) (B : BC σ t bl l c N K n fm lt tk) (h : JS σ l c np on inp pow msk mi bt E) (hn6 : n ≤ 6) (hjn : j < n) (hlt : lt j = 83) (hk : kdA bl (tk j) ≠ 3) (hr : 0 < r) :
    ∃ τ, mx_lp (f_X5_become_L63 P c t (q_n mk)) r (fst, q_n j, σ) = mx_lp (f_X5_become_L63 P c t (q_n mk)) (r - 1) (fst, q_n (j + 1), τ) ∧ BC τ t bl l c N K n fm lt tk ∧ JS τ l c np on inp pow (if kdA bl (tk j) = 63 then (1 : Int32) <<< (q_n mk &&& 31) else msk) (if kdA bl (tk j) = 45 then 1 else 0) (if kdA bl (tk j) = 63 then q_n mk else bt) E ∧ Fz (jFb σ0 l c) σ τ ∧ mxA τ = mxA σ0 := by
  have hJ := BC_J B
  have hP := B.2.2.2.2.2.2 j hjn
  rw [hlt] at hP
  obtain ⟨τ, e, h1, f⟩ := b_S (P := P) (mk := mk) (fst := fst) B.1 hJ.1 (by have := hJ.2.2; omega) (by omega) B.2.2.2.2.1 hjn hn6 hP hk h
  have f' : Fz (jFb σ0 l c) σ τ := Fz_b0 hA f fun q j z => Or.inl z
  exact ⟨τ, mx_lp_s e hr, BC_0 hA B f', h1, f', f.1.trans hA⟩
/-- fix -/
theorem bm_0 (hf : 5000 ≤ mpN P) (hb : mpb P ≤ l) (hX : TxH bl N K) (B : BC σ t bl l c N K 3 0 lt tk) (h : JS σ l c 0 on inp pow msk mi bt E) (l1 : lt 1 = 120) (l2 : lt 2 = 120) (k1 : kdA bl (tk 1) = 3) (k2 : kdA bl (tk 2) = 3) :
    ∃ τ, mx_lp (f_X5_become_L63 P c t mark) (mpN P) ((1 : Int32), (1 : Int32), σ) = some τ ∧ BC τ t bl l c N K 3 0 lt tk ∧ JS τ l c 0 on inp pow msk mi bt (up (up E (c + 2) (fxV 0 (tpA bl (tk 1)) (nmB bl (nmD bl (tk 1))))) (c + 3) (fxV 0 (tpA bl (tk 2)) (nmB bl (nmD bl (tk 2))))) ∧ Fz (jFb σ l c) σ τ := by
  obtain ⟨τ1, e1, B1, j1, f1, a1⟩ := sb_x (P := P) (mark := mark) (σ0 := σ) (j := 1) (r := mpN P) (ff := true) hb hX rfl B h (by omega) (by omega) (Or.inl l1) k1 (by omega) (by omega)
  obtain ⟨τ2, e2, B2, j2, f2, a2⟩ := sb_x (P := P) (mark := mark) (σ0 := σ) (j := 2) (r := mpN P - 1) (ff := false) hb hX a1 B1 j1 (by omega) (by omega) (Or.inl l2) k2 (by omega) (by omega)
  have e3 := b_end (P := P) (mark := mark) (fst := 0) (r := mpN P - 1 - 1) B2 (by omega) (by omega)
  refine ⟨τ2, ?_, B2, j2, f1.tr f2⟩
  rw [show ((1 : Int32), (1 : Int32), σ) = (bI true, q_n 1, σ) from rfl, e1]
  exact (show mx_lp (f_X5_become_L63 P c t mark) (mpN P - 1) ((0 : Int32), q_n (1 + 1), τ1) = some τ2 from e2.trans e3)
/-- body -/
theorem bm_4 {v1 v2 : Nat} (hf : 5000 ≤ mpN P) (hb : mpb P ≤ l) (hX : TxH bl N K) (B : BC σ t bl l c N K 5 4 lt tk) (h : JS σ l c 0 on inp pow msk mi bt E) (l1 : lt 1 = 80) (l2 : lt 2 = 80) (l3 : lt 3 = 120) (l4 : lt 4 = 120) (k1 : kdA bl (tk 1) = 2) (k2 : kdA bl (tk 2) = 2) (k3 : kdA bl (tk 3) = 3) (k4 : kdA bl (tk 4) = 3) (t1 : telA bl N K (nmA bl (tk 1)) = some v1) (t2 : telA bl N K (nmA bl (tk 2)) = some v2) :
    ∃ τ, mx_lp (f_X5_become_L63 P c t mark) (mpN P) ((1 : Int32), (1 : Int32), σ) = some τ ∧ BC τ t bl l c N K 5 4 lt tk ∧ JS τ l c 2 (upl (upl on 0 v1) 1 v2) inp pow msk mi bt (up (up E (c + 2) (fxV 4 (tpA bl (tk 3)) (nmB bl (nmD bl (tk 3))))) (c + 3) (fxV 4 (tpA bl (tk 4)) (nmB bl (nmD bl (tk 4))))) ∧ Fz (jFb σ l c) σ τ := by
  obtain ⟨τ1, e1, B1, j1, f1, a1⟩ := sb_P (P := P) (mark := mark) (fst := bI true) (σ0 := σ) (j := 1) (r := mpN P) hf hb hX rfl B h (by omega) (by omega) l1 k1 t1 (by omega) (by omega)
  obtain ⟨τ2, e2, B2, j2, f2, a2⟩ := sb_P (P := P) (mark := mark) (fst := bI true) (σ0 := σ) (j := 2) (r := mpN P - 1) hf hb hX a1 B1 j1 (by omega) (by omega) l2 k2 t2 (by omega) (by omega)
  obtain ⟨τ3, e3, B3, j3, f3, a3⟩ := sb_x (P := P) (mark := mark) (σ0 := σ) (j := 3) (r := mpN P - 1 - 1) (ff := true) hb hX a2 B2 j2 (by omega) (by omega) (Or.inl l3) k3 (by omega) (by omega)
  obtain ⟨τ4, e4, B4, j4, f4, a4⟩ := sb_x (P := P) (mark := mark) (σ0 := σ) (j := 4) (r := mpN P - 1 - 1 - 1) (ff := false) hb hX a3 B3 j3 (by omega) (by omega) (Or.inl l4) k4 (by omega) (by omega)
  have e5 := b_end (P := P) (mark := mark) (fst := 0) (r := mpN P - 1 - 1 - 1 - 1) B4 (by omega) (by omega)
  exact ⟨τ4, e1.trans (e2.trans (e3.trans (e4.trans e5))), B4, j4, ((f1.tr f2).tr f3).tr f4⟩
/-- cross -/
theorem bm_5 {v1 v2 v3 v4 : Nat} (hf : 5000 ≤ mpN P) (hb : mpb P ≤ l) (hX : TxH bl N K) (B : BC σ t bl l c N K 5 5 lt tk) (h : JS σ l c 0 on inp pow msk mi bt E) (l1 : lt 1 = 80) (l2 : lt 2 = 80) (l3 : lt 3 = 80) (l4 : lt 4 = 80) (k1 : kdA bl (tk 1) = 2) (k2 : kdA bl (tk 2) = 2) (k3 : kdA bl (tk 3) = 2) (k4 : kdA bl (tk 4) = 2) (t1 : telA bl N K (nmA bl (tk 1)) = some v1) (t2 : telA bl N K (nmA bl (tk 2)) = some v2) (t3 : telA bl N K (nmA bl (tk 3)) = some v3) (t4 : telA bl N K (nmA bl (tk 4)) = some v4) :
    ∃ τ, mx_lp (f_X5_become_L63 P c t mark) (mpN P) ((1 : Int32), (1 : Int32), σ) = some τ ∧ BC τ t bl l c N K 5 5 lt tk ∧ JS τ l c 4 (upl (upl (upl (upl on 0 v1) 1 v2) 2 v3) 3 v4) inp pow msk mi bt E ∧ Fz (jFb σ l c) σ τ := by
  obtain ⟨τ1, e1, B1, j1, f1, a1⟩ := sb_P (P := P) (mark := mark) (fst := bI true) (σ0 := σ) (j := 1) (r := mpN P) hf hb hX rfl B h (by omega) (by omega) l1 k1 t1 (by omega) (by omega)
  obtain ⟨τ2, e2, B2, j2, f2, a2⟩ := sb_P (P := P) (mark := mark) (fst := bI true) (σ0 := σ) (j := 2) (r := mpN P - 1) hf hb hX a1 B1 j1 (by omega) (by omega) l2 k2 t2 (by omega) (by omega)
  obtain ⟨τ3, e3, B3, j3, f3, a3⟩ := sb_P (P := P) (mark := mark) (fst := bI true) (σ0 := σ) (j := 3) (r := mpN P - 1 - 1) hf hb hX a2 B2 j2 (by omega) (by omega) l3 k3 t3 (by omega) (by omega)
  obtain ⟨τ4, e4, B4, j4, f4, a4⟩ := sb_P (P := P) (mark := mark) (fst := bI true) (σ0 := σ) (j := 4) (r := mpN P - 1 - 1 - 1) hf hb hX a3 B3 j3 (by omega) (by omega) l4 k4 t4 (by omega) (by omega)
  have e5 := b_end (P := P) (mark := mark) (fst := bI true) (r := mpN P - 1 - 1 - 1 - 1) B4 (by omega) (by omega)
  exact ⟨τ4, e1.trans (e2.trans (e3.trans (e4.trans e5))), B4, j4, ((f1.tr f2).tr f3).tr f4⟩
/-- dyad -/
theorem bm_2 {v1 v2 mk : Nat} (hf : 5000 ≤ mpN P) (hb : mpb P ≤ l) (hX : TxH bl N K) (B : BC σ t bl l c N K 6 2 lt tk) (h : JS σ l c 0 on inp pow msk mi bt E) (l1 : lt 1 = 80) (l2 : lt 2 = 80) (l3 : lt 3 = 114) (l4 : lt 4 = 114) (l5 : lt 5 = 83) (k1 : kdA bl (tk 1) = 2) (k2 : kdA bl (tk 2) = 2) (k3 : kdA bl (tk 3) = 3) (k4 : kdA bl (tk 4) = 3) (k5 : kdA bl (tk 5) ≠ 3) (t1 : telA bl N K (nmA bl (tk 1)) = some v1) (t2 : telA bl N K (nmA bl (tk 2)) = some v2) :
    ∃ τ, mx_lp (f_X5_become_L63 P c t (q_n mk)) (mpN P) ((1 : Int32), (1 : Int32), σ) = some τ ∧ BC τ t bl l c N K 6 2 lt tk ∧ JS τ l c 2 (upl (upl on 0 v1) 1 v2) inp pow (if kdA bl (tk 5) = 63 then (1 : Int32) <<< (q_n mk &&& 31) else msk) (if kdA bl (tk 5) = 45 then 1 else 0) (if kdA bl (tk 5) = 63 then q_n mk else bt) (up (up E (c + 2) (fxV 2 (tpA bl (tk 3)) (nmB bl (nmD bl (tk 3))))) (c + 3) (fxV 2 (tpA bl (tk 4)) (nmB bl (nmD bl (tk 4))))) ∧ Fz (jFb σ l c) σ τ := by
  obtain ⟨τ1, e1, B1, j1, f1, a1⟩ := sb_P (P := P) (mark := q_n mk) (fst := bI true) (σ0 := σ) (j := 1) (r := mpN P) hf hb hX rfl B h (by omega) (by omega) l1 k1 t1 (by omega) (by omega)
  obtain ⟨τ2, e2, B2, j2, f2, a2⟩ := sb_P (P := P) (mark := q_n mk) (fst := bI true) (σ0 := σ) (j := 2) (r := mpN P - 1) hf hb hX a1 B1 j1 (by omega) (by omega) l2 k2 t2 (by omega) (by omega)
  obtain ⟨τ3, e3, B3, j3, f3, a3⟩ := sb_x (P := P) (mark := q_n mk) (σ0 := σ) (j := 3) (r := mpN P - 1 - 1) (ff := true) hb hX a2 B2 j2 (by omega) (by omega) (Or.inr l3) k3 (by omega) (by omega)
  obtain ⟨τ4, e4, B4, j4, f4, a4⟩ := sb_x (P := P) (mark := q_n mk) (σ0 := σ) (j := 4) (r := mpN P - 1 - 1 - 1) (ff := false) hb hX a3 B3 j3 (by omega) (by omega) (Or.inr l4) k4 (by omega) (by omega)
  obtain ⟨τ5, e5, B5, j5, f5, a5⟩ := sb_S (P := P) (mk := mk) (fst := 0) (σ0 := σ) (j := 5) (r := mpN P - 1 - 1 - 1 - 1) hb a4 B4 j4 (by omega) (by omega) l5 k5 (by omega)
  have e6 := b_end (P := P) (mark := q_n mk) (fst := 0) (r := mpN P - 1 - 1 - 1 - 1 - 1) B5 (by omega) (by omega)
  exact ⟨τ5, e1.trans (e2.trans (e3.trans (e4.trans (e5.trans e6)))), B5, j5, (((f1.tr f2).tr f3).tr f4).tr f5⟩
/-- slide -/
theorem bm_3 {v1 v3 v4 mk : Nat} (hf : 5000 ≤ mpN P) (hb : mpb P ≤ l) (hX : TxH bl N K) (B : BC σ t bl l c N K 6 3 lt tk) (h : JS σ l c 0 on inp pow msk mi bt E) (l1 : lt 1 = 80) (l2 : lt 2 = 114) (l3 : lt 3 = 80) (l4 : lt 4 = 80) (l5 : lt 5 = 83) (k1 : kdA bl (tk 1) = 2) (k2 : kdA bl (tk 2) = 3) (k3 : kdA bl (tk 3) = 2) (k4 : kdA bl (tk 4) = 2) (k5 : kdA bl (tk 5) ≠ 3) (t1 : telA bl N K (nmA bl (tk 1)) = some v1) (t3 : telA bl N K (nmA bl (tk 3)) = some v3) (t4 : telA bl N K (nmA bl (tk 4)) = some v4) :
    ∃ τ, mx_lp (f_X5_become_L63 P c t (q_n mk)) (mpN P) ((1 : Int32), (1 : Int32), σ) = some τ ∧ BC τ t bl l c N K 6 3 lt tk ∧ JS τ l c 3 (upl (upl (upl on 0 v1) 1 v3) 2 v4) inp pow (if kdA bl (tk 5) = 63 then (1 : Int32) <<< (q_n mk &&& 31) else msk) (if kdA bl (tk 5) = 45 then 1 else 0) (if kdA bl (tk 5) = 63 then q_n mk else bt) (up E (c + 2) (fxV 3 (tpA bl (tk 2)) (nmB bl (nmD bl (tk 2))))) ∧ Fz (jFb σ l c) σ τ := by
  obtain ⟨τ1, e1, B1, j1, f1, a1⟩ := sb_P (P := P) (mark := q_n mk) (fst := bI true) (σ0 := σ) (j := 1) (r := mpN P) hf hb hX rfl B h (by omega) (by omega) l1 k1 t1 (by omega) (by omega)
  obtain ⟨τ2, e2, B2, j2, f2, a2⟩ := sb_x (P := P) (mark := q_n mk) (σ0 := σ) (j := 2) (r := mpN P - 1) (ff := true) hb hX a1 B1 j1 (by omega) (by omega) (Or.inr l2) k2 (by omega) (by omega)
  obtain ⟨τ3, e3, B3, j3, f3, a3⟩ := sb_P (P := P) (mark := q_n mk) (fst := 0) (σ0 := σ) (j := 3) (r := mpN P - 1 - 1) hf hb hX a2 B2 j2 (by omega) (by omega) l3 k3 t3 (by omega) (by omega)
  obtain ⟨τ4, e4, B4, j4, f4, a4⟩ := sb_P (P := P) (mark := q_n mk) (fst := 0) (σ0 := σ) (j := 4) (r := mpN P - 1 - 1 - 1) hf hb hX a3 B3 j3 (by omega) (by omega) l4 k4 t4 (by omega) (by omega)
  obtain ⟨τ5, e5, B5, j5, f5, a5⟩ := sb_S (P := P) (mk := mk) (fst := 0) (σ0 := σ) (j := 5) (r := mpN P - 1 - 1 - 1 - 1) hb a4 B4 j4 (by omega) (by omega) l5 k5 (by omega)
  have e6 := b_end (P := P) (mark := q_n mk) (fst := 0) (r := mpN P - 1 - 1 - 1 - 1 - 1) B5 (by omega) (by omega)
  exact ⟨τ5, e1.trans (e2.trans (e3.trans (e4.trans (e5.trans e6)))), B5, j5, (((f1.tr f2).tr f3).tr f4).tr f5⟩
/-- crank, without its second number -/
theorem bm_1 {v1 vi vk : Nat} (hf : 5000 ≤ mpN P) (hb : mpb P ≤ l) (hX : TxH bl N K) (B : BC σ t bl l c N K 6 1 lt tk) (h : JS σ l c 0 on inp pow msk mi bt E) (l1 : lt 1 = 80) (l2 : lt 2 = 114) (l3 : lt 3 = 105) (l4 : lt 4 = 110) (l5 : lt 5 = 107) (k1 : kdA bl (tk 1) = 2) (k2 : kdA bl (tk 2) = 3) (k3 : kdA bl (tk 3) = 3) (k4 : kdA bl (tk 4) = 3) (k5 : kdA bl (tk 5) = 3) (t1 : telA bl N K (nmA bl (tk 1)) = some v1) (hi : (tpA bl (tk 3)).tdiv (nmB bl (nmD bl (tk 3))) = vi) (hi4 : vi < 4) (hk : (tpA bl (tk 5)).tdiv (nmB bl (nmD bl (tk 5))) = vk) (hk4 : vk < 1024) :
    ∃ τ w, w.toInt = (tpA bl (tk 4)).tdiv (nmB bl (nmD bl (tk 4))) ∧ mx_lp (f_X5_become_L63 P c t mark) (mpN P) ((1 : Int32), (1 : Int32), σ) = some τ ∧ BC τ t bl l c N K 6 1 lt tk ∧ JS τ l c 1 (upl on 0 v1) (q_n vi) w ((256 : Int32) <<< (q_n vi &&& 31)) mi bt (up (up (up E (c + 2) (fxV 1 (tpA bl (tk 2)) (nmB bl (nmD bl (tk 2))))) (c + 5) (g_D vk).1) (c + 6) (g_D vk).2) ∧ Fz (jFb σ l c) σ τ := by
  obtain ⟨τ1, e1, B1, j1, f1, a1⟩ := sb_P (P := P) (mark := mark) (fst := bI true) (σ0 := σ) (j := 1) (r := mpN P) hf hb hX rfl B h (by omega) (by omega) l1 k1 t1 (by omega) (by omega)
  obtain ⟨τ2, e2, B2, j2, f2, a2⟩ := sb_x (P := P) (mark := mark) (σ0 := σ) (j := 2) (r := mpN P - 1) (ff := true) hb hX a1 B1 j1 (by omega) (by omega) (Or.inr l2) k2 (by omega) (by omega)
  obtain ⟨τ3, e3, B3, j3, f3, a3⟩ := sb_i (P := P) (mark := mark) (fst := 0) (σ0 := σ) (j := 3) (r := mpN P - 1 - 1) hb hX a2 B2 j2 (by omega) (by omega) l3 k3 hi hi4 (by omega)
  obtain ⟨τ4, w, hw, e4, B4, j4, f4, a4⟩ := sb_n (P := P) (mark := mark) (fst := 0) (σ0 := σ) (j := 4) (r := mpN P - 1 - 1 - 1) hb hX a3 B3 j3 (by omega) (by omega) l4 k4 (by omega)
  obtain ⟨τ5, e5, B5, j5, f5, a5⟩ := sb_k (P := P) (mark := mark) (fst := 0) (σ0 := σ) (j := 5) (r := mpN P - 1 - 1 - 1 - 1) hb hX a4 B4 j4 (by omega) (by omega) l5 k5 hk hk4 (by omega)
  have e6 := b_end (P := P) (mark := mark) (fst := 0) (r := mpN P - 1 - 1 - 1 - 1 - 1) B5 (by omega) (by omega)
  exact ⟨τ5, w, hw, e1.trans (e2.trans (e3.trans (e4.trans (e5.trans e6)))), B5, j5, (((f1.tr f2).tr f3).tr f4).tr f5⟩
end HYS
