/-! ===== q7: the reference, the linkage, the house ===== -/
section Q7
variable {P : mx_P} {σ σ1 σ2 : mx_S} {p : Nat}
abbrev al_i (P : mx_P) (l : List (Nat × Nat × Nat)) : List q_I := l.map fun x => it_a P x.1 x.2.1 x.2.2
theorem al_cs : ∀ l : List (Nat × Nat × Nat), q_cs (al_i P l) = l.length
  | [] => rfl
  | x :: r => by
    show 1 + q_cs (al_i P r) = r.length + 1
    rw [al_cs r]; omega
theorem al_ks : ∀ l : List (Nat × Nat × Nat), q_ks (al_i P l) = l.map (·.1)
  | [] => rfl
  | x :: r => by
    show x.1 :: q_ks (al_i P r) = x.1 :: r.map (·.1)
    rw [al_ks r]
theorem al_ok : ∀ l : List (Nat × Nat × Nat), (∀ x ∈ l, x.2.2 ≤ 65536) → q_oks P (al_i P l)
  | [], _ => trivial
  | x :: r, h => ⟨ok_a (h x (List.mem_cons_self ..)), al_ok r fun y hy => h y (List.mem_cons_of_mem _ hy)⟩
theorem al_post : ∀ (l : List (Nat × Nat × Nat)) (a : Nat), q_post σ p a (al_i P l) → ∀ i k t n, l[i]? = some (k, t, n) → mxR σ p k = some (a + i) ∧ ly_a t n σ (a + i)
  | [], _, _, i, k, t, n, hi => by cases hi
  | x :: r, a, h, 0, k, t, n, hi => by
    cases hi
    exact ⟨h.1, h.2.1⟩
  | x :: r, a, h, i + 1, k, t, n, hi => by
    have := al_post r (a + 1) h.2.2 i k t n hi
    rwa [show a + 1 + i = a + (i + 1) by omega] at this
/-- an object and its arrays behind it -/
def LyO (A : Nat → Option mx_Sh) (R : Nat → Nat → Option Nat) (ci : Nat) (l : List (Nat × Nat × Nat)) (a : Nat) : Prop := A a = some (.inl ci) ∧ ∀ i k t n, l[i]? = some (k, t, n) → R a k = some (a + 1 + i) ∧ A (a + 1 + i) = some (.inr (t, n))
/-- zeros from a to b -/
def Zr (σ : mx_S) (a b : Nat) : Prop := ∀ q, a ≤ q → q < b → ∀ j, mxI σ q j = 0 ∧ mxL σ q j = 0
theorem LyO_of {ci : Nat} {l : List (Nat × Nat × Nat)} {a : Nat} (h : mxA σ a = some (.inl ci) ∧ (∀ j, mxI σ a j = 0 ∧ mxL σ a j = 0) ∧ q_post σ a (a + 1) (al_i P l)) : LyO (mxA σ) (mxR σ) ci l a ∧ Zr σ a (a + 1 + l.length) := by
  have hp := al_post l (a + 1) h.2.2
  refine ⟨⟨h.1, fun i k t n hi => ⟨(hp i k t n hi).1, (hp i k t n hi).2.1⟩⟩, fun q h1 h2 j => ?_⟩
  by_cases e : q = a
  · subst e; exact h.2.1 j
  · have hl : q - (a + 1) < l.length := by omega
    have := (hp (q - (a + 1)) _ _ _ (List.getElem?_eq_getElem hl)).2.2 j
    rwa [show a + 1 + (q - (a + 1)) = q by omega] at this
def al12 : List (Nat × Nat × Nat) := [(1, 0, 4000), (11, 1, 320), (12, 1, 320), (13, 3, 320), (21, 0, 40), (22, 0, 160), (23, 1, 40), (24, 1, 40), (25, 1, 40), (26, 1, 40), (27, 0, 40), (28, 0, 40), (29, 0, 40), (30, 0, 40), (31, 0, 40), (32, 0, 320), (33, 0, 40), (34, 0, 4), (35, 0, 40), (36, 0, 40), (37, 0, 40), (39, 0, 460), (40, 0, 460), (41, 0, 40), (42, 0, 160), (43, 0, 160), (44, 1, 160), (45, 0, 120), (46, 0, 40), (47, 0, 160), (48, 0, 40), (49, 3, 40), (51, 0, 1400), (52, 0, 1400), (56, 3, 1024), (58, 0, 24), (59, 0, 24), (61, 0, 20), (62, 0, 20), (63, 0, 20), (64, 3, 20), (65, 0, 12), (66, 0, 12), (67, 0, 12), (69, 1, 416), (70, 1, 416), (71, 0, 12), (73, 0, 1200), (75, 0, 30), (76, 0, 30), (77, 1, 30), (78, 1, 30), (79, 0, 30), (81, 0, 30), (82, 0, 30), (83, 1, 30), (84, 1, 30), (85, 0, 30), (86, 0, 8), (87, 1, 192), (88, 1, 192), (92, 0, 200), (93, 3, 36), (94, 0, 6), (96, 0, 40), (97, 0, 40), (98, 0, 40), (99, 0, 40), (100, 3, 40), (101, 1, 40), (104, 0, 300), (106, 0, 40), (107, 0, 40), (108, 0, 40), (109, 0, 40), (110, 3, 40), (111, 1, 40)]
def al10 : List (Nat × Nat × Nat) := [(0, 2, 4000), (13, 0, 6), (14, 0, 6), (15, 1, 6), (16, 0, 6), (17, 0, 6), (18, 1, 450)]
def al6 : List (Nat × Nat × Nat) := [(1, 0, 156), (4, 0, 15), (5, 0, 15), (6, 0, 36), (7, 0, 6), (8, 0, 6), (9, 0, 1024)]
def al2 : List (Nat × Nat × Nat) := [(2, 0, 300), (5, 0, 40), (6, 0, 40), (7, 0, 40), (8, 0, 40), (9, 3, 40), (10, 1, 40)]
def al9 : List (Nat × Nat × Nat) := [(1, 1, 24), (2, 1, 24)]
abbrev ly_12 (P : mx_P) : mx_S → Nat → Prop := fun σ a => mxA σ a = some (.inl 12) ∧ (∀ j, mxI σ a j = 0 ∧ mxL σ a j = 0) ∧ q_post σ a (a + 1) (al_i P al12)
set_option maxRecDepth 4000 in
theorem ok_12 : q_Ok P (mk_o P 12 114 (f_X12_init P)) 78 15704 (ly_12 P) :=
  by
  have h := ok_o (P := P) (ci := 12) (n := 114) (f := f_X12_init P) (l := al_i P al12) (al_ok al12 (by decide)) (by rw [al_ks]; decide) (fun p σ => by simp only [f_X12_init, al_i, al12, List.map_cons, List.map_nil, it_a, q_run, q_n, Int32.reduceOfNat])
  have e1 : 1 + q_cs (al_i P al12) = 78 := by simp only [al_i, al12, List.map_cons, List.map_nil, it_a, q_cs]
  have e2 : 114 + q_us (al_i P al12) = 15704 := by simp only [al_i, al12, List.map_cons, List.map_nil, it_a, q_us]
  rw [e1, e2] at h
  exact h
theorem qn_ge {i n : Nat} (h : i < n) (hn : n < 2147483648) : ¬ q_n n ≤ q_n i := by rw [q_nLe hn (by omega)]; omega
theorem j_joints (hN : 40 < mpN P) : j_Ok P 7 0 (fun p σ => mx_b2 (mn_A P σ 4 (q_n 40)) fun b σ2 => (mp_R P σ2 p 7 0 b).bind fun σ4 => mx_lp (f_X7_init_L15 P p) (mpN P) (0, σ4)) (1 + 16 * 40) (40 + 62 * 40) (ly_f 4 40 16 (ly_5 P)) := by
  refine j_fill (f_X7_init_L15 P) (by omega) hN ok_5.2 (fun p b i τ hp hb hi hA hpA hR hbz hpz hpb hr => ?_) (fun p τ => ?_)
  · obtain ⟨τ1, τ', a1, a2, a3⟩ := fill_step (P := P) (B := mk_o P 5 20 (f_X5_init P)) (ci := 5) ok_5 (fun σ a h => h.1) (by omega) hi (by omega) hA hbz hb hr
    refine ⟨τ', ?_, a3⟩
    show f_X7_init_B15 P p (q_n i) τ = _
    unfold f_X7_init_B15
    rw [show (40 : Int32) = q_n 40 from rfl, if_neg (qn_ge hi (by omega)), q_gR hpA, hR, Option.bind_some, mk_use a1, a2, Option.bind_some, Option.bind_some, q_nS]
  · show f_X7_init_B15 P p (q_n 40) τ = _
    unfold f_X7_init_B15
    rw [show (40 : Int32) = q_n 40 from rfl, if_pos ((q_nLe (by omega) (by omega)).mpr (Nat.le_refl _))]
theorem j_plates (hN : 8 < mpN P) : j_Ok P 11 2 (fun p σ => mx_b2 (mn_A P σ 6 (q_n 8)) fun b σ2 => (mp_R P σ2 p 11 2 b).bind fun σ4 => mx_lp (f_X11_init_L37 P p) (mpN P) (0, σ4)) (1 + 3 * 8) (8 + 51 * 8) (ly_f 6 8 3 (ly_9 P)) := by
  refine j_fill (f_X11_init_L37 P) (by omega) hN ok_9.2 (fun p b i τ hp hb hi hA hpA hR hbz hpz hpb hr => ?_) (fun p τ => ?_)
  · obtain ⟨τ1, τ', a1, a2, a3⟩ := fill_step (P := P) (B := mk_o P 9 3 (f_X9_init P)) (ci := 9) ok_9 (fun σ a h => h.1) (by omega) hi (by omega) hA hbz hb hr
    refine ⟨τ', ?_, a3⟩
    show f_X11_init_B37 P p (q_n i) τ = _
    unfold f_X11_init_B37
    rw [show (8 : Int32) = q_n 8 from rfl, if_neg (qn_ge hi (by omega)), q_gR hpA, hR, Option.bind_some, mk_use a1, a2, Option.bind_some, Option.bind_some, q_nS]
  · show f_X11_init_B37 P p (q_n 8) τ = _
    unfold f_X11_init_B37
    rw [show (8 : Int32) = q_n 8 from rfl, if_pos ((q_nLe (by omega) (by omega)).mpr (Nat.le_refl _))]
theorem j_aims (hN : 4 < mpN P) : j_Ok P 7 5 (fun p σ => mx_b2 (mn_A P σ 5 (q_n 4)) fun b σ2 => (mp_R P σ2 p 7 5 b).bind fun σ4 => mx_lp (f_X7_init_L65 P p) (mpN P) (0, σ4)) (1 + 3 * 4) (4 + 8 * 4) (ly_f 5 4 3 ly_m) := by
  refine j_fill (f_X7_init_L65 P) (by omega) hN ly_m_loc (fun p b i τ hp hb hi hA hpA hR hbz hpz hpb hr => ?_) (fun p τ => ?_)
  · obtain ⟨τ1, τ', a1, a2, a3, a4, a5, a6, a7⟩ := fill_step (P := P) (B := mk_o P 8 2 (f_X8_init P)) (ci := 8) ok_8 (fun σ a h => h.1) (by omega) hi (by omega) hA hbz hb hr
    obtain ⟨b1, b2, b3, b4, b5, b6, -⟩ := a7
    have hz1 : mpb P ≤ mxz τ + 1 := by omega
    refine ⟨mx_setI (mx_setL (mx_setL τ' (mxz τ + 1) 0 65536) (mxz τ + 1) 1 65536) (mxz τ + 1) 2 0, ?_, a3, a4, ?_, a6, ?_⟩
    · show f_X7_init_B65 P p (q_n i) τ = _
      unfold f_X7_init_B65
      rw [show (4 : Int32) = q_n 4 from rfl, if_neg (qn_ge hi (by omega)), q_gR hpA, hR, Option.bind_some, mk_use a1, a2, Option.bind_some]
      rw [q_gR ((a5.2.1 p hpz).trans hpA), a5.2.2.2 p 5 hpz (Or.inl hpb), hR, Option.bind_some, q_aRn ((a5.2.1 b hbz).trans hA) (by omega) hi, a6, Option.bind_some, q_gR b1, b3, Option.bind_some, q_is b4.1, Option.bind_some, k_keep b4.1 hz1, Option.bind_some, Option.bind_some, q_nS]
      rfl
    · refine ⟨a5.1, a5.2.1, fun q j hq => ?_, a5.2.2.2⟩
      have hne : ∀ k : Nat, ¬ (q = mxz τ + 1 ∧ j = k) := fun k e => by omega
      rw [q_II, if_neg (hne _), q_LI, q_LL, if_neg (hne _), q_LL, if_neg (hne _)]
      exact a5.2.2.1 q j hq
    · refine ⟨b1, b3, b5, b4.1, b6.1, fun j => ?_, ?_, ?_, fun j => ⟨?_, ?_⟩⟩
      · rw [q_II]; split
        · rfl
        · exact (b4.2 j).1
      · rw [q_LI, q_LL, if_neg (by omega), q_LL, if_pos ⟨rfl, rfl⟩]
      · rw [q_LI, q_LL, if_pos ⟨rfl, rfl⟩]
      · rw [q_II, if_neg (by omega)]; exact (b6.2 j).1
      · rw [q_LI, q_LL, if_neg (by omega), q_LL, if_neg (by omega)]; exact (b6.2 j).2
  · show f_X7_init_B65 P p (q_n 4) τ = _
    unfold f_X7_init_B65
    rw [show (4 : Int32) = q_n 4 from rfl, if_pos ((q_nLe (by omega) (by omega)).mpr (Nat.le_refl _))]
abbrev jt (P : mx_P) (ci : Nat) (x : q_I) : q_J := (x.1, (fun p σ => mx_b2 (x.2.1 σ) fun b σ2 => mp_R P σ2 p ci x.1 b), x.2.2.1, x.2.2.2.1, x.2.2.2.2)
abbrev ji_joints (P : mx_P) : q_J := (0, (fun p σ => mx_b2 (mn_A P σ 4 (q_n 40)) fun b σ2 => (mp_R P σ2 p 7 0 b).bind fun σ4 => mx_lp (f_X7_init_L15 P p) (mpN P) (0, σ4)), 641, 2520, ly_f 4 40 16 (ly_5 P))
abbrev ji_aims (P : mx_P) : q_J := (5, (fun p σ => mx_b2 (mn_A P σ 5 (q_n 4)) fun b σ2 => (mp_R P σ2 p 7 5 b).bind fun σ4 => mx_lp (f_X7_init_L65 P p) (mpN P) (0, σ4)), 13, 36, ly_f 5 4 3 ly_m)
abbrev ji_plates (P : mx_P) : q_J := (2, (fun p σ => mx_b2 (mn_A P σ 6 (q_n 8)) fun b σ2 => (mp_R P σ2 p 11 2 b).bind fun σ4 => mx_lp (f_X11_init_L37 P p) (mpN P) (0, σ4)), 25, 416, ly_f 6 8 3 (ly_9 P))
abbrev ls_7 (P : mx_P) : List q_J := [ji_joints P, jt P 7 (it_a P 1 0 40), jt P 7 (it_a P 4 0 4), ji_aims P, jt P 7 (it_a P 7 0 256), jt P 7 (it_a P 8 0 256), jt P 7 (it_8 P 11), jt P 7 (it_8 P 12), jt P 7 (it_8 P 13), jt P 7 (it_8 P 14), jt P 7 (it_0 P 15), jt P 7 (it_0 P 16), jt P 7 (it_0 P 17), jt P 7 (it_0 P 18), jt P 7 (it_0 P 19)]
abbrev ly_7 (P : mx_P) : mx_S → Nat → Prop := fun σ a => mxA σ a = some (.inl 7) ∧ (∀ j, mxI σ a j = 0 ∧ mxL σ a j = 0) ∧ j_post σ a (a + 1) (ls_7 P)
theorem q_bdb2 {α β γ ε : Type} (o : Option (α × β)) (g : α → β → Option γ) (h : γ → Option ε) : (mx_b2 o g).bind h = mx_b2 o fun a b => (g a b).bind h := by
  cases o <;> rfl
theorem q_bdbd {α γ ε : Type} (o : Option α) (g : α → Option γ) (h : γ → Option ε) : (o.bind g).bind h = o.bind fun a => (g a).bind h := by
  cases o <;> rfl
theorem q_bdsm (o : Option mx_S) : (o.bind fun σ => some σ) = o := by cases o <;> rfl
theorem ok_7 (hN : 40 < mpN P) : q_Ok P (mk_o P 7 20 (f_X7_init P)) 676 3179 (ly_7 P) := by
  have h := ok_j (P := P) (ci := 7) (n := 20) (f := f_X7_init P) (l := ls_7 P) ⟨j_joints hN, j_of (ok_a (by decide)), j_of (ok_a (by decide)), j_aims (by omega), j_of (ok_a (by decide)), j_of (ok_a (by decide)), j_of ok_8, j_of ok_8, j_of ok_8, j_of ok_8, j_of ok_0, j_of ok_0, j_of ok_0, j_of ok_0, j_of ok_0, trivial⟩ (by show ([0, 1, 4, 5, 7, 8, 11, 12, 13, 14, 15, 16, 17, 18, 19] : List Nat).Nodup; decide) (fun p σ => by simp only [f_X7_init, j_run, jt, ji_joints, ji_aims, it_a, it_8, it_0, mk_o, q_b2b2, q_b2bd, q_b2, q_bdb2, q_bdbd, q_n, Int32.reduceOfNat])
  have e1 : 1 + j_cs (ls_7 P) = 676 := by simp only [ls_7, ji_joints, ji_aims, jt, it_a, it_8, it_0, j_cs]
  have e2 : 20 + j_us (ls_7 P) = 3179 := by simp only [ls_7, ji_joints, ji_aims, jt, it_a, it_8, it_0, j_us]
  rw [e1, e2] at h
  exact h
abbrev it_4 (P : mx_P) (k : Nat) : q_I := (k, mk_o P 4 18 (f_X4_init P), 78, 2299, ly_4 P)
abbrev it_10 (P : mx_P) (k : Nat) : q_I := (k, mk_o P 10 20 (f_X10_init P), 8, 4500, ly_10 P)
abbrev it_6 (P : mx_P) (k : Nat) : q_I := (k, mk_o P 6 10 (f_X6_init P), 8, 1268, ly_6 P)
abbrev it_2 (P : mx_P) (k : Nat) : q_I := (k, mk_o P 2 11 (f_X2_init P), 8, 551, ly_2 P)
abbrev it_7 (P : mx_P) (k : Nat) : q_I := (k, mk_o P 7 20 (f_X7_init P), 676, 3179, ly_7 P)
abbrev it_1 (P : mx_P) (k : Nat) : q_I := (k, mk_o P 1 8 (f_X1_init P), 8, 164, ly_1 P)
abbrev ls_11 (P : mx_P) : List q_J := [jt P 11 (it_10 P 0), jt P 11 (it_4 P 1), ji_plates P, jt P 11 (it_6 P 3), jt P 11 (it_2 P 4), jt P 11 (it_3 P 5), jt P 11 (it_7 P 6), jt P 11 (it_7 P 7), jt P 11 (it_1 P 8), jt P 11 (it_1 P 9)]
abbrev ly_11 (P : mx_P) : mx_S → Nat → Prop := fun σ a => mxA σ a = some (.inl 11) ∧ (∀ j, mxI σ a j = 0 ∧ mxL σ a j = 0) ∧ j_post σ a (a + 1) (ls_11 P)
theorem ok_11 (hN : 40 < mpN P) : q_Ok P (mk_o P 11 10 (f_X11_init P)) 1497 15733 (ly_11 P) := by
  have h := ok_j (P := P) (ci := 11) (n := 10) (f := f_X11_init P) (l := ls_11 P) ⟨j_of ok_10, j_of ok_4, j_plates (by omega), j_of ok_6, j_of ok_2, j_of ok_3, j_of (ok_7 hN), j_of (ok_7 hN), j_of ok_1, j_of ok_1, trivial⟩ (by show ([0, 1, 2, 3, 4, 5, 6, 7, 8, 9] : List Nat).Nodup; decide) (fun p σ => by simp only [f_X11_init, j_run, jt, ji_plates, it_10, it_4, it_6, it_2, it_3, it_7, it_1, mk_o, q_b2b2, q_b2bd, q_b2, q_bdb2, q_bdbd, q_n, Int32.reduceOfNat])
  have e1 : 1 + j_cs (ls_11 P) = 1497 := by simp only [ls_11, ji_plates, jt, it_10, it_4, it_6, it_2, it_3, it_7, it_1, j_cs]
  have e2 : 10 + j_us (ls_11 P) = 15733 := by simp only [ls_11, ji_plates, jt, it_10, it_4, it_6, it_2, it_3, it_7, it_1, j_us]
  rw [e1, e2] at h
  exact h
end Q7
