/-! ===== dc: places of points, the class's own ===== -/
section DCA
abbrev V2 : Type := BV × BV
def v_sub (A B : V2) : V2 := (b_sub A.1 B.1, b_sub A.2 B.2)
def n_sq (A : V2) : BV := b_add (b_sq A.1) (b_sq A.2)
def v_dot (A B : V2) : BV := b_add (b_mul A.1 B.1) (b_mul A.2 B.2)
def v_crs (A B : V2) : BV := b_sub (b_mul A.1 B.2) (b_mul A.2 B.1)
def v_mul (A B : V2) : V2 := (b_sub (b_mul A.1 B.1) (b_mul A.2 B.2), b_add (b_mul A.1 B.2) (b_mul A.2 B.1))
def v_sc (k : BV) (A B : V2) : V2 := (b_add A.1 (b_mul k B.1), b_add A.2 (b_mul k B.2))
def v_tn (s : Bool) (k : BV) (A B : V2) : V2 := if s then (b_add A.1 (b_mul k B.2), b_sub A.2 (b_mul k B.1)) else (b_sub A.1 (b_mul k B.2), b_add A.2 (b_mul k B.1))
def v_open (A : V2) : Bool := A.1.isNone || A.2.isNone
def g_judge (h : BV) : Nat × BV := match h with
  | none => (0, none)
  | some p => if 0 ≤ p.1 then (0, some p) else if p.2 < 0 then (3, some p) else (1, some (0, p.2))
def d_n (A B : V2) : BV := n_sq (v_sub B A)
def d_e (one two : BV) (A B : V2) : BV := b_share 2 (b_sub (b_add (d_n A B) one) two)
def d_t (one two : BV) (A B : V2) : BV := b_div (d_e one two A B) (d_n A B)
def d_j (one two : BV) (A B : V2) : Nat × BV := g_judge (b_sub one (b_mul (d_e one two A B) (d_t one two A B)))
def g_dyad (one two : BV) (A B : V2) (s : Bool) : Nat × V2 := ((d_j one two A B).1, v_tn s (b_root (b_div (d_j one two A B).2 (d_n A B))) (v_sc (d_t one two A B) A (v_sub B A)) (v_sub B A))
def s_e (A D E : V2) : BV := v_dot (v_sub D A) (v_sub E D)
def s_t (A D E : V2) : BV := b_div (b_neg (s_e A D E)) (n_sq (v_sub E D))
def s_j (one : BV) (A D E : V2) : Nat × BV := g_judge (b_sub one (b_add (n_sq (v_sub D A)) (b_mul (s_e A D E) (s_t A D E))))
def s_k (one : BV) (A D E : V2) : BV := b_root (b_div (s_j one A D E).2 (n_sq (v_sub E D)))
def g_slide (one : BV) (A D E : V2) (s : Bool) : Nat × V2 := ((s_j one A D E).1, v_sc (if s then b_sub (s_t A D E) (s_k one A D E) else b_add (s_t A D E) (s_k one A D E)) D (v_sub E D))
def g_cross (A B D E : V2) : V2 := v_sc (b_div (v_crs (v_sub D A) (v_sub E D)) (v_crs (v_sub B A) (v_sub E D))) A (v_sub B A)
def g_body (one two : BV) (A B : V2) : V2 := v_tn false two (v_sc one A (v_sub B A)) (v_sub B A)
/-- what a place comes to: 0 sure, 1 in doubt, 2 open, 3 none -/
def g_st (n : Nat) (v : V2) : Nat := if n = 3 then 3 else if v_open v then 2 else n
variable {A : BV} {P : mx_P} {σ σ0 : mx_S} {l a b t c kc : Nat} {r r' : rw3} {E : Nat → BV} {β : Type} {Q : β → Prop}
def eA (E : Nat → BV) (l j : Nat) : V2 := (E (l + 2 + 16 * j + 7 + 1), E (l + 2 + 16 * j + 7 + 2))
theorem px_of (hP : LyP (mxA σ0) (mxR σ0) a) (h1 : l ≤ a) (h2 : a + 2 < l + 676) : px σ0 l a := ⟨hP, ⟨by omega, by omega, LyP_x hP⟩, ⟨by omega, by omega, LyP_y hP⟩⟩
def jx (σ0 : mx_S) (l c : Nat) : Prop := LyJ (mxA σ0) (mxR σ0) c ∧ bx σ0 l (c + 2) ∧ bx σ0 l (c + 3) ∧ px σ0 l (c + 4) ∧ px σ0 l (c + 7) ∧ px σ0 l (c + 10) ∧ px σ0 l (c + 13)
theorem jx_of (hL : LyL (mxA σ0) (mxR σ0) l) (hk : kc < 40) : jx σ0 l (l + 2 + 16 * kc) := by
  have h := (LyL_j hL kc hk).2
  exact ⟨h, ⟨by omega, by omega, LyJ_a9 h⟩, ⟨by omega, by omega, LyJ_a10 h⟩, px_of (LyJ_a11 h) (by omega) (by omega), px_of (LyJ_a12 h) (by omega) (by omega), px_of (LyJ_a13 h) (by omega) (by omega), px_of (LyJ_a14 h) (by omega) (by omega)⟩
def tx (σ0 : mx_S) (l : Nat) : Prop := px σ0 l (l + 659) ∧ px σ0 l (l + 662) ∧ px σ0 l (l + 665) ∧ px σ0 l (l + 668) ∧ bx σ0 l (l + 671) ∧ bx σ0 l (l + 672) ∧ bx σ0 l (l + 673) ∧ bx σ0 l (l + 674) ∧ bx σ0 l (l + 675)
theorem tx_of (hL : LyL (mxA σ0) (mxR σ0) l) : tx σ0 l :=
  ⟨px_of (LyL_a11 hL) (by omega) (by omega), px_of (LyL_a12 hL) (by omega) (by omega), px_of (LyL_a13 hL) (by omega) (by omega), px_of (LyL_a14 hL) (by omega) (by omega), ⟨by omega, by omega, LyL_a15 hL⟩, ⟨by omega, by omega, LyL_a16 hL⟩, ⟨by omega, by omega, LyL_a17 hL⟩, ⟨by omega, by omega, LyL_a18 hL⟩, ⟨by omega, by omega, LyL_a19 hL⟩⟩
theorem w_lR {n v : Nat} {f : Nat → Option β} (g : G σ0 l E σ) (hL : LyL (mxA σ0) (mxR σ0) l) (h2 : mxR σ0 l n = some v) (h : Wp (f v) Q) : Wp ((mg_R σ l 7 n).bind f) Q := w_gR g (LyL_o hL) h2 h
theorem w_jR {n v : Nat} {f : Nat → Option β} (g : G σ0 l E σ) (hc : LyJ (mxA σ0) (mxR σ0) a) (h2 : mxR σ0 a n = some v) (h : Wp (f v) Q) : Wp ((mg_R σ a 5 n).bind f) Q := w_gR g (LyJ_o hc) h2 h
theorem w_jo {j : Nat} {f : Nat → Option β} (g : G σ0 l E σ) (hL : LyL (mxA σ0) (mxR σ0) l) (hj : j < 40) (h : Wp (f (l + 2 + 16 * j)) Q) : Wp ((ma_R σ (l + 1) 4 (q_n j)).bind f) Q := w_aR g (LyL_a0 hL) (by omega) hj (LyL_j hL j hj).1 h
theorem w_on0 {j : Nat} {f : Int32 → Option β} (g : G σ0 l E σ) (hc : LyJ (mxA σ0) (mxR σ0) c) (ho : mxI σ0 (c + 1) 0 = q_n j) (h : Wp (f (q_n j)) Q) : Wp ((ma_I σ (c + 1) 0 0).bind f) Q := w_aI (j := 0) g (LyJ_a2 hc) (by omega) (by omega) (by rw [ho]; exact h)
theorem w_on1 {j : Nat} {f : Int32 → Option β} (g : G σ0 l E σ) (hc : LyJ (mxA σ0) (mxR σ0) c) (ho : mxI σ0 (c + 1) 1 = q_n j) (h : Wp (f (q_n j)) Q) : Wp ((ma_I σ (c + 1) 0 1).bind f) Q := w_aI (j := 1) g (LyJ_a2 hc) (by omega) (by omega) (by rw [ho]; exact h)
theorem w_on2 {j : Nat} {f : Int32 → Option β} (g : G σ0 l E σ) (hc : LyJ (mxA σ0) (mxR σ0) c) (ho : mxI σ0 (c + 1) 2 = q_n j) (h : Wp (f (q_n j)) Q) : Wp ((ma_I σ (c + 1) 0 2).bind f) Q := w_aI (j := 2) g (LyJ_a2 hc) (by omega) (by omega) (by rw [ho]; exact h)
theorem w_on3 {j : Nat} {f : Int32 → Option β} (g : G σ0 l E σ) (hc : LyJ (mxA σ0) (mxR σ0) c) (ho : mxI σ0 (c + 1) 3 = q_n j) (h : Wp (f (q_n j)) Q) : Wp ((ma_I σ (c + 1) 0 3).bind f) Q := w_aI (j := 3) g (LyJ_a2 hc) (by omega) (by omega) (by rw [ho]; exact h)
theorem G_oe (g : G σ0 l E σ) (h : bx σ0 l a) : mg_I σ a 0 2 = some (if (E a).isNone then 1 else 0) := by
  rw [q_gI (G_A g h)]
  rcases RB_o (G_B g h) with ⟨a0, e, -⟩ | ⟨-, e⟩
  · rw [a0, e]; rfl
  · rcases G_B g h with ⟨h1, -⟩ | ⟨-, h1, -⟩
    · rw [e]; exact congrArg some h1
    · rw [e] at h1; cases h1
theorem w_open {s : Int32} {k : Int32 → mx_S → Option β} (g : G σ0 l E σ) (hc : LyJ (mxA σ0) (mxR σ0) c) (hx : px σ0 l (c + 7)) (h : Wp (k (if v_open (E (c + 7 + 1), E (c + 7 + 2)) then 2 else s) σ) Q) : Wp (mx_b2 (f_X7_openOr P c s σ) k) Q := by
  have e : f_X7_openOr P c s σ = some (if v_open (E (c + 7 + 1), E (c + 7 + 2)) then 2 else s, σ) := by
    unfold f_X7_openOr f_X7_openOr_D15
    unfold f_X8_isOpen f_X8_isOpen_D20 f_X8_isOpen_D25
    have z1 : ¬ (1 : Int32) = 0 := by decide
    have y1 : mr_Z 1 σ = some (1, σ) := if_pos (Or.inr rfl)
    have y0 : mr_Z 0 σ = some (0, σ) := if_pos (Or.inl rfl)
    have r0 := pr_0 (G_P g hx)
    have r1 := pr_1 (G_P g hx)
    have rc : mg_R σ c 5 12 = some (c + 7) := by rw [q_gR (by rw [g.1]; exact LyJ_o hc), g.2.1]; exact LyJ_r12 hc
    have ri : mx_is σ (c + 7) 8 = some () := pr_i (G_P g hx)
    simp only [↓bd rc, ↓bd ri, ↓bd r0, ↓bd r1, ↓bd (G_oe g hx.2.1), ↓bd (G_oe g hx.2.2), v_open]
    cases E (c + 7 + 1) <;> cases E (c + 7 + 2) <;> simp [y0, y1, q_b2, z1]
  rw [e]; exact h
theorem g_j3 (h : BV) : (g_judge h).1 = 0 ∨ (g_judge h).1 = 1 ∨ (g_judge h).1 = 3 := by
  cases h
  · exact Or.inl rfl
  · rename_i p
    show (if 0 ≤ p.1 then ((0, some p) : Nat × BV) else if p.2 < 0 then (3, some p) else (1, some (0, p.2))).1 = 0 ∨ (if 0 ≤ p.1 then ((0, some p) : Nat × BV) else if p.2 < 0 then (3, some p) else (1, some (0, p.2))).1 = 1 ∨ (if 0 ≤ p.1 then ((0, some p) : Nat × BV) else if p.2 < 0 then (3, some p) else (1, some (0, p.2))).1 = 3
    split
    · exact Or.inl rfl
    · split
      · exact Or.inr (Or.inr rfl)
      · exact Or.inr (Or.inl rfl)
theorem up_id {t : Nat} : up E t (E t) = E := by
  funext q; unfold up; split
  · rename_i h; rw [h]
  · rfl
theorem w_judge {k : Int32 → mx_S → Option β} (g : G σ0 l E σ) (hp : mpb P ≤ l) (hL : LyL (mxA σ0) (mxR σ0) l) (h : ∀ σ', G σ0 l (up E (l + 674) (g_judge (E (l + 674))).2) σ' → Wp (k (q_n (g_judge (E (l + 674))).1) σ') Q) : Wp (mx_b2 (f_X7_judgeRest P l σ) k) Q := by
  have hb : bx σ0 l (l + 674) := (tx_of hL).2.2.2.2.2.2.2.1
  have hA := G_A g hb
  have rl : mg_R σ l 7 18 = some (l + 674) := by rw [q_gR (by rw [g.1]; exact LyL_o hL), g.2.1]; exact LyL_r18 hL
  have oI := q_gI (k := 2) hA
  have o0 := q_gL (k := 0) hA
  have o1 := q_gL (k := 1) hA
  have key : ∃ σ', f_X7_judgeRest P l σ = some (q_n (g_judge (E (l + 674))).1, σ') ∧ G σ0 l (up E (l + 674) (g_judge (E (l + 674))).2) σ' := by
    unfold f_X7_judgeRest f_X7_judgeRest_D22
    simp only [↓bd rl, ↓bd oI, ↓bd o0, ↓bd o1, ↓bd (q_is hA), l_neg, l_nn]
    rcases RB_o (G_B g hb) with ⟨a0, e, a1, a2, a3⟩ | ⟨a0, e⟩
    · rw [if_pos a0]
      by_cases c1 : (mxL σ (l + 674) 0).toInt < 0
      · rw [if_pos c1]
        by_cases c2 : 0 ≤ (mxL σ (l + 674) 1).toInt
        · have ej : g_judge (E (l + 674)) = (1, some (0, (mxL σ (l + 674) 1).toInt)) := by
            rw [e]; unfold g_judge; dsimp only; rw [if_neg (by omega), if_neg (by omega)]
          obtain ⟨r, er, hr⟩ := c_keep (P := P) (x := 0) (y := mxL σ (l + 674) 1) hA (G_p hp hb) (by rw [q_l0]; exact c2)
          rw [q_l0, b_mk_in (by omega) (by omega)] at hr
          rw [if_pos c2, er, Option.bind_some, ej]
          exact ⟨_, rfl, G_bs g hb hr⟩
        · have ej : g_judge (E (l + 674)) = (3, E (l + 674)) := by
            rw [e]; unfold g_judge; dsimp only; rw [if_neg (by omega), if_pos (by omega)]
          rw [if_neg c2, ej]
          exact ⟨_, rfl, by rw [up_id]; exact g⟩
      · have ej : g_judge (E (l + 674)) = (0, E (l + 674)) := by
          rw [e]; unfold g_judge; dsimp only; rw [if_pos (by omega)]
        rw [if_neg c1, ej]
        exact ⟨_, rfl, by rw [up_id]; exact g⟩
    · have ej : g_judge (E (l + 674)) = (0, E (l + 674)) := by rw [e]; rfl
      rw [if_neg a0, ej]
      exact ⟨_, rfl, by rw [up_id]; exact g⟩
  obtain ⟨σ', e, hg⟩ := key
  rw [e]; exact h σ' hg
/-- the sign that a point has in a way -/
def sgI (bit minus w : Int32) : Bool := if bit < 0 then minus != 0 else ((w >>> (bit &&& 31)) &&& (1 : Int32)) == 1
theorem w_sign {w : Int32} {k : Int32 → mx_S → Option β} (g : G σ0 l E σ) (hc : LyJ (mxA σ0) (mxR σ0) c) (h : Wp (k (if sgI (mxI σ0 c 7) (mxI σ0 c 6) w then -1 else 1) σ) Q) : Wp (mx_b2 (f_X5_signIn P c w σ) k) Q := by
  have hb : ¬ bx σ0 l c := fun z => by have := z.2.2; rw [LyJ_o hc] at this; cases this
  have hA : mxA σ c = some (.inl 5) := by rw [g.1]; exact LyJ_o hc
  have e7 : mg_I σ c 5 7 = some (mxI σ0 c 7) := by rw [q_gI hA, (g.2.2.2.1 c 7 hb).1]
  have e6 : mg_I σ c 5 6 = some (mxI σ0 c 6) := by rw [q_gI hA, (g.2.2.2.1 c 6 hb).1]
  have e : f_X5_signIn P c w σ = some (if sgI (mxI σ0 c 7) (mxI σ0 c 6) w then -1 else 1, σ) := by
    unfold f_X5_signIn f_X5_signIn_D31 f_X5_signIn_D41
    simp only [↓bd e7, ↓bd e6]
    unfold sgI
    by_cases c1 : mxI σ0 c 7 < 0
    · rw [if_pos c1, if_pos c1]
      by_cases c2 : mxI σ0 c 6 = 0
      · rw [if_pos c2, c2]; rfl
      · rw [if_neg c2, if_pos (bne_iff_ne.mpr c2)]
    · rw [if_neg c1, if_neg c1]
      by_cases c2 : ((w >>> (mxI σ0 c 7 &&& 31)) &&& (1 : Int32)) = 1
      · rw [if_pos c2, if_pos (beq_iff_eq.mpr c2), if_neg (by decide)]
      · rw [if_neg c2, if_neg (fun z => c2 (beq_iff_eq.mp z)), if_pos trivial]
  rw [e]; exact h
theorem b_mk_inv {x y : Int} {p : Int × Int} (h : b_mk x y = some p) : p = (x, y) ∧ -2147483648 ≤ x ∧ y ≤ 2147483648 := by
  unfold b_mk at h
  by_cases c : x < -2147483648 ∨ 2147483648 < y
  · rw [if_pos c] at h; cases h
  · rw [if_neg c] at h; cases h; exact ⟨rfl, by omega, by omega⟩
theorem sq_ge {p : Int × Int} (h : b_sq A = some p) : 0 ≤ p.1 := by
  cases A
  · cases h
  · rename_i q
    have h : b_mk _ _ = some p := h
    rw [(b_mk_inv h).1]
    show 0 ≤ _ / (65536 : Int)
    refine Int.ediv_nonneg ?_ (by omega)
    have := sq_nn q.1
    have := sq_nn q.2
    split <;> omega
theorem add_ge {A B : BV} {p : Int × Int} (h1 : ∀ p, A = some p → 0 ≤ p.1) (h2 : ∀ p, B = some p → 0 ≤ p.1) (h : b_add A B = some p) : 0 ≤ p.1 := by
  cases A
  · cases h
  · cases B
    · cases h
    · rename_i q s
      have h : b_mk _ _ = some p := h
      rw [(b_mk_inv h).1]
      have := h1 _ rfl
      have := h2 _ rfl
      dsimp only; omega
theorem nsq_ge {V : V2} {p : Int × Int} (h : n_sq V = some p) : 0 ≤ p.1 := add_ge (fun _ h => sq_ge h) (fun _ h => sq_ge h) h
theorem div_ge {A B : BV} {p : Int × Int} (h1 : ∀ p, A = some p → 0 ≤ p.1 ∧ p.1 ≤ p.2) (h2 : ∀ p, B = some p → 0 ≤ p.1 ∧ p.1 ≤ p.2) (h : b_div A B = some p) : 0 ≤ p.1 := by
  cases A
  · cases h
  · cases B
    · cases h
    · rename_i q s
      have a1 := h1 _ rfl
      have a2 := h2 _ rfl
      have h : (if s.1 ≤ 0 ∧ 0 ≤ s.2 then none else if s.2 < 0 then b_dvp (-q.2, -q.1) (-s.2, -s.1) else b_dvp q s) = some p := h
      by_cases c : s.1 ≤ 0 ∧ 0 ≤ s.2
      · rw [if_pos c] at h; cases h
      · rw [if_neg c, if_neg (by omega)] at h
        unfold b_dvp at h
        rw [(b_mk_inv h).1]
        dsimp only
        rw [if_pos a1.1]
        exact Int.ediv_nonneg (by omega) (by omega)
end DCA
