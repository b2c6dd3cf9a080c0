/-! ===== da: a linkage's boxes as one picture; steps ===== -/
section DAA
variable {P : mx_P} {σ σ0 : mx_S} {l a b t : Nat} {r r' : rw3} {E : Nat → BV} {β : Type} {Q : β → Prop}
/-- a box of the linkage -/
def bx (σ0 : mx_S) (l q : Nat) : Prop := l ≤ q ∧ q < l + 676 ∧ mxA σ0 q = some (.inl 0)
def up (E : Nat → BV) (t : Nat) (v : BV) : Nat → BV := fun q => if q = t then v else E q
theorem up_e {t : Nat} {v : BV} : up E t v t = v := if_pos rfl
theorem up_n {t q : Nat} {v : BV} (h : q ≠ t) : up E t v q = E q := if_neg h
/-- all but the boxes is as in σ0, the boxes are E -/
def G (σ0 : mx_S) (l : Nat) (E : Nat → BV) (σ : mx_S) : Prop := mxA σ = mxA σ0 ∧ mxR σ = mxR σ0 ∧ (mxz σ = mxz σ0 ∧ mxu σ = mxu σ0) ∧ (∀ q j, ¬ bx σ0 l q → mxI σ q j = mxI σ0 q j ∧ mxL σ q j = mxL σ0 q j) ∧ ∀ q, bx σ0 l q → RB (rd σ q) (E q)
theorem G_bs {V : BV} (g : G σ0 l E σ) (ht : bx σ0 l t) (h : RB r V) : G σ0 l (up E t V) (bs σ t r) := by
  refine ⟨g.1, g.2.1, g.2.2.1, fun q j hq => ?_, fun q hq => ?_⟩
  · have hne : q ≠ t := fun e => hq (e ▸ ht)
    rw [I_bs hne, L_bs hne]; exact g.2.2.2.1 q j hq
  · by_cases hne : q = t
    · subst hne; rw [rd_e, up_e]; exact h
    · rw [rd_n hne, up_n hne]; exact g.2.2.2.2 q hq
theorem G_A (g : G σ0 l E σ) (h : bx σ0 l a) : mxA σ a = some (.inl 0) := by rw [g.1]; exact h.2.2
theorem G_B (g : G σ0 l E σ) (h : bx σ0 l a) : RB (rd σ a) (E a) := g.2.2.2.2 a h
theorem G_p (hp : mpb P ≤ l) (h : bx σ0 l a) : mpb P ≤ a := Nat.le_trans hp h.1
theorem w_b {o : Option mx_S} {V : BV} {k : mx_S → Option β} (g : G σ0 l E σ) (ht : bx σ0 l t) (h : ∃ r, o = some (bs σ t r) ∧ RB r V) (hk : ∀ σ', G σ0 l (up E t V) σ' → Wp (k σ') Q) : Wp (o.bind k) Q := by
  obtain ⟨r, rfl, hr⟩ := h
  exact hk _ (G_bs g ht hr)
section STEPS
variable {k : mx_S → Option β}
theorem w_plus (g : G σ0 l E σ) (hp : mpb P ≤ l) (ht : bx σ0 l t) (ha : bx σ0 l a) (hb : bx σ0 l b) (hk : ∀ σ', G σ0 l (up E t (b_add (E a) (E b))) σ' → Wp (k σ') Q) : Wp ((f_X0_plus P t a b σ).bind k) Q :=
  w_b g ht (c_plus (G_A g ht) (G_A g ha) (G_A g hb) (G_p hp ht) (G_B g ha) (G_B g hb)) hk
theorem w_minus (g : G σ0 l E σ) (hp : mpb P ≤ l) (ht : bx σ0 l t) (ha : bx σ0 l a) (hb : bx σ0 l b) (hk : ∀ σ', G σ0 l (up E t (b_sub (E a) (E b))) σ' → Wp (k σ') Q) : Wp ((f_X0_minus P t a b σ).bind k) Q :=
  w_b g ht (c_minus (G_A g ht) (G_A g ha) (G_A g hb) (G_p hp ht) (G_B g ha) (G_B g hb)) hk
theorem w_neg (g : G σ0 l E σ) (hp : mpb P ≤ l) (ht : bx σ0 l t) (ha : bx σ0 l a) (hk : ∀ σ', G σ0 l (up E t (b_neg (E a))) σ' → Wp (k σ') Q) : Wp ((f_X0_negative P t a σ).bind k) Q :=
  w_b g ht (c_neg (G_A g ht) (G_A g ha) (G_p hp ht) (G_B g ha)) hk
theorem w_copy (g : G σ0 l E σ) (hp : mpb P ≤ l) (ht : bx σ0 l t) (ha : bx σ0 l a) (hk : ∀ σ', G σ0 l (up E t (E a)) σ' → Wp (k σ') Q) : Wp ((f_X0_copy P t a σ).bind k) Q :=
  w_b g ht (c_copy (G_A g ht) (G_A g ha) (G_p hp ht) (G_B g ha)) hk
theorem w_p1 (g : G σ0 l E σ) (hp : mpb P ≤ l) (ht : bx σ0 l t) (ha : bx σ0 l a) (hb : bx σ0 l b) (hk : ∀ σ', G σ0 l (up E t (b_add (E t) (b_mul (E a) (E b)))) σ' → Wp (k σ') Q) : Wp ((f_X0_addProduct P t 1 a b σ).bind k) Q :=
  w_b g ht (c_p1 (G_A g ht) (G_A g ha) (G_A g hb) (G_p hp ht) (G_B g ht) (G_B g ha) (G_B g hb)) hk
theorem w_m1 (g : G σ0 l E σ) (hp : mpb P ≤ l) (ht : bx σ0 l t) (ha : bx σ0 l a) (hb : bx σ0 l b) (hk : ∀ σ', G σ0 l (up E t (b_sub (E t) (b_mul (E a) (E b)))) σ' → Wp (k σ') Q) : Wp ((f_X0_addProduct P t (-1) a b σ).bind k) Q :=
  w_b g ht (c_m1 (G_A g ht) (G_A g ha) (G_A g hb) (G_p hp ht) (G_B g ht) (G_B g ha) (G_B g hb)) hk
theorem w_m1' (g : G σ0 l E σ) (hp : mpb P ≤ l) (ht : bx σ0 l t) (ha : bx σ0 l a) (hb : bx σ0 l b) (hk : ∀ σ', G σ0 l (up E t (b_sub (E t) (b_mul (E a) (E b)))) σ' → Wp (k σ') Q) : Wp ((f_X0_addProduct P t (-(1 : Int32)) a b σ).bind k) Q :=
  w_m1 g hp ht ha hb hk
theorem w_p1' (g : G σ0 l E σ) (hp : mpb P ≤ l) (ht : bx σ0 l t) (ha : bx σ0 l a) (hb : bx σ0 l b) (hk : ∀ σ', G σ0 l (up E t (b_add (E t) (b_mul (E a) (E b)))) σ' → Wp (k σ') Q) : Wp ((f_X0_addProduct P t (-(-1 : Int32)) a b σ).bind k) Q :=
  w_p1 g hp ht ha hb hk
theorem w_sq (g : G σ0 l E σ) (hp : mpb P ≤ l) (ht : bx σ0 l t) (ha : bx σ0 l a) (hk : ∀ σ', G σ0 l (up E t (b_add (E t) (b_sq (E a)))) σ' → Wp (k σ') Q) : Wp ((f_X0_addSquare P t a σ).bind k) Q :=
  w_b g ht (c_sq (G_A g ht) (G_A g ha) (G_p hp ht) (G_B g ht) (G_B g ha)) hk
theorem w_whole {n : Int64} (g : G σ0 l E σ) (hp : mpb P ≤ l) (hn1 : -1000 ≤ n.toInt) (hn2 : n.toInt ≤ 1000) (ht : bx σ0 l t) (ha : bx σ0 l a) (hk : ∀ σ', G σ0 l (up E t (b_add (E t) (b_whole n.toInt (E a)))) σ' → Wp (k σ') Q) : Wp ((f_X0_addWhole P t n a σ).bind k) Q :=
  w_b g ht (c_whole hn1 hn2 (G_A g ht) (G_A g ha) (G_p hp ht) (G_B g ht) (G_B g ha)) hk
theorem w_share {n : Int64} (g : G σ0 l E σ) (hp : mpb P ≤ l) (hn : 0 < n.toInt) (ht : bx σ0 l t) (hk : ∀ σ', G σ0 l (up E t (b_share n.toInt (E t))) σ' → Wp (k σ') Q) : Wp ((f_X0_shareAmong P t n σ).bind k) Q :=
  w_b g ht (c_share hn (G_A g ht) (G_p hp ht) (G_B g ht)) hk
theorem w_share2 (g : G σ0 l E σ) (hp : mpb P ≤ l) (ht : bx σ0 l t) (hk : ∀ σ', G σ0 l (up E t (b_share 2 (E t))) σ' → Wp (k σ') Q) : Wp ((f_X0_shareAmong P t 2 σ).bind k) Q :=
  w_share (n := 2) g hp (by decide) ht hk
theorem w_frac {p q : Int64} (g : G σ0 l E σ) (hp : mpb P ≤ l) (hp1 : -1000000000000 ≤ p.toInt) (hp2 : p.toInt ≤ 1000000000000) (hq : 0 < q.toInt) (ht : bx σ0 l t) (hk : ∀ σ', G σ0 l (up E t (b_frac p.toInt q.toInt)) σ' → Wp (k σ') Q) : Wp ((f_X0_fraction P t p q σ).bind k) Q :=
  w_b g ht (c_frac hp1 hp2 hq (G_A g ht) (G_p hp ht)) hk
theorem w_quot (g : G σ0 l E σ) (hp : mpb P ≤ l) (ht : bx σ0 l t) (ha : bx σ0 l a) (hb : bx σ0 l b) (hk : ∀ σ', G σ0 l (up E t (b_div (E a) (E b))) σ' → Wp (k σ') Q) : Wp ((f_X0_quotient P t a b σ).bind k) Q :=
  w_b g ht (c_quot (G_A g ht) (G_A g ha) (G_A g hb) (G_p hp ht) (G_B g ha) (G_B g hb)) hk
theorem w_root (hf : 100 ≤ mpN P) (g : G σ0 l E σ) (hp : mpb P ≤ l) (ht : bx σ0 l t) (h0 : ∀ p, E t = some p → 0 ≤ p.1) (hk : ∀ σ', G σ0 l (up E t (b_root (E t))) σ' → Wp (k σ') Q) : Wp ((f_X0_takeRoot P t σ).bind k) Q :=
  w_b g ht (c_root hf (G_A g ht) (G_p hp ht) (G_B g ht) h0) hk
theorem w_keep0 (g : G σ0 l E σ) (hp : mpb P ≤ l) (ht : bx σ0 l t) (hk : ∀ σ', G σ0 l (up E t b_0) σ' → Wp (k σ') Q) : Wp ((f_X0_keep P t 0 0 σ).bind k) Q :=
  w_b g ht (c_keep0 (G_A g ht) (G_p hp ht)) hk
theorem w_keep1 (g : G σ0 l E σ) (hp : mpb P ≤ l) (ht : bx σ0 l t) (hk : ∀ σ', G σ0 l (up E t b_1) σ' → Wp (k σ') Q) : Wp ((f_X0_keep P t 65536 65536 σ).bind k) Q :=
  w_b g ht (c_keep1 (G_A g ht) (G_p hp ht)) hk
theorem w_shut (g : G σ0 l E σ) (hp : mpb P ≤ l) (ht : bx σ0 l t) (hk : ∀ σ', G σ0 l (up E t none) σ' → Wp (k σ') Q) : Wp ((f_X0_shut P t σ).bind k) Q :=
  w_b g ht (c_shut (G_A g ht) (G_p hp ht)) hk
/-- a pair of the linkage -/
def px (σ0 : mx_S) (l p : Nat) : Prop := LyP (mxA σ0) (mxR σ0) p ∧ bx σ0 l (p + 1) ∧ bx σ0 l (p + 2)
theorem G_P (g : G σ0 l E σ) (h : px σ0 l a) : LyP (mxA σ) (mxR σ) a := by rw [g.1, g.2.1]; exact h.1
theorem w_norm (g : G σ0 l E σ) (hp : mpb P ≤ l) (ht : bx σ0 l t) (ha : px σ0 l a) (h1 : a + 1 ≠ t) (h2 : a + 2 ≠ t) (hk : ∀ σ', G σ0 l (up E t (b_add (b_sq (E (a + 1))) (b_sq (E (a + 2))))) σ' → Wp (k σ') Q) : Wp ((f_X0_norm P t a σ).bind k) Q :=
  w_b g ht (c_norm (G_A g ht) (G_P g ha) (G_p hp ht) h1 h2 (G_B g ha.2.1) (G_B g ha.2.2)) hk
theorem w_dot (g : G σ0 l E σ) (hp : mpb P ≤ l) (ht : bx σ0 l t) (ha : px σ0 l a) (hb : px σ0 l b) (h1 : a + 1 ≠ t) (h2 : a + 2 ≠ t) (h3 : b + 1 ≠ t) (h4 : b + 2 ≠ t) (hk : ∀ σ', G σ0 l (up E t (b_add (b_mul (E (a + 1)) (E (b + 1))) (b_mul (E (a + 2)) (E (b + 2))))) σ' → Wp (k σ') Q) : Wp ((f_X0_dot P t a b σ).bind k) Q :=
  w_b g ht (c_dot (G_A g ht) (G_P g ha) (G_P g hb) (G_p hp ht) h1 h2 h3 h4 (G_B g ha.2.1) (G_B g ha.2.2) (G_B g hb.2.1) (G_B g hb.2.2)) hk
theorem w_cross (g : G σ0 l E σ) (hp : mpb P ≤ l) (ht : bx σ0 l t) (ha : px σ0 l a) (hb : px σ0 l b) (h1 : a + 1 ≠ t) (h2 : a + 2 ≠ t) (h3 : b + 1 ≠ t) (h4 : b + 2 ≠ t) (hk : ∀ σ', G σ0 l (up E t (b_sub (b_mul (E (a + 1)) (E (b + 2))) (b_mul (E (a + 2)) (E (b + 1))))) σ' → Wp (k σ') Q) : Wp ((f_X0_cross P t a b σ).bind k) Q :=
  w_b g ht (c_cross (G_A g ht) (G_P g ha) (G_P g hb) (G_p hp ht) h1 h2 h3 h4 (G_B g ha.2.1) (G_B g ha.2.2) (G_B g hb.2.1) (G_B g hb.2.2)) hk
end STEPS
/-! reads -/
theorem w_gR {c n v : Nat} {f : Nat → Option β} (g : G σ0 l E σ) (h1 : mxA σ0 a = some (.inl c)) (h2 : mxR σ0 a n = some v) (h : Wp (f v) Q) : Wp ((mg_R σ a c n).bind f) Q := by
  rw [q_gR (by rw [g.1]; exact h1), g.2.1, h2]; exact h
theorem w_is {c : Nat} {f : Unit → Option β} (g : G σ0 l E σ) (h1 : mxA σ0 a = some (.inl c)) (h : Wp (f ()) Q) : Wp ((mx_is σ a c).bind f) Q := by
  rw [q_is (by rw [g.1]; exact h1)]; exact h
theorem w_gI {c n : Nat} {f : Int32 → Option β} (g : G σ0 l E σ) (h1 : mxA σ0 a = some (.inl c)) (hc : c ≠ 0) (h : Wp (f (mxI σ0 a n)) Q) : Wp ((mg_I σ a c n).bind f) Q := by
  have hb : ¬ bx σ0 l a := fun z => hc (by have := z.2.2; rw [h1] at this; cases this; rfl)
  rw [q_gI (by rw [g.1]; exact h1), (g.2.2.2.1 a n hb).1]; exact h
theorem w_aI {c n j : Nat} {f : Int32 → Option β} (g : G σ0 l E σ) (h1 : mxA σ0 a = some (.inr (c, n))) (hn : n ≤ 65536) (hj : j < n) (h : Wp (f (mxI σ0 a j)) Q) : Wp ((ma_I σ a c (q_n j)).bind f) Q := by
  have hb : ¬ bx σ0 l a := fun z => by have := z.2.2; rw [h1] at this; cases this
  rw [q_aIn (by rw [g.1]; exact h1) hn hj, (g.2.2.2.1 a j hb).1]; exact h
theorem w_aR {c n j v : Nat} {f : Nat → Option β} (g : G σ0 l E σ) (h1 : mxA σ0 a = some (.inr (c, n))) (hn : n ≤ 65536) (hj : j < n) (h2 : mxR σ0 a j = some v) (h : Wp (f v) Q) : Wp ((ma_R σ a c (q_n j)).bind f) Q := by
  rw [q_aRn (by rw [g.1]; exact h1) hn hj, g.2.1, h2]; exact h
end DAA
