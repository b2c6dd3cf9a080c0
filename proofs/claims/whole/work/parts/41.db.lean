/-! ===== db: pairs of the linkage ===== -/
section DBA
variable {P : mx_P} {σ σ0 : mx_S} {l a b t c : Nat} {r r' : rw3} {E : Nat → BV} {β : Type} {Q : β → Prop}
theorem w_bis {f : Unit → Option β} (g : G σ0 l E σ) (h1 : bx σ0 l a) (h : Wp (f ()) Q) : Wp ((mx_is σ a 0).bind f) Q := w_is g h1.2.2 h
theorem w_pis {f : Unit → Option β} (g : G σ0 l E σ) (h1 : px σ0 l a) (h : Wp (f ()) Q) : Wp ((mx_is σ a 8).bind f) Q := w_is g h1.1.1 h
theorem w_px {f : Nat → Option β} (g : G σ0 l E σ) (h1 : px σ0 l a) (h : Wp (f (a + 1)) Q) : Wp ((mg_R σ a 8 0).bind f) Q := w_gR g h1.1.1 (LyP_r0 h1.1) h
theorem w_py {f : Nat → Option β} (g : G σ0 l E σ) (h1 : px σ0 l a) (h : Wp (f (a + 2)) Q) : Wp ((mg_R σ a 8 1).bind f) Q := w_gR g h1.1.1 (LyP_r1 h1.1) h
theorem px_ne (ha : px σ0 l a) (hb : px σ0 l b) : a + 1 ≠ b ∧ a + 2 ≠ b ∧ a + 2 ≠ b + 1 := by
  have h1 := ha.2.1.2.2
  have h2 := ha.2.2.2.2
  have h3 := hb.1.1
  have h4 := hb.2.1.2.2
  refine ⟨fun e => ?_, fun e => ?_, fun e => ?_⟩
  · rw [e, h3] at h1; cases h1
  · rw [e, h3] at h2; cases h2
  · have h5 := ha.2.1.2.2
    have : a + 1 = b := by omega
    rw [this, h3] at h5; cases h5
theorem up2 {t : Nat} {x y : BV} : up (up E t x) t y = up E t y := by
  funext q; unfold up; split <;> rfl
theorem up_c {s t : Nat} {x y : BV} (h : s ≠ t) : up (up E s x) t y = up (up E t y) s x := by
  funext q; unfold up
  by_cases h1 : q = t
  · rw [if_pos h1, if_neg (by omega), if_pos h1]
  · rw [if_neg h1]
    by_cases h2 : q = s
    · rw [if_pos h2, if_pos h2]
    · rw [if_neg h2, if_neg h2, if_neg h1]
section ST
variable {k : mx_S → Option β}
theorem w_Pminus (g : G σ0 l E σ) (hp : mpb P ≤ l) (ht : px σ0 l t) (ha : px σ0 l a) (hb : px σ0 l b) (hk : ∀ σ', G σ0 l (up (up E (t + 1) (b_sub (E (a + 1)) (E (b + 1)))) (t + 2) (b_sub (E (a + 2)) (E (b + 2)))) σ' → Wp (k σ') Q) : Wp ((f_X8_minus P t a b σ).bind k) Q := by
  refine Wp_b (Wp_mo (Q := fun σ' => G σ0 l (up (up E (t + 1) (b_sub (E (a + 1)) (E (b + 1)))) (t + 2) (b_sub (E (a + 2)) (E (b + 2)))) σ') ?_ hk)
  unfold f_X8_minus
  refine w_px g ht (w_px g ha (w_px g hb (w_bis g ht.2.1 (w_minus g hp ht.2.1 ha.2.1 hb.2.1 fun σ1 g1 => ?_))))
  refine w_py g1 ht (w_py g1 ha (w_py g1 hb (w_bis g1 ht.2.2 (w_minus g1 hp ht.2.2 ha.2.2 hb.2.2 fun σ2 g2 => Wp_s ?_))))
  rw [up_n (px_ne ha ht).2.2, up_n (px_ne hb ht).2.2] at g2; exact g2
theorem w_Pcopy (g : G σ0 l E σ) (hp : mpb P ≤ l) (ht : px σ0 l t) (ha : px σ0 l a) (hk : ∀ σ', G σ0 l (up (up E (t + 1) (E (a + 1))) (t + 2) (E (a + 2))) σ' → Wp (k σ') Q) : Wp ((f_X8_copy P t a σ).bind k) Q := by
  refine Wp_b (Wp_mo (Q := fun σ' => G σ0 l (up (up E (t + 1) (E (a + 1))) (t + 2) (E (a + 2))) σ') ?_ hk)
  unfold f_X8_copy
  refine w_px g ht (w_px g ha (w_bis g ht.2.1 (w_copy g hp ht.2.1 ha.2.1 fun σ1 g1 => ?_)))
  refine w_py g1 ht (w_py g1 ha (w_bis g1 ht.2.2 (w_copy g1 hp ht.2.2 ha.2.2 fun σ2 g2 => Wp_s ?_)))
  rw [up_n (px_ne ha ht).2.2] at g2; exact g2
theorem w_Padd (g : G σ0 l E σ) (hp : mpb P ≤ l) (ht : px σ0 l t) (hc : bx σ0 l c) (ha : px σ0 l a) (h1 : c ≠ t + 1) (hk : ∀ σ', G σ0 l (up (up E (t + 1) (b_add (E (t + 1)) (b_mul (E c) (E (a + 1))))) (t + 2) (b_add (E (t + 2)) (b_mul (E c) (E (a + 2))))) σ' → Wp (k σ') Q) : Wp ((f_X8_add P t c a σ).bind k) Q := by
  refine Wp_b (Wp_mo (Q := fun σ' => G σ0 l (up (up E (t + 1) (b_add (E (t + 1)) (b_mul (E c) (E (a + 1))))) (t + 2) (b_add (E (t + 2)) (b_mul (E c) (E (a + 2))))) σ') ?_ hk)
  unfold f_X8_add
  refine w_px g ht (w_px g ha (w_bis g ht.2.1 (w_p1 g hp ht.2.1 hc ha.2.1 fun σ1 g1 => ?_)))
  refine w_py g1 ht (w_py g1 ha (w_bis g1 ht.2.2 (w_p1 g1 hp ht.2.2 hc ha.2.2 fun σ2 g2 => Wp_s ?_)))
  rw [up_n (px_ne ha ht).2.2, up_n h1, up_n (show t + 2 ≠ t + 1 by omega)] at g2; exact g2
theorem w_Pturn1 (g : G σ0 l E σ) (hp : mpb P ≤ l) (ht : px σ0 l t) (hc : bx σ0 l c) (ha : px σ0 l a) (h1 : c ≠ t + 1) (h2 : a ≠ t) (hk : ∀ σ', G σ0 l (up (up E (t + 1) (b_sub (E (t + 1)) (b_mul (E c) (E (a + 2))))) (t + 2) (b_add (E (t + 2)) (b_mul (E c) (E (a + 1))))) σ' → Wp (k σ') Q) : Wp ((f_X8_addTurned P t 1 c a σ).bind k) Q := by
  refine Wp_b (Wp_mo (Q := fun σ' => G σ0 l (up (up E (t + 1) (b_sub (E (t + 1)) (b_mul (E c) (E (a + 2))))) (t + 2) (b_add (E (t + 2)) (b_mul (E c) (E (a + 1))))) σ') ?_ hk)
  unfold f_X8_addTurned
  refine w_px g ht (w_py g ha (w_bis g ht.2.1 (w_m1' g hp ht.2.1 hc ha.2.2 fun σ1 g1 => ?_)))
  refine w_py g1 ht (w_px g1 ha (w_bis g1 ht.2.2 (w_p1 g1 hp ht.2.2 hc ha.2.1 fun σ2 g2 => Wp_s ?_)))
  rw [up_n (show a + 1 ≠ t + 1 by omega), up_n h1, up_n (show t + 2 ≠ t + 1 by omega)] at g2; exact g2
theorem w_Pturn2 (g : G σ0 l E σ) (hp : mpb P ≤ l) (ht : px σ0 l t) (hc : bx σ0 l c) (ha : px σ0 l a) (h1 : c ≠ t + 1) (h2 : a ≠ t) (hk : ∀ σ', G σ0 l (up (up E (t + 1) (b_add (E (t + 1)) (b_mul (E c) (E (a + 2))))) (t + 2) (b_sub (E (t + 2)) (b_mul (E c) (E (a + 1))))) σ' → Wp (k σ') Q) : Wp ((f_X8_addTurned P t (-1) c a σ).bind k) Q := by
  refine Wp_b (Wp_mo (Q := fun σ' => G σ0 l (up (up E (t + 1) (b_add (E (t + 1)) (b_mul (E c) (E (a + 2))))) (t + 2) (b_sub (E (t + 2)) (b_mul (E c) (E (a + 1))))) σ') ?_ hk)
  unfold f_X8_addTurned
  refine w_px g ht (w_py g ha (w_bis g ht.2.1 (w_p1' g hp ht.2.1 hc ha.2.2 fun σ1 g1 => ?_)))
  refine w_py g1 ht (w_px g1 ha (w_bis g1 ht.2.2 (w_m1 g1 hp ht.2.2 hc ha.2.1 fun σ2 g2 => Wp_s ?_)))
  rw [up_n (show a + 1 ≠ t + 1 by omega), up_n h1, up_n (show t + 2 ≠ t + 1 by omega)] at g2; exact g2
theorem w_Pshut (g : G σ0 l E σ) (hp : mpb P ≤ l) (ht : px σ0 l t) (hk : ∀ σ', G σ0 l (up (up E (t + 1) none) (t + 2) none) σ' → Wp (k σ') Q) : Wp ((f_X8_shut P t σ).bind k) Q := by
  refine Wp_b (Wp_mo (Q := fun σ' => G σ0 l (up (up E (t + 1) none) (t + 2) none) σ') ?_ hk)
  unfold f_X8_shut
  exact w_px g ht (w_bis g ht.2.1 (w_shut g hp ht.2.1 fun σ1 g1 => w_py g1 ht (w_bis g1 ht.2.2 (w_shut g1 hp ht.2.2 fun σ2 g2 => Wp_s g2))))
theorem w_Pzero (g : G σ0 l E σ) (hp : mpb P ≤ l) (ht : px σ0 l t) (hk : ∀ σ', G σ0 l (up (up E (t + 1) b_0) (t + 2) b_0) σ' → Wp (k σ') Q) : Wp ((f_X8_zero P t σ).bind k) Q := by
  refine Wp_b (Wp_mo (Q := fun σ' => G σ0 l (up (up E (t + 1) b_0) (t + 2) b_0) σ') ?_ hk)
  unfold f_X8_zero
  exact w_px g ht (w_bis g ht.2.1 (w_keep0 g hp ht.2.1 fun σ1 g1 => w_py g1 ht (w_bis g1 ht.2.2 (w_keep0 g1 hp ht.2.2 fun σ2 g2 => Wp_s g2))))
/-- the product of two pairs, into a third -/
abbrev v_px (E : Nat → BV) (a b : Nat) : BV := b_sub (b_mul (E (a + 1)) (E (b + 1))) (b_mul (E (a + 2)) (E (b + 2)))
abbrev v_py (E : Nat → BV) (a b : Nat) : BV := b_add (b_mul (E (a + 1)) (E (b + 2))) (b_mul (E (a + 2)) (E (b + 1)))
theorem w_Pprod (g : G σ0 l E σ) (hp : mpb P ≤ l) (ht : px σ0 l t) (ha : px σ0 l a) (hb : px σ0 l b) (h1 : a ≠ t) (h2 : b ≠ t) (hk : ∀ σ', G σ0 l (up (up E (t + 1) (v_px E a b)) (t + 2) (v_py E a b)) σ' → Wp (k σ') Q) : Wp ((f_X8_product P t a b σ).bind k) Q := by
  refine Wp_b (Wp_mo (Q := fun σ' => G σ0 l (up (up E (t + 1) (v_px E a b)) (t + 2) (v_py E a b)) σ') ?_ hk)
  have n1 := (px_ne ha ht).2.2
  have n2 := (px_ne hb ht).2.2
  have n3 : a + 1 ≠ t + 1 := by omega
  have n4 : b + 1 ≠ t + 1 := by omega
  have n5 := (px_ne ht ha).2.2.symm
  have n6 := (px_ne ht hb).2.2.symm
  have n7 : a + 2 ≠ t + 2 := by omega
  have n8 : b + 2 ≠ t + 2 := by omega
  unfold f_X8_product
  refine w_px g ht (w_bis g ht.2.1 (w_keep0 g hp ht.2.1 fun σ1 g1 => ?_))
  refine w_px g1 ht (w_px g1 ha (w_px g1 hb (w_bis g1 ht.2.1 (w_p1 g1 hp ht.2.1 ha.2.1 hb.2.1 fun σ2 g2 => ?_))))
  rw [up_e, up_n n3, up_n n4, b_0mul, up2] at g2
  refine w_px g2 ht (w_py g2 ha (w_py g2 hb (w_bis g2 ht.2.1 (w_m1 g2 hp ht.2.1 ha.2.2 hb.2.2 fun σ3 g3 => ?_))))
  rw [up_e, up_n n1, up_n n2, up2] at g3
  refine w_py g3 ht (w_bis g3 ht.2.2 (w_keep0 g3 hp ht.2.2 fun σ4 g4 => ?_))
  refine w_py g4 ht (w_px g4 ha (w_py g4 hb (w_bis g4 ht.2.2 (w_p1 g4 hp ht.2.2 ha.2.1 hb.2.2 fun σ5 g5 => ?_))))
  rw [up_e, up_n n5, up_n n8, up_n n3, up_n n2, b_0mul, up2] at g5
  refine w_py g5 ht (w_py g5 ha (w_px g5 hb (w_bis g5 ht.2.2 (w_p1 g5 hp ht.2.2 ha.2.2 hb.2.1 fun σ6 g6 => ?_))))
  rw [up_e, up_n n7, up_n n6, up_n n1, up_n n4, up2] at g6
  exact Wp_s g6
end ST
end DBA
