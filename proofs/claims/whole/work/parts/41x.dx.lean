/-! ===== dx: the steps, with names for the new values ===== -/
section DXA
variable {P : mx_P} {σ σ0 : mx_S} {l a b t c : Nat} {E : Nat → BV} {β : Type} {Q : β → Prop} {k : mx_S → Option β}
theorem z_plus (g : G σ0 l E σ) (hp : mpb P ≤ l) (ht : bx σ0 l t) (ha : bx σ0 l a) (hb : bx σ0 l b) (hk : ∀ σ' v, v = (b_add (E a) (E b)) → G σ0 l (up E t v) σ' → Wp (k σ') Q) : Wp ((f_X0_plus P t a b σ).bind k) Q :=
  w_plus g hp ht ha hb fun σ' g' => hk σ' _ rfl g'
theorem z_minus (g : G σ0 l E σ) (hp : mpb P ≤ l) (ht : bx σ0 l t) (ha : bx σ0 l a) (hb : bx σ0 l b) (hk : ∀ σ' v, v = (b_sub (E a) (E b)) → G σ0 l (up E t v) σ' → Wp (k σ') Q) : Wp ((f_X0_minus P t a b σ).bind k) Q :=
  w_minus g hp ht ha hb fun σ' g' => hk σ' _ rfl g'
theorem z_neg (g : G σ0 l E σ) (hp : mpb P ≤ l) (ht : bx σ0 l t) (ha : bx σ0 l a) (hk : ∀ σ' v, v = (b_neg (E a)) → G σ0 l (up E t v) σ' → Wp (k σ') Q) : Wp ((f_X0_negative P t a σ).bind k) Q :=
  w_neg g hp ht ha fun σ' g' => hk σ' _ rfl g'
theorem z_copy (g : G σ0 l E σ) (hp : mpb P ≤ l) (ht : bx σ0 l t) (ha : bx σ0 l a) (hk : ∀ σ' v, v = (E a) → G σ0 l (up E t v) σ' → Wp (k σ') Q) : Wp ((f_X0_copy P t a σ).bind k) Q :=
  w_copy g hp ht ha fun σ' g' => hk σ' _ rfl g'
theorem z_p1 (g : G σ0 l E σ) (hp : mpb P ≤ l) (ht : bx σ0 l t) (ha : bx σ0 l a) (hb : bx σ0 l b) (hk : ∀ σ' v, v = (b_add (E t) (b_mul (E a) (E b))) → G σ0 l (up E t v) σ' → Wp (k σ') Q) : Wp ((f_X0_addProduct P t 1 a b σ).bind k) Q :=
  w_p1 g hp ht ha hb fun σ' g' => hk σ' _ rfl g'
theorem z_m1 (g : G σ0 l E σ) (hp : mpb P ≤ l) (ht : bx σ0 l t) (ha : bx σ0 l a) (hb : bx σ0 l b) (hk : ∀ σ' v, v = (b_sub (E t) (b_mul (E a) (E b))) → G σ0 l (up E t v) σ' → Wp (k σ') Q) : Wp ((f_X0_addProduct P t (-1) a b σ).bind k) Q :=
  w_m1 g hp ht ha hb fun σ' g' => hk σ' _ rfl g'
theorem z_m1' (g : G σ0 l E σ) (hp : mpb P ≤ l) (ht : bx σ0 l t) (ha : bx σ0 l a) (hb : bx σ0 l b) (hk : ∀ σ' v, v = (b_sub (E t) (b_mul (E a) (E b))) → G σ0 l (up E t v) σ' → Wp (k σ') Q) : Wp ((f_X0_addProduct P t (-(1 : Int32)) a b σ).bind k) Q :=
  w_m1' g hp ht ha hb fun σ' g' => hk σ' _ rfl g'
theorem z_p1' (g : G σ0 l E σ) (hp : mpb P ≤ l) (ht : bx σ0 l t) (ha : bx σ0 l a) (hb : bx σ0 l b) (hk : ∀ σ' v, v = (b_add (E t) (b_mul (E a) (E b))) → G σ0 l (up E t v) σ' → Wp (k σ') Q) : Wp ((f_X0_addProduct P t (-(-1 : Int32)) a b σ).bind k) Q :=
  w_p1' g hp ht ha hb fun σ' g' => hk σ' _ rfl g'
theorem z_sq (g : G σ0 l E σ) (hp : mpb P ≤ l) (ht : bx σ0 l t) (ha : bx σ0 l a) (hk : ∀ σ' v, v = (b_add (E t) (b_sq (E a))) → G σ0 l (up E t v) σ' → Wp (k σ') Q) : Wp ((f_X0_addSquare P t a σ).bind k) Q :=
  w_sq g hp ht ha fun σ' g' => hk σ' _ rfl g'
theorem z_whole {n : Int64} (g : G σ0 l E σ) (hp : mpb P ≤ l) (hn1 : -1000 ≤ n.toInt) (hn2 : n.toInt ≤ 1000) (ht : bx σ0 l t) (ha : bx σ0 l a) (hk : ∀ σ' v, v = (b_add (E t) (b_whole n.toInt (E a))) → G σ0 l (up E t v) σ' → Wp (k σ') Q) : Wp ((f_X0_addWhole P t n a σ).bind k) Q :=
  w_whole g hp hn1 hn2 ht ha fun σ' g' => hk σ' _ rfl g'
theorem z_share {n : Int64} (g : G σ0 l E σ) (hp : mpb P ≤ l) (hn : 0 < n.toInt) (ht : bx σ0 l t) (hk : ∀ σ' v, v = (b_share n.toInt (E t)) → G σ0 l (up E t v) σ' → Wp (k σ') Q) : Wp ((f_X0_shareAmong P t n σ).bind k) Q :=
  w_share g hp hn ht fun σ' g' => hk σ' _ rfl g'
theorem z_share2 (g : G σ0 l E σ) (hp : mpb P ≤ l) (ht : bx σ0 l t) (hk : ∀ σ' v, v = (b_share 2 (E t)) → G σ0 l (up E t v) σ' → Wp (k σ') Q) : Wp ((f_X0_shareAmong P t 2 σ).bind k) Q :=
  w_share2 g hp ht fun σ' g' => hk σ' _ rfl g'
theorem z_frac {p q : Int64} (g : G σ0 l E σ) (hp : mpb P ≤ l) (hp1 : -1000000000000 ≤ p.toInt) (hp2 : p.toInt ≤ 1000000000000) (hq : 0 < q.toInt) (ht : bx σ0 l t) (hk : ∀ σ' v, v = (b_frac p.toInt q.toInt) → G σ0 l (up E t v) σ' → Wp (k σ') Q) : Wp ((f_X0_fraction P t p q σ).bind k) Q :=
  w_frac g hp hp1 hp2 hq ht fun σ' g' => hk σ' _ rfl g'
theorem z_quot (g : G σ0 l E σ) (hp : mpb P ≤ l) (ht : bx σ0 l t) (ha : bx σ0 l a) (hb : bx σ0 l b) (hk : ∀ σ' v, v = (b_div (E a) (E b)) → G σ0 l (up E t v) σ' → Wp (k σ') Q) : Wp ((f_X0_quotient P t a b σ).bind k) Q :=
  w_quot g hp ht ha hb fun σ' g' => hk σ' _ rfl g'
theorem z_root (hf : 100 ≤ mpN P) (g : G σ0 l E σ) (hp : mpb P ≤ l) (ht : bx σ0 l t) (h0 : ∀ p, E t = some p → 0 ≤ p.1) (hk : ∀ σ' v, v = (b_root (E t)) → G σ0 l (up E t v) σ' → Wp (k σ') Q) : Wp ((f_X0_takeRoot P t σ).bind k) Q :=
  w_root hf g hp ht h0 fun σ' g' => hk σ' _ rfl g'
theorem z_keep0 (g : G σ0 l E σ) (hp : mpb P ≤ l) (ht : bx σ0 l t) (hk : ∀ σ' v, v = b_0 → G σ0 l (up E t v) σ' → Wp (k σ') Q) : Wp ((f_X0_keep P t 0 0 σ).bind k) Q :=
  w_keep0 g hp ht fun σ' g' => hk σ' _ rfl g'
theorem z_keep1 (g : G σ0 l E σ) (hp : mpb P ≤ l) (ht : bx σ0 l t) (hk : ∀ σ' v, v = b_1 → G σ0 l (up E t v) σ' → Wp (k σ') Q) : Wp ((f_X0_keep P t 65536 65536 σ).bind k) Q :=
  w_keep1 g hp ht fun σ' g' => hk σ' _ rfl g'
theorem z_shut (g : G σ0 l E σ) (hp : mpb P ≤ l) (ht : bx σ0 l t) (hk : ∀ σ' v, v = none → G σ0 l (up E t v) σ' → Wp (k σ') Q) : Wp ((f_X0_shut P t σ).bind k) Q :=
  w_shut g hp ht fun σ' g' => hk σ' _ rfl g'
theorem z_norm (g : G σ0 l E σ) (hp : mpb P ≤ l) (ht : bx σ0 l t) (ha : px σ0 l a) (h1 : a + 1 ≠ t) (h2 : a + 2 ≠ t) (hk : ∀ σ' v, v = (b_add (b_sq (E (a + 1))) (b_sq (E (a + 2)))) → G σ0 l (up E t v) σ' → Wp (k σ') Q) : Wp ((f_X0_norm P t a σ).bind k) Q :=
  w_norm g hp ht ha h1 h2 fun σ' g' => hk σ' _ rfl g'
theorem z_dot (g : G σ0 l E σ) (hp : mpb P ≤ l) (ht : bx σ0 l t) (ha : px σ0 l a) (hb : px σ0 l b) (h1 : a + 1 ≠ t) (h2 : a + 2 ≠ t) (h3 : b + 1 ≠ t) (h4 : b + 2 ≠ t) (hk : ∀ σ' v, v = (b_add (b_mul (E (a + 1)) (E (b + 1))) (b_mul (E (a + 2)) (E (b + 2)))) → G σ0 l (up E t v) σ' → Wp (k σ') Q) : Wp ((f_X0_dot P t a b σ).bind k) Q :=
  w_dot g hp ht ha hb h1 h2 h3 h4 fun σ' g' => hk σ' _ rfl g'
theorem z_cross (g : G σ0 l E σ) (hp : mpb P ≤ l) (ht : bx σ0 l t) (ha : px σ0 l a) (hb : px σ0 l b) (h1 : a + 1 ≠ t) (h2 : a + 2 ≠ t) (h3 : b + 1 ≠ t) (h4 : b + 2 ≠ t) (hk : ∀ σ' v, v = (b_sub (b_mul (E (a + 1)) (E (b + 2))) (b_mul (E (a + 2)) (E (b + 1)))) → G σ0 l (up E t v) σ' → Wp (k σ') Q) : Wp ((f_X0_cross P t a b σ).bind k) Q :=
  w_cross g hp ht ha hb h1 h2 h3 h4 fun σ' g' => hk σ' _ rfl g'
theorem z_Pminus (g : G σ0 l E σ) (hp : mpb P ≤ l) (ht : px σ0 l t) (ha : px σ0 l a) (hb : px σ0 l b) (hk : ∀ σ' v w, v = (b_sub (E (a + 1)) (E (b + 1))) → w = (b_sub (E (a + 2)) (E (b + 2))) → G σ0 l (up (up E (t + 1) v) (t + 2) w) σ' → Wp (k σ') Q) : Wp ((f_X8_minus P t a b σ).bind k) Q :=
  w_Pminus g hp ht ha hb fun σ' g' => hk σ' _ _ rfl rfl g'
theorem z_Pcopy (g : G σ0 l E σ) (hp : mpb P ≤ l) (ht : px σ0 l t) (ha : px σ0 l a) (hk : ∀ σ' v w, v = (E (a + 1)) → w = (E (a + 2)) → G σ0 l (up (up E (t + 1) v) (t + 2) w) σ' → Wp (k σ') Q) : Wp ((f_X8_copy P t a σ).bind k) Q :=
  w_Pcopy g hp ht ha fun σ' g' => hk σ' _ _ rfl rfl g'
theorem z_Padd (g : G σ0 l E σ) (hp : mpb P ≤ l) (ht : px σ0 l t) (hc : bx σ0 l c) (ha : px σ0 l a) (h1 : c ≠ t + 1) (hk : ∀ σ' v w, v = (b_add (E (t + 1)) (b_mul (E c) (E (a + 1)))) → w = (b_add (E (t + 2)) (b_mul (E c) (E (a + 2)))) → G σ0 l (up (up E (t + 1) v) (t + 2) w) σ' → Wp (k σ') Q) : Wp ((f_X8_add P t c a σ).bind k) Q :=
  w_Padd g hp ht hc ha h1 fun σ' g' => hk σ' _ _ rfl rfl g'
theorem z_Pturn1 (g : G σ0 l E σ) (hp : mpb P ≤ l) (ht : px σ0 l t) (hc : bx σ0 l c) (ha : px σ0 l a) (h1 : c ≠ t + 1) (h2 : a ≠ t) (hk : ∀ σ' v w, v = (b_sub (E (t + 1)) (b_mul (E c) (E (a + 2)))) → w = (b_add (E (t + 2)) (b_mul (E c) (E (a + 1)))) → G σ0 l (up (up E (t + 1) v) (t + 2) w) σ' → Wp (k σ') Q) : Wp ((f_X8_addTurned P t 1 c a σ).bind k) Q :=
  w_Pturn1 g hp ht hc ha h1 h2 fun σ' g' => hk σ' _ _ rfl rfl g'
theorem z_Pturn2 (g : G σ0 l E σ) (hp : mpb P ≤ l) (ht : px σ0 l t) (hc : bx σ0 l c) (ha : px σ0 l a) (h1 : c ≠ t + 1) (h2 : a ≠ t) (hk : ∀ σ' v w, v = (b_add (E (t + 1)) (b_mul (E c) (E (a + 2)))) → w = (b_sub (E (t + 2)) (b_mul (E c) (E (a + 1)))) → G σ0 l (up (up E (t + 1) v) (t + 2) w) σ' → Wp (k σ') Q) : Wp ((f_X8_addTurned P t (-1) c a σ).bind k) Q :=
  w_Pturn2 g hp ht hc ha h1 h2 fun σ' g' => hk σ' _ _ rfl rfl g'
theorem z_Pshut (g : G σ0 l E σ) (hp : mpb P ≤ l) (ht : px σ0 l t) (hk : ∀ σ' v w, v = none → w = none → G σ0 l (up (up E (t + 1) v) (t + 2) w) σ' → Wp (k σ') Q) : Wp ((f_X8_shut P t σ).bind k) Q :=
  w_Pshut g hp ht fun σ' g' => hk σ' _ _ rfl rfl g'
theorem z_Pzero (g : G σ0 l E σ) (hp : mpb P ≤ l) (ht : px σ0 l t) (hk : ∀ σ' v w, v = b_0 → w = b_0 → G σ0 l (up (up E (t + 1) v) (t + 2) w) σ' → Wp (k σ') Q) : Wp ((f_X8_zero P t σ).bind k) Q :=
  w_Pzero g hp ht fun σ' g' => hk σ' _ _ rfl rfl g'
theorem z_Pprod (g : G σ0 l E σ) (hp : mpb P ≤ l) (ht : px σ0 l t) (ha : px σ0 l a) (hb : px σ0 l b) (h1 : a ≠ t) (h2 : b ≠ t) (hk : ∀ σ' v w, v = (v_px E a b) → w = (v_py E a b) → G σ0 l (up (up E (t + 1) v) (t + 2) w) σ' → Wp (k σ') Q) : Wp ((f_X8_product P t a b σ).bind k) Q :=
  w_Pprod g hp ht ha hb h1 h2 fun σ' g' => hk σ' _ _ rfl rfl g'
end DXA
