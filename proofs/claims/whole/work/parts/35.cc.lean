/-! ===== cc: sums of products, the class's own ===== -/
section CCA
variable {P : mx_P} {σ : mx_S} {a b t : Nat} {r r' : rw3} {A B T X Y X' Y' : BV}
theorem gR_bs {c k : Nat} : mg_R (bs σ t r) a c k = mg_R σ a c k := rfl
theorem is_bs {c : Nat} : mx_is (bs σ t r) a c = mx_is σ a c := rfl
theorem ix_bs {c : Nat} {i : Int32} : mx_ix (bs σ t r) a c i = mx_ix σ a c i := rfl
theorem aR_bs {c : Nat} {i : Int32} : ma_R (bs σ t r) a c i = ma_R σ a c i := rfl
theorem gI_bs {c k : Nat} (h : a ≠ t) : mg_I (bs σ t r) a c k = mg_I σ a c k := by
  unfold mg_I; rw [I_bs h]; rfl
theorem gL_bs {c k : Nat} (h : a ≠ t) : mg_L (bs σ t r) a c k = mg_L σ a c k := by
  unfold mg_L; rw [L_bs h]; rfl
theorem aI_bs {c : Nat} {i : Int32} (h : a ≠ t) : ma_I (bs σ t r) a c i = ma_I σ a c i := by
  have : (fun j => some (mxI (bs σ t r) a j)) = fun j => some (mxI σ a j) := by funext j; rw [I_bs h]
  unfold ma_I; rw [this]; rfl
theorem pr_0 (h : LyP (mxA σ) (mxR σ) a) : mg_R σ a 8 0 = some (a + 1) := (q_gR (LyP_o h)).trans (LyP_r0 h)
theorem pr_1 (h : LyP (mxA σ) (mxR σ) a) : mg_R σ a 8 1 = some (a + 2) := (q_gR (LyP_o h)).trans (LyP_r1 h)
theorem pr_i (h : LyP (mxA σ) (mxR σ) a) : mx_is σ a 8 = some () := q_is (LyP_o h)
theorem pr_ix (h : LyP (mxA σ) (mxR σ) a) : mx_is σ (a + 1) 0 = some () := q_is (LyP_x h)
theorem pr_iy (h : LyP (mxA σ) (mxR σ) a) : mx_is σ (a + 2) 0 = some () := q_is (LyP_y h)
theorem b_mk_0 (l h : Int) : b_add b_0 (b_mk l h) = b_mk l h := by
  unfold b_add b_mk
  by_cases c : l < -2147483648 ∨ 2147483648 < h
  · rw [if_pos c]; rfl
  · rw [if_neg c]
    show (if 0 + l < _ ∨ _ < 0 + h then _ else _) = _
    rw [Int.zero_add, Int.zero_add, if_neg c]
theorem b_mk_n (l h : Int) (hl : l ≤ h) : b_sub b_0 (b_mk l h) = b_neg (b_mk l h) := by
  unfold b_sub b_neg b_mk
  by_cases c : l < -2147483648 ∨ 2147483648 < h
  · rw [if_pos c]; rfl
  · rw [if_neg c]
    show (if 0 - h < _ ∨ _ < 0 - l then _ else _) = _
    rw [Int.zero_sub, Int.zero_sub, if_neg (by omega)]; rfl
theorem mn_mx (p q : Int × Int) : mn4 p q ≤ mx4 p q := by
  dsimp only [mn4, mx4]; omega
theorem b_0mul : b_add b_0 (b_mul A B) = b_mul A B := by
  cases A
  · rfl
  · cases B
    · rfl
    · exact b_mk_0 _ _
theorem b_0sq : b_add b_0 (b_sq A) = b_sq A := by
  cases A
  · rfl
  · exact b_mk_0 _ _
theorem b_0whole {n : Int} : b_add b_0 (b_whole n A) = b_whole n A := by
  cases A
  · rfl
  · exact b_mk_0 _ _
theorem b_n0mul : b_sub b_0 (b_mul A B) = b_neg (b_mul A B) := by
  cases A
  · rfl
  · cases B
    · rfl
    · exact b_mk_n _ _ (by have := mn_mx; rename_i p q; have := mn_mx p q; omega)
theorem mn4_neg (p q : Int × Int) : mn4 (-p.2, -p.1) q = -mx4 p q ∧ mx4 (-p.2, -p.1) q = -mn4 p q := by
  dsimp only [mn4, mx4]
  rw [Int.neg_mul, Int.neg_mul, Int.neg_mul, Int.neg_mul]
  omega
theorem mn4_com (p q : Int × Int) : mn4 p q = mn4 q p ∧ mx4 p q = mx4 q p := by
  dsimp only [mn4, mx4]
  rw [Int.mul_comm q.1 p.1, Int.mul_comm q.1 p.2, Int.mul_comm q.2 p.1, Int.mul_comm q.2 p.2]
  omega
theorem b_mul_com : b_mul A B = b_mul B A := by
  cases A
  · cases B <;> rfl
  · cases B
    · rfl
    · rename_i p q
      show b_mk (mn4 p q / 65536) (-(-mx4 p q / 65536)) = b_mk (mn4 q p / 65536) (-(-mx4 q p / 65536))
      rw [(mn4_com p q).1, (mn4_com p q).2]
theorem b_neg_mk (l h : Int) (hl : l ≤ h) : b_neg (b_mk l h) = b_mk (-h) (-l) := by
  unfold b_neg b_mk
  by_cases c : l < -2147483648 ∨ 2147483648 < h
  · rw [if_pos c, if_pos (by omega)]; rfl
  · rw [if_neg c, if_neg (by omega)]; rfl
theorem b_negmul : b_mul (b_neg A) B = b_neg (b_mul A B) := by
  cases A
  · rfl
  · cases B
    · rfl
    · rename_i p q
      show b_mk (mn4 (-p.2, -p.1) q / 65536) (-(-mx4 (-p.2, -p.1) q / 65536)) = b_neg (b_mk (mn4 p q / 65536) (-(-mx4 p q / 65536)))
      rw [(mn4_neg p q).1, (mn4_neg p q).2, b_neg_mk _ _ (by have := mn_mx p q; omega)]
      congr 1 <;> omega
theorem b_mulneg : b_mul A (b_neg B) = b_neg (b_mul A B) := by
  rw [b_mul_com, b_negmul, b_mul_com]
/-- adding the negative is taking away -/
theorem b_addneg : b_add A (b_neg B) = b_sub A B := by
  cases A
  · rfl
  · cases B
    · rfl
    · rename_i p q
      show b_mk (p.1 + -q.2) (p.2 + -q.1) = b_mk (p.1 - q.2) (p.2 - q.1)
      rw [← Int.sub_eq_add_neg, ← Int.sub_eq_add_neg]
theorem b_subneg : b_sub A (b_neg B) = b_add A B := by
  cases A
  · rfl
  · cases B
    · rfl
    · rename_i p q
      show b_mk (p.1 - -q.1) (p.2 - -q.2) = b_mk (p.1 + q.1) (p.2 + q.2)
      rw [Int.sub_neg, Int.sub_neg]
theorem c_p1 (ht : mxA σ t = some (.inl 0)) (ha : mxA σ a = some (.inl 0)) (hb : mxA σ b = some (.inl 0)) (hp : mpb P ≤ t) (hT : RB (rd σ t) T) (hA : RB (rd σ a) A) (hB : RB (rd σ b) B) : ∃ r, f_X0_addProduct P t 1 a b σ = some (bs σ t r) ∧ RB r (b_add T (b_mul A B)) := by
  have := c_prod (s := 1) ht ha hb hp hT hA hB
  rw [if_neg (by decide)] at this; exact this
theorem c_m1 (ht : mxA σ t = some (.inl 0)) (ha : mxA σ a = some (.inl 0)) (hb : mxA σ b = some (.inl 0)) (hp : mpb P ≤ t) (hT : RB (rd σ t) T) (hA : RB (rd σ a) A) (hB : RB (rd σ b) B) : ∃ r, f_X0_addProduct P t (-1) a b σ = some (bs σ t r) ∧ RB r (b_sub T (b_mul A B)) := by
  have := c_prod (s := -1) ht ha hb hp hT hA hB
  rw [if_pos (by decide)] at this; exact this
theorem c_norm (ht : mxA σ t = some (.inl 0)) (ha : LyP (mxA σ) (mxR σ) a) (hp : mpb P ≤ t) (h1 : a + 1 ≠ t) (h2 : a + 2 ≠ t) (hX : RB (rd σ (a + 1)) X) (hY : RB (rd σ (a + 2)) Y) : ∃ r, f_X0_norm P t a σ = some (bs σ t r) ∧ RB r (b_add (b_sq X) (b_sq Y)) := by
  obtain ⟨r1, e1, k1⟩ := c_keep0 (P := P) ht hp
  obtain ⟨r2, e2, k2⟩ := c_sq (P := P) (σ := bs σ t r1) (a := a + 1) (T := b_0) (A := X) ht (LyP_x ha) hp (by rw [rd_e]; exact k1) (by rw [rd_n h1]; exact hX)
  obtain ⟨r3, e3, k3⟩ := c_sq (P := P) (σ := bs (bs σ t r1) t r2) (a := a + 2) (T := b_add b_0 (b_sq X)) (A := Y) ht (LyP_y ha) hp (by rw [rd_e]; exact k2) (by rw [rd_n h2, rd_n h2]; exact hY)
  refine ⟨r3, ?_, by rw [b_0sq] at k3; exact k3⟩
  unfold f_X0_norm
  simp only [gR_bs, is_bs, q_is ht, pr_0 ha, pr_1 ha, Option.bind_some, e1, e2, e3]
  rw [bs_bs, bs_bs]
theorem c_dot (ht : mxA σ t = some (.inl 0)) (ha : LyP (mxA σ) (mxR σ) a) (hb : LyP (mxA σ) (mxR σ) b) (hp : mpb P ≤ t) (h1 : a + 1 ≠ t) (h2 : a + 2 ≠ t) (h3 : b + 1 ≠ t) (h4 : b + 2 ≠ t) (hX : RB (rd σ (a + 1)) X) (hY : RB (rd σ (a + 2)) Y) (hX' : RB (rd σ (b + 1)) X') (hY' : RB (rd σ (b + 2)) Y') : ∃ r, f_X0_dot P t a b σ = some (bs σ t r) ∧ RB r (b_add (b_mul X X') (b_mul Y Y')) := by
  obtain ⟨r1, e1, k1⟩ := c_keep0 (P := P) ht hp
  obtain ⟨r2, e2, k2⟩ := c_p1 (P := P) (σ := bs σ t r1) (a := a + 1) (b := b + 1) (T := b_0) (A := X) (B := X') ht (LyP_x ha) (LyP_x hb) hp (by rw [rd_e]; exact k1) (by rw [rd_n h1]; exact hX) (by rw [rd_n h3]; exact hX')
  obtain ⟨r3, e3, k3⟩ := c_p1 (P := P) (σ := bs (bs σ t r1) t r2) (a := a + 2) (b := b + 2) (T := b_add b_0 (b_mul X X')) (A := Y) (B := Y') ht (LyP_y ha) (LyP_y hb) hp (by rw [rd_e]; exact k2) (by rw [rd_n h2, rd_n h2]; exact hY) (by rw [rd_n h4, rd_n h4]; exact hY')
  refine ⟨r3, ?_, by rw [b_0mul] at k3; exact k3⟩
  unfold f_X0_dot
  simp only [gR_bs, is_bs, q_is ht, pr_0 ha, pr_1 ha, pr_0 hb, pr_1 hb, Option.bind_some, e1, e2, e3]
  rw [bs_bs, bs_bs]
theorem c_cross (ht : mxA σ t = some (.inl 0)) (ha : LyP (mxA σ) (mxR σ) a) (hb : LyP (mxA σ) (mxR σ) b) (hp : mpb P ≤ t) (h1 : a + 1 ≠ t) (h2 : a + 2 ≠ t) (h3 : b + 1 ≠ t) (h4 : b + 2 ≠ t) (hX : RB (rd σ (a + 1)) X) (hY : RB (rd σ (a + 2)) Y) (hX' : RB (rd σ (b + 1)) X') (hY' : RB (rd σ (b + 2)) Y') : ∃ r, f_X0_cross P t a b σ = some (bs σ t r) ∧ RB r (b_sub (b_mul X Y') (b_mul Y X')) := by
  obtain ⟨r1, e1, k1⟩ := c_keep0 (P := P) ht hp
  obtain ⟨r2, e2, k2⟩ := c_p1 (P := P) (σ := bs σ t r1) (a := a + 1) (b := b + 2) (T := b_0) (A := X) (B := Y') ht (LyP_x ha) (LyP_y hb) hp (by rw [rd_e]; exact k1) (by rw [rd_n h1]; exact hX) (by rw [rd_n h4]; exact hY')
  obtain ⟨r3, e3, k3⟩ := c_m1 (P := P) (σ := bs (bs σ t r1) t r2) (a := a + 2) (b := b + 1) (T := b_add b_0 (b_mul X Y')) (A := Y) (B := X') ht (LyP_y ha) (LyP_x hb) hp (by rw [rd_e]; exact k2) (by rw [rd_n h2, rd_n h2]; exact hY) (by rw [rd_n h3, rd_n h3]; exact hX')
  refine ⟨r3, ?_, by rw [b_0mul] at k3; exact k3⟩
  unfold f_X0_cross
  simp only [gR_bs, is_bs, q_is ht, pr_0 ha, pr_1 ha, pr_0 hb, pr_1 hb, Option.bind_some, e1, e2, e3]
  rw [bs_bs, bs_bs]
end CCA
