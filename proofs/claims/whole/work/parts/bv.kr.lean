/-! ===== kr: fractions that may be too large, as values ===== -/
section KRS
variable {P : mx_P} {σ σ1 τ : mx_S} {a m k : Nat} {u v w t : Int64} {p q c d : Int} {o : Option (Int × Int)}
def ftD (p q c d : Int) : Decidable (fto p q c d) := @instDecidableAnd _ _ (Nat.decLe _ _) (Nat.decLe _ _)
def fqD (p q c d : Int) : Decidable (fqo p q c d ∧ (fqx p q c d).natAbs ≤ 1000000000000000) := @instDecidableAnd _ _ (@instDecidableAnd _ _ (Nat.decLe _ _) (@instDecidableAnd _ _ (Nat.decLe _ _) (Nat.decLe _ _))) (Nat.decLe _ _)
def fmul (o : Option (Int × Int)) (c d : Int) : Option (Int × Int) := o.bind fun z => @ite _ (fto z.1 z.2 c d) (ftD _ _ _ _) (some (ftx z.1 z.2 c d, ftz z.1 z.2 c d)) none
def fadd (o : Option (Int × Int)) (c d : Int) : Option (Int × Int) := o.bind fun z => @ite _ (fqo z.1 z.2 c d ∧ (fqx z.1 z.2 c d).natAbs ≤ 1000000000000000) (fqD _ _ _ _) (some (fqx z.1 z.2 c d / (gcI (fqx z.1 z.2 c d) (fqz z.2 d) : Int), fqz z.2 d / (gcI (fqx z.1 z.2 c d) (fqz z.2 d) : Int))) none
def fpw (o : Option (Int × Int)) (c d : Int) : Nat → Option (Int × Int)
  | 0 => o
  | k + 1 => fmul (fpw o c d k) c d
def OKf (o : Option (Int × Int)) : Prop := ∀ z, o = some z → 1 ≤ z.2 ∧ gcI z.1 z.2 = 1 ∧ z.1.natAbs ≤ 1000000000000000 ∧ z.2.natAbs ≤ 1000000000000000
def FOc (σ : mx_S) (a : Nat) (o : Option (Int × Int)) : Prop := B64 (mxL σ a 0) (mxL σ a 0).toInt 1000000000000000 ∧ B64 (mxL σ a 1) (mxL σ a 1).toInt 1000000000000000 ∧ 1 ≤ (mxL σ a 1).toInt ∧ match o with
  | none => mxI σ a 2 = 1
  | some z => mxI σ a 2 = 0 ∧ (mxL σ a 0).toInt = z.1 ∧ (mxL σ a 1).toInt = z.2
def FOr (σ : mx_S) (m : Nat) (o : Option (Int × Int)) : Prop := match o with
  | none => mxI σ m 10 = 1 ∧ mxL σ m 8 = 0 ∧ mxL σ m 9 = 1
  | some z => mxI σ m 10 = 0 ∧ (mxL σ m 8).toInt = z.1 ∧ (mxL σ m 9).toInt = z.2
theorem fq_zp (hq : 1 ≤ q) (hd : 1 ≤ d) : 1 ≤ fqz q d := by
  have g1 := gc_pos (c := q) (d := d) (by omega)
  have p1 := dvp g1 (gc_r (c := q) (d := d)) hd
  unfold fqz
  have := Int.mul_le_mul hq p1 (by omega) (by omega)
  omega
theorem OKf_m (h : OKf o) (hd : 1 ≤ d) (hg : gcI c d = 1) : OKf (fmul o c d) := by
  intro z hz
  cases o with
  | none => exact absurd hz (by unfold fmul; exact (by simp))
  | some y =>
    obtain ⟨h1, h2, h3, h4⟩ := h y rfl
    unfold fmul at hz
    rw [Option.bind_some] at hz
    by_cases f : fto y.1 y.2 c d
    · rw [if_pos f] at hz
      obtain rfl := Option.some.inj hz
      refine ⟨ft_zp h1 hd, ft_co h2 hg h1 hd, ?_, ?_⟩
      · show (ftx _ _ _ _).natAbs ≤ _
        unfold ftx; rw [Int.natAbs_mul]; exact f.1
      · show (ftz _ _ _ _).natAbs ≤ _
        unfold ftz; rw [Int.natAbs_mul]; exact f.2
    · rw [if_neg f] at hz; exact absurd hz (by simp)
theorem OKf_a (h : OKf o) (hd : 1 ≤ d) : OKf (fadd o c d) := by
  intro z hz
  cases o with
  | none => exact absurd hz (by unfold fadd; exact (by simp))
  | some y =>
    obtain ⟨h1, h2, h3, h4⟩ := h y rfl
    unfold fadd at hz
    rw [Option.bind_some] at hz
    by_cases f : fqo y.1 y.2 c d ∧ (fqx y.1 y.2 c d).natAbs ≤ 1000000000000000
    · rw [if_pos f] at hz
      obtain rfl := Option.some.inj hz
      have zp := fq_zp h1 hd
      have g := gc_pos (c := fqx y.1 y.2 c d) (d := fqz y.2 d) (by omega)
      refine ⟨dvp g gc_r zp, lw_1 (by omega), ?_, ?_⟩
      · exact Nat.le_trans (dvb g gc_l) f.2
      · refine Nat.le_trans (dvb g gc_r) ?_
        unfold fqz; rw [Int.natAbs_mul]; exact f.1.2.2
    · rw [if_neg f] at hz; exact absurd hz (by simp)
theorem OKf_p (h : OKf o) (hd : 1 ≤ d) (hg : gcI c d = 1) (k : Nat) : OKf (fpw o c d k) := by
  induction k with
  | zero => exact h
  | succ k ih => exact OKf_m ih hd hg
theorem FOc_V (h : FOc σ a o) : FV σ a (o ≠ none) (o.getD (0, 1)).1 (o.getD (0, 1)).2 := by
  obtain ⟨h1, h2, h3, h4⟩ := h
  cases o with
  | none => exact ⟨h1, h2, h3, Or.inr ⟨fun y => y rfl, h4⟩⟩
  | some z => exact ⟨h1, h2, h3, Or.inl ⟨by simp, h4⟩⟩
theorem c_mulO (hf : 5000 ≤ mpN P) (hA : mxA σ a = some (.inl 3)) (hb : mpb P ≤ a) (h : FOc σ a o) (hw : B64 w c 1000000000000000) (ht : B64 t d 1000000000000000) (hd : 1 ≤ d) : ∃ τ, f_X3_times P a w t σ = some τ ∧ Fz (fun q j => q = a ∧ j ≤ 2) σ τ ∧ FOc τ a (fmul o c d) := by
  obtain ⟨τ, e, f, h1, h2, h3, h4⟩ := c_tiF (P := P) hf hA hb (FOc_V h) hw ht hd
  refine ⟨τ, e, f, h1, h2, h3, ?_⟩
  cases o with
  | none => rcases h4 with ⟨⟨z, -⟩, -⟩ | ⟨-, z⟩ <;> first | exact absurd rfl z | exact z
  | some y =>
    unfold fmul
    rw [Option.bind_some]
    rcases h4 with ⟨⟨-, z⟩, z1, z2, z3⟩ | ⟨z, z1⟩
    · rw [if_pos (show fto y.1 y.2 c d from z)]; exact ⟨z1, z2, z3⟩
    · rw [if_neg (show ¬ fto y.1 y.2 c d from fun w => z ⟨by simp, w⟩)]; exact z1
theorem c_addO (hf : 5000 ≤ mpN P) (hA : mxA σ a = some (.inl 3)) (hb : mpb P ≤ a) (h : FOc σ a o) (hw : B64 w c 1000000000000000) (ht : B64 t d 1000000000000000) (hd : 1 ≤ d) : ∃ τ, f_X3_add P a w t σ = some τ ∧ Fz (fun q j => q = a ∧ j ≤ 2) σ τ ∧ FOc τ a (fadd o c d) := by
  obtain ⟨τ, e, f, h1, h2, h3, h4⟩ := c_adF (P := P) hf hA hb (FOc_V h) hw ht hd
  refine ⟨τ, e, f, h1, h2, h3, ?_⟩
  cases o with
  | none => rcases h4 with ⟨⟨z, -⟩, -⟩ | ⟨-, z⟩ <;> first | exact absurd rfl z | exact z
  | some y =>
    unfold fadd
    rw [Option.bind_some]
    rcases h4 with ⟨⟨-, z⟩, z1, z2, z3⟩ | ⟨z, z1⟩
    · rw [if_pos (show fqo y.1 y.2 c d ∧ (fqx y.1 y.2 c d).natAbs ≤ 1000000000000000 from z)]; exact ⟨z1, z2, z3⟩
    · rw [if_neg (show ¬ (fqo y.1 y.2 c d ∧ (fqx y.1 y.2 c d).natAbs ≤ 1000000000000000) from fun w => z ⟨by simp, w⟩)]; exact z1
/-- the reference, any two -/
theorem r_mulG (hf : 5000 ≤ mpN P) (hM : LyM σ m) (hb : mpb P ≤ m) (hu : B64 u p 1000000000000000) (hv : B64 v q 1000000000000000) (hw : B64 w c 1000000000000000) (ht : B64 t d 1000000000000000) (hq : 1 ≤ q) (hd : 1 ≤ d) (h01 : mxI σ m 10 = 0 ∨ mxI σ m 10 = 1) (g1 : gcI p q = 1) (g2 : gcI c d = 1) : ∃ τ, f_X12_times P m u v w t σ = some τ ∧ Fz (SLw m) σ τ ∧ FOr τ m (if mxI σ m 10 = 0 then fmul (some (p, q)) c d else none) := by
  obtain ⟨τ, e, f, h⟩ := r_tim (P := P) hf hM hb hu hv hw ht hq hd h01
  refine ⟨τ, e, f, ?_⟩
  have co := ft_co g1 g2 hq hd
  unfold fmul
  rw [Option.bind_some]
  rcases h with ⟨⟨z1, z2⟩, z3, z4, z5⟩ | ⟨z, z1⟩
  · rw [if_pos z1, if_pos z2]
    rw [co] at z4 z5
    refine ⟨z3, ?_, ?_⟩
    · rw [z4]; exact Int.ediv_one _
    · rw [z5]; exact Int.ediv_one _
  · split
    · rename_i y; rw [if_neg (fun w => z ⟨y, w⟩)]; exact z1
    · exact z1
theorem r_addG (hf : 5000 ≤ mpN P) (hM : LyM σ m) (hb : mpb P ≤ m) (hu : B64 u p 1000000000000000) (hv : B64 v q 1000000000000000) (hw : B64 w c 1000000000000000) (ht : B64 t d 1000000000000000) (hq : 1 ≤ q) (hd : 1 ≤ d) (h01 : mxI σ m 10 = 0 ∨ mxI σ m 10 = 1) : ∃ τ, f_X12_sum P m u v w t σ = some τ ∧ Fz (SLw m) σ τ ∧ FOr τ m (if mxI σ m 10 = 0 then fadd (some (p, q)) c d else none) := by
  obtain ⟨τ, e, f, h⟩ := r_sum (P := P) hf hM hb hu hv hw ht hq hd h01
  refine ⟨τ, e, f, ?_⟩
  unfold fadd
  rw [Option.bind_some]
  rcases h with ⟨⟨z1, z2⟩, z3⟩ | ⟨z, z1⟩
  · rw [if_pos z1, if_pos z2]; exact z3
  · split
    · rename_i y; rw [if_neg (fun w => z ⟨y, w⟩)]; exact z1
    · exact z1
theorem FOr_01 (h : FOr σ m o) : mxI σ m 10 = 0 ∨ mxI σ m 10 = 1 := by
  cases o with
  | none => exact Or.inr h.1
  | some z => exact Or.inl h.1
/-- the cells of the reference, whatever the flag -/
theorem FOr_c (h : FOr σ m o) (ho : OKf o) : ∃ p q, B64 (mxL σ m 8) p 1000000000000000 ∧ B64 (mxL σ m 9) q 1000000000000000 ∧ 1 ≤ q ∧ gcI p q = 1 ∧ ((mxI σ m 10 = 0 ∧ o = some (p, q)) ∨ (mxI σ m 10 = 1 ∧ o = none ∧ p = 0 ∧ q = 1)) := by
  cases o with
  | none => exact ⟨0, 1, ⟨by rw [h.2.1]; rfl, by simp⟩, ⟨by rw [h.2.2]; rfl, by simp⟩, by omega, by decide, Or.inr ⟨h.1, rfl, rfl, rfl⟩⟩
  | some z =>
    obtain ⟨h1, h2, h3, h4⟩ := ho z rfl
    exact ⟨z.1, z.2, ⟨h.2.1, h3⟩, ⟨h.2.2, h4⟩, h1, h2, Or.inl ⟨h.1, rfl⟩⟩
theorem r_mulO (hf : 5000 ≤ mpN P) (hM : LyM σ m) (hb : mpb P ≤ m) (h : FOr σ m o) (ho : OKf o) (hw : B64 w c 1000000000000000) (ht : B64 t d 1000000000000000) (hd : 1 ≤ d) (g2 : gcI c d = 1) : ∃ τ, f_X12_times P m (mxL σ m 8) (mxL σ m 9) w t σ = some τ ∧ Fz (SLw m) σ τ ∧ FOr τ m (fmul o c d) := by
  obtain ⟨p, q, b1, b2, q1, g1, hc⟩ := FOr_c h ho
  obtain ⟨τ, e, f, r⟩ := r_mulG (P := P) hf hM hb b1 b2 hw ht q1 hd (FOr_01 h) g1 g2
  refine ⟨τ, e, f, ?_⟩
  rcases hc with ⟨z, e⟩ | ⟨z, e, -⟩
  · rw [if_pos z] at r; rw [e]; exact r
  · rw [if_neg (by rw [z]; decide)] at r; rw [e]; exact r
theorem r_addO (hf : 5000 ≤ mpN P) (hM : LyM σ m) (hb : mpb P ≤ m) (h : FOr σ m o) (ho : OKf o) (hw : B64 w c 1000000000000000) (ht : B64 t d 1000000000000000) (hd : 1 ≤ d) : ∃ τ, f_X12_sum P m (mxL σ m 8) (mxL σ m 9) w t σ = some τ ∧ Fz (SLw m) σ τ ∧ FOr τ m (fadd o c d) := by
  obtain ⟨p, q, b1, b2, q1, g1, hc⟩ := FOr_c h ho
  obtain ⟨τ, e, f, r⟩ := r_addG (P := P) hf hM hb b1 b2 hw ht q1 hd (FOr_01 h)
  refine ⟨τ, e, f, ?_⟩
  rcases hc with ⟨z, e⟩ | ⟨z, e, -⟩
  · rw [if_pos z] at r; rw [e]; exact r
  · rw [if_neg (by rw [z]; decide)] at r; rw [e]; exact r
theorem gc_1 (c : Int) : gcI c 1 = 1 := by unfold gcI; exact Nat.gcd_one_right _
theorem gc_1l (c : Int) : gcI 1 c = 1 := by unfold gcI; exact Nat.gcd_one_left _
/-- 1 and a fraction, either way round -/
theorem fadd_cm (hq : 1 ≤ q) : fadd (some (1, 1)) p q = fadd (some (p, q)) 1 1 := by
  have x1 : fqx 1 1 p q = fqx p q 1 1 := by
    unfold fqx; rw [gc_1, gc_1l]; simp; omega
  have z1 : fqz 1 q = fqz q 1 := by
    unfold fqz; rw [gc_1, gc_1l]; simp
  have o1 : fqo 1 1 p q ↔ fqo p q 1 1 := by
    unfold fqo; rw [gc_1, gc_1l]; simp
  unfold fadd
  rw [Option.bind_some, Option.bind_some]
  by_cases y : fqo p q 1 1 ∧ (fqx p q 1 1).natAbs ≤ 1000000000000000
  · rw [if_pos (show fqo (1, 1).1 (1, 1).2 p q ∧ (fqx (1, 1).1 (1, 1).2 p q).natAbs ≤ 1000000000000000 from ⟨o1.mpr y.1, by show (fqx 1 1 p q).natAbs ≤ _; rw [x1]; exact y.2⟩), if_pos (show fqo (p, q).1 (p, q).2 1 1 ∧ (fqx (p, q).1 (p, q).2 1 1).natAbs ≤ 1000000000000000 from y)]
    show some (fqx 1 1 p q / (gcI (fqx 1 1 p q) (fqz 1 q) : Int), fqz 1 q / (gcI (fqx 1 1 p q) (fqz 1 q) : Int)) = some (fqx p q 1 1 / (gcI (fqx p q 1 1) (fqz q 1) : Int), fqz q 1 / (gcI (fqx p q 1 1) (fqz q 1) : Int))
    rw [x1, z1]
  · rw [if_neg (show ¬ (fqo (1, 1).1 (1, 1).2 p q ∧ (fqx (1, 1).1 (1, 1).2 p q).natAbs ≤ 1000000000000000) from fun w => y ⟨o1.mp w.1, by have := w.2; rw [show fqx (1, 1).1 (1, 1).2 p q = fqx p q 1 1 from x1] at this; exact this⟩), if_neg (show ¬ (fqo (p, q).1 (p, q).2 1 1 ∧ (fqx (p, q).1 (p, q).2 1 1).natAbs ≤ 1000000000000000) from y)]
theorem fadd_0 (h : OKf o) : fadd o 0 1 = o := by
  cases o with
  | none => rfl
  | some z =>
    obtain ⟨h1, h2, h3, h4⟩ := h z rfl
    have x1 : fqx z.1 z.2 0 1 = z.1 := by unfold fqx; rw [gc_1]; simp
    have z1 : fqz z.2 1 = z.2 := by unfold fqz; rw [gc_1]; simp
    have o1 : fqo z.1 z.2 0 1 := by unfold fqo; rw [gc_1]; simp; omega
    unfold fadd
    rw [Option.bind_some, if_pos ⟨o1, by rw [x1]; exact h3⟩, x1, z1, h2]
    simp
end KRS
