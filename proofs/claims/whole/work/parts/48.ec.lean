/-! ===== ec: directions, both ===== -/
section ECA
variable {P : mx_P} {σ σ0 : mx_S} {l m a b d p : Nat} {r : rw3} {E : Nat → BV} {fn fd : Bool} {β : Type} {Q : β → Prop}
def g_c (k : Nat) : BV := b_frac (65536 - (k % 256 : Nat) * (k % 256 : Nat)) (65536 + (k % 256 : Nat) * (k % 256 : Nat))
def g_s (k : Nat) : BV := b_frac (512 * (k % 256 : Nat)) (65536 + (k % 256 : Nat) * (k % 256 : Nat))
def g_rot (v : V2) : Nat → V2
  | 0 => v
  | n + 1 => (b_neg (g_rot v n).2, (g_rot v n).1)
def g_D (k : Nat) : V2 := g_rot (g_c k, g_s k) (k / 256)
theorem b_nn (A : BV) : b_neg (b_neg A) = A := by
  cases A
  · rfl
  · rename_i p
    show some (- -p.1, - -p.2) = some p
    rw [Int.neg_neg, Int.neg_neg]
theorem sq256 {k : Nat} : 0 ≤ ((k % 256 : Nat) : Int) * ((k % 256 : Nat) : Int) ∧ ((k % 256 : Nat) : Int) * ((k % 256 : Nat) : Int) ≤ 65025 := by
  have := pr_bd (x := ((k % 256 : Nat) : Int)) (y := ((k % 256 : Nat) : Int)) (m := 255) (n := 255) (by omega) (by omega) (by omega) (by omega)
  have := sq_nn ((k % 256 : Nat) : Int)
  omega
/-- the machine's numbers of a direction -/
theorem dir_n {k : Nat} (hk : k < 1024) : ((65536 : Int64) - (q_n (k % 256)).toInt64 * (q_n (k % 256)).toInt64).toInt = 65536 - ((k % 256 : Nat) : Int) * ((k % 256 : Nat) : Int) ∧ ((65536 : Int64) + (q_n (k % 256)).toInt64 * (q_n (k % 256)).toInt64).toInt = 65536 + ((k % 256 : Nat) : Int) * ((k % 256 : Nat) : Int) ∧ ((512 : Int64) * (q_n (k % 256)).toInt64).toInt = 512 * ((k % 256 : Nat) : Int) := by
  have h256 : k % 256 < 256 := Nat.mod_lt _ (by omega)
  have e : (q_n (k % 256)).toInt64.toInt = ((k % 256 : Nat) : Int) := by rw [Int32.toInt_toInt64, q_nT (by omega)]
  have hs := sq256 (k := k)
  have m1 : ((q_n (k % 256)).toInt64 * (q_n (k % 256)).toInt64).toInt = ((k % 256 : Nat) : Int) * ((k % 256 : Nat) : Int) := by
    rw [q_lmul (by rw [e]; omega) (by rw [e]; omega), e]
  have c1 : (65536 : Int64).toInt = 65536 := rfl
  have c2 : (512 : Int64).toInt = 512 := rfl
  refine ⟨?_, ?_, ?_⟩
  · rw [q_lsub (by rw [m1, c1]; omega) (by rw [m1, c1]; omega), m1, c1]
  · rw [q_ladd (by rw [m1, c1]; omega) (by rw [m1, c1]; omega), m1, c1]
  · rw [q_lmul (by rw [e, c2]; omega) (by rw [e, c2]; omega), e, c2]
theorem uu_dir {k : Nat} {f : mx_S → Option β} (hf : 100 ≤ mpN P) (h : H σ0 m E fn fd σ) (hM : LyM σ0 m) (hp : mpb P ≤ m) (hd : d + 1 < 220) (hk : k < 1024) (hq : ∀ σ' E', H σ0 m E' fn fd σ' → E' d = (g_D k).1 → E' (d + 1) = (g_D k).2 → (∀ q, q ≠ d → q ≠ d + 1 → q ≠ 220 → E' q = E q) → Wp (f σ') Q) : Wp ((f_X12_direction P m (q_n d) (q_n k) σ).bind f) Q := by
  obtain ⟨n1, n2, n3⟩ := dir_n hk
  have hs := sq256 (k := k)
  refine Wp_b (Wp_mo (Q := fun σ' => ∃ E', H σ0 m E' fn fd σ' ∧ E' d = (g_D k).1 ∧ E' (d + 1) = (g_D k).2 ∧ ∀ q, q ≠ d → q ≠ d + 1 → q ≠ 220 → E' q = E q) ?_ (fun σ' ⟨E', a1, a2, a3, a4⟩ => hq σ' E' a1 a2 a3 a4))
  unfold f_X12_direction
  rw [show (256 : Int32) = q_n 256 from rfl, bd (k_mm (by omega) (by omega) (by omega)), bds, bds, q_nS]
  refine uu_is h hM (uu_frac h hM hp (by rw [n1]; omega) (by rw [n1]; omega) (by rw [n2]; omega) (by omega) fun σ1 v hv g1 => ?_)
  refine uu_is g1 hM (uu_frac g1 hM hp (by rw [n3]; omega) (by rw [n3]; omega) (by rw [n2]; omega) (by omega) fun σ2 w hw g2 => ?_)
  rw [n1, n2] at hv
  rw [n3, n2] at hw
  obtain ⟨τ, e, E', i1, i2, i3, i4⟩ := q_for (f_X12_direction_L47 P m (q_n d) (q_n k))
    (fun j x => x.1 = q_n j ∧ ∃ E', H σ0 m E' fn fd x.2 ∧ E' d = (g_rot (g_c k, g_s k) j).1 ∧ E' (d + 1) = (g_rot (g_c k, g_s k) j).2 ∧ ∀ q, q ≠ d → q ≠ d + 1 → q ≠ 220 → E' q = E q)
    (fun τ => ∃ E', H σ0 m E' fn fd τ ∧ E' d = (g_D k).1 ∧ E' (d + 1) = (g_D k).2 ∧ ∀ q, q ≠ d → q ≠ d + 1 → q ≠ 220 → E' q = E q) (k / 256)
    (by
      rintro j ⟨x, τ⟩ hj ⟨i1, E', i2, i3, i4, i5⟩
      dsimp only at i1 i2
      subst i1
      left
      have hj4 : k / 256 < 4 := by omega
      suffices hw : Wp (f_X12_direction_B47 P m (q_n d) (q_n k) (q_n j) τ) (fun z => ∃ t', z = .inl t' ∧ t'.1 = q_n (j + 1) ∧ ∃ E', H σ0 m E' fn fd t'.2 ∧ E' d = (g_rot (g_c k, g_s k) (j + 1)).1 ∧ E' (d + 1) = (g_rot (g_c k, g_s k) (j + 1)).2 ∧ ∀ q, q ≠ d → q ≠ d + 1 → q ≠ 220 → E' q = E q) by
        obtain ⟨z, ez, t', rfl, h'⟩ := hw
        exact ⟨t', ez, h'⟩
      unfold f_X12_direction_B47
      rw [show (256 : Int32) = q_n 256 from rfl, bd (k_md (by omega) (by omega) (by omega)), if_neg (by rw [q_nLe (by omega) (by omega)]; omega)]
      simp only [li_220, q_nS]
      refine uu_is i2 hM (uu_turned i2 hM hp (by omega) (by omega) fun σ3 v3 hv3 g3 => ?_)
      refine uu_is g3 hM (uu_copy g3 hM hp (by omega) (by omega) fun σ4 v4 hv4 g4 => ?_)
      refine uu_is g4 hM (uu_copy g4 hM hp (by omega) (by omega) fun σ5 v5 hv5 g5 => ?_)
      rw [bds]
      simp (disch := omega) only [up_e, up_n] at hv4 hv5
      refine Wp_s ⟨_, rfl, rfl, _, g5, ?_, ?_, fun q h1 h2 h3 => ?_⟩
      · rw [up_e, hv5, hv3, i4]; rfl
      · rw [up_n (by omega), up_e, hv4, i3]; rfl
      · rw [up_n h1, up_n h2, up_n h3]; exact i5 q h1 h2 h3)
    (by
      rintro ⟨x, τ⟩ ⟨i1, E', i2, i3, i4, i5⟩
      dsimp only at i1 i2
      subst i1
      refine ⟨τ, ?_, E', i2, i3, i4, i5⟩
      show f_X12_direction_B47 P m (q_n d) (q_n k) (q_n (k / 256)) τ = _
      unfold f_X12_direction_B47
      rw [show (256 : Int32) = q_n 256 from rfl, bd (k_md (by omega) (by omega) (by omega)), if_pos (by rw [q_nLe (by omega) (by omega)]; omega)])
    (k / 256) 0 ((0 : Int32), σ2) (mpN P) (by omega) ⟨rfl, _, g2, by rw [up_n (by omega), up_e, hv]; rfl, by rw [up_e, hw]; rfl, fun q h1 h2 h3 => by rw [up_n h2, up_n h1]⟩ (by omega)
  rw [bd e]
  exact Wp_s ⟨E', i1, i2, i3, i4⟩
theorem w_dir {k t : Nat} {f : mx_S → Option β} (g : G σ0 l E σ) (hp : mpb P ≤ l) (ht : px σ0 l t) (hk : k < 1024) (hq : ∀ σ', G σ0 l (up (up E (t + 1) (g_D k).1) (t + 2) (g_D k).2) σ' → Wp (f σ') Q) : Wp ((f_X8_direct P t (q_n k) σ).bind f) Q := by
  obtain ⟨n1, n2, n3⟩ := dir_n hk
  have hs := sq256 (k := k)
  have t1 := ht.2.1
  have t2 := ht.2.2
  have nt : t + 1 ≠ t + 2 := by omega
  have hj4 : k / 256 < 4 := by omega
  refine Wp_b (Wp_mo (Q := fun σ' => G σ0 l (up (up E (t + 1) (g_D k).1) (t + 2) (g_D k).2) σ') ?_ hq)
  have md2 : ∀ q, q < 4 → mm_I (q_n q) (2 : Int32) = some (q_n (q % 2)) := fun q hq => k_mm (b := 2) (by omega) (by omega) (by omega)
  unfold f_X8_direct f_X8_direct_D39
  rw [show (256 : Int32) = q_n 256 from rfl, bd (k_md (by omega) (by omega) (by omega)), bd (k_mm (by omega) (by omega) (by omega)), bds, bds, bd (md2 _ hj4)]
  -- the two fractions, by the place of the first
  have two : ∀ (a b : Nat), bx σ0 l a → bx σ0 l b → ∀ (Q' : mx_S → Prop), (∀ σ', G σ0 l (up (up E a (g_c k)) b (g_s k)) σ' → Wp (if q_n (k / 256) = (1 : Int32) then f_X8_direct_D96 P t (q_n (k / 256)) σ' else (if q_n (k / 256) = (2 : Int32) then f_X8_direct_D96 P t (q_n (k / 256)) σ' else f_X8_direct_D107 P t (q_n (k / 256)) σ')) Q') → Wp (f_X8_direct_D58 P t (q_n (k / 256)) (q_n (k % 256)).toInt64 ((65536 : Int64) + (q_n (k % 256)).toInt64 * (q_n (k % 256)).toInt64) a b σ) Q' := by
    intro a b ha hb Q' hQ
    unfold f_X8_direct_D58
    refine w_bis g ha (w_frac g hp (by rw [n1]; omega) (by rw [n1]; omega) (by rw [n2]; omega) ha fun σ1 g1 => ?_)
    refine w_bis g1 hb (w_frac g1 hp (by rw [n3]; omega) (by rw [n3]; omega) (by rw [n2]; omega) hb fun σ2 g2 => ?_)
    rw [n1, n2, n3] at g2
    exact hQ σ2 g2
  have hc : k / 256 = 0 ∨ k / 256 = 1 ∨ k / 256 = 2 ∨ k / 256 = 3 := by omega
  unfold g_D
  rcases hc with hc | hc | hc | hc
  · rw [hc] at two ⊢
    rw [if_pos (by decide)]
    refine w_px g ht ?_
    rw [bd (md2 0 (by omega)), if_pos (by decide)]
    refine w_py g ht (two _ _ t1 t2 _ fun σ' g' => ?_)
    rw [if_neg (by decide), if_neg (by decide)]
    unfold f_X8_direct_D107 f_X8_direct_D128
    rw [if_neg (by decide), if_neg (by decide)]
    exact Wp_s g'
  · rw [hc] at two ⊢
    rw [if_neg (by decide)]
    refine w_py g ht ?_
    rw [bd (md2 1 (by omega)), if_neg (by decide)]
    refine w_px g ht (two _ _ t2 t1 _ fun σ' g' => ?_)
    rw [if_pos (by decide)]
    unfold f_X8_direct_D96 f_X8_direct_D107 f_X8_direct_D128
    refine w_px g' ht (w_px g' ht (w_bis g' t1 (w_neg g' hp t1 t1 fun σ2 g2 => ?_)))
    rw [if_neg (by decide), if_neg (by decide)]
    rw [up_e, up2, up_c nt.symm] at g2
    exact Wp_s g2
  · rw [hc] at two ⊢
    rw [if_pos (by decide)]
    refine w_px g ht ?_
    rw [bd (md2 2 (by omega)), if_pos (by decide)]
    refine w_py g ht (two _ _ t1 t2 _ fun σ' g' => ?_)
    rw [if_neg (by decide), if_pos (by decide)]
    unfold f_X8_direct_D96 f_X8_direct_D107 f_X8_direct_D117 f_X8_direct_D128
    refine w_px g' ht (w_px g' ht (w_bis g' t1 (w_neg g' hp t1 t1 fun σ2 g2 => ?_)))
    rw [if_pos (by decide)]
    rw [up_n nt, up_e, up_c nt.symm, up2] at g2
    refine w_py g2 ht (w_py g2 ht (w_bis g2 t2 (w_neg g2 hp t2 t2 fun σ3 g3 => ?_)))
    rw [up_e, up2] at g3
    exact Wp_s g3
  · rw [hc] at two ⊢
    rw [if_neg (by decide)]
    refine w_py g ht ?_
    rw [bd (md2 3 (by omega)), if_neg (by decide)]
    refine w_px g ht (two _ _ t2 t1 _ fun σ' g' => ?_)
    rw [if_neg (by decide), if_neg (by decide)]
    unfold f_X8_direct_D107 f_X8_direct_D117 f_X8_direct_D128
    rw [if_neg (by decide), if_pos (by decide)]
    refine w_py g' ht (w_py g' ht (w_bis g' t2 (w_neg g' hp t2 t2 fun σ2 g2 => ?_)))
    rw [up_n nt.symm, up_e, up_c nt, up2, up_c nt.symm] at g2
    have : b_neg (b_neg (g_s k)) = g_s k := b_nn _
    show Wp (some σ2) _
    refine Wp_s ?_
    show G σ0 l (up (up E (t + 1) (b_neg (b_neg (g_s k)))) (t + 2) (b_neg (g_c k))) σ2
    rw [this]; exact g2
end ECA
