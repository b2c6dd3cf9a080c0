/-! ===== cb: roots ===== -/
section CBA
variable {P : mx_P} {σ : mx_S} {a b t : Nat} {r r' : rw3} {A B T : BV}
theorem isq_spec {n : Nat} : ∀ k r, r * r ≤ n → n < (r + 2 ^ k) * (r + 2 ^ k) → isq n k r * isq n k r ≤ n ∧ n < (isq n k r + 1) * (isq n k r + 1)
  | 0, r, h1, h2 => ⟨h1, h2⟩
  | k + 1, r, h1, h2 => by
    show isq n k _ * isq n k _ ≤ n ∧ n < (isq n k _ + 1) * (isq n k _ + 1)
    by_cases h : (r + 2 ^ k) * (r + 2 ^ k) ≤ n
    · rw [if_pos h]
      refine isq_spec k _ h ?_
      rw [Nat.pow_succ] at h2
      rw [show r + 2 ^ k + 2 ^ k = r + 2 ^ k * 2 by omega]; exact h2
    · rw [if_neg h]
      exact isq_spec k r h1 (by omega)
theorem sq_lt {x y : Nat} (h : x * x < y * y) : x < y := by
  by_cases hc : x < y
  · exact hc
  · have : y * y ≤ x * x := Nat.mul_le_mul (by omega) (by omega)
    omega
theorem isq_u {n r s : Nat} (h1 : r * r ≤ n) (h2 : n < (r + 1) * (r + 1)) (h3 : s * s ≤ n) (h4 : n < (s + 1) * (s + 1)) : r = s := by
  have a1 := sq_lt (x := r) (y := s + 1) (by omega)
  have a2 := sq_lt (x := s) (y := r + 1) (by omega)
  omega
theorem isq_32 {n : Nat} (h : n < 281474976710656) : isq n 32 0 = isq n 24 0 := by
  obtain ⟨h1, h2⟩ := isq_spec (n := n) 32 0 (by omega) (by omega)
  obtain ⟨h3, h4⟩ := isq_spec (n := n) 24 0 (by omega) (by omega)
  exact isq_u h1 h2 h3 h4
theorem isq_lt {n : Nat} (h : n < 281474976710656) : isq n 24 0 < 16777216 := by
  obtain ⟨h3, h4⟩ := isq_spec (n := n) 24 0 (by omega) (by omega)
  exact sq_lt (by omega)
theorem shl1 : ∀ b : Fin 24, ((1 : Int64) <<< ((q_n b.1).toInt64 &&& 63)) = l_n (2 ^ b.1) := by decide +kernel
theorem l_or (x y : Nat) : l_n x ||| l_n y = l_n (x ||| y) := by
  rw [← Int64.toBitVec_inj]
  show BitVec.ofNat 64 x ||| BitVec.ofNat 64 y = BitVec.ofNat 64 (x ||| y)
  rw [BitVec.ofNat_or]
def dv2 (b x : Nat) : Prop := 2 ^ b ∣ x
theorem dv2_up {b x : Nat} (h : dv2 (b + 1) x) : dv2 b x := Nat.dvd_trans ⟨2, by rw [Nat.pow_succ]⟩ h
theorem dv2_ad {b x : Nat} (h : dv2 (b + 1) x) : dv2 b (x + 2 ^ b) := by
  obtain ⟨c, rfl⟩ := h
  exact ⟨2 * c + 1, by rw [Nat.pow_succ, Nat.mul_add, Nat.mul_one, Nat.mul_assoc]⟩
theorem l_or2 {x b : Nat} (hb : b < 24) (h : dv2 (b + 1) x) : l_n x ||| ((1 : Int64) <<< ((q_n b).toInt64 &&& 63)) = l_n (x + 2 ^ b) := by
  rw [shl1 ⟨b, hb⟩, l_or]
  obtain ⟨c, rfl⟩ := h
  rw [Nat.two_pow_add_eq_or_of_lt (Nat.pow_lt_pow_right (by omega) (by omega))]
theorem l_cmpn {x y : Nat} (hx : x < 9223372036854775808) (hy : y < 9223372036854775808) : 0 < lg_cmp (l_n x) (l_n y) ↔ y < x := by
  rw [q_cmp_gt, l_nLt hy hx]
theorem isq_S (n k r : Nat) : isq n (k + 1) r = isq n k (if (r + 2 ^ k) * (r + 2 ^ k) ≤ n then r + 2 ^ k else r) := rfl
theorem k_rbs {N r b : Nat} (hN : N < 281474976710656) (hb : b < 24) (hd : dv2 (b + 1) r) (hr : r * r ≤ N) {v4 : Int32} (hv : v4 = q_n b) : f_X0_rootBelow_B6 P (l_n N) (l_n r) v4 σ = some (.inl (l_n (if (r + 2 ^ b) * (r + 2 ^ b) ≤ N then r + 2 ^ b else r), v4 + (-1 : Int32), σ)) := by
  have hr2 : r < 16777216 := sq_lt (by omega)
  have hp2 : 2 ^ b ≤ 8388608 := Nat.pow_le_pow_right (n := 2) (by omega) (show b ≤ 23 by omega)
  have hv0 : ¬ v4 < 0 := by rw [hv, q_lt, q_nT (by omega), q_i0]; omega
  have ho := l_or2 hb hd
  unfold f_X0_rootBelow_B6 f_X0_rootBelow_D32_6
  rw [if_neg hv0, Option.bind_some, Option.bind_some, hv, ho, l_nM]
  clear hd ho hv hv0
  generalize 2 ^ b = w at *
  have hrr : (r + w) * (r + w) ≤ 633318697598976 := Nat.mul_le_mul (show r + w ≤ 25165824 by omega) (show r + w ≤ 25165824 by omega)
  by_cases hc : (r + w) * (r + w) ≤ N
  · rw [if_neg (by rw [l_cmpn (by omega) (by omega)]; omega), if_pos hc]; rfl
  · rw [if_pos (by rw [l_cmpn (by omega) (by omega)]; omega), if_neg hc]
theorem k_rootBelow {N : Nat} (hN : N < 281474976710656) (hf : 100 ≤ mpN P) : f_X0_rootBelow P (l_n N) σ = some (l_n (isq N 24 0), σ) := by
  unfold f_X0_rootBelow
  obtain ⟨r, hr, hp⟩ := q_for (f_X0_rootBelow_L6 P (l_n N))
    (fun k t => ∃ r, t.1 = l_n r ∧ t.2.1.toInt = 23 - k ∧ t.2.2 = σ ∧ dv2 (24 - k) r ∧ r * r ≤ N ∧ isq N (24 - k) r = isq N 24 0)
    (fun x => x = (l_n (isq N 24 0), σ)) 24
    (by
      rintro k ⟨v2, v4, τ⟩ hk ⟨r, h1, h2, h3, h4, h5, h6⟩
      dsimp only at h1 h2 h3
      subst h1; subst h3
      left
      have hv : v4 = q_n (23 - k) := by rw [q_eq, q_nT (by omega), h2]; omega
      have e24 : 24 - k = (23 - k) + 1 := by omega
      have e25 : 24 - (k + 1) = 23 - k := by omega
      have hb : 23 - k < 24 := by omega
      have hm : (v4 + (-1 : Int32)).toInt = 23 - ((k + 1 : Nat) : Int) := by
        rw [q_iadd (by rw [h2, show (-1 : Int32).toInt = -1 by decide]; omega) (by rw [h2, show (-1 : Int32).toInt = -1 by decide]; omega), h2, show (-1 : Int32).toInt = -1 by decide]; omega
      rw [e24] at h4 h6
      rw [isq_S] at h6
      refine ⟨_, k_rbs hN hb h4 h5 hv, _, rfl, hm, rfl, ?_, ?_, ?_⟩
      · rw [e25]
        by_cases hc : (r + 2 ^ (23 - k)) * (r + 2 ^ (23 - k)) ≤ N
        · rw [if_pos hc]; exact dv2_ad h4
        · rw [if_neg hc]; exact dv2_up h4
      · by_cases hc : (r + 2 ^ (23 - k)) * (r + 2 ^ (23 - k)) ≤ N
        · rw [if_pos hc]; exact hc
        · rw [if_neg hc]; exact h5
      · rw [e25]; exact h6)
    (by
      rintro ⟨v2, v4, τ⟩ ⟨r, h1, h2, h3, h4, h5, h6⟩
      dsimp only at h1 h2 h3
      subst h1; subst h3
      show ∃ r', f_X0_rootBelow_B6 P (l_n N) (l_n r) v4 τ = some (.inr r') ∧ _
      unfold f_X0_rootBelow_B6
      rw [if_pos (by rw [q_lt, h2, q_i0]; omega)]
      exact ⟨_, rfl, by rw [← h6]; rfl⟩)
    24 0 ((0 : Int64), (23 : Int32), σ) (mpN P) (by omega) ⟨0, rfl, by show (23 : Int32).toInt = 23 - ((0 : Nat) : Int); decide, rfl, Nat.dvd_zero _, by omega, rfl⟩ (by omega)
  rw [hr, hp]; rfl
theorem k_rts {N r k : Nat} (hN : N < 281474976710656) (hk : k < 32) (hr : r * r ≤ N) : f_X12_root_B7 P (l_n N) (l_n r) (l_n (2 ^ (31 - k))) σ = some (.inl (l_n (if (r + 2 ^ (31 - k)) * (r + 2 ^ (31 - k)) ≤ N then r + 2 ^ (31 - k) else r), (if k + 1 < 32 then l_n (2 ^ (31 - (k + 1))) else 0), σ)) := by
  have hr2 : r < 16777216 := sq_lt (by omega)
  have hp2 : 2 ^ (31 - k) ≤ 2147483648 := Nat.pow_le_pow_right (n := 2) (by omega) (show 31 - k ≤ 31 by omega)
  have hp3 : 0 < 2 ^ (31 - k) := Nat.two_pow_pos _
  have hdv : 2 ^ (31 - k) < 9223372036854775808 → md_L (l_n (2 ^ (31 - k))) (2 : Int64) = some (if k + 1 < 32 then l_n (2 ^ (31 - (k + 1))) else 0) := by
    intro hlt
    rw [show (2 : Int64) = l_n 2 from rfl, k_mdL hlt (by decide) (by decide)]
    by_cases hk2 : k + 1 < 32
    · have e : 31 - k = (31 - (k + 1)) + 1 := by omega
      rw [if_pos hk2, e, Nat.pow_succ, Nat.mul_div_cancel _ (by decide)]
    · have e : 31 - k = 0 := by omega
      rw [if_neg hk2, e]; rfl
  unfold f_X12_root_B7 f_X12_root_D33_7
  generalize 2 ^ (31 - k) = w at *
  have hdv := hdv (by omega)
  have hrr : (r + w) * (r + w) ≤ 4684025087442026496 := Nat.mul_le_mul (show r + w ≤ 2164260864 by omega) (show r + w ≤ 2164260864 by omega)
  rw [if_neg (by rw [l_np, l_nT (by omega)]; omega), l_nA, l_nM, hdv, Option.bind_some, Option.bind_some]
  by_cases hc : (r + w) * (r + w) ≤ N
  · rw [if_neg (by rw [l_cmpn (by omega) (by omega)]; omega), if_pos hc]; rfl
  · rw [if_pos (by rw [l_cmpn (by omega) (by omega)]; omega), if_neg hc]
theorem k_root {N : Nat} (hN : N < 281474976710656) (hf : 100 ≤ mpN P) : f_X12_root P (l_n N) σ = some (l_n (isq N 24 0), σ) := by
  unfold f_X12_root
  obtain ⟨r, hr, hp⟩ := q_for (f_X12_root_L7 P (l_n N))
    (fun k t => ∃ r, t.1 = l_n r ∧ t.2.1 = (if k < 32 then l_n (2 ^ (31 - k)) else 0) ∧ t.2.2 = σ ∧ r * r ≤ N ∧ isq N (32 - k) r = isq N 32 0)
    (fun x => x = (l_n (isq N 24 0), σ)) 32
    (by
      rintro k ⟨v2, v4, τ⟩ hk ⟨r, h1, h2, h3, h5, h6⟩
      dsimp only at h1 h2 h3
      subst h1; subst h3
      rw [if_pos hk] at h2
      subst h2
      left
      have e33 : 32 - (k + 1) = 31 - k := by omega
      have e32 : 32 - k = (31 - k) + 1 := by omega
      rw [e32, isq_S] at h6
      refine ⟨_, k_rts hN hk h5, _, rfl, rfl, rfl, ?_, ?_⟩
      · by_cases hc : (r + 2 ^ (31 - k)) * (r + 2 ^ (31 - k)) ≤ N
        · rw [if_pos hc]; exact hc
        · rw [if_neg hc]; exact h5
      · rw [e33]; exact h6)
    (by
      rintro ⟨v2, v4, τ⟩ ⟨r, h1, h2, h3, h5, h6⟩
      dsimp only at h1 h2 h3
      subst h1; subst h3
      rw [if_neg (by omega)] at h2
      subst h2
      show ∃ r', f_X12_root_B7 P (l_n N) (l_n r) 0 τ = some (.inr r') ∧ _
      unfold f_X12_root_B7
      rw [if_pos (by decide)]
      exact ⟨_, rfl, by rw [← isq_32 hN, ← h6]; rfl⟩)
    32 0 ((0 : Int64), (2147483648 : Int64), σ) (mpN P) (by omega) ⟨0, rfl, rfl, rfl, by omega, rfl⟩ (by omega)
  rw [hr, hp]; rfl
theorem l_ofT {x : Int64} (h : 0 ≤ x.toInt) : x = l_n x.toInt.toNat := by
  have h2 := x.toInt_lt
  rw [q_leq, l_nT (by omega)]; omega
/-- a root's two numbers, by the machine -/
theorem rt_T {x : Int} (h0 : 0 ≤ x) (h1 : x ≤ 2147483648) : 0 ≤ rtb x ∧ rtb x < 16777216 ∧ rtb x * rtb x ≤ 65536 * x := by
  have hN : (65536 * x).toNat < 281474976710656 := by omega
  have a1 := isq_lt hN
  obtain ⟨a2, -⟩ := isq_spec (n := (65536 * x).toNat) 24 0 (by omega) (by omega)
  unfold rtb
  generalize isq (65536 * x).toNat 24 0 = s at *
  refine ⟨by omega, by omega, ?_⟩
  have : ((s * s : Nat) : Int) = (s : Int) * (s : Int) := Int.natCast_mul s s
  omega
theorem rt_mono {x y : Int} (h0 : 0 ≤ x) (h : x ≤ y) (h1 : y ≤ 2147483648) : rtb x ≤ rtb y := by
  have hN : (65536 * x).toNat < 281474976710656 := by omega
  have hM : (65536 * y).toNat < 281474976710656 := by omega
  obtain ⟨a2, -⟩ := isq_spec (n := (65536 * x).toNat) 24 0 (by omega) (by omega)
  obtain ⟨-, a3⟩ := isq_spec (n := (65536 * y).toNat) 24 0 (by omega) (by omega)
  unfold rtb
  have := sq_lt (x := isq (65536 * x).toNat 24 0) (y := isq (65536 * y).toNat 24 0 + 1) (by omega)
  omega
theorem k_rb {x : Int64} (hf : 100 ≤ mpN P) (h0 : 0 ≤ x.toInt) (h1 : x.toInt ≤ 2147483648) : ∃ y, f_X0_rootBelow P (x <<< ((16 : Int32).toInt64 &&& 63)) σ = some (y, σ) ∧ y.toInt = rtb x.toInt := by
  have s1 := q_shl h0 h1
  obtain ⟨u1, u2, u3⟩ := rt_T h0 h1
  refine ⟨l_n (rtb x.toInt).toNat, ?_, by rw [l_nT (by omega)]; omega⟩
  have e : (rtb x.toInt).toNat = isq (65536 * x.toInt).toNat 24 0 := by unfold rtb; rw [Int.toNat_natCast]
  rw [l_ofT (x := x <<< ((16 : Int32).toInt64 &&& 63)) (by omega), s1, e]
  exact k_rootBelow (by omega) hf
theorem k_rb' {x : Int64} (hf : 100 ≤ mpN P) (h0 : 0 ≤ x.toInt) (h1 : x.toInt ≤ 2147483648) : ∃ y, f_X12_root P ((65536 : Int64) * x) σ = some (y, σ) ∧ y.toInt = rtb x.toInt ∧ ((65536 : Int64) * x).toInt = 65536 * x.toInt := by
  have s1 : ((65536 : Int64) * x).toInt = 65536 * x.toInt := q_lmul (by rw [show (65536 : Int64).toInt = 65536 from rfl]; omega) (by rw [show (65536 : Int64).toInt = 65536 from rfl]; omega)
  obtain ⟨u1, u2, u3⟩ := rt_T h0 h1
  refine ⟨l_n (rtb x.toInt).toNat, ?_, by rw [l_nT (by omega)]; omega, s1⟩
  have e : (rtb x.toInt).toNat = isq (65536 * x.toInt).toNat 24 0 := by unfold rtb; rw [Int.toNat_natCast]
  rw [l_ofT (x := (65536 : Int64) * x) (by omega), s1, e]
  exact k_root (by omega) hf
theorem b_root_s (p q : Int) : b_root (some (p, q)) = some (rtb p, if rtb q * rtb q < 65536 * q then rtb q + 1 else rtb q) := rfl
theorem c_root (hf : 100 ≤ mpN P) (ht : mxA σ t = some (.inl 0)) (hp : mpb P ≤ t) (hT : RB (rd σ t) T) (h0 : ∀ p, T = some p → 0 ≤ p.1) : ∃ r, f_X0_takeRoot P t σ = some (bs σ t r) ∧ RB r (b_root T) := by
  unfold f_X0_takeRoot f_X0_takeRoot_D66 f_X0_takeRoot_D16
  simp only [q_gI ht, q_gL ht, q_is ht, Option.bind_some, k_kp ht hp, k_sh ht hp, l_nn]
  rcases RB_o hT with ⟨t0, rfl, t1, t2, t3⟩ | ⟨t0, rfl⟩
  · have h1 : 0 ≤ (mxL σ t 0).toInt := h0 _ rfl
    rw [if_pos t0, if_pos h1]
    obtain ⟨x, k1, e1⟩ := k_rb (P := P) (σ := σ) (x := mxL σ t 0) hf h1 (by omega)
    obtain ⟨y, k2, e2⟩ := k_rb (P := P) (σ := σ) (x := mxL σ t 1) hf (by omega) (by omega)
    have s2 := q_shl (x := mxL σ t 1) (by omega) (by omega)
    obtain ⟨u1, u2, u3⟩ := rt_T h1 (by omega)
    obtain ⟨w1, w2, w3⟩ := rt_T (x := (mxL σ t 1).toInt) (by omega) (by omega)
    have um := rt_mono h1 t2 t3
    rw [b_root_s, k1, q_b2, q_gL ht, Option.bind_some, k2, q_b2, q_gL ht, Option.bind_some, q_is ht, Option.bind_some, Option.bind_some, k_kp ht hp, k_kp ht hp, Option.bind_some, Option.bind_some]
    generalize rtb (mxL σ t 0).toInt = R0 at *
    generalize rtb (mxL σ t 1).toInt = R1 at *
    have e3 : (y * y).toInt = R1 * R1 := by
      rw [l_prod (by omega) (by omega) (by omega) (by omega), e2]
    by_cases hc : R1 * R1 < 65536 * (mxL σ t 1).toInt
    · rw [if_neg (by rw [q_cmp_ge, q_lle, e3, s2]; omega), if_pos hc]
      refine ⟨_, rfl, RB_eq (RB_keep' e1 (y := R1 + 1) (by rw [q_ladd (by rw [q_l1]; omega) (by rw [q_l1]; omega), e2, q_l1]) (by omega)) ?_⟩
      unfold b_mk; rw [if_neg (by omega)]
    · rw [if_pos (by rw [q_cmp_ge, q_lle, e3, s2]; omega), if_neg hc]
      refine ⟨_, rfl, RB_eq (RB_keep' e1 e2 um) ?_⟩
      unfold b_mk; rw [if_neg (by omega)]
  · rw [if_neg t0]; exact ⟨_, rfl, RB_shut⟩
end CBA
