/-! ===== gv: guards and outcomes ===== -/
section GVS
variable {M : BV} {P : mx_P} {σ σ0 σ1 τ : mx_S} {x l l' m : Nat} {E : Nat → BV} {K : LK} {pl pl0 pl' mk : Nat → Nat} {wy p : Nat} {B : LB} {β R : Type}
def exn : Nat → String
  | 1 => "java/lang/IllegalArgumentException"
  | 2 => "java/util/NoSuchElementException"
  | 3 => "java/lang/IllegalStateException"
  | _ => ""
def rg (a : Int32) (u : Int) : Prop := 0 ≤ a.toInt ∧ a.toInt ≤ u
def wi (a : Int32) (n : Nat) : Prop := 0 ≤ a.toInt ∧ a.toInt < n
theorem rg_n {a : Int32} {u : Nat} (h : rg a u) : ∃ w, w ≤ u ∧ a = q_n w := ⟨a.toInt.toNat, by have := h.1; have := h.2; omega, q_ofT h.1⟩
theorem wi_n {a : Int32} {n : Nat} (h : wi a n) : ∃ w, w < n ∧ a = q_n w := ⟨a.toInt.toNat, by have := h.1; have := h.2; omega, q_ofT h.1⟩
theorem rg_b {a : Int32} (h : rg a 1) : ∃ b, a = bI b := by
  obtain ⟨w, hw, rfl⟩ := rg_n (u := 1) h
  rcases w with _ | _ | w
  · exact ⟨false, rfl⟩
  · exact ⟨true, rfl⟩
  · omega
theorem w_rg {v lo hi : Int32} {k : mx_S → Option ((String × mx_S) ⊕ β)} {Q : (String × mx_S) ⊕ β → Prop} (hr : Rm P σ 1 6) (h1 : lo.toInt ≤ v.toInt ∧ v.toInt ≤ hi.toInt → Wp (k σ) Q) (h2 : ¬ (lo.toInt ≤ v.toInt ∧ v.toInt ≤ hi.toInt) → Q (.inl (exn 1, th σ))) : Wp (mx_bx (f_X11_needRange P v lo hi σ) k) Q := by
  by_cases h : lo.toInt ≤ v.toInt ∧ v.toInt ≤ hi.toInt
  · rw [rg_t h]; exact h1 h
  · rw [rg_f h hr]; exact ⟨_, rfl, h2 h⟩
theorem w_np1 {k : mx_S → Option ((String × mx_S) ⊕ β)} {Q : (String × mx_S) ⊕ β → Prop} (h1 : Wp (k σ) Q) : Wp (mx_bx (f_X11_needPresence P 1 σ) k) Q := by
  rw [np_1]; exact h1
theorem w_np0 {k : mx_S → Option ((String × mx_S) ⊕ β)} {Q : (String × mx_S) ⊕ β → Prop} (hr : Rm P σ 1 6) (h1 : Q (.inl (exn 2, th σ))) : Wp (mx_bx (f_X11_needPresence P 0 σ) k) Q := by
  rw [np_0 hr]; exact ⟨_, rfl, h1⟩
theorem w_wi {v : Int32} {n : Nat} (hn : n < 2147483648) {k : Int32 → mx_S → Option β} {Q : β → Prop} (h1 : wi v n → Wp (k 1 σ) Q) (h2 : ¬ wi v n → Wp (k 0 σ) Q) : Wp (mx_b2 (f_X11_isWithin P v (q_n n) σ) k) Q := by
  have e : (q_n n).toInt = n := q_nT hn
  by_cases h : wi v n
  · rw [wi_t (by rw [e]; exact h)]; exact h1 h
  · rw [wi_f (by rw [e]; exact h)]; exact h2 h
theorem w_in {v : Int32} {lo hi : Int64} {k : Int32 → mx_S → Option β} {Q : β → Prop} (h1 : lo.toInt ≤ v.toInt ∧ v.toInt ≤ hi.toInt → Wp (k 1 σ) Q) (h2 : ¬ (lo.toInt ≤ v.toInt ∧ v.toInt ≤ hi.toInt) → Wp (k 0 σ) Q) : Wp (mx_b2 (f_X12_in P v.toInt64 lo hi σ) k) Q := by
  by_cases h : lo.toInt ≤ v.toInt ∧ v.toInt ≤ hi.toInt
  · rw [in_t h]; exact h1 h
  · rw [in_f h]; exact h2 h
theorem w_isw {a b : Int32} {k : Int32 → mx_S → Option β} {Q : β → Prop} (h1 : rg a 255 ∧ rg b 3 → Wp (k 1 σ) Q) (h2 : ¬ (rg a 255 ∧ rg b 3) → Wp (k 0 σ) Q) : Wp (mx_b2 (f_X12_isWay P m a b σ) k) Q := by
  have y1 : mr_Z 1 σ = some (1, σ) := if_pos (Or.inr rfl)
  have y0 : mr_Z 0 σ = some (0, σ) := if_pos (Or.inl rfl)
  have z1 : ¬ (1 : Int32) = 0 := by decide
  by_cases h : rg a 255
  · by_cases h' : rg b 3
    · have e : f_X12_isWay P m a b σ = some (1, σ) := by
        unfold f_X12_isWay f_X12_isWay_D29
        rw [bd2 (in_t (l := 0) (u := 255) h _), if_neg z1, bd2 (in_t (l := 0) (u := 3) h' _), if_neg z1]; exact y1
      rw [e]; exact h1 ⟨h, h'⟩
    · have e : f_X12_isWay P m a b σ = some (0, σ) := by
        unfold f_X12_isWay f_X12_isWay_D28 f_X12_isWay_D29
        rw [bd2 (in_t (l := 0) (u := 255) h _), if_neg z1, bd2 (in_f (l := 0) (u := 3) h' _), if_pos rfl]; exact y0
      rw [e]; exact h2 (fun z => h' z.2)
  · have e : f_X12_isWay P m a b σ = some (0, σ) := by
      unfold f_X12_isWay f_X12_isWay_D28 f_X12_isWay_D29
      rw [bd2 (in_f (l := 0) (u := 255) h _), if_pos rfl]; exact y0
    rw [e]; exact h2 (fun z => h z.1)
theorem w_isp {a : Int32} {n : Nat} {k : Int32 → mx_S → Option β} {Q : β → Prop} (hM : LyM σ m) (hn : n ≤ 40) (h19 : mxI σ m 19 = q_n n) (h1 : wi a n → Wp (k 1 σ) Q) (h2 : ¬ wi a n → Wp (k 0 σ) Q) : Wp (mx_b2 (f_X12_isPoint P m a σ) k) Q := by
  have y1 : mr_Z 1 σ = some (1, σ) := if_pos (Or.inr rfl)
  have y0 : mr_Z 0 σ = some (0, σ) := if_pos (Or.inl rfl)
  have e : (q_n n).toInt = n := q_nT (by omega)
  unfold f_X12_isPoint f_X12_isPoint_D16 f_X12_isPoint_D17
  by_cases h : a < 0
  · rw [if_pos h, y0]; exact h2 (fun z => by rw [q_lt, q_i0] at h; have := z.1; omega)
  · rw [if_neg h, bd (am_gI hM), h19]
    by_cases h' : q_n n ≤ a
    · rw [if_pos h', y0]; exact h2 (fun z => by rw [q_le, e] at h'; have := z.2; omega)
    · rw [if_neg h', y1]; exact h1 ⟨by rw [q_lt, q_i0] at h; omega, by rw [q_le, e] at h'; omega⟩
theorem u_th {k : Int32} {A C : mx_S → Option β} {Q : β → Prop} (hM : LyM σ m) (hp : mpb P ≤ m) (h : Wp (if k ≤ 0 then A (mx_setI σ m 0 k) else C (mx_setI σ m 0 k)) Q) : Wp ((mp_I P σ m 12 0 k).bind fun τ => (mg_I τ m 12 0).bind fun y => if y ≤ 0 then A τ else C τ) Q := by
  have hM1 : LyM (mx_setI σ m 0 k) m := hM
  rw [bd (am_pI hM hp _), bd (am_gI hM1), show mxI (mx_setI σ m 0 k) m 0 = k from if_pos ⟨rfl, rfl⟩]; exact h
/-- what the class may answer -/
def CO (vi : R → Int) (S : Nat → Int → (Nat → Nat) → Prop) (C : (Nat → Nat) → mx_S → Prop) : (String × mx_S) ⊕ (R × mx_S) → Prop
  | .inl (s, τ) => ∃ τ' k pl', τ = th τ' ∧ s = exn k ∧ 0 < k ∧ k < 4 ∧ S k 0 pl' ∧ C pl' τ'
  | .inr (v, τ) => ∃ pl', S 0 (vi v) pl' ∧ C pl' τ
/-- what the reference answers -/
def RO (vi : R → Int) (cd : Nat → Nat) (m : Nat) (K : LK) (σ0 : mx_S) (k : Nat) (val : Int) (pl' : Nat → Nat) : R × mx_S → Prop := fun r => mxI r.2 m 0 = q_n (cd k) ∧ (k = 0 → vi r.1 = val) ∧ RSq m K σ0 pl' r.2
def lP (σ : mx_S) (l : Nat) (K : LK) (mk pl pl' : Nat → Nat) (τ : mx_S) : Prop := ∃ M, CS M l K mk σ pl pl' τ
theorem asm {vi : R → Int} {f : mx_S → Option (R × mx_S)} {lo : Option (Int32 × mx_S)} {fX : Option ((String × mx_S) ⊕ (R × mx_S))} {S : Nat → Int → (Nat → Nat) → Prop} {cd : Nat → Nat} {g : R → Int64} (hS : St P σ x) (hT : kT K) (hB : LBok (kN K) B) (hc : RLc x l l' K mk pl B σ) (hr : RLr (x + 1497) K pl B σ)
    (hg : ∀ v w, vi v = vi w → g v = g w)
    (h0 : ∀ τ v, fX = some (.inr (v, τ)) → mxA τ (x + 1575) = some (.inr (1, 1)) → lo = some (0, mx_setL τ (x + 1575) 0 (g v)))
    (ht : ∀ τ k pl', 0 < k → k < 4 → S k 0 pl' → fX = some (.inl (exn k, τ)) → lo = some (q_n (cd k), τ))
    (hcl : Wp fX (CO vi S (lP σ l K mk pl)))
    (hrf : ∀ k val pl' τ1, S k val pl' → RLr (x + 1497) K pl B τ1 → LyM τ1 (x + 1497) → Wp (f τ1) (RO vi cd (x + 1497) K τ1 k val pl'))
    (hcd : cd 0 = 0 ∧ ∀ k, 0 < k → k < 4 → q_n (cd k) ≠ 0) :
    ∃ k v τ1 τ2, lo = some (k, τ1) ∧ f τ1 = some (v, τ2) ∧ mxI τ2 (x + 1497) 0 = k ∧ (k = 0 → mxL τ2 (x + 1575) 0 = g v) ∧ mxA τ1 = mxA σ ∧ Fr x [7] σ τ2 ∧ RL x τ2 := by
  obtain ⟨hL, hb, hN, hrm⟩ := hS
  have hl := hc.1.2.2
  have hLl : LyL (mxA σ) (mxR σ) l := by rcases hl with ⟨rfl, -⟩ | ⟨rfl, -⟩; exact LyH_l1 hL; exact LyH_l2 hL
  obtain ⟨r, er, hr0⟩ := hcl
  rcases r with ⟨s, τ⟩ | ⟨v, τ⟩
  · obtain ⟨τ', k, pl', rfl, rfl, hk, hk4, hSS, M, hC⟩ := hr0
    obtain ⟨c1, c2, c3⟩ := leg1 hT hc hr hLl hC (Fr.th Fr.rf rfl)
    have hM : LyM (th τ') (x + 1497) := by unfold LyM; rw [c3.1, c3.2.1]; exact LyH_m hL
    obtain ⟨⟨v, τ2⟩, e2, h1, h2, h3⟩ := hrf k 0 pl' _ hSS c2 hM
    obtain ⟨d1, d2, d3⟩ := leg2 hT c1 c2 h3
    exact ⟨_, v, _, τ2, ht _ k pl' hk hk4 hSS er, e2, h1, fun z => absurd z (hcd.2 k hk hk4), c3.1, c3.tr d3 h3.2.2.2.1.1, l, l', K, mk, pl', B, hT, hB, d1, d2⟩
  · obtain ⟨pl', hSS, M, hC⟩ := hr0
    obtain ⟨c1, c2, c3⟩ := leg1 hT hc hr hLl hC (Fr.rf.sL (Or.inr cp_o) (g v))
    have hM : LyM (mx_setL τ (x + 1575) 0 (g v)) (x + 1497) := by unfold LyM; rw [c3.1, c3.2.1]; exact LyH_m hL
    obtain ⟨⟨w, τ2⟩, e2, h1, h2, h3⟩ := hrf 0 (vi v) pl' _ hSS c2 hM
    obtain ⟨d1, d2, d3⟩ := leg2 hT c1 c2 h3
    refine ⟨_, w, _, τ2, h0 _ v er (by rw [hC.2.1.1]; exact LyH_u hL), e2, ?_, fun _ => ?_, c3.1, c3.tr d3 h3.2.2.2.1.1, l, l', K, mk, pl', B, hT, hB, d1, d2⟩
    · rw [h1, hcd.1]; rfl
    · rw [h3.2.2.2.2.2 _ _ (by omega) (by omega), q_LL, if_pos ⟨rfl, rfl⟩]
      exact hg _ _ (h2 rfl).symm
theorem asm64 {f : mx_S → Option (Int64 × mx_S)} {lo : Option (Int32 × mx_S)} {fX : Option ((String × mx_S) ⊕ (Int64 × mx_S))} {S : Nat → Int → (Nat → Nat) → Prop} {cd : Nat → Nat} (hS : St P σ x) (hT : kT K) (hB : LBok (kN K) B) (hc : RLc x l l' K mk pl B σ) (hr : RLr (x + 1497) K pl B σ)
    (h0 : ∀ τ v, fX = some (.inr (v, τ)) → mxA τ (x + 1575) = some (.inr (1, 1)) → lo = some (0, mx_setL τ (x + 1575) 0 v))
    (ht : ∀ τ k pl', 0 < k → k < 4 → S k 0 pl' → fX = some (.inl (exn k, τ)) → lo = some (q_n (cd k), τ))
    (hcl : Wp fX (CO Int64.toInt S (lP σ l K mk pl)))
    (hrf : ∀ k val pl' τ1, S k val pl' → RLr (x + 1497) K pl B τ1 → LyM τ1 (x + 1497) → Wp (f τ1) (RO Int64.toInt cd (x + 1497) K τ1 k val pl'))
    (hcd : cd 0 = 0 ∧ ∀ k, 0 < k → k < 4 → q_n (cd k) ≠ 0) : Q64 x σ lo f [7] (RL x) :=
  asm (g := id) hS hT hB hc hr (fun _ _ h => Int64.toInt.inj h) h0 ht hcl hrf hcd
theorem asm32 {f : mx_S → Option (Int32 × mx_S)} {lo : Option (Int32 × mx_S)} {fX : Option ((String × mx_S) ⊕ (Int32 × mx_S))} {S : Nat → Int → (Nat → Nat) → Prop} {cd : Nat → Nat} (hS : St P σ x) (hT : kT K) (hB : LBok (kN K) B) (hc : RLc x l l' K mk pl B σ) (hr : RLr (x + 1497) K pl B σ)
    (h0 : ∀ τ v, fX = some (.inr (v, τ)) → mxA τ (x + 1575) = some (.inr (1, 1)) → lo = some (0, mx_setL τ (x + 1575) 0 v.toInt64))
    (ht : ∀ τ k pl', 0 < k → k < 4 → S k 0 pl' → fX = some (.inl (exn k, τ)) → lo = some (q_n (cd k), τ))
    (hcl : Wp fX (CO Int32.toInt S (lP σ l K mk pl)))
    (hrf : ∀ k val pl' τ1, S k val pl' → RLr (x + 1497) K pl B τ1 → LyM τ1 (x + 1497) → Wp (f τ1) (RO Int32.toInt cd (x + 1497) K τ1 k val pl'))
    (hcd : cd 0 = 0 ∧ ∀ k, 0 < k → k < 4 → q_n (cd k) ≠ 0) : Q32 x σ lo f [7] (RL x) :=
  asm (g := Int32.toInt64) hS hT hB hc hr (fun _ _ h => by rw [Int32.toInt.inj h]) h0 ht hcl hrf hcd
end GVS
