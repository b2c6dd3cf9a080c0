/-! ===== ea: the reference's boxes as one picture; steps ===== -/
section EAA
variable {P : mx_P} {σ σ0 : mx_S} {m a b d : Nat} {r : rw3} {E : Nat → BV} {fn fd : Bool} {β : Type} {Q : β → Prop}
def bI (b : Bool) : Int32 := if b then 1 else 0
/-- all but boxes and the two marks is as in σ0 -/
def H (σ0 : mx_S) (m : Nat) (E : Nat → BV) (fn fd : Bool) (σ : mx_S) : Prop := mxA σ = mxA σ0 ∧ mxR σ = mxR σ0 ∧ (mxz σ = mxz σ0 ∧ mxu σ = mxu σ0) ∧ (∀ q j, q ≠ m + 4 → (q = m → j ≠ 54 ∧ j ≠ 55) → mxI σ q j = mxI σ0 q j) ∧ (∀ q j, q ≠ m + 2 → q ≠ m + 3 → mxL σ q j = mxL σ0 q j) ∧ (∀ d, d < 320 → RR (rr σ m d) (E d)) ∧ mxI σ m 54 = bI fn ∧ mxI σ m 55 = bI fd
theorem H_M (h : H σ0 m E fn fd σ) (hM : LyM σ0 m) : LyM σ m := by unfold LyM; rw [h.1, h.2.1]; exact hM
theorem H_B (h : H σ0 m E fn fd σ) (ha : a < 320) : RR (rr σ m a) (E a) := h.2.2.2.2.2.1 a ha
theorem H_rs {V : BV} (h : H σ0 m E fn fd σ) (hr : RR r V) : H σ0 m (up E d V) fn fd (rs σ m d r) := by
  obtain ⟨h1, h2, h3, h4, h5, h6, h7, h8⟩ := h
  refine ⟨h1, h2, h3, fun q j hq hm => ?_, fun q j h1 h2 => ?_, fun q hq => ?_, ?_, ?_⟩
  · rw [I_rs hq]; exact h4 q j hq hm
  · rw [L_rs h1 h2]; exact h5 q j h1 h2
  · by_cases hne : q = d
    · subst hne; rw [rr_e, up_e]; exact hr
    · rw [rr_n hne, up_n hne]; exact h6 q hq
  · rw [I_rs (by omega)]; exact h7
  · rw [I_rs (by omega)]; exact h8
theorem uu_b {o : Option mx_S} {V : BV} {k : mx_S → Option β} (h : H σ0 m E fn fd σ) (e : ∃ r, o = some (rs σ m d r) ∧ RR r V) (hk : ∀ σ' v, v = V → H σ0 m (up E d v) fn fd σ' → Wp (k σ') Q) : Wp (o.bind k) Q := by
  obtain ⟨r, rfl, hr⟩ := e
  exact hk _ _ rfl (H_rs h hr)
section ST
variable {k : mx_S → Option β}
theorem uu_add (h : H σ0 m E fn fd σ) (hM : LyM σ0 m) (hp : mpb P ≤ m) (hd : d < 320) (ha : a < 320) (hb : b < 320) (hk : ∀ σ' v, v = b_add (E a) (E b) → H σ0 m (up E d v) fn fd σ' → Wp (k σ') Q) : Wp ((f_X12_add P m (q_n d) (q_n a) (q_n b) σ).bind k) Q :=
  uu_b h (r_add (H_M h hM) hp hd ha hb (H_B h ha) (H_B h hb)) hk
theorem uu_less (h : H σ0 m E fn fd σ) (hM : LyM σ0 m) (hp : mpb P ≤ m) (hd : d < 320) (ha : a < 320) (hb : b < 320) (hk : ∀ σ' v, v = b_sub (E a) (E b) → H σ0 m (up E d v) fn fd σ' → Wp (k σ') Q) : Wp ((f_X12_less P m (q_n d) (q_n a) (q_n b) σ).bind k) Q :=
  uu_b h (r_less (H_M h hM) hp hd ha hb (H_B h ha) (H_B h hb)) hk
theorem uu_mul (h : H σ0 m E fn fd σ) (hM : LyM σ0 m) (hp : mpb P ≤ m) (hd : d < 320) (ha : a < 320) (hb : b < 320) (hk : ∀ σ' v, v = b_mul (E a) (E b) → H σ0 m (up E d v) fn fd σ' → Wp (k σ') Q) : Wp ((f_X12_multiply P m (q_n d) (q_n a) (q_n b) σ).bind k) Q :=
  uu_b h (r_mul (H_M h hM) hp hd ha hb (H_B h ha) (H_B h hb)) hk
theorem uu_div (h : H σ0 m E fn fd σ) (hM : LyM σ0 m) (hp : mpb P ≤ m) (hd : d < 320) (ha : a < 320) (hb : b < 320) (hk : ∀ σ' v, v = b_div (E a) (E b) → H σ0 m (up E d v) fn fd σ' → Wp (k σ') Q) : Wp ((f_X12_divide P m (q_n d) (q_n a) (q_n b) σ).bind k) Q :=
  uu_b h (r_div (H_M h hM) hp hd ha hb (H_B h ha) (H_B h hb)) hk
theorem uu_turned (h : H σ0 m E fn fd σ) (hM : LyM σ0 m) (hp : mpb P ≤ m) (hd : d < 320) (ha : a < 320) (hk : ∀ σ' v, v = b_neg (E a) → H σ0 m (up E d v) fn fd σ' → Wp (k σ') Q) : Wp ((f_X12_turned P m (q_n d) (q_n a) σ).bind k) Q :=
  uu_b h (r_turned (H_M h hM) hp hd ha (H_B h ha)) hk
theorem uu_copy (h : H σ0 m E fn fd σ) (hM : LyM σ0 m) (hp : mpb P ≤ m) (hd : d < 320) (ha : a < 320) (hk : ∀ σ' v, v = E a → H σ0 m (up E d v) fn fd σ' → Wp (k σ') Q) : Wp ((f_X12_copy P m (q_n d) (q_n a) σ).bind k) Q :=
  uu_b h (r_copy (H_M h hM) hp hd ha (H_B h ha)) hk
theorem uu_sq (h : H σ0 m E fn fd σ) (hM : LyM σ0 m) (hp : mpb P ≤ m) (hd : d < 320) (ha : a < 320) (hk : ∀ σ' v, v = b_sq (E a) → H σ0 m (up E d v) fn fd σ' → Wp (k σ') Q) : Wp ((f_X12_square P m (q_n d) (q_n a) σ).bind k) Q :=
  uu_b h (r_sq (H_M h hM) hp hd ha (H_B h ha)) hk
theorem uu_half (h : H σ0 m E fn fd σ) (hM : LyM σ0 m) (hp : mpb P ≤ m) (hd : d < 320) (ha : a < 320) (hk : ∀ σ' v, v = b_share 2 (E a) → H σ0 m (up E d v) fn fd σ' → Wp (k σ') Q) : Wp ((f_X12_half P m (q_n d) (q_n a) σ).bind k) Q :=
  uu_b h (r_half (H_M h hM) hp hd ha (H_B h ha)) hk
theorem uu_whole {n : Int64} (h : H σ0 m E fn fd σ) (hM : LyM σ0 m) (hp : mpb P ≤ m) (hn1 : -1000 ≤ n.toInt) (hn2 : n.toInt ≤ 1000) (hd : d < 320) (ha : a < 320) (hk : ∀ σ' v, v = b_whole n.toInt (E a) → H σ0 m (up E d v) fn fd σ' → Wp (k σ') Q) : Wp ((f_X12_whole P m (q_n d) n (q_n a) σ).bind k) Q :=
  uu_b h (r_whole hn1 hn2 (H_M h hM) hp hd ha (H_B h ha)) hk
theorem uu_frac {p q : Int64} (h : H σ0 m E fn fd σ) (hM : LyM σ0 m) (hp : mpb P ≤ m) (hp1 : -1000000000000 ≤ p.toInt) (hp2 : p.toInt ≤ 1000000000000) (hq : 0 < q.toInt) (hd : d < 320) (hk : ∀ σ' v, v = b_frac p.toInt q.toInt → H σ0 m (up E d v) fn fd σ' → Wp (k σ') Q) : Wp ((f_X12_fraction P m (q_n d) p q σ).bind k) Q :=
  uu_b h (r_frac hp1 hp2 hq (H_M h hM) hp hd) hk
theorem uu_root (hf : 100 ≤ mpN P) (h : H σ0 m E fn fd σ) (hM : LyM σ0 m) (hp : mpb P ≤ m) (hd : d < 320) (ha : a < 320) (h0 : ∀ p, E a = some p → 0 ≤ p.1) (hk : ∀ σ' v, v = b_root (E a) → H σ0 m (up E d v) fn fd σ' → Wp (k σ') Q) : Wp ((f_X12_rootOf P m (q_n d) (q_n a) σ).bind k) Q :=
  uu_b h (r_root hf (H_M h hM) hp hd ha (H_B h ha) h0) hk
theorem uu_box0 (h : H σ0 m E fn fd σ) (hM : LyM σ0 m) (hp : mpb P ≤ m) (hd : d < 320) (hk : ∀ σ' v, v = b_0 → H σ0 m (up E d v) fn fd σ' → Wp (k σ') Q) : Wp ((f_X12_box P m (q_n d) 0 0 0 σ).bind k) Q := by
  have e := r_box (P := P) (x := 0) (y := 0) (H_M h hM) hp hd q_l0 q_l0 (by omega) (by omega)
  rw [b_mk_in (by omega) (by omega)] at e
  exact uu_b h e hk
theorem uu_box1 (h : H σ0 m E fn fd σ) (hM : LyM σ0 m) (hp : mpb P ≤ m) (hd : d < 320) (hk : ∀ σ' v, v = b_1 → H σ0 m (up E d v) fn fd σ' → Wp (k σ') Q) : Wp ((f_X12_box P m (q_n d) 65536 65536 0 σ).bind k) Q := by
  have e := r_box (P := P) (x := 65536) (y := 65536) (u := 65536) (v := 65536) (H_M h hM) hp hd rfl rfl (by omega) (by omega)
  rw [b_mk_in (by omega) (by omega)] at e
  exact uu_b h e hk
end ST
/-! reads -/
theorem uu_is {f : Unit → Option β} (h : H σ0 m E fn fd σ) (hM : LyM σ0 m) (hq : Wp (f ()) Q) : Wp ((mx_is σ m 12).bind f) Q := by
  rw [am_is (H_M h hM)]; exact hq
theorem uu_R {n v : Nat} {f : Nat → Option β} (h : H σ0 m E fn fd σ) (e : mg_R σ0 m 12 n = some v) (hq : Wp (f v) Q) : Wp ((mg_R σ m 12 n).bind f) Q := by
  have : mg_R σ m 12 n = mg_R σ0 m 12 n := by unfold mg_R; rw [h.1, h.2.1]
  rw [this, e]; exact hq
theorem uu_aI {q t : Nat} {i v : Int32} {f : Int32 → Option β} (h : H σ0 m E fn fd σ) (e : ma_I σ0 q t i = some v) (h4 : q ≠ m + 4) (hm : q ≠ m) (hq : Wp (f v) Q) : Wp ((ma_I σ q t i).bind f) Q := by
  have : ma_I σ q t i = ma_I σ0 q t i := by
    have e2 : (fun j => some (mxI σ q j)) = fun j => some (mxI σ0 q j) := by funext j; rw [h.2.2.2.1 q j h4 (fun z => absurd z hm)]
    unfold ma_I mx_ix; rw [h.1, e2]
  rw [this, e]; exact hq
theorem uu_aL {q t : Nat} {i : Int32} {v : Int64} {f : Int64 → Option β} (h : H σ0 m E fn fd σ) (e : ma_L σ0 q t i = some v) (h4 : q ≠ m + 2) (hm : q ≠ m + 3) (hq : Wp (f v) Q) : Wp ((ma_L σ q t i).bind f) Q := by
  have : ma_L σ q t i = ma_L σ0 q t i := by
    have e2 : (fun j => some (mxL σ q j)) = fun j => some (mxL σ0 q j) := by funext j; rw [h.2.2.2.2.1 q j h4 hm]
    unfold ma_L mx_ix; rw [h.1, e2]
  rw [this, e]; exact hq
theorem uu_gI {n : Nat} {f : Int32 → Option β} (h : H σ0 m E fn fd σ) (hM : LyM σ0 m) (hn : n ≠ 54 ∧ n ≠ 55) (hq : Wp (f (mxI σ0 m n)) Q) : Wp ((mg_I σ m 12 n).bind f) Q := by
  rw [am_gI (H_M h hM), h.2.2.2.1 m n (by omega) (fun _ => hn)]; exact hq
theorem uu_g54 {f : Int32 → Option β} (h : H σ0 m E fn fd σ) (hM : LyM σ0 m) (hq : Wp (f (bI fn)) Q) : Wp ((mg_I σ m 12 54).bind f) Q := by
  rw [am_gI (H_M h hM), h.2.2.2.2.2.2.1]; exact hq
theorem uu_g55 {f : Int32 → Option β} (h : H σ0 m E fn fd σ) (hM : LyM σ0 m) (hq : Wp (f (bI fd)) Q) : Wp ((mg_I σ m 12 55).bind f) Q := by
  rw [am_gI (H_M h hM), h.2.2.2.2.2.2.2]; exact hq
theorem uu_s54 {b : Bool} {x : Int32} {k : mx_S → Option β} (h : H σ0 m E fn fd σ) (hM : LyM σ0 m) (hp : mpb P ≤ m) (hx : x = bI b) (hk : ∀ σ', H σ0 m E b fd σ' → Wp (k σ') Q) : Wp ((mp_Z P σ m 12 54 x).bind k) Q := by
  rw [am_pZ (H_M h hM) hp (by rw [hx]; cases b; exact Or.inl rfl; exact Or.inr rfl)]
  refine hk _ ?_
  obtain ⟨h1, h2, h3, h4, h5, h6, h7, h8⟩ := h
  refine ⟨h1, h2, h3, fun q j hq hm => ?_, h5, fun q hq => ?_, ?_, ?_⟩
  · rw [q_II, if_neg (fun z => (hm z.1).1 z.2)]; exact h4 q j hq hm
  · have : rr (mx_setI σ m 54 x) m q = rr σ m q := by unfold rr; rw [q_II, if_neg (by omega)]; rfl
    rw [this]; exact h6 q hq
  · rw [q_II, if_pos ⟨rfl, rfl⟩]; exact hx
  · rw [q_II, if_neg (by omega)]; exact h8
theorem uu_s55 {b : Bool} {x : Int32} {k : mx_S → Option β} (h : H σ0 m E fn fd σ) (hM : LyM σ0 m) (hp : mpb P ≤ m) (hx : x = bI b) (hk : ∀ σ', H σ0 m E fn b σ' → Wp (k σ') Q) : Wp ((mp_Z P σ m 12 55 x).bind k) Q := by
  rw [am_pZ (H_M h hM) hp (by rw [hx]; cases b; exact Or.inl rfl; exact Or.inr rfl)]
  refine hk _ ?_
  obtain ⟨h1, h2, h3, h4, h5, h6, h7, h8⟩ := h
  refine ⟨h1, h2, h3, fun q j hq hm => ?_, h5, fun q hq => ?_, ?_, ?_⟩
  · rw [q_II, if_neg (fun z => (hm z.1).2 z.2)]; exact h4 q j hq hm
  · have : rr (mx_setI σ m 55 x) m q = rr σ m q := by unfold rr; rw [q_II, if_neg (by omega)]; rfl
    rw [this]; exact h6 q hq
  · rw [q_II, if_neg (by omega)]; exact h7
  · rw [q_II, if_pos ⟨rfl, rfl⟩]; exact hx
theorem H_le (h : H σ0 m E fn fd σ) (ha : a < 320) {p : Int × Int} (e : E a = some p) : -2147483648 ≤ p.1 ∧ p.1 ≤ p.2 ∧ p.2 ≤ 2147483648 := by
  rcases RR_o (H_B h ha).1 with ⟨-, e2, h1, h2, h3⟩ | ⟨-, e2⟩
  · rw [e] at e2; cases e2; exact ⟨h1, h2, h3⟩
  · rw [e] at e2; cases e2
end EAA
