/-! ===== ig: the class's arrange ===== -/
section IGS
variable {P : mx_P} {σ σ0 σ1 σ2 τ : mx_S} {x m n t l p a N i k j u K c r : Nat} {A : Nat → Nat → Nat} {np own mk : Nat → Nat} {o : List Nat} {v : Int64}
theorem q_or (a b : Nat) : q_n a ||| q_n b = q_n (a ||| b) := by
  rw [← Int32.toBitVec_inj]
  show BitVec.ofNat 32 a ||| BitVec.ofNat 32 b = BitVec.ofNat 32 (a ||| b)
  rw [BitVec.ofNat_or]
theorem nd_len : ∀ (K : Nat) (o : List Nat), o.Nodup → (∀ q, q ∈ o → q < K) → o.length ≤ K
  | 0, o, _, h => by
    cases o with
    | nil => exact Nat.le_refl _
    | cons a o => exact absurd (h a (List.mem_cons_self ..)) (Nat.not_lt_zero a)
  | K + 1, o, hd, h => by
    have h1 := nd_len K (o.erase K) (hd.erase K) (fun q hq => by
      have := (hd.mem_erase_iff).mp hq
      have := h q this.2
      omega)
    by_cases c : K ∈ o
    · rw [List.length_erase_of_mem c] at h1; omega
    · rw [List.erase_of_not_mem c] at h1; omega
theorem nd_full (hd : o.Nodup) (h : ∀ q, q ∈ o → q < K) (hl : K ≤ o.length) (hp : p < K) : p ∈ o := by
  by_cases c : p ∈ o
  · exact c
  · have h1 := nd_len K (p :: o) (List.nodup_cons.mpr ⟨c, hd⟩) (fun q hq => by
      rcases List.mem_cons.mp hq with z | z
      · omega
      · exact h q z)
    rw [List.length_cons] at h1; omega
/-- what arrange reads -/
def arJ (σ : mx_S) (l K : Nat) (A : Nat → Nat → Nat) (np : Nat → Nat) : Prop := ∀ p, p < K → mxI σ (l + 2 + 16 * p) 3 = q_n (np p) ∧ np p ≤ 4 ∧ ∀ j, j < np p → A p j < K ∧ mxI σ (l + 2 + 16 * p + 1) j = q_n (A p j)
def rdY (A : Nat → Nat → Nat) (np : Nat → Nat) (o : List Nat) (p : Nat) : Bool := decide (∀ j, j < np p → A p j ∈ o)
theorem c_ready (hf : 100 ≤ mpN P) (hL : LyL (mxA σ) (mxR σ) l) (hK : K ≤ 40) (hJ : arJ σ l K A np) (hp : p < K) (hb : btO v o) : f_X7_isReady P (l + 2 + 16 * p) v σ = some (if rdY A np o p then 1 else 0, σ) := by
  obtain ⟨j1, j2, j3⟩ := hJ p hp
  have hJo := (LyL_j hL p (by omega)).2
  obtain ⟨r, e, h⟩ := q_for (f_X7_isReady_L2 P (l + 2 + 16 * p) v) (fun k s => s = (q_n k, σ) ∧ ∀ j, j < k → A p j ∈ o)
    (fun r => (r = .inr σ ∧ rdY A np o p = true) ∨ (r = .inl σ ∧ rdY A np o p = false)) (np p)
    (by
      rintro k s hk ⟨rfl, hi⟩
      obtain ⟨a1, a2⟩ := j3 k hk
      have hB : f_X7_isReady_L2 P (l + 2 + 16 * p) v (q_n k, σ) = (if (lg_cmp ((v >>> ((q_n (A p k)).toInt64 &&& 63)) &&& (1 : Int64)) (0 : Int64)) = 0 then some (.inr (.inl σ)) else some (.inl (q_n (k + 1), σ))) := by
        show f_X7_isReady_B2 P (l + 2 + 16 * p) v (q_n k) σ = _
        unfold f_X7_isReady_B2
        rw [bd (q_gI (LyJ_o hJo)), j1, if_neg (by rw [q_nLe (by omega) (by omega)]; omega), bd ((q_gR (LyJ_o hJo)).trans (LyJ_r2 hJo)), bd (q_aIn (LyJ_a2 hJo) (by omega) (by omega)), a2, bds, q_nS]
      rw [hB]
      by_cases c : A p k ∈ o
      · left
        rw [if_neg (by rw [bt_t (by omega)]; intro z; have := (hb (A p k) (by omega)).mpr c; rw [z] at this; cases this)]
        refine ⟨_, rfl, rfl, fun j hj => ?_⟩
        by_cases e : j = k
        · rw [e]; exact c
        · exact hi j (by omega)
      · right
        rw [if_pos (by
          rw [bt_t (by omega)]
          cases hc : v.toBitVec.getLsbD (A p k)
          · rfl
          · exact absurd ((hb (A p k) (by omega)).mp hc) c)]
        exact ⟨_, rfl, Or.inr ⟨rfl, decide_eq_false fun z => c (z k hk)⟩⟩)
    (by
      rintro s ⟨rfl, hi⟩
      refine ⟨.inr σ, ?_, Or.inl ⟨rfl, decide_eq_true hi⟩⟩
      show f_X7_isReady_B2 P (l + 2 + 16 * p) v (q_n (np p)) σ = _
      unfold f_X7_isReady_B2
      rw [bd (q_gI (LyJ_o hJo)), j1, if_pos (by rw [q_nLe (by omega) (by omega)]; omega)])
    (np p) 0 ((0 : Int32), σ) (mpN P) (by omega) ⟨rfl, fun j hj => absurd hj (Nat.not_lt_zero j)⟩ (by omega)
  unfold f_X7_isReady
  rw [bd e]
  rcases h with ⟨rfl, h⟩ | ⟨rfl, h⟩
  · rw [h, if_pos rfl]; show mr_Z 1 σ = _; exact if_pos (Or.inr rfl)
  · rw [h, if_neg (by decide)]; show mr_Z 0 σ = _; exact if_pos (Or.inl rfl)
theorem c_inh (hf : 100 ≤ mpN P) (hL : LyL (mxA σ) (mxR σ) l) (hb : mpb P ≤ l) (hK : K ≤ 40) (hJ : arJ σ l K A np) (hp : p < K) (hm : ∀ q, q < K → mxI σ (l + 2 + 16 * q) 8 = q_n (mk q) ∧ mk q < 4096) (hne : ∀ j, j < np p → A p j ≠ p) :
    ∃ τ v, f_X7_inheritMask P l (l + 2 + 16 * p) σ = some τ ∧ Fz (fun q j => q = l + 2 + 16 * p ∧ j = 8) σ τ ∧ mxI τ (l + 2 + 16 * p) 8 = q_n v ∧ v < 4096 ∧ (∀ b, (mk p).testBit b = true → v.testBit b = true) ∧ ∀ j, j < np p → ∀ b, (mk (A p j)).testBit b = true → v.testBit b = true := by
  obtain ⟨j1, j2, j3⟩ := hJ p hp
  obtain ⟨τ, e, v, h⟩ := q_for (f_X7_inheritMask_L2 P l (l + 2 + 16 * p)) (fun k s => s.1 = q_n k ∧ Fz (fun q j => q = l + 2 + 16 * p ∧ j = 8) σ s.2 ∧ ∃ v, mxI s.2 (l + 2 + 16 * p) 8 = q_n v ∧ v < 4096 ∧ (∀ b, (mk p).testBit b = true → v.testBit b = true) ∧ ∀ j, j < k → ∀ b, (mk (A p j)).testBit b = true → v.testBit b = true)
    (fun τ => ∃ v, Fz (fun q j => q = l + 2 + 16 * p ∧ j = 8) σ τ ∧ mxI τ (l + 2 + 16 * p) 8 = q_n v ∧ v < 4096 ∧ (∀ b, (mk p).testBit b = true → v.testBit b = true) ∧ ∀ j, j < np p → ∀ b, (mk (A p j)).testBit b = true → v.testBit b = true) (np p)
    (by
      rintro k ⟨w, τ⟩ hk ⟨i1, f, v, i2, i3, i4, i5⟩
      dsimp only at i1 f i2
      subst i1
      left
      have hL' : LyL (mxA τ) (mxR τ) l := by rw [f.1, f.2.1]; exact hL
      have hJo := (LyL_j hL' p (by omega)).2
      obtain ⟨a1, a2⟩ := j3 k hk
      have ne := hne k hk
      have e3 : mxI τ (l + 2 + 16 * p) 3 = q_n (np p) := (f.2.2.2 _ _ (by omega)).1.trans j1
      have e8 : mxI τ (l + 2 + 16 * A p k) 8 = q_n (mk (A p k)) := (f.2.2.2 _ _ (by omega)).1.trans (hm _ a1).1
      have eo : mxI τ (l + 2 + 16 * p + 1) k = q_n (A p k) := (f.2.2.2 _ _ (by omega)).1.trans a2
      show ∃ t', f_X7_inheritMask_B2 P l (l + 2 + 16 * p) (q_n k) τ = some (.inl t') ∧ _
      unfold f_X7_inheritMask_B2
      rw [bd (q_gI (LyJ_o hJo)), e3, if_neg (by rw [q_nLe (by omega) (by omega)]; omega), bd (q_gI (LyJ_o hJo)), bd (al_r0 hL'), bd ((q_gR (LyJ_o hJo)).trans (LyJ_r2 hJo)), bd (q_aIn (LyJ_a2 hJo) (by omega) (by omega)), eo, bd (al_j hL' (by omega)), bd (aj_gI hL' (by omega)), e8, i2, q_or, bd (aj_pI hL' (by omega) hb _), bds, q_nS]
      refine ⟨_, rfl, rfl, f.sI ⟨rfl, rfl⟩ _, v ||| mk (A p k), sI_e, Nat.or_lt_two_pow (n := 12) i3 (hm _ a1).2, fun b hb => ?_, fun j hj b hb => ?_⟩
      · rw [Nat.testBit_or, i4 b hb]; rfl
      · rw [Nat.testBit_or]
        by_cases e : j = k
        · rw [← e, hb, Bool.or_true]
        · rw [i5 j (by omega) b hb]; rfl)
    (by
      rintro ⟨w, τ⟩ ⟨i1, f, v, i2⟩
      dsimp only at i1 f i2
      subst i1
      have hL' : LyL (mxA τ) (mxR τ) l := by rw [f.1, f.2.1]; exact hL
      have hJo := (LyL_j hL' p (by omega)).2
      have e3 : mxI τ (l + 2 + 16 * p) 3 = q_n (np p) := (f.2.2.2 _ _ (by omega)).1.trans j1
      refine ⟨τ, ?_, v, f, i2⟩
      show f_X7_inheritMask_B2 P l (l + 2 + 16 * p) (q_n (np p)) τ = _
      unfold f_X7_inheritMask_B2
      rw [bd (q_gI (LyJ_o hJo)), e3, if_pos (by rw [q_nLe (by omega) (by omega)]; omega)])
    (np p) 0 ((0 : Int32), σ) (mpN P) (by omega) ⟨rfl, Fz.rf, mk p, (hm p hp).1, (hm p hp).2, fun _ h => h, fun j hj => absurd hj (Nat.not_lt_zero j)⟩ (by omega)
  refine ⟨τ, v, ?_, h⟩
  unfold f_X7_inheritMask
  rw [bd e]
/-- arrange's own cells -/
def arF (l : Nat) : Nat → Nat → Prop := fun q j => q = l + 642 ∨ (∃ p, p < 40 ∧ q = l + 2 + 16 * p ∧ j = 8)
theorem arJ_of (hK : K ≤ 40) (h : arJ σ l K A np) (f : Fz (arF l) σ τ) : arJ τ l K A np := fun p hp => by
  obtain ⟨j1, j2, j3⟩ := h p hp
  refine ⟨(f.2.2.2 _ _ (fun z => by rcases z with z | ⟨q, z1, z2, z3⟩ <;> omega)).1.trans j1, j2, fun j hj => ⟨(j3 j hj).1, (f.2.2.2 _ _ (fun z => by rcases z with z | ⟨q, z1, z2, z3⟩ <;> omega)).1.trans (j3 j hj).2⟩⟩
/-- how far arrange has come -/
def arI (σ : mx_S) (l K : Nat) (A : Nat → Nat → Nat) (np own : Nat → Nat) (o : List Nat) (v : Int64) (τ : mx_S) : Prop :=
  Fz (arF l) σ τ ∧ btO v o ∧ (o.Nodup ∧ ∀ q, q ∈ o → q < K) ∧ (∀ i q, o[i]? = some q → mxI τ (l + 642) i = q_n q ∧ ∀ j, j < np q → ∃ i', i' < i ∧ o[i']? = some (A q j)) ∧
  ∃ mk : Nat → Nat, (∀ q, q < K → (mxI τ (l + 2 + 16 * q) 8 = q_n (mk q) ∧ mk q < 4096) ∧ ∀ b, (own q).testBit b = true → (mk q).testBit b = true) ∧ ∀ q, q ∈ o → ∀ j, j < np q → A q j ∈ o ∧ ∀ b, (mk (A q j)).testBit b = true → (mk q).testBit b = true
/-- one point -/
theorem c_ar1 {v4 : Int32} (hf : 100 ≤ mpN P) (hL : LyL (mxA σ) (mxR σ) l) (hb : mpb P ≤ l) (hK : K ≤ 40) (hJ : arJ σ l K A np) (h2 : mxI σ l 2 = q_n K) (hp : p < K) (h : arI σ l K A np own o v τ) :
    ∃ v' τ', f_X7_arrange_B27 P l v4 v (q_n o.length) (q_n p) τ = some (.inl (v', q_n (adA A np o p).length, q_n (p + 1), τ')) ∧ arI σ l K A np own (adA A np o p) v' τ' := by
  obtain ⟨f, hbt, ⟨hnd, hlt⟩, hor, mk, hm1, hm2⟩ := h
  have hL' : LyL (mxA τ) (mxR τ) l := by rw [f.1, f.2.1]; exact hL
  have hJ' := arJ_of hK hJ f
  have e2 : mxI τ l 2 = q_n K := (f.2.2.2 _ _ (fun z => by rcases z with z | ⟨q, z1, z2, z3⟩ <;> omega)).1.trans h2
  have hp40 : p < 40 := by omega
  unfold f_X7_arrange_B27
  rw [bd (al_gI hL'), e2, if_neg (by rw [q_nLe (by omega) (by omega)]; omega)]
  by_cases c : p ∈ o
  · rw [if_neg (by rw [bt_t hp40]; intro z; have := (hbt p hp40).mpr c; rw [z] at this; cases this)]
    unfold f_X7_arrange_D90_27
    rw [bds, q_nS]
    have e : adA A np o p = o := if_pos c
    rw [e]
    exact ⟨v, τ, rfl, f, hbt, ⟨hnd, hlt⟩, hor, mk, hm1, hm2⟩
  · rw [if_pos (by
      rw [bt_t hp40]
      cases hc : v.toBitVec.getLsbD p
      · rfl
      · exact absurd ((hbt p hp40).mp hc) c), bd (al_r0 hL'), bd (al_j hL' hp40), bd2 (c_ready hf hL' hK hJ' hp hbt)]
    by_cases cr : ∀ j, j < np p → A p j ∈ o
    · have e : adA A np o p = o ++ [p] := by unfold adA; rw [if_neg c, if_pos cr]
      have er : rdY A np o p = true := decide_eq_true cr
      have hlen : o.length < 40 := by
        have := nd_len K (p :: o) (List.nodup_cons.mpr ⟨c, hnd⟩) (fun q hq => by
          rcases List.mem_cons.mp hq with z | z
          · omega
          · exact hlt q z)
        rw [List.length_cons] at this; omega
      obtain ⟨τ1, h1⟩ : ∃ τ1, τ1 = mx_setI τ (l + 642) o.length (q_n p) := ⟨_, rfl⟩
      have f1 : Fz (arF l) σ τ1 := by rw [h1]; exact f.sI (Or.inl rfl) _
      have hL1 : LyL (mxA τ1) (mxR τ1) l := by rw [f1.1, f1.2.1]; exact hL
      have hm1' : ∀ q, q < K → mxI τ1 (l + 2 + 16 * q) 8 = q_n (mk q) ∧ mk q < 4096 := fun q hq => ⟨by rw [h1, sI_n (by omega)]; exact (hm1 q hq).1.1, (hm1 q hq).1.2⟩
      obtain ⟨τ2, w, e1, f2, w1, w2, w3, w4⟩ := c_inh (P := P) hf hL1 hb hK (arJ_of hK hJ f1) hp hm1' (fun j hj z => c (z ▸ cr j hj))
      rw [er, if_pos rfl, if_neg zi10, bds, bd (al_r1 hL'), bd (al_s1 hL' hb hlen _), ← h1, bds, bd (al_r0 hL1), bd (al_j hL1 hp40), bd (al_is hL1), bd e1]
      unfold f_X7_arrange_D90_27
      rw [bds, q_nS, q_nS, e, List.length_append]
      refine ⟨_, τ2, rfl, f1.tr (f2.mo fun q j z => Or.inr ⟨p, hp40, z⟩), bt_o hp40 hbt, ⟨List.nodup_append.mpr ⟨hnd, by simp, fun a ha b hb' => by rw [List.mem_singleton] at hb'; rintro rfl; exact c (hb' ▸ ha)⟩, fun q hq => ?_⟩, fun i q hiq => ?_, fun q => if q = p then w else mk q, fun q hq => ?_, fun q hq j hj => ?_⟩
      · rcases List.mem_append.mp hq with z | z
        · exact hlt q z
        · rw [List.mem_singleton] at z; omega
      · rcases ls_app hiq with z | ⟨z1, z2⟩
        · have hil : i < o.length := by
            rcases Nat.lt_or_ge i o.length with y | y
            · exact y
            · rw [List.getElem?_eq_none y] at z; cases z
          obtain ⟨y1, y2⟩ := hor i q z
          refine ⟨?_, fun j hj => ?_⟩
          · rw [(f2.2.2.2 _ _ (by omega)).1, h1, sI_n (by omega)]; exact y1
          · obtain ⟨i', y3, y4⟩ := y2 j hj
            exact ⟨i', y3, by rw [List.getElem?_append_left (by omega)]; exact y4⟩
        · have hi0 : i = o.length ∧ q = p := by
            rcases hd : i - o.length with _ | d
            · rw [hd] at z2
              have : p = q := Option.some.inj z2
              exact ⟨by omega, this.symm⟩
            · rw [hd] at z2; cases z2
          obtain ⟨rfl, rfl⟩ := hi0
          refine ⟨?_, fun j hj => ?_⟩
          · rw [(f2.2.2.2 _ _ (by omega)).1, h1, sI_e]
          · obtain ⟨i', y4⟩ := List.getElem?_of_mem (cr j hj)
            have hil : i' < o.length := by
              rcases Nat.lt_or_ge i' o.length with y | y
              · exact y
              · rw [List.getElem?_eq_none y] at y4; cases y4
            exact ⟨i', hil, by rw [List.getElem?_append_left hil]; exact y4⟩
      · dsimp only
        by_cases eq : q = p
        · subst eq
          rw [if_pos rfl]
          exact ⟨⟨w1, w2⟩, fun b hb' => w3 b ((hm1 q hq).2 b hb')⟩
        · rw [if_neg eq, (f2.2.2.2 _ _ (by omega)).1]
          exact ⟨hm1' q hq, (hm1 q hq).2⟩
      · dsimp only
        rcases List.mem_append.mp hq with z | z
        · obtain ⟨y1, y2⟩ := hm2 q z j hj
          rw [if_neg (fun z1 : q = p => c (z1 ▸ z)), if_neg (fun z1 : A q j = p => c (z1 ▸ y1))]
          exact ⟨List.mem_append.mpr (Or.inl y1), y2⟩
        · rw [List.mem_singleton] at z
          subst z
          rw [if_pos rfl, if_neg (fun z1 : A q j = q => c (z1 ▸ cr j hj))]
          exact ⟨List.mem_append.mpr (Or.inl (cr j hj)), w4 j hj⟩
    · have e : adA A np o p = o := by unfold adA; rw [if_neg c, if_neg cr]
      have er : rdY A np o p = false := decide_eq_false cr
      rw [er, if_neg (show ¬ (false = true) by decide), if_pos rfl]
      unfold f_X7_arrange_D90_27
      rw [bds, q_nS, e]
      exact ⟨v, τ, rfl, f, hbt, ⟨hnd, hlt⟩, hor, mk, hm1, hm2⟩
theorem paA_full (h : ∀ q, q < K → q ∈ o) : ∀ k, k ≤ K → paA A np o k = o
  | 0, _ => rfl
  | k + 1, hk => by rw [paA, paA_full h k (by omega)]; exact if_pos (h k (by omega))
theorem rnA_full (h : ∀ q, q < K → q ∈ rnA A np K r) : ∀ d, rnA A np K (r + d) = rnA A np K r
  | 0 => rfl
  | d + 1 => by rw [← Nat.add_assoc, rnA, rnA_full h d]; exact paA_full h K (Nat.le_refl _)
theorem c_arr (hf : 100 ≤ mpN P) (hL : LyL (mxA σ) (mxR σ) l) (hb : mpb P ≤ l) (hK : K ≤ 40) (hJ : arJ σ l K A np) (h2 : mxI σ l 2 = q_n K) (hm : ∀ q, q < K → mxI σ (l + 2 + 16 * q) 8 = q_n (own q) ∧ own q < 4096) :
    ∃ r τ v, f_X7_arrange P l σ = some (r, τ) ∧ arI σ l K A np own (rnA A np K K) v τ ∧ ((∃ p, p < K ∧ r = q_n p ∧ p ∉ rnA A np K K ∧ ∀ q, q < p → q ∈ rnA A np K K) ∨ (r = -1 ∧ ∀ q, q < K → q ∈ rnA A np K K)) := by
  have sz : ∀ {o v τ}, arI σ l K A np own o v τ → LyL (mxA τ) (mxR τ) l ∧ mxI τ l 2 = q_n K := fun h => ⟨by rw [h.1.1, h.1.2.1]; exact hL, (h.1.2.2.2 _ _ (fun z => by rcases z with z | ⟨q, z1, z2, z3⟩ <;> omega)).1.trans h2⟩
  have hlen : ∀ {o v τ}, arI σ l K A np own o v τ → o.length ≤ K := fun h => nd_len K _ h.2.2.1.1 h.2.2.1.2
  obtain ⟨⟨v, τ⟩, e, hI⟩ := q_for (f_X7_arrange_L7 P l)
    (fun r s => s.2.1 = q_n (rnA A np K r).length ∧ s.2.2.1 = q_n r ∧ arI σ l K A np own (rnA A np K r) s.1 s.2.2.2)
    (fun t => arI σ l K A np own (rnA A np K K) t.1 t.2) K
    (by
      rintro r ⟨v, v3, v4, τ⟩ hr ⟨i1, i2, hI⟩
      dsimp only at i1 i2 hI
      subst i1 i2
      obtain ⟨hL', e2⟩ := sz hI
      have hB : f_X7_arrange_L7 P l (v, q_n (rnA A np K r).length, q_n r, τ) = (if q_n K ≤ q_n (rnA A np K r).length then some (.inr (v, τ)) else (mx_lp (f_X7_arrange_L27 P l (q_n r)) (mpN P) (v, q_n (rnA A np K r).length, (0 : Int32), τ)).bind (fun t => (fun y39 y40 σ41 => (some (q_n r + (1 : Int32))).bind fun x42 => some (.inl (y39, y40, x42, σ41))) t.1 t.2.1 t.2.2)) := by
        show f_X7_arrange_B7 P l v (q_n (rnA A np K r).length) (q_n r) τ = _
        unfold f_X7_arrange_B7
        rw [bd (al_gI hL'), e2, if_neg (by rw [q_nLe (by omega) (by omega)]; omega), bd (al_gI hL'), e2]
      rw [hB]
      have hln := hlen hI
      by_cases c : K ≤ (rnA A np K r).length
      · right
        rw [if_pos (by rw [q_nLe (by omega) (by omega)]; exact c)]
        refine ⟨_, rfl, ?_⟩
        have hfull := rnA_full (r := r) (fun q hq => nd_full hI.2.2.1.1 hI.2.2.1.2 c hq) (K - r)
        rw [show r + (K - r) = K by omega] at hfull
        dsimp only
        rw [hfull]; exact hI
      · left
        rw [if_neg (by rw [q_nLe (by omega) (by omega)]; exact c)]
        obtain ⟨⟨v', v3', τ'⟩, e', h1, h2'⟩ := q_for (f_X7_arrange_L27 P l (q_n r))
          (fun p s => s.2.1 = q_n (paA A np (rnA A np K r) p).length ∧ s.2.2.1 = q_n p ∧ arI σ l K A np own (paA A np (rnA A np K r) p) s.1 s.2.2.2)
          (fun t => t.2.1 = q_n (rnA A np K (r + 1)).length ∧ arI σ l K A np own (rnA A np K (r + 1)) t.1 t.2.2) K
          (by
            rintro p ⟨v, v3, v5, τ⟩ hp ⟨i1, i2, hI⟩
            dsimp only at i1 i2 hI
            subst i1 i2
            left
            obtain ⟨v', τ', e1, e2⟩ := c_ar1 (P := P) (v4 := q_n r) hf hL hb hK hJ h2 hp hI
            exact ⟨_, e1, rfl, rfl, e2⟩)
          (by
            rintro ⟨v, v3, v5, τ⟩ ⟨i1, i2, hI⟩
            dsimp only at i1 i2 hI
            subst i1 i2
            obtain ⟨hL', e2⟩ := sz hI
            refine ⟨(v, q_n (paA A np (rnA A np K r) K).length, τ), ?_, rfl, hI⟩
            show f_X7_arrange_B27 P l (q_n r) v _ (q_n K) τ = _
            unfold f_X7_arrange_B27
            rw [bd (al_gI hL'), e2, if_pos (by rw [q_nLe (by omega) (by omega)]; omega)])
          K 0 (v, q_n (rnA A np K r).length, (0 : Int32), τ) (mpN P) (by omega) ⟨rfl, rfl, hI⟩ (by omega)
        rw [bd e']
        dsimp only at h1 h2' ⊢
        rw [bds, q_nS, h1]
        exact ⟨_, rfl, rfl, rfl, h2'⟩)
    (by
      rintro ⟨v, v3, v4, τ⟩ ⟨i1, i2, hI⟩
      dsimp only at i1 i2 hI
      subst i1 i2
      obtain ⟨hL', e2⟩ := sz hI
      refine ⟨(v, τ), ?_, hI⟩
      show f_X7_arrange_B7 P l v _ (q_n K) τ = _
      unfold f_X7_arrange_B7
      rw [bd (al_gI hL'), e2, if_pos (by rw [q_nLe (by omega) (by omega)]; omega)])
    K 0 ((0 : Int64), (0 : Int32), (0 : Int32), σ) (mpN P) (by omega) ⟨rfl, rfl, Fz.rf, fun q hq => by simp [rnA], ⟨List.nodup_nil, fun q hq => (by cases hq)⟩, fun i q hiq => (by cases hiq), own, fun q hq => ⟨hm q hq, fun _ h => h⟩, fun q hq => by cases hq⟩ (by omega)
  dsimp only at hI
  obtain ⟨hL', e2⟩ := sz hI
  have hbt := hI.2.1
  obtain ⟨r, e', h⟩ := q_for (f_X7_arrange_L105 P l v) (fun p s => s = (q_n p, τ) ∧ ∀ q, q < p → q ∈ rnA A np K K)
    (fun r => (∃ p, p < K ∧ r = .inl (q_n p, τ) ∧ p ∉ rnA A np K K ∧ ∀ q, q < p → q ∈ rnA A np K K) ∨ (r = .inr τ ∧ ∀ q, q < K → q ∈ rnA A np K K)) K
    (by
      rintro p s hp ⟨rfl, hi⟩
      have hp40 : p < 40 := by omega
      have hB : f_X7_arrange_L105 P l v (q_n p, τ) = (if (lg_cmp ((v >>> ((q_n p).toInt64 &&& 63)) &&& (1 : Int64)) (0 : Int64)) = 0 then some (.inr (.inl (q_n p, τ))) else some (.inl (q_n (p + 1), τ))) := by
        show f_X7_arrange_B105 P l v (q_n p) τ = _
        unfold f_X7_arrange_B105
        rw [bd (al_gI hL'), e2, if_neg (by rw [q_nLe (by omega) (by omega)]; omega), bds, q_nS]
      rw [hB]
      by_cases c : p ∈ rnA A np K K
      · left
        rw [if_neg (by rw [bt_t hp40]; intro z; have := (hbt p hp40).mpr c; rw [z] at this; cases this)]
        refine ⟨_, rfl, rfl, fun q hq => ?_⟩
        by_cases e : q = p
        · rw [e]; exact c
        · exact hi q (by omega)
      · right
        rw [if_pos (by
          rw [bt_t hp40]
          cases hc : v.toBitVec.getLsbD p
          · rfl
          · exact absurd ((hbt p hp40).mp hc) c)]
        exact ⟨_, rfl, Or.inl ⟨p, hp, rfl, c, hi⟩⟩)
    (by
      rintro s ⟨rfl, hi⟩
      refine ⟨.inr τ, ?_, Or.inr ⟨rfl, hi⟩⟩
      show f_X7_arrange_B105 P l v (q_n K) τ = _
      unfold f_X7_arrange_B105
      rw [bd (al_gI hL'), e2, if_pos (by rw [q_nLe (by omega) (by omega)]; omega)])
    K 0 ((0 : Int32), τ) (mpN P) (by omega) ⟨rfl, fun q hq => absurd hq (Nat.not_lt_zero q)⟩ (by omega)
  have hA : f_X7_arrange P l σ = f_X7_arrange_D102 P l v τ := by
    unfold f_X7_arrange
    rw [bd e]
  rw [hA]
  unfold f_X7_arrange_D102
  rw [bd e']
  rcases h with ⟨p, hp, rfl, h1, h3⟩ | ⟨rfl, h1⟩
  · exact ⟨q_n p, τ, v, rfl, hI, Or.inl ⟨p, hp, rfl, h1, h3⟩⟩
  · exact ⟨-1, τ, v, rfl, hI, Or.inr ⟨rfl, h1⟩⟩
end IGS
