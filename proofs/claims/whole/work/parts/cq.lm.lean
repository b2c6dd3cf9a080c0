/-! ===== lm: drive, the class's outcome of a text ===== -/
section LMS
variable {P : mx_P} {σ σ0 σ1 σ2 τ : mx_S} {x m n t l l' p a N i k j u c f s b d nk K : Nat} {bl : List Nat} {S : Nat → Nat → Prop} {B : LB} {e : Option Nat} {KL : LK}
theorem d_no (h : dLs bl N B nk K = none) : ∀ u, u < K → dK bl N B nk u = none := fun u hu => by
  induction K with
  | zero => omega
  | succ K ih =>
    have h' : (match dLs bl N B nk K with | some z => some z | none => dK bl N B nk K) = none := h
    cases hz : dLs bl N B nk K with
    | some z => rw [hz] at h'; exact absurd h' (by simp)
    | none =>
      rw [hz] at h'
      by_cases eu : u = K
      · rw [eu]; exact h'
      · exact ih hz (by omega)
theorem d_K (h : dK bl N B nk u = none) : u < 40 ∧ ∀ j, j < dgn (dfF bl N u) → dcd bl N B nk u j = 0 := by
  unfold dK at h
  by_cases u40 : 40 ≤ u
  · rw [if_pos u40] at h; exact absurd h (by simp)
  · rw [if_neg u40] at h
    refine ⟨by omega, fun j hj => ?_⟩
    cases hr : r_fst (dbd bl N B nk u) (dgn (dfF bl N u)) with
    | some z => rw [hr] at h; exact absurd h (by simp)
    | none => exact Classical.byContradiction fun y => of_decide_eq_false (fst_n0 hr j hj) y
theorem d_P (hX : ∀ j, j < K → ∃ k n, StO bl N 2 (sqA bl N 2 j) k n) (h : dLs bl N B (kN KL) K = none) : DvO K (dO bl N B (kN KL)) KL := by
  have no := d_no h
  refine ⟨?_, fun u hu => ?_⟩
  · rcases Nat.eq_zero_or_pos K with z | z
    · omega
    · have := (d_K (no (K - 1) (by omega))).1; omega
  · obtain ⟨k, n, hO⟩ := hX u hu
    obtain ⟨f4, -⟩ := dO_f hO
    obtain ⟨w0, w1, w2, w3⟩ := dO_ok f4 (d_K (no u hu)).2
    refine ⟨show dfF bl N u ≤ 3 by omega, fun f2 => ?_, fun f1 => ?_, fun f2 => ?_, fun f3 => ?_⟩
    · have f2' : dfF bl N u < 2 := f2
      obtain ⟨v1, v2, v3, v4⟩ := w1 f2'
      have eb : (dO bl N B (kN KL) u).2.2.1 = dTp bl N u 1 / (dBt bl N u 1 : Int) := by
        show (if dfF bl N u < 2 then _ else _) = _
        rw [if_pos f2']
      rw [eb]
      exact ⟨show (dTp bl N u 0 / (dBt bl N u 0 : Int)).toNat ≤ 3 by omega, v3, v4⟩
    · obtain ⟨pp, hpp, hpl⟩ := w3 f1
      show (dPt B (kN KL) (nmA bl (dKt bl N u 2))).getD 0 < kN KL
      rw [hpp]; exact hpl
    · have := w2 f2
      exact ⟨show 1 ≤ (dTp bl N u 0 / (dBt bl N u 0 : Int)).toNat by omega, show (dTp bl N u 0 / (dBt bl N u 0 : Int)).toNat ≤ 9 by omega⟩
    · show (dTp bl N u 0 / (dBt bl N u 0 : Int)).toNat ≤ 255
      omega
theorem dK_356 {cq : Nat × Nat} (h : dK bl N B nk u = some cq) : cq.1 = 3 ∨ cq.1 = 5 ∨ cq.1 = 6 := by
  unfold dK at h
  split at h
  · obtain rfl := Option.some.inj h; exact Or.inr (Or.inr rfl)
  · cases hr : r_fst (dbd bl N B nk u) (dgn (dfF bl N u)) with
    | none => rw [hr] at h; exact absurd h (by simp)
    | some j =>
      rw [hr] at h
      obtain rfl := Option.some.inj h
      have := dcd_3 (of_decide_eq_true (r_fst_tr hr))
      show dcd bl N B nk u j = 3 ∨ dcd bl N B nk u j = 5 ∨ dcd bl N B nk u j = 6
      omega
theorem dLs_356 {cq : Nat × Nat} (h : dLs bl N B nk K = some cq) : cq.1 = 3 ∨ cq.1 = 5 ∨ cq.1 = 6 := by
  induction K with
  | zero => exact absurd h (by unfold dLs; simp)
  | succ K ih =>
    have h' : (match dLs bl N B nk K with | some z => some z | none => dK bl N B nk K) = some cq := h
    cases hz : dLs bl N B nk K with
    | some z => rw [hz] at h'; obtain rfl := Option.some.inj h'; exact ih hz
    | none => rw [hz] at h'; exact dK_356 h'
def dvT (d t q j : Nat) : Prop := (q = t ∧ (2 ≤ j ∧ j ≤ 12 ∨ j = 19)) ∨ (t + 2 ≤ q ∧ q ≤ t + 7) ∨ (q = d ∧ j = 3) ∨ (d + 2 ≤ q ∧ q ≤ d + 7)
/-- what comes of a drive's text -/
def OutV (bl : List Nat) (N : Nat) (B : LB) (nk K : Nat) (e : Option Nat) (d t : Nat) (r : Int32) (τ : mx_S) : Prop :=
  (∃ q, e = some q ∧ r = 0 ∧ mxI τ t 2 = 1 ∧ mxI τ t 3 = q_n q) ∨
  (∃ cq, e = none ∧ dLs bl N B nk K = some cq ∧ r = 0 ∧ mxI τ t 2 = q_n cq.1 ∧ mxI τ t 3 = q_n cq.2) ∨
  (e = none ∧ dLs bl N B nk K = none ∧ r = 1 ∧ (mxI τ t 2 = 0 ∧ mxI τ t 3 = 0) ∧ DvC τ d K (dO bl N B nk))
theorem DvC_f {O : OD} (h : DvC σ d n O) (F : Fz S σ τ) (hs : ∀ q j, S q j → q < d ∨ d + 8 ≤ q) : DvC τ d n O := DvC_cg h fun q j hq _ _ => F.2.2.2 q j fun y => by have := hs q j y; omega
theorem c_dvr (hN : N = 4000) (hf : 5000 ≤ mpN P) (hT : LyT σ t) (hbt : mpb P ≤ t) (hD : LyO (mxA σ) (mxR σ) 2 al2 d) (htd : t + 8 ≤ d) (hL : LyL (mxA σ) (mxR σ) l) (hdl : d + 8 ≤ l) (hn : nk ≤ 40) (h2l : mxI σ l 2 = q_n nk) (hcB : cB σ l nk B) (hB : LBok nk B) (hTC : TC σ t bl) : ∃ K e r τ, Txt bl N 2 K e ∧ f_X2_isRead P d t l σ = some (r, τ) ∧ Fz (dvT d t) σ τ ∧ OutV bl N B nk K e d t r τ := by
  have h256 : ∀ b, b ∈ bl → b < 256 := fun b hb => by
    obtain ⟨k, hk⟩ := List.getElem?_of_mem hb
    exact (hTC.2.2 k b hk).1
  have hz1 : ∀ σ, mr_Z 1 σ = some (1, σ) := fun σ => if_pos (Or.inr rfl)
  have hz0 : ∀ σ, mr_Z 0 σ = some (0, σ) := fun σ => if_pos (Or.inl rfl)
  obtain ⟨σ1, e1⟩ : ∃ σ1, σ1 = mx_setI σ d 3 0 := ⟨_, rfl⟩
  have f1 : Fz (dvT d t) σ σ1 := by rw [e1]; exact Fz.rf.sI (Or.inr (Or.inr (Or.inl ⟨rfl, rfl⟩))) _
  have T1 := f1.T hT
  have B1 : TC σ1 t bl := TC_cg hTC (f1.gi (fun z => by unfold dvT at z; omega)) (fun q => f1.gi (fun z => by unfold dvT at z; omega))
  obtain ⟨K, e, σ2, hTx, e2, g4, g0, g1, -, f2⟩ := c_gram (P := P) (i := 2) hN (by omega) hf T1 hbt B1
  have f2' : Fz (dvT d t) σ σ2 := f1.tr (f2.mo fun q j z => by unfold gmS at z; unfold dvT; omega)
  have T2 := f2'.T hT
  have hC0 : mxI σ2 d 3 = 0 := by rw [f2.gi (fun z => by unfold gmS at z; omega), e1, sI_e]
  have hsq := sqA_b hTx.1
  have hK3 : K < 3000 := by have := hsq K (Nat.le_refl _); have := hTC.1; omega
  have stop : ∀ (k : Nat) (τ : mx_S), k < 4000 → f_X2_isRead_L15 P d t l ((0 : Int32), q_n k, τ) = some (.inr τ) := fun k τ hk => by
    show f_X2_isRead_B15 P d t l 0 (q_n k) τ = _
    unfold f_X2_isRead_B15
    rw [if_neg (by rw [show (4000 : Int32) = q_n 4000 from rfl, q_nLe (by omega) (by omega)]; omega), if_pos rfl]
  have un : f_X2_isRead P d t l σ = (mx_lp (f_X2_isRead_L15 P d t l) (mpN P) (bI e.isNone, (0 : Int32), σ2)).bind (fun s => f_X2_isRead_D59 P t s) := by
    unfold f_X2_isRead
    rw [bd (ad_pI hD (by omega) _), ← e1, bd (at_is T1), bd2 e2]
  have far : ∀ s, Fz (dvT d t) σ s → LyO (mxA s) (mxR s) 2 al2 d ∧ LyL (mxA s) (mxR s) l ∧ mxI s l 2 = q_n nk ∧ cB s l nk B ∧ TC s t bl := fun s F => by
    have k : ∀ q j, d + 8 ≤ q → mxI s q j = mxI σ q j ∧ mxL s q j = mxL σ q j := fun q j hq => F.2.2.2 q j (fun z => by unfold dvT at z; omega)
    exact ⟨by rw [F.1, F.2.1]; exact hD, by rw [F.1, F.2.1]; exact hL, (k l 2 (by omega)).1.trans h2l, cB_rg hn hcB (fun p hp => ⟨(k _ _ (by omega)).1, (k _ _ (by omega)).1, (k _ _ (by omega)).1, (k _ _ (by omega)).2⟩), TC_cg hTC (F.gi (fun z => by unfold dvT at z; omega)) (fun q => F.gi (fun z => by unfold dvT at z; omega))⟩
  cases e with
  | some q =>
    have gq := g1 q rfl
    refine ⟨K, some q, 0, σ2, hTx, ?_, f2', Or.inl ⟨q, rfl, rfl, gq.1, gq.2⟩⟩
    rw [un, show bI (some q).isNone = (0 : Int32) from rfl, bd (lp_out (show f_X2_isRead_L15 P d t l ((0 : Int32), (0 : Int32), σ2) = some (.inr σ2) from stop 0 σ2 (by omega)) (show 0 < mpN P by omega))]
    unfold f_X2_isRead_D59 f_X2_isRead_D71
    rw [bd (at_gI T2), gq.1, if_neg (by decide), hz0]
  | none =>
    have g00 := g0 rfl
    obtain ⟨τ, eL, FL, hLp⟩ := q_for (f_X2_isRead_L15 P d t l)
      (fun u s => (∃ τ, s = ((1 : Int32), q_n u, τ) ∧ u ≤ K ∧ dLs bl N B nk u = none ∧ Fz (dvT d t) σ τ ∧ mxI τ t 4 = q_n (sqA bl N 2 u) ∧ (mxI τ t 2 = 0 ∧ mxI τ t 3 = 0) ∧ DvC τ d u (dO bl N B nk)) ∨
        ∃ k τ, s = ((0 : Int32), q_n k, τ) ∧ k < 3900 ∧ Fz (dvT d t) σ τ ∧ ((dLs bl N B nk K = none ∧ (mxI τ t 2 = 0 ∧ mxI τ t 3 = 0) ∧ DvC τ d K (dO bl N B nk)) ∨ (∃ cq : Nat × Nat, dLs bl N B nk K = some cq ∧ mxI τ t 2 = q_n cq.1 ∧ mxI τ t 3 = q_n cq.2)))
      (fun τ => Fz (dvT d t) σ τ ∧ ((dLs bl N B nk K = none ∧ (mxI τ t 2 = 0 ∧ mxI τ t 3 = 0) ∧ DvC τ d K (dO bl N B nk)) ∨ (∃ cq : Nat × Nat, dLs bl N B nk K = some cq ∧ mxI τ t 2 = q_n cq.1 ∧ mxI τ t 3 = q_n cq.2))) 3001
      (by
        rintro u s hu3 (⟨τ, rfl, huK, hls, fz, i4, i2, icm⟩ | ⟨k, τ, rfl, hk, fz, hh⟩)
        · have hTτ := fz.T hT
          obtain ⟨hDτ, hLτ, h2τ, hcτ, hBτ⟩ := far τ fz
          obtain ⟨r, τ1, e1, hr⟩ := c_stm (P := P) (i := 2) hN (by omega) hf hTτ hbt hBτ i4 (hsq u huK).2
          left
          have hBb : f_X2_isRead_L15 P d t l ((1 : Int32), q_n u, τ) = (if r = 0 then f_X2_isRead_D51_15 P d t l (q_n u) τ1 else (mx_is τ1 d 2).bind fun i18 => mx_b2 (f_X2_isTaken P d t l (q_n u) τ1) fun x21 σ20 => (if x21 = 0 then f_X2_isRead_D51_15 P d t l (q_n u) σ20 else f_X2_isRead_D52_15 P d t l (q_n u) (1 : Int32) σ20)) := by
            show f_X2_isRead_B15 P d t l 1 (q_n u) τ = _
            unfold f_X2_isRead_B15
            rw [if_neg (by rw [show (4000 : Int32) = q_n 4000 from rfl, q_nLe (by omega) (by omega)]; omega), if_neg zi10, bd (at_is hTτ), bd2 e1]
          rw [hBb]
          have d51 : ∀ σ', f_X2_isRead_D51_15 P d t l (q_n u) σ' = some (.inl ((0 : Int32), q_n (u + 1), σ')) := fun σ' => by
            unfold f_X2_isRead_D51_15 f_X2_isRead_D52_15
            rw [Option.bind_some, q_nS]
          have tl : ∀ {σ'}, Fz (hsS t) τ σ' → (mxI σ' t 2 = 0 ∧ mxI σ' t 3 = 0) ∧ Fz (dvT d t) σ σ' ∧ DvC σ' d u (dO bl N B nk) := fun f => ⟨⟨(f.gi (fun z => by unfold hsS at z; omega)).trans i2.1, (f.gi (fun z => by unfold hsS at z; omega)).trans i2.2⟩, fz.tr (f.mo fun q j z => by unfold hsS at z; unfold dvT; omega), DvC_f icm f fun q j y => by unfold hsS at y; omega⟩
          rcases hr with ⟨hEn, rfl, f⟩ | ⟨q, hFa, rfl, f, hn'⟩ | ⟨k, n, hO, rfl, f, a4, a10, a11, a12, aP⟩
          · have eK : u = K := by
              rcases Nat.lt_or_ge u K with z | z
              · obtain ⟨k', n', ho⟩ := hTx.1 u z
                exact absurd hEn (StO_E ho)
              · omega
            subst eK
            obtain ⟨t1, t2, t3⟩ := tl f
            rw [if_pos rfl, d51]
            exact ⟨_, rfl, Or.inr ⟨u + 1, τ1, rfl, by omega, t2, Or.inl ⟨hls, t1, t3⟩⟩⟩
          · exfalso
            rcases Nat.lt_or_ge u K with z | z
            · obtain ⟨k', n', ho⟩ := hTx.1 u z
              exact StO_F ho hFa
            · have eK : u = K := by omega
              subst eK
              exact StE_F hTx.2 hFa
          · have huK' : u < K := by
              rcases Nat.lt_or_ge u K with z | z
              · exact z
              · have eK : u = K := by omega
                subst eK
                exact absurd hTx.2 (StO_E hO)
            obtain ⟨t1, t2, t3⟩ := tl f
            obtain ⟨hD1, hL1, h21, hc1, -⟩ := far τ1 t2
            obtain ⟨r', τ2, e2', F2', hr'⟩ := c_dtk (P := P) hf h256 (t2.T hT) hbt hD1 htd hL1 hdl hn h21 hc1 hB t1 hO a10 a11 a12 aP (by omega) t3
            rw [if_neg zi10, bd (ad_is hD1), bd2 e2']
            have F3 : Fz (dvT d t) σ τ2 := t2.tr (F2'.mo fun q j z => by unfold dtF at z; unfold dvT; omega)
            have us : dLs bl N B nk (u + 1) = dK bl N B nk u := by
              show (match dLs bl N B nk u with | some z => some z | none => dK bl N B nk u) = _
              rw [hls]
            rcases hr' with ⟨rfl, cq, k1, k2, k3⟩ | ⟨rfl, u30, k1, k2, k3⟩
            · rw [if_pos rfl, d51]
              refine ⟨_, rfl, Or.inr ⟨u + 1, τ2, rfl, by omega, F3, Or.inr ⟨cq, ?_, k2, k3⟩⟩⟩
              have := dLs_up (d := K - (u + 1)) (us.trans k1)
              rw [show u + 1 + (K - (u + 1)) = K by omega] at this
              exact this
            · rw [if_neg zi10]
              unfold f_X2_isRead_D52_15
              rw [Option.bind_some, q_nS]
              refine ⟨_, rfl, Or.inl ⟨τ2, rfl, by omega, us.trans k1, F3, ?_, k2, k3⟩⟩
              rw [F2'.gi (fun z => by unfold dtF at z; omega), a4]
              show _ = q_n (nxA bl N 2 (sqA bl N 2 u))
              rw [nxA_e hO]
        · right
          exact ⟨τ, stop k τ (by omega), fz, hh⟩)
      (by
        rintro s (⟨τ, rfl, huK, -⟩ | ⟨k, τ, rfl, hk, fz, hh⟩)
        · omega
        · exact ⟨τ, stop k τ (by omega), fz, hh⟩)
      3001 0 ((1 : Int32), (0 : Int32), σ2) (mpN P) (by omega) (Or.inl ⟨σ2, rfl, by omega, rfl, f2', g4, g00, hC0, fun i hi => by omega⟩) (by omega)
    have TL := FL.T hT
    rw [un, show bI (none : Option Nat).isNone = (1 : Int32) from rfl, bd eL]
    unfold f_X2_isRead_D59 f_X2_isRead_D71
    rw [bd (at_gI TL)]
    rcases hLp with ⟨l1, l2, l3⟩ | ⟨cq, l1, l2, l3⟩
    · rw [l2.1, if_pos rfl, hz1]
      exact ⟨K, none, 1, τ, hTx, rfl, FL, Or.inr (Or.inr ⟨rfl, l1, rfl, l2, l3⟩)⟩
    · have h56 := dLs_356 l1
      have hn' : ¬ mxI τ t 2 = 0 := by rw [l2]; exact fun y => by have := (q_nI (k := cq.1) (l := 0) (by omega) (by omega)).mp y; omega
      rw [if_neg hn', hz0]
      exact ⟨K, none, 0, τ, hTx, rfl, FL, Or.inr (Or.inl ⟨cq, rfl, l1, rfl, l2, l3⟩)⟩
end LMS
