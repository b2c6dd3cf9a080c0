/-! ===== ie: the class's second reading ===== -/
section IES
variable {P : mx_P} {σ σ0 σ1 σ2 τ : mx_S} {x m n t l p a N i k j u K c np fm r mk : Nat} {bl : List Nat} {on : Nat → Nat} {E E' : Nat → BV} {fs : Option (Nat × Nat)}
theorem CJ_keep (hL : LyL (mxA σ) (mxR σ) l) (hp : p < 40) (h : CJ σ E bl l N K p) (hI : ∀ j, mxI τ (l + 2 + 16 * p) j = mxI σ (l + 2 + 16 * p) j ∧ mxI τ (l + 2 + 16 * p + 1) j = mxI σ (l + 2 + 16 * p + 1) j ∧ mxL τ (l + 2 + 16 * p) j = mxL σ (l + 2 + 16 * p) j) (hE : ∀ d, 2 ≤ d → d ≤ 6 → E' (l + 2 + 16 * p + d) = E (l + 2 + 16 * p + d)) : CJ τ E' bl l N K p := by
  unfold CJ at h ⊢
  have e1 : ∀ j, mxI τ (l + 2 + 16 * p) j = mxI σ (l + 2 + 16 * p) j := fun j => (hI j).1
  have e2 : ∀ j, mxI τ (l + 2 + 16 * p + 1) j = mxI σ (l + 2 + 16 * p + 1) j := fun j => (hI j).2.1
  have e3 : ∀ j, mxL τ (l + 2 + 16 * p) j = mxL σ (l + 2 + 16 * p) j := fun j => (hI j).2.2
  have e4 : E' (l + 2 + 16 * p + 2) = E (l + 2 + 16 * p + 2) := hE 2 (by omega) (by omega)
  have e5 : E' (l + 2 + 16 * p + 3) = E (l + 2 + 16 * p + 3) := hE 3 (by omega) (by omega)
  have e6 : E' (l + 2 + 16 * p + 4 + 1) = E (l + 2 + 16 * p + 4 + 1) := hE 5 (by omega) (by omega)
  have e7 : E' (l + 2 + 16 * p + 4 + 2) = E (l + 2 + 16 * p + 4 + 2) := hE 6 (by omega) (by omega)
  simp only [e1, e2, e3, e4, e5, e6, e7]
  exact h
/-- the first lesser fault before statement u -/
def lsF (bl : List Nat) (N K : Nat) : Nat → Option (Nat × Nat)
  | 0 => none
  | u + 1 => match lsF bl N K u with
    | some z => some z
    | none => (ckL bl N K u ((wfm bl 0 (tkI bl N (sqA bl N 0 u) 0)).getD 0) none (mkT bl N u) (nLt 0 ((wfm bl 0 (tkI bl N (sqA bl N 0 u) 0)).getD 0))).1
theorem lsF_up {z : Nat × Nat} : ∀ {d u : Nat}, lsF bl N K u = some z → lsF bl N K (u + d) = some z
  | 0, u, h => h
  | d + 1, u, h => by
    show lsF bl N K (u + d + 1) = some z
    rw [lsF, lsF_up (d := d) h]
theorem lsF_s (hO : StO bl N 0 (sqA bl N 0 u) k n) (h : lsF bl N K u = none) : lsF bl N K (u + 1) = (ckL bl N K u k none (mkT bl N u) n).1 := by
  rw [lsF, h, hO.2.1]
  dsimp only [Option.getD]
  rw [nLt_e hO.2.2.1]
def rdF (l t : Nat) : Nat → Nat → Prop := fun q j => (q = t ∧ 2 ≤ j ∧ j ≤ 12) ∨ (t + 2 ≤ q ∧ q ≤ t + 6) ∨ (l ≤ q ∧ q < l + 676 ∧ (q = l → j = 2 ∨ j = 3) ∧ q ≠ l + 642 ∧ q ≠ l + 643)
theorem c_read2 (hN : N = 4000) (hf : 5000 ≤ mpN P) (hT : LyT σ t) (hbt : mpb P ≤ t) (hL : LyL (mxA σ) (mxR σ) l) (hlt : t + 8 ≤ l) (hC : TC σ t bl) (hX : TxH bl N K) (hTd : tdC σ t bl N 0 K) (hTx : Txt bl N 0 K none) (h4 : mxI σ t 4 = 0) (h2 : mxI σ t 2 = 0 ∧ mxI σ t 3 = 0) (hl2 : mxI σ l 2 = 0) (hl3 : mxI σ l 3 = 0) (hE : ∀ q, bx σ l q → RB (rd σ q) (E q)) :
    ∃ τ, mx_lp (f_X7_isRead_L48 P l t) (mpN P) ((1 : Int32), (0 : Int32), σ) = some τ ∧ Fz (rdF l t) σ τ ∧
      ((lsF bl N K K = none ∧ K ≤ 40 ∧ (mxI τ t 2 = 0 ∧ mxI τ t 3 = 0) ∧ mxI τ l 2 = q_n K ∧ mxI τ l 3 = q_n (mkT bl N K) ∧ mkT bl N K ≤ 8 ∧ ∃ E', (∀ q, bx τ l q → RB (rd τ q) (E' q)) ∧ (∀ q, l + 642 ≤ q → E' q = E q) ∧ ∀ p, p < K → CJ τ E' bl l N K p) ∨
       (∃ cq : Nat × Nat, lsF bl N K K = some cq ∧ mxI τ t 2 = q_n cq.1 ∧ mxI τ t 3 = q_n cq.2 ∧ 0 < cq.1 ∧ cq.1 < 10 ∧ ∃ E' : Nat → BV, (∀ q, bx τ l q → RB (rd τ q) (E' q)) ∧ ∀ q, l + 642 ≤ q → E' q = E q)) := by
  have hsq := sqA_b hTx.1
  have hK3 : K < 3000 := by have := hsq K (Nat.le_refl _); have := hC.1; omega
  have hCf : ∀ {τ}, Fz (rdF l t) σ τ → TC τ t bl := fun f => TC_cg hC (f.2.2.2 _ _ (fun z => by unfold rdF at z; omega)).1 (fun q => (f.2.2.2 _ _ (fun z => by unfold rdF at z; omega)).1)
  -- the last round
  have stop : ∀ (k : Nat) (τ : mx_S), k < 4000 → f_X7_isRead_L48 P l t ((0 : Int32), q_n k, τ) = some (.inr τ) := fun k τ hk => by
    show f_X7_isRead_B48 P l t 0 (q_n k) τ = _
    unfold f_X7_isRead_B48
    rw [if_neg (by rw [show (4000 : Int32) = q_n 4000 from rfl, q_nLe (by omega) (by omega)]; omega), if_pos rfl]
  obtain ⟨τ, e, hh⟩ := q_for (f_X7_isRead_L48 P l t)
    (fun u s => (∃ τ, s = ((1 : Int32), q_n u, τ) ∧ u ≤ K ∧ lsF bl N K u = none ∧ u ≤ 40 ∧ Fz (rdF l t) σ τ ∧ mxI τ t 4 = q_n (sqA bl N 0 u) ∧ (mxI τ t 2 = 0 ∧ mxI τ t 3 = 0) ∧ mxI τ l 2 = q_n u ∧ mxI τ l 3 = q_n (mkT bl N u) ∧ mkT bl N u ≤ 8 ∧ (∃ E', (∀ q, bx τ l q → RB (rd τ q) (E' q)) ∧ (∀ q, l + 642 ≤ q → E' q = E q) ∧ ∀ p, p < u → CJ τ E' bl l N K p)) ∨
      ∃ k τ, s = ((0 : Int32), q_n k, τ) ∧ k < 3900 ∧ Fz (rdF l t) σ τ ∧ ((lsF bl N K K = none ∧ K ≤ 40 ∧ (mxI τ t 2 = 0 ∧ mxI τ t 3 = 0) ∧ mxI τ l 2 = q_n K ∧ mxI τ l 3 = q_n (mkT bl N K) ∧ mkT bl N K ≤ 8 ∧ ∃ E', (∀ q, bx τ l q → RB (rd τ q) (E' q)) ∧ (∀ q, l + 642 ≤ q → E' q = E q) ∧ ∀ p, p < K → CJ τ E' bl l N K p) ∨ (∃ cq : Nat × Nat, lsF bl N K K = some cq ∧ mxI τ t 2 = q_n cq.1 ∧ mxI τ t 3 = q_n cq.2 ∧ 0 < cq.1 ∧ cq.1 < 10 ∧ ∃ E' : Nat → BV, (∀ q, bx τ l q → RB (rd τ q) (E' q)) ∧ ∀ q, l + 642 ≤ q → E' q = E q)))
    (fun τ => Fz (rdF l t) σ τ ∧ ((lsF bl N K K = none ∧ K ≤ 40 ∧ (mxI τ t 2 = 0 ∧ mxI τ t 3 = 0) ∧ mxI τ l 2 = q_n K ∧ mxI τ l 3 = q_n (mkT bl N K) ∧ mkT bl N K ≤ 8 ∧ ∃ E', (∀ q, bx τ l q → RB (rd τ q) (E' q)) ∧ (∀ q, l + 642 ≤ q → E' q = E q) ∧ ∀ p, p < K → CJ τ E' bl l N K p) ∨ (∃ cq : Nat × Nat, lsF bl N K K = some cq ∧ mxI τ t 2 = q_n cq.1 ∧ mxI τ t 3 = q_n cq.2 ∧ 0 < cq.1 ∧ cq.1 < 10 ∧ ∃ E' : Nat → BV, (∀ q, bx τ l q → RB (rd τ q) (E' q)) ∧ ∀ q, l + 642 ≤ q → E' q = E q))) 3001
    (by
      rintro u s hu3 (⟨τ, rfl, huK, hls, hu40, fz, i4, i2, il2, il3, ik8, E1, hE1, hEl, hcj⟩ | ⟨k, τ, rfl, hk, fz, hh⟩)
      · have hTτ := fz.T hT
        have hLτ : LyL (mxA τ) (mxR τ) l := by rw [fz.1, fz.2.1]; exact hL
        have hCτ := hCf fz
        have hTdτ : tdC τ t bl N 0 K := ⟨(fz.2.2.2 _ _ (fun z => by unfold rdF at z; omega)).1.trans hTd.1, fun q a b => by rw [(fz.2.2.2 _ _ (fun z => by unfold rdF at z; omega)).2]; exact hTd.2 q a b⟩
        obtain ⟨r, τ1, e1, hr⟩ := c_stm (P := P) (i := 0) hN (by omega) hf hTτ hbt hCτ i4 (hsq u huK).2
        left
        have hB : f_X7_isRead_L48 P l t ((1 : Int32), q_n u, τ) = (if r = 0 then f_X7_isRead_D81_48 P l t (q_n u) τ1 else (mx_is τ1 l 7).bind fun i34 => mx_b2 (f_X7_isTaken P l t (q_n u) τ1) fun x37 σ36 => (if x37 = 0 then f_X7_isRead_D81_48 P l t (q_n u) σ36 else f_X7_isRead_D82_48 P l t (q_n u) (1 : Int32) σ36)) := by
          show f_X7_isRead_B48 P l t 1 (q_n u) τ = _
          unfold f_X7_isRead_B48
          rw [if_neg (by rw [show (4000 : Int32) = q_n 4000 from rfl, q_nLe (by omega) (by omega)]; omega), if_neg zi10, bd (at_is hTτ), bd2 e1]
        rw [hB]
        have d81 : ∀ σ', f_X7_isRead_D81_48 P l t (q_n u) σ' = some (.inl ((0 : Int32), q_n (u + 1), σ')) := fun σ' => by
          unfold f_X7_isRead_D81_48 f_X7_isRead_D82_48
          rw [bds, q_nS]
        -- what the text's cells keep
        have tl : ∀ {σ'}, Fz (hsS t) τ σ' → (∀ q j, t + 8 ≤ q → mxI σ' q j = mxI τ q j ∧ mxL σ' q j = mxL τ q j) ∧ (mxI τ t 2 = 0 ∧ mxI τ t 3 = 0 → mxI σ' t 2 = 0 ∧ mxI σ' t 3 = 0) ∧ Fz (rdF l t) σ σ' := fun f => ⟨fun q j hq => f.2.2.2 q j (fun z => by unfold hsS at z; omega), fun z => ⟨(f.2.2.2 t 2 (fun z => by unfold hsS at z; omega)).1.trans z.1, (f.2.2.2 t 3 (fun z => by unfold hsS at z; omega)).1.trans z.2⟩, fz.tr (f.mo fun q j z => by unfold hsS at z; unfold rdF; omega)⟩
        rcases hr with ⟨hEn, rfl, f⟩ | ⟨q, hFa, rfl, f, hn⟩ | ⟨k, n, hO, rfl, f, a4, a10, a11, a12, aP⟩
        · -- the end
          have eK : u = K := by
            rcases Nat.lt_or_ge u K with z | z
            · obtain ⟨k', n', ho⟩ := hTx.1 u z
              exact absurd hEn (StO_E ho)
            · omega
          subst eK
          obtain ⟨t1, t2, t3⟩ := tl f
          rw [if_pos rfl, d81]
          refine ⟨_, rfl, Or.inr ⟨u + 1, τ1, rfl, by omega, t3, Or.inl ⟨hls, hu40, t2 i2, (t1 l 2 (by omega)).1.trans il2, (t1 l 3 (by omega)).1.trans il3, ik8, E1, fun q hq => ?_, hEl, fun p hp => CJ_keep hLτ (by omega) (hcj p hp) (fun j => ⟨(t1 _ _ (by omega)).1, (t1 _ _ (by omega)).1, (t1 _ _ (by omega)).2⟩) (fun _ _ _ => rfl)⟩⟩⟩
          have hq' : bx τ l q := (bx_A f.1).mp hq
          have := hE1 q hq'
          unfold rd at this ⊢
          rw [(t1 q 0 (by have := hq'.1; omega)).2, (t1 q 1 (by have := hq'.1; omega)).2, (t1 q 2 (by have := hq'.1; omega)).1]; exact this
        · -- no fault of the grammar is left
          exfalso
          rcases Nat.lt_or_ge u K with z | z
          · obtain ⟨k', n', ho⟩ := hTx.1 u z
            exact StO_F ho hFa
          · have : u = K := by omega
            subst this
            exact StE_F hTx.2 hFa
        · have huK' : u < K := by
            rcases Nat.lt_or_ge u K with z | z
            · exact z
            · have : u = K := by omega
              subst this
              exact absurd hTx.2 (StO_E hO)
          obtain ⟨t1, t2, t3⟩ := tl f
          have hL1 : LyL (mxA τ1) (mxR τ1) l := by rw [t3.1, t3.2.1]; exact hL
          have hE1' : ∀ q, bx τ1 l q → RB (rd τ1 q) (E1 q) := fun q hq => by
            have hq' : bx τ l q := (bx_A f.1).mp hq
            have := hE1 q hq'
            unfold rd at this ⊢
            rw [(t1 q 0 (by have := hq'.1; omega)).2, (t1 q 1 (by have := hq'.1; omega)).2, (t1 q 2 (by have := hq'.1; omega)).1]; exact this
          have hTd1 : tdC τ1 t bl N 0 K := ⟨(t3.2.2.2 _ _ (fun z => by unfold rdF at z; omega)).1.trans hTd.1, fun q a b => by rw [(t3.2.2.2 _ _ (fun z => by unfold rdF at z; omega)).2]; exact hTd.2 q a b⟩
          obtain ⟨r, τ2, e2, f2, hr⟩ := c_taken (P := P) hf (t3.T hT) hbt hL1 hlt hX hTd1 hO (by omega) a10 a12 aP (t2 i2) ((t1 l 3 (by omega)).1.trans il3) ik8 hE1'
          rw [if_neg zi10, bd (al_is hL1), bd2 e2]
          have f2' : Fz (rdF l t) σ τ2 := by
            rcases hr with ⟨E', -, -, hu', -⟩ | ⟨cq, -, -, -, -, -, -, fc⟩
            · exact t3.tr (f2.mo fun q j z => by
                unfold tkF ckF jFb jF at z
                unfold rdF
                rcases z with z | (z | z | z) | z
                · omega
                · omega
                · omega
                · have n1 : q ≠ l := fun e => nb_o hL1 (e ▸ z)
                  have n2 : q ≠ l + 642 := fun e => nb_q hL1 (e ▸ z)
                  have n3 : q ≠ l + 643 := fun e => nb_p hL1 (e ▸ z)
                  have := z.1; have := z.2.1; omega
                · omega)
            · exact t3.tr (fc.mo fun q j z => by unfold ckF at z; unfold rdF; omega)
          rcases hr with ⟨E2, hck, rfl, hu', cj, hb2, hE2, hs2, hs3, hs8, hf2⟩ | ⟨cq, hck, rfl, b2, b3, b4, b5, fc⟩
          · rw [if_neg zi10]
            unfold f_X7_isRead_D82_48
            rw [bds, q_nS]
            have n4 : mxI τ2 t 4 = q_n (sqA bl N 0 (u + 1)) := by
              rw [(f2.2.2.2 t 4 (fun z => by
                unfold tkF ckF jFb jF at z
                rcases z with z | (z | z | z) | z
                · omega
                · omega
                · omega
                · have := z.1; omega
                · omega)).1, a4, sqA, nxA_e hO]
            refine ⟨_, rfl, Or.inl ⟨τ2, rfl, by omega, (lsF_s hO hls).trans hck, by omega, f2', n4, hf2, hs2, hs3, hs8, E2, hb2, fun q hq => (hE2 q (by omega)).trans (hEl q hq), fun p hp => ?_⟩⟩
            by_cases ep : p = u
            · subst ep; exact cj
            · have hp40 : p < 40 := by omega
              have n5 := nb_j hL1 hp40
              have n1 := nb_n hL1 hp40
              have cell : ∀ q j, (q = l + 2 + 16 * p ∨ q = l + 2 + 16 * p + 1) → mxI τ2 q j = mxI τ q j ∧ mxL τ2 q j = mxL τ q j := fun q j hq => by
                have g1 := f2.2.2.2 q j (fun z => by
                  unfold tkF ckF jFb jF at z
                  rcases z with z | (z | z | z) | z
                  · omega
                  · omega
                  · omega
                  · rcases hq with rfl | rfl
                    · exact n5 z
                    · exact n1 z
                  · omega)
                have g2 := t1 q j (by omega)
                exact ⟨g1.1.trans g2.1, g1.2.trans g2.2⟩
              exact CJ_keep hLτ hp40 (hcj p (by omega)) (fun j => ⟨(cell _ j (Or.inl rfl)).1, (cell _ j (Or.inr rfl)).1, (cell _ j (Or.inl rfl)).2⟩) (fun d h1 h2 => hE2 _ (by omega))
          · rw [if_pos rfl, d81]
            refine ⟨_, rfl, Or.inr ⟨u + 1, τ2, rfl, by omega, f2', Or.inr ⟨cq, ?_, b2, b3, b4, b5, E1, fun q hq => ?_, hEl⟩⟩⟩
            · have h1 := (lsF_s hO hls).trans hck
              have h2 := lsF_up (d := K - (u + 1)) h1
              rwa [show u + 1 + (K - (u + 1)) = K by omega] at h2
            · have hq' : bx τ1 l q := (bx_A fc.1).mp hq
              have hne : q ≠ l := fun e => nb_o hL1 (e ▸ hq')
              have g : ∀ j', mxI τ2 q j' = mxI τ1 q j' ∧ mxL τ2 q j' = mxL τ1 q j' := fun j' => fc.2.2.2 _ _ (fun z => by unfold ckF at z; have := hq'.1; omega)
              have := hE1' q hq'
              unfold rd at this ⊢
              rw [(g 0).2, (g 1).2, (g 2).1]; exact this
      · exact Or.inr ⟨τ, stop k τ (by omega), fz, hh⟩)
    (by
      rintro s (⟨τ, rfl, huK, -⟩ | ⟨k, τ, rfl, hk, fz, hh⟩)
      · omega
      · exact ⟨τ, stop k τ (by omega), fz, hh⟩)
    3001 0 ((1 : Int32), (0 : Int32), σ) (mpN P) (by omega) (Or.inl ⟨σ, rfl, Nat.zero_le _, rfl, by omega, Fz.rf, h4, h2, hl2, hl3, Nat.zero_le _, E, hE, fun _ _ => rfl, fun p hp => absurd hp (Nat.not_lt_zero p)⟩) (by omega)
  exact ⟨τ, e, hh⟩
end IES
