/-! ===== hg: load ===== -/
section HGS
variable {M : BV} {P : mx_P} {σ σ0 σ1 τ : mx_S} {x l l' m n : Nat} {E : Nat → BV} {K : LK} {pl pl0 pl' mk : Nat → Nat} {wy w p i : Nat} {B B' : LB} {β R : Type} {fn fd : Bool}
theorem isp_t {a : Int32} (hM : LyM σ m) (hn : n ≤ 40) (h19 : mxI σ m 19 = q_n n) (h : wi a n) : f_X12_isPoint P m a σ = some (1, σ) := by
  obtain ⟨z, ez, hz⟩ := w_isp (P := P) (a := a) (k := fun y τ => some (y, τ)) (Q := fun r => r = (1, σ)) hM hn h19 (fun _ => ⟨_, rfl, rfl⟩) (fun z => absurd h z)
  subst hz
  cases hq : f_X12_isPoint P m a σ with
  | none => rw [hq] at ez; cases ez
  | some y => rw [hq] at ez; exact ez
theorem isp_f {a : Int32} (hM : LyM σ m) (hn : n ≤ 40) (h19 : mxI σ m 19 = q_n n) (h : ¬ wi a n) : f_X12_isPoint P m a σ = some (0, σ) := by
  obtain ⟨z, ez, hz⟩ := w_isp (P := P) (a := a) (k := fun y τ => some (y, τ)) (Q := fun r => r = (0, σ)) hM hn h19 (fun z => absurd z h) (fun _ => ⟨_, rfl, rfl⟩)
  subst hz
  cases hq : f_X12_isPoint P m a σ with
  | none => rw [hq] at ez; cases ez
  | some y => rw [hq] at ez; exact ez
theorem g_load (hS : St P σ x) (h : RL x σ) (a1 a2 a3 : Int32) : Q0 x σ (f_L_load P x a1 a2 a3 σ) (fun τ => f_X12_load P (x + 1497) a1 a2 a3 τ) [7] (RL x) := by
  obtain ⟨l, l', K, mk, pl, B, hT, hB, hc, hr⟩ := h
  have hx := LyH_o hS.1
  have hb := hS.2.1
  have hn := hT.1
  have hbm : mpb P ≤ x + 1497 := by omega
  obtain ⟨hLl, hbl, hp6⟩ := St_L hS hc
  have hrm := hS.2.2.2
  have hN := hS.2.2.1
  have hl := hc.1.2.2
  obtain ⟨M, E, wy, hz⟩ := hc.2.1
  have h2s : mxI σ l 2 = q_n (kN K) := hz.1.1
  have eN : (q_n (kN K)).toInt = kN K := q_nT (by omega)
  have hMt : LyM (th σ) (x + 1497) := LyH_m hS.1
  have hDt : ∀ c : Nat, 0 < c → c < 4 → f_X12_load_D46 P (x + 1497) a1 a2 a3 (q_n c) (x + 1497) (th σ) = some (mx_setI (th σ) (x + 1497) 0 (q_n c)) := by
    intro c c0 c4
    have hM5 : LyM (mx_setI (th σ) (x + 1497) 0 (q_n c)) (x + 1497) := LyH_m hS.1
    unfold f_X12_load_D46
    rw [bd (am_pI hMt hbm _), bd (am_gI hM5), show mxI (mx_setI (th σ) (x + 1497) 0 (q_n c)) (x + 1497) 0 = q_n c from sI_e, if_neg (pos_th c0 c4)]
  by_cases o2 : rgs a2 1000
  · by_cases o3 : rgs a3 1000
    · have f2 := rg_t (P := P) (l := -1000) (u := 1000) o2
      have f3 := rg_t (P := P) (l := -1000) (u := 1000) o3
      have e2 := in_t (P := P) (l := -1000) (u := 1000) o2
      have e3 := in_t (P := P) (l := -1000) (u := 1000) o3
      by_cases o1 : wi a1 (kN K)
      · obtain ⟨p, hpp, rfl⟩ := wi_n o1
        have hp4 : p < 40 := by omega
        obtain ⟨τ1, hτ1⟩ : ∃ τ1, τ1 = mx_setI σ (l + 2 + 16 * p) 17 a2 := ⟨_, rfl⟩
        obtain ⟨τ2, hτ2⟩ : ∃ τ2, τ2 = mx_setI τ1 (l + 2 + 16 * p) 18 a3 := ⟨_, rfl⟩
        obtain ⟨τ3, hτ3⟩ : ∃ τ3, τ3 = mx_setI τ2 (x + 1497) 0 0 := ⟨_, rfl⟩
        obtain ⟨τ4, hτ4⟩ : ∃ τ4, τ4 = mx_setI τ3 (x + 1497 + 19) p a2 := ⟨_, rfl⟩
        obtain ⟨τ5, hτ5⟩ : ∃ τ5, τ5 = mx_setI τ4 (x + 1497 + 20) p a3 := ⟨_, rfl⟩
        have hM2 : LyM τ2 (x + 1497) := by rw [hτ2, hτ1]; exact LyH_m hS.1
        have hM3 : LyM τ3 (x + 1497) := by rw [hτ3]; exact hM2
        have hM4 : LyM τ4 (x + 1497) := by rw [hτ4]; exact hM3
        have hL1 : LyL (mxA τ1) (mxR τ1) l := by rw [hτ1]; exact hLl
        have hp61 : mg_R τ1 x 11 6 = some l := by rw [hτ1]; exact (q_gR (LyH_o hS.1)).trans hc.1.1
        have b1 : cB τ1 l (kN K) (upB B p (a2.toInt, (B p).1.2.1, (B p).1.2.2)) := by
          intro q hq
          obtain ⟨u1, u2, u3, u4⟩ := hc.2.2.2.1 q hq
          rw [hτ1]
          unfold upB
          by_cases e : q = p
          · subst e
            rw [if_pos rfl, sI_e, sI_n (by omega), sI_n (by omega)]
            exact ⟨rfl, u2, u3, u4⟩
          · rw [if_neg e, sI_n (by omega), sI_n (by omega), sI_n (by omega)]
            exact ⟨u1, u2, u3, u4⟩
        have c1 : RLc x l l' K mk pl (upB B p (a2.toInt, (B p).1.2.1, (B p).1.2.2)) τ1 := by rw [hτ1] at b1 ⊢; exact RLc_set hT hLl hc hpp (by omega) b1
        have b2 : cB τ2 l (kN K) (upB B p (a2.toInt, a3.toInt, (B p).1.2.2)) := by
          intro q hq
          obtain ⟨u1, u2, u3, u4⟩ := b1 q hq
          rw [hτ2]
          unfold upB at *
          by_cases e : q = p
          · subst e
            rw [if_pos rfl] at u1 u2 u3 u4 ⊢
            rw [sI_n (by omega), sI_e, sI_n (by omega)]
            exact ⟨u1, rfl, u3, u4⟩
          · rw [if_neg e] at u1 u2 u3 u4 ⊢
            rw [sI_n (by omega), sI_n (by omega), sI_n (by omega)]
            exact ⟨u1, u2, u3, u4⟩
        have c2 : RLc x l l' K mk pl (upB B p (a2.toInt, a3.toInt, (B p).1.2.2)) τ2 := by rw [hτ2] at b2 ⊢; exact RLc_set hT hL1 c1 hpp (by omega) b2
        have r2 : RLr (x + 1497) K pl B τ2 := by
          rw [hτ2, hτ1]
          exact RLr_rg hT hr (fun q j _ _ => by rw [sI_n (by omega), sI_n (by omega)]) (fun _ _ _ _ => rfl) (by rw [sI_n (by omega), sI_n (by omega)]) (by rw [sI_n (by omega), sI_n (by omega)])
        have r3 : RLr (x + 1497) K pl B τ3 := by rw [hτ3]; exact RSq_RLr r2 ((RSq_of r2).th hT)
        have q4 : rB τ4 (x + 1497) (kN K) (upB B p (a2.toInt, (B p).1.2.1, (B p).1.2.2)) := by
          intro q hq
          obtain ⟨u1, u2, u3, u4, u5⟩ := r3.2.2 q hq
          have eI : ∀ q' j, q' ≠ x + 1497 + 19 → mxI τ4 q' j = mxI τ3 q' j := fun q' j hq' => by rw [hτ4]; exact sI_n (fun z => hq' z.1)
          rw [eI (x + 1497 + 21) q (by omega), eI (x + 1497 + 20) q (by omega), eI (x + 1497 + 15) q (by omega)]
          unfold upB
          by_cases e : q = p
          · subst e
            rw [if_pos rfl, hτ4, sI_e, ← hτ4]
            exact ⟨rfl, u2, u3, u4, fun j b hb => by rw [eI _ _ (by omega)]; exact u5 j b hb⟩
          · rw [if_neg e, hτ4, sI_n (a := x + 1497 + 19) (q := x + 1497 + 19) (fun z => e z.2), ← hτ4]
            exact ⟨u1, u2, u3, u4, fun j b hb => by rw [eI _ _ (by omega)]; exact u5 j b hb⟩
        have r4 : RLr (x + 1497) K pl (upB B p (a2.toInt, (B p).1.2.1, (B p).1.2.2)) τ4 := by rw [hτ4] at q4 ⊢; exact RLr_set hT r3 (by omega) q4
        have q5 : rB τ5 (x + 1497) (kN K) (upB B p (a2.toInt, a3.toInt, (B p).1.2.2)) := by
          intro q hq
          obtain ⟨u1, u2, u3, u4, u5⟩ := q4 q hq
          have eI : ∀ q' j, q' ≠ x + 1497 + 20 → mxI τ5 q' j = mxI τ4 q' j := fun q' j hq' => by rw [hτ5]; exact sI_n (fun z => hq' z.1)
          rw [eI (x + 1497 + 21) q (by omega), eI (x + 1497 + 19) q (by omega), eI (x + 1497 + 15) q (by omega)]
          unfold upB at *
          by_cases e : q = p
          · subst e
            rw [if_pos rfl] at u1 u2 u3 u4 u5 ⊢
            rw [hτ5, sI_e, ← hτ5]
            exact ⟨u1, rfl, u3, u4, fun j b hb => by rw [eI _ _ (by omega)]; exact u5 j b hb⟩
          · rw [if_neg e] at u1 u2 u3 u4 u5 ⊢
            rw [hτ5, sI_n (a := x + 1497 + 20) (q := x + 1497 + 20) (fun z => e z.2), ← hτ5]
            exact ⟨u1, u2, u3, u4, fun j b hb => by rw [eI _ _ (by omega)]; exact u5 j b hb⟩
        have r5 : RLr (x + 1497) K pl (upB B p (a2.toInt, a3.toInt, (B p).1.2.2)) τ5 := by rw [hτ5] at q5 ⊢; exact RLr_set hT r4 (by omega) q5
        refine ⟨0, τ2, τ5, hr_load hx ?_, ?_, ?_, by rw [hτ2, hτ1]; rfl, ?_, l, l', K, mk, pl, _, hT, LBok_up (v := (a2.toInt, a3.toInt, (B p).1.2.2)) hB hpp ⟨o2, o3, (hB p hpp).2.2.1⟩, ?_, r5⟩
        · unfold f_X11_load
          rw [bdx (f2 σ), bdx (f3 σ), bd hp6, bd (al_gI hLl), h2s, bd2 (wi_t (by rw [eN]; exact o1) σ), bdx (np_1 σ), bd hp6, bd (al_r0 hLl), bd (al_j hLl hp4), bd (aj_pI hLl hp4 hbl _), ← hτ1, bd hp61, bd (al_r0 hL1), bd (al_j hL1 hp4), bd (aj_pI hL1 hp4 hbl _), ← hτ2]
        · show f_X12_load P (x + 1497) (q_n p) a2 a3 τ2 = _
          unfold f_X12_load f_X12_load_D46
          rw [bd2 (e2 _), if_neg zi10, bd2 (e3 _), if_neg zi10, bd (am_is hM2), bd2 (isp_t hM2 hn r2.1.1 o1), if_neg zi10, bd (am_pI hM2 hbm _), ← hτ3, bd (am_gI hM3), show mxI τ3 (x + 1497) 0 = 0 by rw [hτ3]; exact sI_e, if_pos (by decide), bd (am_r35 hM3), bd (am_s35 hM3 hbm hp4 _), ← hτ4, bd (am_r36 hM4), bd (am_s36 hM4 hbm hp4 _), ← hτ5]
        · rw [hτ5, hτ4, hτ3, sI_n (by omega), sI_n (by omega)]; exact sI_e
        · rw [hτ5, hτ4, hτ3, hτ2, hτ1]
          exact ((((Fr.rf.sI (Or.inl ⟨7, by simp, Or.inl ⟨by omega, by omega⟩⟩) _).sI (Or.inl ⟨7, by simp, Or.inl ⟨by omega, by omega⟩⟩) _).sI (Or.inr cp_t) _).sI (Or.inl ⟨7, by simp, Or.inr (Or.inl ⟨by omega, by omega⟩)⟩) _).sI (Or.inl ⟨7, by simp, Or.inr (Or.inl ⟨by omega, by omega⟩)⟩) _
        · refine RLc_rg hT c2 (by rw [hτ5, hτ4, hτ3]; rfl) (by rw [hτ5, hτ4, hτ3]; rfl) (fun q j z1 z2 => ?_) (fun _ _ _ _ => by rw [hτ5, hτ4, hτ3]; rfl)
          rw [hτ5, hτ4, hτ3, sI_n (by omega), sI_n (by omega), sI_n (by omega)]
      · refine Q0_tt (c := 2) hS hT hB hc hr (ht_load2 hx ?_) ?_
        · unfold f_X11_load
          rw [bdx (f2 σ), bdx (f3 σ), bd hp6, bd (al_gI hLl), h2s, bd2 (wi_f (by rw [eN]; exact o1) σ), bdl (np_0 hrm)]
        · show f_X12_load P (x + 1497) a1 a2 a3 (th σ) = _
          unfold f_X12_load
          rw [bd2 (e2 _), if_neg zi10, bd2 (e3 _), if_neg zi10, bd (am_is hMt), bd2 (isp_f hMt hn hr.1.1 o1), if_pos rfl]
          exact hDt 2 (by omega) (by omega)
    · refine Q0_tt (c := 1) hS hT hB hc hr (ht_load1 hx ?_) ?_
      · unfold f_X11_load
        rw [bdx (rg_t (P := P) (l := -1000) (u := 1000) o2 σ), bdl (rg_f (P := P) (l := -1000) (u := 1000) o3 hrm)]
      · show f_X12_load P (x + 1497) a1 a2 a3 (th σ) = _
        unfold f_X12_load f_X12_load_D29
        rw [bd2 (in_t (P := P) (l := -1000) (u := 1000) o2 _), if_neg zi10, bd2 (in_f (P := P) (l := -1000) (u := 1000) o3 _), if_pos rfl]
        exact hDt 1 (by omega) (by omega)
  · refine Q0_tt (c := 1) hS hT hB hc hr (ht_load1 hx ?_) ?_
    · unfold f_X11_load
      rw [bdl (rg_f (P := P) (l := -1000) (u := 1000) o2 hrm)]
    · show f_X12_load P (x + 1497) a1 a2 a3 (th σ) = _
      unfold f_X12_load f_X12_load_D29
      rw [bd2 (in_f (P := P) (l := -1000) (u := 1000) o2 _), if_pos rfl]
      exact hDt 1 (by omega) (by omega)
end HGS
