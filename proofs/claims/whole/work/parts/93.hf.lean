/-! ===== hf: input, load, mass ===== -/
section HFS
variable {M : BV} {P : mx_P} {σ σ0 σ1 τ : mx_S} {x l l' m n : Nat} {E : Nat → BV} {K : LK} {pl pl0 pl' mk : Nat → Nat} {wy w p i : Nat} {B B' : LB} {β R : Type} {fn fd : Bool}
theorem bdx {α β : Type} {o : Option ((String × mx_S) ⊕ α)} {a : α} (e : o = some (.inr a)) (g : α → Option ((String × mx_S) ⊕ β)) : mx_bx o g = g a := by rw [e]; rfl
theorem bdl {α β : Type} {o : Option ((String × mx_S) ⊕ α)} {a : String × mx_S} (e : o = some (.inl a)) (g : α → Option ((String × mx_S) ⊕ β)) : mx_bx o g = some (.inl a) := by rw [e]; rfl
theorem sI_e {a j : Nat} {v : Int32} : mxI (mx_setI σ a j v) a j = v := if_pos ⟨rfl, rfl⟩
theorem sI_n {a j q i : Nat} {v : Int32} (h : ¬ (q = a ∧ i = j)) : mxI (mx_setI σ a j v) q i = mxI σ q i := if_neg h
/-- a call without a number: throw -/
theorem Q0_tt {lo : Option (Int32 × mx_S)} {f : mx_S → Option mx_S} {c : Nat} (hS : St P σ x) (hT : kT K) (hB : LBok (kN K) B) (hc : RLc x l l' K mk pl B σ) (hr : RLr (x + 1497) K pl B σ) (h1 : lo = some (q_n c, th σ)) (h2 : f (th σ) = some (mx_setI (th σ) (x + 1497) 0 (q_n c))) : Q0 x σ lo f [7] (RL x) := by
  have hL := LgC_of hT hr hc rfl rfl ⟨rfl, rfl⟩ fun _ _ _ => ⟨rfl, rfl⟩
  obtain ⟨c1, c2, c3⟩ := LgC_fr hT hL (Fr.th Fr.rf rfl)
  obtain ⟨d1, d2, d3⟩ := leg2 hT c1 c2 ((RSq_of c2).th (v := q_n c) hT)
  exact ⟨_, _, _, h1, h2, sI_e, c3.1, c3.tr d3 rfl, l, l', K, mk, pl, B, hT, hB, d1, d2⟩
theorem g_input (hS : St P σ x) (h : RL x σ) (a1 a2 : Int32) : Q0 x σ (f_L_input P x a1 a2 σ) (fun τ => f_X12_input P (x + 1497) a1 a2 τ) [7] (RL x) := by
  obtain ⟨l, l', K, mk, pl, B, hT, hB, hc, hr⟩ := h
  have hx := LyH_o hS.1
  have hb := hS.2.1
  have hbm : mpb P ≤ x + 1497 := by omega
  obtain ⟨hLl, hbl, hp6⟩ := St_L hS hc
  have hrm := hS.2.2.2
  have hN := hS.2.2.1
  by_cases hok : rg a1 3 ∧ rg a2 1023
  · obtain ⟨o1, o2⟩ := hok
    have ei := in_t (P := P) (l := 0) (u := 3) o1
    have ek := in_t (P := P) (l := 0) (u := 1023) o2
    have fi := rg_t (P := P) (l := 0) (u := 3) o1
    have fk := rg_t (P := P) (l := 0) (u := 1023) o2
    obtain ⟨i, hi, rfl⟩ := rg_n (u := 3) o1
    obtain ⟨k, hk, rfl⟩ := rg_n (u := 1023) o2
    obtain ⟨-, -, -, -, -, -, -, M, hcs⟩ := Cx_of hS hT hc
    obtain ⟨τ, e1, j1⟩ := cs_move (P := P) (by omega) hLl hbl hT hcs (show i < 4 by omega) (show k < 1024 by omega)
    have hC := CS_RLc hLl hT hc j1
    have hL := LgC_of hT hr hC j1.2.1.1 j1.2.1.2.1 j1.2.1.2.2.1 (fun q hq j => CFr_o j1.2.1 hq j)
    have hM : LyM τ (x + 1497) := by unfold LyM; rw [j1.2.1.1, j1.2.1.2.1]; exact LyH_m hS.1
    have h5 := (RSq_of hL.2.1).th (v := 0) hT
    have hM5 := RSq_M h5 hM
    obtain ⟨τ2, e2, j2⟩ := rs_set (P := P) hM5 hbm hT h5.1 (show i < 4 by omega) (show k < 1024 by omega)
    have h6 := h5.go j2
    obtain ⟨d1, d2, d3⟩ := leg2 hT hL.1 hL.2.1 h6
    refine ⟨0, τ, τ2, hr_input hx ?_, ?_, ?_, j1.2.1.1, hL.2.2.1.tr d3 h6.2.2.2.1.1, l, l', K, mk, _, B, hT, hB, d1, d2⟩
    · unfold f_X11_input
      rw [bdx (fi σ), bdx (fk σ), bd hp6, bd (al_is hLl), bd e1]
    · show f_X12_input P (x + 1497) (q_n i) (q_n k) τ = _
      unfold f_X12_input f_X12_input_D30 f_X12_input_D47
      rw [bd2 (ei τ), if_neg zi10, bd2 (ek τ), if_neg zi10, bd (am_pI hM hbm _), bd (am_gI hM5), show mxI (mx_setI τ (x + 1497) 0 0) (x + 1497) 0 = 0 from sI_e, if_pos rfl, bd (am_r34 hM5), bd e2]
    · rw [j2.2.2.2.2.2.1 _ 0 (by omega) (by omega) (by omega) (fun _ => by decide)]; exact sI_e
  · have hM : LyM (th σ) (x + 1497) := LyH_m hS.1
    have hM5 : LyM (mx_setI (th σ) (x + 1497) 0 1) (x + 1497) := LyH_m hS.1
    refine Q0_tt (c := 1) hS hT hB hc hr (ht_input1 hx ?_) ?_
    · unfold f_X11_input
      by_cases o1 : rg a1 3
      · rw [bdx (rg_t (P := P) (l := 0) (u := 3) o1 σ), bdl (rg_f (P := P) (l := 0) (u := 1023) (fun z => hok ⟨o1, z⟩) hrm)]
      · rw [bdl (rg_f (P := P) (l := 0) (u := 3) o1 hrm)]
    · show f_X12_input P (x + 1497) a1 a2 (th σ) = _
      have e : f_X12_input_D30 P (x + 1497) a1 a2 1 (x + 1497) (th σ) = some (mx_setI (th σ) (x + 1497) 0 1) := by
        unfold f_X12_input_D30 f_X12_input_D47
        rw [bd (am_pI hM hbm _), bd (am_gI hM5), show mxI (mx_setI (th σ) (x + 1497) 0 1) (x + 1497) 0 = 1 from sI_e, if_neg zi10]
      unfold f_X12_input f_X12_input_D29
      by_cases o1 : rg a1 3
      · rw [bd2 (in_t (P := P) (l := 0) (u := 3) o1 _), if_neg zi10, bd2 (in_f (P := P) (l := 0) (u := 1023) (fun z => hok ⟨o1, z⟩) _), if_pos rfl]; exact e
      · rw [bd2 (in_f (P := P) (l := 0) (u := 3) o1 _), if_pos rfl]; exact e
/-- one point's load or mass -/
def upB (B : LB) (p : Nat) (v : Int × Int × Int) : LB := fun q => if q = p then (v, (B p).2) else B q
theorem LBok_up {v : Int × Int × Int} {n : Nat} (h : LBok n B) (hp : p < n) (hv : (-1000 ≤ v.1 ∧ v.1 ≤ 1000) ∧ (-1000 ≤ v.2.1 ∧ v.2.1 ≤ 1000) ∧ (0 ≤ v.2.2 ∧ v.2.2 ≤ 1000)) : LBok n (upB B p v) := by
  intro q hq
  unfold upB
  by_cases e : q = p
  · subst e; rw [if_pos rfl]; exact ⟨hv.1, hv.2.1, hv.2.2, (h q hq).2.2.2⟩
  · rw [if_neg e]; exact h q hq
theorem RLc_set {j : Nat} {y : Int32} (hT : kT K) (hLl : LyL (mxA σ) (mxR σ) l) (hc : RLc x l l' K mk pl B σ) (hp : p < kN K) (hj : 17 ≤ j) (hB' : cB (mx_setI σ (l + 2 + 16 * p) j y) l (kN K) B') : RLc x l l' K mk pl B' (mx_setI σ (l + 2 + 16 * p) j y) := by
  have hn := hT.1
  obtain ⟨⟨a1, a2, a3⟩, ⟨M, E, wy, hz⟩, a4, a5, a6⟩ := hc
  have e : ∀ q i, q ≠ l + 2 + 16 * p → mxI (mx_setI σ (l + 2 + 16 * p) j y) q i = mxI σ q i := fun q i hq => by rw [q_II, if_neg (fun z => hq z.1)]
  refine ⟨⟨a1, a2, a3⟩, ⟨M, E, wy, LZ_set hLl hT hz (Or.inr (Or.inr (Or.inr ⟨p, by omega, rfl, hj⟩))) (nb_j hLl (by omega))⟩, ?_, hB', SpL_rg a6 rfl (fun q i c1 c2 => e q i (by omega)) (fun _ _ _ _ => rfl)⟩
  rw [e _ _ (by omega)]
  rcases a4 with h | ⟨h1, h2⟩
  · exact Or.inl h
  · exact Or.inr ⟨h1, FW_rg h2 (e _ _ (by omega)) fun i => ⟨e _ _ (by omega), e _ _ (by omega)⟩⟩
theorem RLr_set {q j : Nat} {y : Int32} (hT : kT K) (hr : RLr m K pl B σ) (hq : m + 19 ≤ q ∧ q ≤ m + 21) (hB' : rB (mx_setI σ q j y) m (kN K) B') : RLr m K pl B' (mx_setI σ q j y) := by
  have e : ∀ q' i, q' ≠ q → mxI (mx_setI σ q j y) q' i = mxI σ q' i := fun q' i hq => by rw [q_II, if_neg (fun z => hq z.1)]
  obtain ⟨a1, ⟨E, a2⟩, a3⟩ := hr
  refine ⟨?_, ⟨E, fun d hd => by rw [rr_sI (by omega)]; exact a2 d hd⟩, hB'⟩
  obtain ⟨b1, b2, b3, b4, b5⟩ := a1
  refine ⟨by rw [e _ _ (by omega)]; exact b1, by rw [e _ _ (by omega)]; exact b2, fun i hi => by rw [e _ _ (by omega)]; exact b3 i hi, fun i hi => by rw [e _ _ (by omega)]; exact b4 i hi, fun p hpp => ?_⟩
  obtain ⟨c1, c2, c3, c4, c5, c6⟩ := b5 p hpp
  refine ⟨by rw [e _ _ (by omega)]; exact c1, fun j hj => by rw [e _ _ (by omega)]; exact c2 j hj, c3, c4, fun hk => ?_, fun hk => by rw [e _ _ (by omega)]; exact c6 hk⟩
  rw [e _ _ (by omega), e _ _ (by omega), e _ _ (by omega)]; exact c5 hk
theorem g_mass (hS : St P σ x) (h : RL x σ) (a1 a2 : Int32) : Q0 x σ (f_L_mass P x a1 a2 σ) (fun τ => f_X12_mass P (x + 1497) a1 a2 τ) [7] (RL x) := by
  obtain ⟨l, l', K, mk, pl, B, hT, hB, hc, hr⟩ := h
  have hx := LyH_o hS.1
  have hb := hS.2.1
  have hn := hT.1
  have hbm : mpb P ≤ x + 1497 := by omega
  obtain ⟨hLl, hbl, hp6⟩ := St_L hS hc
  have hrm := hS.2.2.2
  have hN := hS.2.2.1
  have hl := hc.1.2.2
  obtain ⟨M, E, wy, hz⟩ := hc.2.1
  have h2s : mxI σ l 2 = q_n (kN K) := hz.1.1
  have eN : (q_n (kN K)).toInt = kN K := q_nT (by omega)
  by_cases o2 : rg a2 1000
  · by_cases o1 : wi a1 (kN K)
    · obtain ⟨p, hpp, rfl⟩ := wi_n o1
      have hp4 : p < 40 := by omega
      have hM : LyM (mx_setI σ (l + 2 + 16 * p) 19 a2) (x + 1497) := LyH_m hS.1
      have hM5 : LyM (mx_setI (mx_setI σ (l + 2 + 16 * p) 19 a2) (x + 1497) 0 0) (x + 1497) := LyH_m hS.1
      have hcB' : cB (mx_setI σ (l + 2 + 16 * p) 19 a2) l (kN K) (upB B p ((B p).1.1, (B p).1.2.1, a2.toInt)) := by
        intro q hq
        obtain ⟨u1, u2, u3, u4⟩ := hc.2.2.2.1 q hq
        unfold upB
        by_cases e : q = p
        · subst e
          rw [if_pos rfl, q_II, if_neg (by omega), q_II, if_neg (by omega), q_II, if_pos ⟨rfl, rfl⟩]
          exact ⟨u1, u2, rfl, u4⟩
        · rw [if_neg e, q_II, if_neg (by omega), q_II, if_neg (by omega), q_II, if_neg (by omega)]
          exact ⟨u1, u2, u3, u4⟩
      have c1 := RLc_set hT hLl hc hpp (by omega) hcB'
      have c2 : RLr (x + 1497) K pl B (mx_setI σ (l + 2 + 16 * p) 19 a2) := RLr_rg hT hr (fun q j _ _ => by rw [q_II, if_neg (by omega)]) (fun _ _ _ _ => rfl) (by rw [q_II, if_neg (by omega)]) (by rw [q_II, if_neg (by omega)])
      have c3 : RLr (x + 1497) K pl B (mx_setI (mx_setI σ (l + 2 + 16 * p) 19 a2) (x + 1497) 0 0) := RSq_RLr c2 ((RSq_of c2).th hT)
      have hrB' : rB (mx_setI (mx_setI (mx_setI σ (l + 2 + 16 * p) 19 a2) (x + 1497) 0 0) (x + 1497 + 21) p a2) (x + 1497) (kN K) (upB B p ((B p).1.1, (B p).1.2.1, a2.toInt)) := by
        intro q hq
        obtain ⟨u1, u2, u3, u4, u5⟩ := c3.2.2 q hq
        have eI : ∀ q' j, q' ≠ x + 1497 + 21 → mxI (mx_setI (mx_setI (mx_setI σ (l + 2 + 16 * p) 19 a2) (x + 1497) 0 0) (x + 1497 + 21) p a2) q' j = mxI (mx_setI (mx_setI σ (l + 2 + 16 * p) 19 a2) (x + 1497) 0 0) q' j := fun q' j hq' => sI_n (fun z => hq' z.1)
        rw [eI (x + 1497 + 19) q (by omega), eI (x + 1497 + 20) q (by omega), eI (x + 1497 + 15) q (by omega)]
        unfold upB
        by_cases e : q = p
        · subst e
          rw [if_pos rfl, sI_e]
          exact ⟨u1, u2, rfl, u4, fun j b hb => by rw [eI _ _ (by omega)]; exact u5 j b hb⟩
        · rw [if_neg e, sI_n (a := x + 1497 + 21) (q := x + 1497 + 21) (fun z => e z.2)]
          exact ⟨u1, u2, u3, u4, fun j b hb => by rw [eI _ _ (by omega)]; exact u5 j b hb⟩
      have d2 := RLr_set hT c3 (by omega) hrB'
      refine ⟨0, _, mx_setI (mx_setI (mx_setI σ (l + 2 + 16 * p) 19 a2) (x + 1497) 0 0) (x + 1497 + 21) p a2, hr_mass hx (τ1 := mx_setI σ (l + 2 + 16 * p) 19 a2) ?_, ?_, ?_, rfl, ?_, l, l', K, mk, pl, _, hT, LBok_up (v := ((B p).1.1, (B p).1.2.1, a2.toInt)) hB hpp ⟨(hB p hpp).1, (hB p hpp).2.1, o2⟩, ?_, d2⟩
      · unfold f_X11_mass
        rw [bdx (rg_t (P := P) (l := 0) (u := 1000) o2 σ), bd hp6, bd (al_gI hLl), h2s, bd2 (wi_t (by rw [eN]; exact o1) σ), bdx (np_1 σ), bd hp6, bd (al_r0 hLl), bd (al_j hLl hp4), bd (aj_pI hLl hp4 hbl _)]
      · show f_X12_mass P (x + 1497) (q_n p) a2 (mx_setI σ (l + 2 + 16 * p) 19 a2) = _
        unfold f_X12_mass f_X12_mass_D30 f_X12_mass_D47
        obtain ⟨z, ez, hz⟩ := w_isp (P := P) (a := q_n p) (k := fun y τ => some (y, τ)) (Q := fun r => r = (1, mx_setI σ (l + 2 + 16 * p) 19 a2)) hM hn c2.1.1 (fun _ => ⟨_, rfl, rfl⟩) (fun z => absurd o1 z)
        subst hz
        have ez' : f_X12_isPoint P (x + 1497) (q_n p) (mx_setI σ (l + 2 + 16 * p) 19 a2) = some (1, mx_setI σ (l + 2 + 16 * p) 19 a2) := by
          cases hq : f_X12_isPoint P (x + 1497) (q_n p) (mx_setI σ (l + 2 + 16 * p) 19 a2) with
          | none => rw [hq] at ez; cases ez
          | some y => rw [hq] at ez; exact ez
        rw [bd2 (in_t (P := P) (l := 0) (u := 1000) o2 _), if_neg zi10, bd (am_is hM), bd2 ez', if_neg zi10, bd (am_pI hM hbm _), bd (am_gI hM5), show mxI (mx_setI (mx_setI σ (l + 2 + 16 * p) 19 a2) (x + 1497) 0 0) (x + 1497) 0 = 0 from sI_e, if_pos rfl, bd (am_r37 hM5), bd (am_s37 hM5 hbm hp4 _)]
      · rw [q_II, if_neg (by omega)]; exact sI_e
      · exact ((Fr.rf.sI (Or.inl ⟨7, by simp, Or.inl ⟨by omega, by omega⟩⟩) _).sI (Or.inr cp_t) _).sI (Or.inl ⟨7, by simp, Or.inr (Or.inl ⟨by omega, by omega⟩)⟩) _
      · refine RLc_rg hT c1 rfl rfl (fun q j z1 z2 => ?_) (fun _ _ _ _ => rfl)
        rw [q_II, if_neg (by omega), q_II, if_neg (by omega)]
    · have hM : LyM (th σ) (x + 1497) := LyH_m hS.1
      have hM5 : LyM (mx_setI (th σ) (x + 1497) 0 2) (x + 1497) := LyH_m hS.1
      refine Q0_tt (c := 2) hS hT hB hc hr (ht_mass2 hx ?_) ?_
      · unfold f_X11_mass
        rw [bdx (rg_t (P := P) (l := 0) (u := 1000) o2 σ), bd hp6, bd (al_gI hLl), h2s, bd2 (wi_f (by rw [eN]; exact o1) σ), bdl (np_0 hrm)]
      · show f_X12_mass P (x + 1497) a1 a2 (th σ) = _
        unfold f_X12_mass f_X12_mass_D30 f_X12_mass_D47
        obtain ⟨z, ez, hz⟩ := w_isp (P := P) (a := a1) (k := fun y τ => some (y, τ)) (Q := fun r => r = (0, th σ)) hM hn hr.1.1 (fun z => absurd z o1) (fun _ => ⟨_, rfl, rfl⟩)
        subst hz
        have ez' : f_X12_isPoint P (x + 1497) a1 (th σ) = some (0, th σ) := by
          cases hq : f_X12_isPoint P (x + 1497) a1 (th σ) with
          | none => rw [hq] at ez; cases ez
          | some y => rw [hq] at ez; exact ez
        rw [bd2 (in_t (P := P) (l := 0) (u := 1000) o2 _), if_neg zi10, bd (am_is hM), bd2 ez', if_pos rfl, bd (am_pI hM hbm _), bd (am_gI hM5), show mxI (mx_setI (th σ) (x + 1497) 0 2) (x + 1497) 0 = 2 from sI_e, if_neg (by decide)]; rfl
  · have hM : LyM (th σ) (x + 1497) := LyH_m hS.1
    have hM5 : LyM (mx_setI (th σ) (x + 1497) 0 1) (x + 1497) := LyH_m hS.1
    refine Q0_tt (c := 1) hS hT hB hc hr (ht_mass1 hx ?_) ?_
    · unfold f_X11_mass
      rw [bdl (rg_f (P := P) (l := 0) (u := 1000) o2 hrm)]
    · show f_X12_mass P (x + 1497) a1 a2 (th σ) = _
      unfold f_X12_mass f_X12_mass_D30 f_X12_mass_D47
      rw [bd2 (in_f (P := P) (l := 0) (u := 1000) o2 _), if_pos rfl, bd (am_pI hM hbm _), bd (am_gI hM5), show mxI (mx_setI (th σ) (x + 1497) 0 1) (x + 1497) 0 = 1 from sI_e, if_neg zi10]; rfl
end HFS
