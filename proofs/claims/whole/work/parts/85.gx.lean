/-! ===== gx: at, the reference's ===== -/
section GXS
variable {M : BV} {P : mx_P} {σ σ0 σ1 τ : mx_S} {x l l' m n : Nat} {E : Nat → BV} {K : LK} {pl pl0 pl' mk : Nat → Nat} {wy w p i : Nat} {B : LB} {β R : Type} {fn fd : Bool} {Q : β → Prop} {A C : mx_S → Option β}
theorem zi10 : ¬ (1 : Int32) = 0 := by decide
theorem b_in {v : Int32} {lo hi : Int64} (h1 : lo.toInt ≤ v.toInt ∧ v.toInt ≤ hi.toInt → Wp (C σ) Q) (h2 : ¬ (lo.toInt ≤ v.toInt ∧ v.toInt ≤ hi.toInt) → Wp (A σ) Q) : Wp (mx_b2 (f_X12_in P v.toInt64 lo hi σ) fun y τ => if y = 0 then A τ else C τ) Q :=
  w_in (fun h => by rw [if_neg zi10]; exact h1 h) (fun h => by rw [if_pos rfl]; exact h2 h)
theorem b_isw {a b : Int32} (h1 : rg a 255 ∧ rg b 3 → Wp (C σ) Q) (h2 : ¬ (rg a 255 ∧ rg b 3) → Wp (A σ) Q) : Wp (mx_b2 (f_X12_isWay P m a b σ) fun y τ => if y = 0 then A τ else C τ) Q :=
  w_isw (fun h => by rw [if_neg zi10]; exact h1 h) (fun h => by rw [if_pos rfl]; exact h2 h)
theorem b_isp {a : Int32} (hM : LyM σ m) (hn : n ≤ 40) (h19 : mxI σ m 19 = q_n n) (h1 : wi a n → Wp (C σ) Q) (h2 : ¬ wi a n → Wp (A σ) Q) : Wp (mx_b2 (f_X12_isPoint P m a σ) fun y τ => if y = 0 then A τ else C τ) Q :=
  w_isp hM hn h19 (fun h => by rw [if_neg zi10]; exact h1 h) (fun h => by rw [if_pos rfl]; exact h2 h)
theorem r_isop (hM : LyM σ m) (h : HZ m E σ) (hp : p < 40) : f_X12_isOpen P m (q_n p) σ = some (bI (v_open (eR E p)), σ) := by
  have y1 : mr_Z 1 σ = some (1, σ) := if_pos (Or.inr rfl)
  have y0 : mr_Z 0 σ = some (0, σ) := if_pos (Or.inl rfl)
  unfold f_X12_isOpen f_X12_isOpen_D24 f_X12_isOpen_D29
  rw [q_m2, q_nS, bd (am_r13 hM), bd (am_g13 hM (by omega)), bd (am_r13 hM), bd (am_g13 hM (by omega))]
  unfold v_open eR
  rcases RR_o (h (2 * p) (by omega)).1 with ⟨e0, e1, -, -, -⟩ | ⟨e0, e1⟩
  · rw [if_pos e0, e1]
    rcases RR_o (h (2 * p + 1) (by omega)).1 with ⟨e2, e3, -, -, -⟩ | ⟨e2, e3⟩
    · rw [if_pos e2, e3]; exact y0
    · rw [if_neg (by rw [e2]; decide), e3]; exact y1
  · rw [if_neg (by rw [e0]; decide), e1]; exact y1
theorem pos_th {k : Nat} (h0 : 0 < k) (h4 : k < 4) : ¬ q_n k ≤ (0 : Int32) := fun z => by rw [show (0 : Int32) = q_n 0 from rfl, q_nLe (by omega) (by omega)] at z; omega
theorem RO_t {vi : R → Int} {k : Nat} {v : R} {val : Int} (hT : kT K) (h : RSq m K σ0 pl τ) (h0 : 0 < k) : RO vi id m K σ0 k val pl (v, mx_setI τ m 0 (q_n k)) :=
  ⟨if_pos ⟨rfl, rfl⟩, fun z => by omega, h.th hT⟩
theorem r_at {a1 a2 a3 a4 : Int32} {k : Nat} {val : Int} (hf : 100 ≤ mpN P) (hT : kT K) (hp : mpb P ≤ m) (hS : AtS K pl a1 a2 a3 a4 k val pl') (h : RLr m K pl B τ) (hM : LyM τ m) : Wp (f_X12_at P m a1 a2 a3 a4 τ) (RO Int64.toInt id m K τ k val pl') := by
  have h0 := RSq_of h
  have hn := hT.1
  obtain ⟨rfl, hS⟩ := hS
  have thr : ∀ (c : Nat) (w1 : Int32) (τ' : mx_S), 0 < c → c < 4 → w1 = q_n c → RSq m K τ pl' τ' → Wp (f_X12_at_D79 P m a2 a3 a4 w1 m τ') (RO Int64.toInt id m K τ c val pl') := by
    rintro c w1 τ' c0 c4 rfl hq
    unfold f_X12_at_D79 f_X12_at_D104
    refine u_th (RSq_M hq hM) hp ?_
    rw [if_neg (pos_th c0 c4)]
    exact ⟨_, rfl, RO_t hT hq c0⟩
  unfold f_X12_at f_X12_at_D37 f_X12_at_D38 f_X12_at_D74
  rcases hS with ⟨rfl, hbad⟩ | ⟨⟨o1, o3, o4⟩, hS⟩
  · refine b_in (fun h1 => b_in (fun h3 => b_in (fun h4 => absurd ⟨h1, h3, h4⟩ hbad) fun h4 => ?_) fun h3 => ?_) fun h1 => ?_
    all_goals rw [if_pos rfl]; exact thr 1 _ _ (by omega) (by omega) rfl h0
  · refine b_in (fun h1 => b_in (fun h3 => b_in (fun h4 => ?_) fun h4 => absurd o4 h4) fun h3 => absurd o3 h3) fun h1 => absurd o1 h1
    rw [if_neg zi10, bd (am_is hM)]
    rcases hS with ⟨rfl, h2⟩ | ⟨w, p, ax, sd, hw, hpp, rfl, rfl, rfl, rfl, hS⟩
    · exact b_isp hM hn h.1.1 (fun z => absurd z h2) fun _ => thr 2 _ _ (by omega) (by omega) rfl h0
    · refine b_isp hM hn h.1.1 (fun _ => ?_) (fun z => absurd ⟨by rw [q_nT (by omega)]; omega, by rw [q_nT (by omega)]; omega⟩ z)
      rw [bd (am_is hM)]
      refine Wp_b2 (Wp_mo (rs_work hf hM hp hT h0.1 hw) ?_)
      rintro ⟨r, τ4⟩ ⟨j1, j2, j3⟩
      dsimp only at j1 j2 j3 ⊢
      subst j1
      have h4 := h0.go j2
      have hM4 := RSq_M h4 hM
      have hwy3 : g_wy K pl' w ≤ 2 := by unfold g_wy; split <;> (try split) <;> omega
      by_cases hw0 : g_wy K pl' w = 0
      · rw [if_pos (by rw [hw0]; rfl)]
        rcases hS with ⟨rfl, -⟩ | ⟨-, hS, -⟩
        · exact thr 2 _ _ (by omega) (by omega) rfl h4
        · exact absurd hw0 hS
      · rw [if_neg (fun z => hw0 (by rw [show (0 : Int32) = q_n 0 from rfl, q_nI (by omega) (by omega)] at z; exact z)), bd (am_is hM4)]
        obtain ⟨E4, hz4, hall⟩ := j3 hw0
        have e2 := hall p hpp
        rw [bd2 (r_isop hM4 hz4 (by omega))]
        rcases hS with ⟨rfl, ho⟩ | ⟨rfl, -, ho, rfl⟩
        · replace ho := ho.resolve_left hw0
          rw [if_neg (by rw [← v_N_open, e2, ho]; decide)]
          exact thr 2 _ _ (by omega) (by omega) rfl h4
        · rw [if_pos (by rw [← v_N_open, e2, ho]; rfl)]
          rw [v_N_id (by rw [← v_N_open, e2]; exact ho)] at e2
          unfold f_X12_at_D79 f_X12_at_D104
          refine u_th hM4 hp ?_
          rw [if_pos (by decide)]
          have h5 := RSq.th (v := 0) hT h4
          have hM5 := RSq_M h5 hM
          have hz5 : HZ m E4 (mx_setI τ4 m 0 0) := fun d hd => by rw [rr_sI (by omega)]; exact hz4 d hd
          have hidx : (2 : Int32) * q_n p + bI ax = q_n (2 * p + (if ax then 1 else 0)) := by
            rw [q_m2]; cases ax
            · exact Int32.add_zero _
            · exact q_nS _
          have hval : E4 (2 * p + (if ax then 1 else 0)) = v_ax ax (s_S K pl' w p).2 := by
            rw [← e2]; unfold eR v_ax; cases ax <;> rfl
          obtain ⟨y, ey, hy⟩ := r_side (P := P) (sd := sd) (d := 2 * p + (if ax then 1 else 0)) hM5 hz5 (by split <;> omega) (by rw [hval]; exact v_ax_ne ho)
          rw [bd (am_is hM5), hidx, bd2 ey]
          exact ⟨_, rfl, if_pos ⟨rfl, rfl⟩, fun _ => by rw [hy, hval], h5⟩
theorem g_at (hS : St P σ x) (h : RL x σ) (a1 a2 a3 a4 : Int32) : Q64 x σ (f_L_at P x a1 a2 a3 a4 (x + 1575) σ) (fun τ => f_X12_at P (x + 1497) a1 a2 a3 a4 τ) [7] (RL x) := by
  obtain ⟨l, l', K, mk, pl, B, hT, hB, hc, hr⟩ := h
  have hx := LyH_o hS.1
  have hb := hS.2.1
  refine asm64 (S := AtS K pl a1 a2 a3 a4) (cd := id) hS hT hB hc hr (fun τ v e ho => hr_at hx e ho (by omega)) (fun τ k pl' k0 k4 hSS e => ?_) (c_at (Cx_of hS hT hc) a1 a2 a3 a4) (fun k val pl' τ1 hSS hr1 hM1 => r_at (by have := hS.2.2.1; omega) hT (by omega) hSS hr1 hM1) ⟨rfl, fun k k0 k4 => fun z => by rw [id, show (0 : Int32) = q_n 0 from rfl, q_nI (by omega) (by omega)] at z; omega⟩
  have hk : k = 1 ∨ k = 2 := by
    obtain ⟨-, ⟨rfl, -⟩ | ⟨-, ⟨rfl, -⟩ | ⟨w, p, ax, sd, -, -, -, -, -, -, ⟨rfl, -⟩ | ⟨rfl, -⟩⟩⟩⟩ := hSS <;> omega
  rcases hk with rfl | rfl
  · exact ht_at1 hx e
  · exact ht_at2 hx e
end GXS
