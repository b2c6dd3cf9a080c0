/-! ===== jg: a segment that meets no edge ===== -/
section JGS
variable {n k j : Nat} {X Y : Nat → Int} {ax ay bx b2 vx vy wx wy cx cy : Int}
theorem sgm (a b : Int) : (0 < a → 0 < b → 0 < a * b) ∧ (0 < a → b < 0 → a * b < 0) ∧ (a < 0 → 0 < b → a * b < 0) ∧ (a < 0 → b < 0 → 0 < a * b) ∧ (a = 0 → a * b = 0) ∧ (b = 0 → a * b = 0) :=
  ⟨fun h1 h2 => Int.mul_pos h1 h2, fun h1 h2 => Int.mul_neg_of_pos_of_neg h1 h2, fun h1 h2 => Int.mul_neg_of_neg_of_pos h1 h2, fun h1 h2 => Int.mul_pos_of_neg_of_neg h1 h2, fun h => by rw [h, Int.zero_mul], fun h => by rw [h, Int.mul_zero]⟩
/-- a point on a line, between in height -/
theorem on_y (hs : sdP ax ay bx b2 cx cy = 0) (h : ay < b2) (h1 : ay ≤ cy) (h2 : cy ≤ b2) : bwP ax ay bx b2 cx cy = true := by
  have i1 : (cx - ax) * (b2 - ay) = (cy - ay) * (bx - ax) := by unfold sdP at hs; grind
  have i2 : (bx - cx) * (b2 - ay) = (b2 - cy) * (bx - ax) := by unfold sdP at hs; grind
  have a1 := sg_1 i1 (by omega) (by omega)
  have a2 := sg_1 i2 (by omega) (by omega)
  unfold bwP
  apply decide_eq_true
  omega
/-- nothing in common -/
def noT (ax ay bx b2 vx vy wx wy : Int) : Prop := ¬ (ptP (sdP ax ay bx b2 vx vy) (sdP ax ay bx b2 wx wy) = true ∧ ptP (sdP vx vy wx wy ax ay) (sdP vx vy wx wy bx b2) = true) ∧ (sdP ax ay bx b2 vx vy = 0 → bwP ax ay bx b2 vx vy ≠ true) ∧ (sdP ax ay bx b2 wx wy = 0 → bwP ax ay bx b2 wx wy ≠ true) ∧ (sdP vx vy wx wy ax ay = 0 → bwP vx vy wx wy ax ay ≠ true) ∧ (sdP vx vy wx wy bx b2 = 0 → bwP vx vy wx wy bx b2 ≠ true)
theorem hd_no (h : hdP ax ay bx b2 cx cy = false) : sdP ax ay bx b2 cx cy = 0 → bwP ax ay bx b2 cx cy ≠ true := fun h1 h2 => by
  unfold hdP at h; rw [decide_eq_true h1, h2] at h; cases h
theorem noT_of (h : tcP ax ay bx b2 vx vy wx wy = false) : noT ax ay bx b2 vx vy wx wy := by
  unfold tcP at h
  rw [Bool.or_eq_false_iff, Bool.or_eq_false_iff, Bool.or_eq_false_iff, Bool.or_eq_false_iff] at h
  obtain ⟨h0, h1, h2, h3, h4⟩ := h
  refine ⟨fun z => ?_, hd_no h1, hd_no h2, hd_no h3, hd_no h4⟩
  rw [z.1, z.2] at h0; cases h0
theorem sd_r : sdP wx wy vx vy cx cy = -sdP vx vy wx wy cx cy := by unfold sdP; grind
theorem bw_r : bwP wx wy vx vy cx cy = bwP vx vy wx wy cx cy := by unfold bwP; rw [Int.min_comm wx vx, Int.max_comm wx vx, Int.min_comm wy vy, Int.max_comm wy vy]
theorem pt_r {s t : Int} : ptP t s = ptP s t := by
  unfold ptP; apply decide_eq_decide.mpr; omega
theorem pt_n {s t : Int} : ptP (-s) (-t) = ptP s t := by
  unfold ptP; apply decide_eq_decide.mpr; omega
theorem noT_r (h : noT ax ay bx b2 vx vy wx wy) : noT ax ay bx b2 wx wy vx vy := by
  obtain ⟨h0, h1, h2, h3, h4⟩ := h
  refine ⟨?_, h2, h1, fun z => ?_, fun z => ?_⟩
  · rw [pt_r, sd_r (vx := vx) (vy := vy) (wx := wx) (wy := wy) (cx := ax) (cy := ay), sd_r (vx := vx) (vy := vy) (wx := wx) (wy := wy) (cx := bx) (cy := b2), pt_n]; exact h0
  · rw [bw_r]; rw [sd_r] at z; exact h3 (by omega)
  · rw [bw_r]; rw [sd_r] at z; exact h4 (by omega)
theorem noT_s (h : noT ax ay bx b2 vx vy wx wy) : noT bx b2 ax ay vx vy wx wy := by
  obtain ⟨h0, h1, h2, h3, h4⟩ := h
  refine ⟨?_, fun z => ?_, fun z => ?_, h4, h3⟩
  · rw [sd_r (vx := ax) (vy := ay) (wx := bx) (wy := b2) (cx := vx) (cy := vy), sd_r (vx := ax) (vy := ay) (wx := bx) (wy := b2) (cx := wx) (cy := wy), pt_n, pt_r (s := sdP vx vy wx wy ax ay)]; exact h0
  · rw [bw_r]; rw [sd_r] at z; exact h1 (by omega)
  · rw [bw_r]; rw [sd_r] at z; exact h2 (by omega)
def tnP (vx vy wx wy cx cy : Int) : Int := if vy ≤ cy ∧ cy < wy ∧ 0 < sdP vx vy wx wy cx cy then 1 else if cy < vy ∧ wy ≤ cy ∧ sdP vx vy wx wy cx cy < 0 then -1 else 0
theorem tn_r : tnP wx wy vx vy cx cy = -tnP vx vy wx wy cx cy := by
  have e := sd_r (vx := vx) (vy := vy) (wx := wx) (wy := wy) (cx := cx) (cy := cy)
  unfold tnP
  rw [e]
  generalize sdP vx vy wx wy cx cy = s
  by_cases c1 : wy ≤ cy ∧ cy < vy ∧ 0 < -s
  · rw [if_pos c1, if_neg (by omega), if_pos (by omega)]; rfl
  · rw [if_neg c1]
    by_cases c2 : cy < wy ∧ vy ≤ cy ∧ -s < 0
    · rw [if_pos c2, if_pos (by omega)]
    · rw [if_neg c2, if_neg (by omega), if_neg (by omega)]; rfl
/-- the region that the ray sweeps -/
def swT (ax ay bx b2 cx cy : Int) : Int := if ay < cy ∧ cy ≤ b2 ∧ sdP ax ay bx b2 cx cy < 0 then 1 else 0
theorem ptP_t {s t : Int} (h : (s < 0 ∧ 0 < t) ∨ (0 < s ∧ t < 0)) : ptP s t = true := decide_eq_true h
theorem sw_up (hN : noT ax ay bx b2 vx vy wx wy) (hab : ay ≤ b2) (hvw : vy ≤ wy) : tnP vx vy wx wy ax ay - tnP vx vy wx wy bx b2 = swT ax ay bx b2 wx wy - swT ax ay bx b2 vx vy := by
  have i1 : sdP vx vy wx wy ax ay * (b2 - ay) = sdP ax ay bx b2 wx wy * (vy - ay) - sdP ax ay bx b2 vx vy * (wy - ay) := by unfold sdP; grind
  have i2 : sdP vx vy wx wy bx b2 * (b2 - ay) = sdP ax ay bx b2 wx wy * (vy - b2) - sdP ax ay bx b2 vx vy * (wy - b2) := by unfold sdP; grind
  have i3 : sdP vx vy wx wy ax ay - sdP vx vy wx wy bx b2 = sdP ax ay bx b2 wx wy - sdP ax ay bx b2 vx vy := by unfold sdP; grind
  obtain ⟨n0, n1, n2, n3, n4⟩ := hN
  have o1 : sdP ax ay bx b2 vx vy = 0 → ay < b2 → ay ≤ vy → vy ≤ b2 → False := fun h a b c => n1 h (on_y h a b c)
  have o2 : sdP ax ay bx b2 wx wy = 0 → ay < b2 → ay ≤ wy → wy ≤ b2 → False := fun h a b c => n2 h (on_y h a b c)
  have o3 : sdP vx vy wx wy ax ay = 0 → vy < wy → vy ≤ ay → ay ≤ wy → False := fun h a b c => n3 h (on_y h a b c)
  have o4 : sdP vx vy wx wy bx b2 = 0 → vy < wy → vy ≤ b2 → b2 ≤ wy → False := fun h a b c => n4 h (on_y h a b c)
  -- the point of the other is on this line
  have o5 : sdP ax ay bx b2 vx vy = 0 → sdP ax ay bx b2 wx wy ≠ 0 → ((sdP vx vy wx wy ax ay ≤ 0 ∧ 0 ≤ sdP vx vy wx wy bx b2) ∨ (sdP vx vy wx wy bx b2 ≤ 0 ∧ 0 ≤ sdP vx vy wx wy ax ay)) → False := fun h a b => n1 h (seg_b h a b)
  have sr : ∀ {p q : Int}, sdP wx wy vx vy p q = -sdP vx vy wx wy p q := sd_r
  have o6 : sdP ax ay bx b2 wx wy = 0 → sdP ax ay bx b2 vx vy ≠ 0 → ((sdP vx vy wx wy ax ay ≤ 0 ∧ 0 ≤ sdP vx vy wx wy bx b2) ∨ (sdP vx vy wx wy bx b2 ≤ 0 ∧ 0 ≤ sdP vx vy wx wy ax ay)) → False := fun h a b => n2 h (seg_b h a (by rw [sr, sr]; omega))
  have sr2 : ∀ {p q : Int}, sdP bx b2 ax ay p q = -sdP ax ay bx b2 p q := sd_r
  have o7 : sdP vx vy wx wy bx b2 = 0 → sdP vx vy wx wy ax ay ≠ 0 → ((sdP ax ay bx b2 vx vy ≤ 0 ∧ 0 ≤ sdP ax ay bx b2 wx wy) ∨ (sdP ax ay bx b2 wx wy ≤ 0 ∧ 0 ≤ sdP ax ay bx b2 vx vy)) → False := fun h a b => n4 h (seg_b h a (by rw [sr2, sr2]; omega))
  have n0' : ∀ {s t u v : Int}, s = sdP ax ay bx b2 vx vy → t = sdP ax ay bx b2 wx wy → u = sdP vx vy wx wy ax ay → v = sdP vx vy wx wy bx b2 → ((s < 0 ∧ 0 < t) ∨ (0 < s ∧ t < 0)) → ((u < 0 ∧ 0 < v) ∨ (0 < u ∧ v < 0)) → False := fun e1 e2 e3 e4 h1 h2 => n0 ⟨by rw [← e1, ← e2]; exact ptP_t h1, by rw [← e3, ← e4]; exact ptP_t h2⟩
  unfold tnP swT
  obtain ⟨s, hs⟩ : ∃ s, s = sdP ax ay bx b2 vx vy := ⟨_, rfl⟩
  obtain ⟨t, ht⟩ : ∃ t, t = sdP ax ay bx b2 wx wy := ⟨_, rfl⟩
  obtain ⟨u, hu⟩ : ∃ u, u = sdP vx vy wx wy ax ay := ⟨_, rfl⟩
  obtain ⟨v, hv⟩ : ∃ v, v = sdP vx vy wx wy bx b2 := ⟨_, rfl⟩
  have N0 := n0' hs ht hu hv
  rw [← hs] at i1 i2 i3 o1 o5 o6 o7 ⊢
  rw [← ht] at i1 i2 i3 o2 o5 o6 o7 ⊢
  rw [← hu] at i1 i3 o3 o5 o6 o7 ⊢
  rw [← hv] at i2 i3 o4 o5 o6 o7 ⊢
  clear n0' n0 n1 n2 n3 n4 hs ht hu hv sr sr2
  have e1 := sgm u (b2 - ay)
  have e2 := sgm v (b2 - ay)
  have e3 := sgm t (vy - ay)
  have e4 := sgm s (wy - ay)
  have e5 := sgm t (vy - b2)
  have e6 := sgm s (wy - b2)
  generalize u * (b2 - ay) = p1 at *
  generalize v * (b2 - ay) = p2 at *
  generalize t * (vy - ay) = p3 at *
  generalize s * (wy - ay) = p4 at *
  generalize t * (vy - b2) = p5 at *
  generalize s * (wy - b2) = p6 at *
  rcases Int.lt_or_le ay wy with w1 | w1
  · rcases Int.lt_or_le b2 wy with w2 | w2
    · -- W is high
      rw [if_neg (show ¬ (ay < wy ∧ wy ≤ b2 ∧ t < 0) by omega)]
      rcases Int.lt_or_le ay vy with v1 | v1
      · rcases Int.lt_or_le b2 vy with v2 | v2
        · rw [if_neg (by omega), if_neg (by omega), if_neg (by omega), if_neg (by omega), if_neg (by omega)]
        · -- V is between
          rw [if_neg (show ¬ (vy ≤ ay ∧ ay < wy ∧ 0 < u) by omega), if_neg (show ¬ (ay < vy ∧ wy ≤ ay ∧ u < 0) by omega)]
          by_cases c : 0 < v
          · have hs : s < 0 := by
              rcases Int.lt_or_le s 0 with z | z
              · exact z
              · exfalso
                by_cases z0 : s = 0
                · exact o1 z0 (by omega) (by omega) (by omega)
                · have hp2 := e2.1 c (by omega)
                  have hp6 := e6.1 (by omega) (by omega)
                  have ht : t < 0 := by
                    rcases Int.lt_or_le t 0 with y | y
                    · exact y
                    · by_cases y0 : t = 0
                      · have := e5.2.2.2.2.1 y0; omega
                      · rcases Int.lt_or_le vy b2 with q | q
                        · have := e5.2.1 (by omega) (by omega); omega
                        · have := e5.2.2.2.2.2 (by omega); omega
                  have hp3 := e3.2.2.1 ht (by omega)
                  have hp4 := e4.1 (show 0 < s by omega) (by omega)
                  have hu : u < 0 := by
                    rcases Int.lt_or_le u 0 with y | y
                    · exact y
                    · by_cases y0 : u = 0
                      · have := e1.2.2.2.2.1 y0; omega
                      · have := e1.1 (by omega) (by omega); omega
                  exact N0 (by omega) (by omega)
            rw [if_pos (show vy ≤ b2 ∧ b2 < wy ∧ 0 < v by omega), if_pos (show ay < vy ∧ vy ≤ b2 ∧ s < 0 by omega)]
          · have hs : ¬ s < 0 := fun z => by
              have hv0 : v ≠ 0 := fun y => o4 y (by omega) (by omega) (by omega)
              have hp2 := e2.2.2.1 (by omega) (show 0 < b2 - ay by omega)
              have hp6 := e6.2.2.1 z (by omega)
              have ht : 0 < t := by
                rcases Int.lt_or_le 0 t with y | y
                · exact y
                · by_cases y0 : t = 0
                  · have := e5.2.2.2.2.1 y0; omega
                  · rcases Int.lt_or_le vy b2 with q | q
                    · have := e5.2.2.2.1 (by omega) (by omega); omega
                    · have := e5.2.2.2.2.2 (by omega); omega
              have hp3 := e3.1 ht (by omega)
              have hp4 := e4.2.2.1 z (by omega)
              have hu : 0 < u := by
                rcases Int.lt_or_le 0 u with y | y
                · exact y
                · by_cases y0 : u = 0
                  · have := e1.2.2.2.2.1 y0; omega
                  · have := e1.2.2.1 (by omega) (show 0 < b2 - ay by omega); omega
              exact N0 (by omega) (by omega)
            rw [if_neg (show ¬ (vy ≤ b2 ∧ b2 < wy ∧ 0 < v) by omega), if_neg (show ¬ (b2 < vy ∧ wy ≤ b2 ∧ v < 0) by omega), if_neg (show ¬ (ay < vy ∧ vy ≤ b2 ∧ s < 0) by omega)]
      · -- V is low
        rw [if_neg (show ¬ (ay < vy ∧ vy ≤ b2 ∧ s < 0) by omega), if_neg (show ¬ (ay < vy ∧ wy ≤ ay ∧ u < 0) by omega), if_neg (show ¬ (b2 < vy ∧ wy ≤ b2 ∧ v < 0) by omega)]
        have hu0 : u ≠ 0 := fun y => o3 y (by omega) (by omega) (by omega)
        have hv0 : v ≠ 0 := fun y => o4 y (by omega) (by omega) (by omega)
        have same : 0 < u ↔ 0 < v := by
          by_cases c : (u < 0 ∧ 0 < v) ∨ (0 < u ∧ v < 0)
          · exfalso
            have hst : ¬ ((s < 0 ∧ 0 < t) ∨ (0 < s ∧ t < 0)) := fun z => N0 z c
            have hs0 : s ≠ 0 := fun z => by
              by_cases t0 : t = 0
              · omega
              · exact o5 z t0 (by omega)
            have ht0 : t ≠ 0 := fun z => o6 z hs0 (by omega)
            rcases Int.lt_or_le s 0 with z | z
            · have hp4 := e4.2.2.1 z (by omega)
              have hp6 := e6.2.2.1 z (by omega)
              have hp3 : 0 ≤ p3 := by
                rcases Int.lt_or_le vy ay with y | y
                · have := e3.2.2.2.1 (by omega) (by omega); omega
                · have := e3.2.2.2.2.2 (by omega); omega
              have hp5 : 0 ≤ p5 := by
                rcases Int.lt_or_le vy b2 with y | y
                · have := e5.2.2.2.1 (by omega) (by omega); omega
                · have := e5.2.2.2.2.2 (by omega); omega
              rcases Int.lt_or_le ay b2 with y | y
              · rcases c with ⟨c1, c2⟩ | ⟨c1, c2⟩
                · have := e1.2.2.1 c1 (by omega); omega
                · have := e2.2.2.1 c2 (by omega); omega
              · have := e1.2.2.2.2.2 (by omega); omega
            · have hp4 := e4.1 (show 0 < s by omega) (by omega)
              have hp6 := e6.1 (show 0 < s by omega) (by omega)
              have hp3 : p3 ≤ 0 := by
                rcases Int.lt_or_le vy ay with y | y
                · have := e3.2.1 (by omega) (by omega); omega
                · have := e3.2.2.2.2.2 (by omega); omega
              have hp5 : p5 ≤ 0 := by
                rcases Int.lt_or_le vy b2 with y | y
                · have := e5.2.1 (by omega) (by omega); omega
                · have := e5.2.2.2.2.2 (by omega); omega
              rcases Int.lt_or_le ay b2 with y | y
              · rcases c with ⟨c1, c2⟩ | ⟨c1, c2⟩
                · have := e2.1 c2 (by omega); omega
                · have := e1.1 c1 (by omega); omega
              · have := e1.2.2.2.2.2 (by omega); omega
          · omega
        by_cases c : 0 < u
        · rw [if_pos (show vy ≤ ay ∧ ay < wy ∧ 0 < u by omega), if_pos (show vy ≤ b2 ∧ b2 < wy ∧ 0 < v by omega)]; rfl
        · rw [if_neg (show ¬ (vy ≤ ay ∧ ay < wy ∧ 0 < u) by omega), if_neg (show ¬ (vy ≤ b2 ∧ b2 < wy ∧ 0 < v) by omega)]
    · -- W is between
      rw [if_neg (show ¬ (vy ≤ b2 ∧ b2 < wy ∧ 0 < v) by omega), if_neg (show ¬ (b2 < vy ∧ wy ≤ b2 ∧ v < 0) by omega), if_neg (show ¬ (ay < vy ∧ wy ≤ ay ∧ u < 0) by omega)]
      have ht0 : t ≠ 0 := fun z => o2 z (by omega) (by omega) (by omega)
      rcases Int.lt_or_le ay vy with v1 | v1
      · -- V too
        rw [if_neg (show ¬ (vy ≤ ay ∧ ay < wy ∧ 0 < u) by omega)]
        have hs0 : s ≠ 0 := fun z => o1 z (by omega) (by omega) (by omega)
        have same : s < 0 ↔ t < 0 := by
          by_cases c : (s < 0 ∧ 0 < t) ∨ (0 < s ∧ t < 0)
          · exfalso
            have huv : ¬ ((u < 0 ∧ 0 < v) ∨ (0 < u ∧ v < 0)) := fun z => N0 c z
            rcases c with ⟨c1, c2⟩ | ⟨c1, c2⟩
            · have hp3 := e3.1 c2 (by omega)
              have hp4 := e4.2.2.1 c1 (by omega)
              have hu : 0 < u := by
                rcases Int.lt_or_le 0 u with y | y
                · exact y
                · by_cases y0 : u = 0
                  · have := e1.2.2.2.2.1 y0; omega
                  · have := e1.2.2.1 (by omega) (show 0 < b2 - ay by omega); omega
              have hp5 : p5 ≤ 0 := by
                rcases Int.lt_or_le vy b2 with y | y
                · have := e5.2.1 c2 (by omega); omega
                · have := e5.2.2.2.2.2 (by omega); omega
              have hp6 : 0 ≤ p6 := by
                rcases Int.lt_or_le wy b2 with y | y
                · have := e6.2.2.2.1 c1 (by omega); omega
                · have := e6.2.2.2.2.2 (by omega); omega
              have hv : v ≤ 0 := by
                rcases Int.lt_or_le 0 v with y | y
                · have := e2.1 y (by omega); omega
                · exact y
              by_cases v0 : v = 0
              · exact o7 v0 (by omega) (by omega)
              · omega
            · have hp3 := e3.2.2.1 c2 (by omega)
              have hp4 := e4.1 c1 (by omega)
              have hu : u < 0 := by
                rcases Int.lt_or_le u 0 with y | y
                · exact y
                · by_cases y0 : u = 0
                  · have := e1.2.2.2.2.1 y0; omega
                  · have := e1.1 (by omega) (show 0 < b2 - ay by omega); omega
              have hp5 : 0 ≤ p5 := by
                rcases Int.lt_or_le vy b2 with y | y
                · have := e5.2.2.2.1 c2 (by omega); omega
                · have := e5.2.2.2.2.2 (by omega); omega
              have hp6 : p6 ≤ 0 := by
                rcases Int.lt_or_le wy b2 with y | y
                · have := e6.2.1 c1 (by omega); omega
                · have := e6.2.2.2.2.2 (by omega); omega
              have hv : 0 ≤ v := by
                rcases Int.lt_or_le v 0 with y | y
                · have := e2.2.2.1 y (by omega); omega
                · exact y
              by_cases v0 : v = 0
              · exact o7 v0 (by omega) (by omega)
              · omega
          · omega
        by_cases c : s < 0
        · rw [if_pos (show ay < wy ∧ wy ≤ b2 ∧ t < 0 by omega), if_pos (show ay < vy ∧ vy ≤ b2 ∧ s < 0 by omega)]; rfl
        · rw [if_neg (show ¬ (ay < wy ∧ wy ≤ b2 ∧ t < 0) by omega), if_neg (show ¬ (ay < vy ∧ vy ≤ b2 ∧ s < 0) by omega)]
      · -- V is low
        rw [if_neg (show ¬ (ay < vy ∧ vy ≤ b2 ∧ s < 0) by omega)]
        have hu0 : u ≠ 0 := fun y => o3 y (by omega) (by omega) (by omega)
        have same : 0 < u ↔ t < 0 := by
          constructor
          · intro c
            rcases Int.lt_or_le t 0 with z | z
            · exact z
            · exfalso
              have hp1 := e1.1 c (by omega)
              have hp3 : p3 ≤ 0 := by
                rcases Int.lt_or_le vy ay with y | y
                · have := e3.2.1 (by omega) (by omega); omega
                · have := e3.2.2.2.2.2 (by omega); omega
              have hs : s < 0 := by
                rcases Int.lt_or_le s 0 with y | y
                · exact y
                · by_cases y0 : s = 0
                  · have := e4.2.2.2.2.1 y0; omega
                  · have := e4.1 (by omega) (show 0 < wy - ay by omega); omega
              have hp5 := e5.2.1 (show 0 < t by omega) (by omega)
              have hp6 : 0 ≤ p6 := by
                rcases Int.lt_or_le wy b2 with y | y
                · have := e6.2.2.2.1 hs (by omega); omega
                · have := e6.2.2.2.2.2 (by omega); omega
              have hv : v < 0 := by
                rcases Int.lt_or_le v 0 with y | y
                · exact y
                · by_cases y0 : v = 0
                  · have := e2.2.2.2.2.1 y0; omega
                  · have := e2.1 (by omega) (show 0 < b2 - ay by omega); omega
              exact N0 (by omega) (by omega)
          · intro c
            rcases Int.lt_or_le 0 u with z | z
            · exact z
            · exfalso
              have hp1 := e1.2.2.1 (by omega) (show 0 < b2 - ay by omega)
              have hp3 : 0 ≤ p3 := by
                rcases Int.lt_or_le vy ay with y | y
                · have := e3.2.2.2.1 c (by omega); omega
                · have := e3.2.2.2.2.2 (by omega); omega
              have hs : 0 < s := by
                rcases Int.lt_or_le 0 s with y | y
                · exact y
                · by_cases y0 : s = 0
                  · have := e4.2.2.2.2.1 y0; omega
                  · have := e4.2.2.1 (by omega) (show 0 < wy - ay by omega); omega
              have hp5 := e5.2.2.2.1 c (show vy - b2 < 0 by omega)
              have hp6 : p6 ≤ 0 := by
                rcases Int.lt_or_le wy b2 with y | y
                · have := e6.2.1 hs (by omega); omega
                · have := e6.2.2.2.2.2 (by omega); omega
              have hv : 0 < v := by
                rcases Int.lt_or_le 0 v with y | y
                · exact y
                · by_cases y0 : v = 0
                  · have := e2.2.2.2.2.1 y0; omega
                  · have := e2.2.2.1 (by omega) (show 0 < b2 - ay by omega); omega
              exact N0 (by omega) (by omega)
        by_cases c : 0 < u
        · rw [if_pos (show vy ≤ ay ∧ ay < wy ∧ 0 < u by omega), if_pos (show ay < wy ∧ wy ≤ b2 ∧ t < 0 by omega)]
        · rw [if_neg (show ¬ (vy ≤ ay ∧ ay < wy ∧ 0 < u) by omega), if_neg (show ¬ (ay < wy ∧ wy ≤ b2 ∧ t < 0) by omega)]
  · rw [if_neg (by omega), if_neg (by omega), if_neg (by omega), if_neg (by omega), if_neg (by omega), if_neg (by omega)]
theorem sw_al (hN : noT ax ay bx b2 vx vy wx wy) (hab : ay ≤ b2) : tnP vx vy wx wy ax ay - tnP vx vy wx wy bx b2 = swT ax ay bx b2 wx wy - swT ax ay bx b2 vx vy := by
  rcases Int.le_total vy wy with c | c
  · exact sw_up hN hab c
  · have := sw_up (noT_r hN) hab c
    rw [tn_r, tn_r (cx := bx)] at this
    omega
/-- round a closed line -/
theorem tel {φ : Nat → Int} : ∀ k, k < n → sm (fun j => φ (aft n j) - φ j) k = φ k - φ 0
  | 0, _ => by rw [sm]; omega
  | k + 1, h => by
    rw [sm, tel k (by omega), show aft n k = k + 1 by unfold aft; rw [if_pos h]]; omega
theorem tel_0 {φ : Nat → Int} : sm (fun j => φ (aft n j) - φ j) n = 0 := by
  cases n with
  | zero => rfl
  | succ k => rw [sm, tel k (by omega), show aft (k + 1) k = 0 by unfold aft; rw [if_neg (by omega)]]; omega
theorem sm_sub {f g : Nat → Int} : ∀ k, sm (fun j => f j - g j) k = sm f k - sm g k
  | 0 => rfl
  | k + 1 => by rw [sm, sm, sm, sm_sub k]; omega
theorem sm_cl {f g : Nat → Int} : ∀ k, (∀ j, j < k → f j = g j) → sm f k = sm g k
  | 0, _ => rfl
  | k + 1, h => by rw [sm, sm, sm_cl k (fun j hj => h j (by omega)), h k (by omega)]
/-- the turns round both ends are the same -/
theorem wnd (h : ∀ j, j < n → noT ax ay bx b2 (X j) (Y j) (X (aft n j)) (Y (aft n j))) : sm (tnE n X Y ax ay) n = sm (tnE n X Y bx b2) n := by
  rcases Int.le_total ay b2 with c | c
  · have e := sm_cl (f := fun j => tnE n X Y ax ay j - tnE n X Y bx b2 j) (g := fun j => (fun k => swT ax ay bx b2 (X k) (Y k)) (aft n j) - (fun k => swT ax ay bx b2 (X k) (Y k)) j) n (fun j hj => sw_al (h j hj) c)
    rw [sm_sub] at e
    have e0 := e.trans (tel_0 (φ := fun k => swT ax ay bx b2 (X k) (Y k)))
    omega
  · have e := sm_cl (f := fun j => tnE n X Y bx b2 j - tnE n X Y ax ay j) (g := fun j => (fun k => swT bx b2 ax ay (X k) (Y k)) (aft n j) - (fun k => swT bx b2 ax ay (X k) (Y k)) j) n (fun j hj => sw_al (noT_s (h j hj)) c)
    rw [sm_sub] at e
    have e0 := e.trans (tel_0 (φ := fun k => swT bx b2 ax ay (X k) (Y k)))
    omega
end JGS
