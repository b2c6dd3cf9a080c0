set_option maxHeartbeats 4000000 in
set_option maxRecDepth 100000 in
theorem c_L_camAbout (l : Launch) (hlt : l.stackTraces = false) (G : mx_G) (P : mx_P) (a0 : Nat) (p1 : Int32) (a2 : Nat) (σ : mx_S) (r : Int32) (σ' : mx_S) (hf : f_L_camAbout P a0 p1 a2 σ = some (r, σ')) : mxz σ ≤ mpc P → mxu σ ≤ mps P → mx_MW l yL_camAbout cL_camAbout 4 (some .int) [(0, 8, 11, 19), (0, 8, 14, 35)] 8 144 G P [.ref a0, .int p1, .ref a2] σ (some (.int r)) σ' := by
  intro hcap hcau
  refine mx_ofWW (by decide +kernel) hcap hcau (Nat.le_of_ble_eq_true rfl) ?_
  intro p e s m below meth c hx hb hr hml hts hown hlocks hname htb hK hJ ls hl
  have hz0 := hJ.2.1
  have hown : s.vm.findClass RLn = some m.cls := hown
  have hl : lv_has ls 4 [(0, .ref a0), (1, .int p1), (2, .ref a2)] := hl
  unfold f_L_camAbout at hf
  refine lv_aload_n hx hb dL_camAbout_0 rfl (lv_at hl 2 rfl) ?_
  refine lv_iconst (v := 0) hx hb dL_camAbout_1 (by decide) ?_
  refine lv_aload_n hx hb dL_camAbout_2 rfl (lv_at hl 0 rfl) ?_
  refine lv_iload_n hx hb dL_camAbout_3 rfl (lv_at hl 1 rfl) ?_
  obtain ⟨i1, e2, hf⟩ := mb0 hf
  rcases mtry hf with ⟨E, σ5, e4, hf⟩ | ⟨x6, σ3, e4, hf⟩
  · skip
    by_cases c7 : E = "java/lang/IllegalArgumentException"
    · subst c7
      rw [if_pos rfl] at hf
      refine mx_callVC (As := [.int p1]) (rest := [.int (0 : Int32), .ref a2]) hx hb hml hts hown hK hJ rfl rfl (ci := 11) rfl e2 (ct_X11_camAbout l hlt G P a0 p1 σ _ σ5 e4) me_X11_camAbout kw_1616 kw_1617 kw_1615 (Nat.le_of_ble_eq_true rfl) (Nat.le_of_ble_eq_true rfl) rfl hl.1 rfl (Nat.le_of_ble_eq_true rfl) dL_camAbout_4 (by decide) (tableOf []) ⟨0, 8, 11, 19⟩ (tableOf [(0, 8, 14, 35)]) htb (fun w hw => nomatch hw) (by decide) (by decide) kw_999 mx_cast_0 (fun H locs q hJ => ?_)
      refine lv_astore_n (lv' := [(3, .ref q), (0, .ref a0), (1, .int p1), (2, .ref a2)]) hx hb dL_camAbout_11 rfl hl (by decide) rfl (fun ls hl => ?_)
      refine lv_iconst (v := 1) hx hb dL_camAbout_12 (by decide) ?_
      exact my_iret hx hb hr hlocks hJ hf dL_camAbout_13
    rw [if_neg c7] at hf
    by_cases c8 : E = "java/util/NoSuchElementException"
    · subst c8
      rw [if_pos rfl] at hf
      refine mx_callVC (As := [.int p1]) (rest := [.int (0 : Int32), .ref a2]) hx hb hml hts hown hK hJ rfl rfl (ci := 11) rfl e2 (ct_X11_camAbout l hlt G P a0 p1 σ _ σ5 e4) me_X11_camAbout kw_1616 kw_1617 kw_1615 (Nat.le_of_ble_eq_true rfl) (Nat.le_of_ble_eq_true rfl) rfl hl.1 rfl (Nat.le_of_ble_eq_true rfl) dL_camAbout_4 (by decide) (tableOf [(0, 8, 11, 19)]) ⟨0, 8, 14, 35⟩ (tableOf []) htb (by
      intro w hw
      simp only [tableOf, List.map_cons, List.map_nil, List.mem_cons, List.not_mem_nil, or_false] at hw
      rcases hw with rfl
      · exact ⟨by decide, "java/lang/IllegalArgumentException", kw_999, by decide, by decide⟩) (by decide) (by decide) kw_1234 mx_cast_1 (fun H locs q hJ => ?_)
      refine lv_astore_n (lv' := [(3, .ref q), (0, .ref a0), (1, .int p1), (2, .ref a2)]) hx hb dL_camAbout_14 rfl hl (by decide) rfl (fun ls hl => ?_)
      refine lv_iconst (v := 2) hx hb dL_camAbout_15 (by decide) ?_
      exact my_iret hx hb hr hlocks hJ hf dL_camAbout_16
    rw [if_neg c8] at hf
    cases hf
  refine mx_callV (As := [.int p1]) (rest := [.int (0 : Int32), .ref a2]) hx hb hml hts hown hK hJ rfl rfl (ci := 11) rfl e2 (c_X11_camAbout l G P a0 p1 σ x6 σ3 e4) me_X11_camAbout kw_1616 kw_1617 kw_1615 (Nat.le_of_ble_eq_true rfl) (Nat.le_of_ble_eq_true rfl) rfl hl.1 rfl (Nat.le_of_ble_eq_true rfl) dL_camAbout_4 (fun H locs hJ => ?_)
  obtain ⟨σ9, e10, hf⟩ := mb0 hf
  refine mx_sL hx hb hK hJ e10 dL_camAbout_7 (fun H locs hJ => ?_)
  refine lv_goto (tgt := 17) hx hb dL_camAbout_8 (by decide) ?_
  refine lv_iconst (v := 0) hx hb dL_camAbout_17 (by decide) ?_
  exact my_iret hx hb hr hlocks hJ hf dL_camAbout_18
set_option maxHeartbeats 4000000 in
set_option maxRecDepth 100000 in
theorem c_L_corner (l : Launch) (hlt : l.stackTraces = false) (G : mx_G) (P : mx_P) (a0 : Nat) (p1 : Int32) (p2 : Int32) (p3 : Int32) (a4 : Nat) (σ : mx_S) (r : Int32) (σ' : mx_S) (hf : f_L_corner P a0 p1 p2 p3 a4 σ = some (r, σ')) : mxz σ ≤ mpc P → mxu σ ≤ mps P → mx_MW l yL_corner cL_corner 6 (some .int) [(0, 12, 15, 19), (0, 12, 19, 13)] 8 126 G P [.ref a0, .int p1, .int p2, .int p3, .ref a4] σ (some (.int r)) σ' := by
  intro hcap hcau
  refine mx_ofWW (by decide +kernel) hcap hcau (Nat.le_of_ble_eq_true rfl) ?_
  intro p e s m below meth c hx hb hr hml hts hown hlocks hname htb hK hJ ls hl
  have hz0 := hJ.2.1
  have hown : s.vm.findClass RLn = some m.cls := hown
  have hl : lv_has ls 6 [(0, .ref a0), (1, .int p1), (2, .int p2), (3, .int p3), (4, .ref a4)] := hl
  unfold f_L_corner at hf
  refine lv_aload hx hb dL_corner_0 (lv_at hl 4 rfl) ?_
  refine lv_iconst (v := 0) hx hb dL_corner_2 (by decide) ?_
  refine lv_aload_n hx hb dL_corner_3 rfl (lv_at hl 0 rfl) ?_
  refine lv_iload_n hx hb dL_corner_4 rfl (lv_at hl 1 rfl) ?_
  refine lv_iload_n hx hb dL_corner_5 rfl (lv_at hl 2 rfl) ?_
  refine lv_iload_n hx hb dL_corner_6 rfl (lv_at hl 3 rfl) ?_
  obtain ⟨i1, e2, hf⟩ := mb0 hf
  rcases mtry hf with ⟨E, σ5, e4, hf⟩ | ⟨x6, σ3, e4, hf⟩
  · skip
    by_cases c7 : E = "java/lang/IllegalArgumentException"
    · subst c7
      rw [if_pos rfl] at hf
      refine mx_callVC (As := [.int p1, .int p2, .int p3]) (rest := [.int (0 : Int32), .ref a4]) hx hb hml hts hown hK hJ rfl rfl (ci := 11) rfl e2 (ct_X11_corner l hlt G P a0 p1 p2 p3 σ _ σ5 e4) me_X11_corner kw_1639 kw_1640 kw_1638 (Nat.le_of_ble_eq_true rfl) (Nat.le_of_ble_eq_true rfl) rfl hl.1 rfl (Nat.le_of_ble_eq_true rfl) dL_corner_7 (by decide) (tableOf []) ⟨0, 12, 15, 19⟩ (tableOf [(0, 12, 19, 13)]) htb (fun w hw => nomatch hw) (by decide) (by decide) kw_999 mx_cast_0 (fun H locs q hJ => ?_)
      refine lv_astore (lv' := [(5, .ref q), (0, .ref a0), (1, .int p1), (2, .int p2), (3, .int p3), (4, .ref a4)]) hx hb dL_corner_15 hl (by decide) rfl (fun ls hl => ?_)
      refine lv_iconst (v := 1) hx hb dL_corner_17 (by decide) ?_
      exact my_iret hx hb hr hlocks hJ hf dL_corner_18
    rw [if_neg c7] at hf
    by_cases c8 : E = "java/lang/IndexOutOfBoundsException"
    · subst c8
      rw [if_pos rfl] at hf
      refine mx_callVC (As := [.int p1, .int p2, .int p3]) (rest := [.int (0 : Int32), .ref a4]) hx hb hml hts hown hK hJ rfl rfl (ci := 11) rfl e2 (ct_X11_corner l hlt G P a0 p1 p2 p3 σ _ σ5 e4) me_X11_corner kw_1639 kw_1640 kw_1638 (Nat.le_of_ble_eq_true rfl) (Nat.le_of_ble_eq_true rfl) rfl hl.1 rfl (Nat.le_of_ble_eq_true rfl) dL_corner_7 (by decide) (tableOf [(0, 12, 15, 19)]) ⟨0, 12, 19, 13⟩ (tableOf []) htb (by
      intro w hw
      simp only [tableOf, List.map_cons, List.map_nil, List.mem_cons, List.not_mem_nil, or_false] at hw
      rcases hw with rfl
      · exact ⟨by decide, "java/lang/IllegalArgumentException", kw_999, by decide, by decide⟩) (by decide) (by decide) kw_917 mx_cast_3 (fun H locs q hJ => ?_)
      refine lv_astore (lv' := [(5, .ref q), (0, .ref a0), (1, .int p1), (2, .int p2), (3, .int p3), (4, .ref a4)]) hx hb dL_corner_19 hl (by decide) rfl (fun ls hl => ?_)
      refine lv_iconst (v := 2) hx hb dL_corner_21 (by decide) ?_
      exact my_iret hx hb hr hlocks hJ hf dL_corner_22
    rw [if_neg c8] at hf
    cases hf
  refine mx_callV (As := [.int p1, .int p2, .int p3]) (rest := [.int (0 : Int32), .ref a4]) hx hb hml hts hown hK hJ rfl rfl (ci := 11) rfl e2 (c_X11_corner l G P a0 p1 p2 p3 σ x6 σ3 e4) me_X11_corner kw_1639 kw_1640 kw_1638 (Nat.le_of_ble_eq_true rfl) (Nat.le_of_ble_eq_true rfl) rfl hl.1 rfl (Nat.le_of_ble_eq_true rfl) dL_corner_7 (fun H locs hJ => ?_)
  refine lv_i2l hx hb dL_corner_10 rfl ?_
  obtain ⟨σ9, e10, hf⟩ := mb0 hf
  refine mx_sL hx hb hK hJ e10 dL_corner_11 (fun H locs hJ => ?_)
  refine lv_goto (tgt := 23) hx hb dL_corner_12 (by decide) ?_
  refine lv_iconst (v := 0) hx hb dL_corner_23 (by decide) ?_
  exact my_iret hx hb hr hlocks hJ hf dL_corner_24
set_option maxHeartbeats 4000000 in
set_option maxRecDepth 100000 in
theorem c_L_empty (l : Launch) (hlt : l.stackTraces = false) (G : mx_G) (P : mx_P) (a0 : Nat) (p1 : Int32) (σ : mx_S) (r : Int32) (σ' : mx_S) (hf : f_L_empty P a0 p1 σ = some (r, σ')) : mxz σ ≤ mpc P → mxu σ ≤ mps P → mx_MW l yL_empty cL_empty 3 (some .int) [(0, 5, 8, 19)] 8 124 G P [.ref a0, .int p1] σ (some (.int r)) σ' := by
  intro hcap hcau
  refine mx_ofWW (by decide +kernel) hcap hcau (Nat.le_of_ble_eq_true rfl) ?_
  intro p e s m below meth c hx hb hr hml hts hown hlocks hname htb hK hJ ls hl
  have hz0 := hJ.2.1
  have hown : s.vm.findClass RLn = some m.cls := hown
  have hl : lv_has ls 3 [(0, .ref a0), (1, .int p1)] := hl
  unfold f_L_empty at hf
  refine lv_aload_n hx hb dL_empty_0 rfl (lv_at hl 0 rfl) ?_
  refine lv_iload_n hx hb dL_empty_1 rfl (lv_at hl 1 rfl) ?_
  obtain ⟨i1, e2, hf⟩ := mb0 hf
  rcases mtry0 hf with ⟨E, σ5, e4, hf⟩ | ⟨σ3, e4, hf⟩
  · skip
    by_cases c6 : E = "java/lang/IllegalArgumentException"
    · subst c6
      rw [if_pos rfl] at hf
      refine mx_callVC (As := [.int p1]) (rest := []) hx hb hml hts hown hK hJ rfl rfl (ci := 11) rfl e2 (ct_X11_empty l hlt G P a0 p1 σ _ σ5 e4) me_X11_empty kw_1650 kw_1651 kw_1649 (Nat.le_of_ble_eq_true rfl) (Nat.le_of_ble_eq_true rfl) rfl hl.1 rfl (Nat.le_of_ble_eq_true rfl) dL_empty_2 (by decide) (tableOf []) ⟨0, 5, 8, 19⟩ (tableOf []) htb (fun w hw => nomatch hw) (by decide) (by decide) kw_999 mx_cast_0 (fun H locs q hJ => ?_)
      refine lv_astore_n (lv' := [(2, .ref q), (0, .ref a0), (1, .int p1)]) hx hb dL_empty_8 rfl hl (by decide) rfl (fun ls hl => ?_)
      refine lv_iconst (v := 1) hx hb dL_empty_9 (by decide) ?_
      exact my_iret hx hb hr hlocks hJ hf dL_empty_10
    rw [if_neg c6] at hf
    cases hf
  refine mx_callV (As := [.int p1]) (rest := []) hx hb hml hts hown hK hJ rfl rfl (ci := 11) rfl e2 (c_X11_empty l G P a0 p1 σ σ3 e4) me_X11_empty kw_1650 kw_1651 kw_1649 (Nat.le_of_ble_eq_true rfl) (Nat.le_of_ble_eq_true rfl) rfl hl.1 rfl (Nat.le_of_ble_eq_true rfl) dL_empty_2 (fun H locs hJ => ?_)
  refine lv_goto (tgt := 11) hx hb dL_empty_5 (by decide) ?_
  refine lv_iconst (v := 0) hx hb dL_empty_11 (by decide) ?_
  exact my_iret hx hb hr hlocks hJ hf dL_empty_12
set_option maxHeartbeats 4000000 in
set_option maxRecDepth 100000 in
theorem c_L_plate (l : Launch) (hlt : l.stackTraces = false) (G : mx_G) (P : mx_P) (a0 : Nat) (p1 : Int32) (p2 : Int32) (a3 : Nat) (σ : mx_S) (r : Int32) (σ' : mx_S) (hf : f_L_plate P a0 p1 p2 a3 σ = some (r, σ')) : mxz σ ≤ mpc P → mxu σ ≤ mps P → mx_MW l yL_plate cL_plate 5 (some .int) [(0, 9, 12, 19), (0, 9, 16, 35)] 8 149 G P [.ref a0, .int p1, .int p2, .ref a3] σ (some (.int r)) σ' := by
  intro hcap hcau
  refine mx_ofWW (by decide +kernel) hcap hcau (Nat.le_of_ble_eq_true rfl) ?_
  intro p e s m below meth c hx hb hr hml hts hown hlocks hname htb hK hJ ls hl
  have hz0 := hJ.2.1
  have hown : s.vm.findClass RLn = some m.cls := hown
  have hl : lv_has ls 5 [(0, .ref a0), (1, .int p1), (2, .int p2), (3, .ref a3)] := hl
  unfold f_L_plate at hf
  refine lv_aload_n hx hb dL_plate_0 rfl (lv_at hl 3 rfl) ?_
  refine lv_iconst (v := 0) hx hb dL_plate_1 (by decide) ?_
  refine lv_aload_n hx hb dL_plate_2 rfl (lv_at hl 0 rfl) ?_
  refine lv_iload_n hx hb dL_plate_3 rfl (lv_at hl 1 rfl) ?_
  refine lv_iload_n hx hb dL_plate_4 rfl (lv_at hl 2 rfl) ?_
  obtain ⟨i1, e2, hf⟩ := mb0 hf
  rcases mtry hf with ⟨E, σ5, e4, hf⟩ | ⟨x6, σ3, e4, hf⟩
  · skip
    by_cases c7 : E = "java/lang/IllegalArgumentException"
    · subst c7
      rw [if_pos rfl] at hf
      refine mx_callVC (As := [.int p1, .int p2]) (rest := [.int (0 : Int32), .ref a3]) hx hb hml hts hown hK hJ rfl rfl (ci := 11) rfl e2 (ct_X11_plate l hlt G P a0 p1 p2 σ _ σ5 e4) me_X11_plate kw_1657 kw_1658 kw_1656 (Nat.le_of_ble_eq_true rfl) (Nat.le_of_ble_eq_true rfl) rfl hl.1 rfl (Nat.le_of_ble_eq_true rfl) dL_plate_5 (by decide) (tableOf []) ⟨0, 9, 12, 19⟩ (tableOf [(0, 9, 16, 35)]) htb (fun w hw => nomatch hw) (by decide) (by decide) kw_999 mx_cast_0 (fun H locs q hJ => ?_)
      refine lv_astore (lv' := [(4, .ref q), (0, .ref a0), (1, .int p1), (2, .int p2), (3, .ref a3)]) hx hb dL_plate_12 hl (by decide) rfl (fun ls hl => ?_)
      refine lv_iconst (v := 1) hx hb dL_plate_14 (by decide) ?_
      exact my_iret hx hb hr hlocks hJ hf dL_plate_15
    rw [if_neg c7] at hf
    by_cases c8 : E = "java/util/NoSuchElementException"
    · subst c8
      rw [if_pos rfl] at hf
      refine mx_callVC (As := [.int p1, .int p2]) (rest := [.int (0 : Int32), .ref a3]) hx hb hml hts hown hK hJ rfl rfl (ci := 11) rfl e2 (ct_X11_plate l hlt G P a0 p1 p2 σ _ σ5 e4) me_X11_plate kw_1657 kw_1658 kw_1656 (Nat.le_of_ble_eq_true rfl) (Nat.le_of_ble_eq_true rfl) rfl hl.1 rfl (Nat.le_of_ble_eq_true rfl) dL_plate_5 (by decide) (tableOf [(0, 9, 12, 19)]) ⟨0, 9, 16, 35⟩ (tableOf []) htb (by
      intro w hw
      simp only [tableOf, List.map_cons, List.map_nil, List.mem_cons, List.not_mem_nil, or_false] at hw
      rcases hw with rfl
      · exact ⟨by decide, "java/lang/IllegalArgumentException", kw_999, by decide, by decide⟩) (by decide) (by decide) kw_1234 mx_cast_1 (fun H locs q hJ => ?_)
      refine lv_astore (lv' := [(4, .ref q), (0, .ref a0), (1, .int p1), (2, .int p2), (3, .ref a3)]) hx hb dL_plate_16 hl (by decide) rfl (fun ls hl => ?_)
      refine lv_iconst (v := 2) hx hb dL_plate_18 (by decide) ?_
      exact my_iret hx hb hr hlocks hJ hf dL_plate_19
    rw [if_neg c8] at hf
    cases hf
  refine mx_callV (As := [.int p1, .int p2]) (rest := [.int (0 : Int32), .ref a3]) hx hb hml hts hown hK hJ rfl rfl (ci := 11) rfl e2 (c_X11_plate l G P a0 p1 p2 σ x6 σ3 e4) me_X11_plate kw_1657 kw_1658 kw_1656 (Nat.le_of_ble_eq_true rfl) (Nat.le_of_ble_eq_true rfl) rfl hl.1 rfl (Nat.le_of_ble_eq_true rfl) dL_plate_5 (fun H locs hJ => ?_)
  obtain ⟨σ9, e10, hf⟩ := mb0 hf
  refine mx_sL hx hb hK hJ e10 dL_plate_8 (fun H locs hJ => ?_)
  refine lv_goto (tgt := 20) hx hb dL_plate_9 (by decide) ?_
  refine lv_iconst (v := 0) hx hb dL_plate_20 (by decide) ?_
  exact my_iret hx hb hr hlocks hJ hf dL_plate_21
set_option maxHeartbeats 4000000 in
set_option maxRecDepth 100000 in
theorem c_L_inside (l : Launch) (hlt : l.stackTraces = false) (G : mx_G) (P : mx_P) (a0 : Nat) (p1 : Int32) (p2 : Int32) (p3 : Int32) (a4 : Nat) (σ : mx_S) (r : Int32) (σ' : mx_S) (hf : f_L_inside P a0 p1 p2 p3 a4 σ = some (r, σ')) : mxz σ ≤ mpc P → mxu σ ≤ mps P → mx_MW l yL_inside cL_inside 6 (some .int) [(0, 12, 15, 19), (0, 12, 19, 35)] 8 126 G P [.ref a0, .int p1, .int p2, .int p3, .ref a4] σ (some (.int r)) σ' := by
  intro hcap hcau
  refine mx_ofWW (by decide +kernel) hcap hcau (Nat.le_of_ble_eq_true rfl) ?_
  intro p e s m below meth c hx hb hr hml hts hown hlocks hname htb hK hJ ls hl
  have hz0 := hJ.2.1
  have hown : s.vm.findClass RLn = some m.cls := hown
  have hl : lv_has ls 6 [(0, .ref a0), (1, .int p1), (2, .int p2), (3, .int p3), (4, .ref a4)] := hl
  unfold f_L_inside at hf
  refine lv_aload hx hb dL_inside_0 (lv_at hl 4 rfl) ?_
  refine lv_iconst (v := 0) hx hb dL_inside_2 (by decide) ?_
  refine lv_aload_n hx hb dL_inside_3 rfl (lv_at hl 0 rfl) ?_
  refine lv_iload_n hx hb dL_inside_4 rfl (lv_at hl 1 rfl) ?_
  refine lv_iload_n hx hb dL_inside_5 rfl (lv_at hl 2 rfl) ?_
  refine lv_iload_n hx hb dL_inside_6 rfl (lv_at hl 3 rfl) ?_
  obtain ⟨i1, e2, hf⟩ := mb0 hf
  rcases mtry hf with ⟨E, σ5, e4, hf⟩ | ⟨x6, σ3, e4, hf⟩
  · skip
    by_cases c7 : E = "java/lang/IllegalArgumentException"
    · subst c7
      rw [if_pos rfl] at hf
      refine mx_callVC (As := [.int p1, .int p2, .int p3]) (rest := [.int (0 : Int32), .ref a4]) hx hb hml hts hown hK hJ rfl rfl (ci := 11) rfl e2 (ct_X11_inside l hlt G P a0 p1 p2 p3 σ _ σ5 e4) me_X11_inside kw_1710 kw_1711 kw_1709 (Nat.le_of_ble_eq_true rfl) (Nat.le_of_ble_eq_true rfl) rfl hl.1 rfl (Nat.le_of_ble_eq_true rfl) dL_inside_7 (by decide) (tableOf []) ⟨0, 12, 15, 19⟩ (tableOf [(0, 12, 19, 35)]) htb (fun w hw => nomatch hw) (by decide) (by decide) kw_999 mx_cast_0 (fun H locs q hJ => ?_)
      refine lv_astore (lv' := [(5, .ref q), (0, .ref a0), (1, .int p1), (2, .int p2), (3, .int p3), (4, .ref a4)]) hx hb dL_inside_15 hl (by decide) rfl (fun ls hl => ?_)
      refine lv_iconst (v := 1) hx hb dL_inside_17 (by decide) ?_
      exact my_iret hx hb hr hlocks hJ hf dL_inside_18
    rw [if_neg c7] at hf
    by_cases c8 : E = "java/util/NoSuchElementException"
    · subst c8
      rw [if_pos rfl] at hf
      refine mx_callVC (As := [.int p1, .int p2, .int p3]) (rest := [.int (0 : Int32), .ref a4]) hx hb hml hts hown hK hJ rfl rfl (ci := 11) rfl e2 (ct_X11_inside l hlt G P a0 p1 p2 p3 σ _ σ5 e4) me_X11_inside kw_1710 kw_1711 kw_1709 (Nat.le_of_ble_eq_true rfl) (Nat.le_of_ble_eq_true rfl) rfl hl.1 rfl (Nat.le_of_ble_eq_true rfl) dL_inside_7 (by decide) (tableOf [(0, 12, 15, 19)]) ⟨0, 12, 19, 35⟩ (tableOf []) htb (by
      intro w hw
      simp only [tableOf, List.map_cons, List.map_nil, List.mem_cons, List.not_mem_nil, or_false] at hw
      rcases hw with rfl
      · exact ⟨by decide, "java/lang/IllegalArgumentException", kw_999, by decide, by decide⟩) (by decide) (by decide) kw_1234 mx_cast_1 (fun H locs q hJ => ?_)
      refine lv_astore (lv' := [(5, .ref q), (0, .ref a0), (1, .int p1), (2, .int p2), (3, .int p3), (4, .ref a4)]) hx hb dL_inside_19 hl (by decide) rfl (fun ls hl => ?_)
      refine lv_iconst (v := 2) hx hb dL_inside_21 (by decide) ?_
      exact my_iret hx hb hr hlocks hJ hf dL_inside_22
    rw [if_neg c8] at hf
    cases hf
  refine mx_callV (As := [.int p1, .int p2, .int p3]) (rest := [.int (0 : Int32), .ref a4]) hx hb hml hts hown hK hJ rfl rfl (ci := 11) rfl e2 (c_X11_inside l G P a0 p1 p2 p3 σ x6 σ3 e4) me_X11_inside kw_1710 kw_1711 kw_1709 (Nat.le_of_ble_eq_true rfl) (Nat.le_of_ble_eq_true rfl) rfl hl.1 rfl (Nat.le_of_ble_eq_true rfl) dL_inside_7 (fun H locs hJ => ?_)
  refine lv_i2l hx hb dL_inside_10 rfl ?_
  obtain ⟨σ9, e10, hf⟩ := mb0 hf
  refine mx_sL hx hb hK hJ e10 dL_inside_11 (fun H locs hJ => ?_)
  refine lv_goto (tgt := 23) hx hb dL_inside_12 (by decide) ?_
  refine lv_iconst (v := 0) hx hb dL_inside_23 (by decide) ?_
  exact my_iret hx hb hr hlocks hJ hf dL_inside_24
set_option maxHeartbeats 4000000 in
set_option maxRecDepth 100000 in
theorem c_L_distance (l : Launch) (hlt : l.stackTraces = false) (G : mx_G) (P : mx_P) (a0 : Nat) (p1 : Int32) (p2 : Int32) (p3 : Int32) (a4 : Nat) (σ : mx_S) (r : Int32) (σ' : mx_S) (hf : f_L_distance P a0 p1 p2 p3 a4 σ = some (r, σ')) : mxz σ ≤ mpc P → mxu σ ≤ mps P → mx_MW l yL_distance cL_distance 6 (some .int) [(0, 11, 14, 19), (0, 11, 18, 35)] 8 217 G P [.ref a0, .int p1, .int p2, .int p3, .ref a4] σ (some (.int r)) σ' := by
  intro hcap hcau
  refine mx_ofWW (by decide +kernel) hcap hcau (Nat.le_of_ble_eq_true rfl) ?_
  intro p e s m below meth c hx hb hr hml hts hown hlocks hname htb hK hJ ls hl
  have hz0 := hJ.2.1
  have hown : s.vm.findClass RLn = some m.cls := hown
  have hl : lv_has ls 6 [(0, .ref a0), (1, .int p1), (2, .int p2), (3, .int p3), (4, .ref a4)] := hl
  unfold f_L_distance at hf
  refine lv_aload hx hb dL_distance_0 (lv_at hl 4 rfl) ?_
  refine lv_iconst (v := 0) hx hb dL_distance_2 (by decide) ?_
  refine lv_aload_n hx hb dL_distance_3 rfl (lv_at hl 0 rfl) ?_
  refine lv_iload_n hx hb dL_distance_4 rfl (lv_at hl 1 rfl) ?_
  refine lv_iload_n hx hb dL_distance_5 rfl (lv_at hl 2 rfl) ?_
  refine lv_iload_n hx hb dL_distance_6 rfl (lv_at hl 3 rfl) ?_
  obtain ⟨i1, e2, hf⟩ := mb0 hf
  rcases mtry hf with ⟨E, σ5, e4, hf⟩ | ⟨x6, σ3, e4, hf⟩
  · skip
    by_cases c7 : E = "java/lang/IllegalArgumentException"
    · subst c7
      rw [if_pos rfl] at hf
      refine mx_callVC (As := [.int p1, .int p2, .int p3]) (rest := [.int (0 : Int32), .ref a4]) hx hb hml hts hown hK hJ rfl rfl (ci := 11) rfl e2 (ct_X11_distance l hlt G P a0 p1 p2 p3 σ _ σ5 e4) me_X11_distance kw_1721 kw_1722 kw_1720 (Nat.le_of_ble_eq_true rfl) (Nat.le_of_ble_eq_true rfl) rfl hl.1 rfl (Nat.le_of_ble_eq_true rfl) dL_distance_7 (by decide) (tableOf []) ⟨0, 11, 14, 19⟩ (tableOf [(0, 11, 18, 35)]) htb (fun w hw => nomatch hw) (by decide) (by decide) kw_999 mx_cast_0 (fun H locs q hJ => ?_)
      refine lv_astore (lv' := [(5, .ref q), (0, .ref a0), (1, .int p1), (2, .int p2), (3, .int p3), (4, .ref a4)]) hx hb dL_distance_14 hl (by decide) rfl (fun ls hl => ?_)
      refine lv_iconst (v := 1) hx hb dL_distance_16 (by decide) ?_
      exact my_iret hx hb hr hlocks hJ hf dL_distance_17
    rw [if_neg c7] at hf
    by_cases c8 : E = "java/util/NoSuchElementException"
    · subst c8
      rw [if_pos rfl] at hf
      refine mx_callVC (As := [.int p1, .int p2, .int p3]) (rest := [.int (0 : Int32), .ref a4]) hx hb hml hts hown hK hJ rfl rfl (ci := 11) rfl e2 (ct_X11_distance l hlt G P a0 p1 p2 p3 σ _ σ5 e4) me_X11_distance kw_1721 kw_1722 kw_1720 (Nat.le_of_ble_eq_true rfl) (Nat.le_of_ble_eq_true rfl) rfl hl.1 rfl (Nat.le_of_ble_eq_true rfl) dL_distance_7 (by decide) (tableOf [(0, 11, 14, 19)]) ⟨0, 11, 18, 35⟩ (tableOf []) htb (by
      intro w hw
      simp only [tableOf, List.map_cons, List.map_nil, List.mem_cons, List.not_mem_nil, or_false] at hw
      rcases hw with rfl
      · exact ⟨by decide, "java/lang/IllegalArgumentException", kw_999, by decide, by decide⟩) (by decide) (by decide) kw_1234 mx_cast_1 (fun H locs q hJ => ?_)
      refine lv_astore (lv' := [(5, .ref q), (0, .ref a0), (1, .int p1), (2, .int p2), (3, .int p3), (4, .ref a4)]) hx hb dL_distance_18 hl (by decide) rfl (fun ls hl => ?_)
      refine lv_iconst (v := 2) hx hb dL_distance_20 (by decide) ?_
      exact my_iret hx hb hr hlocks hJ hf dL_distance_21
    rw [if_neg c8] at hf
    cases hf
  refine mx_callV (As := [.int p1, .int p2, .int p3]) (rest := [.int (0 : Int32), .ref a4]) hx hb hml hts hown hK hJ rfl rfl (ci := 11) rfl e2 (c_X11_distance l G P a0 p1 p2 p3 σ x6 σ3 e4) me_X11_distance kw_1721 kw_1722 kw_1720 (Nat.le_of_ble_eq_true rfl) (Nat.le_of_ble_eq_true rfl) rfl hl.1 rfl (Nat.le_of_ble_eq_true rfl) dL_distance_7 (fun H locs hJ => ?_)
  obtain ⟨σ9, e10, hf⟩ := mb0 hf
  refine mx_sL hx hb hK hJ e10 dL_distance_10 (fun H locs hJ => ?_)
  refine lv_goto (tgt := 22) hx hb dL_distance_11 (by decide) ?_
  refine lv_iconst (v := 0) hx hb dL_distance_22 (by decide) ?_
  exact my_iret hx hb hr hlocks hJ hf dL_distance_23
set_option maxHeartbeats 4000000 in
set_option maxRecDepth 100000 in
theorem c_L_kinds (l : Launch) (hlt : l.stackTraces = false) (G : mx_G) (P : mx_P) (a0 : Nat) (p1 : Int32) (p2 : Int32) (a3 : Nat) (σ : mx_S) (r : Int32) (σ' : mx_S) (hf : f_L_kinds P a0 p1 p2 a3 σ = some (r, σ')) : mxz σ ≤ mpc P → mxu σ ≤ mps P → mx_MW l yL_kinds cL_kinds 5 (some .int) [(0, 10, 13, 19)] 8 125 G P [.ref a0, .int p1, .int p2, .ref a3] σ (some (.int r)) σ' := by
  intro hcap hcau
  refine mx_ofWW (by decide +kernel) hcap hcau (Nat.le_of_ble_eq_true rfl) ?_
  intro p e s m below meth c hx hb hr hml hts hown hlocks hname htb hK hJ ls hl
  have hz0 := hJ.2.1
  have hown : s.vm.findClass RLn = some m.cls := hown
  have hl : lv_has ls 5 [(0, .ref a0), (1, .int p1), (2, .int p2), (3, .ref a3)] := hl
  unfold f_L_kinds at hf
  refine lv_aload_n hx hb dL_kinds_0 rfl (lv_at hl 3 rfl) ?_
  refine lv_iconst (v := 0) hx hb dL_kinds_1 (by decide) ?_
  refine lv_aload_n hx hb dL_kinds_2 rfl (lv_at hl 0 rfl) ?_
  refine lv_iload_n hx hb dL_kinds_3 rfl (lv_at hl 1 rfl) ?_
  refine lv_iload_n hx hb dL_kinds_4 rfl (lv_at hl 2 rfl) ?_
  obtain ⟨i1, e2, hf⟩ := mb0 hf
  rcases mtry hf with ⟨E, σ5, e4, hf⟩ | ⟨x6, σ3, e4, hf⟩
  · skip
    by_cases c7 : E = "java/lang/IllegalArgumentException"
    · subst c7
      rw [if_pos rfl] at hf
      refine mx_callVC (As := [.int p1, .int p2]) (rest := [.int (0 : Int32), .ref a3]) hx hb hml hts hown hK hJ rfl rfl (ci := 11) rfl e2 (ct_X11_kinds l hlt G P a0 p1 p2 σ _ σ5 e4) me_X11_kinds kw_1745 kw_1746 kw_1744 (Nat.le_of_ble_eq_true rfl) (Nat.le_of_ble_eq_true rfl) rfl hl.1 rfl (Nat.le_of_ble_eq_true rfl) dL_kinds_5 (by decide) (tableOf []) ⟨0, 10, 13, 19⟩ (tableOf []) htb (fun w hw => nomatch hw) (by decide) (by decide) kw_999 mx_cast_0 (fun H locs q hJ => ?_)
      refine lv_astore (lv' := [(4, .ref q), (0, .ref a0), (1, .int p1), (2, .int p2), (3, .ref a3)]) hx hb dL_kinds_13 hl (by decide) rfl (fun ls hl => ?_)
      refine lv_iconst (v := 1) hx hb dL_kinds_15 (by decide) ?_
      exact my_iret hx hb hr hlocks hJ hf dL_kinds_16
    rw [if_neg c7] at hf
    cases hf
  refine mx_callV (As := [.int p1, .int p2]) (rest := [.int (0 : Int32), .ref a3]) hx hb hml hts hown hK hJ rfl rfl (ci := 11) rfl e2 (c_X11_kinds l G P a0 p1 p2 σ x6 σ3 e4) me_X11_kinds kw_1745 kw_1746 kw_1744 (Nat.le_of_ble_eq_true rfl) (Nat.le_of_ble_eq_true rfl) rfl hl.1 rfl (Nat.le_of_ble_eq_true rfl) dL_kinds_5 (fun H locs hJ => ?_)
  refine lv_i2l hx hb dL_kinds_8 rfl ?_
  obtain ⟨σ8, e9, hf⟩ := mb0 hf
  refine mx_sL hx hb hK hJ e9 dL_kinds_9 (fun H locs hJ => ?_)
  refine lv_goto (tgt := 17) hx hb dL_kinds_10 (by decide) ?_
  refine lv_iconst (v := 0) hx hb dL_kinds_17 (by decide) ?_
  exact my_iret hx hb hr hlocks hJ hf dL_kinds_18
set_option maxHeartbeats 4000000 in
set_option maxRecDepth 100000 in
theorem c_L_kind (l : Launch) (hlt : l.stackTraces = false) (G : mx_G) (P : mx_P) (a0 : Nat) (p1 : Int32) (a2 : Nat) (σ : mx_S) (r : Int32) (σ' : mx_S) (hf : f_L_kind P a0 p1 a2 σ = some (r, σ')) : mxz σ ≤ mpc P → mxu σ ≤ mps P → mx_MW l yL_kind cL_kind 4 (some .int) [(0, 9, 12, 35)] 8 122 G P [.ref a0, .int p1, .ref a2] σ (some (.int r)) σ' := by
  intro hcap hcau
  refine mx_ofWW (by decide +kernel) hcap hcau (Nat.le_of_ble_eq_true rfl) ?_
  intro p e s m below meth c hx hb hr hml hts hown hlocks hname htb hK hJ ls hl
  have hz0 := hJ.2.1
  have hown : s.vm.findClass RLn = some m.cls := hown
  have hl : lv_has ls 4 [(0, .ref a0), (1, .int p1), (2, .ref a2)] := hl
  unfold f_L_kind at hf
  refine lv_aload_n hx hb dL_kind_0 rfl (lv_at hl 2 rfl) ?_
  refine lv_iconst (v := 0) hx hb dL_kind_1 (by decide) ?_
  refine lv_aload_n hx hb dL_kind_2 rfl (lv_at hl 0 rfl) ?_
  refine lv_iload_n hx hb dL_kind_3 rfl (lv_at hl 1 rfl) ?_
  obtain ⟨i1, e2, hf⟩ := mb0 hf
  rcases mtry hf with ⟨E, σ5, e4, hf⟩ | ⟨x6, σ3, e4, hf⟩
  · skip
    by_cases c7 : E = "java/util/NoSuchElementException"
    · subst c7
      rw [if_pos rfl] at hf
      refine mx_callVC (As := [.int p1]) (rest := [.int (0 : Int32), .ref a2]) hx hb hml hts hown hK hJ rfl rfl (ci := 11) rfl e2 (ct_X11_kind l hlt G P a0 p1 σ _ σ5 e4) me_X11_kind kw_1795 kw_1796 kw_1794 (Nat.le_of_ble_eq_true rfl) (Nat.le_of_ble_eq_true rfl) rfl hl.1 rfl (Nat.le_of_ble_eq_true rfl) dL_kind_4 (by decide) (tableOf []) ⟨0, 9, 12, 35⟩ (tableOf []) htb (fun w hw => nomatch hw) (by decide) (by decide) kw_1234 mx_cast_1 (fun H locs q hJ => ?_)
      refine lv_astore_n (lv' := [(3, .ref q), (0, .ref a0), (1, .int p1), (2, .ref a2)]) hx hb dL_kind_12 rfl hl (by decide) rfl (fun ls hl => ?_)
      refine lv_iconst (v := 1) hx hb dL_kind_13 (by decide) ?_
      exact my_iret hx hb hr hlocks hJ hf dL_kind_14
    rw [if_neg c7] at hf
    cases hf
  refine mx_callV (As := [.int p1]) (rest := [.int (0 : Int32), .ref a2]) hx hb hml hts hown hK hJ rfl rfl (ci := 11) rfl e2 (c_X11_kind l G P a0 p1 σ x6 σ3 e4) me_X11_kind kw_1795 kw_1796 kw_1794 (Nat.le_of_ble_eq_true rfl) (Nat.le_of_ble_eq_true rfl) rfl hl.1 rfl (Nat.le_of_ble_eq_true rfl) dL_kind_4 (fun H locs hJ => ?_)
  refine lv_i2l hx hb dL_kind_7 rfl ?_
  obtain ⟨σ8, e9, hf⟩ := mb0 hf
  refine mx_sL hx hb hK hJ e9 dL_kind_8 (fun H locs hJ => ?_)
  refine lv_goto (tgt := 15) hx hb dL_kind_9 (by decide) ?_
  refine lv_iconst (v := 0) hx hb dL_kind_15 (by decide) ?_
  exact my_iret hx hb hr hlocks hJ hf dL_kind_16
set_option maxHeartbeats 4000000 in
set_option maxRecDepth 100000 in
theorem c_L_drive (l : Launch) (hlt : l.stackTraces = false) (G : mx_G) (P : mx_P) (a0 : Nat) (a1 : Nat) (σ : mx_S) (r : Int32) (σ' : mx_S) (hf : f_L_drive P a0 a1 σ = some (r, σ')) : mxz σ ≤ mpc P → mxu σ ≤ mps P → mx_MW l yL_drive cL_drive 3 (some .int) [(0, 8, 11, 25)] 9 206 G P [.ref a0, .ref a1] σ (some (.int r)) σ' := by
  intro hcap hcau
  refine mx_ofWW (by decide +kernel) hcap hcau (Nat.le_of_ble_eq_true rfl) ?_
  intro p e s m below meth c hx hb hr hml hts hown hlocks hname htb hK hJ ls hl
  have hz0 := hJ.2.1
  have hown : s.vm.findClass RLn = some m.cls := hown
  have hl : lv_has ls 3 [(0, .ref a0), (1, .ref a1)] := hl
  unfold f_L_drive at hf
  refine lv_aload_n hx hb dL_drive_0 rfl (lv_at hl 1 rfl) ?_
  refine lv_iconst (v := 0) hx hb dL_drive_1 (by decide) ?_
  refine lv_aload_n hx hb dL_drive_2 rfl (lv_at hl 0 rfl) ?_
  obtain ⟨i1, e2, hf⟩ := mb0 hf
  rcases mtry hf with ⟨E, σ5, e4, hf⟩ | ⟨x6, σ3, e4, hf⟩
  · skip
    by_cases c7 : E = "java/lang/UnsupportedOperationException"
    · subst c7
      rw [if_pos rfl] at hf
      refine mx_callVC (As := []) (rest := [.int (0 : Int32), .ref a1]) hx hb hml hts hown hK hJ rfl rfl (ci := 11) rfl e2 (ct_X11_drive l hlt G P a0 σ _ σ5 e4) me_X11_drive kw_1802 kw_1803 kw_1801 (Nat.le_of_ble_eq_true rfl) (Nat.le_of_ble_eq_true rfl) rfl hl.1 rfl (Nat.le_of_ble_eq_true rfl) dL_drive_3 (by decide) (tableOf []) ⟨0, 8, 11, 25⟩ (tableOf []) htb (fun w hw => nomatch hw) (by decide) (by decide) kw_1025 mx_cast_4 (fun H locs q hJ => ?_)
      refine lv_astore_n (lv' := [(2, .ref q), (0, .ref a0), (1, .ref a1)]) hx hb dL_drive_11 rfl hl (by decide) rfl (fun ls hl => ?_)
      refine lv_iconst (v := 1) hx hb dL_drive_12 (by decide) ?_
      exact my_iret hx hb hr hlocks hJ hf dL_drive_13
    rw [if_neg c7] at hf
    cases hf
  refine mx_callV (As := []) (rest := [.int (0 : Int32), .ref a1]) hx hb hml hts hown hK hJ rfl rfl (ci := 11) rfl e2 (c_X11_drive l G P a0 σ x6 σ3 e4) me_X11_drive kw_1802 kw_1803 kw_1801 (Nat.le_of_ble_eq_true rfl) (Nat.le_of_ble_eq_true rfl) rfl hl.1 rfl (Nat.le_of_ble_eq_true rfl) dL_drive_3 (fun H locs hJ => ?_)
  refine lv_i2l hx hb dL_drive_6 rfl ?_
  obtain ⟨σ8, e9, hf⟩ := mb0 hf
  refine mx_sL hx hb hK hJ e9 dL_drive_7 (fun H locs hJ => ?_)
  refine lv_goto (tgt := 14) hx hb dL_drive_8 (by decide) ?_
  refine lv_iconst (v := 0) hx hb dL_drive_14 (by decide) ?_
  exact my_iret hx hb hr hlocks hJ hf dL_drive_15
set_option maxHeartbeats 4000000 in
set_option maxRecDepth 100000 in
theorem c_L_event (l : Launch) (hlt : l.stackTraces = false) (G : mx_G) (P : mx_P) (a0 : Nat) (p1 : Int32) (p2 : Int32) (a3 : Nat) (σ : mx_S) (r : Int32) (σ' : mx_S) (hf : f_L_event P a0 p1 p2 a3 σ = some (r, σ')) : mxz σ ≤ mpc P → mxu σ ≤ mps P → mx_MW l yL_event cL_event 5 (some .int) [(0, 10, 13, 19), (0, 10, 17, 35)] 8 125 G P [.ref a0, .int p1, .int p2, .ref a3] σ (some (.int r)) σ' := by
  intro hcap hcau
  refine mx_ofWW (by decide +kernel) hcap hcau (Nat.le_of_ble_eq_true rfl) ?_
  intro p e s m below meth c hx hb hr hml hts hown hlocks hname htb hK hJ ls hl
  have hz0 := hJ.2.1
  have hown : s.vm.findClass RLn = some m.cls := hown
  have hl : lv_has ls 5 [(0, .ref a0), (1, .int p1), (2, .int p2), (3, .ref a3)] := hl
  unfold f_L_event at hf
  refine lv_aload_n hx hb dL_event_0 rfl (lv_at hl 3 rfl) ?_
  refine lv_iconst (v := 0) hx hb dL_event_1 (by decide) ?_
  refine lv_aload_n hx hb dL_event_2 rfl (lv_at hl 0 rfl) ?_
  refine lv_iload_n hx hb dL_event_3 rfl (lv_at hl 1 rfl) ?_
  refine lv_iload_n hx hb dL_event_4 rfl (lv_at hl 2 rfl) ?_
  obtain ⟨i1, e2, hf⟩ := mb0 hf
  rcases mtry hf with ⟨E, σ5, e4, hf⟩ | ⟨x6, σ3, e4, hf⟩
  · skip
    by_cases c7 : E = "java/lang/IllegalArgumentException"
    · subst c7
      rw [if_pos rfl] at hf
      refine mx_callVC (As := [.int p1, .int p2]) (rest := [.int (0 : Int32), .ref a3]) hx hb hml hts hown hK hJ rfl rfl (ci := 11) rfl e2 (ct_X11_event l hlt G P a0 p1 p2 σ _ σ5 e4) me_X11_event kw_1849 kw_1850 kw_1848 (Nat.le_of_ble_eq_true rfl) (Nat.le_of_ble_eq_true rfl) rfl hl.1 rfl (Nat.le_of_ble_eq_true rfl) dL_event_5 (by decide) (tableOf []) ⟨0, 10, 13, 19⟩ (tableOf [(0, 10, 17, 35)]) htb (fun w hw => nomatch hw) (by decide) (by decide) kw_999 mx_cast_0 (fun H locs q hJ => ?_)
      refine lv_astore (lv' := [(4, .ref q), (0, .ref a0), (1, .int p1), (2, .int p2), (3, .ref a3)]) hx hb dL_event_13 hl (by decide) rfl (fun ls hl => ?_)
      refine lv_iconst (v := 1) hx hb dL_event_15 (by decide) ?_
      exact my_iret hx hb hr hlocks hJ hf dL_event_16
    rw [if_neg c7] at hf
    by_cases c8 : E = "java/util/NoSuchElementException"
    · subst c8
      rw [if_pos rfl] at hf
      refine mx_callVC (As := [.int p1, .int p2]) (rest := [.int (0 : Int32), .ref a3]) hx hb hml hts hown hK hJ rfl rfl (ci := 11) rfl e2 (ct_X11_event l hlt G P a0 p1 p2 σ _ σ5 e4) me_X11_event kw_1849 kw_1850 kw_1848 (Nat.le_of_ble_eq_true rfl) (Nat.le_of_ble_eq_true rfl) rfl hl.1 rfl (Nat.le_of_ble_eq_true rfl) dL_event_5 (by decide) (tableOf [(0, 10, 13, 19)]) ⟨0, 10, 17, 35⟩ (tableOf []) htb (by
      intro w hw
      simp only [tableOf, List.map_cons, List.map_nil, List.mem_cons, List.not_mem_nil, or_false] at hw
      rcases hw with rfl
      · exact ⟨by decide, "java/lang/IllegalArgumentException", kw_999, by decide, by decide⟩) (by decide) (by decide) kw_1234 mx_cast_1 (fun H locs q hJ => ?_)
      refine lv_astore (lv' := [(4, .ref q), (0, .ref a0), (1, .int p1), (2, .int p2), (3, .ref a3)]) hx hb dL_event_17 hl (by decide) rfl (fun ls hl => ?_)
      refine lv_iconst (v := 2) hx hb dL_event_19 (by decide) ?_
      exact my_iret hx hb hr hlocks hJ hf dL_event_20
    rw [if_neg c8] at hf
    cases hf
  refine mx_callV (As := [.int p1, .int p2]) (rest := [.int (0 : Int32), .ref a3]) hx hb hml hts hown hK hJ rfl rfl (ci := 11) rfl e2 (c_X11_event l G P a0 p1 p2 σ x6 σ3 e4) me_X11_event kw_1849 kw_1850 kw_1848 (Nat.le_of_ble_eq_true rfl) (Nat.le_of_ble_eq_true rfl) rfl hl.1 rfl (Nat.le_of_ble_eq_true rfl) dL_event_5 (fun H locs hJ => ?_)
  refine lv_i2l hx hb dL_event_8 rfl ?_
  obtain ⟨σ9, e10, hf⟩ := mb0 hf
  refine mx_sL hx hb hK hJ e10 dL_event_9 (fun H locs hJ => ?_)
  refine lv_goto (tgt := 21) hx hb dL_event_10 (by decide) ?_
  refine lv_iconst (v := 0) hx hb dL_event_21 (by decide) ?_
  exact my_iret hx hb hr hlocks hJ hf dL_event_22
