theorem cd_0 : mx_cd 0 TX0 3 := ⟨tyX0_ok, nmX0⟩
theorem kw_36 : Cond.code ⟨"java/lang/Object", "<init>", "()V"⟩ ⟨#[0xb1]⟩ 1 none ∈ mx_tbl := mx_in (List.mem_append_right _ (List.mem_of_getElem? (i := 36) (by decide +kernel))) (by decide +kernel)
theorem kw_483 : Cond.constantLong RX0 20 (-2147483648) ∈ mx_tbl := mx_in (List.mem_append_right _ (List.mem_of_getElem? (i := 483) (by decide +kernel))) (by decide +kernel)
theorem kw_484 : Cond.constantLong RX0 22 (2147483648) ∈ mx_tbl := mx_in (List.mem_append_right _ (List.mem_of_getElem? (i := 484) (by decide +kernel))) (by decide +kernel)
theorem kw_762 : Cond.constantLong RX0 27 (65536) ∈ mx_tbl := mx_in (List.mem_append_right _ (List.mem_of_getElem? (i := 762) (by decide +kernel))) (by decide +kernel)
theorem kw_1047 : Cond.constantLong RX0 35 (-65536) ∈ mx_tbl := mx_in (List.mem_append_right _ (List.mem_of_getElem? (i := 1047) (by decide +kernel))) (by decide +kernel)
theorem wl_0_0 : u_lay RX0 TX0 0 ∈ mx_tbl := mx_in (List.mem_append_right _ (List.mem_of_getElem? (i := 361) (by decide +kernel))) (by decide +kernel)
theorem wl_0_1 : u_lay RX0 TX0 1 ∈ mx_tbl := mx_in (List.mem_append_right _ (List.mem_of_getElem? (i := 363) (by decide +kernel))) (by decide +kernel)
theorem wl_0_2 : u_lay RX0 TX0 2 ∈ mx_tbl := mx_in (List.mem_append_right _ (List.mem_of_getElem? (i := 365) (by decide +kernel))) (by decide +kernel)
theorem wi_0 : ∀ w ∈ u_ws RX0 TX0 3, w ∈ mx_tbl := by
  intro w hw
  obtain ⟨k, hk, rfl⟩ := List.mem_map.mp hw
  have hk := List.mem_range.mp hk
  match k, hk with
  | 0, _ => exact wl_0_0
  | 1, _ => exact wl_0_1
  | 2, _ => exact wl_0_2
  | k + 3, hk => exact absurd hk (by omega)
theorem fd_RX0_13 : mx_fd RX0 13 0 1 RX0 TX0 3 := ⟨rfl, by decide, wi_0, mx_in (List.mem_append_right _ (List.mem_of_getElem? (i := 355) (by decide +kernel))) (by decide +kernel)⟩
theorem fd_RX0_16 : mx_fd RX0 16 0 2 RX0 TX0 3 := ⟨rfl, by decide, wi_0, mx_in (List.mem_append_right _ (List.mem_of_getElem? (i := 357) (by decide +kernel))) (by decide +kernel)⟩
theorem wl_8_0 : u_lay RX8 TX8 0 ∈ mx_tbl := mx_in (List.mem_append_right _ (List.mem_of_getElem? (i := 386) (by decide +kernel))) (by decide +kernel)
theorem wl_8_1 : u_lay RX8 TX8 1 ∈ mx_tbl := mx_in (List.mem_append_right _ (List.mem_of_getElem? (i := 388) (by decide +kernel))) (by decide +kernel)
theorem wi_8 : ∀ w ∈ u_ws RX8 TX8 2, w ∈ mx_tbl := by
  intro w hw
  obtain ⟨k, hk, rfl⟩ := List.mem_map.mp hw
  have hk := List.mem_range.mp hk
  match k, hk with
  | 0, _ => exact wl_8_0
  | 1, _ => exact wl_8_1
  | k + 2, hk => exact absurd hk (by omega)
theorem fd_RX0_51 : mx_fd RX0 51 8 0 RX8 TX8 2 := ⟨rfl, by decide, wi_8, mx_in (List.mem_append_right _ (List.mem_of_getElem? (i := 379) (by decide +kernel))) (by decide +kernel)⟩
theorem fd_RX0_61 : mx_fd RX0 61 8 1 RX8 TX8 2 := ⟨rfl, by decide, wi_8, mx_in (List.mem_append_right _ (List.mem_of_getElem? (i := 384) (by decide +kernel))) (by decide +kernel)⟩
theorem fd_RX0_7 : mx_fd RX0 7 0 0 RX0 TX0 3 := ⟨rfl, by decide, wi_0, mx_in (List.mem_append_right _ (List.mem_of_getElem? (i := 352) (by decide +kernel))) (by decide +kernel)⟩
theorem ht_0_0 : mx_ty 0 0 = .long := rfl
theorem ht_0_1 : mx_ty 0 1 = .long := rfl
theorem ht_0_2 : mx_ty 0 2 = .boolean := rfl
theorem hv_0_0 : ∀ x y r, mx_val (mx_ty 0 0) x y r = .long y := fun _ _ _ => rfl
theorem hv_0_1 : ∀ x y r, mx_val (mx_ty 0 1) x y r = .long y := fun _ _ _ => rfl
theorem hv_0_2 : ∀ x y r, mx_val (mx_ty 0 2) x y r = .int x := fun _ _ _ => rfl
theorem hv_8_0 : ∀ x y r, mx_val (mx_ty 8 0) x y r = va_rf r := fun _ _ _ => rfl
theorem hv_8_1 : ∀ x y r, mx_val (mx_ty 8 1) x y r = va_rf r := fun _ _ _ => rfl
theorem kw_705 : Cond.instanceMethod yX0_addProduct ∈ mx_tbl := mx_in (List.mem_append_right _ (List.mem_of_getElem? (i := 705) (by decide +kernel))) (by decide +kernel)
theorem kw_742 : Cond.instanceMethod yX0_addSquare ∈ mx_tbl := mx_in (List.mem_append_right _ (List.mem_of_getElem? (i := 742) (by decide +kernel))) (by decide +kernel)
theorem kw_480 : Cond.instanceMethod yX0_keep ∈ mx_tbl := mx_in (List.mem_append_right _ (List.mem_of_getElem? (i := 480) (by decide +kernel))) (by decide +kernel)
theorem kw_671 : Cond.instanceMethod yX0_shut ∈ mx_tbl := mx_in (List.mem_append_right _ (List.mem_of_getElem? (i := 671) (by decide +kernel))) (by decide +kernel)
theorem kw_35 : Cond.instanceMethod ⟨"java/lang/Object", "<init>", "()V"⟩ ∈ mx_tbl := mx_in (List.mem_append_right _ (List.mem_of_getElem? (i := 35) (by decide +kernel))) (by decide +kernel)
theorem kw_757 : Cond.code yJ9_floorDiv_f86c9 cJ9_floorDiv_f86c9 6 (some .long) ∈ mx_tbl := mx_in (List.mem_append_right _ (List.mem_of_getElem? (i := 757) (by decide +kernel))) (by decide +kernel)
theorem kw_19 : Cond.initialized RJ9 ∈ mx_tbl := mx_in (List.mem_append_right _ (List.mem_of_getElem? (i := 19) (by decide +kernel))) (by decide +kernel)
theorem me_J9_floorDiv_f86c9 : mx_me yJ9_floorDiv_f86c9 cJ9_floorDiv_f86c9 6 (some .long) 2 := ⟨kw_757, kw_19, by decide +kernel, by decide +kernel⟩
theorem kw_713 : Cond.code yJ9_max_f86c9 cJ9_max_f86c9 4 (some .long) ∈ mx_tbl := mx_in (List.mem_append_right _ (List.mem_of_getElem? (i := 713) (by decide +kernel))) (by decide +kernel)
theorem me_J9_max_f86c9 : mx_me yJ9_max_f86c9 cJ9_max_f86c9 4 (some .long) 2 := ⟨kw_713, kw_19, by decide +kernel, by decide +kernel⟩
theorem kw_710 : Cond.code yJ9_min_f86c9 cJ9_min_f86c9 4 (some .long) ∈ mx_tbl := mx_in (List.mem_append_right _ (List.mem_of_getElem? (i := 710) (by decide +kernel))) (by decide +kernel)
theorem me_J9_min_f86c9 : mx_me yJ9_min_f86c9 cJ9_min_f86c9 4 (some .long) 2 := ⟨kw_710, kw_19, by decide +kernel, by decide +kernel⟩
theorem kw_707 : Cond.code yX0_addProduct cX0_addProduct 16 none ∈ mx_tbl := mx_in (List.mem_append_right _ (List.mem_of_getElem? (i := 707) (by decide +kernel))) (by decide +kernel)
theorem kw_10 : Cond.initialized RX0 ∈ mx_tbl := mx_in (List.mem_append_right _ (List.mem_of_getElem? (i := 10) (by decide +kernel))) (by decide +kernel)
theorem me_X0_addProduct : mx_me yX0_addProduct cX0_addProduct 16 none 3 := ⟨kw_707, kw_10, by decide +kernel, by decide +kernel⟩
theorem kw_744 : Cond.code yX0_addSquare cX0_addSquare 10 none ∈ mx_tbl := mx_in (List.mem_append_right _ (List.mem_of_getElem? (i := 744) (by decide +kernel))) (by decide +kernel)
theorem me_X0_addSquare : mx_me yX0_addSquare cX0_addSquare 10 none 1 := ⟨kw_744, kw_10, by decide +kernel, by decide +kernel⟩
theorem kw_482 : Cond.code yX0_keep cX0_keep 5 none ∈ mx_tbl := mx_in (List.mem_append_right _ (List.mem_of_getElem? (i := 482) (by decide +kernel))) (by decide +kernel)
theorem me_X0_keep : mx_me yX0_keep cX0_keep 5 none 2 := ⟨kw_482, kw_10, by decide +kernel, by decide +kernel⟩
theorem kw_775 : Cond.code yX0_rootBelow cX0_rootBelow 7 (some .long) ∈ mx_tbl := mx_in (List.mem_append_right _ (List.mem_of_getElem? (i := 775) (by decide +kernel))) (by decide +kernel)
theorem me_X0_rootBelow : mx_me yX0_rootBelow cX0_rootBelow 7 (some .long) 1 := ⟨kw_775, kw_10, by decide +kernel, by decide +kernel⟩
theorem kw_673 : Cond.code yX0_shut cX0_shut 1 none ∈ mx_tbl := mx_in (List.mem_append_right _ (List.mem_of_getElem? (i := 673) (by decide +kernel))) (by decide +kernel)
theorem me_X0_shut : mx_me yX0_shut cX0_shut 1 none 0 := ⟨kw_673, kw_10, by decide +kernel, by decide +kernel⟩
theorem kw_351 : Cond.methodLink RX0 1 ⟨"java/lang/Object", "<init>", "()V"⟩ ∈ mx_tbl := mx_in (List.mem_append_right _ (List.mem_of_getElem? (i := 351) (by decide +kernel))) (by decide +kernel)
theorem kw_690 : Cond.methodLink RX0 24 yX0_shut ∈ mx_tbl := mx_in (List.mem_append_right _ (List.mem_of_getElem? (i := 690) (by decide +kernel))) (by decide +kernel)
theorem kw_755 : Cond.methodLink RX0 29 yJ9_floorDiv_f86c9 ∈ mx_tbl := mx_in (List.mem_append_right _ (List.mem_of_getElem? (i := 755) (by decide +kernel))) (by decide +kernel)
theorem kw_691 : Cond.methodLink RX0 37 yX0_keep ∈ mx_tbl := mx_in (List.mem_append_right _ (List.mem_of_getElem? (i := 691) (by decide +kernel))) (by decide +kernel)
theorem kw_708 : Cond.methodLink RX0 41 yJ9_min_f86c9 ∈ mx_tbl := mx_in (List.mem_append_right _ (List.mem_of_getElem? (i := 708) (by decide +kernel))) (by decide +kernel)
theorem kw_711 : Cond.methodLink RX0 44 yJ9_max_f86c9 ∈ mx_tbl := mx_in (List.mem_append_right _ (List.mem_of_getElem? (i := 711) (by decide +kernel))) (by decide +kernel)
theorem kw_773 : Cond.methodLink RX0 47 yX0_rootBelow ∈ mx_tbl := mx_in (List.mem_append_right _ (List.mem_of_getElem? (i := 773) (by decide +kernel))) (by decide +kernel)
theorem kw_741 : Cond.methodLink RX0 57 yX0_addSquare ∈ mx_tbl := mx_in (List.mem_append_right _ (List.mem_of_getElem? (i := 741) (by decide +kernel))) (by decide +kernel)
theorem kw_792 : Cond.methodLink RX0 64 yX0_addProduct ∈ mx_tbl := mx_in (List.mem_append_right _ (List.mem_of_getElem? (i := 792) (by decide +kernel))) (by decide +kernel)
theorem kw_706 : Cond.selects RX0 yX0_addProduct yX0_addProduct ∈ mx_tbl := mx_in (List.mem_append_right _ (List.mem_of_getElem? (i := 706) (by decide +kernel))) (by decide +kernel)
theorem kw_743 : Cond.selects RX0 yX0_addSquare yX0_addSquare ∈ mx_tbl := mx_in (List.mem_append_right _ (List.mem_of_getElem? (i := 743) (by decide +kernel))) (by decide +kernel)
theorem kw_481 : Cond.selects RX0 yX0_keep yX0_keep ∈ mx_tbl := mx_in (List.mem_append_right _ (List.mem_of_getElem? (i := 481) (by decide +kernel))) (by decide +kernel)
theorem kw_672 : Cond.selects RX0 yX0_shut yX0_shut ∈ mx_tbl := mx_in (List.mem_append_right _ (List.mem_of_getElem? (i := 672) (by decide +kernel))) (by decide +kernel)
theorem kw_774 : Cond.static yX0_rootBelow ∈ mx_tbl := mx_in (List.mem_append_right _ (List.mem_of_getElem? (i := 774) (by decide +kernel))) (by decide +kernel)
theorem kw_756 : Cond.static yJ9_floorDiv_f86c9 ∈ mx_tbl := mx_in (List.mem_append_right _ (List.mem_of_getElem? (i := 756) (by decide +kernel))) (by decide +kernel)
theorem kw_712 : Cond.static yJ9_max_f86c9 ∈ mx_tbl := mx_in (List.mem_append_right _ (List.mem_of_getElem? (i := 712) (by decide +kernel))) (by decide +kernel)
theorem kw_709 : Cond.static yJ9_min_f86c9 ∈ mx_tbl := mx_in (List.mem_append_right _ (List.mem_of_getElem? (i := 709) (by decide +kernel))) (by decide +kernel)
