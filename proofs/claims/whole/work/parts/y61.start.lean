/-! ===== the start: what the Statement's premises say at the law's entry ===== -/
theorem mx_eqi {args : Array Value} {s : State} {t : Term} {z : Int32} (h : (Cond.eq t (.int z)).before args s = true) : t.eval args s none [] s = some (.int z) := by
  cases hv : t.eval args s none [] s with
  | none => simp [Cond.before, Cond.holds, Cond.value, hv] at h
  | some w =>
    have hz : (Term.int z).eval args s none [] s = some (.int z) := rfl
    simp only [Cond.before, Cond.holds, Cond.value, hv, hz] at h
    cases w <;> simp_all
theorem mx_arrT {args : Array Value} {s : State} {ty : FieldType} (h : (Cond.arrayClass ty).before args s = true) : ∃ cA, ArrOfT s cA ty ∧ s.vm.findClass ("[" ++ ty.toString) = some cA := by
  obtain ⟨c, k, comp, h1, h2, h3⟩ := Cond.arrayClass_spec h
  exact ⟨c, fun n z => ⟨fun k h => (by cases h), k, h2, comp, h3⟩, h1⟩
theorem mx_arrO {args : Array Value} {s : State} {C : String} (h : (Cond.arrayOver (.object C)).before args s = true) : ∃ cA, ArrOfT s cA (.object C) ∧ va_RA s cA (.object C) := by
  obtain ⟨comp, c, k, h1, h2, h3, h4, h5⟩ := Cond.arrayOver_spec h
  exact ⟨c, fun n z => ⟨fun k h => (by cases h), k, h3, comp, h4⟩, k, comp, h3, h4, h1, h5⟩
abbrev mx_fl : List Cond := flatC (Jvm.Cond.and given_1 narrow_1)
theorem mxq_ex : ∀ i, i < 16 → Cond.exactly (.string (mx_sr i).1 (mx_sr i).2.1) "java/lang/String" ∈ mx_fl := by decide +kernel
theorem mxq_co : ∀ i, i < 16 → Cond.eq (.field (.string (mx_sr i).1 (mx_sr i).2.1) "java/lang/String" "coder" "B") (.int 0) ∈ mx_fl := by decide +kernel
theorem mxq_ar : ∀ i, i < 16 → Cond.arrayOf (.field (.string (mx_sr i).1 (mx_sr i).2.1) "java/lang/String" "value" "[B") .byte ∈ mx_fl := by decide +kernel
theorem mxq_le : ∀ i, i < 16 → Cond.eq (.length (.field (.string (mx_sr i).1 (mx_sr i).2.1) "java/lang/String" "value" "[B")) (.int (Int32.ofNat (mx_sl.getD i 0))) ∈ mx_fl := by decide +kernel
/-- the word at a place of a tree of words -/
def mx_go : Nat → Nat → Cond → Option Cond
  | 0, _, c => some c
  | d + 1, n, .and x y => mx_go d n (if n.testBit d then y else x)
  | _ + 1, _, _ => none
theorem mx_gob {args : Array Value} {s : State} {w : Cond} (d n : Nat) : ∀ c : Cond, c.before args s = true → mx_go d n c = some w → w.before args s = true := by
  induction d with
  | zero => intro c h e; cases e; exact h
  | succ d ih =>
    intro c h e
    cases c with
    | and x y =>
      rw [Cond.before_and, Bool.and_eq_true] at h
      have e : mx_go d n (if n.testBit d then y else x) = some w := e
      by_cases hb : n.testBit d = true
      · rw [if_pos hb] at e; exact ih y h.2 e
      · rw [if_neg hb] at e; exact ih x h.1 e
    | _ => cases e
abbrev px_el : List (List (Nat × Nat)) := [[(10, 634), (10, 635), (10, 636), (10, 637), (10, 638), (10, 639), (9, 320), (10, 642), (10, 643), (10, 644), (10, 645), (10, 646), (10, 647), (10, 648), (10, 649), (10, 650), (10, 651), (10, 652), (10, 653), (10, 654), (10, 655), (9, 328), (10, 658), (10, 659), (10, 660), (10, 661), (10, 662), (10, 663), (10, 664), (10, 665), (10, 666), (10, 667), (10, 668), (10, 669), (10, 670), (10, 671), (9, 336), (10, 674), (10, 675), (10, 676), (10, 677), (10, 678), (10, 679), (10, 680), (10, 681), (10, 682), (10, 683), (10, 684), (10, 685), (10, 686), (10, 687), (9, 344), (10, 690), (10, 691), (10, 692), (10, 693), (10, 694), (10, 695), (10, 696), (10, 697), (10, 698), (10, 699), (10, 700), (10, 701), (10, 702), (10, 703), (9, 352), (10, 706), (10, 707)],
  [(10, 712), (10, 713), (10, 714), (10, 715), (10, 716), (10, 717), (10, 718), (10, 719), (9, 360), (10, 722), (10, 723), (10, 724), (10, 725), (10, 726), (10, 727), (10, 728), (10, 729), (10, 730), (10, 731), (10, 732), (10, 733), (10, 734), (10, 735), (9, 368), (10, 738), (10, 739)],
  [(10, 745), (10, 746), (10, 747), (10, 748), (10, 749), (10, 750), (10, 751), (9, 376), (10, 754), (10, 755), (10, 756), (10, 757), (10, 758), (10, 759), (10, 760), (10, 761), (10, 762), (10, 763), (10, 764), (10, 765), (10, 766), (10, 767), (9, 384), (10, 770), (10, 771), (10, 772), (10, 773), (10, 774), (10, 775), (10, 776), (10, 777), (10, 778), (10, 779), (10, 780)],
  [(10, 788), (10, 789), (10, 790)],
  [(10, 798), (10, 799), (9, 400), (10, 802), (10, 803)],
  [(10, 812), (10, 813), (10, 814), (10, 815)],
  [(10, 826), (10, 827), (10, 828), (10, 829), (10, 830)],
  [(10, 842), (10, 843), (10, 844), (10, 845)],
  [(10, 858), (10, 859), (10, 860), (10, 861), (10, 862)],
  [(10, 876), (10, 877), (10, 878), (10, 879), (9, 440)],
  [(10, 895), (9, 448), (10, 898), (10, 899)],
  [(10, 915), (10, 916), (10, 917), (10, 918)],
  [(10, 935), (10, 936), (10, 937), (10, 938)],
  [(10, 956), (10, 957), (10, 958), (10, 959), (9, 480)],
  [(10, 980), (10, 981), (10, 982), (10, 983), (10, 984)],
  [(10, 1004), (10, 1005), (10, 1006)]]
abbrev px_nq : List (List (Nat × Nat)) := [[(0, 0), (10, 740), (10, 781), (10, 791), (10, 804), (9, 408), (10, 831), (10, 846), (10, 863), (10, 882), (10, 900), (10, 919), (10, 939), (10, 962), (10, 985), (10, 1007)],
  [(10, 740), (0, 0), (10, 782), (10, 792), (10, 805), (10, 818), (9, 416), (10, 847), (9, 432), (10, 883), (10, 901), (10, 920), (10, 940), (10, 963), (10, 986), (10, 1008)],
  [(10, 781), (10, 782), (0, 0), (10, 793), (10, 806), (10, 819), (10, 834), (9, 424), (10, 866), (10, 884), (10, 902), (10, 921), (10, 941), (10, 964), (10, 987), (10, 1009)],
  [(10, 791), (10, 792), (10, 793), (0, 0), (10, 807), (10, 820), (10, 835), (10, 850), (10, 867), (10, 885), (10, 903), (10, 922), (10, 942), (10, 965), (10, 988), (10, 1010)],
  [(10, 804), (10, 805), (10, 806), (10, 807), (0, 0), (10, 821), (10, 836), (10, 851), (10, 868), (10, 886), (10, 904), (10, 923), (10, 943), (10, 966), (10, 989), (10, 1011)],
  [(9, 408), (10, 818), (10, 819), (10, 820), (10, 821), (0, 0), (10, 837), (10, 852), (10, 869), (10, 887), (10, 905), (10, 924), (9, 472), (10, 967), (10, 990), (10, 1012)],
  [(10, 831), (9, 416), (10, 834), (10, 835), (10, 836), (10, 837), (0, 0), (10, 853), (10, 870), (10, 888), (10, 906), (10, 925), (10, 946), (10, 968), (10, 991), (10, 1013)],
  [(10, 846), (10, 847), (9, 424), (10, 850), (10, 851), (10, 852), (10, 853), (0, 0), (10, 871), (10, 889), (10, 907), (10, 926), (10, 947), (10, 969), (9, 496), (10, 1014)],
  [(10, 863), (9, 432), (10, 866), (10, 867), (10, 868), (10, 869), (10, 870), (10, 871), (0, 0), (10, 890), (10, 908), (10, 927), (10, 948), (10, 970), (10, 994), (10, 1015)],
  [(10, 882), (10, 883), (10, 884), (10, 885), (10, 886), (10, 887), (10, 888), (10, 889), (10, 890), (0, 0), (10, 909), (9, 464), (10, 949), (10, 971), (10, 995), (10, 1016)],
  [(10, 900), (10, 901), (10, 902), (10, 903), (10, 904), (10, 905), (10, 906), (10, 907), (10, 908), (10, 909), (0, 0), (10, 930), (10, 950), (10, 972), (10, 996), (10, 1017)],
  [(10, 919), (10, 920), (10, 921), (10, 922), (10, 923), (10, 924), (10, 925), (10, 926), (10, 927), (9, 464), (10, 930), (0, 0), (10, 951), (10, 973), (10, 997), (10, 1018)],
  [(10, 939), (10, 940), (10, 941), (10, 942), (10, 943), (9, 472), (10, 946), (10, 947), (10, 948), (10, 949), (10, 950), (10, 951), (0, 0), (10, 974), (10, 998), (10, 1019)],
  [(10, 962), (10, 963), (10, 964), (10, 965), (10, 966), (10, 967), (10, 968), (10, 969), (10, 970), (10, 971), (10, 972), (10, 973), (10, 974), (0, 0), (10, 999), (10, 1020)],
  [(10, 985), (10, 986), (10, 987), (10, 988), (10, 989), (10, 990), (10, 991), (9, 496), (10, 994), (10, 995), (10, 996), (10, 997), (10, 998), (10, 999), (0, 0), (10, 1021)],
  [(10, 1007), (10, 1008), (10, 1009), (10, 1010), (10, 1011), (10, 1012), (10, 1013), (10, 1014), (10, 1015), (10, 1016), (10, 1017), (10, 1018), (10, 1019), (10, 1020), (10, 1021), (0, 0)]]
theorem mxq_el : ∀ i, i < 16 → ∀ j, j < mx_sl.getD i 0 → mx_go ((px_el.getD i []).getD j (0, 0)).1 ((px_el.getD i []).getD j (0, 0)).2 (Jvm.Cond.and given_1 narrow_1) = some (Cond.eq (.elem (.field (.string (mx_sr i).1 (mx_sr i).2.1) "java/lang/String" "value" "[B") (.int (Int32.ofNat j))) (.int ((mx_sb.getD i []).getD j 0))) := by decide +kernel
theorem mxq_ne : ∀ i, i < 16 → ∀ j, j < 16 → i ≠ j → mx_go ((px_nq.getD i []).getD j (0, 0)).1 ((px_nq.getD i []).getD j (0, 0)).2 (Jvm.Cond.and given_1 narrow_1) = some (Cond.not (Cond.eq (.string (mx_sr i).1 (mx_sr i).2.1) (.string (mx_sr j).1 (mx_sr j).2.1))) ∨ mx_go ((px_nq.getD i []).getD j (0, 0)).1 ((px_nq.getD i []).getD j (0, 0)).2 (Jvm.Cond.and given_1 narrow_1) = some (Cond.not (Cond.eq (.string (mx_sr j).1 (mx_sr j).2.1) (.string (mx_sr i).1 (mx_sr i).2.1))) := by decide +kernel
theorem mxq_sr : ∀ i, i < 16 → Cond.stringRef (mx_sr i).1 (mx_sr i).2.1 (mx_sr i).2.2 ∈ tables_1 := by decide +kernel
theorem mxq_nc : ∀ a ∈ mx_ex, ∀ b ∈ mx_ex, a ≠ b → Cond.not (.castable a b) ∈ mx_fl := by decide +kernel
theorem mxq_st (n : String) (h : n = "STEEP_TOPS" ∨ n = "STEEP_BOTTOMS") : Cond.arrayOf (.static "MechanismHouse$Cam" n "[I") .int ∈ mx_fl ∧ Cond.eq (.length (.static "MechanismHouse$Cam" n "[I")) (.int 5) ∈ mx_fl := by
  rcases h with rfl | rfl <;> exact ⟨by decide +kernel, by decide +kernel⟩
theorem mxq_s1 : ∀ j, j < 5 → Cond.eq (.elem (.static "MechanismHouse$Cam" "STEEP_TOPS" "[I") (.int (Int32.ofNat j))) (.int (mx_st1.getD j 0)) ∈ mx_fl := by decide +kernel
theorem mxq_s2 : ∀ j, j < 5 → Cond.eq (.elem (.static "MechanismHouse$Cam" "STEEP_BOTTOMS" "[I") (.int (Int32.ofNat j))) (.int (mx_st2.getD j 0)) ∈ mx_fl := by decide +kernel
set_option maxHeartbeats 4000000 in
theorem mx_start {p : Program} {s : State} {m : MethodId} {meth : Method} {c : Code} {b L : Nat} {xs : Nat → Int32} (fu : Nat) (C0 : lw_At p s m meth c b L xs) : ∃ G : mx_G, mx_K G (fu, s.heap.size, s.heap.size + room_1.cells, room_1.slots) s := by
  obtain ⟨hx, hb, hr, hml, hown, hts0, hX, hbl, hlocks, hgv⟩ := C0
  have htb : ∀ w ∈ tables_1, w.before #[Value.ref b] s = true := fun w hw => hts0 w (List.mem_append_right _ hw)
  have hts : ∀ w ∈ mx_tbl, w.before #[Value.ref b] s = true := fun w hw => hts0 w (List.mem_filter.mp hw).1
  have hs := flat_of_before _ hgv
  have hA : ∀ a : Nat, a < s.heap.size → ¬ mx_ba (fu, s.heap.size, s.heap.size + room_1.cells, room_1.slots) a := fun a h => Nat.not_le.mpr h
  obtain ⟨c0, i0, k0⟩ := u_known (C := RX0) (T := TX0) (N := 3) hts wi_0 (hts _ kw_347)
  obtain ⟨c1, i1, k1⟩ := u_known (C := RX1) (T := TX1) (N := 8) hts wi_1 (hts _ kw_559)
  obtain ⟨c2, i2, k2⟩ := u_known (C := RX2) (T := TX2) (N := 11) hts wi_2 (hts _ kw_288)
  obtain ⟨c3, i3, k3⟩ := u_known (C := RX3) (T := TX3) (N := 3) hts wi_3 (hts _ kw_148)
  obtain ⟨c4, i4, k4⟩ := u_known (C := RX4) (T := TX4) (N := 18) hts wi_4 (hts _ kw_140)
  obtain ⟨c5, i5, k5⟩ := u_known (C := RX5) (T := TX5) (N := 20) hts wi_5 (hts _ kw_341)
  obtain ⟨c6, i6, k6⟩ := u_known (C := RX6) (T := TX6) (N := 10) hts wi_6 (hts _ kw_249)
  obtain ⟨c7, i7, k7⟩ := u_known (C := RX7) (T := TX7) (N := 20) hts wi_7 (hts _ kw_334)
  obtain ⟨c8, i8, k8⟩ := u_known (C := RX8) (T := TX8) (N := 2) hts wi_8 (hts _ kw_369)
  obtain ⟨c9, i9, k9⟩ := u_known (C := RX9) (T := TX9) (N := 3) hts wi_9 (hts _ kw_232)
  obtain ⟨c10, i10, k10⟩ := u_known (C := RX10) (T := TX10) (N := 20) hts wi_10 (hts _ kw_38)
  obtain ⟨c11, i11, k11⟩ := u_known (C := RX11) (T := TX11) (N := 10) hts wi_11 (hts _ kw_30)
  obtain ⟨c12, i12, k12⟩ := u_known (C := RX12) (T := TX12) (N := 114) hts wi_12 (hts _ kw_1858)
  obtain ⟨q0, r0, n0⟩ := mx_arrT (hts _ kw_137)
  obtain ⟨q1, r1, n1⟩ := mx_arrT (hts _ kw_138)
  obtain ⟨q2, r2, n2⟩ := mx_arrT (hts _ kw_136)
  obtain ⟨q3, r3, n3⟩ := mx_arrT (hts _ kw_330)
  have o4 : (Cond.arrayOver (.object "MechanismHouse$Joint")).before #[Value.ref b] s = true := htb _ (List.mem_of_getElem? (i := 340) (by decide +kernel))
  obtain ⟨q4, r4, n4⟩ := mx_arrO o4
  have o5 : (Cond.arrayOver (.object "MechanismHouse$Pair")).before #[Value.ref b] s = true := htb _ (List.mem_of_getElem? (i := 476) (by decide +kernel))
  obtain ⟨q5, r5, n5⟩ := mx_arrO o5
  have o6 : (Cond.arrayOver (.object "MechanismHouse$Plate")).before #[Value.ref b] s = true := htb _ (List.mem_of_getElem? (i := 231) (by decide +kernel))
  obtain ⟨q6, r6, n6⟩ := mx_arrO o6
  have o7 : (Cond.arrayOver (.array .long)).before #[Value.ref b] s = true := htb _ (List.mem_of_getElem? (i := 146) (by decide +kernel))
  obtain ⟨comp, q7, kA, f1, f2, f3, f4⟩ := Cond.arrayOver_specA o7
  have hcomp : comp = q1 := Option.some.inj (f1.symm.trans n1)
  subst hcomp
  obtain ⟨adK, adV, hS, hev⟩ := vk_Sof (args := #[Value.ref b]) (s := s) (N := 16) (tm := fun i => .string (mx_sr i).1 (mx_sr i).2.1) (len := mx_sl) (byt := mx_sb) (A := mx_ba (fu, s.heap.size, s.heap.size + room_1.cells, room_1.slots)) (by decide) (fun i hi => hs _ (mxq_ex i hi)) (fun i hi => hs _ (mxq_co i hi)) (fun i hi => hs _ (mxq_ar i hi)) (fun i hi => hs _ (mxq_le i hi)) (fun i hi j hj => mx_gob _ _ _ hgv (mxq_el i hi j hj)) (fun i j hi hj hij => (mxq_ne i hi j hj hij).elim (fun h => Or.inl (mx_gob _ _ _ hgv h)) (fun h => Or.inr (mx_gob _ _ _ hgv h))) hA
  obtain ⟨t0, e0, hT0⟩ := va_Tof (args := #[Value.ref b]) (s := s) (tm := .static "MechanismHouse$Cam" "STEEP_TOPS" "[I") (ty := .int) (N := 5) (f := fun j => .int (mx_st1.getD j 0)) (A := mx_ba (fu, s.heap.size, s.heap.size + room_1.cells, room_1.slots)) (by decide) (hs _ (mxq_st _ (Or.inl rfl)).1) (mx_eqi (hs _ (mxq_st _ (Or.inl rfl)).2)) (fun j hj => mx_eqi (hs _ (mxq_s1 j hj))) hA
  obtain ⟨t1, e1, hT1⟩ := va_Tof (args := #[Value.ref b]) (s := s) (tm := .static "MechanismHouse$Cam" "STEEP_BOTTOMS" "[I") (ty := .int) (N := 5) (f := fun j => .int (mx_st2.getD j 0)) (A := mx_ba (fu, s.heap.size, s.heap.size + room_1.cells, room_1.slots)) (by decide) (hs _ (mxq_st _ (Or.inr rfl)).1) (mx_eqi (hs _ (mxq_st _ (Or.inr rfl)).2)) (fun j hj => mx_eqi (hs _ (mxq_s2 j hj))) hA
  refine ⟨((fun k => match k with | 0 => c0 | 1 => c1 | 2 => c2 | 3 => c3 | 4 => c4 | 5 => c5 | 6 => c6 | 7 => c7 | 8 => c8 | 9 => c9 | 10 => c10 | 11 => c11 | _ => c12), (fun k => match k with | 0 => i0 | 1 => i1 | 2 => i2 | 3 => i3 | 4 => i4 | 5 => i5 | 6 => i6 | 7 => i7 | 8 => i8 | 9 => i9 | 10 => i10 | 11 => i11 | _ => i12), (fun k => match k with | 0 => q0 | 1 => comp | 2 => q2 | 3 => q3 | 4 => q4 | 5 => q5 | 6 => q6 | _ => q7), adK, adV, (fun k => match k with | 0 => t0 | _ => t1)), ⟨fun k q hq => ?_, fun k q hq => ?_⟩, ?_⟩
  · match k, hq with
    | 0, hq => cases hq; exact k0
    | 1, hq => cases hq; exact k1
    | 2, hq => cases hq; exact k2
    | 3, hq => cases hq; exact k3
    | 4, hq => cases hq; exact k4
    | 5, hq => cases hq; exact k5
    | 6, hq => cases hq; exact k6
    | 7, hq => cases hq; exact k7
    | 8, hq => cases hq; exact k8
    | 9, hq => cases hq; exact k9
    | 10, hq => cases hq; exact k10
    | 11, hq => cases hq; exact k11
    | 12, hq => cases hq; exact k12
    | k + 13, hq => simp [mx_cl] at hq
  · match k, hq with
    | 0, hq => cases hq; exact ⟨r0, n0⟩
    | 1, hq => cases hq; exact ⟨r1, n1⟩
    | 2, hq => cases hq; exact ⟨r2, n2⟩
    | 3, hq => cases hq; exact ⟨r3, n3⟩
    | 4, hq => cases hq; exact ⟨r4, n4⟩
    | 5, hq => cases hq; exact ⟨r5, n5⟩
    | 6, hq => cases hq; exact ⟨r6, n6⟩
    | 7, hq => cases hq; exact ⟨fun n z => ⟨fun k h => (by cases h), kA, f2, comp, f3⟩, f4⟩
    | k + 8, hq => simp [mx_tys] at hq
  · refine ⟨⟨o4, o5, o6⟩, fun i hi => vk_R.of (htb _ (mxq_sr i hi)) (hev i hi), hS, ⟨va_Zof (htb (.laysStatic "MechanismHouse$Cam" "STEEP_TOPS" "[I") (List.mem_of_getElem? (i := 1628) (by decide +kernel))) (hts _ kw_12) e0 hA, hT0⟩, ⟨va_Zof (htb (.laysStatic "MechanismHouse$Cam" "STEEP_BOTTOMS" "[I") (List.mem_of_getElem? (i := 1630) (by decide +kernel))) (hts _ kw_12) e1 hA, hT1⟩, va_Zof (htb (.laysStatic "java/lang/String" "COMPACT_STRINGS" "Z") (List.mem_of_getElem? (i := 1099) (by decide +kernel))) (hts _ kw_20) (va_eqi (hs _ (by decide +kernel))) hA, va_Zqof (htb (.laysStatic "jdk/internal/util/Preconditions" "SIOOBE_FORMATTER" "Ljava/util/function/BiFunction;") (List.mem_of_getElem? (i := 1115) (by decide +kernel))) (hts _ kw_22) (hs _ (by decide +kernel)) hA, vx_Zqof (htb (.laysStatic "java/lang/Throwable" "UNASSIGNED_STACK" "[Ljava/lang/StackTraceElement;") (List.mem_of_getElem? (i := 953) (by decide +kernel))) (hts _ kw_14) (hs _ (by decide +kernel)) hA, vx_Zqof (htb (.laysStatic "java/lang/Throwable" "SUPPRESSED_SENTINEL" "Ljava/util/List;") (List.mem_of_getElem? (i := 955) (by decide +kernel))) (hts _ kw_14) (hs _ (by decide +kernel)) hA, fun w hw => va_Nw.of (mx_wkT w hw) (htb w (List.mem_filter.mp hw).1), fun a ha b' hb' hab => va_Nc.of (hs _ (mxq_nc a ha b' hb' hab)), o7, kA, f2, f3⟩
