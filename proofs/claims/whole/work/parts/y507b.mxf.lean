/-! ===== mx: String constants, static fields ===== -/
section MXS
variable {p : Program} {l : Launch} {e : Env} {R : Room} {s : State} {m : MethodId} {args : Array Value} {below : List Frame} {meth : Method} {c : Code} {H : Heap} {locs : List Loc} {cells slots : Nat} {Q : State → Prop}
variable {cc : ByteArray} {pc : Nat} {ls : Array Slot} {rest : List Value} {G : mx_G} {P : mx_P} {z0 u0 : Nat} {σ σ' : mx_S} {a : Nat}
theorem mx_Sv (hz : s.heap.size = z0) (hJ : mx_J G P s.heap z0 u0 σ H locs) : va_S (mx_ba P) s.heap H locs := ⟨by rw [hz, hJ.2.1]; exact hJ.2.2.2.1, fun q _ h2 => hJ.2.2.2.2.2.2.2.2 q (Nat.not_le.mp h2), hJ.2.2.1⟩
theorem mxe_str (hK : mx_K G P s) (i : Nat) (hi : i < 16) : vk_R (mx_sr i).1 (mx_sr i).2.1 (mx_sr i).2.2 (mgK G i) s := hK.2.2.1 i hi
theorem mxe_S (hK : mx_K G P s) : vk_S 16 mx_sl mx_sb (mgK G) (mgV G) (mx_ba P) s s.heap := hK.2.2.2.1
theorem mxe_t0 (hK : mx_K G P s) : va_Z "MechanismHouse$Cam" "STEEP_TOPS" "[I" (.ref (mgT G 0)) (mx_ba P) s s.heap ∧ va_T .int (mgT G 0) 5 (fun j => .int (mx_st1.getD j 0)) (mx_ba P) s s.heap := hK.2.2.2.2.1
theorem mxe_t1 (hK : mx_K G P s) : va_Z "MechanismHouse$Cam" "STEEP_BOTTOMS" "[I" (.ref (mgT G 1)) (mx_ba P) s s.heap ∧ va_T .int (mgT G 1) 5 (fun j => .int (mx_st2.getD j 0)) (mx_ba P) s s.heap := hK.2.2.2.2.2.1
theorem mxe_c (hK : mx_K G P s) : va_Z "java/lang/String" "COMPACT_STRINGS" "Z" (.int 1) (mx_ba P) s s.heap := hK.2.2.2.2.2.2.1
theorem mxe_f (hK : mx_K G P s) : ∃ v, va_Z "jdk/internal/util/Preconditions" "SIOOBE_FORMATTER" "Ljava/util/function/BiFunction;" v (mx_ba P) s s.heap ∧ v.category = 1 ∧ v.isRef = true := by
  rcases hK.2.2.2.2.2.2.2.1 with h | ⟨t, h⟩
  · exact ⟨_, h, rfl, rfl⟩
  · exact ⟨_, h, rfl, rfl⟩
theorem mxe_u (hK : mx_K G P s) : vx_Zq Bundle.tN "UNASSIGNED_STACK" Bundle.steD (mx_ba P) s s.heap := hK.2.2.2.2.2.2.2.2.1
theorem mxe_s (hK : mx_K G P s) : vx_Zq Bundle.tN "SUPPRESSED_SENTINEL" Bundle.listD (mx_ba P) s s.heap := hK.2.2.2.2.2.2.2.2.2.1
theorem mxe_w (hK : mx_K G P s) : ∀ w ∈ mx_wk, va_Nw w s := hK.2.2.2.2.2.2.2.2.2.2.1
theorem mxe_n (hK : mx_K G P s) : ∀ a ∈ mx_ex, ∀ b ∈ mx_ex, a ≠ b → va_Nc a b s := hK.2.2.2.2.2.2.2.2.2.2.2.1
theorem mx_ldcw (hexec : p.tables.exec = Jvm.exec) (hb : c.code = cc) {own tx : String} {index q : Nat} (hown : s.vm.findClass own = some m.cls) (hZ : vk_R own index tx q s) (hdg : decode cc pc = .ok (.ldc_w index, 3))
    (k : W p l e R s m args below meth c H locs cells slots Q (F0 m (pc + 3) ls (.ref q :: rest))) : W p l e R s m args below meth c H locs cells slots Q (F0 m pc ls rest) := by
  intro T hT X
  obtain ⟨t, a1, b1⟩ := k T hT X
  exact ⟨t, X.ldcStringW hexec hown (text := tx) (a := q) hZ.1 hZ.2 (g := F0 m pc ls rest) rfl (by rw [hb]; exact hdg) t a1, b1⟩
theorem mt_oks {i : Nat} {x : Unit} (h : mt_ok i = some x) : i < 16 := by
  unfold mt_ok at h
  split at h
  · assumption
  · cases h
theorem mx_tlen (hexec : p.tables.exec = Jvm.exec) (hb : c.code = cc) (hK : mx_K G P s) (hz : s.heap.size = z0) (hJ : mx_J G P s.heap z0 u0 σ H locs) {i : Nat} {x : Unit} (hi : mt_ok i = some x) (hdg : decode cc pc = .ok (.arraylength, 1))
    (kk : W p l e R s m args below meth c H locs cells slots Q (F0 m (pc + 1) ls (.int (mt_n i) :: rest))) : W p l e R s m args below meth c H locs cells slots Q (F0 m pc ls (.ref (mgV G i) :: rest)) :=
  va_tlen hexec hb ((mxe_S hK).1 i (mt_oks hi)).2.2.2 (mx_Sv hz hJ) rfl hdg kk
theorem mx_tb (hexec : p.tables.exec = Jvm.exec) (hb : c.code = cc) (hK : mx_K G P s) (hz : s.heap.size = z0) (hJ : mx_J G P s.heap z0 u0 σ H locs) {i : Nat} {x : Unit} (hi : mt_ok i = some x) {k v : Int32} (hk : mt_b i k = some v) (hdg : decode cc pc = .ok (.baload, 1))
    (kk : W p l e R s m args below meth c H locs cells slots Q (F0 m (pc + 1) ls (.int v :: rest))) : W p l e R s m args below meth c H locs cells slots Q (F0 m pc ls (.int k :: .ref (mgV G i) :: rest)) := by
  unfold mt_b at hk
  split at hk
  · rename_i hin
    cases hk
    exact va_tb hexec hb ((mxe_S hK).1 i (mt_oks hi)).2.2.2 (mx_Sv hz hJ) (vp_in_iff.mpr hin) rfl hdg kk
  · cases hk
theorem mx_ti (hexec : p.tables.exec = Jvm.exec) (hb : c.code = cc) (hz : s.heap.size = z0) (hJ : mx_J G P s.heap z0 u0 σ H locs) {t : Nat} {L : List Int32} (hT : va_T .int t 5 (fun j => .int (L.getD j 0)) (mx_ba P) s s.heap) {k v : Int32} (hk : mt_t L k = some v) (hdg : decode cc pc = .ok (.iaload, 1))
    (kk : W p l e R s m args below meth c H locs cells slots Q (F0 m (pc + 1) ls (.int v :: rest))) : W p l e R s m args below meth c H locs cells slots Q (F0 m pc ls (.int k :: .ref t :: rest)) := by
  unfold mt_t at hk
  split at hk
  · rename_i hin
    cases hk
    exact va_ti hexec hb hT (mx_Sv hz hJ) (vp_in_iff.mpr hin) rfl hdg kk
  · cases hk
theorem mx_sval (hexec : p.tables.exec = Jvm.exec) (hb : c.code = cc) {own : String} {index : Nat} (hts : ∀ w ∈ mx_tbl, w.before args s = true) (hown : s.vm.findClass own = some m.cls) (hK : mx_K G P s) (hz : s.heap.size = z0) (hJ : mx_J G P s.heap z0 u0 σ H locs) {i : Nat} {x : Unit} (hi : mt_ok i = some x) (hlink : Cond.fieldLink own index "java/lang/String" "value" "[B" ∈ mx_tbl) (hdg : decode cc pc = .ok (.getfield index, 3))
    (kk : W p l e R s m args below meth c H locs cells slots Q (F0 m (pc + 3) ls (.ref (mgV G i) :: rest))) : W p l e R s m args below meth c H locs cells slots Q (F0 m pc ls (.ref (mgK G i) :: rest)) :=
  vk_getf hexec hb ((mxe_S hK).1 i (mt_oks hi)).2.2.1 (mx_Sv hz hJ) hown (hts _ hlink) (fun _ h => h) hdg kk
theorem mx_scod (hexec : p.tables.exec = Jvm.exec) (hb : c.code = cc) {own : String} {index : Nat} (hts : ∀ w ∈ mx_tbl, w.before args s = true) (hown : s.vm.findClass own = some m.cls) (hK : mx_K G P s) (hz : s.heap.size = z0) (hJ : mx_J G P s.heap z0 u0 σ H locs) {i : Nat} {x : Unit} (hi : mt_ok i = some x) (hlink : Cond.fieldLink own index "java/lang/String" "coder" "B" ∈ mx_tbl) (hdg : decode cc pc = .ok (.getfield index, 3))
    (kk : W p l e R s m args below meth c H locs cells slots Q (F0 m (pc + 3) ls (.int 0 :: rest))) : W p l e R s m args below meth c H locs cells slots Q (F0 m pc ls (.ref (mgK G i) :: rest)) :=
  vk_getf hexec hb ((mxe_S hK).1 i (mt_oks hi)).2.1 (mx_Sv hz hJ) hown (hts _ hlink) (fun _ h => h) hdg kk
theorem mx_callVS (hexec : p.tables.exec = Jvm.exec) (hb : c.code = cc) {nL : Nat} (hml : c.maxLocals = nL) {own : String} (hts : ∀ w ∈ mx_tbl, w.before args s = true) (hown : s.vm.findClass own = some m.cls) (hK : mx_K G P s) (hz : s.heap.size = z0) (hJ : mx_J G P s.heap z0 u0 σ H locs) (hRc : R.cells = mpc P - z0) (hRs : R.slots = mps P - u0)
    {y : MethodName} {bytes : ByteArray} {maxL : Nat} {ret : Option FieldType} {fr lo n index i : Nat} {x : Unit} (hi : mt_ok i = some x) {As : List Value} {o : Option Value} (hM : mxz σ ≤ mpc P → mxu σ ≤ mps P → mx_M l y bytes maxL ret fr lo G P (.ref (mgK G i) :: As) σ o σ') (hme : mx_me y bytes maxL ret n) (hinst : Cond.instanceMethod y ∈ mx_tbl) (hsel : Cond.selects "java/lang/String" y y ∈ mx_tbl) (hlink : Cond.methodLink own index y ∈ mx_tbl) (hfr : fr + 1 ≤ R.frames) (hlo : 8 + (maxL + 11) + lo ≤ R.locals)
    (hn : As.length = n) (hsize : ls.size = nL) {st : List Value} (hst : st = As.reverse ++ .ref (mgK G i) :: rest) (hW : (rest.map fun v => v.category).sum ≤ 8) (hdg : decode cc pc = .ok (.invokevirtual index, 3))
    (kk : ∀ (H1 : Heap) (locs1 : List Loc), mx_J G P s.heap z0 u0 σ' H1 locs1 → W p l e R s m args below meth c H1 locs1 (mxz σ' - z0) (mxu σ' - u0) Q (F0 m (pc + 3) ls (o.toList ++ rest))) : W p l e R s m args below meth c H locs (mxz σ - z0) (mxu σ - u0) Q (F0 m pc ls st) := by
  intro T hT X
  obtain ⟨cellB, g1, g3, hcls⟩ := vk_recv (mxe_S hK) (mt_oks hi) (mx_Sv hz hJ)
  obtain ⟨v, vm₁, ⟨U', l2, c2, s2⟩, hW₁, X', ⟨g', mk, t, L, e1, e2, hq, h1, hL, h2, h3⟩, stp⟩ := callV X hexec hown (hts _ hlink) (hts _ hinst) (hts _ hsel) (hts _ hme.1) hme.2.2.1 (mx_back hts (hM hJ.2.2.2.2.1 hJ.2.2.2.2.2.2.1) hme.1 hme.2.1 hfr hlo) (b := mgK G i) (by rw [hT]; exact g1) g3 hcls (g := F0 m pc ls st) rfl (hsize.trans hml.symm) (argsL := As) (rest := rest) (mx_len hme.2.2.2 hn) hst (lv_room (st := rest) hW) (by rw [hb]; exact hdg) (mx_pre hJ hK hRc hRs hT (.ref (mgK G i) :: As))
  dsimp only [Pt.U, Pt.locs, Pt.cells, Pt.slots] at X' e1 e2 h1 h2 h3 stp
  obtain ⟨rfl, hJ', z1, z2⟩ := mx_after hJ (st := (T.setVm vm₁).calling g' mk _) hT hq hL
  subst h1; subst h2; subst h3
  rw [← e1] at hJ'
  rw [z1, z2] at X'
  obtain ⟨t2, a1, b1⟩ := kk U'.heap _ hJ' U' rfl X'
  exact ⟨t2, stp t2 a1, b1⟩
theorem mx_sQ (hexec : p.tables.exec = Jvm.exec) (hb : c.code = cc) (hK : mx_K G P s) (hJ : mx_J G P s.heap z0 u0 σ H locs) {i : Int32} {x : Nat} (hx : ms_Q P σ a i x = some σ') (hdg : decode cc pc = .ok (.aastore, 1))
    (kk : ∀ (H1 : Heap) (locs1 : List Loc), mx_J G P s.heap z0 u0 σ' H1 locs1 → W p l e R s m args below meth c H1 locs1 (mxz σ' - z0) (mxu σ' - u0) Q (F0 m (pc + 1) ls rest)) : W p l e R s m args below meth c H locs (mxz σ - z0) (mxu σ - u0) Q (F0 m pc ls (.ref x :: .int i :: .ref a :: rest)) := by
  obtain ⟨j, h1, h2⟩ := mb0 hx
  obtain ⟨n, hs, hin, rfl, hlt⟩ := mx_ixs h1
  split at h2
  · rename_i t n' hsx
    split at h2
    · rename_i hba
      obtain ⟨hba, rfl⟩ := hba
      cases h2
      obtain ⟨h8, har⟩ := hJ.1.2 a 7 n hs
      obtain ⟨g8, gar⟩ := hJ.1.2 x 1 n' hsx
      have h0 : ¬ i < 0 := fun q => hin (Or.inl q)
      obtain ⟨kA, k1, k2⟩ := hK.2.2.2.2.2.2.2.2.2.2.2.2.2
      obtain ⟨-, kJ, hkJ, cJ, hkindJ⟩ := (hK.arr g8).1 n' (fun j => mx_val (mx_at 1) (mxI σ x j) (mxL σ x j) (mxR σ x j))
      have hkJ : s.vm.classes[mgA G 1]? = some kJ := hkJ
      have hkindJ : kJ.kind = .array cJ .long := hkindJ
      have hasg : s.vm.assignable (mgA G 1) (mgA G 1) = true := by
        show s.vm.assignableAux (255 + 1) (mgA G 1) (mgA G 1) = true
        rw [Vm.assignableAux]
        simp
      refine W.aast hexec hb har (fun q h => by cases h) (fun h => by cases h) k1 k2 rfl hkJ ⟨h0, by rw [arrV_size]; exact hlt⟩ gar (fun q h => by cases h) hkJ hasg rfl rfl hdg fun H' e1 e2 e3 => ?_
      exact mx_ast hJ hs hba (mx_same_R σ a _ x) (by rw [mx_rR]; rfl) e1 e2 e3 kk
    · cases h2
  · cases h2
end MXS
