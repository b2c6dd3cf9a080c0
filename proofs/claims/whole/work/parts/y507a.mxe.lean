/-! ===== mx: arrays of references made ===== -/
section MXE
variable {p : Program} {l : Launch} {e : Env} {R : Room} {s : State} {m : MethodId} {args : Array Value} {below : List Frame} {meth : Method} {c : Code} {H : Heap} {locs : List Loc} {cells slots : Nat} {Q : State → Prop}
variable {cc : ByteArray} {pc : Nat} {ls : Array Slot} {rest : List Value} {G : mx_G} {P : mx_P} {z0 u0 : Nat} {σ σ' : mx_S} {a : Nat}
theorem mx_nR (hexec : p.tables.exec = Jvm.exec) (hb : c.code = cc) {own : String} (hts : ∀ w ∈ mx_tbl, w.before args s = true) (hown : s.vm.findClass own = some m.cls) (hK : mx_K G P s) (hJ : mx_J G P s.heap z0 u0 σ H locs) (hRc : R.cells = mpc P - z0) (hRs : R.slots = mps P - u0) {t : Nat} (ht8 : t < 8) {C : String} (hat : mx_at t = .object C) (hao : va_AO C s) {n : Int32} {q index : Nat} (hx : mn_A P σ t n = some (q, σ')) (hcl : Cond.classLink own index C ∈ mx_tbl) (hdg : decode cc pc = .ok (.anewarray index, 3))
    (kk : ∀ (H1 : Heap) (locs1 : List Loc), mx_J G P s.heap z0 u0 σ' H1 locs1 → W p l e R s m args below meth c H1 locs1 (mxz σ' - z0) (mxu σ' - u0) Q (F0 m (pc + 3) ls (.ref q :: rest))) : W p l e R s m args below meth c H locs (mxz σ - z0) (mxu σ - u0) Q (F0 m pc ls (.int n :: rest)) := by
  unfold mn_A at hx
  split at hx
  · rename_i hroom
    obtain ⟨r0, r3, r1, r2⟩ := hroom
    have e1 : mxz σ = q := congrArg Prod.fst (Option.some.inj hx)
    have e2 : mx_new σ (.inr (t, n.toNatClampNeg)) n.toNatClampNeg = σ' := congrArg Prod.snd (Option.some.inj hx)
    subst e2
    have hsz := hJ.2.1
    have hz0 := hJ.2.2.2.1
    have hu0 := hJ.2.2.2.2.2.1
    have hby : n.toNatClampNeg * 4 ≤ 536870912 := Nat.le_trans (Nat.mul_le_mul r3 (Nat.le_refl 4)) (by decide)
    refine W.anew hexec hb hown (hts _ hcl) hao.use rfl hdg rfl r0 hby (by rw [hRc]; omega) (by rw [hRs]; omega) fun cA kA comp h1 h2 h3 h4 => ?_
    have hra := (hK.arr ht8).2
    rw [hat] at hra
    obtain ⟨kA', comp', -, -, -, k4⟩ := hra
    have hcA : cA = mgA G t := Option.some.inj (h1.symm.trans k4)
    subst hcA
    have hJ' : mx_J G P s.heap z0 u0 (mx_new σ (.inr (t, n.toNatClampNeg)) n.toNatClampNeg) (H.push { cls := mgA G t, slots := Array.replicate n.toNatClampNeg .null, vm := .none }) locs := by
      refine mx_J_new hJ r1 r2 (by simp) (fun x hx => ?_) (fun ci' h => by cases h) (fun t' k h => ?_)
      · rw [Array.getElem?_push, if_neg (Nat.ne_of_lt hx)]
      · cases h
        refine ⟨ht8, ?_⟩
        show (H.push _)[H.size]? = some (arrV _ _ (fun j => mx_val _ (if H.size = mxz σ then 0 else _) (if H.size = mxz σ then 0 else _) (if H.size = mxz σ then none else _)))
        rw [arrV_new, hat, Array.getElem?_push, if_pos rfl]
        congr 2
        funext j
        rw [if_pos hsz, if_pos hsz, if_pos hsz]
        rfl
    have := kk _ _ hJ'
    rw [← e1, ← hsz] at this
    rw [show mxz σ - z0 + 1 = mxz (mx_new σ (.inr (t, n.toNatClampNeg)) n.toNatClampNeg) - z0 from by show _ = mxz σ + 1 - z0; omega, show mxu σ - u0 + n.toNatClampNeg = mxu (mx_new σ (.inr (t, n.toNatClampNeg)) n.toNatClampNeg) - u0 from by show _ = mxu σ + n.toNatClampNeg - u0; omega]
    exact this
  · cases hx
end MXE
