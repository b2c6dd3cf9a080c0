-- decode rows over a code's bytes as one number
section DN
variable {c : ByteArray} {n N pc : Nat}
def dN_q (N : Nat) : List UInt8 → Nat → Bool
  | [], _ => true
  | b :: bs, i => Nat.beq b.toNat ((N >>> (8 * i)) % 256) && dN_q N bs (i + 1)
theorem dN_g : ∀ (bs : List UInt8) (i : Nat), dN_q N bs i = true → ∀ (j : Nat) (b : UInt8), bs[j]? = some b → b.toNat = (N >>> (8 * (i + j))) % 256
  | [], _, _, j, b, h => by simp at h
  | a :: as, i, h, j, b, hb => by
    rw [dN_q, Bool.and_eq_true] at h
    cases j with
    | zero =>
      rw [List.getElem?_cons_zero] at hb
      cases hb
      exact Nat.eq_of_beq_eq_true h.1
    | succ j =>
      rw [List.getElem?_cons_succ] at hb
      have := dN_g as (i + 1) h.2 j b hb
      rw [this, show i + 1 + j = i + (j + 1) by omega]
abbrev dN_B (c : ByteArray) (n N : Nat) : Prop := (Nat.beq c.data.toList.length n && dN_q N c.data.toList 0) = true
theorem dN_b {i : Nat} (h : dN_B c n N) (hi : i < n) : ∃ p : i < c.size, c[i].toNat = (N >>> (8 * i)) % 256 := by
  have h : (Nat.beq c.data.toList.length n && dN_q N c.data.toList 0) = true := h
  rw [Bool.and_eq_true] at h
  obtain ⟨h1, h2⟩ := h
  have h1 := Nat.eq_of_beq_eq_true h1
  cases c with
  | mk d =>
    have p : i < d.size := by rw [← h1] at hi; simpa using hi
    refine ⟨p, ?_⟩
    have e := dN_g (N := N) d.toList 0 h2 i d[i] (by rw [Array.getElem?_toList, Array.getElem?_eq_getElem p])
    rw [Nat.zero_add] at e
    exact e
theorem dN_1 {i : Nat} (h : dN_B c n N) (hi : i < n) : (Reader.u1 : Decoder Nat).runAt c i = .ok ((N >>> (8 * i)) % 256, i + 1) := by
  obtain ⟨p, e⟩ := dN_b h hi
  have t : (Reader.u1 : Decoder Nat).runAt c i = (if h : i < c.size then (do set (i + 1); Pure.pure c[i].toNat : Decoder Nat) else throw (HasTruncated.truncated i)) c i := rfl
  rw [t, dif_pos p]
  show Except.ok (c[i].toNat, i + 1) = _
  rw [e]
theorem dN_bd {α β : Type} {p q : Nat} {x : α} {r : Decoder α} {k : α → Decoder β} (h : r.runAt c p = .ok (x, q)) : (r >>= k).runAt c p = (k x).runAt c q := by
  show Except.bind (r.runAt c p) (fun y => (k y.1).runAt c y.2) = _
  rw [h]
  rfl
theorem dN_mp {α β : Type} {p q : Nat} {x : α} {r : Decoder α} {f : α → β} (h : r.runAt c p = .ok (x, q)) : (f <$> r).runAt c p = .ok (f x, q) := by
  show Except.bind (r.runAt c p) (fun y => .ok (f y.1, y.2)) = _
  rw [h]
  rfl
theorem dN_2 {i : Nat} (h : dN_B c n N) (hi : i + 1 < n) : (Reader.u2 : Decoder Nat).runAt c i = .ok ((N >>> (8 * i)) % 256 * 256 + (N >>> (8 * (i + 1))) % 256, i + 2) := by
  unfold Reader.u2
  rw [dN_bd (dN_1 h (by omega)), dN_bd (dN_1 h hi)]
  rfl
theorem dN_r {op m : Nat} {I : Instr} {k : Nat → Decoder Instr} (h : dN_B c n N) (hk : Decoder.instr pc = Reader.u1 >>= k) (hp : pc < n) (ho : (N >>> (8 * pc)) % 256 = op) (hR : (k op).runAt c (pc + 1) = .ok (I, pc + m)) : decode c pc = .ok (I, m) := by
  have e : (Decoder.instr pc).runAt c pc = .ok (I, pc + m) := by rw [hk, dN_bd (dN_1 h hp), ho, hR]
  show Except.bind ((Decoder.instr pc).runAt c pc) (fun y => Except.ok (y.1, y.2 - pc)) = _
  rw [e]
  show Except.ok (I, pc + m - pc) = _
  rw [Nat.add_sub_cancel_left]
def dk_0 (n N pc op : Nat) : Bool := Nat.blt pc n && Nat.beq ((N >>> (8 * pc)) % 256) op
def dk_u1 (n N pc op v : Nat) : Bool := Nat.blt (pc + 1) n && Nat.beq ((N >>> (8 * pc)) % 256) op && Nat.beq ((N >>> (8 * (pc + 1))) % 256) v
def dk_u2 (n N pc op v : Nat) : Bool := Nat.blt (pc + 2) n && Nat.beq ((N >>> (8 * pc)) % 256) op && Nat.beq ((N >>> (8 * (pc + 1))) % 256 * 256 + (N >>> (8 * (pc + 2))) % 256) v
def dk_s1 (n N pc op : Nat) (v : Int) : Bool := Nat.blt (pc + 1) n && Nat.beq ((N >>> (8 * pc)) % 256) op && decide (Reader.signed 8 ((N >>> (8 * (pc + 1))) % 256) = v)
def dk_s2 (n N pc op : Nat) (v : Int) : Bool := Nat.blt (pc + 2) n && Nat.beq ((N >>> (8 * pc)) % 256) op && decide (Reader.signed 16 ((N >>> (8 * (pc + 1))) % 256 * 256 + (N >>> (8 * (pc + 2))) % 256) = v)
def dk_us (n N pc op u : Nat) (v : Int) : Bool := Nat.blt (pc + 2) n && Nat.beq ((N >>> (8 * pc)) % 256) op && Nat.beq ((N >>> (8 * (pc + 1))) % 256) u && decide (Reader.signed 8 ((N >>> (8 * (pc + 2))) % 256) = v)
theorem dN_lt {a b : Nat} (h : Nat.blt a b = true) : a < b := Nat.le_of_ble_eq_true h
theorem dN_0 {op : Nat} {I : Instr} {k : Nat → Decoder Instr} (h : dN_B c n N) (hk : Decoder.instr pc = Reader.u1 >>= k) (e : dk_0 n N pc op = true) (hI : k op = Pure.pure I) : decode c pc = .ok (I, 1) := by
  unfold dk_0 at e
  rw [Bool.and_eq_true] at e
  exact dN_r h hk (dN_lt e.1) (Nat.eq_of_beq_eq_true e.2) (by rw [hI]; rfl)
theorem dN_u1 {op v : Nat} {J : Nat → Instr} {k : Nat → Decoder Instr} (h : dN_B c n N) (hk : Decoder.instr pc = Reader.u1 >>= k) (e : dk_u1 n N pc op v = true) (hI : k op = Reader.u1 >>= fun v => Pure.pure (J v)) : decode c pc = .ok (J v, 2) := by
  unfold dk_u1 at e
  rw [Bool.and_eq_true, Bool.and_eq_true] at e
  have l := dN_lt e.1.1
  exact dN_r h hk (by omega) (Nat.eq_of_beq_eq_true e.1.2) (by rw [hI, dN_bd (dN_1 h l), Nat.eq_of_beq_eq_true e.2]; rfl)
theorem dN_u2 {op v : Nat} {J : Nat → Instr} {k : Nat → Decoder Instr} (h : dN_B c n N) (hk : Decoder.instr pc = Reader.u1 >>= k) (e : dk_u2 n N pc op v = true) (hI : k op = Reader.u2 >>= fun v => Pure.pure (J v)) : decode c pc = .ok (J v, 3) := by
  unfold dk_u2 at e
  rw [Bool.and_eq_true, Bool.and_eq_true] at e
  have l := dN_lt e.1.1
  exact dN_r h hk (by omega) (Nat.eq_of_beq_eq_true e.1.2) (by rw [hI, dN_bd (dN_2 h l), Nat.eq_of_beq_eq_true e.2]; rfl)
theorem dN_s1 {op : Nat} {v : Int} {J : Int → Instr} {k : Nat → Decoder Instr} (h : dN_B c n N) (hk : Decoder.instr pc = Reader.u1 >>= k) (e : dk_s1 n N pc op v = true) (hI : k op = Reader.s1 >>= fun v => Pure.pure (J v)) : decode c pc = .ok (J v, 2) := by
  unfold dk_s1 at e
  rw [Bool.and_eq_true, Bool.and_eq_true] at e
  have l := dN_lt e.1.1
  have a : (Reader.s1 : Decoder Int).runAt c (pc + 1) = .ok (v, pc + 2) := by
    have := dN_mp (f := Reader.signed 8) (dN_1 h l)
    rw [of_decide_eq_true e.2] at this
    exact this
  exact dN_r h hk (by omega) (Nat.eq_of_beq_eq_true e.1.2) (by rw [hI, dN_bd a]; rfl)
theorem dN_s2 {op : Nat} {v : Int} {J : Int → Instr} {k : Nat → Decoder Instr} (h : dN_B c n N) (hk : Decoder.instr pc = Reader.u1 >>= k) (e : dk_s2 n N pc op v = true) (hI : k op = Reader.s2 >>= fun v => Pure.pure (J v)) : decode c pc = .ok (J v, 3) := by
  unfold dk_s2 at e
  rw [Bool.and_eq_true, Bool.and_eq_true] at e
  have l := dN_lt e.1.1
  have a : (Reader.s2 : Decoder Int).runAt c (pc + 1) = .ok (v, pc + 3) := by
    have := dN_mp (f := Reader.signed 16) (dN_2 h l)
    rw [of_decide_eq_true e.2] at this
    exact this
  exact dN_r h hk (by omega) (Nat.eq_of_beq_eq_true e.1.2) (by rw [hI, dN_bd a]; rfl)
theorem dN_us {op u : Nat} {v : Int} {J : Nat → Int → Instr} {k : Nat → Decoder Instr} (h : dN_B c n N) (hk : Decoder.instr pc = Reader.u1 >>= k) (e : dk_us n N pc op u v = true) (hI : k op = Reader.u1 >>= fun u => Reader.s1 >>= fun v => Pure.pure (J u v)) : decode c pc = .ok (J u v, 3) := by
  unfold dk_us at e
  rw [Bool.and_eq_true, Bool.and_eq_true, Bool.and_eq_true] at e
  have l := dN_lt e.1.1.1
  have a : (Reader.s1 : Decoder Int).runAt c (pc + 2) = .ok (v, pc + 3) := by
    have := dN_mp (f := Reader.signed 8) (dN_1 h l)
    rw [of_decide_eq_true e.2] at this
    exact this
  exact dN_r h hk (by omega) (Nat.eq_of_beq_eq_true e.1.1.2) (by rw [hI, dN_bd (dN_1 h (by omega)), Nat.eq_of_beq_eq_true e.1.2, dN_bd a]; rfl)
theorem dq_2 (h : dN_B c n N) (e : dk_0 n N pc 2 = true) : decode c pc = .ok (.iconst (-1), 1) := dN_0 h rfl e rfl
theorem dq_3 (h : dN_B c n N) (e : dk_0 n N pc 3 = true) : decode c pc = .ok (.iconst 0, 1) := dN_0 h rfl e rfl
theorem dq_4 (h : dN_B c n N) (e : dk_0 n N pc 4 = true) : decode c pc = .ok (.iconst 1, 1) := dN_0 h rfl e rfl
theorem dq_5 (h : dN_B c n N) (e : dk_0 n N pc 5 = true) : decode c pc = .ok (.iconst 2, 1) := dN_0 h rfl e rfl
theorem dq_6 (h : dN_B c n N) (e : dk_0 n N pc 6 = true) : decode c pc = .ok (.iconst 3, 1) := dN_0 h rfl e rfl
theorem dq_7 (h : dN_B c n N) (e : dk_0 n N pc 7 = true) : decode c pc = .ok (.iconst 4, 1) := dN_0 h rfl e rfl
theorem dq_8 (h : dN_B c n N) (e : dk_0 n N pc 8 = true) : decode c pc = .ok (.iconst 5, 1) := dN_0 h rfl e rfl
theorem dq_9 (h : dN_B c n N) (e : dk_0 n N pc 9 = true) : decode c pc = .ok (.lconst 0, 1) := dN_0 h rfl e rfl
theorem dq_10 (h : dN_B c n N) (e : dk_0 n N pc 10 = true) : decode c pc = .ok (.lconst 1, 1) := dN_0 h rfl e rfl
theorem dq_16 {v : Int} (h : dN_B c n N) (e : dk_s1 n N pc 16 v = true) : decode c pc = .ok (.bipush v, 2) := dN_s1 (J := fun v => .bipush v) h rfl e rfl
theorem dq_17 {v : Int} (h : dN_B c n N) (e : dk_s2 n N pc 17 v = true) : decode c pc = .ok (.sipush v, 3) := dN_s2 (J := fun v => .sipush v) h rfl e rfl
theorem dq_18 {v : Nat} (h : dN_B c n N) (e : dk_u1 n N pc 18 v = true) : decode c pc = .ok (.ldc v, 2) := dN_u1 (J := fun v => .ldc v) h rfl e rfl
theorem dq_19 {v : Nat} (h : dN_B c n N) (e : dk_u2 n N pc 19 v = true) : decode c pc = .ok (.ldc_w v, 3) := dN_u2 (J := fun v => .ldc_w v) h rfl e rfl
theorem dq_20 {v : Nat} (h : dN_B c n N) (e : dk_u2 n N pc 20 v = true) : decode c pc = .ok (.ldc2_w v, 3) := dN_u2 (J := fun v => .ldc2_w v) h rfl e rfl
theorem dq_21 {v : Nat} (h : dN_B c n N) (e : dk_u1 n N pc 21 v = true) : decode c pc = .ok (.iload v, 2) := dN_u1 (J := fun v => .iload v) h rfl e rfl
theorem dq_22 {v : Nat} (h : dN_B c n N) (e : dk_u1 n N pc 22 v = true) : decode c pc = .ok (.lload v, 2) := dN_u1 (J := fun v => .lload v) h rfl e rfl
theorem dq_25 {v : Nat} (h : dN_B c n N) (e : dk_u1 n N pc 25 v = true) : decode c pc = .ok (.aload v, 2) := dN_u1 (J := fun v => .aload v) h rfl e rfl
theorem dq_26 (h : dN_B c n N) (e : dk_0 n N pc 26 = true) : decode c pc = .ok (.iload_n 0, 1) := dN_0 h rfl e rfl
theorem dq_27 (h : dN_B c n N) (e : dk_0 n N pc 27 = true) : decode c pc = .ok (.iload_n 1, 1) := dN_0 h rfl e rfl
theorem dq_28 (h : dN_B c n N) (e : dk_0 n N pc 28 = true) : decode c pc = .ok (.iload_n 2, 1) := dN_0 h rfl e rfl
theorem dq_29 (h : dN_B c n N) (e : dk_0 n N pc 29 = true) : decode c pc = .ok (.iload_n 3, 1) := dN_0 h rfl e rfl
theorem dq_30 (h : dN_B c n N) (e : dk_0 n N pc 30 = true) : decode c pc = .ok (.lload_n 0, 1) := dN_0 h rfl e rfl
theorem dq_31 (h : dN_B c n N) (e : dk_0 n N pc 31 = true) : decode c pc = .ok (.lload_n 1, 1) := dN_0 h rfl e rfl
theorem dq_32 (h : dN_B c n N) (e : dk_0 n N pc 32 = true) : decode c pc = .ok (.lload_n 2, 1) := dN_0 h rfl e rfl
theorem dq_33 (h : dN_B c n N) (e : dk_0 n N pc 33 = true) : decode c pc = .ok (.lload_n 3, 1) := dN_0 h rfl e rfl
theorem dq_42 (h : dN_B c n N) (e : dk_0 n N pc 42 = true) : decode c pc = .ok (.aload_n 0, 1) := dN_0 h rfl e rfl
theorem dq_43 (h : dN_B c n N) (e : dk_0 n N pc 43 = true) : decode c pc = .ok (.aload_n 1, 1) := dN_0 h rfl e rfl
theorem dq_44 (h : dN_B c n N) (e : dk_0 n N pc 44 = true) : decode c pc = .ok (.aload_n 2, 1) := dN_0 h rfl e rfl
theorem dq_45 (h : dN_B c n N) (e : dk_0 n N pc 45 = true) : decode c pc = .ok (.aload_n 3, 1) := dN_0 h rfl e rfl
theorem dq_46 (h : dN_B c n N) (e : dk_0 n N pc 46 = true) : decode c pc = .ok (.iaload, 1) := dN_0 h rfl e rfl
theorem dq_47 (h : dN_B c n N) (e : dk_0 n N pc 47 = true) : decode c pc = .ok (.laload, 1) := dN_0 h rfl e rfl
theorem dq_50 (h : dN_B c n N) (e : dk_0 n N pc 50 = true) : decode c pc = .ok (.aaload, 1) := dN_0 h rfl e rfl
theorem dq_51 (h : dN_B c n N) (e : dk_0 n N pc 51 = true) : decode c pc = .ok (.baload, 1) := dN_0 h rfl e rfl
theorem dq_54 {v : Nat} (h : dN_B c n N) (e : dk_u1 n N pc 54 v = true) : decode c pc = .ok (.istore v, 2) := dN_u1 (J := fun v => .istore v) h rfl e rfl
theorem dq_55 {v : Nat} (h : dN_B c n N) (e : dk_u1 n N pc 55 v = true) : decode c pc = .ok (.lstore v, 2) := dN_u1 (J := fun v => .lstore v) h rfl e rfl
theorem dq_58 {v : Nat} (h : dN_B c n N) (e : dk_u1 n N pc 58 v = true) : decode c pc = .ok (.astore v, 2) := dN_u1 (J := fun v => .astore v) h rfl e rfl
theorem dq_59 (h : dN_B c n N) (e : dk_0 n N pc 59 = true) : decode c pc = .ok (.istore_n 0, 1) := dN_0 h rfl e rfl
theorem dq_60 (h : dN_B c n N) (e : dk_0 n N pc 60 = true) : decode c pc = .ok (.istore_n 1, 1) := dN_0 h rfl e rfl
theorem dq_61 (h : dN_B c n N) (e : dk_0 n N pc 61 = true) : decode c pc = .ok (.istore_n 2, 1) := dN_0 h rfl e rfl
theorem dq_62 (h : dN_B c n N) (e : dk_0 n N pc 62 = true) : decode c pc = .ok (.istore_n 3, 1) := dN_0 h rfl e rfl
theorem dq_64 (h : dN_B c n N) (e : dk_0 n N pc 64 = true) : decode c pc = .ok (.lstore_n 1, 1) := dN_0 h rfl e rfl
theorem dq_65 (h : dN_B c n N) (e : dk_0 n N pc 65 = true) : decode c pc = .ok (.lstore_n 2, 1) := dN_0 h rfl e rfl
theorem dq_66 (h : dN_B c n N) (e : dk_0 n N pc 66 = true) : decode c pc = .ok (.lstore_n 3, 1) := dN_0 h rfl e rfl
theorem dq_76 (h : dN_B c n N) (e : dk_0 n N pc 76 = true) : decode c pc = .ok (.astore_n 1, 1) := dN_0 h rfl e rfl
theorem dq_77 (h : dN_B c n N) (e : dk_0 n N pc 77 = true) : decode c pc = .ok (.astore_n 2, 1) := dN_0 h rfl e rfl
theorem dq_78 (h : dN_B c n N) (e : dk_0 n N pc 78 = true) : decode c pc = .ok (.astore_n 3, 1) := dN_0 h rfl e rfl
theorem dq_79 (h : dN_B c n N) (e : dk_0 n N pc 79 = true) : decode c pc = .ok (.iastore, 1) := dN_0 h rfl e rfl
theorem dq_80 (h : dN_B c n N) (e : dk_0 n N pc 80 = true) : decode c pc = .ok (.lastore, 1) := dN_0 h rfl e rfl
theorem dq_83 (h : dN_B c n N) (e : dk_0 n N pc 83 = true) : decode c pc = .ok (.aastore, 1) := dN_0 h rfl e rfl
theorem dq_84 (h : dN_B c n N) (e : dk_0 n N pc 84 = true) : decode c pc = .ok (.bastore, 1) := dN_0 h rfl e rfl
theorem dq_87 (h : dN_B c n N) (e : dk_0 n N pc 87 = true) : decode c pc = .ok (.pop, 1) := dN_0 h rfl e rfl
theorem dq_89 (h : dN_B c n N) (e : dk_0 n N pc 89 = true) : decode c pc = .ok (.dup, 1) := dN_0 h rfl e rfl
theorem dq_92 (h : dN_B c n N) (e : dk_0 n N pc 92 = true) : decode c pc = .ok (.dup2, 1) := dN_0 h rfl e rfl
theorem dq_96 (h : dN_B c n N) (e : dk_0 n N pc 96 = true) : decode c pc = .ok (.iadd, 1) := dN_0 h rfl e rfl
theorem dq_97 (h : dN_B c n N) (e : dk_0 n N pc 97 = true) : decode c pc = .ok (.ladd, 1) := dN_0 h rfl e rfl
theorem dq_100 (h : dN_B c n N) (e : dk_0 n N pc 100 = true) : decode c pc = .ok (.isub, 1) := dN_0 h rfl e rfl
theorem dq_101 (h : dN_B c n N) (e : dk_0 n N pc 101 = true) : decode c pc = .ok (.lsub, 1) := dN_0 h rfl e rfl
theorem dq_104 (h : dN_B c n N) (e : dk_0 n N pc 104 = true) : decode c pc = .ok (.imul, 1) := dN_0 h rfl e rfl
theorem dq_105 (h : dN_B c n N) (e : dk_0 n N pc 105 = true) : decode c pc = .ok (.lmul, 1) := dN_0 h rfl e rfl
theorem dq_108 (h : dN_B c n N) (e : dk_0 n N pc 108 = true) : decode c pc = .ok (.idiv, 1) := dN_0 h rfl e rfl
theorem dq_109 (h : dN_B c n N) (e : dk_0 n N pc 109 = true) : decode c pc = .ok (.ldiv, 1) := dN_0 h rfl e rfl
theorem dq_112 (h : dN_B c n N) (e : dk_0 n N pc 112 = true) : decode c pc = .ok (.irem, 1) := dN_0 h rfl e rfl
theorem dq_113 (h : dN_B c n N) (e : dk_0 n N pc 113 = true) : decode c pc = .ok (.lrem, 1) := dN_0 h rfl e rfl
theorem dq_116 (h : dN_B c n N) (e : dk_0 n N pc 116 = true) : decode c pc = .ok (.ineg, 1) := dN_0 h rfl e rfl
theorem dq_117 (h : dN_B c n N) (e : dk_0 n N pc 117 = true) : decode c pc = .ok (.lneg, 1) := dN_0 h rfl e rfl
theorem dq_120 (h : dN_B c n N) (e : dk_0 n N pc 120 = true) : decode c pc = .ok (.ishl, 1) := dN_0 h rfl e rfl
theorem dq_121 (h : dN_B c n N) (e : dk_0 n N pc 121 = true) : decode c pc = .ok (.lshl, 1) := dN_0 h rfl e rfl
theorem dq_122 (h : dN_B c n N) (e : dk_0 n N pc 122 = true) : decode c pc = .ok (.ishr, 1) := dN_0 h rfl e rfl
theorem dq_123 (h : dN_B c n N) (e : dk_0 n N pc 123 = true) : decode c pc = .ok (.lshr, 1) := dN_0 h rfl e rfl
theorem dq_124 (h : dN_B c n N) (e : dk_0 n N pc 124 = true) : decode c pc = .ok (.iushr, 1) := dN_0 h rfl e rfl
theorem dq_126 (h : dN_B c n N) (e : dk_0 n N pc 126 = true) : decode c pc = .ok (.iand, 1) := dN_0 h rfl e rfl
theorem dq_127 (h : dN_B c n N) (e : dk_0 n N pc 127 = true) : decode c pc = .ok (.land, 1) := dN_0 h rfl e rfl
theorem dq_128 (h : dN_B c n N) (e : dk_0 n N pc 128 = true) : decode c pc = .ok (.ior, 1) := dN_0 h rfl e rfl
theorem dq_129 (h : dN_B c n N) (e : dk_0 n N pc 129 = true) : decode c pc = .ok (.lor, 1) := dN_0 h rfl e rfl
theorem dq_130 (h : dN_B c n N) (e : dk_0 n N pc 130 = true) : decode c pc = .ok (.ixor, 1) := dN_0 h rfl e rfl
theorem dq_131 (h : dN_B c n N) (e : dk_0 n N pc 131 = true) : decode c pc = .ok (.lxor, 1) := dN_0 h rfl e rfl
theorem dq_132 {u : Nat} {v : Int} (h : dN_B c n N) (e : dk_us n N pc 132 u v = true) : decode c pc = .ok (.iinc u v, 3) := dN_us (J := fun u v => .iinc u v) h rfl e rfl
theorem dq_133 (h : dN_B c n N) (e : dk_0 n N pc 133 = true) : decode c pc = .ok (.i2l, 1) := dN_0 h rfl e rfl
theorem dq_136 (h : dN_B c n N) (e : dk_0 n N pc 136 = true) : decode c pc = .ok (.l2i, 1) := dN_0 h rfl e rfl
theorem dq_145 (h : dN_B c n N) (e : dk_0 n N pc 145 = true) : decode c pc = .ok (.i2b, 1) := dN_0 h rfl e rfl
theorem dq_146 (h : dN_B c n N) (e : dk_0 n N pc 146 = true) : decode c pc = .ok (.i2c, 1) := dN_0 h rfl e rfl
theorem dq_148 (h : dN_B c n N) (e : dk_0 n N pc 148 = true) : decode c pc = .ok (.lcmp, 1) := dN_0 h rfl e rfl
theorem dq_153 {v : Int} (h : dN_B c n N) (e : dk_s2 n N pc 153 v = true) : decode c pc = .ok (.ifCond .eq v, 3) := dN_s2 (J := fun v => .ifCond .eq v) h rfl e rfl
theorem dq_154 {v : Int} (h : dN_B c n N) (e : dk_s2 n N pc 154 v = true) : decode c pc = .ok (.ifCond .ne v, 3) := dN_s2 (J := fun v => .ifCond .ne v) h rfl e rfl
theorem dq_155 {v : Int} (h : dN_B c n N) (e : dk_s2 n N pc 155 v = true) : decode c pc = .ok (.ifCond .lt v, 3) := dN_s2 (J := fun v => .ifCond .lt v) h rfl e rfl
theorem dq_156 {v : Int} (h : dN_B c n N) (e : dk_s2 n N pc 156 v = true) : decode c pc = .ok (.ifCond .ge v, 3) := dN_s2 (J := fun v => .ifCond .ge v) h rfl e rfl
theorem dq_157 {v : Int} (h : dN_B c n N) (e : dk_s2 n N pc 157 v = true) : decode c pc = .ok (.ifCond .gt v, 3) := dN_s2 (J := fun v => .ifCond .gt v) h rfl e rfl
theorem dq_158 {v : Int} (h : dN_B c n N) (e : dk_s2 n N pc 158 v = true) : decode c pc = .ok (.ifCond .le v, 3) := dN_s2 (J := fun v => .ifCond .le v) h rfl e rfl
theorem dq_159 {v : Int} (h : dN_B c n N) (e : dk_s2 n N pc 159 v = true) : decode c pc = .ok (.if_icmp .eq v, 3) := dN_s2 (J := fun v => .if_icmp .eq v) h rfl e rfl
theorem dq_160 {v : Int} (h : dN_B c n N) (e : dk_s2 n N pc 160 v = true) : decode c pc = .ok (.if_icmp .ne v, 3) := dN_s2 (J := fun v => .if_icmp .ne v) h rfl e rfl
theorem dq_161 {v : Int} (h : dN_B c n N) (e : dk_s2 n N pc 161 v = true) : decode c pc = .ok (.if_icmp .lt v, 3) := dN_s2 (J := fun v => .if_icmp .lt v) h rfl e rfl
theorem dq_162 {v : Int} (h : dN_B c n N) (e : dk_s2 n N pc 162 v = true) : decode c pc = .ok (.if_icmp .ge v, 3) := dN_s2 (J := fun v => .if_icmp .ge v) h rfl e rfl
theorem dq_163 {v : Int} (h : dN_B c n N) (e : dk_s2 n N pc 163 v = true) : decode c pc = .ok (.if_icmp .gt v, 3) := dN_s2 (J := fun v => .if_icmp .gt v) h rfl e rfl
theorem dq_164 {v : Int} (h : dN_B c n N) (e : dk_s2 n N pc 164 v = true) : decode c pc = .ok (.if_icmp .le v, 3) := dN_s2 (J := fun v => .if_icmp .le v) h rfl e rfl
theorem dq_167 {v : Int} (h : dN_B c n N) (e : dk_s2 n N pc 167 v = true) : decode c pc = .ok (.goto v, 3) := dN_s2 (J := fun v => .goto v) h rfl e rfl
theorem dq_172 (h : dN_B c n N) (e : dk_0 n N pc 172 = true) : decode c pc = .ok (.ireturn, 1) := dN_0 h rfl e rfl
theorem dq_173 (h : dN_B c n N) (e : dk_0 n N pc 173 = true) : decode c pc = .ok (.lreturn, 1) := dN_0 h rfl e rfl
theorem dq_176 (h : dN_B c n N) (e : dk_0 n N pc 176 = true) : decode c pc = .ok (.areturn, 1) := dN_0 h rfl e rfl
theorem dq_177 (h : dN_B c n N) (e : dk_0 n N pc 177 = true) : decode c pc = .ok (.return_, 1) := dN_0 h rfl e rfl
theorem dq_178 {v : Nat} (h : dN_B c n N) (e : dk_u2 n N pc 178 v = true) : decode c pc = .ok (.getstatic v, 3) := dN_u2 (J := fun v => .getstatic v) h rfl e rfl
theorem dq_180 {v : Nat} (h : dN_B c n N) (e : dk_u2 n N pc 180 v = true) : decode c pc = .ok (.getfield v, 3) := dN_u2 (J := fun v => .getfield v) h rfl e rfl
theorem dq_181 {v : Nat} (h : dN_B c n N) (e : dk_u2 n N pc 181 v = true) : decode c pc = .ok (.putfield v, 3) := dN_u2 (J := fun v => .putfield v) h rfl e rfl
theorem dq_182 {v : Nat} (h : dN_B c n N) (e : dk_u2 n N pc 182 v = true) : decode c pc = .ok (.invokevirtual v, 3) := dN_u2 (J := fun v => .invokevirtual v) h rfl e rfl
theorem dq_183 {v : Nat} (h : dN_B c n N) (e : dk_u2 n N pc 183 v = true) : decode c pc = .ok (.invokespecial v, 3) := dN_u2 (J := fun v => .invokespecial v) h rfl e rfl
theorem dq_184 {v : Nat} (h : dN_B c n N) (e : dk_u2 n N pc 184 v = true) : decode c pc = .ok (.invokestatic v, 3) := dN_u2 (J := fun v => .invokestatic v) h rfl e rfl
theorem dq_187 {v : Nat} (h : dN_B c n N) (e : dk_u2 n N pc 187 v = true) : decode c pc = .ok (.new v, 3) := dN_u2 (J := fun v => .new v) h rfl e rfl
theorem dq_189 {v : Nat} (h : dN_B c n N) (e : dk_u2 n N pc 189 v = true) : decode c pc = .ok (.anewarray v, 3) := dN_u2 (J := fun v => .anewarray v) h rfl e rfl
theorem dq_190 (h : dN_B c n N) (e : dk_0 n N pc 190 = true) : decode c pc = .ok (.arraylength, 1) := dN_0 h rfl e rfl
theorem dq_191 (h : dN_B c n N) (e : dk_0 n N pc 191 = true) : decode c pc = .ok (.athrow, 1) := dN_0 h rfl e rfl
end DN
