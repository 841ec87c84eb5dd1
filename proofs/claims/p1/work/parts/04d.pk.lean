/-! DECODING by the bytes that stand at a row, by program: the decoder's long match once for an opcode, not once for a row -/
def zk_pfx : List Nat → List UInt8 → Bool
  | [], _ => true
  | _ :: _, [] => false
  | n :: r, b :: s => Nat.beq b.toNat n && zk_pfx r s
def zk_P (c : ByteArray) (pc : Nat) (l : List Nat) : Bool := zk_pfx l (c.data.toList.drop pc)
def zk_w (m : Int) (v : Int) : Nat := (v % m).toNat
def zk_S (c : ByteArray) (pc o : Nat) (v : Int) : Bool := decide (Reader.signed 16 (zk_w 65536 v) = v) && zk_P c pc [o, zk_w 65536 v / 256, zk_w 65536 v % 256]
def zk_I (c : ByteArray) (pc i : Nat) (v : Int) : Bool := decide (Reader.signed 8 (zk_w 256 v) = v) && zk_P c pc [132, i, zk_w 256 v]
def zk_B (c : ByteArray) (pc : Nat) (v : Int) : Bool := decide (Reader.signed 8 (zk_w 256 v) = v) && zk_P c pc [16, zk_w 256 v]
theorem zk_drop : ∀ (l : List UInt8) (pc : Nat) (b : UInt8) (s : List UInt8), l.drop pc = b :: s → ∃ h : pc < l.length, l[pc] = b ∧ l.drop (pc + 1) = s
  | [], _, _, _, h => absurd h (by simp)
  | _ :: _, 0, _, _, h => by
    cases h
    exact ⟨Nat.succ_pos _, rfl, rfl⟩
  | _ :: t, k + 1, b, s, h => by
    obtain ⟨h1, h2, h3⟩ := zk_drop t k b s h
    exact ⟨Nat.succ_lt_succ h1, h2, h3⟩
theorem zk_pk {c : ByteArray} {pc n : Nat} {r : List Nat} (h : zk_P c pc (n :: r) = true) : (∃ hp : pc < c.size, c[pc].toNat = n) ∧ zk_P c (pc + 1) r = true := by
  unfold zk_P at h
  cases hd : c.data.toList.drop pc with
  | nil => rw [hd] at h; exact absurd h (by simp [zk_pfx])
  | cons b s =>
    obtain ⟨hl, e1, e2⟩ := zk_drop c.data.toList pc b s hd
    rw [hd] at h
    simp only [zk_pfx, Bool.and_eq_true] at h
    refine ⟨⟨hl, ?_⟩, ?_⟩
    · have e3 : b.toNat = n := Nat.eq_of_beq_eq_true h.1
      exact (congrArg UInt8.toNat e1).trans e3
    · show zk_pfx r (c.data.toList.drop (pc + 1)) = true
      rw [e2]
      exact h.2
theorem zk_tl {c : ByteArray} {pc n : Nat} {r : List Nat} (h : zk_P c pc (n :: r) = true) : zk_P c (pc + 1) r = true := (zk_pk h).2
theorem zk_run1 {c : ByteArray} {pc : Nat} (hp : pc < c.size) : Reader.runAt (Reader.u1 : Decoder Nat) c pc = .ok (c[pc].toNat, pc + 1) := by
  have e : Reader.runAt (Reader.u1 : Decoder Nat) c pc = Reader.runAt (if h : pc < c.size then (do set (pc + 1); pure c[pc].toNat) else throw (HasTruncated.truncated pc) : Decoder Nat) c pc := rfl
  rw [e, dif_pos hp]
  rfl
theorem zk_u1 {c : ByteArray} {pc n : Nat} {r : List Nat} (h : zk_P c pc (n :: r) = true) : Reader.runAt (Reader.u1 : Decoder Nat) c pc = .ok (n, pc + 1) := by
  obtain ⟨⟨hp, e⟩, -⟩ := zk_pk h
  rw [zk_run1 hp, e]
theorem zk_b {α β : Type} {x : Decoder α} {f : α → Decoder β} {c : ByteArray} {pc q : Nat} {a : α} (h : Reader.runAt x c pc = .ok (a, q)) : Reader.runAt (x >>= f) c pc = Reader.runAt (f a) c q := by
  have e := congrArg (fun y : Except DecodeError (α × Nat) => Reader.runAt (((fun _ _ => y) : Decoder α) >>= f) c pc) h
  exact e
theorem zk_m {α β : Type} {x : Decoder α} {f : α → β} {c : ByteArray} {pc q : Nat} {a : α} (h : Reader.runAt x c pc = .ok (a, q)) : Reader.runAt (f <$> x) c pc = .ok (f a, q) := by
  have e := congrArg (fun y : Except DecodeError (α × Nat) => Reader.runAt (f <$> ((fun _ _ => y) : Decoder α)) c pc) h
  exact e
theorem zk_u2 {c : ByteArray} {pc v : Nat} {r : List Nat} (h : zk_P c pc (v / 256 :: v % 256 :: r) = true) : Reader.runAt (Reader.u2 : Decoder Nat) c pc = .ok (v, pc + 2) := by
  refine (zk_b (x := Reader.u1) (zk_u1 h)).trans ?_
  refine (zk_b (x := Reader.u1) (zk_u1 (zk_tl h))).trans ?_
  have e : v / 256 * 256 + v % 256 = v := by omega
  exact congrArg (fun z => (Except.ok (z, pc + 2) : Except DecodeError (Nat × Nat))) e
theorem zk_s1 {c : ByteArray} {pc : Nat} {v : Int} {r : List Nat} (h1 : Reader.signed 8 (zk_w 256 v) = v) (h : zk_P c pc (zk_w 256 v :: r) = true) : Reader.runAt (Reader.s1 : Decoder Int) c pc = .ok (v, pc + 1) := by
  have e := zk_m (f := Reader.signed 8) (zk_u1 h)
  rw [h1] at e
  exact e
theorem zk_s2 {c : ByteArray} {pc : Nat} {v : Int} {r : List Nat} (h1 : Reader.signed 16 (zk_w 65536 v) = v) (h : zk_P c pc (zk_w 65536 v / 256 :: zk_w 65536 v % 256 :: r) = true) : Reader.runAt (Reader.s2 : Decoder Int) c pc = .ok (v, pc + 2) := by
  have e := zk_m (f := Reader.signed 16) (zk_u2 h)
  rw [h1] at e
  exact e
theorem zk_fin {c : ByteArray} {pc len : Nat} {i : Instr} (h : Reader.runAt (Decoder.instr pc) c pc = .ok (i, pc + len)) : decode c pc = .ok (i, len) := by
  unfold decode
  rw [h]
  have e : pc + len - pc = len := by omega
  exact congrArg (fun z => (Except.ok (i, z) : Except DecodeError (Instr × Nat))) e
theorem zk_and {a : Prop} [Decidable a] {b : Bool} (h : (decide a && b) = true) : a ∧ b = true := by
  rw [Bool.and_eq_true] at h
  exact ⟨of_decide_eq_true h.1, h.2⟩
theorem zk_42 {c : ByteArray} {pc : Nat} (h : zk_P c pc [42] = true) : decode c pc = .ok (.aload_n 0, 1) := by
  refine zk_fin ?_
  refine (zk_b (x := Reader.u1) (zk_u1 h)).trans ?_
  rfl
theorem zk_43 {c : ByteArray} {pc : Nat} (h : zk_P c pc [43] = true) : decode c pc = .ok (.aload_n 1, 1) := by
  refine zk_fin ?_
  refine (zk_b (x := Reader.u1) (zk_u1 h)).trans ?_
  rfl
theorem zk_44 {c : ByteArray} {pc : Nat} (h : zk_P c pc [44] = true) : decode c pc = .ok (.aload_n 2, 1) := by
  refine zk_fin ?_
  refine (zk_b (x := Reader.u1) (zk_u1 h)).trans ?_
  rfl
theorem zk_45 {c : ByteArray} {pc : Nat} (h : zk_P c pc [45] = true) : decode c pc = .ok (.aload_n 3, 1) := by
  refine zk_fin ?_
  refine (zk_b (x := Reader.u1) (zk_u1 h)).trans ?_
  rfl
theorem zk_26 {c : ByteArray} {pc : Nat} (h : zk_P c pc [26] = true) : decode c pc = .ok (.iload_n 0, 1) := by
  refine zk_fin ?_
  refine (zk_b (x := Reader.u1) (zk_u1 h)).trans ?_
  rfl
theorem zk_27 {c : ByteArray} {pc : Nat} (h : zk_P c pc [27] = true) : decode c pc = .ok (.iload_n 1, 1) := by
  refine zk_fin ?_
  refine (zk_b (x := Reader.u1) (zk_u1 h)).trans ?_
  rfl
theorem zk_28 {c : ByteArray} {pc : Nat} (h : zk_P c pc [28] = true) : decode c pc = .ok (.iload_n 2, 1) := by
  refine zk_fin ?_
  refine (zk_b (x := Reader.u1) (zk_u1 h)).trans ?_
  rfl
theorem zk_29 {c : ByteArray} {pc : Nat} (h : zk_P c pc [29] = true) : decode c pc = .ok (.iload_n 3, 1) := by
  refine zk_fin ?_
  refine (zk_b (x := Reader.u1) (zk_u1 h)).trans ?_
  rfl
theorem zk_172 {c : ByteArray} {pc : Nat} (h : zk_P c pc [172] = true) : decode c pc = .ok (.ireturn, 1) := by
  refine zk_fin ?_
  refine (zk_b (x := Reader.u1) (zk_u1 h)).trans ?_
  rfl
theorem zk_2 {c : ByteArray} {pc : Nat} (h : zk_P c pc [2] = true) : decode c pc = .ok (.iconst (-1), 1) := by
  refine zk_fin ?_
  refine (zk_b (x := Reader.u1) (zk_u1 h)).trans ?_
  rfl
theorem zk_3 {c : ByteArray} {pc : Nat} (h : zk_P c pc [3] = true) : decode c pc = .ok (.iconst 0, 1) := by
  refine zk_fin ?_
  refine (zk_b (x := Reader.u1) (zk_u1 h)).trans ?_
  rfl
theorem zk_4 {c : ByteArray} {pc : Nat} (h : zk_P c pc [4] = true) : decode c pc = .ok (.iconst 1, 1) := by
  refine zk_fin ?_
  refine (zk_b (x := Reader.u1) (zk_u1 h)).trans ?_
  rfl
theorem zk_5 {c : ByteArray} {pc : Nat} (h : zk_P c pc [5] = true) : decode c pc = .ok (.iconst 2, 1) := by
  refine zk_fin ?_
  refine (zk_b (x := Reader.u1) (zk_u1 h)).trans ?_
  rfl
theorem zk_96 {c : ByteArray} {pc : Nat} (h : zk_P c pc [96] = true) : decode c pc = .ok (.iadd, 1) := by
  refine zk_fin ?_
  refine (zk_b (x := Reader.u1) (zk_u1 h)).trans ?_
  rfl
theorem zk_46 {c : ByteArray} {pc : Nat} (h : zk_P c pc [46] = true) : decode c pc = .ok (.iaload, 1) := by
  refine zk_fin ?_
  refine (zk_b (x := Reader.u1) (zk_u1 h)).trans ?_
  rfl
theorem zk_89 {c : ByteArray} {pc : Nat} (h : zk_P c pc [89] = true) : decode c pc = .ok (.dup, 1) := by
  refine zk_fin ?_
  refine (zk_b (x := Reader.u1) (zk_u1 h)).trans ?_
  rfl
theorem zk_60 {c : ByteArray} {pc : Nat} (h : zk_P c pc [60] = true) : decode c pc = .ok (.istore_n 1, 1) := by
  refine zk_fin ?_
  refine (zk_b (x := Reader.u1) (zk_u1 h)).trans ?_
  rfl
theorem zk_61 {c : ByteArray} {pc : Nat} (h : zk_P c pc [61] = true) : decode c pc = .ok (.istore_n 2, 1) := by
  refine zk_fin ?_
  refine (zk_b (x := Reader.u1) (zk_u1 h)).trans ?_
  rfl
theorem zk_62 {c : ByteArray} {pc : Nat} (h : zk_P c pc [62] = true) : decode c pc = .ok (.istore_n 3, 1) := by
  refine zk_fin ?_
  refine (zk_b (x := Reader.u1) (zk_u1 h)).trans ?_
  rfl
theorem zk_100 {c : ByteArray} {pc : Nat} (h : zk_P c pc [100] = true) : decode c pc = .ok (.isub, 1) := by
  refine zk_fin ?_
  refine (zk_b (x := Reader.u1) (zk_u1 h)).trans ?_
  rfl
theorem zk_177 {c : ByteArray} {pc : Nat} (h : zk_P c pc [177] = true) : decode c pc = .ok (.return_, 1) := by
  refine zk_fin ?_
  refine (zk_b (x := Reader.u1) (zk_u1 h)).trans ?_
  rfl
theorem zk_133 {c : ByteArray} {pc : Nat} (h : zk_P c pc [133] = true) : decode c pc = .ok (.i2l, 1) := by
  refine zk_fin ?_
  refine (zk_b (x := Reader.u1) (zk_u1 h)).trans ?_
  rfl
theorem zk_191 {c : ByteArray} {pc : Nat} (h : zk_P c pc [191] = true) : decode c pc = .ok (.athrow, 1) := by
  refine zk_fin ?_
  refine (zk_b (x := Reader.u1) (zk_u1 h)).trans ?_
  rfl
theorem zk_77 {c : ByteArray} {pc : Nat} (h : zk_P c pc [77] = true) : decode c pc = .ok (.astore_n 2, 1) := by
  refine zk_fin ?_
  refine (zk_b (x := Reader.u1) (zk_u1 h)).trans ?_
  rfl
theorem zk_78 {c : ByteArray} {pc : Nat} (h : zk_P c pc [78] = true) : decode c pc = .ok (.astore_n 3, 1) := by
  refine zk_fin ?_
  refine (zk_b (x := Reader.u1) (zk_u1 h)).trans ?_
  rfl
theorem zk_190 {c : ByteArray} {pc : Nat} (h : zk_P c pc [190] = true) : decode c pc = .ok (.arraylength, 1) := by
  refine zk_fin ?_
  refine (zk_b (x := Reader.u1) (zk_u1 h)).trans ?_
  rfl
theorem zk_176 {c : ByteArray} {pc : Nat} (h : zk_P c pc [176] = true) : decode c pc = .ok (.areturn, 1) := by
  refine zk_fin ?_
  refine (zk_b (x := Reader.u1) (zk_u1 h)).trans ?_
  rfl
theorem zk_87 {c : ByteArray} {pc : Nat} (h : zk_P c pc [87] = true) : decode c pc = .ok (.pop, 1) := by
  refine zk_fin ?_
  refine (zk_b (x := Reader.u1) (zk_u1 h)).trans ?_
  rfl
theorem zk_21 {c : ByteArray} {pc : Nat} {v : Nat} (h : zk_P c pc [21, v] = true) : decode c pc = .ok (.iload v, 2) := by
  refine zk_fin ?_
  refine (zk_b (x := Reader.u1) (zk_u1 h)).trans ?_
  exact zk_b (x := Reader.u1) (f := fun a => (pure (.iload a) : Decoder Instr)) (zk_u1 (zk_tl h))
theorem zk_54 {c : ByteArray} {pc : Nat} {v : Nat} (h : zk_P c pc [54, v] = true) : decode c pc = .ok (.istore v, 2) := by
  refine zk_fin ?_
  refine (zk_b (x := Reader.u1) (zk_u1 h)).trans ?_
  exact zk_b (x := Reader.u1) (f := fun a => (pure (.istore a) : Decoder Instr)) (zk_u1 (zk_tl h))
theorem zk_25 {c : ByteArray} {pc : Nat} {v : Nat} (h : zk_P c pc [25, v] = true) : decode c pc = .ok (.aload v, 2) := by
  refine zk_fin ?_
  refine (zk_b (x := Reader.u1) (zk_u1 h)).trans ?_
  exact zk_b (x := Reader.u1) (f := fun a => (pure (.aload a) : Decoder Instr)) (zk_u1 (zk_tl h))
theorem zk_58 {c : ByteArray} {pc : Nat} {v : Nat} (h : zk_P c pc [58, v] = true) : decode c pc = .ok (.astore v, 2) := by
  refine zk_fin ?_
  refine (zk_b (x := Reader.u1) (zk_u1 h)).trans ?_
  exact zk_b (x := Reader.u1) (f := fun a => (pure (.astore a) : Decoder Instr)) (zk_u1 (zk_tl h))
theorem zk_18 {c : ByteArray} {pc : Nat} {v : Nat} (h : zk_P c pc [18, v] = true) : decode c pc = .ok (.ldc v, 2) := by
  refine zk_fin ?_
  refine (zk_b (x := Reader.u1) (zk_u1 h)).trans ?_
  exact zk_b (x := Reader.u1) (f := fun a => (pure (.ldc a) : Decoder Instr)) (zk_u1 (zk_tl h))
theorem zk_180 {c : ByteArray} {pc : Nat} {v : Nat} (h : zk_P c pc [180, v / 256, v % 256] = true) : decode c pc = .ok (.getfield v, 3) := by
  refine zk_fin ?_
  refine (zk_b (x := Reader.u1) (zk_u1 h)).trans ?_
  exact zk_b (x := Reader.u2) (f := fun a => (pure (.getfield a) : Decoder Instr)) (zk_u2 (zk_tl h))
theorem zk_182 {c : ByteArray} {pc : Nat} {v : Nat} (h : zk_P c pc [182, v / 256, v % 256] = true) : decode c pc = .ok (.invokevirtual v, 3) := by
  refine zk_fin ?_
  refine (zk_b (x := Reader.u1) (zk_u1 h)).trans ?_
  exact zk_b (x := Reader.u2) (f := fun a => (pure (.invokevirtual a) : Decoder Instr)) (zk_u2 (zk_tl h))
theorem zk_181 {c : ByteArray} {pc : Nat} {v : Nat} (h : zk_P c pc [181, v / 256, v % 256] = true) : decode c pc = .ok (.putfield v, 3) := by
  refine zk_fin ?_
  refine (zk_b (x := Reader.u1) (zk_u1 h)).trans ?_
  exact zk_b (x := Reader.u2) (f := fun a => (pure (.putfield a) : Decoder Instr)) (zk_u2 (zk_tl h))
theorem zk_184 {c : ByteArray} {pc : Nat} {v : Nat} (h : zk_P c pc [184, v / 256, v % 256] = true) : decode c pc = .ok (.invokestatic v, 3) := by
  refine zk_fin ?_
  refine (zk_b (x := Reader.u1) (zk_u1 h)).trans ?_
  exact zk_b (x := Reader.u2) (f := fun a => (pure (.invokestatic a) : Decoder Instr)) (zk_u2 (zk_tl h))
theorem zk_183 {c : ByteArray} {pc : Nat} {v : Nat} (h : zk_P c pc [183, v / 256, v % 256] = true) : decode c pc = .ok (.invokespecial v, 3) := by
  refine zk_fin ?_
  refine (zk_b (x := Reader.u1) (zk_u1 h)).trans ?_
  exact zk_b (x := Reader.u2) (f := fun a => (pure (.invokespecial a) : Decoder Instr)) (zk_u2 (zk_tl h))
theorem zk_192 {c : ByteArray} {pc : Nat} {v : Nat} (h : zk_P c pc [192, v / 256, v % 256] = true) : decode c pc = .ok (.checkcast v, 3) := by
  refine zk_fin ?_
  refine (zk_b (x := Reader.u1) (zk_u1 h)).trans ?_
  exact zk_b (x := Reader.u2) (f := fun a => (pure (.checkcast a) : Decoder Instr)) (zk_u2 (zk_tl h))
theorem zk_193 {c : ByteArray} {pc : Nat} {v : Nat} (h : zk_P c pc [193, v / 256, v % 256] = true) : decode c pc = .ok (.instanceof v, 3) := by
  refine zk_fin ?_
  refine (zk_b (x := Reader.u1) (zk_u1 h)).trans ?_
  exact zk_b (x := Reader.u2) (f := fun a => (pure (.instanceof a) : Decoder Instr)) (zk_u2 (zk_tl h))
theorem zk_187 {c : ByteArray} {pc : Nat} {v : Nat} (h : zk_P c pc [187, v / 256, v % 256] = true) : decode c pc = .ok (.new v, 3) := by
  refine zk_fin ?_
  refine (zk_b (x := Reader.u1) (zk_u1 h)).trans ?_
  exact zk_b (x := Reader.u2) (f := fun a => (pure (.new a) : Decoder Instr)) (zk_u2 (zk_tl h))
theorem zk_167 {c : ByteArray} {pc : Nat} {v : Int} (hh : zk_S c pc 167 v = true) : decode c pc = .ok (.goto v, 3) := by
  obtain ⟨h1, h⟩ := zk_and hh
  refine zk_fin ?_
  refine (zk_b (x := Reader.u1) (zk_u1 h)).trans ?_
  exact zk_b (x := Reader.s2) (f := fun a => (pure (.goto a) : Decoder Instr)) (zk_s2 h1 (zk_tl h))
theorem zk_153 {c : ByteArray} {pc : Nat} {v : Int} (hh : zk_S c pc 153 v = true) : decode c pc = .ok (.ifCond .eq v, 3) := by
  obtain ⟨h1, h⟩ := zk_and hh
  refine zk_fin ?_
  refine (zk_b (x := Reader.u1) (zk_u1 h)).trans ?_
  exact zk_b (x := Reader.s2) (f := fun a => (pure (.ifCond .eq a) : Decoder Instr)) (zk_s2 h1 (zk_tl h))
theorem zk_154 {c : ByteArray} {pc : Nat} {v : Int} (hh : zk_S c pc 154 v = true) : decode c pc = .ok (.ifCond .ne v, 3) := by
  obtain ⟨h1, h⟩ := zk_and hh
  refine zk_fin ?_
  refine (zk_b (x := Reader.u1) (zk_u1 h)).trans ?_
  exact zk_b (x := Reader.s2) (f := fun a => (pure (.ifCond .ne a) : Decoder Instr)) (zk_s2 h1 (zk_tl h))
theorem zk_155 {c : ByteArray} {pc : Nat} {v : Int} (hh : zk_S c pc 155 v = true) : decode c pc = .ok (.ifCond .lt v, 3) := by
  obtain ⟨h1, h⟩ := zk_and hh
  refine zk_fin ?_
  refine (zk_b (x := Reader.u1) (zk_u1 h)).trans ?_
  exact zk_b (x := Reader.s2) (f := fun a => (pure (.ifCond .lt a) : Decoder Instr)) (zk_s2 h1 (zk_tl h))
theorem zk_159 {c : ByteArray} {pc : Nat} {v : Int} (hh : zk_S c pc 159 v = true) : decode c pc = .ok (.if_icmp .eq v, 3) := by
  obtain ⟨h1, h⟩ := zk_and hh
  refine zk_fin ?_
  refine (zk_b (x := Reader.u1) (zk_u1 h)).trans ?_
  exact zk_b (x := Reader.s2) (f := fun a => (pure (.if_icmp .eq a) : Decoder Instr)) (zk_s2 h1 (zk_tl h))
theorem zk_160 {c : ByteArray} {pc : Nat} {v : Int} (hh : zk_S c pc 160 v = true) : decode c pc = .ok (.if_icmp .ne v, 3) := by
  obtain ⟨h1, h⟩ := zk_and hh
  refine zk_fin ?_
  refine (zk_b (x := Reader.u1) (zk_u1 h)).trans ?_
  exact zk_b (x := Reader.s2) (f := fun a => (pure (.if_icmp .ne a) : Decoder Instr)) (zk_s2 h1 (zk_tl h))
theorem zk_161 {c : ByteArray} {pc : Nat} {v : Int} (hh : zk_S c pc 161 v = true) : decode c pc = .ok (.if_icmp .lt v, 3) := by
  obtain ⟨h1, h⟩ := zk_and hh
  refine zk_fin ?_
  refine (zk_b (x := Reader.u1) (zk_u1 h)).trans ?_
  exact zk_b (x := Reader.s2) (f := fun a => (pure (.if_icmp .lt a) : Decoder Instr)) (zk_s2 h1 (zk_tl h))
theorem zk_162 {c : ByteArray} {pc : Nat} {v : Int} (hh : zk_S c pc 162 v = true) : decode c pc = .ok (.if_icmp .ge v, 3) := by
  obtain ⟨h1, h⟩ := zk_and hh
  refine zk_fin ?_
  refine (zk_b (x := Reader.u1) (zk_u1 h)).trans ?_
  exact zk_b (x := Reader.s2) (f := fun a => (pure (.if_icmp .ge a) : Decoder Instr)) (zk_s2 h1 (zk_tl h))
theorem zk_163 {c : ByteArray} {pc : Nat} {v : Int} (hh : zk_S c pc 163 v = true) : decode c pc = .ok (.if_icmp .gt v, 3) := by
  obtain ⟨h1, h⟩ := zk_and hh
  refine zk_fin ?_
  refine (zk_b (x := Reader.u1) (zk_u1 h)).trans ?_
  exact zk_b (x := Reader.s2) (f := fun a => (pure (.if_icmp .gt a) : Decoder Instr)) (zk_s2 h1 (zk_tl h))
theorem zk_16 {c : ByteArray} {pc : Nat} {v : Int} (hh : zk_B c pc v = true) : decode c pc = .ok (.bipush v, 2) := by
  obtain ⟨h1, h⟩ := zk_and hh
  refine zk_fin ?_
  refine (zk_b (x := Reader.u1) (zk_u1 h)).trans ?_
  exact zk_b (x := Reader.s1) (f := fun a => (pure (.bipush a) : Decoder Instr)) (zk_s1 h1 (zk_tl h))
theorem zk_132 {c : ByteArray} {pc : Nat} {i : Nat} {v : Int} (hh : zk_I c pc i v = true) : decode c pc = .ok (.iinc i v, 3) := by
  obtain ⟨h1, h⟩ := zk_and hh
  refine zk_fin ?_
  refine (zk_b (x := Reader.u1) (zk_u1 h)).trans ?_
  refine (zk_b (x := Reader.u1) (f := fun a => (Reader.s1 >>= fun b => pure (.iinc a b) : Decoder Instr)) (zk_u1 (zk_tl h))).trans ?_
  exact zk_b (x := Reader.s1) (f := fun b => (pure (.iinc i b) : Decoder Instr)) (zk_s1 h1 (zk_tl (zk_tl h)))
/-! SEGMENTS, a row's lemma each, by program -/
theorem oc_r {V : EV} {D : TB} {y pc : Nat} {ins : Instr} {aux : List Nat} {rest : List AI} (h : okRow V D y (hd0 rest) pc ins aux) (hr : okSeg V D y rest) : okSeg V D y ((pc, ins, aux) :: rest) := ⟨h, hr⟩
theorem oc_nop {V : EV} {D : TB} {y pc t : Nat} {rest : List AI} {g : List AI} (hs : mSeg D y t = g) (hq : hd0 g = pc) (hr : okSeg V D y rest) : okSeg V D y ((pc, .nop, [t]) :: rest) := by
  subst hs
  exact ⟨hq, hr⟩
theorem oc_aconst_null {V : EV} {D : TB} {y pc : Nat} {rest : List AI} {b : ByteArray} {aux : List Nat} (hb : mBytes D y = b) (hd : decode b pc = .ok (.aconst_null, 1)) (hn : hd0 rest = pc + 1) (hr : okSeg V D y rest) : okSeg V D y ((pc, .aconst_null, aux) :: rest) := by
  subst hb
  exact ⟨⟨hd, hn⟩, hr⟩
theorem oc_iconst {V : EV} {D : TB} {y pc : Nat} {rest : List AI} {b : ByteArray} {a : Int} {aux : List Nat} (hb : mBytes D y = b) (hd : decode b pc = .ok (.iconst a, 1)) (hn : hd0 rest = pc + 1) (hr : okSeg V D y rest) : okSeg V D y ((pc, .iconst a, aux) :: rest) := by
  subst hb
  exact ⟨⟨hd, hn⟩, hr⟩
theorem oc_bipush {V : EV} {D : TB} {y pc : Nat} {rest : List AI} {b : ByteArray} {a : Int} {aux : List Nat} (hb : mBytes D y = b) (hd : decode b pc = .ok (.bipush a, 2)) (hn : hd0 rest = pc + 2) (hr : okSeg V D y rest) : okSeg V D y ((pc, .bipush a, aux) :: rest) := by
  subst hb
  exact ⟨⟨hd, hn⟩, hr⟩
theorem oc_sipush {V : EV} {D : TB} {y pc : Nat} {rest : List AI} {b : ByteArray} {a : Int} {aux : List Nat} (hb : mBytes D y = b) (hd : decode b pc = .ok (.sipush a, 3)) (hn : hd0 rest = pc + 3) (hr : okSeg V D y rest) : okSeg V D y ((pc, .sipush a, aux) :: rest) := by
  subst hb
  exact ⟨⟨hd, hn⟩, hr⟩
theorem oc_lconst {V : EV} {D : TB} {y pc : Nat} {rest : List AI} {b : ByteArray} {a : Fin 2} {aux : List Nat} (hb : mBytes D y = b) (hd : decode b pc = .ok (.lconst a, 1)) (hn : hd0 rest = pc + 1) (hr : okSeg V D y rest) : okSeg V D y ((pc, .lconst a, aux) :: rest) := by
  subst hb
  exact ⟨⟨hd, hn⟩, hr⟩
theorem oc_iaload {V : EV} {D : TB} {y pc : Nat} {rest : List AI} {b : ByteArray} {aux : List Nat} (hb : mBytes D y = b) (hd : decode b pc = .ok (.iaload, 1)) (hn : hd0 rest = pc + 1) (hr : okSeg V D y rest) : okSeg V D y ((pc, .iaload, aux) :: rest) := by
  subst hb
  exact ⟨⟨hd, hn⟩, hr⟩
theorem oc_iastore {V : EV} {D : TB} {y pc : Nat} {rest : List AI} {b : ByteArray} {aux : List Nat} (hb : mBytes D y = b) (hd : decode b pc = .ok (.iastore, 1)) (hn : hd0 rest = pc + 1) (hr : okSeg V D y rest) : okSeg V D y ((pc, .iastore, aux) :: rest) := by
  subst hb
  exact ⟨⟨hd, hn⟩, hr⟩
theorem oc_aaload {V : EV} {D : TB} {y pc : Nat} {rest : List AI} {b : ByteArray} {aux : List Nat} (hb : mBytes D y = b) (hd : decode b pc = .ok (.aaload, 1)) (hn : hd0 rest = pc + 1) (hr : okSeg V D y rest) : okSeg V D y ((pc, .aaload, aux) :: rest) := by
  subst hb
  exact ⟨⟨hd, hn⟩, hr⟩
theorem oc_aastore {V : EV} {D : TB} {y pc : Nat} {rest : List AI} {b : ByteArray} {aux : List Nat} (hb : mBytes D y = b) (hd : decode b pc = .ok (.aastore, 1)) (hn : hd0 rest = pc + 1) (hr : okSeg V D y rest) : okSeg V D y ((pc, .aastore, aux) :: rest) := by
  subst hb
  exact ⟨⟨hd, hn⟩, hr⟩
theorem oc_baload {V : EV} {D : TB} {y pc : Nat} {rest : List AI} {b : ByteArray} {aux : List Nat} (hb : mBytes D y = b) (hd : decode b pc = .ok (.baload, 1)) (hn : hd0 rest = pc + 1) (hr : okSeg V D y rest) : okSeg V D y ((pc, .baload, aux) :: rest) := by
  subst hb
  exact ⟨⟨hd, hn⟩, hr⟩
theorem oc_bastore {V : EV} {D : TB} {y pc : Nat} {rest : List AI} {b : ByteArray} {aux : List Nat} (hb : mBytes D y = b) (hd : decode b pc = .ok (.bastore, 1)) (hn : hd0 rest = pc + 1) (hr : okSeg V D y rest) : okSeg V D y ((pc, .bastore, aux) :: rest) := by
  subst hb
  exact ⟨⟨hd, hn⟩, hr⟩
theorem oc_arraylength {V : EV} {D : TB} {y pc : Nat} {rest : List AI} {b : ByteArray} {aux : List Nat} (hb : mBytes D y = b) (hd : decode b pc = .ok (.arraylength, 1)) (hn : hd0 rest = pc + 1) (hr : okSeg V D y rest) : okSeg V D y ((pc, .arraylength, aux) :: rest) := by
  subst hb
  exact ⟨⟨hd, hn⟩, hr⟩
theorem oc_dup {V : EV} {D : TB} {y pc : Nat} {rest : List AI} {b : ByteArray} {aux : List Nat} (hb : mBytes D y = b) (hd : decode b pc = .ok (.dup, 1)) (hn : hd0 rest = pc + 1) (hr : okSeg V D y rest) : okSeg V D y ((pc, .dup, aux) :: rest) := by
  subst hb
  exact ⟨⟨hd, hn⟩, hr⟩
theorem oc_dup_x1 {V : EV} {D : TB} {y pc : Nat} {rest : List AI} {b : ByteArray} {aux : List Nat} (hb : mBytes D y = b) (hd : decode b pc = .ok (.dup_x1, 1)) (hn : hd0 rest = pc + 1) (hr : okSeg V D y rest) : okSeg V D y ((pc, .dup_x1, aux) :: rest) := by
  subst hb
  exact ⟨⟨hd, hn⟩, hr⟩
theorem oc_dup2 {V : EV} {D : TB} {y pc : Nat} {rest : List AI} {b : ByteArray} {aux : List Nat} (hb : mBytes D y = b) (hd : decode b pc = .ok (.dup2, 1)) (hn : hd0 rest = pc + 1) (hr : okSeg V D y rest) : okSeg V D y ((pc, .dup2, aux) :: rest) := by
  subst hb
  exact ⟨⟨hd, hn⟩, hr⟩
theorem oc_pop {V : EV} {D : TB} {y pc : Nat} {rest : List AI} {b : ByteArray} {aux : List Nat} (hb : mBytes D y = b) (hd : decode b pc = .ok (.pop, 1)) (hn : hd0 rest = pc + 1) (hr : okSeg V D y rest) : okSeg V D y ((pc, .pop, aux) :: rest) := by
  subst hb
  exact ⟨⟨hd, hn⟩, hr⟩
theorem oc_pop2 {V : EV} {D : TB} {y pc : Nat} {rest : List AI} {b : ByteArray} {aux : List Nat} (hb : mBytes D y = b) (hd : decode b pc = .ok (.pop2, 1)) (hn : hd0 rest = pc + 1) (hr : okSeg V D y rest) : okSeg V D y ((pc, .pop2, aux) :: rest) := by
  subst hb
  exact ⟨⟨hd, hn⟩, hr⟩
theorem oc_iadd {V : EV} {D : TB} {y pc : Nat} {rest : List AI} {b : ByteArray} {aux : List Nat} (hb : mBytes D y = b) (hd : decode b pc = .ok (.iadd, 1)) (hn : hd0 rest = pc + 1) (hr : okSeg V D y rest) : okSeg V D y ((pc, .iadd, aux) :: rest) := by
  subst hb
  exact ⟨⟨hd, hn⟩, hr⟩
theorem oc_isub {V : EV} {D : TB} {y pc : Nat} {rest : List AI} {b : ByteArray} {aux : List Nat} (hb : mBytes D y = b) (hd : decode b pc = .ok (.isub, 1)) (hn : hd0 rest = pc + 1) (hr : okSeg V D y rest) : okSeg V D y ((pc, .isub, aux) :: rest) := by
  subst hb
  exact ⟨⟨hd, hn⟩, hr⟩
theorem oc_imul {V : EV} {D : TB} {y pc : Nat} {rest : List AI} {b : ByteArray} {aux : List Nat} (hb : mBytes D y = b) (hd : decode b pc = .ok (.imul, 1)) (hn : hd0 rest = pc + 1) (hr : okSeg V D y rest) : okSeg V D y ((pc, .imul, aux) :: rest) := by
  subst hb
  exact ⟨⟨hd, hn⟩, hr⟩
theorem oc_idiv {V : EV} {D : TB} {y pc : Nat} {rest : List AI} {b : ByteArray} {aux : List Nat} (hb : mBytes D y = b) (hd : decode b pc = .ok (.idiv, 1)) (hn : hd0 rest = pc + 1) (hr : okSeg V D y rest) : okSeg V D y ((pc, .idiv, aux) :: rest) := by
  subst hb
  exact ⟨⟨hd, hn⟩, hr⟩
theorem oc_irem {V : EV} {D : TB} {y pc : Nat} {rest : List AI} {b : ByteArray} {aux : List Nat} (hb : mBytes D y = b) (hd : decode b pc = .ok (.irem, 1)) (hn : hd0 rest = pc + 1) (hr : okSeg V D y rest) : okSeg V D y ((pc, .irem, aux) :: rest) := by
  subst hb
  exact ⟨⟨hd, hn⟩, hr⟩
theorem oc_ineg {V : EV} {D : TB} {y pc : Nat} {rest : List AI} {b : ByteArray} {aux : List Nat} (hb : mBytes D y = b) (hd : decode b pc = .ok (.ineg, 1)) (hn : hd0 rest = pc + 1) (hr : okSeg V D y rest) : okSeg V D y ((pc, .ineg, aux) :: rest) := by
  subst hb
  exact ⟨⟨hd, hn⟩, hr⟩
theorem oc_ishl {V : EV} {D : TB} {y pc : Nat} {rest : List AI} {b : ByteArray} {aux : List Nat} (hb : mBytes D y = b) (hd : decode b pc = .ok (.ishl, 1)) (hn : hd0 rest = pc + 1) (hr : okSeg V D y rest) : okSeg V D y ((pc, .ishl, aux) :: rest) := by
  subst hb
  exact ⟨⟨hd, hn⟩, hr⟩
theorem oc_ishr {V : EV} {D : TB} {y pc : Nat} {rest : List AI} {b : ByteArray} {aux : List Nat} (hb : mBytes D y = b) (hd : decode b pc = .ok (.ishr, 1)) (hn : hd0 rest = pc + 1) (hr : okSeg V D y rest) : okSeg V D y ((pc, .ishr, aux) :: rest) := by
  subst hb
  exact ⟨⟨hd, hn⟩, hr⟩
theorem oc_iushr {V : EV} {D : TB} {y pc : Nat} {rest : List AI} {b : ByteArray} {aux : List Nat} (hb : mBytes D y = b) (hd : decode b pc = .ok (.iushr, 1)) (hn : hd0 rest = pc + 1) (hr : okSeg V D y rest) : okSeg V D y ((pc, .iushr, aux) :: rest) := by
  subst hb
  exact ⟨⟨hd, hn⟩, hr⟩
theorem oc_iand {V : EV} {D : TB} {y pc : Nat} {rest : List AI} {b : ByteArray} {aux : List Nat} (hb : mBytes D y = b) (hd : decode b pc = .ok (.iand, 1)) (hn : hd0 rest = pc + 1) (hr : okSeg V D y rest) : okSeg V D y ((pc, .iand, aux) :: rest) := by
  subst hb
  exact ⟨⟨hd, hn⟩, hr⟩
theorem oc_ior {V : EV} {D : TB} {y pc : Nat} {rest : List AI} {b : ByteArray} {aux : List Nat} (hb : mBytes D y = b) (hd : decode b pc = .ok (.ior, 1)) (hn : hd0 rest = pc + 1) (hr : okSeg V D y rest) : okSeg V D y ((pc, .ior, aux) :: rest) := by
  subst hb
  exact ⟨⟨hd, hn⟩, hr⟩
theorem oc_ixor {V : EV} {D : TB} {y pc : Nat} {rest : List AI} {b : ByteArray} {aux : List Nat} (hb : mBytes D y = b) (hd : decode b pc = .ok (.ixor, 1)) (hn : hd0 rest = pc + 1) (hr : okSeg V D y rest) : okSeg V D y ((pc, .ixor, aux) :: rest) := by
  subst hb
  exact ⟨⟨hd, hn⟩, hr⟩
theorem oc_i2l {V : EV} {D : TB} {y pc : Nat} {rest : List AI} {b : ByteArray} {aux : List Nat} (hb : mBytes D y = b) (hd : decode b pc = .ok (.i2l, 1)) (hn : hd0 rest = pc + 1) (hr : okSeg V D y rest) : okSeg V D y ((pc, .i2l, aux) :: rest) := by
  subst hb
  exact ⟨⟨hd, hn⟩, hr⟩
theorem oc_i2b {V : EV} {D : TB} {y pc : Nat} {rest : List AI} {b : ByteArray} {aux : List Nat} (hb : mBytes D y = b) (hd : decode b pc = .ok (.i2b, 1)) (hn : hd0 rest = pc + 1) (hr : okSeg V D y rest) : okSeg V D y ((pc, .i2b, aux) :: rest) := by
  subst hb
  exact ⟨⟨hd, hn⟩, hr⟩
theorem oc_i2c {V : EV} {D : TB} {y pc : Nat} {rest : List AI} {b : ByteArray} {aux : List Nat} (hb : mBytes D y = b) (hd : decode b pc = .ok (.i2c, 1)) (hn : hd0 rest = pc + 1) (hr : okSeg V D y rest) : okSeg V D y ((pc, .i2c, aux) :: rest) := by
  subst hb
  exact ⟨⟨hd, hn⟩, hr⟩
theorem oc_ladd {V : EV} {D : TB} {y pc : Nat} {rest : List AI} {b : ByteArray} {aux : List Nat} (hb : mBytes D y = b) (hd : decode b pc = .ok (.ladd, 1)) (hn : hd0 rest = pc + 1) (hr : okSeg V D y rest) : okSeg V D y ((pc, .ladd, aux) :: rest) := by
  subst hb
  exact ⟨⟨hd, hn⟩, hr⟩
theorem oc_lmul {V : EV} {D : TB} {y pc : Nat} {rest : List AI} {b : ByteArray} {aux : List Nat} (hb : mBytes D y = b) (hd : decode b pc = .ok (.lmul, 1)) (hn : hd0 rest = pc + 1) (hr : okSeg V D y rest) : okSeg V D y ((pc, .lmul, aux) :: rest) := by
  subst hb
  exact ⟨⟨hd, hn⟩, hr⟩
theorem oc_lcmp {V : EV} {D : TB} {y pc : Nat} {rest : List AI} {b : ByteArray} {aux : List Nat} (hb : mBytes D y = b) (hd : decode b pc = .ok (.lcmp, 1)) (hn : hd0 rest = pc + 1) (hr : okSeg V D y rest) : okSeg V D y ((pc, .lcmp, aux) :: rest) := by
  subst hb
  exact ⟨⟨hd, hn⟩, hr⟩
theorem oc_iload_n {V : EV} {D : TB} {y pc : Nat} {rest : List AI} {b : ByteArray} {k : Fin 4} {a : Nat} (hb : mBytes D y = b) (hd : decode b pc = .ok (.iload_n k, 1)) (hk : (k : Nat) = a) (hn : hd0 rest = pc + 1) (hr : okSeg V D y rest) : okSeg V D y ((pc, .iload_n k, [a]) :: rest) := by
  subst hb
  exact ⟨⟨⟨hd, hn⟩, hk⟩, hr⟩
theorem oc_lload_n {V : EV} {D : TB} {y pc : Nat} {rest : List AI} {b : ByteArray} {k : Fin 4} {a : Nat} (hb : mBytes D y = b) (hd : decode b pc = .ok (.lload_n k, 1)) (hk : (k : Nat) = a) (hn : hd0 rest = pc + 1) (hr : okSeg V D y rest) : okSeg V D y ((pc, .lload_n k, [a]) :: rest) := by
  subst hb
  exact ⟨⟨⟨hd, hn⟩, hk⟩, hr⟩
theorem oc_aload_n {V : EV} {D : TB} {y pc : Nat} {rest : List AI} {b : ByteArray} {k : Fin 4} {a : Nat} (hb : mBytes D y = b) (hd : decode b pc = .ok (.aload_n k, 1)) (hk : (k : Nat) = a) (hn : hd0 rest = pc + 1) (hr : okSeg V D y rest) : okSeg V D y ((pc, .aload_n k, [a]) :: rest) := by
  subst hb
  exact ⟨⟨⟨hd, hn⟩, hk⟩, hr⟩
theorem oc_istore_n {V : EV} {D : TB} {y pc : Nat} {rest : List AI} {b : ByteArray} {k : Fin 4} {a : Nat} (hb : mBytes D y = b) (hd : decode b pc = .ok (.istore_n k, 1)) (hk : (k : Nat) = a) (hn : hd0 rest = pc + 1) (hr : okSeg V D y rest) : okSeg V D y ((pc, .istore_n k, [a]) :: rest) := by
  subst hb
  exact ⟨⟨⟨hd, hn⟩, hk⟩, hr⟩
theorem oc_lstore_n {V : EV} {D : TB} {y pc : Nat} {rest : List AI} {b : ByteArray} {k : Fin 4} {a : Nat} (hb : mBytes D y = b) (hd : decode b pc = .ok (.lstore_n k, 1)) (hk : (k : Nat) = a) (hn : hd0 rest = pc + 1) (hr : okSeg V D y rest) : okSeg V D y ((pc, .lstore_n k, [a]) :: rest) := by
  subst hb
  exact ⟨⟨⟨hd, hn⟩, hk⟩, hr⟩
theorem oc_astore_n {V : EV} {D : TB} {y pc : Nat} {rest : List AI} {b : ByteArray} {k : Fin 4} {a : Nat} (hb : mBytes D y = b) (hd : decode b pc = .ok (.astore_n k, 1)) (hk : (k : Nat) = a) (hn : hd0 rest = pc + 1) (hr : okSeg V D y rest) : okSeg V D y ((pc, .astore_n k, [a]) :: rest) := by
  subst hb
  exact ⟨⟨⟨hd, hn⟩, hk⟩, hr⟩
theorem oc_iload {V : EV} {D : TB} {y pc : Nat} {rest : List AI} {b : ByteArray} {k : Nat} (hb : mBytes D y = b) (hd : decode b pc = .ok (.iload k, 2)) (hn : hd0 rest = pc + 2) (hr : okSeg V D y rest) : okSeg V D y ((pc, .iload k, [k]) :: rest) := by
  subst hb
  exact ⟨⟨⟨hd, hn⟩, rfl⟩, hr⟩
theorem oc_lload {V : EV} {D : TB} {y pc : Nat} {rest : List AI} {b : ByteArray} {k : Nat} (hb : mBytes D y = b) (hd : decode b pc = .ok (.lload k, 2)) (hn : hd0 rest = pc + 2) (hr : okSeg V D y rest) : okSeg V D y ((pc, .lload k, [k]) :: rest) := by
  subst hb
  exact ⟨⟨⟨hd, hn⟩, rfl⟩, hr⟩
theorem oc_aload {V : EV} {D : TB} {y pc : Nat} {rest : List AI} {b : ByteArray} {k : Nat} (hb : mBytes D y = b) (hd : decode b pc = .ok (.aload k, 2)) (hn : hd0 rest = pc + 2) (hr : okSeg V D y rest) : okSeg V D y ((pc, .aload k, [k]) :: rest) := by
  subst hb
  exact ⟨⟨⟨hd, hn⟩, rfl⟩, hr⟩
theorem oc_istore {V : EV} {D : TB} {y pc : Nat} {rest : List AI} {b : ByteArray} {k : Nat} (hb : mBytes D y = b) (hd : decode b pc = .ok (.istore k, 2)) (hn : hd0 rest = pc + 2) (hr : okSeg V D y rest) : okSeg V D y ((pc, .istore k, [k]) :: rest) := by
  subst hb
  exact ⟨⟨⟨hd, hn⟩, rfl⟩, hr⟩
theorem oc_lstore {V : EV} {D : TB} {y pc : Nat} {rest : List AI} {b : ByteArray} {k : Nat} (hb : mBytes D y = b) (hd : decode b pc = .ok (.lstore k, 2)) (hn : hd0 rest = pc + 2) (hr : okSeg V D y rest) : okSeg V D y ((pc, .lstore k, [k]) :: rest) := by
  subst hb
  exact ⟨⟨⟨hd, hn⟩, rfl⟩, hr⟩
theorem oc_astore {V : EV} {D : TB} {y pc : Nat} {rest : List AI} {b : ByteArray} {k : Nat} (hb : mBytes D y = b) (hd : decode b pc = .ok (.astore k, 2)) (hn : hd0 rest = pc + 2) (hr : okSeg V D y rest) : okSeg V D y ((pc, .astore k, [k]) :: rest) := by
  subst hb
  exact ⟨⟨⟨hd, hn⟩, rfl⟩, hr⟩
theorem oc_iinc {V : EV} {D : TB} {y pc : Nat} {rest : List AI} {b : ByteArray} {k : Nat} {v : Int} (hb : mBytes D y = b) (hd : decode b pc = .ok (.iinc k v, 3)) (hn : hd0 rest = pc + 3) (hr : okSeg V D y rest) : okSeg V D y ((pc, .iinc k v, [k]) :: rest) := by
  subst hb
  exact ⟨⟨⟨hd, hn⟩, rfl⟩, hr⟩
theorem oc_ireturn {V : EV} {D : TB} {y pc : Nat} {rest : List AI} {b : ByteArray} {aux : List Nat} (hb : mBytes D y = b) (hd : decode b pc = .ok (.ireturn, 1)) (hr : okSeg V D y rest) : okSeg V D y ((pc, .ireturn, aux) :: rest) := by
  subst hb
  exact ⟨hd, hr⟩
theorem oc_lreturn {V : EV} {D : TB} {y pc : Nat} {rest : List AI} {b : ByteArray} {aux : List Nat} (hb : mBytes D y = b) (hd : decode b pc = .ok (.lreturn, 1)) (hr : okSeg V D y rest) : okSeg V D y ((pc, .lreturn, aux) :: rest) := by
  subst hb
  exact ⟨hd, hr⟩
theorem oc_areturn {V : EV} {D : TB} {y pc : Nat} {rest : List AI} {b : ByteArray} {aux : List Nat} (hb : mBytes D y = b) (hd : decode b pc = .ok (.areturn, 1)) (hr : okSeg V D y rest) : okSeg V D y ((pc, .areturn, aux) :: rest) := by
  subst hb
  exact ⟨hd, hr⟩
theorem oc_return_ {V : EV} {D : TB} {y pc : Nat} {rest : List AI} {b : ByteArray} {aux : List Nat} (hb : mBytes D y = b) (hd : decode b pc = .ok (.return_, 1)) (hr : okSeg V D y rest) : okSeg V D y ((pc, .return_, aux) :: rest) := by
  subst hb
  exact ⟨hd, hr⟩
theorem oc_goto {V : EV} {D : TB} {y pc : Nat} {rest : List AI} {b : ByteArray} {off : Int} {t : Nat} {g : List AI} (hb : mBytes D y = b) (hd : decode b pc = .ok (.goto off, 3)) (hs : mSeg D y t = g) (hj : (pc : Int) + off = (hd0 g : Int)) (hr : okSeg V D y rest) : okSeg V D y ((pc, .goto off, [t]) :: rest) := by
  subst hb
  subst hs
  exact ⟨⟨hd, hj⟩, hr⟩
theorem oc_if_icmp {V : EV} {D : TB} {y pc : Nat} {rest : List AI} {b : ByteArray} {cc : Jvm.ClassFile.Cond} {off : Int} {t : Nat} {g : List AI} (hb : mBytes D y = b) (hd : decode b pc = .ok (.if_icmp cc off, 3)) (hs : mSeg D y t = g) (hj : (pc : Int) + off = (hd0 g : Int)) (hn : hd0 rest = pc + 3) (hr : okSeg V D y rest) : okSeg V D y ((pc, .if_icmp cc off, [t]) :: rest) := by
  subst hb
  subst hs
  exact ⟨⟨⟨hd, hn⟩, hj⟩, hr⟩
theorem oc_ifCond {V : EV} {D : TB} {y pc : Nat} {rest : List AI} {b : ByteArray} {cc : Jvm.ClassFile.Cond} {off : Int} {t : Nat} {g : List AI} (hb : mBytes D y = b) (hd : decode b pc = .ok (.ifCond cc off, 3)) (hs : mSeg D y t = g) (hj : (pc : Int) + off = (hd0 g : Int)) (hn : hd0 rest = pc + 3) (hr : okSeg V D y rest) : okSeg V D y ((pc, .ifCond cc off, [t]) :: rest) := by
  subst hb
  subst hs
  exact ⟨⟨⟨hd, hn⟩, hj⟩, hr⟩
theorem oc_if_acmp {V : EV} {D : TB} {y pc : Nat} {rest : List AI} {b : ByteArray} {cc : ACond} {off : Int} {t : Nat} {g : List AI} (hb : mBytes D y = b) (hd : decode b pc = .ok (.if_acmp cc off, 3)) (hs : mSeg D y t = g) (hj : (pc : Int) + off = (hd0 g : Int)) (hn : hd0 rest = pc + 3) (hr : okSeg V D y rest) : okSeg V D y ((pc, .if_acmp cc off, [t]) :: rest) := by
  subst hb
  subst hs
  exact ⟨⟨⟨hd, hn⟩, hj⟩, hr⟩
theorem oc_ifnull {V : EV} {D : TB} {y pc : Nat} {rest : List AI} {b : ByteArray} {off : Int} {t : Nat} {g : List AI} (hb : mBytes D y = b) (hd : decode b pc = .ok (.ifnull off, 3)) (hs : mSeg D y t = g) (hj : (pc : Int) + off = (hd0 g : Int)) (hn : hd0 rest = pc + 3) (hr : okSeg V D y rest) : okSeg V D y ((pc, .ifnull off, [t]) :: rest) := by
  subst hb
  subst hs
  exact ⟨⟨⟨hd, hn⟩, hj⟩, hr⟩
theorem oc_ifnonnull {V : EV} {D : TB} {y pc : Nat} {rest : List AI} {b : ByteArray} {off : Int} {t : Nat} {g : List AI} (hb : mBytes D y = b) (hd : decode b pc = .ok (.ifnonnull off, 3)) (hs : mSeg D y t = g) (hj : (pc : Int) + off = (hd0 g : Int)) (hn : hd0 rest = pc + 3) (hr : okSeg V D y rest) : okSeg V D y ((pc, .ifnonnull off, [t]) :: rest) := by
  subst hb
  subst hs
  exact ⟨⟨⟨hd, hn⟩, hj⟩, hr⟩
def oc_LF (V : EV) (o : String) (idx ci k : Nat) : Prop := ∃ r, (vcl V)[ci]? = some r ∧ k < r.2.2 ∧ ∃ ref, (ref = (r.2.1 k).1 ∨ Jvm.Cond.sameField ref (r.2.1 k).1 (r.2.1 k).2.1 (r.2.1 k).2.2.1 ∈ vTg V) ∧ (Jvm.Cond.fieldLink o idx ref (r.2.1 k).2.1 (r.2.1 k).2.2.1 ∈ vTg V ∨ ∃ host, Jvm.Cond.fieldLinkNest o idx ref (r.2.1 k).2.1 (r.2.1 k).2.2.1 host ∈ vNt V)
def oc_LP (V : EV) (o : String) (idx ci k : Nat) : Prop := ∃ r, (vcl V)[ci]? = some r ∧ k < r.2.2 ∧ ∃ ref, (ref = (r.2.1 k).1 ∨ Jvm.Cond.sameField ref (r.2.1 k).1 (r.2.1 k).2.1 (r.2.1 k).2.2.1 ∈ vTg V) ∧ (r.2.1 k).2.2.2 = false ∧ (Jvm.Cond.fieldLink o idx ref (r.2.1 k).2.1 (r.2.1 k).2.2.1 ∈ vTg V ∨ ∃ host, Jvm.Cond.fieldLinkNest o idx ref (r.2.1 k).2.1 (r.2.1 k).2.2.1 host ∈ vNt V)
def oc_ML (V : EV) (o : String) (idx : Nat) (x : MethodName) : Prop := Jvm.Cond.methodLink o idx x ∈ vTg V ∨ ∃ host, Jvm.Cond.methodLinkNest o idx x host ∈ vNt V
def oc_VZ (V : EV) (D : TB) (z n ci : Nat) (m : MethodName) : Prop := mName D z = m ∧ CalleeOk V D z n ∧ mHH D z = [] ∧ Jvm.Cond.instanceMethod (mName D z) ∈ vTg V ∧ Jvm.Cond.selects (mOwn D z) (mName D z) (mName D z) ∈ vTg V ∧ ∃ r, (vcl V)[ci]? = some r ∧ r.1 = mOwn D z
def oc_SZ (V : EV) (D : TB) (z n : Nat) (m : MethodName) : Prop := mName D z = m ∧ CalleeOk V D z n ∧ Jvm.Cond.static (mName D z) ∈ vTg V ∧ mHH D z = []
def oc_IZ (V : EV) (D : TB) (z n : Nat) (m : MethodName) : Prop := mName D z = m ∧ CalleeOk V D z n ∧ mHH D z = [] ∧ mRet D z = none ∧ (mName D z).name = "<init>" ∧ Jvm.Cond.instanceMethod (mName D z) ∈ vTg V
def oc_CO (V : EV) (D : TB) (o : String) (idx j : Nat) : Prop := ∃ nm, Jvm.Cond.classLink o idx nm ∈ vTg V ∧ (∀ c, D.2.2.2.2.1 j c = true → ∃ r, (vcl V)[c]? = some r ∧ r.1 = nm) ∧ ∀ t, D.2.2.2.2.2.1 j t = true → t = 0 ∧ nm = "[I"
def oc_NO (V : EV) (o : String) (i ci : Nat) : Prop := ∃ r, (vcl V)[ci]? = some r ∧ Jvm.Cond.classLink o i r.1 ∈ vTg V ∧ Jvm.Cond.instantiable r.1 r.2.2 ∈ vTg V ∧ Jvm.Cond.initialized r.1 ∈ vTg V
theorem oc_getfield {V : EV} {D : TB} {y pc : Nat} {rest : List AI} {b : ByteArray} {o : String} {i ci k : Nat} (hb : mBytes D y = b) (hd : decode b pc = .ok (.getfield i, 3)) (ho : mOwn D y = o) (hl : oc_LF V o i ci k) (hn : hd0 rest = pc + 3) (hr : okSeg V D y rest) : okSeg V D y ((pc, .getfield i, [ci, k]) :: rest) := by
  subst hb
  subst ho
  exact ⟨⟨⟨hd, hn⟩, hl⟩, hr⟩
theorem oc_putfield {V : EV} {D : TB} {y pc : Nat} {rest : List AI} {b : ByteArray} {o : String} {i ci k : Nat} (hb : mBytes D y = b) (hd : decode b pc = .ok (.putfield i, 3)) (ho : mOwn D y = o) (hl : oc_LP V o i ci k) (hn : hd0 rest = pc + 3) (hr : okSeg V D y rest) : okSeg V D y ((pc, .putfield i, [ci, k]) :: rest) := by
  subst hb
  subst ho
  obtain ⟨r, h1, h2, ref, h3, h4, h5⟩ := hl
  refine ⟨⟨⟨hd, hn⟩, r, h1, h2, ref, h3, ?_⟩, hr⟩
  rcases h5 with h5 | ⟨host, h5⟩
  · exact Or.inl ⟨h5, Or.inl h4⟩
  · exact Or.inr ⟨host, h5, h4⟩
theorem oc_virt {V : EV} {D : TB} {y pc : Nat} {rest : List AI} {b : ByteArray} {o : String} {i z n ci : Nat} {m : MethodName} (hb : mBytes D y = b) (hd : decode b pc = .ok (.invokevirtual i, 3)) (ho : mOwn D y = o) (hz : oc_VZ V D z n ci m) (hl : oc_ML V o i m) (hn : hd0 rest = pc + 3) (hr : okSeg V D y rest) : okSeg V D y ((pc, .invokevirtual i, [z, n, ci, 0]) :: rest) := by
  subst hb
  subst ho
  obtain ⟨hm, h1, h2, h3, h4, h5⟩ := hz
  subst hm
  have h0 : ¬ (0 : Nat) = 1 := by decide
  refine ⟨⟨⟨hd, hn⟩, Or.inl ⟨h1, h2, h3, h4, h5, ?_⟩⟩, hr⟩
  rcases hl with hl | hl
  · exact Or.inl ⟨h0, hl⟩
  · exact Or.inr (Or.inl ⟨h0, hl⟩)
theorem oc_stat {V : EV} {D : TB} {y pc : Nat} {rest : List AI} {b : ByteArray} {o : String} {i z n : Nat} {m : MethodName} (hb : mBytes D y = b) (hd : decode b pc = .ok (.invokestatic i, 3)) (ho : mOwn D y = o) (hz : oc_SZ V D z n m) (hl : oc_ML V o i m) (hn : hd0 rest = pc + 3) (hr : okSeg V D y rest) : okSeg V D y ((pc, .invokestatic i, [z, n, 0]) :: rest) := by
  subst hb
  subst ho
  obtain ⟨hm, h1, h2, h3⟩ := hz
  subst hm
  have h0 : ¬ (0 : Nat) = 1 := by decide
  refine ⟨⟨⟨hd, hn⟩, h1, h2, ?_⟩, hr⟩
  rcases hl with hl | hl
  · exact Or.inl ⟨h0, hl⟩
  · exact Or.inr (Or.inl ⟨h0, h3, hl⟩)
theorem oc_init {V : EV} {D : TB} {y pc : Nat} {rest : List AI} {b : ByteArray} {o : String} {i z n : Nat} {m : MethodName} (hb : mBytes D y = b) (hd : decode b pc = .ok (.invokespecial i, 3)) (ho : mOwn D y = o) (hz : oc_IZ V D z n m) (hl : oc_ML V o i m) (hn : hd0 rest = pc + 3) (hr : okSeg V D y rest) : okSeg V D y ((pc, .invokespecial i, [z, n, 0]) :: rest) := by
  subst hb
  subst ho
  obtain ⟨hm, h1, h2, h3, h4, h5⟩ := hz
  subst hm
  exact ⟨⟨⟨hd, hn⟩, (⟨h1, h2, h3, h4, h5, hl⟩ : SpecOk V D y i z n)⟩, hr⟩
theorem oc_checkcast {V : EV} {D : TB} {y pc : Nat} {rest : List AI} {b : ByteArray} {o : String} {i j : Nat} (hb : mBytes D y = b) (hd : decode b pc = .ok (.checkcast i, 3)) (ho : mOwn D y = o) (hl : oc_CO V D o i j) (hn : hd0 rest = pc + 3) (hr : okSeg V D y rest) : okSeg V D y ((pc, .checkcast i, [j]) :: rest) := by
  subst hb
  subst ho
  exact ⟨⟨⟨hd, hn⟩, hl⟩, hr⟩
def oc_TO (V : EV) (o : String) (i ci : Nat) : Prop := ∃ r, (vcl V)[ci]? = some r ∧ Jvm.Cond.classLink o i r.1 ∈ vTg V
theorem oc_instanceof {V : EV} {D : TB} {y pc : Nat} {rest : List AI} {b : ByteArray} {o : String} {i ci : Nat} (hb : mBytes D y = b) (hd : decode b pc = .ok (.instanceof i, 3)) (ho : mOwn D y = o) (hl : oc_TO V o i ci) (hn : hd0 rest = pc + 3) (hr : okSeg V D y rest) : okSeg V D y ((pc, .instanceof i, [ci]) :: rest) := by
  subst hb
  subst ho
  exact ⟨⟨⟨hd, hn⟩, hl⟩, hr⟩
theorem oc_new {V : EV} {D : TB} {y pc : Nat} {rest : List AI} {b : ByteArray} {o : String} {i ci : Nat} (hb : mBytes D y = b) (hd : decode b pc = .ok (.new i, 3)) (ho : mOwn D y = o) (hl : oc_NO V o i ci) (hn : hd0 rest = pc + 3) (hr : okSeg V D y rest) : okSeg V D y ((pc, .new i, [ci]) :: rest) := by
  subst hb
  subst ho
  exact ⟨⟨⟨hd, hn⟩, hl⟩, hr⟩
theorem oc_ce {V : EV} {D : TB} {z n l : Nat} {m : MethodName} {b : ByteArray} {r : Option FieldType} {bc : Nat × Nat} {f : Nat → List AI × List Nat} {hn : List (Nat × Nat)} (hq : D.1 z = ((m, b, l, r), bc, f, hn, [])) (hc : Jvm.Cond.code m b l r ∈ vTg V) (hi : Jvm.Cond.initialized m.cls ∈ vTg V) (n1 : m.cls ≠ "java/lang/invoke/MethodHandle") (n2 : m.cls ≠ "java/lang/invoke/VarHandle") (hp : (parseMethodDescriptor m.desc).map (fun d => d.parameters.length) = some n) (hl : l ≤ 22) : CalleeOk V D z n := by
  have e1 : mName D z = m := congrArg (fun x : MI => x.1.1) hq
  have e2 : mBytes D z = b := congrArg (fun x : MI => x.1.2.1) hq
  have e3 : mMaxL D z = l := congrArg (fun x : MI => x.1.2.2.1) hq
  have e4 : mRet D z = r := congrArg (fun x : MI => x.1.2.2.2) hq
  have e5 : mHH D z = [] := congrArg (fun x : MI => x.2.2.2.2) hq
  clear hq
  subst e1
  subst e2
  subst e3
  subst e4
  have e : codeW D z = Jvm.Cond.code (mName D z) (mBytes D z) (mMaxL D z) (mRet D z) := by
    unfold codeW
    rw [e5]
  refine ⟨?_, hi, n1, n2, hp, hl⟩
  rw [e]
  exact hc
theorem oc_vz {V : EV} {D : TB} {z n l : Nat} {m : MethodName} {b : ByteArray} {r : Option FieldType} {bc : Nat × Nat} {f : Nat → List AI × List Nat} {hn : List (Nat × Nat)} {ci : Nat} (hq : D.1 z = ((m, b, l, r), bc, f, hn, [])) (hc : CalleeOk V D z n) (h1 : Jvm.Cond.instanceMethod m ∈ vTg V) (h2 : Jvm.Cond.selects m.cls m m ∈ vTg V) (h3 : ∃ r, (vcl V)[ci]? = some r ∧ r.1 = m.cls) : oc_VZ V D z n ci m := by
  have e1 : mName D z = m := congrArg (fun x : MI => x.1.1) hq
  have e2 : mBytes D z = b := congrArg (fun x : MI => x.1.2.1) hq
  have e3 : mMaxL D z = l := congrArg (fun x : MI => x.1.2.2.1) hq
  have e4 : mRet D z = r := congrArg (fun x : MI => x.1.2.2.2) hq
  have e5 : mHH D z = [] := congrArg (fun x : MI => x.2.2.2.2) hq
  clear hq
  subst e1
  exact ⟨rfl, hc, e5, h1, h2, h3⟩
theorem oc_sz {V : EV} {D : TB} {z n l : Nat} {m : MethodName} {b : ByteArray} {r : Option FieldType} {bc : Nat × Nat} {f : Nat → List AI × List Nat} {hn : List (Nat × Nat)} (hq : D.1 z = ((m, b, l, r), bc, f, hn, [])) (hc : CalleeOk V D z n) (h1 : Jvm.Cond.static m ∈ vTg V) : oc_SZ V D z n m := by
  have e1 : mName D z = m := congrArg (fun x : MI => x.1.1) hq
  have e2 : mBytes D z = b := congrArg (fun x : MI => x.1.2.1) hq
  have e3 : mMaxL D z = l := congrArg (fun x : MI => x.1.2.2.1) hq
  have e4 : mRet D z = r := congrArg (fun x : MI => x.1.2.2.2) hq
  have e5 : mHH D z = [] := congrArg (fun x : MI => x.2.2.2.2) hq
  clear hq
  subst e1
  exact ⟨rfl, hc, h1, e5⟩
theorem oc_iz {V : EV} {D : TB} {z n l : Nat} {m : MethodName} {b : ByteArray} {r : Option FieldType} {bc : Nat × Nat} {f : Nat → List AI × List Nat} {hn : List (Nat × Nat)} (hq : D.1 z = ((m, b, l, r), bc, f, hn, [])) (hc : CalleeOk V D z n) (h2 : r = none) (h0 : m.name = "<init>") (h1 : Jvm.Cond.instanceMethod m ∈ vTg V) : oc_IZ V D z n m := by
  have e1 : mName D z = m := congrArg (fun x : MI => x.1.1) hq
  have e2 : mBytes D z = b := congrArg (fun x : MI => x.1.2.1) hq
  have e3 : mMaxL D z = l := congrArg (fun x : MI => x.1.2.2.1) hq
  have e4 : mRet D z = r := congrArg (fun x : MI => x.1.2.2.2) hq
  have e5 : mHH D z = [] := congrArg (fun x : MI => x.2.2.2.2) hq
  clear hq
  subst e1
  exact ⟨rfl, hc, e5, e4.trans h2, h0, h1⟩
theorem oc_cov {l : List (Nat × Nat × Nat × Nat)} {pc : Nat} (h : ∀ r ∈ l, r.1 ≤ pc ∧ pc < r.2.1) : ∀ x ∈ tableOf l, covers x pc = true := by
  intro x hx
  obtain ⟨r, hr, rfl⟩ := List.mem_map.mp hx
  obtain ⟨h1, h2⟩ := h r hr
  simp [covers, h1, h2]
def oc_SL (V : EV) (D : TB) (y : Nat) (l : List (List AI × List Nat)) : Prop := ∀ t, okSeg V D y (l.getD t ([], [])).1
theorem oc_sn {V : EV} {D : TB} {y : Nat} : oc_SL V D y [] := fun _ => trivial
theorem oc_sc {V : EV} {D : TB} {y : Nat} {g : List AI} {lv : List Nat} {l : List (List AI × List Nat)} (h : okSeg V D y g) (hr : oc_SL V D y l) : oc_SL V D y ((g, lv) :: l) := fun t => match t with
  | 0 => h
  | t + 1 => hr t
theorem oc_om {V : EV} {D : TB} {y : Nat} {nm : MethodName × ByteArray × Nat × Option FieldType} {bc : Nat × Nat} {l : List (List AI × List Nat)} {hn : List (Nat × Nat)} {hh : List (Nat × Nat × Nat × Nat)} (hq : D.1 y = (nm, bc, (fun t => l.getD t ([], [])), hn, hh)) (h0 : hd0 (l.getD 0 ([], [])).1 = 0) (hf : plainFor nm.1 = true) (hc : oc_SL V D y l) : hp D y 0 = 0 ∧ plainFor (mName D y) = true ∧ ∀ t, okSeg V D y (mSeg D y t) := by
  have e1 : mName D y = nm.1 := congrArg (fun x : MI => x.1.1) hq
  have e2 : ∀ t, mSeg D y t = (l.getD t ([], [])).1 := fun t => congrArg (fun x : MI => (x.2.2.1 t).1) hq
  refine ⟨?_, ?_, fun t => ?_⟩
  · show hd0 (mSeg D y 0) = 0
    rw [e2]
    exact h0
  · rw [e1]
    exact hf
  · rw [e2]
    exact hc t
theorem oc_ldc {V : EV} {D : TB} {y pc : Nat} {rest : List AI} {b : ByteArray} {o : String} {i a : Nat} (hb : mBytes D y = b) (hd : decode b pc = .ok (.ldc i, 2)) (ho : mOwn D y = o) (hl : Jvm.Cond.constant o i (Int32.ofNat a) ∈ vTg V) (hn : hd0 rest = pc + 2) (hr : okSeg V D y rest) : okSeg V D y ((pc, .ldc i, [a]) :: rest) := by
  subst hb
  subst ho
  exact ⟨⟨⟨hd, hn⟩, hl⟩, hr⟩
theorem oc_ldc_w {V : EV} {D : TB} {y pc : Nat} {rest : List AI} {b : ByteArray} {o : String} {i a : Nat} (hb : mBytes D y = b) (hd : decode b pc = .ok (.ldc_w i, 3)) (ho : mOwn D y = o) (hl : Jvm.Cond.constant o i (Int32.ofNat a) ∈ vTg V) (hn : hd0 rest = pc + 3) (hr : okSeg V D y rest) : okSeg V D y ((pc, .ldc_w i, [a]) :: rest) := by
  subst hb
  subst ho
  exact ⟨⟨⟨hd, hn⟩, hl⟩, hr⟩
