
/-! SOUNDNESS, 6: what must be checked of a method's rows; a row, a stretch, a call -/
theorem popI_i {S : List Value} {f : Int32 → List Value → Prop} (h : popI S f) : ∃ x S', S = .int x :: S' ∧ f x S' := by
  unfold popI at h
  split at h
  · exact ⟨_, _, rfl, h⟩
  · exact h.elim
theorem pop2I_i {S : List Value} {f : Int32 → Int32 → List Value → Prop} (h : pop2I S f) : ∃ x y S', S = .int y :: .int x :: S' ∧ f x y S' := by
  unfold pop2I at h
  split at h
  · exact ⟨_, _, _, rfl, h⟩
  · exact h.elim
theorem popL_i {S : List Value} {f : Int64 → List Value → Prop} (h : popL S f) : ∃ x S', S = .long x :: S' ∧ f x S' := by
  unfold popL at h
  split at h
  · exact ⟨_, _, rfl, h⟩
  · exact h.elim
theorem pop2L_i {S : List Value} {f : Int64 → Int64 → List Value → Prop} (h : pop2L S f) : ∃ x y S', S = .long y :: .long x :: S' ∧ f x y S' := by
  unfold pop2L at h
  split at h
  · exact ⟨_, _, _, rfl, h⟩
  · exact h.elim
theorem popR_i {S : List Value} {f : Nat → List Value → Prop} (h : popR S f) : ∃ x S', S = .ref x :: S' ∧ f x S' := by
  unfold popR at h
  split at h
  · exact ⟨_, _, rfl, h⟩
  · exact h.elim
theorem popA_i {S : List Value} {f : Option Nat → List Value → Prop} (h : popA S f) : ∃ x S', S = va_rf x :: S' ∧ f x S' := by
  unfold popA at h
  split at h
  · exact ⟨some _, _, rfl, h⟩
  · exact ⟨none, _, rfl, h⟩
  · exact h.elim
theorem pop2A_i {S : List Value} {f : Option Nat → Option Nat → List Value → Prop} (h : pop2A S f) : ∃ x y S', S = va_rf y :: va_rf x :: S' ∧ f x y S' := by
  obtain ⟨y, S1, rfl, h1⟩ := popA_i h
  obtain ⟨x, S2, rfl, h2⟩ := popA_i h1
  exact ⟨x, y, S2, rfl, h2⟩
theorem pop1_i {S : List Value} {f : Value → List Value → Prop} (h : pop1 S f) : ∃ v S', S = v :: S' ∧ v.category = 1 ∧ f v S' := by
  unfold pop1 at h
  split at h
  · exact ⟨_, _, rfl, h⟩
  · exact h.elim
theorem popV_i {S : List Value} {f : Value → Nat → List Value → Prop} (h : popV S f) : ∃ v a S', S = v :: .ref a :: S' ∧ f v a S' := by
  unfold popV at h
  split at h
  · exact ⟨_, _, _, rfl, h⟩
  · exact h.elim
theorem popIR_i {S : List Value} {f : Int32 → Nat → List Value → Prop} (h : popIR S f) : ∃ i a S', S = .int i :: .ref a :: S' ∧ f i a S' := by
  unfold popIR at h
  split at h
  · exact ⟨_, _, _, rfl, h⟩
  · exact h.elim
theorem popIIR_i {S : List Value} {f : Int32 → Int32 → Nat → List Value → Prop} (h : popIIR S f) : ∃ x i a S', S = .int x :: .int i :: .ref a :: S' ∧ f x i a S' := by
  unfold popIIR at h
  split at h
  · exact ⟨_, _, _, _, rfl, h⟩
  · exact h.elim
theorem popAIR_i {S : List Value} {f : Option Nat → Int32 → Nat → List Value → Prop} (h : popAIR S f) : ∃ v i a S', S = va_rf v :: .int i :: .ref a :: S' ∧ f v i a S' := by
  unfold popAIR at h
  split at h
  · exact ⟨some _, _, _, _, rfl, h⟩
  · exact ⟨none, _, _, _, rfl, h⟩
  · exact h.elim
theorem popCopy_i {S : List Value} {f : Int32 → Int32 → Nat → Int32 → Nat → List Value → Prop} (h : popCopy S f) : ∃ n dp d sp a S', S = .int n :: .int dp :: .ref d :: .int sp :: .ref a :: S' ∧ f n dp d sp a S' := by
  unfold popCopy at h
  split at h
  · exact ⟨_, _, _, _, _, _, rfl, h⟩
  · exact h.elim
theorem lvI_i {o : Option Value} {f : Int32 → Prop} (h : lvI o f) : ∃ x, o = some (.int x) ∧ f x := by
  unfold lvI at h
  split at h
  · exact ⟨_, rfl, h⟩
  · exact h.elim
theorem lvL_i {o : Option Value} {f : Int64 → Prop} (h : lvL o f) : ∃ x, o = some (.long x) ∧ f x := by
  unfold lvL at h
  split at h
  · exact ⟨_, rfl, h⟩
  · exact h.elim
theorem lvA_i {o : Option Value} {f : Option Nat → Prop} (h : lvA o f) : ∃ x, o = some (va_rf x) ∧ f x := by
  unfold lvA at h
  split at h
  · exact ⟨some _, rfl, h⟩
  · exact ⟨none, rfl, h⟩
  · exact h.elim
theorem gF_i {o : Option AE} {ci k : Nat} {f : Value → Prop} (h : gF o ci k f) : (∃ fs v, o = some (.inr (ci, fs)) ∧ fs[k]? = some v ∧ f v) ∨ (∃ g : Nat → Int32, o = some (.inl (11, ci, .inl g)) ∧ k = 0 ∧ f (.int (g 0))) := by
  unfold gF at h
  split at h
  · obtain ⟨rfl, v, h1, h2⟩ := h
    exact Or.inl ⟨_, v, rfl, h1, h2⟩
  · obtain ⟨rfl, rfl, rfl, h1⟩ := h
    exact Or.inr ⟨_, rfl, rfl, h1⟩
  · exact h.elim
theorem pF_i {o : Option AE} {ci k : Nat} {f : List Value → Prop} (h : pF o ci k f) : ∃ fs, o = some (.inr (ci, fs)) ∧ k < fs.length ∧ f fs := by
  unfold pF at h
  split at h
  · obtain ⟨rfl, h1, h2⟩ := h
    exact ⟨_, rfl, h1, h2⟩
  · exact h.elim
theorem aN_i {o : Option AE} {f : Nat → Prop} (h : aN o f) : ∃ t n g, o = some (.inl (t, n, g)) ∧ (t < 4 ∨ (8 ≤ t ∧ t < 11)) ∧ f n := by
  unfold aN at h
  split at h
  · exact ⟨_, _, _, rfl, h⟩
  · exact h.elim
theorem aI_i {o : Option AE} {f : Nat → Nat → (Nat → Int32) → Prop} (h : aI o f) : ∃ t n g, o = some (.inl (t, n, .inl g)) ∧ f t n g := by
  unfold aI at h
  split at h
  · exact ⟨_, _, _, rfl, h⟩
  · exact h.elim
theorem aQ_i {o : Option AE} {f : Nat → Nat → (Nat → Option Nat) → Prop} (h : aQ o f) : ∃ t n g, o = some (.inl (t, n, .inr (.inr (.inr (.inr g))))) ∧ f t n g := by
  unfold aQ at h
  split at h
  · exact ⟨_, _, _, rfl, h⟩
  · exact h.elim
theorem hand_i : ∀ {l : List (Nat × Nat)} {k : Nat} {f : Nat → Prop}, hand l k f → ∃ t, (k, t) ∈ l ∧ f t
  | [], _, _, h => h.elim
  | (a, t) :: r, k, f, h => by
    rcases h with ⟨rfl, h⟩ | ⟨_, h⟩
    · exact ⟨t, List.mem_cons_self, h⟩
    · obtain ⟨t', h1, h2⟩ := hand_i h
      exact ⟨t', List.mem_cons_of_mem _ h1, h2⟩
def hd0 : List AI → Nat
  | r :: _ => r.1
  | [] => 0
def hp (D : TB) (y t : Nat) : Nat := hd0 (mSeg D y t)
def ilen : Instr → Nat
  | .bipush _ | .ldc _ | .iload _ | .lload _ | .aload _ | .istore _ | .lstore _ | .astore _ | .newarray _ => 2
  | .sipush _ | .ldc_w _ | .ldc2_w _ | .iinc _ _ | .goto _ | .if_icmp _ _ | .ifCond _ _ | .if_acmp _ _ | .ifnull _ | .ifnonnull _ | .getfield _ | .putfield _ | .getstatic _ | .new _ | .anewarray _ | .checkcast _ | .instanceof _ | .invokevirtual _ | .invokestatic _ | .invokespecial _ => 3
  | .invokeinterface _ _ => 5
  | _ => 1
def dec (D : TB) (y pc : Nat) (ins : Instr) : Prop := decode (mBytes D y) pc = .ok (ins, ilen ins)
def pl (D : TB) (y pc npc : Nat) (ins : Instr) : Prop := dec D y pc ins ∧ npc = pc + ilen ins
def jmp (D : TB) (y pc t : Nat) (off : Int) : Prop := (pc : Int) + off = (hp D y t : Int)
def LinkF (V : EV) (D : TB) (y idx ci k : Nat) : Prop := ∃ r, (vcl V)[ci]? = some r ∧ k < r.2.2 ∧ ∃ ref, (ref = (r.2.1 k).1 ∨ Jvm.Cond.sameField ref (r.2.1 k).1 (r.2.1 k).2.1 (r.2.1 k).2.2.1 ∈ vTg V) ∧
  (Jvm.Cond.fieldLink (mOwn D y) idx ref (r.2.1 k).2.1 (r.2.1 k).2.2.1 ∈ vTg V ∨ ∃ host, Jvm.Cond.fieldLinkNest (mOwn D y) idx ref (r.2.1 k).2.1 (r.2.1 k).2.2.1 host ∈ vNt V)
def LinkP (V : EV) (D : TB) (y idx ci k : Nat) : Prop := ∃ r, (vcl V)[ci]? = some r ∧ k < r.2.2 ∧ ∃ ref, (ref = (r.2.1 k).1 ∨ Jvm.Cond.sameField ref (r.2.1 k).1 (r.2.1 k).2.1 (r.2.1 k).2.2.1 ∈ vTg V) ∧
  ((Jvm.Cond.fieldLink (mOwn D y) idx ref (r.2.1 k).2.1 (r.2.1 k).2.2.1 ∈ vTg V ∧ ((r.2.1 k).2.2.2 = false ∨ ((r.2.1 k).2.2.2 = true ∧ (mName D y).name = "<init>" ∧ (r.2.1 k).1 = mOwn D y))) ∨ ∃ host, Jvm.Cond.fieldLinkNest (mOwn D y) idx ref (r.2.1 k).2.1 (r.2.1 k).2.2.1 host ∈ vNt V ∧ (r.2.1 k).2.2.2 = false)
def ArrOk (V : EV) (t : Nat) (at_ : ArrayType) : Prop := (at_ = .int ∧ t = 0 ∧ Jvm.Cond.arrayClass .int ∈ vTg V) ∨ (at_ = .byte ∧ t = 1 ∧ Jvm.Cond.arrayClass .byte ∈ vTg V)
def CastOk (V : EV) (D : TB) (y idx j : Nat) : Prop := ∃ nm, Jvm.Cond.classLink (mOwn D y) idx nm ∈ vTg V ∧ (∀ c, D.2.2.2.2.1 j c = true → ∃ r, (vcl V)[c]? = some r ∧ r.1 = nm) ∧ ∀ t, D.2.2.2.2.2.1 j t = true → t = 0 ∧ nm = "[I"
/-- the handlers of a method, at pc -/
def HanOk (V : EV) (D : TB) (y pc : Nat) : Prop := ∀ k t, (k, t) ∈ mHan D y → ∃ (pre : List ExceptionTableEntry) (x : ExceptionTableEntry) (suf : List ExceptionTableEntry) (nm : String), tableOf (mHH D y) = pre ++ x :: suf ∧ (∀ w ∈ pre, covers w pc = false ∨ (w.catchType ≠ 0 ∧ ∃ nm' : String, Jvm.Cond.classLink (mOwn D y) w.catchType nm' ∈ vTg V ∧ (xn k, nm') ∈ vNc V)) ∧ covers x pc = true ∧ x.catchType ≠ 0 ∧
  Jvm.Cond.classLink (mOwn D y) x.catchType nm ∈ vTg V ∧ (Jvm.Cond.castable (xn k) nm ∈ vTg V ∨ Jvm.Cond.castable (xn k) nm ∈ vNt V) ∧ x.handlerPc = hp D y t
def StatOk (V : EV) (D : TB) (y pc idx z n fl : Nat) : Prop := CalleeOk V D z n ∧ Jvm.Cond.static (mName D z) ∈ vTg V ∧
  ((¬ fl = 1 ∧ Jvm.Cond.methodLink (mOwn D y) idx (mName D z) ∈ vTg V) ∨ (¬ fl = 1 ∧ mHH D z = [] ∧ ∃ host, Jvm.Cond.methodLinkNest (mOwn D y) idx (mName D z) host ∈ vNt V) ∨ (HanOk V D y pc ∧ mHH D z = [] ∧ Jvm.Cond.methodLink (mOwn D y) idx (mName D z) ∈ vTg V))
def VirtOk (V : EV) (D : TB) (y pc idx z n ci fl : Nat) : Prop := CalleeOk V D z n ∧ mHH D z = [] ∧ Jvm.Cond.instanceMethod (mName D z) ∈ vTg V ∧ Jvm.Cond.selects (mOwn D z) (mName D z) (mName D z) ∈ vTg V ∧ (∃ r, (vcl V)[ci]? = some r ∧ r.1 = mOwn D z) ∧
  ((¬ fl = 1 ∧ Jvm.Cond.methodLink (mOwn D y) idx (mName D z) ∈ vTg V) ∨ (¬ fl = 1 ∧ ∃ host, Jvm.Cond.methodLinkNest (mOwn D y) idx (mName D z) host ∈ vNt V) ∨ (HanOk V D y pc ∧ Jvm.Cond.methodLink (mOwn D y) idx (mName D z) ∈ vTg V))
/-- an inherited or overriding method, named through a class above -/
def VirtO2 (V : EV) (D : TB) (y idx z n ci fl : Nat) : Prop := CalleeOk V D z n ∧ mHH D z = [] ∧ ¬ fl = 1 ∧ Jvm.Cond.instanceMethod (mName D z) ∈ vTg V ∧ ∃ (r : vw_C) (x : MethodName), (vcl V)[ci]? = some r ∧ Jvm.Cond.methodLink (mOwn D y) idx x ∈ vTg V ∧ Jvm.Cond.selects r.1 x (mName D z) ∈ vTg V ∧
  ((Jvm.Cond.sameMethod x.cls (mOwn D z) x.name x.desc ∈ vTg V ∧ mName D z = ⟨mOwn D z, x.name, x.desc⟩) ∨
   ∃ (owner : String) (b0 : ByteArray) (m0 : Nat) (r0 : Option FieldType), Jvm.Cond.code ⟨owner, x.name, x.desc⟩ b0 m0 r0 ∈ vTg V ∧ owner ≠ "java/lang/invoke/MethodHandle" ∧ owner ≠ "java/lang/invoke/VarHandle" ∧ Jvm.Cond.sameMethod x.cls owner x.name x.desc ∈ vTg V ∧ Jvm.Cond.instanceMethod ⟨owner, x.name, x.desc⟩ ∈ vTg V ∧ x.desc = (mName D z).desc)
def FaceOk (V : EV) (D : TB) (y idx z n ci : Nat) : Prop := CalleeOk V D z n ∧ mHH D z = [] ∧ Jvm.Cond.instanceMethod (mName D z) ∈ vTg V ∧ ∃ (r : vw_C) (x : MethodName), (vcl V)[ci]? = some r ∧ Jvm.Cond.methodLink (mOwn D y) idx x ∈ vTg V ∧ Jvm.Cond.selects r.1 x (mName D z) ∈ vTg V ∧ x.cls ≠ "java/lang/invoke/MethodHandle" ∧ x.cls ≠ "java/lang/invoke/VarHandle" ∧ (parseMethodDescriptor x.desc).map (fun d => d.parameters.length) = some n ∧
  Jvm.Cond.declares x ∈ vNt V ∧ Jvm.Cond.interfaceMethod x.cls x.cls x.name x.desc ∈ vNt V ∧ Jvm.Cond.publicMethod (mName D z) ∈ vNt V ∧ Jvm.Cond.unhidden r.1 x.name x.desc ∈ vNt V ∧ Jvm.Cond.castable r.1 x.cls ∈ vNt V
def SuperOk (V : EV) (D : TB) (y idx z n ci : Nat) : Prop := CalleeOk V D z n ∧ mHH D z = [] ∧ Jvm.Cond.instanceMethod (mName D z) ∈ vTg V ∧ (∃ r : vw_C, (vcl V)[ci]? = some r) ∧ Jvm.Cond.methodLink (mOwn D y) idx (mName D z) ∈ vTg V ∧ Jvm.Cond.sameMethod (mOwn D z) (mOwn D z) (mName D z).name (mName D z).desc ∈ vTg V ∧ Jvm.Cond.superclass (mOwn D y) (mOwn D z) ∈ vTg V ∧ (mName D z).name ≠ "<init>"
def SpecOk (V : EV) (D : TB) (y idx z n : Nat) : Prop := CalleeOk V D z n ∧ mHH D z = [] ∧ mRet D z = none ∧ (mName D z).name = "<init>" ∧ Jvm.Cond.instanceMethod (mName D z) ∈ vTg V ∧
  (Jvm.Cond.methodLink (mOwn D y) idx (mName D z) ∈ vTg V ∨ ∃ host, Jvm.Cond.methodLinkNest (mOwn D y) idx (mName D z) host ∈ vNt V)
def ThrowOk (V : EV) (D : TB) (y pc k : Nat) : Prop := ∃ (ik is ic : Nat) (text : String) (names : List String), Bundle.fit (xn k) = true ∧ (∀ n ∈ names, Bundle.fit n = true) ∧ names.length ≤ 8 ∧ (∀ w ∈ Jvm.Cond.classLink (mOwn D y) ik (xn k) :: Jvm.Cond.initialized (xn k) :: vx_atS (mOwn D y) ic (xn k) names, w ∈ vTg V ∨ w ∈ vNt V) ∧
  (mOwn D y, is, text) ∈ vSt V ∧ decode (mBytes D y) pc = .ok (.new ik, 3) ∧ decode (mBytes D y) (pc + 3) = .ok (.dup, 1) ∧
  ((decode (mBytes D y) (pc + 4) = .ok (.ldc is, 2) ∧ decode (mBytes D y) (pc + 6) = .ok (.invokespecial ic, 3) ∧ decode (mBytes D y) (pc + 9) = .ok (.athrow, 1)) ∨ (decode (mBytes D y) (pc + 4) = .ok (.ldc_w is, 3) ∧ decode (mBytes D y) (pc + 7) = .ok (.invokespecial ic, 3) ∧ decode (mBytes D y) (pc + 10) = .ok (.athrow, 1))) ∧ mHH D y = []
def okRow (V : EV) (D : TB) (y npc pc : Nat) (ins : Instr) (aux : List Nat) : Prop := match ins with
  | .nop => hp D y (ax aux 0) = pc
  | .goto off => dec D y pc ins ∧ jmp D y pc (ax aux 0) off
  | .iload_n k => pl D y pc npc ins ∧ (k : Nat) = ax aux 0
  | .lload_n k => pl D y pc npc ins ∧ (k : Nat) = ax aux 0
  | .aload_n k => pl D y pc npc ins ∧ (k : Nat) = ax aux 0
  | .istore_n k => pl D y pc npc ins ∧ (k : Nat) = ax aux 0
  | .lstore_n k => pl D y pc npc ins ∧ (k : Nat) = ax aux 0
  | .astore_n k => pl D y pc npc ins ∧ (k : Nat) = ax aux 0
  | .iload i => pl D y pc npc ins ∧ i = ax aux 0
  | .lload i => pl D y pc npc ins ∧ i = ax aux 0
  | .aload i => pl D y pc npc ins ∧ i = ax aux 0
  | .istore i => pl D y pc npc ins ∧ i = ax aux 0
  | .lstore i => pl D y pc npc ins ∧ i = ax aux 0
  | .astore i => pl D y pc npc ins ∧ i = ax aux 0
  | .iinc i _ => pl D y pc npc ins ∧ i = ax aux 0
  | .ldc i => pl D y pc npc ins ∧ Jvm.Cond.constant (mOwn D y) i (Int32.ofNat (ax aux 0)) ∈ vTg V
  | .ldc_w i => pl D y pc npc ins ∧ Jvm.Cond.constant (mOwn D y) i (Int32.ofNat (ax aux 0)) ∈ vTg V
  | .ldc2_w i => pl D y pc npc ins ∧ Jvm.Cond.constantLong (mOwn D y) i (Int64.ofNat (ax aux 0)) ∈ vTg V
  | .if_icmp _ off => pl D y pc npc ins ∧ jmp D y pc (ax aux 0) off
  | .ifCond _ off => pl D y pc npc ins ∧ jmp D y pc (ax aux 0) off
  | .if_acmp _ off => pl D y pc npc ins ∧ jmp D y pc (ax aux 0) off
  | .ifnull off => pl D y pc npc ins ∧ jmp D y pc (ax aux 0) off
  | .ifnonnull off => pl D y pc npc ins ∧ jmp D y pc (ax aux 0) off
  | .tableswitch dflt lo hi offs => (∃ len, decode (mBytes D y) pc = .ok (ins, len)) ∧ jmp D y pc (ax aux 0) dflt ∧ hi - lo < offs.size ∧ ∀ j, j < offs.size → jmp D y pc (ax aux (j + 1)) (offs.getD j 0)
  | .lookupswitch dflt ps => (∃ len, decode (mBytes D y) pc = .ok (ins, len)) ∧ (ps.toList.zip (ps.toList.drop 1)).all (fun (a, next) => a.1 < next.1) = true ∧ ∀ x : Int, jmp D y pc (lsw ps.toList x (aux.drop 1) (ax aux 0)) (Op.lookupswitch.offset ps.toList dflt x)
  | .ireturn | .lreturn | .areturn | .return_ => dec D y pc ins
  | .getfield i => pl D y pc npc ins ∧ LinkF V D y i (ax aux 0) (ax aux 1)
  | .putfield i => pl D y pc npc ins ∧ LinkP V D y i (ax aux 0) (ax aux 1)
  | .getstatic i => pl D y pc npc ins ∧ ∃ q ref, (vZs V)[ax aux 0]? = some q ∧ Jvm.Cond.fieldLink (mOwn D y) i ref q.2.1 q.2.2 ∈ vTg V ∧ (ref = q.1 ∨ Jvm.Cond.sameField ref q.1 q.2.1 q.2.2 ∈ vTg V)
  | .new i => pl D y pc npc ins ∧ ∃ r, (vcl V)[ax aux 0]? = some r ∧ Jvm.Cond.classLink (mOwn D y) i r.1 ∈ vTg V ∧ Jvm.Cond.instantiable r.1 r.2.2 ∈ vTg V ∧ Jvm.Cond.initialized r.1 ∈ vTg V
  | .athrow => ThrowOk V D y pc (ax aux 0)
  | .newarray at_ => pl D y pc npc ins ∧ ArrOk V (ax aux 0) at_
  | .anewarray i => pl D y pc npc ins ∧ ∃ C, (vty V)[ax aux 0]?.map (·.2) = some (.object C) ∧ ax aux 0 < 8 ∧ Jvm.Cond.classLink (mOwn D y) i C ∈ vTg V
  | .checkcast i => pl D y pc npc ins ∧ CastOk V D y i (ax aux 0)
  | .instanceof i => pl D y pc npc ins ∧ ∃ r, (vcl V)[ax aux 0]? = some r ∧ Jvm.Cond.classLink (mOwn D y) i r.1 ∈ vTg V
  | .invokestatic i => pl D y pc npc ins ∧ StatOk V D y pc i (ax aux 0) (ax aux 1) (ax aux 2)
  | .invokevirtual i => pl D y pc npc ins ∧ (VirtOk V D y pc i (ax aux 0) (ax aux 1) (ax aux 2) (ax aux 3) ∨ VirtO2 V D y i (ax aux 0) (ax aux 1) (ax aux 2) (ax aux 3))
  | .invokespecial i => pl D y pc npc ins ∧ if ax aux 2 = 7 then Jvm.Cond.methodLink (mOwn D y) i objectInit ∈ vTg V ∧ Jvm.Cond.instanceMethod objectInit ∈ vTg V ∧ Jvm.Cond.code objectInit ⟨#[0xb1]⟩ 1 none ∈ vTg V else if ax aux 2 = 8 then SuperOk V D y i (ax aux 0) (ax aux 1) (ax aux 3) else SpecOk V D y i (ax aux 0) (ax aux 1)
  | .invokeinterface i _ => pl D y pc npc ins ∧ FaceOk V D y i (ax aux 0) (ax aux 1) (ax aux 2)
  | .jsr_w _ => True
  | .monitorenter => ∃ idx, decode (mBytes D y) pc = .ok (.invokevirtual idx, 3) ∧ npc = pc + 3 ∧ Jvm.Cond.methodLink (mOwn D y) idx gcN ∈ vTg V ∧ (Jvm.Cond.declares gcN ∈ vTg V ∨ Jvm.Cond.declares gcN ∈ vNt V) ∧ (Jvm.Cond.selects "[Ljava/lang/Object;" gcN gcN ∈ vTg V ∨ Jvm.Cond.selects "[Ljava/lang/Object;" gcN gcN ∈ vNt V) ∧ (Jvm.Cond.instanceMethod gcN ∈ vTg V ∨ Jvm.Cond.instanceMethod gcN ∈ vNt V) ∧ (Jvm.Cond.native gcN ∈ vTg V ∨ Jvm.Cond.native gcN ∈ vNt V)
  | .monitorexit => ∃ idx, decode (mBytes D y) pc = .ok (.ldc idx, 2) ∧ npc = pc + 2 ∧ Jvm.Cond.classLink (mOwn D y) idx "[Ljava/lang/Object;" ∈ vTg V
  | .jsr _ => ∃ idx, decode (mBytes D y) pc = .ok (.invokestatic idx, 3) ∧ npc = pc + 3 ∧ Jvm.Cond.methodLink (mOwn D y) idx arraycopyName ∈ vTg V ∧ (Jvm.Cond.native arraycopyName ∈ vTg V ∨ Jvm.Cond.native arraycopyName ∈ vNt V) ∧ (Jvm.Cond.static arraycopyName ∈ vTg V ∨ Jvm.Cond.static arraycopyName ∈ vNt V) ∧ (Jvm.Cond.initialized "java/lang/System" ∈ vTg V ∨ Jvm.Cond.initialized "java/lang/System" ∈ vNt V)
  | .swap => ∃ idx, decode (mBytes D y) pc = .ok (.invokestatic idx, 3) ∧ npc = pc + 3 ∧ Jvm.Cond.methodLink (mOwn D y) idx arraycopyName ∈ vTg V ∧ (Jvm.Cond.native arraycopyName ∈ vTg V ∨ Jvm.Cond.native arraycopyName ∈ vNt V) ∧ (Jvm.Cond.static arraycopyName ∈ vTg V ∨ Jvm.Cond.static arraycopyName ∈ vNt V) ∧ (Jvm.Cond.initialized "java/lang/System" ∈ vTg V ∨ Jvm.Cond.initialized "java/lang/System" ∈ vNt V)
  | _ => pl D y pc npc ins
def okSeg (V : EV) (D : TB) (y : Nat) : List AI → Prop
  | [] => True
  | r :: rest => okRow V D y (hd0 rest) r.1 r.2.1 r.2.2 ∧ okSeg V D y rest
