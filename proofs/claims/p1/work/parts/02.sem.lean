/-! ABSTRACT RUNS: what a method does, over a heap that is a function, with ints and addresses as they are. 'one' is a row (an instruction), 'ex' a straight stretch of rows, 'run' a method's body by its labels, 'cal' a call at a depth. Nothing here speaks of the machine. -/
abbrev AE : Type := (Nat × vp_A) ⊕ (Nat × List Value)
abbrev AH : Type := Nat → Option AE
abbrev LV : Type := List (Option Value)
abbrev AI : Type := Nat × Instr × List Nat
abbrev RS : Type := Option Value ⊕ Nat
abbrev XT : Type := Nat → LV → List Value → AH → Nat → Nat → Prop
abbrev KT : Type := LV → List Value → AH → Nat → Nat → Prop
abbrev CT : Type := Nat → List Value → AH → (RS → AH → Prop) → Prop
/-- a method: its name, bytes, places of locals, type; its room (cells, slots); its rows and live locals by labels; its handlers (exception, label), and the table that they come from -/
abbrev MI : Type := (MethodName × ByteArray × Nat × Option FieldType) × (Nat × Nat) × (Nat → List AI × List Nat) × List (Nat × Nat) × List (Nat × Nat × Nat × Nat)
/-- the tables: methods; a field's type; a class's empty fields; may an object of a class be stored in an array of a kind; be cast by a cast's number; may an array be cast; statics -/
abbrev TB : Type := (Nat → MI) × (Nat → Nat → FieldType) × (Nat → List Value) × (Nat → Nat → Bool) × (Nat → Nat → Bool) × (Nat → Nat → Bool) × (Nat → Value)
def hup (h : AH) (a : Nat) (e : AE) : AH := fun b => if b = a then some e else h b
def nth : LV → Nat → Option Value
  | [], _ => none
  | v :: _, 0 => v
  | _ :: r, n + 1 => nth r n
def setL : LV → Nat → Option Value → LV
  | [], _, _ => []
  | _ :: r, 0, v => v :: r
  | x :: r, n + 1, v => x :: setL r n v
def wide : Option Value → Bool
  | some (.long _) => true
  | some (.double _) => true
  | _ => false
def prevW (L : LV) (i : Nat) : Bool := match i with
  | 0 => false
  | n + 1 => wide (nth L n)
def mk : List Nat → LV → LV
  | 0 :: b, _ :: L => none :: mk b L
  | (_ + 1) :: b, v :: L => v :: mk b L
  | _, L => L
def ax : List Nat → Nat → Nat
  | [], _ => 0
  | a :: _, 0 => a
  | _ :: r, n + 1 => ax r n
def popI (S : List Value) (f : Int32 → List Value → Prop) : Prop := match S with
  | .int x :: S' => f x S'
  | _ => False
def pop2I (S : List Value) (f : Int32 → Int32 → List Value → Prop) : Prop := match S with
  | .int y :: .int x :: S' => f x y S'
  | _ => False
def popL (S : List Value) (f : Int64 → List Value → Prop) : Prop := match S with
  | .long x :: S' => f x S'
  | _ => False
def pop2L (S : List Value) (f : Int64 → Int64 → List Value → Prop) : Prop := match S with
  | .long y :: .long x :: S' => f x y S'
  | _ => False
def popR (S : List Value) (f : Nat → List Value → Prop) : Prop := match S with
  | .ref a :: S' => f a S'
  | _ => False
/-- null or a reference -/
def popA (S : List Value) (f : Option Nat → List Value → Prop) : Prop := match S with
  | .ref a :: S' => f (some a) S'
  | .null :: S' => f none S'
  | _ => False
def pop2A (S : List Value) (f : Option Nat → Option Nat → List Value → Prop) : Prop := popA S fun b S1 => popA S1 fun a S2 => f a b S2
def pop1 (S : List Value) (f : Value → List Value → Prop) : Prop := match S with
  | v :: S' => v.category = 1 ∧ f v S'
  | _ => False
def popV (S : List Value) (f : Value → Nat → List Value → Prop) : Prop := match S with
  | v :: .ref a :: S' => f v a S'
  | _ => False
def popIR (S : List Value) (f : Int32 → Nat → List Value → Prop) : Prop := match S with
  | .int i :: .ref a :: S' => f i a S'
  | _ => False
def popIIR (S : List Value) (f : Int32 → Int32 → Nat → List Value → Prop) : Prop := match S with
  | .int x :: .int i :: .ref a :: S' => f x i a S'
  | _ => False
def popAIR (S : List Value) (f : Option Nat → Int32 → Nat → List Value → Prop) : Prop := match S with
  | .ref v :: .int i :: .ref a :: S' => f (some v) i a S'
  | .null :: .int i :: .ref a :: S' => f none i a S'
  | _ => False
def lvI (o : Option Value) (f : Int32 → Prop) : Prop := match o with
  | some (.int x) => f x
  | _ => False
def lvL (o : Option Value) (f : Int64 → Prop) : Prop := match o with
  | some (.long x) => f x
  | _ => False
def lvA (o : Option Value) (f : Option Nat → Prop) : Prop := match o with
  | some (.ref a) => f (some a)
  | some .null => f none
  | _ => False
def gF (o : Option AE) (ci k : Nat) (f : Value → Prop) : Prop := match o with
  | some (.inr (c, fs)) => c = ci ∧ ∃ v, fs[k]? = some v ∧ f v
  | some (.inl (t, c, .inl g)) => t = 11 ∧ c = ci ∧ k = 0 ∧ f (.int (g 0))
  | _ => False
def pF (o : Option AE) (ci k : Nat) (f : List Value → Prop) : Prop := match o with
  | some (.inr (c, fs)) => c = ci ∧ k < fs.length ∧ f fs
  | _ => False
def aN (o : Option AE) (f : Nat → Prop) : Prop := match o with
  | some (.inl (t, n, _)) => (t < 4 ∨ (8 ≤ t ∧ t < 11)) ∧ f n
  | _ => False
def aI (o : Option AE) (f : Nat → Nat → (Nat → Int32) → Prop) : Prop := match o with
  | some (.inl (t, n, .inl g)) => f t n g
  | _ => False
def aQ (o : Option AE) (f : Nat → Nat → (Nat → Option Nat) → Prop) : Prop := match o with
  | some (.inl (t, n, .inr (.inr (.inr (.inr g))))) => f t n g
  | _ => False
def isK (o : Option AE) (ci : Nat) : Prop := match o with
  | some (.inr (c, _)) => c = ci
  | some (.inl (t, c, _)) => t = 11 ∧ c = ci
  | _ => False
def castS (D : TB) (j : Nat) (o : Option AE) : Prop := match o with
  | some (.inr (c, _)) => D.2.2.2.2.1 j c = true
  | some (.inl (t, c, _)) => (t = 11 ∧ D.2.2.2.2.1 j c = true) ∨ (¬ t = 11 ∧ D.2.2.2.2.2.1 j t = true)
  | none => False
def storS (D : TB) (t : Nat) (o : Option AE) : Prop := match o with
  | some (.inr (c, _)) => D.2.2.2.1 t c = true
  | some (.inl (k, c, _)) => (k = 11 ∧ D.2.2.2.1 t c = true) ∨ (k = 0 ∧ D.2.2.2.1 (t + 100) 0 = true)
  | _ => False
def argsOf : Nat → List Value → List Value → List Value
  | 0, _, acc => acc
  | n + 1, v :: S, acc => argsOf n S (v :: acc)
  | _, [], acc => acc
def catsum : List Value → Nat
  | [] => 0
  | v :: S => v.category + catsum S
def cI (c : Jvm.ClassFile.Cond) (x y : Int32) : Prop := match c with
  | .eq => x = y
  | .ne => ¬ x = y
  | .lt => x < y
  | .ge => y ≤ x
  | .gt => y < x
  | .le => x ≤ y
def cA (c : ACond) (x y : Option Nat) : Prop := match c with
  | .eq => x = y
  | .ne => ¬ x = y
def tsw (lo hi : Int) (x : Int32) (aux : List Nat) : Nat := if x.toInt < lo ∨ hi < x.toInt then ax aux 0 else ax aux ((x.toInt - lo).toNat + 1)
def lsw (ps : List (Int × Int)) (x : Int) (aux : List Nat) (dflt : Nat) : Nat := match ps, aux with
  | (a, _) :: r, t :: aux' => if x = a then t else lsw r x aux' dflt
  | _, _ => dflt
def mName (D : TB) (y : Nat) : MethodName := (D.1 y).1.1
def mBytes (D : TB) (y : Nat) : ByteArray := (D.1 y).1.2.1
def mMaxL (D : TB) (y : Nat) : Nat := (D.1 y).1.2.2.1
def mRet (D : TB) (y : Nat) : Option FieldType := (D.1 y).1.2.2.2
def mBc (D : TB) (y : Nat) : Nat := (D.1 y).2.1.1
def mBs (D : TB) (y : Nat) : Nat := (D.1 y).2.1.2
def mSeg (D : TB) (y t : Nat) : List AI := ((D.1 y).2.2.1 t).1
def mLive (D : TB) (y t : Nat) : List Nat := ((D.1 y).2.2.1 t).2
def mHan (D : TB) (y : Nat) : List (Nat × Nat) := (D.1 y).2.2.2.1
def mHH (D : TB) (y : Nat) : List (Nat × Nat × Nat × Nat) := (D.1 y).2.2.2.2
def go (D : TB) (y : Nat) (X : XT) (t : Nat) : KT := fun L S h bc bs => X t (mk (mLive D y t) L) S h bc bs
def retOk (o : Option FieldType) (x : Int32) : Prop := match o with
  | some ty => narrow ty (.int x) = .int x
  | none => False
def refTy : Option FieldType → Bool
  | some (.object _) => true
  | some (.array _) => true
  | _ => false
def hand (l : List (Nat × Nat)) (k : Nat) (f : Nat → Prop) : Prop := match l with
  | [] => False
  | (a, t) :: r => (k = a ∧ f t) ∨ (¬ k = a ∧ hand r k f)
def nones : LV → LV
  | [] => []
  | _ :: r => none :: nones r
/-- the receiver: 0 none, 1 a reference (constructors), 2 an object of the class ci -/
def rcv (kind ci n : Nat) (S : List Value) (h : AH) : Prop := match kind with
  | 0 => True
  | 1 => ∃ b, S[n]? = some (.ref b)
  | _ => ∃ b, S[n]? = some (.ref b) ∧ isK (h b) ci
/-- what a call goes on with: the answer on the stack, or this method's handler -/
def qc (hl : List (Nat × Nat)) (X : XT) (K : KT) (L : LV) (rest : List Value) (bc bs : Nat) : RS → AH → Prop := fun r h' => match r with
  | .inl v => K L (v.toList ++ rest) h' bc bs
  | .inr k => hand hl k (fun t => ∀ q, X t (nones L) [.ref q] h' bc bs)
/-- the handlers at a row: 1 inside a try -/
def hlist (D : TB) (y fl : Nat) : List (Nat × Nat) := if fl = 1 then mHan D y else []
/-- a call of method z with n arguments (receiver not counted), kind as above -/
def popCopy (S : List Value) (f : Int32 → Int32 → Nat → Int32 → Nat → List Value → Prop) : Prop := match S with
  | .int n :: .int dp :: .ref d :: .int sp :: .ref a :: S' => f n dp d sp a S'
  | _ => False
def callK (D : TB) (hl : List (Nat × Nat)) (C : CT) (X : XT) (K : KT) (z n kind ci : Nat) : KT := fun L S h bc bs =>
  let nn := if kind = 0 then n else n + 1
  nn ≤ S.length ∧ rcv kind ci n S h ∧ catsum (S.drop nn) ≤ 8 ∧ mBc D z ≤ bc ∧ mBs D z ≤ bs ∧
    C z (argsOf nn S []) h (qc hl X K L (S.drop nn) (bc - mBc D z) (bs - mBs D z))
def one (D : TB) (y : Nat) (C : CT) (X : XT) (Q : RS → AH → Prop) (K : KT) (r : AI) : KT := fun L S h bc bs =>
  match r.2.1 with
  | .nop => go D y X (ax r.2.2 0) L S h bc bs
  | .goto _ => go D y X (ax r.2.2 0) L S h bc bs
  | .aconst_null => K L (.null :: S) h bc bs
  | .iconst n => K L (.int (Int32.ofInt n) :: S) h bc bs
  | .bipush n => K L (.int (Int8.ofInt n).toInt32 :: S) h bc bs
  | .sipush n => K L (.int (Int16.ofInt n).toInt32 :: S) h bc bs
  | .lconst n => K L (.long (Int64.ofNat (n : Nat)) :: S) h bc bs
  | .ldc _ => K L (.int (Int32.ofNat (ax r.2.2 0)) :: S) h bc bs
  | .ldc_w _ => K L (.int (Int32.ofNat (ax r.2.2 0)) :: S) h bc bs
  | .ldc2_w _ => K L (.long (Int64.ofNat (ax r.2.2 0)) :: S) h bc bs
  | .iload_n _ => lvI (nth L (ax r.2.2 0)) fun x => K L (.int x :: S) h bc bs
  | .iload _ => lvI (nth L (ax r.2.2 0)) fun x => K L (.int x :: S) h bc bs
  | .lload_n _ => lvL (nth L (ax r.2.2 0)) fun x => K L (.long x :: S) h bc bs
  | .lload _ => lvL (nth L (ax r.2.2 0)) fun x => K L (.long x :: S) h bc bs
  | .aload_n _ => lvA (nth L (ax r.2.2 0)) fun x => K L (va_rf x :: S) h bc bs
  | .aload _ => lvA (nth L (ax r.2.2 0)) fun x => K L (va_rf x :: S) h bc bs
  | .istore_n _ => popI S fun x S => prevW L (ax r.2.2 0) = false ∧ ax r.2.2 0 < L.length ∧ K (setL L (ax r.2.2 0) (some (.int x))) S h bc bs
  | .istore _ => popI S fun x S => prevW L (ax r.2.2 0) = false ∧ ax r.2.2 0 < L.length ∧ K (setL L (ax r.2.2 0) (some (.int x))) S h bc bs
  | .lstore_n _ => popL S fun x S => prevW L (ax r.2.2 0) = false ∧ ax r.2.2 0 + 1 < L.length ∧ K (setL (setL L (ax r.2.2 0) (some (.long x))) (ax r.2.2 0 + 1) none) S h bc bs
  | .lstore _ => popL S fun x S => prevW L (ax r.2.2 0) = false ∧ ax r.2.2 0 + 1 < L.length ∧ K (setL (setL L (ax r.2.2 0) (some (.long x))) (ax r.2.2 0 + 1) none) S h bc bs
  | .astore_n _ => popA S fun x S => prevW L (ax r.2.2 0) = false ∧ ax r.2.2 0 < L.length ∧ K (setL L (ax r.2.2 0) (some (va_rf x))) S h bc bs
  | .astore _ => popA S fun x S => prevW L (ax r.2.2 0) = false ∧ ax r.2.2 0 < L.length ∧ K (setL L (ax r.2.2 0) (some (va_rf x))) S h bc bs
  | .iinc _ n => lvI (nth L (ax r.2.2 0)) fun x => prevW L (ax r.2.2 0) = false ∧ ax r.2.2 0 < L.length ∧ K (setL L (ax r.2.2 0) (some (.int (x + Int32.ofInt n)))) S h bc bs
  | .iadd => pop2I S fun x y S => K L (.int (x + y) :: S) h bc bs
  | .isub => pop2I S fun x y S => K L (.int (x - y) :: S) h bc bs
  | .imul => pop2I S fun x y S => K L (.int (x * y) :: S) h bc bs
  | .iand => pop2I S fun x y S => K L (.int (x &&& y) :: S) h bc bs
  | .ior => pop2I S fun x y S => K L (.int (x ||| y) :: S) h bc bs
  | .ixor => pop2I S fun x y S => K L (.int (x ^^^ y) :: S) h bc bs
  | .idiv => pop2I S fun x y S => ¬ y = 0 ∧ K L (.int (x / y) :: S) h bc bs
  | .irem => pop2I S fun x y S => ¬ y = 0 ∧ K L (.int (x - x / y * y) :: S) h bc bs
  | .ishl => pop2I S fun x y S => K L (.int (x <<< (y &&& 31)) :: S) h bc bs
  | .ishr => pop2I S fun x y S => K L (.int (x >>> (y &&& 31)) :: S) h bc bs
  | .iushr => pop2I S fun x y S => K L (.int (x.toUInt32 >>> (y.toUInt32 &&& Int32.toUInt32 31)).toInt32 :: S) h bc bs
  | .i2l => popI S fun x S => K L (.long x.toInt64 :: S) h bc bs
  | .i2b => popI S fun x S => K L (.int x.toInt8.toInt32 :: S) h bc bs
  | .i2c => popI S fun x S => K L (.int (x.toUInt32 % 65536).toInt32 :: S) h bc bs
  | .ladd => pop2L S fun x y S => K L (.long (x + y) :: S) h bc bs
  | .lmul => pop2L S fun x y S => K L (.long (x * y) :: S) h bc bs
  | .lcmp => pop2L S fun x y S => K L (.int (lg_cmp x y) :: S) h bc bs
  | .dup => pop1 S fun v S => K L (v :: v :: S) h bc bs
  | .pop => pop1 S fun _ S => K L S h bc bs
  | .pop2 => popL S fun _ S => K L S h bc bs
  | .dup_x1 => pop1 S fun v S => pop1 S fun w S => K L (v :: w :: v :: S) h bc bs
  | .dup2 => pop1 S fun v S => pop1 S fun w S => K L (v :: w :: v :: w :: S) h bc bs
  | .if_icmp c _ => pop2I S fun x y' S => (cI c x y' → go D y X (ax r.2.2 0) L S h bc bs) ∧ (¬ cI c x y' → K L S h bc bs)
  | .ifCond c _ => popI S fun x S => (cI c x 0 → go D y X (ax r.2.2 0) L S h bc bs) ∧ (¬ cI c x 0 → K L S h bc bs)
  | .if_acmp c _ => pop2A S fun x y' S => (cA c x y' → go D y X (ax r.2.2 0) L S h bc bs) ∧ (¬ cA c x y' → K L S h bc bs)
  | .ifnull _ => popA S fun x S => (x = none → go D y X (ax r.2.2 0) L S h bc bs) ∧ (¬ x = none → K L S h bc bs)
  | .ifnonnull _ => popA S fun x S => (¬ x = none → go D y X (ax r.2.2 0) L S h bc bs) ∧ (x = none → K L S h bc bs)
  | .tableswitch _ lo hi _ => popI S fun x S => go D y X (tsw lo hi x r.2.2) L S h bc bs
  | .lookupswitch _ ps => popI S fun x S => go D y X (lsw ps.toList x.toInt (r.2.2.drop 1) (ax r.2.2 0)) L S h bc bs
  | .ireturn => popI S fun x S => S = [] ∧ retOk (mRet D y) x ∧ Q (.inl (some (.int x))) h
  | .lreturn => popL S fun x S => S = [] ∧ mRet D y = some .long ∧ Q (.inl (some (.long x))) h
  | .areturn => popA S fun x S => S = [] ∧ refTy (mRet D y) = true ∧ Q (.inl (some (va_rf x))) h
  | .return_ => S = [] ∧ mRet D y = none ∧ Q (.inl none) h
  | .getfield _ => popR S fun a S => gF (h a) (ax r.2.2 0) (ax r.2.2 1) fun v => K L (v :: S) h bc bs
  | .putfield _ => popV S fun v a S => narrow (D.2.1 (ax r.2.2 0) (ax r.2.2 1)) v = v ∧ fits (D.2.1 (ax r.2.2 0) (ax r.2.2 1)) v = true ∧ pF (h a) (ax r.2.2 0) (ax r.2.2 1) fun fs => K L S (hup h a (.inr (ax r.2.2 0, fs.set (ax r.2.2 1) v))) bc bs
  | .getstatic _ => K L (D.2.2.2.2.2.2 (ax r.2.2 0) :: S) h bc bs
  | .new _ => 1 ≤ bc ∧ (D.2.2.1 (ax r.2.2 0)).length ≤ bs ∧ ∀ a, h a = none → K L (.ref a :: S) (hup h a (.inr (ax r.2.2 0, D.2.2.1 (ax r.2.2 0)))) (bc - 1) (bs - (D.2.2.1 (ax r.2.2 0)).length)
  | .athrow => 1 ≤ bc ∧ 6 ≤ bs ∧ catsum S ≤ 8 ∧ Q (.inr (ax r.2.2 0)) h
  | .newarray _ => popI S fun n S => ¬ n < 0 ∧ n.toNatClampNeg ≤ 1000000 ∧ 1 ≤ bc ∧ n.toNatClampNeg ≤ bs ∧ ∀ a, h a = none → K L (.ref a :: S) (hup h a (.inl (ax r.2.2 0, n.toNatClampNeg, .inl (fun _ => 0)))) (bc - 1) (bs - n.toNatClampNeg)
  | .anewarray _ => popI S fun n S => ¬ n < 0 ∧ n.toNatClampNeg ≤ 1000000 ∧ 1 ≤ bc ∧ n.toNatClampNeg ≤ bs ∧ ∀ a, h a = none → K L (.ref a :: S) (hup h a (.inl (ax r.2.2 0, n.toNatClampNeg, .inr (.inr (.inr (.inr (fun _ => none))))))) (bc - 1) (bs - n.toNatClampNeg)
  | .arraylength => popR S fun a S => aN (h a) fun n => K L (.int (Int32.ofNat n) :: S) h bc bs
  | .iaload => popIR S fun i a S => aI (h a) fun t n f => (t = 0 ∨ t = 8) ∧ vp_in i n ∧ K L (.int (f i.toNatClampNeg) :: S) h bc bs
  | .baload => popIR S fun i a S => aI (h a) fun t n f => t = 1 ∧ vp_in i n ∧ K L (.int (f i.toNatClampNeg) :: S) h bc bs
  | .aaload => popIR S fun i a S => aQ (h a) fun t n f => ((t = 2 ∨ t = 3) ∨ t = 10) ∧ vp_in i n ∧ K L (va_rf (f i.toNatClampNeg) :: S) h bc bs
  | .iastore => popIIR S fun x i a S => aI (h a) fun t n f => t = 0 ∧ vp_in i n ∧ K L S (hup h a (.inl (0, n, .inl (upd f i.toNatClampNeg x)))) bc bs
  | .bastore => popIIR S fun x i a S => aI (h a) fun t n f => t = 1 ∧ vp_in i n ∧ K L S (hup h a (.inl (1, n, .inl (upd f i.toNatClampNeg (vp_nar .byte x))))) bc bs
  | .aastore => popAIR S fun v i a S => aQ (h a) fun t n f => (t = 2 ∨ t = 3) ∧ vp_in i n ∧ (∀ b, v = some b → storS D t (h b)) ∧ K L S (hup h a (.inl (t, n, .inr (.inr (.inr (.inr (va_up f i.toNatClampNeg v))))))) bc bs
  | .checkcast _ => popA S fun x S => (∀ a, x = some a → castS D (ax r.2.2 0) (h a)) ∧ K L (va_rf x :: S) h bc bs
  | .instanceof _ => popR S fun a S => isK (h a) (ax r.2.2 0) ∧ K L (.int 1 :: S) h bc bs
  | .invokevirtual _ => callK D (hlist D y (ax r.2.2 3)) C X K (ax r.2.2 0) (ax r.2.2 1) 2 (ax r.2.2 2) L S h bc bs
  | .invokestatic _ => callK D (hlist D y (ax r.2.2 2)) C X K (ax r.2.2 0) (ax r.2.2 1) 0 0 L S h bc bs
  | .invokeinterface _ _ => callK D [] C X K (ax r.2.2 0) (ax r.2.2 1) 2 (ax r.2.2 2) L S h bc bs
  | .invokespecial _ => if ax r.2.2 2 = 7 then popR S fun _ S => catsum S ≤ 8 ∧ K L S h bc bs else if ax r.2.2 2 = 8 then callK D [] C X K (ax r.2.2 0) (ax r.2.2 1) 2 (ax r.2.2 3) L S h bc bs else callK D [] C X K (ax r.2.2 0) (ax r.2.2 1) 1 0 L S h bc bs
  | .monitorenter => popR S fun a S => aQ (h a) fun t _ _ => t = 3 ∧ catsum S ≤ 8 ∧ K L (D.2.2.2.2.2.2 100 :: S) h bc bs
  | .ineg => popI S fun x S => K L (.int (-x) :: S) h bc bs
  | .jsr _ => popCopy S fun n dp d sp a S => aI (h a) fun t0 n0 f => aI (h d) fun t1 n1 g => t0 = 1 ∧ t1 = 1 ∧ catsum S ≤ 8 ∧ ¬ sp < 0 ∧ ¬ dp < 0 ∧ ¬ n < 0 ∧ sp.toNatClampNeg + n.toNatClampNeg ≤ n0 ∧ dp.toNatClampNeg + n.toNatClampNeg ≤ n1 ∧
      (∀ i, i < n.toNatClampNeg → fits .byte (.int (f (sp.toNatClampNeg + i))) = true) ∧ K L S (hup h d (.inl (1, n1, .inl (va_cpy f g sp.toNatClampNeg dp.toNatClampNeg n.toNatClampNeg)))) bc bs
  | .monitorexit => K L (D.2.2.2.2.2.2 100 :: S) h bc bs
  | .swap => popCopy S fun n dp d sp a S => aQ (h a) fun t0 n0 f => aQ (h d) fun t1 n1 g => t0 = 3 ∧ t1 = 3 ∧ catsum S ≤ 8 ∧ ¬ sp < 0 ∧ ¬ dp < 0 ∧ ¬ n < 0 ∧ sp.toNatClampNeg + n.toNatClampNeg ≤ n0 ∧ dp.toNatClampNeg + n.toNatClampNeg ≤ n1 ∧
      (∃ ci, D.2.2.2.1 3 ci = true ∧ ∀ i : Nat, i < n.toNatClampNeg → ∀ b : Nat, f (sp.toNatClampNeg + i) = some b → isK (h b) ci) ∧ K L S (hup h d (.inl (3, n1, .inr (.inr (.inr (.inr (va_cpy f g sp.toNatClampNeg dp.toNatClampNeg n.toNatClampNeg))))))) bc bs
  | _ => False
def ex (D : TB) (y : Nat) (C : CT) (X : XT) (Q : RS → AH → Prop) : List AI → KT
  | [] => fun _ _ _ _ _ => False
  | r :: rest => one D y C X Q (ex D y C X Q rest) r
/-- a label closed under the method's rows -/
def shut (D : TB) (y : Nat) (C : CT) (Q : RS → AH → Prop) (X : XT) : Prop := ∀ (t : Nat) (L : LV) (S : List Value) (h : AH) (bc bs : Nat), ex D y C X Q (mSeg D y t) L S h bc bs → X t L S h bc bs
def fillL : Nat → LV
  | 0 => []
  | n + 1 => none :: fillL n
def argL : List Value → Nat → LV
  | [], n => fillL n
  | _ :: _, 0 => []
  | .long x :: r, n + 2 => some (.long x) :: none :: argL r n
  | .double x :: r, n + 2 => some (.double x) :: none :: argL r n
  | v :: r, n + 1 => some v :: argL r n
def cal (D : TB) : Nat → CT
  | 0 => fun _ _ _ _ => False
  | d + 1 => fun y args h Q => catsum args ≤ mMaxL D y ∧ ∀ X : XT, shut D y (cal D d) Q X → X 0 (argL args (mMaxL D y)) [] h (mBc D y) (mBs D y)
