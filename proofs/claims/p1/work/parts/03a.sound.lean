/-! SOUNDNESS, 1: the machine's side of an abstract run. V: what the tables say of the launch; WR: from here, whatever heap and locals hold the abstract ones, the machine comes to the method's end. -/
/-- G, classes, array types, first new address, good words, words of nest mates and others that the tables alone decide, String constants, statics -/
abbrev EV : Type := va_G × List vw_C × List (ClassId × FieldType) × Nat × List Jvm.Cond × List Jvm.Cond × List (String × Nat × String) × List (String × String × String) × List (String × String)
def vG (V : EV) : va_G := V.1
def vcl (V : EV) : List vw_C := V.2.1
def vty (V : EV) : List (ClassId × FieldType) := V.2.2.1
def vA (V : EV) : Nat → Prop := fun q => V.2.2.2.1 ≤ q
def vTg (V : EV) : List Jvm.Cond := V.2.2.2.2.1
def vNt (V : EV) : List Jvm.Cond := V.2.2.2.2.2.1
def vSt (V : EV) : List (String × Nat × String) := V.2.2.2.2.2.2.1
def vZs (V : EV) : List (String × String × String) := V.2.2.2.2.2.2.2.1
/-- pairs of classes that can't be cast -/
def vNc (V : EV) : List (String × String) := V.2.2.2.2.2.2.2.2
def toE (V : EV) (e : AE) : va_E := match e with
  | .inl (t, x) => .inl (((vty V)[t]?.map (·.1)).getD 0, x)
  | .inr q => .inr q
def own8 (e : AE) : Prop := match e with
  | .inl (t, _) => t < 8
  | .inr _ => True
def RelO (V : EV) (h : AH) (H : Heap) : Prop := ∃ ws : va_W, (∀ a e, h a = some e → own8 e → ∃ k : Nat, ws[k]? = some (a, toE V e)) ∧ va_P (vG V) (vcl V) ws H ∧ va_D (vA V) ws
/-- an old object of one int field (an Integer of the cache) -/
def vO (V : EV) (a ci : Nat) (x : Int32) (s : State) : Prop := ∃ (r : vw_C) (cell : Cell), (vcl V)[ci]? = some r ∧ s.heap[a]? = some cell ∧ cell.vm.isStatics = false ∧ cell.vm ≠ .unknown ∧ s.vm.findClass r.1 = some cell.cls ∧ cell.slots[(vG V).2 ci 0]? = some (.int x) ∧ ¬ vA V a
/-- a cell that was there before: 8 a row of ints, 9 of Objects, 10 of Integers -/
def XR (V : EV) (a t n : Nat) (g : (Nat → Int32) ⊕ (Nat → Int64) ⊕ (Nat → UInt32) ⊕ (Nat → UInt64) ⊕ (Nat → Option Nat)) (s : State) : Prop :=
  (t = 8 ∧ ∃ f, g = .inl f ∧ va_T .int a n (fun j => .int (f j)) (vA V) s s.heap) ∨ (t = 9 ∧ ∃ f, g = .inr (.inr (.inr (.inr f))) ∧ va_T (.object "java/lang/Object") a n (fun j => va_rf (f j)) (vA V) s s.heap) ∨ (t = 10 ∧ ∃ f, g = .inr (.inr (.inr (.inr f))) ∧ va_T (.object "java/lang/Integer") a n (fun j => va_rf (f j)) (vA V) s s.heap) ∨ (t = 11 ∧ ∃ f, g = .inl f ∧ vO V a n (f 0) s)
def RelX (V : EV) (h : AH) (s : State) : Prop := ∀ a t n g, h a = some (.inl (t, n, g)) → 8 ≤ t → XR V a t n g s
def LR (nL : Nat) (L : LV) (ls : Array Slot) : Prop := L.length = nL ∧ ∃ lv : List (Nat × Value), lv_has ls nL lv ∧ ∀ (i : Nat) (v : Value), nth L i = some v → (i, v) ∈ lv
theorem LR.at {nL : Nat} {L : LV} {ls : Array Slot} {i : Nat} {v : Value} (h : LR nL L ls) (hi : nth L i = some v) : ls[i]? = some (.val v) := by
  obtain ⟨_, lv, h1, h2⟩ := h
  exact h1.2.2 _ (h2 i v hi)
theorem nth_lt : ∀ (L : LV) (i : Nat) (v : Value), nth L i = some v → i < L.length
  | [], _, _, h => by simp [nth] at h
  | _ :: _, 0, _, _ => by simp
  | _ :: r, i + 1, v, h => by
    have := nth_lt r i v h
    simp
    omega
theorem setL_len : ∀ (L : LV) (i : Nat) (v : Option Value), (setL L i v).length = L.length
  | [], _, _ => rfl
  | _ :: _, 0, _ => rfl
  | _ :: r, i + 1, v => by simp [setL, setL_len r i v]
theorem nth_setL : ∀ (L : LV) (i j : Nat) (v : Option Value), nth (setL L i v) j = if j = i ∧ i < L.length then v else nth L j
  | [], i, j, v => by simp [setL, nth]
  | x :: r, 0, 0, v => by simp [setL, nth]
  | x :: r, 0, j + 1, v => by simp [setL, nth]
  | x :: r, i + 1, 0, v => by simp [setL, nth]
  | x :: r, i + 1, j + 1, v => by
    have := nth_setL r i j v
    simp [setL, nth, this]
theorem nth_mk : ∀ (b : List Nat) (L : LV) (i : Nat) (v : Value), nth (mk b L) i = some v → nth L i = some v
  | 0 :: b, x :: L, 0, v, h => by simp [mk, nth] at h
  | 0 :: b, x :: L, i + 1, v, h => by
    simp only [mk, nth] at h ⊢
    exact nth_mk b L i v h
  | (n + 1) :: b, x :: L, 0, v, h => by simpa [mk, nth] using h
  | (n + 1) :: b, x :: L, i + 1, v, h => by
    simp only [mk, nth] at h ⊢
    exact nth_mk b L i v h
  | [], L, i, v, h => by simpa [mk] using h
  | 0 :: b, [], i, v, h => by simpa [mk] using h
  | (n + 1) :: b, [], i, v, h => by simpa [mk] using h
theorem mk_len : ∀ (b : List Nat) (L : LV), (mk b L).length = L.length
  | 0 :: b, x :: L => by simp [mk, mk_len b L]
  | (n + 1) :: b, x :: L => by simp [mk, mk_len b L]
  | [], L => by simp [mk]
  | 0 :: b, [] => by simp [mk]
  | (n + 1) :: b, [] => by simp [mk]
theorem nones_len : ∀ (L : LV), (nones L).length = L.length
  | [] => rfl
  | _ :: r => by simp [nones, nones_len r]
theorem nth_nones : ∀ (L : LV) (i : Nat), nth (nones L) i = none
  | [], _ => rfl
  | _ :: _, 0 => rfl
  | _ :: r, i + 1 => nth_nones r i
theorem LR.mk {nL : Nat} {L : LV} {ls : Array Slot} (b : List Nat) (h : LR nL L ls) : LR nL (mk b L) ls := by
  obtain ⟨h0, lv, h1, h2⟩ := h
  exact ⟨by rw [mk_len]; exact h0, lv, h1, fun i v hi => h2 i v (nth_mk b L i v hi)⟩
theorem LR.nones {nL : Nat} {L : LV} {ls : Array Slot} (h : LR nL L ls) : LR nL (nones L) ls := by
  obtain ⟨h0, lv, h1, h2⟩ := h
  exact ⟨by rw [nones_len]; exact h0, lv, h1, fun i v hi => by rw [nth_nones] at hi; cases hi⟩
theorem wide_cat {v : Value} (h : wide (some v) = false) : ¬ v.category = 2 := by
  cases v <;> simp [wide, Value.category] at h ⊢
theorem LR.store1 {nL : Nat} {L : LV} {ls' : Array Slot} {lv : List (Nat × Value)} {i : Nat} {v : Value} (h0 : L.length = nL) (h2 : ∀ (i : Nat) (v : Value), nth L i = some v → (i, v) ∈ lv) (hp : prevW L i = false)
    (h' : lv_has ls' nL ((i, v) :: lv.filter (fun q => !(q.1 == i) && !(q.1 + 1 == i && q.2.category == 2)))) : LR nL (setL L i (some v)) ls' := by
  refine ⟨by rw [setL_len]; exact h0, _, h', fun j w hj => ?_⟩
  rw [nth_setL] at hj
  by_cases hji : j = i
  · subst hji
    by_cases hl : j < L.length
    · rw [if_pos ⟨rfl, hl⟩] at hj
      cases hj
      exact List.mem_cons_self
    · rw [if_neg (fun q => hl q.2)] at hj
      exact absurd (nth_lt _ _ _ hj) hl
  · rw [if_neg (fun q => hji q.1)] at hj
    refine List.mem_cons_of_mem _ (List.mem_filter.mpr ⟨h2 j w hj, ?_⟩)
    have hz : ¬ (j + 1 = i ∧ w.category = 2) := by
      rintro ⟨rfl, hc⟩
      simp only [prevW, hj] at hp
      exact wide_cat hp hc
    simp [hji]
    by_cases q : j + 1 = i
    · exact Or.inr (fun hc => hz ⟨q, hc⟩)
    · exact Or.inl q
theorem LR.store2 {nL : Nat} {L : LV} {ls' : Array Slot} {lv : List (Nat × Value)} {i : Nat} {v : Value} (h0 : L.length = nL) (h2 : ∀ (i : Nat) (v : Value), nth L i = some v → (i, v) ∈ lv) (hp : prevW L i = false)
    (h' : lv_has ls' nL ((i, v) :: lv.filter (fun q => !(q.1 == i) && (!(q.1 == i + 1) && !(q.1 + 1 == i && q.2.category == 2))))) : LR nL (setL (setL L i (some v)) (i + 1) none) ls' := by
  refine ⟨by rw [setL_len, setL_len]; exact h0, _, h', fun j w hj => ?_⟩
  rw [nth_setL] at hj
  by_cases hj1 : j = i + 1
  · subst hj1
    rw [setL_len] at hj
    by_cases hl : i + 1 < L.length
    · rw [if_pos ⟨rfl, hl⟩] at hj
      cases hj
    · rw [if_neg (fun q => hl q.2), nth_setL, if_neg (fun q => absurd q.1 (by omega))] at hj
      exact absurd (nth_lt _ _ _ hj) hl
  · rw [if_neg (fun q => hj1 q.1), nth_setL] at hj
    by_cases hji : j = i
    · subst hji
      by_cases hl : j < L.length
      · rw [if_pos ⟨rfl, hl⟩] at hj
        cases hj
        exact List.mem_cons_self
      · rw [if_neg (fun q => hl q.2)] at hj
        exact absurd (nth_lt _ _ _ hj) hl
    · rw [if_neg (fun q => hji q.1)] at hj
      refine List.mem_cons_of_mem _ (List.mem_filter.mpr ⟨h2 j w hj, ?_⟩)
      have hz : ¬ (j + 1 = i ∧ w.category = 2) := by
        rintro ⟨rfl, hc⟩
        simp only [prevW, hj] at hp
        exact wide_cat hp hc
      simp [hji, hj1]
      by_cases q : j + 1 = i
      · exact Or.inr (fun hc => hz ⟨q, hc⟩)
      · exact Or.inl q
def rmD (D : TB) (y d : Nat) : Room := { frames := d + 12, cells := mBc D y, slots := mBs D y, locals := 41 * d + 524 }
/-- what the tables and the start say, for every state of the run: classes, words that the tables alone decide, Strings, statics -/
def Inv (V : EV) (D : TB) (U : State) : Prop := va_K (vG V) (vcl V) (vty V) U ∧ V.2.2.2.1 ≤ U.heap.size ∧ (∀ w ∈ vNt V, va_Nw w U) ∧ (∀ q ∈ vSt V, ∃ a, vk_R q.1 q.2.1 q.2.2 a U) ∧
  (∀ (k : Nat) (q : String × String × String), (vZs V)[k]? = some q → va_Z q.1 q.2.1 q.2.2 (D.2.2.2.2.2.2 k) (vA V) U U.heap) ∧
  vx_Zq Bundle.tN "UNASSIGNED_STACK" Bundle.steD (vA V) U U.heap ∧ vx_Zq Bundle.tN "SUPPRESSED_SENTINEL" Bundle.listD (vA V) U U.heap ∧ (∀ q ∈ vNc V, va_Nc q.1 q.2 U) ∧ (∀ (t : Nat) (cA : ClassId) (C : String), (vty V)[t]? = some (cA, .object C) → va_AO C U) ∧ ∃ mi, D.2.2.2.2.2.2 100 = .ref mi ∧ va_Mi "[Ljava/lang/Object;" mi U
def mOwn (D : TB) (y : Nat) : String := (mName D y).cls
/-- a body's context -/
def Cx (p : Program) (l : Launch) (s : State) (m : MethodId) (args : Array Value) (meth : Method) (c : Code) (V : EV) (D : TB) (y : Nat) : Prop :=
  p.tables.exec = Jvm.exec ∧ c.code = mBytes D y ∧ c.maxLocals = mMaxL D y ∧ meth.sig.returnType = mRet D y ∧ meth.locks = false ∧ s.vm.findClass (mOwn D y) = some m.cls ∧ (∀ w ∈ vTg V, w.before args s = true) ∧ Inv V D s ∧ l.stackTraces = false ∧ meth.name = (mName D y).name ∧ c.exceptionTable.toList = tableOf (mHH D y)
def WR (p : Program) (l : Launch) (e : Env) (s : State) (m : MethodId) (args : Array Value) (below : List Frame) (meth : Method) (c : Code) (V : EV) (D : TB) (y d : Nat) (Qc : Array Value → State → Outcome → State → Prop) (XC : String → State → State → Prop) (pc : Nat) (L : LV) (S : List Value) (h : AH) (bc bs : Nat) : Prop :=
  ∀ (H : Heap) (locs : List Loc) (cells slots : Nat) (ls : Array Slot), LR (mMaxL D y) L ls → RelO V h H → RelX V h s → va_S (vA V) s.heap H locs → cells + bc ≤ mBc D y → slots + bs ≤ mBs D y →
    W p l e (rmD D y d) s m args below meth c H locs cells slots (vx_MQ below Qc XC args s (mBc D y) (mBs D y) (vA V)) (F0 m pc ls S)
theorem s_mask {p : Program} {l : Launch} {e : Env} {s : State} {m : MethodId} {args : Array Value} {below : List Frame} {meth : Method} {c : Code} {V : EV} {D : TB} {y d : Nat} {Qc : Array Value → State → Outcome → State → Prop} {XC : String → State → State → Prop} {pc : Nat} {L : LV} {S : List Value} {h : AH} {bc bs : Nat} (b : List Nat) (k : WR p l e s m args below meth c V D y d Qc XC pc (mk b L) S h bc bs) : WR p l e s m args below meth c V D y d Qc XC pc L S h bc bs := fun H locs cells slots ls hl hO hX hS hc hs => k H locs cells slots ls (hl.mk b) hO hX hS hc hs
