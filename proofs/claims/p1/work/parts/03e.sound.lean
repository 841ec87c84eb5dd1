/-! SOUNDNESS, 5: calls go on -/
theorem mem3 {T : List Jvm.Cond} {a b c : Jvm.Cond} (h1 : a ∈ T) (h2 : b ∈ T) (h3 : c ∈ T) : ∀ w ∈ [a, b, c], w ∈ T := List.forall_mem_cons.mpr ⟨h1, List.forall_mem_cons.mpr ⟨h2, List.forall_mem_cons.mpr ⟨h3, fun _ h => absurd h List.not_mem_nil⟩⟩⟩
theorem mem4 {T : List Jvm.Cond} {a b c e : Jvm.Cond} (h1 : a ∈ T) (h2 : b ∈ T) (h3 : c ∈ T) (h4 : e ∈ T) : ∀ w ∈ [a, b, c, e], w ∈ T := List.forall_mem_cons.mpr ⟨h1, mem3 h2 h3 h4⟩
theorem mem5 {T : List Jvm.Cond} {a b c e f : Jvm.Cond} (h1 : a ∈ T) (h2 : b ∈ T) (h3 : c ∈ T) (h4 : e ∈ T) (h5 : f ∈ T) : ∀ w ∈ [a, b, c, e, f], w ∈ T := List.forall_mem_cons.mpr ⟨h1, mem4 h2 h3 h4 h5⟩
theorem mem6 {T : List Jvm.Cond} {a b c e f g : Jvm.Cond} (h1 : a ∈ T) (h2 : b ∈ T) (h3 : c ∈ T) (h4 : e ∈ T) (h5 : f ∈ T) (h6 : g ∈ T) : ∀ w ∈ [a, b, c, e, f, g], w ∈ T := List.forall_mem_cons.mpr ⟨h1, mem5 h2 h3 h4 h5 h6⟩
def NW (V : EV) : Prop := ∀ w ∈ vNt V, ∀ s U : State, va_Nw w s → s.WarmedH U.vm → va_Nw w U
theorem argsOf_eq : ∀ (n : Nat) (S acc : List Value), argsOf n S acc = (S.take n).reverse ++ acc
  | 0, S, acc => by simp [argsOf]
  | n + 1, [], acc => by simp [argsOf]
  | n + 1, v :: S, acc => by simp [argsOf, argsOf_eq n S (v :: acc)]
theorem catsum_eq : ∀ (S : List Value), catsum S = (S.map fun v => v.category).sum
  | [] => rfl
  | v :: S => by simp [catsum, catsum_eq S]
/-- the callee's start -/
theorem PcD.start {V : EV} {D : TB} {s : State} {h : AH} {As : List Value} {H : Heap} {locs : List Loc} (hI : Inv V D s) (T0 : TV V D) (hnw : NW V) (hO : RelO V h H) (hX : RelX V h s) (hS : va_S (vA V) s.heap H locs) :
    ∀ U : State, U.heap = H → s.WarmedH U.vm → PcD V D h As As.toArray U := fun U hU hW =>
  ⟨rfl, Inv.warm hI T0 (fun w hw q hq => hnw w hw s U q hq) hS hU hW, by rw [hU]; exact hO, hX.move hW.alike (by rw [hU]; exact vA_all hI hS)⟩
section GoOn
theorem s_run {p : Program} {l : Launch} {e : Env} {s : State} {m : MethodId} {args : Array Value} {below : List Frame} {meth : Method} {c : Code} {V : EV} {D : TB} {y d : Nat} {Qc : Array Value → State → Outcome → State → Prop} {XC : String → State → State → Prop} {pc : Nat} {L : LV} {S : List Value} {h : AH} {bc bs : Nat} (C0 : Cx p l s m args meth c V D y) {z : Nat} {a : Array Value} {rest : List Value} {Q' : RS → AH → Prop} {H : Heap} {locs : List Loc} {cells slots : Nat} {ls : Array Slot} (hl : LR (mMaxL D y) L ls) (hS : va_S (vA V) s.heap H locs) (hc : cells + bc ≤ mBc D y) (hs : slots + bs ≤ mBs D y) (h1 : mBc D z ≤ bc) (h2 : mBs D z ≤ bs)
    (hr : va_Run p l e (rmD D y d) s m args below meth c H locs cells slots (mBc D z) (mBs D z) (F0 m pc ls S) rest (QN V Q' a) (vA V))
    (kk : ∀ v h', Q' (.inl v) h' → WR p l e s m args below meth c V D y d Qc XC (pc + 3) L (v.toList ++ rest) h' (bc - mBc D z) (bs - mBs D z)) : W p l e (rmD D y d) s m args below meth c H locs cells slots (vx_MQ below Qc XC args s (mBc D y) (mBs D y) (vA V)) (F0 m pc ls S) := by
  obtain ⟨hx, hb, hml, hr', hlk, hown, hts, hI, hst, hnm, hxt⟩ := C0
  intro T hT X
  obtain ⟨v, st₀, t, T', L', h0, X', hL, e1, e2, ⟨⟨v', h', hv, hq, hO', hX'⟩, hF⟩, st⟩ := hr T hT X
  cases hv
  obtain ⟨k1, k2, k3⟩ := vx_keep (A1 := vA V) (A0 := vA V) (H0 := s.heap) h0 e1 hS (fun _ _ q => q) (fun _ q => q) hL hF
  have hXs : RelX V h' s := by
    have hal : s.vm.Alike t.vm := by rw [← e2]; exact X'.warmed.alike
    refine hX'.move hal.symm (fun q hq' => ?_)
    rw [← e1]
    exact (vA_all hI k3 q hq').symm
  obtain ⟨t2, a1, b1⟩ := kk v h' hq T'.heap (locs ++ L') (cells + mBc D z) (slots + mBs D z) ls hl (by rw [e1]; exact hO') hXs k3 (by omega) (by omega) T' rfl X'
  exact ⟨t2, st t2 a1, b1⟩
/-- .. where the callee may throw, and this method catches -/
theorem s_run5 {p : Program} {l : Launch} {e : Env} {s : State} {m : MethodId} {args : Array Value} {below : List Frame} {meth : Method} {c : Code} {V : EV} {D : TB} {y d : Nat} {Qc : Array Value → State → Outcome → State → Prop} {XC : String → State → State → Prop} {pc : Nat} {L : LV} {S : List Value} {h : AH} {bc bs : Nat} (C0 : Cx p l s m args meth c V D y) {z : Nat} {a : Array Value} {rest : List Value} {Q' : RS → AH → Prop} {H : Heap} {locs : List Loc} {cells slots : Nat} {ls : Array Slot} (hl : LR (mMaxL D y) L ls) (hS : va_S (vA V) s.heap H locs) (hc : cells + bc ≤ mBc D y) (hs : slots + bs ≤ mBs D y) (h1 : mBc D z ≤ bc) (h2 : mBs D z ≤ bs)
    (hr : va_Run5 p l e (rmD D y d) s m args below meth c H locs cells slots (mBc D z) (mBs D z) (F0 m pc ls S) rest (QN V Q' a) (vA V))
    (kk : ∀ v h', Q' (.inl v) h' → WR p l e s m args below meth c V D y d Qc XC (pc + 5) L (v.toList ++ rest) h' (bc - mBc D z) (bs - mBs D z)) : W p l e (rmD D y d) s m args below meth c H locs cells slots (vx_MQ below Qc XC args s (mBc D y) (mBs D y) (vA V)) (F0 m pc ls S) := by
  obtain ⟨hx, hb, hml, hr', hlk, hown, hts, hI, hst, hnm, hxt⟩ := C0
  intro T hT X
  obtain ⟨v, st₀, t, T', L', h0, X', hL, e1, e2, ⟨⟨v', h', hv, hq, hO', hX'⟩, hF⟩, st⟩ := hr T hT X
  cases hv
  obtain ⟨k1, k2, k3⟩ := vx_keep (A1 := vA V) (A0 := vA V) (H0 := s.heap) h0 e1 hS (fun _ _ q => q) (fun _ q => q) hL hF
  have hXs : RelX V h' s := by
    have hal : s.vm.Alike t.vm := by rw [← e2]; exact X'.warmed.alike
    refine hX'.move hal.symm (fun q hq' => ?_)
    rw [← e1]
    exact (vA_all hI k3 q hq').symm
  obtain ⟨t2, a1, b1⟩ := kk v h' hq T'.heap (locs ++ L') (cells + mBc D z) (slots + mBs D z) ls hl (by rw [e1]; exact hO') hXs k3 (by omega) (by omega) T' rfl X'
  exact ⟨t2, st t2 a1, b1⟩
/-- .. where the callee may throw, and this method catches -/
theorem s_runX {p : Program} {l : Launch} {e : Env} {s : State} {m : MethodId} {args : Array Value} {below : List Frame} {meth : Method} {c : Code} {V : EV} {D : TB} {y d : Nat} {Qc : Array Value → State → Outcome → State → Prop} {XC : String → State → State → Prop} {pc : Nat} {L : LV} {S : List Value} {h : AH} {bc bs : Nat} (C0 : Cx p l s m args meth c V D y) {z : Nat} {a : Array Value} {rest : List Value} {Q' : RS → AH → Prop} {H : Heap} {locs : List Loc} {cells slots : Nat} {ls : Array Slot} (hl : LR (mMaxL D y) L ls) (hS : va_S (vA V) s.heap H locs) (hc : cells + bc ≤ mBc D y) (hs : slots + bs ≤ mBs D y) (h1 : mBc D z ≤ bc) (h2 : mBs D z ≤ bs)
    (hr : vx_Run p l e (rmD D y d) s m args below meth c H locs cells slots (mBc D z) (mBs D z) (F0 m pc ls S) rest (QN V Q' a) (QX V Q') (vA V))
    (kk : ∀ v h', Q' (.inl v) h' → WR p l e s m args below meth c V D y d Qc XC (pc + 3) L (v.toList ++ rest) h' (bc - mBc D z) (bs - mBs D z))
    (kx : ∀ k h', Q' (.inr k) h' → ∃ (hpc : Nat), (∀ q, WR p l e s m args below meth c V D y d Qc XC hpc (nones L) [.ref q] h' (bc - mBc D z) (bs - mBs D z)) ∧
      ∃ (pre : List ExceptionTableEntry) (x : ExceptionTableEntry) (suf : List ExceptionTableEntry) (nm : String), tableOf (mHH D y) = pre ++ x :: suf ∧ (∀ w ∈ pre, covers w pc = false ∨ (w.catchType ≠ 0 ∧ ∃ nm' : String, Jvm.Cond.classLink (mOwn D y) w.catchType nm' ∈ vTg V ∧ (xn k, nm') ∈ vNc V)) ∧ covers x pc = true ∧ x.catchType ≠ 0 ∧
        Jvm.Cond.classLink (mOwn D y) x.catchType nm ∈ vTg V ∧ (Jvm.Cond.castable (xn k) nm ∈ vTg V ∨ Jvm.Cond.castable (xn k) nm ∈ vNt V) ∧ x.handlerPc = hpc) (T0 : TV V D) : W p l e (rmD D y d) s m args below meth c H locs cells slots (vx_MQ below Qc XC args s (mBc D y) (mBs D y) (vA V)) (F0 m pc ls S) := by
  obtain ⟨hx, hb, hml, hr', hlk, hown, hts, hI, hst, hnm, hxt⟩ := C0
  intro T hT X
  rcases hr T hT X with ⟨v, st₀, t, T', L', h0, X', hL, e1, e2, ⟨⟨v', h', hv, hq, hO', hX'⟩, hF⟩, st⟩ | ⟨q, st₀, t, T', L', E, ce, h0, X', hL, e1, e2, ⟨⟨k, h', hE, hq, hO', hX'⟩, hF⟩, hce, hcv, hcl, st⟩
  · cases hv
    obtain ⟨k1, k2, k3⟩ := vx_keep (A1 := vA V) (A0 := vA V) (H0 := s.heap) h0 e1 hS (fun _ _ q => q) (fun _ q => q) hL hF
    have hXs : RelX V h' s := by
      have hal : s.vm.Alike t.vm := by rw [← e2]; exact X'.warmed.alike
      refine hX'.move hal.symm (fun q hq' => ?_)
      rw [← e1]
      exact (vA_all hI k3 q hq').symm
    obtain ⟨t2, a1, b1⟩ := kk v h' hq T'.heap (locs ++ L') (cells + mBc D z) (slots + mBs D z) ls hl (by rw [e1]; exact hO') hXs k3 (by omega) (by omega) T' rfl X'
    exact ⟨t2, st t2 a1, b1⟩
  · obtain ⟨k1, k2, k3⟩ := vx_keep (A1 := vA V) (A0 := vA V) (H0 := s.heap) h0 e1 hS (fun _ _ q => q) (fun _ q => q) hL hF
    have hXs : RelX V h' s := by
      have hal : s.vm.Alike t.vm := by rw [← e2]; exact X'.warmed.alike
      refine hX'.move hal.symm (fun q hq' => ?_)
      rw [← e1]
      exact (vA_all hI k3 q hq').symm
    obtain ⟨hpc, kw, pre, x, suf, nm, z1, z2, z3, z4, z5, z6, z7⟩ := kx k h' hq
    subst hE
    have K := kw q T'.heap (locs ++ L') (cells + mBc D z) (slots + mBs D z) ls hl.nones (by rw [e1]; exact hO') hXs k3 (by omega) (by omega)
    have KX := vx_catch (rest := rest) (ls := ls) (pc := pc) (E := xn k) (ce := ce) (q := q) hown pre x suf (hxt.trans z1) (fun w hw => by
      rcases z2 w hw with q1 | ⟨q1, nm', q2, q3⟩
      · exact Or.inl q1
      · exact Or.inr ⟨q1, nm', hts _ q2, hI.2.2.2.2.2.2.2.1 _ q3⟩) z3 z4 (hts _ z5) (w_in T0 hts hI z6) (H := T'.heap) (by rw [e1]; exact hce) hcv hcl (by rw [z7]; exact K)
    obtain ⟨t2, a1, b1⟩ := KX T' rfl X'
    exact ⟨t2, st.trans a1, b1⟩
end GoOn
/-- the callee's words, but those that say which way it is called -/
def CalleeOk (V : EV) (D : TB) (z n : Nat) : Prop := codeW D z ∈ vTg V ∧ Jvm.Cond.initialized (mOwn D z) ∈ vTg V ∧ (mName D z).cls ≠ "java/lang/invoke/MethodHandle" ∧ (mName D z).cls ≠ "java/lang/invoke/VarHandle" ∧ (parseMethodDescriptor (mName D z).desc).map (fun d => d.parameters.length) = some n ∧ mMaxL D z ≤ 22
theorem good_ws {V : EV} {D : TB} (T0 : TV V D) {z : Nat} (h : codeW D z ∈ vTg V) : GoodIn (vTg V) (codeW D z :: vTg V) := by
  intro w hw
  have hm : w ∈ vTg V := by
    rcases List.mem_cons.mp hw with rfl | hw
    · exact h
    · exact hw
  exact ⟨hm, good_of_word (T0.2.2.1 w hm)⟩
theorem good_app {V : EV} {D : TB} (T0 : TV V D) {z : Nat} (h : codeW D z ∈ vTg V) (ws : List Jvm.Cond) (hws : ∀ w ∈ ws, w ∈ vTg V) : GoodIn (vTg V) (ws ++ (codeW D z :: vTg V)) := by
  intro w hw
  rcases List.mem_append.mp hw with q | q
  · exact ⟨hws w q, good_of_word (T0.2.2.1 w (hws w q))⟩
  · exact good_ws T0 h w q
section Ways
theorem codeW_nil {D : TB} {z : Nat} (h : mHH D z = []) : codeW D z = .code (mName D z) (mBytes D z) (mMaxL D z) (mRet D z) := by simp [codeW, h]
theorem codeW_cons {D : TB} {z : Nat} (h : mHH D z ≠ []) : codeW D z = .codeWith (mName D z) (mBytes D z) (mMaxL D z) (mRet D z) (mHH D z) := by
  cases hh : mHH D z with
  | nil => exact absurd hh h
  | cons a r => simp [codeW, hh]
theorem room_ok {D : TB} {y z d : Nat} (h : mMaxL D z ≤ 22) : (rmD D z d).frames + 1 ≤ (rmD D y (d + 1)).frames ∧ 8 + (mMaxL D z + 11) + (rmD D z d).locals ≤ (rmD D y (d + 1)).locals := by
  refine ⟨?_, ?_⟩
  · show d + 12 + 1 ≤ d + 1 + 12
    omega
  · show 8 + (mMaxL D z + 11) + (41 * d + 524) ≤ 41 * (d + 1) + 524
    omega
variable {p : Program} {l : Launch} {e : Env} {s : State} {m : MethodId} {args : Array Value} {below : List Frame} {meth : Method} {c : Code} {V : EV} {D : TB} {y d : Nat} {pc : Nat} {L : LV} {h : AH} {bc bs : Nat} {H : Heap} {locs : List Loc} {cells slots : Nat} {ls : Array Slot} {z n idx : Nat} {rest As : List Value} {Q' : RS → AH → Prop}
theorem lsz (C0 : Cx p l s m args meth c V D y) (hl : LR (mMaxL D y) L ls) : ls.size = mMaxL D y := by obtain ⟨_, lv, q, _⟩ := hl; exact q.1
theorem w_static (C0 : Cx p l s m args meth c V D y) (T0 : TV V D) (hnw : NW V) (hO : RelO V h H) (hX : RelX V h s) (hS : va_S (vA V) s.heap H locs) (hl : LR (mMaxL D y) L ls) (ok : CalleeOk V D z n) (hz : mHH D z = []) (hM : MetD l V D d z As h Q') (hno : ∀ k h, ¬ Q' (.inr k) h) (hlen : As.length = n) (hcs : catsum rest ≤ 8)
    (hlink : Jvm.Cond.methodLink (mOwn D y) idx (mName D z) ∈ vTg V) (hstat : Jvm.Cond.static (mName D z) ∈ vTg V) (dg : decode (mBytes D y) pc = .ok (.invokestatic idx, 3)) (hc : cells + mBc D z ≤ mBc D y) (hs : slots + mBs D z ≤ mBs D y) :
    va_Run p l e (rmD D y (d + 1)) s m args below meth c H locs cells slots (mBc D z) (mBs D z) (F0 m pc ls (As.reverse ++ rest)) rest (QN V Q' As.toArray) (vA V) := by
  have hsz := lsz C0 hl
  obtain ⟨hx, hb, hml, hr, hlk, hown, hts, hI, hst, hnm, hxt⟩ := C0
  obtain ⟨o1, o2, o3, o4, o5, o6⟩ := ok
  exact va_runS ⟨hx, hb, hml, hown, hts⟩ (hM.met hno) (va_cwS n hts (good_app T0 o1 _ (mem3 hlink hstat o2)) (by rw [codeW_nil hz]) rfl rfl ⟨o3, o4, o5⟩ (room_ok o6)) ⟨PcD.blind T0, PcD.start hI T0 hnw hO hX hS⟩ rfl hlen hsz rfl (lv_room (by rw [← catsum_eq]; exact hcs)) dg ⟨hc, hs⟩
theorem w_staticX (C0 : Cx p l s m args meth c V D y) (T0 : TV V D) (hnw : NW V) (hO : RelO V h H) (hX : RelX V h s) (hS : va_S (vA V) s.heap H locs) (hl : LR (mMaxL D y) L ls) (ok : CalleeOk V D z n) (hz : mHH D z = []) (hM : MetD l V D d z As h Q') (hlen : As.length = n) (hcs : catsum rest ≤ 8)
    (hlink : Jvm.Cond.methodLink (mOwn D y) idx (mName D z) ∈ vTg V) (hstat : Jvm.Cond.static (mName D z) ∈ vTg V) (dg : decode (mBytes D y) pc = .ok (.invokestatic idx, 3)) (hc : cells + mBc D z ≤ mBc D y) (hs : slots + mBs D z ≤ mBs D y) :
    vx_Run p l e (rmD D y (d + 1)) s m args below meth c H locs cells slots (mBc D z) (mBs D z) (F0 m pc ls (As.reverse ++ rest)) rest (QN V Q' As.toArray) (QX V Q') (vA V) := by
  have hsz := lsz C0 hl
  obtain ⟨hx, hb, hml, hr, hlk, hown, hts, hI, hst, hnm, hxt⟩ := C0
  obtain ⟨o1, o2, o3, o4, o5, o6⟩ := ok
  exact vx_runS ⟨hx, hb, hml, hown, hts⟩ hM (va_cwS n hts (good_app T0 o1 _ (mem3 hlink hstat o2)) (by rw [codeW_nil hz]) rfl rfl ⟨o3, o4, o5⟩ (room_ok o6)) ⟨PcD.blind T0, PcD.start hI T0 hnw hO hX hS⟩ rfl hlen hsz rfl (lv_room (by rw [← catsum_eq]; exact hcs)) dg ⟨hc, hs⟩
/-- a static callee that has a table of its own -/
theorem w_staticT (C0 : Cx p l s m args meth c V D y) (T0 : TV V D) (hnw : NW V) (hO : RelO V h H) (hX : RelX V h s) (hS : va_S (vA V) s.heap H locs) (hl : LR (mMaxL D y) L ls) (ok : CalleeOk V D z n) (hz : mHH D z ≠ []) (hM : MetD l V D d z As h Q') (hno : ∀ k h, ¬ Q' (.inr k) h) (hlen : As.length = n) (hcs : catsum rest ≤ 8)
    (hlink : Jvm.Cond.methodLink (mOwn D y) idx (mName D z) ∈ vTg V) (hstat : Jvm.Cond.static (mName D z) ∈ vTg V) (dg : decode (mBytes D y) pc = .ok (.invokestatic idx, 3)) (hc : cells + mBc D z ≤ mBc D y) (hs : slots + mBs D z ≤ mBs D y) :
    va_Run p l e (rmD D y (d + 1)) s m args below meth c H locs cells slots (mBc D z) (mBs D z) (F0 m pc ls (As.reverse ++ rest)) rest (QN V Q' As.toArray) (vA V) := by
  have hsz := lsz C0 hl
  obtain ⟨hx, hb, hml, hr, hlk, hown, hts, hI, hst, hnm, hxt⟩ := C0
  obtain ⟨o1, o2, o3, o4, o5, o6⟩ := ok
  exact vx_runSW ⟨hx, hb, hml, hown, hts⟩ (hM.met hno) (vx_cwSW n hts (good_app T0 o1 _ (mem3 hlink hstat o2)) (by rw [codeW_cons hz]) rfl rfl ⟨o3, o4, o5⟩ (room_ok o6)) ⟨PcD.blind T0, PcD.start hI T0 hnw hO hX hS⟩ rfl hlen hsz rfl (lv_room (by rw [← catsum_eq]; exact hcs)) dg ⟨hc, hs⟩
theorem w_virt (C0 : Cx p l s m args meth c V D y) (T0 : TV V D) (hnw : NW V) (hO : RelO V h H) (hX : RelX V h s) (hS : va_S (vA V) s.heap H locs) (hl : LR (mMaxL D y) L ls) (ok : CalleeOk V D z n) (hz : mHH D z = []) {b ci : Nat} {r : vw_C} (hM : MetD l V D d z (.ref b :: As) h Q') (hno : ∀ k h, ¬ Q' (.inr k) h) (hlen : As.length = n) (hcs : catsum rest ≤ 8)
    (hcl : (vcl V)[ci]? = some r) (hb0 : isK (h b) ci) (hrz : r.1 = mOwn D z) (hlink : Jvm.Cond.methodLink (mOwn D y) idx (mName D z) ∈ vTg V) (hins : Jvm.Cond.instanceMethod (mName D z) ∈ vTg V) (hsel : Jvm.Cond.selects (mOwn D z) (mName D z) (mName D z) ∈ vTg V) (dg : decode (mBytes D y) pc = .ok (.invokevirtual idx, 3)) (hc : cells + mBc D z ≤ mBc D y) (hs : slots + mBs D z ≤ mBs D y) :
    va_Run p l e (rmD D y (d + 1)) s m args below meth c H locs cells slots (mBc D z) (mBs D z) (F0 m pc ls (As.reverse ++ .ref b :: rest)) rest (QN V Q' (.ref b :: As).toArray) (vA V) := by
  have hsz := lsz C0 hl
  obtain ⟨hx, hb, hml, hr, hlk, hown, hts, hI, hst, hnm, hxt⟩ := C0
  obtain ⟨o1, o2, o3, o4, o5, o6⟩ := ok
  exact va_runV ⟨hx, hb, hml, hown, hts⟩ (hM.met hno) (cwV n hts (good_app T0 o1 _ (mem4 hlink hins hsel o2)) (by rw [codeW_nil hz]) rfl rfl ⟨rfl, o3, o4, o5⟩ (room_ok o6)) ⟨PcD.blind T0, by rw [← hrz]; exact w_recv hI hO hX hS hcl hb0, PcD.start hI T0 hnw hO hX hS⟩ rfl hlen hsz rfl (lv_room (by rw [← catsum_eq]; exact hcs)) dg ⟨hc, hs⟩
theorem w_virtX (C0 : Cx p l s m args meth c V D y) (T0 : TV V D) (hnw : NW V) (hO : RelO V h H) (hX : RelX V h s) (hS : va_S (vA V) s.heap H locs) (hl : LR (mMaxL D y) L ls) (ok : CalleeOk V D z n) (hz : mHH D z = []) {b ci : Nat} {r : vw_C} (hM : MetD l V D d z (.ref b :: As) h Q') (hlen : As.length = n) (hcs : catsum rest ≤ 8)
    (hcl : (vcl V)[ci]? = some r) (hb0 : isK (h b) ci) (hrz : r.1 = mOwn D z) (hlink : Jvm.Cond.methodLink (mOwn D y) idx (mName D z) ∈ vTg V) (hins : Jvm.Cond.instanceMethod (mName D z) ∈ vTg V) (hsel : Jvm.Cond.selects (mOwn D z) (mName D z) (mName D z) ∈ vTg V) (dg : decode (mBytes D y) pc = .ok (.invokevirtual idx, 3)) (hc : cells + mBc D z ≤ mBc D y) (hs : slots + mBs D z ≤ mBs D y) :
    vx_Run p l e (rmD D y (d + 1)) s m args below meth c H locs cells slots (mBc D z) (mBs D z) (F0 m pc ls (As.reverse ++ .ref b :: rest)) rest (QN V Q' (.ref b :: As).toArray) (QX V Q') (vA V) := by
  have hsz := lsz C0 hl
  obtain ⟨hx, hb, hml, hr, hlk, hown, hts, hI, hst, hnm, hxt⟩ := C0
  obtain ⟨o1, o2, o3, o4, o5, o6⟩ := ok
  exact vx_runV ⟨hx, hb, hml, hown, hts⟩ hM (cwV n hts (good_app T0 o1 _ (mem4 hlink hins hsel o2)) (by rw [codeW_nil hz]) rfl rfl ⟨rfl, o3, o4, o5⟩ (room_ok o6)) ⟨PcD.blind T0, by rw [← hrz]; exact w_recv hI hO hX hS hcl hb0, PcD.start hI T0 hnw hO hX hS⟩ rfl hlen hsz rfl (lv_room (by rw [← catsum_eq]; exact hcs)) dg ⟨hc, hs⟩
/-- an inherited method, by the name of a class above it -/
theorem w_virtU (C0 : Cx p l s m args meth c V D y) (T0 : TV V D) (hnw : NW V) (hO : RelO V h H) (hX : RelX V h s) (hS : va_S (vA V) s.heap H locs) (hl : LR (mMaxL D y) L ls) (ok : CalleeOk V D z n) (hz : mHH D z = []) {b ci : Nat} {r : vw_C} {x : MethodName} (hM : MetD l V D d z (.ref b :: As) h Q') (hno : ∀ k h, ¬ Q' (.inr k) h) (hlen : As.length = n) (hcs : catsum rest ≤ 8)
    (hcl : (vcl V)[ci]? = some r) (hb0 : isK (h b) ci) (hlink : Jvm.Cond.methodLink (mOwn D y) idx x ∈ vTg V) (hsm : Jvm.Cond.sameMethod x.cls (mOwn D z) x.name x.desc ∈ vTg V) (hsel : Jvm.Cond.selects r.1 x (mName D z) ∈ vTg V) (hins : Jvm.Cond.instanceMethod (mName D z) ∈ vTg V) (hyx : mName D z = ⟨mOwn D z, x.name, x.desc⟩) (dg : decode (mBytes D y) pc = .ok (.invokevirtual idx, 3)) (hc : cells + mBc D z ≤ mBc D y) (hs : slots + mBs D z ≤ mBs D y) :
    va_Run p l e (rmD D y (d + 1)) s m args below meth c H locs cells slots (mBc D z) (mBs D z) (F0 m pc ls (As.reverse ++ .ref b :: rest)) rest (QN V Q' (.ref b :: As).toArray) (vA V) := by
  have hsz := lsz C0 hl
  obtain ⟨hx, hb, hml, hr, hlk, hown, hts, hI, hst, hnm, hxt⟩ := C0
  obtain ⟨o1, o2, o3, o4, o5, o6⟩ := ok
  have hdx : x.desc = (mName D z).desc := by rw [hyx]
  exact va_runU ⟨hx, hb, hml, hown, hts⟩ (hM.met hno) (va_cwU n hts (good_app T0 o1 _ (mem5 hlink hsm hsel hins o2)) (by rw [codeW_nil hz]) rfl rfl hyx ⟨o3, o4, by rw [hdx]; exact o5⟩ (room_ok o6)) ⟨PcD.blind T0, w_recv hI hO hX hS hcl hb0, PcD.start hI T0 hnw hO hX hS⟩ rfl hlen hsz rfl (lv_room (by rw [← catsum_eq]; exact hcs)) dg ⟨hc, hs⟩
/-- .. an overriding one -/
theorem w_virtO (C0 : Cx p l s m args meth c V D y) (T0 : TV V D) (hnw : NW V) (hO : RelO V h H) (hX : RelX V h s) (hS : va_S (vA V) s.heap H locs) (hl : LR (mMaxL D y) L ls) (ok : CalleeOk V D z n) (hz : mHH D z = []) {b ci : Nat} {r : vw_C} {x : MethodName} {owner : String} {b0 : ByteArray} {m0 : Nat} {r0 : Option FieldType} (hM : MetD l V D d z (.ref b :: As) h Q') (hno : ∀ k h, ¬ Q' (.inr k) h) (hlen : As.length = n) (hcs : catsum rest ≤ 8)
    (hcl : (vcl V)[ci]? = some r) (hb0 : isK (h b) ci) (h0 : Jvm.Cond.code ⟨owner, x.name, x.desc⟩ b0 m0 r0 ∈ vTg V) (ho1 : owner ≠ "java/lang/invoke/MethodHandle") (ho2 : owner ≠ "java/lang/invoke/VarHandle") (hlink : Jvm.Cond.methodLink (mOwn D y) idx x ∈ vTg V) (hsm : Jvm.Cond.sameMethod x.cls owner x.name x.desc ∈ vTg V) (hin0 : Jvm.Cond.instanceMethod ⟨owner, x.name, x.desc⟩ ∈ vTg V) (hsel : Jvm.Cond.selects r.1 x (mName D z) ∈ vTg V) (hins : Jvm.Cond.instanceMethod (mName D z) ∈ vTg V) (hdx : x.desc = (mName D z).desc) (dg : decode (mBytes D y) pc = .ok (.invokevirtual idx, 3)) (hc : cells + mBc D z ≤ mBc D y) (hs : slots + mBs D z ≤ mBs D y) :
    va_Run p l e (rmD D y (d + 1)) s m args below meth c H locs cells slots (mBc D z) (mBs D z) (F0 m pc ls (As.reverse ++ .ref b :: rest)) rest (QN V Q' (.ref b :: As).toArray) (vA V) := by
  have hsz := lsz C0 hl
  obtain ⟨hx, hb, hml, hr, hlk, hown, hts, hI, hst, hnm, hxt⟩ := C0
  obtain ⟨o1, o2, o3, o4, o5, o6⟩ := ok
  exact va_runU ⟨hx, hb, hml, hown, hts⟩ (hM.met hno) (va_cwO n hts (good_app T0 o1 _ (mem6 hlink hsm hin0 hsel hins o2)) (by rw [codeW_nil hz]) rfl rfl h0 ⟨ho1, ho2, by rw [hdx]; exact o5⟩ (room_ok o6)) ⟨PcD.blind T0, w_recv hI hO hX hS hcl hb0, PcD.start hI T0 hnw hO hX hS⟩ rfl hlen hsz rfl (lv_room (by rw [← catsum_eq]; exact hcs)) dg ⟨hc, hs⟩
/-- through an interface -/
theorem w_face (C0 : Cx p l s m args meth c V D y) (T0 : TV V D) (hnw : NW V) (hO : RelO V h H) (hX : RelX V h s) (hS : va_S (vA V) s.heap H locs) (hl : LR (mMaxL D y) L ls) (ok : CalleeOk V D z n) (hz : mHH D z = []) {b ci cnt : Nat} {r : vw_C} {x : MethodName} (hM : MetD l V D d z (.ref b :: As) h Q') (hno : ∀ k h, ¬ Q' (.inr k) h) (hlen : As.length = n) (hcs : catsum rest ≤ 8)
    (hcl : (vcl V)[ci]? = some r) (hb0 : isK (h b) ci) (hlink : Jvm.Cond.methodLink (mOwn D y) idx x ∈ vTg V) (hsel : Jvm.Cond.selects r.1 x (mName D z) ∈ vTg V) (hins : Jvm.Cond.instanceMethod (mName D z) ∈ vTg V) (hx1 : x.cls ≠ "java/lang/invoke/MethodHandle") (hx2 : x.cls ≠ "java/lang/invoke/VarHandle") (hx3 : (parseMethodDescriptor x.desc).map (fun d => d.parameters.length) = some n)
    (f1 : Jvm.Cond.declares x ∈ vNt V) (f2 : Jvm.Cond.interfaceMethod x.cls x.cls x.name x.desc ∈ vNt V) (f3 : Jvm.Cond.publicMethod (mName D z) ∈ vNt V) (f4 : Jvm.Cond.unhidden r.1 x.name x.desc ∈ vNt V) (f5 : Jvm.Cond.castable r.1 x.cls ∈ vNt V) (dg : decode (mBytes D y) pc = .ok (.invokeinterface idx cnt, 5)) (hc : cells + mBc D z ≤ mBc D y) (hs : slots + mBs D z ≤ mBs D y) :
    va_Run5 p l e (rmD D y (d + 1)) s m args below meth c H locs cells slots (mBc D z) (mBs D z) (F0 m pc ls (As.reverse ++ .ref b :: rest)) rest (QN V Q' (.ref b :: As).toArray) (vA V) := by
  have hsz := lsz C0 hl
  obtain ⟨hx, hb, hml, hr, hlk, hown, hts, hI, hst, hnm, hxt⟩ := C0
  obtain ⟨o1, o2, o3, o4, o5, o6⟩ := ok
  exact va_runF (hI.1.1 ci r hcl).2 ⟨hx, hb, hml, hown, hts⟩ (hM.met hno) (va_cwF n hts (good_app T0 o1 _ (mem4 hlink hsel hins o2)) (by rw [codeW_nil hz]) rfl rfl ⟨hI.2.2.1 _ f1, hI.2.2.1 _ f2, hI.2.2.1 _ f3, hI.2.2.1 _ f4, hI.2.2.1 _ f5⟩ ⟨hx1, hx2, hx3⟩ (room_ok o6)) ⟨PcD.blind T0, w_recv hI hO hX hS hcl hb0, PcD.start hI T0 hnw hO hX hS⟩ rfl hlen hsz rfl (lv_room (by rw [← catsum_eq]; exact hcs)) dg ⟨hc, hs⟩
/-- super.m(..) -/
theorem w_super (C0 : Cx p l s m args meth c V D y) (T0 : TV V D) (hnw : NW V) (hO : RelO V h H) (hX : RelX V h s) (hS : va_S (vA V) s.heap H locs) (hl : LR (mMaxL D y) L ls) (ok : CalleeOk V D z n) (hz : mHH D z = []) {b ci : Nat} {r : vw_C} (hM : MetD l V D d z (.ref b :: As) h Q') (hno : ∀ k h, ¬ Q' (.inr k) h) (hlen : As.length = n) (hcs : catsum rest ≤ 8)
    (hcl : (vcl V)[ci]? = some r) (hb0 : isK (h b) ci) (hlink : Jvm.Cond.methodLink (mOwn D y) idx (mName D z) ∈ vTg V) (hsm : Jvm.Cond.sameMethod (mOwn D z) (mOwn D z) (mName D z).name (mName D z).desc ∈ vTg V) (hsu : Jvm.Cond.superclass (mOwn D y) (mOwn D z) ∈ vTg V) (hins : Jvm.Cond.instanceMethod (mName D z) ∈ vTg V) (hne : (mName D z).name ≠ "<init>") (dg : decode (mBytes D y) pc = .ok (.invokespecial idx, 3)) (hc : cells + mBc D z ≤ mBc D y) (hs : slots + mBs D z ≤ mBs D y) :
    va_Run p l e (rmD D y (d + 1)) s m args below meth c H locs cells slots (mBc D z) (mBs D z) (F0 m pc ls (As.reverse ++ .ref b :: rest)) rest (QN V Q' (.ref b :: As).toArray) (vA V) := by
  have hsz := lsz C0 hl
  obtain ⟨hx, hb, hml, hr, hlk, hown, hts, hI, hst, hnm, hxt⟩ := C0
  obtain ⟨o1, o2, o3, o4, o5, o6⟩ := ok
  exact va_runSU (hI.1.1 ci r hcl).2 ⟨hx, hb, hml, hown, hts⟩ (hM.met hno) (va_cwSU n hts (good_app T0 o1 _ (mem5 hlink hsm hsu hins o2)) (by rw [codeW_nil hz]) rfl rfl ⟨hne, o5⟩ (room_ok o6)) ⟨PcD.blind T0, w_recv hI hO hX hS hcl hb0, PcD.start hI T0 hnw hO hX hS⟩ rfl hlen hsz rfl (lv_room (by rw [← catsum_eq]; exact hcs)) dg ⟨hc, hs⟩
theorem w_virtN (C0 : Cx p l s m args meth c V D y) (T0 : TV V D) (hnw : NW V) (hO : RelO V h H) (hX : RelX V h s) (hS : va_S (vA V) s.heap H locs) (hl : LR (mMaxL D y) L ls) (ok : CalleeOk V D z n) (hz : mHH D z = []) {b ci : Nat} {r : vw_C} {host : String} (hM : MetD l V D d z (.ref b :: As) h Q') (hno : ∀ k h, ¬ Q' (.inr k) h) (hlen : As.length = n) (hcs : catsum rest ≤ 8)
    (hcl : (vcl V)[ci]? = some r) (hb0 : isK (h b) ci) (hrz : r.1 = mOwn D z) (hlink : Jvm.Cond.methodLinkNest (mOwn D y) idx (mName D z) host ∈ vNt V) (hins : Jvm.Cond.instanceMethod (mName D z) ∈ vTg V) (hsel : Jvm.Cond.selects (mOwn D z) (mName D z) (mName D z) ∈ vTg V) (dg : decode (mBytes D y) pc = .ok (.invokevirtual idx, 3)) (hc : cells + mBc D z ≤ mBc D y) (hs : slots + mBs D z ≤ mBs D y) :
    va_Run p l e (rmD D y (d + 1)) s m args below meth c H locs cells slots (mBc D z) (mBs D z) (F0 m pc ls (As.reverse ++ .ref b :: rest)) rest (QN V Q' (.ref b :: As).toArray) (vA V) := by
  have hsz := lsz C0 hl
  obtain ⟨hx, hb, hml, hr, hlk, hown, hts, hI, hst, hnm, hxt⟩ := C0
  obtain ⟨o1, o2, o3, o4, o5, o6⟩ := ok
  exact va_runVN ⟨hx, hb, hml, hown, hts⟩ (hM.met hno) ⟨va_cnB n hts (good_ws T0 o1) (by rw [codeW_nil hz]) rfl rfl (hI.2.2.1 _ hlink) (hts _ o2) ⟨o3, o4, o5⟩ (room_ok o6), hts _ hins, hts _ hsel⟩ ⟨PcD.blind T0, by rw [← hrz]; exact w_recv hI hO hX hS hcl hb0, PcD.start hI T0 hnw hO hX hS⟩ rfl hlen hsz rfl (lv_room (by rw [← catsum_eq]; exact hcs)) dg ⟨hc, hs⟩
theorem w_statN (C0 : Cx p l s m args meth c V D y) (T0 : TV V D) (hnw : NW V) (hO : RelO V h H) (hX : RelX V h s) (hS : va_S (vA V) s.heap H locs) (hl : LR (mMaxL D y) L ls) (ok : CalleeOk V D z n) (hz : mHH D z = []) {host : String} (hM : MetD l V D d z As h Q') (hno : ∀ k h, ¬ Q' (.inr k) h) (hlen : As.length = n) (hcs : catsum rest ≤ 8)
    (hlink : Jvm.Cond.methodLinkNest (mOwn D y) idx (mName D z) host ∈ vNt V) (hstat : Jvm.Cond.static (mName D z) ∈ vTg V) (dg : decode (mBytes D y) pc = .ok (.invokestatic idx, 3)) (hc : cells + mBc D z ≤ mBc D y) (hs : slots + mBs D z ≤ mBs D y) :
    va_Run p l e (rmD D y (d + 1)) s m args below meth c H locs cells slots (mBc D z) (mBs D z) (F0 m pc ls (As.reverse ++ rest)) rest (QN V Q' As.toArray) (vA V) := by
  have hsz := lsz C0 hl
  obtain ⟨hx, hb, hml, hr, hlk, hown, hts, hI, hst, hnm, hxt⟩ := C0
  obtain ⟨o1, o2, o3, o4, o5, o6⟩ := ok
  exact va_runSN ⟨hx, hb, hml, hown, hts⟩ (hM.met hno) ⟨va_cnB n hts (good_ws T0 o1) (by rw [codeW_nil hz]) rfl rfl (hI.2.2.1 _ hlink) (hts _ o2) ⟨o3, o4, o5⟩ (room_ok o6), hts _ hstat, trivial⟩ ⟨PcD.blind T0, PcD.start hI T0 hnw hO hX hS⟩ rfl hlen hsz rfl (lv_room (by rw [← catsum_eq]; exact hcs)) dg ⟨hc, hs⟩
theorem w_init (C0 : Cx p l s m args meth c V D y) (T0 : TV V D) (hnw : NW V) (hO : RelO V h H) (hX : RelX V h s) (hS : va_S (vA V) s.heap H locs) (hl : LR (mMaxL D y) L ls) (ok : CalleeOk V D z n) (hz : mHH D z = []) {b : Nat} (hM : MetD l V D d z (.ref b :: As) h Q') (hno : ∀ k h, ¬ Q' (.inr k) h) (hlen : As.length = n) (hcs : catsum rest ≤ 8) (hret : mRet D z = none) (hnm0 : (mName D z).name = "<init>")
    (hlink : Jvm.Cond.methodLink (mOwn D y) idx (mName D z) ∈ vTg V) (hins : Jvm.Cond.instanceMethod (mName D z) ∈ vTg V) (dg : decode (mBytes D y) pc = .ok (.invokespecial idx, 3)) (hc : cells + mBc D z ≤ mBc D y) (hs : slots + mBs D z ≤ mBs D y) :
    va_Run p l e (rmD D y (d + 1)) s m args below meth c H locs cells slots (mBc D z) (mBs D z) (F0 m pc ls (As.reverse ++ .ref b :: rest)) rest (QN V Q' (.ref b :: As).toArray) (vA V) := by
  have hsz := lsz C0 hl
  obtain ⟨hx, hb, hml, hr, hlk, hown, hts, hI, hst, hnm, hxt⟩ := C0
  obtain ⟨o1, o2, o3, o4, o5, o6⟩ := ok
  exact va_runI ⟨hx, hb, hml, hown, hts⟩ (hM.met hno) (cwI n hts (good_ws T0 o1) (by rw [codeW_nil hz, hret]) rfl rfl (hts _ o2) (hts _ hlink) (hts _ hins) hnm0 ⟨o3, o4, o5⟩ (room_ok o6)) ⟨PcD.blind T0, PcD.start hI T0 hnw hO hX hS⟩ rfl hlen hsz rfl (lv_room (by rw [← catsum_eq]; exact hcs)) dg ⟨hc, hs⟩
theorem w_initN (C0 : Cx p l s m args meth c V D y) (T0 : TV V D) (hnw : NW V) (hO : RelO V h H) (hX : RelX V h s) (hS : va_S (vA V) s.heap H locs) (hl : LR (mMaxL D y) L ls) (ok : CalleeOk V D z n) (hz : mHH D z = []) {b : Nat} {host : String} (hM : MetD l V D d z (.ref b :: As) h Q') (hno : ∀ k h, ¬ Q' (.inr k) h) (hlen : As.length = n) (hcs : catsum rest ≤ 8) (hret : mRet D z = none) (hnm0 : (mName D z).name = "<init>")
    (hlink : Jvm.Cond.methodLinkNest (mOwn D y) idx (mName D z) host ∈ vNt V) (hins : Jvm.Cond.instanceMethod (mName D z) ∈ vTg V) (dg : decode (mBytes D y) pc = .ok (.invokespecial idx, 3)) (hc : cells + mBc D z ≤ mBc D y) (hs : slots + mBs D z ≤ mBs D y) :
    va_Run p l e (rmD D y (d + 1)) s m args below meth c H locs cells slots (mBc D z) (mBs D z) (F0 m pc ls (As.reverse ++ .ref b :: rest)) rest (QN V Q' (.ref b :: As).toArray) (vA V) := by
  have hsz := lsz C0 hl
  obtain ⟨hx, hb, hml, hr, hlk, hown, hts, hI, hst, hnm, hxt⟩ := C0
  obtain ⟨o1, o2, o3, o4, o5, o6⟩ := ok
  exact va_runIN ⟨hx, hb, hml, hown, hts⟩ (hM.met hno) ⟨va_cnB n hts (good_ws T0 o1) (by rw [codeW_nil hz, hret]) rfl rfl (hI.2.2.1 _ hlink) (hts _ o2) ⟨o3, o4, o5⟩ (room_ok o6), hnm0, hts _ hins⟩ ⟨PcD.blind T0, PcD.start hI T0 hnw hO hX hS⟩ rfl hlen hsz rfl (lv_room (by rw [← catsum_eq]; exact hcs)) dg ⟨hc, hs⟩
end Ways
