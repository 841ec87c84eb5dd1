
/-! SOUNDNESS, 8: a call of any depth; the law -/
theorem fillL_len : ∀ n, (fillL n).length = n
  | 0 => rfl
  | n + 1 => by simp [fillL, fillL_len n]
theorem nth_fillL : ∀ n i, nth (fillL n) i = none
  | 0, _ => rfl
  | _ + 1, 0 => rfl
  | n + 1, i + 1 => nth_fillL n i
theorem argL_len : ∀ (As : List Value) (n : Nat), catsum As ≤ n → (argL As n).length = n
  | [], n, _ => fillL_len n
  | v :: r, n, h => by
    simp only [catsum] at h
    cases v with
    | long x =>
      simp only [Value.category] at h
      match n, h with
      | n + 2, h => simp [argL, argL_len r n (by omega)]
      | 0, h => omega
      | 1, h => omega
    | double x =>
      simp only [Value.category] at h
      match n, h with
      | n + 2, h => simp [argL, argL_len r n (by omega)]
      | 0, h => omega
      | 1, h => omega
    | _ =>
      simp only [Value.category] at h
      match n, h with
      | n + 1, h => simp [argL, argL_len r n (by omega)]
      | 0, h => omega
theorem nth_argL : ∀ (As : List Value) (n k i : Nat) (v : Value), catsum As ≤ n → nth (argL As n) i = some v → (k + i, v) ∈ lv_args k As
  | [], n, k, i, v, _, h => by simp [argL, nth_fillL] at h
  | w :: r, n, k, i, v, hc, h => by
    simp only [catsum] at hc
    cases w with
    | long x =>
      simp only [Value.category] at hc
      match n, hc with
      | n + 2, hc =>
        match i, h with
        | 0, h => simp [argL, nth] at h; subst h; simp [lv_args]
        | 1, h => simp [argL, nth] at h
        | i + 2, h =>
          simp only [argL, nth] at h
          have := nth_argL r n (k + 2) i v (by omega) h
          rw [show k + (i + 2) = k + 2 + i by omega]
          exact List.mem_cons_of_mem _ (by simpa [Value.category] using this)
      | 0, hc => omega
      | 1, hc => omega
    | double x =>
      simp only [Value.category] at hc
      match n, hc with
      | n + 2, hc =>
        match i, h with
        | 0, h => simp [argL, nth] at h; subst h; simp [lv_args]
        | 1, h => simp [argL, nth] at h
        | i + 2, h =>
          simp only [argL, nth] at h
          have := nth_argL r n (k + 2) i v (by omega) h
          rw [show k + (i + 2) = k + 2 + i by omega]
          exact List.mem_cons_of_mem _ (by simpa [Value.category] using this)
      | 0, hc => omega
      | 1, hc => omega
    | _ =>
      simp only [Value.category] at hc
      match n, hc with
      | n + 1, hc =>
        match i, h with
        | 0, h => simp [argL, nth] at h; subst h; simp [lv_args]
        | i + 1, h =>
          simp only [argL, nth] at h
          have := nth_argL r n (k + 1) i v (by omega) h
          rw [show k + (i + 1) = k + 1 + i by omega]
          exact List.mem_cons_of_mem _ (by simpa [Value.category] using this)
      | 0, hc => omega
theorem sl_len : ∀ (As : List Value), (lg_sl As).length = catsum As
  | [] => rfl
  | v :: r => by
    have := sl_len r
    unfold lg_sl at this ⊢
    rw [List.flatMap_cons, List.length_append, this]
    cases v <;> simp [catsum, Value.category]
theorem LR.entry (As : List Value) {n : Nat} (h : catsum As ≤ n) : LR n (argL As n) ((lg_sl As ++ List.replicate (n - (lg_sl As).length) Slot.unset).toArray) :=
  ⟨argL_len As n h, lv_args 0 As, lv_entry As (by rw [sl_len]; exact h), fun i v hi => by
    have := nth_argL As n 0 i v h hi
    rwa [Nat.zero_add] at this⟩
theorem hp_nil {D : TB} {y t : Nat} (h : mSeg D y t = []) : hp D y t = 0 := by simp [hp, h, hd0]
/-- vx_ofW and vx_ofWH for a class that has entries, at a method that has none -/
theorem vf_ofW {l : Launch} {y : MethodName} {ws ws' : List Cond} {rm : Room} {Pc : Array Value → State → Prop} {Qc : Array Value → State → Outcome → State → Prop} {XC : String → State → State → Prop} {mc ms : Nat} {free : Addr → Prop} {cc : ByteArray} {maxL : Nat} {ret : Option FieldType}
    (hy : plainFor y = true) (hw : ws = Cond.code y cc maxL ret :: ws')
    (body : ∀ p e s m args below meth c s₁, BodyLoose p l y (headSpec ws rm) cc maxL ret e s m args below meth c s₁ → c.maxLocals = maxL → (∀ x ∈ c.exceptionTable.toList, False) → Pc args s →
      W p l e (headSpec ws rm).room s m args below meth c s.heap [] 0 0 (vx_MQ below Qc XC args s mc ms free) (entryFrame m args maxL)) : vx_Met l y ws rm Pc Qc XC mc ms free := by
  refine MetFree.of_bodySF (code := cc) (maxLocals := maxL) (ret := ret) hy ?_ ?_
  · intro args s m h hn
    obtain ⟨meth, c, h1, h2, h3, h4, h5, h6, -, -⟩ := Cond.code_spec hn (atoms_spec (ws := ws) h _ (by rw [hw]; exact List.mem_cons_self))
    exact ⟨meth, c, h1, h2, h3, h4, h5, h6⟩
  · intro p e s m args below meth c s₁ B hml hP _
    have hh0 : s₁.heap = s.heap := by rw [B.state]; rfl
    have ht : ∀ x ∈ c.exceptionTable.toList, False := by
      obtain ⟨meth9, c9, h1, h2, -, -, -, -, h7, -⟩ := Cond.code_spec B.named (atoms_spec (ws := ws) B.pre _ (by rw [hw]; exact List.mem_cons_self))
      cases Option.some.inj (h1.symm.trans B.method)
      cases Option.some.inj (h2.symm.trans (Stand.of_body B).code)
      intro x hx
      rw [Array.isEmpty_iff.mp h7] at hx
      cases hx
    obtain ⟨t, a1, o, b1, b2, b3⟩ := body p e s m args below meth c s₁ B hml ht hP s₁ hh0 (Stand.of_body B)
    exact ⟨t, o, a1, b1, b2, b3⟩
theorem vf_ofWH {l : Launch} {y : MethodName} {ws ws' : List Cond} {rm : Room} {Pc : Array Value → State → Prop} {Qc : Array Value → State → Outcome → State → Prop} {XC : String → State → State → Prop} {mc ms : Nat} {free : Addr → Prop} {cc : ByteArray} {maxL : Nat} {ret : Option FieldType} {hh : List (Nat × Nat × Nat × Nat)}
    (hy : plainFor y = true) (hw : ws = Cond.codeWith y cc maxL ret hh :: ws')
    (body : ∀ p e s m args below meth c s₁, BodyLoose p l y (headSpec ws rm) cc maxL ret e s m args below meth c s₁ → c.maxLocals = maxL → Pc args s →
      W p l e (headSpec ws rm).room s m args below meth c s.heap [] 0 0 (vx_MQ below Qc XC args s mc ms free) (entryFrame m args maxL)) : vx_Met l y ws rm Pc Qc XC mc ms free := by
  refine MetFree.of_bodySF (code := cc) (maxLocals := maxL) (ret := ret) hy ?_ ?_
  · intro args s m h hn
    obtain ⟨m9, meth, c, hn9, h1, h2, h3, h4, -, h5, h6, -⟩ := Cond.codeWith_spec (atoms_spec (ws := ws) h _ (by rw [hw]; exact List.mem_cons_self))
    cases hn.symm.trans hn9
    exact ⟨meth, c, h1, h2, h3, h4, h5, h6⟩
  · intro p e s m args below meth c s₁ B hml hP _
    have hh0 : s₁.heap = s.heap := by rw [B.state]; rfl
    obtain ⟨t, a1, o, b1, b2, b3⟩ := body p e s m args below meth c s₁ B hml hP s₁ hh0 (Stand.of_body B)
    exact ⟨t, o, a1, b1, b2, b3⟩
/-- all that is checked of the tables and of every method -/
def AllOk (V : EV) (D : TB) : Prop := TV V D ∧ StOk V D ∧ NW V ∧ ∀ y, (∀ t, mSeg D y t = []) ∨ (hp D y 0 = 0 ∧ plainFor (mName D y) = true ∧ ∀ t, okSeg V D y (mSeg D y t))
theorem cal_dead {D : TB} {y d : Nat} {As h Q} (he : ∀ t, mSeg D y t = []) : ¬ cal D (d + 1) y As h Q := fun H => H.2 (fun _ _ _ _ _ _ => False) (fun t L S h bc bs q => by rw [he t] at q; exact q)
/-- a body, from its entry, in a context -/
theorem body_sound {p : Program} {l : Launch} {e : Env} {s : State} {m : MethodId} {As : List Value} {below : List Frame} {meth : Method} {c : Code} {V : EV} {D : TB} {y d : Nat} {Q : RS → AH → Prop} {h : AH} (K0 : AllOk V D) (C0 : Cx p l s m As.toArray meth c V D y)
    (IH : ∀ z As h Q', cal D d z As h Q' → MetD l V D d z As h Q') (H : cal D (d + 1) y As h Q) (hO : RelO V h s.heap) (hX : RelX V h s) :
    W p l e (rmD D y (d + 1)) s m As.toArray below meth c s.heap [] 0 0 (vx_MQ below (QN V Q) (QX V Q) As.toArray s (mBc D y) (mBs D y) (vA V)) (entryFrame m As.toArray (mMaxL D y)) := by
  obtain ⟨T0, T1, hnw, hall⟩ := K0
  rcases hall y with he | ⟨hp0, hpn, hseg⟩
  · exact absurd H (cal_dead he)
  obtain ⟨hcs, H⟩ := H
  have key : ∀ t L S h bc bs, ex D y (cal D d) (fun t L S h bc bs => WR p l e s m As.toArray below meth c V D y (d + 1) (QN V Q) (QX V Q) (hp D y t) L S h bc bs) Q (mSeg D y t) L S h bc bs → WR p l e s m As.toArray below meth c V D y (d + 1) (QN V Q) (QX V Q) (hp D y t) L S h bc bs :=
    fun t L S h bc bs q => ex_sound C0 T0 T1 hnw IH (fun _ _ _ _ _ _ q => q) (mSeg D y t) (hseg t) L S h bc bs q
  have K := H _ key
  rw [lg_entry_eq]
  have K1 := K s.heap [] 0 0 _ (LR.entry As hcs) hO hX va_S.rf (by omega) (by omega)
  rw [hp0] at K1
  exact K1
theorem cal_sound {l : Launch} {V : EV} {D : TB} (K0 : AllOk V D) (hst : l.stackTraces = false) : ∀ (d z : Nat) (As : List Value) (h : AH) (Q : RS → AH → Prop), cal D d z As h Q → MetD l V D d z As h Q
  | 0, _, _, _, _, H => H.elim
  | d + 1, z, As, h, Q, H => by
    have IH := cal_sound K0 hst d
    rcases K0.2.2.2 z with he | ⟨-, hpn, -⟩
    · exact absurd H (cal_dead he)
    by_cases hz : mHH D z = []
    · refine vf_ofW (cc := mBytes D z) (maxL := mMaxL D z) (ret := mRet D z) (ws' := vTg V) hpn (by rw [codeW_nil hz]) ?_
      intro p e s m args below meth c s₁ B hml hno hv
      obtain ⟨rfl, hI, hO, hX⟩ := hv
      have hts := atoms_spec (ws := codeW D z :: vTg V) B.pre
      have hxt : c.exceptionTable.toList = tableOf (mHH D z) := by
        rw [hz]
        cases hc : c.exceptionTable.toList with
        | nil => rfl
        | cons x r => exact (hno x (by rw [hc]; exact List.mem_cons_self)).elim
      exact body_sound K0 ⟨B.exec, B.bytes, hml, B.returns, B.notSynchronized, findClass_of_methodNamed B.named, fun w hw => hts w (List.mem_cons_of_mem _ hw), hI, hst, (name_of_methodNamed B.named B.method).1, hxt⟩ IH H hO hX
    · refine vf_ofWH (cc := mBytes D z) (maxL := mMaxL D z) (ret := mRet D z) (hh := mHH D z) (ws' := vTg V) hpn (by rw [codeW_cons hz]) ?_
      intro p e s m args below meth c s₁ B hml hv
      obtain ⟨rfl, hI, hO, hX⟩ := hv
      have hts := atoms_spec (ws := codeW D z :: vTg V) B.pre
      have hw0 := hts _ List.mem_cons_self
      rw [codeW_cons hz] at hw0
      exact body_sound K0 ⟨B.exec, B.bytes, hml, B.returns, B.notSynchronized, findClass_of_methodNamed B.named, fun w hw => hts w (List.mem_cons_of_mem _ hw), hI, hst, (name_of_methodNamed B.named B.method).1, vx_table (x := mName D z) B hw0⟩ IH H hO hX
/-- the law: what the abstract run says, said of the machine -/
theorem law_sound {p : Program} {l : Launch} {e : Env} {s : State} {m : MethodId} {As : List Value} {below : List Frame} {meth : Method} {c : Code} {V : EV} {D : TB} {y d : Nat} {h : AH} {R : Room} {mc ms nL : Nat} (K0 : AllOk V D) (C0 : Cx p l s m As.toArray meth c V D y) (hn0 : V.2.2.2.1 = s.heap.size)
    (H : cal D (d + 1) y As h (fun r _ => r = .inl (some (.int 1)))) (hO : RelO V h s.heap) (hX : RelX V h s) (hR : R = rmD D y (d + 1)) (hmc : mBc D y = mc) (hms : mBs D y = ms) (hL : mMaxL D y = nL) :
    W p l e R s m As.toArray below meth c s.heap [] 0 0 (fun t => ∃ o, t.status = .running ∧ Ended t below o ∧ o = .returned (some (.int 1)) ∧ Framed s o t [] mc ms) (entryFrame m As.toArray nL) := by
  subst hR; subst hmc; subst hms; subst hL
  have K := body_sound (e := e) (below := below) K0 C0 (cal_sound K0 C0.2.2.2.2.2.2.2.2.1 d) H hO hX
  intro T hT X
  obtain ⟨t, h1, o, h2, h3, h4⟩ := K T hT X
  refine ⟨t, h1, o, h2, h3, ?_⟩
  rcases h4 with ⟨⟨⟨v, h', rfl, hq, -⟩, -⟩, L, hF, hL⟩ | ⟨q, rfl, E, ce, L, ⟨⟨k, h', -, hq, -⟩, -⟩, -⟩
  · cases hq
    refine ⟨rfl, hF.1, hF.2.1, hF.2.2.weaken (fun x hx hlt => absurd (hL x hx) ?_) (Nat.le_refl _) (Nat.le_refl _)⟩
    show ¬ V.2.2.2.1 ≤ x.base
    rw [hn0]
    exact Nat.not_le.mpr hlt
  · cases hq
