/-! THE CLAIM OUT OF ONE WALK OF THE LAW'S BODY. Your part is whole_start (and what it stands on); all else here is the same for every law, but numbers. -/
def R_law : String := "TwelvehundredLaw"
def lw_P (b : Addr) (xs : List Int32) (args : Array Value) (s : State) : Prop := args = #[.ref b] ∧ s.IntsAt b xs ∧ xs.length ≤ 260 ∧ (Jvm.Cond.and given_1 narrow_1).before args s = true
def lw_Q (_ : Array Value) (s : State) (o : Outcome) (t : State) : Prop := o = .returned (some (.int 1)) ∧ Framed s o t [] 600130 7301080
def lw_Z (below : List Frame) (a : Array Value) (s : State) : State → Prop := fun t => ∃ o, t.status = .running ∧ Ended t below o ∧ lw_Q a s o t
/-- the law's own end, with 1 on the stack, nothing written that was there before, its room as the claim has it -/
theorem lw_ret {p : Program} {l : Launch} {e : Env} {s : State} {m : MethodId} {below : List Frame} {meth : Method} {c : Code} {b : Nat} (hx : p.tables.exec = Jvm.exec) (hb : c.code = code) (hr : meth.sig.returnType = ret) (hlocks : meth.locks = false) {pc : Nat} {H : Heap} {ls : Array Slot} (hdg : decode code pc = .ok (.ireturn, 1)) : W p l e room_1 s m #[Value.ref b] below meth c H [] 600130 7301080 (lw_Z below #[Value.ref b] s) (F0 m pc ls [.int 1]) := by
  intro T hT X
  obtain ⟨fs, hret, hrun, hended, hW, hframe⟩ := X.leave (v := some (.int 1)) (hlocks := hlocks) (fun h => by rw [hr] at h; cases h)
  have hmeth' : T.vm.method? m = some meth := X.method'
  refine ⟨T.setFrames fs, ?_, .returned (some (.int 1)), hrun, hended, rfl, ⟨_, rfl⟩, hW, hframe⟩
  jvm_step X.here [X.here.top, hx, hb, hdg, hmeth', hr, ret, narrow_b1]
  (try refine ⟨rfl, ?_⟩); (try refine ⟨rfl, ?_⟩)
  first | (intro acts; rw [hret _ acts rfl rfl rfl]) | rw [hret _ _ rfl rfl rfl]
  exact Steps.refl _
/-- what holds at the law's entry: the machine, the code, the tables' words (any of lw_tbl by 'hts w (by decide +kernel)'), the script of L ints xs at the cell b, what the Statement gives of the start (any of its parts by flat_of_before) -/
def lw_At (p : Program) (s : State) (m : MethodId) (meth : Method) (c : Code) (b L : Nat) (xs : Nat → Int32) : Prop :=
  p.tables.exec = Jvm.exec ∧ c.code = code ∧ meth.sig.returnType = ret ∧ c.maxLocals = 9 ∧ s.vm.findClass R_law = some m.cls ∧ (∀ w ∈ lw_tbl, w.before #[Value.ref b] s = true) ∧ va_X b L xs s s.heap ∧ b < s.heap.size ∧ meth.locks = false ∧ (Jvm.Cond.and given_1 narrow_1).before #[Value.ref b] s = true ∧ meth.name = x.name ∧ c.exceptionTable.toList = []
set_option maxHeartbeats 4000000 in
theorem start_ok {p : Program} {l : Launch} {s : State} {m : MethodId} {meth : Method} {c : Code} (hflags : l.flags = flags0) {b L : Nat} {xs : Nat → Int32} (hL : L ≤ 260) (C0 : lw_At p s m meth c b L xs) :
    ∃ (G : va_G) (a0 a1 a2 a3 : ClassId) (em mi : Nat), b ≠ em ∧ Cx p l s m #[Value.ref b] meth c (VV G a0 a1 a2 a3 s.heap.size) (DD em mi 0) 0 ∧ RelO (VV G a0 a1 a2 a3 s.heap.size) (h0 b em L xs) s.heap ∧ RelX (VV G a0 a1 a2 a3 s.heap.size) (h0 b em L xs) s := by
  obtain ⟨hexec, hcode, hret, hml, hown, hts, hXb, hb, hlocks, hgv, hnm, hxt⟩ := C0
  have hfs := flat_of_before _ hgv
  have hall := x_all hts
  obtain ⟨G, hG⟩ := cls_all hts vwCl (by decide +kernel)
  obtain ⟨a0, A0⟩ := arr_prim (ty := .int) (fun C h => by cases h) (hts _ (by decide +kernel))
  obtain ⟨a1, A1⟩ := arr_prim (ty := .byte) (fun C h => by cases h) (hts _ (by decide +kernel))
  obtain ⟨a2, A2⟩ := arr_obj (C := "Twelvehundred$Hall") (hts _ (by decide +kernel))
  obtain ⟨a3, A3⟩ := arr_obj (C := "java/lang/Object") (hts _ (by decide +kernel))
  have hA : ∀ a : Nat, a < s.heap.size → ¬ (s.heap.size ≤ a) := fun a h => by omega
  obtain ⟨em, hem, hE⟩ := em_arr (C := "java/util/ArrayList") (n := "DEFAULTCAPACITY_EMPTY_ELEMENTDATA") (d := "[Ljava/lang/Object;") (T := "java/lang/Object") (A := fun q => s.heap.size ≤ q) (hfs _ (by decide +kernel)) (hfs _ (by decide +kernel)) hA
  obtain ⟨mi, hmi⟩ := va_Mi.of (C := "[Ljava/lang/Object;") (hfs _ (by decide +kernel))
  have hne : b ≠ em := script_ne hXb hE
  refine ⟨G, a0, a1, a2, a3, em, mi, hne, ⟨hexec, hcode, hml, hret, hlocks, hown, fun w hw => hall w (List.mem_filter.mp hw).1, ⟨⟨hG, ?_⟩, Nat.le_refl _, ?_, ?_, ?_, ?_, ?_, ?_, ?_, mi, rfl, hmi⟩, flags_tr hflags, hnm, hxt⟩, ⟨[], ?_, ?_, ?_⟩, ?_⟩
  · intro k q hk
    match k, hk with
    | 0, hk => cases hk; exact A0
    | 1, hk => cases hk; exact A1
    | 2, hk => cases hk; exact A2
    | 3, hk => cases hk; exact A3
    | n + 4, hk => cases hk
  · exact fun w hw => va_Nw.of (nt_tab (List.mem_filter.mp hw).2) (hall w (List.mem_filter.mp hw).1)
  · exact str_all hts hfs Stl (by decide +kernel)
  · intro k q hk
    match k, hk with
    | 0, hk => cases hk; exact va_Zof (hts _ (by decide +kernel)) (hts _ (by decide +kernel)) hem hA
    | 1, hk => cases hk; exact va_Zof (hts _ (by decide +kernel)) (hts _ (by decide +kernel)) (va_eqi (z := 1) (hfs _ (by decide +kernel))) hA
    | n + 2, hk => cases hk
  · exact vx_Zqof (hts _ (by decide +kernel)) (hts _ (by decide +kernel)) (hfs _ (by decide +kernel)) hA
  · exact vx_Zqof (hts _ (by decide +kernel)) (hts _ (by decide +kernel)) (hfs _ (by decide +kernel)) hA
  · exact nc_all hfs Ncl (by decide +kernel)
  · intro t cA C ht
    match t, ht with
    | 0, ht => cases ht
    | 1, ht => cases ht
    | 2, ht => cases ht; exact va_AO.of (hts _ (by decide +kernel))
    | 3, ht => cases ht; exact va_AO.of (hts _ (by decide +kernel))
    | n + 4, ht => cases ht
  · intro a e he ho
    exfalso
    unfold h0 at he
    split at he
    · cases he; exact absurd (show 8 < 8 from ho) (by omega)
    · split at he
      · cases he; exact absurd (show 9 < 8 from ho) (by omega)
      · cases he
  · intro k q hk
    cases hk
  · exact ⟨fun i j p q h => (by cases h), fun k q hk => (by cases hk)⟩
  · intro a t n g ha ht
    unfold h0 at ha
    split at ha
    · next e =>
      cases ha
      subst e
      obtain ⟨scr, hcb, hof, hkn, hsz, hval⟩ := hXb
      refine Or.inl ⟨rfl, _, rfl, scr, hcb, hof, hkn, by omega, ?_, hval, hA _ hb⟩
      rw [hsz]
    · split at ha
      · next e =>
        cases ha
        subst e
        exact Or.inr (Or.inl ⟨rfl, _, rfl, hE⟩)
      · cases ha
-- ===== YOUR PART BEGINS =====
/-- less room is there where more is -/
theorem room_le {s : State} {pl : Platform} {R R' : Room} (h : s.hasRoom pl R = true) (h1 : R'.frames ≤ R.frames) (h2 : R'.cells ≤ R.cells) (h3 : R'.slots ≤ R.slots) (h4 : R'.locals ≤ R.locals) : s.hasRoom pl R' = true := by
  simp only [State.hasRoom, Bool.and_eq_true, decide_eq_true_eq] at h ⊢
  obtain ⟨⟨⟨⟨a, b, c, d, e, f⟩, g⟩, i⟩, j⟩ := h
  exact ⟨⟨⟨⟨by omega, by omega, by omega, by omega, by omega, f⟩, by omega⟩, by omega⟩, j⟩
theorem w_room {p : Program} {l : Launch} {e : Env} {s : State} {m : MethodId} {A : Array Value} {below : List Frame} {meth : Method} {c : Code} {H : Heap} {R R' : Room} {g : JFrame} {mc ms mc' ms' : Nat} (h1 : R'.frames ≤ R.frames) (h2 : R'.cells ≤ R.cells) (h3 : R'.slots ≤ R.slots) (h4 : R'.locals ≤ R.locals) (h5 : mc ≤ mc') (h6 : ms ≤ ms')
    (K : W p l e R' s m A below meth c H [] 0 0 (fun t => ∃ o, t.status = .running ∧ Ended t below o ∧ o = .returned (some (.int 1)) ∧ Framed s o t [] mc ms) g) : W p l e R s m A below meth c H [] 0 0 (fun t => ∃ o, t.status = .running ∧ Ended t below o ∧ o = .returned (some (.int 1)) ∧ Framed s o t [] mc' ms') g := by
  intro T hT X
  obtain ⟨t, k1, o, k2, k3, k4, k5⟩ := K T hT { X with room := room_le X.room h1 h2 h3 h4 }
  exact ⟨t, k1, o, k2, k3, k4, k5.1, k5.2.1, k5.2.2.weaken (fun x hx _ => hx) h5 h6⟩
/-- what the law does -/
theorem law_fun {b em mi L : Nat} {xs : Nat → Int32} (hL : L ≤ 260) (hne : b ≠ em) : cal (DD em mi 0) 2036 0 [.ref b] (h0 b em L xs) (fun r _ => r = .inl (some (.int 1))) := by
  have e1 : h0 b em L xs em = some emR := by
    unfold h0
    rw [if_neg (fun q => hne q.symm), if_pos rfl]
    rfl
  have e2 : h0 b em L xs b = some (.inl (8, L, .inl xs)) := by
    unfold h0
    rw [if_pos rfl]
  exact law_ok (d := 2036) (F := h0 b em L xs) (by omega) (fun _ _ h => h) e1 e2 hL (fun _ => rfl)
/-- YOUR PART: from the entry, for every script of at most 260 ints, the law comes to its end with true ('hflags': the launch's flags, for a law that throws: no stack traces) -/
theorem whole_start {p : Program} {e : Env} {s : State} {m : MethodId} {below : List Frame} {meth : Method} {c : Code} (l : Launch) (hflags : l.flags = flags0) {b L : Nat} {xs : Nat → Int32} (hL : L ≤ 260) (C0 : lw_At p s m meth c b L xs) : W p l e room_1 s m #[Value.ref b] below meth c s.heap [] 0 0 (lw_Z below #[Value.ref b] s) (entryFrame m ([Value.ref b] : List Value).toArray 9) := by
  obtain ⟨G, a0, a1, a2, a3, em, mi, hne, hC, hO, hX⟩ := start_ok (l := l) hflags hL C0
  have f1 : (rmD (DD em mi 0) 0 2036).frames ≤ room_1.frames := by
    show 2036 + 12 ≤ 2048
    exact Nat.le_of_ble_eq_true rfl
  have f2 : (rmD (DD em mi 0) 0 2036).cells ≤ room_1.cells := by
    show mBc (DD em mi 0) 0 ≤ 600130
    rw [bc_0]
    exact Nat.le_of_ble_eq_true rfl
  have f3 : (rmD (DD em mi 0) 0 2036).slots ≤ room_1.slots := by
    show mBs (DD em mi 0) 0 ≤ 7301080
    rw [bs_0]
    exact Nat.le_of_ble_eq_true rfl
  have f4 : (rmD (DD em mi 0) 0 2036).locals ≤ room_1.locals := by
    show 41 * 2036 + 524 ≤ 84000
    exact Nat.le_of_ble_eq_true rfl
  have K := law_sound (e := e) (below := below) (R := rmD (DD em mi 0) 0 2036) (mc := 200000) (ms := 2000000) (nL := 9) (all_ok G a0 a1 a2 a3 s.heap.size em mi 0) hC rfl (law_fun hL hne) hO hX rfl (bc_0 em mi 0) (bs_0 em mi 0) (ml_0 em mi 0)
  exact w_room f1 f2 f3 f4 (Nat.le_of_ble_eq_true rfl) (Nat.le_of_ble_eq_true rfl) K
-- ===== YOUR PART ENDS =====
set_option maxHeartbeats 4000000 in
theorem lw_walk (l : Launch) (hflags : l.flags = flags0) (b : Addr) (xs : List Int32) : MetFree l x (headSpec (Jvm.Cond.code x code maxLocals ret :: tables_1) room_1) (lw_P b xs) (fun _ _ _ _ _ => True) lw_Q := by
  refine MetFree.of_bodyS (code := code) (maxLocals := maxLocals) (ret := ret) (by decide) ?_ ?_
  · intro args s m h hn
    obtain ⟨meth, c, h1, h2, h3, h4, h5, h6, -, -⟩ := Cond.code_spec hn (atoms_spec (ws := Jvm.Cond.code x code maxLocals ret :: tables_1) h _ List.mem_cons_self)
    exact ⟨meth, c, h1, h2, h3, h4, h5, h6⟩
  · intro p e s m args below meth c s₁ B hml0 hP _
    obtain ⟨rfl, hx, hbd, hgv⟩ := hP
    obtain ⟨scr, harrAt, hlist, hof, hsmall⟩ := hx
    obtain ⟨hcb, hkn, -, -⟩ := State.arrayAt?_spec harrAt
    have hown : s.vm.findClass R_law = some m.cls := findClass_of_methodNamed B.named
    have hts0 : ∀ c ∈ (Jvm.Cond.code x code maxLocals ret :: tables_1), c.before #[Value.ref b] s = true := atoms_spec (ws := Jvm.Cond.code x code maxLocals ret :: tables_1) B.pre
    have hts : ∀ w ∈ lw_tbl, w.before #[Value.ref b] s = true := k2_hts_sels lw_privs (fun w hw => hts0 w (List.mem_cons_of_mem _ hw)) lw_privs_ok
    have hml : c.maxLocals = 9 := B.maxLocals_eq (hts0 _ List.mem_cons_self)
    have X₀ : Stand p l e room_1 s m #[Value.ref b] below meth c s₁ [] 0 0 := Stand.of_body B
    have hh0 : s₁.heap = s.heap := by rw [B.state]; rfl
    have hxt : c.exceptionTable.toList = [] := by
      obtain ⟨meth9, c9, h1, h2, -, -, -, -, h7, -⟩ := Cond.code_spec B.named (hts0 _ List.mem_cons_self)
      cases Option.some.inj (h1.symm.trans B.method)
      cases Option.some.inj (h2.symm.trans X₀.code)
      rw [Array.isEmpty_iff.mp h7]
    have hsz : scr.slots.size = xs.length := by rw [← Array.length_toList, hlist, List.length_map]
    have hval : ∀ j : Nat, j < xs.length → scr.slots[j]? = some (.int (xs.getD j 0)) := fun j hj => by
      rw [← Array.getElem?_toList, hlist]
      simp [hj]
    have hbl : b < s.heap.size := (Array.getElem?_eq_some_iff.mp hcb).1
    have hX : va_X b xs.length (fun j => xs.getD j 0) s s.heap := ⟨scr, hcb, hof, hkn, hsz, hval⟩
    have K : W p l e room_1 s m #[Value.ref b] below meth c s₁.heap [] 0 0 (lw_Z below #[Value.ref b] s) (entryFrame m ([Value.ref b] : List Value).toArray 9) := by
      rw [hh0]
      exact whole_start l hflags hbd ⟨B.exec, B.bytes, B.returns, hml, hown, hts, hX, hbl, B.notSynchronized, hgv, (name_of_methodNamed B.named B.method).1, hxt⟩
    obtain ⟨t, a1, o, b1, b2, b3⟩ := K s₁ rfl X₀
    exact ⟨t, o, a1, b1, b2, b3⟩
theorem lw_pre_spec {args : Array Value} {s : State} (h : (Jvm.Cond.and given_1 narrow_1).before args s = true) (hr : rest_1_c.before args s = true) : ∃ (b : Addr) (xs : List Int32), lw_P b xs args s := by
  have hs := flat_of_before _ h
  have hq := flat_of_before _ hr
  have hc : (Cond.count 1).before args s = true := hs _ (by decide +kernel)
  have harr : (Cond.arrayOf (.arg 0) .int).before args s = true := hs _ (by decide +kernel)
  have hle : (Cond.le (.length (.arg 0)) (.int 260)).before args s = true := hs _ (by decide +kernel)
  have hlen : (Cond.isInt (.length (.arg 0))).before args s = true := hq _ (by decide +kernel)
  have hall : (Cond.all (.arg 0) (.isInt (.elem (.arg 0) (.index 0)))).before args s = true := hq _ (by decide +kernel)
  obtain ⟨b, xs, hb, hx⟩ := State.ints_of_pre rfl harr hlen hall
  have hsm : xs.length < 2 ^ 31 := hx.choose_spec.2.2.2
  have hev : (Term.length (.arg 0)).eval args s none [] s = some (.int xs.length.toInt32) := hx.length_eval hb
  have hv := Cond.le_ints hev (show (Term.int 260).eval args s none [] s = some (.int 260) from rfl)
  have hd : xs.length.toInt32 ≤ 260 := by
    simpa [Cond.before, Cond.holds, hv] using hle
  have hN : xs.length ≤ 260 := (Int32.ofNat_le_ofNat hsm (by decide)).mp (show Int32.ofNat xs.length ≤ Int32.ofNat 260 from hd)
  exact ⟨b, xs, Cond.one_arg hc (show args[0]? = some (.ref b) from hb), hx, hN, h⟩
theorem lw_comes (l : Launch) (hflags : l.flags = flags0) : Comes l x (Jvm.Cond.code x code maxLocals ret :: tables_1) room_1 (fun tb e args s => Calls_1 tb e args s ∧ rest_1 tb e args s ∧ Pre_1 tb e args s)
    (fun _ _ args s o t => lw_Q args s o t) := by
  intro p e ha hc hk s m args below hf hfit hheap happ hpre
  obtain ⟨b, xs, hP⟩ := lw_pre_spec hpre.2.2 hpre.2.1
  obtain ⟨k, o, h1, h2, h3, hQ⟩ := lw_walk l hflags b xs p e ha hc hk s m args below hf ((Spec.applies_iff_loose hf).mp happ).1 hP trivial
  exact ⟨k, o, h1, h2, h3, hQ⟩
theorem lw_frame {s t : State} {o : Outcome} {args : Array Value} (h : Framed s o t [] 600130 7301080) :
    Framed s o t (fieldLocs frame_1_writes args s ++ arrayLocs frame_1_arrays args s ++ staticLocs frame_1_statics s) 600130 7301080 := h
theorem lw_limb (L : Cond) (hL : ∀ (args : Array Value) (s t : State), L.after args s (.returned (some (.int 1))) t = true) :
    ArmFor flags0 classFile x code maxLocals ret World_1 tables_1 room_1 Calls_1 rest_1 Pre_1
      (fun tb e a s o t => postC L tb e a s o t ∧ Framed s o t (fieldLocs frame_1_writes a s ++ arrayLocs frame_1_arrays a s ++ staticLocs frame_1_statics s) 600130 7301080) := by
  intro l hflags _ _ p e ha hc hk s m args below hf hfit hheap happ hpre
  obtain ⟨k, o, h1, h2, h3, rfl, hF⟩ := lw_comes l hflags p e ha hc hk s m args below hf hfit hheap happ hpre
  exact ⟨k, _, h1, h2, h3, hL args s _, lw_frame hF⟩
theorem i_vc : Claimed_1_1 ∧ Claimed_1_2 := ⟨lw_limb limb_1_1 (fun args s t => by simp [limb_1_1, Cond.after, Cond.holds, Cond.value]), lw_limb limb_1_2 (fun args s t => Cond.after_iff.mpr (by
  first | (rw [show limb_1_2 = Cond.eq .result (.int 1) from rfl, Cond.eq_ints (x := 1) (y := 1) rfl rfl]; simp; done) | (simp [limb_1_2, Cond.value, Term.eval]; done)))⟩
