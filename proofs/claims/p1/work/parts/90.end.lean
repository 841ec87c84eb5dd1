/-! THE CLAIM OUT OF ONE WALK OF THE LAW'S BODY. Your part is whole_start (and what it stands on); all else here is the same for every law, but numbers. -/
def R_law : String := "TwelvehundredLaw"
def lw_P (b : Addr) (xs : List Int32) (args : Array Value) (s : State) : Prop := args = #[.ref b] ∧ s.IntsAt b xs ∧ xs.length ≤ 2048 ∧ (Jvm.Cond.and given_1 narrow_1).before args s = true
def lw_Q (_ : Array Value) (s : State) (o : Outcome) (t : State) : Prop := o = .returned (some (.int 1)) ∧ Framed s o t [] 799696 6703147
def lw_Z (below : List Frame) (a : Array Value) (s : State) : State → Prop := fun t => ∃ o, t.status = .running ∧ Ended t below o ∧ lw_Q a s o t
/-- the law's own end, with 1 on the stack, nothing written that was there before, its room as the claim has it -/
theorem lw_ret {p : Program} {l : Launch} {e : Env} {s : State} {m : MethodId} {below : List Frame} {meth : Method} {c : Code} {b : Nat} (hx : p.tables.exec = Jvm.exec) (hb : c.code = code) (hr : meth.sig.returnType = ret) (hlocks : meth.locks = false) {pc : Nat} {H : Heap} {ls : Array Slot} (hdg : decode code pc = .ok (.ireturn, 1)) : W p l e room_1 s m #[Value.ref b] below meth c H [] 799696 6703147 (lw_Z below #[Value.ref b] s) (F0 m pc ls [.int 1]) := by
  intro T hT X
  obtain ⟨fs, hret, hrun, hended, hW, hframe⟩ := X.leave (v := some (.int 1)) (hlocks := hlocks) (fun h => by rw [hr] at h; cases h)
  have hmeth' : T.vm.method? m = some meth := X.method'
  refine ⟨T.setFrames fs, ?_, .returned (some (.int 1)), hrun, hended, rfl, ⟨_, rfl⟩, hW, hframe⟩
  jvm_step X.here [X.here.top, hx, hb, hdg, hmeth', hr, ret, narrow_b1]
  (try refine ⟨rfl, ?_⟩); (try refine ⟨rfl, ?_⟩)
  first | (intro acts; rw [hret _ acts rfl rfl rfl]) | rw [hret _ _ rfl rfl rfl]
  exact Steps.refl _
/-- what holds at the law's entry: the machine, the code, the tables' words (any of lw_tbl by 'hts w (by decide +kernel)'), the script of L ints xs at the cell b, what the Statement gives of the start (any of its parts by flat_of_before) -/
def lw_At (p : Program) (s : State) (m : MethodId) (meth : Method) (c : Code) (b L : Nat) (xs : Nat → Int32) : Prop :=
  p.tables.exec = Jvm.exec ∧ c.code = code ∧ meth.sig.returnType = ret ∧ c.maxLocals = 7 ∧ s.vm.findClass R_law = some m.cls ∧ (∀ w ∈ lw_tbl, w.before #[Value.ref b] s = true) ∧ va_X b L xs s s.heap ∧ b < s.heap.size ∧ meth.locks = false ∧ (Jvm.Cond.and given_1 narrow_1).before #[Value.ref b] s = true ∧ meth.name = x.name ∧ c.exceptionTable.toList = []
theorem eq_hd {args : Array Value} {s : State} {idx : List Nat} {tm tn : Term} {y : Int32} (hy : tn.eval args s none idx s = some (.int y)) (h : (Cond.eq tm tn).holds args s none s idx = true) : tm.eval args s none idx s = some (.int y) := by
  cases hv : tm.eval args s none idx s with
  | none => simp [Cond.holds, Cond.value, hv] at h
  | some w =>
    simp only [Cond.holds, Cond.value, hv, hy] at h
    cases w <;> simp_all
/-- the cache of small Integers, out of what is said of all its places -/
theorem ic_start {args : Array Value} {s : State} {A : Nat → Prop} {i0 : Nat} {C n d : String} (h1 : (Cond.arrayOf (.static C n d) (.object "java/lang/Integer")).before args s = true) (h2 : (Cond.eq (.length (.static C n d)) (.int 256)).before args s = true) (h3 : (Cond.all (.static C n d) (.and (.exactly (.elem (.static C n d) (.index 0)) "java/lang/Integer") (.eq (.field (.elem (.static C n d) (.index 0)) "java/lang/Integer" "value" "I") (.sub (.index 0) (.int 128))))).before args s = true)
    (hA : ∀ a : Nat, a < s.heap.size → ¬ A a) (hK : SlotIs s "java/lang/Integer" "value" "I" i0) :
    ∃ (ic : Nat) (f : Nat → Nat), (Term.static C n d).eval args s none [] s = some (.ref ic) ∧ va_T (.object "java/lang/Integer") ic 256 (fun j => va_rf (some (f j))) A s s.heap ∧ ∀ j, j < 256 → ∃ cell : Cell, s.heap[f j]? = some cell ∧ cell.vm.isStatics = false ∧ cell.vm ≠ .unknown ∧ s.vm.findClass "java/lang/Integer" = some cell.cls ∧ cell.slots[i0]? = some (.int (Int32.ofInt ((j : Int) - 128))) ∧ ¬ A (f j) := by
  obtain ⟨t, cell, ht, hat, hv⟩ := Term.length_spec (eq_tm h2)
  obtain ⟨hcell, hkn, -, -⟩ := State.arrayAt?_spec hat
  obtain ⟨hof, -⟩ := Cond.arrayOf_spec h1 ht hcell
  have hsz : cell.slots.size.toInt32 = 256 := by
    injection hv with hv
    exact hv.symm
  have hge : 256 ≤ cell.slots.size := by
    by_cases c : 256 ≤ cell.slots.size
    · exact c
    · exfalso
      have e1 : (cell.slots.size.toInt32).toInt = cell.slots.size := Int32.toInt_ofNat_of_lt (by omega)
      rw [hsz] at e1
      have e2 : (256 : Int32).toInt = 256 := by decide
      omega
  have hel : ∀ j : Nat, ∃ a : Nat, j < 256 → cell.slots[j]? = some (.ref a) ∧ ∃ cl : Cell, s.heap[a]? = some cl ∧ cl.vm.isStatics = false ∧ cl.vm ≠ .unknown ∧ s.vm.findClass "java/lang/Integer" = some cl.cls ∧ cl.slots[i0]? = some (.int (Int32.ofInt ((j : Int) - 128))) ∧ ¬ A a := by
    intro j
    by_cases hj : j < 256
    · have hh : (Cond.and (.exactly (.elem (.static C n d) (.index 0)) "java/lang/Integer") (.eq (.field (.elem (.static C n d) (.index 0)) "java/lang/Integer" "value" "I") (.sub (.index 0) (.int 128)))).holds args s none s [j] = true := by
        have := Cond.all_elim ht hat (Cond.before_iff.mp h3) j (by omega)
        simp only [Cond.holds, this]
        rfl
      rw [Cond.holds_and, Bool.and_eq_true] at hh
      obtain ⟨a, c, cl, k, e1, e2, e3, e4, e5, e6, -⟩ := Cond.exactly_spec hh.1
      obtain ⟨t2, jj, cell2, q1, q2, q3, q4, q5⟩ := Term.elem_spec e1
      have q1' : (Term.static C n d).eval args s none [] s = some (.ref t2) := q1
      cases ht.symm.trans q1'
      cases hat.symm.trans q3
      have q2' : (Term.index 0).eval args s none [j] s = some (.int j.toInt32) := rfl
      cases q2.symm.trans q2'
      have hj2 : (j.toInt32).toNatClampNeg = j := Int32.toNatClampNeg_ofNat_of_lt (by omega)
      rw [hj2] at q5
      have hsub : (Term.sub (.index 0) (.int 128)).eval args s none [j] s = some (.int (j.toInt32 - 128)) := rfl
      have hf := eq_hd hsub hh.2
      obtain ⟨cf, kf, fi, fd, hfd, hsl⟩ := hK
      obtain ⟨hst, cl2, r1, r2, r3, r4, r5⟩ := Term.field_spec hfd e1 hf
      cases e3.symm.trans r1
      have ev : j.toInt32 - 128 = Int32.ofInt ((j : Int) - 128) := by
        rw [Int32.ofInt_sub]
        rfl
      refine ⟨a, fun _ => ⟨q5, cl, e3, r3, r2, by rw [e6]; exact e2, ?_, hA a (Array.getElem?_eq_some_iff.mp e3).1⟩⟩
      rw [← hsl, r5, ev]
    · exact ⟨0, fun c => absurd c hj⟩
  obtain ⟨f, hf⟩ := Classical.axiomOfChoice hel
  exact ⟨t, f, ht, ⟨cell, hcell, hof, hkn, hge, hsz, fun j hj => (hf j hj).1, hA t (Array.getElem?_eq_some_iff.mp hcell).1⟩, fun j hj => (hf j hj).2⟩
/-- the heap of the start, with the cache of Integers in it -/
noncomputable def hIc (b em ic L : Nat) (xs : Nat → Int32) (f : Nat → Nat) : AH := fun a => by
  classical
  exact if a = b then some (.inl (8, L, .inl xs)) else if a = em then some (.inl (9, 0, .inr (.inr (.inr (.inr (fun _ => none)))))) else if a = ic then some (.inl (10, 256, .inr (.inr (.inr (.inr fun j => some (f j)))))) else if h : ∃ j, j < 256 ∧ f j = a then some (.inl (11, 2, .inl fun _ => Int32.ofInt ((h.choose : Int) - 128))) else none
theorem hI_b {b em ic L : Nat} {xs : Nat → Int32} {f : Nat → Nat} : hIc b em ic L xs f b = some (.inl (8, L, .inl xs)) := by
  unfold hIc
  rw [if_pos rfl]
theorem hI_em {b em ic L : Nat} {xs : Nat → Int32} {f : Nat → Nat} (hne : b ≠ em) : hIc b em ic L xs f em = some emR := by
  unfold hIc
  rw [if_neg (fun q => hne q.symm), if_pos rfl]
  rfl
theorem hI_ic {b em ic L : Nat} {xs : Nat → Int32} {f : Nat → Nat} (hne : b ≠ em) (hbi : b ≠ ic) (hei : em ≠ ic) (hfx : ∀ j, j < 256 → f j ≠ b ∧ f j ≠ em ∧ f j ≠ ic) (hinj : ∀ i j, i < 256 → j < 256 → f i = f j → i = j) : icOk ic (hIc b em ic L xs f) := by
  refine ⟨f, ?_, fun j hj => Or.inr ⟨fun _ => Int32.ofInt ((j : Int) - 128), ?_, rfl⟩⟩
  · unfold hIc
    rw [if_neg (fun q => hbi q.symm), if_neg (fun q => hei q.symm), if_pos rfl]
  · have hx : ∃ j', j' < 256 ∧ f j' = f j := ⟨j, hj, rfl⟩
    have hc : hx.choose = j := hinj _ _ hx.choose_spec.1 hj hx.choose_spec.2
    unfold hIc
    rw [if_neg (hfx j hj).1, if_neg (hfx j hj).2.1, if_neg (hfx j hj).2.2, dif_pos hx, hc]
theorem hI_or {b em ic L : Nat} {xs : Nat → Int32} {f : Nat → Nat} {a : Nat} {e : AE} (h : hIc b em ic L xs f a = some e) : (a = b ∧ e = .inl (8, L, .inl xs)) ∨ (a = em ∧ e = .inl (9, 0, .inr (.inr (.inr (.inr (fun _ => none)))))) ∨ (a = ic ∧ e = .inl (10, 256, .inr (.inr (.inr (.inr fun j => some (f j)))))) ∨ ∃ j, j < 256 ∧ f j = a ∧ e = .inl (11, 2, .inl fun _ => Int32.ofInt ((j : Int) - 128)) := by
  unfold hIc at h
  split at h
  · next q => exact Or.inl ⟨q, (Option.some.inj h).symm⟩
  · split at h
    · next q => exact Or.inr (Or.inl ⟨q, (Option.some.inj h).symm⟩)
    · split at h
      · next q => exact Or.inr (Or.inr (Or.inl ⟨q, (Option.some.inj h).symm⟩))
      · split at h
        · next q => exact Or.inr (Or.inr (Or.inr ⟨q.choose, q.choose_spec.1, q.choose_spec.2, (Option.some.inj h).symm⟩))
        · cases h
theorem row_ne {e ic : Nat} {T U : FieldType} {f g : Nat → Value} {A : Nat → Prop} {s : State} {H : Heap} (h1 : va_T T e 0 f A s H) (h2 : va_T U ic 256 g A s H) : e ≠ ic := by
  rintro rfl
  obtain ⟨c1, g1, -, -, -, g5, -⟩ := h1
  obtain ⟨c2, e1, -, -, -, e5, -⟩ := h2
  cases g1.symm.trans e1
  exact absurd (g5.symm.trans e5) (by decide)
theorem ord_ne {s : State} {cell : Cell} {k : Class} {ty : FieldType} (hk : s.vm.classes[cell.cls]? = some k) (ho : k.kind = .ordinary) (ha : s.isArrayOf cell ty) : False := by
  obtain ⟨-, k2, g2, comp, g3⟩ := ha
  cases hk.symm.trans g2
  rw [ho] at g3
  cases g3
set_option maxHeartbeats 4000000 in
theorem start_okI {p : Program} {l : Launch} {s : State} {m : MethodId} {meth : Method} {c : Code} (hflags : l.flags = flags0) {b L : Nat} {xs : Nat → Int32} (hL : L ≤ 2048) (C0 : lw_At p s m meth c b L xs) :
    ∃ (G : va_G) (a0 a1 a2 a3 : ClassId) (em mi ic : Nat) (h : AH), (h em = some emR ∧ h b = some (.inl (8, L, .inl xs)) ∧ icOk ic h) ∧ Cx p l s m #[Value.ref b] meth c (VV G a0 a1 a2 a3 s.heap.size) (DD em mi ic) 0 ∧ RelO (VV G a0 a1 a2 a3 s.heap.size) h s.heap ∧ RelX (VV G a0 a1 a2 a3 s.heap.size) h s := by
  obtain ⟨hexec, hcode, hret, hml, hown, hts, hXb, hb, hlocks, hgv, hnm, hxt⟩ := C0
  have hfs := flat_of_before _ hgv
  have hall := x_all hts
  obtain ⟨G, hG⟩ := cls_all2 (fun w hw => hall w (List.mem_filter.mp hw).1) vwCl ca_all
  obtain ⟨a0, A0⟩ := arr_prim (ty := .int) (fun C h => by cases h) (hts _ (by decide +kernel))
  obtain ⟨a1, A1⟩ := arr_prim (ty := .byte) (fun C h => by cases h) (hts _ (by decide +kernel))
  obtain ⟨a2, A2⟩ := arr_obj (C := "Twelvehundred$Hall") (hts _ (by decide +kernel))
  obtain ⟨a3, A3⟩ := arr_obj (C := "java/lang/Object") (hts _ (by decide +kernel))
  have hA : ∀ a : Nat, a < s.heap.size → ¬ (s.heap.size ≤ a) := fun a h => by omega
  obtain ⟨em, hem, hE⟩ := em_arr (C := "java/util/ArrayList") (n := "DEFAULTCAPACITY_EMPTY_ELEMENTDATA") (d := "[Ljava/lang/Object;") (T := "java/lang/Object") (A := fun q => s.heap.size ≤ q) (hfs _ (by decide +kernel)) (hfs _ (by decide +kernel)) hA
  obtain ⟨mi, hmi⟩ := va_Mi.of (C := "[Ljava/lang/Object;") (hfs _ (by decide +kernel))
  have hne : b ≠ em := script_ne hXb hE
  have hIn := hG 2 _ rfl
  obtain ⟨ic, f, hic, hI, hel⟩ := ic_start (A := fun q => s.heap.size ≤ q) (C := "java/lang/Integer$IntegerCache") (n := "cache") (d := "[Ljava/lang/Integer;") (hfs _ (by decide +kernel)) (hfs _ (by decide +kernel)) (hfs _ (by decide +kernel)) hA (hIn.1 0 (by decide))
  have hbi : b ≠ ic := script_ne hXb hI
  have hei : em ≠ ic := row_ne hE hI
  have hfx : ∀ j, j < 256 → f j ≠ b ∧ f j ≠ em ∧ f j ≠ ic := fun j hj => by
    obtain ⟨cell, h1, h2, h3, h4, h5, h6⟩ := hel j hj
    obtain ⟨h4', kc, hk, ho⟩ := hIn.2
    have e4 : s.vm.classes[cell.cls]? = some kc := by
      have : (G.1 2) = cell.cls := Option.some.inj (h4'.symm.trans h4)
      rw [← this]
      exact hk
    refine ⟨?_, ?_, ?_⟩
    · rintro rfl
      obtain ⟨c1, g1, g2, -⟩ := hXb
      cases h1.symm.trans g1
      exact ord_ne e4 ho g2
    · rintro rfl
      obtain ⟨c1, g1, g2, -⟩ := hE
      cases h1.symm.trans g1
      exact ord_ne e4 ho g2
    · rintro rfl
      obtain ⟨c1, g1, g2, -⟩ := hI
      cases h1.symm.trans g1
      exact ord_ne e4 ho g2
  refine ⟨G, a0, a1, a2, a3, em, mi, ic, hIc b em ic L xs f, ⟨hI_em hne, hI_b, hI_ic hne hbi hei hfx fun i j hi hj e => ?_⟩, ⟨hexec, hcode, hml, hret, hlocks, hown, fun w hw => hall w (List.mem_filter.mp hw).1, ⟨⟨hG, ?_⟩, Nat.le_refl _, ?_, ?_, ?_, ?_, ?_, ?_, ?_, mi, rfl, hmi⟩, flags_tr hflags, hnm, hxt⟩, ⟨[], ?_, ?_, ?_⟩, ?_⟩
  · obtain ⟨c1, h1, -, -, -, h5, -⟩ := hel i hi
    obtain ⟨c2, g1, -, -, -, g5, -⟩ := hel j hj
    rw [e] at h1
    cases h1.symm.trans g1
    have e5 := Value.int.inj (Option.some.inj (h5.symm.trans g5))
    have e6 := congrArg Int32.toInt e5
    rw [Int32.toInt_ofInt_of_le (by omega) (by omega), Int32.toInt_ofInt_of_le (by omega) (by omega)] at e6
    omega
  · intro k q hk
    match k, hk with
    | 0, hk => cases hk; exact A0
    | 1, hk => cases hk; exact A1
    | 2, hk => cases hk; exact A2
    | 3, hk => cases hk; exact A3
    | n + 4, hk => cases hk
  · exact fun w hw => va_Nw.of (nt_tab (List.mem_filter.mp hw).2) (hall w (List.mem_filter.mp hw).1)
  · exact str_all hts hfs Stl (by decide +kernel)
  · intro k q hk
    match k, hk with
    | 0, hk => cases hk; exact va_Zof (hts _ (by decide +kernel)) (hts _ (by decide +kernel)) hem hA
    | 1, hk => cases hk; exact va_Zof (hts _ (by decide +kernel)) (hts _ (by decide +kernel)) (va_eqi (z := 1) (hfs _ (by decide +kernel))) hA
    | 2, hk => cases hk; exact va_Zof (hts _ (by decide +kernel)) (hts _ (by decide +kernel)) (va_eqi (z := 127) (hfs _ (by decide +kernel))) hA
    | 3, hk => cases hk; exact va_Zof (hts _ (by decide +kernel)) (hts _ (by decide +kernel)) hic hA
    | n + 4, hk => cases hk
  · exact vx_Zqof (hts _ (by decide +kernel)) (hts _ (by decide +kernel)) (hfs _ (by decide +kernel)) hA
  · exact vx_Zqof (hts _ (by decide +kernel)) (hts _ (by decide +kernel)) (hfs _ (by decide +kernel)) hA
  · exact nc_all hfs Ncl (by decide +kernel)
  · intro t cA C ht
    match t, ht with
    | 0, ht => cases ht
    | 1, ht => cases ht
    | 2, ht => cases ht; exact va_AO.of (hts _ (by decide +kernel))
    | 3, ht => cases ht; exact va_AO.of (hts _ (by decide +kernel))
    | n + 4, ht => cases ht
  · intro a e he ho
    exfalso
    rcases hI_or he with ⟨-, rfl⟩ | ⟨-, rfl⟩ | ⟨-, rfl⟩ | ⟨j, -, -, rfl⟩ <;> exact absurd ho (by show ¬ _ < 8; omega)
  · intro k q hk
    cases hk
  · exact ⟨fun i j p q h => (by cases h), fun k q hk => (by cases hk)⟩
  · intro a t n g ha ht
    rcases hI_or ha with ⟨rfl, e⟩ | ⟨rfl, e⟩ | ⟨rfl, e⟩ | ⟨j, hj, rfl, e⟩
    · cases e
      obtain ⟨scr, hcb, hof, hkn, hsz, hval⟩ := hXb
      refine Or.inl ⟨rfl, _, rfl, scr, hcb, hof, hkn, by omega, ?_, hval, hA _ hb⟩
      rw [hsz]
    · cases e
      exact Or.inr (Or.inl ⟨rfl, _, rfl, hE⟩)
    · cases e
      exact Or.inr (Or.inr (Or.inl ⟨rfl, _, rfl, hI⟩))
    · cases e
      obtain ⟨cell, h1, h2, h3, h4, h5, h6⟩ := hel j hj
      exact Or.inr (Or.inr (Or.inr ⟨rfl, _, rfl, _, cell, rfl, h1, h2, h3, h4, h5, h6⟩))
-- ===== YOUR PART BEGINS =====
/-- less room is there where more is -/
theorem room_le {s : State} {pl : Platform} {R R' : Room} (h : s.hasRoom pl R = true) (h1 : R'.frames ≤ R.frames) (h2 : R'.cells ≤ R.cells) (h3 : R'.slots ≤ R.slots) (h4 : R'.locals ≤ R.locals) : s.hasRoom pl R' = true := by
  simp only [State.hasRoom, Bool.and_eq_true, decide_eq_true_eq] at h ⊢
  obtain ⟨⟨⟨⟨a, b, c, d, e, f⟩, g⟩, i⟩, j⟩ := h
  exact ⟨⟨⟨⟨by omega, by omega, by omega, by omega, by omega, f⟩, by omega⟩, by omega⟩, j⟩
theorem w_room {p : Program} {l : Launch} {e : Env} {s : State} {m : MethodId} {A : Array Value} {below : List Frame} {meth : Method} {c : Code} {H : Heap} {R R' : Room} {g : JFrame} {mc ms mc' ms' : Nat} (h1 : R'.frames ≤ R.frames) (h2 : R'.cells ≤ R.cells) (h3 : R'.slots ≤ R.slots) (h4 : R'.locals ≤ R.locals) (h5 : mc ≤ mc') (h6 : ms ≤ ms')
    (K : W p l e R' s m A below meth c H [] 0 0 (fun t => ∃ o, t.status = .running ∧ Ended t below o ∧ o = .returned (some (.int 1)) ∧ Framed s o t [] mc ms) g) : W p l e R s m A below meth c H [] 0 0 (fun t => ∃ o, t.status = .running ∧ Ended t below o ∧ o = .returned (some (.int 1)) ∧ Framed s o t [] mc' ms') g := by
  intro T hT X
  obtain ⟨t, k1, o, k2, k3, k4, k5⟩ := K T hT { X with room := room_le X.room h1 h2 h3 h4 }
  exact ⟨t, k1, o, k2, k3, k4, k5.1, k5.2.1, k5.2.2.weaken (fun x hx _ => hx) h5 h6⟩
/-- what the law does -/
theorem law_fun {b em mi ic L : Nat} {xs : Nat → Int32} {h : AH} (hL : L ≤ 2048) (e1 : h em = some emR) (e2 : h b = some (.inl (8, L, .inl xs))) (e3 : icOk ic h) : cal (DD em mi ic) 2036 0 [.ref b] h (fun r _ => r = .inl (some (.int 1))) :=
  law_ok (d := 2036) (F0 := h) (by omega) (fun _ _ q => q) e1 e2 e3 hL (fun _ => rfl)
/-- YOUR PART: from the entry, for every script of at most 2048 ints, the law comes to its end with true ('hflags': the launch's flags, for a law that throws: no stack traces) -/
theorem whole_start {p : Program} {e : Env} {s : State} {m : MethodId} {below : List Frame} {meth : Method} {c : Code} (l : Launch) (hflags : l.flags = flags0) {b L : Nat} {xs : Nat → Int32} (hL : L ≤ 2048) (C0 : lw_At p s m meth c b L xs) : W p l e room_1 s m #[Value.ref b] below meth c s.heap [] 0 0 (lw_Z below #[Value.ref b] s) (entryFrame m ([Value.ref b] : List Value).toArray 7) := by
  obtain ⟨G, a0, a1, a2, a3, em, mi, ic, h, ⟨e1, e2, e3⟩, hC, hO, hX⟩ := start_okI (l := l) hflags hL C0
  have f1 : (rmD (DD em mi ic) 0 2036).frames ≤ room_1.frames := by
    show 2036 + 12 ≤ 2048
    exact Nat.le_of_ble_eq_true rfl
  have f2 : (rmD (DD em mi ic) 0 2036).cells ≤ room_1.cells := by
    show mBc (DD em mi ic) 0 ≤ 799696
    rw [bc_0]
    exact Nat.le_of_ble_eq_true rfl
  have f3 : (rmD (DD em mi ic) 0 2036).slots ≤ room_1.slots := by
    show mBs (DD em mi ic) 0 ≤ 6703147
    rw [bs_0]
    exact Nat.le_of_ble_eq_true rfl
  have f4 : (rmD (DD em mi ic) 0 2036).locals ≤ room_1.locals := by
    show 41 * 2036 + 524 ≤ 84000
    exact Nat.le_of_ble_eq_true rfl
  have K := law_sound (e := e) (below := below) (R := rmD (DD em mi ic) 0 2036) (mc := 200000) (ms := 2000000) (nL := 7) (all_ok G a0 a1 a2 a3 s.heap.size em mi ic) hC rfl (law_fun hL e1 e2 e3) hO hX rfl (bc_0 em mi ic) (bs_0 em mi ic) (ml_0 em mi ic)
  exact w_room f1 f2 f3 f4 (Nat.le_of_ble_eq_true rfl) (Nat.le_of_ble_eq_true rfl) K
-- ===== YOUR PART ENDS =====
set_option maxHeartbeats 4000000 in
theorem lw_walk (l : Launch) (hflags : l.flags = flags0) (b : Addr) (xs : List Int32) : MetFree l x (headSpec (Jvm.Cond.code x code maxLocals ret :: tables_1) room_1) (lw_P b xs) (fun _ _ _ _ _ => True) lw_Q := by
  refine MetFree.of_bodyS (code := code) (maxLocals := maxLocals) (ret := ret) (by decide) ?_ ?_
  · intro args s m h hn
    obtain ⟨meth, c, h1, h2, h3, h4, h5, h6, -, -⟩ := Cond.code_spec hn (atoms_spec (ws := Jvm.Cond.code x code maxLocals ret :: tables_1) h _ List.mem_cons_self)
    exact ⟨meth, c, h1, h2, h3, h4, h5, h6⟩
  · intro p e s m args below meth c s₁ B hml0 hP _
    obtain ⟨rfl, hx, hbd, hgv⟩ := hP
    obtain ⟨scr, harrAt, hlist, hof, hsmall⟩ := hx
    obtain ⟨hcb, hkn, -, -⟩ := State.arrayAt?_spec harrAt
    have hown : s.vm.findClass R_law = some m.cls := findClass_of_methodNamed B.named
    have hts0 : ∀ c ∈ (Jvm.Cond.code x code maxLocals ret :: tables_1), c.before #[Value.ref b] s = true := atoms_spec (ws := Jvm.Cond.code x code maxLocals ret :: tables_1) B.pre
    have hts : ∀ w ∈ lw_tbl, w.before #[Value.ref b] s = true := k2_hts_sels lw_privs (fun w hw => hts0 w (List.mem_cons_of_mem _ hw)) lw_privs_ok
    have hml : c.maxLocals = 7 := B.maxLocals_eq (hts0 _ List.mem_cons_self)
    have X₀ : Stand p l e room_1 s m #[Value.ref b] below meth c s₁ [] 0 0 := Stand.of_body B
    have hh0 : s₁.heap = s.heap := by rw [B.state]; rfl
    have hxt : c.exceptionTable.toList = [] := by
      obtain ⟨meth9, c9, h1, h2, -, -, -, -, h7, -⟩ := Cond.code_spec B.named (hts0 _ List.mem_cons_self)
      cases Option.some.inj (h1.symm.trans B.method)
      cases Option.some.inj (h2.symm.trans X₀.code)
      rw [Array.isEmpty_iff.mp h7]
    have hsz : scr.slots.size = xs.length := by rw [← Array.length_toList, hlist, List.length_map]
    have hval : ∀ j : Nat, j < xs.length → scr.slots[j]? = some (.int (xs.getD j 0)) := fun j hj => by
      rw [← Array.getElem?_toList, hlist]
      simp [hj]
    have hbl : b < s.heap.size := (Array.getElem?_eq_some_iff.mp hcb).1
    have hX : va_X b xs.length (fun j => xs.getD j 0) s s.heap := ⟨scr, hcb, hof, hkn, hsz, hval⟩
    have K : W p l e room_1 s m #[Value.ref b] below meth c s₁.heap [] 0 0 (lw_Z below #[Value.ref b] s) (entryFrame m ([Value.ref b] : List Value).toArray 7) := by
      rw [hh0]
      exact whole_start l hflags hbd ⟨B.exec, B.bytes, B.returns, hml, hown, hts, hX, hbl, B.notSynchronized, hgv, (name_of_methodNamed B.named B.method).1, hxt⟩
    obtain ⟨t, a1, o, b1, b2, b3⟩ := K s₁ rfl X₀
    exact ⟨t, o, a1, b1, b2, b3⟩
theorem lw_pre_spec {args : Array Value} {s : State} (h : (Jvm.Cond.and given_1 narrow_1).before args s = true) (hr : rest_1_c.before args s = true) : ∃ (b : Addr) (xs : List Int32), lw_P b xs args s := by
  have hs := flat_of_before _ h
  have hq := flat_of_before _ hr
  have hc : (Cond.count 1).before args s = true := hs _ (by decide +kernel)
  have harr : (Cond.arrayOf (.arg 0) .int).before args s = true := hs _ (by decide +kernel)
  have hle : (Cond.le (.length (.arg 0)) (.int 4)).before args s = true := hs _ (by decide +kernel)
  have hlen : (Cond.isInt (.length (.arg 0))).before args s = true := hq _ (by decide +kernel)
  have hall : (Cond.all (.arg 0) (.isInt (.elem (.arg 0) (.index 0)))).before args s = true := hq _ (by decide +kernel)
  obtain ⟨b, xs, hb, hx⟩ := State.ints_of_pre rfl harr hlen hall
  have hsm : xs.length < 2 ^ 31 := hx.choose_spec.2.2.2
  have hev : (Term.length (.arg 0)).eval args s none [] s = some (.int xs.length.toInt32) := hx.length_eval hb
  have hv := Cond.le_ints hev (show (Term.int 4).eval args s none [] s = some (.int 4) from rfl)
  have hd : xs.length.toInt32 ≤ 4 := by
    simpa [Cond.before, Cond.holds, hv] using hle
  have hN : xs.length ≤ 2048 := Nat.le_trans (m := 4) ((Int32.ofNat_le_ofNat hsm (by decide)).mp (show Int32.ofNat xs.length ≤ Int32.ofNat 4 from hd)) (by decide)
  exact ⟨b, xs, Cond.one_arg hc (show args[0]? = some (.ref b) from hb), hx, hN, h⟩
theorem lw_comes (l : Launch) (hflags : l.flags = flags0) : Comes l x (Jvm.Cond.code x code maxLocals ret :: tables_1) room_1 (fun tb e args s => Calls_1 tb e args s ∧ rest_1 tb e args s ∧ Pre_1 tb e args s)
    (fun _ _ args s o t => lw_Q args s o t) := by
  intro p e ha hc hk s m args below hf hfit hheap happ hpre
  obtain ⟨b, xs, hP⟩ := lw_pre_spec hpre.2.2 hpre.2.1
  obtain ⟨k, o, h1, h2, h3, hQ⟩ := lw_walk l hflags b xs p e ha hc hk s m args below hf ((Spec.applies_iff_loose hf).mp happ).1 hP trivial
  exact ⟨k, o, h1, h2, h3, hQ⟩
theorem lw_frame {s t : State} {o : Outcome} {args : Array Value} (h : Framed s o t [] 799696 6703147) :
    Framed s o t (fieldLocs frame_1_writes args s ++ arrayLocs frame_1_arrays args s ++ staticLocs frame_1_statics s) 799696 6703147 := h
theorem lw_limb (L : Cond) (hL : ∀ (args : Array Value) (s t : State), L.after args s (.returned (some (.int 1))) t = true) :
    ArmFor flags0 classFile x code maxLocals ret World_1 tables_1 room_1 Calls_1 rest_1 Pre_1
      (fun tb e a s o t => postC L tb e a s o t ∧ Framed s o t (fieldLocs frame_1_writes a s ++ arrayLocs frame_1_arrays a s ++ staticLocs frame_1_statics s) 799696 6703147) := by
  intro l hflags _ _ p e ha hc hk s m args below hf hfit hheap happ hpre
  obtain ⟨k, o, h1, h2, h3, rfl, hF⟩ := lw_comes l hflags p e ha hc hk s m args below hf hfit hheap happ hpre
  exact ⟨k, _, h1, h2, h3, hL args s _, lw_frame hF⟩
theorem i_vc : Claimed_1_1 ∧ Claimed_1_2 := ⟨lw_limb limb_1_1 (fun args s t => by simp [limb_1_1, Cond.after, Cond.holds, Cond.value]), lw_limb limb_1_2 (fun args s t => Cond.after_iff.mpr (by
  first | (rw [show limb_1_2 = Cond.eq .result (.int 1) from rfl, Cond.eq_ints (x := 1) (y := 1) rfl rfl]; simp; done) | (simp [limb_1_2, Cond.value, Term.eval]; done)))⟩
