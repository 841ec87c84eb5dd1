/-! THE START: what the tables and the start say, as 'Inv', 'Cx' and 'AllOk' want it -/
theorem sel_priv {y z : MethodName} {C : String} {n : Nat} {s : State} {args : Array Value} (hy : y.cls ≠ "java/lang/invoke/MethodHandle" ∧ y.cls ≠ "java/lang/invoke/VarHandle") (hz : y.cls = z.cls)
    (hins : (Jvm.Cond.instantiable C n).before args s = true) (hpriv : (Jvm.Cond.privateMethod y).before args s = true) (hinst : (Jvm.Cond.instanceMethod y).before args s = true) (hsel : (Jvm.Cond.selects C z z).before args s = true) :
    (Jvm.Cond.selects C y y).before args s = true := by
  obtain ⟨c, k, hc, hk, -, -, -, -⟩ := Cond.instantiable_spec hins
  obtain ⟨mk, methM, hnamed, hmethM, -, -⟩ := Cond.instanceMethod_spec hinst
  have hfound : s.methodFound? y.cls y.name y.desc = some mk := State.methodFound?_of_named hnamed hy
  obtain ⟨c2, r2, m2, h1, h2, h3, h4, mk2, h5, h6⟩ := Cond.selects_spec hsel
  have hcls : mk.cls = m2.cls := Option.some.inj ((findClass_of_methodNamed hnamed).symm.trans (hz ▸ findClass_of_methodNamed h3))
  have hs : selectMethod {} s.vm c mk = .method mk := selectMethod_private hmethM (Cond.privateMethod_at hpriv mk methM hnamed hmethM)
  simp only [Cond.before, Cond.holds, Cond.value, hc, hfound, hnamed, hs, hcls, h5]
  simp; exact h6
theorem arr_prim {ty : FieldType} {args : Array Value} {s : State} (hn : ∀ C, ty ≠ .object C) (h : (Jvm.Cond.arrayClass ty).before args s = true) : ∃ a, ArrOfT s a ty ∧ va_RA s a ty := by
  obtain ⟨c, k, comp, h1, h2, h3⟩ := Cond.arrayClass_spec h
  refine ⟨c, fun n z => ⟨fun k h => (by cases h), k, h2, comp, h3⟩, ?_⟩
  cases ty <;> first | exact h1 | exact absurd rfl (hn _)
theorem arr_obj {C : String} {args : Array Value} {s : State} (h : (Jvm.Cond.arrayOver (.object C)).before args s = true) : ∃ a, ArrOfT s a (.object C) ∧ va_RA s a (.object C) := by
  obtain ⟨comp, c, k, h1, -, h2, h3, h4⟩ := Cond.arrayOver_spec h
  exact ⟨c, fun n z => ⟨fun k h => (by cases h), k, h2, comp, h3⟩, k, comp, h2, h3, h1, h4⟩
/-- ids of the classes, by choice -/
theorem cls_all {args : Array Value} {s : State} {ws : List Jvm.Cond} (hts : ∀ w ∈ ws, w.before args s = true) (cl : List vw_C) (hin : cl.all (fun r => (u_ws r.1 r.2.1 r.2.2).all (fun w => ws.contains w) && (List.range 24).any (fun n => ws.contains (.instantiable r.1 n))) = true) :
    ∃ G : va_G, ∀ (c : Nat) (q : vw_C), cl[c]? = some q → u_Kn s q.1 q.2.1 q.2.2 (G.1 c) (G.2 c) := by
  have h : ∀ c : Nat, ∃ g : ClassId × (Nat → Nat), ∀ q : vw_C, cl[c]? = some q → u_Kn s q.1 q.2.1 q.2.2 g.1 g.2 := by
    intro c
    cases hq : cl[c]? with
    | none => exact ⟨(default, fun _ => 0), fun q h => by cases h⟩
    | some r =>
      have h1 := List.all_eq_true.mp hin r (List.mem_of_getElem? hq)
      obtain ⟨h2, h3⟩ := Bool.and_eq_true_iff.mp h1
      obtain ⟨n, -, h4⟩ := List.any_eq_true.mp h3
      obtain ⟨cC, iS, h5⟩ := u_known (ws := ws) hts (fun w hw => List.contains_iff_mem.mp (List.all_eq_true.mp h2 w hw)) (hts _ (List.contains_iff_mem.mp h4))
      exact ⟨(cC, iS), fun q h => by cases h; exact h5⟩
  obtain ⟨g, hg⟩ := Classical.axiomOfChoice h
  exact ⟨(fun c => (g c).1, fun c => (g c).2), hg⟩
theorem ia_nil {P : Nat → vw_C → Prop} (k : Nat) : ∀ (i : Nat) (r : vw_C), ([] : List vw_C)[i]? = some r → P (k + i) r := fun i r h => by simp at h
theorem ia_cons {P : Nat → vw_C → Prop} (k : Nat) {x : vw_C} {l : List vw_C} (h : P k x) (t : ∀ (i : Nat) (r : vw_C), l[i]? = some r → P (k + 1 + i) r) : ∀ (i : Nat) (r : vw_C), (x :: l)[i]? = some r → P (k + i) r := by
  intro i r hi
  cases i with
  | zero => cases hi; exact h
  | succ i => rw [show k + (i + 1) = k + 1 + i by omega]; exact t i r hi
theorem nt_tab {w : Jvm.Cond} (h : isNt w = true) : w.onTables = true := by
  cases w <;> first | rfl | (simp [isNt, Cond.faceAtom] at h; done)
theorem nt_warm {w : Jvm.Cond} (h : isNt w = true) {s U : State} (hZ : va_Nw w s) (hW : s.WarmedH U.vm) : va_Nw w U := by
  have key : w.faceAtom = true → va_Nw w U := fun hf => va_tabs (nt_tab h) (rfl : (s.setVm U.vm).vm = U.vm) (Cond.faceAtom_setVm hW.alike w hf hZ)
  cases w <;> first | exact va_Nw.warmF hW hZ | exact va_Nw.warmM hW hZ | exact key h
theorem flags_tr {l : Launch} (h : l.flags = Jvm.pinnedFlags ++ [Jvm.noTraceFlag]) : l.stackTraces = false := by
  unfold Launch.stackTraces
  rw [h]
  simp
theorem str_all {args : Array Value} {s : State} {ws fs : List Jvm.Cond} (hts : ∀ w ∈ ws, w.before args s = true) (hfs : ∀ w ∈ fs, w.before args s = true) (l : List (String × Nat × String))
    (hl : l.all (fun q => ws.contains (.stringRef q.1 q.2.1 q.2.2) && fs.contains (.exactly (.string q.1 q.2.1) "java/lang/String")) = true) : ∀ q ∈ l, ∃ a, vk_R q.1 q.2.1 q.2.2 a s := by
  intro q hq
  obtain ⟨h1, h2⟩ := Bool.and_eq_true_iff.mp (List.all_eq_true.mp hl q hq)
  obtain ⟨a, c, cell, k, h3, -⟩ := Cond.exactly_spec (hfs _ (List.contains_iff_mem.mp h2))
  exact ⟨a, vk_R.of (hts _ (List.contains_iff_mem.mp h1)) h3⟩
theorem nc_all {args : Array Value} {s : State} {fs : List Jvm.Cond} (hfs : ∀ w ∈ fs, w.before args s = true) (l : List (String × String)) (hl : l.all (fun q => fs.contains (.not (.castable q.1 q.2))) = true) : ∀ q ∈ l, va_Nc q.1 q.2 s :=
  fun q hq => va_Nc.of (hfs _ (List.contains_iff_mem.mp (List.all_eq_true.mp hl q hq)))
theorem eq_tm {args : Array Value} {s : State} {tm : Term} {z : Int32} (h : (Jvm.Cond.eq tm (.int z)).before args s = true) : tm.eval args s none [] s = some (.int z) := by
  cases hv : tm.eval args s none [] s with
  | none => simp [Cond.before, Cond.holds, Cond.value, hv] at h
  | some w =>
    have hz : (Term.int z).eval args s none [] s = some (.int z) := rfl
    simp only [Cond.before, Cond.holds, Cond.value, hv, hz] at h
    cases w <;> simp_all
/-- a static that is a row of references, empty -/
theorem em_arr {args : Array Value} {s : State} {C n d T : String} {A : Nat → Prop} (harr : (Jvm.Cond.arrayOf (.static C n d) (.object T)).before args s = true) (hlen : (Jvm.Cond.eq (.length (.static C n d)) (.int 0)).before args s = true) (hA : ∀ a : Nat, a < s.heap.size → ¬ A a) :
    ∃ t : Nat, (Term.static C n d).eval args s none [] s = some (.ref t) ∧ va_T (.object T) t 0 (fun j => va_rf ((fun _ => none) j)) A s s.heap :=
  va_Tof (by decide) harr (eq_tm hlen) (fun j hj => absurd hj (Nat.not_lt_zero _)) hA
/-- the heap of the start: the script, the empty row of ArrayList -/
def h0 (b em L : Nat) (xs : Nat → Int32) : AH := fun a => if a = b then some (.inl (8, L, .inl xs)) else if a = em then some (.inl (9, 0, .inr (.inr (.inr (.inr (fun _ => none)))))) else none
theorem script_ne {b em L N : Nat} {xs : Nat → Int32} {T : String} {f : Nat → Value} {A : Nat → Prop} {s : State} {H : Heap} (h1 : va_X b L xs s H) (h2 : va_T (.object T) em N f A s H) : b ≠ em := by
  rintro rfl
  obtain ⟨c1, g1, ⟨-, k1, g2, comp1, g3⟩, -⟩ := h1
  obtain ⟨c2, e1, ⟨-, k2, e2, comp2, e3⟩, -⟩ := h2
  cases g1.symm.trans e1
  cases g2.symm.trans e2
  cases g3.symm.trans e3
