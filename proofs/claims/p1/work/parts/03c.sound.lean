
/-! SOUNDNESS, 3: cells: fields, arrays, new ones; returns; throws -/
/-- the tables of the classes fit each other -/
def TV (V : EV) (D : TB) : Prop :=
  (∀ (ci : Nat) (r : vw_C), (vcl V)[ci]? = some r → (∀ w ∈ u_ws r.1 r.2.1 r.2.2, w ∈ vTg V) ∧ (D.2.2.1 ci).length = r.2.2 ∧ (∀ k, k < r.2.2 → parseFieldDescriptor (r.2.1 k).2.2.1 = some (D.2.1 ci k)) ∧ (∀ k, k < r.2.2 → defaultValue (D.2.1 ci k) = vp_V (D.2.2.1 ci) k) ∧ ∀ a, a < r.2.2 → ∀ b, b < r.2.2 → a ≠ b → (r.2.1 a).2.1 ≠ (r.2.1 b).2.1) ∧
  ((vty V)[0]?.map (·.2) = some .int ∧ (vty V)[1]?.map (·.2) = some .byte ∧ (∃ C, (vty V)[2]?.map (·.2) = some (.object C)) ∧ (∃ C, (vty V)[3]?.map (·.2) = some (.object C) ∧ C = "java/lang/Object") ∧ (vty V).length = 4) ∧
  (∀ w ∈ vTg V, goodWord w = true) ∧ ∀ w ∈ vNt V, w.onTables = true
theorem RelO.set {V : EV} {h : AH} {ws : va_W} {a q0 : Nat} {e0 : va_E} {e1 : AE} {A : Nat → Prop} (hw : ∀ a e, h a = some e → own8 e → ∃ k : Nat, ws[k]? = some (a, toE V e)) (hq : ws[q0]? = some (a, e0)) (hD : va_D A ws) :
    ∀ b e, hup h a e1 b = some e → own8 e → ∃ k : Nat, (ws.set q0 (a, toE V e1))[k]? = some (b, toE V e) := by
  intro b e hb ho
  have hl := (List.getElem?_eq_some_iff.mp hq).1
  by_cases hba : b = a
  · subst hba
    simp only [hup, if_true] at hb
    cases hb
    exact ⟨q0, List.getElem?_set_self hl⟩
  · simp only [hup, if_neg hba] at hb
    obtain ⟨k, hk⟩ := hw b e hb ho
    refine ⟨k, ?_⟩
    rw [List.getElem?_set_ne]
    · exact hk
    · intro z
      rw [z] at hq
      rw [hk] at hq
      cases hq
      exact hba rfl
theorem RelO.push {V : EV} {h : AH} {ws : va_W} {a : Nat} {e1 : AE} (hw : ∀ a e, h a = some e → own8 e → ∃ k : Nat, ws[k]? = some (a, toE V e)) :
    ∀ b e, hup h a e1 b = some e → own8 e → ∃ k : Nat, (ws ++ [(a, toE V e1)])[k]? = some (b, toE V e) := by
  intro b e hb ho
  by_cases hba : b = a
  · subst hba
    simp only [hup, if_true] at hb
    cases hb
    exact ⟨ws.length, by simp⟩
  · simp only [hup, if_neg hba] at hb
    obtain ⟨k, hk⟩ := hw b e hb ho
    have hl := (List.getElem?_eq_some_iff.mp hk).1
    exact ⟨k, by rw [List.getElem?_append_left hl]; exact hk⟩
theorem RelX.up {V : EV} {h : AH} {s : State} {a : Nat} {e1 : AE} (hX : RelX V h s) (ho : own8 e1) : RelX V (hup h a e1) s := by
  intro b t n g hb ht
  by_cases hba : b = a
  · subst hba
    simp only [hup, if_true] at hb
    cases hb
    exact absurd ht (Nat.not_le.mpr ho)
  · simp only [hup, if_neg hba] at hb
    exact hX b t n g hb ht
/-- a new cell's address is none of the world's -/
theorem RelO.fresh {V : EV} {h : AH} {s : State} {ws : va_W} {q : Nat} {e1 : va_E} (hw : ∀ a e, h a = some e → own8 e → ∃ k : Nat, ws[k]? = some (a, toE V e)) (hX : RelX V h s) (hD : va_D (vA V) (ws ++ [(q, e1)])) : h q = none := by
  cases hq : h q with
  | none => rfl
  | some e =>
    exfalso
    have hlast : (ws ++ [(q, e1)])[ws.length]? = some (q, e1) := by simp
    by_cases ho : own8 e
    · obtain ⟨k, hk⟩ := hw q e hq ho
      have hl := (List.getElem?_eq_some_iff.mp hk).1
      have hk' : (ws ++ [(q, e1)])[k]? = some (q, toE V e) := by rw [List.getElem?_append_left hl]; exact hk
      have := hD.1 k ws.length _ _ hk' hlast rfl
      omega
    · cases e with
      | inr z => exact ho trivial
      | inl z =>
        obtain ⟨t, n, g⟩ := z
        have hXR := hX q t n g hq (Nat.not_lt.mp ho)
        unfold XR at hXR
        have hA : ¬ vA V q := by
          rcases hXR with ⟨_, f, _, hT⟩ | ⟨_, f, _, hT⟩ | ⟨_, f, _, hT⟩ | ⟨_, f, _, hT⟩
          · obtain ⟨_, _, _, _, _, _, _, hA⟩ := hT
            exact hA
          · obtain ⟨_, _, _, _, _, _, _, hA⟩ := hT
            exact hA
          · obtain ⟨_, _, _, _, _, _, _, hA⟩ := hT
            exact hA
          · obtain ⟨_, _, _, _, _, _, _, _, hA⟩ := hT
            exact hA
        exact hA (hD.2 _ _ hlast)
theorem hsame_of {V : EV} {s : State} {args : Array Value} {ref o n de : String} (hts : ∀ w ∈ vTg V, w.before args s = true) (h : ref = o ∨ Jvm.Cond.sameField ref o n de ∈ vTg V) : ∀ x, s.fieldFound? o n de = some x → s.fieldFound? ref n de = some x := by
  rcases h with rfl | h
  · exact fun _ q => q
  · exact fun x q => u_same (hts _ h) x q
theorem s_getf {p : Program} {l : Launch} {e : Env} {s : State} {m : MethodId} {args : Array Value} {below : List Frame} {meth : Method} {c : Code} {V : EV} {D : TB} {y d : Nat} {Qc : Array Value → State → Outcome → State → Prop} {XC : String → State → State → Prop} {pc : Nat} {L : LV} {S : List Value} {h : AH} {bc bs : Nat} (C0 : Cx p l s m args meth c V D y) (T0 : TV V D) {a ci k idx : Nat} {fs : List Value} {v : Value} {r : vw_C} {ref : String} (hh : h a = some (.inr (ci, fs))) (hv : fs[k]? = some v) (hcl : (vcl V)[ci]? = some r) (hk : k < r.2.2)
    (hlink : Jvm.Cond.fieldLink (mOwn D y) idx ref (r.2.1 k).2.1 (r.2.1 k).2.2.1 ∈ vTg V) (hsame : ref = (r.2.1 k).1 ∨ Jvm.Cond.sameField ref (r.2.1 k).1 (r.2.1 k).2.1 (r.2.1 k).2.2.1 ∈ vTg V) (dg : decode (mBytes D y) pc = .ok (.getfield idx, 3))
    (kk : WR p l e s m args below meth c V D y d Qc XC (pc + 3) L (v :: S) h bc bs) : WR p l e s m args below meth c V D y d Qc XC pc L (.ref a :: S) h bc bs := by
  obtain ⟨hx, hb, hml, hr, hlk, hown, hts, hI, hst, hnm, hxt⟩ := C0
  intro H locs cells slots ls hl hO hX hS hc hs
  obtain ⟨ws, hw, hP, hD⟩ := id hO
  obtain ⟨q0, hq⟩ := hw a _ hh trivial
  exact va_get hx hb hts (T0.1 ci r hcl).1 hown hI.1 hP q0 hq hcl k hk (hts _ hlink) (hsame_of hts hsame) hv dg (kk H locs cells slots ls hl hO hX hS hc hs)
theorem s_getfN {p : Program} {l : Launch} {e : Env} {s : State} {m : MethodId} {args : Array Value} {below : List Frame} {meth : Method} {c : Code} {V : EV} {D : TB} {y d : Nat} {Qc : Array Value → State → Outcome → State → Prop} {XC : String → State → State → Prop} {pc : Nat} {L : LV} {S : List Value} {h : AH} {bc bs : Nat} (C0 : Cx p l s m args meth c V D y) (T0 : TV V D) {a ci k idx : Nat} {fs : List Value} {v : Value} {r : vw_C} {ref host : String} (hh : h a = some (.inr (ci, fs))) (hv : fs[k]? = some v) (hcl : (vcl V)[ci]? = some r) (hk : k < r.2.2)
    (hlink : Jvm.Cond.fieldLinkNest (mOwn D y) idx ref (r.2.1 k).2.1 (r.2.1 k).2.2.1 host ∈ vNt V) (hsame : ref = (r.2.1 k).1 ∨ Jvm.Cond.sameField ref (r.2.1 k).1 (r.2.1 k).2.1 (r.2.1 k).2.2.1 ∈ vTg V) (dg : decode (mBytes D y) pc = .ok (.getfield idx, 3))
    (kk : WR p l e s m args below meth c V D y d Qc XC (pc + 3) L (v :: S) h bc bs) : WR p l e s m args below meth c V D y d Qc XC pc L (.ref a :: S) h bc bs := by
  obtain ⟨hx, hb, hml, hr, hlk, hown, hts, hI, hst, hnm, hxt⟩ := C0
  intro H locs cells slots ls hl hO hX hS hc hs
  obtain ⟨ws, hw, hP, hD⟩ := id hO
  obtain ⟨q0, hq⟩ := hw a _ hh trivial
  exact va_getN hx hb hts (T0.1 ci r hcl).1 hown hI.1 hP q0 hq hcl k hk ((hI.2.2.1 _ hlink).use rfl) (hsame_of hts hsame) hv dg (kk H locs cells slots ls hl hO hX hS hc hs)
theorem s_putf {p : Program} {l : Launch} {e : Env} {s : State} {m : MethodId} {args : Array Value} {below : List Frame} {meth : Method} {c : Code} {V : EV} {D : TB} {y d : Nat} {Qc : Array Value → State → Outcome → State → Prop} {XC : String → State → State → Prop} {pc : Nat} {L : LV} {S : List Value} {h : AH} {bc bs : Nat} (C0 : Cx p l s m args meth c V D y) (T0 : TV V D) {a ci k idx : Nat} {fs : List Value} {v : Value} {r : vw_C} {ref : String} (hh : h a = some (.inr (ci, fs))) (hkl : k < fs.length) (hcl : (vcl V)[ci]? = some r) (hk : k < r.2.2) (hn : narrow (D.2.1 ci k) v = v) (hf : fits (D.2.1 ci k) v = true)
    (hlink : Jvm.Cond.fieldLink (mOwn D y) idx ref (r.2.1 k).2.1 (r.2.1 k).2.2.1 ∈ vTg V) (hsame : ref = (r.2.1 k).1 ∨ Jvm.Cond.sameField ref (r.2.1 k).1 (r.2.1 k).2.1 (r.2.1 k).2.2.1 ∈ vTg V) (hfin : (r.2.1 k).2.2.2 = false ∨ ((r.2.1 k).2.2.2 = true ∧ (mName D y).name = "<init>" ∧ (r.2.1 k).1 = mOwn D y)) (dg : decode (mBytes D y) pc = .ok (.putfield idx, 3))
    (kk : WR p l e s m args below meth c V D y d Qc XC (pc + 3) L S (hup h a (.inr (ci, fs.set k v))) bc bs) : WR p l e s m args below meth c V D y d Qc XC pc L (v :: .ref a :: S) h bc bs := by
  obtain ⟨hx, hb, hml, hr, hlk, hown, hts, hI, hst, hnm, hxt⟩ := C0
  intro H locs cells slots ls hl hO hX hS hc hs
  obtain ⟨ws, hw, hP, hD⟩ := id hO
  obtain ⟨q0, hq⟩ := hw a _ hh trivial
  obtain ⟨t1, t2, t3, t4, t5⟩ := T0.1 ci r hcl
  have K : ∀ (H1 : Heap) (locs1 : List Loc), va_P (vG V) (vcl V) (ws.set q0 (a, .inr (ci, fs.set k v))) H1 → va_D (vA V) (ws.set q0 (a, .inr (ci, fs.set k v))) → va_S (vA V) s.heap H1 locs1 → W p l e (rmD D y d) s m args below meth c H1 locs1 cells slots (vx_MQ below Qc XC args s (mBc D y) (mBs D y) (vA V)) (F0 m (pc + 3) ls S) :=
    fun H1 locs1 hP1 hD1 hS1 => kk H1 locs1 cells slots ls hl ⟨_, RelO.set (e1 := .inr (ci, fs.set k v)) hw hq hD, hP1, hD1⟩ (hX.up trivial) hS1 hc hs
  rcases hfin with hfin | ⟨hfin, hin, hdecl⟩
  · exact va_put hx hb hts t1 _ t3 t5 hown hI.1 hP hD hS q0 hq hcl k hk (hts _ hlink) (hsame_of hts hsame) hfin (t3 k hk) hn hf hkl dg K
  · exact va_putF hx hb hts t1 _ t3 t5 hown hI.1 hP hD hS q0 hq hcl k hk (hts _ hlink) (hsame_of hts hsame) hfin (hnm.trans hin) hdecl (t3 k hk) hn hf hkl dg K
theorem s_putfN {p : Program} {l : Launch} {e : Env} {s : State} {m : MethodId} {args : Array Value} {below : List Frame} {meth : Method} {c : Code} {V : EV} {D : TB} {y d : Nat} {Qc : Array Value → State → Outcome → State → Prop} {XC : String → State → State → Prop} {pc : Nat} {L : LV} {S : List Value} {h : AH} {bc bs : Nat} (C0 : Cx p l s m args meth c V D y) (T0 : TV V D) {a ci k idx : Nat} {fs : List Value} {v : Value} {r : vw_C} {ref host : String} (hh : h a = some (.inr (ci, fs))) (hkl : k < fs.length) (hcl : (vcl V)[ci]? = some r) (hk : k < r.2.2) (hn : narrow (D.2.1 ci k) v = v) (hf : fits (D.2.1 ci k) v = true)
    (hlink : Jvm.Cond.fieldLinkNest (mOwn D y) idx ref (r.2.1 k).2.1 (r.2.1 k).2.2.1 host ∈ vNt V) (hsame : ref = (r.2.1 k).1 ∨ Jvm.Cond.sameField ref (r.2.1 k).1 (r.2.1 k).2.1 (r.2.1 k).2.2.1 ∈ vTg V) (hfin : (r.2.1 k).2.2.2 = false) (dg : decode (mBytes D y) pc = .ok (.putfield idx, 3))
    (kk : WR p l e s m args below meth c V D y d Qc XC (pc + 3) L S (hup h a (.inr (ci, fs.set k v))) bc bs) : WR p l e s m args below meth c V D y d Qc XC pc L (v :: .ref a :: S) h bc bs := by
  obtain ⟨hx, hb, hml, hr, hlk, hown, hts, hI, hst, hnm, hxt⟩ := C0
  intro H locs cells slots ls hl hO hX hS hc hs
  obtain ⟨ws, hw, hP, hD⟩ := id hO
  obtain ⟨q0, hq⟩ := hw a _ hh trivial
  obtain ⟨t1, t2, t3, t4, t5⟩ := T0.1 ci r hcl
  exact va_putN hx hb hts t1 _ t3 t5 hown hI.1 hP hD hS q0 hq hcl k hk ((hI.2.2.1 _ hlink).use rfl) (hsame_of hts hsame) hfin (t3 k hk) hn hf hkl dg
    (fun H1 locs1 hP1 hD1 hS1 => kk H1 locs1 cells slots ls hl ⟨_, RelO.set (e1 := .inr (ci, fs.set k v)) hw hq hD, hP1, hD1⟩ (hX.up trivial) hS1 hc hs)
theorem s_gets {p : Program} {l : Launch} {e : Env} {s : State} {m : MethodId} {args : Array Value} {below : List Frame} {meth : Method} {c : Code} {V : EV} {D : TB} {y d : Nat} {Qc : Array Value → State → Outcome → State → Prop} {XC : String → State → State → Prop} {pc : Nat} {L : LV} {S : List Value} {h : AH} {bc bs : Nat} (C0 : Cx p l s m args meth c V D y) {j idx : Nat} {q : String × String × String} {ref : String} (hq : (vZs V)[j]? = some q) (hlink : Jvm.Cond.fieldLink (mOwn D y) idx ref q.2.1 q.2.2 ∈ vTg V) (hsame : ref = q.1 ∨ Jvm.Cond.sameField ref q.1 q.2.1 q.2.2 ∈ vTg V) (dg : decode (mBytes D y) pc = .ok (.getstatic idx, 3))
    (kk : WR p l e s m args below meth c V D y d Qc XC (pc + 3) L (D.2.2.2.2.2.2 j :: S) h bc bs) : WR p l e s m args below meth c V D y d Qc XC pc L S h bc bs := by
  obtain ⟨hx, hb, hml, hr, hlk, hown, hts, hI, hst, hnm, hxt⟩ := C0
  intro H locs cells slots ls hl hO hX hS hc hs
  exact va_gets hx hb (hI.2.2.2.2.1 j q hq) hS hown (hts _ hlink) (hsame_of hts hsame) dg (kk H locs cells slots ls hl hO hX hS hc hs)
theorem vA_new {V : EV} {D : TB} {s : State} (hI : Inv V D s) : ∀ q, s.heap.size ≤ q → vA V q := fun _ h => Nat.le_trans hI.2.1 h
theorem s_new {p : Program} {l : Launch} {e : Env} {s : State} {m : MethodId} {args : Array Value} {below : List Frame} {meth : Method} {c : Code} {V : EV} {D : TB} {y d : Nat} {Qc : Array Value → State → Outcome → State → Prop} {XC : String → State → State → Prop} {pc : Nat} {L : LV} {S : List Value} {h : AH} {bc bs : Nat} (C0 : Cx p l s m args meth c V D y) (T0 : TV V D) {ci idx : Nat} {r : vw_C} (hcl : (vcl V)[ci]? = some r) (hlink : Jvm.Cond.classLink (mOwn D y) idx r.1 ∈ vTg V) (hins : Jvm.Cond.instantiable r.1 r.2.2 ∈ vTg V) (hini : Jvm.Cond.initialized r.1 ∈ vTg V) (h1 : 1 ≤ bc) (h2 : (D.2.2.1 ci).length ≤ bs) (dg : decode (mBytes D y) pc = .ok (.new idx, 3))
    (kk : ∀ a, h a = none → WR p l e s m args below meth c V D y d Qc XC (pc + 3) L (.ref a :: S) (hup h a (.inr (ci, D.2.2.1 ci))) (bc - 1) (bs - (D.2.2.1 ci).length)) : WR p l e s m args below meth c V D y d Qc XC pc L S h bc bs := by
  obtain ⟨hx, hb, hml, hr, hlk, hown, hts, hI, hst, hnm, hxt⟩ := C0
  intro H locs cells slots ls hl hO hX hS hc hs
  obtain ⟨ws, hw, hP, hD⟩ := id hO
  obtain ⟨t1, t2, t3, t4, t5⟩ := T0.1 ci r hcl
  exact va_new hx hb hts t1 _ t3 hown (hts _ hlink) (hts _ hins) (hts _ hini) hI.1 hP hD hS (vA_new hI) hcl t4 (show cells + 1 ≤ mBc D y by omega) (show slots + r.2.2 ≤ mBs D y by omega) dg
    (fun q H1 hP1 hD1 hS1 => kk q (RelO.fresh hw hX hD1) H1 locs (cells + 1) (slots + r.2.2) ls hl ⟨_, RelO.push (e1 := .inr (ci, D.2.2.1 ci)) hw, hP1, hD1⟩ (hX.up trivial) hS1 (by omega) (by omega))
theorem ty_of {V : EV} {t : Nat} {ty : FieldType} (h : (vty V)[t]?.map (·.2) = some ty) : ∃ cA, (vty V)[t]? = some (cA, ty) := by
  cases hq : (vty V)[t]? with
  | none => rw [hq] at h; cases h
  | some q => rw [hq] at h; cases h; exact ⟨q.1, rfl⟩
theorem toE_arr {V : EV} {t : Nat} {x : vp_A} {cA : ClassId} {ty : FieldType} (h : (vty V)[t]? = some (cA, ty)) : toE V (.inl (t, x)) = .inl (cA, x) := by
  simp [toE, h]
theorem last_of {α : Type} (l : List α) (q : α) : (l ++ [q])[l.length]? = some q := by simp
theorem s_newa {p : Program} {l : Launch} {e : Env} {s : State} {m : MethodId} {args : Array Value} {below : List Frame} {meth : Method} {c : Code} {V : EV} {D : TB} {y d : Nat} {Qc : Array Value → State → Outcome → State → Prop} {XC : String → State → State → Prop} {pc : Nat} {L : LV} {S : List Value} {h : AH} {bc bs : Nat} (C0 : Cx p l s m args meth c V D y) (T0 : TV V D) {t : Nat} {at_ : ArrayType} {n : Int32} (ht : (vty V)[t]?.map (·.2) = some (newarray.typeOf at_)) (h8 : t < 8) (hz : ∀ (cA : ClassId) (N : Nat), vp_cell cA (N, .inl (fun _ => 0)) = arrV cA N (fun _ => defaultValue (newarray.typeOf at_))) (hcb : componentBytes (newarray.typeOf at_) ≤ 8) (hra : ∀ (U : State) (a b : ClassId), va_RA U a (newarray.typeOf at_) → va_RA U b (newarray.typeOf at_) → a = b)
    (harr : Jvm.Cond.arrayClass (newarray.typeOf at_) ∈ vTg V) (hn : ¬ n < 0) (hm : n.toNatClampNeg ≤ 1000000) (h1 : 1 ≤ bc) (h2 : n.toNatClampNeg ≤ bs) (dg : decode (mBytes D y) pc = .ok (.newarray at_, 2))
    (kk : ∀ a, h a = none → WR p l e s m args below meth c V D y d Qc XC (pc + 2) L (.ref a :: S) (hup h a (.inl (t, n.toNatClampNeg, .inl (fun _ => 0)))) (bc - 1) (bs - n.toNatClampNeg)) : WR p l e s m args below meth c V D y d Qc XC pc L (.int n :: S) h bc bs := by
  obtain ⟨hx, hb, hml, hr, hlk, hown, hts, hI, hst, hnm, hxt⟩ := C0
  intro H locs cells slots ls hl hO hX hS hc hs
  obtain ⟨ws, hw, hP, hD⟩ := id hO
  obtain ⟨cA0, hcA0⟩ := ty_of ht
  exact va_newa hx hb (hts _ harr) rfl hI.1 hP hD hS (vA_new hI) (a0 := (n.toNatClampNeg, .inl (fun _ => 0))) (fun cA => hz cA _) hn rfl (Nat.le_trans (Nat.mul_le_mul hm hcb) (by decide)) (show cells + 1 ≤ mBc D y by omega) (show slots + n.toNatClampNeg ≤ mBs D y by omega) dg
    (fun q cA H1 hK1 hP1 hD1 hS1 => by
      have e : cA0 = cA := hra s _ _ (hI.1.2 t _ hcA0).2 (hK1.2 _ _ (last_of (vty V) (cA, newarray.typeOf at_))).2
      subst e
      rw [← toE_arr hcA0] at hP1 hD1
      exact kk q (RelO.fresh hw hX hD1) H1 locs (cells + 1) (slots + n.toNatClampNeg) ls hl ⟨_, RelO.push (e1 := .inl (t, n.toNatClampNeg, .inl (fun _ => 0))) hw, hP1, hD1⟩ (hX.up h8) hS1 (by omega) (by omega))
theorem s_newq {p : Program} {l : Launch} {e : Env} {s : State} {m : MethodId} {args : Array Value} {below : List Frame} {meth : Method} {c : Code} {V : EV} {D : TB} {y d : Nat} {Qc : Array Value → State → Outcome → State → Prop} {XC : String → State → State → Prop} {pc : Nat} {L : LV} {S : List Value} {h : AH} {bc bs : Nat} (C0 : Cx p l s m args meth c V D y) (T0 : TV V D) {t idx : Nat} {C : String} {n : Int32} (ht : (vty V)[t]?.map (·.2) = some (.object C)) (h8 : t < 8) (hlink : Jvm.Cond.classLink (mOwn D y) idx C ∈ vTg V) (hn : ¬ n < 0) (hm : n.toNatClampNeg ≤ 1000000) (h1 : 1 ≤ bc) (h2 : n.toNatClampNeg ≤ bs) (dg : decode (mBytes D y) pc = .ok (.anewarray idx, 3))
    (kk : ∀ a, h a = none → WR p l e s m args below meth c V D y d Qc XC (pc + 3) L (.ref a :: S) (hup h a (.inl (t, n.toNatClampNeg, .inr (.inr (.inr (.inr (fun _ => none))))))) (bc - 1) (bs - n.toNatClampNeg)) : WR p l e s m args below meth c V D y d Qc XC pc L (.int n :: S) h bc bs := by
  obtain ⟨hx, hb, hml, hr, hlk, hown, hts, hI, hst, hnm, hxt⟩ := C0
  intro H locs cells slots ls hl hO hX hS hc hs
  obtain ⟨ws, hw, hP, hD⟩ := id hO
  obtain ⟨cA0, hcA0⟩ := ty_of ht
  exact va_newq hx hb hown (hts _ hlink) (hI.2.2.2.2.2.2.2.2.1 t cA0 C hcA0) hI.1 hP hD hS (vA_new hI) hn rfl (Nat.le_trans (Nat.mul_le_mul_right 4 hm) (by decide)) (show cells + 1 ≤ mBc D y by omega) (show slots + n.toNatClampNeg ≤ mBs D y by omega) dg
    (fun q cA H1 hK1 hP1 hD1 hS1 => by
      have e : cA0 = cA := by
        obtain ⟨_, _, _, _, _, a4⟩ := (hI.1.2 t _ hcA0).2
        obtain ⟨_, _, _, _, _, b4⟩ := (hK1.2 _ _ (last_of (vty V) (cA, .object C))).2
        exact Option.some.inj (a4.symm.trans b4)
      subst e
      rw [← toE_arr hcA0] at hP1 hD1
      exact kk q (RelO.fresh hw hX hD1) H1 locs (cells + 1) (slots + n.toNatClampNeg) ls hl ⟨_, RelO.push (e1 := .inl (t, n.toNatClampNeg, .inr (.inr (.inr (.inr (fun _ => none)))))) hw, hP1, hD1⟩ (hX.up h8) hS1 (by omega) (by omega))
theorem ty_any {V : EV} {D : TB} (T0 : TV V D) {t : Nat} (h : t < 4) : ∃ cA ty, (vty V)[t]? = some (cA, ty) := by
  have hl : t < (vty V).length := by rw [T0.2.1.2.2.2.2]; exact h
  exact ⟨(vty V)[t].1, (vty V)[t].2, by simp [hl]⟩
theorem s_alen {p : Program} {l : Launch} {e : Env} {s : State} {m : MethodId} {args : Array Value} {below : List Frame} {meth : Method} {c : Code} {V : EV} {D : TB} {y d : Nat} {Qc : Array Value → State → Outcome → State → Prop} {XC : String → State → State → Prop} {pc : Nat} {L : LV} {S : List Value} {h : AH} {bc bs : Nat} (C0 : Cx p l s m args meth c V D y) (T0 : TV V D) {a t n : Nat} {g} (hh : h a = some (.inl (t, n, g))) (ht : t < 4 ∨ (8 ≤ t ∧ t < 11)) (dg : decode (mBytes D y) pc = .ok (.arraylength, 1)) (kk : WR p l e s m args below meth c V D y d Qc XC (pc + 1) L (.int (Int32.ofNat n) :: S) h bc bs) : WR p l e s m args below meth c V D y d Qc XC pc L (.ref a :: S) h bc bs := by
  obtain ⟨hx, hb, hml, hr, hlk, hown, hts, hI, hst, hnm, hxt⟩ := C0
  intro H locs cells slots ls hl hO hX hS hc hs
  have K := kk H locs cells slots ls hl hO hX hS hc hs
  rcases ht with ht | ht
  · obtain ⟨ws, hw, hP, hD⟩ := id hO
    obtain ⟨cA, ty, hcA⟩ := ty_any T0 ht
    obtain ⟨q0, hq⟩ := hw a _ hh (show t < 8 by omega)
    rw [toE_arr hcA] at hq
    exact va_alen hx hb hI.1 hP q0 t hq hcA rfl dg K
  · have hXR := hX a t n g hh ht.1
    unfold XR at hXR
    rcases hXR with ⟨_, f, _, hT⟩ | ⟨_, f, _, hT⟩ | ⟨_, f, _, hT⟩ | ⟨e, -⟩
    · exact va_tlen hx hb hT hS rfl dg K
    · exact va_tlen hx hb hT hS rfl dg K
    · exact va_tlen hx hb hT hS rfl dg K
    · omega
theorem s_iald {p : Program} {l : Launch} {e : Env} {s : State} {m : MethodId} {args : Array Value} {below : List Frame} {meth : Method} {c : Code} {V : EV} {D : TB} {y d : Nat} {Qc : Array Value → State → Outcome → State → Prop} {XC : String → State → State → Prop} {pc : Nat} {L : LV} {S : List Value} {h : AH} {bc bs : Nat} (C0 : Cx p l s m args meth c V D y) (T0 : TV V D) {a t n : Nat} {f : Nat → Int32} {i : Int32} (hh : h a = some (.inl (t, n, .inl f))) (ht : t = 0 ∨ t = 8) (hin : vp_in i n) (dg : decode (mBytes D y) pc = .ok (.iaload, 1)) (kk : WR p l e s m args below meth c V D y d Qc XC (pc + 1) L (.int (f i.toNatClampNeg) :: S) h bc bs) : WR p l e s m args below meth c V D y d Qc XC pc L (.int i :: .ref a :: S) h bc bs := by
  obtain ⟨hx, hb, hml, hr, hlk, hown, hts, hI, hst, hnm, hxt⟩ := C0
  intro H locs cells slots ls hl hO hX hS hc hs
  have K := kk H locs cells slots ls hl hO hX hS hc hs
  rcases ht with rfl | rfl
  · obtain ⟨ws, hw, hP, hD⟩ := id hO
    obtain ⟨cA, hcA⟩ := ty_of T0.2.1.1
    obtain ⟨q0, hq⟩ := hw a _ hh (show 0 < 8 by omega)
    rw [toE_arr hcA] at hq
    exact va_iald hx hb hI.1 hP q0 0 hq hcA hin dg K
  · have hXR := hX a 8 n _ hh (Nat.le_refl _)
    unfold XR at hXR
    rcases hXR with ⟨-, g, hg, hT⟩ | ⟨h9, -⟩ | ⟨h9, -⟩ | ⟨h9, -⟩
    · cases hg
      exact va_ti hx hb hT hS hin rfl dg K
    · omega
    · omega
    · omega
theorem s_bald {p : Program} {l : Launch} {e : Env} {s : State} {m : MethodId} {args : Array Value} {below : List Frame} {meth : Method} {c : Code} {V : EV} {D : TB} {y d : Nat} {Qc : Array Value → State → Outcome → State → Prop} {XC : String → State → State → Prop} {pc : Nat} {L : LV} {S : List Value} {h : AH} {bc bs : Nat} (C0 : Cx p l s m args meth c V D y) (T0 : TV V D) {a n : Nat} {f : Nat → Int32} {i : Int32} (hh : h a = some (.inl (1, n, .inl f))) (hin : vp_in i n) (dg : decode (mBytes D y) pc = .ok (.baload, 1)) (kk : WR p l e s m args below meth c V D y d Qc XC (pc + 1) L (.int (f i.toNatClampNeg) :: S) h bc bs) : WR p l e s m args below meth c V D y d Qc XC pc L (.int i :: .ref a :: S) h bc bs := by
  obtain ⟨hx, hb, hml, hr, hlk, hown, hts, hI, hst, hnm, hxt⟩ := C0
  intro H locs cells slots ls hl hO hX hS hc hs
  have K := kk H locs cells slots ls hl hO hX hS hc hs
  obtain ⟨ws, hw, hP, hD⟩ := id hO
  obtain ⟨cA, hcA⟩ := ty_of T0.2.1.2.1
  obtain ⟨q0, hq⟩ := hw a _ hh (show 1 < 8 by omega)
  rw [toE_arr hcA] at hq
  exact va_bald hx hb hI.1 hP q0 1 hq hcA hin dg K
theorem s_iast {p : Program} {l : Launch} {e : Env} {s : State} {m : MethodId} {args : Array Value} {below : List Frame} {meth : Method} {c : Code} {V : EV} {D : TB} {y d : Nat} {Qc : Array Value → State → Outcome → State → Prop} {XC : String → State → State → Prop} {pc : Nat} {L : LV} {S : List Value} {h : AH} {bc bs : Nat} (C0 : Cx p l s m args meth c V D y) (T0 : TV V D) {a n : Nat} {f : Nat → Int32} {i x : Int32} (hh : h a = some (.inl (0, n, .inl f))) (hin : vp_in i n) (dg : decode (mBytes D y) pc = .ok (.iastore, 1)) (kk : WR p l e s m args below meth c V D y d Qc XC (pc + 1) L S (hup h a (.inl (0, n, .inl (upd f i.toNatClampNeg x)))) bc bs) : WR p l e s m args below meth c V D y d Qc XC pc L (.int x :: .int i :: .ref a :: S) h bc bs := by
  obtain ⟨hx, hb, hml, hr, hlk, hown, hts, hI, hst, hnm, hxt⟩ := C0
  intro H locs cells slots ls hl hO hX hS hc hs
  obtain ⟨ws, hw, hP, hD⟩ := id hO
  obtain ⟨cA, hcA⟩ := ty_of T0.2.1.1
  obtain ⟨q0, hq⟩ := hw a _ hh (show 0 < 8 by omega)
  have hq' := hq
  rw [toE_arr hcA] at hq'
  refine va_iast hx hb hI.1 hP hD hS q0 0 hq' hcA hin dg (fun H1 locs1 hP1 hD1 hS1 => ?_)
  rw [← toE_arr hcA] at hP1 hD1
  exact kk H1 locs1 cells slots ls hl ⟨_, RelO.set hw hq hD, hP1, hD1⟩ (hX.up (show 0 < 8 by omega)) hS1 hc hs
theorem s_bast {p : Program} {l : Launch} {e : Env} {s : State} {m : MethodId} {args : Array Value} {below : List Frame} {meth : Method} {c : Code} {V : EV} {D : TB} {y d : Nat} {Qc : Array Value → State → Outcome → State → Prop} {XC : String → State → State → Prop} {pc : Nat} {L : LV} {S : List Value} {h : AH} {bc bs : Nat} (C0 : Cx p l s m args meth c V D y) (T0 : TV V D) {a n : Nat} {f : Nat → Int32} {i x : Int32} (hh : h a = some (.inl (1, n, .inl f))) (hin : vp_in i n) (dg : decode (mBytes D y) pc = .ok (.bastore, 1)) (kk : WR p l e s m args below meth c V D y d Qc XC (pc + 1) L S (hup h a (.inl (1, n, .inl (upd f i.toNatClampNeg (vp_nar .byte x))))) bc bs) : WR p l e s m args below meth c V D y d Qc XC pc L (.int x :: .int i :: .ref a :: S) h bc bs := by
  obtain ⟨hx, hb, hml, hr, hlk, hown, hts, hI, hst, hnm, hxt⟩ := C0
  intro H locs cells slots ls hl hO hX hS hc hs
  obtain ⟨ws, hw, hP, hD⟩ := id hO
  obtain ⟨cA, hcA⟩ := ty_of T0.2.1.2.1
  obtain ⟨q0, hq⟩ := hw a _ hh (show 1 < 8 by omega)
  have hq' := hq
  rw [toE_arr hcA] at hq'
  refine va_bast hx hb hI.1 hP hD hS q0 1 hq' hcA hin dg (fun H1 locs1 hP1 hD1 hS1 => ?_)
  rw [← toE_arr hcA] at hP1 hD1
  exact kk H1 locs1 cells slots ls hl ⟨_, RelO.set hw hq hD, hP1, hD1⟩ (hX.up (show 1 < 8 by omega)) hS1 hc hs
theorem ty_obj {V : EV} {D : TB} (T0 : TV V D) {t : Nat} (h : t = 2 ∨ t = 3) : ∃ cA C, (vty V)[t]? = some (cA, .object C) := by
  rcases h with rfl | rfl
  · obtain ⟨C, hC⟩ := T0.2.1.2.2.1
    obtain ⟨cA, hcA⟩ := ty_of hC
    exact ⟨cA, C, hcA⟩
  · obtain ⟨C, hC, -⟩ := T0.2.1.2.2.2.1
    obtain ⟨cA, hcA⟩ := ty_of hC
    exact ⟨cA, C, hcA⟩
theorem s_aald {p : Program} {l : Launch} {e : Env} {s : State} {m : MethodId} {args : Array Value} {below : List Frame} {meth : Method} {c : Code} {V : EV} {D : TB} {y d : Nat} {Qc : Array Value → State → Outcome → State → Prop} {XC : String → State → State → Prop} {pc : Nat} {L : LV} {S : List Value} {h : AH} {bc bs : Nat} (C0 : Cx p l s m args meth c V D y) (T0 : TV V D) {a t n : Nat} {f : Nat → Option Nat} {i : Int32} (hh : h a = some (.inl (t, n, .inr (.inr (.inr (.inr f)))))) (ht : (t = 2 ∨ t = 3) ∨ t = 10) (hin : vp_in i n) (dg : decode (mBytes D y) pc = .ok (.aaload, 1)) (kk : WR p l e s m args below meth c V D y d Qc XC (pc + 1) L (va_rf (f i.toNatClampNeg) :: S) h bc bs) : WR p l e s m args below meth c V D y d Qc XC pc L (.int i :: .ref a :: S) h bc bs := by
  obtain ⟨hx, hb, hml, hr, hlk, hown, hts, hI, hst, hnm, hxt⟩ := C0
  intro H locs cells slots ls hl hO hX hS hc hs
  have K := kk H locs cells slots ls hl hO hX hS hc hs
  rcases ht with ht | rfl
  · obtain ⟨ws, hw, hP, hD⟩ := id hO
    obtain ⟨cA, C, hcA⟩ := ty_obj T0 ht
    obtain ⟨q0, hq⟩ := hw a _ hh (show t < 8 by omega)
    rw [toE_arr hcA] at hq
    exact va_aldq hx hb hI.1 hP q0 t hq hcA hin dg K
  · have hXR := hX a 10 n _ hh (by omega)
    unfold XR at hXR
    rcases hXR with ⟨e, -⟩ | ⟨e, -⟩ | ⟨-, g, hg, hT⟩ | ⟨e, -⟩
    · omega
    · omega
    · cases hg
      exact vb_tq hx hb hT hS hin rfl dg K
    · omega
/-- what the tables must say for a store into an array of references -/
def StOk (V : EV) (D : TB) : Prop := (∀ (t ci : Nat) (cA : ClassId) (C : String), (vty V)[t]? = some (cA, .object C) → D.2.2.2.1 t ci = true → ∃ r, (vcl V)[ci]? = some r ∧ (r.1 = C ∨ Jvm.Cond.castable r.1 C ∈ vNt V)) ∧ (∀ (t : Nat) (cA : ClassId) (C : String), (vty V)[t]? = some (cA, .object C) → D.2.2.2.1 (t + 100) 0 = true → Jvm.Cond.castable "[I" C ∈ vNt V)
