/-! SOUNDNESS, 4: casts, ends, throws, calls -/
def xn : Nat → String
  | 0 => "java/lang/IllegalArgumentException"
  | 1 => "java/lang/IllegalStateException"
  | _ => "java/lang/IndexOutOfBoundsException"
def QN (V : EV) (Q : RS → AH → Prop) : Array Value → State → Outcome → State → Prop := fun _ st o t => (∃ v h', o = .returned v ∧ Q (.inl v) h' ∧ RelO V h' t.heap ∧ RelX V h' t) ∧ va_F (vA V) st t
def QX (V : EV) (Q : RS → AH → Prop) : String → State → State → Prop := fun E st t => (∃ k h', E = xn k ∧ Q (.inr k) h' ∧ RelO V h' t.heap ∧ RelX V h' t) ∧ va_F (vA V) st t
theorem RelX.move {V : EV} {h : AH} {s t : State} (hX : RelX V h s) (hal : s.vm.Alike t.vm) (hk : ∀ q : Nat, ¬ vA V q → t.heap[q]? = s.heap[q]?) : RelX V h t := by
  intro a t' n g ha ht
  have hXR := hX a t' n g ha ht
  unfold XR at hXR ⊢
  rcases hXR with ⟨e, f, e2, hT⟩ | ⟨e, f, e2, hT⟩ | ⟨e, f, e2, hT⟩ | ⟨e, f, e2, hT⟩
  · exact Or.inl ⟨e, f, e2, va_T.kept (va_T.moved hal hT) (fun q _ hq => hk q hq)⟩
  · exact Or.inr (Or.inl ⟨e, f, e2, va_T.kept (va_T.moved hal hT) (fun q _ hq => hk q hq)⟩)
  · exact Or.inr (Or.inr (Or.inl ⟨e, f, e2, va_T.kept (va_T.moved hal hT) (fun q _ hq => hk q hq)⟩))
  · obtain ⟨r, cell, h1, h2, h3, h4, h5, h6, h7⟩ := hT
    exact Or.inr (Or.inr (Or.inr ⟨e, f, e2, r, cell, h1, by rw [hk a h7]; exact h2, h3, h4, by rw [hal.findClass]; exact h5, h6, h7⟩))
theorem vA_all {V : EV} {D : TB} {s : State} {H : Heap} {locs : List Loc} (hI : Inv V D s) (hS : va_S (vA V) s.heap H locs) : ∀ q : Nat, ¬ vA V q → H[q]? = s.heap[q]? := by
  intro q hq
  rcases Nat.lt_or_ge q s.heap.size with hlt | hge
  · exact hS.2.1 q hlt hq
  · exact absurd (vA_new hI q hge) hq
/-- a receiver, new or old -/
theorem w_recv {V : EV} {D : TB} {s : State} {h : AH} {H : Heap} {locs : List Loc} (hI : Inv V D s) (hO : RelO V h H) (hX : RelX V h s) (hS : va_S (vA V) s.heap H locs) {b ci : Nat} {r : vw_C} (hcl : (vcl V)[ci]? = some r) (hb : isK (h b) ci) : ∃ cellB : Cell, H[b]? = some cellB ∧ cellB.vm.isStatics = false ∧ s.vm.findClass r.1 = some cellB.cls := by
  obtain ⟨ws, hw, hP, hD⟩ := hO
  unfold isK at hb
  split at hb
  · rename_i c fs hbe
    subst hb
    obtain ⟨q0, hq⟩ := hw b _ hbe trivial
    exact va_recv hI.1 hP hcl hq
  · rename_i t c g hbe
    obtain ⟨rfl, rfl⟩ := hb
    have hXR := hX b 11 c g hbe (by omega)
    unfold XR at hXR
    rcases hXR with ⟨e, -⟩ | ⟨e, -⟩ | ⟨e, -⟩ | ⟨-, f, -, r', cell, h1, h2, h3, h4, h5, h6, h7⟩
    · omega
    · omega
    · omega
    · cases h1.symm.trans hcl
      exact ⟨cell, by rw [vA_all hI hS b h7]; exact h2, h3, h5⟩
  · exact hb.elim
theorem s_castO {p : Program} {l : Launch} {e : Env} {s : State} {m : MethodId} {args : Array Value} {below : List Frame} {meth : Method} {c : Code} {V : EV} {D : TB} {y d : Nat} {Qc : Array Value → State → Outcome → State → Prop} {XC : String → State → State → Prop} {pc : Nat} {L : LV} {S : List Value} {h : AH} {bc bs : Nat} (C0 : Cx p l s m args meth c V D y) {a ci idx : Nat} {r : vw_C} (hh : isK (h a) ci) (hcl : (vcl V)[ci]? = some r) (hlink : Jvm.Cond.classLink (mOwn D y) idx r.1 ∈ vTg V) (dg : decode (mBytes D y) pc = .ok (.checkcast idx, 3))
    (kk : WR p l e s m args below meth c V D y d Qc XC (pc + 3) L (.ref a :: S) h bc bs) : WR p l e s m args below meth c V D y d Qc XC pc L (.ref a :: S) h bc bs := by
  obtain ⟨hx, hb, hml, hr, hlk, hown, hts, hI, hst, hnm, hxt⟩ := C0
  intro H locs cells slots ls hl hO hX hS hc hs
  exact va_castE hx hb hown (hts _ hlink) (w_recv hI hO hX hS hcl hh) dg (kk H locs cells slots ls hl hO hX hS hc hs)
theorem s_instO {p : Program} {l : Launch} {e : Env} {s : State} {m : MethodId} {args : Array Value} {below : List Frame} {meth : Method} {c : Code} {V : EV} {D : TB} {y d : Nat} {Qc : Array Value → State → Outcome → State → Prop} {XC : String → State → State → Prop} {pc : Nat} {L : LV} {S : List Value} {h : AH} {bc bs : Nat} (C0 : Cx p l s m args meth c V D y) {a ci idx : Nat} {r : vw_C} (hh : isK (h a) ci) (hcl : (vcl V)[ci]? = some r) (hlink : Jvm.Cond.classLink (mOwn D y) idx r.1 ∈ vTg V) (dg : decode (mBytes D y) pc = .ok (.instanceof idx, 3))
    (kk : WR p l e s m args below meth c V D y d Qc XC (pc + 3) L (.int 1 :: S) h bc bs) : WR p l e s m args below meth c V D y d Qc XC pc L (.ref a :: S) h bc bs := by
  obtain ⟨hx, hb, hml, hr, hlk, hown, hts, hI, hst, hnm, hxt⟩ := C0
  intro H locs cells slots ls hl hO hX hS hc hs
  exact va_instE hx hb hown (hts _ hlink) (w_recv hI hO hX hS hcl hh) dg (kk H locs cells slots ls hl hO hX hS hc hs)
theorem s_getfO {p : Program} {l : Launch} {e : Env} {s : State} {m : MethodId} {args : Array Value} {below : List Frame} {meth : Method} {c : Code} {V : EV} {D : TB} {y d : Nat} {Qc : Array Value → State → Outcome → State → Prop} {XC : String → State → State → Prop} {pc : Nat} {L : LV} {S : List Value} {h : AH} {bc bs : Nat} (C0 : Cx p l s m args meth c V D y) (T0 : TV V D) {a ci idx : Nat} {g : Nat → Int32} {r : vw_C} {ref : String} (hh : h a = some (.inl (11, ci, .inl g))) (hcl : (vcl V)[ci]? = some r) (hk : 0 < r.2.2)
    (hlink : Jvm.Cond.fieldLink (mOwn D y) idx ref (r.2.1 0).2.1 (r.2.1 0).2.2.1 ∈ vTg V) (hsame : ref = (r.2.1 0).1 ∨ Jvm.Cond.sameField ref (r.2.1 0).1 (r.2.1 0).2.1 (r.2.1 0).2.2.1 ∈ vTg V) (dg : decode (mBytes D y) pc = .ok (.getfield idx, 3))
    (kk : WR p l e s m args below meth c V D y d Qc XC (pc + 3) L (.int (g 0) :: S) h bc bs) : WR p l e s m args below meth c V D y d Qc XC pc L (.ref a :: S) h bc bs := by
  obtain ⟨hx, hb, hml, hr, hlk, hown, hts, hI, hst, hnm, hxt⟩ := C0
  intro H locs cells slots ls hl hO hX hS hc hs
  have hXR := hX a 11 ci _ hh (by omega)
  unfold XR at hXR
  rcases hXR with ⟨e, -⟩ | ⟨e, -⟩ | ⟨e, -⟩ | ⟨-, f, hf, r', cell, h1, h2, h3, h4, h5, h6, h7⟩
  · omega
  · omega
  · omega
  · cases hf
    cases h1.symm.trans hcl
    obtain ⟨hSl, hfc, kC, hkC, hkind⟩ := hI.1.1 ci _ hcl
    obtain ⟨cf, kf, fi, f', hi, hsl⟩ := hSl 0 hk
    exact W.getf hx hb hown (hts _ hlink) (hsame_of hts hsame _ hi) (u_facts hfc hkC (u_lays hts (T0.1 ci r hcl).1 hk) hi).1 (by rw [vA_all hI hS a h7]; exact h2) h4 (v := .int (g 0)) (by rw [hsl]; exact h6) rfl rfl dg (kk H locs cells slots ls hl hO hX hS hc hs)
theorem s_getfON {p : Program} {l : Launch} {e : Env} {s : State} {m : MethodId} {args : Array Value} {below : List Frame} {meth : Method} {c : Code} {V : EV} {D : TB} {y d : Nat} {Qc : Array Value → State → Outcome → State → Prop} {XC : String → State → State → Prop} {pc : Nat} {L : LV} {S : List Value} {h : AH} {bc bs : Nat} (C0 : Cx p l s m args meth c V D y) (T0 : TV V D) {a ci idx : Nat} {g : Nat → Int32} {r : vw_C} {ref host : String} (hh : h a = some (.inl (11, ci, .inl g))) (hcl : (vcl V)[ci]? = some r) (hk : 0 < r.2.2)
    (hlink : Jvm.Cond.fieldLinkNest (mOwn D y) idx ref (r.2.1 0).2.1 (r.2.1 0).2.2.1 host ∈ vNt V) (hsame : ref = (r.2.1 0).1 ∨ Jvm.Cond.sameField ref (r.2.1 0).1 (r.2.1 0).2.1 (r.2.1 0).2.2.1 ∈ vTg V) (dg : decode (mBytes D y) pc = .ok (.getfield idx, 3))
    (kk : WR p l e s m args below meth c V D y d Qc XC (pc + 3) L (.int (g 0) :: S) h bc bs) : WR p l e s m args below meth c V D y d Qc XC pc L (.ref a :: S) h bc bs := by
  obtain ⟨hx, hb, hml, hr, hlk, hown, hts, hI, hst, hnm, hxt⟩ := C0
  intro H locs cells slots ls hl hO hX hS hc hs
  have hXR := hX a 11 ci _ hh (by omega)
  unfold XR at hXR
  rcases hXR with ⟨e, -⟩ | ⟨e, -⟩ | ⟨e, -⟩ | ⟨-, f, hf, r', cell, h1, h2, h3, h4, h5, h6, h7⟩
  · omega
  · omega
  · omega
  · cases hf
    cases h1.symm.trans hcl
    obtain ⟨hSl, hfc, kC, hkC, hkind⟩ := hI.1.1 ci _ hcl
    obtain ⟨cf, kf, fi, f', hi, hsl⟩ := hSl 0 hk
    exact va_Wgetf hx hb hown ((hI.2.2.1 _ hlink).use rfl) (hsame_of hts hsame _ hi) (u_facts hfc hkC (u_lays hts (T0.1 ci r hcl).1 hk) hi).1 (by rw [vA_all hI hS a h7]; exact h2) h4 (v := .int (g 0)) (by rw [hsl]; exact h6) rfl rfl dg (kk H locs cells slots ls hl hO hX hS hc hs)
theorem s_aast {p : Program} {l : Launch} {e : Env} {s : State} {m : MethodId} {args : Array Value} {below : List Frame} {meth : Method} {c : Code} {V : EV} {D : TB} {y d : Nat} {Qc : Array Value → State → Outcome → State → Prop} {XC : String → State → State → Prop} {pc : Nat} {L : LV} {S : List Value} {h : AH} {bc bs : Nat} (C0 : Cx p l s m args meth c V D y) (T0 : TV V D) (T1 : StOk V D) {a t n : Nat} {f : Nat → Option Nat} {i : Int32} {v : Option Nat} (hh : h a = some (.inl (t, n, .inr (.inr (.inr (.inr f)))))) (ht : t = 2 ∨ t = 3) (hin : vp_in i n) (hv : ∀ b, v = some b → storS D t (h b)) (dg : decode (mBytes D y) pc = .ok (.aastore, 1))
    (kk : WR p l e s m args below meth c V D y d Qc XC (pc + 1) L S (hup h a (.inl (t, n, .inr (.inr (.inr (.inr (va_up f i.toNatClampNeg v))))))) bc bs) : WR p l e s m args below meth c V D y d Qc XC pc L (va_rf v :: .int i :: .ref a :: S) h bc bs := by
  obtain ⟨hx, hb, hml, hr, hlk, hown, hts, hI, hst, hnm, hxt⟩ := C0
  intro H locs cells slots ls hl hO hX hS hc hs
  obtain ⟨ws, hw, hP, hD⟩ := id hO
  obtain ⟨cA, C, hcA⟩ := ty_obj T0 ht
  have h8 : t < 8 := by omega
  obtain ⟨q0, hq⟩ := hw a _ hh h8
  have hq' := hq
  rw [toE_arr hcA] at hq'
  have K : ∀ (H1 : Heap) (locs1 : List Loc), va_P (vG V) (vcl V) (ws.set q0 (a, .inl (cA, n, .inr (.inr (.inr (.inr (va_up f i.toNatClampNeg v))))))) H1 → va_D (vA V) (ws.set q0 (a, .inl (cA, n, .inr (.inr (.inr (.inr (va_up f i.toNatClampNeg v))))))) → va_S (vA V) s.heap H1 locs1 → W p l e (rmD D y d) s m args below meth c H1 locs1 cells slots (vx_MQ below Qc XC args s (mBc D y) (mBs D y) (vA V)) (F0 m (pc + 1) ls S) := by
    intro H1 locs1 hP1 hD1 hS1
    rw [← toE_arr hcA] at hP1 hD1
    exact kk H1 locs1 cells slots ls hl ⟨_, RelO.set hw hq hD, hP1, hD1⟩ (hX.up h8) hS1 hc hs
  cases v with
  | none => exact va_astqN hx hb hI.1 hP hD hS q0 t hq' hcA hin dg K
  | some b =>
    have hb' := hv b rfl
    unfold storS at hb'
    split at hb'
    · rename_i ci fs hbe
      obtain ⟨r, hr1, hr2⟩ := T1.1 t ci cA C hcA hb'
      obtain ⟨qk, hqk⟩ := hw b _ hbe trivial
      rcases hr2 with hr2 | hr2
      · subst hr2
        exact va_astq hx hb hI.1 hP hD hS q0 t qk ci hq' hcA hqk hr1 hin dg K
      · exact va_astqO hx hb hI.1 hP hD hS q0 t qk ci hq' hcA (hI.2.2.1 _ hr2) hqk hr1 hin dg K
    · rename_i k n' g' hbe
      rcases hb' with ⟨rfl, hb'⟩ | ⟨rfl, hb'⟩
      · obtain ⟨r, hr1, hr2⟩ := T1.1 t n' cA C hcA hb'
        refine vb_astq (C := r.1) hx hb hI.1 hP hD hS q0 t hq' hcA (w_recv hI hO hX hS hr1 (by rw [hbe]; exact ⟨rfl, rfl⟩)) (fun comp c0 e1 e2 => ?_) hin dg K
        rcases hr2 with hr2 | hr2
        · exact vb_asgS (C := r.1) comp c0 (by rw [hr2]; exact e1) e2
        · exact vb_asgC (hI.2.2.1 _ hr2) comp c0 e1 e2
      · obtain ⟨c0, hc0⟩ := ty_of T0.2.1.1
        obtain ⟨qk, hqk⟩ := hw b _ hbe (show 0 < 8 by omega)
        rw [toE_arr hc0] at hqk
        exact vb_astq (C := "[I") hx hb hI.1 hP hD hS q0 t hq' hcA ⟨_, hP qk _ hqk, (by rcases g' with g' | g' | g' | g' | g' <;> rfl), (by rw [va_nm_int (hI.1.2 0 _ hc0).2]; rcases g' with g' | g' | g' | g' | g' <;> rfl)⟩ (fun comp c1 e1 e2 => vb_asgC (hI.2.2.1 _ (T1.2 t cA C hcA hb')) comp c1 e1 e2) hin dg K
    · exact hb'.elim
theorem s_castE {p : Program} {l : Launch} {e : Env} {s : State} {m : MethodId} {args : Array Value} {below : List Frame} {meth : Method} {c : Code} {V : EV} {D : TB} {y d : Nat} {Qc : Array Value → State → Outcome → State → Prop} {XC : String → State → State → Prop} {pc : Nat} {L : LV} {S : List Value} {h : AH} {bc bs : Nat} (C0 : Cx p l s m args meth c V D y) (T0 : TV V D) {a ci idx : Nat} {fs : List Value} {r : vw_C} (hh : h a = some (.inr (ci, fs))) (hcl : (vcl V)[ci]? = some r) (hlink : Jvm.Cond.classLink (mOwn D y) idx r.1 ∈ vTg V) (dg : decode (mBytes D y) pc = .ok (.checkcast idx, 3))
    (kk : WR p l e s m args below meth c V D y d Qc XC (pc + 3) L (.ref a :: S) h bc bs) : WR p l e s m args below meth c V D y d Qc XC pc L (.ref a :: S) h bc bs := by
  obtain ⟨hx, hb, hml, hr, hlk, hown, hts, hI, hst, hnm, hxt⟩ := C0
  intro H locs cells slots ls hl hO hX hS hc hs
  obtain ⟨ws, hw, hP, hD⟩ := id hO
  obtain ⟨q0, hq⟩ := hw a _ hh trivial
  exact va_castE hx hb hown (hts _ hlink) (va_recv hI.1 hP hcl hq) dg (kk H locs cells slots ls hl hO hX hS hc hs)
theorem s_castA {p : Program} {l : Launch} {e : Env} {s : State} {m : MethodId} {args : Array Value} {below : List Frame} {meth : Method} {c : Code} {V : EV} {D : TB} {y d : Nat} {Qc : Array Value → State → Outcome → State → Prop} {XC : String → State → State → Prop} {pc : Nat} {L : LV} {S : List Value} {h : AH} {bc bs : Nat} (C0 : Cx p l s m args meth c V D y) (T0 : TV V D) {a n idx : Nat} {g} (hh : h a = some (.inl (0, n, g))) (hlink : Jvm.Cond.classLink (mOwn D y) idx "[I" ∈ vTg V) (dg : decode (mBytes D y) pc = .ok (.checkcast idx, 3))
    (kk : WR p l e s m args below meth c V D y d Qc XC (pc + 3) L (.ref a :: S) h bc bs) : WR p l e s m args below meth c V D y d Qc XC pc L (.ref a :: S) h bc bs := by
  obtain ⟨hx, hb, hml, hr, hlk, hown, hts, hI, hst, hnm, hxt⟩ := C0
  intro H locs cells slots ls hl hO hX hS hc hs
  obtain ⟨ws, hw, hP, hD⟩ := id hO
  obtain ⟨cA, hcA⟩ := ty_of T0.2.1.1
  obtain ⟨q0, hq⟩ := hw a _ hh (show 0 < 8 by omega)
  rw [toE_arr hcA] at hq
  exact va_castA hx hb hown (hts _ hlink) hP q0 hq (va_nm_int (hI.1.2 0 _ hcA).2) dg (kk H locs cells slots ls hl hO hX hS hc hs)
theorem s_castN {p : Program} {l : Launch} {e : Env} {s : State} {m : MethodId} {args : Array Value} {below : List Frame} {meth : Method} {c : Code} {V : EV} {D : TB} {y d : Nat} {Qc : Array Value → State → Outcome → State → Prop} {XC : String → State → State → Prop} {pc : Nat} {L : LV} {S : List Value} {h : AH} {bc bs : Nat} (C0 : Cx p l s m args meth c V D y) {idx : Nat} {nm : String} (hlink : Jvm.Cond.classLink (mOwn D y) idx nm ∈ vTg V) (dg : decode (mBytes D y) pc = .ok (.checkcast idx, 3))
    (kk : WR p l e s m args below meth c V D y d Qc XC (pc + 3) L (.null :: S) h bc bs) : WR p l e s m args below meth c V D y d Qc XC pc L (.null :: S) h bc bs := by
  obtain ⟨hx, hb, hml, hr, hlk, hown, hts, hI, hst, hnm, hxt⟩ := C0
  intro H locs cells slots ls hl hO hX hS hc hs
  exact lv_castN hx hb dg (kk H locs cells slots ls hl hO hX hS hc hs)
theorem s_objInit {p : Program} {l : Launch} {e : Env} {s : State} {m : MethodId} {args : Array Value} {below : List Frame} {meth : Method} {c : Code} {V : EV} {D : TB} {y d : Nat} {Qc : Array Value → State → Outcome → State → Prop} {XC : String → State → State → Prop} {pc : Nat} {L : LV} {S : List Value} {h : AH} {bc bs : Nat} (C0 : Cx p l s m args meth c V D y) {a idx : Nat} (h1 : Jvm.Cond.methodLink (mOwn D y) idx objectInit ∈ vTg V) (h2 : Jvm.Cond.instanceMethod objectInit ∈ vTg V) (h3 : Jvm.Cond.code objectInit ⟨#[0xb1]⟩ 1 none ∈ vTg V) (hcs : (S.map fun v => v.category).sum ≤ 8) (dg : decode (mBytes D y) pc = .ok (.invokespecial idx, 3))
    (kk : WR p l e s m args below meth c V D y d Qc XC (pc + 3) L S h bc bs) : WR p l e s m args below meth c V D y d Qc XC pc L (.ref a :: S) h bc bs := by
  obtain ⟨hx, hb, hml, hr, hlk, hown, hts, hI, hst, hnm, hxt⟩ := C0
  intro H locs cells slots ls hl hO hX hS hc hs
  refine W.objInit hx hb hown (hts _ h1) (hts _ h2) (hts _ h3) rfl (by rw [hml]; obtain ⟨_, lv, q, _⟩ := hl; exact q.1) rfl dg (show 1 ≤ d + 12 by omega) ?_ (kk H locs cells slots ls hl hO hX hS hc hs)
  exact Nat.le_trans (Nat.add_le_add_right (lv_room (m := m) (pc := pc) (ls := ls) (rest := .ref a :: S) hcs) 12) (show 8 + 12 ≤ 41 * d + 524 by omega)
section Prims
abbrev gcN : MethodName := ⟨"java/lang/Object", "getClass", "()Ljava/lang/Class;"⟩
theorem w_in {V : EV} {D : TB} {s : State} {args : Array Value} (T0 : TV V D) (hts : ∀ w ∈ vTg V, w.before args s = true) (hI : Inv V D s) {w : Jvm.Cond} (h : w ∈ vTg V ∨ w ∈ vNt V) : w.before args s = true := by
  rcases h with h | h
  · exact hts w h
  · exact (hI.2.2.1 w h).use (T0.2.2.2 w h)
theorem ty3 {V : EV} {D : TB} (T0 : TV V D) : ∃ cA, (vty V)[3]? = some (cA, .object "java/lang/Object") := by
  obtain ⟨C, hC, rfl⟩ := T0.2.1.2.2.2.1
  exact ty_of hC
theorem s_getC {p : Program} {l : Launch} {e : Env} {s : State} {m : MethodId} {args : Array Value} {below : List Frame} {meth : Method} {c : Code} {V : EV} {D : TB} {y d : Nat} {Qc : Array Value → State → Outcome → State → Prop} {XC : String → State → State → Prop} {pc : Nat} {L : LV} {S : List Value} {h : AH} {bc bs : Nat} (C0 : Cx p l s m args meth c V D y) (T0 : TV V D) {a n idx : Nat} {g} (hh : h a = some (.inl (3, n, g))) (hcs : (S.map fun v => v.category).sum ≤ 8) (w1 : Jvm.Cond.methodLink (mOwn D y) idx gcN ∈ vTg V ∨ Jvm.Cond.methodLink (mOwn D y) idx gcN ∈ vNt V) (w2 : Jvm.Cond.declares gcN ∈ vTg V ∨ Jvm.Cond.declares gcN ∈ vNt V) (w3 : Jvm.Cond.selects "[Ljava/lang/Object;" gcN gcN ∈ vTg V ∨ Jvm.Cond.selects "[Ljava/lang/Object;" gcN gcN ∈ vNt V) (w4 : Jvm.Cond.instanceMethod gcN ∈ vTg V ∨ Jvm.Cond.instanceMethod gcN ∈ vNt V) (w5 : Jvm.Cond.native gcN ∈ vTg V ∨ Jvm.Cond.native gcN ∈ vNt V)
    (dg : decode (mBytes D y) pc = .ok (.invokevirtual idx, 3)) (kk : WR p l e s m args below meth c V D y d Qc XC (pc + 3) L (D.2.2.2.2.2.2 100 :: S) h bc bs) : WR p l e s m args below meth c V D y d Qc XC pc L (.ref a :: S) h bc bs := by
  obtain ⟨hx, hb, hml, hr, hlk, hown, hts, hI, hst, hnm, hxt⟩ := C0
  intro H locs cells slots ls hl hO hX hS hc hs
  obtain ⟨mi, hmi, hMi⟩ := hI.2.2.2.2.2.2.2.2.2
  obtain ⟨ws, hw, hP, hD⟩ := id hO
  obtain ⟨cA, hcA⟩ := ty3 T0
  obtain ⟨q0, hq⟩ := hw a _ hh (show 3 < 8 by omega)
  rw [toE_arr hcA] at hq
  have hcell : H[a]? = some (vp_cell cA (n, g)) := hP q0 _ hq
  have K := kk H locs cells slots ls hl hO hX hS hc hs
  rw [hmi] at K
  refine va_getC hx hb (by rw [hml]; obtain ⟨_, lv, q, _⟩ := hl; exact q.1.symm) hown (w_in T0 hts hI w1) (w_in T0 hts hI w2) (w_in T0 hts hI w3) (w_in T0 hts hI w4) (w_in T0 hts hI w5) hMi ⟨_, hcell, ?_, ?_⟩ (show 1 ≤ d + 12 by omega) (show _ + 14 ≤ 41 * d + 524 by omega) dg K
  · rcases g with f | f | f | f | f <;> rfl
  · rw [va_nmO (hI.1.2 3 _ hcA).2 (nm := "[Ljava/lang/Object;") (by decide +kernel)]
    rcases g with f | f | f | f | f <;> rfl
theorem s_ldcM {p : Program} {l : Launch} {e : Env} {s : State} {m : MethodId} {args : Array Value} {below : List Frame} {meth : Method} {c : Code} {V : EV} {D : TB} {y d : Nat} {Qc : Array Value → State → Outcome → State → Prop} {XC : String → State → State → Prop} {pc : Nat} {L : LV} {S : List Value} {h : AH} {bc bs : Nat} (C0 : Cx p l s m args meth c V D y) {idx : Nat} (w1 : Jvm.Cond.classLink (mOwn D y) idx "[Ljava/lang/Object;" ∈ vTg V) (dg : decode (mBytes D y) pc = .ok (.ldc idx, 2)) (kk : WR p l e s m args below meth c V D y d Qc XC (pc + 2) L (D.2.2.2.2.2.2 100 :: S) h bc bs) : WR p l e s m args below meth c V D y d Qc XC pc L S h bc bs := by
  obtain ⟨hx, hb, hml, hr, hlk, hown, hts, hI, hst, hnm, hxt⟩ := C0
  intro H locs cells slots ls hl hO hX hS hc hs
  obtain ⟨mi, hmi, hMi⟩ := hI.2.2.2.2.2.2.2.2.2
  have K := kk H locs cells slots ls hl hO hX hS hc hs
  rw [hmi] at K
  exact va_ldcM hx hb hown (hts _ w1) hMi dg K
theorem s_copyq {p : Program} {l : Launch} {e : Env} {s : State} {m : MethodId} {args : Array Value} {below : List Frame} {meth : Method} {c : Code} {V : EV} {D : TB} {y d : Nat} {Qc : Array Value → State → Outcome → State → Prop} {XC : String → State → State → Prop} {pc : Nat} {L : LV} {S : List Value} {h : AH} {bc bs : Nat} (C0 : Cx p l s m args meth c V D y) (T0 : TV V D) (T1 : StOk V D) {a a2 n0 n1 idx ci : Nat} {f g : Nat → Option Nat} {sp dp n : Int32} (hh0 : h a = some (.inl (3, n0, .inr (.inr (.inr (.inr f)))))) (hh1 : h a2 = some (.inl (3, n1, .inr (.inr (.inr (.inr g)))))) (hcs : (S.map fun v => v.category).sum ≤ 8) (h1 : ¬ sp < 0) (h2 : ¬ dp < 0) (h3 : ¬ n < 0) (h4 : sp.toNatClampNeg + n.toNatClampNeg ≤ n0) (h5 : dp.toNatClampNeg + n.toNatClampNeg ≤ n1)
    (hst0 : D.2.2.2.1 3 ci = true) (hel : ∀ i : Nat, i < n.toNatClampNeg → ∀ b : Nat, f (sp.toNatClampNeg + i) = some b → isK (h b) ci)
    (w1 : Jvm.Cond.methodLink (mOwn D y) idx arraycopyName ∈ vTg V ∨ Jvm.Cond.methodLink (mOwn D y) idx arraycopyName ∈ vNt V) (w2 : Jvm.Cond.native arraycopyName ∈ vTg V ∨ Jvm.Cond.native arraycopyName ∈ vNt V) (w3 : Jvm.Cond.static arraycopyName ∈ vTg V ∨ Jvm.Cond.static arraycopyName ∈ vNt V) (w4 : Jvm.Cond.initialized "java/lang/System" ∈ vTg V ∨ Jvm.Cond.initialized "java/lang/System" ∈ vNt V)
    (dg : decode (mBytes D y) pc = .ok (.invokestatic idx, 3)) (kk : WR p l e s m args below meth c V D y d Qc XC (pc + 3) L S (hup h a2 (.inl (3, n1, .inr (.inr (.inr (.inr (va_cpy f g sp.toNatClampNeg dp.toNatClampNeg n.toNatClampNeg))))))) bc bs) : WR p l e s m args below meth c V D y d Qc XC pc L (.int n :: .int dp :: .ref a2 :: .int sp :: .ref a :: S) h bc bs := by
  obtain ⟨hx, hb, hml, hr, hlk, hown, hts, hI, hst, hnm, hxt⟩ := C0
  intro H locs cells slots ls hl hO hX hS hc hs
  obtain ⟨ws, hw, hP, hD⟩ := id hO
  obtain ⟨cA, hcA⟩ := ty3 T0
  obtain ⟨q0, hq0⟩ := hw a _ hh0 (show 3 < 8 by omega)
  obtain ⟨q1, hq1⟩ := hw a2 _ hh1 (show 3 < 8 by omega)
  have hq1' := hq1
  rw [toE_arr hcA] at hq0 hq1'
  obtain ⟨r, hr1, hr2⟩ := T1.1 3 ci cA _ hcA hst0
  refine va_copyq (C := r.1) hx hb (by rw [hml]; obtain ⟨_, lv, q, _⟩ := hl; exact q.1.symm) hown (w_in T0 hts hI w1) (w_in T0 hts hI w2) (w_in T0 hts hI w3) (w_in T0 hts hI w4) hI.1 hP hD hS q0 q1 3 3 hq0 hq1' hcA hcA h1 h2 h3 h4 h5 (fun i hi b hb0 => ?_) ?_ (show 1 ≤ d + 12 by omega) (show _ + (nativeFrameWords "java/lang/System" "arraycopy" 5 + 11) ≤ 41 * d + 524 from ?_) dg (fun H1 locs1 hP1 hD1 hS1 => ?_)
  · exact w_recv hI hO hX hS hr1 (hel i hi b hb0)
  · intro comp c0 e1 e2
    rcases hr2 with hr2 | hr2
    · exact vb_asgS (C := r.1) comp c0 (by rw [hr2]; exact e1) e2
    · exact vb_asgC (hI.2.2.1 _ hr2) comp c0 e1 e2
  · exact Nat.le_trans (Nat.add_le_add_right hcs _) (Nat.le_trans (by decide +kernel : 8 + (nativeFrameWords "java/lang/System" "arraycopy" 5 + 11) ≤ 524) (by omega))
  · rw [← toE_arr hcA] at hP1 hD1
    exact kk H1 locs1 cells slots ls hl ⟨_, RelO.set hw hq1 hD, hP1, hD1⟩ (hX.up (show 3 < 8 by omega)) hS1 hc hs
theorem s_copyb {p : Program} {l : Launch} {e : Env} {s : State} {m : MethodId} {args : Array Value} {below : List Frame} {meth : Method} {c : Code} {V : EV} {D : TB} {y d : Nat} {Qc : Array Value → State → Outcome → State → Prop} {XC : String → State → State → Prop} {pc : Nat} {L : LV} {S : List Value} {h : AH} {bc bs : Nat} (C0 : Cx p l s m args meth c V D y) (T0 : TV V D) {a a2 n0 n1 idx : Nat} {f g : Nat → Int32} {sp dp n : Int32} (hh0 : h a = some (.inl (1, n0, .inl f))) (hh1 : h a2 = some (.inl (1, n1, .inl g))) (hcs : (S.map fun v => v.category).sum ≤ 8) (h1 : ¬ sp < 0) (h2 : ¬ dp < 0) (h3 : ¬ n < 0) (h4 : sp.toNatClampNeg + n.toNatClampNeg ≤ n0) (h5 : dp.toNatClampNeg + n.toNatClampNeg ≤ n1)
    (hfit : ∀ i, i < n.toNatClampNeg → fits .byte (.int (f (sp.toNatClampNeg + i))) = true)
    (w1 : Jvm.Cond.methodLink (mOwn D y) idx arraycopyName ∈ vTg V ∨ Jvm.Cond.methodLink (mOwn D y) idx arraycopyName ∈ vNt V) (w2 : Jvm.Cond.native arraycopyName ∈ vTg V ∨ Jvm.Cond.native arraycopyName ∈ vNt V) (w3 : Jvm.Cond.static arraycopyName ∈ vTg V ∨ Jvm.Cond.static arraycopyName ∈ vNt V) (w4 : Jvm.Cond.initialized "java/lang/System" ∈ vTg V ∨ Jvm.Cond.initialized "java/lang/System" ∈ vNt V)
    (dg : decode (mBytes D y) pc = .ok (.invokestatic idx, 3)) (kk : WR p l e s m args below meth c V D y d Qc XC (pc + 3) L S (hup h a2 (.inl (1, n1, .inl (va_cpy f g sp.toNatClampNeg dp.toNatClampNeg n.toNatClampNeg)))) bc bs) : WR p l e s m args below meth c V D y d Qc XC pc L (.int n :: .int dp :: .ref a2 :: .int sp :: .ref a :: S) h bc bs := by
  obtain ⟨hx, hb, hml, hr, hlk, hown, hts, hI, hst, hnm, hxt⟩ := C0
  intro H locs cells slots ls hl hO hX hS hc hs
  obtain ⟨ws, hw, hP, hD⟩ := id hO
  obtain ⟨cA, hcA⟩ := ty_of T0.2.1.2.1
  obtain ⟨q0, hq0⟩ := hw a _ hh0 (show 1 < 8 by omega)
  obtain ⟨q1, hq1⟩ := hw a2 _ hh1 (show 1 < 8 by omega)
  have hq1' := hq1
  rw [toE_arr hcA] at hq0 hq1'
  refine va_copyi hx hb (by rw [hml]; obtain ⟨_, lv, q, _⟩ := hl; exact q.1.symm) hown (w_in T0 hts hI w1) (w_in T0 hts hI w2) (w_in T0 hts hI w3) (w_in T0 hts hI w4) hI.1 hP hD hS q0 q1 1 1 hq0 hq1' hcA hcA rfl h1 h2 h3 h4 h5 hfit (show 1 ≤ d + 12 by omega) (show _ + (nativeFrameWords "java/lang/System" "arraycopy" 5 + 11) ≤ 41 * d + 524 from ?_) dg (fun H1 locs1 hP1 hD1 hS1 => ?_)
  · exact Nat.le_trans (Nat.add_le_add_right hcs _) (Nat.le_trans (by decide +kernel : 8 + (nativeFrameWords "java/lang/System" "arraycopy" 5 + 11) ≤ 524) (by omega))
  · rw [← toE_arr hcA] at hP1 hD1
    exact kk H1 locs1 cells slots ls hl ⟨_, RelO.set hw hq1 hD, hP1, hD1⟩ (hX.up (show 1 < 8 by omega)) hS1 hc hs
end Prims
section Ends
theorem s_iret {p : Program} {l : Launch} {e : Env} {s : State} {m : MethodId} {args : Array Value} {below : List Frame} {meth : Method} {c : Code} {V : EV} {D : TB} {y d : Nat} {Q : RS → AH → Prop} {pc : Nat} {L : LV} {h : AH} {bc bs : Nat} (C0 : Cx p l s m args meth c V D y)
    {x : Int32} (hx0 : retOk (mRet D y) x) (hq : Q (.inl (some (.int x))) h) (dg : decode (mBytes D y) pc = .ok (.ireturn, 1)) : WR p l e s m args below meth c V D y d (QN V Q) (QX V Q) pc L [.int x] h bc bs := by
  obtain ⟨hx, hb, hml, hr, hlk, hown, hts, hI, hst, hnm, hxt⟩ := C0
  intro H locs cells slots ls hl hO hX hS hc hs
  unfold retOk at hx0
  split at hx0
  · rename_i ty hty
    refine W.widen (k := mBc D y) (n := mBs D y) (by omega) (by omega) (vx_ret (W.zret hx hb (hr.trans hty) hx0 (fun t ht hW => ?_) hS.2.2 dg hlk))
    exact ⟨⟨_, h, rfl, hq, by rw [ht]; exact hO, hX.move hW.alike (by rw [ht]; exact vA_all hI hS)⟩, hS.F ht⟩
  · exact hx0.elim
theorem s_lret {p : Program} {l : Launch} {e : Env} {s : State} {m : MethodId} {args : Array Value} {below : List Frame} {meth : Method} {c : Code} {V : EV} {D : TB} {y d : Nat} {Q : RS → AH → Prop} {pc : Nat} {L : LV} {h : AH} {bc bs : Nat} (C0 : Cx p l s m args meth c V D y)
    {x : Int64} (hx0 : mRet D y = some .long) (hq : Q (.inl (some (.long x))) h) (dg : decode (mBytes D y) pc = .ok (.lreturn, 1)) : WR p l e s m args below meth c V D y d (QN V Q) (QX V Q) pc L [.long x] h bc bs := by
  obtain ⟨hx, hb, hml, hr, hlk, hown, hts, hI, hst, hnm, hxt⟩ := C0
  intro H locs cells slots ls hl hO hX hS hc hs
  refine W.widen (k := mBc D y) (n := mBs D y) (by omega) (by omega) (vx_ret (W.lret hx hb (hr.trans hx0) (fun t ht hW => ?_) hS.2.2 dg hlk))
  exact ⟨⟨_, h, rfl, hq, by rw [ht]; exact hO, hX.move hW.alike (by rw [ht]; exact vA_all hI hS)⟩, hS.F ht⟩
theorem s_aret {p : Program} {l : Launch} {e : Env} {s : State} {m : MethodId} {args : Array Value} {below : List Frame} {meth : Method} {c : Code} {V : EV} {D : TB} {y d : Nat} {Q : RS → AH → Prop} {pc : Nat} {L : LV} {h : AH} {bc bs : Nat} (C0 : Cx p l s m args meth c V D y)
    {x : Option Nat} (hx0 : refTy (mRet D y) = true) (hq : Q (.inl (some (va_rf x))) h) (dg : decode (mBytes D y) pc = .ok (.areturn, 1)) : WR p l e s m args below meth c V D y d (QN V Q) (QX V Q) pc L [va_rf x] h bc bs := by
  obtain ⟨hx, hb, hml, hr, hlk, hown, hts, hI, hst, hnm, hxt⟩ := C0
  intro H locs cells slots ls hl hO hX hS hc hs
  have hv : va_rf x = .null ∨ ∃ a, va_rf x = .ref a := by cases x <;> simp [va_rf]
  obtain ⟨rt, hrt, hro⟩ : ∃ rt, mRet D y = some rt ∧ ((∃ n, rt = .object n) ∨ ∃ t, rt = .array t) := by
    revert hx0
    cases hm : mRet D y with
    | none => simp [refTy]
    | some rt => cases rt <;> simp [refTy]
  refine W.widen (k := mBc D y) (n := mBs D y) (by omega) (by omega) (vx_ret (W.aret hx hb (hr.trans hrt) hro hv (fun t ht hW => ?_) hS.2.2 dg hlk))
  exact ⟨⟨_, h, rfl, hq, by rw [ht]; exact hO, hX.move hW.alike (by rw [ht]; exact vA_all hI hS)⟩, hS.F ht⟩
theorem s_vret {p : Program} {l : Launch} {e : Env} {s : State} {m : MethodId} {args : Array Value} {below : List Frame} {meth : Method} {c : Code} {V : EV} {D : TB} {y d : Nat} {Q : RS → AH → Prop} {pc : Nat} {L : LV} {h : AH} {bc bs : Nat} (C0 : Cx p l s m args meth c V D y)
    (hx0 : mRet D y = none) (hq : Q (.inl none) h) (dg : decode (mBytes D y) pc = .ok (.return_, 1)) : WR p l e s m args below meth c V D y d (QN V Q) (QX V Q) pc L [] h bc bs := by
  obtain ⟨hx, hb, hml, hr, hlk, hown, hts, hI, hst, hnm, hxt⟩ := C0
  intro H locs cells slots ls hl hO hX hS hc hs
  refine W.widen (k := mBc D y) (n := mBs D y) (by omega) (by omega) (vx_ret (W.vret hx hb (hr.trans hx0) (fun t ht hW => ?_) hS.2.2 dg hlk))
  exact ⟨⟨_, h, rfl, hq, by rw [ht]; exact hO, hX.move hW.alike (by rw [ht]; exact vA_all hI hS)⟩, hS.F ht⟩
theorem w_ot {V : EV} {D : TB} (T0 : TV V D) {w : Jvm.Cond} (h : w ∈ vTg V ∨ w ∈ vNt V) : vx_ot w = true := by
  unfold vx_ot
  rcases h with h | h
  · rw [T0.2.2.1 w h, Bool.or_true]
  · rw [T0.2.2.2 w h, Bool.true_or]
theorem s_throw {p : Program} {l : Launch} {e : Env} {s : State} {m : MethodId} {args : Array Value} {below : List Frame} {meth : Method} {c : Code} {V : EV} {D : TB} {y d : Nat} {Q : RS → AH → Prop} {pc : Nat} {L : LV} {S : List Value} {h : AH} {bc bs : Nat} (C0 : Cx p l s m args meth c V D y) (T0 : TV V D)
    {k ik is ic : Nat} {text : String} {names : List String} (hcls : Bundle.fit (xn k) = true) (hnames : ∀ n ∈ names, Bundle.fit n = true) (hnl : names.length ≤ 8) (hws : ∀ w ∈ Jvm.Cond.classLink (mOwn D y) ik (xn k) :: Jvm.Cond.initialized (xn k) :: vx_atS (mOwn D y) ic (xn k) names, w ∈ vTg V ∨ w ∈ vNt V)
    (hstr : (mOwn D y, is, text) ∈ vSt V) (d0 : decode (mBytes D y) pc = .ok (.new ik, 3)) (d3 : decode (mBytes D y) (pc + 3) = .ok (.dup, 1))
    (d4 : (decode (mBytes D y) (pc + 4) = .ok (.ldc is, 2) ∧ decode (mBytes D y) (pc + 6) = .ok (.invokespecial ic, 3) ∧ decode (mBytes D y) (pc + 9) = .ok (.athrow, 1)) ∨ (decode (mBytes D y) (pc + 4) = .ok (.ldc_w is, 3) ∧ decode (mBytes D y) (pc + 7) = .ok (.invokespecial ic, 3) ∧ decode (mBytes D y) (pc + 10) = .ok (.athrow, 1)))
    (hno : mHH D y = []) (hcs : (S.map fun v => v.category).sum ≤ 8) (h1 : 1 ≤ bc) (h2 : 6 ≤ bs) (hq : Q (.inr k) h) : WR p l e s m args below meth c V D y d (QN V Q) (QX V Q) pc L S h bc bs := by
  obtain ⟨hx, hb, hml, hr, hlk, hown, hts, hI, hst, hnm, hxt⟩ := C0
  intro H locs cells slots ls hl hO hX hS hc hs
  obtain ⟨sa, hsa⟩ := hI.2.2.2.1 _ hstr
  have hall : ∀ w ∈ Jvm.Cond.classLink (mOwn D y) ik (xn k) :: Jvm.Cond.initialized (xn k) :: vx_atS (mOwn D y) ic (xn k) names, w.before args s = true := fun w hw => w_in T0 hts hI (hws w hw)
  have hsz : ls.size = c.maxLocals := by rw [hml]; obtain ⟨_, lv, q, _⟩ := hl; exact q.1
  have hnox : ∀ (q : Nat), ∀ x ∈ c.exceptionTable.toList, covers x q = false := by
    intro q x hxm
    rw [hxt, hno] at hxm
    cases hxm
  have hX1 : ∀ t : State, s.vm.Alike t.vm → H.size ≤ t.heap.size → (∀ q : Nat, q < H.size → t.heap[q]? = H[q]?) → QX V Q (xn k) s t := by
    intro t hal hz hk
    refine ⟨⟨k, h, rfl, hq, ?_, hX.move hal ?_⟩, Nat.le_trans hS.1 hz, fun q hq1 hq2 => ?_⟩
    · obtain ⟨ws, hw, hP, hD⟩ := hO
      exact ⟨ws, hw, hP.kept (fun k' q' hq' => hk q'.1 ((hP k' q' hq').lt)), hD⟩
    · intro q hq2
      have hqs : q < s.heap.size := by
        rcases Nat.lt_or_ge q s.heap.size with hlt | hge
        · exact hlt
        · exact absurd (vA_new hI q hge) hq2
      rw [hk q (Nat.lt_of_lt_of_le hqs hS.1)]
      exact vA_all hI hS q hq2
    · rw [hk q (Nat.lt_of_lt_of_le hq1 hS.1)]
      exact hS.2.1 q hq1 hq2
  have hrf : names.length + 3 < d + 12 := by omega
  have hrl : (S.map fun v => v.category).sum + (13 * (names.length + 1) + 43) ≤ 41 * d + 524 := by omega
  rcases d4 with ⟨d4, d6, d9⟩ | ⟨d4, d6, d9⟩
  · exact vx_throwS hx hb hst hown hcls hnames (hall _ List.mem_cons_self) (hall _ (List.mem_cons_of_mem _ List.mem_cons_self)) hsa (fun w hw => hall w (List.mem_cons_of_mem _ (List.mem_cons_of_mem _ hw))) (fun w hw => w_ot T0 (hws w hw)) hI.2.2.2.2.2.1 hI.2.2.2.2.2.2.1 hS hsz d0 d3 d4 d6 d9 (hnox _) hrf hrl (show cells + 1 ≤ mBc D y by omega) (show slots + 6 ≤ mBs D y by omega) hlk hX1 hS.2.2 (by omega) (by omega)
  · exact vx_throwSW hx hb hst hown hcls hnames (hall _ List.mem_cons_self) (hall _ (List.mem_cons_of_mem _ List.mem_cons_self)) hsa (fun w hw => hall w (List.mem_cons_of_mem _ (List.mem_cons_of_mem _ hw))) (fun w hw => w_ot T0 (hws w hw)) hI.2.2.2.2.2.1 hI.2.2.2.2.2.2.1 hS hsz d0 d3 d4 d6 d9 (hnox _) hrf hrl (show cells + 1 ≤ mBc D y by omega) (show slots + 6 ≤ mBs D y by omega) hlk hX1 hS.2.2 (by omega) (by omega)
end Ends
/-! calls -/
def codeW (D : TB) (z : Nat) : Jvm.Cond := match mHH D z with
  | [] => .code (mName D z) (mBytes D z) (mMaxL D z) (mRet D z)
  | h :: r => .codeWith (mName D z) (mBytes D z) (mMaxL D z) (mRet D z) (h :: r)
/-- what a callee may rely on -/
def PcD (V : EV) (D : TB) (h : AH) (args : List Value) : Array Value → State → Prop := va_Pc args (fun U => Inv V D U ∧ RelO V h U.heap ∧ RelX V h U)
/-- the contract that an abstract call stands for -/
def MetD (l : Launch) (V : EV) (D : TB) (d z : Nat) (args : List Value) (h : AH) (Q : RS → AH → Prop) : Prop :=
  vx_Met l (mName D z) (codeW D z :: vTg V) (rmD D z d) (PcD V D h args) (QN V Q) (QX V Q) (mBc D z) (mBs D z) (vA V)
theorem MetD.met {l : Launch} {V : EV} {D : TB} {d z : Nat} {args : List Value} {h : AH} {Q : RS → AH → Prop} (hM : MetD l V D d z args h Q) (hno : ∀ k h, ¬ Q (.inr k) h) :
    Met l (mName D z) (codeW D z :: vTg V) (rmD D z d) (PcD V D h args) (QN V Q) (mBc D z) (mBs D z) (vA V) := by
  intro p e h1 h2 h3 s m args' below h4 h5 h6 h7
  obtain ⟨n, o, q1, q2, q3, q4⟩ := hM p e h1 h2 h3 s m args' below h4 h5 h6 h7
  refine ⟨n, o, q1, q2, q3, ?_⟩
  rcases q4 with q4 | ⟨q, hq, E, ce, L, ⟨⟨k, h', -, hk, -⟩, -⟩, -⟩
  · exact q4
  · exact absurd hk (hno k h')
theorem Inv.calling {V : EV} {D : TB} {U : State} {g : JFrame} {mk : MethodId} {a : Array Value} (T0 : TV V D) (h : Inv V D U) : Inv V D (U.calling g mk a) := by
  obtain ⟨i1, i2, i3, i4, i5, i6, i7, i8, i9, mi, i10, i11⟩ := h
  have hal : U.vm.Alike (U.calling g mk a).vm := Vm.Alike.refl U.vm
  refine ⟨va_K.moved (u := U) hal i1, i2, fun w hw => va_Nw.same (T0.2.2.2 w hw) (u := U) rfl (i3 w hw), fun q hq => ?_, fun k q hq => va_Z.moved (u := U) hal (i5 k q hq), vx_Zq.moved (u := U) hal i6, vx_Zq.moved (u := U) hal i7, fun q hq => va_Nc.moved (u := U) hal (i8 q hq), fun t cA C ht => va_AO.moved (u := U) hal (i9 t cA C ht), mi, i10, va_Mi.moved (u := U) hal i11⟩
  obtain ⟨a', ha'⟩ := i4 q hq
  exact ⟨a', vk_R.same (u := U) rfl ha'⟩
theorem PcD.blind {V : EV} {D : TB} {h : AH} {args : List Value} (T0 : TV V D) : FrameBlind (PcD V D h args) := by
  intro a U g mk ⟨h1, h2, h3, h4⟩
  exact ⟨h1, h2.calling T0, h3, h4.move (Vm.Alike.refl U.vm) (fun _ _ => rfl)⟩
/-- the callee's start, seen from the caller's -/
theorem Inv.warm {V : EV} {D : TB} {s U : State} {H : Heap} {locs : List Loc} (hI : Inv V D s) (T0 : TV V D) (hnw : ∀ w ∈ vNt V, va_Nw w s → s.WarmedH U.vm → va_Nw w U) (hS : va_S (vA V) s.heap H locs) (hU : U.heap = H) (hW : s.WarmedH U.vm) : Inv V D U := by
  obtain ⟨i1, i2, i3, i4, i5, i6, i7, i8, i9, mi, i10, i11⟩ := id hI
  have hal := hW.alike
  have hk : ∀ a : Nat, a < s.heap.size → ¬ vA V a → U.heap[a]? = s.heap[a]? := fun a _ ha => by rw [hU]; exact vA_all hI hS a ha
  refine ⟨va_K.moved hal i1, by rw [hU]; exact Nat.le_trans i2 hS.1, fun w hw => hnw w hw (i3 w hw) hW, fun q hq => ?_, fun k q hq => va_Z.kept (va_Z.moved hal (i5 k q hq)) hk, vx_Zq.kept (vx_Zq.moved hal i6) hk, vx_Zq.kept (vx_Zq.moved hal i7) hk, fun q hq => va_Nc.moved hal (i8 q hq), fun t cA C ht => va_AO.moved hal (i9 t cA C ht), mi, i10, va_Mi.moved hal i11⟩
  obtain ⟨a', ha'⟩ := i4 q hq
  exact ⟨a', vk_R.warm hW ha'⟩
