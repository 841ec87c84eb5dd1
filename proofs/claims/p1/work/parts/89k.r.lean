/-! THE START: the classes' words stand in the table, some classes at a time -/
section ClsIn
/-- ids of the classes, by choice -/
theorem cls_all2 {args : Array Value} {s : State} {ws : List Jvm.Cond} (hts : ∀ w ∈ ws, w.before args s = true) (cl : List vw_C) (hin : ∀ (c : Nat) (r : vw_C), cl[c]? = some r → (∀ w ∈ u_ws r.1 r.2.1 r.2.2, w ∈ ws) ∧ Jvm.Cond.instantiable r.1 r.2.2 ∈ ws) :
    ∃ G : va_G, ∀ (c : Nat) (q : vw_C), cl[c]? = some q → u_Kn s q.1 q.2.1 q.2.2 (G.1 c) (G.2 c) := by
  have h : ∀ c : Nat, ∃ g : ClassId × (Nat → Nat), ∀ q : vw_C, cl[c]? = some q → u_Kn s q.1 q.2.1 q.2.2 g.1 g.2 := by
    intro c
    cases hq : cl[c]? with
    | none => exact ⟨(default, fun _ => 0), fun q h => by cases h⟩
    | some r =>
      obtain ⟨h2, h4⟩ := hin c r hq
      obtain ⟨cC, iS, h5⟩ := u_known (ws := ws) hts h2 (hts _ h4)
      exact ⟨(cC, iS), fun q h => by cases h; exact h5⟩
  obtain ⟨g, hg⟩ := Classical.axiomOfChoice h
  exact ⟨(fun c => (g c).1, fun c => (g c).2), hg⟩
theorem ca_all (c : Nat) (r : vw_C) (hc : vwCl[c]? = some r) : (∀ w ∈ u_ws r.1 r.2.1 r.2.2, w ∈ Tgl) ∧ Jvm.Cond.instantiable r.1 r.2.2 ∈ Tgl := by
  have h := tv_all c r hc
  rw [Nat.zero_add] at h
  exact ⟨h.1, ti_all c r hc⟩
end ClsIn
