/-! THE START: the classes' words stand in the table, some classes at a time -/
section ClsIn
def caF (ws : List Jvm.Cond) (r : vw_C) : Bool := (u_ws r.1 r.2.1 r.2.2).all (fun w => ws.contains w) && ws.contains (.instantiable r.1 r.2.2)
/-- ids of the classes, by choice -/
theorem cls_all2 {args : Array Value} {s : State} {ws : List Jvm.Cond} (hts : ∀ w ∈ ws, w.before args s = true) (cl : List vw_C) (hin : cl.all (caF ws) = true) :
    ∃ G : va_G, ∀ (c : Nat) (q : vw_C), cl[c]? = some q → u_Kn s q.1 q.2.1 q.2.2 (G.1 c) (G.2 c) := by
  have h : ∀ c : Nat, ∃ g : ClassId × (Nat → Nat), ∀ q : vw_C, cl[c]? = some q → u_Kn s q.1 q.2.1 q.2.2 g.1 g.2 := by
    intro c
    cases hq : cl[c]? with
    | none => exact ⟨(default, fun _ => 0), fun q h => by cases h⟩
    | some r =>
      have h1 := List.all_eq_true.mp hin r (List.mem_of_getElem? hq)
      obtain ⟨h2, h4⟩ := Bool.and_eq_true_iff.mp h1
      obtain ⟨cC, iS, h5⟩ := u_known (ws := ws) hts (fun w hw => List.contains_iff_mem.mp (List.all_eq_true.mp h2 w hw)) (hts _ (List.contains_iff_mem.mp h4))
      exact ⟨(cC, iS), fun q h => by cases h; exact h5⟩
  obtain ⟨g, hg⟩ := Classical.axiomOfChoice h
  exact ⟨(fun c => (g c).1, fun c => (g c).2), hg⟩
theorem all_pc {l : List vw_C} {f : vw_C → Bool} (k n : Nat) (h : ((l.drop k).take n).all f = true) (t : (l.drop (k + n)).all f = true) : (l.drop k).all f = true := by
  have e : (l.drop k).drop n = l.drop (k + n) := by simp [List.drop_drop, Nat.add_comm]
  rw [← List.take_append_drop n (l.drop k), List.all_append, h, e, t]
  rfl
theorem ca_0 : ((vwCl.drop 0).take 4).all (caF lw_tbl) = true := by decide +kernel
theorem ca_1 : ((vwCl.drop 4).take 4).all (caF lw_tbl) = true := by decide +kernel
theorem ca_2 : ((vwCl.drop 8).take 4).all (caF lw_tbl) = true := by decide +kernel
theorem ca_3 : ((vwCl.drop 12).take 4).all (caF lw_tbl) = true := by decide +kernel
theorem ca_4 : ((vwCl.drop 16).take 4).all (caF lw_tbl) = true := by decide +kernel
theorem ca_5 : ((vwCl.drop 20).take 4).all (caF lw_tbl) = true := by decide +kernel
theorem ca_z : (vwCl.drop 24).all (caF lw_tbl) = true := by decide +kernel
theorem ca_all : vwCl.all (caF lw_tbl) = true := all_pc 0 4 ca_0 (all_pc 4 4 ca_1 (all_pc 8 4 ca_2 (all_pc 12 4 ca_3 (all_pc 16 4 ca_4 (all_pc 20 4 ca_5 ca_z)))))
end ClsIn
