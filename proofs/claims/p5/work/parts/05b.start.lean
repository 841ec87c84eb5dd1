/-! THE START, by program -/
def tvP (ci : Nat) (r : vw_C) : Prop := (∀ w ∈ u_ws r.1 r.2.1 r.2.2, w ∈ Tgl) ∧ (DDd ci).length = r.2.2 ∧ (∀ k, k < r.2.2 → parseFieldDescriptor (r.2.1 k).2.2.1 = some (DDf ci k)) ∧ (∀ k, k < r.2.2 → defaultValue (DDf ci k) = vp_V (DDd ci) k) ∧ ∀ a, a < r.2.2 → ∀ b, b < r.2.2 → a ≠ b → (r.2.1 a).2.1 ≠ (r.2.1 b).2.1
theorem tv_0 : tvP 0 (RJ0, TJ0, 4) := ⟨fun w hw => List.contains_iff_mem.mp (List.all_eq_true.mp (by decide +kernel : (u_ws RJ0 TJ0 4).all (fun w => Tgl.contains w) = true) w hw), rfl, (by decide +kernel : ∀ k, k < 4 → parseFieldDescriptor (TJ0 k).2.2.1 = some (DDf 0 k)), (lt_s (lt_s (lt_s (lt_s (lt_0) rfl) rfl) rfl) rfl : ∀ k, k < 4 → defaultValue (DDf 0 k) = vp_V (DDd 0) k), (by decide +kernel : ∀ a, a < 4 → ∀ b, b < 4 → a ≠ b → (TJ0 a).2.1 ≠ (TJ0 b).2.1)⟩
theorem tv_1 : tvP 1 (RJ4, TJ4, 4) := ⟨fun w hw => List.contains_iff_mem.mp (List.all_eq_true.mp (by decide +kernel : (u_ws RJ4 TJ4 4).all (fun w => Tgl.contains w) = true) w hw), rfl, (by decide +kernel : ∀ k, k < 4 → parseFieldDescriptor (TJ4 k).2.2.1 = some (DDf 1 k)), (lt_s (lt_s (lt_s (lt_s (lt_0) rfl) rfl) rfl) rfl : ∀ k, k < 4 → defaultValue (DDf 1 k) = vp_V (DDd 1) k), (by decide +kernel : ∀ a, a < 4 → ∀ b, b < 4 → a ≠ b → (TJ4 a).2.1 ≠ (TJ4 b).2.1)⟩
theorem tv_2 : tvP 2 (RJ6, TJ6, 1) := ⟨fun w hw => List.contains_iff_mem.mp (List.all_eq_true.mp (by decide +kernel : (u_ws RJ6 TJ6 1).all (fun w => Tgl.contains w) = true) w hw), rfl, (by decide +kernel : ∀ k, k < 1 → parseFieldDescriptor (TJ6 k).2.2.1 = some (DDf 2 k)), (lt_s (lt_0) rfl : ∀ k, k < 1 → defaultValue (DDf 2 k) = vp_V (DDd 2) k), (by decide +kernel : ∀ a, a < 1 → ∀ b, b < 1 → a ≠ b → (TJ6 a).2.1 ≠ (TJ6 b).2.1)⟩
theorem tv_3 : tvP 3 (RJx35411, TJx35411, 4) := ⟨fun w hw => List.contains_iff_mem.mp (List.all_eq_true.mp (by decide +kernel : (u_ws RJx35411 TJx35411 4).all (fun w => Tgl.contains w) = true) w hw), rfl, (by decide +kernel : ∀ k, k < 4 → parseFieldDescriptor (TJx35411 k).2.2.1 = some (DDf 3 k)), (lt_s (lt_s (lt_s (lt_s (lt_0) rfl) rfl) rfl) rfl : ∀ k, k < 4 → defaultValue (DDf 3 k) = vp_V (DDd 3) k), (by decide +kernel : ∀ a, a < 4 → ∀ b, b < 4 → a ≠ b → (TJx35411 a).2.1 ≠ (TJx35411 b).2.1)⟩
theorem tv_4 : tvP 4 (RJx4a65c, TJx4a65c, 3) := ⟨fun w hw => List.contains_iff_mem.mp (List.all_eq_true.mp (by decide +kernel : (u_ws RJx4a65c TJx4a65c 3).all (fun w => Tgl.contains w) = true) w hw), rfl, (by decide +kernel : ∀ k, k < 3 → parseFieldDescriptor (TJx4a65c k).2.2.1 = some (DDf 4 k)), (lt_s (lt_s (lt_s (lt_0) rfl) rfl) rfl : ∀ k, k < 3 → defaultValue (DDf 4 k) = vp_V (DDd 4) k), (by decide +kernel : ∀ a, a < 3 → ∀ b, b < 3 → a ≠ b → (TJx4a65c a).2.1 ≠ (TJx4a65c b).2.1)⟩
theorem tv_5 : tvP 5 (RX0, TX0, 5) := ⟨fun w hw => List.contains_iff_mem.mp (List.all_eq_true.mp (by decide +kernel : (u_ws RX0 TX0 5).all (fun w => Tgl.contains w) = true) w hw), rfl, (by decide +kernel : ∀ k, k < 5 → parseFieldDescriptor (TX0 k).2.2.1 = some (DDf 5 k)), (lt_s (lt_s (lt_s (lt_s (lt_s (lt_0) rfl) rfl) rfl) rfl) rfl : ∀ k, k < 5 → defaultValue (DDf 5 k) = vp_V (DDd 5) k), (by decide +kernel : ∀ a, a < 5 → ∀ b, b < 5 → a ≠ b → (TX0 a).2.1 ≠ (TX0 b).2.1)⟩
theorem tv_6 : tvP 6 (RX1, TX1, 2) := ⟨fun w hw => List.contains_iff_mem.mp (List.all_eq_true.mp (by decide +kernel : (u_ws RX1 TX1 2).all (fun w => Tgl.contains w) = true) w hw), rfl, (by decide +kernel : ∀ k, k < 2 → parseFieldDescriptor (TX1 k).2.2.1 = some (DDf 6 k)), (lt_s (lt_s (lt_0) rfl) rfl : ∀ k, k < 2 → defaultValue (DDf 6 k) = vp_V (DDd 6) k), (by decide +kernel : ∀ a, a < 2 → ∀ b, b < 2 → a ≠ b → (TX1 a).2.1 ≠ (TX1 b).2.1)⟩
theorem tv_7 : tvP 7 (RX2, TX2, 3) := ⟨fun w hw => List.contains_iff_mem.mp (List.all_eq_true.mp (by decide +kernel : (u_ws RX2 TX2 3).all (fun w => Tgl.contains w) = true) w hw), rfl, (by decide +kernel : ∀ k, k < 3 → parseFieldDescriptor (TX2 k).2.2.1 = some (DDf 7 k)), (lt_s (lt_s (lt_s (lt_0) rfl) rfl) rfl : ∀ k, k < 3 → defaultValue (DDf 7 k) = vp_V (DDd 7) k), (by decide +kernel : ∀ a, a < 3 → ∀ b, b < 3 → a ≠ b → (TX2 a).2.1 ≠ (TX2 b).2.1)⟩
theorem tv_8 : tvP 8 (RX3, TX3, 5) := ⟨fun w hw => List.contains_iff_mem.mp (List.all_eq_true.mp (by decide +kernel : (u_ws RX3 TX3 5).all (fun w => Tgl.contains w) = true) w hw), rfl, (by decide +kernel : ∀ k, k < 5 → parseFieldDescriptor (TX3 k).2.2.1 = some (DDf 8 k)), (lt_s (lt_s (lt_s (lt_s (lt_s (lt_0) rfl) rfl) rfl) rfl) rfl : ∀ k, k < 5 → defaultValue (DDf 8 k) = vp_V (DDd 8) k), (by decide +kernel : ∀ a, a < 5 → ∀ b, b < 5 → a ≠ b → (TX3 a).2.1 ≠ (TX3 b).2.1)⟩
theorem tv_9 : tvP 9 (RX4, TX4, 4) := ⟨fun w hw => List.contains_iff_mem.mp (List.all_eq_true.mp (by decide +kernel : (u_ws RX4 TX4 4).all (fun w => Tgl.contains w) = true) w hw), rfl, (by decide +kernel : ∀ k, k < 4 → parseFieldDescriptor (TX4 k).2.2.1 = some (DDf 9 k)), (lt_s (lt_s (lt_s (lt_s (lt_0) rfl) rfl) rfl) rfl : ∀ k, k < 4 → defaultValue (DDf 9 k) = vp_V (DDd 9) k), (by decide +kernel : ∀ a, a < 4 → ∀ b, b < 4 → a ≠ b → (TX4 a).2.1 ≠ (TX4 b).2.1)⟩
theorem tv_10 : tvP 10 (RX5, TX5, 3) := ⟨fun w hw => List.contains_iff_mem.mp (List.all_eq_true.mp (by decide +kernel : (u_ws RX5 TX5 3).all (fun w => Tgl.contains w) = true) w hw), rfl, (by decide +kernel : ∀ k, k < 3 → parseFieldDescriptor (TX5 k).2.2.1 = some (DDf 10 k)), (lt_s (lt_s (lt_s (lt_0) rfl) rfl) rfl : ∀ k, k < 3 → defaultValue (DDf 10 k) = vp_V (DDd 10) k), (by decide +kernel : ∀ a, a < 3 → ∀ b, b < 3 → a ≠ b → (TX5 a).2.1 ≠ (TX5 b).2.1)⟩
theorem tv_11 : tvP 11 (RX6, TX6, 3) := ⟨fun w hw => List.contains_iff_mem.mp (List.all_eq_true.mp (by decide +kernel : (u_ws RX6 TX6 3).all (fun w => Tgl.contains w) = true) w hw), rfl, (by decide +kernel : ∀ k, k < 3 → parseFieldDescriptor (TX6 k).2.2.1 = some (DDf 11 k)), (lt_s (lt_s (lt_s (lt_0) rfl) rfl) rfl : ∀ k, k < 3 → defaultValue (DDf 11 k) = vp_V (DDd 11) k), (by decide +kernel : ∀ a, a < 3 → ∀ b, b < 3 → a ≠ b → (TX6 a).2.1 ≠ (TX6 b).2.1)⟩
theorem tv_12 : tvP 12 (RX7, TX7, 3) := ⟨fun w hw => List.contains_iff_mem.mp (List.all_eq_true.mp (by decide +kernel : (u_ws RX7 TX7 3).all (fun w => Tgl.contains w) = true) w hw), rfl, (by decide +kernel : ∀ k, k < 3 → parseFieldDescriptor (TX7 k).2.2.1 = some (DDf 12 k)), (lt_s (lt_s (lt_s (lt_0) rfl) rfl) rfl : ∀ k, k < 3 → defaultValue (DDf 12 k) = vp_V (DDd 12) k), (by decide +kernel : ∀ a, a < 3 → ∀ b, b < 3 → a ≠ b → (TX7 a).2.1 ≠ (TX7 b).2.1)⟩
theorem tv_13 : tvP 13 (RX8, TX8, 4) := ⟨fun w hw => List.contains_iff_mem.mp (List.all_eq_true.mp (by decide +kernel : (u_ws RX8 TX8 4).all (fun w => Tgl.contains w) = true) w hw), rfl, (by decide +kernel : ∀ k, k < 4 → parseFieldDescriptor (TX8 k).2.2.1 = some (DDf 13 k)), (lt_s (lt_s (lt_s (lt_s (lt_0) rfl) rfl) rfl) rfl : ∀ k, k < 4 → defaultValue (DDf 13 k) = vp_V (DDd 13) k), (by decide +kernel : ∀ a, a < 4 → ∀ b, b < 4 → a ≠ b → (TX8 a).2.1 ≠ (TX8 b).2.1)⟩
theorem tv_14 : tvP 14 (RX9, TX9, 3) := ⟨fun w hw => List.contains_iff_mem.mp (List.all_eq_true.mp (by decide +kernel : (u_ws RX9 TX9 3).all (fun w => Tgl.contains w) = true) w hw), rfl, (by decide +kernel : ∀ k, k < 3 → parseFieldDescriptor (TX9 k).2.2.1 = some (DDf 14 k)), (lt_s (lt_s (lt_s (lt_0) rfl) rfl) rfl : ∀ k, k < 3 → defaultValue (DDf 14 k) = vp_V (DDd 14) k), (by decide +kernel : ∀ a, a < 3 → ∀ b, b < 3 → a ≠ b → (TX9 a).2.1 ≠ (TX9 b).2.1)⟩
theorem tv_15 : tvP 15 (RX10, TX10, 3) := ⟨fun w hw => List.contains_iff_mem.mp (List.all_eq_true.mp (by decide +kernel : (u_ws RX10 TX10 3).all (fun w => Tgl.contains w) = true) w hw), rfl, (by decide +kernel : ∀ k, k < 3 → parseFieldDescriptor (TX10 k).2.2.1 = some (DDf 15 k)), (lt_s (lt_s (lt_s (lt_0) rfl) rfl) rfl : ∀ k, k < 3 → defaultValue (DDf 15 k) = vp_V (DDd 15) k), (by decide +kernel : ∀ a, a < 3 → ∀ b, b < 3 → a ≠ b → (TX10 a).2.1 ≠ (TX10 b).2.1)⟩
theorem tv_16 : tvP 16 (RX11, TX11, 10) := ⟨fun w hw => List.contains_iff_mem.mp (List.all_eq_true.mp (by decide +kernel : (u_ws RX11 TX11 10).all (fun w => Tgl.contains w) = true) w hw), rfl, (by decide +kernel : ∀ k, k < 10 → parseFieldDescriptor (TX11 k).2.2.1 = some (DDf 16 k)), (lt_s (lt_s (lt_s (lt_s (lt_s (lt_s (lt_s (lt_s (lt_s (lt_s (lt_0) rfl) rfl) rfl) rfl) rfl) rfl) rfl) rfl) rfl) rfl : ∀ k, k < 10 → defaultValue (DDf 16 k) = vp_V (DDd 16) k), (by decide +kernel : ∀ a, a < 10 → ∀ b, b < 10 → a ≠ b → (TX11 a).2.1 ≠ (TX11 b).2.1)⟩
theorem tv_17 : tvP 17 (RX12, TX12, 1) := ⟨fun w hw => List.contains_iff_mem.mp (List.all_eq_true.mp (by decide +kernel : (u_ws RX12 TX12 1).all (fun w => Tgl.contains w) = true) w hw), rfl, (by decide +kernel : ∀ k, k < 1 → parseFieldDescriptor (TX12 k).2.2.1 = some (DDf 17 k)), (lt_s (lt_0) rfl : ∀ k, k < 1 → defaultValue (DDf 17 k) = vp_V (DDd 17) k), (by decide +kernel : ∀ a, a < 1 → ∀ b, b < 1 → a ≠ b → (TX12 a).2.1 ≠ (TX12 b).2.1)⟩
theorem tv_18 : tvP 18 (RX13, TX13, 4) := ⟨fun w hw => List.contains_iff_mem.mp (List.all_eq_true.mp (by decide +kernel : (u_ws RX13 TX13 4).all (fun w => Tgl.contains w) = true) w hw), rfl, (by decide +kernel : ∀ k, k < 4 → parseFieldDescriptor (TX13 k).2.2.1 = some (DDf 18 k)), (lt_s (lt_s (lt_s (lt_s (lt_0) rfl) rfl) rfl) rfl : ∀ k, k < 4 → defaultValue (DDf 18 k) = vp_V (DDd 18) k), (by decide +kernel : ∀ a, a < 4 → ∀ b, b < 4 → a ≠ b → (TX13 a).2.1 ≠ (TX13 b).2.1)⟩
theorem tv_19 : tvP 19 (RX14, TX14, 18) := ⟨fun w hw => List.contains_iff_mem.mp (List.all_eq_true.mp (by decide +kernel : (u_ws RX14 TX14 18).all (fun w => Tgl.contains w) = true) w hw), rfl, (by decide +kernel : ∀ k, k < 18 → parseFieldDescriptor (TX14 k).2.2.1 = some (DDf 19 k)), (lt_s (lt_s (lt_s (lt_s (lt_s (lt_s (lt_s (lt_s (lt_s (lt_s (lt_s (lt_s (lt_s (lt_s (lt_s (lt_s (lt_s (lt_s (lt_0) rfl) rfl) rfl) rfl) rfl) rfl) rfl) rfl) rfl) rfl) rfl) rfl) rfl) rfl) rfl) rfl) rfl) rfl : ∀ k, k < 18 → defaultValue (DDf 19 k) = vp_V (DDd 19) k), (by decide +kernel : ∀ a, a < 18 → ∀ b, b < 18 → a ≠ b → (TX14 a).2.1 ≠ (TX14 b).2.1)⟩
theorem tv_all : ∀ (i : Nat) (r : vw_C), vwCl[i]? = some r → tvP (0 + i) r := ia_cons 0 tv_0 (ia_cons 1 tv_1 (ia_cons 2 tv_2 (ia_cons 3 tv_3 (ia_cons 4 tv_4 (ia_cons 5 tv_5 (ia_cons 6 tv_6 (ia_cons 7 tv_7 (ia_cons 8 tv_8 (ia_cons 9 tv_9 (ia_cons 10 tv_10 (ia_cons 11 tv_11 (ia_cons 12 tv_12 (ia_cons 13 tv_13 (ia_cons 14 tv_14 (ia_cons 15 tv_15 (ia_cons 16 tv_16 (ia_cons 17 tv_17 (ia_cons 18 tv_18 (ia_cons 19 tv_19 (ia_nil 20))))))))))))))))))))
theorem tv_ok (G : va_G) (a0 a1 a2 a3 : ClassId) (n0 : Nat) (em mi ic : Nat) : TV (VV G a0 a1 a2 a3 n0) (DD em mi ic) := ⟨fun ci r h => by
  have := tv_all ci r h
  rw [Nat.zero_add] at this
  exact this, ⟨rfl, rfl, ⟨_, rfl⟩, ⟨_, rfl, rfl⟩, rfl⟩, fun w hw => (List.mem_filter.mp hw).2, fun w hw => nt_tab (List.mem_filter.mp hw).2⟩
theorem st_ok1 (G : va_G) (a0 a1 a2 a3 : ClassId) (n0 : Nat) (em mi ic : Nat) : ∀ (t ci : Nat) (cA : ClassId) (C : String), (vty (VV G a0 a1 a2 a3 n0))[t]? = some (cA, .object C) → (DD em mi ic).2.2.2.1 t ci = true → ∃ r, (vcl (VV G a0 a1 a2 a3 n0))[ci]? = some r ∧ (r.1 = C ∨ Jvm.Cond.castable r.1 C ∈ vNt (VV G a0 a1 a2 a3 n0)) := by
  intro t ci cA C ht hs
  match t, ht, hs with
  | 0, ht, _ => cases ht
  | 1, ht, _ => cases ht
  | 2, ht, hs =>
    cases ht
    have hs : (ci == 7) = true := hs
    obtain rfl := beq_iff_eq.mp hs
    exact ⟨_, rfl, Or.inl rfl⟩
  | 3, ht, hs =>
    cases ht
    have hs : (ci == 2 || ci == 7 || ci == 8 || ci == 10 || ci == 11 || ci == 15 || ci == 18) = true := hs
    simp only [Bool.or_eq_true, beq_iff_eq, or_assoc] at hs
    rcases hs with rfl | rfl | rfl | rfl | rfl | rfl | rfl
    · exact ⟨_, rfl, Or.inr nw_1703⟩
    · exact ⟨_, rfl, Or.inr nw_1702⟩
    · exact ⟨_, rfl, Or.inr nw_1718⟩
    · exact ⟨_, rfl, Or.inr nw_1722⟩
    · exact ⟨_, rfl, Or.inr nw_1721⟩
    · exact ⟨_, rfl, Or.inr nw_1716⟩
    · exact ⟨_, rfl, Or.inr nw_1719⟩
  | n + 4, ht, _ => cases ht
theorem st_ok (G : va_G) (a0 a1 a2 a3 : ClassId) (n0 : Nat) (em mi ic : Nat) : StOk (VV G a0 a1 a2 a3 n0) (DD em mi ic) := ⟨st_ok1 G a0 a1 a2 a3 n0 em mi ic, by
  intro t cA C ht hs
  match t, ht, hs with
  | 0, ht, _ => cases ht
  | 1, ht, _ => cases ht
  | 2, ht, hs => cases hs
  | 3, ht, hs => (cases ht; exact nw_1730)
  | n + 4, ht, _ => cases ht⟩
theorem nw_ok (G : va_G) (a0 a1 a2 a3 : ClassId) (n0 : Nat) (em mi ic : Nat) : NW (VV G a0 a1 a2 a3 n0) := fun w hw s U hZ hW => nt_warm (List.mem_filter.mp hw).2 hZ hW
theorem all_ok (G : va_G) (a0 a1 a2 a3 : ClassId) (n0 : Nat) (em mi ic : Nat) : AllOk (VV G a0 a1 a2 a3 n0) (DD em mi ic) := ⟨tv_ok G a0 a1 a2 a3 n0 em mi ic, st_ok G a0 a1 a2 a3 n0 em mi ic, nw_ok G a0 a1 a2 a3 n0 em mi ic, fun y => by
  by_cases h : y < 224
  · exact Or.inr (om_all G a0 a1 a2 a3 n0 em mi ic y h)
  · refine Or.inl (fun t => ?_)
    have e : mtab.getD y mdead = mdead := by
      rw [List.getD_eq_getElem?_getD, List.getElem?_eq_none (by rw [show mtab.length = 224 from rfl]; omega)]
      rfl
    show ((mtab.getD y mdead).2.2.1 t).1 = []
    rw [e]
    rfl⟩
theorem x_all {A : Array Value} {s : State} (hts : ∀ w ∈ lw_tbl, w.before A s = true) : ∀ w ∈ lw_all, w.before A s = true := by
  intro w hw
  rcases List.mem_append.mp hw with hw | hw
  · exact hts w hw
  · obtain rfl := List.mem_singleton.mp hw
    exact sel_priv (z := ⟨"java/lang/AbstractStringBuilder", "isLatin1", "()Z"⟩) (n := 4) ⟨by decide, by decide⟩ rfl (hts _ (by decide +kernel)) (hts _ (by decide +kernel)) (hts _ (by decide +kernel)) (hts _ (by decide +kernel))
