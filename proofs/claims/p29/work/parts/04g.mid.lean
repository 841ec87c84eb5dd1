theorem castO (j : Nat) {nm : String} (hj : (vwCl[j]?.map (·.1)) = some nm) : ∀ c, DDc j c = true → ∃ r : vw_C, vwCl[c]? = some r ∧ r.1 = nm := by
  intro c hc
  simp only [DDc, Bool.and_eq_true, beq_iff_eq] at hc
  obtain ⟨rfl, -⟩ := hc
  cases h : vwCl[j]? with
  | none => rw [h] at hj; cases hj
  | some r => rw [h] at hj; exact ⟨r, rfl, Option.some.inj hj⟩
theorem castA (j : Nat) {nm : String} (hj : (j == 100) = false) : ∀ t, DDa j t = true → t = 0 ∧ nm = "[I" := by
  intro t ht
  simp [DDa, hj] at ht
theorem cast100a : ∀ c, DDc 100 c = true → ∃ r : vw_C, vwCl[c]? = some r ∧ r.1 = "[I" := by
  intro c h
  simp only [DDc, Bool.and_eq_true, beq_iff_eq, decide_eq_true_eq] at h
  obtain ⟨rfl, h⟩ := h
  omega
theorem cast100b : ∀ t, DDa 100 t = true → t = 0 ∧ "[I" = "[I" := by
  intro t h
  simp only [DDa, Bool.and_eq_true, beq_iff_eq] at h
  exact ⟨h.2, rfl⟩
theorem cp_1 : (parseMethodDescriptor "([I)LTwelvehundred;").map (fun d => d.parameters.length) = some 1 := by decide +kernel
theorem ce_1 (G : va_G) (a0 a1 a2 a3 : ClassId) (n0 : Nat) (em mi ic : Nat) : CalleeOk (VV G a0 a1 a2 a3 n0) (DD em mi ic) 1 1 := ⟨tw_576, tw_16, (by decide : "TwelvehundredLaw" ≠ "java/lang/invoke/MethodHandle"), (by decide : "TwelvehundredLaw" ≠ "java/lang/invoke/VarHandle"), cp_1, (by decide : 6 ≤ 22)⟩
theorem cp_2 : (parseMethodDescriptor "()J").map (fun d => d.parameters.length) = some 0 := by decide +kernel
theorem ce_2 (G : va_G) (a0 a1 a2 a3 : ClassId) (n0 : Nat) (em mi ic : Nat) : CalleeOk (VV G a0 a1 a2 a3 n0) (DD em mi ic) 2 0 := ⟨tw_292, tw_17, (by decide : "Twelvehundred" ≠ "java/lang/invoke/MethodHandle"), (by decide : "Twelvehundred" ≠ "java/lang/invoke/VarHandle"), cp_2, (by decide : 5 ≤ 22)⟩
theorem cp_3 : (parseMethodDescriptor "([II)I").map (fun d => d.parameters.length) = some 2 := by decide +kernel
theorem ce_3 (G : va_G) (a0 a1 a2 a3 : ClassId) (n0 : Nat) (em mi ic : Nat) : CalleeOk (VV G a0 a1 a2 a3 n0) (DD em mi ic) 3 2 := ⟨tw_572, tw_16, (by decide : "TwelvehundredLaw" ≠ "java/lang/invoke/MethodHandle"), (by decide : "TwelvehundredLaw" ≠ "java/lang/invoke/VarHandle"), cp_3, (by decide : 2 ≤ 22)⟩
theorem cp_4 : (parseMethodDescriptor "(I)I").map (fun d => d.parameters.length) = some 1 := by decide +kernel
theorem ce_4 (G : va_G) (a0 a1 a2 a3 : ClassId) (n0 : Nat) (em mi ic : Nat) : CalleeOk (VV G a0 a1 a2 a3 n0) (DD em mi ic) 4 1 := ⟨tw_53, tw_17, (by decide : "Twelvehundred" ≠ "java/lang/invoke/MethodHandle"), (by decide : "Twelvehundred" ≠ "java/lang/invoke/VarHandle"), cp_4, (by decide : 2 ≤ 22)⟩
theorem cp_5 : (parseMethodDescriptor "(LTwelvehundred;I)Z").map (fun d => d.parameters.length) = some 2 := by decide +kernel
theorem ce_5 (G : va_G) (a0 a1 a2 a3 : ClassId) (n0 : Nat) (em mi ic : Nat) : CalleeOk (VV G a0 a1 a2 a3 n0) (DD em mi ic) 5 2 := ⟨tw_963, tw_16, (by decide : "TwelvehundredLaw" ≠ "java/lang/invoke/MethodHandle"), (by decide : "TwelvehundredLaw" ≠ "java/lang/invoke/VarHandle"), cp_5, (by decide : 4 ≤ 22)⟩
theorem cp_6 : (parseMethodDescriptor "(II)I").map (fun d => d.parameters.length) = some 2 := by decide +kernel
theorem ce_6 (G : va_G) (a0 a1 a2 a3 : ClassId) (n0 : Nat) (em mi ic : Nat) : CalleeOk (VV G a0 a1 a2 a3 n0) (DD em mi ic) 6 2 := ⟨tw_568, tw_16, (by decide : "TwelvehundredLaw" ≠ "java/lang/invoke/MethodHandle"), (by decide : "TwelvehundredLaw" ≠ "java/lang/invoke/VarHandle"), cp_6, (by decide : 2 ≤ 22)⟩
theorem cp_7 : (parseMethodDescriptor "(LTwelvehundred;)Z").map (fun d => d.parameters.length) = some 1 := by decide +kernel
theorem ce_7 (G : va_G) (a0 a1 a2 a3 : ClassId) (n0 : Nat) (em mi ic : Nat) : CalleeOk (VV G a0 a1 a2 a3 n0) (DD em mi ic) 7 1 := ⟨tw_1077, tw_16, (by decide : "TwelvehundredLaw" ≠ "java/lang/invoke/MethodHandle"), (by decide : "TwelvehundredLaw" ≠ "java/lang/invoke/VarHandle"), cp_7, (by decide : 6 ≤ 22)⟩
theorem cp_8 : (parseMethodDescriptor "(LTwelvehundred;)Z").map (fun d => d.parameters.length) = some 1 := by decide +kernel
theorem ce_8 (G : va_G) (a0 a1 a2 a3 : ClassId) (n0 : Nat) (em mi ic : Nat) : CalleeOk (VV G a0 a1 a2 a3 n0) (DD em mi ic) 8 1 := ⟨tw_1103, tw_16, (by decide : "TwelvehundredLaw" ≠ "java/lang/invoke/MethodHandle"), (by decide : "TwelvehundredLaw" ≠ "java/lang/invoke/VarHandle"), cp_8, (by decide : 6 ≤ 22)⟩
theorem cp_9 : (parseMethodDescriptor "(LTwelvehundred;)Z").map (fun d => d.parameters.length) = some 1 := by decide +kernel
theorem ce_9 (G : va_G) (a0 a1 a2 a3 : ClassId) (n0 : Nat) (em mi ic : Nat) : CalleeOk (VV G a0 a1 a2 a3 n0) (DD em mi ic) 9 1 := ⟨tw_1091, tw_16, (by decide : "TwelvehundredLaw" ≠ "java/lang/invoke/MethodHandle"), (by decide : "TwelvehundredLaw" ≠ "java/lang/invoke/VarHandle"), cp_9, (by decide : 12 ≤ 22)⟩
theorem cp_10 : (parseMethodDescriptor "()Z").map (fun d => d.parameters.length) = some 0 := by decide +kernel
theorem ce_10 (G : va_G) (a0 a1 a2 a3 : ClassId) (n0 : Nat) (em mi ic : Nat) : CalleeOk (VV G a0 a1 a2 a3 n0) (DD em mi ic) 10 0 := ⟨tw_180, tw_17, (by decide : "Twelvehundred" ≠ "java/lang/invoke/MethodHandle"), (by decide : "Twelvehundred" ≠ "java/lang/invoke/VarHandle"), cp_10, (by decide : 1 ≤ 22)⟩
theorem cp_11 : (parseMethodDescriptor "()V").map (fun d => d.parameters.length) = some 0 := by decide +kernel
theorem ce_11 (G : va_G) (a0 a1 a2 a3 : ClassId) (n0 : Nat) (em mi ic : Nat) : CalleeOk (VV G a0 a1 a2 a3 n0) (DD em mi ic) 11 0 := ⟨tw_580, tw_17, (by decide : "Twelvehundred" ≠ "java/lang/invoke/MethodHandle"), (by decide : "Twelvehundred" ≠ "java/lang/invoke/VarHandle"), cp_11, (by decide : 5 ≤ 22)⟩
theorem cp_12 : (parseMethodDescriptor "(II)I").map (fun d => d.parameters.length) = some 2 := by decide +kernel
theorem ce_12 (G : va_G) (a0 a1 a2 a3 : ClassId) (n0 : Nat) (em mi ic : Nat) : CalleeOk (VV G a0 a1 a2 a3 n0) (DD em mi ic) 12 2 := ⟨tw_762, tw_17, (by decide : "Twelvehundred" ≠ "java/lang/invoke/MethodHandle"), (by decide : "Twelvehundred" ≠ "java/lang/invoke/VarHandle"), cp_12, (by decide : 4 ≤ 22)⟩
theorem cp_13 : (parseMethodDescriptor "(II)I").map (fun d => d.parameters.length) = some 2 := by decide +kernel
theorem ce_13 (G : va_G) (a0 a1 a2 a3 : ClassId) (n0 : Nat) (em mi ic : Nat) : CalleeOk (VV G a0 a1 a2 a3 n0) (DD em mi ic) 13 2 := ⟨tw_853, tw_17, (by decide : "Twelvehundred" ≠ "java/lang/invoke/MethodHandle"), (by decide : "Twelvehundred" ≠ "java/lang/invoke/VarHandle"), cp_13, (by decide : 4 ≤ 22)⟩
theorem cp_14 : (parseMethodDescriptor "(I)I").map (fun d => d.parameters.length) = some 1 := by decide +kernel
theorem ce_14 (G : va_G) (a0 a1 a2 a3 : ClassId) (n0 : Nat) (em mi ic : Nat) : CalleeOk (VV G a0 a1 a2 a3 n0) (DD em mi ic) 14 1 := ⟨tw_916, tw_17, (by decide : "Twelvehundred" ≠ "java/lang/invoke/MethodHandle"), (by decide : "Twelvehundred" ≠ "java/lang/invoke/VarHandle"), cp_14, (by decide : 3 ≤ 22)⟩
theorem cp_15 : (parseMethodDescriptor "(IIZ)I").map (fun d => d.parameters.length) = some 3 := by decide +kernel
theorem ce_15 (G : va_G) (a0 a1 a2 a3 : ClassId) (n0 : Nat) (em mi ic : Nat) : CalleeOk (VV G a0 a1 a2 a3 n0) (DD em mi ic) 15 3 := ⟨tw_921, tw_17, (by decide : "Twelvehundred" ≠ "java/lang/invoke/MethodHandle"), (by decide : "Twelvehundred" ≠ "java/lang/invoke/VarHandle"), cp_15, (by decide : 6 ≤ 22)⟩
theorem cp_16 : (parseMethodDescriptor "(II)I").map (fun d => d.parameters.length) = some 2 := by decide +kernel
theorem ce_16 (G : va_G) (a0 a1 a2 a3 : ClassId) (n0 : Nat) (em mi ic : Nat) : CalleeOk (VV G a0 a1 a2 a3 n0) (DD em mi ic) 16 2 := ⟨tw_959, tw_17, (by decide : "Twelvehundred" ≠ "java/lang/invoke/MethodHandle"), (by decide : "Twelvehundred" ≠ "java/lang/invoke/VarHandle"), cp_16, (by decide : 4 ≤ 22)⟩
theorem cp_17 : (parseMethodDescriptor "()I").map (fun d => d.parameters.length) = some 0 := by decide +kernel
theorem ce_17 (G : va_G) (a0 a1 a2 a3 : ClassId) (n0 : Nat) (em mi ic : Nat) : CalleeOk (VV G a0 a1 a2 a3 n0) (DD em mi ic) 17 0 := ⟨tw_57, tw_21, (by decide : "java/util/ArrayList" ≠ "java/lang/invoke/MethodHandle"), (by decide : "java/util/ArrayList" ≠ "java/lang/invoke/VarHandle"), cp_17, (by decide : 1 ≤ 22)⟩
theorem cp_18 : (parseMethodDescriptor "(II)I").map (fun d => d.parameters.length) = some 2 := by decide +kernel
theorem ce_18 (G : va_G) (a0 a1 a2 a3 : ClassId) (n0 : Nat) (em mi ic : Nat) : CalleeOk (VV G a0 a1 a2 a3 n0) (DD em mi ic) 18 2 := ⟨tw_299, tw_17, (by decide : "Twelvehundred" ≠ "java/lang/invoke/MethodHandle"), (by decide : "Twelvehundred" ≠ "java/lang/invoke/VarHandle"), cp_18, (by decide : 4 ≤ 22)⟩
theorem cp_19 : (parseMethodDescriptor "(II)I").map (fun d => d.parameters.length) = some 2 := by decide +kernel
theorem ce_19 (G : va_G) (a0 a1 a2 a3 : ClassId) (n0 : Nat) (em mi ic : Nat) : CalleeOk (VV G a0 a1 a2 a3 n0) (DD em mi ic) 19 2 := ⟨tw_329, tw_17, (by decide : "Twelvehundred" ≠ "java/lang/invoke/MethodHandle"), (by decide : "Twelvehundred" ≠ "java/lang/invoke/VarHandle"), cp_19, (by decide : 5 ≤ 22)⟩
theorem cp_20 : (parseMethodDescriptor "(II)I").map (fun d => d.parameters.length) = some 2 := by decide +kernel
theorem ce_20 (G : va_G) (a0 a1 a2 a3 : ClassId) (n0 : Nat) (em mi ic : Nat) : CalleeOk (VV G a0 a1 a2 a3 n0) (DD em mi ic) 20 2 := ⟨tw_338, tw_17, (by decide : "Twelvehundred" ≠ "java/lang/invoke/MethodHandle"), (by decide : "Twelvehundred" ≠ "java/lang/invoke/VarHandle"), cp_20, (by decide : 4 ≤ 22)⟩
theorem cp_21 : (parseMethodDescriptor "(II)I").map (fun d => d.parameters.length) = some 2 := by decide +kernel
theorem ce_21 (G : va_G) (a0 a1 a2 a3 : ClassId) (n0 : Nat) (em mi ic : Nat) : CalleeOk (VV G a0 a1 a2 a3 n0) (DD em mi ic) 21 2 := ⟨tw_346, tw_17, (by decide : "Twelvehundred" ≠ "java/lang/invoke/MethodHandle"), (by decide : "Twelvehundred" ≠ "java/lang/invoke/VarHandle"), cp_21, (by decide : 4 ≤ 22)⟩
theorem cp_22 : (parseMethodDescriptor "()I").map (fun d => d.parameters.length) = some 0 := by decide +kernel
theorem ce_22 (G : va_G) (a0 a1 a2 a3 : ClassId) (n0 : Nat) (em mi ic : Nat) : CalleeOk (VV G a0 a1 a2 a3 n0) (DD em mi ic) 22 0 := ⟨tw_353, tw_17, (by decide : "Twelvehundred" ≠ "java/lang/invoke/MethodHandle"), (by decide : "Twelvehundred" ≠ "java/lang/invoke/VarHandle"), cp_22, (by decide : 1 ≤ 22)⟩
theorem cp_23 : (parseMethodDescriptor "(II)I").map (fun d => d.parameters.length) = some 2 := by decide +kernel
theorem ce_23 (G : va_G) (a0 a1 a2 a3 : ClassId) (n0 : Nat) (em mi ic : Nat) : CalleeOk (VV G a0 a1 a2 a3 n0) (DD em mi ic) 23 2 := ⟨tw_357, tw_17, (by decide : "Twelvehundred" ≠ "java/lang/invoke/MethodHandle"), (by decide : "Twelvehundred" ≠ "java/lang/invoke/VarHandle"), cp_23, (by decide : 3 ≤ 22)⟩
theorem cp_24 : (parseMethodDescriptor "()Ljava/lang/String;").map (fun d => d.parameters.length) = some 0 := by decide +kernel
theorem ce_24 (G : va_G) (a0 a1 a2 a3 : ClassId) (n0 : Nat) (em mi ic : Nat) : CalleeOk (VV G a0 a1 a2 a3 n0) (DD em mi ic) 24 0 := ⟨tw_368, tw_17, (by decide : "Twelvehundred" ≠ "java/lang/invoke/MethodHandle"), (by decide : "Twelvehundred" ≠ "java/lang/invoke/VarHandle"), cp_24, (by decide : 3 ≤ 22)⟩
theorem cp_25 : (parseMethodDescriptor "()I").map (fun d => d.parameters.length) = some 0 := by decide +kernel
theorem ce_25 (G : va_G) (a0 a1 a2 a3 : ClassId) (n0 : Nat) (em mi ic : Nat) : CalleeOk (VV G a0 a1 a2 a3 n0) (DD em mi ic) 25 0 := ⟨tw_560, tw_45, (by decide : "java/lang/String" ≠ "java/lang/invoke/MethodHandle"), (by decide : "java/lang/String" ≠ "java/lang/invoke/VarHandle"), cp_25, (by decide : 1 ≤ 22)⟩
theorem cp_26 : (parseMethodDescriptor "(Z)I").map (fun d => d.parameters.length) = some 1 := by decide +kernel
theorem ce_26 (G : va_G) (a0 a1 a2 a3 : ClassId) (n0 : Nat) (em mi ic : Nat) : CalleeOk (VV G a0 a1 a2 a3 n0) (DD em mi ic) 26 1 := ⟨tw_80, tw_17, (by decide : "Twelvehundred" ≠ "java/lang/invoke/MethodHandle"), (by decide : "Twelvehundred" ≠ "java/lang/invoke/VarHandle"), cp_26, (by decide : 1 ≤ 22)⟩
theorem cp_27 : (parseMethodDescriptor "(I)I").map (fun d => d.parameters.length) = some 1 := by decide +kernel
theorem ce_27 (G : va_G) (a0 a1 a2 a3 : ClassId) (n0 : Nat) (em mi ic : Nat) : CalleeOk (VV G a0 a1 a2 a3 n0) (DD em mi ic) 27 1 := ⟨tw_61, tw_23, (by decide : "Twelvehundred$Rescue" ≠ "java/lang/invoke/MethodHandle"), (by decide : "Twelvehundred$Rescue" ≠ "java/lang/invoke/VarHandle"), cp_27, (by decide : 4 ≤ 22)⟩
theorem cp_28 : (parseMethodDescriptor "(I)I").map (fun d => d.parameters.length) = some 1 := by decide +kernel
theorem ce_28 (G : va_G) (a0 a1 a2 a3 : ClassId) (n0 : Nat) (em mi ic : Nat) : CalleeOk (VV G a0 a1 a2 a3 n0) (DD em mi ic) 28 1 := ⟨tw_84, tw_25, (by decide : "Twelvehundred$Larder" ≠ "java/lang/invoke/MethodHandle"), (by decide : "Twelvehundred$Larder" ≠ "java/lang/invoke/VarHandle"), cp_28, (by decide : 5 ≤ 22)⟩
theorem cp_29 : (parseMethodDescriptor "()I").map (fun d => d.parameters.length) = some 0 := by decide +kernel
theorem ce_29 (G : va_G) (a0 a1 a2 a3 : ClassId) (n0 : Nat) (em mi ic : Nat) : CalleeOk (VV G a0 a1 a2 a3 n0) (DD em mi ic) 29 0 := ⟨tw_91, tw_26, (by decide : "Twelvehundred$Bulletin" ≠ "java/lang/invoke/MethodHandle"), (by decide : "Twelvehundred$Bulletin" ≠ "java/lang/invoke/VarHandle"), cp_29, (by decide : 6 ≤ 22)⟩
theorem cp_30 : (parseMethodDescriptor "(II)I").map (fun d => d.parameters.length) = some 2 := by decide +kernel
theorem ce_30 (G : va_G) (a0 a1 a2 a3 : ClassId) (n0 : Nat) (em mi ic : Nat) : CalleeOk (VV G a0 a1 a2 a3 n0) (DD em mi ic) 30 2 := ⟨tw_425, tw_34, (by decide : "java/lang/Math" ≠ "java/lang/invoke/MethodHandle"), (by decide : "java/lang/Math" ≠ "java/lang/invoke/VarHandle"), cp_30, (by decide : 2 ≤ 22)⟩
theorem cp_31 : (parseMethodDescriptor "(I)I").map (fun d => d.parameters.length) = some 1 := by decide +kernel
theorem ce_31 (G : va_G) (a0 a1 a2 a3 : ClassId) (n0 : Nat) (em mi ic : Nat) : CalleeOk (VV G a0 a1 a2 a3 n0) (DD em mi ic) 31 1 := ⟨tw_970, tw_17, (by decide : "Twelvehundred" ≠ "java/lang/invoke/MethodHandle"), (by decide : "Twelvehundred" ≠ "java/lang/invoke/VarHandle"), cp_31, (by decide : 4 ≤ 22)⟩
theorem cp_32 : (parseMethodDescriptor "(I)I").map (fun d => d.parameters.length) = some 1 := by decide +kernel
theorem ce_32 (G : va_G) (a0 a1 a2 a3 : ClassId) (n0 : Nat) (em mi ic : Nat) : CalleeOk (VV G a0 a1 a2 a3 n0) (DD em mi ic) 32 1 := ⟨tw_991, tw_17, (by decide : "Twelvehundred" ≠ "java/lang/invoke/MethodHandle"), (by decide : "Twelvehundred" ≠ "java/lang/invoke/VarHandle"), cp_32, (by decide : 3 ≤ 22)⟩
theorem cp_33 : (parseMethodDescriptor "(I)I").map (fun d => d.parameters.length) = some 1 := by decide +kernel
theorem ce_33 (G : va_G) (a0 a1 a2 a3 : ClassId) (n0 : Nat) (em mi ic : Nat) : CalleeOk (VV G a0 a1 a2 a3 n0) (DD em mi ic) 33 1 := ⟨tw_53, tw_17, (by decide : "Twelvehundred" ≠ "java/lang/invoke/MethodHandle"), (by decide : "Twelvehundred" ≠ "java/lang/invoke/VarHandle"), cp_33, (by decide : 2 ≤ 22)⟩
theorem cp_34 : (parseMethodDescriptor "(IIZ)I").map (fun d => d.parameters.length) = some 3 := by decide +kernel
theorem ce_34 (G : va_G) (a0 a1 a2 a3 : ClassId) (n0 : Nat) (em mi ic : Nat) : CalleeOk (VV G a0 a1 a2 a3 n0) (DD em mi ic) 34 3 := ⟨tw_921, tw_17, (by decide : "Twelvehundred" ≠ "java/lang/invoke/MethodHandle"), (by decide : "Twelvehundred" ≠ "java/lang/invoke/VarHandle"), cp_34, (by decide : 6 ≤ 22)⟩
theorem cp_35 : (parseMethodDescriptor "(II)I").map (fun d => d.parameters.length) = some 2 := by decide +kernel
theorem ce_35 (G : va_G) (a0 a1 a2 a3 : ClassId) (n0 : Nat) (em mi ic : Nat) : CalleeOk (VV G a0 a1 a2 a3 n0) (DD em mi ic) 35 2 := ⟨tw_996, tw_17, (by decide : "Twelvehundred" ≠ "java/lang/invoke/MethodHandle"), (by decide : "Twelvehundred" ≠ "java/lang/invoke/VarHandle"), cp_35, (by decide : 5 ≤ 22)⟩
theorem cp_36 : (parseMethodDescriptor "(II)I").map (fun d => d.parameters.length) = some 2 := by decide +kernel
theorem ce_36 (G : va_G) (a0 a1 a2 a3 : ClassId) (n0 : Nat) (em mi ic : Nat) : CalleeOk (VV G a0 a1 a2 a3 n0) (DD em mi ic) 36 2 := ⟨tw_959, tw_17, (by decide : "Twelvehundred" ≠ "java/lang/invoke/MethodHandle"), (by decide : "Twelvehundred" ≠ "java/lang/invoke/VarHandle"), cp_36, (by decide : 4 ≤ 22)⟩
theorem cp_37 : (parseMethodDescriptor "(I)I").map (fun d => d.parameters.length) = some 1 := by decide +kernel
theorem ce_37 (G : va_G) (a0 a1 a2 a3 : ClassId) (n0 : Nat) (em mi ic : Nat) : CalleeOk (VV G a0 a1 a2 a3 n0) (DD em mi ic) 37 1 := ⟨tw_916, tw_17, (by decide : "Twelvehundred" ≠ "java/lang/invoke/MethodHandle"), (by decide : "Twelvehundred" ≠ "java/lang/invoke/VarHandle"), cp_37, (by decide : 3 ≤ 22)⟩
theorem cp_38 : (parseMethodDescriptor "(II)I").map (fun d => d.parameters.length) = some 2 := by decide +kernel
theorem ce_38 (G : va_G) (a0 a1 a2 a3 : ClassId) (n0 : Nat) (em mi ic : Nat) : CalleeOk (VV G a0 a1 a2 a3 n0) (DD em mi ic) 38 2 := ⟨tw_1001, tw_17, (by decide : "Twelvehundred" ≠ "java/lang/invoke/MethodHandle"), (by decide : "Twelvehundred" ≠ "java/lang/invoke/VarHandle"), cp_38, (by decide : 4 ≤ 22)⟩
theorem cp_39 : (parseMethodDescriptor "(I)I").map (fun d => d.parameters.length) = some 1 := by decide +kernel
theorem ce_39 (G : va_G) (a0 a1 a2 a3 : ClassId) (n0 : Nat) (em mi ic : Nat) : CalleeOk (VV G a0 a1 a2 a3 n0) (DD em mi ic) 39 1 := ⟨tw_1026, tw_17, (by decide : "Twelvehundred" ≠ "java/lang/invoke/MethodHandle"), (by decide : "Twelvehundred" ≠ "java/lang/invoke/VarHandle"), cp_39, (by decide : 2 ≤ 22)⟩
theorem cp_40 : (parseMethodDescriptor "(I)I").map (fun d => d.parameters.length) = some 1 := by decide +kernel
theorem ce_40 (G : va_G) (a0 a1 a2 a3 : ClassId) (n0 : Nat) (em mi ic : Nat) : CalleeOk (VV G a0 a1 a2 a3 n0) (DD em mi ic) 40 1 := ⟨tw_1039, tw_16, (by decide : "TwelvehundredLaw" ≠ "java/lang/invoke/MethodHandle"), (by decide : "TwelvehundredLaw" ≠ "java/lang/invoke/VarHandle"), cp_40, (by decide : 3 ≤ 22)⟩
theorem cp_41 : (parseMethodDescriptor "(I)I").map (fun d => d.parameters.length) = some 1 := by decide +kernel
theorem ce_41 (G : va_G) (a0 a1 a2 a3 : ClassId) (n0 : Nat) (em mi ic : Nat) : CalleeOk (VV G a0 a1 a2 a3 n0) (DD em mi ic) 41 1 := ⟨tw_1043, tw_17, (by decide : "Twelvehundred" ≠ "java/lang/invoke/MethodHandle"), (by decide : "Twelvehundred" ≠ "java/lang/invoke/VarHandle"), cp_41, (by decide : 3 ≤ 22)⟩
theorem cp_42 : (parseMethodDescriptor "(IZ)I").map (fun d => d.parameters.length) = some 2 := by decide +kernel
theorem ce_42 (G : va_G) (a0 a1 a2 a3 : ClassId) (n0 : Nat) (em mi ic : Nat) : CalleeOk (VV G a0 a1 a2 a3 n0) (DD em mi ic) 42 2 := ⟨tw_1073, tw_17, (by decide : "Twelvehundred" ≠ "java/lang/invoke/MethodHandle"), (by decide : "Twelvehundred" ≠ "java/lang/invoke/VarHandle"), cp_42, (by decide : 3 ≤ 22)⟩
theorem cp_43 : (parseMethodDescriptor "(I)I").map (fun d => d.parameters.length) = some 1 := by decide +kernel
theorem ce_43 (G : va_G) (a0 a1 a2 a3 : ClassId) (n0 : Nat) (em mi ic : Nat) : CalleeOk (VV G a0 a1 a2 a3 n0) (DD em mi ic) 43 1 := ⟨tw_194, tw_40, (by decide : "java/lang/Integer" ≠ "java/lang/invoke/MethodHandle"), (by decide : "java/lang/Integer" ≠ "java/lang/invoke/VarHandle"), cp_43, (by decide : 1 ≤ 22)⟩
theorem cp_44 : (parseMethodDescriptor "(LTwelvehundred;II)I").map (fun d => d.parameters.length) = some 3 := by decide +kernel
theorem ce_44 (G : va_G) (a0 a1 a2 a3 : ClassId) (n0 : Nat) (em mi ic : Nat) : CalleeOk (VV G a0 a1 a2 a3 n0) (DD em mi ic) 44 3 := ⟨tw_1083, tw_16, (by decide : "TwelvehundredLaw" ≠ "java/lang/invoke/MethodHandle"), (by decide : "TwelvehundredLaw" ≠ "java/lang/invoke/VarHandle"), cp_44, (by decide : 3 ≤ 22)⟩
theorem cp_45 : (parseMethodDescriptor "(LTwelvehundred;I)I").map (fun d => d.parameters.length) = some 2 := by decide +kernel
theorem ce_45 (G : va_G) (a0 a1 a2 a3 : ClassId) (n0 : Nat) (em mi ic : Nat) : CalleeOk (VV G a0 a1 a2 a3 n0) (DD em mi ic) 45 2 := ⟨tw_1088, tw_16, (by decide : "TwelvehundredLaw" ≠ "java/lang/invoke/MethodHandle"), (by decide : "TwelvehundredLaw" ≠ "java/lang/invoke/VarHandle"), cp_45, (by decide : 2 ≤ 22)⟩
theorem cp_46 : (parseMethodDescriptor "(I)Z").map (fun d => d.parameters.length) = some 1 := by decide +kernel
theorem ce_46 (G : va_G) (a0 a1 a2 a3 : ClassId) (n0 : Nat) (em mi ic : Nat) : CalleeOk (VV G a0 a1 a2 a3 n0) (DD em mi ic) 46 1 := ⟨tw_1108, tw_17, (by decide : "Twelvehundred" ≠ "java/lang/invoke/MethodHandle"), (by decide : "Twelvehundred" ≠ "java/lang/invoke/VarHandle"), cp_46, (by decide : 2 ≤ 22)⟩
theorem cp_47 : (parseMethodDescriptor "(I)Z").map (fun d => d.parameters.length) = some 1 := by decide +kernel
theorem ce_47 (G : va_G) (a0 a1 a2 a3 : ClassId) (n0 : Nat) (em mi ic : Nat) : CalleeOk (VV G a0 a1 a2 a3 n0) (DD em mi ic) 47 1 := ⟨tw_1095, tw_17, (by decide : "Twelvehundred" ≠ "java/lang/invoke/MethodHandle"), (by decide : "Twelvehundred" ≠ "java/lang/invoke/VarHandle"), cp_47, (by decide : 2 ≤ 22)⟩
theorem cp_48 : (parseMethodDescriptor "()Z").map (fun d => d.parameters.length) = some 0 := by decide +kernel
theorem ce_48 (G : va_G) (a0 a1 a2 a3 : ClassId) (n0 : Nat) (em mi ic : Nat) : CalleeOk (VV G a0 a1 a2 a3 n0) (DD em mi ic) 48 0 := ⟨tw_184, tw_22, (by decide : "Twelvehundred$Placing" ≠ "java/lang/invoke/MethodHandle"), (by decide : "Twelvehundred$Placing" ≠ "java/lang/invoke/VarHandle"), cp_48, (by decide : 3 ≤ 22)⟩
theorem cp_49 : (parseMethodDescriptor "()Z").map (fun d => d.parameters.length) = some 0 := by decide +kernel
theorem ce_49 (G : va_G) (a0 a1 a2 a3 : ClassId) (n0 : Nat) (em mi ic : Nat) : CalleeOk (VV G a0 a1 a2 a3 n0) (DD em mi ic) 49 0 := ⟨tw_201, tw_22, (by decide : "Twelvehundred$Placing" ≠ "java/lang/invoke/MethodHandle"), (by decide : "Twelvehundred$Placing" ≠ "java/lang/invoke/VarHandle"), cp_49, (by decide : 2 ≤ 22)⟩
theorem cp_50 : (parseMethodDescriptor "()V").map (fun d => d.parameters.length) = some 0 := by decide +kernel
theorem ce_50 (G : va_G) (a0 a1 a2 a3 : ClassId) (n0 : Nat) (em mi ic : Nat) : CalleeOk (VV G a0 a1 a2 a3 n0) (DD em mi ic) 50 0 := ⟨tw_238, tw_22, (by decide : "Twelvehundred$Placing" ≠ "java/lang/invoke/MethodHandle"), (by decide : "Twelvehundred$Placing" ≠ "java/lang/invoke/VarHandle"), cp_50, (by decide : 2 ≤ 22)⟩
theorem cp_51 : (parseMethodDescriptor "(LTwelvehundred$Placing;LTwelvehundred$Placing;I)Z").map (fun d => d.parameters.length) = some 3 := by decide +kernel
theorem ce_51 (G : va_G) (a0 a1 a2 a3 : ClassId) (n0 : Nat) (em mi ic : Nat) : CalleeOk (VV G a0 a1 a2 a3 n0) (DD em mi ic) 51 3 := ⟨tw_241, tw_22, (by decide : "Twelvehundred$Placing" ≠ "java/lang/invoke/MethodHandle"), (by decide : "Twelvehundred$Placing" ≠ "java/lang/invoke/VarHandle"), cp_51, (by decide : 6 ≤ 22)⟩
theorem cp_52 : (parseMethodDescriptor "()I").map (fun d => d.parameters.length) = some 0 := by decide +kernel
theorem ce_52 (G : va_G) (a0 a1 a2 a3 : ClassId) (n0 : Nat) (em mi ic : Nat) : CalleeOk (VV G a0 a1 a2 a3 n0) (DD em mi ic) 52 0 := ⟨tw_255, tw_23, (by decide : "Twelvehundred$Rescue" ≠ "java/lang/invoke/MethodHandle"), (by decide : "Twelvehundred$Rescue" ≠ "java/lang/invoke/VarHandle"), cp_52, (by decide : 5 ≤ 22)⟩
theorem cp_53 : (parseMethodDescriptor "(I)I").map (fun d => d.parameters.length) = some 1 := by decide +kernel
theorem ce_53 (G : va_G) (a0 a1 a2 a3 : ClassId) (n0 : Nat) (em mi ic : Nat) : CalleeOk (VV G a0 a1 a2 a3 n0) (DD em mi ic) 53 1 := ⟨tw_279, tw_23, (by decide : "Twelvehundred$Rescue" ≠ "java/lang/invoke/MethodHandle"), (by decide : "Twelvehundred$Rescue" ≠ "java/lang/invoke/VarHandle"), cp_53, (by decide : 4 ≤ 22)⟩
theorem cp_54 : (parseMethodDescriptor "(I)Z").map (fun d => d.parameters.length) = some 1 := by decide +kernel
theorem ce_54 (G : va_G) (a0 a1 a2 a3 : ClassId) (n0 : Nat) (em mi ic : Nat) : CalleeOk (VV G a0 a1 a2 a3 n0) (DD em mi ic) 54 1 := ⟨tw_283, tw_23, (by decide : "Twelvehundred$Rescue" ≠ "java/lang/invoke/MethodHandle"), (by decide : "Twelvehundred$Rescue" ≠ "java/lang/invoke/VarHandle"), cp_54, (by decide : 3 ≤ 22)⟩
theorem cp_55 : (parseMethodDescriptor "()Z").map (fun d => d.parameters.length) = some 0 := by decide +kernel
theorem ce_55 (G : va_G) (a0 a1 a2 a3 : ClassId) (n0 : Nat) (em mi ic : Nat) : CalleeOk (VV G a0 a1 a2 a3 n0) (DD em mi ic) 55 0 := ⟨tw_288, tw_25, (by decide : "Twelvehundred$Larder" ≠ "java/lang/invoke/MethodHandle"), (by decide : "Twelvehundred$Larder" ≠ "java/lang/invoke/VarHandle"), cp_55, (by decide : 4 ≤ 22)⟩
theorem cp_56 : (parseMethodDescriptor "()V").map (fun d => d.parameters.length) = some 0 := by decide +kernel
theorem ce_56 (G : va_G) (a0 a1 a2 a3 : ClassId) (n0 : Nat) (em mi ic : Nat) : CalleeOk (VV G a0 a1 a2 a3 n0) (DD em mi ic) 56 0 := ⟨tw_586, tw_18, (by decide : "Twelvehundred$River" ≠ "java/lang/invoke/MethodHandle"), (by decide : "Twelvehundred$River" ≠ "java/lang/invoke/VarHandle"), cp_56, (by decide : 1 ≤ 22)⟩
theorem cp_57 : (parseMethodDescriptor "()V").map (fun d => d.parameters.length) = some 0 := by decide +kernel
theorem ce_57 (G : va_G) (a0 a1 a2 a3 : ClassId) (n0 : Nat) (em mi ic : Nat) : CalleeOk (VV G a0 a1 a2 a3 n0) (DD em mi ic) 57 0 := ⟨tw_605, tw_21, (by decide : "java/util/ArrayList" ≠ "java/lang/invoke/MethodHandle"), (by decide : "java/util/ArrayList" ≠ "java/lang/invoke/VarHandle"), cp_57, (by decide : 1 ≤ 22)⟩
theorem cp_58 : (parseMethodDescriptor "(Ljava/util/ArrayList;Ljava/util/ArrayList;)V").map (fun d => d.parameters.length) = some 2 := by decide +kernel
theorem ce_58 (G : va_G) (a0 a1 a2 a3 : ClassId) (n0 : Nat) (em mi ic : Nat) : CalleeOk (VV G a0 a1 a2 a3 n0) (DD em mi ic) 58 2 := ⟨tw_630, tw_22, (by decide : "Twelvehundred$Placing" ≠ "java/lang/invoke/MethodHandle"), (by decide : "Twelvehundred$Placing" ≠ "java/lang/invoke/VarHandle"), cp_58, (by decide : 3 ≤ 22)⟩
theorem cp_59 : (parseMethodDescriptor "(LTwelvehundred$River;Ljava/util/ArrayList;)V").map (fun d => d.parameters.length) = some 2 := by decide +kernel
theorem ce_59 (G : va_G) (a0 a1 a2 a3 : ClassId) (n0 : Nat) (em mi ic : Nat) : CalleeOk (VV G a0 a1 a2 a3 n0) (DD em mi ic) 59 2 := ⟨tw_646, tw_23, (by decide : "Twelvehundred$Rescue" ≠ "java/lang/invoke/MethodHandle"), (by decide : "Twelvehundred$Rescue" ≠ "java/lang/invoke/VarHandle"), cp_59, (by decide : 3 ≤ 22)⟩
theorem cp_60 : (parseMethodDescriptor "(Ljava/util/ArrayList;Ljava/util/ArrayList;LTwelvehundred$Placing;)V").map (fun d => d.parameters.length) = some 3 := by decide +kernel
theorem ce_60 (G : va_G) (a0 a1 a2 a3 : ClassId) (n0 : Nat) (em mi ic : Nat) : CalleeOk (VV G a0 a1 a2 a3 n0) (DD em mi ic) 60 3 := ⟨tw_667, tw_24, (by decide : "Twelvehundred$Asking" ≠ "java/lang/invoke/MethodHandle"), (by decide : "Twelvehundred$Asking" ≠ "java/lang/invoke/VarHandle"), cp_60, (by decide : 4 ≤ 22)⟩
theorem cp_61 : (parseMethodDescriptor "()V").map (fun d => d.parameters.length) = some 0 := by decide +kernel
theorem ce_61 (G : va_G) (a0 a1 a2 a3 : ClassId) (n0 : Nat) (em mi ic : Nat) : CalleeOk (VV G a0 a1 a2 a3 n0) (DD em mi ic) 61 0 := ⟨tw_691, tw_25, (by decide : "Twelvehundred$Larder" ≠ "java/lang/invoke/MethodHandle"), (by decide : "Twelvehundred$Larder" ≠ "java/lang/invoke/VarHandle"), cp_61, (by decide : 1 ≤ 22)⟩
theorem cp_62 : (parseMethodDescriptor "()V").map (fun d => d.parameters.length) = some 0 := by decide +kernel
theorem ce_62 (G : va_G) (a0 a1 a2 a3 : ClassId) (n0 : Nat) (em mi ic : Nat) : CalleeOk (VV G a0 a1 a2 a3 n0) (DD em mi ic) 62 0 := ⟨tw_715, tw_26, (by decide : "Twelvehundred$Bulletin" ≠ "java/lang/invoke/MethodHandle"), (by decide : "Twelvehundred$Bulletin" ≠ "java/lang/invoke/VarHandle"), cp_62, (by decide : 1 ≤ 22)⟩
theorem cp_63 : (parseMethodDescriptor "(III)Z").map (fun d => d.parameters.length) = some 3 := by decide +kernel
theorem ce_63 (G : va_G) (a0 a1 a2 a3 : ClassId) (n0 : Nat) (em mi ic : Nat) : CalleeOk (VV G a0 a1 a2 a3 n0) (DD em mi ic) 63 3 := ⟨tw_360, tw_17, (by decide : "Twelvehundred" ≠ "java/lang/invoke/MethodHandle"), (by decide : "Twelvehundred" ≠ "java/lang/invoke/VarHandle"), cp_63, (by decide : 3 ≤ 22)⟩
theorem cp_64 : (parseMethodDescriptor "(III)V").map (fun d => d.parameters.length) = some 3 := by decide +kernel
theorem ce_64 (G : va_G) (a0 a1 a2 a3 : ClassId) (n0 : Nat) (em mi ic : Nat) : CalleeOk (VV G a0 a1 a2 a3 n0) (DD em mi ic) 64 3 := ⟨tw_783, tw_32, (by decide : "Twelvehundred$Street" ≠ "java/lang/invoke/MethodHandle"), (by decide : "Twelvehundred$Street" ≠ "java/lang/invoke/VarHandle"), cp_64, (by decide : 4 ≤ 22)⟩
theorem cp_65 : (parseMethodDescriptor "(Ljava/lang/Object;)Z").map (fun d => d.parameters.length) = some 1 := by decide +kernel
theorem ce_65 (G : va_G) (a0 a1 a2 a3 : ClassId) (n0 : Nat) (em mi ic : Nat) : CalleeOk (VV G a0 a1 a2 a3 n0) (DD em mi ic) 65 1 := ⟨tw_803, tw_21, (by decide : "java/util/ArrayList" ≠ "java/lang/invoke/MethodHandle"), (by decide : "java/util/ArrayList" ≠ "java/lang/invoke/VarHandle"), cp_65, (by decide : 2 ≤ 22)⟩
theorem cp_66 : (parseMethodDescriptor "(III)V").map (fun d => d.parameters.length) = some 3 := by decide +kernel
theorem ce_66 (G : va_G) (a0 a1 a2 a3 : ClassId) (n0 : Nat) (em mi ic : Nat) : CalleeOk (VV G a0 a1 a2 a3 n0) (DD em mi ic) 66 3 := ⟨tw_859, tw_37, (by decide : "Twelvehundred$Hall" ≠ "java/lang/invoke/MethodHandle"), (by decide : "Twelvehundred$Hall" ≠ "java/lang/invoke/VarHandle"), cp_66, (by decide : 4 ≤ 22)⟩
theorem cp_67 : (parseMethodDescriptor "()V").map (fun d => d.parameters.length) = some 0 := by decide +kernel
theorem ce_67 (G : va_G) (a0 a1 a2 a3 : ClassId) (n0 : Nat) (em mi ic : Nat) : CalleeOk (VV G a0 a1 a2 a3 n0) (DD em mi ic) 67 0 := ⟨tw_881, tw_24, (by decide : "Twelvehundred$Asking" ≠ "java/lang/invoke/MethodHandle"), (by decide : "Twelvehundred$Asking" ≠ "java/lang/invoke/VarHandle"), cp_67, (by decide : 2 ≤ 22)⟩
theorem cp_68 : (parseMethodDescriptor "(I)Ljava/lang/Object;").map (fun d => d.parameters.length) = some 1 := by decide +kernel
theorem ce_68 (G : va_G) (a0 a1 a2 a3 : ClassId) (n0 : Nat) (em mi ic : Nat) : CalleeOk (VV G a0 a1 a2 a3 n0) (DD em mi ic) 68 1 := ⟨tw_66, tw_21, (by decide : "java/util/ArrayList" ≠ "java/lang/invoke/MethodHandle"), (by decide : "java/util/ArrayList" ≠ "java/lang/invoke/VarHandle"), cp_68, (by decide : 2 ≤ 22)⟩
theorem cp_69 : (parseMethodDescriptor "(ILTwelvehundred$Street;IZ)V").map (fun d => d.parameters.length) = some 4 := by decide +kernel
theorem ce_69 (G : va_G) (a0 a1 a2 a3 : ClassId) (n0 : Nat) (em mi ic : Nat) : CalleeOk (VV G a0 a1 a2 a3 n0) (DD em mi ic) 69 4 := ⟨tw_927, tw_42, (by decide : "Twelvehundred$Household" ≠ "java/lang/invoke/MethodHandle"), (by decide : "Twelvehundred$Household" ≠ "java/lang/invoke/VarHandle"), cp_69, (by decide : 5 ≤ 22)⟩
theorem cp_70 : (parseMethodDescriptor "(LTwelvehundred$Street;)Z").map (fun d => d.parameters.length) = some 1 := by decide +kernel
theorem ce_70 (G : va_G) (a0 a1 a2 a3 : ClassId) (n0 : Nat) (em mi ic : Nat) : CalleeOk (VV G a0 a1 a2 a3 n0) (DD em mi ic) 70 1 := ⟨tw_275, tw_18, (by decide : "Twelvehundred$River" ≠ "java/lang/invoke/MethodHandle"), (by decide : "Twelvehundred$River" ≠ "java/lang/invoke/VarHandle"), cp_70, (by decide : 2 ≤ 22)⟩
theorem cp_71 : (parseMethodDescriptor "(LTwelvehundred$Street;)I").map (fun d => d.parameters.length) = some 1 := by decide +kernel
theorem ce_71 (G : va_G) (a0 a1 a2 a3 : ClassId) (n0 : Nat) (em mi ic : Nat) : CalleeOk (VV G a0 a1 a2 a3 n0) (DD em mi ic) 71 1 := ⟨tw_271, tw_18, (by decide : "Twelvehundred$River" ≠ "java/lang/invoke/MethodHandle"), (by decide : "Twelvehundred$River" ≠ "java/lang/invoke/VarHandle"), cp_71, (by decide : 2 ≤ 22)⟩
theorem cp_72 : (parseMethodDescriptor "(LTwelvehundred$Street;)I").map (fun d => d.parameters.length) = some 1 := by decide +kernel
theorem ce_72 (G : va_G) (a0 a1 a2 a3 : ClassId) (n0 : Nat) (em mi ic : Nat) : CalleeOk (VV G a0 a1 a2 a3 n0) (DD em mi ic) 72 1 := ⟨tw_324, tw_23, (by decide : "Twelvehundred$Rescue" ≠ "java/lang/invoke/MethodHandle"), (by decide : "Twelvehundred$Rescue" ≠ "java/lang/invoke/VarHandle"), cp_72, (by decide : 5 ≤ 22)⟩
theorem cp_73 : (parseMethodDescriptor "(LTwelvehundred$Household;)LTwelvehundred$Hall;").map (fun d => d.parameters.length) = some 1 := by decide +kernel
theorem ce_73 (G : va_G) (a0 a1 a2 a3 : ClassId) (n0 : Nat) (em mi ic : Nat) : CalleeOk (VV G a0 a1 a2 a3 n0) (DD em mi ic) 73 1 := ⟨tw_215, tw_22, (by decide : "Twelvehundred$Placing" ≠ "java/lang/invoke/MethodHandle"), (by decide : "Twelvehundred$Placing" ≠ "java/lang/invoke/VarHandle"), cp_73, (by decide : 2 ≤ 22)⟩
theorem cp_74 : (parseMethodDescriptor "(II)Z").map (fun d => d.parameters.length) = some 2 := by decide +kernel
theorem ce_74 (G : va_G) (a0 a1 a2 a3 : ClassId) (n0 : Nat) (em mi ic : Nat) : CalleeOk (VV G a0 a1 a2 a3 n0) (DD em mi ic) 74 2 := ⟨tw_262, tw_17, (by decide : "Twelvehundred" ≠ "java/lang/invoke/MethodHandle"), (by decide : "Twelvehundred" ≠ "java/lang/invoke/VarHandle"), cp_74, (by decide : 2 ≤ 22)⟩
theorem cp_75 : (parseMethodDescriptor "(LTwelvehundred$Hall;)I").map (fun d => d.parameters.length) = some 1 := by decide +kernel
theorem ce_75 (G : va_G) (a0 a1 a2 a3 : ClassId) (n0 : Nat) (em mi ic : Nat) : CalleeOk (VV G a0 a1 a2 a3 n0) (DD em mi ic) 75 1 := ⟨tw_191, tw_22, (by decide : "Twelvehundred$Placing" ≠ "java/lang/invoke/MethodHandle"), (by decide : "Twelvehundred$Placing" ≠ "java/lang/invoke/VarHandle"), cp_75, (by decide : 4 ≤ 22)⟩
theorem cp_76 : (parseMethodDescriptor "(II)I").map (fun d => d.parameters.length) = some 2 := by decide +kernel
theorem ce_76 (G : va_G) (a0 a1 a2 a3 : ClassId) (n0 : Nat) (em mi ic : Nat) : CalleeOk (VV G a0 a1 a2 a3 n0) (DD em mi ic) 76 2 := ⟨tw_364, tw_34, (by decide : "java/lang/Math" ≠ "java/lang/invoke/MethodHandle"), (by decide : "java/lang/Math" ≠ "java/lang/invoke/VarHandle"), cp_76, (by decide : 2 ≤ 22)⟩
theorem cp_77 : (parseMethodDescriptor "()V").map (fun d => d.parameters.length) = some 0 := by decide +kernel
theorem ce_77 (G : va_G) (a0 a1 a2 a3 : ClassId) (n0 : Nat) (em mi ic : Nat) : CalleeOk (VV G a0 a1 a2 a3 n0) (DD em mi ic) 77 0 := ⟨tw_373, tw_44, (by decide : "java/lang/StringBuilder" ≠ "java/lang/invoke/MethodHandle"), (by decide : "java/lang/StringBuilder" ≠ "java/lang/invoke/VarHandle"), cp_77, (by decide : 1 ≤ 22)⟩
theorem cp_78 : (parseMethodDescriptor "(LTwelvehundred$Household;)C").map (fun d => d.parameters.length) = some 1 := by decide +kernel
theorem ce_78 (G : va_G) (a0 a1 a2 a3 : ClassId) (n0 : Nat) (em mi ic : Nat) : CalleeOk (VV G a0 a1 a2 a3 n0) (DD em mi ic) 78 1 := ⟨tw_404, tw_17, (by decide : "Twelvehundred" ≠ "java/lang/invoke/MethodHandle"), (by decide : "Twelvehundred" ≠ "java/lang/invoke/VarHandle"), cp_78, (by decide : 3 ≤ 22)⟩
theorem cp_79 : (parseMethodDescriptor "(C)Ljava/lang/StringBuilder;").map (fun d => d.parameters.length) = some 1 := by decide +kernel
theorem ce_79 (G : va_G) (a0 a1 a2 a3 : ClassId) (n0 : Nat) (em mi ic : Nat) : CalleeOk (VV G a0 a1 a2 a3 n0) (DD em mi ic) 79 1 := ⟨tw_408, tw_44, (by decide : "java/lang/StringBuilder" ≠ "java/lang/invoke/MethodHandle"), (by decide : "java/lang/StringBuilder" ≠ "java/lang/invoke/VarHandle"), cp_79, (by decide : 2 ≤ 22)⟩
theorem cp_80 : (parseMethodDescriptor "()Ljava/lang/String;").map (fun d => d.parameters.length) = some 0 := by decide +kernel
theorem ce_80 (G : va_G) (a0 a1 a2 a3 : ClassId) (n0 : Nat) (em mi ic : Nat) : CalleeOk (VV G a0 a1 a2 a3 n0) (DD em mi ic) 80 0 := ⟨tw_499, tw_44, (by decide : "java/lang/StringBuilder" ≠ "java/lang/invoke/MethodHandle"), (by decide : "java/lang/StringBuilder" ≠ "java/lang/invoke/VarHandle"), cp_80, (by decide : 1 ≤ 22)⟩
theorem cp_81 : (parseMethodDescriptor "()B").map (fun d => d.parameters.length) = some 0 := by decide +kernel
theorem ce_81 (G : va_G) (a0 a1 a2 a3 : ClassId) (n0 : Nat) (em mi ic : Nat) : CalleeOk (VV G a0 a1 a2 a3 n0) (DD em mi ic) 81 0 := ⟨tw_564, tw_45, (by decide : "java/lang/String" ≠ "java/lang/invoke/MethodHandle"), (by decide : "java/lang/String" ≠ "java/lang/invoke/VarHandle"), cp_81, (by decide : 1 ≤ 22)⟩
theorem cp_82 : (parseMethodDescriptor "(LTwelvehundred$Listed;LTwelvehundred$Listed;)Z").map (fun d => d.parameters.length) = some 2 := by decide +kernel
theorem ce_82 (G : va_G) (a0 a1 a2 a3 : ClassId) (n0 : Nat) (em mi ic : Nat) : CalleeOk (VV G a0 a1 a2 a3 n0) (DD em mi ic) 82 2 := ⟨tw_98, tw_26, (by decide : "Twelvehundred$Bulletin" ≠ "java/lang/invoke/MethodHandle"), (by decide : "Twelvehundred$Bulletin" ≠ "java/lang/invoke/VarHandle"), cp_82, (by decide : 2 ≤ 22)⟩
theorem cp_83 : (parseMethodDescriptor "(II)V").map (fun d => d.parameters.length) = some 2 := by decide +kernel
theorem ce_83 (G : va_G) (a0 a1 a2 a3 : ClassId) (n0 : Nat) (em mi ic : Nat) : CalleeOk (VV G a0 a1 a2 a3 n0) (DD em mi ic) 83 2 := ⟨tw_106, tw_26, (by decide : "Twelvehundred$Bulletin" ≠ "java/lang/invoke/MethodHandle"), (by decide : "Twelvehundred$Bulletin" ≠ "java/lang/invoke/VarHandle"), cp_83, (by decide : 4 ≤ 22)⟩
theorem cp_84 : (parseMethodDescriptor "()V").map (fun d => d.parameters.length) = some 0 := by decide +kernel
theorem ce_84 (G : va_G) (a0 a1 a2 a3 : ClassId) (n0 : Nat) (em mi ic : Nat) : CalleeOk (VV G a0 a1 a2 a3 n0) (DD em mi ic) 84 0 := ⟨tw_976, tw_18, (by decide : "Twelvehundred$River" ≠ "java/lang/invoke/MethodHandle"), (by decide : "Twelvehundred$River" ≠ "java/lang/invoke/VarHandle"), cp_84, (by decide : 1 ≤ 22)⟩
theorem cp_85 : (parseMethodDescriptor "()I").map (fun d => d.parameters.length) = some 0 := by decide +kernel
theorem ce_85 (G : va_G) (a0 a1 a2 a3 : ClassId) (n0 : Nat) (em mi ic : Nat) : CalleeOk (VV G a0 a1 a2 a3 n0) (DD em mi ic) 85 0 := ⟨tw_982, tw_23, (by decide : "Twelvehundred$Rescue" ≠ "java/lang/invoke/MethodHandle"), (by decide : "Twelvehundred$Rescue" ≠ "java/lang/invoke/VarHandle"), cp_85, (by decide : 4 ≤ 22)⟩
theorem cp_86 : (parseMethodDescriptor "(I)V").map (fun d => d.parameters.length) = some 1 := by decide +kernel
theorem ce_86 (G : va_G) (a0 a1 a2 a3 : ClassId) (n0 : Nat) (em mi ic : Nat) : CalleeOk (VV G a0 a1 a2 a3 n0) (DD em mi ic) 86 1 := ⟨tw_987, tw_25, (by decide : "Twelvehundred$Larder" ≠ "java/lang/invoke/MethodHandle"), (by decide : "Twelvehundred$Larder" ≠ "java/lang/invoke/VarHandle"), cp_86, (by decide : 4 ≤ 22)⟩
theorem cp_87 : (parseMethodDescriptor "(II)V").map (fun d => d.parameters.length) = some 2 := by decide +kernel
theorem ce_87 (G : va_G) (a0 a1 a2 a3 : ClassId) (n0 : Nat) (em mi ic : Nat) : CalleeOk (VV G a0 a1 a2 a3 n0) (DD em mi ic) 87 2 := ⟨tw_1006, tw_48, (by decide : "Twelvehundred$Lot" ≠ "java/lang/invoke/MethodHandle"), (by decide : "Twelvehundred$Lot" ≠ "java/lang/invoke/VarHandle"), cp_87, (by decide : 3 ≤ 22)⟩
theorem cp_88 : (parseMethodDescriptor "(I)I").map (fun d => d.parameters.length) = some 1 := by decide +kernel
theorem ce_88 (G : va_G) (a0 a1 a2 a3 : ClassId) (n0 : Nat) (em mi ic : Nat) : CalleeOk (VV G a0 a1 a2 a3 n0) (DD em mi ic) 88 1 := ⟨tw_1031, tw_25, (by decide : "Twelvehundred$Larder" ≠ "java/lang/invoke/MethodHandle"), (by decide : "Twelvehundred$Larder" ≠ "java/lang/invoke/VarHandle"), cp_88, (by decide : 6 ≤ 22)⟩
theorem cp_89 : (parseMethodDescriptor "(I)Z").map (fun d => d.parameters.length) = some 1 := by decide +kernel
theorem ce_89 (G : va_G) (a0 a1 a2 a3 : ClassId) (n0 : Nat) (em mi ic : Nat) : CalleeOk (VV G a0 a1 a2 a3 n0) (DD em mi ic) 89 1 := ⟨tw_1046, tw_26, (by decide : "Twelvehundred$Bulletin" ≠ "java/lang/invoke/MethodHandle"), (by decide : "Twelvehundred$Bulletin" ≠ "java/lang/invoke/VarHandle"), cp_89, (by decide : 3 ≤ 22)⟩
theorem cp_90 : (parseMethodDescriptor "(I)V").map (fun d => d.parameters.length) = some 1 := by decide +kernel
theorem ce_90 (G : va_G) (a0 a1 a2 a3 : ClassId) (n0 : Nat) (em mi ic : Nat) : CalleeOk (VV G a0 a1 a2 a3 n0) (DD em mi ic) 90 1 := ⟨tw_1054, tw_49, (by decide : "Twelvehundred$Listed" ≠ "java/lang/invoke/MethodHandle"), (by decide : "Twelvehundred$Listed" ≠ "java/lang/invoke/VarHandle"), cp_90, (by decide : 2 ≤ 22)⟩
theorem cp_91 : (parseMethodDescriptor "(I)I").map (fun d => d.parameters.length) = some 1 := by decide +kernel
theorem ce_91 (G : va_G) (a0 a1 a2 a3 : ClassId) (n0 : Nat) (em mi ic : Nat) : CalleeOk (VV G a0 a1 a2 a3 n0) (DD em mi ic) 91 1 := ⟨tw_222, tw_34, (by decide : "java/lang/Math" ≠ "java/lang/invoke/MethodHandle"), (by decide : "java/lang/Math" ≠ "java/lang/invoke/VarHandle"), cp_91, (by decide : 1 ≤ 22)⟩
theorem cp_92 : (parseMethodDescriptor "(I)Z").map (fun d => d.parameters.length) = some 1 := by decide +kernel
theorem ce_92 (G : va_G) (a0 a1 a2 a3 : ClassId) (n0 : Nat) (em mi ic : Nat) : CalleeOk (VV G a0 a1 a2 a3 n0) (DD em mi ic) 92 1 := ⟨tw_259, tw_23, (by decide : "Twelvehundred$Rescue" ≠ "java/lang/invoke/MethodHandle"), (by decide : "Twelvehundred$Rescue" ≠ "java/lang/invoke/VarHandle"), cp_92, (by decide : 3 ≤ 22)⟩
theorem cp_93 : (parseMethodDescriptor "(I)Z").map (fun d => d.parameters.length) = some 1 := by decide +kernel
theorem ce_93 (G : va_G) (a0 a1 a2 a3 : ClassId) (n0 : Nat) (em mi ic : Nat) : CalleeOk (VV G a0 a1 a2 a3 n0) (DD em mi ic) 93 1 := ⟨tw_1099, tw_22, (by decide : "Twelvehundred$Placing" ≠ "java/lang/invoke/MethodHandle"), (by decide : "Twelvehundred$Placing" ≠ "java/lang/invoke/VarHandle"), cp_93, (by decide : 6 ≤ 22)⟩
theorem cp_94 : (parseMethodDescriptor "(I)Z").map (fun d => d.parameters.length) = some 1 := by decide +kernel
theorem ce_94 (G : va_G) (a0 a1 a2 a3 : ClassId) (n0 : Nat) (em mi ic : Nat) : CalleeOk (VV G a0 a1 a2 a3 n0) (DD em mi ic) 94 1 := ⟨tw_207, tw_22, (by decide : "Twelvehundred$Placing" ≠ "java/lang/invoke/MethodHandle"), (by decide : "Twelvehundred$Placing" ≠ "java/lang/invoke/VarHandle"), cp_94, (by decide : 5 ≤ 22)⟩
theorem cp_95 : (parseMethodDescriptor "(LTwelvehundred$Household;)Z").map (fun d => d.parameters.length) = some 1 := by decide +kernel
theorem ce_95 (G : va_G) (a0 a1 a2 a3 : ClassId) (n0 : Nat) (em mi ic : Nat) : CalleeOk (VV G a0 a1 a2 a3 n0) (DD em mi ic) 95 1 := ⟨tw_230, tw_22, (by decide : "Twelvehundred$Placing" ≠ "java/lang/invoke/MethodHandle"), (by decide : "Twelvehundred$Placing" ≠ "java/lang/invoke/VarHandle"), cp_95, (by decide : 4 ≤ 22)⟩
theorem cp_96 : (parseMethodDescriptor "(LTwelvehundred$Placing;)Z").map (fun d => d.parameters.length) = some 1 := by decide +kernel
theorem ce_96 (G : va_G) (a0 a1 a2 a3 : ClassId) (n0 : Nat) (em mi ic : Nat) : CalleeOk (VV G a0 a1 a2 a3 n0) (DD em mi ic) 96 1 := ⟨tw_245, tw_22, (by decide : "Twelvehundred$Placing" ≠ "java/lang/invoke/MethodHandle"), (by decide : "Twelvehundred$Placing" ≠ "java/lang/invoke/VarHandle"), cp_96, (by decide : 4 ≤ 22)⟩
theorem cp_97 : (parseMethodDescriptor "(LTwelvehundred$Hall;)Z").map (fun d => d.parameters.length) = some 1 := by decide +kernel
theorem ce_97 (G : va_G) (a0 a1 a2 a3 : ClassId) (n0 : Nat) (em mi ic : Nat) : CalleeOk (VV G a0 a1 a2 a3 n0) (DD em mi ic) 97 1 := ⟨tw_234, tw_22, (by decide : "Twelvehundred$Placing" ≠ "java/lang/invoke/MethodHandle"), (by decide : "Twelvehundred$Placing" ≠ "java/lang/invoke/VarHandle"), cp_97, (by decide : 2 ≤ 22)⟩
theorem cp_98 : (parseMethodDescriptor "(LTwelvehundred$Household;LTwelvehundred$Hall;)V").map (fun d => d.parameters.length) = some 2 := by decide +kernel
theorem ce_98 (G : va_G) (a0 a1 a2 a3 : ClassId) (n0 : Nat) (em mi ic : Nat) : CalleeOk (VV G a0 a1 a2 a3 n0) (DD em mi ic) 98 2 := ⟨tw_251, tw_22, (by decide : "Twelvehundred$Placing" ≠ "java/lang/invoke/MethodHandle"), (by decide : "Twelvehundred$Placing" ≠ "java/lang/invoke/VarHandle"), cp_98, (by decide : 3 ≤ 22)⟩
theorem cp_99 : (parseMethodDescriptor "()V").map (fun d => d.parameters.length) = some 0 := by decide +kernel
theorem ce_99 (G : va_G) (a0 a1 a2 a3 : ClassId) (n0 : Nat) (em mi ic : Nat) : CalleeOk (VV G a0 a1 a2 a3 n0) (DD em mi ic) 99 0 := ⟨tw_608, tw_20, (by decide : "java/util/AbstractList" ≠ "java/lang/invoke/MethodHandle"), (by decide : "java/util/AbstractList" ≠ "java/lang/invoke/VarHandle"), cp_99, (by decide : 1 ≤ 22)⟩
theorem cp_100 : (parseMethodDescriptor "(Ljava/lang/Object;[Ljava/lang/Object;I)V").map (fun d => d.parameters.length) = some 3 := by decide +kernel
theorem ce_100 (G : va_G) (a0 a1 a2 a3 : ClassId) (n0 : Nat) (em mi ic : Nat) : CalleeOk (VV G a0 a1 a2 a3 n0) (DD em mi ic) 100 3 := ⟨tw_807, tw_21, (by decide : "java/util/ArrayList" ≠ "java/lang/invoke/MethodHandle"), (by decide : "java/util/ArrayList" ≠ "java/lang/invoke/VarHandle"), cp_100, (by decide : 4 ≤ 22)⟩
theorem cp_101 : (parseMethodDescriptor "()V").map (fun d => d.parameters.length) = some 0 := by decide +kernel
theorem ce_101 (G : va_G) (a0 a1 a2 a3 : ClassId) (n0 : Nat) (em mi ic : Nat) : CalleeOk (VV G a0 a1 a2 a3 n0) (DD em mi ic) 101 0 := ⟨tw_886, tw_24, (by decide : "Twelvehundred$Asking" ≠ "java/lang/invoke/MethodHandle"), (by decide : "Twelvehundred$Asking" ≠ "java/lang/invoke/VarHandle"), cp_101, (by decide : 4 ≤ 22)⟩
theorem cp_102 : (parseMethodDescriptor "(II)I").map (fun d => d.parameters.length) = some 2 := by decide +kernel
theorem ce_102 (G : va_G) (a0 a1 a2 a3 : ClassId) (n0 : Nat) (em mi ic : Nat) : CalleeOk (VV G a0 a1 a2 a3 n0) (DD em mi ic) 102 2 := ⟨tw_69, tw_38, (by decide : "java/util/Objects" ≠ "java/lang/invoke/MethodHandle"), (by decide : "java/util/Objects" ≠ "java/lang/invoke/VarHandle"), cp_102, (by decide : 2 ≤ 22)⟩
theorem cp_103 : (parseMethodDescriptor "(I)Ljava/lang/Object;").map (fun d => d.parameters.length) = some 1 := by decide +kernel
theorem ce_103 (G : va_G) (a0 a1 a2 a3 : ClassId) (n0 : Nat) (em mi ic : Nat) : CalleeOk (VV G a0 a1 a2 a3 n0) (DD em mi ic) 103 1 := ⟨tw_76, tw_21, (by decide : "java/util/ArrayList" ≠ "java/lang/invoke/MethodHandle"), (by decide : "java/util/ArrayList" ≠ "java/lang/invoke/VarHandle"), cp_103, (by decide : 2 ≤ 22)⟩
theorem cp_104 : (parseMethodDescriptor "(I)V").map (fun d => d.parameters.length) = some 1 := by decide +kernel
theorem ce_104 (G : va_G) (a0 a1 a2 a3 : ClassId) (n0 : Nat) (em mi ic : Nat) : CalleeOk (VV G a0 a1 a2 a3 n0) (DD em mi ic) 104 1 := ⟨tw_376, tw_43, (by decide : "java/lang/AbstractStringBuilder" ≠ "java/lang/invoke/MethodHandle"), (by decide : "java/lang/AbstractStringBuilder" ≠ "java/lang/invoke/VarHandle"), cp_104, (by decide : 2 ≤ 22)⟩
theorem cp_105 : (parseMethodDescriptor "(C)Ljava/lang/AbstractStringBuilder;").map (fun d => d.parameters.length) = some 1 := by decide +kernel
theorem ce_105 (G : va_G) (a0 a1 a2 a3 : ClassId) (n0 : Nat) (em mi ic : Nat) : CalleeOk (VV G a0 a1 a2 a3 n0) (DD em mi ic) 105 1 := ⟨tw_411, tw_43, (by decide : "java/lang/AbstractStringBuilder" ≠ "java/lang/invoke/MethodHandle"), (by decide : "java/lang/AbstractStringBuilder" ≠ "java/lang/invoke/VarHandle"), cp_105, (by decide : 2 ≤ 22)⟩
theorem cp_106 : (parseMethodDescriptor "(Ljava/lang/StringBuilder;)V").map (fun d => d.parameters.length) = some 1 := by decide +kernel
theorem ce_106 (G : va_G) (a0 a1 a2 a3 : ClassId) (n0 : Nat) (em mi ic : Nat) : CalleeOk (VV G a0 a1 a2 a3 n0) (DD em mi ic) 106 1 := ⟨tw_504, tw_45, (by decide : "java/lang/String" ≠ "java/lang/invoke/MethodHandle"), (by decide : "java/lang/String" ≠ "java/lang/invoke/VarHandle"), cp_106, (by decide : 2 ≤ 22)⟩
theorem cp_107 : (parseMethodDescriptor "(II)Z").map (fun d => d.parameters.length) = some 2 := by decide +kernel
theorem ce_107 (G : va_G) (a0 a1 a2 a3 : ClassId) (n0 : Nat) (em mi ic : Nat) : CalleeOk (VV G a0 a1 a2 a3 n0) (DD em mi ic) 107 2 := ⟨tw_101, tw_26, (by decide : "Twelvehundred$Bulletin" ≠ "java/lang/invoke/MethodHandle"), (by decide : "Twelvehundred$Bulletin" ≠ "java/lang/invoke/VarHandle"), cp_107, (by decide : 5 ≤ 22)⟩
theorem cp_108 : (parseMethodDescriptor "()LTwelvehundred$Lot;").map (fun d => d.parameters.length) = some 0 := by decide +kernel
theorem ce_108 (G : va_G) (a0 a1 a2 a3 : ClassId) (n0 : Nat) (em mi ic : Nat) : CalleeOk (VV G a0 a1 a2 a3 n0) (DD em mi ic) 108 0 := ⟨tw_1035, tw_25, (by decide : "Twelvehundred$Larder" ≠ "java/lang/invoke/MethodHandle"), (by decide : "Twelvehundred$Larder" ≠ "java/lang/invoke/VarHandle"), cp_108, (by decide : 4 ≤ 22)⟩
theorem cp_109 : (parseMethodDescriptor "(LTwelvehundred$Household;I)Z").map (fun d => d.parameters.length) = some 2 := by decide +kernel
theorem ce_109 (G : va_G) (a0 a1 a2 a3 : ClassId) (n0 : Nat) (em mi ic : Nat) : CalleeOk (VV G a0 a1 a2 a3 n0) (DD em mi ic) 109 2 := ⟨tw_267, tw_23, (by decide : "Twelvehundred$Rescue" ≠ "java/lang/invoke/MethodHandle"), (by decide : "Twelvehundred$Rescue" ≠ "java/lang/invoke/VarHandle"), cp_109, (by decide : 6 ≤ 22)⟩
theorem cp_110 : (parseMethodDescriptor "(LTwelvehundred$Household;LTwelvehundred$Household;)Z").map (fun d => d.parameters.length) = some 2 := by decide +kernel
theorem ce_110 (G : va_G) (a0 a1 a2 a3 : ClassId) (n0 : Nat) (em mi ic : Nat) : CalleeOk (VV G a0 a1 a2 a3 n0) (DD em mi ic) 110 2 := ⟨tw_211, tw_22, (by decide : "Twelvehundred$Placing" ≠ "java/lang/invoke/MethodHandle"), (by decide : "Twelvehundred$Placing" ≠ "java/lang/invoke/VarHandle"), cp_110, (by decide : 3 ≤ 22)⟩
theorem cp_111 : (parseMethodDescriptor "(LTwelvehundred$Hall;LTwelvehundred$Hall;)Z").map (fun d => d.parameters.length) = some 2 := by decide +kernel
theorem ce_111 (G : va_G) (a0 a1 a2 a3 : ClassId) (n0 : Nat) (em mi ic : Nat) : CalleeOk (VV G a0 a1 a2 a3 n0) (DD em mi ic) 111 2 := ⟨tw_219, tw_42, (by decide : "Twelvehundred$Household" ≠ "java/lang/invoke/MethodHandle"), (by decide : "Twelvehundred$Household" ≠ "java/lang/invoke/VarHandle"), cp_111, (by decide : 5 ≤ 22)⟩
theorem cp_112 : (parseMethodDescriptor "()V").map (fun d => d.parameters.length) = some 0 := by decide +kernel
theorem ce_112 (G : va_G) (a0 a1 a2 a3 : ClassId) (n0 : Nat) (em mi ic : Nat) : CalleeOk (VV G a0 a1 a2 a3 n0) (DD em mi ic) 112 0 := ⟨tw_611, tw_19, (by decide : "java/util/AbstractCollection" ≠ "java/lang/invoke/MethodHandle"), (by decide : "java/util/AbstractCollection" ≠ "java/lang/invoke/VarHandle"), cp_112, (by decide : 1 ≤ 22)⟩
theorem cp_113 : (parseMethodDescriptor "()[Ljava/lang/Object;").map (fun d => d.parameters.length) = some 0 := by decide +kernel
theorem ce_113 (G : va_G) (a0 a1 a2 a3 : ClassId) (n0 : Nat) (em mi ic : Nat) : CalleeOk (VV G a0 a1 a2 a3 n0) (DD em mi ic) 113 0 := ⟨tw_811, tw_21, (by decide : "java/util/ArrayList" ≠ "java/lang/invoke/MethodHandle"), (by decide : "java/util/ArrayList" ≠ "java/lang/invoke/VarHandle"), cp_113, (by decide : 1 ≤ 22)⟩
theorem cp_114 : (parseMethodDescriptor "(LTwelvehundred$Household;)LTwelvehundred$Hall;").map (fun d => d.parameters.length) = some 1 := by decide +kernel
theorem ce_114 (G : va_G) (a0 a1 a2 a3 : ClassId) (n0 : Nat) (em mi ic : Nat) : CalleeOk (VV G a0 a1 a2 a3 n0) (DD em mi ic) 114 1 := ⟨tw_894, tw_24, (by decide : "Twelvehundred$Asking" ≠ "java/lang/invoke/MethodHandle"), (by decide : "Twelvehundred$Asking" ≠ "java/lang/invoke/VarHandle"), cp_114, (by decide : 5 ≤ 22)⟩
theorem cp_115 : (parseMethodDescriptor "(LTwelvehundred$Household;LTwelvehundred$Hall;)V").map (fun d => d.parameters.length) = some 2 := by decide +kernel
theorem ce_115 (G : va_G) (a0 a1 a2 a3 : ClassId) (n0 : Nat) (em mi ic : Nat) : CalleeOk (VV G a0 a1 a2 a3 n0) (DD em mi ic) 115 2 := ⟨tw_905, tw_24, (by decide : "Twelvehundred$Asking" ≠ "java/lang/invoke/MethodHandle"), (by decide : "Twelvehundred$Asking" ≠ "java/lang/invoke/VarHandle"), cp_115, (by decide : 4 ≤ 22)⟩
theorem cp_116 : (parseMethodDescriptor "(IILjava/util/function/BiFunction;)I").map (fun d => d.parameters.length) = some 3 := by decide +kernel
theorem ce_116 (G : va_G) (a0 a1 a2 a3 : ClassId) (n0 : Nat) (em mi ic : Nat) : CalleeOk (VV G a0 a1 a2 a3 n0) (DD em mi ic) 116 3 := ⟨tw_72, tw_39, (by decide : "jdk/internal/util/Preconditions" ≠ "java/lang/invoke/MethodHandle"), (by decide : "jdk/internal/util/Preconditions" ≠ "java/lang/invoke/VarHandle"), cp_116, (by decide : 3 ≤ 22)⟩
theorem cp_117 : (parseMethodDescriptor "(I)V").map (fun d => d.parameters.length) = some 1 := by decide +kernel
theorem ce_117 (G : va_G) (a0 a1 a2 a3 : ClassId) (n0 : Nat) (em mi ic : Nat) : CalleeOk (VV G a0 a1 a2 a3 n0) (DD em mi ic) 117 1 := ⟨tw_415, tw_43, (by decide : "java/lang/AbstractStringBuilder" ≠ "java/lang/invoke/MethodHandle"), (by decide : "java/lang/AbstractStringBuilder" ≠ "java/lang/invoke/VarHandle"), cp_117, (by decide : 3 ≤ 22)⟩
theorem cp_118 : (parseMethodDescriptor "()Z").map (fun d => d.parameters.length) = some 0 := by decide +kernel
theorem ce_118 (G : va_G) (a0 a1 a2 a3 : ClassId) (n0 : Nat) (em mi ic : Nat) : CalleeOk (VV G a0 a1 a2 a3 n0) (DD em mi ic) 118 0 := ⟨tw_449, tw_43, (by decide : "java/lang/AbstractStringBuilder" ≠ "java/lang/invoke/MethodHandle"), (by decide : "java/lang/AbstractStringBuilder" ≠ "java/lang/invoke/VarHandle"), cp_118, (by decide : 1 ≤ 22)⟩
theorem cp_119 : (parseMethodDescriptor "(C)Z").map (fun d => d.parameters.length) = some 1 := by decide +kernel
theorem ce_119 (G : va_G) (a0 a1 a2 a3 : ClassId) (n0 : Nat) (em mi ic : Nat) : CalleeOk (VV G a0 a1 a2 a3 n0) (DD em mi ic) 119 1 := ⟨tw_452, tw_47, (by decide : "java/lang/StringLatin1" ≠ "java/lang/invoke/MethodHandle"), (by decide : "java/lang/StringLatin1" ≠ "java/lang/invoke/VarHandle"), cp_119, (by decide : 1 ≤ 22)⟩
theorem cp_120 : (parseMethodDescriptor "(Ljava/lang/AbstractStringBuilder;Ljava/lang/Void;)V").map (fun d => d.parameters.length) = some 2 := by decide +kernel
theorem ce_120 (G : va_G) (a0 a1 a2 a3 : ClassId) (n0 : Nat) (em mi ic : Nat) : CalleeOk (VV G a0 a1 a2 a3 n0) (DD em mi ic) 120 2 := ⟨tw_507, tw_45, (by decide : "java/lang/String" ≠ "java/lang/invoke/MethodHandle"), (by decide : "java/lang/String" ≠ "java/lang/invoke/VarHandle"), cp_120, (by decide : 5 ≤ 22)⟩
theorem cp_121 : (parseMethodDescriptor "(LTwelvehundred$Household;)Z").map (fun d => d.parameters.length) = some 1 := by decide +kernel
theorem ce_121 (G : va_G) (a0 a1 a2 a3 : ClassId) (n0 : Nat) (em mi ic : Nat) : CalleeOk (VV G a0 a1 a2 a3 n0) (DD em mi ic) 121 1 := ⟨tw_226, tw_42, (by decide : "Twelvehundred$Household" ≠ "java/lang/invoke/MethodHandle"), (by decide : "Twelvehundred$Household" ≠ "java/lang/invoke/VarHandle"), cp_121, (by decide : 2 ≤ 22)⟩
theorem cp_122 : (parseMethodDescriptor "(I)[Ljava/lang/Object;").map (fun d => d.parameters.length) = some 1 := by decide +kernel
theorem ce_122 (G : va_G) (a0 a1 a2 a3 : ClassId) (n0 : Nat) (em mi ic : Nat) : CalleeOk (VV G a0 a1 a2 a3 n0) (DD em mi ic) 122 1 := ⟨tw_815, tw_21, (by decide : "java/util/ArrayList" ≠ "java/lang/invoke/MethodHandle"), (by decide : "java/util/ArrayList" ≠ "java/lang/invoke/VarHandle"), cp_122, (by decide : 4 ≤ 22)⟩
theorem cp_123 : (parseMethodDescriptor "(LTwelvehundred$Household;LTwelvehundred$Hall;)Z").map (fun d => d.parameters.length) = some 2 := by decide +kernel
theorem ce_123 (G : va_G) (a0 a1 a2 a3 : ClassId) (n0 : Nat) (em mi ic : Nat) : CalleeOk (VV G a0 a1 a2 a3 n0) (DD em mi ic) 123 2 := ⟨tw_899, tw_24, (by decide : "Twelvehundred$Asking" ≠ "java/lang/invoke/MethodHandle"), (by decide : "Twelvehundred$Asking" ≠ "java/lang/invoke/VarHandle"), cp_123, (by decide : 3 ≤ 22)⟩
theorem cp_124 : (parseMethodDescriptor "(LTwelvehundred$Hall;)LTwelvehundred$Household;").map (fun d => d.parameters.length) = some 1 := by decide +kernel
theorem ce_124 (G : va_G) (a0 a1 a2 a3 : ClassId) (n0 : Nat) (em mi ic : Nat) : CalleeOk (VV G a0 a1 a2 a3 n0) (DD em mi ic) 124 1 := ⟨tw_911, tw_22, (by decide : "Twelvehundred$Placing" ≠ "java/lang/invoke/MethodHandle"), (by decide : "Twelvehundred$Placing" ≠ "java/lang/invoke/VarHandle"), cp_124, (by decide : 5 ≤ 22)⟩
theorem cp_125 : (parseMethodDescriptor "()[B").map (fun d => d.parameters.length) = some 0 := by decide +kernel
theorem ce_125 (G : va_G) (a0 a1 a2 a3 : ClassId) (n0 : Nat) (em mi ic : Nat) : CalleeOk (VV G a0 a1 a2 a3 n0) (DD em mi ic) 125 0 := ⟨tw_513, tw_43, (by decide : "java/lang/AbstractStringBuilder" ≠ "java/lang/invoke/MethodHandle"), (by decide : "java/lang/AbstractStringBuilder" ≠ "java/lang/invoke/VarHandle"), cp_125, (by decide : 1 ≤ 22)⟩
theorem cp_126 : (parseMethodDescriptor "()I").map (fun d => d.parameters.length) = some 0 := by decide +kernel
theorem ce_126 (G : va_G) (a0 a1 a2 a3 : ClassId) (n0 : Nat) (em mi ic : Nat) : CalleeOk (VV G a0 a1 a2 a3 n0) (DD em mi ic) 126 0 := ⟨tw_519, tw_44, (by decide : "java/lang/StringBuilder" ≠ "java/lang/invoke/MethodHandle"), (by decide : "java/lang/StringBuilder" ≠ "java/lang/invoke/VarHandle"), cp_126, (by decide : 1 ≤ 22)⟩
theorem cp_127 : (parseMethodDescriptor "([BII)[B").map (fun d => d.parameters.length) = some 3 := by decide +kernel
theorem ce_127 (G : va_G) (a0 a1 a2 a3 : ClassId) (n0 : Nat) (em mi ic : Nat) : CalleeOk (VV G a0 a1 a2 a3 n0) (DD em mi ic) 127 3 := ⟨tw_525, tw_35, (by decide : "java/util/Arrays" ≠ "java/lang/invoke/MethodHandle"), (by decide : "java/util/Arrays" ≠ "java/lang/invoke/VarHandle"), cp_127, (by decide : 3 ≤ 22)⟩
theorem cp_128 : (parseMethodDescriptor "(III)I").map (fun d => d.parameters.length) = some 3 := by decide +kernel
theorem ce_128 (G : va_G) (a0 a1 a2 a3 : ClassId) (n0 : Nat) (em mi ic : Nat) : CalleeOk (VV G a0 a1 a2 a3 n0) (DD em mi ic) 128 3 := ⟨tw_422, tw_33, (by decide : "jdk/internal/util/ArraysSupport" ≠ "java/lang/invoke/MethodHandle"), (by decide : "jdk/internal/util/ArraysSupport" ≠ "java/lang/invoke/VarHandle"), cp_128, (by decide : 4 ≤ 22)⟩
theorem cp_129 : (parseMethodDescriptor "([Ljava/lang/Object;I)[Ljava/lang/Object;").map (fun d => d.parameters.length) = some 2 := by decide +kernel
theorem ce_129 (G : va_G) (a0 a1 a2 a3 : ClassId) (n0 : Nat) (em mi ic : Nat) : CalleeOk (VV G a0 a1 a2 a3 n0) (DD em mi ic) 129 2 := ⟨tw_819, tw_35, (by decide : "java/util/Arrays" ≠ "java/lang/invoke/MethodHandle"), (by decide : "java/util/Arrays" ≠ "java/lang/invoke/VarHandle"), cp_129, (by decide : 2 ≤ 22)⟩
theorem cp_130 : (parseMethodDescriptor "()I").map (fun d => d.parameters.length) = some 0 := by decide +kernel
theorem ce_130 (G : va_G) (a0 a1 a2 a3 : ClassId) (n0 : Nat) (em mi ic : Nat) : CalleeOk (VV G a0 a1 a2 a3 n0) (DD em mi ic) 130 0 := ⟨tw_521, tw_43, (by decide : "java/lang/AbstractStringBuilder" ≠ "java/lang/invoke/MethodHandle"), (by decide : "java/lang/AbstractStringBuilder" ≠ "java/lang/invoke/VarHandle"), cp_130, (by decide : 1 ≤ 22)⟩
theorem cp_131 : (parseMethodDescriptor "([BII)[B").map (fun d => d.parameters.length) = some 3 := by decide +kernel
theorem ce_131 (G : va_G) (a0 a1 a2 a3 : ClassId) (n0 : Nat) (em mi ic : Nat) : CalleeOk (VV G a0 a1 a2 a3 n0) (DD em mi ic) 131 3 := ⟨tw_528, tw_35, (by decide : "java/util/Arrays" ≠ "java/lang/invoke/MethodHandle"), (by decide : "java/util/Arrays" ≠ "java/lang/invoke/VarHandle"), cp_131, (by decide : 5 ≤ 22)⟩
theorem cp_132 : (parseMethodDescriptor "([Ljava/lang/Object;ILjava/lang/Class;)[Ljava/lang/Object;").map (fun d => d.parameters.length) = some 3 := by decide +kernel
theorem ce_132 (G : va_G) (a0 a1 a2 a3 : ClassId) (n0 : Nat) (em mi ic : Nat) : CalleeOk (VV G a0 a1 a2 a3 n0) (DD em mi ic) 132 3 := ⟨tw_844, tw_35, (by decide : "java/util/Arrays" ≠ "java/lang/invoke/MethodHandle"), (by decide : "java/util/Arrays" ≠ "java/lang/invoke/VarHandle"), cp_132, (by decide : 4 ≤ 22)⟩
theorem cp_133 : (parseMethodDescriptor "(II)V").map (fun d => d.parameters.length) = some 2 := by decide +kernel
theorem ce_133 (G : va_G) (a0 a1 a2 a3 : ClassId) (n0 : Nat) (em mi ic : Nat) : CalleeOk (VV G a0 a1 a2 a3 n0) (DD em mi ic) 133 2 := ⟨tw_531, tw_35, (by decide : "java/util/Arrays" ≠ "java/lang/invoke/MethodHandle"), (by decide : "java/util/Arrays" ≠ "java/lang/invoke/VarHandle"), cp_133, (by decide : 2 ≤ 22)⟩
def thN : List String := ["java/lang/RuntimeException", "java/lang/Exception"]
theorem thN_ok : ∀ n ∈ thN, Bundle.fit n = true := by decide +kernel
theorem thrc_0_77_81 : (Jvm.Cond.classLink "Twelvehundred" 77 (xn 0) :: Jvm.Cond.initialized (xn 0) :: vx_atS "Twelvehundred" 81 (xn 0) thN).all (fun w => Tgl.contains w || Ntl.contains w) = true := by decide +kernel
theorem thr_0_77_81 (G : va_G) (a0 a1 a2 a3 : ClassId) (n0 : Nat) : ∀ w ∈ Jvm.Cond.classLink "Twelvehundred" 77 (xn 0) :: Jvm.Cond.initialized (xn 0) :: vx_atS "Twelvehundred" 81 (xn 0) thN, w ∈ vTg (VV G a0 a1 a2 a3 n0) ∨ w ∈ vNt (VV G a0 a1 a2 a3 n0) := by
  intro w hw
  have h := List.all_eq_true.mp thrc_0_77_81 w hw
  rcases Bool.or_eq_true_iff.mp h with h | h
  · exact Or.inl (List.contains_iff_mem.mp h)
  · exact Or.inr (List.contains_iff_mem.mp h)
theorem thrc_1_88_92 : (Jvm.Cond.classLink "Twelvehundred" 88 (xn 1) :: Jvm.Cond.initialized (xn 1) :: vx_atS "Twelvehundred" 92 (xn 1) thN).all (fun w => Tgl.contains w || Ntl.contains w) = true := by decide +kernel
theorem thr_1_88_92 (G : va_G) (a0 a1 a2 a3 : ClassId) (n0 : Nat) : ∀ w ∈ Jvm.Cond.classLink "Twelvehundred" 88 (xn 1) :: Jvm.Cond.initialized (xn 1) :: vx_atS "Twelvehundred" 92 (xn 1) thN, w ∈ vTg (VV G a0 a1 a2 a3 n0) ∨ w ∈ vNt (VV G a0 a1 a2 a3 n0) := by
  intro w hw
  have h := List.all_eq_true.mp thrc_1_88_92 w hw
  rcases Bool.or_eq_true_iff.mp h with h | h
  · exact Or.inl (List.contains_iff_mem.mp h)
  · exact Or.inr (List.contains_iff_mem.mp h)
theorem thrc_2_112_116 : (Jvm.Cond.classLink "Twelvehundred" 112 (xn 2) :: Jvm.Cond.initialized (xn 2) :: vx_atS "Twelvehundred" 116 (xn 2) thN).all (fun w => Tgl.contains w || Ntl.contains w) = true := by decide +kernel
theorem thr_2_112_116 (G : va_G) (a0 a1 a2 a3 : ClassId) (n0 : Nat) : ∀ w ∈ Jvm.Cond.classLink "Twelvehundred" 112 (xn 2) :: Jvm.Cond.initialized (xn 2) :: vx_atS "Twelvehundred" 116 (xn 2) thN, w ∈ vTg (VV G a0 a1 a2 a3 n0) ∨ w ∈ vNt (VV G a0 a1 a2 a3 n0) := by
  intro w hw
  have h := List.all_eq_true.mp thrc_2_112_116 w hw
  rcases Bool.or_eq_true_iff.mp h with h | h
  · exact Or.inl (List.contains_iff_mem.mp h)
  · exact Or.inr (List.contains_iff_mem.mp h)
theorem han_5 (G : va_G) (a0 a1 a2 a3 : ClassId) (n0 : Nat) (em mi ic : Nat) (pc : Nat) (h1 : 16 ≤ pc) (h2 : pc < 338) : HanOk (VV G a0 a1 a2 a3 n0) (DD em mi ic) 5 pc := by
  have hc : ∀ x ∈ tableOf [(16, 338, 339, 72), (16, 338, 342, 74)], covers x pc = true := by
    intro x hx
    simp [tableOf] at hx
    rcases hx with rfl | rfl <;> simp [covers] <;> omega
  intro k t hk
  have hk : (k, t) ∈ ([(1, 17), (2, 18)] : List (Nat × Nat)) := hk
  simp only [List.mem_cons, Prod.mk.injEq, List.not_mem_nil, or_false] at hk
  rcases hk with ⟨rfl, rfl⟩ | ⟨rfl, rfl⟩
  · exact ⟨(tableOf [(16, 338, 339, 72), (16, 338, 342, 74)]).take 0, _, (tableOf [(16, 338, 339, 72), (16, 338, 342, 74)]).drop 1, "java/lang/IllegalStateException", rfl, fun w hw => absurd hw List.not_mem_nil, hc _ (List.mem_of_getElem? (i := 0) rfl), by decide, tw_964, Or.inr nw_766, rfl⟩
  · exact ⟨(tableOf [(16, 338, 339, 72), (16, 338, 342, 74)]).take 1, _, (tableOf [(16, 338, 339, 72), (16, 338, 342, 74)]).drop 2, "java/lang/IndexOutOfBoundsException", rfl, List.forall_mem_cons.mpr ⟨Or.inr ⟨by decide, "java/lang/IllegalStateException", tw_964, List.mem_of_getElem? (i := 3) rfl⟩, fun w hw => absurd hw List.not_mem_nil⟩, hc _ (List.mem_of_getElem? (i := 1) rfl), by decide, tw_965, Or.inr nw_302, rfl⟩
theorem lsw_21_45 (G : va_G) (a0 a1 a2 a3 : ClassId) (n0 : Nat) (em mi ic : Nat) : ∀ x : Int, jmp (DD em mi ic) 21 45 (lsw [(0, 27), (1, 32)] x [3, 4] 5) (Op.lookupswitch.offset [(0, 27), (1, 32)] 37 x) := by
  intro x
  simp only [lsw, Op.lookupswitch.offset]
  by_cases h0 : x = 0
  · subst h0; rfl
  by_cases h1 : x = 1
  · subst h1; rfl
  simp only [if_neg h0, if_neg h1]
  first | rfl | (simp only [if_neg (Ne.symm h0), if_neg (Ne.symm h1)]; rfl) | (simp [h0, Ne.symm h0, h1, Ne.symm h1]; rfl)
