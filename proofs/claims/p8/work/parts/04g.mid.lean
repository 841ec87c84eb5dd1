theorem castO (j : Nat) {nm : String} (hj : (vwCl[j]?.map (·.1)) = some nm) : ∀ c, DDc j c = true → ∃ r : vw_C, vwCl[c]? = some r ∧ r.1 = nm := by
  intro c hc
  simp only [DDc, Bool.and_eq_true, beq_iff_eq] at hc
  obtain ⟨rfl, -⟩ := hc
  cases h : vwCl[j]? with
  | none => rw [h] at hj; cases hj
  | some r => rw [h] at hj; exact ⟨r, rfl, Option.some.inj hj⟩
theorem castA (j : Nat) {nm : String} (hj : (j == 100) = false) : ∀ t, DDa j t = true → t = 0 ∧ nm = "[I" := by
  intro t ht
  simp [DDa, hj] at ht
theorem cast100a : ∀ c, DDc 100 c = true → ∃ r : vw_C, vwCl[c]? = some r ∧ r.1 = "[I" := by
  intro c h
  simp only [DDc, Bool.and_eq_true, beq_iff_eq, decide_eq_true_eq] at h
  obtain ⟨rfl, h⟩ := h
  omega
theorem cast100b : ∀ t, DDa 100 t = true → t = 0 ∧ "[I" = "[I" := by
  intro t h
  simp only [DDa, Bool.and_eq_true, beq_iff_eq] at h
  exact ⟨h.2, rfl⟩
theorem nmh_0 : "Twelvehundred" ≠ "java/lang/invoke/MethodHandle" := by decide
theorem nvh_0 : "Twelvehundred" ≠ "java/lang/invoke/VarHandle" := by decide
theorem cp_0 : (parseMethodDescriptor "()V").map (fun d => d.parameters.length) = some 0 := by decide +kernel
theorem ce_1 (G : va_G) (a0 a1 a2 a3 : ClassId) (n0 : Nat) (em mi ic : Nat) : CalleeOk (VV G a0 a1 a2 a3 n0) (DD em mi ic) 1 0 := ⟨tw_90, tw_47, nmh_0, nvh_0, cp_0, Nat.le_of_ble_eq_true rfl⟩
theorem nmh_1 : "TwelvehundredModel" ≠ "java/lang/invoke/MethodHandle" := by decide
theorem nvh_1 : "TwelvehundredModel" ≠ "java/lang/invoke/VarHandle" := by decide
theorem ce_2 (G : va_G) (a0 a1 a2 a3 : ClassId) (n0 : Nat) (em mi ic : Nat) : CalleeOk (VV G a0 a1 a2 a3 n0) (DD em mi ic) 2 0 := ⟨tw_1278, tw_57, nmh_1, nvh_1, cp_0, Nat.le_of_ble_eq_true rfl⟩
theorem nmh_2 : "TwelvehundredLaw$Out" ≠ "java/lang/invoke/MethodHandle" := by decide
theorem nvh_2 : "TwelvehundredLaw$Out" ≠ "java/lang/invoke/VarHandle" := by decide
theorem ce_3 (G : va_G) (a0 a1 a2 a3 : ClassId) (n0 : Nat) (em mi ic : Nat) : CalleeOk (VV G a0 a1 a2 a3 n0) (DD em mi ic) 3 0 := ⟨tw_875, tw_58, nmh_2, nvh_2, cp_0, Nat.le_of_ble_eq_true rfl⟩
theorem nmh_3 : "TwelvehundredLaw" ≠ "java/lang/invoke/MethodHandle" := by decide
theorem nvh_3 : "TwelvehundredLaw" ≠ "java/lang/invoke/VarHandle" := by decide
theorem cp_1 : (parseMethodDescriptor "(LTwelvehundred;IILTwelvehundredLaw$Out;)I").map (fun d => d.parameters.length) = some 4 := by decide +kernel
theorem ce_4 (G : va_G) (a0 a1 a2 a3 : ClassId) (n0 : Nat) (em mi ic : Nat) : CalleeOk (VV G a0 a1 a2 a3 n0) (DD em mi ic) 4 4 := ⟨tw_883, tw_46, nmh_3, nvh_3, cp_1, Nat.le_of_ble_eq_true rfl⟩
theorem cp_2 : (parseMethodDescriptor "(II)I").map (fun d => d.parameters.length) = some 2 := by decide +kernel
theorem ce_5 (G : va_G) (a0 a1 a2 a3 : ClassId) (n0 : Nat) (em mi ic : Nat) : CalleeOk (VV G a0 a1 a2 a3 n0) (DD em mi ic) 5 2 := ⟨tw_1344, tw_57, nmh_1, nvh_1, cp_2, Nat.le_of_ble_eq_true rfl⟩
theorem ce_6 (G : va_G) (a0 a1 a2 a3 : ClassId) (n0 : Nat) (em mi ic : Nat) : CalleeOk (VV G a0 a1 a2 a3 n0) (DD em mi ic) 6 4 := ⟨tw_984, tw_46, nmh_3, nvh_3, cp_1, Nat.le_of_ble_eq_true rfl⟩
theorem ce_7 (G : va_G) (a0 a1 a2 a3 : ClassId) (n0 : Nat) (em mi ic : Nat) : CalleeOk (VV G a0 a1 a2 a3 n0) (DD em mi ic) 7 2 := ⟨tw_1357, tw_57, nmh_1, nvh_1, cp_2, Nat.le_of_ble_eq_true rfl⟩
theorem ce_8 (G : va_G) (a0 a1 a2 a3 : ClassId) (n0 : Nat) (em mi ic : Nat) : CalleeOk (VV G a0 a1 a2 a3 n0) (DD em mi ic) 8 4 := ⟨tw_1050, tw_46, nmh_3, nvh_3, cp_1, Nat.le_of_ble_eq_true rfl⟩
theorem ce_9 (G : va_G) (a0 a1 a2 a3 : ClassId) (n0 : Nat) (em mi ic : Nat) : CalleeOk (VV G a0 a1 a2 a3 n0) (DD em mi ic) 9 2 := ⟨tw_1361, tw_57, nmh_1, nvh_1, cp_2, Nat.le_of_ble_eq_true rfl⟩
theorem cp_3 : (parseMethodDescriptor "(LTwelvehundred;IIZLTwelvehundredLaw$Out;)I").map (fun d => d.parameters.length) = some 5 := by decide +kernel
theorem ce_10 (G : va_G) (a0 a1 a2 a3 : ClassId) (n0 : Nat) (em mi ic : Nat) : CalleeOk (VV G a0 a1 a2 a3 n0) (DD em mi ic) 10 5 := ⟨tw_1059, tw_46, nmh_3, nvh_3, cp_3, Nat.le_of_ble_eq_true rfl⟩
theorem cp_4 : (parseMethodDescriptor "(IIZ)I").map (fun d => d.parameters.length) = some 3 := by decide +kernel
theorem ce_11 (G : va_G) (a0 a1 a2 a3 : ClassId) (n0 : Nat) (em mi ic : Nat) : CalleeOk (VV G a0 a1 a2 a3 n0) (DD em mi ic) 11 3 := ⟨tw_1371, tw_57, nmh_1, nvh_1, cp_4, Nat.le_of_ble_eq_true rfl⟩
theorem ce_12 (G : va_G) (a0 a1 a2 a3 : ClassId) (n0 : Nat) (em mi ic : Nat) : CalleeOk (VV G a0 a1 a2 a3 n0) (DD em mi ic) 12 4 := ⟨tw_1100, tw_46, nmh_3, nvh_3, cp_1, Nat.le_of_ble_eq_true rfl⟩
theorem ce_13 (G : va_G) (a0 a1 a2 a3 : ClassId) (n0 : Nat) (em mi ic : Nat) : CalleeOk (VV G a0 a1 a2 a3 n0) (DD em mi ic) 13 2 := ⟨tw_1402, tw_57, nmh_1, nvh_1, cp_2, Nat.le_of_ble_eq_true rfl⟩
theorem cp_5 : (parseMethodDescriptor "(LTwelvehundred;ILTwelvehundredLaw$Out;)I").map (fun d => d.parameters.length) = some 3 := by decide +kernel
theorem ce_14 (G : va_G) (a0 a1 a2 a3 : ClassId) (n0 : Nat) (em mi ic : Nat) : CalleeOk (VV G a0 a1 a2 a3 n0) (DD em mi ic) 14 3 := ⟨tw_1108, tw_46, nmh_3, nvh_3, cp_5, Nat.le_of_ble_eq_true rfl⟩
theorem cp_6 : (parseMethodDescriptor "(I)I").map (fun d => d.parameters.length) = some 1 := by decide +kernel
theorem ce_15 (G : va_G) (a0 a1 a2 a3 : ClassId) (n0 : Nat) (em mi ic : Nat) : CalleeOk (VV G a0 a1 a2 a3 n0) (DD em mi ic) 15 1 := ⟨tw_1406, tw_57, nmh_1, nvh_1, cp_6, Nat.le_of_ble_eq_true rfl⟩
theorem ce_16 (G : va_G) (a0 a1 a2 a3 : ClassId) (n0 : Nat) (em mi ic : Nat) : CalleeOk (VV G a0 a1 a2 a3 n0) (DD em mi ic) 16 3 := ⟨tw_1116, tw_46, nmh_3, nvh_3, cp_5, Nat.le_of_ble_eq_true rfl⟩
theorem ce_17 (G : va_G) (a0 a1 a2 a3 : ClassId) (n0 : Nat) (em mi ic : Nat) : CalleeOk (VV G a0 a1 a2 a3 n0) (DD em mi ic) 17 1 := ⟨tw_1410, tw_57, nmh_1, nvh_1, cp_6, Nat.le_of_ble_eq_true rfl⟩
theorem cp_7 : (parseMethodDescriptor "()I").map (fun d => d.parameters.length) = some 0 := by decide +kernel
theorem ce_18 (G : va_G) (a0 a1 a2 a3 : ClassId) (n0 : Nat) (em mi ic : Nat) : CalleeOk (VV G a0 a1 a2 a3 n0) (DD em mi ic) 18 0 := ⟨tw_1340, tw_57, nmh_1, nvh_1, cp_7, Nat.le_of_ble_eq_true rfl⟩
theorem ce_19 (G : va_G) (a0 a1 a2 a3 : ClassId) (n0 : Nat) (em mi ic : Nat) : CalleeOk (VV G a0 a1 a2 a3 n0) (DD em mi ic) 19 3 := ⟨tw_1124, tw_46, nmh_3, nvh_3, cp_5, Nat.le_of_ble_eq_true rfl⟩
theorem ce_20 (G : va_G) (a0 a1 a2 a3 : ClassId) (n0 : Nat) (em mi ic : Nat) : CalleeOk (VV G a0 a1 a2 a3 n0) (DD em mi ic) 20 1 := ⟨tw_1418, tw_57, nmh_1, nvh_1, cp_6, Nat.le_of_ble_eq_true rfl⟩
theorem ce_21 (G : va_G) (a0 a1 a2 a3 : ClassId) (n0 : Nat) (em mi ic : Nat) : CalleeOk (VV G a0 a1 a2 a3 n0) (DD em mi ic) 21 4 := ⟨tw_1148, tw_46, nmh_3, nvh_3, cp_1, Nat.le_of_ble_eq_true rfl⟩
theorem ce_22 (G : va_G) (a0 a1 a2 a3 : ClassId) (n0 : Nat) (em mi ic : Nat) : CalleeOk (VV G a0 a1 a2 a3 n0) (DD em mi ic) 22 2 := ⟨tw_1474, tw_57, nmh_1, nvh_1, cp_2, Nat.le_of_ble_eq_true rfl⟩
theorem ce_23 (G : va_G) (a0 a1 a2 a3 : ClassId) (n0 : Nat) (em mi ic : Nat) : CalleeOk (VV G a0 a1 a2 a3 n0) (DD em mi ic) 23 3 := ⟨tw_1176, tw_46, nmh_3, nvh_3, cp_5, Nat.le_of_ble_eq_true rfl⟩
theorem ce_24 (G : va_G) (a0 a1 a2 a3 : ClassId) (n0 : Nat) (em mi ic : Nat) : CalleeOk (VV G a0 a1 a2 a3 n0) (DD em mi ic) 24 1 := ⟨tw_1478, tw_57, nmh_1, nvh_1, cp_6, Nat.le_of_ble_eq_true rfl⟩
theorem ce_25 (G : va_G) (a0 a1 a2 a3 : ClassId) (n0 : Nat) (em mi ic : Nat) : CalleeOk (VV G a0 a1 a2 a3 n0) (DD em mi ic) 25 3 := ⟨tw_1193, tw_46, nmh_3, nvh_3, cp_5, Nat.le_of_ble_eq_true rfl⟩
theorem ce_26 (G : va_G) (a0 a1 a2 a3 : ClassId) (n0 : Nat) (em mi ic : Nat) : CalleeOk (VV G a0 a1 a2 a3 n0) (DD em mi ic) 26 1 := ⟨tw_1482, tw_57, nmh_1, nvh_1, cp_6, Nat.le_of_ble_eq_true rfl⟩
theorem cp_8 : (parseMethodDescriptor "(LTwelvehundred;IZLTwelvehundredLaw$Out;)I").map (fun d => d.parameters.length) = some 4 := by decide +kernel
theorem ce_27 (G : va_G) (a0 a1 a2 a3 : ClassId) (n0 : Nat) (em mi ic : Nat) : CalleeOk (VV G a0 a1 a2 a3 n0) (DD em mi ic) 27 4 := ⟨tw_1226, tw_46, nmh_3, nvh_3, cp_8, Nat.le_of_ble_eq_true rfl⟩
theorem cp_9 : (parseMethodDescriptor "(IZ)I").map (fun d => d.parameters.length) = some 2 := by decide +kernel
theorem ce_28 (G : va_G) (a0 a1 a2 a3 : ClassId) (n0 : Nat) (em mi ic : Nat) : CalleeOk (VV G a0 a1 a2 a3 n0) (DD em mi ic) 28 2 := ⟨tw_1510, tw_57, nmh_1, nvh_1, cp_9, Nat.le_of_ble_eq_true rfl⟩
theorem ce_29 (G : va_G) (a0 a1 a2 a3 : ClassId) (n0 : Nat) (em mi ic : Nat) : CalleeOk (VV G a0 a1 a2 a3 n0) (DD em mi ic) 29 0 := ⟨tw_281, tw_47, nmh_0, nvh_0, cp_7, Nat.le_of_ble_eq_true rfl⟩
theorem ce_30 (G : va_G) (a0 a1 a2 a3 : ClassId) (n0 : Nat) (em mi ic : Nat) : CalleeOk (VV G a0 a1 a2 a3 n0) (DD em mi ic) 30 0 := ⟨tw_1539, tw_57, nmh_1, nvh_1, cp_7, Nat.le_of_ble_eq_true rfl⟩
theorem ce_31 (G : va_G) (a0 a1 a2 a3 : ClassId) (n0 : Nat) (em mi ic : Nat) : CalleeOk (VV G a0 a1 a2 a3 n0) (DD em mi ic) 31 4 := ⟨tw_1234, tw_46, nmh_3, nvh_3, cp_1, Nat.le_of_ble_eq_true rfl⟩
theorem ce_32 (G : va_G) (a0 a1 a2 a3 : ClassId) (n0 : Nat) (em mi ic : Nat) : CalleeOk (VV G a0 a1 a2 a3 n0) (DD em mi ic) 32 2 := ⟨tw_1543, tw_57, nmh_1, nvh_1, cp_2, Nat.le_of_ble_eq_true rfl⟩
theorem ce_33 (G : va_G) (a0 a1 a2 a3 : ClassId) (n0 : Nat) (em mi ic : Nat) : CalleeOk (VV G a0 a1 a2 a3 n0) (DD em mi ic) 33 4 := ⟨tw_1238, tw_46, nmh_3, nvh_3, cp_1, Nat.le_of_ble_eq_true rfl⟩
theorem ce_34 (G : va_G) (a0 a1 a2 a3 : ClassId) (n0 : Nat) (em mi ic : Nat) : CalleeOk (VV G a0 a1 a2 a3 n0) (DD em mi ic) 34 2 := ⟨tw_1559, tw_57, nmh_1, nvh_1, cp_2, Nat.le_of_ble_eq_true rfl⟩
theorem ce_35 (G : va_G) (a0 a1 a2 a3 : ClassId) (n0 : Nat) (em mi ic : Nat) : CalleeOk (VV G a0 a1 a2 a3 n0) (DD em mi ic) 35 4 := ⟨tw_1242, tw_46, nmh_3, nvh_3, cp_1, Nat.le_of_ble_eq_true rfl⟩
theorem ce_36 (G : va_G) (a0 a1 a2 a3 : ClassId) (n0 : Nat) (em mi ic : Nat) : CalleeOk (VV G a0 a1 a2 a3 n0) (DD em mi ic) 36 2 := ⟨tw_1595, tw_57, nmh_1, nvh_1, cp_2, Nat.le_of_ble_eq_true rfl⟩
theorem ce_37 (G : va_G) (a0 a1 a2 a3 : ClassId) (n0 : Nat) (em mi ic : Nat) : CalleeOk (VV G a0 a1 a2 a3 n0) (DD em mi ic) 37 4 := ⟨tw_1246, tw_46, nmh_3, nvh_3, cp_1, Nat.le_of_ble_eq_true rfl⟩
theorem ce_38 (G : va_G) (a0 a1 a2 a3 : ClassId) (n0 : Nat) (em mi ic : Nat) : CalleeOk (VV G a0 a1 a2 a3 n0) (DD em mi ic) 38 2 := ⟨tw_1611, tw_57, nmh_1, nvh_1, cp_2, Nat.le_of_ble_eq_true rfl⟩
theorem ce_39 (G : va_G) (a0 a1 a2 a3 : ClassId) (n0 : Nat) (em mi ic : Nat) : CalleeOk (VV G a0 a1 a2 a3 n0) (DD em mi ic) 39 3 := ⟨tw_1250, tw_46, nmh_3, nvh_3, cp_5, Nat.le_of_ble_eq_true rfl⟩
theorem ce_40 (G : va_G) (a0 a1 a2 a3 : ClassId) (n0 : Nat) (em mi ic : Nat) : CalleeOk (VV G a0 a1 a2 a3 n0) (DD em mi ic) 40 1 := ⟨tw_1615, tw_57, nmh_1, nvh_1, cp_6, Nat.le_of_ble_eq_true rfl⟩
theorem cp_10 : (parseMethodDescriptor "()Ljava/lang/String;").map (fun d => d.parameters.length) = some 0 := by decide +kernel
theorem ce_41 (G : va_G) (a0 a1 a2 a3 : ClassId) (n0 : Nat) (em mi ic : Nat) : CalleeOk (VV G a0 a1 a2 a3 n0) (DD em mi ic) 41 0 := ⟨tw_285, tw_47, nmh_0, nvh_0, cp_10, Nat.le_of_ble_eq_true rfl⟩
theorem ce_42 (G : va_G) (a0 a1 a2 a3 : ClassId) (n0 : Nat) (em mi ic : Nat) : CalleeOk (VV G a0 a1 a2 a3 n0) (DD em mi ic) 42 0 := ⟨tw_1631, tw_57, nmh_1, nvh_1, cp_10, Nat.le_of_ble_eq_true rfl⟩
theorem ce_43 (G : va_G) (a0 a1 a2 a3 : ClassId) (n0 : Nat) (em mi ic : Nat) : CalleeOk (VV G a0 a1 a2 a3 n0) (DD em mi ic) 43 3 := ⟨tw_1254, tw_46, nmh_3, nvh_3, cp_5, Nat.le_of_ble_eq_true rfl⟩
theorem cp_11 : (parseMethodDescriptor "(I)Z").map (fun d => d.parameters.length) = some 1 := by decide +kernel
theorem ce_44 (G : va_G) (a0 a1 a2 a3 : ClassId) (n0 : Nat) (em mi ic : Nat) : CalleeOk (VV G a0 a1 a2 a3 n0) (DD em mi ic) 44 1 := ⟨tw_1643, tw_57, nmh_1, nvh_1, cp_11, Nat.le_of_ble_eq_true rfl⟩
theorem ce_45 (G : va_G) (a0 a1 a2 a3 : ClassId) (n0 : Nat) (em mi ic : Nat) : CalleeOk (VV G a0 a1 a2 a3 n0) (DD em mi ic) 45 0 := ⟨tw_643, tw_47, nmh_0, nvh_0, cp_7, Nat.le_of_ble_eq_true rfl⟩
theorem ce_46 (G : va_G) (a0 a1 a2 a3 : ClassId) (n0 : Nat) (em mi ic : Nat) : CalleeOk (VV G a0 a1 a2 a3 n0) (DD em mi ic) 46 0 := ⟨tw_1647, tw_57, nmh_1, nvh_1, cp_7, Nat.le_of_ble_eq_true rfl⟩
theorem ce_47 (G : va_G) (a0 a1 a2 a3 : ClassId) (n0 : Nat) (em mi ic : Nat) : CalleeOk (VV G a0 a1 a2 a3 n0) (DD em mi ic) 47 1 := ⟨tw_680, tw_47, nmh_0, nvh_0, cp_11, Nat.le_of_ble_eq_true rfl⟩
theorem ce_48 (G : va_G) (a0 a1 a2 a3 : ClassId) (n0 : Nat) (em mi ic : Nat) : CalleeOk (VV G a0 a1 a2 a3 n0) (DD em mi ic) 48 1 := ⟨tw_1651, tw_57, nmh_1, nvh_1, cp_11, Nat.le_of_ble_eq_true rfl⟩
theorem ce_49 (G : va_G) (a0 a1 a2 a3 : ClassId) (n0 : Nat) (em mi ic : Nat) : CalleeOk (VV G a0 a1 a2 a3 n0) (DD em mi ic) 49 4 := ⟨tw_1263, tw_46, nmh_3, nvh_3, cp_1, Nat.le_of_ble_eq_true rfl⟩
theorem ce_50 (G : va_G) (a0 a1 a2 a3 : ClassId) (n0 : Nat) (em mi ic : Nat) : CalleeOk (VV G a0 a1 a2 a3 n0) (DD em mi ic) 50 2 := ⟨tw_1660, tw_57, nmh_1, nvh_1, cp_2, Nat.le_of_ble_eq_true rfl⟩
theorem ce_51 (G : va_G) (a0 a1 a2 a3 : ClassId) (n0 : Nat) (em mi ic : Nat) : CalleeOk (VV G a0 a1 a2 a3 n0) (DD em mi ic) 51 4 := ⟨tw_1267, tw_46, nmh_3, nvh_3, cp_1, Nat.le_of_ble_eq_true rfl⟩
theorem cp_12 : (parseMethodDescriptor "(II)Z").map (fun d => d.parameters.length) = some 2 := by decide +kernel
theorem ce_52 (G : va_G) (a0 a1 a2 a3 : ClassId) (n0 : Nat) (em mi ic : Nat) : CalleeOk (VV G a0 a1 a2 a3 n0) (DD em mi ic) 52 2 := ⟨tw_1668, tw_57, nmh_1, nvh_1, cp_12, Nat.le_of_ble_eq_true rfl⟩
theorem cp_13 : (parseMethodDescriptor "()Z").map (fun d => d.parameters.length) = some 0 := by decide +kernel
theorem ce_53 (G : va_G) (a0 a1 a2 a3 : ClassId) (n0 : Nat) (em mi ic : Nat) : CalleeOk (VV G a0 a1 a2 a3 n0) (DD em mi ic) 53 0 := ⟨tw_745, tw_47, nmh_0, nvh_0, cp_13, Nat.le_of_ble_eq_true rfl⟩
theorem ce_54 (G : va_G) (a0 a1 a2 a3 : ClassId) (n0 : Nat) (em mi ic : Nat) : CalleeOk (VV G a0 a1 a2 a3 n0) (DD em mi ic) 54 0 := ⟨tw_1672, tw_57, nmh_1, nvh_1, cp_13, Nat.le_of_ble_eq_true rfl⟩
theorem cp_14 : (parseMethodDescriptor "()J").map (fun d => d.parameters.length) = some 0 := by decide +kernel
theorem ce_55 (G : va_G) (a0 a1 a2 a3 : ClassId) (n0 : Nat) (em mi ic : Nat) : CalleeOk (VV G a0 a1 a2 a3 n0) (DD em mi ic) 55 0 := ⟨tw_789, tw_47, nmh_0, nvh_0, cp_14, Nat.le_of_ble_eq_true rfl⟩
theorem ce_56 (G : va_G) (a0 a1 a2 a3 : ClassId) (n0 : Nat) (em mi ic : Nat) : CalleeOk (VV G a0 a1 a2 a3 n0) (DD em mi ic) 56 0 := ⟨tw_1684, tw_57, nmh_1, nvh_1, cp_14, Nat.le_of_ble_eq_true rfl⟩
theorem nmh_4 : "Twelvehundred$River" ≠ "java/lang/invoke/MethodHandle" := by decide
theorem nvh_4 : "Twelvehundred$River" ≠ "java/lang/invoke/VarHandle" := by decide
theorem ce_57 (G : va_G) (a0 a1 a2 a3 : ClassId) (n0 : Nat) (em mi ic : Nat) : CalleeOk (VV G a0 a1 a2 a3 n0) (DD em mi ic) 57 0 := ⟨tw_98, tw_48, nmh_4, nvh_4, cp_0, Nat.le_of_ble_eq_true rfl⟩
theorem nmh_5 : "java/util/ArrayList" ≠ "java/lang/invoke/MethodHandle" := by decide
theorem nvh_5 : "java/util/ArrayList" ≠ "java/lang/invoke/VarHandle" := by decide
theorem ce_58 (G : va_G) (a0 a1 a2 a3 : ClassId) (n0 : Nat) (em mi ic : Nat) : CalleeOk (VV G a0 a1 a2 a3 n0) (DD em mi ic) 58 0 := ⟨tw_117, tw_51, nmh_5, nvh_5, cp_0, Nat.le_of_ble_eq_true rfl⟩
theorem nmh_6 : "Twelvehundred$Placing" ≠ "java/lang/invoke/MethodHandle" := by decide
theorem nvh_6 : "Twelvehundred$Placing" ≠ "java/lang/invoke/VarHandle" := by decide
theorem cp_15 : (parseMethodDescriptor "(Ljava/util/ArrayList;Ljava/util/ArrayList;)V").map (fun d => d.parameters.length) = some 2 := by decide +kernel
theorem ce_59 (G : va_G) (a0 a1 a2 a3 : ClassId) (n0 : Nat) (em mi ic : Nat) : CalleeOk (VV G a0 a1 a2 a3 n0) (DD em mi ic) 59 2 := ⟨tw_146, tw_52, nmh_6, nvh_6, cp_15, Nat.le_of_ble_eq_true rfl⟩
theorem nmh_7 : "Twelvehundred$Rescue" ≠ "java/lang/invoke/MethodHandle" := by decide
theorem nvh_7 : "Twelvehundred$Rescue" ≠ "java/lang/invoke/VarHandle" := by decide
theorem cp_16 : (parseMethodDescriptor "(LTwelvehundred$River;Ljava/util/ArrayList;)V").map (fun d => d.parameters.length) = some 2 := by decide +kernel
theorem ce_60 (G : va_G) (a0 a1 a2 a3 : ClassId) (n0 : Nat) (em mi ic : Nat) : CalleeOk (VV G a0 a1 a2 a3 n0) (DD em mi ic) 60 2 := ⟨tw_164, tw_53, nmh_7, nvh_7, cp_16, Nat.le_of_ble_eq_true rfl⟩
theorem nmh_8 : "Twelvehundred$Asking" ≠ "java/lang/invoke/MethodHandle" := by decide
theorem nvh_8 : "Twelvehundred$Asking" ≠ "java/lang/invoke/VarHandle" := by decide
theorem cp_17 : (parseMethodDescriptor "(Ljava/util/ArrayList;Ljava/util/ArrayList;LTwelvehundred$Placing;)V").map (fun d => d.parameters.length) = some 3 := by decide +kernel
theorem ce_61 (G : va_G) (a0 a1 a2 a3 : ClassId) (n0 : Nat) (em mi ic : Nat) : CalleeOk (VV G a0 a1 a2 a3 n0) (DD em mi ic) 61 3 := ⟨tw_185, tw_54, nmh_8, nvh_8, cp_17, Nat.le_of_ble_eq_true rfl⟩
theorem nmh_9 : "Twelvehundred$Larder" ≠ "java/lang/invoke/MethodHandle" := by decide
theorem nvh_9 : "Twelvehundred$Larder" ≠ "java/lang/invoke/VarHandle" := by decide
theorem ce_62 (G : va_G) (a0 a1 a2 a3 : ClassId) (n0 : Nat) (em mi ic : Nat) : CalleeOk (VV G a0 a1 a2 a3 n0) (DD em mi ic) 62 0 := ⟨tw_209, tw_55, nmh_9, nvh_9, cp_0, Nat.le_of_ble_eq_true rfl⟩
theorem nmh_10 : "Twelvehundred$Bulletin" ≠ "java/lang/invoke/MethodHandle" := by decide
theorem nvh_10 : "Twelvehundred$Bulletin" ≠ "java/lang/invoke/VarHandle" := by decide
theorem ce_63 (G : va_G) (a0 a1 a2 a3 : ClassId) (n0 : Nat) (em mi ic : Nat) : CalleeOk (VV G a0 a1 a2 a3 n0) (DD em mi ic) 63 0 := ⟨tw_234, tw_56, nmh_10, nvh_10, cp_0, Nat.le_of_ble_eq_true rfl⟩
theorem ce_64 (G : va_G) (a0 a1 a2 a3 : ClassId) (n0 : Nat) (em mi ic : Nat) : CalleeOk (VV G a0 a1 a2 a3 n0) (DD em mi ic) 64 2 := ⟨tw_889, tw_47, nmh_0, nvh_0, cp_2, Nat.le_of_ble_eq_true rfl⟩
theorem cp_18 : (parseMethodDescriptor "(III)Z").map (fun d => d.parameters.length) = some 3 := by decide +kernel
theorem ce_65 (G : va_G) (a0 a1 a2 a3 : ClassId) (n0 : Nat) (em mi ic : Nat) : CalleeOk (VV G a0 a1 a2 a3 n0) (DD em mi ic) 65 3 := ⟨tw_1347, tw_57, nmh_1, nvh_1, cp_18, Nat.le_of_ble_eq_true rfl⟩
theorem ce_66 (G : va_G) (a0 a1 a2 a3 : ClassId) (n0 : Nat) (em mi ic : Nat) : CalleeOk (VV G a0 a1 a2 a3 n0) (DD em mi ic) 66 1 := ⟨tw_1351, tw_57, nmh_1, nvh_1, cp_6, Nat.le_of_ble_eq_true rfl⟩
theorem ce_67 (G : va_G) (a0 a1 a2 a3 : ClassId) (n0 : Nat) (em mi ic : Nat) : CalleeOk (VV G a0 a1 a2 a3 n0) (DD em mi ic) 67 0 := ⟨tw_321, tw_51, nmh_5, nvh_5, cp_7, Nat.le_of_ble_eq_true rfl⟩
theorem cp_19 : (parseMethodDescriptor "(Ljava/lang/Object;)Z").map (fun d => d.parameters.length) = some 1 := by decide +kernel
theorem ce_68 (G : va_G) (a0 a1 a2 a3 : ClassId) (n0 : Nat) (em mi ic : Nat) : CalleeOk (VV G a0 a1 a2 a3 n0) (DD em mi ic) 68 1 := ⟨tw_930, tw_51, nmh_5, nvh_5, cp_19, Nat.le_of_ble_eq_true rfl⟩
theorem ce_69 (G : va_G) (a0 a1 a2 a3 : ClassId) (n0 : Nat) (em mi ic : Nat) : CalleeOk (VV G a0 a1 a2 a3 n0) (DD em mi ic) 69 2 := ⟨tw_988, tw_47, nmh_0, nvh_0, cp_2, Nat.le_of_ble_eq_true rfl⟩
theorem ce_70 (G : va_G) (a0 a1 a2 a3 : ClassId) (n0 : Nat) (em mi ic : Nat) : CalleeOk (VV G a0 a1 a2 a3 n0) (DD em mi ic) 70 2 := ⟨tw_1055, tw_47, nmh_0, nvh_0, cp_2, Nat.le_of_ble_eq_true rfl⟩
theorem ce_71 (G : va_G) (a0 a1 a2 a3 : ClassId) (n0 : Nat) (em mi ic : Nat) : CalleeOk (VV G a0 a1 a2 a3 n0) (DD em mi ic) 71 1 := ⟨tw_1365, tw_57, nmh_1, nvh_1, cp_11, Nat.le_of_ble_eq_true rfl⟩
theorem cp_20 : (parseMethodDescriptor "(I)Ljava/lang/Object;").map (fun d => d.parameters.length) = some 1 := by decide +kernel
theorem ce_72 (G : va_G) (a0 a1 a2 a3 : ClassId) (n0 : Nat) (em mi ic : Nat) : CalleeOk (VV G a0 a1 a2 a3 n0) (DD em mi ic) 72 1 := ⟨tw_325, tw_51, nmh_5, nvh_5, cp_20, Nat.le_of_ble_eq_true rfl⟩
theorem ce_73 (G : va_G) (a0 a1 a2 a3 : ClassId) (n0 : Nat) (em mi ic : Nat) : CalleeOk (VV G a0 a1 a2 a3 n0) (DD em mi ic) 73 3 := ⟨tw_1063, tw_47, nmh_0, nvh_0, cp_4, Nat.le_of_ble_eq_true rfl⟩
theorem ce_74 (G : va_G) (a0 a1 a2 a3 : ClassId) (n0 : Nat) (em mi ic : Nat) : CalleeOk (VV G a0 a1 a2 a3 n0) (DD em mi ic) 74 1 := ⟨tw_1375, tw_57, nmh_1, nvh_1, cp_11, Nat.le_of_ble_eq_true rfl⟩
theorem nmh_11 : "TwelvehundredModel$Household" ≠ "java/lang/invoke/MethodHandle" := by decide
theorem nvh_11 : "TwelvehundredModel$Household" ≠ "java/lang/invoke/VarHandle" := by decide
theorem ce_75 (G : va_G) (a0 a1 a2 a3 : ClassId) (n0 : Nat) (em mi ic : Nat) : CalleeOk (VV G a0 a1 a2 a3 n0) (DD em mi ic) 75 0 := ⟨tw_1380, tw_76, nmh_11, nvh_11, cp_0, Nat.le_of_ble_eq_true rfl⟩
theorem ce_76 (G : va_G) (a0 a1 a2 a3 : ClassId) (n0 : Nat) (em mi ic : Nat) : CalleeOk (VV G a0 a1 a2 a3 n0) (DD em mi ic) 76 1 := ⟨tw_1398, tw_57, nmh_1, nvh_1, cp_11, Nat.le_of_ble_eq_true rfl⟩
theorem ce_77 (G : va_G) (a0 a1 a2 a3 : ClassId) (n0 : Nat) (em mi ic : Nat) : CalleeOk (VV G a0 a1 a2 a3 n0) (DD em mi ic) 77 2 := ⟨tw_1104, tw_47, nmh_0, nvh_0, cp_2, Nat.le_of_ble_eq_true rfl⟩
theorem ce_78 (G : va_G) (a0 a1 a2 a3 : ClassId) (n0 : Nat) (em mi ic : Nat) : CalleeOk (VV G a0 a1 a2 a3 n0) (DD em mi ic) 78 1 := ⟨tw_1112, tw_47, nmh_0, nvh_0, cp_6, Nat.le_of_ble_eq_true rfl⟩
theorem ce_79 (G : va_G) (a0 a1 a2 a3 : ClassId) (n0 : Nat) (em mi ic : Nat) : CalleeOk (VV G a0 a1 a2 a3 n0) (DD em mi ic) 79 1 := ⟨tw_1120, tw_47, nmh_0, nvh_0, cp_6, Nat.le_of_ble_eq_true rfl⟩
theorem ce_80 (G : va_G) (a0 a1 a2 a3 : ClassId) (n0 : Nat) (em mi ic : Nat) : CalleeOk (VV G a0 a1 a2 a3 n0) (DD em mi ic) 80 1 := ⟨tw_1414, tw_57, nmh_1, nvh_1, cp_11, Nat.le_of_ble_eq_true rfl⟩
theorem ce_81 (G : va_G) (a0 a1 a2 a3 : ClassId) (n0 : Nat) (em mi ic : Nat) : CalleeOk (VV G a0 a1 a2 a3 n0) (DD em mi ic) 81 1 := ⟨tw_1128, tw_47, nmh_0, nvh_0, cp_6, Nat.le_of_ble_eq_true rfl⟩
theorem ce_82 (G : va_G) (a0 a1 a2 a3 : ClassId) (n0 : Nat) (em mi ic : Nat) : CalleeOk (VV G a0 a1 a2 a3 n0) (DD em mi ic) 82 0 := ⟨tw_1422, tw_57, nmh_1, nvh_1, cp_7, Nat.le_of_ble_eq_true rfl⟩
theorem ce_83 (G : va_G) (a0 a1 a2 a3 : ClassId) (n0 : Nat) (em mi ic : Nat) : CalleeOk (VV G a0 a1 a2 a3 n0) (DD em mi ic) 83 2 := ⟨tw_1152, tw_47, nmh_0, nvh_0, cp_2, Nat.le_of_ble_eq_true rfl⟩
theorem ce_84 (G : va_G) (a0 a1 a2 a3 : ClassId) (n0 : Nat) (em mi ic : Nat) : CalleeOk (VV G a0 a1 a2 a3 n0) (DD em mi ic) 84 1 := ⟨tw_1180, tw_47, nmh_0, nvh_0, cp_6, Nat.le_of_ble_eq_true rfl⟩
theorem cp_21 : (parseMethodDescriptor "()Ljava/util/Iterator;").map (fun d => d.parameters.length) = some 0 := by decide +kernel
theorem ce_85 (G : va_G) (a0 a1 a2 a3 : ClassId) (n0 : Nat) (em mi ic : Nat) : CalleeOk (VV G a0 a1 a2 a3 n0) (DD em mi ic) 85 0 := ⟨tw_1428, tw_51, nmh_5, nvh_5, cp_21, Nat.le_of_ble_eq_true rfl⟩
theorem nmh_12 : "java/util/ArrayList$Itr" ≠ "java/lang/invoke/MethodHandle" := by decide
theorem nvh_12 : "java/util/ArrayList$Itr" ≠ "java/lang/invoke/VarHandle" := by decide
theorem ce_86 (G : va_G) (a0 a1 a2 a3 : ClassId) (n0 : Nat) (em mi ic : Nat) : CalleeOk (VV G a0 a1 a2 a3 n0) (DD em mi ic) 86 0 := ⟨tw_1457, tw_77, nmh_12, nvh_12, cp_13, Nat.le_of_ble_eq_true rfl⟩
theorem cp_22 : (parseMethodDescriptor "()Ljava/lang/Object;").map (fun d => d.parameters.length) = some 0 := by decide +kernel
theorem ce_87 (G : va_G) (a0 a1 a2 a3 : ClassId) (n0 : Nat) (em mi ic : Nat) : CalleeOk (VV G a0 a1 a2 a3 n0) (DD em mi ic) 87 0 := ⟨tw_1466, tw_77, nmh_12, nvh_12, cp_22, Nat.le_of_ble_eq_true rfl⟩
theorem nmh_13 : "java/lang/Math" ≠ "java/lang/invoke/MethodHandle" := by decide
theorem nvh_13 : "java/lang/Math" ≠ "java/lang/invoke/VarHandle" := by decide
theorem ce_88 (G : va_G) (a0 a1 a2 a3 : ClassId) (n0 : Nat) (em mi ic : Nat) : CalleeOk (VV G a0 a1 a2 a3 n0) (DD em mi ic) 88 2 := ⟨tw_383, tw_66, nmh_13, nvh_13, cp_2, Nat.le_of_ble_eq_true rfl⟩
theorem ce_89 (G : va_G) (a0 a1 a2 a3 : ClassId) (n0 : Nat) (em mi ic : Nat) : CalleeOk (VV G a0 a1 a2 a3 n0) (DD em mi ic) 89 1 := ⟨tw_1197, tw_47, nmh_0, nvh_0, cp_6, Nat.le_of_ble_eq_true rfl⟩
theorem ce_90 (G : va_G) (a0 a1 a2 a3 : ClassId) (n0 : Nat) (em mi ic : Nat) : CalleeOk (VV G a0 a1 a2 a3 n0) (DD em mi ic) 90 1 := ⟨tw_1485, tw_57, nmh_1, nvh_1, cp_11, Nat.le_of_ble_eq_true rfl⟩
theorem nmh_14 : "java/lang/Integer" ≠ "java/lang/invoke/MethodHandle" := by decide
theorem nvh_14 : "java/lang/Integer" ≠ "java/lang/invoke/VarHandle" := by decide
theorem cp_23 : (parseMethodDescriptor "(I)Ljava/lang/Integer;").map (fun d => d.parameters.length) = some 1 := by decide +kernel
theorem ce_91 (G : va_G) (a0 a1 a2 a3 : ClassId) (n0 : Nat) (em mi ic : Nat) : CalleeOk (VV G a0 a1 a2 a3 n0) (DD em mi ic) 91 1 := ⟨tw_1489, tw_73, nmh_14, nvh_14, cp_23, Nat.le_of_ble_eq_true rfl⟩
theorem ce_92 (G : va_G) (a0 a1 a2 a3 : ClassId) (n0 : Nat) (em mi ic : Nat) : CalleeOk (VV G a0 a1 a2 a3 n0) (DD em mi ic) 92 2 := ⟨tw_1230, tw_47, nmh_0, nvh_0, cp_9, Nat.le_of_ble_eq_true rfl⟩
theorem ce_93 (G : va_G) (a0 a1 a2 a3 : ClassId) (n0 : Nat) (em mi ic : Nat) : CalleeOk (VV G a0 a1 a2 a3 n0) (DD em mi ic) 93 0 := ⟨tw_1514, tw_57, nmh_1, nvh_1, cp_7, Nat.le_of_ble_eq_true rfl⟩
theorem ce_94 (G : va_G) (a0 a1 a2 a3 : ClassId) (n0 : Nat) (em mi ic : Nat) : CalleeOk (VV G a0 a1 a2 a3 n0) (DD em mi ic) 94 2 := ⟨tw_810, tw_47, nmh_0, nvh_0, cp_2, Nat.le_of_ble_eq_true rfl⟩
theorem ce_95 (G : va_G) (a0 a1 a2 a3 : ClassId) (n0 : Nat) (em mi ic : Nat) : CalleeOk (VV G a0 a1 a2 a3 n0) (DD em mi ic) 95 2 := ⟨tw_1547, tw_57, nmh_1, nvh_1, cp_2, Nat.le_of_ble_eq_true rfl⟩
theorem ce_96 (G : va_G) (a0 a1 a2 a3 : ClassId) (n0 : Nat) (em mi ic : Nat) : CalleeOk (VV G a0 a1 a2 a3 n0) (DD em mi ic) 96 2 := ⟨tw_839, tw_47, nmh_0, nvh_0, cp_2, Nat.le_of_ble_eq_true rfl⟩
theorem ce_97 (G : va_G) (a0 a1 a2 a3 : ClassId) (n0 : Nat) (em mi ic : Nat) : CalleeOk (VV G a0 a1 a2 a3 n0) (DD em mi ic) 97 2 := ⟨tw_1563, tw_57, nmh_1, nvh_1, cp_2, Nat.le_of_ble_eq_true rfl⟩
theorem ce_98 (G : va_G) (a0 a1 a2 a3 : ClassId) (n0 : Nat) (em mi ic : Nat) : CalleeOk (VV G a0 a1 a2 a3 n0) (DD em mi ic) 98 2 := ⟨tw_846, tw_47, nmh_0, nvh_0, cp_2, Nat.le_of_ble_eq_true rfl⟩
theorem ce_99 (G : va_G) (a0 a1 a2 a3 : ClassId) (n0 : Nat) (em mi ic : Nat) : CalleeOk (VV G a0 a1 a2 a3 n0) (DD em mi ic) 99 2 := ⟨tw_1599, tw_57, nmh_1, nvh_1, cp_2, Nat.le_of_ble_eq_true rfl⟩
theorem ce_100 (G : va_G) (a0 a1 a2 a3 : ClassId) (n0 : Nat) (em mi ic : Nat) : CalleeOk (VV G a0 a1 a2 a3 n0) (DD em mi ic) 100 2 := ⟨tw_854, tw_47, nmh_0, nvh_0, cp_2, Nat.le_of_ble_eq_true rfl⟩
theorem ce_101 (G : va_G) (a0 a1 a2 a3 : ClassId) (n0 : Nat) (em mi ic : Nat) : CalleeOk (VV G a0 a1 a2 a3 n0) (DD em mi ic) 101 1 := ⟨tw_795, tw_47, nmh_0, nvh_0, cp_6, Nat.le_of_ble_eq_true rfl⟩
theorem ce_102 (G : va_G) (a0 a1 a2 a3 : ClassId) (n0 : Nat) (em mi ic : Nat) : CalleeOk (VV G a0 a1 a2 a3 n0) (DD em mi ic) 102 1 := ⟨tw_1619, tw_57, nmh_1, nvh_1, cp_6, Nat.le_of_ble_eq_true rfl⟩
theorem nmh_15 : "java/lang/StringBuilder" ≠ "java/lang/invoke/MethodHandle" := by decide
theorem nvh_15 : "java/lang/StringBuilder" ≠ "java/lang/invoke/VarHandle" := by decide
theorem ce_103 (G : va_G) (a0 a1 a2 a3 : ClassId) (n0 : Nat) (em mi ic : Nat) : CalleeOk (VV G a0 a1 a2 a3 n0) (DD em mi ic) 103 0 := ⟨tw_290, tw_82, nmh_15, nvh_15, cp_0, Nat.le_of_ble_eq_true rfl⟩
theorem cp_24 : (parseMethodDescriptor "(LTwelvehundred$Household;)C").map (fun d => d.parameters.length) = some 1 := by decide +kernel
theorem ce_104 (G : va_G) (a0 a1 a2 a3 : ClassId) (n0 : Nat) (em mi ic : Nat) : CalleeOk (VV G a0 a1 a2 a3 n0) (DD em mi ic) 104 1 := ⟨tw_340, tw_47, nmh_0, nvh_0, cp_24, Nat.le_of_ble_eq_true rfl⟩
theorem cp_25 : (parseMethodDescriptor "(C)Ljava/lang/StringBuilder;").map (fun d => d.parameters.length) = some 1 := by decide +kernel
theorem ce_105 (G : va_G) (a0 a1 a2 a3 : ClassId) (n0 : Nat) (em mi ic : Nat) : CalleeOk (VV G a0 a1 a2 a3 n0) (DD em mi ic) 105 1 := ⟨tw_348, tw_82, nmh_15, nvh_15, cp_25, Nat.le_of_ble_eq_true rfl⟩
theorem ce_106 (G : va_G) (a0 a1 a2 a3 : ClassId) (n0 : Nat) (em mi ic : Nat) : CalleeOk (VV G a0 a1 a2 a3 n0) (DD em mi ic) 106 0 := ⟨tw_441, tw_82, nmh_15, nvh_15, cp_10, Nat.le_of_ble_eq_true rfl⟩
theorem ce_107 (G : va_G) (a0 a1 a2 a3 : ClassId) (n0 : Nat) (em mi ic : Nat) : CalleeOk (VV G a0 a1 a2 a3 n0) (DD em mi ic) 107 0 := ⟨tw_1635, tw_57, nmh_1, nvh_1, cp_10, Nat.le_of_ble_eq_true rfl⟩
theorem ce_108 (G : va_G) (a0 a1 a2 a3 : ClassId) (n0 : Nat) (em mi ic : Nat) : CalleeOk (VV G a0 a1 a2 a3 n0) (DD em mi ic) 108 1 := ⟨tw_1258, tw_47, nmh_0, nvh_0, cp_11, Nat.le_of_ble_eq_true rfl⟩
theorem ce_109 (G : va_G) (a0 a1 a2 a3 : ClassId) (n0 : Nat) (em mi ic : Nat) : CalleeOk (VV G a0 a1 a2 a3 n0) (DD em mi ic) 109 1 := ⟨tw_1591, tw_57, nmh_1, nvh_1, cp_11, Nat.le_of_ble_eq_true rfl⟩
theorem ce_110 (G : va_G) (a0 a1 a2 a3 : ClassId) (n0 : Nat) (em mi ic : Nat) : CalleeOk (VV G a0 a1 a2 a3 n0) (DD em mi ic) 110 0 := ⟨tw_647, tw_53, nmh_7, nvh_7, cp_7, Nat.le_of_ble_eq_true rfl⟩
theorem ce_111 (G : va_G) (a0 a1 a2 a3 : ClassId) (n0 : Nat) (em mi ic : Nat) : CalleeOk (VV G a0 a1 a2 a3 n0) (DD em mi ic) 111 1 := ⟨tw_676, tw_53, nmh_7, nvh_7, cp_6, Nat.le_of_ble_eq_true rfl⟩
theorem ce_112 (G : va_G) (a0 a1 a2 a3 : ClassId) (n0 : Nat) (em mi ic : Nat) : CalleeOk (VV G a0 a1 a2 a3 n0) (DD em mi ic) 112 0 := ⟨tw_1587, tw_57, nmh_1, nvh_1, cp_7, Nat.le_of_ble_eq_true rfl⟩
theorem ce_113 (G : va_G) (a0 a1 a2 a3 : ClassId) (n0 : Nat) (em mi ic : Nat) : CalleeOk (VV G a0 a1 a2 a3 n0) (DD em mi ic) 113 1 := ⟨tw_1607, tw_57, nmh_1, nvh_1, cp_6, Nat.le_of_ble_eq_true rfl⟩
theorem ce_114 (G : va_G) (a0 a1 a2 a3 : ClassId) (n0 : Nat) (em mi ic : Nat) : CalleeOk (VV G a0 a1 a2 a3 n0) (DD em mi ic) 114 1 := ⟨tw_684, tw_52, nmh_6, nvh_6, cp_11, Nat.le_of_ble_eq_true rfl⟩
theorem ce_115 (G : va_G) (a0 a1 a2 a3 : ClassId) (n0 : Nat) (em mi ic : Nat) : CalleeOk (VV G a0 a1 a2 a3 n0) (DD em mi ic) 115 0 := ⟨tw_699, tw_52, nmh_6, nvh_6, cp_13, Nat.le_of_ble_eq_true rfl⟩
theorem ce_116 (G : va_G) (a0 a1 a2 a3 : ClassId) (n0 : Nat) (em mi ic : Nat) : CalleeOk (VV G a0 a1 a2 a3 n0) (DD em mi ic) 116 0 := ⟨tw_713, tw_52, nmh_6, nvh_6, cp_13, Nat.le_of_ble_eq_true rfl⟩
theorem ce_117 (G : va_G) (a0 a1 a2 a3 : ClassId) (n0 : Nat) (em mi ic : Nat) : CalleeOk (VV G a0 a1 a2 a3 n0) (DD em mi ic) 117 0 := ⟨tw_1571, tw_57, nmh_1, nvh_1, cp_7, Nat.le_of_ble_eq_true rfl⟩
theorem ce_118 (G : va_G) (a0 a1 a2 a3 : ClassId) (n0 : Nat) (em mi ic : Nat) : CalleeOk (VV G a0 a1 a2 a3 n0) (DD em mi ic) 118 2 := ⟨tw_1520, tw_57, nmh_1, nvh_1, cp_12, Nat.le_of_ble_eq_true rfl⟩
theorem cp_26 : (parseMethodDescriptor "([I)Z").map (fun d => d.parameters.length) = some 1 := by decide +kernel
theorem ce_119 (G : va_G) (a0 a1 a2 a3 : ClassId) (n0 : Nat) (em mi ic : Nat) : CalleeOk (VV G a0 a1 a2 a3 n0) (DD em mi ic) 119 1 := ⟨tw_1655, tw_57, nmh_1, nvh_1, cp_26, Nat.le_of_ble_eq_true rfl⟩
theorem ce_120 (G : va_G) (a0 a1 a2 a3 : ClassId) (n0 : Nat) (em mi ic : Nat) : CalleeOk (VV G a0 a1 a2 a3 n0) (DD em mi ic) 120 2 := ⟨tw_862, tw_47, nmh_0, nvh_0, cp_2, Nat.le_of_ble_eq_true rfl⟩
theorem ce_121 (G : va_G) (a0 a1 a2 a3 : ClassId) (n0 : Nat) (em mi ic : Nat) : CalleeOk (VV G a0 a1 a2 a3 n0) (DD em mi ic) 121 2 := ⟨tw_1664, tw_57, nmh_1, nvh_1, cp_2, Nat.le_of_ble_eq_true rfl⟩
theorem ce_122 (G : va_G) (a0 a1 a2 a3 : ClassId) (n0 : Nat) (em mi ic : Nat) : CalleeOk (VV G a0 a1 a2 a3 n0) (DD em mi ic) 122 2 := ⟨tw_1271, tw_47, nmh_0, nvh_0, cp_12, Nat.le_of_ble_eq_true rfl⟩
theorem ce_123 (G : va_G) (a0 a1 a2 a3 : ClassId) (n0 : Nat) (em mi ic : Nat) : CalleeOk (VV G a0 a1 a2 a3 n0) (DD em mi ic) 123 2 := ⟨tw_1528, tw_57, nmh_1, nvh_1, cp_12, Nat.le_of_ble_eq_true rfl⟩
theorem ce_124 (G : va_G) (a0 a1 a2 a3 : ClassId) (n0 : Nat) (em mi ic : Nat) : CalleeOk (VV G a0 a1 a2 a3 n0) (DD em mi ic) 124 0 := ⟨tw_688, tw_52, nmh_6, nvh_6, cp_0, Nat.le_of_ble_eq_true rfl⟩
theorem cp_27 : (parseMethodDescriptor "(LTwelvehundred$Placing;LTwelvehundred$Placing;I)Z").map (fun d => d.parameters.length) = some 3 := by decide +kernel
theorem ce_125 (G : va_G) (a0 a1 a2 a3 : ClassId) (n0 : Nat) (em mi ic : Nat) : CalleeOk (VV G a0 a1 a2 a3 n0) (DD em mi ic) 125 3 := ⟨tw_749, tw_52, nmh_6, nvh_6, cp_27, Nat.le_of_ble_eq_true rfl⟩
theorem ce_126 (G : va_G) (a0 a1 a2 a3 : ClassId) (n0 : Nat) (em mi ic : Nat) : CalleeOk (VV G a0 a1 a2 a3 n0) (DD em mi ic) 126 1 := ⟨tw_759, tw_53, nmh_7, nvh_7, cp_11, Nat.le_of_ble_eq_true rfl⟩
theorem ce_127 (G : va_G) (a0 a1 a2 a3 : ClassId) (n0 : Nat) (em mi ic : Nat) : CalleeOk (VV G a0 a1 a2 a3 n0) (DD em mi ic) 127 0 := ⟨tw_764, tw_55, nmh_9, nvh_9, cp_13, Nat.le_of_ble_eq_true rfl⟩
theorem ce_128 (G : va_G) (a0 a1 a2 a3 : ClassId) (n0 : Nat) (em mi ic : Nat) : CalleeOk (VV G a0 a1 a2 a3 n0) (DD em mi ic) 128 0 := ⟨tw_771, tw_56, nmh_10, nvh_10, cp_7, Nat.le_of_ble_eq_true rfl⟩
theorem ce_129 (G : va_G) (a0 a1 a2 a3 : ClassId) (n0 : Nat) (em mi ic : Nat) : CalleeOk (VV G a0 a1 a2 a3 n0) (DD em mi ic) 129 0 := ⟨tw_1676, tw_57, nmh_1, nvh_1, cp_13, Nat.le_of_ble_eq_true rfl⟩
theorem ce_130 (G : va_G) (a0 a1 a2 a3 : ClassId) (n0 : Nat) (em mi ic : Nat) : CalleeOk (VV G a0 a1 a2 a3 n0) (DD em mi ic) 130 1 := ⟨tw_795, tw_47, nmh_0, nvh_0, cp_6, Nat.le_of_ble_eq_true rfl⟩
theorem ce_131 (G : va_G) (a0 a1 a2 a3 : ClassId) (n0 : Nat) (em mi ic : Nat) : CalleeOk (VV G a0 a1 a2 a3 n0) (DD em mi ic) 131 2 := ⟨tw_810, tw_47, nmh_0, nvh_0, cp_2, Nat.le_of_ble_eq_true rfl⟩
theorem ce_132 (G : va_G) (a0 a1 a2 a3 : ClassId) (n0 : Nat) (em mi ic : Nat) : CalleeOk (VV G a0 a1 a2 a3 n0) (DD em mi ic) 132 2 := ⟨tw_839, tw_47, nmh_0, nvh_0, cp_2, Nat.le_of_ble_eq_true rfl⟩
theorem ce_133 (G : va_G) (a0 a1 a2 a3 : ClassId) (n0 : Nat) (em mi ic : Nat) : CalleeOk (VV G a0 a1 a2 a3 n0) (DD em mi ic) 133 2 := ⟨tw_846, tw_47, nmh_0, nvh_0, cp_2, Nat.le_of_ble_eq_true rfl⟩
theorem ce_134 (G : va_G) (a0 a1 a2 a3 : ClassId) (n0 : Nat) (em mi ic : Nat) : CalleeOk (VV G a0 a1 a2 a3 n0) (DD em mi ic) 134 2 := ⟨tw_854, tw_47, nmh_0, nvh_0, cp_2, Nat.le_of_ble_eq_true rfl⟩
theorem ce_135 (G : va_G) (a0 a1 a2 a3 : ClassId) (n0 : Nat) (em mi ic : Nat) : CalleeOk (VV G a0 a1 a2 a3 n0) (DD em mi ic) 135 2 := ⟨tw_862, tw_47, nmh_0, nvh_0, cp_2, Nat.le_of_ble_eq_true rfl⟩
theorem nmh_16 : "java/lang/String" ≠ "java/lang/invoke/MethodHandle" := by decide
theorem nvh_16 : "java/lang/String" ≠ "java/lang/invoke/VarHandle" := by decide
theorem ce_136 (G : va_G) (a0 a1 a2 a3 : ClassId) (n0 : Nat) (em mi ic : Nat) : CalleeOk (VV G a0 a1 a2 a3 n0) (DD em mi ic) 136 0 := ⟨tw_569, tw_83, nmh_16, nvh_16, cp_7, Nat.le_of_ble_eq_true rfl⟩
theorem cp_28 : (parseMethodDescriptor "(Z)I").map (fun d => d.parameters.length) = some 1 := by decide +kernel
theorem ce_137 (G : va_G) (a0 a1 a2 a3 : ClassId) (n0 : Nat) (em mi ic : Nat) : CalleeOk (VV G a0 a1 a2 a3 n0) (DD em mi ic) 137 1 := ⟨tw_672, tw_47, nmh_0, nvh_0, cp_28, Nat.le_of_ble_eq_true rfl⟩
theorem cp_29 : (parseMethodDescriptor "(J)V").map (fun d => d.parameters.length) = some 1 := by decide +kernel
theorem ce_138 (G : va_G) (a0 a1 a2 a3 : ClassId) (n0 : Nat) (em mi ic : Nat) : CalleeOk (VV G a0 a1 a2 a3 n0) (DD em mi ic) 138 1 := ⟨tw_1689, tw_57, nmh_1, nvh_1, cp_29, Nat.le_of_ble_eq_true rfl⟩
theorem nmh_17 : "java/util/AbstractList" ≠ "java/lang/invoke/MethodHandle" := by decide
theorem nvh_17 : "java/util/AbstractList" ≠ "java/lang/invoke/VarHandle" := by decide
theorem ce_139 (G : va_G) (a0 a1 a2 a3 : ClassId) (n0 : Nat) (em mi ic : Nat) : CalleeOk (VV G a0 a1 a2 a3 n0) (DD em mi ic) 139 0 := ⟨tw_120, tw_50, nmh_17, nvh_17, cp_0, Nat.le_of_ble_eq_true rfl⟩
theorem ce_140 (G : va_G) (a0 a1 a2 a3 : ClassId) (n0 : Nat) (em mi ic : Nat) : CalleeOk (VV G a0 a1 a2 a3 n0) (DD em mi ic) 140 3 := ⟨tw_865, tw_47, nmh_0, nvh_0, cp_18, Nat.le_of_ble_eq_true rfl⟩
theorem nmh_18 : "Twelvehundred$Street" ≠ "java/lang/invoke/MethodHandle" := by decide
theorem nvh_18 : "Twelvehundred$Street" ≠ "java/lang/invoke/VarHandle" := by decide
theorem cp_30 : (parseMethodDescriptor "(III)V").map (fun d => d.parameters.length) = some 3 := by decide +kernel
theorem ce_141 (G : va_G) (a0 a1 a2 a3 : ClassId) (n0 : Nat) (em mi ic : Nat) : CalleeOk (VV G a0 a1 a2 a3 n0) (DD em mi ic) 141 3 := ⟨tw_910, tw_64, nmh_18, nvh_18, cp_30, Nat.le_of_ble_eq_true rfl⟩
theorem cp_31 : (parseMethodDescriptor "(Ljava/lang/Object;[Ljava/lang/Object;I)V").map (fun d => d.parameters.length) = some 3 := by decide +kernel
theorem ce_142 (G : va_G) (a0 a1 a2 a3 : ClassId) (n0 : Nat) (em mi ic : Nat) : CalleeOk (VV G a0 a1 a2 a3 n0) (DD em mi ic) 142 3 := ⟨tw_934, tw_51, nmh_5, nvh_5, cp_31, Nat.le_of_ble_eq_true rfl⟩
theorem nmh_19 : "Twelvehundred$Hall" ≠ "java/lang/invoke/MethodHandle" := by decide
theorem nvh_19 : "Twelvehundred$Hall" ≠ "java/lang/invoke/VarHandle" := by decide
theorem ce_143 (G : va_G) (a0 a1 a2 a3 : ClassId) (n0 : Nat) (em mi ic : Nat) : CalleeOk (VV G a0 a1 a2 a3 n0) (DD em mi ic) 143 3 := ⟨tw_994, tw_69, nmh_19, nvh_19, cp_30, Nat.le_of_ble_eq_true rfl⟩
theorem ce_144 (G : va_G) (a0 a1 a2 a3 : ClassId) (n0 : Nat) (em mi ic : Nat) : CalleeOk (VV G a0 a1 a2 a3 n0) (DD em mi ic) 144 0 := ⟨tw_1016, tw_54, nmh_8, nvh_8, cp_0, Nat.le_of_ble_eq_true rfl⟩
theorem nmh_20 : "java/util/Objects" ≠ "java/lang/invoke/MethodHandle" := by decide
theorem nvh_20 : "java/util/Objects" ≠ "java/lang/invoke/VarHandle" := by decide
theorem ce_145 (G : va_G) (a0 a1 a2 a3 : ClassId) (n0 : Nat) (em mi ic : Nat) : CalleeOk (VV G a0 a1 a2 a3 n0) (DD em mi ic) 145 2 := ⟨tw_328, tw_70, nmh_20, nvh_20, cp_2, Nat.le_of_ble_eq_true rfl⟩
theorem ce_146 (G : va_G) (a0 a1 a2 a3 : ClassId) (n0 : Nat) (em mi ic : Nat) : CalleeOk (VV G a0 a1 a2 a3 n0) (DD em mi ic) 146 1 := ⟨tw_335, tw_51, nmh_5, nvh_5, cp_20, Nat.le_of_ble_eq_true rfl⟩
theorem nmh_21 : "Twelvehundred$Household" ≠ "java/lang/invoke/MethodHandle" := by decide
theorem nvh_21 : "Twelvehundred$Household" ≠ "java/lang/invoke/VarHandle" := by decide
theorem cp_32 : (parseMethodDescriptor "(ILTwelvehundred$Street;IZ)V").map (fun d => d.parameters.length) = some 4 := by decide +kernel
theorem ce_147 (G : va_G) (a0 a1 a2 a3 : ClassId) (n0 : Nat) (em mi ic : Nat) : CalleeOk (VV G a0 a1 a2 a3 n0) (DD em mi ic) 147 4 := ⟨tw_1069, tw_75, nmh_21, nvh_21, cp_32, Nat.le_of_ble_eq_true rfl⟩
theorem cp_33 : (parseMethodDescriptor "(LTwelvehundred$Street;)Z").map (fun d => d.parameters.length) = some 1 := by decide +kernel
theorem ce_148 (G : va_G) (a0 a1 a2 a3 : ClassId) (n0 : Nat) (em mi ic : Nat) : CalleeOk (VV G a0 a1 a2 a3 n0) (DD em mi ic) 148 1 := ⟨tw_669, tw_48, nmh_4, nvh_4, cp_33, Nat.le_of_ble_eq_true rfl⟩
theorem ce_149 (G : va_G) (a0 a1 a2 a3 : ClassId) (n0 : Nat) (em mi ic : Nat) : CalleeOk (VV G a0 a1 a2 a3 n0) (DD em mi ic) 149 0 := ⟨tw_1134, tw_48, nmh_4, nvh_4, cp_0, Nat.le_of_ble_eq_true rfl⟩
theorem ce_150 (G : va_G) (a0 a1 a2 a3 : ClassId) (n0 : Nat) (em mi ic : Nat) : CalleeOk (VV G a0 a1 a2 a3 n0) (DD em mi ic) 150 0 := ⟨tw_1140, tw_53, nmh_7, nvh_7, cp_7, Nat.le_of_ble_eq_true rfl⟩
theorem cp_34 : (parseMethodDescriptor "(I)V").map (fun d => d.parameters.length) = some 1 := by decide +kernel
theorem ce_151 (G : va_G) (a0 a1 a2 a3 : ClassId) (n0 : Nat) (em mi ic : Nat) : CalleeOk (VV G a0 a1 a2 a3 n0) (DD em mi ic) 151 1 := ⟨tw_1145, tw_55, nmh_9, nvh_9, cp_34, Nat.le_of_ble_eq_true rfl⟩
theorem ce_152 (G : va_G) (a0 a1 a2 a3 : ClassId) (n0 : Nat) (em mi ic : Nat) : CalleeOk (VV G a0 a1 a2 a3 n0) (DD em mi ic) 152 2 := ⟨tw_365, tw_66, nmh_13, nvh_13, cp_2, Nat.le_of_ble_eq_true rfl⟩
theorem nmh_22 : "Twelvehundred$Lot" ≠ "java/lang/invoke/MethodHandle" := by decide
theorem nvh_22 : "Twelvehundred$Lot" ≠ "java/lang/invoke/VarHandle" := by decide
theorem cp_35 : (parseMethodDescriptor "(II)V").map (fun d => d.parameters.length) = some 2 := by decide +kernel
theorem ce_153 (G : va_G) (a0 a1 a2 a3 : ClassId) (n0 : Nat) (em mi ic : Nat) : CalleeOk (VV G a0 a1 a2 a3 n0) (DD em mi ic) 153 2 := ⟨tw_1157, tw_78, nmh_22, nvh_22, cp_35, Nat.le_of_ble_eq_true rfl⟩
theorem ce_154 (G : va_G) (a0 a1 a2 a3 : ClassId) (n0 : Nat) (em mi ic : Nat) : CalleeOk (VV G a0 a1 a2 a3 n0) (DD em mi ic) 154 1 := ⟨tw_1185, tw_55, nmh_9, nvh_9, cp_6, Nat.le_of_ble_eq_true rfl⟩
theorem cp_36 : (parseMethodDescriptor "(Ljava/util/ArrayList;)V").map (fun d => d.parameters.length) = some 1 := by decide +kernel
theorem ce_155 (G : va_G) (a0 a1 a2 a3 : ClassId) (n0 : Nat) (em mi ic : Nat) : CalleeOk (VV G a0 a1 a2 a3 n0) (DD em mi ic) 155 1 := ⟨tw_1433, tw_77, nmh_12, nvh_12, cp_36, Nat.le_of_ble_eq_true rfl⟩
theorem ce_156 (G : va_G) (a0 a1 a2 a3 : ClassId) (n0 : Nat) (em mi ic : Nat) : CalleeOk (VV G a0 a1 a2 a3 n0) (DD em mi ic) 156 0 := ⟨tw_1470, tw_77, nmh_12, nvh_12, cp_0, Nat.le_of_ble_eq_true rfl⟩
theorem ce_157 (G : va_G) (a0 a1 a2 a3 : ClassId) (n0 : Nat) (em mi ic : Nat) : CalleeOk (VV G a0 a1 a2 a3 n0) (DD em mi ic) 157 1 := ⟨tw_1200, tw_56, nmh_10, nvh_10, cp_11, Nat.le_of_ble_eq_true rfl⟩
theorem nmh_23 : "Twelvehundred$Listed" ≠ "java/lang/invoke/MethodHandle" := by decide
theorem nvh_23 : "Twelvehundred$Listed" ≠ "java/lang/invoke/VarHandle" := by decide
theorem ce_158 (G : va_G) (a0 a1 a2 a3 : ClassId) (n0 : Nat) (em mi ic : Nat) : CalleeOk (VV G a0 a1 a2 a3 n0) (DD em mi ic) 158 1 := ⟨tw_1208, tw_79, nmh_23, nvh_23, cp_34, Nat.le_of_ble_eq_true rfl⟩
theorem ce_159 (G : va_G) (a0 a1 a2 a3 : ClassId) (n0 : Nat) (em mi ic : Nat) : CalleeOk (VV G a0 a1 a2 a3 n0) (DD em mi ic) 159 1 := ⟨tw_1498, tw_73, nmh_14, nvh_14, cp_34, Nat.le_of_ble_eq_true rfl⟩
theorem ce_160 (G : va_G) (a0 a1 a2 a3 : ClassId) (n0 : Nat) (em mi ic : Nat) : CalleeOk (VV G a0 a1 a2 a3 n0) (DD em mi ic) 160 1 := ⟨tw_1517, tw_73, nmh_14, nvh_14, cp_6, Nat.le_of_ble_eq_true rfl⟩
theorem ce_161 (G : va_G) (a0 a1 a2 a3 : ClassId) (n0 : Nat) (em mi ic : Nat) : CalleeOk (VV G a0 a1 a2 a3 n0) (DD em mi ic) 161 0 := ⟨tw_1525, tw_73, nmh_14, nvh_14, cp_7, Nat.le_of_ble_eq_true rfl⟩
theorem cp_37 : (parseMethodDescriptor "(LTwelvehundred$Street;)I").map (fun d => d.parameters.length) = some 1 := by decide +kernel
theorem ce_162 (G : va_G) (a0 a1 a2 a3 : ClassId) (n0 : Nat) (em mi ic : Nat) : CalleeOk (VV G a0 a1 a2 a3 n0) (DD em mi ic) 162 1 := ⟨tw_665, tw_48, nmh_4, nvh_4, cp_37, Nat.le_of_ble_eq_true rfl⟩
theorem ce_163 (G : va_G) (a0 a1 a2 a3 : ClassId) (n0 : Nat) (em mi ic : Nat) : CalleeOk (VV G a0 a1 a2 a3 n0) (DD em mi ic) 163 1 := ⟨tw_834, tw_53, nmh_7, nvh_7, cp_37, Nat.le_of_ble_eq_true rfl⟩
theorem ce_164 (G : va_G) (a0 a1 a2 a3 : ClassId) (n0 : Nat) (em mi ic : Nat) : CalleeOk (VV G a0 a1 a2 a3 n0) (DD em mi ic) 164 1 := ⟨tw_1551, tw_57, nmh_1, nvh_1, cp_6, Nat.le_of_ble_eq_true rfl⟩
theorem ce_165 (G : va_G) (a0 a1 a2 a3 : ClassId) (n0 : Nat) (em mi ic : Nat) : CalleeOk (VV G a0 a1 a2 a3 n0) (DD em mi ic) 165 2 := ⟨tw_1555, tw_57, nmh_1, nvh_1, cp_2, Nat.le_of_ble_eq_true rfl⟩
theorem cp_38 : (parseMethodDescriptor "(LTwelvehundred$Household;)LTwelvehundred$Hall;").map (fun d => d.parameters.length) = some 1 := by decide +kernel
theorem ce_166 (G : va_G) (a0 a1 a2 a3 : ClassId) (n0 : Nat) (em mi ic : Nat) : CalleeOk (VV G a0 a1 a2 a3 n0) (DD em mi ic) 166 1 := ⟨tw_344, tw_52, nmh_6, nvh_6, cp_38, Nat.le_of_ble_eq_true rfl⟩
theorem ce_167 (G : va_G) (a0 a1 a2 a3 : ClassId) (n0 : Nat) (em mi ic : Nat) : CalleeOk (VV G a0 a1 a2 a3 n0) (DD em mi ic) 167 2 := ⟨tw_657, tw_47, nmh_0, nvh_0, cp_12, Nat.le_of_ble_eq_true rfl⟩
theorem cp_39 : (parseMethodDescriptor "()[I").map (fun d => d.parameters.length) = some 0 := by decide +kernel
theorem ce_168 (G : va_G) (a0 a1 a2 a3 : ClassId) (n0 : Nat) (em mi ic : Nat) : CalleeOk (VV G a0 a1 a2 a3 n0) (DD em mi ic) 168 0 := ⟨tw_1567, tw_57, nmh_1, nvh_1, cp_39, Nat.le_of_ble_eq_true rfl⟩
theorem cp_40 : (parseMethodDescriptor "(LTwelvehundred$Hall;)I").map (fun d => d.parameters.length) = some 1 := by decide +kernel
theorem ce_169 (G : va_G) (a0 a1 a2 a3 : ClassId) (n0 : Nat) (em mi ic : Nat) : CalleeOk (VV G a0 a1 a2 a3 n0) (DD em mi ic) 169 1 := ⟨tw_703, tw_52, nmh_6, nvh_6, cp_40, Nat.le_of_ble_eq_true rfl⟩
theorem cp_41 : (parseMethodDescriptor "([II)I").map (fun d => d.parameters.length) = some 2 := by decide +kernel
theorem ce_170 (G : va_G) (a0 a1 a2 a3 : ClassId) (n0 : Nat) (em mi ic : Nat) : CalleeOk (VV G a0 a1 a2 a3 n0) (DD em mi ic) 170 2 := ⟨tw_1603, tw_57, nmh_1, nvh_1, cp_41, Nat.le_of_ble_eq_true rfl⟩
theorem ce_171 (G : va_G) (a0 a1 a2 a3 : ClassId) (n0 : Nat) (em mi ic : Nat) : CalleeOk (VV G a0 a1 a2 a3 n0) (DD em mi ic) 171 1 := ⟨tw_799, tw_53, nmh_7, nvh_7, cp_6, Nat.le_of_ble_eq_true rfl⟩
theorem ce_172 (G : va_G) (a0 a1 a2 a3 : ClassId) (n0 : Nat) (em mi ic : Nat) : CalleeOk (VV G a0 a1 a2 a3 n0) (DD em mi ic) 172 1 := ⟨tw_803, tw_55, nmh_9, nvh_9, cp_6, Nat.le_of_ble_eq_true rfl⟩
theorem cp_42 : (parseMethodDescriptor "([I)I").map (fun d => d.parameters.length) = some 1 := by decide +kernel
theorem ce_173 (G : va_G) (a0 a1 a2 a3 : ClassId) (n0 : Nat) (em mi ic : Nat) : CalleeOk (VV G a0 a1 a2 a3 n0) (DD em mi ic) 173 1 := ⟨tw_1623, tw_57, nmh_1, nvh_1, cp_42, Nat.le_of_ble_eq_true rfl⟩
theorem ce_174 (G : va_G) (a0 a1 a2 a3 : ClassId) (n0 : Nat) (em mi ic : Nat) : CalleeOk (VV G a0 a1 a2 a3 n0) (DD em mi ic) 174 0 := ⟨tw_1627, tw_57, nmh_1, nvh_1, cp_7, Nat.le_of_ble_eq_true rfl⟩
theorem nmh_24 : "java/lang/AbstractStringBuilder" ≠ "java/lang/invoke/MethodHandle" := by decide
theorem nvh_24 : "java/lang/AbstractStringBuilder" ≠ "java/lang/invoke/VarHandle" := by decide
theorem ce_175 (G : va_G) (a0 a1 a2 a3 : ClassId) (n0 : Nat) (em mi ic : Nat) : CalleeOk (VV G a0 a1 a2 a3 n0) (DD em mi ic) 175 1 := ⟨tw_293, tw_81, nmh_24, nvh_24, cp_34, Nat.le_of_ble_eq_true rfl⟩
theorem cp_43 : (parseMethodDescriptor "(C)Ljava/lang/AbstractStringBuilder;").map (fun d => d.parameters.length) = some 1 := by decide +kernel
theorem ce_176 (G : va_G) (a0 a1 a2 a3 : ClassId) (n0 : Nat) (em mi ic : Nat) : CalleeOk (VV G a0 a1 a2 a3 n0) (DD em mi ic) 176 1 := ⟨tw_351, tw_81, nmh_24, nvh_24, cp_43, Nat.le_of_ble_eq_true rfl⟩
theorem cp_44 : (parseMethodDescriptor "(Ljava/lang/StringBuilder;)V").map (fun d => d.parameters.length) = some 1 := by decide +kernel
theorem ce_177 (G : va_G) (a0 a1 a2 a3 : ClassId) (n0 : Nat) (em mi ic : Nat) : CalleeOk (VV G a0 a1 a2 a3 n0) (DD em mi ic) 177 1 := ⟨tw_446, tw_83, nmh_16, nvh_16, cp_44, Nat.le_of_ble_eq_true rfl⟩
theorem ce_178 (G : va_G) (a0 a1 a2 a3 : ClassId) (n0 : Nat) (em mi ic : Nat) : CalleeOk (VV G a0 a1 a2 a3 n0) (DD em mi ic) 178 1 := ⟨tw_654, tw_53, nmh_7, nvh_7, cp_11, Nat.le_of_ble_eq_true rfl⟩
theorem cp_45 : (parseMethodDescriptor "(LTwelvehundred$Household;LTwelvehundred$Hall;)V").map (fun d => d.parameters.length) = some 2 := by decide +kernel
theorem ce_179 (G : va_G) (a0 a1 a2 a3 : ClassId) (n0 : Nat) (em mi ic : Nat) : CalleeOk (VV G a0 a1 a2 a3 n0) (DD em mi ic) 179 2 := ⟨tw_695, tw_52, nmh_6, nvh_6, cp_45, Nat.le_of_ble_eq_true rfl⟩
theorem ce_180 (G : va_G) (a0 a1 a2 a3 : ClassId) (n0 : Nat) (em mi ic : Nat) : CalleeOk (VV G a0 a1 a2 a3 n0) (DD em mi ic) 180 1 := ⟨tw_706, tw_73, nmh_14, nvh_14, cp_6, Nat.le_of_ble_eq_true rfl⟩
theorem ce_181 (G : va_G) (a0 a1 a2 a3 : ClassId) (n0 : Nat) (em mi ic : Nat) : CalleeOk (VV G a0 a1 a2 a3 n0) (DD em mi ic) 181 1 := ⟨tw_717, tw_52, nmh_6, nvh_6, cp_11, Nat.le_of_ble_eq_true rfl⟩
theorem cp_46 : (parseMethodDescriptor "(LTwelvehundred$Household;)Z").map (fun d => d.parameters.length) = some 1 := by decide +kernel
theorem ce_182 (G : va_G) (a0 a1 a2 a3 : ClassId) (n0 : Nat) (em mi ic : Nat) : CalleeOk (VV G a0 a1 a2 a3 n0) (DD em mi ic) 182 1 := ⟨tw_737, tw_52, nmh_6, nvh_6, cp_46, Nat.le_of_ble_eq_true rfl⟩
theorem ce_183 (G : va_G) (a0 a1 a2 a3 : ClassId) (n0 : Nat) (em mi ic : Nat) : CalleeOk (VV G a0 a1 a2 a3 n0) (DD em mi ic) 183 3 := ⟨tw_1579, tw_57, nmh_1, nvh_1, cp_18, Nat.le_of_ble_eq_true rfl⟩
theorem ce_184 (G : va_G) (a0 a1 a2 a3 : ClassId) (n0 : Nat) (em mi ic : Nat) : CalleeOk (VV G a0 a1 a2 a3 n0) (DD em mi ic) 184 2 := ⟨tw_1575, tw_57, nmh_1, nvh_1, cp_12, Nat.le_of_ble_eq_true rfl⟩
theorem ce_185 (G : va_G) (a0 a1 a2 a3 : ClassId) (n0 : Nat) (em mi ic : Nat) : CalleeOk (VV G a0 a1 a2 a3 n0) (DD em mi ic) 185 2 := ⟨tw_781, tw_56, nmh_10, nvh_10, cp_12, Nat.le_of_ble_eq_true rfl⟩
theorem ce_186 (G : va_G) (a0 a1 a2 a3 : ClassId) (n0 : Nat) (em mi ic : Nat) : CalleeOk (VV G a0 a1 a2 a3 n0) (DD em mi ic) 186 1 := ⟨tw_1531, tw_57, nmh_1, nvh_1, cp_6, Nat.le_of_ble_eq_true rfl⟩
theorem ce_187 (G : va_G) (a0 a1 a2 a3 : ClassId) (n0 : Nat) (em mi ic : Nat) : CalleeOk (VV G a0 a1 a2 a3 n0) (DD em mi ic) 187 1 := ⟨tw_729, tw_66, nmh_13, nvh_13, cp_6, Nat.le_of_ble_eq_true rfl⟩
theorem ce_188 (G : va_G) (a0 a1 a2 a3 : ClassId) (n0 : Nat) (em mi ic : Nat) : CalleeOk (VV G a0 a1 a2 a3 n0) (DD em mi ic) 188 2 := ⟨tw_1535, tw_57, nmh_1, nvh_1, cp_12, Nat.le_of_ble_eq_true rfl⟩
theorem cp_47 : (parseMethodDescriptor "(LTwelvehundred$Placing;)Z").map (fun d => d.parameters.length) = some 1 := by decide +kernel
theorem ce_189 (G : va_G) (a0 a1 a2 a3 : ClassId) (n0 : Nat) (em mi ic : Nat) : CalleeOk (VV G a0 a1 a2 a3 n0) (DD em mi ic) 189 1 := ⟨tw_753, tw_52, nmh_6, nvh_6, cp_47, Nat.le_of_ble_eq_true rfl⟩
theorem cp_48 : (parseMethodDescriptor "(LTwelvehundred$Hall;)Z").map (fun d => d.parameters.length) = some 1 := by decide +kernel
theorem ce_190 (G : va_G) (a0 a1 a2 a3 : ClassId) (n0 : Nat) (em mi ic : Nat) : CalleeOk (VV G a0 a1 a2 a3 n0) (DD em mi ic) 190 1 := ⟨tw_741, tw_52, nmh_6, nvh_6, cp_48, Nat.le_of_ble_eq_true rfl⟩
theorem cp_49 : (parseMethodDescriptor "(LTwelvehundred$Listed;LTwelvehundred$Listed;)Z").map (fun d => d.parameters.length) = some 2 := by decide +kernel
theorem ce_191 (G : va_G) (a0 a1 a2 a3 : ClassId) (n0 : Nat) (em mi ic : Nat) : CalleeOk (VV G a0 a1 a2 a3 n0) (DD em mi ic) 191 2 := ⟨tw_778, tw_56, nmh_10, nvh_10, cp_49, Nat.le_of_ble_eq_true rfl⟩
theorem ce_192 (G : va_G) (a0 a1 a2 a3 : ClassId) (n0 : Nat) (em mi ic : Nat) : CalleeOk (VV G a0 a1 a2 a3 n0) (DD em mi ic) 192 2 := ⟨tw_785, tw_56, nmh_10, nvh_10, cp_35, Nat.le_of_ble_eq_true rfl⟩
theorem cp_50 : (parseMethodDescriptor "([I[II)Z").map (fun d => d.parameters.length) = some 3 := by decide +kernel
theorem ce_193 (G : va_G) (a0 a1 a2 a3 : ClassId) (n0 : Nat) (em mi ic : Nat) : CalleeOk (VV G a0 a1 a2 a3 n0) (DD em mi ic) 193 3 := ⟨tw_1680, tw_57, nmh_1, nvh_1, cp_50, Nat.le_of_ble_eq_true rfl⟩
theorem cp_51 : (parseMethodDescriptor "()B").map (fun d => d.parameters.length) = some 0 := by decide +kernel
theorem ce_194 (G : va_G) (a0 a1 a2 a3 : ClassId) (n0 : Nat) (em mi ic : Nat) : CalleeOk (VV G a0 a1 a2 a3 n0) (DD em mi ic) 194 0 := ⟨tw_573, tw_83, nmh_16, nvh_16, cp_51, Nat.le_of_ble_eq_true rfl⟩
theorem nmh_25 : "java/util/AbstractCollection" ≠ "java/lang/invoke/MethodHandle" := by decide
theorem nvh_25 : "java/util/AbstractCollection" ≠ "java/lang/invoke/VarHandle" := by decide
theorem ce_195 (G : va_G) (a0 a1 a2 a3 : ClassId) (n0 : Nat) (em mi ic : Nat) : CalleeOk (VV G a0 a1 a2 a3 n0) (DD em mi ic) 195 0 := ⟨tw_123, tw_49, nmh_25, nvh_25, cp_0, Nat.le_of_ble_eq_true rfl⟩
theorem cp_52 : (parseMethodDescriptor "()[Ljava/lang/Object;").map (fun d => d.parameters.length) = some 0 := by decide +kernel
theorem ce_196 (G : va_G) (a0 a1 a2 a3 : ClassId) (n0 : Nat) (em mi ic : Nat) : CalleeOk (VV G a0 a1 a2 a3 n0) (DD em mi ic) 196 0 := ⟨tw_938, tw_51, nmh_5, nvh_5, cp_52, Nat.le_of_ble_eq_true rfl⟩
theorem ce_197 (G : va_G) (a0 a1 a2 a3 : ClassId) (n0 : Nat) (em mi ic : Nat) : CalleeOk (VV G a0 a1 a2 a3 n0) (DD em mi ic) 197 0 := ⟨tw_1021, tw_54, nmh_8, nvh_8, cp_0, Nat.le_of_ble_eq_true rfl⟩
theorem nmh_26 : "jdk/internal/util/Preconditions" ≠ "java/lang/invoke/MethodHandle" := by decide
theorem nvh_26 : "jdk/internal/util/Preconditions" ≠ "java/lang/invoke/VarHandle" := by decide
theorem cp_53 : (parseMethodDescriptor "(IILjava/util/function/BiFunction;)I").map (fun d => d.parameters.length) = some 3 := by decide +kernel
theorem ce_198 (G : va_G) (a0 a1 a2 a3 : ClassId) (n0 : Nat) (em mi ic : Nat) : CalleeOk (VV G a0 a1 a2 a3 n0) (DD em mi ic) 198 3 := ⟨tw_331, tw_71, nmh_26, nvh_26, cp_53, Nat.le_of_ble_eq_true rfl⟩
theorem cp_54 : (parseMethodDescriptor "()LTwelvehundred$Lot;").map (fun d => d.parameters.length) = some 0 := by decide +kernel
theorem ce_199 (G : va_G) (a0 a1 a2 a3 : ClassId) (n0 : Nat) (em mi ic : Nat) : CalleeOk (VV G a0 a1 a2 a3 n0) (DD em mi ic) 199 0 := ⟨tw_1189, tw_55, nmh_9, nvh_9, cp_54, Nat.le_of_ble_eq_true rfl⟩
theorem nmh_27 : "java/lang/Number" ≠ "java/lang/invoke/MethodHandle" := by decide
theorem nvh_27 : "java/lang/Number" ≠ "java/lang/invoke/VarHandle" := by decide
theorem ce_200 (G : va_G) (a0 a1 a2 a3 : ClassId) (n0 : Nat) (em mi ic : Nat) : CalleeOk (VV G a0 a1 a2 a3 n0) (DD em mi ic) 200 0 := ⟨tw_1501, tw_72, nmh_27, nvh_27, cp_0, Nat.le_of_ble_eq_true rfl⟩
theorem ce_201 (G : va_G) (a0 a1 a2 a3 : ClassId) (n0 : Nat) (em mi ic : Nat) : CalleeOk (VV G a0 a1 a2 a3 n0) (DD em mi ic) 201 1 := ⟨tw_355, tw_81, nmh_24, nvh_24, cp_34, Nat.le_of_ble_eq_true rfl⟩
theorem ce_202 (G : va_G) (a0 a1 a2 a3 : ClassId) (n0 : Nat) (em mi ic : Nat) : CalleeOk (VV G a0 a1 a2 a3 n0) (DD em mi ic) 202 0 := ⟨tw_391, tw_81, nmh_24, nvh_24, cp_13, Nat.le_of_ble_eq_true rfl⟩
theorem nmh_28 : "java/lang/StringLatin1" ≠ "java/lang/invoke/MethodHandle" := by decide
theorem nvh_28 : "java/lang/StringLatin1" ≠ "java/lang/invoke/VarHandle" := by decide
theorem cp_55 : (parseMethodDescriptor "(C)Z").map (fun d => d.parameters.length) = some 1 := by decide +kernel
theorem ce_203 (G : va_G) (a0 a1 a2 a3 : ClassId) (n0 : Nat) (em mi ic : Nat) : CalleeOk (VV G a0 a1 a2 a3 n0) (DD em mi ic) 203 1 := ⟨tw_394, tw_85, nmh_28, nvh_28, cp_55, Nat.le_of_ble_eq_true rfl⟩
theorem cp_56 : (parseMethodDescriptor "(Ljava/lang/AbstractStringBuilder;Ljava/lang/Void;)V").map (fun d => d.parameters.length) = some 2 := by decide +kernel
theorem ce_204 (G : va_G) (a0 a1 a2 a3 : ClassId) (n0 : Nat) (em mi ic : Nat) : CalleeOk (VV G a0 a1 a2 a3 n0) (DD em mi ic) 204 2 := ⟨tw_449, tw_83, nmh_16, nvh_16, cp_56, Nat.le_of_ble_eq_true rfl⟩
theorem cp_57 : (parseMethodDescriptor "(LTwelvehundred$Household;I)Z").map (fun d => d.parameters.length) = some 2 := by decide +kernel
theorem ce_205 (G : va_G) (a0 a1 a2 a3 : ClassId) (n0 : Nat) (em mi ic : Nat) : CalleeOk (VV G a0 a1 a2 a3 n0) (DD em mi ic) 205 2 := ⟨tw_661, tw_53, nmh_7, nvh_7, cp_57, Nat.le_of_ble_eq_true rfl⟩
theorem cp_58 : (parseMethodDescriptor "(LTwelvehundred$Household;LTwelvehundred$Household;)Z").map (fun d => d.parameters.length) = some 2 := by decide +kernel
theorem ce_206 (G : va_G) (a0 a1 a2 a3 : ClassId) (n0 : Nat) (em mi ic : Nat) : CalleeOk (VV G a0 a1 a2 a3 n0) (DD em mi ic) 206 2 := ⟨tw_721, tw_52, nmh_6, nvh_6, cp_58, Nat.le_of_ble_eq_true rfl⟩
theorem cp_59 : (parseMethodDescriptor "(LTwelvehundred$Hall;LTwelvehundred$Hall;)Z").map (fun d => d.parameters.length) = some 2 := by decide +kernel
theorem ce_207 (G : va_G) (a0 a1 a2 a3 : ClassId) (n0 : Nat) (em mi ic : Nat) : CalleeOk (VV G a0 a1 a2 a3 n0) (DD em mi ic) 207 2 := ⟨tw_726, tw_75, nmh_21, nvh_21, cp_59, Nat.le_of_ble_eq_true rfl⟩
theorem ce_208 (G : va_G) (a0 a1 a2 a3 : ClassId) (n0 : Nat) (em mi ic : Nat) : CalleeOk (VV G a0 a1 a2 a3 n0) (DD em mi ic) 208 2 := ⟨tw_1583, tw_57, nmh_1, nvh_1, cp_2, Nat.le_of_ble_eq_true rfl⟩
theorem cp_60 : (parseMethodDescriptor "(I)[Ljava/lang/Object;").map (fun d => d.parameters.length) = some 1 := by decide +kernel
theorem ce_209 (G : va_G) (a0 a1 a2 a3 : ClassId) (n0 : Nat) (em mi ic : Nat) : CalleeOk (VV G a0 a1 a2 a3 n0) (DD em mi ic) 209 1 := ⟨tw_942, tw_51, nmh_5, nvh_5, cp_60, Nat.le_of_ble_eq_true rfl⟩
theorem ce_210 (G : va_G) (a0 a1 a2 a3 : ClassId) (n0 : Nat) (em mi ic : Nat) : CalleeOk (VV G a0 a1 a2 a3 n0) (DD em mi ic) 210 1 := ⟨tw_1029, tw_54, nmh_8, nvh_8, cp_38, Nat.le_of_ble_eq_true rfl⟩
theorem ce_211 (G : va_G) (a0 a1 a2 a3 : ClassId) (n0 : Nat) (em mi ic : Nat) : CalleeOk (VV G a0 a1 a2 a3 n0) (DD em mi ic) 211 2 := ⟨tw_1040, tw_54, nmh_8, nvh_8, cp_45, Nat.le_of_ble_eq_true rfl⟩
theorem cp_61 : (parseMethodDescriptor "()[B").map (fun d => d.parameters.length) = some 0 := by decide +kernel
theorem ce_212 (G : va_G) (a0 a1 a2 a3 : ClassId) (n0 : Nat) (em mi ic : Nat) : CalleeOk (VV G a0 a1 a2 a3 n0) (DD em mi ic) 212 0 := ⟨tw_455, tw_81, nmh_24, nvh_24, cp_61, Nat.le_of_ble_eq_true rfl⟩
theorem ce_213 (G : va_G) (a0 a1 a2 a3 : ClassId) (n0 : Nat) (em mi ic : Nat) : CalleeOk (VV G a0 a1 a2 a3 n0) (DD em mi ic) 213 0 := ⟨tw_461, tw_82, nmh_15, nvh_15, cp_7, Nat.le_of_ble_eq_true rfl⟩
theorem nmh_29 : "java/util/Arrays" ≠ "java/lang/invoke/MethodHandle" := by decide
theorem nvh_29 : "java/util/Arrays" ≠ "java/lang/invoke/VarHandle" := by decide
theorem cp_62 : (parseMethodDescriptor "([BII)[B").map (fun d => d.parameters.length) = some 3 := by decide +kernel
theorem ce_214 (G : va_G) (a0 a1 a2 a3 : ClassId) (n0 : Nat) (em mi ic : Nat) : CalleeOk (VV G a0 a1 a2 a3 n0) (DD em mi ic) 214 3 := ⟨tw_467, tw_67, nmh_29, nvh_29, cp_62, Nat.le_of_ble_eq_true rfl⟩
theorem ce_215 (G : va_G) (a0 a1 a2 a3 : ClassId) (n0 : Nat) (em mi ic : Nat) : CalleeOk (VV G a0 a1 a2 a3 n0) (DD em mi ic) 215 1 := ⟨tw_733, tw_75, nmh_21, nvh_21, cp_46, Nat.le_of_ble_eq_true rfl⟩
theorem nmh_30 : "jdk/internal/util/ArraysSupport" ≠ "java/lang/invoke/MethodHandle" := by decide
theorem nvh_30 : "jdk/internal/util/ArraysSupport" ≠ "java/lang/invoke/VarHandle" := by decide
theorem cp_63 : (parseMethodDescriptor "(III)I").map (fun d => d.parameters.length) = some 3 := by decide +kernel
theorem ce_216 (G : va_G) (a0 a1 a2 a3 : ClassId) (n0 : Nat) (em mi ic : Nat) : CalleeOk (VV G a0 a1 a2 a3 n0) (DD em mi ic) 216 3 := ⟨tw_362, tw_65, nmh_30, nvh_30, cp_63, Nat.le_of_ble_eq_true rfl⟩
theorem cp_64 : (parseMethodDescriptor "([Ljava/lang/Object;I)[Ljava/lang/Object;").map (fun d => d.parameters.length) = some 2 := by decide +kernel
theorem ce_217 (G : va_G) (a0 a1 a2 a3 : ClassId) (n0 : Nat) (em mi ic : Nat) : CalleeOk (VV G a0 a1 a2 a3 n0) (DD em mi ic) 217 2 := ⟨tw_946, tw_67, nmh_29, nvh_29, cp_64, Nat.le_of_ble_eq_true rfl⟩
theorem cp_65 : (parseMethodDescriptor "(LTwelvehundred$Household;LTwelvehundred$Hall;)Z").map (fun d => d.parameters.length) = some 2 := by decide +kernel
theorem ce_218 (G : va_G) (a0 a1 a2 a3 : ClassId) (n0 : Nat) (em mi ic : Nat) : CalleeOk (VV G a0 a1 a2 a3 n0) (DD em mi ic) 218 2 := ⟨tw_1034, tw_54, nmh_8, nvh_8, cp_65, Nat.le_of_ble_eq_true rfl⟩
theorem cp_66 : (parseMethodDescriptor "(LTwelvehundred$Hall;)LTwelvehundred$Household;").map (fun d => d.parameters.length) = some 1 := by decide +kernel
theorem ce_219 (G : va_G) (a0 a1 a2 a3 : ClassId) (n0 : Nat) (em mi ic : Nat) : CalleeOk (VV G a0 a1 a2 a3 n0) (DD em mi ic) 219 1 := ⟨tw_1046, tw_52, nmh_6, nvh_6, cp_66, Nat.le_of_ble_eq_true rfl⟩
theorem ce_220 (G : va_G) (a0 a1 a2 a3 : ClassId) (n0 : Nat) (em mi ic : Nat) : CalleeOk (VV G a0 a1 a2 a3 n0) (DD em mi ic) 220 0 := ⟨tw_463, tw_81, nmh_24, nvh_24, cp_7, Nat.le_of_ble_eq_true rfl⟩
theorem ce_221 (G : va_G) (a0 a1 a2 a3 : ClassId) (n0 : Nat) (em mi ic : Nat) : CalleeOk (VV G a0 a1 a2 a3 n0) (DD em mi ic) 221 3 := ⟨tw_470, tw_67, nmh_29, nvh_29, cp_62, Nat.le_of_ble_eq_true rfl⟩
theorem cp_67 : (parseMethodDescriptor "([Ljava/lang/Object;ILjava/lang/Class;)[Ljava/lang/Object;").map (fun d => d.parameters.length) = some 3 := by decide +kernel
theorem ce_222 (G : va_G) (a0 a1 a2 a3 : ClassId) (n0 : Nat) (em mi ic : Nat) : CalleeOk (VV G a0 a1 a2 a3 n0) (DD em mi ic) 222 3 := ⟨tw_976, tw_67, nmh_29, nvh_29, cp_67, Nat.le_of_ble_eq_true rfl⟩
theorem ce_223 (G : va_G) (a0 a1 a2 a3 : ClassId) (n0 : Nat) (em mi ic : Nat) : CalleeOk (VV G a0 a1 a2 a3 n0) (DD em mi ic) 223 2 := ⟨tw_473, tw_67, nmh_29, nvh_29, cp_35, Nat.le_of_ble_eq_true rfl⟩
def thN : List String := ["java/lang/RuntimeException", "java/lang/Exception"]
theorem thN_ok : ∀ n ∈ thN, Bundle.fit n = true := by decide +kernel
def sx_0_77_81 : List Jvm.Cond := [Jvm.Cond.selects "java/lang/Throwable" (⟨"java/lang/Throwable", "fillInStackTrace", "(I)Ljava/lang/Throwable;"⟩ : MethodName) (⟨"java/lang/Throwable", "fillInStackTrace", "(I)Ljava/lang/Throwable;"⟩ : MethodName), Jvm.Cond.initialized "java/lang/Throwable", Jvm.Cond.initialized "java/lang/Exception", Jvm.Cond.initialized "java/lang/RuntimeException", Jvm.Cond.initialized "java/lang/IllegalArgumentException", Jvm.Cond.instanceMethod (⟨"java/lang/Object", "<init>", "()V"⟩ : MethodName), Jvm.Cond.code (⟨"java/lang/Object", "<init>", "()V"⟩ : MethodName) object_method_1_code 1 (none), Jvm.Cond.native (⟨"java/lang/Object", "clone", "()Ljava/lang/Object;"⟩ : MethodName), Jvm.Cond.instanceMethod (⟨"java/lang/Object", "clone", "()Ljava/lang/Object;"⟩ : MethodName), Jvm.Cond.classLink "java/util/Arrays" 43 "java/lang/IllegalArgumentException", Jvm.Cond.instantiable "java/lang/IllegalArgumentException" 6, Jvm.Cond.castable "java/lang/IllegalArgumentException" "java/lang/IllegalArgumentException", Jvm.Cond.declares (⟨"java/lang/RuntimeException", "<init>", "()V"⟩ : MethodName), Jvm.Cond.declares (⟨"java/lang/RuntimeException", "<init>", "(Ljava/lang/String;)V"⟩ : MethodName), Jvm.Cond.declares (⟨"java/lang/Exception", "<init>", "()V"⟩ : MethodName), Jvm.Cond.declares (⟨"java/lang/Exception", "<init>", "(Ljava/lang/String;)V"⟩ : MethodName), Jvm.Cond.declares (⟨"java/lang/Throwable", "<init>", "()V"⟩ : MethodName), Jvm.Cond.declares (⟨"java/lang/Throwable", "<init>", "(Ljava/lang/String;)V"⟩ : MethodName), Jvm.Cond.selects "java/lang/IllegalArgumentException" (⟨"java/lang/Throwable", "fillInStackTrace", "(I)Ljava/lang/Throwable;"⟩ : MethodName) (⟨"java/lang/Throwable", "fillInStackTrace", "(I)Ljava/lang/Throwable;"⟩ : MethodName), Jvm.Cond.selects "java/lang/IllegalArgumentException" (⟨"java/lang/Throwable", "fillInStackTrace", "()Ljava/lang/Throwable;"⟩ : MethodName) (⟨"java/lang/Throwable", "fillInStackTrace", "()Ljava/lang/Throwable;"⟩ : MethodName), Jvm.Cond.lays "java/lang/IllegalArgumentException" "java/lang/Throwable" "cause" "Ljava/lang/Throwable;", Jvm.Cond.lays "java/lang/Throwable" "java/lang/Throwable" "cause" "Ljava/lang/Throwable;", Jvm.Cond.lays "java/lang/IllegalArgumentException" "java/lang/Throwable" "stackTrace" "[Ljava/lang/StackTraceElement;", Jvm.Cond.lays "java/lang/Throwable" "java/lang/Throwable" "stackTrace" "[Ljava/lang/StackTraceElement;", Jvm.Cond.lays "java/lang/IllegalArgumentException" "java/lang/Throwable" "suppressedExceptions" "Ljava/util/List;", Jvm.Cond.lays "java/lang/Throwable" "java/lang/Throwable" "suppressedExceptions" "Ljava/util/List;", Jvm.Cond.lays "java/lang/IllegalArgumentException" "java/lang/Throwable" "detailMessage" "Ljava/lang/String;", Jvm.Cond.lays "java/lang/Throwable" "java/lang/Throwable" "detailMessage" "Ljava/lang/String;", Jvm.Cond.lays "java/lang/IllegalArgumentException" "java/lang/Throwable" "backtrace" "Ljava/lang/Object;", Jvm.Cond.lays "java/lang/Throwable" "java/lang/Throwable" "backtrace" "Ljava/lang/Object;", Jvm.Cond.fieldLink "java/lang/Throwable" 198 "java/lang/Throwable" "backtrace" "Ljava/lang/Object;", Jvm.Cond.superclass "java/lang/Throwable" "java/lang/Object", Jvm.Cond.instanceMethod (⟨"java/lang/Throwable", "<init>", "()V"⟩ : MethodName), Jvm.Cond.code (⟨"java/lang/Throwable", "<init>", "()V"⟩ : MethodName) prog_38_method_1_code 1 (none), Jvm.Cond.methodLink "java/lang/Throwable" 1 (⟨"java/lang/Object", "<init>", "()V"⟩ : MethodName), Jvm.Cond.fieldLink "java/lang/Throwable" 13 "java/lang/Throwable" "UNASSIGNED_STACK" "[Ljava/lang/StackTraceElement;", Jvm.Cond.fieldLink "java/lang/Throwable" 20 "java/lang/Throwable" "SUPPRESSED_SENTINEL" "Ljava/util/List;", Jvm.Cond.methodLink "java/lang/Throwable" 27 (⟨"java/lang/Throwable", "fillInStackTrace", "()Ljava/lang/Throwable;"⟩ : MethodName), Jvm.Cond.instanceMethod (⟨"java/lang/Throwable", "fillInStackTrace", "()Ljava/lang/Throwable;"⟩ : MethodName), Jvm.Cond.sameMethod "java/lang/Throwable" "java/lang/Throwable" "fillInStackTrace" "()Ljava/lang/Throwable;", Jvm.Cond.selects "java/lang/IllegalStateException" (⟨"java/lang/Throwable", "fillInStackTrace", "()Ljava/lang/Throwable;"⟩ : MethodName) (⟨"java/lang/Throwable", "fillInStackTrace", "()Ljava/lang/Throwable;"⟩ : MethodName), Jvm.Cond.selects "java/lang/IndexOutOfBoundsException" (⟨"java/lang/Throwable", "fillInStackTrace", "()Ljava/lang/Throwable;"⟩ : MethodName) (⟨"java/lang/Throwable", "fillInStackTrace", "()Ljava/lang/Throwable;"⟩ : MethodName), Jvm.Cond.methodLink "java/lang/Throwable" 202 (⟨"java/lang/Throwable", "fillInStackTrace", "(I)Ljava/lang/Throwable;"⟩ : MethodName), Jvm.Cond.instanceMethod (⟨"java/lang/Throwable", "fillInStackTrace", "(I)Ljava/lang/Throwable;"⟩ : MethodName), Jvm.Cond.instantiable "java/lang/Throwable" 6, Jvm.Cond.native (⟨"java/lang/Throwable", "fillInStackTrace", "(I)Ljava/lang/Throwable;"⟩ : MethodName), Jvm.Cond.methodLink "java/util/Arrays" 65 (⟨"java/lang/IllegalArgumentException", "<init>", "(Ljava/lang/String;)V"⟩ : MethodName), Jvm.Cond.instanceMethod (⟨"java/lang/IllegalArgumentException", "<init>", "(Ljava/lang/String;)V"⟩ : MethodName), Jvm.Cond.code (⟨"java/lang/IllegalArgumentException", "<init>", "(Ljava/lang/String;)V"⟩ : MethodName) prog_24_method_2_code 2 (none), Jvm.Cond.methodLink "java/lang/IllegalArgumentException" 7 (⟨"java/lang/RuntimeException", "<init>", "(Ljava/lang/String;)V"⟩ : MethodName), Jvm.Cond.instanceMethod (⟨"java/lang/RuntimeException", "<init>", "(Ljava/lang/String;)V"⟩ : MethodName), Jvm.Cond.code (⟨"java/lang/RuntimeException", "<init>", "(Ljava/lang/String;)V"⟩ : MethodName) prog_32_method_2_code 2 (none), Jvm.Cond.methodLink "java/lang/RuntimeException" 7 (⟨"java/lang/Exception", "<init>", "(Ljava/lang/String;)V"⟩ : MethodName), Jvm.Cond.instanceMethod (⟨"java/lang/Exception", "<init>", "(Ljava/lang/String;)V"⟩ : MethodName), Jvm.Cond.code (⟨"java/lang/Exception", "<init>", "(Ljava/lang/String;)V"⟩ : MethodName) prog_23_method_2_code 2 (none), Jvm.Cond.methodLink "java/lang/Exception" 7 (⟨"java/lang/Throwable", "<init>", "(Ljava/lang/String;)V"⟩ : MethodName), Jvm.Cond.instanceMethod (⟨"java/lang/Throwable", "<init>", "(Ljava/lang/String;)V"⟩ : MethodName), Jvm.Cond.code (⟨"java/lang/Throwable", "<init>", "(Ljava/lang/String;)V"⟩ : MethodName) prog_38_method_2_code 2 (none), Jvm.Cond.fieldLink "java/lang/Throwable" 31 "java/lang/Throwable" "detailMessage" "Ljava/lang/String;", Jvm.Cond.fieldLink "java/lang/Throwable" 7 "java/lang/Throwable" "cause" "Ljava/lang/Throwable;", Jvm.Cond.fieldLink "java/lang/Throwable" 17 "java/lang/Throwable" "stackTrace" "[Ljava/lang/StackTraceElement;", Jvm.Cond.fieldLink "java/lang/Throwable" 24 "java/lang/Throwable" "suppressedExceptions" "Ljava/util/List;", Jvm.Cond.lays "java/lang/IllegalArgumentException" "java/lang/Throwable" "depth" "I", Jvm.Cond.superclass "java/lang/IllegalArgumentException" "java/lang/RuntimeException", Jvm.Cond.classLink "Twelvehundred" 77 "java/lang/IllegalArgumentException", Jvm.Cond.methodLink "Twelvehundred" 81 (⟨"java/lang/IllegalArgumentException", "<init>", "(Ljava/lang/String;)V"⟩ : MethodName), Jvm.Cond.selects "java/lang/IndexOutOfBoundsException" (⟨"java/lang/Throwable", "fillInStackTrace", "(I)Ljava/lang/Throwable;"⟩ : MethodName) (⟨"java/lang/Throwable", "fillInStackTrace", "(I)Ljava/lang/Throwable;"⟩ : MethodName), Jvm.Cond.lays "java/lang/IndexOutOfBoundsException" "java/lang/Throwable" "cause" "Ljava/lang/Throwable;", Jvm.Cond.lays "java/lang/IndexOutOfBoundsException" "java/lang/Throwable" "stackTrace" "[Ljava/lang/StackTraceElement;", Jvm.Cond.lays "java/lang/IndexOutOfBoundsException" "java/lang/Throwable" "suppressedExceptions" "Ljava/util/List;", Jvm.Cond.lays "java/lang/IndexOutOfBoundsException" "java/lang/Throwable" "detailMessage" "Ljava/lang/String;", Jvm.Cond.lays "java/lang/IndexOutOfBoundsException" "java/lang/Throwable" "backtrace" "Ljava/lang/Object;", Jvm.Cond.methodLink "java/lang/IndexOutOfBoundsException" 7 (⟨"java/lang/RuntimeException", "<init>", "(Ljava/lang/String;)V"⟩ : MethodName), Jvm.Cond.lays "java/lang/IndexOutOfBoundsException" "java/lang/Throwable" "depth" "I", Jvm.Cond.superclass "java/lang/IndexOutOfBoundsException" "java/lang/RuntimeException", Jvm.Cond.classLink "TwelvehundredLaw" 19 "java/lang/IllegalArgumentException", Jvm.Cond.selects "java/lang/IllegalStateException" (⟨"java/lang/Throwable", "fillInStackTrace", "(I)Ljava/lang/Throwable;"⟩ : MethodName) (⟨"java/lang/Throwable", "fillInStackTrace", "(I)Ljava/lang/Throwable;"⟩ : MethodName), Jvm.Cond.lays "java/lang/IllegalStateException" "java/lang/Throwable" "cause" "Ljava/lang/Throwable;", Jvm.Cond.lays "java/lang/IllegalStateException" "java/lang/Throwable" "stackTrace" "[Ljava/lang/StackTraceElement;", Jvm.Cond.lays "java/lang/IllegalStateException" "java/lang/Throwable" "suppressedExceptions" "Ljava/util/List;", Jvm.Cond.lays "java/lang/IllegalStateException" "java/lang/Throwable" "detailMessage" "Ljava/lang/String;", Jvm.Cond.lays "java/lang/IllegalStateException" "java/lang/Throwable" "backtrace" "Ljava/lang/Object;", Jvm.Cond.methodLink "java/lang/IllegalStateException" 7 (⟨"java/lang/RuntimeException", "<init>", "(Ljava/lang/String;)V"⟩ : MethodName), Jvm.Cond.lays "java/lang/IllegalStateException" "java/lang/Throwable" "depth" "I", Jvm.Cond.superclass "java/lang/IllegalStateException" "java/lang/RuntimeException", Jvm.Cond.instanceMethod (⟨"java/lang/Object", "getClass", "()Ljava/lang/Class;"⟩ : MethodName), Jvm.Cond.sameMethod "java/lang/Object" "java/lang/Object" "getClass" "()Ljava/lang/Class;", Jvm.Cond.selects "java/lang/IllegalArgumentException" (⟨"java/lang/Object", "getClass", "()Ljava/lang/Class;"⟩ : MethodName) (⟨"java/lang/Object", "getClass", "()Ljava/lang/Class;"⟩ : MethodName), Jvm.Cond.native (⟨"java/lang/Object", "getClass", "()Ljava/lang/Class;"⟩ : MethodName), Jvm.Cond.sameMethod "java/lang/Throwable" "java/lang/Throwable" "fillInStackTrace" "(I)Ljava/lang/Throwable;", Jvm.Cond.castable "java/lang/IllegalArgumentException" "java/lang/Object", Jvm.Cond.castable "java/lang/Throwable" "java/lang/Object", Jvm.Cond.declares (⟨"java/lang/Object", "getClass", "()Ljava/lang/Class;"⟩ : MethodName)]
theorem sxm_0_77_81 : ∀ w ∈ sx_0_77_81, w ∈ Tgl ∨ w ∈ Ntl := List.forall_mem_cons.mpr ⟨Or.inl tw_1, List.forall_mem_cons.mpr ⟨Or.inl tw_59, List.forall_mem_cons.mpr ⟨Or.inl tw_60, List.forall_mem_cons.mpr ⟨Or.inl tw_61, List.forall_mem_cons.mpr ⟨Or.inl tw_62, List.forall_mem_cons.mpr ⟨Or.inl tw_92, List.forall_mem_cons.mpr ⟨Or.inl tw_93, List.forall_mem_cons.mpr ⟨Or.inl tw_376, List.forall_mem_cons.mpr ⟨Or.inl tw_377, List.forall_mem_cons.mpr ⟨Or.inl tw_474, List.forall_mem_cons.mpr ⟨Or.inl tw_475, List.forall_mem_cons.mpr ⟨Or.inr nw_476, List.forall_mem_cons.mpr ⟨Or.inr nw_477, List.forall_mem_cons.mpr ⟨Or.inr nw_478, List.forall_mem_cons.mpr ⟨Or.inr nw_479, List.forall_mem_cons.mpr ⟨Or.inr nw_480, List.forall_mem_cons.mpr ⟨Or.inr nw_481, List.forall_mem_cons.mpr ⟨Or.inr nw_482, List.forall_mem_cons.mpr ⟨Or.inl tw_483, List.forall_mem_cons.mpr ⟨Or.inl tw_484, List.forall_mem_cons.mpr ⟨Or.inl tw_485, List.forall_mem_cons.mpr ⟨Or.inl tw_486, List.forall_mem_cons.mpr ⟨Or.inl tw_487, List.forall_mem_cons.mpr ⟨Or.inl tw_488, List.forall_mem_cons.mpr ⟨Or.inl tw_489, List.forall_mem_cons.mpr ⟨Or.inl tw_490, List.forall_mem_cons.mpr ⟨Or.inl tw_491, List.forall_mem_cons.mpr ⟨Or.inl tw_492, List.forall_mem_cons.mpr ⟨Or.inl tw_493, List.forall_mem_cons.mpr ⟨Or.inl tw_494, List.forall_mem_cons.mpr ⟨Or.inl tw_495, List.forall_mem_cons.mpr ⟨Or.inl tw_496, List.forall_mem_cons.mpr ⟨Or.inl tw_497, List.forall_mem_cons.mpr ⟨Or.inl tw_498, List.forall_mem_cons.mpr ⟨Or.inl tw_499, List.forall_mem_cons.mpr ⟨Or.inl tw_500, List.forall_mem_cons.mpr ⟨Or.inl tw_502, List.forall_mem_cons.mpr ⟨Or.inl tw_504, List.forall_mem_cons.mpr ⟨Or.inl tw_505, List.forall_mem_cons.mpr ⟨Or.inl tw_506, List.forall_mem_cons.mpr ⟨Or.inl tw_507, List.forall_mem_cons.mpr ⟨Or.inl tw_508, List.forall_mem_cons.mpr ⟨Or.inl tw_510, List.forall_mem_cons.mpr ⟨Or.inl tw_512, List.forall_mem_cons.mpr ⟨Or.inl tw_513, List.forall_mem_cons.mpr ⟨Or.inl tw_514, List.forall_mem_cons.mpr ⟨Or.inl tw_591, List.forall_mem_cons.mpr ⟨Or.inl tw_592, List.forall_mem_cons.mpr ⟨Or.inl tw_593, List.forall_mem_cons.mpr ⟨Or.inl tw_594, List.forall_mem_cons.mpr ⟨Or.inl tw_595, List.forall_mem_cons.mpr ⟨Or.inl tw_596, List.forall_mem_cons.mpr ⟨Or.inl tw_597, List.forall_mem_cons.mpr ⟨Or.inl tw_598, List.forall_mem_cons.mpr ⟨Or.inl tw_599, List.forall_mem_cons.mpr ⟨Or.inl tw_600, List.forall_mem_cons.mpr ⟨Or.inl tw_601, List.forall_mem_cons.mpr ⟨Or.inl tw_602, List.forall_mem_cons.mpr ⟨Or.inl tw_604, List.forall_mem_cons.mpr ⟨Or.inl tw_605, List.forall_mem_cons.mpr ⟨Or.inl tw_606, List.forall_mem_cons.mpr ⟨Or.inl tw_607, List.forall_mem_cons.mpr ⟨Or.inl tw_612, List.forall_mem_cons.mpr ⟨Or.inl tw_615, List.forall_mem_cons.mpr ⟨Or.inl tw_804, List.forall_mem_cons.mpr ⟨Or.inl tw_806, List.forall_mem_cons.mpr ⟨Or.inl tw_814, List.forall_mem_cons.mpr ⟨Or.inl tw_815, List.forall_mem_cons.mpr ⟨Or.inl tw_816, List.forall_mem_cons.mpr ⟨Or.inl tw_817, List.forall_mem_cons.mpr ⟨Or.inl tw_818, List.forall_mem_cons.mpr ⟨Or.inl tw_819, List.forall_mem_cons.mpr ⟨Or.inl tw_824, List.forall_mem_cons.mpr ⟨Or.inl tw_825, List.forall_mem_cons.mpr ⟨Or.inl tw_826, List.forall_mem_cons.mpr ⟨Or.inl tw_884, List.forall_mem_cons.mpr ⟨Or.inl tw_894, List.forall_mem_cons.mpr ⟨Or.inl tw_895, List.forall_mem_cons.mpr ⟨Or.inl tw_896, List.forall_mem_cons.mpr ⟨Or.inl tw_897, List.forall_mem_cons.mpr ⟨Or.inl tw_898, List.forall_mem_cons.mpr ⟨Or.inl tw_899, List.forall_mem_cons.mpr ⟨Or.inl tw_904, List.forall_mem_cons.mpr ⟨Or.inl tw_905, List.forall_mem_cons.mpr ⟨Or.inl tw_906, List.forall_mem_cons.mpr ⟨Or.inl tw_948, List.forall_mem_cons.mpr ⟨Or.inl tw_949, List.forall_mem_cons.mpr ⟨Or.inl tw_965, List.forall_mem_cons.mpr ⟨Or.inl tw_973, List.forall_mem_cons.mpr ⟨Or.inl tw_1696, List.forall_mem_cons.mpr ⟨Or.inr nw_1714, List.forall_mem_cons.mpr ⟨Or.inr nw_1725, List.forall_mem_cons.mpr ⟨Or.inr nw_1728, fun x hx => absurd hx List.not_mem_nil⟩⟩⟩⟩⟩⟩⟩⟩⟩⟩⟩⟩⟩⟩⟩⟩⟩⟩⟩⟩⟩⟩⟩⟩⟩⟩⟩⟩⟩⟩⟩⟩⟩⟩⟩⟩⟩⟩⟩⟩⟩⟩⟩⟩⟩⟩⟩⟩⟩⟩⟩⟩⟩⟩⟩⟩⟩⟩⟩⟩⟩⟩⟩⟩⟩⟩⟩⟩⟩⟩⟩⟩⟩⟩⟩⟩⟩⟩⟩⟩⟩⟩⟩⟩⟩⟩⟩⟩⟩⟩⟩⟩⟩
theorem thrc_0_77_81 : (Jvm.Cond.classLink "Twelvehundred" 77 (xn 0) :: Jvm.Cond.initialized (xn 0) :: vx_atS "Twelvehundred" 81 (xn 0) thN).all (fun w => sx_0_77_81.contains w || (Tgl.contains w || Ntl.contains w)) = true := by decide +kernel
theorem thr_0_77_81 (G : va_G) (a0 a1 a2 a3 : ClassId) (n0 : Nat) : ∀ w ∈ Jvm.Cond.classLink "Twelvehundred" 77 (xn 0) :: Jvm.Cond.initialized (xn 0) :: vx_atS "Twelvehundred" 81 (xn 0) thN, w ∈ vTg (VV G a0 a1 a2 a3 n0) ∨ w ∈ vNt (VV G a0 a1 a2 a3 n0) := by
  intro w hw
  have h := List.all_eq_true.mp thrc_0_77_81 w hw
  rcases Bool.or_eq_true_iff.mp h with h | h
  · exact sxm_0_77_81 w (List.contains_iff_mem.mp h)
  rcases Bool.or_eq_true_iff.mp h with h | h
  · exact Or.inl (List.contains_iff_mem.mp h)
  · exact Or.inr (List.contains_iff_mem.mp h)
def sx_1_88_92 : List Jvm.Cond := [Jvm.Cond.selects "java/lang/Throwable" (⟨"java/lang/Throwable", "fillInStackTrace", "(I)Ljava/lang/Throwable;"⟩ : MethodName) (⟨"java/lang/Throwable", "fillInStackTrace", "(I)Ljava/lang/Throwable;"⟩ : MethodName), Jvm.Cond.initialized "java/lang/Throwable", Jvm.Cond.initialized "java/lang/Exception", Jvm.Cond.initialized "java/lang/RuntimeException", Jvm.Cond.initialized "java/lang/IllegalStateException", Jvm.Cond.instanceMethod (⟨"java/lang/Object", "<init>", "()V"⟩ : MethodName), Jvm.Cond.code (⟨"java/lang/Object", "<init>", "()V"⟩ : MethodName) object_method_1_code 1 (none), Jvm.Cond.native (⟨"java/lang/Object", "clone", "()Ljava/lang/Object;"⟩ : MethodName), Jvm.Cond.instanceMethod (⟨"java/lang/Object", "clone", "()Ljava/lang/Object;"⟩ : MethodName), Jvm.Cond.declares (⟨"java/lang/RuntimeException", "<init>", "()V"⟩ : MethodName), Jvm.Cond.declares (⟨"java/lang/RuntimeException", "<init>", "(Ljava/lang/String;)V"⟩ : MethodName), Jvm.Cond.declares (⟨"java/lang/Exception", "<init>", "()V"⟩ : MethodName), Jvm.Cond.declares (⟨"java/lang/Exception", "<init>", "(Ljava/lang/String;)V"⟩ : MethodName), Jvm.Cond.declares (⟨"java/lang/Throwable", "<init>", "()V"⟩ : MethodName), Jvm.Cond.declares (⟨"java/lang/Throwable", "<init>", "(Ljava/lang/String;)V"⟩ : MethodName), Jvm.Cond.selects "java/lang/IllegalArgumentException" (⟨"java/lang/Throwable", "fillInStackTrace", "(I)Ljava/lang/Throwable;"⟩ : MethodName) (⟨"java/lang/Throwable", "fillInStackTrace", "(I)Ljava/lang/Throwable;"⟩ : MethodName), Jvm.Cond.selects "java/lang/IllegalArgumentException" (⟨"java/lang/Throwable", "fillInStackTrace", "()Ljava/lang/Throwable;"⟩ : MethodName) (⟨"java/lang/Throwable", "fillInStackTrace", "()Ljava/lang/Throwable;"⟩ : MethodName), Jvm.Cond.lays "java/lang/IllegalArgumentException" "java/lang/Throwable" "cause" "Ljava/lang/Throwable;", Jvm.Cond.lays "java/lang/Throwable" "java/lang/Throwable" "cause" "Ljava/lang/Throwable;", Jvm.Cond.lays "java/lang/IllegalArgumentException" "java/lang/Throwable" "stackTrace" "[Ljava/lang/StackTraceElement;", Jvm.Cond.lays "java/lang/Throwable" "java/lang/Throwable" "stackTrace" "[Ljava/lang/StackTraceElement;", Jvm.Cond.lays "java/lang/IllegalArgumentException" "java/lang/Throwable" "suppressedExceptions" "Ljava/util/List;", Jvm.Cond.lays "java/lang/Throwable" "java/lang/Throwable" "suppressedExceptions" "Ljava/util/List;", Jvm.Cond.lays "java/lang/IllegalArgumentException" "java/lang/Throwable" "detailMessage" "Ljava/lang/String;", Jvm.Cond.lays "java/lang/Throwable" "java/lang/Throwable" "detailMessage" "Ljava/lang/String;", Jvm.Cond.lays "java/lang/IllegalArgumentException" "java/lang/Throwable" "backtrace" "Ljava/lang/Object;", Jvm.Cond.lays "java/lang/Throwable" "java/lang/Throwable" "backtrace" "Ljava/lang/Object;", Jvm.Cond.fieldLink "java/lang/Throwable" 198 "java/lang/Throwable" "backtrace" "Ljava/lang/Object;", Jvm.Cond.superclass "java/lang/Throwable" "java/lang/Object", Jvm.Cond.instanceMethod (⟨"java/lang/Throwable", "<init>", "()V"⟩ : MethodName), Jvm.Cond.code (⟨"java/lang/Throwable", "<init>", "()V"⟩ : MethodName) prog_38_method_1_code 1 (none), Jvm.Cond.methodLink "java/lang/Throwable" 1 (⟨"java/lang/Object", "<init>", "()V"⟩ : MethodName), Jvm.Cond.fieldLink "java/lang/Throwable" 13 "java/lang/Throwable" "UNASSIGNED_STACK" "[Ljava/lang/StackTraceElement;", Jvm.Cond.fieldLink "java/lang/Throwable" 20 "java/lang/Throwable" "SUPPRESSED_SENTINEL" "Ljava/util/List;", Jvm.Cond.methodLink "java/lang/Throwable" 27 (⟨"java/lang/Throwable", "fillInStackTrace", "()Ljava/lang/Throwable;"⟩ : MethodName), Jvm.Cond.instanceMethod (⟨"java/lang/Throwable", "fillInStackTrace", "()Ljava/lang/Throwable;"⟩ : MethodName), Jvm.Cond.sameMethod "java/lang/Throwable" "java/lang/Throwable" "fillInStackTrace" "()Ljava/lang/Throwable;", Jvm.Cond.selects "java/lang/IllegalStateException" (⟨"java/lang/Throwable", "fillInStackTrace", "()Ljava/lang/Throwable;"⟩ : MethodName) (⟨"java/lang/Throwable", "fillInStackTrace", "()Ljava/lang/Throwable;"⟩ : MethodName), Jvm.Cond.selects "java/lang/IndexOutOfBoundsException" (⟨"java/lang/Throwable", "fillInStackTrace", "()Ljava/lang/Throwable;"⟩ : MethodName) (⟨"java/lang/Throwable", "fillInStackTrace", "()Ljava/lang/Throwable;"⟩ : MethodName), Jvm.Cond.methodLink "java/lang/Throwable" 202 (⟨"java/lang/Throwable", "fillInStackTrace", "(I)Ljava/lang/Throwable;"⟩ : MethodName), Jvm.Cond.instanceMethod (⟨"java/lang/Throwable", "fillInStackTrace", "(I)Ljava/lang/Throwable;"⟩ : MethodName), Jvm.Cond.instantiable "java/lang/Throwable" 6, Jvm.Cond.native (⟨"java/lang/Throwable", "fillInStackTrace", "(I)Ljava/lang/Throwable;"⟩ : MethodName), Jvm.Cond.methodLink "java/lang/IllegalArgumentException" 7 (⟨"java/lang/RuntimeException", "<init>", "(Ljava/lang/String;)V"⟩ : MethodName), Jvm.Cond.instanceMethod (⟨"java/lang/RuntimeException", "<init>", "(Ljava/lang/String;)V"⟩ : MethodName), Jvm.Cond.code (⟨"java/lang/RuntimeException", "<init>", "(Ljava/lang/String;)V"⟩ : MethodName) prog_32_method_2_code 2 (none), Jvm.Cond.methodLink "java/lang/RuntimeException" 7 (⟨"java/lang/Exception", "<init>", "(Ljava/lang/String;)V"⟩ : MethodName), Jvm.Cond.instanceMethod (⟨"java/lang/Exception", "<init>", "(Ljava/lang/String;)V"⟩ : MethodName), Jvm.Cond.code (⟨"java/lang/Exception", "<init>", "(Ljava/lang/String;)V"⟩ : MethodName) prog_23_method_2_code 2 (none), Jvm.Cond.methodLink "java/lang/Exception" 7 (⟨"java/lang/Throwable", "<init>", "(Ljava/lang/String;)V"⟩ : MethodName), Jvm.Cond.instanceMethod (⟨"java/lang/Throwable", "<init>", "(Ljava/lang/String;)V"⟩ : MethodName), Jvm.Cond.code (⟨"java/lang/Throwable", "<init>", "(Ljava/lang/String;)V"⟩ : MethodName) prog_38_method_2_code 2 (none), Jvm.Cond.fieldLink "java/lang/Throwable" 31 "java/lang/Throwable" "detailMessage" "Ljava/lang/String;", Jvm.Cond.fieldLink "java/lang/Throwable" 7 "java/lang/Throwable" "cause" "Ljava/lang/Throwable;", Jvm.Cond.fieldLink "java/lang/Throwable" 17 "java/lang/Throwable" "stackTrace" "[Ljava/lang/StackTraceElement;", Jvm.Cond.fieldLink "java/lang/Throwable" 24 "java/lang/Throwable" "suppressedExceptions" "Ljava/util/List;", Jvm.Cond.lays "java/lang/IllegalArgumentException" "java/lang/Throwable" "depth" "I", Jvm.Cond.superclass "java/lang/IllegalArgumentException" "java/lang/RuntimeException", Jvm.Cond.selects "java/lang/IndexOutOfBoundsException" (⟨"java/lang/Throwable", "fillInStackTrace", "(I)Ljava/lang/Throwable;"⟩ : MethodName) (⟨"java/lang/Throwable", "fillInStackTrace", "(I)Ljava/lang/Throwable;"⟩ : MethodName), Jvm.Cond.lays "java/lang/IndexOutOfBoundsException" "java/lang/Throwable" "cause" "Ljava/lang/Throwable;", Jvm.Cond.lays "java/lang/IndexOutOfBoundsException" "java/lang/Throwable" "stackTrace" "[Ljava/lang/StackTraceElement;", Jvm.Cond.lays "java/lang/IndexOutOfBoundsException" "java/lang/Throwable" "suppressedExceptions" "Ljava/util/List;", Jvm.Cond.lays "java/lang/IndexOutOfBoundsException" "java/lang/Throwable" "detailMessage" "Ljava/lang/String;", Jvm.Cond.lays "java/lang/IndexOutOfBoundsException" "java/lang/Throwable" "backtrace" "Ljava/lang/Object;", Jvm.Cond.methodLink "java/lang/IndexOutOfBoundsException" 7 (⟨"java/lang/RuntimeException", "<init>", "(Ljava/lang/String;)V"⟩ : MethodName), Jvm.Cond.lays "java/lang/IndexOutOfBoundsException" "java/lang/Throwable" "depth" "I", Jvm.Cond.superclass "java/lang/IndexOutOfBoundsException" "java/lang/RuntimeException", Jvm.Cond.classLink "TwelvehundredLaw" 21 "java/lang/IllegalStateException", Jvm.Cond.classLink "Twelvehundred" 88 "java/lang/IllegalStateException", Jvm.Cond.instantiable "java/lang/IllegalStateException" 6, Jvm.Cond.castable "java/lang/IllegalStateException" "java/lang/IllegalStateException", Jvm.Cond.selects "java/lang/IllegalStateException" (⟨"java/lang/Throwable", "fillInStackTrace", "(I)Ljava/lang/Throwable;"⟩ : MethodName) (⟨"java/lang/Throwable", "fillInStackTrace", "(I)Ljava/lang/Throwable;"⟩ : MethodName), Jvm.Cond.lays "java/lang/IllegalStateException" "java/lang/Throwable" "cause" "Ljava/lang/Throwable;", Jvm.Cond.lays "java/lang/IllegalStateException" "java/lang/Throwable" "stackTrace" "[Ljava/lang/StackTraceElement;", Jvm.Cond.lays "java/lang/IllegalStateException" "java/lang/Throwable" "suppressedExceptions" "Ljava/util/List;", Jvm.Cond.lays "java/lang/IllegalStateException" "java/lang/Throwable" "detailMessage" "Ljava/lang/String;", Jvm.Cond.lays "java/lang/IllegalStateException" "java/lang/Throwable" "backtrace" "Ljava/lang/Object;", Jvm.Cond.methodLink "Twelvehundred" 92 (⟨"java/lang/IllegalStateException", "<init>", "(Ljava/lang/String;)V"⟩ : MethodName), Jvm.Cond.instanceMethod (⟨"java/lang/IllegalStateException", "<init>", "(Ljava/lang/String;)V"⟩ : MethodName), Jvm.Cond.code (⟨"java/lang/IllegalStateException", "<init>", "(Ljava/lang/String;)V"⟩ : MethodName) prog_25_method_2_code 2 (none), Jvm.Cond.methodLink "java/lang/IllegalStateException" 7 (⟨"java/lang/RuntimeException", "<init>", "(Ljava/lang/String;)V"⟩ : MethodName), Jvm.Cond.lays "java/lang/IllegalStateException" "java/lang/Throwable" "depth" "I", Jvm.Cond.superclass "java/lang/IllegalStateException" "java/lang/RuntimeException", Jvm.Cond.instanceMethod (⟨"java/lang/Object", "getClass", "()Ljava/lang/Class;"⟩ : MethodName), Jvm.Cond.sameMethod "java/lang/Object" "java/lang/Object" "getClass" "()Ljava/lang/Class;", Jvm.Cond.selects "java/lang/IllegalStateException" (⟨"java/lang/Object", "getClass", "()Ljava/lang/Class;"⟩ : MethodName) (⟨"java/lang/Object", "getClass", "()Ljava/lang/Class;"⟩ : MethodName), Jvm.Cond.native (⟨"java/lang/Object", "getClass", "()Ljava/lang/Class;"⟩ : MethodName), Jvm.Cond.sameMethod "java/lang/Throwable" "java/lang/Throwable" "fillInStackTrace" "(I)Ljava/lang/Throwable;", Jvm.Cond.castable "java/lang/IllegalStateException" "java/lang/Object", Jvm.Cond.castable "java/lang/Throwable" "java/lang/Object", Jvm.Cond.declares (⟨"java/lang/Object", "getClass", "()Ljava/lang/Class;"⟩ : MethodName)]
theorem sxm_1_88_92 : ∀ w ∈ sx_1_88_92, w ∈ Tgl ∨ w ∈ Ntl := List.forall_mem_cons.mpr ⟨Or.inl tw_1, List.forall_mem_cons.mpr ⟨Or.inl tw_59, List.forall_mem_cons.mpr ⟨Or.inl tw_60, List.forall_mem_cons.mpr ⟨Or.inl tw_61, List.forall_mem_cons.mpr ⟨Or.inl tw_63, List.forall_mem_cons.mpr ⟨Or.inl tw_92, List.forall_mem_cons.mpr ⟨Or.inl tw_93, List.forall_mem_cons.mpr ⟨Or.inl tw_376, List.forall_mem_cons.mpr ⟨Or.inl tw_377, List.forall_mem_cons.mpr ⟨Or.inr nw_477, List.forall_mem_cons.mpr ⟨Or.inr nw_478, List.forall_mem_cons.mpr ⟨Or.inr nw_479, List.forall_mem_cons.mpr ⟨Or.inr nw_480, List.forall_mem_cons.mpr ⟨Or.inr nw_481, List.forall_mem_cons.mpr ⟨Or.inr nw_482, List.forall_mem_cons.mpr ⟨Or.inl tw_483, List.forall_mem_cons.mpr ⟨Or.inl tw_484, List.forall_mem_cons.mpr ⟨Or.inl tw_485, List.forall_mem_cons.mpr ⟨Or.inl tw_486, List.forall_mem_cons.mpr ⟨Or.inl tw_487, List.forall_mem_cons.mpr ⟨Or.inl tw_488, List.forall_mem_cons.mpr ⟨Or.inl tw_489, List.forall_mem_cons.mpr ⟨Or.inl tw_490, List.forall_mem_cons.mpr ⟨Or.inl tw_491, List.forall_mem_cons.mpr ⟨Or.inl tw_492, List.forall_mem_cons.mpr ⟨Or.inl tw_493, List.forall_mem_cons.mpr ⟨Or.inl tw_494, List.forall_mem_cons.mpr ⟨Or.inl tw_495, List.forall_mem_cons.mpr ⟨Or.inl tw_496, List.forall_mem_cons.mpr ⟨Or.inl tw_497, List.forall_mem_cons.mpr ⟨Or.inl tw_498, List.forall_mem_cons.mpr ⟨Or.inl tw_499, List.forall_mem_cons.mpr ⟨Or.inl tw_500, List.forall_mem_cons.mpr ⟨Or.inl tw_502, List.forall_mem_cons.mpr ⟨Or.inl tw_504, List.forall_mem_cons.mpr ⟨Or.inl tw_505, List.forall_mem_cons.mpr ⟨Or.inl tw_506, List.forall_mem_cons.mpr ⟨Or.inl tw_507, List.forall_mem_cons.mpr ⟨Or.inl tw_508, List.forall_mem_cons.mpr ⟨Or.inl tw_510, List.forall_mem_cons.mpr ⟨Or.inl tw_512, List.forall_mem_cons.mpr ⟨Or.inl tw_513, List.forall_mem_cons.mpr ⟨Or.inl tw_514, List.forall_mem_cons.mpr ⟨Or.inl tw_594, List.forall_mem_cons.mpr ⟨Or.inl tw_595, List.forall_mem_cons.mpr ⟨Or.inl tw_596, List.forall_mem_cons.mpr ⟨Or.inl tw_597, List.forall_mem_cons.mpr ⟨Or.inl tw_598, List.forall_mem_cons.mpr ⟨Or.inl tw_599, List.forall_mem_cons.mpr ⟨Or.inl tw_600, List.forall_mem_cons.mpr ⟨Or.inl tw_601, List.forall_mem_cons.mpr ⟨Or.inl tw_602, List.forall_mem_cons.mpr ⟨Or.inl tw_604, List.forall_mem_cons.mpr ⟨Or.inl tw_605, List.forall_mem_cons.mpr ⟨Or.inl tw_606, List.forall_mem_cons.mpr ⟨Or.inl tw_607, List.forall_mem_cons.mpr ⟨Or.inl tw_612, List.forall_mem_cons.mpr ⟨Or.inl tw_615, List.forall_mem_cons.mpr ⟨Or.inl tw_814, List.forall_mem_cons.mpr ⟨Or.inl tw_815, List.forall_mem_cons.mpr ⟨Or.inl tw_816, List.forall_mem_cons.mpr ⟨Or.inl tw_817, List.forall_mem_cons.mpr ⟨Or.inl tw_818, List.forall_mem_cons.mpr ⟨Or.inl tw_819, List.forall_mem_cons.mpr ⟨Or.inl tw_824, List.forall_mem_cons.mpr ⟨Or.inl tw_825, List.forall_mem_cons.mpr ⟨Or.inl tw_826, List.forall_mem_cons.mpr ⟨Or.inl tw_885, List.forall_mem_cons.mpr ⟨Or.inl tw_891, List.forall_mem_cons.mpr ⟨Or.inl tw_892, List.forall_mem_cons.mpr ⟨Or.inr nw_893, List.forall_mem_cons.mpr ⟨Or.inl tw_894, List.forall_mem_cons.mpr ⟨Or.inl tw_895, List.forall_mem_cons.mpr ⟨Or.inl tw_896, List.forall_mem_cons.mpr ⟨Or.inl tw_897, List.forall_mem_cons.mpr ⟨Or.inl tw_898, List.forall_mem_cons.mpr ⟨Or.inl tw_899, List.forall_mem_cons.mpr ⟨Or.inl tw_901, List.forall_mem_cons.mpr ⟨Or.inl tw_902, List.forall_mem_cons.mpr ⟨Or.inl tw_903, List.forall_mem_cons.mpr ⟨Or.inl tw_904, List.forall_mem_cons.mpr ⟨Or.inl tw_905, List.forall_mem_cons.mpr ⟨Or.inl tw_906, List.forall_mem_cons.mpr ⟨Or.inl tw_948, List.forall_mem_cons.mpr ⟨Or.inl tw_949, List.forall_mem_cons.mpr ⟨Or.inl tw_966, List.forall_mem_cons.mpr ⟨Or.inl tw_973, List.forall_mem_cons.mpr ⟨Or.inl tw_1696, List.forall_mem_cons.mpr ⟨Or.inr nw_1715, List.forall_mem_cons.mpr ⟨Or.inr nw_1725, List.forall_mem_cons.mpr ⟨Or.inr nw_1728, fun x hx => absurd hx List.not_mem_nil⟩⟩⟩⟩⟩⟩⟩⟩⟩⟩⟩⟩⟩⟩⟩⟩⟩⟩⟩⟩⟩⟩⟩⟩⟩⟩⟩⟩⟩⟩⟩⟩⟩⟩⟩⟩⟩⟩⟩⟩⟩⟩⟩⟩⟩⟩⟩⟩⟩⟩⟩⟩⟩⟩⟩⟩⟩⟩⟩⟩⟩⟩⟩⟩⟩⟩⟩⟩⟩⟩⟩⟩⟩⟩⟩⟩⟩⟩⟩⟩⟩⟩⟩⟩⟩⟩⟩⟩⟩⟩⟩
theorem thrc_1_88_92 : (Jvm.Cond.classLink "Twelvehundred" 88 (xn 1) :: Jvm.Cond.initialized (xn 1) :: vx_atS "Twelvehundred" 92 (xn 1) thN).all (fun w => sx_1_88_92.contains w || (Tgl.contains w || Ntl.contains w)) = true := by decide +kernel
theorem thr_1_88_92 (G : va_G) (a0 a1 a2 a3 : ClassId) (n0 : Nat) : ∀ w ∈ Jvm.Cond.classLink "Twelvehundred" 88 (xn 1) :: Jvm.Cond.initialized (xn 1) :: vx_atS "Twelvehundred" 92 (xn 1) thN, w ∈ vTg (VV G a0 a1 a2 a3 n0) ∨ w ∈ vNt (VV G a0 a1 a2 a3 n0) := by
  intro w hw
  have h := List.all_eq_true.mp thrc_1_88_92 w hw
  rcases Bool.or_eq_true_iff.mp h with h | h
  · exact sxm_1_88_92 w (List.contains_iff_mem.mp h)
  rcases Bool.or_eq_true_iff.mp h with h | h
  · exact Or.inl (List.contains_iff_mem.mp h)
  · exact Or.inr (List.contains_iff_mem.mp h)
def sx_2_112_116 : List Jvm.Cond := [Jvm.Cond.selects "java/lang/Throwable" (⟨"java/lang/Throwable", "fillInStackTrace", "(I)Ljava/lang/Throwable;"⟩ : MethodName) (⟨"java/lang/Throwable", "fillInStackTrace", "(I)Ljava/lang/Throwable;"⟩ : MethodName), Jvm.Cond.initialized "java/lang/Throwable", Jvm.Cond.initialized "java/lang/Exception", Jvm.Cond.initialized "java/lang/RuntimeException", Jvm.Cond.initialized "java/lang/IndexOutOfBoundsException", Jvm.Cond.instanceMethod (⟨"java/lang/Object", "<init>", "()V"⟩ : MethodName), Jvm.Cond.code (⟨"java/lang/Object", "<init>", "()V"⟩ : MethodName) object_method_1_code 1 (none), Jvm.Cond.native (⟨"java/lang/Object", "clone", "()Ljava/lang/Object;"⟩ : MethodName), Jvm.Cond.instanceMethod (⟨"java/lang/Object", "clone", "()Ljava/lang/Object;"⟩ : MethodName), Jvm.Cond.declares (⟨"java/lang/RuntimeException", "<init>", "()V"⟩ : MethodName), Jvm.Cond.declares (⟨"java/lang/RuntimeException", "<init>", "(Ljava/lang/String;)V"⟩ : MethodName), Jvm.Cond.declares (⟨"java/lang/Exception", "<init>", "()V"⟩ : MethodName), Jvm.Cond.declares (⟨"java/lang/Exception", "<init>", "(Ljava/lang/String;)V"⟩ : MethodName), Jvm.Cond.declares (⟨"java/lang/Throwable", "<init>", "()V"⟩ : MethodName), Jvm.Cond.declares (⟨"java/lang/Throwable", "<init>", "(Ljava/lang/String;)V"⟩ : MethodName), Jvm.Cond.selects "java/lang/IllegalArgumentException" (⟨"java/lang/Throwable", "fillInStackTrace", "(I)Ljava/lang/Throwable;"⟩ : MethodName) (⟨"java/lang/Throwable", "fillInStackTrace", "(I)Ljava/lang/Throwable;"⟩ : MethodName), Jvm.Cond.selects "java/lang/IllegalArgumentException" (⟨"java/lang/Throwable", "fillInStackTrace", "()Ljava/lang/Throwable;"⟩ : MethodName) (⟨"java/lang/Throwable", "fillInStackTrace", "()Ljava/lang/Throwable;"⟩ : MethodName), Jvm.Cond.lays "java/lang/IllegalArgumentException" "java/lang/Throwable" "cause" "Ljava/lang/Throwable;", Jvm.Cond.lays "java/lang/Throwable" "java/lang/Throwable" "cause" "Ljava/lang/Throwable;", Jvm.Cond.lays "java/lang/IllegalArgumentException" "java/lang/Throwable" "stackTrace" "[Ljava/lang/StackTraceElement;", Jvm.Cond.lays "java/lang/Throwable" "java/lang/Throwable" "stackTrace" "[Ljava/lang/StackTraceElement;", Jvm.Cond.lays "java/lang/IllegalArgumentException" "java/lang/Throwable" "suppressedExceptions" "Ljava/util/List;", Jvm.Cond.lays "java/lang/Throwable" "java/lang/Throwable" "suppressedExceptions" "Ljava/util/List;", Jvm.Cond.lays "java/lang/IllegalArgumentException" "java/lang/Throwable" "detailMessage" "Ljava/lang/String;", Jvm.Cond.lays "java/lang/Throwable" "java/lang/Throwable" "detailMessage" "Ljava/lang/String;", Jvm.Cond.lays "java/lang/IllegalArgumentException" "java/lang/Throwable" "backtrace" "Ljava/lang/Object;", Jvm.Cond.lays "java/lang/Throwable" "java/lang/Throwable" "backtrace" "Ljava/lang/Object;", Jvm.Cond.fieldLink "java/lang/Throwable" 198 "java/lang/Throwable" "backtrace" "Ljava/lang/Object;", Jvm.Cond.superclass "java/lang/Throwable" "java/lang/Object", Jvm.Cond.instanceMethod (⟨"java/lang/Throwable", "<init>", "()V"⟩ : MethodName), Jvm.Cond.code (⟨"java/lang/Throwable", "<init>", "()V"⟩ : MethodName) prog_38_method_1_code 1 (none), Jvm.Cond.methodLink "java/lang/Throwable" 1 (⟨"java/lang/Object", "<init>", "()V"⟩ : MethodName), Jvm.Cond.fieldLink "java/lang/Throwable" 13 "java/lang/Throwable" "UNASSIGNED_STACK" "[Ljava/lang/StackTraceElement;", Jvm.Cond.fieldLink "java/lang/Throwable" 20 "java/lang/Throwable" "SUPPRESSED_SENTINEL" "Ljava/util/List;", Jvm.Cond.methodLink "java/lang/Throwable" 27 (⟨"java/lang/Throwable", "fillInStackTrace", "()Ljava/lang/Throwable;"⟩ : MethodName), Jvm.Cond.instanceMethod (⟨"java/lang/Throwable", "fillInStackTrace", "()Ljava/lang/Throwable;"⟩ : MethodName), Jvm.Cond.sameMethod "java/lang/Throwable" "java/lang/Throwable" "fillInStackTrace" "()Ljava/lang/Throwable;", Jvm.Cond.selects "java/lang/IllegalStateException" (⟨"java/lang/Throwable", "fillInStackTrace", "()Ljava/lang/Throwable;"⟩ : MethodName) (⟨"java/lang/Throwable", "fillInStackTrace", "()Ljava/lang/Throwable;"⟩ : MethodName), Jvm.Cond.selects "java/lang/IndexOutOfBoundsException" (⟨"java/lang/Throwable", "fillInStackTrace", "()Ljava/lang/Throwable;"⟩ : MethodName) (⟨"java/lang/Throwable", "fillInStackTrace", "()Ljava/lang/Throwable;"⟩ : MethodName), Jvm.Cond.methodLink "java/lang/Throwable" 202 (⟨"java/lang/Throwable", "fillInStackTrace", "(I)Ljava/lang/Throwable;"⟩ : MethodName), Jvm.Cond.instanceMethod (⟨"java/lang/Throwable", "fillInStackTrace", "(I)Ljava/lang/Throwable;"⟩ : MethodName), Jvm.Cond.instantiable "java/lang/Throwable" 6, Jvm.Cond.native (⟨"java/lang/Throwable", "fillInStackTrace", "(I)Ljava/lang/Throwable;"⟩ : MethodName), Jvm.Cond.methodLink "java/lang/IllegalArgumentException" 7 (⟨"java/lang/RuntimeException", "<init>", "(Ljava/lang/String;)V"⟩ : MethodName), Jvm.Cond.instanceMethod (⟨"java/lang/RuntimeException", "<init>", "(Ljava/lang/String;)V"⟩ : MethodName), Jvm.Cond.code (⟨"java/lang/RuntimeException", "<init>", "(Ljava/lang/String;)V"⟩ : MethodName) prog_32_method_2_code 2 (none), Jvm.Cond.methodLink "java/lang/RuntimeException" 7 (⟨"java/lang/Exception", "<init>", "(Ljava/lang/String;)V"⟩ : MethodName), Jvm.Cond.instanceMethod (⟨"java/lang/Exception", "<init>", "(Ljava/lang/String;)V"⟩ : MethodName), Jvm.Cond.code (⟨"java/lang/Exception", "<init>", "(Ljava/lang/String;)V"⟩ : MethodName) prog_23_method_2_code 2 (none), Jvm.Cond.methodLink "java/lang/Exception" 7 (⟨"java/lang/Throwable", "<init>", "(Ljava/lang/String;)V"⟩ : MethodName), Jvm.Cond.instanceMethod (⟨"java/lang/Throwable", "<init>", "(Ljava/lang/String;)V"⟩ : MethodName), Jvm.Cond.code (⟨"java/lang/Throwable", "<init>", "(Ljava/lang/String;)V"⟩ : MethodName) prog_38_method_2_code 2 (none), Jvm.Cond.fieldLink "java/lang/Throwable" 31 "java/lang/Throwable" "detailMessage" "Ljava/lang/String;", Jvm.Cond.fieldLink "java/lang/Throwable" 7 "java/lang/Throwable" "cause" "Ljava/lang/Throwable;", Jvm.Cond.fieldLink "java/lang/Throwable" 17 "java/lang/Throwable" "stackTrace" "[Ljava/lang/StackTraceElement;", Jvm.Cond.fieldLink "java/lang/Throwable" 24 "java/lang/Throwable" "suppressedExceptions" "Ljava/util/List;", Jvm.Cond.lays "java/lang/IllegalArgumentException" "java/lang/Throwable" "depth" "I", Jvm.Cond.superclass "java/lang/IllegalArgumentException" "java/lang/RuntimeException", Jvm.Cond.classLink "Twelvehundred" 112 "java/lang/IndexOutOfBoundsException", Jvm.Cond.instantiable "java/lang/IndexOutOfBoundsException" 6, Jvm.Cond.castable "java/lang/IndexOutOfBoundsException" "java/lang/IndexOutOfBoundsException", Jvm.Cond.selects "java/lang/IndexOutOfBoundsException" (⟨"java/lang/Throwable", "fillInStackTrace", "(I)Ljava/lang/Throwable;"⟩ : MethodName) (⟨"java/lang/Throwable", "fillInStackTrace", "(I)Ljava/lang/Throwable;"⟩ : MethodName), Jvm.Cond.lays "java/lang/IndexOutOfBoundsException" "java/lang/Throwable" "cause" "Ljava/lang/Throwable;", Jvm.Cond.lays "java/lang/IndexOutOfBoundsException" "java/lang/Throwable" "stackTrace" "[Ljava/lang/StackTraceElement;", Jvm.Cond.lays "java/lang/IndexOutOfBoundsException" "java/lang/Throwable" "suppressedExceptions" "Ljava/util/List;", Jvm.Cond.lays "java/lang/IndexOutOfBoundsException" "java/lang/Throwable" "detailMessage" "Ljava/lang/String;", Jvm.Cond.lays "java/lang/IndexOutOfBoundsException" "java/lang/Throwable" "backtrace" "Ljava/lang/Object;", Jvm.Cond.methodLink "Twelvehundred" 116 (⟨"java/lang/IndexOutOfBoundsException", "<init>", "(Ljava/lang/String;)V"⟩ : MethodName), Jvm.Cond.instanceMethod (⟨"java/lang/IndexOutOfBoundsException", "<init>", "(Ljava/lang/String;)V"⟩ : MethodName), Jvm.Cond.code (⟨"java/lang/IndexOutOfBoundsException", "<init>", "(Ljava/lang/String;)V"⟩ : MethodName) prog_26_method_2_code 2 (none), Jvm.Cond.methodLink "java/lang/IndexOutOfBoundsException" 7 (⟨"java/lang/RuntimeException", "<init>", "(Ljava/lang/String;)V"⟩ : MethodName), Jvm.Cond.lays "java/lang/IndexOutOfBoundsException" "java/lang/Throwable" "depth" "I", Jvm.Cond.superclass "java/lang/IndexOutOfBoundsException" "java/lang/RuntimeException", Jvm.Cond.selects "java/lang/IllegalStateException" (⟨"java/lang/Throwable", "fillInStackTrace", "(I)Ljava/lang/Throwable;"⟩ : MethodName) (⟨"java/lang/Throwable", "fillInStackTrace", "(I)Ljava/lang/Throwable;"⟩ : MethodName), Jvm.Cond.lays "java/lang/IllegalStateException" "java/lang/Throwable" "cause" "Ljava/lang/Throwable;", Jvm.Cond.lays "java/lang/IllegalStateException" "java/lang/Throwable" "stackTrace" "[Ljava/lang/StackTraceElement;", Jvm.Cond.lays "java/lang/IllegalStateException" "java/lang/Throwable" "suppressedExceptions" "Ljava/util/List;", Jvm.Cond.lays "java/lang/IllegalStateException" "java/lang/Throwable" "detailMessage" "Ljava/lang/String;", Jvm.Cond.lays "java/lang/IllegalStateException" "java/lang/Throwable" "backtrace" "Ljava/lang/Object;", Jvm.Cond.methodLink "java/lang/IllegalStateException" 7 (⟨"java/lang/RuntimeException", "<init>", "(Ljava/lang/String;)V"⟩ : MethodName), Jvm.Cond.lays "java/lang/IllegalStateException" "java/lang/Throwable" "depth" "I", Jvm.Cond.superclass "java/lang/IllegalStateException" "java/lang/RuntimeException", Jvm.Cond.instanceMethod (⟨"java/lang/Object", "getClass", "()Ljava/lang/Class;"⟩ : MethodName), Jvm.Cond.sameMethod "java/lang/Object" "java/lang/Object" "getClass" "()Ljava/lang/Class;", Jvm.Cond.selects "java/lang/IndexOutOfBoundsException" (⟨"java/lang/Object", "getClass", "()Ljava/lang/Class;"⟩ : MethodName) (⟨"java/lang/Object", "getClass", "()Ljava/lang/Class;"⟩ : MethodName), Jvm.Cond.native (⟨"java/lang/Object", "getClass", "()Ljava/lang/Class;"⟩ : MethodName), Jvm.Cond.classLink "TwelvehundredLaw" 29 "java/lang/IndexOutOfBoundsException", Jvm.Cond.sameMethod "java/lang/Throwable" "java/lang/Throwable" "fillInStackTrace" "(I)Ljava/lang/Throwable;", Jvm.Cond.castable "java/lang/IndexOutOfBoundsException" "java/lang/Object", Jvm.Cond.castable "java/lang/Throwable" "java/lang/Object", Jvm.Cond.declares (⟨"java/lang/Object", "getClass", "()Ljava/lang/Class;"⟩ : MethodName)]
theorem sxm_2_112_116 : ∀ w ∈ sx_2_112_116, w ∈ Tgl ∨ w ∈ Ntl := List.forall_mem_cons.mpr ⟨Or.inl tw_1, List.forall_mem_cons.mpr ⟨Or.inl tw_59, List.forall_mem_cons.mpr ⟨Or.inl tw_60, List.forall_mem_cons.mpr ⟨Or.inl tw_61, List.forall_mem_cons.mpr ⟨Or.inl tw_74, List.forall_mem_cons.mpr ⟨Or.inl tw_92, List.forall_mem_cons.mpr ⟨Or.inl tw_93, List.forall_mem_cons.mpr ⟨Or.inl tw_376, List.forall_mem_cons.mpr ⟨Or.inl tw_377, List.forall_mem_cons.mpr ⟨Or.inr nw_477, List.forall_mem_cons.mpr ⟨Or.inr nw_478, List.forall_mem_cons.mpr ⟨Or.inr nw_479, List.forall_mem_cons.mpr ⟨Or.inr nw_480, List.forall_mem_cons.mpr ⟨Or.inr nw_481, List.forall_mem_cons.mpr ⟨Or.inr nw_482, List.forall_mem_cons.mpr ⟨Or.inl tw_483, List.forall_mem_cons.mpr ⟨Or.inl tw_484, List.forall_mem_cons.mpr ⟨Or.inl tw_485, List.forall_mem_cons.mpr ⟨Or.inl tw_486, List.forall_mem_cons.mpr ⟨Or.inl tw_487, List.forall_mem_cons.mpr ⟨Or.inl tw_488, List.forall_mem_cons.mpr ⟨Or.inl tw_489, List.forall_mem_cons.mpr ⟨Or.inl tw_490, List.forall_mem_cons.mpr ⟨Or.inl tw_491, List.forall_mem_cons.mpr ⟨Or.inl tw_492, List.forall_mem_cons.mpr ⟨Or.inl tw_493, List.forall_mem_cons.mpr ⟨Or.inl tw_494, List.forall_mem_cons.mpr ⟨Or.inl tw_495, List.forall_mem_cons.mpr ⟨Or.inl tw_496, List.forall_mem_cons.mpr ⟨Or.inl tw_497, List.forall_mem_cons.mpr ⟨Or.inl tw_498, List.forall_mem_cons.mpr ⟨Or.inl tw_499, List.forall_mem_cons.mpr ⟨Or.inl tw_500, List.forall_mem_cons.mpr ⟨Or.inl tw_502, List.forall_mem_cons.mpr ⟨Or.inl tw_504, List.forall_mem_cons.mpr ⟨Or.inl tw_505, List.forall_mem_cons.mpr ⟨Or.inl tw_506, List.forall_mem_cons.mpr ⟨Or.inl tw_507, List.forall_mem_cons.mpr ⟨Or.inl tw_508, List.forall_mem_cons.mpr ⟨Or.inl tw_510, List.forall_mem_cons.mpr ⟨Or.inl tw_512, List.forall_mem_cons.mpr ⟨Or.inl tw_513, List.forall_mem_cons.mpr ⟨Or.inl tw_514, List.forall_mem_cons.mpr ⟨Or.inl tw_594, List.forall_mem_cons.mpr ⟨Or.inl tw_595, List.forall_mem_cons.mpr ⟨Or.inl tw_596, List.forall_mem_cons.mpr ⟨Or.inl tw_597, List.forall_mem_cons.mpr ⟨Or.inl tw_598, List.forall_mem_cons.mpr ⟨Or.inl tw_599, List.forall_mem_cons.mpr ⟨Or.inl tw_600, List.forall_mem_cons.mpr ⟨Or.inl tw_601, List.forall_mem_cons.mpr ⟨Or.inl tw_602, List.forall_mem_cons.mpr ⟨Or.inl tw_604, List.forall_mem_cons.mpr ⟨Or.inl tw_605, List.forall_mem_cons.mpr ⟨Or.inl tw_606, List.forall_mem_cons.mpr ⟨Or.inl tw_607, List.forall_mem_cons.mpr ⟨Or.inl tw_612, List.forall_mem_cons.mpr ⟨Or.inl tw_615, List.forall_mem_cons.mpr ⟨Or.inl tw_811, List.forall_mem_cons.mpr ⟨Or.inl tw_812, List.forall_mem_cons.mpr ⟨Or.inr nw_813, List.forall_mem_cons.mpr ⟨Or.inl tw_814, List.forall_mem_cons.mpr ⟨Or.inl tw_815, List.forall_mem_cons.mpr ⟨Or.inl tw_816, List.forall_mem_cons.mpr ⟨Or.inl tw_817, List.forall_mem_cons.mpr ⟨Or.inl tw_818, List.forall_mem_cons.mpr ⟨Or.inl tw_819, List.forall_mem_cons.mpr ⟨Or.inl tw_821, List.forall_mem_cons.mpr ⟨Or.inl tw_822, List.forall_mem_cons.mpr ⟨Or.inl tw_823, List.forall_mem_cons.mpr ⟨Or.inl tw_824, List.forall_mem_cons.mpr ⟨Or.inl tw_825, List.forall_mem_cons.mpr ⟨Or.inl tw_826, List.forall_mem_cons.mpr ⟨Or.inl tw_894, List.forall_mem_cons.mpr ⟨Or.inl tw_895, List.forall_mem_cons.mpr ⟨Or.inl tw_896, List.forall_mem_cons.mpr ⟨Or.inl tw_897, List.forall_mem_cons.mpr ⟨Or.inl tw_898, List.forall_mem_cons.mpr ⟨Or.inl tw_899, List.forall_mem_cons.mpr ⟨Or.inl tw_904, List.forall_mem_cons.mpr ⟨Or.inl tw_905, List.forall_mem_cons.mpr ⟨Or.inl tw_906, List.forall_mem_cons.mpr ⟨Or.inl tw_948, List.forall_mem_cons.mpr ⟨Or.inl tw_949, List.forall_mem_cons.mpr ⟨Or.inl tw_967, List.forall_mem_cons.mpr ⟨Or.inl tw_973, List.forall_mem_cons.mpr ⟨Or.inl tw_1051, List.forall_mem_cons.mpr ⟨Or.inl tw_1696, List.forall_mem_cons.mpr ⟨Or.inr nw_1717, List.forall_mem_cons.mpr ⟨Or.inr nw_1725, List.forall_mem_cons.mpr ⟨Or.inr nw_1728, fun x hx => absurd hx List.not_mem_nil⟩⟩⟩⟩⟩⟩⟩⟩⟩⟩⟩⟩⟩⟩⟩⟩⟩⟩⟩⟩⟩⟩⟩⟩⟩⟩⟩⟩⟩⟩⟩⟩⟩⟩⟩⟩⟩⟩⟩⟩⟩⟩⟩⟩⟩⟩⟩⟩⟩⟩⟩⟩⟩⟩⟩⟩⟩⟩⟩⟩⟩⟩⟩⟩⟩⟩⟩⟩⟩⟩⟩⟩⟩⟩⟩⟩⟩⟩⟩⟩⟩⟩⟩⟩⟩⟩⟩⟩⟩⟩⟩
theorem thrc_2_112_116 : (Jvm.Cond.classLink "Twelvehundred" 112 (xn 2) :: Jvm.Cond.initialized (xn 2) :: vx_atS "Twelvehundred" 116 (xn 2) thN).all (fun w => sx_2_112_116.contains w || (Tgl.contains w || Ntl.contains w)) = true := by decide +kernel
theorem thr_2_112_116 (G : va_G) (a0 a1 a2 a3 : ClassId) (n0 : Nat) : ∀ w ∈ Jvm.Cond.classLink "Twelvehundred" 112 (xn 2) :: Jvm.Cond.initialized (xn 2) :: vx_atS "Twelvehundred" 116 (xn 2) thN, w ∈ vTg (VV G a0 a1 a2 a3 n0) ∨ w ∈ vNt (VV G a0 a1 a2 a3 n0) := by
  intro w hw
  have h := List.all_eq_true.mp thrc_2_112_116 w hw
  rcases Bool.or_eq_true_iff.mp h with h | h
  · exact sxm_2_112_116 w (List.contains_iff_mem.mp h)
  rcases Bool.or_eq_true_iff.mp h with h | h
  · exact Or.inl (List.contains_iff_mem.mp h)
  · exact Or.inr (List.contains_iff_mem.mp h)
theorem han_4 (G : va_G) (a0 a1 a2 a3 : ClassId) (n0 : Nat) (em mi ic : Nat) (pc : Nat) (h1 : 0 ≤ pc) (h2 : pc < 11) : HanOk (VV G a0 a1 a2 a3 n0) (DD em mi ic) 4 pc := by
  have hc : ∀ x ∈ tableOf [(0, 11, 14, 19), (0, 11, 18, 21)], covers x pc = true := by
    intro x hx
    simp [tableOf] at hx
    rcases hx with rfl | rfl <;> simp [covers] <;> omega
  intro k t hk
  have hk : (k, t) ∈ ([(0, 1), (1, 2)] : List (Nat × Nat)) := hk
  simp only [List.mem_cons, Prod.mk.injEq, List.not_mem_nil, or_false] at hk
  rcases hk with ⟨rfl, rfl⟩ | ⟨rfl, rfl⟩
  · exact ⟨(tableOf [(0, 11, 14, 19), (0, 11, 18, 21)]).take 0, _, (tableOf [(0, 11, 14, 19), (0, 11, 18, 21)]).drop 1, "java/lang/IllegalArgumentException", rfl, fun w hw => absurd hw List.not_mem_nil, hc _ (List.mem_of_getElem? (i := 0) rfl), by decide, tw_884, Or.inr nw_476, rfl⟩
  · exact ⟨(tableOf [(0, 11, 14, 19), (0, 11, 18, 21)]).take 1, _, (tableOf [(0, 11, 14, 19), (0, 11, 18, 21)]).drop 2, "java/lang/IllegalStateException", rfl, List.forall_mem_cons.mpr ⟨Or.inr ⟨by decide, "java/lang/IllegalArgumentException", tw_884, List.mem_of_getElem? (i := 2) rfl⟩, fun w hw => absurd hw List.not_mem_nil⟩, hc _ (List.mem_of_getElem? (i := 1) rfl), by decide, tw_885, Or.inr nw_893, rfl⟩
theorem han_6 (G : va_G) (a0 a1 a2 a3 : ClassId) (n0 : Nat) (em mi ic : Nat) (pc : Nat) (h1 : 0 ≤ pc) (h2 : pc < 11) : HanOk (VV G a0 a1 a2 a3 n0) (DD em mi ic) 6 pc := by
  have hc : ∀ x ∈ tableOf [(0, 11, 14, 19), (0, 11, 18, 21)], covers x pc = true := by
    intro x hx
    simp [tableOf] at hx
    rcases hx with rfl | rfl <;> simp [covers] <;> omega
  intro k t hk
  have hk : (k, t) ∈ ([(0, 1), (1, 2)] : List (Nat × Nat)) := hk
  simp only [List.mem_cons, Prod.mk.injEq, List.not_mem_nil, or_false] at hk
  rcases hk with ⟨rfl, rfl⟩ | ⟨rfl, rfl⟩
  · exact ⟨(tableOf [(0, 11, 14, 19), (0, 11, 18, 21)]).take 0, _, (tableOf [(0, 11, 14, 19), (0, 11, 18, 21)]).drop 1, "java/lang/IllegalArgumentException", rfl, fun w hw => absurd hw List.not_mem_nil, hc _ (List.mem_of_getElem? (i := 0) rfl), by decide, tw_884, Or.inr nw_476, rfl⟩
  · exact ⟨(tableOf [(0, 11, 14, 19), (0, 11, 18, 21)]).take 1, _, (tableOf [(0, 11, 14, 19), (0, 11, 18, 21)]).drop 2, "java/lang/IllegalStateException", rfl, List.forall_mem_cons.mpr ⟨Or.inr ⟨by decide, "java/lang/IllegalArgumentException", tw_884, List.mem_of_getElem? (i := 2) rfl⟩, fun w hw => absurd hw List.not_mem_nil⟩, hc _ (List.mem_of_getElem? (i := 1) rfl), by decide, tw_885, Or.inr nw_893, rfl⟩
theorem han_8 (G : va_G) (a0 a1 a2 a3 : ClassId) (n0 : Nat) (em mi ic : Nat) (pc : Nat) (h1 : 0 ≤ pc) (h2 : pc < 11) : HanOk (VV G a0 a1 a2 a3 n0) (DD em mi ic) 8 pc := by
  have hc : ∀ x ∈ tableOf [(0, 11, 14, 29), (0, 11, 18, 19)], covers x pc = true := by
    intro x hx
    simp [tableOf] at hx
    rcases hx with rfl | rfl <;> simp [covers] <;> omega
  intro k t hk
  have hk : (k, t) ∈ ([(2, 1), (0, 2)] : List (Nat × Nat)) := hk
  simp only [List.mem_cons, Prod.mk.injEq, List.not_mem_nil, or_false] at hk
  rcases hk with ⟨rfl, rfl⟩ | ⟨rfl, rfl⟩
  · exact ⟨(tableOf [(0, 11, 14, 29), (0, 11, 18, 19)]).take 0, _, (tableOf [(0, 11, 14, 29), (0, 11, 18, 19)]).drop 1, "java/lang/IndexOutOfBoundsException", rfl, fun w hw => absurd hw List.not_mem_nil, hc _ (List.mem_of_getElem? (i := 0) rfl), by decide, tw_1051, Or.inr nw_813, rfl⟩
  · exact ⟨(tableOf [(0, 11, 14, 29), (0, 11, 18, 19)]).take 1, _, (tableOf [(0, 11, 14, 29), (0, 11, 18, 19)]).drop 2, "java/lang/IllegalArgumentException", rfl, List.forall_mem_cons.mpr ⟨Or.inr ⟨by decide, "java/lang/IndexOutOfBoundsException", tw_1051, List.mem_of_getElem? (i := 1) rfl⟩, fun w hw => absurd hw List.not_mem_nil⟩, hc _ (List.mem_of_getElem? (i := 1) rfl), by decide, tw_884, Or.inr nw_476, rfl⟩
theorem han_10 (G : va_G) (a0 a1 a2 a3 : ClassId) (n0 : Nat) (em mi ic : Nat) (pc : Nat) (h1 : 0 ≤ pc) (h2 : pc < 13) : HanOk (VV G a0 a1 a2 a3 n0) (DD em mi ic) 10 pc := by
  have hc : ∀ x ∈ tableOf [(0, 13, 16, 29), (0, 13, 20, 19), (0, 13, 24, 21)], covers x pc = true := by
    intro x hx
    simp [tableOf] at hx
    rcases hx with rfl | rfl | rfl <;> simp [covers] <;> omega
  intro k t hk
  have hk : (k, t) ∈ ([(2, 1), (0, 2), (1, 3)] : List (Nat × Nat)) := hk
  simp only [List.mem_cons, Prod.mk.injEq, List.not_mem_nil, or_false] at hk
  rcases hk with ⟨rfl, rfl⟩ | ⟨rfl, rfl⟩ | ⟨rfl, rfl⟩
  · exact ⟨(tableOf [(0, 13, 16, 29), (0, 13, 20, 19), (0, 13, 24, 21)]).take 0, _, (tableOf [(0, 13, 16, 29), (0, 13, 20, 19), (0, 13, 24, 21)]).drop 1, "java/lang/IndexOutOfBoundsException", rfl, fun w hw => absurd hw List.not_mem_nil, hc _ (List.mem_of_getElem? (i := 0) rfl), by decide, tw_1051, Or.inr nw_813, rfl⟩
  · exact ⟨(tableOf [(0, 13, 16, 29), (0, 13, 20, 19), (0, 13, 24, 21)]).take 1, _, (tableOf [(0, 13, 16, 29), (0, 13, 20, 19), (0, 13, 24, 21)]).drop 2, "java/lang/IllegalArgumentException", rfl, List.forall_mem_cons.mpr ⟨Or.inr ⟨by decide, "java/lang/IndexOutOfBoundsException", tw_1051, List.mem_of_getElem? (i := 1) rfl⟩, fun w hw => absurd hw List.not_mem_nil⟩, hc _ (List.mem_of_getElem? (i := 1) rfl), by decide, tw_884, Or.inr nw_476, rfl⟩
  · exact ⟨(tableOf [(0, 13, 16, 29), (0, 13, 20, 19), (0, 13, 24, 21)]).take 2, _, (tableOf [(0, 13, 16, 29), (0, 13, 20, 19), (0, 13, 24, 21)]).drop 3, "java/lang/IllegalStateException", rfl, List.forall_mem_cons.mpr ⟨Or.inr ⟨by decide, "java/lang/IndexOutOfBoundsException", tw_1051, List.mem_of_getElem? (i := 3) rfl⟩, List.forall_mem_cons.mpr ⟨Or.inr ⟨by decide, "java/lang/IllegalArgumentException", tw_884, List.mem_of_getElem? (i := 2) rfl⟩, fun w hw => absurd hw List.not_mem_nil⟩⟩, hc _ (List.mem_of_getElem? (i := 2) rfl), by decide, tw_885, Or.inr nw_893, rfl⟩
theorem han_12 (G : va_G) (a0 a1 a2 a3 : ClassId) (n0 : Nat) (em mi ic : Nat) (pc : Nat) (h1 : 0 ≤ pc) (h2 : pc < 11) : HanOk (VV G a0 a1 a2 a3 n0) (DD em mi ic) 12 pc := by
  have hc : ∀ x ∈ tableOf [(0, 11, 14, 19)], covers x pc = true := by
    intro x hx
    simp [tableOf] at hx
    rcases hx with rfl <;> simp [covers] <;> omega
  intro k t hk
  have hk : (k, t) ∈ ([(0, 1)] : List (Nat × Nat)) := hk
  simp only [List.mem_cons, Prod.mk.injEq, List.not_mem_nil, or_false] at hk
  rcases hk with ⟨rfl, rfl⟩
  · exact ⟨(tableOf [(0, 11, 14, 19)]).take 0, _, (tableOf [(0, 11, 14, 19)]).drop 1, "java/lang/IllegalArgumentException", rfl, fun w hw => absurd hw List.not_mem_nil, hc _ (List.mem_of_getElem? (i := 0) rfl), by decide, tw_884, Or.inr nw_476, rfl⟩
theorem han_14 (G : va_G) (a0 a1 a2 a3 : ClassId) (n0 : Nat) (em mi ic : Nat) (pc : Nat) (h1 : 0 ≤ pc) (h2 : pc < 10) : HanOk (VV G a0 a1 a2 a3 n0) (DD em mi ic) 14 pc := by
  have hc : ∀ x ∈ tableOf [(0, 10, 13, 19)], covers x pc = true := by
    intro x hx
    simp [tableOf] at hx
    rcases hx with rfl <;> simp [covers] <;> omega
  intro k t hk
  have hk : (k, t) ∈ ([(0, 1)] : List (Nat × Nat)) := hk
  simp only [List.mem_cons, Prod.mk.injEq, List.not_mem_nil, or_false] at hk
  rcases hk with ⟨rfl, rfl⟩
  · exact ⟨(tableOf [(0, 10, 13, 19)]).take 0, _, (tableOf [(0, 10, 13, 19)]).drop 1, "java/lang/IllegalArgumentException", rfl, fun w hw => absurd hw List.not_mem_nil, hc _ (List.mem_of_getElem? (i := 0) rfl), by decide, tw_884, Or.inr nw_476, rfl⟩
theorem han_16 (G : va_G) (a0 a1 a2 a3 : ClassId) (n0 : Nat) (em mi ic : Nat) (pc : Nat) (h1 : 0 ≤ pc) (h2 : pc < 10) : HanOk (VV G a0 a1 a2 a3 n0) (DD em mi ic) 16 pc := by
  have hc : ∀ x ∈ tableOf [(0, 10, 13, 29), (0, 10, 16, 21)], covers x pc = true := by
    intro x hx
    simp [tableOf] at hx
    rcases hx with rfl | rfl <;> simp [covers] <;> omega
  intro k t hk
  have hk : (k, t) ∈ ([(2, 1), (1, 2)] : List (Nat × Nat)) := hk
  simp only [List.mem_cons, Prod.mk.injEq, List.not_mem_nil, or_false] at hk
  rcases hk with ⟨rfl, rfl⟩ | ⟨rfl, rfl⟩
  · exact ⟨(tableOf [(0, 10, 13, 29), (0, 10, 16, 21)]).take 0, _, (tableOf [(0, 10, 13, 29), (0, 10, 16, 21)]).drop 1, "java/lang/IndexOutOfBoundsException", rfl, fun w hw => absurd hw List.not_mem_nil, hc _ (List.mem_of_getElem? (i := 0) rfl), by decide, tw_1051, Or.inr nw_813, rfl⟩
  · exact ⟨(tableOf [(0, 10, 13, 29), (0, 10, 16, 21)]).take 1, _, (tableOf [(0, 10, 13, 29), (0, 10, 16, 21)]).drop 2, "java/lang/IllegalStateException", rfl, List.forall_mem_cons.mpr ⟨Or.inr ⟨by decide, "java/lang/IndexOutOfBoundsException", tw_1051, List.mem_of_getElem? (i := 3) rfl⟩, fun w hw => absurd hw List.not_mem_nil⟩, hc _ (List.mem_of_getElem? (i := 1) rfl), by decide, tw_885, Or.inr nw_893, rfl⟩
theorem han_19 (G : va_G) (a0 a1 a2 a3 : ClassId) (n0 : Nat) (em mi ic : Nat) (pc : Nat) (h1 : 0 ≤ pc) (h2 : pc < 10) : HanOk (VV G a0 a1 a2 a3 n0) (DD em mi ic) 19 pc := by
  have hc : ∀ x ∈ tableOf [(0, 10, 13, 19), (0, 10, 16, 21)], covers x pc = true := by
    intro x hx
    simp [tableOf] at hx
    rcases hx with rfl | rfl <;> simp [covers] <;> omega
  intro k t hk
  have hk : (k, t) ∈ ([(0, 1), (1, 2)] : List (Nat × Nat)) := hk
  simp only [List.mem_cons, Prod.mk.injEq, List.not_mem_nil, or_false] at hk
  rcases hk with ⟨rfl, rfl⟩ | ⟨rfl, rfl⟩
  · exact ⟨(tableOf [(0, 10, 13, 19), (0, 10, 16, 21)]).take 0, _, (tableOf [(0, 10, 13, 19), (0, 10, 16, 21)]).drop 1, "java/lang/IllegalArgumentException", rfl, fun w hw => absurd hw List.not_mem_nil, hc _ (List.mem_of_getElem? (i := 0) rfl), by decide, tw_884, Or.inr nw_476, rfl⟩
  · exact ⟨(tableOf [(0, 10, 13, 19), (0, 10, 16, 21)]).take 1, _, (tableOf [(0, 10, 13, 19), (0, 10, 16, 21)]).drop 2, "java/lang/IllegalStateException", rfl, List.forall_mem_cons.mpr ⟨Or.inr ⟨by decide, "java/lang/IllegalArgumentException", tw_884, List.mem_of_getElem? (i := 2) rfl⟩, fun w hw => absurd hw List.not_mem_nil⟩, hc _ (List.mem_of_getElem? (i := 1) rfl), by decide, tw_885, Or.inr nw_893, rfl⟩
theorem han_21 (G : va_G) (a0 a1 a2 a3 : ClassId) (n0 : Nat) (em mi ic : Nat) (pc : Nat) (h1 : 0 ≤ pc) (h2 : pc < 11) : HanOk (VV G a0 a1 a2 a3 n0) (DD em mi ic) 21 pc := by
  have hc : ∀ x ∈ tableOf [(0, 11, 14, 19), (0, 11, 18, 21)], covers x pc = true := by
    intro x hx
    simp [tableOf] at hx
    rcases hx with rfl | rfl <;> simp [covers] <;> omega
  intro k t hk
  have hk : (k, t) ∈ ([(0, 1), (1, 2)] : List (Nat × Nat)) := hk
  simp only [List.mem_cons, Prod.mk.injEq, List.not_mem_nil, or_false] at hk
  rcases hk with ⟨rfl, rfl⟩ | ⟨rfl, rfl⟩
  · exact ⟨(tableOf [(0, 11, 14, 19), (0, 11, 18, 21)]).take 0, _, (tableOf [(0, 11, 14, 19), (0, 11, 18, 21)]).drop 1, "java/lang/IllegalArgumentException", rfl, fun w hw => absurd hw List.not_mem_nil, hc _ (List.mem_of_getElem? (i := 0) rfl), by decide, tw_884, Or.inr nw_476, rfl⟩
  · exact ⟨(tableOf [(0, 11, 14, 19), (0, 11, 18, 21)]).take 1, _, (tableOf [(0, 11, 14, 19), (0, 11, 18, 21)]).drop 2, "java/lang/IllegalStateException", rfl, List.forall_mem_cons.mpr ⟨Or.inr ⟨by decide, "java/lang/IllegalArgumentException", tw_884, List.mem_of_getElem? (i := 2) rfl⟩, fun w hw => absurd hw List.not_mem_nil⟩, hc _ (List.mem_of_getElem? (i := 1) rfl), by decide, tw_885, Or.inr nw_893, rfl⟩
theorem han_23 (G : va_G) (a0 a1 a2 a3 : ClassId) (n0 : Nat) (em mi ic : Nat) (pc : Nat) (h1 : 0 ≤ pc) (h2 : pc < 10) : HanOk (VV G a0 a1 a2 a3 n0) (DD em mi ic) 23 pc := by
  have hc : ∀ x ∈ tableOf [(0, 10, 13, 19)], covers x pc = true := by
    intro x hx
    simp [tableOf] at hx
    rcases hx with rfl <;> simp [covers] <;> omega
  intro k t hk
  have hk : (k, t) ∈ ([(0, 1)] : List (Nat × Nat)) := hk
  simp only [List.mem_cons, Prod.mk.injEq, List.not_mem_nil, or_false] at hk
  rcases hk with ⟨rfl, rfl⟩
  · exact ⟨(tableOf [(0, 10, 13, 19)]).take 0, _, (tableOf [(0, 10, 13, 19)]).drop 1, "java/lang/IllegalArgumentException", rfl, fun w hw => absurd hw List.not_mem_nil, hc _ (List.mem_of_getElem? (i := 0) rfl), by decide, tw_884, Or.inr nw_476, rfl⟩
theorem han_25 (G : va_G) (a0 a1 a2 a3 : ClassId) (n0 : Nat) (em mi ic : Nat) (pc : Nat) (h1 : 0 ≤ pc) (h2 : pc < 10) : HanOk (VV G a0 a1 a2 a3 n0) (DD em mi ic) 25 pc := by
  have hc : ∀ x ∈ tableOf [(0, 10, 13, 19), (0, 10, 16, 21)], covers x pc = true := by
    intro x hx
    simp [tableOf] at hx
    rcases hx with rfl | rfl <;> simp [covers] <;> omega
  intro k t hk
  have hk : (k, t) ∈ ([(0, 1), (1, 2)] : List (Nat × Nat)) := hk
  simp only [List.mem_cons, Prod.mk.injEq, List.not_mem_nil, or_false] at hk
  rcases hk with ⟨rfl, rfl⟩ | ⟨rfl, rfl⟩
  · exact ⟨(tableOf [(0, 10, 13, 19), (0, 10, 16, 21)]).take 0, _, (tableOf [(0, 10, 13, 19), (0, 10, 16, 21)]).drop 1, "java/lang/IllegalArgumentException", rfl, fun w hw => absurd hw List.not_mem_nil, hc _ (List.mem_of_getElem? (i := 0) rfl), by decide, tw_884, Or.inr nw_476, rfl⟩
  · exact ⟨(tableOf [(0, 10, 13, 19), (0, 10, 16, 21)]).take 1, _, (tableOf [(0, 10, 13, 19), (0, 10, 16, 21)]).drop 2, "java/lang/IllegalStateException", rfl, List.forall_mem_cons.mpr ⟨Or.inr ⟨by decide, "java/lang/IllegalArgumentException", tw_884, List.mem_of_getElem? (i := 2) rfl⟩, fun w hw => absurd hw List.not_mem_nil⟩, hc _ (List.mem_of_getElem? (i := 1) rfl), by decide, tw_885, Or.inr nw_893, rfl⟩
theorem han_27 (G : va_G) (a0 a1 a2 a3 : ClassId) (n0 : Nat) (em mi ic : Nat) (pc : Nat) (h1 : 0 ≤ pc) (h2 : pc < 11) : HanOk (VV G a0 a1 a2 a3 n0) (DD em mi ic) 27 pc := by
  have hc : ∀ x ∈ tableOf [(0, 11, 14, 29)], covers x pc = true := by
    intro x hx
    simp [tableOf] at hx
    rcases hx with rfl <;> simp [covers] <;> omega
  intro k t hk
  have hk : (k, t) ∈ ([(2, 1)] : List (Nat × Nat)) := hk
  simp only [List.mem_cons, Prod.mk.injEq, List.not_mem_nil, or_false] at hk
  rcases hk with ⟨rfl, rfl⟩
  · exact ⟨(tableOf [(0, 11, 14, 29)]).take 0, _, (tableOf [(0, 11, 14, 29)]).drop 1, "java/lang/IndexOutOfBoundsException", rfl, fun w hw => absurd hw List.not_mem_nil, hc _ (List.mem_of_getElem? (i := 0) rfl), by decide, tw_1051, Or.inr nw_813, rfl⟩
theorem han_31 (G : va_G) (a0 a1 a2 a3 : ClassId) (n0 : Nat) (em mi ic : Nat) (pc : Nat) (h1 : 0 ≤ pc) (h2 : pc < 11) : HanOk (VV G a0 a1 a2 a3 n0) (DD em mi ic) 31 pc := by
  have hc : ∀ x ∈ tableOf [(0, 11, 14, 29), (0, 11, 18, 19)], covers x pc = true := by
    intro x hx
    simp [tableOf] at hx
    rcases hx with rfl | rfl <;> simp [covers] <;> omega
  intro k t hk
  have hk : (k, t) ∈ ([(2, 1), (0, 2)] : List (Nat × Nat)) := hk
  simp only [List.mem_cons, Prod.mk.injEq, List.not_mem_nil, or_false] at hk
  rcases hk with ⟨rfl, rfl⟩ | ⟨rfl, rfl⟩
  · exact ⟨(tableOf [(0, 11, 14, 29), (0, 11, 18, 19)]).take 0, _, (tableOf [(0, 11, 14, 29), (0, 11, 18, 19)]).drop 1, "java/lang/IndexOutOfBoundsException", rfl, fun w hw => absurd hw List.not_mem_nil, hc _ (List.mem_of_getElem? (i := 0) rfl), by decide, tw_1051, Or.inr nw_813, rfl⟩
  · exact ⟨(tableOf [(0, 11, 14, 29), (0, 11, 18, 19)]).take 1, _, (tableOf [(0, 11, 14, 29), (0, 11, 18, 19)]).drop 2, "java/lang/IllegalArgumentException", rfl, List.forall_mem_cons.mpr ⟨Or.inr ⟨by decide, "java/lang/IndexOutOfBoundsException", tw_1051, List.mem_of_getElem? (i := 1) rfl⟩, fun w hw => absurd hw List.not_mem_nil⟩, hc _ (List.mem_of_getElem? (i := 1) rfl), by decide, tw_884, Or.inr nw_476, rfl⟩
theorem han_33 (G : va_G) (a0 a1 a2 a3 : ClassId) (n0 : Nat) (em mi ic : Nat) (pc : Nat) (h1 : 0 ≤ pc) (h2 : pc < 11) : HanOk (VV G a0 a1 a2 a3 n0) (DD em mi ic) 33 pc := by
  have hc : ∀ x ∈ tableOf [(0, 11, 14, 29), (0, 11, 18, 19)], covers x pc = true := by
    intro x hx
    simp [tableOf] at hx
    rcases hx with rfl | rfl <;> simp [covers] <;> omega
  intro k t hk
  have hk : (k, t) ∈ ([(2, 1), (0, 2)] : List (Nat × Nat)) := hk
  simp only [List.mem_cons, Prod.mk.injEq, List.not_mem_nil, or_false] at hk
  rcases hk with ⟨rfl, rfl⟩ | ⟨rfl, rfl⟩
  · exact ⟨(tableOf [(0, 11, 14, 29), (0, 11, 18, 19)]).take 0, _, (tableOf [(0, 11, 14, 29), (0, 11, 18, 19)]).drop 1, "java/lang/IndexOutOfBoundsException", rfl, fun w hw => absurd hw List.not_mem_nil, hc _ (List.mem_of_getElem? (i := 0) rfl), by decide, tw_1051, Or.inr nw_813, rfl⟩
  · exact ⟨(tableOf [(0, 11, 14, 29), (0, 11, 18, 19)]).take 1, _, (tableOf [(0, 11, 14, 29), (0, 11, 18, 19)]).drop 2, "java/lang/IllegalArgumentException", rfl, List.forall_mem_cons.mpr ⟨Or.inr ⟨by decide, "java/lang/IndexOutOfBoundsException", tw_1051, List.mem_of_getElem? (i := 1) rfl⟩, fun w hw => absurd hw List.not_mem_nil⟩, hc _ (List.mem_of_getElem? (i := 1) rfl), by decide, tw_884, Or.inr nw_476, rfl⟩
theorem han_35 (G : va_G) (a0 a1 a2 a3 : ClassId) (n0 : Nat) (em mi ic : Nat) (pc : Nat) (h1 : 0 ≤ pc) (h2 : pc < 11) : HanOk (VV G a0 a1 a2 a3 n0) (DD em mi ic) 35 pc := by
  have hc : ∀ x ∈ tableOf [(0, 11, 14, 29), (0, 11, 18, 19)], covers x pc = true := by
    intro x hx
    simp [tableOf] at hx
    rcases hx with rfl | rfl <;> simp [covers] <;> omega
  intro k t hk
  have hk : (k, t) ∈ ([(2, 1), (0, 2)] : List (Nat × Nat)) := hk
  simp only [List.mem_cons, Prod.mk.injEq, List.not_mem_nil, or_false] at hk
  rcases hk with ⟨rfl, rfl⟩ | ⟨rfl, rfl⟩
  · exact ⟨(tableOf [(0, 11, 14, 29), (0, 11, 18, 19)]).take 0, _, (tableOf [(0, 11, 14, 29), (0, 11, 18, 19)]).drop 1, "java/lang/IndexOutOfBoundsException", rfl, fun w hw => absurd hw List.not_mem_nil, hc _ (List.mem_of_getElem? (i := 0) rfl), by decide, tw_1051, Or.inr nw_813, rfl⟩
  · exact ⟨(tableOf [(0, 11, 14, 29), (0, 11, 18, 19)]).take 1, _, (tableOf [(0, 11, 14, 29), (0, 11, 18, 19)]).drop 2, "java/lang/IllegalArgumentException", rfl, List.forall_mem_cons.mpr ⟨Or.inr ⟨by decide, "java/lang/IndexOutOfBoundsException", tw_1051, List.mem_of_getElem? (i := 1) rfl⟩, fun w hw => absurd hw List.not_mem_nil⟩, hc _ (List.mem_of_getElem? (i := 1) rfl), by decide, tw_884, Or.inr nw_476, rfl⟩
theorem han_37 (G : va_G) (a0 a1 a2 a3 : ClassId) (n0 : Nat) (em mi ic : Nat) (pc : Nat) (h1 : 0 ≤ pc) (h2 : pc < 11) : HanOk (VV G a0 a1 a2 a3 n0) (DD em mi ic) 37 pc := by
  have hc : ∀ x ∈ tableOf [(0, 11, 14, 29), (0, 11, 18, 19)], covers x pc = true := by
    intro x hx
    simp [tableOf] at hx
    rcases hx with rfl | rfl <;> simp [covers] <;> omega
  intro k t hk
  have hk : (k, t) ∈ ([(2, 1), (0, 2)] : List (Nat × Nat)) := hk
  simp only [List.mem_cons, Prod.mk.injEq, List.not_mem_nil, or_false] at hk
  rcases hk with ⟨rfl, rfl⟩ | ⟨rfl, rfl⟩
  · exact ⟨(tableOf [(0, 11, 14, 29), (0, 11, 18, 19)]).take 0, _, (tableOf [(0, 11, 14, 29), (0, 11, 18, 19)]).drop 1, "java/lang/IndexOutOfBoundsException", rfl, fun w hw => absurd hw List.not_mem_nil, hc _ (List.mem_of_getElem? (i := 0) rfl), by decide, tw_1051, Or.inr nw_813, rfl⟩
  · exact ⟨(tableOf [(0, 11, 14, 29), (0, 11, 18, 19)]).take 1, _, (tableOf [(0, 11, 14, 29), (0, 11, 18, 19)]).drop 2, "java/lang/IllegalArgumentException", rfl, List.forall_mem_cons.mpr ⟨Or.inr ⟨by decide, "java/lang/IndexOutOfBoundsException", tw_1051, List.mem_of_getElem? (i := 1) rfl⟩, fun w hw => absurd hw List.not_mem_nil⟩, hc _ (List.mem_of_getElem? (i := 1) rfl), by decide, tw_884, Or.inr nw_476, rfl⟩
theorem han_39 (G : va_G) (a0 a1 a2 a3 : ClassId) (n0 : Nat) (em mi ic : Nat) (pc : Nat) (h1 : 0 ≤ pc) (h2 : pc < 10) : HanOk (VV G a0 a1 a2 a3 n0) (DD em mi ic) 39 pc := by
  have hc : ∀ x ∈ tableOf [(0, 10, 13, 19)], covers x pc = true := by
    intro x hx
    simp [tableOf] at hx
    rcases hx with rfl <;> simp [covers] <;> omega
  intro k t hk
  have hk : (k, t) ∈ ([(0, 1)] : List (Nat × Nat)) := hk
  simp only [List.mem_cons, Prod.mk.injEq, List.not_mem_nil, or_false] at hk
  rcases hk with ⟨rfl, rfl⟩
  · exact ⟨(tableOf [(0, 10, 13, 19)]).take 0, _, (tableOf [(0, 10, 13, 19)]).drop 1, "java/lang/IllegalArgumentException", rfl, fun w hw => absurd hw List.not_mem_nil, hc _ (List.mem_of_getElem? (i := 0) rfl), by decide, tw_884, Or.inr nw_476, rfl⟩
theorem han_43 (G : va_G) (a0 a1 a2 a3 : ClassId) (n0 : Nat) (em mi ic : Nat) (pc : Nat) (h1 : 0 ≤ pc) (h2 : pc < 17) : HanOk (VV G a0 a1 a2 a3 n0) (DD em mi ic) 43 pc := by
  have hc : ∀ x ∈ tableOf [(0, 17, 20, 19)], covers x pc = true := by
    intro x hx
    simp [tableOf] at hx
    rcases hx with rfl <;> simp [covers] <;> omega
  intro k t hk
  have hk : (k, t) ∈ ([(0, 3)] : List (Nat × Nat)) := hk
  simp only [List.mem_cons, Prod.mk.injEq, List.not_mem_nil, or_false] at hk
  rcases hk with ⟨rfl, rfl⟩
  · exact ⟨(tableOf [(0, 17, 20, 19)]).take 0, _, (tableOf [(0, 17, 20, 19)]).drop 1, "java/lang/IllegalArgumentException", rfl, fun w hw => absurd hw List.not_mem_nil, hc _ (List.mem_of_getElem? (i := 0) rfl), by decide, tw_884, Or.inr nw_476, rfl⟩
theorem han_49 (G : va_G) (a0 a1 a2 a3 : ClassId) (n0 : Nat) (em mi ic : Nat) (pc : Nat) (h1 : 0 ≤ pc) (h2 : pc < 11) : HanOk (VV G a0 a1 a2 a3 n0) (DD em mi ic) 49 pc := by
  have hc : ∀ x ∈ tableOf [(0, 11, 14, 19)], covers x pc = true := by
    intro x hx
    simp [tableOf] at hx
    rcases hx with rfl <;> simp [covers] <;> omega
  intro k t hk
  have hk : (k, t) ∈ ([(0, 1)] : List (Nat × Nat)) := hk
  simp only [List.mem_cons, Prod.mk.injEq, List.not_mem_nil, or_false] at hk
  rcases hk with ⟨rfl, rfl⟩
  · exact ⟨(tableOf [(0, 11, 14, 19)]).take 0, _, (tableOf [(0, 11, 14, 19)]).drop 1, "java/lang/IllegalArgumentException", rfl, fun w hw => absurd hw List.not_mem_nil, hc _ (List.mem_of_getElem? (i := 0) rfl), by decide, tw_884, Or.inr nw_476, rfl⟩
theorem han_51 (G : va_G) (a0 a1 a2 a3 : ClassId) (n0 : Nat) (em mi ic : Nat) (pc : Nat) (h1 : 0 ≤ pc) (h2 : pc < 18) : HanOk (VV G a0 a1 a2 a3 n0) (DD em mi ic) 51 pc := by
  have hc : ∀ x ∈ tableOf [(0, 18, 21, 19)], covers x pc = true := by
    intro x hx
    simp [tableOf] at hx
    rcases hx with rfl <;> simp [covers] <;> omega
  intro k t hk
  have hk : (k, t) ∈ ([(0, 3)] : List (Nat × Nat)) := hk
  simp only [List.mem_cons, Prod.mk.injEq, List.not_mem_nil, or_false] at hk
  rcases hk with ⟨rfl, rfl⟩
  · exact ⟨(tableOf [(0, 18, 21, 19)]).take 0, _, (tableOf [(0, 18, 21, 19)]).drop 1, "java/lang/IllegalArgumentException", rfl, fun w hw => absurd hw List.not_mem_nil, hc _ (List.mem_of_getElem? (i := 0) rfl), by decide, tw_884, Or.inr nw_476, rfl⟩
theorem lsw_100_45 (G : va_G) (a0 a1 a2 a3 : ClassId) (n0 : Nat) (em mi ic : Nat) : ∀ x : Int, jmp (DD em mi ic) 100 45 (lsw [(0, 27), (1, 32)] x [3, 4] 5) (Op.lookupswitch.offset [(0, 27), (1, 32)] 37 x) := by
  intro x
  simp only [lsw, Op.lookupswitch.offset]
  by_cases h0 : x = 0
  · subst h0; rfl
  by_cases h1 : x = 1
  · subst h1; rfl
  simp only [if_neg h0, if_neg h1]
  first | rfl | (simp only [if_neg (Ne.symm h0), if_neg (Ne.symm h1)]; rfl) | (simp [h0, Ne.symm h0, h1, Ne.symm h1]; rfl)
theorem lsw_134_45 (G : va_G) (a0 a1 a2 a3 : ClassId) (n0 : Nat) (em mi ic : Nat) : ∀ x : Int, jmp (DD em mi ic) 134 45 (lsw [(0, 27), (1, 32)] x [3, 4] 5) (Op.lookupswitch.offset [(0, 27), (1, 32)] 37 x) := by
  intro x
  simp only [lsw, Op.lookupswitch.offset]
  by_cases h0 : x = 0
  · subst h0; rfl
  by_cases h1 : x = 1
  · subst h1; rfl
  simp only [if_neg h0, if_neg h1]
  first | rfl | (simp only [if_neg (Ne.symm h0), if_neg (Ne.symm h1)]; rfl) | (simp [h0, Ne.symm h0, h1, Ne.symm h1]; rfl)
