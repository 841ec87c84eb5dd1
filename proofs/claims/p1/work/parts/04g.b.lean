theorem nmh_0 : "Twelvehundred" ≠ "java/lang/invoke/MethodHandle" := by decide +kernel
theorem nvh_0 : "Twelvehundred" ≠ "java/lang/invoke/VarHandle" := by decide +kernel
theorem cp_0 : (parseMethodDescriptor "()V").map (fun d => d.parameters.length) = some 0 := by decide +kernel
theorem ce_1 (G : va_G) (a0 a1 a2 a3 : ClassId) (n0 : Nat) (em mi ic : Nat) : CalleeOk (VV G a0 a1 a2 a3 n0) (DD em mi ic) 1 0 := oc_ce (mq_1 em mi ic) tw_90 tw_47 nmh_0 nvh_0 cp_0 (Nat.le_of_ble_eq_true rfl)
theorem nmh_1 : "TwelvehundredModel" ≠ "java/lang/invoke/MethodHandle" := by decide +kernel
theorem nvh_1 : "TwelvehundredModel" ≠ "java/lang/invoke/VarHandle" := by decide +kernel
theorem ce_2 (G : va_G) (a0 a1 a2 a3 : ClassId) (n0 : Nat) (em mi ic : Nat) : CalleeOk (VV G a0 a1 a2 a3 n0) (DD em mi ic) 2 0 := oc_ce (mq_2 em mi ic) tw_1278 tw_57 nmh_1 nvh_1 cp_0 (Nat.le_of_ble_eq_true rfl)
theorem nmh_2 : "TwelvehundredLaw$Out" ≠ "java/lang/invoke/MethodHandle" := by decide +kernel
theorem nvh_2 : "TwelvehundredLaw$Out" ≠ "java/lang/invoke/VarHandle" := by decide +kernel
theorem ce_3 (G : va_G) (a0 a1 a2 a3 : ClassId) (n0 : Nat) (em mi ic : Nat) : CalleeOk (VV G a0 a1 a2 a3 n0) (DD em mi ic) 3 0 := oc_ce (mq_3 em mi ic) tw_875 tw_58 nmh_2 nvh_2 cp_0 (Nat.le_of_ble_eq_true rfl)
theorem nmh_3 : "TwelvehundredLaw" ≠ "java/lang/invoke/MethodHandle" := by decide +kernel
theorem nvh_3 : "TwelvehundredLaw" ≠ "java/lang/invoke/VarHandle" := by decide +kernel
theorem cp_1 : (parseMethodDescriptor "(LTwelvehundred;IILTwelvehundredLaw$Out;)I").map (fun d => d.parameters.length) = some 4 := by decide +kernel
theorem ce_4 (G : va_G) (a0 a1 a2 a3 : ClassId) (n0 : Nat) (em mi ic : Nat) : CalleeOk (VV G a0 a1 a2 a3 n0) (DD em mi ic) 4 4 := ⟨tw_883, tw_46, nmh_3, nvh_3, cp_1, Nat.le_of_ble_eq_true rfl⟩
theorem cp_2 : (parseMethodDescriptor "(II)I").map (fun d => d.parameters.length) = some 2 := by decide +kernel
theorem ce_5 (G : va_G) (a0 a1 a2 a3 : ClassId) (n0 : Nat) (em mi ic : Nat) : CalleeOk (VV G a0 a1 a2 a3 n0) (DD em mi ic) 5 2 := oc_ce (mq_5 em mi ic) tw_1344 tw_57 nmh_1 nvh_1 cp_2 (Nat.le_of_ble_eq_true rfl)
theorem cp_3 : (parseMethodDescriptor "()I").map (fun d => d.parameters.length) = some 0 := by decide +kernel
theorem ce_6 (G : va_G) (a0 a1 a2 a3 : ClassId) (n0 : Nat) (em mi ic : Nat) : CalleeOk (VV G a0 a1 a2 a3 n0) (DD em mi ic) 6 0 := oc_ce (mq_6 em mi ic) tw_1340 tw_57 nmh_1 nvh_1 cp_3 (Nat.le_of_ble_eq_true rfl)
theorem ce_7 (G : va_G) (a0 a1 a2 a3 : ClassId) (n0 : Nat) (em mi ic : Nat) : CalleeOk (VV G a0 a1 a2 a3 n0) (DD em mi ic) 7 4 := ⟨tw_984, tw_46, nmh_3, nvh_3, cp_1, Nat.le_of_ble_eq_true rfl⟩
theorem ce_8 (G : va_G) (a0 a1 a2 a3 : ClassId) (n0 : Nat) (em mi ic : Nat) : CalleeOk (VV G a0 a1 a2 a3 n0) (DD em mi ic) 8 2 := oc_ce (mq_8 em mi ic) tw_1357 tw_57 nmh_1 nvh_1 cp_2 (Nat.le_of_ble_eq_true rfl)
theorem ce_9 (G : va_G) (a0 a1 a2 a3 : ClassId) (n0 : Nat) (em mi ic : Nat) : CalleeOk (VV G a0 a1 a2 a3 n0) (DD em mi ic) 9 4 := ⟨tw_1050, tw_46, nmh_3, nvh_3, cp_1, Nat.le_of_ble_eq_true rfl⟩
theorem ce_10 (G : va_G) (a0 a1 a2 a3 : ClassId) (n0 : Nat) (em mi ic : Nat) : CalleeOk (VV G a0 a1 a2 a3 n0) (DD em mi ic) 10 2 := oc_ce (mq_10 em mi ic) tw_1361 tw_57 nmh_1 nvh_1 cp_2 (Nat.le_of_ble_eq_true rfl)
theorem cp_4 : (parseMethodDescriptor "(LTwelvehundred;IIZLTwelvehundredLaw$Out;)I").map (fun d => d.parameters.length) = some 5 := by decide +kernel
theorem ce_11 (G : va_G) (a0 a1 a2 a3 : ClassId) (n0 : Nat) (em mi ic : Nat) : CalleeOk (VV G a0 a1 a2 a3 n0) (DD em mi ic) 11 5 := ⟨tw_1059, tw_46, nmh_3, nvh_3, cp_4, Nat.le_of_ble_eq_true rfl⟩
theorem cp_5 : (parseMethodDescriptor "(IIZ)I").map (fun d => d.parameters.length) = some 3 := by decide +kernel
theorem ce_12 (G : va_G) (a0 a1 a2 a3 : ClassId) (n0 : Nat) (em mi ic : Nat) : CalleeOk (VV G a0 a1 a2 a3 n0) (DD em mi ic) 12 3 := oc_ce (mq_12 em mi ic) tw_1371 tw_57 nmh_1 nvh_1 cp_5 (Nat.le_of_ble_eq_true rfl)
theorem ce_13 (G : va_G) (a0 a1 a2 a3 : ClassId) (n0 : Nat) (em mi ic : Nat) : CalleeOk (VV G a0 a1 a2 a3 n0) (DD em mi ic) 13 4 := ⟨tw_1100, tw_46, nmh_3, nvh_3, cp_1, Nat.le_of_ble_eq_true rfl⟩
theorem ce_14 (G : va_G) (a0 a1 a2 a3 : ClassId) (n0 : Nat) (em mi ic : Nat) : CalleeOk (VV G a0 a1 a2 a3 n0) (DD em mi ic) 14 2 := oc_ce (mq_14 em mi ic) tw_1402 tw_57 nmh_1 nvh_1 cp_2 (Nat.le_of_ble_eq_true rfl)
theorem cp_6 : (parseMethodDescriptor "(LTwelvehundred;ILTwelvehundredLaw$Out;)I").map (fun d => d.parameters.length) = some 3 := by decide +kernel
theorem ce_15 (G : va_G) (a0 a1 a2 a3 : ClassId) (n0 : Nat) (em mi ic : Nat) : CalleeOk (VV G a0 a1 a2 a3 n0) (DD em mi ic) 15 3 := ⟨tw_1108, tw_46, nmh_3, nvh_3, cp_6, Nat.le_of_ble_eq_true rfl⟩
theorem cp_7 : (parseMethodDescriptor "(I)I").map (fun d => d.parameters.length) = some 1 := by decide +kernel
theorem ce_16 (G : va_G) (a0 a1 a2 a3 : ClassId) (n0 : Nat) (em mi ic : Nat) : CalleeOk (VV G a0 a1 a2 a3 n0) (DD em mi ic) 16 1 := oc_ce (mq_16 em mi ic) tw_1406 tw_57 nmh_1 nvh_1 cp_7 (Nat.le_of_ble_eq_true rfl)
theorem ce_17 (G : va_G) (a0 a1 a2 a3 : ClassId) (n0 : Nat) (em mi ic : Nat) : CalleeOk (VV G a0 a1 a2 a3 n0) (DD em mi ic) 17 3 := ⟨tw_1116, tw_46, nmh_3, nvh_3, cp_6, Nat.le_of_ble_eq_true rfl⟩
theorem ce_18 (G : va_G) (a0 a1 a2 a3 : ClassId) (n0 : Nat) (em mi ic : Nat) : CalleeOk (VV G a0 a1 a2 a3 n0) (DD em mi ic) 18 1 := oc_ce (mq_18 em mi ic) tw_1410 tw_57 nmh_1 nvh_1 cp_7 (Nat.le_of_ble_eq_true rfl)
theorem ce_19 (G : va_G) (a0 a1 a2 a3 : ClassId) (n0 : Nat) (em mi ic : Nat) : CalleeOk (VV G a0 a1 a2 a3 n0) (DD em mi ic) 19 3 := ⟨tw_1124, tw_46, nmh_3, nvh_3, cp_6, Nat.le_of_ble_eq_true rfl⟩
theorem ce_20 (G : va_G) (a0 a1 a2 a3 : ClassId) (n0 : Nat) (em mi ic : Nat) : CalleeOk (VV G a0 a1 a2 a3 n0) (DD em mi ic) 20 1 := oc_ce (mq_20 em mi ic) tw_1418 tw_57 nmh_1 nvh_1 cp_7 (Nat.le_of_ble_eq_true rfl)
theorem ce_21 (G : va_G) (a0 a1 a2 a3 : ClassId) (n0 : Nat) (em mi ic : Nat) : CalleeOk (VV G a0 a1 a2 a3 n0) (DD em mi ic) 21 4 := ⟨tw_1148, tw_46, nmh_3, nvh_3, cp_1, Nat.le_of_ble_eq_true rfl⟩
theorem ce_22 (G : va_G) (a0 a1 a2 a3 : ClassId) (n0 : Nat) (em mi ic : Nat) : CalleeOk (VV G a0 a1 a2 a3 n0) (DD em mi ic) 22 2 := oc_ce (mq_22 em mi ic) tw_1474 tw_57 nmh_1 nvh_1 cp_2 (Nat.le_of_ble_eq_true rfl)
theorem ce_23 (G : va_G) (a0 a1 a2 a3 : ClassId) (n0 : Nat) (em mi ic : Nat) : CalleeOk (VV G a0 a1 a2 a3 n0) (DD em mi ic) 23 3 := ⟨tw_1176, tw_46, nmh_3, nvh_3, cp_6, Nat.le_of_ble_eq_true rfl⟩
theorem ce_24 (G : va_G) (a0 a1 a2 a3 : ClassId) (n0 : Nat) (em mi ic : Nat) : CalleeOk (VV G a0 a1 a2 a3 n0) (DD em mi ic) 24 1 := oc_ce (mq_24 em mi ic) tw_1478 tw_57 nmh_1 nvh_1 cp_7 (Nat.le_of_ble_eq_true rfl)
theorem ce_25 (G : va_G) (a0 a1 a2 a3 : ClassId) (n0 : Nat) (em mi ic : Nat) : CalleeOk (VV G a0 a1 a2 a3 n0) (DD em mi ic) 25 3 := ⟨tw_1193, tw_46, nmh_3, nvh_3, cp_6, Nat.le_of_ble_eq_true rfl⟩
theorem ce_26 (G : va_G) (a0 a1 a2 a3 : ClassId) (n0 : Nat) (em mi ic : Nat) : CalleeOk (VV G a0 a1 a2 a3 n0) (DD em mi ic) 26 1 := oc_ce (mq_26 em mi ic) tw_1482 tw_57 nmh_1 nvh_1 cp_7 (Nat.le_of_ble_eq_true rfl)
theorem cp_8 : (parseMethodDescriptor "(LTwelvehundred;IZLTwelvehundredLaw$Out;)I").map (fun d => d.parameters.length) = some 4 := by decide +kernel
theorem ce_27 (G : va_G) (a0 a1 a2 a3 : ClassId) (n0 : Nat) (em mi ic : Nat) : CalleeOk (VV G a0 a1 a2 a3 n0) (DD em mi ic) 27 4 := ⟨tw_1226, tw_46, nmh_3, nvh_3, cp_8, Nat.le_of_ble_eq_true rfl⟩
theorem cp_9 : (parseMethodDescriptor "(IZ)I").map (fun d => d.parameters.length) = some 2 := by decide +kernel
theorem ce_28 (G : va_G) (a0 a1 a2 a3 : ClassId) (n0 : Nat) (em mi ic : Nat) : CalleeOk (VV G a0 a1 a2 a3 n0) (DD em mi ic) 28 2 := oc_ce (mq_28 em mi ic) tw_1510 tw_57 nmh_1 nvh_1 cp_9 (Nat.le_of_ble_eq_true rfl)
theorem ce_29 (G : va_G) (a0 a1 a2 a3 : ClassId) (n0 : Nat) (em mi ic : Nat) : CalleeOk (VV G a0 a1 a2 a3 n0) (DD em mi ic) 29 0 := oc_ce (mq_29 em mi ic) tw_281 tw_47 nmh_0 nvh_0 cp_3 (Nat.le_of_ble_eq_true rfl)
theorem ce_30 (G : va_G) (a0 a1 a2 a3 : ClassId) (n0 : Nat) (em mi ic : Nat) : CalleeOk (VV G a0 a1 a2 a3 n0) (DD em mi ic) 30 0 := oc_ce (mq_30 em mi ic) tw_1539 tw_57 nmh_1 nvh_1 cp_3 (Nat.le_of_ble_eq_true rfl)
theorem ce_31 (G : va_G) (a0 a1 a2 a3 : ClassId) (n0 : Nat) (em mi ic : Nat) : CalleeOk (VV G a0 a1 a2 a3 n0) (DD em mi ic) 31 4 := ⟨tw_1234, tw_46, nmh_3, nvh_3, cp_1, Nat.le_of_ble_eq_true rfl⟩
theorem ce_32 (G : va_G) (a0 a1 a2 a3 : ClassId) (n0 : Nat) (em mi ic : Nat) : CalleeOk (VV G a0 a1 a2 a3 n0) (DD em mi ic) 32 2 := oc_ce (mq_32 em mi ic) tw_1543 tw_57 nmh_1 nvh_1 cp_2 (Nat.le_of_ble_eq_true rfl)
theorem ce_33 (G : va_G) (a0 a1 a2 a3 : ClassId) (n0 : Nat) (em mi ic : Nat) : CalleeOk (VV G a0 a1 a2 a3 n0) (DD em mi ic) 33 4 := ⟨tw_1238, tw_46, nmh_3, nvh_3, cp_1, Nat.le_of_ble_eq_true rfl⟩
theorem ce_34 (G : va_G) (a0 a1 a2 a3 : ClassId) (n0 : Nat) (em mi ic : Nat) : CalleeOk (VV G a0 a1 a2 a3 n0) (DD em mi ic) 34 2 := oc_ce (mq_34 em mi ic) tw_1559 tw_57 nmh_1 nvh_1 cp_2 (Nat.le_of_ble_eq_true rfl)
theorem ce_35 (G : va_G) (a0 a1 a2 a3 : ClassId) (n0 : Nat) (em mi ic : Nat) : CalleeOk (VV G a0 a1 a2 a3 n0) (DD em mi ic) 35 4 := ⟨tw_1242, tw_46, nmh_3, nvh_3, cp_1, Nat.le_of_ble_eq_true rfl⟩
theorem ce_36 (G : va_G) (a0 a1 a2 a3 : ClassId) (n0 : Nat) (em mi ic : Nat) : CalleeOk (VV G a0 a1 a2 a3 n0) (DD em mi ic) 36 2 := oc_ce (mq_36 em mi ic) tw_1595 tw_57 nmh_1 nvh_1 cp_2 (Nat.le_of_ble_eq_true rfl)
theorem ce_37 (G : va_G) (a0 a1 a2 a3 : ClassId) (n0 : Nat) (em mi ic : Nat) : CalleeOk (VV G a0 a1 a2 a3 n0) (DD em mi ic) 37 4 := ⟨tw_1246, tw_46, nmh_3, nvh_3, cp_1, Nat.le_of_ble_eq_true rfl⟩
theorem ce_38 (G : va_G) (a0 a1 a2 a3 : ClassId) (n0 : Nat) (em mi ic : Nat) : CalleeOk (VV G a0 a1 a2 a3 n0) (DD em mi ic) 38 2 := oc_ce (mq_38 em mi ic) tw_1611 tw_57 nmh_1 nvh_1 cp_2 (Nat.le_of_ble_eq_true rfl)
theorem ce_39 (G : va_G) (a0 a1 a2 a3 : ClassId) (n0 : Nat) (em mi ic : Nat) : CalleeOk (VV G a0 a1 a2 a3 n0) (DD em mi ic) 39 3 := ⟨tw_1250, tw_46, nmh_3, nvh_3, cp_6, Nat.le_of_ble_eq_true rfl⟩
theorem ce_40 (G : va_G) (a0 a1 a2 a3 : ClassId) (n0 : Nat) (em mi ic : Nat) : CalleeOk (VV G a0 a1 a2 a3 n0) (DD em mi ic) 40 1 := oc_ce (mq_40 em mi ic) tw_1615 tw_57 nmh_1 nvh_1 cp_7 (Nat.le_of_ble_eq_true rfl)
theorem cp_10 : (parseMethodDescriptor "()Ljava/lang/String;").map (fun d => d.parameters.length) = some 0 := by decide +kernel
theorem ce_41 (G : va_G) (a0 a1 a2 a3 : ClassId) (n0 : Nat) (em mi ic : Nat) : CalleeOk (VV G a0 a1 a2 a3 n0) (DD em mi ic) 41 0 := oc_ce (mq_41 em mi ic) tw_285 tw_47 nmh_0 nvh_0 cp_10 (Nat.le_of_ble_eq_true rfl)
theorem ce_42 (G : va_G) (a0 a1 a2 a3 : ClassId) (n0 : Nat) (em mi ic : Nat) : CalleeOk (VV G a0 a1 a2 a3 n0) (DD em mi ic) 42 0 := oc_ce (mq_42 em mi ic) tw_1631 tw_57 nmh_1 nvh_1 cp_10 (Nat.le_of_ble_eq_true rfl)
theorem nmh_4 : "java/lang/String" ≠ "java/lang/invoke/MethodHandle" := by decide +kernel
theorem nvh_4 : "java/lang/String" ≠ "java/lang/invoke/VarHandle" := by decide +kernel
theorem cp_11 : (parseMethodDescriptor "(Ljava/lang/Object;)Z").map (fun d => d.parameters.length) = some 1 := by decide +kernel
theorem ce_43 (G : va_G) (a0 a1 a2 a3 : ClassId) (n0 : Nat) (em mi ic : Nat) : CalleeOk (VV G a0 a1 a2 a3 n0) (DD em mi ic) 43 1 := oc_ce (mq_43 em mi ic) tw_1695 tw_83 nmh_4 nvh_4 cp_11 (Nat.le_of_ble_eq_true rfl)
theorem ce_44 (G : va_G) (a0 a1 a2 a3 : ClassId) (n0 : Nat) (em mi ic : Nat) : CalleeOk (VV G a0 a1 a2 a3 n0) (DD em mi ic) 44 3 := ⟨tw_1254, tw_46, nmh_3, nvh_3, cp_6, Nat.le_of_ble_eq_true rfl⟩
theorem cp_12 : (parseMethodDescriptor "(I)Z").map (fun d => d.parameters.length) = some 1 := by decide +kernel
theorem ce_45 (G : va_G) (a0 a1 a2 a3 : ClassId) (n0 : Nat) (em mi ic : Nat) : CalleeOk (VV G a0 a1 a2 a3 n0) (DD em mi ic) 45 1 := oc_ce (mq_45 em mi ic) tw_1643 tw_57 nmh_1 nvh_1 cp_12 (Nat.le_of_ble_eq_true rfl)
theorem ce_46 (G : va_G) (a0 a1 a2 a3 : ClassId) (n0 : Nat) (em mi ic : Nat) : CalleeOk (VV G a0 a1 a2 a3 n0) (DD em mi ic) 46 0 := oc_ce (mq_46 em mi ic) tw_643 tw_47 nmh_0 nvh_0 cp_3 (Nat.le_of_ble_eq_true rfl)
theorem ce_47 (G : va_G) (a0 a1 a2 a3 : ClassId) (n0 : Nat) (em mi ic : Nat) : CalleeOk (VV G a0 a1 a2 a3 n0) (DD em mi ic) 47 0 := oc_ce (mq_47 em mi ic) tw_1647 tw_57 nmh_1 nvh_1 cp_3 (Nat.le_of_ble_eq_true rfl)
theorem ce_48 (G : va_G) (a0 a1 a2 a3 : ClassId) (n0 : Nat) (em mi ic : Nat) : CalleeOk (VV G a0 a1 a2 a3 n0) (DD em mi ic) 48 1 := oc_ce (mq_48 em mi ic) tw_680 tw_47 nmh_0 nvh_0 cp_12 (Nat.le_of_ble_eq_true rfl)
theorem ce_49 (G : va_G) (a0 a1 a2 a3 : ClassId) (n0 : Nat) (em mi ic : Nat) : CalleeOk (VV G a0 a1 a2 a3 n0) (DD em mi ic) 49 1 := oc_ce (mq_49 em mi ic) tw_1651 tw_57 nmh_1 nvh_1 cp_12 (Nat.le_of_ble_eq_true rfl)
theorem ce_50 (G : va_G) (a0 a1 a2 a3 : ClassId) (n0 : Nat) (em mi ic : Nat) : CalleeOk (VV G a0 a1 a2 a3 n0) (DD em mi ic) 50 4 := ⟨tw_1263, tw_46, nmh_3, nvh_3, cp_1, Nat.le_of_ble_eq_true rfl⟩
theorem ce_51 (G : va_G) (a0 a1 a2 a3 : ClassId) (n0 : Nat) (em mi ic : Nat) : CalleeOk (VV G a0 a1 a2 a3 n0) (DD em mi ic) 51 2 := oc_ce (mq_51 em mi ic) tw_1660 tw_57 nmh_1 nvh_1 cp_2 (Nat.le_of_ble_eq_true rfl)
theorem ce_52 (G : va_G) (a0 a1 a2 a3 : ClassId) (n0 : Nat) (em mi ic : Nat) : CalleeOk (VV G a0 a1 a2 a3 n0) (DD em mi ic) 52 4 := ⟨tw_1267, tw_46, nmh_3, nvh_3, cp_1, Nat.le_of_ble_eq_true rfl⟩
theorem cp_13 : (parseMethodDescriptor "(II)Z").map (fun d => d.parameters.length) = some 2 := by decide +kernel
theorem ce_53 (G : va_G) (a0 a1 a2 a3 : ClassId) (n0 : Nat) (em mi ic : Nat) : CalleeOk (VV G a0 a1 a2 a3 n0) (DD em mi ic) 53 2 := oc_ce (mq_53 em mi ic) tw_1668 tw_57 nmh_1 nvh_1 cp_13 (Nat.le_of_ble_eq_true rfl)
theorem cp_14 : (parseMethodDescriptor "()Z").map (fun d => d.parameters.length) = some 0 := by decide +kernel
theorem ce_54 (G : va_G) (a0 a1 a2 a3 : ClassId) (n0 : Nat) (em mi ic : Nat) : CalleeOk (VV G a0 a1 a2 a3 n0) (DD em mi ic) 54 0 := oc_ce (mq_54 em mi ic) tw_745 tw_47 nmh_0 nvh_0 cp_14 (Nat.le_of_ble_eq_true rfl)
theorem ce_55 (G : va_G) (a0 a1 a2 a3 : ClassId) (n0 : Nat) (em mi ic : Nat) : CalleeOk (VV G a0 a1 a2 a3 n0) (DD em mi ic) 55 0 := oc_ce (mq_55 em mi ic) tw_1672 tw_57 nmh_1 nvh_1 cp_14 (Nat.le_of_ble_eq_true rfl)
theorem cp_15 : (parseMethodDescriptor "()J").map (fun d => d.parameters.length) = some 0 := by decide +kernel
theorem ce_56 (G : va_G) (a0 a1 a2 a3 : ClassId) (n0 : Nat) (em mi ic : Nat) : CalleeOk (VV G a0 a1 a2 a3 n0) (DD em mi ic) 56 0 := oc_ce (mq_56 em mi ic) tw_789 tw_47 nmh_0 nvh_0 cp_15 (Nat.le_of_ble_eq_true rfl)
theorem ce_57 (G : va_G) (a0 a1 a2 a3 : ClassId) (n0 : Nat) (em mi ic : Nat) : CalleeOk (VV G a0 a1 a2 a3 n0) (DD em mi ic) 57 0 := oc_ce (mq_57 em mi ic) tw_1684 tw_57 nmh_1 nvh_1 cp_15 (Nat.le_of_ble_eq_true rfl)
theorem nmh_5 : "Twelvehundred$River" ≠ "java/lang/invoke/MethodHandle" := by decide +kernel
theorem nvh_5 : "Twelvehundred$River" ≠ "java/lang/invoke/VarHandle" := by decide +kernel
theorem ce_58 (G : va_G) (a0 a1 a2 a3 : ClassId) (n0 : Nat) (em mi ic : Nat) : CalleeOk (VV G a0 a1 a2 a3 n0) (DD em mi ic) 58 0 := oc_ce (mq_58 em mi ic) tw_98 tw_48 nmh_5 nvh_5 cp_0 (Nat.le_of_ble_eq_true rfl)
theorem nmh_6 : "java/util/ArrayList" ≠ "java/lang/invoke/MethodHandle" := by decide +kernel
theorem nvh_6 : "java/util/ArrayList" ≠ "java/lang/invoke/VarHandle" := by decide +kernel
theorem ce_59 (G : va_G) (a0 a1 a2 a3 : ClassId) (n0 : Nat) (em mi ic : Nat) : CalleeOk (VV G a0 a1 a2 a3 n0) (DD em mi ic) 59 0 := oc_ce (mq_59 em mi ic) tw_117 tw_51 nmh_6 nvh_6 cp_0 (Nat.le_of_ble_eq_true rfl)
theorem nmh_7 : "Twelvehundred$Placing" ≠ "java/lang/invoke/MethodHandle" := by decide +kernel
theorem nvh_7 : "Twelvehundred$Placing" ≠ "java/lang/invoke/VarHandle" := by decide +kernel
theorem cp_16 : (parseMethodDescriptor "(Ljava/util/ArrayList;Ljava/util/ArrayList;)V").map (fun d => d.parameters.length) = some 2 := by decide +kernel
theorem ce_60 (G : va_G) (a0 a1 a2 a3 : ClassId) (n0 : Nat) (em mi ic : Nat) : CalleeOk (VV G a0 a1 a2 a3 n0) (DD em mi ic) 60 2 := oc_ce (mq_60 em mi ic) tw_146 tw_52 nmh_7 nvh_7 cp_16 (Nat.le_of_ble_eq_true rfl)
theorem nmh_8 : "Twelvehundred$Rescue" ≠ "java/lang/invoke/MethodHandle" := by decide +kernel
theorem nvh_8 : "Twelvehundred$Rescue" ≠ "java/lang/invoke/VarHandle" := by decide +kernel
theorem cp_17 : (parseMethodDescriptor "(LTwelvehundred$River;Ljava/util/ArrayList;)V").map (fun d => d.parameters.length) = some 2 := by decide +kernel
theorem ce_61 (G : va_G) (a0 a1 a2 a3 : ClassId) (n0 : Nat) (em mi ic : Nat) : CalleeOk (VV G a0 a1 a2 a3 n0) (DD em mi ic) 61 2 := oc_ce (mq_61 em mi ic) tw_164 tw_53 nmh_8 nvh_8 cp_17 (Nat.le_of_ble_eq_true rfl)
theorem nmh_9 : "Twelvehundred$Asking" ≠ "java/lang/invoke/MethodHandle" := by decide +kernel
theorem nvh_9 : "Twelvehundred$Asking" ≠ "java/lang/invoke/VarHandle" := by decide +kernel
theorem cp_18 : (parseMethodDescriptor "(Ljava/util/ArrayList;Ljava/util/ArrayList;LTwelvehundred$Placing;)V").map (fun d => d.parameters.length) = some 3 := by decide +kernel
theorem ce_62 (G : va_G) (a0 a1 a2 a3 : ClassId) (n0 : Nat) (em mi ic : Nat) : CalleeOk (VV G a0 a1 a2 a3 n0) (DD em mi ic) 62 3 := oc_ce (mq_62 em mi ic) tw_185 tw_54 nmh_9 nvh_9 cp_18 (Nat.le_of_ble_eq_true rfl)
theorem nmh_10 : "Twelvehundred$Larder" ≠ "java/lang/invoke/MethodHandle" := by decide +kernel
theorem nvh_10 : "Twelvehundred$Larder" ≠ "java/lang/invoke/VarHandle" := by decide +kernel
theorem ce_63 (G : va_G) (a0 a1 a2 a3 : ClassId) (n0 : Nat) (em mi ic : Nat) : CalleeOk (VV G a0 a1 a2 a3 n0) (DD em mi ic) 63 0 := oc_ce (mq_63 em mi ic) tw_209 tw_55 nmh_10 nvh_10 cp_0 (Nat.le_of_ble_eq_true rfl)
theorem nmh_11 : "Twelvehundred$Bulletin" ≠ "java/lang/invoke/MethodHandle" := by decide +kernel
theorem nvh_11 : "Twelvehundred$Bulletin" ≠ "java/lang/invoke/VarHandle" := by decide +kernel
theorem ce_64 (G : va_G) (a0 a1 a2 a3 : ClassId) (n0 : Nat) (em mi ic : Nat) : CalleeOk (VV G a0 a1 a2 a3 n0) (DD em mi ic) 64 0 := oc_ce (mq_64 em mi ic) tw_234 tw_56 nmh_11 nvh_11 cp_0 (Nat.le_of_ble_eq_true rfl)
theorem ce_65 (G : va_G) (a0 a1 a2 a3 : ClassId) (n0 : Nat) (em mi ic : Nat) : CalleeOk (VV G a0 a1 a2 a3 n0) (DD em mi ic) 65 2 := oc_ce (mq_65 em mi ic) tw_889 tw_47 nmh_0 nvh_0 cp_2 (Nat.le_of_ble_eq_true rfl)
theorem cp_19 : (parseMethodDescriptor "(III)Z").map (fun d => d.parameters.length) = some 3 := by decide +kernel
theorem ce_66 (G : va_G) (a0 a1 a2 a3 : ClassId) (n0 : Nat) (em mi ic : Nat) : CalleeOk (VV G a0 a1 a2 a3 n0) (DD em mi ic) 66 3 := oc_ce (mq_66 em mi ic) tw_1347 tw_57 nmh_1 nvh_1 cp_19 (Nat.le_of_ble_eq_true rfl)
theorem ce_67 (G : va_G) (a0 a1 a2 a3 : ClassId) (n0 : Nat) (em mi ic : Nat) : CalleeOk (VV G a0 a1 a2 a3 n0) (DD em mi ic) 67 1 := oc_ce (mq_67 em mi ic) tw_1351 tw_57 nmh_1 nvh_1 cp_7 (Nat.le_of_ble_eq_true rfl)
theorem ce_68 (G : va_G) (a0 a1 a2 a3 : ClassId) (n0 : Nat) (em mi ic : Nat) : CalleeOk (VV G a0 a1 a2 a3 n0) (DD em mi ic) 68 0 := oc_ce (mq_68 em mi ic) tw_321 tw_51 nmh_6 nvh_6 cp_3 (Nat.le_of_ble_eq_true rfl)
theorem ce_69 (G : va_G) (a0 a1 a2 a3 : ClassId) (n0 : Nat) (em mi ic : Nat) : CalleeOk (VV G a0 a1 a2 a3 n0) (DD em mi ic) 69 1 := oc_ce (mq_69 em mi ic) tw_930 tw_51 nmh_6 nvh_6 cp_11 (Nat.le_of_ble_eq_true rfl)
theorem ce_70 (G : va_G) (a0 a1 a2 a3 : ClassId) (n0 : Nat) (em mi ic : Nat) : CalleeOk (VV G a0 a1 a2 a3 n0) (DD em mi ic) 70 2 := oc_ce (mq_70 em mi ic) tw_988 tw_47 nmh_0 nvh_0 cp_2 (Nat.le_of_ble_eq_true rfl)
theorem ce_71 (G : va_G) (a0 a1 a2 a3 : ClassId) (n0 : Nat) (em mi ic : Nat) : CalleeOk (VV G a0 a1 a2 a3 n0) (DD em mi ic) 71 2 := oc_ce (mq_71 em mi ic) tw_1055 tw_47 nmh_0 nvh_0 cp_2 (Nat.le_of_ble_eq_true rfl)
theorem ce_72 (G : va_G) (a0 a1 a2 a3 : ClassId) (n0 : Nat) (em mi ic : Nat) : CalleeOk (VV G a0 a1 a2 a3 n0) (DD em mi ic) 72 1 := oc_ce (mq_72 em mi ic) tw_1365 tw_57 nmh_1 nvh_1 cp_12 (Nat.le_of_ble_eq_true rfl)
theorem cp_20 : (parseMethodDescriptor "(I)Ljava/lang/Object;").map (fun d => d.parameters.length) = some 1 := by decide +kernel
theorem ce_73 (G : va_G) (a0 a1 a2 a3 : ClassId) (n0 : Nat) (em mi ic : Nat) : CalleeOk (VV G a0 a1 a2 a3 n0) (DD em mi ic) 73 1 := oc_ce (mq_73 em mi ic) tw_325 tw_51 nmh_6 nvh_6 cp_20 (Nat.le_of_ble_eq_true rfl)
theorem ce_74 (G : va_G) (a0 a1 a2 a3 : ClassId) (n0 : Nat) (em mi ic : Nat) : CalleeOk (VV G a0 a1 a2 a3 n0) (DD em mi ic) 74 3 := oc_ce (mq_74 em mi ic) tw_1063 tw_47 nmh_0 nvh_0 cp_5 (Nat.le_of_ble_eq_true rfl)
theorem ce_75 (G : va_G) (a0 a1 a2 a3 : ClassId) (n0 : Nat) (em mi ic : Nat) : CalleeOk (VV G a0 a1 a2 a3 n0) (DD em mi ic) 75 1 := oc_ce (mq_75 em mi ic) tw_1375 tw_57 nmh_1 nvh_1 cp_12 (Nat.le_of_ble_eq_true rfl)
theorem nmh_12 : "TwelvehundredModel$Household" ≠ "java/lang/invoke/MethodHandle" := by decide +kernel
theorem nvh_12 : "TwelvehundredModel$Household" ≠ "java/lang/invoke/VarHandle" := by decide +kernel
theorem ce_76 (G : va_G) (a0 a1 a2 a3 : ClassId) (n0 : Nat) (em mi ic : Nat) : CalleeOk (VV G a0 a1 a2 a3 n0) (DD em mi ic) 76 0 := oc_ce (mq_76 em mi ic) tw_1380 tw_76 nmh_12 nvh_12 cp_0 (Nat.le_of_ble_eq_true rfl)
theorem ce_77 (G : va_G) (a0 a1 a2 a3 : ClassId) (n0 : Nat) (em mi ic : Nat) : CalleeOk (VV G a0 a1 a2 a3 n0) (DD em mi ic) 77 1 := oc_ce (mq_77 em mi ic) tw_1398 tw_57 nmh_1 nvh_1 cp_12 (Nat.le_of_ble_eq_true rfl)
theorem ce_78 (G : va_G) (a0 a1 a2 a3 : ClassId) (n0 : Nat) (em mi ic : Nat) : CalleeOk (VV G a0 a1 a2 a3 n0) (DD em mi ic) 78 2 := oc_ce (mq_78 em mi ic) tw_1104 tw_47 nmh_0 nvh_0 cp_2 (Nat.le_of_ble_eq_true rfl)
theorem ce_79 (G : va_G) (a0 a1 a2 a3 : ClassId) (n0 : Nat) (em mi ic : Nat) : CalleeOk (VV G a0 a1 a2 a3 n0) (DD em mi ic) 79 1 := oc_ce (mq_79 em mi ic) tw_1112 tw_47 nmh_0 nvh_0 cp_7 (Nat.le_of_ble_eq_true rfl)
theorem ce_80 (G : va_G) (a0 a1 a2 a3 : ClassId) (n0 : Nat) (em mi ic : Nat) : CalleeOk (VV G a0 a1 a2 a3 n0) (DD em mi ic) 80 1 := oc_ce (mq_80 em mi ic) tw_1120 tw_47 nmh_0 nvh_0 cp_7 (Nat.le_of_ble_eq_true rfl)
theorem ce_81 (G : va_G) (a0 a1 a2 a3 : ClassId) (n0 : Nat) (em mi ic : Nat) : CalleeOk (VV G a0 a1 a2 a3 n0) (DD em mi ic) 81 1 := oc_ce (mq_81 em mi ic) tw_1414 tw_57 nmh_1 nvh_1 cp_12 (Nat.le_of_ble_eq_true rfl)
theorem ce_82 (G : va_G) (a0 a1 a2 a3 : ClassId) (n0 : Nat) (em mi ic : Nat) : CalleeOk (VV G a0 a1 a2 a3 n0) (DD em mi ic) 82 1 := oc_ce (mq_82 em mi ic) tw_1128 tw_47 nmh_0 nvh_0 cp_7 (Nat.le_of_ble_eq_true rfl)
theorem ce_83 (G : va_G) (a0 a1 a2 a3 : ClassId) (n0 : Nat) (em mi ic : Nat) : CalleeOk (VV G a0 a1 a2 a3 n0) (DD em mi ic) 83 0 := oc_ce (mq_83 em mi ic) tw_1422 tw_57 nmh_1 nvh_1 cp_3 (Nat.le_of_ble_eq_true rfl)
theorem ce_84 (G : va_G) (a0 a1 a2 a3 : ClassId) (n0 : Nat) (em mi ic : Nat) : CalleeOk (VV G a0 a1 a2 a3 n0) (DD em mi ic) 84 2 := oc_ce (mq_84 em mi ic) tw_1152 tw_47 nmh_0 nvh_0 cp_2 (Nat.le_of_ble_eq_true rfl)
theorem ce_85 (G : va_G) (a0 a1 a2 a3 : ClassId) (n0 : Nat) (em mi ic : Nat) : CalleeOk (VV G a0 a1 a2 a3 n0) (DD em mi ic) 85 1 := oc_ce (mq_85 em mi ic) tw_1180 tw_47 nmh_0 nvh_0 cp_7 (Nat.le_of_ble_eq_true rfl)
theorem cp_21 : (parseMethodDescriptor "()Ljava/util/Iterator;").map (fun d => d.parameters.length) = some 0 := by decide +kernel
theorem ce_86 (G : va_G) (a0 a1 a2 a3 : ClassId) (n0 : Nat) (em mi ic : Nat) : CalleeOk (VV G a0 a1 a2 a3 n0) (DD em mi ic) 86 0 := oc_ce (mq_86 em mi ic) tw_1428 tw_51 nmh_6 nvh_6 cp_21 (Nat.le_of_ble_eq_true rfl)
theorem nmh_13 : "java/util/ArrayList$Itr" ≠ "java/lang/invoke/MethodHandle" := by decide +kernel
theorem nvh_13 : "java/util/ArrayList$Itr" ≠ "java/lang/invoke/VarHandle" := by decide +kernel
theorem ce_87 (G : va_G) (a0 a1 a2 a3 : ClassId) (n0 : Nat) (em mi ic : Nat) : CalleeOk (VV G a0 a1 a2 a3 n0) (DD em mi ic) 87 0 := oc_ce (mq_87 em mi ic) tw_1457 tw_77 nmh_13 nvh_13 cp_14 (Nat.le_of_ble_eq_true rfl)
theorem cp_22 : (parseMethodDescriptor "()Ljava/lang/Object;").map (fun d => d.parameters.length) = some 0 := by decide +kernel
theorem ce_88 (G : va_G) (a0 a1 a2 a3 : ClassId) (n0 : Nat) (em mi ic : Nat) : CalleeOk (VV G a0 a1 a2 a3 n0) (DD em mi ic) 88 0 := oc_ce (mq_88 em mi ic) tw_1466 tw_77 nmh_13 nvh_13 cp_22 (Nat.le_of_ble_eq_true rfl)
theorem nmh_14 : "java/lang/Math" ≠ "java/lang/invoke/MethodHandle" := by decide +kernel
theorem nvh_14 : "java/lang/Math" ≠ "java/lang/invoke/VarHandle" := by decide +kernel
theorem ce_89 (G : va_G) (a0 a1 a2 a3 : ClassId) (n0 : Nat) (em mi ic : Nat) : CalleeOk (VV G a0 a1 a2 a3 n0) (DD em mi ic) 89 2 := oc_ce (mq_89 em mi ic) tw_383 tw_66 nmh_14 nvh_14 cp_2 (Nat.le_of_ble_eq_true rfl)
theorem ce_90 (G : va_G) (a0 a1 a2 a3 : ClassId) (n0 : Nat) (em mi ic : Nat) : CalleeOk (VV G a0 a1 a2 a3 n0) (DD em mi ic) 90 1 := oc_ce (mq_90 em mi ic) tw_1197 tw_47 nmh_0 nvh_0 cp_7 (Nat.le_of_ble_eq_true rfl)
theorem ce_91 (G : va_G) (a0 a1 a2 a3 : ClassId) (n0 : Nat) (em mi ic : Nat) : CalleeOk (VV G a0 a1 a2 a3 n0) (DD em mi ic) 91 1 := oc_ce (mq_91 em mi ic) tw_1485 tw_57 nmh_1 nvh_1 cp_12 (Nat.le_of_ble_eq_true rfl)
theorem nmh_15 : "java/lang/Integer" ≠ "java/lang/invoke/MethodHandle" := by decide +kernel
theorem nvh_15 : "java/lang/Integer" ≠ "java/lang/invoke/VarHandle" := by decide +kernel
theorem cp_23 : (parseMethodDescriptor "(I)Ljava/lang/Integer;").map (fun d => d.parameters.length) = some 1 := by decide +kernel
theorem ce_92 (G : va_G) (a0 a1 a2 a3 : ClassId) (n0 : Nat) (em mi ic : Nat) : CalleeOk (VV G a0 a1 a2 a3 n0) (DD em mi ic) 92 1 := oc_ce (mq_92 em mi ic) tw_1489 tw_73 nmh_15 nvh_15 cp_23 (Nat.le_of_ble_eq_true rfl)
theorem ce_93 (G : va_G) (a0 a1 a2 a3 : ClassId) (n0 : Nat) (em mi ic : Nat) : CalleeOk (VV G a0 a1 a2 a3 n0) (DD em mi ic) 93 2 := oc_ce (mq_93 em mi ic) tw_1230 tw_47 nmh_0 nvh_0 cp_9 (Nat.le_of_ble_eq_true rfl)
theorem ce_94 (G : va_G) (a0 a1 a2 a3 : ClassId) (n0 : Nat) (em mi ic : Nat) : CalleeOk (VV G a0 a1 a2 a3 n0) (DD em mi ic) 94 0 := oc_ce (mq_94 em mi ic) tw_1514 tw_57 nmh_1 nvh_1 cp_3 (Nat.le_of_ble_eq_true rfl)
theorem ce_95 (G : va_G) (a0 a1 a2 a3 : ClassId) (n0 : Nat) (em mi ic : Nat) : CalleeOk (VV G a0 a1 a2 a3 n0) (DD em mi ic) 95 2 := oc_ce (mq_95 em mi ic) tw_810 tw_47 nmh_0 nvh_0 cp_2 (Nat.le_of_ble_eq_true rfl)
theorem ce_96 (G : va_G) (a0 a1 a2 a3 : ClassId) (n0 : Nat) (em mi ic : Nat) : CalleeOk (VV G a0 a1 a2 a3 n0) (DD em mi ic) 96 2 := oc_ce (mq_96 em mi ic) tw_1547 tw_57 nmh_1 nvh_1 cp_2 (Nat.le_of_ble_eq_true rfl)
theorem ce_97 (G : va_G) (a0 a1 a2 a3 : ClassId) (n0 : Nat) (em mi ic : Nat) : CalleeOk (VV G a0 a1 a2 a3 n0) (DD em mi ic) 97 2 := oc_ce (mq_97 em mi ic) tw_839 tw_47 nmh_0 nvh_0 cp_2 (Nat.le_of_ble_eq_true rfl)
theorem ce_98 (G : va_G) (a0 a1 a2 a3 : ClassId) (n0 : Nat) (em mi ic : Nat) : CalleeOk (VV G a0 a1 a2 a3 n0) (DD em mi ic) 98 2 := oc_ce (mq_98 em mi ic) tw_1563 tw_57 nmh_1 nvh_1 cp_2 (Nat.le_of_ble_eq_true rfl)
theorem ce_99 (G : va_G) (a0 a1 a2 a3 : ClassId) (n0 : Nat) (em mi ic : Nat) : CalleeOk (VV G a0 a1 a2 a3 n0) (DD em mi ic) 99 2 := oc_ce (mq_99 em mi ic) tw_846 tw_47 nmh_0 nvh_0 cp_2 (Nat.le_of_ble_eq_true rfl)
theorem ce_100 (G : va_G) (a0 a1 a2 a3 : ClassId) (n0 : Nat) (em mi ic : Nat) : CalleeOk (VV G a0 a1 a2 a3 n0) (DD em mi ic) 100 2 := oc_ce (mq_100 em mi ic) tw_1599 tw_57 nmh_1 nvh_1 cp_2 (Nat.le_of_ble_eq_true rfl)
theorem ce_101 (G : va_G) (a0 a1 a2 a3 : ClassId) (n0 : Nat) (em mi ic : Nat) : CalleeOk (VV G a0 a1 a2 a3 n0) (DD em mi ic) 101 2 := oc_ce (mq_101 em mi ic) tw_854 tw_47 nmh_0 nvh_0 cp_2 (Nat.le_of_ble_eq_true rfl)
theorem ce_102 (G : va_G) (a0 a1 a2 a3 : ClassId) (n0 : Nat) (em mi ic : Nat) : CalleeOk (VV G a0 a1 a2 a3 n0) (DD em mi ic) 102 1 := oc_ce (mq_102 em mi ic) tw_795 tw_47 nmh_0 nvh_0 cp_7 (Nat.le_of_ble_eq_true rfl)
theorem ce_103 (G : va_G) (a0 a1 a2 a3 : ClassId) (n0 : Nat) (em mi ic : Nat) : CalleeOk (VV G a0 a1 a2 a3 n0) (DD em mi ic) 103 1 := oc_ce (mq_103 em mi ic) tw_1619 tw_57 nmh_1 nvh_1 cp_7 (Nat.le_of_ble_eq_true rfl)
theorem nmh_16 : "java/lang/StringBuilder" ≠ "java/lang/invoke/MethodHandle" := by decide +kernel
theorem nvh_16 : "java/lang/StringBuilder" ≠ "java/lang/invoke/VarHandle" := by decide +kernel
theorem ce_104 (G : va_G) (a0 a1 a2 a3 : ClassId) (n0 : Nat) (em mi ic : Nat) : CalleeOk (VV G a0 a1 a2 a3 n0) (DD em mi ic) 104 0 := oc_ce (mq_104 em mi ic) tw_290 tw_82 nmh_16 nvh_16 cp_0 (Nat.le_of_ble_eq_true rfl)
theorem cp_24 : (parseMethodDescriptor "(LTwelvehundred$Household;)C").map (fun d => d.parameters.length) = some 1 := by decide +kernel
theorem ce_105 (G : va_G) (a0 a1 a2 a3 : ClassId) (n0 : Nat) (em mi ic : Nat) : CalleeOk (VV G a0 a1 a2 a3 n0) (DD em mi ic) 105 1 := oc_ce (mq_105 em mi ic) tw_340 tw_47 nmh_0 nvh_0 cp_24 (Nat.le_of_ble_eq_true rfl)
theorem cp_25 : (parseMethodDescriptor "(C)Ljava/lang/StringBuilder;").map (fun d => d.parameters.length) = some 1 := by decide +kernel
theorem ce_106 (G : va_G) (a0 a1 a2 a3 : ClassId) (n0 : Nat) (em mi ic : Nat) : CalleeOk (VV G a0 a1 a2 a3 n0) (DD em mi ic) 106 1 := oc_ce (mq_106 em mi ic) tw_348 tw_82 nmh_16 nvh_16 cp_25 (Nat.le_of_ble_eq_true rfl)
theorem ce_107 (G : va_G) (a0 a1 a2 a3 : ClassId) (n0 : Nat) (em mi ic : Nat) : CalleeOk (VV G a0 a1 a2 a3 n0) (DD em mi ic) 107 0 := oc_ce (mq_107 em mi ic) tw_441 tw_82 nmh_16 nvh_16 cp_10 (Nat.le_of_ble_eq_true rfl)
theorem ce_108 (G : va_G) (a0 a1 a2 a3 : ClassId) (n0 : Nat) (em mi ic : Nat) : CalleeOk (VV G a0 a1 a2 a3 n0) (DD em mi ic) 108 0 := oc_ce (mq_108 em mi ic) tw_1635 tw_57 nmh_1 nvh_1 cp_10 (Nat.le_of_ble_eq_true rfl)
theorem nmh_17 : "java/lang/StringLatin1" ≠ "java/lang/invoke/MethodHandle" := by decide +kernel
theorem nvh_17 : "java/lang/StringLatin1" ≠ "java/lang/invoke/VarHandle" := by decide +kernel
theorem cp_26 : (parseMethodDescriptor "([B[B)Z").map (fun d => d.parameters.length) = some 2 := by decide +kernel
theorem ce_109 (G : va_G) (a0 a1 a2 a3 : ClassId) (n0 : Nat) (em mi ic : Nat) : CalleeOk (VV G a0 a1 a2 a3 n0) (DD em mi ic) 109 2 := oc_ce (mq_109 em mi ic) tw_1699 tw_85 nmh_17 nvh_17 cp_26 (Nat.le_of_ble_eq_true rfl)
theorem ce_110 (G : va_G) (a0 a1 a2 a3 : ClassId) (n0 : Nat) (em mi ic : Nat) : CalleeOk (VV G a0 a1 a2 a3 n0) (DD em mi ic) 110 1 := oc_ce (mq_110 em mi ic) tw_1258 tw_47 nmh_0 nvh_0 cp_12 (Nat.le_of_ble_eq_true rfl)
theorem ce_111 (G : va_G) (a0 a1 a2 a3 : ClassId) (n0 : Nat) (em mi ic : Nat) : CalleeOk (VV G a0 a1 a2 a3 n0) (DD em mi ic) 111 1 := oc_ce (mq_111 em mi ic) tw_1591 tw_57 nmh_1 nvh_1 cp_12 (Nat.le_of_ble_eq_true rfl)
theorem ce_112 (G : va_G) (a0 a1 a2 a3 : ClassId) (n0 : Nat) (em mi ic : Nat) : CalleeOk (VV G a0 a1 a2 a3 n0) (DD em mi ic) 112 0 := oc_ce (mq_112 em mi ic) tw_647 tw_53 nmh_8 nvh_8 cp_3 (Nat.le_of_ble_eq_true rfl)
theorem ce_113 (G : va_G) (a0 a1 a2 a3 : ClassId) (n0 : Nat) (em mi ic : Nat) : CalleeOk (VV G a0 a1 a2 a3 n0) (DD em mi ic) 113 1 := oc_ce (mq_113 em mi ic) tw_676 tw_53 nmh_8 nvh_8 cp_7 (Nat.le_of_ble_eq_true rfl)
theorem ce_114 (G : va_G) (a0 a1 a2 a3 : ClassId) (n0 : Nat) (em mi ic : Nat) : CalleeOk (VV G a0 a1 a2 a3 n0) (DD em mi ic) 114 0 := oc_ce (mq_114 em mi ic) tw_1587 tw_57 nmh_1 nvh_1 cp_3 (Nat.le_of_ble_eq_true rfl)
theorem ce_115 (G : va_G) (a0 a1 a2 a3 : ClassId) (n0 : Nat) (em mi ic : Nat) : CalleeOk (VV G a0 a1 a2 a3 n0) (DD em mi ic) 115 1 := oc_ce (mq_115 em mi ic) tw_1607 tw_57 nmh_1 nvh_1 cp_7 (Nat.le_of_ble_eq_true rfl)
theorem ce_116 (G : va_G) (a0 a1 a2 a3 : ClassId) (n0 : Nat) (em mi ic : Nat) : CalleeOk (VV G a0 a1 a2 a3 n0) (DD em mi ic) 116 1 := oc_ce (mq_116 em mi ic) tw_684 tw_52 nmh_7 nvh_7 cp_12 (Nat.le_of_ble_eq_true rfl)
theorem ce_117 (G : va_G) (a0 a1 a2 a3 : ClassId) (n0 : Nat) (em mi ic : Nat) : CalleeOk (VV G a0 a1 a2 a3 n0) (DD em mi ic) 117 0 := oc_ce (mq_117 em mi ic) tw_699 tw_52 nmh_7 nvh_7 cp_14 (Nat.le_of_ble_eq_true rfl)
theorem ce_118 (G : va_G) (a0 a1 a2 a3 : ClassId) (n0 : Nat) (em mi ic : Nat) : CalleeOk (VV G a0 a1 a2 a3 n0) (DD em mi ic) 118 0 := oc_ce (mq_118 em mi ic) tw_713 tw_52 nmh_7 nvh_7 cp_14 (Nat.le_of_ble_eq_true rfl)
theorem ce_119 (G : va_G) (a0 a1 a2 a3 : ClassId) (n0 : Nat) (em mi ic : Nat) : CalleeOk (VV G a0 a1 a2 a3 n0) (DD em mi ic) 119 0 := oc_ce (mq_119 em mi ic) tw_1571 tw_57 nmh_1 nvh_1 cp_3 (Nat.le_of_ble_eq_true rfl)
theorem ce_120 (G : va_G) (a0 a1 a2 a3 : ClassId) (n0 : Nat) (em mi ic : Nat) : CalleeOk (VV G a0 a1 a2 a3 n0) (DD em mi ic) 120 2 := oc_ce (mq_120 em mi ic) tw_1520 tw_57 nmh_1 nvh_1 cp_13 (Nat.le_of_ble_eq_true rfl)
theorem cp_27 : (parseMethodDescriptor "([I)Z").map (fun d => d.parameters.length) = some 1 := by decide +kernel
theorem ce_121 (G : va_G) (a0 a1 a2 a3 : ClassId) (n0 : Nat) (em mi ic : Nat) : CalleeOk (VV G a0 a1 a2 a3 n0) (DD em mi ic) 121 1 := oc_ce (mq_121 em mi ic) tw_1655 tw_57 nmh_1 nvh_1 cp_27 (Nat.le_of_ble_eq_true rfl)
theorem ce_122 (G : va_G) (a0 a1 a2 a3 : ClassId) (n0 : Nat) (em mi ic : Nat) : CalleeOk (VV G a0 a1 a2 a3 n0) (DD em mi ic) 122 2 := oc_ce (mq_122 em mi ic) tw_862 tw_47 nmh_0 nvh_0 cp_2 (Nat.le_of_ble_eq_true rfl)
theorem ce_123 (G : va_G) (a0 a1 a2 a3 : ClassId) (n0 : Nat) (em mi ic : Nat) : CalleeOk (VV G a0 a1 a2 a3 n0) (DD em mi ic) 123 2 := oc_ce (mq_123 em mi ic) tw_1664 tw_57 nmh_1 nvh_1 cp_2 (Nat.le_of_ble_eq_true rfl)
theorem ce_124 (G : va_G) (a0 a1 a2 a3 : ClassId) (n0 : Nat) (em mi ic : Nat) : CalleeOk (VV G a0 a1 a2 a3 n0) (DD em mi ic) 124 2 := oc_ce (mq_124 em mi ic) tw_1271 tw_47 nmh_0 nvh_0 cp_13 (Nat.le_of_ble_eq_true rfl)
theorem ce_125 (G : va_G) (a0 a1 a2 a3 : ClassId) (n0 : Nat) (em mi ic : Nat) : CalleeOk (VV G a0 a1 a2 a3 n0) (DD em mi ic) 125 2 := oc_ce (mq_125 em mi ic) tw_1528 tw_57 nmh_1 nvh_1 cp_13 (Nat.le_of_ble_eq_true rfl)
theorem ce_126 (G : va_G) (a0 a1 a2 a3 : ClassId) (n0 : Nat) (em mi ic : Nat) : CalleeOk (VV G a0 a1 a2 a3 n0) (DD em mi ic) 126 0 := oc_ce (mq_126 em mi ic) tw_688 tw_52 nmh_7 nvh_7 cp_0 (Nat.le_of_ble_eq_true rfl)
theorem cp_28 : (parseMethodDescriptor "(LTwelvehundred$Placing;LTwelvehundred$Placing;I)Z").map (fun d => d.parameters.length) = some 3 := by decide +kernel
theorem ce_127 (G : va_G) (a0 a1 a2 a3 : ClassId) (n0 : Nat) (em mi ic : Nat) : CalleeOk (VV G a0 a1 a2 a3 n0) (DD em mi ic) 127 3 := oc_ce (mq_127 em mi ic) tw_749 tw_52 nmh_7 nvh_7 cp_28 (Nat.le_of_ble_eq_true rfl)
theorem ce_128 (G : va_G) (a0 a1 a2 a3 : ClassId) (n0 : Nat) (em mi ic : Nat) : CalleeOk (VV G a0 a1 a2 a3 n0) (DD em mi ic) 128 1 := oc_ce (mq_128 em mi ic) tw_759 tw_53 nmh_8 nvh_8 cp_12 (Nat.le_of_ble_eq_true rfl)
theorem ce_129 (G : va_G) (a0 a1 a2 a3 : ClassId) (n0 : Nat) (em mi ic : Nat) : CalleeOk (VV G a0 a1 a2 a3 n0) (DD em mi ic) 129 0 := oc_ce (mq_129 em mi ic) tw_764 tw_55 nmh_10 nvh_10 cp_14 (Nat.le_of_ble_eq_true rfl)
theorem ce_130 (G : va_G) (a0 a1 a2 a3 : ClassId) (n0 : Nat) (em mi ic : Nat) : CalleeOk (VV G a0 a1 a2 a3 n0) (DD em mi ic) 130 0 := oc_ce (mq_130 em mi ic) tw_771 tw_56 nmh_11 nvh_11 cp_3 (Nat.le_of_ble_eq_true rfl)
theorem ce_131 (G : va_G) (a0 a1 a2 a3 : ClassId) (n0 : Nat) (em mi ic : Nat) : CalleeOk (VV G a0 a1 a2 a3 n0) (DD em mi ic) 131 0 := oc_ce (mq_131 em mi ic) tw_1676 tw_57 nmh_1 nvh_1 cp_14 (Nat.le_of_ble_eq_true rfl)
theorem ce_132 (G : va_G) (a0 a1 a2 a3 : ClassId) (n0 : Nat) (em mi ic : Nat) : CalleeOk (VV G a0 a1 a2 a3 n0) (DD em mi ic) 132 1 := oc_ce (mq_132 em mi ic) tw_795 tw_47 nmh_0 nvh_0 cp_7 (Nat.le_of_ble_eq_true rfl)
theorem ce_133 (G : va_G) (a0 a1 a2 a3 : ClassId) (n0 : Nat) (em mi ic : Nat) : CalleeOk (VV G a0 a1 a2 a3 n0) (DD em mi ic) 133 2 := oc_ce (mq_133 em mi ic) tw_810 tw_47 nmh_0 nvh_0 cp_2 (Nat.le_of_ble_eq_true rfl)
theorem ce_134 (G : va_G) (a0 a1 a2 a3 : ClassId) (n0 : Nat) (em mi ic : Nat) : CalleeOk (VV G a0 a1 a2 a3 n0) (DD em mi ic) 134 2 := oc_ce (mq_134 em mi ic) tw_839 tw_47 nmh_0 nvh_0 cp_2 (Nat.le_of_ble_eq_true rfl)
theorem ce_135 (G : va_G) (a0 a1 a2 a3 : ClassId) (n0 : Nat) (em mi ic : Nat) : CalleeOk (VV G a0 a1 a2 a3 n0) (DD em mi ic) 135 2 := oc_ce (mq_135 em mi ic) tw_846 tw_47 nmh_0 nvh_0 cp_2 (Nat.le_of_ble_eq_true rfl)
theorem ce_136 (G : va_G) (a0 a1 a2 a3 : ClassId) (n0 : Nat) (em mi ic : Nat) : CalleeOk (VV G a0 a1 a2 a3 n0) (DD em mi ic) 136 2 := oc_ce (mq_136 em mi ic) tw_854 tw_47 nmh_0 nvh_0 cp_2 (Nat.le_of_ble_eq_true rfl)
theorem ce_137 (G : va_G) (a0 a1 a2 a3 : ClassId) (n0 : Nat) (em mi ic : Nat) : CalleeOk (VV G a0 a1 a2 a3 n0) (DD em mi ic) 137 2 := oc_ce (mq_137 em mi ic) tw_862 tw_47 nmh_0 nvh_0 cp_2 (Nat.le_of_ble_eq_true rfl)
theorem ce_138 (G : va_G) (a0 a1 a2 a3 : ClassId) (n0 : Nat) (em mi ic : Nat) : CalleeOk (VV G a0 a1 a2 a3 n0) (DD em mi ic) 138 0 := oc_ce (mq_138 em mi ic) tw_569 tw_83 nmh_4 nvh_4 cp_3 (Nat.le_of_ble_eq_true rfl)
theorem cp_29 : (parseMethodDescriptor "(Z)I").map (fun d => d.parameters.length) = some 1 := by decide +kernel
theorem ce_139 (G : va_G) (a0 a1 a2 a3 : ClassId) (n0 : Nat) (em mi ic : Nat) : CalleeOk (VV G a0 a1 a2 a3 n0) (DD em mi ic) 139 1 := oc_ce (mq_139 em mi ic) tw_672 tw_47 nmh_0 nvh_0 cp_29 (Nat.le_of_ble_eq_true rfl)
theorem cp_30 : (parseMethodDescriptor "(J)V").map (fun d => d.parameters.length) = some 1 := by decide +kernel
theorem ce_140 (G : va_G) (a0 a1 a2 a3 : ClassId) (n0 : Nat) (em mi ic : Nat) : CalleeOk (VV G a0 a1 a2 a3 n0) (DD em mi ic) 140 1 := oc_ce (mq_140 em mi ic) tw_1689 tw_57 nmh_1 nvh_1 cp_30 (Nat.le_of_ble_eq_true rfl)
theorem nmh_18 : "java/util/AbstractList" ≠ "java/lang/invoke/MethodHandle" := by decide +kernel
theorem nvh_18 : "java/util/AbstractList" ≠ "java/lang/invoke/VarHandle" := by decide +kernel
theorem ce_141 (G : va_G) (a0 a1 a2 a3 : ClassId) (n0 : Nat) (em mi ic : Nat) : CalleeOk (VV G a0 a1 a2 a3 n0) (DD em mi ic) 141 0 := oc_ce (mq_141 em mi ic) tw_120 tw_50 nmh_18 nvh_18 cp_0 (Nat.le_of_ble_eq_true rfl)
theorem ce_142 (G : va_G) (a0 a1 a2 a3 : ClassId) (n0 : Nat) (em mi ic : Nat) : CalleeOk (VV G a0 a1 a2 a3 n0) (DD em mi ic) 142 3 := oc_ce (mq_142 em mi ic) tw_865 tw_47 nmh_0 nvh_0 cp_19 (Nat.le_of_ble_eq_true rfl)
theorem nmh_19 : "Twelvehundred$Street" ≠ "java/lang/invoke/MethodHandle" := by decide +kernel
theorem nvh_19 : "Twelvehundred$Street" ≠ "java/lang/invoke/VarHandle" := by decide +kernel
theorem cp_31 : (parseMethodDescriptor "(III)V").map (fun d => d.parameters.length) = some 3 := by decide +kernel
theorem ce_143 (G : va_G) (a0 a1 a2 a3 : ClassId) (n0 : Nat) (em mi ic : Nat) : CalleeOk (VV G a0 a1 a2 a3 n0) (DD em mi ic) 143 3 := oc_ce (mq_143 em mi ic) tw_910 tw_64 nmh_19 nvh_19 cp_31 (Nat.le_of_ble_eq_true rfl)
theorem cp_32 : (parseMethodDescriptor "(Ljava/lang/Object;[Ljava/lang/Object;I)V").map (fun d => d.parameters.length) = some 3 := by decide +kernel
theorem ce_144 (G : va_G) (a0 a1 a2 a3 : ClassId) (n0 : Nat) (em mi ic : Nat) : CalleeOk (VV G a0 a1 a2 a3 n0) (DD em mi ic) 144 3 := oc_ce (mq_144 em mi ic) tw_934 tw_51 nmh_6 nvh_6 cp_32 (Nat.le_of_ble_eq_true rfl)
theorem nmh_20 : "Twelvehundred$Hall" ≠ "java/lang/invoke/MethodHandle" := by decide +kernel
theorem nvh_20 : "Twelvehundred$Hall" ≠ "java/lang/invoke/VarHandle" := by decide +kernel
theorem ce_145 (G : va_G) (a0 a1 a2 a3 : ClassId) (n0 : Nat) (em mi ic : Nat) : CalleeOk (VV G a0 a1 a2 a3 n0) (DD em mi ic) 145 3 := oc_ce (mq_145 em mi ic) tw_994 tw_69 nmh_20 nvh_20 cp_31 (Nat.le_of_ble_eq_true rfl)
theorem ce_146 (G : va_G) (a0 a1 a2 a3 : ClassId) (n0 : Nat) (em mi ic : Nat) : CalleeOk (VV G a0 a1 a2 a3 n0) (DD em mi ic) 146 0 := oc_ce (mq_146 em mi ic) tw_1016 tw_54 nmh_9 nvh_9 cp_0 (Nat.le_of_ble_eq_true rfl)
theorem nmh_21 : "java/util/Objects" ≠ "java/lang/invoke/MethodHandle" := by decide +kernel
theorem nvh_21 : "java/util/Objects" ≠ "java/lang/invoke/VarHandle" := by decide +kernel
theorem ce_147 (G : va_G) (a0 a1 a2 a3 : ClassId) (n0 : Nat) (em mi ic : Nat) : CalleeOk (VV G a0 a1 a2 a3 n0) (DD em mi ic) 147 2 := oc_ce (mq_147 em mi ic) tw_328 tw_70 nmh_21 nvh_21 cp_2 (Nat.le_of_ble_eq_true rfl)
theorem ce_148 (G : va_G) (a0 a1 a2 a3 : ClassId) (n0 : Nat) (em mi ic : Nat) : CalleeOk (VV G a0 a1 a2 a3 n0) (DD em mi ic) 148 1 := oc_ce (mq_148 em mi ic) tw_335 tw_51 nmh_6 nvh_6 cp_20 (Nat.le_of_ble_eq_true rfl)
theorem nmh_22 : "Twelvehundred$Household" ≠ "java/lang/invoke/MethodHandle" := by decide +kernel
theorem nvh_22 : "Twelvehundred$Household" ≠ "java/lang/invoke/VarHandle" := by decide +kernel
theorem cp_33 : (parseMethodDescriptor "(ILTwelvehundred$Street;IZ)V").map (fun d => d.parameters.length) = some 4 := by decide +kernel
theorem ce_149 (G : va_G) (a0 a1 a2 a3 : ClassId) (n0 : Nat) (em mi ic : Nat) : CalleeOk (VV G a0 a1 a2 a3 n0) (DD em mi ic) 149 4 := oc_ce (mq_149 em mi ic) tw_1069 tw_75 nmh_22 nvh_22 cp_33 (Nat.le_of_ble_eq_true rfl)
theorem cp_34 : (parseMethodDescriptor "(LTwelvehundred$Street;)Z").map (fun d => d.parameters.length) = some 1 := by decide +kernel
theorem ce_150 (G : va_G) (a0 a1 a2 a3 : ClassId) (n0 : Nat) (em mi ic : Nat) : CalleeOk (VV G a0 a1 a2 a3 n0) (DD em mi ic) 150 1 := oc_ce (mq_150 em mi ic) tw_669 tw_48 nmh_5 nvh_5 cp_34 (Nat.le_of_ble_eq_true rfl)
theorem ce_151 (G : va_G) (a0 a1 a2 a3 : ClassId) (n0 : Nat) (em mi ic : Nat) : CalleeOk (VV G a0 a1 a2 a3 n0) (DD em mi ic) 151 0 := oc_ce (mq_151 em mi ic) tw_1134 tw_48 nmh_5 nvh_5 cp_0 (Nat.le_of_ble_eq_true rfl)
theorem ce_152 (G : va_G) (a0 a1 a2 a3 : ClassId) (n0 : Nat) (em mi ic : Nat) : CalleeOk (VV G a0 a1 a2 a3 n0) (DD em mi ic) 152 0 := oc_ce (mq_152 em mi ic) tw_1140 tw_53 nmh_8 nvh_8 cp_3 (Nat.le_of_ble_eq_true rfl)
theorem cp_35 : (parseMethodDescriptor "(I)V").map (fun d => d.parameters.length) = some 1 := by decide +kernel
theorem ce_153 (G : va_G) (a0 a1 a2 a3 : ClassId) (n0 : Nat) (em mi ic : Nat) : CalleeOk (VV G a0 a1 a2 a3 n0) (DD em mi ic) 153 1 := oc_ce (mq_153 em mi ic) tw_1145 tw_55 nmh_10 nvh_10 cp_35 (Nat.le_of_ble_eq_true rfl)
theorem ce_154 (G : va_G) (a0 a1 a2 a3 : ClassId) (n0 : Nat) (em mi ic : Nat) : CalleeOk (VV G a0 a1 a2 a3 n0) (DD em mi ic) 154 2 := oc_ce (mq_154 em mi ic) tw_365 tw_66 nmh_14 nvh_14 cp_2 (Nat.le_of_ble_eq_true rfl)
theorem nmh_23 : "Twelvehundred$Lot" ≠ "java/lang/invoke/MethodHandle" := by decide +kernel
theorem nvh_23 : "Twelvehundred$Lot" ≠ "java/lang/invoke/VarHandle" := by decide +kernel
theorem cp_36 : (parseMethodDescriptor "(II)V").map (fun d => d.parameters.length) = some 2 := by decide +kernel
theorem ce_155 (G : va_G) (a0 a1 a2 a3 : ClassId) (n0 : Nat) (em mi ic : Nat) : CalleeOk (VV G a0 a1 a2 a3 n0) (DD em mi ic) 155 2 := oc_ce (mq_155 em mi ic) tw_1157 tw_78 nmh_23 nvh_23 cp_36 (Nat.le_of_ble_eq_true rfl)
theorem ce_156 (G : va_G) (a0 a1 a2 a3 : ClassId) (n0 : Nat) (em mi ic : Nat) : CalleeOk (VV G a0 a1 a2 a3 n0) (DD em mi ic) 156 1 := oc_ce (mq_156 em mi ic) tw_1185 tw_55 nmh_10 nvh_10 cp_7 (Nat.le_of_ble_eq_true rfl)
theorem cp_37 : (parseMethodDescriptor "(Ljava/util/ArrayList;)V").map (fun d => d.parameters.length) = some 1 := by decide +kernel
theorem ce_157 (G : va_G) (a0 a1 a2 a3 : ClassId) (n0 : Nat) (em mi ic : Nat) : CalleeOk (VV G a0 a1 a2 a3 n0) (DD em mi ic) 157 1 := oc_ce (mq_157 em mi ic) tw_1433 tw_77 nmh_13 nvh_13 cp_37 (Nat.le_of_ble_eq_true rfl)
theorem ce_158 (G : va_G) (a0 a1 a2 a3 : ClassId) (n0 : Nat) (em mi ic : Nat) : CalleeOk (VV G a0 a1 a2 a3 n0) (DD em mi ic) 158 0 := oc_ce (mq_158 em mi ic) tw_1470 tw_77 nmh_13 nvh_13 cp_0 (Nat.le_of_ble_eq_true rfl)
theorem ce_159 (G : va_G) (a0 a1 a2 a3 : ClassId) (n0 : Nat) (em mi ic : Nat) : CalleeOk (VV G a0 a1 a2 a3 n0) (DD em mi ic) 159 1 := oc_ce (mq_159 em mi ic) tw_1200 tw_56 nmh_11 nvh_11 cp_12 (Nat.le_of_ble_eq_true rfl)
theorem nmh_24 : "Twelvehundred$Listed" ≠ "java/lang/invoke/MethodHandle" := by decide +kernel
theorem nvh_24 : "Twelvehundred$Listed" ≠ "java/lang/invoke/VarHandle" := by decide +kernel
theorem ce_160 (G : va_G) (a0 a1 a2 a3 : ClassId) (n0 : Nat) (em mi ic : Nat) : CalleeOk (VV G a0 a1 a2 a3 n0) (DD em mi ic) 160 1 := oc_ce (mq_160 em mi ic) tw_1208 tw_79 nmh_24 nvh_24 cp_35 (Nat.le_of_ble_eq_true rfl)
theorem ce_161 (G : va_G) (a0 a1 a2 a3 : ClassId) (n0 : Nat) (em mi ic : Nat) : CalleeOk (VV G a0 a1 a2 a3 n0) (DD em mi ic) 161 1 := oc_ce (mq_161 em mi ic) tw_1498 tw_73 nmh_15 nvh_15 cp_35 (Nat.le_of_ble_eq_true rfl)
theorem ce_162 (G : va_G) (a0 a1 a2 a3 : ClassId) (n0 : Nat) (em mi ic : Nat) : CalleeOk (VV G a0 a1 a2 a3 n0) (DD em mi ic) 162 1 := oc_ce (mq_162 em mi ic) tw_1517 tw_73 nmh_15 nvh_15 cp_7 (Nat.le_of_ble_eq_true rfl)
theorem ce_163 (G : va_G) (a0 a1 a2 a3 : ClassId) (n0 : Nat) (em mi ic : Nat) : CalleeOk (VV G a0 a1 a2 a3 n0) (DD em mi ic) 163 0 := oc_ce (mq_163 em mi ic) tw_1525 tw_73 nmh_15 nvh_15 cp_3 (Nat.le_of_ble_eq_true rfl)
theorem cp_38 : (parseMethodDescriptor "(LTwelvehundred$Street;)I").map (fun d => d.parameters.length) = some 1 := by decide +kernel
theorem ce_164 (G : va_G) (a0 a1 a2 a3 : ClassId) (n0 : Nat) (em mi ic : Nat) : CalleeOk (VV G a0 a1 a2 a3 n0) (DD em mi ic) 164 1 := oc_ce (mq_164 em mi ic) tw_665 tw_48 nmh_5 nvh_5 cp_38 (Nat.le_of_ble_eq_true rfl)
theorem ce_165 (G : va_G) (a0 a1 a2 a3 : ClassId) (n0 : Nat) (em mi ic : Nat) : CalleeOk (VV G a0 a1 a2 a3 n0) (DD em mi ic) 165 1 := oc_ce (mq_165 em mi ic) tw_834 tw_53 nmh_8 nvh_8 cp_38 (Nat.le_of_ble_eq_true rfl)
theorem ce_166 (G : va_G) (a0 a1 a2 a3 : ClassId) (n0 : Nat) (em mi ic : Nat) : CalleeOk (VV G a0 a1 a2 a3 n0) (DD em mi ic) 166 1 := oc_ce (mq_166 em mi ic) tw_1551 tw_57 nmh_1 nvh_1 cp_7 (Nat.le_of_ble_eq_true rfl)
theorem ce_167 (G : va_G) (a0 a1 a2 a3 : ClassId) (n0 : Nat) (em mi ic : Nat) : CalleeOk (VV G a0 a1 a2 a3 n0) (DD em mi ic) 167 2 := oc_ce (mq_167 em mi ic) tw_1555 tw_57 nmh_1 nvh_1 cp_2 (Nat.le_of_ble_eq_true rfl)
theorem cp_39 : (parseMethodDescriptor "(LTwelvehundred$Household;)LTwelvehundred$Hall;").map (fun d => d.parameters.length) = some 1 := by decide +kernel
theorem ce_168 (G : va_G) (a0 a1 a2 a3 : ClassId) (n0 : Nat) (em mi ic : Nat) : CalleeOk (VV G a0 a1 a2 a3 n0) (DD em mi ic) 168 1 := oc_ce (mq_168 em mi ic) tw_344 tw_52 nmh_7 nvh_7 cp_39 (Nat.le_of_ble_eq_true rfl)
theorem ce_169 (G : va_G) (a0 a1 a2 a3 : ClassId) (n0 : Nat) (em mi ic : Nat) : CalleeOk (VV G a0 a1 a2 a3 n0) (DD em mi ic) 169 2 := oc_ce (mq_169 em mi ic) tw_657 tw_47 nmh_0 nvh_0 cp_13 (Nat.le_of_ble_eq_true rfl)
theorem cp_40 : (parseMethodDescriptor "()[I").map (fun d => d.parameters.length) = some 0 := by decide +kernel
theorem ce_170 (G : va_G) (a0 a1 a2 a3 : ClassId) (n0 : Nat) (em mi ic : Nat) : CalleeOk (VV G a0 a1 a2 a3 n0) (DD em mi ic) 170 0 := oc_ce (mq_170 em mi ic) tw_1567 tw_57 nmh_1 nvh_1 cp_40 (Nat.le_of_ble_eq_true rfl)
theorem cp_41 : (parseMethodDescriptor "(LTwelvehundred$Hall;)I").map (fun d => d.parameters.length) = some 1 := by decide +kernel
theorem ce_171 (G : va_G) (a0 a1 a2 a3 : ClassId) (n0 : Nat) (em mi ic : Nat) : CalleeOk (VV G a0 a1 a2 a3 n0) (DD em mi ic) 171 1 := oc_ce (mq_171 em mi ic) tw_703 tw_52 nmh_7 nvh_7 cp_41 (Nat.le_of_ble_eq_true rfl)
theorem cp_42 : (parseMethodDescriptor "([II)I").map (fun d => d.parameters.length) = some 2 := by decide +kernel
theorem ce_172 (G : va_G) (a0 a1 a2 a3 : ClassId) (n0 : Nat) (em mi ic : Nat) : CalleeOk (VV G a0 a1 a2 a3 n0) (DD em mi ic) 172 2 := oc_ce (mq_172 em mi ic) tw_1603 tw_57 nmh_1 nvh_1 cp_42 (Nat.le_of_ble_eq_true rfl)
theorem ce_173 (G : va_G) (a0 a1 a2 a3 : ClassId) (n0 : Nat) (em mi ic : Nat) : CalleeOk (VV G a0 a1 a2 a3 n0) (DD em mi ic) 173 1 := oc_ce (mq_173 em mi ic) tw_799 tw_53 nmh_8 nvh_8 cp_7 (Nat.le_of_ble_eq_true rfl)
theorem ce_174 (G : va_G) (a0 a1 a2 a3 : ClassId) (n0 : Nat) (em mi ic : Nat) : CalleeOk (VV G a0 a1 a2 a3 n0) (DD em mi ic) 174 1 := oc_ce (mq_174 em mi ic) tw_803 tw_55 nmh_10 nvh_10 cp_7 (Nat.le_of_ble_eq_true rfl)
theorem cp_43 : (parseMethodDescriptor "([I)I").map (fun d => d.parameters.length) = some 1 := by decide +kernel
theorem ce_175 (G : va_G) (a0 a1 a2 a3 : ClassId) (n0 : Nat) (em mi ic : Nat) : CalleeOk (VV G a0 a1 a2 a3 n0) (DD em mi ic) 175 1 := oc_ce (mq_175 em mi ic) tw_1623 tw_57 nmh_1 nvh_1 cp_43 (Nat.le_of_ble_eq_true rfl)
theorem ce_176 (G : va_G) (a0 a1 a2 a3 : ClassId) (n0 : Nat) (em mi ic : Nat) : CalleeOk (VV G a0 a1 a2 a3 n0) (DD em mi ic) 176 0 := oc_ce (mq_176 em mi ic) tw_1627 tw_57 nmh_1 nvh_1 cp_3 (Nat.le_of_ble_eq_true rfl)
theorem nmh_25 : "java/lang/AbstractStringBuilder" ≠ "java/lang/invoke/MethodHandle" := by decide +kernel
theorem nvh_25 : "java/lang/AbstractStringBuilder" ≠ "java/lang/invoke/VarHandle" := by decide +kernel
theorem ce_177 (G : va_G) (a0 a1 a2 a3 : ClassId) (n0 : Nat) (em mi ic : Nat) : CalleeOk (VV G a0 a1 a2 a3 n0) (DD em mi ic) 177 1 := oc_ce (mq_177 em mi ic) tw_293 tw_81 nmh_25 nvh_25 cp_35 (Nat.le_of_ble_eq_true rfl)
theorem cp_44 : (parseMethodDescriptor "(C)Ljava/lang/AbstractStringBuilder;").map (fun d => d.parameters.length) = some 1 := by decide +kernel
theorem ce_178 (G : va_G) (a0 a1 a2 a3 : ClassId) (n0 : Nat) (em mi ic : Nat) : CalleeOk (VV G a0 a1 a2 a3 n0) (DD em mi ic) 178 1 := oc_ce (mq_178 em mi ic) tw_351 tw_81 nmh_25 nvh_25 cp_44 (Nat.le_of_ble_eq_true rfl)
theorem cp_45 : (parseMethodDescriptor "(Ljava/lang/StringBuilder;)V").map (fun d => d.parameters.length) = some 1 := by decide +kernel
theorem ce_179 (G : va_G) (a0 a1 a2 a3 : ClassId) (n0 : Nat) (em mi ic : Nat) : CalleeOk (VV G a0 a1 a2 a3 n0) (DD em mi ic) 179 1 := oc_ce (mq_179 em mi ic) tw_446 tw_83 nmh_4 nvh_4 cp_45 (Nat.le_of_ble_eq_true rfl)
theorem ce_180 (G : va_G) (a0 a1 a2 a3 : ClassId) (n0 : Nat) (em mi ic : Nat) : CalleeOk (VV G a0 a1 a2 a3 n0) (DD em mi ic) 180 1 := oc_ce (mq_180 em mi ic) tw_654 tw_53 nmh_8 nvh_8 cp_12 (Nat.le_of_ble_eq_true rfl)
theorem cp_46 : (parseMethodDescriptor "(LTwelvehundred$Household;LTwelvehundred$Hall;)V").map (fun d => d.parameters.length) = some 2 := by decide +kernel
theorem ce_181 (G : va_G) (a0 a1 a2 a3 : ClassId) (n0 : Nat) (em mi ic : Nat) : CalleeOk (VV G a0 a1 a2 a3 n0) (DD em mi ic) 181 2 := oc_ce (mq_181 em mi ic) tw_695 tw_52 nmh_7 nvh_7 cp_46 (Nat.le_of_ble_eq_true rfl)
theorem ce_182 (G : va_G) (a0 a1 a2 a3 : ClassId) (n0 : Nat) (em mi ic : Nat) : CalleeOk (VV G a0 a1 a2 a3 n0) (DD em mi ic) 182 1 := oc_ce (mq_182 em mi ic) tw_706 tw_73 nmh_15 nvh_15 cp_7 (Nat.le_of_ble_eq_true rfl)
theorem ce_183 (G : va_G) (a0 a1 a2 a3 : ClassId) (n0 : Nat) (em mi ic : Nat) : CalleeOk (VV G a0 a1 a2 a3 n0) (DD em mi ic) 183 1 := oc_ce (mq_183 em mi ic) tw_717 tw_52 nmh_7 nvh_7 cp_12 (Nat.le_of_ble_eq_true rfl)
theorem cp_47 : (parseMethodDescriptor "(LTwelvehundred$Household;)Z").map (fun d => d.parameters.length) = some 1 := by decide +kernel
theorem ce_184 (G : va_G) (a0 a1 a2 a3 : ClassId) (n0 : Nat) (em mi ic : Nat) : CalleeOk (VV G a0 a1 a2 a3 n0) (DD em mi ic) 184 1 := oc_ce (mq_184 em mi ic) tw_737 tw_52 nmh_7 nvh_7 cp_47 (Nat.le_of_ble_eq_true rfl)
theorem ce_185 (G : va_G) (a0 a1 a2 a3 : ClassId) (n0 : Nat) (em mi ic : Nat) : CalleeOk (VV G a0 a1 a2 a3 n0) (DD em mi ic) 185 3 := oc_ce (mq_185 em mi ic) tw_1579 tw_57 nmh_1 nvh_1 cp_19 (Nat.le_of_ble_eq_true rfl)
theorem ce_186 (G : va_G) (a0 a1 a2 a3 : ClassId) (n0 : Nat) (em mi ic : Nat) : CalleeOk (VV G a0 a1 a2 a3 n0) (DD em mi ic) 186 2 := oc_ce (mq_186 em mi ic) tw_1575 tw_57 nmh_1 nvh_1 cp_13 (Nat.le_of_ble_eq_true rfl)
theorem ce_187 (G : va_G) (a0 a1 a2 a3 : ClassId) (n0 : Nat) (em mi ic : Nat) : CalleeOk (VV G a0 a1 a2 a3 n0) (DD em mi ic) 187 2 := oc_ce (mq_187 em mi ic) tw_781 tw_56 nmh_11 nvh_11 cp_13 (Nat.le_of_ble_eq_true rfl)
theorem ce_188 (G : va_G) (a0 a1 a2 a3 : ClassId) (n0 : Nat) (em mi ic : Nat) : CalleeOk (VV G a0 a1 a2 a3 n0) (DD em mi ic) 188 1 := oc_ce (mq_188 em mi ic) tw_1531 tw_57 nmh_1 nvh_1 cp_7 (Nat.le_of_ble_eq_true rfl)
theorem ce_189 (G : va_G) (a0 a1 a2 a3 : ClassId) (n0 : Nat) (em mi ic : Nat) : CalleeOk (VV G a0 a1 a2 a3 n0) (DD em mi ic) 189 1 := oc_ce (mq_189 em mi ic) tw_729 tw_66 nmh_14 nvh_14 cp_7 (Nat.le_of_ble_eq_true rfl)
theorem ce_190 (G : va_G) (a0 a1 a2 a3 : ClassId) (n0 : Nat) (em mi ic : Nat) : CalleeOk (VV G a0 a1 a2 a3 n0) (DD em mi ic) 190 2 := oc_ce (mq_190 em mi ic) tw_1535 tw_57 nmh_1 nvh_1 cp_13 (Nat.le_of_ble_eq_true rfl)
theorem cp_48 : (parseMethodDescriptor "(LTwelvehundred$Placing;)Z").map (fun d => d.parameters.length) = some 1 := by decide +kernel
theorem ce_191 (G : va_G) (a0 a1 a2 a3 : ClassId) (n0 : Nat) (em mi ic : Nat) : CalleeOk (VV G a0 a1 a2 a3 n0) (DD em mi ic) 191 1 := oc_ce (mq_191 em mi ic) tw_753 tw_52 nmh_7 nvh_7 cp_48 (Nat.le_of_ble_eq_true rfl)
theorem cp_49 : (parseMethodDescriptor "(LTwelvehundred$Hall;)Z").map (fun d => d.parameters.length) = some 1 := by decide +kernel
theorem ce_192 (G : va_G) (a0 a1 a2 a3 : ClassId) (n0 : Nat) (em mi ic : Nat) : CalleeOk (VV G a0 a1 a2 a3 n0) (DD em mi ic) 192 1 := oc_ce (mq_192 em mi ic) tw_741 tw_52 nmh_7 nvh_7 cp_49 (Nat.le_of_ble_eq_true rfl)
theorem cp_50 : (parseMethodDescriptor "(LTwelvehundred$Listed;LTwelvehundred$Listed;)Z").map (fun d => d.parameters.length) = some 2 := by decide +kernel
theorem ce_193 (G : va_G) (a0 a1 a2 a3 : ClassId) (n0 : Nat) (em mi ic : Nat) : CalleeOk (VV G a0 a1 a2 a3 n0) (DD em mi ic) 193 2 := oc_ce (mq_193 em mi ic) tw_778 tw_56 nmh_11 nvh_11 cp_50 (Nat.le_of_ble_eq_true rfl)
theorem ce_194 (G : va_G) (a0 a1 a2 a3 : ClassId) (n0 : Nat) (em mi ic : Nat) : CalleeOk (VV G a0 a1 a2 a3 n0) (DD em mi ic) 194 2 := oc_ce (mq_194 em mi ic) tw_785 tw_56 nmh_11 nvh_11 cp_36 (Nat.le_of_ble_eq_true rfl)
theorem cp_51 : (parseMethodDescriptor "([I[II)Z").map (fun d => d.parameters.length) = some 3 := by decide +kernel
theorem ce_195 (G : va_G) (a0 a1 a2 a3 : ClassId) (n0 : Nat) (em mi ic : Nat) : CalleeOk (VV G a0 a1 a2 a3 n0) (DD em mi ic) 195 3 := oc_ce (mq_195 em mi ic) tw_1680 tw_57 nmh_1 nvh_1 cp_51 (Nat.le_of_ble_eq_true rfl)
theorem cp_52 : (parseMethodDescriptor "()B").map (fun d => d.parameters.length) = some 0 := by decide +kernel
theorem ce_196 (G : va_G) (a0 a1 a2 a3 : ClassId) (n0 : Nat) (em mi ic : Nat) : CalleeOk (VV G a0 a1 a2 a3 n0) (DD em mi ic) 196 0 := oc_ce (mq_196 em mi ic) tw_573 tw_83 nmh_4 nvh_4 cp_52 (Nat.le_of_ble_eq_true rfl)
theorem nmh_26 : "java/util/AbstractCollection" ≠ "java/lang/invoke/MethodHandle" := by decide +kernel
theorem nvh_26 : "java/util/AbstractCollection" ≠ "java/lang/invoke/VarHandle" := by decide +kernel
theorem ce_197 (G : va_G) (a0 a1 a2 a3 : ClassId) (n0 : Nat) (em mi ic : Nat) : CalleeOk (VV G a0 a1 a2 a3 n0) (DD em mi ic) 197 0 := oc_ce (mq_197 em mi ic) tw_123 tw_49 nmh_26 nvh_26 cp_0 (Nat.le_of_ble_eq_true rfl)
theorem cp_53 : (parseMethodDescriptor "()[Ljava/lang/Object;").map (fun d => d.parameters.length) = some 0 := by decide +kernel
theorem ce_198 (G : va_G) (a0 a1 a2 a3 : ClassId) (n0 : Nat) (em mi ic : Nat) : CalleeOk (VV G a0 a1 a2 a3 n0) (DD em mi ic) 198 0 := oc_ce (mq_198 em mi ic) tw_938 tw_51 nmh_6 nvh_6 cp_53 (Nat.le_of_ble_eq_true rfl)
theorem ce_199 (G : va_G) (a0 a1 a2 a3 : ClassId) (n0 : Nat) (em mi ic : Nat) : CalleeOk (VV G a0 a1 a2 a3 n0) (DD em mi ic) 199 0 := oc_ce (mq_199 em mi ic) tw_1021 tw_54 nmh_9 nvh_9 cp_0 (Nat.le_of_ble_eq_true rfl)
theorem nmh_27 : "jdk/internal/util/Preconditions" ≠ "java/lang/invoke/MethodHandle" := by decide +kernel
theorem nvh_27 : "jdk/internal/util/Preconditions" ≠ "java/lang/invoke/VarHandle" := by decide +kernel
theorem cp_54 : (parseMethodDescriptor "(IILjava/util/function/BiFunction;)I").map (fun d => d.parameters.length) = some 3 := by decide +kernel
theorem ce_200 (G : va_G) (a0 a1 a2 a3 : ClassId) (n0 : Nat) (em mi ic : Nat) : CalleeOk (VV G a0 a1 a2 a3 n0) (DD em mi ic) 200 3 := oc_ce (mq_200 em mi ic) tw_331 tw_71 nmh_27 nvh_27 cp_54 (Nat.le_of_ble_eq_true rfl)
theorem cp_55 : (parseMethodDescriptor "()LTwelvehundred$Lot;").map (fun d => d.parameters.length) = some 0 := by decide +kernel
theorem ce_201 (G : va_G) (a0 a1 a2 a3 : ClassId) (n0 : Nat) (em mi ic : Nat) : CalleeOk (VV G a0 a1 a2 a3 n0) (DD em mi ic) 201 0 := oc_ce (mq_201 em mi ic) tw_1189 tw_55 nmh_10 nvh_10 cp_55 (Nat.le_of_ble_eq_true rfl)
theorem nmh_28 : "java/lang/Number" ≠ "java/lang/invoke/MethodHandle" := by decide +kernel
theorem nvh_28 : "java/lang/Number" ≠ "java/lang/invoke/VarHandle" := by decide +kernel
theorem ce_202 (G : va_G) (a0 a1 a2 a3 : ClassId) (n0 : Nat) (em mi ic : Nat) : CalleeOk (VV G a0 a1 a2 a3 n0) (DD em mi ic) 202 0 := oc_ce (mq_202 em mi ic) tw_1501 tw_72 nmh_28 nvh_28 cp_0 (Nat.le_of_ble_eq_true rfl)
theorem ce_203 (G : va_G) (a0 a1 a2 a3 : ClassId) (n0 : Nat) (em mi ic : Nat) : CalleeOk (VV G a0 a1 a2 a3 n0) (DD em mi ic) 203 1 := oc_ce (mq_203 em mi ic) tw_355 tw_81 nmh_25 nvh_25 cp_35 (Nat.le_of_ble_eq_true rfl)
theorem ce_204 (G : va_G) (a0 a1 a2 a3 : ClassId) (n0 : Nat) (em mi ic : Nat) : CalleeOk (VV G a0 a1 a2 a3 n0) (DD em mi ic) 204 0 := oc_ce (mq_204 em mi ic) tw_391 tw_81 nmh_25 nvh_25 cp_14 (Nat.le_of_ble_eq_true rfl)
theorem cp_56 : (parseMethodDescriptor "(C)Z").map (fun d => d.parameters.length) = some 1 := by decide +kernel
theorem ce_205 (G : va_G) (a0 a1 a2 a3 : ClassId) (n0 : Nat) (em mi ic : Nat) : CalleeOk (VV G a0 a1 a2 a3 n0) (DD em mi ic) 205 1 := oc_ce (mq_205 em mi ic) tw_394 tw_85 nmh_17 nvh_17 cp_56 (Nat.le_of_ble_eq_true rfl)
theorem cp_57 : (parseMethodDescriptor "(Ljava/lang/AbstractStringBuilder;Ljava/lang/Void;)V").map (fun d => d.parameters.length) = some 2 := by decide +kernel
theorem ce_206 (G : va_G) (a0 a1 a2 a3 : ClassId) (n0 : Nat) (em mi ic : Nat) : CalleeOk (VV G a0 a1 a2 a3 n0) (DD em mi ic) 206 2 := oc_ce (mq_206 em mi ic) tw_449 tw_83 nmh_4 nvh_4 cp_57 (Nat.le_of_ble_eq_true rfl)
theorem cp_58 : (parseMethodDescriptor "(LTwelvehundred$Household;I)Z").map (fun d => d.parameters.length) = some 2 := by decide +kernel
theorem ce_207 (G : va_G) (a0 a1 a2 a3 : ClassId) (n0 : Nat) (em mi ic : Nat) : CalleeOk (VV G a0 a1 a2 a3 n0) (DD em mi ic) 207 2 := oc_ce (mq_207 em mi ic) tw_661 tw_53 nmh_8 nvh_8 cp_58 (Nat.le_of_ble_eq_true rfl)
theorem cp_59 : (parseMethodDescriptor "(LTwelvehundred$Household;LTwelvehundred$Household;)Z").map (fun d => d.parameters.length) = some 2 := by decide +kernel
theorem ce_208 (G : va_G) (a0 a1 a2 a3 : ClassId) (n0 : Nat) (em mi ic : Nat) : CalleeOk (VV G a0 a1 a2 a3 n0) (DD em mi ic) 208 2 := oc_ce (mq_208 em mi ic) tw_721 tw_52 nmh_7 nvh_7 cp_59 (Nat.le_of_ble_eq_true rfl)
theorem cp_60 : (parseMethodDescriptor "(LTwelvehundred$Hall;LTwelvehundred$Hall;)Z").map (fun d => d.parameters.length) = some 2 := by decide +kernel
theorem ce_209 (G : va_G) (a0 a1 a2 a3 : ClassId) (n0 : Nat) (em mi ic : Nat) : CalleeOk (VV G a0 a1 a2 a3 n0) (DD em mi ic) 209 2 := oc_ce (mq_209 em mi ic) tw_726 tw_75 nmh_22 nvh_22 cp_60 (Nat.le_of_ble_eq_true rfl)
theorem ce_210 (G : va_G) (a0 a1 a2 a3 : ClassId) (n0 : Nat) (em mi ic : Nat) : CalleeOk (VV G a0 a1 a2 a3 n0) (DD em mi ic) 210 2 := oc_ce (mq_210 em mi ic) tw_1583 tw_57 nmh_1 nvh_1 cp_2 (Nat.le_of_ble_eq_true rfl)
theorem cp_61 : (parseMethodDescriptor "(I)[Ljava/lang/Object;").map (fun d => d.parameters.length) = some 1 := by decide +kernel
theorem ce_211 (G : va_G) (a0 a1 a2 a3 : ClassId) (n0 : Nat) (em mi ic : Nat) : CalleeOk (VV G a0 a1 a2 a3 n0) (DD em mi ic) 211 1 := oc_ce (mq_211 em mi ic) tw_942 tw_51 nmh_6 nvh_6 cp_61 (Nat.le_of_ble_eq_true rfl)
theorem ce_212 (G : va_G) (a0 a1 a2 a3 : ClassId) (n0 : Nat) (em mi ic : Nat) : CalleeOk (VV G a0 a1 a2 a3 n0) (DD em mi ic) 212 1 := oc_ce (mq_212 em mi ic) tw_1029 tw_54 nmh_9 nvh_9 cp_39 (Nat.le_of_ble_eq_true rfl)
theorem ce_213 (G : va_G) (a0 a1 a2 a3 : ClassId) (n0 : Nat) (em mi ic : Nat) : CalleeOk (VV G a0 a1 a2 a3 n0) (DD em mi ic) 213 2 := oc_ce (mq_213 em mi ic) tw_1040 tw_54 nmh_9 nvh_9 cp_46 (Nat.le_of_ble_eq_true rfl)
theorem cp_62 : (parseMethodDescriptor "()[B").map (fun d => d.parameters.length) = some 0 := by decide +kernel
theorem ce_214 (G : va_G) (a0 a1 a2 a3 : ClassId) (n0 : Nat) (em mi ic : Nat) : CalleeOk (VV G a0 a1 a2 a3 n0) (DD em mi ic) 214 0 := oc_ce (mq_214 em mi ic) tw_455 tw_81 nmh_25 nvh_25 cp_62 (Nat.le_of_ble_eq_true rfl)
theorem ce_215 (G : va_G) (a0 a1 a2 a3 : ClassId) (n0 : Nat) (em mi ic : Nat) : CalleeOk (VV G a0 a1 a2 a3 n0) (DD em mi ic) 215 0 := oc_ce (mq_215 em mi ic) tw_461 tw_82 nmh_16 nvh_16 cp_3 (Nat.le_of_ble_eq_true rfl)
theorem nmh_29 : "java/util/Arrays" ≠ "java/lang/invoke/MethodHandle" := by decide +kernel
theorem nvh_29 : "java/util/Arrays" ≠ "java/lang/invoke/VarHandle" := by decide +kernel
theorem cp_63 : (parseMethodDescriptor "([BII)[B").map (fun d => d.parameters.length) = some 3 := by decide +kernel
theorem ce_216 (G : va_G) (a0 a1 a2 a3 : ClassId) (n0 : Nat) (em mi ic : Nat) : CalleeOk (VV G a0 a1 a2 a3 n0) (DD em mi ic) 216 3 := oc_ce (mq_216 em mi ic) tw_467 tw_67 nmh_29 nvh_29 cp_63 (Nat.le_of_ble_eq_true rfl)
theorem ce_217 (G : va_G) (a0 a1 a2 a3 : ClassId) (n0 : Nat) (em mi ic : Nat) : CalleeOk (VV G a0 a1 a2 a3 n0) (DD em mi ic) 217 1 := oc_ce (mq_217 em mi ic) tw_733 tw_75 nmh_22 nvh_22 cp_47 (Nat.le_of_ble_eq_true rfl)
theorem nmh_30 : "jdk/internal/util/ArraysSupport" ≠ "java/lang/invoke/MethodHandle" := by decide +kernel
theorem nvh_30 : "jdk/internal/util/ArraysSupport" ≠ "java/lang/invoke/VarHandle" := by decide +kernel
theorem cp_64 : (parseMethodDescriptor "(III)I").map (fun d => d.parameters.length) = some 3 := by decide +kernel
theorem ce_218 (G : va_G) (a0 a1 a2 a3 : ClassId) (n0 : Nat) (em mi ic : Nat) : CalleeOk (VV G a0 a1 a2 a3 n0) (DD em mi ic) 218 3 := oc_ce (mq_218 em mi ic) tw_362 tw_65 nmh_30 nvh_30 cp_64 (Nat.le_of_ble_eq_true rfl)
theorem cp_65 : (parseMethodDescriptor "([Ljava/lang/Object;I)[Ljava/lang/Object;").map (fun d => d.parameters.length) = some 2 := by decide +kernel
theorem ce_219 (G : va_G) (a0 a1 a2 a3 : ClassId) (n0 : Nat) (em mi ic : Nat) : CalleeOk (VV G a0 a1 a2 a3 n0) (DD em mi ic) 219 2 := oc_ce (mq_219 em mi ic) tw_946 tw_67 nmh_29 nvh_29 cp_65 (Nat.le_of_ble_eq_true rfl)
theorem cp_66 : (parseMethodDescriptor "(LTwelvehundred$Household;LTwelvehundred$Hall;)Z").map (fun d => d.parameters.length) = some 2 := by decide +kernel
theorem ce_220 (G : va_G) (a0 a1 a2 a3 : ClassId) (n0 : Nat) (em mi ic : Nat) : CalleeOk (VV G a0 a1 a2 a3 n0) (DD em mi ic) 220 2 := oc_ce (mq_220 em mi ic) tw_1034 tw_54 nmh_9 nvh_9 cp_66 (Nat.le_of_ble_eq_true rfl)
theorem cp_67 : (parseMethodDescriptor "(LTwelvehundred$Hall;)LTwelvehundred$Household;").map (fun d => d.parameters.length) = some 1 := by decide +kernel
theorem ce_221 (G : va_G) (a0 a1 a2 a3 : ClassId) (n0 : Nat) (em mi ic : Nat) : CalleeOk (VV G a0 a1 a2 a3 n0) (DD em mi ic) 221 1 := oc_ce (mq_221 em mi ic) tw_1046 tw_52 nmh_7 nvh_7 cp_67 (Nat.le_of_ble_eq_true rfl)
theorem ce_222 (G : va_G) (a0 a1 a2 a3 : ClassId) (n0 : Nat) (em mi ic : Nat) : CalleeOk (VV G a0 a1 a2 a3 n0) (DD em mi ic) 222 0 := oc_ce (mq_222 em mi ic) tw_463 tw_81 nmh_25 nvh_25 cp_3 (Nat.le_of_ble_eq_true rfl)
theorem ce_223 (G : va_G) (a0 a1 a2 a3 : ClassId) (n0 : Nat) (em mi ic : Nat) : CalleeOk (VV G a0 a1 a2 a3 n0) (DD em mi ic) 223 3 := oc_ce (mq_223 em mi ic) tw_470 tw_67 nmh_29 nvh_29 cp_63 (Nat.le_of_ble_eq_true rfl)
theorem cp_68 : (parseMethodDescriptor "([Ljava/lang/Object;ILjava/lang/Class;)[Ljava/lang/Object;").map (fun d => d.parameters.length) = some 3 := by decide +kernel
theorem ce_224 (G : va_G) (a0 a1 a2 a3 : ClassId) (n0 : Nat) (em mi ic : Nat) : CalleeOk (VV G a0 a1 a2 a3 n0) (DD em mi ic) 224 3 := oc_ce (mq_224 em mi ic) tw_976 tw_67 nmh_29 nvh_29 cp_68 (Nat.le_of_ble_eq_true rfl)
theorem ce_225 (G : va_G) (a0 a1 a2 a3 : ClassId) (n0 : Nat) (em mi ic : Nat) : CalleeOk (VV G a0 a1 a2 a3 n0) (DD em mi ic) 225 2 := oc_ce (mq_225 em mi ic) tw_473 tw_67 nmh_29 nvh_29 cp_36 (Nat.le_of_ble_eq_true rfl)
