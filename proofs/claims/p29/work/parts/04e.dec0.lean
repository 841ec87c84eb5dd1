theorem dccJ0_coder_7d493_0 : decode cJ0_coder_7d493 0 = .ok (.getstatic 38, 3) := by decide +kernel
theorem dccJ0_coder_7d493_3 : decode cJ0_coder_7d493 3 = .ok (.ifCond .eq 10, 3) := by decide +kernel
theorem dccJ0_coder_7d493_6 : decode cJ0_coder_7d493 6 = .ok (.aload_n 0, 1) := by decide +kernel
theorem dccJ0_coder_7d493_7 : decode cJ0_coder_7d493 7 = .ok (.getfield 15, 3) := by decide +kernel
theorem dccJ0_coder_7d493_10 : decode cJ0_coder_7d493 10 = .ok (.goto 4, 3) := by decide +kernel
theorem dccJ0_coder_7d493_13 : decode cJ0_coder_7d493 13 = .ok (.iconst 1, 1) := by decide +kernel
theorem dccJ0_coder_7d493_14 : decode cJ0_coder_7d493 14 = .ok (.ireturn, 1) := by decide +kernel
theorem dccJ0_init_81219_0 : decode cJ0_init_81219 0 = .ok (.aload_n 0, 1) := by decide +kernel
theorem dccJ0_init_81219_1 : decode cJ0_init_81219 1 = .ok (.aload_n 1, 1) := by decide +kernel
theorem dccJ0_init_81219_2 : decode cJ0_init_81219 2 = .ok (.aconst_null, 1) := by decide +kernel
theorem dccJ0_init_81219_3 : decode cJ0_init_81219 3 = .ok (.invokespecial 489, 3) := by decide +kernel
theorem dccJ0_init_81219_6 : decode cJ0_init_81219 6 = .ok (.return_, 1) := by decide +kernel
theorem dccJ0_init_db425_0 : decode cJ0_init_db425 0 = .ok (.aload_n 0, 1) := by decide +kernel
theorem dccJ0_init_db425_1 : decode cJ0_init_db425 1 = .ok (.invokespecial 1, 3) := by decide +kernel
theorem dccJ0_init_db425_4 : decode cJ0_init_db425 4 = .ok (.aload_n 1, 1) := by decide +kernel
theorem dccJ0_init_db425_5 : decode cJ0_init_db425 5 = .ok (.invokevirtual 552, 3) := by decide +kernel
theorem dccJ0_init_db425_8 : decode cJ0_init_db425 8 = .ok (.astore_n 3, 1) := by decide +kernel
theorem dccJ0_init_db425_9 : decode cJ0_init_db425 9 = .ok (.aload_n 1, 1) := by decide +kernel
theorem dccJ0_init_db425_10 : decode cJ0_init_db425 10 = .ok (.invokevirtual 549, 3) := by decide +kernel
theorem dccJ0_init_db425_13 : decode cJ0_init_db425 13 = .ok (.istore 4, 2) := by decide +kernel
theorem dccJ0_init_db425_15 : decode cJ0_init_db425 15 = .ok (.aload_n 1, 1) := by decide +kernel
theorem dccJ0_init_db425_16 : decode cJ0_init_db425 16 = .ok (.invokevirtual 1047, 3) := by decide +kernel
theorem dccJ0_init_db425_19 : decode cJ0_init_db425 19 = .ok (.ifCond .eq 22, 3) := by decide +kernel
theorem dccJ0_init_db425_22 : decode cJ0_init_db425 22 = .ok (.aload_n 0, 1) := by decide +kernel
theorem dccJ0_init_db425_23 : decode cJ0_init_db425 23 = .ok (.iconst 0, 1) := by decide +kernel
theorem dccJ0_init_db425_24 : decode cJ0_init_db425 24 = .ok (.putfield 15, 3) := by decide +kernel
theorem dccJ0_init_db425_27 : decode cJ0_init_db425 27 = .ok (.aload_n 0, 1) := by decide +kernel
theorem dccJ0_init_db425_28 : decode cJ0_init_db425 28 = .ok (.aload_n 3, 1) := by decide +kernel
theorem dccJ0_init_db425_29 : decode cJ0_init_db425 29 = .ok (.iconst 0, 1) := by decide +kernel
theorem dccJ0_init_db425_30 : decode cJ0_init_db425 30 = .ok (.iload 4, 2) := by decide +kernel
theorem dccJ0_init_db425_32 : decode cJ0_init_db425 32 = .ok (.invokestatic 54, 3) := by decide +kernel
theorem dccJ0_init_db425_35 : decode cJ0_init_db425 35 = .ok (.putfield 9, 3) := by decide +kernel
theorem dccJ0_init_db425_38 : decode cJ0_init_db425 38 = .ok (.goto 59, 3) := by decide +kernel
theorem dccJ0_init_db425_41 : decode cJ0_init_db425 41 = .ok (.getstatic 38, 3) := by decide +kernel
theorem dccJ0_init_db425_44 : decode cJ0_init_db425 44 = .ok (.ifCond .eq 35, 3) := by decide +kernel
theorem dccJ0_init_db425_47 : decode cJ0_init_db425 47 = .ok (.aload_n 1, 1) := by decide +kernel
theorem dccJ0_init_db425_48 : decode cJ0_init_db425 48 = .ok (.getfield 1048, 3) := by decide +kernel
theorem dccJ0_init_db425_51 : decode cJ0_init_db425 51 = .ok (.ifCond .eq 28, 3) := by decide +kernel
theorem dccJ0_init_db425_54 : decode cJ0_init_db425 54 = .ok (.aload_n 0, 1) := by decide +kernel
theorem dccJ0_init_db425_55 : decode cJ0_init_db425 55 = .ok (.aload_n 3, 1) := by decide +kernel
theorem dccJ0_init_db425_56 : decode cJ0_init_db425 56 = .ok (.iconst 0, 1) := by decide +kernel
theorem dccJ0_init_db425_57 : decode cJ0_init_db425 57 = .ok (.iload 4, 2) := by decide +kernel
theorem dccJ0_init_db425_79 : decode cJ0_init_db425 79 = .ok (.aload_n 0, 1) := by decide +kernel
theorem dccJ0_init_db425_80 : decode cJ0_init_db425 80 = .ok (.iconst 1, 1) := by decide +kernel
theorem dccJ0_init_db425_81 : decode cJ0_init_db425 81 = .ok (.putfield 15, 3) := by decide +kernel
theorem dccJ0_init_db425_84 : decode cJ0_init_db425 84 = .ok (.aload_n 0, 1) := by decide +kernel
theorem dccJ0_init_db425_85 : decode cJ0_init_db425 85 = .ok (.aload_n 3, 1) := by decide +kernel
theorem dccJ0_init_db425_86 : decode cJ0_init_db425 86 = .ok (.iconst 0, 1) := by decide +kernel
theorem dccJ0_init_db425_87 : decode cJ0_init_db425 87 = .ok (.iload 4, 2) := by decide +kernel
theorem dccJ0_init_db425_89 : decode cJ0_init_db425 89 = .ok (.iconst 1, 1) := by decide +kernel
theorem dccJ0_init_db425_90 : decode cJ0_init_db425 90 = .ok (.ishl, 1) := by decide +kernel
theorem dccJ0_init_db425_91 : decode cJ0_init_db425 91 = .ok (.invokestatic 54, 3) := by decide +kernel
theorem dccJ0_init_db425_94 : decode cJ0_init_db425 94 = .ok (.putfield 9, 3) := by decide +kernel
theorem dccJ0_init_db425_97 : decode cJ0_init_db425 97 = .ok (.return_, 1) := by decide +kernel
theorem dccJ0_length_8abf5_0 : decode cJ0_length_8abf5 0 = .ok (.aload_n 0, 1) := by decide +kernel
theorem dccJ0_length_8abf5_1 : decode cJ0_length_8abf5 1 = .ok (.getfield 9, 3) := by decide +kernel
theorem dccJ0_length_8abf5_4 : decode cJ0_length_8abf5 4 = .ok (.arraylength, 1) := by decide +kernel
theorem dccJ0_length_8abf5_5 : decode cJ0_length_8abf5 5 = .ok (.aload_n 0, 1) := by decide +kernel
theorem dccJ0_length_8abf5_6 : decode cJ0_length_8abf5 6 = .ok (.invokevirtual 335, 3) := by decide +kernel
theorem dccJ0_length_8abf5_9 : decode cJ0_length_8abf5 9 = .ok (.ishr, 1) := by decide +kernel
theorem dccJ0_length_8abf5_10 : decode cJ0_length_8abf5 10 = .ok (.ireturn, 1) := by decide +kernel
theorem dccJ15_checkIndex_7cf53_0 : decode cJ15_checkIndex_7cf53 0 = .ok (.iload_n 0, 1) := by decide +kernel
theorem dccJ15_checkIndex_7cf53_1 : decode cJ15_checkIndex_7cf53 1 = .ok (.iload_n 1, 1) := by decide +kernel
theorem dccJ15_checkIndex_7cf53_2 : decode cJ15_checkIndex_7cf53 2 = .ok (.aconst_null, 1) := by decide +kernel
theorem dccJ15_checkIndex_7cf53_3 : decode cJ15_checkIndex_7cf53 3 = .ok (.invokestatic 105, 3) := by decide +kernel
theorem dccJ15_checkIndex_7cf53_6 : decode cJ15_checkIndex_7cf53 6 = .ok (.ireturn, 1) := by decide +kernel
theorem dccJ1_canEncode_fc78d_0 : decode cJ1_canEncode_fc78d 0 = .ok (.iload_n 0, 1) := by decide +kernel
theorem dccJ1_canEncode_fc78d_1 : decode cJ1_canEncode_fc78d 1 = .ok (.sipush 255, 3) := by decide +kernel
theorem dccJ1_canEncode_fc78d_4 : decode cJ1_canEncode_fc78d 4 = .ok (.if_icmp .gt 7, 3) := by decide +kernel
theorem dccJ1_canEncode_fc78d_7 : decode cJ1_canEncode_fc78d 7 = .ok (.iconst 1, 1) := by decide +kernel
theorem dccJ1_canEncode_fc78d_8 : decode cJ1_canEncode_fc78d 8 = .ok (.goto 4, 3) := by decide +kernel
theorem dccJ1_canEncode_fc78d_11 : decode cJ1_canEncode_fc78d 11 = .ok (.iconst 0, 1) := by decide +kernel
theorem dccJ1_canEncode_fc78d_12 : decode cJ1_canEncode_fc78d 12 = .ok (.ireturn, 1) := by decide +kernel
theorem dccJ3_checkIndex_8e157_0 : decode cJ3_checkIndex_8e157 0 = .ok (.iload_n 0, 1) := by decide +kernel
theorem dccJ3_checkIndex_8e157_1 : decode cJ3_checkIndex_8e157 1 = .ok (.ifCond .lt 8, 3) := by decide +kernel
theorem dccJ3_checkIndex_8e157_4 : decode cJ3_checkIndex_8e157 4 = .ok (.iload_n 0, 1) := by decide +kernel
theorem dccJ3_checkIndex_8e157_5 : decode cJ3_checkIndex_8e157 5 = .ok (.iload_n 1, 1) := by decide +kernel
theorem dccJ3_checkIndex_8e157_6 : decode cJ3_checkIndex_8e157 6 = .ok (.if_icmp .lt 10, 3) := by decide +kernel
theorem dccJ3_checkIndex_8e157_9 : decode cJ3_checkIndex_8e157 9 = .ok (.aload_n 2, 1) := by decide +kernel
theorem dccJ3_checkIndex_8e157_10 : decode cJ3_checkIndex_8e157 10 = .ok (.iload_n 0, 1) := by decide +kernel
theorem dccJ3_checkIndex_8e157_11 : decode cJ3_checkIndex_8e157 11 = .ok (.iload_n 1, 1) := by decide +kernel
theorem dccJ3_checkIndex_8e157_16 : decode cJ3_checkIndex_8e157 16 = .ok (.iload_n 0, 1) := by decide +kernel
theorem dccJ3_checkIndex_8e157_17 : decode cJ3_checkIndex_8e157 17 = .ok (.ireturn, 1) := by decide +kernel
theorem dccJ4_append_cf468_0 : decode cJ4_append_cf468 0 = .ok (.aload_n 0, 1) := by decide +kernel
theorem dccJ4_append_cf468_1 : decode cJ4_append_cf468 1 = .ok (.iload_n 1, 1) := by decide +kernel
theorem dccJ4_append_cf468_2 : decode cJ4_append_cf468 2 = .ok (.invokespecial 50, 3) := by decide +kernel
theorem dccJ4_append_cf468_5 : decode cJ4_append_cf468 5 = .ok (.pop, 1) := by decide +kernel
theorem dccJ4_append_cf468_6 : decode cJ4_append_cf468 6 = .ok (.aload_n 0, 1) := by decide +kernel
theorem dccJ4_append_cf468_7 : decode cJ4_append_cf468 7 = .ok (.areturn, 1) := by decide +kernel
theorem dccJ4_init_da8c8_0 : decode cJ4_init_da8c8 0 = .ok (.aload_n 0, 1) := by decide +kernel
theorem dccJ4_init_da8c8_1 : decode cJ4_init_da8c8 1 = .ok (.bipush 16, 2) := by decide +kernel
theorem dccJ4_init_da8c8_3 : decode cJ4_init_da8c8 3 = .ok (.invokespecial 1, 3) := by decide +kernel
theorem dccJ4_init_da8c8_6 : decode cJ4_init_da8c8 6 = .ok (.return_, 1) := by decide +kernel
theorem dccJ4_length_8abf5_0 : decode cJ4_length_8abf5 0 = .ok (.aload_n 0, 1) := by decide +kernel
theorem dccJ4_length_8abf5_1 : decode cJ4_length_8abf5 1 = .ok (.invokespecial 343, 3) := by decide +kernel
theorem dccJ4_length_8abf5_4 : decode cJ4_length_8abf5 4 = .ok (.ireturn, 1) := by decide +kernel
theorem dccJ4_toString_0e30d_0 : decode cJ4_toString_0e30d 0 = .ok (.new 18, 3) := by decide +kernel
theorem dccJ4_toString_0e30d_3 : decode cJ4_toString_0e30d 3 = .ok (.dup, 1) := by decide +kernel
theorem dccJ4_toString_0e30d_4 : decode cJ4_toString_0e30d 4 = .ok (.aload_n 0, 1) := by decide +kernel
theorem dccJ4_toString_0e30d_5 : decode cJ4_toString_0e30d 5 = .ok (.invokespecial 137, 3) := by decide +kernel
theorem dccJ4_toString_0e30d_8 : decode cJ4_toString_0e30d 8 = .ok (.areturn, 1) := by decide +kernel
theorem dccJ5_append_3fe6f_0 : decode cJ5_append_3fe6f 0 = .ok (.aload_n 0, 1) := by decide +kernel
theorem dccJ5_append_3fe6f_1 : decode cJ5_append_3fe6f 1 = .ok (.aload_n 0, 1) := by decide +kernel
theorem dccJ5_append_3fe6f_2 : decode cJ5_append_3fe6f 2 = .ok (.getfield 79, 3) := by decide +kernel
theorem dccJ5_append_3fe6f_5 : decode cJ5_append_3fe6f 5 = .ok (.iconst 1, 1) := by decide +kernel
theorem dccJ5_append_3fe6f_6 : decode cJ5_append_3fe6f 6 = .ok (.iadd, 1) := by decide +kernel
theorem dccJ5_append_3fe6f_7 : decode cJ5_append_3fe6f 7 = .ok (.invokevirtual 100, 3) := by decide +kernel
theorem dccJ5_append_3fe6f_10 : decode cJ5_append_3fe6f 10 = .ok (.aload_n 0, 1) := by decide +kernel
theorem dccJ5_append_3fe6f_11 : decode cJ5_append_3fe6f 11 = .ok (.invokevirtual 83, 3) := by decide +kernel
theorem dccJ5_append_3fe6f_14 : decode cJ5_append_3fe6f 14 = .ok (.ifCond .eq 31, 3) := by decide +kernel
theorem dccJ5_append_3fe6f_17 : decode cJ5_append_3fe6f 17 = .ok (.iload_n 1, 1) := by decide +kernel
theorem dccJ5_append_3fe6f_18 : decode cJ5_append_3fe6f 18 = .ok (.invokestatic 191, 3) := by decide +kernel
theorem dccJ5_append_3fe6f_21 : decode cJ5_append_3fe6f 21 = .ok (.ifCond .eq 24, 3) := by decide +kernel
theorem dccJ5_append_3fe6f_24 : decode cJ5_append_3fe6f 24 = .ok (.aload_n 0, 1) := by decide +kernel
theorem dccJ5_append_3fe6f_25 : decode cJ5_append_3fe6f 25 = .ok (.getfield 15, 3) := by decide +kernel
theorem dccJ5_append_3fe6f_28 : decode cJ5_append_3fe6f 28 = .ok (.aload_n 0, 1) := by decide +kernel
theorem dccJ5_append_3fe6f_29 : decode cJ5_append_3fe6f 29 = .ok (.dup, 1) := by decide +kernel
theorem dccJ5_append_3fe6f_30 : decode cJ5_append_3fe6f 30 = .ok (.getfield 79, 3) := by decide +kernel
theorem dccJ5_append_3fe6f_33 : decode cJ5_append_3fe6f 33 = .ok (.dup_x1, 1) := by decide +kernel
theorem dccJ5_append_3fe6f_34 : decode cJ5_append_3fe6f 34 = .ok (.iconst 1, 1) := by decide +kernel
theorem dccJ5_append_3fe6f_35 : decode cJ5_append_3fe6f 35 = .ok (.iadd, 1) := by decide +kernel
theorem dccJ5_append_3fe6f_36 : decode cJ5_append_3fe6f 36 = .ok (.putfield 79, 3) := by decide +kernel
theorem dccJ5_append_3fe6f_39 : decode cJ5_append_3fe6f 39 = .ok (.iload_n 1, 1) := by decide +kernel
theorem dccJ5_append_3fe6f_40 : decode cJ5_append_3fe6f 40 = .ok (.i2b, 1) := by decide +kernel
theorem dccJ5_append_3fe6f_41 : decode cJ5_append_3fe6f 41 = .ok (.bastore, 1) := by decide +kernel
theorem dccJ5_append_3fe6f_42 : decode cJ5_append_3fe6f 42 = .ok (.goto 33, 3) := by decide +kernel
theorem dccJ5_append_3fe6f_45 : decode cJ5_append_3fe6f 45 = .ok (.aload_n 0, 1) := by decide +kernel
theorem dccJ5_append_3fe6f_46 : decode cJ5_append_3fe6f 46 = .ok (.invokevirtual 83, 3) := by decide +kernel
theorem dccJ5_append_3fe6f_49 : decode cJ5_append_3fe6f 49 = .ok (.ifCond .eq 7, 3) := by decide +kernel
theorem dccJ5_append_3fe6f_52 : decode cJ5_append_3fe6f 52 = .ok (.aload_n 0, 1) := by decide +kernel
theorem dccJ5_append_3fe6f_56 : decode cJ5_append_3fe6f 56 = .ok (.aload_n 0, 1) := by decide +kernel
theorem dccJ5_append_3fe6f_57 : decode cJ5_append_3fe6f 57 = .ok (.getfield 15, 3) := by decide +kernel
theorem dccJ5_append_3fe6f_60 : decode cJ5_append_3fe6f 60 = .ok (.aload_n 0, 1) := by decide +kernel
theorem dccJ5_append_3fe6f_61 : decode cJ5_append_3fe6f 61 = .ok (.dup, 1) := by decide +kernel
theorem dccJ5_append_3fe6f_62 : decode cJ5_append_3fe6f 62 = .ok (.getfield 79, 3) := by decide +kernel
theorem dccJ5_append_3fe6f_65 : decode cJ5_append_3fe6f 65 = .ok (.dup_x1, 1) := by decide +kernel
theorem dccJ5_append_3fe6f_66 : decode cJ5_append_3fe6f 66 = .ok (.iconst 1, 1) := by decide +kernel
theorem dccJ5_append_3fe6f_67 : decode cJ5_append_3fe6f 67 = .ok (.iadd, 1) := by decide +kernel
theorem dccJ5_append_3fe6f_68 : decode cJ5_append_3fe6f 68 = .ok (.putfield 79, 3) := by decide +kernel
theorem dccJ5_append_3fe6f_71 : decode cJ5_append_3fe6f 71 = .ok (.iload_n 1, 1) := by decide +kernel
theorem dccJ5_append_3fe6f_75 : decode cJ5_append_3fe6f 75 = .ok (.aload_n 0, 1) := by decide +kernel
theorem dccJ5_append_3fe6f_76 : decode cJ5_append_3fe6f 76 = .ok (.areturn, 1) := by decide +kernel
theorem dccJ5_ensureCapacityInternal_d00df_0 : decode cJ5_ensureCapacityInternal_d00df 0 = .ok (.aload_n 0, 1) := by decide +kernel
theorem dccJ5_ensureCapacityInternal_d00df_1 : decode cJ5_ensureCapacityInternal_d00df 1 = .ok (.getfield 15, 3) := by decide +kernel
theorem dccJ5_ensureCapacityInternal_d00df_4 : decode cJ5_ensureCapacityInternal_d00df 4 = .ok (.arraylength, 1) := by decide +kernel
theorem dccJ5_ensureCapacityInternal_d00df_5 : decode cJ5_ensureCapacityInternal_d00df 5 = .ok (.aload_n 0, 1) := by decide +kernel
theorem dccJ5_ensureCapacityInternal_d00df_6 : decode cJ5_ensureCapacityInternal_d00df 6 = .ok (.getfield 22, 3) := by decide +kernel
theorem dccJ5_ensureCapacityInternal_d00df_9 : decode cJ5_ensureCapacityInternal_d00df 9 = .ok (.ishr, 1) := by decide +kernel
theorem dccJ5_ensureCapacityInternal_d00df_10 : decode cJ5_ensureCapacityInternal_d00df 10 = .ok (.istore_n 2, 1) := by decide +kernel
theorem dccJ5_ensureCapacityInternal_d00df_11 : decode cJ5_ensureCapacityInternal_d00df 11 = .ok (.iload_n 1, 1) := by decide +kernel
theorem dccJ5_ensureCapacityInternal_d00df_12 : decode cJ5_ensureCapacityInternal_d00df 12 = .ok (.iload_n 2, 1) := by decide +kernel
theorem dccJ5_ensureCapacityInternal_d00df_13 : decode cJ5_ensureCapacityInternal_d00df 13 = .ok (.isub, 1) := by decide +kernel
theorem dccJ5_ensureCapacityInternal_d00df_14 : decode cJ5_ensureCapacityInternal_d00df 14 = .ok (.ifCond .le 24, 3) := by decide +kernel
theorem dccJ5_ensureCapacityInternal_d00df_17 : decode cJ5_ensureCapacityInternal_d00df 17 = .ok (.aload_n 0, 1) := by decide +kernel
theorem dccJ5_ensureCapacityInternal_d00df_18 : decode cJ5_ensureCapacityInternal_d00df 18 = .ok (.aload_n 0, 1) := by decide +kernel
theorem dccJ5_ensureCapacityInternal_d00df_19 : decode cJ5_ensureCapacityInternal_d00df 19 = .ok (.getfield 15, 3) := by decide +kernel
theorem dccJ5_ensureCapacityInternal_d00df_22 : decode cJ5_ensureCapacityInternal_d00df 22 = .ok (.aload_n 0, 1) := by decide +kernel
theorem dccJ5_ensureCapacityInternal_d00df_23 : decode cJ5_ensureCapacityInternal_d00df 23 = .ok (.iload_n 1, 1) := by decide +kernel
theorem dccJ5_ensureCapacityInternal_d00df_38 : decode cJ5_ensureCapacityInternal_d00df 38 = .ok (.return_, 1) := by decide +kernel
theorem dccJ5_getValue_6d5f1_0 : decode cJ5_getValue_6d5f1 0 = .ok (.aload_n 0, 1) := by decide +kernel
theorem dccJ5_getValue_6d5f1_1 : decode cJ5_getValue_6d5f1 1 = .ok (.getfield 15, 3) := by decide +kernel
theorem dccJ5_getValue_6d5f1_4 : decode cJ5_getValue_6d5f1 4 = .ok (.areturn, 1) := by decide +kernel
theorem dccJ5_init_d00df_0 : decode cJ5_init_d00df 0 = .ok (.aload_n 0, 1) := by decide +kernel
theorem dccJ5_init_d00df_1 : decode cJ5_init_d00df 1 = .ok (.invokespecial 3, 3) := by decide +kernel
theorem dccJ5_init_d00df_4 : decode cJ5_init_d00df 4 = .ok (.getstatic 18, 3) := by decide +kernel
theorem dccJ5_init_d00df_7 : decode cJ5_init_d00df 7 = .ok (.ifCond .eq 18, 3) := by decide +kernel
theorem dccJ5_init_d00df_10 : decode cJ5_init_d00df 10 = .ok (.aload_n 0, 1) := by decide +kernel
theorem dccJ5_init_d00df_11 : decode cJ5_init_d00df 11 = .ok (.iload_n 1, 1) := by decide +kernel
theorem dccJ5_init_d00df_12 : decode cJ5_init_d00df 12 = .ok (.newarray .byte, 2) := by decide +kernel
theorem dccJ5_init_d00df_14 : decode cJ5_init_d00df 14 = .ok (.putfield 15, 3) := by decide +kernel
theorem dccJ5_init_d00df_17 : decode cJ5_init_d00df 17 = .ok (.aload_n 0, 1) := by decide +kernel
theorem dccJ5_init_d00df_18 : decode cJ5_init_d00df 18 = .ok (.iconst 0, 1) := by decide +kernel
theorem dccJ5_init_d00df_19 : decode cJ5_init_d00df 19 = .ok (.putfield 22, 3) := by decide +kernel
theorem dccJ5_init_d00df_22 : decode cJ5_init_d00df 22 = .ok (.goto 16, 3) := by decide +kernel
theorem dccJ5_init_d00df_25 : decode cJ5_init_d00df 25 = .ok (.aload_n 0, 1) := by decide +kernel
theorem dccJ5_init_d00df_26 : decode cJ5_init_d00df 26 = .ok (.iload_n 1, 1) := by decide +kernel
theorem dccJ5_init_d00df_38 : decode cJ5_init_d00df 38 = .ok (.return_, 1) := by decide +kernel
theorem dccJ5_isLatin1_aae02_0 : decode cJ5_isLatin1_aae02 0 = .ok (.getstatic 18, 3) := by decide +kernel
theorem dccJ5_isLatin1_aae02_3 : decode cJ5_isLatin1_aae02 3 = .ok (.ifCond .eq 14, 3) := by decide +kernel
theorem dccJ5_isLatin1_aae02_6 : decode cJ5_isLatin1_aae02 6 = .ok (.aload_n 0, 1) := by decide +kernel
theorem dccJ5_isLatin1_aae02_7 : decode cJ5_isLatin1_aae02 7 = .ok (.getfield 22, 3) := by decide +kernel
theorem dccJ5_isLatin1_aae02_10 : decode cJ5_isLatin1_aae02 10 = .ok (.ifCond .ne 7, 3) := by decide +kernel
theorem dccJ5_isLatin1_aae02_13 : decode cJ5_isLatin1_aae02 13 = .ok (.iconst 1, 1) := by decide +kernel
theorem dccJ5_isLatin1_aae02_14 : decode cJ5_isLatin1_aae02 14 = .ok (.goto 4, 3) := by decide +kernel
theorem dccJ5_isLatin1_aae02_17 : decode cJ5_isLatin1_aae02 17 = .ok (.iconst 0, 1) := by decide +kernel
theorem dccJ5_isLatin1_aae02_18 : decode cJ5_isLatin1_aae02 18 = .ok (.ireturn, 1) := by decide +kernel
theorem dccJ5_length_8abf5_0 : decode cJ5_length_8abf5 0 = .ok (.aload_n 0, 1) := by decide +kernel
theorem dccJ5_length_8abf5_1 : decode cJ5_length_8abf5 1 = .ok (.getfield 79, 3) := by decide +kernel
theorem dccJ5_length_8abf5_4 : decode cJ5_length_8abf5 4 = .ok (.ireturn, 1) := by decide +kernel
theorem dccJ6_bitCount_0f7a4_0 : decode cJ6_bitCount_0f7a4 0 = .ok (.iload_n 0, 1) := by decide +kernel
theorem dccJ6_bitCount_0f7a4_1 : decode cJ6_bitCount_0f7a4 1 = .ok (.iload_n 0, 1) := by decide +kernel
theorem dccJ6_bitCount_0f7a4_2 : decode cJ6_bitCount_0f7a4 2 = .ok (.iconst 1, 1) := by decide +kernel
theorem dccJ6_bitCount_0f7a4_3 : decode cJ6_bitCount_0f7a4 3 = .ok (.iushr, 1) := by decide +kernel
theorem dccJ6_bitCount_0f7a4_4 : decode cJ6_bitCount_0f7a4 4 = .ok (.ldc_w 265, 3) := by decide +kernel
theorem dccJ6_bitCount_0f7a4_7 : decode cJ6_bitCount_0f7a4 7 = .ok (.iand, 1) := by decide +kernel
theorem dccJ6_bitCount_0f7a4_8 : decode cJ6_bitCount_0f7a4 8 = .ok (.isub, 1) := by decide +kernel
theorem dccJ6_bitCount_0f7a4_9 : decode cJ6_bitCount_0f7a4 9 = .ok (.istore_n 0, 1) := by decide +kernel
theorem dccJ6_bitCount_0f7a4_10 : decode cJ6_bitCount_0f7a4 10 = .ok (.iload_n 0, 1) := by decide +kernel
theorem dccJ6_bitCount_0f7a4_11 : decode cJ6_bitCount_0f7a4 11 = .ok (.ldc_w 266, 3) := by decide +kernel
theorem dccJ6_bitCount_0f7a4_14 : decode cJ6_bitCount_0f7a4 14 = .ok (.iand, 1) := by decide +kernel
theorem dccJ6_bitCount_0f7a4_15 : decode cJ6_bitCount_0f7a4 15 = .ok (.iload_n 0, 1) := by decide +kernel
theorem dccJ6_bitCount_0f7a4_16 : decode cJ6_bitCount_0f7a4 16 = .ok (.iconst 2, 1) := by decide +kernel
theorem dccJ6_bitCount_0f7a4_17 : decode cJ6_bitCount_0f7a4 17 = .ok (.iushr, 1) := by decide +kernel
theorem dccJ6_bitCount_0f7a4_18 : decode cJ6_bitCount_0f7a4 18 = .ok (.ldc_w 266, 3) := by decide +kernel
theorem dccJ6_bitCount_0f7a4_21 : decode cJ6_bitCount_0f7a4 21 = .ok (.iand, 1) := by decide +kernel
theorem dccJ6_bitCount_0f7a4_22 : decode cJ6_bitCount_0f7a4 22 = .ok (.iadd, 1) := by decide +kernel
theorem dccJ6_bitCount_0f7a4_23 : decode cJ6_bitCount_0f7a4 23 = .ok (.istore_n 0, 1) := by decide +kernel
theorem dccJ6_bitCount_0f7a4_24 : decode cJ6_bitCount_0f7a4 24 = .ok (.iload_n 0, 1) := by decide +kernel
theorem dccJ6_bitCount_0f7a4_25 : decode cJ6_bitCount_0f7a4 25 = .ok (.iload_n 0, 1) := by decide +kernel
theorem dccJ6_bitCount_0f7a4_26 : decode cJ6_bitCount_0f7a4 26 = .ok (.iconst 4, 1) := by decide +kernel
theorem dccJ6_bitCount_0f7a4_27 : decode cJ6_bitCount_0f7a4 27 = .ok (.iushr, 1) := by decide +kernel
theorem dccJ6_bitCount_0f7a4_28 : decode cJ6_bitCount_0f7a4 28 = .ok (.iadd, 1) := by decide +kernel
theorem dccJ6_bitCount_0f7a4_29 : decode cJ6_bitCount_0f7a4 29 = .ok (.ldc_w 267, 3) := by decide +kernel
theorem dccJ6_bitCount_0f7a4_32 : decode cJ6_bitCount_0f7a4 32 = .ok (.iand, 1) := by decide +kernel
theorem dccJ6_bitCount_0f7a4_33 : decode cJ6_bitCount_0f7a4 33 = .ok (.istore_n 0, 1) := by decide +kernel
theorem dccJ6_bitCount_0f7a4_34 : decode cJ6_bitCount_0f7a4 34 = .ok (.iload_n 0, 1) := by decide +kernel
theorem dccJ6_bitCount_0f7a4_35 : decode cJ6_bitCount_0f7a4 35 = .ok (.iload_n 0, 1) := by decide +kernel
theorem dccJ6_bitCount_0f7a4_36 : decode cJ6_bitCount_0f7a4 36 = .ok (.bipush 8, 2) := by decide +kernel
theorem dccJ6_bitCount_0f7a4_38 : decode cJ6_bitCount_0f7a4 38 = .ok (.iushr, 1) := by decide +kernel
theorem dccJ6_bitCount_0f7a4_39 : decode cJ6_bitCount_0f7a4 39 = .ok (.iadd, 1) := by decide +kernel
theorem dccJ6_bitCount_0f7a4_40 : decode cJ6_bitCount_0f7a4 40 = .ok (.istore_n 0, 1) := by decide +kernel
theorem dccJ6_bitCount_0f7a4_41 : decode cJ6_bitCount_0f7a4 41 = .ok (.iload_n 0, 1) := by decide +kernel
theorem dccJ6_bitCount_0f7a4_42 : decode cJ6_bitCount_0f7a4 42 = .ok (.iload_n 0, 1) := by decide +kernel
theorem dccJ6_bitCount_0f7a4_43 : decode cJ6_bitCount_0f7a4 43 = .ok (.bipush 16, 2) := by decide +kernel
theorem dccJ6_bitCount_0f7a4_45 : decode cJ6_bitCount_0f7a4 45 = .ok (.iushr, 1) := by decide +kernel
theorem dccJ6_bitCount_0f7a4_46 : decode cJ6_bitCount_0f7a4 46 = .ok (.iadd, 1) := by decide +kernel
theorem dccJ6_bitCount_0f7a4_47 : decode cJ6_bitCount_0f7a4 47 = .ok (.istore_n 0, 1) := by decide +kernel
theorem dccJ6_bitCount_0f7a4_48 : decode cJ6_bitCount_0f7a4 48 = .ok (.iload_n 0, 1) := by decide +kernel
theorem dccJ6_bitCount_0f7a4_49 : decode cJ6_bitCount_0f7a4 49 = .ok (.bipush 63, 2) := by decide +kernel
theorem dccJ6_bitCount_0f7a4_51 : decode cJ6_bitCount_0f7a4 51 = .ok (.iand, 1) := by decide +kernel
theorem dccJ6_bitCount_0f7a4_52 : decode cJ6_bitCount_0f7a4 52 = .ok (.ireturn, 1) := by decide +kernel
theorem dccJ7_checkLength_df160_0 : decode cJ7_checkLength_df160 0 = .ok (.iload_n 1, 1) := by decide +kernel
theorem dccJ7_checkLength_df160_1 : decode cJ7_checkLength_df160 1 = .ok (.iload_n 0, 1) := by decide +kernel
theorem dccJ7_checkLength_df160_2 : decode cJ7_checkLength_df160 2 = .ok (.if_icmp .ge 35, 3) := by decide +kernel
theorem dccJ7_checkLength_df160_37 : decode cJ7_checkLength_df160 37 = .ok (.return_, 1) := by decide +kernel
theorem dccJ7_copyOfRangeByte_39247_0 : decode cJ7_copyOfRangeByte_39247 0 = .ok (.iload_n 1, 1) := by decide +kernel
theorem dccJ7_copyOfRangeByte_39247_1 : decode cJ7_copyOfRangeByte_39247 1 = .ok (.iload_n 2, 1) := by decide +kernel
theorem dccJ7_copyOfRangeByte_39247_2 : decode cJ7_copyOfRangeByte_39247 2 = .ok (.invokestatic 343, 3) := by decide +kernel
theorem dccJ7_copyOfRangeByte_39247_5 : decode cJ7_copyOfRangeByte_39247 5 = .ok (.iload_n 2, 1) := by decide +kernel
theorem dccJ7_copyOfRangeByte_39247_6 : decode cJ7_copyOfRangeByte_39247 6 = .ok (.iload_n 1, 1) := by decide +kernel
theorem dccJ7_copyOfRangeByte_39247_7 : decode cJ7_copyOfRangeByte_39247 7 = .ok (.isub, 1) := by decide +kernel
theorem dccJ7_copyOfRangeByte_39247_8 : decode cJ7_copyOfRangeByte_39247 8 = .ok (.istore_n 3, 1) := by decide +kernel
theorem dccJ7_copyOfRangeByte_39247_9 : decode cJ7_copyOfRangeByte_39247 9 = .ok (.iload_n 3, 1) := by decide +kernel
theorem dccJ7_copyOfRangeByte_39247_10 : decode cJ7_copyOfRangeByte_39247 10 = .ok (.newarray .byte, 2) := by decide +kernel
theorem dccJ7_copyOfRangeByte_39247_12 : decode cJ7_copyOfRangeByte_39247 12 = .ok (.astore 4, 2) := by decide +kernel
theorem dccJ7_copyOfRangeByte_39247_14 : decode cJ7_copyOfRangeByte_39247 14 = .ok (.aload_n 0, 1) := by decide +kernel
theorem dccJ7_copyOfRangeByte_39247_15 : decode cJ7_copyOfRangeByte_39247 15 = .ok (.iload_n 1, 1) := by decide +kernel
theorem dccJ7_copyOfRangeByte_39247_16 : decode cJ7_copyOfRangeByte_39247 16 = .ok (.aload 4, 2) := by decide +kernel
theorem dccJ7_copyOfRangeByte_39247_18 : decode cJ7_copyOfRangeByte_39247 18 = .ok (.iconst 0, 1) := by decide +kernel
theorem dccJ7_copyOfRangeByte_39247_19 : decode cJ7_copyOfRangeByte_39247 19 = .ok (.aload_n 0, 1) := by decide +kernel
theorem dccJ7_copyOfRangeByte_39247_20 : decode cJ7_copyOfRangeByte_39247 20 = .ok (.arraylength, 1) := by decide +kernel
theorem dccJ7_copyOfRangeByte_39247_21 : decode cJ7_copyOfRangeByte_39247 21 = .ok (.iload_n 1, 1) := by decide +kernel
theorem dccJ7_copyOfRangeByte_39247_22 : decode cJ7_copyOfRangeByte_39247 22 = .ok (.isub, 1) := by decide +kernel
theorem dccJ7_copyOfRangeByte_39247_23 : decode cJ7_copyOfRangeByte_39247 23 = .ok (.iload_n 3, 1) := by decide +kernel
theorem dccJ7_copyOfRangeByte_39247_24 : decode cJ7_copyOfRangeByte_39247 24 = .ok (.invokestatic 304, 3) := by decide +kernel
theorem dccJ7_copyOfRangeByte_39247_27 : decode cJ7_copyOfRangeByte_39247 27 = .ok (.invokestatic 150, 3) := by decide +kernel
theorem dccJ7_copyOfRangeByte_39247_30 : decode cJ7_copyOfRangeByte_39247 30 = .ok (.aload 4, 2) := by decide +kernel
theorem dccJ7_copyOfRangeByte_39247_32 : decode cJ7_copyOfRangeByte_39247 32 = .ok (.areturn, 1) := by decide +kernel
theorem dccJ7_copyOfRange_39247_0 : decode cJ7_copyOfRange_39247 0 = .ok (.iload_n 1, 1) := by decide +kernel
theorem dccJ7_copyOfRange_39247_1 : decode cJ7_copyOfRange_39247 1 = .ok (.ifCond .ne 9, 3) := by decide +kernel
theorem dccJ7_copyOfRange_39247_4 : decode cJ7_copyOfRange_39247 4 = .ok (.iload_n 2, 1) := by decide +kernel
theorem dccJ7_copyOfRange_39247_5 : decode cJ7_copyOfRange_39247 5 = .ok (.aload_n 0, 1) := by decide +kernel
theorem dccJ7_copyOfRange_39247_6 : decode cJ7_copyOfRange_39247 6 = .ok (.arraylength, 1) := by decide +kernel
theorem dccJ7_copyOfRange_39247_7 : decode cJ7_copyOfRange_39247 7 = .ok (.if_icmp .eq 10, 3) := by decide +kernel
theorem dccJ7_copyOfRange_39247_10 : decode cJ7_copyOfRange_39247 10 = .ok (.aload_n 0, 1) := by decide +kernel
theorem dccJ7_copyOfRange_39247_11 : decode cJ7_copyOfRange_39247 11 = .ok (.iload_n 1, 1) := by decide +kernel
theorem dccJ7_copyOfRange_39247_12 : decode cJ7_copyOfRange_39247 12 = .ok (.iload_n 2, 1) := by decide +kernel
theorem dccJ7_copyOfRange_39247_13 : decode cJ7_copyOfRange_39247 13 = .ok (.invokestatic 339, 3) := by decide +kernel
theorem dccJ7_copyOfRange_39247_16 : decode cJ7_copyOfRange_39247 16 = .ok (.areturn, 1) := by decide +kernel
theorem dccJ7_copyOfRange_39247_17 : decode cJ7_copyOfRange_39247 17 = .ok (.aload_n 0, 1) := by decide +kernel
theorem dccJ7_copyOf_1904c_0 : decode cJ7_copyOf_1904c 0 = .ok (.aload_n 0, 1) := by decide +kernel
theorem dccJ7_copyOf_1904c_1 : decode cJ7_copyOf_1904c 1 = .ok (.iload_n 1, 1) := by decide +kernel
theorem dccJ7_copyOf_1904c_2 : decode cJ7_copyOf_1904c 2 = .ok (.aload_n 0, 1) := by decide +kernel
theorem dccJ7_copyOf_1904c_3 : decode cJ7_copyOf_1904c 3 = .ok (.invokevirtual 86, 3) := by decide +kernel
theorem dccJ7_copyOf_1904c_6 : decode cJ7_copyOf_1904c 6 = .ok (.invokestatic 300, 3) := by decide +kernel
theorem dccJ7_copyOf_1904c_9 : decode cJ7_copyOf_1904c 9 = .ok (.areturn, 1) := by decide +kernel
theorem dccJ7_copyOf_6403c_0 : decode cJ7_copyOf_6403c 0 = .ok (.aload_n 2, 1) := by decide +kernel
theorem dccJ7_copyOf_6403c_1 : decode cJ7_copyOf_6403c 1 = .ok (.ldc 110, 2) := by decide +kernel
theorem dccJ7_copyOf_6403c_3 : decode cJ7_copyOf_6403c 3 = .ok (.if_acmp .ne 10, 3) := by decide +kernel
theorem dccJ7_copyOf_6403c_6 : decode cJ7_copyOf_6403c 6 = .ok (.iload_n 1, 1) := by decide +kernel
theorem dccJ7_copyOf_6403c_7 : decode cJ7_copyOf_6403c 7 = .ok (.anewarray 2, 3) := by decide +kernel
theorem dccJ7_copyOf_6403c_10 : decode cJ7_copyOf_6403c 10 = .ok (.goto 14, 3) := by decide +kernel
theorem dccJ7_copyOf_6403c_13 : decode cJ7_copyOf_6403c 13 = .ok (.aload_n 2, 1) := by decide +kernel
theorem dccJ7_copyOf_6403c_24 : decode cJ7_copyOf_6403c 24 = .ok (.astore_n 3, 1) := by decide +kernel
theorem dccJ7_copyOf_6403c_25 : decode cJ7_copyOf_6403c 25 = .ok (.aload_n 0, 1) := by decide +kernel
theorem dccJ7_copyOf_6403c_26 : decode cJ7_copyOf_6403c 26 = .ok (.iconst 0, 1) := by decide +kernel
theorem dccJ7_copyOf_6403c_27 : decode cJ7_copyOf_6403c 27 = .ok (.aload_n 3, 1) := by decide +kernel
theorem dccJ7_copyOf_6403c_28 : decode cJ7_copyOf_6403c 28 = .ok (.iconst 0, 1) := by decide +kernel
theorem dccJ7_copyOf_6403c_29 : decode cJ7_copyOf_6403c 29 = .ok (.aload_n 0, 1) := by decide +kernel
theorem dccJ7_copyOf_6403c_30 : decode cJ7_copyOf_6403c 30 = .ok (.arraylength, 1) := by decide +kernel
theorem dccJ7_copyOf_6403c_31 : decode cJ7_copyOf_6403c 31 = .ok (.iload_n 1, 1) := by decide +kernel
theorem dccJ7_copyOf_6403c_32 : decode cJ7_copyOf_6403c 32 = .ok (.invokestatic 304, 3) := by decide +kernel
theorem dccJ7_copyOf_6403c_35 : decode cJ7_copyOf_6403c 35 = .ok (.invokestatic 150, 3) := by decide +kernel
theorem dccJ7_copyOf_6403c_38 : decode cJ7_copyOf_6403c 38 = .ok (.aload_n 3, 1) := by decide +kernel
theorem dccJ7_copyOf_6403c_39 : decode cJ7_copyOf_6403c 39 = .ok (.areturn, 1) := by decide +kernel
theorem dccJ8_newLength_cabcc_0 : decode cJ8_newLength_cabcc 0 = .ok (.iload_n 0, 1) := by decide +kernel
theorem dccJ8_newLength_cabcc_1 : decode cJ8_newLength_cabcc 1 = .ok (.iload_n 1, 1) := by decide +kernel
theorem dccJ8_newLength_cabcc_2 : decode cJ8_newLength_cabcc 2 = .ok (.iload_n 2, 1) := by decide +kernel
theorem dccJ8_newLength_cabcc_3 : decode cJ8_newLength_cabcc 3 = .ok (.invokestatic 194, 3) := by decide +kernel
theorem dccJ8_newLength_cabcc_6 : decode cJ8_newLength_cabcc 6 = .ok (.iadd, 1) := by decide +kernel
theorem dccJ8_newLength_cabcc_7 : decode cJ8_newLength_cabcc 7 = .ok (.istore_n 3, 1) := by decide +kernel
theorem dccJ8_newLength_cabcc_8 : decode cJ8_newLength_cabcc 8 = .ok (.iconst 0, 1) := by decide +kernel
theorem dccJ8_newLength_cabcc_9 : decode cJ8_newLength_cabcc 9 = .ok (.iload_n 3, 1) := by decide +kernel
theorem dccJ8_newLength_cabcc_10 : decode cJ8_newLength_cabcc 10 = .ok (.if_icmp .ge 11, 3) := by decide +kernel
theorem dccJ8_newLength_cabcc_13 : decode cJ8_newLength_cabcc 13 = .ok (.iload_n 3, 1) := by decide +kernel
theorem dccJ8_newLength_cabcc_14 : decode cJ8_newLength_cabcc 14 = .ok (.ldc 200, 2) := by decide +kernel
theorem dccJ8_newLength_cabcc_16 : decode cJ8_newLength_cabcc 16 = .ok (.if_icmp .gt 5, 3) := by decide +kernel
theorem dccJ8_newLength_cabcc_19 : decode cJ8_newLength_cabcc 19 = .ok (.iload_n 3, 1) := by decide +kernel
theorem dccJ8_newLength_cabcc_20 : decode cJ8_newLength_cabcc 20 = .ok (.ireturn, 1) := by decide +kernel
theorem dccJ8_newLength_cabcc_21 : decode cJ8_newLength_cabcc 21 = .ok (.iload_n 0, 1) := by decide +kernel
theorem dccJ8_newLength_cabcc_22 : decode cJ8_newLength_cabcc 22 = .ok (.iload_n 1, 1) := by decide +kernel
theorem dccJ9_abs_0f7a4_0 : decode cJ9_abs_0f7a4 0 = .ok (.iload_n 0, 1) := by decide +kernel
theorem dccJ9_abs_0f7a4_1 : decode cJ9_abs_0f7a4 1 = .ok (.ifCond .ge 8, 3) := by decide +kernel
theorem dccJ9_abs_0f7a4_4 : decode cJ9_abs_0f7a4 4 = .ok (.iload_n 0, 1) := by decide +kernel
theorem dccJ9_abs_0f7a4_5 : decode cJ9_abs_0f7a4 5 = .ok (.ineg, 1) := by decide +kernel
theorem dccJ9_abs_0f7a4_6 : decode cJ9_abs_0f7a4 6 = .ok (.goto 4, 3) := by decide +kernel
theorem dccJ9_abs_0f7a4_9 : decode cJ9_abs_0f7a4 9 = .ok (.iload_n 0, 1) := by decide +kernel
theorem dccJ9_abs_0f7a4_10 : decode cJ9_abs_0f7a4 10 = .ok (.ireturn, 1) := by decide +kernel
theorem dccJ9_max_7cf53_0 : decode cJ9_max_7cf53 0 = .ok (.iload_n 0, 1) := by decide +kernel
theorem dccJ9_max_7cf53_1 : decode cJ9_max_7cf53 1 = .ok (.iload_n 1, 1) := by decide +kernel
theorem dccJ9_max_7cf53_2 : decode cJ9_max_7cf53 2 = .ok (.if_icmp .lt 7, 3) := by decide +kernel
theorem dccJ9_max_7cf53_5 : decode cJ9_max_7cf53 5 = .ok (.iload_n 0, 1) := by decide +kernel
theorem dccJ9_max_7cf53_6 : decode cJ9_max_7cf53 6 = .ok (.goto 4, 3) := by decide +kernel
theorem dccJ9_max_7cf53_9 : decode cJ9_max_7cf53 9 = .ok (.iload_n 1, 1) := by decide +kernel
theorem dccJ9_max_7cf53_10 : decode cJ9_max_7cf53 10 = .ok (.ireturn, 1) := by decide +kernel
theorem dccJ9_min_7cf53_0 : decode cJ9_min_7cf53 0 = .ok (.iload_n 0, 1) := by decide +kernel
theorem dccJ9_min_7cf53_1 : decode cJ9_min_7cf53 1 = .ok (.iload_n 1, 1) := by decide +kernel
theorem dccJ9_min_7cf53_2 : decode cJ9_min_7cf53 2 = .ok (.if_icmp .gt 7, 3) := by decide +kernel
theorem dccJ9_min_7cf53_5 : decode cJ9_min_7cf53 5 = .ok (.iload_n 0, 1) := by decide +kernel
theorem dccJ9_min_7cf53_6 : decode cJ9_min_7cf53 6 = .ok (.goto 4, 3) := by decide +kernel
theorem dccJ9_min_7cf53_9 : decode cJ9_min_7cf53 9 = .ok (.iload_n 1, 1) := by decide +kernel
theorem dccJ9_min_7cf53_10 : decode cJ9_min_7cf53 10 = .ok (.ireturn, 1) := by decide +kernel
theorem dccJx4a65c_add_72be8_0 : decode cJx4a65c_add_72be8 0 = .ok (.iload_n 3, 1) := by decide +kernel
theorem dccJx4a65c_add_72be8_1 : decode cJx4a65c_add_72be8 1 = .ok (.aload_n 2, 1) := by decide +kernel
theorem dccJx4a65c_add_72be8_2 : decode cJx4a65c_add_72be8 2 = .ok (.arraylength, 1) := by decide +kernel
theorem dccJx4a65c_add_72be8_3 : decode cJx4a65c_add_72be8 3 = .ok (.if_icmp .ne 8, 3) := by decide +kernel
theorem dccJx4a65c_add_72be8_6 : decode cJx4a65c_add_72be8 6 = .ok (.aload_n 0, 1) := by decide +kernel
theorem dccJx4a65c_add_72be8_7 : decode cJx4a65c_add_72be8 7 = .ok (.invokevirtual 129, 3) := by decide +kernel
theorem dccJx4a65c_add_72be8_10 : decode cJx4a65c_add_72be8 10 = .ok (.astore_n 2, 1) := by decide +kernel
theorem dccJx4a65c_add_72be8_11 : decode cJx4a65c_add_72be8 11 = .ok (.aload_n 2, 1) := by decide +kernel
theorem dccJx4a65c_add_72be8_12 : decode cJx4a65c_add_72be8 12 = .ok (.iload_n 3, 1) := by decide +kernel
theorem dccJx4a65c_add_72be8_13 : decode cJx4a65c_add_72be8 13 = .ok (.aload_n 1, 1) := by decide +kernel
theorem dccJx4a65c_add_72be8_14 : decode cJx4a65c_add_72be8 14 = .ok (.aastore, 1) := by decide +kernel
theorem dccJx4a65c_add_72be8_15 : decode cJx4a65c_add_72be8 15 = .ok (.aload_n 0, 1) := by decide +kernel
theorem dccJx4a65c_add_72be8_16 : decode cJx4a65c_add_72be8 16 = .ok (.iload_n 3, 1) := by decide +kernel
theorem dccJx4a65c_add_72be8_17 : decode cJx4a65c_add_72be8 17 = .ok (.iconst 1, 1) := by decide +kernel
theorem dccJx4a65c_add_72be8_18 : decode cJx4a65c_add_72be8 18 = .ok (.iadd, 1) := by decide +kernel
theorem dccJx4a65c_add_72be8_19 : decode cJx4a65c_add_72be8 19 = .ok (.putfield 48, 3) := by decide +kernel
theorem dccJx4a65c_add_72be8_22 : decode cJx4a65c_add_72be8 22 = .ok (.return_, 1) := by decide +kernel
theorem dccJx4a65c_add_9ea2d_0 : decode cJx4a65c_add_9ea2d 0 = .ok (.aload_n 0, 1) := by decide +kernel
theorem dccJx4a65c_add_9ea2d_1 : decode cJx4a65c_add_9ea2d 1 = .ok (.dup, 1) := by decide +kernel
theorem dccJx4a65c_add_9ea2d_2 : decode cJx4a65c_add_9ea2d 2 = .ok (.getfield 63, 3) := by decide +kernel
theorem dccJx4a65c_add_9ea2d_5 : decode cJx4a65c_add_9ea2d 5 = .ok (.iconst 1, 1) := by decide +kernel
theorem dccJx4a65c_add_9ea2d_6 : decode cJx4a65c_add_9ea2d 6 = .ok (.iadd, 1) := by decide +kernel
theorem dccJx4a65c_add_9ea2d_7 : decode cJx4a65c_add_9ea2d 7 = .ok (.putfield 63, 3) := by decide +kernel
theorem dccJx4a65c_add_9ea2d_10 : decode cJx4a65c_add_9ea2d 10 = .ok (.aload_n 0, 1) := by decide +kernel
theorem dccJx4a65c_add_9ea2d_11 : decode cJx4a65c_add_9ea2d 11 = .ok (.aload_n 1, 1) := by decide +kernel
theorem dccJx4a65c_add_9ea2d_12 : decode cJx4a65c_add_9ea2d 12 = .ok (.aload_n 0, 1) := by decide +kernel
theorem dccJx4a65c_add_9ea2d_13 : decode cJx4a65c_add_9ea2d 13 = .ok (.getfield 9, 3) := by decide +kernel
theorem dccJx4a65c_add_9ea2d_16 : decode cJx4a65c_add_9ea2d 16 = .ok (.aload_n 0, 1) := by decide +kernel
theorem dccJx4a65c_add_9ea2d_17 : decode cJx4a65c_add_9ea2d 17 = .ok (.getfield 48, 3) := by decide +kernel
theorem dccJx4a65c_add_9ea2d_20 : decode cJx4a65c_add_9ea2d 20 = .ok (.invokevirtual 131, 3) := by decide +kernel
theorem dccJx4a65c_add_9ea2d_23 : decode cJx4a65c_add_9ea2d 23 = .ok (.iconst 1, 1) := by decide +kernel
theorem dccJx4a65c_add_9ea2d_24 : decode cJx4a65c_add_9ea2d 24 = .ok (.ireturn, 1) := by decide +kernel
theorem dccJx4a65c_elementData_915e3_0 : decode cJx4a65c_elementData_915e3 0 = .ok (.aload_n 0, 1) := by decide +kernel
theorem dccJx4a65c_elementData_915e3_1 : decode cJx4a65c_elementData_915e3 1 = .ok (.getfield 9, 3) := by decide +kernel
theorem dccJx4a65c_elementData_915e3_4 : decode cJx4a65c_elementData_915e3 4 = .ok (.iload_n 1, 1) := by decide +kernel
theorem dccJx4a65c_elementData_915e3_5 : decode cJx4a65c_elementData_915e3 5 = .ok (.aaload, 1) := by decide +kernel
theorem dccJx4a65c_elementData_915e3_6 : decode cJx4a65c_elementData_915e3 6 = .ok (.areturn, 1) := by decide +kernel
theorem dccJx4a65c_get_915e3_0 : decode cJx4a65c_get_915e3 0 = .ok (.iload_n 1, 1) := by decide +kernel
theorem dccJx4a65c_get_915e3_1 : decode cJx4a65c_get_915e3 1 = .ok (.aload_n 0, 1) := by decide +kernel
theorem dccJx4a65c_get_915e3_2 : decode cJx4a65c_get_915e3 2 = .ok (.getfield 48, 3) := by decide +kernel
theorem dccJx4a65c_get_915e3_5 : decode cJx4a65c_get_915e3 5 = .ok (.invokestatic 118, 3) := by decide +kernel
theorem dccJx4a65c_get_915e3_8 : decode cJx4a65c_get_915e3 8 = .ok (.pop, 1) := by decide +kernel
theorem dccJx4a65c_get_915e3_9 : decode cJx4a65c_get_915e3 9 = .ok (.aload_n 0, 1) := by decide +kernel
theorem dccJx4a65c_get_915e3_10 : decode cJx4a65c_get_915e3 10 = .ok (.iload_n 1, 1) := by decide +kernel
theorem dccJx4a65c_get_915e3_11 : decode cJx4a65c_get_915e3 11 = .ok (.invokevirtual 123, 3) := by decide +kernel
theorem dccJx4a65c_get_915e3_14 : decode cJx4a65c_get_915e3 14 = .ok (.areturn, 1) := by decide +kernel
theorem dccJx4a65c_grow_92f84_0 : decode cJx4a65c_grow_92f84 0 = .ok (.aload_n 0, 1) := by decide +kernel
theorem dccJx4a65c_grow_92f84_1 : decode cJx4a65c_grow_92f84 1 = .ok (.getfield 9, 3) := by decide +kernel
theorem dccJx4a65c_grow_92f84_4 : decode cJx4a65c_grow_92f84 4 = .ok (.arraylength, 1) := by decide +kernel
theorem dccJx4a65c_grow_92f84_5 : decode cJx4a65c_grow_92f84 5 = .ok (.istore_n 2, 1) := by decide +kernel
theorem dccJx4a65c_grow_92f84_6 : decode cJx4a65c_grow_92f84 6 = .ok (.iload_n 2, 1) := by decide +kernel
theorem dccJx4a65c_grow_92f84_7 : decode cJx4a65c_grow_92f84 7 = .ok (.ifCond .gt 13, 3) := by decide +kernel
theorem dccJx4a65c_grow_92f84_10 : decode cJx4a65c_grow_92f84 10 = .ok (.aload_n 0, 1) := by decide +kernel
theorem dccJx4a65c_grow_92f84_11 : decode cJx4a65c_grow_92f84 11 = .ok (.getfield 9, 3) := by decide +kernel
theorem dccJx4a65c_grow_92f84_14 : decode cJx4a65c_grow_92f84 14 = .ok (.getstatic 39, 3) := by decide +kernel
theorem dccJx4a65c_grow_92f84_17 : decode cJx4a65c_grow_92f84 17 = .ok (.if_acmp .eq 28, 3) := by decide +kernel
theorem dccJx4a65c_grow_92f84_20 : decode cJx4a65c_grow_92f84 20 = .ok (.iload_n 2, 1) := by decide +kernel
theorem dccJx4a65c_grow_92f84_21 : decode cJx4a65c_grow_92f84 21 = .ok (.iload_n 1, 1) := by decide +kernel
theorem dccJx4a65c_grow_92f84_22 : decode cJx4a65c_grow_92f84 22 = .ok (.iload_n 2, 1) := by decide +kernel
theorem dccJx4a65c_grow_92f84_23 : decode cJx4a65c_grow_92f84 23 = .ok (.isub, 1) := by decide +kernel
theorem dccJx4a65c_grow_92f84_24 : decode cJx4a65c_grow_92f84 24 = .ok (.iload_n 2, 1) := by decide +kernel
theorem dccJx4a65c_grow_92f84_25 : decode cJx4a65c_grow_92f84 25 = .ok (.iconst 1, 1) := by decide +kernel
theorem dccJx4a65c_grow_92f84_26 : decode cJx4a65c_grow_92f84 26 = .ok (.ishr, 1) := by decide +kernel
theorem dccJx4a65c_grow_92f84_27 : decode cJx4a65c_grow_92f84 27 = .ok (.invokestatic 73, 3) := by decide +kernel
theorem dccJx4a65c_grow_92f84_30 : decode cJx4a65c_grow_92f84 30 = .ok (.istore_n 3, 1) := by decide +kernel
theorem dccJx4a65c_grow_92f84_31 : decode cJx4a65c_grow_92f84 31 = .ok (.aload_n 0, 1) := by decide +kernel
theorem dccJx4a65c_grow_92f84_32 : decode cJx4a65c_grow_92f84 32 = .ok (.aload_n 0, 1) := by decide +kernel
theorem dccJx4a65c_grow_92f84_33 : decode cJx4a65c_grow_92f84 33 = .ok (.getfield 9, 3) := by decide +kernel
theorem dccJx4a65c_grow_92f84_36 : decode cJx4a65c_grow_92f84 36 = .ok (.iload_n 3, 1) := by decide +kernel
theorem dccJx4a65c_grow_92f84_37 : decode cJx4a65c_grow_92f84 37 = .ok (.invokestatic 66, 3) := by decide +kernel
theorem dccJx4a65c_grow_92f84_40 : decode cJx4a65c_grow_92f84 40 = .ok (.dup_x1, 1) := by decide +kernel
theorem dccJx4a65c_grow_92f84_41 : decode cJx4a65c_grow_92f84 41 = .ok (.putfield 9, 3) := by decide +kernel
theorem dccJx4a65c_grow_92f84_44 : decode cJx4a65c_grow_92f84 44 = .ok (.areturn, 1) := by decide +kernel
theorem dccJx4a65c_grow_92f84_45 : decode cJx4a65c_grow_92f84 45 = .ok (.aload_n 0, 1) := by decide +kernel
theorem dccJx4a65c_grow_92f84_46 : decode cJx4a65c_grow_92f84 46 = .ok (.bipush 10, 2) := by decide +kernel
theorem dccJx4a65c_grow_92f84_48 : decode cJx4a65c_grow_92f84 48 = .ok (.iload_n 1, 1) := by decide +kernel
theorem dccJx4a65c_grow_92f84_49 : decode cJx4a65c_grow_92f84 49 = .ok (.invokestatic 79, 3) := by decide +kernel
theorem dccJx4a65c_grow_92f84_52 : decode cJx4a65c_grow_92f84 52 = .ok (.anewarray 7, 3) := by decide +kernel
theorem dccJx4a65c_grow_92f84_55 : decode cJx4a65c_grow_92f84 55 = .ok (.dup_x1, 1) := by decide +kernel
theorem dccJx4a65c_grow_92f84_56 : decode cJx4a65c_grow_92f84 56 = .ok (.putfield 9, 3) := by decide +kernel
theorem dccJx4a65c_grow_92f84_59 : decode cJx4a65c_grow_92f84 59 = .ok (.areturn, 1) := by decide +kernel
theorem dccJx4a65c_grow_d5877_0 : decode cJx4a65c_grow_d5877 0 = .ok (.aload_n 0, 1) := by decide +kernel
theorem dccJx4a65c_grow_d5877_1 : decode cJx4a65c_grow_d5877 1 = .ok (.aload_n 0, 1) := by decide +kernel
theorem dccJx4a65c_grow_d5877_2 : decode cJx4a65c_grow_d5877 2 = .ok (.getfield 48, 3) := by decide +kernel
theorem dccJx4a65c_grow_d5877_5 : decode cJx4a65c_grow_d5877 5 = .ok (.iconst 1, 1) := by decide +kernel
theorem dccJx4a65c_grow_d5877_6 : decode cJx4a65c_grow_d5877 6 = .ok (.iadd, 1) := by decide +kernel
theorem dccJx4a65c_grow_d5877_7 : decode cJx4a65c_grow_d5877 7 = .ok (.invokevirtual 69, 3) := by decide +kernel
theorem dccJx4a65c_grow_d5877_10 : decode cJx4a65c_grow_d5877 10 = .ok (.areturn, 1) := by decide +kernel
theorem dccJx4a65c_init_da8c8_0 : decode cJx4a65c_init_da8c8 0 = .ok (.aload_n 0, 1) := by decide +kernel
theorem dccJx4a65c_init_da8c8_1 : decode cJx4a65c_init_da8c8 1 = .ok (.invokespecial 1, 3) := by decide +kernel
theorem dccJx4a65c_init_da8c8_4 : decode cJx4a65c_init_da8c8 4 = .ok (.aload_n 0, 1) := by decide +kernel
theorem dccJx4a65c_init_da8c8_5 : decode cJx4a65c_init_da8c8 5 = .ok (.getstatic 39, 3) := by decide +kernel
theorem dccJx4a65c_init_da8c8_8 : decode cJx4a65c_init_da8c8 8 = .ok (.putfield 9, 3) := by decide +kernel
theorem dccJx4a65c_init_da8c8_11 : decode cJx4a65c_init_da8c8 11 = .ok (.return_, 1) := by decide +kernel
theorem dccJx4a65c_size_8abf5_0 : decode cJx4a65c_size_8abf5 0 = .ok (.aload_n 0, 1) := by decide +kernel
theorem dccJx4a65c_size_8abf5_1 : decode cJx4a65c_size_8abf5 1 = .ok (.getfield 48, 3) := by decide +kernel
theorem dccJx4a65c_size_8abf5_4 : decode cJx4a65c_size_8abf5 4 = .ok (.ireturn, 1) := by decide +kernel
theorem dccJxa1e45_init_da8c8_0 : decode cJxa1e45_init_da8c8 0 = .ok (.aload_n 0, 1) := by decide +kernel
theorem dccJxa1e45_init_da8c8_1 : decode cJxa1e45_init_da8c8 1 = .ok (.invokespecial 1, 3) := by decide +kernel
theorem dccJxa1e45_init_da8c8_4 : decode cJxa1e45_init_da8c8 4 = .ok (.return_, 1) := by decide +kernel
theorem dccJxc12de_init_da8c8_0 : decode cJxc12de_init_da8c8 0 = .ok (.aload_n 0, 1) := by decide +kernel
theorem dccJxc12de_init_da8c8_1 : decode cJxc12de_init_da8c8 1 = .ok (.invokespecial 1, 3) := by decide +kernel
theorem dccJxc12de_init_da8c8_4 : decode cJxc12de_init_da8c8 4 = .ok (.aload_n 0, 1) := by decide +kernel
theorem dccJxc12de_init_da8c8_5 : decode cJxc12de_init_da8c8 5 = .ok (.iconst 0, 1) := by decide +kernel
theorem dccJxc12de_init_da8c8_6 : decode cJxc12de_init_da8c8 6 = .ok (.putfield 7, 3) := by decide +kernel
theorem dccJxc12de_init_da8c8_9 : decode cJxc12de_init_da8c8 9 = .ok (.return_, 1) := by decide +kernel
theorem dccL_below_0 : decode cL_below 0 = .ok (.iload_n 0, 1) := by decide +kernel
theorem dccL_below_1 : decode cL_below 1 = .ok (.ldc 7, 2) := by decide +kernel
theorem dccL_below_3 : decode cL_below 3 = .ok (.iand, 1) := by decide +kernel
theorem dccL_below_4 : decode cL_below 4 = .ok (.iload_n 1, 1) := by decide +kernel
theorem dccL_below_5 : decode cL_below 5 = .ok (.irem, 1) := by decide +kernel
theorem dccL_below_6 : decode cL_below 6 = .ok (.ireturn, 1) := by decide +kernel
theorem dccL_cell_0 : decode cL_cell 0 = .ok (.iload_n 1, 1) := by decide +kernel
theorem dccL_cell_1 : decode cL_cell 1 = .ok (.aload_n 0, 1) := by decide +kernel
theorem dccL_cell_2 : decode cL_cell 2 = .ok (.arraylength, 1) := by decide +kernel
theorem dccL_cell_3 : decode cL_cell 3 = .ok (.if_icmp .ge 9, 3) := by decide +kernel
theorem dccL_cell_6 : decode cL_cell 6 = .ok (.aload_n 0, 1) := by decide +kernel
theorem dccL_cell_7 : decode cL_cell 7 = .ok (.iload_n 1, 1) := by decide +kernel
theorem dccL_cell_8 : decode cL_cell 8 = .ok (.iaload, 1) := by decide +kernel
theorem dccL_cell_9 : decode cL_cell 9 = .ok (.goto 9, 3) := by decide +kernel
theorem dccL_cell_12 : decode cL_cell 12 = .ok (.ldc 8, 2) := by decide +kernel
theorem dccL_cell_14 : decode cL_cell 14 = .ok (.iload_n 1, 1) := by decide +kernel
theorem dccL_cell_15 : decode cL_cell 15 = .ok (.iconst 3, 1) := by decide +kernel
theorem dccL_cell_16 : decode cL_cell 16 = .ok (.iadd, 1) := by decide +kernel
theorem dccL_cell_17 : decode cL_cell 17 = .ok (.imul, 1) := by decide +kernel
theorem dccL_cell_18 : decode cL_cell 18 = .ok (.ireturn, 1) := by decide +kernel
theorem dccL_county_0 : decode cL_county 0 = .ok (.new 9, 3) := by decide +kernel
theorem dccL_county_3 : decode cL_county 3 = .ok (.dup, 1) := by decide +kernel
theorem dccL_county_4 : decode cL_county 4 = .ok (.invokespecial 11, 3) := by decide +kernel
theorem dccL_county_7 : decode cL_county 7 = .ok (.astore_n 1, 1) := by decide +kernel
theorem dccL_county_8 : decode cL_county 8 = .ok (.iconst 1, 1) := by decide +kernel
theorem dccL_county_9 : decode cL_county 9 = .ok (.aload_n 0, 1) := by decide +kernel
theorem dccL_county_10 : decode cL_county 10 = .ok (.iconst 0, 1) := by decide +kernel
theorem dccL_county_11 : decode cL_county 11 = .ok (.invokestatic 12, 3) := by decide +kernel
theorem dccL_county_14 : decode cL_county 14 = .ok (.bipush 6, 2) := by decide +kernel
theorem dccL_county_16 : decode cL_county 16 = .ok (.invokestatic 18, 3) := by decide +kernel
theorem dccL_county_19 : decode cL_county 19 = .ok (.iadd, 1) := by decide +kernel
theorem dccL_county_20 : decode cL_county 20 = .ok (.istore_n 2, 1) := by decide +kernel
theorem dccL_county_21 : decode cL_county 21 = .ok (.iconst 0, 1) := by decide +kernel
theorem dccL_county_22 : decode cL_county 22 = .ok (.istore_n 3, 1) := by decide +kernel
theorem dccL_county_23 : decode cL_county 23 = .ok (.iload_n 3, 1) := by decide +kernel
theorem dccL_county_24 : decode cL_county 24 = .ok (.iload_n 2, 1) := by decide +kernel
theorem dccL_county_25 : decode cL_county 25 = .ok (.if_icmp .ge 45, 3) := by decide +kernel
theorem dccL_county_28 : decode cL_county 28 = .ok (.aload_n 1, 1) := by decide +kernel
theorem dccL_county_29 : decode cL_county 29 = .ok (.bipush 8, 2) := by decide +kernel
theorem dccL_county_31 : decode cL_county 31 = .ok (.aload_n 0, 1) := by decide +kernel
theorem dccL_county_32 : decode cL_county 32 = .ok (.iconst 1, 1) := by decide +kernel
theorem dccL_county_33 : decode cL_county 33 = .ok (.invokestatic 12, 3) := by decide +kernel
theorem dccL_county_36 : decode cL_county 36 = .ok (.iconst 4, 1) := by decide +kernel
theorem dccL_county_37 : decode cL_county 37 = .ok (.iload_n 3, 1) := by decide +kernel
theorem dccL_county_38 : decode cL_county 38 = .ok (.imul, 1) := by decide +kernel
theorem dccL_county_39 : decode cL_county 39 = .ok (.ishr, 1) := by decide +kernel
theorem dccL_county_40 : decode cL_county 40 = .ok (.bipush 50, 2) := by decide +kernel
theorem dccL_county_42 : decode cL_county 42 = .ok (.invokestatic 18, 3) := by decide +kernel
theorem dccL_county_45 : decode cL_county 45 = .ok (.iadd, 1) := by decide +kernel
theorem dccL_county_46 : decode cL_county 46 = .ok (.aload_n 0, 1) := by decide +kernel
theorem dccL_county_47 : decode cL_county 47 = .ok (.iconst 2, 1) := by decide +kernel
theorem dccL_county_48 : decode cL_county 48 = .ok (.invokestatic 12, 3) := by decide +kernel
theorem dccL_county_51 : decode cL_county 51 = .ok (.iconst 4, 1) := by decide +kernel
theorem dccL_county_52 : decode cL_county 52 = .ok (.iload_n 3, 1) := by decide +kernel
theorem dccL_county_53 : decode cL_county 53 = .ok (.imul, 1) := by decide +kernel
theorem dccL_county_54 : decode cL_county 54 = .ok (.ishr, 1) := by decide +kernel
theorem dccL_county_55 : decode cL_county 55 = .ok (.bipush 20, 2) := by decide +kernel
theorem dccL_county_57 : decode cL_county 57 = .ok (.invokestatic 18, 3) := by decide +kernel
theorem dccL_county_60 : decode cL_county 60 = .ok (.invokevirtual 22, 3) := by decide +kernel
theorem dccL_county_63 : decode cL_county 63 = .ok (.pop, 1) := by decide +kernel
theorem dccL_county_64 : decode cL_county 64 = .ok (.iinc 3 1, 3) := by decide +kernel
theorem dccL_county_67 : decode cL_county 67 = .ok (.goto (-44), 3) := by decide +kernel
theorem dccL_county_70 : decode cL_county 70 = .ok (.aload_n 0, 1) := by decide +kernel
theorem dccL_county_71 : decode cL_county 71 = .ok (.iconst 3, 1) := by decide +kernel
theorem dccL_county_72 : decode cL_county 72 = .ok (.invokestatic 12, 3) := by decide +kernel
theorem dccL_county_75 : decode cL_county 75 = .ok (.iconst 4, 1) := by decide +kernel
theorem dccL_county_76 : decode cL_county 76 = .ok (.invokestatic 18, 3) := by decide +kernel
theorem dccL_county_79 : decode cL_county 79 = .ok (.istore_n 3, 1) := by decide +kernel
theorem dccL_county_80 : decode cL_county 80 = .ok (.iconst 0, 1) := by decide +kernel
theorem dccL_county_81 : decode cL_county 81 = .ok (.istore 4, 2) := by decide +kernel
theorem dccL_county_83 : decode cL_county 83 = .ok (.iload 4, 2) := by decide +kernel
theorem dccL_county_85 : decode cL_county 85 = .ok (.iload_n 3, 1) := by decide +kernel
theorem dccL_county_86 : decode cL_county 86 = .ok (.if_icmp .ge 43, 3) := by decide +kernel
theorem dccL_county_89 : decode cL_county 89 = .ok (.aload_n 1, 1) := by decide +kernel
theorem dccL_county_90 : decode cL_county 90 = .ok (.aload_n 0, 1) := by decide +kernel
theorem dccL_county_91 : decode cL_county 91 = .ok (.iconst 3, 1) := by decide +kernel
theorem dccL_county_92 : decode cL_county 92 = .ok (.invokestatic 12, 3) := by decide +kernel
theorem dccL_county_95 : decode cL_county 95 = .ok (.iconst 3, 1) := by decide +kernel
theorem dccL_county_96 : decode cL_county 96 = .ok (.iload 4, 2) := by decide +kernel
theorem dccL_county_98 : decode cL_county 98 = .ok (.imul, 1) := by decide +kernel
theorem dccL_county_99 : decode cL_county 99 = .ok (.ishr, 1) := by decide +kernel
theorem dccL_county_100 : decode cL_county 100 = .ok (.iconst 4, 1) := by decide +kernel
theorem dccL_county_101 : decode cL_county 101 = .ok (.invokestatic 18, 3) := by decide +kernel
theorem dccL_county_104 : decode cL_county 104 = .ok (.aload_n 0, 1) := by decide +kernel
theorem dccL_county_105 : decode cL_county 105 = .ok (.iconst 4, 1) := by decide +kernel
theorem dccL_county_106 : decode cL_county 106 = .ok (.invokestatic 12, 3) := by decide +kernel
theorem dccL_county_109 : decode cL_county 109 = .ok (.iconst 4, 1) := by decide +kernel
theorem dccL_county_110 : decode cL_county 110 = .ok (.iload 4, 2) := by decide +kernel
theorem dccL_county_112 : decode cL_county 112 = .ok (.imul, 1) := by decide +kernel
theorem dccL_county_113 : decode cL_county 113 = .ok (.ishr, 1) := by decide +kernel
theorem dccL_county_114 : decode cL_county 114 = .ok (.bipush 20, 2) := by decide +kernel
theorem dccL_county_116 : decode cL_county 116 = .ok (.invokestatic 18, 3) := by decide +kernel
theorem dccL_county_119 : decode cL_county 119 = .ok (.invokevirtual 25, 3) := by decide +kernel
theorem dccL_county_122 : decode cL_county 122 = .ok (.pop, 1) := by decide +kernel
theorem dccL_county_123 : decode cL_county 123 = .ok (.iinc 4 1, 3) := by decide +kernel
theorem dccL_county_126 : decode cL_county 126 = .ok (.goto (-43), 3) := by decide +kernel
theorem dccL_county_129 : decode cL_county 129 = .ok (.aload_n 1, 1) := by decide +kernel
theorem dccL_county_130 : decode cL_county 130 = .ok (.iconst 1, 1) := by decide +kernel
theorem dccL_county_131 : decode cL_county 131 = .ok (.aload_n 0, 1) := by decide +kernel
theorem dccL_county_132 : decode cL_county 132 = .ok (.iconst 5, 1) := by decide +kernel
theorem dccL_county_133 : decode cL_county 133 = .ok (.invokestatic 12, 3) := by decide +kernel
theorem dccL_county_136 : decode cL_county 136 = .ok (.iconst 3, 1) := by decide +kernel
theorem dccL_county_137 : decode cL_county 137 = .ok (.invokestatic 18, 3) := by decide +kernel
theorem dccL_county_140 : decode cL_county 140 = .ok (.iadd, 1) := by decide +kernel
theorem dccL_county_141 : decode cL_county 141 = .ok (.invokevirtual 28, 3) := by decide +kernel
theorem dccL_county_144 : decode cL_county 144 = .ok (.pop, 1) := by decide +kernel
theorem dccL_county_145 : decode cL_county 145 = .ok (.aload_n 0, 1) := by decide +kernel
theorem dccL_county_146 : decode cL_county 146 = .ok (.bipush 6, 2) := by decide +kernel
theorem dccL_county_148 : decode cL_county 148 = .ok (.invokestatic 12, 3) := by decide +kernel
theorem dccL_county_151 : decode cL_county 151 = .ok (.bipush 7, 2) := by decide +kernel
theorem dccL_county_153 : decode cL_county 153 = .ok (.invokestatic 18, 3) := by decide +kernel
theorem dccL_county_156 : decode cL_county 156 = .ok (.istore 4, 2) := by decide +kernel
theorem dccL_county_158 : decode cL_county 158 = .ok (.iconst 0, 1) := by decide +kernel
theorem dccL_county_159 : decode cL_county 159 = .ok (.istore 5, 2) := by decide +kernel
theorem dccL_county_161 : decode cL_county 161 = .ok (.iload 5, 2) := by decide +kernel
theorem dccL_county_163 : decode cL_county 163 = .ok (.iload 4, 2) := by decide +kernel
theorem dccL_county_165 : decode cL_county 165 = .ok (.if_icmp .ge 69, 3) := by decide +kernel
theorem dccL_county_168 : decode cL_county 168 = .ok (.aload_n 1, 1) := by decide +kernel
theorem dccL_county_169 : decode cL_county 169 = .ok (.aload_n 0, 1) := by decide +kernel
theorem dccL_county_170 : decode cL_county 170 = .ok (.bipush 7, 2) := by decide +kernel
theorem dccL_county_172 : decode cL_county 172 = .ok (.invokestatic 12, 3) := by decide +kernel
theorem dccL_county_175 : decode cL_county 175 = .ok (.iconst 4, 1) := by decide +kernel
theorem dccL_county_176 : decode cL_county 176 = .ok (.iload 5, 2) := by decide +kernel
theorem dccL_county_178 : decode cL_county 178 = .ok (.imul, 1) := by decide +kernel
theorem dccL_county_179 : decode cL_county 179 = .ok (.ishr, 1) := by decide +kernel
theorem dccL_county_180 : decode cL_county 180 = .ok (.iload_n 2, 1) := by decide +kernel
theorem dccL_county_181 : decode cL_county 181 = .ok (.invokestatic 18, 3) := by decide +kernel
theorem dccL_county_184 : decode cL_county 184 = .ok (.iconst 1, 1) := by decide +kernel
theorem dccL_county_185 : decode cL_county 185 = .ok (.aload_n 0, 1) := by decide +kernel
theorem dccL_county_186 : decode cL_county 186 = .ok (.bipush 8, 2) := by decide +kernel
theorem dccL_county_188 : decode cL_county 188 = .ok (.invokestatic 12, 3) := by decide +kernel
theorem dccL_county_191 : decode cL_county 191 = .ok (.iconst 3, 1) := by decide +kernel
theorem dccL_county_192 : decode cL_county 192 = .ok (.iload 5, 2) := by decide +kernel
theorem dccL_county_194 : decode cL_county 194 = .ok (.imul, 1) := by decide +kernel
theorem dccL_county_195 : decode cL_county 195 = .ok (.ishr, 1) := by decide +kernel
theorem dccL_county_196 : decode cL_county 196 = .ok (.iconst 4, 1) := by decide +kernel
theorem dccL_county_197 : decode cL_county 197 = .ok (.invokestatic 18, 3) := by decide +kernel
theorem dccL_county_200 : decode cL_county 200 = .ok (.iadd, 1) := by decide +kernel
theorem dccL_county_201 : decode cL_county 201 = .ok (.aload_n 0, 1) := by decide +kernel
theorem dccL_county_202 : decode cL_county 202 = .ok (.bipush 9, 2) := by decide +kernel
theorem dccL_county_204 : decode cL_county 204 = .ok (.invokestatic 12, 3) := by decide +kernel
theorem dccL_county_207 : decode cL_county 207 = .ok (.iconst 2, 1) := by decide +kernel
theorem dccL_county_208 : decode cL_county 208 = .ok (.iload 5, 2) := by decide +kernel
theorem dccL_county_210 : decode cL_county 210 = .ok (.imul, 1) := by decide +kernel
theorem dccL_county_211 : decode cL_county 211 = .ok (.ishr, 1) := by decide +kernel
theorem dccL_county_212 : decode cL_county 212 = .ok (.iconst 3, 1) := by decide +kernel
theorem dccL_county_213 : decode cL_county 213 = .ok (.invokestatic 18, 3) := by decide +kernel
theorem dccL_county_216 : decode cL_county 216 = .ok (.ifCond .ne 7, 3) := by decide +kernel
theorem dccL_county_219 : decode cL_county 219 = .ok (.iconst 1, 1) := by decide +kernel
theorem dccL_county_220 : decode cL_county 220 = .ok (.goto 4, 3) := by decide +kernel
theorem dccL_county_223 : decode cL_county 223 = .ok (.iconst 0, 1) := by decide +kernel
theorem dccL_county_224 : decode cL_county 224 = .ok (.invokevirtual 32, 3) := by decide +kernel
theorem dccL_county_227 : decode cL_county 227 = .ok (.pop, 1) := by decide +kernel
theorem dccL_county_228 : decode cL_county 228 = .ok (.iinc 5 1, 3) := by decide +kernel
theorem dccL_county_231 : decode cL_county 231 = .ok (.goto (-70), 3) := by decide +kernel
theorem dccL_county_234 : decode cL_county 234 = .ok (.aload_n 1, 1) := by decide +kernel
theorem dccL_county_235 : decode cL_county 235 = .ok (.aload_n 0, 1) := by decide +kernel
theorem dccL_county_236 : decode cL_county 236 = .ok (.bipush 10, 2) := by decide +kernel
theorem dccL_county_238 : decode cL_county 238 = .ok (.invokestatic 12, 3) := by decide +kernel
theorem dccL_county_241 : decode cL_county 241 = .ok (.bipush 12, 2) := by decide +kernel
theorem dccL_county_243 : decode cL_county 243 = .ok (.invokestatic 18, 3) := by decide +kernel
theorem dccL_county_246 : decode cL_county 246 = .ok (.aload_n 0, 1) := by decide +kernel
theorem dccL_county_247 : decode cL_county 247 = .ok (.bipush 11, 2) := by decide +kernel
theorem dccL_county_249 : decode cL_county 249 = .ok (.invokestatic 12, 3) := by decide +kernel
theorem dccL_county_252 : decode cL_county 252 = .ok (.bipush 12, 2) := by decide +kernel
theorem dccL_county_254 : decode cL_county 254 = .ok (.invokestatic 18, 3) := by decide +kernel
theorem dccL_county_257 : decode cL_county 257 = .ok (.iconst 3, 1) := by decide +kernel
theorem dccL_county_258 : decode cL_county 258 = .ok (.isub, 1) := by decide +kernel
theorem dccL_county_259 : decode cL_county 259 = .ok (.invokevirtual 36, 3) := by decide +kernel
theorem dccL_county_262 : decode cL_county 262 = .ok (.pop, 1) := by decide +kernel
theorem dccL_county_263 : decode cL_county 263 = .ok (.aload_n 1, 1) := by decide +kernel
theorem dccL_county_264 : decode cL_county 264 = .ok (.areturn, 1) := by decide +kernel
theorem dccL_digits_0 : decode cL_digits 0 = .ok (.iconst 1, 1) := by decide +kernel
theorem dccL_digits_1 : decode cL_digits 1 = .ok (.iload_n 0, 1) := by decide +kernel
theorem dccL_digits_2 : decode cL_digits 2 = .ok (.iconst 3, 1) := by decide +kernel
theorem dccL_digits_3 : decode cL_digits 3 = .ok (.invokestatic 18, 3) := by decide +kernel
theorem dccL_digits_6 : decode cL_digits 6 = .ok (.iadd, 1) := by decide +kernel
theorem dccL_digits_7 : decode cL_digits 7 = .ok (.istore_n 1, 1) := by decide +kernel
theorem dccL_digits_8 : decode cL_digits 8 = .ok (.iconst 1, 1) := by decide +kernel
theorem dccL_digits_9 : decode cL_digits 9 = .ok (.istore_n 2, 1) := by decide +kernel
theorem dccL_digits_10 : decode cL_digits 10 = .ok (.iload_n 2, 1) := by decide +kernel
theorem dccL_digits_11 : decode cL_digits 11 = .ok (.iconst 1, 1) := by decide +kernel
theorem dccL_digits_12 : decode cL_digits 12 = .ok (.iload_n 0, 1) := by decide +kernel
theorem dccL_digits_13 : decode cL_digits 13 = .ok (.iconst 3, 1) := by decide +kernel
theorem dccL_digits_14 : decode cL_digits 14 = .ok (.ishr, 1) := by decide +kernel
theorem dccL_digits_15 : decode cL_digits 15 = .ok (.iconst 5, 1) := by decide +kernel
theorem dccL_digits_16 : decode cL_digits 16 = .ok (.invokestatic 18, 3) := by decide +kernel
theorem dccL_digits_19 : decode cL_digits 19 = .ok (.iadd, 1) := by decide +kernel
theorem dccL_digits_20 : decode cL_digits 20 = .ok (.if_icmp .ge 28, 3) := by decide +kernel
theorem dccL_digits_23 : decode cL_digits 23 = .ok (.bipush 10, 2) := by decide +kernel
theorem dccL_digits_25 : decode cL_digits 25 = .ok (.iload_n 1, 1) := by decide +kernel
theorem dccL_digits_26 : decode cL_digits 26 = .ok (.imul, 1) := by decide +kernel
theorem dccL_digits_27 : decode cL_digits 27 = .ok (.iconst 1, 1) := by decide +kernel
theorem dccL_digits_28 : decode cL_digits 28 = .ok (.iadd, 1) := by decide +kernel
theorem dccL_digits_29 : decode cL_digits 29 = .ok (.iload_n 0, 1) := by decide +kernel
theorem dccL_digits_30 : decode cL_digits 30 = .ok (.iconst 2, 1) := by decide +kernel
theorem dccL_digits_31 : decode cL_digits 31 = .ok (.iload_n 2, 1) := by decide +kernel
theorem dccL_digits_32 : decode cL_digits 32 = .ok (.imul, 1) := by decide +kernel
theorem dccL_digits_33 : decode cL_digits 33 = .ok (.iconst 4, 1) := by decide +kernel
theorem dccL_digits_34 : decode cL_digits 34 = .ok (.iadd, 1) := by decide +kernel
theorem dccL_digits_35 : decode cL_digits 35 = .ok (.ishr, 1) := by decide +kernel
theorem dccL_digits_36 : decode cL_digits 36 = .ok (.iconst 3, 1) := by decide +kernel
theorem dccL_digits_37 : decode cL_digits 37 = .ok (.invokestatic 18, 3) := by decide +kernel
theorem dccL_digits_40 : decode cL_digits 40 = .ok (.iadd, 1) := by decide +kernel
theorem dccL_digits_41 : decode cL_digits 41 = .ok (.istore_n 1, 1) := by decide +kernel
theorem dccL_digits_42 : decode cL_digits 42 = .ok (.iinc 2 1, 3) := by decide +kernel
theorem dccL_digits_45 : decode cL_digits 45 = .ok (.goto (-35), 3) := by decide +kernel
theorem dccL_digits_48 : decode cL_digits 48 = .ok (.iload_n 1, 1) := by decide +kernel
theorem dccL_digits_49 : decode cL_digits 49 = .ok (.ireturn, 1) := by decide +kernel
theorem dccL_far_0 : decode cL_far 0 = .ok (.bipush 100, 2) := by decide +kernel
theorem dccL_far_2 : decode cL_far 2 = .ok (.aload_n 0, 1) := by decide +kernel
theorem dccL_far_3 : decode cL_far 3 = .ok (.aload_n 0, 1) := by decide +kernel
theorem dccL_far_4 : decode cL_far 4 = .ok (.iload_n 1, 1) := by decide +kernel
theorem dccL_far_5 : decode cL_far 5 = .ok (.iconst 0, 1) := by decide +kernel
theorem dccL_far_6 : decode cL_far 6 = .ok (.invokevirtual 101, 3) := by decide +kernel
theorem dccL_far_9 : decode cL_far 9 = .ok (.iconst 1, 1) := by decide +kernel
theorem dccL_far_10 : decode cL_far 10 = .ok (.invokevirtual 104, 3) := by decide +kernel
theorem dccL_far_13 : decode cL_far 13 = .ok (.aload_n 0, 1) := by decide +kernel
theorem dccL_far_14 : decode cL_far 14 = .ok (.iload_n 2, 1) := by decide +kernel
theorem dccL_far_15 : decode cL_far 15 = .ok (.iconst 1, 1) := by decide +kernel
theorem dccL_far_16 : decode cL_far 16 = .ok (.invokevirtual 107, 3) := by decide +kernel
theorem dccL_far_19 : decode cL_far 19 = .ok (.isub, 1) := by decide +kernel
theorem dccL_far_20 : decode cL_far 20 = .ok (.invokestatic 110, 3) := by decide +kernel
theorem dccL_far_23 : decode cL_far 23 = .ok (.imul, 1) := by decide +kernel
theorem dccL_far_24 : decode cL_far 24 = .ok (.iload_n 2, 1) := by decide +kernel
theorem dccL_far_25 : decode cL_far 25 = .ok (.iadd, 1) := by decide +kernel
theorem dccL_far_26 : decode cL_far 26 = .ok (.ireturn, 1) := by decide +kernel
theorem dccL_isBest_0 : decode cL_isBest 0 = .ok (.aload_n 0, 1) := by decide +kernel
theorem dccL_isBest_1 : decode cL_isBest 1 = .ok (.iconst 1, 1) := by decide +kernel
theorem dccL_isBest_2 : decode cL_isBest 2 = .ok (.invokevirtual 39, 3) := by decide +kernel
theorem dccL_isBest_5 : decode cL_isBest 5 = .ok (.istore_n 1, 1) := by decide +kernel
theorem dccL_isBest_6 : decode cL_isBest 6 = .ok (.aload_n 0, 1) := by decide +kernel
theorem dccL_isBest_7 : decode cL_isBest 7 = .ok (.iconst 4, 1) := by decide +kernel
theorem dccL_isBest_8 : decode cL_isBest 8 = .ok (.invokevirtual 39, 3) := by decide +kernel
theorem dccL_isBest_11 : decode cL_isBest 11 = .ok (.newarray .int, 2) := by decide +kernel
theorem dccL_isBest_13 : decode cL_isBest 13 = .ok (.astore_n 2, 1) := by decide +kernel
theorem dccL_isBest_14 : decode cL_isBest 14 = .ok (.iconst 0, 1) := by decide +kernel
theorem dccL_isBest_15 : decode cL_isBest 15 = .ok (.istore_n 3, 1) := by decide +kernel
theorem dccL_isBest_16 : decode cL_isBest 16 = .ok (.iconst 1, 1) := by decide +kernel
theorem dccL_isBest_17 : decode cL_isBest 17 = .ok (.istore 4, 2) := by decide +kernel
theorem dccL_isBest_19 : decode cL_isBest 19 = .ok (.iconst 0, 1) := by decide +kernel
theorem dccL_isBest_20 : decode cL_isBest 20 = .ok (.istore 5, 2) := by decide +kernel
theorem dccL_isBest_22 : decode cL_isBest 22 = .ok (.iload 5, 2) := by decide +kernel
theorem dccL_isBest_24 : decode cL_isBest 24 = .ok (.aload_n 0, 1) := by decide +kernel
theorem dccL_isBest_25 : decode cL_isBest 25 = .ok (.iconst 2, 1) := by decide +kernel
theorem dccL_isBest_26 : decode cL_isBest 26 = .ok (.invokevirtual 39, 3) := by decide +kernel
theorem dccL_isBest_29 : decode cL_isBest 29 = .ok (.if_icmp .ge 36, 3) := by decide +kernel
theorem dccL_isBest_32 : decode cL_isBest 32 = .ok (.aload_n 0, 1) := by decide +kernel
theorem dccL_isBest_33 : decode cL_isBest 33 = .ok (.iload 5, 2) := by decide +kernel
theorem dccL_isBest_35 : decode cL_isBest 35 = .ok (.iconst 3, 1) := by decide +kernel
theorem dccL_isBest_36 : decode cL_isBest 36 = .ok (.invokevirtual 101, 3) := by decide +kernel
theorem dccL_isBest_39 : decode cL_isBest 39 = .ok (.iconst 1, 1) := by decide +kernel
theorem dccL_isBest_40 : decode cL_isBest 40 = .ok (.if_icmp .ne 19, 3) := by decide +kernel
theorem dccL_isBest_43 : decode cL_isBest 43 = .ok (.aload_n 2, 1) := by decide +kernel
theorem dccL_isBest_44 : decode cL_isBest 44 = .ok (.iload_n 3, 1) := by decide +kernel
theorem dccL_isBest_45 : decode cL_isBest 45 = .ok (.iload 5, 2) := by decide +kernel
theorem dccL_isBest_47 : decode cL_isBest 47 = .ok (.iastore, 1) := by decide +kernel
theorem dccL_isBest_48 : decode cL_isBest 48 = .ok (.iinc 3 1, 3) := by decide +kernel
theorem dccL_isBest_51 : decode cL_isBest 51 = .ok (.iload 4, 2) := by decide +kernel
theorem dccL_isBest_53 : decode cL_isBest 53 = .ok (.iload_n 1, 1) := by decide +kernel
theorem dccL_isBest_54 : decode cL_isBest 54 = .ok (.iconst 1, 1) := by decide +kernel
theorem dccL_isBest_55 : decode cL_isBest 55 = .ok (.iadd, 1) := by decide +kernel
theorem dccL_isBest_56 : decode cL_isBest 56 = .ok (.imul, 1) := by decide +kernel
theorem dccL_isBest_57 : decode cL_isBest 57 = .ok (.istore 4, 2) := by decide +kernel
theorem dccL_isBest_59 : decode cL_isBest 59 = .ok (.iinc 5 1, 3) := by decide +kernel
theorem dccL_isBest_62 : decode cL_isBest 62 = .ok (.goto (-40), 3) := by decide +kernel
theorem dccL_isBest_65 : decode cL_isBest 65 = .ok (.iconst 0, 1) := by decide +kernel
theorem dccL_isBest_66 : decode cL_isBest 66 = .ok (.istore 5, 2) := by decide +kernel
theorem dccL_isBest_68 : decode cL_isBest 68 = .ok (.iconst 0, 1) := by decide +kernel
theorem dccL_isBest_69 : decode cL_isBest 69 = .ok (.istore 6, 2) := by decide +kernel
theorem dccL_isBest_71 : decode cL_isBest 71 = .ok (.iload 6, 2) := by decide +kernel
theorem dccL_isBest_73 : decode cL_isBest 73 = .ok (.iload 4, 2) := by decide +kernel
theorem dccL_isBest_75 : decode cL_isBest 75 = .ok (.if_icmp .ge 146, 3) := by decide +kernel
theorem dccL_isBest_78 : decode cL_isBest 78 = .ok (.iconst 0, 1) := by decide +kernel
theorem dccL_isBest_79 : decode cL_isBest 79 = .ok (.istore 7, 2) := by decide +kernel
theorem dccL_isBest_81 : decode cL_isBest 81 = .ok (.iload 6, 2) := by decide +kernel
theorem dccL_isBest_83 : decode cL_isBest 83 = .ok (.istore 8, 2) := by decide +kernel
theorem dccL_isBest_85 : decode cL_isBest 85 = .ok (.iconst 0, 1) := by decide +kernel
theorem dccL_isBest_86 : decode cL_isBest 86 = .ok (.istore 9, 2) := by decide +kernel
theorem dccL_isBest_88 : decode cL_isBest 88 = .ok (.iload 9, 2) := by decide +kernel
theorem dccL_isBest_90 : decode cL_isBest 90 = .ok (.iload_n 3, 1) := by decide +kernel
theorem dccL_isBest_91 : decode cL_isBest 91 = .ok (.if_icmp .ge 31, 3) := by decide +kernel
theorem dccL_isBest_94 : decode cL_isBest 94 = .ok (.bipush 10, 2) := by decide +kernel
theorem dccL_isBest_96 : decode cL_isBest 96 = .ok (.iload 7, 2) := by decide +kernel
theorem dccL_isBest_98 : decode cL_isBest 98 = .ok (.imul, 1) := by decide +kernel
theorem dccL_isBest_99 : decode cL_isBest 99 = .ok (.iload 8, 2) := by decide +kernel
theorem dccL_isBest_101 : decode cL_isBest 101 = .ok (.iload_n 1, 1) := by decide +kernel
theorem dccL_isBest_102 : decode cL_isBest 102 = .ok (.iconst 1, 1) := by decide +kernel
theorem dccL_isBest_103 : decode cL_isBest 103 = .ok (.iadd, 1) := by decide +kernel
theorem dccL_isBest_104 : decode cL_isBest 104 = .ok (.irem, 1) := by decide +kernel
theorem dccL_isBest_105 : decode cL_isBest 105 = .ok (.iadd, 1) := by decide +kernel
theorem dccL_isBest_106 : decode cL_isBest 106 = .ok (.istore 7, 2) := by decide +kernel
theorem dccL_isBest_108 : decode cL_isBest 108 = .ok (.iload 8, 2) := by decide +kernel
theorem dccL_isBest_110 : decode cL_isBest 110 = .ok (.iload_n 1, 1) := by decide +kernel
theorem dccL_isBest_111 : decode cL_isBest 111 = .ok (.iconst 1, 1) := by decide +kernel
theorem dccL_isBest_112 : decode cL_isBest 112 = .ok (.iadd, 1) := by decide +kernel
theorem dccL_isBest_113 : decode cL_isBest 113 = .ok (.idiv, 1) := by decide +kernel
theorem dccL_isBest_114 : decode cL_isBest 114 = .ok (.istore 8, 2) := by decide +kernel
theorem dccL_isBest_116 : decode cL_isBest 116 = .ok (.iinc 9 1, 3) := by decide +kernel
theorem dccL_isBest_119 : decode cL_isBest 119 = .ok (.goto (-31), 3) := by decide +kernel
theorem dccL_isBest_122 : decode cL_isBest 122 = .ok (.aload_n 0, 1) := by decide +kernel
theorem dccL_isBest_123 : decode cL_isBest 123 = .ok (.iload 7, 2) := by decide +kernel
theorem dccL_isBest_125 : decode cL_isBest 125 = .ok (.invokevirtual 126, 3) := by decide +kernel
theorem dccL_isBest_128 : decode cL_isBest 128 = .ok (.ifCond .ne 6, 3) := by decide +kernel
theorem dccL_isBest_131 : decode cL_isBest 131 = .ok (.goto 84, 3) := by decide +kernel
theorem dccL_isBest_134 : decode cL_isBest 134 = .ok (.iinc 5 1, 3) := by decide +kernel
theorem dccL_isBest_137 : decode cL_isBest 137 = .ok (.iload_n 3, 1) := by decide +kernel
theorem dccL_isBest_138 : decode cL_isBest 138 = .ok (.iconst 1, 1) := by decide +kernel
theorem dccL_isBest_139 : decode cL_isBest 139 = .ok (.isub, 1) := by decide +kernel
theorem dccL_isBest_140 : decode cL_isBest 140 = .ok (.istore 9, 2) := by decide +kernel
theorem dccL_isBest_142 : decode cL_isBest 142 = .ok (.iload 9, 2) := by decide +kernel
theorem dccL_isBest_144 : decode cL_isBest 144 = .ok (.ifCond .lt 71, 3) := by decide +kernel
theorem dccL_isBest_147 : decode cL_isBest 147 = .ok (.iload 7, 2) := by decide +kernel
theorem dccL_isBest_149 : decode cL_isBest 149 = .ok (.bipush 10, 2) := by decide +kernel
theorem dccL_isBest_151 : decode cL_isBest 151 = .ok (.irem, 1) := by decide +kernel
theorem dccL_isBest_152 : decode cL_isBest 152 = .ok (.iconst 1, 1) := by decide +kernel
theorem dccL_isBest_153 : decode cL_isBest 153 = .ok (.isub, 1) := by decide +kernel
theorem dccL_isBest_154 : decode cL_isBest 154 = .ok (.istore 10, 2) := by decide +kernel
theorem dccL_isBest_156 : decode cL_isBest 156 = .ok (.aload_n 0, 1) := by decide +kernel
theorem dccL_isBest_157 : decode cL_isBest 157 = .ok (.aload_n 2, 1) := by decide +kernel
theorem dccL_isBest_158 : decode cL_isBest 158 = .ok (.iload 9, 2) := by decide +kernel
theorem dccL_isBest_160 : decode cL_isBest 160 = .ok (.iaload, 1) := by decide +kernel
theorem dccL_isBest_161 : decode cL_isBest 161 = .ok (.iconst 4, 1) := by decide +kernel
theorem dccL_isBest_162 : decode cL_isBest 162 = .ok (.invokevirtual 101, 3) := by decide +kernel
theorem dccL_isBest_165 : decode cL_isBest 165 = .ok (.istore 11, 2) := by decide +kernel
theorem dccL_isBest_167 : decode cL_isBest 167 = .ok (.iload 10, 2) := by decide +kernel
theorem dccL_isBest_169 : decode cL_isBest 169 = .ok (.ifCond .lt 33, 3) := by decide +kernel
theorem dccL_isBest_172 : decode cL_isBest 172 = .ok (.iload 11, 2) := by decide +kernel
theorem dccL_isBest_174 : decode cL_isBest 174 = .ok (.ifCond .lt 26, 3) := by decide +kernel
theorem dccL_isBest_177 : decode cL_isBest 177 = .ok (.aload_n 0, 1) := by decide +kernel
theorem dccL_isBest_178 : decode cL_isBest 178 = .ok (.aload_n 2, 1) := by decide +kernel
theorem dccL_isBest_179 : decode cL_isBest 179 = .ok (.iload 9, 2) := by decide +kernel
theorem dccL_isBest_181 : decode cL_isBest 181 = .ok (.iaload, 1) := by decide +kernel
theorem dccL_isBest_182 : decode cL_isBest 182 = .ok (.iload 10, 2) := by decide +kernel
theorem dccL_isBest_184 : decode cL_isBest 184 = .ok (.invokestatic 118, 3) := by decide +kernel
theorem dccL_isBest_187 : decode cL_isBest 187 = .ok (.aload_n 0, 1) := by decide +kernel
theorem dccL_isBest_188 : decode cL_isBest 188 = .ok (.aload_n 2, 1) := by decide +kernel
theorem dccL_isBest_189 : decode cL_isBest 189 = .ok (.iload 9, 2) := by decide +kernel
theorem dccL_isBest_191 : decode cL_isBest 191 = .ok (.iaload, 1) := by decide +kernel
theorem dccL_isBest_192 : decode cL_isBest 192 = .ok (.iload 11, 2) := by decide +kernel
theorem dccL_isBest_194 : decode cL_isBest 194 = .ok (.invokestatic 118, 3) := by decide +kernel
theorem dccL_isBest_197 : decode cL_isBest 197 = .ok (.if_icmp .ge 5, 3) := by decide +kernel
theorem dccL_isBest_200 : decode cL_isBest 200 = .ok (.iconst 0, 1) := by decide +kernel
theorem dccL_isBest_201 : decode cL_isBest 201 = .ok (.ireturn, 1) := by decide +kernel
theorem dccL_isBest_202 : decode cL_isBest 202 = .ok (.iload 7, 2) := by decide +kernel
theorem dccL_isBest_204 : decode cL_isBest 204 = .ok (.bipush 10, 2) := by decide +kernel
theorem dccL_isBest_206 : decode cL_isBest 206 = .ok (.idiv, 1) := by decide +kernel
theorem dccL_isBest_207 : decode cL_isBest 207 = .ok (.istore 7, 2) := by decide +kernel
theorem dccL_isBest_209 : decode cL_isBest 209 = .ok (.iinc 9 (-1), 3) := by decide +kernel
theorem dccL_isBest_212 : decode cL_isBest 212 = .ok (.goto (-70), 3) := by decide +kernel
theorem dccL_isBest_215 : decode cL_isBest 215 = .ok (.iinc 6 1, 3) := by decide +kernel
theorem dccL_isBest_218 : decode cL_isBest 218 = .ok (.goto (-147), 3) := by decide +kernel
theorem dccL_isBest_221 : decode cL_isBest 221 = .ok (.iload 5, 2) := by decide +kernel
theorem dccL_isBest_223 : decode cL_isBest 223 = .ok (.ifCond .le 7, 3) := by decide +kernel
theorem dccL_isBest_226 : decode cL_isBest 226 = .ok (.iconst 1, 1) := by decide +kernel
theorem dccL_isBest_227 : decode cL_isBest 227 = .ok (.goto 4, 3) := by decide +kernel
theorem dccL_isBest_230 : decode cL_isBest 230 = .ok (.iconst 0, 1) := by decide +kernel
theorem dccL_isBest_231 : decode cL_isBest 231 = .ok (.ireturn, 1) := by decide +kernel
theorem dccL_isDone_0 : decode cL_isDone 0 = .ok (.iload_n 1, 1) := by decide +kernel
theorem dccL_isDone_1 : decode cL_isDone 1 = .ok (.iconst 4, 1) := by decide +kernel
theorem dccL_isDone_2 : decode cL_isDone 2 = .ok (.ishr, 1) := by decide +kernel
theorem dccL_isDone_3 : decode cL_isDone 3 = .ok (.iconst 1, 1) := by decide +kernel
theorem dccL_isDone_4 : decode cL_isDone 4 = .ok (.aload_n 0, 1) := by decide +kernel
theorem dccL_isDone_5 : decode cL_isDone 5 = .ok (.iconst 2, 1) := by decide +kernel
theorem dccL_isDone_6 : decode cL_isDone 6 = .ok (.invokevirtual 39, 3) := by decide +kernel
theorem dccL_isDone_9 : decode cL_isDone 9 = .ok (.invokestatic 42, 3) := by decide +kernel
theorem dccL_isDone_12 : decode cL_isDone 12 = .ok (.invokestatic 18, 3) := by decide +kernel
theorem dccL_isDone_15 : decode cL_isDone 15 = .ok (.istore_n 2, 1) := by decide +kernel
theorem dccL_isDone_16 : decode cL_isDone 16 = .ok (.iload_n 1, 1) := by decide +kernel
theorem dccL_isDone_17 : decode cL_isDone 17 = .ok (.bipush 12, 2) := by decide +kernel
theorem dccL_isDone_19 : decode cL_isDone 19 = .ok (.invokestatic 18, 3) := by decide +kernel
theorem dccL_isDone_22 : decode cL_isDone 22 = .ok (.tableswitch 249 0 10 #[58, 75, 75, 75, 75, 84, 130, 161, 189, 204, 231], 58) := by decide +kernel
theorem dccL_isDone_80 : decode cL_isDone 80 = .ok (.aload_n 0, 1) := by decide +kernel
theorem dccL_isDone_81 : decode cL_isDone 81 = .ok (.iconst 1, 1) := by decide +kernel
theorem dccL_isDone_82 : decode cL_isDone 82 = .ok (.iload_n 1, 1) := by decide +kernel
theorem dccL_isDone_83 : decode cL_isDone 83 = .ok (.iconst 5, 1) := by decide +kernel
theorem dccL_isDone_84 : decode cL_isDone 84 = .ok (.ishr, 1) := by decide +kernel
theorem dccL_isDone_85 : decode cL_isDone 85 = .ok (.iconst 4, 1) := by decide +kernel
theorem dccL_isDone_86 : decode cL_isDone 86 = .ok (.invokestatic 18, 3) := by decide +kernel
theorem dccL_isDone_89 : decode cL_isDone 89 = .ok (.iadd, 1) := by decide +kernel
theorem dccL_isDone_90 : decode cL_isDone 90 = .ok (.invokevirtual 47, 3) := by decide +kernel
theorem dccL_isDone_93 : decode cL_isDone 93 = .ok (.pop, 1) := by decide +kernel
theorem dccL_isDone_94 : decode cL_isDone 94 = .ok (.goto 243, 3) := by decide +kernel
theorem dccL_isDone_97 : decode cL_isDone 97 = .ok (.aload_n 0, 1) := by decide +kernel
theorem dccL_isDone_98 : decode cL_isDone 98 = .ok (.iload_n 2, 1) := by decide +kernel
theorem dccL_isDone_99 : decode cL_isDone 99 = .ok (.invokevirtual 50, 3) := by decide +kernel
theorem dccL_isDone_102 : decode cL_isDone 102 = .ok (.pop, 1) := by decide +kernel
theorem dccL_isDone_103 : decode cL_isDone 103 = .ok (.goto 234, 3) := by decide +kernel
theorem dccL_isDone_106 : decode cL_isDone 106 = .ok (.aload_n 0, 1) := by decide +kernel
theorem dccL_isDone_107 : decode cL_isDone 107 = .ok (.iload_n 1, 1) := by decide +kernel
theorem dccL_isDone_108 : decode cL_isDone 108 = .ok (.iconst 5, 1) := by decide +kernel
theorem dccL_isDone_109 : decode cL_isDone 109 = .ok (.ishr, 1) := by decide +kernel
theorem dccL_isDone_110 : decode cL_isDone 110 = .ok (.aload_n 0, 1) := by decide +kernel
theorem dccL_isDone_111 : decode cL_isDone 111 = .ok (.iconst 0, 1) := by decide +kernel
theorem dccL_isDone_112 : decode cL_isDone 112 = .ok (.invokevirtual 39, 3) := by decide +kernel
theorem dccL_isDone_115 : decode cL_isDone 115 = .ok (.invokestatic 18, 3) := by decide +kernel
theorem dccL_isDone_118 : decode cL_isDone 118 = .ok (.iconst 1, 1) := by decide +kernel
theorem dccL_isDone_119 : decode cL_isDone 119 = .ok (.iload_n 1, 1) := by decide +kernel
theorem dccL_isDone_120 : decode cL_isDone 120 = .ok (.bipush 7, 2) := by decide +kernel
theorem dccL_isDone_122 : decode cL_isDone 122 = .ok (.ishr, 1) := by decide +kernel
theorem dccL_isDone_123 : decode cL_isDone 123 = .ok (.bipush 9, 2) := by decide +kernel
theorem dccL_isDone_125 : decode cL_isDone 125 = .ok (.invokestatic 18, 3) := by decide +kernel
theorem dccL_isDone_128 : decode cL_isDone 128 = .ok (.iadd, 1) := by decide +kernel
theorem dccL_isDone_129 : decode cL_isDone 129 = .ok (.iload_n 1, 1) := by decide +kernel
theorem dccL_isDone_130 : decode cL_isDone 130 = .ok (.bipush 9, 2) := by decide +kernel
theorem dccL_isDone_132 : decode cL_isDone 132 = .ok (.ishr, 1) := by decide +kernel
theorem dccL_isDone_133 : decode cL_isDone 133 = .ok (.iconst 2, 1) := by decide +kernel
theorem dccL_isDone_134 : decode cL_isDone 134 = .ok (.invokestatic 18, 3) := by decide +kernel
theorem dccL_isDone_137 : decode cL_isDone 137 = .ok (.ifCond .ne 7, 3) := by decide +kernel
theorem dccL_isDone_140 : decode cL_isDone 140 = .ok (.iconst 1, 1) := by decide +kernel
theorem dccL_isDone_141 : decode cL_isDone 141 = .ok (.goto 4, 3) := by decide +kernel
theorem dccL_isDone_144 : decode cL_isDone 144 = .ok (.iconst 0, 1) := by decide +kernel
theorem dccL_isDone_145 : decode cL_isDone 145 = .ok (.invokevirtual 32, 3) := by decide +kernel
theorem dccL_isDone_148 : decode cL_isDone 148 = .ok (.pop, 1) := by decide +kernel
theorem dccL_isDone_149 : decode cL_isDone 149 = .ok (.goto 188, 3) := by decide +kernel
theorem dccL_isDone_152 : decode cL_isDone 152 = .ok (.aload_n 0, 1) := by decide +kernel
theorem dccL_isDone_153 : decode cL_isDone 153 = .ok (.iload_n 1, 1) := by decide +kernel
theorem dccL_isDone_154 : decode cL_isDone 154 = .ok (.iconst 5, 1) := by decide +kernel
theorem dccL_isDone_155 : decode cL_isDone 155 = .ok (.ishr, 1) := by decide +kernel
theorem dccL_isDone_156 : decode cL_isDone 156 = .ok (.iconst 1, 1) := by decide +kernel
theorem dccL_isDone_157 : decode cL_isDone 157 = .ok (.aload_n 0, 1) := by decide +kernel
theorem dccL_isDone_158 : decode cL_isDone 158 = .ok (.iconst 1, 1) := by decide +kernel
theorem dccL_isDone_159 : decode cL_isDone 159 = .ok (.invokevirtual 39, 3) := by decide +kernel
theorem dccL_isDone_162 : decode cL_isDone 162 = .ok (.invokestatic 42, 3) := by decide +kernel
theorem dccL_isDone_165 : decode cL_isDone 165 = .ok (.invokestatic 18, 3) := by decide +kernel
theorem dccL_isDone_168 : decode cL_isDone 168 = .ok (.iload_n 1, 1) := by decide +kernel
theorem dccL_isDone_169 : decode cL_isDone 169 = .ok (.bipush 7, 2) := by decide +kernel
theorem dccL_isDone_171 : decode cL_isDone 171 = .ok (.ishr, 1) := by decide +kernel
theorem dccL_isDone_172 : decode cL_isDone 172 = .ok (.iconst 5, 1) := by decide +kernel
theorem dccL_isDone_173 : decode cL_isDone 173 = .ok (.invokestatic 18, 3) := by decide +kernel
theorem dccL_isDone_176 : decode cL_isDone 176 = .ok (.invokevirtual 53, 3) := by decide +kernel
theorem dccL_isDone_179 : decode cL_isDone 179 = .ok (.pop, 1) := by decide +kernel
theorem dccL_isDone_180 : decode cL_isDone 180 = .ok (.goto 157, 3) := by decide +kernel
theorem dccL_isDone_183 : decode cL_isDone 183 = .ok (.aload_n 0, 1) := by decide +kernel
theorem dccL_isDone_184 : decode cL_isDone 184 = .ok (.iload_n 1, 1) := by decide +kernel
theorem dccL_isDone_185 : decode cL_isDone 185 = .ok (.iconst 4, 1) := by decide +kernel
theorem dccL_isDone_186 : decode cL_isDone 186 = .ok (.ishr, 1) := by decide +kernel
theorem dccL_isDone_187 : decode cL_isDone 187 = .ok (.bipush 100, 2) := by decide +kernel
theorem dccL_isDone_189 : decode cL_isDone 189 = .ok (.invokestatic 18, 3) := by decide +kernel
theorem dccL_isDone_192 : decode cL_isDone 192 = .ok (.iload_n 1, 1) := by decide +kernel
theorem dccL_isDone_193 : decode cL_isDone 193 = .ok (.bipush 7, 2) := by decide +kernel
theorem dccL_isDone_195 : decode cL_isDone 195 = .ok (.ishr, 1) := by decide +kernel
theorem dccL_isDone_196 : decode cL_isDone 196 = .ok (.bipush 19, 2) := by decide +kernel
theorem dccL_isDone_198 : decode cL_isDone 198 = .ok (.invokestatic 18, 3) := by decide +kernel
theorem dccL_isDone_201 : decode cL_isDone 201 = .ok (.bipush 9, 2) := by decide +kernel
theorem dccL_isDone_203 : decode cL_isDone 203 = .ok (.isub, 1) := by decide +kernel
theorem dccL_isDone_204 : decode cL_isDone 204 = .ok (.invokevirtual 36, 3) := by decide +kernel
theorem dccL_isDone_207 : decode cL_isDone 207 = .ok (.pop, 1) := by decide +kernel
theorem dccL_isDone_208 : decode cL_isDone 208 = .ok (.goto 129, 3) := by decide +kernel
theorem dccL_isDone_211 : decode cL_isDone 211 = .ok (.aload_n 0, 1) := by decide +kernel
theorem dccL_isDone_212 : decode cL_isDone 212 = .ok (.iload_n 1, 1) := by decide +kernel
theorem dccL_isDone_213 : decode cL_isDone 213 = .ok (.iconst 4, 1) := by decide +kernel
theorem dccL_isDone_214 : decode cL_isDone 214 = .ok (.ishr, 1) := by decide +kernel
theorem dccL_isDone_215 : decode cL_isDone 215 = .ok (.iconst 4, 1) := by decide +kernel
theorem dccL_isDone_216 : decode cL_isDone 216 = .ok (.invokestatic 18, 3) := by decide +kernel
theorem dccL_isDone_219 : decode cL_isDone 219 = .ok (.invokevirtual 28, 3) := by decide +kernel
theorem dccL_isDone_222 : decode cL_isDone 222 = .ok (.pop, 1) := by decide +kernel
theorem dccL_isDone_223 : decode cL_isDone 223 = .ok (.goto 114, 3) := by decide +kernel
theorem dccL_isDone_226 : decode cL_isDone 226 = .ok (.aload_n 0, 1) := by decide +kernel
theorem dccL_isDone_227 : decode cL_isDone 227 = .ok (.iconst 1, 1) := by decide +kernel
theorem dccL_isDone_228 : decode cL_isDone 228 = .ok (.iload_n 1, 1) := by decide +kernel
theorem dccL_isDone_229 : decode cL_isDone 229 = .ok (.iconst 4, 1) := by decide +kernel
theorem dccL_isDone_230 : decode cL_isDone 230 = .ok (.ishr, 1) := by decide +kernel
theorem dccL_isDone_231 : decode cL_isDone 231 = .ok (.bipush 40, 2) := by decide +kernel
theorem dccL_isDone_233 : decode cL_isDone 233 = .ok (.invokestatic 18, 3) := by decide +kernel
theorem dccL_isDone_236 : decode cL_isDone 236 = .ok (.iadd, 1) := by decide +kernel
theorem dccL_isDone_237 : decode cL_isDone 237 = .ok (.iload_n 1, 1) := by decide +kernel
theorem dccL_isDone_238 : decode cL_isDone 238 = .ok (.bipush 7, 2) := by decide +kernel
theorem dccL_isDone_240 : decode cL_isDone 240 = .ok (.ishr, 1) := by decide +kernel
theorem dccL_isDone_241 : decode cL_isDone 241 = .ok (.bipush 9, 2) := by decide +kernel
theorem dccL_isDone_243 : decode cL_isDone 243 = .ok (.invokestatic 18, 3) := by decide +kernel
theorem dccL_isDone_246 : decode cL_isDone 246 = .ok (.invokevirtual 56, 3) := by decide +kernel
theorem dccL_isDone_249 : decode cL_isDone 249 = .ok (.pop, 1) := by decide +kernel
theorem dccL_isDone_250 : decode cL_isDone 250 = .ok (.goto 87, 3) := by decide +kernel
theorem dccL_isDone_253 : decode cL_isDone 253 = .ok (.aload_n 0, 1) := by decide +kernel
theorem dccL_isDone_254 : decode cL_isDone 254 = .ok (.iconst 1, 1) := by decide +kernel
theorem dccL_isDone_255 : decode cL_isDone 255 = .ok (.iload_n 1, 1) := by decide +kernel
theorem dccL_isDone_256 : decode cL_isDone 256 = .ok (.iconst 4, 1) := by decide +kernel
theorem dccL_isDone_257 : decode cL_isDone 257 = .ok (.ishr, 1) := by decide +kernel
theorem dccL_isDone_258 : decode cL_isDone 258 = .ok (.bipush 40, 2) := by decide +kernel
theorem dccL_isDone_260 : decode cL_isDone 260 = .ok (.invokestatic 18, 3) := by decide +kernel
theorem dccL_isDone_263 : decode cL_isDone 263 = .ok (.iadd, 1) := by decide +kernel
theorem dccL_isDone_264 : decode cL_isDone 264 = .ok (.invokevirtual 59, 3) := by decide +kernel
theorem dccL_isDone_267 : decode cL_isDone 267 = .ok (.pop, 1) := by decide +kernel
theorem dccL_isDone_268 : decode cL_isDone 268 = .ok (.goto 69, 3) := by decide +kernel
theorem dccL_isDone_271 : decode cL_isDone 271 = .ok (.iload_n 1, 1) := by decide +kernel
theorem dccL_isDone_272 : decode cL_isDone 272 = .ok (.iconst 4, 1) := by decide +kernel
theorem dccL_isDone_273 : decode cL_isDone 273 = .ok (.ishr, 1) := by decide +kernel
theorem dccL_isDone_274 : decode cL_isDone 274 = .ok (.iconst 2, 1) := by decide +kernel
theorem dccL_isDone_275 : decode cL_isDone 275 = .ok (.invokestatic 18, 3) := by decide +kernel
theorem dccL_isDone_278 : decode cL_isDone 278 = .ok (.ifCond .eq 12, 3) := by decide +kernel
theorem dccL_isDone_281 : decode cL_isDone 281 = .ok (.aload_n 0, 1) := by decide +kernel
theorem dccL_isDone_282 : decode cL_isDone 282 = .ok (.bipush 16, 2) := by decide +kernel
theorem dccL_isDone_284 : decode cL_isDone 284 = .ok (.invokevirtual 39, 3) := by decide +kernel
theorem dccL_isDone_287 : decode cL_isDone 287 = .ok (.ifCond .ne 17, 3) := by decide +kernel
theorem dccL_isDone_290 : decode cL_isDone 290 = .ok (.aload_n 0, 1) := by decide +kernel
theorem dccL_isDone_291 : decode cL_isDone 291 = .ok (.iload_n 1, 1) := by decide +kernel
theorem dccL_isDone_292 : decode cL_isDone 292 = .ok (.iconst 5, 1) := by decide +kernel
theorem dccL_isDone_293 : decode cL_isDone 293 = .ok (.ishr, 1) := by decide +kernel
theorem dccL_isDone_294 : decode cL_isDone 294 = .ok (.invokestatic 62, 3) := by decide +kernel
theorem dccL_isDone_297 : decode cL_isDone 297 = .ok (.invokevirtual 65, 3) := by decide +kernel
theorem dccL_isDone_300 : decode cL_isDone 300 = .ok (.pop, 1) := by decide +kernel
theorem dccL_isDone_301 : decode cL_isDone 301 = .ok (.goto 36, 3) := by decide +kernel
theorem dccL_isDone_304 : decode cL_isDone 304 = .ok (.aload_n 0, 1) := by decide +kernel
theorem dccL_isDone_305 : decode cL_isDone 305 = .ok (.iload_n 1, 1) := by decide +kernel
theorem dccL_isDone_306 : decode cL_isDone 306 = .ok (.iconst 5, 1) := by decide +kernel
theorem dccL_isDone_307 : decode cL_isDone 307 = .ok (.ishr, 1) := by decide +kernel
theorem dccL_isDone_308 : decode cL_isDone 308 = .ok (.aload_n 0, 1) := by decide +kernel
theorem dccL_isDone_309 : decode cL_isDone 309 = .ok (.bipush 16, 2) := by decide +kernel
theorem dccL_isDone_311 : decode cL_isDone 311 = .ok (.invokevirtual 39, 3) := by decide +kernel
theorem dccL_isDone_314 : decode cL_isDone 314 = .ok (.invokestatic 18, 3) := by decide +kernel
theorem dccL_isDone_317 : decode cL_isDone 317 = .ok (.iload_n 1, 1) := by decide +kernel
theorem dccL_isDone_318 : decode cL_isDone 318 = .ok (.bipush 7, 2) := by decide +kernel
theorem dccL_isDone_320 : decode cL_isDone 320 = .ok (.ishr, 1) := by decide +kernel
theorem dccL_isDone_321 : decode cL_isDone 321 = .ok (.iconst 2, 1) := by decide +kernel
theorem dccL_isDone_322 : decode cL_isDone 322 = .ok (.invokestatic 18, 3) := by decide +kernel
theorem dccL_isDone_325 : decode cL_isDone 325 = .ok (.ifCond .ne 7, 3) := by decide +kernel
theorem dccL_isDone_328 : decode cL_isDone 328 = .ok (.iconst 1, 1) := by decide +kernel
theorem dccL_isDone_329 : decode cL_isDone 329 = .ok (.goto 4, 3) := by decide +kernel
theorem dccL_isDone_332 : decode cL_isDone 332 = .ok (.iconst 0, 1) := by decide +kernel
theorem dccL_isDone_333 : decode cL_isDone 333 = .ok (.invokevirtual 68, 3) := by decide +kernel
theorem dccL_isDone_336 : decode cL_isDone 336 = .ok (.pop, 1) := by decide +kernel
theorem dccL_isDone_337 : decode cL_isDone 337 = .ok (.iconst 1, 1) := by decide +kernel
theorem dccL_isDone_338 : decode cL_isDone 338 = .ok (.ireturn, 1) := by decide +kernel
theorem dccL_isDone_339 : decode cL_isDone 339 = .ok (.astore_n 3, 1) := by decide +kernel
theorem dccL_isDone_340 : decode cL_isDone 340 = .ok (.iconst 0, 1) := by decide +kernel
theorem dccL_isDone_341 : decode cL_isDone 341 = .ok (.ireturn, 1) := by decide +kernel
theorem dccL_isDone_342 : decode cL_isDone 342 = .ok (.astore_n 3, 1) := by decide +kernel
theorem dccL_isDone_343 : decode cL_isDone 343 = .ok (.iconst 0, 1) := by decide +kernel
theorem dccL_isDone_344 : decode cL_isDone 344 = .ok (.ireturn, 1) := by decide +kernel
theorem dccL_isMost_0 : decode cL_isMost 0 = .ok (.iconst 0, 1) := by decide +kernel
theorem dccL_isMost_1 : decode cL_isMost 1 = .ok (.istore_n 1, 1) := by decide +kernel
theorem dccL_isMost_2 : decode cL_isMost 2 = .ok (.iconst 0, 1) := by decide +kernel
theorem dccL_isMost_3 : decode cL_isMost 3 = .ok (.istore_n 2, 1) := by decide +kernel
theorem dccL_isMost_4 : decode cL_isMost 4 = .ok (.iload_n 2, 1) := by decide +kernel
theorem dccL_isMost_5 : decode cL_isMost 5 = .ok (.aload_n 0, 1) := by decide +kernel
theorem dccL_isMost_6 : decode cL_isMost 6 = .ok (.iconst 2, 1) := by decide +kernel
theorem dccL_isMost_7 : decode cL_isMost 7 = .ok (.invokevirtual 39, 3) := by decide +kernel
theorem dccL_isMost_10 : decode cL_isMost 10 = .ok (.if_icmp .ge 20, 3) := by decide +kernel
theorem dccL_isMost_13 : decode cL_isMost 13 = .ok (.iload_n 1, 1) := by decide +kernel
theorem dccL_isMost_14 : decode cL_isMost 14 = .ok (.aload_n 0, 1) := by decide +kernel
theorem dccL_isMost_15 : decode cL_isMost 15 = .ok (.iload_n 2, 1) := by decide +kernel
theorem dccL_isMost_16 : decode cL_isMost 16 = .ok (.iconst 5, 1) := by decide +kernel
theorem dccL_isMost_17 : decode cL_isMost 17 = .ok (.invokevirtual 101, 3) := by decide +kernel
theorem dccL_isMost_20 : decode cL_isMost 20 = .ok (.iload_n 2, 1) := by decide +kernel
theorem dccL_isMost_21 : decode cL_isMost 21 = .ok (.ishl, 1) := by decide +kernel
theorem dccL_isMost_22 : decode cL_isMost 22 = .ok (.ior, 1) := by decide +kernel
theorem dccL_isMost_23 : decode cL_isMost 23 = .ok (.istore_n 1, 1) := by decide +kernel
theorem dccL_isMost_24 : decode cL_isMost 24 = .ok (.iinc 2 1, 3) := by decide +kernel
theorem dccL_isMost_27 : decode cL_isMost 27 = .ok (.goto (-23), 3) := by decide +kernel
theorem dccL_isMost_30 : decode cL_isMost 30 = .ok (.iconst 0, 1) := by decide +kernel
theorem dccL_isMost_31 : decode cL_isMost 31 = .ok (.istore_n 2, 1) := by decide +kernel
theorem dccL_isMost_32 : decode cL_isMost 32 = .ok (.iconst 0, 1) := by decide +kernel
theorem dccL_isMost_33 : decode cL_isMost 33 = .ok (.istore_n 3, 1) := by decide +kernel
theorem dccL_isMost_34 : decode cL_isMost 34 = .ok (.iload_n 3, 1) := by decide +kernel
theorem dccL_isMost_35 : decode cL_isMost 35 = .ok (.iconst 1, 1) := by decide +kernel
theorem dccL_isMost_36 : decode cL_isMost 36 = .ok (.aload_n 0, 1) := by decide +kernel
theorem dccL_isMost_37 : decode cL_isMost 37 = .ok (.iconst 2, 1) := by decide +kernel
theorem dccL_isMost_38 : decode cL_isMost 38 = .ok (.invokevirtual 39, 3) := by decide +kernel
theorem dccL_isMost_41 : decode cL_isMost 41 = .ok (.ishl, 1) := by decide +kernel
theorem dccL_isMost_42 : decode cL_isMost 42 = .ok (.if_icmp .ge 81, 3) := by decide +kernel
theorem dccL_isMost_45 : decode cL_isMost 45 = .ok (.iconst 0, 1) := by decide +kernel
theorem dccL_isMost_46 : decode cL_isMost 46 = .ok (.istore 4, 2) := by decide +kernel
theorem dccL_isMost_48 : decode cL_isMost 48 = .ok (.iconst 0, 1) := by decide +kernel
theorem dccL_isMost_49 : decode cL_isMost 49 = .ok (.istore 5, 2) := by decide +kernel
theorem dccL_isMost_51 : decode cL_isMost 51 = .ok (.iload 5, 2) := by decide +kernel
theorem dccL_isMost_53 : decode cL_isMost 53 = .ok (.aload_n 0, 1) := by decide +kernel
theorem dccL_isMost_54 : decode cL_isMost 54 = .ok (.iconst 2, 1) := by decide +kernel
theorem dccL_isMost_55 : decode cL_isMost 55 = .ok (.invokevirtual 39, 3) := by decide +kernel
theorem dccL_isMost_58 : decode cL_isMost 58 = .ok (.if_icmp .ge 28, 3) := by decide +kernel
theorem dccL_isMost_61 : decode cL_isMost 61 = .ok (.iload 4, 2) := by decide +kernel
theorem dccL_isMost_63 : decode cL_isMost 63 = .ok (.iload_n 3, 1) := by decide +kernel
theorem dccL_isMost_64 : decode cL_isMost 64 = .ok (.iload 5, 2) := by decide +kernel
theorem dccL_isMost_66 : decode cL_isMost 66 = .ok (.ishr, 1) := by decide +kernel
theorem dccL_isMost_67 : decode cL_isMost 67 = .ok (.iconst 1, 1) := by decide +kernel
theorem dccL_isMost_68 : decode cL_isMost 68 = .ok (.iand, 1) := by decide +kernel
theorem dccL_isMost_69 : decode cL_isMost 69 = .ok (.aload_n 0, 1) := by decide +kernel
theorem dccL_isMost_70 : decode cL_isMost 70 = .ok (.iload 5, 2) := by decide +kernel
theorem dccL_isMost_72 : decode cL_isMost 72 = .ok (.iconst 1, 1) := by decide +kernel
theorem dccL_isMost_73 : decode cL_isMost 73 = .ok (.invokevirtual 101, 3) := by decide +kernel
theorem dccL_isMost_76 : decode cL_isMost 76 = .ok (.imul, 1) := by decide +kernel
theorem dccL_isMost_77 : decode cL_isMost 77 = .ok (.iadd, 1) := by decide +kernel
theorem dccL_isMost_78 : decode cL_isMost 78 = .ok (.istore 4, 2) := by decide +kernel
theorem dccL_isMost_80 : decode cL_isMost 80 = .ok (.iinc 5 1, 3) := by decide +kernel
theorem dccL_isMost_83 : decode cL_isMost 83 = .ok (.goto (-32), 3) := by decide +kernel
theorem dccL_isMost_86 : decode cL_isMost 86 = .ok (.iload_n 3, 1) := by decide +kernel
theorem dccL_isMost_87 : decode cL_isMost 87 = .ok (.iload_n 1, 1) := by decide +kernel
theorem dccL_isMost_88 : decode cL_isMost 88 = .ok (.if_icmp .ne 14, 3) := by decide +kernel
theorem dccL_isMost_91 : decode cL_isMost 91 = .ok (.iload 4, 2) := by decide +kernel
theorem dccL_isMost_93 : decode cL_isMost 93 = .ok (.aload_n 0, 1) := by decide +kernel
theorem dccL_isMost_94 : decode cL_isMost 94 = .ok (.invokevirtual 129, 3) := by decide +kernel
theorem dccL_isMost_97 : decode cL_isMost 97 = .ok (.if_icmp .eq 5, 3) := by decide +kernel
theorem dccL_isMost_100 : decode cL_isMost 100 = .ok (.iconst 0, 1) := by decide +kernel
theorem dccL_isMost_101 : decode cL_isMost 101 = .ok (.ireturn, 1) := by decide +kernel
theorem dccL_isMost_102 : decode cL_isMost 102 = .ok (.aload_n 0, 1) := by decide +kernel
theorem dccL_isMost_103 : decode cL_isMost 103 = .ok (.iload_n 3, 1) := by decide +kernel
theorem dccL_isMost_104 : decode cL_isMost 104 = .ok (.invokevirtual 133, 3) := by decide +kernel
theorem dccL_isMost_107 : decode cL_isMost 107 = .ok (.ifCond .eq 10, 3) := by decide +kernel
theorem dccL_isMost_110 : decode cL_isMost 110 = .ok (.iload_n 2, 1) := by decide +kernel
theorem dccL_isMost_111 : decode cL_isMost 111 = .ok (.iload 4, 2) := by decide +kernel
theorem dccL_isMost_113 : decode cL_isMost 113 = .ok (.invokestatic 42, 3) := by decide +kernel
theorem dccL_isMost_116 : decode cL_isMost 116 = .ok (.istore_n 2, 1) := by decide +kernel
theorem dccL_isMost_117 : decode cL_isMost 117 = .ok (.iinc 3 1, 3) := by decide +kernel
theorem dccL_isMost_120 : decode cL_isMost 120 = .ok (.goto (-86), 3) := by decide +kernel
theorem dccL_isMost_123 : decode cL_isMost 123 = .ok (.aload_n 0, 1) := by decide +kernel
theorem dccL_isMost_124 : decode cL_isMost 124 = .ok (.iload_n 1, 1) := by decide +kernel
theorem dccL_isMost_125 : decode cL_isMost 125 = .ok (.invokevirtual 133, 3) := by decide +kernel
theorem dccL_isMost_128 : decode cL_isMost 128 = .ok (.ifCond .eq 15, 3) := by decide +kernel
theorem dccL_isMost_131 : decode cL_isMost 131 = .ok (.aload_n 0, 1) := by decide +kernel
theorem dccL_isMost_132 : decode cL_isMost 132 = .ok (.invokevirtual 129, 3) := by decide +kernel
theorem dccL_isMost_135 : decode cL_isMost 135 = .ok (.iload_n 2, 1) := by decide +kernel
theorem dccL_isMost_136 : decode cL_isMost 136 = .ok (.if_icmp .ne 7, 3) := by decide +kernel
theorem dccL_isMost_139 : decode cL_isMost 139 = .ok (.iconst 1, 1) := by decide +kernel
theorem dccL_isMost_140 : decode cL_isMost 140 = .ok (.goto 4, 3) := by decide +kernel
theorem dccL_isMost_143 : decode cL_isMost 143 = .ok (.iconst 0, 1) := by decide +kernel
theorem dccL_isMost_144 : decode cL_isMost 144 = .ok (.ireturn, 1) := by decide +kernel
theorem dccL_isStable_0 : decode cL_isStable 0 = .ok (.iconst 0, 1) := by decide +kernel
theorem dccL_isStable_1 : decode cL_isStable 1 = .ok (.istore_n 1, 1) := by decide +kernel
theorem dccL_isStable_2 : decode cL_isStable 2 = .ok (.iload_n 1, 1) := by decide +kernel
theorem dccL_isStable_3 : decode cL_isStable 3 = .ok (.aload_n 0, 1) := by decide +kernel
theorem dccL_isStable_4 : decode cL_isStable 4 = .ok (.iconst 2, 1) := by decide +kernel
theorem dccL_isStable_5 : decode cL_isStable 5 = .ok (.invokevirtual 39, 3) := by decide +kernel
theorem dccL_isStable_8 : decode cL_isStable 8 = .ok (.if_icmp .ge 177, 3) := by decide +kernel
theorem dccL_isStable_11 : decode cL_isStable 11 = .ok (.aload_n 0, 1) := by decide +kernel
theorem dccL_isStable_12 : decode cL_isStable 12 = .ok (.iload_n 1, 1) := by decide +kernel
theorem dccL_isStable_13 : decode cL_isStable 13 = .ok (.iconst 4, 1) := by decide +kernel
theorem dccL_isStable_14 : decode cL_isStable 14 = .ok (.invokevirtual 101, 3) := by decide +kernel
theorem dccL_isStable_17 : decode cL_isStable 17 = .ok (.istore_n 2, 1) := by decide +kernel
theorem dccL_isStable_18 : decode cL_isStable 18 = .ok (.aload_n 0, 1) := by decide +kernel
theorem dccL_isStable_19 : decode cL_isStable 19 = .ok (.iload_n 1, 1) := by decide +kernel
theorem dccL_isStable_20 : decode cL_isStable 20 = .ok (.iconst 3, 1) := by decide +kernel
theorem dccL_isStable_21 : decode cL_isStable 21 = .ok (.invokevirtual 101, 3) := by decide +kernel
theorem dccL_isStable_24 : decode cL_isStable 24 = .ok (.iconst 1, 1) := by decide +kernel
theorem dccL_isStable_25 : decode cL_isStable 25 = .ok (.if_icmp .eq 10, 3) := by decide +kernel
theorem dccL_isStable_28 : decode cL_isStable 28 = .ok (.iload_n 2, 1) := by decide +kernel
theorem dccL_isStable_29 : decode cL_isStable 29 = .ok (.iconst (-1), 1) := by decide +kernel
theorem dccL_isStable_30 : decode cL_isStable 30 = .ok (.if_icmp .eq 149, 3) := by decide +kernel
theorem dccL_isStable_33 : decode cL_isStable 33 = .ok (.iconst 0, 1) := by decide +kernel
theorem dccL_isStable_34 : decode cL_isStable 34 = .ok (.ireturn, 1) := by decide +kernel
theorem dccL_isStable_35 : decode cL_isStable 35 = .ok (.iconst 0, 1) := by decide +kernel
theorem dccL_isStable_36 : decode cL_isStable 36 = .ok (.istore_n 3, 1) := by decide +kernel
theorem dccL_isStable_37 : decode cL_isStable 37 = .ok (.iload_n 3, 1) := by decide +kernel
theorem dccL_isStable_38 : decode cL_isStable 38 = .ok (.aload_n 0, 1) := by decide +kernel
theorem dccL_isStable_39 : decode cL_isStable 39 = .ok (.iconst 1, 1) := by decide +kernel
theorem dccL_isStable_40 : decode cL_isStable 40 = .ok (.invokevirtual 39, 3) := by decide +kernel
theorem dccL_isStable_43 : decode cL_isStable 43 = .ok (.if_icmp .ge 136, 3) := by decide +kernel
theorem dccL_isStable_46 : decode cL_isStable 46 = .ok (.aload_n 0, 1) := by decide +kernel
theorem dccL_isStable_47 : decode cL_isStable 47 = .ok (.iload_n 3, 1) := by decide +kernel
theorem dccL_isStable_48 : decode cL_isStable 48 = .ok (.iconst 2, 1) := by decide +kernel
theorem dccL_isStable_49 : decode cL_isStable 49 = .ok (.invokevirtual 107, 3) := by decide +kernel
theorem dccL_isStable_52 : decode cL_isStable 52 = .ok (.istore 4, 2) := by decide +kernel
theorem dccL_isStable_54 : decode cL_isStable 54 = .ok (.iload 4, 2) := by decide +kernel
theorem dccL_isStable_56 : decode cL_isStable 56 = .ok (.invokestatic 113, 3) := by decide +kernel
theorem dccL_isStable_59 : decode cL_isStable 59 = .ok (.aload_n 0, 1) := by decide +kernel
theorem dccL_isStable_60 : decode cL_isStable 60 = .ok (.iload_n 3, 1) := by decide +kernel
theorem dccL_isStable_61 : decode cL_isStable 61 = .ok (.iconst 0, 1) := by decide +kernel
theorem dccL_isStable_62 : decode cL_isStable 62 = .ok (.invokevirtual 107, 3) := by decide +kernel
theorem dccL_isStable_65 : decode cL_isStable 65 = .ok (.if_icmp .gt 22, 3) := by decide +kernel
theorem dccL_isStable_68 : decode cL_isStable 68 = .ok (.iload 4, 2) := by decide +kernel
theorem dccL_isStable_70 : decode cL_isStable 70 = .ok (.iload_n 1, 1) := by decide +kernel
theorem dccL_isStable_71 : decode cL_isStable 71 = .ok (.ishr, 1) := by decide +kernel
theorem dccL_isStable_72 : decode cL_isStable 72 = .ok (.iconst 1, 1) := by decide +kernel
theorem dccL_isStable_73 : decode cL_isStable 73 = .ok (.iand, 1) := by decide +kernel
theorem dccL_isStable_74 : decode cL_isStable 74 = .ok (.iload_n 2, 1) := by decide +kernel
theorem dccL_isStable_75 : decode cL_isStable 75 = .ok (.iload_n 3, 1) := by decide +kernel
theorem dccL_isStable_76 : decode cL_isStable 76 = .ok (.if_icmp .ne 7, 3) := by decide +kernel
theorem dccL_isStable_79 : decode cL_isStable 79 = .ok (.iconst 1, 1) := by decide +kernel
theorem dccL_isStable_80 : decode cL_isStable 80 = .ok (.goto 4, 3) := by decide +kernel
theorem dccL_isStable_83 : decode cL_isStable 83 = .ok (.iconst 0, 1) := by decide +kernel
theorem dccL_isStable_84 : decode cL_isStable 84 = .ok (.if_icmp .eq 5, 3) := by decide +kernel
theorem dccL_isStable_87 : decode cL_isStable 87 = .ok (.iconst 0, 1) := by decide +kernel
theorem dccL_isStable_88 : decode cL_isStable 88 = .ok (.ireturn, 1) := by decide +kernel
theorem dccL_isStable_89 : decode cL_isStable 89 = .ok (.iload_n 2, 1) := by decide +kernel
theorem dccL_isStable_90 : decode cL_isStable 90 = .ok (.ifCond .lt 21, 3) := by decide +kernel
theorem dccL_isStable_93 : decode cL_isStable 93 = .ok (.aload_n 0, 1) := by decide +kernel
theorem dccL_isStable_94 : decode cL_isStable 94 = .ok (.iload_n 1, 1) := by decide +kernel
theorem dccL_isStable_95 : decode cL_isStable 95 = .ok (.iload_n 3, 1) := by decide +kernel
theorem dccL_isStable_96 : decode cL_isStable 96 = .ok (.invokestatic 118, 3) := by decide +kernel
theorem dccL_isStable_99 : decode cL_isStable 99 = .ok (.aload_n 0, 1) := by decide +kernel
theorem dccL_isStable_100 : decode cL_isStable 100 = .ok (.iload_n 1, 1) := by decide +kernel
theorem dccL_isStable_101 : decode cL_isStable 101 = .ok (.iload_n 2, 1) := by decide +kernel
theorem dccL_isStable_102 : decode cL_isStable 102 = .ok (.invokestatic 118, 3) := by decide +kernel
theorem dccL_isStable_105 : decode cL_isStable 105 = .ok (.if_icmp .lt 6, 3) := by decide +kernel
theorem dccL_isStable_108 : decode cL_isStable 108 = .ok (.goto 65, 3) := by decide +kernel
theorem dccL_isStable_111 : decode cL_isStable 111 = .ok (.iload 4, 2) := by decide +kernel
theorem dccL_isStable_113 : decode cL_isStable 113 = .ok (.invokestatic 113, 3) := by decide +kernel
theorem dccL_isStable_116 : decode cL_isStable 116 = .ok (.aload_n 0, 1) := by decide +kernel
theorem dccL_isStable_117 : decode cL_isStable 117 = .ok (.iload_n 3, 1) := by decide +kernel
theorem dccL_isStable_118 : decode cL_isStable 118 = .ok (.iconst 0, 1) := by decide +kernel
theorem dccL_isStable_119 : decode cL_isStable 119 = .ok (.invokevirtual 107, 3) := by decide +kernel
theorem dccL_isStable_122 : decode cL_isStable 122 = .ok (.if_icmp .ge 5, 3) := by decide +kernel
theorem dccL_isStable_125 : decode cL_isStable 125 = .ok (.iconst 0, 1) := by decide +kernel
theorem dccL_isStable_126 : decode cL_isStable 126 = .ok (.ireturn, 1) := by decide +kernel
theorem dccL_isStable_127 : decode cL_isStable 127 = .ok (.iconst 0, 1) := by decide +kernel
theorem dccL_isStable_128 : decode cL_isStable 128 = .ok (.istore 5, 2) := by decide +kernel
theorem dccL_isStable_130 : decode cL_isStable 130 = .ok (.iload 5, 2) := by decide +kernel
theorem dccL_isStable_132 : decode cL_isStable 132 = .ok (.aload_n 0, 1) := by decide +kernel
theorem dccL_isStable_133 : decode cL_isStable 133 = .ok (.iconst 2, 1) := by decide +kernel
theorem dccL_isStable_134 : decode cL_isStable 134 = .ok (.invokevirtual 39, 3) := by decide +kernel
theorem dccL_isStable_137 : decode cL_isStable 137 = .ok (.if_icmp .ge 36, 3) := by decide +kernel
theorem dccL_isStable_140 : decode cL_isStable 140 = .ok (.iload 4, 2) := by decide +kernel
theorem dccL_isStable_142 : decode cL_isStable 142 = .ok (.iload 5, 2) := by decide +kernel
theorem dccL_isStable_144 : decode cL_isStable 144 = .ok (.ishr, 1) := by decide +kernel
theorem dccL_isStable_145 : decode cL_isStable 145 = .ok (.iconst 1, 1) := by decide +kernel
theorem dccL_isStable_146 : decode cL_isStable 146 = .ok (.iand, 1) := by decide +kernel
theorem dccL_isStable_147 : decode cL_isStable 147 = .ok (.iconst 1, 1) := by decide +kernel
theorem dccL_isStable_148 : decode cL_isStable 148 = .ok (.if_icmp .ne 19, 3) := by decide +kernel
theorem dccL_isStable_151 : decode cL_isStable 151 = .ok (.aload_n 0, 1) := by decide +kernel
theorem dccL_isStable_152 : decode cL_isStable 152 = .ok (.iload_n 1, 1) := by decide +kernel
theorem dccL_isStable_153 : decode cL_isStable 153 = .ok (.invokestatic 122, 3) := by decide +kernel
theorem dccL_isStable_156 : decode cL_isStable 156 = .ok (.aload_n 0, 1) := by decide +kernel
theorem dccL_isStable_157 : decode cL_isStable 157 = .ok (.iload 5, 2) := by decide +kernel
theorem dccL_isStable_159 : decode cL_isStable 159 = .ok (.invokestatic 122, 3) := by decide +kernel
theorem dccL_isStable_162 : decode cL_isStable 162 = .ok (.if_icmp .le 5, 3) := by decide +kernel
theorem dccL_isStable_165 : decode cL_isStable 165 = .ok (.iconst 0, 1) := by decide +kernel
theorem dccL_isStable_166 : decode cL_isStable 166 = .ok (.ireturn, 1) := by decide +kernel
theorem dccL_isStable_167 : decode cL_isStable 167 = .ok (.iinc 5 1, 3) := by decide +kernel
theorem dccL_isStable_170 : decode cL_isStable 170 = .ok (.goto (-40), 3) := by decide +kernel
theorem dccL_isStable_173 : decode cL_isStable 173 = .ok (.iinc 3 1, 3) := by decide +kernel
theorem dccL_isStable_176 : decode cL_isStable 176 = .ok (.goto (-139), 3) := by decide +kernel
theorem dccL_isStable_179 : decode cL_isStable 179 = .ok (.iinc 1 1, 3) := by decide +kernel
theorem dccL_isStable_182 : decode cL_isStable 182 = .ok (.goto (-180), 3) := by decide +kernel
theorem dccL_isStable_185 : decode cL_isStable 185 = .ok (.iconst 1, 1) := by decide +kernel
theorem dccL_isStable_186 : decode cL_isStable 186 = .ok (.ireturn, 1) := by decide +kernel
theorem dccL_law_0 : decode cL_law 0 = .ok (.aload_n 0, 1) := by decide +kernel
theorem dccL_law_1 : decode cL_law 1 = .ok (.invokestatic 76, 3) := by decide +kernel
theorem dccL_law_4 : decode cL_law 4 = .ok (.astore_n 1, 1) := by decide +kernel
theorem dccL_law_5 : decode cL_law 5 = .ok (.iconst 0, 1) := by decide +kernel
theorem dccL_law_6 : decode cL_law 6 = .ok (.istore_n 2, 1) := by decide +kernel
theorem dccL_law_7 : decode cL_law 7 = .ok (.iconst 0, 1) := by decide +kernel
theorem dccL_law_8 : decode cL_law 8 = .ok (.istore_n 3, 1) := by decide +kernel
theorem dccL_law_9 : decode cL_law 9 = .ok (.iload_n 3, 1) := by decide +kernel
theorem dccL_law_10 : decode cL_law 10 = .ok (.bipush 12, 2) := by decide +kernel
theorem dccL_law_12 : decode cL_law 12 = .ok (.if_icmp .ge 153, 3) := by decide +kernel
theorem dccL_law_15 : decode cL_law 15 = .ok (.aload_n 1, 1) := by decide +kernel
theorem dccL_law_16 : decode cL_law 16 = .ok (.invokevirtual 79, 3) := by decide +kernel
theorem dccL_law_19 : decode cL_law 19 = .ok (.lstore 4, 2) := by decide +kernel
theorem dccL_law_21 : decode cL_law 21 = .ok (.aload_n 0, 1) := by decide +kernel
theorem dccL_law_22 : decode cL_law 22 = .ok (.bipush 12, 2) := by decide +kernel
theorem dccL_law_24 : decode cL_law 24 = .ok (.iload_n 3, 1) := by decide +kernel
theorem dccL_law_25 : decode cL_law 25 = .ok (.iadd, 1) := by decide +kernel
theorem dccL_law_26 : decode cL_law 26 = .ok (.invokestatic 12, 3) := by decide +kernel
theorem dccL_law_29 : decode cL_law 29 = .ok (.istore 6, 2) := by decide +kernel
theorem dccL_law_31 : decode cL_law 31 = .ok (.aload_n 1, 1) := by decide +kernel
theorem dccL_law_32 : decode cL_law 32 = .ok (.bipush 12, 2) := by decide +kernel
theorem dccL_law_34 : decode cL_law 34 = .ok (.invokevirtual 39, 3) := by decide +kernel
theorem dccL_law_37 : decode cL_law 37 = .ok (.aload_n 1, 1) := by decide +kernel
theorem dccL_law_38 : decode cL_law 38 = .ok (.bipush 13, 2) := by decide +kernel
theorem dccL_law_40 : decode cL_law 40 = .ok (.invokevirtual 39, 3) := by decide +kernel
theorem dccL_law_43 : decode cL_law 43 = .ok (.iadd, 1) := by decide +kernel
theorem dccL_law_44 : decode cL_law 44 = .ok (.aload_n 1, 1) := by decide +kernel
theorem dccL_law_45 : decode cL_law 45 = .ok (.bipush 14, 2) := by decide +kernel
theorem dccL_law_47 : decode cL_law 47 = .ok (.invokevirtual 39, 3) := by decide +kernel
theorem dccL_law_50 : decode cL_law 50 = .ok (.iadd, 1) := by decide +kernel
theorem dccL_law_51 : decode cL_law 51 = .ok (.istore 7, 2) := by decide +kernel
theorem dccL_law_53 : decode cL_law 53 = .ok (.aload_n 1, 1) := by decide +kernel
theorem dccL_law_54 : decode cL_law 54 = .ok (.iload 6, 2) := by decide +kernel
theorem dccL_law_56 : decode cL_law 56 = .ok (.invokestatic 83, 3) := by decide +kernel
theorem dccL_law_59 : decode cL_law 59 = .ok (.ifCond .ne 15, 3) := by decide +kernel
theorem dccL_law_62 : decode cL_law 62 = .ok (.aload_n 1, 1) := by decide +kernel
theorem dccL_law_63 : decode cL_law 63 = .ok (.invokevirtual 79, 3) := by decide +kernel
theorem dccL_law_66 : decode cL_law 66 = .ok (.lload 4, 2) := by decide +kernel
