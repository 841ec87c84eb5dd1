theorem dccJ0_coder_7d493_0 : decode cJ0_coder_7d493 0 = .ok (.getstatic 38, 3) := by decide +kernel
theorem dccJ0_coder_7d493_3 : decode cJ0_coder_7d493 3 = .ok (.ifCond .eq 10, 3) := by decide +kernel
theorem dccJ0_coder_7d493_6 : decode cJ0_coder_7d493 6 = .ok (.aload_n 0, 1) := by decide +kernel
theorem dccJ0_coder_7d493_7 : decode cJ0_coder_7d493 7 = .ok (.getfield 15, 3) := by decide +kernel
theorem dccJ0_coder_7d493_10 : decode cJ0_coder_7d493 10 = .ok (.goto 4, 3) := by decide +kernel
theorem dccJ0_coder_7d493_13 : decode cJ0_coder_7d493 13 = .ok (.iconst 1, 1) := by decide +kernel
theorem dccJ0_coder_7d493_14 : decode cJ0_coder_7d493 14 = .ok (.ireturn, 1) := by decide +kernel
theorem dccJ0_init_81219_0 : decode cJ0_init_81219 0 = .ok (.aload_n 0, 1) := by decide +kernel
theorem dccJ0_init_81219_1 : decode cJ0_init_81219 1 = .ok (.aload_n 1, 1) := by decide +kernel
theorem dccJ0_init_81219_2 : decode cJ0_init_81219 2 = .ok (.aconst_null, 1) := by decide +kernel
theorem dccJ0_init_81219_3 : decode cJ0_init_81219 3 = .ok (.invokespecial 489, 3) := by decide +kernel
theorem dccJ0_init_81219_6 : decode cJ0_init_81219 6 = .ok (.return_, 1) := by decide +kernel
theorem dccJ0_init_db425_0 : decode cJ0_init_db425 0 = .ok (.aload_n 0, 1) := by decide +kernel
theorem dccJ0_init_db425_1 : decode cJ0_init_db425 1 = .ok (.invokespecial 1, 3) := by decide +kernel
theorem dccJ0_init_db425_4 : decode cJ0_init_db425 4 = .ok (.aload_n 1, 1) := by decide +kernel
theorem dccJ0_init_db425_5 : decode cJ0_init_db425 5 = .ok (.invokevirtual 552, 3) := by decide +kernel
theorem dccJ0_init_db425_8 : decode cJ0_init_db425 8 = .ok (.astore_n 3, 1) := by decide +kernel
theorem dccJ0_init_db425_9 : decode cJ0_init_db425 9 = .ok (.aload_n 1, 1) := by decide +kernel
theorem dccJ0_init_db425_10 : decode cJ0_init_db425 10 = .ok (.invokevirtual 549, 3) := by decide +kernel
theorem dccJ0_init_db425_13 : decode cJ0_init_db425 13 = .ok (.istore 4, 2) := by decide +kernel
theorem dccJ0_init_db425_15 : decode cJ0_init_db425 15 = .ok (.aload_n 1, 1) := by decide +kernel
theorem dccJ0_init_db425_16 : decode cJ0_init_db425 16 = .ok (.invokevirtual 1047, 3) := by decide +kernel
theorem dccJ0_init_db425_19 : decode cJ0_init_db425 19 = .ok (.ifCond .eq 22, 3) := by decide +kernel
theorem dccJ0_init_db425_22 : decode cJ0_init_db425 22 = .ok (.aload_n 0, 1) := by decide +kernel
theorem dccJ0_init_db425_23 : decode cJ0_init_db425 23 = .ok (.iconst 0, 1) := by decide +kernel
theorem dccJ0_init_db425_24 : decode cJ0_init_db425 24 = .ok (.putfield 15, 3) := by decide +kernel
theorem dccJ0_init_db425_27 : decode cJ0_init_db425 27 = .ok (.aload_n 0, 1) := by decide +kernel
theorem dccJ0_init_db425_28 : decode cJ0_init_db425 28 = .ok (.aload_n 3, 1) := by decide +kernel
theorem dccJ0_init_db425_29 : decode cJ0_init_db425 29 = .ok (.iconst 0, 1) := by decide +kernel
theorem dccJ0_init_db425_30 : decode cJ0_init_db425 30 = .ok (.iload 4, 2) := by decide +kernel
theorem dccJ0_init_db425_32 : decode cJ0_init_db425 32 = .ok (.invokestatic 54, 3) := by decide +kernel
theorem dccJ0_init_db425_35 : decode cJ0_init_db425 35 = .ok (.putfield 9, 3) := by decide +kernel
theorem dccJ0_init_db425_38 : decode cJ0_init_db425 38 = .ok (.goto 59, 3) := by decide +kernel
theorem dccJ0_init_db425_41 : decode cJ0_init_db425 41 = .ok (.getstatic 38, 3) := by decide +kernel
theorem dccJ0_init_db425_44 : decode cJ0_init_db425 44 = .ok (.ifCond .eq 35, 3) := by decide +kernel
theorem dccJ0_init_db425_47 : decode cJ0_init_db425 47 = .ok (.aload_n 1, 1) := by decide +kernel
theorem dccJ0_init_db425_48 : decode cJ0_init_db425 48 = .ok (.getfield 1048, 3) := by decide +kernel
theorem dccJ0_init_db425_51 : decode cJ0_init_db425 51 = .ok (.ifCond .eq 28, 3) := by decide +kernel
theorem dccJ0_init_db425_54 : decode cJ0_init_db425 54 = .ok (.aload_n 0, 1) := by decide +kernel
theorem dccJ0_init_db425_55 : decode cJ0_init_db425 55 = .ok (.aload_n 3, 1) := by decide +kernel
theorem dccJ0_init_db425_56 : decode cJ0_init_db425 56 = .ok (.iconst 0, 1) := by decide +kernel
theorem dccJ0_init_db425_57 : decode cJ0_init_db425 57 = .ok (.iload 4, 2) := by decide +kernel
theorem dccJ0_init_db425_79 : decode cJ0_init_db425 79 = .ok (.aload_n 0, 1) := by decide +kernel
theorem dccJ0_init_db425_80 : decode cJ0_init_db425 80 = .ok (.iconst 1, 1) := by decide +kernel
theorem dccJ0_init_db425_81 : decode cJ0_init_db425 81 = .ok (.putfield 15, 3) := by decide +kernel
theorem dccJ0_init_db425_84 : decode cJ0_init_db425 84 = .ok (.aload_n 0, 1) := by decide +kernel
theorem dccJ0_init_db425_85 : decode cJ0_init_db425 85 = .ok (.aload_n 3, 1) := by decide +kernel
theorem dccJ0_init_db425_86 : decode cJ0_init_db425 86 = .ok (.iconst 0, 1) := by decide +kernel
theorem dccJ0_init_db425_87 : decode cJ0_init_db425 87 = .ok (.iload 4, 2) := by decide +kernel
theorem dccJ0_init_db425_89 : decode cJ0_init_db425 89 = .ok (.iconst 1, 1) := by decide +kernel
theorem dccJ0_init_db425_90 : decode cJ0_init_db425 90 = .ok (.ishl, 1) := by decide +kernel
theorem dccJ0_init_db425_91 : decode cJ0_init_db425 91 = .ok (.invokestatic 54, 3) := by decide +kernel
theorem dccJ0_init_db425_94 : decode cJ0_init_db425 94 = .ok (.putfield 9, 3) := by decide +kernel
theorem dccJ0_init_db425_97 : decode cJ0_init_db425 97 = .ok (.return_, 1) := by decide +kernel
theorem dccJ0_length_8abf5_0 : decode cJ0_length_8abf5 0 = .ok (.aload_n 0, 1) := by decide +kernel
theorem dccJ0_length_8abf5_1 : decode cJ0_length_8abf5 1 = .ok (.getfield 9, 3) := by decide +kernel
theorem dccJ0_length_8abf5_4 : decode cJ0_length_8abf5 4 = .ok (.arraylength, 1) := by decide +kernel
theorem dccJ0_length_8abf5_5 : decode cJ0_length_8abf5 5 = .ok (.aload_n 0, 1) := by decide +kernel
theorem dccJ0_length_8abf5_6 : decode cJ0_length_8abf5 6 = .ok (.invokevirtual 335, 3) := by decide +kernel
theorem dccJ0_length_8abf5_9 : decode cJ0_length_8abf5 9 = .ok (.ishr, 1) := by decide +kernel
theorem dccJ0_length_8abf5_10 : decode cJ0_length_8abf5 10 = .ok (.ireturn, 1) := by decide +kernel
theorem dccJ15_checkIndex_7cf53_0 : decode cJ15_checkIndex_7cf53 0 = .ok (.iload_n 0, 1) := by decide +kernel
theorem dccJ15_checkIndex_7cf53_1 : decode cJ15_checkIndex_7cf53 1 = .ok (.iload_n 1, 1) := by decide +kernel
theorem dccJ15_checkIndex_7cf53_2 : decode cJ15_checkIndex_7cf53 2 = .ok (.aconst_null, 1) := by decide +kernel
theorem dccJ15_checkIndex_7cf53_3 : decode cJ15_checkIndex_7cf53 3 = .ok (.invokestatic 105, 3) := by decide +kernel
theorem dccJ15_checkIndex_7cf53_6 : decode cJ15_checkIndex_7cf53 6 = .ok (.ireturn, 1) := by decide +kernel
theorem dccJ1_canEncode_fc78d_0 : decode cJ1_canEncode_fc78d 0 = .ok (.iload_n 0, 1) := by decide +kernel
theorem dccJ1_canEncode_fc78d_1 : decode cJ1_canEncode_fc78d 1 = .ok (.sipush 255, 3) := by decide +kernel
theorem dccJ1_canEncode_fc78d_4 : decode cJ1_canEncode_fc78d 4 = .ok (.if_icmp .gt 7, 3) := by decide +kernel
theorem dccJ1_canEncode_fc78d_7 : decode cJ1_canEncode_fc78d 7 = .ok (.iconst 1, 1) := by decide +kernel
theorem dccJ1_canEncode_fc78d_8 : decode cJ1_canEncode_fc78d 8 = .ok (.goto 4, 3) := by decide +kernel
theorem dccJ1_canEncode_fc78d_11 : decode cJ1_canEncode_fc78d 11 = .ok (.iconst 0, 1) := by decide +kernel
theorem dccJ1_canEncode_fc78d_12 : decode cJ1_canEncode_fc78d 12 = .ok (.ireturn, 1) := by decide +kernel
theorem dccJ3_checkIndex_8e157_0 : decode cJ3_checkIndex_8e157 0 = .ok (.iload_n 0, 1) := by decide +kernel
theorem dccJ3_checkIndex_8e157_1 : decode cJ3_checkIndex_8e157 1 = .ok (.ifCond .lt 8, 3) := by decide +kernel
theorem dccJ3_checkIndex_8e157_4 : decode cJ3_checkIndex_8e157 4 = .ok (.iload_n 0, 1) := by decide +kernel
theorem dccJ3_checkIndex_8e157_5 : decode cJ3_checkIndex_8e157 5 = .ok (.iload_n 1, 1) := by decide +kernel
theorem dccJ3_checkIndex_8e157_6 : decode cJ3_checkIndex_8e157 6 = .ok (.if_icmp .lt 10, 3) := by decide +kernel
theorem dccJ3_checkIndex_8e157_9 : decode cJ3_checkIndex_8e157 9 = .ok (.aload_n 2, 1) := by decide +kernel
theorem dccJ3_checkIndex_8e157_10 : decode cJ3_checkIndex_8e157 10 = .ok (.iload_n 0, 1) := by decide +kernel
theorem dccJ3_checkIndex_8e157_11 : decode cJ3_checkIndex_8e157 11 = .ok (.iload_n 1, 1) := by decide +kernel
theorem dccJ3_checkIndex_8e157_16 : decode cJ3_checkIndex_8e157 16 = .ok (.iload_n 0, 1) := by decide +kernel
theorem dccJ3_checkIndex_8e157_17 : decode cJ3_checkIndex_8e157 17 = .ok (.ireturn, 1) := by decide +kernel
theorem dccJ4_append_cf468_0 : decode cJ4_append_cf468 0 = .ok (.aload_n 0, 1) := by decide +kernel
theorem dccJ4_append_cf468_1 : decode cJ4_append_cf468 1 = .ok (.iload_n 1, 1) := by decide +kernel
theorem dccJ4_append_cf468_2 : decode cJ4_append_cf468 2 = .ok (.invokespecial 50, 3) := by decide +kernel
theorem dccJ4_append_cf468_5 : decode cJ4_append_cf468 5 = .ok (.pop, 1) := by decide +kernel
theorem dccJ4_append_cf468_6 : decode cJ4_append_cf468 6 = .ok (.aload_n 0, 1) := by decide +kernel
theorem dccJ4_append_cf468_7 : decode cJ4_append_cf468 7 = .ok (.areturn, 1) := by decide +kernel
theorem dccJ4_init_da8c8_0 : decode cJ4_init_da8c8 0 = .ok (.aload_n 0, 1) := by decide +kernel
theorem dccJ4_init_da8c8_1 : decode cJ4_init_da8c8 1 = .ok (.bipush 16, 2) := by decide +kernel
theorem dccJ4_init_da8c8_3 : decode cJ4_init_da8c8 3 = .ok (.invokespecial 1, 3) := by decide +kernel
theorem dccJ4_init_da8c8_6 : decode cJ4_init_da8c8 6 = .ok (.return_, 1) := by decide +kernel
theorem dccJ4_length_8abf5_0 : decode cJ4_length_8abf5 0 = .ok (.aload_n 0, 1) := by decide +kernel
theorem dccJ4_length_8abf5_1 : decode cJ4_length_8abf5 1 = .ok (.invokespecial 343, 3) := by decide +kernel
theorem dccJ4_length_8abf5_4 : decode cJ4_length_8abf5 4 = .ok (.ireturn, 1) := by decide +kernel
theorem dccJ4_toString_0e30d_0 : decode cJ4_toString_0e30d 0 = .ok (.new 18, 3) := by decide +kernel
theorem dccJ4_toString_0e30d_3 : decode cJ4_toString_0e30d 3 = .ok (.dup, 1) := by decide +kernel
theorem dccJ4_toString_0e30d_4 : decode cJ4_toString_0e30d 4 = .ok (.aload_n 0, 1) := by decide +kernel
theorem dccJ4_toString_0e30d_5 : decode cJ4_toString_0e30d 5 = .ok (.invokespecial 137, 3) := by decide +kernel
theorem dccJ4_toString_0e30d_8 : decode cJ4_toString_0e30d 8 = .ok (.areturn, 1) := by decide +kernel
theorem dccJ5_append_3fe6f_0 : decode cJ5_append_3fe6f 0 = .ok (.aload_n 0, 1) := by decide +kernel
theorem dccJ5_append_3fe6f_1 : decode cJ5_append_3fe6f 1 = .ok (.aload_n 0, 1) := by decide +kernel
theorem dccJ5_append_3fe6f_2 : decode cJ5_append_3fe6f 2 = .ok (.getfield 79, 3) := by decide +kernel
theorem dccJ5_append_3fe6f_5 : decode cJ5_append_3fe6f 5 = .ok (.iconst 1, 1) := by decide +kernel
theorem dccJ5_append_3fe6f_6 : decode cJ5_append_3fe6f 6 = .ok (.iadd, 1) := by decide +kernel
theorem dccJ5_append_3fe6f_7 : decode cJ5_append_3fe6f 7 = .ok (.invokevirtual 100, 3) := by decide +kernel
theorem dccJ5_append_3fe6f_10 : decode cJ5_append_3fe6f 10 = .ok (.aload_n 0, 1) := by decide +kernel
theorem dccJ5_append_3fe6f_11 : decode cJ5_append_3fe6f 11 = .ok (.invokevirtual 83, 3) := by decide +kernel
theorem dccJ5_append_3fe6f_14 : decode cJ5_append_3fe6f 14 = .ok (.ifCond .eq 31, 3) := by decide +kernel
theorem dccJ5_append_3fe6f_17 : decode cJ5_append_3fe6f 17 = .ok (.iload_n 1, 1) := by decide +kernel
theorem dccJ5_append_3fe6f_18 : decode cJ5_append_3fe6f 18 = .ok (.invokestatic 191, 3) := by decide +kernel
theorem dccJ5_append_3fe6f_21 : decode cJ5_append_3fe6f 21 = .ok (.ifCond .eq 24, 3) := by decide +kernel
theorem dccJ5_append_3fe6f_24 : decode cJ5_append_3fe6f 24 = .ok (.aload_n 0, 1) := by decide +kernel
theorem dccJ5_append_3fe6f_25 : decode cJ5_append_3fe6f 25 = .ok (.getfield 15, 3) := by decide +kernel
theorem dccJ5_append_3fe6f_28 : decode cJ5_append_3fe6f 28 = .ok (.aload_n 0, 1) := by decide +kernel
theorem dccJ5_append_3fe6f_29 : decode cJ5_append_3fe6f 29 = .ok (.dup, 1) := by decide +kernel
theorem dccJ5_append_3fe6f_30 : decode cJ5_append_3fe6f 30 = .ok (.getfield 79, 3) := by decide +kernel
theorem dccJ5_append_3fe6f_33 : decode cJ5_append_3fe6f 33 = .ok (.dup_x1, 1) := by decide +kernel
theorem dccJ5_append_3fe6f_34 : decode cJ5_append_3fe6f 34 = .ok (.iconst 1, 1) := by decide +kernel
theorem dccJ5_append_3fe6f_35 : decode cJ5_append_3fe6f 35 = .ok (.iadd, 1) := by decide +kernel
theorem dccJ5_append_3fe6f_36 : decode cJ5_append_3fe6f 36 = .ok (.putfield 79, 3) := by decide +kernel
theorem dccJ5_append_3fe6f_39 : decode cJ5_append_3fe6f 39 = .ok (.iload_n 1, 1) := by decide +kernel
theorem dccJ5_append_3fe6f_40 : decode cJ5_append_3fe6f 40 = .ok (.i2b, 1) := by decide +kernel
theorem dccJ5_append_3fe6f_41 : decode cJ5_append_3fe6f 41 = .ok (.bastore, 1) := by decide +kernel
theorem dccJ5_append_3fe6f_42 : decode cJ5_append_3fe6f 42 = .ok (.goto 33, 3) := by decide +kernel
theorem dccJ5_append_3fe6f_45 : decode cJ5_append_3fe6f 45 = .ok (.aload_n 0, 1) := by decide +kernel
theorem dccJ5_append_3fe6f_46 : decode cJ5_append_3fe6f 46 = .ok (.invokevirtual 83, 3) := by decide +kernel
theorem dccJ5_append_3fe6f_49 : decode cJ5_append_3fe6f 49 = .ok (.ifCond .eq 7, 3) := by decide +kernel
theorem dccJ5_append_3fe6f_52 : decode cJ5_append_3fe6f 52 = .ok (.aload_n 0, 1) := by decide +kernel
theorem dccJ5_append_3fe6f_56 : decode cJ5_append_3fe6f 56 = .ok (.aload_n 0, 1) := by decide +kernel
theorem dccJ5_append_3fe6f_57 : decode cJ5_append_3fe6f 57 = .ok (.getfield 15, 3) := by decide +kernel
theorem dccJ5_append_3fe6f_60 : decode cJ5_append_3fe6f 60 = .ok (.aload_n 0, 1) := by decide +kernel
theorem dccJ5_append_3fe6f_61 : decode cJ5_append_3fe6f 61 = .ok (.dup, 1) := by decide +kernel
theorem dccJ5_append_3fe6f_62 : decode cJ5_append_3fe6f 62 = .ok (.getfield 79, 3) := by decide +kernel
theorem dccJ5_append_3fe6f_65 : decode cJ5_append_3fe6f 65 = .ok (.dup_x1, 1) := by decide +kernel
theorem dccJ5_append_3fe6f_66 : decode cJ5_append_3fe6f 66 = .ok (.iconst 1, 1) := by decide +kernel
theorem dccJ5_append_3fe6f_67 : decode cJ5_append_3fe6f 67 = .ok (.iadd, 1) := by decide +kernel
theorem dccJ5_append_3fe6f_68 : decode cJ5_append_3fe6f 68 = .ok (.putfield 79, 3) := by decide +kernel
theorem dccJ5_append_3fe6f_71 : decode cJ5_append_3fe6f 71 = .ok (.iload_n 1, 1) := by decide +kernel
theorem dccJ5_append_3fe6f_75 : decode cJ5_append_3fe6f 75 = .ok (.aload_n 0, 1) := by decide +kernel
theorem dccJ5_append_3fe6f_76 : decode cJ5_append_3fe6f 76 = .ok (.areturn, 1) := by decide +kernel
theorem dccJ5_ensureCapacityInternal_d00df_0 : decode cJ5_ensureCapacityInternal_d00df 0 = .ok (.aload_n 0, 1) := by decide +kernel
theorem dccJ5_ensureCapacityInternal_d00df_1 : decode cJ5_ensureCapacityInternal_d00df 1 = .ok (.getfield 15, 3) := by decide +kernel
theorem dccJ5_ensureCapacityInternal_d00df_4 : decode cJ5_ensureCapacityInternal_d00df 4 = .ok (.arraylength, 1) := by decide +kernel
theorem dccJ5_ensureCapacityInternal_d00df_5 : decode cJ5_ensureCapacityInternal_d00df 5 = .ok (.aload_n 0, 1) := by decide +kernel
theorem dccJ5_ensureCapacityInternal_d00df_6 : decode cJ5_ensureCapacityInternal_d00df 6 = .ok (.getfield 22, 3) := by decide +kernel
theorem dccJ5_ensureCapacityInternal_d00df_9 : decode cJ5_ensureCapacityInternal_d00df 9 = .ok (.ishr, 1) := by decide +kernel
theorem dccJ5_ensureCapacityInternal_d00df_10 : decode cJ5_ensureCapacityInternal_d00df 10 = .ok (.istore_n 2, 1) := by decide +kernel
theorem dccJ5_ensureCapacityInternal_d00df_11 : decode cJ5_ensureCapacityInternal_d00df 11 = .ok (.iload_n 1, 1) := by decide +kernel
theorem dccJ5_ensureCapacityInternal_d00df_12 : decode cJ5_ensureCapacityInternal_d00df 12 = .ok (.iload_n 2, 1) := by decide +kernel
theorem dccJ5_ensureCapacityInternal_d00df_13 : decode cJ5_ensureCapacityInternal_d00df 13 = .ok (.isub, 1) := by decide +kernel
theorem dccJ5_ensureCapacityInternal_d00df_14 : decode cJ5_ensureCapacityInternal_d00df 14 = .ok (.ifCond .le 24, 3) := by decide +kernel
theorem dccJ5_ensureCapacityInternal_d00df_17 : decode cJ5_ensureCapacityInternal_d00df 17 = .ok (.aload_n 0, 1) := by decide +kernel
theorem dccJ5_ensureCapacityInternal_d00df_18 : decode cJ5_ensureCapacityInternal_d00df 18 = .ok (.aload_n 0, 1) := by decide +kernel
theorem dccJ5_ensureCapacityInternal_d00df_19 : decode cJ5_ensureCapacityInternal_d00df 19 = .ok (.getfield 15, 3) := by decide +kernel
theorem dccJ5_ensureCapacityInternal_d00df_22 : decode cJ5_ensureCapacityInternal_d00df 22 = .ok (.aload_n 0, 1) := by decide +kernel
theorem dccJ5_ensureCapacityInternal_d00df_23 : decode cJ5_ensureCapacityInternal_d00df 23 = .ok (.iload_n 1, 1) := by decide +kernel
theorem dccJ5_ensureCapacityInternal_d00df_38 : decode cJ5_ensureCapacityInternal_d00df 38 = .ok (.return_, 1) := by decide +kernel
theorem dccJ5_getValue_6d5f1_0 : decode cJ5_getValue_6d5f1 0 = .ok (.aload_n 0, 1) := by decide +kernel
theorem dccJ5_getValue_6d5f1_1 : decode cJ5_getValue_6d5f1 1 = .ok (.getfield 15, 3) := by decide +kernel
theorem dccJ5_getValue_6d5f1_4 : decode cJ5_getValue_6d5f1 4 = .ok (.areturn, 1) := by decide +kernel
theorem dccJ5_init_d00df_0 : decode cJ5_init_d00df 0 = .ok (.aload_n 0, 1) := by decide +kernel
theorem dccJ5_init_d00df_1 : decode cJ5_init_d00df 1 = .ok (.invokespecial 3, 3) := by decide +kernel
theorem dccJ5_init_d00df_4 : decode cJ5_init_d00df 4 = .ok (.getstatic 18, 3) := by decide +kernel
theorem dccJ5_init_d00df_7 : decode cJ5_init_d00df 7 = .ok (.ifCond .eq 18, 3) := by decide +kernel
theorem dccJ5_init_d00df_10 : decode cJ5_init_d00df 10 = .ok (.aload_n 0, 1) := by decide +kernel
theorem dccJ5_init_d00df_11 : decode cJ5_init_d00df 11 = .ok (.iload_n 1, 1) := by decide +kernel
theorem dccJ5_init_d00df_12 : decode cJ5_init_d00df 12 = .ok (.newarray .byte, 2) := by decide +kernel
theorem dccJ5_init_d00df_14 : decode cJ5_init_d00df 14 = .ok (.putfield 15, 3) := by decide +kernel
theorem dccJ5_init_d00df_17 : decode cJ5_init_d00df 17 = .ok (.aload_n 0, 1) := by decide +kernel
theorem dccJ5_init_d00df_18 : decode cJ5_init_d00df 18 = .ok (.iconst 0, 1) := by decide +kernel
theorem dccJ5_init_d00df_19 : decode cJ5_init_d00df 19 = .ok (.putfield 22, 3) := by decide +kernel
theorem dccJ5_init_d00df_22 : decode cJ5_init_d00df 22 = .ok (.goto 16, 3) := by decide +kernel
theorem dccJ5_init_d00df_25 : decode cJ5_init_d00df 25 = .ok (.aload_n 0, 1) := by decide +kernel
theorem dccJ5_init_d00df_26 : decode cJ5_init_d00df 26 = .ok (.iload_n 1, 1) := by decide +kernel
theorem dccJ5_init_d00df_38 : decode cJ5_init_d00df 38 = .ok (.return_, 1) := by decide +kernel
theorem dccJ5_isLatin1_aae02_0 : decode cJ5_isLatin1_aae02 0 = .ok (.getstatic 18, 3) := by decide +kernel
theorem dccJ5_isLatin1_aae02_3 : decode cJ5_isLatin1_aae02 3 = .ok (.ifCond .eq 14, 3) := by decide +kernel
theorem dccJ5_isLatin1_aae02_6 : decode cJ5_isLatin1_aae02 6 = .ok (.aload_n 0, 1) := by decide +kernel
theorem dccJ5_isLatin1_aae02_7 : decode cJ5_isLatin1_aae02 7 = .ok (.getfield 22, 3) := by decide +kernel
theorem dccJ5_isLatin1_aae02_10 : decode cJ5_isLatin1_aae02 10 = .ok (.ifCond .ne 7, 3) := by decide +kernel
theorem dccJ5_isLatin1_aae02_13 : decode cJ5_isLatin1_aae02 13 = .ok (.iconst 1, 1) := by decide +kernel
theorem dccJ5_isLatin1_aae02_14 : decode cJ5_isLatin1_aae02 14 = .ok (.goto 4, 3) := by decide +kernel
theorem dccJ5_isLatin1_aae02_17 : decode cJ5_isLatin1_aae02 17 = .ok (.iconst 0, 1) := by decide +kernel
theorem dccJ5_isLatin1_aae02_18 : decode cJ5_isLatin1_aae02 18 = .ok (.ireturn, 1) := by decide +kernel
theorem dccJ5_length_8abf5_0 : decode cJ5_length_8abf5 0 = .ok (.aload_n 0, 1) := by decide +kernel
theorem dccJ5_length_8abf5_1 : decode cJ5_length_8abf5 1 = .ok (.getfield 79, 3) := by decide +kernel
theorem dccJ5_length_8abf5_4 : decode cJ5_length_8abf5 4 = .ok (.ireturn, 1) := by decide +kernel
theorem dccJ6_bitCount_0f7a4_0 : decode cJ6_bitCount_0f7a4 0 = .ok (.iload_n 0, 1) := by decide +kernel
theorem dccJ6_bitCount_0f7a4_1 : decode cJ6_bitCount_0f7a4 1 = .ok (.iload_n 0, 1) := by decide +kernel
theorem dccJ6_bitCount_0f7a4_2 : decode cJ6_bitCount_0f7a4 2 = .ok (.iconst 1, 1) := by decide +kernel
theorem dccJ6_bitCount_0f7a4_3 : decode cJ6_bitCount_0f7a4 3 = .ok (.iushr, 1) := by decide +kernel
theorem dccJ6_bitCount_0f7a4_4 : decode cJ6_bitCount_0f7a4 4 = .ok (.ldc_w 265, 3) := by decide +kernel
theorem dccJ6_bitCount_0f7a4_7 : decode cJ6_bitCount_0f7a4 7 = .ok (.iand, 1) := by decide +kernel
theorem dccJ6_bitCount_0f7a4_8 : decode cJ6_bitCount_0f7a4 8 = .ok (.isub, 1) := by decide +kernel
theorem dccJ6_bitCount_0f7a4_9 : decode cJ6_bitCount_0f7a4 9 = .ok (.istore_n 0, 1) := by decide +kernel
theorem dccJ6_bitCount_0f7a4_10 : decode cJ6_bitCount_0f7a4 10 = .ok (.iload_n 0, 1) := by decide +kernel
theorem dccJ6_bitCount_0f7a4_11 : decode cJ6_bitCount_0f7a4 11 = .ok (.ldc_w 266, 3) := by decide +kernel
theorem dccJ6_bitCount_0f7a4_14 : decode cJ6_bitCount_0f7a4 14 = .ok (.iand, 1) := by decide +kernel
theorem dccJ6_bitCount_0f7a4_15 : decode cJ6_bitCount_0f7a4 15 = .ok (.iload_n 0, 1) := by decide +kernel
theorem dccJ6_bitCount_0f7a4_16 : decode cJ6_bitCount_0f7a4 16 = .ok (.iconst 2, 1) := by decide +kernel
theorem dccJ6_bitCount_0f7a4_17 : decode cJ6_bitCount_0f7a4 17 = .ok (.iushr, 1) := by decide +kernel
theorem dccJ6_bitCount_0f7a4_18 : decode cJ6_bitCount_0f7a4 18 = .ok (.ldc_w 266, 3) := by decide +kernel
theorem dccJ6_bitCount_0f7a4_21 : decode cJ6_bitCount_0f7a4 21 = .ok (.iand, 1) := by decide +kernel
theorem dccJ6_bitCount_0f7a4_22 : decode cJ6_bitCount_0f7a4 22 = .ok (.iadd, 1) := by decide +kernel
theorem dccJ6_bitCount_0f7a4_23 : decode cJ6_bitCount_0f7a4 23 = .ok (.istore_n 0, 1) := by decide +kernel
theorem dccJ6_bitCount_0f7a4_24 : decode cJ6_bitCount_0f7a4 24 = .ok (.iload_n 0, 1) := by decide +kernel
theorem dccJ6_bitCount_0f7a4_25 : decode cJ6_bitCount_0f7a4 25 = .ok (.iload_n 0, 1) := by decide +kernel
theorem dccJ6_bitCount_0f7a4_26 : decode cJ6_bitCount_0f7a4 26 = .ok (.iconst 4, 1) := by decide +kernel
theorem dccJ6_bitCount_0f7a4_27 : decode cJ6_bitCount_0f7a4 27 = .ok (.iushr, 1) := by decide +kernel
theorem dccJ6_bitCount_0f7a4_28 : decode cJ6_bitCount_0f7a4 28 = .ok (.iadd, 1) := by decide +kernel
theorem dccJ6_bitCount_0f7a4_29 : decode cJ6_bitCount_0f7a4 29 = .ok (.ldc_w 267, 3) := by decide +kernel
theorem dccJ6_bitCount_0f7a4_32 : decode cJ6_bitCount_0f7a4 32 = .ok (.iand, 1) := by decide +kernel
theorem dccJ6_bitCount_0f7a4_33 : decode cJ6_bitCount_0f7a4 33 = .ok (.istore_n 0, 1) := by decide +kernel
theorem dccJ6_bitCount_0f7a4_34 : decode cJ6_bitCount_0f7a4 34 = .ok (.iload_n 0, 1) := by decide +kernel
theorem dccJ6_bitCount_0f7a4_35 : decode cJ6_bitCount_0f7a4 35 = .ok (.iload_n 0, 1) := by decide +kernel
theorem dccJ6_bitCount_0f7a4_36 : decode cJ6_bitCount_0f7a4 36 = .ok (.bipush 8, 2) := by decide +kernel
theorem dccJ6_bitCount_0f7a4_38 : decode cJ6_bitCount_0f7a4 38 = .ok (.iushr, 1) := by decide +kernel
theorem dccJ6_bitCount_0f7a4_39 : decode cJ6_bitCount_0f7a4 39 = .ok (.iadd, 1) := by decide +kernel
theorem dccJ6_bitCount_0f7a4_40 : decode cJ6_bitCount_0f7a4 40 = .ok (.istore_n 0, 1) := by decide +kernel
theorem dccJ6_bitCount_0f7a4_41 : decode cJ6_bitCount_0f7a4 41 = .ok (.iload_n 0, 1) := by decide +kernel
theorem dccJ6_bitCount_0f7a4_42 : decode cJ6_bitCount_0f7a4 42 = .ok (.iload_n 0, 1) := by decide +kernel
theorem dccJ6_bitCount_0f7a4_43 : decode cJ6_bitCount_0f7a4 43 = .ok (.bipush 16, 2) := by decide +kernel
theorem dccJ6_bitCount_0f7a4_45 : decode cJ6_bitCount_0f7a4 45 = .ok (.iushr, 1) := by decide +kernel
theorem dccJ6_bitCount_0f7a4_46 : decode cJ6_bitCount_0f7a4 46 = .ok (.iadd, 1) := by decide +kernel
theorem dccJ6_bitCount_0f7a4_47 : decode cJ6_bitCount_0f7a4 47 = .ok (.istore_n 0, 1) := by decide +kernel
theorem dccJ6_bitCount_0f7a4_48 : decode cJ6_bitCount_0f7a4 48 = .ok (.iload_n 0, 1) := by decide +kernel
theorem dccJ6_bitCount_0f7a4_49 : decode cJ6_bitCount_0f7a4 49 = .ok (.bipush 63, 2) := by decide +kernel
theorem dccJ6_bitCount_0f7a4_51 : decode cJ6_bitCount_0f7a4 51 = .ok (.iand, 1) := by decide +kernel
theorem dccJ6_bitCount_0f7a4_52 : decode cJ6_bitCount_0f7a4 52 = .ok (.ireturn, 1) := by decide +kernel
theorem dccJ6_init_d00df_0 : decode cJ6_init_d00df 0 = .ok (.aload_n 0, 1) := by decide +kernel
theorem dccJ6_init_d00df_1 : decode cJ6_init_d00df 1 = .ok (.invokespecial 202, 3) := by decide +kernel
theorem dccJ6_init_d00df_4 : decode cJ6_init_d00df 4 = .ok (.aload_n 0, 1) := by decide +kernel
theorem dccJ6_init_d00df_5 : decode cJ6_init_d00df 5 = .ok (.iload_n 1, 1) := by decide +kernel
theorem dccJ6_init_d00df_6 : decode cJ6_init_d00df 6 = .ok (.putfield 205, 3) := by decide +kernel
theorem dccJ6_init_d00df_9 : decode cJ6_init_d00df 9 = .ok (.return_, 1) := by decide +kernel
theorem dccJ6_intValue_8abf5_0 : decode cJ6_intValue_8abf5 0 = .ok (.aload_n 0, 1) := by decide +kernel
theorem dccJ6_intValue_8abf5_1 : decode cJ6_intValue_8abf5 1 = .ok (.getfield 205, 3) := by decide +kernel
theorem dccJ6_intValue_8abf5_4 : decode cJ6_intValue_8abf5 4 = .ok (.ireturn, 1) := by decide +kernel
theorem dccJ6_lowestOneBit_0f7a4_0 : decode cJ6_lowestOneBit_0f7a4 0 = .ok (.iload_n 0, 1) := by decide +kernel
theorem dccJ6_lowestOneBit_0f7a4_1 : decode cJ6_lowestOneBit_0f7a4 1 = .ok (.iload_n 0, 1) := by decide +kernel
theorem dccJ6_lowestOneBit_0f7a4_2 : decode cJ6_lowestOneBit_0f7a4 2 = .ok (.ineg, 1) := by decide +kernel
theorem dccJ6_lowestOneBit_0f7a4_3 : decode cJ6_lowestOneBit_0f7a4 3 = .ok (.iand, 1) := by decide +kernel
theorem dccJ6_lowestOneBit_0f7a4_4 : decode cJ6_lowestOneBit_0f7a4 4 = .ok (.ireturn, 1) := by decide +kernel
theorem dccJ6_valueOf_2dffe_0 : decode cJ6_valueOf_2dffe 0 = .ok (.iload_n 0, 1) := by decide +kernel
theorem dccJ6_valueOf_2dffe_1 : decode cJ6_valueOf_2dffe 1 = .ok (.bipush (-128), 2) := by decide +kernel
theorem dccJ6_valueOf_2dffe_3 : decode cJ6_valueOf_2dffe 3 = .ok (.if_icmp .lt 20, 3) := by decide +kernel
theorem dccJ6_valueOf_2dffe_6 : decode cJ6_valueOf_2dffe 6 = .ok (.iload_n 0, 1) := by decide +kernel
theorem dccJ6_valueOf_2dffe_7 : decode cJ6_valueOf_2dffe 7 = .ok (.getstatic 191, 3) := by decide +kernel
theorem dccJ6_valueOf_2dffe_10 : decode cJ6_valueOf_2dffe 10 = .ok (.if_icmp .gt 13, 3) := by decide +kernel
theorem dccJ6_valueOf_2dffe_13 : decode cJ6_valueOf_2dffe 13 = .ok (.getstatic 195, 3) := by decide +kernel
theorem dccJ6_valueOf_2dffe_16 : decode cJ6_valueOf_2dffe 16 = .ok (.iload_n 0, 1) := by decide +kernel
theorem dccJ6_valueOf_2dffe_17 : decode cJ6_valueOf_2dffe 17 = .ok (.sipush 128, 3) := by decide +kernel
theorem dccJ6_valueOf_2dffe_20 : decode cJ6_valueOf_2dffe 20 = .ok (.iadd, 1) := by decide +kernel
theorem dccJ6_valueOf_2dffe_21 : decode cJ6_valueOf_2dffe 21 = .ok (.aaload, 1) := by decide +kernel
theorem dccJ6_valueOf_2dffe_22 : decode cJ6_valueOf_2dffe 22 = .ok (.areturn, 1) := by decide +kernel
theorem dccJ6_valueOf_2dffe_23 : decode cJ6_valueOf_2dffe 23 = .ok (.new 1, 3) := by decide +kernel
theorem dccJ6_valueOf_2dffe_26 : decode cJ6_valueOf_2dffe 26 = .ok (.dup, 1) := by decide +kernel
theorem dccJ6_valueOf_2dffe_27 : decode cJ6_valueOf_2dffe 27 = .ok (.iload_n 0, 1) := by decide +kernel
theorem dccJ6_valueOf_2dffe_28 : decode cJ6_valueOf_2dffe 28 = .ok (.invokespecial 199, 3) := by decide +kernel
theorem dccJ6_valueOf_2dffe_31 : decode cJ6_valueOf_2dffe 31 = .ok (.areturn, 1) := by decide +kernel
theorem dccJ7_checkLength_df160_0 : decode cJ7_checkLength_df160 0 = .ok (.iload_n 1, 1) := by decide +kernel
theorem dccJ7_checkLength_df160_1 : decode cJ7_checkLength_df160 1 = .ok (.iload_n 0, 1) := by decide +kernel
theorem dccJ7_checkLength_df160_2 : decode cJ7_checkLength_df160 2 = .ok (.if_icmp .ge 35, 3) := by decide +kernel
theorem dccJ7_checkLength_df160_37 : decode cJ7_checkLength_df160 37 = .ok (.return_, 1) := by decide +kernel
theorem dccJ7_copyOfRangeByte_39247_0 : decode cJ7_copyOfRangeByte_39247 0 = .ok (.iload_n 1, 1) := by decide +kernel
theorem dccJ7_copyOfRangeByte_39247_1 : decode cJ7_copyOfRangeByte_39247 1 = .ok (.iload_n 2, 1) := by decide +kernel
theorem dccJ7_copyOfRangeByte_39247_2 : decode cJ7_copyOfRangeByte_39247 2 = .ok (.invokestatic 343, 3) := by decide +kernel
theorem dccJ7_copyOfRangeByte_39247_5 : decode cJ7_copyOfRangeByte_39247 5 = .ok (.iload_n 2, 1) := by decide +kernel
theorem dccJ7_copyOfRangeByte_39247_6 : decode cJ7_copyOfRangeByte_39247 6 = .ok (.iload_n 1, 1) := by decide +kernel
theorem dccJ7_copyOfRangeByte_39247_7 : decode cJ7_copyOfRangeByte_39247 7 = .ok (.isub, 1) := by decide +kernel
theorem dccJ7_copyOfRangeByte_39247_8 : decode cJ7_copyOfRangeByte_39247 8 = .ok (.istore_n 3, 1) := by decide +kernel
theorem dccJ7_copyOfRangeByte_39247_9 : decode cJ7_copyOfRangeByte_39247 9 = .ok (.iload_n 3, 1) := by decide +kernel
theorem dccJ7_copyOfRangeByte_39247_10 : decode cJ7_copyOfRangeByte_39247 10 = .ok (.newarray .byte, 2) := by decide +kernel
theorem dccJ7_copyOfRangeByte_39247_12 : decode cJ7_copyOfRangeByte_39247 12 = .ok (.astore 4, 2) := by decide +kernel
theorem dccJ7_copyOfRangeByte_39247_14 : decode cJ7_copyOfRangeByte_39247 14 = .ok (.aload_n 0, 1) := by decide +kernel
theorem dccJ7_copyOfRangeByte_39247_15 : decode cJ7_copyOfRangeByte_39247 15 = .ok (.iload_n 1, 1) := by decide +kernel
theorem dccJ7_copyOfRangeByte_39247_16 : decode cJ7_copyOfRangeByte_39247 16 = .ok (.aload 4, 2) := by decide +kernel
theorem dccJ7_copyOfRangeByte_39247_18 : decode cJ7_copyOfRangeByte_39247 18 = .ok (.iconst 0, 1) := by decide +kernel
theorem dccJ7_copyOfRangeByte_39247_19 : decode cJ7_copyOfRangeByte_39247 19 = .ok (.aload_n 0, 1) := by decide +kernel
theorem dccJ7_copyOfRangeByte_39247_20 : decode cJ7_copyOfRangeByte_39247 20 = .ok (.arraylength, 1) := by decide +kernel
theorem dccJ7_copyOfRangeByte_39247_21 : decode cJ7_copyOfRangeByte_39247 21 = .ok (.iload_n 1, 1) := by decide +kernel
theorem dccJ7_copyOfRangeByte_39247_22 : decode cJ7_copyOfRangeByte_39247 22 = .ok (.isub, 1) := by decide +kernel
theorem dccJ7_copyOfRangeByte_39247_23 : decode cJ7_copyOfRangeByte_39247 23 = .ok (.iload_n 3, 1) := by decide +kernel
theorem dccJ7_copyOfRangeByte_39247_24 : decode cJ7_copyOfRangeByte_39247 24 = .ok (.invokestatic 304, 3) := by decide +kernel
theorem dccJ7_copyOfRangeByte_39247_27 : decode cJ7_copyOfRangeByte_39247 27 = .ok (.invokestatic 150, 3) := by decide +kernel
theorem dccJ7_copyOfRangeByte_39247_30 : decode cJ7_copyOfRangeByte_39247 30 = .ok (.aload 4, 2) := by decide +kernel
theorem dccJ7_copyOfRangeByte_39247_32 : decode cJ7_copyOfRangeByte_39247 32 = .ok (.areturn, 1) := by decide +kernel
theorem dccJ7_copyOfRange_39247_0 : decode cJ7_copyOfRange_39247 0 = .ok (.iload_n 1, 1) := by decide +kernel
theorem dccJ7_copyOfRange_39247_1 : decode cJ7_copyOfRange_39247 1 = .ok (.ifCond .ne 9, 3) := by decide +kernel
theorem dccJ7_copyOfRange_39247_4 : decode cJ7_copyOfRange_39247 4 = .ok (.iload_n 2, 1) := by decide +kernel
theorem dccJ7_copyOfRange_39247_5 : decode cJ7_copyOfRange_39247 5 = .ok (.aload_n 0, 1) := by decide +kernel
theorem dccJ7_copyOfRange_39247_6 : decode cJ7_copyOfRange_39247 6 = .ok (.arraylength, 1) := by decide +kernel
theorem dccJ7_copyOfRange_39247_7 : decode cJ7_copyOfRange_39247 7 = .ok (.if_icmp .eq 10, 3) := by decide +kernel
theorem dccJ7_copyOfRange_39247_10 : decode cJ7_copyOfRange_39247 10 = .ok (.aload_n 0, 1) := by decide +kernel
theorem dccJ7_copyOfRange_39247_11 : decode cJ7_copyOfRange_39247 11 = .ok (.iload_n 1, 1) := by decide +kernel
theorem dccJ7_copyOfRange_39247_12 : decode cJ7_copyOfRange_39247 12 = .ok (.iload_n 2, 1) := by decide +kernel
theorem dccJ7_copyOfRange_39247_13 : decode cJ7_copyOfRange_39247 13 = .ok (.invokestatic 339, 3) := by decide +kernel
theorem dccJ7_copyOfRange_39247_16 : decode cJ7_copyOfRange_39247 16 = .ok (.areturn, 1) := by decide +kernel
theorem dccJ7_copyOfRange_39247_17 : decode cJ7_copyOfRange_39247 17 = .ok (.aload_n 0, 1) := by decide +kernel
theorem dccJ7_copyOf_1904c_0 : decode cJ7_copyOf_1904c 0 = .ok (.aload_n 0, 1) := by decide +kernel
theorem dccJ7_copyOf_1904c_1 : decode cJ7_copyOf_1904c 1 = .ok (.iload_n 1, 1) := by decide +kernel
theorem dccJ7_copyOf_1904c_2 : decode cJ7_copyOf_1904c 2 = .ok (.aload_n 0, 1) := by decide +kernel
theorem dccJ7_copyOf_1904c_3 : decode cJ7_copyOf_1904c 3 = .ok (.invokevirtual 86, 3) := by decide +kernel
theorem dccJ7_copyOf_1904c_6 : decode cJ7_copyOf_1904c 6 = .ok (.invokestatic 300, 3) := by decide +kernel
theorem dccJ7_copyOf_1904c_9 : decode cJ7_copyOf_1904c 9 = .ok (.areturn, 1) := by decide +kernel
theorem dccJ7_copyOf_6403c_0 : decode cJ7_copyOf_6403c 0 = .ok (.aload_n 2, 1) := by decide +kernel
theorem dccJ7_copyOf_6403c_1 : decode cJ7_copyOf_6403c 1 = .ok (.ldc 110, 2) := by decide +kernel
theorem dccJ7_copyOf_6403c_3 : decode cJ7_copyOf_6403c 3 = .ok (.if_acmp .ne 10, 3) := by decide +kernel
theorem dccJ7_copyOf_6403c_6 : decode cJ7_copyOf_6403c 6 = .ok (.iload_n 1, 1) := by decide +kernel
theorem dccJ7_copyOf_6403c_7 : decode cJ7_copyOf_6403c 7 = .ok (.anewarray 2, 3) := by decide +kernel
theorem dccJ7_copyOf_6403c_10 : decode cJ7_copyOf_6403c 10 = .ok (.goto 14, 3) := by decide +kernel
theorem dccJ7_copyOf_6403c_13 : decode cJ7_copyOf_6403c 13 = .ok (.aload_n 2, 1) := by decide +kernel
theorem dccJ7_copyOf_6403c_24 : decode cJ7_copyOf_6403c 24 = .ok (.astore_n 3, 1) := by decide +kernel
theorem dccJ7_copyOf_6403c_25 : decode cJ7_copyOf_6403c 25 = .ok (.aload_n 0, 1) := by decide +kernel
theorem dccJ7_copyOf_6403c_26 : decode cJ7_copyOf_6403c 26 = .ok (.iconst 0, 1) := by decide +kernel
theorem dccJ7_copyOf_6403c_27 : decode cJ7_copyOf_6403c 27 = .ok (.aload_n 3, 1) := by decide +kernel
theorem dccJ7_copyOf_6403c_28 : decode cJ7_copyOf_6403c 28 = .ok (.iconst 0, 1) := by decide +kernel
theorem dccJ7_copyOf_6403c_29 : decode cJ7_copyOf_6403c 29 = .ok (.aload_n 0, 1) := by decide +kernel
theorem dccJ7_copyOf_6403c_30 : decode cJ7_copyOf_6403c 30 = .ok (.arraylength, 1) := by decide +kernel
theorem dccJ7_copyOf_6403c_31 : decode cJ7_copyOf_6403c 31 = .ok (.iload_n 1, 1) := by decide +kernel
theorem dccJ7_copyOf_6403c_32 : decode cJ7_copyOf_6403c 32 = .ok (.invokestatic 304, 3) := by decide +kernel
theorem dccJ7_copyOf_6403c_35 : decode cJ7_copyOf_6403c 35 = .ok (.invokestatic 150, 3) := by decide +kernel
theorem dccJ7_copyOf_6403c_38 : decode cJ7_copyOf_6403c 38 = .ok (.aload_n 3, 1) := by decide +kernel
theorem dccJ7_copyOf_6403c_39 : decode cJ7_copyOf_6403c 39 = .ok (.areturn, 1) := by decide +kernel
theorem dccJ8_newLength_cabcc_0 : decode cJ8_newLength_cabcc 0 = .ok (.iload_n 0, 1) := by decide +kernel
theorem dccJ8_newLength_cabcc_1 : decode cJ8_newLength_cabcc 1 = .ok (.iload_n 1, 1) := by decide +kernel
theorem dccJ8_newLength_cabcc_2 : decode cJ8_newLength_cabcc 2 = .ok (.iload_n 2, 1) := by decide +kernel
theorem dccJ8_newLength_cabcc_3 : decode cJ8_newLength_cabcc 3 = .ok (.invokestatic 194, 3) := by decide +kernel
theorem dccJ8_newLength_cabcc_6 : decode cJ8_newLength_cabcc 6 = .ok (.iadd, 1) := by decide +kernel
theorem dccJ8_newLength_cabcc_7 : decode cJ8_newLength_cabcc 7 = .ok (.istore_n 3, 1) := by decide +kernel
theorem dccJ8_newLength_cabcc_8 : decode cJ8_newLength_cabcc 8 = .ok (.iconst 0, 1) := by decide +kernel
theorem dccJ8_newLength_cabcc_9 : decode cJ8_newLength_cabcc 9 = .ok (.iload_n 3, 1) := by decide +kernel
theorem dccJ8_newLength_cabcc_10 : decode cJ8_newLength_cabcc 10 = .ok (.if_icmp .ge 11, 3) := by decide +kernel
theorem dccJ8_newLength_cabcc_13 : decode cJ8_newLength_cabcc 13 = .ok (.iload_n 3, 1) := by decide +kernel
theorem dccJ8_newLength_cabcc_14 : decode cJ8_newLength_cabcc 14 = .ok (.ldc 200, 2) := by decide +kernel
theorem dccJ8_newLength_cabcc_16 : decode cJ8_newLength_cabcc 16 = .ok (.if_icmp .gt 5, 3) := by decide +kernel
theorem dccJ8_newLength_cabcc_19 : decode cJ8_newLength_cabcc 19 = .ok (.iload_n 3, 1) := by decide +kernel
theorem dccJ8_newLength_cabcc_20 : decode cJ8_newLength_cabcc 20 = .ok (.ireturn, 1) := by decide +kernel
theorem dccJ8_newLength_cabcc_21 : decode cJ8_newLength_cabcc 21 = .ok (.iload_n 0, 1) := by decide +kernel
theorem dccJ8_newLength_cabcc_22 : decode cJ8_newLength_cabcc 22 = .ok (.iload_n 1, 1) := by decide +kernel
theorem dccJ9_abs_0f7a4_0 : decode cJ9_abs_0f7a4 0 = .ok (.iload_n 0, 1) := by decide +kernel
theorem dccJ9_abs_0f7a4_1 : decode cJ9_abs_0f7a4 1 = .ok (.ifCond .ge 8, 3) := by decide +kernel
theorem dccJ9_abs_0f7a4_4 : decode cJ9_abs_0f7a4 4 = .ok (.iload_n 0, 1) := by decide +kernel
theorem dccJ9_abs_0f7a4_5 : decode cJ9_abs_0f7a4 5 = .ok (.ineg, 1) := by decide +kernel
theorem dccJ9_abs_0f7a4_6 : decode cJ9_abs_0f7a4 6 = .ok (.goto 4, 3) := by decide +kernel
theorem dccJ9_abs_0f7a4_9 : decode cJ9_abs_0f7a4 9 = .ok (.iload_n 0, 1) := by decide +kernel
theorem dccJ9_abs_0f7a4_10 : decode cJ9_abs_0f7a4 10 = .ok (.ireturn, 1) := by decide +kernel
theorem dccJ9_max_7cf53_0 : decode cJ9_max_7cf53 0 = .ok (.iload_n 0, 1) := by decide +kernel
theorem dccJ9_max_7cf53_1 : decode cJ9_max_7cf53 1 = .ok (.iload_n 1, 1) := by decide +kernel
theorem dccJ9_max_7cf53_2 : decode cJ9_max_7cf53 2 = .ok (.if_icmp .lt 7, 3) := by decide +kernel
theorem dccJ9_max_7cf53_5 : decode cJ9_max_7cf53 5 = .ok (.iload_n 0, 1) := by decide +kernel
theorem dccJ9_max_7cf53_6 : decode cJ9_max_7cf53 6 = .ok (.goto 4, 3) := by decide +kernel
theorem dccJ9_max_7cf53_9 : decode cJ9_max_7cf53 9 = .ok (.iload_n 1, 1) := by decide +kernel
theorem dccJ9_max_7cf53_10 : decode cJ9_max_7cf53 10 = .ok (.ireturn, 1) := by decide +kernel
theorem dccJ9_min_7cf53_0 : decode cJ9_min_7cf53 0 = .ok (.iload_n 0, 1) := by decide +kernel
theorem dccJ9_min_7cf53_1 : decode cJ9_min_7cf53 1 = .ok (.iload_n 1, 1) := by decide +kernel
theorem dccJ9_min_7cf53_2 : decode cJ9_min_7cf53 2 = .ok (.if_icmp .gt 7, 3) := by decide +kernel
theorem dccJ9_min_7cf53_5 : decode cJ9_min_7cf53 5 = .ok (.iload_n 0, 1) := by decide +kernel
theorem dccJ9_min_7cf53_6 : decode cJ9_min_7cf53 6 = .ok (.goto 4, 3) := by decide +kernel
theorem dccJ9_min_7cf53_9 : decode cJ9_min_7cf53 9 = .ok (.iload_n 1, 1) := by decide +kernel
theorem dccJ9_min_7cf53_10 : decode cJ9_min_7cf53 10 = .ok (.ireturn, 1) := by decide +kernel
theorem dccJx35411_checkForComodification_da8c8_0 : decode cJx35411_checkForComodification_da8c8 0 = .ok (.aload_n 0, 1) := by decide +kernel
theorem dccJx35411_checkForComodification_da8c8_1 : decode cJx35411_checkForComodification_da8c8 1 = .ok (.getfield 1, 3) := by decide +kernel
theorem dccJx35411_checkForComodification_da8c8_4 : decode cJx35411_checkForComodification_da8c8 4 = .ok (.getfield 17, 3) := by decide +kernel
theorem dccJx35411_checkForComodification_da8c8_7 : decode cJx35411_checkForComodification_da8c8 7 = .ok (.aload_n 0, 1) := by decide +kernel
theorem dccJx35411_checkForComodification_da8c8_8 : decode cJx35411_checkForComodification_da8c8 8 = .ok (.getfield 22, 3) := by decide +kernel
theorem dccJx35411_checkForComodification_da8c8_11 : decode cJx35411_checkForComodification_da8c8 11 = .ok (.if_icmp .eq 11, 3) := by decide +kernel
theorem dccJx35411_checkForComodification_da8c8_22 : decode cJx35411_checkForComodification_da8c8 22 = .ok (.return_, 1) := by decide +kernel
theorem dccJx35411_hasNext_aae02_0 : decode cJx35411_hasNext_aae02 0 = .ok (.aload_n 0, 1) := by decide +kernel
theorem dccJx35411_hasNext_aae02_1 : decode cJx35411_hasNext_aae02 1 = .ok (.getfield 25, 3) := by decide +kernel
theorem dccJx35411_hasNext_aae02_4 : decode cJx35411_hasNext_aae02 4 = .ok (.aload_n 0, 1) := by decide +kernel
theorem dccJx35411_hasNext_aae02_5 : decode cJx35411_hasNext_aae02 5 = .ok (.getfield 1, 3) := by decide +kernel
theorem dccJx35411_hasNext_aae02_8 : decode cJx35411_hasNext_aae02 8 = .ok (.getfield 28, 3) := by decide +kernel
theorem dccJx35411_hasNext_aae02_11 : decode cJx35411_hasNext_aae02 11 = .ok (.if_icmp .eq 7, 3) := by decide +kernel
theorem dccJx35411_hasNext_aae02_14 : decode cJx35411_hasNext_aae02 14 = .ok (.iconst 1, 1) := by decide +kernel
theorem dccJx35411_hasNext_aae02_15 : decode cJx35411_hasNext_aae02 15 = .ok (.goto 4, 3) := by decide +kernel
theorem dccJx35411_hasNext_aae02_18 : decode cJx35411_hasNext_aae02 18 = .ok (.iconst 0, 1) := by decide +kernel
theorem dccJx35411_hasNext_aae02_19 : decode cJx35411_hasNext_aae02 19 = .ok (.ireturn, 1) := by decide +kernel
theorem dccJx35411_init_45d68_0 : decode cJx35411_init_45d68 0 = .ok (.aload_n 0, 1) := by decide +kernel
theorem dccJx35411_init_45d68_1 : decode cJx35411_init_45d68 1 = .ok (.aload_n 1, 1) := by decide +kernel
theorem dccJx35411_init_45d68_2 : decode cJx35411_init_45d68 2 = .ok (.putfield 1, 3) := by decide +kernel
theorem dccJx35411_init_45d68_5 : decode cJx35411_init_45d68 5 = .ok (.aload_n 0, 1) := by decide +kernel
theorem dccJx35411_init_45d68_6 : decode cJx35411_init_45d68 6 = .ok (.invokespecial 7, 3) := by decide +kernel
theorem dccJx35411_init_45d68_9 : decode cJx35411_init_45d68 9 = .ok (.aload_n 0, 1) := by decide +kernel
theorem dccJx35411_init_45d68_10 : decode cJx35411_init_45d68 10 = .ok (.iconst (-1), 1) := by decide +kernel
theorem dccJx35411_init_45d68_11 : decode cJx35411_init_45d68 11 = .ok (.putfield 13, 3) := by decide +kernel
theorem dccJx35411_init_45d68_14 : decode cJx35411_init_45d68 14 = .ok (.aload_n 0, 1) := by decide +kernel
theorem dccJx35411_init_45d68_15 : decode cJx35411_init_45d68 15 = .ok (.aload_n 0, 1) := by decide +kernel
theorem dccJx35411_init_45d68_16 : decode cJx35411_init_45d68 16 = .ok (.getfield 1, 3) := by decide +kernel
theorem dccJx35411_init_45d68_19 : decode cJx35411_init_45d68 19 = .ok (.getfield 17, 3) := by decide +kernel
theorem dccJx35411_init_45d68_22 : decode cJx35411_init_45d68 22 = .ok (.putfield 22, 3) := by decide +kernel
theorem dccJx35411_init_45d68_25 : decode cJx35411_init_45d68 25 = .ok (.return_, 1) := by decide +kernel
theorem dccJx35411_next_0502b_0 : decode cJx35411_next_0502b 0 = .ok (.aload_n 0, 1) := by decide +kernel
theorem dccJx35411_next_0502b_1 : decode cJx35411_next_0502b 1 = .ok (.invokevirtual 31, 3) := by decide +kernel
theorem dccJx35411_next_0502b_4 : decode cJx35411_next_0502b 4 = .ok (.aload_n 0, 1) := by decide +kernel
theorem dccJx35411_next_0502b_5 : decode cJx35411_next_0502b 5 = .ok (.getfield 25, 3) := by decide +kernel
theorem dccJx35411_next_0502b_8 : decode cJx35411_next_0502b 8 = .ok (.istore_n 1, 1) := by decide +kernel
theorem dccJx35411_next_0502b_9 : decode cJx35411_next_0502b 9 = .ok (.iload_n 1, 1) := by decide +kernel
theorem dccJx35411_next_0502b_10 : decode cJx35411_next_0502b 10 = .ok (.aload_n 0, 1) := by decide +kernel
theorem dccJx35411_next_0502b_11 : decode cJx35411_next_0502b 11 = .ok (.getfield 1, 3) := by decide +kernel
theorem dccJx35411_next_0502b_14 : decode cJx35411_next_0502b 14 = .ok (.getfield 28, 3) := by decide +kernel
theorem dccJx35411_next_0502b_17 : decode cJx35411_next_0502b 17 = .ok (.if_icmp .lt 11, 3) := by decide +kernel
theorem dccJx35411_next_0502b_28 : decode cJx35411_next_0502b 28 = .ok (.aload_n 0, 1) := by decide +kernel
theorem dccJx35411_next_0502b_29 : decode cJx35411_next_0502b 29 = .ok (.getfield 1, 3) := by decide +kernel
theorem dccJx35411_next_0502b_32 : decode cJx35411_next_0502b 32 = .ok (.getfield 37, 3) := by decide +kernel
theorem dccJx35411_next_0502b_35 : decode cJx35411_next_0502b 35 = .ok (.astore_n 2, 1) := by decide +kernel
theorem dccJx35411_next_0502b_36 : decode cJx35411_next_0502b 36 = .ok (.iload_n 1, 1) := by decide +kernel
theorem dccJx35411_next_0502b_37 : decode cJx35411_next_0502b 37 = .ok (.aload_n 2, 1) := by decide +kernel
theorem dccJx35411_next_0502b_38 : decode cJx35411_next_0502b 38 = .ok (.arraylength, 1) := by decide +kernel
theorem dccJx35411_next_0502b_39 : decode cJx35411_next_0502b 39 = .ok (.if_icmp .lt 11, 3) := by decide +kernel
theorem dccJx35411_next_0502b_50 : decode cJx35411_next_0502b 50 = .ok (.aload_n 0, 1) := by decide +kernel
theorem dccJx35411_next_0502b_51 : decode cJx35411_next_0502b 51 = .ok (.iload_n 1, 1) := by decide +kernel
theorem dccJx35411_next_0502b_52 : decode cJx35411_next_0502b 52 = .ok (.iconst 1, 1) := by decide +kernel
theorem dccJx35411_next_0502b_53 : decode cJx35411_next_0502b 53 = .ok (.iadd, 1) := by decide +kernel
theorem dccJx35411_next_0502b_54 : decode cJx35411_next_0502b 54 = .ok (.putfield 25, 3) := by decide +kernel
theorem dccJx35411_next_0502b_57 : decode cJx35411_next_0502b 57 = .ok (.aload_n 2, 1) := by decide +kernel
theorem dccJx35411_next_0502b_58 : decode cJx35411_next_0502b 58 = .ok (.aload_n 0, 1) := by decide +kernel
theorem dccJx35411_next_0502b_59 : decode cJx35411_next_0502b 59 = .ok (.iload_n 1, 1) := by decide +kernel
theorem dccJx35411_next_0502b_60 : decode cJx35411_next_0502b 60 = .ok (.dup_x1, 1) := by decide +kernel
theorem dccJx35411_next_0502b_61 : decode cJx35411_next_0502b 61 = .ok (.putfield 13, 3) := by decide +kernel
theorem dccJx35411_next_0502b_64 : decode cJx35411_next_0502b 64 = .ok (.aaload, 1) := by decide +kernel
theorem dccJx35411_next_0502b_65 : decode cJx35411_next_0502b 65 = .ok (.areturn, 1) := by decide +kernel
theorem dccJx4a65c_add_72be8_0 : decode cJx4a65c_add_72be8 0 = .ok (.iload_n 3, 1) := by decide +kernel
theorem dccJx4a65c_add_72be8_1 : decode cJx4a65c_add_72be8 1 = .ok (.aload_n 2, 1) := by decide +kernel
theorem dccJx4a65c_add_72be8_2 : decode cJx4a65c_add_72be8 2 = .ok (.arraylength, 1) := by decide +kernel
theorem dccJx4a65c_add_72be8_3 : decode cJx4a65c_add_72be8 3 = .ok (.if_icmp .ne 8, 3) := by decide +kernel
theorem dccJx4a65c_add_72be8_6 : decode cJx4a65c_add_72be8 6 = .ok (.aload_n 0, 1) := by decide +kernel
theorem dccJx4a65c_add_72be8_7 : decode cJx4a65c_add_72be8 7 = .ok (.invokevirtual 129, 3) := by decide +kernel
theorem dccJx4a65c_add_72be8_10 : decode cJx4a65c_add_72be8 10 = .ok (.astore_n 2, 1) := by decide +kernel
theorem dccJx4a65c_add_72be8_11 : decode cJx4a65c_add_72be8 11 = .ok (.aload_n 2, 1) := by decide +kernel
theorem dccJx4a65c_add_72be8_12 : decode cJx4a65c_add_72be8 12 = .ok (.iload_n 3, 1) := by decide +kernel
theorem dccJx4a65c_add_72be8_13 : decode cJx4a65c_add_72be8 13 = .ok (.aload_n 1, 1) := by decide +kernel
theorem dccJx4a65c_add_72be8_14 : decode cJx4a65c_add_72be8 14 = .ok (.aastore, 1) := by decide +kernel
theorem dccJx4a65c_add_72be8_15 : decode cJx4a65c_add_72be8 15 = .ok (.aload_n 0, 1) := by decide +kernel
theorem dccJx4a65c_add_72be8_16 : decode cJx4a65c_add_72be8 16 = .ok (.iload_n 3, 1) := by decide +kernel
theorem dccJx4a65c_add_72be8_17 : decode cJx4a65c_add_72be8 17 = .ok (.iconst 1, 1) := by decide +kernel
theorem dccJx4a65c_add_72be8_18 : decode cJx4a65c_add_72be8 18 = .ok (.iadd, 1) := by decide +kernel
theorem dccJx4a65c_add_72be8_19 : decode cJx4a65c_add_72be8 19 = .ok (.putfield 48, 3) := by decide +kernel
theorem dccJx4a65c_add_72be8_22 : decode cJx4a65c_add_72be8 22 = .ok (.return_, 1) := by decide +kernel
theorem dccJx4a65c_add_9ea2d_0 : decode cJx4a65c_add_9ea2d 0 = .ok (.aload_n 0, 1) := by decide +kernel
theorem dccJx4a65c_add_9ea2d_1 : decode cJx4a65c_add_9ea2d 1 = .ok (.dup, 1) := by decide +kernel
theorem dccJx4a65c_add_9ea2d_2 : decode cJx4a65c_add_9ea2d 2 = .ok (.getfield 63, 3) := by decide +kernel
theorem dccJx4a65c_add_9ea2d_5 : decode cJx4a65c_add_9ea2d 5 = .ok (.iconst 1, 1) := by decide +kernel
theorem dccJx4a65c_add_9ea2d_6 : decode cJx4a65c_add_9ea2d 6 = .ok (.iadd, 1) := by decide +kernel
theorem dccJx4a65c_add_9ea2d_7 : decode cJx4a65c_add_9ea2d 7 = .ok (.putfield 63, 3) := by decide +kernel
theorem dccJx4a65c_add_9ea2d_10 : decode cJx4a65c_add_9ea2d 10 = .ok (.aload_n 0, 1) := by decide +kernel
theorem dccJx4a65c_add_9ea2d_11 : decode cJx4a65c_add_9ea2d 11 = .ok (.aload_n 1, 1) := by decide +kernel
theorem dccJx4a65c_add_9ea2d_12 : decode cJx4a65c_add_9ea2d 12 = .ok (.aload_n 0, 1) := by decide +kernel
theorem dccJx4a65c_add_9ea2d_13 : decode cJx4a65c_add_9ea2d 13 = .ok (.getfield 9, 3) := by decide +kernel
theorem dccJx4a65c_add_9ea2d_16 : decode cJx4a65c_add_9ea2d 16 = .ok (.aload_n 0, 1) := by decide +kernel
theorem dccJx4a65c_add_9ea2d_17 : decode cJx4a65c_add_9ea2d 17 = .ok (.getfield 48, 3) := by decide +kernel
theorem dccJx4a65c_add_9ea2d_20 : decode cJx4a65c_add_9ea2d 20 = .ok (.invokevirtual 131, 3) := by decide +kernel
theorem dccJx4a65c_add_9ea2d_23 : decode cJx4a65c_add_9ea2d 23 = .ok (.iconst 1, 1) := by decide +kernel
theorem dccJx4a65c_add_9ea2d_24 : decode cJx4a65c_add_9ea2d 24 = .ok (.ireturn, 1) := by decide +kernel
theorem dccJx4a65c_elementData_915e3_0 : decode cJx4a65c_elementData_915e3 0 = .ok (.aload_n 0, 1) := by decide +kernel
theorem dccJx4a65c_elementData_915e3_1 : decode cJx4a65c_elementData_915e3 1 = .ok (.getfield 9, 3) := by decide +kernel
theorem dccJx4a65c_elementData_915e3_4 : decode cJx4a65c_elementData_915e3 4 = .ok (.iload_n 1, 1) := by decide +kernel
theorem dccJx4a65c_elementData_915e3_5 : decode cJx4a65c_elementData_915e3 5 = .ok (.aaload, 1) := by decide +kernel
theorem dccJx4a65c_elementData_915e3_6 : decode cJx4a65c_elementData_915e3 6 = .ok (.areturn, 1) := by decide +kernel
theorem dccJx4a65c_get_915e3_0 : decode cJx4a65c_get_915e3 0 = .ok (.iload_n 1, 1) := by decide +kernel
theorem dccJx4a65c_get_915e3_1 : decode cJx4a65c_get_915e3 1 = .ok (.aload_n 0, 1) := by decide +kernel
theorem dccJx4a65c_get_915e3_2 : decode cJx4a65c_get_915e3 2 = .ok (.getfield 48, 3) := by decide +kernel
theorem dccJx4a65c_get_915e3_5 : decode cJx4a65c_get_915e3 5 = .ok (.invokestatic 118, 3) := by decide +kernel
theorem dccJx4a65c_get_915e3_8 : decode cJx4a65c_get_915e3 8 = .ok (.pop, 1) := by decide +kernel
theorem dccJx4a65c_get_915e3_9 : decode cJx4a65c_get_915e3 9 = .ok (.aload_n 0, 1) := by decide +kernel
theorem dccJx4a65c_get_915e3_10 : decode cJx4a65c_get_915e3 10 = .ok (.iload_n 1, 1) := by decide +kernel
theorem dccJx4a65c_get_915e3_11 : decode cJx4a65c_get_915e3 11 = .ok (.invokevirtual 123, 3) := by decide +kernel
theorem dccJx4a65c_get_915e3_14 : decode cJx4a65c_get_915e3 14 = .ok (.areturn, 1) := by decide +kernel
theorem dccJx4a65c_grow_92f84_0 : decode cJx4a65c_grow_92f84 0 = .ok (.aload_n 0, 1) := by decide +kernel
theorem dccJx4a65c_grow_92f84_1 : decode cJx4a65c_grow_92f84 1 = .ok (.getfield 9, 3) := by decide +kernel
theorem dccJx4a65c_grow_92f84_4 : decode cJx4a65c_grow_92f84 4 = .ok (.arraylength, 1) := by decide +kernel
theorem dccJx4a65c_grow_92f84_5 : decode cJx4a65c_grow_92f84 5 = .ok (.istore_n 2, 1) := by decide +kernel
theorem dccJx4a65c_grow_92f84_6 : decode cJx4a65c_grow_92f84 6 = .ok (.iload_n 2, 1) := by decide +kernel
theorem dccJx4a65c_grow_92f84_7 : decode cJx4a65c_grow_92f84 7 = .ok (.ifCond .gt 13, 3) := by decide +kernel
theorem dccJx4a65c_grow_92f84_10 : decode cJx4a65c_grow_92f84 10 = .ok (.aload_n 0, 1) := by decide +kernel
theorem dccJx4a65c_grow_92f84_11 : decode cJx4a65c_grow_92f84 11 = .ok (.getfield 9, 3) := by decide +kernel
theorem dccJx4a65c_grow_92f84_14 : decode cJx4a65c_grow_92f84 14 = .ok (.getstatic 39, 3) := by decide +kernel
theorem dccJx4a65c_grow_92f84_17 : decode cJx4a65c_grow_92f84 17 = .ok (.if_acmp .eq 28, 3) := by decide +kernel
theorem dccJx4a65c_grow_92f84_20 : decode cJx4a65c_grow_92f84 20 = .ok (.iload_n 2, 1) := by decide +kernel
theorem dccJx4a65c_grow_92f84_21 : decode cJx4a65c_grow_92f84 21 = .ok (.iload_n 1, 1) := by decide +kernel
theorem dccJx4a65c_grow_92f84_22 : decode cJx4a65c_grow_92f84 22 = .ok (.iload_n 2, 1) := by decide +kernel
theorem dccJx4a65c_grow_92f84_23 : decode cJx4a65c_grow_92f84 23 = .ok (.isub, 1) := by decide +kernel
theorem dccJx4a65c_grow_92f84_24 : decode cJx4a65c_grow_92f84 24 = .ok (.iload_n 2, 1) := by decide +kernel
theorem dccJx4a65c_grow_92f84_25 : decode cJx4a65c_grow_92f84 25 = .ok (.iconst 1, 1) := by decide +kernel
theorem dccJx4a65c_grow_92f84_26 : decode cJx4a65c_grow_92f84 26 = .ok (.ishr, 1) := by decide +kernel
theorem dccJx4a65c_grow_92f84_27 : decode cJx4a65c_grow_92f84 27 = .ok (.invokestatic 73, 3) := by decide +kernel
theorem dccJx4a65c_grow_92f84_30 : decode cJx4a65c_grow_92f84 30 = .ok (.istore_n 3, 1) := by decide +kernel
theorem dccJx4a65c_grow_92f84_31 : decode cJx4a65c_grow_92f84 31 = .ok (.aload_n 0, 1) := by decide +kernel
theorem dccJx4a65c_grow_92f84_32 : decode cJx4a65c_grow_92f84 32 = .ok (.aload_n 0, 1) := by decide +kernel
theorem dccJx4a65c_grow_92f84_33 : decode cJx4a65c_grow_92f84 33 = .ok (.getfield 9, 3) := by decide +kernel
theorem dccJx4a65c_grow_92f84_36 : decode cJx4a65c_grow_92f84 36 = .ok (.iload_n 3, 1) := by decide +kernel
theorem dccJx4a65c_grow_92f84_37 : decode cJx4a65c_grow_92f84 37 = .ok (.invokestatic 66, 3) := by decide +kernel
theorem dccJx4a65c_grow_92f84_40 : decode cJx4a65c_grow_92f84 40 = .ok (.dup_x1, 1) := by decide +kernel
theorem dccJx4a65c_grow_92f84_41 : decode cJx4a65c_grow_92f84 41 = .ok (.putfield 9, 3) := by decide +kernel
theorem dccJx4a65c_grow_92f84_44 : decode cJx4a65c_grow_92f84 44 = .ok (.areturn, 1) := by decide +kernel
theorem dccJx4a65c_grow_92f84_45 : decode cJx4a65c_grow_92f84 45 = .ok (.aload_n 0, 1) := by decide +kernel
theorem dccJx4a65c_grow_92f84_46 : decode cJx4a65c_grow_92f84 46 = .ok (.bipush 10, 2) := by decide +kernel
theorem dccJx4a65c_grow_92f84_48 : decode cJx4a65c_grow_92f84 48 = .ok (.iload_n 1, 1) := by decide +kernel
theorem dccJx4a65c_grow_92f84_49 : decode cJx4a65c_grow_92f84 49 = .ok (.invokestatic 79, 3) := by decide +kernel
theorem dccJx4a65c_grow_92f84_52 : decode cJx4a65c_grow_92f84 52 = .ok (.anewarray 7, 3) := by decide +kernel
theorem dccJx4a65c_grow_92f84_55 : decode cJx4a65c_grow_92f84 55 = .ok (.dup_x1, 1) := by decide +kernel
theorem dccJx4a65c_grow_92f84_56 : decode cJx4a65c_grow_92f84 56 = .ok (.putfield 9, 3) := by decide +kernel
theorem dccJx4a65c_grow_92f84_59 : decode cJx4a65c_grow_92f84 59 = .ok (.areturn, 1) := by decide +kernel
theorem dccJx4a65c_grow_d5877_0 : decode cJx4a65c_grow_d5877 0 = .ok (.aload_n 0, 1) := by decide +kernel
theorem dccJx4a65c_grow_d5877_1 : decode cJx4a65c_grow_d5877 1 = .ok (.aload_n 0, 1) := by decide +kernel
theorem dccJx4a65c_grow_d5877_2 : decode cJx4a65c_grow_d5877 2 = .ok (.getfield 48, 3) := by decide +kernel
theorem dccJx4a65c_grow_d5877_5 : decode cJx4a65c_grow_d5877 5 = .ok (.iconst 1, 1) := by decide +kernel
theorem dccJx4a65c_grow_d5877_6 : decode cJx4a65c_grow_d5877 6 = .ok (.iadd, 1) := by decide +kernel
theorem dccJx4a65c_grow_d5877_7 : decode cJx4a65c_grow_d5877 7 = .ok (.invokevirtual 69, 3) := by decide +kernel
theorem dccJx4a65c_grow_d5877_10 : decode cJx4a65c_grow_d5877 10 = .ok (.areturn, 1) := by decide +kernel
theorem dccJx4a65c_init_da8c8_0 : decode cJx4a65c_init_da8c8 0 = .ok (.aload_n 0, 1) := by decide +kernel
theorem dccJx4a65c_init_da8c8_1 : decode cJx4a65c_init_da8c8 1 = .ok (.invokespecial 1, 3) := by decide +kernel
theorem dccJx4a65c_init_da8c8_4 : decode cJx4a65c_init_da8c8 4 = .ok (.aload_n 0, 1) := by decide +kernel
theorem dccJx4a65c_init_da8c8_5 : decode cJx4a65c_init_da8c8 5 = .ok (.getstatic 39, 3) := by decide +kernel
theorem dccJx4a65c_init_da8c8_8 : decode cJx4a65c_init_da8c8 8 = .ok (.putfield 9, 3) := by decide +kernel
theorem dccJx4a65c_init_da8c8_11 : decode cJx4a65c_init_da8c8 11 = .ok (.return_, 1) := by decide +kernel
theorem dccJx4a65c_iterator_32c93_0 : decode cJx4a65c_iterator_32c93 0 = .ok (.new 267, 3) := by decide +kernel
theorem dccJx4a65c_iterator_32c93_3 : decode cJx4a65c_iterator_32c93 3 = .ok (.dup, 1) := by decide +kernel
theorem dccJx4a65c_iterator_32c93_4 : decode cJx4a65c_iterator_32c93 4 = .ok (.aload_n 0, 1) := by decide +kernel
theorem dccJx4a65c_iterator_32c93_5 : decode cJx4a65c_iterator_32c93 5 = .ok (.invokespecial 269, 3) := by decide +kernel
theorem dccJx4a65c_iterator_32c93_8 : decode cJx4a65c_iterator_32c93 8 = .ok (.areturn, 1) := by decide +kernel
theorem dccJx4a65c_size_8abf5_0 : decode cJx4a65c_size_8abf5 0 = .ok (.aload_n 0, 1) := by decide +kernel
theorem dccJx4a65c_size_8abf5_1 : decode cJx4a65c_size_8abf5 1 = .ok (.getfield 48, 3) := by decide +kernel
theorem dccJx4a65c_size_8abf5_4 : decode cJx4a65c_size_8abf5 4 = .ok (.ireturn, 1) := by decide +kernel
theorem dccJxa1e45_init_da8c8_0 : decode cJxa1e45_init_da8c8 0 = .ok (.aload_n 0, 1) := by decide +kernel
theorem dccJxa1e45_init_da8c8_1 : decode cJxa1e45_init_da8c8 1 = .ok (.invokespecial 1, 3) := by decide +kernel
theorem dccJxa1e45_init_da8c8_4 : decode cJxa1e45_init_da8c8 4 = .ok (.return_, 1) := by decide +kernel
theorem dccJxc12de_init_da8c8_0 : decode cJxc12de_init_da8c8 0 = .ok (.aload_n 0, 1) := by decide +kernel
theorem dccJxc12de_init_da8c8_1 : decode cJxc12de_init_da8c8 1 = .ok (.invokespecial 1, 3) := by decide +kernel
theorem dccJxc12de_init_da8c8_4 : decode cJxc12de_init_da8c8 4 = .ok (.aload_n 0, 1) := by decide +kernel
theorem dccJxc12de_init_da8c8_5 : decode cJxc12de_init_da8c8 5 = .ok (.iconst 0, 1) := by decide +kernel
theorem dccJxc12de_init_da8c8_6 : decode cJxc12de_init_da8c8 6 = .ok (.putfield 7, 3) := by decide +kernel
theorem dccJxc12de_init_da8c8_9 : decode cJxc12de_init_da8c8 9 = .ok (.return_, 1) := by decide +kernel
theorem dccJxd2413_init_da8c8_0 : decode cJxd2413_init_da8c8 0 = .ok (.aload_n 0, 1) := by decide +kernel
theorem dccJxd2413_init_da8c8_1 : decode cJxd2413_init_da8c8 1 = .ok (.invokespecial 1, 3) := by decide +kernel
theorem dccJxd2413_init_da8c8_4 : decode cJxd2413_init_da8c8 4 = .ok (.return_, 1) := by decide +kernel
theorem dccL_areAlike_0 : decode cL_areAlike 0 = .ok (.aload_n 3, 1) := by decide +kernel
theorem dccL_areAlike_1 : decode cL_areAlike 1 = .ok (.aload_n 0, 1) := by decide +kernel
theorem dccL_areAlike_2 : decode cL_areAlike 2 = .ok (.iload_n 1, 1) := by decide +kernel
theorem dccL_areAlike_3 : decode cL_areAlike 3 = .ok (.iload_n 2, 1) := by decide +kernel
theorem dccL_areAlike_4 : decode cL_areAlike 4 = .ok (.invokevirtual 83, 3) := by decide +kernel
theorem dccL_areAlike_7 : decode cL_areAlike 7 = .ok (.ifCond .eq 7, 3) := by decide +kernel
theorem dccL_areAlike_10 : decode cL_areAlike 10 = .ok (.lconst 1, 1) := by decide +kernel
theorem dccL_areAlike_11 : decode cL_areAlike 11 = .ok (.goto 4, 3) := by decide +kernel
theorem dccL_areAlike_14 : decode cL_areAlike 14 = .ok (.lconst 0, 1) := by decide +kernel
theorem dccL_areAlike_15 : decode cL_areAlike 15 = .ok (.putfield 13, 3) := by decide +kernel
theorem dccL_areAlike_18 : decode cL_areAlike 18 = .ok (.goto 7, 3) := by decide +kernel
theorem dccL_areAlike_21 : decode cL_areAlike 21 = .ok (.astore 4, 2) := by decide +kernel
theorem dccL_areAlike_23 : decode cL_areAlike 23 = .ok (.iconst 1, 1) := by decide +kernel
theorem dccL_areAlike_24 : decode cL_areAlike 24 = .ok (.ireturn, 1) := by decide +kernel
theorem dccL_areAlike_25 : decode cL_areAlike 25 = .ok (.iconst 0, 1) := by decide +kernel
theorem dccL_areAlike_26 : decode cL_areAlike 26 = .ok (.ireturn, 1) := by decide +kernel
theorem dccL_buses_0 : decode cL_buses 0 = .ok (.aload_n 2, 1) := by decide +kernel
theorem dccL_buses_1 : decode cL_buses 1 = .ok (.aload_n 0, 1) := by decide +kernel
theorem dccL_buses_2 : decode cL_buses 2 = .ok (.iload_n 1, 1) := by decide +kernel
theorem dccL_buses_3 : decode cL_buses 3 = .ok (.invokevirtual 38, 3) := by decide +kernel
theorem dccL_buses_6 : decode cL_buses 6 = .ok (.i2l, 1) := by decide +kernel
theorem dccL_buses_7 : decode cL_buses 7 = .ok (.putfield 13, 3) := by decide +kernel
theorem dccL_buses_10 : decode cL_buses 10 = .ok (.goto 6, 3) := by decide +kernel
theorem dccL_buses_13 : decode cL_buses 13 = .ok (.astore_n 3, 1) := by decide +kernel
theorem dccL_buses_14 : decode cL_buses 14 = .ok (.iconst 1, 1) := by decide +kernel
theorem dccL_buses_15 : decode cL_buses 15 = .ok (.ireturn, 1) := by decide +kernel
theorem dccL_buses_16 : decode cL_buses 16 = .ok (.iconst 0, 1) := by decide +kernel
theorem dccL_buses_17 : decode cL_buses 17 = .ok (.ireturn, 1) := by decide +kernel
theorem dccL_can_0 : decode cL_can 0 = .ok (.aload_n 2, 1) := by decide +kernel
theorem dccL_can_1 : decode cL_can 1 = .ok (.aload_n 0, 1) := by decide +kernel
theorem dccL_can_2 : decode cL_can 2 = .ok (.iload_n 1, 1) := by decide +kernel
theorem dccL_can_3 : decode cL_can 3 = .ok (.invokevirtual 76, 3) := by decide +kernel
theorem dccL_can_6 : decode cL_can 6 = .ok (.ifCond .eq 7, 3) := by decide +kernel
theorem dccL_can_9 : decode cL_can 9 = .ok (.lconst 1, 1) := by decide +kernel
theorem dccL_can_10 : decode cL_can 10 = .ok (.goto 4, 3) := by decide +kernel
theorem dccL_can_13 : decode cL_can 13 = .ok (.lconst 0, 1) := by decide +kernel
theorem dccL_can_14 : decode cL_can 14 = .ok (.putfield 13, 3) := by decide +kernel
theorem dccL_can_17 : decode cL_can 17 = .ok (.goto 6, 3) := by decide +kernel
theorem dccL_can_20 : decode cL_can 20 = .ok (.astore_n 3, 1) := by decide +kernel
theorem dccL_can_21 : decode cL_can 21 = .ok (.iconst 1, 1) := by decide +kernel
theorem dccL_can_22 : decode cL_can 22 = .ok (.ireturn, 1) := by decide +kernel
theorem dccL_can_23 : decode cL_can 23 = .ok (.iconst 0, 1) := by decide +kernel
theorem dccL_can_24 : decode cL_can 24 = .ok (.ireturn, 1) := by decide +kernel
theorem dccL_county_0 : decode cL_county 0 = .ok (.aload_n 2, 1) := by decide +kernel
theorem dccL_county_1 : decode cL_county 1 = .ok (.aload_n 0, 1) := by decide +kernel
theorem dccL_county_2 : decode cL_county 2 = .ok (.iload_n 1, 1) := by decide +kernel
theorem dccL_county_3 : decode cL_county 3 = .ok (.invokevirtual 73, 3) := by decide +kernel
theorem dccL_county_6 : decode cL_county 6 = .ok (.i2l, 1) := by decide +kernel
theorem dccL_county_7 : decode cL_county 7 = .ok (.putfield 13, 3) := by decide +kernel
theorem dccL_county_10 : decode cL_county 10 = .ok (.goto 6, 3) := by decide +kernel
theorem dccL_county_13 : decode cL_county 13 = .ok (.astore_n 3, 1) := by decide +kernel
theorem dccL_county_14 : decode cL_county 14 = .ok (.iconst 1, 1) := by decide +kernel
theorem dccL_county_15 : decode cL_county 15 = .ok (.ireturn, 1) := by decide +kernel
theorem dccL_county_16 : decode cL_county 16 = .ok (.iconst 0, 1) := by decide +kernel
theorem dccL_county_17 : decode cL_county 17 = .ok (.ireturn, 1) := by decide +kernel
theorem dccL_fetch_0 : decode cL_fetch 0 = .ok (.aload_n 2, 1) := by decide +kernel
theorem dccL_fetch_1 : decode cL_fetch 1 = .ok (.aload_n 0, 1) := by decide +kernel
theorem dccL_fetch_2 : decode cL_fetch 2 = .ok (.iload_n 1, 1) := by decide +kernel
theorem dccL_fetch_3 : decode cL_fetch 3 = .ok (.invokevirtual 42, 3) := by decide +kernel
theorem dccL_fetch_6 : decode cL_fetch 6 = .ok (.i2l, 1) := by decide +kernel
theorem dccL_fetch_7 : decode cL_fetch 7 = .ok (.putfield 13, 3) := by decide +kernel
theorem dccL_fetch_10 : decode cL_fetch 10 = .ok (.goto 9, 3) := by decide +kernel
theorem dccL_fetch_13 : decode cL_fetch 13 = .ok (.astore_n 3, 1) := by decide +kernel
theorem dccL_fetch_14 : decode cL_fetch 14 = .ok (.iconst 1, 1) := by decide +kernel
theorem dccL_fetch_15 : decode cL_fetch 15 = .ok (.ireturn, 1) := by decide +kernel
theorem dccL_fetch_16 : decode cL_fetch 16 = .ok (.astore_n 3, 1) := by decide +kernel
theorem dccL_fetch_17 : decode cL_fetch 17 = .ok (.iconst 2, 1) := by decide +kernel
theorem dccL_fetch_18 : decode cL_fetch 18 = .ok (.ireturn, 1) := by decide +kernel
theorem dccL_fetch_19 : decode cL_fetch 19 = .ok (.iconst 0, 1) := by decide +kernel
theorem dccL_fetch_20 : decode cL_fetch 20 = .ok (.ireturn, 1) := by decide +kernel
theorem dccL_give_0 : decode cL_give 0 = .ok (.aload_n 2, 1) := by decide +kernel
theorem dccL_give_1 : decode cL_give 1 = .ok (.aload_n 0, 1) := by decide +kernel
theorem dccL_give_2 : decode cL_give 2 = .ok (.iload_n 1, 1) := by decide +kernel
theorem dccL_give_3 : decode cL_give 3 = .ok (.invokevirtual 51, 3) := by decide +kernel
theorem dccL_give_6 : decode cL_give 6 = .ok (.i2l, 1) := by decide +kernel
theorem dccL_give_7 : decode cL_give 7 = .ok (.putfield 13, 3) := by decide +kernel
theorem dccL_give_10 : decode cL_give 10 = .ok (.goto 6, 3) := by decide +kernel
theorem dccL_give_13 : decode cL_give 13 = .ok (.astore_n 3, 1) := by decide +kernel
theorem dccL_give_14 : decode cL_give 14 = .ok (.iconst 1, 1) := by decide +kernel
theorem dccL_give_15 : decode cL_give 15 = .ok (.ireturn, 1) := by decide +kernel
theorem dccL_give_16 : decode cL_give 16 = .ok (.iconst 0, 1) := by decide +kernel
theorem dccL_give_17 : decode cL_give 17 = .ok (.ireturn, 1) := by decide +kernel
theorem dccL_hall_0 : decode cL_hall 0 = .ok (.aload_n 3, 1) := by decide +kernel
theorem dccL_hall_1 : decode cL_hall 1 = .ok (.aload_n 0, 1) := by decide +kernel
theorem dccL_hall_2 : decode cL_hall 2 = .ok (.iload_n 1, 1) := by decide +kernel
theorem dccL_hall_3 : decode cL_hall 3 = .ok (.iload_n 2, 1) := by decide +kernel
theorem dccL_hall_4 : decode cL_hall 4 = .ok (.invokevirtual 23, 3) := by decide +kernel
theorem dccL_hall_7 : decode cL_hall 7 = .ok (.i2l, 1) := by decide +kernel
theorem dccL_hall_8 : decode cL_hall 8 = .ok (.putfield 13, 3) := by decide +kernel
theorem dccL_hall_11 : decode cL_hall 11 = .ok (.goto 11, 3) := by decide +kernel
theorem dccL_hall_14 : decode cL_hall 14 = .ok (.astore 4, 2) := by decide +kernel
theorem dccL_hall_16 : decode cL_hall 16 = .ok (.iconst 1, 1) := by decide +kernel
theorem dccL_hall_17 : decode cL_hall 17 = .ok (.ireturn, 1) := by decide +kernel
theorem dccL_hall_18 : decode cL_hall 18 = .ok (.astore 4, 2) := by decide +kernel
theorem dccL_hall_20 : decode cL_hall 20 = .ok (.iconst 2, 1) := by decide +kernel
theorem dccL_hall_21 : decode cL_hall 21 = .ok (.ireturn, 1) := by decide +kernel
theorem dccL_hall_22 : decode cL_hall 22 = .ok (.iconst 0, 1) := by decide +kernel
theorem dccL_hall_23 : decode cL_hall 23 = .ok (.ireturn, 1) := by decide +kernel
theorem dccL_household_0 : decode cL_household 0 = .ok (.aload 4, 2) := by decide +kernel
theorem dccL_household_2 : decode cL_household 2 = .ok (.aload_n 0, 1) := by decide +kernel
theorem dccL_household_3 : decode cL_household 3 = .ok (.iload_n 1, 1) := by decide +kernel
theorem dccL_household_4 : decode cL_household 4 = .ok (.iload_n 2, 1) := by decide +kernel
theorem dccL_household_5 : decode cL_household 5 = .ok (.iload_n 3, 1) := by decide +kernel
theorem dccL_household_6 : decode cL_household 6 = .ok (.invokevirtual 31, 3) := by decide +kernel
theorem dccL_household_9 : decode cL_household 9 = .ok (.i2l, 1) := by decide +kernel
theorem dccL_household_10 : decode cL_household 10 = .ok (.putfield 13, 3) := by decide +kernel
theorem dccL_household_13 : decode cL_household 13 = .ok (.goto 15, 3) := by decide +kernel
theorem dccL_household_16 : decode cL_household 16 = .ok (.astore 5, 2) := by decide +kernel
theorem dccL_household_18 : decode cL_household 18 = .ok (.iconst 1, 1) := by decide +kernel
theorem dccL_household_19 : decode cL_household 19 = .ok (.ireturn, 1) := by decide +kernel
theorem dccL_household_20 : decode cL_household 20 = .ok (.astore 5, 2) := by decide +kernel
theorem dccL_household_22 : decode cL_household 22 = .ok (.iconst 2, 1) := by decide +kernel
theorem dccL_household_23 : decode cL_household 23 = .ok (.ireturn, 1) := by decide +kernel
theorem dccL_household_24 : decode cL_household 24 = .ok (.astore 5, 2) := by decide +kernel
theorem dccL_household_26 : decode cL_household 26 = .ok (.iconst 3, 1) := by decide +kernel
theorem dccL_household_27 : decode cL_household 27 = .ok (.ireturn, 1) := by decide +kernel
theorem dccL_household_28 : decode cL_household 28 = .ok (.iconst 0, 1) := by decide +kernel
theorem dccL_household_29 : decode cL_household 29 = .ok (.ireturn, 1) := by decide +kernel
theorem dccL_law_0 : decode cL_law 0 = .ok (.new 8, 3) := by decide +kernel
theorem dccL_law_3 : decode cL_law 3 = .ok (.dup, 1) := by decide +kernel
theorem dccL_law_4 : decode cL_law 4 = .ok (.invokespecial 87, 3) := by decide +kernel
theorem dccL_law_7 : decode cL_law 7 = .ok (.astore_n 1, 1) := by decide +kernel
theorem dccL_law_8 : decode cL_law 8 = .ok (.new 88, 3) := by decide +kernel
theorem dccL_law_11 : decode cL_law 11 = .ok (.dup, 1) := by decide +kernel
theorem dccL_law_12 : decode cL_law 12 = .ok (.invokespecial 90, 3) := by decide +kernel
theorem dccL_law_15 : decode cL_law 15 = .ok (.astore_n 2, 1) := by decide +kernel
theorem dccL_law_16 : decode cL_law 16 = .ok (.new 14, 3) := by decide +kernel
theorem dccL_law_19 : decode cL_law 19 = .ok (.dup, 1) := by decide +kernel
theorem dccL_law_20 : decode cL_law 20 = .ok (.invokespecial 91, 3) := by decide +kernel
theorem dccL_law_23 : decode cL_law 23 = .ok (.astore_n 3, 1) := by decide +kernel
theorem dccL_law_24 : decode cL_law 24 = .ok (.iconst 0, 1) := by decide +kernel
theorem dccL_law_25 : decode cL_law 25 = .ok (.istore 4, 2) := by decide +kernel
theorem dccL_law_27 : decode cL_law 27 = .ok (.iload 4, 2) := by decide +kernel
theorem dccL_law_29 : decode cL_law 29 = .ok (.aload_n 0, 1) := by decide +kernel
theorem dccL_law_30 : decode cL_law 30 = .ok (.arraylength, 1) := by decide +kernel
theorem dccL_law_31 : decode cL_law 31 = .ok (.iconst 4, 1) := by decide +kernel
theorem dccL_law_32 : decode cL_law 32 = .ok (.isub, 1) := by decide +kernel
theorem dccL_law_33 : decode cL_law 33 = .ok (.if_icmp .gt 1012, 3) := by decide +kernel
theorem dccL_law_36 : decode cL_law 36 = .ok (.aload_n 0, 1) := by decide +kernel
theorem dccL_law_37 : decode cL_law 37 = .ok (.iload 4, 2) := by decide +kernel
theorem dccL_law_39 : decode cL_law 39 = .ok (.iaload, 1) := by decide +kernel
theorem dccL_law_40 : decode cL_law 40 = .ok (.bipush 31, 2) := by decide +kernel
theorem dccL_law_42 : decode cL_law 42 = .ok (.iand, 1) := by decide +kernel
theorem dccL_law_43 : decode cL_law 43 = .ok (.tableswitch 996 0 25 #[117, 157, 197, 237, 305, 345, 373, 430, 458, 498, 526, 554, 610, 623, 663, 703, 743, 783, 811, 824, 852, 865, 890, 930, 970, 983], 117) := by decide +kernel
theorem dccL_law_160 : decode cL_law 160 = .ok (.aload_n 1, 1) := by decide +kernel
theorem dccL_law_161 : decode cL_law 161 = .ok (.aload_n 0, 1) := by decide +kernel
theorem dccL_law_162 : decode cL_law 162 = .ok (.iload 4, 2) := by decide +kernel
theorem dccL_law_164 : decode cL_law 164 = .ok (.iconst 1, 1) := by decide +kernel
theorem dccL_law_165 : decode cL_law 165 = .ok (.iadd, 1) := by decide +kernel
theorem dccL_law_166 : decode cL_law 166 = .ok (.iaload, 1) := by decide +kernel
theorem dccL_law_167 : decode cL_law 167 = .ok (.aload_n 0, 1) := by decide +kernel
theorem dccL_law_168 : decode cL_law 168 = .ok (.iload 4, 2) := by decide +kernel
theorem dccL_law_170 : decode cL_law 170 = .ok (.iconst 2, 1) := by decide +kernel
theorem dccL_law_171 : decode cL_law 171 = .ok (.iadd, 1) := by decide +kernel
theorem dccL_law_172 : decode cL_law 172 = .ok (.iaload, 1) := by decide +kernel
theorem dccL_law_173 : decode cL_law 173 = .ok (.aload_n 3, 1) := by decide +kernel
theorem dccL_law_174 : decode cL_law 174 = .ok (.invokestatic 92, 3) := by decide +kernel
theorem dccL_law_177 : decode cL_law 177 = .ok (.istore 5, 2) := by decide +kernel
theorem dccL_law_179 : decode cL_law 179 = .ok (.aload_n 2, 1) := by decide +kernel
theorem dccL_law_180 : decode cL_law 180 = .ok (.aload_n 0, 1) := by decide +kernel
theorem dccL_law_181 : decode cL_law 181 = .ok (.iload 4, 2) := by decide +kernel
theorem dccL_law_183 : decode cL_law 183 = .ok (.iconst 1, 1) := by decide +kernel
theorem dccL_law_184 : decode cL_law 184 = .ok (.iadd, 1) := by decide +kernel
theorem dccL_law_185 : decode cL_law 185 = .ok (.iaload, 1) := by decide +kernel
theorem dccL_law_186 : decode cL_law 186 = .ok (.aload_n 0, 1) := by decide +kernel
theorem dccL_law_187 : decode cL_law 187 = .ok (.iload 4, 2) := by decide +kernel
theorem dccL_law_189 : decode cL_law 189 = .ok (.iconst 2, 1) := by decide +kernel
theorem dccL_law_190 : decode cL_law 190 = .ok (.iadd, 1) := by decide +kernel
theorem dccL_law_191 : decode cL_law 191 = .ok (.iaload, 1) := by decide +kernel
theorem dccL_law_192 : decode cL_law 192 = .ok (.invokevirtual 97, 3) := by decide +kernel
theorem dccL_law_195 : decode cL_law 195 = .ok (.istore 6, 2) := by decide +kernel
theorem dccL_law_197 : decode cL_law 197 = .ok (.goto 842, 3) := by decide +kernel
theorem dccL_law_200 : decode cL_law 200 = .ok (.aload_n 1, 1) := by decide +kernel
theorem dccL_law_201 : decode cL_law 201 = .ok (.aload_n 0, 1) := by decide +kernel
theorem dccL_law_202 : decode cL_law 202 = .ok (.iload 4, 2) := by decide +kernel
theorem dccL_law_204 : decode cL_law 204 = .ok (.iconst 1, 1) := by decide +kernel
theorem dccL_law_205 : decode cL_law 205 = .ok (.iadd, 1) := by decide +kernel
theorem dccL_law_206 : decode cL_law 206 = .ok (.iaload, 1) := by decide +kernel
theorem dccL_law_207 : decode cL_law 207 = .ok (.aload_n 0, 1) := by decide +kernel
theorem dccL_law_208 : decode cL_law 208 = .ok (.iload 4, 2) := by decide +kernel
theorem dccL_law_210 : decode cL_law 210 = .ok (.iconst 2, 1) := by decide +kernel
theorem dccL_law_211 : decode cL_law 211 = .ok (.iadd, 1) := by decide +kernel
theorem dccL_law_212 : decode cL_law 212 = .ok (.iaload, 1) := by decide +kernel
theorem dccL_law_213 : decode cL_law 213 = .ok (.aload_n 3, 1) := by decide +kernel
theorem dccL_law_214 : decode cL_law 214 = .ok (.invokestatic 98, 3) := by decide +kernel
theorem dccL_law_217 : decode cL_law 217 = .ok (.istore 5, 2) := by decide +kernel
theorem dccL_law_219 : decode cL_law 219 = .ok (.aload_n 2, 1) := by decide +kernel
theorem dccL_law_220 : decode cL_law 220 = .ok (.aload_n 0, 1) := by decide +kernel
theorem dccL_law_221 : decode cL_law 221 = .ok (.iload 4, 2) := by decide +kernel
theorem dccL_law_223 : decode cL_law 223 = .ok (.iconst 1, 1) := by decide +kernel
theorem dccL_law_224 : decode cL_law 224 = .ok (.iadd, 1) := by decide +kernel
theorem dccL_law_225 : decode cL_law 225 = .ok (.iaload, 1) := by decide +kernel
theorem dccL_law_226 : decode cL_law 226 = .ok (.aload_n 0, 1) := by decide +kernel
theorem dccL_law_227 : decode cL_law 227 = .ok (.iload 4, 2) := by decide +kernel
theorem dccL_law_229 : decode cL_law 229 = .ok (.iconst 2, 1) := by decide +kernel
theorem dccL_law_230 : decode cL_law 230 = .ok (.iadd, 1) := by decide +kernel
theorem dccL_law_231 : decode cL_law 231 = .ok (.iaload, 1) := by decide +kernel
theorem dccL_law_232 : decode cL_law 232 = .ok (.invokevirtual 100, 3) := by decide +kernel
theorem dccL_law_235 : decode cL_law 235 = .ok (.istore 6, 2) := by decide +kernel
theorem dccL_law_237 : decode cL_law 237 = .ok (.goto 802, 3) := by decide +kernel
theorem dccL_law_240 : decode cL_law 240 = .ok (.aload_n 1, 1) := by decide +kernel
theorem dccL_law_241 : decode cL_law 241 = .ok (.aload_n 0, 1) := by decide +kernel
theorem dccL_law_242 : decode cL_law 242 = .ok (.iload 4, 2) := by decide +kernel
theorem dccL_law_244 : decode cL_law 244 = .ok (.iconst 1, 1) := by decide +kernel
theorem dccL_law_245 : decode cL_law 245 = .ok (.iadd, 1) := by decide +kernel
theorem dccL_law_246 : decode cL_law 246 = .ok (.iaload, 1) := by decide +kernel
theorem dccL_law_247 : decode cL_law 247 = .ok (.aload_n 0, 1) := by decide +kernel
theorem dccL_law_248 : decode cL_law 248 = .ok (.iload 4, 2) := by decide +kernel
theorem dccL_law_250 : decode cL_law 250 = .ok (.iconst 2, 1) := by decide +kernel
theorem dccL_law_251 : decode cL_law 251 = .ok (.iadd, 1) := by decide +kernel
theorem dccL_law_252 : decode cL_law 252 = .ok (.iaload, 1) := by decide +kernel
theorem dccL_law_253 : decode cL_law 253 = .ok (.aload_n 3, 1) := by decide +kernel
theorem dccL_law_254 : decode cL_law 254 = .ok (.invokestatic 101, 3) := by decide +kernel
theorem dccL_law_257 : decode cL_law 257 = .ok (.istore 5, 2) := by decide +kernel
theorem dccL_law_259 : decode cL_law 259 = .ok (.aload_n 2, 1) := by decide +kernel
theorem dccL_law_260 : decode cL_law 260 = .ok (.aload_n 0, 1) := by decide +kernel
theorem dccL_law_261 : decode cL_law 261 = .ok (.iload 4, 2) := by decide +kernel
theorem dccL_law_263 : decode cL_law 263 = .ok (.iconst 1, 1) := by decide +kernel
theorem dccL_law_264 : decode cL_law 264 = .ok (.iadd, 1) := by decide +kernel
theorem dccL_law_265 : decode cL_law 265 = .ok (.iaload, 1) := by decide +kernel
theorem dccL_law_266 : decode cL_law 266 = .ok (.aload_n 0, 1) := by decide +kernel
theorem dccL_law_267 : decode cL_law 267 = .ok (.iload 4, 2) := by decide +kernel
theorem dccL_law_269 : decode cL_law 269 = .ok (.iconst 2, 1) := by decide +kernel
theorem dccL_law_270 : decode cL_law 270 = .ok (.iadd, 1) := by decide +kernel
theorem dccL_law_271 : decode cL_law 271 = .ok (.iaload, 1) := by decide +kernel
theorem dccL_law_272 : decode cL_law 272 = .ok (.invokevirtual 103, 3) := by decide +kernel
theorem dccL_law_275 : decode cL_law 275 = .ok (.istore 6, 2) := by decide +kernel
theorem dccL_law_277 : decode cL_law 277 = .ok (.goto 762, 3) := by decide +kernel
theorem dccL_law_280 : decode cL_law 280 = .ok (.aload_n 1, 1) := by decide +kernel
theorem dccL_law_281 : decode cL_law 281 = .ok (.aload_n 0, 1) := by decide +kernel
theorem dccL_law_282 : decode cL_law 282 = .ok (.iload 4, 2) := by decide +kernel
theorem dccL_law_284 : decode cL_law 284 = .ok (.iconst 1, 1) := by decide +kernel
theorem dccL_law_285 : decode cL_law 285 = .ok (.iadd, 1) := by decide +kernel
theorem dccL_law_286 : decode cL_law 286 = .ok (.iaload, 1) := by decide +kernel
theorem dccL_law_287 : decode cL_law 287 = .ok (.aload_n 0, 1) := by decide +kernel
theorem dccL_law_288 : decode cL_law 288 = .ok (.iload 4, 2) := by decide +kernel
theorem dccL_law_290 : decode cL_law 290 = .ok (.iconst 2, 1) := by decide +kernel
theorem dccL_law_291 : decode cL_law 291 = .ok (.iadd, 1) := by decide +kernel
theorem dccL_law_292 : decode cL_law 292 = .ok (.iaload, 1) := by decide +kernel
theorem dccL_law_293 : decode cL_law 293 = .ok (.aload_n 0, 1) := by decide +kernel
theorem dccL_law_294 : decode cL_law 294 = .ok (.iload 4, 2) := by decide +kernel
theorem dccL_law_296 : decode cL_law 296 = .ok (.iconst 3, 1) := by decide +kernel
theorem dccL_law_297 : decode cL_law 297 = .ok (.iadd, 1) := by decide +kernel
theorem dccL_law_298 : decode cL_law 298 = .ok (.iaload, 1) := by decide +kernel
theorem dccL_law_299 : decode cL_law 299 = .ok (.ifCond .eq 7, 3) := by decide +kernel
theorem dccL_law_302 : decode cL_law 302 = .ok (.iconst 1, 1) := by decide +kernel
theorem dccL_law_303 : decode cL_law 303 = .ok (.goto 4, 3) := by decide +kernel
theorem dccL_law_306 : decode cL_law 306 = .ok (.iconst 0, 1) := by decide +kernel
theorem dccL_law_307 : decode cL_law 307 = .ok (.aload_n 3, 1) := by decide +kernel
theorem dccL_law_308 : decode cL_law 308 = .ok (.invokestatic 104, 3) := by decide +kernel
theorem dccL_law_311 : decode cL_law 311 = .ok (.istore 5, 2) := by decide +kernel
theorem dccL_law_313 : decode cL_law 313 = .ok (.aload_n 2, 1) := by decide +kernel
theorem dccL_law_314 : decode cL_law 314 = .ok (.aload_n 0, 1) := by decide +kernel
theorem dccL_law_315 : decode cL_law 315 = .ok (.iload 4, 2) := by decide +kernel
theorem dccL_law_317 : decode cL_law 317 = .ok (.iconst 1, 1) := by decide +kernel
theorem dccL_law_318 : decode cL_law 318 = .ok (.iadd, 1) := by decide +kernel
theorem dccL_law_319 : decode cL_law 319 = .ok (.iaload, 1) := by decide +kernel
theorem dccL_law_320 : decode cL_law 320 = .ok (.aload_n 0, 1) := by decide +kernel
theorem dccL_law_321 : decode cL_law 321 = .ok (.iload 4, 2) := by decide +kernel
theorem dccL_law_323 : decode cL_law 323 = .ok (.iconst 2, 1) := by decide +kernel
theorem dccL_law_324 : decode cL_law 324 = .ok (.iadd, 1) := by decide +kernel
theorem dccL_law_325 : decode cL_law 325 = .ok (.iaload, 1) := by decide +kernel
theorem dccL_law_326 : decode cL_law 326 = .ok (.aload_n 0, 1) := by decide +kernel
theorem dccL_law_327 : decode cL_law 327 = .ok (.iload 4, 2) := by decide +kernel
theorem dccL_law_329 : decode cL_law 329 = .ok (.iconst 3, 1) := by decide +kernel
theorem dccL_law_330 : decode cL_law 330 = .ok (.iadd, 1) := by decide +kernel
theorem dccL_law_331 : decode cL_law 331 = .ok (.iaload, 1) := by decide +kernel
theorem dccL_law_332 : decode cL_law 332 = .ok (.ifCond .eq 7, 3) := by decide +kernel
theorem dccL_law_335 : decode cL_law 335 = .ok (.iconst 1, 1) := by decide +kernel
theorem dccL_law_336 : decode cL_law 336 = .ok (.goto 4, 3) := by decide +kernel
theorem dccL_law_339 : decode cL_law 339 = .ok (.iconst 0, 1) := by decide +kernel
theorem dccL_law_340 : decode cL_law 340 = .ok (.invokevirtual 107, 3) := by decide +kernel
theorem dccL_law_343 : decode cL_law 343 = .ok (.istore 6, 2) := by decide +kernel
theorem dccL_law_345 : decode cL_law 345 = .ok (.goto 694, 3) := by decide +kernel
theorem dccL_law_348 : decode cL_law 348 = .ok (.aload_n 1, 1) := by decide +kernel
theorem dccL_law_349 : decode cL_law 349 = .ok (.aload_n 0, 1) := by decide +kernel
theorem dccL_law_350 : decode cL_law 350 = .ok (.iload 4, 2) := by decide +kernel
theorem dccL_law_352 : decode cL_law 352 = .ok (.iconst 1, 1) := by decide +kernel
theorem dccL_law_353 : decode cL_law 353 = .ok (.iadd, 1) := by decide +kernel
theorem dccL_law_354 : decode cL_law 354 = .ok (.iaload, 1) := by decide +kernel
theorem dccL_law_355 : decode cL_law 355 = .ok (.aload_n 0, 1) := by decide +kernel
theorem dccL_law_356 : decode cL_law 356 = .ok (.iload 4, 2) := by decide +kernel
theorem dccL_law_358 : decode cL_law 358 = .ok (.iconst 2, 1) := by decide +kernel
theorem dccL_law_359 : decode cL_law 359 = .ok (.iadd, 1) := by decide +kernel
theorem dccL_law_360 : decode cL_law 360 = .ok (.iaload, 1) := by decide +kernel
theorem dccL_law_361 : decode cL_law 361 = .ok (.aload_n 3, 1) := by decide +kernel
theorem dccL_law_362 : decode cL_law 362 = .ok (.invokestatic 108, 3) := by decide +kernel
theorem dccL_law_365 : decode cL_law 365 = .ok (.istore 5, 2) := by decide +kernel
theorem dccL_law_367 : decode cL_law 367 = .ok (.aload_n 2, 1) := by decide +kernel
theorem dccL_law_368 : decode cL_law 368 = .ok (.aload_n 0, 1) := by decide +kernel
theorem dccL_law_369 : decode cL_law 369 = .ok (.iload 4, 2) := by decide +kernel
theorem dccL_law_371 : decode cL_law 371 = .ok (.iconst 1, 1) := by decide +kernel
theorem dccL_law_372 : decode cL_law 372 = .ok (.iadd, 1) := by decide +kernel
theorem dccL_law_373 : decode cL_law 373 = .ok (.iaload, 1) := by decide +kernel
theorem dccL_law_374 : decode cL_law 374 = .ok (.aload_n 0, 1) := by decide +kernel
theorem dccL_law_375 : decode cL_law 375 = .ok (.iload 4, 2) := by decide +kernel
theorem dccL_law_377 : decode cL_law 377 = .ok (.iconst 2, 1) := by decide +kernel
theorem dccL_law_378 : decode cL_law 378 = .ok (.iadd, 1) := by decide +kernel
theorem dccL_law_379 : decode cL_law 379 = .ok (.iaload, 1) := by decide +kernel
theorem dccL_law_380 : decode cL_law 380 = .ok (.invokevirtual 110, 3) := by decide +kernel
theorem dccL_law_383 : decode cL_law 383 = .ok (.istore 6, 2) := by decide +kernel
theorem dccL_law_385 : decode cL_law 385 = .ok (.goto 654, 3) := by decide +kernel
theorem dccL_law_388 : decode cL_law 388 = .ok (.aload_n 1, 1) := by decide +kernel
theorem dccL_law_389 : decode cL_law 389 = .ok (.aload_n 0, 1) := by decide +kernel
theorem dccL_law_390 : decode cL_law 390 = .ok (.iload 4, 2) := by decide +kernel
theorem dccL_law_392 : decode cL_law 392 = .ok (.iconst 1, 1) := by decide +kernel
theorem dccL_law_393 : decode cL_law 393 = .ok (.iadd, 1) := by decide +kernel
theorem dccL_law_394 : decode cL_law 394 = .ok (.iaload, 1) := by decide +kernel
theorem dccL_law_395 : decode cL_law 395 = .ok (.aload_n 3, 1) := by decide +kernel
theorem dccL_law_396 : decode cL_law 396 = .ok (.invokestatic 111, 3) := by decide +kernel
theorem dccL_law_399 : decode cL_law 399 = .ok (.istore 5, 2) := by decide +kernel
theorem dccL_law_401 : decode cL_law 401 = .ok (.aload_n 2, 1) := by decide +kernel
theorem dccL_law_402 : decode cL_law 402 = .ok (.aload_n 0, 1) := by decide +kernel
theorem dccL_law_403 : decode cL_law 403 = .ok (.iload 4, 2) := by decide +kernel
theorem dccL_law_405 : decode cL_law 405 = .ok (.iconst 1, 1) := by decide +kernel
theorem dccL_law_406 : decode cL_law 406 = .ok (.iadd, 1) := by decide +kernel
theorem dccL_law_407 : decode cL_law 407 = .ok (.iaload, 1) := by decide +kernel
theorem dccL_law_408 : decode cL_law 408 = .ok (.invokevirtual 114, 3) := by decide +kernel
theorem dccL_law_411 : decode cL_law 411 = .ok (.istore 6, 2) := by decide +kernel
theorem dccL_law_413 : decode cL_law 413 = .ok (.goto 626, 3) := by decide +kernel
theorem dccL_law_416 : decode cL_law 416 = .ok (.aload_n 1, 1) := by decide +kernel
theorem dccL_law_417 : decode cL_law 417 = .ok (.aload_n 0, 1) := by decide +kernel
theorem dccL_law_418 : decode cL_law 418 = .ok (.iload 4, 2) := by decide +kernel
theorem dccL_law_420 : decode cL_law 420 = .ok (.iconst 1, 1) := by decide +kernel
theorem dccL_law_421 : decode cL_law 421 = .ok (.iadd, 1) := by decide +kernel
theorem dccL_law_422 : decode cL_law 422 = .ok (.iaload, 1) := by decide +kernel
theorem dccL_law_423 : decode cL_law 423 = .ok (.aload_n 3, 1) := by decide +kernel
theorem dccL_law_424 : decode cL_law 424 = .ok (.invokestatic 115, 3) := by decide +kernel
theorem dccL_law_427 : decode cL_law 427 = .ok (.istore 5, 2) := by decide +kernel
theorem dccL_law_429 : decode cL_law 429 = .ok (.aload_n 2, 1) := by decide +kernel
theorem dccL_law_430 : decode cL_law 430 = .ok (.aload_n 0, 1) := by decide +kernel
theorem dccL_law_431 : decode cL_law 431 = .ok (.iload 4, 2) := by decide +kernel
theorem dccL_law_433 : decode cL_law 433 = .ok (.iconst 1, 1) := by decide +kernel
theorem dccL_law_434 : decode cL_law 434 = .ok (.iadd, 1) := by decide +kernel
theorem dccL_law_435 : decode cL_law 435 = .ok (.iaload, 1) := by decide +kernel
theorem dccL_law_436 : decode cL_law 436 = .ok (.invokevirtual 117, 3) := by decide +kernel
theorem dccL_law_439 : decode cL_law 439 = .ok (.istore 6, 2) := by decide +kernel
theorem dccL_law_441 : decode cL_law 441 = .ok (.aload_n 2, 1) := by decide +kernel
theorem dccL_law_442 : decode cL_law 442 = .ok (.invokevirtual 118, 3) := by decide +kernel
theorem dccL_law_445 : decode cL_law 445 = .ok (.iload 5, 2) := by decide +kernel
theorem dccL_law_447 : decode cL_law 447 = .ok (.if_icmp .eq 5, 3) := by decide +kernel
theorem dccL_law_450 : decode cL_law 450 = .ok (.iconst 0, 1) := by decide +kernel
theorem dccL_law_451 : decode cL_law 451 = .ok (.ireturn, 1) := by decide +kernel
theorem dccL_law_452 : decode cL_law 452 = .ok (.iload 5, 2) := by decide +kernel
theorem dccL_law_454 : decode cL_law 454 = .ok (.ifCond .ne 16, 3) := by decide +kernel
theorem dccL_law_457 : decode cL_law 457 = .ok (.aload_n 3, 1) := by decide +kernel
theorem dccL_law_458 : decode cL_law 458 = .ok (.getfield 13, 3) := by decide +kernel
theorem dccL_law_461 : decode cL_law 461 = .ok (.iload 6, 2) := by decide +kernel
theorem dccL_law_463 : decode cL_law 463 = .ok (.i2l, 1) := by decide +kernel
theorem dccL_law_464 : decode cL_law 464 = .ok (.lcmp, 1) := by decide +kernel
theorem dccL_law_465 : decode cL_law 465 = .ok (.ifCond .eq 5, 3) := by decide +kernel
theorem dccL_law_468 : decode cL_law 468 = .ok (.iconst 0, 1) := by decide +kernel
theorem dccL_law_469 : decode cL_law 469 = .ok (.ireturn, 1) := by decide +kernel
theorem dccL_law_470 : decode cL_law 470 = .ok (.goto 569, 3) := by decide +kernel
theorem dccL_law_473 : decode cL_law 473 = .ok (.aload_n 1, 1) := by decide +kernel
theorem dccL_law_474 : decode cL_law 474 = .ok (.aload_n 0, 1) := by decide +kernel
theorem dccL_law_475 : decode cL_law 475 = .ok (.iload 4, 2) := by decide +kernel
theorem dccL_law_477 : decode cL_law 477 = .ok (.iconst 1, 1) := by decide +kernel
theorem dccL_law_478 : decode cL_law 478 = .ok (.iadd, 1) := by decide +kernel
theorem dccL_law_479 : decode cL_law 479 = .ok (.iaload, 1) := by decide +kernel
theorem dccL_law_480 : decode cL_law 480 = .ok (.aload_n 3, 1) := by decide +kernel
theorem dccL_law_481 : decode cL_law 481 = .ok (.invokestatic 122, 3) := by decide +kernel
theorem dccL_law_484 : decode cL_law 484 = .ok (.istore 5, 2) := by decide +kernel
theorem dccL_law_486 : decode cL_law 486 = .ok (.aload_n 2, 1) := by decide +kernel
theorem dccL_law_487 : decode cL_law 487 = .ok (.aload_n 0, 1) := by decide +kernel
theorem dccL_law_488 : decode cL_law 488 = .ok (.iload 4, 2) := by decide +kernel
theorem dccL_law_490 : decode cL_law 490 = .ok (.iconst 1, 1) := by decide +kernel
theorem dccL_law_491 : decode cL_law 491 = .ok (.iadd, 1) := by decide +kernel
theorem dccL_law_492 : decode cL_law 492 = .ok (.iaload, 1) := by decide +kernel
theorem dccL_law_493 : decode cL_law 493 = .ok (.invokevirtual 124, 3) := by decide +kernel
theorem dccL_law_496 : decode cL_law 496 = .ok (.istore 6, 2) := by decide +kernel
theorem dccL_law_498 : decode cL_law 498 = .ok (.goto 541, 3) := by decide +kernel
theorem dccL_law_501 : decode cL_law 501 = .ok (.aload_n 1, 1) := by decide +kernel
theorem dccL_law_502 : decode cL_law 502 = .ok (.aload_n 0, 1) := by decide +kernel
theorem dccL_law_503 : decode cL_law 503 = .ok (.iload 4, 2) := by decide +kernel
theorem dccL_law_505 : decode cL_law 505 = .ok (.iconst 1, 1) := by decide +kernel
theorem dccL_law_506 : decode cL_law 506 = .ok (.iadd, 1) := by decide +kernel
theorem dccL_law_507 : decode cL_law 507 = .ok (.iaload, 1) := by decide +kernel
theorem dccL_law_508 : decode cL_law 508 = .ok (.aload_n 0, 1) := by decide +kernel
theorem dccL_law_509 : decode cL_law 509 = .ok (.iload 4, 2) := by decide +kernel
theorem dccL_law_511 : decode cL_law 511 = .ok (.iconst 2, 1) := by decide +kernel
theorem dccL_law_512 : decode cL_law 512 = .ok (.iadd, 1) := by decide +kernel
theorem dccL_law_513 : decode cL_law 513 = .ok (.iaload, 1) := by decide +kernel
theorem dccL_law_514 : decode cL_law 514 = .ok (.aload_n 3, 1) := by decide +kernel
theorem dccL_law_515 : decode cL_law 515 = .ok (.invokestatic 125, 3) := by decide +kernel
theorem dccL_law_518 : decode cL_law 518 = .ok (.istore 5, 2) := by decide +kernel
theorem dccL_law_520 : decode cL_law 520 = .ok (.aload_n 2, 1) := by decide +kernel
theorem dccL_law_521 : decode cL_law 521 = .ok (.aload_n 0, 1) := by decide +kernel
theorem dccL_law_522 : decode cL_law 522 = .ok (.iload 4, 2) := by decide +kernel
theorem dccL_law_524 : decode cL_law 524 = .ok (.iconst 1, 1) := by decide +kernel
theorem dccL_law_525 : decode cL_law 525 = .ok (.iadd, 1) := by decide +kernel
theorem dccL_law_526 : decode cL_law 526 = .ok (.iaload, 1) := by decide +kernel
theorem dccL_law_527 : decode cL_law 527 = .ok (.aload_n 0, 1) := by decide +kernel
theorem dccL_law_528 : decode cL_law 528 = .ok (.iload 4, 2) := by decide +kernel
theorem dccL_law_530 : decode cL_law 530 = .ok (.iconst 2, 1) := by decide +kernel
theorem dccL_law_531 : decode cL_law 531 = .ok (.iadd, 1) := by decide +kernel
theorem dccL_law_532 : decode cL_law 532 = .ok (.iaload, 1) := by decide +kernel
theorem dccL_law_533 : decode cL_law 533 = .ok (.invokevirtual 127, 3) := by decide +kernel
theorem dccL_law_536 : decode cL_law 536 = .ok (.istore 6, 2) := by decide +kernel
theorem dccL_law_538 : decode cL_law 538 = .ok (.goto 501, 3) := by decide +kernel
theorem dccL_law_541 : decode cL_law 541 = .ok (.aload_n 1, 1) := by decide +kernel
theorem dccL_law_542 : decode cL_law 542 = .ok (.aload_n 0, 1) := by decide +kernel
theorem dccL_law_543 : decode cL_law 543 = .ok (.iload 4, 2) := by decide +kernel
theorem dccL_law_545 : decode cL_law 545 = .ok (.iconst 1, 1) := by decide +kernel
theorem dccL_law_546 : decode cL_law 546 = .ok (.iadd, 1) := by decide +kernel
theorem dccL_law_547 : decode cL_law 547 = .ok (.iaload, 1) := by decide +kernel
theorem dccL_law_548 : decode cL_law 548 = .ok (.aload_n 3, 1) := by decide +kernel
theorem dccL_law_549 : decode cL_law 549 = .ok (.invokestatic 128, 3) := by decide +kernel
theorem dccL_law_552 : decode cL_law 552 = .ok (.istore 5, 2) := by decide +kernel
theorem dccL_law_554 : decode cL_law 554 = .ok (.aload_n 2, 1) := by decide +kernel
theorem dccL_law_555 : decode cL_law 555 = .ok (.aload_n 0, 1) := by decide +kernel
theorem dccL_law_556 : decode cL_law 556 = .ok (.iload 4, 2) := by decide +kernel
theorem dccL_law_558 : decode cL_law 558 = .ok (.iconst 1, 1) := by decide +kernel
theorem dccL_law_559 : decode cL_law 559 = .ok (.iadd, 1) := by decide +kernel
theorem dccL_law_560 : decode cL_law 560 = .ok (.iaload, 1) := by decide +kernel
theorem dccL_law_561 : decode cL_law 561 = .ok (.invokevirtual 130, 3) := by decide +kernel
theorem dccL_law_564 : decode cL_law 564 = .ok (.istore 6, 2) := by decide +kernel
theorem dccL_law_566 : decode cL_law 566 = .ok (.goto 473, 3) := by decide +kernel
theorem dccL_law_569 : decode cL_law 569 = .ok (.aload_n 1, 1) := by decide +kernel
theorem dccL_law_570 : decode cL_law 570 = .ok (.aload_n 0, 1) := by decide +kernel
theorem dccL_law_571 : decode cL_law 571 = .ok (.iload 4, 2) := by decide +kernel
theorem dccL_law_573 : decode cL_law 573 = .ok (.iconst 1, 1) := by decide +kernel
theorem dccL_law_574 : decode cL_law 574 = .ok (.iadd, 1) := by decide +kernel
theorem dccL_law_575 : decode cL_law 575 = .ok (.iaload, 1) := by decide +kernel
theorem dccL_law_576 : decode cL_law 576 = .ok (.aload_n 3, 1) := by decide +kernel
theorem dccL_law_577 : decode cL_law 577 = .ok (.invokestatic 131, 3) := by decide +kernel
theorem dccL_law_580 : decode cL_law 580 = .ok (.istore 5, 2) := by decide +kernel
theorem dccL_law_582 : decode cL_law 582 = .ok (.aload_n 2, 1) := by decide +kernel
theorem dccL_law_583 : decode cL_law 583 = .ok (.aload_n 0, 1) := by decide +kernel
theorem dccL_law_584 : decode cL_law 584 = .ok (.iload 4, 2) := by decide +kernel
theorem dccL_law_586 : decode cL_law 586 = .ok (.iconst 1, 1) := by decide +kernel
theorem dccL_law_587 : decode cL_law 587 = .ok (.iadd, 1) := by decide +kernel
theorem dccL_law_588 : decode cL_law 588 = .ok (.iaload, 1) := by decide +kernel
theorem dccL_law_589 : decode cL_law 589 = .ok (.invokevirtual 133, 3) := by decide +kernel
theorem dccL_law_592 : decode cL_law 592 = .ok (.istore 6, 2) := by decide +kernel
theorem dccL_law_594 : decode cL_law 594 = .ok (.goto 445, 3) := by decide +kernel
theorem dccL_law_597 : decode cL_law 597 = .ok (.aload_n 1, 1) := by decide +kernel
theorem dccL_law_598 : decode cL_law 598 = .ok (.aload_n 0, 1) := by decide +kernel
theorem dccL_law_599 : decode cL_law 599 = .ok (.iload 4, 2) := by decide +kernel
theorem dccL_law_601 : decode cL_law 601 = .ok (.iconst 1, 1) := by decide +kernel
theorem dccL_law_602 : decode cL_law 602 = .ok (.iadd, 1) := by decide +kernel
theorem dccL_law_603 : decode cL_law 603 = .ok (.iaload, 1) := by decide +kernel
theorem dccL_law_604 : decode cL_law 604 = .ok (.aload_n 0, 1) := by decide +kernel
theorem dccL_law_605 : decode cL_law 605 = .ok (.iload 4, 2) := by decide +kernel
theorem dccL_law_607 : decode cL_law 607 = .ok (.iconst 2, 1) := by decide +kernel
theorem dccL_law_608 : decode cL_law 608 = .ok (.iadd, 1) := by decide +kernel
theorem dccL_law_609 : decode cL_law 609 = .ok (.iaload, 1) := by decide +kernel
theorem dccL_law_610 : decode cL_law 610 = .ok (.ifCond .eq 7, 3) := by decide +kernel
theorem dccL_law_613 : decode cL_law 613 = .ok (.iconst 1, 1) := by decide +kernel
theorem dccL_law_614 : decode cL_law 614 = .ok (.goto 4, 3) := by decide +kernel
theorem dccL_law_617 : decode cL_law 617 = .ok (.iconst 0, 1) := by decide +kernel
theorem dccL_law_618 : decode cL_law 618 = .ok (.aload_n 3, 1) := by decide +kernel
theorem dccL_law_619 : decode cL_law 619 = .ok (.invokestatic 134, 3) := by decide +kernel
theorem dccL_law_622 : decode cL_law 622 = .ok (.istore 5, 2) := by decide +kernel
theorem dccL_law_624 : decode cL_law 624 = .ok (.aload_n 2, 1) := by decide +kernel
theorem dccL_law_625 : decode cL_law 625 = .ok (.aload_n 0, 1) := by decide +kernel
theorem dccL_law_626 : decode cL_law 626 = .ok (.iload 4, 2) := by decide +kernel
theorem dccL_law_628 : decode cL_law 628 = .ok (.iconst 1, 1) := by decide +kernel
theorem dccL_law_629 : decode cL_law 629 = .ok (.iadd, 1) := by decide +kernel
theorem dccL_law_630 : decode cL_law 630 = .ok (.iaload, 1) := by decide +kernel
theorem dccL_law_631 : decode cL_law 631 = .ok (.aload_n 0, 1) := by decide +kernel
theorem dccL_law_632 : decode cL_law 632 = .ok (.iload 4, 2) := by decide +kernel
theorem dccL_law_634 : decode cL_law 634 = .ok (.iconst 2, 1) := by decide +kernel
theorem dccL_law_635 : decode cL_law 635 = .ok (.iadd, 1) := by decide +kernel
theorem dccL_law_636 : decode cL_law 636 = .ok (.iaload, 1) := by decide +kernel
theorem dccL_law_637 : decode cL_law 637 = .ok (.ifCond .eq 7, 3) := by decide +kernel
theorem dccL_law_640 : decode cL_law 640 = .ok (.iconst 1, 1) := by decide +kernel
theorem dccL_law_641 : decode cL_law 641 = .ok (.goto 4, 3) := by decide +kernel
theorem dccL_law_644 : decode cL_law 644 = .ok (.iconst 0, 1) := by decide +kernel
theorem dccL_law_645 : decode cL_law 645 = .ok (.invokevirtual 137, 3) := by decide +kernel
theorem dccL_law_648 : decode cL_law 648 = .ok (.istore 6, 2) := by decide +kernel
theorem dccL_law_650 : decode cL_law 650 = .ok (.goto 389, 3) := by decide +kernel
theorem dccL_law_653 : decode cL_law 653 = .ok (.aload_n 1, 1) := by decide +kernel
theorem dccL_law_654 : decode cL_law 654 = .ok (.invokevirtual 138, 3) := by decide +kernel
theorem dccL_law_657 : decode cL_law 657 = .ok (.pop, 1) := by decide +kernel
theorem dccL_law_658 : decode cL_law 658 = .ok (.aload_n 2, 1) := by decide +kernel
theorem dccL_law_659 : decode cL_law 659 = .ok (.invokevirtual 141, 3) := by decide +kernel
theorem dccL_law_662 : decode cL_law 662 = .ok (.pop, 1) := by decide +kernel
theorem dccL_law_663 : decode cL_law 663 = .ok (.goto 376, 3) := by decide +kernel
theorem dccL_law_666 : decode cL_law 666 = .ok (.aload_n 1, 1) := by decide +kernel
theorem dccL_law_667 : decode cL_law 667 = .ok (.aload_n 0, 1) := by decide +kernel
theorem dccL_law_668 : decode cL_law 668 = .ok (.iload 4, 2) := by decide +kernel
theorem dccL_law_670 : decode cL_law 670 = .ok (.iconst 1, 1) := by decide +kernel
theorem dccL_law_671 : decode cL_law 671 = .ok (.iadd, 1) := by decide +kernel
theorem dccL_law_672 : decode cL_law 672 = .ok (.iaload, 1) := by decide +kernel
theorem dccL_law_673 : decode cL_law 673 = .ok (.aload_n 0, 1) := by decide +kernel
theorem dccL_law_674 : decode cL_law 674 = .ok (.iload 4, 2) := by decide +kernel
theorem dccL_law_676 : decode cL_law 676 = .ok (.iconst 2, 1) := by decide +kernel
theorem dccL_law_677 : decode cL_law 677 = .ok (.iadd, 1) := by decide +kernel
theorem dccL_law_678 : decode cL_law 678 = .ok (.iaload, 1) := by decide +kernel
theorem dccL_law_679 : decode cL_law 679 = .ok (.aload_n 3, 1) := by decide +kernel
theorem dccL_law_680 : decode cL_law 680 = .ok (.invokestatic 142, 3) := by decide +kernel
theorem dccL_law_683 : decode cL_law 683 = .ok (.istore 5, 2) := by decide +kernel
theorem dccL_law_685 : decode cL_law 685 = .ok (.aload_n 2, 1) := by decide +kernel
theorem dccL_law_686 : decode cL_law 686 = .ok (.aload_n 0, 1) := by decide +kernel
theorem dccL_law_687 : decode cL_law 687 = .ok (.iload 4, 2) := by decide +kernel
theorem dccL_law_689 : decode cL_law 689 = .ok (.iconst 1, 1) := by decide +kernel
theorem dccL_law_690 : decode cL_law 690 = .ok (.iadd, 1) := by decide +kernel
theorem dccL_law_691 : decode cL_law 691 = .ok (.iaload, 1) := by decide +kernel
theorem dccL_law_692 : decode cL_law 692 = .ok (.aload_n 0, 1) := by decide +kernel
theorem dccL_law_693 : decode cL_law 693 = .ok (.iload 4, 2) := by decide +kernel
theorem dccL_law_695 : decode cL_law 695 = .ok (.iconst 2, 1) := by decide +kernel
theorem dccL_law_696 : decode cL_law 696 = .ok (.iadd, 1) := by decide +kernel
theorem dccL_law_697 : decode cL_law 697 = .ok (.iaload, 1) := by decide +kernel
theorem dccL_law_698 : decode cL_law 698 = .ok (.invokevirtual 144, 3) := by decide +kernel
theorem dccL_law_701 : decode cL_law 701 = .ok (.istore 6, 2) := by decide +kernel
theorem dccL_law_703 : decode cL_law 703 = .ok (.goto 336, 3) := by decide +kernel
theorem dccL_law_706 : decode cL_law 706 = .ok (.aload_n 1, 1) := by decide +kernel
theorem dccL_law_707 : decode cL_law 707 = .ok (.aload_n 0, 1) := by decide +kernel
theorem dccL_law_708 : decode cL_law 708 = .ok (.iload 4, 2) := by decide +kernel
theorem dccL_law_710 : decode cL_law 710 = .ok (.iconst 1, 1) := by decide +kernel
theorem dccL_law_711 : decode cL_law 711 = .ok (.iadd, 1) := by decide +kernel
theorem dccL_law_712 : decode cL_law 712 = .ok (.iaload, 1) := by decide +kernel
theorem dccL_law_713 : decode cL_law 713 = .ok (.aload_n 0, 1) := by decide +kernel
theorem dccL_law_714 : decode cL_law 714 = .ok (.iload 4, 2) := by decide +kernel
theorem dccL_law_716 : decode cL_law 716 = .ok (.iconst 2, 1) := by decide +kernel
theorem dccL_law_717 : decode cL_law 717 = .ok (.iadd, 1) := by decide +kernel
theorem dccL_law_718 : decode cL_law 718 = .ok (.iaload, 1) := by decide +kernel
theorem dccL_law_719 : decode cL_law 719 = .ok (.aload_n 3, 1) := by decide +kernel
theorem dccL_law_720 : decode cL_law 720 = .ok (.invokestatic 145, 3) := by decide +kernel
theorem dccL_law_723 : decode cL_law 723 = .ok (.istore 5, 2) := by decide +kernel
theorem dccL_law_725 : decode cL_law 725 = .ok (.aload_n 2, 1) := by decide +kernel
theorem dccL_law_726 : decode cL_law 726 = .ok (.aload_n 0, 1) := by decide +kernel
theorem dccL_law_727 : decode cL_law 727 = .ok (.iload 4, 2) := by decide +kernel
theorem dccL_law_729 : decode cL_law 729 = .ok (.iconst 1, 1) := by decide +kernel
theorem dccL_law_730 : decode cL_law 730 = .ok (.iadd, 1) := by decide +kernel
theorem dccL_law_731 : decode cL_law 731 = .ok (.iaload, 1) := by decide +kernel
theorem dccL_law_732 : decode cL_law 732 = .ok (.aload_n 0, 1) := by decide +kernel
theorem dccL_law_733 : decode cL_law 733 = .ok (.iload 4, 2) := by decide +kernel
theorem dccL_law_735 : decode cL_law 735 = .ok (.iconst 2, 1) := by decide +kernel
theorem dccL_law_736 : decode cL_law 736 = .ok (.iadd, 1) := by decide +kernel
theorem dccL_law_737 : decode cL_law 737 = .ok (.iaload, 1) := by decide +kernel
theorem dccL_law_738 : decode cL_law 738 = .ok (.invokevirtual 147, 3) := by decide +kernel
theorem dccL_law_741 : decode cL_law 741 = .ok (.istore 6, 2) := by decide +kernel
theorem dccL_law_743 : decode cL_law 743 = .ok (.goto 296, 3) := by decide +kernel
theorem dccL_law_746 : decode cL_law 746 = .ok (.aload_n 1, 1) := by decide +kernel
theorem dccL_law_747 : decode cL_law 747 = .ok (.aload_n 0, 1) := by decide +kernel
theorem dccL_law_748 : decode cL_law 748 = .ok (.iload 4, 2) := by decide +kernel
theorem dccL_law_750 : decode cL_law 750 = .ok (.iconst 1, 1) := by decide +kernel
theorem dccL_law_751 : decode cL_law 751 = .ok (.iadd, 1) := by decide +kernel
theorem dccL_law_752 : decode cL_law 752 = .ok (.iaload, 1) := by decide +kernel
theorem dccL_law_753 : decode cL_law 753 = .ok (.aload_n 0, 1) := by decide +kernel
theorem dccL_law_754 : decode cL_law 754 = .ok (.iload 4, 2) := by decide +kernel
theorem dccL_law_756 : decode cL_law 756 = .ok (.iconst 2, 1) := by decide +kernel
theorem dccL_law_757 : decode cL_law 757 = .ok (.iadd, 1) := by decide +kernel
theorem dccL_law_758 : decode cL_law 758 = .ok (.iaload, 1) := by decide +kernel
theorem dccL_law_759 : decode cL_law 759 = .ok (.aload_n 3, 1) := by decide +kernel
theorem dccL_law_760 : decode cL_law 760 = .ok (.invokestatic 148, 3) := by decide +kernel
theorem dccL_law_763 : decode cL_law 763 = .ok (.istore 5, 2) := by decide +kernel
theorem dccL_law_765 : decode cL_law 765 = .ok (.aload_n 2, 1) := by decide +kernel
theorem dccL_law_766 : decode cL_law 766 = .ok (.aload_n 0, 1) := by decide +kernel
theorem dccL_law_767 : decode cL_law 767 = .ok (.iload 4, 2) := by decide +kernel
theorem dccL_law_769 : decode cL_law 769 = .ok (.iconst 1, 1) := by decide +kernel
theorem dccL_law_770 : decode cL_law 770 = .ok (.iadd, 1) := by decide +kernel
theorem dccL_law_771 : decode cL_law 771 = .ok (.iaload, 1) := by decide +kernel
theorem dccL_law_772 : decode cL_law 772 = .ok (.aload_n 0, 1) := by decide +kernel
theorem dccL_law_773 : decode cL_law 773 = .ok (.iload 4, 2) := by decide +kernel
theorem dccL_law_775 : decode cL_law 775 = .ok (.iconst 2, 1) := by decide +kernel
theorem dccL_law_776 : decode cL_law 776 = .ok (.iadd, 1) := by decide +kernel
theorem dccL_law_777 : decode cL_law 777 = .ok (.iaload, 1) := by decide +kernel
theorem dccL_law_778 : decode cL_law 778 = .ok (.invokevirtual 150, 3) := by decide +kernel
theorem dccL_law_781 : decode cL_law 781 = .ok (.istore 6, 2) := by decide +kernel
theorem dccL_law_783 : decode cL_law 783 = .ok (.goto 256, 3) := by decide +kernel
theorem dccL_law_786 : decode cL_law 786 = .ok (.aload_n 1, 1) := by decide +kernel
theorem dccL_law_787 : decode cL_law 787 = .ok (.aload_n 0, 1) := by decide +kernel
theorem dccL_law_788 : decode cL_law 788 = .ok (.iload 4, 2) := by decide +kernel
theorem dccL_law_790 : decode cL_law 790 = .ok (.iconst 1, 1) := by decide +kernel
theorem dccL_law_791 : decode cL_law 791 = .ok (.iadd, 1) := by decide +kernel
theorem dccL_law_792 : decode cL_law 792 = .ok (.iaload, 1) := by decide +kernel
theorem dccL_law_793 : decode cL_law 793 = .ok (.aload_n 0, 1) := by decide +kernel
theorem dccL_law_794 : decode cL_law 794 = .ok (.iload 4, 2) := by decide +kernel
theorem dccL_law_796 : decode cL_law 796 = .ok (.iconst 2, 1) := by decide +kernel
theorem dccL_law_797 : decode cL_law 797 = .ok (.iadd, 1) := by decide +kernel
theorem dccL_law_798 : decode cL_law 798 = .ok (.iaload, 1) := by decide +kernel
theorem dccL_law_799 : decode cL_law 799 = .ok (.aload_n 3, 1) := by decide +kernel
theorem dccL_law_800 : decode cL_law 800 = .ok (.invokestatic 151, 3) := by decide +kernel
theorem dccL_law_803 : decode cL_law 803 = .ok (.istore 5, 2) := by decide +kernel
theorem dccL_law_805 : decode cL_law 805 = .ok (.aload_n 2, 1) := by decide +kernel
theorem dccL_law_806 : decode cL_law 806 = .ok (.aload_n 0, 1) := by decide +kernel
theorem dccL_law_807 : decode cL_law 807 = .ok (.iload 4, 2) := by decide +kernel
theorem dccL_law_809 : decode cL_law 809 = .ok (.iconst 1, 1) := by decide +kernel
theorem dccL_law_810 : decode cL_law 810 = .ok (.iadd, 1) := by decide +kernel
theorem dccL_law_811 : decode cL_law 811 = .ok (.iaload, 1) := by decide +kernel
theorem dccL_law_812 : decode cL_law 812 = .ok (.aload_n 0, 1) := by decide +kernel
theorem dccL_law_813 : decode cL_law 813 = .ok (.iload 4, 2) := by decide +kernel
theorem dccL_law_815 : decode cL_law 815 = .ok (.iconst 2, 1) := by decide +kernel
theorem dccL_law_816 : decode cL_law 816 = .ok (.iadd, 1) := by decide +kernel
theorem dccL_law_817 : decode cL_law 817 = .ok (.iaload, 1) := by decide +kernel
theorem dccL_law_818 : decode cL_law 818 = .ok (.invokevirtual 153, 3) := by decide +kernel
theorem dccL_law_821 : decode cL_law 821 = .ok (.istore 6, 2) := by decide +kernel
theorem dccL_law_823 : decode cL_law 823 = .ok (.goto 216, 3) := by decide +kernel
theorem dccL_law_826 : decode cL_law 826 = .ok (.aload_n 1, 1) := by decide +kernel
theorem dccL_law_827 : decode cL_law 827 = .ok (.aload_n 0, 1) := by decide +kernel
theorem dccL_law_828 : decode cL_law 828 = .ok (.iload 4, 2) := by decide +kernel
theorem dccL_law_830 : decode cL_law 830 = .ok (.iconst 1, 1) := by decide +kernel
theorem dccL_law_831 : decode cL_law 831 = .ok (.iadd, 1) := by decide +kernel
theorem dccL_law_832 : decode cL_law 832 = .ok (.iaload, 1) := by decide +kernel
theorem dccL_law_833 : decode cL_law 833 = .ok (.aload_n 3, 1) := by decide +kernel
theorem dccL_law_834 : decode cL_law 834 = .ok (.invokestatic 154, 3) := by decide +kernel
theorem dccL_law_837 : decode cL_law 837 = .ok (.istore 5, 2) := by decide +kernel
theorem dccL_law_839 : decode cL_law 839 = .ok (.aload_n 2, 1) := by decide +kernel
theorem dccL_law_840 : decode cL_law 840 = .ok (.aload_n 0, 1) := by decide +kernel
theorem dccL_law_841 : decode cL_law 841 = .ok (.iload 4, 2) := by decide +kernel
theorem dccL_law_843 : decode cL_law 843 = .ok (.iconst 1, 1) := by decide +kernel
theorem dccL_law_844 : decode cL_law 844 = .ok (.iadd, 1) := by decide +kernel
theorem dccL_law_845 : decode cL_law 845 = .ok (.iaload, 1) := by decide +kernel
theorem dccL_law_846 : decode cL_law 846 = .ok (.invokevirtual 156, 3) := by decide +kernel
theorem dccL_law_849 : decode cL_law 849 = .ok (.istore 6, 2) := by decide +kernel
theorem dccL_law_851 : decode cL_law 851 = .ok (.goto 188, 3) := by decide +kernel
theorem dccL_law_854 : decode cL_law 854 = .ok (.aload_n 1, 1) := by decide +kernel
theorem dccL_law_855 : decode cL_law 855 = .ok (.invokevirtual 157, 3) := by decide +kernel
theorem dccL_law_858 : decode cL_law 858 = .ok (.pop, 1) := by decide +kernel
theorem dccL_law_859 : decode cL_law 859 = .ok (.aload_n 2, 1) := by decide +kernel
theorem dccL_law_860 : decode cL_law 860 = .ok (.invokevirtual 161, 3) := by decide +kernel
theorem dccL_law_863 : decode cL_law 863 = .ok (.pop, 1) := by decide +kernel
theorem dccL_law_864 : decode cL_law 864 = .ok (.goto 175, 3) := by decide +kernel
theorem dccL_law_867 : decode cL_law 867 = .ok (.aload_n 1, 1) := by decide +kernel
theorem dccL_law_868 : decode cL_law 868 = .ok (.aload_n 0, 1) := by decide +kernel
theorem dccL_law_869 : decode cL_law 869 = .ok (.iload 4, 2) := by decide +kernel
theorem dccL_law_871 : decode cL_law 871 = .ok (.iconst 1, 1) := by decide +kernel
theorem dccL_law_872 : decode cL_law 872 = .ok (.iadd, 1) := by decide +kernel
theorem dccL_law_873 : decode cL_law 873 = .ok (.iaload, 1) := by decide +kernel
theorem dccL_law_874 : decode cL_law 874 = .ok (.aload_n 3, 1) := by decide +kernel
theorem dccL_law_875 : decode cL_law 875 = .ok (.invokestatic 162, 3) := by decide +kernel
theorem dccL_law_878 : decode cL_law 878 = .ok (.istore 5, 2) := by decide +kernel
theorem dccL_law_880 : decode cL_law 880 = .ok (.aload_n 2, 1) := by decide +kernel
theorem dccL_law_881 : decode cL_law 881 = .ok (.aload_n 0, 1) := by decide +kernel
theorem dccL_law_882 : decode cL_law 882 = .ok (.iload 4, 2) := by decide +kernel
theorem dccL_law_884 : decode cL_law 884 = .ok (.iconst 1, 1) := by decide +kernel
theorem dccL_law_885 : decode cL_law 885 = .ok (.iadd, 1) := by decide +kernel
theorem dccL_law_886 : decode cL_law 886 = .ok (.iaload, 1) := by decide +kernel
theorem dccL_law_887 : decode cL_law 887 = .ok (.invokevirtual 164, 3) := by decide +kernel
theorem dccL_law_890 : decode cL_law 890 = .ok (.istore 6, 2) := by decide +kernel
theorem dccL_law_892 : decode cL_law 892 = .ok (.goto 147, 3) := by decide +kernel
theorem dccL_law_895 : decode cL_law 895 = .ok (.aload_n 1, 1) := by decide +kernel
theorem dccL_law_896 : decode cL_law 896 = .ok (.invokevirtual 165, 3) := by decide +kernel
theorem dccL_law_899 : decode cL_law 899 = .ok (.pop, 1) := by decide +kernel
theorem dccL_law_900 : decode cL_law 900 = .ok (.aload_n 2, 1) := by decide +kernel
theorem dccL_law_901 : decode cL_law 901 = .ok (.invokevirtual 168, 3) := by decide +kernel
theorem dccL_law_904 : decode cL_law 904 = .ok (.pop, 1) := by decide +kernel
theorem dccL_law_905 : decode cL_law 905 = .ok (.goto 134, 3) := by decide +kernel
theorem dccL_law_908 : decode cL_law 908 = .ok (.aload_n 1, 1) := by decide +kernel
theorem dccL_law_909 : decode cL_law 909 = .ok (.aload_n 0, 1) := by decide +kernel
theorem dccL_law_910 : decode cL_law 910 = .ok (.iload 4, 2) := by decide +kernel
theorem dccL_law_912 : decode cL_law 912 = .ok (.iconst 1, 1) := by decide +kernel
theorem dccL_law_913 : decode cL_law 913 = .ok (.iadd, 1) := by decide +kernel
theorem dccL_law_914 : decode cL_law 914 = .ok (.iaload, 1) := by decide +kernel
theorem dccL_law_915 : decode cL_law 915 = .ok (.invokevirtual 169, 3) := by decide +kernel
theorem dccL_law_918 : decode cL_law 918 = .ok (.pop, 1) := by decide +kernel
theorem dccL_law_919 : decode cL_law 919 = .ok (.aload_n 2, 1) := by decide +kernel
theorem dccL_law_920 : decode cL_law 920 = .ok (.aload_n 0, 1) := by decide +kernel
theorem dccL_law_921 : decode cL_law 921 = .ok (.iload 4, 2) := by decide +kernel
theorem dccL_law_923 : decode cL_law 923 = .ok (.iconst 1, 1) := by decide +kernel
theorem dccL_law_924 : decode cL_law 924 = .ok (.iadd, 1) := by decide +kernel
theorem dccL_law_925 : decode cL_law 925 = .ok (.iaload, 1) := by decide +kernel
theorem dccL_law_926 : decode cL_law 926 = .ok (.invokevirtual 172, 3) := by decide +kernel
theorem dccL_law_929 : decode cL_law 929 = .ok (.pop, 1) := by decide +kernel
theorem dccL_law_930 : decode cL_law 930 = .ok (.goto 109, 3) := by decide +kernel
theorem dccL_law_933 : decode cL_law 933 = .ok (.aload_n 1, 1) := by decide +kernel
theorem dccL_law_934 : decode cL_law 934 = .ok (.aload_n 0, 1) := by decide +kernel
theorem dccL_law_935 : decode cL_law 935 = .ok (.iload 4, 2) := by decide +kernel
theorem dccL_law_937 : decode cL_law 937 = .ok (.iconst 1, 1) := by decide +kernel
