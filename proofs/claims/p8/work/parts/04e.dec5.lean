theorem dccX7_isBetterForAny_43 : decode cX7_isBetterForAny 43 = .ok (.ireturn, 1) := by decide +kernel
theorem dccX7_isBetterForAny_44 : decode cX7_isBetterForAny 44 = .ok (.iinc 2 1, 3) := by decide +kernel
theorem dccX7_isBetterForAny_47 : decode cX7_isBetterForAny 47 = .ok (.goto (-45), 3) := by decide +kernel
theorem dccX7_isBetterForAny_50 : decode cX7_isBetterForAny 50 = .ok (.iconst 0, 1) := by decide +kernel
theorem dccX7_isBetterForAny_51 : decode cX7_isBetterForAny 51 = .ok (.ireturn, 1) := by decide +kernel
theorem dccX7_isContested_0 : decode cX7_isContested 0 = .ok (.iconst 0, 1) := by decide +kernel
theorem dccX7_isContested_1 : decode cX7_isContested 1 = .ok (.istore_n 1, 1) := by decide +kernel
theorem dccX7_isContested_2 : decode cX7_isContested 2 = .ok (.iload_n 1, 1) := by decide +kernel
theorem dccX7_isContested_3 : decode cX7_isContested 3 = .ok (.aload_n 0, 1) := by decide +kernel
theorem dccX7_isContested_4 : decode cX7_isContested 4 = .ok (.getfield 17, 3) := by decide +kernel
theorem dccX7_isContested_7 : decode cX7_isContested 7 = .ok (.invokevirtual 33, 3) := by decide +kernel
theorem dccX7_isContested_10 : decode cX7_isContested 10 = .ok (.if_icmp .ge 55, 3) := by decide +kernel
theorem dccX7_isContested_13 : decode cX7_isContested 13 = .ok (.aload_n 0, 1) := by decide +kernel
theorem dccX7_isContested_14 : decode cX7_isContested 14 = .ok (.getfield 17, 3) := by decide +kernel
theorem dccX7_isContested_17 : decode cX7_isContested 17 = .ok (.iload_n 1, 1) := by decide +kernel
theorem dccX7_isContested_18 : decode cX7_isContested 18 = .ok (.invokevirtual 39, 3) := by decide +kernel
theorem dccX7_isContested_21 : decode cX7_isContested 21 = .ok (.checkcast 25, 3) := by decide +kernel
theorem dccX7_isContested_24 : decode cX7_isContested 24 = .ok (.getfield 43, 3) := by decide +kernel
theorem dccX7_isContested_27 : decode cX7_isContested 27 = .ok (.iconst 1, 1) := by decide +kernel
theorem dccX7_isContested_28 : decode cX7_isContested 28 = .ok (.if_icmp .ne 31, 3) := by decide +kernel
theorem dccX7_isContested_31 : decode cX7_isContested 31 = .ok (.aload_n 0, 1) := by decide +kernel
theorem dccX7_isContested_32 : decode cX7_isContested 32 = .ok (.iload_n 1, 1) := by decide +kernel
theorem dccX7_isContested_33 : decode cX7_isContested 33 = .ok (.invokevirtual 71, 3) := by decide +kernel
theorem dccX7_isContested_36 : decode cX7_isContested 36 = .ok (.ifCond .ne 21, 3) := by decide +kernel
theorem dccX7_isContested_39 : decode cX7_isContested 39 = .ok (.aload_n 0, 1) := by decide +kernel
theorem dccX7_isContested_40 : decode cX7_isContested 40 = .ok (.aload_n 0, 1) := by decide +kernel
theorem dccX7_isContested_41 : decode cX7_isContested 41 = .ok (.getfield 17, 3) := by decide +kernel
theorem dccX7_isContested_44 : decode cX7_isContested 44 = .ok (.iload_n 1, 1) := by decide +kernel
theorem dccX7_isContested_45 : decode cX7_isContested 45 = .ok (.invokevirtual 39, 3) := by decide +kernel
theorem dccX7_isContested_48 : decode cX7_isContested 48 = .ok (.checkcast 25, 3) := by decide +kernel
theorem dccX7_isContested_51 : decode cX7_isContested 51 = .ok (.invokevirtual 75, 3) := by decide +kernel
theorem dccX7_isContested_54 : decode cX7_isContested 54 = .ok (.ifCond .eq 5, 3) := by decide +kernel
theorem dccX7_isContested_57 : decode cX7_isContested 57 = .ok (.iconst 1, 1) := by decide +kernel
theorem dccX7_isContested_58 : decode cX7_isContested 58 = .ok (.ireturn, 1) := by decide +kernel
theorem dccX7_isContested_59 : decode cX7_isContested 59 = .ok (.iinc 1 1, 3) := by decide +kernel
theorem dccX7_isContested_62 : decode cX7_isContested 62 = .ok (.goto (-60), 3) := by decide +kernel
theorem dccX7_isContested_65 : decode cX7_isContested 65 = .ok (.iconst 0, 1) := by decide +kernel
theorem dccX7_isContested_66 : decode cX7_isContested 66 = .ok (.ireturn, 1) := by decide +kernel
theorem dccX7_isWithinRooms_0 : decode cX7_isWithinRooms 0 = .ok (.iconst 0, 1) := by decide +kernel
theorem dccX7_isWithinRooms_1 : decode cX7_isWithinRooms 1 = .ok (.istore_n 1, 1) := by decide +kernel
theorem dccX7_isWithinRooms_2 : decode cX7_isWithinRooms 2 = .ok (.iload_n 1, 1) := by decide +kernel
theorem dccX7_isWithinRooms_3 : decode cX7_isWithinRooms 3 = .ok (.aload_n 0, 1) := by decide +kernel
theorem dccX7_isWithinRooms_4 : decode cX7_isWithinRooms 4 = .ok (.getfield 21, 3) := by decide +kernel
theorem dccX7_isWithinRooms_7 : decode cX7_isWithinRooms 7 = .ok (.invokevirtual 33, 3) := by decide +kernel
theorem dccX7_isWithinRooms_10 : decode cX7_isWithinRooms 10 = .ok (.if_icmp .ge 38, 3) := by decide +kernel
theorem dccX7_isWithinRooms_13 : decode cX7_isWithinRooms 13 = .ok (.aload_n 0, 1) := by decide +kernel
theorem dccX7_isWithinRooms_14 : decode cX7_isWithinRooms 14 = .ok (.getfield 21, 3) := by decide +kernel
theorem dccX7_isWithinRooms_17 : decode cX7_isWithinRooms 17 = .ok (.iload_n 1, 1) := by decide +kernel
theorem dccX7_isWithinRooms_18 : decode cX7_isWithinRooms 18 = .ok (.invokevirtual 39, 3) := by decide +kernel
theorem dccX7_isWithinRooms_21 : decode cX7_isWithinRooms 21 = .ok (.checkcast 9, 3) := by decide +kernel
theorem dccX7_isWithinRooms_24 : decode cX7_isWithinRooms 24 = .ok (.astore_n 2, 1) := by decide +kernel
theorem dccX7_isWithinRooms_25 : decode cX7_isWithinRooms 25 = .ok (.aload_n 0, 1) := by decide +kernel
theorem dccX7_isWithinRooms_26 : decode cX7_isWithinRooms 26 = .ok (.aload_n 2, 1) := by decide +kernel
theorem dccX7_isWithinRooms_27 : decode cX7_isWithinRooms 27 = .ok (.invokevirtual 50, 3) := by decide +kernel
theorem dccX7_isWithinRooms_30 : decode cX7_isWithinRooms 30 = .ok (.invokestatic 54, 3) := by decide +kernel
theorem dccX7_isWithinRooms_33 : decode cX7_isWithinRooms 33 = .ok (.aload_n 2, 1) := by decide +kernel
theorem dccX7_isWithinRooms_34 : decode cX7_isWithinRooms 34 = .ok (.getfield 60, 3) := by decide +kernel
theorem dccX7_isWithinRooms_37 : decode cX7_isWithinRooms 37 = .ok (.if_icmp .le 5, 3) := by decide +kernel
theorem dccX7_isWithinRooms_40 : decode cX7_isWithinRooms 40 = .ok (.iconst 0, 1) := by decide +kernel
theorem dccX7_isWithinRooms_41 : decode cX7_isWithinRooms 41 = .ok (.ireturn, 1) := by decide +kernel
theorem dccX7_isWithinRooms_42 : decode cX7_isWithinRooms 42 = .ok (.iinc 1 1, 3) := by decide +kernel
theorem dccX7_isWithinRooms_45 : decode cX7_isWithinRooms 45 = .ok (.goto (-43), 3) := by decide +kernel
theorem dccX7_isWithinRooms_48 : decode cX7_isWithinRooms 48 = .ok (.iconst 1, 1) := by decide +kernel
theorem dccX7_isWithinRooms_49 : decode cX7_isWithinRooms 49 = .ok (.ireturn, 1) := by decide +kernel
theorem dccX7_leastOf_0 : decode cX7_leastOf 0 = .ok (.aconst_null, 1) := by decide +kernel
theorem dccX7_leastOf_1 : decode cX7_leastOf 1 = .ok (.astore_n 2, 1) := by decide +kernel
theorem dccX7_leastOf_2 : decode cX7_leastOf 2 = .ok (.iconst 0, 1) := by decide +kernel
theorem dccX7_leastOf_3 : decode cX7_leastOf 3 = .ok (.istore_n 3, 1) := by decide +kernel
theorem dccX7_leastOf_4 : decode cX7_leastOf 4 = .ok (.iload_n 3, 1) := by decide +kernel
theorem dccX7_leastOf_5 : decode cX7_leastOf 5 = .ok (.aload_n 0, 1) := by decide +kernel
theorem dccX7_leastOf_6 : decode cX7_leastOf 6 = .ok (.getfield 17, 3) := by decide +kernel
theorem dccX7_leastOf_9 : decode cX7_leastOf 9 = .ok (.invokevirtual 33, 3) := by decide +kernel
theorem dccX7_leastOf_12 : decode cX7_leastOf 12 = .ok (.if_icmp .ge 48, 3) := by decide +kernel
theorem dccX7_leastOf_15 : decode cX7_leastOf 15 = .ok (.aload_n 0, 1) := by decide +kernel
theorem dccX7_leastOf_16 : decode cX7_leastOf 16 = .ok (.getfield 17, 3) := by decide +kernel
theorem dccX7_leastOf_19 : decode cX7_leastOf 19 = .ok (.iload_n 3, 1) := by decide +kernel
theorem dccX7_leastOf_20 : decode cX7_leastOf 20 = .ok (.invokevirtual 39, 3) := by decide +kernel
theorem dccX7_leastOf_23 : decode cX7_leastOf 23 = .ok (.checkcast 25, 3) := by decide +kernel
theorem dccX7_leastOf_26 : decode cX7_leastOf 26 = .ok (.astore 4, 2) := by decide +kernel
theorem dccX7_leastOf_28 : decode cX7_leastOf 28 = .ok (.aload_n 0, 1) := by decide +kernel
theorem dccX7_leastOf_29 : decode cX7_leastOf 29 = .ok (.aload 4, 2) := by decide +kernel
theorem dccX7_leastOf_31 : decode cX7_leastOf 31 = .ok (.invokevirtual 63, 3) := by decide +kernel
theorem dccX7_leastOf_34 : decode cX7_leastOf 34 = .ok (.aload_n 1, 1) := by decide +kernel
theorem dccX7_leastOf_35 : decode cX7_leastOf 35 = .ok (.if_acmp .ne 19, 3) := by decide +kernel
theorem dccX7_leastOf_38 : decode cX7_leastOf 38 = .ok (.aload_n 2, 1) := by decide +kernel
theorem dccX7_leastOf_39 : decode cX7_leastOf 39 = .ok (.ifnull 12, 3) := by decide +kernel
theorem dccX7_leastOf_42 : decode cX7_leastOf 42 = .ok (.aload_n 2, 1) := by decide +kernel
theorem dccX7_leastOf_43 : decode cX7_leastOf 43 = .ok (.aload 4, 2) := by decide +kernel
theorem dccX7_leastOf_45 : decode cX7_leastOf 45 = .ok (.invokevirtual 67, 3) := by decide +kernel
theorem dccX7_leastOf_48 : decode cX7_leastOf 48 = .ok (.ifCond .eq 6, 3) := by decide +kernel
theorem dccX7_leastOf_51 : decode cX7_leastOf 51 = .ok (.aload 4, 2) := by decide +kernel
theorem dccX7_leastOf_53 : decode cX7_leastOf 53 = .ok (.astore_n 2, 1) := by decide +kernel
theorem dccX7_leastOf_54 : decode cX7_leastOf 54 = .ok (.iinc 3 1, 3) := by decide +kernel
theorem dccX7_leastOf_57 : decode cX7_leastOf 57 = .ok (.goto (-53), 3) := by decide +kernel
theorem dccX7_leastOf_60 : decode cX7_leastOf 60 = .ok (.aload_n 2, 1) := by decide +kernel
theorem dccX7_leastOf_61 : decode cX7_leastOf 61 = .ok (.areturn, 1) := by decide +kernel
theorem dccX7_put_0 : decode cX7_put 0 = .ok (.aload_n 1, 1) := by decide +kernel
theorem dccX7_put_1 : decode cX7_put 1 = .ok (.getfield 24, 3) := by decide +kernel
theorem dccX7_put_4 : decode cX7_put 4 = .ok (.ifCond .lt 25, 3) := by decide +kernel
theorem dccX7_put_7 : decode cX7_put 7 = .ok (.aload_n 1, 1) := by decide +kernel
theorem dccX7_put_8 : decode cX7_put 8 = .ok (.getfield 24, 3) := by decide +kernel
theorem dccX7_put_11 : decode cX7_put 11 = .ok (.aload_n 0, 1) := by decide +kernel
theorem dccX7_put_12 : decode cX7_put 12 = .ok (.getfield 11, 3) := by decide +kernel
theorem dccX7_put_15 : decode cX7_put 15 = .ok (.arraylength, 1) := by decide +kernel
theorem dccX7_put_16 : decode cX7_put 16 = .ok (.if_icmp .ge 13, 3) := by decide +kernel
theorem dccX7_put_19 : decode cX7_put 19 = .ok (.aload_n 0, 1) := by decide +kernel
theorem dccX7_put_20 : decode cX7_put 20 = .ok (.getfield 11, 3) := by decide +kernel
theorem dccX7_put_23 : decode cX7_put 23 = .ok (.aload_n 1, 1) := by decide +kernel
theorem dccX7_put_24 : decode cX7_put 24 = .ok (.getfield 24, 3) := by decide +kernel
theorem dccX7_put_27 : decode cX7_put 27 = .ok (.aload_n 2, 1) := by decide +kernel
theorem dccX7_put_28 : decode cX7_put 28 = .ok (.aastore, 1) := by decide +kernel
theorem dccX7_put_29 : decode cX7_put 29 = .ok (.return_, 1) := by decide +kernel
theorem dccX7_read_0 : decode cX7_read 0 = .ok (.aload_n 0, 1) := by decide +kernel
theorem dccX7_read_1 : decode cX7_read 1 = .ok (.invokevirtual 30, 3) := by decide +kernel
theorem dccX7_read_4 : decode cX7_read 4 = .ok (.iload_n 1, 1) := by decide +kernel
theorem dccX7_read_5 : decode cX7_read 5 = .ok (.istore_n 2, 1) := by decide +kernel
theorem dccX7_read_6 : decode cX7_read 6 = .ok (.aload_n 0, 1) := by decide +kernel
theorem dccX7_read_7 : decode cX7_read 7 = .ok (.getfield 17, 3) := by decide +kernel
theorem dccX7_read_10 : decode cX7_read 10 = .ok (.invokevirtual 33, 3) := by decide +kernel
theorem dccX7_read_13 : decode cX7_read 13 = .ok (.iconst 1, 1) := by decide +kernel
theorem dccX7_read_14 : decode cX7_read 14 = .ok (.isub, 1) := by decide +kernel
theorem dccX7_read_15 : decode cX7_read 15 = .ok (.istore_n 3, 1) := by decide +kernel
theorem dccX7_read_16 : decode cX7_read 16 = .ok (.iload_n 3, 1) := by decide +kernel
theorem dccX7_read_17 : decode cX7_read 17 = .ok (.ifCond .lt 90, 3) := by decide +kernel
theorem dccX7_read_20 : decode cX7_read 20 = .ok (.aload_n 0, 1) := by decide +kernel
theorem dccX7_read_21 : decode cX7_read 21 = .ok (.getfield 17, 3) := by decide +kernel
theorem dccX7_read_24 : decode cX7_read 24 = .ok (.iload_n 3, 1) := by decide +kernel
theorem dccX7_read_25 : decode cX7_read 25 = .ok (.invokevirtual 39, 3) := by decide +kernel
theorem dccX7_read_28 : decode cX7_read 28 = .ok (.checkcast 25, 3) := by decide +kernel
theorem dccX7_read_31 : decode cX7_read 31 = .ok (.astore 4, 2) := by decide +kernel
theorem dccX7_read_33 : decode cX7_read 33 = .ok (.aload 4, 2) := by decide +kernel
theorem dccX7_read_35 : decode cX7_read 35 = .ok (.getfield 43, 3) := by decide +kernel
theorem dccX7_read_38 : decode cX7_read 38 = .ok (.iconst 1, 1) := by decide +kernel
theorem dccX7_read_39 : decode cX7_read 39 = .ok (.if_icmp .ne 62, 3) := by decide +kernel
theorem dccX7_read_42 : decode cX7_read 42 = .ok (.iload_n 2, 1) := by decide +kernel
theorem dccX7_read_43 : decode cX7_read 43 = .ok (.bipush 10, 2) := by decide +kernel
theorem dccX7_read_45 : decode cX7_read 45 = .ok (.irem, 1) := by decide +kernel
theorem dccX7_read_46 : decode cX7_read 46 = .ok (.istore 5, 2) := by decide +kernel
theorem dccX7_read_48 : decode cX7_read 48 = .ok (.iload 5, 2) := by decide +kernel
theorem dccX7_read_50 : decode cX7_read 50 = .ok (.ifCond .lt 15, 3) := by decide +kernel
theorem dccX7_read_53 : decode cX7_read 53 = .ok (.iload 5, 2) := by decide +kernel
theorem dccX7_read_55 : decode cX7_read 55 = .ok (.aload_n 0, 1) := by decide +kernel
theorem dccX7_read_56 : decode cX7_read 56 = .ok (.getfield 21, 3) := by decide +kernel
theorem dccX7_read_59 : decode cX7_read 59 = .ok (.invokevirtual 33, 3) := by decide +kernel
theorem dccX7_read_62 : decode cX7_read 62 = .ok (.if_icmp .le 5, 3) := by decide +kernel
theorem dccX7_read_65 : decode cX7_read 65 = .ok (.iconst 0, 1) := by decide +kernel
theorem dccX7_read_66 : decode cX7_read 66 = .ok (.ireturn, 1) := by decide +kernel
theorem dccX7_read_67 : decode cX7_read 67 = .ok (.aload_n 0, 1) := by decide +kernel
theorem dccX7_read_68 : decode cX7_read 68 = .ok (.aload 4, 2) := by decide +kernel
theorem dccX7_read_70 : decode cX7_read 70 = .ok (.iload 5, 2) := by decide +kernel
theorem dccX7_read_72 : decode cX7_read 72 = .ok (.ifCond .ne 7, 3) := by decide +kernel
theorem dccX7_read_75 : decode cX7_read 75 = .ok (.aconst_null, 1) := by decide +kernel
theorem dccX7_read_76 : decode cX7_read 76 = .ok (.goto 17, 3) := by decide +kernel
theorem dccX7_read_79 : decode cX7_read 79 = .ok (.aload_n 0, 1) := by decide +kernel
theorem dccX7_read_80 : decode cX7_read 80 = .ok (.getfield 21, 3) := by decide +kernel
theorem dccX7_read_83 : decode cX7_read 83 = .ok (.iload 5, 2) := by decide +kernel
theorem dccX7_read_85 : decode cX7_read 85 = .ok (.iconst 1, 1) := by decide +kernel
theorem dccX7_read_86 : decode cX7_read 86 = .ok (.isub, 1) := by decide +kernel
theorem dccX7_read_87 : decode cX7_read 87 = .ok (.invokevirtual 39, 3) := by decide +kernel
theorem dccX7_read_90 : decode cX7_read 90 = .ok (.checkcast 9, 3) := by decide +kernel
theorem dccX7_read_93 : decode cX7_read 93 = .ok (.invokevirtual 46, 3) := by decide +kernel
theorem dccX7_read_96 : decode cX7_read 96 = .ok (.iload_n 2, 1) := by decide +kernel
theorem dccX7_read_97 : decode cX7_read 97 = .ok (.bipush 10, 2) := by decide +kernel
theorem dccX7_read_99 : decode cX7_read 99 = .ok (.idiv, 1) := by decide +kernel
theorem dccX7_read_100 : decode cX7_read 100 = .ok (.istore_n 2, 1) := by decide +kernel
theorem dccX7_read_101 : decode cX7_read 101 = .ok (.iinc 3 (-1), 3) := by decide +kernel
theorem dccX7_read_104 : decode cX7_read 104 = .ok (.goto (-88), 3) := by decide +kernel
theorem dccX7_read_107 : decode cX7_read 107 = .ok (.iload_n 2, 1) := by decide +kernel
theorem dccX7_read_108 : decode cX7_read 108 = .ok (.ifCond .ne 7, 3) := by decide +kernel
theorem dccX7_read_111 : decode cX7_read 111 = .ok (.iconst 1, 1) := by decide +kernel
theorem dccX7_read_112 : decode cX7_read 112 = .ok (.goto 4, 3) := by decide +kernel
theorem dccX7_read_115 : decode cX7_read 115 = .ok (.iconst 0, 1) := by decide +kernel
theorem dccX7_read_116 : decode cX7_read 116 = .ok (.ireturn, 1) := by decide +kernel
theorem dccX7_wantsEmptyRoom_0 : decode cX7_wantsEmptyRoom 0 = .ok (.iconst 0, 1) := by decide +kernel
theorem dccX7_wantsEmptyRoom_1 : decode cX7_wantsEmptyRoom 1 = .ok (.istore_n 2, 1) := by decide +kernel
theorem dccX7_wantsEmptyRoom_2 : decode cX7_wantsEmptyRoom 2 = .ok (.iload_n 2, 1) := by decide +kernel
theorem dccX7_wantsEmptyRoom_3 : decode cX7_wantsEmptyRoom 3 = .ok (.aload_n 0, 1) := by decide +kernel
theorem dccX7_wantsEmptyRoom_4 : decode cX7_wantsEmptyRoom 4 = .ok (.getfield 21, 3) := by decide +kernel
theorem dccX7_wantsEmptyRoom_7 : decode cX7_wantsEmptyRoom 7 = .ok (.invokevirtual 33, 3) := by decide +kernel
theorem dccX7_wantsEmptyRoom_10 : decode cX7_wantsEmptyRoom 10 = .ok (.if_icmp .ge 44, 3) := by decide +kernel
theorem dccX7_wantsEmptyRoom_13 : decode cX7_wantsEmptyRoom 13 = .ok (.aload_n 0, 1) := by decide +kernel
theorem dccX7_wantsEmptyRoom_14 : decode cX7_wantsEmptyRoom 14 = .ok (.getfield 21, 3) := by decide +kernel
theorem dccX7_wantsEmptyRoom_17 : decode cX7_wantsEmptyRoom 17 = .ok (.iload_n 2, 1) := by decide +kernel
theorem dccX7_wantsEmptyRoom_18 : decode cX7_wantsEmptyRoom 18 = .ok (.invokevirtual 39, 3) := by decide +kernel
theorem dccX7_wantsEmptyRoom_21 : decode cX7_wantsEmptyRoom 21 = .ok (.checkcast 9, 3) := by decide +kernel
theorem dccX7_wantsEmptyRoom_24 : decode cX7_wantsEmptyRoom 24 = .ok (.astore_n 3, 1) := by decide +kernel
theorem dccX7_wantsEmptyRoom_25 : decode cX7_wantsEmptyRoom 25 = .ok (.aload_n 1, 1) := by decide +kernel
theorem dccX7_wantsEmptyRoom_26 : decode cX7_wantsEmptyRoom 26 = .ok (.aload_n 3, 1) := by decide +kernel
theorem dccX7_wantsEmptyRoom_27 : decode cX7_wantsEmptyRoom 27 = .ok (.aload_n 0, 1) := by decide +kernel
theorem dccX7_wantsEmptyRoom_28 : decode cX7_wantsEmptyRoom 28 = .ok (.aload_n 1, 1) := by decide +kernel
theorem dccX7_wantsEmptyRoom_29 : decode cX7_wantsEmptyRoom 29 = .ok (.invokevirtual 63, 3) := by decide +kernel
theorem dccX7_wantsEmptyRoom_32 : decode cX7_wantsEmptyRoom 32 = .ok (.invokevirtual 78, 3) := by decide +kernel
theorem dccX7_wantsEmptyRoom_35 : decode cX7_wantsEmptyRoom 35 = .ok (.ifCond .eq 13, 3) := by decide +kernel
theorem dccX7_wantsEmptyRoom_38 : decode cX7_wantsEmptyRoom 38 = .ok (.aload_n 0, 1) := by decide +kernel
theorem dccX7_wantsEmptyRoom_39 : decode cX7_wantsEmptyRoom 39 = .ok (.aload_n 3, 1) := by decide +kernel
theorem dccX7_wantsEmptyRoom_40 : decode cX7_wantsEmptyRoom 40 = .ok (.invokevirtual 82, 3) := by decide +kernel
theorem dccX7_wantsEmptyRoom_43 : decode cX7_wantsEmptyRoom 43 = .ok (.ifCond .eq 5, 3) := by decide +kernel
theorem dccX7_wantsEmptyRoom_46 : decode cX7_wantsEmptyRoom 46 = .ok (.iconst 1, 1) := by decide +kernel
theorem dccX7_wantsEmptyRoom_47 : decode cX7_wantsEmptyRoom 47 = .ok (.ireturn, 1) := by decide +kernel
theorem dccX7_wantsEmptyRoom_48 : decode cX7_wantsEmptyRoom 48 = .ok (.iinc 2 1, 3) := by decide +kernel
theorem dccX7_wantsEmptyRoom_51 : decode cX7_wantsEmptyRoom 51 = .ok (.goto (-49), 3) := by decide +kernel
theorem dccX7_wantsEmptyRoom_54 : decode cX7_wantsEmptyRoom 54 = .ok (.iconst 0, 1) := by decide +kernel
theorem dccX7_wantsEmptyRoom_55 : decode cX7_wantsEmptyRoom 55 = .ok (.ireturn, 1) := by decide +kernel
theorem dccX8_atHomeIn_0 : decode cX8_atHomeIn 0 = .ok (.iconst 0, 1) := by decide +kernel
theorem dccX8_atHomeIn_1 : decode cX8_atHomeIn 1 = .ok (.istore_n 2, 1) := by decide +kernel
theorem dccX8_atHomeIn_2 : decode cX8_atHomeIn 2 = .ok (.iconst 0, 1) := by decide +kernel
theorem dccX8_atHomeIn_3 : decode cX8_atHomeIn 3 = .ok (.istore_n 3, 1) := by decide +kernel
theorem dccX8_atHomeIn_4 : decode cX8_atHomeIn 4 = .ok (.iload_n 3, 1) := by decide +kernel
theorem dccX8_atHomeIn_5 : decode cX8_atHomeIn 5 = .ok (.aload_n 0, 1) := by decide +kernel
theorem dccX8_atHomeIn_6 : decode cX8_atHomeIn 6 = .ok (.getfield 22, 3) := by decide +kernel
theorem dccX8_atHomeIn_9 : decode cX8_atHomeIn 9 = .ok (.invokevirtual 26, 3) := by decide +kernel
theorem dccX8_atHomeIn_12 : decode cX8_atHomeIn 12 = .ok (.if_icmp .ge 50, 3) := by decide +kernel
theorem dccX8_atHomeIn_15 : decode cX8_atHomeIn 15 = .ok (.aload_n 0, 1) := by decide +kernel
theorem dccX8_atHomeIn_16 : decode cX8_atHomeIn 16 = .ok (.getfield 22, 3) := by decide +kernel
theorem dccX8_atHomeIn_19 : decode cX8_atHomeIn 19 = .ok (.iload_n 3, 1) := by decide +kernel
theorem dccX8_atHomeIn_20 : decode cX8_atHomeIn 20 = .ok (.invokevirtual 32, 3) := by decide +kernel
theorem dccX8_atHomeIn_23 : decode cX8_atHomeIn 23 = .ok (.checkcast 36, 3) := by decide +kernel
theorem dccX8_atHomeIn_26 : decode cX8_atHomeIn 26 = .ok (.astore 4, 2) := by decide +kernel
theorem dccX8_atHomeIn_28 : decode cX8_atHomeIn 28 = .ok (.iload_n 2, 1) := by decide +kernel
theorem dccX8_atHomeIn_29 : decode cX8_atHomeIn 29 = .ok (.aload 4, 2) := by decide +kernel
theorem dccX8_atHomeIn_31 : decode cX8_atHomeIn 31 = .ok (.getfield 38, 3) := by decide +kernel
theorem dccX8_atHomeIn_34 : decode cX8_atHomeIn 34 = .ok (.ifCond .ne 16, 3) := by decide +kernel
theorem dccX8_atHomeIn_37 : decode cX8_atHomeIn 37 = .ok (.aload 4, 2) := by decide +kernel
theorem dccX8_atHomeIn_39 : decode cX8_atHomeIn 39 = .ok (.getfield 45, 3) := by decide +kernel
theorem dccX8_atHomeIn_42 : decode cX8_atHomeIn 42 = .ok (.aload_n 1, 1) := by decide +kernel
theorem dccX8_atHomeIn_43 : decode cX8_atHomeIn 43 = .ok (.if_acmp .ne 7, 3) := by decide +kernel
theorem dccX8_atHomeIn_46 : decode cX8_atHomeIn 46 = .ok (.iconst 1, 1) := by decide +kernel
theorem dccX8_atHomeIn_47 : decode cX8_atHomeIn 47 = .ok (.goto 4, 3) := by decide +kernel
theorem dccX8_atHomeIn_50 : decode cX8_atHomeIn 50 = .ok (.iconst 0, 1) := by decide +kernel
theorem dccX8_atHomeIn_51 : decode cX8_atHomeIn 51 = .ok (.invokestatic 41, 3) := by decide +kernel
theorem dccX8_atHomeIn_54 : decode cX8_atHomeIn 54 = .ok (.iadd, 1) := by decide +kernel
theorem dccX8_atHomeIn_55 : decode cX8_atHomeIn 55 = .ok (.istore_n 2, 1) := by decide +kernel
theorem dccX8_atHomeIn_56 : decode cX8_atHomeIn 56 = .ok (.iinc 3 1, 3) := by decide +kernel
theorem dccX8_atHomeIn_59 : decode cX8_atHomeIn 59 = .ok (.goto (-55), 3) := by decide +kernel
theorem dccX8_atHomeIn_62 : decode cX8_atHomeIn 62 = .ok (.iload_n 2, 1) := by decide +kernel
theorem dccX8_atHomeIn_63 : decode cX8_atHomeIn 63 = .ok (.ireturn, 1) := by decide +kernel
theorem dccX8_canReach_0 : decode cX8_canReach 0 = .ok (.iconst 0, 1) := by decide +kernel
theorem dccX8_canReach_1 : decode cX8_canReach 1 = .ok (.istore_n 2, 1) := by decide +kernel
theorem dccX8_canReach_2 : decode cX8_canReach 2 = .ok (.iload_n 2, 1) := by decide +kernel
theorem dccX8_canReach_3 : decode cX8_canReach 3 = .ok (.aload_n 0, 1) := by decide +kernel
theorem dccX8_canReach_4 : decode cX8_canReach 4 = .ok (.getfield 22, 3) := by decide +kernel
theorem dccX8_canReach_7 : decode cX8_canReach 7 = .ok (.invokevirtual 26, 3) := by decide +kernel
theorem dccX8_canReach_10 : decode cX8_canReach 10 = .ok (.if_icmp .ge 38, 3) := by decide +kernel
theorem dccX8_canReach_13 : decode cX8_canReach 13 = .ok (.iload_n 1, 1) := by decide +kernel
theorem dccX8_canReach_14 : decode cX8_canReach 14 = .ok (.iload_n 2, 1) := by decide +kernel
theorem dccX8_canReach_15 : decode cX8_canReach 15 = .ok (.invokestatic 55, 3) := by decide +kernel
theorem dccX8_canReach_18 : decode cX8_canReach 18 = .ok (.ifCond .eq 24, 3) := by decide +kernel
theorem dccX8_canReach_21 : decode cX8_canReach 21 = .ok (.aload_n 0, 1) := by decide +kernel
theorem dccX8_canReach_22 : decode cX8_canReach 22 = .ok (.aload_n 0, 1) := by decide +kernel
theorem dccX8_canReach_23 : decode cX8_canReach 23 = .ok (.getfield 22, 3) := by decide +kernel
theorem dccX8_canReach_26 : decode cX8_canReach 26 = .ok (.iload_n 2, 1) := by decide +kernel
theorem dccX8_canReach_27 : decode cX8_canReach 27 = .ok (.invokevirtual 32, 3) := by decide +kernel
theorem dccX8_canReach_30 : decode cX8_canReach 30 = .ok (.checkcast 36, 3) := by decide +kernel
theorem dccX8_canReach_33 : decode cX8_canReach 33 = .ok (.iload_n 1, 1) := by decide +kernel
theorem dccX8_canReach_34 : decode cX8_canReach 34 = .ok (.invokevirtual 62, 3) := by decide +kernel
theorem dccX8_canReach_37 : decode cX8_canReach 37 = .ok (.ifCond .ne 5, 3) := by decide +kernel
theorem dccX8_canReach_40 : decode cX8_canReach 40 = .ok (.iconst 0, 1) := by decide +kernel
theorem dccX8_canReach_41 : decode cX8_canReach 41 = .ok (.ireturn, 1) := by decide +kernel
theorem dccX8_canReach_42 : decode cX8_canReach 42 = .ok (.iinc 2 1, 3) := by decide +kernel
theorem dccX8_canReach_45 : decode cX8_canReach 45 = .ok (.goto (-43), 3) := by decide +kernel
theorem dccX8_canReach_48 : decode cX8_canReach 48 = .ok (.iconst 1, 1) := by decide +kernel
theorem dccX8_canReach_49 : decode cX8_canReach 49 = .ok (.ireturn, 1) := by decide +kernel
theorem dccX8_canReachAsLateAs_0 : decode cX8_canReachAsLateAs 0 = .ok (.aload_n 1, 1) := by decide +kernel
theorem dccX8_canReachAsLateAs_1 : decode cX8_canReachAsLateAs 1 = .ok (.getfield 38, 3) := by decide +kernel
theorem dccX8_canReachAsLateAs_4 : decode cX8_canReachAsLateAs 4 = .ok (.ifCond .eq 5, 3) := by decide +kernel
theorem dccX8_canReachAsLateAs_7 : decode cX8_canReachAsLateAs 7 = .ok (.iconst 0, 1) := by decide +kernel
theorem dccX8_canReachAsLateAs_8 : decode cX8_canReachAsLateAs 8 = .ok (.ireturn, 1) := by decide +kernel
theorem dccX8_canReachAsLateAs_9 : decode cX8_canReachAsLateAs 9 = .ok (.aload_n 0, 1) := by decide +kernel
theorem dccX8_canReachAsLateAs_10 : decode cX8_canReachAsLateAs 10 = .ok (.getfield 18, 3) := by decide +kernel
theorem dccX8_canReachAsLateAs_13 : decode cX8_canReachAsLateAs 13 = .ok (.aload_n 1, 1) := by decide +kernel
theorem dccX8_canReachAsLateAs_14 : decode cX8_canReachAsLateAs 14 = .ok (.getfield 45, 3) := by decide +kernel
theorem dccX8_canReachAsLateAs_17 : decode cX8_canReachAsLateAs 17 = .ok (.invokevirtual 66, 3) := by decide +kernel
theorem dccX8_canReachAsLateAs_20 : decode cX8_canReachAsLateAs 20 = .ok (.istore_n 3, 1) := by decide +kernel
theorem dccX8_canReachAsLateAs_21 : decode cX8_canReachAsLateAs 21 = .ok (.iconst 0, 1) := by decide +kernel
theorem dccX8_canReachAsLateAs_22 : decode cX8_canReachAsLateAs 22 = .ok (.istore 4, 2) := by decide +kernel
theorem dccX8_canReachAsLateAs_24 : decode cX8_canReachAsLateAs 24 = .ok (.iconst 0, 1) := by decide +kernel
theorem dccX8_canReachAsLateAs_25 : decode cX8_canReachAsLateAs 25 = .ok (.istore 5, 2) := by decide +kernel
theorem dccX8_canReachAsLateAs_27 : decode cX8_canReachAsLateAs 27 = .ok (.iload 5, 2) := by decide +kernel
theorem dccX8_canReachAsLateAs_29 : decode cX8_canReachAsLateAs 29 = .ok (.aload_n 0, 1) := by decide +kernel
theorem dccX8_canReachAsLateAs_30 : decode cX8_canReachAsLateAs 30 = .ok (.getfield 22, 3) := by decide +kernel
theorem dccX8_canReachAsLateAs_33 : decode cX8_canReachAsLateAs 33 = .ok (.invokevirtual 26, 3) := by decide +kernel
theorem dccX8_canReachAsLateAs_36 : decode cX8_canReachAsLateAs 36 = .ok (.if_icmp .ge 57, 3) := by decide +kernel
theorem dccX8_canReachAsLateAs_39 : decode cX8_canReachAsLateAs 39 = .ok (.iload 4, 2) := by decide +kernel
theorem dccX8_canReachAsLateAs_41 : decode cX8_canReachAsLateAs 41 = .ok (.iload_n 2, 1) := by decide +kernel
theorem dccX8_canReachAsLateAs_42 : decode cX8_canReachAsLateAs 42 = .ok (.iload 5, 2) := by decide +kernel
theorem dccX8_canReachAsLateAs_44 : decode cX8_canReachAsLateAs 44 = .ok (.invokestatic 55, 3) := by decide +kernel
theorem dccX8_canReachAsLateAs_47 : decode cX8_canReachAsLateAs 47 = .ok (.ifCond .eq 33, 3) := by decide +kernel
theorem dccX8_canReachAsLateAs_50 : decode cX8_canReachAsLateAs 50 = .ok (.aload_n 0, 1) := by decide +kernel
theorem dccX8_canReachAsLateAs_51 : decode cX8_canReachAsLateAs 51 = .ok (.getfield 18, 3) := by decide +kernel
theorem dccX8_canReachAsLateAs_54 : decode cX8_canReachAsLateAs 54 = .ok (.aload_n 0, 1) := by decide +kernel
theorem dccX8_canReachAsLateAs_55 : decode cX8_canReachAsLateAs 55 = .ok (.getfield 22, 3) := by decide +kernel
theorem dccX8_canReachAsLateAs_58 : decode cX8_canReachAsLateAs 58 = .ok (.iload 5, 2) := by decide +kernel
theorem dccX8_canReachAsLateAs_60 : decode cX8_canReachAsLateAs 60 = .ok (.invokevirtual 32, 3) := by decide +kernel
theorem dccX8_canReachAsLateAs_63 : decode cX8_canReachAsLateAs 63 = .ok (.checkcast 36, 3) := by decide +kernel
theorem dccX8_canReachAsLateAs_66 : decode cX8_canReachAsLateAs 66 = .ok (.getfield 45, 3) := by decide +kernel
theorem dccX8_canReachAsLateAs_69 : decode cX8_canReachAsLateAs 69 = .ok (.invokevirtual 66, 3) := by decide +kernel
theorem dccX8_canReachAsLateAs_72 : decode cX8_canReachAsLateAs 72 = .ok (.iload_n 3, 1) := by decide +kernel
theorem dccX8_canReachAsLateAs_73 : decode cX8_canReachAsLateAs 73 = .ok (.if_icmp .gt 7, 3) := by decide +kernel
theorem dccX8_canReachAsLateAs_76 : decode cX8_canReachAsLateAs 76 = .ok (.iconst 1, 1) := by decide +kernel
theorem dccX8_canReachAsLateAs_77 : decode cX8_canReachAsLateAs 77 = .ok (.goto 4, 3) := by decide +kernel
theorem dccX8_canReachAsLateAs_80 : decode cX8_canReachAsLateAs 80 = .ok (.iconst 0, 1) := by decide +kernel
theorem dccX8_canReachAsLateAs_81 : decode cX8_canReachAsLateAs 81 = .ok (.invokestatic 41, 3) := by decide +kernel
theorem dccX8_canReachAsLateAs_84 : decode cX8_canReachAsLateAs 84 = .ok (.iadd, 1) := by decide +kernel
theorem dccX8_canReachAsLateAs_85 : decode cX8_canReachAsLateAs 85 = .ok (.istore 4, 2) := by decide +kernel
theorem dccX8_canReachAsLateAs_87 : decode cX8_canReachAsLateAs 87 = .ok (.iinc 5 1, 3) := by decide +kernel
theorem dccX8_canReachAsLateAs_90 : decode cX8_canReachAsLateAs 90 = .ok (.goto (-63), 3) := by decide +kernel
theorem dccX8_canReachAsLateAs_93 : decode cX8_canReachAsLateAs 93 = .ok (.iload 4, 2) := by decide +kernel
theorem dccX8_canReachAsLateAs_95 : decode cX8_canReachAsLateAs 95 = .ok (.aload_n 0, 1) := by decide +kernel
theorem dccX8_canReachAsLateAs_96 : decode cX8_canReachAsLateAs 96 = .ok (.getfield 9, 3) := by decide +kernel
theorem dccX8_canReachAsLateAs_99 : decode cX8_canReachAsLateAs 99 = .ok (.iload_n 3, 1) := by decide +kernel
theorem dccX8_canReachAsLateAs_100 : decode cX8_canReachAsLateAs 100 = .ok (.imul, 1) := by decide +kernel
theorem dccX8_canReachAsLateAs_101 : decode cX8_canReachAsLateAs 101 = .ok (.if_icmp .gt 7, 3) := by decide +kernel
theorem dccX8_canReachAsLateAs_104 : decode cX8_canReachAsLateAs 104 = .ok (.iconst 1, 1) := by decide +kernel
theorem dccX8_canReachAsLateAs_105 : decode cX8_canReachAsLateAs 105 = .ok (.goto 4, 3) := by decide +kernel
theorem dccX8_canReachAsLateAs_108 : decode cX8_canReachAsLateAs 108 = .ok (.iconst 0, 1) := by decide +kernel
theorem dccX8_canReachAsLateAs_109 : decode cX8_canReachAsLateAs 109 = .ok (.ireturn, 1) := by decide +kernel
theorem dccX8_canReachMoreThan_0 : decode cX8_canReachMoreThan 0 = .ok (.iconst 0, 1) := by decide +kernel
theorem dccX8_canReachMoreThan_1 : decode cX8_canReachMoreThan 1 = .ok (.istore_n 2, 1) := by decide +kernel
theorem dccX8_canReachMoreThan_2 : decode cX8_canReachMoreThan 2 = .ok (.iload_n 2, 1) := by decide +kernel
theorem dccX8_canReachMoreThan_3 : decode cX8_canReachMoreThan 3 = .ok (.iconst 1, 1) := by decide +kernel
theorem dccX8_canReachMoreThan_4 : decode cX8_canReachMoreThan 4 = .ok (.aload_n 0, 1) := by decide +kernel
theorem dccX8_canReachMoreThan_5 : decode cX8_canReachMoreThan 5 = .ok (.getfield 22, 3) := by decide +kernel
theorem dccX8_canReachMoreThan_8 : decode cX8_canReachMoreThan 8 = .ok (.invokevirtual 26, 3) := by decide +kernel
theorem dccX8_canReachMoreThan_11 : decode cX8_canReachMoreThan 11 = .ok (.ishl, 1) := by decide +kernel
theorem dccX8_canReachMoreThan_12 : decode cX8_canReachMoreThan 12 = .ok (.if_icmp .ge 28, 3) := by decide +kernel
theorem dccX8_canReachMoreThan_15 : decode cX8_canReachMoreThan 15 = .ok (.aload_n 0, 1) := by decide +kernel
theorem dccX8_canReachMoreThan_16 : decode cX8_canReachMoreThan 16 = .ok (.iload_n 2, 1) := by decide +kernel
theorem dccX8_canReachMoreThan_17 : decode cX8_canReachMoreThan 17 = .ok (.invokevirtual 74, 3) := by decide +kernel
theorem dccX8_canReachMoreThan_20 : decode cX8_canReachMoreThan 20 = .ok (.iload_n 1, 1) := by decide +kernel
theorem dccX8_canReachMoreThan_21 : decode cX8_canReachMoreThan 21 = .ok (.if_icmp .le 13, 3) := by decide +kernel
theorem dccX8_canReachMoreThan_24 : decode cX8_canReachMoreThan 24 = .ok (.aload_n 0, 1) := by decide +kernel
theorem dccX8_canReachMoreThan_25 : decode cX8_canReachMoreThan 25 = .ok (.iload_n 2, 1) := by decide +kernel
theorem dccX8_canReachMoreThan_26 : decode cX8_canReachMoreThan 26 = .ok (.invokevirtual 70, 3) := by decide +kernel
theorem dccX8_canReachMoreThan_29 : decode cX8_canReachMoreThan 29 = .ok (.ifCond .eq 5, 3) := by decide +kernel
theorem dccX8_canReachMoreThan_32 : decode cX8_canReachMoreThan 32 = .ok (.iconst 1, 1) := by decide +kernel
theorem dccX8_canReachMoreThan_33 : decode cX8_canReachMoreThan 33 = .ok (.ireturn, 1) := by decide +kernel
theorem dccX8_canReachMoreThan_34 : decode cX8_canReachMoreThan 34 = .ok (.iinc 2 1, 3) := by decide +kernel
theorem dccX8_canReachMoreThan_37 : decode cX8_canReachMoreThan 37 = .ok (.goto (-35), 3) := by decide +kernel
theorem dccX8_canReachMoreThan_40 : decode cX8_canReachMoreThan 40 = .ok (.iconst 0, 1) := by decide +kernel
theorem dccX8_canReachMoreThan_41 : decode cX8_canReachMoreThan 41 = .ok (.ireturn, 1) := by decide +kernel
theorem dccX8_choice_0 : decode cX8_choice 0 = .ok (.iconst 0, 1) := by decide +kernel
theorem dccX8_choice_1 : decode cX8_choice 1 = .ok (.istore_n 1, 1) := by decide +kernel
theorem dccX8_choice_2 : decode cX8_choice 2 = .ok (.bipush 9, 2) := by decide +kernel
theorem dccX8_choice_4 : decode cX8_choice 4 = .ok (.istore_n 2, 1) := by decide +kernel
theorem dccX8_choice_5 : decode cX8_choice 5 = .ok (.iload_n 2, 1) := by decide +kernel
theorem dccX8_choice_6 : decode cX8_choice 6 = .ok (.iconst 1, 1) := by decide +kernel
theorem dccX8_choice_7 : decode cX8_choice 7 = .ok (.if_icmp .lt 65, 3) := by decide +kernel
theorem dccX8_choice_10 : decode cX8_choice 10 = .ok (.iconst 0, 1) := by decide +kernel
theorem dccX8_choice_11 : decode cX8_choice 11 = .ok (.istore_n 3, 1) := by decide +kernel
theorem dccX8_choice_12 : decode cX8_choice 12 = .ok (.iload_n 3, 1) := by decide +kernel
theorem dccX8_choice_13 : decode cX8_choice 13 = .ok (.aload_n 0, 1) := by decide +kernel
theorem dccX8_choice_14 : decode cX8_choice 14 = .ok (.getfield 22, 3) := by decide +kernel
theorem dccX8_choice_17 : decode cX8_choice 17 = .ok (.invokevirtual 26, 3) := by decide +kernel
theorem dccX8_choice_20 : decode cX8_choice 20 = .ok (.if_icmp .ge 46, 3) := by decide +kernel
theorem dccX8_choice_23 : decode cX8_choice 23 = .ok (.iload_n 1, 1) := by decide +kernel
theorem dccX8_choice_24 : decode cX8_choice 24 = .ok (.iconst 1, 1) := by decide +kernel
theorem dccX8_choice_25 : decode cX8_choice 25 = .ok (.iload_n 3, 1) := by decide +kernel
theorem dccX8_choice_26 : decode cX8_choice 26 = .ok (.ishl, 1) := by decide +kernel
theorem dccX8_choice_27 : decode cX8_choice 27 = .ok (.ior, 1) := by decide +kernel
theorem dccX8_choice_28 : decode cX8_choice 28 = .ok (.istore 4, 2) := by decide +kernel
theorem dccX8_choice_30 : decode cX8_choice 30 = .ok (.aload_n 0, 1) := by decide +kernel
theorem dccX8_choice_31 : decode cX8_choice 31 = .ok (.getfield 22, 3) := by decide +kernel
theorem dccX8_choice_34 : decode cX8_choice 34 = .ok (.iload_n 3, 1) := by decide +kernel
theorem dccX8_choice_35 : decode cX8_choice 35 = .ok (.invokevirtual 32, 3) := by decide +kernel
theorem dccX8_choice_38 : decode cX8_choice 38 = .ok (.checkcast 36, 3) := by decide +kernel
theorem dccX8_choice_41 : decode cX8_choice 41 = .ok (.getfield 59, 3) := by decide +kernel
theorem dccX8_choice_44 : decode cX8_choice 44 = .ok (.iload_n 2, 1) := by decide +kernel
theorem dccX8_choice_45 : decode cX8_choice 45 = .ok (.if_icmp .ne 15, 3) := by decide +kernel
theorem dccX8_choice_48 : decode cX8_choice 48 = .ok (.aload_n 0, 1) := by decide +kernel
theorem dccX8_choice_49 : decode cX8_choice 49 = .ok (.iload 4, 2) := by decide +kernel
theorem dccX8_choice_51 : decode cX8_choice 51 = .ok (.invokevirtual 70, 3) := by decide +kernel
theorem dccX8_choice_54 : decode cX8_choice 54 = .ok (.ifCond .eq 6, 3) := by decide +kernel
theorem dccX8_choice_57 : decode cX8_choice 57 = .ok (.iload 4, 2) := by decide +kernel
theorem dccX8_choice_59 : decode cX8_choice 59 = .ok (.istore_n 1, 1) := by decide +kernel
theorem dccX8_choice_60 : decode cX8_choice 60 = .ok (.iinc 3 1, 3) := by decide +kernel
theorem dccX8_choice_63 : decode cX8_choice 63 = .ok (.goto (-51), 3) := by decide +kernel
theorem dccX8_choice_66 : decode cX8_choice 66 = .ok (.iinc 2 (-1), 3) := by decide +kernel
theorem dccX8_choice_69 : decode cX8_choice 69 = .ok (.goto (-64), 3) := by decide +kernel
theorem dccX8_choice_72 : decode cX8_choice 72 = .ok (.iload_n 1, 1) := by decide +kernel
theorem dccX8_choice_73 : decode cX8_choice 73 = .ok (.ireturn, 1) := by decide +kernel
theorem dccX8_countOf_0 : decode cX8_countOf 0 = .ok (.iconst 0, 1) := by decide +kernel
theorem dccX8_countOf_1 : decode cX8_countOf 1 = .ok (.istore_n 2, 1) := by decide +kernel
theorem dccX8_countOf_2 : decode cX8_countOf 2 = .ok (.iconst 0, 1) := by decide +kernel
theorem dccX8_countOf_3 : decode cX8_countOf 3 = .ok (.istore_n 3, 1) := by decide +kernel
theorem dccX8_countOf_4 : decode cX8_countOf 4 = .ok (.iload_n 3, 1) := by decide +kernel
theorem dccX8_countOf_5 : decode cX8_countOf 5 = .ok (.aload_n 0, 1) := by decide +kernel
theorem dccX8_countOf_6 : decode cX8_countOf 6 = .ok (.getfield 22, 3) := by decide +kernel
theorem dccX8_countOf_9 : decode cX8_countOf 9 = .ok (.invokevirtual 26, 3) := by decide +kernel
theorem dccX8_countOf_12 : decode cX8_countOf 12 = .ok (.if_icmp .ge 38, 3) := by decide +kernel
theorem dccX8_countOf_15 : decode cX8_countOf 15 = .ok (.iload_n 2, 1) := by decide +kernel
theorem dccX8_countOf_16 : decode cX8_countOf 16 = .ok (.aload_n 0, 1) := by decide +kernel
theorem dccX8_countOf_17 : decode cX8_countOf 17 = .ok (.getfield 22, 3) := by decide +kernel
theorem dccX8_countOf_20 : decode cX8_countOf 20 = .ok (.iload_n 3, 1) := by decide +kernel
theorem dccX8_countOf_21 : decode cX8_countOf 21 = .ok (.invokevirtual 32, 3) := by decide +kernel
theorem dccX8_countOf_24 : decode cX8_countOf 24 = .ok (.checkcast 36, 3) := by decide +kernel
theorem dccX8_countOf_27 : decode cX8_countOf 27 = .ok (.getfield 38, 3) := by decide +kernel
theorem dccX8_countOf_30 : decode cX8_countOf 30 = .ok (.iload_n 1, 1) := by decide +kernel
theorem dccX8_countOf_31 : decode cX8_countOf 31 = .ok (.if_icmp .ne 7, 3) := by decide +kernel
theorem dccX8_countOf_34 : decode cX8_countOf 34 = .ok (.iconst 1, 1) := by decide +kernel
theorem dccX8_countOf_35 : decode cX8_countOf 35 = .ok (.goto 4, 3) := by decide +kernel
theorem dccX8_countOf_38 : decode cX8_countOf 38 = .ok (.iconst 0, 1) := by decide +kernel
theorem dccX8_countOf_39 : decode cX8_countOf 39 = .ok (.invokestatic 41, 3) := by decide +kernel
theorem dccX8_countOf_42 : decode cX8_countOf 42 = .ok (.iadd, 1) := by decide +kernel
theorem dccX8_countOf_43 : decode cX8_countOf 43 = .ok (.istore_n 2, 1) := by decide +kernel
theorem dccX8_countOf_44 : decode cX8_countOf 44 = .ok (.iinc 3 1, 3) := by decide +kernel
theorem dccX8_countOf_47 : decode cX8_countOf 47 = .ok (.goto (-43), 3) := by decide +kernel
theorem dccX8_countOf_50 : decode cX8_countOf 50 = .ok (.iload_n 2, 1) := by decide +kernel
theorem dccX8_countOf_51 : decode cX8_countOf 51 = .ok (.ireturn, 1) := by decide +kernel
theorem dccX8_cutOffFlooded_0 : decode cX8_cutOffFlooded 0 = .ok (.iconst 0, 1) := by decide +kernel
theorem dccX8_cutOffFlooded_1 : decode cX8_cutOffFlooded 1 = .ok (.istore_n 1, 1) := by decide +kernel
theorem dccX8_cutOffFlooded_2 : decode cX8_cutOffFlooded 2 = .ok (.iconst 0, 1) := by decide +kernel
theorem dccX8_cutOffFlooded_3 : decode cX8_cutOffFlooded 3 = .ok (.istore_n 2, 1) := by decide +kernel
theorem dccX8_cutOffFlooded_4 : decode cX8_cutOffFlooded 4 = .ok (.iload_n 2, 1) := by decide +kernel
theorem dccX8_cutOffFlooded_5 : decode cX8_cutOffFlooded 5 = .ok (.aload_n 0, 1) := by decide +kernel
theorem dccX8_cutOffFlooded_6 : decode cX8_cutOffFlooded 6 = .ok (.getfield 22, 3) := by decide +kernel
theorem dccX8_cutOffFlooded_9 : decode cX8_cutOffFlooded 9 = .ok (.invokevirtual 26, 3) := by decide +kernel
theorem dccX8_cutOffFlooded_12 : decode cX8_cutOffFlooded 12 = .ok (.if_icmp .ge 50, 3) := by decide +kernel
theorem dccX8_cutOffFlooded_15 : decode cX8_cutOffFlooded 15 = .ok (.aload_n 0, 1) := by decide +kernel
theorem dccX8_cutOffFlooded_16 : decode cX8_cutOffFlooded 16 = .ok (.getfield 22, 3) := by decide +kernel
theorem dccX8_cutOffFlooded_19 : decode cX8_cutOffFlooded 19 = .ok (.iload_n 2, 1) := by decide +kernel
theorem dccX8_cutOffFlooded_20 : decode cX8_cutOffFlooded 20 = .ok (.invokevirtual 32, 3) := by decide +kernel
theorem dccX8_cutOffFlooded_23 : decode cX8_cutOffFlooded 23 = .ok (.checkcast 36, 3) := by decide +kernel
theorem dccX8_cutOffFlooded_26 : decode cX8_cutOffFlooded 26 = .ok (.astore_n 3, 1) := by decide +kernel
theorem dccX8_cutOffFlooded_27 : decode cX8_cutOffFlooded 27 = .ok (.aload_n 3, 1) := by decide +kernel
theorem dccX8_cutOffFlooded_28 : decode cX8_cutOffFlooded 28 = .ok (.getfield 38, 3) := by decide +kernel
theorem dccX8_cutOffFlooded_31 : decode cX8_cutOffFlooded 31 = .ok (.ifCond .ne 25, 3) := by decide +kernel
theorem dccX8_cutOffFlooded_34 : decode cX8_cutOffFlooded 34 = .ok (.aload_n 0, 1) := by decide +kernel
theorem dccX8_cutOffFlooded_35 : decode cX8_cutOffFlooded 35 = .ok (.getfield 18, 3) := by decide +kernel
theorem dccX8_cutOffFlooded_38 : decode cX8_cutOffFlooded 38 = .ok (.aload_n 3, 1) := by decide +kernel
theorem dccX8_cutOffFlooded_39 : decode cX8_cutOffFlooded 39 = .ok (.getfield 45, 3) := by decide +kernel
theorem dccX8_cutOffFlooded_42 : decode cX8_cutOffFlooded 42 = .ok (.invokevirtual 49, 3) := by decide +kernel
theorem dccX8_cutOffFlooded_45 : decode cX8_cutOffFlooded 45 = .ok (.ifCond .eq 11, 3) := by decide +kernel
theorem dccX8_cutOffFlooded_48 : decode cX8_cutOffFlooded 48 = .ok (.aload_n 3, 1) := by decide +kernel
theorem dccX8_cutOffFlooded_49 : decode cX8_cutOffFlooded 49 = .ok (.iconst 2, 1) := by decide +kernel
theorem dccX8_cutOffFlooded_50 : decode cX8_cutOffFlooded 50 = .ok (.putfield 38, 3) := by decide +kernel
theorem dccX8_cutOffFlooded_53 : decode cX8_cutOffFlooded 53 = .ok (.iinc 1 1, 3) := by decide +kernel
theorem dccX8_cutOffFlooded_56 : decode cX8_cutOffFlooded 56 = .ok (.iinc 2 1, 3) := by decide +kernel
theorem dccX8_cutOffFlooded_59 : decode cX8_cutOffFlooded 59 = .ok (.goto (-55), 3) := by decide +kernel
theorem dccX8_cutOffFlooded_62 : decode cX8_cutOffFlooded 62 = .ok (.iload_n 1, 1) := by decide +kernel
theorem dccX8_cutOffFlooded_63 : decode cX8_cutOffFlooded 63 = .ok (.ireturn, 1) := by decide +kernel
theorem dccX8_init_0 : decode cX8_init 0 = .ok (.aload_n 0, 1) := by decide +kernel
theorem dccX8_init_1 : decode cX8_init 1 = .ok (.invokespecial 3, 3) := by decide +kernel
theorem dccX8_init_4 : decode cX8_init 4 = .ok (.aload_n 0, 1) := by decide +kernel
theorem dccX8_init_5 : decode cX8_init 5 = .ok (.iconst 1, 1) := by decide +kernel
theorem dccX8_init_6 : decode cX8_init 6 = .ok (.putfield 9, 3) := by decide +kernel
theorem dccX8_init_9 : decode cX8_init 9 = .ok (.aload_n 0, 1) := by decide +kernel
theorem dccX8_init_10 : decode cX8_init 10 = .ok (.iconst 0, 1) := by decide +kernel
theorem dccX8_init_11 : decode cX8_init 11 = .ok (.putfield 15, 3) := by decide +kernel
theorem dccX8_init_14 : decode cX8_init 14 = .ok (.aload_n 0, 1) := by decide +kernel
theorem dccX8_init_15 : decode cX8_init 15 = .ok (.aload_n 1, 1) := by decide +kernel
theorem dccX8_init_16 : decode cX8_init 16 = .ok (.putfield 18, 3) := by decide +kernel
theorem dccX8_init_19 : decode cX8_init 19 = .ok (.aload_n 0, 1) := by decide +kernel
theorem dccX8_init_20 : decode cX8_init 20 = .ok (.aload_n 2, 1) := by decide +kernel
theorem dccX8_init_21 : decode cX8_init 21 = .ok (.putfield 22, 3) := by decide +kernel
theorem dccX8_init_24 : decode cX8_init 24 = .ok (.return_, 1) := by decide +kernel
theorem dccX8_peopleOf_0 : decode cX8_peopleOf 0 = .ok (.iconst 0, 1) := by decide +kernel
theorem dccX8_peopleOf_1 : decode cX8_peopleOf 1 = .ok (.istore_n 2, 1) := by decide +kernel
theorem dccX8_peopleOf_2 : decode cX8_peopleOf 2 = .ok (.iconst 0, 1) := by decide +kernel
theorem dccX8_peopleOf_3 : decode cX8_peopleOf 3 = .ok (.istore_n 3, 1) := by decide +kernel
theorem dccX8_peopleOf_4 : decode cX8_peopleOf 4 = .ok (.iload_n 3, 1) := by decide +kernel
theorem dccX8_peopleOf_5 : decode cX8_peopleOf 5 = .ok (.aload_n 0, 1) := by decide +kernel
theorem dccX8_peopleOf_6 : decode cX8_peopleOf 6 = .ok (.getfield 22, 3) := by decide +kernel
theorem dccX8_peopleOf_9 : decode cX8_peopleOf 9 = .ok (.invokevirtual 26, 3) := by decide +kernel
theorem dccX8_peopleOf_12 : decode cX8_peopleOf 12 = .ok (.if_icmp .ge 34, 3) := by decide +kernel
theorem dccX8_peopleOf_15 : decode cX8_peopleOf 15 = .ok (.iload_n 1, 1) := by decide +kernel
theorem dccX8_peopleOf_16 : decode cX8_peopleOf 16 = .ok (.iload_n 3, 1) := by decide +kernel
theorem dccX8_peopleOf_17 : decode cX8_peopleOf 17 = .ok (.invokestatic 55, 3) := by decide +kernel
theorem dccX8_peopleOf_20 : decode cX8_peopleOf 20 = .ok (.ifCond .eq 20, 3) := by decide +kernel
theorem dccX8_peopleOf_23 : decode cX8_peopleOf 23 = .ok (.iload_n 2, 1) := by decide +kernel
theorem dccX8_peopleOf_24 : decode cX8_peopleOf 24 = .ok (.aload_n 0, 1) := by decide +kernel
theorem dccX8_peopleOf_25 : decode cX8_peopleOf 25 = .ok (.getfield 22, 3) := by decide +kernel
theorem dccX8_peopleOf_28 : decode cX8_peopleOf 28 = .ok (.iload_n 3, 1) := by decide +kernel
theorem dccX8_peopleOf_29 : decode cX8_peopleOf 29 = .ok (.invokevirtual 32, 3) := by decide +kernel
theorem dccX8_peopleOf_32 : decode cX8_peopleOf 32 = .ok (.checkcast 36, 3) := by decide +kernel
theorem dccX8_peopleOf_35 : decode cX8_peopleOf 35 = .ok (.getfield 59, 3) := by decide +kernel
theorem dccX8_peopleOf_38 : decode cX8_peopleOf 38 = .ok (.iadd, 1) := by decide +kernel
theorem dccX8_peopleOf_39 : decode cX8_peopleOf 39 = .ok (.istore_n 2, 1) := by decide +kernel
theorem dccX8_peopleOf_40 : decode cX8_peopleOf 40 = .ok (.iinc 3 1, 3) := by decide +kernel
theorem dccX8_peopleOf_43 : decode cX8_peopleOf 43 = .ok (.goto (-39), 3) := by decide +kernel
theorem dccX8_peopleOf_46 : decode cX8_peopleOf 46 = .ok (.iload_n 2, 1) := by decide +kernel
theorem dccX8_peopleOf_47 : decode cX8_peopleOf 47 = .ok (.ireturn, 1) := by decide +kernel
theorem dccX9_floods_0 : decode cX9_floods 0 = .ok (.aload_n 0, 1) := by decide +kernel
theorem dccX9_floods_1 : decode cX9_floods 1 = .ok (.getfield 9, 3) := by decide +kernel
theorem dccX9_floods_4 : decode cX9_floods 4 = .ok (.aload_n 1, 1) := by decide +kernel
theorem dccX9_floods_5 : decode cX9_floods 5 = .ok (.getfield 30, 3) := by decide +kernel
theorem dccX9_floods_8 : decode cX9_floods 8 = .ok (.if_icmp .lt 7, 3) := by decide +kernel
theorem dccX9_floods_11 : decode cX9_floods 11 = .ok (.iconst 1, 1) := by decide +kernel
theorem dccX9_floods_12 : decode cX9_floods 12 = .ok (.goto 4, 3) := by decide +kernel
theorem dccX9_floods_15 : decode cX9_floods 15 = .ok (.iconst 0, 1) := by decide +kernel
theorem dccX9_floods_16 : decode cX9_floods 16 = .ok (.ireturn, 1) := by decide +kernel
theorem dccX9_flow_0 : decode cX9_flow 0 = .ok (.aload_n 0, 1) := by decide +kernel
theorem dccX9_flow_1 : decode cX9_flow 1 = .ok (.iconst 0, 1) := by decide +kernel
theorem dccX9_flow_2 : decode cX9_flow 2 = .ok (.bipush 99, 2) := by decide +kernel
theorem dccX9_flow_4 : decode cX9_flow 4 = .ok (.aload_n 0, 1) := by decide +kernel
theorem dccX9_flow_5 : decode cX9_flow 5 = .ok (.getfield 9, 3) := by decide +kernel
theorem dccX9_flow_8 : decode cX9_flow 8 = .ok (.aload_n 0, 1) := by decide +kernel
theorem dccX9_flow_9 : decode cX9_flow 9 = .ok (.getfield 15, 3) := by decide +kernel
theorem dccX9_flow_12 : decode cX9_flow 12 = .ok (.iadd, 1) := by decide +kernel
theorem dccX9_flow_13 : decode cX9_flow 13 = .ok (.invokestatic 21, 3) := by decide +kernel
theorem dccX9_flow_16 : decode cX9_flow 16 = .ok (.invokestatic 27, 3) := by decide +kernel
theorem dccX9_flow_19 : decode cX9_flow 19 = .ok (.putfield 9, 3) := by decide +kernel
theorem dccX9_flow_22 : decode cX9_flow 22 = .ok (.aload_n 0, 1) := by decide +kernel
theorem dccX9_flow_23 : decode cX9_flow 23 = .ok (.dup, 1) := by decide +kernel
theorem dccX9_flow_24 : decode cX9_flow 24 = .ok (.getfield 18, 3) := by decide +kernel
theorem dccX9_flow_27 : decode cX9_flow 27 = .ok (.iconst 1, 1) := by decide +kernel
theorem dccX9_flow_28 : decode cX9_flow 28 = .ok (.iadd, 1) := by decide +kernel
theorem dccX9_flow_29 : decode cX9_flow 29 = .ok (.putfield 18, 3) := by decide +kernel
theorem dccX9_flow_32 : decode cX9_flow 32 = .ok (.return_, 1) := by decide +kernel
theorem dccX9_init_0 : decode cX9_init 0 = .ok (.aload_n 0, 1) := by decide +kernel
theorem dccX9_init_1 : decode cX9_init 1 = .ok (.invokespecial 3, 3) := by decide +kernel
theorem dccX9_init_4 : decode cX9_init 4 = .ok (.aload_n 0, 1) := by decide +kernel
theorem dccX9_init_5 : decode cX9_init 5 = .ok (.bipush 10, 2) := by decide +kernel
theorem dccX9_init_7 : decode cX9_init 7 = .ok (.putfield 9, 3) := by decide +kernel
theorem dccX9_init_10 : decode cX9_init 10 = .ok (.aload_n 0, 1) := by decide +kernel
theorem dccX9_init_11 : decode cX9_init 11 = .ok (.iconst 0, 1) := by decide +kernel
theorem dccX9_init_12 : decode cX9_init 12 = .ok (.putfield 15, 3) := by decide +kernel
theorem dccX9_init_15 : decode cX9_init 15 = .ok (.aload_n 0, 1) := by decide +kernel
theorem dccX9_init_16 : decode cX9_init 16 = .ok (.iconst 0, 1) := by decide +kernel
theorem dccX9_init_17 : decode cX9_init 17 = .ok (.putfield 18, 3) := by decide +kernel
theorem dccX9_init_20 : decode cX9_init 20 = .ok (.return_, 1) := by decide +kernel
theorem dccX9_limitOf_0 : decode cX9_limitOf 0 = .ok (.aload_n 0, 1) := by decide +kernel
theorem dccX9_limitOf_1 : decode cX9_limitOf 1 = .ok (.aload_n 1, 1) := by decide +kernel
theorem dccX9_limitOf_2 : decode cX9_limitOf 2 = .ok (.invokevirtual 35, 3) := by decide +kernel
theorem dccX9_limitOf_5 : decode cX9_limitOf 5 = .ok (.ifCond .eq 5, 3) := by decide +kernel
theorem dccX9_limitOf_8 : decode cX9_limitOf 8 = .ok (.iconst 0, 1) := by decide +kernel
theorem dccX9_limitOf_9 : decode cX9_limitOf 9 = .ok (.ireturn, 1) := by decide +kernel
theorem dccX9_limitOf_10 : decode cX9_limitOf 10 = .ok (.aload_n 0, 1) := by decide +kernel
theorem dccX9_limitOf_11 : decode cX9_limitOf 11 = .ok (.getfield 15, 3) := by decide +kernel
theorem dccX9_limitOf_14 : decode cX9_limitOf 14 = .ok (.ifCond .gt 7, 3) := by decide +kernel
theorem dccX9_limitOf_17 : decode cX9_limitOf 17 = .ok (.sipush 999, 3) := by decide +kernel
theorem dccX9_limitOf_20 : decode cX9_limitOf 20 = .ok (.ireturn, 1) := by decide +kernel
theorem dccX9_limitOf_21 : decode cX9_limitOf 21 = .ok (.aload_n 1, 1) := by decide +kernel
theorem dccX9_limitOf_22 : decode cX9_limitOf 22 = .ok (.getfield 30, 3) := by decide +kernel
theorem dccX9_limitOf_25 : decode cX9_limitOf 25 = .ok (.aload_n 0, 1) := by decide +kernel
theorem dccX9_limitOf_26 : decode cX9_limitOf 26 = .ok (.getfield 9, 3) := by decide +kernel
theorem dccX9_limitOf_29 : decode cX9_limitOf 29 = .ok (.isub, 1) := by decide +kernel
theorem dccX9_limitOf_30 : decode cX9_limitOf 30 = .ok (.aload_n 0, 1) := by decide +kernel
theorem dccX9_limitOf_31 : decode cX9_limitOf 31 = .ok (.getfield 15, 3) := by decide +kernel
theorem dccX9_limitOf_34 : decode cX9_limitOf 34 = .ok (.iadd, 1) := by decide +kernel
theorem dccX9_limitOf_35 : decode cX9_limitOf 35 = .ok (.iconst 1, 1) := by decide +kernel
theorem dccX9_limitOf_36 : decode cX9_limitOf 36 = .ok (.isub, 1) := by decide +kernel
theorem dccX9_limitOf_37 : decode cX9_limitOf 37 = .ok (.aload_n 0, 1) := by decide +kernel
theorem dccX9_limitOf_38 : decode cX9_limitOf 38 = .ok (.getfield 15, 3) := by decide +kernel
theorem dccX9_limitOf_41 : decode cX9_limitOf 41 = .ok (.idiv, 1) := by decide +kernel
theorem dccX9_limitOf_42 : decode cX9_limitOf 42 = .ok (.ireturn, 1) := by decide +kernel
