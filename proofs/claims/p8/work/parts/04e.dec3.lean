theorem dccX14_having_34 : decode cX14_having 34 = .ok (.goto (-29), 3) := by decide +kernel
theorem dccX14_having_37 : decode cX14_having 37 = .ok (.iload_n 3, 1) := by decide +kernel
theorem dccX14_having_38 : decode cX14_having 38 = .ok (.ireturn, 1) := by decide +kernel
theorem dccX14_homes_0 : decode cX14_homes 0 = .ok (.iconst 0, 1) := by decide +kernel
theorem dccX14_homes_1 : decode cX14_homes 1 = .ok (.istore_n 3, 1) := by decide +kernel
theorem dccX14_homes_2 : decode cX14_homes 2 = .ok (.aload_n 0, 1) := by decide +kernel
theorem dccX14_homes_3 : decode cX14_homes 3 = .ok (.getfield 26, 3) := by decide +kernel
theorem dccX14_homes_6 : decode cX14_homes 6 = .ok (.invokevirtual 107, 3) := by decide +kernel
theorem dccX14_homes_9 : decode cX14_homes 9 = .ok (.astore 4, 2) := by decide +kernel
theorem dccX14_homes_11 : decode cX14_homes 11 = .ok (.aload 4, 2) := by decide +kernel
theorem dccX14_homes_13 : decode cX14_homes 13 = .ok (.invokeinterface 111 1, 5) := by decide +kernel
theorem dccX14_homes_18 : decode cX14_homes 18 = .ok (.ifCond .eq 49, 3) := by decide +kernel
theorem dccX14_homes_21 : decode cX14_homes 21 = .ok (.aload 4, 2) := by decide +kernel
theorem dccX14_homes_23 : decode cX14_homes 23 = .ok (.invokeinterface 117 1, 5) := by decide +kernel
theorem dccX14_homes_28 : decode cX14_homes 28 = .ok (.checkcast 67, 3) := by decide +kernel
theorem dccX14_homes_31 : decode cX14_homes 31 = .ok (.astore 5, 2) := by decide +kernel
theorem dccX14_homes_33 : decode cX14_homes 33 = .ok (.iload_n 3, 1) := by decide +kernel
theorem dccX14_homes_34 : decode cX14_homes 34 = .ok (.aload 5, 2) := by decide +kernel
theorem dccX14_homes_36 : decode cX14_homes 36 = .ok (.getfield 83, 3) := by decide +kernel
theorem dccX14_homes_39 : decode cX14_homes 39 = .ok (.iload_n 2, 1) := by decide +kernel
theorem dccX14_homes_40 : decode cX14_homes 40 = .ok (.if_icmp .ne 21, 3) := by decide +kernel
theorem dccX14_homes_43 : decode cX14_homes 43 = .ok (.iload_n 1, 1) := by decide +kernel
theorem dccX14_homes_44 : decode cX14_homes 44 = .ok (.iconst (-1), 1) := by decide +kernel
theorem dccX14_homes_45 : decode cX14_homes 45 = .ok (.if_icmp .eq 12, 3) := by decide +kernel
theorem dccX14_homes_48 : decode cX14_homes 48 = .ok (.aload 5, 2) := by decide +kernel
theorem dccX14_homes_50 : decode cX14_homes 50 = .ok (.getfield 70, 3) := by decide +kernel
theorem dccX14_homes_53 : decode cX14_homes 53 = .ok (.iload_n 1, 1) := by decide +kernel
theorem dccX14_homes_54 : decode cX14_homes 54 = .ok (.if_icmp .ne 7, 3) := by decide +kernel
theorem dccX14_homes_57 : decode cX14_homes 57 = .ok (.iconst 1, 1) := by decide +kernel
theorem dccX14_homes_58 : decode cX14_homes 58 = .ok (.goto 4, 3) := by decide +kernel
theorem dccX14_homes_61 : decode cX14_homes 61 = .ok (.iconst 0, 1) := by decide +kernel
theorem dccX14_homes_62 : decode cX14_homes 62 = .ok (.iadd, 1) := by decide +kernel
theorem dccX14_homes_63 : decode cX14_homes 63 = .ok (.istore_n 3, 1) := by decide +kernel
theorem dccX14_homes_64 : decode cX14_homes 64 = .ok (.goto (-53), 3) := by decide +kernel
theorem dccX14_homes_67 : decode cX14_homes 67 = .ok (.iload_n 3, 1) := by decide +kernel
theorem dccX14_homes_68 : decode cX14_homes 68 = .ok (.ireturn, 1) := by decide +kernel
theorem dccX14_hourGoes_0 : decode cX14_hourGoes 0 = .ok (.iconst 0, 1) := by decide +kernel
theorem dccX14_hourGoes_1 : decode cX14_hourGoes 1 = .ok (.istore_n 1, 1) := by decide +kernel
theorem dccX14_hourGoes_2 : decode cX14_hourGoes 2 = .ok (.aload_n 0, 1) := by decide +kernel
theorem dccX14_hourGoes_3 : decode cX14_hourGoes 3 = .ok (.iconst 0, 1) := by decide +kernel
theorem dccX14_hourGoes_4 : decode cX14_hourGoes 4 = .ok (.bipush 99, 2) := by decide +kernel
theorem dccX14_hourGoes_6 : decode cX14_hourGoes 6 = .ok (.aload_n 0, 1) := by decide +kernel
theorem dccX14_hourGoes_7 : decode cX14_hourGoes 7 = .ok (.getfield 7, 3) := by decide +kernel
theorem dccX14_hourGoes_10 : decode cX14_hourGoes 10 = .ok (.aload_n 0, 1) := by decide +kernel
theorem dccX14_hourGoes_11 : decode cX14_hourGoes 11 = .ok (.getfield 86, 3) := by decide +kernel
theorem dccX14_hourGoes_14 : decode cX14_hourGoes 14 = .ok (.iadd, 1) := by decide +kernel
theorem dccX14_hourGoes_15 : decode cX14_hourGoes 15 = .ok (.invokestatic 95, 3) := by decide +kernel
theorem dccX14_hourGoes_18 : decode cX14_hourGoes 18 = .ok (.invokestatic 101, 3) := by decide +kernel
theorem dccX14_hourGoes_21 : decode cX14_hourGoes 21 = .ok (.putfield 7, 3) := by decide +kernel
theorem dccX14_hourGoes_24 : decode cX14_hourGoes 24 = .ok (.aload_n 0, 1) := by decide +kernel
theorem dccX14_hourGoes_25 : decode cX14_hourGoes 25 = .ok (.dup, 1) := by decide +kernel
theorem dccX14_hourGoes_26 : decode cX14_hourGoes 26 = .ok (.getfield 104, 3) := by decide +kernel
theorem dccX14_hourGoes_29 : decode cX14_hourGoes 29 = .ok (.iconst 1, 1) := by decide +kernel
theorem dccX14_hourGoes_30 : decode cX14_hourGoes 30 = .ok (.iadd, 1) := by decide +kernel
theorem dccX14_hourGoes_31 : decode cX14_hourGoes 31 = .ok (.putfield 104, 3) := by decide +kernel
theorem dccX14_hourGoes_34 : decode cX14_hourGoes 34 = .ok (.aload_n 0, 1) := by decide +kernel
theorem dccX14_hourGoes_35 : decode cX14_hourGoes 35 = .ok (.iconst 0, 1) := by decide +kernel
theorem dccX14_hourGoes_36 : decode cX14_hourGoes 36 = .ok (.putfield 92, 3) := by decide +kernel
theorem dccX14_hourGoes_39 : decode cX14_hourGoes 39 = .ok (.aload_n 0, 1) := by decide +kernel
theorem dccX14_hourGoes_40 : decode cX14_hourGoes 40 = .ok (.getfield 26, 3) := by decide +kernel
theorem dccX14_hourGoes_43 : decode cX14_hourGoes 43 = .ok (.invokevirtual 107, 3) := by decide +kernel
theorem dccX14_hourGoes_46 : decode cX14_hourGoes 46 = .ok (.astore_n 2, 1) := by decide +kernel
theorem dccX14_hourGoes_47 : decode cX14_hourGoes 47 = .ok (.aload_n 2, 1) := by decide +kernel
theorem dccX14_hourGoes_48 : decode cX14_hourGoes 48 = .ok (.invokeinterface 111 1, 5) := by decide +kernel
theorem dccX14_hourGoes_53 : decode cX14_hourGoes 53 = .ok (.ifCond .eq 45, 3) := by decide +kernel
theorem dccX14_hourGoes_56 : decode cX14_hourGoes 56 = .ok (.aload_n 2, 1) := by decide +kernel
theorem dccX14_hourGoes_57 : decode cX14_hourGoes 57 = .ok (.invokeinterface 117 1, 5) := by decide +kernel
theorem dccX14_hourGoes_62 : decode cX14_hourGoes 62 = .ok (.checkcast 67, 3) := by decide +kernel
theorem dccX14_hourGoes_65 : decode cX14_hourGoes 65 = .ok (.astore_n 3, 1) := by decide +kernel
theorem dccX14_hourGoes_66 : decode cX14_hourGoes 66 = .ok (.aload_n 3, 1) := by decide +kernel
theorem dccX14_hourGoes_67 : decode cX14_hourGoes 67 = .ok (.getfield 83, 3) := by decide +kernel
theorem dccX14_hourGoes_70 : decode cX14_hourGoes 70 = .ok (.ifCond .ne (-23), 3) := by decide +kernel
theorem dccX14_hourGoes_73 : decode cX14_hourGoes 73 = .ok (.aload_n 0, 1) := by decide +kernel
theorem dccX14_hourGoes_74 : decode cX14_hourGoes 74 = .ok (.aload_n 3, 1) := by decide +kernel
theorem dccX14_hourGoes_75 : decode cX14_hourGoes 75 = .ok (.getfield 70, 3) := by decide +kernel
theorem dccX14_hourGoes_78 : decode cX14_hourGoes 78 = .ok (.invokevirtual 80, 3) := by decide +kernel
theorem dccX14_hourGoes_81 : decode cX14_hourGoes 81 = .ok (.ifCond .ne 6, 3) := by decide +kernel
theorem dccX14_hourGoes_84 : decode cX14_hourGoes 84 = .ok (.goto (-37), 3) := by decide +kernel
theorem dccX14_hourGoes_87 : decode cX14_hourGoes 87 = .ok (.aload_n 3, 1) := by decide +kernel
theorem dccX14_hourGoes_88 : decode cX14_hourGoes 88 = .ok (.iconst 2, 1) := by decide +kernel
theorem dccX14_hourGoes_89 : decode cX14_hourGoes 89 = .ok (.putfield 83, 3) := by decide +kernel
theorem dccX14_hourGoes_92 : decode cX14_hourGoes 92 = .ok (.iinc 1 1, 3) := by decide +kernel
theorem dccX14_hourGoes_95 : decode cX14_hourGoes 95 = .ok (.goto (-48), 3) := by decide +kernel
theorem dccX14_hourGoes_98 : decode cX14_hourGoes 98 = .ok (.aload_n 0, 1) := by decide +kernel
theorem dccX14_hourGoes_99 : decode cX14_hourGoes 99 = .ok (.getfield 29, 3) := by decide +kernel
theorem dccX14_hourGoes_102 : decode cX14_hourGoes 102 = .ok (.invokevirtual 107, 3) := by decide +kernel
theorem dccX14_hourGoes_105 : decode cX14_hourGoes 105 = .ok (.astore_n 2, 1) := by decide +kernel
theorem dccX14_hourGoes_106 : decode cX14_hourGoes 106 = .ok (.aload_n 2, 1) := by decide +kernel
theorem dccX14_hourGoes_107 : decode cX14_hourGoes 107 = .ok (.invokeinterface 111 1, 5) := by decide +kernel
theorem dccX14_hourGoes_112 : decode cX14_hourGoes 112 = .ok (.ifCond .eq 45, 3) := by decide +kernel
theorem dccX14_hourGoes_115 : decode cX14_hourGoes 115 = .ok (.aload_n 2, 1) := by decide +kernel
theorem dccX14_hourGoes_116 : decode cX14_hourGoes 116 = .ok (.invokeinterface 117 1, 5) := by decide +kernel
theorem dccX14_hourGoes_121 : decode cX14_hourGoes 121 = .ok (.checkcast 62, 3) := by decide +kernel
theorem dccX14_hourGoes_124 : decode cX14_hourGoes 124 = .ok (.astore_n 3, 1) := by decide +kernel
theorem dccX14_hourGoes_125 : decode cX14_hourGoes 125 = .ok (.aload_n 3, 1) := by decide +kernel
theorem dccX14_hourGoes_126 : decode cX14_hourGoes 126 = .ok (.iconst 1, 1) := by decide +kernel
theorem dccX14_hourGoes_127 : decode cX14_hourGoes 127 = .ok (.iaload, 1) := by decide +kernel
theorem dccX14_hourGoes_128 : decode cX14_hourGoes 128 = .ok (.aload_n 0, 1) := by decide +kernel
theorem dccX14_hourGoes_129 : decode cX14_hourGoes 129 = .ok (.getfield 104, 3) := by decide +kernel
theorem dccX14_hourGoes_132 : decode cX14_hourGoes 132 = .ok (.if_icmp .lt 6, 3) := by decide +kernel
theorem dccX14_hourGoes_135 : decode cX14_hourGoes 135 = .ok (.goto (-29), 3) := by decide +kernel
theorem dccX14_hourGoes_138 : decode cX14_hourGoes 138 = .ok (.aload_n 0, 1) := by decide +kernel
theorem dccX14_hourGoes_139 : decode cX14_hourGoes 139 = .ok (.dup, 1) := by decide +kernel
theorem dccX14_hourGoes_140 : decode cX14_hourGoes 140 = .ok (.getfield 121, 3) := by decide +kernel
theorem dccX14_hourGoes_143 : decode cX14_hourGoes 143 = .ok (.aload_n 3, 1) := by decide +kernel
theorem dccX14_hourGoes_144 : decode cX14_hourGoes 144 = .ok (.iconst 0, 1) := by decide +kernel
theorem dccX14_hourGoes_145 : decode cX14_hourGoes 145 = .ok (.iaload, 1) := by decide +kernel
theorem dccX14_hourGoes_146 : decode cX14_hourGoes 146 = .ok (.iadd, 1) := by decide +kernel
theorem dccX14_hourGoes_147 : decode cX14_hourGoes 147 = .ok (.putfield 121, 3) := by decide +kernel
theorem dccX14_hourGoes_150 : decode cX14_hourGoes 150 = .ok (.aload_n 3, 1) := by decide +kernel
theorem dccX14_hourGoes_151 : decode cX14_hourGoes 151 = .ok (.iconst 0, 1) := by decide +kernel
theorem dccX14_hourGoes_152 : decode cX14_hourGoes 152 = .ok (.iconst 0, 1) := by decide +kernel
theorem dccX14_hourGoes_153 : decode cX14_hourGoes 153 = .ok (.iastore, 1) := by decide +kernel
theorem dccX14_hourGoes_154 : decode cX14_hourGoes 154 = .ok (.goto (-48), 3) := by decide +kernel
theorem dccX14_hourGoes_157 : decode cX14_hourGoes 157 = .ok (.iload_n 1, 1) := by decide +kernel
theorem dccX14_hourGoes_158 : decode cX14_hourGoes 158 = .ok (.ireturn, 1) := by decide +kernel
theorem dccX14_household_0 : decode cX14_household 0 = .ok (.aload_n 0, 1) := by decide +kernel
theorem dccX14_household_1 : decode cX14_household 1 = .ok (.iconst 0, 1) := by decide +kernel
theorem dccX14_household_2 : decode cX14_household 2 = .ok (.putfield 35, 3) := by decide +kernel
theorem dccX14_household_5 : decode cX14_household 5 = .ok (.aload_n 0, 1) := by decide +kernel
theorem dccX14_household_6 : decode cX14_household 6 = .ok (.iload_n 1, 1) := by decide +kernel
theorem dccX14_household_7 : decode cX14_household 7 = .ok (.invokevirtual 64, 3) := by decide +kernel
theorem dccX14_household_10 : decode cX14_household 10 = .ok (.ifCond .ne 9, 3) := by decide +kernel
theorem dccX14_household_13 : decode cX14_household 13 = .ok (.aload_n 0, 1) := by decide +kernel
theorem dccX14_household_14 : decode cX14_household 14 = .ok (.iconst 1, 1) := by decide +kernel
theorem dccX14_household_15 : decode cX14_household 15 = .ok (.invokevirtual 46, 3) := by decide +kernel
theorem dccX14_household_18 : decode cX14_household 18 = .ok (.ireturn, 1) := by decide +kernel
theorem dccX14_household_19 : decode cX14_household 19 = .ok (.iload_n 2, 1) := by decide +kernel
theorem dccX14_household_20 : decode cX14_household 20 = .ok (.iconst 1, 1) := by decide +kernel
theorem dccX14_household_21 : decode cX14_household 21 = .ok (.bipush 9, 2) := by decide +kernel
theorem dccX14_household_23 : decode cX14_household 23 = .ok (.invokestatic 42, 3) := by decide +kernel
theorem dccX14_household_26 : decode cX14_household 26 = .ok (.ifCond .ne 9, 3) := by decide +kernel
theorem dccX14_household_29 : decode cX14_household 29 = .ok (.aload_n 0, 1) := by decide +kernel
theorem dccX14_household_30 : decode cX14_household 30 = .ok (.iconst 2, 1) := by decide +kernel
theorem dccX14_household_31 : decode cX14_household 31 = .ok (.invokevirtual 46, 3) := by decide +kernel
theorem dccX14_household_34 : decode cX14_household 34 = .ok (.ireturn, 1) := by decide +kernel
theorem dccX14_household_35 : decode cX14_household 35 = .ok (.aload_n 0, 1) := by decide +kernel
theorem dccX14_household_36 : decode cX14_household 36 = .ok (.getfield 26, 3) := by decide +kernel
theorem dccX14_household_39 : decode cX14_household 39 = .ok (.invokevirtual 38, 3) := by decide +kernel
theorem dccX14_household_42 : decode cX14_household 42 = .ok (.bipush 6, 2) := by decide +kernel
theorem dccX14_household_44 : decode cX14_household 44 = .ok (.if_icmp .ne 9, 3) := by decide +kernel
theorem dccX14_household_47 : decode cX14_household 47 = .ok (.aload_n 0, 1) := by decide +kernel
theorem dccX14_household_48 : decode cX14_household 48 = .ok (.iconst 3, 1) := by decide +kernel
theorem dccX14_household_49 : decode cX14_household 49 = .ok (.invokevirtual 46, 3) := by decide +kernel
theorem dccX14_household_52 : decode cX14_household 52 = .ok (.ireturn, 1) := by decide +kernel
theorem dccX14_household_53 : decode cX14_household 53 = .ok (.new 67, 3) := by decide +kernel
theorem dccX14_household_56 : decode cX14_household 56 = .ok (.dup, 1) := by decide +kernel
theorem dccX14_household_57 : decode cX14_household 57 = .ok (.invokespecial 69, 3) := by decide +kernel
theorem dccX14_household_60 : decode cX14_household 60 = .ok (.astore 4, 2) := by decide +kernel
theorem dccX14_household_62 : decode cX14_household 62 = .ok (.aload 4, 2) := by decide +kernel
theorem dccX14_household_64 : decode cX14_household 64 = .ok (.iload_n 1, 1) := by decide +kernel
theorem dccX14_household_65 : decode cX14_household 65 = .ok (.putfield 70, 3) := by decide +kernel
theorem dccX14_household_68 : decode cX14_household 68 = .ok (.aload 4, 2) := by decide +kernel
theorem dccX14_household_70 : decode cX14_household 70 = .ok (.iload_n 2, 1) := by decide +kernel
theorem dccX14_household_71 : decode cX14_household 71 = .ok (.putfield 73, 3) := by decide +kernel
theorem dccX14_household_74 : decode cX14_household 74 = .ok (.aload 4, 2) := by decide +kernel
theorem dccX14_household_76 : decode cX14_household 76 = .ok (.iload_n 3, 1) := by decide +kernel
theorem dccX14_household_77 : decode cX14_household 77 = .ok (.putfield 76, 3) := by decide +kernel
theorem dccX14_household_80 : decode cX14_household 80 = .ok (.aload 4, 2) := by decide +kernel
theorem dccX14_household_82 : decode cX14_household 82 = .ok (.aload_n 0, 1) := by decide +kernel
theorem dccX14_household_83 : decode cX14_household 83 = .ok (.iload_n 1, 1) := by decide +kernel
theorem dccX14_household_84 : decode cX14_household 84 = .ok (.invokevirtual 80, 3) := by decide +kernel
theorem dccX14_household_87 : decode cX14_household 87 = .ok (.ifCond .eq 7, 3) := by decide +kernel
theorem dccX14_household_90 : decode cX14_household 90 = .ok (.iconst 2, 1) := by decide +kernel
theorem dccX14_household_91 : decode cX14_household 91 = .ok (.goto 4, 3) := by decide +kernel
theorem dccX14_household_94 : decode cX14_household 94 = .ok (.iconst 0, 1) := by decide +kernel
theorem dccX14_household_95 : decode cX14_household 95 = .ok (.putfield 83, 3) := by decide +kernel
theorem dccX14_household_98 : decode cX14_household 98 = .ok (.aload_n 0, 1) := by decide +kernel
theorem dccX14_household_99 : decode cX14_household 99 = .ok (.getfield 26, 3) := by decide +kernel
theorem dccX14_household_102 : decode cX14_household 102 = .ok (.aload 4, 2) := by decide +kernel
theorem dccX14_household_104 : decode cX14_household 104 = .ok (.invokevirtual 50, 3) := by decide +kernel
theorem dccX14_household_107 : decode cX14_household 107 = .ok (.pop, 1) := by decide +kernel
theorem dccX14_household_108 : decode cX14_household 108 = .ok (.aload_n 0, 1) := by decide +kernel
theorem dccX14_household_109 : decode cX14_household 109 = .ok (.getfield 26, 3) := by decide +kernel
theorem dccX14_household_112 : decode cX14_household 112 = .ok (.invokevirtual 38, 3) := by decide +kernel
theorem dccX14_household_115 : decode cX14_household 115 = .ok (.iconst 1, 1) := by decide +kernel
theorem dccX14_household_116 : decode cX14_household 116 = .ok (.isub, 1) := by decide +kernel
theorem dccX14_household_117 : decode cX14_household 117 = .ok (.ireturn, 1) := by decide +kernel
theorem dccX14_init_0 : decode cX14_init 0 = .ok (.aload_n 0, 1) := by decide +kernel
theorem dccX14_init_1 : decode cX14_init 1 = .ok (.invokespecial 1, 3) := by decide +kernel
theorem dccX14_init_4 : decode cX14_init 4 = .ok (.aload_n 0, 1) := by decide +kernel
theorem dccX14_init_5 : decode cX14_init 5 = .ok (.bipush 10, 2) := by decide +kernel
theorem dccX14_init_7 : decode cX14_init 7 = .ok (.putfield 7, 3) := by decide +kernel
theorem dccX14_init_10 : decode cX14_init 10 = .ok (.aload_n 0, 1) := by decide +kernel
theorem dccX14_init_11 : decode cX14_init 11 = .ok (.iconst 1, 1) := by decide +kernel
theorem dccX14_init_12 : decode cX14_init 12 = .ok (.putfield 13, 3) := by decide +kernel
theorem dccX14_init_15 : decode cX14_init 15 = .ok (.aload_n 0, 1) := by decide +kernel
theorem dccX14_init_16 : decode cX14_init 16 = .ok (.new 16, 3) := by decide +kernel
theorem dccX14_init_19 : decode cX14_init 19 = .ok (.dup, 1) := by decide +kernel
theorem dccX14_init_20 : decode cX14_init 20 = .ok (.invokespecial 18, 3) := by decide +kernel
theorem dccX14_init_23 : decode cX14_init 23 = .ok (.putfield 19, 3) := by decide +kernel
theorem dccX14_init_26 : decode cX14_init 26 = .ok (.aload_n 0, 1) := by decide +kernel
theorem dccX14_init_27 : decode cX14_init 27 = .ok (.new 16, 3) := by decide +kernel
theorem dccX14_init_30 : decode cX14_init 30 = .ok (.dup, 1) := by decide +kernel
theorem dccX14_init_31 : decode cX14_init 31 = .ok (.invokespecial 18, 3) := by decide +kernel
theorem dccX14_init_34 : decode cX14_init 34 = .ok (.putfield 23, 3) := by decide +kernel
theorem dccX14_init_37 : decode cX14_init 37 = .ok (.aload_n 0, 1) := by decide +kernel
theorem dccX14_init_38 : decode cX14_init 38 = .ok (.new 16, 3) := by decide +kernel
theorem dccX14_init_41 : decode cX14_init 41 = .ok (.dup, 1) := by decide +kernel
theorem dccX14_init_42 : decode cX14_init 42 = .ok (.invokespecial 18, 3) := by decide +kernel
theorem dccX14_init_45 : decode cX14_init 45 = .ok (.putfield 26, 3) := by decide +kernel
theorem dccX14_init_48 : decode cX14_init 48 = .ok (.aload_n 0, 1) := by decide +kernel
theorem dccX14_init_49 : decode cX14_init 49 = .ok (.new 16, 3) := by decide +kernel
theorem dccX14_init_52 : decode cX14_init 52 = .ok (.dup, 1) := by decide +kernel
theorem dccX14_init_53 : decode cX14_init 53 = .ok (.invokespecial 18, 3) := by decide +kernel
theorem dccX14_init_56 : decode cX14_init 56 = .ok (.putfield 29, 3) := by decide +kernel
theorem dccX14_init_59 : decode cX14_init 59 = .ok (.aload_n 0, 1) := by decide +kernel
theorem dccX14_init_60 : decode cX14_init 60 = .ok (.new 16, 3) := by decide +kernel
theorem dccX14_init_63 : decode cX14_init 63 = .ok (.dup, 1) := by decide +kernel
theorem dccX14_init_64 : decode cX14_init 64 = .ok (.invokespecial 18, 3) := by decide +kernel
theorem dccX14_init_67 : decode cX14_init 67 = .ok (.putfield 32, 3) := by decide +kernel
theorem dccX14_init_70 : decode cX14_init 70 = .ok (.return_, 1) := by decide +kernel
theorem dccX14_is_0 : decode cX14_is 0 = .ok (.iload_n 0, 1) := by decide +kernel
theorem dccX14_is_1 : decode cX14_is 1 = .ok (.iload_n 1, 1) := by decide +kernel
theorem dccX14_is_2 : decode cX14_is 2 = .ok (.if_icmp .lt 12, 3) := by decide +kernel
theorem dccX14_is_5 : decode cX14_is 5 = .ok (.iload_n 0, 1) := by decide +kernel
theorem dccX14_is_6 : decode cX14_is 6 = .ok (.iload_n 2, 1) := by decide +kernel
theorem dccX14_is_7 : decode cX14_is 7 = .ok (.if_icmp .gt 7, 3) := by decide +kernel
theorem dccX14_is_10 : decode cX14_is 10 = .ok (.iconst 1, 1) := by decide +kernel
theorem dccX14_is_11 : decode cX14_is 11 = .ok (.goto 4, 3) := by decide +kernel
theorem dccX14_is_14 : decode cX14_is 14 = .ok (.iconst 0, 1) := by decide +kernel
theorem dccX14_is_15 : decode cX14_is 15 = .ok (.ireturn, 1) := by decide +kernel
theorem dccX14_isBest_0 : decode cX14_isBest 0 = .ok (.iload_n 3, 1) := by decide +kernel
theorem dccX14_isBest_1 : decode cX14_isBest 1 = .ok (.aload_n 2, 1) := by decide +kernel
theorem dccX14_isBest_2 : decode cX14_isBest 2 = .ok (.arraylength, 1) := by decide +kernel
theorem dccX14_isBest_3 : decode cX14_isBest 3 = .ok (.if_icmp .ne 50, 3) := by decide +kernel
theorem dccX14_isBest_6 : decode cX14_isBest 6 = .ok (.aload_n 0, 1) := by decide +kernel
theorem dccX14_isBest_7 : decode cX14_isBest 7 = .ok (.aload_n 2, 1) := by decide +kernel
theorem dccX14_isBest_8 : decode cX14_isBest 8 = .ok (.invokevirtual 248, 3) := by decide +kernel
theorem dccX14_isBest_11 : decode cX14_isBest 11 = .ok (.ifCond .ne 5, 3) := by decide +kernel
theorem dccX14_isBest_14 : decode cX14_isBest 14 = .ok (.iconst 1, 1) := by decide +kernel
theorem dccX14_isBest_15 : decode cX14_isBest 15 = .ok (.ireturn, 1) := by decide +kernel
theorem dccX14_isBest_16 : decode cX14_isBest 16 = .ok (.iconst 0, 1) := by decide +kernel
theorem dccX14_isBest_17 : decode cX14_isBest 17 = .ok (.istore 4, 2) := by decide +kernel
theorem dccX14_isBest_19 : decode cX14_isBest 19 = .ok (.iload 4, 2) := by decide +kernel
theorem dccX14_isBest_21 : decode cX14_isBest 21 = .ok (.aload_n 2, 1) := by decide +kernel
theorem dccX14_isBest_22 : decode cX14_isBest 22 = .ok (.arraylength, 1) := by decide +kernel
theorem dccX14_isBest_23 : decode cX14_isBest 23 = .ok (.if_icmp .ge 28, 3) := by decide +kernel
theorem dccX14_isBest_26 : decode cX14_isBest 26 = .ok (.aload_n 0, 1) := by decide +kernel
theorem dccX14_isBest_27 : decode cX14_isBest 27 = .ok (.iload 4, 2) := by decide +kernel
theorem dccX14_isBest_29 : decode cX14_isBest 29 = .ok (.aload_n 2, 1) := by decide +kernel
theorem dccX14_isBest_30 : decode cX14_isBest 30 = .ok (.iload 4, 2) := by decide +kernel
theorem dccX14_isBest_32 : decode cX14_isBest 32 = .ok (.iaload, 1) := by decide +kernel
theorem dccX14_isBest_33 : decode cX14_isBest 33 = .ok (.aload_n 1, 1) := by decide +kernel
theorem dccX14_isBest_34 : decode cX14_isBest 34 = .ok (.iload 4, 2) := by decide +kernel
theorem dccX14_isBest_36 : decode cX14_isBest 36 = .ok (.iaload, 1) := by decide +kernel
theorem dccX14_isBest_37 : decode cX14_isBest 37 = .ok (.invokevirtual 192, 3) := by decide +kernel
theorem dccX14_isBest_40 : decode cX14_isBest 40 = .ok (.ifCond .eq 5, 3) := by decide +kernel
theorem dccX14_isBest_43 : decode cX14_isBest 43 = .ok (.iconst 0, 1) := by decide +kernel
theorem dccX14_isBest_44 : decode cX14_isBest 44 = .ok (.ireturn, 1) := by decide +kernel
theorem dccX14_isBest_45 : decode cX14_isBest 45 = .ok (.iinc 4 1, 3) := by decide +kernel
theorem dccX14_isBest_48 : decode cX14_isBest 48 = .ok (.goto (-29), 3) := by decide +kernel
theorem dccX14_isBest_51 : decode cX14_isBest 51 = .ok (.iconst 1, 1) := by decide +kernel
theorem dccX14_isBest_52 : decode cX14_isBest 52 = .ok (.ireturn, 1) := by decide +kernel
theorem dccX14_isBest_53 : decode cX14_isBest 53 = .ok (.aload_n 0, 1) := by decide +kernel
theorem dccX14_isBest_54 : decode cX14_isBest 54 = .ok (.invokevirtual 186, 3) := by decide +kernel
theorem dccX14_isBest_57 : decode cX14_isBest 57 = .ok (.iload_n 3, 1) := by decide +kernel
theorem dccX14_isBest_58 : decode cX14_isBest 58 = .ok (.invokestatic 162, 3) := by decide +kernel
theorem dccX14_isBest_61 : decode cX14_isBest 61 = .ok (.ifCond .eq 15, 3) := by decide +kernel
theorem dccX14_isBest_64 : decode cX14_isBest 64 = .ok (.aload_n 0, 1) := by decide +kernel
theorem dccX14_isBest_65 : decode cX14_isBest 65 = .ok (.getfield 23, 3) := by decide +kernel
theorem dccX14_isBest_68 : decode cX14_isBest 68 = .ok (.invokevirtual 38, 3) := by decide +kernel
theorem dccX14_isBest_71 : decode cX14_isBest 71 = .ok (.iconst 1, 1) := by decide +kernel
theorem dccX14_isBest_72 : decode cX14_isBest 72 = .ok (.isub, 1) := by decide +kernel
theorem dccX14_isBest_73 : decode cX14_isBest 73 = .ok (.goto 4, 3) := by decide +kernel
theorem dccX14_isBest_76 : decode cX14_isBest 76 = .ok (.iconst (-1), 1) := by decide +kernel
theorem dccX14_isBest_77 : decode cX14_isBest 77 = .ok (.istore 4, 2) := by decide +kernel
theorem dccX14_isBest_79 : decode cX14_isBest 79 = .ok (.iconst (-1), 1) := by decide +kernel
theorem dccX14_isBest_80 : decode cX14_isBest 80 = .ok (.istore 5, 2) := by decide +kernel
theorem dccX14_isBest_82 : decode cX14_isBest 82 = .ok (.iload 5, 2) := by decide +kernel
theorem dccX14_isBest_84 : decode cX14_isBest 84 = .ok (.iload 4, 2) := by decide +kernel
theorem dccX14_isBest_86 : decode cX14_isBest 86 = .ok (.if_icmp .gt 28, 3) := by decide +kernel
theorem dccX14_isBest_89 : decode cX14_isBest 89 = .ok (.aload_n 2, 1) := by decide +kernel
theorem dccX14_isBest_90 : decode cX14_isBest 90 = .ok (.iload_n 3, 1) := by decide +kernel
theorem dccX14_isBest_91 : decode cX14_isBest 91 = .ok (.iload 5, 2) := by decide +kernel
theorem dccX14_isBest_93 : decode cX14_isBest 93 = .ok (.iastore, 1) := by decide +kernel
theorem dccX14_isBest_94 : decode cX14_isBest 94 = .ok (.aload_n 0, 1) := by decide +kernel
theorem dccX14_isBest_95 : decode cX14_isBest 95 = .ok (.aload_n 1, 1) := by decide +kernel
theorem dccX14_isBest_96 : decode cX14_isBest 96 = .ok (.aload_n 2, 1) := by decide +kernel
theorem dccX14_isBest_97 : decode cX14_isBest 97 = .ok (.iload_n 3, 1) := by decide +kernel
theorem dccX14_isBest_98 : decode cX14_isBest 98 = .ok (.iconst 1, 1) := by decide +kernel
theorem dccX14_isBest_99 : decode cX14_isBest 99 = .ok (.iadd, 1) := by decide +kernel
theorem dccX14_isBest_100 : decode cX14_isBest 100 = .ok (.invokevirtual 255, 3) := by decide +kernel
theorem dccX14_isBest_103 : decode cX14_isBest 103 = .ok (.ifCond .ne 5, 3) := by decide +kernel
theorem dccX14_isBest_106 : decode cX14_isBest 106 = .ok (.iconst 0, 1) := by decide +kernel
theorem dccX14_isBest_107 : decode cX14_isBest 107 = .ok (.ireturn, 1) := by decide +kernel
theorem dccX14_isBest_108 : decode cX14_isBest 108 = .ok (.iinc 5 1, 3) := by decide +kernel
theorem dccX14_isBest_111 : decode cX14_isBest 111 = .ok (.goto (-29), 3) := by decide +kernel
theorem dccX14_isBest_114 : decode cX14_isBest 114 = .ok (.iconst 1, 1) := by decide +kernel
theorem dccX14_isBest_115 : decode cX14_isBest 115 = .ok (.ireturn, 1) := by decide +kernel
theorem dccX14_isBetterLiked_0 : decode cX14_isBetterLiked 0 = .ok (.aload_n 0, 1) := by decide +kernel
theorem dccX14_isBetterLiked_1 : decode cX14_isBetterLiked 1 = .ok (.getfield 26, 3) := by decide +kernel
theorem dccX14_isBetterLiked_4 : decode cX14_isBetterLiked 4 = .ok (.iload_n 1, 1) := by decide +kernel
theorem dccX14_isBetterLiked_5 : decode cX14_isBetterLiked 5 = .ok (.invokevirtual 58, 3) := by decide +kernel
theorem dccX14_isBetterLiked_8 : decode cX14_isBetterLiked 8 = .ok (.checkcast 67, 3) := by decide +kernel
theorem dccX14_isBetterLiked_11 : decode cX14_isBetterLiked 11 = .ok (.astore_n 3, 1) := by decide +kernel
theorem dccX14_isBetterLiked_12 : decode cX14_isBetterLiked 12 = .ok (.aload_n 0, 1) := by decide +kernel
theorem dccX14_isBetterLiked_13 : decode cX14_isBetterLiked 13 = .ok (.getfield 26, 3) := by decide +kernel
theorem dccX14_isBetterLiked_16 : decode cX14_isBetterLiked 16 = .ok (.iload_n 2, 1) := by decide +kernel
theorem dccX14_isBetterLiked_17 : decode cX14_isBetterLiked 17 = .ok (.invokevirtual 58, 3) := by decide +kernel
theorem dccX14_isBetterLiked_20 : decode cX14_isBetterLiked 20 = .ok (.checkcast 67, 3) := by decide +kernel
theorem dccX14_isBetterLiked_23 : decode cX14_isBetterLiked 23 = .ok (.astore 4, 2) := by decide +kernel
theorem dccX14_isBetterLiked_25 : decode cX14_isBetterLiked 25 = .ok (.aload_n 3, 1) := by decide +kernel
theorem dccX14_isBetterLiked_26 : decode cX14_isBetterLiked 26 = .ok (.getfield 76, 3) := by decide +kernel
theorem dccX14_isBetterLiked_29 : decode cX14_isBetterLiked 29 = .ok (.aload 4, 2) := by decide +kernel
theorem dccX14_isBetterLiked_31 : decode cX14_isBetterLiked 31 = .ok (.getfield 76, 3) := by decide +kernel
theorem dccX14_isBetterLiked_34 : decode cX14_isBetterLiked 34 = .ok (.if_icmp .eq 8, 3) := by decide +kernel
theorem dccX14_isBetterLiked_37 : decode cX14_isBetterLiked 37 = .ok (.aload_n 3, 1) := by decide +kernel
theorem dccX14_isBetterLiked_38 : decode cX14_isBetterLiked 38 = .ok (.getfield 76, 3) := by decide +kernel
theorem dccX14_isBetterLiked_41 : decode cX14_isBetterLiked 41 = .ok (.ireturn, 1) := by decide +kernel
theorem dccX14_isBetterLiked_42 : decode cX14_isBetterLiked 42 = .ok (.aload_n 3, 1) := by decide +kernel
theorem dccX14_isBetterLiked_43 : decode cX14_isBetterLiked 43 = .ok (.getfield 73, 3) := by decide +kernel
theorem dccX14_isBetterLiked_46 : decode cX14_isBetterLiked 46 = .ok (.aload 4, 2) := by decide +kernel
theorem dccX14_isBetterLiked_48 : decode cX14_isBetterLiked 48 = .ok (.getfield 73, 3) := by decide +kernel
theorem dccX14_isBetterLiked_51 : decode cX14_isBetterLiked 51 = .ok (.if_icmp .gt 20, 3) := by decide +kernel
theorem dccX14_isBetterLiked_54 : decode cX14_isBetterLiked 54 = .ok (.aload_n 3, 1) := by decide +kernel
theorem dccX14_isBetterLiked_55 : decode cX14_isBetterLiked 55 = .ok (.getfield 73, 3) := by decide +kernel
theorem dccX14_isBetterLiked_58 : decode cX14_isBetterLiked 58 = .ok (.aload 4, 2) := by decide +kernel
theorem dccX14_isBetterLiked_60 : decode cX14_isBetterLiked 60 = .ok (.getfield 73, 3) := by decide +kernel
theorem dccX14_isBetterLiked_63 : decode cX14_isBetterLiked 63 = .ok (.if_icmp .ne 12, 3) := by decide +kernel
theorem dccX14_isBetterLiked_66 : decode cX14_isBetterLiked 66 = .ok (.iload_n 1, 1) := by decide +kernel
theorem dccX14_isBetterLiked_67 : decode cX14_isBetterLiked 67 = .ok (.iload_n 2, 1) := by decide +kernel
theorem dccX14_isBetterLiked_68 : decode cX14_isBetterLiked 68 = .ok (.if_icmp .ge 7, 3) := by decide +kernel
theorem dccX14_isBetterLiked_71 : decode cX14_isBetterLiked 71 = .ok (.iconst 1, 1) := by decide +kernel
theorem dccX14_isBetterLiked_72 : decode cX14_isBetterLiked 72 = .ok (.goto 4, 3) := by decide +kernel
theorem dccX14_isBetterLiked_75 : decode cX14_isBetterLiked 75 = .ok (.iconst 0, 1) := by decide +kernel
theorem dccX14_isBetterLiked_76 : decode cX14_isBetterLiked 76 = .ok (.ireturn, 1) := by decide +kernel
theorem dccX14_isFlooded_0 : decode cX14_isFlooded 0 = .ok (.aload_n 0, 1) := by decide +kernel
theorem dccX14_isFlooded_1 : decode cX14_isFlooded 1 = .ok (.getfield 7, 3) := by decide +kernel
theorem dccX14_isFlooded_4 : decode cX14_isFlooded 4 = .ok (.aload_n 0, 1) := by decide +kernel
theorem dccX14_isFlooded_5 : decode cX14_isFlooded 5 = .ok (.getfield 19, 3) := by decide +kernel
theorem dccX14_isFlooded_8 : decode cX14_isFlooded 8 = .ok (.iload_n 1, 1) := by decide +kernel
theorem dccX14_isFlooded_9 : decode cX14_isFlooded 9 = .ok (.invokevirtual 58, 3) := by decide +kernel
theorem dccX14_isFlooded_12 : decode cX14_isFlooded 12 = .ok (.checkcast 62, 3) := by decide +kernel
theorem dccX14_isFlooded_15 : decode cX14_isFlooded 15 = .ok (.iconst 0, 1) := by decide +kernel
theorem dccX14_isFlooded_16 : decode cX14_isFlooded 16 = .ok (.iaload, 1) := by decide +kernel
theorem dccX14_isFlooded_17 : decode cX14_isFlooded 17 = .ok (.if_icmp .lt 7, 3) := by decide +kernel
theorem dccX14_isFlooded_20 : decode cX14_isFlooded 20 = .ok (.iconst 1, 1) := by decide +kernel
theorem dccX14_isFlooded_21 : decode cX14_isFlooded 21 = .ok (.goto 4, 3) := by decide +kernel
theorem dccX14_isFlooded_24 : decode cX14_isFlooded 24 = .ok (.iconst 0, 1) := by decide +kernel
theorem dccX14_isFlooded_25 : decode cX14_isFlooded 25 = .ok (.ireturn, 1) := by decide +kernel
theorem dccX14_isHall_0 : decode cX14_isHall 0 = .ok (.iload_n 1, 1) := by decide +kernel
theorem dccX14_isHall_1 : decode cX14_isHall 1 = .ok (.iconst 0, 1) := by decide +kernel
theorem dccX14_isHall_2 : decode cX14_isHall 2 = .ok (.aload_n 0, 1) := by decide +kernel
theorem dccX14_isHall_3 : decode cX14_isHall 3 = .ok (.getfield 23, 3) := by decide +kernel
theorem dccX14_isHall_6 : decode cX14_isHall 6 = .ok (.invokevirtual 38, 3) := by decide +kernel
theorem dccX14_isHall_9 : decode cX14_isHall 9 = .ok (.iconst 1, 1) := by decide +kernel
theorem dccX14_isHall_10 : decode cX14_isHall 10 = .ok (.isub, 1) := by decide +kernel
theorem dccX14_isHall_11 : decode cX14_isHall 11 = .ok (.invokestatic 42, 3) := by decide +kernel
theorem dccX14_isHall_14 : decode cX14_isHall 14 = .ok (.ireturn, 1) := by decide +kernel
theorem dccX14_isHousehold_0 : decode cX14_isHousehold 0 = .ok (.iload_n 1, 1) := by decide +kernel
theorem dccX14_isHousehold_1 : decode cX14_isHousehold 1 = .ok (.iconst 0, 1) := by decide +kernel
theorem dccX14_isHousehold_2 : decode cX14_isHousehold 2 = .ok (.aload_n 0, 1) := by decide +kernel
theorem dccX14_isHousehold_3 : decode cX14_isHousehold 3 = .ok (.getfield 26, 3) := by decide +kernel
theorem dccX14_isHousehold_6 : decode cX14_isHousehold 6 = .ok (.invokevirtual 38, 3) := by decide +kernel
theorem dccX14_isHousehold_9 : decode cX14_isHousehold 9 = .ok (.iconst 1, 1) := by decide +kernel
theorem dccX14_isHousehold_10 : decode cX14_isHousehold 10 = .ok (.isub, 1) := by decide +kernel
theorem dccX14_isHousehold_11 : decode cX14_isHousehold 11 = .ok (.invokestatic 42, 3) := by decide +kernel
theorem dccX14_isHousehold_14 : decode cX14_isHousehold 14 = .ok (.ireturn, 1) := by decide +kernel
theorem dccX14_isIn_0 : decode cX14_isIn 0 = .ok (.iload_n 0, 1) := by decide +kernel
theorem dccX14_isIn_1 : decode cX14_isIn 1 = .ok (.iload_n 1, 1) := by decide +kernel
theorem dccX14_isIn_2 : decode cX14_isIn 2 = .ok (.ishr, 1) := by decide +kernel
theorem dccX14_isIn_3 : decode cX14_isIn 3 = .ok (.iconst 1, 1) := by decide +kernel
theorem dccX14_isIn_4 : decode cX14_isIn 4 = .ok (.iand, 1) := by decide +kernel
theorem dccX14_isIn_5 : decode cX14_isIn 5 = .ok (.iconst 1, 1) := by decide +kernel
theorem dccX14_isIn_6 : decode cX14_isIn 6 = .ok (.if_icmp .ne 7, 3) := by decide +kernel
theorem dccX14_isIn_9 : decode cX14_isIn 9 = .ok (.iconst 1, 1) := by decide +kernel
theorem dccX14_isIn_10 : decode cX14_isIn 10 = .ok (.goto 4, 3) := by decide +kernel
theorem dccX14_isIn_13 : decode cX14_isIn 13 = .ok (.iconst 0, 1) := by decide +kernel
theorem dccX14_isIn_14 : decode cX14_isIn 14 = .ok (.ireturn, 1) := by decide +kernel
theorem dccX14_isName_0 : decode cX14_isName 0 = .ok (.iload_n 0, 1) := by decide +kernel
theorem dccX14_isName_1 : decode cX14_isName 1 = .ok (.iconst 1, 1) := by decide +kernel
theorem dccX14_isName_2 : decode cX14_isName 2 = .ok (.ldc 136, 2) := by decide +kernel
theorem dccX14_isName_4 : decode cX14_isName 4 = .ok (.invokestatic 42, 3) := by decide +kernel
theorem dccX14_isName_7 : decode cX14_isName 7 = .ok (.ifCond .ne 5, 3) := by decide +kernel
theorem dccX14_isName_10 : decode cX14_isName 10 = .ok (.iconst 0, 1) := by decide +kernel
theorem dccX14_isName_11 : decode cX14_isName 11 = .ok (.ireturn, 1) := by decide +kernel
theorem dccX14_isName_12 : decode cX14_isName 12 = .ok (.iload_n 0, 1) := by decide +kernel
theorem dccX14_isName_13 : decode cX14_isName 13 = .ok (.istore_n 1, 1) := by decide +kernel
theorem dccX14_isName_14 : decode cX14_isName 14 = .ok (.iload_n 1, 1) := by decide +kernel
theorem dccX14_isName_15 : decode cX14_isName 15 = .ok (.ifCond .le 20, 3) := by decide +kernel
theorem dccX14_isName_18 : decode cX14_isName 18 = .ok (.iload_n 1, 1) := by decide +kernel
theorem dccX14_isName_19 : decode cX14_isName 19 = .ok (.bipush 10, 2) := by decide +kernel
theorem dccX14_isName_21 : decode cX14_isName 21 = .ok (.irem, 1) := by decide +kernel
theorem dccX14_isName_22 : decode cX14_isName 22 = .ok (.ifCond .ne 5, 3) := by decide +kernel
theorem dccX14_isName_25 : decode cX14_isName 25 = .ok (.iconst 0, 1) := by decide +kernel
theorem dccX14_isName_26 : decode cX14_isName 26 = .ok (.ireturn, 1) := by decide +kernel
theorem dccX14_isName_27 : decode cX14_isName 27 = .ok (.iload_n 1, 1) := by decide +kernel
theorem dccX14_isName_28 : decode cX14_isName 28 = .ok (.bipush 10, 2) := by decide +kernel
theorem dccX14_isName_30 : decode cX14_isName 30 = .ok (.idiv, 1) := by decide +kernel
theorem dccX14_isName_31 : decode cX14_isName 31 = .ok (.istore_n 1, 1) := by decide +kernel
theorem dccX14_isName_32 : decode cX14_isName 32 = .ok (.goto (-18), 3) := by decide +kernel
theorem dccX14_isName_35 : decode cX14_isName 35 = .ok (.iconst 1, 1) := by decide +kernel
theorem dccX14_isName_36 : decode cX14_isName 36 = .ok (.ireturn, 1) := by decide +kernel
theorem dccX14_isSound_0 : decode cX14_isSound 0 = .ok (.aload_n 0, 1) := by decide +kernel
theorem dccX14_isSound_1 : decode cX14_isSound 1 = .ok (.iconst 0, 1) := by decide +kernel
theorem dccX14_isSound_2 : decode cX14_isSound 2 = .ok (.putfield 35, 3) := by decide +kernel
theorem dccX14_isSound_5 : decode cX14_isSound 5 = .ok (.aload_n 0, 1) := by decide +kernel
theorem dccX14_isSound_6 : decode cX14_isSound 6 = .ok (.invokevirtual 259, 3) := by decide +kernel
theorem dccX14_isSound_9 : decode cX14_isSound 9 = .ok (.ireturn, 1) := by decide +kernel
theorem dccX14_isSoundNow_0 : decode cX14_isSoundNow 0 = .ok (.aload_n 0, 1) := by decide +kernel
theorem dccX14_isSoundNow_1 : decode cX14_isSoundNow 1 = .ok (.invokevirtual 208, 3) := by decide +kernel
theorem dccX14_isSoundNow_4 : decode cX14_isSoundNow 4 = .ok (.astore_n 1, 1) := by decide +kernel
theorem dccX14_isSoundNow_5 : decode cX14_isSoundNow 5 = .ok (.aload_n 0, 1) := by decide +kernel
theorem dccX14_isSoundNow_6 : decode cX14_isSoundNow 6 = .ok (.aload_n 1, 1) := by decide +kernel
theorem dccX14_isSoundNow_7 : decode cX14_isSoundNow 7 = .ok (.invokevirtual 248, 3) := by decide +kernel
theorem dccX14_isSoundNow_10 : decode cX14_isSoundNow 10 = .ok (.ifCond .eq 16, 3) := by decide +kernel
theorem dccX14_isSoundNow_13 : decode cX14_isSoundNow 13 = .ok (.aload_n 0, 1) := by decide +kernel
theorem dccX14_isSoundNow_14 : decode cX14_isSoundNow 14 = .ok (.aload_n 1, 1) := by decide +kernel
theorem dccX14_isSoundNow_15 : decode cX14_isSoundNow 15 = .ok (.aload_n 1, 1) := by decide +kernel
theorem dccX14_isSoundNow_16 : decode cX14_isSoundNow 16 = .ok (.arraylength, 1) := by decide +kernel
theorem dccX14_isSoundNow_17 : decode cX14_isSoundNow 17 = .ok (.newarray .int, 2) := by decide +kernel
theorem dccX14_isSoundNow_19 : decode cX14_isSoundNow 19 = .ok (.iconst 0, 1) := by decide +kernel
theorem dccX14_isSoundNow_20 : decode cX14_isSoundNow 20 = .ok (.invokevirtual 255, 3) := by decide +kernel
theorem dccX14_isSoundNow_23 : decode cX14_isSoundNow 23 = .ok (.ifCond .ne 5, 3) := by decide +kernel
theorem dccX14_isSoundNow_26 : decode cX14_isSoundNow 26 = .ok (.iconst 0, 1) := by decide +kernel
theorem dccX14_isSoundNow_27 : decode cX14_isSoundNow 27 = .ok (.ireturn, 1) := by decide +kernel
theorem dccX14_isSoundNow_28 : decode cX14_isSoundNow 28 = .ok (.aload_n 0, 1) := by decide +kernel
theorem dccX14_isSoundNow_29 : decode cX14_isSoundNow 29 = .ok (.aload_n 0, 1) := by decide +kernel
theorem dccX14_isSoundNow_30 : decode cX14_isSoundNow 30 = .ok (.invokevirtual 212, 3) := by decide +kernel
theorem dccX14_isSoundNow_33 : decode cX14_isSoundNow 33 = .ok (.invokevirtual 218, 3) := by decide +kernel
theorem dccX14_isSoundNow_36 : decode cX14_isSoundNow 36 = .ok (.istore_n 2, 1) := by decide +kernel
theorem dccX14_isSoundNow_37 : decode cX14_isSoundNow 37 = .ok (.iconst 0, 1) := by decide +kernel
theorem dccX14_isSoundNow_38 : decode cX14_isSoundNow 38 = .ok (.istore_n 3, 1) := by decide +kernel
theorem dccX14_isSoundNow_39 : decode cX14_isSoundNow 39 = .ok (.iload_n 3, 1) := by decide +kernel
theorem dccX14_isSoundNow_40 : decode cX14_isSoundNow 40 = .ok (.iconst 1, 1) := by decide +kernel
theorem dccX14_isSoundNow_41 : decode cX14_isSoundNow 41 = .ok (.aload_n 0, 1) := by decide +kernel
theorem dccX14_isSoundNow_42 : decode cX14_isSoundNow 42 = .ok (.getfield 26, 3) := by decide +kernel
theorem dccX14_isSoundNow_45 : decode cX14_isSoundNow 45 = .ok (.invokevirtual 38, 3) := by decide +kernel
theorem dccX14_isSoundNow_48 : decode cX14_isSoundNow 48 = .ok (.ishl, 1) := by decide +kernel
theorem dccX14_isSoundNow_49 : decode cX14_isSoundNow 49 = .ok (.if_icmp .ge 28, 3) := by decide +kernel
theorem dccX14_isSoundNow_52 : decode cX14_isSoundNow 52 = .ok (.aload_n 0, 1) := by decide +kernel
theorem dccX14_isSoundNow_53 : decode cX14_isSoundNow 53 = .ok (.iload_n 3, 1) := by decide +kernel
theorem dccX14_isSoundNow_54 : decode cX14_isSoundNow 54 = .ok (.invokevirtual 218, 3) := by decide +kernel
theorem dccX14_isSoundNow_57 : decode cX14_isSoundNow 57 = .ok (.iload_n 2, 1) := by decide +kernel
theorem dccX14_isSoundNow_58 : decode cX14_isSoundNow 58 = .ok (.if_icmp .le 13, 3) := by decide +kernel
theorem dccX14_isSoundNow_61 : decode cX14_isSoundNow 61 = .ok (.aload_n 0, 1) := by decide +kernel
theorem dccX14_isSoundNow_62 : decode cX14_isSoundNow 62 = .ok (.iload_n 3, 1) := by decide +kernel
theorem dccX14_isSoundNow_63 : decode cX14_isSoundNow 63 = .ok (.invokevirtual 180, 3) := by decide +kernel
theorem dccX14_isSoundNow_66 : decode cX14_isSoundNow 66 = .ok (.ifCond .eq 5, 3) := by decide +kernel
theorem dccX14_isSoundNow_69 : decode cX14_isSoundNow 69 = .ok (.iconst 0, 1) := by decide +kernel
theorem dccX14_isSoundNow_70 : decode cX14_isSoundNow 70 = .ok (.ireturn, 1) := by decide +kernel
theorem dccX14_isSoundNow_71 : decode cX14_isSoundNow 71 = .ok (.iinc 3 1, 3) := by decide +kernel
theorem dccX14_isSoundNow_74 : decode cX14_isSoundNow 74 = .ok (.goto (-35), 3) := by decide +kernel
theorem dccX14_isSoundNow_77 : decode cX14_isSoundNow 77 = .ok (.aload_n 0, 1) := by decide +kernel
theorem dccX14_isSoundNow_78 : decode cX14_isSoundNow 78 = .ok (.invokevirtual 228, 3) := by decide +kernel
theorem dccX14_isSoundNow_81 : decode cX14_isSoundNow 81 = .ok (.aload_n 0, 1) := by decide +kernel
theorem dccX14_isSoundNow_82 : decode cX14_isSoundNow 82 = .ok (.getfield 130, 3) := by decide +kernel
theorem dccX14_isSoundNow_85 : decode cX14_isSoundNow 85 = .ok (.iadd, 1) := by decide +kernel
theorem dccX14_isSoundNow_86 : decode cX14_isSoundNow 86 = .ok (.aload_n 0, 1) := by decide +kernel
theorem dccX14_isSoundNow_87 : decode cX14_isSoundNow 87 = .ok (.getfield 121, 3) := by decide +kernel
theorem dccX14_isSoundNow_90 : decode cX14_isSoundNow 90 = .ok (.iadd, 1) := by decide +kernel
theorem dccX14_isSoundNow_91 : decode cX14_isSoundNow 91 = .ok (.aload_n 0, 1) := by decide +kernel
theorem dccX14_isSoundNow_92 : decode cX14_isSoundNow 92 = .ok (.getfield 127, 3) := by decide +kernel
theorem dccX14_isSoundNow_95 : decode cX14_isSoundNow 95 = .ok (.if_icmp .ne 21, 3) := by decide +kernel
theorem dccX14_isSoundNow_98 : decode cX14_isSoundNow 98 = .ok (.aload_n 0, 1) := by decide +kernel
theorem dccX14_isSoundNow_99 : decode cX14_isSoundNow 99 = .ok (.invokevirtual 171, 3) := by decide +kernel
theorem dccX14_isSoundNow_102 : decode cX14_isSoundNow 102 = .ok (.aload_n 0, 1) := by decide +kernel
theorem dccX14_isSoundNow_103 : decode cX14_isSoundNow 103 = .ok (.getfield 32, 3) := by decide +kernel
theorem dccX14_isSoundNow_106 : decode cX14_isSoundNow 106 = .ok (.invokevirtual 38, 3) := by decide +kernel
theorem dccX14_isSoundNow_109 : decode cX14_isSoundNow 109 = .ok (.if_icmp .gt 7, 3) := by decide +kernel
theorem dccX14_isSoundNow_112 : decode cX14_isSoundNow 112 = .ok (.iconst 1, 1) := by decide +kernel
theorem dccX14_isSoundNow_113 : decode cX14_isSoundNow 113 = .ok (.goto 4, 3) := by decide +kernel
theorem dccX14_isSoundNow_116 : decode cX14_isSoundNow 116 = .ok (.iconst 0, 1) := by decide +kernel
theorem dccX14_isSoundNow_117 : decode cX14_isSoundNow 117 = .ok (.ireturn, 1) := by decide +kernel
theorem dccX14_isStable_0 : decode cX14_isStable 0 = .ok (.aload_n 0, 1) := by decide +kernel
theorem dccX14_isStable_1 : decode cX14_isStable 1 = .ok (.iconst 0, 1) := by decide +kernel
theorem dccX14_isStable_2 : decode cX14_isStable 2 = .ok (.putfield 35, 3) := by decide +kernel
theorem dccX14_isStable_5 : decode cX14_isStable 5 = .ok (.aload_n 0, 1) := by decide +kernel
theorem dccX14_isStable_6 : decode cX14_isStable 6 = .ok (.getfield 26, 3) := by decide +kernel
theorem dccX14_isStable_9 : decode cX14_isStable 9 = .ok (.invokevirtual 38, 3) := by decide +kernel
theorem dccX14_isStable_12 : decode cX14_isStable 12 = .ok (.newarray .int, 2) := by decide +kernel
theorem dccX14_isStable_14 : decode cX14_isStable 14 = .ok (.astore_n 2, 1) := by decide +kernel
theorem dccX14_isStable_15 : decode cX14_isStable 15 = .ok (.iload_n 1, 1) := by decide +kernel
theorem dccX14_isStable_16 : decode cX14_isStable 16 = .ok (.istore_n 3, 1) := by decide +kernel
theorem dccX14_isStable_17 : decode cX14_isStable 17 = .ok (.aload_n 2, 1) := by decide +kernel
theorem dccX14_isStable_18 : decode cX14_isStable 18 = .ok (.arraylength, 1) := by decide +kernel
theorem dccX14_isStable_19 : decode cX14_isStable 19 = .ok (.iconst 1, 1) := by decide +kernel
theorem dccX14_isStable_20 : decode cX14_isStable 20 = .ok (.isub, 1) := by decide +kernel
theorem dccX14_isStable_21 : decode cX14_isStable 21 = .ok (.istore 4, 2) := by decide +kernel
theorem dccX14_isStable_23 : decode cX14_isStable 23 = .ok (.iload 4, 2) := by decide +kernel
theorem dccX14_isStable_25 : decode cX14_isStable 25 = .ok (.ifCond .lt 66, 3) := by decide +kernel
theorem dccX14_isStable_28 : decode cX14_isStable 28 = .ok (.aload_n 2, 1) := by decide +kernel
theorem dccX14_isStable_29 : decode cX14_isStable 29 = .ok (.iload 4, 2) := by decide +kernel
theorem dccX14_isStable_31 : decode cX14_isStable 31 = .ok (.iconst (-1), 1) := by decide +kernel
theorem dccX14_isStable_32 : decode cX14_isStable 32 = .ok (.iastore, 1) := by decide +kernel
theorem dccX14_isStable_33 : decode cX14_isStable 33 = .ok (.aload_n 0, 1) := by decide +kernel
theorem dccX14_isStable_34 : decode cX14_isStable 34 = .ok (.invokevirtual 186, 3) := by decide +kernel
theorem dccX14_isStable_37 : decode cX14_isStable 37 = .ok (.iload 4, 2) := by decide +kernel
theorem dccX14_isStable_39 : decode cX14_isStable 39 = .ok (.invokestatic 162, 3) := by decide +kernel
theorem dccX14_isStable_42 : decode cX14_isStable 42 = .ok (.ifCond .ne 6, 3) := by decide +kernel
theorem dccX14_isStable_45 : decode cX14_isStable 45 = .ok (.goto 40, 3) := by decide +kernel
theorem dccX14_isStable_48 : decode cX14_isStable 48 = .ok (.aload_n 2, 1) := by decide +kernel
theorem dccX14_isStable_49 : decode cX14_isStable 49 = .ok (.iload 4, 2) := by decide +kernel
theorem dccX14_isStable_51 : decode cX14_isStable 51 = .ok (.iload_n 3, 1) := by decide +kernel
theorem dccX14_isStable_52 : decode cX14_isStable 52 = .ok (.bipush 10, 2) := by decide +kernel
theorem dccX14_isStable_54 : decode cX14_isStable 54 = .ok (.irem, 1) := by decide +kernel
theorem dccX14_isStable_55 : decode cX14_isStable 55 = .ok (.iconst 1, 1) := by decide +kernel
theorem dccX14_isStable_56 : decode cX14_isStable 56 = .ok (.isub, 1) := by decide +kernel
theorem dccX14_isStable_57 : decode cX14_isStable 57 = .ok (.iastore, 1) := by decide +kernel
theorem dccX14_isStable_58 : decode cX14_isStable 58 = .ok (.iload_n 3, 1) := by decide +kernel
theorem dccX14_isStable_59 : decode cX14_isStable 59 = .ok (.bipush 10, 2) := by decide +kernel
theorem dccX14_isStable_61 : decode cX14_isStable 61 = .ok (.idiv, 1) := by decide +kernel
theorem dccX14_isStable_62 : decode cX14_isStable 62 = .ok (.istore_n 3, 1) := by decide +kernel
theorem dccX14_isStable_63 : decode cX14_isStable 63 = .ok (.aload_n 2, 1) := by decide +kernel
theorem dccX14_isStable_64 : decode cX14_isStable 64 = .ok (.iload 4, 2) := by decide +kernel
theorem dccX14_isStable_66 : decode cX14_isStable 66 = .ok (.iaload, 1) := by decide +kernel
theorem dccX14_isStable_67 : decode cX14_isStable 67 = .ok (.iconst (-1), 1) := by decide +kernel
theorem dccX14_isStable_68 : decode cX14_isStable 68 = .ok (.aload_n 0, 1) := by decide +kernel
theorem dccX14_isStable_69 : decode cX14_isStable 69 = .ok (.getfield 23, 3) := by decide +kernel
theorem dccX14_isStable_72 : decode cX14_isStable 72 = .ok (.invokevirtual 38, 3) := by decide +kernel
theorem dccX14_isStable_75 : decode cX14_isStable 75 = .ok (.iconst 1, 1) := by decide +kernel
theorem dccX14_isStable_76 : decode cX14_isStable 76 = .ok (.isub, 1) := by decide +kernel
theorem dccX14_isStable_77 : decode cX14_isStable 77 = .ok (.invokestatic 42, 3) := by decide +kernel
theorem dccX14_isStable_80 : decode cX14_isStable 80 = .ok (.ifCond .ne 5, 3) := by decide +kernel
theorem dccX14_isStable_83 : decode cX14_isStable 83 = .ok (.iconst 0, 1) := by decide +kernel
theorem dccX14_isStable_84 : decode cX14_isStable 84 = .ok (.ireturn, 1) := by decide +kernel
theorem dccX14_isStable_85 : decode cX14_isStable 85 = .ok (.iinc 4 (-1), 3) := by decide +kernel
theorem dccX14_isStable_88 : decode cX14_isStable 88 = .ok (.goto (-65), 3) := by decide +kernel
theorem dccX14_isStable_91 : decode cX14_isStable 91 = .ok (.iload_n 1, 1) := by decide +kernel
theorem dccX14_isStable_92 : decode cX14_isStable 92 = .ok (.ifCond .lt 19, 3) := by decide +kernel
theorem dccX14_isStable_95 : decode cX14_isStable 95 = .ok (.iload_n 3, 1) := by decide +kernel
theorem dccX14_isStable_96 : decode cX14_isStable 96 = .ok (.ifCond .ne 15, 3) := by decide +kernel
theorem dccX14_isStable_99 : decode cX14_isStable 99 = .ok (.aload_n 0, 1) := by decide +kernel
theorem dccX14_isStable_100 : decode cX14_isStable 100 = .ok (.aload_n 2, 1) := by decide +kernel
theorem dccX14_isStable_101 : decode cX14_isStable 101 = .ok (.invokevirtual 248, 3) := by decide +kernel
theorem dccX14_isStable_104 : decode cX14_isStable 104 = .ok (.ifCond .eq 7, 3) := by decide +kernel
theorem dccX14_isStable_107 : decode cX14_isStable 107 = .ok (.iconst 1, 1) := by decide +kernel
theorem dccX14_isStable_108 : decode cX14_isStable 108 = .ok (.goto 4, 3) := by decide +kernel
theorem dccX14_isStable_111 : decode cX14_isStable 111 = .ok (.iconst 0, 1) := by decide +kernel
theorem dccX14_isStable_112 : decode cX14_isStable 112 = .ok (.ireturn, 1) := by decide +kernel
theorem dccX14_isStableNow_0 : decode cX14_isStableNow 0 = .ok (.aload_n 0, 1) := by decide +kernel
theorem dccX14_isStableNow_1 : decode cX14_isStableNow 1 = .ok (.invokevirtual 186, 3) := by decide +kernel
theorem dccX14_isStableNow_4 : decode cX14_isStableNow 4 = .ok (.istore_n 2, 1) := by decide +kernel
theorem dccX14_isStableNow_5 : decode cX14_isStableNow 5 = .ok (.iconst 0, 1) := by decide +kernel
theorem dccX14_isStableNow_6 : decode cX14_isStableNow 6 = .ok (.istore_n 3, 1) := by decide +kernel
theorem dccX14_isStableNow_7 : decode cX14_isStableNow 7 = .ok (.iload_n 3, 1) := by decide +kernel
theorem dccX14_isStableNow_8 : decode cX14_isStableNow 8 = .ok (.aload_n 0, 1) := by decide +kernel
theorem dccX14_isStableNow_9 : decode cX14_isStableNow 9 = .ok (.getfield 23, 3) := by decide +kernel
theorem dccX14_isStableNow_12 : decode cX14_isStableNow 12 = .ok (.invokevirtual 38, 3) := by decide +kernel
theorem dccX14_isStableNow_15 : decode cX14_isStableNow 15 = .ok (.if_icmp .ge 157, 3) := by decide +kernel
theorem dccX14_isStableNow_18 : decode cX14_isStableNow 18 = .ok (.aload_n 0, 1) := by decide +kernel
theorem dccX14_isStableNow_19 : decode cX14_isStableNow 19 = .ok (.aload_n 1, 1) := by decide +kernel
theorem dccX14_isStableNow_20 : decode cX14_isStableNow 20 = .ok (.iload_n 3, 1) := by decide +kernel
theorem dccX14_isStableNow_21 : decode cX14_isStableNow 21 = .ok (.invokevirtual 195, 3) := by decide +kernel
theorem dccX14_isStableNow_24 : decode cX14_isStableNow 24 = .ok (.istore 4, 2) := by decide +kernel
theorem dccX14_isStableNow_26 : decode cX14_isStableNow 26 = .ok (.aload_n 0, 1) := by decide +kernel
theorem dccX14_isStableNow_27 : decode cX14_isStableNow 27 = .ok (.getfield 23, 3) := by decide +kernel
theorem dccX14_isStableNow_30 : decode cX14_isStableNow 30 = .ok (.iload_n 3, 1) := by decide +kernel
theorem dccX14_isStableNow_31 : decode cX14_isStableNow 31 = .ok (.invokevirtual 58, 3) := by decide +kernel
theorem dccX14_isStableNow_34 : decode cX14_isStableNow 34 = .ok (.checkcast 62, 3) := by decide +kernel
theorem dccX14_isStableNow_37 : decode cX14_isStableNow 37 = .ok (.iconst 0, 1) := by decide +kernel
theorem dccX14_isStableNow_38 : decode cX14_isStableNow 38 = .ok (.iaload, 1) := by decide +kernel
theorem dccX14_isStableNow_39 : decode cX14_isStableNow 39 = .ok (.istore 5, 2) := by decide +kernel
theorem dccX14_isStableNow_41 : decode cX14_isStableNow 41 = .ok (.iload 4, 2) := by decide +kernel
theorem dccX14_isStableNow_43 : decode cX14_isStableNow 43 = .ok (.invokestatic 199, 3) := by decide +kernel
theorem dccX14_isStableNow_46 : decode cX14_isStableNow 46 = .ok (.iload 5, 2) := by decide +kernel
theorem dccX14_isStableNow_48 : decode cX14_isStableNow 48 = .ok (.if_icmp .le 5, 3) := by decide +kernel
theorem dccX14_isStableNow_51 : decode cX14_isStableNow 51 = .ok (.iconst 0, 1) := by decide +kernel
theorem dccX14_isStableNow_52 : decode cX14_isStableNow 52 = .ok (.ireturn, 1) := by decide +kernel
theorem dccX14_isStableNow_53 : decode cX14_isStableNow 53 = .ok (.iconst 0, 1) := by decide +kernel
theorem dccX14_isStableNow_54 : decode cX14_isStableNow 54 = .ok (.istore 6, 2) := by decide +kernel
theorem dccX14_isStableNow_56 : decode cX14_isStableNow 56 = .ok (.iload 6, 2) := by decide +kernel
theorem dccX14_isStableNow_58 : decode cX14_isStableNow 58 = .ok (.aload_n 1, 1) := by decide +kernel
theorem dccX14_isStableNow_59 : decode cX14_isStableNow 59 = .ok (.arraylength, 1) := by decide +kernel
theorem dccX14_isStableNow_60 : decode cX14_isStableNow 60 = .ok (.if_icmp .ge 106, 3) := by decide +kernel
theorem dccX14_isStableNow_63 : decode cX14_isStableNow 63 = .ok (.iload_n 2, 1) := by decide +kernel
theorem dccX14_isStableNow_64 : decode cX14_isStableNow 64 = .ok (.iload 6, 2) := by decide +kernel
theorem dccX14_isStableNow_66 : decode cX14_isStableNow 66 = .ok (.invokestatic 162, 3) := by decide +kernel
theorem dccX14_isStableNow_69 : decode cX14_isStableNow 69 = .ok (.ifCond .eq 91, 3) := by decide +kernel
theorem dccX14_isStableNow_72 : decode cX14_isStableNow 72 = .ok (.aload_n 0, 1) := by decide +kernel
theorem dccX14_isStableNow_73 : decode cX14_isStableNow 73 = .ok (.iload 6, 2) := by decide +kernel
theorem dccX14_isStableNow_75 : decode cX14_isStableNow 75 = .ok (.iload_n 3, 1) := by decide +kernel
theorem dccX14_isStableNow_76 : decode cX14_isStableNow 76 = .ok (.aload_n 1, 1) := by decide +kernel
theorem dccX14_isStableNow_77 : decode cX14_isStableNow 77 = .ok (.iload 6, 2) := by decide +kernel
theorem dccX14_isStableNow_79 : decode cX14_isStableNow 79 = .ok (.iaload, 1) := by decide +kernel
theorem dccX14_isStableNow_80 : decode cX14_isStableNow 80 = .ok (.invokevirtual 192, 3) := by decide +kernel
theorem dccX14_isStableNow_83 : decode cX14_isStableNow 83 = .ok (.ifCond .ne 6, 3) := by decide +kernel
theorem dccX14_isStableNow_86 : decode cX14_isStableNow 86 = .ok (.goto 74, 3) := by decide +kernel
theorem dccX14_isStableNow_89 : decode cX14_isStableNow 89 = .ok (.iload 4, 2) := by decide +kernel
theorem dccX14_isStableNow_91 : decode cX14_isStableNow 91 = .ok (.invokestatic 199, 3) := by decide +kernel
theorem dccX14_isStableNow_94 : decode cX14_isStableNow 94 = .ok (.iload 5, 2) := by decide +kernel
theorem dccX14_isStableNow_96 : decode cX14_isStableNow 96 = .ok (.if_icmp .ge 7, 3) := by decide +kernel
theorem dccX14_isStableNow_99 : decode cX14_isStableNow 99 = .ok (.iconst 1, 1) := by decide +kernel
theorem dccX14_isStableNow_100 : decode cX14_isStableNow 100 = .ok (.goto 4, 3) := by decide +kernel
theorem dccX14_isStableNow_103 : decode cX14_isStableNow 103 = .ok (.iconst 0, 1) := by decide +kernel
theorem dccX14_isStableNow_104 : decode cX14_isStableNow 104 = .ok (.istore 7, 2) := by decide +kernel
theorem dccX14_isStableNow_106 : decode cX14_isStableNow 106 = .ok (.iconst 0, 1) := by decide +kernel
theorem dccX14_isStableNow_107 : decode cX14_isStableNow 107 = .ok (.istore 8, 2) := by decide +kernel
theorem dccX14_isStableNow_109 : decode cX14_isStableNow 109 = .ok (.iload 8, 2) := by decide +kernel
theorem dccX14_isStableNow_111 : decode cX14_isStableNow 111 = .ok (.aload_n 1, 1) := by decide +kernel
theorem dccX14_isStableNow_112 : decode cX14_isStableNow 112 = .ok (.arraylength, 1) := by decide +kernel
theorem dccX14_isStableNow_113 : decode cX14_isStableNow 113 = .ok (.if_icmp .ge 40, 3) := by decide +kernel
theorem dccX14_isStableNow_116 : decode cX14_isStableNow 116 = .ok (.iload 7, 2) := by decide +kernel
theorem dccX14_isStableNow_118 : decode cX14_isStableNow 118 = .ok (.iload 4, 2) := by decide +kernel
theorem dccX14_isStableNow_120 : decode cX14_isStableNow 120 = .ok (.iload 8, 2) := by decide +kernel
theorem dccX14_isStableNow_122 : decode cX14_isStableNow 122 = .ok (.invokestatic 162, 3) := by decide +kernel
theorem dccX14_isStableNow_125 : decode cX14_isStableNow 125 = .ok (.ifCond .eq 18, 3) := by decide +kernel
theorem dccX14_isStableNow_128 : decode cX14_isStableNow 128 = .ok (.aload_n 0, 1) := by decide +kernel
theorem dccX14_isStableNow_129 : decode cX14_isStableNow 129 = .ok (.iload 6, 2) := by decide +kernel
theorem dccX14_isStableNow_131 : decode cX14_isStableNow 131 = .ok (.iload 8, 2) := by decide +kernel
theorem dccX14_isStableNow_133 : decode cX14_isStableNow 133 = .ok (.invokevirtual 189, 3) := by decide +kernel
theorem dccX14_isStableNow_136 : decode cX14_isStableNow 136 = .ok (.ifCond .eq 7, 3) := by decide +kernel
theorem dccX14_isStableNow_139 : decode cX14_isStableNow 139 = .ok (.iconst 1, 1) := by decide +kernel
theorem dccX14_isStableNow_140 : decode cX14_isStableNow 140 = .ok (.goto 4, 3) := by decide +kernel
theorem dccX14_isStableNow_143 : decode cX14_isStableNow 143 = .ok (.iconst 0, 1) := by decide +kernel
theorem dccX14_isStableNow_144 : decode cX14_isStableNow 144 = .ok (.ior, 1) := by decide +kernel
theorem dccX14_isStableNow_145 : decode cX14_isStableNow 145 = .ok (.istore 7, 2) := by decide +kernel
theorem dccX14_isStableNow_147 : decode cX14_isStableNow 147 = .ok (.iinc 8 1, 3) := by decide +kernel
theorem dccX14_isStableNow_150 : decode cX14_isStableNow 150 = .ok (.goto (-41), 3) := by decide +kernel
theorem dccX14_isStableNow_153 : decode cX14_isStableNow 153 = .ok (.iload 7, 2) := by decide +kernel
theorem dccX14_isStableNow_155 : decode cX14_isStableNow 155 = .ok (.ifCond .eq 5, 3) := by decide +kernel
theorem dccX14_isStableNow_158 : decode cX14_isStableNow 158 = .ok (.iconst 0, 1) := by decide +kernel
theorem dccX14_isStableNow_159 : decode cX14_isStableNow 159 = .ok (.ireturn, 1) := by decide +kernel
theorem dccX14_isStableNow_160 : decode cX14_isStableNow 160 = .ok (.iinc 6 1, 3) := by decide +kernel
theorem dccX14_isStableNow_163 : decode cX14_isStableNow 163 = .ok (.goto (-107), 3) := by decide +kernel
theorem dccX14_isStableNow_166 : decode cX14_isStableNow 166 = .ok (.iinc 3 1, 3) := by decide +kernel
theorem dccX14_isStableNow_169 : decode cX14_isStableNow 169 = .ok (.goto (-162), 3) := by decide +kernel
theorem dccX14_isStableNow_172 : decode cX14_isStableNow 172 = .ok (.iconst 1, 1) := by decide +kernel
theorem dccX14_isStableNow_173 : decode cX14_isStableNow 173 = .ok (.ireturn, 1) := by decide +kernel
theorem dccX14_isStreet_0 : decode cX14_isStreet 0 = .ok (.iload_n 1, 1) := by decide +kernel
theorem dccX14_isStreet_1 : decode cX14_isStreet 1 = .ok (.iconst 0, 1) := by decide +kernel
theorem dccX14_isStreet_2 : decode cX14_isStreet 2 = .ok (.aload_n 0, 1) := by decide +kernel
theorem dccX14_isStreet_3 : decode cX14_isStreet 3 = .ok (.getfield 19, 3) := by decide +kernel
theorem dccX14_isStreet_6 : decode cX14_isStreet 6 = .ok (.invokevirtual 38, 3) := by decide +kernel
theorem dccX14_isStreet_9 : decode cX14_isStreet 9 = .ok (.iconst 1, 1) := by decide +kernel
theorem dccX14_isStreet_10 : decode cX14_isStreet 10 = .ok (.isub, 1) := by decide +kernel
theorem dccX14_isStreet_11 : decode cX14_isStreet 11 = .ok (.invokestatic 42, 3) := by decide +kernel
theorem dccX14_isStreet_14 : decode cX14_isStreet 14 = .ok (.ireturn, 1) := by decide +kernel
theorem dccX14_knock_0 : decode cX14_knock 0 = .ok (.aload_n 0, 1) := by decide +kernel
theorem dccX14_knock_1 : decode cX14_knock 1 = .ok (.iconst 0, 1) := by decide +kernel
theorem dccX14_knock_2 : decode cX14_knock 2 = .ok (.putfield 35, 3) := by decide +kernel
theorem dccX14_knock_5 : decode cX14_knock 5 = .ok (.aload_n 0, 1) := by decide +kernel
theorem dccX14_knock_6 : decode cX14_knock 6 = .ok (.dup, 1) := by decide +kernel
theorem dccX14_knock_7 : decode cX14_knock 7 = .ok (.getfield 174, 3) := by decide +kernel
theorem dccX14_knock_10 : decode cX14_knock 10 = .ok (.iconst 1, 1) := by decide +kernel
theorem dccX14_knock_11 : decode cX14_knock 11 = .ok (.iadd, 1) := by decide +kernel
theorem dccX14_knock_12 : decode cX14_knock 12 = .ok (.putfield 174, 3) := by decide +kernel
theorem dccX14_knock_15 : decode cX14_knock 15 = .ok (.aload_n 0, 1) := by decide +kernel
theorem dccX14_knock_16 : decode cX14_knock 16 = .ok (.getfield 174, 3) := by decide +kernel
theorem dccX14_knock_19 : decode cX14_knock 19 = .ok (.ireturn, 1) := by decide +kernel
theorem dccX14_leaves_0 : decode cX14_leaves 0 = .ok (.iconst 1, 1) := by decide +kernel
theorem dccX14_leaves_1 : decode cX14_leaves 1 = .ok (.istore_n 2, 1) := by decide +kernel
theorem dccX14_leaves_2 : decode cX14_leaves 2 = .ok (.iload_n 2, 1) := by decide +kernel
theorem dccX14_leaves_3 : decode cX14_leaves 3 = .ok (.iload_n 0, 1) := by decide +kernel
theorem dccX14_leaves_4 : decode cX14_leaves 4 = .ok (.if_icmp .gt 29, 3) := by decide +kernel
theorem dccX14_leaves_7 : decode cX14_leaves 7 = .ok (.iload_n 0, 1) := by decide +kernel
theorem dccX14_leaves_8 : decode cX14_leaves 8 = .ok (.bipush 10, 2) := by decide +kernel
theorem dccX14_leaves_10 : decode cX14_leaves 10 = .ok (.iload_n 2, 1) := by decide +kernel
theorem dccX14_leaves_11 : decode cX14_leaves 11 = .ok (.imul, 1) := by decide +kernel
theorem dccX14_leaves_12 : decode cX14_leaves 12 = .ok (.idiv, 1) := by decide +kernel
theorem dccX14_leaves_13 : decode cX14_leaves 13 = .ok (.iload_n 2, 1) := by decide +kernel
theorem dccX14_leaves_14 : decode cX14_leaves 14 = .ok (.imul, 1) := by decide +kernel
theorem dccX14_leaves_15 : decode cX14_leaves 15 = .ok (.iload_n 0, 1) := by decide +kernel
theorem dccX14_leaves_16 : decode cX14_leaves 16 = .ok (.iload_n 2, 1) := by decide +kernel
theorem dccX14_leaves_17 : decode cX14_leaves 17 = .ok (.irem, 1) := by decide +kernel
theorem dccX14_leaves_18 : decode cX14_leaves 18 = .ok (.iadd, 1) := by decide +kernel
theorem dccX14_leaves_19 : decode cX14_leaves 19 = .ok (.iload_n 1, 1) := by decide +kernel
theorem dccX14_leaves_20 : decode cX14_leaves 20 = .ok (.if_icmp .ne 5, 3) := by decide +kernel
theorem dccX14_leaves_23 : decode cX14_leaves 23 = .ok (.iconst 1, 1) := by decide +kernel
theorem dccX14_leaves_24 : decode cX14_leaves 24 = .ok (.ireturn, 1) := by decide +kernel
theorem dccX14_leaves_25 : decode cX14_leaves 25 = .ok (.iload_n 2, 1) := by decide +kernel
theorem dccX14_leaves_26 : decode cX14_leaves 26 = .ok (.bipush 10, 2) := by decide +kernel
theorem dccX14_leaves_28 : decode cX14_leaves 28 = .ok (.imul, 1) := by decide +kernel
theorem dccX14_leaves_29 : decode cX14_leaves 29 = .ok (.istore_n 2, 1) := by decide +kernel
theorem dccX14_leaves_30 : decode cX14_leaves 30 = .ok (.goto (-28), 3) := by decide +kernel
theorem dccX14_leaves_33 : decode cX14_leaves 33 = .ok (.iconst 0, 1) := by decide +kernel
theorem dccX14_leaves_34 : decode cX14_leaves 34 = .ok (.ireturn, 1) := by decide +kernel
theorem dccX14_limit_0 : decode cX14_limit 0 = .ok (.aload_n 0, 1) := by decide +kernel
theorem dccX14_limit_1 : decode cX14_limit 1 = .ok (.getfield 19, 3) := by decide +kernel
theorem dccX14_limit_4 : decode cX14_limit 4 = .ok (.iload_n 1, 1) := by decide +kernel
theorem dccX14_limit_5 : decode cX14_limit 5 = .ok (.invokevirtual 58, 3) := by decide +kernel
theorem dccX14_limit_8 : decode cX14_limit 8 = .ok (.checkcast 62, 3) := by decide +kernel
theorem dccX14_limit_11 : decode cX14_limit 11 = .ok (.iconst 0, 1) := by decide +kernel
theorem dccX14_limit_12 : decode cX14_limit 12 = .ok (.iaload, 1) := by decide +kernel
theorem dccX14_limit_13 : decode cX14_limit 13 = .ok (.aload_n 0, 1) := by decide +kernel
theorem dccX14_limit_14 : decode cX14_limit 14 = .ok (.getfield 7, 3) := by decide +kernel
theorem dccX14_limit_17 : decode cX14_limit 17 = .ok (.isub, 1) := by decide +kernel
theorem dccX14_limit_18 : decode cX14_limit 18 = .ok (.istore_n 2, 1) := by decide +kernel
theorem dccX14_limit_19 : decode cX14_limit 19 = .ok (.iload_n 2, 1) := by decide +kernel
theorem dccX14_limit_20 : decode cX14_limit 20 = .ok (.ifCond .gt 7, 3) := by decide +kernel
theorem dccX14_limit_23 : decode cX14_limit 23 = .ok (.iconst 0, 1) := by decide +kernel
theorem dccX14_limit_24 : decode cX14_limit 24 = .ok (.goto 29, 3) := by decide +kernel
theorem dccX14_limit_27 : decode cX14_limit 27 = .ok (.aload_n 0, 1) := by decide +kernel
theorem dccX14_limit_28 : decode cX14_limit 28 = .ok (.getfield 86, 3) := by decide +kernel
theorem dccX14_limit_31 : decode cX14_limit 31 = .ok (.ifCond .gt 9, 3) := by decide +kernel
theorem dccX14_limit_34 : decode cX14_limit 34 = .ok (.sipush 999, 3) := by decide +kernel
theorem dccX14_limit_37 : decode cX14_limit 37 = .ok (.goto 16, 3) := by decide +kernel
theorem dccX14_limit_40 : decode cX14_limit 40 = .ok (.iload_n 2, 1) := by decide +kernel
theorem dccX14_limit_41 : decode cX14_limit 41 = .ok (.aload_n 0, 1) := by decide +kernel
theorem dccX14_limit_42 : decode cX14_limit 42 = .ok (.getfield 86, 3) := by decide +kernel
theorem dccX14_limit_45 : decode cX14_limit 45 = .ok (.iadd, 1) := by decide +kernel
theorem dccX14_limit_46 : decode cX14_limit 46 = .ok (.iconst 1, 1) := by decide +kernel
theorem dccX14_limit_47 : decode cX14_limit 47 = .ok (.isub, 1) := by decide +kernel
theorem dccX14_limit_48 : decode cX14_limit 48 = .ok (.aload_n 0, 1) := by decide +kernel
theorem dccX14_limit_49 : decode cX14_limit 49 = .ok (.getfield 86, 3) := by decide +kernel
theorem dccX14_limit_52 : decode cX14_limit 52 = .ok (.idiv, 1) := by decide +kernel
theorem dccX14_limit_53 : decode cX14_limit 53 = .ok (.ireturn, 1) := by decide +kernel
theorem dccX14_list_0 : decode cX14_list 0 = .ok (.aload_n 0, 1) := by decide +kernel
theorem dccX14_list_1 : decode cX14_list 1 = .ok (.iconst 0, 1) := by decide +kernel
theorem dccX14_list_2 : decode cX14_list 2 = .ok (.putfield 35, 3) := by decide +kernel
theorem dccX14_list_5 : decode cX14_list 5 = .ok (.iload_n 1, 1) := by decide +kernel
theorem dccX14_list_6 : decode cX14_list 6 = .ok (.invokestatic 137, 3) := by decide +kernel
theorem dccX14_list_9 : decode cX14_list 9 = .ok (.ifCond .ne 9, 3) := by decide +kernel
theorem dccX14_list_12 : decode cX14_list 12 = .ok (.aload_n 0, 1) := by decide +kernel
theorem dccX14_list_13 : decode cX14_list 13 = .ok (.iconst 1, 1) := by decide +kernel
theorem dccX14_list_14 : decode cX14_list 14 = .ok (.invokevirtual 46, 3) := by decide +kernel
theorem dccX14_list_17 : decode cX14_list 17 = .ok (.ireturn, 1) := by decide +kernel
theorem dccX14_list_18 : decode cX14_list 18 = .ok (.aload_n 0, 1) := by decide +kernel
theorem dccX14_list_19 : decode cX14_list 19 = .ok (.getfield 32, 3) := by decide +kernel
theorem dccX14_list_22 : decode cX14_list 22 = .ok (.invokevirtual 38, 3) := by decide +kernel
theorem dccX14_list_25 : decode cX14_list 25 = .ok (.bipush 12, 2) := by decide +kernel
theorem dccX14_list_27 : decode cX14_list 27 = .ok (.if_icmp .ne 9, 3) := by decide +kernel
theorem dccX14_list_30 : decode cX14_list 30 = .ok (.aload_n 0, 1) := by decide +kernel
theorem dccX14_list_31 : decode cX14_list 31 = .ok (.iconst 2, 1) := by decide +kernel
theorem dccX14_list_32 : decode cX14_list 32 = .ok (.invokevirtual 46, 3) := by decide +kernel
theorem dccX14_list_35 : decode cX14_list 35 = .ok (.ireturn, 1) := by decide +kernel
theorem dccX14_list_36 : decode cX14_list 36 = .ok (.aload_n 0, 1) := by decide +kernel
theorem dccX14_list_37 : decode cX14_list 37 = .ok (.getfield 32, 3) := by decide +kernel
theorem dccX14_list_40 : decode cX14_list 40 = .ok (.iload_n 1, 1) := by decide +kernel
theorem dccX14_list_41 : decode cX14_list 41 = .ok (.invokestatic 140, 3) := by decide +kernel
theorem dccX14_list_44 : decode cX14_list 44 = .ok (.invokevirtual 50, 3) := by decide +kernel
theorem dccX14_list_47 : decode cX14_list 47 = .ok (.pop, 1) := by decide +kernel
theorem dccX14_list_48 : decode cX14_list 48 = .ok (.aload_n 0, 1) := by decide +kernel
theorem dccX14_list_49 : decode cX14_list 49 = .ok (.getfield 32, 3) := by decide +kernel
theorem dccX14_list_52 : decode cX14_list 52 = .ok (.invokevirtual 38, 3) := by decide +kernel
theorem dccX14_list_55 : decode cX14_list 55 = .ok (.iconst 1, 1) := by decide +kernel
theorem dccX14_list_56 : decode cX14_list 56 = .ok (.isub, 1) := by decide +kernel
theorem dccX14_list_57 : decode cX14_list 57 = .ok (.ireturn, 1) := by decide +kernel
theorem dccX14_lot_0 : decode cX14_lot 0 = .ok (.aload_n 0, 1) := by decide +kernel
theorem dccX14_lot_1 : decode cX14_lot 1 = .ok (.iconst 0, 1) := by decide +kernel
theorem dccX14_lot_2 : decode cX14_lot 2 = .ok (.putfield 35, 3) := by decide +kernel
theorem dccX14_lot_5 : decode cX14_lot 5 = .ok (.iload_n 1, 1) := by decide +kernel
theorem dccX14_lot_6 : decode cX14_lot 6 = .ok (.iconst 1, 1) := by decide +kernel
theorem dccX14_lot_7 : decode cX14_lot 7 = .ok (.bipush 99, 2) := by decide +kernel
theorem dccX14_lot_9 : decode cX14_lot 9 = .ok (.invokestatic 42, 3) := by decide +kernel
theorem dccX14_lot_12 : decode cX14_lot 12 = .ok (.ifCond .eq 13, 3) := by decide +kernel
theorem dccX14_lot_15 : decode cX14_lot 15 = .ok (.iload_n 2, 1) := by decide +kernel
theorem dccX14_lot_16 : decode cX14_lot 16 = .ok (.iconst 0, 1) := by decide +kernel
theorem dccX14_lot_17 : decode cX14_lot 17 = .ok (.bipush 99, 2) := by decide +kernel
theorem dccX14_lot_19 : decode cX14_lot 19 = .ok (.invokestatic 42, 3) := by decide +kernel
theorem dccX14_lot_22 : decode cX14_lot 22 = .ok (.ifCond .ne 9, 3) := by decide +kernel
theorem dccX14_lot_25 : decode cX14_lot 25 = .ok (.aload_n 0, 1) := by decide +kernel
theorem dccX14_lot_26 : decode cX14_lot 26 = .ok (.iconst 1, 1) := by decide +kernel
theorem dccX14_lot_27 : decode cX14_lot 27 = .ok (.invokevirtual 46, 3) := by decide +kernel
theorem dccX14_lot_30 : decode cX14_lot 30 = .ok (.ireturn, 1) := by decide +kernel
theorem dccX14_lot_31 : decode cX14_lot 31 = .ok (.aload_n 0, 1) := by decide +kernel
theorem dccX14_lot_32 : decode cX14_lot 32 = .ok (.getfield 29, 3) := by decide +kernel
theorem dccX14_lot_35 : decode cX14_lot 35 = .ok (.invokevirtual 38, 3) := by decide +kernel
theorem dccX14_lot_38 : decode cX14_lot 38 = .ok (.bipush 10, 2) := by decide +kernel
theorem dccX14_lot_40 : decode cX14_lot 40 = .ok (.if_icmp .ne 9, 3) := by decide +kernel
theorem dccX14_lot_43 : decode cX14_lot 43 = .ok (.aload_n 0, 1) := by decide +kernel
theorem dccX14_lot_44 : decode cX14_lot 44 = .ok (.iconst 2, 1) := by decide +kernel
theorem dccX14_lot_45 : decode cX14_lot 45 = .ok (.invokevirtual 46, 3) := by decide +kernel
theorem dccX14_lot_48 : decode cX14_lot 48 = .ok (.ireturn, 1) := by decide +kernel
theorem dccX14_lot_49 : decode cX14_lot 49 = .ok (.aload_n 0, 1) := by decide +kernel
theorem dccX14_lot_50 : decode cX14_lot 50 = .ok (.getfield 29, 3) := by decide +kernel
theorem dccX14_lot_53 : decode cX14_lot 53 = .ok (.iconst 2, 1) := by decide +kernel
theorem dccX14_lot_54 : decode cX14_lot 54 = .ok (.newarray .int, 2) := by decide +kernel
theorem dccX14_lot_56 : decode cX14_lot 56 = .ok (.dup, 1) := by decide +kernel
theorem dccX14_lot_57 : decode cX14_lot 57 = .ok (.iconst 0, 1) := by decide +kernel
theorem dccX14_lot_58 : decode cX14_lot 58 = .ok (.iload_n 1, 1) := by decide +kernel
theorem dccX14_lot_59 : decode cX14_lot 59 = .ok (.iastore, 1) := by decide +kernel
theorem dccX14_lot_60 : decode cX14_lot 60 = .ok (.dup, 1) := by decide +kernel
theorem dccX14_lot_61 : decode cX14_lot 61 = .ok (.iconst 1, 1) := by decide +kernel
theorem dccX14_lot_62 : decode cX14_lot 62 = .ok (.aload_n 0, 1) := by decide +kernel
theorem dccX14_lot_63 : decode cX14_lot 63 = .ok (.getfield 104, 3) := by decide +kernel
theorem dccX14_lot_66 : decode cX14_lot 66 = .ok (.iload_n 2, 1) := by decide +kernel
theorem dccX14_lot_67 : decode cX14_lot 67 = .ok (.iadd, 1) := by decide +kernel
theorem dccX14_lot_68 : decode cX14_lot 68 = .ok (.iastore, 1) := by decide +kernel
theorem dccX14_lot_69 : decode cX14_lot 69 = .ok (.invokevirtual 50, 3) := by decide +kernel
theorem dccX14_lot_72 : decode cX14_lot 72 = .ok (.pop, 1) := by decide +kernel
theorem dccX14_lot_73 : decode cX14_lot 73 = .ok (.aload_n 0, 1) := by decide +kernel
theorem dccX14_lot_74 : decode cX14_lot 74 = .ok (.dup, 1) := by decide +kernel
theorem dccX14_lot_75 : decode cX14_lot 75 = .ok (.getfield 127, 3) := by decide +kernel
theorem dccX14_lot_78 : decode cX14_lot 78 = .ok (.iload_n 1, 1) := by decide +kernel
theorem dccX14_lot_79 : decode cX14_lot 79 = .ok (.iadd, 1) := by decide +kernel
theorem dccX14_lot_80 : decode cX14_lot 80 = .ok (.putfield 127, 3) := by decide +kernel
theorem dccX14_lot_83 : decode cX14_lot 83 = .ok (.aload_n 0, 1) := by decide +kernel
theorem dccX14_lot_84 : decode cX14_lot 84 = .ok (.getfield 29, 3) := by decide +kernel
theorem dccX14_lot_87 : decode cX14_lot 87 = .ok (.invokevirtual 38, 3) := by decide +kernel
theorem dccX14_lot_90 : decode cX14_lot 90 = .ok (.iconst 1, 1) := by decide +kernel
theorem dccX14_lot_91 : decode cX14_lot 91 = .ok (.isub, 1) := by decide +kernel
theorem dccX14_lot_92 : decode cX14_lot 92 = .ok (.ireturn, 1) := by decide +kernel
theorem dccX14_mealsLeft_0 : decode cX14_mealsLeft 0 = .ok (.iconst 0, 1) := by decide +kernel
theorem dccX14_mealsLeft_1 : decode cX14_mealsLeft 1 = .ok (.istore_n 1, 1) := by decide +kernel
theorem dccX14_mealsLeft_2 : decode cX14_mealsLeft 2 = .ok (.aload_n 0, 1) := by decide +kernel
theorem dccX14_mealsLeft_3 : decode cX14_mealsLeft 3 = .ok (.getfield 29, 3) := by decide +kernel
theorem dccX14_mealsLeft_6 : decode cX14_mealsLeft 6 = .ok (.invokevirtual 107, 3) := by decide +kernel
theorem dccX14_mealsLeft_9 : decode cX14_mealsLeft 9 = .ok (.astore_n 2, 1) := by decide +kernel
theorem dccX14_mealsLeft_10 : decode cX14_mealsLeft 10 = .ok (.aload_n 2, 1) := by decide +kernel
theorem dccX14_mealsLeft_11 : decode cX14_mealsLeft 11 = .ok (.invokeinterface 111 1, 5) := by decide +kernel
theorem dccX14_mealsLeft_16 : decode cX14_mealsLeft 16 = .ok (.ifCond .eq 22, 3) := by decide +kernel
theorem dccX14_mealsLeft_19 : decode cX14_mealsLeft 19 = .ok (.aload_n 2, 1) := by decide +kernel
theorem dccX14_mealsLeft_20 : decode cX14_mealsLeft 20 = .ok (.invokeinterface 117 1, 5) := by decide +kernel
theorem dccX14_mealsLeft_25 : decode cX14_mealsLeft 25 = .ok (.checkcast 62, 3) := by decide +kernel
theorem dccX14_mealsLeft_28 : decode cX14_mealsLeft 28 = .ok (.astore_n 3, 1) := by decide +kernel
theorem dccX14_mealsLeft_29 : decode cX14_mealsLeft 29 = .ok (.iload_n 1, 1) := by decide +kernel
theorem dccX14_mealsLeft_30 : decode cX14_mealsLeft 30 = .ok (.aload_n 3, 1) := by decide +kernel
theorem dccX14_mealsLeft_31 : decode cX14_mealsLeft 31 = .ok (.iconst 0, 1) := by decide +kernel
theorem dccX14_mealsLeft_32 : decode cX14_mealsLeft 32 = .ok (.iaload, 1) := by decide +kernel
theorem dccX14_mealsLeft_33 : decode cX14_mealsLeft 33 = .ok (.iadd, 1) := by decide +kernel
theorem dccX14_mealsLeft_34 : decode cX14_mealsLeft 34 = .ok (.istore_n 1, 1) := by decide +kernel
theorem dccX14_mealsLeft_35 : decode cX14_mealsLeft 35 = .ok (.goto (-25), 3) := by decide +kernel
theorem dccX14_mealsLeft_38 : decode cX14_mealsLeft 38 = .ok (.iload_n 1, 1) := by decide +kernel
theorem dccX14_mealsLeft_39 : decode cX14_mealsLeft 39 = .ok (.ireturn, 1) := by decide +kernel
theorem dccX14_miles_0 : decode cX14_miles 0 = .ok (.aload_n 0, 1) := by decide +kernel
theorem dccX14_miles_1 : decode cX14_miles 1 = .ok (.getfield 19, 3) := by decide +kernel
theorem dccX14_miles_4 : decode cX14_miles 4 = .ok (.aload_n 0, 1) := by decide +kernel
theorem dccX14_miles_5 : decode cX14_miles 5 = .ok (.getfield 26, 3) := by decide +kernel
theorem dccX14_miles_8 : decode cX14_miles 8 = .ok (.iload_n 1, 1) := by decide +kernel
theorem dccX14_miles_9 : decode cX14_miles 9 = .ok (.invokevirtual 58, 3) := by decide +kernel
theorem dccX14_miles_12 : decode cX14_miles 12 = .ok (.checkcast 67, 3) := by decide +kernel
theorem dccX14_miles_15 : decode cX14_miles 15 = .ok (.getfield 70, 3) := by decide +kernel
theorem dccX14_miles_18 : decode cX14_miles 18 = .ok (.invokevirtual 58, 3) := by decide +kernel
theorem dccX14_miles_21 : decode cX14_miles 21 = .ok (.checkcast 62, 3) := by decide +kernel
theorem dccX14_miles_24 : decode cX14_miles 24 = .ok (.iconst 1, 1) := by decide +kernel
theorem dccX14_miles_25 : decode cX14_miles 25 = .ok (.iaload, 1) := by decide +kernel
theorem dccX14_miles_26 : decode cX14_miles 26 = .ok (.aload_n 0, 1) := by decide +kernel
theorem dccX14_miles_27 : decode cX14_miles 27 = .ok (.getfield 23, 3) := by decide +kernel
theorem dccX14_miles_30 : decode cX14_miles 30 = .ok (.iload_n 2, 1) := by decide +kernel
theorem dccX14_miles_31 : decode cX14_miles 31 = .ok (.invokevirtual 58, 3) := by decide +kernel
theorem dccX14_miles_34 : decode cX14_miles 34 = .ok (.checkcast 62, 3) := by decide +kernel
theorem dccX14_miles_37 : decode cX14_miles 37 = .ok (.iconst 1, 1) := by decide +kernel
theorem dccX14_miles_38 : decode cX14_miles 38 = .ok (.iaload, 1) := by decide +kernel
theorem dccX14_miles_39 : decode cX14_miles 39 = .ok (.isub, 1) := by decide +kernel
theorem dccX14_miles_40 : decode cX14_miles 40 = .ok (.invokestatic 149, 3) := by decide +kernel
theorem dccX14_miles_43 : decode cX14_miles 43 = .ok (.ireturn, 1) := by decide +kernel
theorem dccX14_ofHall_0 : decode cX14_ofHall 0 = .ok (.aload_n 0, 1) := by decide +kernel
theorem dccX14_ofHall_1 : decode cX14_ofHall 1 = .ok (.iconst 0, 1) := by decide +kernel
theorem dccX14_ofHall_2 : decode cX14_ofHall 2 = .ok (.putfield 35, 3) := by decide +kernel
theorem dccX14_ofHall_5 : decode cX14_ofHall 5 = .ok (.aload_n 0, 1) := by decide +kernel
theorem dccX14_ofHall_6 : decode cX14_ofHall 6 = .ok (.iload_n 1, 1) := by decide +kernel
theorem dccX14_ofHall_7 : decode cX14_ofHall 7 = .ok (.invokevirtual 54, 3) := by decide +kernel
theorem dccX14_ofHall_10 : decode cX14_ofHall 10 = .ok (.ifCond .ne 9, 3) := by decide +kernel
theorem dccX14_ofHall_13 : decode cX14_ofHall 13 = .ok (.aload_n 0, 1) := by decide +kernel
theorem dccX14_ofHall_14 : decode cX14_ofHall 14 = .ok (.iconst 1, 1) := by decide +kernel
theorem dccX14_ofHall_15 : decode cX14_ofHall 15 = .ok (.invokevirtual 46, 3) := by decide +kernel
theorem dccX14_ofHall_18 : decode cX14_ofHall 18 = .ok (.ireturn, 1) := by decide +kernel
theorem dccX14_ofHall_19 : decode cX14_ofHall 19 = .ok (.iload_n 2, 1) := by decide +kernel
theorem dccX14_ofHall_20 : decode cX14_ofHall 20 = .ok (.iconst 0, 1) := by decide +kernel
theorem dccX14_ofHall_21 : decode cX14_ofHall 21 = .ok (.iconst 3, 1) := by decide +kernel
theorem dccX14_ofHall_22 : decode cX14_ofHall 22 = .ok (.invokestatic 42, 3) := by decide +kernel
theorem dccX14_ofHall_25 : decode cX14_ofHall 25 = .ok (.ifCond .eq 12, 3) := by decide +kernel
theorem dccX14_ofHall_28 : decode cX14_ofHall 28 = .ok (.aload_n 0, 1) := by decide +kernel
theorem dccX14_ofHall_29 : decode cX14_ofHall 29 = .ok (.iload_n 1, 1) := by decide +kernel
theorem dccX14_ofHall_30 : decode cX14_ofHall 30 = .ok (.iload_n 2, 1) := by decide +kernel
theorem dccX14_ofHall_31 : decode cX14_ofHall 31 = .ok (.invokevirtual 221, 3) := by decide +kernel
theorem dccX14_ofHall_34 : decode cX14_ofHall 34 = .ok (.goto 8, 3) := by decide +kernel
theorem dccX14_ofHall_37 : decode cX14_ofHall 37 = .ok (.aload_n 0, 1) := by decide +kernel
theorem dccX14_ofHall_38 : decode cX14_ofHall 38 = .ok (.iconst 2, 1) := by decide +kernel
theorem dccX14_ofHall_39 : decode cX14_ofHall 39 = .ok (.invokevirtual 46, 3) := by decide +kernel
theorem dccX14_ofHall_42 : decode cX14_ofHall 42 = .ok (.ireturn, 1) := by decide +kernel
theorem dccX14_ofHallNow_0 : decode cX14_ofHallNow 0 = .ok (.iload_n 2, 1) := by decide +kernel
theorem dccX14_ofHallNow_1 : decode cX14_ofHallNow 1 = .ok (.tableswitch 65 0 2 #[27, 41, 55], 27) := by decide +kernel
theorem dccX14_ofHallNow_28 : decode cX14_ofHallNow 28 = .ok (.aload_n 0, 1) := by decide +kernel
theorem dccX14_ofHallNow_29 : decode cX14_ofHallNow 29 = .ok (.getfield 23, 3) := by decide +kernel
theorem dccX14_ofHallNow_32 : decode cX14_ofHallNow 32 = .ok (.iload_n 1, 1) := by decide +kernel
theorem dccX14_ofHallNow_33 : decode cX14_ofHallNow 33 = .ok (.invokevirtual 58, 3) := by decide +kernel
theorem dccX14_ofHallNow_36 : decode cX14_ofHallNow 36 = .ok (.checkcast 62, 3) := by decide +kernel
theorem dccX14_ofHallNow_39 : decode cX14_ofHallNow 39 = .ok (.iconst 0, 1) := by decide +kernel
theorem dccX14_ofHallNow_40 : decode cX14_ofHallNow 40 = .ok (.iaload, 1) := by decide +kernel
theorem dccX14_ofHallNow_41 : decode cX14_ofHallNow 41 = .ok (.ireturn, 1) := by decide +kernel
theorem dccX14_ofHallNow_42 : decode cX14_ofHallNow 42 = .ok (.aload_n 0, 1) := by decide +kernel
theorem dccX14_ofHallNow_43 : decode cX14_ofHallNow 43 = .ok (.getfield 23, 3) := by decide +kernel
theorem dccX14_ofHallNow_46 : decode cX14_ofHallNow 46 = .ok (.iload_n 1, 1) := by decide +kernel
theorem dccX14_ofHallNow_47 : decode cX14_ofHallNow 47 = .ok (.invokevirtual 58, 3) := by decide +kernel
theorem dccX14_ofHallNow_50 : decode cX14_ofHallNow 50 = .ok (.checkcast 62, 3) := by decide +kernel
theorem dccX14_ofHallNow_53 : decode cX14_ofHallNow 53 = .ok (.iconst 1, 1) := by decide +kernel
theorem dccX14_ofHallNow_54 : decode cX14_ofHallNow 54 = .ok (.iaload, 1) := by decide +kernel
theorem dccX14_ofHallNow_55 : decode cX14_ofHallNow 55 = .ok (.ireturn, 1) := by decide +kernel
theorem dccX14_ofHallNow_56 : decode cX14_ofHallNow 56 = .ok (.aload_n 0, 1) := by decide +kernel
theorem dccX14_ofHallNow_57 : decode cX14_ofHallNow 57 = .ok (.aload_n 0, 1) := by decide +kernel
theorem dccX14_ofHallNow_58 : decode cX14_ofHallNow 58 = .ok (.invokevirtual 208, 3) := by decide +kernel
theorem dccX14_ofHallNow_61 : decode cX14_ofHallNow 61 = .ok (.iload_n 1, 1) := by decide +kernel
theorem dccX14_ofHallNow_62 : decode cX14_ofHallNow 62 = .ok (.invokevirtual 195, 3) := by decide +kernel
theorem dccX14_ofHallNow_65 : decode cX14_ofHallNow 65 = .ok (.ireturn, 1) := by decide +kernel
theorem dccX14_ofHallNow_66 : decode cX14_ofHallNow 66 = .ok (.aload_n 0, 1) := by decide +kernel
theorem dccX14_ofHallNow_67 : decode cX14_ofHallNow 67 = .ok (.aload_n 0, 1) := by decide +kernel
theorem dccX14_ofHallNow_68 : decode cX14_ofHallNow 68 = .ok (.aload_n 0, 1) := by decide +kernel
theorem dccX14_ofHallNow_69 : decode cX14_ofHallNow 69 = .ok (.invokevirtual 208, 3) := by decide +kernel
theorem dccX14_ofHallNow_72 : decode cX14_ofHallNow 72 = .ok (.iload_n 1, 1) := by decide +kernel
theorem dccX14_ofHallNow_73 : decode cX14_ofHallNow 73 = .ok (.invokevirtual 195, 3) := by decide +kernel
theorem dccX14_ofHallNow_76 : decode cX14_ofHallNow 76 = .ok (.invokevirtual 218, 3) := by decide +kernel
theorem dccX14_ofHallNow_79 : decode cX14_ofHallNow 79 = .ok (.ireturn, 1) := by decide +kernel
theorem dccX14_ofHousehold_0 : decode cX14_ofHousehold 0 = .ok (.aload_n 0, 1) := by decide +kernel
theorem dccX14_ofHousehold_1 : decode cX14_ofHousehold 1 = .ok (.iconst 0, 1) := by decide +kernel
theorem dccX14_ofHousehold_2 : decode cX14_ofHousehold 2 = .ok (.putfield 35, 3) := by decide +kernel
theorem dccX14_ofHousehold_5 : decode cX14_ofHousehold 5 = .ok (.aload_n 0, 1) := by decide +kernel
theorem dccX14_ofHousehold_6 : decode cX14_ofHousehold 6 = .ok (.iload_n 1, 1) := by decide +kernel
theorem dccX14_ofHousehold_7 : decode cX14_ofHousehold 7 = .ok (.invokevirtual 89, 3) := by decide +kernel
theorem dccX14_ofHousehold_10 : decode cX14_ofHousehold 10 = .ok (.ifCond .ne 9, 3) := by decide +kernel
theorem dccX14_ofHousehold_13 : decode cX14_ofHousehold 13 = .ok (.aload_n 0, 1) := by decide +kernel
theorem dccX14_ofHousehold_14 : decode cX14_ofHousehold 14 = .ok (.iconst 1, 1) := by decide +kernel
theorem dccX14_ofHousehold_15 : decode cX14_ofHousehold 15 = .ok (.invokevirtual 46, 3) := by decide +kernel
theorem dccX14_ofHousehold_18 : decode cX14_ofHousehold 18 = .ok (.ireturn, 1) := by decide +kernel
theorem dccX14_ofHousehold_19 : decode cX14_ofHousehold 19 = .ok (.iload_n 2, 1) := by decide +kernel
theorem dccX14_ofHousehold_20 : decode cX14_ofHousehold 20 = .ok (.iconst 0, 1) := by decide +kernel
theorem dccX14_ofHousehold_21 : decode cX14_ofHousehold 21 = .ok (.iconst 5, 1) := by decide +kernel
theorem dccX14_ofHousehold_22 : decode cX14_ofHousehold 22 = .ok (.invokestatic 42, 3) := by decide +kernel
theorem dccX14_ofHousehold_25 : decode cX14_ofHousehold 25 = .ok (.ifCond .eq 12, 3) := by decide +kernel
theorem dccX14_ofHousehold_28 : decode cX14_ofHousehold 28 = .ok (.aload_n 0, 1) := by decide +kernel
theorem dccX14_ofHousehold_29 : decode cX14_ofHousehold 29 = .ok (.iload_n 1, 1) := by decide +kernel
theorem dccX14_ofHousehold_30 : decode cX14_ofHousehold 30 = .ok (.iload_n 2, 1) := by decide +kernel
theorem dccX14_ofHousehold_31 : decode cX14_ofHousehold 31 = .ok (.invokevirtual 215, 3) := by decide +kernel
theorem dccX14_ofHousehold_34 : decode cX14_ofHousehold 34 = .ok (.goto 8, 3) := by decide +kernel
theorem dccX14_ofHousehold_37 : decode cX14_ofHousehold 37 = .ok (.aload_n 0, 1) := by decide +kernel
theorem dccX14_ofHousehold_38 : decode cX14_ofHousehold 38 = .ok (.iconst 2, 1) := by decide +kernel
theorem dccX14_ofHousehold_39 : decode cX14_ofHousehold 39 = .ok (.invokevirtual 46, 3) := by decide +kernel
theorem dccX14_ofHousehold_42 : decode cX14_ofHousehold 42 = .ok (.ireturn, 1) := by decide +kernel
theorem dccX14_ofHouseholdNow_0 : decode cX14_ofHouseholdNow 0 = .ok (.aload_n 0, 1) := by decide +kernel
theorem dccX14_ofHouseholdNow_1 : decode cX14_ofHouseholdNow 1 = .ok (.getfield 26, 3) := by decide +kernel
theorem dccX14_ofHouseholdNow_4 : decode cX14_ofHouseholdNow 4 = .ok (.iload_n 1, 1) := by decide +kernel
theorem dccX14_ofHouseholdNow_5 : decode cX14_ofHouseholdNow 5 = .ok (.invokevirtual 58, 3) := by decide +kernel
theorem dccX14_ofHouseholdNow_8 : decode cX14_ofHouseholdNow 8 = .ok (.checkcast 67, 3) := by decide +kernel
theorem dccX14_ofHouseholdNow_11 : decode cX14_ofHouseholdNow 11 = .ok (.astore_n 3, 1) := by decide +kernel
theorem dccX14_ofHouseholdNow_12 : decode cX14_ofHouseholdNow 12 = .ok (.iload_n 2, 1) := by decide +kernel
theorem dccX14_ofHouseholdNow_13 : decode cX14_ofHouseholdNow 13 = .ok (.tableswitch 70 0 4 #[35, 40, 45, 58, 63], 35) := by decide +kernel
theorem dccX14_ofHouseholdNow_48 : decode cX14_ofHouseholdNow 48 = .ok (.aload_n 3, 1) := by decide +kernel
theorem dccX14_ofHouseholdNow_49 : decode cX14_ofHouseholdNow 49 = .ok (.getfield 70, 3) := by decide +kernel
theorem dccX14_ofHouseholdNow_52 : decode cX14_ofHouseholdNow 52 = .ok (.ireturn, 1) := by decide +kernel
theorem dccX14_ofHouseholdNow_53 : decode cX14_ofHouseholdNow 53 = .ok (.aload_n 3, 1) := by decide +kernel
theorem dccX14_ofHouseholdNow_54 : decode cX14_ofHouseholdNow 54 = .ok (.getfield 73, 3) := by decide +kernel
theorem dccX14_ofHouseholdNow_57 : decode cX14_ofHouseholdNow 57 = .ok (.ireturn, 1) := by decide +kernel
theorem dccX14_ofHouseholdNow_58 : decode cX14_ofHouseholdNow 58 = .ok (.aload_n 3, 1) := by decide +kernel
theorem dccX14_ofHouseholdNow_59 : decode cX14_ofHouseholdNow 59 = .ok (.getfield 76, 3) := by decide +kernel
theorem dccX14_ofHouseholdNow_62 : decode cX14_ofHouseholdNow 62 = .ok (.ifCond .eq 7, 3) := by decide +kernel
theorem dccX14_ofHouseholdNow_65 : decode cX14_ofHouseholdNow 65 = .ok (.iconst 1, 1) := by decide +kernel
theorem dccX14_ofHouseholdNow_66 : decode cX14_ofHouseholdNow 66 = .ok (.goto 4, 3) := by decide +kernel
theorem dccX14_ofHouseholdNow_69 : decode cX14_ofHouseholdNow 69 = .ok (.iconst 0, 1) := by decide +kernel
theorem dccX14_ofHouseholdNow_70 : decode cX14_ofHouseholdNow 70 = .ok (.ireturn, 1) := by decide +kernel
theorem dccX14_ofHouseholdNow_71 : decode cX14_ofHouseholdNow 71 = .ok (.aload_n 3, 1) := by decide +kernel
theorem dccX14_ofHouseholdNow_72 : decode cX14_ofHouseholdNow 72 = .ok (.getfield 83, 3) := by decide +kernel
theorem dccX14_ofHouseholdNow_75 : decode cX14_ofHouseholdNow 75 = .ok (.ireturn, 1) := by decide +kernel
theorem dccX14_ofHouseholdNow_76 : decode cX14_ofHouseholdNow 76 = .ok (.aload_n 0, 1) := by decide +kernel
theorem dccX14_ofHouseholdNow_77 : decode cX14_ofHouseholdNow 77 = .ok (.invokevirtual 208, 3) := by decide +kernel
theorem dccX14_ofHouseholdNow_80 : decode cX14_ofHouseholdNow 80 = .ok (.iload_n 1, 1) := by decide +kernel
theorem dccX14_ofHouseholdNow_81 : decode cX14_ofHouseholdNow 81 = .ok (.iaload, 1) := by decide +kernel
theorem dccX14_ofHouseholdNow_82 : decode cX14_ofHouseholdNow 82 = .ok (.ireturn, 1) := by decide +kernel
theorem dccX14_ofHouseholdNow_83 : decode cX14_ofHouseholdNow 83 = .ok (.aload_n 0, 1) := by decide +kernel
theorem dccX14_ofHouseholdNow_84 : decode cX14_ofHouseholdNow 84 = .ok (.invokevirtual 212, 3) := by decide +kernel
theorem dccX14_ofHouseholdNow_87 : decode cX14_ofHouseholdNow 87 = .ok (.iload_n 1, 1) := by decide +kernel
theorem dccX14_ofHouseholdNow_88 : decode cX14_ofHouseholdNow 88 = .ok (.invokestatic 162, 3) := by decide +kernel
theorem dccX14_ofHouseholdNow_91 : decode cX14_ofHouseholdNow 91 = .ok (.ifCond .eq 7, 3) := by decide +kernel
theorem dccX14_ofHouseholdNow_94 : decode cX14_ofHouseholdNow 94 = .ok (.iconst 1, 1) := by decide +kernel
theorem dccX14_ofHouseholdNow_95 : decode cX14_ofHouseholdNow 95 = .ok (.goto 4, 3) := by decide +kernel
theorem dccX14_ofHouseholdNow_98 : decode cX14_ofHouseholdNow 98 = .ok (.iconst 0, 1) := by decide +kernel
theorem dccX14_ofHouseholdNow_99 : decode cX14_ofHouseholdNow 99 = .ok (.ireturn, 1) := by decide +kernel
theorem dccX14_ofLot_0 : decode cX14_ofLot 0 = .ok (.aload_n 0, 1) := by decide +kernel
theorem dccX14_ofLot_1 : decode cX14_ofLot 1 = .ok (.iconst 0, 1) := by decide +kernel
theorem dccX14_ofLot_2 : decode cX14_ofLot 2 = .ok (.putfield 35, 3) := by decide +kernel
theorem dccX14_ofLot_5 : decode cX14_ofLot 5 = .ok (.iload_n 1, 1) := by decide +kernel
theorem dccX14_ofLot_6 : decode cX14_ofLot 6 = .ok (.iconst 0, 1) := by decide +kernel
theorem dccX14_ofLot_7 : decode cX14_ofLot 7 = .ok (.aload_n 0, 1) := by decide +kernel
theorem dccX14_ofLot_8 : decode cX14_ofLot 8 = .ok (.getfield 29, 3) := by decide +kernel
theorem dccX14_ofLot_11 : decode cX14_ofLot 11 = .ok (.invokevirtual 38, 3) := by decide +kernel
theorem dccX14_ofLot_14 : decode cX14_ofLot 14 = .ok (.iconst 1, 1) := by decide +kernel
theorem dccX14_ofLot_15 : decode cX14_ofLot 15 = .ok (.isub, 1) := by decide +kernel
theorem dccX14_ofLot_16 : decode cX14_ofLot 16 = .ok (.invokestatic 42, 3) := by decide +kernel
theorem dccX14_ofLot_19 : decode cX14_ofLot 19 = .ok (.ifCond .ne 9, 3) := by decide +kernel
theorem dccX14_ofLot_22 : decode cX14_ofLot 22 = .ok (.aload_n 0, 1) := by decide +kernel
theorem dccX14_ofLot_23 : decode cX14_ofLot 23 = .ok (.iconst 1, 1) := by decide +kernel
theorem dccX14_ofLot_24 : decode cX14_ofLot 24 = .ok (.invokevirtual 46, 3) := by decide +kernel
theorem dccX14_ofLot_27 : decode cX14_ofLot 27 = .ok (.ireturn, 1) := by decide +kernel
theorem dccX14_ofLot_28 : decode cX14_ofLot 28 = .ok (.iload_n 2, 1) := by decide +kernel
theorem dccX14_ofLot_29 : decode cX14_ofLot 29 = .ok (.ifCond .eq 8, 3) := by decide +kernel
theorem dccX14_ofLot_32 : decode cX14_ofLot 32 = .ok (.iload_n 2, 1) := by decide +kernel
theorem dccX14_ofLot_33 : decode cX14_ofLot 33 = .ok (.iconst 1, 1) := by decide +kernel
theorem dccX14_ofLot_34 : decode cX14_ofLot 34 = .ok (.if_icmp .ne 19, 3) := by decide +kernel
theorem dccX14_ofLot_37 : decode cX14_ofLot 37 = .ok (.aload_n 0, 1) := by decide +kernel
theorem dccX14_ofLot_38 : decode cX14_ofLot 38 = .ok (.getfield 29, 3) := by decide +kernel
theorem dccX14_ofLot_41 : decode cX14_ofLot 41 = .ok (.iload_n 1, 1) := by decide +kernel
theorem dccX14_ofLot_42 : decode cX14_ofLot 42 = .ok (.invokevirtual 58, 3) := by decide +kernel
theorem dccX14_ofLot_45 : decode cX14_ofLot 45 = .ok (.checkcast 62, 3) := by decide +kernel
theorem dccX14_ofLot_48 : decode cX14_ofLot 48 = .ok (.iload_n 2, 1) := by decide +kernel
theorem dccX14_ofLot_49 : decode cX14_ofLot 49 = .ok (.iaload, 1) := by decide +kernel
theorem dccX14_ofLot_50 : decode cX14_ofLot 50 = .ok (.goto 8, 3) := by decide +kernel
theorem dccX14_ofLot_53 : decode cX14_ofLot 53 = .ok (.aload_n 0, 1) := by decide +kernel
theorem dccX14_ofLot_54 : decode cX14_ofLot 54 = .ok (.iconst 2, 1) := by decide +kernel
theorem dccX14_ofLot_55 : decode cX14_ofLot 55 = .ok (.invokevirtual 46, 3) := by decide +kernel
theorem dccX14_ofLot_58 : decode cX14_ofLot 58 = .ok (.ireturn, 1) := by decide +kernel
theorem dccX14_ofStreet_0 : decode cX14_ofStreet 0 = .ok (.aload_n 0, 1) := by decide +kernel
theorem dccX14_ofStreet_1 : decode cX14_ofStreet 1 = .ok (.iconst 0, 1) := by decide +kernel
theorem dccX14_ofStreet_2 : decode cX14_ofStreet 2 = .ok (.putfield 35, 3) := by decide +kernel
theorem dccX14_ofStreet_5 : decode cX14_ofStreet 5 = .ok (.aload_n 0, 1) := by decide +kernel
theorem dccX14_ofStreet_6 : decode cX14_ofStreet 6 = .ok (.iload_n 1, 1) := by decide +kernel
theorem dccX14_ofStreet_7 : decode cX14_ofStreet 7 = .ok (.invokevirtual 64, 3) := by decide +kernel
theorem dccX14_ofStreet_10 : decode cX14_ofStreet 10 = .ok (.ifCond .ne 9, 3) := by decide +kernel
theorem dccX14_ofStreet_13 : decode cX14_ofStreet 13 = .ok (.aload_n 0, 1) := by decide +kernel
theorem dccX14_ofStreet_14 : decode cX14_ofStreet 14 = .ok (.iconst 1, 1) := by decide +kernel
theorem dccX14_ofStreet_15 : decode cX14_ofStreet 15 = .ok (.invokevirtual 46, 3) := by decide +kernel
theorem dccX14_ofStreet_18 : decode cX14_ofStreet 18 = .ok (.ireturn, 1) := by decide +kernel
theorem dccX14_ofStreet_19 : decode cX14_ofStreet 19 = .ok (.iload_n 2, 1) := by decide +kernel
theorem dccX14_ofStreet_20 : decode cX14_ofStreet 20 = .ok (.iconst 0, 1) := by decide +kernel
theorem dccX14_ofStreet_21 : decode cX14_ofStreet 21 = .ok (.iconst 4, 1) := by decide +kernel
theorem dccX14_ofStreet_22 : decode cX14_ofStreet 22 = .ok (.invokestatic 42, 3) := by decide +kernel
theorem dccX14_ofStreet_25 : decode cX14_ofStreet 25 = .ok (.ifCond .eq 12, 3) := by decide +kernel
theorem dccX14_ofStreet_28 : decode cX14_ofStreet 28 = .ok (.aload_n 0, 1) := by decide +kernel
theorem dccX14_ofStreet_29 : decode cX14_ofStreet 29 = .ok (.iload_n 1, 1) := by decide +kernel
theorem dccX14_ofStreet_30 : decode cX14_ofStreet 30 = .ok (.iload_n 2, 1) := by decide +kernel
theorem dccX14_ofStreet_31 : decode cX14_ofStreet 31 = .ok (.invokevirtual 205, 3) := by decide +kernel
theorem dccX14_ofStreet_34 : decode cX14_ofStreet 34 = .ok (.goto 8, 3) := by decide +kernel
theorem dccX14_ofStreet_37 : decode cX14_ofStreet 37 = .ok (.aload_n 0, 1) := by decide +kernel
theorem dccX14_ofStreet_38 : decode cX14_ofStreet 38 = .ok (.iconst 2, 1) := by decide +kernel
theorem dccX14_ofStreet_39 : decode cX14_ofStreet 39 = .ok (.invokevirtual 46, 3) := by decide +kernel
theorem dccX14_ofStreet_42 : decode cX14_ofStreet 42 = .ok (.ireturn, 1) := by decide +kernel
theorem dccX14_ofStreetNow_0 : decode cX14_ofStreetNow 0 = .ok (.iload_n 2, 1) := by decide +kernel
theorem dccX14_ofStreetNow_1 : decode cX14_ofStreetNow 1 = .ok (.tableswitch 79 0 3 #[31, 45, 59, 73], 31) := by decide +kernel
theorem dccX14_ofStreetNow_32 : decode cX14_ofStreetNow 32 = .ok (.aload_n 0, 1) := by decide +kernel
theorem dccX14_ofStreetNow_33 : decode cX14_ofStreetNow 33 = .ok (.getfield 19, 3) := by decide +kernel
theorem dccX14_ofStreetNow_36 : decode cX14_ofStreetNow 36 = .ok (.iload_n 1, 1) := by decide +kernel
theorem dccX14_ofStreetNow_37 : decode cX14_ofStreetNow 37 = .ok (.invokevirtual 58, 3) := by decide +kernel
theorem dccX14_ofStreetNow_40 : decode cX14_ofStreetNow 40 = .ok (.checkcast 62, 3) := by decide +kernel
theorem dccX14_ofStreetNow_43 : decode cX14_ofStreetNow 43 = .ok (.iconst 0, 1) := by decide +kernel
theorem dccX14_ofStreetNow_44 : decode cX14_ofStreetNow 44 = .ok (.iaload, 1) := by decide +kernel
theorem dccX14_ofStreetNow_45 : decode cX14_ofStreetNow 45 = .ok (.ireturn, 1) := by decide +kernel
theorem dccX14_ofStreetNow_46 : decode cX14_ofStreetNow 46 = .ok (.aload_n 0, 1) := by decide +kernel
theorem dccX14_ofStreetNow_47 : decode cX14_ofStreetNow 47 = .ok (.getfield 19, 3) := by decide +kernel
theorem dccX14_ofStreetNow_50 : decode cX14_ofStreetNow 50 = .ok (.iload_n 1, 1) := by decide +kernel
theorem dccX14_ofStreetNow_51 : decode cX14_ofStreetNow 51 = .ok (.invokevirtual 58, 3) := by decide +kernel
theorem dccX14_ofStreetNow_54 : decode cX14_ofStreetNow 54 = .ok (.checkcast 62, 3) := by decide +kernel
theorem dccX14_ofStreetNow_57 : decode cX14_ofStreetNow 57 = .ok (.iconst 1, 1) := by decide +kernel
theorem dccX14_ofStreetNow_58 : decode cX14_ofStreetNow 58 = .ok (.iaload, 1) := by decide +kernel
theorem dccX14_ofStreetNow_59 : decode cX14_ofStreetNow 59 = .ok (.ireturn, 1) := by decide +kernel
theorem dccX14_ofStreetNow_60 : decode cX14_ofStreetNow 60 = .ok (.aload_n 0, 1) := by decide +kernel
theorem dccX14_ofStreetNow_61 : decode cX14_ofStreetNow 61 = .ok (.iload_n 1, 1) := by decide +kernel
theorem dccX14_ofStreetNow_62 : decode cX14_ofStreetNow 62 = .ok (.invokevirtual 80, 3) := by decide +kernel
theorem dccX14_ofStreetNow_65 : decode cX14_ofStreetNow 65 = .ok (.ifCond .eq 7, 3) := by decide +kernel
theorem dccX14_ofStreetNow_68 : decode cX14_ofStreetNow 68 = .ok (.iconst 1, 1) := by decide +kernel
theorem dccX14_ofStreetNow_69 : decode cX14_ofStreetNow 69 = .ok (.goto 4, 3) := by decide +kernel
theorem dccX14_ofStreetNow_72 : decode cX14_ofStreetNow 72 = .ok (.iconst 0, 1) := by decide +kernel
theorem dccX14_ofStreetNow_73 : decode cX14_ofStreetNow 73 = .ok (.ireturn, 1) := by decide +kernel
theorem dccX14_ofStreetNow_74 : decode cX14_ofStreetNow 74 = .ok (.aload_n 0, 1) := by decide +kernel
theorem dccX14_ofStreetNow_75 : decode cX14_ofStreetNow 75 = .ok (.iload_n 1, 1) := by decide +kernel
theorem dccX14_ofStreetNow_76 : decode cX14_ofStreetNow 76 = .ok (.invokevirtual 177, 3) := by decide +kernel
theorem dccX14_ofStreetNow_79 : decode cX14_ofStreetNow 79 = .ok (.ireturn, 1) := by decide +kernel
theorem dccX14_ofStreetNow_80 : decode cX14_ofStreetNow 80 = .ok (.aload_n 0, 1) := by decide +kernel
theorem dccX14_ofStreetNow_81 : decode cX14_ofStreetNow 81 = .ok (.iload_n 1, 1) := by decide +kernel
theorem dccX14_ofStreetNow_82 : decode cX14_ofStreetNow 82 = .ok (.iconst 0, 1) := by decide +kernel
theorem dccX14_ofStreetNow_83 : decode cX14_ofStreetNow 83 = .ok (.invokevirtual 202, 3) := by decide +kernel
theorem dccX14_ofStreetNow_86 : decode cX14_ofStreetNow 86 = .ok (.ireturn, 1) := by decide +kernel
theorem dccX14_pass_0 : decode cX14_pass 0 = .ok (.aload_n 0, 1) := by decide +kernel
theorem dccX14_pass_1 : decode cX14_pass 1 = .ok (.iconst 0, 1) := by decide +kernel
theorem dccX14_pass_2 : decode cX14_pass 2 = .ok (.putfield 35, 3) := by decide +kernel
theorem dccX14_pass_5 : decode cX14_pass 5 = .ok (.iload_n 1, 1) := by decide +kernel
theorem dccX14_pass_6 : decode cX14_pass 6 = .ok (.iconst 1, 1) := by decide +kernel
theorem dccX14_pass_7 : decode cX14_pass 7 = .ok (.bipush 48, 2) := by decide +kernel
theorem dccX14_pass_9 : decode cX14_pass 9 = .ok (.invokestatic 42, 3) := by decide +kernel
theorem dccX14_pass_12 : decode cX14_pass 12 = .ok (.ifCond .ne 9, 3) := by decide +kernel
theorem dccX14_pass_15 : decode cX14_pass 15 = .ok (.aload_n 0, 1) := by decide +kernel
theorem dccX14_pass_16 : decode cX14_pass 16 = .ok (.iconst 1, 1) := by decide +kernel
theorem dccX14_pass_17 : decode cX14_pass 17 = .ok (.invokevirtual 46, 3) := by decide +kernel
theorem dccX14_pass_20 : decode cX14_pass 20 = .ok (.ireturn, 1) := by decide +kernel
theorem dccX14_pass_21 : decode cX14_pass 21 = .ok (.aload_n 0, 1) := by decide +kernel
theorem dccX14_pass_22 : decode cX14_pass 22 = .ok (.getfield 104, 3) := by decide +kernel
theorem dccX14_pass_25 : decode cX14_pass 25 = .ok (.iload_n 1, 1) := by decide +kernel
theorem dccX14_pass_26 : decode cX14_pass 26 = .ok (.iadd, 1) := by decide +kernel
theorem dccX14_pass_27 : decode cX14_pass 27 = .ok (.sipush 500, 3) := by decide +kernel
theorem dccX14_pass_30 : decode cX14_pass 30 = .ok (.if_icmp .le 9, 3) := by decide +kernel
theorem dccX14_pass_33 : decode cX14_pass 33 = .ok (.aload_n 0, 1) := by decide +kernel
theorem dccX14_pass_34 : decode cX14_pass 34 = .ok (.iconst 2, 1) := by decide +kernel
theorem dccX14_pass_35 : decode cX14_pass 35 = .ok (.invokevirtual 46, 3) := by decide +kernel
theorem dccX14_pass_38 : decode cX14_pass 38 = .ok (.ireturn, 1) := by decide +kernel
theorem dccX14_pass_39 : decode cX14_pass 39 = .ok (.iconst 0, 1) := by decide +kernel
theorem dccX14_pass_40 : decode cX14_pass 40 = .ok (.istore_n 2, 1) := by decide +kernel
theorem dccX14_pass_41 : decode cX14_pass 41 = .ok (.iconst 0, 1) := by decide +kernel
theorem dccX14_pass_42 : decode cX14_pass 42 = .ok (.istore_n 3, 1) := by decide +kernel
theorem dccX14_pass_43 : decode cX14_pass 43 = .ok (.iload_n 3, 1) := by decide +kernel
theorem dccX14_pass_44 : decode cX14_pass 44 = .ok (.iload_n 1, 1) := by decide +kernel
theorem dccX14_pass_45 : decode cX14_pass 45 = .ok (.if_icmp .ge 16, 3) := by decide +kernel
theorem dccX14_pass_48 : decode cX14_pass 48 = .ok (.iload_n 2, 1) := by decide +kernel
theorem dccX14_pass_49 : decode cX14_pass 49 = .ok (.aload_n 0, 1) := by decide +kernel
theorem dccX14_pass_50 : decode cX14_pass 50 = .ok (.invokevirtual 124, 3) := by decide +kernel
theorem dccX14_pass_53 : decode cX14_pass 53 = .ok (.iadd, 1) := by decide +kernel
theorem dccX14_pass_54 : decode cX14_pass 54 = .ok (.istore_n 2, 1) := by decide +kernel
theorem dccX14_pass_55 : decode cX14_pass 55 = .ok (.iinc 3 1, 3) := by decide +kernel
theorem dccX14_pass_58 : decode cX14_pass 58 = .ok (.goto (-15), 3) := by decide +kernel
theorem dccX14_pass_61 : decode cX14_pass 61 = .ok (.iload_n 2, 1) := by decide +kernel
theorem dccX14_pass_62 : decode cX14_pass 62 = .ok (.ireturn, 1) := by decide +kernel
theorem dccX14_peopleOf_0 : decode cX14_peopleOf 0 = .ok (.iconst 0, 1) := by decide +kernel
theorem dccX14_peopleOf_1 : decode cX14_peopleOf 1 = .ok (.istore_n 2, 1) := by decide +kernel
theorem dccX14_peopleOf_2 : decode cX14_peopleOf 2 = .ok (.iconst 0, 1) := by decide +kernel
theorem dccX14_peopleOf_3 : decode cX14_peopleOf 3 = .ok (.istore_n 3, 1) := by decide +kernel
theorem dccX14_peopleOf_4 : decode cX14_peopleOf 4 = .ok (.iload_n 3, 1) := by decide +kernel
theorem dccX14_peopleOf_5 : decode cX14_peopleOf 5 = .ok (.aload_n 0, 1) := by decide +kernel
theorem dccX14_peopleOf_6 : decode cX14_peopleOf 6 = .ok (.getfield 26, 3) := by decide +kernel
theorem dccX14_peopleOf_9 : decode cX14_peopleOf 9 = .ok (.invokevirtual 38, 3) := by decide +kernel
theorem dccX14_peopleOf_12 : decode cX14_peopleOf 12 = .ok (.if_icmp .ge 38, 3) := by decide +kernel
theorem dccX14_peopleOf_15 : decode cX14_peopleOf 15 = .ok (.iload_n 2, 1) := by decide +kernel
theorem dccX14_peopleOf_16 : decode cX14_peopleOf 16 = .ok (.iload_n 1, 1) := by decide +kernel
theorem dccX14_peopleOf_17 : decode cX14_peopleOf 17 = .ok (.iload_n 3, 1) := by decide +kernel
theorem dccX14_peopleOf_18 : decode cX14_peopleOf 18 = .ok (.invokestatic 162, 3) := by decide +kernel
theorem dccX14_peopleOf_21 : decode cX14_peopleOf 21 = .ok (.ifCond .eq 20, 3) := by decide +kernel
theorem dccX14_peopleOf_24 : decode cX14_peopleOf 24 = .ok (.aload_n 0, 1) := by decide +kernel
theorem dccX14_peopleOf_25 : decode cX14_peopleOf 25 = .ok (.getfield 26, 3) := by decide +kernel
theorem dccX14_peopleOf_28 : decode cX14_peopleOf 28 = .ok (.iload_n 3, 1) := by decide +kernel
theorem dccX14_peopleOf_29 : decode cX14_peopleOf 29 = .ok (.invokevirtual 58, 3) := by decide +kernel
theorem dccX14_peopleOf_32 : decode cX14_peopleOf 32 = .ok (.checkcast 67, 3) := by decide +kernel
theorem dccX14_peopleOf_35 : decode cX14_peopleOf 35 = .ok (.getfield 73, 3) := by decide +kernel
theorem dccX14_peopleOf_38 : decode cX14_peopleOf 38 = .ok (.goto 4, 3) := by decide +kernel
theorem dccX14_peopleOf_41 : decode cX14_peopleOf 41 = .ok (.iconst 0, 1) := by decide +kernel
theorem dccX14_peopleOf_42 : decode cX14_peopleOf 42 = .ok (.iadd, 1) := by decide +kernel
theorem dccX14_peopleOf_43 : decode cX14_peopleOf 43 = .ok (.istore_n 2, 1) := by decide +kernel
theorem dccX14_peopleOf_44 : decode cX14_peopleOf 44 = .ok (.iinc 3 1, 3) := by decide +kernel
theorem dccX14_peopleOf_47 : decode cX14_peopleOf 47 = .ok (.goto (-43), 3) := by decide +kernel
theorem dccX14_peopleOf_50 : decode cX14_peopleOf 50 = .ok (.iload_n 2, 1) := by decide +kernel
theorem dccX14_peopleOf_51 : decode cX14_peopleOf 51 = .ok (.ireturn, 1) := by decide +kernel
theorem dccX14_persons_0 : decode cX14_persons 0 = .ok (.iconst 0, 1) := by decide +kernel
theorem dccX14_persons_1 : decode cX14_persons 1 = .ok (.istore_n 1, 1) := by decide +kernel
theorem dccX14_persons_2 : decode cX14_persons 2 = .ok (.iconst 1, 1) := by decide +kernel
theorem dccX14_persons_3 : decode cX14_persons 3 = .ok (.aload_n 0, 1) := by decide +kernel
theorem dccX14_persons_4 : decode cX14_persons 4 = .ok (.getfield 32, 3) := by decide +kernel
theorem dccX14_persons_7 : decode cX14_persons 7 = .ok (.invokevirtual 38, 3) := by decide +kernel
theorem dccX14_persons_10 : decode cX14_persons 10 = .ok (.ishl, 1) := by decide +kernel
theorem dccX14_persons_11 : decode cX14_persons 11 = .ok (.iconst 1, 1) := by decide +kernel
theorem dccX14_persons_12 : decode cX14_persons 12 = .ok (.isub, 1) := by decide +kernel
theorem dccX14_persons_13 : decode cX14_persons 13 = .ok (.aload_n 0, 1) := by decide +kernel
theorem dccX14_persons_14 : decode cX14_persons 14 = .ok (.getfield 156, 3) := by decide +kernel
theorem dccX14_persons_17 : decode cX14_persons 17 = .ok (.iconst (-1), 1) := by decide +kernel
theorem dccX14_persons_18 : decode cX14_persons 18 = .ok (.ixor, 1) := by decide +kernel
theorem dccX14_persons_19 : decode cX14_persons 19 = .ok (.iand, 1) := by decide +kernel
theorem dccX14_persons_20 : decode cX14_persons 20 = .ok (.istore_n 2, 1) := by decide +kernel
theorem dccX14_persons_21 : decode cX14_persons 21 = .ok (.iload_n 2, 1) := by decide +kernel
theorem dccX14_persons_22 : decode cX14_persons 22 = .ok (.ifCond .eq 138, 3) := by decide +kernel
theorem dccX14_persons_25 : decode cX14_persons 25 = .ok (.iload_n 2, 1) := by decide +kernel
theorem dccX14_persons_26 : decode cX14_persons 26 = .ok (.invokestatic 159, 3) := by decide +kernel
theorem dccX14_persons_29 : decode cX14_persons 29 = .ok (.istore_n 3, 1) := by decide +kernel
theorem dccX14_persons_30 : decode cX14_persons 30 = .ok (.iconst 0, 1) := by decide +kernel
theorem dccX14_persons_31 : decode cX14_persons 31 = .ok (.istore 4, 2) := by decide +kernel
theorem dccX14_persons_33 : decode cX14_persons 33 = .ok (.iload_n 3, 1) := by decide +kernel
theorem dccX14_persons_34 : decode cX14_persons 34 = .ok (.iload 4, 2) := by decide +kernel
theorem dccX14_persons_36 : decode cX14_persons 36 = .ok (.if_icmp .eq 112, 3) := by decide +kernel
theorem dccX14_persons_39 : decode cX14_persons 39 = .ok (.iload_n 3, 1) := by decide +kernel
theorem dccX14_persons_40 : decode cX14_persons 40 = .ok (.istore 4, 2) := by decide +kernel
theorem dccX14_persons_42 : decode cX14_persons 42 = .ok (.iconst 0, 1) := by decide +kernel
theorem dccX14_persons_43 : decode cX14_persons 43 = .ok (.istore 5, 2) := by decide +kernel
theorem dccX14_persons_45 : decode cX14_persons 45 = .ok (.iload 5, 2) := by decide +kernel
theorem dccX14_persons_47 : decode cX14_persons 47 = .ok (.aload_n 0, 1) := by decide +kernel
theorem dccX14_persons_48 : decode cX14_persons 48 = .ok (.getfield 32, 3) := by decide +kernel
theorem dccX14_persons_51 : decode cX14_persons 51 = .ok (.invokevirtual 38, 3) := by decide +kernel
theorem dccX14_persons_54 : decode cX14_persons 54 = .ok (.if_icmp .ge 91, 3) := by decide +kernel
theorem dccX14_persons_57 : decode cX14_persons 57 = .ok (.iconst 0, 1) := by decide +kernel
theorem dccX14_persons_58 : decode cX14_persons 58 = .ok (.istore 6, 2) := by decide +kernel
theorem dccX14_persons_60 : decode cX14_persons 60 = .ok (.iload 6, 2) := by decide +kernel
theorem dccX14_persons_62 : decode cX14_persons 62 = .ok (.aload_n 0, 1) := by decide +kernel
theorem dccX14_persons_63 : decode cX14_persons 63 = .ok (.getfield 32, 3) := by decide +kernel
theorem dccX14_persons_66 : decode cX14_persons 66 = .ok (.invokevirtual 38, 3) := by decide +kernel
theorem dccX14_persons_69 : decode cX14_persons 69 = .ok (.if_icmp .ge 70, 3) := by decide +kernel
theorem dccX14_persons_72 : decode cX14_persons 72 = .ok (.iload_n 3, 1) := by decide +kernel
theorem dccX14_persons_73 : decode cX14_persons 73 = .ok (.iload 5, 2) := by decide +kernel
theorem dccX14_persons_75 : decode cX14_persons 75 = .ok (.invokestatic 162, 3) := by decide +kernel
theorem dccX14_persons_78 : decode cX14_persons 78 = .ok (.ifCond .eq 55, 3) := by decide +kernel
theorem dccX14_persons_81 : decode cX14_persons 81 = .ok (.iload_n 2, 1) := by decide +kernel
theorem dccX14_persons_82 : decode cX14_persons 82 = .ok (.iload 6, 2) := by decide +kernel
theorem dccX14_persons_84 : decode cX14_persons 84 = .ok (.invokestatic 162, 3) := by decide +kernel
theorem dccX14_persons_87 : decode cX14_persons 87 = .ok (.ifCond .eq 46, 3) := by decide +kernel
theorem dccX14_persons_90 : decode cX14_persons 90 = .ok (.aload_n 0, 1) := by decide +kernel
theorem dccX14_persons_91 : decode cX14_persons 91 = .ok (.getfield 32, 3) := by decide +kernel
theorem dccX14_persons_94 : decode cX14_persons 94 = .ok (.iload 5, 2) := by decide +kernel
theorem dccX14_persons_96 : decode cX14_persons 96 = .ok (.invokevirtual 58, 3) := by decide +kernel
theorem dccX14_persons_99 : decode cX14_persons 99 = .ok (.checkcast 141, 3) := by decide +kernel
theorem dccX14_persons_102 : decode cX14_persons 102 = .ok (.invokevirtual 165, 3) := by decide +kernel
theorem dccX14_persons_105 : decode cX14_persons 105 = .ok (.aload_n 0, 1) := by decide +kernel
theorem dccX14_persons_106 : decode cX14_persons 106 = .ok (.getfield 32, 3) := by decide +kernel
theorem dccX14_persons_109 : decode cX14_persons 109 = .ok (.iload 6, 2) := by decide +kernel
theorem dccX14_persons_111 : decode cX14_persons 111 = .ok (.invokevirtual 58, 3) := by decide +kernel
theorem dccX14_persons_114 : decode cX14_persons 114 = .ok (.checkcast 141, 3) := by decide +kernel
theorem dccX14_persons_117 : decode cX14_persons 117 = .ok (.invokevirtual 165, 3) := by decide +kernel
theorem dccX14_persons_120 : decode cX14_persons 120 = .ok (.invokestatic 168, 3) := by decide +kernel
theorem dccX14_persons_123 : decode cX14_persons 123 = .ok (.ifCond .eq 10, 3) := by decide +kernel
theorem dccX14_persons_126 : decode cX14_persons 126 = .ok (.iload_n 3, 1) := by decide +kernel
theorem dccX14_persons_127 : decode cX14_persons 127 = .ok (.iconst 1, 1) := by decide +kernel
theorem dccX14_persons_128 : decode cX14_persons 128 = .ok (.iload 6, 2) := by decide +kernel
theorem dccX14_persons_130 : decode cX14_persons 130 = .ok (.ishl, 1) := by decide +kernel
theorem dccX14_persons_131 : decode cX14_persons 131 = .ok (.ior, 1) := by decide +kernel
theorem dccX14_persons_132 : decode cX14_persons 132 = .ok (.istore_n 3, 1) := by decide +kernel
theorem dccX14_persons_133 : decode cX14_persons 133 = .ok (.iinc 6 1, 3) := by decide +kernel
theorem dccX14_persons_136 : decode cX14_persons 136 = .ok (.goto (-76), 3) := by decide +kernel
theorem dccX14_persons_139 : decode cX14_persons 139 = .ok (.iinc 5 1, 3) := by decide +kernel
theorem dccX14_persons_142 : decode cX14_persons 142 = .ok (.goto (-97), 3) := by decide +kernel
theorem dccX14_persons_145 : decode cX14_persons 145 = .ok (.goto (-112), 3) := by decide +kernel
theorem dccX14_persons_148 : decode cX14_persons 148 = .ok (.iload_n 2, 1) := by decide +kernel
theorem dccX14_persons_149 : decode cX14_persons 149 = .ok (.iload_n 3, 1) := by decide +kernel
theorem dccX14_persons_150 : decode cX14_persons 150 = .ok (.iconst (-1), 1) := by decide +kernel
theorem dccX14_persons_151 : decode cX14_persons 151 = .ok (.ixor, 1) := by decide +kernel
theorem dccX14_persons_152 : decode cX14_persons 152 = .ok (.iand, 1) := by decide +kernel
theorem dccX14_persons_153 : decode cX14_persons 153 = .ok (.istore_n 2, 1) := by decide +kernel
theorem dccX14_persons_154 : decode cX14_persons 154 = .ok (.iinc 1 1, 3) := by decide +kernel
theorem dccX14_persons_157 : decode cX14_persons 157 = .ok (.goto (-136), 3) := by decide +kernel
theorem dccX14_persons_160 : decode cX14_persons 160 = .ok (.iload_n 1, 1) := by decide +kernel
theorem dccX14_persons_161 : decode cX14_persons 161 = .ok (.ireturn, 1) := by decide +kernel
theorem dccX14_placing_0 : decode cX14_placing 0 = .ok (.aload_n 0, 1) := by decide +kernel
theorem dccX14_placing_1 : decode cX14_placing 1 = .ok (.getfield 26, 3) := by decide +kernel
theorem dccX14_placing_4 : decode cX14_placing 4 = .ok (.invokevirtual 38, 3) := by decide +kernel
theorem dccX14_placing_7 : decode cX14_placing 7 = .ok (.newarray .int, 2) := by decide +kernel
theorem dccX14_placing_9 : decode cX14_placing 9 = .ok (.astore_n 1, 1) := by decide +kernel
theorem dccX14_placing_10 : decode cX14_placing 10 = .ok (.aload_n 0, 1) := by decide +kernel
theorem dccX14_placing_11 : decode cX14_placing 11 = .ok (.getfield 23, 3) := by decide +kernel
theorem dccX14_placing_14 : decode cX14_placing 14 = .ok (.invokevirtual 38, 3) := by decide +kernel
theorem dccX14_placing_17 : decode cX14_placing 17 = .ok (.newarray .int, 2) := by decide +kernel
