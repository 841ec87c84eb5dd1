theorem dccX14_placing_19 : decode cX14_placing 19 = .ok (.astore_n 2, 1) := by decide +kernel
theorem dccX14_placing_20 : decode cX14_placing 20 = .ok (.iconst 0, 1) := by decide +kernel
theorem dccX14_placing_21 : decode cX14_placing 21 = .ok (.istore_n 3, 1) := by decide +kernel
theorem dccX14_placing_22 : decode cX14_placing 22 = .ok (.iload_n 3, 1) := by decide +kernel
theorem dccX14_placing_23 : decode cX14_placing 23 = .ok (.aload_n 2, 1) := by decide +kernel
theorem dccX14_placing_24 : decode cX14_placing 24 = .ok (.arraylength, 1) := by decide +kernel
theorem dccX14_placing_25 : decode cX14_placing 25 = .ok (.if_icmp .ge 25, 3) := by decide +kernel
theorem dccX14_placing_28 : decode cX14_placing 28 = .ok (.aload_n 2, 1) := by decide +kernel
theorem dccX14_placing_29 : decode cX14_placing 29 = .ok (.iload_n 3, 1) := by decide +kernel
theorem dccX14_placing_30 : decode cX14_placing 30 = .ok (.aload_n 0, 1) := by decide +kernel
theorem dccX14_placing_31 : decode cX14_placing 31 = .ok (.getfield 23, 3) := by decide +kernel
theorem dccX14_placing_34 : decode cX14_placing 34 = .ok (.iload_n 3, 1) := by decide +kernel
theorem dccX14_placing_35 : decode cX14_placing 35 = .ok (.invokevirtual 58, 3) := by decide +kernel
theorem dccX14_placing_38 : decode cX14_placing 38 = .ok (.checkcast 62, 3) := by decide +kernel
theorem dccX14_placing_41 : decode cX14_placing 41 = .ok (.iconst 0, 1) := by decide +kernel
theorem dccX14_placing_42 : decode cX14_placing 42 = .ok (.iaload, 1) := by decide +kernel
theorem dccX14_placing_43 : decode cX14_placing 43 = .ok (.iastore, 1) := by decide +kernel
theorem dccX14_placing_44 : decode cX14_placing 44 = .ok (.iinc 3 1, 3) := by decide +kernel
theorem dccX14_placing_47 : decode cX14_placing 47 = .ok (.goto (-25), 3) := by decide +kernel
theorem dccX14_placing_50 : decode cX14_placing 50 = .ok (.iconst 0, 1) := by decide +kernel
theorem dccX14_placing_51 : decode cX14_placing 51 = .ok (.istore_n 3, 1) := by decide +kernel
theorem dccX14_placing_52 : decode cX14_placing 52 = .ok (.iload_n 3, 1) := by decide +kernel
theorem dccX14_placing_53 : decode cX14_placing 53 = .ok (.aload_n 1, 1) := by decide +kernel
theorem dccX14_placing_54 : decode cX14_placing 54 = .ok (.arraylength, 1) := by decide +kernel
theorem dccX14_placing_55 : decode cX14_placing 55 = .ok (.if_icmp .ge 13, 3) := by decide +kernel
theorem dccX14_placing_58 : decode cX14_placing 58 = .ok (.aload_n 1, 1) := by decide +kernel
theorem dccX14_placing_59 : decode cX14_placing 59 = .ok (.iload_n 3, 1) := by decide +kernel
theorem dccX14_placing_60 : decode cX14_placing 60 = .ok (.iconst (-1), 1) := by decide +kernel
theorem dccX14_placing_61 : decode cX14_placing 61 = .ok (.iastore, 1) := by decide +kernel
theorem dccX14_placing_62 : decode cX14_placing 62 = .ok (.iinc 3 1, 3) := by decide +kernel
theorem dccX14_placing_65 : decode cX14_placing 65 = .ok (.goto (-13), 3) := by decide +kernel
theorem dccX14_placing_68 : decode cX14_placing 68 = .ok (.aload_n 0, 1) := by decide +kernel
theorem dccX14_placing_69 : decode cX14_placing 69 = .ok (.invokevirtual 186, 3) := by decide +kernel
theorem dccX14_placing_72 : decode cX14_placing 72 = .ok (.istore_n 3, 1) := by decide +kernel
theorem dccX14_placing_73 : decode cX14_placing 73 = .ok (.iload_n 3, 1) := by decide +kernel
theorem dccX14_placing_74 : decode cX14_placing 74 = .ok (.ifCond .eq 126, 3) := by decide +kernel
theorem dccX14_placing_77 : decode cX14_placing 77 = .ok (.iconst (-1), 1) := by decide +kernel
theorem dccX14_placing_78 : decode cX14_placing 78 = .ok (.istore 4, 2) := by decide +kernel
theorem dccX14_placing_80 : decode cX14_placing 80 = .ok (.iconst 0, 1) := by decide +kernel
theorem dccX14_placing_81 : decode cX14_placing 81 = .ok (.istore 5, 2) := by decide +kernel
theorem dccX14_placing_83 : decode cX14_placing 83 = .ok (.iload 5, 2) := by decide +kernel
theorem dccX14_placing_85 : decode cX14_placing 85 = .ok (.aload_n 1, 1) := by decide +kernel
theorem dccX14_placing_86 : decode cX14_placing 86 = .ok (.arraylength, 1) := by decide +kernel
theorem dccX14_placing_87 : decode cX14_placing 87 = .ok (.if_icmp .ge 39, 3) := by decide +kernel
theorem dccX14_placing_90 : decode cX14_placing 90 = .ok (.iload_n 3, 1) := by decide +kernel
theorem dccX14_placing_91 : decode cX14_placing 91 = .ok (.iload 5, 2) := by decide +kernel
theorem dccX14_placing_93 : decode cX14_placing 93 = .ok (.invokestatic 162, 3) := by decide +kernel
theorem dccX14_placing_96 : decode cX14_placing 96 = .ok (.ifCond .eq 24, 3) := by decide +kernel
theorem dccX14_placing_99 : decode cX14_placing 99 = .ok (.iload 4, 2) := by decide +kernel
theorem dccX14_placing_101 : decode cX14_placing 101 = .ok (.iconst (-1), 1) := by decide +kernel
theorem dccX14_placing_102 : decode cX14_placing 102 = .ok (.if_icmp .eq 14, 3) := by decide +kernel
theorem dccX14_placing_105 : decode cX14_placing 105 = .ok (.aload_n 0, 1) := by decide +kernel
theorem dccX14_placing_106 : decode cX14_placing 106 = .ok (.iload 5, 2) := by decide +kernel
theorem dccX14_placing_108 : decode cX14_placing 108 = .ok (.iload 4, 2) := by decide +kernel
theorem dccX14_placing_110 : decode cX14_placing 110 = .ok (.invokevirtual 189, 3) := by decide +kernel
theorem dccX14_placing_113 : decode cX14_placing 113 = .ok (.ifCond .eq 7, 3) := by decide +kernel
theorem dccX14_placing_116 : decode cX14_placing 116 = .ok (.iload 5, 2) := by decide +kernel
theorem dccX14_placing_118 : decode cX14_placing 118 = .ok (.istore 4, 2) := by decide +kernel
theorem dccX14_placing_120 : decode cX14_placing 120 = .ok (.iinc 5 1, 3) := by decide +kernel
theorem dccX14_placing_123 : decode cX14_placing 123 = .ok (.goto (-40), 3) := by decide +kernel
theorem dccX14_placing_126 : decode cX14_placing 126 = .ok (.iload_n 3, 1) := by decide +kernel
theorem dccX14_placing_127 : decode cX14_placing 127 = .ok (.iconst 1, 1) := by decide +kernel
theorem dccX14_placing_128 : decode cX14_placing 128 = .ok (.iload 4, 2) := by decide +kernel
theorem dccX14_placing_130 : decode cX14_placing 130 = .ok (.ishl, 1) := by decide +kernel
theorem dccX14_placing_131 : decode cX14_placing 131 = .ok (.iconst (-1), 1) := by decide +kernel
theorem dccX14_placing_132 : decode cX14_placing 132 = .ok (.ixor, 1) := by decide +kernel
theorem dccX14_placing_133 : decode cX14_placing 133 = .ok (.iand, 1) := by decide +kernel
theorem dccX14_placing_134 : decode cX14_placing 134 = .ok (.istore_n 3, 1) := by decide +kernel
theorem dccX14_placing_135 : decode cX14_placing 135 = .ok (.iconst 0, 1) := by decide +kernel
theorem dccX14_placing_136 : decode cX14_placing 136 = .ok (.istore 5, 2) := by decide +kernel
theorem dccX14_placing_138 : decode cX14_placing 138 = .ok (.iload 5, 2) := by decide +kernel
theorem dccX14_placing_140 : decode cX14_placing 140 = .ok (.aload_n 2, 1) := by decide +kernel
theorem dccX14_placing_141 : decode cX14_placing 141 = .ok (.arraylength, 1) := by decide +kernel
theorem dccX14_placing_142 : decode cX14_placing 142 = .ok (.if_icmp .ge 37, 3) := by decide +kernel
theorem dccX14_placing_145 : decode cX14_placing 145 = .ok (.aload_n 2, 1) := by decide +kernel
theorem dccX14_placing_146 : decode cX14_placing 146 = .ok (.iload 5, 2) := by decide +kernel
theorem dccX14_placing_148 : decode cX14_placing 148 = .ok (.iaload, 1) := by decide +kernel
theorem dccX14_placing_149 : decode cX14_placing 149 = .ok (.ifCond .le 24, 3) := by decide +kernel
theorem dccX14_placing_152 : decode cX14_placing 152 = .ok (.aload_n 0, 1) := by decide +kernel
theorem dccX14_placing_153 : decode cX14_placing 153 = .ok (.iload 4, 2) := by decide +kernel
theorem dccX14_placing_155 : decode cX14_placing 155 = .ok (.iload 5, 2) := by decide +kernel
theorem dccX14_placing_157 : decode cX14_placing 157 = .ok (.aload_n 1, 1) := by decide +kernel
theorem dccX14_placing_158 : decode cX14_placing 158 = .ok (.iload 4, 2) := by decide +kernel
theorem dccX14_placing_160 : decode cX14_placing 160 = .ok (.iaload, 1) := by decide +kernel
theorem dccX14_placing_161 : decode cX14_placing 161 = .ok (.invokevirtual 192, 3) := by decide +kernel
theorem dccX14_placing_164 : decode cX14_placing 164 = .ok (.ifCond .eq 9, 3) := by decide +kernel
theorem dccX14_placing_167 : decode cX14_placing 167 = .ok (.aload_n 1, 1) := by decide +kernel
theorem dccX14_placing_168 : decode cX14_placing 168 = .ok (.iload 4, 2) := by decide +kernel
theorem dccX14_placing_170 : decode cX14_placing 170 = .ok (.iload 5, 2) := by decide +kernel
theorem dccX14_placing_172 : decode cX14_placing 172 = .ok (.iastore, 1) := by decide +kernel
theorem dccX14_placing_173 : decode cX14_placing 173 = .ok (.iinc 5 1, 3) := by decide +kernel
theorem dccX14_placing_176 : decode cX14_placing 176 = .ok (.goto (-38), 3) := by decide +kernel
theorem dccX14_placing_179 : decode cX14_placing 179 = .ok (.aload_n 1, 1) := by decide +kernel
theorem dccX14_placing_180 : decode cX14_placing 180 = .ok (.iload 4, 2) := by decide +kernel
theorem dccX14_placing_182 : decode cX14_placing 182 = .ok (.iaload, 1) := by decide +kernel
theorem dccX14_placing_183 : decode cX14_placing 183 = .ok (.iconst (-1), 1) := by decide +kernel
theorem dccX14_placing_184 : decode cX14_placing 184 = .ok (.if_icmp .eq 13, 3) := by decide +kernel
theorem dccX14_placing_187 : decode cX14_placing 187 = .ok (.aload_n 2, 1) := by decide +kernel
theorem dccX14_placing_188 : decode cX14_placing 188 = .ok (.aload_n 1, 1) := by decide +kernel
theorem dccX14_placing_189 : decode cX14_placing 189 = .ok (.iload 4, 2) := by decide +kernel
theorem dccX14_placing_191 : decode cX14_placing 191 = .ok (.iaload, 1) := by decide +kernel
theorem dccX14_placing_192 : decode cX14_placing 192 = .ok (.dup2, 1) := by decide +kernel
theorem dccX14_placing_193 : decode cX14_placing 193 = .ok (.iaload, 1) := by decide +kernel
theorem dccX14_placing_194 : decode cX14_placing 194 = .ok (.iconst 1, 1) := by decide +kernel
theorem dccX14_placing_195 : decode cX14_placing 195 = .ok (.isub, 1) := by decide +kernel
theorem dccX14_placing_196 : decode cX14_placing 196 = .ok (.iastore, 1) := by decide +kernel
theorem dccX14_placing_197 : decode cX14_placing 197 = .ok (.goto (-124), 3) := by decide +kernel
theorem dccX14_placing_200 : decode cX14_placing 200 = .ok (.aload_n 1, 1) := by decide +kernel
theorem dccX14_placing_201 : decode cX14_placing 201 = .ok (.areturn, 1) := by decide +kernel
theorem dccX14_ratherHas_0 : decode cX14_ratherHas 0 = .ok (.iload_n 2, 1) := by decide +kernel
theorem dccX14_ratherHas_1 : decode cX14_ratherHas 1 = .ok (.iconst (-1), 1) := by decide +kernel
theorem dccX14_ratherHas_2 : decode cX14_ratherHas 2 = .ok (.if_icmp .eq 8, 3) := by decide +kernel
theorem dccX14_ratherHas_5 : decode cX14_ratherHas 5 = .ok (.iload_n 3, 1) := by decide +kernel
theorem dccX14_ratherHas_6 : decode cX14_ratherHas 6 = .ok (.iconst (-1), 1) := by decide +kernel
theorem dccX14_ratherHas_7 : decode cX14_ratherHas 7 = .ok (.if_icmp .ne 14, 3) := by decide +kernel
theorem dccX14_ratherHas_10 : decode cX14_ratherHas 10 = .ok (.iload_n 2, 1) := by decide +kernel
theorem dccX14_ratherHas_11 : decode cX14_ratherHas 11 = .ok (.iconst (-1), 1) := by decide +kernel
theorem dccX14_ratherHas_12 : decode cX14_ratherHas 12 = .ok (.if_icmp .eq 7, 3) := by decide +kernel
theorem dccX14_ratherHas_15 : decode cX14_ratherHas 15 = .ok (.iconst 1, 1) := by decide +kernel
theorem dccX14_ratherHas_16 : decode cX14_ratherHas 16 = .ok (.goto 4, 3) := by decide +kernel
theorem dccX14_ratherHas_19 : decode cX14_ratherHas 19 = .ok (.iconst 0, 1) := by decide +kernel
theorem dccX14_ratherHas_20 : decode cX14_ratherHas 20 = .ok (.ireturn, 1) := by decide +kernel
theorem dccX14_ratherHas_21 : decode cX14_ratherHas 21 = .ok (.aload_n 0, 1) := by decide +kernel
theorem dccX14_ratherHas_22 : decode cX14_ratherHas 22 = .ok (.iload_n 1, 1) := by decide +kernel
theorem dccX14_ratherHas_23 : decode cX14_ratherHas 23 = .ok (.iload_n 2, 1) := by decide +kernel
theorem dccX14_ratherHas_24 : decode cX14_ratherHas 24 = .ok (.invokevirtual 183, 3) := by decide +kernel
theorem dccX14_ratherHas_27 : decode cX14_ratherHas 27 = .ok (.aload_n 0, 1) := by decide +kernel
theorem dccX14_ratherHas_28 : decode cX14_ratherHas 28 = .ok (.iload_n 1, 1) := by decide +kernel
theorem dccX14_ratherHas_29 : decode cX14_ratherHas 29 = .ok (.iload_n 3, 1) := by decide +kernel
theorem dccX14_ratherHas_30 : decode cX14_ratherHas 30 = .ok (.invokevirtual 183, 3) := by decide +kernel
theorem dccX14_ratherHas_33 : decode cX14_ratherHas 33 = .ok (.isub, 1) := by decide +kernel
theorem dccX14_ratherHas_34 : decode cX14_ratherHas 34 = .ok (.istore 4, 2) := by decide +kernel
theorem dccX14_ratherHas_36 : decode cX14_ratherHas 36 = .ok (.iload 4, 2) := by decide +kernel
theorem dccX14_ratherHas_38 : decode cX14_ratherHas 38 = .ok (.ifCond .lt 13, 3) := by decide +kernel
theorem dccX14_ratherHas_41 : decode cX14_ratherHas 41 = .ok (.iload 4, 2) := by decide +kernel
theorem dccX14_ratherHas_43 : decode cX14_ratherHas 43 = .ok (.ifCond .ne 12, 3) := by decide +kernel
theorem dccX14_ratherHas_46 : decode cX14_ratherHas 46 = .ok (.iload_n 2, 1) := by decide +kernel
theorem dccX14_ratherHas_47 : decode cX14_ratherHas 47 = .ok (.iload_n 3, 1) := by decide +kernel
theorem dccX14_ratherHas_48 : decode cX14_ratherHas 48 = .ok (.if_icmp .ge 7, 3) := by decide +kernel
theorem dccX14_ratherHas_51 : decode cX14_ratherHas 51 = .ok (.iconst 1, 1) := by decide +kernel
theorem dccX14_ratherHas_52 : decode cX14_ratherHas 52 = .ok (.goto 4, 3) := by decide +kernel
theorem dccX14_ratherHas_55 : decode cX14_ratherHas 55 = .ok (.iconst 0, 1) := by decide +kernel
theorem dccX14_ratherHas_56 : decode cX14_ratherHas 56 = .ok (.ireturn, 1) := by decide +kernel
theorem dccX14_refuse_0 : decode cX14_refuse 0 = .ok (.aload_n 0, 1) := by decide +kernel
theorem dccX14_refuse_1 : decode cX14_refuse 1 = .ok (.iload_n 1, 1) := by decide +kernel
theorem dccX14_refuse_2 : decode cX14_refuse 2 = .ok (.putfield 35, 3) := by decide +kernel
theorem dccX14_refuse_5 : decode cX14_refuse 5 = .ok (.iconst 0, 1) := by decide +kernel
theorem dccX14_refuse_6 : decode cX14_refuse 6 = .ok (.ireturn, 1) := by decide +kernel
theorem dccX14_river_0 : decode cX14_river 0 = .ok (.aload_n 0, 1) := by decide +kernel
theorem dccX14_river_1 : decode cX14_river 1 = .ok (.iconst 0, 1) := by decide +kernel
theorem dccX14_river_2 : decode cX14_river 2 = .ok (.putfield 35, 3) := by decide +kernel
theorem dccX14_river_5 : decode cX14_river 5 = .ok (.iload_n 1, 1) := by decide +kernel
theorem dccX14_river_6 : decode cX14_river 6 = .ok (.iconst 0, 1) := by decide +kernel
theorem dccX14_river_7 : decode cX14_river 7 = .ok (.bipush 99, 2) := by decide +kernel
theorem dccX14_river_9 : decode cX14_river 9 = .ok (.invokestatic 42, 3) := by decide +kernel
theorem dccX14_river_12 : decode cX14_river 12 = .ok (.ifCond .eq 14, 3) := by decide +kernel
theorem dccX14_river_15 : decode cX14_river 15 = .ok (.iload_n 2, 1) := by decide +kernel
theorem dccX14_river_16 : decode cX14_river 16 = .ok (.bipush (-9), 2) := by decide +kernel
theorem dccX14_river_18 : decode cX14_river 18 = .ok (.bipush 9, 2) := by decide +kernel
theorem dccX14_river_20 : decode cX14_river 20 = .ok (.invokestatic 42, 3) := by decide +kernel
theorem dccX14_river_23 : decode cX14_river 23 = .ok (.ifCond .ne 9, 3) := by decide +kernel
theorem dccX14_river_26 : decode cX14_river 26 = .ok (.aload_n 0, 1) := by decide +kernel
theorem dccX14_river_27 : decode cX14_river 27 = .ok (.iconst 1, 1) := by decide +kernel
theorem dccX14_river_28 : decode cX14_river 28 = .ok (.invokevirtual 46, 3) := by decide +kernel
theorem dccX14_river_31 : decode cX14_river 31 = .ok (.ireturn, 1) := by decide +kernel
theorem dccX14_river_32 : decode cX14_river 32 = .ok (.aload_n 0, 1) := by decide +kernel
theorem dccX14_river_33 : decode cX14_river 33 = .ok (.getfield 7, 3) := by decide +kernel
theorem dccX14_river_36 : decode cX14_river 36 = .ok (.istore_n 3, 1) := by decide +kernel
theorem dccX14_river_37 : decode cX14_river 37 = .ok (.aload_n 0, 1) := by decide +kernel
theorem dccX14_river_38 : decode cX14_river 38 = .ok (.iload_n 1, 1) := by decide +kernel
theorem dccX14_river_39 : decode cX14_river 39 = .ok (.putfield 7, 3) := by decide +kernel
theorem dccX14_river_42 : decode cX14_river 42 = .ok (.aload_n 0, 1) := by decide +kernel
theorem dccX14_river_43 : decode cX14_river 43 = .ok (.iload_n 2, 1) := by decide +kernel
theorem dccX14_river_44 : decode cX14_river 44 = .ok (.putfield 86, 3) := by decide +kernel
theorem dccX14_river_47 : decode cX14_river 47 = .ok (.iload_n 3, 1) := by decide +kernel
theorem dccX14_river_48 : decode cX14_river 48 = .ok (.ireturn, 1) := by decide +kernel
theorem dccX14_rooms_0 : decode cX14_rooms 0 = .ok (.aload_n 0, 1) := by decide +kernel
theorem dccX14_rooms_1 : decode cX14_rooms 1 = .ok (.iconst 0, 1) := by decide +kernel
theorem dccX14_rooms_2 : decode cX14_rooms 2 = .ok (.putfield 35, 3) := by decide +kernel
theorem dccX14_rooms_5 : decode cX14_rooms 5 = .ok (.aload_n 0, 1) := by decide +kernel
theorem dccX14_rooms_6 : decode cX14_rooms 6 = .ok (.iload_n 1, 1) := by decide +kernel
theorem dccX14_rooms_7 : decode cX14_rooms 7 = .ok (.invokevirtual 54, 3) := by decide +kernel
theorem dccX14_rooms_10 : decode cX14_rooms 10 = .ok (.ifCond .ne 9, 3) := by decide +kernel
theorem dccX14_rooms_13 : decode cX14_rooms 13 = .ok (.aload_n 0, 1) := by decide +kernel
theorem dccX14_rooms_14 : decode cX14_rooms 14 = .ok (.iconst 1, 1) := by decide +kernel
theorem dccX14_rooms_15 : decode cX14_rooms 15 = .ok (.invokevirtual 46, 3) := by decide +kernel
theorem dccX14_rooms_18 : decode cX14_rooms 18 = .ok (.ireturn, 1) := by decide +kernel
theorem dccX14_rooms_19 : decode cX14_rooms 19 = .ok (.iload_n 2, 1) := by decide +kernel
theorem dccX14_rooms_20 : decode cX14_rooms 20 = .ok (.iconst 0, 1) := by decide +kernel
theorem dccX14_rooms_21 : decode cX14_rooms 21 = .ok (.iconst 4, 1) := by decide +kernel
theorem dccX14_rooms_22 : decode cX14_rooms 22 = .ok (.invokestatic 42, 3) := by decide +kernel
theorem dccX14_rooms_25 : decode cX14_rooms 25 = .ok (.ifCond .ne 9, 3) := by decide +kernel
theorem dccX14_rooms_28 : decode cX14_rooms 28 = .ok (.aload_n 0, 1) := by decide +kernel
theorem dccX14_rooms_29 : decode cX14_rooms 29 = .ok (.iconst 2, 1) := by decide +kernel
theorem dccX14_rooms_30 : decode cX14_rooms 30 = .ok (.invokevirtual 46, 3) := by decide +kernel
theorem dccX14_rooms_33 : decode cX14_rooms 33 = .ok (.ireturn, 1) := by decide +kernel
theorem dccX14_rooms_34 : decode cX14_rooms 34 = .ok (.aload_n 0, 1) := by decide +kernel
theorem dccX14_rooms_35 : decode cX14_rooms 35 = .ok (.getfield 23, 3) := by decide +kernel
theorem dccX14_rooms_38 : decode cX14_rooms 38 = .ok (.iload_n 1, 1) := by decide +kernel
theorem dccX14_rooms_39 : decode cX14_rooms 39 = .ok (.invokevirtual 58, 3) := by decide +kernel
theorem dccX14_rooms_42 : decode cX14_rooms 42 = .ok (.checkcast 62, 3) := by decide +kernel
theorem dccX14_rooms_45 : decode cX14_rooms 45 = .ok (.iconst 0, 1) := by decide +kernel
theorem dccX14_rooms_46 : decode cX14_rooms 46 = .ok (.iaload, 1) := by decide +kernel
theorem dccX14_rooms_47 : decode cX14_rooms 47 = .ok (.istore_n 3, 1) := by decide +kernel
theorem dccX14_rooms_48 : decode cX14_rooms 48 = .ok (.aload_n 0, 1) := by decide +kernel
theorem dccX14_rooms_49 : decode cX14_rooms 49 = .ok (.getfield 23, 3) := by decide +kernel
theorem dccX14_rooms_52 : decode cX14_rooms 52 = .ok (.iload_n 1, 1) := by decide +kernel
theorem dccX14_rooms_53 : decode cX14_rooms 53 = .ok (.invokevirtual 58, 3) := by decide +kernel
theorem dccX14_rooms_56 : decode cX14_rooms 56 = .ok (.checkcast 62, 3) := by decide +kernel
theorem dccX14_rooms_59 : decode cX14_rooms 59 = .ok (.iconst 0, 1) := by decide +kernel
theorem dccX14_rooms_60 : decode cX14_rooms 60 = .ok (.iload_n 2, 1) := by decide +kernel
theorem dccX14_rooms_61 : decode cX14_rooms 61 = .ok (.iastore, 1) := by decide +kernel
theorem dccX14_rooms_62 : decode cX14_rooms 62 = .ok (.iload_n 3, 1) := by decide +kernel
theorem dccX14_rooms_63 : decode cX14_rooms 63 = .ok (.ireturn, 1) := by decide +kernel
theorem dccX14_signs_0 : decode cX14_signs 0 = .ok (.aload_n 0, 1) := by decide +kernel
theorem dccX14_signs_1 : decode cX14_signs 1 = .ok (.iconst 0, 1) := by decide +kernel
theorem dccX14_signs_2 : decode cX14_signs 2 = .ok (.putfield 35, 3) := by decide +kernel
theorem dccX14_signs_5 : decode cX14_signs 5 = .ok (.aload_n 0, 1) := by decide +kernel
theorem dccX14_signs_6 : decode cX14_signs 6 = .ok (.invokevirtual 245, 3) := by decide +kernel
theorem dccX14_signs_9 : decode cX14_signs 9 = .ok (.areturn, 1) := by decide +kernel
theorem dccX14_signsNow_0 : decode cX14_signsNow 0 = .ok (.new 234, 3) := by decide +kernel
theorem dccX14_signsNow_3 : decode cX14_signsNow 3 = .ok (.dup, 1) := by decide +kernel
theorem dccX14_signsNow_4 : decode cX14_signsNow 4 = .ok (.invokespecial 236, 3) := by decide +kernel
theorem dccX14_signsNow_7 : decode cX14_signsNow 7 = .ok (.astore_n 1, 1) := by decide +kernel
theorem dccX14_signsNow_8 : decode cX14_signsNow 8 = .ok (.aload_n 0, 1) := by decide +kernel
theorem dccX14_signsNow_9 : decode cX14_signsNow 9 = .ok (.invokevirtual 208, 3) := by decide +kernel
theorem dccX14_signsNow_12 : decode cX14_signsNow 12 = .ok (.astore_n 2, 1) := by decide +kernel
theorem dccX14_signsNow_13 : decode cX14_signsNow 13 = .ok (.iconst 0, 1) := by decide +kernel
theorem dccX14_signsNow_14 : decode cX14_signsNow 14 = .ok (.istore_n 3, 1) := by decide +kernel
theorem dccX14_signsNow_15 : decode cX14_signsNow 15 = .ok (.iload_n 3, 1) := by decide +kernel
theorem dccX14_signsNow_16 : decode cX14_signsNow 16 = .ok (.aload_n 2, 1) := by decide +kernel
theorem dccX14_signsNow_17 : decode cX14_signsNow 17 = .ok (.arraylength, 1) := by decide +kernel
theorem dccX14_signsNow_18 : decode cX14_signsNow 18 = .ok (.if_icmp .ge 70, 3) := by decide +kernel
theorem dccX14_signsNow_21 : decode cX14_signsNow 21 = .ok (.aload_n 0, 1) := by decide +kernel
theorem dccX14_signsNow_22 : decode cX14_signsNow 22 = .ok (.getfield 26, 3) := by decide +kernel
theorem dccX14_signsNow_25 : decode cX14_signsNow 25 = .ok (.iload_n 3, 1) := by decide +kernel
theorem dccX14_signsNow_26 : decode cX14_signsNow 26 = .ok (.invokevirtual 58, 3) := by decide +kernel
theorem dccX14_signsNow_29 : decode cX14_signsNow 29 = .ok (.checkcast 67, 3) := by decide +kernel
theorem dccX14_signsNow_32 : decode cX14_signsNow 32 = .ok (.getfield 83, 3) := by decide +kernel
theorem dccX14_signsNow_35 : decode cX14_signsNow 35 = .ok (.istore 4, 2) := by decide +kernel
theorem dccX14_signsNow_37 : decode cX14_signsNow 37 = .ok (.aload_n 1, 1) := by decide +kernel
theorem dccX14_signsNow_38 : decode cX14_signsNow 38 = .ok (.iload 4, 2) := by decide +kernel
theorem dccX14_signsNow_40 : decode cX14_signsNow 40 = .ok (.ifCond .ne 8, 3) := by decide +kernel
theorem dccX14_signsNow_43 : decode cX14_signsNow 43 = .ok (.bipush 104, 2) := by decide +kernel
theorem dccX14_signsNow_45 : decode cX14_signsNow 45 = .ok (.goto 33, 3) := by decide +kernel
theorem dccX14_signsNow_48 : decode cX14_signsNow 48 = .ok (.iload 4, 2) := by decide +kernel
theorem dccX14_signsNow_50 : decode cX14_signsNow 50 = .ok (.iconst 2, 1) := by decide +kernel
theorem dccX14_signsNow_51 : decode cX14_signsNow 51 = .ok (.if_icmp .ne 8, 3) := by decide +kernel
theorem dccX14_signsNow_54 : decode cX14_signsNow 54 = .ok (.bipush 120, 2) := by decide +kernel
theorem dccX14_signsNow_56 : decode cX14_signsNow 56 = .ok (.goto 22, 3) := by decide +kernel
theorem dccX14_signsNow_59 : decode cX14_signsNow 59 = .ok (.aload_n 2, 1) := by decide +kernel
theorem dccX14_signsNow_60 : decode cX14_signsNow 60 = .ok (.iload_n 3, 1) := by decide +kernel
theorem dccX14_signsNow_61 : decode cX14_signsNow 61 = .ok (.iaload, 1) := by decide +kernel
theorem dccX14_signsNow_62 : decode cX14_signsNow 62 = .ok (.iconst (-1), 1) := by decide +kernel
theorem dccX14_signsNow_63 : decode cX14_signsNow 63 = .ok (.if_icmp .ne 8, 3) := by decide +kernel
theorem dccX14_signsNow_66 : decode cX14_signsNow 66 = .ok (.bipush 45, 2) := by decide +kernel
theorem dccX14_signsNow_68 : decode cX14_signsNow 68 = .ok (.goto 10, 3) := by decide +kernel
theorem dccX14_signsNow_71 : decode cX14_signsNow 71 = .ok (.bipush 48, 2) := by decide +kernel
theorem dccX14_signsNow_73 : decode cX14_signsNow 73 = .ok (.aload_n 2, 1) := by decide +kernel
theorem dccX14_signsNow_74 : decode cX14_signsNow 74 = .ok (.iload_n 3, 1) := by decide +kernel
theorem dccX14_signsNow_75 : decode cX14_signsNow 75 = .ok (.iaload, 1) := by decide +kernel
theorem dccX14_signsNow_76 : decode cX14_signsNow 76 = .ok (.iadd, 1) := by decide +kernel
theorem dccX14_signsNow_77 : decode cX14_signsNow 77 = .ok (.i2c, 1) := by decide +kernel
theorem dccX14_signsNow_78 : decode cX14_signsNow 78 = .ok (.invokevirtual 237, 3) := by decide +kernel
theorem dccX14_signsNow_81 : decode cX14_signsNow 81 = .ok (.pop, 1) := by decide +kernel
theorem dccX14_signsNow_82 : decode cX14_signsNow 82 = .ok (.iinc 3 1, 3) := by decide +kernel
theorem dccX14_signsNow_85 : decode cX14_signsNow 85 = .ok (.goto (-70), 3) := by decide +kernel
theorem dccX14_signsNow_88 : decode cX14_signsNow 88 = .ok (.aload_n 1, 1) := by decide +kernel
theorem dccX14_signsNow_89 : decode cX14_signsNow 89 = .ok (.invokevirtual 241, 3) := by decide +kernel
theorem dccX14_signsNow_92 : decode cX14_signsNow 92 = .ok (.areturn, 1) := by decide +kernel
theorem dccX14_street_0 : decode cX14_street 0 = .ok (.aload_n 0, 1) := by decide +kernel
theorem dccX14_street_1 : decode cX14_street 1 = .ok (.iconst 0, 1) := by decide +kernel
theorem dccX14_street_2 : decode cX14_street 2 = .ok (.putfield 35, 3) := by decide +kernel
theorem dccX14_street_5 : decode cX14_street 5 = .ok (.iload_n 1, 1) := by decide +kernel
theorem dccX14_street_6 : decode cX14_street 6 = .ok (.iconst 0, 1) := by decide +kernel
theorem dccX14_street_7 : decode cX14_street 7 = .ok (.bipush 99, 2) := by decide +kernel
theorem dccX14_street_9 : decode cX14_street 9 = .ok (.invokestatic 42, 3) := by decide +kernel
theorem dccX14_street_12 : decode cX14_street 12 = .ok (.ifCond .eq 13, 3) := by decide +kernel
theorem dccX14_street_15 : decode cX14_street 15 = .ok (.iload_n 2, 1) := by decide +kernel
theorem dccX14_street_16 : decode cX14_street 16 = .ok (.iconst 0, 1) := by decide +kernel
theorem dccX14_street_17 : decode cX14_street 17 = .ok (.bipush 99, 2) := by decide +kernel
theorem dccX14_street_19 : decode cX14_street 19 = .ok (.invokestatic 42, 3) := by decide +kernel
theorem dccX14_street_22 : decode cX14_street 22 = .ok (.ifCond .ne 9, 3) := by decide +kernel
theorem dccX14_street_25 : decode cX14_street 25 = .ok (.aload_n 0, 1) := by decide +kernel
theorem dccX14_street_26 : decode cX14_street 26 = .ok (.iconst 1, 1) := by decide +kernel
theorem dccX14_street_27 : decode cX14_street 27 = .ok (.invokevirtual 46, 3) := by decide +kernel
theorem dccX14_street_30 : decode cX14_street 30 = .ok (.ireturn, 1) := by decide +kernel
theorem dccX14_street_31 : decode cX14_street 31 = .ok (.aload_n 0, 1) := by decide +kernel
theorem dccX14_street_32 : decode cX14_street 32 = .ok (.getfield 19, 3) := by decide +kernel
theorem dccX14_street_35 : decode cX14_street 35 = .ok (.invokevirtual 38, 3) := by decide +kernel
theorem dccX14_street_38 : decode cX14_street 38 = .ok (.bipush 6, 2) := by decide +kernel
theorem dccX14_street_40 : decode cX14_street 40 = .ok (.if_icmp .ne 9, 3) := by decide +kernel
theorem dccX14_street_43 : decode cX14_street 43 = .ok (.aload_n 0, 1) := by decide +kernel
theorem dccX14_street_44 : decode cX14_street 44 = .ok (.iconst 2, 1) := by decide +kernel
theorem dccX14_street_45 : decode cX14_street 45 = .ok (.invokevirtual 46, 3) := by decide +kernel
theorem dccX14_street_48 : decode cX14_street 48 = .ok (.ireturn, 1) := by decide +kernel
theorem dccX14_street_49 : decode cX14_street 49 = .ok (.aload_n 0, 1) := by decide +kernel
theorem dccX14_street_50 : decode cX14_street 50 = .ok (.getfield 19, 3) := by decide +kernel
theorem dccX14_street_53 : decode cX14_street 53 = .ok (.iconst 2, 1) := by decide +kernel
theorem dccX14_street_54 : decode cX14_street 54 = .ok (.newarray .int, 2) := by decide +kernel
theorem dccX14_street_56 : decode cX14_street 56 = .ok (.dup, 1) := by decide +kernel
theorem dccX14_street_57 : decode cX14_street 57 = .ok (.iconst 0, 1) := by decide +kernel
theorem dccX14_street_58 : decode cX14_street 58 = .ok (.iload_n 1, 1) := by decide +kernel
theorem dccX14_street_59 : decode cX14_street 59 = .ok (.iastore, 1) := by decide +kernel
theorem dccX14_street_60 : decode cX14_street 60 = .ok (.dup, 1) := by decide +kernel
theorem dccX14_street_61 : decode cX14_street 61 = .ok (.iconst 1, 1) := by decide +kernel
theorem dccX14_street_62 : decode cX14_street 62 = .ok (.iload_n 2, 1) := by decide +kernel
theorem dccX14_street_63 : decode cX14_street 63 = .ok (.iastore, 1) := by decide +kernel
theorem dccX14_street_64 : decode cX14_street 64 = .ok (.invokevirtual 50, 3) := by decide +kernel
theorem dccX14_street_67 : decode cX14_street 67 = .ok (.pop, 1) := by decide +kernel
theorem dccX14_street_68 : decode cX14_street 68 = .ok (.aload_n 0, 1) := by decide +kernel
theorem dccX14_street_69 : decode cX14_street 69 = .ok (.getfield 19, 3) := by decide +kernel
theorem dccX14_street_72 : decode cX14_street 72 = .ok (.invokevirtual 38, 3) := by decide +kernel
theorem dccX14_street_75 : decode cX14_street 75 = .ok (.iconst 1, 1) := by decide +kernel
theorem dccX14_street_76 : decode cX14_street 76 = .ok (.isub, 1) := by decide +kernel
theorem dccX14_street_77 : decode cX14_street 77 = .ok (.ireturn, 1) := by decide +kernel
theorem dccX14_strike_0 : decode cX14_strike 0 = .ok (.aload_n 0, 1) := by decide +kernel
theorem dccX14_strike_1 : decode cX14_strike 1 = .ok (.iconst 0, 1) := by decide +kernel
theorem dccX14_strike_2 : decode cX14_strike 2 = .ok (.putfield 35, 3) := by decide +kernel
theorem dccX14_strike_5 : decode cX14_strike 5 = .ok (.iload_n 1, 1) := by decide +kernel
theorem dccX14_strike_6 : decode cX14_strike 6 = .ok (.iconst 0, 1) := by decide +kernel
theorem dccX14_strike_7 : decode cX14_strike 7 = .ok (.aload_n 0, 1) := by decide +kernel
theorem dccX14_strike_8 : decode cX14_strike 8 = .ok (.getfield 32, 3) := by decide +kernel
theorem dccX14_strike_11 : decode cX14_strike 11 = .ok (.invokevirtual 38, 3) := by decide +kernel
theorem dccX14_strike_14 : decode cX14_strike 14 = .ok (.iconst 1, 1) := by decide +kernel
theorem dccX14_strike_15 : decode cX14_strike 15 = .ok (.isub, 1) := by decide +kernel
theorem dccX14_strike_16 : decode cX14_strike 16 = .ok (.invokestatic 42, 3) := by decide +kernel
theorem dccX14_strike_19 : decode cX14_strike 19 = .ok (.ifCond .ne 9, 3) := by decide +kernel
theorem dccX14_strike_22 : decode cX14_strike 22 = .ok (.aload_n 0, 1) := by decide +kernel
theorem dccX14_strike_23 : decode cX14_strike 23 = .ok (.iconst 1, 1) := by decide +kernel
theorem dccX14_strike_24 : decode cX14_strike 24 = .ok (.invokevirtual 46, 3) := by decide +kernel
theorem dccX14_strike_27 : decode cX14_strike 27 = .ok (.ireturn, 1) := by decide +kernel
theorem dccX14_strike_28 : decode cX14_strike 28 = .ok (.aload_n 0, 1) := by decide +kernel
theorem dccX14_strike_29 : decode cX14_strike 29 = .ok (.iload_n 2, 1) := by decide +kernel
theorem dccX14_strike_30 : decode cX14_strike 30 = .ok (.ifCond .eq 14, 3) := by decide +kernel
theorem dccX14_strike_33 : decode cX14_strike 33 = .ok (.aload_n 0, 1) := by decide +kernel
theorem dccX14_strike_34 : decode cX14_strike 34 = .ok (.getfield 156, 3) := by decide +kernel
theorem dccX14_strike_37 : decode cX14_strike 37 = .ok (.iconst 1, 1) := by decide +kernel
theorem dccX14_strike_38 : decode cX14_strike 38 = .ok (.iload_n 1, 1) := by decide +kernel
theorem dccX14_strike_39 : decode cX14_strike 39 = .ok (.ishl, 1) := by decide +kernel
theorem dccX14_strike_40 : decode cX14_strike 40 = .ok (.ior, 1) := by decide +kernel
theorem dccX14_strike_41 : decode cX14_strike 41 = .ok (.goto 13, 3) := by decide +kernel
theorem dccX14_strike_44 : decode cX14_strike 44 = .ok (.aload_n 0, 1) := by decide +kernel
theorem dccX14_strike_45 : decode cX14_strike 45 = .ok (.getfield 156, 3) := by decide +kernel
theorem dccX14_strike_48 : decode cX14_strike 48 = .ok (.iconst 1, 1) := by decide +kernel
theorem dccX14_strike_49 : decode cX14_strike 49 = .ok (.iload_n 1, 1) := by decide +kernel
theorem dccX14_strike_50 : decode cX14_strike 50 = .ok (.ishl, 1) := by decide +kernel
theorem dccX14_strike_51 : decode cX14_strike 51 = .ok (.iconst (-1), 1) := by decide +kernel
theorem dccX14_strike_52 : decode cX14_strike 52 = .ok (.ixor, 1) := by decide +kernel
theorem dccX14_strike_53 : decode cX14_strike 53 = .ok (.iand, 1) := by decide +kernel
theorem dccX14_strike_54 : decode cX14_strike 54 = .ok (.putfield 156, 3) := by decide +kernel
theorem dccX14_strike_57 : decode cX14_strike 57 = .ok (.aload_n 0, 1) := by decide +kernel
theorem dccX14_strike_58 : decode cX14_strike 58 = .ok (.invokevirtual 171, 3) := by decide +kernel
theorem dccX14_strike_61 : decode cX14_strike 61 = .ok (.ireturn, 1) := by decide +kernel
theorem dccX14_thrown_0 : decode cX14_thrown 0 = .ok (.aload_n 0, 1) := by decide +kernel
theorem dccX14_thrown_1 : decode cX14_thrown 1 = .ok (.getfield 35, 3) := by decide +kernel
theorem dccX14_thrown_4 : decode cX14_thrown 4 = .ok (.ireturn, 1) := by decide +kernel
theorem dccX14_would_0 : decode cX14_would 0 = .ok (.aload_n 0, 1) := by decide +kernel
theorem dccX14_would_1 : decode cX14_would 1 = .ok (.iconst 0, 1) := by decide +kernel
theorem dccX14_would_2 : decode cX14_would 2 = .ok (.putfield 35, 3) := by decide +kernel
theorem dccX14_would_5 : decode cX14_would 5 = .ok (.iload_n 1, 1) := by decide +kernel
theorem dccX14_would_6 : decode cX14_would 6 = .ok (.iconst 1, 1) := by decide +kernel
theorem dccX14_would_7 : decode cX14_would 7 = .ok (.bipush 99, 2) := by decide +kernel
theorem dccX14_would_9 : decode cX14_would 9 = .ok (.invokestatic 42, 3) := by decide +kernel
theorem dccX14_would_12 : decode cX14_would 12 = .ok (.ifCond .eq 22, 3) := by decide +kernel
theorem dccX14_would_15 : decode cX14_would 15 = .ok (.iload_n 2, 1) := by decide +kernel
theorem dccX14_would_16 : decode cX14_would 16 = .ok (.iconst 0, 1) := by decide +kernel
theorem dccX14_would_17 : decode cX14_would 17 = .ok (.bipush 99, 2) := by decide +kernel
theorem dccX14_would_19 : decode cX14_would 19 = .ok (.invokestatic 42, 3) := by decide +kernel
theorem dccX14_would_22 : decode cX14_would 22 = .ok (.ifCond .eq 12, 3) := by decide +kernel
theorem dccX14_would_25 : decode cX14_would 25 = .ok (.aload_n 0, 1) := by decide +kernel
theorem dccX14_would_26 : decode cX14_would 26 = .ok (.iload_n 1, 1) := by decide +kernel
theorem dccX14_would_27 : decode cX14_would 27 = .ok (.iload_n 2, 1) := by decide +kernel
theorem dccX14_would_28 : decode cX14_would 28 = .ok (.invokevirtual 252, 3) := by decide +kernel
theorem dccX14_would_31 : decode cX14_would 31 = .ok (.goto 8, 3) := by decide +kernel
theorem dccX14_would_34 : decode cX14_would 34 = .ok (.aload_n 0, 1) := by decide +kernel
theorem dccX14_would_35 : decode cX14_would 35 = .ok (.iconst 1, 1) := by decide +kernel
theorem dccX14_would_36 : decode cX14_would 36 = .ok (.invokevirtual 46, 3) := by decide +kernel
theorem dccX14_would_39 : decode cX14_would 39 = .ok (.ireturn, 1) := by decide +kernel
theorem dccX14_wouldNow_0 : decode cX14_wouldNow 0 = .ok (.iconst 0, 1) := by decide +kernel
theorem dccX14_wouldNow_1 : decode cX14_wouldNow 1 = .ok (.istore_n 3, 1) := by decide +kernel
theorem dccX14_wouldNow_2 : decode cX14_wouldNow 2 = .ok (.aload_n 0, 1) := by decide +kernel
theorem dccX14_wouldNow_3 : decode cX14_wouldNow 3 = .ok (.getfield 29, 3) := by decide +kernel
theorem dccX14_wouldNow_6 : decode cX14_wouldNow 6 = .ok (.invokevirtual 107, 3) := by decide +kernel
theorem dccX14_wouldNow_9 : decode cX14_wouldNow 9 = .ok (.astore 4, 2) := by decide +kernel
theorem dccX14_wouldNow_11 : decode cX14_wouldNow 11 = .ok (.aload 4, 2) := by decide +kernel
theorem dccX14_wouldNow_13 : decode cX14_wouldNow 13 = .ok (.invokeinterface 111 1, 5) := by decide +kernel
theorem dccX14_wouldNow_18 : decode cX14_wouldNow 18 = .ok (.ifCond .eq 42, 3) := by decide +kernel
theorem dccX14_wouldNow_21 : decode cX14_wouldNow 21 = .ok (.aload 4, 2) := by decide +kernel
theorem dccX14_wouldNow_23 : decode cX14_wouldNow 23 = .ok (.invokeinterface 117 1, 5) := by decide +kernel
theorem dccX14_wouldNow_28 : decode cX14_wouldNow 28 = .ok (.checkcast 62, 3) := by decide +kernel
theorem dccX14_wouldNow_31 : decode cX14_wouldNow 31 = .ok (.astore 5, 2) := by decide +kernel
theorem dccX14_wouldNow_33 : decode cX14_wouldNow 33 = .ok (.iload_n 3, 1) := by decide +kernel
theorem dccX14_wouldNow_34 : decode cX14_wouldNow 34 = .ok (.aload 5, 2) := by decide +kernel
theorem dccX14_wouldNow_36 : decode cX14_wouldNow 36 = .ok (.iconst 1, 1) := by decide +kernel
theorem dccX14_wouldNow_37 : decode cX14_wouldNow 37 = .ok (.iaload, 1) := by decide +kernel
theorem dccX14_wouldNow_38 : decode cX14_wouldNow 38 = .ok (.aload_n 0, 1) := by decide +kernel
theorem dccX14_wouldNow_39 : decode cX14_wouldNow 39 = .ok (.getfield 104, 3) := by decide +kernel
theorem dccX14_wouldNow_42 : decode cX14_wouldNow 42 = .ok (.iload_n 2, 1) := by decide +kernel
theorem dccX14_wouldNow_43 : decode cX14_wouldNow 43 = .ok (.iadd, 1) := by decide +kernel
theorem dccX14_wouldNow_44 : decode cX14_wouldNow 44 = .ok (.if_icmp .lt 10, 3) := by decide +kernel
theorem dccX14_wouldNow_47 : decode cX14_wouldNow 47 = .ok (.aload 5, 2) := by decide +kernel
theorem dccX14_wouldNow_49 : decode cX14_wouldNow 49 = .ok (.iconst 0, 1) := by decide +kernel
theorem dccX14_wouldNow_50 : decode cX14_wouldNow 50 = .ok (.iaload, 1) := by decide +kernel
theorem dccX14_wouldNow_51 : decode cX14_wouldNow 51 = .ok (.goto 4, 3) := by decide +kernel
theorem dccX14_wouldNow_54 : decode cX14_wouldNow 54 = .ok (.iconst 0, 1) := by decide +kernel
theorem dccX14_wouldNow_55 : decode cX14_wouldNow 55 = .ok (.iadd, 1) := by decide +kernel
theorem dccX14_wouldNow_56 : decode cX14_wouldNow 56 = .ok (.istore_n 3, 1) := by decide +kernel
theorem dccX14_wouldNow_57 : decode cX14_wouldNow 57 = .ok (.goto (-46), 3) := by decide +kernel
theorem dccX14_wouldNow_60 : decode cX14_wouldNow 60 = .ok (.iload_n 1, 1) := by decide +kernel
theorem dccX14_wouldNow_61 : decode cX14_wouldNow 61 = .ok (.iload_n 3, 1) := by decide +kernel
theorem dccX14_wouldNow_62 : decode cX14_wouldNow 62 = .ok (.invokestatic 95, 3) := by decide +kernel
theorem dccX14_wouldNow_65 : decode cX14_wouldNow 65 = .ok (.ireturn, 1) := by decide +kernel
theorem dccX1_areTogether_0 : decode cX1_areTogether 0 = .ok (.aload_n 0, 1) := by decide +kernel
theorem dccX1_areTogether_1 : decode cX1_areTogether 1 = .ok (.getfield 36, 3) := by decide +kernel
theorem dccX1_areTogether_4 : decode cX1_areTogether 4 = .ok (.ifCond .ne 28, 3) := by decide +kernel
theorem dccX1_areTogether_7 : decode cX1_areTogether 7 = .ok (.aload_n 1, 1) := by decide +kernel
theorem dccX1_areTogether_8 : decode cX1_areTogether 8 = .ok (.getfield 36, 3) := by decide +kernel
theorem dccX1_areTogether_11 : decode cX1_areTogether 11 = .ok (.ifCond .ne 21, 3) := by decide +kernel
theorem dccX1_areTogether_14 : decode cX1_areTogether 14 = .ok (.aload_n 0, 1) := by decide +kernel
theorem dccX1_areTogether_15 : decode cX1_areTogether 15 = .ok (.getfield 52, 3) := by decide +kernel
theorem dccX1_areTogether_18 : decode cX1_areTogether 18 = .ok (.aload_n 1, 1) := by decide +kernel
theorem dccX1_areTogether_19 : decode cX1_areTogether 19 = .ok (.getfield 52, 3) := by decide +kernel
theorem dccX1_areTogether_22 : decode cX1_areTogether 22 = .ok (.invokestatic 55, 3) := by decide +kernel
theorem dccX1_areTogether_25 : decode cX1_areTogether 25 = .ok (.ifCond .eq 7, 3) := by decide +kernel
theorem dccX1_areTogether_28 : decode cX1_areTogether 28 = .ok (.iconst 1, 1) := by decide +kernel
theorem dccX1_areTogether_29 : decode cX1_areTogether 29 = .ok (.goto 4, 3) := by decide +kernel
theorem dccX1_areTogether_32 : decode cX1_areTogether 32 = .ok (.iconst 0, 1) := by decide +kernel
theorem dccX1_areTogether_33 : decode cX1_areTogether 33 = .ok (.ireturn, 1) := by decide +kernel
theorem dccX1_init_0 : decode cX1_init 0 = .ok (.aload_n 0, 1) := by decide +kernel
theorem dccX1_init_1 : decode cX1_init 1 = .ok (.invokespecial 3, 3) := by decide +kernel
theorem dccX1_init_4 : decode cX1_init 4 = .ok (.aload_n 0, 1) := by decide +kernel
theorem dccX1_init_5 : decode cX1_init 5 = .ok (.new 9, 3) := by decide +kernel
theorem dccX1_init_8 : decode cX1_init 8 = .ok (.dup, 1) := by decide +kernel
theorem dccX1_init_9 : decode cX1_init 9 = .ok (.invokespecial 11, 3) := by decide +kernel
theorem dccX1_init_12 : decode cX1_init 12 = .ok (.putfield 12, 3) := by decide +kernel
theorem dccX1_init_15 : decode cX1_init 15 = .ok (.aload_n 0, 1) := by decide +kernel
theorem dccX1_init_16 : decode cX1_init 16 = .ok (.iconst 0, 1) := by decide +kernel
theorem dccX1_init_17 : decode cX1_init 17 = .ok (.putfield 18, 3) := by decide +kernel
theorem dccX1_init_20 : decode cX1_init 20 = .ok (.return_, 1) := by decide +kernel
theorem dccX1_isName_0 : decode cX1_isName 0 = .ok (.iload_n 0, 1) := by decide +kernel
theorem dccX1_isName_1 : decode cX1_isName 1 = .ok (.iconst 1, 1) := by decide +kernel
theorem dccX1_isName_2 : decode cX1_isName 2 = .ok (.if_icmp .lt 9, 3) := by decide +kernel
theorem dccX1_isName_5 : decode cX1_isName 5 = .ok (.iload_n 0, 1) := by decide +kernel
theorem dccX1_isName_6 : decode cX1_isName 6 = .ok (.ldc 22, 2) := by decide +kernel
theorem dccX1_isName_8 : decode cX1_isName 8 = .ok (.if_icmp .le 5, 3) := by decide +kernel
theorem dccX1_isName_11 : decode cX1_isName 11 = .ok (.iconst 0, 1) := by decide +kernel
theorem dccX1_isName_12 : decode cX1_isName 12 = .ok (.ireturn, 1) := by decide +kernel
theorem dccX1_isName_13 : decode cX1_isName 13 = .ok (.iload_n 0, 1) := by decide +kernel
theorem dccX1_isName_14 : decode cX1_isName 14 = .ok (.istore_n 1, 1) := by decide +kernel
theorem dccX1_isName_15 : decode cX1_isName 15 = .ok (.iconst 0, 1) := by decide +kernel
theorem dccX1_isName_16 : decode cX1_isName 16 = .ok (.istore_n 2, 1) := by decide +kernel
theorem dccX1_isName_17 : decode cX1_isName 17 = .ok (.iload_n 2, 1) := by decide +kernel
theorem dccX1_isName_18 : decode cX1_isName 18 = .ok (.iconst 5, 1) := by decide +kernel
theorem dccX1_isName_19 : decode cX1_isName 19 = .ok (.if_icmp .ge 27, 3) := by decide +kernel
theorem dccX1_isName_22 : decode cX1_isName 22 = .ok (.iload_n 1, 1) := by decide +kernel
theorem dccX1_isName_23 : decode cX1_isName 23 = .ok (.ifCond .le 23, 3) := by decide +kernel
theorem dccX1_isName_26 : decode cX1_isName 26 = .ok (.iload_n 1, 1) := by decide +kernel
theorem dccX1_isName_27 : decode cX1_isName 27 = .ok (.bipush 10, 2) := by decide +kernel
theorem dccX1_isName_29 : decode cX1_isName 29 = .ok (.irem, 1) := by decide +kernel
theorem dccX1_isName_30 : decode cX1_isName 30 = .ok (.ifCond .ne 5, 3) := by decide +kernel
theorem dccX1_isName_33 : decode cX1_isName 33 = .ok (.iconst 0, 1) := by decide +kernel
theorem dccX1_isName_34 : decode cX1_isName 34 = .ok (.ireturn, 1) := by decide +kernel
theorem dccX1_isName_35 : decode cX1_isName 35 = .ok (.iload_n 1, 1) := by decide +kernel
theorem dccX1_isName_36 : decode cX1_isName 36 = .ok (.bipush 10, 2) := by decide +kernel
theorem dccX1_isName_38 : decode cX1_isName 38 = .ok (.idiv, 1) := by decide +kernel
theorem dccX1_isName_39 : decode cX1_isName 39 = .ok (.istore_n 1, 1) := by decide +kernel
theorem dccX1_isName_40 : decode cX1_isName 40 = .ok (.iinc 2 1, 3) := by decide +kernel
theorem dccX1_isName_43 : decode cX1_isName 43 = .ok (.goto (-26), 3) := by decide +kernel
theorem dccX1_isName_46 : decode cX1_isName 46 = .ok (.iconst 1, 1) := by decide +kernel
theorem dccX1_isName_47 : decode cX1_isName 47 = .ok (.ireturn, 1) := by decide +kernel
theorem dccX1_isNear_0 : decode cX1_isNear 0 = .ok (.iload_n 0, 1) := by decide +kernel
theorem dccX1_isNear_1 : decode cX1_isNear 1 = .ok (.istore_n 2, 1) := by decide +kernel
theorem dccX1_isNear_2 : decode cX1_isNear 2 = .ok (.iload_n 1, 1) := by decide +kernel
theorem dccX1_isNear_3 : decode cX1_isNear 3 = .ok (.istore_n 3, 1) := by decide +kernel
theorem dccX1_isNear_4 : decode cX1_isNear 4 = .ok (.iconst 0, 1) := by decide +kernel
theorem dccX1_isNear_5 : decode cX1_isNear 5 = .ok (.istore 4, 2) := by decide +kernel
theorem dccX1_isNear_7 : decode cX1_isNear 7 = .ok (.iload 4, 2) := by decide +kernel
theorem dccX1_isNear_9 : decode cX1_isNear 9 = .ok (.iconst 5, 1) := by decide +kernel
theorem dccX1_isNear_10 : decode cX1_isNear 10 = .ok (.if_icmp .ge 30, 3) := by decide +kernel
theorem dccX1_isNear_13 : decode cX1_isNear 13 = .ok (.iload_n 2, 1) := by decide +kernel
theorem dccX1_isNear_14 : decode cX1_isNear 14 = .ok (.bipush 10, 2) := by decide +kernel
theorem dccX1_isNear_16 : decode cX1_isNear 16 = .ok (.irem, 1) := by decide +kernel
theorem dccX1_isNear_17 : decode cX1_isNear 17 = .ok (.iload_n 3, 1) := by decide +kernel
theorem dccX1_isNear_18 : decode cX1_isNear 18 = .ok (.bipush 10, 2) := by decide +kernel
theorem dccX1_isNear_20 : decode cX1_isNear 20 = .ok (.irem, 1) := by decide +kernel
theorem dccX1_isNear_21 : decode cX1_isNear 21 = .ok (.if_icmp .ne 19, 3) := by decide +kernel
theorem dccX1_isNear_24 : decode cX1_isNear 24 = .ok (.iload_n 2, 1) := by decide +kernel
theorem dccX1_isNear_25 : decode cX1_isNear 25 = .ok (.bipush 10, 2) := by decide +kernel
theorem dccX1_isNear_27 : decode cX1_isNear 27 = .ok (.idiv, 1) := by decide +kernel
theorem dccX1_isNear_28 : decode cX1_isNear 28 = .ok (.istore_n 2, 1) := by decide +kernel
theorem dccX1_isNear_29 : decode cX1_isNear 29 = .ok (.iload_n 3, 1) := by decide +kernel
theorem dccX1_isNear_30 : decode cX1_isNear 30 = .ok (.bipush 10, 2) := by decide +kernel
theorem dccX1_isNear_32 : decode cX1_isNear 32 = .ok (.idiv, 1) := by decide +kernel
theorem dccX1_isNear_33 : decode cX1_isNear 33 = .ok (.istore_n 3, 1) := by decide +kernel
theorem dccX1_isNear_34 : decode cX1_isNear 34 = .ok (.iinc 4 1, 3) := by decide +kernel
theorem dccX1_isNear_37 : decode cX1_isNear 37 = .ok (.goto (-30), 3) := by decide +kernel
theorem dccX1_isNear_40 : decode cX1_isNear 40 = .ok (.iload_n 2, 1) := by decide +kernel
theorem dccX1_isNear_41 : decode cX1_isNear 41 = .ok (.bipush 10, 2) := by decide +kernel
theorem dccX1_isNear_43 : decode cX1_isNear 43 = .ok (.idiv, 1) := by decide +kernel
theorem dccX1_isNear_44 : decode cX1_isNear 44 = .ok (.iload_n 3, 1) := by decide +kernel
theorem dccX1_isNear_45 : decode cX1_isNear 45 = .ok (.bipush 10, 2) := by decide +kernel
theorem dccX1_isNear_47 : decode cX1_isNear 47 = .ok (.idiv, 1) := by decide +kernel
theorem dccX1_isNear_48 : decode cX1_isNear 48 = .ok (.if_icmp .eq 19, 3) := by decide +kernel
theorem dccX1_isNear_51 : decode cX1_isNear 51 = .ok (.iload_n 2, 1) := by decide +kernel
theorem dccX1_isNear_52 : decode cX1_isNear 52 = .ok (.bipush 10, 2) := by decide +kernel
theorem dccX1_isNear_54 : decode cX1_isNear 54 = .ok (.idiv, 1) := by decide +kernel
theorem dccX1_isNear_55 : decode cX1_isNear 55 = .ok (.iload_n 3, 1) := by decide +kernel
theorem dccX1_isNear_56 : decode cX1_isNear 56 = .ok (.if_icmp .eq 11, 3) := by decide +kernel
theorem dccX1_isNear_59 : decode cX1_isNear 59 = .ok (.iload_n 2, 1) := by decide +kernel
theorem dccX1_isNear_60 : decode cX1_isNear 60 = .ok (.iload_n 3, 1) := by decide +kernel
theorem dccX1_isNear_61 : decode cX1_isNear 61 = .ok (.bipush 10, 2) := by decide +kernel
theorem dccX1_isNear_63 : decode cX1_isNear 63 = .ok (.idiv, 1) := by decide +kernel
theorem dccX1_isNear_64 : decode cX1_isNear 64 = .ok (.if_icmp .ne 7, 3) := by decide +kernel
theorem dccX1_isNear_67 : decode cX1_isNear 67 = .ok (.iconst 1, 1) := by decide +kernel
theorem dccX1_isNear_68 : decode cX1_isNear 68 = .ok (.goto 4, 3) := by decide +kernel
theorem dccX1_isNear_71 : decode cX1_isNear 71 = .ok (.iconst 0, 1) := by decide +kernel
theorem dccX1_isNear_72 : decode cX1_isNear 72 = .ok (.ireturn, 1) := by decide +kernel
theorem dccX1_join_0 : decode cX1_join 0 = .ok (.iconst 0, 1) := by decide +kernel
theorem dccX1_join_1 : decode cX1_join 1 = .ok (.istore_n 3, 1) := by decide +kernel
theorem dccX1_join_2 : decode cX1_join 2 = .ok (.iload_n 3, 1) := by decide +kernel
theorem dccX1_join_3 : decode cX1_join 3 = .ok (.aload_n 0, 1) := by decide +kernel
theorem dccX1_join_4 : decode cX1_join 4 = .ok (.getfield 12, 3) := by decide +kernel
theorem dccX1_join_7 : decode cX1_join 7 = .ok (.invokevirtual 23, 3) := by decide +kernel
theorem dccX1_join_10 : decode cX1_join 10 = .ok (.if_icmp .ge 42, 3) := by decide +kernel
theorem dccX1_join_13 : decode cX1_join 13 = .ok (.aload_n 0, 1) := by decide +kernel
theorem dccX1_join_14 : decode cX1_join 14 = .ok (.getfield 12, 3) := by decide +kernel
theorem dccX1_join_17 : decode cX1_join 17 = .ok (.iload_n 3, 1) := by decide +kernel
theorem dccX1_join_18 : decode cX1_join 18 = .ok (.invokevirtual 27, 3) := by decide +kernel
theorem dccX1_join_21 : decode cX1_join 21 = .ok (.checkcast 31, 3) := by decide +kernel
theorem dccX1_join_24 : decode cX1_join 24 = .ok (.getfield 33, 3) := by decide +kernel
theorem dccX1_join_27 : decode cX1_join 27 = .ok (.iload_n 1, 1) := by decide +kernel
theorem dccX1_join_28 : decode cX1_join 28 = .ok (.if_icmp .ne 18, 3) := by decide +kernel
theorem dccX1_join_31 : decode cX1_join 31 = .ok (.aload_n 0, 1) := by decide +kernel
theorem dccX1_join_32 : decode cX1_join 32 = .ok (.getfield 12, 3) := by decide +kernel
theorem dccX1_join_35 : decode cX1_join 35 = .ok (.iload_n 3, 1) := by decide +kernel
theorem dccX1_join_36 : decode cX1_join 36 = .ok (.invokevirtual 27, 3) := by decide +kernel
theorem dccX1_join_39 : decode cX1_join 39 = .ok (.checkcast 31, 3) := by decide +kernel
theorem dccX1_join_42 : decode cX1_join 42 = .ok (.iload_n 2, 1) := by decide +kernel
theorem dccX1_join_43 : decode cX1_join 43 = .ok (.putfield 33, 3) := by decide +kernel
theorem dccX1_join_46 : decode cX1_join 46 = .ok (.iinc 3 1, 3) := by decide +kernel
theorem dccX1_join_49 : decode cX1_join 49 = .ok (.goto (-47), 3) := by decide +kernel
theorem dccX1_join_52 : decode cX1_join 52 = .ok (.return_, 1) := by decide +kernel
theorem dccX1_persons_0 : decode cX1_persons 0 = .ok (.iconst 0, 1) := by decide +kernel
theorem dccX1_persons_1 : decode cX1_persons 1 = .ok (.istore_n 1, 1) := by decide +kernel
theorem dccX1_persons_2 : decode cX1_persons 2 = .ok (.iconst 0, 1) := by decide +kernel
theorem dccX1_persons_3 : decode cX1_persons 3 = .ok (.istore_n 2, 1) := by decide +kernel
theorem dccX1_persons_4 : decode cX1_persons 4 = .ok (.iload_n 2, 1) := by decide +kernel
theorem dccX1_persons_5 : decode cX1_persons 5 = .ok (.aload_n 0, 1) := by decide +kernel
theorem dccX1_persons_6 : decode cX1_persons 6 = .ok (.getfield 12, 3) := by decide +kernel
theorem dccX1_persons_9 : decode cX1_persons 9 = .ok (.invokevirtual 23, 3) := by decide +kernel
theorem dccX1_persons_12 : decode cX1_persons 12 = .ok (.if_icmp .ge 52, 3) := by decide +kernel
theorem dccX1_persons_15 : decode cX1_persons 15 = .ok (.aload_n 0, 1) := by decide +kernel
theorem dccX1_persons_16 : decode cX1_persons 16 = .ok (.getfield 12, 3) := by decide +kernel
theorem dccX1_persons_19 : decode cX1_persons 19 = .ok (.iload_n 2, 1) := by decide +kernel
theorem dccX1_persons_20 : decode cX1_persons 20 = .ok (.invokevirtual 27, 3) := by decide +kernel
theorem dccX1_persons_23 : decode cX1_persons 23 = .ok (.checkcast 31, 3) := by decide +kernel
theorem dccX1_persons_26 : decode cX1_persons 26 = .ok (.iload_n 2, 1) := by decide +kernel
theorem dccX1_persons_27 : decode cX1_persons 27 = .ok (.putfield 33, 3) := by decide +kernel
theorem dccX1_persons_30 : decode cX1_persons 30 = .ok (.iload_n 1, 1) := by decide +kernel
theorem dccX1_persons_31 : decode cX1_persons 31 = .ok (.aload_n 0, 1) := by decide +kernel
theorem dccX1_persons_32 : decode cX1_persons 32 = .ok (.getfield 12, 3) := by decide +kernel
theorem dccX1_persons_35 : decode cX1_persons 35 = .ok (.iload_n 2, 1) := by decide +kernel
theorem dccX1_persons_36 : decode cX1_persons 36 = .ok (.invokevirtual 27, 3) := by decide +kernel
theorem dccX1_persons_39 : decode cX1_persons 39 = .ok (.checkcast 31, 3) := by decide +kernel
theorem dccX1_persons_42 : decode cX1_persons 42 = .ok (.getfield 36, 3) := by decide +kernel
theorem dccX1_persons_45 : decode cX1_persons 45 = .ok (.ifCond .ne 7, 3) := by decide +kernel
theorem dccX1_persons_48 : decode cX1_persons 48 = .ok (.iconst 1, 1) := by decide +kernel
theorem dccX1_persons_49 : decode cX1_persons 49 = .ok (.goto 4, 3) := by decide +kernel
theorem dccX1_persons_52 : decode cX1_persons 52 = .ok (.iconst 0, 1) := by decide +kernel
theorem dccX1_persons_53 : decode cX1_persons 53 = .ok (.invokestatic 40, 3) := by decide +kernel
theorem dccX1_persons_56 : decode cX1_persons 56 = .ok (.iadd, 1) := by decide +kernel
theorem dccX1_persons_57 : decode cX1_persons 57 = .ok (.istore_n 1, 1) := by decide +kernel
theorem dccX1_persons_58 : decode cX1_persons 58 = .ok (.iinc 2 1, 3) := by decide +kernel
theorem dccX1_persons_61 : decode cX1_persons 61 = .ok (.goto (-57), 3) := by decide +kernel
theorem dccX1_persons_64 : decode cX1_persons 64 = .ok (.iconst 0, 1) := by decide +kernel
theorem dccX1_persons_65 : decode cX1_persons 65 = .ok (.istore_n 2, 1) := by decide +kernel
theorem dccX1_persons_66 : decode cX1_persons 66 = .ok (.iload_n 2, 1) := by decide +kernel
theorem dccX1_persons_67 : decode cX1_persons 67 = .ok (.aload_n 0, 1) := by decide +kernel
theorem dccX1_persons_68 : decode cX1_persons 68 = .ok (.getfield 12, 3) := by decide +kernel
theorem dccX1_persons_71 : decode cX1_persons 71 = .ok (.invokevirtual 23, 3) := by decide +kernel
theorem dccX1_persons_74 : decode cX1_persons 74 = .ok (.if_icmp .ge 88, 3) := by decide +kernel
theorem dccX1_persons_77 : decode cX1_persons 77 = .ok (.iconst 0, 1) := by decide +kernel
theorem dccX1_persons_78 : decode cX1_persons 78 = .ok (.istore_n 3, 1) := by decide +kernel
theorem dccX1_persons_79 : decode cX1_persons 79 = .ok (.iload_n 3, 1) := by decide +kernel
theorem dccX1_persons_80 : decode cX1_persons 80 = .ok (.iload_n 2, 1) := by decide +kernel
theorem dccX1_persons_81 : decode cX1_persons 81 = .ok (.if_icmp .ge 75, 3) := by decide +kernel
theorem dccX1_persons_84 : decode cX1_persons 84 = .ok (.aload_n 0, 1) := by decide +kernel
theorem dccX1_persons_85 : decode cX1_persons 85 = .ok (.getfield 12, 3) := by decide +kernel
theorem dccX1_persons_88 : decode cX1_persons 88 = .ok (.iload_n 2, 1) := by decide +kernel
theorem dccX1_persons_89 : decode cX1_persons 89 = .ok (.invokevirtual 27, 3) := by decide +kernel
theorem dccX1_persons_92 : decode cX1_persons 92 = .ok (.checkcast 31, 3) := by decide +kernel
theorem dccX1_persons_95 : decode cX1_persons 95 = .ok (.astore 4, 2) := by decide +kernel
theorem dccX1_persons_97 : decode cX1_persons 97 = .ok (.aload_n 0, 1) := by decide +kernel
theorem dccX1_persons_98 : decode cX1_persons 98 = .ok (.getfield 12, 3) := by decide +kernel
theorem dccX1_persons_101 : decode cX1_persons 101 = .ok (.iload_n 3, 1) := by decide +kernel
theorem dccX1_persons_102 : decode cX1_persons 102 = .ok (.invokevirtual 27, 3) := by decide +kernel
theorem dccX1_persons_105 : decode cX1_persons 105 = .ok (.checkcast 31, 3) := by decide +kernel
theorem dccX1_persons_108 : decode cX1_persons 108 = .ok (.astore 5, 2) := by decide +kernel
theorem dccX1_persons_110 : decode cX1_persons 110 = .ok (.aload 4, 2) := by decide +kernel
theorem dccX1_persons_112 : decode cX1_persons 112 = .ok (.getfield 33, 3) := by decide +kernel
theorem dccX1_persons_115 : decode cX1_persons 115 = .ok (.aload 5, 2) := by decide +kernel
theorem dccX1_persons_117 : decode cX1_persons 117 = .ok (.getfield 33, 3) := by decide +kernel
theorem dccX1_persons_120 : decode cX1_persons 120 = .ok (.if_icmp .eq 30, 3) := by decide +kernel
theorem dccX1_persons_123 : decode cX1_persons 123 = .ok (.aload 4, 2) := by decide +kernel
theorem dccX1_persons_125 : decode cX1_persons 125 = .ok (.aload 5, 2) := by decide +kernel
theorem dccX1_persons_127 : decode cX1_persons 127 = .ok (.invokestatic 44, 3) := by decide +kernel
theorem dccX1_persons_130 : decode cX1_persons 130 = .ok (.ifCond .eq 20, 3) := by decide +kernel
theorem dccX1_persons_133 : decode cX1_persons 133 = .ok (.aload_n 0, 1) := by decide +kernel
theorem dccX1_persons_134 : decode cX1_persons 134 = .ok (.aload 4, 2) := by decide +kernel
theorem dccX1_persons_136 : decode cX1_persons 136 = .ok (.getfield 33, 3) := by decide +kernel
theorem dccX1_persons_139 : decode cX1_persons 139 = .ok (.aload 5, 2) := by decide +kernel
theorem dccX1_persons_141 : decode cX1_persons 141 = .ok (.getfield 33, 3) := by decide +kernel
theorem dccX1_persons_144 : decode cX1_persons 144 = .ok (.invokevirtual 48, 3) := by decide +kernel
theorem dccX1_persons_147 : decode cX1_persons 147 = .ok (.iinc 1 (-1), 3) := by decide +kernel
theorem dccX1_persons_150 : decode cX1_persons 150 = .ok (.iinc 3 1, 3) := by decide +kernel
theorem dccX1_persons_153 : decode cX1_persons 153 = .ok (.goto (-74), 3) := by decide +kernel
theorem dccX1_persons_156 : decode cX1_persons 156 = .ok (.iinc 2 1, 3) := by decide +kernel
theorem dccX1_persons_159 : decode cX1_persons 159 = .ok (.goto (-93), 3) := by decide +kernel
theorem dccX1_persons_162 : decode cX1_persons 162 = .ok (.iload_n 1, 1) := by decide +kernel
theorem dccX1_persons_163 : decode cX1_persons 163 = .ok (.ireturn, 1) := by decide +kernel
theorem dccX2_init_0 : decode cX2_init 0 = .ok (.aload_n 0, 1) := by decide +kernel
theorem dccX2_init_1 : decode cX2_init 1 = .ok (.invokespecial 1, 3) := by decide +kernel
theorem dccX2_init_4 : decode cX2_init 4 = .ok (.aload_n 0, 1) := by decide +kernel
theorem dccX2_init_5 : decode cX2_init 5 = .ok (.iload_n 1, 1) := by decide +kernel
theorem dccX2_init_6 : decode cX2_init 6 = .ok (.putfield 7, 3) := by decide +kernel
theorem dccX2_init_9 : decode cX2_init 9 = .ok (.aload_n 0, 1) := by decide +kernel
theorem dccX2_init_10 : decode cX2_init 10 = .ok (.iload_n 2, 1) := by decide +kernel
theorem dccX2_init_11 : decode cX2_init 11 = .ok (.putfield 13, 3) := by decide +kernel
theorem dccX2_init_14 : decode cX2_init 14 = .ok (.aload_n 0, 1) := by decide +kernel
theorem dccX2_init_15 : decode cX2_init 15 = .ok (.iload_n 3, 1) := by decide +kernel
theorem dccX2_init_16 : decode cX2_init 16 = .ok (.putfield 16, 3) := by decide +kernel
theorem dccX2_init_19 : decode cX2_init 19 = .ok (.return_, 1) := by decide +kernel
theorem dccX3_goesBefore_0 : decode cX3_goesBefore 0 = .ok (.aload_n 0, 1) := by decide +kernel
theorem dccX3_goesBefore_1 : decode cX3_goesBefore 1 = .ok (.getfield 25, 3) := by decide +kernel
theorem dccX3_goesBefore_4 : decode cX3_goesBefore 4 = .ok (.aload_n 1, 1) := by decide +kernel
theorem dccX3_goesBefore_5 : decode cX3_goesBefore 5 = .ok (.getfield 25, 3) := by decide +kernel
theorem dccX3_goesBefore_8 : decode cX3_goesBefore 8 = .ok (.if_icmp .eq 8, 3) := by decide +kernel
theorem dccX3_goesBefore_11 : decode cX3_goesBefore 11 = .ok (.aload_n 0, 1) := by decide +kernel
theorem dccX3_goesBefore_12 : decode cX3_goesBefore 12 = .ok (.getfield 25, 3) := by decide +kernel
theorem dccX3_goesBefore_15 : decode cX3_goesBefore 15 = .ok (.ireturn, 1) := by decide +kernel
theorem dccX3_goesBefore_16 : decode cX3_goesBefore 16 = .ok (.aload_n 0, 1) := by decide +kernel
theorem dccX3_goesBefore_17 : decode cX3_goesBefore 17 = .ok (.getfield 22, 3) := by decide +kernel
theorem dccX3_goesBefore_20 : decode cX3_goesBefore 20 = .ok (.aload_n 1, 1) := by decide +kernel
theorem dccX3_goesBefore_21 : decode cX3_goesBefore 21 = .ok (.getfield 22, 3) := by decide +kernel
theorem dccX3_goesBefore_24 : decode cX3_goesBefore 24 = .ok (.if_icmp .eq 22, 3) := by decide +kernel
theorem dccX3_goesBefore_27 : decode cX3_goesBefore 27 = .ok (.aload_n 0, 1) := by decide +kernel
theorem dccX3_goesBefore_28 : decode cX3_goesBefore 28 = .ok (.getfield 22, 3) := by decide +kernel
theorem dccX3_goesBefore_31 : decode cX3_goesBefore 31 = .ok (.aload_n 1, 1) := by decide +kernel
theorem dccX3_goesBefore_32 : decode cX3_goesBefore 32 = .ok (.getfield 22, 3) := by decide +kernel
theorem dccX3_goesBefore_35 : decode cX3_goesBefore 35 = .ok (.if_icmp .le 7, 3) := by decide +kernel
theorem dccX3_goesBefore_38 : decode cX3_goesBefore 38 = .ok (.iconst 1, 1) := by decide +kernel
theorem dccX3_goesBefore_39 : decode cX3_goesBefore 39 = .ok (.goto 23, 3) := by decide +kernel
theorem dccX3_goesBefore_42 : decode cX3_goesBefore 42 = .ok (.iconst 0, 1) := by decide +kernel
theorem dccX3_goesBefore_43 : decode cX3_goesBefore 43 = .ok (.goto 19, 3) := by decide +kernel
theorem dccX3_goesBefore_46 : decode cX3_goesBefore 46 = .ok (.aload_n 0, 1) := by decide +kernel
theorem dccX3_goesBefore_47 : decode cX3_goesBefore 47 = .ok (.getfield 15, 3) := by decide +kernel
theorem dccX3_goesBefore_50 : decode cX3_goesBefore 50 = .ok (.aload_n 1, 1) := by decide +kernel
theorem dccX3_goesBefore_51 : decode cX3_goesBefore 51 = .ok (.getfield 15, 3) := by decide +kernel
theorem dccX3_goesBefore_54 : decode cX3_goesBefore 54 = .ok (.if_icmp .ge 7, 3) := by decide +kernel
theorem dccX3_goesBefore_57 : decode cX3_goesBefore 57 = .ok (.iconst 1, 1) := by decide +kernel
theorem dccX3_goesBefore_58 : decode cX3_goesBefore 58 = .ok (.goto 4, 3) := by decide +kernel
theorem dccX3_goesBefore_61 : decode cX3_goesBefore 61 = .ok (.iconst 0, 1) := by decide +kernel
theorem dccX3_goesBefore_62 : decode cX3_goesBefore 62 = .ok (.ireturn, 1) := by decide +kernel
theorem dccX3_init_0 : decode cX3_init 0 = .ok (.aload_n 0, 1) := by decide +kernel
theorem dccX3_init_1 : decode cX3_init 1 = .ok (.invokespecial 3, 3) := by decide +kernel
theorem dccX3_init_4 : decode cX3_init 4 = .ok (.aload_n 0, 1) := by decide +kernel
theorem dccX3_init_5 : decode cX3_init 5 = .ok (.iconst 0, 1) := by decide +kernel
theorem dccX3_init_6 : decode cX3_init 6 = .ok (.putfield 9, 3) := by decide +kernel
theorem dccX3_init_9 : decode cX3_init 9 = .ok (.aload_n 0, 1) := by decide +kernel
theorem dccX3_init_10 : decode cX3_init 10 = .ok (.iload_n 1, 1) := by decide +kernel
theorem dccX3_init_11 : decode cX3_init 11 = .ok (.putfield 15, 3) := by decide +kernel
theorem dccX3_init_14 : decode cX3_init 14 = .ok (.aload_n 0, 1) := by decide +kernel
theorem dccX3_init_15 : decode cX3_init 15 = .ok (.aload_n 2, 1) := by decide +kernel
theorem dccX3_init_16 : decode cX3_init 16 = .ok (.putfield 18, 3) := by decide +kernel
theorem dccX3_init_19 : decode cX3_init 19 = .ok (.aload_n 0, 1) := by decide +kernel
theorem dccX3_init_20 : decode cX3_init 20 = .ok (.iload_n 3, 1) := by decide +kernel
theorem dccX3_init_21 : decode cX3_init 21 = .ok (.putfield 22, 3) := by decide +kernel
theorem dccX3_init_24 : decode cX3_init 24 = .ok (.aload_n 0, 1) := by decide +kernel
theorem dccX3_init_25 : decode cX3_init 25 = .ok (.iload 4, 2) := by decide +kernel
theorem dccX3_init_27 : decode cX3_init 27 = .ok (.putfield 25, 3) := by decide +kernel
theorem dccX3_init_30 : decode cX3_init 30 = .ok (.return_, 1) := by decide +kernel
theorem dccX3_wouldRather_0 : decode cX3_wouldRather 0 = .ok (.aload_n 1, 1) := by decide +kernel
theorem dccX3_wouldRather_1 : decode cX3_wouldRather 1 = .ok (.ifnull 7, 3) := by decide +kernel
theorem dccX3_wouldRather_4 : decode cX3_wouldRather 4 = .ok (.aload_n 2, 1) := by decide +kernel
theorem dccX3_wouldRather_5 : decode cX3_wouldRather 5 = .ok (.ifnonnull 13, 3) := by decide +kernel
theorem dccX3_wouldRather_8 : decode cX3_wouldRather 8 = .ok (.aload_n 1, 1) := by decide +kernel
theorem dccX3_wouldRather_9 : decode cX3_wouldRather 9 = .ok (.ifnull 7, 3) := by decide +kernel
theorem dccX3_wouldRather_12 : decode cX3_wouldRather 12 = .ok (.iconst 1, 1) := by decide +kernel
theorem dccX3_wouldRather_13 : decode cX3_wouldRather 13 = .ok (.goto 4, 3) := by decide +kernel
theorem dccX3_wouldRather_16 : decode cX3_wouldRather 16 = .ok (.iconst 0, 1) := by decide +kernel
theorem dccX3_wouldRather_17 : decode cX3_wouldRather 17 = .ok (.ireturn, 1) := by decide +kernel
theorem dccX3_wouldRather_18 : decode cX3_wouldRather 18 = .ok (.aload_n 1, 1) := by decide +kernel
theorem dccX3_wouldRather_19 : decode cX3_wouldRather 19 = .ok (.getfield 29, 3) := by decide +kernel
theorem dccX3_wouldRather_22 : decode cX3_wouldRather 22 = .ok (.aload_n 0, 1) := by decide +kernel
theorem dccX3_wouldRather_23 : decode cX3_wouldRather 23 = .ok (.getfield 18, 3) := by decide +kernel
theorem dccX3_wouldRather_26 : decode cX3_wouldRather 26 = .ok (.getfield 34, 3) := by decide +kernel
theorem dccX3_wouldRather_29 : decode cX3_wouldRather 29 = .ok (.isub, 1) := by decide +kernel
theorem dccX3_wouldRather_30 : decode cX3_wouldRather 30 = .ok (.invokestatic 37, 3) := by decide +kernel
theorem dccX3_wouldRather_33 : decode cX3_wouldRather 33 = .ok (.istore_n 3, 1) := by decide +kernel
theorem dccX3_wouldRather_34 : decode cX3_wouldRather 34 = .ok (.aload_n 2, 1) := by decide +kernel
theorem dccX3_wouldRather_35 : decode cX3_wouldRather 35 = .ok (.getfield 29, 3) := by decide +kernel
theorem dccX3_wouldRather_38 : decode cX3_wouldRather 38 = .ok (.aload_n 0, 1) := by decide +kernel
theorem dccX3_wouldRather_39 : decode cX3_wouldRather 39 = .ok (.getfield 18, 3) := by decide +kernel
theorem dccX3_wouldRather_42 : decode cX3_wouldRather 42 = .ok (.getfield 34, 3) := by decide +kernel
theorem dccX3_wouldRather_45 : decode cX3_wouldRather 45 = .ok (.isub, 1) := by decide +kernel
theorem dccX3_wouldRather_46 : decode cX3_wouldRather 46 = .ok (.invokestatic 37, 3) := by decide +kernel
theorem dccX3_wouldRather_49 : decode cX3_wouldRather 49 = .ok (.istore 4, 2) := by decide +kernel
theorem dccX3_wouldRather_51 : decode cX3_wouldRather 51 = .ok (.iload_n 3, 1) := by decide +kernel
theorem dccX3_wouldRather_52 : decode cX3_wouldRather 52 = .ok (.iload 4, 2) := by decide +kernel
theorem dccX3_wouldRather_54 : decode cX3_wouldRather 54 = .ok (.if_icmp .eq 17, 3) := by decide +kernel
theorem dccX3_wouldRather_57 : decode cX3_wouldRather 57 = .ok (.iload_n 3, 1) := by decide +kernel
theorem dccX3_wouldRather_58 : decode cX3_wouldRather 58 = .ok (.iload 4, 2) := by decide +kernel
theorem dccX3_wouldRather_60 : decode cX3_wouldRather 60 = .ok (.if_icmp .ge 7, 3) := by decide +kernel
theorem dccX3_wouldRather_63 : decode cX3_wouldRather 63 = .ok (.iconst 1, 1) := by decide +kernel
theorem dccX3_wouldRather_64 : decode cX3_wouldRather 64 = .ok (.goto 23, 3) := by decide +kernel
theorem dccX3_wouldRather_67 : decode cX3_wouldRather 67 = .ok (.iconst 0, 1) := by decide +kernel
theorem dccX3_wouldRather_68 : decode cX3_wouldRather 68 = .ok (.goto 19, 3) := by decide +kernel
theorem dccX3_wouldRather_71 : decode cX3_wouldRather 71 = .ok (.aload_n 1, 1) := by decide +kernel
theorem dccX3_wouldRather_72 : decode cX3_wouldRather 72 = .ok (.getfield 43, 3) := by decide +kernel
theorem dccX3_wouldRather_75 : decode cX3_wouldRather 75 = .ok (.aload_n 2, 1) := by decide +kernel
theorem dccX3_wouldRather_76 : decode cX3_wouldRather 76 = .ok (.getfield 43, 3) := by decide +kernel
theorem dccX3_wouldRather_79 : decode cX3_wouldRather 79 = .ok (.if_icmp .ge 7, 3) := by decide +kernel
theorem dccX3_wouldRather_82 : decode cX3_wouldRather 82 = .ok (.iconst 1, 1) := by decide +kernel
theorem dccX3_wouldRather_83 : decode cX3_wouldRather 83 = .ok (.goto 4, 3) := by decide +kernel
theorem dccX3_wouldRather_86 : decode cX3_wouldRather 86 = .ok (.iconst 0, 1) := by decide +kernel
theorem dccX3_wouldRather_87 : decode cX3_wouldRather 87 = .ok (.ireturn, 1) := by decide +kernel
theorem dccX4_handOut_0 : decode cX4_handOut 0 = .ok (.iload_n 1, 1) := by decide +kernel
theorem dccX4_handOut_1 : decode cX4_handOut 1 = .ok (.istore_n 2, 1) := by decide +kernel
theorem dccX4_handOut_2 : decode cX4_handOut 2 = .ok (.iconst 0, 1) := by decide +kernel
theorem dccX4_handOut_3 : decode cX4_handOut 3 = .ok (.istore_n 3, 1) := by decide +kernel
theorem dccX4_handOut_4 : decode cX4_handOut 4 = .ok (.iload_n 3, 1) := by decide +kernel
theorem dccX4_handOut_5 : decode cX4_handOut 5 = .ok (.aload_n 0, 1) := by decide +kernel
theorem dccX4_handOut_6 : decode cX4_handOut 6 = .ok (.getfield 10, 3) := by decide +kernel
theorem dccX4_handOut_9 : decode cX4_handOut 9 = .ok (.invokevirtual 26, 3) := by decide +kernel
theorem dccX4_handOut_12 : decode cX4_handOut 12 = .ok (.if_icmp .ge 48, 3) := by decide +kernel
theorem dccX4_handOut_15 : decode cX4_handOut 15 = .ok (.aload_n 0, 1) := by decide +kernel
theorem dccX4_handOut_16 : decode cX4_handOut 16 = .ok (.invokevirtual 30, 3) := by decide +kernel
theorem dccX4_handOut_19 : decode cX4_handOut 19 = .ok (.astore 4, 2) := by decide +kernel
theorem dccX4_handOut_21 : decode cX4_handOut 21 = .ok (.aload 4, 2) := by decide +kernel
theorem dccX4_handOut_23 : decode cX4_handOut 23 = .ok (.ifnull 31, 3) := by decide +kernel
theorem dccX4_handOut_26 : decode cX4_handOut 26 = .ok (.iload_n 2, 1) := by decide +kernel
theorem dccX4_handOut_27 : decode cX4_handOut 27 = .ok (.aload 4, 2) := by decide +kernel
theorem dccX4_handOut_29 : decode cX4_handOut 29 = .ok (.getfield 34, 3) := by decide +kernel
theorem dccX4_handOut_32 : decode cX4_handOut 32 = .ok (.invokestatic 39, 3) := by decide +kernel
theorem dccX4_handOut_35 : decode cX4_handOut 35 = .ok (.istore 5, 2) := by decide +kernel
theorem dccX4_handOut_37 : decode cX4_handOut 37 = .ok (.aload 4, 2) := by decide +kernel
theorem dccX4_handOut_39 : decode cX4_handOut 39 = .ok (.dup, 1) := by decide +kernel
theorem dccX4_handOut_40 : decode cX4_handOut 40 = .ok (.getfield 34, 3) := by decide +kernel
theorem dccX4_handOut_43 : decode cX4_handOut 43 = .ok (.iload 5, 2) := by decide +kernel
theorem dccX4_handOut_45 : decode cX4_handOut 45 = .ok (.isub, 1) := by decide +kernel
theorem dccX4_handOut_46 : decode cX4_handOut 46 = .ok (.putfield 34, 3) := by decide +kernel
theorem dccX4_handOut_49 : decode cX4_handOut 49 = .ok (.iload_n 2, 1) := by decide +kernel
theorem dccX4_handOut_50 : decode cX4_handOut 50 = .ok (.iload 5, 2) := by decide +kernel
theorem dccX4_handOut_52 : decode cX4_handOut 52 = .ok (.isub, 1) := by decide +kernel
theorem dccX4_handOut_53 : decode cX4_handOut 53 = .ok (.istore_n 2, 1) := by decide +kernel
theorem dccX4_handOut_54 : decode cX4_handOut 54 = .ok (.iinc 3 1, 3) := by decide +kernel
theorem dccX4_handOut_57 : decode cX4_handOut 57 = .ok (.goto (-53), 3) := by decide +kernel
theorem dccX4_handOut_60 : decode cX4_handOut 60 = .ok (.aload_n 0, 1) := by decide +kernel
theorem dccX4_handOut_61 : decode cX4_handOut 61 = .ok (.dup, 1) := by decide +kernel
theorem dccX4_handOut_62 : decode cX4_handOut 62 = .ok (.getfield 16, 3) := by decide +kernel
theorem dccX4_handOut_65 : decode cX4_handOut 65 = .ok (.iload_n 1, 1) := by decide +kernel
theorem dccX4_handOut_66 : decode cX4_handOut 66 = .ok (.iload_n 2, 1) := by decide +kernel
theorem dccX4_handOut_67 : decode cX4_handOut 67 = .ok (.isub, 1) := by decide +kernel
theorem dccX4_handOut_68 : decode cX4_handOut 68 = .ok (.iadd, 1) := by decide +kernel
theorem dccX4_handOut_69 : decode cX4_handOut 69 = .ok (.putfield 16, 3) := by decide +kernel
theorem dccX4_handOut_72 : decode cX4_handOut 72 = .ok (.aload_n 0, 1) := by decide +kernel
theorem dccX4_handOut_73 : decode cX4_handOut 73 = .ok (.dup, 1) := by decide +kernel
theorem dccX4_handOut_74 : decode cX4_handOut 74 = .ok (.getfield 23, 3) := by decide +kernel
theorem dccX4_handOut_77 : decode cX4_handOut 77 = .ok (.iload_n 2, 1) := by decide +kernel
theorem dccX4_handOut_78 : decode cX4_handOut 78 = .ok (.iadd, 1) := by decide +kernel
theorem dccX4_handOut_79 : decode cX4_handOut 79 = .ok (.putfield 23, 3) := by decide +kernel
theorem dccX4_handOut_82 : decode cX4_handOut 82 = .ok (.iload_n 1, 1) := by decide +kernel
theorem dccX4_handOut_83 : decode cX4_handOut 83 = .ok (.iload_n 2, 1) := by decide +kernel
theorem dccX4_handOut_84 : decode cX4_handOut 84 = .ok (.isub, 1) := by decide +kernel
theorem dccX4_handOut_85 : decode cX4_handOut 85 = .ok (.ireturn, 1) := by decide +kernel
theorem dccX4_init_0 : decode cX4_init 0 = .ok (.aload_n 0, 1) := by decide +kernel
theorem dccX4_init_1 : decode cX4_init 1 = .ok (.invokespecial 1, 3) := by decide +kernel
theorem dccX4_init_4 : decode cX4_init 4 = .ok (.aload_n 0, 1) := by decide +kernel
theorem dccX4_init_5 : decode cX4_init 5 = .ok (.new 7, 3) := by decide +kernel
theorem dccX4_init_8 : decode cX4_init 8 = .ok (.dup, 1) := by decide +kernel
theorem dccX4_init_9 : decode cX4_init 9 = .ok (.invokespecial 9, 3) := by decide +kernel
theorem dccX4_init_12 : decode cX4_init 12 = .ok (.putfield 10, 3) := by decide +kernel
theorem dccX4_init_15 : decode cX4_init 15 = .ok (.aload_n 0, 1) := by decide +kernel
theorem dccX4_init_16 : decode cX4_init 16 = .ok (.iconst 0, 1) := by decide +kernel
theorem dccX4_init_17 : decode cX4_init 17 = .ok (.putfield 16, 3) := by decide +kernel
theorem dccX4_init_20 : decode cX4_init 20 = .ok (.aload_n 0, 1) := by decide +kernel
theorem dccX4_init_21 : decode cX4_init 21 = .ok (.iconst 0, 1) := by decide +kernel
theorem dccX4_init_22 : decode cX4_init 22 = .ok (.putfield 20, 3) := by decide +kernel
theorem dccX4_init_25 : decode cX4_init 25 = .ok (.aload_n 0, 1) := by decide +kernel
theorem dccX4_init_26 : decode cX4_init 26 = .ok (.iconst 0, 1) := by decide +kernel
theorem dccX4_init_27 : decode cX4_init 27 = .ok (.putfield 23, 3) := by decide +kernel
theorem dccX4_init_30 : decode cX4_init 30 = .ok (.return_, 1) := by decide +kernel
theorem dccX4_isBalanced_0 : decode cX4_isBalanced 0 = .ok (.iconst 0, 1) := by decide +kernel
theorem dccX4_isBalanced_1 : decode cX4_isBalanced 1 = .ok (.istore_n 1, 1) := by decide +kernel
theorem dccX4_isBalanced_2 : decode cX4_isBalanced 2 = .ok (.iconst 0, 1) := by decide +kernel
theorem dccX4_isBalanced_3 : decode cX4_isBalanced 3 = .ok (.istore_n 2, 1) := by decide +kernel
theorem dccX4_isBalanced_4 : decode cX4_isBalanced 4 = .ok (.iconst 0, 1) := by decide +kernel
theorem dccX4_isBalanced_5 : decode cX4_isBalanced 5 = .ok (.istore_n 3, 1) := by decide +kernel
theorem dccX4_isBalanced_6 : decode cX4_isBalanced 6 = .ok (.iload_n 3, 1) := by decide +kernel
theorem dccX4_isBalanced_7 : decode cX4_isBalanced 7 = .ok (.aload_n 0, 1) := by decide +kernel
theorem dccX4_isBalanced_8 : decode cX4_isBalanced 8 = .ok (.getfield 10, 3) := by decide +kernel
theorem dccX4_isBalanced_11 : decode cX4_isBalanced 11 = .ok (.invokevirtual 26, 3) := by decide +kernel
theorem dccX4_isBalanced_14 : decode cX4_isBalanced 14 = .ok (.if_icmp .ge 43, 3) := by decide +kernel
theorem dccX4_isBalanced_17 : decode cX4_isBalanced 17 = .ok (.iload_n 1, 1) := by decide +kernel
theorem dccX4_isBalanced_18 : decode cX4_isBalanced 18 = .ok (.aload_n 0, 1) := by decide +kernel
theorem dccX4_isBalanced_19 : decode cX4_isBalanced 19 = .ok (.getfield 10, 3) := by decide +kernel
theorem dccX4_isBalanced_22 : decode cX4_isBalanced 22 = .ok (.iload_n 3, 1) := by decide +kernel
theorem dccX4_isBalanced_23 : decode cX4_isBalanced 23 = .ok (.invokevirtual 45, 3) := by decide +kernel
theorem dccX4_isBalanced_26 : decode cX4_isBalanced 26 = .ok (.checkcast 35, 3) := by decide +kernel
theorem dccX4_isBalanced_29 : decode cX4_isBalanced 29 = .ok (.getfield 52, 3) := by decide +kernel
theorem dccX4_isBalanced_32 : decode cX4_isBalanced 32 = .ok (.iadd, 1) := by decide +kernel
theorem dccX4_isBalanced_33 : decode cX4_isBalanced 33 = .ok (.istore_n 1, 1) := by decide +kernel
theorem dccX4_isBalanced_34 : decode cX4_isBalanced 34 = .ok (.iload_n 2, 1) := by decide +kernel
theorem dccX4_isBalanced_35 : decode cX4_isBalanced 35 = .ok (.aload_n 0, 1) := by decide +kernel
theorem dccX4_isBalanced_36 : decode cX4_isBalanced 36 = .ok (.getfield 10, 3) := by decide +kernel
theorem dccX4_isBalanced_39 : decode cX4_isBalanced 39 = .ok (.iload_n 3, 1) := by decide +kernel
theorem dccX4_isBalanced_40 : decode cX4_isBalanced 40 = .ok (.invokevirtual 45, 3) := by decide +kernel
theorem dccX4_isBalanced_43 : decode cX4_isBalanced 43 = .ok (.checkcast 35, 3) := by decide +kernel
theorem dccX4_isBalanced_46 : decode cX4_isBalanced 46 = .ok (.getfield 34, 3) := by decide +kernel
theorem dccX4_isBalanced_49 : decode cX4_isBalanced 49 = .ok (.iadd, 1) := by decide +kernel
theorem dccX4_isBalanced_50 : decode cX4_isBalanced 50 = .ok (.istore_n 2, 1) := by decide +kernel
theorem dccX4_isBalanced_51 : decode cX4_isBalanced 51 = .ok (.iinc 3 1, 3) := by decide +kernel
theorem dccX4_isBalanced_54 : decode cX4_isBalanced 54 = .ok (.goto (-48), 3) := by decide +kernel
theorem dccX4_isBalanced_57 : decode cX4_isBalanced 57 = .ok (.iload_n 1, 1) := by decide +kernel
theorem dccX4_isBalanced_58 : decode cX4_isBalanced 58 = .ok (.iload_n 2, 1) := by decide +kernel
theorem dccX4_isBalanced_59 : decode cX4_isBalanced 59 = .ok (.aload_n 0, 1) := by decide +kernel
theorem dccX4_isBalanced_60 : decode cX4_isBalanced 60 = .ok (.getfield 16, 3) := by decide +kernel
theorem dccX4_isBalanced_63 : decode cX4_isBalanced 63 = .ok (.iadd, 1) := by decide +kernel
theorem dccX4_isBalanced_64 : decode cX4_isBalanced 64 = .ok (.aload_n 0, 1) := by decide +kernel
theorem dccX4_isBalanced_65 : decode cX4_isBalanced 65 = .ok (.getfield 20, 3) := by decide +kernel
theorem dccX4_isBalanced_68 : decode cX4_isBalanced 68 = .ok (.iadd, 1) := by decide +kernel
theorem dccX4_isBalanced_69 : decode cX4_isBalanced 69 = .ok (.if_icmp .ne 7, 3) := by decide +kernel
theorem dccX4_isBalanced_72 : decode cX4_isBalanced 72 = .ok (.iconst 1, 1) := by decide +kernel
theorem dccX4_isBalanced_73 : decode cX4_isBalanced 73 = .ok (.goto 4, 3) := by decide +kernel
theorem dccX4_isBalanced_76 : decode cX4_isBalanced 76 = .ok (.iconst 0, 1) := by decide +kernel
theorem dccX4_isBalanced_77 : decode cX4_isBalanced 77 = .ok (.ireturn, 1) := by decide +kernel
theorem dccX4_lastingAt_0 : decode cX4_lastingAt 0 = .ok (.iconst 0, 1) := by decide +kernel
theorem dccX4_lastingAt_1 : decode cX4_lastingAt 1 = .ok (.istore_n 2, 1) := by decide +kernel
theorem dccX4_lastingAt_2 : decode cX4_lastingAt 2 = .ok (.iconst 0, 1) := by decide +kernel
theorem dccX4_lastingAt_3 : decode cX4_lastingAt 3 = .ok (.istore_n 3, 1) := by decide +kernel
theorem dccX4_lastingAt_4 : decode cX4_lastingAt 4 = .ok (.iload_n 3, 1) := by decide +kernel
theorem dccX4_lastingAt_5 : decode cX4_lastingAt 5 = .ok (.aload_n 0, 1) := by decide +kernel
theorem dccX4_lastingAt_6 : decode cX4_lastingAt 6 = .ok (.getfield 10, 3) := by decide +kernel
theorem dccX4_lastingAt_9 : decode cX4_lastingAt 9 = .ok (.invokevirtual 26, 3) := by decide +kernel
theorem dccX4_lastingAt_12 : decode cX4_lastingAt 12 = .ok (.if_icmp .ge 39, 3) := by decide +kernel
theorem dccX4_lastingAt_15 : decode cX4_lastingAt 15 = .ok (.aload_n 0, 1) := by decide +kernel
theorem dccX4_lastingAt_16 : decode cX4_lastingAt 16 = .ok (.getfield 10, 3) := by decide +kernel
theorem dccX4_lastingAt_19 : decode cX4_lastingAt 19 = .ok (.iload_n 3, 1) := by decide +kernel
theorem dccX4_lastingAt_20 : decode cX4_lastingAt 20 = .ok (.invokevirtual 45, 3) := by decide +kernel
theorem dccX4_lastingAt_23 : decode cX4_lastingAt 23 = .ok (.checkcast 35, 3) := by decide +kernel
theorem dccX4_lastingAt_26 : decode cX4_lastingAt 26 = .ok (.astore 4, 2) := by decide +kernel
theorem dccX4_lastingAt_28 : decode cX4_lastingAt 28 = .ok (.aload 4, 2) := by decide +kernel
theorem dccX4_lastingAt_30 : decode cX4_lastingAt 30 = .ok (.getfield 49, 3) := by decide +kernel
theorem dccX4_lastingAt_33 : decode cX4_lastingAt 33 = .ok (.iload_n 1, 1) := by decide +kernel
theorem dccX4_lastingAt_34 : decode cX4_lastingAt 34 = .ok (.if_icmp .lt 11, 3) := by decide +kernel
theorem dccX4_lastingAt_37 : decode cX4_lastingAt 37 = .ok (.iload_n 2, 1) := by decide +kernel
theorem dccX4_lastingAt_38 : decode cX4_lastingAt 38 = .ok (.aload 4, 2) := by decide +kernel
theorem dccX4_lastingAt_40 : decode cX4_lastingAt 40 = .ok (.getfield 34, 3) := by decide +kernel
theorem dccX4_lastingAt_43 : decode cX4_lastingAt 43 = .ok (.iadd, 1) := by decide +kernel
theorem dccX4_lastingAt_44 : decode cX4_lastingAt 44 = .ok (.istore_n 2, 1) := by decide +kernel
theorem dccX4_lastingAt_45 : decode cX4_lastingAt 45 = .ok (.iinc 3 1, 3) := by decide +kernel
theorem dccX4_lastingAt_48 : decode cX4_lastingAt 48 = .ok (.goto (-44), 3) := by decide +kernel
theorem dccX4_lastingAt_51 : decode cX4_lastingAt 51 = .ok (.iload_n 2, 1) := by decide +kernel
theorem dccX4_lastingAt_52 : decode cX4_lastingAt 52 = .ok (.ireturn, 1) := by decide +kernel
theorem dccX4_nextToSpoil_0 : decode cX4_nextToSpoil 0 = .ok (.aconst_null, 1) := by decide +kernel
theorem dccX4_nextToSpoil_1 : decode cX4_nextToSpoil 1 = .ok (.astore_n 1, 1) := by decide +kernel
theorem dccX4_nextToSpoil_2 : decode cX4_nextToSpoil 2 = .ok (.iconst 0, 1) := by decide +kernel
theorem dccX4_nextToSpoil_3 : decode cX4_nextToSpoil 3 = .ok (.istore_n 2, 1) := by decide +kernel
theorem dccX4_nextToSpoil_4 : decode cX4_nextToSpoil 4 = .ok (.iload_n 2, 1) := by decide +kernel
theorem dccX4_nextToSpoil_5 : decode cX4_nextToSpoil 5 = .ok (.aload_n 0, 1) := by decide +kernel
theorem dccX4_nextToSpoil_6 : decode cX4_nextToSpoil 6 = .ok (.getfield 10, 3) := by decide +kernel
theorem dccX4_nextToSpoil_9 : decode cX4_nextToSpoil 9 = .ok (.invokevirtual 26, 3) := by decide +kernel
theorem dccX4_nextToSpoil_12 : decode cX4_nextToSpoil 12 = .ok (.if_icmp .ge 45, 3) := by decide +kernel
theorem dccX4_nextToSpoil_15 : decode cX4_nextToSpoil 15 = .ok (.aload_n 0, 1) := by decide +kernel
theorem dccX4_nextToSpoil_16 : decode cX4_nextToSpoil 16 = .ok (.getfield 10, 3) := by decide +kernel
theorem dccX4_nextToSpoil_19 : decode cX4_nextToSpoil 19 = .ok (.iload_n 2, 1) := by decide +kernel
theorem dccX4_nextToSpoil_20 : decode cX4_nextToSpoil 20 = .ok (.invokevirtual 45, 3) := by decide +kernel
theorem dccX4_nextToSpoil_23 : decode cX4_nextToSpoil 23 = .ok (.checkcast 35, 3) := by decide +kernel
theorem dccX4_nextToSpoil_26 : decode cX4_nextToSpoil 26 = .ok (.astore_n 3, 1) := by decide +kernel
theorem dccX4_nextToSpoil_27 : decode cX4_nextToSpoil 27 = .ok (.aload_n 3, 1) := by decide +kernel
theorem dccX4_nextToSpoil_28 : decode cX4_nextToSpoil 28 = .ok (.getfield 34, 3) := by decide +kernel
theorem dccX4_nextToSpoil_31 : decode cX4_nextToSpoil 31 = .ok (.ifCond .le 20, 3) := by decide +kernel
theorem dccX4_nextToSpoil_34 : decode cX4_nextToSpoil 34 = .ok (.aload_n 1, 1) := by decide +kernel
theorem dccX4_nextToSpoil_35 : decode cX4_nextToSpoil 35 = .ok (.ifnull 14, 3) := by decide +kernel
theorem dccX4_nextToSpoil_38 : decode cX4_nextToSpoil 38 = .ok (.aload_n 3, 1) := by decide +kernel
theorem dccX4_nextToSpoil_39 : decode cX4_nextToSpoil 39 = .ok (.getfield 49, 3) := by decide +kernel
theorem dccX4_nextToSpoil_42 : decode cX4_nextToSpoil 42 = .ok (.aload_n 1, 1) := by decide +kernel
theorem dccX4_nextToSpoil_43 : decode cX4_nextToSpoil 43 = .ok (.getfield 49, 3) := by decide +kernel
theorem dccX4_nextToSpoil_46 : decode cX4_nextToSpoil 46 = .ok (.if_icmp .ge 5, 3) := by decide +kernel
theorem dccX4_nextToSpoil_49 : decode cX4_nextToSpoil 49 = .ok (.aload_n 3, 1) := by decide +kernel
theorem dccX4_nextToSpoil_50 : decode cX4_nextToSpoil 50 = .ok (.astore_n 1, 1) := by decide +kernel
theorem dccX4_nextToSpoil_51 : decode cX4_nextToSpoil 51 = .ok (.iinc 2 1, 3) := by decide +kernel
theorem dccX4_nextToSpoil_54 : decode cX4_nextToSpoil 54 = .ok (.goto (-50), 3) := by decide +kernel
theorem dccX4_nextToSpoil_57 : decode cX4_nextToSpoil 57 = .ok (.aload_n 1, 1) := by decide +kernel
theorem dccX4_nextToSpoil_58 : decode cX4_nextToSpoil 58 = .ok (.areturn, 1) := by decide +kernel
theorem dccX4_spoilBefore_0 : decode cX4_spoilBefore 0 = .ok (.iconst 0, 1) := by decide +kernel
theorem dccX4_spoilBefore_1 : decode cX4_spoilBefore 1 = .ok (.istore_n 2, 1) := by decide +kernel
theorem dccX4_spoilBefore_2 : decode cX4_spoilBefore 2 = .ok (.iload_n 2, 1) := by decide +kernel
theorem dccX4_spoilBefore_3 : decode cX4_spoilBefore 3 = .ok (.aload_n 0, 1) := by decide +kernel
theorem dccX4_spoilBefore_4 : decode cX4_spoilBefore 4 = .ok (.getfield 10, 3) := by decide +kernel
theorem dccX4_spoilBefore_7 : decode cX4_spoilBefore 7 = .ok (.invokevirtual 26, 3) := by decide +kernel
theorem dccX4_spoilBefore_10 : decode cX4_spoilBefore 10 = .ok (.if_icmp .ge 47, 3) := by decide +kernel
theorem dccX4_spoilBefore_13 : decode cX4_spoilBefore 13 = .ok (.aload_n 0, 1) := by decide +kernel
theorem dccX4_spoilBefore_14 : decode cX4_spoilBefore 14 = .ok (.getfield 10, 3) := by decide +kernel
theorem dccX4_spoilBefore_17 : decode cX4_spoilBefore 17 = .ok (.iload_n 2, 1) := by decide +kernel
theorem dccX4_spoilBefore_18 : decode cX4_spoilBefore 18 = .ok (.invokevirtual 45, 3) := by decide +kernel
theorem dccX4_spoilBefore_21 : decode cX4_spoilBefore 21 = .ok (.checkcast 35, 3) := by decide +kernel
theorem dccX4_spoilBefore_24 : decode cX4_spoilBefore 24 = .ok (.astore_n 3, 1) := by decide +kernel
theorem dccX4_spoilBefore_25 : decode cX4_spoilBefore 25 = .ok (.aload_n 3, 1) := by decide +kernel
theorem dccX4_spoilBefore_26 : decode cX4_spoilBefore 26 = .ok (.getfield 49, 3) := by decide +kernel
theorem dccX4_spoilBefore_29 : decode cX4_spoilBefore 29 = .ok (.iload_n 1, 1) := by decide +kernel
theorem dccX4_spoilBefore_30 : decode cX4_spoilBefore 30 = .ok (.if_icmp .ge 21, 3) := by decide +kernel
theorem dccX4_spoilBefore_33 : decode cX4_spoilBefore 33 = .ok (.aload_n 0, 1) := by decide +kernel
theorem dccX4_spoilBefore_34 : decode cX4_spoilBefore 34 = .ok (.dup, 1) := by decide +kernel
theorem dccX4_spoilBefore_35 : decode cX4_spoilBefore 35 = .ok (.getfield 20, 3) := by decide +kernel
theorem dccX4_spoilBefore_38 : decode cX4_spoilBefore 38 = .ok (.aload_n 3, 1) := by decide +kernel
theorem dccX4_spoilBefore_39 : decode cX4_spoilBefore 39 = .ok (.getfield 34, 3) := by decide +kernel
theorem dccX4_spoilBefore_42 : decode cX4_spoilBefore 42 = .ok (.iadd, 1) := by decide +kernel
theorem dccX4_spoilBefore_43 : decode cX4_spoilBefore 43 = .ok (.putfield 20, 3) := by decide +kernel
theorem dccX4_spoilBefore_46 : decode cX4_spoilBefore 46 = .ok (.aload_n 3, 1) := by decide +kernel
theorem dccX4_spoilBefore_47 : decode cX4_spoilBefore 47 = .ok (.iconst 0, 1) := by decide +kernel
theorem dccX4_spoilBefore_48 : decode cX4_spoilBefore 48 = .ok (.putfield 34, 3) := by decide +kernel
theorem dccX4_spoilBefore_51 : decode cX4_spoilBefore 51 = .ok (.iinc 2 1, 3) := by decide +kernel
theorem dccX4_spoilBefore_54 : decode cX4_spoilBefore 54 = .ok (.goto (-52), 3) := by decide +kernel
theorem dccX4_spoilBefore_57 : decode cX4_spoilBefore 57 = .ok (.return_, 1) := by decide +kernel
theorem dccX5_init_0 : decode cX5_init 0 = .ok (.aload_n 0, 1) := by decide +kernel
theorem dccX5_init_1 : decode cX5_init 1 = .ok (.invokespecial 1, 3) := by decide +kernel
theorem dccX5_init_4 : decode cX5_init 4 = .ok (.aload_n 0, 1) := by decide +kernel
theorem dccX5_init_5 : decode cX5_init 5 = .ok (.iconst 0, 1) := by decide +kernel
theorem dccX5_init_6 : decode cX5_init 6 = .ok (.putfield 7, 3) := by decide +kernel
theorem dccX5_init_9 : decode cX5_init 9 = .ok (.aload_n 0, 1) := by decide +kernel
theorem dccX5_init_10 : decode cX5_init 10 = .ok (.iconst 0, 1) := by decide +kernel
theorem dccX5_init_11 : decode cX5_init 11 = .ok (.putfield 13, 3) := by decide +kernel
theorem dccX5_init_14 : decode cX5_init 14 = .ok (.aload_n 0, 1) := by decide +kernel
theorem dccX5_init_15 : decode cX5_init 15 = .ok (.iload_n 1, 1) := by decide +kernel
theorem dccX5_init_16 : decode cX5_init 16 = .ok (.putfield 17, 3) := by decide +kernel
theorem dccX5_init_19 : decode cX5_init 19 = .ok (.return_, 1) := by decide +kernel
theorem dccX6_init_0 : decode cX6_init 0 = .ok (.aload_n 0, 1) := by decide +kernel
theorem dccX6_init_1 : decode cX6_init 1 = .ok (.invokespecial 1, 3) := by decide +kernel
theorem dccX6_init_4 : decode cX6_init 4 = .ok (.aload_n 0, 1) := by decide +kernel
theorem dccX6_init_5 : decode cX6_init 5 = .ok (.iload_n 1, 1) := by decide +kernel
theorem dccX6_init_6 : decode cX6_init 6 = .ok (.putfield 7, 3) := by decide +kernel
theorem dccX6_init_9 : decode cX6_init 9 = .ok (.aload_n 0, 1) := by decide +kernel
theorem dccX6_init_10 : decode cX6_init 10 = .ok (.iload_n 2, 1) := by decide +kernel
theorem dccX6_init_11 : decode cX6_init 11 = .ok (.putfield 13, 3) := by decide +kernel
theorem dccX6_init_14 : decode cX6_init 14 = .ok (.aload_n 0, 1) := by decide +kernel
theorem dccX6_init_15 : decode cX6_init 15 = .ok (.iload_n 1, 1) := by decide +kernel
theorem dccX6_init_16 : decode cX6_init 16 = .ok (.putfield 16, 3) := by decide +kernel
theorem dccX6_init_19 : decode cX6_init 19 = .ok (.return_, 1) := by decide +kernel
theorem dccX7_clear_0 : decode cX7_clear 0 = .ok (.iconst 0, 1) := by decide +kernel
theorem dccX7_clear_1 : decode cX7_clear 1 = .ok (.istore_n 1, 1) := by decide +kernel
theorem dccX7_clear_2 : decode cX7_clear 2 = .ok (.iload_n 1, 1) := by decide +kernel
theorem dccX7_clear_3 : decode cX7_clear 3 = .ok (.aload_n 0, 1) := by decide +kernel
theorem dccX7_clear_4 : decode cX7_clear 4 = .ok (.getfield 11, 3) := by decide +kernel
theorem dccX7_clear_7 : decode cX7_clear 7 = .ok (.arraylength, 1) := by decide +kernel
theorem dccX7_clear_8 : decode cX7_clear 8 = .ok (.if_icmp .ge 16, 3) := by decide +kernel
theorem dccX7_clear_11 : decode cX7_clear 11 = .ok (.aload_n 0, 1) := by decide +kernel
theorem dccX7_clear_12 : decode cX7_clear 12 = .ok (.getfield 11, 3) := by decide +kernel
theorem dccX7_clear_15 : decode cX7_clear 15 = .ok (.iload_n 1, 1) := by decide +kernel
theorem dccX7_clear_16 : decode cX7_clear 16 = .ok (.aconst_null, 1) := by decide +kernel
theorem dccX7_clear_17 : decode cX7_clear 17 = .ok (.aastore, 1) := by decide +kernel
theorem dccX7_clear_18 : decode cX7_clear 18 = .ok (.iinc 1 1, 3) := by decide +kernel
theorem dccX7_clear_21 : decode cX7_clear 21 = .ok (.goto (-19), 3) := by decide +kernel
theorem dccX7_clear_24 : decode cX7_clear 24 = .ok (.return_, 1) := by decide +kernel
theorem dccX7_couldOust_0 : decode cX7_couldOust 0 = .ok (.aload_n 1, 1) := by decide +kernel
theorem dccX7_couldOust_1 : decode cX7_couldOust 1 = .ok (.aload_n 0, 1) := by decide +kernel
theorem dccX7_couldOust_2 : decode cX7_couldOust 2 = .ok (.aload_n 2, 1) := by decide +kernel
theorem dccX7_couldOust_3 : decode cX7_couldOust 3 = .ok (.invokevirtual 63, 3) := by decide +kernel
theorem dccX7_couldOust_6 : decode cX7_couldOust 6 = .ok (.aload_n 0, 1) := by decide +kernel
theorem dccX7_couldOust_7 : decode cX7_couldOust 7 = .ok (.aload_n 1, 1) := by decide +kernel
theorem dccX7_couldOust_8 : decode cX7_couldOust 8 = .ok (.invokevirtual 63, 3) := by decide +kernel
theorem dccX7_couldOust_11 : decode cX7_couldOust 11 = .ok (.invokevirtual 78, 3) := by decide +kernel
theorem dccX7_couldOust_14 : decode cX7_couldOust 14 = .ok (.ifCond .eq 15, 3) := by decide +kernel
theorem dccX7_couldOust_17 : decode cX7_couldOust 17 = .ok (.aload_n 1, 1) := by decide +kernel
theorem dccX7_couldOust_18 : decode cX7_couldOust 18 = .ok (.aload_n 2, 1) := by decide +kernel
theorem dccX7_couldOust_19 : decode cX7_couldOust 19 = .ok (.invokevirtual 67, 3) := by decide +kernel
theorem dccX7_couldOust_22 : decode cX7_couldOust 22 = .ok (.ifCond .eq 7, 3) := by decide +kernel
theorem dccX7_couldOust_25 : decode cX7_couldOust 25 = .ok (.iconst 1, 1) := by decide +kernel
theorem dccX7_couldOust_26 : decode cX7_couldOust 26 = .ok (.goto 4, 3) := by decide +kernel
theorem dccX7_couldOust_29 : decode cX7_couldOust 29 = .ok (.iconst 0, 1) := by decide +kernel
theorem dccX7_couldOust_30 : decode cX7_couldOust 30 = .ok (.ireturn, 1) := by decide +kernel
theorem dccX7_guestsOf_0 : decode cX7_guestsOf 0 = .ok (.iconst 0, 1) := by decide +kernel
theorem dccX7_guestsOf_1 : decode cX7_guestsOf 1 = .ok (.istore_n 2, 1) := by decide +kernel
theorem dccX7_guestsOf_2 : decode cX7_guestsOf 2 = .ok (.iconst 0, 1) := by decide +kernel
theorem dccX7_guestsOf_3 : decode cX7_guestsOf 3 = .ok (.istore_n 3, 1) := by decide +kernel
theorem dccX7_guestsOf_4 : decode cX7_guestsOf 4 = .ok (.iload_n 3, 1) := by decide +kernel
theorem dccX7_guestsOf_5 : decode cX7_guestsOf 5 = .ok (.aload_n 0, 1) := by decide +kernel
theorem dccX7_guestsOf_6 : decode cX7_guestsOf 6 = .ok (.getfield 11, 3) := by decide +kernel
theorem dccX7_guestsOf_9 : decode cX7_guestsOf 9 = .ok (.arraylength, 1) := by decide +kernel
theorem dccX7_guestsOf_10 : decode cX7_guestsOf 10 = .ok (.if_icmp .ge 25, 3) := by decide +kernel
theorem dccX7_guestsOf_13 : decode cX7_guestsOf 13 = .ok (.aload_n 0, 1) := by decide +kernel
theorem dccX7_guestsOf_14 : decode cX7_guestsOf 14 = .ok (.getfield 11, 3) := by decide +kernel
theorem dccX7_guestsOf_17 : decode cX7_guestsOf 17 = .ok (.iload_n 3, 1) := by decide +kernel
theorem dccX7_guestsOf_18 : decode cX7_guestsOf 18 = .ok (.aaload, 1) := by decide +kernel
theorem dccX7_guestsOf_19 : decode cX7_guestsOf 19 = .ok (.aload_n 1, 1) := by decide +kernel
theorem dccX7_guestsOf_20 : decode cX7_guestsOf 20 = .ok (.if_acmp .ne 9, 3) := by decide +kernel
theorem dccX7_guestsOf_23 : decode cX7_guestsOf 23 = .ok (.iload_n 2, 1) := by decide +kernel
theorem dccX7_guestsOf_24 : decode cX7_guestsOf 24 = .ok (.iconst 1, 1) := by decide +kernel
theorem dccX7_guestsOf_25 : decode cX7_guestsOf 25 = .ok (.iload_n 3, 1) := by decide +kernel
theorem dccX7_guestsOf_26 : decode cX7_guestsOf 26 = .ok (.ishl, 1) := by decide +kernel
theorem dccX7_guestsOf_27 : decode cX7_guestsOf 27 = .ok (.ior, 1) := by decide +kernel
theorem dccX7_guestsOf_28 : decode cX7_guestsOf 28 = .ok (.istore_n 2, 1) := by decide +kernel
theorem dccX7_guestsOf_29 : decode cX7_guestsOf 29 = .ok (.iinc 3 1, 3) := by decide +kernel
theorem dccX7_guestsOf_32 : decode cX7_guestsOf 32 = .ok (.goto (-28), 3) := by decide +kernel
theorem dccX7_guestsOf_35 : decode cX7_guestsOf 35 = .ok (.iload_n 2, 1) := by decide +kernel
theorem dccX7_guestsOf_36 : decode cX7_guestsOf 36 = .ok (.ireturn, 1) := by decide +kernel
theorem dccX7_hallOf_0 : decode cX7_hallOf 0 = .ok (.aload_n 1, 1) := by decide +kernel
theorem dccX7_hallOf_1 : decode cX7_hallOf 1 = .ok (.getfield 24, 3) := by decide +kernel
theorem dccX7_hallOf_4 : decode cX7_hallOf 4 = .ok (.ifCond .lt 27, 3) := by decide +kernel
theorem dccX7_hallOf_7 : decode cX7_hallOf 7 = .ok (.aload_n 1, 1) := by decide +kernel
theorem dccX7_hallOf_8 : decode cX7_hallOf 8 = .ok (.getfield 24, 3) := by decide +kernel
theorem dccX7_hallOf_11 : decode cX7_hallOf 11 = .ok (.aload_n 0, 1) := by decide +kernel
theorem dccX7_hallOf_12 : decode cX7_hallOf 12 = .ok (.getfield 11, 3) := by decide +kernel
theorem dccX7_hallOf_15 : decode cX7_hallOf 15 = .ok (.arraylength, 1) := by decide +kernel
theorem dccX7_hallOf_16 : decode cX7_hallOf 16 = .ok (.if_icmp .ge 15, 3) := by decide +kernel
theorem dccX7_hallOf_19 : decode cX7_hallOf 19 = .ok (.aload_n 0, 1) := by decide +kernel
theorem dccX7_hallOf_20 : decode cX7_hallOf 20 = .ok (.getfield 11, 3) := by decide +kernel
theorem dccX7_hallOf_23 : decode cX7_hallOf 23 = .ok (.aload_n 1, 1) := by decide +kernel
theorem dccX7_hallOf_24 : decode cX7_hallOf 24 = .ok (.getfield 24, 3) := by decide +kernel
theorem dccX7_hallOf_27 : decode cX7_hallOf 27 = .ok (.aaload, 1) := by decide +kernel
theorem dccX7_hallOf_28 : decode cX7_hallOf 28 = .ok (.goto 4, 3) := by decide +kernel
theorem dccX7_hallOf_31 : decode cX7_hallOf 31 = .ok (.aconst_null, 1) := by decide +kernel
theorem dccX7_hallOf_32 : decode cX7_hallOf 32 = .ok (.areturn, 1) := by decide +kernel
theorem dccX7_hasEnvyUpTo_0 : decode cX7_hasEnvyUpTo 0 = .ok (.iload_n 1, 1) := by decide +kernel
theorem dccX7_hasEnvyUpTo_1 : decode cX7_hasEnvyUpTo 1 = .ok (.ifCond .lt 14, 3) := by decide +kernel
theorem dccX7_hasEnvyUpTo_4 : decode cX7_hasEnvyUpTo 4 = .ok (.iload_n 1, 1) := by decide +kernel
theorem dccX7_hasEnvyUpTo_5 : decode cX7_hasEnvyUpTo 5 = .ok (.aload_n 0, 1) := by decide +kernel
theorem dccX7_hasEnvyUpTo_6 : decode cX7_hasEnvyUpTo 6 = .ok (.getfield 17, 3) := by decide +kernel
theorem dccX7_hasEnvyUpTo_9 : decode cX7_hasEnvyUpTo 9 = .ok (.invokevirtual 33, 3) := by decide +kernel
theorem dccX7_hasEnvyUpTo_12 : decode cX7_hasEnvyUpTo 12 = .ok (.if_icmp .lt 5, 3) := by decide +kernel
theorem dccX7_hasEnvyUpTo_15 : decode cX7_hasEnvyUpTo 15 = .ok (.iconst 0, 1) := by decide +kernel
theorem dccX7_hasEnvyUpTo_16 : decode cX7_hasEnvyUpTo 16 = .ok (.ireturn, 1) := by decide +kernel
theorem dccX7_hasEnvyUpTo_17 : decode cX7_hasEnvyUpTo 17 = .ok (.aload_n 0, 1) := by decide +kernel
theorem dccX7_hasEnvyUpTo_18 : decode cX7_hasEnvyUpTo 18 = .ok (.getfield 17, 3) := by decide +kernel
theorem dccX7_hasEnvyUpTo_21 : decode cX7_hasEnvyUpTo 21 = .ok (.iload_n 1, 1) := by decide +kernel
theorem dccX7_hasEnvyUpTo_22 : decode cX7_hasEnvyUpTo 22 = .ok (.invokevirtual 39, 3) := by decide +kernel
theorem dccX7_hasEnvyUpTo_25 : decode cX7_hasEnvyUpTo 25 = .ok (.checkcast 25, 3) := by decide +kernel
theorem dccX7_hasEnvyUpTo_28 : decode cX7_hasEnvyUpTo 28 = .ok (.astore_n 2, 1) := by decide +kernel
theorem dccX7_hasEnvyUpTo_29 : decode cX7_hasEnvyUpTo 29 = .ok (.iconst 0, 1) := by decide +kernel
theorem dccX7_hasEnvyUpTo_30 : decode cX7_hasEnvyUpTo 30 = .ok (.istore_n 3, 1) := by decide +kernel
theorem dccX7_hasEnvyUpTo_31 : decode cX7_hasEnvyUpTo 31 = .ok (.iload_n 3, 1) := by decide +kernel
theorem dccX7_hasEnvyUpTo_32 : decode cX7_hasEnvyUpTo 32 = .ok (.iload_n 1, 1) := by decide +kernel
theorem dccX7_hasEnvyUpTo_33 : decode cX7_hasEnvyUpTo 33 = .ok (.if_icmp .ge 53, 3) := by decide +kernel
theorem dccX7_hasEnvyUpTo_36 : decode cX7_hasEnvyUpTo 36 = .ok (.aload_n 0, 1) := by decide +kernel
theorem dccX7_hasEnvyUpTo_37 : decode cX7_hasEnvyUpTo 37 = .ok (.getfield 17, 3) := by decide +kernel
theorem dccX7_hasEnvyUpTo_40 : decode cX7_hasEnvyUpTo 40 = .ok (.iload_n 3, 1) := by decide +kernel
theorem dccX7_hasEnvyUpTo_41 : decode cX7_hasEnvyUpTo 41 = .ok (.invokevirtual 39, 3) := by decide +kernel
theorem dccX7_hasEnvyUpTo_44 : decode cX7_hasEnvyUpTo 44 = .ok (.checkcast 25, 3) := by decide +kernel
theorem dccX7_hasEnvyUpTo_47 : decode cX7_hasEnvyUpTo 47 = .ok (.astore 4, 2) := by decide +kernel
theorem dccX7_hasEnvyUpTo_49 : decode cX7_hasEnvyUpTo 49 = .ok (.aload 4, 2) := by decide +kernel
theorem dccX7_hasEnvyUpTo_51 : decode cX7_hasEnvyUpTo 51 = .ok (.getfield 43, 3) := by decide +kernel
theorem dccX7_hasEnvyUpTo_54 : decode cX7_hasEnvyUpTo 54 = .ok (.iconst 1, 1) := by decide +kernel
theorem dccX7_hasEnvyUpTo_55 : decode cX7_hasEnvyUpTo 55 = .ok (.if_icmp .ne 25, 3) := by decide +kernel
theorem dccX7_hasEnvyUpTo_58 : decode cX7_hasEnvyUpTo 58 = .ok (.aload_n 0, 1) := by decide +kernel
theorem dccX7_hasEnvyUpTo_59 : decode cX7_hasEnvyUpTo 59 = .ok (.aload_n 2, 1) := by decide +kernel
theorem dccX7_hasEnvyUpTo_60 : decode cX7_hasEnvyUpTo 60 = .ok (.aload 4, 2) := by decide +kernel
theorem dccX7_hasEnvyUpTo_62 : decode cX7_hasEnvyUpTo 62 = .ok (.invokevirtual 86, 3) := by decide +kernel
theorem dccX7_hasEnvyUpTo_65 : decode cX7_hasEnvyUpTo 65 = .ok (.ifCond .ne 13, 3) := by decide +kernel
theorem dccX7_hasEnvyUpTo_68 : decode cX7_hasEnvyUpTo 68 = .ok (.aload_n 0, 1) := by decide +kernel
theorem dccX7_hasEnvyUpTo_69 : decode cX7_hasEnvyUpTo 69 = .ok (.aload 4, 2) := by decide +kernel
theorem dccX7_hasEnvyUpTo_71 : decode cX7_hasEnvyUpTo 71 = .ok (.aload_n 2, 1) := by decide +kernel
theorem dccX7_hasEnvyUpTo_72 : decode cX7_hasEnvyUpTo 72 = .ok (.invokevirtual 86, 3) := by decide +kernel
theorem dccX7_hasEnvyUpTo_75 : decode cX7_hasEnvyUpTo 75 = .ok (.ifCond .eq 5, 3) := by decide +kernel
theorem dccX7_hasEnvyUpTo_78 : decode cX7_hasEnvyUpTo 78 = .ok (.iconst 1, 1) := by decide +kernel
theorem dccX7_hasEnvyUpTo_79 : decode cX7_hasEnvyUpTo 79 = .ok (.ireturn, 1) := by decide +kernel
theorem dccX7_hasEnvyUpTo_80 : decode cX7_hasEnvyUpTo 80 = .ok (.iinc 3 1, 3) := by decide +kernel
theorem dccX7_hasEnvyUpTo_83 : decode cX7_hasEnvyUpTo 83 = .ok (.goto (-52), 3) := by decide +kernel
theorem dccX7_hasEnvyUpTo_86 : decode cX7_hasEnvyUpTo 86 = .ok (.iconst 0, 1) := by decide +kernel
theorem dccX7_hasEnvyUpTo_87 : decode cX7_hasEnvyUpTo 87 = .ok (.ireturn, 1) := by decide +kernel
theorem dccX7_hasRoom_0 : decode cX7_hasRoom 0 = .ok (.aload_n 0, 1) := by decide +kernel
theorem dccX7_hasRoom_1 : decode cX7_hasRoom 1 = .ok (.aload_n 1, 1) := by decide +kernel
theorem dccX7_hasRoom_2 : decode cX7_hasRoom 2 = .ok (.invokevirtual 50, 3) := by decide +kernel
theorem dccX7_hasRoom_5 : decode cX7_hasRoom 5 = .ok (.invokestatic 54, 3) := by decide +kernel
theorem dccX7_hasRoom_8 : decode cX7_hasRoom 8 = .ok (.aload_n 1, 1) := by decide +kernel
theorem dccX7_hasRoom_9 : decode cX7_hasRoom 9 = .ok (.getfield 60, 3) := by decide +kernel
theorem dccX7_hasRoom_12 : decode cX7_hasRoom 12 = .ok (.if_icmp .ge 7, 3) := by decide +kernel
theorem dccX7_hasRoom_15 : decode cX7_hasRoom 15 = .ok (.iconst 1, 1) := by decide +kernel
theorem dccX7_hasRoom_16 : decode cX7_hasRoom 16 = .ok (.goto 4, 3) := by decide +kernel
theorem dccX7_hasRoom_19 : decode cX7_hasRoom 19 = .ok (.iconst 0, 1) := by decide +kernel
theorem dccX7_hasRoom_20 : decode cX7_hasRoom 20 = .ok (.ireturn, 1) := by decide +kernel
theorem dccX7_init_0 : decode cX7_init 0 = .ok (.aload_n 0, 1) := by decide +kernel
theorem dccX7_init_1 : decode cX7_init 1 = .ok (.invokespecial 3, 3) := by decide +kernel
theorem dccX7_init_4 : decode cX7_init 4 = .ok (.aload_n 0, 1) := by decide +kernel
theorem dccX7_init_5 : decode cX7_init 5 = .ok (.bipush 6, 2) := by decide +kernel
theorem dccX7_init_7 : decode cX7_init 7 = .ok (.anewarray 9, 3) := by decide +kernel
theorem dccX7_init_10 : decode cX7_init 10 = .ok (.putfield 11, 3) := by decide +kernel
theorem dccX7_init_13 : decode cX7_init 13 = .ok (.aload_n 0, 1) := by decide +kernel
theorem dccX7_init_14 : decode cX7_init 14 = .ok (.aload_n 1, 1) := by decide +kernel
theorem dccX7_init_15 : decode cX7_init 15 = .ok (.putfield 17, 3) := by decide +kernel
theorem dccX7_init_18 : decode cX7_init 18 = .ok (.aload_n 0, 1) := by decide +kernel
theorem dccX7_init_19 : decode cX7_init 19 = .ok (.aload_n 2, 1) := by decide +kernel
theorem dccX7_init_20 : decode cX7_init 20 = .ok (.putfield 21, 3) := by decide +kernel
theorem dccX7_init_23 : decode cX7_init 23 = .ok (.return_, 1) := by decide +kernel
theorem dccX7_isBeaten_0 : decode cX7_isBeaten 0 = .ok (.iload_n 2, 1) := by decide +kernel
theorem dccX7_isBeaten_1 : decode cX7_isBeaten 1 = .ok (.ifCond .lt 14, 3) := by decide +kernel
theorem dccX7_isBeaten_4 : decode cX7_isBeaten 4 = .ok (.iload_n 2, 1) := by decide +kernel
theorem dccX7_isBeaten_5 : decode cX7_isBeaten 5 = .ok (.aload_n 1, 1) := by decide +kernel
theorem dccX7_isBeaten_6 : decode cX7_isBeaten 6 = .ok (.getfield 17, 3) := by decide +kernel
theorem dccX7_isBeaten_9 : decode cX7_isBeaten 9 = .ok (.invokevirtual 33, 3) := by decide +kernel
theorem dccX7_isBeaten_12 : decode cX7_isBeaten 12 = .ok (.if_icmp .lt 24, 3) := by decide +kernel
theorem dccX7_isBeaten_15 : decode cX7_isBeaten 15 = .ok (.aload_n 1, 1) := by decide +kernel
theorem dccX7_isBeaten_16 : decode cX7_isBeaten 16 = .ok (.aload_n 0, 1) := by decide +kernel
theorem dccX7_isBeaten_17 : decode cX7_isBeaten 17 = .ok (.invokevirtual 90, 3) := by decide +kernel
theorem dccX7_isBeaten_20 : decode cX7_isBeaten 20 = .ok (.ifCond .eq 14, 3) := by decide +kernel
theorem dccX7_isBeaten_23 : decode cX7_isBeaten 23 = .ok (.aload_n 1, 1) := by decide +kernel
theorem dccX7_isBeaten_24 : decode cX7_isBeaten 24 = .ok (.invokevirtual 94, 3) := by decide +kernel
theorem dccX7_isBeaten_27 : decode cX7_isBeaten 27 = .ok (.ifCond .ne 7, 3) := by decide +kernel
theorem dccX7_isBeaten_30 : decode cX7_isBeaten 30 = .ok (.iconst 1, 1) := by decide +kernel
theorem dccX7_isBeaten_31 : decode cX7_isBeaten 31 = .ok (.goto 4, 3) := by decide +kernel
theorem dccX7_isBeaten_34 : decode cX7_isBeaten 34 = .ok (.iconst 0, 1) := by decide +kernel
theorem dccX7_isBeaten_35 : decode cX7_isBeaten 35 = .ok (.ireturn, 1) := by decide +kernel
theorem dccX7_isBeaten_36 : decode cX7_isBeaten 36 = .ok (.aload_n 1, 1) := by decide +kernel
theorem dccX7_isBeaten_37 : decode cX7_isBeaten 37 = .ok (.getfield 17, 3) := by decide +kernel
theorem dccX7_isBeaten_40 : decode cX7_isBeaten 40 = .ok (.iload_n 2, 1) := by decide +kernel
theorem dccX7_isBeaten_41 : decode cX7_isBeaten 41 = .ok (.invokevirtual 39, 3) := by decide +kernel
theorem dccX7_isBeaten_44 : decode cX7_isBeaten 44 = .ok (.checkcast 25, 3) := by decide +kernel
theorem dccX7_isBeaten_47 : decode cX7_isBeaten 47 = .ok (.astore_n 3, 1) := by decide +kernel
theorem dccX7_isBeaten_48 : decode cX7_isBeaten 48 = .ok (.aload_n 3, 1) := by decide +kernel
theorem dccX7_isBeaten_49 : decode cX7_isBeaten 49 = .ok (.getfield 43, 3) := by decide +kernel
theorem dccX7_isBeaten_52 : decode cX7_isBeaten 52 = .ok (.iconst 1, 1) := by decide +kernel
theorem dccX7_isBeaten_53 : decode cX7_isBeaten 53 = .ok (.if_icmp .eq 12, 3) := by decide +kernel
theorem dccX7_isBeaten_56 : decode cX7_isBeaten 56 = .ok (.aload_n 0, 1) := by decide +kernel
theorem dccX7_isBeaten_57 : decode cX7_isBeaten 57 = .ok (.aload_n 1, 1) := by decide +kernel
theorem dccX7_isBeaten_58 : decode cX7_isBeaten 58 = .ok (.iload_n 2, 1) := by decide +kernel
theorem dccX7_isBeaten_59 : decode cX7_isBeaten 59 = .ok (.iconst 1, 1) := by decide +kernel
theorem dccX7_isBeaten_60 : decode cX7_isBeaten 60 = .ok (.iadd, 1) := by decide +kernel
theorem dccX7_isBeaten_61 : decode cX7_isBeaten 61 = .ok (.invokestatic 98, 3) := by decide +kernel
theorem dccX7_isBeaten_64 : decode cX7_isBeaten 64 = .ok (.ireturn, 1) := by decide +kernel
theorem dccX7_isBeaten_65 : decode cX7_isBeaten 65 = .ok (.iconst (-1), 1) := by decide +kernel
theorem dccX7_isBeaten_66 : decode cX7_isBeaten 66 = .ok (.istore 4, 2) := by decide +kernel
theorem dccX7_isBeaten_68 : decode cX7_isBeaten 68 = .ok (.iload 4, 2) := by decide +kernel
theorem dccX7_isBeaten_70 : decode cX7_isBeaten 70 = .ok (.aload_n 1, 1) := by decide +kernel
theorem dccX7_isBeaten_71 : decode cX7_isBeaten 71 = .ok (.getfield 21, 3) := by decide +kernel
theorem dccX7_isBeaten_74 : decode cX7_isBeaten 74 = .ok (.invokevirtual 33, 3) := by decide +kernel
theorem dccX7_isBeaten_77 : decode cX7_isBeaten 77 = .ok (.if_icmp .ge 80, 3) := by decide +kernel
theorem dccX7_isBeaten_80 : decode cX7_isBeaten 80 = .ok (.iload 4, 2) := by decide +kernel
theorem dccX7_isBeaten_82 : decode cX7_isBeaten 82 = .ok (.ifCond .ge 7, 3) := by decide +kernel
theorem dccX7_isBeaten_85 : decode cX7_isBeaten 85 = .ok (.aconst_null, 1) := by decide +kernel
theorem dccX7_isBeaten_86 : decode cX7_isBeaten 86 = .ok (.goto 15, 3) := by decide +kernel
theorem dccX7_isBeaten_89 : decode cX7_isBeaten 89 = .ok (.aload_n 1, 1) := by decide +kernel
theorem dccX7_isBeaten_90 : decode cX7_isBeaten 90 = .ok (.getfield 21, 3) := by decide +kernel
theorem dccX7_isBeaten_93 : decode cX7_isBeaten 93 = .ok (.iload 4, 2) := by decide +kernel
theorem dccX7_isBeaten_95 : decode cX7_isBeaten 95 = .ok (.invokevirtual 39, 3) := by decide +kernel
theorem dccX7_isBeaten_98 : decode cX7_isBeaten 98 = .ok (.checkcast 9, 3) := by decide +kernel
theorem dccX7_isBeaten_101 : decode cX7_isBeaten 101 = .ok (.astore 5, 2) := by decide +kernel
theorem dccX7_isBeaten_103 : decode cX7_isBeaten 103 = .ok (.aload 5, 2) := by decide +kernel
theorem dccX7_isBeaten_105 : decode cX7_isBeaten 105 = .ok (.ifnull 12, 3) := by decide +kernel
theorem dccX7_isBeaten_108 : decode cX7_isBeaten 108 = .ok (.aload_n 1, 1) := by decide +kernel
theorem dccX7_isBeaten_109 : decode cX7_isBeaten 109 = .ok (.aload 5, 2) := by decide +kernel
theorem dccX7_isBeaten_111 : decode cX7_isBeaten 111 = .ok (.invokevirtual 82, 3) := by decide +kernel
theorem dccX7_isBeaten_114 : decode cX7_isBeaten 114 = .ok (.ifCond .eq 37, 3) := by decide +kernel
theorem dccX7_isBeaten_117 : decode cX7_isBeaten 117 = .ok (.aload_n 1, 1) := by decide +kernel
theorem dccX7_isBeaten_118 : decode cX7_isBeaten 118 = .ok (.aload_n 3, 1) := by decide +kernel
theorem dccX7_isBeaten_119 : decode cX7_isBeaten 119 = .ok (.aload 5, 2) := by decide +kernel
theorem dccX7_isBeaten_121 : decode cX7_isBeaten 121 = .ok (.invokevirtual 46, 3) := by decide +kernel
theorem dccX7_isBeaten_124 : decode cX7_isBeaten 124 = .ok (.aload_n 1, 1) := by decide +kernel
theorem dccX7_isBeaten_125 : decode cX7_isBeaten 125 = .ok (.iload_n 2, 1) := by decide +kernel
theorem dccX7_isBeaten_126 : decode cX7_isBeaten 126 = .ok (.invokevirtual 71, 3) := by decide +kernel
theorem dccX7_isBeaten_129 : decode cX7_isBeaten 129 = .ok (.ifCond .ne 16, 3) := by decide +kernel
theorem dccX7_isBeaten_132 : decode cX7_isBeaten 132 = .ok (.aload_n 0, 1) := by decide +kernel
theorem dccX7_isBeaten_133 : decode cX7_isBeaten 133 = .ok (.aload_n 1, 1) := by decide +kernel
theorem dccX7_isBeaten_134 : decode cX7_isBeaten 134 = .ok (.iload_n 2, 1) := by decide +kernel
theorem dccX7_isBeaten_135 : decode cX7_isBeaten 135 = .ok (.iconst 1, 1) := by decide +kernel
theorem dccX7_isBeaten_136 : decode cX7_isBeaten 136 = .ok (.iadd, 1) := by decide +kernel
theorem dccX7_isBeaten_137 : decode cX7_isBeaten 137 = .ok (.invokestatic 98, 3) := by decide +kernel
theorem dccX7_isBeaten_140 : decode cX7_isBeaten 140 = .ok (.ifCond .eq 5, 3) := by decide +kernel
theorem dccX7_isBeaten_143 : decode cX7_isBeaten 143 = .ok (.iconst 1, 1) := by decide +kernel
theorem dccX7_isBeaten_144 : decode cX7_isBeaten 144 = .ok (.ireturn, 1) := by decide +kernel
theorem dccX7_isBeaten_145 : decode cX7_isBeaten 145 = .ok (.aload_n 1, 1) := by decide +kernel
theorem dccX7_isBeaten_146 : decode cX7_isBeaten 146 = .ok (.aload_n 3, 1) := by decide +kernel
theorem dccX7_isBeaten_147 : decode cX7_isBeaten 147 = .ok (.aconst_null, 1) := by decide +kernel
theorem dccX7_isBeaten_148 : decode cX7_isBeaten 148 = .ok (.invokevirtual 46, 3) := by decide +kernel
theorem dccX7_isBeaten_151 : decode cX7_isBeaten 151 = .ok (.iinc 4 1, 3) := by decide +kernel
theorem dccX7_isBeaten_154 : decode cX7_isBeaten 154 = .ok (.goto (-86), 3) := by decide +kernel
theorem dccX7_isBeaten_157 : decode cX7_isBeaten 157 = .ok (.iconst 0, 1) := by decide +kernel
theorem dccX7_isBeaten_158 : decode cX7_isBeaten 158 = .ok (.ireturn, 1) := by decide +kernel
theorem dccX7_isBetterForAny_0 : decode cX7_isBetterForAny 0 = .ok (.iconst 0, 1) := by decide +kernel
theorem dccX7_isBetterForAny_1 : decode cX7_isBetterForAny 1 = .ok (.istore_n 2, 1) := by decide +kernel
theorem dccX7_isBetterForAny_2 : decode cX7_isBetterForAny 2 = .ok (.iload_n 2, 1) := by decide +kernel
theorem dccX7_isBetterForAny_3 : decode cX7_isBetterForAny 3 = .ok (.aload_n 0, 1) := by decide +kernel
theorem dccX7_isBetterForAny_4 : decode cX7_isBetterForAny 4 = .ok (.getfield 17, 3) := by decide +kernel
theorem dccX7_isBetterForAny_7 : decode cX7_isBetterForAny 7 = .ok (.invokevirtual 33, 3) := by decide +kernel
theorem dccX7_isBetterForAny_10 : decode cX7_isBetterForAny 10 = .ok (.if_icmp .ge 40, 3) := by decide +kernel
theorem dccX7_isBetterForAny_13 : decode cX7_isBetterForAny 13 = .ok (.aload_n 0, 1) := by decide +kernel
theorem dccX7_isBetterForAny_14 : decode cX7_isBetterForAny 14 = .ok (.getfield 17, 3) := by decide +kernel
theorem dccX7_isBetterForAny_17 : decode cX7_isBetterForAny 17 = .ok (.iload_n 2, 1) := by decide +kernel
theorem dccX7_isBetterForAny_18 : decode cX7_isBetterForAny 18 = .ok (.invokevirtual 39, 3) := by decide +kernel
theorem dccX7_isBetterForAny_21 : decode cX7_isBetterForAny 21 = .ok (.checkcast 25, 3) := by decide +kernel
theorem dccX7_isBetterForAny_24 : decode cX7_isBetterForAny 24 = .ok (.astore_n 3, 1) := by decide +kernel
theorem dccX7_isBetterForAny_25 : decode cX7_isBetterForAny 25 = .ok (.aload_n 3, 1) := by decide +kernel
theorem dccX7_isBetterForAny_26 : decode cX7_isBetterForAny 26 = .ok (.aload_n 0, 1) := by decide +kernel
theorem dccX7_isBetterForAny_27 : decode cX7_isBetterForAny 27 = .ok (.aload_n 3, 1) := by decide +kernel
theorem dccX7_isBetterForAny_28 : decode cX7_isBetterForAny 28 = .ok (.invokevirtual 63, 3) := by decide +kernel
theorem dccX7_isBetterForAny_31 : decode cX7_isBetterForAny 31 = .ok (.aload_n 1, 1) := by decide +kernel
theorem dccX7_isBetterForAny_32 : decode cX7_isBetterForAny 32 = .ok (.aload_n 3, 1) := by decide +kernel
theorem dccX7_isBetterForAny_33 : decode cX7_isBetterForAny 33 = .ok (.invokevirtual 63, 3) := by decide +kernel
theorem dccX7_isBetterForAny_36 : decode cX7_isBetterForAny 36 = .ok (.invokevirtual 78, 3) := by decide +kernel
theorem dccX7_isBetterForAny_39 : decode cX7_isBetterForAny 39 = .ok (.ifCond .eq 5, 3) := by decide +kernel
theorem dccX7_isBetterForAny_42 : decode cX7_isBetterForAny 42 = .ok (.iconst 1, 1) := by decide +kernel
