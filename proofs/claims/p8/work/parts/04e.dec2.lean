theorem dccX11_ofHall_38 : decode cX11_ofHall 38 = .ok (.tableswitch 65 0 3 #[30, 35, 40, 49], 30) := by decide +kernel
theorem dccX11_ofHall_68 : decode cX11_ofHall 68 = .ok (.aload_n 3, 1) := by decide +kernel
theorem dccX11_ofHall_69 : decode cX11_ofHall 69 = .ok (.getfield 123, 3) := by decide +kernel
theorem dccX11_ofHall_72 : decode cX11_ofHall 72 = .ok (.ireturn, 1) := by decide +kernel
theorem dccX11_ofHall_73 : decode cX11_ofHall 73 = .ok (.aload_n 3, 1) := by decide +kernel
theorem dccX11_ofHall_74 : decode cX11_ofHall 74 = .ok (.getfield 273, 3) := by decide +kernel
theorem dccX11_ofHall_77 : decode cX11_ofHall 77 = .ok (.ireturn, 1) := by decide +kernel
theorem dccX11_ofHall_78 : decode cX11_ofHall 78 = .ok (.aload_n 0, 1) := by decide +kernel
theorem dccX11_ofHall_79 : decode cX11_ofHall 79 = .ok (.getfield 43, 3) := by decide +kernel
theorem dccX11_ofHall_82 : decode cX11_ofHall 82 = .ok (.aload_n 3, 1) := by decide +kernel
theorem dccX11_ofHall_83 : decode cX11_ofHall 83 = .ok (.invokevirtual 274, 3) := by decide +kernel
theorem dccX11_ofHall_86 : decode cX11_ofHall 86 = .ok (.ireturn, 1) := by decide +kernel
theorem dccX11_ofHall_87 : decode cX11_ofHall 87 = .ok (.aload_n 0, 1) := by decide +kernel
theorem dccX11_ofHall_88 : decode cX11_ofHall 88 = .ok (.getfield 39, 3) := by decide +kernel
theorem dccX11_ofHall_91 : decode cX11_ofHall 91 = .ok (.aload_n 0, 1) := by decide +kernel
theorem dccX11_ofHall_92 : decode cX11_ofHall 92 = .ok (.getfield 43, 3) := by decide +kernel
theorem dccX11_ofHall_95 : decode cX11_ofHall 95 = .ok (.aload_n 3, 1) := by decide +kernel
theorem dccX11_ofHall_96 : decode cX11_ofHall 96 = .ok (.invokevirtual 274, 3) := by decide +kernel
theorem dccX11_ofHall_99 : decode cX11_ofHall 99 = .ok (.invokevirtual 278, 3) := by decide +kernel
theorem dccX11_ofHall_102 : decode cX11_ofHall 102 = .ok (.ireturn, 1) := by decide +kernel
theorem dccX11_ofHall_103 : decode cX11_ofHall 103 = .ok (.new 77, 3) := by decide +kernel
theorem dccX11_ofHall_106 : decode cX11_ofHall 106 = .ok (.dup, 1) := by decide +kernel
theorem dccX11_ofHall_107 : decode cX11_ofHall 107 = .ok (.ldc_w 281, 3) := by decide +kernel
theorem dccX11_ofHall_110 : decode cX11_ofHall 110 = .ok (.invokespecial 81, 3) := by decide +kernel
theorem dccX11_ofHall_113 : decode cX11_ofHall 113 = .ok (.athrow, 1) := by decide +kernel
theorem dccX11_ofHousehold_0 : decode cX11_ofHousehold 0 = .ok (.iload_n 1, 1) := by decide +kernel
theorem dccX11_ofHousehold_1 : decode cX11_ofHousehold 1 = .ok (.ifCond .lt 14, 3) := by decide +kernel
theorem dccX11_ofHousehold_4 : decode cX11_ofHousehold 4 = .ok (.iload_n 1, 1) := by decide +kernel
theorem dccX11_ofHousehold_5 : decode cX11_ofHousehold 5 = .ok (.aload_n 0, 1) := by decide +kernel
theorem dccX11_ofHousehold_6 : decode cX11_ofHousehold 6 = .ok (.getfield 31, 3) := by decide +kernel
theorem dccX11_ofHousehold_9 : decode cX11_ofHousehold 9 = .ok (.invokevirtual 84, 3) := by decide +kernel
theorem dccX11_ofHousehold_12 : decode cX11_ofHousehold 12 = .ok (.if_icmp .lt 13, 3) := by decide +kernel
theorem dccX11_ofHousehold_15 : decode cX11_ofHousehold 15 = .ok (.new 112, 3) := by decide +kernel
theorem dccX11_ofHousehold_18 : decode cX11_ofHousehold 18 = .ok (.dup, 1) := by decide +kernel
theorem dccX11_ofHousehold_19 : decode cX11_ofHousehold 19 = .ok (.ldc 162, 2) := by decide +kernel
theorem dccX11_ofHousehold_21 : decode cX11_ofHousehold 21 = .ok (.invokespecial 116, 3) := by decide +kernel
theorem dccX11_ofHousehold_24 : decode cX11_ofHousehold 24 = .ok (.athrow, 1) := by decide +kernel
theorem dccX11_ofHousehold_25 : decode cX11_ofHousehold 25 = .ok (.aload_n 0, 1) := by decide +kernel
theorem dccX11_ofHousehold_26 : decode cX11_ofHousehold 26 = .ok (.getfield 31, 3) := by decide +kernel
theorem dccX11_ofHousehold_29 : decode cX11_ofHousehold 29 = .ok (.iload_n 1, 1) := by decide +kernel
theorem dccX11_ofHousehold_30 : decode cX11_ofHousehold 30 = .ok (.invokevirtual 119, 3) := by decide +kernel
theorem dccX11_ofHousehold_33 : decode cX11_ofHousehold 33 = .ok (.checkcast 133, 3) := by decide +kernel
theorem dccX11_ofHousehold_36 : decode cX11_ofHousehold 36 = .ok (.astore_n 3, 1) := by decide +kernel
theorem dccX11_ofHousehold_37 : decode cX11_ofHousehold 37 = .ok (.iload_n 2, 1) := by decide +kernel
theorem dccX11_ofHousehold_38 : decode cX11_ofHousehold 38 = .ok (.tableswitch 104 0 5 #[38, 46, 51, 59, 64, 89], 38) := by decide +kernel
theorem dccX11_ofHousehold_76 : decode cX11_ofHousehold 76 = .ok (.aload_n 3, 1) := by decide +kernel
theorem dccX11_ofHousehold_77 : decode cX11_ofHousehold 77 = .ok (.getfield 138, 3) := by decide +kernel
theorem dccX11_ofHousehold_80 : decode cX11_ofHousehold 80 = .ok (.getfield 250, 3) := by decide +kernel
theorem dccX11_ofHousehold_83 : decode cX11_ofHousehold 83 = .ok (.ireturn, 1) := by decide +kernel
theorem dccX11_ofHousehold_84 : decode cX11_ofHousehold 84 = .ok (.aload_n 3, 1) := by decide +kernel
theorem dccX11_ofHousehold_85 : decode cX11_ofHousehold 85 = .ok (.getfield 253, 3) := by decide +kernel
theorem dccX11_ofHousehold_88 : decode cX11_ofHousehold 88 = .ok (.ireturn, 1) := by decide +kernel
theorem dccX11_ofHousehold_89 : decode cX11_ofHousehold 89 = .ok (.aload_n 3, 1) := by decide +kernel
theorem dccX11_ofHousehold_90 : decode cX11_ofHousehold 90 = .ok (.getfield 256, 3) := by decide +kernel
theorem dccX11_ofHousehold_93 : decode cX11_ofHousehold 93 = .ok (.invokestatic 237, 3) := by decide +kernel
theorem dccX11_ofHousehold_96 : decode cX11_ofHousehold 96 = .ok (.ireturn, 1) := by decide +kernel
theorem dccX11_ofHousehold_97 : decode cX11_ofHousehold 97 = .ok (.aload_n 3, 1) := by decide +kernel
theorem dccX11_ofHousehold_98 : decode cX11_ofHousehold 98 = .ok (.getfield 146, 3) := by decide +kernel
theorem dccX11_ofHousehold_101 : decode cX11_ofHousehold 101 = .ok (.ireturn, 1) := by decide +kernel
theorem dccX11_ofHousehold_102 : decode cX11_ofHousehold 102 = .ok (.aload_n 0, 1) := by decide +kernel
theorem dccX11_ofHousehold_103 : decode cX11_ofHousehold 103 = .ok (.getfield 43, 3) := by decide +kernel
theorem dccX11_ofHousehold_106 : decode cX11_ofHousehold 106 = .ok (.aload_n 3, 1) := by decide +kernel
theorem dccX11_ofHousehold_107 : decode cX11_ofHousehold 107 = .ok (.invokevirtual 259, 3) := by decide +kernel
theorem dccX11_ofHousehold_110 : decode cX11_ofHousehold 110 = .ok (.astore 4, 2) := by decide +kernel
theorem dccX11_ofHousehold_112 : decode cX11_ofHousehold 112 = .ok (.aload 4, 2) := by decide +kernel
theorem dccX11_ofHousehold_114 : decode cX11_ofHousehold 114 = .ok (.ifnonnull 7, 3) := by decide +kernel
theorem dccX11_ofHousehold_117 : decode cX11_ofHousehold 117 = .ok (.iconst (-1), 1) := by decide +kernel
theorem dccX11_ofHousehold_118 : decode cX11_ofHousehold 118 = .ok (.goto 8, 3) := by decide +kernel
theorem dccX11_ofHousehold_121 : decode cX11_ofHousehold 121 = .ok (.aload 4, 2) := by decide +kernel
theorem dccX11_ofHousehold_123 : decode cX11_ofHousehold 123 = .ok (.getfield 263, 3) := by decide +kernel
theorem dccX11_ofHousehold_126 : decode cX11_ofHousehold 126 = .ok (.ireturn, 1) := by decide +kernel
theorem dccX11_ofHousehold_127 : decode cX11_ofHousehold 127 = .ok (.aload_n 0, 1) := by decide +kernel
theorem dccX11_ofHousehold_128 : decode cX11_ofHousehold 128 = .ok (.getfield 39, 3) := by decide +kernel
theorem dccX11_ofHousehold_131 : decode cX11_ofHousehold 131 = .ok (.invokevirtual 264, 3) := by decide +kernel
theorem dccX11_ofHousehold_134 : decode cX11_ofHousehold 134 = .ok (.iload_n 1, 1) := by decide +kernel
theorem dccX11_ofHousehold_135 : decode cX11_ofHousehold 135 = .ok (.invokestatic 267, 3) := by decide +kernel
theorem dccX11_ofHousehold_138 : decode cX11_ofHousehold 138 = .ok (.invokestatic 237, 3) := by decide +kernel
theorem dccX11_ofHousehold_141 : decode cX11_ofHousehold 141 = .ok (.ireturn, 1) := by decide +kernel
theorem dccX11_ofHousehold_142 : decode cX11_ofHousehold 142 = .ok (.new 77, 3) := by decide +kernel
theorem dccX11_ofHousehold_145 : decode cX11_ofHousehold 145 = .ok (.dup, 1) := by decide +kernel
theorem dccX11_ofHousehold_146 : decode cX11_ofHousehold 146 = .ok (.ldc_w 271, 3) := by decide +kernel
theorem dccX11_ofHousehold_149 : decode cX11_ofHousehold 149 = .ok (.invokespecial 81, 3) := by decide +kernel
theorem dccX11_ofHousehold_152 : decode cX11_ofHousehold 152 = .ok (.athrow, 1) := by decide +kernel
theorem dccX11_ofLot_0 : decode cX11_ofLot 0 = .ok (.iload_n 1, 1) := by decide +kernel
theorem dccX11_ofLot_1 : decode cX11_ofLot 1 = .ok (.ifCond .lt 17, 3) := by decide +kernel
theorem dccX11_ofLot_4 : decode cX11_ofLot 4 = .ok (.iload_n 1, 1) := by decide +kernel
theorem dccX11_ofLot_5 : decode cX11_ofLot 5 = .ok (.aload_n 0, 1) := by decide +kernel
theorem dccX11_ofLot_6 : decode cX11_ofLot 6 = .ok (.getfield 62, 3) := by decide +kernel
theorem dccX11_ofLot_9 : decode cX11_ofLot 9 = .ok (.getfield 188, 3) := by decide +kernel
theorem dccX11_ofLot_12 : decode cX11_ofLot 12 = .ok (.invokevirtual 84, 3) := by decide +kernel
theorem dccX11_ofLot_15 : decode cX11_ofLot 15 = .ok (.if_icmp .lt 14, 3) := by decide +kernel
theorem dccX11_ofLot_18 : decode cX11_ofLot 18 = .ok (.new 112, 3) := by decide +kernel
theorem dccX11_ofLot_21 : decode cX11_ofLot 21 = .ok (.dup, 1) := by decide +kernel
theorem dccX11_ofLot_22 : decode cX11_ofLot 22 = .ok (.ldc_w 283, 3) := by decide +kernel
theorem dccX11_ofLot_25 : decode cX11_ofLot 25 = .ok (.invokespecial 116, 3) := by decide +kernel
theorem dccX11_ofLot_28 : decode cX11_ofLot 28 = .ok (.athrow, 1) := by decide +kernel
theorem dccX11_ofLot_29 : decode cX11_ofLot 29 = .ok (.aload_n 0, 1) := by decide +kernel
theorem dccX11_ofLot_30 : decode cX11_ofLot 30 = .ok (.getfield 62, 3) := by decide +kernel
theorem dccX11_ofLot_33 : decode cX11_ofLot 33 = .ok (.getfield 188, 3) := by decide +kernel
theorem dccX11_ofLot_36 : decode cX11_ofLot 36 = .ok (.iload_n 1, 1) := by decide +kernel
theorem dccX11_ofLot_37 : decode cX11_ofLot 37 = .ok (.invokevirtual 119, 3) := by decide +kernel
theorem dccX11_ofLot_40 : decode cX11_ofLot 40 = .ok (.checkcast 193, 3) := by decide +kernel
theorem dccX11_ofLot_43 : decode cX11_ofLot 43 = .ok (.astore_n 3, 1) := by decide +kernel
theorem dccX11_ofLot_44 : decode cX11_ofLot 44 = .ok (.iload_n 2, 1) := by decide +kernel
theorem dccX11_ofLot_45 : decode cX11_ofLot 45 = .ok (.lookupswitch 37 #[(0, 27), (1, 32)], 27) := by decide +kernel
theorem dccX11_ofLot_72 : decode cX11_ofLot 72 = .ok (.aload_n 3, 1) := by decide +kernel
theorem dccX11_ofLot_73 : decode cX11_ofLot 73 = .ok (.getfield 285, 3) := by decide +kernel
theorem dccX11_ofLot_76 : decode cX11_ofLot 76 = .ok (.ireturn, 1) := by decide +kernel
theorem dccX11_ofLot_77 : decode cX11_ofLot 77 = .ok (.aload_n 3, 1) := by decide +kernel
theorem dccX11_ofLot_78 : decode cX11_ofLot 78 = .ok (.getfield 288, 3) := by decide +kernel
theorem dccX11_ofLot_81 : decode cX11_ofLot 81 = .ok (.ireturn, 1) := by decide +kernel
theorem dccX11_ofLot_82 : decode cX11_ofLot 82 = .ok (.new 77, 3) := by decide +kernel
theorem dccX11_ofLot_85 : decode cX11_ofLot 85 = .ok (.dup, 1) := by decide +kernel
theorem dccX11_ofLot_86 : decode cX11_ofLot 86 = .ok (.ldc_w 291, 3) := by decide +kernel
theorem dccX11_ofLot_89 : decode cX11_ofLot 89 = .ok (.invokespecial 81, 3) := by decide +kernel
theorem dccX11_ofLot_92 : decode cX11_ofLot 92 = .ok (.athrow, 1) := by decide +kernel
theorem dccX11_ofStreet_0 : decode cX11_ofStreet 0 = .ok (.iload_n 1, 1) := by decide +kernel
theorem dccX11_ofStreet_1 : decode cX11_ofStreet 1 = .ok (.ifCond .lt 14, 3) := by decide +kernel
theorem dccX11_ofStreet_4 : decode cX11_ofStreet 4 = .ok (.iload_n 1, 1) := by decide +kernel
theorem dccX11_ofStreet_5 : decode cX11_ofStreet 5 = .ok (.aload_n 0, 1) := by decide +kernel
theorem dccX11_ofStreet_6 : decode cX11_ofStreet 6 = .ok (.getfield 24, 3) := by decide +kernel
theorem dccX11_ofStreet_9 : decode cX11_ofStreet 9 = .ok (.invokevirtual 84, 3) := by decide +kernel
theorem dccX11_ofStreet_12 : decode cX11_ofStreet 12 = .ok (.if_icmp .lt 13, 3) := by decide +kernel
theorem dccX11_ofStreet_15 : decode cX11_ofStreet 15 = .ok (.new 112, 3) := by decide +kernel
theorem dccX11_ofStreet_18 : decode cX11_ofStreet 18 = .ok (.dup, 1) := by decide +kernel
theorem dccX11_ofStreet_19 : decode cX11_ofStreet 19 = .ok (.ldc 127, 2) := by decide +kernel
theorem dccX11_ofStreet_21 : decode cX11_ofStreet 21 = .ok (.invokespecial 116, 3) := by decide +kernel
theorem dccX11_ofStreet_24 : decode cX11_ofStreet 24 = .ok (.athrow, 1) := by decide +kernel
theorem dccX11_ofStreet_25 : decode cX11_ofStreet 25 = .ok (.aload_n 0, 1) := by decide +kernel
theorem dccX11_ofStreet_26 : decode cX11_ofStreet 26 = .ok (.getfield 24, 3) := by decide +kernel
theorem dccX11_ofStreet_29 : decode cX11_ofStreet 29 = .ok (.iload_n 1, 1) := by decide +kernel
theorem dccX11_ofStreet_30 : decode cX11_ofStreet 30 = .ok (.invokevirtual 119, 3) := by decide +kernel
theorem dccX11_ofStreet_33 : decode cX11_ofStreet 33 = .ok (.checkcast 93, 3) := by decide +kernel
theorem dccX11_ofStreet_36 : decode cX11_ofStreet 36 = .ok (.astore_n 3, 1) := by decide +kernel
theorem dccX11_ofStreet_37 : decode cX11_ofStreet 37 = .ok (.iload_n 2, 1) := by decide +kernel
theorem dccX11_ofStreet_38 : decode cX11_ofStreet 38 = .ok (.tableswitch 74 0 4 #[34, 39, 44, 56, 65], 34) := by decide +kernel
theorem dccX11_ofStreet_72 : decode cX11_ofStreet 72 = .ok (.aload_n 3, 1) := by decide +kernel
theorem dccX11_ofStreet_73 : decode cX11_ofStreet 73 = .ok (.getfield 231, 3) := by decide +kernel
theorem dccX11_ofStreet_76 : decode cX11_ofStreet 76 = .ok (.ireturn, 1) := by decide +kernel
theorem dccX11_ofStreet_77 : decode cX11_ofStreet 77 = .ok (.aload_n 3, 1) := by decide +kernel
theorem dccX11_ofStreet_78 : decode cX11_ofStreet 78 = .ok (.getfield 234, 3) := by decide +kernel
theorem dccX11_ofStreet_81 : decode cX11_ofStreet 81 = .ok (.ireturn, 1) := by decide +kernel
theorem dccX11_ofStreet_82 : decode cX11_ofStreet 82 = .ok (.aload_n 0, 1) := by decide +kernel
theorem dccX11_ofStreet_83 : decode cX11_ofStreet 83 = .ok (.getfield 18, 3) := by decide +kernel
theorem dccX11_ofStreet_86 : decode cX11_ofStreet 86 = .ok (.aload_n 3, 1) := by decide +kernel
theorem dccX11_ofStreet_87 : decode cX11_ofStreet 87 = .ok (.invokevirtual 142, 3) := by decide +kernel
theorem dccX11_ofStreet_90 : decode cX11_ofStreet 90 = .ok (.invokestatic 237, 3) := by decide +kernel
theorem dccX11_ofStreet_93 : decode cX11_ofStreet 93 = .ok (.ireturn, 1) := by decide +kernel
theorem dccX11_ofStreet_94 : decode cX11_ofStreet 94 = .ok (.aload_n 0, 1) := by decide +kernel
theorem dccX11_ofStreet_95 : decode cX11_ofStreet 95 = .ok (.getfield 18, 3) := by decide +kernel
theorem dccX11_ofStreet_98 : decode cX11_ofStreet 98 = .ok (.aload_n 3, 1) := by decide +kernel
theorem dccX11_ofStreet_99 : decode cX11_ofStreet 99 = .ok (.invokevirtual 241, 3) := by decide +kernel
theorem dccX11_ofStreet_102 : decode cX11_ofStreet 102 = .ok (.ireturn, 1) := by decide +kernel
theorem dccX11_ofStreet_103 : decode cX11_ofStreet 103 = .ok (.aload_n 0, 1) := by decide +kernel
theorem dccX11_ofStreet_104 : decode cX11_ofStreet 104 = .ok (.getfield 39, 3) := by decide +kernel
theorem dccX11_ofStreet_107 : decode cX11_ofStreet 107 = .ok (.aload_n 3, 1) := by decide +kernel
theorem dccX11_ofStreet_108 : decode cX11_ofStreet 108 = .ok (.invokevirtual 245, 3) := by decide +kernel
theorem dccX11_ofStreet_111 : decode cX11_ofStreet 111 = .ok (.ireturn, 1) := by decide +kernel
theorem dccX11_ofStreet_112 : decode cX11_ofStreet 112 = .ok (.new 77, 3) := by decide +kernel
theorem dccX11_ofStreet_115 : decode cX11_ofStreet 115 = .ok (.dup, 1) := by decide +kernel
theorem dccX11_ofStreet_116 : decode cX11_ofStreet 116 = .ok (.ldc 248, 2) := by decide +kernel
theorem dccX11_ofStreet_118 : decode cX11_ofStreet 118 = .ok (.invokespecial 81, 3) := by decide +kernel
theorem dccX11_ofStreet_121 : decode cX11_ofStreet 121 = .ok (.athrow, 1) := by decide +kernel
theorem dccX11_oneIf_0 : decode cX11_oneIf 0 = .ok (.iload_n 0, 1) := by decide +kernel
theorem dccX11_oneIf_1 : decode cX11_oneIf 1 = .ok (.ifCond .eq 7, 3) := by decide +kernel
theorem dccX11_oneIf_4 : decode cX11_oneIf 4 = .ok (.iconst 1, 1) := by decide +kernel
theorem dccX11_oneIf_5 : decode cX11_oneIf 5 = .ok (.goto 4, 3) := by decide +kernel
theorem dccX11_oneIf_8 : decode cX11_oneIf 8 = .ok (.iconst 0, 1) := by decide +kernel
theorem dccX11_oneIf_9 : decode cX11_oneIf 9 = .ok (.ireturn, 1) := by decide +kernel
theorem dccX11_pass_0 : decode cX11_pass 0 = .ok (.iload_n 1, 1) := by decide +kernel
theorem dccX11_pass_1 : decode cX11_pass 1 = .ok (.iconst 1, 1) := by decide +kernel
theorem dccX11_pass_2 : decode cX11_pass 2 = .ok (.bipush 48, 2) := by decide +kernel
theorem dccX11_pass_4 : decode cX11_pass 4 = .ok (.invokestatic 73, 3) := by decide +kernel
theorem dccX11_pass_7 : decode cX11_pass 7 = .ok (.ifCond .ne 13, 3) := by decide +kernel
theorem dccX11_pass_10 : decode cX11_pass 10 = .ok (.new 77, 3) := by decide +kernel
theorem dccX11_pass_13 : decode cX11_pass 13 = .ok (.dup, 1) := by decide +kernel
theorem dccX11_pass_14 : decode cX11_pass 14 = .ok (.ldc 169, 2) := by decide +kernel
theorem dccX11_pass_16 : decode cX11_pass 16 = .ok (.invokespecial 81, 3) := by decide +kernel
theorem dccX11_pass_19 : decode cX11_pass 19 = .ok (.athrow, 1) := by decide +kernel
theorem dccX11_pass_20 : decode cX11_pass 20 = .ok (.aload_n 0, 1) := by decide +kernel
theorem dccX11_pass_21 : decode cX11_pass 21 = .ok (.getfield 18, 3) := by decide +kernel
theorem dccX11_pass_24 : decode cX11_pass 24 = .ok (.getfield 171, 3) := by decide +kernel
theorem dccX11_pass_27 : decode cX11_pass 27 = .ok (.iload_n 1, 1) := by decide +kernel
theorem dccX11_pass_28 : decode cX11_pass 28 = .ok (.iadd, 1) := by decide +kernel
theorem dccX11_pass_29 : decode cX11_pass 29 = .ok (.sipush 500, 3) := by decide +kernel
theorem dccX11_pass_32 : decode cX11_pass 32 = .ok (.if_icmp .le 13, 3) := by decide +kernel
theorem dccX11_pass_35 : decode cX11_pass 35 = .ok (.new 88, 3) := by decide +kernel
theorem dccX11_pass_38 : decode cX11_pass 38 = .ok (.dup, 1) := by decide +kernel
theorem dccX11_pass_39 : decode cX11_pass 39 = .ok (.ldc 174, 2) := by decide +kernel
theorem dccX11_pass_41 : decode cX11_pass 41 = .ok (.invokespecial 92, 3) := by decide +kernel
theorem dccX11_pass_44 : decode cX11_pass 44 = .ok (.athrow, 1) := by decide +kernel
theorem dccX11_pass_45 : decode cX11_pass 45 = .ok (.iconst 0, 1) := by decide +kernel
theorem dccX11_pass_46 : decode cX11_pass 46 = .ok (.istore_n 2, 1) := by decide +kernel
theorem dccX11_pass_47 : decode cX11_pass 47 = .ok (.iconst 0, 1) := by decide +kernel
theorem dccX11_pass_48 : decode cX11_pass 48 = .ok (.istore_n 3, 1) := by decide +kernel
theorem dccX11_pass_49 : decode cX11_pass 49 = .ok (.iload_n 3, 1) := by decide +kernel
theorem dccX11_pass_50 : decode cX11_pass 50 = .ok (.iload_n 1, 1) := by decide +kernel
theorem dccX11_pass_51 : decode cX11_pass 51 = .ok (.if_icmp .ge 48, 3) := by decide +kernel
theorem dccX11_pass_54 : decode cX11_pass 54 = .ok (.aload_n 0, 1) := by decide +kernel
theorem dccX11_pass_55 : decode cX11_pass 55 = .ok (.getfield 18, 3) := by decide +kernel
theorem dccX11_pass_58 : decode cX11_pass 58 = .ok (.invokevirtual 176, 3) := by decide +kernel
theorem dccX11_pass_61 : decode cX11_pass 61 = .ok (.aload_n 0, 1) := by decide +kernel
theorem dccX11_pass_62 : decode cX11_pass 62 = .ok (.getfield 39, 3) := by decide +kernel
theorem dccX11_pass_65 : decode cX11_pass 65 = .ok (.iconst 0, 1) := by decide +kernel
theorem dccX11_pass_66 : decode cX11_pass 66 = .ok (.putfield 164, 3) := by decide +kernel
theorem dccX11_pass_69 : decode cX11_pass 69 = .ok (.iload_n 2, 1) := by decide +kernel
theorem dccX11_pass_70 : decode cX11_pass 70 = .ok (.aload_n 0, 1) := by decide +kernel
theorem dccX11_pass_71 : decode cX11_pass 71 = .ok (.getfield 39, 3) := by decide +kernel
theorem dccX11_pass_74 : decode cX11_pass 74 = .ok (.invokevirtual 179, 3) := by decide +kernel
theorem dccX11_pass_77 : decode cX11_pass 77 = .ok (.iadd, 1) := by decide +kernel
theorem dccX11_pass_78 : decode cX11_pass 78 = .ok (.istore_n 2, 1) := by decide +kernel
theorem dccX11_pass_79 : decode cX11_pass 79 = .ok (.aload_n 0, 1) := by decide +kernel
theorem dccX11_pass_80 : decode cX11_pass 80 = .ok (.getfield 62, 3) := by decide +kernel
theorem dccX11_pass_83 : decode cX11_pass 83 = .ok (.aload_n 0, 1) := by decide +kernel
theorem dccX11_pass_84 : decode cX11_pass 84 = .ok (.getfield 18, 3) := by decide +kernel
theorem dccX11_pass_87 : decode cX11_pass 87 = .ok (.getfield 171, 3) := by decide +kernel
theorem dccX11_pass_90 : decode cX11_pass 90 = .ok (.invokevirtual 182, 3) := by decide +kernel
theorem dccX11_pass_93 : decode cX11_pass 93 = .ok (.iinc 3 1, 3) := by decide +kernel
theorem dccX11_pass_96 : decode cX11_pass 96 = .ok (.goto (-47), 3) := by decide +kernel
theorem dccX11_pass_99 : decode cX11_pass 99 = .ok (.iload_n 2, 1) := by decide +kernel
theorem dccX11_pass_100 : decode cX11_pass 100 = .ok (.ireturn, 1) := by decide +kernel
theorem dccX11_river_0 : decode cX11_river 0 = .ok (.iload_n 1, 1) := by decide +kernel
theorem dccX11_river_1 : decode cX11_river 1 = .ok (.iconst 0, 1) := by decide +kernel
theorem dccX11_river_2 : decode cX11_river 2 = .ok (.bipush 99, 2) := by decide +kernel
theorem dccX11_river_4 : decode cX11_river 4 = .ok (.invokestatic 73, 3) := by decide +kernel
theorem dccX11_river_7 : decode cX11_river 7 = .ok (.ifCond .eq 14, 3) := by decide +kernel
theorem dccX11_river_10 : decode cX11_river 10 = .ok (.iload_n 2, 1) := by decide +kernel
theorem dccX11_river_11 : decode cX11_river 11 = .ok (.bipush (-9), 2) := by decide +kernel
theorem dccX11_river_13 : decode cX11_river 13 = .ok (.bipush 9, 2) := by decide +kernel
theorem dccX11_river_15 : decode cX11_river 15 = .ok (.invokestatic 73, 3) := by decide +kernel
theorem dccX11_river_18 : decode cX11_river 18 = .ok (.ifCond .ne 13, 3) := by decide +kernel
theorem dccX11_river_21 : decode cX11_river 21 = .ok (.new 77, 3) := by decide +kernel
theorem dccX11_river_24 : decode cX11_river 24 = .ok (.dup, 1) := by decide +kernel
theorem dccX11_river_25 : decode cX11_river 25 = .ok (.ldc 149, 2) := by decide +kernel
theorem dccX11_river_27 : decode cX11_river 27 = .ok (.invokespecial 81, 3) := by decide +kernel
theorem dccX11_river_30 : decode cX11_river 30 = .ok (.athrow, 1) := by decide +kernel
theorem dccX11_river_31 : decode cX11_river 31 = .ok (.aload_n 0, 1) := by decide +kernel
theorem dccX11_river_32 : decode cX11_river 32 = .ok (.getfield 18, 3) := by decide +kernel
theorem dccX11_river_35 : decode cX11_river 35 = .ok (.getfield 151, 3) := by decide +kernel
theorem dccX11_river_38 : decode cX11_river 38 = .ok (.istore_n 3, 1) := by decide +kernel
theorem dccX11_river_39 : decode cX11_river 39 = .ok (.aload_n 0, 1) := by decide +kernel
theorem dccX11_river_40 : decode cX11_river 40 = .ok (.getfield 18, 3) := by decide +kernel
theorem dccX11_river_43 : decode cX11_river 43 = .ok (.iload_n 1, 1) := by decide +kernel
theorem dccX11_river_44 : decode cX11_river 44 = .ok (.putfield 151, 3) := by decide +kernel
theorem dccX11_river_47 : decode cX11_river 47 = .ok (.aload_n 0, 1) := by decide +kernel
theorem dccX11_river_48 : decode cX11_river 48 = .ok (.getfield 18, 3) := by decide +kernel
theorem dccX11_river_51 : decode cX11_river 51 = .ok (.iload_n 2, 1) := by decide +kernel
theorem dccX11_river_52 : decode cX11_river 52 = .ok (.putfield 154, 3) := by decide +kernel
theorem dccX11_river_55 : decode cX11_river 55 = .ok (.iload_n 3, 1) := by decide +kernel
theorem dccX11_river_56 : decode cX11_river 56 = .ok (.ireturn, 1) := by decide +kernel
theorem dccX11_rooms_0 : decode cX11_rooms 0 = .ok (.iload_n 1, 1) := by decide +kernel
theorem dccX11_rooms_1 : decode cX11_rooms 1 = .ok (.ifCond .lt 14, 3) := by decide +kernel
theorem dccX11_rooms_4 : decode cX11_rooms 4 = .ok (.iload_n 1, 1) := by decide +kernel
theorem dccX11_rooms_5 : decode cX11_rooms 5 = .ok (.aload_n 0, 1) := by decide +kernel
theorem dccX11_rooms_6 : decode cX11_rooms 6 = .ok (.getfield 28, 3) := by decide +kernel
theorem dccX11_rooms_9 : decode cX11_rooms 9 = .ok (.invokevirtual 84, 3) := by decide +kernel
theorem dccX11_rooms_12 : decode cX11_rooms 12 = .ok (.if_icmp .lt 13, 3) := by decide +kernel
theorem dccX11_rooms_15 : decode cX11_rooms 15 = .ok (.new 112, 3) := by decide +kernel
theorem dccX11_rooms_18 : decode cX11_rooms 18 = .ok (.dup, 1) := by decide +kernel
theorem dccX11_rooms_19 : decode cX11_rooms 19 = .ok (.ldc 114, 2) := by decide +kernel
theorem dccX11_rooms_21 : decode cX11_rooms 21 = .ok (.invokespecial 116, 3) := by decide +kernel
theorem dccX11_rooms_24 : decode cX11_rooms 24 = .ok (.athrow, 1) := by decide +kernel
theorem dccX11_rooms_25 : decode cX11_rooms 25 = .ok (.iload_n 2, 1) := by decide +kernel
theorem dccX11_rooms_26 : decode cX11_rooms 26 = .ok (.iconst 0, 1) := by decide +kernel
theorem dccX11_rooms_27 : decode cX11_rooms 27 = .ok (.iconst 4, 1) := by decide +kernel
theorem dccX11_rooms_28 : decode cX11_rooms 28 = .ok (.invokestatic 73, 3) := by decide +kernel
theorem dccX11_rooms_31 : decode cX11_rooms 31 = .ok (.ifCond .ne 13, 3) := by decide +kernel
theorem dccX11_rooms_34 : decode cX11_rooms 34 = .ok (.new 77, 3) := by decide +kernel
theorem dccX11_rooms_37 : decode cX11_rooms 37 = .ok (.dup, 1) := by decide +kernel
theorem dccX11_rooms_38 : decode cX11_rooms 38 = .ok (.ldc 117, 2) := by decide +kernel
theorem dccX11_rooms_40 : decode cX11_rooms 40 = .ok (.invokespecial 81, 3) := by decide +kernel
theorem dccX11_rooms_43 : decode cX11_rooms 43 = .ok (.athrow, 1) := by decide +kernel
theorem dccX11_rooms_44 : decode cX11_rooms 44 = .ok (.aload_n 0, 1) := by decide +kernel
theorem dccX11_rooms_45 : decode cX11_rooms 45 = .ok (.getfield 28, 3) := by decide +kernel
theorem dccX11_rooms_48 : decode cX11_rooms 48 = .ok (.iload_n 1, 1) := by decide +kernel
theorem dccX11_rooms_49 : decode cX11_rooms 49 = .ok (.invokevirtual 119, 3) := by decide +kernel
theorem dccX11_rooms_52 : decode cX11_rooms 52 = .ok (.checkcast 106, 3) := by decide +kernel
theorem dccX11_rooms_55 : decode cX11_rooms 55 = .ok (.astore_n 3, 1) := by decide +kernel
theorem dccX11_rooms_56 : decode cX11_rooms 56 = .ok (.aload_n 3, 1) := by decide +kernel
theorem dccX11_rooms_57 : decode cX11_rooms 57 = .ok (.getfield 123, 3) := by decide +kernel
theorem dccX11_rooms_60 : decode cX11_rooms 60 = .ok (.istore 4, 2) := by decide +kernel
theorem dccX11_rooms_62 : decode cX11_rooms 62 = .ok (.aload_n 3, 1) := by decide +kernel
theorem dccX11_rooms_63 : decode cX11_rooms 63 = .ok (.iload_n 2, 1) := by decide +kernel
theorem dccX11_rooms_64 : decode cX11_rooms 64 = .ok (.putfield 123, 3) := by decide +kernel
theorem dccX11_rooms_67 : decode cX11_rooms 67 = .ok (.aload_n 0, 1) := by decide +kernel
theorem dccX11_rooms_68 : decode cX11_rooms 68 = .ok (.getfield 52, 3) := by decide +kernel
theorem dccX11_rooms_71 : decode cX11_rooms 71 = .ok (.invokevirtual 109, 3) := by decide +kernel
theorem dccX11_rooms_74 : decode cX11_rooms 74 = .ok (.iload 4, 2) := by decide +kernel
theorem dccX11_rooms_76 : decode cX11_rooms 76 = .ok (.ireturn, 1) := by decide +kernel
theorem dccX11_signOf_0 : decode cX11_signOf 0 = .ok (.aload_n 1, 1) := by decide +kernel
theorem dccX11_signOf_1 : decode cX11_signOf 1 = .ok (.getfield 146, 3) := by decide +kernel
theorem dccX11_signOf_4 : decode cX11_signOf 4 = .ok (.ifCond .ne 6, 3) := by decide +kernel
theorem dccX11_signOf_7 : decode cX11_signOf 7 = .ok (.bipush 104, 2) := by decide +kernel
theorem dccX11_signOf_9 : decode cX11_signOf 9 = .ok (.ireturn, 1) := by decide +kernel
theorem dccX11_signOf_10 : decode cX11_signOf 10 = .ok (.aload_n 1, 1) := by decide +kernel
theorem dccX11_signOf_11 : decode cX11_signOf 11 = .ok (.getfield 146, 3) := by decide +kernel
theorem dccX11_signOf_14 : decode cX11_signOf 14 = .ok (.iconst 2, 1) := by decide +kernel
theorem dccX11_signOf_15 : decode cX11_signOf 15 = .ok (.if_icmp .ne 6, 3) := by decide +kernel
theorem dccX11_signOf_18 : decode cX11_signOf 18 = .ok (.bipush 120, 2) := by decide +kernel
theorem dccX11_signOf_20 : decode cX11_signOf 20 = .ok (.ireturn, 1) := by decide +kernel
theorem dccX11_signOf_21 : decode cX11_signOf 21 = .ok (.aload_n 0, 1) := by decide +kernel
theorem dccX11_signOf_22 : decode cX11_signOf 22 = .ok (.getfield 43, 3) := by decide +kernel
theorem dccX11_signOf_25 : decode cX11_signOf 25 = .ok (.aload_n 1, 1) := by decide +kernel
theorem dccX11_signOf_26 : decode cX11_signOf 26 = .ok (.invokevirtual 259, 3) := by decide +kernel
theorem dccX11_signOf_29 : decode cX11_signOf 29 = .ok (.astore_n 2, 1) := by decide +kernel
theorem dccX11_signOf_30 : decode cX11_signOf 30 = .ok (.aload_n 2, 1) := by decide +kernel
theorem dccX11_signOf_31 : decode cX11_signOf 31 = .ok (.ifnonnull 8, 3) := by decide +kernel
theorem dccX11_signOf_34 : decode cX11_signOf 34 = .ok (.bipush 45, 2) := by decide +kernel
theorem dccX11_signOf_36 : decode cX11_signOf 36 = .ok (.goto 11, 3) := by decide +kernel
theorem dccX11_signOf_39 : decode cX11_signOf 39 = .ok (.bipush 48, 2) := by decide +kernel
theorem dccX11_signOf_41 : decode cX11_signOf 41 = .ok (.aload_n 2, 1) := by decide +kernel
theorem dccX11_signOf_42 : decode cX11_signOf 42 = .ok (.getfield 263, 3) := by decide +kernel
theorem dccX11_signOf_45 : decode cX11_signOf 45 = .ok (.iadd, 1) := by decide +kernel
theorem dccX11_signOf_46 : decode cX11_signOf 46 = .ok (.i2c, 1) := by decide +kernel
theorem dccX11_signOf_47 : decode cX11_signOf 47 = .ok (.ireturn, 1) := by decide +kernel
theorem dccX11_signs_0 : decode cX11_signs 0 = .ok (.new 313, 3) := by decide +kernel
theorem dccX11_signs_3 : decode cX11_signs 3 = .ok (.dup, 1) := by decide +kernel
theorem dccX11_signs_4 : decode cX11_signs 4 = .ok (.invokespecial 315, 3) := by decide +kernel
theorem dccX11_signs_7 : decode cX11_signs 7 = .ok (.astore_n 1, 1) := by decide +kernel
theorem dccX11_signs_8 : decode cX11_signs 8 = .ok (.iconst 0, 1) := by decide +kernel
theorem dccX11_signs_9 : decode cX11_signs 9 = .ok (.istore_n 2, 1) := by decide +kernel
theorem dccX11_signs_10 : decode cX11_signs 10 = .ok (.iload_n 2, 1) := by decide +kernel
theorem dccX11_signs_11 : decode cX11_signs 11 = .ok (.aload_n 0, 1) := by decide +kernel
theorem dccX11_signs_12 : decode cX11_signs 12 = .ok (.getfield 31, 3) := by decide +kernel
theorem dccX11_signs_15 : decode cX11_signs 15 = .ok (.invokevirtual 84, 3) := by decide +kernel
theorem dccX11_signs_18 : decode cX11_signs 18 = .ok (.if_icmp .ge 29, 3) := by decide +kernel
theorem dccX11_signs_21 : decode cX11_signs 21 = .ok (.aload_n 1, 1) := by decide +kernel
theorem dccX11_signs_22 : decode cX11_signs 22 = .ok (.aload_n 0, 1) := by decide +kernel
theorem dccX11_signs_23 : decode cX11_signs 23 = .ok (.aload_n 0, 1) := by decide +kernel
theorem dccX11_signs_24 : decode cX11_signs 24 = .ok (.getfield 31, 3) := by decide +kernel
theorem dccX11_signs_27 : decode cX11_signs 27 = .ok (.iload_n 2, 1) := by decide +kernel
theorem dccX11_signs_28 : decode cX11_signs 28 = .ok (.invokevirtual 119, 3) := by decide +kernel
theorem dccX11_signs_31 : decode cX11_signs 31 = .ok (.checkcast 133, 3) := by decide +kernel
theorem dccX11_signs_34 : decode cX11_signs 34 = .ok (.invokevirtual 316, 3) := by decide +kernel
theorem dccX11_signs_37 : decode cX11_signs 37 = .ok (.invokevirtual 320, 3) := by decide +kernel
theorem dccX11_signs_40 : decode cX11_signs 40 = .ok (.pop, 1) := by decide +kernel
theorem dccX11_signs_41 : decode cX11_signs 41 = .ok (.iinc 2 1, 3) := by decide +kernel
theorem dccX11_signs_44 : decode cX11_signs 44 = .ok (.goto (-34), 3) := by decide +kernel
theorem dccX11_signs_47 : decode cX11_signs 47 = .ok (.aload_n 1, 1) := by decide +kernel
theorem dccX11_signs_48 : decode cX11_signs 48 = .ok (.invokevirtual 324, 3) := by decide +kernel
theorem dccX11_signs_51 : decode cX11_signs 51 = .ok (.areturn, 1) := by decide +kernel
theorem dccX11_street_0 : decode cX11_street 0 = .ok (.iload_n 1, 1) := by decide +kernel
theorem dccX11_street_1 : decode cX11_street 1 = .ok (.iconst 0, 1) := by decide +kernel
theorem dccX11_street_2 : decode cX11_street 2 = .ok (.bipush 99, 2) := by decide +kernel
theorem dccX11_street_4 : decode cX11_street 4 = .ok (.invokestatic 73, 3) := by decide +kernel
theorem dccX11_street_7 : decode cX11_street 7 = .ok (.ifCond .eq 13, 3) := by decide +kernel
theorem dccX11_street_10 : decode cX11_street 10 = .ok (.iload_n 2, 1) := by decide +kernel
theorem dccX11_street_11 : decode cX11_street 11 = .ok (.iconst 0, 1) := by decide +kernel
theorem dccX11_street_12 : decode cX11_street 12 = .ok (.bipush 99, 2) := by decide +kernel
theorem dccX11_street_14 : decode cX11_street 14 = .ok (.invokestatic 73, 3) := by decide +kernel
theorem dccX11_street_17 : decode cX11_street 17 = .ok (.ifCond .ne 13, 3) := by decide +kernel
theorem dccX11_street_20 : decode cX11_street 20 = .ok (.new 77, 3) := by decide +kernel
theorem dccX11_street_23 : decode cX11_street 23 = .ok (.dup, 1) := by decide +kernel
theorem dccX11_street_24 : decode cX11_street 24 = .ok (.ldc 79, 2) := by decide +kernel
theorem dccX11_street_26 : decode cX11_street 26 = .ok (.invokespecial 81, 3) := by decide +kernel
theorem dccX11_street_29 : decode cX11_street 29 = .ok (.athrow, 1) := by decide +kernel
theorem dccX11_street_30 : decode cX11_street 30 = .ok (.aload_n 0, 1) := by decide +kernel
theorem dccX11_street_31 : decode cX11_street 31 = .ok (.getfield 24, 3) := by decide +kernel
theorem dccX11_street_34 : decode cX11_street 34 = .ok (.invokevirtual 84, 3) := by decide +kernel
theorem dccX11_street_37 : decode cX11_street 37 = .ok (.istore_n 3, 1) := by decide +kernel
theorem dccX11_street_38 : decode cX11_street 38 = .ok (.iload_n 3, 1) := by decide +kernel
theorem dccX11_street_39 : decode cX11_street 39 = .ok (.bipush 6, 2) := by decide +kernel
theorem dccX11_street_41 : decode cX11_street 41 = .ok (.if_icmp .lt 13, 3) := by decide +kernel
theorem dccX11_street_44 : decode cX11_street 44 = .ok (.new 88, 3) := by decide +kernel
theorem dccX11_street_47 : decode cX11_street 47 = .ok (.dup, 1) := by decide +kernel
theorem dccX11_street_48 : decode cX11_street 48 = .ok (.ldc 90, 2) := by decide +kernel
theorem dccX11_street_50 : decode cX11_street 50 = .ok (.invokespecial 92, 3) := by decide +kernel
theorem dccX11_street_53 : decode cX11_street 53 = .ok (.athrow, 1) := by decide +kernel
theorem dccX11_street_54 : decode cX11_street 54 = .ok (.aload_n 0, 1) := by decide +kernel
theorem dccX11_street_55 : decode cX11_street 55 = .ok (.getfield 24, 3) := by decide +kernel
theorem dccX11_street_58 : decode cX11_street 58 = .ok (.new 93, 3) := by decide +kernel
theorem dccX11_street_61 : decode cX11_street 61 = .ok (.dup, 1) := by decide +kernel
theorem dccX11_street_62 : decode cX11_street 62 = .ok (.iload_n 3, 1) := by decide +kernel
theorem dccX11_street_63 : decode cX11_street 63 = .ok (.iload_n 1, 1) := by decide +kernel
theorem dccX11_street_64 : decode cX11_street 64 = .ok (.iload_n 2, 1) := by decide +kernel
theorem dccX11_street_65 : decode cX11_street 65 = .ok (.invokespecial 95, 3) := by decide +kernel
theorem dccX11_street_68 : decode cX11_street 68 = .ok (.invokevirtual 98, 3) := by decide +kernel
theorem dccX11_street_71 : decode cX11_street 71 = .ok (.pop, 1) := by decide +kernel
theorem dccX11_street_72 : decode cX11_street 72 = .ok (.iload_n 3, 1) := by decide +kernel
theorem dccX11_street_73 : decode cX11_street 73 = .ok (.ireturn, 1) := by decide +kernel
theorem dccX11_strike_0 : decode cX11_strike 0 = .ok (.iload_n 1, 1) := by decide +kernel
theorem dccX11_strike_1 : decode cX11_strike 1 = .ok (.ifCond .lt 17, 3) := by decide +kernel
theorem dccX11_strike_4 : decode cX11_strike 4 = .ok (.iload_n 1, 1) := by decide +kernel
theorem dccX11_strike_5 : decode cX11_strike 5 = .ok (.aload_n 0, 1) := by decide +kernel
theorem dccX11_strike_6 : decode cX11_strike 6 = .ok (.getfield 69, 3) := by decide +kernel
theorem dccX11_strike_9 : decode cX11_strike 9 = .ok (.getfield 210, 3) := by decide +kernel
theorem dccX11_strike_12 : decode cX11_strike 12 = .ok (.invokevirtual 84, 3) := by decide +kernel
theorem dccX11_strike_15 : decode cX11_strike 15 = .ok (.if_icmp .lt 13, 3) := by decide +kernel
theorem dccX11_strike_18 : decode cX11_strike 18 = .ok (.new 112, 3) := by decide +kernel
theorem dccX11_strike_21 : decode cX11_strike 21 = .ok (.dup, 1) := by decide +kernel
theorem dccX11_strike_22 : decode cX11_strike 22 = .ok (.ldc 219, 2) := by decide +kernel
theorem dccX11_strike_24 : decode cX11_strike 24 = .ok (.invokespecial 116, 3) := by decide +kernel
theorem dccX11_strike_27 : decode cX11_strike 27 = .ok (.athrow, 1) := by decide +kernel
theorem dccX11_strike_28 : decode cX11_strike 28 = .ok (.aload_n 0, 1) := by decide +kernel
theorem dccX11_strike_29 : decode cX11_strike 29 = .ok (.getfield 69, 3) := by decide +kernel
theorem dccX11_strike_32 : decode cX11_strike 32 = .ok (.getfield 210, 3) := by decide +kernel
theorem dccX11_strike_35 : decode cX11_strike 35 = .ok (.iload_n 1, 1) := by decide +kernel
theorem dccX11_strike_36 : decode cX11_strike 36 = .ok (.invokevirtual 119, 3) := by decide +kernel
theorem dccX11_strike_39 : decode cX11_strike 39 = .ok (.checkcast 215, 3) := by decide +kernel
theorem dccX11_strike_42 : decode cX11_strike 42 = .ok (.iload_n 2, 1) := by decide +kernel
theorem dccX11_strike_43 : decode cX11_strike 43 = .ok (.putfield 221, 3) := by decide +kernel
theorem dccX11_strike_46 : decode cX11_strike 46 = .ok (.aload_n 0, 1) := by decide +kernel
theorem dccX11_strike_47 : decode cX11_strike 47 = .ok (.getfield 69, 3) := by decide +kernel
theorem dccX11_strike_50 : decode cX11_strike 50 = .ok (.invokevirtual 225, 3) := by decide +kernel
theorem dccX11_strike_53 : decode cX11_strike 53 = .ok (.ireturn, 1) := by decide +kernel
theorem dccX11_would_0 : decode cX11_would 0 = .ok (.iload_n 1, 1) := by decide +kernel
theorem dccX11_would_1 : decode cX11_would 1 = .ok (.iconst 1, 1) := by decide +kernel
theorem dccX11_would_2 : decode cX11_would 2 = .ok (.bipush 99, 2) := by decide +kernel
theorem dccX11_would_4 : decode cX11_would 4 = .ok (.invokestatic 73, 3) := by decide +kernel
theorem dccX11_would_7 : decode cX11_would 7 = .ok (.ifCond .eq 13, 3) := by decide +kernel
theorem dccX11_would_10 : decode cX11_would 10 = .ok (.iload_n 2, 1) := by decide +kernel
theorem dccX11_would_11 : decode cX11_would 11 = .ok (.iconst 0, 1) := by decide +kernel
theorem dccX11_would_12 : decode cX11_would 12 = .ok (.bipush 99, 2) := by decide +kernel
theorem dccX11_would_14 : decode cX11_would 14 = .ok (.invokestatic 73, 3) := by decide +kernel
theorem dccX11_would_17 : decode cX11_would 17 = .ok (.ifCond .ne 13, 3) := by decide +kernel
theorem dccX11_would_20 : decode cX11_would 20 = .ok (.new 77, 3) := by decide +kernel
theorem dccX11_would_23 : decode cX11_would 23 = .ok (.dup, 1) := by decide +kernel
theorem dccX11_would_24 : decode cX11_would 24 = .ok (.ldc 186, 2) := by decide +kernel
theorem dccX11_would_26 : decode cX11_would 26 = .ok (.invokespecial 81, 3) := by decide +kernel
theorem dccX11_would_29 : decode cX11_would 29 = .ok (.athrow, 1) := by decide +kernel
theorem dccX11_would_30 : decode cX11_would 30 = .ok (.iload_n 1, 1) := by decide +kernel
theorem dccX11_would_31 : decode cX11_would 31 = .ok (.aload_n 0, 1) := by decide +kernel
theorem dccX11_would_32 : decode cX11_would 32 = .ok (.getfield 62, 3) := by decide +kernel
theorem dccX11_would_35 : decode cX11_would 35 = .ok (.aload_n 0, 1) := by decide +kernel
theorem dccX11_would_36 : decode cX11_would 36 = .ok (.getfield 18, 3) := by decide +kernel
theorem dccX11_would_39 : decode cX11_would 39 = .ok (.getfield 171, 3) := by decide +kernel
theorem dccX11_would_42 : decode cX11_would 42 = .ok (.iload_n 2, 1) := by decide +kernel
theorem dccX11_would_43 : decode cX11_would 43 = .ok (.iadd, 1) := by decide +kernel
theorem dccX11_would_44 : decode cX11_would 44 = .ok (.invokevirtual 299, 3) := by decide +kernel
theorem dccX11_would_47 : decode cX11_would 47 = .ok (.invokestatic 343, 3) := by decide +kernel
theorem dccX11_would_50 : decode cX11_would 50 = .ok (.ireturn, 1) := by decide +kernel
theorem dccX12_init_0 : decode cX12_init 0 = .ok (.aload_n 0, 1) := by decide +kernel
theorem dccX12_init_1 : decode cX12_init 1 = .ok (.invokespecial 1, 3) := by decide +kernel
theorem dccX12_init_4 : decode cX12_init 4 = .ok (.return_, 1) := by decide +kernel
theorem dccX13_init_0 : decode cX13_init 0 = .ok (.aload_n 0, 1) := by decide +kernel
theorem dccX13_init_1 : decode cX13_init 1 = .ok (.invokespecial 1, 3) := by decide +kernel
theorem dccX13_init_4 : decode cX13_init 4 = .ok (.return_, 1) := by decide +kernel
theorem dccX14_add_0 : decode cX14_add 0 = .ok (.aload_n 0, 1) := by decide +kernel
theorem dccX14_add_1 : decode cX14_add 1 = .ok (.aload_n 0, 1) := by decide +kernel
theorem dccX14_add_2 : decode cX14_add 2 = .ok (.getfield 262, 3) := by decide +kernel
theorem dccX14_add_5 : decode cX14_add 5 = .ok (.ldc2_w 266, 3) := by decide +kernel
theorem dccX14_add_8 : decode cX14_add 8 = .ok (.lmul, 1) := by decide +kernel
theorem dccX14_add_9 : decode cX14_add 9 = .ok (.lload_n 1, 1) := by decide +kernel
theorem dccX14_add_10 : decode cX14_add 10 = .ok (.ladd, 1) := by decide +kernel
theorem dccX14_add_11 : decode cX14_add 11 = .ok (.putfield 262, 3) := by decide +kernel
theorem dccX14_add_14 : decode cX14_add 14 = .ok (.return_, 1) := by decide +kernel
theorem dccX14_areAlike_0 : decode cX14_areAlike 0 = .ok (.aload_n 0, 1) := by decide +kernel
theorem dccX14_areAlike_1 : decode cX14_areAlike 1 = .ok (.iload_n 1, 1) := by decide +kernel
theorem dccX14_areAlike_2 : decode cX14_areAlike 2 = .ok (.invokestatic 137, 3) := by decide +kernel
theorem dccX14_areAlike_5 : decode cX14_areAlike 5 = .ok (.ifCond .eq 14, 3) := by decide +kernel
theorem dccX14_areAlike_8 : decode cX14_areAlike 8 = .ok (.iload_n 2, 1) := by decide +kernel
theorem dccX14_areAlike_9 : decode cX14_areAlike 9 = .ok (.invokestatic 137, 3) := by decide +kernel
theorem dccX14_areAlike_12 : decode cX14_areAlike 12 = .ok (.ifCond .eq 7, 3) := by decide +kernel
theorem dccX14_areAlike_15 : decode cX14_areAlike 15 = .ok (.iconst 0, 1) := by decide +kernel
theorem dccX14_areAlike_16 : decode cX14_areAlike 16 = .ok (.goto 4, 3) := by decide +kernel
theorem dccX14_areAlike_19 : decode cX14_areAlike 19 = .ok (.iconst 1, 1) := by decide +kernel
theorem dccX14_areAlike_20 : decode cX14_areAlike 20 = .ok (.putfield 35, 3) := by decide +kernel
theorem dccX14_areAlike_23 : decode cX14_areAlike 23 = .ok (.aload_n 0, 1) := by decide +kernel
theorem dccX14_areAlike_24 : decode cX14_areAlike 24 = .ok (.getfield 35, 3) := by decide +kernel
theorem dccX14_areAlike_27 : decode cX14_areAlike 27 = .ok (.ifCond .ne 15, 3) := by decide +kernel
theorem dccX14_areAlike_30 : decode cX14_areAlike 30 = .ok (.iload_n 1, 1) := by decide +kernel
theorem dccX14_areAlike_31 : decode cX14_areAlike 31 = .ok (.iload_n 2, 1) := by decide +kernel
theorem dccX14_areAlike_32 : decode cX14_areAlike 32 = .ok (.invokestatic 168, 3) := by decide +kernel
theorem dccX14_areAlike_35 : decode cX14_areAlike 35 = .ok (.ifCond .eq 7, 3) := by decide +kernel
theorem dccX14_areAlike_38 : decode cX14_areAlike 38 = .ok (.iconst 1, 1) := by decide +kernel
theorem dccX14_areAlike_39 : decode cX14_areAlike 39 = .ok (.goto 4, 3) := by decide +kernel
theorem dccX14_areAlike_42 : decode cX14_areAlike 42 = .ok (.iconst 0, 1) := by decide +kernel
theorem dccX14_areAlike_43 : decode cX14_areAlike 43 = .ok (.ireturn, 1) := by decide +kernel
theorem dccX14_areLike_0 : decode cX14_areLike 0 = .ok (.iload_n 0, 1) := by decide +kernel
theorem dccX14_areLike_1 : decode cX14_areLike 1 = .ok (.invokestatic 146, 3) := by decide +kernel
theorem dccX14_areLike_4 : decode cX14_areLike 4 = .ok (.iload_n 1, 1) := by decide +kernel
theorem dccX14_areLike_5 : decode cX14_areLike 5 = .ok (.invokestatic 146, 3) := by decide +kernel
theorem dccX14_areLike_8 : decode cX14_areLike 8 = .ok (.if_icmp .eq 41, 3) := by decide +kernel
theorem dccX14_areLike_11 : decode cX14_areLike 11 = .ok (.iload_n 0, 1) := by decide +kernel
theorem dccX14_areLike_12 : decode cX14_areLike 12 = .ok (.invokestatic 146, 3) := by decide +kernel
theorem dccX14_areLike_15 : decode cX14_areLike 15 = .ok (.iload_n 1, 1) := by decide +kernel
theorem dccX14_areLike_16 : decode cX14_areLike 16 = .ok (.invokestatic 146, 3) := by decide +kernel
theorem dccX14_areLike_19 : decode cX14_areLike 19 = .ok (.isub, 1) := by decide +kernel
theorem dccX14_areLike_20 : decode cX14_areLike 20 = .ok (.invokestatic 149, 3) := by decide +kernel
theorem dccX14_areLike_23 : decode cX14_areLike 23 = .ok (.iconst 1, 1) := by decide +kernel
theorem dccX14_areLike_24 : decode cX14_areLike 24 = .ok (.if_icmp .ne 23, 3) := by decide +kernel
theorem dccX14_areLike_27 : decode cX14_areLike 27 = .ok (.iload_n 0, 1) := by decide +kernel
theorem dccX14_areLike_28 : decode cX14_areLike 28 = .ok (.iload_n 1, 1) := by decide +kernel
theorem dccX14_areLike_29 : decode cX14_areLike 29 = .ok (.invokestatic 101, 3) := by decide +kernel
theorem dccX14_areLike_32 : decode cX14_areLike 32 = .ok (.iload_n 0, 1) := by decide +kernel
theorem dccX14_areLike_33 : decode cX14_areLike 33 = .ok (.iload_n 1, 1) := by decide +kernel
theorem dccX14_areLike_34 : decode cX14_areLike 34 = .ok (.invokestatic 95, 3) := by decide +kernel
theorem dccX14_areLike_37 : decode cX14_areLike 37 = .ok (.invokestatic 152, 3) := by decide +kernel
theorem dccX14_areLike_40 : decode cX14_areLike 40 = .ok (.ifCond .eq 7, 3) := by decide +kernel
theorem dccX14_areLike_43 : decode cX14_areLike 43 = .ok (.iconst 1, 1) := by decide +kernel
theorem dccX14_areLike_44 : decode cX14_areLike 44 = .ok (.goto 4, 3) := by decide +kernel
theorem dccX14_areLike_47 : decode cX14_areLike 47 = .ok (.iconst 0, 1) := by decide +kernel
theorem dccX14_areLike_48 : decode cX14_areLike 48 = .ok (.ireturn, 1) := by decide +kernel
theorem dccX14_areLike_49 : decode cX14_areLike 49 = .ok (.iconst 0, 1) := by decide +kernel
theorem dccX14_areLike_50 : decode cX14_areLike 50 = .ok (.istore_n 2, 1) := by decide +kernel
theorem dccX14_areLike_51 : decode cX14_areLike 51 = .ok (.iload_n 1, 1) := by decide +kernel
theorem dccX14_areLike_52 : decode cX14_areLike 52 = .ok (.istore_n 3, 1) := by decide +kernel
theorem dccX14_areLike_53 : decode cX14_areLike 53 = .ok (.iload_n 0, 1) := by decide +kernel
theorem dccX14_areLike_54 : decode cX14_areLike 54 = .ok (.istore 4, 2) := by decide +kernel
theorem dccX14_areLike_56 : decode cX14_areLike 56 = .ok (.iload 4, 2) := by decide +kernel
theorem dccX14_areLike_58 : decode cX14_areLike 58 = .ok (.ifCond .le 38, 3) := by decide +kernel
theorem dccX14_areLike_61 : decode cX14_areLike 61 = .ok (.iload_n 2, 1) := by decide +kernel
theorem dccX14_areLike_62 : decode cX14_areLike 62 = .ok (.iload 4, 2) := by decide +kernel
theorem dccX14_areLike_64 : decode cX14_areLike 64 = .ok (.bipush 10, 2) := by decide +kernel
theorem dccX14_areLike_66 : decode cX14_areLike 66 = .ok (.irem, 1) := by decide +kernel
theorem dccX14_areLike_67 : decode cX14_areLike 67 = .ok (.iload_n 3, 1) := by decide +kernel
theorem dccX14_areLike_68 : decode cX14_areLike 68 = .ok (.bipush 10, 2) := by decide +kernel
theorem dccX14_areLike_70 : decode cX14_areLike 70 = .ok (.irem, 1) := by decide +kernel
theorem dccX14_areLike_71 : decode cX14_areLike 71 = .ok (.if_icmp .eq 7, 3) := by decide +kernel
theorem dccX14_areLike_74 : decode cX14_areLike 74 = .ok (.iconst 1, 1) := by decide +kernel
theorem dccX14_areLike_75 : decode cX14_areLike 75 = .ok (.goto 4, 3) := by decide +kernel
theorem dccX14_areLike_78 : decode cX14_areLike 78 = .ok (.iconst 0, 1) := by decide +kernel
theorem dccX14_areLike_79 : decode cX14_areLike 79 = .ok (.iadd, 1) := by decide +kernel
theorem dccX14_areLike_80 : decode cX14_areLike 80 = .ok (.istore_n 2, 1) := by decide +kernel
theorem dccX14_areLike_81 : decode cX14_areLike 81 = .ok (.iload_n 3, 1) := by decide +kernel
theorem dccX14_areLike_82 : decode cX14_areLike 82 = .ok (.bipush 10, 2) := by decide +kernel
theorem dccX14_areLike_84 : decode cX14_areLike 84 = .ok (.idiv, 1) := by decide +kernel
theorem dccX14_areLike_85 : decode cX14_areLike 85 = .ok (.istore_n 3, 1) := by decide +kernel
theorem dccX14_areLike_86 : decode cX14_areLike 86 = .ok (.iload 4, 2) := by decide +kernel
theorem dccX14_areLike_88 : decode cX14_areLike 88 = .ok (.bipush 10, 2) := by decide +kernel
theorem dccX14_areLike_90 : decode cX14_areLike 90 = .ok (.idiv, 1) := by decide +kernel
theorem dccX14_areLike_91 : decode cX14_areLike 91 = .ok (.istore 4, 2) := by decide +kernel
theorem dccX14_areLike_93 : decode cX14_areLike 93 = .ok (.goto (-37), 3) := by decide +kernel
theorem dccX14_areLike_96 : decode cX14_areLike 96 = .ok (.iload_n 2, 1) := by decide +kernel
theorem dccX14_areLike_97 : decode cX14_areLike 97 = .ok (.iconst 1, 1) := by decide +kernel
theorem dccX14_areLike_98 : decode cX14_areLike 98 = .ok (.if_icmp .gt 7, 3) := by decide +kernel
theorem dccX14_areLike_101 : decode cX14_areLike 101 = .ok (.iconst 1, 1) := by decide +kernel
theorem dccX14_areLike_102 : decode cX14_areLike 102 = .ok (.goto 4, 3) := by decide +kernel
theorem dccX14_areLike_105 : decode cX14_areLike 105 = .ok (.iconst 0, 1) := by decide +kernel
theorem dccX14_areLike_106 : decode cX14_areLike 106 = .ok (.ireturn, 1) := by decide +kernel
theorem dccX14_asked_0 : decode cX14_asked 0 = .ok (.iconst 0, 1) := by decide +kernel
theorem dccX14_asked_1 : decode cX14_asked 1 = .ok (.istore_n 2, 1) := by decide +kernel
theorem dccX14_asked_2 : decode cX14_asked 2 = .ok (.aload_n 0, 1) := by decide +kernel
theorem dccX14_asked_3 : decode cX14_asked 3 = .ok (.invokevirtual 186, 3) := by decide +kernel
theorem dccX14_asked_6 : decode cX14_asked 6 = .ok (.istore_n 3, 1) := by decide +kernel
theorem dccX14_asked_7 : decode cX14_asked 7 = .ok (.iconst 0, 1) := by decide +kernel
theorem dccX14_asked_8 : decode cX14_asked 8 = .ok (.istore 4, 2) := by decide +kernel
theorem dccX14_asked_10 : decode cX14_asked 10 = .ok (.iload 4, 2) := by decide +kernel
theorem dccX14_asked_12 : decode cX14_asked 12 = .ok (.aload_n 1, 1) := by decide +kernel
theorem dccX14_asked_13 : decode cX14_asked 13 = .ok (.arraylength, 1) := by decide +kernel
theorem dccX14_asked_14 : decode cX14_asked 14 = .ok (.if_icmp .ge 71, 3) := by decide +kernel
theorem dccX14_asked_17 : decode cX14_asked 17 = .ok (.iconst 0, 1) := by decide +kernel
theorem dccX14_asked_18 : decode cX14_asked 18 = .ok (.istore 5, 2) := by decide +kernel
theorem dccX14_asked_20 : decode cX14_asked 20 = .ok (.iload 5, 2) := by decide +kernel
theorem dccX14_asked_22 : decode cX14_asked 22 = .ok (.aload_n 0, 1) := by decide +kernel
theorem dccX14_asked_23 : decode cX14_asked 23 = .ok (.getfield 23, 3) := by decide +kernel
theorem dccX14_asked_26 : decode cX14_asked 26 = .ok (.invokevirtual 38, 3) := by decide +kernel
theorem dccX14_asked_29 : decode cX14_asked 29 = .ok (.if_icmp .ge 50, 3) := by decide +kernel
theorem dccX14_asked_32 : decode cX14_asked 32 = .ok (.iload_n 3, 1) := by decide +kernel
theorem dccX14_asked_33 : decode cX14_asked 33 = .ok (.iload 4, 2) := by decide +kernel
theorem dccX14_asked_35 : decode cX14_asked 35 = .ok (.invokestatic 162, 3) := by decide +kernel
theorem dccX14_asked_38 : decode cX14_asked 38 = .ok (.ifCond .eq 41, 3) := by decide +kernel
theorem dccX14_asked_41 : decode cX14_asked 41 = .ok (.iload_n 2, 1) := by decide +kernel
theorem dccX14_asked_42 : decode cX14_asked 42 = .ok (.iload 5, 2) := by decide +kernel
theorem dccX14_asked_44 : decode cX14_asked 44 = .ok (.aload_n 1, 1) := by decide +kernel
theorem dccX14_asked_45 : decode cX14_asked 45 = .ok (.iload 4, 2) := by decide +kernel
theorem dccX14_asked_47 : decode cX14_asked 47 = .ok (.iaload, 1) := by decide +kernel
theorem dccX14_asked_48 : decode cX14_asked 48 = .ok (.if_icmp .eq 18, 3) := by decide +kernel
theorem dccX14_asked_51 : decode cX14_asked 51 = .ok (.aload_n 0, 1) := by decide +kernel
theorem dccX14_asked_52 : decode cX14_asked 52 = .ok (.iload 4, 2) := by decide +kernel
theorem dccX14_asked_54 : decode cX14_asked 54 = .ok (.iload 5, 2) := by decide +kernel
theorem dccX14_asked_56 : decode cX14_asked 56 = .ok (.aload_n 1, 1) := by decide +kernel
theorem dccX14_asked_57 : decode cX14_asked 57 = .ok (.iload 4, 2) := by decide +kernel
theorem dccX14_asked_59 : decode cX14_asked 59 = .ok (.iaload, 1) := by decide +kernel
theorem dccX14_asked_60 : decode cX14_asked 60 = .ok (.invokevirtual 192, 3) := by decide +kernel
theorem dccX14_asked_63 : decode cX14_asked 63 = .ok (.ifCond .eq 7, 3) := by decide +kernel
theorem dccX14_asked_66 : decode cX14_asked 66 = .ok (.iconst 1, 1) := by decide +kernel
theorem dccX14_asked_67 : decode cX14_asked 67 = .ok (.goto 4, 3) := by decide +kernel
theorem dccX14_asked_70 : decode cX14_asked 70 = .ok (.iconst 0, 1) := by decide +kernel
theorem dccX14_asked_71 : decode cX14_asked 71 = .ok (.iadd, 1) := by decide +kernel
theorem dccX14_asked_72 : decode cX14_asked 72 = .ok (.istore_n 2, 1) := by decide +kernel
theorem dccX14_asked_73 : decode cX14_asked 73 = .ok (.iinc 5 1, 3) := by decide +kernel
theorem dccX14_asked_76 : decode cX14_asked 76 = .ok (.goto (-56), 3) := by decide +kernel
theorem dccX14_asked_79 : decode cX14_asked 79 = .ok (.iinc 4 1, 3) := by decide +kernel
theorem dccX14_asked_82 : decode cX14_asked 82 = .ok (.goto (-72), 3) := by decide +kernel
theorem dccX14_asked_85 : decode cX14_asked 85 = .ok (.iload_n 2, 1) := by decide +kernel
theorem dccX14_asked_86 : decode cX14_asked 86 = .ok (.ireturn, 1) := by decide +kernel
theorem dccX14_buses_0 : decode cX14_buses 0 = .ok (.aload_n 0, 1) := by decide +kernel
theorem dccX14_buses_1 : decode cX14_buses 1 = .ok (.iconst 0, 1) := by decide +kernel
theorem dccX14_buses_2 : decode cX14_buses 2 = .ok (.putfield 35, 3) := by decide +kernel
theorem dccX14_buses_5 : decode cX14_buses 5 = .ok (.iload_n 1, 1) := by decide +kernel
theorem dccX14_buses_6 : decode cX14_buses 6 = .ok (.iconst 0, 1) := by decide +kernel
theorem dccX14_buses_7 : decode cX14_buses 7 = .ok (.iconst 3, 1) := by decide +kernel
theorem dccX14_buses_8 : decode cX14_buses 8 = .ok (.invokestatic 42, 3) := by decide +kernel
theorem dccX14_buses_11 : decode cX14_buses 11 = .ok (.ifCond .ne 9, 3) := by decide +kernel
theorem dccX14_buses_14 : decode cX14_buses 14 = .ok (.aload_n 0, 1) := by decide +kernel
theorem dccX14_buses_15 : decode cX14_buses 15 = .ok (.iconst 1, 1) := by decide +kernel
theorem dccX14_buses_16 : decode cX14_buses 16 = .ok (.invokevirtual 46, 3) := by decide +kernel
theorem dccX14_buses_19 : decode cX14_buses 19 = .ok (.ireturn, 1) := by decide +kernel
theorem dccX14_buses_20 : decode cX14_buses 20 = .ok (.aload_n 0, 1) := by decide +kernel
theorem dccX14_buses_21 : decode cX14_buses 21 = .ok (.getfield 13, 3) := by decide +kernel
theorem dccX14_buses_24 : decode cX14_buses 24 = .ok (.istore_n 2, 1) := by decide +kernel
theorem dccX14_buses_25 : decode cX14_buses 25 = .ok (.aload_n 0, 1) := by decide +kernel
theorem dccX14_buses_26 : decode cX14_buses 26 = .ok (.iload_n 1, 1) := by decide +kernel
theorem dccX14_buses_27 : decode cX14_buses 27 = .ok (.putfield 13, 3) := by decide +kernel
theorem dccX14_buses_30 : decode cX14_buses 30 = .ok (.iload_n 2, 1) := by decide +kernel
theorem dccX14_buses_31 : decode cX14_buses 31 = .ok (.ireturn, 1) := by decide +kernel
theorem dccX14_can_0 : decode cX14_can 0 = .ok (.aload_n 0, 1) := by decide +kernel
theorem dccX14_can_1 : decode cX14_can 1 = .ok (.iload_n 1, 1) := by decide +kernel
theorem dccX14_can_2 : decode cX14_can 2 = .ok (.iconst 0, 1) := by decide +kernel
theorem dccX14_can_3 : decode cX14_can 3 = .ok (.iconst 1, 1) := by decide +kernel
theorem dccX14_can_4 : decode cX14_can 4 = .ok (.aload_n 0, 1) := by decide +kernel
theorem dccX14_can_5 : decode cX14_can 5 = .ok (.getfield 26, 3) := by decide +kernel
theorem dccX14_can_8 : decode cX14_can 8 = .ok (.invokevirtual 38, 3) := by decide +kernel
theorem dccX14_can_11 : decode cX14_can 11 = .ok (.ishl, 1) := by decide +kernel
theorem dccX14_can_12 : decode cX14_can 12 = .ok (.iconst 1, 1) := by decide +kernel
theorem dccX14_can_13 : decode cX14_can 13 = .ok (.isub, 1) := by decide +kernel
theorem dccX14_can_14 : decode cX14_can 14 = .ok (.invokestatic 42, 3) := by decide +kernel
theorem dccX14_can_17 : decode cX14_can 17 = .ok (.ifCond .eq 7, 3) := by decide +kernel
theorem dccX14_can_20 : decode cX14_can 20 = .ok (.iconst 0, 1) := by decide +kernel
theorem dccX14_can_21 : decode cX14_can 21 = .ok (.goto 4, 3) := by decide +kernel
theorem dccX14_can_24 : decode cX14_can 24 = .ok (.iconst 1, 1) := by decide +kernel
theorem dccX14_can_25 : decode cX14_can 25 = .ok (.putfield 35, 3) := by decide +kernel
theorem dccX14_can_28 : decode cX14_can 28 = .ok (.aload_n 0, 1) := by decide +kernel
theorem dccX14_can_29 : decode cX14_can 29 = .ok (.getfield 35, 3) := by decide +kernel
theorem dccX14_can_32 : decode cX14_can 32 = .ok (.ifCond .ne 15, 3) := by decide +kernel
theorem dccX14_can_35 : decode cX14_can 35 = .ok (.aload_n 0, 1) := by decide +kernel
theorem dccX14_can_36 : decode cX14_can 36 = .ok (.iload_n 1, 1) := by decide +kernel
theorem dccX14_can_37 : decode cX14_can 37 = .ok (.invokevirtual 180, 3) := by decide +kernel
theorem dccX14_can_40 : decode cX14_can 40 = .ok (.ifCond .eq 7, 3) := by decide +kernel
theorem dccX14_can_43 : decode cX14_can 43 = .ok (.iconst 1, 1) := by decide +kernel
theorem dccX14_can_44 : decode cX14_can 44 = .ok (.goto 4, 3) := by decide +kernel
theorem dccX14_can_47 : decode cX14_can 47 = .ok (.iconst 0, 1) := by decide +kernel
theorem dccX14_can_48 : decode cX14_can 48 = .ok (.ireturn, 1) := by decide +kernel
theorem dccX14_canNow_0 : decode cX14_canNow 0 = .ok (.iconst 0, 1) := by decide +kernel
theorem dccX14_canNow_1 : decode cX14_canNow 1 = .ok (.istore_n 2, 1) := by decide +kernel
theorem dccX14_canNow_2 : decode cX14_canNow 2 = .ok (.iload_n 2, 1) := by decide +kernel
theorem dccX14_canNow_3 : decode cX14_canNow 3 = .ok (.aload_n 0, 1) := by decide +kernel
theorem dccX14_canNow_4 : decode cX14_canNow 4 = .ok (.getfield 26, 3) := by decide +kernel
theorem dccX14_canNow_7 : decode cX14_canNow 7 = .ok (.invokevirtual 38, 3) := by decide +kernel
theorem dccX14_canNow_10 : decode cX14_canNow 10 = .ok (.if_icmp .ge 141, 3) := by decide +kernel
theorem dccX14_canNow_13 : decode cX14_canNow 13 = .ok (.iload_n 1, 1) := by decide +kernel
theorem dccX14_canNow_14 : decode cX14_canNow 14 = .ok (.iload_n 2, 1) := by decide +kernel
theorem dccX14_canNow_15 : decode cX14_canNow 15 = .ok (.invokestatic 162, 3) := by decide +kernel
theorem dccX14_canNow_18 : decode cX14_canNow 18 = .ok (.ifCond .ne 6, 3) := by decide +kernel
theorem dccX14_canNow_21 : decode cX14_canNow 21 = .ok (.goto 124, 3) := by decide +kernel
theorem dccX14_canNow_24 : decode cX14_canNow 24 = .ok (.aload_n 0, 1) := by decide +kernel
theorem dccX14_canNow_25 : decode cX14_canNow 25 = .ok (.aload_n 0, 1) := by decide +kernel
theorem dccX14_canNow_26 : decode cX14_canNow 26 = .ok (.getfield 26, 3) := by decide +kernel
theorem dccX14_canNow_29 : decode cX14_canNow 29 = .ok (.iload_n 2, 1) := by decide +kernel
theorem dccX14_canNow_30 : decode cX14_canNow 30 = .ok (.invokevirtual 58, 3) := by decide +kernel
theorem dccX14_canNow_33 : decode cX14_canNow 33 = .ok (.checkcast 67, 3) := by decide +kernel
theorem dccX14_canNow_36 : decode cX14_canNow 36 = .ok (.getfield 70, 3) := by decide +kernel
theorem dccX14_canNow_39 : decode cX14_canNow 39 = .ok (.invokevirtual 177, 3) := by decide +kernel
theorem dccX14_canNow_42 : decode cX14_canNow 42 = .ok (.istore_n 3, 1) := by decide +kernel
theorem dccX14_canNow_43 : decode cX14_canNow 43 = .ok (.aload_n 0, 1) := by decide +kernel
theorem dccX14_canNow_44 : decode cX14_canNow 44 = .ok (.getfield 26, 3) := by decide +kernel
theorem dccX14_canNow_47 : decode cX14_canNow 47 = .ok (.iload_n 2, 1) := by decide +kernel
theorem dccX14_canNow_48 : decode cX14_canNow 48 = .ok (.invokevirtual 58, 3) := by decide +kernel
theorem dccX14_canNow_51 : decode cX14_canNow 51 = .ok (.checkcast 67, 3) := by decide +kernel
theorem dccX14_canNow_54 : decode cX14_canNow 54 = .ok (.getfield 83, 3) := by decide +kernel
theorem dccX14_canNow_57 : decode cX14_canNow 57 = .ok (.ifCond .ne 7, 3) := by decide +kernel
theorem dccX14_canNow_60 : decode cX14_canNow 60 = .ok (.iload_n 3, 1) := by decide +kernel
theorem dccX14_canNow_61 : decode cX14_canNow 61 = .ok (.ifCond .ne 5, 3) := by decide +kernel
theorem dccX14_canNow_64 : decode cX14_canNow 64 = .ok (.iconst 0, 1) := by decide +kernel
theorem dccX14_canNow_65 : decode cX14_canNow 65 = .ok (.ireturn, 1) := by decide +kernel
theorem dccX14_canNow_66 : decode cX14_canNow 66 = .ok (.iconst 0, 1) := by decide +kernel
theorem dccX14_canNow_67 : decode cX14_canNow 67 = .ok (.istore 4, 2) := by decide +kernel
theorem dccX14_canNow_69 : decode cX14_canNow 69 = .ok (.iconst 0, 1) := by decide +kernel
theorem dccX14_canNow_70 : decode cX14_canNow 70 = .ok (.istore 5, 2) := by decide +kernel
theorem dccX14_canNow_72 : decode cX14_canNow 72 = .ok (.iload 5, 2) := by decide +kernel
theorem dccX14_canNow_74 : decode cX14_canNow 74 = .ok (.aload_n 0, 1) := by decide +kernel
theorem dccX14_canNow_75 : decode cX14_canNow 75 = .ok (.getfield 26, 3) := by decide +kernel
theorem dccX14_canNow_78 : decode cX14_canNow 78 = .ok (.invokevirtual 38, 3) := by decide +kernel
theorem dccX14_canNow_81 : decode cX14_canNow 81 = .ok (.if_icmp .ge 51, 3) := by decide +kernel
theorem dccX14_canNow_84 : decode cX14_canNow 84 = .ok (.iload 4, 2) := by decide +kernel
theorem dccX14_canNow_86 : decode cX14_canNow 86 = .ok (.iload_n 1, 1) := by decide +kernel
theorem dccX14_canNow_87 : decode cX14_canNow 87 = .ok (.iload 5, 2) := by decide +kernel
theorem dccX14_canNow_89 : decode cX14_canNow 89 = .ok (.invokestatic 162, 3) := by decide +kernel
theorem dccX14_canNow_92 : decode cX14_canNow 92 = .ok (.ifCond .eq 30, 3) := by decide +kernel
theorem dccX14_canNow_95 : decode cX14_canNow 95 = .ok (.aload_n 0, 1) := by decide +kernel
theorem dccX14_canNow_96 : decode cX14_canNow 96 = .ok (.aload_n 0, 1) := by decide +kernel
theorem dccX14_canNow_97 : decode cX14_canNow 97 = .ok (.getfield 26, 3) := by decide +kernel
theorem dccX14_canNow_100 : decode cX14_canNow 100 = .ok (.iload 5, 2) := by decide +kernel
theorem dccX14_canNow_102 : decode cX14_canNow 102 = .ok (.invokevirtual 58, 3) := by decide +kernel
theorem dccX14_canNow_105 : decode cX14_canNow 105 = .ok (.checkcast 67, 3) := by decide +kernel
theorem dccX14_canNow_108 : decode cX14_canNow 108 = .ok (.getfield 70, 3) := by decide +kernel
theorem dccX14_canNow_111 : decode cX14_canNow 111 = .ok (.invokevirtual 177, 3) := by decide +kernel
theorem dccX14_canNow_114 : decode cX14_canNow 114 = .ok (.iload_n 3, 1) := by decide +kernel
theorem dccX14_canNow_115 : decode cX14_canNow 115 = .ok (.if_icmp .gt 7, 3) := by decide +kernel
theorem dccX14_canNow_118 : decode cX14_canNow 118 = .ok (.iconst 1, 1) := by decide +kernel
theorem dccX14_canNow_119 : decode cX14_canNow 119 = .ok (.goto 4, 3) := by decide +kernel
theorem dccX14_canNow_122 : decode cX14_canNow 122 = .ok (.iconst 0, 1) := by decide +kernel
theorem dccX14_canNow_123 : decode cX14_canNow 123 = .ok (.iadd, 1) := by decide +kernel
theorem dccX14_canNow_124 : decode cX14_canNow 124 = .ok (.istore 4, 2) := by decide +kernel
theorem dccX14_canNow_126 : decode cX14_canNow 126 = .ok (.iinc 5 1, 3) := by decide +kernel
theorem dccX14_canNow_129 : decode cX14_canNow 129 = .ok (.goto (-57), 3) := by decide +kernel
theorem dccX14_canNow_132 : decode cX14_canNow 132 = .ok (.iload 4, 2) := by decide +kernel
theorem dccX14_canNow_134 : decode cX14_canNow 134 = .ok (.aload_n 0, 1) := by decide +kernel
theorem dccX14_canNow_135 : decode cX14_canNow 135 = .ok (.getfield 13, 3) := by decide +kernel
theorem dccX14_canNow_138 : decode cX14_canNow 138 = .ok (.iload_n 3, 1) := by decide +kernel
theorem dccX14_canNow_139 : decode cX14_canNow 139 = .ok (.imul, 1) := by decide +kernel
theorem dccX14_canNow_140 : decode cX14_canNow 140 = .ok (.if_icmp .le 5, 3) := by decide +kernel
theorem dccX14_canNow_143 : decode cX14_canNow 143 = .ok (.iconst 0, 1) := by decide +kernel
theorem dccX14_canNow_144 : decode cX14_canNow 144 = .ok (.ireturn, 1) := by decide +kernel
theorem dccX14_canNow_145 : decode cX14_canNow 145 = .ok (.iinc 2 1, 3) := by decide +kernel
theorem dccX14_canNow_148 : decode cX14_canNow 148 = .ok (.goto (-146), 3) := by decide +kernel
theorem dccX14_canNow_151 : decode cX14_canNow 151 = .ok (.iconst 1, 1) := by decide +kernel
theorem dccX14_canNow_152 : decode cX14_canNow 152 = .ok (.ireturn, 1) := by decide +kernel
theorem dccX14_chosen_0 : decode cX14_chosen 0 = .ok (.aload_n 0, 1) := by decide +kernel
theorem dccX14_chosen_1 : decode cX14_chosen 1 = .ok (.iconst 0, 1) := by decide +kernel
theorem dccX14_chosen_2 : decode cX14_chosen 2 = .ok (.putfield 35, 3) := by decide +kernel
theorem dccX14_chosen_5 : decode cX14_chosen 5 = .ok (.aload_n 0, 1) := by decide +kernel
theorem dccX14_chosen_6 : decode cX14_chosen 6 = .ok (.aload_n 0, 1) := by decide +kernel
theorem dccX14_chosen_7 : decode cX14_chosen 7 = .ok (.invokevirtual 212, 3) := by decide +kernel
theorem dccX14_chosen_10 : decode cX14_chosen 10 = .ok (.invokevirtual 218, 3) := by decide +kernel
theorem dccX14_chosen_13 : decode cX14_chosen 13 = .ok (.ireturn, 1) := by decide +kernel
theorem dccX14_chosenSet_0 : decode cX14_chosenSet 0 = .ok (.iconst 0, 1) := by decide +kernel
theorem dccX14_chosenSet_1 : decode cX14_chosenSet 1 = .ok (.istore_n 1, 1) := by decide +kernel
theorem dccX14_chosenSet_2 : decode cX14_chosenSet 2 = .ok (.bipush 9, 2) := by decide +kernel
theorem dccX14_chosenSet_4 : decode cX14_chosenSet 4 = .ok (.istore_n 2, 1) := by decide +kernel
theorem dccX14_chosenSet_5 : decode cX14_chosenSet 5 = .ok (.iload_n 2, 1) := by decide +kernel
theorem dccX14_chosenSet_6 : decode cX14_chosenSet 6 = .ok (.ifCond .le 64, 3) := by decide +kernel
theorem dccX14_chosenSet_9 : decode cX14_chosenSet 9 = .ok (.iconst 0, 1) := by decide +kernel
theorem dccX14_chosenSet_10 : decode cX14_chosenSet 10 = .ok (.istore_n 3, 1) := by decide +kernel
theorem dccX14_chosenSet_11 : decode cX14_chosenSet 11 = .ok (.iload_n 3, 1) := by decide +kernel
theorem dccX14_chosenSet_12 : decode cX14_chosenSet 12 = .ok (.aload_n 0, 1) := by decide +kernel
theorem dccX14_chosenSet_13 : decode cX14_chosenSet 13 = .ok (.getfield 26, 3) := by decide +kernel
theorem dccX14_chosenSet_16 : decode cX14_chosenSet 16 = .ok (.invokevirtual 38, 3) := by decide +kernel
theorem dccX14_chosenSet_19 : decode cX14_chosenSet 19 = .ok (.if_icmp .ge 45, 3) := by decide +kernel
theorem dccX14_chosenSet_22 : decode cX14_chosenSet 22 = .ok (.aload_n 0, 1) := by decide +kernel
theorem dccX14_chosenSet_23 : decode cX14_chosenSet 23 = .ok (.getfield 26, 3) := by decide +kernel
theorem dccX14_chosenSet_26 : decode cX14_chosenSet 26 = .ok (.iload_n 3, 1) := by decide +kernel
theorem dccX14_chosenSet_27 : decode cX14_chosenSet 27 = .ok (.invokevirtual 58, 3) := by decide +kernel
theorem dccX14_chosenSet_30 : decode cX14_chosenSet 30 = .ok (.checkcast 67, 3) := by decide +kernel
theorem dccX14_chosenSet_33 : decode cX14_chosenSet 33 = .ok (.getfield 73, 3) := by decide +kernel
theorem dccX14_chosenSet_36 : decode cX14_chosenSet 36 = .ok (.iload_n 2, 1) := by decide +kernel
theorem dccX14_chosenSet_37 : decode cX14_chosenSet 37 = .ok (.if_icmp .ne 21, 3) := by decide +kernel
theorem dccX14_chosenSet_40 : decode cX14_chosenSet 40 = .ok (.aload_n 0, 1) := by decide +kernel
theorem dccX14_chosenSet_41 : decode cX14_chosenSet 41 = .ok (.iload_n 1, 1) := by decide +kernel
theorem dccX14_chosenSet_42 : decode cX14_chosenSet 42 = .ok (.iconst 1, 1) := by decide +kernel
theorem dccX14_chosenSet_43 : decode cX14_chosenSet 43 = .ok (.iload_n 3, 1) := by decide +kernel
theorem dccX14_chosenSet_44 : decode cX14_chosenSet 44 = .ok (.ishl, 1) := by decide +kernel
theorem dccX14_chosenSet_45 : decode cX14_chosenSet 45 = .ok (.ior, 1) := by decide +kernel
theorem dccX14_chosenSet_46 : decode cX14_chosenSet 46 = .ok (.invokevirtual 180, 3) := by decide +kernel
theorem dccX14_chosenSet_49 : decode cX14_chosenSet 49 = .ok (.ifCond .eq 9, 3) := by decide +kernel
theorem dccX14_chosenSet_52 : decode cX14_chosenSet 52 = .ok (.iload_n 1, 1) := by decide +kernel
theorem dccX14_chosenSet_53 : decode cX14_chosenSet 53 = .ok (.iconst 1, 1) := by decide +kernel
theorem dccX14_chosenSet_54 : decode cX14_chosenSet 54 = .ok (.iload_n 3, 1) := by decide +kernel
theorem dccX14_chosenSet_55 : decode cX14_chosenSet 55 = .ok (.ishl, 1) := by decide +kernel
theorem dccX14_chosenSet_56 : decode cX14_chosenSet 56 = .ok (.ior, 1) := by decide +kernel
theorem dccX14_chosenSet_57 : decode cX14_chosenSet 57 = .ok (.istore_n 1, 1) := by decide +kernel
theorem dccX14_chosenSet_58 : decode cX14_chosenSet 58 = .ok (.iinc 3 1, 3) := by decide +kernel
theorem dccX14_chosenSet_61 : decode cX14_chosenSet 61 = .ok (.goto (-50), 3) := by decide +kernel
theorem dccX14_chosenSet_64 : decode cX14_chosenSet 64 = .ok (.iinc 2 (-1), 3) := by decide +kernel
theorem dccX14_chosenSet_67 : decode cX14_chosenSet 67 = .ok (.goto (-62), 3) := by decide +kernel
theorem dccX14_chosenSet_70 : decode cX14_chosenSet 70 = .ok (.iload_n 1, 1) := by decide +kernel
theorem dccX14_chosenSet_71 : decode cX14_chosenSet 71 = .ok (.ireturn, 1) := by decide +kernel
theorem dccX14_county_0 : decode cX14_county 0 = .ok (.aload_n 0, 1) := by decide +kernel
theorem dccX14_county_1 : decode cX14_county 1 = .ok (.iconst 0, 1) := by decide +kernel
theorem dccX14_county_2 : decode cX14_county 2 = .ok (.putfield 35, 3) := by decide +kernel
theorem dccX14_county_5 : decode cX14_county 5 = .ok (.iload_n 1, 1) := by decide +kernel
theorem dccX14_county_6 : decode cX14_county 6 = .ok (.iconst 0, 1) := by decide +kernel
theorem dccX14_county_7 : decode cX14_county 7 = .ok (.bipush 18, 2) := by decide +kernel
theorem dccX14_county_9 : decode cX14_county 9 = .ok (.invokestatic 42, 3) := by decide +kernel
theorem dccX14_county_12 : decode cX14_county 12 = .ok (.ifCond .eq 11, 3) := by decide +kernel
theorem dccX14_county_15 : decode cX14_county 15 = .ok (.aload_n 0, 1) := by decide +kernel
theorem dccX14_county_16 : decode cX14_county 16 = .ok (.iload_n 1, 1) := by decide +kernel
theorem dccX14_county_17 : decode cX14_county 17 = .ok (.invokevirtual 231, 3) := by decide +kernel
theorem dccX14_county_20 : decode cX14_county 20 = .ok (.goto 8, 3) := by decide +kernel
theorem dccX14_county_23 : decode cX14_county 23 = .ok (.aload_n 0, 1) := by decide +kernel
theorem dccX14_county_24 : decode cX14_county 24 = .ok (.iconst 1, 1) := by decide +kernel
theorem dccX14_county_25 : decode cX14_county 25 = .ok (.invokevirtual 46, 3) := by decide +kernel
theorem dccX14_county_28 : decode cX14_county 28 = .ok (.ireturn, 1) := by decide +kernel
theorem dccX14_countyNow_0 : decode cX14_countyNow 0 = .ok (.iload_n 1, 1) := by decide +kernel
theorem dccX14_countyNow_1 : decode cX14_countyNow 1 = .ok (.tableswitch 187 0 17 #[87, 95, 103, 111, 111, 111, 120, 125, 130, 135, 140, 145, 154, 159, 164, 169, 174, 182], 87) := by decide +kernel
theorem dccX14_countyNow_88 : decode cX14_countyNow 88 = .ok (.aload_n 0, 1) := by decide +kernel
theorem dccX14_countyNow_89 : decode cX14_countyNow 89 = .ok (.getfield 19, 3) := by decide +kernel
theorem dccX14_countyNow_92 : decode cX14_countyNow 92 = .ok (.invokevirtual 38, 3) := by decide +kernel
theorem dccX14_countyNow_95 : decode cX14_countyNow 95 = .ok (.ireturn, 1) := by decide +kernel
theorem dccX14_countyNow_96 : decode cX14_countyNow 96 = .ok (.aload_n 0, 1) := by decide +kernel
theorem dccX14_countyNow_97 : decode cX14_countyNow 97 = .ok (.getfield 23, 3) := by decide +kernel
theorem dccX14_countyNow_100 : decode cX14_countyNow 100 = .ok (.invokevirtual 38, 3) := by decide +kernel
theorem dccX14_countyNow_103 : decode cX14_countyNow 103 = .ok (.ireturn, 1) := by decide +kernel
theorem dccX14_countyNow_104 : decode cX14_countyNow 104 = .ok (.aload_n 0, 1) := by decide +kernel
theorem dccX14_countyNow_105 : decode cX14_countyNow 105 = .ok (.getfield 26, 3) := by decide +kernel
theorem dccX14_countyNow_108 : decode cX14_countyNow 108 = .ok (.invokevirtual 38, 3) := by decide +kernel
theorem dccX14_countyNow_111 : decode cX14_countyNow 111 = .ok (.ireturn, 1) := by decide +kernel
theorem dccX14_countyNow_112 : decode cX14_countyNow 112 = .ok (.aload_n 0, 1) := by decide +kernel
theorem dccX14_countyNow_113 : decode cX14_countyNow 113 = .ok (.iconst (-1), 1) := by decide +kernel
theorem dccX14_countyNow_114 : decode cX14_countyNow 114 = .ok (.iload_n 1, 1) := by decide +kernel
theorem dccX14_countyNow_115 : decode cX14_countyNow 115 = .ok (.iconst 3, 1) := by decide +kernel
theorem dccX14_countyNow_116 : decode cX14_countyNow 116 = .ok (.isub, 1) := by decide +kernel
theorem dccX14_countyNow_117 : decode cX14_countyNow 117 = .ok (.invokevirtual 202, 3) := by decide +kernel
theorem dccX14_countyNow_120 : decode cX14_countyNow 120 = .ok (.ireturn, 1) := by decide +kernel
theorem dccX14_countyNow_121 : decode cX14_countyNow 121 = .ok (.aload_n 0, 1) := by decide +kernel
theorem dccX14_countyNow_122 : decode cX14_countyNow 122 = .ok (.getfield 104, 3) := by decide +kernel
theorem dccX14_countyNow_125 : decode cX14_countyNow 125 = .ok (.ireturn, 1) := by decide +kernel
theorem dccX14_countyNow_126 : decode cX14_countyNow 126 = .ok (.aload_n 0, 1) := by decide +kernel
theorem dccX14_countyNow_127 : decode cX14_countyNow 127 = .ok (.getfield 7, 3) := by decide +kernel
theorem dccX14_countyNow_130 : decode cX14_countyNow 130 = .ok (.ireturn, 1) := by decide +kernel
theorem dccX14_countyNow_131 : decode cX14_countyNow 131 = .ok (.aload_n 0, 1) := by decide +kernel
theorem dccX14_countyNow_132 : decode cX14_countyNow 132 = .ok (.getfield 86, 3) := by decide +kernel
theorem dccX14_countyNow_135 : decode cX14_countyNow 135 = .ok (.ireturn, 1) := by decide +kernel
theorem dccX14_countyNow_136 : decode cX14_countyNow 136 = .ok (.aload_n 0, 1) := by decide +kernel
theorem dccX14_countyNow_137 : decode cX14_countyNow 137 = .ok (.getfield 13, 3) := by decide +kernel
theorem dccX14_countyNow_140 : decode cX14_countyNow 140 = .ok (.ireturn, 1) := by decide +kernel
theorem dccX14_countyNow_141 : decode cX14_countyNow 141 = .ok (.aload_n 0, 1) := by decide +kernel
theorem dccX14_countyNow_142 : decode cX14_countyNow 142 = .ok (.getfield 92, 3) := by decide +kernel
theorem dccX14_countyNow_145 : decode cX14_countyNow 145 = .ok (.ireturn, 1) := by decide +kernel
theorem dccX14_countyNow_146 : decode cX14_countyNow 146 = .ok (.aload_n 0, 1) := by decide +kernel
theorem dccX14_countyNow_147 : decode cX14_countyNow 147 = .ok (.aload_n 0, 1) := by decide +kernel
theorem dccX14_countyNow_148 : decode cX14_countyNow 148 = .ok (.invokevirtual 208, 3) := by decide +kernel
theorem dccX14_countyNow_151 : decode cX14_countyNow 151 = .ok (.invokevirtual 224, 3) := by decide +kernel
theorem dccX14_countyNow_154 : decode cX14_countyNow 154 = .ok (.ireturn, 1) := by decide +kernel
theorem dccX14_countyNow_155 : decode cX14_countyNow 155 = .ok (.aload_n 0, 1) := by decide +kernel
theorem dccX14_countyNow_156 : decode cX14_countyNow 156 = .ok (.invokevirtual 228, 3) := by decide +kernel
theorem dccX14_countyNow_159 : decode cX14_countyNow 159 = .ok (.ireturn, 1) := by decide +kernel
theorem dccX14_countyNow_160 : decode cX14_countyNow 160 = .ok (.aload_n 0, 1) := by decide +kernel
theorem dccX14_countyNow_161 : decode cX14_countyNow 161 = .ok (.getfield 130, 3) := by decide +kernel
theorem dccX14_countyNow_164 : decode cX14_countyNow 164 = .ok (.ireturn, 1) := by decide +kernel
theorem dccX14_countyNow_165 : decode cX14_countyNow 165 = .ok (.aload_n 0, 1) := by decide +kernel
theorem dccX14_countyNow_166 : decode cX14_countyNow 166 = .ok (.getfield 121, 3) := by decide +kernel
theorem dccX14_countyNow_169 : decode cX14_countyNow 169 = .ok (.ireturn, 1) := by decide +kernel
theorem dccX14_countyNow_170 : decode cX14_countyNow 170 = .ok (.aload_n 0, 1) := by decide +kernel
theorem dccX14_countyNow_171 : decode cX14_countyNow 171 = .ok (.getfield 133, 3) := by decide +kernel
theorem dccX14_countyNow_174 : decode cX14_countyNow 174 = .ok (.ireturn, 1) := by decide +kernel
theorem dccX14_countyNow_175 : decode cX14_countyNow 175 = .ok (.aload_n 0, 1) := by decide +kernel
theorem dccX14_countyNow_176 : decode cX14_countyNow 176 = .ok (.getfield 32, 3) := by decide +kernel
theorem dccX14_countyNow_179 : decode cX14_countyNow 179 = .ok (.invokevirtual 38, 3) := by decide +kernel
theorem dccX14_countyNow_182 : decode cX14_countyNow 182 = .ok (.ireturn, 1) := by decide +kernel
theorem dccX14_countyNow_183 : decode cX14_countyNow 183 = .ok (.aload_n 0, 1) := by decide +kernel
theorem dccX14_countyNow_184 : decode cX14_countyNow 184 = .ok (.invokevirtual 171, 3) := by decide +kernel
theorem dccX14_countyNow_187 : decode cX14_countyNow 187 = .ok (.ireturn, 1) := by decide +kernel
theorem dccX14_countyNow_188 : decode cX14_countyNow 188 = .ok (.aload_n 0, 1) := by decide +kernel
theorem dccX14_countyNow_189 : decode cX14_countyNow 189 = .ok (.getfield 174, 3) := by decide +kernel
theorem dccX14_countyNow_192 : decode cX14_countyNow 192 = .ok (.ireturn, 1) := by decide +kernel
theorem dccX14_digest_0 : decode cX14_digest 0 = .ok (.aload_n 0, 1) := by decide +kernel
theorem dccX14_digest_1 : decode cX14_digest 1 = .ok (.iconst 0, 1) := by decide +kernel
theorem dccX14_digest_2 : decode cX14_digest 2 = .ok (.putfield 35, 3) := by decide +kernel
theorem dccX14_digest_5 : decode cX14_digest 5 = .ok (.aload_n 0, 1) := by decide +kernel
theorem dccX14_digest_6 : decode cX14_digest 6 = .ok (.ldc2_w 268, 3) := by decide +kernel
theorem dccX14_digest_9 : decode cX14_digest 9 = .ok (.putfield 262, 3) := by decide +kernel
theorem dccX14_digest_12 : decode cX14_digest 12 = .ok (.iconst 0, 1) := by decide +kernel
theorem dccX14_digest_13 : decode cX14_digest 13 = .ok (.istore_n 1, 1) := by decide +kernel
theorem dccX14_digest_14 : decode cX14_digest 14 = .ok (.iload_n 1, 1) := by decide +kernel
theorem dccX14_digest_15 : decode cX14_digest 15 = .ok (.bipush 19, 2) := by decide +kernel
theorem dccX14_digest_17 : decode cX14_digest 17 = .ok (.if_icmp .ge 19, 3) := by decide +kernel
theorem dccX14_digest_20 : decode cX14_digest 20 = .ok (.aload_n 0, 1) := by decide +kernel
theorem dccX14_digest_21 : decode cX14_digest 21 = .ok (.aload_n 0, 1) := by decide +kernel
theorem dccX14_digest_22 : decode cX14_digest 22 = .ok (.iload_n 1, 1) := by decide +kernel
theorem dccX14_digest_23 : decode cX14_digest 23 = .ok (.invokevirtual 231, 3) := by decide +kernel
theorem dccX14_digest_26 : decode cX14_digest 26 = .ok (.i2l, 1) := by decide +kernel
theorem dccX14_digest_27 : decode cX14_digest 27 = .ok (.invokevirtual 270, 3) := by decide +kernel
theorem dccX14_digest_30 : decode cX14_digest 30 = .ok (.iinc 1 1, 3) := by decide +kernel
theorem dccX14_digest_33 : decode cX14_digest 33 = .ok (.goto (-19), 3) := by decide +kernel
theorem dccX14_digest_36 : decode cX14_digest 36 = .ok (.iconst 0, 1) := by decide +kernel
theorem dccX14_digest_37 : decode cX14_digest 37 = .ok (.istore_n 1, 1) := by decide +kernel
theorem dccX14_digest_38 : decode cX14_digest 38 = .ok (.iload_n 1, 1) := by decide +kernel
theorem dccX14_digest_39 : decode cX14_digest 39 = .ok (.aload_n 0, 1) := by decide +kernel
theorem dccX14_digest_40 : decode cX14_digest 40 = .ok (.getfield 19, 3) := by decide +kernel
theorem dccX14_digest_43 : decode cX14_digest 43 = .ok (.invokevirtual 38, 3) := by decide +kernel
theorem dccX14_digest_46 : decode cX14_digest 46 = .ok (.if_icmp .ge 33, 3) := by decide +kernel
theorem dccX14_digest_49 : decode cX14_digest 49 = .ok (.iconst 0, 1) := by decide +kernel
theorem dccX14_digest_50 : decode cX14_digest 50 = .ok (.istore_n 2, 1) := by decide +kernel
theorem dccX14_digest_51 : decode cX14_digest 51 = .ok (.iload_n 2, 1) := by decide +kernel
theorem dccX14_digest_52 : decode cX14_digest 52 = .ok (.iconst 5, 1) := by decide +kernel
theorem dccX14_digest_53 : decode cX14_digest 53 = .ok (.if_icmp .ge 20, 3) := by decide +kernel
theorem dccX14_digest_56 : decode cX14_digest 56 = .ok (.aload_n 0, 1) := by decide +kernel
theorem dccX14_digest_57 : decode cX14_digest 57 = .ok (.aload_n 0, 1) := by decide +kernel
theorem dccX14_digest_58 : decode cX14_digest 58 = .ok (.iload_n 1, 1) := by decide +kernel
theorem dccX14_digest_59 : decode cX14_digest 59 = .ok (.iload_n 2, 1) := by decide +kernel
theorem dccX14_digest_60 : decode cX14_digest 60 = .ok (.invokevirtual 205, 3) := by decide +kernel
theorem dccX14_digest_63 : decode cX14_digest 63 = .ok (.i2l, 1) := by decide +kernel
theorem dccX14_digest_64 : decode cX14_digest 64 = .ok (.invokevirtual 270, 3) := by decide +kernel
theorem dccX14_digest_67 : decode cX14_digest 67 = .ok (.iinc 2 1, 3) := by decide +kernel
theorem dccX14_digest_70 : decode cX14_digest 70 = .ok (.goto (-19), 3) := by decide +kernel
theorem dccX14_digest_73 : decode cX14_digest 73 = .ok (.iinc 1 1, 3) := by decide +kernel
theorem dccX14_digest_76 : decode cX14_digest 76 = .ok (.goto (-38), 3) := by decide +kernel
theorem dccX14_digest_79 : decode cX14_digest 79 = .ok (.iconst 0, 1) := by decide +kernel
theorem dccX14_digest_80 : decode cX14_digest 80 = .ok (.istore_n 1, 1) := by decide +kernel
theorem dccX14_digest_81 : decode cX14_digest 81 = .ok (.iload_n 1, 1) := by decide +kernel
theorem dccX14_digest_82 : decode cX14_digest 82 = .ok (.aload_n 0, 1) := by decide +kernel
theorem dccX14_digest_83 : decode cX14_digest 83 = .ok (.getfield 26, 3) := by decide +kernel
theorem dccX14_digest_86 : decode cX14_digest 86 = .ok (.invokevirtual 38, 3) := by decide +kernel
theorem dccX14_digest_89 : decode cX14_digest 89 = .ok (.if_icmp .ge 34, 3) := by decide +kernel
theorem dccX14_digest_92 : decode cX14_digest 92 = .ok (.iconst 0, 1) := by decide +kernel
theorem dccX14_digest_93 : decode cX14_digest 93 = .ok (.istore_n 2, 1) := by decide +kernel
theorem dccX14_digest_94 : decode cX14_digest 94 = .ok (.iload_n 2, 1) := by decide +kernel
theorem dccX14_digest_95 : decode cX14_digest 95 = .ok (.bipush 6, 2) := by decide +kernel
theorem dccX14_digest_97 : decode cX14_digest 97 = .ok (.if_icmp .ge 20, 3) := by decide +kernel
theorem dccX14_digest_100 : decode cX14_digest 100 = .ok (.aload_n 0, 1) := by decide +kernel
theorem dccX14_digest_101 : decode cX14_digest 101 = .ok (.aload_n 0, 1) := by decide +kernel
theorem dccX14_digest_102 : decode cX14_digest 102 = .ok (.iload_n 1, 1) := by decide +kernel
theorem dccX14_digest_103 : decode cX14_digest 103 = .ok (.iload_n 2, 1) := by decide +kernel
theorem dccX14_digest_104 : decode cX14_digest 104 = .ok (.invokevirtual 215, 3) := by decide +kernel
theorem dccX14_digest_107 : decode cX14_digest 107 = .ok (.i2l, 1) := by decide +kernel
theorem dccX14_digest_108 : decode cX14_digest 108 = .ok (.invokevirtual 270, 3) := by decide +kernel
theorem dccX14_digest_111 : decode cX14_digest 111 = .ok (.iinc 2 1, 3) := by decide +kernel
theorem dccX14_digest_114 : decode cX14_digest 114 = .ok (.goto (-20), 3) := by decide +kernel
theorem dccX14_digest_117 : decode cX14_digest 117 = .ok (.iinc 1 1, 3) := by decide +kernel
theorem dccX14_digest_120 : decode cX14_digest 120 = .ok (.goto (-39), 3) := by decide +kernel
theorem dccX14_digest_123 : decode cX14_digest 123 = .ok (.iconst 0, 1) := by decide +kernel
theorem dccX14_digest_124 : decode cX14_digest 124 = .ok (.istore_n 1, 1) := by decide +kernel
theorem dccX14_digest_125 : decode cX14_digest 125 = .ok (.iload_n 1, 1) := by decide +kernel
theorem dccX14_digest_126 : decode cX14_digest 126 = .ok (.aload_n 0, 1) := by decide +kernel
theorem dccX14_digest_127 : decode cX14_digest 127 = .ok (.getfield 23, 3) := by decide +kernel
theorem dccX14_digest_130 : decode cX14_digest 130 = .ok (.invokevirtual 38, 3) := by decide +kernel
theorem dccX14_digest_133 : decode cX14_digest 133 = .ok (.if_icmp .ge 33, 3) := by decide +kernel
theorem dccX14_digest_136 : decode cX14_digest 136 = .ok (.iconst 0, 1) := by decide +kernel
theorem dccX14_digest_137 : decode cX14_digest 137 = .ok (.istore_n 2, 1) := by decide +kernel
theorem dccX14_digest_138 : decode cX14_digest 138 = .ok (.iload_n 2, 1) := by decide +kernel
theorem dccX14_digest_139 : decode cX14_digest 139 = .ok (.iconst 4, 1) := by decide +kernel
theorem dccX14_digest_140 : decode cX14_digest 140 = .ok (.if_icmp .ge 20, 3) := by decide +kernel
theorem dccX14_digest_143 : decode cX14_digest 143 = .ok (.aload_n 0, 1) := by decide +kernel
theorem dccX14_digest_144 : decode cX14_digest 144 = .ok (.aload_n 0, 1) := by decide +kernel
theorem dccX14_digest_145 : decode cX14_digest 145 = .ok (.iload_n 1, 1) := by decide +kernel
theorem dccX14_digest_146 : decode cX14_digest 146 = .ok (.iload_n 2, 1) := by decide +kernel
theorem dccX14_digest_147 : decode cX14_digest 147 = .ok (.invokevirtual 221, 3) := by decide +kernel
theorem dccX14_digest_150 : decode cX14_digest 150 = .ok (.i2l, 1) := by decide +kernel
theorem dccX14_digest_151 : decode cX14_digest 151 = .ok (.invokevirtual 270, 3) := by decide +kernel
theorem dccX14_digest_154 : decode cX14_digest 154 = .ok (.iinc 2 1, 3) := by decide +kernel
theorem dccX14_digest_157 : decode cX14_digest 157 = .ok (.goto (-19), 3) := by decide +kernel
theorem dccX14_digest_160 : decode cX14_digest 160 = .ok (.iinc 1 1, 3) := by decide +kernel
theorem dccX14_digest_163 : decode cX14_digest 163 = .ok (.goto (-38), 3) := by decide +kernel
theorem dccX14_digest_166 : decode cX14_digest 166 = .ok (.aload_n 0, 1) := by decide +kernel
theorem dccX14_digest_167 : decode cX14_digest 167 = .ok (.getfield 29, 3) := by decide +kernel
theorem dccX14_digest_170 : decode cX14_digest 170 = .ok (.invokevirtual 107, 3) := by decide +kernel
theorem dccX14_digest_173 : decode cX14_digest 173 = .ok (.astore_n 1, 1) := by decide +kernel
theorem dccX14_digest_174 : decode cX14_digest 174 = .ok (.aload_n 1, 1) := by decide +kernel
theorem dccX14_digest_175 : decode cX14_digest 175 = .ok (.invokeinterface 111 1, 5) := by decide +kernel
theorem dccX14_digest_180 : decode cX14_digest 180 = .ok (.ifCond .eq 32, 3) := by decide +kernel
theorem dccX14_digest_183 : decode cX14_digest 183 = .ok (.aload_n 1, 1) := by decide +kernel
theorem dccX14_digest_184 : decode cX14_digest 184 = .ok (.invokeinterface 117 1, 5) := by decide +kernel
theorem dccX14_digest_189 : decode cX14_digest 189 = .ok (.checkcast 62, 3) := by decide +kernel
theorem dccX14_digest_192 : decode cX14_digest 192 = .ok (.astore_n 2, 1) := by decide +kernel
theorem dccX14_digest_193 : decode cX14_digest 193 = .ok (.aload_n 0, 1) := by decide +kernel
theorem dccX14_digest_194 : decode cX14_digest 194 = .ok (.aload_n 2, 1) := by decide +kernel
theorem dccX14_digest_195 : decode cX14_digest 195 = .ok (.iconst 0, 1) := by decide +kernel
theorem dccX14_digest_196 : decode cX14_digest 196 = .ok (.iaload, 1) := by decide +kernel
theorem dccX14_digest_197 : decode cX14_digest 197 = .ok (.i2l, 1) := by decide +kernel
theorem dccX14_digest_198 : decode cX14_digest 198 = .ok (.invokevirtual 270, 3) := by decide +kernel
theorem dccX14_digest_201 : decode cX14_digest 201 = .ok (.aload_n 0, 1) := by decide +kernel
theorem dccX14_digest_202 : decode cX14_digest 202 = .ok (.aload_n 2, 1) := by decide +kernel
theorem dccX14_digest_203 : decode cX14_digest 203 = .ok (.iconst 1, 1) := by decide +kernel
theorem dccX14_digest_204 : decode cX14_digest 204 = .ok (.iaload, 1) := by decide +kernel
theorem dccX14_digest_205 : decode cX14_digest 205 = .ok (.i2l, 1) := by decide +kernel
theorem dccX14_digest_206 : decode cX14_digest 206 = .ok (.invokevirtual 270, 3) := by decide +kernel
theorem dccX14_digest_209 : decode cX14_digest 209 = .ok (.goto (-35), 3) := by decide +kernel
theorem dccX14_digest_212 : decode cX14_digest 212 = .ok (.aload_n 0, 1) := by decide +kernel
theorem dccX14_digest_213 : decode cX14_digest 213 = .ok (.aload_n 0, 1) := by decide +kernel
theorem dccX14_digest_214 : decode cX14_digest 214 = .ok (.aload_n 0, 1) := by decide +kernel
theorem dccX14_digest_215 : decode cX14_digest 215 = .ok (.invokevirtual 212, 3) := by decide +kernel
theorem dccX14_digest_218 : decode cX14_digest 218 = .ok (.invokevirtual 218, 3) := by decide +kernel
theorem dccX14_digest_221 : decode cX14_digest 221 = .ok (.i2l, 1) := by decide +kernel
theorem dccX14_digest_222 : decode cX14_digest 222 = .ok (.invokevirtual 270, 3) := by decide +kernel
theorem dccX14_digest_225 : decode cX14_digest 225 = .ok (.aload_n 0, 1) := by decide +kernel
theorem dccX14_digest_226 : decode cX14_digest 226 = .ok (.aload_n 0, 1) := by decide +kernel
theorem dccX14_digest_227 : decode cX14_digest 227 = .ok (.bipush 20, 2) := by decide +kernel
theorem dccX14_digest_229 : decode cX14_digest 229 = .ok (.iconst 3, 1) := by decide +kernel
theorem dccX14_digest_230 : decode cX14_digest 230 = .ok (.invokevirtual 252, 3) := by decide +kernel
theorem dccX14_digest_233 : decode cX14_digest 233 = .ok (.i2l, 1) := by decide +kernel
theorem dccX14_digest_234 : decode cX14_digest 234 = .ok (.invokevirtual 270, 3) := by decide +kernel
theorem dccX14_digest_237 : decode cX14_digest 237 = .ok (.aload_n 0, 1) := by decide +kernel
theorem dccX14_digest_238 : decode cX14_digest 238 = .ok (.aload_n 0, 1) := by decide +kernel
theorem dccX14_digest_239 : decode cX14_digest 239 = .ok (.invokevirtual 245, 3) := by decide +kernel
theorem dccX14_digest_242 : decode cX14_digest 242 = .ok (.invokevirtual 273, 3) := by decide +kernel
theorem dccX14_digest_245 : decode cX14_digest 245 = .ok (.i2l, 1) := by decide +kernel
theorem dccX14_digest_246 : decode cX14_digest 246 = .ok (.invokevirtual 270, 3) := by decide +kernel
theorem dccX14_digest_249 : decode cX14_digest 249 = .ok (.aload_n 0, 1) := by decide +kernel
theorem dccX14_digest_250 : decode cX14_digest 250 = .ok (.aload_n 0, 1) := by decide +kernel
theorem dccX14_digest_251 : decode cX14_digest 251 = .ok (.invokevirtual 259, 3) := by decide +kernel
theorem dccX14_digest_254 : decode cX14_digest 254 = .ok (.ifCond .eq 7, 3) := by decide +kernel
theorem dccX14_digest_257 : decode cX14_digest 257 = .ok (.lconst 1, 1) := by decide +kernel
theorem dccX14_digest_258 : decode cX14_digest 258 = .ok (.goto 4, 3) := by decide +kernel
theorem dccX14_digest_261 : decode cX14_digest 261 = .ok (.lconst 0, 1) := by decide +kernel
theorem dccX14_digest_262 : decode cX14_digest 262 = .ok (.invokevirtual 270, 3) := by decide +kernel
theorem dccX14_digest_265 : decode cX14_digest 265 = .ok (.aload_n 0, 1) := by decide +kernel
theorem dccX14_digest_266 : decode cX14_digest 266 = .ok (.getfield 262, 3) := by decide +kernel
theorem dccX14_digest_269 : decode cX14_digest 269 = .ok (.lreturn, 1) := by decide +kernel
theorem dccX14_digits_0 : decode cX14_digits 0 = .ok (.iload_n 0, 1) := by decide +kernel
theorem dccX14_digits_1 : decode cX14_digits 1 = .ok (.bipush 10, 2) := by decide +kernel
theorem dccX14_digits_3 : decode cX14_digits 3 = .ok (.if_icmp .ge 7, 3) := by decide +kernel
theorem dccX14_digits_6 : decode cX14_digits 6 = .ok (.iconst 1, 1) := by decide +kernel
theorem dccX14_digits_7 : decode cX14_digits 7 = .ok (.goto 12, 3) := by decide +kernel
theorem dccX14_digits_10 : decode cX14_digits 10 = .ok (.iconst 1, 1) := by decide +kernel
theorem dccX14_digits_11 : decode cX14_digits 11 = .ok (.iload_n 0, 1) := by decide +kernel
theorem dccX14_digits_12 : decode cX14_digits 12 = .ok (.bipush 10, 2) := by decide +kernel
theorem dccX14_digits_14 : decode cX14_digits 14 = .ok (.idiv, 1) := by decide +kernel
theorem dccX14_digits_15 : decode cX14_digits 15 = .ok (.invokestatic 146, 3) := by decide +kernel
theorem dccX14_digits_18 : decode cX14_digits 18 = .ok (.iadd, 1) := by decide +kernel
theorem dccX14_digits_19 : decode cX14_digits 19 = .ok (.ireturn, 1) := by decide +kernel
theorem dccX14_fetch_0 : decode cX14_fetch 0 = .ok (.aload_n 0, 1) := by decide +kernel
theorem dccX14_fetch_1 : decode cX14_fetch 1 = .ok (.iconst 0, 1) := by decide +kernel
theorem dccX14_fetch_2 : decode cX14_fetch 2 = .ok (.putfield 35, 3) := by decide +kernel
theorem dccX14_fetch_5 : decode cX14_fetch 5 = .ok (.aload_n 0, 1) := by decide +kernel
theorem dccX14_fetch_6 : decode cX14_fetch 6 = .ok (.iload_n 1, 1) := by decide +kernel
theorem dccX14_fetch_7 : decode cX14_fetch 7 = .ok (.invokevirtual 89, 3) := by decide +kernel
theorem dccX14_fetch_10 : decode cX14_fetch 10 = .ok (.ifCond .ne 9, 3) := by decide +kernel
theorem dccX14_fetch_13 : decode cX14_fetch 13 = .ok (.aload_n 0, 1) := by decide +kernel
theorem dccX14_fetch_14 : decode cX14_fetch 14 = .ok (.iconst 1, 1) := by decide +kernel
theorem dccX14_fetch_15 : decode cX14_fetch 15 = .ok (.invokevirtual 46, 3) := by decide +kernel
theorem dccX14_fetch_18 : decode cX14_fetch 18 = .ok (.ireturn, 1) := by decide +kernel
theorem dccX14_fetch_19 : decode cX14_fetch 19 = .ok (.aload_n 0, 1) := by decide +kernel
theorem dccX14_fetch_20 : decode cX14_fetch 20 = .ok (.getfield 26, 3) := by decide +kernel
theorem dccX14_fetch_23 : decode cX14_fetch 23 = .ok (.iload_n 1, 1) := by decide +kernel
theorem dccX14_fetch_24 : decode cX14_fetch 24 = .ok (.invokevirtual 58, 3) := by decide +kernel
theorem dccX14_fetch_27 : decode cX14_fetch 27 = .ok (.checkcast 67, 3) := by decide +kernel
theorem dccX14_fetch_30 : decode cX14_fetch 30 = .ok (.getfield 83, 3) := by decide +kernel
theorem dccX14_fetch_33 : decode cX14_fetch 33 = .ok (.ifCond .ne 14, 3) := by decide +kernel
theorem dccX14_fetch_36 : decode cX14_fetch 36 = .ok (.aload_n 0, 1) := by decide +kernel
theorem dccX14_fetch_37 : decode cX14_fetch 37 = .ok (.getfield 92, 3) := by decide +kernel
theorem dccX14_fetch_40 : decode cX14_fetch 40 = .ok (.aload_n 0, 1) := by decide +kernel
theorem dccX14_fetch_41 : decode cX14_fetch 41 = .ok (.getfield 13, 3) := by decide +kernel
theorem dccX14_fetch_44 : decode cX14_fetch 44 = .ok (.if_icmp .lt 9, 3) := by decide +kernel
theorem dccX14_fetch_47 : decode cX14_fetch 47 = .ok (.aload_n 0, 1) := by decide +kernel
theorem dccX14_fetch_48 : decode cX14_fetch 48 = .ok (.iconst 2, 1) := by decide +kernel
theorem dccX14_fetch_49 : decode cX14_fetch 49 = .ok (.invokevirtual 46, 3) := by decide +kernel
theorem dccX14_fetch_52 : decode cX14_fetch 52 = .ok (.ireturn, 1) := by decide +kernel
theorem dccX14_fetch_53 : decode cX14_fetch 53 = .ok (.aload_n 0, 1) := by decide +kernel
theorem dccX14_fetch_54 : decode cX14_fetch 54 = .ok (.getfield 26, 3) := by decide +kernel
theorem dccX14_fetch_57 : decode cX14_fetch 57 = .ok (.iload_n 1, 1) := by decide +kernel
theorem dccX14_fetch_58 : decode cX14_fetch 58 = .ok (.invokevirtual 58, 3) := by decide +kernel
theorem dccX14_fetch_61 : decode cX14_fetch 61 = .ok (.checkcast 67, 3) := by decide +kernel
theorem dccX14_fetch_64 : decode cX14_fetch 64 = .ok (.iconst 1, 1) := by decide +kernel
theorem dccX14_fetch_65 : decode cX14_fetch 65 = .ok (.putfield 83, 3) := by decide +kernel
theorem dccX14_fetch_68 : decode cX14_fetch 68 = .ok (.aload_n 0, 1) := by decide +kernel
theorem dccX14_fetch_69 : decode cX14_fetch 69 = .ok (.dup, 1) := by decide +kernel
theorem dccX14_fetch_70 : decode cX14_fetch 70 = .ok (.getfield 92, 3) := by decide +kernel
theorem dccX14_fetch_73 : decode cX14_fetch 73 = .ok (.iconst 1, 1) := by decide +kernel
theorem dccX14_fetch_74 : decode cX14_fetch 74 = .ok (.iadd, 1) := by decide +kernel
theorem dccX14_fetch_75 : decode cX14_fetch 75 = .ok (.putfield 92, 3) := by decide +kernel
theorem dccX14_fetch_78 : decode cX14_fetch 78 = .ok (.aload_n 0, 1) := by decide +kernel
theorem dccX14_fetch_79 : decode cX14_fetch 79 = .ok (.getfield 92, 3) := by decide +kernel
theorem dccX14_fetch_82 : decode cX14_fetch 82 = .ok (.ireturn, 1) := by decide +kernel
theorem dccX14_fetchedSet_0 : decode cX14_fetchedSet 0 = .ok (.iconst 0, 1) := by decide +kernel
theorem dccX14_fetchedSet_1 : decode cX14_fetchedSet 1 = .ok (.istore_n 1, 1) := by decide +kernel
theorem dccX14_fetchedSet_2 : decode cX14_fetchedSet 2 = .ok (.iconst 0, 1) := by decide +kernel
theorem dccX14_fetchedSet_3 : decode cX14_fetchedSet 3 = .ok (.istore_n 2, 1) := by decide +kernel
theorem dccX14_fetchedSet_4 : decode cX14_fetchedSet 4 = .ok (.iload_n 2, 1) := by decide +kernel
theorem dccX14_fetchedSet_5 : decode cX14_fetchedSet 5 = .ok (.aload_n 0, 1) := by decide +kernel
theorem dccX14_fetchedSet_6 : decode cX14_fetchedSet 6 = .ok (.getfield 26, 3) := by decide +kernel
theorem dccX14_fetchedSet_9 : decode cX14_fetchedSet 9 = .ok (.invokevirtual 38, 3) := by decide +kernel
theorem dccX14_fetchedSet_12 : decode cX14_fetchedSet 12 = .ok (.if_icmp .ge 37, 3) := by decide +kernel
theorem dccX14_fetchedSet_15 : decode cX14_fetchedSet 15 = .ok (.iload_n 1, 1) := by decide +kernel
theorem dccX14_fetchedSet_16 : decode cX14_fetchedSet 16 = .ok (.aload_n 0, 1) := by decide +kernel
theorem dccX14_fetchedSet_17 : decode cX14_fetchedSet 17 = .ok (.getfield 26, 3) := by decide +kernel
theorem dccX14_fetchedSet_20 : decode cX14_fetchedSet 20 = .ok (.iload_n 2, 1) := by decide +kernel
theorem dccX14_fetchedSet_21 : decode cX14_fetchedSet 21 = .ok (.invokevirtual 58, 3) := by decide +kernel
theorem dccX14_fetchedSet_24 : decode cX14_fetchedSet 24 = .ok (.checkcast 67, 3) := by decide +kernel
theorem dccX14_fetchedSet_27 : decode cX14_fetchedSet 27 = .ok (.getfield 83, 3) := by decide +kernel
theorem dccX14_fetchedSet_30 : decode cX14_fetchedSet 30 = .ok (.iconst 1, 1) := by decide +kernel
theorem dccX14_fetchedSet_31 : decode cX14_fetchedSet 31 = .ok (.if_icmp .ne 9, 3) := by decide +kernel
theorem dccX14_fetchedSet_34 : decode cX14_fetchedSet 34 = .ok (.iconst 1, 1) := by decide +kernel
theorem dccX14_fetchedSet_35 : decode cX14_fetchedSet 35 = .ok (.iload_n 2, 1) := by decide +kernel
theorem dccX14_fetchedSet_36 : decode cX14_fetchedSet 36 = .ok (.ishl, 1) := by decide +kernel
theorem dccX14_fetchedSet_37 : decode cX14_fetchedSet 37 = .ok (.goto 4, 3) := by decide +kernel
theorem dccX14_fetchedSet_40 : decode cX14_fetchedSet 40 = .ok (.iconst 0, 1) := by decide +kernel
theorem dccX14_fetchedSet_41 : decode cX14_fetchedSet 41 = .ok (.ior, 1) := by decide +kernel
theorem dccX14_fetchedSet_42 : decode cX14_fetchedSet 42 = .ok (.istore_n 1, 1) := by decide +kernel
theorem dccX14_fetchedSet_43 : decode cX14_fetchedSet 43 = .ok (.iinc 2 1, 3) := by decide +kernel
theorem dccX14_fetchedSet_46 : decode cX14_fetchedSet 46 = .ok (.goto (-42), 3) := by decide +kernel
theorem dccX14_fetchedSet_49 : decode cX14_fetchedSet 49 = .ok (.iload_n 1, 1) := by decide +kernel
theorem dccX14_fetchedSet_50 : decode cX14_fetchedSet 50 = .ok (.ireturn, 1) := by decide +kernel
theorem dccX14_give_0 : decode cX14_give 0 = .ok (.aload_n 0, 1) := by decide +kernel
theorem dccX14_give_1 : decode cX14_give 1 = .ok (.iconst 0, 1) := by decide +kernel
theorem dccX14_give_2 : decode cX14_give 2 = .ok (.putfield 35, 3) := by decide +kernel
theorem dccX14_give_5 : decode cX14_give 5 = .ok (.iload_n 1, 1) := by decide +kernel
theorem dccX14_give_6 : decode cX14_give 6 = .ok (.iconst 1, 1) := by decide +kernel
theorem dccX14_give_7 : decode cX14_give 7 = .ok (.bipush 99, 2) := by decide +kernel
theorem dccX14_give_9 : decode cX14_give 9 = .ok (.invokestatic 42, 3) := by decide +kernel
theorem dccX14_give_12 : decode cX14_give 12 = .ok (.ifCond .ne 9, 3) := by decide +kernel
theorem dccX14_give_15 : decode cX14_give 15 = .ok (.aload_n 0, 1) := by decide +kernel
theorem dccX14_give_16 : decode cX14_give 16 = .ok (.iconst 1, 1) := by decide +kernel
theorem dccX14_give_17 : decode cX14_give 17 = .ok (.invokevirtual 46, 3) := by decide +kernel
theorem dccX14_give_20 : decode cX14_give 20 = .ok (.ireturn, 1) := by decide +kernel
theorem dccX14_give_21 : decode cX14_give 21 = .ok (.iload_n 1, 1) := by decide +kernel
theorem dccX14_give_22 : decode cX14_give 22 = .ok (.istore_n 2, 1) := by decide +kernel
theorem dccX14_give_23 : decode cX14_give 23 = .ok (.aload_n 0, 1) := by decide +kernel
theorem dccX14_give_24 : decode cX14_give 24 = .ok (.getfield 104, 3) := by decide +kernel
theorem dccX14_give_27 : decode cX14_give 27 = .ok (.istore_n 3, 1) := by decide +kernel
theorem dccX14_give_28 : decode cX14_give 28 = .ok (.iload_n 3, 1) := by decide +kernel
theorem dccX14_give_29 : decode cX14_give 29 = .ok (.aload_n 0, 1) := by decide +kernel
theorem dccX14_give_30 : decode cX14_give 30 = .ok (.getfield 104, 3) := by decide +kernel
theorem dccX14_give_33 : decode cX14_give 33 = .ok (.bipush 99, 2) := by decide +kernel
theorem dccX14_give_35 : decode cX14_give 35 = .ok (.iadd, 1) := by decide +kernel
theorem dccX14_give_36 : decode cX14_give 36 = .ok (.if_icmp .gt 78, 3) := by decide +kernel
theorem dccX14_give_39 : decode cX14_give 39 = .ok (.aload_n 0, 1) := by decide +kernel
theorem dccX14_give_40 : decode cX14_give 40 = .ok (.getfield 29, 3) := by decide +kernel
theorem dccX14_give_43 : decode cX14_give 43 = .ok (.invokevirtual 107, 3) := by decide +kernel
theorem dccX14_give_46 : decode cX14_give 46 = .ok (.astore 4, 2) := by decide +kernel
theorem dccX14_give_48 : decode cX14_give 48 = .ok (.aload 4, 2) := by decide +kernel
theorem dccX14_give_50 : decode cX14_give 50 = .ok (.invokeinterface 111 1, 5) := by decide +kernel
theorem dccX14_give_55 : decode cX14_give 55 = .ok (.ifCond .eq 53, 3) := by decide +kernel
theorem dccX14_give_58 : decode cX14_give 58 = .ok (.aload 4, 2) := by decide +kernel
theorem dccX14_give_60 : decode cX14_give 60 = .ok (.invokeinterface 117 1, 5) := by decide +kernel
theorem dccX14_give_65 : decode cX14_give 65 = .ok (.checkcast 62, 3) := by decide +kernel
theorem dccX14_give_68 : decode cX14_give 68 = .ok (.astore 5, 2) := by decide +kernel
theorem dccX14_give_70 : decode cX14_give 70 = .ok (.aload 5, 2) := by decide +kernel
theorem dccX14_give_72 : decode cX14_give 72 = .ok (.iconst 1, 1) := by decide +kernel
theorem dccX14_give_73 : decode cX14_give 73 = .ok (.iaload, 1) := by decide +kernel
theorem dccX14_give_74 : decode cX14_give 74 = .ok (.iload_n 3, 1) := by decide +kernel
theorem dccX14_give_75 : decode cX14_give 75 = .ok (.if_icmp .eq 6, 3) := by decide +kernel
theorem dccX14_give_78 : decode cX14_give 78 = .ok (.goto (-30), 3) := by decide +kernel
theorem dccX14_give_81 : decode cX14_give 81 = .ok (.iload_n 2, 1) := by decide +kernel
theorem dccX14_give_82 : decode cX14_give 82 = .ok (.aload 5, 2) := by decide +kernel
theorem dccX14_give_84 : decode cX14_give 84 = .ok (.iconst 0, 1) := by decide +kernel
theorem dccX14_give_85 : decode cX14_give 85 = .ok (.iaload, 1) := by decide +kernel
theorem dccX14_give_86 : decode cX14_give 86 = .ok (.invokestatic 95, 3) := by decide +kernel
theorem dccX14_give_89 : decode cX14_give 89 = .ok (.istore 6, 2) := by decide +kernel
theorem dccX14_give_91 : decode cX14_give 91 = .ok (.aload 5, 2) := by decide +kernel
theorem dccX14_give_93 : decode cX14_give 93 = .ok (.iconst 0, 1) := by decide +kernel
theorem dccX14_give_94 : decode cX14_give 94 = .ok (.dup2, 1) := by decide +kernel
theorem dccX14_give_95 : decode cX14_give 95 = .ok (.iaload, 1) := by decide +kernel
theorem dccX14_give_96 : decode cX14_give 96 = .ok (.iload 6, 2) := by decide +kernel
theorem dccX14_give_98 : decode cX14_give 98 = .ok (.isub, 1) := by decide +kernel
theorem dccX14_give_99 : decode cX14_give 99 = .ok (.iastore, 1) := by decide +kernel
theorem dccX14_give_100 : decode cX14_give 100 = .ok (.iload_n 2, 1) := by decide +kernel
theorem dccX14_give_101 : decode cX14_give 101 = .ok (.iload 6, 2) := by decide +kernel
theorem dccX14_give_103 : decode cX14_give 103 = .ok (.isub, 1) := by decide +kernel
theorem dccX14_give_104 : decode cX14_give 104 = .ok (.istore_n 2, 1) := by decide +kernel
theorem dccX14_give_105 : decode cX14_give 105 = .ok (.goto (-57), 3) := by decide +kernel
theorem dccX14_give_108 : decode cX14_give 108 = .ok (.iinc 3 1, 3) := by decide +kernel
theorem dccX14_give_111 : decode cX14_give 111 = .ok (.goto (-83), 3) := by decide +kernel
theorem dccX14_give_114 : decode cX14_give 114 = .ok (.aload_n 0, 1) := by decide +kernel
theorem dccX14_give_115 : decode cX14_give 115 = .ok (.dup, 1) := by decide +kernel
theorem dccX14_give_116 : decode cX14_give 116 = .ok (.getfield 130, 3) := by decide +kernel
theorem dccX14_give_119 : decode cX14_give 119 = .ok (.iload_n 1, 1) := by decide +kernel
theorem dccX14_give_120 : decode cX14_give 120 = .ok (.iload_n 2, 1) := by decide +kernel
theorem dccX14_give_121 : decode cX14_give 121 = .ok (.isub, 1) := by decide +kernel
theorem dccX14_give_122 : decode cX14_give 122 = .ok (.iadd, 1) := by decide +kernel
theorem dccX14_give_123 : decode cX14_give 123 = .ok (.putfield 130, 3) := by decide +kernel
theorem dccX14_give_126 : decode cX14_give 126 = .ok (.aload_n 0, 1) := by decide +kernel
theorem dccX14_give_127 : decode cX14_give 127 = .ok (.dup, 1) := by decide +kernel
theorem dccX14_give_128 : decode cX14_give 128 = .ok (.getfield 133, 3) := by decide +kernel
theorem dccX14_give_131 : decode cX14_give 131 = .ok (.iload_n 2, 1) := by decide +kernel
theorem dccX14_give_132 : decode cX14_give 132 = .ok (.iadd, 1) := by decide +kernel
theorem dccX14_give_133 : decode cX14_give 133 = .ok (.putfield 133, 3) := by decide +kernel
theorem dccX14_give_136 : decode cX14_give 136 = .ok (.iload_n 1, 1) := by decide +kernel
theorem dccX14_give_137 : decode cX14_give 137 = .ok (.iload_n 2, 1) := by decide +kernel
theorem dccX14_give_138 : decode cX14_give 138 = .ok (.isub, 1) := by decide +kernel
theorem dccX14_give_139 : decode cX14_give 139 = .ok (.ireturn, 1) := by decide +kernel
theorem dccX14_hall_0 : decode cX14_hall 0 = .ok (.aload_n 0, 1) := by decide +kernel
theorem dccX14_hall_1 : decode cX14_hall 1 = .ok (.iconst 0, 1) := by decide +kernel
theorem dccX14_hall_2 : decode cX14_hall 2 = .ok (.putfield 35, 3) := by decide +kernel
theorem dccX14_hall_5 : decode cX14_hall 5 = .ok (.iload_n 1, 1) := by decide +kernel
theorem dccX14_hall_6 : decode cX14_hall 6 = .ok (.iconst 0, 1) := by decide +kernel
theorem dccX14_hall_7 : decode cX14_hall 7 = .ok (.iconst 4, 1) := by decide +kernel
theorem dccX14_hall_8 : decode cX14_hall 8 = .ok (.invokestatic 42, 3) := by decide +kernel
theorem dccX14_hall_11 : decode cX14_hall 11 = .ok (.ifCond .eq 13, 3) := by decide +kernel
theorem dccX14_hall_14 : decode cX14_hall 14 = .ok (.iload_n 2, 1) := by decide +kernel
theorem dccX14_hall_15 : decode cX14_hall 15 = .ok (.iconst 0, 1) := by decide +kernel
theorem dccX14_hall_16 : decode cX14_hall 16 = .ok (.bipush 99, 2) := by decide +kernel
theorem dccX14_hall_18 : decode cX14_hall 18 = .ok (.invokestatic 42, 3) := by decide +kernel
theorem dccX14_hall_21 : decode cX14_hall 21 = .ok (.ifCond .ne 9, 3) := by decide +kernel
theorem dccX14_hall_24 : decode cX14_hall 24 = .ok (.aload_n 0, 1) := by decide +kernel
theorem dccX14_hall_25 : decode cX14_hall 25 = .ok (.iconst 1, 1) := by decide +kernel
theorem dccX14_hall_26 : decode cX14_hall 26 = .ok (.invokevirtual 46, 3) := by decide +kernel
theorem dccX14_hall_29 : decode cX14_hall 29 = .ok (.ireturn, 1) := by decide +kernel
theorem dccX14_hall_30 : decode cX14_hall 30 = .ok (.aload_n 0, 1) := by decide +kernel
theorem dccX14_hall_31 : decode cX14_hall 31 = .ok (.getfield 23, 3) := by decide +kernel
theorem dccX14_hall_34 : decode cX14_hall 34 = .ok (.invokevirtual 38, 3) := by decide +kernel
theorem dccX14_hall_37 : decode cX14_hall 37 = .ok (.iconst 3, 1) := by decide +kernel
theorem dccX14_hall_38 : decode cX14_hall 38 = .ok (.if_icmp .ne 9, 3) := by decide +kernel
theorem dccX14_hall_41 : decode cX14_hall 41 = .ok (.aload_n 0, 1) := by decide +kernel
theorem dccX14_hall_42 : decode cX14_hall 42 = .ok (.iconst 2, 1) := by decide +kernel
theorem dccX14_hall_43 : decode cX14_hall 43 = .ok (.invokevirtual 46, 3) := by decide +kernel
theorem dccX14_hall_46 : decode cX14_hall 46 = .ok (.ireturn, 1) := by decide +kernel
theorem dccX14_hall_47 : decode cX14_hall 47 = .ok (.aload_n 0, 1) := by decide +kernel
theorem dccX14_hall_48 : decode cX14_hall 48 = .ok (.getfield 23, 3) := by decide +kernel
theorem dccX14_hall_51 : decode cX14_hall 51 = .ok (.iconst 2, 1) := by decide +kernel
theorem dccX14_hall_52 : decode cX14_hall 52 = .ok (.newarray .int, 2) := by decide +kernel
theorem dccX14_hall_54 : decode cX14_hall 54 = .ok (.dup, 1) := by decide +kernel
theorem dccX14_hall_55 : decode cX14_hall 55 = .ok (.iconst 0, 1) := by decide +kernel
theorem dccX14_hall_56 : decode cX14_hall 56 = .ok (.iload_n 1, 1) := by decide +kernel
theorem dccX14_hall_57 : decode cX14_hall 57 = .ok (.iastore, 1) := by decide +kernel
theorem dccX14_hall_58 : decode cX14_hall 58 = .ok (.dup, 1) := by decide +kernel
theorem dccX14_hall_59 : decode cX14_hall 59 = .ok (.iconst 1, 1) := by decide +kernel
theorem dccX14_hall_60 : decode cX14_hall 60 = .ok (.iload_n 2, 1) := by decide +kernel
theorem dccX14_hall_61 : decode cX14_hall 61 = .ok (.iastore, 1) := by decide +kernel
theorem dccX14_hall_62 : decode cX14_hall 62 = .ok (.invokevirtual 50, 3) := by decide +kernel
theorem dccX14_hall_65 : decode cX14_hall 65 = .ok (.pop, 1) := by decide +kernel
theorem dccX14_hall_66 : decode cX14_hall 66 = .ok (.aload_n 0, 1) := by decide +kernel
theorem dccX14_hall_67 : decode cX14_hall 67 = .ok (.getfield 23, 3) := by decide +kernel
theorem dccX14_hall_70 : decode cX14_hall 70 = .ok (.invokevirtual 38, 3) := by decide +kernel
theorem dccX14_hall_73 : decode cX14_hall 73 = .ok (.iconst 1, 1) := by decide +kernel
theorem dccX14_hall_74 : decode cX14_hall 74 = .ok (.isub, 1) := by decide +kernel
theorem dccX14_hall_75 : decode cX14_hall 75 = .ok (.ireturn, 1) := by decide +kernel
theorem dccX14_having_0 : decode cX14_having 0 = .ok (.iconst 0, 1) := by decide +kernel
theorem dccX14_having_1 : decode cX14_having 1 = .ok (.istore_n 3, 1) := by decide +kernel
theorem dccX14_having_2 : decode cX14_having 2 = .ok (.iconst 0, 1) := by decide +kernel
theorem dccX14_having_3 : decode cX14_having 3 = .ok (.istore 4, 2) := by decide +kernel
theorem dccX14_having_5 : decode cX14_having 5 = .ok (.iload 4, 2) := by decide +kernel
theorem dccX14_having_7 : decode cX14_having 7 = .ok (.aload_n 1, 1) := by decide +kernel
theorem dccX14_having_8 : decode cX14_having 8 = .ok (.arraylength, 1) := by decide +kernel
theorem dccX14_having_9 : decode cX14_having 9 = .ok (.if_icmp .ge 28, 3) := by decide +kernel
theorem dccX14_having_12 : decode cX14_having 12 = .ok (.iload_n 3, 1) := by decide +kernel
theorem dccX14_having_13 : decode cX14_having 13 = .ok (.aload_n 1, 1) := by decide +kernel
theorem dccX14_having_14 : decode cX14_having 14 = .ok (.iload 4, 2) := by decide +kernel
theorem dccX14_having_16 : decode cX14_having 16 = .ok (.iaload, 1) := by decide +kernel
theorem dccX14_having_17 : decode cX14_having 17 = .ok (.iload_n 2, 1) := by decide +kernel
theorem dccX14_having_18 : decode cX14_having 18 = .ok (.if_icmp .ne 10, 3) := by decide +kernel
theorem dccX14_having_21 : decode cX14_having 21 = .ok (.iconst 1, 1) := by decide +kernel
theorem dccX14_having_22 : decode cX14_having 22 = .ok (.iload 4, 2) := by decide +kernel
theorem dccX14_having_24 : decode cX14_having 24 = .ok (.ishl, 1) := by decide +kernel
theorem dccX14_having_25 : decode cX14_having 25 = .ok (.goto 4, 3) := by decide +kernel
theorem dccX14_having_28 : decode cX14_having 28 = .ok (.iconst 0, 1) := by decide +kernel
theorem dccX14_having_29 : decode cX14_having 29 = .ok (.ior, 1) := by decide +kernel
theorem dccX14_having_30 : decode cX14_having 30 = .ok (.istore_n 3, 1) := by decide +kernel
theorem dccX14_having_31 : decode cX14_having 31 = .ok (.iinc 4 1, 3) := by decide +kernel
