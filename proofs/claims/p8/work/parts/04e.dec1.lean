theorem dccL_law_938 : decode cL_law 938 = .ok (.iadd, 1) := by decide +kernel
theorem dccL_law_939 : decode cL_law 939 = .ok (.iaload, 1) := by decide +kernel
theorem dccL_law_940 : decode cL_law 940 = .ok (.aload_n 0, 1) := by decide +kernel
theorem dccL_law_941 : decode cL_law 941 = .ok (.iload 4, 2) := by decide +kernel
theorem dccL_law_943 : decode cL_law 943 = .ok (.iconst 2, 1) := by decide +kernel
theorem dccL_law_944 : decode cL_law 944 = .ok (.iadd, 1) := by decide +kernel
theorem dccL_law_945 : decode cL_law 945 = .ok (.iaload, 1) := by decide +kernel
theorem dccL_law_946 : decode cL_law 946 = .ok (.aload_n 3, 1) := by decide +kernel
theorem dccL_law_947 : decode cL_law 947 = .ok (.invokestatic 173, 3) := by decide +kernel
theorem dccL_law_950 : decode cL_law 950 = .ok (.istore 5, 2) := by decide +kernel
theorem dccL_law_952 : decode cL_law 952 = .ok (.aload_n 2, 1) := by decide +kernel
theorem dccL_law_953 : decode cL_law 953 = .ok (.aload_n 0, 1) := by decide +kernel
theorem dccL_law_954 : decode cL_law 954 = .ok (.iload 4, 2) := by decide +kernel
theorem dccL_law_956 : decode cL_law 956 = .ok (.iconst 1, 1) := by decide +kernel
theorem dccL_law_957 : decode cL_law 957 = .ok (.iadd, 1) := by decide +kernel
theorem dccL_law_958 : decode cL_law 958 = .ok (.iaload, 1) := by decide +kernel
theorem dccL_law_959 : decode cL_law 959 = .ok (.aload_n 0, 1) := by decide +kernel
theorem dccL_law_960 : decode cL_law 960 = .ok (.iload 4, 2) := by decide +kernel
theorem dccL_law_962 : decode cL_law 962 = .ok (.iconst 2, 1) := by decide +kernel
theorem dccL_law_963 : decode cL_law 963 = .ok (.iadd, 1) := by decide +kernel
theorem dccL_law_964 : decode cL_law 964 = .ok (.iaload, 1) := by decide +kernel
theorem dccL_law_965 : decode cL_law 965 = .ok (.invokevirtual 175, 3) := by decide +kernel
theorem dccL_law_968 : decode cL_law 968 = .ok (.istore 6, 2) := by decide +kernel
theorem dccL_law_970 : decode cL_law 970 = .ok (.goto 69, 3) := by decide +kernel
theorem dccL_law_973 : decode cL_law 973 = .ok (.aload_n 1, 1) := by decide +kernel
theorem dccL_law_974 : decode cL_law 974 = .ok (.aload_n 0, 1) := by decide +kernel
theorem dccL_law_975 : decode cL_law 975 = .ok (.iload 4, 2) := by decide +kernel
theorem dccL_law_977 : decode cL_law 977 = .ok (.iconst 1, 1) := by decide +kernel
theorem dccL_law_978 : decode cL_law 978 = .ok (.iadd, 1) := by decide +kernel
theorem dccL_law_979 : decode cL_law 979 = .ok (.iaload, 1) := by decide +kernel
theorem dccL_law_980 : decode cL_law 980 = .ok (.aload_n 0, 1) := by decide +kernel
theorem dccL_law_981 : decode cL_law 981 = .ok (.iload 4, 2) := by decide +kernel
theorem dccL_law_983 : decode cL_law 983 = .ok (.iconst 2, 1) := by decide +kernel
theorem dccL_law_984 : decode cL_law 984 = .ok (.iadd, 1) := by decide +kernel
theorem dccL_law_985 : decode cL_law 985 = .ok (.iaload, 1) := by decide +kernel
theorem dccL_law_986 : decode cL_law 986 = .ok (.aload_n 3, 1) := by decide +kernel
theorem dccL_law_987 : decode cL_law 987 = .ok (.invokestatic 176, 3) := by decide +kernel
theorem dccL_law_990 : decode cL_law 990 = .ok (.istore 5, 2) := by decide +kernel
theorem dccL_law_992 : decode cL_law 992 = .ok (.aload_n 2, 1) := by decide +kernel
theorem dccL_law_993 : decode cL_law 993 = .ok (.aload_n 0, 1) := by decide +kernel
theorem dccL_law_994 : decode cL_law 994 = .ok (.iload 4, 2) := by decide +kernel
theorem dccL_law_996 : decode cL_law 996 = .ok (.iconst 1, 1) := by decide +kernel
theorem dccL_law_997 : decode cL_law 997 = .ok (.iadd, 1) := by decide +kernel
theorem dccL_law_998 : decode cL_law 998 = .ok (.iaload, 1) := by decide +kernel
theorem dccL_law_999 : decode cL_law 999 = .ok (.aload_n 0, 1) := by decide +kernel
theorem dccL_law_1000 : decode cL_law 1000 = .ok (.iload 4, 2) := by decide +kernel
theorem dccL_law_1002 : decode cL_law 1002 = .ok (.iconst 2, 1) := by decide +kernel
theorem dccL_law_1003 : decode cL_law 1003 = .ok (.iadd, 1) := by decide +kernel
theorem dccL_law_1004 : decode cL_law 1004 = .ok (.iaload, 1) := by decide +kernel
theorem dccL_law_1005 : decode cL_law 1005 = .ok (.invokevirtual 178, 3) := by decide +kernel
theorem dccL_law_1008 : decode cL_law 1008 = .ok (.istore 6, 2) := by decide +kernel
theorem dccL_law_1010 : decode cL_law 1010 = .ok (.goto 29, 3) := by decide +kernel
theorem dccL_law_1013 : decode cL_law 1013 = .ok (.aload_n 1, 1) := by decide +kernel
theorem dccL_law_1014 : decode cL_law 1014 = .ok (.invokevirtual 179, 3) := by decide +kernel
theorem dccL_law_1017 : decode cL_law 1017 = .ok (.pop, 1) := by decide +kernel
theorem dccL_law_1018 : decode cL_law 1018 = .ok (.aload_n 2, 1) := by decide +kernel
theorem dccL_law_1019 : decode cL_law 1019 = .ok (.invokevirtual 183, 3) := by decide +kernel
theorem dccL_law_1022 : decode cL_law 1022 = .ok (.pop, 1) := by decide +kernel
theorem dccL_law_1023 : decode cL_law 1023 = .ok (.goto 16, 3) := by decide +kernel
theorem dccL_law_1026 : decode cL_law 1026 = .ok (.aload_n 1, 1) := by decide +kernel
theorem dccL_law_1027 : decode cL_law 1027 = .ok (.invokevirtual 184, 3) := by decide +kernel
theorem dccL_law_1030 : decode cL_law 1030 = .ok (.pop2, 1) := by decide +kernel
theorem dccL_law_1031 : decode cL_law 1031 = .ok (.aload_n 2, 1) := by decide +kernel
theorem dccL_law_1032 : decode cL_law 1032 = .ok (.invokevirtual 188, 3) := by decide +kernel
theorem dccL_law_1035 : decode cL_law 1035 = .ok (.pop2, 1) := by decide +kernel
theorem dccL_law_1036 : decode cL_law 1036 = .ok (.goto 3, 3) := by decide +kernel
theorem dccL_law_1039 : decode cL_law 1039 = .ok (.iinc 4 4, 3) := by decide +kernel
theorem dccL_law_1042 : decode cL_law 1042 = .ok (.goto (-1015), 3) := by decide +kernel
theorem dccL_law_1045 : decode cL_law 1045 = .ok (.iconst 1, 1) := by decide +kernel
theorem dccL_law_1046 : decode cL_law 1046 = .ok (.ireturn, 1) := by decide +kernel
theorem dccL_list_0 : decode cL_list 0 = .ok (.aload_n 2, 1) := by decide +kernel
theorem dccL_list_1 : decode cL_list 1 = .ok (.aload_n 0, 1) := by decide +kernel
theorem dccL_list_2 : decode cL_list 2 = .ok (.iload_n 1, 1) := by decide +kernel
theorem dccL_list_3 : decode cL_list 3 = .ok (.invokevirtual 54, 3) := by decide +kernel
theorem dccL_list_6 : decode cL_list 6 = .ok (.i2l, 1) := by decide +kernel
theorem dccL_list_7 : decode cL_list 7 = .ok (.putfield 13, 3) := by decide +kernel
theorem dccL_list_10 : decode cL_list 10 = .ok (.goto 9, 3) := by decide +kernel
theorem dccL_list_13 : decode cL_list 13 = .ok (.astore_n 3, 1) := by decide +kernel
theorem dccL_list_14 : decode cL_list 14 = .ok (.iconst 1, 1) := by decide +kernel
theorem dccL_list_15 : decode cL_list 15 = .ok (.ireturn, 1) := by decide +kernel
theorem dccL_list_16 : decode cL_list 16 = .ok (.astore_n 3, 1) := by decide +kernel
theorem dccL_list_17 : decode cL_list 17 = .ok (.iconst 2, 1) := by decide +kernel
theorem dccL_list_18 : decode cL_list 18 = .ok (.ireturn, 1) := by decide +kernel
theorem dccL_list_19 : decode cL_list 19 = .ok (.iconst 0, 1) := by decide +kernel
theorem dccL_list_20 : decode cL_list 20 = .ok (.ireturn, 1) := by decide +kernel
theorem dccL_lot_0 : decode cL_lot 0 = .ok (.aload_n 3, 1) := by decide +kernel
theorem dccL_lot_1 : decode cL_lot 1 = .ok (.aload_n 0, 1) := by decide +kernel
theorem dccL_lot_2 : decode cL_lot 2 = .ok (.iload_n 1, 1) := by decide +kernel
theorem dccL_lot_3 : decode cL_lot 3 = .ok (.iload_n 2, 1) := by decide +kernel
theorem dccL_lot_4 : decode cL_lot 4 = .ok (.invokevirtual 48, 3) := by decide +kernel
theorem dccL_lot_7 : decode cL_lot 7 = .ok (.i2l, 1) := by decide +kernel
theorem dccL_lot_8 : decode cL_lot 8 = .ok (.putfield 13, 3) := by decide +kernel
theorem dccL_lot_11 : decode cL_lot 11 = .ok (.goto 11, 3) := by decide +kernel
theorem dccL_lot_14 : decode cL_lot 14 = .ok (.astore 4, 2) := by decide +kernel
theorem dccL_lot_16 : decode cL_lot 16 = .ok (.iconst 1, 1) := by decide +kernel
theorem dccL_lot_17 : decode cL_lot 17 = .ok (.ireturn, 1) := by decide +kernel
theorem dccL_lot_18 : decode cL_lot 18 = .ok (.astore 4, 2) := by decide +kernel
theorem dccL_lot_20 : decode cL_lot 20 = .ok (.iconst 2, 1) := by decide +kernel
theorem dccL_lot_21 : decode cL_lot 21 = .ok (.ireturn, 1) := by decide +kernel
theorem dccL_lot_22 : decode cL_lot 22 = .ok (.iconst 0, 1) := by decide +kernel
theorem dccL_lot_23 : decode cL_lot 23 = .ok (.ireturn, 1) := by decide +kernel
theorem dccL_ofHall_0 : decode cL_ofHall 0 = .ok (.aload_n 3, 1) := by decide +kernel
theorem dccL_ofHall_1 : decode cL_ofHall 1 = .ok (.aload_n 0, 1) := by decide +kernel
theorem dccL_ofHall_2 : decode cL_ofHall 2 = .ok (.iload_n 1, 1) := by decide +kernel
theorem dccL_ofHall_3 : decode cL_ofHall 3 = .ok (.iload_n 2, 1) := by decide +kernel
theorem dccL_ofHall_4 : decode cL_ofHall 4 = .ok (.invokevirtual 67, 3) := by decide +kernel
theorem dccL_ofHall_7 : decode cL_ofHall 7 = .ok (.i2l, 1) := by decide +kernel
theorem dccL_ofHall_8 : decode cL_ofHall 8 = .ok (.putfield 13, 3) := by decide +kernel
theorem dccL_ofHall_11 : decode cL_ofHall 11 = .ok (.goto 11, 3) := by decide +kernel
theorem dccL_ofHall_14 : decode cL_ofHall 14 = .ok (.astore 4, 2) := by decide +kernel
theorem dccL_ofHall_16 : decode cL_ofHall 16 = .ok (.iconst 1, 1) := by decide +kernel
theorem dccL_ofHall_17 : decode cL_ofHall 17 = .ok (.ireturn, 1) := by decide +kernel
theorem dccL_ofHall_18 : decode cL_ofHall 18 = .ok (.astore 4, 2) := by decide +kernel
theorem dccL_ofHall_20 : decode cL_ofHall 20 = .ok (.iconst 2, 1) := by decide +kernel
theorem dccL_ofHall_21 : decode cL_ofHall 21 = .ok (.ireturn, 1) := by decide +kernel
theorem dccL_ofHall_22 : decode cL_ofHall 22 = .ok (.iconst 0, 1) := by decide +kernel
theorem dccL_ofHall_23 : decode cL_ofHall 23 = .ok (.ireturn, 1) := by decide +kernel
theorem dccL_ofHousehold_0 : decode cL_ofHousehold 0 = .ok (.aload_n 3, 1) := by decide +kernel
theorem dccL_ofHousehold_1 : decode cL_ofHousehold 1 = .ok (.aload_n 0, 1) := by decide +kernel
theorem dccL_ofHousehold_2 : decode cL_ofHousehold 2 = .ok (.iload_n 1, 1) := by decide +kernel
theorem dccL_ofHousehold_3 : decode cL_ofHousehold 3 = .ok (.iload_n 2, 1) := by decide +kernel
theorem dccL_ofHousehold_4 : decode cL_ofHousehold 4 = .ok (.invokevirtual 64, 3) := by decide +kernel
theorem dccL_ofHousehold_7 : decode cL_ofHousehold 7 = .ok (.i2l, 1) := by decide +kernel
theorem dccL_ofHousehold_8 : decode cL_ofHousehold 8 = .ok (.putfield 13, 3) := by decide +kernel
theorem dccL_ofHousehold_11 : decode cL_ofHousehold 11 = .ok (.goto 11, 3) := by decide +kernel
theorem dccL_ofHousehold_14 : decode cL_ofHousehold 14 = .ok (.astore 4, 2) := by decide +kernel
theorem dccL_ofHousehold_16 : decode cL_ofHousehold 16 = .ok (.iconst 1, 1) := by decide +kernel
theorem dccL_ofHousehold_17 : decode cL_ofHousehold 17 = .ok (.ireturn, 1) := by decide +kernel
theorem dccL_ofHousehold_18 : decode cL_ofHousehold 18 = .ok (.astore 4, 2) := by decide +kernel
theorem dccL_ofHousehold_20 : decode cL_ofHousehold 20 = .ok (.iconst 2, 1) := by decide +kernel
theorem dccL_ofHousehold_21 : decode cL_ofHousehold 21 = .ok (.ireturn, 1) := by decide +kernel
theorem dccL_ofHousehold_22 : decode cL_ofHousehold 22 = .ok (.iconst 0, 1) := by decide +kernel
theorem dccL_ofHousehold_23 : decode cL_ofHousehold 23 = .ok (.ireturn, 1) := by decide +kernel
theorem dccL_ofLot_0 : decode cL_ofLot 0 = .ok (.aload_n 3, 1) := by decide +kernel
theorem dccL_ofLot_1 : decode cL_ofLot 1 = .ok (.aload_n 0, 1) := by decide +kernel
theorem dccL_ofLot_2 : decode cL_ofLot 2 = .ok (.iload_n 1, 1) := by decide +kernel
theorem dccL_ofLot_3 : decode cL_ofLot 3 = .ok (.iload_n 2, 1) := by decide +kernel
theorem dccL_ofLot_4 : decode cL_ofLot 4 = .ok (.invokevirtual 70, 3) := by decide +kernel
theorem dccL_ofLot_7 : decode cL_ofLot 7 = .ok (.i2l, 1) := by decide +kernel
theorem dccL_ofLot_8 : decode cL_ofLot 8 = .ok (.putfield 13, 3) := by decide +kernel
theorem dccL_ofLot_11 : decode cL_ofLot 11 = .ok (.goto 11, 3) := by decide +kernel
theorem dccL_ofLot_14 : decode cL_ofLot 14 = .ok (.astore 4, 2) := by decide +kernel
theorem dccL_ofLot_16 : decode cL_ofLot 16 = .ok (.iconst 1, 1) := by decide +kernel
theorem dccL_ofLot_17 : decode cL_ofLot 17 = .ok (.ireturn, 1) := by decide +kernel
theorem dccL_ofLot_18 : decode cL_ofLot 18 = .ok (.astore 4, 2) := by decide +kernel
theorem dccL_ofLot_20 : decode cL_ofLot 20 = .ok (.iconst 2, 1) := by decide +kernel
theorem dccL_ofLot_21 : decode cL_ofLot 21 = .ok (.ireturn, 1) := by decide +kernel
theorem dccL_ofLot_22 : decode cL_ofLot 22 = .ok (.iconst 0, 1) := by decide +kernel
theorem dccL_ofLot_23 : decode cL_ofLot 23 = .ok (.ireturn, 1) := by decide +kernel
theorem dccL_ofStreet_0 : decode cL_ofStreet 0 = .ok (.aload_n 3, 1) := by decide +kernel
theorem dccL_ofStreet_1 : decode cL_ofStreet 1 = .ok (.aload_n 0, 1) := by decide +kernel
theorem dccL_ofStreet_2 : decode cL_ofStreet 2 = .ok (.iload_n 1, 1) := by decide +kernel
theorem dccL_ofStreet_3 : decode cL_ofStreet 3 = .ok (.iload_n 2, 1) := by decide +kernel
theorem dccL_ofStreet_4 : decode cL_ofStreet 4 = .ok (.invokevirtual 61, 3) := by decide +kernel
theorem dccL_ofStreet_7 : decode cL_ofStreet 7 = .ok (.i2l, 1) := by decide +kernel
theorem dccL_ofStreet_8 : decode cL_ofStreet 8 = .ok (.putfield 13, 3) := by decide +kernel
theorem dccL_ofStreet_11 : decode cL_ofStreet 11 = .ok (.goto 11, 3) := by decide +kernel
theorem dccL_ofStreet_14 : decode cL_ofStreet 14 = .ok (.astore 4, 2) := by decide +kernel
theorem dccL_ofStreet_16 : decode cL_ofStreet 16 = .ok (.iconst 1, 1) := by decide +kernel
theorem dccL_ofStreet_17 : decode cL_ofStreet 17 = .ok (.ireturn, 1) := by decide +kernel
theorem dccL_ofStreet_18 : decode cL_ofStreet 18 = .ok (.astore 4, 2) := by decide +kernel
theorem dccL_ofStreet_20 : decode cL_ofStreet 20 = .ok (.iconst 2, 1) := by decide +kernel
theorem dccL_ofStreet_21 : decode cL_ofStreet 21 = .ok (.ireturn, 1) := by decide +kernel
theorem dccL_ofStreet_22 : decode cL_ofStreet 22 = .ok (.iconst 0, 1) := by decide +kernel
theorem dccL_ofStreet_23 : decode cL_ofStreet 23 = .ok (.ireturn, 1) := by decide +kernel
theorem dccL_pass_0 : decode cL_pass 0 = .ok (.aload_n 2, 1) := by decide +kernel
theorem dccL_pass_1 : decode cL_pass 1 = .ok (.aload_n 0, 1) := by decide +kernel
theorem dccL_pass_2 : decode cL_pass 2 = .ok (.iload_n 1, 1) := by decide +kernel
theorem dccL_pass_3 : decode cL_pass 3 = .ok (.invokevirtual 45, 3) := by decide +kernel
theorem dccL_pass_6 : decode cL_pass 6 = .ok (.i2l, 1) := by decide +kernel
theorem dccL_pass_7 : decode cL_pass 7 = .ok (.putfield 13, 3) := by decide +kernel
theorem dccL_pass_10 : decode cL_pass 10 = .ok (.goto 9, 3) := by decide +kernel
theorem dccL_pass_13 : decode cL_pass 13 = .ok (.astore_n 3, 1) := by decide +kernel
theorem dccL_pass_14 : decode cL_pass 14 = .ok (.iconst 1, 1) := by decide +kernel
theorem dccL_pass_15 : decode cL_pass 15 = .ok (.ireturn, 1) := by decide +kernel
theorem dccL_pass_16 : decode cL_pass 16 = .ok (.astore_n 3, 1) := by decide +kernel
theorem dccL_pass_17 : decode cL_pass 17 = .ok (.iconst 2, 1) := by decide +kernel
theorem dccL_pass_18 : decode cL_pass 18 = .ok (.ireturn, 1) := by decide +kernel
theorem dccL_pass_19 : decode cL_pass 19 = .ok (.iconst 0, 1) := by decide +kernel
theorem dccL_pass_20 : decode cL_pass 20 = .ok (.ireturn, 1) := by decide +kernel
theorem dccL_river_0 : decode cL_river 0 = .ok (.aload_n 3, 1) := by decide +kernel
theorem dccL_river_1 : decode cL_river 1 = .ok (.aload_n 0, 1) := by decide +kernel
theorem dccL_river_2 : decode cL_river 2 = .ok (.iload_n 1, 1) := by decide +kernel
theorem dccL_river_3 : decode cL_river 3 = .ok (.iload_n 2, 1) := by decide +kernel
theorem dccL_river_4 : decode cL_river 4 = .ok (.invokevirtual 35, 3) := by decide +kernel
theorem dccL_river_7 : decode cL_river 7 = .ok (.i2l, 1) := by decide +kernel
theorem dccL_river_8 : decode cL_river 8 = .ok (.putfield 13, 3) := by decide +kernel
theorem dccL_river_11 : decode cL_river 11 = .ok (.goto 7, 3) := by decide +kernel
theorem dccL_river_14 : decode cL_river 14 = .ok (.astore 4, 2) := by decide +kernel
theorem dccL_river_16 : decode cL_river 16 = .ok (.iconst 1, 1) := by decide +kernel
theorem dccL_river_17 : decode cL_river 17 = .ok (.ireturn, 1) := by decide +kernel
theorem dccL_river_18 : decode cL_river 18 = .ok (.iconst 0, 1) := by decide +kernel
theorem dccL_river_19 : decode cL_river 19 = .ok (.ireturn, 1) := by decide +kernel
theorem dccL_rooms_0 : decode cL_rooms 0 = .ok (.aload_n 3, 1) := by decide +kernel
theorem dccL_rooms_1 : decode cL_rooms 1 = .ok (.aload_n 0, 1) := by decide +kernel
theorem dccL_rooms_2 : decode cL_rooms 2 = .ok (.iload_n 1, 1) := by decide +kernel
theorem dccL_rooms_3 : decode cL_rooms 3 = .ok (.iload_n 2, 1) := by decide +kernel
theorem dccL_rooms_4 : decode cL_rooms 4 = .ok (.invokevirtual 26, 3) := by decide +kernel
theorem dccL_rooms_7 : decode cL_rooms 7 = .ok (.i2l, 1) := by decide +kernel
theorem dccL_rooms_8 : decode cL_rooms 8 = .ok (.putfield 13, 3) := by decide +kernel
theorem dccL_rooms_11 : decode cL_rooms 11 = .ok (.goto 11, 3) := by decide +kernel
theorem dccL_rooms_14 : decode cL_rooms 14 = .ok (.astore 4, 2) := by decide +kernel
theorem dccL_rooms_16 : decode cL_rooms 16 = .ok (.iconst 1, 1) := by decide +kernel
theorem dccL_rooms_17 : decode cL_rooms 17 = .ok (.ireturn, 1) := by decide +kernel
theorem dccL_rooms_18 : decode cL_rooms 18 = .ok (.astore 4, 2) := by decide +kernel
theorem dccL_rooms_20 : decode cL_rooms 20 = .ok (.iconst 2, 1) := by decide +kernel
theorem dccL_rooms_21 : decode cL_rooms 21 = .ok (.ireturn, 1) := by decide +kernel
theorem dccL_rooms_22 : decode cL_rooms 22 = .ok (.iconst 0, 1) := by decide +kernel
theorem dccL_rooms_23 : decode cL_rooms 23 = .ok (.ireturn, 1) := by decide +kernel
theorem dccL_street_0 : decode cL_street 0 = .ok (.aload_n 3, 1) := by decide +kernel
theorem dccL_street_1 : decode cL_street 1 = .ok (.aload_n 0, 1) := by decide +kernel
theorem dccL_street_2 : decode cL_street 2 = .ok (.iload_n 1, 1) := by decide +kernel
theorem dccL_street_3 : decode cL_street 3 = .ok (.iload_n 2, 1) := by decide +kernel
theorem dccL_street_4 : decode cL_street 4 = .ok (.invokevirtual 7, 3) := by decide +kernel
theorem dccL_street_7 : decode cL_street 7 = .ok (.i2l, 1) := by decide +kernel
theorem dccL_street_8 : decode cL_street 8 = .ok (.putfield 13, 3) := by decide +kernel
theorem dccL_street_11 : decode cL_street 11 = .ok (.goto 11, 3) := by decide +kernel
theorem dccL_street_14 : decode cL_street 14 = .ok (.astore 4, 2) := by decide +kernel
theorem dccL_street_16 : decode cL_street 16 = .ok (.iconst 1, 1) := by decide +kernel
theorem dccL_street_17 : decode cL_street 17 = .ok (.ireturn, 1) := by decide +kernel
theorem dccL_street_18 : decode cL_street 18 = .ok (.astore 4, 2) := by decide +kernel
theorem dccL_street_20 : decode cL_street 20 = .ok (.iconst 2, 1) := by decide +kernel
theorem dccL_street_21 : decode cL_street 21 = .ok (.ireturn, 1) := by decide +kernel
theorem dccL_street_22 : decode cL_street 22 = .ok (.iconst 0, 1) := by decide +kernel
theorem dccL_street_23 : decode cL_street 23 = .ok (.ireturn, 1) := by decide +kernel
theorem dccL_strike_0 : decode cL_strike 0 = .ok (.aload_n 3, 1) := by decide +kernel
theorem dccL_strike_1 : decode cL_strike 1 = .ok (.aload_n 0, 1) := by decide +kernel
theorem dccL_strike_2 : decode cL_strike 2 = .ok (.iload_n 1, 1) := by decide +kernel
theorem dccL_strike_3 : decode cL_strike 3 = .ok (.iload_n 2, 1) := by decide +kernel
theorem dccL_strike_4 : decode cL_strike 4 = .ok (.invokevirtual 57, 3) := by decide +kernel
theorem dccL_strike_7 : decode cL_strike 7 = .ok (.i2l, 1) := by decide +kernel
theorem dccL_strike_8 : decode cL_strike 8 = .ok (.putfield 13, 3) := by decide +kernel
theorem dccL_strike_11 : decode cL_strike 11 = .ok (.goto 7, 3) := by decide +kernel
theorem dccL_strike_14 : decode cL_strike 14 = .ok (.astore 4, 2) := by decide +kernel
theorem dccL_strike_16 : decode cL_strike 16 = .ok (.iconst 1, 1) := by decide +kernel
theorem dccL_strike_17 : decode cL_strike 17 = .ok (.ireturn, 1) := by decide +kernel
theorem dccL_strike_18 : decode cL_strike 18 = .ok (.iconst 0, 1) := by decide +kernel
theorem dccL_strike_19 : decode cL_strike 19 = .ok (.ireturn, 1) := by decide +kernel
theorem dccL_would_0 : decode cL_would 0 = .ok (.aload_n 3, 1) := by decide +kernel
theorem dccL_would_1 : decode cL_would 1 = .ok (.aload_n 0, 1) := by decide +kernel
theorem dccL_would_2 : decode cL_would 2 = .ok (.iload_n 1, 1) := by decide +kernel
theorem dccL_would_3 : decode cL_would 3 = .ok (.iload_n 2, 1) := by decide +kernel
theorem dccL_would_4 : decode cL_would 4 = .ok (.invokevirtual 80, 3) := by decide +kernel
theorem dccL_would_7 : decode cL_would 7 = .ok (.i2l, 1) := by decide +kernel
theorem dccL_would_8 : decode cL_would 8 = .ok (.putfield 13, 3) := by decide +kernel
theorem dccL_would_11 : decode cL_would 11 = .ok (.goto 7, 3) := by decide +kernel
theorem dccL_would_14 : decode cL_would 14 = .ok (.astore 4, 2) := by decide +kernel
theorem dccL_would_16 : decode cL_would 16 = .ok (.iconst 1, 1) := by decide +kernel
theorem dccL_would_17 : decode cL_would 17 = .ok (.ireturn, 1) := by decide +kernel
theorem dccL_would_18 : decode cL_would 18 = .ok (.iconst 0, 1) := by decide +kernel
theorem dccL_would_19 : decode cL_would 19 = .ok (.ireturn, 1) := by decide +kernel
theorem dccX0_ask_0 : decode cX0_ask 0 = .ok (.aload_n 0, 1) := by decide +kernel
theorem dccX0_ask_1 : decode cX0_ask 1 = .ok (.dup, 1) := by decide +kernel
theorem dccX0_ask_2 : decode cX0_ask 2 = .ok (.getfield 15, 3) := by decide +kernel
theorem dccX0_ask_5 : decode cX0_ask 5 = .ok (.iconst 1, 1) := by decide +kernel
theorem dccX0_ask_6 : decode cX0_ask 6 = .ok (.iadd, 1) := by decide +kernel
theorem dccX0_ask_7 : decode cX0_ask 7 = .ok (.putfield 15, 3) := by decide +kernel
theorem dccX0_ask_10 : decode cX0_ask 10 = .ok (.aload_n 1, 1) := by decide +kernel
theorem dccX0_ask_11 : decode cX0_ask 11 = .ok (.getfield 74, 3) := by decide +kernel
theorem dccX0_ask_14 : decode cX0_ask 14 = .ok (.ifCond .lt 33, 3) := by decide +kernel
theorem dccX0_ask_17 : decode cX0_ask 17 = .ok (.aload_n 1, 1) := by decide +kernel
theorem dccX0_ask_18 : decode cX0_ask 18 = .ok (.getfield 74, 3) := by decide +kernel
theorem dccX0_ask_21 : decode cX0_ask 21 = .ok (.aload_n 0, 1) := by decide +kernel
theorem dccX0_ask_22 : decode cX0_ask 22 = .ok (.getfield 9, 3) := by decide +kernel
theorem dccX0_ask_25 : decode cX0_ask 25 = .ok (.arraylength, 1) := by decide +kernel
theorem dccX0_ask_26 : decode cX0_ask 26 = .ok (.if_icmp .ge 21, 3) := by decide +kernel
theorem dccX0_ask_29 : decode cX0_ask 29 = .ok (.aload_n 0, 1) := by decide +kernel
theorem dccX0_ask_30 : decode cX0_ask 30 = .ok (.getfield 9, 3) := by decide +kernel
theorem dccX0_ask_33 : decode cX0_ask 33 = .ok (.aload_n 1, 1) := by decide +kernel
theorem dccX0_ask_34 : decode cX0_ask 34 = .ok (.getfield 74, 3) := by decide +kernel
theorem dccX0_ask_37 : decode cX0_ask 37 = .ok (.dup2, 1) := by decide +kernel
theorem dccX0_ask_38 : decode cX0_ask 38 = .ok (.iaload, 1) := by decide +kernel
theorem dccX0_ask_39 : decode cX0_ask 39 = .ok (.iconst 1, 1) := by decide +kernel
theorem dccX0_ask_40 : decode cX0_ask 40 = .ok (.aload_n 2, 1) := by decide +kernel
theorem dccX0_ask_41 : decode cX0_ask 41 = .ok (.getfield 77, 3) := by decide +kernel
theorem dccX0_ask_44 : decode cX0_ask 44 = .ok (.ishl, 1) := by decide +kernel
theorem dccX0_ask_45 : decode cX0_ask 45 = .ok (.ior, 1) := by decide +kernel
theorem dccX0_ask_46 : decode cX0_ask 46 = .ok (.iastore, 1) := by decide +kernel
theorem dccX0_ask_47 : decode cX0_ask 47 = .ok (.aload_n 0, 1) := by decide +kernel
theorem dccX0_ask_48 : decode cX0_ask 48 = .ok (.getfield 26, 3) := by decide +kernel
theorem dccX0_ask_51 : decode cX0_ask 51 = .ok (.aload_n 2, 1) := by decide +kernel
theorem dccX0_ask_52 : decode cX0_ask 52 = .ok (.invokevirtual 82, 3) := by decide +kernel
theorem dccX0_ask_55 : decode cX0_ask 55 = .ok (.ifCond .eq 13, 3) := by decide +kernel
theorem dccX0_ask_58 : decode cX0_ask 58 = .ok (.aload_n 0, 1) := by decide +kernel
theorem dccX0_ask_59 : decode cX0_ask 59 = .ok (.getfield 26, 3) := by decide +kernel
theorem dccX0_ask_62 : decode cX0_ask 62 = .ok (.aload_n 1, 1) := by decide +kernel
theorem dccX0_ask_63 : decode cX0_ask 63 = .ok (.aload_n 2, 1) := by decide +kernel
theorem dccX0_ask_64 : decode cX0_ask 64 = .ok (.invokevirtual 86, 3) := by decide +kernel
theorem dccX0_ask_67 : decode cX0_ask 67 = .ok (.return_, 1) := by decide +kernel
theorem dccX0_ask_68 : decode cX0_ask 68 = .ok (.aload_n 0, 1) := by decide +kernel
theorem dccX0_ask_69 : decode cX0_ask 69 = .ok (.getfield 26, 3) := by decide +kernel
theorem dccX0_ask_72 : decode cX0_ask 72 = .ok (.aload_n 2, 1) := by decide +kernel
theorem dccX0_ask_73 : decode cX0_ask 73 = .ok (.invokevirtual 89, 3) := by decide +kernel
theorem dccX0_ask_76 : decode cX0_ask 76 = .ok (.astore_n 3, 1) := by decide +kernel
theorem dccX0_ask_77 : decode cX0_ask 77 = .ok (.aload_n 3, 1) := by decide +kernel
theorem dccX0_ask_78 : decode cX0_ask 78 = .ok (.ifnull 29, 3) := by decide +kernel
theorem dccX0_ask_81 : decode cX0_ask 81 = .ok (.aload_n 1, 1) := by decide +kernel
theorem dccX0_ask_82 : decode cX0_ask 82 = .ok (.aload_n 3, 1) := by decide +kernel
theorem dccX0_ask_83 : decode cX0_ask 83 = .ok (.invokevirtual 93, 3) := by decide +kernel
theorem dccX0_ask_86 : decode cX0_ask 86 = .ok (.ifCond .eq 21, 3) := by decide +kernel
theorem dccX0_ask_89 : decode cX0_ask 89 = .ok (.aload_n 0, 1) := by decide +kernel
theorem dccX0_ask_90 : decode cX0_ask 90 = .ok (.getfield 26, 3) := by decide +kernel
theorem dccX0_ask_93 : decode cX0_ask 93 = .ok (.aload_n 3, 1) := by decide +kernel
theorem dccX0_ask_94 : decode cX0_ask 94 = .ok (.aconst_null, 1) := by decide +kernel
theorem dccX0_ask_95 : decode cX0_ask 95 = .ok (.invokevirtual 86, 3) := by decide +kernel
theorem dccX0_ask_98 : decode cX0_ask 98 = .ok (.aload_n 0, 1) := by decide +kernel
theorem dccX0_ask_99 : decode cX0_ask 99 = .ok (.getfield 26, 3) := by decide +kernel
theorem dccX0_ask_102 : decode cX0_ask 102 = .ok (.aload_n 1, 1) := by decide +kernel
theorem dccX0_ask_103 : decode cX0_ask 103 = .ok (.aload_n 2, 1) := by decide +kernel
theorem dccX0_ask_104 : decode cX0_ask 104 = .ok (.invokevirtual 86, 3) := by decide +kernel
theorem dccX0_ask_107 : decode cX0_ask 107 = .ok (.return_, 1) := by decide +kernel
theorem dccX0_askNext_0 : decode cX0_askNext 0 = .ok (.iconst 0, 1) := by decide +kernel
theorem dccX0_askNext_1 : decode cX0_askNext 1 = .ok (.istore_n 1, 1) := by decide +kernel
theorem dccX0_askNext_2 : decode cX0_askNext 2 = .ok (.iload_n 1, 1) := by decide +kernel
theorem dccX0_askNext_3 : decode cX0_askNext 3 = .ok (.aload_n 0, 1) := by decide +kernel
theorem dccX0_askNext_4 : decode cX0_askNext 4 = .ok (.getfield 19, 3) := by decide +kernel
theorem dccX0_askNext_7 : decode cX0_askNext 7 = .ok (.invokevirtual 38, 3) := by decide +kernel
theorem dccX0_askNext_10 : decode cX0_askNext 10 = .ok (.if_icmp .ge 57, 3) := by decide +kernel
theorem dccX0_askNext_13 : decode cX0_askNext 13 = .ok (.aload_n 0, 1) := by decide +kernel
theorem dccX0_askNext_14 : decode cX0_askNext 14 = .ok (.getfield 19, 3) := by decide +kernel
theorem dccX0_askNext_17 : decode cX0_askNext 17 = .ok (.iload_n 1, 1) := by decide +kernel
theorem dccX0_askNext_18 : decode cX0_askNext 18 = .ok (.invokevirtual 44, 3) := by decide +kernel
theorem dccX0_askNext_21 : decode cX0_askNext 21 = .ok (.checkcast 48, 3) := by decide +kernel
theorem dccX0_askNext_24 : decode cX0_askNext 24 = .ok (.astore_n 2, 1) := by decide +kernel
theorem dccX0_askNext_25 : decode cX0_askNext 25 = .ok (.aload_n 2, 1) := by decide +kernel
theorem dccX0_askNext_26 : decode cX0_askNext 26 = .ok (.getfield 50, 3) := by decide +kernel
theorem dccX0_askNext_29 : decode cX0_askNext 29 = .ok (.iconst 1, 1) := by decide +kernel
theorem dccX0_askNext_30 : decode cX0_askNext 30 = .ok (.if_icmp .ne 31, 3) := by decide +kernel
theorem dccX0_askNext_33 : decode cX0_askNext 33 = .ok (.aload_n 0, 1) := by decide +kernel
theorem dccX0_askNext_34 : decode cX0_askNext 34 = .ok (.getfield 26, 3) := by decide +kernel
theorem dccX0_askNext_37 : decode cX0_askNext 37 = .ok (.aload_n 2, 1) := by decide +kernel
theorem dccX0_askNext_38 : decode cX0_askNext 38 = .ok (.invokevirtual 53, 3) := by decide +kernel
theorem dccX0_askNext_41 : decode cX0_askNext 41 = .ok (.ifnonnull 20, 3) := by decide +kernel
theorem dccX0_askNext_44 : decode cX0_askNext 44 = .ok (.aload_n 0, 1) := by decide +kernel
theorem dccX0_askNext_45 : decode cX0_askNext 45 = .ok (.aload_n 2, 1) := by decide +kernel
theorem dccX0_askNext_46 : decode cX0_askNext 46 = .ok (.invokevirtual 57, 3) := by decide +kernel
theorem dccX0_askNext_49 : decode cX0_askNext 49 = .ok (.astore_n 3, 1) := by decide +kernel
theorem dccX0_askNext_50 : decode cX0_askNext 50 = .ok (.aload_n 3, 1) := by decide +kernel
theorem dccX0_askNext_51 : decode cX0_askNext 51 = .ok (.ifnull 10, 3) := by decide +kernel
theorem dccX0_askNext_54 : decode cX0_askNext 54 = .ok (.aload_n 0, 1) := by decide +kernel
theorem dccX0_askNext_55 : decode cX0_askNext 55 = .ok (.aload_n 2, 1) := by decide +kernel
theorem dccX0_askNext_56 : decode cX0_askNext 56 = .ok (.aload_n 3, 1) := by decide +kernel
theorem dccX0_askNext_57 : decode cX0_askNext 57 = .ok (.invokevirtual 60, 3) := by decide +kernel
theorem dccX0_askNext_60 : decode cX0_askNext 60 = .ok (.return_, 1) := by decide +kernel
theorem dccX0_askNext_61 : decode cX0_askNext 61 = .ok (.iinc 1 1, 3) := by decide +kernel
theorem dccX0_askNext_64 : decode cX0_askNext 64 = .ok (.goto (-62), 3) := by decide +kernel
theorem dccX0_askNext_67 : decode cX0_askNext 67 = .ok (.return_, 1) := by decide +kernel
theorem dccX0_favouriteNotAsked_0 : decode cX0_favouriteNotAsked 0 = .ok (.aconst_null, 1) := by decide +kernel
theorem dccX0_favouriteNotAsked_1 : decode cX0_favouriteNotAsked 1 = .ok (.astore_n 2, 1) := by decide +kernel
theorem dccX0_favouriteNotAsked_2 : decode cX0_favouriteNotAsked 2 = .ok (.iconst 0, 1) := by decide +kernel
theorem dccX0_favouriteNotAsked_3 : decode cX0_favouriteNotAsked 3 = .ok (.istore_n 3, 1) := by decide +kernel
theorem dccX0_favouriteNotAsked_4 : decode cX0_favouriteNotAsked 4 = .ok (.iload_n 3, 1) := by decide +kernel
theorem dccX0_favouriteNotAsked_5 : decode cX0_favouriteNotAsked 5 = .ok (.aload_n 0, 1) := by decide +kernel
theorem dccX0_favouriteNotAsked_6 : decode cX0_favouriteNotAsked 6 = .ok (.getfield 23, 3) := by decide +kernel
theorem dccX0_favouriteNotAsked_9 : decode cX0_favouriteNotAsked 9 = .ok (.invokevirtual 38, 3) := by decide +kernel
theorem dccX0_favouriteNotAsked_12 : decode cX0_favouriteNotAsked 12 = .ok (.if_icmp .ge 45, 3) := by decide +kernel
theorem dccX0_favouriteNotAsked_15 : decode cX0_favouriteNotAsked 15 = .ok (.aload_n 0, 1) := by decide +kernel
theorem dccX0_favouriteNotAsked_16 : decode cX0_favouriteNotAsked 16 = .ok (.getfield 23, 3) := by decide +kernel
theorem dccX0_favouriteNotAsked_19 : decode cX0_favouriteNotAsked 19 = .ok (.iload_n 3, 1) := by decide +kernel
theorem dccX0_favouriteNotAsked_20 : decode cX0_favouriteNotAsked 20 = .ok (.invokevirtual 44, 3) := by decide +kernel
theorem dccX0_favouriteNotAsked_23 : decode cX0_favouriteNotAsked 23 = .ok (.checkcast 64, 3) := by decide +kernel
theorem dccX0_favouriteNotAsked_26 : decode cX0_favouriteNotAsked 26 = .ok (.astore 4, 2) := by decide +kernel
theorem dccX0_favouriteNotAsked_28 : decode cX0_favouriteNotAsked 28 = .ok (.aload_n 0, 1) := by decide +kernel
theorem dccX0_favouriteNotAsked_29 : decode cX0_favouriteNotAsked 29 = .ok (.aload_n 1, 1) := by decide +kernel
theorem dccX0_favouriteNotAsked_30 : decode cX0_favouriteNotAsked 30 = .ok (.aload 4, 2) := by decide +kernel
theorem dccX0_favouriteNotAsked_32 : decode cX0_favouriteNotAsked 32 = .ok (.invokevirtual 66, 3) := by decide +kernel
theorem dccX0_favouriteNotAsked_35 : decode cX0_favouriteNotAsked 35 = .ok (.ifCond .ne 16, 3) := by decide +kernel
theorem dccX0_favouriteNotAsked_38 : decode cX0_favouriteNotAsked 38 = .ok (.aload_n 1, 1) := by decide +kernel
theorem dccX0_favouriteNotAsked_39 : decode cX0_favouriteNotAsked 39 = .ok (.aload 4, 2) := by decide +kernel
theorem dccX0_favouriteNotAsked_41 : decode cX0_favouriteNotAsked 41 = .ok (.aload_n 2, 1) := by decide +kernel
theorem dccX0_favouriteNotAsked_42 : decode cX0_favouriteNotAsked 42 = .ok (.invokevirtual 70, 3) := by decide +kernel
theorem dccX0_favouriteNotAsked_45 : decode cX0_favouriteNotAsked 45 = .ok (.ifCond .eq 6, 3) := by decide +kernel
theorem dccX0_favouriteNotAsked_48 : decode cX0_favouriteNotAsked 48 = .ok (.aload 4, 2) := by decide +kernel
theorem dccX0_favouriteNotAsked_50 : decode cX0_favouriteNotAsked 50 = .ok (.astore_n 2, 1) := by decide +kernel
theorem dccX0_favouriteNotAsked_51 : decode cX0_favouriteNotAsked 51 = .ok (.iinc 3 1, 3) := by decide +kernel
theorem dccX0_favouriteNotAsked_54 : decode cX0_favouriteNotAsked 54 = .ok (.goto (-50), 3) := by decide +kernel
theorem dccX0_favouriteNotAsked_57 : decode cX0_favouriteNotAsked 57 = .ok (.aload_n 2, 1) := by decide +kernel
theorem dccX0_favouriteNotAsked_58 : decode cX0_favouriteNotAsked 58 = .ok (.areturn, 1) := by decide +kernel
theorem dccX0_hasAsked_0 : decode cX0_hasAsked 0 = .ok (.aload_n 1, 1) := by decide +kernel
theorem dccX0_hasAsked_1 : decode cX0_hasAsked 1 = .ok (.getfield 74, 3) := by decide +kernel
theorem dccX0_hasAsked_4 : decode cX0_hasAsked 4 = .ok (.ifCond .lt 38, 3) := by decide +kernel
theorem dccX0_hasAsked_7 : decode cX0_hasAsked 7 = .ok (.aload_n 1, 1) := by decide +kernel
theorem dccX0_hasAsked_8 : decode cX0_hasAsked 8 = .ok (.getfield 74, 3) := by decide +kernel
theorem dccX0_hasAsked_11 : decode cX0_hasAsked 11 = .ok (.aload_n 0, 1) := by decide +kernel
theorem dccX0_hasAsked_12 : decode cX0_hasAsked 12 = .ok (.getfield 9, 3) := by decide +kernel
theorem dccX0_hasAsked_15 : decode cX0_hasAsked 15 = .ok (.arraylength, 1) := by decide +kernel
theorem dccX0_hasAsked_16 : decode cX0_hasAsked 16 = .ok (.if_icmp .ge 26, 3) := by decide +kernel
theorem dccX0_hasAsked_19 : decode cX0_hasAsked 19 = .ok (.aload_n 0, 1) := by decide +kernel
theorem dccX0_hasAsked_20 : decode cX0_hasAsked 20 = .ok (.getfield 9, 3) := by decide +kernel
theorem dccX0_hasAsked_23 : decode cX0_hasAsked 23 = .ok (.aload_n 1, 1) := by decide +kernel
theorem dccX0_hasAsked_24 : decode cX0_hasAsked 24 = .ok (.getfield 74, 3) := by decide +kernel
theorem dccX0_hasAsked_27 : decode cX0_hasAsked 27 = .ok (.iaload, 1) := by decide +kernel
theorem dccX0_hasAsked_28 : decode cX0_hasAsked 28 = .ok (.aload_n 2, 1) := by decide +kernel
theorem dccX0_hasAsked_29 : decode cX0_hasAsked 29 = .ok (.getfield 77, 3) := by decide +kernel
theorem dccX0_hasAsked_32 : decode cX0_hasAsked 32 = .ok (.invokestatic 78, 3) := by decide +kernel
theorem dccX0_hasAsked_35 : decode cX0_hasAsked 35 = .ok (.ifCond .eq 7, 3) := by decide +kernel
theorem dccX0_hasAsked_38 : decode cX0_hasAsked 38 = .ok (.iconst 1, 1) := by decide +kernel
theorem dccX0_hasAsked_39 : decode cX0_hasAsked 39 = .ok (.goto 4, 3) := by decide +kernel
theorem dccX0_hasAsked_42 : decode cX0_hasAsked 42 = .ok (.iconst 0, 1) := by decide +kernel
theorem dccX0_hasAsked_43 : decode cX0_hasAsked 43 = .ok (.ireturn, 1) := by decide +kernel
theorem dccX0_init_0 : decode cX0_init 0 = .ok (.aload_n 0, 1) := by decide +kernel
theorem dccX0_init_1 : decode cX0_init 1 = .ok (.invokespecial 3, 3) := by decide +kernel
theorem dccX0_init_4 : decode cX0_init 4 = .ok (.aload_n 0, 1) := by decide +kernel
theorem dccX0_init_5 : decode cX0_init 5 = .ok (.bipush 6, 2) := by decide +kernel
theorem dccX0_init_7 : decode cX0_init 7 = .ok (.newarray .int, 2) := by decide +kernel
theorem dccX0_init_9 : decode cX0_init 9 = .ok (.putfield 9, 3) := by decide +kernel
theorem dccX0_init_12 : decode cX0_init 12 = .ok (.aload_n 0, 1) := by decide +kernel
theorem dccX0_init_13 : decode cX0_init 13 = .ok (.iconst 0, 1) := by decide +kernel
theorem dccX0_init_14 : decode cX0_init 14 = .ok (.putfield 15, 3) := by decide +kernel
theorem dccX0_init_17 : decode cX0_init 17 = .ok (.aload_n 0, 1) := by decide +kernel
theorem dccX0_init_18 : decode cX0_init 18 = .ok (.aload_n 1, 1) := by decide +kernel
theorem dccX0_init_19 : decode cX0_init 19 = .ok (.putfield 19, 3) := by decide +kernel
theorem dccX0_init_22 : decode cX0_init 22 = .ok (.aload_n 0, 1) := by decide +kernel
theorem dccX0_init_23 : decode cX0_init 23 = .ok (.aload_n 2, 1) := by decide +kernel
theorem dccX0_init_24 : decode cX0_init 24 = .ok (.putfield 23, 3) := by decide +kernel
theorem dccX0_init_27 : decode cX0_init 27 = .ok (.aload_n 0, 1) := by decide +kernel
theorem dccX0_init_28 : decode cX0_init 28 = .ok (.aload_n 3, 1) := by decide +kernel
theorem dccX0_init_29 : decode cX0_init 29 = .ok (.putfield 26, 3) := by decide +kernel
theorem dccX0_init_32 : decode cX0_init 32 = .ok (.return_, 1) := by decide +kernel
theorem dccX0_settle_0 : decode cX0_settle 0 = .ok (.aload_n 0, 1) := by decide +kernel
theorem dccX0_settle_1 : decode cX0_settle 1 = .ok (.getfield 26, 3) := by decide +kernel
theorem dccX0_settle_4 : decode cX0_settle 4 = .ok (.invokevirtual 30, 3) := by decide +kernel
theorem dccX0_settle_7 : decode cX0_settle 7 = .ok (.iconst 0, 1) := by decide +kernel
theorem dccX0_settle_8 : decode cX0_settle 8 = .ok (.istore_n 1, 1) := by decide +kernel
theorem dccX0_settle_9 : decode cX0_settle 9 = .ok (.iload_n 1, 1) := by decide +kernel
theorem dccX0_settle_10 : decode cX0_settle 10 = .ok (.aload_n 0, 1) := by decide +kernel
theorem dccX0_settle_11 : decode cX0_settle 11 = .ok (.getfield 9, 3) := by decide +kernel
theorem dccX0_settle_14 : decode cX0_settle 14 = .ok (.arraylength, 1) := by decide +kernel
theorem dccX0_settle_15 : decode cX0_settle 15 = .ok (.if_icmp .ge 16, 3) := by decide +kernel
theorem dccX0_settle_18 : decode cX0_settle 18 = .ok (.aload_n 0, 1) := by decide +kernel
theorem dccX0_settle_19 : decode cX0_settle 19 = .ok (.getfield 9, 3) := by decide +kernel
theorem dccX0_settle_22 : decode cX0_settle 22 = .ok (.iload_n 1, 1) := by decide +kernel
theorem dccX0_settle_23 : decode cX0_settle 23 = .ok (.iconst 0, 1) := by decide +kernel
theorem dccX0_settle_24 : decode cX0_settle 24 = .ok (.iastore, 1) := by decide +kernel
theorem dccX0_settle_25 : decode cX0_settle 25 = .ok (.iinc 1 1, 3) := by decide +kernel
theorem dccX0_settle_28 : decode cX0_settle 28 = .ok (.goto (-19), 3) := by decide +kernel
theorem dccX0_settle_31 : decode cX0_settle 31 = .ok (.aload_n 0, 1) := by decide +kernel
theorem dccX0_settle_32 : decode cX0_settle 32 = .ok (.iconst 0, 1) := by decide +kernel
theorem dccX0_settle_33 : decode cX0_settle 33 = .ok (.putfield 15, 3) := by decide +kernel
theorem dccX0_settle_36 : decode cX0_settle 36 = .ok (.iconst 0, 1) := by decide +kernel
theorem dccX0_settle_37 : decode cX0_settle 37 = .ok (.istore_n 1, 1) := by decide +kernel
theorem dccX0_settle_38 : decode cX0_settle 38 = .ok (.iload_n 1, 1) := by decide +kernel
theorem dccX0_settle_39 : decode cX0_settle 39 = .ok (.bipush 18, 2) := by decide +kernel
theorem dccX0_settle_41 : decode cX0_settle 41 = .ok (.if_icmp .ge 13, 3) := by decide +kernel
theorem dccX0_settle_44 : decode cX0_settle 44 = .ok (.aload_n 0, 1) := by decide +kernel
theorem dccX0_settle_45 : decode cX0_settle 45 = .ok (.invokevirtual 35, 3) := by decide +kernel
theorem dccX0_settle_48 : decode cX0_settle 48 = .ok (.iinc 1 1, 3) := by decide +kernel
theorem dccX0_settle_51 : decode cX0_settle 51 = .ok (.goto (-13), 3) := by decide +kernel
theorem dccX0_settle_54 : decode cX0_settle 54 = .ok (.return_, 1) := by decide +kernel
theorem dccX10_init_0 : decode cX10_init 0 = .ok (.aload_n 0, 1) := by decide +kernel
theorem dccX10_init_1 : decode cX10_init 1 = .ok (.invokespecial 1, 3) := by decide +kernel
theorem dccX10_init_4 : decode cX10_init 4 = .ok (.aload_n 0, 1) := by decide +kernel
theorem dccX10_init_5 : decode cX10_init 5 = .ok (.iload_n 1, 1) := by decide +kernel
theorem dccX10_init_6 : decode cX10_init 6 = .ok (.putfield 7, 3) := by decide +kernel
theorem dccX10_init_9 : decode cX10_init 9 = .ok (.aload_n 0, 1) := by decide +kernel
theorem dccX10_init_10 : decode cX10_init 10 = .ok (.iload_n 2, 1) := by decide +kernel
theorem dccX10_init_11 : decode cX10_init 11 = .ok (.putfield 13, 3) := by decide +kernel
theorem dccX10_init_14 : decode cX10_init 14 = .ok (.aload_n 0, 1) := by decide +kernel
theorem dccX10_init_15 : decode cX10_init 15 = .ok (.iload_n 3, 1) := by decide +kernel
theorem dccX10_init_16 : decode cX10_init 16 = .ok (.putfield 16, 3) := by decide +kernel
theorem dccX10_init_19 : decode cX10_init 19 = .ok (.return_, 1) := by decide +kernel
theorem dccX11_areAlike_0 : decode cX11_areAlike 0 = .ok (.iload_n 1, 1) := by decide +kernel
theorem dccX11_areAlike_1 : decode cX11_areAlike 1 = .ok (.invokestatic 204, 3) := by decide +kernel
theorem dccX11_areAlike_4 : decode cX11_areAlike 4 = .ok (.ifCond .eq 10, 3) := by decide +kernel
theorem dccX11_areAlike_7 : decode cX11_areAlike 7 = .ok (.iload_n 2, 1) := by decide +kernel
theorem dccX11_areAlike_8 : decode cX11_areAlike 8 = .ok (.invokestatic 204, 3) := by decide +kernel
theorem dccX11_areAlike_11 : decode cX11_areAlike 11 = .ok (.ifCond .ne 14, 3) := by decide +kernel
theorem dccX11_areAlike_14 : decode cX11_areAlike 14 = .ok (.new 77, 3) := by decide +kernel
theorem dccX11_areAlike_17 : decode cX11_areAlike 17 = .ok (.dup, 1) := by decide +kernel
theorem dccX11_areAlike_18 : decode cX11_areAlike 18 = .ok (.ldc_w 349, 3) := by decide +kernel
theorem dccX11_areAlike_21 : decode cX11_areAlike 21 = .ok (.invokespecial 81, 3) := by decide +kernel
theorem dccX11_areAlike_24 : decode cX11_areAlike 24 = .ok (.athrow, 1) := by decide +kernel
theorem dccX11_areAlike_25 : decode cX11_areAlike 25 = .ok (.iload_n 1, 1) := by decide +kernel
theorem dccX11_areAlike_26 : decode cX11_areAlike 26 = .ok (.iload_n 2, 1) := by decide +kernel
theorem dccX11_areAlike_27 : decode cX11_areAlike 27 = .ok (.invokestatic 351, 3) := by decide +kernel
theorem dccX11_areAlike_30 : decode cX11_areAlike 30 = .ok (.ireturn, 1) := by decide +kernel
theorem dccX11_buses_0 : decode cX11_buses 0 = .ok (.iload_n 1, 1) := by decide +kernel
theorem dccX11_buses_1 : decode cX11_buses 1 = .ok (.iconst 0, 1) := by decide +kernel
theorem dccX11_buses_2 : decode cX11_buses 2 = .ok (.iconst 3, 1) := by decide +kernel
theorem dccX11_buses_3 : decode cX11_buses 3 = .ok (.invokestatic 73, 3) := by decide +kernel
theorem dccX11_buses_6 : decode cX11_buses 6 = .ok (.ifCond .ne 13, 3) := by decide +kernel
theorem dccX11_buses_9 : decode cX11_buses 9 = .ok (.new 77, 3) := by decide +kernel
theorem dccX11_buses_12 : decode cX11_buses 12 = .ok (.dup, 1) := by decide +kernel
theorem dccX11_buses_13 : decode cX11_buses 13 = .ok (.ldc 157, 2) := by decide +kernel
theorem dccX11_buses_15 : decode cX11_buses 15 = .ok (.invokespecial 81, 3) := by decide +kernel
theorem dccX11_buses_18 : decode cX11_buses 18 = .ok (.athrow, 1) := by decide +kernel
theorem dccX11_buses_19 : decode cX11_buses 19 = .ok (.aload_n 0, 1) := by decide +kernel
theorem dccX11_buses_20 : decode cX11_buses 20 = .ok (.getfield 39, 3) := by decide +kernel
theorem dccX11_buses_23 : decode cX11_buses 23 = .ok (.getfield 159, 3) := by decide +kernel
theorem dccX11_buses_26 : decode cX11_buses 26 = .ok (.istore_n 2, 1) := by decide +kernel
theorem dccX11_buses_27 : decode cX11_buses 27 = .ok (.aload_n 0, 1) := by decide +kernel
theorem dccX11_buses_28 : decode cX11_buses 28 = .ok (.getfield 39, 3) := by decide +kernel
theorem dccX11_buses_31 : decode cX11_buses 31 = .ok (.iload_n 1, 1) := by decide +kernel
theorem dccX11_buses_32 : decode cX11_buses 32 = .ok (.putfield 159, 3) := by decide +kernel
theorem dccX11_buses_35 : decode cX11_buses 35 = .ok (.iload_n 2, 1) := by decide +kernel
theorem dccX11_buses_36 : decode cX11_buses 36 = .ok (.ireturn, 1) := by decide +kernel
theorem dccX11_can_0 : decode cX11_can 0 = .ok (.iload_n 1, 1) := by decide +kernel
theorem dccX11_can_1 : decode cX11_can 1 = .ok (.ifCond .lt 16, 3) := by decide +kernel
theorem dccX11_can_4 : decode cX11_can 4 = .ok (.iload_n 1, 1) := by decide +kernel
theorem dccX11_can_5 : decode cX11_can 5 = .ok (.iconst 1, 1) := by decide +kernel
theorem dccX11_can_6 : decode cX11_can 6 = .ok (.aload_n 0, 1) := by decide +kernel
theorem dccX11_can_7 : decode cX11_can 7 = .ok (.getfield 31, 3) := by decide +kernel
theorem dccX11_can_10 : decode cX11_can 10 = .ok (.invokevirtual 84, 3) := by decide +kernel
theorem dccX11_can_13 : decode cX11_can 13 = .ok (.ishl, 1) := by decide +kernel
theorem dccX11_can_14 : decode cX11_can 14 = .ok (.if_icmp .lt 14, 3) := by decide +kernel
theorem dccX11_can_17 : decode cX11_can 17 = .ok (.new 77, 3) := by decide +kernel
theorem dccX11_can_20 : decode cX11_can 20 = .ok (.dup, 1) := by decide +kernel
theorem dccX11_can_21 : decode cX11_can 21 = .ok (.ldc_w 328, 3) := by decide +kernel
theorem dccX11_can_24 : decode cX11_can 24 = .ok (.invokespecial 81, 3) := by decide +kernel
theorem dccX11_can_27 : decode cX11_can 27 = .ok (.athrow, 1) := by decide +kernel
theorem dccX11_can_28 : decode cX11_can 28 = .ok (.aload_n 0, 1) := by decide +kernel
theorem dccX11_can_29 : decode cX11_can 29 = .ok (.getfield 39, 3) := by decide +kernel
theorem dccX11_can_32 : decode cX11_can 32 = .ok (.iload_n 1, 1) := by decide +kernel
theorem dccX11_can_33 : decode cX11_can 33 = .ok (.invokevirtual 330, 3) := by decide +kernel
theorem dccX11_can_36 : decode cX11_can 36 = .ok (.ireturn, 1) := by decide +kernel
theorem dccX11_chosen_0 : decode cX11_chosen 0 = .ok (.aload_n 0, 1) := by decide +kernel
theorem dccX11_chosen_1 : decode cX11_chosen 1 = .ok (.getfield 39, 3) := by decide +kernel
theorem dccX11_chosen_4 : decode cX11_chosen 4 = .ok (.aload_n 0, 1) := by decide +kernel
theorem dccX11_chosen_5 : decode cX11_chosen 5 = .ok (.getfield 39, 3) := by decide +kernel
theorem dccX11_chosen_8 : decode cX11_chosen 8 = .ok (.invokevirtual 264, 3) := by decide +kernel
theorem dccX11_chosen_11 : decode cX11_chosen 11 = .ok (.invokevirtual 278, 3) := by decide +kernel
theorem dccX11_chosen_14 : decode cX11_chosen 14 = .ok (.ireturn, 1) := by decide +kernel
theorem dccX11_county_0 : decode cX11_county 0 = .ok (.iload_n 1, 1) := by decide +kernel
theorem dccX11_county_1 : decode cX11_county 1 = .ok (.tableswitch 256 0 18 #[91, 99, 107, 115, 124, 133, 142, 150, 158, 166, 174, 182, 190, 205, 213, 221, 229, 240, 248], 91) := by decide +kernel
theorem dccX11_county_92 : decode cX11_county 92 = .ok (.aload_n 0, 1) := by decide +kernel
theorem dccX11_county_93 : decode cX11_county 93 = .ok (.getfield 24, 3) := by decide +kernel
theorem dccX11_county_96 : decode cX11_county 96 = .ok (.invokevirtual 84, 3) := by decide +kernel
theorem dccX11_county_99 : decode cX11_county 99 = .ok (.ireturn, 1) := by decide +kernel
theorem dccX11_county_100 : decode cX11_county 100 = .ok (.aload_n 0, 1) := by decide +kernel
theorem dccX11_county_101 : decode cX11_county 101 = .ok (.getfield 28, 3) := by decide +kernel
theorem dccX11_county_104 : decode cX11_county 104 = .ok (.invokevirtual 84, 3) := by decide +kernel
theorem dccX11_county_107 : decode cX11_county 107 = .ok (.ireturn, 1) := by decide +kernel
theorem dccX11_county_108 : decode cX11_county 108 = .ok (.aload_n 0, 1) := by decide +kernel
theorem dccX11_county_109 : decode cX11_county 109 = .ok (.getfield 31, 3) := by decide +kernel
theorem dccX11_county_112 : decode cX11_county 112 = .ok (.invokevirtual 84, 3) := by decide +kernel
theorem dccX11_county_115 : decode cX11_county 115 = .ok (.ireturn, 1) := by decide +kernel
theorem dccX11_county_116 : decode cX11_county 116 = .ok (.aload_n 0, 1) := by decide +kernel
theorem dccX11_county_117 : decode cX11_county 117 = .ok (.getfield 39, 3) := by decide +kernel
theorem dccX11_county_120 : decode cX11_county 120 = .ok (.iconst 0, 1) := by decide +kernel
theorem dccX11_county_121 : decode cX11_county 121 = .ok (.invokevirtual 293, 3) := by decide +kernel
theorem dccX11_county_124 : decode cX11_county 124 = .ok (.ireturn, 1) := by decide +kernel
theorem dccX11_county_125 : decode cX11_county 125 = .ok (.aload_n 0, 1) := by decide +kernel
theorem dccX11_county_126 : decode cX11_county 126 = .ok (.getfield 39, 3) := by decide +kernel
theorem dccX11_county_129 : decode cX11_county 129 = .ok (.iconst 1, 1) := by decide +kernel
theorem dccX11_county_130 : decode cX11_county 130 = .ok (.invokevirtual 293, 3) := by decide +kernel
theorem dccX11_county_133 : decode cX11_county 133 = .ok (.ireturn, 1) := by decide +kernel
theorem dccX11_county_134 : decode cX11_county 134 = .ok (.aload_n 0, 1) := by decide +kernel
theorem dccX11_county_135 : decode cX11_county 135 = .ok (.getfield 39, 3) := by decide +kernel
theorem dccX11_county_138 : decode cX11_county 138 = .ok (.iconst 2, 1) := by decide +kernel
theorem dccX11_county_139 : decode cX11_county 139 = .ok (.invokevirtual 293, 3) := by decide +kernel
theorem dccX11_county_142 : decode cX11_county 142 = .ok (.ireturn, 1) := by decide +kernel
theorem dccX11_county_143 : decode cX11_county 143 = .ok (.aload_n 0, 1) := by decide +kernel
theorem dccX11_county_144 : decode cX11_county 144 = .ok (.getfield 18, 3) := by decide +kernel
theorem dccX11_county_147 : decode cX11_county 147 = .ok (.getfield 171, 3) := by decide +kernel
theorem dccX11_county_150 : decode cX11_county 150 = .ok (.ireturn, 1) := by decide +kernel
theorem dccX11_county_151 : decode cX11_county 151 = .ok (.aload_n 0, 1) := by decide +kernel
theorem dccX11_county_152 : decode cX11_county 152 = .ok (.getfield 18, 3) := by decide +kernel
theorem dccX11_county_155 : decode cX11_county 155 = .ok (.getfield 151, 3) := by decide +kernel
theorem dccX11_county_158 : decode cX11_county 158 = .ok (.ireturn, 1) := by decide +kernel
theorem dccX11_county_159 : decode cX11_county 159 = .ok (.aload_n 0, 1) := by decide +kernel
theorem dccX11_county_160 : decode cX11_county 160 = .ok (.getfield 18, 3) := by decide +kernel
theorem dccX11_county_163 : decode cX11_county 163 = .ok (.getfield 154, 3) := by decide +kernel
theorem dccX11_county_166 : decode cX11_county 166 = .ok (.ireturn, 1) := by decide +kernel
theorem dccX11_county_167 : decode cX11_county 167 = .ok (.aload_n 0, 1) := by decide +kernel
theorem dccX11_county_168 : decode cX11_county 168 = .ok (.getfield 39, 3) := by decide +kernel
theorem dccX11_county_171 : decode cX11_county 171 = .ok (.getfield 159, 3) := by decide +kernel
theorem dccX11_county_174 : decode cX11_county 174 = .ok (.ireturn, 1) := by decide +kernel
theorem dccX11_county_175 : decode cX11_county 175 = .ok (.aload_n 0, 1) := by decide +kernel
theorem dccX11_county_176 : decode cX11_county 176 = .ok (.getfield 39, 3) := by decide +kernel
theorem dccX11_county_179 : decode cX11_county 179 = .ok (.getfield 164, 3) := by decide +kernel
theorem dccX11_county_182 : decode cX11_county 182 = .ok (.ireturn, 1) := by decide +kernel
theorem dccX11_county_183 : decode cX11_county 183 = .ok (.aload_n 0, 1) := by decide +kernel
theorem dccX11_county_184 : decode cX11_county 184 = .ok (.getfield 52, 3) := by decide +kernel
theorem dccX11_county_187 : decode cX11_county 187 = .ok (.getfield 296, 3) := by decide +kernel
theorem dccX11_county_190 : decode cX11_county 190 = .ok (.ireturn, 1) := by decide +kernel
theorem dccX11_county_191 : decode cX11_county 191 = .ok (.aload_n 0, 1) := by decide +kernel
theorem dccX11_county_192 : decode cX11_county 192 = .ok (.getfield 62, 3) := by decide +kernel
theorem dccX11_county_195 : decode cX11_county 195 = .ok (.aload_n 0, 1) := by decide +kernel
theorem dccX11_county_196 : decode cX11_county 196 = .ok (.getfield 18, 3) := by decide +kernel
theorem dccX11_county_199 : decode cX11_county 199 = .ok (.getfield 171, 3) := by decide +kernel
theorem dccX11_county_202 : decode cX11_county 202 = .ok (.invokevirtual 299, 3) := by decide +kernel
theorem dccX11_county_205 : decode cX11_county 205 = .ok (.ireturn, 1) := by decide +kernel
theorem dccX11_county_206 : decode cX11_county 206 = .ok (.aload_n 0, 1) := by decide +kernel
theorem dccX11_county_207 : decode cX11_county 207 = .ok (.getfield 62, 3) := by decide +kernel
theorem dccX11_county_210 : decode cX11_county 210 = .ok (.getfield 302, 3) := by decide +kernel
theorem dccX11_county_213 : decode cX11_county 213 = .ok (.ireturn, 1) := by decide +kernel
theorem dccX11_county_214 : decode cX11_county 214 = .ok (.aload_n 0, 1) := by decide +kernel
theorem dccX11_county_215 : decode cX11_county 215 = .ok (.getfield 62, 3) := by decide +kernel
theorem dccX11_county_218 : decode cX11_county 218 = .ok (.getfield 305, 3) := by decide +kernel
theorem dccX11_county_221 : decode cX11_county 221 = .ok (.ireturn, 1) := by decide +kernel
theorem dccX11_county_222 : decode cX11_county 222 = .ok (.aload_n 0, 1) := by decide +kernel
theorem dccX11_county_223 : decode cX11_county 223 = .ok (.getfield 62, 3) := by decide +kernel
theorem dccX11_county_226 : decode cX11_county 226 = .ok (.getfield 308, 3) := by decide +kernel
theorem dccX11_county_229 : decode cX11_county 229 = .ok (.ireturn, 1) := by decide +kernel
theorem dccX11_county_230 : decode cX11_county 230 = .ok (.aload_n 0, 1) := by decide +kernel
theorem dccX11_county_231 : decode cX11_county 231 = .ok (.getfield 69, 3) := by decide +kernel
theorem dccX11_county_234 : decode cX11_county 234 = .ok (.getfield 210, 3) := by decide +kernel
theorem dccX11_county_237 : decode cX11_county 237 = .ok (.invokevirtual 84, 3) := by decide +kernel
theorem dccX11_county_240 : decode cX11_county 240 = .ok (.ireturn, 1) := by decide +kernel
theorem dccX11_county_241 : decode cX11_county 241 = .ok (.aload_n 0, 1) := by decide +kernel
theorem dccX11_county_242 : decode cX11_county 242 = .ok (.getfield 69, 3) := by decide +kernel
theorem dccX11_county_245 : decode cX11_county 245 = .ok (.invokevirtual 225, 3) := by decide +kernel
theorem dccX11_county_248 : decode cX11_county 248 = .ok (.ireturn, 1) := by decide +kernel
theorem dccX11_county_249 : decode cX11_county 249 = .ok (.aload_n 0, 1) := by decide +kernel
theorem dccX11_county_250 : decode cX11_county 250 = .ok (.getfield 69, 3) := by decide +kernel
theorem dccX11_county_253 : decode cX11_county 253 = .ok (.getfield 228, 3) := by decide +kernel
theorem dccX11_county_256 : decode cX11_county 256 = .ok (.ireturn, 1) := by decide +kernel
theorem dccX11_county_257 : decode cX11_county 257 = .ok (.new 77, 3) := by decide +kernel
theorem dccX11_county_260 : decode cX11_county 260 = .ok (.dup, 1) := by decide +kernel
theorem dccX11_county_261 : decode cX11_county 261 = .ok (.ldc_w 311, 3) := by decide +kernel
theorem dccX11_county_264 : decode cX11_county 264 = .ok (.invokespecial 81, 3) := by decide +kernel
theorem dccX11_county_267 : decode cX11_county 267 = .ok (.athrow, 1) := by decide +kernel
theorem dccX11_digest_0 : decode cX11_digest 0 = .ok (.ldc2_w 367, 3) := by decide +kernel
theorem dccX11_digest_3 : decode cX11_digest 3 = .ok (.lstore_n 1, 1) := by decide +kernel
theorem dccX11_digest_4 : decode cX11_digest 4 = .ok (.iconst 0, 1) := by decide +kernel
theorem dccX11_digest_5 : decode cX11_digest 5 = .ok (.istore_n 3, 1) := by decide +kernel
theorem dccX11_digest_6 : decode cX11_digest 6 = .ok (.iload_n 3, 1) := by decide +kernel
theorem dccX11_digest_7 : decode cX11_digest 7 = .ok (.bipush 19, 2) := by decide +kernel
theorem dccX11_digest_9 : decode cX11_digest 9 = .ok (.if_icmp .ge 22, 3) := by decide +kernel
theorem dccX11_digest_12 : decode cX11_digest 12 = .ok (.lload_n 1, 1) := by decide +kernel
theorem dccX11_digest_13 : decode cX11_digest 13 = .ok (.ldc2_w 369, 3) := by decide +kernel
theorem dccX11_digest_16 : decode cX11_digest 16 = .ok (.lmul, 1) := by decide +kernel
theorem dccX11_digest_17 : decode cX11_digest 17 = .ok (.aload_n 0, 1) := by decide +kernel
theorem dccX11_digest_18 : decode cX11_digest 18 = .ok (.iload_n 3, 1) := by decide +kernel
theorem dccX11_digest_19 : decode cX11_digest 19 = .ok (.invokevirtual 371, 3) := by decide +kernel
theorem dccX11_digest_22 : decode cX11_digest 22 = .ok (.i2l, 1) := by decide +kernel
theorem dccX11_digest_23 : decode cX11_digest 23 = .ok (.ladd, 1) := by decide +kernel
theorem dccX11_digest_24 : decode cX11_digest 24 = .ok (.lstore_n 1, 1) := by decide +kernel
theorem dccX11_digest_25 : decode cX11_digest 25 = .ok (.iinc 3 1, 3) := by decide +kernel
theorem dccX11_digest_28 : decode cX11_digest 28 = .ok (.goto (-22), 3) := by decide +kernel
theorem dccX11_digest_31 : decode cX11_digest 31 = .ok (.iconst 0, 1) := by decide +kernel
theorem dccX11_digest_32 : decode cX11_digest 32 = .ok (.istore_n 3, 1) := by decide +kernel
theorem dccX11_digest_33 : decode cX11_digest 33 = .ok (.iload_n 3, 1) := by decide +kernel
theorem dccX11_digest_34 : decode cX11_digest 34 = .ok (.aload_n 0, 1) := by decide +kernel
theorem dccX11_digest_35 : decode cX11_digest 35 = .ok (.getfield 24, 3) := by decide +kernel
theorem dccX11_digest_38 : decode cX11_digest 38 = .ok (.invokevirtual 84, 3) := by decide +kernel
theorem dccX11_digest_41 : decode cX11_digest 41 = .ok (.if_icmp .ge 39, 3) := by decide +kernel
theorem dccX11_digest_44 : decode cX11_digest 44 = .ok (.iconst 0, 1) := by decide +kernel
theorem dccX11_digest_45 : decode cX11_digest 45 = .ok (.istore 4, 2) := by decide +kernel
theorem dccX11_digest_47 : decode cX11_digest 47 = .ok (.iload 4, 2) := by decide +kernel
theorem dccX11_digest_49 : decode cX11_digest 49 = .ok (.iconst 5, 1) := by decide +kernel
theorem dccX11_digest_50 : decode cX11_digest 50 = .ok (.if_icmp .ge 24, 3) := by decide +kernel
theorem dccX11_digest_53 : decode cX11_digest 53 = .ok (.lload_n 1, 1) := by decide +kernel
theorem dccX11_digest_54 : decode cX11_digest 54 = .ok (.ldc2_w 369, 3) := by decide +kernel
theorem dccX11_digest_57 : decode cX11_digest 57 = .ok (.lmul, 1) := by decide +kernel
theorem dccX11_digest_58 : decode cX11_digest 58 = .ok (.aload_n 0, 1) := by decide +kernel
theorem dccX11_digest_59 : decode cX11_digest 59 = .ok (.iload_n 3, 1) := by decide +kernel
theorem dccX11_digest_60 : decode cX11_digest 60 = .ok (.iload 4, 2) := by decide +kernel
theorem dccX11_digest_62 : decode cX11_digest 62 = .ok (.invokevirtual 374, 3) := by decide +kernel
theorem dccX11_digest_65 : decode cX11_digest 65 = .ok (.i2l, 1) := by decide +kernel
theorem dccX11_digest_66 : decode cX11_digest 66 = .ok (.ladd, 1) := by decide +kernel
theorem dccX11_digest_67 : decode cX11_digest 67 = .ok (.lstore_n 1, 1) := by decide +kernel
theorem dccX11_digest_68 : decode cX11_digest 68 = .ok (.iinc 4 1, 3) := by decide +kernel
theorem dccX11_digest_71 : decode cX11_digest 71 = .ok (.goto (-24), 3) := by decide +kernel
theorem dccX11_digest_74 : decode cX11_digest 74 = .ok (.iinc 3 1, 3) := by decide +kernel
theorem dccX11_digest_77 : decode cX11_digest 77 = .ok (.goto (-44), 3) := by decide +kernel
theorem dccX11_digest_80 : decode cX11_digest 80 = .ok (.iconst 0, 1) := by decide +kernel
theorem dccX11_digest_81 : decode cX11_digest 81 = .ok (.istore_n 3, 1) := by decide +kernel
theorem dccX11_digest_82 : decode cX11_digest 82 = .ok (.iload_n 3, 1) := by decide +kernel
theorem dccX11_digest_83 : decode cX11_digest 83 = .ok (.aload_n 0, 1) := by decide +kernel
theorem dccX11_digest_84 : decode cX11_digest 84 = .ok (.getfield 31, 3) := by decide +kernel
theorem dccX11_digest_87 : decode cX11_digest 87 = .ok (.invokevirtual 84, 3) := by decide +kernel
theorem dccX11_digest_90 : decode cX11_digest 90 = .ok (.if_icmp .ge 40, 3) := by decide +kernel
theorem dccX11_digest_93 : decode cX11_digest 93 = .ok (.iconst 0, 1) := by decide +kernel
theorem dccX11_digest_94 : decode cX11_digest 94 = .ok (.istore 4, 2) := by decide +kernel
theorem dccX11_digest_96 : decode cX11_digest 96 = .ok (.iload 4, 2) := by decide +kernel
theorem dccX11_digest_98 : decode cX11_digest 98 = .ok (.bipush 6, 2) := by decide +kernel
theorem dccX11_digest_100 : decode cX11_digest 100 = .ok (.if_icmp .ge 24, 3) := by decide +kernel
theorem dccX11_digest_103 : decode cX11_digest 103 = .ok (.lload_n 1, 1) := by decide +kernel
theorem dccX11_digest_104 : decode cX11_digest 104 = .ok (.ldc2_w 369, 3) := by decide +kernel
theorem dccX11_digest_107 : decode cX11_digest 107 = .ok (.lmul, 1) := by decide +kernel
theorem dccX11_digest_108 : decode cX11_digest 108 = .ok (.aload_n 0, 1) := by decide +kernel
theorem dccX11_digest_109 : decode cX11_digest 109 = .ok (.iload_n 3, 1) := by decide +kernel
theorem dccX11_digest_110 : decode cX11_digest 110 = .ok (.iload 4, 2) := by decide +kernel
theorem dccX11_digest_112 : decode cX11_digest 112 = .ok (.invokevirtual 377, 3) := by decide +kernel
theorem dccX11_digest_115 : decode cX11_digest 115 = .ok (.i2l, 1) := by decide +kernel
theorem dccX11_digest_116 : decode cX11_digest 116 = .ok (.ladd, 1) := by decide +kernel
theorem dccX11_digest_117 : decode cX11_digest 117 = .ok (.lstore_n 1, 1) := by decide +kernel
theorem dccX11_digest_118 : decode cX11_digest 118 = .ok (.iinc 4 1, 3) := by decide +kernel
theorem dccX11_digest_121 : decode cX11_digest 121 = .ok (.goto (-25), 3) := by decide +kernel
theorem dccX11_digest_124 : decode cX11_digest 124 = .ok (.iinc 3 1, 3) := by decide +kernel
theorem dccX11_digest_127 : decode cX11_digest 127 = .ok (.goto (-45), 3) := by decide +kernel
theorem dccX11_digest_130 : decode cX11_digest 130 = .ok (.iconst 0, 1) := by decide +kernel
theorem dccX11_digest_131 : decode cX11_digest 131 = .ok (.istore_n 3, 1) := by decide +kernel
theorem dccX11_digest_132 : decode cX11_digest 132 = .ok (.iload_n 3, 1) := by decide +kernel
theorem dccX11_digest_133 : decode cX11_digest 133 = .ok (.aload_n 0, 1) := by decide +kernel
theorem dccX11_digest_134 : decode cX11_digest 134 = .ok (.getfield 28, 3) := by decide +kernel
theorem dccX11_digest_137 : decode cX11_digest 137 = .ok (.invokevirtual 84, 3) := by decide +kernel
theorem dccX11_digest_140 : decode cX11_digest 140 = .ok (.if_icmp .ge 39, 3) := by decide +kernel
theorem dccX11_digest_143 : decode cX11_digest 143 = .ok (.iconst 0, 1) := by decide +kernel
theorem dccX11_digest_144 : decode cX11_digest 144 = .ok (.istore 4, 2) := by decide +kernel
theorem dccX11_digest_146 : decode cX11_digest 146 = .ok (.iload 4, 2) := by decide +kernel
theorem dccX11_digest_148 : decode cX11_digest 148 = .ok (.iconst 4, 1) := by decide +kernel
theorem dccX11_digest_149 : decode cX11_digest 149 = .ok (.if_icmp .ge 24, 3) := by decide +kernel
theorem dccX11_digest_152 : decode cX11_digest 152 = .ok (.lload_n 1, 1) := by decide +kernel
theorem dccX11_digest_153 : decode cX11_digest 153 = .ok (.ldc2_w 369, 3) := by decide +kernel
theorem dccX11_digest_156 : decode cX11_digest 156 = .ok (.lmul, 1) := by decide +kernel
theorem dccX11_digest_157 : decode cX11_digest 157 = .ok (.aload_n 0, 1) := by decide +kernel
theorem dccX11_digest_158 : decode cX11_digest 158 = .ok (.iload_n 3, 1) := by decide +kernel
theorem dccX11_digest_159 : decode cX11_digest 159 = .ok (.iload 4, 2) := by decide +kernel
theorem dccX11_digest_161 : decode cX11_digest 161 = .ok (.invokevirtual 380, 3) := by decide +kernel
theorem dccX11_digest_164 : decode cX11_digest 164 = .ok (.i2l, 1) := by decide +kernel
theorem dccX11_digest_165 : decode cX11_digest 165 = .ok (.ladd, 1) := by decide +kernel
theorem dccX11_digest_166 : decode cX11_digest 166 = .ok (.lstore_n 1, 1) := by decide +kernel
theorem dccX11_digest_167 : decode cX11_digest 167 = .ok (.iinc 4 1, 3) := by decide +kernel
theorem dccX11_digest_170 : decode cX11_digest 170 = .ok (.goto (-24), 3) := by decide +kernel
theorem dccX11_digest_173 : decode cX11_digest 173 = .ok (.iinc 3 1, 3) := by decide +kernel
theorem dccX11_digest_176 : decode cX11_digest 176 = .ok (.goto (-44), 3) := by decide +kernel
theorem dccX11_digest_179 : decode cX11_digest 179 = .ok (.iconst 0, 1) := by decide +kernel
theorem dccX11_digest_180 : decode cX11_digest 180 = .ok (.istore_n 3, 1) := by decide +kernel
theorem dccX11_digest_181 : decode cX11_digest 181 = .ok (.iload_n 3, 1) := by decide +kernel
theorem dccX11_digest_182 : decode cX11_digest 182 = .ok (.aload_n 0, 1) := by decide +kernel
theorem dccX11_digest_183 : decode cX11_digest 183 = .ok (.getfield 62, 3) := by decide +kernel
theorem dccX11_digest_186 : decode cX11_digest 186 = .ok (.getfield 188, 3) := by decide +kernel
theorem dccX11_digest_189 : decode cX11_digest 189 = .ok (.invokevirtual 84, 3) := by decide +kernel
theorem dccX11_digest_192 : decode cX11_digest 192 = .ok (.if_icmp .ge 39, 3) := by decide +kernel
theorem dccX11_digest_195 : decode cX11_digest 195 = .ok (.iconst 0, 1) := by decide +kernel
theorem dccX11_digest_196 : decode cX11_digest 196 = .ok (.istore 4, 2) := by decide +kernel
theorem dccX11_digest_198 : decode cX11_digest 198 = .ok (.iload 4, 2) := by decide +kernel
theorem dccX11_digest_200 : decode cX11_digest 200 = .ok (.iconst 2, 1) := by decide +kernel
theorem dccX11_digest_201 : decode cX11_digest 201 = .ok (.if_icmp .ge 24, 3) := by decide +kernel
theorem dccX11_digest_204 : decode cX11_digest 204 = .ok (.lload_n 1, 1) := by decide +kernel
theorem dccX11_digest_205 : decode cX11_digest 205 = .ok (.ldc2_w 369, 3) := by decide +kernel
theorem dccX11_digest_208 : decode cX11_digest 208 = .ok (.lmul, 1) := by decide +kernel
theorem dccX11_digest_209 : decode cX11_digest 209 = .ok (.aload_n 0, 1) := by decide +kernel
theorem dccX11_digest_210 : decode cX11_digest 210 = .ok (.iload_n 3, 1) := by decide +kernel
theorem dccX11_digest_211 : decode cX11_digest 211 = .ok (.iload 4, 2) := by decide +kernel
theorem dccX11_digest_213 : decode cX11_digest 213 = .ok (.invokevirtual 383, 3) := by decide +kernel
theorem dccX11_digest_216 : decode cX11_digest 216 = .ok (.i2l, 1) := by decide +kernel
theorem dccX11_digest_217 : decode cX11_digest 217 = .ok (.ladd, 1) := by decide +kernel
theorem dccX11_digest_218 : decode cX11_digest 218 = .ok (.lstore_n 1, 1) := by decide +kernel
theorem dccX11_digest_219 : decode cX11_digest 219 = .ok (.iinc 4 1, 3) := by decide +kernel
theorem dccX11_digest_222 : decode cX11_digest 222 = .ok (.goto (-24), 3) := by decide +kernel
theorem dccX11_digest_225 : decode cX11_digest 225 = .ok (.iinc 3 1, 3) := by decide +kernel
theorem dccX11_digest_228 : decode cX11_digest 228 = .ok (.goto (-47), 3) := by decide +kernel
theorem dccX11_digest_231 : decode cX11_digest 231 = .ok (.lload_n 1, 1) := by decide +kernel
theorem dccX11_digest_232 : decode cX11_digest 232 = .ok (.ldc2_w 369, 3) := by decide +kernel
theorem dccX11_digest_235 : decode cX11_digest 235 = .ok (.lmul, 1) := by decide +kernel
theorem dccX11_digest_236 : decode cX11_digest 236 = .ok (.aload_n 0, 1) := by decide +kernel
theorem dccX11_digest_237 : decode cX11_digest 237 = .ok (.invokevirtual 386, 3) := by decide +kernel
theorem dccX11_digest_240 : decode cX11_digest 240 = .ok (.i2l, 1) := by decide +kernel
theorem dccX11_digest_241 : decode cX11_digest 241 = .ok (.ladd, 1) := by decide +kernel
theorem dccX11_digest_242 : decode cX11_digest 242 = .ok (.lstore_n 1, 1) := by decide +kernel
theorem dccX11_digest_243 : decode cX11_digest 243 = .ok (.lload_n 1, 1) := by decide +kernel
theorem dccX11_digest_244 : decode cX11_digest 244 = .ok (.ldc2_w 369, 3) := by decide +kernel
theorem dccX11_digest_247 : decode cX11_digest 247 = .ok (.lmul, 1) := by decide +kernel
theorem dccX11_digest_248 : decode cX11_digest 248 = .ok (.aload_n 0, 1) := by decide +kernel
theorem dccX11_digest_249 : decode cX11_digest 249 = .ok (.bipush 20, 2) := by decide +kernel
theorem dccX11_digest_251 : decode cX11_digest 251 = .ok (.iconst 3, 1) := by decide +kernel
theorem dccX11_digest_252 : decode cX11_digest 252 = .ok (.invokevirtual 389, 3) := by decide +kernel
theorem dccX11_digest_255 : decode cX11_digest 255 = .ok (.i2l, 1) := by decide +kernel
theorem dccX11_digest_256 : decode cX11_digest 256 = .ok (.ladd, 1) := by decide +kernel
theorem dccX11_digest_257 : decode cX11_digest 257 = .ok (.lstore_n 1, 1) := by decide +kernel
theorem dccX11_digest_258 : decode cX11_digest 258 = .ok (.lload_n 1, 1) := by decide +kernel
theorem dccX11_digest_259 : decode cX11_digest 259 = .ok (.ldc2_w 369, 3) := by decide +kernel
theorem dccX11_digest_262 : decode cX11_digest 262 = .ok (.lmul, 1) := by decide +kernel
theorem dccX11_digest_263 : decode cX11_digest 263 = .ok (.aload_n 0, 1) := by decide +kernel
theorem dccX11_digest_264 : decode cX11_digest 264 = .ok (.invokevirtual 392, 3) := by decide +kernel
theorem dccX11_digest_267 : decode cX11_digest 267 = .ok (.invokevirtual 395, 3) := by decide +kernel
theorem dccX11_digest_270 : decode cX11_digest 270 = .ok (.i2l, 1) := by decide +kernel
theorem dccX11_digest_271 : decode cX11_digest 271 = .ok (.ladd, 1) := by decide +kernel
theorem dccX11_digest_272 : decode cX11_digest 272 = .ok (.lstore_n 1, 1) := by decide +kernel
theorem dccX11_digest_273 : decode cX11_digest 273 = .ok (.lload_n 1, 1) := by decide +kernel
theorem dccX11_digest_274 : decode cX11_digest 274 = .ok (.ldc2_w 369, 3) := by decide +kernel
theorem dccX11_digest_277 : decode cX11_digest 277 = .ok (.lmul, 1) := by decide +kernel
theorem dccX11_digest_278 : decode cX11_digest 278 = .ok (.aload_n 0, 1) := by decide +kernel
theorem dccX11_digest_279 : decode cX11_digest 279 = .ok (.invokevirtual 400, 3) := by decide +kernel
theorem dccX11_digest_282 : decode cX11_digest 282 = .ok (.invokestatic 237, 3) := by decide +kernel
theorem dccX11_digest_285 : decode cX11_digest 285 = .ok (.i2l, 1) := by decide +kernel
theorem dccX11_digest_286 : decode cX11_digest 286 = .ok (.ladd, 1) := by decide +kernel
theorem dccX11_digest_287 : decode cX11_digest 287 = .ok (.lreturn, 1) := by decide +kernel
theorem dccX11_fetch_0 : decode cX11_fetch 0 = .ok (.iload_n 1, 1) := by decide +kernel
theorem dccX11_fetch_1 : decode cX11_fetch 1 = .ok (.ifCond .lt 14, 3) := by decide +kernel
theorem dccX11_fetch_4 : decode cX11_fetch 4 = .ok (.iload_n 1, 1) := by decide +kernel
theorem dccX11_fetch_5 : decode cX11_fetch 5 = .ok (.aload_n 0, 1) := by decide +kernel
theorem dccX11_fetch_6 : decode cX11_fetch 6 = .ok (.getfield 31, 3) := by decide +kernel
theorem dccX11_fetch_9 : decode cX11_fetch 9 = .ok (.invokevirtual 84, 3) := by decide +kernel
theorem dccX11_fetch_12 : decode cX11_fetch 12 = .ok (.if_icmp .lt 13, 3) := by decide +kernel
theorem dccX11_fetch_15 : decode cX11_fetch 15 = .ok (.new 112, 3) := by decide +kernel
theorem dccX11_fetch_18 : decode cX11_fetch 18 = .ok (.dup, 1) := by decide +kernel
theorem dccX11_fetch_19 : decode cX11_fetch 19 = .ok (.ldc 162, 2) := by decide +kernel
theorem dccX11_fetch_21 : decode cX11_fetch 21 = .ok (.invokespecial 116, 3) := by decide +kernel
theorem dccX11_fetch_24 : decode cX11_fetch 24 = .ok (.athrow, 1) := by decide +kernel
theorem dccX11_fetch_25 : decode cX11_fetch 25 = .ok (.aload_n 0, 1) := by decide +kernel
theorem dccX11_fetch_26 : decode cX11_fetch 26 = .ok (.getfield 31, 3) := by decide +kernel
theorem dccX11_fetch_29 : decode cX11_fetch 29 = .ok (.iload_n 1, 1) := by decide +kernel
theorem dccX11_fetch_30 : decode cX11_fetch 30 = .ok (.invokevirtual 119, 3) := by decide +kernel
theorem dccX11_fetch_33 : decode cX11_fetch 33 = .ok (.checkcast 133, 3) := by decide +kernel
theorem dccX11_fetch_36 : decode cX11_fetch 36 = .ok (.astore_n 2, 1) := by decide +kernel
theorem dccX11_fetch_37 : decode cX11_fetch 37 = .ok (.aload_n 2, 1) := by decide +kernel
theorem dccX11_fetch_38 : decode cX11_fetch 38 = .ok (.getfield 146, 3) := by decide +kernel
theorem dccX11_fetch_41 : decode cX11_fetch 41 = .ok (.ifCond .ne 20, 3) := by decide +kernel
theorem dccX11_fetch_44 : decode cX11_fetch 44 = .ok (.aload_n 0, 1) := by decide +kernel
theorem dccX11_fetch_45 : decode cX11_fetch 45 = .ok (.getfield 39, 3) := by decide +kernel
theorem dccX11_fetch_48 : decode cX11_fetch 48 = .ok (.getfield 164, 3) := by decide +kernel
theorem dccX11_fetch_51 : decode cX11_fetch 51 = .ok (.aload_n 0, 1) := by decide +kernel
theorem dccX11_fetch_52 : decode cX11_fetch 52 = .ok (.getfield 39, 3) := by decide +kernel
theorem dccX11_fetch_55 : decode cX11_fetch 55 = .ok (.getfield 159, 3) := by decide +kernel
theorem dccX11_fetch_58 : decode cX11_fetch 58 = .ok (.if_icmp .lt 13, 3) := by decide +kernel
theorem dccX11_fetch_61 : decode cX11_fetch 61 = .ok (.new 88, 3) := by decide +kernel
theorem dccX11_fetch_64 : decode cX11_fetch 64 = .ok (.dup, 1) := by decide +kernel
theorem dccX11_fetch_65 : decode cX11_fetch 65 = .ok (.ldc 167, 2) := by decide +kernel
theorem dccX11_fetch_67 : decode cX11_fetch 67 = .ok (.invokespecial 92, 3) := by decide +kernel
theorem dccX11_fetch_70 : decode cX11_fetch 70 = .ok (.athrow, 1) := by decide +kernel
theorem dccX11_fetch_71 : decode cX11_fetch 71 = .ok (.aload_n 2, 1) := by decide +kernel
theorem dccX11_fetch_72 : decode cX11_fetch 72 = .ok (.iconst 1, 1) := by decide +kernel
theorem dccX11_fetch_73 : decode cX11_fetch 73 = .ok (.putfield 146, 3) := by decide +kernel
theorem dccX11_fetch_76 : decode cX11_fetch 76 = .ok (.aload_n 0, 1) := by decide +kernel
theorem dccX11_fetch_77 : decode cX11_fetch 77 = .ok (.getfield 39, 3) := by decide +kernel
theorem dccX11_fetch_80 : decode cX11_fetch 80 = .ok (.dup, 1) := by decide +kernel
theorem dccX11_fetch_81 : decode cX11_fetch 81 = .ok (.getfield 164, 3) := by decide +kernel
theorem dccX11_fetch_84 : decode cX11_fetch 84 = .ok (.iconst 1, 1) := by decide +kernel
theorem dccX11_fetch_85 : decode cX11_fetch 85 = .ok (.iadd, 1) := by decide +kernel
theorem dccX11_fetch_86 : decode cX11_fetch 86 = .ok (.putfield 164, 3) := by decide +kernel
theorem dccX11_fetch_89 : decode cX11_fetch 89 = .ok (.aload_n 0, 1) := by decide +kernel
theorem dccX11_fetch_90 : decode cX11_fetch 90 = .ok (.getfield 52, 3) := by decide +kernel
theorem dccX11_fetch_93 : decode cX11_fetch 93 = .ok (.invokevirtual 109, 3) := by decide +kernel
theorem dccX11_fetch_96 : decode cX11_fetch 96 = .ok (.aload_n 0, 1) := by decide +kernel
theorem dccX11_fetch_97 : decode cX11_fetch 97 = .ok (.getfield 39, 3) := by decide +kernel
theorem dccX11_fetch_100 : decode cX11_fetch 100 = .ok (.getfield 164, 3) := by decide +kernel
theorem dccX11_fetch_103 : decode cX11_fetch 103 = .ok (.ireturn, 1) := by decide +kernel
theorem dccX11_give_0 : decode cX11_give 0 = .ok (.iload_n 1, 1) := by decide +kernel
theorem dccX11_give_1 : decode cX11_give 1 = .ok (.iconst 1, 1) := by decide +kernel
theorem dccX11_give_2 : decode cX11_give 2 = .ok (.bipush 99, 2) := by decide +kernel
theorem dccX11_give_4 : decode cX11_give 4 = .ok (.invokestatic 73, 3) := by decide +kernel
theorem dccX11_give_7 : decode cX11_give 7 = .ok (.ifCond .ne 13, 3) := by decide +kernel
theorem dccX11_give_10 : decode cX11_give 10 = .ok (.new 77, 3) := by decide +kernel
theorem dccX11_give_13 : decode cX11_give 13 = .ok (.dup, 1) := by decide +kernel
theorem dccX11_give_14 : decode cX11_give 14 = .ok (.ldc 198, 2) := by decide +kernel
theorem dccX11_give_16 : decode cX11_give 16 = .ok (.invokespecial 81, 3) := by decide +kernel
theorem dccX11_give_19 : decode cX11_give 19 = .ok (.athrow, 1) := by decide +kernel
theorem dccX11_give_20 : decode cX11_give 20 = .ok (.aload_n 0, 1) := by decide +kernel
theorem dccX11_give_21 : decode cX11_give 21 = .ok (.getfield 62, 3) := by decide +kernel
theorem dccX11_give_24 : decode cX11_give 24 = .ok (.iload_n 1, 1) := by decide +kernel
theorem dccX11_give_25 : decode cX11_give 25 = .ok (.invokevirtual 200, 3) := by decide +kernel
theorem dccX11_give_28 : decode cX11_give 28 = .ok (.ireturn, 1) := by decide +kernel
theorem dccX11_hall_0 : decode cX11_hall 0 = .ok (.iload_n 1, 1) := by decide +kernel
theorem dccX11_hall_1 : decode cX11_hall 1 = .ok (.iconst 0, 1) := by decide +kernel
theorem dccX11_hall_2 : decode cX11_hall 2 = .ok (.iconst 4, 1) := by decide +kernel
theorem dccX11_hall_3 : decode cX11_hall 3 = .ok (.invokestatic 73, 3) := by decide +kernel
theorem dccX11_hall_6 : decode cX11_hall 6 = .ok (.ifCond .eq 13, 3) := by decide +kernel
theorem dccX11_hall_9 : decode cX11_hall 9 = .ok (.iload_n 2, 1) := by decide +kernel
theorem dccX11_hall_10 : decode cX11_hall 10 = .ok (.iconst 0, 1) := by decide +kernel
theorem dccX11_hall_11 : decode cX11_hall 11 = .ok (.bipush 99, 2) := by decide +kernel
theorem dccX11_hall_13 : decode cX11_hall 13 = .ok (.invokestatic 73, 3) := by decide +kernel
theorem dccX11_hall_16 : decode cX11_hall 16 = .ok (.ifCond .ne 13, 3) := by decide +kernel
theorem dccX11_hall_19 : decode cX11_hall 19 = .ok (.new 77, 3) := by decide +kernel
theorem dccX11_hall_22 : decode cX11_hall 22 = .ok (.dup, 1) := by decide +kernel
theorem dccX11_hall_23 : decode cX11_hall 23 = .ok (.ldc 102, 2) := by decide +kernel
theorem dccX11_hall_25 : decode cX11_hall 25 = .ok (.invokespecial 81, 3) := by decide +kernel
theorem dccX11_hall_28 : decode cX11_hall 28 = .ok (.athrow, 1) := by decide +kernel
theorem dccX11_hall_29 : decode cX11_hall 29 = .ok (.aload_n 0, 1) := by decide +kernel
theorem dccX11_hall_30 : decode cX11_hall 30 = .ok (.getfield 28, 3) := by decide +kernel
theorem dccX11_hall_33 : decode cX11_hall 33 = .ok (.invokevirtual 84, 3) := by decide +kernel
theorem dccX11_hall_36 : decode cX11_hall 36 = .ok (.istore_n 3, 1) := by decide +kernel
theorem dccX11_hall_37 : decode cX11_hall 37 = .ok (.iload_n 3, 1) := by decide +kernel
theorem dccX11_hall_38 : decode cX11_hall 38 = .ok (.iconst 3, 1) := by decide +kernel
theorem dccX11_hall_39 : decode cX11_hall 39 = .ok (.if_icmp .lt 13, 3) := by decide +kernel
theorem dccX11_hall_42 : decode cX11_hall 42 = .ok (.new 88, 3) := by decide +kernel
theorem dccX11_hall_45 : decode cX11_hall 45 = .ok (.dup, 1) := by decide +kernel
theorem dccX11_hall_46 : decode cX11_hall 46 = .ok (.ldc 104, 2) := by decide +kernel
theorem dccX11_hall_48 : decode cX11_hall 48 = .ok (.invokespecial 92, 3) := by decide +kernel
theorem dccX11_hall_51 : decode cX11_hall 51 = .ok (.athrow, 1) := by decide +kernel
theorem dccX11_hall_52 : decode cX11_hall 52 = .ok (.aload_n 0, 1) := by decide +kernel
theorem dccX11_hall_53 : decode cX11_hall 53 = .ok (.getfield 28, 3) := by decide +kernel
theorem dccX11_hall_56 : decode cX11_hall 56 = .ok (.new 106, 3) := by decide +kernel
theorem dccX11_hall_59 : decode cX11_hall 59 = .ok (.dup, 1) := by decide +kernel
theorem dccX11_hall_60 : decode cX11_hall 60 = .ok (.iload_n 3, 1) := by decide +kernel
theorem dccX11_hall_61 : decode cX11_hall 61 = .ok (.iload_n 1, 1) := by decide +kernel
theorem dccX11_hall_62 : decode cX11_hall 62 = .ok (.iload_n 2, 1) := by decide +kernel
theorem dccX11_hall_63 : decode cX11_hall 63 = .ok (.invokespecial 108, 3) := by decide +kernel
theorem dccX11_hall_66 : decode cX11_hall 66 = .ok (.invokevirtual 98, 3) := by decide +kernel
theorem dccX11_hall_69 : decode cX11_hall 69 = .ok (.pop, 1) := by decide +kernel
theorem dccX11_hall_70 : decode cX11_hall 70 = .ok (.aload_n 0, 1) := by decide +kernel
theorem dccX11_hall_71 : decode cX11_hall 71 = .ok (.getfield 52, 3) := by decide +kernel
theorem dccX11_hall_74 : decode cX11_hall 74 = .ok (.invokevirtual 109, 3) := by decide +kernel
theorem dccX11_hall_77 : decode cX11_hall 77 = .ok (.iload_n 3, 1) := by decide +kernel
theorem dccX11_hall_78 : decode cX11_hall 78 = .ok (.ireturn, 1) := by decide +kernel
theorem dccX11_hasMember_0 : decode cX11_hasMember 0 = .ok (.iload_n 0, 1) := by decide +kernel
theorem dccX11_hasMember_1 : decode cX11_hasMember 1 = .ok (.iload_n 1, 1) := by decide +kernel
theorem dccX11_hasMember_2 : decode cX11_hasMember 2 = .ok (.ishr, 1) := by decide +kernel
theorem dccX11_hasMember_3 : decode cX11_hasMember 3 = .ok (.iconst 1, 1) := by decide +kernel
theorem dccX11_hasMember_4 : decode cX11_hasMember 4 = .ok (.iand, 1) := by decide +kernel
theorem dccX11_hasMember_5 : decode cX11_hasMember 5 = .ok (.iconst 1, 1) := by decide +kernel
theorem dccX11_hasMember_6 : decode cX11_hasMember 6 = .ok (.if_icmp .ne 7, 3) := by decide +kernel
theorem dccX11_hasMember_9 : decode cX11_hasMember 9 = .ok (.iconst 1, 1) := by decide +kernel
theorem dccX11_hasMember_10 : decode cX11_hasMember 10 = .ok (.goto 4, 3) := by decide +kernel
theorem dccX11_hasMember_13 : decode cX11_hasMember 13 = .ok (.iconst 0, 1) := by decide +kernel
theorem dccX11_hasMember_14 : decode cX11_hasMember 14 = .ok (.ireturn, 1) := by decide +kernel
theorem dccX11_household_0 : decode cX11_household 0 = .ok (.iload_n 1, 1) := by decide +kernel
theorem dccX11_household_1 : decode cX11_household 1 = .ok (.ifCond .lt 14, 3) := by decide +kernel
theorem dccX11_household_4 : decode cX11_household 4 = .ok (.iload_n 1, 1) := by decide +kernel
theorem dccX11_household_5 : decode cX11_household 5 = .ok (.aload_n 0, 1) := by decide +kernel
theorem dccX11_household_6 : decode cX11_household 6 = .ok (.getfield 24, 3) := by decide +kernel
theorem dccX11_household_9 : decode cX11_household 9 = .ok (.invokevirtual 84, 3) := by decide +kernel
theorem dccX11_household_12 : decode cX11_household 12 = .ok (.if_icmp .lt 13, 3) := by decide +kernel
theorem dccX11_household_15 : decode cX11_household 15 = .ok (.new 112, 3) := by decide +kernel
theorem dccX11_household_18 : decode cX11_household 18 = .ok (.dup, 1) := by decide +kernel
theorem dccX11_household_19 : decode cX11_household 19 = .ok (.ldc 127, 2) := by decide +kernel
theorem dccX11_household_21 : decode cX11_household 21 = .ok (.invokespecial 116, 3) := by decide +kernel
theorem dccX11_household_24 : decode cX11_household 24 = .ok (.athrow, 1) := by decide +kernel
theorem dccX11_household_25 : decode cX11_household 25 = .ok (.iload_n 2, 1) := by decide +kernel
theorem dccX11_household_26 : decode cX11_household 26 = .ok (.iconst 1, 1) := by decide +kernel
theorem dccX11_household_27 : decode cX11_household 27 = .ok (.bipush 9, 2) := by decide +kernel
theorem dccX11_household_29 : decode cX11_household 29 = .ok (.invokestatic 73, 3) := by decide +kernel
theorem dccX11_household_32 : decode cX11_household 32 = .ok (.ifCond .ne 13, 3) := by decide +kernel
theorem dccX11_household_35 : decode cX11_household 35 = .ok (.new 77, 3) := by decide +kernel
theorem dccX11_household_38 : decode cX11_household 38 = .ok (.dup, 1) := by decide +kernel
theorem dccX11_household_39 : decode cX11_household 39 = .ok (.ldc 129, 2) := by decide +kernel
theorem dccX11_household_41 : decode cX11_household 41 = .ok (.invokespecial 81, 3) := by decide +kernel
theorem dccX11_household_44 : decode cX11_household 44 = .ok (.athrow, 1) := by decide +kernel
theorem dccX11_household_45 : decode cX11_household 45 = .ok (.aload_n 0, 1) := by decide +kernel
theorem dccX11_household_46 : decode cX11_household 46 = .ok (.getfield 31, 3) := by decide +kernel
theorem dccX11_household_49 : decode cX11_household 49 = .ok (.invokevirtual 84, 3) := by decide +kernel
theorem dccX11_household_52 : decode cX11_household 52 = .ok (.istore 4, 2) := by decide +kernel
theorem dccX11_household_54 : decode cX11_household 54 = .ok (.iload 4, 2) := by decide +kernel
theorem dccX11_household_56 : decode cX11_household 56 = .ok (.bipush 6, 2) := by decide +kernel
theorem dccX11_household_58 : decode cX11_household 58 = .ok (.if_icmp .lt 13, 3) := by decide +kernel
theorem dccX11_household_61 : decode cX11_household 61 = .ok (.new 88, 3) := by decide +kernel
theorem dccX11_household_64 : decode cX11_household 64 = .ok (.dup, 1) := by decide +kernel
theorem dccX11_household_65 : decode cX11_household 65 = .ok (.ldc 131, 2) := by decide +kernel
theorem dccX11_household_67 : decode cX11_household 67 = .ok (.invokespecial 92, 3) := by decide +kernel
theorem dccX11_household_70 : decode cX11_household 70 = .ok (.athrow, 1) := by decide +kernel
theorem dccX11_household_71 : decode cX11_household 71 = .ok (.new 133, 3) := by decide +kernel
theorem dccX11_household_74 : decode cX11_household 74 = .ok (.dup, 1) := by decide +kernel
theorem dccX11_household_75 : decode cX11_household 75 = .ok (.iload 4, 2) := by decide +kernel
theorem dccX11_household_77 : decode cX11_household 77 = .ok (.aload_n 0, 1) := by decide +kernel
theorem dccX11_household_78 : decode cX11_household 78 = .ok (.getfield 24, 3) := by decide +kernel
theorem dccX11_household_81 : decode cX11_household 81 = .ok (.iload_n 1, 1) := by decide +kernel
theorem dccX11_household_82 : decode cX11_household 82 = .ok (.invokevirtual 119, 3) := by decide +kernel
theorem dccX11_household_85 : decode cX11_household 85 = .ok (.checkcast 93, 3) := by decide +kernel
theorem dccX11_household_88 : decode cX11_household 88 = .ok (.iload_n 2, 1) := by decide +kernel
theorem dccX11_household_89 : decode cX11_household 89 = .ok (.iload_n 3, 1) := by decide +kernel
theorem dccX11_household_90 : decode cX11_household 90 = .ok (.invokespecial 135, 3) := by decide +kernel
theorem dccX11_household_93 : decode cX11_household 93 = .ok (.astore 5, 2) := by decide +kernel
theorem dccX11_household_95 : decode cX11_household 95 = .ok (.aload_n 0, 1) := by decide +kernel
theorem dccX11_household_96 : decode cX11_household 96 = .ok (.getfield 18, 3) := by decide +kernel
theorem dccX11_household_99 : decode cX11_household 99 = .ok (.aload 5, 2) := by decide +kernel
theorem dccX11_household_101 : decode cX11_household 101 = .ok (.getfield 138, 3) := by decide +kernel
theorem dccX11_household_104 : decode cX11_household 104 = .ok (.invokevirtual 142, 3) := by decide +kernel
theorem dccX11_household_107 : decode cX11_household 107 = .ok (.ifCond .eq 9, 3) := by decide +kernel
theorem dccX11_household_110 : decode cX11_household 110 = .ok (.aload 5, 2) := by decide +kernel
theorem dccX11_household_112 : decode cX11_household 112 = .ok (.iconst 2, 1) := by decide +kernel
theorem dccX11_household_113 : decode cX11_household 113 = .ok (.putfield 146, 3) := by decide +kernel
theorem dccX11_household_116 : decode cX11_household 116 = .ok (.aload_n 0, 1) := by decide +kernel
theorem dccX11_household_117 : decode cX11_household 117 = .ok (.getfield 31, 3) := by decide +kernel
theorem dccX11_household_120 : decode cX11_household 120 = .ok (.aload 5, 2) := by decide +kernel
theorem dccX11_household_122 : decode cX11_household 122 = .ok (.invokevirtual 98, 3) := by decide +kernel
theorem dccX11_household_125 : decode cX11_household 125 = .ok (.pop, 1) := by decide +kernel
theorem dccX11_household_126 : decode cX11_household 126 = .ok (.iload 4, 2) := by decide +kernel
theorem dccX11_household_128 : decode cX11_household 128 = .ok (.ireturn, 1) := by decide +kernel
theorem dccX11_init_0 : decode cX11_init 0 = .ok (.aload_n 0, 1) := by decide +kernel
theorem dccX11_init_1 : decode cX11_init 1 = .ok (.invokespecial 1, 3) := by decide +kernel
theorem dccX11_init_4 : decode cX11_init 4 = .ok (.new 7, 3) := by decide +kernel
theorem dccX11_init_7 : decode cX11_init 7 = .ok (.dup, 1) := by decide +kernel
theorem dccX11_init_8 : decode cX11_init 8 = .ok (.invokespecial 9, 3) := by decide +kernel
theorem dccX11_init_11 : decode cX11_init 11 = .ok (.astore_n 1, 1) := by decide +kernel
theorem dccX11_init_12 : decode cX11_init 12 = .ok (.new 10, 3) := by decide +kernel
theorem dccX11_init_15 : decode cX11_init 15 = .ok (.dup, 1) := by decide +kernel
theorem dccX11_init_16 : decode cX11_init 16 = .ok (.invokespecial 12, 3) := by decide +kernel
theorem dccX11_init_19 : decode cX11_init 19 = .ok (.astore_n 2, 1) := by decide +kernel
theorem dccX11_init_20 : decode cX11_init 20 = .ok (.new 10, 3) := by decide +kernel
theorem dccX11_init_23 : decode cX11_init 23 = .ok (.dup, 1) := by decide +kernel
theorem dccX11_init_24 : decode cX11_init 24 = .ok (.invokespecial 12, 3) := by decide +kernel
theorem dccX11_init_27 : decode cX11_init 27 = .ok (.astore_n 3, 1) := by decide +kernel
theorem dccX11_init_28 : decode cX11_init 28 = .ok (.new 13, 3) := by decide +kernel
theorem dccX11_init_31 : decode cX11_init 31 = .ok (.dup, 1) := by decide +kernel
theorem dccX11_init_32 : decode cX11_init 32 = .ok (.aload_n 3, 1) := by decide +kernel
theorem dccX11_init_33 : decode cX11_init 33 = .ok (.aload_n 2, 1) := by decide +kernel
theorem dccX11_init_34 : decode cX11_init 34 = .ok (.invokespecial 15, 3) := by decide +kernel
theorem dccX11_init_37 : decode cX11_init 37 = .ok (.astore 4, 2) := by decide +kernel
theorem dccX11_init_39 : decode cX11_init 39 = .ok (.aload_n 0, 1) := by decide +kernel
theorem dccX11_init_40 : decode cX11_init 40 = .ok (.aload_n 1, 1) := by decide +kernel
theorem dccX11_init_41 : decode cX11_init 41 = .ok (.putfield 18, 3) := by decide +kernel
theorem dccX11_init_44 : decode cX11_init 44 = .ok (.aload_n 0, 1) := by decide +kernel
theorem dccX11_init_45 : decode cX11_init 45 = .ok (.new 10, 3) := by decide +kernel
theorem dccX11_init_48 : decode cX11_init 48 = .ok (.dup, 1) := by decide +kernel
theorem dccX11_init_49 : decode cX11_init 49 = .ok (.invokespecial 12, 3) := by decide +kernel
theorem dccX11_init_52 : decode cX11_init 52 = .ok (.putfield 24, 3) := by decide +kernel
theorem dccX11_init_55 : decode cX11_init 55 = .ok (.aload_n 0, 1) := by decide +kernel
theorem dccX11_init_56 : decode cX11_init 56 = .ok (.aload_n 2, 1) := by decide +kernel
theorem dccX11_init_57 : decode cX11_init 57 = .ok (.putfield 28, 3) := by decide +kernel
theorem dccX11_init_60 : decode cX11_init 60 = .ok (.aload_n 0, 1) := by decide +kernel
theorem dccX11_init_61 : decode cX11_init 61 = .ok (.aload_n 3, 1) := by decide +kernel
theorem dccX11_init_62 : decode cX11_init 62 = .ok (.putfield 31, 3) := by decide +kernel
theorem dccX11_init_65 : decode cX11_init 65 = .ok (.aload_n 0, 1) := by decide +kernel
theorem dccX11_init_66 : decode cX11_init 66 = .ok (.new 34, 3) := by decide +kernel
theorem dccX11_init_69 : decode cX11_init 69 = .ok (.dup, 1) := by decide +kernel
theorem dccX11_init_70 : decode cX11_init 70 = .ok (.aload_n 1, 1) := by decide +kernel
theorem dccX11_init_71 : decode cX11_init 71 = .ok (.aload_n 3, 1) := by decide +kernel
theorem dccX11_init_72 : decode cX11_init 72 = .ok (.invokespecial 36, 3) := by decide +kernel
theorem dccX11_init_75 : decode cX11_init 75 = .ok (.putfield 39, 3) := by decide +kernel
theorem dccX11_init_78 : decode cX11_init 78 = .ok (.aload_n 0, 1) := by decide +kernel
theorem dccX11_init_79 : decode cX11_init 79 = .ok (.aload 4, 2) := by decide +kernel
theorem dccX11_init_81 : decode cX11_init 81 = .ok (.putfield 43, 3) := by decide +kernel
theorem dccX11_init_84 : decode cX11_init 84 = .ok (.aload_n 0, 1) := by decide +kernel
theorem dccX11_init_85 : decode cX11_init 85 = .ok (.new 47, 3) := by decide +kernel
theorem dccX11_init_88 : decode cX11_init 88 = .ok (.dup, 1) := by decide +kernel
theorem dccX11_init_89 : decode cX11_init 89 = .ok (.aload_n 3, 1) := by decide +kernel
theorem dccX11_init_90 : decode cX11_init 90 = .ok (.aload_n 2, 1) := by decide +kernel
theorem dccX11_init_91 : decode cX11_init 91 = .ok (.aload 4, 2) := by decide +kernel
theorem dccX11_init_93 : decode cX11_init 93 = .ok (.invokespecial 49, 3) := by decide +kernel
theorem dccX11_init_96 : decode cX11_init 96 = .ok (.putfield 52, 3) := by decide +kernel
theorem dccX11_init_99 : decode cX11_init 99 = .ok (.aload_n 0, 1) := by decide +kernel
theorem dccX11_init_100 : decode cX11_init 100 = .ok (.new 13, 3) := by decide +kernel
theorem dccX11_init_103 : decode cX11_init 103 = .ok (.dup, 1) := by decide +kernel
theorem dccX11_init_104 : decode cX11_init 104 = .ok (.aload_n 3, 1) := by decide +kernel
theorem dccX11_init_105 : decode cX11_init 105 = .ok (.aload_n 2, 1) := by decide +kernel
theorem dccX11_init_106 : decode cX11_init 106 = .ok (.invokespecial 15, 3) := by decide +kernel
theorem dccX11_init_109 : decode cX11_init 109 = .ok (.putfield 56, 3) := by decide +kernel
theorem dccX11_init_112 : decode cX11_init 112 = .ok (.aload_n 0, 1) := by decide +kernel
theorem dccX11_init_113 : decode cX11_init 113 = .ok (.new 59, 3) := by decide +kernel
theorem dccX11_init_116 : decode cX11_init 116 = .ok (.dup, 1) := by decide +kernel
theorem dccX11_init_117 : decode cX11_init 117 = .ok (.invokespecial 61, 3) := by decide +kernel
theorem dccX11_init_120 : decode cX11_init 120 = .ok (.putfield 62, 3) := by decide +kernel
theorem dccX11_init_123 : decode cX11_init 123 = .ok (.aload_n 0, 1) := by decide +kernel
theorem dccX11_init_124 : decode cX11_init 124 = .ok (.new 66, 3) := by decide +kernel
theorem dccX11_init_127 : decode cX11_init 127 = .ok (.dup, 1) := by decide +kernel
theorem dccX11_init_128 : decode cX11_init 128 = .ok (.invokespecial 68, 3) := by decide +kernel
theorem dccX11_init_131 : decode cX11_init 131 = .ok (.putfield 69, 3) := by decide +kernel
theorem dccX11_init_134 : decode cX11_init 134 = .ok (.return_, 1) := by decide +kernel
theorem dccX11_isSound_0 : decode cX11_isSound 0 = .ok (.aload_n 0, 1) := by decide +kernel
theorem dccX11_isSound_1 : decode cX11_isSound 1 = .ok (.getfield 43, 3) := by decide +kernel
theorem dccX11_isSound_4 : decode cX11_isSound 4 = .ok (.invokevirtual 336, 3) := by decide +kernel
theorem dccX11_isSound_7 : decode cX11_isSound 7 = .ok (.ifCond .eq 13, 3) := by decide +kernel
theorem dccX11_isSound_10 : decode cX11_isSound 10 = .ok (.aload_n 0, 1) := by decide +kernel
theorem dccX11_isSound_11 : decode cX11_isSound 11 = .ok (.getfield 43, 3) := by decide +kernel
theorem dccX11_isSound_14 : decode cX11_isSound 14 = .ok (.invokevirtual 340, 3) := by decide +kernel
theorem dccX11_isSound_17 : decode cX11_isSound 17 = .ok (.ifCond .eq 5, 3) := by decide +kernel
theorem dccX11_isSound_20 : decode cX11_isSound 20 = .ok (.iconst 0, 1) := by decide +kernel
theorem dccX11_isSound_21 : decode cX11_isSound 21 = .ok (.ireturn, 1) := by decide +kernel
theorem dccX11_isSound_22 : decode cX11_isSound 22 = .ok (.aload_n 0, 1) := by decide +kernel
theorem dccX11_isSound_23 : decode cX11_isSound 23 = .ok (.getfield 56, 3) := by decide +kernel
theorem dccX11_isSound_26 : decode cX11_isSound 26 = .ok (.invokevirtual 354, 3) := by decide +kernel
theorem dccX11_isSound_29 : decode cX11_isSound 29 = .ok (.aload_n 0, 1) := by decide +kernel
theorem dccX11_isSound_30 : decode cX11_isSound 30 = .ok (.getfield 43, 3) := by decide +kernel
theorem dccX11_isSound_33 : decode cX11_isSound 33 = .ok (.aload_n 0, 1) := by decide +kernel
theorem dccX11_isSound_34 : decode cX11_isSound 34 = .ok (.getfield 56, 3) := by decide +kernel
theorem dccX11_isSound_37 : decode cX11_isSound 37 = .ok (.iconst 0, 1) := by decide +kernel
theorem dccX11_isSound_38 : decode cX11_isSound 38 = .ok (.invokestatic 357, 3) := by decide +kernel
theorem dccX11_isSound_41 : decode cX11_isSound 41 = .ok (.ifCond .ne 61, 3) := by decide +kernel
theorem dccX11_isSound_44 : decode cX11_isSound 44 = .ok (.aload_n 0, 1) := by decide +kernel
theorem dccX11_isSound_45 : decode cX11_isSound 45 = .ok (.getfield 39, 3) := by decide +kernel
theorem dccX11_isSound_48 : decode cX11_isSound 48 = .ok (.aload_n 0, 1) := by decide +kernel
theorem dccX11_isSound_49 : decode cX11_isSound 49 = .ok (.getfield 39, 3) := by decide +kernel
theorem dccX11_isSound_52 : decode cX11_isSound 52 = .ok (.aload_n 0, 1) := by decide +kernel
theorem dccX11_isSound_53 : decode cX11_isSound 53 = .ok (.getfield 39, 3) := by decide +kernel
theorem dccX11_isSound_56 : decode cX11_isSound 56 = .ok (.invokevirtual 264, 3) := by decide +kernel
theorem dccX11_isSound_59 : decode cX11_isSound 59 = .ok (.invokevirtual 278, 3) := by decide +kernel
theorem dccX11_isSound_62 : decode cX11_isSound 62 = .ok (.invokevirtual 361, 3) := by decide +kernel
theorem dccX11_isSound_65 : decode cX11_isSound 65 = .ok (.ifCond .ne 37, 3) := by decide +kernel
theorem dccX11_isSound_68 : decode cX11_isSound 68 = .ok (.aload_n 0, 1) := by decide +kernel
theorem dccX11_isSound_69 : decode cX11_isSound 69 = .ok (.getfield 62, 3) := by decide +kernel
theorem dccX11_isSound_72 : decode cX11_isSound 72 = .ok (.invokevirtual 364, 3) := by decide +kernel
theorem dccX11_isSound_75 : decode cX11_isSound 75 = .ok (.ifCond .eq 27, 3) := by decide +kernel
theorem dccX11_isSound_78 : decode cX11_isSound 78 = .ok (.aload_n 0, 1) := by decide +kernel
theorem dccX11_isSound_79 : decode cX11_isSound 79 = .ok (.getfield 69, 3) := by decide +kernel
theorem dccX11_isSound_82 : decode cX11_isSound 82 = .ok (.invokevirtual 225, 3) := by decide +kernel
theorem dccX11_isSound_85 : decode cX11_isSound 85 = .ok (.aload_n 0, 1) := by decide +kernel
theorem dccX11_isSound_86 : decode cX11_isSound 86 = .ok (.getfield 69, 3) := by decide +kernel
theorem dccX11_isSound_89 : decode cX11_isSound 89 = .ok (.getfield 210, 3) := by decide +kernel
theorem dccX11_isSound_92 : decode cX11_isSound 92 = .ok (.invokevirtual 84, 3) := by decide +kernel
theorem dccX11_isSound_95 : decode cX11_isSound 95 = .ok (.if_icmp .gt 7, 3) := by decide +kernel
theorem dccX11_isSound_98 : decode cX11_isSound 98 = .ok (.iconst 1, 1) := by decide +kernel
theorem dccX11_isSound_99 : decode cX11_isSound 99 = .ok (.goto 4, 3) := by decide +kernel
theorem dccX11_isSound_102 : decode cX11_isSound 102 = .ok (.iconst 0, 1) := by decide +kernel
theorem dccX11_isSound_103 : decode cX11_isSound 103 = .ok (.ireturn, 1) := by decide +kernel
theorem dccX11_isStable_0 : decode cX11_isStable 0 = .ok (.aload_n 0, 1) := by decide +kernel
theorem dccX11_isStable_1 : decode cX11_isStable 1 = .ok (.getfield 56, 3) := by decide +kernel
theorem dccX11_isStable_4 : decode cX11_isStable 4 = .ok (.iload_n 1, 1) := by decide +kernel
theorem dccX11_isStable_5 : decode cX11_isStable 5 = .ok (.invokevirtual 333, 3) := by decide +kernel
theorem dccX11_isStable_8 : decode cX11_isStable 8 = .ok (.ifCond .eq 27, 3) := by decide +kernel
theorem dccX11_isStable_11 : decode cX11_isStable 11 = .ok (.aload_n 0, 1) := by decide +kernel
theorem dccX11_isStable_12 : decode cX11_isStable 12 = .ok (.getfield 56, 3) := by decide +kernel
theorem dccX11_isStable_15 : decode cX11_isStable 15 = .ok (.invokevirtual 336, 3) := by decide +kernel
theorem dccX11_isStable_18 : decode cX11_isStable 18 = .ok (.ifCond .eq 17, 3) := by decide +kernel
theorem dccX11_isStable_21 : decode cX11_isStable 21 = .ok (.aload_n 0, 1) := by decide +kernel
theorem dccX11_isStable_22 : decode cX11_isStable 22 = .ok (.getfield 56, 3) := by decide +kernel
theorem dccX11_isStable_25 : decode cX11_isStable 25 = .ok (.invokevirtual 340, 3) := by decide +kernel
theorem dccX11_isStable_28 : decode cX11_isStable 28 = .ok (.ifCond .ne 7, 3) := by decide +kernel
theorem dccX11_isStable_31 : decode cX11_isStable 31 = .ok (.iconst 1, 1) := by decide +kernel
theorem dccX11_isStable_32 : decode cX11_isStable 32 = .ok (.goto 4, 3) := by decide +kernel
theorem dccX11_isStable_35 : decode cX11_isStable 35 = .ok (.iconst 0, 1) := by decide +kernel
theorem dccX11_isStable_36 : decode cX11_isStable 36 = .ok (.ireturn, 1) := by decide +kernel
theorem dccX11_isWithin_0 : decode cX11_isWithin 0 = .ok (.iload_n 0, 1) := by decide +kernel
theorem dccX11_isWithin_1 : decode cX11_isWithin 1 = .ok (.iload_n 1, 1) := by decide +kernel
theorem dccX11_isWithin_2 : decode cX11_isWithin 2 = .ok (.if_icmp .lt 12, 3) := by decide +kernel
theorem dccX11_isWithin_5 : decode cX11_isWithin 5 = .ok (.iload_n 0, 1) := by decide +kernel
theorem dccX11_isWithin_6 : decode cX11_isWithin 6 = .ok (.iload_n 2, 1) := by decide +kernel
theorem dccX11_isWithin_7 : decode cX11_isWithin 7 = .ok (.if_icmp .gt 7, 3) := by decide +kernel
theorem dccX11_isWithin_10 : decode cX11_isWithin 10 = .ok (.iconst 1, 1) := by decide +kernel
theorem dccX11_isWithin_11 : decode cX11_isWithin 11 = .ok (.goto 4, 3) := by decide +kernel
theorem dccX11_isWithin_14 : decode cX11_isWithin 14 = .ok (.iconst 0, 1) := by decide +kernel
theorem dccX11_isWithin_15 : decode cX11_isWithin 15 = .ok (.ireturn, 1) := by decide +kernel
theorem dccX11_knock_0 : decode cX11_knock 0 = .ok (.aload_n 0, 1) := by decide +kernel
theorem dccX11_knock_1 : decode cX11_knock 1 = .ok (.getfield 69, 3) := by decide +kernel
theorem dccX11_knock_4 : decode cX11_knock 4 = .ok (.dup, 1) := by decide +kernel
theorem dccX11_knock_5 : decode cX11_knock 5 = .ok (.getfield 228, 3) := by decide +kernel
theorem dccX11_knock_8 : decode cX11_knock 8 = .ok (.iconst 1, 1) := by decide +kernel
theorem dccX11_knock_9 : decode cX11_knock 9 = .ok (.iadd, 1) := by decide +kernel
theorem dccX11_knock_10 : decode cX11_knock 10 = .ok (.putfield 228, 3) := by decide +kernel
theorem dccX11_knock_13 : decode cX11_knock 13 = .ok (.aload_n 0, 1) := by decide +kernel
theorem dccX11_knock_14 : decode cX11_knock 14 = .ok (.getfield 69, 3) := by decide +kernel
theorem dccX11_knock_17 : decode cX11_knock 17 = .ok (.getfield 228, 3) := by decide +kernel
theorem dccX11_knock_20 : decode cX11_knock 20 = .ok (.ireturn, 1) := by decide +kernel
theorem dccX11_list_0 : decode cX11_list 0 = .ok (.iload_n 1, 1) := by decide +kernel
theorem dccX11_list_1 : decode cX11_list 1 = .ok (.invokestatic 204, 3) := by decide +kernel
theorem dccX11_list_4 : decode cX11_list 4 = .ok (.ifCond .ne 13, 3) := by decide +kernel
theorem dccX11_list_7 : decode cX11_list 7 = .ok (.new 77, 3) := by decide +kernel
theorem dccX11_list_10 : decode cX11_list 10 = .ok (.dup, 1) := by decide +kernel
theorem dccX11_list_11 : decode cX11_list 11 = .ok (.ldc 208, 2) := by decide +kernel
theorem dccX11_list_13 : decode cX11_list 13 = .ok (.invokespecial 81, 3) := by decide +kernel
theorem dccX11_list_16 : decode cX11_list 16 = .ok (.athrow, 1) := by decide +kernel
theorem dccX11_list_17 : decode cX11_list 17 = .ok (.aload_n 0, 1) := by decide +kernel
theorem dccX11_list_18 : decode cX11_list 18 = .ok (.getfield 69, 3) := by decide +kernel
theorem dccX11_list_21 : decode cX11_list 21 = .ok (.getfield 210, 3) := by decide +kernel
theorem dccX11_list_24 : decode cX11_list 24 = .ok (.invokevirtual 84, 3) := by decide +kernel
theorem dccX11_list_27 : decode cX11_list 27 = .ok (.istore_n 2, 1) := by decide +kernel
theorem dccX11_list_28 : decode cX11_list 28 = .ok (.iload_n 2, 1) := by decide +kernel
theorem dccX11_list_29 : decode cX11_list 29 = .ok (.bipush 12, 2) := by decide +kernel
theorem dccX11_list_31 : decode cX11_list 31 = .ok (.if_icmp .lt 13, 3) := by decide +kernel
theorem dccX11_list_34 : decode cX11_list 34 = .ok (.new 88, 3) := by decide +kernel
theorem dccX11_list_37 : decode cX11_list 37 = .ok (.dup, 1) := by decide +kernel
theorem dccX11_list_38 : decode cX11_list 38 = .ok (.ldc 213, 2) := by decide +kernel
theorem dccX11_list_40 : decode cX11_list 40 = .ok (.invokespecial 92, 3) := by decide +kernel
theorem dccX11_list_43 : decode cX11_list 43 = .ok (.athrow, 1) := by decide +kernel
theorem dccX11_list_44 : decode cX11_list 44 = .ok (.aload_n 0, 1) := by decide +kernel
theorem dccX11_list_45 : decode cX11_list 45 = .ok (.getfield 69, 3) := by decide +kernel
theorem dccX11_list_48 : decode cX11_list 48 = .ok (.getfield 210, 3) := by decide +kernel
theorem dccX11_list_51 : decode cX11_list 51 = .ok (.new 215, 3) := by decide +kernel
theorem dccX11_list_54 : decode cX11_list 54 = .ok (.dup, 1) := by decide +kernel
theorem dccX11_list_55 : decode cX11_list 55 = .ok (.iload_n 1, 1) := by decide +kernel
theorem dccX11_list_56 : decode cX11_list 56 = .ok (.invokespecial 217, 3) := by decide +kernel
theorem dccX11_list_59 : decode cX11_list 59 = .ok (.invokevirtual 98, 3) := by decide +kernel
theorem dccX11_list_62 : decode cX11_list 62 = .ok (.pop, 1) := by decide +kernel
theorem dccX11_list_63 : decode cX11_list 63 = .ok (.iload_n 2, 1) := by decide +kernel
theorem dccX11_list_64 : decode cX11_list 64 = .ok (.ireturn, 1) := by decide +kernel
theorem dccX11_lot_0 : decode cX11_lot 0 = .ok (.iload_n 1, 1) := by decide +kernel
theorem dccX11_lot_1 : decode cX11_lot 1 = .ok (.iconst 1, 1) := by decide +kernel
theorem dccX11_lot_2 : decode cX11_lot 2 = .ok (.bipush 99, 2) := by decide +kernel
theorem dccX11_lot_4 : decode cX11_lot 4 = .ok (.invokestatic 73, 3) := by decide +kernel
theorem dccX11_lot_7 : decode cX11_lot 7 = .ok (.ifCond .eq 13, 3) := by decide +kernel
theorem dccX11_lot_10 : decode cX11_lot 10 = .ok (.iload_n 2, 1) := by decide +kernel
theorem dccX11_lot_11 : decode cX11_lot 11 = .ok (.iconst 0, 1) := by decide +kernel
theorem dccX11_lot_12 : decode cX11_lot 12 = .ok (.bipush 99, 2) := by decide +kernel
theorem dccX11_lot_14 : decode cX11_lot 14 = .ok (.invokestatic 73, 3) := by decide +kernel
theorem dccX11_lot_17 : decode cX11_lot 17 = .ok (.ifCond .ne 13, 3) := by decide +kernel
theorem dccX11_lot_20 : decode cX11_lot 20 = .ok (.new 77, 3) := by decide +kernel
theorem dccX11_lot_23 : decode cX11_lot 23 = .ok (.dup, 1) := by decide +kernel
theorem dccX11_lot_24 : decode cX11_lot 24 = .ok (.ldc 186, 2) := by decide +kernel
theorem dccX11_lot_26 : decode cX11_lot 26 = .ok (.invokespecial 81, 3) := by decide +kernel
theorem dccX11_lot_29 : decode cX11_lot 29 = .ok (.athrow, 1) := by decide +kernel
theorem dccX11_lot_30 : decode cX11_lot 30 = .ok (.aload_n 0, 1) := by decide +kernel
theorem dccX11_lot_31 : decode cX11_lot 31 = .ok (.getfield 62, 3) := by decide +kernel
theorem dccX11_lot_34 : decode cX11_lot 34 = .ok (.getfield 188, 3) := by decide +kernel
theorem dccX11_lot_37 : decode cX11_lot 37 = .ok (.invokevirtual 84, 3) := by decide +kernel
theorem dccX11_lot_40 : decode cX11_lot 40 = .ok (.istore_n 3, 1) := by decide +kernel
theorem dccX11_lot_41 : decode cX11_lot 41 = .ok (.iload_n 3, 1) := by decide +kernel
theorem dccX11_lot_42 : decode cX11_lot 42 = .ok (.bipush 10, 2) := by decide +kernel
theorem dccX11_lot_44 : decode cX11_lot 44 = .ok (.if_icmp .lt 13, 3) := by decide +kernel
theorem dccX11_lot_47 : decode cX11_lot 47 = .ok (.new 88, 3) := by decide +kernel
theorem dccX11_lot_50 : decode cX11_lot 50 = .ok (.dup, 1) := by decide +kernel
theorem dccX11_lot_51 : decode cX11_lot 51 = .ok (.ldc 191, 2) := by decide +kernel
theorem dccX11_lot_53 : decode cX11_lot 53 = .ok (.invokespecial 92, 3) := by decide +kernel
theorem dccX11_lot_56 : decode cX11_lot 56 = .ok (.athrow, 1) := by decide +kernel
theorem dccX11_lot_57 : decode cX11_lot 57 = .ok (.aload_n 0, 1) := by decide +kernel
theorem dccX11_lot_58 : decode cX11_lot 58 = .ok (.getfield 62, 3) := by decide +kernel
theorem dccX11_lot_61 : decode cX11_lot 61 = .ok (.getfield 188, 3) := by decide +kernel
theorem dccX11_lot_64 : decode cX11_lot 64 = .ok (.new 193, 3) := by decide +kernel
theorem dccX11_lot_67 : decode cX11_lot 67 = .ok (.dup, 1) := by decide +kernel
theorem dccX11_lot_68 : decode cX11_lot 68 = .ok (.iload_n 1, 1) := by decide +kernel
theorem dccX11_lot_69 : decode cX11_lot 69 = .ok (.aload_n 0, 1) := by decide +kernel
theorem dccX11_lot_70 : decode cX11_lot 70 = .ok (.getfield 18, 3) := by decide +kernel
theorem dccX11_lot_73 : decode cX11_lot 73 = .ok (.getfield 171, 3) := by decide +kernel
theorem dccX11_lot_76 : decode cX11_lot 76 = .ok (.iload_n 2, 1) := by decide +kernel
theorem dccX11_lot_77 : decode cX11_lot 77 = .ok (.iadd, 1) := by decide +kernel
theorem dccX11_lot_78 : decode cX11_lot 78 = .ok (.invokespecial 195, 3) := by decide +kernel
theorem dccX11_lot_81 : decode cX11_lot 81 = .ok (.invokevirtual 98, 3) := by decide +kernel
theorem dccX11_lot_84 : decode cX11_lot 84 = .ok (.pop, 1) := by decide +kernel
theorem dccX11_lot_85 : decode cX11_lot 85 = .ok (.iload_n 3, 1) := by decide +kernel
theorem dccX11_lot_86 : decode cX11_lot 86 = .ok (.ireturn, 1) := by decide +kernel
theorem dccX11_ofHall_0 : decode cX11_ofHall 0 = .ok (.iload_n 1, 1) := by decide +kernel
theorem dccX11_ofHall_1 : decode cX11_ofHall 1 = .ok (.ifCond .lt 14, 3) := by decide +kernel
theorem dccX11_ofHall_4 : decode cX11_ofHall 4 = .ok (.iload_n 1, 1) := by decide +kernel
theorem dccX11_ofHall_5 : decode cX11_ofHall 5 = .ok (.aload_n 0, 1) := by decide +kernel
theorem dccX11_ofHall_6 : decode cX11_ofHall 6 = .ok (.getfield 28, 3) := by decide +kernel
theorem dccX11_ofHall_9 : decode cX11_ofHall 9 = .ok (.invokevirtual 84, 3) := by decide +kernel
theorem dccX11_ofHall_12 : decode cX11_ofHall 12 = .ok (.if_icmp .lt 13, 3) := by decide +kernel
theorem dccX11_ofHall_15 : decode cX11_ofHall 15 = .ok (.new 112, 3) := by decide +kernel
theorem dccX11_ofHall_18 : decode cX11_ofHall 18 = .ok (.dup, 1) := by decide +kernel
theorem dccX11_ofHall_19 : decode cX11_ofHall 19 = .ok (.ldc 114, 2) := by decide +kernel
theorem dccX11_ofHall_21 : decode cX11_ofHall 21 = .ok (.invokespecial 116, 3) := by decide +kernel
theorem dccX11_ofHall_24 : decode cX11_ofHall 24 = .ok (.athrow, 1) := by decide +kernel
theorem dccX11_ofHall_25 : decode cX11_ofHall 25 = .ok (.aload_n 0, 1) := by decide +kernel
theorem dccX11_ofHall_26 : decode cX11_ofHall 26 = .ok (.getfield 28, 3) := by decide +kernel
theorem dccX11_ofHall_29 : decode cX11_ofHall 29 = .ok (.iload_n 1, 1) := by decide +kernel
theorem dccX11_ofHall_30 : decode cX11_ofHall 30 = .ok (.invokevirtual 119, 3) := by decide +kernel
theorem dccX11_ofHall_33 : decode cX11_ofHall 33 = .ok (.checkcast 106, 3) := by decide +kernel
theorem dccX11_ofHall_36 : decode cX11_ofHall 36 = .ok (.astore_n 3, 1) := by decide +kernel
theorem dccX11_ofHall_37 : decode cX11_ofHall 37 = .ok (.iload_n 2, 1) := by decide +kernel
