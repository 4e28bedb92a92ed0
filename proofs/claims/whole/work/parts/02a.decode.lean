/-! decode rows, 1 of 4 (printed) -/
theorem dX0_init_0 : decode cX0_init 0 = .ok (.aload_n 0, 1) := by decide +kernel
theorem dX0_init_1 : decode cX0_init 1 = .ok (.invokespecial 3, 3) := by decide +kernel
theorem dX0_init_4 : decode cX0_init 4 = .ok (.aload_n 0, 1) := by decide +kernel
theorem dX0_init_5 : decode cX0_init 5 = .ok (.bipush 24, 2) := by decide +kernel
theorem dX0_init_7 : decode cX0_init 7 = .ok (.sipush 200, 3) := by decide +kernel
theorem dX0_init_10 : decode cX0_init 10 = .ok (.multianewarray 9 2, 4) := by decide +kernel
theorem dX0_init_14 : decode cX0_init 14 = .ok (.putfield 11, 3) := by decide +kernel
theorem dX0_init_17 : decode cX0_init 17 = .ok (.aload_n 0, 1) := by decide +kernel
theorem dX0_init_18 : decode cX0_init 18 = .ok (.bipush 8, 2) := by decide +kernel
theorem dX0_init_20 : decode cX0_init 20 = .ok (.sipush 200, 3) := by decide +kernel
theorem dX0_init_23 : decode cX0_init 23 = .ok (.multianewarray 9 2, 4) := by decide +kernel
theorem dX0_init_27 : decode cX0_init 27 = .ok (.putfield 16, 3) := by decide +kernel
theorem dX0_init_30 : decode cX0_init 30 = .ok (.return_, 1) := by decide +kernel
theorem dX0_keepFamilies_0 : decode cX0_keepFamilies 0 = .ok (.aload_n 1, 1) := by decide +kernel
theorem dX0_keepFamilies_1 : decode cX0_keepFamilies 1 = .ok (.getfield 19, 3) := by decide +kernel
theorem dX0_keepFamilies_4 : decode cX0_keepFamilies 4 = .ok (.istore_n 2, 1) := by decide +kernel
theorem dX0_keepFamilies_5 : decode cX0_keepFamilies 5 = .ok (.iconst 0, 1) := by decide +kernel
theorem dX0_keepFamilies_6 : decode cX0_keepFamilies 6 = .ok (.istore_n 3, 1) := by decide +kernel
theorem dX0_keepFamilies_7 : decode cX0_keepFamilies 7 = .ok (.iload_n 3, 1) := by decide +kernel
theorem dX0_keepFamilies_8 : decode cX0_keepFamilies 8 = .ok (.aload_n 1, 1) := by decide +kernel
theorem dX0_keepFamilies_9 : decode cX0_keepFamilies 9 = .ok (.getfield 25, 3) := by decide +kernel
theorem dX0_keepFamilies_12 : decode cX0_keepFamilies 12 = .ok (.getfield 29, 3) := by decide +kernel
theorem dX0_keepFamilies_15 : decode cX0_keepFamilies 15 = .ok (.if_icmp .ge 94, 3) := by decide +kernel
theorem dX0_keepFamilies_18 : decode cX0_keepFamilies 18 = .ok (.iload_n 2, 1) := by decide +kernel
theorem dX0_keepFamilies_19 : decode cX0_keepFamilies 19 = .ok (.sipush 200, 3) := by decide +kernel
theorem dX0_keepFamilies_22 : decode cX0_keepFamilies 22 = .ok (.if_icmp .ge 87, 3) := by decide +kernel
theorem dX0_keepFamilies_25 : decode cX0_keepFamilies 25 = .ok (.aload_n 1, 1) := by decide +kernel
theorem dX0_keepFamilies_26 : decode cX0_keepFamilies 26 = .ok (.getfield 25, 3) := by decide +kernel
theorem dX0_keepFamilies_29 : decode cX0_keepFamilies 29 = .ok (.getfield 34, 3) := by decide +kernel
theorem dX0_keepFamilies_32 : decode cX0_keepFamilies 32 = .ok (.iload_n 3, 1) := by decide +kernel
theorem dX0_keepFamilies_33 : decode cX0_keepFamilies 33 = .ok (.iaload, 1) := by decide +kernel
theorem dX0_keepFamilies_34 : decode cX0_keepFamilies 34 = .ok (.lookupswitch 59 #[(0, 26), (1, 39)], 26) := by decide +kernel
theorem dX0_keepFamilies_60 : decode cX0_keepFamilies 60 = .ok (.aload_n 0, 1) := by decide +kernel
theorem dX0_keepFamilies_61 : decode cX0_keepFamilies 61 = .ok (.getfield 11, 3) := by decide +kernel
theorem dX0_keepFamilies_64 : decode cX0_keepFamilies 64 = .ok (.iload_n 3, 1) := by decide +kernel
theorem dX0_keepFamilies_65 : decode cX0_keepFamilies 65 = .ok (.aaload, 1) := by decide +kernel
theorem dX0_keepFamilies_66 : decode cX0_keepFamilies 66 = .ok (.iload_n 2, 1) := by decide +kernel
theorem dX0_keepFamilies_67 : decode cX0_keepFamilies 67 = .ok (.bipush 100, 2) := by decide +kernel
theorem dX0_keepFamilies_69 : decode cX0_keepFamilies 69 = .ok (.iastore, 1) := by decide +kernel
theorem dX0_keepFamilies_70 : decode cX0_keepFamilies 70 = .ok (.goto 33, 3) := by decide +kernel
theorem dX0_keepFamilies_73 : decode cX0_keepFamilies 73 = .ok (.aload_n 0, 1) := by decide +kernel
theorem dX0_keepFamilies_74 : decode cX0_keepFamilies 74 = .ok (.getfield 11, 3) := by decide +kernel
theorem dX0_keepFamilies_77 : decode cX0_keepFamilies 77 = .ok (.iload_n 3, 1) := by decide +kernel
theorem dX0_keepFamilies_78 : decode cX0_keepFamilies 78 = .ok (.aaload, 1) := by decide +kernel
theorem dX0_keepFamilies_79 : decode cX0_keepFamilies 79 = .ok (.iload_n 2, 1) := by decide +kernel
theorem dX0_keepFamilies_80 : decode cX0_keepFamilies 80 = .ok (.aload_n 1, 1) := by decide +kernel
theorem dX0_keepFamilies_81 : decode cX0_keepFamilies 81 = .ok (.getfield 25, 3) := by decide +kernel
theorem dX0_keepFamilies_84 : decode cX0_keepFamilies 84 = .ok (.getfield 38, 3) := by decide +kernel
theorem dX0_keepFamilies_87 : decode cX0_keepFamilies 87 = .ok (.iload_n 3, 1) := by decide +kernel
theorem dX0_keepFamilies_88 : decode cX0_keepFamilies 88 = .ok (.iaload, 1) := by decide +kernel
theorem dX0_keepFamilies_89 : decode cX0_keepFamilies 89 = .ok (.iastore, 1) := by decide +kernel
theorem dX0_keepFamilies_90 : decode cX0_keepFamilies 90 = .ok (.goto 13, 3) := by decide +kernel
theorem dX0_keepFamilies_93 : decode cX0_keepFamilies 93 = .ok (.aload_n 0, 1) := by decide +kernel
theorem dX0_keepFamilies_94 : decode cX0_keepFamilies 94 = .ok (.getfield 11, 3) := by decide +kernel
theorem dX0_keepFamilies_97 : decode cX0_keepFamilies 97 = .ok (.iload_n 3, 1) := by decide +kernel
theorem dX0_keepFamilies_98 : decode cX0_keepFamilies 98 = .ok (.aaload, 1) := by decide +kernel
theorem dX0_keepFamilies_99 : decode cX0_keepFamilies 99 = .ok (.iload_n 2, 1) := by decide +kernel
theorem dX0_keepFamilies_100 : decode cX0_keepFamilies 100 = .ok (.bipush 101, 2) := by decide +kernel
theorem dX0_keepFamilies_102 : decode cX0_keepFamilies 102 = .ok (.iastore, 1) := by decide +kernel
theorem dX0_keepFamilies_103 : decode cX0_keepFamilies 103 = .ok (.iinc 3 1, 3) := by decide +kernel
theorem dX0_keepFamilies_106 : decode cX0_keepFamilies 106 = .ok (.goto (-99), 3) := by decide +kernel
theorem dX0_keepFamilies_109 : decode cX0_keepFamilies 109 = .ok (.return_, 1) := by decide +kernel
theorem dX0_keepSums_0 : decode cX0_keepSums 0 = .ok (.aload_n 1, 1) := by decide +kernel
theorem dX0_keepSums_1 : decode cX0_keepSums 1 = .ok (.getfield 19, 3) := by decide +kernel
theorem dX0_keepSums_4 : decode cX0_keepSums 4 = .ok (.istore_n 2, 1) := by decide +kernel
theorem dX0_keepSums_5 : decode cX0_keepSums 5 = .ok (.iconst 0, 1) := by decide +kernel
theorem dX0_keepSums_6 : decode cX0_keepSums 6 = .ok (.istore_n 3, 1) := by decide +kernel
theorem dX0_keepSums_7 : decode cX0_keepSums 7 = .ok (.iload_n 3, 1) := by decide +kernel
theorem dX0_keepSums_8 : decode cX0_keepSums 8 = .ok (.aload_n 1, 1) := by decide +kernel
theorem dX0_keepSums_9 : decode cX0_keepSums 9 = .ok (.getfield 41, 3) := by decide +kernel
theorem dX0_keepSums_12 : decode cX0_keepSums 12 = .ok (.getfield 45, 3) := by decide +kernel
theorem dX0_keepSums_15 : decode cX0_keepSums 15 = .ok (.if_icmp .ge 50, 3) := by decide +kernel
theorem dX0_keepSums_18 : decode cX0_keepSums 18 = .ok (.iload_n 2, 1) := by decide +kernel
theorem dX0_keepSums_19 : decode cX0_keepSums 19 = .ok (.sipush 200, 3) := by decide +kernel
theorem dX0_keepSums_22 : decode cX0_keepSums 22 = .ok (.if_icmp .ge 43, 3) := by decide +kernel
theorem dX0_keepSums_25 : decode cX0_keepSums 25 = .ok (.aload_n 0, 1) := by decide +kernel
theorem dX0_keepSums_26 : decode cX0_keepSums 26 = .ok (.getfield 16, 3) := by decide +kernel
theorem dX0_keepSums_29 : decode cX0_keepSums 29 = .ok (.iload_n 3, 1) := by decide +kernel
theorem dX0_keepSums_30 : decode cX0_keepSums 30 = .ok (.aaload, 1) := by decide +kernel
theorem dX0_keepSums_31 : decode cX0_keepSums 31 = .ok (.iload_n 2, 1) := by decide +kernel
theorem dX0_keepSums_32 : decode cX0_keepSums 32 = .ok (.aload_n 1, 1) := by decide +kernel
theorem dX0_keepSums_33 : decode cX0_keepSums 33 = .ok (.iload_n 3, 1) := by decide +kernel
theorem dX0_keepSums_34 : decode cX0_keepSums 34 = .ok (.invokevirtual 48, 3) := by decide +kernel
theorem dX0_keepSums_37 : decode cX0_keepSums 37 = .ok (.iastore, 1) := by decide +kernel
theorem dX0_keepSums_38 : decode cX0_keepSums 38 = .ok (.aload_n 1, 1) := by decide +kernel
theorem dX0_keepSums_39 : decode cX0_keepSums 39 = .ok (.getfield 41, 3) := by decide +kernel
theorem dX0_keepSums_42 : decode cX0_keepSums 42 = .ok (.getfield 52, 3) := by decide +kernel
theorem dX0_keepSums_45 : decode cX0_keepSums 45 = .ok (.iload_n 3, 1) := by decide +kernel
theorem dX0_keepSums_46 : decode cX0_keepSums 46 = .ok (.dup2, 1) := by decide +kernel
theorem dX0_keepSums_47 : decode cX0_keepSums 47 = .ok (.laload, 1) := by decide +kernel
theorem dX0_keepSums_48 : decode cX0_keepSums 48 = .ok (.aload_n 0, 1) := by decide +kernel
theorem dX0_keepSums_49 : decode cX0_keepSums 49 = .ok (.getfield 16, 3) := by decide +kernel
theorem dX0_keepSums_52 : decode cX0_keepSums 52 = .ok (.iload_n 3, 1) := by decide +kernel
theorem dX0_keepSums_53 : decode cX0_keepSums 53 = .ok (.aaload, 1) := by decide +kernel
theorem dX0_keepSums_54 : decode cX0_keepSums 54 = .ok (.iload_n 2, 1) := by decide +kernel
theorem dX0_keepSums_55 : decode cX0_keepSums 55 = .ok (.iaload, 1) := by decide +kernel
theorem dX0_keepSums_56 : decode cX0_keepSums 56 = .ok (.i2l, 1) := by decide +kernel
theorem dX0_keepSums_57 : decode cX0_keepSums 57 = .ok (.ladd, 1) := by decide +kernel
theorem dX0_keepSums_58 : decode cX0_keepSums 58 = .ok (.lastore, 1) := by decide +kernel
theorem dX0_keepSums_59 : decode cX0_keepSums 59 = .ok (.iinc 3 1, 3) := by decide +kernel
theorem dX0_keepSums_62 : decode cX0_keepSums 62 = .ok (.goto (-55), 3) := by decide +kernel
theorem dX0_keepSums_65 : decode cX0_keepSums 65 = .ok (.return_, 1) := by decide +kernel
theorem dX0_lodgerOf_0 : decode cX0_lodgerOf 0 = .ok (.iconst 0, 1) := by decide +kernel
theorem dX0_lodgerOf_1 : decode cX0_lodgerOf 1 = .ok (.istore 4, 2) := by decide +kernel
theorem dX0_lodgerOf_3 : decode cX0_lodgerOf 3 = .ok (.iload 4, 2) := by decide +kernel
theorem dX0_lodgerOf_5 : decode cX0_lodgerOf 5 = .ok (.aload_n 3, 1) := by decide +kernel
theorem dX0_lodgerOf_6 : decode cX0_lodgerOf 6 = .ok (.getfield 29, 3) := by decide +kernel
theorem dX0_lodgerOf_9 : decode cX0_lodgerOf 9 = .ok (.if_icmp .ge 36, 3) := by decide +kernel
theorem dX0_lodgerOf_12 : decode cX0_lodgerOf 12 = .ok (.aload_n 3, 1) := by decide +kernel
theorem dX0_lodgerOf_13 : decode cX0_lodgerOf 13 = .ok (.getfield 55, 3) := by decide +kernel
theorem dX0_lodgerOf_16 : decode cX0_lodgerOf 16 = .ok (.iload 4, 2) := by decide +kernel
theorem dX0_lodgerOf_18 : decode cX0_lodgerOf 18 = .ok (.iaload, 1) := by decide +kernel
theorem dX0_lodgerOf_19 : decode cX0_lodgerOf 19 = .ok (.iload_n 2, 1) := by decide +kernel
theorem dX0_lodgerOf_20 : decode cX0_lodgerOf 20 = .ok (.if_icmp .gt 19, 3) := by decide +kernel
theorem dX0_lodgerOf_23 : decode cX0_lodgerOf 23 = .ok (.aload_n 0, 1) := by decide +kernel
theorem dX0_lodgerOf_24 : decode cX0_lodgerOf 24 = .ok (.getfield 11, 3) := by decide +kernel
theorem dX0_lodgerOf_27 : decode cX0_lodgerOf 27 = .ok (.iload 4, 2) := by decide +kernel
theorem dX0_lodgerOf_29 : decode cX0_lodgerOf 29 = .ok (.aaload, 1) := by decide +kernel
theorem dX0_lodgerOf_30 : decode cX0_lodgerOf 30 = .ok (.iload_n 2, 1) := by decide +kernel
theorem dX0_lodgerOf_31 : decode cX0_lodgerOf 31 = .ok (.iaload, 1) := by decide +kernel
theorem dX0_lodgerOf_32 : decode cX0_lodgerOf 32 = .ok (.iload_n 1, 1) := by decide +kernel
theorem dX0_lodgerOf_33 : decode cX0_lodgerOf 33 = .ok (.if_icmp .ne 6, 3) := by decide +kernel
theorem dX0_lodgerOf_36 : decode cX0_lodgerOf 36 = .ok (.iload 4, 2) := by decide +kernel
theorem dX0_lodgerOf_38 : decode cX0_lodgerOf 38 = .ok (.ireturn, 1) := by decide +kernel
theorem dX0_lodgerOf_39 : decode cX0_lodgerOf 39 = .ok (.iinc 4 1, 3) := by decide +kernel
theorem dX0_lodgerOf_42 : decode cX0_lodgerOf 42 = .ok (.goto (-39), 3) := by decide +kernel
theorem dX0_lodgerOf_45 : decode cX0_lodgerOf 45 = .ok (.iconst (-1), 1) := by decide +kernel
theorem dX0_lodgerOf_46 : decode cX0_lodgerOf 46 = .ok (.ireturn, 1) := by decide +kernel
theorem dX0_numberOf_0 : decode cX0_numberOf 0 = .ok (.iload_n 2, 1) := by decide +kernel
theorem dX0_numberOf_1 : decode cX0_numberOf 1 = .ok (.iconst 4, 1) := by decide +kernel
theorem dX0_numberOf_2 : decode cX0_numberOf 2 = .ok (.if_icmp .ne 9, 3) := by decide +kernel
theorem dX0_numberOf_5 : decode cX0_numberOf 5 = .ok (.aload_n 0, 1) := by decide +kernel
theorem dX0_numberOf_6 : decode cX0_numberOf 6 = .ok (.iload_n 1, 1) := by decide +kernel
theorem dX0_numberOf_7 : decode cX0_numberOf 7 = .ok (.invokevirtual 58, 3) := by decide +kernel
theorem dX0_numberOf_10 : decode cX0_numberOf 10 = .ok (.ireturn, 1) := by decide +kernel
theorem dX0_numberOf_11 : decode cX0_numberOf 11 = .ok (.iconst 0, 1) := by decide +kernel
theorem dX0_numberOf_12 : decode cX0_numberOf 12 = .ok (.istore 4, 2) := by decide +kernel
theorem dX0_numberOf_14 : decode cX0_numberOf 14 = .ok (.iconst 0, 1) := by decide +kernel
theorem dX0_numberOf_15 : decode cX0_numberOf 15 = .ok (.istore 5, 2) := by decide +kernel
theorem dX0_numberOf_17 : decode cX0_numberOf 17 = .ok (.iload 5, 2) := by decide +kernel
theorem dX0_numberOf_19 : decode cX0_numberOf 19 = .ok (.aload_n 3, 1) := by decide +kernel
theorem dX0_numberOf_20 : decode cX0_numberOf 20 = .ok (.getfield 29, 3) := by decide +kernel
theorem dX0_numberOf_23 : decode cX0_numberOf 23 = .ok (.if_icmp .ge 48, 3) := by decide +kernel
theorem dX0_numberOf_26 : decode cX0_numberOf 26 = .ok (.aload_n 3, 1) := by decide +kernel
theorem dX0_numberOf_27 : decode cX0_numberOf 27 = .ok (.getfield 55, 3) := by decide +kernel
theorem dX0_numberOf_30 : decode cX0_numberOf 30 = .ok (.iload 5, 2) := by decide +kernel
theorem dX0_numberOf_32 : decode cX0_numberOf 32 = .ok (.iaload, 1) := by decide +kernel
theorem dX0_numberOf_33 : decode cX0_numberOf 33 = .ok (.iload_n 1, 1) := by decide +kernel
theorem dX0_numberOf_34 : decode cX0_numberOf 34 = .ok (.if_icmp .gt 31, 3) := by decide +kernel
theorem dX0_numberOf_37 : decode cX0_numberOf 37 = .ok (.iload_n 2, 1) := by decide +kernel
theorem dX0_numberOf_38 : decode cX0_numberOf 38 = .ok (.iconst 3, 1) := by decide +kernel
theorem dX0_numberOf_39 : decode cX0_numberOf 39 = .ok (.if_icmp .eq 14, 3) := by decide +kernel
theorem dX0_numberOf_42 : decode cX0_numberOf 42 = .ok (.aload_n 0, 1) := by decide +kernel
theorem dX0_numberOf_43 : decode cX0_numberOf 43 = .ok (.iload 5, 2) := by decide +kernel
theorem dX0_numberOf_45 : decode cX0_numberOf 45 = .ok (.iload_n 1, 1) := by decide +kernel
theorem dX0_numberOf_46 : decode cX0_numberOf 46 = .ok (.invokevirtual 61, 3) := by decide +kernel
theorem dX0_numberOf_49 : decode cX0_numberOf 49 = .ok (.iload_n 2, 1) := by decide +kernel
theorem dX0_numberOf_50 : decode cX0_numberOf 50 = .ok (.if_icmp .ne 15, 3) := by decide +kernel
theorem dX0_numberOf_53 : decode cX0_numberOf 53 = .ok (.iload 4, 2) := by decide +kernel
theorem dX0_numberOf_55 : decode cX0_numberOf 55 = .ok (.aload_n 3, 1) := by decide +kernel
theorem dX0_numberOf_56 : decode cX0_numberOf 56 = .ok (.getfield 65, 3) := by decide +kernel
theorem dX0_numberOf_59 : decode cX0_numberOf 59 = .ok (.iload 5, 2) := by decide +kernel
theorem dX0_numberOf_61 : decode cX0_numberOf 61 = .ok (.iaload, 1) := by decide +kernel
theorem dX0_numberOf_62 : decode cX0_numberOf 62 = .ok (.iadd, 1) := by decide +kernel
theorem dX0_numberOf_63 : decode cX0_numberOf 63 = .ok (.istore 4, 2) := by decide +kernel
theorem dX0_numberOf_65 : decode cX0_numberOf 65 = .ok (.iinc 5 1, 3) := by decide +kernel
theorem dX0_numberOf_68 : decode cX0_numberOf 68 = .ok (.goto (-51), 3) := by decide +kernel
theorem dX0_numberOf_71 : decode cX0_numberOf 71 = .ok (.iload 4, 2) := by decide +kernel
theorem dX0_numberOf_73 : decode cX0_numberOf 73 = .ok (.ireturn, 1) := by decide +kernel
theorem dX0_stateOn_0 : decode cX0_stateOn 0 = .ok (.aload_n 0, 1) := by decide +kernel
theorem dX0_stateOn_1 : decode cX0_stateOn 1 = .ok (.getfield 11, 3) := by decide +kernel
theorem dX0_stateOn_4 : decode cX0_stateOn 4 = .ok (.iload_n 1, 1) := by decide +kernel
theorem dX0_stateOn_5 : decode cX0_stateOn 5 = .ok (.aaload, 1) := by decide +kernel
theorem dX0_stateOn_6 : decode cX0_stateOn 6 = .ok (.iload_n 2, 1) := by decide +kernel
theorem dX0_stateOn_7 : decode cX0_stateOn 7 = .ok (.iaload, 1) := by decide +kernel
theorem dX0_stateOn_8 : decode cX0_stateOn 8 = .ok (.lookupswitch 32 #[(100, 28), (101, 30)], 28) := by decide +kernel
theorem dX0_stateOn_36 : decode cX0_stateOn 36 = .ok (.iconst 0, 1) := by decide +kernel
theorem dX0_stateOn_37 : decode cX0_stateOn 37 = .ok (.ireturn, 1) := by decide +kernel
theorem dX0_stateOn_38 : decode cX0_stateOn 38 = .ok (.iconst 2, 1) := by decide +kernel
theorem dX0_stateOn_39 : decode cX0_stateOn 39 = .ok (.ireturn, 1) := by decide +kernel
theorem dX0_stateOn_40 : decode cX0_stateOn 40 = .ok (.iconst 1, 1) := by decide +kernel
theorem dX0_stateOn_41 : decode cX0_stateOn 41 = .ok (.ireturn, 1) := by decide +kernel
theorem dX0_sumOfTowns_0 : decode cX0_sumOfTowns 0 = .ok (.iconst 0, 1) := by decide +kernel
theorem dX0_sumOfTowns_1 : decode cX0_sumOfTowns 1 = .ok (.istore_n 2, 1) := by decide +kernel
theorem dX0_sumOfTowns_2 : decode cX0_sumOfTowns 2 = .ok (.iconst 0, 1) := by decide +kernel
theorem dX0_sumOfTowns_3 : decode cX0_sumOfTowns 3 = .ok (.istore_n 3, 1) := by decide +kernel
theorem dX0_sumOfTowns_4 : decode cX0_sumOfTowns 4 = .ok (.iload_n 3, 1) := by decide +kernel
theorem dX0_sumOfTowns_5 : decode cX0_sumOfTowns 5 = .ok (.bipush 8, 2) := by decide +kernel
theorem dX0_sumOfTowns_7 : decode cX0_sumOfTowns 7 = .ok (.if_icmp .ge 20, 3) := by decide +kernel
theorem dX0_sumOfTowns_10 : decode cX0_sumOfTowns 10 = .ok (.iload_n 2, 1) := by decide +kernel
theorem dX0_sumOfTowns_11 : decode cX0_sumOfTowns 11 = .ok (.aload_n 0, 1) := by decide +kernel
theorem dX0_sumOfTowns_12 : decode cX0_sumOfTowns 12 = .ok (.getfield 16, 3) := by decide +kernel
theorem dX0_sumOfTowns_15 : decode cX0_sumOfTowns 15 = .ok (.iload_n 3, 1) := by decide +kernel
theorem dX0_sumOfTowns_16 : decode cX0_sumOfTowns 16 = .ok (.aaload, 1) := by decide +kernel
theorem dX0_sumOfTowns_17 : decode cX0_sumOfTowns 17 = .ok (.iload_n 1, 1) := by decide +kernel
theorem dX0_sumOfTowns_18 : decode cX0_sumOfTowns 18 = .ok (.iaload, 1) := by decide +kernel
theorem dX0_sumOfTowns_19 : decode cX0_sumOfTowns 19 = .ok (.iadd, 1) := by decide +kernel
theorem dX0_sumOfTowns_20 : decode cX0_sumOfTowns 20 = .ok (.istore_n 2, 1) := by decide +kernel
theorem dX0_sumOfTowns_21 : decode cX0_sumOfTowns 21 = .ok (.iinc 3 1, 3) := by decide +kernel
theorem dX0_sumOfTowns_24 : decode cX0_sumOfTowns 24 = .ok (.goto (-20), 3) := by decide +kernel
theorem dX0_sumOfTowns_27 : decode cX0_sumOfTowns 27 = .ok (.iload_n 2, 1) := by decide +kernel
theorem dX0_sumOfTowns_28 : decode cX0_sumOfTowns 28 = .ok (.ireturn, 1) := by decide +kernel
theorem dX0_checked_0 : decode cX0_checked 0 = .ok (.aload_n 0, 1) := by decide +kernel
theorem dX0_checked_1 : decode cX0_checked 1 = .ok (.iload_n 1, 1) := by decide +kernel
theorem dX0_checked_2 : decode cX0_checked 2 = .ok (.iconst 0, 1) := by decide +kernel
theorem dX0_checked_3 : decode cX0_checked 3 = .ok (.iload_n 2, 1) := by decide +kernel
theorem dX0_checked_4 : decode cX0_checked 4 = .ok (.iload_n 3, 1) := by decide +kernel
theorem dX0_checked_5 : decode cX0_checked 5 = .ok (.aload 4, 2) := by decide +kernel
theorem dX0_checked_7 : decode cX0_checked 7 = .ok (.invokevirtual 68, 3) := by decide +kernel
theorem dX0_checked_10 : decode cX0_checked 10 = .ok (.istore 5, 2) := by decide +kernel
theorem dX0_checked_12 : decode cX0_checked 12 = .ok (.aload_n 0, 1) := by decide +kernel
theorem dX0_checked_13 : decode cX0_checked 13 = .ok (.iload_n 1, 1) := by decide +kernel
theorem dX0_checked_14 : decode cX0_checked 14 = .ok (.iconst 1, 1) := by decide +kernel
theorem dX0_checked_15 : decode cX0_checked 15 = .ok (.iload_n 2, 1) := by decide +kernel
theorem dX0_checked_16 : decode cX0_checked 16 = .ok (.iload_n 3, 1) := by decide +kernel
theorem dX0_checked_17 : decode cX0_checked 17 = .ok (.aload 4, 2) := by decide +kernel
theorem dX0_checked_19 : decode cX0_checked 19 = .ok (.invokevirtual 68, 3) := by decide +kernel
theorem dX0_checked_22 : decode cX0_checked 22 = .ok (.istore 6, 2) := by decide +kernel
theorem dX0_checked_24 : decode cX0_checked 24 = .ok (.aload_n 0, 1) := by decide +kernel
theorem dX0_checked_25 : decode cX0_checked 25 = .ok (.iload_n 1, 1) := by decide +kernel
theorem dX0_checked_26 : decode cX0_checked 26 = .ok (.iconst 2, 1) := by decide +kernel
theorem dX0_checked_27 : decode cX0_checked 27 = .ok (.iload_n 2, 1) := by decide +kernel
theorem dX0_checked_28 : decode cX0_checked 28 = .ok (.iload_n 3, 1) := by decide +kernel
theorem dX0_checked_29 : decode cX0_checked 29 = .ok (.aload 4, 2) := by decide +kernel
theorem dX0_checked_31 : decode cX0_checked 31 = .ok (.invokevirtual 68, 3) := by decide +kernel
theorem dX0_checked_34 : decode cX0_checked 34 = .ok (.istore 7, 2) := by decide +kernel
theorem dX0_checked_36 : decode cX0_checked 36 = .ok (.iload 5, 2) := by decide +kernel
theorem dX0_checked_38 : decode cX0_checked 38 = .ok (.iload 6, 2) := by decide +kernel
theorem dX0_checked_40 : decode cX0_checked 40 = .ok (.iadd, 1) := by decide +kernel
theorem dX0_checked_41 : decode cX0_checked 41 = .ok (.iload 7, 2) := by decide +kernel
theorem dX0_checked_43 : decode cX0_checked 43 = .ok (.iadd, 1) := by decide +kernel
theorem dX0_checked_44 : decode cX0_checked 44 = .ok (.aload_n 0, 1) := by decide +kernel
theorem dX0_checked_45 : decode cX0_checked 45 = .ok (.iload_n 1, 1) := by decide +kernel
theorem dX0_checked_46 : decode cX0_checked 46 = .ok (.iconst 3, 1) := by decide +kernel
theorem dX0_checked_47 : decode cX0_checked 47 = .ok (.iload_n 2, 1) := by decide +kernel
theorem dX0_checked_48 : decode cX0_checked 48 = .ok (.iload_n 3, 1) := by decide +kernel
theorem dX0_checked_49 : decode cX0_checked 49 = .ok (.aload 4, 2) := by decide +kernel
theorem dX0_checked_51 : decode cX0_checked 51 = .ok (.invokevirtual 68, 3) := by decide +kernel
theorem dX0_checked_54 : decode cX0_checked 54 = .ok (.if_icmp .eq 5, 3) := by decide +kernel
theorem dX0_checked_57 : decode cX0_checked 57 = .ok (.iconst 1, 1) := by decide +kernel
theorem dX0_checked_58 : decode cX0_checked 58 = .ok (.ireturn, 1) := by decide +kernel
theorem dX0_checked_59 : decode cX0_checked 59 = .ok (.aload_n 0, 1) := by decide +kernel
theorem dX0_checked_60 : decode cX0_checked 60 = .ok (.iload_n 1, 1) := by decide +kernel
theorem dX0_checked_61 : decode cX0_checked 61 = .ok (.iconst 4, 1) := by decide +kernel
theorem dX0_checked_62 : decode cX0_checked 62 = .ok (.iload_n 2, 1) := by decide +kernel
theorem dX0_checked_63 : decode cX0_checked 63 = .ok (.iload_n 3, 1) := by decide +kernel
theorem dX0_checked_64 : decode cX0_checked 64 = .ok (.aload 4, 2) := by decide +kernel
theorem dX0_checked_66 : decode cX0_checked 66 = .ok (.invokevirtual 68, 3) := by decide +kernel
theorem dX0_checked_69 : decode cX0_checked 69 = .ok (.aload_n 0, 1) := by decide +kernel
theorem dX0_checked_70 : decode cX0_checked 70 = .ok (.iload_n 1, 1) := by decide +kernel
theorem dX0_checked_71 : decode cX0_checked 71 = .ok (.invokevirtual 58, 3) := by decide +kernel
theorem dX0_checked_74 : decode cX0_checked 74 = .ok (.if_icmp .eq 7, 3) := by decide +kernel
theorem dX0_checked_77 : decode cX0_checked 77 = .ok (.iconst 2, 1) := by decide +kernel
theorem dX0_checked_78 : decode cX0_checked 78 = .ok (.goto 4, 3) := by decide +kernel
theorem dX0_checked_81 : decode cX0_checked 81 = .ok (.iconst 0, 1) := by decide +kernel
theorem dX0_checked_82 : decode cX0_checked 82 = .ok (.ireturn, 1) := by decide +kernel
theorem dX0_altered_0 : decode cX0_altered 0 = .ok (.aload_n 0, 1) := by decide +kernel
theorem dX0_altered_1 : decode cX0_altered 1 = .ok (.iload_n 1, 1) := by decide +kernel
theorem dX0_altered_2 : decode cX0_altered 2 = .ok (.iload_n 2, 1) := by decide +kernel
theorem dX0_altered_3 : decode cX0_altered 3 = .ok (.aload 5, 2) := by decide +kernel
theorem dX0_altered_5 : decode cX0_altered 5 = .ok (.invokevirtual 72, 3) := by decide +kernel
theorem dX0_altered_8 : decode cX0_altered 8 = .ok (.istore 6, 2) := by decide +kernel
theorem dX0_altered_10 : decode cX0_altered 10 = .ok (.iload_n 2, 1) := by decide +kernel
theorem dX0_altered_11 : decode cX0_altered 11 = .ok (.iload_n 3, 1) := by decide +kernel
theorem dX0_altered_12 : decode cX0_altered 12 = .ok (.if_icmp .ne 11, 3) := by decide +kernel
theorem dX0_altered_15 : decode cX0_altered 15 = .ok (.iload 6, 2) := by decide +kernel
theorem dX0_altered_17 : decode cX0_altered 17 = .ok (.iload 4, 2) := by decide +kernel
theorem dX0_altered_19 : decode cX0_altered 19 = .ok (.ixor, 1) := by decide +kernel
theorem dX0_altered_20 : decode cX0_altered 20 = .ok (.goto 5, 3) := by decide +kernel
theorem dX0_altered_23 : decode cX0_altered 23 = .ok (.iload 6, 2) := by decide +kernel
theorem dX0_altered_25 : decode cX0_altered 25 = .ok (.ireturn, 1) := by decide +kernel
theorem dX1_init_0 : decode cX1_init 0 = .ok (.aload_n 0, 1) := by decide +kernel
theorem dX1_init_1 : decode cX1_init 1 = .ok (.invokespecial 3, 3) := by decide +kernel
theorem dX1_init_4 : decode cX1_init 4 = .ok (.aload_n 0, 1) := by decide +kernel
theorem dX1_init_5 : decode cX1_init 5 = .ok (.bipush 6, 2) := by decide +kernel
theorem dX1_init_7 : decode cX1_init 7 = .ok (.newarray .int, 2) := by decide +kernel
theorem dX1_init_9 : decode cX1_init 9 = .ok (.putfield 9, 3) := by decide +kernel
theorem dX1_init_12 : decode cX1_init 12 = .ok (.aload_n 0, 1) := by decide +kernel
theorem dX1_init_13 : decode cX1_init 13 = .ok (.bipush 6, 2) := by decide +kernel
theorem dX1_init_15 : decode cX1_init 15 = .ok (.newarray .int, 2) := by decide +kernel
theorem dX1_init_17 : decode cX1_init 17 = .ok (.putfield 15, 3) := by decide +kernel
theorem dX1_init_20 : decode cX1_init 20 = .ok (.aload_n 0, 1) := by decide +kernel
theorem dX1_init_21 : decode cX1_init 21 = .ok (.bipush 6, 2) := by decide +kernel
theorem dX1_init_23 : decode cX1_init 23 = .ok (.newarray .int, 2) := by decide +kernel
theorem dX1_init_25 : decode cX1_init 25 = .ok (.putfield 18, 3) := by decide +kernel
theorem dX1_init_28 : decode cX1_init 28 = .ok (.aload_n 0, 1) := by decide +kernel
theorem dX1_init_29 : decode cX1_init 29 = .ok (.bipush 6, 2) := by decide +kernel
theorem dX1_init_31 : decode cX1_init 31 = .ok (.newarray .int, 2) := by decide +kernel
theorem dX1_init_33 : decode cX1_init 33 = .ok (.putfield 21, 3) := by decide +kernel
theorem dX1_init_36 : decode cX1_init 36 = .ok (.aload_n 0, 1) := by decide +kernel
theorem dX1_init_37 : decode cX1_init 37 = .ok (.bipush 6, 2) := by decide +kernel
theorem dX1_init_39 : decode cX1_init 39 = .ok (.newarray .int, 2) := by decide +kernel
theorem dX1_init_41 : decode cX1_init 41 = .ok (.putfield 24, 3) := by decide +kernel
theorem dX1_init_44 : decode cX1_init 44 = .ok (.aload_n 0, 1) := by decide +kernel
theorem dX1_init_45 : decode cX1_init 45 = .ok (.bipush 7, 2) := by decide +kernel
theorem dX1_init_47 : decode cX1_init 47 = .ok (.newarray .int, 2) := by decide +kernel
theorem dX1_init_49 : decode cX1_init 49 = .ok (.putfield 27, 3) := by decide +kernel
theorem dX1_init_52 : decode cX1_init 52 = .ok (.aload_n 0, 1) := by decide +kernel
theorem dX1_init_53 : decode cX1_init 53 = .ok (.bipush 7, 2) := by decide +kernel
theorem dX1_init_55 : decode cX1_init 55 = .ok (.newarray .int, 2) := by decide +kernel
theorem dX1_init_57 : decode cX1_init 57 = .ok (.putfield 30, 3) := by decide +kernel
theorem dX1_init_60 : decode cX1_init 60 = .ok (.aload_n 0, 1) := by decide +kernel
theorem dX1_init_61 : decode cX1_init 61 = .ok (.bipush 7, 2) := by decide +kernel
theorem dX1_init_63 : decode cX1_init 63 = .ok (.newarray .int, 2) := by decide +kernel
theorem dX1_init_65 : decode cX1_init 65 = .ok (.putfield 33, 3) := by decide +kernel
theorem dX1_init_68 : decode cX1_init 68 = .ok (.aload_n 0, 1) := by decide +kernel
theorem dX1_init_69 : decode cX1_init 69 = .ok (.aload_n 1, 1) := by decide +kernel
theorem dX1_init_70 : decode cX1_init 70 = .ok (.putfield 36, 3) := by decide +kernel
theorem dX1_init_73 : decode cX1_init 73 = .ok (.return_, 1) := by decide +kernel
theorem dX1_takes_0 : decode cX1_takes 0 = .ok (.aload_n 0, 1) := by decide +kernel
theorem dX1_takes_1 : decode cX1_takes 1 = .ok (.iload_n 1, 1) := by decide +kernel
theorem dX1_takes_2 : decode cX1_takes 2 = .ok (.aload_n 0, 1) := by decide +kernel
theorem dX1_takes_3 : decode cX1_takes 3 = .ok (.getfield 36, 3) := by decide +kernel
theorem dX1_takes_6 : decode cX1_takes 6 = .ok (.getfield 40, 3) := by decide +kernel
theorem dX1_takes_9 : decode cX1_takes 9 = .ok (.getfield 46, 3) := by decide +kernel
theorem dX1_takes_12 : decode cX1_takes 12 = .ok (.aload_n 0, 1) := by decide +kernel
theorem dX1_takes_13 : decode cX1_takes 13 = .ok (.getfield 15, 3) := by decide +kernel
theorem dX1_takes_16 : decode cX1_takes 16 = .ok (.invokestatic 52, 3) := by decide +kernel
theorem dX1_takes_19 : decode cX1_takes 19 = .ok (.putfield 56, 3) := by decide +kernel
theorem dX1_takes_22 : decode cX1_takes 22 = .ok (.aload_n 0, 1) := by decide +kernel
theorem dX1_takes_23 : decode cX1_takes 23 = .ok (.iload_n 2, 1) := by decide +kernel
theorem dX1_takes_24 : decode cX1_takes 24 = .ok (.aload_n 0, 1) := by decide +kernel
theorem dX1_takes_25 : decode cX1_takes 25 = .ok (.getfield 36, 3) := by decide +kernel
theorem dX1_takes_28 : decode cX1_takes 28 = .ok (.getfield 58, 3) := by decide +kernel
theorem dX1_takes_31 : decode cX1_takes 31 = .ok (.getfield 62, 3) := by decide +kernel
theorem dX1_takes_34 : decode cX1_takes 34 = .ok (.aload_n 0, 1) := by decide +kernel
theorem dX1_takes_35 : decode cX1_takes 35 = .ok (.getfield 18, 3) := by decide +kernel
theorem dX1_takes_38 : decode cX1_takes 38 = .ok (.invokestatic 52, 3) := by decide +kernel
theorem dX1_takes_41 : decode cX1_takes 41 = .ok (.putfield 65, 3) := by decide +kernel
theorem dX1_takes_44 : decode cX1_takes 44 = .ok (.aload_n 0, 1) := by decide +kernel
theorem dX1_takes_45 : decode cX1_takes 45 = .ok (.iload_n 1, 1) := by decide +kernel
theorem dX1_takes_46 : decode cX1_takes 46 = .ok (.putfield 67, 3) := by decide +kernel
theorem dX1_takes_49 : decode cX1_takes 49 = .ok (.iconst 0, 1) := by decide +kernel
theorem dX1_takes_50 : decode cX1_takes 50 = .ok (.istore_n 3, 1) := by decide +kernel
theorem dX1_takes_51 : decode cX1_takes 51 = .ok (.iload_n 3, 1) := by decide +kernel
theorem dX1_takes_52 : decode cX1_takes 52 = .ok (.aload_n 0, 1) := by decide +kernel
theorem dX1_takes_53 : decode cX1_takes 53 = .ok (.getfield 56, 3) := by decide +kernel
theorem dX1_takes_56 : decode cX1_takes 56 = .ok (.if_icmp .ge 27, 3) := by decide +kernel
theorem dX1_takes_59 : decode cX1_takes 59 = .ok (.aload_n 0, 1) := by decide +kernel
theorem dX1_takes_60 : decode cX1_takes 60 = .ok (.getfield 36, 3) := by decide +kernel
theorem dX1_takes_63 : decode cX1_takes 63 = .ok (.aload_n 0, 1) := by decide +kernel
theorem dX1_takes_64 : decode cX1_takes 64 = .ok (.getfield 15, 3) := by decide +kernel
theorem dX1_takes_67 : decode cX1_takes 67 = .ok (.iload_n 3, 1) := by decide +kernel
theorem dX1_takes_68 : decode cX1_takes 68 = .ok (.iaload, 1) := by decide +kernel
theorem dX1_takes_69 : decode cX1_takes 69 = .ok (.invokevirtual 70, 3) := by decide +kernel
theorem dX1_takes_72 : decode cX1_takes 72 = .ok (.ifCond .ne 5, 3) := by decide +kernel
theorem dX1_takes_75 : decode cX1_takes 75 = .ok (.iconst 0, 1) := by decide +kernel
theorem dX1_takes_76 : decode cX1_takes 76 = .ok (.ireturn, 1) := by decide +kernel
theorem dX1_takes_77 : decode cX1_takes 77 = .ok (.iinc 3 1, 3) := by decide +kernel
theorem dX1_takes_80 : decode cX1_takes 80 = .ok (.goto (-29), 3) := by decide +kernel
theorem dX1_takes_83 : decode cX1_takes 83 = .ok (.aload_n 0, 1) := by decide +kernel
theorem dX1_takes_84 : decode cX1_takes 84 = .ok (.getfield 56, 3) := by decide +kernel
theorem dX1_takes_87 : decode cX1_takes 87 = .ok (.ifCond .le 14, 3) := by decide +kernel
theorem dX1_takes_90 : decode cX1_takes 90 = .ok (.aload_n 0, 1) := by decide +kernel
theorem dX1_takes_91 : decode cX1_takes 91 = .ok (.getfield 65, 3) := by decide +kernel
theorem dX1_takes_94 : decode cX1_takes 94 = .ok (.ifCond .le 7, 3) := by decide +kernel
theorem dX1_takes_97 : decode cX1_takes 97 = .ok (.iconst 1, 1) := by decide +kernel
theorem dX1_takes_98 : decode cX1_takes 98 = .ok (.goto 4, 3) := by decide +kernel
theorem dX1_takes_101 : decode cX1_takes 101 = .ok (.iconst 0, 1) := by decide +kernel
theorem dX1_takes_102 : decode cX1_takes 102 = .ok (.ireturn, 1) := by decide +kernel
theorem dX1_unpacked_0 : decode cX1_unpacked 0 = .ok (.iload_n 0, 1) := by decide +kernel
theorem dX1_unpacked_1 : decode cX1_unpacked 1 = .ok (.iload_n 1, 1) := by decide +kernel
theorem dX1_unpacked_2 : decode cX1_unpacked 2 = .ok (.iushr, 1) := by decide +kernel
theorem dX1_unpacked_3 : decode cX1_unpacked 3 = .ok (.ifCond .ne 12, 3) := by decide +kernel
theorem dX1_unpacked_6 : decode cX1_unpacked 6 = .ok (.iload_n 0, 1) := by decide +kernel
theorem dX1_unpacked_7 : decode cX1_unpacked 7 = .ok (.invokestatic 74, 3) := by decide +kernel
theorem dX1_unpacked_10 : decode cX1_unpacked 10 = .ok (.aload_n 2, 1) := by decide +kernel
theorem dX1_unpacked_11 : decode cX1_unpacked 11 = .ok (.arraylength, 1) := by decide +kernel
theorem dX1_unpacked_12 : decode cX1_unpacked 12 = .ok (.if_icmp .le 5, 3) := by decide +kernel
theorem dX1_unpacked_15 : decode cX1_unpacked 15 = .ok (.iconst 0, 1) := by decide +kernel
theorem dX1_unpacked_16 : decode cX1_unpacked 16 = .ok (.ireturn, 1) := by decide +kernel
theorem dX1_unpacked_17 : decode cX1_unpacked 17 = .ok (.iconst 0, 1) := by decide +kernel
theorem dX1_unpacked_18 : decode cX1_unpacked 18 = .ok (.istore_n 3, 1) := by decide +kernel
theorem dX1_unpacked_19 : decode cX1_unpacked 19 = .ok (.iconst 0, 1) := by decide +kernel
theorem dX1_unpacked_20 : decode cX1_unpacked 20 = .ok (.istore 4, 2) := by decide +kernel
theorem dX1_unpacked_22 : decode cX1_unpacked 22 = .ok (.iload 4, 2) := by decide +kernel
theorem dX1_unpacked_24 : decode cX1_unpacked 24 = .ok (.iload_n 1, 1) := by decide +kernel
theorem dX1_unpacked_25 : decode cX1_unpacked 25 = .ok (.if_icmp .ge 33, 3) := by decide +kernel
theorem dX1_unpacked_28 : decode cX1_unpacked 28 = .ok (.iload_n 3, 1) := by decide +kernel
theorem dX1_unpacked_29 : decode cX1_unpacked 29 = .ok (.aload_n 2, 1) := by decide +kernel
theorem dX1_unpacked_30 : decode cX1_unpacked 30 = .ok (.arraylength, 1) := by decide +kernel
theorem dX1_unpacked_31 : decode cX1_unpacked 31 = .ok (.if_icmp .ge 27, 3) := by decide +kernel
theorem dX1_unpacked_34 : decode cX1_unpacked 34 = .ok (.iload_n 0, 1) := by decide +kernel
theorem dX1_unpacked_35 : decode cX1_unpacked 35 = .ok (.iload 4, 2) := by decide +kernel
theorem dX1_unpacked_37 : decode cX1_unpacked 37 = .ok (.ishr, 1) := by decide +kernel
theorem dX1_unpacked_38 : decode cX1_unpacked 38 = .ok (.iconst 1, 1) := by decide +kernel
theorem dX1_unpacked_39 : decode cX1_unpacked 39 = .ok (.iand, 1) := by decide +kernel
theorem dX1_unpacked_40 : decode cX1_unpacked 40 = .ok (.iconst 1, 1) := by decide +kernel
theorem dX1_unpacked_41 : decode cX1_unpacked 41 = .ok (.if_icmp .ne 11, 3) := by decide +kernel
theorem dX1_unpacked_44 : decode cX1_unpacked 44 = .ok (.aload_n 2, 1) := by decide +kernel
theorem dX1_unpacked_45 : decode cX1_unpacked 45 = .ok (.iload_n 3, 1) := by decide +kernel
theorem dX1_unpacked_46 : decode cX1_unpacked 46 = .ok (.iload 4, 2) := by decide +kernel
theorem dX1_unpacked_48 : decode cX1_unpacked 48 = .ok (.iastore, 1) := by decide +kernel
theorem dX1_unpacked_49 : decode cX1_unpacked 49 = .ok (.iinc 3 1, 3) := by decide +kernel
theorem dX1_unpacked_52 : decode cX1_unpacked 52 = .ok (.iinc 4 1, 3) := by decide +kernel
theorem dX1_unpacked_55 : decode cX1_unpacked 55 = .ok (.goto (-33), 3) := by decide +kernel
theorem dX1_unpacked_58 : decode cX1_unpacked 58 = .ok (.iload_n 3, 1) := by decide +kernel
theorem dX1_unpacked_59 : decode cX1_unpacked 59 = .ok (.ireturn, 1) := by decide +kernel
theorem dX1_search_0 : decode cX1_search 0 = .ok (.iconst 0, 1) := by decide +kernel
theorem dX1_search_1 : decode cX1_search 1 = .ok (.istore_n 1, 1) := by decide +kernel
theorem dX1_search_2 : decode cX1_search 2 = .ok (.iload_n 1, 1) := by decide +kernel
theorem dX1_search_3 : decode cX1_search 3 = .ok (.aload_n 0, 1) := by decide +kernel
theorem dX1_search_4 : decode cX1_search 4 = .ok (.getfield 56, 3) := by decide +kernel
theorem dX1_search_7 : decode cX1_search 7 = .ok (.if_icmp .ge 45, 3) := by decide +kernel
theorem dX1_search_10 : decode cX1_search 10 = .ok (.aload_n 0, 1) := by decide +kernel
theorem dX1_search_11 : decode cX1_search 11 = .ok (.getfield 21, 3) := by decide +kernel
theorem dX1_search_14 : decode cX1_search 14 = .ok (.iload_n 1, 1) := by decide +kernel
theorem dX1_search_15 : decode cX1_search 15 = .ok (.aload_n 0, 1) := by decide +kernel
theorem dX1_search_16 : decode cX1_search 16 = .ok (.getfield 36, 3) := by decide +kernel
theorem dX1_search_19 : decode cX1_search 19 = .ok (.getfield 40, 3) := by decide +kernel
theorem dX1_search_22 : decode cX1_search 22 = .ok (.getfield 80, 3) := by decide +kernel
theorem dX1_search_25 : decode cX1_search 25 = .ok (.aload_n 0, 1) := by decide +kernel
theorem dX1_search_26 : decode cX1_search 26 = .ok (.getfield 15, 3) := by decide +kernel
theorem dX1_search_29 : decode cX1_search 29 = .ok (.iload_n 1, 1) := by decide +kernel
theorem dX1_search_30 : decode cX1_search 30 = .ok (.iaload, 1) := by decide +kernel
theorem dX1_search_31 : decode cX1_search 31 = .ok (.iaload, 1) := by decide +kernel
theorem dX1_search_32 : decode cX1_search 32 = .ok (.iastore, 1) := by decide +kernel
theorem dX1_search_33 : decode cX1_search 33 = .ok (.aload_n 0, 1) := by decide +kernel
theorem dX1_search_34 : decode cX1_search 34 = .ok (.getfield 36, 3) := by decide +kernel
theorem dX1_search_37 : decode cX1_search 37 = .ok (.aload_n 0, 1) := by decide +kernel
theorem dX1_search_38 : decode cX1_search 38 = .ok (.getfield 15, 3) := by decide +kernel
theorem dX1_search_41 : decode cX1_search 41 = .ok (.iload_n 1, 1) := by decide +kernel
theorem dX1_search_42 : decode cX1_search 42 = .ok (.iaload, 1) := by decide +kernel
theorem dX1_search_43 : decode cX1_search 43 = .ok (.invokevirtual 81, 3) := by decide +kernel
theorem dX1_search_46 : decode cX1_search 46 = .ok (.iinc 1 1, 3) := by decide +kernel
theorem dX1_search_49 : decode cX1_search 49 = .ok (.goto (-47), 3) := by decide +kernel
theorem dX1_search_52 : decode cX1_search 52 = .ok (.aload_n 0, 1) := by decide +kernel
theorem dX1_search_53 : decode cX1_search 53 = .ok (.invokevirtual 85, 3) := by decide +kernel
theorem dX1_search_56 : decode cX1_search 56 = .ok (.aload_n 0, 1) := by decide +kernel
theorem dX1_search_57 : decode cX1_search 57 = .ok (.iconst (-1), 1) := by decide +kernel
theorem dX1_search_58 : decode cX1_search 58 = .ok (.putfield 88, 3) := by decide +kernel
theorem dX1_search_61 : decode cX1_search 61 = .ok (.aload_n 0, 1) := by decide +kernel
theorem dX1_search_62 : decode cX1_search 62 = .ok (.iconst 0, 1) := by decide +kernel
theorem dX1_search_63 : decode cX1_search 63 = .ok (.iconst 0, 1) := by decide +kernel
theorem dX1_search_64 : decode cX1_search 64 = .ok (.iconst 0, 1) := by decide +kernel
theorem dX1_search_65 : decode cX1_search 65 = .ok (.iconst 0, 1) := by decide +kernel
theorem dX1_search_66 : decode cX1_search 66 = .ok (.invokevirtual 91, 3) := by decide +kernel
theorem dX1_search_69 : decode cX1_search 69 = .ok (.iconst 0, 1) := by decide +kernel
theorem dX1_search_70 : decode cX1_search 70 = .ok (.istore_n 1, 1) := by decide +kernel
theorem dX1_search_71 : decode cX1_search 71 = .ok (.iload_n 1, 1) := by decide +kernel
theorem dX1_search_72 : decode cX1_search 72 = .ok (.aload_n 0, 1) := by decide +kernel
theorem dX1_search_73 : decode cX1_search 73 = .ok (.getfield 56, 3) := by decide +kernel
theorem dX1_search_76 : decode cX1_search 76 = .ok (.if_icmp .ge 38, 3) := by decide +kernel
theorem dX1_search_79 : decode cX1_search 79 = .ok (.aload_n 0, 1) := by decide +kernel
theorem dX1_search_80 : decode cX1_search 80 = .ok (.getfield 21, 3) := by decide +kernel
theorem dX1_search_83 : decode cX1_search 83 = .ok (.iload_n 1, 1) := by decide +kernel
theorem dX1_search_84 : decode cX1_search 84 = .ok (.iaload, 1) := by decide +kernel
theorem dX1_search_85 : decode cX1_search 85 = .ok (.iconst (-1), 1) := by decide +kernel
theorem dX1_search_86 : decode cX1_search 86 = .ok (.if_icmp .eq 22, 3) := by decide +kernel
theorem dX1_search_89 : decode cX1_search 89 = .ok (.aload_n 0, 1) := by decide +kernel
theorem dX1_search_90 : decode cX1_search 90 = .ok (.getfield 36, 3) := by decide +kernel
theorem dX1_search_93 : decode cX1_search 93 = .ok (.aload_n 0, 1) := by decide +kernel
theorem dX1_search_94 : decode cX1_search 94 = .ok (.getfield 15, 3) := by decide +kernel
theorem dX1_search_97 : decode cX1_search 97 = .ok (.iload_n 1, 1) := by decide +kernel
theorem dX1_search_98 : decode cX1_search 98 = .ok (.iaload, 1) := by decide +kernel
theorem dX1_search_99 : decode cX1_search 99 = .ok (.aload_n 0, 1) := by decide +kernel
theorem dX1_search_100 : decode cX1_search 100 = .ok (.getfield 21, 3) := by decide +kernel
theorem dX1_search_103 : decode cX1_search 103 = .ok (.iload_n 1, 1) := by decide +kernel
theorem dX1_search_104 : decode cX1_search 104 = .ok (.iaload, 1) := by decide +kernel
theorem dX1_search_105 : decode cX1_search 105 = .ok (.invokevirtual 95, 3) := by decide +kernel
theorem dX1_search_108 : decode cX1_search 108 = .ok (.iinc 1 1, 3) := by decide +kernel
theorem dX1_search_111 : decode cX1_search 111 = .ok (.goto (-40), 3) := by decide +kernel
theorem dX1_search_114 : decode cX1_search 114 = .ok (.return_, 1) := by decide +kernel
theorem dX1_countLeft_0 : decode cX1_countLeft 0 = .ok (.aload_n 0, 1) := by decide +kernel
theorem dX1_countLeft_1 : decode cX1_countLeft 1 = .ok (.getfield 27, 3) := by decide +kernel
theorem dX1_countLeft_4 : decode cX1_countLeft 4 = .ok (.aload_n 0, 1) := by decide +kernel
theorem dX1_countLeft_5 : decode cX1_countLeft 5 = .ok (.getfield 56, 3) := by decide +kernel
theorem dX1_countLeft_8 : decode cX1_countLeft 8 = .ok (.iconst 0, 1) := by decide +kernel
theorem dX1_countLeft_9 : decode cX1_countLeft 9 = .ok (.iastore, 1) := by decide +kernel
theorem dX1_countLeft_10 : decode cX1_countLeft 10 = .ok (.aload_n 0, 1) := by decide +kernel
theorem dX1_countLeft_11 : decode cX1_countLeft 11 = .ok (.getfield 30, 3) := by decide +kernel
theorem dX1_countLeft_14 : decode cX1_countLeft 14 = .ok (.aload_n 0, 1) := by decide +kernel
theorem dX1_countLeft_15 : decode cX1_countLeft 15 = .ok (.getfield 56, 3) := by decide +kernel
theorem dX1_countLeft_18 : decode cX1_countLeft 18 = .ok (.iconst 0, 1) := by decide +kernel
theorem dX1_countLeft_19 : decode cX1_countLeft 19 = .ok (.iastore, 1) := by decide +kernel
theorem dX1_countLeft_20 : decode cX1_countLeft 20 = .ok (.aload_n 0, 1) := by decide +kernel
theorem dX1_countLeft_21 : decode cX1_countLeft 21 = .ok (.getfield 33, 3) := by decide +kernel
theorem dX1_countLeft_24 : decode cX1_countLeft 24 = .ok (.aload_n 0, 1) := by decide +kernel
theorem dX1_countLeft_25 : decode cX1_countLeft 25 = .ok (.getfield 56, 3) := by decide +kernel
theorem dX1_countLeft_28 : decode cX1_countLeft 28 = .ok (.iconst 0, 1) := by decide +kernel
theorem dX1_countLeft_29 : decode cX1_countLeft 29 = .ok (.iastore, 1) := by decide +kernel
theorem dX1_countLeft_30 : decode cX1_countLeft 30 = .ok (.aload_n 0, 1) := by decide +kernel
theorem dX1_countLeft_31 : decode cX1_countLeft 31 = .ok (.getfield 67, 3) := by decide +kernel
theorem dX1_countLeft_34 : decode cX1_countLeft 34 = .ok (.istore_n 1, 1) := by decide +kernel
theorem dX1_countLeft_35 : decode cX1_countLeft 35 = .ok (.aload_n 0, 1) := by decide +kernel
theorem dX1_countLeft_36 : decode cX1_countLeft 36 = .ok (.getfield 56, 3) := by decide +kernel
theorem dX1_countLeft_39 : decode cX1_countLeft 39 = .ok (.iconst 1, 1) := by decide +kernel
theorem dX1_countLeft_40 : decode cX1_countLeft 40 = .ok (.isub, 1) := by decide +kernel
theorem dX1_countLeft_41 : decode cX1_countLeft 41 = .ok (.istore_n 2, 1) := by decide +kernel
theorem dX1_countLeft_42 : decode cX1_countLeft 42 = .ok (.iload_n 2, 1) := by decide +kernel
theorem dX1_countLeft_43 : decode cX1_countLeft 43 = .ok (.ifCond .lt 119, 3) := by decide +kernel
theorem dX1_countLeft_46 : decode cX1_countLeft 46 = .ok (.aload_n 0, 1) := by decide +kernel
theorem dX1_countLeft_47 : decode cX1_countLeft 47 = .ok (.getfield 15, 3) := by decide +kernel
theorem dX1_countLeft_50 : decode cX1_countLeft 50 = .ok (.iload_n 2, 1) := by decide +kernel
theorem dX1_countLeft_51 : decode cX1_countLeft 51 = .ok (.iaload, 1) := by decide +kernel
theorem dX1_countLeft_52 : decode cX1_countLeft 52 = .ok (.istore_n 3, 1) := by decide +kernel
theorem dX1_countLeft_53 : decode cX1_countLeft 53 = .ok (.iload_n 1, 1) := by decide +kernel
theorem dX1_countLeft_54 : decode cX1_countLeft 54 = .ok (.iconst 1, 1) := by decide +kernel
theorem dX1_countLeft_55 : decode cX1_countLeft 55 = .ok (.iload_n 3, 1) := by decide +kernel
theorem dX1_countLeft_56 : decode cX1_countLeft 56 = .ok (.ishl, 1) := by decide +kernel
theorem dX1_countLeft_57 : decode cX1_countLeft 57 = .ok (.iconst (-1), 1) := by decide +kernel
theorem dX1_countLeft_58 : decode cX1_countLeft 58 = .ok (.ixor, 1) := by decide +kernel
theorem dX1_countLeft_59 : decode cX1_countLeft 59 = .ok (.iand, 1) := by decide +kernel
theorem dX1_countLeft_60 : decode cX1_countLeft 60 = .ok (.istore_n 1, 1) := by decide +kernel
theorem dX1_countLeft_61 : decode cX1_countLeft 61 = .ok (.aload_n 0, 1) := by decide +kernel
theorem dX1_countLeft_62 : decode cX1_countLeft 62 = .ok (.getfield 27, 3) := by decide +kernel
theorem dX1_countLeft_65 : decode cX1_countLeft 65 = .ok (.iload_n 2, 1) := by decide +kernel
theorem dX1_countLeft_66 : decode cX1_countLeft 66 = .ok (.aload_n 0, 1) := by decide +kernel
theorem dX1_countLeft_67 : decode cX1_countLeft 67 = .ok (.getfield 27, 3) := by decide +kernel
theorem dX1_countLeft_70 : decode cX1_countLeft 70 = .ok (.iload_n 2, 1) := by decide +kernel
theorem dX1_countLeft_71 : decode cX1_countLeft 71 = .ok (.iconst 1, 1) := by decide +kernel
theorem dX1_countLeft_72 : decode cX1_countLeft 72 = .ok (.iadd, 1) := by decide +kernel
theorem dX1_countLeft_73 : decode cX1_countLeft 73 = .ok (.iaload, 1) := by decide +kernel
theorem dX1_countLeft_74 : decode cX1_countLeft 74 = .ok (.aload_n 0, 1) := by decide +kernel
theorem dX1_countLeft_75 : decode cX1_countLeft 75 = .ok (.getfield 36, 3) := by decide +kernel
theorem dX1_countLeft_78 : decode cX1_countLeft 78 = .ok (.getfield 40, 3) := by decide +kernel
theorem dX1_countLeft_81 : decode cX1_countLeft 81 = .ok (.getfield 99, 3) := by decide +kernel
theorem dX1_countLeft_84 : decode cX1_countLeft 84 = .ok (.iload_n 3, 1) := by decide +kernel
theorem dX1_countLeft_85 : decode cX1_countLeft 85 = .ok (.iaload, 1) := by decide +kernel
theorem dX1_countLeft_86 : decode cX1_countLeft 86 = .ok (.iadd, 1) := by decide +kernel
theorem dX1_countLeft_87 : decode cX1_countLeft 87 = .ok (.iastore, 1) := by decide +kernel
theorem dX1_countLeft_88 : decode cX1_countLeft 88 = .ok (.aload_n 0, 1) := by decide +kernel
theorem dX1_countLeft_89 : decode cX1_countLeft 89 = .ok (.getfield 30, 3) := by decide +kernel
theorem dX1_countLeft_92 : decode cX1_countLeft 92 = .ok (.iload_n 2, 1) := by decide +kernel
theorem dX1_countLeft_93 : decode cX1_countLeft 93 = .ok (.aload_n 0, 1) := by decide +kernel
theorem dX1_countLeft_94 : decode cX1_countLeft 94 = .ok (.getfield 30, 3) := by decide +kernel
theorem dX1_countLeft_97 : decode cX1_countLeft 97 = .ok (.iload_n 2, 1) := by decide +kernel
theorem dX1_countLeft_98 : decode cX1_countLeft 98 = .ok (.iconst 1, 1) := by decide +kernel
theorem dX1_countLeft_99 : decode cX1_countLeft 99 = .ok (.iadd, 1) := by decide +kernel
theorem dX1_countLeft_100 : decode cX1_countLeft 100 = .ok (.iaload, 1) := by decide +kernel
theorem dX1_countLeft_101 : decode cX1_countLeft 101 = .ok (.aload_n 0, 1) := by decide +kernel
theorem dX1_countLeft_102 : decode cX1_countLeft 102 = .ok (.getfield 36, 3) := by decide +kernel
theorem dX1_countLeft_105 : decode cX1_countLeft 105 = .ok (.getfield 102, 3) := by decide +kernel
theorem dX1_countLeft_108 : decode cX1_countLeft 108 = .ok (.getfield 106, 3) := by decide +kernel
theorem dX1_countLeft_111 : decode cX1_countLeft 111 = .ok (.iload_n 3, 1) := by decide +kernel
theorem dX1_countLeft_112 : decode cX1_countLeft 112 = .ok (.iaload, 1) := by decide +kernel
theorem dX1_countLeft_113 : decode cX1_countLeft 113 = .ok (.iload_n 1, 1) := by decide +kernel
theorem dX1_countLeft_114 : decode cX1_countLeft 114 = .ok (.iand, 1) := by decide +kernel
theorem dX1_countLeft_115 : decode cX1_countLeft 115 = .ok (.invokestatic 74, 3) := by decide +kernel
theorem dX1_countLeft_118 : decode cX1_countLeft 118 = .ok (.iadd, 1) := by decide +kernel
theorem dX1_countLeft_119 : decode cX1_countLeft 119 = .ok (.iastore, 1) := by decide +kernel
theorem dX1_countLeft_120 : decode cX1_countLeft 120 = .ok (.aload_n 0, 1) := by decide +kernel
theorem dX1_countLeft_121 : decode cX1_countLeft 121 = .ok (.getfield 33, 3) := by decide +kernel
theorem dX1_countLeft_124 : decode cX1_countLeft 124 = .ok (.iload_n 2, 1) := by decide +kernel
theorem dX1_countLeft_125 : decode cX1_countLeft 125 = .ok (.aload_n 0, 1) := by decide +kernel
theorem dX1_countLeft_126 : decode cX1_countLeft 126 = .ok (.getfield 33, 3) := by decide +kernel
theorem dX1_countLeft_129 : decode cX1_countLeft 129 = .ok (.iload_n 2, 1) := by decide +kernel
theorem dX1_countLeft_130 : decode cX1_countLeft 130 = .ok (.iconst 1, 1) := by decide +kernel
theorem dX1_countLeft_131 : decode cX1_countLeft 131 = .ok (.iadd, 1) := by decide +kernel
theorem dX1_countLeft_132 : decode cX1_countLeft 132 = .ok (.iaload, 1) := by decide +kernel
theorem dX1_countLeft_133 : decode cX1_countLeft 133 = .ok (.aload_n 0, 1) := by decide +kernel
theorem dX1_countLeft_134 : decode cX1_countLeft 134 = .ok (.getfield 36, 3) := by decide +kernel
theorem dX1_countLeft_137 : decode cX1_countLeft 137 = .ok (.getfield 40, 3) := by decide +kernel
theorem dX1_countLeft_140 : decode cX1_countLeft 140 = .ok (.getfield 111, 3) := by decide +kernel
theorem dX1_countLeft_143 : decode cX1_countLeft 143 = .ok (.iload_n 3, 1) := by decide +kernel
theorem dX1_countLeft_144 : decode cX1_countLeft 144 = .ok (.iaload, 1) := by decide +kernel
theorem dX1_countLeft_145 : decode cX1_countLeft 145 = .ok (.iconst (-1), 1) := by decide +kernel
theorem dX1_countLeft_146 : decode cX1_countLeft 146 = .ok (.if_icmp .ne 7, 3) := by decide +kernel
theorem dX1_countLeft_149 : decode cX1_countLeft 149 = .ok (.iconst 0, 1) := by decide +kernel
theorem dX1_countLeft_150 : decode cX1_countLeft 150 = .ok (.goto 4, 3) := by decide +kernel
theorem dX1_countLeft_153 : decode cX1_countLeft 153 = .ok (.iconst 1, 1) := by decide +kernel
theorem dX1_countLeft_154 : decode cX1_countLeft 154 = .ok (.iadd, 1) := by decide +kernel
theorem dX1_countLeft_155 : decode cX1_countLeft 155 = .ok (.iastore, 1) := by decide +kernel
theorem dX1_countLeft_156 : decode cX1_countLeft 156 = .ok (.iinc 2 (-1), 3) := by decide +kernel
theorem dX1_countLeft_159 : decode cX1_countLeft 159 = .ok (.goto (-117), 3) := by decide +kernel
theorem dX1_countLeft_162 : decode cX1_countLeft 162 = .ok (.return_, 1) := by decide +kernel
theorem dX1_tryFrom_0 : decode cX1_tryFrom 0 = .ok (.aload_n 0, 1) := by decide +kernel
theorem dX1_tryFrom_1 : decode cX1_tryFrom 1 = .ok (.iload_n 2, 1) := by decide +kernel
theorem dX1_tryFrom_2 : decode cX1_tryFrom 2 = .ok (.aload_n 0, 1) := by decide +kernel
theorem dX1_tryFrom_3 : decode cX1_tryFrom 3 = .ok (.getfield 27, 3) := by decide +kernel
theorem dX1_tryFrom_6 : decode cX1_tryFrom 6 = .ok (.iload_n 1, 1) := by decide +kernel
theorem dX1_tryFrom_7 : decode cX1_tryFrom 7 = .ok (.iaload, 1) := by decide +kernel
theorem dX1_tryFrom_8 : decode cX1_tryFrom 8 = .ok (.iadd, 1) := by decide +kernel
theorem dX1_tryFrom_9 : decode cX1_tryFrom 9 = .ok (.iload_n 3, 1) := by decide +kernel
theorem dX1_tryFrom_10 : decode cX1_tryFrom 10 = .ok (.aload_n 0, 1) := by decide +kernel
theorem dX1_tryFrom_11 : decode cX1_tryFrom 11 = .ok (.getfield 30, 3) := by decide +kernel
theorem dX1_tryFrom_14 : decode cX1_tryFrom 14 = .ok (.iload_n 1, 1) := by decide +kernel
theorem dX1_tryFrom_15 : decode cX1_tryFrom 15 = .ok (.iaload, 1) := by decide +kernel
theorem dX1_tryFrom_16 : decode cX1_tryFrom 16 = .ok (.iadd, 1) := by decide +kernel
theorem dX1_tryFrom_17 : decode cX1_tryFrom 17 = .ok (.iload 4, 2) := by decide +kernel
theorem dX1_tryFrom_19 : decode cX1_tryFrom 19 = .ok (.aload_n 0, 1) := by decide +kernel
theorem dX1_tryFrom_20 : decode cX1_tryFrom 20 = .ok (.getfield 33, 3) := by decide +kernel
theorem dX1_tryFrom_23 : decode cX1_tryFrom 23 = .ok (.iload_n 1, 1) := by decide +kernel
theorem dX1_tryFrom_24 : decode cX1_tryFrom 24 = .ok (.iaload, 1) := by decide +kernel
theorem dX1_tryFrom_25 : decode cX1_tryFrom 25 = .ok (.iadd, 1) := by decide +kernel
theorem dX1_tryFrom_26 : decode cX1_tryFrom 26 = .ok (.invokevirtual 114, 3) := by decide +kernel
theorem dX1_tryFrom_29 : decode cX1_tryFrom 29 = .ok (.ifCond .ne 4, 3) := by decide +kernel
theorem dX1_tryFrom_32 : decode cX1_tryFrom 32 = .ok (.return_, 1) := by decide +kernel
theorem dX1_tryFrom_33 : decode cX1_tryFrom 33 = .ok (.iload_n 1, 1) := by decide +kernel
theorem dX1_tryFrom_34 : decode cX1_tryFrom 34 = .ok (.aload_n 0, 1) := by decide +kernel
theorem dX1_tryFrom_35 : decode cX1_tryFrom 35 = .ok (.getfield 56, 3) := by decide +kernel
theorem dX1_tryFrom_38 : decode cX1_tryFrom 38 = .ok (.if_icmp .lt 12, 3) := by decide +kernel
theorem dX1_tryFrom_41 : decode cX1_tryFrom 41 = .ok (.aload_n 0, 1) := by decide +kernel
theorem dX1_tryFrom_42 : decode cX1_tryFrom 42 = .ok (.iload_n 2, 1) := by decide +kernel
theorem dX1_tryFrom_43 : decode cX1_tryFrom 43 = .ok (.iload_n 3, 1) := by decide +kernel
theorem dX1_tryFrom_44 : decode cX1_tryFrom 44 = .ok (.iload 4, 2) := by decide +kernel
theorem dX1_tryFrom_46 : decode cX1_tryFrom 46 = .ok (.invokevirtual 118, 3) := by decide +kernel
theorem dX1_tryFrom_49 : decode cX1_tryFrom 49 = .ok (.return_, 1) := by decide +kernel
theorem dX1_tryFrom_50 : decode cX1_tryFrom 50 = .ok (.iconst 0, 1) := by decide +kernel
theorem dX1_tryFrom_51 : decode cX1_tryFrom 51 = .ok (.istore 5, 2) := by decide +kernel
theorem dX1_tryFrom_53 : decode cX1_tryFrom 53 = .ok (.iload 5, 2) := by decide +kernel
theorem dX1_tryFrom_55 : decode cX1_tryFrom 55 = .ok (.aload_n 0, 1) := by decide +kernel
theorem dX1_tryFrom_56 : decode cX1_tryFrom 56 = .ok (.getfield 65, 3) := by decide +kernel
theorem dX1_tryFrom_59 : decode cX1_tryFrom 59 = .ok (.if_icmp .ge 48, 3) := by decide +kernel
theorem dX1_tryFrom_62 : decode cX1_tryFrom 62 = .ok (.aload_n 0, 1) := by decide +kernel
theorem dX1_tryFrom_63 : decode cX1_tryFrom 63 = .ok (.getfield 36, 3) := by decide +kernel
theorem dX1_tryFrom_66 : decode cX1_tryFrom 66 = .ok (.aload_n 0, 1) := by decide +kernel
theorem dX1_tryFrom_67 : decode cX1_tryFrom 67 = .ok (.getfield 15, 3) := by decide +kernel
theorem dX1_tryFrom_70 : decode cX1_tryFrom 70 = .ok (.iload_n 1, 1) := by decide +kernel
theorem dX1_tryFrom_71 : decode cX1_tryFrom 71 = .ok (.iaload, 1) := by decide +kernel
theorem dX1_tryFrom_72 : decode cX1_tryFrom 72 = .ok (.aload_n 0, 1) := by decide +kernel
theorem dX1_tryFrom_73 : decode cX1_tryFrom 73 = .ok (.getfield 18, 3) := by decide +kernel
theorem dX1_tryFrom_76 : decode cX1_tryFrom 76 = .ok (.iload 5, 2) := by decide +kernel
theorem dX1_tryFrom_78 : decode cX1_tryFrom 78 = .ok (.iaload, 1) := by decide +kernel
theorem dX1_tryFrom_79 : decode cX1_tryFrom 79 = .ok (.invokevirtual 122, 3) := by decide +kernel
theorem dX1_tryFrom_82 : decode cX1_tryFrom 82 = .ok (.ifCond .ne 19, 3) := by decide +kernel
theorem dX1_tryFrom_85 : decode cX1_tryFrom 85 = .ok (.aload_n 0, 1) := by decide +kernel
theorem dX1_tryFrom_86 : decode cX1_tryFrom 86 = .ok (.iload_n 1, 1) := by decide +kernel
theorem dX1_tryFrom_87 : decode cX1_tryFrom 87 = .ok (.aload_n 0, 1) := by decide +kernel
theorem dX1_tryFrom_88 : decode cX1_tryFrom 88 = .ok (.getfield 18, 3) := by decide +kernel
theorem dX1_tryFrom_91 : decode cX1_tryFrom 91 = .ok (.iload 5, 2) := by decide +kernel
theorem dX1_tryFrom_93 : decode cX1_tryFrom 93 = .ok (.iaload, 1) := by decide +kernel
theorem dX1_tryFrom_94 : decode cX1_tryFrom 94 = .ok (.iload_n 2, 1) := by decide +kernel
theorem dX1_tryFrom_95 : decode cX1_tryFrom 95 = .ok (.iload_n 3, 1) := by decide +kernel
theorem dX1_tryFrom_96 : decode cX1_tryFrom 96 = .ok (.iload 4, 2) := by decide +kernel
theorem dX1_tryFrom_98 : decode cX1_tryFrom 98 = .ok (.invokevirtual 126, 3) := by decide +kernel
theorem dX1_tryFrom_101 : decode cX1_tryFrom 101 = .ok (.iinc 5 1, 3) := by decide +kernel
theorem dX1_tryFrom_104 : decode cX1_tryFrom 104 = .ok (.goto (-51), 3) := by decide +kernel
theorem dX1_tryFrom_107 : decode cX1_tryFrom 107 = .ok (.aload_n 0, 1) := by decide +kernel
theorem dX1_tryFrom_108 : decode cX1_tryFrom 108 = .ok (.getfield 24, 3) := by decide +kernel
theorem dX1_tryFrom_111 : decode cX1_tryFrom 111 = .ok (.iload_n 1, 1) := by decide +kernel
theorem dX1_tryFrom_112 : decode cX1_tryFrom 112 = .ok (.iconst (-1), 1) := by decide +kernel
theorem dX1_tryFrom_113 : decode cX1_tryFrom 113 = .ok (.iastore, 1) := by decide +kernel
theorem dX1_tryFrom_114 : decode cX1_tryFrom 114 = .ok (.aload_n 0, 1) := by decide +kernel
theorem dX1_tryFrom_115 : decode cX1_tryFrom 115 = .ok (.iload_n 1, 1) := by decide +kernel
theorem dX1_tryFrom_116 : decode cX1_tryFrom 116 = .ok (.iconst 1, 1) := by decide +kernel
theorem dX1_tryFrom_117 : decode cX1_tryFrom 117 = .ok (.iadd, 1) := by decide +kernel
theorem dX1_tryFrom_118 : decode cX1_tryFrom 118 = .ok (.iload_n 2, 1) := by decide +kernel
theorem dX1_tryFrom_119 : decode cX1_tryFrom 119 = .ok (.iload_n 3, 1) := by decide +kernel
theorem dX1_tryFrom_120 : decode cX1_tryFrom 120 = .ok (.iload 4, 2) := by decide +kernel
theorem dX1_tryFrom_122 : decode cX1_tryFrom 122 = .ok (.invokevirtual 91, 3) := by decide +kernel
theorem dX1_tryFrom_125 : decode cX1_tryFrom 125 = .ok (.return_, 1) := by decide +kernel
theorem dX1_tryHome_0 : decode cX1_tryHome 0 = .ok (.aload_n 0, 1) := by decide +kernel
theorem dX1_tryHome_1 : decode cX1_tryHome 1 = .ok (.getfield 15, 3) := by decide +kernel
theorem dX1_tryHome_4 : decode cX1_tryHome 4 = .ok (.iload_n 1, 1) := by decide +kernel
theorem dX1_tryHome_5 : decode cX1_tryHome 5 = .ok (.iaload, 1) := by decide +kernel
theorem dX1_tryHome_6 : decode cX1_tryHome 6 = .ok (.istore 6, 2) := by decide +kernel
theorem dX1_tryHome_8 : decode cX1_tryHome 8 = .ok (.aload_n 0, 1) := by decide +kernel
theorem dX1_tryHome_9 : decode cX1_tryHome 9 = .ok (.getfield 36, 3) := by decide +kernel
theorem dX1_tryHome_12 : decode cX1_tryHome 12 = .ok (.getfield 58, 3) := by decide +kernel
theorem dX1_tryHome_15 : decode cX1_tryHome 15 = .ok (.getfield 130, 3) := by decide +kernel
theorem dX1_tryHome_18 : decode cX1_tryHome 18 = .ok (.iload_n 2, 1) := by decide +kernel
theorem dX1_tryHome_19 : decode cX1_tryHome 19 = .ok (.iaload, 1) := by decide +kernel
theorem dX1_tryHome_20 : decode cX1_tryHome 20 = .ok (.istore 7, 2) := by decide +kernel
theorem dX1_tryHome_22 : decode cX1_tryHome 22 = .ok (.aload_n 0, 1) := by decide +kernel
theorem dX1_tryHome_23 : decode cX1_tryHome 23 = .ok (.getfield 36, 3) := by decide +kernel
theorem dX1_tryHome_26 : decode cX1_tryHome 26 = .ok (.getfield 102, 3) := by decide +kernel
theorem dX1_tryHome_29 : decode cX1_tryHome 29 = .ok (.getfield 106, 3) := by decide +kernel
theorem dX1_tryHome_32 : decode cX1_tryHome 32 = .ok (.iload 6, 2) := by decide +kernel
theorem dX1_tryHome_34 : decode cX1_tryHome 34 = .ok (.iaload, 1) := by decide +kernel
theorem dX1_tryHome_35 : decode cX1_tryHome 35 = .ok (.aload_n 0, 1) := by decide +kernel
theorem dX1_tryHome_36 : decode cX1_tryHome 36 = .ok (.getfield 67, 3) := by decide +kernel
theorem dX1_tryHome_39 : decode cX1_tryHome 39 = .ok (.iand, 1) := by decide +kernel
theorem dX1_tryHome_40 : decode cX1_tryHome 40 = .ok (.aload_n 0, 1) := by decide +kernel
theorem dX1_tryHome_41 : decode cX1_tryHome 41 = .ok (.getfield 36, 3) := by decide +kernel
theorem dX1_tryHome_44 : decode cX1_tryHome 44 = .ok (.getfield 133, 3) := by decide +kernel
theorem dX1_tryHome_47 : decode cX1_tryHome 47 = .ok (.getfield 137, 3) := by decide +kernel
theorem dX1_tryHome_50 : decode cX1_tryHome 50 = .ok (.iload 7, 2) := by decide +kernel
theorem dX1_tryHome_52 : decode cX1_tryHome 52 = .ok (.iaload, 1) := by decide +kernel
theorem dX1_tryHome_53 : decode cX1_tryHome 53 = .ok (.iand, 1) := by decide +kernel
theorem dX1_tryHome_54 : decode cX1_tryHome 54 = .ok (.invokestatic 74, 3) := by decide +kernel
theorem dX1_tryHome_57 : decode cX1_tryHome 57 = .ok (.istore 8, 2) := by decide +kernel
theorem dX1_tryHome_59 : decode cX1_tryHome 59 = .ok (.aload_n 0, 1) := by decide +kernel
theorem dX1_tryHome_60 : decode cX1_tryHome 60 = .ok (.getfield 24, 3) := by decide +kernel
theorem dX1_tryHome_63 : decode cX1_tryHome 63 = .ok (.iload_n 1, 1) := by decide +kernel
theorem dX1_tryHome_64 : decode cX1_tryHome 64 = .ok (.iload_n 2, 1) := by decide +kernel
theorem dX1_tryHome_65 : decode cX1_tryHome 65 = .ok (.iastore, 1) := by decide +kernel
theorem dX1_tryHome_66 : decode cX1_tryHome 66 = .ok (.aload_n 0, 1) := by decide +kernel
theorem dX1_tryHome_67 : decode cX1_tryHome 67 = .ok (.getfield 36, 3) := by decide +kernel
theorem dX1_tryHome_70 : decode cX1_tryHome 70 = .ok (.iload 6, 2) := by decide +kernel
theorem dX1_tryHome_72 : decode cX1_tryHome 72 = .ok (.iload_n 2, 1) := by decide +kernel
theorem dX1_tryHome_73 : decode cX1_tryHome 73 = .ok (.invokevirtual 95, 3) := by decide +kernel
theorem dX1_tryHome_76 : decode cX1_tryHome 76 = .ok (.aload_n 0, 1) := by decide +kernel
theorem dX1_tryHome_77 : decode cX1_tryHome 77 = .ok (.iload_n 1, 1) := by decide +kernel
theorem dX1_tryHome_78 : decode cX1_tryHome 78 = .ok (.iconst 1, 1) := by decide +kernel
theorem dX1_tryHome_79 : decode cX1_tryHome 79 = .ok (.iadd, 1) := by decide +kernel
theorem dX1_tryHome_80 : decode cX1_tryHome 80 = .ok (.iload_n 3, 1) := by decide +kernel
theorem dX1_tryHome_81 : decode cX1_tryHome 81 = .ok (.aload_n 0, 1) := by decide +kernel
theorem dX1_tryHome_82 : decode cX1_tryHome 82 = .ok (.getfield 36, 3) := by decide +kernel
theorem dX1_tryHome_85 : decode cX1_tryHome 85 = .ok (.getfield 40, 3) := by decide +kernel
theorem dX1_tryHome_88 : decode cX1_tryHome 88 = .ok (.getfield 99, 3) := by decide +kernel
theorem dX1_tryHome_91 : decode cX1_tryHome 91 = .ok (.iload 6, 2) := by decide +kernel
theorem dX1_tryHome_93 : decode cX1_tryHome 93 = .ok (.iaload, 1) := by decide +kernel
theorem dX1_tryHome_94 : decode cX1_tryHome 94 = .ok (.iadd, 1) := by decide +kernel
theorem dX1_tryHome_95 : decode cX1_tryHome 95 = .ok (.iload 4, 2) := by decide +kernel
theorem dX1_tryHome_97 : decode cX1_tryHome 97 = .ok (.iload 8, 2) := by decide +kernel
theorem dX1_tryHome_99 : decode cX1_tryHome 99 = .ok (.iadd, 1) := by decide +kernel
theorem dX1_tryHome_100 : decode cX1_tryHome 100 = .ok (.iload 5, 2) := by decide +kernel
theorem dX1_tryHome_102 : decode cX1_tryHome 102 = .ok (.aload_n 0, 1) := by decide +kernel
theorem dX1_tryHome_103 : decode cX1_tryHome 103 = .ok (.getfield 36, 3) := by decide +kernel
theorem dX1_tryHome_106 : decode cX1_tryHome 106 = .ok (.iload 6, 2) := by decide +kernel
theorem dX1_tryHome_108 : decode cX1_tryHome 108 = .ok (.iload 7, 2) := by decide +kernel
theorem dX1_tryHome_110 : decode cX1_tryHome 110 = .ok (.invokevirtual 142, 3) := by decide +kernel
theorem dX1_tryHome_113 : decode cX1_tryHome 113 = .ok (.iadd, 1) := by decide +kernel
theorem dX1_tryHome_114 : decode cX1_tryHome 114 = .ok (.invokevirtual 91, 3) := by decide +kernel
theorem dX1_tryHome_117 : decode cX1_tryHome 117 = .ok (.aload_n 0, 1) := by decide +kernel
theorem dX1_tryHome_118 : decode cX1_tryHome 118 = .ok (.getfield 36, 3) := by decide +kernel
theorem dX1_tryHome_121 : decode cX1_tryHome 121 = .ok (.iload 6, 2) := by decide +kernel
theorem dX1_tryHome_123 : decode cX1_tryHome 123 = .ok (.invokevirtual 81, 3) := by decide +kernel
theorem dX1_tryHome_126 : decode cX1_tryHome 126 = .ok (.return_, 1) := by decide +kernel
theorem dX1_isBetter_0 : decode cX1_isBetter 0 = .ok (.iload_n 1, 1) := by decide +kernel
theorem dX1_isBetter_1 : decode cX1_isBetter 1 = .ok (.aload_n 0, 1) := by decide +kernel
theorem dX1_isBetter_2 : decode cX1_isBetter 2 = .ok (.getfield 88, 3) := by decide +kernel
theorem dX1_isBetter_5 : decode cX1_isBetter 5 = .ok (.if_icmp .eq 17, 3) := by decide +kernel
theorem dX1_isBetter_8 : decode cX1_isBetter 8 = .ok (.iload_n 1, 1) := by decide +kernel
theorem dX1_isBetter_9 : decode cX1_isBetter 9 = .ok (.aload_n 0, 1) := by decide +kernel
theorem dX1_isBetter_10 : decode cX1_isBetter 10 = .ok (.getfield 88, 3) := by decide +kernel
theorem dX1_isBetter_13 : decode cX1_isBetter 13 = .ok (.if_icmp .le 7, 3) := by decide +kernel
theorem dX1_isBetter_16 : decode cX1_isBetter 16 = .ok (.iconst 1, 1) := by decide +kernel
theorem dX1_isBetter_17 : decode cX1_isBetter 17 = .ok (.goto 4, 3) := by decide +kernel
theorem dX1_isBetter_20 : decode cX1_isBetter 20 = .ok (.iconst 0, 1) := by decide +kernel
theorem dX1_isBetter_21 : decode cX1_isBetter 21 = .ok (.ireturn, 1) := by decide +kernel
theorem dX1_isBetter_22 : decode cX1_isBetter 22 = .ok (.iload_n 2, 1) := by decide +kernel
theorem dX1_isBetter_23 : decode cX1_isBetter 23 = .ok (.aload_n 0, 1) := by decide +kernel
theorem dX1_isBetter_24 : decode cX1_isBetter 24 = .ok (.getfield 145, 3) := by decide +kernel
theorem dX1_isBetter_27 : decode cX1_isBetter 27 = .ok (.if_icmp .eq 17, 3) := by decide +kernel
theorem dX1_isBetter_30 : decode cX1_isBetter 30 = .ok (.iload_n 2, 1) := by decide +kernel
theorem dX1_isBetter_31 : decode cX1_isBetter 31 = .ok (.aload_n 0, 1) := by decide +kernel
theorem dX1_isBetter_32 : decode cX1_isBetter 32 = .ok (.getfield 145, 3) := by decide +kernel
theorem dX1_isBetter_35 : decode cX1_isBetter 35 = .ok (.if_icmp .le 7, 3) := by decide +kernel
theorem dX1_isBetter_38 : decode cX1_isBetter 38 = .ok (.iconst 1, 1) := by decide +kernel
theorem dX1_isBetter_39 : decode cX1_isBetter 39 = .ok (.goto 4, 3) := by decide +kernel
theorem dX1_isBetter_42 : decode cX1_isBetter 42 = .ok (.iconst 0, 1) := by decide +kernel
theorem dX1_isBetter_43 : decode cX1_isBetter 43 = .ok (.ireturn, 1) := by decide +kernel
theorem dX1_isBetter_44 : decode cX1_isBetter 44 = .ok (.iload_n 3, 1) := by decide +kernel
theorem dX1_isBetter_45 : decode cX1_isBetter 45 = .ok (.aload_n 0, 1) := by decide +kernel
theorem dX1_isBetter_46 : decode cX1_isBetter 46 = .ok (.getfield 148, 3) := by decide +kernel
theorem dX1_isBetter_49 : decode cX1_isBetter 49 = .ok (.if_icmp .le 7, 3) := by decide +kernel
theorem dX1_isBetter_52 : decode cX1_isBetter 52 = .ok (.iconst 1, 1) := by decide +kernel
theorem dX1_isBetter_53 : decode cX1_isBetter 53 = .ok (.goto 4, 3) := by decide +kernel
theorem dX1_isBetter_56 : decode cX1_isBetter 56 = .ok (.iconst 0, 1) := by decide +kernel
theorem dX1_isBetter_57 : decode cX1_isBetter 57 = .ok (.ireturn, 1) := by decide +kernel
theorem dX1_keepWay_0 : decode cX1_keepWay 0 = .ok (.aload_n 0, 1) := by decide +kernel
theorem dX1_keepWay_1 : decode cX1_keepWay 1 = .ok (.iload_n 1, 1) := by decide +kernel
theorem dX1_keepWay_2 : decode cX1_keepWay 2 = .ok (.putfield 88, 3) := by decide +kernel
theorem dX1_keepWay_5 : decode cX1_keepWay 5 = .ok (.aload_n 0, 1) := by decide +kernel
theorem dX1_keepWay_6 : decode cX1_keepWay 6 = .ok (.iload_n 2, 1) := by decide +kernel
theorem dX1_keepWay_7 : decode cX1_keepWay 7 = .ok (.putfield 145, 3) := by decide +kernel
theorem dX1_keepWay_10 : decode cX1_keepWay 10 = .ok (.aload_n 0, 1) := by decide +kernel
theorem dX1_keepWay_11 : decode cX1_keepWay 11 = .ok (.iload_n 3, 1) := by decide +kernel
theorem dX1_keepWay_12 : decode cX1_keepWay 12 = .ok (.putfield 148, 3) := by decide +kernel
theorem dX1_keepWay_15 : decode cX1_keepWay 15 = .ok (.iconst 0, 1) := by decide +kernel
theorem dX1_keepWay_16 : decode cX1_keepWay 16 = .ok (.istore 4, 2) := by decide +kernel
theorem dX1_keepWay_18 : decode cX1_keepWay 18 = .ok (.iload 4, 2) := by decide +kernel
theorem dX1_keepWay_20 : decode cX1_keepWay 20 = .ok (.aload_n 0, 1) := by decide +kernel
theorem dX1_keepWay_21 : decode cX1_keepWay 21 = .ok (.getfield 56, 3) := by decide +kernel
theorem dX1_keepWay_24 : decode cX1_keepWay 24 = .ok (.if_icmp .ge 23, 3) := by decide +kernel
theorem dX1_keepWay_27 : decode cX1_keepWay 27 = .ok (.aload_n 0, 1) := by decide +kernel
theorem dX1_keepWay_28 : decode cX1_keepWay 28 = .ok (.getfield 9, 3) := by decide +kernel
theorem dX1_keepWay_31 : decode cX1_keepWay 31 = .ok (.iload 4, 2) := by decide +kernel
theorem dX1_keepWay_33 : decode cX1_keepWay 33 = .ok (.aload_n 0, 1) := by decide +kernel
theorem dX1_keepWay_34 : decode cX1_keepWay 34 = .ok (.getfield 24, 3) := by decide +kernel
theorem dX1_keepWay_37 : decode cX1_keepWay 37 = .ok (.iload 4, 2) := by decide +kernel
theorem dX1_keepWay_39 : decode cX1_keepWay 39 = .ok (.iaload, 1) := by decide +kernel
theorem dX1_keepWay_40 : decode cX1_keepWay 40 = .ok (.iastore, 1) := by decide +kernel
theorem dX1_keepWay_41 : decode cX1_keepWay 41 = .ok (.iinc 4 1, 3) := by decide +kernel
theorem dX1_keepWay_44 : decode cX1_keepWay 44 = .ok (.goto (-26), 3) := by decide +kernel
theorem dX1_keepWay_47 : decode cX1_keepWay 47 = .ok (.return_, 1) := by decide +kernel
theorem dX2_init_0 : decode cX2_init 0 = .ok (.aload_n 0, 1) := by decide +kernel
theorem dX2_init_1 : decode cX2_init 1 = .ok (.invokespecial 3, 3) := by decide +kernel
theorem dX2_init_4 : decode cX2_init 4 = .ok (.aload_n 0, 1) := by decide +kernel
theorem dX2_init_5 : decode cX2_init 5 = .ok (.bipush 24, 2) := by decide +kernel
theorem dX2_init_7 : decode cX2_init 7 = .ok (.newarray .int, 2) := by decide +kernel
theorem dX2_init_9 : decode cX2_init 9 = .ok (.putfield 9, 3) := by decide +kernel
theorem dX2_init_12 : decode cX2_init 12 = .ok (.aload_n 0, 1) := by decide +kernel
theorem dX2_init_13 : decode cX2_init 13 = .ok (.bipush 24, 2) := by decide +kernel
theorem dX2_init_15 : decode cX2_init 15 = .ok (.newarray .int, 2) := by decide +kernel
theorem dX2_init_17 : decode cX2_init 17 = .ok (.putfield 15, 3) := by decide +kernel
theorem dX2_init_20 : decode cX2_init 20 = .ok (.aload_n 0, 1) := by decide +kernel
theorem dX2_init_21 : decode cX2_init 21 = .ok (.bipush 24, 2) := by decide +kernel
theorem dX2_init_23 : decode cX2_init 23 = .ok (.newarray .int, 2) := by decide +kernel
theorem dX2_init_25 : decode cX2_init 25 = .ok (.putfield 18, 3) := by decide +kernel
theorem dX2_init_28 : decode cX2_init 28 = .ok (.aload_n 0, 1) := by decide +kernel
theorem dX2_init_29 : decode cX2_init 29 = .ok (.bipush 24, 2) := by decide +kernel
theorem dX2_init_31 : decode cX2_init 31 = .ok (.newarray .int, 2) := by decide +kernel
theorem dX2_init_33 : decode cX2_init 33 = .ok (.putfield 21, 3) := by decide +kernel
theorem dX2_init_36 : decode cX2_init 36 = .ok (.aload_n 0, 1) := by decide +kernel
theorem dX2_init_37 : decode cX2_init 37 = .ok (.bipush 24, 2) := by decide +kernel
theorem dX2_init_39 : decode cX2_init 39 = .ok (.newarray .int, 2) := by decide +kernel
theorem dX2_init_41 : decode cX2_init 41 = .ok (.putfield 24, 3) := by decide +kernel
theorem dX2_init_44 : decode cX2_init 44 = .ok (.aload_n 0, 1) := by decide +kernel
theorem dX2_init_45 : decode cX2_init 45 = .ok (.bipush 24, 2) := by decide +kernel
theorem dX2_init_47 : decode cX2_init 47 = .ok (.newarray .int, 2) := by decide +kernel
theorem dX2_init_49 : decode cX2_init 49 = .ok (.putfield 27, 3) := by decide +kernel
theorem dX2_init_52 : decode cX2_init 52 = .ok (.aload_n 0, 1) := by decide +kernel
theorem dX2_init_53 : decode cX2_init 53 = .ok (.bipush 24, 2) := by decide +kernel
theorem dX2_init_55 : decode cX2_init 55 = .ok (.newarray .int, 2) := by decide +kernel
theorem dX2_init_57 : decode cX2_init 57 = .ok (.putfield 30, 3) := by decide +kernel
theorem dX2_init_60 : decode cX2_init 60 = .ok (.aload_n 0, 1) := by decide +kernel
theorem dX2_init_61 : decode cX2_init 61 = .ok (.bipush 24, 2) := by decide +kernel
theorem dX2_init_63 : decode cX2_init 63 = .ok (.newarray .int, 2) := by decide +kernel
theorem dX2_init_65 : decode cX2_init 65 = .ok (.putfield 33, 3) := by decide +kernel
theorem dX2_init_68 : decode cX2_init 68 = .ok (.aload_n 0, 1) := by decide +kernel
theorem dX2_init_69 : decode cX2_init 69 = .ok (.bipush 24, 2) := by decide +kernel
theorem dX2_init_71 : decode cX2_init 71 = .ok (.newarray .int, 2) := by decide +kernel
theorem dX2_init_73 : decode cX2_init 73 = .ok (.putfield 36, 3) := by decide +kernel
theorem dX2_init_76 : decode cX2_init 76 = .ok (.aload_n 0, 1) := by decide +kernel
theorem dX2_init_77 : decode cX2_init 77 = .ok (.bipush 24, 2) := by decide +kernel
theorem dX2_init_79 : decode cX2_init 79 = .ok (.newarray .int, 2) := by decide +kernel
theorem dX2_init_81 : decode cX2_init 81 = .ok (.putfield 39, 3) := by decide +kernel
theorem dX2_init_84 : decode cX2_init 84 = .ok (.aload_n 0, 1) := by decide +kernel
theorem dX2_init_85 : decode cX2_init 85 = .ok (.bipush 24, 2) := by decide +kernel
theorem dX2_init_87 : decode cX2_init 87 = .ok (.newarray .int, 2) := by decide +kernel
theorem dX2_init_89 : decode cX2_init 89 = .ok (.putfield 42, 3) := by decide +kernel
theorem dX2_init_92 : decode cX2_init 92 = .ok (.aload_n 0, 1) := by decide +kernel
theorem dX2_init_93 : decode cX2_init 93 = .ok (.bipush 24, 2) := by decide +kernel
theorem dX2_init_95 : decode cX2_init 95 = .ok (.newarray .int, 2) := by decide +kernel
theorem dX2_init_97 : decode cX2_init 97 = .ok (.putfield 45, 3) := by decide +kernel
theorem dX2_init_100 : decode cX2_init 100 = .ok (.aload_n 0, 1) := by decide +kernel
theorem dX2_init_101 : decode cX2_init 101 = .ok (.bipush 6, 2) := by decide +kernel
theorem dX2_init_103 : decode cX2_init 103 = .ok (.bipush 6, 2) := by decide +kernel
theorem dX2_init_105 : decode cX2_init 105 = .ok (.multianewarray 48 2, 4) := by decide +kernel
theorem dX2_init_109 : decode cX2_init 109 = .ok (.putfield 50, 3) := by decide +kernel
theorem dX2_init_112 : decode cX2_init 112 = .ok (.return_, 1) := by decide +kernel
theorem dX2_has_0 : decode cX2_has 0 = .ok (.iload_n 1, 1) := by decide +kernel
theorem dX2_has_1 : decode cX2_has 1 = .ok (.ifCond .lt 21, 3) := by decide +kernel
theorem dX2_has_4 : decode cX2_has 4 = .ok (.iload_n 1, 1) := by decide +kernel
theorem dX2_has_5 : decode cX2_has 5 = .ok (.aload_n 0, 1) := by decide +kernel
theorem dX2_has_6 : decode cX2_has 6 = .ok (.getfield 53, 3) := by decide +kernel
theorem dX2_has_9 : decode cX2_has 9 = .ok (.if_icmp .ge 13, 3) := by decide +kernel
theorem dX2_has_12 : decode cX2_has 12 = .ok (.iload_n 1, 1) := by decide +kernel
theorem dX2_has_13 : decode cX2_has 13 = .ok (.bipush 24, 2) := by decide +kernel
theorem dX2_has_15 : decode cX2_has 15 = .ok (.if_icmp .ge 7, 3) := by decide +kernel
theorem dX2_has_18 : decode cX2_has 18 = .ok (.iconst 1, 1) := by decide +kernel
theorem dX2_has_19 : decode cX2_has 19 = .ok (.goto 4, 3) := by decide +kernel
theorem dX2_has_22 : decode cX2_has 22 = .ok (.iconst 0, 1) := by decide +kernel
theorem dX2_has_23 : decode cX2_has 23 = .ok (.ireturn, 1) := by decide +kernel
theorem dX2_add_0 : decode cX2_add 0 = .ok (.aload_n 0, 1) := by decide +kernel
theorem dX2_add_1 : decode cX2_add 1 = .ok (.getfield 53, 3) := by decide +kernel
theorem dX2_add_4 : decode cX2_add 4 = .ok (.bipush 24, 2) := by decide +kernel
theorem dX2_add_6 : decode cX2_add 6 = .ok (.if_icmp .lt 5, 3) := by decide +kernel
theorem dX2_add_9 : decode cX2_add 9 = .ok (.iconst (-1), 1) := by decide +kernel
theorem dX2_add_10 : decode cX2_add 10 = .ok (.ireturn, 1) := by decide +kernel
theorem dX2_add_11 : decode cX2_add 11 = .ok (.aload_n 0, 1) := by decide +kernel
theorem dX2_add_12 : decode cX2_add 12 = .ok (.getfield 9, 3) := by decide +kernel
theorem dX2_add_15 : decode cX2_add 15 = .ok (.aload_n 0, 1) := by decide +kernel
theorem dX2_add_16 : decode cX2_add 16 = .ok (.getfield 53, 3) := by decide +kernel
theorem dX2_add_19 : decode cX2_add 19 = .ok (.iload_n 1, 1) := by decide +kernel
theorem dX2_add_20 : decode cX2_add 20 = .ok (.bipush 100, 2) := by decide +kernel
theorem dX2_add_22 : decode cX2_add 22 = .ok (.idiv, 1) := by decide +kernel
theorem dX2_add_23 : decode cX2_add 23 = .ok (.iastore, 1) := by decide +kernel
theorem dX2_add_24 : decode cX2_add 24 = .ok (.aload_n 0, 1) := by decide +kernel
theorem dX2_add_25 : decode cX2_add 25 = .ok (.getfield 15, 3) := by decide +kernel
theorem dX2_add_28 : decode cX2_add 28 = .ok (.aload_n 0, 1) := by decide +kernel
theorem dX2_add_29 : decode cX2_add 29 = .ok (.getfield 53, 3) := by decide +kernel
theorem dX2_add_32 : decode cX2_add 32 = .ok (.iload_n 1, 1) := by decide +kernel
theorem dX2_add_33 : decode cX2_add 33 = .ok (.bipush 10, 2) := by decide +kernel
theorem dX2_add_35 : decode cX2_add 35 = .ok (.idiv, 1) := by decide +kernel
theorem dX2_add_36 : decode cX2_add 36 = .ok (.bipush 10, 2) := by decide +kernel
theorem dX2_add_38 : decode cX2_add 38 = .ok (.irem, 1) := by decide +kernel
theorem dX2_add_39 : decode cX2_add 39 = .ok (.iastore, 1) := by decide +kernel
theorem dX2_add_40 : decode cX2_add 40 = .ok (.aload_n 0, 1) := by decide +kernel
theorem dX2_add_41 : decode cX2_add 41 = .ok (.getfield 18, 3) := by decide +kernel
theorem dX2_add_44 : decode cX2_add 44 = .ok (.aload_n 0, 1) := by decide +kernel
theorem dX2_add_45 : decode cX2_add 45 = .ok (.getfield 53, 3) := by decide +kernel
theorem dX2_add_48 : decode cX2_add 48 = .ok (.iload_n 1, 1) := by decide +kernel
theorem dX2_add_49 : decode cX2_add 49 = .ok (.bipush 10, 2) := by decide +kernel
theorem dX2_add_51 : decode cX2_add 51 = .ok (.irem, 1) := by decide +kernel
theorem dX2_add_52 : decode cX2_add 52 = .ok (.iastore, 1) := by decide +kernel
theorem dX2_add_53 : decode cX2_add 53 = .ok (.aload_n 0, 1) := by decide +kernel
theorem dX2_add_54 : decode cX2_add 54 = .ok (.getfield 21, 3) := by decide +kernel
theorem dX2_add_57 : decode cX2_add 57 = .ok (.aload_n 0, 1) := by decide +kernel
theorem dX2_add_58 : decode cX2_add 58 = .ok (.getfield 53, 3) := by decide +kernel
theorem dX2_add_61 : decode cX2_add 61 = .ok (.iload_n 2, 1) := by decide +kernel
theorem dX2_add_62 : decode cX2_add 62 = .ok (.bipush 100, 2) := by decide +kernel
theorem dX2_add_64 : decode cX2_add 64 = .ok (.idiv, 1) := by decide +kernel
theorem dX2_add_65 : decode cX2_add 65 = .ok (.iastore, 1) := by decide +kernel
theorem dX2_add_66 : decode cX2_add 66 = .ok (.aload_n 0, 1) := by decide +kernel
theorem dX2_add_67 : decode cX2_add 67 = .ok (.getfield 24, 3) := by decide +kernel
theorem dX2_add_70 : decode cX2_add 70 = .ok (.aload_n 0, 1) := by decide +kernel
theorem dX2_add_71 : decode cX2_add 71 = .ok (.getfield 53, 3) := by decide +kernel
theorem dX2_add_74 : decode cX2_add 74 = .ok (.iload_n 2, 1) := by decide +kernel
theorem dX2_add_75 : decode cX2_add 75 = .ok (.bipush 10, 2) := by decide +kernel
theorem dX2_add_77 : decode cX2_add 77 = .ok (.idiv, 1) := by decide +kernel
theorem dX2_add_78 : decode cX2_add 78 = .ok (.bipush 10, 2) := by decide +kernel
theorem dX2_add_80 : decode cX2_add 80 = .ok (.irem, 1) := by decide +kernel
theorem dX2_add_81 : decode cX2_add 81 = .ok (.iastore, 1) := by decide +kernel
theorem dX2_add_82 : decode cX2_add 82 = .ok (.aload_n 0, 1) := by decide +kernel
theorem dX2_add_83 : decode cX2_add 83 = .ok (.getfield 27, 3) := by decide +kernel
theorem dX2_add_86 : decode cX2_add 86 = .ok (.aload_n 0, 1) := by decide +kernel
theorem dX2_add_87 : decode cX2_add 87 = .ok (.getfield 53, 3) := by decide +kernel
theorem dX2_add_90 : decode cX2_add 90 = .ok (.iload_n 2, 1) := by decide +kernel
theorem dX2_add_91 : decode cX2_add 91 = .ok (.bipush 10, 2) := by decide +kernel
theorem dX2_add_93 : decode cX2_add 93 = .ok (.irem, 1) := by decide +kernel
theorem dX2_add_94 : decode cX2_add 94 = .ok (.iastore, 1) := by decide +kernel
theorem dX2_add_95 : decode cX2_add 95 = .ok (.aload_n 0, 1) := by decide +kernel
theorem dX2_add_96 : decode cX2_add 96 = .ok (.getfield 30, 3) := by decide +kernel
theorem dX2_add_99 : decode cX2_add 99 = .ok (.aload_n 0, 1) := by decide +kernel
theorem dX2_add_100 : decode cX2_add 100 = .ok (.getfield 53, 3) := by decide +kernel
theorem dX2_add_103 : decode cX2_add 103 = .ok (.iconst 0, 1) := by decide +kernel
theorem dX2_add_104 : decode cX2_add 104 = .ok (.iastore, 1) := by decide +kernel
theorem dX2_add_105 : decode cX2_add 105 = .ok (.aload_n 0, 1) := by decide +kernel
theorem dX2_add_106 : decode cX2_add 106 = .ok (.getfield 33, 3) := by decide +kernel
theorem dX2_add_109 : decode cX2_add 109 = .ok (.aload_n 0, 1) := by decide +kernel
theorem dX2_add_110 : decode cX2_add 110 = .ok (.getfield 53, 3) := by decide +kernel
theorem dX2_add_113 : decode cX2_add 113 = .ok (.iconst (-1), 1) := by decide +kernel
theorem dX2_add_114 : decode cX2_add 114 = .ok (.iastore, 1) := by decide +kernel
theorem dX2_add_115 : decode cX2_add 115 = .ok (.aload_n 0, 1) := by decide +kernel
theorem dX2_add_116 : decode cX2_add 116 = .ok (.getfield 36, 3) := by decide +kernel
theorem dX2_add_119 : decode cX2_add 119 = .ok (.aload_n 0, 1) := by decide +kernel
theorem dX2_add_120 : decode cX2_add 120 = .ok (.getfield 53, 3) := by decide +kernel
theorem dX2_add_123 : decode cX2_add 123 = .ok (.iconst (-1), 1) := by decide +kernel
theorem dX2_add_124 : decode cX2_add 124 = .ok (.iastore, 1) := by decide +kernel
theorem dX2_add_125 : decode cX2_add 125 = .ok (.aload_n 0, 1) := by decide +kernel
theorem dX2_add_126 : decode cX2_add 126 = .ok (.getfield 39, 3) := by decide +kernel
theorem dX2_add_129 : decode cX2_add 129 = .ok (.aload_n 0, 1) := by decide +kernel
theorem dX2_add_130 : decode cX2_add 130 = .ok (.getfield 53, 3) := by decide +kernel
theorem dX2_add_133 : decode cX2_add 133 = .ok (.iconst 0, 1) := by decide +kernel
theorem dX2_add_134 : decode cX2_add 134 = .ok (.iastore, 1) := by decide +kernel
theorem dX2_add_135 : decode cX2_add 135 = .ok (.aload_n 0, 1) := by decide +kernel
theorem dX2_add_136 : decode cX2_add 136 = .ok (.getfield 42, 3) := by decide +kernel
theorem dX2_add_139 : decode cX2_add 139 = .ok (.aload_n 0, 1) := by decide +kernel
theorem dX2_add_140 : decode cX2_add 140 = .ok (.getfield 53, 3) := by decide +kernel
theorem dX2_add_143 : decode cX2_add 143 = .ok (.iload_n 3, 1) := by decide +kernel
theorem dX2_add_144 : decode cX2_add 144 = .ok (.iastore, 1) := by decide +kernel
theorem dX2_add_145 : decode cX2_add 145 = .ok (.aload_n 0, 1) := by decide +kernel
theorem dX2_add_146 : decode cX2_add 146 = .ok (.getfield 45, 3) := by decide +kernel
theorem dX2_add_149 : decode cX2_add 149 = .ok (.aload_n 0, 1) := by decide +kernel
theorem dX2_add_150 : decode cX2_add 150 = .ok (.getfield 53, 3) := by decide +kernel
theorem dX2_add_153 : decode cX2_add 153 = .ok (.iconst (-1), 1) := by decide +kernel
theorem dX2_add_154 : decode cX2_add 154 = .ok (.iastore, 1) := by decide +kernel
theorem dX2_add_155 : decode cX2_add 155 = .ok (.aload_n 0, 1) := by decide +kernel
theorem dX2_add_156 : decode cX2_add 156 = .ok (.dup, 1) := by decide +kernel
theorem dX2_add_157 : decode cX2_add 157 = .ok (.getfield 53, 3) := by decide +kernel
theorem dX2_add_160 : decode cX2_add 160 = .ok (.iconst 1, 1) := by decide +kernel
theorem dX2_add_161 : decode cX2_add 161 = .ok (.iadd, 1) := by decide +kernel
theorem dX2_add_162 : decode cX2_add 162 = .ok (.putfield 53, 3) := by decide +kernel
theorem dX2_add_165 : decode cX2_add 165 = .ok (.aload_n 0, 1) := by decide +kernel
theorem dX2_add_166 : decode cX2_add 166 = .ok (.getfield 53, 3) := by decide +kernel
theorem dX2_add_169 : decode cX2_add 169 = .ok (.iconst 1, 1) := by decide +kernel
theorem dX2_add_170 : decode cX2_add 170 = .ok (.isub, 1) := by decide +kernel
theorem dX2_add_171 : decode cX2_add 171 = .ok (.ireturn, 1) := by decide +kernel
theorem dX2_milesApart_0 : decode cX2_milesApart 0 = .ok (.aload_n 0, 1) := by decide +kernel
theorem dX2_milesApart_1 : decode cX2_milesApart 1 = .ok (.iload_n 1, 1) := by decide +kernel
theorem dX2_milesApart_2 : decode cX2_milesApart 2 = .ok (.invokevirtual 57, 3) := by decide +kernel
theorem dX2_milesApart_5 : decode cX2_milesApart 5 = .ok (.ifCond .eq 32, 3) := by decide +kernel
theorem dX2_milesApart_8 : decode cX2_milesApart 8 = .ok (.aload_n 0, 1) := by decide +kernel
theorem dX2_milesApart_9 : decode cX2_milesApart 9 = .ok (.iload_n 2, 1) := by decide +kernel
theorem dX2_milesApart_10 : decode cX2_milesApart 10 = .ok (.invokevirtual 57, 3) := by decide +kernel
theorem dX2_milesApart_13 : decode cX2_milesApart 13 = .ok (.ifCond .eq 24, 3) := by decide +kernel
theorem dX2_milesApart_16 : decode cX2_milesApart 16 = .ok (.aload_n 0, 1) := by decide +kernel
theorem dX2_milesApart_17 : decode cX2_milesApart 17 = .ok (.getfield 50, 3) := by decide +kernel
theorem dX2_milesApart_20 : decode cX2_milesApart 20 = .ok (.aload_n 0, 1) := by decide +kernel
theorem dX2_milesApart_21 : decode cX2_milesApart 21 = .ok (.getfield 27, 3) := by decide +kernel
theorem dX2_milesApart_24 : decode cX2_milesApart 24 = .ok (.iload_n 1, 1) := by decide +kernel
theorem dX2_milesApart_25 : decode cX2_milesApart 25 = .ok (.iaload, 1) := by decide +kernel
theorem dX2_milesApart_26 : decode cX2_milesApart 26 = .ok (.aaload, 1) := by decide +kernel
theorem dX2_milesApart_27 : decode cX2_milesApart 27 = .ok (.aload_n 0, 1) := by decide +kernel
theorem dX2_milesApart_28 : decode cX2_milesApart 28 = .ok (.getfield 27, 3) := by decide +kernel
theorem dX2_milesApart_31 : decode cX2_milesApart 31 = .ok (.iload_n 2, 1) := by decide +kernel
theorem dX2_milesApart_32 : decode cX2_milesApart 32 = .ok (.iaload, 1) := by decide +kernel
theorem dX2_milesApart_33 : decode cX2_milesApart 33 = .ok (.iaload, 1) := by decide +kernel
theorem dX2_milesApart_34 : decode cX2_milesApart 34 = .ok (.goto 4, 3) := by decide +kernel
theorem dX2_milesApart_37 : decode cX2_milesApart 37 = .ok (.iconst 0, 1) := by decide +kernel
theorem dX2_milesApart_38 : decode cX2_milesApart 38 = .ok (.ireturn, 1) := by decide +kernel
theorem dX3_init_0 : decode cX3_init 0 = .ok (.aload_n 0, 1) := by decide +kernel
theorem dX3_init_1 : decode cX3_init 1 = .ok (.invokespecial 3, 3) := by decide +kernel
theorem dX3_init_4 : decode cX3_init 4 = .ok (.aload_n 0, 1) := by decide +kernel
theorem dX3_init_5 : decode cX3_init 5 = .ok (.sipush 201, 3) := by decide +kernel
theorem dX3_init_8 : decode cX3_init 8 = .ok (.newarray .int, 2) := by decide +kernel
theorem dX3_init_10 : decode cX3_init 10 = .ok (.putfield 9, 3) := by decide +kernel
theorem dX3_init_13 : decode cX3_init 13 = .ok (.aload_n 0, 1) := by decide +kernel
theorem dX3_init_14 : decode cX3_init 14 = .ok (.sipush 201, 3) := by decide +kernel
theorem dX3_init_17 : decode cX3_init 17 = .ok (.newarray .int, 2) := by decide +kernel
theorem dX3_init_19 : decode cX3_init 19 = .ok (.putfield 15, 3) := by decide +kernel
theorem dX3_init_22 : decode cX3_init 22 = .ok (.aload_n 0, 1) := by decide +kernel
theorem dX3_init_23 : decode cX3_init 23 = .ok (.sipush 201, 3) := by decide +kernel
theorem dX3_init_26 : decode cX3_init 26 = .ok (.newarray .int, 2) := by decide +kernel
theorem dX3_init_28 : decode cX3_init 28 = .ok (.putfield 18, 3) := by decide +kernel
theorem dX3_init_31 : decode cX3_init 31 = .ok (.return_, 1) := by decide +kernel
theorem dX3_addBoat_0 : decode cX3_addBoat 0 = .ok (.aload_n 0, 1) := by decide +kernel
theorem dX3_addBoat_1 : decode cX3_addBoat 1 = .ok (.getfield 21, 3) := by decide +kernel
theorem dX3_addBoat_4 : decode cX3_addBoat 4 = .ok (.bipush 40, 2) := by decide +kernel
theorem dX3_addBoat_6 : decode cX3_addBoat 6 = .ok (.if_icmp .lt 5, 3) := by decide +kernel
theorem dX3_addBoat_9 : decode cX3_addBoat 9 = .ok (.iconst (-1), 1) := by decide +kernel
theorem dX3_addBoat_10 : decode cX3_addBoat 10 = .ok (.ireturn, 1) := by decide +kernel
theorem dX3_addBoat_11 : decode cX3_addBoat 11 = .ok (.aload_n 0, 1) := by decide +kernel
theorem dX3_addBoat_12 : decode cX3_addBoat 12 = .ok (.getfield 9, 3) := by decide +kernel
theorem dX3_addBoat_15 : decode cX3_addBoat 15 = .ok (.iload_n 1, 1) := by decide +kernel
theorem dX3_addBoat_16 : decode cX3_addBoat 16 = .ok (.dup2, 1) := by decide +kernel
theorem dX3_addBoat_17 : decode cX3_addBoat 17 = .ok (.iaload, 1) := by decide +kernel
theorem dX3_addBoat_18 : decode cX3_addBoat 18 = .ok (.iload_n 2, 1) := by decide +kernel
theorem dX3_addBoat_19 : decode cX3_addBoat 19 = .ok (.iadd, 1) := by decide +kernel
theorem dX3_addBoat_20 : decode cX3_addBoat 20 = .ok (.iastore, 1) := by decide +kernel
theorem dX3_addBoat_21 : decode cX3_addBoat 21 = .ok (.aload_n 0, 1) := by decide +kernel
theorem dX3_addBoat_22 : decode cX3_addBoat 22 = .ok (.getfield 15, 3) := by decide +kernel
theorem dX3_addBoat_25 : decode cX3_addBoat 25 = .ok (.iload_n 1, 1) := by decide +kernel
theorem dX3_addBoat_26 : decode cX3_addBoat 26 = .ok (.dup2, 1) := by decide +kernel
theorem dX3_addBoat_27 : decode cX3_addBoat 27 = .ok (.iaload, 1) := by decide +kernel
theorem dX3_addBoat_28 : decode cX3_addBoat 28 = .ok (.iload_n 3, 1) := by decide +kernel
theorem dX3_addBoat_29 : decode cX3_addBoat 29 = .ok (.iadd, 1) := by decide +kernel
theorem dX3_addBoat_30 : decode cX3_addBoat 30 = .ok (.iastore, 1) := by decide +kernel
theorem dX3_addBoat_31 : decode cX3_addBoat 31 = .ok (.aload_n 0, 1) := by decide +kernel
theorem dX3_addBoat_32 : decode cX3_addBoat 32 = .ok (.dup, 1) := by decide +kernel
theorem dX3_addBoat_33 : decode cX3_addBoat 33 = .ok (.getfield 21, 3) := by decide +kernel
theorem dX3_addBoat_36 : decode cX3_addBoat 36 = .ok (.iconst 1, 1) := by decide +kernel
theorem dX3_addBoat_37 : decode cX3_addBoat 37 = .ok (.iadd, 1) := by decide +kernel
theorem dX3_addBoat_38 : decode cX3_addBoat 38 = .ok (.putfield 21, 3) := by decide +kernel
theorem dX3_addBoat_41 : decode cX3_addBoat 41 = .ok (.aload_n 0, 1) := by decide +kernel
theorem dX3_addBoat_42 : decode cX3_addBoat 42 = .ok (.getfield 21, 3) := by decide +kernel
theorem dX3_addBoat_45 : decode cX3_addBoat 45 = .ok (.ireturn, 1) := by decide +kernel
theorem dX3_addBeds_0 : decode cX3_addBeds 0 = .ok (.aload_n 0, 1) := by decide +kernel
theorem dX3_addBeds_1 : decode cX3_addBeds 1 = .ok (.getfield 25, 3) := by decide +kernel
theorem dX3_addBeds_4 : decode cX3_addBeds 4 = .ok (.bipush 40, 2) := by decide +kernel
theorem dX3_addBeds_6 : decode cX3_addBeds 6 = .ok (.if_icmp .lt 5, 3) := by decide +kernel
theorem dX3_addBeds_9 : decode cX3_addBeds 9 = .ok (.iconst (-1), 1) := by decide +kernel
theorem dX3_addBeds_10 : decode cX3_addBeds 10 = .ok (.ireturn, 1) := by decide +kernel
theorem dX3_addBeds_11 : decode cX3_addBeds 11 = .ok (.aload_n 0, 1) := by decide +kernel
theorem dX3_addBeds_12 : decode cX3_addBeds 12 = .ok (.getfield 18, 3) := by decide +kernel
theorem dX3_addBeds_15 : decode cX3_addBeds 15 = .ok (.iload_n 1, 1) := by decide +kernel
theorem dX3_addBeds_16 : decode cX3_addBeds 16 = .ok (.dup2, 1) := by decide +kernel
theorem dX3_addBeds_17 : decode cX3_addBeds 17 = .ok (.iaload, 1) := by decide +kernel
theorem dX3_addBeds_18 : decode cX3_addBeds 18 = .ok (.iload_n 2, 1) := by decide +kernel
theorem dX3_addBeds_19 : decode cX3_addBeds 19 = .ok (.iadd, 1) := by decide +kernel
theorem dX3_addBeds_20 : decode cX3_addBeds 20 = .ok (.iastore, 1) := by decide +kernel
theorem dX3_addBeds_21 : decode cX3_addBeds 21 = .ok (.aload_n 0, 1) := by decide +kernel
theorem dX3_addBeds_22 : decode cX3_addBeds 22 = .ok (.dup, 1) := by decide +kernel
theorem dX3_addBeds_23 : decode cX3_addBeds 23 = .ok (.getfield 25, 3) := by decide +kernel
theorem dX3_addBeds_26 : decode cX3_addBeds 26 = .ok (.iconst 1, 1) := by decide +kernel
theorem dX3_addBeds_27 : decode cX3_addBeds 27 = .ok (.iadd, 1) := by decide +kernel
theorem dX3_addBeds_28 : decode cX3_addBeds 28 = .ok (.putfield 25, 3) := by decide +kernel
theorem dX3_addBeds_31 : decode cX3_addBeds 31 = .ok (.aload_n 0, 1) := by decide +kernel
theorem dX3_addBeds_32 : decode cX3_addBeds 32 = .ok (.getfield 25, 3) := by decide +kernel
theorem dX3_addBeds_35 : decode cX3_addBeds 35 = .ok (.ireturn, 1) := by decide +kernel
theorem dX3_mostAbove_0 : decode cX3_mostAbove 0 = .ok (.iload_n 2, 1) := by decide +kernel
theorem dX3_mostAbove_1 : decode cX3_mostAbove 1 = .ok (.istore 6, 2) := by decide +kernel
theorem dX3_mostAbove_3 : decode cX3_mostAbove 3 = .ok (.iload_n 3, 1) := by decide +kernel
theorem dX3_mostAbove_4 : decode cX3_mostAbove 4 = .ok (.istore 7, 2) := by decide +kernel
theorem dX3_mostAbove_6 : decode cX3_mostAbove 6 = .ok (.iconst 0, 1) := by decide +kernel
theorem dX3_mostAbove_7 : decode cX3_mostAbove 7 = .ok (.istore 8, 2) := by decide +kernel
theorem dX3_mostAbove_9 : decode cX3_mostAbove 9 = .ok (.iload 4, 2) := by decide +kernel
theorem dX3_mostAbove_11 : decode cX3_mostAbove 11 = .ok (.istore 9, 2) := by decide +kernel
theorem dX3_mostAbove_13 : decode cX3_mostAbove 13 = .ok (.iload 9, 2) := by decide +kernel
theorem dX3_mostAbove_15 : decode cX3_mostAbove 15 = .ok (.iload 5, 2) := by decide +kernel
theorem dX3_mostAbove_17 : decode cX3_mostAbove 17 = .ok (.if_icmp .gt 46, 3) := by decide +kernel
theorem dX3_mostAbove_20 : decode cX3_mostAbove 20 = .ok (.iload 6, 2) := by decide +kernel
theorem dX3_mostAbove_22 : decode cX3_mostAbove 22 = .ok (.aload_n 1, 1) := by decide +kernel
theorem dX3_mostAbove_23 : decode cX3_mostAbove 23 = .ok (.iload 9, 2) := by decide +kernel
theorem dX3_mostAbove_25 : decode cX3_mostAbove 25 = .ok (.iaload, 1) := by decide +kernel
theorem dX3_mostAbove_26 : decode cX3_mostAbove 26 = .ok (.iadd, 1) := by decide +kernel
theorem dX3_mostAbove_27 : decode cX3_mostAbove 27 = .ok (.istore 6, 2) := by decide +kernel
theorem dX3_mostAbove_29 : decode cX3_mostAbove 29 = .ok (.iload 7, 2) := by decide +kernel
theorem dX3_mostAbove_31 : decode cX3_mostAbove 31 = .ok (.aload_n 0, 1) := by decide +kernel
theorem dX3_mostAbove_32 : decode cX3_mostAbove 32 = .ok (.getfield 18, 3) := by decide +kernel
theorem dX3_mostAbove_35 : decode cX3_mostAbove 35 = .ok (.iload 9, 2) := by decide +kernel
theorem dX3_mostAbove_37 : decode cX3_mostAbove 37 = .ok (.iaload, 1) := by decide +kernel
theorem dX3_mostAbove_38 : decode cX3_mostAbove 38 = .ok (.iadd, 1) := by decide +kernel
theorem dX3_mostAbove_39 : decode cX3_mostAbove 39 = .ok (.istore 7, 2) := by decide +kernel
theorem dX3_mostAbove_41 : decode cX3_mostAbove 41 = .ok (.iload 8, 2) := by decide +kernel
theorem dX3_mostAbove_43 : decode cX3_mostAbove 43 = .ok (.iload 6, 2) := by decide +kernel
theorem dX3_mostAbove_45 : decode cX3_mostAbove 45 = .ok (.iconst 0, 1) := by decide +kernel
theorem dX3_mostAbove_46 : decode cX3_mostAbove 46 = .ok (.iload 7, 2) := by decide +kernel
theorem dX3_mostAbove_48 : decode cX3_mostAbove 48 = .ok (.invokestatic 28, 3) := by decide +kernel
theorem dX3_mostAbove_51 : decode cX3_mostAbove 51 = .ok (.isub, 1) := by decide +kernel
theorem dX3_mostAbove_52 : decode cX3_mostAbove 52 = .ok (.invokestatic 28, 3) := by decide +kernel
theorem dX3_mostAbove_55 : decode cX3_mostAbove 55 = .ok (.istore 8, 2) := by decide +kernel
theorem dX3_mostAbove_57 : decode cX3_mostAbove 57 = .ok (.iinc 9 1, 3) := by decide +kernel
theorem dX3_mostAbove_60 : decode cX3_mostAbove 60 = .ok (.goto (-47), 3) := by decide +kernel
theorem dX3_mostAbove_63 : decode cX3_mostAbove 63 = .ok (.iload 8, 2) := by decide +kernel
theorem dX3_mostAbove_65 : decode cX3_mostAbove 65 = .ok (.ireturn, 1) := by decide +kernel
theorem dX3_firstAbove_0 : decode cX3_firstAbove 0 = .ok (.iload_n 1, 1) := by decide +kernel
theorem dX3_firstAbove_1 : decode cX3_firstAbove 1 = .ok (.istore 5, 2) := by decide +kernel
theorem dX3_firstAbove_3 : decode cX3_firstAbove 3 = .ok (.iload_n 2, 1) := by decide +kernel
theorem dX3_firstAbove_4 : decode cX3_firstAbove 4 = .ok (.istore 6, 2) := by decide +kernel
theorem dX3_firstAbove_6 : decode cX3_firstAbove 6 = .ok (.iload_n 3, 1) := by decide +kernel
theorem dX3_firstAbove_7 : decode cX3_firstAbove 7 = .ok (.istore 7, 2) := by decide +kernel
theorem dX3_firstAbove_9 : decode cX3_firstAbove 9 = .ok (.iload 7, 2) := by decide +kernel
theorem dX3_firstAbove_11 : decode cX3_firstAbove 11 = .ok (.iload 4, 2) := by decide +kernel
theorem dX3_firstAbove_13 : decode cX3_firstAbove 13 = .ok (.if_icmp .gt 48, 3) := by decide +kernel
theorem dX3_firstAbove_16 : decode cX3_firstAbove 16 = .ok (.iload 5, 2) := by decide +kernel
theorem dX3_firstAbove_18 : decode cX3_firstAbove 18 = .ok (.aload_n 0, 1) := by decide +kernel
theorem dX3_firstAbove_19 : decode cX3_firstAbove 19 = .ok (.getfield 15, 3) := by decide +kernel
theorem dX3_firstAbove_22 : decode cX3_firstAbove 22 = .ok (.iload 7, 2) := by decide +kernel
theorem dX3_firstAbove_24 : decode cX3_firstAbove 24 = .ok (.iaload, 1) := by decide +kernel
theorem dX3_firstAbove_25 : decode cX3_firstAbove 25 = .ok (.iadd, 1) := by decide +kernel
theorem dX3_firstAbove_26 : decode cX3_firstAbove 26 = .ok (.istore 5, 2) := by decide +kernel
theorem dX3_firstAbove_28 : decode cX3_firstAbove 28 = .ok (.iload 6, 2) := by decide +kernel
theorem dX3_firstAbove_30 : decode cX3_firstAbove 30 = .ok (.aload_n 0, 1) := by decide +kernel
theorem dX3_firstAbove_31 : decode cX3_firstAbove 31 = .ok (.getfield 18, 3) := by decide +kernel
theorem dX3_firstAbove_34 : decode cX3_firstAbove 34 = .ok (.iload 7, 2) := by decide +kernel
theorem dX3_firstAbove_36 : decode cX3_firstAbove 36 = .ok (.iaload, 1) := by decide +kernel
theorem dX3_firstAbove_37 : decode cX3_firstAbove 37 = .ok (.iadd, 1) := by decide +kernel
theorem dX3_firstAbove_38 : decode cX3_firstAbove 38 = .ok (.istore 6, 2) := by decide +kernel
theorem dX3_firstAbove_40 : decode cX3_firstAbove 40 = .ok (.iload 5, 2) := by decide +kernel
theorem dX3_firstAbove_42 : decode cX3_firstAbove 42 = .ok (.iconst 0, 1) := by decide +kernel
theorem dX3_firstAbove_43 : decode cX3_firstAbove 43 = .ok (.iload 6, 2) := by decide +kernel
theorem dX3_firstAbove_45 : decode cX3_firstAbove 45 = .ok (.invokestatic 28, 3) := by decide +kernel
theorem dX3_firstAbove_48 : decode cX3_firstAbove 48 = .ok (.isub, 1) := by decide +kernel
theorem dX3_firstAbove_49 : decode cX3_firstAbove 49 = .ok (.ifCond .le 6, 3) := by decide +kernel
theorem dX3_firstAbove_52 : decode cX3_firstAbove 52 = .ok (.iload 7, 2) := by decide +kernel
theorem dX3_firstAbove_54 : decode cX3_firstAbove 54 = .ok (.ireturn, 1) := by decide +kernel
theorem dX3_firstAbove_55 : decode cX3_firstAbove 55 = .ok (.iinc 7 1, 3) := by decide +kernel
theorem dX3_firstAbove_58 : decode cX3_firstAbove 58 = .ok (.goto (-49), 3) := by decide +kernel
theorem dX3_firstAbove_61 : decode cX3_firstAbove 61 = .ok (.iconst (-1), 1) := by decide +kernel
theorem dX3_firstAbove_62 : decode cX3_firstAbove 62 = .ok (.ireturn, 1) := by decide +kernel
theorem dX4_init_0 : decode cX4_init 0 = .ok (.aload_n 0, 1) := by decide +kernel
theorem dX4_init_1 : decode cX4_init 1 = .ok (.invokespecial 3, 3) := by decide +kernel
theorem dX4_init_4 : decode cX4_init 4 = .ok (.aload_n 0, 1) := by decide +kernel
theorem dX4_init_5 : decode cX4_init 5 = .ok (.bipush 24, 2) := by decide +kernel
theorem dX4_init_7 : decode cX4_init 7 = .ok (.newarray .int, 2) := by decide +kernel
theorem dX4_init_9 : decode cX4_init 9 = .ok (.putfield 9, 3) := by decide +kernel
theorem dX4_init_12 : decode cX4_init 12 = .ok (.aload_n 0, 1) := by decide +kernel
theorem dX4_init_13 : decode cX4_init 13 = .ok (.bipush 24, 2) := by decide +kernel
theorem dX4_init_15 : decode cX4_init 15 = .ok (.newarray .int, 2) := by decide +kernel
theorem dX4_init_17 : decode cX4_init 17 = .ok (.putfield 15, 3) := by decide +kernel
theorem dX4_init_20 : decode cX4_init 20 = .ok (.aload_n 0, 1) := by decide +kernel
theorem dX4_init_21 : decode cX4_init 21 = .ok (.bipush 24, 2) := by decide +kernel
theorem dX4_init_23 : decode cX4_init 23 = .ok (.newarray .int, 2) := by decide +kernel
theorem dX4_init_25 : decode cX4_init 25 = .ok (.putfield 18, 3) := by decide +kernel
theorem dX4_init_28 : decode cX4_init 28 = .ok (.aload_n 0, 1) := by decide +kernel
theorem dX4_init_29 : decode cX4_init 29 = .ok (.bipush 24, 2) := by decide +kernel
theorem dX4_init_31 : decode cX4_init 31 = .ok (.newarray .int, 2) := by decide +kernel
theorem dX4_init_33 : decode cX4_init 33 = .ok (.putfield 21, 3) := by decide +kernel
theorem dX4_init_36 : decode cX4_init 36 = .ok (.aload_n 0, 1) := by decide +kernel
theorem dX4_init_37 : decode cX4_init 37 = .ok (.bipush 24, 2) := by decide +kernel
theorem dX4_init_39 : decode cX4_init 39 = .ok (.newarray .int, 2) := by decide +kernel
theorem dX4_init_41 : decode cX4_init 41 = .ok (.putfield 24, 3) := by decide +kernel
theorem dX4_init_44 : decode cX4_init 44 = .ok (.aload_n 0, 1) := by decide +kernel
theorem dX4_init_45 : decode cX4_init 45 = .ok (.bipush 24, 2) := by decide +kernel
theorem dX4_init_47 : decode cX4_init 47 = .ok (.newarray .int, 2) := by decide +kernel
theorem dX4_init_49 : decode cX4_init 49 = .ok (.putfield 27, 3) := by decide +kernel
theorem dX4_init_52 : decode cX4_init 52 = .ok (.aload_n 0, 1) := by decide +kernel
theorem dX4_init_53 : decode cX4_init 53 = .ok (.bipush 24, 2) := by decide +kernel
theorem dX4_init_55 : decode cX4_init 55 = .ok (.newarray .int, 2) := by decide +kernel
theorem dX4_init_57 : decode cX4_init 57 = .ok (.putfield 30, 3) := by decide +kernel
theorem dX4_init_60 : decode cX4_init 60 = .ok (.return_, 1) := by decide +kernel
theorem dX4_has_0 : decode cX4_has 0 = .ok (.iload_n 1, 1) := by decide +kernel
theorem dX4_has_1 : decode cX4_has 1 = .ok (.ifCond .lt 21, 3) := by decide +kernel
theorem dX4_has_4 : decode cX4_has 4 = .ok (.iload_n 1, 1) := by decide +kernel
theorem dX4_has_5 : decode cX4_has 5 = .ok (.aload_n 0, 1) := by decide +kernel
theorem dX4_has_6 : decode cX4_has 6 = .ok (.getfield 33, 3) := by decide +kernel
theorem dX4_has_9 : decode cX4_has 9 = .ok (.if_icmp .ge 13, 3) := by decide +kernel
theorem dX4_has_12 : decode cX4_has 12 = .ok (.iload_n 1, 1) := by decide +kernel
theorem dX4_has_13 : decode cX4_has 13 = .ok (.bipush 24, 2) := by decide +kernel
theorem dX4_has_15 : decode cX4_has 15 = .ok (.if_icmp .ge 7, 3) := by decide +kernel
theorem dX4_has_18 : decode cX4_has 18 = .ok (.iconst 1, 1) := by decide +kernel
theorem dX4_has_19 : decode cX4_has 19 = .ok (.goto 4, 3) := by decide +kernel
theorem dX4_has_22 : decode cX4_has 22 = .ok (.iconst 0, 1) := by decide +kernel
theorem dX4_has_23 : decode cX4_has 23 = .ok (.ireturn, 1) := by decide +kernel
theorem dX4_add_0 : decode cX4_add 0 = .ok (.aload_n 0, 1) := by decide +kernel
theorem dX4_add_1 : decode cX4_add 1 = .ok (.getfield 33, 3) := by decide +kernel
theorem dX4_add_4 : decode cX4_add 4 = .ok (.bipush 24, 2) := by decide +kernel
theorem dX4_add_6 : decode cX4_add 6 = .ok (.if_icmp .lt 5, 3) := by decide +kernel
theorem dX4_add_9 : decode cX4_add 9 = .ok (.iconst (-1), 1) := by decide +kernel
theorem dX4_add_10 : decode cX4_add 10 = .ok (.ireturn, 1) := by decide +kernel
theorem dX4_add_11 : decode cX4_add 11 = .ok (.aload_n 0, 1) := by decide +kernel
theorem dX4_add_12 : decode cX4_add 12 = .ok (.getfield 9, 3) := by decide +kernel
theorem dX4_add_15 : decode cX4_add 15 = .ok (.aload_n 0, 1) := by decide +kernel
theorem dX4_add_16 : decode cX4_add 16 = .ok (.getfield 33, 3) := by decide +kernel
theorem dX4_add_19 : decode cX4_add 19 = .ok (.iload_n 1, 1) := by decide +kernel
theorem dX4_add_20 : decode cX4_add 20 = .ok (.iastore, 1) := by decide +kernel
theorem dX4_add_21 : decode cX4_add 21 = .ok (.aload_n 0, 1) := by decide +kernel
theorem dX4_add_22 : decode cX4_add 22 = .ok (.getfield 15, 3) := by decide +kernel
theorem dX4_add_25 : decode cX4_add 25 = .ok (.aload_n 0, 1) := by decide +kernel
theorem dX4_add_26 : decode cX4_add 26 = .ok (.getfield 33, 3) := by decide +kernel
theorem dX4_add_29 : decode cX4_add 29 = .ok (.iload_n 2, 1) := by decide +kernel
theorem dX4_add_30 : decode cX4_add 30 = .ok (.bipush 100, 2) := by decide +kernel
theorem dX4_add_32 : decode cX4_add 32 = .ok (.idiv, 1) := by decide +kernel
theorem dX4_add_33 : decode cX4_add 33 = .ok (.iastore, 1) := by decide +kernel
theorem dX4_add_34 : decode cX4_add 34 = .ok (.aload_n 0, 1) := by decide +kernel
theorem dX4_add_35 : decode cX4_add 35 = .ok (.getfield 18, 3) := by decide +kernel
theorem dX4_add_38 : decode cX4_add 38 = .ok (.aload_n 0, 1) := by decide +kernel
theorem dX4_add_39 : decode cX4_add 39 = .ok (.getfield 33, 3) := by decide +kernel
theorem dX4_add_42 : decode cX4_add 42 = .ok (.iload_n 2, 1) := by decide +kernel
theorem dX4_add_43 : decode cX4_add 43 = .ok (.bipush 10, 2) := by decide +kernel
theorem dX4_add_45 : decode cX4_add 45 = .ok (.idiv, 1) := by decide +kernel
theorem dX4_add_46 : decode cX4_add 46 = .ok (.bipush 10, 2) := by decide +kernel
theorem dX4_add_48 : decode cX4_add 48 = .ok (.irem, 1) := by decide +kernel
theorem dX4_add_49 : decode cX4_add 49 = .ok (.iastore, 1) := by decide +kernel
theorem dX4_add_50 : decode cX4_add 50 = .ok (.aload_n 0, 1) := by decide +kernel
theorem dX4_add_51 : decode cX4_add 51 = .ok (.getfield 21, 3) := by decide +kernel
theorem dX4_add_54 : decode cX4_add 54 = .ok (.aload_n 0, 1) := by decide +kernel
theorem dX4_add_55 : decode cX4_add 55 = .ok (.getfield 33, 3) := by decide +kernel
theorem dX4_add_58 : decode cX4_add 58 = .ok (.iload_n 2, 1) := by decide +kernel
theorem dX4_add_59 : decode cX4_add 59 = .ok (.bipush 10, 2) := by decide +kernel
theorem dX4_add_61 : decode cX4_add 61 = .ok (.irem, 1) := by decide +kernel
theorem dX4_add_62 : decode cX4_add 62 = .ok (.iastore, 1) := by decide +kernel
theorem dX4_add_63 : decode cX4_add 63 = .ok (.aload_n 0, 1) := by decide +kernel
theorem dX4_add_64 : decode cX4_add 64 = .ok (.getfield 24, 3) := by decide +kernel
theorem dX4_add_67 : decode cX4_add 67 = .ok (.aload_n 0, 1) := by decide +kernel
theorem dX4_add_68 : decode cX4_add 68 = .ok (.getfield 33, 3) := by decide +kernel
theorem dX4_add_71 : decode cX4_add 71 = .ok (.iload_n 3, 1) := by decide +kernel
theorem dX4_add_72 : decode cX4_add 72 = .ok (.sipush 1000, 3) := by decide +kernel
theorem dX4_add_75 : decode cX4_add 75 = .ok (.idiv, 1) := by decide +kernel
theorem dX4_add_76 : decode cX4_add 76 = .ok (.iastore, 1) := by decide +kernel
theorem dX4_add_77 : decode cX4_add 77 = .ok (.aload_n 0, 1) := by decide +kernel
theorem dX4_add_78 : decode cX4_add 78 = .ok (.getfield 27, 3) := by decide +kernel
theorem dX4_add_81 : decode cX4_add 81 = .ok (.aload_n 0, 1) := by decide +kernel
theorem dX4_add_82 : decode cX4_add 82 = .ok (.getfield 33, 3) := by decide +kernel
theorem dX4_add_85 : decode cX4_add 85 = .ok (.iload_n 3, 1) := by decide +kernel
theorem dX4_add_86 : decode cX4_add 86 = .ok (.sipush 1000, 3) := by decide +kernel
theorem dX4_add_89 : decode cX4_add 89 = .ok (.irem, 1) := by decide +kernel
theorem dX4_add_90 : decode cX4_add 90 = .ok (.iastore, 1) := by decide +kernel
theorem dX4_add_91 : decode cX4_add 91 = .ok (.aload_n 0, 1) := by decide +kernel
theorem dX4_add_92 : decode cX4_add 92 = .ok (.getfield 30, 3) := by decide +kernel
theorem dX4_add_95 : decode cX4_add 95 = .ok (.aload_n 0, 1) := by decide +kernel
theorem dX4_add_96 : decode cX4_add 96 = .ok (.getfield 33, 3) := by decide +kernel
theorem dX4_add_99 : decode cX4_add 99 = .ok (.iconst (-1), 1) := by decide +kernel
theorem dX4_add_100 : decode cX4_add 100 = .ok (.iastore, 1) := by decide +kernel
theorem dX4_add_101 : decode cX4_add 101 = .ok (.aload_n 0, 1) := by decide +kernel
theorem dX4_add_102 : decode cX4_add 102 = .ok (.dup, 1) := by decide +kernel
theorem dX4_add_103 : decode cX4_add 103 = .ok (.getfield 33, 3) := by decide +kernel
theorem dX4_add_106 : decode cX4_add 106 = .ok (.iconst 1, 1) := by decide +kernel
theorem dX4_add_107 : decode cX4_add 107 = .ok (.iadd, 1) := by decide +kernel
theorem dX4_add_108 : decode cX4_add 108 = .ok (.putfield 33, 3) := by decide +kernel
theorem dX4_add_111 : decode cX4_add 111 = .ok (.aload_n 0, 1) := by decide +kernel
theorem dX4_add_112 : decode cX4_add 112 = .ok (.getfield 33, 3) := by decide +kernel
theorem dX4_add_115 : decode cX4_add 115 = .ok (.iconst 1, 1) := by decide +kernel
theorem dX4_add_116 : decode cX4_add 116 = .ok (.isub, 1) := by decide +kernel
theorem dX4_add_117 : decode cX4_add 117 = .ok (.ireturn, 1) := by decide +kernel
theorem dX5_init_0 : decode cX5_init 0 = .ok (.aload_n 0, 1) := by decide +kernel
theorem dX5_init_1 : decode cX5_init 1 = .ok (.invokespecial 3, 3) := by decide +kernel
theorem dX5_init_4 : decode cX5_init 4 = .ok (.aload_n 0, 1) := by decide +kernel
theorem dX5_init_5 : decode cX5_init 5 = .ok (.iconst (-1), 1) := by decide +kernel
theorem dX5_init_6 : decode cX5_init 6 = .ok (.putfield 9, 3) := by decide +kernel
theorem dX5_init_9 : decode cX5_init 9 = .ok (.aload_n 0, 1) := by decide +kernel
theorem dX5_init_10 : decode cX5_init 10 = .ok (.bipush 10, 2) := by decide +kernel
theorem dX5_init_12 : decode cX5_init 12 = .ok (.newarray .int, 2) := by decide +kernel
theorem dX5_init_14 : decode cX5_init 14 = .ok (.putfield 15, 3) := by decide +kernel
theorem dX5_init_17 : decode cX5_init 17 = .ok (.aload_n 0, 1) := by decide +kernel
theorem dX5_init_18 : decode cX5_init 18 = .ok (.bipush 10, 2) := by decide +kernel
theorem dX5_init_20 : decode cX5_init 20 = .ok (.newarray .int, 2) := by decide +kernel
theorem dX5_init_22 : decode cX5_init 22 = .ok (.putfield 19, 3) := by decide +kernel
theorem dX5_init_25 : decode cX5_init 25 = .ok (.aload_n 0, 1) := by decide +kernel
theorem dX5_init_26 : decode cX5_init 26 = .ok (.bipush 10, 2) := by decide +kernel
theorem dX5_init_28 : decode cX5_init 28 = .ok (.sipush 500, 3) := by decide +kernel
theorem dX5_init_31 : decode cX5_init 31 = .ok (.multianewarray 22 2, 4) := by decide +kernel
theorem dX5_init_35 : decode cX5_init 35 = .ok (.putfield 24, 3) := by decide +kernel
theorem dX5_init_38 : decode cX5_init 38 = .ok (.aload_n 0, 1) := by decide +kernel
theorem dX5_init_39 : decode cX5_init 39 = .ok (.bipush 10, 2) := by decide +kernel
theorem dX5_init_41 : decode cX5_init 41 = .ok (.bipush 6, 2) := by decide +kernel
theorem dX5_init_43 : decode cX5_init 43 = .ok (.multianewarray 22 2, 4) := by decide +kernel
theorem dX5_init_47 : decode cX5_init 47 = .ok (.putfield 27, 3) := by decide +kernel
theorem dX5_init_50 : decode cX5_init 50 = .ok (.aload_n 0, 1) := by decide +kernel
theorem dX5_init_51 : decode cX5_init 51 = .ok (.bipush 10, 2) := by decide +kernel
theorem dX5_init_53 : decode cX5_init 53 = .ok (.bipush 6, 2) := by decide +kernel
theorem dX5_init_55 : decode cX5_init 55 = .ok (.multianewarray 22 2, 4) := by decide +kernel
theorem dX5_init_59 : decode cX5_init 59 = .ok (.putfield 30, 3) := by decide +kernel
theorem dX5_init_62 : decode cX5_init 62 = .ok (.aload_n 0, 1) := by decide +kernel
theorem dX5_init_63 : decode cX5_init 63 = .ok (.bipush 64, 2) := by decide +kernel
theorem dX5_init_65 : decode cX5_init 65 = .ok (.newarray .int, 2) := by decide +kernel
theorem dX5_init_67 : decode cX5_init 67 = .ok (.putfield 33, 3) := by decide +kernel
theorem dX5_init_70 : decode cX5_init 70 = .ok (.return_, 1) := by decide +kernel
theorem dX5_has_0 : decode cX5_has 0 = .ok (.iload_n 1, 1) := by decide +kernel
theorem dX5_has_1 : decode cX5_has 1 = .ok (.ifCond .lt 21, 3) := by decide +kernel
theorem dX5_has_4 : decode cX5_has 4 = .ok (.iload_n 1, 1) := by decide +kernel
theorem dX5_has_5 : decode cX5_has 5 = .ok (.aload_n 0, 1) := by decide +kernel
theorem dX5_has_6 : decode cX5_has 6 = .ok (.getfield 36, 3) := by decide +kernel
theorem dX5_has_9 : decode cX5_has 9 = .ok (.if_icmp .ge 13, 3) := by decide +kernel
theorem dX5_has_12 : decode cX5_has 12 = .ok (.iload_n 1, 1) := by decide +kernel
theorem dX5_has_13 : decode cX5_has 13 = .ok (.bipush 10, 2) := by decide +kernel
theorem dX5_has_15 : decode cX5_has 15 = .ok (.if_icmp .ge 7, 3) := by decide +kernel
theorem dX5_has_18 : decode cX5_has 18 = .ok (.iconst 1, 1) := by decide +kernel
theorem dX5_has_19 : decode cX5_has 19 = .ok (.goto 4, 3) := by decide +kernel
theorem dX5_has_22 : decode cX5_has 22 = .ok (.iconst 0, 1) := by decide +kernel
theorem dX5_has_23 : decode cX5_has 23 = .ok (.ireturn, 1) := by decide +kernel
theorem dX5_enact_0 : decode cX5_enact 0 = .ok (.aload_n 0, 1) := by decide +kernel
theorem dX5_enact_1 : decode cX5_enact 1 = .ok (.getfield 36, 3) := by decide +kernel
theorem dX5_enact_4 : decode cX5_enact 4 = .ok (.bipush 10, 2) := by decide +kernel
theorem dX5_enact_6 : decode cX5_enact 6 = .ok (.if_icmp .lt 5, 3) := by decide +kernel
theorem dX5_enact_9 : decode cX5_enact 9 = .ok (.iconst (-1), 1) := by decide +kernel
theorem dX5_enact_10 : decode cX5_enact 10 = .ok (.ireturn, 1) := by decide +kernel
theorem dX5_enact_11 : decode cX5_enact 11 = .ok (.iconst 0, 1) := by decide +kernel
theorem dX5_enact_12 : decode cX5_enact 12 = .ok (.istore_n 3, 1) := by decide +kernel
theorem dX5_enact_13 : decode cX5_enact 13 = .ok (.iload_n 3, 1) := by decide +kernel
theorem dX5_enact_14 : decode cX5_enact 14 = .ok (.aload_n 1, 1) := by decide +kernel
theorem dX5_enact_15 : decode cX5_enact 15 = .ok (.getfield 39, 3) := by decide +kernel
theorem dX5_enact_18 : decode cX5_enact 18 = .ok (.if_icmp .ge 33, 3) := by decide +kernel
theorem dX5_enact_21 : decode cX5_enact 21 = .ok (.iload_n 3, 1) := by decide +kernel
theorem dX5_enact_22 : decode cX5_enact 22 = .ok (.sipush 500, 3) := by decide +kernel
theorem dX5_enact_25 : decode cX5_enact 25 = .ok (.if_icmp .ge 26, 3) := by decide +kernel
theorem dX5_enact_28 : decode cX5_enact 28 = .ok (.aload_n 0, 1) := by decide +kernel
theorem dX5_enact_29 : decode cX5_enact 29 = .ok (.getfield 24, 3) := by decide +kernel
theorem dX5_enact_32 : decode cX5_enact 32 = .ok (.aload_n 0, 1) := by decide +kernel
theorem dX5_enact_33 : decode cX5_enact 33 = .ok (.getfield 36, 3) := by decide +kernel
theorem dX5_enact_36 : decode cX5_enact 36 = .ok (.aaload, 1) := by decide +kernel
theorem dX5_enact_37 : decode cX5_enact 37 = .ok (.iload_n 3, 1) := by decide +kernel
theorem dX5_enact_38 : decode cX5_enact 38 = .ok (.aload_n 1, 1) := by decide +kernel
theorem dX5_enact_39 : decode cX5_enact 39 = .ok (.getfield 44, 3) := by decide +kernel
theorem dX5_enact_42 : decode cX5_enact 42 = .ok (.iload_n 3, 1) := by decide +kernel
theorem dX5_enact_43 : decode cX5_enact 43 = .ok (.iaload, 1) := by decide +kernel
theorem dX5_enact_44 : decode cX5_enact 44 = .ok (.iastore, 1) := by decide +kernel
theorem dX5_enact_45 : decode cX5_enact 45 = .ok (.iinc 3 1, 3) := by decide +kernel
theorem dX5_enact_48 : decode cX5_enact 48 = .ok (.goto (-35), 3) := by decide +kernel
theorem dX5_enact_51 : decode cX5_enact 51 = .ok (.iconst 0, 1) := by decide +kernel
theorem dX5_enact_52 : decode cX5_enact 52 = .ok (.istore_n 3, 1) := by decide +kernel
theorem dX5_enact_53 : decode cX5_enact 53 = .ok (.iload_n 3, 1) := by decide +kernel
theorem dX5_enact_54 : decode cX5_enact 54 = .ok (.bipush 6, 2) := by decide +kernel
theorem dX5_enact_56 : decode cX5_enact 56 = .ok (.if_icmp .ge 43, 3) := by decide +kernel
theorem dX5_enact_59 : decode cX5_enact 59 = .ok (.aload_n 0, 1) := by decide +kernel
theorem dX5_enact_60 : decode cX5_enact 60 = .ok (.getfield 27, 3) := by decide +kernel
theorem dX5_enact_63 : decode cX5_enact 63 = .ok (.aload_n 0, 1) := by decide +kernel
theorem dX5_enact_64 : decode cX5_enact 64 = .ok (.getfield 36, 3) := by decide +kernel
theorem dX5_enact_67 : decode cX5_enact 67 = .ok (.aaload, 1) := by decide +kernel
theorem dX5_enact_68 : decode cX5_enact 68 = .ok (.iload_n 3, 1) := by decide +kernel
theorem dX5_enact_69 : decode cX5_enact 69 = .ok (.aload_n 1, 1) := by decide +kernel
theorem dX5_enact_70 : decode cX5_enact 70 = .ok (.getfield 46, 3) := by decide +kernel
theorem dX5_enact_73 : decode cX5_enact 73 = .ok (.iload_n 3, 1) := by decide +kernel
theorem dX5_enact_74 : decode cX5_enact 74 = .ok (.iaload, 1) := by decide +kernel
theorem dX5_enact_75 : decode cX5_enact 75 = .ok (.iastore, 1) := by decide +kernel
theorem dX5_enact_76 : decode cX5_enact 76 = .ok (.aload_n 0, 1) := by decide +kernel
theorem dX5_enact_77 : decode cX5_enact 77 = .ok (.getfield 30, 3) := by decide +kernel
theorem dX5_enact_80 : decode cX5_enact 80 = .ok (.aload_n 0, 1) := by decide +kernel
theorem dX5_enact_81 : decode cX5_enact 81 = .ok (.getfield 36, 3) := by decide +kernel
theorem dX5_enact_84 : decode cX5_enact 84 = .ok (.aaload, 1) := by decide +kernel
theorem dX5_enact_85 : decode cX5_enact 85 = .ok (.iload_n 3, 1) := by decide +kernel
theorem dX5_enact_86 : decode cX5_enact 86 = .ok (.aload_n 1, 1) := by decide +kernel
theorem dX5_enact_87 : decode cX5_enact 87 = .ok (.getfield 48, 3) := by decide +kernel
theorem dX5_enact_90 : decode cX5_enact 90 = .ok (.iload_n 3, 1) := by decide +kernel
theorem dX5_enact_91 : decode cX5_enact 91 = .ok (.iaload, 1) := by decide +kernel
theorem dX5_enact_92 : decode cX5_enact 92 = .ok (.iastore, 1) := by decide +kernel
theorem dX5_enact_93 : decode cX5_enact 93 = .ok (.iinc 3 1, 3) := by decide +kernel
theorem dX5_enact_96 : decode cX5_enact 96 = .ok (.goto (-43), 3) := by decide +kernel
theorem dX5_enact_99 : decode cX5_enact 99 = .ok (.aload_n 0, 1) := by decide +kernel
theorem dX5_enact_100 : decode cX5_enact 100 = .ok (.getfield 15, 3) := by decide +kernel
theorem dX5_enact_103 : decode cX5_enact 103 = .ok (.aload_n 0, 1) := by decide +kernel
theorem dX5_enact_104 : decode cX5_enact 104 = .ok (.getfield 36, 3) := by decide +kernel
theorem dX5_enact_107 : decode cX5_enact 107 = .ok (.iload_n 2, 1) := by decide +kernel
theorem dX5_enact_108 : decode cX5_enact 108 = .ok (.iastore, 1) := by decide +kernel
theorem dX5_enact_109 : decode cX5_enact 109 = .ok (.aload_n 0, 1) := by decide +kernel
theorem dX5_enact_110 : decode cX5_enact 110 = .ok (.getfield 19, 3) := by decide +kernel
theorem dX5_enact_113 : decode cX5_enact 113 = .ok (.aload_n 0, 1) := by decide +kernel
theorem dX5_enact_114 : decode cX5_enact 114 = .ok (.getfield 36, 3) := by decide +kernel
theorem dX5_enact_117 : decode cX5_enact 117 = .ok (.iconst (-1), 1) := by decide +kernel
theorem dX5_enact_118 : decode cX5_enact 118 = .ok (.iastore, 1) := by decide +kernel
theorem dX5_enact_119 : decode cX5_enact 119 = .ok (.aload_n 0, 1) := by decide +kernel
theorem dX5_enact_120 : decode cX5_enact 120 = .ok (.dup, 1) := by decide +kernel
theorem dX5_enact_121 : decode cX5_enact 121 = .ok (.getfield 36, 3) := by decide +kernel
theorem dX5_enact_124 : decode cX5_enact 124 = .ok (.iconst 1, 1) := by decide +kernel
theorem dX5_enact_125 : decode cX5_enact 125 = .ok (.iadd, 1) := by decide +kernel
theorem dX5_enact_126 : decode cX5_enact 126 = .ok (.putfield 36, 3) := by decide +kernel
theorem dX5_enact_129 : decode cX5_enact 129 = .ok (.aload_n 0, 1) := by decide +kernel
theorem dX5_enact_130 : decode cX5_enact 130 = .ok (.getfield 36, 3) := by decide +kernel
theorem dX5_enact_133 : decode cX5_enact 133 = .ok (.iconst 1, 1) := by decide +kernel
theorem dX5_enact_134 : decode cX5_enact 134 = .ok (.isub, 1) := by decide +kernel
theorem dX5_enact_135 : decode cX5_enact 135 = .ok (.ireturn, 1) := by decide +kernel
theorem dX5_hasClause_0 : decode cX5_hasClause 0 = .ok (.aload_n 0, 1) := by decide +kernel
theorem dX5_hasClause_1 : decode cX5_hasClause 1 = .ok (.iload_n 1, 1) := by decide +kernel
theorem dX5_hasClause_2 : decode cX5_hasClause 2 = .ok (.invokevirtual 50, 3) := by decide +kernel
theorem dX5_hasClause_5 : decode cX5_hasClause 5 = .ok (.ifCond .eq 29, 3) := by decide +kernel
theorem dX5_hasClause_8 : decode cX5_hasClause 8 = .ok (.iload_n 2, 1) := by decide +kernel
theorem dX5_hasClause_9 : decode cX5_hasClause 9 = .ok (.ifCond .lt 25, 3) := by decide +kernel
theorem dX5_hasClause_12 : decode cX5_hasClause 12 = .ok (.iload_n 2, 1) := by decide +kernel
theorem dX5_hasClause_13 : decode cX5_hasClause 13 = .ok (.bipush 6, 2) := by decide +kernel
theorem dX5_hasClause_15 : decode cX5_hasClause 15 = .ok (.if_icmp .ge 19, 3) := by decide +kernel
theorem dX5_hasClause_18 : decode cX5_hasClause 18 = .ok (.aload_n 0, 1) := by decide +kernel
theorem dX5_hasClause_19 : decode cX5_hasClause 19 = .ok (.getfield 27, 3) := by decide +kernel
theorem dX5_hasClause_22 : decode cX5_hasClause 22 = .ok (.iload_n 1, 1) := by decide +kernel
theorem dX5_hasClause_23 : decode cX5_hasClause 23 = .ok (.aaload, 1) := by decide +kernel
theorem dX5_hasClause_24 : decode cX5_hasClause 24 = .ok (.iload_n 2, 1) := by decide +kernel
theorem dX5_hasClause_25 : decode cX5_hasClause 25 = .ok (.iaload, 1) := by decide +kernel
theorem dX5_hasClause_26 : decode cX5_hasClause 26 = .ok (.iconst (-1), 1) := by decide +kernel
theorem dX5_hasClause_27 : decode cX5_hasClause 27 = .ok (.if_icmp .eq 7, 3) := by decide +kernel
theorem dX5_hasClause_30 : decode cX5_hasClause 30 = .ok (.iconst 1, 1) := by decide +kernel
theorem dX5_hasClause_31 : decode cX5_hasClause 31 = .ok (.goto 4, 3) := by decide +kernel
theorem dX5_hasClause_34 : decode cX5_hasClause 34 = .ok (.iconst 0, 1) := by decide +kernel
theorem dX5_hasClause_35 : decode cX5_hasClause 35 = .ok (.ireturn, 1) := by decide +kernel
theorem dX5_inForce_0 : decode cX5_inForce 0 = .ok (.aload_n 0, 1) := by decide +kernel
theorem dX5_inForce_1 : decode cX5_inForce 1 = .ok (.aload_n 0, 1) := by decide +kernel
theorem dX5_inForce_2 : decode cX5_inForce 2 = .ok (.getfield 9, 3) := by decide +kernel
theorem dX5_inForce_5 : decode cX5_inForce 5 = .ok (.iload_n 1, 1) := by decide +kernel
theorem dX5_inForce_6 : decode cX5_inForce 6 = .ok (.invokevirtual 54, 3) := by decide +kernel
theorem dX5_inForce_9 : decode cX5_inForce 9 = .ok (.ifCond .eq 8, 3) := by decide +kernel
theorem dX5_inForce_12 : decode cX5_inForce 12 = .ok (.aload_n 0, 1) := by decide +kernel
theorem dX5_inForce_13 : decode cX5_inForce 13 = .ok (.getfield 9, 3) := by decide +kernel
theorem dX5_inForce_16 : decode cX5_inForce 16 = .ok (.ireturn, 1) := by decide +kernel
theorem dX5_inForce_17 : decode cX5_inForce 17 = .ok (.aload_n 0, 1) := by decide +kernel
theorem dX5_inForce_18 : decode cX5_inForce 18 = .ok (.getfield 36, 3) := by decide +kernel
theorem dX5_inForce_21 : decode cX5_inForce 21 = .ok (.iconst 1, 1) := by decide +kernel
theorem dX5_inForce_22 : decode cX5_inForce 22 = .ok (.isub, 1) := by decide +kernel
theorem dX5_inForce_23 : decode cX5_inForce 23 = .ok (.istore_n 3, 1) := by decide +kernel
theorem dX5_inForce_24 : decode cX5_inForce 24 = .ok (.iload_n 3, 1) := by decide +kernel
theorem dX5_inForce_25 : decode cX5_inForce 25 = .ok (.ifCond .lt 62, 3) := by decide +kernel
theorem dX5_inForce_28 : decode cX5_inForce 28 = .ok (.aload_n 0, 1) := by decide +kernel
theorem dX5_inForce_29 : decode cX5_inForce 29 = .ok (.getfield 15, 3) := by decide +kernel
theorem dX5_inForce_32 : decode cX5_inForce 32 = .ok (.iload_n 3, 1) := by decide +kernel
theorem dX5_inForce_33 : decode cX5_inForce 33 = .ok (.iaload, 1) := by decide +kernel
theorem dX5_inForce_34 : decode cX5_inForce 34 = .ok (.iload_n 2, 1) := by decide +kernel
theorem dX5_inForce_35 : decode cX5_inForce 35 = .ok (.if_icmp .gt 27, 3) := by decide +kernel
theorem dX5_inForce_38 : decode cX5_inForce 38 = .ok (.aload_n 0, 1) := by decide +kernel
theorem dX5_inForce_39 : decode cX5_inForce 39 = .ok (.getfield 19, 3) := by decide +kernel
theorem dX5_inForce_42 : decode cX5_inForce 42 = .ok (.iload_n 3, 1) := by decide +kernel
theorem dX5_inForce_43 : decode cX5_inForce 43 = .ok (.iaload, 1) := by decide +kernel
theorem dX5_inForce_44 : decode cX5_inForce 44 = .ok (.iconst (-1), 1) := by decide +kernel
theorem dX5_inForce_45 : decode cX5_inForce 45 = .ok (.if_icmp .eq 13, 3) := by decide +kernel
theorem dX5_inForce_48 : decode cX5_inForce 48 = .ok (.aload_n 0, 1) := by decide +kernel
theorem dX5_inForce_49 : decode cX5_inForce 49 = .ok (.getfield 19, 3) := by decide +kernel
theorem dX5_inForce_52 : decode cX5_inForce 52 = .ok (.iload_n 3, 1) := by decide +kernel
theorem dX5_inForce_53 : decode cX5_inForce 53 = .ok (.iaload, 1) := by decide +kernel
theorem dX5_inForce_54 : decode cX5_inForce 54 = .ok (.iload_n 2, 1) := by decide +kernel
theorem dX5_inForce_55 : decode cX5_inForce 55 = .ok (.if_icmp .le 7, 3) := by decide +kernel
theorem dX5_inForce_58 : decode cX5_inForce 58 = .ok (.iconst 1, 1) := by decide +kernel
theorem dX5_inForce_59 : decode cX5_inForce 59 = .ok (.goto 4, 3) := by decide +kernel
theorem dX5_inForce_62 : decode cX5_inForce 62 = .ok (.iconst 0, 1) := by decide +kernel
theorem dX5_inForce_63 : decode cX5_inForce 63 = .ok (.istore 4, 2) := by decide +kernel
theorem dX5_inForce_65 : decode cX5_inForce 65 = .ok (.iload 4, 2) := by decide +kernel
theorem dX5_inForce_67 : decode cX5_inForce 67 = .ok (.ifCond .eq 14, 3) := by decide +kernel
theorem dX5_inForce_70 : decode cX5_inForce 70 = .ok (.aload_n 0, 1) := by decide +kernel
theorem dX5_inForce_71 : decode cX5_inForce 71 = .ok (.iload_n 3, 1) := by decide +kernel
theorem dX5_inForce_72 : decode cX5_inForce 72 = .ok (.iload_n 1, 1) := by decide +kernel
theorem dX5_inForce_73 : decode cX5_inForce 73 = .ok (.invokevirtual 54, 3) := by decide +kernel
theorem dX5_inForce_76 : decode cX5_inForce 76 = .ok (.ifCond .eq 5, 3) := by decide +kernel
theorem dX5_inForce_79 : decode cX5_inForce 79 = .ok (.iload_n 3, 1) := by decide +kernel
theorem dX5_inForce_80 : decode cX5_inForce 80 = .ok (.ireturn, 1) := by decide +kernel
theorem dX5_inForce_81 : decode cX5_inForce 81 = .ok (.iinc 3 (-1), 3) := by decide +kernel
theorem dX5_inForce_84 : decode cX5_inForce 84 = .ok (.goto (-60), 3) := by decide +kernel
theorem dX5_inForce_87 : decode cX5_inForce 87 = .ok (.iconst (-1), 1) := by decide +kernel
theorem dX5_inForce_88 : decode cX5_inForce 88 = .ok (.ireturn, 1) := by decide +kernel
theorem dX5_unwritten_0 : decode cX5_unwritten 0 = .ok (.iload_n 0, 1) := by decide +kernel
theorem dX5_unwritten_1 : decode cX5_unwritten 1 = .ok (.lookupswitch 32 #[(2, 27), (4, 30)], 27) := by decide +kernel
theorem dX5_unwritten_28 : decode cX5_unwritten 28 = .ok (.bipush 30, 2) := by decide +kernel
theorem dX5_unwritten_30 : decode cX5_unwritten 30 = .ok (.ireturn, 1) := by decide +kernel
theorem dX5_unwritten_31 : decode cX5_unwritten 31 = .ok (.iconst 1, 1) := by decide +kernel
theorem dX5_unwritten_32 : decode cX5_unwritten 32 = .ok (.ireturn, 1) := by decide +kernel
theorem dX5_unwritten_33 : decode cX5_unwritten 33 = .ok (.iconst 0, 1) := by decide +kernel
theorem dX5_unwritten_34 : decode cX5_unwritten 34 = .ok (.ireturn, 1) := by decide +kernel
theorem dX5_valueOf_0 : decode cX5_valueOf 0 = .ok (.aload_n 0, 1) := by decide +kernel
theorem dX5_valueOf_1 : decode cX5_valueOf 1 = .ok (.iload_n 1, 1) := by decide +kernel
theorem dX5_valueOf_2 : decode cX5_valueOf 2 = .ok (.iload_n 2, 1) := by decide +kernel
theorem dX5_valueOf_3 : decode cX5_valueOf 3 = .ok (.invokevirtual 54, 3) := by decide +kernel
theorem dX5_valueOf_6 : decode cX5_valueOf 6 = .ok (.ifCond .ne 8, 3) := by decide +kernel
theorem dX5_valueOf_9 : decode cX5_valueOf 9 = .ok (.iload_n 2, 1) := by decide +kernel
theorem dX5_valueOf_10 : decode cX5_valueOf 10 = .ok (.invokestatic 58, 3) := by decide +kernel
theorem dX5_valueOf_13 : decode cX5_valueOf 13 = .ok (.ireturn, 1) := by decide +kernel
theorem dX5_valueOf_14 : decode cX5_valueOf 14 = .ok (.iconst 0, 1) := by decide +kernel
theorem dX5_valueOf_15 : decode cX5_valueOf 15 = .ok (.istore 4, 2) := by decide +kernel
theorem dX5_valueOf_17 : decode cX5_valueOf 17 = .ok (.aload_n 0, 1) := by decide +kernel
theorem dX5_valueOf_18 : decode cX5_valueOf 18 = .ok (.getfield 27, 3) := by decide +kernel
theorem dX5_valueOf_21 : decode cX5_valueOf 21 = .ok (.iload_n 1, 1) := by decide +kernel
theorem dX5_valueOf_22 : decode cX5_valueOf 22 = .ok (.aaload, 1) := by decide +kernel
theorem dX5_valueOf_23 : decode cX5_valueOf 23 = .ok (.iload_n 2, 1) := by decide +kernel
theorem dX5_valueOf_24 : decode cX5_valueOf 24 = .ok (.iaload, 1) := by decide +kernel
theorem dX5_valueOf_25 : decode cX5_valueOf 25 = .ok (.istore 5, 2) := by decide +kernel
theorem dX5_valueOf_27 : decode cX5_valueOf 27 = .ok (.iload 5, 2) := by decide +kernel
theorem dX5_valueOf_29 : decode cX5_valueOf 29 = .ok (.aload_n 0, 1) := by decide +kernel
theorem dX5_valueOf_30 : decode cX5_valueOf 30 = .ok (.getfield 30, 3) := by decide +kernel
theorem dX5_valueOf_33 : decode cX5_valueOf 33 = .ok (.iload_n 1, 1) := by decide +kernel
theorem dX5_valueOf_34 : decode cX5_valueOf 34 = .ok (.aaload, 1) := by decide +kernel
theorem dX5_valueOf_35 : decode cX5_valueOf 35 = .ok (.iload_n 2, 1) := by decide +kernel
theorem dX5_valueOf_36 : decode cX5_valueOf 36 = .ok (.iaload, 1) := by decide +kernel
theorem dX5_valueOf_37 : decode cX5_valueOf 37 = .ok (.if_icmp .ge 159, 3) := by decide +kernel
theorem dX5_valueOf_40 : decode cX5_valueOf 40 = .ok (.iload 5, 2) := by decide +kernel
theorem dX5_valueOf_42 : decode cX5_valueOf 42 = .ok (.sipush 500, 3) := by decide +kernel
theorem dX5_valueOf_45 : decode cX5_valueOf 45 = .ok (.if_icmp .ge 151, 3) := by decide +kernel
theorem dX5_valueOf_48 : decode cX5_valueOf 48 = .ok (.aload_n 0, 1) := by decide +kernel
theorem dX5_valueOf_49 : decode cX5_valueOf 49 = .ok (.getfield 24, 3) := by decide +kernel
theorem dX5_valueOf_52 : decode cX5_valueOf 52 = .ok (.iload_n 1, 1) := by decide +kernel
theorem dX5_valueOf_53 : decode cX5_valueOf 53 = .ok (.aaload, 1) := by decide +kernel
theorem dX5_valueOf_54 : decode cX5_valueOf 54 = .ok (.iload 5, 2) := by decide +kernel
theorem dX5_valueOf_56 : decode cX5_valueOf 56 = .ok (.iaload, 1) := by decide +kernel
theorem dX5_valueOf_57 : decode cX5_valueOf 57 = .ok (.istore 6, 2) := by decide +kernel
theorem dX5_valueOf_59 : decode cX5_valueOf 59 = .ok (.iload 6, 2) := by decide +kernel
theorem dX5_valueOf_61 : decode cX5_valueOf 61 = .ok (.sipush 1000, 3) := by decide +kernel
theorem dX5_valueOf_64 : decode cX5_valueOf 64 = .ok (.if_icmp .ge 10, 3) := by decide +kernel
theorem dX5_valueOf_67 : decode cX5_valueOf 67 = .ok (.iload 6, 2) := by decide +kernel
theorem dX5_valueOf_69 : decode cX5_valueOf 69 = .ok (.bipush 18, 2) := by decide +kernel
theorem dX5_valueOf_71 : decode cX5_valueOf 71 = .ok (.if_icmp .ge 44, 3) := by decide +kernel
theorem dX5_valueOf_74 : decode cX5_valueOf 74 = .ok (.iload 4, 2) := by decide +kernel
theorem dX5_valueOf_76 : decode cX5_valueOf 76 = .ok (.bipush 64, 2) := by decide +kernel
theorem dX5_valueOf_78 : decode cX5_valueOf 78 = .ok (.if_icmp .ge 112, 3) := by decide +kernel
theorem dX5_valueOf_81 : decode cX5_valueOf 81 = .ok (.aload_n 0, 1) := by decide +kernel
theorem dX5_valueOf_82 : decode cX5_valueOf 82 = .ok (.getfield 33, 3) := by decide +kernel
theorem dX5_valueOf_85 : decode cX5_valueOf 85 = .ok (.iload 4, 2) := by decide +kernel
theorem dX5_valueOf_87 : decode cX5_valueOf 87 = .ok (.iload 6, 2) := by decide +kernel
theorem dX5_valueOf_89 : decode cX5_valueOf 89 = .ok (.sipush 1000, 3) := by decide +kernel
theorem dX5_valueOf_92 : decode cX5_valueOf 92 = .ok (.if_icmp .lt 12, 3) := by decide +kernel
theorem dX5_valueOf_95 : decode cX5_valueOf 95 = .ok (.iload 6, 2) := by decide +kernel
theorem dX5_valueOf_97 : decode cX5_valueOf 97 = .ok (.sipush 1000, 3) := by decide +kernel
theorem dX5_valueOf_100 : decode cX5_valueOf 100 = .ok (.isub, 1) := by decide +kernel
theorem dX5_valueOf_101 : decode cX5_valueOf 101 = .ok (.goto 7, 3) := by decide +kernel
theorem dX5_valueOf_104 : decode cX5_valueOf 104 = .ok (.aload_n 3, 1) := by decide +kernel
theorem dX5_valueOf_105 : decode cX5_valueOf 105 = .ok (.iload 6, 2) := by decide +kernel
theorem dX5_valueOf_107 : decode cX5_valueOf 107 = .ok (.iaload, 1) := by decide +kernel
theorem dX5_valueOf_108 : decode cX5_valueOf 108 = .ok (.iastore, 1) := by decide +kernel
theorem dX5_valueOf_109 : decode cX5_valueOf 109 = .ok (.iinc 4 1, 3) := by decide +kernel
theorem dX5_valueOf_112 : decode cX5_valueOf 112 = .ok (.goto 78, 3) := by decide +kernel
theorem dX5_valueOf_115 : decode cX5_valueOf 115 = .ok (.iload 6, 2) := by decide +kernel
theorem dX5_valueOf_117 : decode cX5_valueOf 117 = .ok (.bipush 22, 2) := by decide +kernel
theorem dX5_valueOf_119 : decode cX5_valueOf 119 = .ok (.if_icmp .ne 32, 3) := by decide +kernel
theorem dX5_valueOf_122 : decode cX5_valueOf 122 = .ok (.iload 4, 2) := by decide +kernel
theorem dX5_valueOf_124 : decode cX5_valueOf 124 = .ok (.iconst 1, 1) := by decide +kernel
theorem dX5_valueOf_125 : decode cX5_valueOf 125 = .ok (.if_icmp .lt 65, 3) := by decide +kernel
theorem dX5_valueOf_128 : decode cX5_valueOf 128 = .ok (.aload_n 0, 1) := by decide +kernel
theorem dX5_valueOf_129 : decode cX5_valueOf 129 = .ok (.getfield 33, 3) := by decide +kernel
theorem dX5_valueOf_132 : decode cX5_valueOf 132 = .ok (.iload 4, 2) := by decide +kernel
theorem dX5_valueOf_134 : decode cX5_valueOf 134 = .ok (.iconst 1, 1) := by decide +kernel
theorem dX5_valueOf_135 : decode cX5_valueOf 135 = .ok (.isub, 1) := by decide +kernel
theorem dX5_valueOf_136 : decode cX5_valueOf 136 = .ok (.iconst 1, 1) := by decide +kernel
theorem dX5_valueOf_137 : decode cX5_valueOf 137 = .ok (.aload_n 0, 1) := by decide +kernel
theorem dX5_valueOf_138 : decode cX5_valueOf 138 = .ok (.getfield 33, 3) := by decide +kernel
theorem dX5_valueOf_141 : decode cX5_valueOf 141 = .ok (.iload 4, 2) := by decide +kernel
theorem dX5_valueOf_143 : decode cX5_valueOf 143 = .ok (.iconst 1, 1) := by decide +kernel
theorem dX5_valueOf_144 : decode cX5_valueOf 144 = .ok (.isub, 1) := by decide +kernel
theorem dX5_valueOf_145 : decode cX5_valueOf 145 = .ok (.iaload, 1) := by decide +kernel
theorem dX5_valueOf_146 : decode cX5_valueOf 146 = .ok (.isub, 1) := by decide +kernel
theorem dX5_valueOf_147 : decode cX5_valueOf 147 = .ok (.iastore, 1) := by decide +kernel
theorem dX5_valueOf_148 : decode cX5_valueOf 148 = .ok (.goto 42, 3) := by decide +kernel
theorem dX5_valueOf_151 : decode cX5_valueOf 151 = .ok (.iload 4, 2) := by decide +kernel
theorem dX5_valueOf_153 : decode cX5_valueOf 153 = .ok (.iconst 2, 1) := by decide +kernel
theorem dX5_valueOf_154 : decode cX5_valueOf 154 = .ok (.if_icmp .lt 36, 3) := by decide +kernel
theorem dX5_valueOf_157 : decode cX5_valueOf 157 = .ok (.iinc 4 (-1), 3) := by decide +kernel
theorem dX5_valueOf_160 : decode cX5_valueOf 160 = .ok (.aload_n 0, 1) := by decide +kernel
theorem dX5_valueOf_161 : decode cX5_valueOf 161 = .ok (.getfield 33, 3) := by decide +kernel
theorem dX5_valueOf_164 : decode cX5_valueOf 164 = .ok (.iload 4, 2) := by decide +kernel
theorem dX5_valueOf_166 : decode cX5_valueOf 166 = .ok (.iconst 1, 1) := by decide +kernel
theorem dX5_valueOf_167 : decode cX5_valueOf 167 = .ok (.isub, 1) := by decide +kernel
theorem dX5_valueOf_168 : decode cX5_valueOf 168 = .ok (.iload 6, 2) := by decide +kernel
theorem dX5_valueOf_170 : decode cX5_valueOf 170 = .ok (.aload_n 0, 1) := by decide +kernel
theorem dX5_valueOf_171 : decode cX5_valueOf 171 = .ok (.getfield 33, 3) := by decide +kernel
theorem dX5_valueOf_174 : decode cX5_valueOf 174 = .ok (.iload 4, 2) := by decide +kernel
theorem dX5_valueOf_176 : decode cX5_valueOf 176 = .ok (.iconst 1, 1) := by decide +kernel
theorem dX5_valueOf_177 : decode cX5_valueOf 177 = .ok (.isub, 1) := by decide +kernel
theorem dX5_valueOf_178 : decode cX5_valueOf 178 = .ok (.iaload, 1) := by decide +kernel
theorem dX5_valueOf_179 : decode cX5_valueOf 179 = .ok (.aload_n 0, 1) := by decide +kernel
theorem dX5_valueOf_180 : decode cX5_valueOf 180 = .ok (.getfield 33, 3) := by decide +kernel
theorem dX5_valueOf_183 : decode cX5_valueOf 183 = .ok (.iload 4, 2) := by decide +kernel
theorem dX5_valueOf_185 : decode cX5_valueOf 185 = .ok (.iaload, 1) := by decide +kernel
theorem dX5_valueOf_186 : decode cX5_valueOf 186 = .ok (.invokestatic 62, 3) := by decide +kernel
theorem dX5_valueOf_189 : decode cX5_valueOf 189 = .ok (.iastore, 1) := by decide +kernel
theorem dX5_valueOf_190 : decode cX5_valueOf 190 = .ok (.iinc 5 1, 3) := by decide +kernel
theorem dX5_valueOf_193 : decode cX5_valueOf 193 = .ok (.goto (-166), 3) := by decide +kernel
theorem dX5_valueOf_196 : decode cX5_valueOf 196 = .ok (.aload_n 0, 1) := by decide +kernel
theorem dX5_valueOf_197 : decode cX5_valueOf 197 = .ok (.getfield 33, 3) := by decide +kernel
theorem dX5_valueOf_200 : decode cX5_valueOf 200 = .ok (.iconst 0, 1) := by decide +kernel
theorem dX5_valueOf_201 : decode cX5_valueOf 201 = .ok (.iaload, 1) := by decide +kernel
theorem dX5_valueOf_202 : decode cX5_valueOf 202 = .ok (.ireturn, 1) := by decide +kernel
theorem dX5_joined_0 : decode cX5_joined 0 = .ok (.iload_n 0, 1) := by decide +kernel
theorem dX5_joined_1 : decode cX5_joined 1 = .ok (.lookupswitch 163 #[(20, 155), (21, 159), (42, 101), (43, 83), (45, 92), (47, 110), (60, 122), (61, 144), (62, 133)], 83) := by decide +kernel
theorem dX5_joined_84 : decode cX5_joined 84 = .ok (.iload_n 1, 1) := by decide +kernel
theorem dX5_joined_85 : decode cX5_joined 85 = .ok (.i2l, 1) := by decide +kernel
theorem dX5_joined_86 : decode cX5_joined 86 = .ok (.iload_n 2, 1) := by decide +kernel
theorem dX5_joined_87 : decode cX5_joined 87 = .ok (.i2l, 1) := by decide +kernel
theorem dX5_joined_88 : decode cX5_joined 88 = .ok (.ladd, 1) := by decide +kernel
theorem dX5_joined_89 : decode cX5_joined 89 = .ok (.invokestatic 66, 3) := by decide +kernel
theorem dX5_joined_92 : decode cX5_joined 92 = .ok (.ireturn, 1) := by decide +kernel
theorem dX5_joined_93 : decode cX5_joined 93 = .ok (.iload_n 1, 1) := by decide +kernel
theorem dX5_joined_94 : decode cX5_joined 94 = .ok (.i2l, 1) := by decide +kernel
theorem dX5_joined_95 : decode cX5_joined 95 = .ok (.iload_n 2, 1) := by decide +kernel
theorem dX5_joined_96 : decode cX5_joined 96 = .ok (.i2l, 1) := by decide +kernel
theorem dX5_joined_97 : decode cX5_joined 97 = .ok (.lsub, 1) := by decide +kernel
theorem dX5_joined_98 : decode cX5_joined 98 = .ok (.invokestatic 66, 3) := by decide +kernel
theorem dX5_joined_101 : decode cX5_joined 101 = .ok (.ireturn, 1) := by decide +kernel
theorem dX5_joined_102 : decode cX5_joined 102 = .ok (.iload_n 1, 1) := by decide +kernel
theorem dX5_joined_103 : decode cX5_joined 103 = .ok (.i2l, 1) := by decide +kernel
theorem dX5_joined_104 : decode cX5_joined 104 = .ok (.iload_n 2, 1) := by decide +kernel
theorem dX5_joined_105 : decode cX5_joined 105 = .ok (.i2l, 1) := by decide +kernel
theorem dX5_joined_106 : decode cX5_joined 106 = .ok (.lmul, 1) := by decide +kernel
theorem dX5_joined_107 : decode cX5_joined 107 = .ok (.invokestatic 66, 3) := by decide +kernel
theorem dX5_joined_110 : decode cX5_joined 110 = .ok (.ireturn, 1) := by decide +kernel
theorem dX5_joined_111 : decode cX5_joined 111 = .ok (.iload_n 2, 1) := by decide +kernel
theorem dX5_joined_112 : decode cX5_joined 112 = .ok (.ifCond .ne 7, 3) := by decide +kernel
theorem dX5_joined_115 : decode cX5_joined 115 = .ok (.iconst 0, 1) := by decide +kernel
theorem dX5_joined_116 : decode cX5_joined 116 = .ok (.goto 6, 3) := by decide +kernel
theorem dX5_joined_119 : decode cX5_joined 119 = .ok (.iload_n 1, 1) := by decide +kernel
theorem dX5_joined_120 : decode cX5_joined 120 = .ok (.iload_n 2, 1) := by decide +kernel
theorem dX5_joined_121 : decode cX5_joined 121 = .ok (.idiv, 1) := by decide +kernel
theorem dX5_joined_122 : decode cX5_joined 122 = .ok (.ireturn, 1) := by decide +kernel
theorem dX5_joined_123 : decode cX5_joined 123 = .ok (.iload_n 1, 1) := by decide +kernel
theorem dX5_joined_124 : decode cX5_joined 124 = .ok (.iload_n 2, 1) := by decide +kernel
theorem dX5_joined_125 : decode cX5_joined 125 = .ok (.if_icmp .ge 7, 3) := by decide +kernel
theorem dX5_joined_128 : decode cX5_joined 128 = .ok (.iconst 1, 1) := by decide +kernel
theorem dX5_joined_129 : decode cX5_joined 129 = .ok (.goto 4, 3) := by decide +kernel
theorem dX5_joined_132 : decode cX5_joined 132 = .ok (.iconst 0, 1) := by decide +kernel
theorem dX5_joined_133 : decode cX5_joined 133 = .ok (.ireturn, 1) := by decide +kernel
theorem dX5_joined_134 : decode cX5_joined 134 = .ok (.iload_n 1, 1) := by decide +kernel
theorem dX5_joined_135 : decode cX5_joined 135 = .ok (.iload_n 2, 1) := by decide +kernel
theorem dX5_joined_136 : decode cX5_joined 136 = .ok (.if_icmp .le 7, 3) := by decide +kernel
theorem dX5_joined_139 : decode cX5_joined 139 = .ok (.iconst 1, 1) := by decide +kernel
theorem dX5_joined_140 : decode cX5_joined 140 = .ok (.goto 4, 3) := by decide +kernel
theorem dX5_joined_143 : decode cX5_joined 143 = .ok (.iconst 0, 1) := by decide +kernel
theorem dX5_joined_144 : decode cX5_joined 144 = .ok (.ireturn, 1) := by decide +kernel
theorem dX5_joined_145 : decode cX5_joined 145 = .ok (.iload_n 1, 1) := by decide +kernel
theorem dX5_joined_146 : decode cX5_joined 146 = .ok (.iload_n 2, 1) := by decide +kernel
theorem dX5_joined_147 : decode cX5_joined 147 = .ok (.if_icmp .ne 7, 3) := by decide +kernel
theorem dX5_joined_150 : decode cX5_joined 150 = .ok (.iconst 1, 1) := by decide +kernel
theorem dX5_joined_151 : decode cX5_joined 151 = .ok (.goto 4, 3) := by decide +kernel
theorem dX5_joined_154 : decode cX5_joined 154 = .ok (.iconst 0, 1) := by decide +kernel
theorem dX5_joined_155 : decode cX5_joined 155 = .ok (.ireturn, 1) := by decide +kernel
theorem dX5_joined_156 : decode cX5_joined 156 = .ok (.iload_n 1, 1) := by decide +kernel
theorem dX5_joined_157 : decode cX5_joined 157 = .ok (.iload_n 2, 1) := by decide +kernel
theorem dX5_joined_158 : decode cX5_joined 158 = .ok (.iand, 1) := by decide +kernel
theorem dX5_joined_159 : decode cX5_joined 159 = .ok (.ireturn, 1) := by decide +kernel
theorem dX5_joined_160 : decode cX5_joined 160 = .ok (.iload_n 1, 1) := by decide +kernel
theorem dX5_joined_161 : decode cX5_joined 161 = .ok (.iload_n 2, 1) := by decide +kernel
theorem dX5_joined_162 : decode cX5_joined 162 = .ok (.ior, 1) := by decide +kernel
theorem dX5_joined_163 : decode cX5_joined 163 = .ok (.ireturn, 1) := by decide +kernel
theorem dX5_joined_164 : decode cX5_joined 164 = .ok (.iconst 0, 1) := by decide +kernel
theorem dX5_joined_165 : decode cX5_joined 165 = .ok (.ireturn, 1) := by decide +kernel
theorem dX5_brought_0 : decode cX5_brought 0 = .ok (.lload_n 0, 1) := by decide +kernel
theorem dX5_brought_1 : decode cX5_brought 1 = .ok (.ldc2_w 70, 3) := by decide +kernel
theorem dX5_brought_4 : decode cX5_brought 4 = .ok (.lcmp, 1) := by decide +kernel
theorem dX5_brought_5 : decode cX5_brought 5 = .ok (.ifCond .le 8, 3) := by decide +kernel
theorem dX5_brought_8 : decode cX5_brought 8 = .ok (.ldc 72, 2) := by decide +kernel
theorem dX5_brought_10 : decode cX5_brought 10 = .ok (.goto 18, 3) := by decide +kernel
theorem dX5_brought_13 : decode cX5_brought 13 = .ok (.lload_n 0, 1) := by decide +kernel
theorem dX5_brought_14 : decode cX5_brought 14 = .ok (.ldc2_w 73, 3) := by decide +kernel
theorem dX5_brought_17 : decode cX5_brought 17 = .ok (.lcmp, 1) := by decide +kernel
theorem dX5_brought_18 : decode cX5_brought 18 = .ok (.ifCond .ge 8, 3) := by decide +kernel
theorem dX5_brought_21 : decode cX5_brought 21 = .ok (.ldc 75, 2) := by decide +kernel
theorem dX5_brought_23 : decode cX5_brought 23 = .ok (.goto 5, 3) := by decide +kernel
theorem dX5_brought_26 : decode cX5_brought 26 = .ok (.lload_n 0, 1) := by decide +kernel
theorem dX5_brought_27 : decode cX5_brought 27 = .ok (.l2i, 1) := by decide +kernel
theorem dX5_brought_28 : decode cX5_brought 28 = .ok (.ireturn, 1) := by decide +kernel
theorem dX6_init_0 : decode cX6_init 0 = .ok (.aload_n 0, 1) := by decide +kernel
theorem dX6_init_1 : decode cX6_init 1 = .ok (.invokespecial 3, 3) := by decide +kernel
theorem dX6_init_4 : decode cX6_init 4 = .ok (.aload_n 0, 1) := by decide +kernel
theorem dX6_init_5 : decode cX6_init 5 = .ok (.bipush 24, 2) := by decide +kernel
theorem dX6_init_7 : decode cX6_init 7 = .ok (.newarray .int, 2) := by decide +kernel
theorem dX6_init_9 : decode cX6_init 9 = .ok (.putfield 9, 3) := by decide +kernel
theorem dX6_init_12 : decode cX6_init 12 = .ok (.aload_n 0, 1) := by decide +kernel
theorem dX6_init_13 : decode cX6_init 13 = .ok (.bipush 24, 2) := by decide +kernel
theorem dX6_init_15 : decode cX6_init 15 = .ok (.newarray .int, 2) := by decide +kernel
theorem dX6_init_17 : decode cX6_init 17 = .ok (.putfield 15, 3) := by decide +kernel
theorem dX6_init_20 : decode cX6_init 20 = .ok (.aload_n 0, 1) := by decide +kernel
theorem dX6_init_21 : decode cX6_init 21 = .ok (.bipush 24, 2) := by decide +kernel
theorem dX6_init_23 : decode cX6_init 23 = .ok (.bipush 24, 2) := by decide +kernel
theorem dX6_init_25 : decode cX6_init 25 = .ok (.multianewarray 18 2, 4) := by decide +kernel
theorem dX6_init_29 : decode cX6_init 29 = .ok (.putfield 20, 3) := by decide +kernel
theorem dX6_init_32 : decode cX6_init 32 = .ok (.aload_n 0, 1) := by decide +kernel
theorem dX6_init_33 : decode cX6_init 33 = .ok (.aload_n 1, 1) := by decide +kernel
theorem dX6_init_34 : decode cX6_init 34 = .ok (.putfield 23, 3) := by decide +kernel
theorem dX6_init_37 : decode cX6_init 37 = .ok (.return_, 1) := by decide +kernel
theorem dX6_forgetWhys_0 : decode cX6_forgetWhys 0 = .ok (.aload_n 0, 1) := by decide +kernel
theorem dX6_forgetWhys_1 : decode cX6_forgetWhys 1 = .ok (.aload_n 0, 1) := by decide +kernel
theorem dX6_forgetWhys_2 : decode cX6_forgetWhys 2 = .ok (.getfield 23, 3) := by decide +kernel
theorem dX6_forgetWhys_5 : decode cX6_forgetWhys 5 = .ok (.getfield 27, 3) := by decide +kernel
theorem dX6_forgetWhys_8 : decode cX6_forgetWhys 8 = .ok (.getfield 33, 3) := by decide +kernel
theorem dX6_forgetWhys_11 : decode cX6_forgetWhys 11 = .ok (.putfield 39, 3) := by decide +kernel
theorem dX6_forgetWhys_14 : decode cX6_forgetWhys 14 = .ok (.iconst 0, 1) := by decide +kernel
theorem dX6_forgetWhys_15 : decode cX6_forgetWhys 15 = .ok (.istore_n 1, 1) := by decide +kernel
theorem dX6_forgetWhys_16 : decode cX6_forgetWhys 16 = .ok (.iload_n 1, 1) := by decide +kernel
theorem dX6_forgetWhys_17 : decode cX6_forgetWhys 17 = .ok (.aload_n 0, 1) := by decide +kernel
theorem dX6_forgetWhys_18 : decode cX6_forgetWhys 18 = .ok (.getfield 39, 3) := by decide +kernel
theorem dX6_forgetWhys_21 : decode cX6_forgetWhys 21 = .ok (.if_icmp .ge 34, 3) := by decide +kernel
theorem dX6_forgetWhys_24 : decode cX6_forgetWhys 24 = .ok (.iconst 0, 1) := by decide +kernel
theorem dX6_forgetWhys_25 : decode cX6_forgetWhys 25 = .ok (.istore_n 2, 1) := by decide +kernel
theorem dX6_forgetWhys_26 : decode cX6_forgetWhys 26 = .ok (.iload_n 2, 1) := by decide +kernel
theorem dX6_forgetWhys_27 : decode cX6_forgetWhys 27 = .ok (.aload_n 0, 1) := by decide +kernel
theorem dX6_forgetWhys_28 : decode cX6_forgetWhys 28 = .ok (.getfield 39, 3) := by decide +kernel
theorem dX6_forgetWhys_31 : decode cX6_forgetWhys 31 = .ok (.if_icmp .ge 18, 3) := by decide +kernel
theorem dX6_forgetWhys_34 : decode cX6_forgetWhys 34 = .ok (.aload_n 0, 1) := by decide +kernel
theorem dX6_forgetWhys_35 : decode cX6_forgetWhys 35 = .ok (.getfield 20, 3) := by decide +kernel
theorem dX6_forgetWhys_38 : decode cX6_forgetWhys 38 = .ok (.iload_n 1, 1) := by decide +kernel
theorem dX6_forgetWhys_39 : decode cX6_forgetWhys 39 = .ok (.aaload, 1) := by decide +kernel
theorem dX6_forgetWhys_40 : decode cX6_forgetWhys 40 = .ok (.iload_n 2, 1) := by decide +kernel
theorem dX6_forgetWhys_41 : decode cX6_forgetWhys 41 = .ok (.iconst (-1), 1) := by decide +kernel
theorem dX6_forgetWhys_42 : decode cX6_forgetWhys 42 = .ok (.iastore, 1) := by decide +kernel
theorem dX6_forgetWhys_43 : decode cX6_forgetWhys 43 = .ok (.iinc 2 1, 3) := by decide +kernel
theorem dX6_forgetWhys_46 : decode cX6_forgetWhys 46 = .ok (.goto (-20), 3) := by decide +kernel
theorem dX6_forgetWhys_49 : decode cX6_forgetWhys 49 = .ok (.iinc 1 1, 3) := by decide +kernel
theorem dX6_forgetWhys_52 : decode cX6_forgetWhys 52 = .ok (.goto (-36), 3) := by decide +kernel
theorem dX6_forgetWhys_55 : decode cX6_forgetWhys 55 = .ok (.return_, 1) := by decide +kernel
theorem dX6_lineUp_0 : decode cX6_lineUp 0 = .ok (.aload_n 0, 1) := by decide +kernel
theorem dX6_lineUp_1 : decode cX6_lineUp 1 = .ok (.iconst 0, 1) := by decide +kernel
theorem dX6_lineUp_2 : decode cX6_lineUp 2 = .ok (.putfield 42, 3) := by decide +kernel
theorem dX6_lineUp_5 : decode cX6_lineUp 5 = .ok (.iconst 0, 1) := by decide +kernel
theorem dX6_lineUp_6 : decode cX6_lineUp 6 = .ok (.istore_n 1, 1) := by decide +kernel
theorem dX6_lineUp_7 : decode cX6_lineUp 7 = .ok (.iload_n 1, 1) := by decide +kernel
theorem dX6_lineUp_8 : decode cX6_lineUp 8 = .ok (.aload_n 0, 1) := by decide +kernel
theorem dX6_lineUp_9 : decode cX6_lineUp 9 = .ok (.getfield 23, 3) := by decide +kernel
theorem dX6_lineUp_12 : decode cX6_lineUp 12 = .ok (.getfield 27, 3) := by decide +kernel
theorem dX6_lineUp_15 : decode cX6_lineUp 15 = .ok (.getfield 33, 3) := by decide +kernel
theorem dX6_lineUp_18 : decode cX6_lineUp 18 = .ok (.if_icmp .ge 43, 3) := by decide +kernel
theorem dX6_lineUp_21 : decode cX6_lineUp 21 = .ok (.aload_n 0, 1) := by decide +kernel
theorem dX6_lineUp_22 : decode cX6_lineUp 22 = .ok (.getfield 23, 3) := by decide +kernel
theorem dX6_lineUp_25 : decode cX6_lineUp 25 = .ok (.getfield 27, 3) := by decide +kernel
theorem dX6_lineUp_28 : decode cX6_lineUp 28 = .ok (.getfield 45, 3) := by decide +kernel
theorem dX6_lineUp_31 : decode cX6_lineUp 31 = .ok (.iload_n 1, 1) := by decide +kernel
theorem dX6_lineUp_32 : decode cX6_lineUp 32 = .ok (.iaload, 1) := by decide +kernel
theorem dX6_lineUp_33 : decode cX6_lineUp 33 = .ok (.ifCond .ne 22, 3) := by decide +kernel
theorem dX6_lineUp_36 : decode cX6_lineUp 36 = .ok (.aload_n 0, 1) := by decide +kernel
theorem dX6_lineUp_37 : decode cX6_lineUp 37 = .ok (.getfield 15, 3) := by decide +kernel
theorem dX6_lineUp_40 : decode cX6_lineUp 40 = .ok (.iload_n 1, 1) := by decide +kernel
theorem dX6_lineUp_41 : decode cX6_lineUp 41 = .ok (.aload_n 0, 1) := by decide +kernel
theorem dX6_lineUp_42 : decode cX6_lineUp 42 = .ok (.getfield 23, 3) := by decide +kernel
theorem dX6_lineUp_45 : decode cX6_lineUp 45 = .ok (.iload_n 1, 1) := by decide +kernel
theorem dX6_lineUp_46 : decode cX6_lineUp 46 = .ok (.invokevirtual 48, 3) := by decide +kernel
theorem dX6_lineUp_49 : decode cX6_lineUp 49 = .ok (.iastore, 1) := by decide +kernel
theorem dX6_lineUp_50 : decode cX6_lineUp 50 = .ok (.aload_n 0, 1) := by decide +kernel
theorem dX6_lineUp_51 : decode cX6_lineUp 51 = .ok (.iload_n 1, 1) := by decide +kernel
theorem dX6_lineUp_52 : decode cX6_lineUp 52 = .ok (.invokevirtual 52, 3) := by decide +kernel
theorem dX6_lineUp_55 : decode cX6_lineUp 55 = .ok (.iinc 1 1, 3) := by decide +kernel
theorem dX6_lineUp_58 : decode cX6_lineUp 58 = .ok (.goto (-51), 3) := by decide +kernel
theorem dX6_lineUp_61 : decode cX6_lineUp 61 = .ok (.return_, 1) := by decide +kernel
theorem dX6_putInLine_0 : decode cX6_putInLine 0 = .ok (.aload_n 0, 1) := by decide +kernel
theorem dX6_putInLine_1 : decode cX6_putInLine 1 = .ok (.getfield 42, 3) := by decide +kernel
theorem dX6_putInLine_4 : decode cX6_putInLine 4 = .ok (.istore_n 2, 1) := by decide +kernel
theorem dX6_putInLine_5 : decode cX6_putInLine 5 = .ok (.aload_n 0, 1) := by decide +kernel
theorem dX6_putInLine_6 : decode cX6_putInLine 6 = .ok (.getfield 42, 3) := by decide +kernel
theorem dX6_putInLine_9 : decode cX6_putInLine 9 = .ok (.istore_n 3, 1) := by decide +kernel
theorem dX6_putInLine_10 : decode cX6_putInLine 10 = .ok (.iload_n 3, 1) := by decide +kernel
theorem dX6_putInLine_11 : decode cX6_putInLine 11 = .ok (.ifCond .le 49, 3) := by decide +kernel
theorem dX6_putInLine_14 : decode cX6_putInLine 14 = .ok (.aload_n 0, 1) := by decide +kernel
theorem dX6_putInLine_15 : decode cX6_putInLine 15 = .ok (.getfield 15, 3) := by decide +kernel
theorem dX6_putInLine_18 : decode cX6_putInLine 18 = .ok (.aload_n 0, 1) := by decide +kernel
theorem dX6_putInLine_19 : decode cX6_putInLine 19 = .ok (.getfield 9, 3) := by decide +kernel
theorem dX6_putInLine_22 : decode cX6_putInLine 22 = .ok (.iload_n 3, 1) := by decide +kernel
theorem dX6_putInLine_23 : decode cX6_putInLine 23 = .ok (.iconst 1, 1) := by decide +kernel
theorem dX6_putInLine_24 : decode cX6_putInLine 24 = .ok (.isub, 1) := by decide +kernel
theorem dX6_putInLine_25 : decode cX6_putInLine 25 = .ok (.iaload, 1) := by decide +kernel
theorem dX6_putInLine_26 : decode cX6_putInLine 26 = .ok (.iaload, 1) := by decide +kernel
theorem dX6_putInLine_27 : decode cX6_putInLine 27 = .ok (.aload_n 0, 1) := by decide +kernel
theorem dX6_putInLine_28 : decode cX6_putInLine 28 = .ok (.getfield 15, 3) := by decide +kernel
theorem dX6_putInLine_31 : decode cX6_putInLine 31 = .ok (.iload_n 1, 1) := by decide +kernel
theorem dX6_putInLine_32 : decode cX6_putInLine 32 = .ok (.iaload, 1) := by decide +kernel
theorem dX6_putInLine_33 : decode cX6_putInLine 33 = .ok (.if_icmp .ge 27, 3) := by decide +kernel
theorem dX6_putInLine_36 : decode cX6_putInLine 36 = .ok (.aload_n 0, 1) := by decide +kernel
theorem dX6_putInLine_37 : decode cX6_putInLine 37 = .ok (.getfield 9, 3) := by decide +kernel
theorem dX6_putInLine_40 : decode cX6_putInLine 40 = .ok (.iload_n 3, 1) := by decide +kernel
theorem dX6_putInLine_41 : decode cX6_putInLine 41 = .ok (.aload_n 0, 1) := by decide +kernel
theorem dX6_putInLine_42 : decode cX6_putInLine 42 = .ok (.getfield 9, 3) := by decide +kernel
theorem dX6_putInLine_45 : decode cX6_putInLine 45 = .ok (.iload_n 3, 1) := by decide +kernel
theorem dX6_putInLine_46 : decode cX6_putInLine 46 = .ok (.iconst 1, 1) := by decide +kernel
theorem dX6_putInLine_47 : decode cX6_putInLine 47 = .ok (.isub, 1) := by decide +kernel
theorem dX6_putInLine_48 : decode cX6_putInLine 48 = .ok (.iaload, 1) := by decide +kernel
theorem dX6_putInLine_49 : decode cX6_putInLine 49 = .ok (.iastore, 1) := by decide +kernel
theorem dX6_putInLine_50 : decode cX6_putInLine 50 = .ok (.iload_n 3, 1) := by decide +kernel
theorem dX6_putInLine_51 : decode cX6_putInLine 51 = .ok (.iconst 1, 1) := by decide +kernel
theorem dX6_putInLine_52 : decode cX6_putInLine 52 = .ok (.isub, 1) := by decide +kernel
theorem dX6_putInLine_53 : decode cX6_putInLine 53 = .ok (.istore_n 2, 1) := by decide +kernel
theorem dX6_putInLine_54 : decode cX6_putInLine 54 = .ok (.iinc 3 (-1), 3) := by decide +kernel
theorem dX6_putInLine_57 : decode cX6_putInLine 57 = .ok (.goto (-47), 3) := by decide +kernel
theorem dX6_putInLine_60 : decode cX6_putInLine 60 = .ok (.aload_n 0, 1) := by decide +kernel
theorem dX6_putInLine_61 : decode cX6_putInLine 61 = .ok (.getfield 9, 3) := by decide +kernel
theorem dX6_putInLine_64 : decode cX6_putInLine 64 = .ok (.iload_n 2, 1) := by decide +kernel
theorem dX6_putInLine_65 : decode cX6_putInLine 65 = .ok (.iload_n 1, 1) := by decide +kernel
theorem dX6_putInLine_66 : decode cX6_putInLine 66 = .ok (.iastore, 1) := by decide +kernel
theorem dX6_putInLine_67 : decode cX6_putInLine 67 = .ok (.aload_n 0, 1) := by decide +kernel
theorem dX6_putInLine_68 : decode cX6_putInLine 68 = .ok (.dup, 1) := by decide +kernel
theorem dX6_putInLine_69 : decode cX6_putInLine 69 = .ok (.getfield 42, 3) := by decide +kernel
theorem dX6_putInLine_72 : decode cX6_putInLine 72 = .ok (.iconst 1, 1) := by decide +kernel
theorem dX6_putInLine_73 : decode cX6_putInLine 73 = .ok (.iadd, 1) := by decide +kernel
theorem dX6_putInLine_74 : decode cX6_putInLine 74 = .ok (.putfield 42, 3) := by decide +kernel
theorem dX6_putInLine_77 : decode cX6_putInLine 77 = .ok (.return_, 1) := by decide +kernel
theorem dX6_placeAll_0 : decode cX6_placeAll 0 = .ok (.iconst 0, 1) := by decide +kernel
theorem dX6_placeAll_1 : decode cX6_placeAll 1 = .ok (.istore_n 2, 1) := by decide +kernel
theorem dX6_placeAll_2 : decode cX6_placeAll 2 = .ok (.iconst 0, 1) := by decide +kernel
theorem dX6_placeAll_3 : decode cX6_placeAll 3 = .ok (.istore_n 3, 1) := by decide +kernel
theorem dX6_placeAll_4 : decode cX6_placeAll 4 = .ok (.iload_n 3, 1) := by decide +kernel
theorem dX6_placeAll_5 : decode cX6_placeAll 5 = .ok (.aload_n 0, 1) := by decide +kernel
theorem dX6_placeAll_6 : decode cX6_placeAll 6 = .ok (.getfield 42, 3) := by decide +kernel
theorem dX6_placeAll_9 : decode cX6_placeAll 9 = .ok (.if_icmp .ge 56, 3) := by decide +kernel
theorem dX6_placeAll_12 : decode cX6_placeAll 12 = .ok (.aload_n 0, 1) := by decide +kernel
theorem dX6_placeAll_13 : decode cX6_placeAll 13 = .ok (.aload_n 0, 1) := by decide +kernel
theorem dX6_placeAll_14 : decode cX6_placeAll 14 = .ok (.getfield 9, 3) := by decide +kernel
theorem dX6_placeAll_17 : decode cX6_placeAll 17 = .ok (.iload_n 3, 1) := by decide +kernel
theorem dX6_placeAll_18 : decode cX6_placeAll 18 = .ok (.iaload, 1) := by decide +kernel
theorem dX6_placeAll_19 : decode cX6_placeAll 19 = .ok (.invokevirtual 56, 3) := by decide +kernel
theorem dX6_placeAll_22 : decode cX6_placeAll 22 = .ok (.istore 4, 2) := by decide +kernel
theorem dX6_placeAll_24 : decode cX6_placeAll 24 = .ok (.iload 4, 2) := by decide +kernel
theorem dX6_placeAll_26 : decode cX6_placeAll 26 = .ok (.iconst (-1), 1) := by decide +kernel
theorem dX6_placeAll_27 : decode cX6_placeAll 27 = .ok (.if_icmp .eq 32, 3) := by decide +kernel
theorem dX6_placeAll_30 : decode cX6_placeAll 30 = .ok (.iload_n 1, 1) := by decide +kernel
theorem dX6_placeAll_31 : decode cX6_placeAll 31 = .ok (.ifCond .eq 10, 3) := by decide +kernel
theorem dX6_placeAll_34 : decode cX6_placeAll 34 = .ok (.aload_n 0, 1) := by decide +kernel
theorem dX6_placeAll_35 : decode cX6_placeAll 35 = .ok (.iload_n 3, 1) := by decide +kernel
theorem dX6_placeAll_36 : decode cX6_placeAll 36 = .ok (.iload 4, 2) := by decide +kernel
theorem dX6_placeAll_38 : decode cX6_placeAll 38 = .ok (.invokevirtual 59, 3) := by decide +kernel
theorem dX6_placeAll_41 : decode cX6_placeAll 41 = .ok (.aload_n 0, 1) := by decide +kernel
theorem dX6_placeAll_42 : decode cX6_placeAll 42 = .ok (.getfield 23, 3) := by decide +kernel
theorem dX6_placeAll_45 : decode cX6_placeAll 45 = .ok (.aload_n 0, 1) := by decide +kernel
theorem dX6_placeAll_46 : decode cX6_placeAll 46 = .ok (.getfield 9, 3) := by decide +kernel
theorem dX6_placeAll_49 : decode cX6_placeAll 49 = .ok (.iload_n 3, 1) := by decide +kernel
theorem dX6_placeAll_50 : decode cX6_placeAll 50 = .ok (.iaload, 1) := by decide +kernel
theorem dX6_placeAll_51 : decode cX6_placeAll 51 = .ok (.iload 4, 2) := by decide +kernel
theorem dX6_placeAll_53 : decode cX6_placeAll 53 = .ok (.invokevirtual 63, 3) := by decide +kernel
theorem dX6_placeAll_56 : decode cX6_placeAll 56 = .ok (.iinc 2 1, 3) := by decide +kernel
theorem dX6_placeAll_59 : decode cX6_placeAll 59 = .ok (.iinc 3 1, 3) := by decide +kernel
theorem dX6_placeAll_62 : decode cX6_placeAll 62 = .ok (.goto (-58), 3) := by decide +kernel
theorem dX6_placeAll_65 : decode cX6_placeAll 65 = .ok (.iload_n 2, 1) := by decide +kernel
theorem dX6_placeAll_66 : decode cX6_placeAll 66 = .ok (.ireturn, 1) := by decide +kernel
theorem dX6_homeFor_0 : decode cX6_homeFor 0 = .ok (.iconst (-1), 1) := by decide +kernel
theorem dX6_homeFor_1 : decode cX6_homeFor 1 = .ok (.istore_n 2, 1) := by decide +kernel
theorem dX6_homeFor_2 : decode cX6_homeFor 2 = .ok (.iconst 0, 1) := by decide +kernel
theorem dX6_homeFor_3 : decode cX6_homeFor 3 = .ok (.istore_n 3, 1) := by decide +kernel
theorem dX6_homeFor_4 : decode cX6_homeFor 4 = .ok (.iconst 0, 1) := by decide +kernel
theorem dX6_homeFor_5 : decode cX6_homeFor 5 = .ok (.istore 4, 2) := by decide +kernel
theorem dX6_homeFor_7 : decode cX6_homeFor 7 = .ok (.iload 4, 2) := by decide +kernel
theorem dX6_homeFor_9 : decode cX6_homeFor 9 = .ok (.aload_n 0, 1) := by decide +kernel
theorem dX6_homeFor_10 : decode cX6_homeFor 10 = .ok (.getfield 23, 3) := by decide +kernel
theorem dX6_homeFor_13 : decode cX6_homeFor 13 = .ok (.getfield 66, 3) := by decide +kernel
theorem dX6_homeFor_16 : decode cX6_homeFor 16 = .ok (.getfield 70, 3) := by decide +kernel
theorem dX6_homeFor_19 : decode cX6_homeFor 19 = .ok (.if_icmp .ge 94, 3) := by decide +kernel
theorem dX6_homeFor_22 : decode cX6_homeFor 22 = .ok (.aload_n 0, 1) := by decide +kernel
theorem dX6_homeFor_23 : decode cX6_homeFor 23 = .ok (.getfield 23, 3) := by decide +kernel
theorem dX6_homeFor_26 : decode cX6_homeFor 26 = .ok (.iload_n 1, 1) := by decide +kernel
theorem dX6_homeFor_27 : decode cX6_homeFor 27 = .ok (.iload 4, 2) := by decide +kernel
theorem dX6_homeFor_29 : decode cX6_homeFor 29 = .ok (.invokevirtual 73, 3) := by decide +kernel
theorem dX6_homeFor_32 : decode cX6_homeFor 32 = .ok (.ifCond .ne 75, 3) := by decide +kernel
theorem dX6_homeFor_35 : decode cX6_homeFor 35 = .ok (.aload_n 0, 1) := by decide +kernel
theorem dX6_homeFor_36 : decode cX6_homeFor 36 = .ok (.getfield 23, 3) := by decide +kernel
theorem dX6_homeFor_39 : decode cX6_homeFor 39 = .ok (.getfield 66, 3) := by decide +kernel
theorem dX6_homeFor_42 : decode cX6_homeFor 42 = .ok (.getfield 77, 3) := by decide +kernel
theorem dX6_homeFor_45 : decode cX6_homeFor 45 = .ok (.iload 4, 2) := by decide +kernel
theorem dX6_homeFor_47 : decode cX6_homeFor 47 = .ok (.iaload, 1) := by decide +kernel
theorem dX6_homeFor_48 : decode cX6_homeFor 48 = .ok (.istore 5, 2) := by decide +kernel
theorem dX6_homeFor_50 : decode cX6_homeFor 50 = .ok (.sipush 1000, 3) := by decide +kernel
theorem dX6_homeFor_53 : decode cX6_homeFor 53 = .ok (.aload_n 0, 1) := by decide +kernel
theorem dX6_homeFor_54 : decode cX6_homeFor 54 = .ok (.getfield 23, 3) := by decide +kernel
theorem dX6_homeFor_57 : decode cX6_homeFor 57 = .ok (.iload_n 1, 1) := by decide +kernel
theorem dX6_homeFor_58 : decode cX6_homeFor 58 = .ok (.iload 5, 2) := by decide +kernel
theorem dX6_homeFor_60 : decode cX6_homeFor 60 = .ok (.invokevirtual 80, 3) := by decide +kernel
theorem dX6_homeFor_63 : decode cX6_homeFor 63 = .ok (.imul, 1) := by decide +kernel
theorem dX6_homeFor_64 : decode cX6_homeFor 64 = .ok (.bipush 100, 2) := by decide +kernel
theorem dX6_homeFor_66 : decode cX6_homeFor 66 = .ok (.aload_n 0, 1) := by decide +kernel
theorem dX6_homeFor_67 : decode cX6_homeFor 67 = .ok (.getfield 23, 3) := by decide +kernel
theorem dX6_homeFor_70 : decode cX6_homeFor 70 = .ok (.iload_n 1, 1) := by decide +kernel
theorem dX6_homeFor_71 : decode cX6_homeFor 71 = .ok (.iload 5, 2) := by decide +kernel
theorem dX6_homeFor_73 : decode cX6_homeFor 73 = .ok (.invokevirtual 83, 3) := by decide +kernel
theorem dX6_homeFor_76 : decode cX6_homeFor 76 = .ok (.imul, 1) := by decide +kernel
theorem dX6_homeFor_77 : decode cX6_homeFor 77 = .ok (.iadd, 1) := by decide +kernel
theorem dX6_homeFor_78 : decode cX6_homeFor 78 = .ok (.aload_n 0, 1) := by decide +kernel
theorem dX6_homeFor_79 : decode cX6_homeFor 79 = .ok (.getfield 23, 3) := by decide +kernel
theorem dX6_homeFor_82 : decode cX6_homeFor 82 = .ok (.iload 5, 2) := by decide +kernel
theorem dX6_homeFor_84 : decode cX6_homeFor 84 = .ok (.invokevirtual 86, 3) := by decide +kernel
theorem dX6_homeFor_87 : decode cX6_homeFor 87 = .ok (.iadd, 1) := by decide +kernel
theorem dX6_homeFor_88 : decode cX6_homeFor 88 = .ok (.istore 6, 2) := by decide +kernel
theorem dX6_homeFor_90 : decode cX6_homeFor 90 = .ok (.iload_n 2, 1) := by decide +kernel
theorem dX6_homeFor_91 : decode cX6_homeFor 91 = .ok (.iconst (-1), 1) := by decide +kernel
theorem dX6_homeFor_92 : decode cX6_homeFor 92 = .ok (.if_icmp .eq 9, 3) := by decide +kernel
theorem dX6_homeFor_95 : decode cX6_homeFor 95 = .ok (.iload 6, 2) := by decide +kernel
theorem dX6_homeFor_97 : decode cX6_homeFor 97 = .ok (.iload_n 3, 1) := by decide +kernel
theorem dX6_homeFor_98 : decode cX6_homeFor 98 = .ok (.if_icmp .le 9, 3) := by decide +kernel
theorem dX6_homeFor_101 : decode cX6_homeFor 101 = .ok (.iload 4, 2) := by decide +kernel
theorem dX6_homeFor_103 : decode cX6_homeFor 103 = .ok (.istore_n 2, 1) := by decide +kernel
theorem dX6_homeFor_104 : decode cX6_homeFor 104 = .ok (.iload 6, 2) := by decide +kernel
theorem dX6_homeFor_106 : decode cX6_homeFor 106 = .ok (.istore_n 3, 1) := by decide +kernel
theorem dX6_homeFor_107 : decode cX6_homeFor 107 = .ok (.iinc 4 1, 3) := by decide +kernel
theorem dX6_homeFor_110 : decode cX6_homeFor 110 = .ok (.goto (-103), 3) := by decide +kernel
theorem dX6_homeFor_113 : decode cX6_homeFor 113 = .ok (.iload_n 2, 1) := by decide +kernel
theorem dX6_homeFor_114 : decode cX6_homeFor 114 = .ok (.ireturn, 1) := by decide +kernel
theorem dX6_noteWhys_0 : decode cX6_noteWhys 0 = .ok (.iconst 0, 1) := by decide +kernel
theorem dX6_noteWhys_1 : decode cX6_noteWhys 1 = .ok (.istore_n 3, 1) := by decide +kernel
theorem dX6_noteWhys_2 : decode cX6_noteWhys 2 = .ok (.iload_n 3, 1) := by decide +kernel
theorem dX6_noteWhys_3 : decode cX6_noteWhys 3 = .ok (.iload_n 1, 1) := by decide +kernel
theorem dX6_noteWhys_4 : decode cX6_noteWhys 4 = .ok (.if_icmp .ge 57, 3) := by decide +kernel
theorem dX6_noteWhys_7 : decode cX6_noteWhys 7 = .ok (.aload_n 0, 1) := by decide +kernel
theorem dX6_noteWhys_8 : decode cX6_noteWhys 8 = .ok (.getfield 9, 3) := by decide +kernel
theorem dX6_noteWhys_11 : decode cX6_noteWhys 11 = .ok (.iload_n 3, 1) := by decide +kernel
theorem dX6_noteWhys_12 : decode cX6_noteWhys 12 = .ok (.iaload, 1) := by decide +kernel
theorem dX6_noteWhys_13 : decode cX6_noteWhys 13 = .ok (.istore 4, 2) := by decide +kernel
theorem dX6_noteWhys_15 : decode cX6_noteWhys 15 = .ok (.aload_n 0, 1) := by decide +kernel
theorem dX6_noteWhys_16 : decode cX6_noteWhys 16 = .ok (.getfield 23, 3) := by decide +kernel
theorem dX6_noteWhys_19 : decode cX6_noteWhys 19 = .ok (.getfield 27, 3) := by decide +kernel
theorem dX6_noteWhys_22 : decode cX6_noteWhys 22 = .ok (.getfield 45, 3) := by decide +kernel
theorem dX6_noteWhys_25 : decode cX6_noteWhys 25 = .ok (.iload 4, 2) := by decide +kernel
theorem dX6_noteWhys_27 : decode cX6_noteWhys 27 = .ok (.iaload, 1) := by decide +kernel
theorem dX6_noteWhys_28 : decode cX6_noteWhys 28 = .ok (.ifCond .ne 27, 3) := by decide +kernel
theorem dX6_noteWhys_31 : decode cX6_noteWhys 31 = .ok (.aload_n 0, 1) := by decide +kernel
theorem dX6_noteWhys_32 : decode cX6_noteWhys 32 = .ok (.getfield 20, 3) := by decide +kernel
theorem dX6_noteWhys_35 : decode cX6_noteWhys 35 = .ok (.iload 4, 2) := by decide +kernel
theorem dX6_noteWhys_37 : decode cX6_noteWhys 37 = .ok (.aaload, 1) := by decide +kernel
theorem dX6_noteWhys_38 : decode cX6_noteWhys 38 = .ok (.aload_n 0, 1) := by decide +kernel
theorem dX6_noteWhys_39 : decode cX6_noteWhys 39 = .ok (.getfield 9, 3) := by decide +kernel
theorem dX6_noteWhys_42 : decode cX6_noteWhys 42 = .ok (.iload_n 1, 1) := by decide +kernel
theorem dX6_noteWhys_43 : decode cX6_noteWhys 43 = .ok (.iaload, 1) := by decide +kernel
theorem dX6_noteWhys_44 : decode cX6_noteWhys 44 = .ok (.aload_n 0, 1) := by decide +kernel
theorem dX6_noteWhys_45 : decode cX6_noteWhys 45 = .ok (.getfield 23, 3) := by decide +kernel
theorem dX6_noteWhys_48 : decode cX6_noteWhys 48 = .ok (.iload 4, 2) := by decide +kernel
theorem dX6_noteWhys_50 : decode cX6_noteWhys 50 = .ok (.iload_n 2, 1) := by decide +kernel
theorem dX6_noteWhys_51 : decode cX6_noteWhys 51 = .ok (.invokevirtual 73, 3) := by decide +kernel
theorem dX6_noteWhys_54 : decode cX6_noteWhys 54 = .ok (.iastore, 1) := by decide +kernel
theorem dX6_noteWhys_55 : decode cX6_noteWhys 55 = .ok (.iinc 3 1, 3) := by decide +kernel
theorem dX6_noteWhys_58 : decode cX6_noteWhys 58 = .ok (.goto (-56), 3) := by decide +kernel
theorem dX6_noteWhys_61 : decode cX6_noteWhys 61 = .ok (.return_, 1) := by decide +kernel
theorem dX6_takeBack_0 : decode cX6_takeBack 0 = .ok (.iconst 0, 1) := by decide +kernel
theorem dX6_takeBack_1 : decode cX6_takeBack 1 = .ok (.istore_n 1, 1) := by decide +kernel
theorem dX6_takeBack_2 : decode cX6_takeBack 2 = .ok (.iconst 0, 1) := by decide +kernel
theorem dX6_takeBack_3 : decode cX6_takeBack 3 = .ok (.istore_n 2, 1) := by decide +kernel
theorem dX6_takeBack_4 : decode cX6_takeBack 4 = .ok (.iload_n 2, 1) := by decide +kernel
theorem dX6_takeBack_5 : decode cX6_takeBack 5 = .ok (.aload_n 0, 1) := by decide +kernel
theorem dX6_takeBack_6 : decode cX6_takeBack 6 = .ok (.getfield 42, 3) := by decide +kernel
theorem dX6_takeBack_9 : decode cX6_takeBack 9 = .ok (.if_icmp .ge 55, 3) := by decide +kernel
theorem dX6_takeBack_12 : decode cX6_takeBack 12 = .ok (.aload_n 0, 1) := by decide +kernel
theorem dX6_takeBack_13 : decode cX6_takeBack 13 = .ok (.getfield 9, 3) := by decide +kernel
theorem dX6_takeBack_16 : decode cX6_takeBack 16 = .ok (.iload_n 2, 1) := by decide +kernel
theorem dX6_takeBack_17 : decode cX6_takeBack 17 = .ok (.iaload, 1) := by decide +kernel
theorem dX6_takeBack_18 : decode cX6_takeBack 18 = .ok (.istore_n 3, 1) := by decide +kernel
theorem dX6_takeBack_19 : decode cX6_takeBack 19 = .ok (.aload_n 0, 1) := by decide +kernel
theorem dX6_takeBack_20 : decode cX6_takeBack 20 = .ok (.getfield 23, 3) := by decide +kernel
theorem dX6_takeBack_23 : decode cX6_takeBack 23 = .ok (.getfield 27, 3) := by decide +kernel
theorem dX6_takeBack_26 : decode cX6_takeBack 26 = .ok (.getfield 45, 3) := by decide +kernel
theorem dX6_takeBack_29 : decode cX6_takeBack 29 = .ok (.iload_n 3, 1) := by decide +kernel
theorem dX6_takeBack_30 : decode cX6_takeBack 30 = .ok (.iaload, 1) := by decide +kernel
theorem dX6_takeBack_31 : decode cX6_takeBack 31 = .ok (.iconst 1, 1) := by decide +kernel
theorem dX6_takeBack_32 : decode cX6_takeBack 32 = .ok (.if_icmp .ne 26, 3) := by decide +kernel
theorem dX6_takeBack_35 : decode cX6_takeBack 35 = .ok (.iload_n 1, 1) := by decide +kernel
theorem dX6_takeBack_36 : decode cX6_takeBack 36 = .ok (.aload_n 0, 1) := by decide +kernel
theorem dX6_takeBack_37 : decode cX6_takeBack 37 = .ok (.getfield 23, 3) := by decide +kernel
theorem dX6_takeBack_40 : decode cX6_takeBack 40 = .ok (.getfield 27, 3) := by decide +kernel
theorem dX6_takeBack_43 : decode cX6_takeBack 43 = .ok (.getfield 89, 3) := by decide +kernel
theorem dX6_takeBack_46 : decode cX6_takeBack 46 = .ok (.iload_n 3, 1) := by decide +kernel
theorem dX6_takeBack_47 : decode cX6_takeBack 47 = .ok (.iaload, 1) := by decide +kernel
theorem dX6_takeBack_48 : decode cX6_takeBack 48 = .ok (.iadd, 1) := by decide +kernel
theorem dX6_takeBack_49 : decode cX6_takeBack 49 = .ok (.istore_n 1, 1) := by decide +kernel
theorem dX6_takeBack_50 : decode cX6_takeBack 50 = .ok (.aload_n 0, 1) := by decide +kernel
theorem dX6_takeBack_51 : decode cX6_takeBack 51 = .ok (.getfield 23, 3) := by decide +kernel
theorem dX6_takeBack_54 : decode cX6_takeBack 54 = .ok (.iload_n 3, 1) := by decide +kernel
theorem dX6_takeBack_55 : decode cX6_takeBack 55 = .ok (.invokevirtual 92, 3) := by decide +kernel
theorem dX6_takeBack_58 : decode cX6_takeBack 58 = .ok (.iinc 2 1, 3) := by decide +kernel
theorem dX6_takeBack_61 : decode cX6_takeBack 61 = .ok (.goto (-57), 3) := by decide +kernel
theorem dX6_takeBack_64 : decode cX6_takeBack 64 = .ok (.iload_n 1, 1) := by decide +kernel
theorem dX6_takeBack_65 : decode cX6_takeBack 65 = .ok (.ireturn, 1) := by decide +kernel
theorem dX6_whyPassed_0 : decode cX6_whyPassed 0 = .ok (.iload_n 1, 1) := by decide +kernel
theorem dX6_whyPassed_1 : decode cX6_whyPassed 1 = .ok (.ifCond .lt 34, 3) := by decide +kernel
theorem dX6_whyPassed_4 : decode cX6_whyPassed 4 = .ok (.iload_n 1, 1) := by decide +kernel
theorem dX6_whyPassed_5 : decode cX6_whyPassed 5 = .ok (.aload_n 0, 1) := by decide +kernel
theorem dX6_whyPassed_6 : decode cX6_whyPassed 6 = .ok (.getfield 39, 3) := by decide +kernel
theorem dX6_whyPassed_9 : decode cX6_whyPassed 9 = .ok (.if_icmp .ge 26, 3) := by decide +kernel
theorem dX6_whyPassed_12 : decode cX6_whyPassed 12 = .ok (.iload_n 2, 1) := by decide +kernel
theorem dX6_whyPassed_13 : decode cX6_whyPassed 13 = .ok (.ifCond .lt 22, 3) := by decide +kernel
theorem dX6_whyPassed_16 : decode cX6_whyPassed 16 = .ok (.iload_n 2, 1) := by decide +kernel
theorem dX6_whyPassed_17 : decode cX6_whyPassed 17 = .ok (.aload_n 0, 1) := by decide +kernel
theorem dX6_whyPassed_18 : decode cX6_whyPassed 18 = .ok (.getfield 39, 3) := by decide +kernel
theorem dX6_whyPassed_21 : decode cX6_whyPassed 21 = .ok (.if_icmp .ge 14, 3) := by decide +kernel
theorem dX6_whyPassed_24 : decode cX6_whyPassed 24 = .ok (.aload_n 0, 1) := by decide +kernel
theorem dX6_whyPassed_25 : decode cX6_whyPassed 25 = .ok (.getfield 20, 3) := by decide +kernel
theorem dX6_whyPassed_28 : decode cX6_whyPassed 28 = .ok (.iload_n 1, 1) := by decide +kernel
theorem dX6_whyPassed_29 : decode cX6_whyPassed 29 = .ok (.aaload, 1) := by decide +kernel
theorem dX6_whyPassed_30 : decode cX6_whyPassed 30 = .ok (.iload_n 2, 1) := by decide +kernel
theorem dX6_whyPassed_31 : decode cX6_whyPassed 31 = .ok (.iaload, 1) := by decide +kernel
theorem dX6_whyPassed_32 : decode cX6_whyPassed 32 = .ok (.goto 4, 3) := by decide +kernel
theorem dX6_whyPassed_35 : decode cX6_whyPassed 35 = .ok (.iconst (-1), 1) := by decide +kernel
theorem dX6_whyPassed_36 : decode cX6_whyPassed 36 = .ok (.ireturn, 1) := by decide +kernel
theorem dX7_init_0 : decode cX7_init 0 = .ok (.aload_n 0, 1) := by decide +kernel
theorem dX7_init_1 : decode cX7_init 1 = .ok (.invokespecial 3, 3) := by decide +kernel
theorem dX7_init_4 : decode cX7_init 4 = .ok (.aload_n 0, 1) := by decide +kernel
theorem dX7_init_5 : decode cX7_init 5 = .ok (.bipush 60, 2) := by decide +kernel
theorem dX7_init_7 : decode cX7_init 7 = .ok (.newarray .int, 2) := by decide +kernel
theorem dX7_init_9 : decode cX7_init 9 = .ok (.putfield 9, 3) := by decide +kernel
theorem dX7_init_12 : decode cX7_init 12 = .ok (.aload_n 0, 1) := by decide +kernel
theorem dX7_init_13 : decode cX7_init 13 = .ok (.bipush 60, 2) := by decide +kernel
theorem dX7_init_15 : decode cX7_init 15 = .ok (.newarray .int, 2) := by decide +kernel
theorem dX7_init_17 : decode cX7_init 17 = .ok (.putfield 15, 3) := by decide +kernel
theorem dX7_init_20 : decode cX7_init 20 = .ok (.aload_n 0, 1) := by decide +kernel
theorem dX7_init_21 : decode cX7_init 21 = .ok (.bipush 60, 2) := by decide +kernel
theorem dX7_init_23 : decode cX7_init 23 = .ok (.newarray .int, 2) := by decide +kernel
theorem dX7_init_25 : decode cX7_init 25 = .ok (.putfield 18, 3) := by decide +kernel
theorem dX7_init_28 : decode cX7_init 28 = .ok (.aload_n 0, 1) := by decide +kernel
theorem dX7_init_29 : decode cX7_init 29 = .ok (.bipush 60, 2) := by decide +kernel
theorem dX7_init_31 : decode cX7_init 31 = .ok (.newarray .int, 2) := by decide +kernel
theorem dX7_init_33 : decode cX7_init 33 = .ok (.putfield 21, 3) := by decide +kernel
theorem dX7_init_36 : decode cX7_init 36 = .ok (.aload_n 0, 1) := by decide +kernel
theorem dX7_init_37 : decode cX7_init 37 = .ok (.bipush 60, 2) := by decide +kernel
theorem dX7_init_39 : decode cX7_init 39 = .ok (.newarray .int, 2) := by decide +kernel
theorem dX7_init_41 : decode cX7_init 41 = .ok (.putfield 24, 3) := by decide +kernel
theorem dX7_init_44 : decode cX7_init 44 = .ok (.aload_n 0, 1) := by decide +kernel
theorem dX7_init_45 : decode cX7_init 45 = .ok (.bipush 60, 2) := by decide +kernel
theorem dX7_init_47 : decode cX7_init 47 = .ok (.newarray .int, 2) := by decide +kernel
theorem dX7_init_49 : decode cX7_init 49 = .ok (.putfield 27, 3) := by decide +kernel
theorem dX7_init_52 : decode cX7_init 52 = .ok (.aload_n 0, 1) := by decide +kernel
theorem dX7_init_53 : decode cX7_init 53 = .ok (.bipush 60, 2) := by decide +kernel
theorem dX7_init_55 : decode cX7_init 55 = .ok (.newarray .int, 2) := by decide +kernel
theorem dX7_init_57 : decode cX7_init 57 = .ok (.putfield 30, 3) := by decide +kernel
theorem dX7_init_60 : decode cX7_init 60 = .ok (.aload_n 0, 1) := by decide +kernel
theorem dX7_init_61 : decode cX7_init 61 = .ok (.bipush 40, 2) := by decide +kernel
theorem dX7_init_63 : decode cX7_init 63 = .ok (.newarray .int, 2) := by decide +kernel
theorem dX7_init_65 : decode cX7_init 65 = .ok (.putfield 33, 3) := by decide +kernel
theorem dX7_init_68 : decode cX7_init 68 = .ok (.aload_n 0, 1) := by decide +kernel
theorem dX7_init_69 : decode cX7_init 69 = .ok (.bipush 40, 2) := by decide +kernel
theorem dX7_init_71 : decode cX7_init 71 = .ok (.newarray .int, 2) := by decide +kernel
theorem dX7_init_73 : decode cX7_init 73 = .ok (.putfield 36, 3) := by decide +kernel
theorem dX7_init_76 : decode cX7_init 76 = .ok (.aload_n 0, 1) := by decide +kernel
theorem dX7_init_77 : decode cX7_init 77 = .ok (.bipush 40, 2) := by decide +kernel
theorem dX7_init_79 : decode cX7_init 79 = .ok (.newarray .int, 2) := by decide +kernel
theorem dX7_init_81 : decode cX7_init 81 = .ok (.putfield 39, 3) := by decide +kernel
theorem dX7_init_84 : decode cX7_init 84 = .ok (.aload_n 0, 1) := by decide +kernel
theorem dX7_init_85 : decode cX7_init 85 = .ok (.bipush 24, 2) := by decide +kernel
theorem dX7_init_87 : decode cX7_init 87 = .ok (.newarray .int, 2) := by decide +kernel
theorem dX7_init_89 : decode cX7_init 89 = .ok (.putfield 42, 3) := by decide +kernel
theorem dX7_init_92 : decode cX7_init 92 = .ok (.aload_n 0, 1) := by decide +kernel
theorem dX7_init_93 : decode cX7_init 93 = .ok (.bipush 24, 2) := by decide +kernel
theorem dX7_init_95 : decode cX7_init 95 = .ok (.newarray .int, 2) := by decide +kernel
theorem dX7_init_97 : decode cX7_init 97 = .ok (.putfield 45, 3) := by decide +kernel
theorem dX7_init_100 : decode cX7_init 100 = .ok (.return_, 1) := by decide +kernel
theorem dX7_has_0 : decode cX7_has 0 = .ok (.iload_n 1, 1) := by decide +kernel
theorem dX7_has_1 : decode cX7_has 1 = .ok (.ifCond .lt 21, 3) := by decide +kernel
theorem dX7_has_4 : decode cX7_has 4 = .ok (.iload_n 1, 1) := by decide +kernel
theorem dX7_has_5 : decode cX7_has 5 = .ok (.aload_n 0, 1) := by decide +kernel
theorem dX7_has_6 : decode cX7_has 6 = .ok (.getfield 48, 3) := by decide +kernel
theorem dX7_has_9 : decode cX7_has 9 = .ok (.if_icmp .ge 13, 3) := by decide +kernel
theorem dX7_has_12 : decode cX7_has 12 = .ok (.iload_n 1, 1) := by decide +kernel
theorem dX7_has_13 : decode cX7_has 13 = .ok (.bipush 60, 2) := by decide +kernel
theorem dX7_has_15 : decode cX7_has 15 = .ok (.if_icmp .ge 7, 3) := by decide +kernel
theorem dX7_has_18 : decode cX7_has 18 = .ok (.iconst 1, 1) := by decide +kernel
theorem dX7_has_19 : decode cX7_has 19 = .ok (.goto 4, 3) := by decide +kernel
theorem dX7_has_22 : decode cX7_has 22 = .ok (.iconst 0, 1) := by decide +kernel
theorem dX7_has_23 : decode cX7_has 23 = .ok (.ireturn, 1) := by decide +kernel
theorem dX7_add_0 : decode cX7_add 0 = .ok (.aload_n 0, 1) := by decide +kernel
theorem dX7_add_1 : decode cX7_add 1 = .ok (.getfield 48, 3) := by decide +kernel
theorem dX7_add_4 : decode cX7_add 4 = .ok (.bipush 60, 2) := by decide +kernel
theorem dX7_add_6 : decode cX7_add 6 = .ok (.if_icmp .lt 5, 3) := by decide +kernel
theorem dX7_add_9 : decode cX7_add 9 = .ok (.iconst (-1), 1) := by decide +kernel
theorem dX7_add_10 : decode cX7_add 10 = .ok (.ireturn, 1) := by decide +kernel
theorem dX7_add_11 : decode cX7_add 11 = .ok (.aload_n 0, 1) := by decide +kernel
theorem dX7_add_12 : decode cX7_add 12 = .ok (.getfield 9, 3) := by decide +kernel
theorem dX7_add_15 : decode cX7_add 15 = .ok (.aload_n 0, 1) := by decide +kernel
theorem dX7_add_16 : decode cX7_add 16 = .ok (.getfield 48, 3) := by decide +kernel
theorem dX7_add_19 : decode cX7_add 19 = .ok (.iload_n 1, 1) := by decide +kernel
theorem dX7_add_20 : decode cX7_add 20 = .ok (.iastore, 1) := by decide +kernel
theorem dX7_add_21 : decode cX7_add 21 = .ok (.aload_n 0, 1) := by decide +kernel
theorem dX7_add_22 : decode cX7_add 22 = .ok (.getfield 15, 3) := by decide +kernel
theorem dX7_add_25 : decode cX7_add 25 = .ok (.aload_n 0, 1) := by decide +kernel
theorem dX7_add_26 : decode cX7_add 26 = .ok (.getfield 48, 3) := by decide +kernel
theorem dX7_add_29 : decode cX7_add 29 = .ok (.iload_n 2, 1) := by decide +kernel
theorem dX7_add_30 : decode cX7_add 30 = .ok (.iastore, 1) := by decide +kernel
theorem dX7_add_31 : decode cX7_add 31 = .ok (.aload_n 0, 1) := by decide +kernel
theorem dX7_add_32 : decode cX7_add 32 = .ok (.getfield 18, 3) := by decide +kernel
theorem dX7_add_35 : decode cX7_add 35 = .ok (.aload_n 0, 1) := by decide +kernel
theorem dX7_add_36 : decode cX7_add 36 = .ok (.getfield 48, 3) := by decide +kernel
theorem dX7_add_39 : decode cX7_add 39 = .ok (.iload_n 3, 1) := by decide +kernel
theorem dX7_add_40 : decode cX7_add 40 = .ok (.iastore, 1) := by decide +kernel
theorem dX7_add_41 : decode cX7_add 41 = .ok (.aload_n 0, 1) := by decide +kernel
theorem dX7_add_42 : decode cX7_add 42 = .ok (.getfield 21, 3) := by decide +kernel
theorem dX7_add_45 : decode cX7_add 45 = .ok (.aload_n 0, 1) := by decide +kernel
theorem dX7_add_46 : decode cX7_add 46 = .ok (.getfield 48, 3) := by decide +kernel
theorem dX7_add_49 : decode cX7_add 49 = .ok (.iload 4, 2) := by decide +kernel
theorem dX7_add_51 : decode cX7_add 51 = .ok (.sipush 1000, 3) := by decide +kernel
theorem dX7_add_54 : decode cX7_add 54 = .ok (.idiv, 1) := by decide +kernel
theorem dX7_add_55 : decode cX7_add 55 = .ok (.iastore, 1) := by decide +kernel
theorem dX7_add_56 : decode cX7_add 56 = .ok (.aload_n 0, 1) := by decide +kernel
theorem dX7_add_57 : decode cX7_add 57 = .ok (.getfield 24, 3) := by decide +kernel
theorem dX7_add_60 : decode cX7_add 60 = .ok (.aload_n 0, 1) := by decide +kernel
theorem dX7_add_61 : decode cX7_add 61 = .ok (.getfield 48, 3) := by decide +kernel
theorem dX7_add_64 : decode cX7_add 64 = .ok (.iload 4, 2) := by decide +kernel
theorem dX7_add_66 : decode cX7_add 66 = .ok (.sipush 1000, 3) := by decide +kernel
theorem dX7_add_69 : decode cX7_add 69 = .ok (.irem, 1) := by decide +kernel
theorem dX7_add_70 : decode cX7_add 70 = .ok (.iastore, 1) := by decide +kernel
theorem dX7_add_71 : decode cX7_add 71 = .ok (.aload_n 0, 1) := by decide +kernel
theorem dX7_add_72 : decode cX7_add 72 = .ok (.getfield 27, 3) := by decide +kernel
theorem dX7_add_75 : decode cX7_add 75 = .ok (.aload_n 0, 1) := by decide +kernel
theorem dX7_add_76 : decode cX7_add 76 = .ok (.getfield 48, 3) := by decide +kernel
theorem dX7_add_79 : decode cX7_add 79 = .ok (.iload 5, 2) := by decide +kernel
theorem dX7_add_81 : decode cX7_add 81 = .ok (.iastore, 1) := by decide +kernel
theorem dX7_add_82 : decode cX7_add 82 = .ok (.aload_n 0, 1) := by decide +kernel
theorem dX7_add_83 : decode cX7_add 83 = .ok (.getfield 30, 3) := by decide +kernel
theorem dX7_add_86 : decode cX7_add 86 = .ok (.aload_n 0, 1) := by decide +kernel
theorem dX7_add_87 : decode cX7_add 87 = .ok (.getfield 48, 3) := by decide +kernel
theorem dX7_add_90 : decode cX7_add 90 = .ok (.aload_n 0, 1) := by decide +kernel
theorem dX7_add_91 : decode cX7_add 91 = .ok (.getfield 48, 3) := by decide +kernel
theorem dX7_add_94 : decode cX7_add 94 = .ok (.iastore, 1) := by decide +kernel
theorem dX7_add_95 : decode cX7_add 95 = .ok (.aload_n 0, 1) := by decide +kernel
theorem dX7_add_96 : decode cX7_add 96 = .ok (.dup, 1) := by decide +kernel
theorem dX7_add_97 : decode cX7_add 97 = .ok (.getfield 48, 3) := by decide +kernel
theorem dX7_add_100 : decode cX7_add 100 = .ok (.iconst 1, 1) := by decide +kernel
theorem dX7_add_101 : decode cX7_add 101 = .ok (.iadd, 1) := by decide +kernel
theorem dX7_add_102 : decode cX7_add 102 = .ok (.putfield 48, 3) := by decide +kernel
theorem dX7_add_105 : decode cX7_add 105 = .ok (.aload_n 0, 1) := by decide +kernel
theorem dX7_add_106 : decode cX7_add 106 = .ok (.aload_n 0, 1) := by decide +kernel
theorem dX7_add_107 : decode cX7_add 107 = .ok (.getfield 48, 3) := by decide +kernel
theorem dX7_add_110 : decode cX7_add 110 = .ok (.iconst 1, 1) := by decide +kernel
theorem dX7_add_111 : decode cX7_add 111 = .ok (.isub, 1) := by decide +kernel
theorem dX7_add_112 : decode cX7_add 112 = .ok (.invokevirtual 52, 3) := by decide +kernel
theorem dX7_add_115 : decode cX7_add 115 = .ok (.aload_n 0, 1) := by decide +kernel
theorem dX7_add_116 : decode cX7_add 116 = .ok (.getfield 48, 3) := by decide +kernel
theorem dX7_add_119 : decode cX7_add 119 = .ok (.iconst 1, 1) := by decide +kernel
theorem dX7_add_120 : decode cX7_add 120 = .ok (.isub, 1) := by decide +kernel
theorem dX7_add_121 : decode cX7_add 121 = .ok (.ireturn, 1) := by decide +kernel
theorem dX7_points_0 : decode cX7_points 0 = .ok (.aload_n 0, 1) := by decide +kernel
theorem dX7_points_1 : decode cX7_points 1 = .ok (.iload_n 1, 1) := by decide +kernel
theorem dX7_points_2 : decode cX7_points 2 = .ok (.invokevirtual 56, 3) := by decide +kernel
theorem dX7_points_5 : decode cX7_points 5 = .ok (.ifCond .ne 5, 3) := by decide +kernel
theorem dX7_points_8 : decode cX7_points 8 = .ok (.iconst 0, 1) := by decide +kernel
theorem dX7_points_9 : decode cX7_points 9 = .ok (.ireturn, 1) := by decide +kernel
theorem dX7_points_10 : decode cX7_points 10 = .ok (.iconst 0, 1) := by decide +kernel
theorem dX7_points_11 : decode cX7_points 11 = .ok (.istore 4, 2) := by decide +kernel
theorem dX7_points_13 : decode cX7_points 13 = .ok (.aload_n 0, 1) := by decide +kernel
theorem dX7_points_14 : decode cX7_points 14 = .ok (.getfield 15, 3) := by decide +kernel
theorem dX7_points_17 : decode cX7_points 17 = .ok (.iload_n 1, 1) := by decide +kernel
theorem dX7_points_18 : decode cX7_points 18 = .ok (.iaload, 1) := by decide +kernel
theorem dX7_points_19 : decode cX7_points 19 = .ok (.istore 5, 2) := by decide +kernel
theorem dX7_points_21 : decode cX7_points 21 = .ok (.iload_n 2, 1) := by decide +kernel
theorem dX7_points_22 : decode cX7_points 22 = .ok (.istore 6, 2) := by decide +kernel
theorem dX7_points_24 : decode cX7_points 24 = .ok (.iconst 0, 1) := by decide +kernel
theorem dX7_points_25 : decode cX7_points 25 = .ok (.istore 7, 2) := by decide +kernel
theorem dX7_points_27 : decode cX7_points 27 = .ok (.iload 7, 2) := by decide +kernel
theorem dX7_points_29 : decode cX7_points 29 = .ok (.bipush 6, 2) := by decide +kernel
theorem dX7_points_31 : decode cX7_points 31 = .ok (.if_icmp .ge 39, 3) := by decide +kernel
theorem dX7_points_34 : decode cX7_points 34 = .ok (.iload 5, 2) := by decide +kernel
theorem dX7_points_36 : decode cX7_points 36 = .ok (.bipush 10, 2) := by decide +kernel
theorem dX7_points_38 : decode cX7_points 38 = .ok (.irem, 1) := by decide +kernel
theorem dX7_points_39 : decode cX7_points 39 = .ok (.iload 6, 2) := by decide +kernel
theorem dX7_points_41 : decode cX7_points 41 = .ok (.bipush 10, 2) := by decide +kernel
theorem dX7_points_43 : decode cX7_points 43 = .ok (.irem, 1) := by decide +kernel
theorem dX7_points_44 : decode cX7_points 44 = .ok (.if_icmp .ne 6, 3) := by decide +kernel
theorem dX7_points_47 : decode cX7_points 47 = .ok (.iinc 4 1, 3) := by decide +kernel
theorem dX7_points_50 : decode cX7_points 50 = .ok (.iload 5, 2) := by decide +kernel
theorem dX7_points_52 : decode cX7_points 52 = .ok (.bipush 10, 2) := by decide +kernel
theorem dX7_points_54 : decode cX7_points 54 = .ok (.idiv, 1) := by decide +kernel
theorem dX7_points_55 : decode cX7_points 55 = .ok (.istore 5, 2) := by decide +kernel
theorem dX7_points_57 : decode cX7_points 57 = .ok (.iload 6, 2) := by decide +kernel
theorem dX7_points_59 : decode cX7_points 59 = .ok (.bipush 10, 2) := by decide +kernel
theorem dX7_points_61 : decode cX7_points 61 = .ok (.idiv, 1) := by decide +kernel
theorem dX7_points_62 : decode cX7_points 62 = .ok (.istore 6, 2) := by decide +kernel
theorem dX7_points_64 : decode cX7_points 64 = .ok (.iinc 7 1, 3) := by decide +kernel
theorem dX7_points_67 : decode cX7_points 67 = .ok (.goto (-40), 3) := by decide +kernel
theorem dX7_points_70 : decode cX7_points 70 = .ok (.iload 4, 2) := by decide +kernel
theorem dX7_points_72 : decode cX7_points 72 = .ok (.aload_n 0, 1) := by decide +kernel
theorem dX7_points_73 : decode cX7_points 73 = .ok (.getfield 18, 3) := by decide +kernel
theorem dX7_points_76 : decode cX7_points 76 = .ok (.iload_n 1, 1) := by decide +kernel
theorem dX7_points_77 : decode cX7_points 77 = .ok (.iaload, 1) := by decide +kernel
theorem dX7_points_78 : decode cX7_points 78 = .ok (.iload_n 3, 1) := by decide +kernel
theorem dX7_points_79 : decode cX7_points 79 = .ok (.isub, 1) := by decide +kernel
theorem dX7_points_80 : decode cX7_points 80 = .ok (.invokestatic 60, 3) := by decide +kernel
theorem dX7_points_83 : decode cX7_points 83 = .ok (.isub, 1) := by decide +kernel
theorem dX7_points_84 : decode cX7_points 84 = .ok (.ireturn, 1) := by decide +kernel
theorem dX7_areBarred_0 : decode cX7_areBarred 0 = .ok (.aload_n 0, 1) := by decide +kernel
theorem dX7_areBarred_1 : decode cX7_areBarred 1 = .ok (.getfield 21, 3) := by decide +kernel
theorem dX7_areBarred_4 : decode cX7_areBarred 4 = .ok (.iload_n 1, 1) := by decide +kernel
theorem dX7_areBarred_5 : decode cX7_areBarred 5 = .ok (.iaload, 1) := by decide +kernel
theorem dX7_areBarred_6 : decode cX7_areBarred 6 = .ok (.aload_n 0, 1) := by decide +kernel
theorem dX7_areBarred_7 : decode cX7_areBarred 7 = .ok (.getfield 24, 3) := by decide +kernel
theorem dX7_areBarred_10 : decode cX7_areBarred 10 = .ok (.iload_n 2, 1) := by decide +kernel
theorem dX7_areBarred_11 : decode cX7_areBarred 11 = .ok (.iaload, 1) := by decide +kernel
theorem dX7_areBarred_12 : decode cX7_areBarred 12 = .ok (.if_icmp .gt 22, 3) := by decide +kernel
theorem dX7_areBarred_15 : decode cX7_areBarred 15 = .ok (.aload_n 0, 1) := by decide +kernel
theorem dX7_areBarred_16 : decode cX7_areBarred 16 = .ok (.getfield 21, 3) := by decide +kernel
theorem dX7_areBarred_19 : decode cX7_areBarred 19 = .ok (.iload_n 2, 1) := by decide +kernel
theorem dX7_areBarred_20 : decode cX7_areBarred 20 = .ok (.iaload, 1) := by decide +kernel
theorem dX7_areBarred_21 : decode cX7_areBarred 21 = .ok (.aload_n 0, 1) := by decide +kernel
theorem dX7_areBarred_22 : decode cX7_areBarred 22 = .ok (.getfield 24, 3) := by decide +kernel
theorem dX7_areBarred_25 : decode cX7_areBarred 25 = .ok (.iload_n 1, 1) := by decide +kernel
theorem dX7_areBarred_26 : decode cX7_areBarred 26 = .ok (.iaload, 1) := by decide +kernel
theorem dX7_areBarred_27 : decode cX7_areBarred 27 = .ok (.if_icmp .gt 7, 3) := by decide +kernel
theorem dX7_areBarred_30 : decode cX7_areBarred 30 = .ok (.iconst 1, 1) := by decide +kernel
theorem dX7_areBarred_31 : decode cX7_areBarred 31 = .ok (.goto 4, 3) := by decide +kernel
theorem dX7_areBarred_34 : decode cX7_areBarred 34 = .ok (.iconst 0, 1) := by decide +kernel
theorem dX7_areBarred_35 : decode cX7_areBarred 35 = .ok (.ireturn, 1) := by decide +kernel
theorem dX7_canBeAlike_0 : decode cX7_canBeAlike 0 = .ok (.aload_n 0, 1) := by decide +kernel
theorem dX7_canBeAlike_1 : decode cX7_canBeAlike 1 = .ok (.iload_n 1, 1) := by decide +kernel
theorem dX7_canBeAlike_2 : decode cX7_canBeAlike 2 = .ok (.invokevirtual 56, 3) := by decide +kernel
theorem dX7_canBeAlike_5 : decode cX7_canBeAlike 5 = .ok (.ifCond .eq 39, 3) := by decide +kernel
theorem dX7_canBeAlike_8 : decode cX7_canBeAlike 8 = .ok (.aload_n 0, 1) := by decide +kernel
theorem dX7_canBeAlike_9 : decode cX7_canBeAlike 9 = .ok (.iload_n 2, 1) := by decide +kernel
theorem dX7_canBeAlike_10 : decode cX7_canBeAlike 10 = .ok (.invokevirtual 56, 3) := by decide +kernel
theorem dX7_canBeAlike_13 : decode cX7_canBeAlike 13 = .ok (.ifCond .eq 31, 3) := by decide +kernel
theorem dX7_canBeAlike_16 : decode cX7_canBeAlike 16 = .ok (.aload_n 0, 1) := by decide +kernel
theorem dX7_canBeAlike_17 : decode cX7_canBeAlike 17 = .ok (.getfield 9, 3) := by decide +kernel
theorem dX7_canBeAlike_20 : decode cX7_canBeAlike 20 = .ok (.iload_n 1, 1) := by decide +kernel
theorem dX7_canBeAlike_21 : decode cX7_canBeAlike 21 = .ok (.iaload, 1) := by decide +kernel
theorem dX7_canBeAlike_22 : decode cX7_canBeAlike 22 = .ok (.aload_n 0, 1) := by decide +kernel
theorem dX7_canBeAlike_23 : decode cX7_canBeAlike 23 = .ok (.getfield 9, 3) := by decide +kernel
theorem dX7_canBeAlike_26 : decode cX7_canBeAlike 26 = .ok (.iload_n 2, 1) := by decide +kernel
theorem dX7_canBeAlike_27 : decode cX7_canBeAlike 27 = .ok (.iaload, 1) := by decide +kernel
theorem dX7_canBeAlike_28 : decode cX7_canBeAlike 28 = .ok (.if_icmp .eq 16, 3) := by decide +kernel
theorem dX7_canBeAlike_31 : decode cX7_canBeAlike 31 = .ok (.aload_n 0, 1) := by decide +kernel
theorem dX7_canBeAlike_32 : decode cX7_canBeAlike 32 = .ok (.iload_n 1, 1) := by decide +kernel
theorem dX7_canBeAlike_33 : decode cX7_canBeAlike 33 = .ok (.iload_n 2, 1) := by decide +kernel
theorem dX7_canBeAlike_34 : decode cX7_canBeAlike 34 = .ok (.invokevirtual 66, 3) := by decide +kernel
theorem dX7_canBeAlike_37 : decode cX7_canBeAlike 37 = .ok (.ifCond .ne 7, 3) := by decide +kernel
theorem dX7_canBeAlike_40 : decode cX7_canBeAlike 40 = .ok (.iconst 1, 1) := by decide +kernel
theorem dX7_canBeAlike_41 : decode cX7_canBeAlike 41 = .ok (.goto 4, 3) := by decide +kernel
theorem dX7_canBeAlike_44 : decode cX7_canBeAlike 44 = .ok (.iconst 0, 1) := by decide +kernel
theorem dX7_canBeAlike_45 : decode cX7_canBeAlike 45 = .ok (.ireturn, 1) := by decide +kernel
theorem dX7_matchOf_0 : decode cX7_matchOf 0 = .ok (.iconst (-1), 1) := by decide +kernel
theorem dX7_matchOf_1 : decode cX7_matchOf 1 = .ok (.istore_n 2, 1) := by decide +kernel
theorem dX7_matchOf_2 : decode cX7_matchOf 2 = .ok (.iconst 3, 1) := by decide +kernel
theorem dX7_matchOf_3 : decode cX7_matchOf 3 = .ok (.istore_n 3, 1) := by decide +kernel
theorem dX7_matchOf_4 : decode cX7_matchOf 4 = .ok (.iconst 0, 1) := by decide +kernel
theorem dX7_matchOf_5 : decode cX7_matchOf 5 = .ok (.istore 4, 2) := by decide +kernel
theorem dX7_matchOf_7 : decode cX7_matchOf 7 = .ok (.iload 4, 2) := by decide +kernel
theorem dX7_matchOf_9 : decode cX7_matchOf 9 = .ok (.aload_n 0, 1) := by decide +kernel
theorem dX7_matchOf_10 : decode cX7_matchOf 10 = .ok (.getfield 48, 3) := by decide +kernel
theorem dX7_matchOf_13 : decode cX7_matchOf 13 = .ok (.if_icmp .ge 52, 3) := by decide +kernel
theorem dX7_matchOf_16 : decode cX7_matchOf 16 = .ok (.aload_n 0, 1) := by decide +kernel
theorem dX7_matchOf_17 : decode cX7_matchOf 17 = .ok (.iload_n 1, 1) := by decide +kernel
theorem dX7_matchOf_18 : decode cX7_matchOf 18 = .ok (.iload 4, 2) := by decide +kernel
theorem dX7_matchOf_20 : decode cX7_matchOf 20 = .ok (.invokevirtual 70, 3) := by decide +kernel
theorem dX7_matchOf_23 : decode cX7_matchOf 23 = .ok (.ifCond .eq 36, 3) := by decide +kernel
theorem dX7_matchOf_26 : decode cX7_matchOf 26 = .ok (.aload_n 0, 1) := by decide +kernel
theorem dX7_matchOf_27 : decode cX7_matchOf 27 = .ok (.iload_n 1, 1) := by decide +kernel
theorem dX7_matchOf_28 : decode cX7_matchOf 28 = .ok (.aload_n 0, 1) := by decide +kernel
theorem dX7_matchOf_29 : decode cX7_matchOf 29 = .ok (.getfield 15, 3) := by decide +kernel
theorem dX7_matchOf_32 : decode cX7_matchOf 32 = .ok (.iload 4, 2) := by decide +kernel
theorem dX7_matchOf_34 : decode cX7_matchOf 34 = .ok (.iaload, 1) := by decide +kernel
theorem dX7_matchOf_35 : decode cX7_matchOf 35 = .ok (.aload_n 0, 1) := by decide +kernel
theorem dX7_matchOf_36 : decode cX7_matchOf 36 = .ok (.getfield 18, 3) := by decide +kernel
theorem dX7_matchOf_39 : decode cX7_matchOf 39 = .ok (.iload 4, 2) := by decide +kernel
theorem dX7_matchOf_41 : decode cX7_matchOf 41 = .ok (.iaload, 1) := by decide +kernel
theorem dX7_matchOf_42 : decode cX7_matchOf 42 = .ok (.invokevirtual 73, 3) := by decide +kernel
theorem dX7_matchOf_45 : decode cX7_matchOf 45 = .ok (.istore 5, 2) := by decide +kernel
theorem dX7_matchOf_47 : decode cX7_matchOf 47 = .ok (.iload 5, 2) := by decide +kernel
theorem dX7_matchOf_49 : decode cX7_matchOf 49 = .ok (.iload_n 3, 1) := by decide +kernel
theorem dX7_matchOf_50 : decode cX7_matchOf 50 = .ok (.if_icmp .le 9, 3) := by decide +kernel
theorem dX7_matchOf_53 : decode cX7_matchOf 53 = .ok (.iload 4, 2) := by decide +kernel
theorem dX7_matchOf_55 : decode cX7_matchOf 55 = .ok (.istore_n 2, 1) := by decide +kernel
theorem dX7_matchOf_56 : decode cX7_matchOf 56 = .ok (.iload 5, 2) := by decide +kernel
theorem dX7_matchOf_58 : decode cX7_matchOf 58 = .ok (.istore_n 3, 1) := by decide +kernel
theorem dX7_matchOf_59 : decode cX7_matchOf 59 = .ok (.iinc 4 1, 3) := by decide +kernel
theorem dX7_matchOf_62 : decode cX7_matchOf 62 = .ok (.goto (-55), 3) := by decide +kernel
theorem dX7_matchOf_65 : decode cX7_matchOf 65 = .ok (.iload_n 2, 1) := by decide +kernel
theorem dX7_matchOf_66 : decode cX7_matchOf 66 = .ok (.ireturn, 1) := by decide +kernel
theorem dX7_rivalsOf_0 : decode cX7_rivalsOf 0 = .ok (.aload_n 0, 1) := by decide +kernel
theorem dX7_rivalsOf_1 : decode cX7_rivalsOf 1 = .ok (.iload_n 2, 1) := by decide +kernel
theorem dX7_rivalsOf_2 : decode cX7_rivalsOf 2 = .ok (.invokevirtual 56, 3) := by decide +kernel
theorem dX7_rivalsOf_5 : decode cX7_rivalsOf 5 = .ok (.ifCond .ne 5, 3) := by decide +kernel
theorem dX7_rivalsOf_8 : decode cX7_rivalsOf 8 = .ok (.iconst (-1), 1) := by decide +kernel
theorem dX7_rivalsOf_9 : decode cX7_rivalsOf 9 = .ok (.ireturn, 1) := by decide +kernel
theorem dX7_rivalsOf_10 : decode cX7_rivalsOf 10 = .ok (.aload_n 0, 1) := by decide +kernel
theorem dX7_rivalsOf_11 : decode cX7_rivalsOf 11 = .ok (.iload_n 1, 1) := by decide +kernel
theorem dX7_rivalsOf_12 : decode cX7_rivalsOf 12 = .ok (.aload_n 0, 1) := by decide +kernel
theorem dX7_rivalsOf_13 : decode cX7_rivalsOf 13 = .ok (.getfield 15, 3) := by decide +kernel
theorem dX7_rivalsOf_16 : decode cX7_rivalsOf 16 = .ok (.iload_n 2, 1) := by decide +kernel
theorem dX7_rivalsOf_17 : decode cX7_rivalsOf 17 = .ok (.iaload, 1) := by decide +kernel
theorem dX7_rivalsOf_18 : decode cX7_rivalsOf 18 = .ok (.aload_n 0, 1) := by decide +kernel
theorem dX7_rivalsOf_19 : decode cX7_rivalsOf 19 = .ok (.getfield 18, 3) := by decide +kernel
theorem dX7_rivalsOf_22 : decode cX7_rivalsOf 22 = .ok (.iload_n 2, 1) := by decide +kernel
theorem dX7_rivalsOf_23 : decode cX7_rivalsOf 23 = .ok (.iaload, 1) := by decide +kernel
theorem dX7_rivalsOf_24 : decode cX7_rivalsOf 24 = .ok (.invokevirtual 73, 3) := by decide +kernel
theorem dX7_rivalsOf_27 : decode cX7_rivalsOf 27 = .ok (.istore_n 3, 1) := by decide +kernel
theorem dX7_rivalsOf_28 : decode cX7_rivalsOf 28 = .ok (.iconst 0, 1) := by decide +kernel
theorem dX7_rivalsOf_29 : decode cX7_rivalsOf 29 = .ok (.istore 4, 2) := by decide +kernel
theorem dX7_rivalsOf_31 : decode cX7_rivalsOf 31 = .ok (.iconst 0, 1) := by decide +kernel
theorem dX7_rivalsOf_32 : decode cX7_rivalsOf 32 = .ok (.istore 5, 2) := by decide +kernel
theorem dX7_rivalsOf_34 : decode cX7_rivalsOf 34 = .ok (.iload 5, 2) := by decide +kernel
theorem dX7_rivalsOf_36 : decode cX7_rivalsOf 36 = .ok (.aload_n 0, 1) := by decide +kernel
theorem dX7_rivalsOf_37 : decode cX7_rivalsOf 37 = .ok (.getfield 48, 3) := by decide +kernel
theorem dX7_rivalsOf_40 : decode cX7_rivalsOf 40 = .ok (.if_icmp .ge 51, 3) := by decide +kernel
theorem dX7_rivalsOf_43 : decode cX7_rivalsOf 43 = .ok (.iload 5, 2) := by decide +kernel
theorem dX7_rivalsOf_45 : decode cX7_rivalsOf 45 = .ok (.iload_n 2, 1) := by decide +kernel
theorem dX7_rivalsOf_46 : decode cX7_rivalsOf 46 = .ok (.if_icmp .eq 39, 3) := by decide +kernel
theorem dX7_rivalsOf_49 : decode cX7_rivalsOf 49 = .ok (.aload_n 0, 1) := by decide +kernel
theorem dX7_rivalsOf_50 : decode cX7_rivalsOf 50 = .ok (.iload_n 1, 1) := by decide +kernel
theorem dX7_rivalsOf_51 : decode cX7_rivalsOf 51 = .ok (.iload 5, 2) := by decide +kernel
theorem dX7_rivalsOf_53 : decode cX7_rivalsOf 53 = .ok (.invokevirtual 70, 3) := by decide +kernel
theorem dX7_rivalsOf_56 : decode cX7_rivalsOf 56 = .ok (.ifCond .eq 29, 3) := by decide +kernel
theorem dX7_rivalsOf_59 : decode cX7_rivalsOf 59 = .ok (.aload_n 0, 1) := by decide +kernel
theorem dX7_rivalsOf_60 : decode cX7_rivalsOf 60 = .ok (.iload_n 1, 1) := by decide +kernel
theorem dX7_rivalsOf_61 : decode cX7_rivalsOf 61 = .ok (.aload_n 0, 1) := by decide +kernel
theorem dX7_rivalsOf_62 : decode cX7_rivalsOf 62 = .ok (.getfield 15, 3) := by decide +kernel
theorem dX7_rivalsOf_65 : decode cX7_rivalsOf 65 = .ok (.iload 5, 2) := by decide +kernel
theorem dX7_rivalsOf_67 : decode cX7_rivalsOf 67 = .ok (.iaload, 1) := by decide +kernel
theorem dX7_rivalsOf_68 : decode cX7_rivalsOf 68 = .ok (.aload_n 0, 1) := by decide +kernel
theorem dX7_rivalsOf_69 : decode cX7_rivalsOf 69 = .ok (.getfield 18, 3) := by decide +kernel
theorem dX7_rivalsOf_72 : decode cX7_rivalsOf 72 = .ok (.iload 5, 2) := by decide +kernel
theorem dX7_rivalsOf_74 : decode cX7_rivalsOf 74 = .ok (.iaload, 1) := by decide +kernel
theorem dX7_rivalsOf_75 : decode cX7_rivalsOf 75 = .ok (.invokevirtual 73, 3) := by decide +kernel
theorem dX7_rivalsOf_78 : decode cX7_rivalsOf 78 = .ok (.iload_n 3, 1) := by decide +kernel
theorem dX7_rivalsOf_79 : decode cX7_rivalsOf 79 = .ok (.if_icmp .ne 6, 3) := by decide +kernel
theorem dX7_rivalsOf_82 : decode cX7_rivalsOf 82 = .ok (.iinc 4 1, 3) := by decide +kernel
theorem dX7_rivalsOf_85 : decode cX7_rivalsOf 85 = .ok (.iinc 5 1, 3) := by decide +kernel
theorem dX7_rivalsOf_88 : decode cX7_rivalsOf 88 = .ok (.goto (-54), 3) := by decide +kernel
theorem dX7_rivalsOf_91 : decode cX7_rivalsOf 91 = .ok (.iload 4, 2) := by decide +kernel
theorem dX7_rivalsOf_93 : decode cX7_rivalsOf 93 = .ok (.ireturn, 1) := by decide +kernel
theorem dX7_joinHeaps_0 : decode cX7_joinHeaps 0 = .ok (.aload_n 0, 1) := by decide +kernel
theorem dX7_joinHeaps_1 : decode cX7_joinHeaps 1 = .ok (.iload_n 1, 1) := by decide +kernel
theorem dX7_joinHeaps_2 : decode cX7_joinHeaps 2 = .ok (.invokevirtual 56, 3) := by decide +kernel
theorem dX7_joinHeaps_5 : decode cX7_joinHeaps 5 = .ok (.ifCond .eq 45, 3) := by decide +kernel
theorem dX7_joinHeaps_8 : decode cX7_joinHeaps 8 = .ok (.aload_n 0, 1) := by decide +kernel
theorem dX7_joinHeaps_9 : decode cX7_joinHeaps 9 = .ok (.iload_n 2, 1) := by decide +kernel
theorem dX7_joinHeaps_10 : decode cX7_joinHeaps 10 = .ok (.invokevirtual 56, 3) := by decide +kernel
theorem dX7_joinHeaps_13 : decode cX7_joinHeaps 13 = .ok (.ifCond .eq 37, 3) := by decide +kernel
theorem dX7_joinHeaps_16 : decode cX7_joinHeaps 16 = .ok (.aload_n 0, 1) := by decide +kernel
theorem dX7_joinHeaps_17 : decode cX7_joinHeaps 17 = .ok (.getfield 30, 3) := by decide +kernel
theorem dX7_joinHeaps_20 : decode cX7_joinHeaps 20 = .ok (.iload_n 1, 1) := by decide +kernel
theorem dX7_joinHeaps_21 : decode cX7_joinHeaps 21 = .ok (.iaload, 1) := by decide +kernel
theorem dX7_joinHeaps_22 : decode cX7_joinHeaps 22 = .ok (.aload_n 0, 1) := by decide +kernel
theorem dX7_joinHeaps_23 : decode cX7_joinHeaps 23 = .ok (.getfield 30, 3) := by decide +kernel
theorem dX7_joinHeaps_26 : decode cX7_joinHeaps 26 = .ok (.iload_n 2, 1) := by decide +kernel
theorem dX7_joinHeaps_27 : decode cX7_joinHeaps 27 = .ok (.iaload, 1) := by decide +kernel
theorem dX7_joinHeaps_28 : decode cX7_joinHeaps 28 = .ok (.if_icmp .eq 22, 3) := by decide +kernel
theorem dX7_joinHeaps_31 : decode cX7_joinHeaps 31 = .ok (.aload_n 0, 1) := by decide +kernel
theorem dX7_joinHeaps_32 : decode cX7_joinHeaps 32 = .ok (.aload_n 0, 1) := by decide +kernel
theorem dX7_joinHeaps_33 : decode cX7_joinHeaps 33 = .ok (.getfield 30, 3) := by decide +kernel
theorem dX7_joinHeaps_36 : decode cX7_joinHeaps 36 = .ok (.iload_n 1, 1) := by decide +kernel
theorem dX7_joinHeaps_37 : decode cX7_joinHeaps 37 = .ok (.iaload, 1) := by decide +kernel
theorem dX7_joinHeaps_38 : decode cX7_joinHeaps 38 = .ok (.aload_n 0, 1) := by decide +kernel
theorem dX7_joinHeaps_39 : decode cX7_joinHeaps 39 = .ok (.getfield 30, 3) := by decide +kernel
theorem dX7_joinHeaps_42 : decode cX7_joinHeaps 42 = .ok (.iload_n 2, 1) := by decide +kernel
theorem dX7_joinHeaps_43 : decode cX7_joinHeaps 43 = .ok (.iaload, 1) := by decide +kernel
theorem dX7_joinHeaps_44 : decode cX7_joinHeaps 44 = .ok (.invokevirtual 77, 3) := by decide +kernel
theorem dX7_joinHeaps_47 : decode cX7_joinHeaps 47 = .ok (.ifCond .ne 5, 3) := by decide +kernel
theorem dX7_joinHeaps_50 : decode cX7_joinHeaps 50 = .ok (.iconst (-1), 1) := by decide +kernel
theorem dX7_joinHeaps_51 : decode cX7_joinHeaps 51 = .ok (.ireturn, 1) := by decide +kernel
theorem dX7_joinHeaps_52 : decode cX7_joinHeaps 52 = .ok (.aload_n 0, 1) := by decide +kernel
theorem dX7_joinHeaps_53 : decode cX7_joinHeaps 53 = .ok (.getfield 30, 3) := by decide +kernel
theorem dX7_joinHeaps_56 : decode cX7_joinHeaps 56 = .ok (.iload_n 1, 1) := by decide +kernel
theorem dX7_joinHeaps_57 : decode cX7_joinHeaps 57 = .ok (.iaload, 1) := by decide +kernel
theorem dX7_joinHeaps_58 : decode cX7_joinHeaps 58 = .ok (.istore_n 3, 1) := by decide +kernel
theorem dX7_joinHeaps_59 : decode cX7_joinHeaps 59 = .ok (.aload_n 0, 1) := by decide +kernel
theorem dX7_joinHeaps_60 : decode cX7_joinHeaps 60 = .ok (.getfield 30, 3) := by decide +kernel
theorem dX7_joinHeaps_63 : decode cX7_joinHeaps 63 = .ok (.iload_n 2, 1) := by decide +kernel
theorem dX7_joinHeaps_64 : decode cX7_joinHeaps 64 = .ok (.iaload, 1) := by decide +kernel
theorem dX7_joinHeaps_65 : decode cX7_joinHeaps 65 = .ok (.istore 4, 2) := by decide +kernel
theorem dX7_joinHeaps_67 : decode cX7_joinHeaps 67 = .ok (.iconst 0, 1) := by decide +kernel
theorem dX7_joinHeaps_68 : decode cX7_joinHeaps 68 = .ok (.istore 5, 2) := by decide +kernel
theorem dX7_joinHeaps_70 : decode cX7_joinHeaps 70 = .ok (.iconst 0, 1) := by decide +kernel
theorem dX7_joinHeaps_71 : decode cX7_joinHeaps 71 = .ok (.istore 6, 2) := by decide +kernel
theorem dX7_joinHeaps_73 : decode cX7_joinHeaps 73 = .ok (.iload 6, 2) := by decide +kernel
theorem dX7_joinHeaps_75 : decode cX7_joinHeaps 75 = .ok (.aload_n 0, 1) := by decide +kernel
theorem dX7_joinHeaps_76 : decode cX7_joinHeaps 76 = .ok (.getfield 48, 3) := by decide +kernel
theorem dX7_joinHeaps_79 : decode cX7_joinHeaps 79 = .ok (.if_icmp .ge 43, 3) := by decide +kernel
theorem dX7_joinHeaps_82 : decode cX7_joinHeaps 82 = .ok (.aload_n 0, 1) := by decide +kernel
theorem dX7_joinHeaps_83 : decode cX7_joinHeaps 83 = .ok (.getfield 30, 3) := by decide +kernel
theorem dX7_joinHeaps_86 : decode cX7_joinHeaps 86 = .ok (.iload 6, 2) := by decide +kernel
theorem dX7_joinHeaps_88 : decode cX7_joinHeaps 88 = .ok (.iaload, 1) := by decide +kernel
theorem dX7_joinHeaps_89 : decode cX7_joinHeaps 89 = .ok (.iload 4, 2) := by decide +kernel
theorem dX7_joinHeaps_91 : decode cX7_joinHeaps 91 = .ok (.if_icmp .ne 11, 3) := by decide +kernel
theorem dX7_joinHeaps_94 : decode cX7_joinHeaps 94 = .ok (.aload_n 0, 1) := by decide +kernel
theorem dX7_joinHeaps_95 : decode cX7_joinHeaps 95 = .ok (.getfield 30, 3) := by decide +kernel
theorem dX7_joinHeaps_98 : decode cX7_joinHeaps 98 = .ok (.iload 6, 2) := by decide +kernel
theorem dX7_joinHeaps_100 : decode cX7_joinHeaps 100 = .ok (.iload_n 3, 1) := by decide +kernel
theorem dX7_joinHeaps_101 : decode cX7_joinHeaps 101 = .ok (.iastore, 1) := by decide +kernel
theorem dX7_joinHeaps_102 : decode cX7_joinHeaps 102 = .ok (.aload_n 0, 1) := by decide +kernel
theorem dX7_joinHeaps_103 : decode cX7_joinHeaps 103 = .ok (.getfield 30, 3) := by decide +kernel
theorem dX7_joinHeaps_106 : decode cX7_joinHeaps 106 = .ok (.iload 6, 2) := by decide +kernel
theorem dX7_joinHeaps_108 : decode cX7_joinHeaps 108 = .ok (.iaload, 1) := by decide +kernel
theorem dX7_joinHeaps_109 : decode cX7_joinHeaps 109 = .ok (.iload_n 3, 1) := by decide +kernel
theorem dX7_joinHeaps_110 : decode cX7_joinHeaps 110 = .ok (.if_icmp .ne 6, 3) := by decide +kernel
theorem dX7_joinHeaps_113 : decode cX7_joinHeaps 113 = .ok (.iinc 5 1, 3) := by decide +kernel
theorem dX7_joinHeaps_116 : decode cX7_joinHeaps 116 = .ok (.iinc 6 1, 3) := by decide +kernel
theorem dX7_joinHeaps_119 : decode cX7_joinHeaps 119 = .ok (.goto (-46), 3) := by decide +kernel
theorem dX7_joinHeaps_122 : decode cX7_joinHeaps 122 = .ok (.iconst 0, 1) := by decide +kernel
theorem dX7_joinHeaps_123 : decode cX7_joinHeaps 123 = .ok (.istore 6, 2) := by decide +kernel
theorem dX7_joinHeaps_125 : decode cX7_joinHeaps 125 = .ok (.iload 6, 2) := by decide +kernel
theorem dX7_joinHeaps_127 : decode cX7_joinHeaps 127 = .ok (.aload_n 0, 1) := by decide +kernel
theorem dX7_joinHeaps_128 : decode cX7_joinHeaps 128 = .ok (.getfield 48, 3) := by decide +kernel
theorem dX7_joinHeaps_131 : decode cX7_joinHeaps 131 = .ok (.if_icmp .ge 26, 3) := by decide +kernel
theorem dX7_joinHeaps_134 : decode cX7_joinHeaps 134 = .ok (.aload_n 0, 1) := by decide +kernel
theorem dX7_joinHeaps_135 : decode cX7_joinHeaps 135 = .ok (.getfield 30, 3) := by decide +kernel
theorem dX7_joinHeaps_138 : decode cX7_joinHeaps 138 = .ok (.iload 6, 2) := by decide +kernel
theorem dX7_joinHeaps_140 : decode cX7_joinHeaps 140 = .ok (.iaload, 1) := by decide +kernel
theorem dX7_joinHeaps_141 : decode cX7_joinHeaps 141 = .ok (.iload_n 3, 1) := by decide +kernel
theorem dX7_joinHeaps_142 : decode cX7_joinHeaps 142 = .ok (.if_icmp .ne 9, 3) := by decide +kernel
theorem dX7_joinHeaps_145 : decode cX7_joinHeaps 145 = .ok (.aload_n 0, 1) := by decide +kernel
theorem dX7_joinHeaps_146 : decode cX7_joinHeaps 146 = .ok (.iload 6, 2) := by decide +kernel
theorem dX7_joinHeaps_148 : decode cX7_joinHeaps 148 = .ok (.invokevirtual 52, 3) := by decide +kernel
theorem dX7_joinHeaps_151 : decode cX7_joinHeaps 151 = .ok (.iinc 6 1, 3) := by decide +kernel
theorem dX7_joinHeaps_154 : decode cX7_joinHeaps 154 = .ok (.goto (-29), 3) := by decide +kernel
theorem dX7_joinHeaps_157 : decode cX7_joinHeaps 157 = .ok (.iload 5, 2) := by decide +kernel
theorem dX7_joinHeaps_159 : decode cX7_joinHeaps 159 = .ok (.ireturn, 1) := by decide +kernel
theorem dX7_canBeOneHeap_0 : decode cX7_canBeOneHeap 0 = .ok (.iconst 0, 1) := by decide +kernel
theorem dX7_canBeOneHeap_1 : decode cX7_canBeOneHeap 1 = .ok (.istore_n 3, 1) := by decide +kernel
theorem dX7_canBeOneHeap_2 : decode cX7_canBeOneHeap 2 = .ok (.iload_n 3, 1) := by decide +kernel
theorem dX7_canBeOneHeap_3 : decode cX7_canBeOneHeap 3 = .ok (.aload_n 0, 1) := by decide +kernel
theorem dX7_canBeOneHeap_4 : decode cX7_canBeOneHeap 4 = .ok (.getfield 48, 3) := by decide +kernel
theorem dX7_canBeOneHeap_7 : decode cX7_canBeOneHeap 7 = .ok (.if_icmp .ge 60, 3) := by decide +kernel
theorem dX7_canBeOneHeap_10 : decode cX7_canBeOneHeap 10 = .ok (.iconst 0, 1) := by decide +kernel
theorem dX7_canBeOneHeap_11 : decode cX7_canBeOneHeap 11 = .ok (.istore 4, 2) := by decide +kernel
theorem dX7_canBeOneHeap_13 : decode cX7_canBeOneHeap 13 = .ok (.iload 4, 2) := by decide +kernel
theorem dX7_canBeOneHeap_15 : decode cX7_canBeOneHeap 15 = .ok (.aload_n 0, 1) := by decide +kernel
theorem dX7_canBeOneHeap_16 : decode cX7_canBeOneHeap 16 = .ok (.getfield 48, 3) := by decide +kernel
theorem dX7_canBeOneHeap_19 : decode cX7_canBeOneHeap 19 = .ok (.if_icmp .ge 42, 3) := by decide +kernel
theorem dX7_canBeOneHeap_22 : decode cX7_canBeOneHeap 22 = .ok (.aload_n 0, 1) := by decide +kernel
theorem dX7_canBeOneHeap_23 : decode cX7_canBeOneHeap 23 = .ok (.getfield 30, 3) := by decide +kernel
theorem dX7_canBeOneHeap_26 : decode cX7_canBeOneHeap 26 = .ok (.iload_n 3, 1) := by decide +kernel
theorem dX7_canBeOneHeap_27 : decode cX7_canBeOneHeap 27 = .ok (.iaload, 1) := by decide +kernel
theorem dX7_canBeOneHeap_28 : decode cX7_canBeOneHeap 28 = .ok (.iload_n 1, 1) := by decide +kernel
theorem dX7_canBeOneHeap_29 : decode cX7_canBeOneHeap 29 = .ok (.if_icmp .ne 26, 3) := by decide +kernel
theorem dX7_canBeOneHeap_32 : decode cX7_canBeOneHeap 32 = .ok (.aload_n 0, 1) := by decide +kernel
theorem dX7_canBeOneHeap_33 : decode cX7_canBeOneHeap 33 = .ok (.getfield 30, 3) := by decide +kernel
theorem dX7_canBeOneHeap_36 : decode cX7_canBeOneHeap 36 = .ok (.iload 4, 2) := by decide +kernel
theorem dX7_canBeOneHeap_38 : decode cX7_canBeOneHeap 38 = .ok (.iaload, 1) := by decide +kernel
theorem dX7_canBeOneHeap_39 : decode cX7_canBeOneHeap 39 = .ok (.iload_n 2, 1) := by decide +kernel
theorem dX7_canBeOneHeap_40 : decode cX7_canBeOneHeap 40 = .ok (.if_icmp .ne 15, 3) := by decide +kernel
theorem dX7_canBeOneHeap_43 : decode cX7_canBeOneHeap 43 = .ok (.aload_n 0, 1) := by decide +kernel
theorem dX7_canBeOneHeap_44 : decode cX7_canBeOneHeap 44 = .ok (.iload_n 3, 1) := by decide +kernel
theorem dX7_canBeOneHeap_45 : decode cX7_canBeOneHeap 45 = .ok (.iload 4, 2) := by decide +kernel
theorem dX7_canBeOneHeap_47 : decode cX7_canBeOneHeap 47 = .ok (.invokevirtual 70, 3) := by decide +kernel
theorem dX7_canBeOneHeap_50 : decode cX7_canBeOneHeap 50 = .ok (.ifCond .ne 5, 3) := by decide +kernel
theorem dX7_canBeOneHeap_53 : decode cX7_canBeOneHeap 53 = .ok (.iconst 0, 1) := by decide +kernel
theorem dX7_canBeOneHeap_54 : decode cX7_canBeOneHeap 54 = .ok (.ireturn, 1) := by decide +kernel
theorem dX7_canBeOneHeap_55 : decode cX7_canBeOneHeap 55 = .ok (.iinc 4 1, 3) := by decide +kernel
theorem dX7_canBeOneHeap_58 : decode cX7_canBeOneHeap 58 = .ok (.goto (-45), 3) := by decide +kernel
theorem dX7_canBeOneHeap_61 : decode cX7_canBeOneHeap 61 = .ok (.iinc 3 1, 3) := by decide +kernel
theorem dX7_canBeOneHeap_64 : decode cX7_canBeOneHeap 64 = .ok (.goto (-62), 3) := by decide +kernel
theorem dX7_canBeOneHeap_67 : decode cX7_canBeOneHeap 67 = .ok (.iconst 1, 1) := by decide +kernel
theorem dX7_canBeOneHeap_68 : decode cX7_canBeOneHeap 68 = .ok (.ireturn, 1) := by decide +kernel
theorem dX7_partHeap_0 : decode cX7_partHeap 0 = .ok (.aload_n 0, 1) := by decide +kernel
theorem dX7_partHeap_1 : decode cX7_partHeap 1 = .ok (.iload_n 1, 1) := by decide +kernel
theorem dX7_partHeap_2 : decode cX7_partHeap 2 = .ok (.invokevirtual 56, 3) := by decide +kernel
theorem dX7_partHeap_5 : decode cX7_partHeap 5 = .ok (.ifCond .ne 5, 3) := by decide +kernel
theorem dX7_partHeap_8 : decode cX7_partHeap 8 = .ok (.iconst (-1), 1) := by decide +kernel
theorem dX7_partHeap_9 : decode cX7_partHeap 9 = .ok (.ireturn, 1) := by decide +kernel
theorem dX7_partHeap_10 : decode cX7_partHeap 10 = .ok (.aload_n 0, 1) := by decide +kernel
theorem dX7_partHeap_11 : decode cX7_partHeap 11 = .ok (.getfield 30, 3) := by decide +kernel
theorem dX7_partHeap_14 : decode cX7_partHeap 14 = .ok (.iload_n 1, 1) := by decide +kernel
theorem dX7_partHeap_15 : decode cX7_partHeap 15 = .ok (.iaload, 1) := by decide +kernel
theorem dX7_partHeap_16 : decode cX7_partHeap 16 = .ok (.istore_n 2, 1) := by decide +kernel
theorem dX7_partHeap_17 : decode cX7_partHeap 17 = .ok (.iconst 0, 1) := by decide +kernel
theorem dX7_partHeap_18 : decode cX7_partHeap 18 = .ok (.istore_n 3, 1) := by decide +kernel
theorem dX7_partHeap_19 : decode cX7_partHeap 19 = .ok (.iconst 0, 1) := by decide +kernel
theorem dX7_partHeap_20 : decode cX7_partHeap 20 = .ok (.istore 4, 2) := by decide +kernel
theorem dX7_partHeap_22 : decode cX7_partHeap 22 = .ok (.iload 4, 2) := by decide +kernel
theorem dX7_partHeap_24 : decode cX7_partHeap 24 = .ok (.aload_n 0, 1) := by decide +kernel
theorem dX7_partHeap_25 : decode cX7_partHeap 25 = .ok (.getfield 48, 3) := by decide +kernel
theorem dX7_partHeap_28 : decode cX7_partHeap 28 = .ok (.if_icmp .ge 32, 3) := by decide +kernel
theorem dX7_partHeap_31 : decode cX7_partHeap 31 = .ok (.aload_n 0, 1) := by decide +kernel
theorem dX7_partHeap_32 : decode cX7_partHeap 32 = .ok (.getfield 30, 3) := by decide +kernel
theorem dX7_partHeap_35 : decode cX7_partHeap 35 = .ok (.iload 4, 2) := by decide +kernel
theorem dX7_partHeap_37 : decode cX7_partHeap 37 = .ok (.iaload, 1) := by decide +kernel
theorem dX7_partHeap_38 : decode cX7_partHeap 38 = .ok (.iload_n 2, 1) := by decide +kernel
theorem dX7_partHeap_39 : decode cX7_partHeap 39 = .ok (.if_icmp .ne 15, 3) := by decide +kernel
theorem dX7_partHeap_42 : decode cX7_partHeap 42 = .ok (.aload_n 0, 1) := by decide +kernel
theorem dX7_partHeap_43 : decode cX7_partHeap 43 = .ok (.getfield 30, 3) := by decide +kernel
theorem dX7_partHeap_46 : decode cX7_partHeap 46 = .ok (.iload 4, 2) := by decide +kernel
theorem dX7_partHeap_48 : decode cX7_partHeap 48 = .ok (.iload 4, 2) := by decide +kernel
theorem dX7_partHeap_50 : decode cX7_partHeap 50 = .ok (.iastore, 1) := by decide +kernel
theorem dX7_partHeap_51 : decode cX7_partHeap 51 = .ok (.iinc 3 1, 3) := by decide +kernel
theorem dX7_partHeap_54 : decode cX7_partHeap 54 = .ok (.iinc 4 1, 3) := by decide +kernel
theorem dX7_partHeap_57 : decode cX7_partHeap 57 = .ok (.goto (-35), 3) := by decide +kernel
theorem dX7_partHeap_60 : decode cX7_partHeap 60 = .ok (.aload_n 0, 1) := by decide +kernel
theorem dX7_partHeap_61 : decode cX7_partHeap 61 = .ok (.invokevirtual 80, 3) := by decide +kernel
theorem dX7_partHeap_64 : decode cX7_partHeap 64 = .ok (.iload_n 3, 1) := by decide +kernel
theorem dX7_partHeap_65 : decode cX7_partHeap 65 = .ok (.ireturn, 1) := by decide +kernel
theorem dX7_addSeeking_0 : decode cX7_addSeeking 0 = .ok (.aload_n 0, 1) := by decide +kernel
theorem dX7_addSeeking_1 : decode cX7_addSeeking 1 = .ok (.getfield 83, 3) := by decide +kernel
theorem dX7_addSeeking_4 : decode cX7_addSeeking 4 = .ok (.bipush 40, 2) := by decide +kernel
theorem dX7_addSeeking_6 : decode cX7_addSeeking 6 = .ok (.if_icmp .lt 5, 3) := by decide +kernel
theorem dX7_addSeeking_9 : decode cX7_addSeeking 9 = .ok (.iconst 0, 1) := by decide +kernel
theorem dX7_addSeeking_10 : decode cX7_addSeeking 10 = .ok (.ireturn, 1) := by decide +kernel
theorem dX7_addSeeking_11 : decode cX7_addSeeking 11 = .ok (.aload_n 0, 1) := by decide +kernel
theorem dX7_addSeeking_12 : decode cX7_addSeeking 12 = .ok (.getfield 33, 3) := by decide +kernel
theorem dX7_addSeeking_15 : decode cX7_addSeeking 15 = .ok (.aload_n 0, 1) := by decide +kernel
theorem dX7_addSeeking_16 : decode cX7_addSeeking 16 = .ok (.getfield 83, 3) := by decide +kernel
theorem dX7_addSeeking_19 : decode cX7_addSeeking 19 = .ok (.iload_n 1, 1) := by decide +kernel
theorem dX7_addSeeking_20 : decode cX7_addSeeking 20 = .ok (.iastore, 1) := by decide +kernel
theorem dX7_addSeeking_21 : decode cX7_addSeeking 21 = .ok (.aload_n 0, 1) := by decide +kernel
theorem dX7_addSeeking_22 : decode cX7_addSeeking 22 = .ok (.getfield 36, 3) := by decide +kernel
theorem dX7_addSeeking_25 : decode cX7_addSeeking 25 = .ok (.aload_n 0, 1) := by decide +kernel
theorem dX7_addSeeking_26 : decode cX7_addSeeking 26 = .ok (.getfield 83, 3) := by decide +kernel
theorem dX7_addSeeking_29 : decode cX7_addSeeking 29 = .ok (.iload_n 2, 1) := by decide +kernel
theorem dX7_addSeeking_30 : decode cX7_addSeeking 30 = .ok (.iastore, 1) := by decide +kernel
theorem dX7_addSeeking_31 : decode cX7_addSeeking 31 = .ok (.aload_n 0, 1) := by decide +kernel
theorem dX7_addSeeking_32 : decode cX7_addSeeking 32 = .ok (.getfield 39, 3) := by decide +kernel
theorem dX7_addSeeking_35 : decode cX7_addSeeking 35 = .ok (.aload_n 0, 1) := by decide +kernel
theorem dX7_addSeeking_36 : decode cX7_addSeeking 36 = .ok (.getfield 83, 3) := by decide +kernel
theorem dX7_addSeeking_39 : decode cX7_addSeeking 39 = .ok (.iload_n 3, 1) := by decide +kernel
theorem dX7_addSeeking_40 : decode cX7_addSeeking 40 = .ok (.iastore, 1) := by decide +kernel
theorem dX7_addSeeking_41 : decode cX7_addSeeking 41 = .ok (.aload_n 0, 1) := by decide +kernel
theorem dX7_addSeeking_42 : decode cX7_addSeeking 42 = .ok (.dup, 1) := by decide +kernel
theorem dX7_addSeeking_43 : decode cX7_addSeeking 43 = .ok (.getfield 83, 3) := by decide +kernel
theorem dX7_addSeeking_46 : decode cX7_addSeeking 46 = .ok (.iconst 1, 1) := by decide +kernel
theorem dX7_addSeeking_47 : decode cX7_addSeeking 47 = .ok (.iadd, 1) := by decide +kernel
theorem dX7_addSeeking_48 : decode cX7_addSeeking 48 = .ok (.putfield 83, 3) := by decide +kernel
theorem dX7_addSeeking_51 : decode cX7_addSeeking 51 = .ok (.iconst 0, 1) := by decide +kernel
theorem dX7_addSeeking_52 : decode cX7_addSeeking 52 = .ok (.istore 4, 2) := by decide +kernel
theorem dX7_addSeeking_54 : decode cX7_addSeeking 54 = .ok (.iload 4, 2) := by decide +kernel
theorem dX7_addSeeking_56 : decode cX7_addSeeking 56 = .ok (.aload_n 0, 1) := by decide +kernel
theorem dX7_addSeeking_57 : decode cX7_addSeeking 57 = .ok (.getfield 48, 3) := by decide +kernel
theorem dX7_addSeeking_60 : decode cX7_addSeeking 60 = .ok (.if_icmp .ge 21, 3) := by decide +kernel
theorem dX7_addSeeking_63 : decode cX7_addSeeking 63 = .ok (.aload_n 0, 1) := by decide +kernel
theorem dX7_addSeeking_64 : decode cX7_addSeeking 64 = .ok (.aload_n 0, 1) := by decide +kernel
theorem dX7_addSeeking_65 : decode cX7_addSeeking 65 = .ok (.getfield 83, 3) := by decide +kernel
theorem dX7_addSeeking_68 : decode cX7_addSeeking 68 = .ok (.iconst 1, 1) := by decide +kernel
theorem dX7_addSeeking_69 : decode cX7_addSeeking 69 = .ok (.isub, 1) := by decide +kernel
theorem dX7_addSeeking_70 : decode cX7_addSeeking 70 = .ok (.iload 4, 2) := by decide +kernel
theorem dX7_addSeeking_72 : decode cX7_addSeeking 72 = .ok (.invokevirtual 86, 3) := by decide +kernel
theorem dX7_addSeeking_75 : decode cX7_addSeeking 75 = .ok (.iinc 4 1, 3) := by decide +kernel
theorem dX7_addSeeking_78 : decode cX7_addSeeking 78 = .ok (.goto (-24), 3) := by decide +kernel
theorem dX7_addSeeking_81 : decode cX7_addSeeking 81 = .ok (.iconst 1, 1) := by decide +kernel
theorem dX7_addSeeking_82 : decode cX7_addSeeking 82 = .ok (.ireturn, 1) := by decide +kernel
theorem dX7_howSurely_0 : decode cX7_howSurely 0 = .ok (.iconst (-1), 1) := by decide +kernel
theorem dX7_howSurely_1 : decode cX7_howSurely 1 = .ok (.istore_n 3, 1) := by decide +kernel
theorem dX7_howSurely_2 : decode cX7_howSurely 2 = .ok (.iconst 0, 1) := by decide +kernel
theorem dX7_howSurely_3 : decode cX7_howSurely 3 = .ok (.istore 4, 2) := by decide +kernel
theorem dX7_howSurely_5 : decode cX7_howSurely 5 = .ok (.iload 4, 2) := by decide +kernel
theorem dX7_howSurely_7 : decode cX7_howSurely 7 = .ok (.aload_n 0, 1) := by decide +kernel
theorem dX7_howSurely_8 : decode cX7_howSurely 8 = .ok (.getfield 83, 3) := by decide +kernel
theorem dX7_howSurely_11 : decode cX7_howSurely 11 = .ok (.if_icmp .ge 94, 3) := by decide +kernel
theorem dX7_howSurely_14 : decode cX7_howSurely 14 = .ok (.iconst 0, 1) := by decide +kernel
theorem dX7_howSurely_15 : decode cX7_howSurely 15 = .ok (.istore 5, 2) := by decide +kernel
theorem dX7_howSurely_17 : decode cX7_howSurely 17 = .ok (.iload 5, 2) := by decide +kernel
theorem dX7_howSurely_19 : decode cX7_howSurely 19 = .ok (.aload_n 0, 1) := by decide +kernel
theorem dX7_howSurely_20 : decode cX7_howSurely 20 = .ok (.getfield 48, 3) := by decide +kernel
theorem dX7_howSurely_23 : decode cX7_howSurely 23 = .ok (.if_icmp .ge 76, 3) := by decide +kernel
theorem dX7_howSurely_26 : decode cX7_howSurely 26 = .ok (.aload_n 0, 1) := by decide +kernel
theorem dX7_howSurely_27 : decode cX7_howSurely 27 = .ok (.getfield 33, 3) := by decide +kernel
theorem dX7_howSurely_30 : decode cX7_howSurely 30 = .ok (.iload 4, 2) := by decide +kernel
theorem dX7_howSurely_32 : decode cX7_howSurely 32 = .ok (.iaload, 1) := by decide +kernel
theorem dX7_howSurely_33 : decode cX7_howSurely 33 = .ok (.iload_n 1, 1) := by decide +kernel
theorem dX7_howSurely_34 : decode cX7_howSurely 34 = .ok (.if_icmp .ne 65, 3) := by decide +kernel
theorem dX7_howSurely_37 : decode cX7_howSurely 37 = .ok (.aload_n 0, 1) := by decide +kernel
theorem dX7_howSurely_38 : decode cX7_howSurely 38 = .ok (.iload 5, 2) := by decide +kernel
theorem dX7_howSurely_40 : decode cX7_howSurely 40 = .ok (.aload_n 0, 1) := by decide +kernel
theorem dX7_howSurely_41 : decode cX7_howSurely 41 = .ok (.getfield 36, 3) := by decide +kernel
theorem dX7_howSurely_44 : decode cX7_howSurely 44 = .ok (.iload 4, 2) := by decide +kernel
theorem dX7_howSurely_46 : decode cX7_howSurely 46 = .ok (.iaload, 1) := by decide +kernel
theorem dX7_howSurely_47 : decode cX7_howSurely 47 = .ok (.aload_n 0, 1) := by decide +kernel
theorem dX7_howSurely_48 : decode cX7_howSurely 48 = .ok (.getfield 39, 3) := by decide +kernel
theorem dX7_howSurely_51 : decode cX7_howSurely 51 = .ok (.iload 4, 2) := by decide +kernel
theorem dX7_howSurely_53 : decode cX7_howSurely 53 = .ok (.iaload, 1) := by decide +kernel
theorem dX7_howSurely_54 : decode cX7_howSurely 54 = .ok (.invokevirtual 73, 3) := by decide +kernel
theorem dX7_howSurely_57 : decode cX7_howSurely 57 = .ok (.istore 6, 2) := by decide +kernel
theorem dX7_howSurely_59 : decode cX7_howSurely 59 = .ok (.iload 6, 2) := by decide +kernel
theorem dX7_howSurely_61 : decode cX7_howSurely 61 = .ok (.iconst 5, 1) := by decide +kernel
theorem dX7_howSurely_62 : decode cX7_howSurely 62 = .ok (.if_icmp .lt 31, 3) := by decide +kernel
theorem dX7_howSurely_65 : decode cX7_howSurely 65 = .ok (.iload 6, 2) := by decide +kernel
theorem dX7_howSurely_67 : decode cX7_howSurely 67 = .ok (.iload_n 3, 1) := by decide +kernel
theorem dX7_howSurely_68 : decode cX7_howSurely 68 = .ok (.if_icmp .le 25, 3) := by decide +kernel
theorem dX7_howSurely_71 : decode cX7_howSurely 71 = .ok (.aload_n 0, 1) := by decide +kernel
theorem dX7_howSurely_72 : decode cX7_howSurely 72 = .ok (.aload_n 0, 1) := by decide +kernel
theorem dX7_howSurely_73 : decode cX7_howSurely 73 = .ok (.getfield 30, 3) := by decide +kernel
theorem dX7_howSurely_76 : decode cX7_howSurely 76 = .ok (.iload 5, 2) := by decide +kernel
theorem dX7_howSurely_78 : decode cX7_howSurely 78 = .ok (.iaload, 1) := by decide +kernel
theorem dX7_howSurely_79 : decode cX7_howSurely 79 = .ok (.invokevirtual 90, 3) := by decide +kernel
theorem dX7_howSurely_82 : decode cX7_howSurely 82 = .ok (.iload_n 2, 1) := by decide +kernel
theorem dX7_howSurely_83 : decode cX7_howSurely 83 = .ok (.ishr, 1) := by decide +kernel
theorem dX7_howSurely_84 : decode cX7_howSurely 84 = .ok (.iconst 1, 1) := by decide +kernel
theorem dX7_howSurely_85 : decode cX7_howSurely 85 = .ok (.iand, 1) := by decide +kernel
theorem dX7_howSurely_86 : decode cX7_howSurely 86 = .ok (.iconst 1, 1) := by decide +kernel
theorem dX7_howSurely_87 : decode cX7_howSurely 87 = .ok (.if_icmp .ne 6, 3) := by decide +kernel
theorem dX7_howSurely_90 : decode cX7_howSurely 90 = .ok (.iload 6, 2) := by decide +kernel
theorem dX7_howSurely_92 : decode cX7_howSurely 92 = .ok (.istore_n 3, 1) := by decide +kernel
theorem dX7_howSurely_93 : decode cX7_howSurely 93 = .ok (.iinc 5 1, 3) := by decide +kernel
theorem dX7_howSurely_96 : decode cX7_howSurely 96 = .ok (.goto (-79), 3) := by decide +kernel
theorem dX7_howSurely_99 : decode cX7_howSurely 99 = .ok (.iinc 4 1, 3) := by decide +kernel
theorem dX7_howSurely_102 : decode cX7_howSurely 102 = .ok (.goto (-97), 3) := by decide +kernel
theorem dX7_howSurely_105 : decode cX7_howSurely 105 = .ok (.iload_n 3, 1) := by decide +kernel
theorem dX7_howSurely_106 : decode cX7_howSurely 106 = .ok (.ireturn, 1) := by decide +kernel
theorem dX7_mutualOf_0 : decode cX7_mutualOf 0 = .ok (.iconst 0, 1) := by decide +kernel
theorem dX7_mutualOf_1 : decode cX7_mutualOf 1 = .ok (.istore_n 2, 1) := by decide +kernel
theorem dX7_mutualOf_2 : decode cX7_mutualOf 2 = .ok (.iconst 0, 1) := by decide +kernel
theorem dX7_mutualOf_3 : decode cX7_mutualOf 3 = .ok (.istore_n 3, 1) := by decide +kernel
theorem dX7_mutualOf_4 : decode cX7_mutualOf 4 = .ok (.iload_n 3, 1) := by decide +kernel
theorem dX7_mutualOf_5 : decode cX7_mutualOf 5 = .ok (.bipush 24, 2) := by decide +kernel
theorem dX7_mutualOf_7 : decode cX7_mutualOf 7 = .ok (.if_icmp .ge 43, 3) := by decide +kernel
theorem dX7_mutualOf_10 : decode cX7_mutualOf 10 = .ok (.aload_n 0, 1) := by decide +kernel
theorem dX7_mutualOf_11 : decode cX7_mutualOf 11 = .ok (.getfield 42, 3) := by decide +kernel
theorem dX7_mutualOf_14 : decode cX7_mutualOf 14 = .ok (.iload_n 1, 1) := by decide +kernel
theorem dX7_mutualOf_15 : decode cX7_mutualOf 15 = .ok (.iaload, 1) := by decide +kernel
theorem dX7_mutualOf_16 : decode cX7_mutualOf 16 = .ok (.iload_n 3, 1) := by decide +kernel
theorem dX7_mutualOf_17 : decode cX7_mutualOf 17 = .ok (.ishr, 1) := by decide +kernel
theorem dX7_mutualOf_18 : decode cX7_mutualOf 18 = .ok (.iconst 1, 1) := by decide +kernel
theorem dX7_mutualOf_19 : decode cX7_mutualOf 19 = .ok (.iand, 1) := by decide +kernel
theorem dX7_mutualOf_20 : decode cX7_mutualOf 20 = .ok (.iconst 1, 1) := by decide +kernel
theorem dX7_mutualOf_21 : decode cX7_mutualOf 21 = .ok (.if_icmp .ne 23, 3) := by decide +kernel
theorem dX7_mutualOf_24 : decode cX7_mutualOf 24 = .ok (.aload_n 0, 1) := by decide +kernel
theorem dX7_mutualOf_25 : decode cX7_mutualOf 25 = .ok (.getfield 42, 3) := by decide +kernel
theorem dX7_mutualOf_28 : decode cX7_mutualOf 28 = .ok (.iload_n 3, 1) := by decide +kernel
theorem dX7_mutualOf_29 : decode cX7_mutualOf 29 = .ok (.iaload, 1) := by decide +kernel
theorem dX7_mutualOf_30 : decode cX7_mutualOf 30 = .ok (.iload_n 1, 1) := by decide +kernel
theorem dX7_mutualOf_31 : decode cX7_mutualOf 31 = .ok (.ishr, 1) := by decide +kernel
theorem dX7_mutualOf_32 : decode cX7_mutualOf 32 = .ok (.iconst 1, 1) := by decide +kernel
theorem dX7_mutualOf_33 : decode cX7_mutualOf 33 = .ok (.iand, 1) := by decide +kernel
theorem dX7_mutualOf_34 : decode cX7_mutualOf 34 = .ok (.iconst 1, 1) := by decide +kernel
theorem dX7_mutualOf_35 : decode cX7_mutualOf 35 = .ok (.if_icmp .ne 9, 3) := by decide +kernel
theorem dX7_mutualOf_38 : decode cX7_mutualOf 38 = .ok (.iload_n 2, 1) := by decide +kernel
theorem dX7_mutualOf_39 : decode cX7_mutualOf 39 = .ok (.iconst 1, 1) := by decide +kernel
theorem dX7_mutualOf_40 : decode cX7_mutualOf 40 = .ok (.iload_n 3, 1) := by decide +kernel
theorem dX7_mutualOf_41 : decode cX7_mutualOf 41 = .ok (.ishl, 1) := by decide +kernel
theorem dX7_mutualOf_42 : decode cX7_mutualOf 42 = .ok (.ior, 1) := by decide +kernel
theorem dX7_mutualOf_43 : decode cX7_mutualOf 43 = .ok (.istore_n 2, 1) := by decide +kernel
theorem dX7_mutualOf_44 : decode cX7_mutualOf 44 = .ok (.iinc 3 1, 3) := by decide +kernel
theorem dX7_mutualOf_47 : decode cX7_mutualOf 47 = .ok (.goto (-43), 3) := by decide +kernel
theorem dX7_mutualOf_50 : decode cX7_mutualOf 50 = .ok (.iload_n 2, 1) := by decide +kernel
theorem dX7_mutualOf_51 : decode cX7_mutualOf 51 = .ok (.ireturn, 1) := by decide +kernel
theorem dX7_findAnew_0 : decode cX7_findAnew 0 = .ok (.iconst 0, 1) := by decide +kernel
theorem dX7_findAnew_1 : decode cX7_findAnew 1 = .ok (.istore_n 1, 1) := by decide +kernel
theorem dX7_findAnew_2 : decode cX7_findAnew 2 = .ok (.iload_n 1, 1) := by decide +kernel
theorem dX7_findAnew_3 : decode cX7_findAnew 3 = .ok (.bipush 24, 2) := by decide +kernel
theorem dX7_findAnew_5 : decode cX7_findAnew 5 = .ok (.if_icmp .ge 23, 3) := by decide +kernel
theorem dX7_findAnew_8 : decode cX7_findAnew 8 = .ok (.aload_n 0, 1) := by decide +kernel
theorem dX7_findAnew_9 : decode cX7_findAnew 9 = .ok (.getfield 42, 3) := by decide +kernel
theorem dX7_findAnew_12 : decode cX7_findAnew 12 = .ok (.iload_n 1, 1) := by decide +kernel
theorem dX7_findAnew_13 : decode cX7_findAnew 13 = .ok (.iconst 0, 1) := by decide +kernel
theorem dX7_findAnew_14 : decode cX7_findAnew 14 = .ok (.iastore, 1) := by decide +kernel
theorem dX7_findAnew_15 : decode cX7_findAnew 15 = .ok (.aload_n 0, 1) := by decide +kernel
theorem dX7_findAnew_16 : decode cX7_findAnew 16 = .ok (.getfield 45, 3) := by decide +kernel
theorem dX7_findAnew_19 : decode cX7_findAnew 19 = .ok (.iload_n 1, 1) := by decide +kernel
theorem dX7_findAnew_20 : decode cX7_findAnew 20 = .ok (.iconst 0, 1) := by decide +kernel
theorem dX7_findAnew_21 : decode cX7_findAnew 21 = .ok (.iastore, 1) := by decide +kernel
theorem dX7_findAnew_22 : decode cX7_findAnew 22 = .ok (.iinc 1 1, 3) := by decide +kernel
theorem dX7_findAnew_25 : decode cX7_findAnew 25 = .ok (.goto (-23), 3) := by decide +kernel
theorem dX7_findAnew_28 : decode cX7_findAnew 28 = .ok (.iconst 0, 1) := by decide +kernel
theorem dX7_findAnew_29 : decode cX7_findAnew 29 = .ok (.istore_n 1, 1) := by decide +kernel
theorem dX7_findAnew_30 : decode cX7_findAnew 30 = .ok (.iload_n 1, 1) := by decide +kernel
theorem dX7_findAnew_31 : decode cX7_findAnew 31 = .ok (.aload_n 0, 1) := by decide +kernel
theorem dX7_findAnew_32 : decode cX7_findAnew 32 = .ok (.getfield 48, 3) := by decide +kernel
theorem dX7_findAnew_35 : decode cX7_findAnew 35 = .ok (.if_icmp .ge 14, 3) := by decide +kernel
theorem dX7_findAnew_38 : decode cX7_findAnew 38 = .ok (.aload_n 0, 1) := by decide +kernel
theorem dX7_findAnew_39 : decode cX7_findAnew 39 = .ok (.iload_n 1, 1) := by decide +kernel
theorem dX7_findAnew_40 : decode cX7_findAnew 40 = .ok (.invokevirtual 52, 3) := by decide +kernel
theorem dX7_findAnew_43 : decode cX7_findAnew 43 = .ok (.iinc 1 1, 3) := by decide +kernel
theorem dX7_findAnew_46 : decode cX7_findAnew 46 = .ok (.goto (-16), 3) := by decide +kernel
theorem dX7_findAnew_49 : decode cX7_findAnew 49 = .ok (.return_, 1) := by decide +kernel
theorem dX7_noteFinding_0 : decode cX7_noteFinding 0 = .ok (.iconst 0, 1) := by decide +kernel
theorem dX7_noteFinding_1 : decode cX7_noteFinding 1 = .ok (.istore_n 2, 1) := by decide +kernel
theorem dX7_noteFinding_2 : decode cX7_noteFinding 2 = .ok (.iload_n 2, 1) := by decide +kernel
theorem dX7_noteFinding_3 : decode cX7_noteFinding 3 = .ok (.aload_n 0, 1) := by decide +kernel
theorem dX7_noteFinding_4 : decode cX7_noteFinding 4 = .ok (.getfield 83, 3) := by decide +kernel
theorem dX7_noteFinding_7 : decode cX7_noteFinding 7 = .ok (.if_icmp .ge 15, 3) := by decide +kernel
theorem dX7_noteFinding_10 : decode cX7_noteFinding 10 = .ok (.aload_n 0, 1) := by decide +kernel
theorem dX7_noteFinding_11 : decode cX7_noteFinding 11 = .ok (.iload_n 2, 1) := by decide +kernel
theorem dX7_noteFinding_12 : decode cX7_noteFinding 12 = .ok (.iload_n 1, 1) := by decide +kernel
theorem dX7_noteFinding_13 : decode cX7_noteFinding 13 = .ok (.invokevirtual 86, 3) := by decide +kernel
theorem dX7_noteFinding_16 : decode cX7_noteFinding 16 = .ok (.iinc 2 1, 3) := by decide +kernel
theorem dX7_noteFinding_19 : decode cX7_noteFinding 19 = .ok (.goto (-17), 3) := by decide +kernel
theorem dX7_noteFinding_22 : decode cX7_noteFinding 22 = .ok (.return_, 1) := by decide +kernel
theorem dX7_noteIfFound_0 : decode cX7_noteIfFound 0 = .ok (.aload_n 0, 1) := by decide +kernel
theorem dX7_noteIfFound_1 : decode cX7_noteIfFound 1 = .ok (.iload_n 2, 1) := by decide +kernel
theorem dX7_noteIfFound_2 : decode cX7_noteIfFound 2 = .ok (.aload_n 0, 1) := by decide +kernel
theorem dX7_noteIfFound_3 : decode cX7_noteIfFound 3 = .ok (.getfield 36, 3) := by decide +kernel
theorem dX7_noteIfFound_6 : decode cX7_noteIfFound 6 = .ok (.iload_n 1, 1) := by decide +kernel
theorem dX7_noteIfFound_7 : decode cX7_noteIfFound 7 = .ok (.iaload, 1) := by decide +kernel
theorem dX7_noteIfFound_8 : decode cX7_noteIfFound 8 = .ok (.aload_n 0, 1) := by decide +kernel
theorem dX7_noteIfFound_9 : decode cX7_noteIfFound 9 = .ok (.getfield 39, 3) := by decide +kernel
theorem dX7_noteIfFound_12 : decode cX7_noteIfFound 12 = .ok (.iload_n 1, 1) := by decide +kernel
theorem dX7_noteIfFound_13 : decode cX7_noteIfFound 13 = .ok (.iaload, 1) := by decide +kernel
theorem dX7_noteIfFound_14 : decode cX7_noteIfFound 14 = .ok (.invokevirtual 73, 3) := by decide +kernel
theorem dX7_noteIfFound_17 : decode cX7_noteIfFound 17 = .ok (.iconst 5, 1) := by decide +kernel
theorem dX7_noteIfFound_18 : decode cX7_noteIfFound 18 = .ok (.if_icmp .ge 4, 3) := by decide +kernel
theorem dX7_noteIfFound_21 : decode cX7_noteIfFound 21 = .ok (.return_, 1) := by decide +kernel
theorem dX7_noteIfFound_22 : decode cX7_noteIfFound 22 = .ok (.aload_n 0, 1) := by decide +kernel
theorem dX7_noteIfFound_23 : decode cX7_noteIfFound 23 = .ok (.getfield 33, 3) := by decide +kernel
theorem dX7_noteIfFound_26 : decode cX7_noteIfFound 26 = .ok (.iload_n 1, 1) := by decide +kernel
theorem dX7_noteIfFound_27 : decode cX7_noteIfFound 27 = .ok (.iaload, 1) := by decide +kernel
theorem dX7_noteIfFound_28 : decode cX7_noteIfFound 28 = .ok (.istore_n 3, 1) := by decide +kernel
theorem dX7_noteIfFound_29 : decode cX7_noteIfFound 29 = .ok (.aload_n 0, 1) := by decide +kernel
theorem dX7_noteIfFound_30 : decode cX7_noteIfFound 30 = .ok (.aload_n 0, 1) := by decide +kernel
theorem dX7_noteIfFound_31 : decode cX7_noteIfFound 31 = .ok (.getfield 30, 3) := by decide +kernel
theorem dX7_noteIfFound_34 : decode cX7_noteIfFound 34 = .ok (.iload_n 2, 1) := by decide +kernel
theorem dX7_noteIfFound_35 : decode cX7_noteIfFound 35 = .ok (.iaload, 1) := by decide +kernel
theorem dX7_noteIfFound_36 : decode cX7_noteIfFound 36 = .ok (.invokevirtual 90, 3) := by decide +kernel
theorem dX7_noteIfFound_39 : decode cX7_noteIfFound 39 = .ok (.iconst 1, 1) := by decide +kernel
theorem dX7_noteIfFound_40 : decode cX7_noteIfFound 40 = .ok (.iload_n 3, 1) := by decide +kernel
theorem dX7_noteIfFound_41 : decode cX7_noteIfFound 41 = .ok (.ishl, 1) := by decide +kernel
theorem dX7_noteIfFound_42 : decode cX7_noteIfFound 42 = .ok (.iconst (-1), 1) := by decide +kernel
theorem dX7_noteIfFound_43 : decode cX7_noteIfFound 43 = .ok (.ixor, 1) := by decide +kernel
theorem dX7_noteIfFound_44 : decode cX7_noteIfFound 44 = .ok (.iand, 1) := by decide +kernel
theorem dX7_noteIfFound_45 : decode cX7_noteIfFound 45 = .ok (.istore 4, 2) := by decide +kernel
theorem dX7_noteIfFound_47 : decode cX7_noteIfFound 47 = .ok (.aload_n 0, 1) := by decide +kernel
theorem dX7_noteIfFound_48 : decode cX7_noteIfFound 48 = .ok (.getfield 42, 3) := by decide +kernel
theorem dX7_noteIfFound_51 : decode cX7_noteIfFound 51 = .ok (.iload_n 3, 1) := by decide +kernel
theorem dX7_noteIfFound_52 : decode cX7_noteIfFound 52 = .ok (.dup2, 1) := by decide +kernel
theorem dX7_noteIfFound_53 : decode cX7_noteIfFound 53 = .ok (.iaload, 1) := by decide +kernel
theorem dX7_noteIfFound_54 : decode cX7_noteIfFound 54 = .ok (.iload 4, 2) := by decide +kernel
theorem dX7_noteIfFound_56 : decode cX7_noteIfFound 56 = .ok (.ior, 1) := by decide +kernel
theorem dX7_noteIfFound_57 : decode cX7_noteIfFound 57 = .ok (.iastore, 1) := by decide +kernel
theorem dX7_noteIfFound_58 : decode cX7_noteIfFound 58 = .ok (.aload_n 0, 1) := by decide +kernel
theorem dX7_noteIfFound_59 : decode cX7_noteIfFound 59 = .ok (.getfield 45, 3) := by decide +kernel
theorem dX7_noteIfFound_62 : decode cX7_noteIfFound 62 = .ok (.iload_n 3, 1) := by decide +kernel
theorem dX7_noteIfFound_63 : decode cX7_noteIfFound 63 = .ok (.dup2, 1) := by decide +kernel
theorem dX7_noteIfFound_64 : decode cX7_noteIfFound 64 = .ok (.iaload, 1) := by decide +kernel
theorem dX7_noteIfFound_65 : decode cX7_noteIfFound 65 = .ok (.iload 4, 2) := by decide +kernel
theorem dX7_noteIfFound_67 : decode cX7_noteIfFound 67 = .ok (.ior, 1) := by decide +kernel
theorem dX7_noteIfFound_68 : decode cX7_noteIfFound 68 = .ok (.iastore, 1) := by decide +kernel
theorem dX7_noteIfFound_69 : decode cX7_noteIfFound 69 = .ok (.iconst 0, 1) := by decide +kernel
theorem dX7_noteIfFound_70 : decode cX7_noteIfFound 70 = .ok (.istore 5, 2) := by decide +kernel
theorem dX7_noteIfFound_72 : decode cX7_noteIfFound 72 = .ok (.iload 5, 2) := by decide +kernel
theorem dX7_noteIfFound_74 : decode cX7_noteIfFound 74 = .ok (.bipush 24, 2) := by decide +kernel
theorem dX7_noteIfFound_76 : decode cX7_noteIfFound 76 = .ok (.if_icmp .ge 33, 3) := by decide +kernel
theorem dX7_noteIfFound_79 : decode cX7_noteIfFound 79 = .ok (.iload 4, 2) := by decide +kernel
theorem dX7_noteIfFound_81 : decode cX7_noteIfFound 81 = .ok (.iload 5, 2) := by decide +kernel
theorem dX7_noteIfFound_83 : decode cX7_noteIfFound 83 = .ok (.ishr, 1) := by decide +kernel
theorem dX7_noteIfFound_84 : decode cX7_noteIfFound 84 = .ok (.iconst 1, 1) := by decide +kernel
theorem dX7_noteIfFound_85 : decode cX7_noteIfFound 85 = .ok (.iand, 1) := by decide +kernel
theorem dX7_noteIfFound_86 : decode cX7_noteIfFound 86 = .ok (.iconst 1, 1) := by decide +kernel
theorem dX7_noteIfFound_87 : decode cX7_noteIfFound 87 = .ok (.if_icmp .ne 16, 3) := by decide +kernel
theorem dX7_noteIfFound_90 : decode cX7_noteIfFound 90 = .ok (.aload_n 0, 1) := by decide +kernel
theorem dX7_noteIfFound_91 : decode cX7_noteIfFound 91 = .ok (.getfield 45, 3) := by decide +kernel
theorem dX7_noteIfFound_94 : decode cX7_noteIfFound 94 = .ok (.iload 5, 2) := by decide +kernel
theorem dX7_noteIfFound_96 : decode cX7_noteIfFound 96 = .ok (.dup2, 1) := by decide +kernel
theorem dX7_noteIfFound_97 : decode cX7_noteIfFound 97 = .ok (.iaload, 1) := by decide +kernel
theorem dX7_noteIfFound_98 : decode cX7_noteIfFound 98 = .ok (.iconst 1, 1) := by decide +kernel
theorem dX7_noteIfFound_99 : decode cX7_noteIfFound 99 = .ok (.iload_n 3, 1) := by decide +kernel
theorem dX7_noteIfFound_100 : decode cX7_noteIfFound 100 = .ok (.ishl, 1) := by decide +kernel
theorem dX7_noteIfFound_101 : decode cX7_noteIfFound 101 = .ok (.ior, 1) := by decide +kernel
theorem dX7_noteIfFound_102 : decode cX7_noteIfFound 102 = .ok (.iastore, 1) := by decide +kernel
theorem dX7_noteIfFound_103 : decode cX7_noteIfFound 103 = .ok (.iinc 5 1, 3) := by decide +kernel
theorem dX7_noteIfFound_106 : decode cX7_noteIfFound 106 = .ok (.goto (-34), 3) := by decide +kernel
theorem dX7_noteIfFound_109 : decode cX7_noteIfFound 109 = .ok (.return_, 1) := by decide +kernel
theorem dX7_familiesOf_0 : decode cX7_familiesOf 0 = .ok (.iconst 0, 1) := by decide +kernel
theorem dX7_familiesOf_1 : decode cX7_familiesOf 1 = .ok (.istore_n 2, 1) := by decide +kernel
theorem dX7_familiesOf_2 : decode cX7_familiesOf 2 = .ok (.iconst 0, 1) := by decide +kernel
theorem dX7_familiesOf_3 : decode cX7_familiesOf 3 = .ok (.istore_n 3, 1) := by decide +kernel
theorem dX7_familiesOf_4 : decode cX7_familiesOf 4 = .ok (.iload_n 3, 1) := by decide +kernel
theorem dX7_familiesOf_5 : decode cX7_familiesOf 5 = .ok (.aload_n 0, 1) := by decide +kernel
theorem dX7_familiesOf_6 : decode cX7_familiesOf 6 = .ok (.getfield 48, 3) := by decide +kernel
theorem dX7_familiesOf_9 : decode cX7_familiesOf 9 = .ok (.if_icmp .ge 40, 3) := by decide +kernel
theorem dX7_familiesOf_12 : decode cX7_familiesOf 12 = .ok (.aload_n 0, 1) := by decide +kernel
theorem dX7_familiesOf_13 : decode cX7_familiesOf 13 = .ok (.getfield 30, 3) := by decide +kernel
theorem dX7_familiesOf_16 : decode cX7_familiesOf 16 = .ok (.iload_n 3, 1) := by decide +kernel
theorem dX7_familiesOf_17 : decode cX7_familiesOf 17 = .ok (.iaload, 1) := by decide +kernel
theorem dX7_familiesOf_18 : decode cX7_familiesOf 18 = .ok (.iload_n 1, 1) := by decide +kernel
theorem dX7_familiesOf_19 : decode cX7_familiesOf 19 = .ok (.if_icmp .ne 24, 3) := by decide +kernel
theorem dX7_familiesOf_22 : decode cX7_familiesOf 22 = .ok (.aload_n 0, 1) := by decide +kernel
theorem dX7_familiesOf_23 : decode cX7_familiesOf 23 = .ok (.getfield 27, 3) := by decide +kernel
theorem dX7_familiesOf_26 : decode cX7_familiesOf 26 = .ok (.iload_n 3, 1) := by decide +kernel
theorem dX7_familiesOf_27 : decode cX7_familiesOf 27 = .ok (.iaload, 1) := by decide +kernel
theorem dX7_familiesOf_28 : decode cX7_familiesOf 28 = .ok (.iconst (-1), 1) := by decide +kernel
theorem dX7_familiesOf_29 : decode cX7_familiesOf 29 = .ok (.if_icmp .eq 14, 3) := by decide +kernel
theorem dX7_familiesOf_32 : decode cX7_familiesOf 32 = .ok (.iload_n 2, 1) := by decide +kernel
theorem dX7_familiesOf_33 : decode cX7_familiesOf 33 = .ok (.iconst 1, 1) := by decide +kernel
theorem dX7_familiesOf_34 : decode cX7_familiesOf 34 = .ok (.aload_n 0, 1) := by decide +kernel
theorem dX7_familiesOf_35 : decode cX7_familiesOf 35 = .ok (.getfield 27, 3) := by decide +kernel
theorem dX7_familiesOf_38 : decode cX7_familiesOf 38 = .ok (.iload_n 3, 1) := by decide +kernel
theorem dX7_familiesOf_39 : decode cX7_familiesOf 39 = .ok (.iaload, 1) := by decide +kernel
theorem dX7_familiesOf_40 : decode cX7_familiesOf 40 = .ok (.ishl, 1) := by decide +kernel
theorem dX7_familiesOf_41 : decode cX7_familiesOf 41 = .ok (.ior, 1) := by decide +kernel
theorem dX7_familiesOf_42 : decode cX7_familiesOf 42 = .ok (.istore_n 2, 1) := by decide +kernel
theorem dX7_familiesOf_43 : decode cX7_familiesOf 43 = .ok (.iinc 3 1, 3) := by decide +kernel
theorem dX7_familiesOf_46 : decode cX7_familiesOf 46 = .ok (.goto (-42), 3) := by decide +kernel
theorem dX7_familiesOf_49 : decode cX7_familiesOf 49 = .ok (.iload_n 2, 1) := by decide +kernel
theorem dX7_familiesOf_50 : decode cX7_familiesOf 50 = .ok (.ireturn, 1) := by decide +kernel
theorem dX8_init_0 : decode cX8_init 0 = .ok (.aload_n 0, 1) := by decide +kernel
theorem dX8_init_1 : decode cX8_init 1 = .ok (.invokespecial 3, 3) := by decide +kernel
theorem dX8_init_4 : decode cX8_init 4 = .ok (.aload_n 0, 1) := by decide +kernel
theorem dX8_init_5 : decode cX8_init 5 = .ok (.new 9, 3) := by decide +kernel
theorem dX8_init_8 : decode cX8_init 8 = .ok (.dup, 1) := by decide +kernel
theorem dX8_init_9 : decode cX8_init 9 = .ok (.invokespecial 11, 3) := by decide +kernel
theorem dX8_init_12 : decode cX8_init 12 = .ok (.putfield 12, 3) := by decide +kernel
theorem dX8_init_15 : decode cX8_init 15 = .ok (.aload_n 0, 1) := by decide +kernel
theorem dX8_init_16 : decode cX8_init 16 = .ok (.new 18, 3) := by decide +kernel
theorem dX8_init_19 : decode cX8_init 19 = .ok (.dup, 1) := by decide +kernel
theorem dX8_init_20 : decode cX8_init 20 = .ok (.invokespecial 20, 3) := by decide +kernel
theorem dX8_init_23 : decode cX8_init 23 = .ok (.putfield 21, 3) := by decide +kernel
theorem dX8_init_26 : decode cX8_init 26 = .ok (.aload_n 0, 1) := by decide +kernel
theorem dX8_init_27 : decode cX8_init 27 = .ok (.new 25, 3) := by decide +kernel
theorem dX8_init_30 : decode cX8_init 30 = .ok (.dup, 1) := by decide +kernel
theorem dX8_init_31 : decode cX8_init 31 = .ok (.invokespecial 27, 3) := by decide +kernel
theorem dX8_init_34 : decode cX8_init 34 = .ok (.putfield 28, 3) := by decide +kernel
theorem dX8_init_37 : decode cX8_init 37 = .ok (.aload_n 0, 1) := by decide +kernel
theorem dX8_init_38 : decode cX8_init 38 = .ok (.new 32, 3) := by decide +kernel
theorem dX8_init_41 : decode cX8_init 41 = .ok (.dup, 1) := by decide +kernel
theorem dX8_init_42 : decode cX8_init 42 = .ok (.invokespecial 34, 3) := by decide +kernel
theorem dX8_init_45 : decode cX8_init 45 = .ok (.putfield 35, 3) := by decide +kernel
theorem dX8_init_48 : decode cX8_init 48 = .ok (.aload_n 0, 1) := by decide +kernel
theorem dX8_init_49 : decode cX8_init 49 = .ok (.new 39, 3) := by decide +kernel
theorem dX8_init_52 : decode cX8_init 52 = .ok (.dup, 1) := by decide +kernel
theorem dX8_init_53 : decode cX8_init 53 = .ok (.invokespecial 41, 3) := by decide +kernel
theorem dX8_init_56 : decode cX8_init 56 = .ok (.putfield 42, 3) := by decide +kernel
theorem dX8_init_59 : decode cX8_init 59 = .ok (.aload_n 0, 1) := by decide +kernel
theorem dX8_init_60 : decode cX8_init 60 = .ok (.bipush 18, 2) := by decide +kernel
theorem dX8_init_62 : decode cX8_init 62 = .ok (.newarray .int, 2) := by decide +kernel
theorem dX8_init_64 : decode cX8_init 64 = .ok (.putfield 46, 3) := by decide +kernel
theorem dX8_init_67 : decode cX8_init 67 = .ok (.return_, 1) := by decide +kernel
theorem dX8_isIn_0 : decode cX8_isIn 0 = .ok (.aload_n 0, 1) := by decide +kernel
theorem dX8_isIn_1 : decode cX8_isIn 1 = .ok (.getfield 28, 3) := by decide +kernel
theorem dX8_isIn_4 : decode cX8_isIn 4 = .ok (.iload_n 1, 1) := by decide +kernel
theorem dX8_isIn_5 : decode cX8_isIn 5 = .ok (.invokevirtual 50, 3) := by decide +kernel
theorem dX8_isIn_8 : decode cX8_isIn 8 = .ok (.ifCond .eq 20, 3) := by decide +kernel
theorem dX8_isIn_11 : decode cX8_isIn 11 = .ok (.aload_n 0, 1) := by decide +kernel
theorem dX8_isIn_12 : decode cX8_isIn 12 = .ok (.getfield 28, 3) := by decide +kernel
theorem dX8_isIn_15 : decode cX8_isIn 15 = .ok (.getfield 54, 3) := by decide +kernel
theorem dX8_isIn_18 : decode cX8_isIn 18 = .ok (.iload_n 1, 1) := by decide +kernel
theorem dX8_isIn_19 : decode cX8_isIn 19 = .ok (.iaload, 1) := by decide +kernel
theorem dX8_isIn_20 : decode cX8_isIn 20 = .ok (.iload_n 2, 1) := by decide +kernel
theorem dX8_isIn_21 : decode cX8_isIn 21 = .ok (.if_icmp .ne 7, 3) := by decide +kernel
theorem dX8_isIn_24 : decode cX8_isIn 24 = .ok (.iconst 1, 1) := by decide +kernel
theorem dX8_isIn_25 : decode cX8_isIn 25 = .ok (.goto 4, 3) := by decide +kernel
theorem dX8_isIn_28 : decode cX8_isIn 28 = .ok (.iconst 0, 1) := by decide +kernel
theorem dX8_isIn_29 : decode cX8_isIn 29 = .ok (.ireturn, 1) := by decide +kernel
theorem dX8_isHere_0 : decode cX8_isHere 0 = .ok (.aload_n 0, 1) := by decide +kernel
theorem dX8_isHere_1 : decode cX8_isHere 1 = .ok (.getfield 28, 3) := by decide +kernel
theorem dX8_isHere_4 : decode cX8_isHere 4 = .ok (.iload_n 1, 1) := by decide +kernel
theorem dX8_isHere_5 : decode cX8_isHere 5 = .ok (.invokevirtual 50, 3) := by decide +kernel
theorem dX8_isHere_8 : decode cX8_isHere 8 = .ok (.ifCond .eq 20, 3) := by decide +kernel
theorem dX8_isHere_11 : decode cX8_isHere 11 = .ok (.aload_n 0, 1) := by decide +kernel
theorem dX8_isHere_12 : decode cX8_isHere 12 = .ok (.getfield 28, 3) := by decide +kernel
theorem dX8_isHere_15 : decode cX8_isHere 15 = .ok (.getfield 54, 3) := by decide +kernel
theorem dX8_isHere_18 : decode cX8_isHere 18 = .ok (.iload_n 1, 1) := by decide +kernel
theorem dX8_isHere_19 : decode cX8_isHere 19 = .ok (.iaload, 1) := by decide +kernel
theorem dX8_isHere_20 : decode cX8_isHere 20 = .ok (.iconst 2, 1) := by decide +kernel
theorem dX8_isHere_21 : decode cX8_isHere 21 = .ok (.if_icmp .eq 7, 3) := by decide +kernel
theorem dX8_isHere_24 : decode cX8_isHere 24 = .ok (.iconst 1, 1) := by decide +kernel
theorem dX8_isHere_25 : decode cX8_isHere 25 = .ok (.goto 4, 3) := by decide +kernel
theorem dX8_isHere_28 : decode cX8_isHere 28 = .ok (.iconst 0, 1) := by decide +kernel
theorem dX8_isHere_29 : decode cX8_isHere 29 = .ok (.ireturn, 1) := by decide +kernel
theorem dX8_headsIn_0 : decode cX8_headsIn 0 = .ok (.iconst 0, 1) := by decide +kernel
theorem dX8_headsIn_1 : decode cX8_headsIn 1 = .ok (.istore_n 2, 1) := by decide +kernel
theorem dX8_headsIn_2 : decode cX8_headsIn 2 = .ok (.iconst 0, 1) := by decide +kernel
theorem dX8_headsIn_3 : decode cX8_headsIn 3 = .ok (.istore_n 3, 1) := by decide +kernel
theorem dX8_headsIn_4 : decode cX8_headsIn 4 = .ok (.iload_n 3, 1) := by decide +kernel
theorem dX8_headsIn_5 : decode cX8_headsIn 5 = .ok (.aload_n 0, 1) := by decide +kernel
theorem dX8_headsIn_6 : decode cX8_headsIn 6 = .ok (.getfield 28, 3) := by decide +kernel
theorem dX8_headsIn_9 : decode cX8_headsIn 9 = .ok (.getfield 57, 3) := by decide +kernel
theorem dX8_headsIn_12 : decode cX8_headsIn 12 = .ok (.if_icmp .ge 34, 3) := by decide +kernel
theorem dX8_headsIn_15 : decode cX8_headsIn 15 = .ok (.aload_n 0, 1) := by decide +kernel
theorem dX8_headsIn_16 : decode cX8_headsIn 16 = .ok (.getfield 28, 3) := by decide +kernel
theorem dX8_headsIn_19 : decode cX8_headsIn 19 = .ok (.getfield 54, 3) := by decide +kernel
theorem dX8_headsIn_22 : decode cX8_headsIn 22 = .ok (.iload_n 3, 1) := by decide +kernel
theorem dX8_headsIn_23 : decode cX8_headsIn 23 = .ok (.iaload, 1) := by decide +kernel
theorem dX8_headsIn_24 : decode cX8_headsIn 24 = .ok (.iload_n 1, 1) := by decide +kernel
theorem dX8_headsIn_25 : decode cX8_headsIn 25 = .ok (.if_icmp .ne 15, 3) := by decide +kernel
theorem dX8_headsIn_28 : decode cX8_headsIn 28 = .ok (.iload_n 2, 1) := by decide +kernel
theorem dX8_headsIn_29 : decode cX8_headsIn 29 = .ok (.aload_n 0, 1) := by decide +kernel
theorem dX8_headsIn_30 : decode cX8_headsIn 30 = .ok (.getfield 28, 3) := by decide +kernel
theorem dX8_headsIn_33 : decode cX8_headsIn 33 = .ok (.getfield 61, 3) := by decide +kernel
theorem dX8_headsIn_36 : decode cX8_headsIn 36 = .ok (.iload_n 3, 1) := by decide +kernel
theorem dX8_headsIn_37 : decode cX8_headsIn 37 = .ok (.iaload, 1) := by decide +kernel
theorem dX8_headsIn_38 : decode cX8_headsIn 38 = .ok (.iadd, 1) := by decide +kernel
theorem dX8_headsIn_39 : decode cX8_headsIn 39 = .ok (.istore_n 2, 1) := by decide +kernel
theorem dX8_headsIn_40 : decode cX8_headsIn 40 = .ok (.iinc 3 1, 3) := by decide +kernel
theorem dX8_headsIn_43 : decode cX8_headsIn 43 = .ok (.goto (-39), 3) := by decide +kernel
theorem dX8_headsIn_46 : decode cX8_headsIn 46 = .ok (.iload_n 2, 1) := by decide +kernel
theorem dX8_headsIn_47 : decode cX8_headsIn 47 = .ok (.ireturn, 1) := by decide +kernel
theorem dX8_settle_0 : decode cX8_settle 0 = .ok (.aload_n 0, 1) := by decide +kernel
theorem dX8_settle_1 : decode cX8_settle 1 = .ok (.iload_n 1, 1) := by decide +kernel
theorem dX8_settle_2 : decode cX8_settle 2 = .ok (.iconst 0, 1) := by decide +kernel
theorem dX8_settle_3 : decode cX8_settle 3 = .ok (.invokevirtual 64, 3) := by decide +kernel
theorem dX8_settle_6 : decode cX8_settle 6 = .ok (.ifCond .eq 14, 3) := by decide +kernel
theorem dX8_settle_9 : decode cX8_settle 9 = .ok (.aload_n 0, 1) := by decide +kernel
theorem dX8_settle_10 : decode cX8_settle 10 = .ok (.getfield 21, 3) := by decide +kernel
theorem dX8_settle_13 : decode cX8_settle 13 = .ok (.iload_n 2, 1) := by decide +kernel
theorem dX8_settle_14 : decode cX8_settle 14 = .ok (.invokevirtual 68, 3) := by decide +kernel
theorem dX8_settle_17 : decode cX8_settle 17 = .ok (.ifCond .ne 4, 3) := by decide +kernel
theorem dX8_settle_20 : decode cX8_settle 20 = .ok (.return_, 1) := by decide +kernel
theorem dX8_settle_21 : decode cX8_settle 21 = .ok (.aload_n 0, 1) := by decide +kernel
theorem dX8_settle_22 : decode cX8_settle 22 = .ok (.getfield 21, 3) := by decide +kernel
theorem dX8_settle_25 : decode cX8_settle 25 = .ok (.getfield 69, 3) := by decide +kernel
theorem dX8_settle_28 : decode cX8_settle 28 = .ok (.iload_n 2, 1) := by decide +kernel
theorem dX8_settle_29 : decode cX8_settle 29 = .ok (.iaload, 1) := by decide +kernel
theorem dX8_settle_30 : decode cX8_settle 30 = .ok (.istore_n 3, 1) := by decide +kernel
theorem dX8_settle_31 : decode cX8_settle 31 = .ok (.aload_n 0, 1) := by decide +kernel
theorem dX8_settle_32 : decode cX8_settle 32 = .ok (.getfield 28, 3) := by decide +kernel
theorem dX8_settle_35 : decode cX8_settle 35 = .ok (.getfield 54, 3) := by decide +kernel
theorem dX8_settle_38 : decode cX8_settle 38 = .ok (.iload_n 1, 1) := by decide +kernel
theorem dX8_settle_39 : decode cX8_settle 39 = .ok (.iconst 1, 1) := by decide +kernel
theorem dX8_settle_40 : decode cX8_settle 40 = .ok (.iastore, 1) := by decide +kernel
theorem dX8_settle_41 : decode cX8_settle 41 = .ok (.aload_n 0, 1) := by decide +kernel
theorem dX8_settle_42 : decode cX8_settle 42 = .ok (.getfield 28, 3) := by decide +kernel
theorem dX8_settle_45 : decode cX8_settle 45 = .ok (.getfield 72, 3) := by decide +kernel
theorem dX8_settle_48 : decode cX8_settle 48 = .ok (.iload_n 1, 1) := by decide +kernel
theorem dX8_settle_49 : decode cX8_settle 49 = .ok (.iload_n 2, 1) := by decide +kernel
theorem dX8_settle_50 : decode cX8_settle 50 = .ok (.iastore, 1) := by decide +kernel
theorem dX8_settle_51 : decode cX8_settle 51 = .ok (.aload_n 0, 1) := by decide +kernel
theorem dX8_settle_52 : decode cX8_settle 52 = .ok (.getfield 28, 3) := by decide +kernel
theorem dX8_settle_55 : decode cX8_settle 55 = .ok (.getfield 75, 3) := by decide +kernel
theorem dX8_settle_58 : decode cX8_settle 58 = .ok (.iload_n 1, 1) := by decide +kernel
theorem dX8_settle_59 : decode cX8_settle 59 = .ok (.iload_n 3, 1) := by decide +kernel
theorem dX8_settle_60 : decode cX8_settle 60 = .ok (.iastore, 1) := by decide +kernel
theorem dX8_settle_61 : decode cX8_settle 61 = .ok (.aload_n 0, 1) := by decide +kernel
theorem dX8_settle_62 : decode cX8_settle 62 = .ok (.getfield 21, 3) := by decide +kernel
theorem dX8_settle_65 : decode cX8_settle 65 = .ok (.getfield 76, 3) := by decide +kernel
theorem dX8_settle_68 : decode cX8_settle 68 = .ok (.iload_n 2, 1) := by decide +kernel
theorem dX8_settle_69 : decode cX8_settle 69 = .ok (.iload_n 1, 1) := by decide +kernel
theorem dX8_settle_70 : decode cX8_settle 70 = .ok (.iastore, 1) := by decide +kernel
theorem dX8_settle_71 : decode cX8_settle 71 = .ok (.aload_n 0, 1) := by decide +kernel
theorem dX8_settle_72 : decode cX8_settle 72 = .ok (.getfield 12, 3) := by decide +kernel
theorem dX8_settle_75 : decode cX8_settle 75 = .ok (.getfield 79, 3) := by decide +kernel
theorem dX8_settle_78 : decode cX8_settle 78 = .ok (.iload_n 3, 1) := by decide +kernel
theorem dX8_settle_79 : decode cX8_settle 79 = .ok (.dup2, 1) := by decide +kernel
theorem dX8_settle_80 : decode cX8_settle 80 = .ok (.iaload, 1) := by decide +kernel
theorem dX8_settle_81 : decode cX8_settle 81 = .ok (.aload_n 0, 1) := by decide +kernel
theorem dX8_settle_82 : decode cX8_settle 82 = .ok (.getfield 28, 3) := by decide +kernel
theorem dX8_settle_85 : decode cX8_settle 85 = .ok (.getfield 61, 3) := by decide +kernel
theorem dX8_settle_88 : decode cX8_settle 88 = .ok (.iload_n 1, 1) := by decide +kernel
theorem dX8_settle_89 : decode cX8_settle 89 = .ok (.iaload, 1) := by decide +kernel
theorem dX8_settle_90 : decode cX8_settle 90 = .ok (.iadd, 1) := by decide +kernel
theorem dX8_settle_91 : decode cX8_settle 91 = .ok (.iastore, 1) := by decide +kernel
theorem dX8_settle_92 : decode cX8_settle 92 = .ok (.aload_n 0, 1) := by decide +kernel
theorem dX8_settle_93 : decode cX8_settle 93 = .ok (.getfield 12, 3) := by decide +kernel
theorem dX8_settle_96 : decode cX8_settle 96 = .ok (.getfield 80, 3) := by decide +kernel
theorem dX8_settle_99 : decode cX8_settle 99 = .ok (.iload_n 3, 1) := by decide +kernel
theorem dX8_settle_100 : decode cX8_settle 100 = .ok (.dup2, 1) := by decide +kernel
theorem dX8_settle_101 : decode cX8_settle 101 = .ok (.iaload, 1) := by decide +kernel
theorem dX8_settle_102 : decode cX8_settle 102 = .ok (.aload_n 0, 1) := by decide +kernel
theorem dX8_settle_103 : decode cX8_settle 103 = .ok (.getfield 28, 3) := by decide +kernel
theorem dX8_settle_106 : decode cX8_settle 106 = .ok (.getfield 83, 3) := by decide +kernel
theorem dX8_settle_109 : decode cX8_settle 109 = .ok (.iload_n 1, 1) := by decide +kernel
theorem dX8_settle_110 : decode cX8_settle 110 = .ok (.iaload, 1) := by decide +kernel
theorem dX8_settle_111 : decode cX8_settle 111 = .ok (.iadd, 1) := by decide +kernel
theorem dX8_settle_112 : decode cX8_settle 112 = .ok (.iastore, 1) := by decide +kernel
theorem dX8_settle_113 : decode cX8_settle 113 = .ok (.aload_n 0, 1) := by decide +kernel
theorem dX8_settle_114 : decode cX8_settle 114 = .ok (.getfield 12, 3) := by decide +kernel
theorem dX8_settle_117 : decode cX8_settle 117 = .ok (.getfield 84, 3) := by decide +kernel
theorem dX8_settle_120 : decode cX8_settle 120 = .ok (.iload_n 3, 1) := by decide +kernel
theorem dX8_settle_121 : decode cX8_settle 121 = .ok (.dup2, 1) := by decide +kernel
theorem dX8_settle_122 : decode cX8_settle 122 = .ok (.iaload, 1) := by decide +kernel
theorem dX8_settle_123 : decode cX8_settle 123 = .ok (.iconst 1, 1) := by decide +kernel
theorem dX8_settle_124 : decode cX8_settle 124 = .ok (.iload_n 1, 1) := by decide +kernel
theorem dX8_settle_125 : decode cX8_settle 125 = .ok (.ishl, 1) := by decide +kernel
theorem dX8_settle_126 : decode cX8_settle 126 = .ok (.ior, 1) := by decide +kernel
theorem dX8_settle_127 : decode cX8_settle 127 = .ok (.iastore, 1) := by decide +kernel
theorem dX8_settle_128 : decode cX8_settle 128 = .ok (.return_, 1) := by decide +kernel
theorem dX8_unsettle_0 : decode cX8_unsettle 0 = .ok (.aload_n 0, 1) := by decide +kernel
theorem dX8_unsettle_1 : decode cX8_unsettle 1 = .ok (.iload_n 1, 1) := by decide +kernel
theorem dX8_unsettle_2 : decode cX8_unsettle 2 = .ok (.iconst 1, 1) := by decide +kernel
theorem dX8_unsettle_3 : decode cX8_unsettle 3 = .ok (.invokevirtual 64, 3) := by decide +kernel
theorem dX8_unsettle_6 : decode cX8_unsettle 6 = .ok (.ifCond .ne 4, 3) := by decide +kernel
theorem dX8_unsettle_9 : decode cX8_unsettle 9 = .ok (.return_, 1) := by decide +kernel
theorem dX8_unsettle_10 : decode cX8_unsettle 10 = .ok (.aload_n 0, 1) := by decide +kernel
theorem dX8_unsettle_11 : decode cX8_unsettle 11 = .ok (.getfield 28, 3) := by decide +kernel
theorem dX8_unsettle_14 : decode cX8_unsettle 14 = .ok (.getfield 75, 3) := by decide +kernel
theorem dX8_unsettle_17 : decode cX8_unsettle 17 = .ok (.iload_n 1, 1) := by decide +kernel
theorem dX8_unsettle_18 : decode cX8_unsettle 18 = .ok (.iaload, 1) := by decide +kernel
theorem dX8_unsettle_19 : decode cX8_unsettle 19 = .ok (.istore_n 2, 1) := by decide +kernel
theorem dX8_unsettle_20 : decode cX8_unsettle 20 = .ok (.aload_n 0, 1) := by decide +kernel
theorem dX8_unsettle_21 : decode cX8_unsettle 21 = .ok (.getfield 21, 3) := by decide +kernel
theorem dX8_unsettle_24 : decode cX8_unsettle 24 = .ok (.getfield 76, 3) := by decide +kernel
theorem dX8_unsettle_27 : decode cX8_unsettle 27 = .ok (.aload_n 0, 1) := by decide +kernel
theorem dX8_unsettle_28 : decode cX8_unsettle 28 = .ok (.getfield 28, 3) := by decide +kernel
theorem dX8_unsettle_31 : decode cX8_unsettle 31 = .ok (.getfield 72, 3) := by decide +kernel
theorem dX8_unsettle_34 : decode cX8_unsettle 34 = .ok (.iload_n 1, 1) := by decide +kernel
theorem dX8_unsettle_35 : decode cX8_unsettle 35 = .ok (.iaload, 1) := by decide +kernel
theorem dX8_unsettle_36 : decode cX8_unsettle 36 = .ok (.iconst (-1), 1) := by decide +kernel
theorem dX8_unsettle_37 : decode cX8_unsettle 37 = .ok (.iastore, 1) := by decide +kernel
theorem dX8_unsettle_38 : decode cX8_unsettle 38 = .ok (.aload_n 0, 1) := by decide +kernel
theorem dX8_unsettle_39 : decode cX8_unsettle 39 = .ok (.getfield 28, 3) := by decide +kernel
theorem dX8_unsettle_42 : decode cX8_unsettle 42 = .ok (.getfield 54, 3) := by decide +kernel
theorem dX8_unsettle_45 : decode cX8_unsettle 45 = .ok (.iload_n 1, 1) := by decide +kernel
theorem dX8_unsettle_46 : decode cX8_unsettle 46 = .ok (.iconst 0, 1) := by decide +kernel
theorem dX8_unsettle_47 : decode cX8_unsettle 47 = .ok (.iastore, 1) := by decide +kernel
theorem dX8_unsettle_48 : decode cX8_unsettle 48 = .ok (.aload_n 0, 1) := by decide +kernel
theorem dX8_unsettle_49 : decode cX8_unsettle 49 = .ok (.getfield 28, 3) := by decide +kernel
theorem dX8_unsettle_52 : decode cX8_unsettle 52 = .ok (.getfield 72, 3) := by decide +kernel
theorem dX8_unsettle_55 : decode cX8_unsettle 55 = .ok (.iload_n 1, 1) := by decide +kernel
theorem dX8_unsettle_56 : decode cX8_unsettle 56 = .ok (.iconst (-1), 1) := by decide +kernel
theorem dX8_unsettle_57 : decode cX8_unsettle 57 = .ok (.iastore, 1) := by decide +kernel
theorem dX8_unsettle_58 : decode cX8_unsettle 58 = .ok (.aload_n 0, 1) := by decide +kernel
theorem dX8_unsettle_59 : decode cX8_unsettle 59 = .ok (.getfield 28, 3) := by decide +kernel
theorem dX8_unsettle_62 : decode cX8_unsettle 62 = .ok (.getfield 75, 3) := by decide +kernel
theorem dX8_unsettle_65 : decode cX8_unsettle 65 = .ok (.iload_n 1, 1) := by decide +kernel
theorem dX8_unsettle_66 : decode cX8_unsettle 66 = .ok (.iconst (-1), 1) := by decide +kernel
theorem dX8_unsettle_67 : decode cX8_unsettle 67 = .ok (.iastore, 1) := by decide +kernel
theorem dX8_unsettle_68 : decode cX8_unsettle 68 = .ok (.aload_n 0, 1) := by decide +kernel
theorem dX8_unsettle_69 : decode cX8_unsettle 69 = .ok (.getfield 12, 3) := by decide +kernel
theorem dX8_unsettle_72 : decode cX8_unsettle 72 = .ok (.getfield 79, 3) := by decide +kernel
theorem dX8_unsettle_75 : decode cX8_unsettle 75 = .ok (.iload_n 2, 1) := by decide +kernel
theorem dX8_unsettle_76 : decode cX8_unsettle 76 = .ok (.dup2, 1) := by decide +kernel
theorem dX8_unsettle_77 : decode cX8_unsettle 77 = .ok (.iaload, 1) := by decide +kernel
theorem dX8_unsettle_78 : decode cX8_unsettle 78 = .ok (.aload_n 0, 1) := by decide +kernel
theorem dX8_unsettle_79 : decode cX8_unsettle 79 = .ok (.getfield 28, 3) := by decide +kernel
theorem dX8_unsettle_82 : decode cX8_unsettle 82 = .ok (.getfield 61, 3) := by decide +kernel
theorem dX8_unsettle_85 : decode cX8_unsettle 85 = .ok (.iload_n 1, 1) := by decide +kernel
theorem dX8_unsettle_86 : decode cX8_unsettle 86 = .ok (.iaload, 1) := by decide +kernel
theorem dX8_unsettle_87 : decode cX8_unsettle 87 = .ok (.isub, 1) := by decide +kernel
theorem dX8_unsettle_88 : decode cX8_unsettle 88 = .ok (.iastore, 1) := by decide +kernel
theorem dX8_unsettle_89 : decode cX8_unsettle 89 = .ok (.aload_n 0, 1) := by decide +kernel
theorem dX8_unsettle_90 : decode cX8_unsettle 90 = .ok (.getfield 12, 3) := by decide +kernel
theorem dX8_unsettle_93 : decode cX8_unsettle 93 = .ok (.getfield 80, 3) := by decide +kernel
theorem dX8_unsettle_96 : decode cX8_unsettle 96 = .ok (.iload_n 2, 1) := by decide +kernel
theorem dX8_unsettle_97 : decode cX8_unsettle 97 = .ok (.dup2, 1) := by decide +kernel
theorem dX8_unsettle_98 : decode cX8_unsettle 98 = .ok (.iaload, 1) := by decide +kernel
theorem dX8_unsettle_99 : decode cX8_unsettle 99 = .ok (.aload_n 0, 1) := by decide +kernel
theorem dX8_unsettle_100 : decode cX8_unsettle 100 = .ok (.getfield 28, 3) := by decide +kernel
theorem dX8_unsettle_103 : decode cX8_unsettle 103 = .ok (.getfield 83, 3) := by decide +kernel
theorem dX8_unsettle_106 : decode cX8_unsettle 106 = .ok (.iload_n 1, 1) := by decide +kernel
theorem dX8_unsettle_107 : decode cX8_unsettle 107 = .ok (.iaload, 1) := by decide +kernel
theorem dX8_unsettle_108 : decode cX8_unsettle 108 = .ok (.isub, 1) := by decide +kernel
theorem dX8_unsettle_109 : decode cX8_unsettle 109 = .ok (.iastore, 1) := by decide +kernel
theorem dX8_unsettle_110 : decode cX8_unsettle 110 = .ok (.aload_n 0, 1) := by decide +kernel
theorem dX8_unsettle_111 : decode cX8_unsettle 111 = .ok (.getfield 12, 3) := by decide +kernel
theorem dX8_unsettle_114 : decode cX8_unsettle 114 = .ok (.getfield 84, 3) := by decide +kernel
theorem dX8_unsettle_117 : decode cX8_unsettle 117 = .ok (.iload_n 2, 1) := by decide +kernel
theorem dX8_unsettle_118 : decode cX8_unsettle 118 = .ok (.dup2, 1) := by decide +kernel
theorem dX8_unsettle_119 : decode cX8_unsettle 119 = .ok (.iaload, 1) := by decide +kernel
theorem dX8_unsettle_120 : decode cX8_unsettle 120 = .ok (.iconst 1, 1) := by decide +kernel
theorem dX8_unsettle_121 : decode cX8_unsettle 121 = .ok (.iload_n 1, 1) := by decide +kernel
theorem dX8_unsettle_122 : decode cX8_unsettle 122 = .ok (.ishl, 1) := by decide +kernel
theorem dX8_unsettle_123 : decode cX8_unsettle 123 = .ok (.iconst (-1), 1) := by decide +kernel
theorem dX8_unsettle_124 : decode cX8_unsettle 124 = .ok (.ixor, 1) := by decide +kernel
theorem dX8_unsettle_125 : decode cX8_unsettle 125 = .ok (.iand, 1) := by decide +kernel
theorem dX8_unsettle_126 : decode cX8_unsettle 126 = .ok (.iastore, 1) := by decide +kernel
theorem dX8_unsettle_127 : decode cX8_unsettle 127 = .ok (.return_, 1) := by decide +kernel
theorem dX8_emptyEndingHomes_0 : decode cX8_emptyEndingHomes 0 = .ok (.iconst 0, 1) := by decide +kernel
theorem dX8_emptyEndingHomes_1 : decode cX8_emptyEndingHomes 1 = .ok (.istore_n 1, 1) := by decide +kernel
theorem dX8_emptyEndingHomes_2 : decode cX8_emptyEndingHomes 2 = .ok (.iload_n 1, 1) := by decide +kernel
theorem dX8_emptyEndingHomes_3 : decode cX8_emptyEndingHomes 3 = .ok (.aload_n 0, 1) := by decide +kernel
theorem dX8_emptyEndingHomes_4 : decode cX8_emptyEndingHomes 4 = .ok (.getfield 21, 3) := by decide +kernel
theorem dX8_emptyEndingHomes_7 : decode cX8_emptyEndingHomes 7 = .ok (.getfield 87, 3) := by decide +kernel
theorem dX8_emptyEndingHomes_10 : decode cX8_emptyEndingHomes 10 = .ok (.if_icmp .ge 38, 3) := by decide +kernel
theorem dX8_emptyEndingHomes_13 : decode cX8_emptyEndingHomes 13 = .ok (.aload_n 0, 1) := by decide +kernel
theorem dX8_emptyEndingHomes_14 : decode cX8_emptyEndingHomes 14 = .ok (.getfield 21, 3) := by decide +kernel
theorem dX8_emptyEndingHomes_17 : decode cX8_emptyEndingHomes 17 = .ok (.getfield 88, 3) := by decide +kernel
theorem dX8_emptyEndingHomes_20 : decode cX8_emptyEndingHomes 20 = .ok (.iload_n 1, 1) := by decide +kernel
theorem dX8_emptyEndingHomes_21 : decode cX8_emptyEndingHomes 21 = .ok (.iaload, 1) := by decide +kernel
theorem dX8_emptyEndingHomes_22 : decode cX8_emptyEndingHomes 22 = .ok (.aload_n 0, 1) := by decide +kernel
theorem dX8_emptyEndingHomes_23 : decode cX8_emptyEndingHomes 23 = .ok (.getfield 91, 3) := by decide +kernel
theorem dX8_emptyEndingHomes_26 : decode cX8_emptyEndingHomes 26 = .ok (.if_icmp .ne 16, 3) := by decide +kernel
theorem dX8_emptyEndingHomes_29 : decode cX8_emptyEndingHomes 29 = .ok (.aload_n 0, 1) := by decide +kernel
theorem dX8_emptyEndingHomes_30 : decode cX8_emptyEndingHomes 30 = .ok (.aload_n 0, 1) := by decide +kernel
theorem dX8_emptyEndingHomes_31 : decode cX8_emptyEndingHomes 31 = .ok (.getfield 21, 3) := by decide +kernel
theorem dX8_emptyEndingHomes_34 : decode cX8_emptyEndingHomes 34 = .ok (.getfield 76, 3) := by decide +kernel
theorem dX8_emptyEndingHomes_37 : decode cX8_emptyEndingHomes 37 = .ok (.iload_n 1, 1) := by decide +kernel
theorem dX8_emptyEndingHomes_38 : decode cX8_emptyEndingHomes 38 = .ok (.iaload, 1) := by decide +kernel
theorem dX8_emptyEndingHomes_39 : decode cX8_emptyEndingHomes 39 = .ok (.invokevirtual 94, 3) := by decide +kernel
theorem dX8_emptyEndingHomes_42 : decode cX8_emptyEndingHomes 42 = .ok (.iinc 1 1, 3) := by decide +kernel
theorem dX8_emptyEndingHomes_45 : decode cX8_emptyEndingHomes 45 = .ok (.goto (-43), 3) := by decide +kernel
theorem dX8_emptyEndingHomes_48 : decode cX8_emptyEndingHomes 48 = .ok (.return_, 1) := by decide +kernel
theorem dX8_countNights_0 : decode cX8_countNights 0 = .ok (.iconst 0, 1) := by decide +kernel
theorem dX8_countNights_1 : decode cX8_countNights 1 = .ok (.istore_n 1, 1) := by decide +kernel
theorem dX8_countNights_2 : decode cX8_countNights 2 = .ok (.iload_n 1, 1) := by decide +kernel
theorem dX8_countNights_3 : decode cX8_countNights 3 = .ok (.aload_n 0, 1) := by decide +kernel
theorem dX8_countNights_4 : decode cX8_countNights 4 = .ok (.getfield 28, 3) := by decide +kernel
theorem dX8_countNights_7 : decode cX8_countNights 7 = .ok (.getfield 57, 3) := by decide +kernel
theorem dX8_countNights_10 : decode cX8_countNights 10 = .ok (.if_icmp .ge 34, 3) := by decide +kernel
theorem dX8_countNights_13 : decode cX8_countNights 13 = .ok (.aload_n 0, 1) := by decide +kernel
theorem dX8_countNights_14 : decode cX8_countNights 14 = .ok (.getfield 28, 3) := by decide +kernel
theorem dX8_countNights_17 : decode cX8_countNights 17 = .ok (.getfield 54, 3) := by decide +kernel
theorem dX8_countNights_20 : decode cX8_countNights 20 = .ok (.iload_n 1, 1) := by decide +kernel
theorem dX8_countNights_21 : decode cX8_countNights 21 = .ok (.iaload, 1) := by decide +kernel
theorem dX8_countNights_22 : decode cX8_countNights 22 = .ok (.ifCond .ne 16, 3) := by decide +kernel
theorem dX8_countNights_25 : decode cX8_countNights 25 = .ok (.aload_n 0, 1) := by decide +kernel
theorem dX8_countNights_26 : decode cX8_countNights 26 = .ok (.getfield 28, 3) := by decide +kernel
theorem dX8_countNights_29 : decode cX8_countNights 29 = .ok (.getfield 98, 3) := by decide +kernel
theorem dX8_countNights_32 : decode cX8_countNights 32 = .ok (.iload_n 1, 1) := by decide +kernel
theorem dX8_countNights_33 : decode cX8_countNights 33 = .ok (.dup2, 1) := by decide +kernel
theorem dX8_countNights_34 : decode cX8_countNights 34 = .ok (.iaload, 1) := by decide +kernel
theorem dX8_countNights_35 : decode cX8_countNights 35 = .ok (.iconst 1, 1) := by decide +kernel
theorem dX8_countNights_36 : decode cX8_countNights 36 = .ok (.iadd, 1) := by decide +kernel
theorem dX8_countNights_37 : decode cX8_countNights 37 = .ok (.iastore, 1) := by decide +kernel
theorem dX8_countNights_38 : decode cX8_countNights 38 = .ok (.iinc 1 1, 3) := by decide +kernel
theorem dX8_countNights_41 : decode cX8_countNights 41 = .ok (.goto (-39), 3) := by decide +kernel
theorem dX8_countNights_44 : decode cX8_countNights 44 = .ok (.return_, 1) := by decide +kernel
theorem dX8_kinIn_0 : decode cX8_kinIn 0 = .ok (.aload_n 0, 1) := by decide +kernel
theorem dX8_kinIn_1 : decode cX8_kinIn 1 = .ok (.getfield 35, 3) := by decide +kernel
theorem dX8_kinIn_4 : decode cX8_kinIn 4 = .ok (.getfield 101, 3) := by decide +kernel
theorem dX8_kinIn_7 : decode cX8_kinIn 7 = .ok (.iload_n 1, 1) := by decide +kernel
theorem dX8_kinIn_8 : decode cX8_kinIn 8 = .ok (.iaload, 1) := by decide +kernel
theorem dX8_kinIn_9 : decode cX8_kinIn 9 = .ok (.aload_n 0, 1) := by decide +kernel
theorem dX8_kinIn_10 : decode cX8_kinIn 10 = .ok (.getfield 12, 3) := by decide +kernel
theorem dX8_kinIn_13 : decode cX8_kinIn 13 = .ok (.getfield 84, 3) := by decide +kernel
theorem dX8_kinIn_16 : decode cX8_kinIn 16 = .ok (.iload_n 2, 1) := by decide +kernel
theorem dX8_kinIn_17 : decode cX8_kinIn 17 = .ok (.iaload, 1) := by decide +kernel
theorem dX8_kinIn_18 : decode cX8_kinIn 18 = .ok (.iand, 1) := by decide +kernel
theorem dX8_kinIn_19 : decode cX8_kinIn 19 = .ok (.invokestatic 104, 3) := by decide +kernel
theorem dX8_kinIn_22 : decode cX8_kinIn 22 = .ok (.ireturn, 1) := by decide +kernel
theorem dX8_wishMet_0 : decode cX8_wishMet 0 = .ok (.aload_n 0, 1) := by decide +kernel
theorem dX8_wishMet_1 : decode cX8_wishMet 1 = .ok (.getfield 28, 3) := by decide +kernel
theorem dX8_wishMet_4 : decode cX8_wishMet 4 = .ok (.getfield 110, 3) := by decide +kernel
theorem dX8_wishMet_7 : decode cX8_wishMet 7 = .ok (.iload_n 1, 1) := by decide +kernel
theorem dX8_wishMet_8 : decode cX8_wishMet 8 = .ok (.iaload, 1) := by decide +kernel
theorem dX8_wishMet_9 : decode cX8_wishMet 9 = .ok (.iload_n 2, 1) := by decide +kernel
theorem dX8_wishMet_10 : decode cX8_wishMet 10 = .ok (.if_icmp .ne 7, 3) := by decide +kernel
theorem dX8_wishMet_13 : decode cX8_wishMet 13 = .ok (.iconst 1, 1) := by decide +kernel
theorem dX8_wishMet_14 : decode cX8_wishMet 14 = .ok (.goto 4, 3) := by decide +kernel
theorem dX8_wishMet_17 : decode cX8_wishMet 17 = .ok (.iconst 0, 1) := by decide +kernel
theorem dX8_wishMet_18 : decode cX8_wishMet 18 = .ok (.ireturn, 1) := by decide +kernel
theorem dX8_seatsFor_0 : decode cX8_seatsFor 0 = .ok (.aload_n 0, 1) := by decide +kernel
theorem dX8_seatsFor_1 : decode cX8_seatsFor 1 = .ok (.getfield 28, 3) := by decide +kernel
theorem dX8_seatsFor_4 : decode cX8_seatsFor 4 = .ok (.getfield 75, 3) := by decide +kernel
theorem dX8_seatsFor_7 : decode cX8_seatsFor 7 = .ok (.iload_n 1, 1) := by decide +kernel
theorem dX8_seatsFor_8 : decode cX8_seatsFor 8 = .ok (.iaload, 1) := by decide +kernel
theorem dX8_seatsFor_9 : decode cX8_seatsFor 9 = .ok (.iload_n 2, 1) := by decide +kernel
theorem dX8_seatsFor_10 : decode cX8_seatsFor 10 = .ok (.if_icmp .ne 15, 3) := by decide +kernel
theorem dX8_seatsFor_13 : decode cX8_seatsFor 13 = .ok (.aload_n 0, 1) := by decide +kernel
theorem dX8_seatsFor_14 : decode cX8_seatsFor 14 = .ok (.getfield 28, 3) := by decide +kernel
theorem dX8_seatsFor_17 : decode cX8_seatsFor 17 = .ok (.getfield 83, 3) := by decide +kernel
theorem dX8_seatsFor_20 : decode cX8_seatsFor 20 = .ok (.iload_n 1, 1) := by decide +kernel
theorem dX8_seatsFor_21 : decode cX8_seatsFor 21 = .ok (.iaload, 1) := by decide +kernel
theorem dX8_seatsFor_22 : decode cX8_seatsFor 22 = .ok (.goto 4, 3) := by decide +kernel
theorem dX8_seatsFor_25 : decode cX8_seatsFor 25 = .ok (.iconst 0, 1) := by decide +kernel
theorem dX8_seatsFor_26 : decode cX8_seatsFor 26 = .ok (.istore_n 3, 1) := by decide +kernel
theorem dX8_seatsFor_27 : decode cX8_seatsFor 27 = .ok (.aload_n 0, 1) := by decide +kernel
theorem dX8_seatsFor_28 : decode cX8_seatsFor 28 = .ok (.getfield 12, 3) := by decide +kernel
theorem dX8_seatsFor_31 : decode cX8_seatsFor 31 = .ok (.getfield 113, 3) := by decide +kernel
theorem dX8_seatsFor_34 : decode cX8_seatsFor 34 = .ok (.iload_n 2, 1) := by decide +kernel
theorem dX8_seatsFor_35 : decode cX8_seatsFor 35 = .ok (.iaload, 1) := by decide +kernel
theorem dX8_seatsFor_36 : decode cX8_seatsFor 36 = .ok (.aload_n 0, 1) := by decide +kernel
theorem dX8_seatsFor_37 : decode cX8_seatsFor 37 = .ok (.getfield 12, 3) := by decide +kernel
theorem dX8_seatsFor_40 : decode cX8_seatsFor 40 = .ok (.getfield 80, 3) := by decide +kernel
theorem dX8_seatsFor_43 : decode cX8_seatsFor 43 = .ok (.iload_n 2, 1) := by decide +kernel
theorem dX8_seatsFor_44 : decode cX8_seatsFor 44 = .ok (.iaload, 1) := by decide +kernel
theorem dX8_seatsFor_45 : decode cX8_seatsFor 45 = .ok (.isub, 1) := by decide +kernel
theorem dX8_seatsFor_46 : decode cX8_seatsFor 46 = .ok (.iload_n 3, 1) := by decide +kernel
theorem dX8_seatsFor_47 : decode cX8_seatsFor 47 = .ok (.iadd, 1) := by decide +kernel
theorem dX8_seatsFor_48 : decode cX8_seatsFor 48 = .ok (.ireturn, 1) := by decide +kernel
theorem dX8_barOf_0 : decode cX8_barOf 0 = .ok (.aload_n 0, 1) := by decide +kernel
theorem dX8_barOf_1 : decode cX8_barOf 1 = .ok (.getfield 28, 3) := by decide +kernel
theorem dX8_barOf_4 : decode cX8_barOf 4 = .ok (.iload_n 1, 1) := by decide +kernel
theorem dX8_barOf_5 : decode cX8_barOf 5 = .ok (.invokevirtual 50, 3) := by decide +kernel
theorem dX8_barOf_8 : decode cX8_barOf 8 = .ok (.ifCond .eq 14, 3) := by decide +kernel
theorem dX8_barOf_11 : decode cX8_barOf 11 = .ok (.aload_n 0, 1) := by decide +kernel
theorem dX8_barOf_12 : decode cX8_barOf 12 = .ok (.getfield 21, 3) := by decide +kernel
theorem dX8_barOf_15 : decode cX8_barOf 15 = .ok (.iload_n 2, 1) := by decide +kernel
theorem dX8_barOf_16 : decode cX8_barOf 16 = .ok (.invokevirtual 68, 3) := by decide +kernel
theorem dX8_barOf_19 : decode cX8_barOf 19 = .ok (.ifCond .ne 5, 3) := by decide +kernel
theorem dX8_barOf_22 : decode cX8_barOf 22 = .ok (.iconst (-1), 1) := by decide +kernel
theorem dX8_barOf_23 : decode cX8_barOf 23 = .ok (.ireturn, 1) := by decide +kernel
theorem dX8_barOf_24 : decode cX8_barOf 24 = .ok (.aload_n 0, 1) := by decide +kernel
theorem dX8_barOf_25 : decode cX8_barOf 25 = .ok (.getfield 21, 3) := by decide +kernel
theorem dX8_barOf_28 : decode cX8_barOf 28 = .ok (.getfield 69, 3) := by decide +kernel
theorem dX8_barOf_31 : decode cX8_barOf 31 = .ok (.iload_n 2, 1) := by decide +kernel
theorem dX8_barOf_32 : decode cX8_barOf 32 = .ok (.iaload, 1) := by decide +kernel
theorem dX8_barOf_33 : decode cX8_barOf 33 = .ok (.istore_n 3, 1) := by decide +kernel
theorem dX8_barOf_34 : decode cX8_barOf 34 = .ok (.aload_n 0, 1) := by decide +kernel
theorem dX8_barOf_35 : decode cX8_barOf 35 = .ok (.getfield 91, 3) := by decide +kernel
theorem dX8_barOf_38 : decode cX8_barOf 38 = .ok (.aload_n 0, 1) := by decide +kernel
theorem dX8_barOf_39 : decode cX8_barOf 39 = .ok (.getfield 21, 3) := by decide +kernel
theorem dX8_barOf_42 : decode cX8_barOf 42 = .ok (.getfield 116, 3) := by decide +kernel
theorem dX8_barOf_45 : decode cX8_barOf 45 = .ok (.iload_n 2, 1) := by decide +kernel
theorem dX8_barOf_46 : decode cX8_barOf 46 = .ok (.iaload, 1) := by decide +kernel
theorem dX8_barOf_47 : decode cX8_barOf 47 = .ok (.if_icmp .lt 19, 3) := by decide +kernel
theorem dX8_barOf_50 : decode cX8_barOf 50 = .ok (.aload_n 0, 1) := by decide +kernel
theorem dX8_barOf_51 : decode cX8_barOf 51 = .ok (.getfield 91, 3) := by decide +kernel
theorem dX8_barOf_54 : decode cX8_barOf 54 = .ok (.aload_n 0, 1) := by decide +kernel
theorem dX8_barOf_55 : decode cX8_barOf 55 = .ok (.getfield 21, 3) := by decide +kernel
theorem dX8_barOf_58 : decode cX8_barOf 58 = .ok (.getfield 88, 3) := by decide +kernel
theorem dX8_barOf_61 : decode cX8_barOf 61 = .ok (.iload_n 2, 1) := by decide +kernel
theorem dX8_barOf_62 : decode cX8_barOf 62 = .ok (.iaload, 1) := by decide +kernel
theorem dX8_barOf_63 : decode cX8_barOf 63 = .ok (.if_icmp .le 5, 3) := by decide +kernel
theorem dX8_barOf_66 : decode cX8_barOf 66 = .ok (.iconst 1, 1) := by decide +kernel
theorem dX8_barOf_67 : decode cX8_barOf 67 = .ok (.ireturn, 1) := by decide +kernel
theorem dX8_barOf_68 : decode cX8_barOf 68 = .ok (.aload_n 0, 1) := by decide +kernel
theorem dX8_barOf_69 : decode cX8_barOf 69 = .ok (.getfield 21, 3) := by decide +kernel
theorem dX8_barOf_72 : decode cX8_barOf 72 = .ok (.getfield 76, 3) := by decide +kernel
theorem dX8_barOf_75 : decode cX8_barOf 75 = .ok (.iload_n 2, 1) := by decide +kernel
theorem dX8_barOf_76 : decode cX8_barOf 76 = .ok (.iaload, 1) := by decide +kernel
theorem dX8_barOf_77 : decode cX8_barOf 77 = .ok (.iconst (-1), 1) := by decide +kernel
theorem dX8_barOf_78 : decode cX8_barOf 78 = .ok (.if_icmp .eq 18, 3) := by decide +kernel
theorem dX8_barOf_81 : decode cX8_barOf 81 = .ok (.aload_n 0, 1) := by decide +kernel
theorem dX8_barOf_82 : decode cX8_barOf 82 = .ok (.getfield 21, 3) := by decide +kernel
theorem dX8_barOf_85 : decode cX8_barOf 85 = .ok (.getfield 76, 3) := by decide +kernel
theorem dX8_barOf_88 : decode cX8_barOf 88 = .ok (.iload_n 2, 1) := by decide +kernel
theorem dX8_barOf_89 : decode cX8_barOf 89 = .ok (.iaload, 1) := by decide +kernel
theorem dX8_barOf_90 : decode cX8_barOf 90 = .ok (.iload_n 1, 1) := by decide +kernel
theorem dX8_barOf_91 : decode cX8_barOf 91 = .ok (.if_icmp .eq 5, 3) := by decide +kernel
theorem dX8_barOf_94 : decode cX8_barOf 94 = .ok (.iconst 2, 1) := by decide +kernel
theorem dX8_barOf_95 : decode cX8_barOf 95 = .ok (.ireturn, 1) := by decide +kernel
theorem dX8_barOf_96 : decode cX8_barOf 96 = .ok (.aload_n 0, 1) := by decide +kernel
theorem dX8_barOf_97 : decode cX8_barOf 97 = .ok (.getfield 28, 3) := by decide +kernel
theorem dX8_barOf_100 : decode cX8_barOf 100 = .ok (.getfield 61, 3) := by decide +kernel
theorem dX8_barOf_103 : decode cX8_barOf 103 = .ok (.iload_n 1, 1) := by decide +kernel
theorem dX8_barOf_104 : decode cX8_barOf 104 = .ok (.iaload, 1) := by decide +kernel
theorem dX8_barOf_105 : decode cX8_barOf 105 = .ok (.aload_n 0, 1) := by decide +kernel
theorem dX8_barOf_106 : decode cX8_barOf 106 = .ok (.getfield 21, 3) := by decide +kernel
theorem dX8_barOf_109 : decode cX8_barOf 109 = .ok (.getfield 119, 3) := by decide +kernel
theorem dX8_barOf_112 : decode cX8_barOf 112 = .ok (.iload_n 2, 1) := by decide +kernel
theorem dX8_barOf_113 : decode cX8_barOf 113 = .ok (.iaload, 1) := by decide +kernel
theorem dX8_barOf_114 : decode cX8_barOf 114 = .ok (.if_icmp .le 5, 3) := by decide +kernel
theorem dX8_barOf_117 : decode cX8_barOf 117 = .ok (.iconst 3, 1) := by decide +kernel
theorem dX8_barOf_118 : decode cX8_barOf 118 = .ok (.ireturn, 1) := by decide +kernel
theorem dX8_barOf_119 : decode cX8_barOf 119 = .ok (.aload_n 0, 1) := by decide +kernel
theorem dX8_barOf_120 : decode cX8_barOf 120 = .ok (.getfield 21, 3) := by decide +kernel
theorem dX8_barOf_123 : decode cX8_barOf 123 = .ok (.getfield 122, 3) := by decide +kernel
theorem dX8_barOf_126 : decode cX8_barOf 126 = .ok (.iload_n 2, 1) := by decide +kernel
theorem dX8_barOf_127 : decode cX8_barOf 127 = .ok (.iaload, 1) := by decide +kernel
theorem dX8_barOf_128 : decode cX8_barOf 128 = .ok (.iconst 1, 1) := by decide +kernel
theorem dX8_barOf_129 : decode cX8_barOf 129 = .ok (.if_icmp .ne 18, 3) := by decide +kernel
theorem dX8_barOf_132 : decode cX8_barOf 132 = .ok (.aload_n 0, 1) := by decide +kernel
theorem dX8_barOf_133 : decode cX8_barOf 133 = .ok (.getfield 28, 3) := by decide +kernel
theorem dX8_barOf_136 : decode cX8_barOf 136 = .ok (.getfield 125, 3) := by decide +kernel
theorem dX8_barOf_139 : decode cX8_barOf 139 = .ok (.iload_n 1, 1) := by decide +kernel
theorem dX8_barOf_140 : decode cX8_barOf 140 = .ok (.iaload, 1) := by decide +kernel
theorem dX8_barOf_141 : decode cX8_barOf 141 = .ok (.iconst 1, 1) := by decide +kernel
theorem dX8_barOf_142 : decode cX8_barOf 142 = .ok (.if_icmp .ne 5, 3) := by decide +kernel
theorem dX8_barOf_145 : decode cX8_barOf 145 = .ok (.iconst 4, 1) := by decide +kernel
theorem dX8_barOf_146 : decode cX8_barOf 146 = .ok (.ireturn, 1) := by decide +kernel
theorem dX8_barOf_147 : decode cX8_barOf 147 = .ok (.aload_n 0, 1) := by decide +kernel
theorem dX8_barOf_148 : decode cX8_barOf 148 = .ok (.getfield 28, 3) := by decide +kernel
theorem dX8_barOf_151 : decode cX8_barOf 151 = .ok (.getfield 83, 3) := by decide +kernel
theorem dX8_barOf_154 : decode cX8_barOf 154 = .ok (.iload_n 1, 1) := by decide +kernel
theorem dX8_barOf_155 : decode cX8_barOf 155 = .ok (.iaload, 1) := by decide +kernel
theorem dX8_barOf_156 : decode cX8_barOf 156 = .ok (.ifCond .le 14, 3) := by decide +kernel
theorem dX8_barOf_159 : decode cX8_barOf 159 = .ok (.aload_n 0, 1) := by decide +kernel
theorem dX8_barOf_160 : decode cX8_barOf 160 = .ok (.iload_n 1, 1) := by decide +kernel
theorem dX8_barOf_161 : decode cX8_barOf 161 = .ok (.iload_n 3, 1) := by decide +kernel
theorem dX8_barOf_162 : decode cX8_barOf 162 = .ok (.invokevirtual 128, 3) := by decide +kernel
theorem dX8_barOf_165 : decode cX8_barOf 165 = .ok (.ifCond .ne 5, 3) := by decide +kernel
theorem dX8_barOf_168 : decode cX8_barOf 168 = .ok (.iconst 5, 1) := by decide +kernel
theorem dX8_barOf_169 : decode cX8_barOf 169 = .ok (.ireturn, 1) := by decide +kernel
theorem dX8_barOf_170 : decode cX8_barOf 170 = .ok (.aload_n 0, 1) := by decide +kernel
theorem dX8_barOf_171 : decode cX8_barOf 171 = .ok (.getfield 21, 3) := by decide +kernel
theorem dX8_barOf_174 : decode cX8_barOf 174 = .ok (.getfield 131, 3) := by decide +kernel
theorem dX8_barOf_177 : decode cX8_barOf 177 = .ok (.iload_n 2, 1) := by decide +kernel
theorem dX8_barOf_178 : decode cX8_barOf 178 = .ok (.iaload, 1) := by decide +kernel
theorem dX8_barOf_179 : decode cX8_barOf 179 = .ok (.iconst 4, 1) := by decide +kernel
theorem dX8_barOf_180 : decode cX8_barOf 180 = .ok (.if_icmp .eq 27, 3) := by decide +kernel
theorem dX8_barOf_183 : decode cX8_barOf 183 = .ok (.aload_n 0, 1) := by decide +kernel
theorem dX8_barOf_184 : decode cX8_barOf 184 = .ok (.getfield 21, 3) := by decide +kernel
theorem dX8_barOf_187 : decode cX8_barOf 187 = .ok (.getfield 131, 3) := by decide +kernel
theorem dX8_barOf_190 : decode cX8_barOf 190 = .ok (.iload_n 2, 1) := by decide +kernel
theorem dX8_barOf_191 : decode cX8_barOf 191 = .ok (.iaload, 1) := by decide +kernel
theorem dX8_barOf_192 : decode cX8_barOf 192 = .ok (.aload_n 0, 1) := by decide +kernel
theorem dX8_barOf_193 : decode cX8_barOf 193 = .ok (.getfield 28, 3) := by decide +kernel
theorem dX8_barOf_196 : decode cX8_barOf 196 = .ok (.getfield 134, 3) := by decide +kernel
theorem dX8_barOf_199 : decode cX8_barOf 199 = .ok (.iload_n 1, 1) := by decide +kernel
theorem dX8_barOf_200 : decode cX8_barOf 200 = .ok (.iaload, 1) := by decide +kernel
theorem dX8_barOf_201 : decode cX8_barOf 201 = .ok (.if_icmp .eq 6, 3) := by decide +kernel
theorem dX8_barOf_204 : decode cX8_barOf 204 = .ok (.bipush 6, 2) := by decide +kernel
theorem dX8_barOf_206 : decode cX8_barOf 206 = .ok (.ireturn, 1) := by decide +kernel
theorem dX8_barOf_207 : decode cX8_barOf 207 = .ok (.aload_n 0, 1) := by decide +kernel
theorem dX8_barOf_208 : decode cX8_barOf 208 = .ok (.getfield 12, 3) := by decide +kernel
theorem dX8_barOf_211 : decode cX8_barOf 211 = .ok (.getfield 137, 3) := by decide +kernel
theorem dX8_barOf_214 : decode cX8_barOf 214 = .ok (.iload_n 3, 1) := by decide +kernel
theorem dX8_barOf_215 : decode cX8_barOf 215 = .ok (.baload, 1) := by decide +kernel
theorem dX8_barOf_216 : decode cX8_barOf 216 = .ok (.ifCond .eq 6, 3) := by decide +kernel
theorem dX8_barOf_219 : decode cX8_barOf 219 = .ok (.bipush 7, 2) := by decide +kernel
theorem dX8_barOf_221 : decode cX8_barOf 221 = .ok (.ireturn, 1) := by decide +kernel
theorem dX8_barOf_222 : decode cX8_barOf 222 = .ok (.aload_n 0, 1) := by decide +kernel
theorem dX8_barOf_223 : decode cX8_barOf 223 = .ok (.iload_n 1, 1) := by decide +kernel
theorem dX8_barOf_224 : decode cX8_barOf 224 = .ok (.iload_n 3, 1) := by decide +kernel
theorem dX8_barOf_225 : decode cX8_barOf 225 = .ok (.invokevirtual 141, 3) := by decide +kernel
theorem dX8_barOf_228 : decode cX8_barOf 228 = .ok (.ifCond .eq 6, 3) := by decide +kernel
