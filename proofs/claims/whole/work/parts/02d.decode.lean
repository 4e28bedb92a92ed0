/-! decode rows, 4 of 4 (printed) -/
theorem dX12_orders_0 : decode cX12_orders 0 = .ok (.aload_n 0, 1) := by decide +kernel
theorem dX12_orders_1 : decode cX12_orders 1 = .ok (.iconst 0, 1) := by decide +kernel
theorem dX12_orders_2 : decode cX12_orders 2 = .ok (.putfield 512, 3) := by decide +kernel
theorem dX12_orders_5 : decode cX12_orders 5 = .ok (.iconst 0, 1) := by decide +kernel
theorem dX12_orders_6 : decode cX12_orders 6 = .ok (.istore_n 1, 1) := by decide +kernel
theorem dX12_orders_7 : decode cX12_orders 7 = .ok (.iload_n 1, 1) := by decide +kernel
theorem dX12_orders_8 : decode cX12_orders 8 = .ok (.aload_n 0, 1) := by decide +kernel
theorem dX12_orders_9 : decode cX12_orders 9 = .ok (.getfield 254, 3) := by decide +kernel
theorem dX12_orders_12 : decode cX12_orders 12 = .ok (.if_icmp .ge 101, 3) := by decide +kernel
theorem dX12_orders_15 : decode cX12_orders 15 = .ok (.aload_n 0, 1) := by decide +kernel
theorem dX12_orders_16 : decode cX12_orders 16 = .ok (.getfield 66, 3) := by decide +kernel
theorem dX12_orders_19 : decode cX12_orders 19 = .ok (.iload_n 1, 1) := by decide +kernel
theorem dX12_orders_20 : decode cX12_orders 20 = .ok (.iaload, 1) := by decide +kernel
theorem dX12_orders_21 : decode cX12_orders 21 = .ok (.ifCond .eq 6, 3) := by decide +kernel
theorem dX12_orders_24 : decode cX12_orders 24 = .ok (.goto 83, 3) := by decide +kernel
theorem dX12_orders_27 : decode cX12_orders 27 = .ok (.aload_n 0, 1) := by decide +kernel
theorem dX12_orders_28 : decode cX12_orders 28 = .ok (.getfield 197, 3) := by decide +kernel
theorem dX12_orders_31 : decode cX12_orders 31 = .ok (.iload_n 1, 1) := by decide +kernel
theorem dX12_orders_32 : decode cX12_orders 32 = .ok (.aload_n 0, 1) := by decide +kernel
theorem dX12_orders_33 : decode cX12_orders 33 = .ok (.iload_n 1, 1) := by decide +kernel
theorem dX12_orders_34 : decode cX12_orders 34 = .ok (.iconst 0, 1) := by decide +kernel
theorem dX12_orders_35 : decode cX12_orders 35 = .ok (.invokevirtual 491, 3) := by decide +kernel
theorem dX12_orders_38 : decode cX12_orders 38 = .ok (.iastore, 1) := by decide +kernel
theorem dX12_orders_39 : decode cX12_orders 39 = .ok (.aload_n 0, 1) := by decide +kernel
theorem dX12_orders_40 : decode cX12_orders 40 = .ok (.getfield 512, 3) := by decide +kernel
theorem dX12_orders_43 : decode cX12_orders 43 = .ok (.istore_n 2, 1) := by decide +kernel
theorem dX12_orders_44 : decode cX12_orders 44 = .ok (.iload_n 2, 1) := by decide +kernel
theorem dX12_orders_45 : decode cX12_orders 45 = .ok (.ifCond .le 45, 3) := by decide +kernel
theorem dX12_orders_48 : decode cX12_orders 48 = .ok (.aload_n 0, 1) := by decide +kernel
theorem dX12_orders_49 : decode cX12_orders 49 = .ok (.getfield 197, 3) := by decide +kernel
theorem dX12_orders_52 : decode cX12_orders 52 = .ok (.aload_n 0, 1) := by decide +kernel
theorem dX12_orders_53 : decode cX12_orders 53 = .ok (.getfield 194, 3) := by decide +kernel
theorem dX12_orders_56 : decode cX12_orders 56 = .ok (.iload_n 2, 1) := by decide +kernel
theorem dX12_orders_57 : decode cX12_orders 57 = .ok (.iconst 1, 1) := by decide +kernel
theorem dX12_orders_58 : decode cX12_orders 58 = .ok (.isub, 1) := by decide +kernel
theorem dX12_orders_59 : decode cX12_orders 59 = .ok (.iaload, 1) := by decide +kernel
theorem dX12_orders_60 : decode cX12_orders 60 = .ok (.iaload, 1) := by decide +kernel
theorem dX12_orders_61 : decode cX12_orders 61 = .ok (.aload_n 0, 1) := by decide +kernel
theorem dX12_orders_62 : decode cX12_orders 62 = .ok (.getfield 197, 3) := by decide +kernel
theorem dX12_orders_65 : decode cX12_orders 65 = .ok (.iload_n 1, 1) := by decide +kernel
theorem dX12_orders_66 : decode cX12_orders 66 = .ok (.iaload, 1) := by decide +kernel
theorem dX12_orders_67 : decode cX12_orders 67 = .ok (.if_icmp .ge 23, 3) := by decide +kernel
theorem dX12_orders_70 : decode cX12_orders 70 = .ok (.aload_n 0, 1) := by decide +kernel
theorem dX12_orders_71 : decode cX12_orders 71 = .ok (.getfield 194, 3) := by decide +kernel
theorem dX12_orders_74 : decode cX12_orders 74 = .ok (.iload_n 2, 1) := by decide +kernel
theorem dX12_orders_75 : decode cX12_orders 75 = .ok (.aload_n 0, 1) := by decide +kernel
theorem dX12_orders_76 : decode cX12_orders 76 = .ok (.getfield 194, 3) := by decide +kernel
theorem dX12_orders_79 : decode cX12_orders 79 = .ok (.iload_n 2, 1) := by decide +kernel
theorem dX12_orders_80 : decode cX12_orders 80 = .ok (.iconst 1, 1) := by decide +kernel
theorem dX12_orders_81 : decode cX12_orders 81 = .ok (.isub, 1) := by decide +kernel
theorem dX12_orders_82 : decode cX12_orders 82 = .ok (.iaload, 1) := by decide +kernel
theorem dX12_orders_83 : decode cX12_orders 83 = .ok (.iastore, 1) := by decide +kernel
theorem dX12_orders_84 : decode cX12_orders 84 = .ok (.iinc 2 (-1), 3) := by decide +kernel
theorem dX12_orders_87 : decode cX12_orders 87 = .ok (.goto (-43), 3) := by decide +kernel
theorem dX12_orders_90 : decode cX12_orders 90 = .ok (.aload_n 0, 1) := by decide +kernel
theorem dX12_orders_91 : decode cX12_orders 91 = .ok (.getfield 194, 3) := by decide +kernel
theorem dX12_orders_94 : decode cX12_orders 94 = .ok (.iload_n 2, 1) := by decide +kernel
theorem dX12_orders_95 : decode cX12_orders 95 = .ok (.iload_n 1, 1) := by decide +kernel
theorem dX12_orders_96 : decode cX12_orders 96 = .ok (.iastore, 1) := by decide +kernel
theorem dX12_orders_97 : decode cX12_orders 97 = .ok (.aload_n 0, 1) := by decide +kernel
theorem dX12_orders_98 : decode cX12_orders 98 = .ok (.dup, 1) := by decide +kernel
theorem dX12_orders_99 : decode cX12_orders 99 = .ok (.getfield 512, 3) := by decide +kernel
theorem dX12_orders_102 : decode cX12_orders 102 = .ok (.iconst 1, 1) := by decide +kernel
theorem dX12_orders_103 : decode cX12_orders 103 = .ok (.iadd, 1) := by decide +kernel
theorem dX12_orders_104 : decode cX12_orders 104 = .ok (.putfield 512, 3) := by decide +kernel
theorem dX12_orders_107 : decode cX12_orders 107 = .ok (.iinc 1 1, 3) := by decide +kernel
theorem dX12_orders_110 : decode cX12_orders 110 = .ok (.goto (-103), 3) := by decide +kernel
theorem dX12_orders_113 : decode cX12_orders 113 = .ok (.return_, 1) := by decide +kernel
theorem dX12_homeFor_0 : decode cX12_homeFor 0 = .ok (.iconst (-1), 1) := by decide +kernel
theorem dX12_homeFor_1 : decode cX12_homeFor 1 = .ok (.istore_n 2, 1) := by decide +kernel
theorem dX12_homeFor_2 : decode cX12_homeFor 2 = .ok (.iconst 0, 1) := by decide +kernel
theorem dX12_homeFor_3 : decode cX12_homeFor 3 = .ok (.istore_n 3, 1) := by decide +kernel
theorem dX12_homeFor_4 : decode cX12_homeFor 4 = .ok (.iconst 0, 1) := by decide +kernel
theorem dX12_homeFor_5 : decode cX12_homeFor 5 = .ok (.istore 4, 2) := by decide +kernel
theorem dX12_homeFor_7 : decode cX12_homeFor 7 = .ok (.iload 4, 2) := by decide +kernel
theorem dX12_homeFor_9 : decode cX12_homeFor 9 = .ok (.aload_n 0, 1) := by decide +kernel
theorem dX12_homeFor_10 : decode cX12_homeFor 10 = .ok (.getfield 251, 3) := by decide +kernel
theorem dX12_homeFor_13 : decode cX12_homeFor 13 = .ok (.if_icmp .ge 89, 3) := by decide +kernel
theorem dX12_homeFor_16 : decode cX12_homeFor 16 = .ok (.aload_n 0, 1) := by decide +kernel
theorem dX12_homeFor_17 : decode cX12_homeFor 17 = .ok (.iload_n 1, 1) := by decide +kernel
theorem dX12_homeFor_18 : decode cX12_homeFor 18 = .ok (.iload 4, 2) := by decide +kernel
theorem dX12_homeFor_20 : decode cX12_homeFor 20 = .ok (.invokevirtual 509, 3) := by decide +kernel
theorem dX12_homeFor_23 : decode cX12_homeFor 23 = .ok (.ifCond .eq 6, 3) := by decide +kernel
theorem dX12_homeFor_26 : decode cX12_homeFor 26 = .ok (.goto 70, 3) := by decide +kernel
theorem dX12_homeFor_29 : decode cX12_homeFor 29 = .ok (.aload_n 0, 1) := by decide +kernel
theorem dX12_homeFor_30 : decode cX12_homeFor 30 = .ok (.getfield 30, 3) := by decide +kernel
theorem dX12_homeFor_33 : decode cX12_homeFor 33 = .ok (.iload 4, 2) := by decide +kernel
theorem dX12_homeFor_35 : decode cX12_homeFor 35 = .ok (.iaload, 1) := by decide +kernel
theorem dX12_homeFor_36 : decode cX12_homeFor 36 = .ok (.istore 5, 2) := by decide +kernel
theorem dX12_homeFor_38 : decode cX12_homeFor 38 = .ok (.sipush 1000, 3) := by decide +kernel
theorem dX12_homeFor_41 : decode cX12_homeFor 41 = .ok (.aload_n 0, 1) := by decide +kernel
theorem dX12_homeFor_42 : decode cX12_homeFor 42 = .ok (.iload_n 1, 1) := by decide +kernel
theorem dX12_homeFor_43 : decode cX12_homeFor 43 = .ok (.iload 5, 2) := by decide +kernel
theorem dX12_homeFor_45 : decode cX12_homeFor 45 = .ok (.invokevirtual 470, 3) := by decide +kernel
theorem dX12_homeFor_48 : decode cX12_homeFor 48 = .ok (.imul, 1) := by decide +kernel
theorem dX12_homeFor_49 : decode cX12_homeFor 49 = .ok (.aload_n 0, 1) := by decide +kernel
theorem dX12_homeFor_50 : decode cX12_homeFor 50 = .ok (.getfield 78, 3) := by decide +kernel
theorem dX12_homeFor_53 : decode cX12_homeFor 53 = .ok (.iload_n 1, 1) := by decide +kernel
theorem dX12_homeFor_54 : decode cX12_homeFor 54 = .ok (.iaload, 1) := by decide +kernel
theorem dX12_homeFor_55 : decode cX12_homeFor 55 = .ok (.iload 5, 2) := by decide +kernel
theorem dX12_homeFor_57 : decode cX12_homeFor 57 = .ok (.if_icmp .ne 8, 3) := by decide +kernel
theorem dX12_homeFor_60 : decode cX12_homeFor 60 = .ok (.bipush 100, 2) := by decide +kernel
theorem dX12_homeFor_62 : decode cX12_homeFor 62 = .ok (.goto 4, 3) := by decide +kernel
theorem dX12_homeFor_65 : decode cX12_homeFor 65 = .ok (.iconst 0, 1) := by decide +kernel
theorem dX12_homeFor_66 : decode cX12_homeFor 66 = .ok (.iadd, 1) := by decide +kernel
theorem dX12_homeFor_67 : decode cX12_homeFor 67 = .ok (.aload_n 0, 1) := by decide +kernel
theorem dX12_homeFor_68 : decode cX12_homeFor 68 = .ok (.iload 5, 2) := by decide +kernel
theorem dX12_homeFor_70 : decode cX12_homeFor 70 = .ok (.invokevirtual 494, 3) := by decide +kernel
theorem dX12_homeFor_73 : decode cX12_homeFor 73 = .ok (.iadd, 1) := by decide +kernel
theorem dX12_homeFor_74 : decode cX12_homeFor 74 = .ok (.istore 6, 2) := by decide +kernel
theorem dX12_homeFor_76 : decode cX12_homeFor 76 = .ok (.iload_n 2, 1) := by decide +kernel
theorem dX12_homeFor_77 : decode cX12_homeFor 77 = .ok (.iconst (-1), 1) := by decide +kernel
theorem dX12_homeFor_78 : decode cX12_homeFor 78 = .ok (.if_icmp .eq 12, 3) := by decide +kernel
theorem dX12_homeFor_81 : decode cX12_homeFor 81 = .ok (.iload 6, 2) := by decide +kernel
theorem dX12_homeFor_83 : decode cX12_homeFor 83 = .ok (.iload_n 3, 1) := by decide +kernel
theorem dX12_homeFor_84 : decode cX12_homeFor 84 = .ok (.if_icmp .gt 6, 3) := by decide +kernel
theorem dX12_homeFor_87 : decode cX12_homeFor 87 = .ok (.goto 9, 3) := by decide +kernel
theorem dX12_homeFor_90 : decode cX12_homeFor 90 = .ok (.iload 4, 2) := by decide +kernel
theorem dX12_homeFor_92 : decode cX12_homeFor 92 = .ok (.istore_n 2, 1) := by decide +kernel
theorem dX12_homeFor_93 : decode cX12_homeFor 93 = .ok (.iload 6, 2) := by decide +kernel
theorem dX12_homeFor_95 : decode cX12_homeFor 95 = .ok (.istore_n 3, 1) := by decide +kernel
theorem dX12_homeFor_96 : decode cX12_homeFor 96 = .ok (.iinc 4 1, 3) := by decide +kernel
theorem dX12_homeFor_99 : decode cX12_homeFor 99 = .ok (.goto (-92), 3) := by decide +kernel
theorem dX12_homeFor_102 : decode cX12_homeFor 102 = .ok (.iload_n 2, 1) := by decide +kernel
theorem dX12_homeFor_103 : decode cX12_homeFor 103 = .ok (.ireturn, 1) := by decide +kernel
theorem dX12_houses_0 : decode cX12_houses 0 = .ok (.aload_n 0, 1) := by decide +kernel
theorem dX12_houses_1 : decode cX12_houses 1 = .ok (.getfield 66, 3) := by decide +kernel
theorem dX12_houses_4 : decode cX12_houses 4 = .ok (.iload_n 1, 1) := by decide +kernel
theorem dX12_houses_5 : decode cX12_houses 5 = .ok (.iload_n 2, 1) := by decide +kernel
theorem dX12_houses_6 : decode cX12_houses 6 = .ok (.iconst (-1), 1) := by decide +kernel
theorem dX12_houses_7 : decode cX12_houses 7 = .ok (.if_icmp .ne 7, 3) := by decide +kernel
theorem dX12_houses_10 : decode cX12_houses 10 = .ok (.iconst 0, 1) := by decide +kernel
theorem dX12_houses_11 : decode cX12_houses 11 = .ok (.goto 4, 3) := by decide +kernel
theorem dX12_houses_14 : decode cX12_houses 14 = .ok (.iconst 1, 1) := by decide +kernel
theorem dX12_houses_15 : decode cX12_houses 15 = .ok (.iastore, 1) := by decide +kernel
theorem dX12_houses_16 : decode cX12_houses 16 = .ok (.aload_n 0, 1) := by decide +kernel
theorem dX12_houses_17 : decode cX12_houses 17 = .ok (.getfield 69, 3) := by decide +kernel
theorem dX12_houses_20 : decode cX12_houses 20 = .ok (.iload_n 1, 1) := by decide +kernel
theorem dX12_houses_21 : decode cX12_houses 21 = .ok (.iload_n 2, 1) := by decide +kernel
theorem dX12_houses_22 : decode cX12_houses 22 = .ok (.iastore, 1) := by decide +kernel
theorem dX12_houses_23 : decode cX12_houses 23 = .ok (.return_, 1) := by decide +kernel
theorem dX12_places_0 : decode cX12_places 0 = .ok (.aload_n 0, 1) := by decide +kernel
theorem dX12_places_1 : decode cX12_places 1 = .ok (.invokevirtual 515, 3) := by decide +kernel
theorem dX12_places_4 : decode cX12_places 4 = .ok (.iconst 0, 1) := by decide +kernel
theorem dX12_places_5 : decode cX12_places 5 = .ok (.istore_n 2, 1) := by decide +kernel
theorem dX12_places_6 : decode cX12_places 6 = .ok (.iconst 0, 1) := by decide +kernel
theorem dX12_places_7 : decode cX12_places 7 = .ok (.istore_n 3, 1) := by decide +kernel
theorem dX12_places_8 : decode cX12_places 8 = .ok (.iload_n 3, 1) := by decide +kernel
theorem dX12_places_9 : decode cX12_places 9 = .ok (.aload_n 0, 1) := by decide +kernel
theorem dX12_places_10 : decode cX12_places 10 = .ok (.getfield 512, 3) := by decide +kernel
theorem dX12_places_13 : decode cX12_places 13 = .ok (.if_icmp .ge 107, 3) := by decide +kernel
theorem dX12_places_16 : decode cX12_places 16 = .ok (.aload_n 0, 1) := by decide +kernel
theorem dX12_places_17 : decode cX12_places 17 = .ok (.getfield 194, 3) := by decide +kernel
theorem dX12_places_20 : decode cX12_places 20 = .ok (.iload_n 3, 1) := by decide +kernel
theorem dX12_places_21 : decode cX12_places 21 = .ok (.iaload, 1) := by decide +kernel
theorem dX12_places_22 : decode cX12_places 22 = .ok (.istore 4, 2) := by decide +kernel
theorem dX12_places_24 : decode cX12_places 24 = .ok (.aload_n 0, 1) := by decide +kernel
theorem dX12_places_25 : decode cX12_places 25 = .ok (.iload 4, 2) := by decide +kernel
theorem dX12_places_27 : decode cX12_places 27 = .ok (.invokevirtual 518, 3) := by decide +kernel
theorem dX12_places_30 : decode cX12_places 30 = .ok (.istore 5, 2) := by decide +kernel
theorem dX12_places_32 : decode cX12_places 32 = .ok (.iload 5, 2) := by decide +kernel
theorem dX12_places_34 : decode cX12_places 34 = .ok (.iconst (-1), 1) := by decide +kernel
theorem dX12_places_35 : decode cX12_places 35 = .ok (.if_icmp .ne 6, 3) := by decide +kernel
theorem dX12_places_38 : decode cX12_places 38 = .ok (.goto 76, 3) := by decide +kernel
theorem dX12_places_41 : decode cX12_places 41 = .ok (.iconst 0, 1) := by decide +kernel
theorem dX12_places_42 : decode cX12_places 42 = .ok (.istore 6, 2) := by decide +kernel
theorem dX12_places_44 : decode cX12_places 44 = .ok (.iload 6, 2) := by decide +kernel
theorem dX12_places_46 : decode cX12_places 46 = .ok (.iload_n 3, 1) := by decide +kernel
theorem dX12_places_47 : decode cX12_places 47 = .ok (.if_icmp .ge 56, 3) := by decide +kernel
theorem dX12_places_50 : decode cX12_places 50 = .ok (.iload_n 1, 1) := by decide +kernel
theorem dX12_places_51 : decode cX12_places 51 = .ok (.ifCond .eq 52, 3) := by decide +kernel
theorem dX12_places_54 : decode cX12_places 54 = .ok (.aload_n 0, 1) := by decide +kernel
theorem dX12_places_55 : decode cX12_places 55 = .ok (.getfield 66, 3) := by decide +kernel
theorem dX12_places_58 : decode cX12_places 58 = .ok (.aload_n 0, 1) := by decide +kernel
theorem dX12_places_59 : decode cX12_places 59 = .ok (.getfield 194, 3) := by decide +kernel
theorem dX12_places_62 : decode cX12_places 62 = .ok (.iload 6, 2) := by decide +kernel
theorem dX12_places_64 : decode cX12_places 64 = .ok (.iaload, 1) := by decide +kernel
theorem dX12_places_65 : decode cX12_places 65 = .ok (.iaload, 1) := by decide +kernel
theorem dX12_places_66 : decode cX12_places 66 = .ok (.ifCond .ne 31, 3) := by decide +kernel
theorem dX12_places_69 : decode cX12_places 69 = .ok (.aload_n 0, 1) := by decide +kernel
theorem dX12_places_70 : decode cX12_places 70 = .ok (.getfield 200, 3) := by decide +kernel
theorem dX12_places_73 : decode cX12_places 73 = .ok (.aload_n 0, 1) := by decide +kernel
theorem dX12_places_74 : decode cX12_places 74 = .ok (.getfield 194, 3) := by decide +kernel
theorem dX12_places_77 : decode cX12_places 77 = .ok (.iload 6, 2) := by decide +kernel
theorem dX12_places_79 : decode cX12_places 79 = .ok (.iaload, 1) := by decide +kernel
theorem dX12_places_80 : decode cX12_places 80 = .ok (.aaload, 1) := by decide +kernel
theorem dX12_places_81 : decode cX12_places 81 = .ok (.iload 4, 2) := by decide +kernel
theorem dX12_places_83 : decode cX12_places 83 = .ok (.aload_n 0, 1) := by decide +kernel
theorem dX12_places_84 : decode cX12_places 84 = .ok (.aload_n 0, 1) := by decide +kernel
theorem dX12_places_85 : decode cX12_places 85 = .ok (.getfield 194, 3) := by decide +kernel
theorem dX12_places_88 : decode cX12_places 88 = .ok (.iload 6, 2) := by decide +kernel
theorem dX12_places_90 : decode cX12_places 90 = .ok (.iaload, 1) := by decide +kernel
theorem dX12_places_91 : decode cX12_places 91 = .ok (.iload 5, 2) := by decide +kernel
theorem dX12_places_93 : decode cX12_places 93 = .ok (.invokevirtual 509, 3) := by decide +kernel
theorem dX12_places_96 : decode cX12_places 96 = .ok (.iastore, 1) := by decide +kernel
theorem dX12_places_97 : decode cX12_places 97 = .ok (.iinc 6 1, 3) := by decide +kernel
theorem dX12_places_100 : decode cX12_places 100 = .ok (.goto (-56), 3) := by decide +kernel
theorem dX12_places_103 : decode cX12_places 103 = .ok (.aload_n 0, 1) := by decide +kernel
theorem dX12_places_104 : decode cX12_places 104 = .ok (.iload 4, 2) := by decide +kernel
theorem dX12_places_106 : decode cX12_places 106 = .ok (.iload 5, 2) := by decide +kernel
theorem dX12_places_108 : decode cX12_places 108 = .ok (.invokevirtual 521, 3) := by decide +kernel
theorem dX12_places_111 : decode cX12_places 111 = .ok (.iinc 2 1, 3) := by decide +kernel
theorem dX12_places_114 : decode cX12_places 114 = .ok (.iinc 3 1, 3) := by decide +kernel
theorem dX12_places_117 : decode cX12_places 117 = .ok (.goto (-109), 3) := by decide +kernel
theorem dX12_places_120 : decode cX12_places 120 = .ok (.iload_n 2, 1) := by decide +kernel
theorem dX12_places_121 : decode cX12_places 121 = .ok (.ireturn, 1) := by decide +kernel
theorem dX12_place_0 : decode cX12_place 0 = .ok (.iconst 0, 1) := by decide +kernel
theorem dX12_place_1 : decode cX12_place 1 = .ok (.istore_n 1, 1) := by decide +kernel
theorem dX12_place_2 : decode cX12_place 2 = .ok (.iload_n 1, 1) := by decide +kernel
theorem dX12_place_3 : decode cX12_place 3 = .ok (.bipush 24, 2) := by decide +kernel
theorem dX12_place_5 : decode cX12_place 5 = .ok (.if_icmp .ge 32, 3) := by decide +kernel
theorem dX12_place_8 : decode cX12_place 8 = .ok (.iconst 0, 1) := by decide +kernel
theorem dX12_place_9 : decode cX12_place 9 = .ok (.istore_n 2, 1) := by decide +kernel
theorem dX12_place_10 : decode cX12_place 10 = .ok (.iload_n 2, 1) := by decide +kernel
theorem dX12_place_11 : decode cX12_place 11 = .ok (.bipush 24, 2) := by decide +kernel
theorem dX12_place_13 : decode cX12_place 13 = .ok (.if_icmp .ge 18, 3) := by decide +kernel
theorem dX12_place_16 : decode cX12_place 16 = .ok (.aload_n 0, 1) := by decide +kernel
theorem dX12_place_17 : decode cX12_place 17 = .ok (.getfield 200, 3) := by decide +kernel
theorem dX12_place_20 : decode cX12_place 20 = .ok (.iload_n 1, 1) := by decide +kernel
theorem dX12_place_21 : decode cX12_place 21 = .ok (.aaload, 1) := by decide +kernel
theorem dX12_place_22 : decode cX12_place 22 = .ok (.iload_n 2, 1) := by decide +kernel
theorem dX12_place_23 : decode cX12_place 23 = .ok (.iconst (-1), 1) := by decide +kernel
theorem dX12_place_24 : decode cX12_place 24 = .ok (.iastore, 1) := by decide +kernel
theorem dX12_place_25 : decode cX12_place 25 = .ok (.iinc 2 1, 3) := by decide +kernel
theorem dX12_place_28 : decode cX12_place 28 = .ok (.goto (-18), 3) := by decide +kernel
theorem dX12_place_31 : decode cX12_place 31 = .ok (.iinc 1 1, 3) := by decide +kernel
theorem dX12_place_34 : decode cX12_place 34 = .ok (.goto (-32), 3) := by decide +kernel
theorem dX12_place_37 : decode cX12_place 37 = .ok (.aload_n 0, 1) := by decide +kernel
theorem dX12_place_38 : decode cX12_place 38 = .ok (.iconst 1, 1) := by decide +kernel
theorem dX12_place_39 : decode cX12_place 39 = .ok (.putfield 524, 3) := by decide +kernel
theorem dX12_place_42 : decode cX12_place 42 = .ok (.aload_n 0, 1) := by decide +kernel
theorem dX12_place_43 : decode cX12_place 43 = .ok (.iconst 1, 1) := by decide +kernel
theorem dX12_place_44 : decode cX12_place 44 = .ok (.invokevirtual 527, 3) := by decide +kernel
theorem dX12_place_47 : decode cX12_place 47 = .ok (.ireturn, 1) := by decide +kernel
theorem dX12_passed_0 : decode cX12_passed 0 = .ok (.aload_n 0, 1) := by decide +kernel
theorem dX12_passed_1 : decode cX12_passed 1 = .ok (.iload_n 1, 1) := by decide +kernel
theorem dX12_passed_2 : decode cX12_passed 2 = .ok (.invokevirtual 282, 3) := by decide +kernel
theorem dX12_passed_5 : decode cX12_passed 5 = .ok (.ifCond .eq 29, 3) := by decide +kernel
theorem dX12_passed_8 : decode cX12_passed 8 = .ok (.aload_n 0, 1) := by decide +kernel
theorem dX12_passed_9 : decode cX12_passed 9 = .ok (.iload_n 2, 1) := by decide +kernel
theorem dX12_passed_10 : decode cX12_passed 10 = .ok (.invokevirtual 282, 3) := by decide +kernel
theorem dX12_passed_13 : decode cX12_passed 13 = .ok (.ifCond .eq 21, 3) := by decide +kernel
theorem dX12_passed_16 : decode cX12_passed 16 = .ok (.aload_n 0, 1) := by decide +kernel
theorem dX12_passed_17 : decode cX12_passed 17 = .ok (.getfield 524, 3) := by decide +kernel
theorem dX12_passed_20 : decode cX12_passed 20 = .ok (.ifCond .eq 14, 3) := by decide +kernel
theorem dX12_passed_23 : decode cX12_passed 23 = .ok (.aload_n 0, 1) := by decide +kernel
theorem dX12_passed_24 : decode cX12_passed 24 = .ok (.getfield 200, 3) := by decide +kernel
theorem dX12_passed_27 : decode cX12_passed 27 = .ok (.iload_n 1, 1) := by decide +kernel
theorem dX12_passed_28 : decode cX12_passed 28 = .ok (.aaload, 1) := by decide +kernel
theorem dX12_passed_29 : decode cX12_passed 29 = .ok (.iload_n 2, 1) := by decide +kernel
theorem dX12_passed_30 : decode cX12_passed 30 = .ok (.iaload, 1) := by decide +kernel
theorem dX12_passed_31 : decode cX12_passed 31 = .ok (.goto 4, 3) := by decide +kernel
theorem dX12_passed_34 : decode cX12_passed 34 = .ok (.iconst (-1), 1) := by decide +kernel
theorem dX12_passed_35 : decode cX12_passed 35 = .ok (.ireturn, 1) := by decide +kernel
theorem dX12_move_0 : decode cX12_move 0 = .ok (.aload_n 0, 1) := by decide +kernel
theorem dX12_move_1 : decode cX12_move 1 = .ok (.iload_n 1, 1) := by decide +kernel
theorem dX12_move_2 : decode cX12_move 2 = .ok (.invokevirtual 282, 3) := by decide +kernel
theorem dX12_move_5 : decode cX12_move 5 = .ok (.ifCond .eq 43, 3) := by decide +kernel
theorem dX12_move_8 : decode cX12_move 8 = .ok (.aload_n 0, 1) := by decide +kernel
theorem dX12_move_9 : decode cX12_move 9 = .ok (.iload_n 1, 1) := by decide +kernel
theorem dX12_move_10 : decode cX12_move 10 = .ok (.invokevirtual 287, 3) := by decide +kernel
theorem dX12_move_13 : decode cX12_move 13 = .ok (.ifCond .eq 35, 3) := by decide +kernel
theorem dX12_move_16 : decode cX12_move 16 = .ok (.iload_n 2, 1) := by decide +kernel
theorem dX12_move_17 : decode cX12_move 17 = .ok (.iconst (-1), 1) := by decide +kernel
theorem dX12_move_18 : decode cX12_move 18 = .ok (.if_icmp .eq 32, 3) := by decide +kernel
theorem dX12_move_21 : decode cX12_move 21 = .ok (.aload_n 0, 1) := by decide +kernel
theorem dX12_move_22 : decode cX12_move 22 = .ok (.iload_n 2, 1) := by decide +kernel
theorem dX12_move_23 : decode cX12_move 23 = .ok (.invokevirtual 506, 3) := by decide +kernel
theorem dX12_move_26 : decode cX12_move 26 = .ok (.ifCond .eq 22, 3) := by decide +kernel
theorem dX12_move_29 : decode cX12_move 29 = .ok (.iload_n 2, 1) := by decide +kernel
theorem dX12_move_30 : decode cX12_move 30 = .ok (.aload_n 0, 1) := by decide +kernel
theorem dX12_move_31 : decode cX12_move 31 = .ok (.getfield 69, 3) := by decide +kernel
theorem dX12_move_34 : decode cX12_move 34 = .ok (.iload_n 1, 1) := by decide +kernel
theorem dX12_move_35 : decode cX12_move 35 = .ok (.iaload, 1) := by decide +kernel
theorem dX12_move_36 : decode cX12_move 36 = .ok (.if_icmp .eq 12, 3) := by decide +kernel
theorem dX12_move_39 : decode cX12_move 39 = .ok (.aload_n 0, 1) := by decide +kernel
theorem dX12_move_40 : decode cX12_move 40 = .ok (.iload_n 1, 1) := by decide +kernel
theorem dX12_move_41 : decode cX12_move 41 = .ok (.iload_n 2, 1) := by decide +kernel
theorem dX12_move_42 : decode cX12_move 42 = .ok (.invokevirtual 509, 3) := by decide +kernel
theorem dX12_move_45 : decode cX12_move 45 = .ok (.ifCond .eq 5, 3) := by decide +kernel
theorem dX12_move_48 : decode cX12_move 48 = .ok (.iconst (-1), 1) := by decide +kernel
theorem dX12_move_49 : decode cX12_move 49 = .ok (.ireturn, 1) := by decide +kernel
theorem dX12_move_50 : decode cX12_move 50 = .ok (.aload_n 0, 1) := by decide +kernel
theorem dX12_move_51 : decode cX12_move 51 = .ok (.iload_n 1, 1) := by decide +kernel
theorem dX12_move_52 : decode cX12_move 52 = .ok (.invokevirtual 458, 3) := by decide +kernel
theorem dX12_move_55 : decode cX12_move 55 = .ok (.istore_n 3, 1) := by decide +kernel
theorem dX12_move_56 : decode cX12_move 56 = .ok (.iload_n 2, 1) := by decide +kernel
theorem dX12_move_57 : decode cX12_move 57 = .ok (.iconst (-1), 1) := by decide +kernel
theorem dX12_move_58 : decode cX12_move 58 = .ok (.if_icmp .ne 7, 3) := by decide +kernel
theorem dX12_move_61 : decode cX12_move 61 = .ok (.iconst (-1), 1) := by decide +kernel
theorem dX12_move_62 : decode cX12_move 62 = .ok (.goto 9, 3) := by decide +kernel
theorem dX12_move_65 : decode cX12_move 65 = .ok (.aload_n 0, 1) := by decide +kernel
theorem dX12_move_66 : decode cX12_move 66 = .ok (.getfield 30, 3) := by decide +kernel
theorem dX12_move_69 : decode cX12_move 69 = .ok (.iload_n 2, 1) := by decide +kernel
theorem dX12_move_70 : decode cX12_move 70 = .ok (.iaload, 1) := by decide +kernel
theorem dX12_move_71 : decode cX12_move 71 = .ok (.istore 4, 2) := by decide +kernel
theorem dX12_move_73 : decode cX12_move 73 = .ok (.aload_n 0, 1) := by decide +kernel
theorem dX12_move_74 : decode cX12_move 74 = .ok (.getfield 51, 3) := by decide +kernel
theorem dX12_move_77 : decode cX12_move 77 = .ok (.iload_n 1, 1) := by decide +kernel
theorem dX12_move_78 : decode cX12_move 78 = .ok (.iaload, 1) := by decide +kernel
theorem dX12_move_79 : decode cX12_move 79 = .ok (.ifCond .le 13, 3) := by decide +kernel
theorem dX12_move_82 : decode cX12_move 82 = .ok (.iload_n 3, 1) := by decide +kernel
theorem dX12_move_83 : decode cX12_move 83 = .ok (.iload 4, 2) := by decide +kernel
theorem dX12_move_85 : decode cX12_move 85 = .ok (.if_icmp .eq 7, 3) := by decide +kernel
theorem dX12_move_88 : decode cX12_move 88 = .ok (.iconst 1, 1) := by decide +kernel
theorem dX12_move_89 : decode cX12_move 89 = .ok (.goto 4, 3) := by decide +kernel
theorem dX12_move_92 : decode cX12_move 92 = .ok (.iconst 0, 1) := by decide +kernel
theorem dX12_move_93 : decode cX12_move 93 = .ok (.istore 5, 2) := by decide +kernel
theorem dX12_move_95 : decode cX12_move 95 = .ok (.aload_n 0, 1) := by decide +kernel
theorem dX12_move_96 : decode cX12_move 96 = .ok (.iload_n 3, 1) := by decide +kernel
theorem dX12_move_97 : decode cX12_move 97 = .ok (.iload_n 1, 1) := by decide +kernel
theorem dX12_move_98 : decode cX12_move 98 = .ok (.invokevirtual 476, 3) := by decide +kernel
theorem dX12_move_101 : decode cX12_move 101 = .ok (.ifCond .eq 22, 3) := by decide +kernel
theorem dX12_move_104 : decode cX12_move 104 = .ok (.iload 4, 2) := by decide +kernel
theorem dX12_move_106 : decode cX12_move 106 = .ok (.iconst (-1), 1) := by decide +kernel
theorem dX12_move_107 : decode cX12_move 107 = .ok (.if_icmp .eq 13, 3) := by decide +kernel
theorem dX12_move_110 : decode cX12_move 110 = .ok (.aload_n 0, 1) := by decide +kernel
theorem dX12_move_111 : decode cX12_move 111 = .ok (.iload 4, 2) := by decide +kernel
theorem dX12_move_113 : decode cX12_move 113 = .ok (.iload_n 1, 1) := by decide +kernel
theorem dX12_move_114 : decode cX12_move 114 = .ok (.invokevirtual 476, 3) := by decide +kernel
theorem dX12_move_117 : decode cX12_move 117 = .ok (.ifCond .ne 6, 3) := by decide +kernel
theorem dX12_move_120 : decode cX12_move 120 = .ok (.iinc 5 2, 3) := by decide +kernel
theorem dX12_move_123 : decode cX12_move 123 = .ok (.aload_n 0, 1) := by decide +kernel
theorem dX12_move_124 : decode cX12_move 124 = .ok (.iload_n 1, 1) := by decide +kernel
theorem dX12_move_125 : decode cX12_move 125 = .ok (.iload_n 2, 1) := by decide +kernel
theorem dX12_move_126 : decode cX12_move 126 = .ok (.invokevirtual 521, 3) := by decide +kernel
theorem dX12_move_129 : decode cX12_move 129 = .ok (.iload 5, 2) := by decide +kernel
theorem dX12_move_131 : decode cX12_move 131 = .ok (.ireturn, 1) := by decide +kernel
theorem dX12_leave_0 : decode cX12_leave 0 = .ok (.aload_n 0, 1) := by decide +kernel
theorem dX12_leave_1 : decode cX12_leave 1 = .ok (.iload_n 1, 1) := by decide +kernel
theorem dX12_leave_2 : decode cX12_leave 2 = .ok (.invokevirtual 282, 3) := by decide +kernel
theorem dX12_leave_5 : decode cX12_leave 5 = .ok (.ifCond .eq 13, 3) := by decide +kernel
theorem dX12_leave_8 : decode cX12_leave 8 = .ok (.aload_n 0, 1) := by decide +kernel
theorem dX12_leave_9 : decode cX12_leave 9 = .ok (.getfield 66, 3) := by decide +kernel
theorem dX12_leave_12 : decode cX12_leave 12 = .ok (.iload_n 1, 1) := by decide +kernel
theorem dX12_leave_13 : decode cX12_leave 13 = .ok (.iaload, 1) := by decide +kernel
theorem dX12_leave_14 : decode cX12_leave 14 = .ok (.iconst 2, 1) := by decide +kernel
theorem dX12_leave_15 : decode cX12_leave 15 = .ok (.if_icmp .ne 5, 3) := by decide +kernel
theorem dX12_leave_18 : decode cX12_leave 18 = .ok (.iconst 0, 1) := by decide +kernel
theorem dX12_leave_19 : decode cX12_leave 19 = .ok (.ireturn, 1) := by decide +kernel
theorem dX12_leave_20 : decode cX12_leave 20 = .ok (.aload_n 0, 1) := by decide +kernel
theorem dX12_leave_21 : decode cX12_leave 21 = .ok (.iload_n 1, 1) := by decide +kernel
theorem dX12_leave_22 : decode cX12_leave 22 = .ok (.iconst (-1), 1) := by decide +kernel
theorem dX12_leave_23 : decode cX12_leave 23 = .ok (.invokevirtual 521, 3) := by decide +kernel
theorem dX12_leave_26 : decode cX12_leave 26 = .ok (.aload_n 0, 1) := by decide +kernel
theorem dX12_leave_27 : decode cX12_leave 27 = .ok (.getfield 66, 3) := by decide +kernel
theorem dX12_leave_30 : decode cX12_leave 30 = .ok (.iload_n 1, 1) := by decide +kernel
theorem dX12_leave_31 : decode cX12_leave 31 = .ok (.iconst 2, 1) := by decide +kernel
theorem dX12_leave_32 : decode cX12_leave 32 = .ok (.iastore, 1) := by decide +kernel
theorem dX12_leave_33 : decode cX12_leave 33 = .ok (.iconst 1, 1) := by decide +kernel
theorem dX12_leave_34 : decode cX12_leave 34 = .ok (.ireturn, 1) := by decide +kernel
theorem dX12_within_0 : decode cX12_within 0 = .ok (.iload_n 0, 1) := by decide +kernel
theorem dX12_within_1 : decode cX12_within 1 = .ok (.ifCond .ge 7, 3) := by decide +kernel
theorem dX12_within_4 : decode cX12_within 4 = .ok (.iconst 0, 1) := by decide +kernel
theorem dX12_within_5 : decode cX12_within 5 = .ok (.goto 17, 3) := by decide +kernel
theorem dX12_within_8 : decode cX12_within 8 = .ok (.iload_n 0, 1) := by decide +kernel
theorem dX12_within_9 : decode cX12_within 9 = .ok (.ldc_w 531, 3) := by decide +kernel
theorem dX12_within_12 : decode cX12_within 12 = .ok (.if_icmp .le 9, 3) := by decide +kernel
theorem dX12_within_15 : decode cX12_within 15 = .ok (.ldc_w 531, 3) := by decide +kernel
theorem dX12_within_18 : decode cX12_within 18 = .ok (.goto 4, 3) := by decide +kernel
theorem dX12_within_21 : decode cX12_within 21 = .ok (.iload_n 0, 1) := by decide +kernel
theorem dX12_within_22 : decode cX12_within 22 = .ok (.ireturn, 1) := by decide +kernel
theorem dX12_day_0 : decode cX12_day 0 = .ok (.iconst 0, 1) := by decide +kernel
theorem dX12_day_1 : decode cX12_day 1 = .ok (.istore_n 1, 1) := by decide +kernel
theorem dX12_day_2 : decode cX12_day 2 = .ok (.iload_n 1, 1) := by decide +kernel
theorem dX12_day_3 : decode cX12_day 3 = .ok (.aload_n 0, 1) := by decide +kernel
theorem dX12_day_4 : decode cX12_day 4 = .ok (.getfield 254, 3) := by decide +kernel
theorem dX12_day_7 : decode cX12_day 7 = .ok (.if_icmp .ge 41, 3) := by decide +kernel
theorem dX12_day_10 : decode cX12_day 10 = .ok (.aload_n 0, 1) := by decide +kernel
theorem dX12_day_11 : decode cX12_day 11 = .ok (.iload_n 1, 1) := by decide +kernel
theorem dX12_day_12 : decode cX12_day 12 = .ok (.invokevirtual 287, 3) := by decide +kernel
theorem dX12_day_15 : decode cX12_day 15 = .ok (.ifCond .eq 27, 3) := by decide +kernel
theorem dX12_day_18 : decode cX12_day 18 = .ok (.aload_n 0, 1) := by decide +kernel
theorem dX12_day_19 : decode cX12_day 19 = .ok (.getfield 45, 3) := by decide +kernel
theorem dX12_day_22 : decode cX12_day 22 = .ok (.aload_n 0, 1) := by decide +kernel
theorem dX12_day_23 : decode cX12_day 23 = .ok (.getfield 69, 3) := by decide +kernel
theorem dX12_day_26 : decode cX12_day 26 = .ok (.iload_n 1, 1) := by decide +kernel
theorem dX12_day_27 : decode cX12_day 27 = .ok (.iaload, 1) := by decide +kernel
theorem dX12_day_28 : decode cX12_day 28 = .ok (.iaload, 1) := by decide +kernel
theorem dX12_day_29 : decode cX12_day 29 = .ok (.aload_n 0, 1) := by decide +kernel
theorem dX12_day_30 : decode cX12_day 30 = .ok (.getfield 275, 3) := by decide +kernel
theorem dX12_day_33 : decode cX12_day 33 = .ok (.if_icmp .ne 9, 3) := by decide +kernel
theorem dX12_day_36 : decode cX12_day 36 = .ok (.aload_n 0, 1) := by decide +kernel
theorem dX12_day_37 : decode cX12_day 37 = .ok (.iload_n 1, 1) := by decide +kernel
theorem dX12_day_38 : decode cX12_day 38 = .ok (.iconst (-1), 1) := by decide +kernel
theorem dX12_day_39 : decode cX12_day 39 = .ok (.invokevirtual 521, 3) := by decide +kernel
theorem dX12_day_42 : decode cX12_day 42 = .ok (.iinc 1 1, 3) := by decide +kernel
theorem dX12_day_45 : decode cX12_day 45 = .ok (.goto (-43), 3) := by decide +kernel
theorem dX12_day_48 : decode cX12_day 48 = .ok (.iconst 0, 1) := by decide +kernel
theorem dX12_day_49 : decode cX12_day 49 = .ok (.istore_n 1, 1) := by decide +kernel
theorem dX12_day_50 : decode cX12_day 50 = .ok (.iload_n 1, 1) := by decide +kernel
theorem dX12_day_51 : decode cX12_day 51 = .ok (.aload_n 0, 1) := by decide +kernel
theorem dX12_day_52 : decode cX12_day 52 = .ok (.getfield 254, 3) := by decide +kernel
theorem dX12_day_55 : decode cX12_day 55 = .ok (.if_icmp .ge 28, 3) := by decide +kernel
theorem dX12_day_58 : decode cX12_day 58 = .ok (.aload_n 0, 1) := by decide +kernel
theorem dX12_day_59 : decode cX12_day 59 = .ok (.getfield 66, 3) := by decide +kernel
theorem dX12_day_62 : decode cX12_day 62 = .ok (.iload_n 1, 1) := by decide +kernel
theorem dX12_day_63 : decode cX12_day 63 = .ok (.iaload, 1) := by decide +kernel
theorem dX12_day_64 : decode cX12_day 64 = .ok (.ifCond .ne 13, 3) := by decide +kernel
theorem dX12_day_67 : decode cX12_day 67 = .ok (.aload_n 0, 1) := by decide +kernel
theorem dX12_day_68 : decode cX12_day 68 = .ok (.getfield 72, 3) := by decide +kernel
theorem dX12_day_71 : decode cX12_day 71 = .ok (.iload_n 1, 1) := by decide +kernel
theorem dX12_day_72 : decode cX12_day 72 = .ok (.dup2, 1) := by decide +kernel
theorem dX12_day_73 : decode cX12_day 73 = .ok (.iaload, 1) := by decide +kernel
theorem dX12_day_74 : decode cX12_day 74 = .ok (.iconst 1, 1) := by decide +kernel
theorem dX12_day_75 : decode cX12_day 75 = .ok (.iadd, 1) := by decide +kernel
theorem dX12_day_76 : decode cX12_day 76 = .ok (.iastore, 1) := by decide +kernel
theorem dX12_day_77 : decode cX12_day 77 = .ok (.iinc 1 1, 3) := by decide +kernel
theorem dX12_day_80 : decode cX12_day 80 = .ok (.goto (-30), 3) := by decide +kernel
theorem dX12_day_83 : decode cX12_day 83 = .ok (.iconst 0, 1) := by decide +kernel
theorem dX12_day_84 : decode cX12_day 84 = .ok (.istore_n 1, 1) := by decide +kernel
theorem dX12_day_85 : decode cX12_day 85 = .ok (.iload_n 1, 1) := by decide +kernel
theorem dX12_day_86 : decode cX12_day 86 = .ok (.iconst 5, 1) := by decide +kernel
theorem dX12_day_87 : decode cX12_day 87 = .ok (.if_icmp .ge 21, 3) := by decide +kernel
theorem dX12_day_90 : decode cX12_day 90 = .ok (.aload_n 0, 1) := by decide +kernel
theorem dX12_day_91 : decode cX12_day 91 = .ok (.getfield 208, 3) := by decide +kernel
theorem dX12_day_94 : decode cX12_day 94 = .ok (.aload_n 0, 1) := by decide +kernel
theorem dX12_day_95 : decode cX12_day 95 = .ok (.getfield 275, 3) := by decide +kernel
theorem dX12_day_98 : decode cX12_day 98 = .ok (.aaload, 1) := by decide +kernel
theorem dX12_day_99 : decode cX12_day 99 = .ok (.iload_n 1, 1) := by decide +kernel
theorem dX12_day_100 : decode cX12_day 100 = .ok (.lconst 0, 1) := by decide +kernel
theorem dX12_day_101 : decode cX12_day 101 = .ok (.lastore, 1) := by decide +kernel
theorem dX12_day_102 : decode cX12_day 102 = .ok (.iinc 1 1, 3) := by decide +kernel
theorem dX12_day_105 : decode cX12_day 105 = .ok (.goto (-20), 3) := by decide +kernel
theorem dX12_day_108 : decode cX12_day 108 = .ok (.iconst 0, 1) := by decide +kernel
theorem dX12_day_109 : decode cX12_day 109 = .ok (.istore_n 1, 1) := by decide +kernel
theorem dX12_day_110 : decode cX12_day 110 = .ok (.iload_n 1, 1) := by decide +kernel
theorem dX12_day_111 : decode cX12_day 111 = .ok (.aload_n 0, 1) := by decide +kernel
theorem dX12_day_112 : decode cX12_day 112 = .ok (.getfield 254, 3) := by decide +kernel
theorem dX12_day_115 : decode cX12_day 115 = .ok (.if_icmp .ge 164, 3) := by decide +kernel
theorem dX12_day_118 : decode cX12_day 118 = .ok (.aload_n 0, 1) := by decide +kernel
theorem dX12_day_119 : decode cX12_day 119 = .ok (.getfield 203, 3) := by decide +kernel
theorem dX12_day_122 : decode cX12_day 122 = .ok (.iload_n 1, 1) := by decide +kernel
theorem dX12_day_123 : decode cX12_day 123 = .ok (.aaload, 1) := by decide +kernel
theorem dX12_day_124 : decode cX12_day 124 = .ok (.aload_n 0, 1) := by decide +kernel
theorem dX12_day_125 : decode cX12_day 125 = .ok (.getfield 275, 3) := by decide +kernel
theorem dX12_day_128 : decode cX12_day 128 = .ok (.aload_n 0, 1) := by decide +kernel
theorem dX12_day_129 : decode cX12_day 129 = .ok (.getfield 66, 3) := by decide +kernel
theorem dX12_day_132 : decode cX12_day 132 = .ok (.iload_n 1, 1) := by decide +kernel
theorem dX12_day_133 : decode cX12_day 133 = .ok (.iaload, 1) := by decide +kernel
theorem dX12_day_134 : decode cX12_day 134 = .ok (.ifCond .ne 8, 3) := by decide +kernel
theorem dX12_day_137 : decode cX12_day 137 = .ok (.bipush 100, 2) := by decide +kernel
theorem dX12_day_139 : decode cX12_day 139 = .ok (.goto 24, 3) := by decide +kernel
theorem dX12_day_142 : decode cX12_day 142 = .ok (.aload_n 0, 1) := by decide +kernel
theorem dX12_day_143 : decode cX12_day 143 = .ok (.getfield 66, 3) := by decide +kernel
theorem dX12_day_146 : decode cX12_day 146 = .ok (.iload_n 1, 1) := by decide +kernel
theorem dX12_day_147 : decode cX12_day 147 = .ok (.iaload, 1) := by decide +kernel
theorem dX12_day_148 : decode cX12_day 148 = .ok (.iconst 2, 1) := by decide +kernel
theorem dX12_day_149 : decode cX12_day 149 = .ok (.if_icmp .ne 8, 3) := by decide +kernel
theorem dX12_day_152 : decode cX12_day 152 = .ok (.bipush 101, 2) := by decide +kernel
theorem dX12_day_154 : decode cX12_day 154 = .ok (.goto 9, 3) := by decide +kernel
theorem dX12_day_157 : decode cX12_day 157 = .ok (.aload_n 0, 1) := by decide +kernel
theorem dX12_day_158 : decode cX12_day 158 = .ok (.getfield 69, 3) := by decide +kernel
theorem dX12_day_161 : decode cX12_day 161 = .ok (.iload_n 1, 1) := by decide +kernel
theorem dX12_day_162 : decode cX12_day 162 = .ok (.iaload, 1) := by decide +kernel
theorem dX12_day_163 : decode cX12_day 163 = .ok (.iastore, 1) := by decide +kernel
theorem dX12_day_164 : decode cX12_day 164 = .ok (.aload_n 0, 1) := by decide +kernel
theorem dX12_day_165 : decode cX12_day 165 = .ok (.getfield 208, 3) := by decide +kernel
theorem dX12_day_168 : decode cX12_day 168 = .ok (.aload_n 0, 1) := by decide +kernel
theorem dX12_day_169 : decode cX12_day 169 = .ok (.getfield 275, 3) := by decide +kernel
theorem dX12_day_172 : decode cX12_day 172 = .ok (.aaload, 1) := by decide +kernel
theorem dX12_day_173 : decode cX12_day 173 = .ok (.aload_n 0, 1) := by decide +kernel
theorem dX12_day_174 : decode cX12_day 174 = .ok (.getfield 66, 3) := by decide +kernel
theorem dX12_day_177 : decode cX12_day 177 = .ok (.iload_n 1, 1) := by decide +kernel
theorem dX12_day_178 : decode cX12_day 178 = .ok (.iaload, 1) := by decide +kernel
theorem dX12_day_179 : decode cX12_day 179 = .ok (.dup2, 1) := by decide +kernel
theorem dX12_day_180 : decode cX12_day 180 = .ok (.laload, 1) := by decide +kernel
theorem dX12_day_181 : decode cX12_day 181 = .ok (.aload_n 0, 1) := by decide +kernel
theorem dX12_day_182 : decode cX12_day 182 = .ok (.getfield 48, 3) := by decide +kernel
theorem dX12_day_185 : decode cX12_day 185 = .ok (.iload_n 1, 1) := by decide +kernel
theorem dX12_day_186 : decode cX12_day 186 = .ok (.iaload, 1) := by decide +kernel
theorem dX12_day_187 : decode cX12_day 187 = .ok (.i2l, 1) := by decide +kernel
theorem dX12_day_188 : decode cX12_day 188 = .ok (.ladd, 1) := by decide +kernel
theorem dX12_day_189 : decode cX12_day 189 = .ok (.lastore, 1) := by decide +kernel
theorem dX12_day_190 : decode cX12_day 190 = .ok (.aload_n 0, 1) := by decide +kernel
theorem dX12_day_191 : decode cX12_day 191 = .ok (.getfield 208, 3) := by decide +kernel
theorem dX12_day_194 : decode cX12_day 194 = .ok (.aload_n 0, 1) := by decide +kernel
theorem dX12_day_195 : decode cX12_day 195 = .ok (.getfield 275, 3) := by decide +kernel
theorem dX12_day_198 : decode cX12_day 198 = .ok (.aaload, 1) := by decide +kernel
theorem dX12_day_199 : decode cX12_day 199 = .ok (.iconst 3, 1) := by decide +kernel
theorem dX12_day_200 : decode cX12_day 200 = .ok (.dup2, 1) := by decide +kernel
theorem dX12_day_201 : decode cX12_day 201 = .ok (.laload, 1) := by decide +kernel
theorem dX12_day_202 : decode cX12_day 202 = .ok (.aload_n 0, 1) := by decide +kernel
theorem dX12_day_203 : decode cX12_day 203 = .ok (.getfield 48, 3) := by decide +kernel
theorem dX12_day_206 : decode cX12_day 206 = .ok (.iload_n 1, 1) := by decide +kernel
theorem dX12_day_207 : decode cX12_day 207 = .ok (.iaload, 1) := by decide +kernel
theorem dX12_day_208 : decode cX12_day 208 = .ok (.i2l, 1) := by decide +kernel
theorem dX12_day_209 : decode cX12_day 209 = .ok (.ladd, 1) := by decide +kernel
theorem dX12_day_210 : decode cX12_day 210 = .ok (.lastore, 1) := by decide +kernel
theorem dX12_day_211 : decode cX12_day 211 = .ok (.aload_n 0, 1) := by decide +kernel
theorem dX12_day_212 : decode cX12_day 212 = .ok (.iload_n 1, 1) := by decide +kernel
theorem dX12_day_213 : decode cX12_day 213 = .ok (.invokevirtual 287, 3) := by decide +kernel
theorem dX12_day_216 : decode cX12_day 216 = .ok (.ifCond .ne 6, 3) := by decide +kernel
theorem dX12_day_219 : decode cX12_day 219 = .ok (.goto 54, 3) := by decide +kernel
theorem dX12_day_222 : decode cX12_day 222 = .ok (.aload_n 0, 1) := by decide +kernel
theorem dX12_day_223 : decode cX12_day 223 = .ok (.iload_n 1, 1) := by decide +kernel
theorem dX12_day_224 : decode cX12_day 224 = .ok (.aload_n 0, 1) := by decide +kernel
theorem dX12_day_225 : decode cX12_day 225 = .ok (.getfield 69, 3) := by decide +kernel
theorem dX12_day_228 : decode cX12_day 228 = .ok (.iload_n 1, 1) := by decide +kernel
theorem dX12_day_229 : decode cX12_day 229 = .ok (.iaload, 1) := by decide +kernel
theorem dX12_day_230 : decode cX12_day 230 = .ok (.invokevirtual 503, 3) := by decide +kernel
theorem dX12_day_233 : decode cX12_day 233 = .ok (.aload_n 0, 1) := by decide +kernel
theorem dX12_day_234 : decode cX12_day 234 = .ok (.iconst 3, 1) := by decide +kernel
theorem dX12_day_235 : decode cX12_day 235 = .ok (.invokevirtual 482, 3) := by decide +kernel
theorem dX12_day_238 : decode cX12_day 238 = .ok (.invokestatic 532, 3) := by decide +kernel
theorem dX12_day_241 : decode cX12_day 241 = .ok (.istore_n 2, 1) := by decide +kernel
theorem dX12_day_242 : decode cX12_day 242 = .ok (.aload_n 0, 1) := by decide +kernel
theorem dX12_day_243 : decode cX12_day 243 = .ok (.getfield 22, 3) := by decide +kernel
theorem dX12_day_246 : decode cX12_day 246 = .ok (.aload_n 0, 1) := by decide +kernel
theorem dX12_day_247 : decode cX12_day 247 = .ok (.iload_n 1, 1) := by decide +kernel
theorem dX12_day_248 : decode cX12_day 248 = .ok (.invokevirtual 458, 3) := by decide +kernel
theorem dX12_day_251 : decode cX12_day 251 = .ok (.dup2, 1) := by decide +kernel
theorem dX12_day_252 : decode cX12_day 252 = .ok (.laload, 1) := by decide +kernel
theorem dX12_day_253 : decode cX12_day 253 = .ok (.iload_n 2, 1) := by decide +kernel
theorem dX12_day_254 : decode cX12_day 254 = .ok (.i2l, 1) := by decide +kernel
theorem dX12_day_255 : decode cX12_day 255 = .ok (.ladd, 1) := by decide +kernel
theorem dX12_day_256 : decode cX12_day 256 = .ok (.lastore, 1) := by decide +kernel
theorem dX12_day_257 : decode cX12_day 257 = .ok (.aload_n 0, 1) := by decide +kernel
theorem dX12_day_258 : decode cX12_day 258 = .ok (.getfield 208, 3) := by decide +kernel
theorem dX12_day_261 : decode cX12_day 261 = .ok (.aload_n 0, 1) := by decide +kernel
theorem dX12_day_262 : decode cX12_day 262 = .ok (.getfield 275, 3) := by decide +kernel
theorem dX12_day_265 : decode cX12_day 265 = .ok (.aaload, 1) := by decide +kernel
theorem dX12_day_266 : decode cX12_day 266 = .ok (.iconst 4, 1) := by decide +kernel
theorem dX12_day_267 : decode cX12_day 267 = .ok (.dup2, 1) := by decide +kernel
theorem dX12_day_268 : decode cX12_day 268 = .ok (.laload, 1) := by decide +kernel
theorem dX12_day_269 : decode cX12_day 269 = .ok (.iload_n 2, 1) := by decide +kernel
theorem dX12_day_270 : decode cX12_day 270 = .ok (.i2l, 1) := by decide +kernel
theorem dX12_day_271 : decode cX12_day 271 = .ok (.ladd, 1) := by decide +kernel
theorem dX12_day_272 : decode cX12_day 272 = .ok (.lastore, 1) := by decide +kernel
theorem dX12_day_273 : decode cX12_day 273 = .ok (.iinc 1 1, 3) := by decide +kernel
theorem dX12_day_276 : decode cX12_day 276 = .ok (.goto (-166), 3) := by decide +kernel
theorem dX12_day_279 : decode cX12_day 279 = .ok (.aload_n 0, 1) := by decide +kernel
theorem dX12_day_280 : decode cX12_day 280 = .ok (.dup, 1) := by decide +kernel
theorem dX12_day_281 : decode cX12_day 281 = .ok (.getfield 275, 3) := by decide +kernel
theorem dX12_day_284 : decode cX12_day 284 = .ok (.iconst 1, 1) := by decide +kernel
theorem dX12_day_285 : decode cX12_day 285 = .ok (.iadd, 1) := by decide +kernel
theorem dX12_day_286 : decode cX12_day 286 = .ok (.putfield 275, 3) := by decide +kernel
theorem dX12_day_289 : decode cX12_day 289 = .ok (.return_, 1) := by decide +kernel
theorem dX12_go_0 : decode cX12_go 0 = .ok (.iload_n 1, 1) := by decide +kernel
theorem dX12_go_1 : decode cX12_go 1 = .ok (.i2l, 1) := by decide +kernel
theorem dX12_go_2 : decode cX12_go 2 = .ok (.lconst 0, 1) := by decide +kernel
theorem dX12_go_3 : decode cX12_go 3 = .ok (.ldc2_w 535, 3) := by decide +kernel
theorem dX12_go_6 : decode cX12_go 6 = .ok (.invokestatic 247, 3) := by decide +kernel
theorem dX12_go_9 : decode cX12_go 9 = .ok (.ifCond .ne 5, 3) := by decide +kernel
theorem dX12_go_12 : decode cX12_go 12 = .ok (.iconst (-1), 1) := by decide +kernel
theorem dX12_go_13 : decode cX12_go 13 = .ok (.ireturn, 1) := by decide +kernel
theorem dX12_go_14 : decode cX12_go 14 = .ok (.iconst 0, 1) := by decide +kernel
theorem dX12_go_15 : decode cX12_go 15 = .ok (.istore_n 2, 1) := by decide +kernel
theorem dX12_go_16 : decode cX12_go 16 = .ok (.iload_n 2, 1) := by decide +kernel
theorem dX12_go_17 : decode cX12_go 17 = .ok (.iload_n 1, 1) := by decide +kernel
theorem dX12_go_18 : decode cX12_go 18 = .ok (.if_icmp .ge 23, 3) := by decide +kernel
theorem dX12_go_21 : decode cX12_go 21 = .ok (.aload_n 0, 1) := by decide +kernel
theorem dX12_go_22 : decode cX12_go 22 = .ok (.getfield 275, 3) := by decide +kernel
theorem dX12_go_25 : decode cX12_go 25 = .ok (.sipush 200, 3) := by decide +kernel
theorem dX12_go_28 : decode cX12_go 28 = .ok (.if_icmp .ge 13, 3) := by decide +kernel
theorem dX12_go_31 : decode cX12_go 31 = .ok (.aload_n 0, 1) := by decide +kernel
theorem dX12_go_32 : decode cX12_go 32 = .ok (.invokevirtual 537, 3) := by decide +kernel
theorem dX12_go_35 : decode cX12_go 35 = .ok (.iinc 2 1, 3) := by decide +kernel
theorem dX12_go_38 : decode cX12_go 38 = .ok (.goto (-22), 3) := by decide +kernel
theorem dX12_go_41 : decode cX12_go 41 = .ok (.aload_n 0, 1) := by decide +kernel
theorem dX12_go_42 : decode cX12_go 42 = .ok (.getfield 275, 3) := by decide +kernel
theorem dX12_go_45 : decode cX12_go 45 = .ok (.ireturn, 1) := by decide +kernel
theorem dX12_hasEnded_0 : decode cX12_hasEnded 0 = .ok (.iload_n 1, 1) := by decide +kernel
theorem dX12_hasEnded_1 : decode cX12_hasEnded 1 = .ok (.i2l, 1) := by decide +kernel
theorem dX12_hasEnded_2 : decode cX12_hasEnded 2 = .ok (.lconst 0, 1) := by decide +kernel
theorem dX12_hasEnded_3 : decode cX12_hasEnded 3 = .ok (.aload_n 0, 1) := by decide +kernel
theorem dX12_hasEnded_4 : decode cX12_hasEnded 4 = .ok (.getfield 275, 3) := by decide +kernel
theorem dX12_hasEnded_7 : decode cX12_hasEnded 7 = .ok (.iconst 1, 1) := by decide +kernel
theorem dX12_hasEnded_8 : decode cX12_hasEnded 8 = .ok (.isub, 1) := by decide +kernel
theorem dX12_hasEnded_9 : decode cX12_hasEnded 9 = .ok (.i2l, 1) := by decide +kernel
theorem dX12_hasEnded_10 : decode cX12_hasEnded 10 = .ok (.invokestatic 247, 3) := by decide +kernel
theorem dX12_hasEnded_13 : decode cX12_hasEnded 13 = .ok (.ireturn, 1) := by decide +kernel
theorem dX12_night_0 : decode cX12_night 0 = .ok (.aload_n 0, 1) := by decide +kernel
theorem dX12_night_1 : decode cX12_night 1 = .ok (.iload_n 1, 1) := by decide +kernel
theorem dX12_night_2 : decode cX12_night 2 = .ok (.invokevirtual 282, 3) := by decide +kernel
theorem dX12_night_5 : decode cX12_night 5 = .ok (.ifCond .eq 32, 3) := by decide +kernel
theorem dX12_night_8 : decode cX12_night 8 = .ok (.aload_n 0, 1) := by decide +kernel
theorem dX12_night_9 : decode cX12_night 9 = .ok (.iload_n 2, 1) := by decide +kernel
theorem dX12_night_10 : decode cX12_night 10 = .ok (.invokevirtual 539, 3) := by decide +kernel
theorem dX12_night_13 : decode cX12_night 13 = .ok (.ifCond .eq 24, 3) := by decide +kernel
theorem dX12_night_16 : decode cX12_night 16 = .ok (.iload_n 2, 1) := by decide +kernel
theorem dX12_night_17 : decode cX12_night 17 = .ok (.aload_n 0, 1) := by decide +kernel
theorem dX12_night_18 : decode cX12_night 18 = .ok (.getfield 75, 3) := by decide +kernel
theorem dX12_night_21 : decode cX12_night 21 = .ok (.iload_n 1, 1) := by decide +kernel
theorem dX12_night_22 : decode cX12_night 22 = .ok (.iaload, 1) := by decide +kernel
theorem dX12_night_23 : decode cX12_night 23 = .ok (.if_icmp .lt 14, 3) := by decide +kernel
theorem dX12_night_26 : decode cX12_night 26 = .ok (.aload_n 0, 1) := by decide +kernel
theorem dX12_night_27 : decode cX12_night 27 = .ok (.getfield 203, 3) := by decide +kernel
theorem dX12_night_30 : decode cX12_night 30 = .ok (.iload_n 1, 1) := by decide +kernel
theorem dX12_night_31 : decode cX12_night 31 = .ok (.aaload, 1) := by decide +kernel
theorem dX12_night_32 : decode cX12_night 32 = .ok (.iload_n 2, 1) := by decide +kernel
theorem dX12_night_33 : decode cX12_night 33 = .ok (.iaload, 1) := by decide +kernel
theorem dX12_night_34 : decode cX12_night 34 = .ok (.goto 4, 3) := by decide +kernel
theorem dX12_night_37 : decode cX12_night 37 = .ok (.iconst (-1), 1) := by decide +kernel
theorem dX12_night_38 : decode cX12_night 38 = .ok (.ireturn, 1) := by decide +kernel
theorem dX12_lead_0 : decode cX12_lead 0 = .ok (.aload_n 0, 1) := by decide +kernel
theorem dX12_lead_1 : decode cX12_lead 1 = .ok (.iload_n 1, 1) := by decide +kernel
theorem dX12_lead_2 : decode cX12_lead 2 = .ok (.invokevirtual 506, 3) := by decide +kernel
theorem dX12_lead_5 : decode cX12_lead 5 = .ok (.ifCond .eq 11, 3) := by decide +kernel
theorem dX12_lead_8 : decode cX12_lead 8 = .ok (.aload_n 0, 1) := by decide +kernel
theorem dX12_lead_9 : decode cX12_lead 9 = .ok (.iload_n 2, 1) := by decide +kernel
theorem dX12_lead_10 : decode cX12_lead 10 = .ok (.invokevirtual 539, 3) := by decide +kernel
theorem dX12_lead_13 : decode cX12_lead 13 = .ok (.ifCond .ne 5, 3) := by decide +kernel
theorem dX12_lead_16 : decode cX12_lead 16 = .ok (.iconst (-1), 1) := by decide +kernel
theorem dX12_lead_17 : decode cX12_lead 17 = .ok (.ireturn, 1) := by decide +kernel
theorem dX12_lead_18 : decode cX12_lead 18 = .ok (.iconst 0, 1) := by decide +kernel
theorem dX12_lead_19 : decode cX12_lead 19 = .ok (.istore_n 3, 1) := by decide +kernel
theorem dX12_lead_20 : decode cX12_lead 20 = .ok (.iload_n 3, 1) := by decide +kernel
theorem dX12_lead_21 : decode cX12_lead 21 = .ok (.aload_n 0, 1) := by decide +kernel
theorem dX12_lead_22 : decode cX12_lead 22 = .ok (.getfield 254, 3) := by decide +kernel
theorem dX12_lead_25 : decode cX12_lead 25 = .ok (.if_icmp .ge 21, 3) := by decide +kernel
theorem dX12_lead_28 : decode cX12_lead 28 = .ok (.aload_n 0, 1) := by decide +kernel
theorem dX12_lead_29 : decode cX12_lead 29 = .ok (.iload_n 3, 1) := by decide +kernel
theorem dX12_lead_30 : decode cX12_lead 30 = .ok (.iload_n 2, 1) := by decide +kernel
theorem dX12_lead_31 : decode cX12_lead 31 = .ok (.invokevirtual 542, 3) := by decide +kernel
theorem dX12_lead_34 : decode cX12_lead 34 = .ok (.iload_n 1, 1) := by decide +kernel
theorem dX12_lead_35 : decode cX12_lead 35 = .ok (.if_icmp .ne 5, 3) := by decide +kernel
theorem dX12_lead_38 : decode cX12_lead 38 = .ok (.iload_n 3, 1) := by decide +kernel
theorem dX12_lead_39 : decode cX12_lead 39 = .ok (.ireturn, 1) := by decide +kernel
theorem dX12_lead_40 : decode cX12_lead 40 = .ok (.iinc 3 1, 3) := by decide +kernel
theorem dX12_lead_43 : decode cX12_lead 43 = .ok (.goto (-23), 3) := by decide +kernel
theorem dX12_lead_46 : decode cX12_lead 46 = .ok (.iconst (-1), 1) := by decide +kernel
theorem dX12_lead_47 : decode cX12_lead 47 = .ok (.ireturn, 1) := by decide +kernel
theorem dX12_beyond_0 : decode cX12_beyond 0 = .ok (.iconst 0, 1) := by decide +kernel
theorem dX12_beyond_1 : decode cX12_beyond 1 = .ok (.istore_n 1, 1) := by decide +kernel
theorem dX12_beyond_2 : decode cX12_beyond 2 = .ok (.iconst 0, 1) := by decide +kernel
theorem dX12_beyond_3 : decode cX12_beyond 3 = .ok (.istore_n 2, 1) := by decide +kernel
theorem dX12_beyond_4 : decode cX12_beyond 4 = .ok (.iload_n 2, 1) := by decide +kernel
theorem dX12_beyond_5 : decode cX12_beyond 5 = .ok (.aload_n 0, 1) := by decide +kernel
theorem dX12_beyond_6 : decode cX12_beyond 6 = .ok (.getfield 254, 3) := by decide +kernel
theorem dX12_beyond_9 : decode cX12_beyond 9 = .ok (.if_icmp .ge 41, 3) := by decide +kernel
theorem dX12_beyond_12 : decode cX12_beyond 12 = .ok (.iload_n 1, 1) := by decide +kernel
theorem dX12_beyond_13 : decode cX12_beyond 13 = .ok (.aload_n 0, 1) := by decide +kernel
theorem dX12_beyond_14 : decode cX12_beyond 14 = .ok (.getfield 66, 3) := by decide +kernel
theorem dX12_beyond_17 : decode cX12_beyond 17 = .ok (.iload_n 2, 1) := by decide +kernel
theorem dX12_beyond_18 : decode cX12_beyond 18 = .ok (.iaload, 1) := by decide +kernel
theorem dX12_beyond_19 : decode cX12_beyond 19 = .ok (.ifCond .ne 22, 3) := by decide +kernel
theorem dX12_beyond_22 : decode cX12_beyond 22 = .ok (.aload_n 0, 1) := by decide +kernel
theorem dX12_beyond_23 : decode cX12_beyond 23 = .ok (.getfield 72, 3) := by decide +kernel
theorem dX12_beyond_26 : decode cX12_beyond 26 = .ok (.iload_n 2, 1) := by decide +kernel
theorem dX12_beyond_27 : decode cX12_beyond 27 = .ok (.iaload, 1) := by decide +kernel
theorem dX12_beyond_28 : decode cX12_beyond 28 = .ok (.aload_n 0, 1) := by decide +kernel
theorem dX12_beyond_29 : decode cX12_beyond 29 = .ok (.iload_n 2, 1) := by decide +kernel
theorem dX12_beyond_30 : decode cX12_beyond 30 = .ok (.iconst 2, 1) := by decide +kernel
theorem dX12_beyond_31 : decode cX12_beyond 31 = .ok (.invokevirtual 491, 3) := by decide +kernel
theorem dX12_beyond_34 : decode cX12_beyond 34 = .ok (.if_icmp .le 7, 3) := by decide +kernel
theorem dX12_beyond_37 : decode cX12_beyond 37 = .ok (.iconst 1, 1) := by decide +kernel
theorem dX12_beyond_38 : decode cX12_beyond 38 = .ok (.goto 4, 3) := by decide +kernel
theorem dX12_beyond_41 : decode cX12_beyond 41 = .ok (.iconst 0, 1) := by decide +kernel
theorem dX12_beyond_42 : decode cX12_beyond 42 = .ok (.iadd, 1) := by decide +kernel
theorem dX12_beyond_43 : decode cX12_beyond 43 = .ok (.istore_n 1, 1) := by decide +kernel
theorem dX12_beyond_44 : decode cX12_beyond 44 = .ok (.iinc 2 1, 3) := by decide +kernel
theorem dX12_beyond_47 : decode cX12_beyond 47 = .ok (.goto (-43), 3) := by decide +kernel
theorem dX12_beyond_50 : decode cX12_beyond 50 = .ok (.iload_n 1, 1) := by decide +kernel
theorem dX12_beyond_51 : decode cX12_beyond 51 = .ok (.ireturn, 1) := by decide +kernel
theorem dX12_ends_0 : decode cX12_ends 0 = .ok (.aload_n 0, 1) := by decide +kernel
theorem dX12_ends_1 : decode cX12_ends 1 = .ok (.iload_n 1, 1) := by decide +kernel
theorem dX12_ends_2 : decode cX12_ends 2 = .ok (.invokevirtual 282, 3) := by decide +kernel
theorem dX12_ends_5 : decode cX12_ends 5 = .ok (.ifCond .eq 12, 3) := by decide +kernel
theorem dX12_ends_8 : decode cX12_ends 8 = .ok (.aload_n 0, 1) := by decide +kernel
theorem dX12_ends_9 : decode cX12_ends 9 = .ok (.getfield 66, 3) := by decide +kernel
theorem dX12_ends_12 : decode cX12_ends 12 = .ok (.iload_n 1, 1) := by decide +kernel
theorem dX12_ends_13 : decode cX12_ends 13 = .ok (.iaload, 1) := by decide +kernel
theorem dX12_ends_14 : decode cX12_ends 14 = .ok (.ifCond .eq 5, 3) := by decide +kernel
theorem dX12_ends_17 : decode cX12_ends 17 = .ok (.iconst (-1), 1) := by decide +kernel
theorem dX12_ends_18 : decode cX12_ends 18 = .ok (.ireturn, 1) := by decide +kernel
theorem dX12_ends_19 : decode cX12_ends 19 = .ok (.iconst (-1), 1) := by decide +kernel
theorem dX12_ends_20 : decode cX12_ends 20 = .ok (.istore_n 2, 1) := by decide +kernel
theorem dX12_ends_21 : decode cX12_ends 21 = .ok (.iconst 0, 1) := by decide +kernel
theorem dX12_ends_22 : decode cX12_ends 22 = .ok (.istore_n 3, 1) := by decide +kernel
theorem dX12_ends_23 : decode cX12_ends 23 = .ok (.iload_n 3, 1) := by decide +kernel
theorem dX12_ends_24 : decode cX12_ends 24 = .ok (.aload_n 0, 1) := by decide +kernel
theorem dX12_ends_25 : decode cX12_ends 25 = .ok (.getfield 251, 3) := by decide +kernel
theorem dX12_ends_28 : decode cX12_ends 28 = .ok (.if_icmp .ge 31, 3) := by decide +kernel
theorem dX12_ends_31 : decode cX12_ends 31 = .ok (.iload_n 2, 1) := by decide +kernel
theorem dX12_ends_32 : decode cX12_ends 32 = .ok (.iconst (-1), 1) := by decide +kernel
theorem dX12_ends_33 : decode cX12_ends 33 = .ok (.if_icmp .eq 18, 3) := by decide +kernel
theorem dX12_ends_36 : decode cX12_ends 36 = .ok (.aload_n 0, 1) := by decide +kernel
theorem dX12_ends_37 : decode cX12_ends 37 = .ok (.iload_n 1, 1) := by decide +kernel
theorem dX12_ends_38 : decode cX12_ends 38 = .ok (.iload_n 3, 1) := by decide +kernel
theorem dX12_ends_39 : decode cX12_ends 39 = .ok (.invokevirtual 509, 3) := by decide +kernel
theorem dX12_ends_42 : decode cX12_ends 42 = .ok (.aload_n 0, 1) := by decide +kernel
theorem dX12_ends_43 : decode cX12_ends 43 = .ok (.iload_n 1, 1) := by decide +kernel
theorem dX12_ends_44 : decode cX12_ends 44 = .ok (.iload_n 2, 1) := by decide +kernel
theorem dX12_ends_45 : decode cX12_ends 45 = .ok (.invokevirtual 509, 3) := by decide +kernel
theorem dX12_ends_48 : decode cX12_ends 48 = .ok (.if_icmp .ge 5, 3) := by decide +kernel
theorem dX12_ends_51 : decode cX12_ends 51 = .ok (.iload_n 3, 1) := by decide +kernel
theorem dX12_ends_52 : decode cX12_ends 52 = .ok (.istore_n 2, 1) := by decide +kernel
theorem dX12_ends_53 : decode cX12_ends 53 = .ok (.iinc 3 1, 3) := by decide +kernel
theorem dX12_ends_56 : decode cX12_ends 56 = .ok (.goto (-33), 3) := by decide +kernel
theorem dX12_ends_59 : decode cX12_ends 59 = .ok (.iload_n 2, 1) := by decide +kernel
theorem dX12_ends_60 : decode cX12_ends 60 = .ok (.ireturn, 1) := by decide +kernel
theorem dX12_show_0 : decode cX12_show 0 = .ok (.aload_n 0, 1) := by decide +kernel
theorem dX12_show_1 : decode cX12_show 1 = .ok (.iload_n 2, 1) := by decide +kernel
theorem dX12_show_2 : decode cX12_show 2 = .ok (.invokevirtual 282, 3) := by decide +kernel
theorem dX12_show_5 : decode cX12_show 5 = .ok (.ifCond .eq 34, 3) := by decide +kernel
theorem dX12_show_8 : decode cX12_show 8 = .ok (.aload_n 0, 1) := by decide +kernel
theorem dX12_show_9 : decode cX12_show 9 = .ok (.iload_n 1, 1) := by decide +kernel
theorem dX12_show_10 : decode cX12_show 10 = .ok (.invokevirtual 282, 3) := by decide +kernel
theorem dX12_show_13 : decode cX12_show 13 = .ok (.ifCond .ne 14, 3) := by decide +kernel
theorem dX12_show_16 : decode cX12_show 16 = .ok (.aload_n 0, 1) := by decide +kernel
theorem dX12_show_17 : decode cX12_show 17 = .ok (.iload_n 1, 1) := by decide +kernel
theorem dX12_show_18 : decode cX12_show 18 = .ok (.bipush 100, 2) := by decide +kernel
theorem dX12_show_20 : decode cX12_show 20 = .ok (.isub, 1) := by decide +kernel
theorem dX12_show_21 : decode cX12_show 21 = .ok (.invokevirtual 261, 3) := by decide +kernel
theorem dX12_show_24 : decode cX12_show 24 = .ok (.ifCond .eq 15, 3) := by decide +kernel
theorem dX12_show_27 : decode cX12_show 27 = .ok (.iload_n 3, 1) := by decide +kernel
theorem dX12_show_28 : decode cX12_show 28 = .ok (.i2l, 1) := by decide +kernel
theorem dX12_show_29 : decode cX12_show 29 = .ok (.lconst 0, 1) := by decide +kernel
theorem dX12_show_30 : decode cX12_show 30 = .ok (.ldc2_w 545, 3) := by decide +kernel
theorem dX12_show_33 : decode cX12_show 33 = .ok (.invokestatic 247, 3) := by decide +kernel
theorem dX12_show_36 : decode cX12_show 36 = .ok (.ifCond .ne 5, 3) := by decide +kernel
theorem dX12_show_39 : decode cX12_show 39 = .ok (.iconst (-1), 1) := by decide +kernel
theorem dX12_show_40 : decode cX12_show 40 = .ok (.ireturn, 1) := by decide +kernel
theorem dX12_show_41 : decode cX12_show 41 = .ok (.aload_n 0, 1) := by decide +kernel
theorem dX12_show_42 : decode cX12_show 42 = .ok (.iload_n 2, 1) := by decide +kernel
theorem dX12_show_43 : decode cX12_show 43 = .ok (.invokevirtual 467, 3) := by decide +kernel
theorem dX12_show_46 : decode cX12_show 46 = .ok (.aload_n 0, 1) := by decide +kernel
theorem dX12_show_47 : decode cX12_show 47 = .ok (.getfield 188, 3) := by decide +kernel
theorem dX12_show_50 : decode cX12_show 50 = .ok (.bipush 17, 2) := by decide +kernel
theorem dX12_show_52 : decode cX12_show 52 = .ok (.iload_n 1, 1) := by decide +kernel
theorem dX12_show_53 : decode cX12_show 53 = .ok (.iload_n 2, 1) := by decide +kernel
theorem dX12_show_54 : decode cX12_show 54 = .ok (.if_icmp .ne 7, 3) := by decide +kernel
theorem dX12_show_57 : decode cX12_show 57 = .ok (.iconst 1, 1) := by decide +kernel
theorem dX12_show_58 : decode cX12_show 58 = .ok (.goto 4, 3) := by decide +kernel
theorem dX12_show_61 : decode cX12_show 61 = .ok (.iconst 0, 1) := by decide +kernel
theorem dX12_show_62 : decode cX12_show 62 = .ok (.iastore, 1) := by decide +kernel
theorem dX12_show_63 : decode cX12_show 63 = .ok (.aload_n 0, 1) := by decide +kernel
theorem dX12_show_64 : decode cX12_show 64 = .ok (.iload_n 1, 1) := by decide +kernel
theorem dX12_show_65 : decode cX12_show 65 = .ok (.bipush 100, 2) := by decide +kernel
theorem dX12_show_67 : decode cX12_show 67 = .ok (.isub, 1) := by decide +kernel
theorem dX12_show_68 : decode cX12_show 68 = .ok (.invokevirtual 261, 3) := by decide +kernel
theorem dX12_show_71 : decode cX12_show 71 = .ok (.ifCond .eq 19, 3) := by decide +kernel
theorem dX12_show_74 : decode cX12_show 74 = .ok (.aload_n 0, 1) := by decide +kernel
theorem dX12_show_75 : decode cX12_show 75 = .ok (.iload_n 2, 1) := by decide +kernel
theorem dX12_show_76 : decode cX12_show 76 = .ok (.invokevirtual 458, 3) := by decide +kernel
theorem dX12_show_79 : decode cX12_show 79 = .ok (.iload_n 1, 1) := by decide +kernel
theorem dX12_show_80 : decode cX12_show 80 = .ok (.bipush 100, 2) := by decide +kernel
theorem dX12_show_82 : decode cX12_show 82 = .ok (.isub, 1) := by decide +kernel
theorem dX12_show_83 : decode cX12_show 83 = .ok (.if_icmp .ne 7, 3) := by decide +kernel
theorem dX12_show_86 : decode cX12_show 86 = .ok (.iconst 1, 1) := by decide +kernel
theorem dX12_show_87 : decode cX12_show 87 = .ok (.goto 4, 3) := by decide +kernel
theorem dX12_show_90 : decode cX12_show 90 = .ok (.iconst 0, 1) := by decide +kernel
theorem dX12_show_91 : decode cX12_show 91 = .ok (.istore 4, 2) := by decide +kernel
theorem dX12_show_93 : decode cX12_show 93 = .ok (.aload_n 0, 1) := by decide +kernel
theorem dX12_show_94 : decode cX12_show 94 = .ok (.iconst 5, 1) := by decide +kernel
theorem dX12_show_95 : decode cX12_show 95 = .ok (.invokevirtual 482, 3) := by decide +kernel
theorem dX12_show_98 : decode cX12_show 98 = .ok (.iconst 1, 1) := by decide +kernel
theorem dX12_show_99 : decode cX12_show 99 = .ok (.if_icmp .eq 10, 3) := by decide +kernel
theorem dX12_show_102 : decode cX12_show 102 = .ok (.iload 4, 2) := by decide +kernel
theorem dX12_show_104 : decode cX12_show 104 = .ok (.ifCond .ne 5, 3) := by decide +kernel
theorem dX12_show_107 : decode cX12_show 107 = .ok (.iconst (-1), 1) := by decide +kernel
theorem dX12_show_108 : decode cX12_show 108 = .ok (.ireturn, 1) := by decide +kernel
theorem dX12_show_109 : decode cX12_show 109 = .ok (.iload_n 3, 1) := by decide +kernel
theorem dX12_show_110 : decode cX12_show 110 = .ok (.ifCond .ne 12, 3) := by decide +kernel
theorem dX12_show_113 : decode cX12_show 113 = .ok (.aload_n 0, 1) := by decide +kernel
theorem dX12_show_114 : decode cX12_show 114 = .ok (.getfield 66, 3) := by decide +kernel
theorem dX12_show_117 : decode cX12_show 117 = .ok (.iload_n 2, 1) := by decide +kernel
theorem dX12_show_118 : decode cX12_show 118 = .ok (.iaload, 1) := by decide +kernel
theorem dX12_show_119 : decode cX12_show 119 = .ok (.goto 36, 3) := by decide +kernel
theorem dX12_show_122 : decode cX12_show 122 = .ok (.iload_n 3, 1) := by decide +kernel
theorem dX12_show_123 : decode cX12_show 123 = .ok (.iconst 1, 1) := by decide +kernel
theorem dX12_show_124 : decode cX12_show 124 = .ok (.if_icmp .ne 11, 3) := by decide +kernel
theorem dX12_show_127 : decode cX12_show 127 = .ok (.aload_n 0, 1) := by decide +kernel
theorem dX12_show_128 : decode cX12_show 128 = .ok (.iload_n 2, 1) := by decide +kernel
theorem dX12_show_129 : decode cX12_show 129 = .ok (.invokevirtual 458, 3) := by decide +kernel
theorem dX12_show_132 : decode cX12_show 132 = .ok (.goto 23, 3) := by decide +kernel
theorem dX12_show_135 : decode cX12_show 135 = .ok (.iload_n 3, 1) := by decide +kernel
theorem dX12_show_136 : decode cX12_show 136 = .ok (.iconst 2, 1) := by decide +kernel
theorem dX12_show_137 : decode cX12_show 137 = .ok (.if_icmp .ne 12, 3) := by decide +kernel
theorem dX12_show_140 : decode cX12_show 140 = .ok (.aload_n 0, 1) := by decide +kernel
theorem dX12_show_141 : decode cX12_show 141 = .ok (.getfield 48, 3) := by decide +kernel
theorem dX12_show_144 : decode cX12_show 144 = .ok (.iload_n 2, 1) := by decide +kernel
theorem dX12_show_145 : decode cX12_show 145 = .ok (.iaload, 1) := by decide +kernel
theorem dX12_show_146 : decode cX12_show 146 = .ok (.goto 9, 3) := by decide +kernel
theorem dX12_show_149 : decode cX12_show 149 = .ok (.aload_n 0, 1) := by decide +kernel
theorem dX12_show_150 : decode cX12_show 150 = .ok (.getfield 72, 3) := by decide +kernel
theorem dX12_show_153 : decode cX12_show 153 = .ok (.iload_n 2, 1) := by decide +kernel
theorem dX12_show_154 : decode cX12_show 154 = .ok (.iaload, 1) := by decide +kernel
theorem dX12_show_155 : decode cX12_show 155 = .ok (.ireturn, 1) := by decide +kernel
theorem dX12_looks_0 : decode cX12_looks 0 = .ok (.iconst 0, 1) := by decide +kernel
theorem dX12_looks_1 : decode cX12_looks 1 = .ok (.istore_n 1, 1) := by decide +kernel
theorem dX12_looks_2 : decode cX12_looks 2 = .ok (.iconst 0, 1) := by decide +kernel
theorem dX12_looks_3 : decode cX12_looks 3 = .ok (.istore_n 2, 1) := by decide +kernel
theorem dX12_looks_4 : decode cX12_looks 4 = .ok (.iconst 0, 1) := by decide +kernel
theorem dX12_looks_5 : decode cX12_looks 5 = .ok (.istore_n 3, 1) := by decide +kernel
theorem dX12_looks_6 : decode cX12_looks 6 = .ok (.iconst 0, 1) := by decide +kernel
theorem dX12_looks_7 : decode cX12_looks 7 = .ok (.istore 4, 2) := by decide +kernel
theorem dX12_looks_9 : decode cX12_looks 9 = .ok (.iload 4, 2) := by decide +kernel
theorem dX12_looks_11 : decode cX12_looks 11 = .ok (.aload_n 0, 1) := by decide +kernel
theorem dX12_looks_12 : decode cX12_looks 12 = .ok (.getfield 547, 3) := by decide +kernel
theorem dX12_looks_15 : decode cX12_looks 15 = .ok (.if_icmp .ge 156, 3) := by decide +kernel
theorem dX12_looks_18 : decode cX12_looks 18 = .ok (.aload_n 0, 1) := by decide +kernel
theorem dX12_looks_19 : decode cX12_looks 19 = .ok (.getfield 223, 3) := by decide +kernel
theorem dX12_looks_22 : decode cX12_looks 22 = .ok (.iload 4, 2) := by decide +kernel
theorem dX12_looks_24 : decode cX12_looks 24 = .ok (.iaload, 1) := by decide +kernel
theorem dX12_looks_25 : decode cX12_looks 25 = .ok (.iconst (-1), 1) := by decide +kernel
theorem dX12_looks_26 : decode cX12_looks 26 = .ok (.if_icmp .ne 6, 3) := by decide +kernel
theorem dX12_looks_29 : decode cX12_looks 29 = .ok (.goto 136, 3) := by decide +kernel
theorem dX12_looks_32 : decode cX12_looks 32 = .ok (.iload_n 1, 1) := by decide +kernel
theorem dX12_looks_33 : decode cX12_looks 33 = .ok (.aload_n 0, 1) := by decide +kernel
theorem dX12_looks_34 : decode cX12_looks 34 = .ok (.getfield 48, 3) := by decide +kernel
theorem dX12_looks_37 : decode cX12_looks 37 = .ok (.aload_n 0, 1) := by decide +kernel
theorem dX12_looks_38 : decode cX12_looks 38 = .ok (.getfield 211, 3) := by decide +kernel
theorem dX12_looks_41 : decode cX12_looks 41 = .ok (.iload 4, 2) := by decide +kernel
theorem dX12_looks_43 : decode cX12_looks 43 = .ok (.iaload, 1) := by decide +kernel
theorem dX12_looks_44 : decode cX12_looks 44 = .ok (.iaload, 1) := by decide +kernel
theorem dX12_looks_45 : decode cX12_looks 45 = .ok (.iadd, 1) := by decide +kernel
theorem dX12_looks_46 : decode cX12_looks 46 = .ok (.istore_n 1, 1) := by decide +kernel
theorem dX12_looks_47 : decode cX12_looks 47 = .ok (.iload_n 3, 1) := by decide +kernel
theorem dX12_looks_48 : decode cX12_looks 48 = .ok (.aload_n 0, 1) := by decide +kernel
theorem dX12_looks_49 : decode cX12_looks 49 = .ok (.getfield 78, 3) := by decide +kernel
theorem dX12_looks_52 : decode cX12_looks 52 = .ok (.aload_n 0, 1) := by decide +kernel
theorem dX12_looks_53 : decode cX12_looks 53 = .ok (.getfield 211, 3) := by decide +kernel
theorem dX12_looks_56 : decode cX12_looks 56 = .ok (.iload 4, 2) := by decide +kernel
theorem dX12_looks_58 : decode cX12_looks 58 = .ok (.iaload, 1) := by decide +kernel
theorem dX12_looks_59 : decode cX12_looks 59 = .ok (.iaload, 1) := by decide +kernel
theorem dX12_looks_60 : decode cX12_looks 60 = .ok (.aload_n 0, 1) := by decide +kernel
theorem dX12_looks_61 : decode cX12_looks 61 = .ok (.getfield 30, 3) := by decide +kernel
theorem dX12_looks_64 : decode cX12_looks 64 = .ok (.aload_n 0, 1) := by decide +kernel
theorem dX12_looks_65 : decode cX12_looks 65 = .ok (.getfield 223, 3) := by decide +kernel
theorem dX12_looks_68 : decode cX12_looks 68 = .ok (.iload 4, 2) := by decide +kernel
theorem dX12_looks_70 : decode cX12_looks 70 = .ok (.iaload, 1) := by decide +kernel
theorem dX12_looks_71 : decode cX12_looks 71 = .ok (.iaload, 1) := by decide +kernel
theorem dX12_looks_72 : decode cX12_looks 72 = .ok (.if_icmp .ne 7, 3) := by decide +kernel
theorem dX12_looks_75 : decode cX12_looks 75 = .ok (.iconst 1, 1) := by decide +kernel
theorem dX12_looks_76 : decode cX12_looks 76 = .ok (.goto 4, 3) := by decide +kernel
theorem dX12_looks_79 : decode cX12_looks 79 = .ok (.iconst 0, 1) := by decide +kernel
theorem dX12_looks_80 : decode cX12_looks 80 = .ok (.iadd, 1) := by decide +kernel
theorem dX12_looks_81 : decode cX12_looks 81 = .ok (.istore_n 3, 1) := by decide +kernel
theorem dX12_looks_82 : decode cX12_looks 82 = .ok (.iconst 0, 1) := by decide +kernel
theorem dX12_looks_83 : decode cX12_looks 83 = .ok (.istore 5, 2) := by decide +kernel
theorem dX12_looks_85 : decode cX12_looks 85 = .ok (.iload 5, 2) := by decide +kernel
theorem dX12_looks_87 : decode cX12_looks 87 = .ok (.iload 4, 2) := by decide +kernel
theorem dX12_looks_89 : decode cX12_looks 89 = .ok (.if_icmp .ge 76, 3) := by decide +kernel
theorem dX12_looks_92 : decode cX12_looks 92 = .ok (.iload_n 2, 1) := by decide +kernel
theorem dX12_looks_93 : decode cX12_looks 93 = .ok (.aload_n 0, 1) := by decide +kernel
theorem dX12_looks_94 : decode cX12_looks 94 = .ok (.getfield 223, 3) := by decide +kernel
theorem dX12_looks_97 : decode cX12_looks 97 = .ok (.iload 5, 2) := by decide +kernel
theorem dX12_looks_99 : decode cX12_looks 99 = .ok (.iaload, 1) := by decide +kernel
theorem dX12_looks_100 : decode cX12_looks 100 = .ok (.iconst (-1), 1) := by decide +kernel
theorem dX12_looks_101 : decode cX12_looks 101 = .ok (.if_icmp .eq 55, 3) := by decide +kernel
theorem dX12_looks_104 : decode cX12_looks 104 = .ok (.aload_n 0, 1) := by decide +kernel
theorem dX12_looks_105 : decode cX12_looks 105 = .ok (.getfield 30, 3) := by decide +kernel
theorem dX12_looks_108 : decode cX12_looks 108 = .ok (.aload_n 0, 1) := by decide +kernel
theorem dX12_looks_109 : decode cX12_looks 109 = .ok (.getfield 223, 3) := by decide +kernel
theorem dX12_looks_112 : decode cX12_looks 112 = .ok (.iload 5, 2) := by decide +kernel
theorem dX12_looks_114 : decode cX12_looks 114 = .ok (.iaload, 1) := by decide +kernel
theorem dX12_looks_115 : decode cX12_looks 115 = .ok (.iaload, 1) := by decide +kernel
theorem dX12_looks_116 : decode cX12_looks 116 = .ok (.aload_n 0, 1) := by decide +kernel
theorem dX12_looks_117 : decode cX12_looks 117 = .ok (.getfield 30, 3) := by decide +kernel
theorem dX12_looks_120 : decode cX12_looks 120 = .ok (.aload_n 0, 1) := by decide +kernel
theorem dX12_looks_121 : decode cX12_looks 121 = .ok (.getfield 223, 3) := by decide +kernel
theorem dX12_looks_124 : decode cX12_looks 124 = .ok (.iload 4, 2) := by decide +kernel
theorem dX12_looks_126 : decode cX12_looks 126 = .ok (.iaload, 1) := by decide +kernel
theorem dX12_looks_127 : decode cX12_looks 127 = .ok (.iaload, 1) := by decide +kernel
theorem dX12_looks_128 : decode cX12_looks 128 = .ok (.if_icmp .ne 28, 3) := by decide +kernel
theorem dX12_looks_131 : decode cX12_looks 131 = .ok (.aload_n 0, 1) := by decide +kernel
theorem dX12_looks_132 : decode cX12_looks 132 = .ok (.aload_n 0, 1) := by decide +kernel
theorem dX12_looks_133 : decode cX12_looks 133 = .ok (.getfield 211, 3) := by decide +kernel
theorem dX12_looks_136 : decode cX12_looks 136 = .ok (.iload 5, 2) := by decide +kernel
theorem dX12_looks_138 : decode cX12_looks 138 = .ok (.iaload, 1) := by decide +kernel
theorem dX12_looks_139 : decode cX12_looks 139 = .ok (.aload_n 0, 1) := by decide +kernel
theorem dX12_looks_140 : decode cX12_looks 140 = .ok (.getfield 211, 3) := by decide +kernel
theorem dX12_looks_143 : decode cX12_looks 143 = .ok (.iload 4, 2) := by decide +kernel
theorem dX12_looks_145 : decode cX12_looks 145 = .ok (.iaload, 1) := by decide +kernel
theorem dX12_looks_146 : decode cX12_looks 146 = .ok (.invokevirtual 340, 3) := by decide +kernel
theorem dX12_looks_149 : decode cX12_looks 149 = .ok (.ifCond .eq 7, 3) := by decide +kernel
theorem dX12_looks_152 : decode cX12_looks 152 = .ok (.iconst 1, 1) := by decide +kernel
theorem dX12_looks_153 : decode cX12_looks 153 = .ok (.goto 4, 3) := by decide +kernel
theorem dX12_looks_156 : decode cX12_looks 156 = .ok (.iconst 0, 1) := by decide +kernel
theorem dX12_looks_157 : decode cX12_looks 157 = .ok (.iadd, 1) := by decide +kernel
theorem dX12_looks_158 : decode cX12_looks 158 = .ok (.istore_n 2, 1) := by decide +kernel
theorem dX12_looks_159 : decode cX12_looks 159 = .ok (.iinc 5 1, 3) := by decide +kernel
theorem dX12_looks_162 : decode cX12_looks 162 = .ok (.goto (-77), 3) := by decide +kernel
theorem dX12_looks_165 : decode cX12_looks 165 = .ok (.iinc 4 1, 3) := by decide +kernel
theorem dX12_looks_168 : decode cX12_looks 168 = .ok (.goto (-159), 3) := by decide +kernel
theorem dX12_looks_171 : decode cX12_looks 171 = .ok (.iload_n 1, 1) := by decide +kernel
theorem dX12_looks_172 : decode cX12_looks 172 = .ok (.aload_n 0, 1) := by decide +kernel
theorem dX12_looks_173 : decode cX12_looks 173 = .ok (.getfield 550, 3) := by decide +kernel
theorem dX12_looks_176 : decode cX12_looks 176 = .ok (.if_icmp .lt 35, 3) := by decide +kernel
theorem dX12_looks_179 : decode cX12_looks 179 = .ok (.iload_n 1, 1) := by decide +kernel
theorem dX12_looks_180 : decode cX12_looks 180 = .ok (.aload_n 0, 1) := by decide +kernel
theorem dX12_looks_181 : decode cX12_looks 181 = .ok (.getfield 550, 3) := by decide +kernel
theorem dX12_looks_184 : decode cX12_looks 184 = .ok (.if_icmp .ne 28, 3) := by decide +kernel
theorem dX12_looks_187 : decode cX12_looks 187 = .ok (.iload_n 2, 1) := by decide +kernel
theorem dX12_looks_188 : decode cX12_looks 188 = .ok (.aload_n 0, 1) := by decide +kernel
theorem dX12_looks_189 : decode cX12_looks 189 = .ok (.getfield 553, 3) := by decide +kernel
theorem dX12_looks_192 : decode cX12_looks 192 = .ok (.if_icmp .lt 19, 3) := by decide +kernel
theorem dX12_looks_195 : decode cX12_looks 195 = .ok (.iload_n 2, 1) := by decide +kernel
theorem dX12_looks_196 : decode cX12_looks 196 = .ok (.aload_n 0, 1) := by decide +kernel
theorem dX12_looks_197 : decode cX12_looks 197 = .ok (.getfield 553, 3) := by decide +kernel
theorem dX12_looks_200 : decode cX12_looks 200 = .ok (.if_icmp .ne 12, 3) := by decide +kernel
theorem dX12_looks_203 : decode cX12_looks 203 = .ok (.iload_n 3, 1) := by decide +kernel
theorem dX12_looks_204 : decode cX12_looks 204 = .ok (.aload_n 0, 1) := by decide +kernel
theorem dX12_looks_205 : decode cX12_looks 205 = .ok (.getfield 556, 3) := by decide +kernel
theorem dX12_looks_208 : decode cX12_looks 208 = .ok (.if_icmp .gt 4, 3) := by decide +kernel
theorem dX12_looks_211 : decode cX12_looks 211 = .ok (.return_, 1) := by decide +kernel
theorem dX12_looks_212 : decode cX12_looks 212 = .ok (.aload_n 0, 1) := by decide +kernel
theorem dX12_looks_213 : decode cX12_looks 213 = .ok (.iload_n 1, 1) := by decide +kernel
theorem dX12_looks_214 : decode cX12_looks 214 = .ok (.putfield 550, 3) := by decide +kernel
theorem dX12_looks_217 : decode cX12_looks 217 = .ok (.aload_n 0, 1) := by decide +kernel
theorem dX12_looks_218 : decode cX12_looks 218 = .ok (.iload_n 2, 1) := by decide +kernel
theorem dX12_looks_219 : decode cX12_looks 219 = .ok (.putfield 553, 3) := by decide +kernel
theorem dX12_looks_222 : decode cX12_looks 222 = .ok (.aload_n 0, 1) := by decide +kernel
theorem dX12_looks_223 : decode cX12_looks 223 = .ok (.iload_n 3, 1) := by decide +kernel
theorem dX12_looks_224 : decode cX12_looks 224 = .ok (.putfield 556, 3) := by decide +kernel
theorem dX12_looks_227 : decode cX12_looks 227 = .ok (.iconst 0, 1) := by decide +kernel
theorem dX12_looks_228 : decode cX12_looks 228 = .ok (.istore 4, 2) := by decide +kernel
theorem dX12_looks_230 : decode cX12_looks 230 = .ok (.iload 4, 2) := by decide +kernel
theorem dX12_looks_232 : decode cX12_looks 232 = .ok (.aload_n 0, 1) := by decide +kernel
theorem dX12_looks_233 : decode cX12_looks 233 = .ok (.getfield 547, 3) := by decide +kernel
theorem dX12_looks_236 : decode cX12_looks 236 = .ok (.if_icmp .ge 23, 3) := by decide +kernel
theorem dX12_looks_239 : decode cX12_looks 239 = .ok (.aload_n 0, 1) := by decide +kernel
theorem dX12_looks_240 : decode cX12_looks 240 = .ok (.getfield 226, 3) := by decide +kernel
theorem dX12_looks_243 : decode cX12_looks 243 = .ok (.iload 4, 2) := by decide +kernel
theorem dX12_looks_245 : decode cX12_looks 245 = .ok (.aload_n 0, 1) := by decide +kernel
theorem dX12_looks_246 : decode cX12_looks 246 = .ok (.getfield 223, 3) := by decide +kernel
theorem dX12_looks_249 : decode cX12_looks 249 = .ok (.iload 4, 2) := by decide +kernel
theorem dX12_looks_251 : decode cX12_looks 251 = .ok (.iaload, 1) := by decide +kernel
theorem dX12_looks_252 : decode cX12_looks 252 = .ok (.iastore, 1) := by decide +kernel
theorem dX12_looks_253 : decode cX12_looks 253 = .ok (.iinc 4 1, 3) := by decide +kernel
theorem dX12_looks_256 : decode cX12_looks 256 = .ok (.goto (-26), 3) := by decide +kernel
theorem dX12_looks_259 : decode cX12_looks 259 = .ok (.return_, 1) := by decide +kernel
theorem dX12_tries_0 : decode cX12_tries 0 = .ok (.iload_n 1, 1) := by decide +kernel
theorem dX12_tries_1 : decode cX12_tries 1 = .ok (.aload_n 0, 1) := by decide +kernel
theorem dX12_tries_2 : decode cX12_tries 2 = .ok (.getfield 547, 3) := by decide +kernel
theorem dX12_tries_5 : decode cX12_tries 5 = .ok (.if_icmp .ne 8, 3) := by decide +kernel
theorem dX12_tries_8 : decode cX12_tries 8 = .ok (.aload_n 0, 1) := by decide +kernel
theorem dX12_tries_9 : decode cX12_tries 9 = .ok (.invokevirtual 559, 3) := by decide +kernel
theorem dX12_tries_12 : decode cX12_tries 12 = .ok (.return_, 1) := by decide +kernel
theorem dX12_tries_13 : decode cX12_tries 13 = .ok (.iconst 0, 1) := by decide +kernel
theorem dX12_tries_14 : decode cX12_tries 14 = .ok (.istore_n 2, 1) := by decide +kernel
theorem dX12_tries_15 : decode cX12_tries 15 = .ok (.iload_n 2, 1) := by decide +kernel
theorem dX12_tries_16 : decode cX12_tries 16 = .ok (.aload_n 0, 1) := by decide +kernel
theorem dX12_tries_17 : decode cX12_tries 17 = .ok (.getfield 562, 3) := by decide +kernel
theorem dX12_tries_20 : decode cX12_tries 20 = .ok (.if_icmp .ge 77, 3) := by decide +kernel
theorem dX12_tries_23 : decode cX12_tries 23 = .ok (.aload_n 0, 1) := by decide +kernel
theorem dX12_tries_24 : decode cX12_tries 24 = .ok (.aload_n 0, 1) := by decide +kernel
theorem dX12_tries_25 : decode cX12_tries 25 = .ok (.getfield 211, 3) := by decide +kernel
theorem dX12_tries_28 : decode cX12_tries 28 = .ok (.iload_n 1, 1) := by decide +kernel
theorem dX12_tries_29 : decode cX12_tries 29 = .ok (.iaload, 1) := by decide +kernel
theorem dX12_tries_30 : decode cX12_tries 30 = .ok (.aload_n 0, 1) := by decide +kernel
theorem dX12_tries_31 : decode cX12_tries 31 = .ok (.getfield 214, 3) := by decide +kernel
theorem dX12_tries_34 : decode cX12_tries 34 = .ok (.iload_n 2, 1) := by decide +kernel
theorem dX12_tries_35 : decode cX12_tries 35 = .ok (.iaload, 1) := by decide +kernel
theorem dX12_tries_36 : decode cX12_tries 36 = .ok (.invokevirtual 509, 3) := by decide +kernel
theorem dX12_tries_39 : decode cX12_tries 39 = .ok (.ifCond .eq 6, 3) := by decide +kernel
theorem dX12_tries_42 : decode cX12_tries 42 = .ok (.goto 49, 3) := by decide +kernel
theorem dX12_tries_45 : decode cX12_tries 45 = .ok (.aload_n 0, 1) := by decide +kernel
theorem dX12_tries_46 : decode cX12_tries 46 = .ok (.getfield 223, 3) := by decide +kernel
theorem dX12_tries_49 : decode cX12_tries 49 = .ok (.iload_n 1, 1) := by decide +kernel
theorem dX12_tries_50 : decode cX12_tries 50 = .ok (.aload_n 0, 1) := by decide +kernel
theorem dX12_tries_51 : decode cX12_tries 51 = .ok (.getfield 214, 3) := by decide +kernel
theorem dX12_tries_54 : decode cX12_tries 54 = .ok (.iload_n 2, 1) := by decide +kernel
theorem dX12_tries_55 : decode cX12_tries 55 = .ok (.iaload, 1) := by decide +kernel
theorem dX12_tries_56 : decode cX12_tries 56 = .ok (.iastore, 1) := by decide +kernel
theorem dX12_tries_57 : decode cX12_tries 57 = .ok (.aload_n 0, 1) := by decide +kernel
theorem dX12_tries_58 : decode cX12_tries 58 = .ok (.aload_n 0, 1) := by decide +kernel
theorem dX12_tries_59 : decode cX12_tries 59 = .ok (.getfield 211, 3) := by decide +kernel
theorem dX12_tries_62 : decode cX12_tries 62 = .ok (.iload_n 1, 1) := by decide +kernel
theorem dX12_tries_63 : decode cX12_tries 63 = .ok (.iaload, 1) := by decide +kernel
theorem dX12_tries_64 : decode cX12_tries 64 = .ok (.aload_n 0, 1) := by decide +kernel
theorem dX12_tries_65 : decode cX12_tries 65 = .ok (.getfield 214, 3) := by decide +kernel
theorem dX12_tries_68 : decode cX12_tries 68 = .ok (.iload_n 2, 1) := by decide +kernel
theorem dX12_tries_69 : decode cX12_tries 69 = .ok (.iaload, 1) := by decide +kernel
theorem dX12_tries_70 : decode cX12_tries 70 = .ok (.invokevirtual 521, 3) := by decide +kernel
theorem dX12_tries_73 : decode cX12_tries 73 = .ok (.aload_n 0, 1) := by decide +kernel
theorem dX12_tries_74 : decode cX12_tries 74 = .ok (.iload_n 1, 1) := by decide +kernel
theorem dX12_tries_75 : decode cX12_tries 75 = .ok (.iconst 1, 1) := by decide +kernel
theorem dX12_tries_76 : decode cX12_tries 76 = .ok (.iadd, 1) := by decide +kernel
theorem dX12_tries_77 : decode cX12_tries 77 = .ok (.invokevirtual 565, 3) := by decide +kernel
theorem dX12_tries_80 : decode cX12_tries 80 = .ok (.aload_n 0, 1) := by decide +kernel
theorem dX12_tries_81 : decode cX12_tries 81 = .ok (.aload_n 0, 1) := by decide +kernel
theorem dX12_tries_82 : decode cX12_tries 82 = .ok (.getfield 211, 3) := by decide +kernel
theorem dX12_tries_85 : decode cX12_tries 85 = .ok (.iload_n 1, 1) := by decide +kernel
theorem dX12_tries_86 : decode cX12_tries 86 = .ok (.iaload, 1) := by decide +kernel
theorem dX12_tries_87 : decode cX12_tries 87 = .ok (.iconst (-1), 1) := by decide +kernel
theorem dX12_tries_88 : decode cX12_tries 88 = .ok (.invokevirtual 521, 3) := by decide +kernel
theorem dX12_tries_91 : decode cX12_tries 91 = .ok (.iinc 2 1, 3) := by decide +kernel
theorem dX12_tries_94 : decode cX12_tries 94 = .ok (.goto (-79), 3) := by decide +kernel
theorem dX12_tries_97 : decode cX12_tries 97 = .ok (.aload_n 0, 1) := by decide +kernel
theorem dX12_tries_98 : decode cX12_tries 98 = .ok (.getfield 223, 3) := by decide +kernel
theorem dX12_tries_101 : decode cX12_tries 101 = .ok (.iload_n 1, 1) := by decide +kernel
theorem dX12_tries_102 : decode cX12_tries 102 = .ok (.iconst (-1), 1) := by decide +kernel
theorem dX12_tries_103 : decode cX12_tries 103 = .ok (.iastore, 1) := by decide +kernel
theorem dX12_tries_104 : decode cX12_tries 104 = .ok (.aload_n 0, 1) := by decide +kernel
theorem dX12_tries_105 : decode cX12_tries 105 = .ok (.iload_n 1, 1) := by decide +kernel
theorem dX12_tries_106 : decode cX12_tries 106 = .ok (.iconst 1, 1) := by decide +kernel
theorem dX12_tries_107 : decode cX12_tries 107 = .ok (.iadd, 1) := by decide +kernel
theorem dX12_tries_108 : decode cX12_tries 108 = .ok (.invokevirtual 565, 3) := by decide +kernel
theorem dX12_tries_111 : decode cX12_tries 111 = .ok (.return_, 1) := by decide +kernel
theorem dX12_canAsk_0 : decode cX12_canAsk 0 = .ok (.aload_n 0, 1) := by decide +kernel
theorem dX12_canAsk_1 : decode cX12_canAsk 1 = .ok (.iconst 0, 1) := by decide +kernel
theorem dX12_canAsk_2 : decode cX12_canAsk 2 = .ok (.putfield 547, 3) := by decide +kernel
theorem dX12_canAsk_5 : decode cX12_canAsk 5 = .ok (.aload_n 0, 1) := by decide +kernel
theorem dX12_canAsk_6 : decode cX12_canAsk 6 = .ok (.iconst 0, 1) := by decide +kernel
theorem dX12_canAsk_7 : decode cX12_canAsk 7 = .ok (.putfield 562, 3) := by decide +kernel
theorem dX12_canAsk_10 : decode cX12_canAsk 10 = .ok (.iload_n 1, 1) := by decide +kernel
theorem dX12_canAsk_11 : decode cX12_canAsk 11 = .ok (.i2l, 1) := by decide +kernel
theorem dX12_canAsk_12 : decode cX12_canAsk 12 = .ok (.lconst 1, 1) := by decide +kernel
theorem dX12_canAsk_13 : decode cX12_canAsk 13 = .ok (.iconst 1, 1) := by decide +kernel
theorem dX12_canAsk_14 : decode cX12_canAsk 14 = .ok (.aload_n 0, 1) := by decide +kernel
theorem dX12_canAsk_15 : decode cX12_canAsk 15 = .ok (.getfield 254, 3) := by decide +kernel
theorem dX12_canAsk_18 : decode cX12_canAsk 18 = .ok (.ishl, 1) := by decide +kernel
theorem dX12_canAsk_19 : decode cX12_canAsk 19 = .ok (.iconst 1, 1) := by decide +kernel
theorem dX12_canAsk_20 : decode cX12_canAsk 20 = .ok (.isub, 1) := by decide +kernel
theorem dX12_canAsk_21 : decode cX12_canAsk 21 = .ok (.i2l, 1) := by decide +kernel
theorem dX12_canAsk_22 : decode cX12_canAsk 22 = .ok (.invokestatic 247, 3) := by decide +kernel
theorem dX12_canAsk_25 : decode cX12_canAsk 25 = .ok (.ifCond .eq 21, 3) := by decide +kernel
theorem dX12_canAsk_28 : decode cX12_canAsk 28 = .ok (.iload_n 2, 1) := by decide +kernel
theorem dX12_canAsk_29 : decode cX12_canAsk 29 = .ok (.i2l, 1) := by decide +kernel
theorem dX12_canAsk_30 : decode cX12_canAsk 30 = .ok (.lconst 1, 1) := by decide +kernel
theorem dX12_canAsk_31 : decode cX12_canAsk 31 = .ok (.iconst 1, 1) := by decide +kernel
theorem dX12_canAsk_32 : decode cX12_canAsk 32 = .ok (.aload_n 0, 1) := by decide +kernel
theorem dX12_canAsk_33 : decode cX12_canAsk 33 = .ok (.getfield 251, 3) := by decide +kernel
theorem dX12_canAsk_36 : decode cX12_canAsk 36 = .ok (.ishl, 1) := by decide +kernel
theorem dX12_canAsk_37 : decode cX12_canAsk 37 = .ok (.iconst 1, 1) := by decide +kernel
theorem dX12_canAsk_38 : decode cX12_canAsk 38 = .ok (.isub, 1) := by decide +kernel
theorem dX12_canAsk_39 : decode cX12_canAsk 39 = .ok (.i2l, 1) := by decide +kernel
theorem dX12_canAsk_40 : decode cX12_canAsk 40 = .ok (.invokestatic 247, 3) := by decide +kernel
theorem dX12_canAsk_43 : decode cX12_canAsk 43 = .ok (.ifCond .ne 5, 3) := by decide +kernel
theorem dX12_canAsk_46 : decode cX12_canAsk 46 = .ok (.iconst 0, 1) := by decide +kernel
theorem dX12_canAsk_47 : decode cX12_canAsk 47 = .ok (.ireturn, 1) := by decide +kernel
theorem dX12_canAsk_48 : decode cX12_canAsk 48 = .ok (.iconst 0, 1) := by decide +kernel
theorem dX12_canAsk_49 : decode cX12_canAsk 49 = .ok (.istore_n 3, 1) := by decide +kernel
theorem dX12_canAsk_50 : decode cX12_canAsk 50 = .ok (.iload_n 3, 1) := by decide +kernel
theorem dX12_canAsk_51 : decode cX12_canAsk 51 = .ok (.aload_n 0, 1) := by decide +kernel
theorem dX12_canAsk_52 : decode cX12_canAsk 52 = .ok (.getfield 254, 3) := by decide +kernel
theorem dX12_canAsk_55 : decode cX12_canAsk 55 = .ok (.if_icmp .ge 61, 3) := by decide +kernel
theorem dX12_canAsk_58 : decode cX12_canAsk 58 = .ok (.iload_n 1, 1) := by decide +kernel
theorem dX12_canAsk_59 : decode cX12_canAsk 59 = .ok (.iload_n 3, 1) := by decide +kernel
theorem dX12_canAsk_60 : decode cX12_canAsk 60 = .ok (.ishr, 1) := by decide +kernel
theorem dX12_canAsk_61 : decode cX12_canAsk 61 = .ok (.iconst 1, 1) := by decide +kernel
theorem dX12_canAsk_62 : decode cX12_canAsk 62 = .ok (.iand, 1) := by decide +kernel
theorem dX12_canAsk_63 : decode cX12_canAsk 63 = .ok (.ifCond .ne 6, 3) := by decide +kernel
theorem dX12_canAsk_66 : decode cX12_canAsk 66 = .ok (.goto 44, 3) := by decide +kernel
theorem dX12_canAsk_69 : decode cX12_canAsk 69 = .ok (.aload_n 0, 1) := by decide +kernel
theorem dX12_canAsk_70 : decode cX12_canAsk 70 = .ok (.getfield 547, 3) := by decide +kernel
theorem dX12_canAsk_73 : decode cX12_canAsk 73 = .ok (.bipush 6, 2) := by decide +kernel
theorem dX12_canAsk_75 : decode cX12_canAsk 75 = .ok (.if_icmp .eq 13, 3) := by decide +kernel
theorem dX12_canAsk_78 : decode cX12_canAsk 78 = .ok (.aload_n 0, 1) := by decide +kernel
theorem dX12_canAsk_79 : decode cX12_canAsk 79 = .ok (.getfield 66, 3) := by decide +kernel
theorem dX12_canAsk_82 : decode cX12_canAsk 82 = .ok (.iload_n 3, 1) := by decide +kernel
theorem dX12_canAsk_83 : decode cX12_canAsk 83 = .ok (.iaload, 1) := by decide +kernel
theorem dX12_canAsk_84 : decode cX12_canAsk 84 = .ok (.iconst 2, 1) := by decide +kernel
theorem dX12_canAsk_85 : decode cX12_canAsk 85 = .ok (.if_icmp .ne 5, 3) := by decide +kernel
theorem dX12_canAsk_88 : decode cX12_canAsk 88 = .ok (.iconst 0, 1) := by decide +kernel
theorem dX12_canAsk_89 : decode cX12_canAsk 89 = .ok (.ireturn, 1) := by decide +kernel
theorem dX12_canAsk_90 : decode cX12_canAsk 90 = .ok (.aload_n 0, 1) := by decide +kernel
theorem dX12_canAsk_91 : decode cX12_canAsk 91 = .ok (.getfield 211, 3) := by decide +kernel
theorem dX12_canAsk_94 : decode cX12_canAsk 94 = .ok (.aload_n 0, 1) := by decide +kernel
theorem dX12_canAsk_95 : decode cX12_canAsk 95 = .ok (.getfield 547, 3) := by decide +kernel
theorem dX12_canAsk_98 : decode cX12_canAsk 98 = .ok (.iload_n 3, 1) := by decide +kernel
theorem dX12_canAsk_99 : decode cX12_canAsk 99 = .ok (.iastore, 1) := by decide +kernel
theorem dX12_canAsk_100 : decode cX12_canAsk 100 = .ok (.aload_n 0, 1) := by decide +kernel
theorem dX12_canAsk_101 : decode cX12_canAsk 101 = .ok (.dup, 1) := by decide +kernel
theorem dX12_canAsk_102 : decode cX12_canAsk 102 = .ok (.getfield 547, 3) := by decide +kernel
theorem dX12_canAsk_105 : decode cX12_canAsk 105 = .ok (.iconst 1, 1) := by decide +kernel
theorem dX12_canAsk_106 : decode cX12_canAsk 106 = .ok (.iadd, 1) := by decide +kernel
theorem dX12_canAsk_107 : decode cX12_canAsk 107 = .ok (.putfield 547, 3) := by decide +kernel
theorem dX12_canAsk_110 : decode cX12_canAsk 110 = .ok (.iinc 3 1, 3) := by decide +kernel
theorem dX12_canAsk_113 : decode cX12_canAsk 113 = .ok (.goto (-63), 3) := by decide +kernel
theorem dX12_canAsk_116 : decode cX12_canAsk 116 = .ok (.iconst 0, 1) := by decide +kernel
theorem dX12_canAsk_117 : decode cX12_canAsk 117 = .ok (.istore_n 3, 1) := by decide +kernel
theorem dX12_canAsk_118 : decode cX12_canAsk 118 = .ok (.iload_n 3, 1) := by decide +kernel
theorem dX12_canAsk_119 : decode cX12_canAsk 119 = .ok (.aload_n 0, 1) := by decide +kernel
theorem dX12_canAsk_120 : decode cX12_canAsk 120 = .ok (.getfield 251, 3) := by decide +kernel
theorem dX12_canAsk_123 : decode cX12_canAsk 123 = .ok (.if_icmp .ge 51, 3) := by decide +kernel
theorem dX12_canAsk_126 : decode cX12_canAsk 126 = .ok (.iload_n 2, 1) := by decide +kernel
theorem dX12_canAsk_127 : decode cX12_canAsk 127 = .ok (.iload_n 3, 1) := by decide +kernel
theorem dX12_canAsk_128 : decode cX12_canAsk 128 = .ok (.ishr, 1) := by decide +kernel
theorem dX12_canAsk_129 : decode cX12_canAsk 129 = .ok (.iconst 1, 1) := by decide +kernel
theorem dX12_canAsk_130 : decode cX12_canAsk 130 = .ok (.iand, 1) := by decide +kernel
theorem dX12_canAsk_131 : decode cX12_canAsk 131 = .ok (.ifCond .ne 6, 3) := by decide +kernel
theorem dX12_canAsk_134 : decode cX12_canAsk 134 = .ok (.goto 34, 3) := by decide +kernel
theorem dX12_canAsk_137 : decode cX12_canAsk 137 = .ok (.aload_n 0, 1) := by decide +kernel
theorem dX12_canAsk_138 : decode cX12_canAsk 138 = .ok (.getfield 562, 3) := by decide +kernel
theorem dX12_canAsk_141 : decode cX12_canAsk 141 = .ok (.bipush 6, 2) := by decide +kernel
theorem dX12_canAsk_143 : decode cX12_canAsk 143 = .ok (.if_icmp .ne 5, 3) := by decide +kernel
theorem dX12_canAsk_146 : decode cX12_canAsk 146 = .ok (.iconst 0, 1) := by decide +kernel
theorem dX12_canAsk_147 : decode cX12_canAsk 147 = .ok (.ireturn, 1) := by decide +kernel
theorem dX12_canAsk_148 : decode cX12_canAsk 148 = .ok (.aload_n 0, 1) := by decide +kernel
theorem dX12_canAsk_149 : decode cX12_canAsk 149 = .ok (.getfield 214, 3) := by decide +kernel
theorem dX12_canAsk_152 : decode cX12_canAsk 152 = .ok (.aload_n 0, 1) := by decide +kernel
theorem dX12_canAsk_153 : decode cX12_canAsk 153 = .ok (.getfield 562, 3) := by decide +kernel
theorem dX12_canAsk_156 : decode cX12_canAsk 156 = .ok (.iload_n 3, 1) := by decide +kernel
theorem dX12_canAsk_157 : decode cX12_canAsk 157 = .ok (.iastore, 1) := by decide +kernel
theorem dX12_canAsk_158 : decode cX12_canAsk 158 = .ok (.aload_n 0, 1) := by decide +kernel
theorem dX12_canAsk_159 : decode cX12_canAsk 159 = .ok (.dup, 1) := by decide +kernel
theorem dX12_canAsk_160 : decode cX12_canAsk 160 = .ok (.getfield 562, 3) := by decide +kernel
theorem dX12_canAsk_163 : decode cX12_canAsk 163 = .ok (.iconst 1, 1) := by decide +kernel
theorem dX12_canAsk_164 : decode cX12_canAsk 164 = .ok (.iadd, 1) := by decide +kernel
theorem dX12_canAsk_165 : decode cX12_canAsk 165 = .ok (.putfield 562, 3) := by decide +kernel
theorem dX12_canAsk_168 : decode cX12_canAsk 168 = .ok (.iinc 3 1, 3) := by decide +kernel
theorem dX12_canAsk_171 : decode cX12_canAsk 171 = .ok (.goto (-53), 3) := by decide +kernel
theorem dX12_canAsk_174 : decode cX12_canAsk 174 = .ok (.iconst 1, 1) := by decide +kernel
theorem dX12_canAsk_175 : decode cX12_canAsk 175 = .ok (.ireturn, 1) := by decide +kernel
theorem dX12_best_0 : decode cX12_best 0 = .ok (.aload_n 0, 1) := by decide +kernel
theorem dX12_best_1 : decode cX12_best 1 = .ok (.iload_n 1, 1) := by decide +kernel
theorem dX12_best_2 : decode cX12_best 2 = .ok (.iload_n 2, 1) := by decide +kernel
theorem dX12_best_3 : decode cX12_best 3 = .ok (.invokevirtual 568, 3) := by decide +kernel
theorem dX12_best_6 : decode cX12_best 6 = .ok (.ifCond .eq 21, 3) := by decide +kernel
theorem dX12_best_9 : decode cX12_best 9 = .ok (.iload_n 3, 1) := by decide +kernel
theorem dX12_best_10 : decode cX12_best 10 = .ok (.i2l, 1) := by decide +kernel
theorem dX12_best_11 : decode cX12_best 11 = .ok (.ldc2_w 571, 3) := by decide +kernel
theorem dX12_best_14 : decode cX12_best 14 = .ok (.aload_n 0, 1) := by decide +kernel
theorem dX12_best_15 : decode cX12_best 15 = .ok (.getfield 547, 3) := by decide +kernel
theorem dX12_best_18 : decode cX12_best 18 = .ok (.iconst 1, 1) := by decide +kernel
theorem dX12_best_19 : decode cX12_best 19 = .ok (.isub, 1) := by decide +kernel
theorem dX12_best_20 : decode cX12_best 20 = .ok (.i2l, 1) := by decide +kernel
theorem dX12_best_21 : decode cX12_best 21 = .ok (.invokestatic 247, 3) := by decide +kernel
theorem dX12_best_24 : decode cX12_best 24 = .ok (.ifCond .ne 5, 3) := by decide +kernel
theorem dX12_best_27 : decode cX12_best 27 = .ok (.iconst (-1), 1) := by decide +kernel
theorem dX12_best_28 : decode cX12_best 28 = .ok (.ireturn, 1) := by decide +kernel
theorem dX12_best_29 : decode cX12_best 29 = .ok (.iconst 0, 1) := by decide +kernel
theorem dX12_best_30 : decode cX12_best 30 = .ok (.istore 4, 2) := by decide +kernel
theorem dX12_best_32 : decode cX12_best 32 = .ok (.iload 4, 2) := by decide +kernel
theorem dX12_best_34 : decode cX12_best 34 = .ok (.aload_n 0, 1) := by decide +kernel
theorem dX12_best_35 : decode cX12_best 35 = .ok (.getfield 547, 3) := by decide +kernel
theorem dX12_best_38 : decode cX12_best 38 = .ok (.if_icmp .ge 59, 3) := by decide +kernel
theorem dX12_best_41 : decode cX12_best 41 = .ok (.aload_n 0, 1) := by decide +kernel
theorem dX12_best_42 : decode cX12_best 42 = .ok (.getfield 217, 3) := by decide +kernel
theorem dX12_best_45 : decode cX12_best 45 = .ok (.iload 4, 2) := by decide +kernel
theorem dX12_best_47 : decode cX12_best 47 = .ok (.aload_n 0, 1) := by decide +kernel
theorem dX12_best_48 : decode cX12_best 48 = .ok (.getfield 66, 3) := by decide +kernel
theorem dX12_best_51 : decode cX12_best 51 = .ok (.aload_n 0, 1) := by decide +kernel
theorem dX12_best_52 : decode cX12_best 52 = .ok (.getfield 211, 3) := by decide +kernel
theorem dX12_best_55 : decode cX12_best 55 = .ok (.iload 4, 2) := by decide +kernel
theorem dX12_best_57 : decode cX12_best 57 = .ok (.iaload, 1) := by decide +kernel
theorem dX12_best_58 : decode cX12_best 58 = .ok (.iaload, 1) := by decide +kernel
theorem dX12_best_59 : decode cX12_best 59 = .ok (.iastore, 1) := by decide +kernel
theorem dX12_best_60 : decode cX12_best 60 = .ok (.aload_n 0, 1) := by decide +kernel
theorem dX12_best_61 : decode cX12_best 61 = .ok (.getfield 220, 3) := by decide +kernel
theorem dX12_best_64 : decode cX12_best 64 = .ok (.iload 4, 2) := by decide +kernel
theorem dX12_best_66 : decode cX12_best 66 = .ok (.aload_n 0, 1) := by decide +kernel
theorem dX12_best_67 : decode cX12_best 67 = .ok (.getfield 69, 3) := by decide +kernel
theorem dX12_best_70 : decode cX12_best 70 = .ok (.aload_n 0, 1) := by decide +kernel
theorem dX12_best_71 : decode cX12_best 71 = .ok (.getfield 211, 3) := by decide +kernel
theorem dX12_best_74 : decode cX12_best 74 = .ok (.iload 4, 2) := by decide +kernel
theorem dX12_best_76 : decode cX12_best 76 = .ok (.iaload, 1) := by decide +kernel
theorem dX12_best_77 : decode cX12_best 77 = .ok (.iaload, 1) := by decide +kernel
theorem dX12_best_78 : decode cX12_best 78 = .ok (.iastore, 1) := by decide +kernel
theorem dX12_best_79 : decode cX12_best 79 = .ok (.aload_n 0, 1) := by decide +kernel
theorem dX12_best_80 : decode cX12_best 80 = .ok (.aload_n 0, 1) := by decide +kernel
theorem dX12_best_81 : decode cX12_best 81 = .ok (.getfield 211, 3) := by decide +kernel
theorem dX12_best_84 : decode cX12_best 84 = .ok (.iload 4, 2) := by decide +kernel
theorem dX12_best_86 : decode cX12_best 86 = .ok (.iaload, 1) := by decide +kernel
theorem dX12_best_87 : decode cX12_best 87 = .ok (.iconst (-1), 1) := by decide +kernel
theorem dX12_best_88 : decode cX12_best 88 = .ok (.invokevirtual 521, 3) := by decide +kernel
theorem dX12_best_91 : decode cX12_best 91 = .ok (.iinc 4 1, 3) := by decide +kernel
theorem dX12_best_94 : decode cX12_best 94 = .ok (.goto (-62), 3) := by decide +kernel
theorem dX12_best_97 : decode cX12_best 97 = .ok (.aload_n 0, 1) := by decide +kernel
theorem dX12_best_98 : decode cX12_best 98 = .ok (.iconst (-1), 1) := by decide +kernel
theorem dX12_best_99 : decode cX12_best 99 = .ok (.putfield 550, 3) := by decide +kernel
theorem dX12_best_102 : decode cX12_best 102 = .ok (.aload_n 0, 1) := by decide +kernel
theorem dX12_best_103 : decode cX12_best 103 = .ok (.iconst (-1), 1) := by decide +kernel
theorem dX12_best_104 : decode cX12_best 104 = .ok (.putfield 553, 3) := by decide +kernel
theorem dX12_best_107 : decode cX12_best 107 = .ok (.aload_n 0, 1) := by decide +kernel
theorem dX12_best_108 : decode cX12_best 108 = .ok (.iconst (-1), 1) := by decide +kernel
theorem dX12_best_109 : decode cX12_best 109 = .ok (.putfield 556, 3) := by decide +kernel
theorem dX12_best_112 : decode cX12_best 112 = .ok (.aload_n 0, 1) := by decide +kernel
theorem dX12_best_113 : decode cX12_best 113 = .ok (.iconst 0, 1) := by decide +kernel
theorem dX12_best_114 : decode cX12_best 114 = .ok (.invokevirtual 565, 3) := by decide +kernel
theorem dX12_best_117 : decode cX12_best 117 = .ok (.iconst 0, 1) := by decide +kernel
theorem dX12_best_118 : decode cX12_best 118 = .ok (.istore 4, 2) := by decide +kernel
theorem dX12_best_120 : decode cX12_best 120 = .ok (.iload 4, 2) := by decide +kernel
theorem dX12_best_122 : decode cX12_best 122 = .ok (.aload_n 0, 1) := by decide +kernel
theorem dX12_best_123 : decode cX12_best 123 = .ok (.getfield 547, 3) := by decide +kernel
theorem dX12_best_126 : decode cX12_best 126 = .ok (.if_icmp .ge 47, 3) := by decide +kernel
theorem dX12_best_129 : decode cX12_best 129 = .ok (.aload_n 0, 1) := by decide +kernel
theorem dX12_best_130 : decode cX12_best 130 = .ok (.getfield 66, 3) := by decide +kernel
theorem dX12_best_133 : decode cX12_best 133 = .ok (.aload_n 0, 1) := by decide +kernel
theorem dX12_best_134 : decode cX12_best 134 = .ok (.getfield 211, 3) := by decide +kernel
theorem dX12_best_137 : decode cX12_best 137 = .ok (.iload 4, 2) := by decide +kernel
theorem dX12_best_139 : decode cX12_best 139 = .ok (.iaload, 1) := by decide +kernel
theorem dX12_best_140 : decode cX12_best 140 = .ok (.aload_n 0, 1) := by decide +kernel
theorem dX12_best_141 : decode cX12_best 141 = .ok (.getfield 217, 3) := by decide +kernel
theorem dX12_best_144 : decode cX12_best 144 = .ok (.iload 4, 2) := by decide +kernel
theorem dX12_best_146 : decode cX12_best 146 = .ok (.iaload, 1) := by decide +kernel
theorem dX12_best_147 : decode cX12_best 147 = .ok (.iastore, 1) := by decide +kernel
theorem dX12_best_148 : decode cX12_best 148 = .ok (.aload_n 0, 1) := by decide +kernel
theorem dX12_best_149 : decode cX12_best 149 = .ok (.getfield 69, 3) := by decide +kernel
theorem dX12_best_152 : decode cX12_best 152 = .ok (.aload_n 0, 1) := by decide +kernel
theorem dX12_best_153 : decode cX12_best 153 = .ok (.getfield 211, 3) := by decide +kernel
theorem dX12_best_156 : decode cX12_best 156 = .ok (.iload 4, 2) := by decide +kernel
theorem dX12_best_158 : decode cX12_best 158 = .ok (.iaload, 1) := by decide +kernel
theorem dX12_best_159 : decode cX12_best 159 = .ok (.aload_n 0, 1) := by decide +kernel
theorem dX12_best_160 : decode cX12_best 160 = .ok (.getfield 220, 3) := by decide +kernel
theorem dX12_best_163 : decode cX12_best 163 = .ok (.iload 4, 2) := by decide +kernel
theorem dX12_best_165 : decode cX12_best 165 = .ok (.iaload, 1) := by decide +kernel
theorem dX12_best_166 : decode cX12_best 166 = .ok (.iastore, 1) := by decide +kernel
theorem dX12_best_167 : decode cX12_best 167 = .ok (.iinc 4 1, 3) := by decide +kernel
theorem dX12_best_170 : decode cX12_best 170 = .ok (.goto (-50), 3) := by decide +kernel
theorem dX12_best_173 : decode cX12_best 173 = .ok (.iload_n 3, 1) := by decide +kernel
theorem dX12_best_174 : decode cX12_best 174 = .ok (.iconst (-1), 1) := by decide +kernel
theorem dX12_best_175 : decode cX12_best 175 = .ok (.if_icmp .ne 10, 3) := by decide +kernel
theorem dX12_best_178 : decode cX12_best 178 = .ok (.aload_n 0, 1) := by decide +kernel
theorem dX12_best_179 : decode cX12_best 179 = .ok (.getfield 550, 3) := by decide +kernel
theorem dX12_best_182 : decode cX12_best 182 = .ok (.goto 9, 3) := by decide +kernel
theorem dX12_best_185 : decode cX12_best 185 = .ok (.aload_n 0, 1) := by decide +kernel
theorem dX12_best_186 : decode cX12_best 186 = .ok (.getfield 226, 3) := by decide +kernel
theorem dX12_best_189 : decode cX12_best 189 = .ok (.iload_n 3, 1) := by decide +kernel
theorem dX12_best_190 : decode cX12_best 190 = .ok (.iaload, 1) := by decide +kernel
theorem dX12_best_191 : decode cX12_best 191 = .ok (.ireturn, 1) := by decide +kernel
theorem dX12_boat_0 : decode cX12_boat 0 = .ok (.iload_n 1, 1) := by decide +kernel
theorem dX12_boat_1 : decode cX12_boat 1 = .ok (.i2l, 1) := by decide +kernel
theorem dX12_boat_2 : decode cX12_boat 2 = .ok (.aload_n 0, 1) := by decide +kernel
theorem dX12_boat_3 : decode cX12_boat 3 = .ok (.getfield 275, 3) := by decide +kernel
theorem dX12_boat_6 : decode cX12_boat 6 = .ok (.i2l, 1) := by decide +kernel
theorem dX12_boat_7 : decode cX12_boat 7 = .ok (.ldc2_w 270, 3) := by decide +kernel
theorem dX12_boat_10 : decode cX12_boat 10 = .ok (.invokestatic 247, 3) := by decide +kernel
theorem dX12_boat_13 : decode cX12_boat 13 = .ok (.ifCond .eq 28, 3) := by decide +kernel
theorem dX12_boat_16 : decode cX12_boat 16 = .ok (.iload_n 2, 1) := by decide +kernel
theorem dX12_boat_17 : decode cX12_boat 17 = .ok (.ifCond .lt 24, 3) := by decide +kernel
theorem dX12_boat_20 : decode cX12_boat 20 = .ok (.iload_n 2, 1) := by decide +kernel
theorem dX12_boat_21 : decode cX12_boat 21 = .ok (.iload_n 3, 1) := by decide +kernel
theorem dX12_boat_22 : decode cX12_boat 22 = .ok (.if_icmp .gt 19, 3) := by decide +kernel
theorem dX12_boat_25 : decode cX12_boat 25 = .ok (.iload_n 3, 1) := by decide +kernel
theorem dX12_boat_26 : decode cX12_boat 26 = .ok (.sipush 200, 3) := by decide +kernel
theorem dX12_boat_29 : decode cX12_boat 29 = .ok (.if_icmp .gt 12, 3) := by decide +kernel
theorem dX12_boat_32 : decode cX12_boat 32 = .ok (.aload_n 0, 1) := by decide +kernel
theorem dX12_boat_33 : decode cX12_boat 33 = .ok (.getfield 573, 3) := by decide +kernel
theorem dX12_boat_36 : decode cX12_boat 36 = .ok (.bipush 40, 2) := by decide +kernel
theorem dX12_boat_38 : decode cX12_boat 38 = .ok (.if_icmp .ne 5, 3) := by decide +kernel
theorem dX12_boat_41 : decode cX12_boat 41 = .ok (.iconst (-1), 1) := by decide +kernel
theorem dX12_boat_42 : decode cX12_boat 42 = .ok (.ireturn, 1) := by decide +kernel
theorem dX12_boat_43 : decode cX12_boat 43 = .ok (.aload_n 0, 1) := by decide +kernel
theorem dX12_boat_44 : decode cX12_boat 44 = .ok (.getfield 229, 3) := by decide +kernel
theorem dX12_boat_47 : decode cX12_boat 47 = .ok (.aload_n 0, 1) := by decide +kernel
theorem dX12_boat_48 : decode cX12_boat 48 = .ok (.getfield 573, 3) := by decide +kernel
theorem dX12_boat_51 : decode cX12_boat 51 = .ok (.iload_n 1, 1) := by decide +kernel
theorem dX12_boat_52 : decode cX12_boat 52 = .ok (.iastore, 1) := by decide +kernel
theorem dX12_boat_53 : decode cX12_boat 53 = .ok (.aload_n 0, 1) := by decide +kernel
theorem dX12_boat_54 : decode cX12_boat 54 = .ok (.getfield 232, 3) := by decide +kernel
theorem dX12_boat_57 : decode cX12_boat 57 = .ok (.aload_n 0, 1) := by decide +kernel
theorem dX12_boat_58 : decode cX12_boat 58 = .ok (.getfield 573, 3) := by decide +kernel
theorem dX12_boat_61 : decode cX12_boat 61 = .ok (.iload_n 2, 1) := by decide +kernel
theorem dX12_boat_62 : decode cX12_boat 62 = .ok (.iastore, 1) := by decide +kernel
theorem dX12_boat_63 : decode cX12_boat 63 = .ok (.aload_n 0, 1) := by decide +kernel
theorem dX12_boat_64 : decode cX12_boat 64 = .ok (.getfield 235, 3) := by decide +kernel
theorem dX12_boat_67 : decode cX12_boat 67 = .ok (.aload_n 0, 1) := by decide +kernel
theorem dX12_boat_68 : decode cX12_boat 68 = .ok (.getfield 573, 3) := by decide +kernel
theorem dX12_boat_71 : decode cX12_boat 71 = .ok (.iload_n 3, 1) := by decide +kernel
theorem dX12_boat_72 : decode cX12_boat 72 = .ok (.iastore, 1) := by decide +kernel
theorem dX12_boat_73 : decode cX12_boat 73 = .ok (.aload_n 0, 1) := by decide +kernel
theorem dX12_boat_74 : decode cX12_boat 74 = .ok (.dup, 1) := by decide +kernel
theorem dX12_boat_75 : decode cX12_boat 75 = .ok (.getfield 573, 3) := by decide +kernel
theorem dX12_boat_78 : decode cX12_boat 78 = .ok (.iconst 1, 1) := by decide +kernel
theorem dX12_boat_79 : decode cX12_boat 79 = .ok (.iadd, 1) := by decide +kernel
theorem dX12_boat_80 : decode cX12_boat 80 = .ok (.putfield 573, 3) := by decide +kernel
theorem dX12_boat_83 : decode cX12_boat 83 = .ok (.aload_n 0, 1) := by decide +kernel
theorem dX12_boat_84 : decode cX12_boat 84 = .ok (.getfield 573, 3) := by decide +kernel
theorem dX12_boat_87 : decode cX12_boat 87 = .ok (.ireturn, 1) := by decide +kernel
theorem dX12_foretell_0 : decode cX12_foretell 0 = .ok (.iload_n 1, 1) := by decide +kernel
theorem dX12_foretell_1 : decode cX12_foretell 1 = .ok (.i2l, 1) := by decide +kernel
theorem dX12_foretell_2 : decode cX12_foretell 2 = .ok (.aload_n 0, 1) := by decide +kernel
theorem dX12_foretell_3 : decode cX12_foretell 3 = .ok (.getfield 275, 3) := by decide +kernel
theorem dX12_foretell_6 : decode cX12_foretell 6 = .ok (.i2l, 1) := by decide +kernel
theorem dX12_foretell_7 : decode cX12_foretell 7 = .ok (.ldc2_w 270, 3) := by decide +kernel
theorem dX12_foretell_10 : decode cX12_foretell 10 = .ok (.invokestatic 247, 3) := by decide +kernel
theorem dX12_foretell_13 : decode cX12_foretell 13 = .ok (.ifCond .eq 26, 3) := by decide +kernel
theorem dX12_foretell_16 : decode cX12_foretell 16 = .ok (.iload_n 2, 1) := by decide +kernel
theorem dX12_foretell_17 : decode cX12_foretell 17 = .ok (.i2l, 1) := by decide +kernel
theorem dX12_foretell_18 : decode cX12_foretell 18 = .ok (.ldc2_w 576, 3) := by decide +kernel
theorem dX12_foretell_21 : decode cX12_foretell 21 = .ok (.ldc2_w 578, 3) := by decide +kernel
theorem dX12_foretell_24 : decode cX12_foretell 24 = .ok (.invokestatic 247, 3) := by decide +kernel
theorem dX12_foretell_27 : decode cX12_foretell 27 = .ok (.ifCond .eq 12, 3) := by decide +kernel
theorem dX12_foretell_30 : decode cX12_foretell 30 = .ok (.aload_n 0, 1) := by decide +kernel
theorem dX12_foretell_31 : decode cX12_foretell 31 = .ok (.getfield 580, 3) := by decide +kernel
theorem dX12_foretell_34 : decode cX12_foretell 34 = .ok (.bipush 40, 2) := by decide +kernel
theorem dX12_foretell_36 : decode cX12_foretell 36 = .ok (.if_icmp .ne 5, 3) := by decide +kernel
theorem dX12_foretell_39 : decode cX12_foretell 39 = .ok (.iconst (-1), 1) := by decide +kernel
theorem dX12_foretell_40 : decode cX12_foretell 40 = .ok (.ireturn, 1) := by decide +kernel
theorem dX12_foretell_41 : decode cX12_foretell 41 = .ok (.aload_n 0, 1) := by decide +kernel
theorem dX12_foretell_42 : decode cX12_foretell 42 = .ok (.getfield 238, 3) := by decide +kernel
theorem dX12_foretell_45 : decode cX12_foretell 45 = .ok (.aload_n 0, 1) := by decide +kernel
theorem dX12_foretell_46 : decode cX12_foretell 46 = .ok (.getfield 580, 3) := by decide +kernel
theorem dX12_foretell_49 : decode cX12_foretell 49 = .ok (.iload_n 1, 1) := by decide +kernel
theorem dX12_foretell_50 : decode cX12_foretell 50 = .ok (.iastore, 1) := by decide +kernel
theorem dX12_foretell_51 : decode cX12_foretell 51 = .ok (.aload_n 0, 1) := by decide +kernel
theorem dX12_foretell_52 : decode cX12_foretell 52 = .ok (.getfield 241, 3) := by decide +kernel
theorem dX12_foretell_55 : decode cX12_foretell 55 = .ok (.aload_n 0, 1) := by decide +kernel
theorem dX12_foretell_56 : decode cX12_foretell 56 = .ok (.getfield 580, 3) := by decide +kernel
theorem dX12_foretell_59 : decode cX12_foretell 59 = .ok (.iload_n 2, 1) := by decide +kernel
theorem dX12_foretell_60 : decode cX12_foretell 60 = .ok (.iastore, 1) := by decide +kernel
theorem dX12_foretell_61 : decode cX12_foretell 61 = .ok (.aload_n 0, 1) := by decide +kernel
theorem dX12_foretell_62 : decode cX12_foretell 62 = .ok (.dup, 1) := by decide +kernel
theorem dX12_foretell_63 : decode cX12_foretell 63 = .ok (.getfield 580, 3) := by decide +kernel
theorem dX12_foretell_66 : decode cX12_foretell 66 = .ok (.iconst 1, 1) := by decide +kernel
theorem dX12_foretell_67 : decode cX12_foretell 67 = .ok (.iadd, 1) := by decide +kernel
theorem dX12_foretell_68 : decode cX12_foretell 68 = .ok (.putfield 580, 3) := by decide +kernel
theorem dX12_foretell_71 : decode cX12_foretell 71 = .ok (.aload_n 0, 1) := by decide +kernel
theorem dX12_foretell_72 : decode cX12_foretell 72 = .ok (.getfield 580, 3) := by decide +kernel
theorem dX12_foretell_75 : decode cX12_foretell 75 = .ok (.ireturn, 1) := by decide +kernel
theorem dX12_hallHeads_0 : decode cX12_hallHeads 0 = .ok (.iconst 0, 1) := by decide +kernel
theorem dX12_hallHeads_1 : decode cX12_hallHeads 1 = .ok (.istore_n 1, 1) := by decide +kernel
theorem dX12_hallHeads_2 : decode cX12_hallHeads 2 = .ok (.iconst 0, 1) := by decide +kernel
theorem dX12_hallHeads_3 : decode cX12_hallHeads 3 = .ok (.istore_n 2, 1) := by decide +kernel
theorem dX12_hallHeads_4 : decode cX12_hallHeads 4 = .ok (.iload_n 2, 1) := by decide +kernel
theorem dX12_hallHeads_5 : decode cX12_hallHeads 5 = .ok (.aload_n 0, 1) := by decide +kernel
theorem dX12_hallHeads_6 : decode cX12_hallHeads 6 = .ok (.getfield 254, 3) := by decide +kernel
theorem dX12_hallHeads_9 : decode cX12_hallHeads 9 = .ok (.if_icmp .ge 31, 3) := by decide +kernel
theorem dX12_hallHeads_12 : decode cX12_hallHeads 12 = .ok (.iload_n 1, 1) := by decide +kernel
theorem dX12_hallHeads_13 : decode cX12_hallHeads 13 = .ok (.aload_n 0, 1) := by decide +kernel
theorem dX12_hallHeads_14 : decode cX12_hallHeads 14 = .ok (.getfield 66, 3) := by decide +kernel
theorem dX12_hallHeads_17 : decode cX12_hallHeads 17 = .ok (.iload_n 2, 1) := by decide +kernel
theorem dX12_hallHeads_18 : decode cX12_hallHeads 18 = .ok (.iaload, 1) := by decide +kernel
theorem dX12_hallHeads_19 : decode cX12_hallHeads 19 = .ok (.ifCond .ne 12, 3) := by decide +kernel
theorem dX12_hallHeads_22 : decode cX12_hallHeads 22 = .ok (.aload_n 0, 1) := by decide +kernel
theorem dX12_hallHeads_23 : decode cX12_hallHeads 23 = .ok (.getfield 48, 3) := by decide +kernel
theorem dX12_hallHeads_26 : decode cX12_hallHeads 26 = .ok (.iload_n 2, 1) := by decide +kernel
theorem dX12_hallHeads_27 : decode cX12_hallHeads 27 = .ok (.iaload, 1) := by decide +kernel
theorem dX12_hallHeads_28 : decode cX12_hallHeads 28 = .ok (.goto 4, 3) := by decide +kernel
theorem dX12_hallHeads_31 : decode cX12_hallHeads 31 = .ok (.iconst 0, 1) := by decide +kernel
theorem dX12_hallHeads_32 : decode cX12_hallHeads 32 = .ok (.iadd, 1) := by decide +kernel
theorem dX12_hallHeads_33 : decode cX12_hallHeads 33 = .ok (.istore_n 1, 1) := by decide +kernel
theorem dX12_hallHeads_34 : decode cX12_hallHeads 34 = .ok (.iinc 2 1, 3) := by decide +kernel
theorem dX12_hallHeads_37 : decode cX12_hallHeads 37 = .ok (.goto (-33), 3) := by decide +kernel
theorem dX12_hallHeads_40 : decode cX12_hallHeads 40 = .ok (.iload_n 1, 1) := by decide +kernel
theorem dX12_hallHeads_41 : decode cX12_hallHeads 41 = .ok (.ireturn, 1) := by decide +kernel
theorem dX12_lacks_0 : decode cX12_lacks 0 = .ok (.aload_n 0, 1) := by decide +kernel
theorem dX12_lacks_1 : decode cX12_lacks 1 = .ok (.invokevirtual 583, 3) := by decide +kernel
theorem dX12_lacks_4 : decode cX12_lacks 4 = .ok (.istore_n 3, 1) := by decide +kernel
theorem dX12_lacks_5 : decode cX12_lacks 5 = .ok (.aload_n 0, 1) := by decide +kernel
theorem dX12_lacks_6 : decode cX12_lacks 6 = .ok (.getfield 272, 3) := by decide +kernel
theorem dX12_lacks_9 : decode cX12_lacks 9 = .ok (.istore 4, 2) := by decide +kernel
theorem dX12_lacks_11 : decode cX12_lacks 11 = .ok (.iconst 0, 1) := by decide +kernel
theorem dX12_lacks_12 : decode cX12_lacks 12 = .ok (.istore 5, 2) := by decide +kernel
theorem dX12_lacks_14 : decode cX12_lacks 14 = .ok (.iload 5, 2) := by decide +kernel
theorem dX12_lacks_16 : decode cX12_lacks 16 = .ok (.aload_n 0, 1) := by decide +kernel
theorem dX12_lacks_17 : decode cX12_lacks 17 = .ok (.getfield 573, 3) := by decide +kernel
theorem dX12_lacks_20 : decode cX12_lacks 20 = .ok (.if_icmp .ge 54, 3) := by decide +kernel
theorem dX12_lacks_23 : decode cX12_lacks 23 = .ok (.aload_n 0, 1) := by decide +kernel
theorem dX12_lacks_24 : decode cX12_lacks 24 = .ok (.getfield 229, 3) := by decide +kernel
theorem dX12_lacks_27 : decode cX12_lacks 27 = .ok (.iload 5, 2) := by decide +kernel
theorem dX12_lacks_29 : decode cX12_lacks 29 = .ok (.iaload, 1) := by decide +kernel
theorem dX12_lacks_30 : decode cX12_lacks 30 = .ok (.i2l, 1) := by decide +kernel
theorem dX12_lacks_31 : decode cX12_lacks 31 = .ok (.aload_n 0, 1) := by decide +kernel
theorem dX12_lacks_32 : decode cX12_lacks 32 = .ok (.getfield 275, 3) := by decide +kernel
theorem dX12_lacks_35 : decode cX12_lacks 35 = .ok (.i2l, 1) := by decide +kernel
theorem dX12_lacks_36 : decode cX12_lacks 36 = .ok (.iload_n 1, 1) := by decide +kernel
theorem dX12_lacks_37 : decode cX12_lacks 37 = .ok (.i2l, 1) := by decide +kernel
theorem dX12_lacks_38 : decode cX12_lacks 38 = .ok (.invokestatic 247, 3) := by decide +kernel
theorem dX12_lacks_41 : decode cX12_lacks 41 = .ok (.ifCond .eq 27, 3) := by decide +kernel
theorem dX12_lacks_44 : decode cX12_lacks 44 = .ok (.iload_n 3, 1) := by decide +kernel
theorem dX12_lacks_45 : decode cX12_lacks 45 = .ok (.iload_n 2, 1) := by decide +kernel
theorem dX12_lacks_46 : decode cX12_lacks 46 = .ok (.ifCond .eq 13, 3) := by decide +kernel
theorem dX12_lacks_49 : decode cX12_lacks 49 = .ok (.aload_n 0, 1) := by decide +kernel
theorem dX12_lacks_50 : decode cX12_lacks 50 = .ok (.getfield 235, 3) := by decide +kernel
theorem dX12_lacks_53 : decode cX12_lacks 53 = .ok (.iload 5, 2) := by decide +kernel
theorem dX12_lacks_55 : decode cX12_lacks 55 = .ok (.iaload, 1) := by decide +kernel
theorem dX12_lacks_56 : decode cX12_lacks 56 = .ok (.goto 10, 3) := by decide +kernel
theorem dX12_lacks_59 : decode cX12_lacks 59 = .ok (.aload_n 0, 1) := by decide +kernel
theorem dX12_lacks_60 : decode cX12_lacks 60 = .ok (.getfield 232, 3) := by decide +kernel
theorem dX12_lacks_63 : decode cX12_lacks 63 = .ok (.iload 5, 2) := by decide +kernel
theorem dX12_lacks_65 : decode cX12_lacks 65 = .ok (.iaload, 1) := by decide +kernel
theorem dX12_lacks_66 : decode cX12_lacks 66 = .ok (.iadd, 1) := by decide +kernel
theorem dX12_lacks_67 : decode cX12_lacks 67 = .ok (.istore_n 3, 1) := by decide +kernel
theorem dX12_lacks_68 : decode cX12_lacks 68 = .ok (.iinc 5 1, 3) := by decide +kernel
theorem dX12_lacks_71 : decode cX12_lacks 71 = .ok (.goto (-57), 3) := by decide +kernel
theorem dX12_lacks_74 : decode cX12_lacks 74 = .ok (.iconst 0, 1) := by decide +kernel
theorem dX12_lacks_75 : decode cX12_lacks 75 = .ok (.istore 5, 2) := by decide +kernel
theorem dX12_lacks_77 : decode cX12_lacks 77 = .ok (.iload 5, 2) := by decide +kernel
theorem dX12_lacks_79 : decode cX12_lacks 79 = .ok (.aload_n 0, 1) := by decide +kernel
theorem dX12_lacks_80 : decode cX12_lacks 80 = .ok (.getfield 580, 3) := by decide +kernel
theorem dX12_lacks_83 : decode cX12_lacks 83 = .ok (.if_icmp .ge 42, 3) := by decide +kernel
theorem dX12_lacks_86 : decode cX12_lacks 86 = .ok (.aload_n 0, 1) := by decide +kernel
theorem dX12_lacks_87 : decode cX12_lacks 87 = .ok (.getfield 238, 3) := by decide +kernel
theorem dX12_lacks_90 : decode cX12_lacks 90 = .ok (.iload 5, 2) := by decide +kernel
theorem dX12_lacks_92 : decode cX12_lacks 92 = .ok (.iaload, 1) := by decide +kernel
theorem dX12_lacks_93 : decode cX12_lacks 93 = .ok (.i2l, 1) := by decide +kernel
theorem dX12_lacks_94 : decode cX12_lacks 94 = .ok (.aload_n 0, 1) := by decide +kernel
theorem dX12_lacks_95 : decode cX12_lacks 95 = .ok (.getfield 275, 3) := by decide +kernel
theorem dX12_lacks_98 : decode cX12_lacks 98 = .ok (.i2l, 1) := by decide +kernel
theorem dX12_lacks_99 : decode cX12_lacks 99 = .ok (.iload_n 1, 1) := by decide +kernel
theorem dX12_lacks_100 : decode cX12_lacks 100 = .ok (.i2l, 1) := by decide +kernel
theorem dX12_lacks_101 : decode cX12_lacks 101 = .ok (.invokestatic 247, 3) := by decide +kernel
theorem dX12_lacks_104 : decode cX12_lacks 104 = .ok (.ifCond .eq 15, 3) := by decide +kernel
theorem dX12_lacks_107 : decode cX12_lacks 107 = .ok (.iload 4, 2) := by decide +kernel
theorem dX12_lacks_109 : decode cX12_lacks 109 = .ok (.aload_n 0, 1) := by decide +kernel
theorem dX12_lacks_110 : decode cX12_lacks 110 = .ok (.getfield 241, 3) := by decide +kernel
theorem dX12_lacks_113 : decode cX12_lacks 113 = .ok (.iload 5, 2) := by decide +kernel
theorem dX12_lacks_115 : decode cX12_lacks 115 = .ok (.iaload, 1) := by decide +kernel
theorem dX12_lacks_116 : decode cX12_lacks 116 = .ok (.iadd, 1) := by decide +kernel
theorem dX12_lacks_117 : decode cX12_lacks 117 = .ok (.istore 4, 2) := by decide +kernel
theorem dX12_lacks_119 : decode cX12_lacks 119 = .ok (.iinc 5 1, 3) := by decide +kernel
theorem dX12_lacks_122 : decode cX12_lacks 122 = .ok (.goto (-45), 3) := by decide +kernel
theorem dX12_lacks_125 : decode cX12_lacks 125 = .ok (.iload_n 3, 1) := by decide +kernel
theorem dX12_lacks_126 : decode cX12_lacks 126 = .ok (.iload 4, 2) := by decide +kernel
theorem dX12_lacks_128 : decode cX12_lacks 128 = .ok (.ifCond .ge 7, 3) := by decide +kernel
theorem dX12_lacks_131 : decode cX12_lacks 131 = .ok (.iconst 0, 1) := by decide +kernel
theorem dX12_lacks_132 : decode cX12_lacks 132 = .ok (.goto 5, 3) := by decide +kernel
theorem dX12_lacks_135 : decode cX12_lacks 135 = .ok (.iload 4, 2) := by decide +kernel
theorem dX12_lacks_137 : decode cX12_lacks 137 = .ok (.isub, 1) := by decide +kernel
theorem dX12_lacks_138 : decode cX12_lacks 138 = .ok (.ireturn, 1) := by decide +kernel
theorem dX12_worst_0 : decode cX12_worst 0 = .ok (.iload_n 1, 1) := by decide +kernel
theorem dX12_worst_1 : decode cX12_worst 1 = .ok (.i2l, 1) := by decide +kernel
theorem dX12_worst_2 : decode cX12_worst 2 = .ok (.aload_n 0, 1) := by decide +kernel
theorem dX12_worst_3 : decode cX12_worst 3 = .ok (.getfield 275, 3) := by decide +kernel
theorem dX12_worst_6 : decode cX12_worst 6 = .ok (.i2l, 1) := by decide +kernel
theorem dX12_worst_7 : decode cX12_worst 7 = .ok (.ldc2_w 270, 3) := by decide +kernel
theorem dX12_worst_10 : decode cX12_worst 10 = .ok (.invokestatic 247, 3) := by decide +kernel
theorem dX12_worst_13 : decode cX12_worst 13 = .ok (.ifCond .eq 15, 3) := by decide +kernel
theorem dX12_worst_16 : decode cX12_worst 16 = .ok (.iload_n 2, 1) := by decide +kernel
theorem dX12_worst_17 : decode cX12_worst 17 = .ok (.i2l, 1) := by decide +kernel
theorem dX12_worst_18 : decode cX12_worst 18 = .ok (.lconst 0, 1) := by decide +kernel
theorem dX12_worst_19 : decode cX12_worst 19 = .ok (.ldc2_w 293, 3) := by decide +kernel
theorem dX12_worst_22 : decode cX12_worst 22 = .ok (.invokestatic 247, 3) := by decide +kernel
theorem dX12_worst_25 : decode cX12_worst 25 = .ok (.ifCond .ne 5, 3) := by decide +kernel
theorem dX12_worst_28 : decode cX12_worst 28 = .ok (.iconst (-1), 1) := by decide +kernel
theorem dX12_worst_29 : decode cX12_worst 29 = .ok (.ireturn, 1) := by decide +kernel
theorem dX12_worst_30 : decode cX12_worst 30 = .ok (.iconst 0, 1) := by decide +kernel
theorem dX12_worst_31 : decode cX12_worst 31 = .ok (.istore_n 3, 1) := by decide +kernel
theorem dX12_worst_32 : decode cX12_worst 32 = .ok (.aload_n 0, 1) := by decide +kernel
theorem dX12_worst_33 : decode cX12_worst 33 = .ok (.getfield 275, 3) := by decide +kernel
theorem dX12_worst_36 : decode cX12_worst 36 = .ok (.istore 4, 2) := by decide +kernel
theorem dX12_worst_38 : decode cX12_worst 38 = .ok (.iload 4, 2) := by decide +kernel
theorem dX12_worst_40 : decode cX12_worst 40 = .ok (.iload_n 1, 1) := by decide +kernel
theorem dX12_worst_41 : decode cX12_worst 41 = .ok (.if_icmp .gt 49, 3) := by decide +kernel
theorem dX12_worst_44 : decode cX12_worst 44 = .ok (.aload_n 0, 1) := by decide +kernel
theorem dX12_worst_45 : decode cX12_worst 45 = .ok (.iload 4, 2) := by decide +kernel
theorem dX12_worst_47 : decode cX12_worst 47 = .ok (.iload_n 2, 1) := by decide +kernel
theorem dX12_worst_48 : decode cX12_worst 48 = .ok (.iconst 2, 1) := by decide +kernel
theorem dX12_worst_49 : decode cX12_worst 49 = .ok (.if_icmp .ge 7, 3) := by decide +kernel
theorem dX12_worst_52 : decode cX12_worst 52 = .ok (.iconst 1, 1) := by decide +kernel
theorem dX12_worst_53 : decode cX12_worst 53 = .ok (.goto 4, 3) := by decide +kernel
theorem dX12_worst_56 : decode cX12_worst 56 = .ok (.iconst 0, 1) := by decide +kernel
theorem dX12_worst_57 : decode cX12_worst 57 = .ok (.invokevirtual 586, 3) := by decide +kernel
theorem dX12_worst_60 : decode cX12_worst 60 = .ok (.istore 5, 2) := by decide +kernel
theorem dX12_worst_62 : decode cX12_worst 62 = .ok (.iload_n 2, 1) := by decide +kernel
theorem dX12_worst_63 : decode cX12_worst 63 = .ok (.iconst 1, 1) := by decide +kernel
theorem dX12_worst_64 : decode cX12_worst 64 = .ok (.if_icmp .ne 11, 3) := by decide +kernel
theorem dX12_worst_67 : decode cX12_worst 67 = .ok (.iload 5, 2) := by decide +kernel
theorem dX12_worst_69 : decode cX12_worst 69 = .ok (.ifCond .le 6, 3) := by decide +kernel
theorem dX12_worst_72 : decode cX12_worst 72 = .ok (.iload 4, 2) := by decide +kernel
theorem dX12_worst_74 : decode cX12_worst 74 = .ok (.ireturn, 1) := by decide +kernel
theorem dX12_worst_75 : decode cX12_worst 75 = .ok (.iload 5, 2) := by decide +kernel
theorem dX12_worst_77 : decode cX12_worst 77 = .ok (.iload_n 3, 1) := by decide +kernel
theorem dX12_worst_78 : decode cX12_worst 78 = .ok (.if_icmp .le 6, 3) := by decide +kernel
theorem dX12_worst_81 : decode cX12_worst 81 = .ok (.iload 5, 2) := by decide +kernel
theorem dX12_worst_83 : decode cX12_worst 83 = .ok (.istore_n 3, 1) := by decide +kernel
theorem dX12_worst_84 : decode cX12_worst 84 = .ok (.iinc 4 1, 3) := by decide +kernel
theorem dX12_worst_87 : decode cX12_worst 87 = .ok (.goto (-49), 3) := by decide +kernel
theorem dX12_worst_90 : decode cX12_worst 90 = .ok (.iload_n 2, 1) := by decide +kernel
theorem dX12_worst_91 : decode cX12_worst 91 = .ok (.iconst 1, 1) := by decide +kernel
theorem dX12_worst_92 : decode cX12_worst 92 = .ok (.if_icmp .ne 7, 3) := by decide +kernel
theorem dX12_worst_95 : decode cX12_worst 95 = .ok (.iconst (-1), 1) := by decide +kernel
theorem dX12_worst_96 : decode cX12_worst 96 = .ok (.goto 4, 3) := by decide +kernel
theorem dX12_worst_99 : decode cX12_worst 99 = .ok (.iload_n 3, 1) := by decide +kernel
theorem dX12_worst_100 : decode cX12_worst 100 = .ok (.ireturn, 1) := by decide +kernel
theorem dX12_beside_0 : decode cX12_beside 0 = .ok (.iload_n 1, 1) := by decide +kernel
theorem dX12_beside_1 : decode cX12_beside 1 = .ok (.i2l, 1) := by decide +kernel
theorem dX12_beside_2 : decode cX12_beside 2 = .ok (.lconst 0, 1) := by decide +kernel
theorem dX12_beside_3 : decode cX12_beside 3 = .ok (.aload_n 0, 1) := by decide +kernel
theorem dX12_beside_4 : decode cX12_beside 4 = .ok (.getfield 440, 3) := by decide +kernel
theorem dX12_beside_7 : decode cX12_beside 7 = .ok (.iconst 1, 1) := by decide +kernel
theorem dX12_beside_8 : decode cX12_beside 8 = .ok (.isub, 1) := by decide +kernel
theorem dX12_beside_9 : decode cX12_beside 9 = .ok (.i2l, 1) := by decide +kernel
theorem dX12_beside_10 : decode cX12_beside 10 = .ok (.invokestatic 247, 3) := by decide +kernel
theorem dX12_beside_13 : decode cX12_beside 13 = .ok (.ifCond .ne 5, 3) := by decide +kernel
theorem dX12_beside_16 : decode cX12_beside 16 = .ok (.iconst (-1), 1) := by decide +kernel
theorem dX12_beside_17 : decode cX12_beside 17 = .ok (.ireturn, 1) := by decide +kernel
theorem dX12_beside_18 : decode cX12_beside 18 = .ok (.bipush 24, 2) := by decide +kernel
theorem dX12_beside_20 : decode cX12_beside 20 = .ok (.newarray .int, 2) := by decide +kernel
theorem dX12_beside_22 : decode cX12_beside 22 = .ok (.astore_n 2, 1) := by decide +kernel
theorem dX12_beside_23 : decode cX12_beside 23 = .ok (.iconst 0, 1) := by decide +kernel
theorem dX12_beside_24 : decode cX12_beside 24 = .ok (.istore_n 3, 1) := by decide +kernel
theorem dX12_beside_25 : decode cX12_beside 25 = .ok (.iload_n 3, 1) := by decide +kernel
theorem dX12_beside_26 : decode cX12_beside 26 = .ok (.aload_n 0, 1) := by decide +kernel
theorem dX12_beside_27 : decode cX12_beside 27 = .ok (.getfield 254, 3) := by decide +kernel
theorem dX12_beside_30 : decode cX12_beside 30 = .ok (.if_icmp .ge 18, 3) := by decide +kernel
theorem dX12_beside_33 : decode cX12_beside 33 = .ok (.aload_n 2, 1) := by decide +kernel
theorem dX12_beside_34 : decode cX12_beside 34 = .ok (.iload_n 3, 1) := by decide +kernel
theorem dX12_beside_35 : decode cX12_beside 35 = .ok (.aload_n 0, 1) := by decide +kernel
theorem dX12_beside_36 : decode cX12_beside 36 = .ok (.getfield 66, 3) := by decide +kernel
theorem dX12_beside_39 : decode cX12_beside 39 = .ok (.iload_n 3, 1) := by decide +kernel
theorem dX12_beside_40 : decode cX12_beside 40 = .ok (.iaload, 1) := by decide +kernel
theorem dX12_beside_41 : decode cX12_beside 41 = .ok (.iastore, 1) := by decide +kernel
theorem dX12_beside_42 : decode cX12_beside 42 = .ok (.iinc 3 1, 3) := by decide +kernel
theorem dX12_beside_45 : decode cX12_beside 45 = .ok (.goto (-20), 3) := by decide +kernel
theorem dX12_beside_48 : decode cX12_beside 48 = .ok (.aload_n 0, 1) := by decide +kernel
theorem dX12_beside_49 : decode cX12_beside 49 = .ok (.iload_n 1, 1) := by decide +kernel
theorem dX12_beside_50 : decode cX12_beside 50 = .ok (.putfield 184, 3) := by decide +kernel
theorem dX12_beside_53 : decode cX12_beside 53 = .ok (.aload_n 0, 1) := by decide +kernel
theorem dX12_beside_54 : decode cX12_beside 54 = .ok (.invokevirtual 583, 3) := by decide +kernel
theorem dX12_beside_57 : decode cX12_beside 57 = .ok (.istore_n 3, 1) := by decide +kernel
theorem dX12_beside_58 : decode cX12_beside 58 = .ok (.aload_n 0, 1) := by decide +kernel
theorem dX12_beside_59 : decode cX12_beside 59 = .ok (.iconst 0, 1) := by decide +kernel
theorem dX12_beside_60 : decode cX12_beside 60 = .ok (.invokevirtual 527, 3) := by decide +kernel
theorem dX12_beside_63 : decode cX12_beside 63 = .ok (.istore 4, 2) := by decide +kernel
theorem dX12_beside_65 : decode cX12_beside 65 = .ok (.iload_n 3, 1) := by decide +kernel
theorem dX12_beside_66 : decode cX12_beside 66 = .ok (.aload_n 0, 1) := by decide +kernel
theorem dX12_beside_67 : decode cX12_beside 67 = .ok (.invokevirtual 583, 3) := by decide +kernel
theorem dX12_beside_70 : decode cX12_beside 70 = .ok (.isub, 1) := by decide +kernel
theorem dX12_beside_71 : decode cX12_beside 71 = .ok (.istore 5, 2) := by decide +kernel
theorem dX12_beside_73 : decode cX12_beside 73 = .ok (.aload_n 0, 1) := by decide +kernel
theorem dX12_beside_74 : decode cX12_beside 74 = .ok (.iconst (-1), 1) := by decide +kernel
theorem dX12_beside_75 : decode cX12_beside 75 = .ok (.putfield 184, 3) := by decide +kernel
theorem dX12_beside_78 : decode cX12_beside 78 = .ok (.iconst 0, 1) := by decide +kernel
theorem dX12_beside_79 : decode cX12_beside 79 = .ok (.istore 6, 2) := by decide +kernel
theorem dX12_beside_81 : decode cX12_beside 81 = .ok (.iload 6, 2) := by decide +kernel
theorem dX12_beside_83 : decode cX12_beside 83 = .ok (.aload_n 0, 1) := by decide +kernel
theorem dX12_beside_84 : decode cX12_beside 84 = .ok (.getfield 254, 3) := by decide +kernel
theorem dX12_beside_87 : decode cX12_beside 87 = .ok (.if_icmp .ge 23, 3) := by decide +kernel
theorem dX12_beside_90 : decode cX12_beside 90 = .ok (.aload_n 2, 1) := by decide +kernel
theorem dX12_beside_91 : decode cX12_beside 91 = .ok (.iload 6, 2) := by decide +kernel
theorem dX12_beside_93 : decode cX12_beside 93 = .ok (.iaload, 1) := by decide +kernel
theorem dX12_beside_94 : decode cX12_beside 94 = .ok (.ifCond .ne 10, 3) := by decide +kernel
theorem dX12_beside_97 : decode cX12_beside 97 = .ok (.aload_n 0, 1) := by decide +kernel
theorem dX12_beside_98 : decode cX12_beside 98 = .ok (.iload 6, 2) := by decide +kernel
theorem dX12_beside_100 : decode cX12_beside 100 = .ok (.iconst (-1), 1) := by decide +kernel
theorem dX12_beside_101 : decode cX12_beside 101 = .ok (.invokevirtual 521, 3) := by decide +kernel
theorem dX12_beside_104 : decode cX12_beside 104 = .ok (.iinc 6 1, 3) := by decide +kernel
theorem dX12_beside_107 : decode cX12_beside 107 = .ok (.goto (-26), 3) := by decide +kernel
theorem dX12_beside_110 : decode cX12_beside 110 = .ok (.iload 4, 2) := by decide +kernel
theorem dX12_beside_112 : decode cX12_beside 112 = .ok (.ifCond .ne 7, 3) := by decide +kernel
theorem dX12_beside_115 : decode cX12_beside 115 = .ok (.iconst 0, 1) := by decide +kernel
theorem dX12_beside_116 : decode cX12_beside 116 = .ok (.goto 5, 3) := by decide +kernel
theorem dX12_beside_119 : decode cX12_beside 119 = .ok (.iload 5, 2) := by decide +kernel
theorem dX12_beside_121 : decode cX12_beside 121 = .ok (.ireturn, 1) := by decide +kernel
theorem dX12_ended_0 : decode cX12_ended 0 = .ok (.aload_n 0, 1) := by decide +kernel
theorem dX12_ended_1 : decode cX12_ended 1 = .ok (.iload_n 1, 1) := by decide +kernel
theorem dX12_ended_2 : decode cX12_ended 2 = .ok (.invokevirtual 539, 3) := by decide +kernel
theorem dX12_ended_5 : decode cX12_ended 5 = .ok (.ifCond .eq 27, 3) := by decide +kernel
theorem dX12_ended_8 : decode cX12_ended 8 = .ok (.iload_n 2, 1) := by decide +kernel
theorem dX12_ended_9 : decode cX12_ended 9 = .ok (.i2l, 1) := by decide +kernel
theorem dX12_ended_10 : decode cX12_ended 10 = .ok (.lconst 0, 1) := by decide +kernel
theorem dX12_ended_11 : decode cX12_ended 11 = .ok (.ldc2_w 590, 3) := by decide +kernel
theorem dX12_ended_14 : decode cX12_ended 14 = .ok (.invokestatic 247, 3) := by decide +kernel
theorem dX12_ended_17 : decode cX12_ended 17 = .ok (.ifCond .eq 15, 3) := by decide +kernel
theorem dX12_ended_20 : decode cX12_ended 20 = .ok (.aload_n 0, 1) := by decide +kernel
theorem dX12_ended_21 : decode cX12_ended 21 = .ok (.getfield 208, 3) := by decide +kernel
theorem dX12_ended_24 : decode cX12_ended 24 = .ok (.iload_n 1, 1) := by decide +kernel
theorem dX12_ended_25 : decode cX12_ended 25 = .ok (.aaload, 1) := by decide +kernel
theorem dX12_ended_26 : decode cX12_ended 26 = .ok (.iload_n 2, 1) := by decide +kernel
theorem dX12_ended_27 : decode cX12_ended 27 = .ok (.laload, 1) := by decide +kernel
theorem dX12_ended_28 : decode cX12_ended 28 = .ok (.l2i, 1) := by decide +kernel
theorem dX12_ended_29 : decode cX12_ended 29 = .ok (.goto 4, 3) := by decide +kernel
theorem dX12_ended_32 : decode cX12_ended 32 = .ok (.iconst (-1), 1) := by decide +kernel
theorem dX12_ended_33 : decode cX12_ended 33 = .ok (.ireturn, 1) := by decide +kernel
theorem dX12_check_0 : decode cX12_check 0 = .ok (.aload_n 0, 1) := by decide +kernel
theorem dX12_check_1 : decode cX12_check 1 = .ok (.iload_n 1, 1) := by decide +kernel
theorem dX12_check_2 : decode cX12_check 2 = .ok (.invokevirtual 539, 3) := by decide +kernel
theorem dX12_check_5 : decode cX12_check 5 = .ok (.ifCond .eq 15, 3) := by decide +kernel
theorem dX12_check_8 : decode cX12_check 8 = .ok (.iload_n 2, 1) := by decide +kernel
theorem dX12_check_9 : decode cX12_check 9 = .ok (.i2l, 1) := by decide +kernel
theorem dX12_check_10 : decode cX12_check 10 = .ok (.lconst 0, 1) := by decide +kernel
theorem dX12_check_11 : decode cX12_check 11 = .ok (.ldc2_w 590, 3) := by decide +kernel
theorem dX12_check_14 : decode cX12_check 14 = .ok (.invokestatic 247, 3) := by decide +kernel
theorem dX12_check_17 : decode cX12_check 17 = .ok (.ifCond .ne 5, 3) := by decide +kernel
theorem dX12_check_20 : decode cX12_check 20 = .ok (.iconst (-1), 1) := by decide +kernel
theorem dX12_check_21 : decode cX12_check 21 = .ok (.ireturn, 1) := by decide +kernel
theorem dX12_check_22 : decode cX12_check 22 = .ok (.iconst 5, 1) := by decide +kernel
theorem dX12_check_23 : decode cX12_check 23 = .ok (.newarray .long, 2) := by decide +kernel
theorem dX12_check_25 : decode cX12_check 25 = .ok (.astore 4, 2) := by decide +kernel
theorem dX12_check_27 : decode cX12_check 27 = .ok (.iconst 0, 1) := by decide +kernel
theorem dX12_check_28 : decode cX12_check 28 = .ok (.istore 5, 2) := by decide +kernel
theorem dX12_check_30 : decode cX12_check 30 = .ok (.iload 5, 2) := by decide +kernel
theorem dX12_check_32 : decode cX12_check 32 = .ok (.iconst 5, 1) := by decide +kernel
theorem dX12_check_33 : decode cX12_check 33 = .ok (.if_icmp .ge 45, 3) := by decide +kernel
theorem dX12_check_36 : decode cX12_check 36 = .ok (.aload 4, 2) := by decide +kernel
theorem dX12_check_38 : decode cX12_check 38 = .ok (.iload 5, 2) := by decide +kernel
theorem dX12_check_40 : decode cX12_check 40 = .ok (.iload 5, 2) := by decide +kernel
theorem dX12_check_42 : decode cX12_check 42 = .ok (.iload_n 2, 1) := by decide +kernel
theorem dX12_check_43 : decode cX12_check 43 = .ok (.if_icmp .ne 19, 3) := by decide +kernel
theorem dX12_check_46 : decode cX12_check 46 = .ok (.aload_n 0, 1) := by decide +kernel
theorem dX12_check_47 : decode cX12_check 47 = .ok (.getfield 208, 3) := by decide +kernel
theorem dX12_check_50 : decode cX12_check 50 = .ok (.iload_n 1, 1) := by decide +kernel
theorem dX12_check_51 : decode cX12_check 51 = .ok (.aaload, 1) := by decide +kernel
theorem dX12_check_52 : decode cX12_check 52 = .ok (.iload 5, 2) := by decide +kernel
theorem dX12_check_54 : decode cX12_check 54 = .ok (.laload, 1) := by decide +kernel
theorem dX12_check_55 : decode cX12_check 55 = .ok (.l2i, 1) := by decide +kernel
theorem dX12_check_56 : decode cX12_check 56 = .ok (.iload_n 3, 1) := by decide +kernel
theorem dX12_check_57 : decode cX12_check 57 = .ok (.ixor, 1) := by decide +kernel
theorem dX12_check_58 : decode cX12_check 58 = .ok (.i2l, 1) := by decide +kernel
theorem dX12_check_59 : decode cX12_check 59 = .ok (.goto 12, 3) := by decide +kernel
theorem dX12_check_62 : decode cX12_check 62 = .ok (.aload_n 0, 1) := by decide +kernel
theorem dX12_check_63 : decode cX12_check 63 = .ok (.getfield 208, 3) := by decide +kernel
theorem dX12_check_66 : decode cX12_check 66 = .ok (.iload_n 1, 1) := by decide +kernel
theorem dX12_check_67 : decode cX12_check 67 = .ok (.aaload, 1) := by decide +kernel
theorem dX12_check_68 : decode cX12_check 68 = .ok (.iload 5, 2) := by decide +kernel
theorem dX12_check_70 : decode cX12_check 70 = .ok (.laload, 1) := by decide +kernel
theorem dX12_check_71 : decode cX12_check 71 = .ok (.lastore, 1) := by decide +kernel
theorem dX12_check_72 : decode cX12_check 72 = .ok (.iinc 5 1, 3) := by decide +kernel
theorem dX12_check_75 : decode cX12_check 75 = .ok (.goto (-45), 3) := by decide +kernel
theorem dX12_check_78 : decode cX12_check 78 = .ok (.aload 4, 2) := by decide +kernel
theorem dX12_check_80 : decode cX12_check 80 = .ok (.iconst 0, 1) := by decide +kernel
theorem dX12_check_81 : decode cX12_check 81 = .ok (.laload, 1) := by decide +kernel
theorem dX12_check_82 : decode cX12_check 82 = .ok (.aload 4, 2) := by decide +kernel
theorem dX12_check_84 : decode cX12_check 84 = .ok (.iconst 1, 1) := by decide +kernel
theorem dX12_check_85 : decode cX12_check 85 = .ok (.laload, 1) := by decide +kernel
theorem dX12_check_86 : decode cX12_check 86 = .ok (.ladd, 1) := by decide +kernel
theorem dX12_check_87 : decode cX12_check 87 = .ok (.aload 4, 2) := by decide +kernel
theorem dX12_check_89 : decode cX12_check 89 = .ok (.iconst 2, 1) := by decide +kernel
theorem dX12_check_90 : decode cX12_check 90 = .ok (.laload, 1) := by decide +kernel
theorem dX12_check_91 : decode cX12_check 91 = .ok (.ladd, 1) := by decide +kernel
theorem dX12_check_92 : decode cX12_check 92 = .ok (.aload 4, 2) := by decide +kernel
theorem dX12_check_94 : decode cX12_check 94 = .ok (.iconst 3, 1) := by decide +kernel
theorem dX12_check_95 : decode cX12_check 95 = .ok (.laload, 1) := by decide +kernel
theorem dX12_check_96 : decode cX12_check 96 = .ok (.lcmp, 1) := by decide +kernel
theorem dX12_check_97 : decode cX12_check 97 = .ok (.ifCond .eq 5, 3) := by decide +kernel
theorem dX12_check_100 : decode cX12_check 100 = .ok (.iconst 1, 1) := by decide +kernel
theorem dX12_check_101 : decode cX12_check 101 = .ok (.ireturn, 1) := by decide +kernel
theorem dX12_check_102 : decode cX12_check 102 = .ok (.aload 4, 2) := by decide +kernel
theorem dX12_check_104 : decode cX12_check 104 = .ok (.iconst 4, 1) := by decide +kernel
theorem dX12_check_105 : decode cX12_check 105 = .ok (.laload, 1) := by decide +kernel
theorem dX12_check_106 : decode cX12_check 106 = .ok (.aload_n 0, 1) := by decide +kernel
theorem dX12_check_107 : decode cX12_check 107 = .ok (.getfield 208, 3) := by decide +kernel
theorem dX12_check_110 : decode cX12_check 110 = .ok (.iload_n 1, 1) := by decide +kernel
theorem dX12_check_111 : decode cX12_check 111 = .ok (.aaload, 1) := by decide +kernel
theorem dX12_check_112 : decode cX12_check 112 = .ok (.iconst 4, 1) := by decide +kernel
theorem dX12_check_113 : decode cX12_check 113 = .ok (.laload, 1) := by decide +kernel
theorem dX12_check_114 : decode cX12_check 114 = .ok (.lcmp, 1) := by decide +kernel
theorem dX12_check_115 : decode cX12_check 115 = .ok (.ifCond .eq 7, 3) := by decide +kernel
theorem dX12_check_118 : decode cX12_check 118 = .ok (.iconst 2, 1) := by decide +kernel
theorem dX12_check_119 : decode cX12_check 119 = .ok (.goto 4, 3) := by decide +kernel
theorem dX12_check_122 : decode cX12_check 122 = .ok (.iconst 0, 1) := by decide +kernel
theorem dX12_check_123 : decode cX12_check 123 = .ok (.ireturn, 1) := by decide +kernel
theorem dX12_told_0 : decode cX12_told 0 = .ok (.aload_n 0, 1) := by decide +kernel
theorem dX12_told_1 : decode cX12_told 1 = .ok (.iload_n 1, 1) := by decide +kernel
theorem dX12_told_2 : decode cX12_told 2 = .ok (.invokevirtual 282, 3) := by decide +kernel
theorem dX12_told_5 : decode cX12_told 5 = .ok (.ifCond .ne 5, 3) := by decide +kernel
theorem dX12_told_8 : decode cX12_told 8 = .ok (.iconst (-1), 1) := by decide +kernel
theorem dX12_told_9 : decode cX12_told 9 = .ok (.ireturn, 1) := by decide +kernel
theorem dX12_told_10 : decode cX12_told 10 = .ok (.iload_n 2, 1) := by decide +kernel
theorem dX12_told_11 : decode cX12_told 11 = .ok (.tableswitch 79 0 5 #[37, 44, 51, 58, 65, 72], 37) := by decide +kernel
theorem dX12_told_48 : decode cX12_told 48 = .ok (.aload_n 0, 1) := by decide +kernel
theorem dX12_told_49 : decode cX12_told 49 = .ok (.getfield 66, 3) := by decide +kernel
theorem dX12_told_52 : decode cX12_told 52 = .ok (.iload_n 1, 1) := by decide +kernel
theorem dX12_told_53 : decode cX12_told 53 = .ok (.iaload, 1) := by decide +kernel
theorem dX12_told_54 : decode cX12_told 54 = .ok (.ireturn, 1) := by decide +kernel
theorem dX12_told_55 : decode cX12_told 55 = .ok (.aload_n 0, 1) := by decide +kernel
theorem dX12_told_56 : decode cX12_told 56 = .ok (.getfield 69, 3) := by decide +kernel
theorem dX12_told_59 : decode cX12_told 59 = .ok (.iload_n 1, 1) := by decide +kernel
theorem dX12_told_60 : decode cX12_told 60 = .ok (.iaload, 1) := by decide +kernel
theorem dX12_told_61 : decode cX12_told 61 = .ok (.ireturn, 1) := by decide +kernel
theorem dX12_told_62 : decode cX12_told 62 = .ok (.aload_n 0, 1) := by decide +kernel
theorem dX12_told_63 : decode cX12_told 63 = .ok (.getfield 72, 3) := by decide +kernel
theorem dX12_told_66 : decode cX12_told 66 = .ok (.iload_n 1, 1) := by decide +kernel
theorem dX12_told_67 : decode cX12_told 67 = .ok (.iaload, 1) := by decide +kernel
theorem dX12_told_68 : decode cX12_told 68 = .ok (.ireturn, 1) := by decide +kernel
theorem dX12_told_69 : decode cX12_told 69 = .ok (.aload_n 0, 1) := by decide +kernel
theorem dX12_told_70 : decode cX12_told 70 = .ok (.getfield 48, 3) := by decide +kernel
theorem dX12_told_73 : decode cX12_told 73 = .ok (.iload_n 1, 1) := by decide +kernel
theorem dX12_told_74 : decode cX12_told 74 = .ok (.iaload, 1) := by decide +kernel
theorem dX12_told_75 : decode cX12_told 75 = .ok (.ireturn, 1) := by decide +kernel
theorem dX12_told_76 : decode cX12_told 76 = .ok (.aload_n 0, 1) := by decide +kernel
theorem dX12_told_77 : decode cX12_told 77 = .ok (.getfield 75, 3) := by decide +kernel
theorem dX12_told_80 : decode cX12_told 80 = .ok (.iload_n 1, 1) := by decide +kernel
theorem dX12_told_81 : decode cX12_told 81 = .ok (.iaload, 1) := by decide +kernel
theorem dX12_told_82 : decode cX12_told 82 = .ok (.ireturn, 1) := by decide +kernel
theorem dX12_told_83 : decode cX12_told 83 = .ok (.aload_n 0, 1) := by decide +kernel
theorem dX12_told_84 : decode cX12_told 84 = .ok (.getfield 78, 3) := by decide +kernel
theorem dX12_told_87 : decode cX12_told 87 = .ok (.iload_n 1, 1) := by decide +kernel
theorem dX12_told_88 : decode cX12_told 88 = .ok (.iaload, 1) := by decide +kernel
theorem dX12_told_89 : decode cX12_told 89 = .ok (.ireturn, 1) := by decide +kernel
theorem dX12_told_90 : decode cX12_told 90 = .ok (.iconst (-1), 1) := by decide +kernel
theorem dX12_told_91 : decode cX12_told 91 = .ok (.ireturn, 1) := by decide +kernel
theorem dX12_is_0 : decode cX12_is 0 = .ok (.aload_n 0, 1) := by decide +kernel
theorem dX12_is_1 : decode cX12_is 1 = .ok (.iload_n 1, 1) := by decide +kernel
theorem dX12_is_2 : decode cX12_is 2 = .ok (.invokevirtual 261, 3) := by decide +kernel
theorem dX12_is_5 : decode cX12_is 5 = .ok (.ifCond .ne 5, 3) := by decide +kernel
theorem dX12_is_8 : decode cX12_is 8 = .ok (.iconst (-1), 1) := by decide +kernel
theorem dX12_is_9 : decode cX12_is 9 = .ok (.ireturn, 1) := by decide +kernel
theorem dX12_is_10 : decode cX12_is 10 = .ok (.iload_n 2, 1) := by decide +kernel
theorem dX12_is_11 : decode cX12_is 11 = .ok (.tableswitch 124 0 5 #[37, 44, 50, 64, 91, 106], 37) := by decide +kernel
theorem dX12_is_48 : decode cX12_is 48 = .ok (.aload_n 0, 1) := by decide +kernel
theorem dX12_is_49 : decode cX12_is 49 = .ok (.getfield 9, 3) := by decide +kernel
theorem dX12_is_52 : decode cX12_is 52 = .ok (.iload_n 1, 1) := by decide +kernel
theorem dX12_is_53 : decode cX12_is 53 = .ok (.iaload, 1) := by decide +kernel
theorem dX12_is_54 : decode cX12_is 54 = .ok (.ireturn, 1) := by decide +kernel
theorem dX12_is_55 : decode cX12_is 55 = .ok (.aload_n 0, 1) := by decide +kernel
theorem dX12_is_56 : decode cX12_is 56 = .ok (.iload_n 1, 1) := by decide +kernel
theorem dX12_is_57 : decode cX12_is 57 = .ok (.invokevirtual 488, 3) := by decide +kernel
theorem dX12_is_60 : decode cX12_is 60 = .ok (.ireturn, 1) := by decide +kernel
theorem dX12_is_61 : decode cX12_is 61 = .ok (.aload_n 0, 1) := by decide +kernel
theorem dX12_is_62 : decode cX12_is 62 = .ok (.getfield 16, 3) := by decide +kernel
theorem dX12_is_65 : decode cX12_is 65 = .ok (.iload_n 1, 1) := by decide +kernel
theorem dX12_is_66 : decode cX12_is 66 = .ok (.iaload, 1) := by decide +kernel
theorem dX12_is_67 : decode cX12_is 67 = .ok (.aload_n 0, 1) := by decide +kernel
theorem dX12_is_68 : decode cX12_is 68 = .ok (.iload_n 1, 1) := by decide +kernel
theorem dX12_is_69 : decode cX12_is 69 = .ok (.iconst (-1), 1) := by decide +kernel
theorem dX12_is_70 : decode cX12_is 70 = .ok (.invokevirtual 473, 3) := by decide +kernel
theorem dX12_is_73 : decode cX12_is 73 = .ok (.isub, 1) := by decide +kernel
theorem dX12_is_74 : decode cX12_is 74 = .ok (.ireturn, 1) := by decide +kernel
theorem dX12_is_75 : decode cX12_is 75 = .ok (.aload_n 0, 1) := by decide +kernel
theorem dX12_is_76 : decode cX12_is 76 = .ok (.getfield 22, 3) := by decide +kernel
theorem dX12_is_79 : decode cX12_is 79 = .ok (.iload_n 1, 1) := by decide +kernel
theorem dX12_is_80 : decode cX12_is 80 = .ok (.laload, 1) := by decide +kernel
theorem dX12_is_81 : decode cX12_is 81 = .ok (.ldc2_w 592, 3) := by decide +kernel
theorem dX12_is_84 : decode cX12_is 84 = .ok (.lcmp, 1) := by decide +kernel
theorem dX12_is_85 : decode cX12_is 85 = .ok (.ifCond .le 9, 3) := by decide +kernel
theorem dX12_is_88 : decode cX12_is 88 = .ok (.ldc_w 594, 3) := by decide +kernel
theorem dX12_is_91 : decode cX12_is 91 = .ok (.goto 10, 3) := by decide +kernel
theorem dX12_is_94 : decode cX12_is 94 = .ok (.aload_n 0, 1) := by decide +kernel
theorem dX12_is_95 : decode cX12_is 95 = .ok (.getfield 22, 3) := by decide +kernel
theorem dX12_is_98 : decode cX12_is 98 = .ok (.iload_n 1, 1) := by decide +kernel
theorem dX12_is_99 : decode cX12_is 99 = .ok (.laload, 1) := by decide +kernel
theorem dX12_is_100 : decode cX12_is 100 = .ok (.l2i, 1) := by decide +kernel
theorem dX12_is_101 : decode cX12_is 101 = .ok (.ireturn, 1) := by decide +kernel
theorem dX12_is_102 : decode cX12_is 102 = .ok (.aload_n 0, 1) := by decide +kernel
theorem dX12_is_103 : decode cX12_is 103 = .ok (.getfield 26, 3) := by decide +kernel
theorem dX12_is_106 : decode cX12_is 106 = .ok (.iload_n 1, 1) := by decide +kernel
theorem dX12_is_107 : decode cX12_is 107 = .ok (.baload, 1) := by decide +kernel
theorem dX12_is_108 : decode cX12_is 108 = .ok (.ifCond .eq 7, 3) := by decide +kernel
theorem dX12_is_111 : decode cX12_is 111 = .ok (.iconst 1, 1) := by decide +kernel
theorem dX12_is_112 : decode cX12_is 112 = .ok (.goto 4, 3) := by decide +kernel
theorem dX12_is_115 : decode cX12_is 115 = .ok (.iconst 0, 1) := by decide +kernel
theorem dX12_is_116 : decode cX12_is 116 = .ok (.ireturn, 1) := by decide +kernel
theorem dX12_is_117 : decode cX12_is 117 = .ok (.aload_n 0, 1) := by decide +kernel
theorem dX12_is_118 : decode cX12_is 118 = .ok (.iload_n 1, 1) := by decide +kernel
theorem dX12_is_119 : decode cX12_is 119 = .ok (.invokevirtual 494, 3) := by decide +kernel
theorem dX12_is_122 : decode cX12_is 122 = .ok (.ifCond .ge 7, 3) := by decide +kernel
theorem dX12_is_125 : decode cX12_is 125 = .ok (.iconst 0, 1) := by decide +kernel
theorem dX12_is_126 : decode cX12_is 126 = .ok (.goto 8, 3) := by decide +kernel
theorem dX12_is_129 : decode cX12_is 129 = .ok (.aload_n 0, 1) := by decide +kernel
theorem dX12_is_130 : decode cX12_is 130 = .ok (.iload_n 1, 1) := by decide +kernel
theorem dX12_is_131 : decode cX12_is 131 = .ok (.invokevirtual 494, 3) := by decide +kernel
theorem dX12_is_134 : decode cX12_is 134 = .ok (.ireturn, 1) := by decide +kernel
theorem dX12_is_135 : decode cX12_is 135 = .ok (.iconst (-1), 1) := by decide +kernel
theorem dX12_is_136 : decode cX12_is 136 = .ok (.ireturn, 1) := by decide +kernel
theorem dX12_count_0 : decode cX12_count 0 = .ok (.iload_n 1, 1) := by decide +kernel
theorem dX12_count_1 : decode cX12_count 1 = .ok (.tableswitch 152 0 12 #[67, 72, 77, 82, 87, 92, 97, 102, 107, 112, 137, 142, 147], 67) := by decide +kernel
theorem dX12_count_68 : decode cX12_count 68 = .ok (.aload_n 0, 1) := by decide +kernel
theorem dX12_count_69 : decode cX12_count 69 = .ok (.getfield 275, 3) := by decide +kernel
theorem dX12_count_72 : decode cX12_count 72 = .ok (.ireturn, 1) := by decide +kernel
theorem dX12_count_73 : decode cX12_count 73 = .ok (.aload_n 0, 1) := by decide +kernel
theorem dX12_count_74 : decode cX12_count 74 = .ok (.getfield 244, 3) := by decide +kernel
theorem dX12_count_77 : decode cX12_count 77 = .ok (.ireturn, 1) := by decide +kernel
theorem dX12_count_78 : decode cX12_count 78 = .ok (.aload_n 0, 1) := by decide +kernel
theorem dX12_count_79 : decode cX12_count 79 = .ok (.getfield 251, 3) := by decide +kernel
theorem dX12_count_82 : decode cX12_count 82 = .ok (.ireturn, 1) := by decide +kernel
theorem dX12_count_83 : decode cX12_count 83 = .ok (.aload_n 0, 1) := by decide +kernel
theorem dX12_count_84 : decode cX12_count 84 = .ok (.getfield 254, 3) := by decide +kernel
theorem dX12_count_87 : decode cX12_count 87 = .ok (.ireturn, 1) := by decide +kernel
theorem dX12_count_88 : decode cX12_count 88 = .ok (.aload_n 0, 1) := by decide +kernel
theorem dX12_count_89 : decode cX12_count 89 = .ok (.getfield 290, 3) := by decide +kernel
theorem dX12_count_92 : decode cX12_count 92 = .ok (.ireturn, 1) := by decide +kernel
theorem dX12_count_93 : decode cX12_count 93 = .ok (.aload_n 0, 1) := by decide +kernel
theorem dX12_count_94 : decode cX12_count 94 = .ok (.getfield 440, 3) := by decide +kernel
theorem dX12_count_97 : decode cX12_count 97 = .ok (.ireturn, 1) := by decide +kernel
theorem dX12_count_98 : decode cX12_count 98 = .ok (.aload_n 0, 1) := by decide +kernel
theorem dX12_count_99 : decode cX12_count 99 = .ok (.getfield 343, 3) := by decide +kernel
theorem dX12_count_102 : decode cX12_count 102 = .ok (.ireturn, 1) := by decide +kernel
theorem dX12_count_103 : decode cX12_count 103 = .ok (.aload_n 0, 1) := by decide +kernel
theorem dX12_count_104 : decode cX12_count 104 = .ok (.invokevirtual 583, 3) := by decide +kernel
theorem dX12_count_107 : decode cX12_count 107 = .ok (.ireturn, 1) := by decide +kernel
theorem dX12_count_108 : decode cX12_count 108 = .ok (.aload_n 0, 1) := by decide +kernel
theorem dX12_count_109 : decode cX12_count 109 = .ok (.getfield 272, 3) := by decide +kernel
theorem dX12_count_112 : decode cX12_count 112 = .ok (.ireturn, 1) := by decide +kernel
theorem dX12_count_113 : decode cX12_count 113 = .ok (.aload_n 0, 1) := by decide +kernel
theorem dX12_count_114 : decode cX12_count 114 = .ok (.invokevirtual 583, 3) := by decide +kernel
theorem dX12_count_117 : decode cX12_count 117 = .ok (.aload_n 0, 1) := by decide +kernel
theorem dX12_count_118 : decode cX12_count 118 = .ok (.getfield 272, 3) := by decide +kernel
theorem dX12_count_121 : decode cX12_count 121 = .ok (.if_icmp .le 15, 3) := by decide +kernel
theorem dX12_count_124 : decode cX12_count 124 = .ok (.aload_n 0, 1) := by decide +kernel
theorem dX12_count_125 : decode cX12_count 125 = .ok (.invokevirtual 583, 3) := by decide +kernel
theorem dX12_count_128 : decode cX12_count 128 = .ok (.aload_n 0, 1) := by decide +kernel
theorem dX12_count_129 : decode cX12_count 129 = .ok (.getfield 272, 3) := by decide +kernel
theorem dX12_count_132 : decode cX12_count 132 = .ok (.isub, 1) := by decide +kernel
theorem dX12_count_133 : decode cX12_count 133 = .ok (.goto 4, 3) := by decide +kernel
theorem dX12_count_136 : decode cX12_count 136 = .ok (.iconst 0, 1) := by decide +kernel
theorem dX12_count_137 : decode cX12_count 137 = .ok (.ireturn, 1) := by decide +kernel
theorem dX12_count_138 : decode cX12_count 138 = .ok (.aload_n 0, 1) := by decide +kernel
theorem dX12_count_139 : decode cX12_count 139 = .ok (.getfield 573, 3) := by decide +kernel
theorem dX12_count_142 : decode cX12_count 142 = .ok (.ireturn, 1) := by decide +kernel
theorem dX12_count_143 : decode cX12_count 143 = .ok (.aload_n 0, 1) := by decide +kernel
theorem dX12_count_144 : decode cX12_count 144 = .ok (.getfield 580, 3) := by decide +kernel
theorem dX12_count_147 : decode cX12_count 147 = .ok (.ireturn, 1) := by decide +kernel
theorem dX12_count_148 : decode cX12_count 148 = .ok (.aload_n 0, 1) := by decide +kernel
theorem dX12_count_149 : decode cX12_count 149 = .ok (.getfield 328, 3) := by decide +kernel
theorem dX12_count_152 : decode cX12_count 152 = .ok (.ireturn, 1) := by decide +kernel
theorem dX12_count_153 : decode cX12_count 153 = .ok (.iconst (-1), 1) := by decide +kernel
theorem dX12_count_154 : decode cX12_count 154 = .ok (.ireturn, 1) := by decide +kernel
theorem dJ6_bitCount_0f7a4_0 : decode cJ6_bitCount_0f7a4 0 = .ok (.iload_n 0, 1) := by decide +kernel
theorem dJ6_bitCount_0f7a4_1 : decode cJ6_bitCount_0f7a4 1 = .ok (.iload_n 0, 1) := by decide +kernel
theorem dJ6_bitCount_0f7a4_2 : decode cJ6_bitCount_0f7a4 2 = .ok (.iconst 1, 1) := by decide +kernel
theorem dJ6_bitCount_0f7a4_3 : decode cJ6_bitCount_0f7a4 3 = .ok (.iushr, 1) := by decide +kernel
theorem dJ6_bitCount_0f7a4_4 : decode cJ6_bitCount_0f7a4 4 = .ok (.ldc_w 265, 3) := by decide +kernel
theorem dJ6_bitCount_0f7a4_7 : decode cJ6_bitCount_0f7a4 7 = .ok (.iand, 1) := by decide +kernel
theorem dJ6_bitCount_0f7a4_8 : decode cJ6_bitCount_0f7a4 8 = .ok (.isub, 1) := by decide +kernel
theorem dJ6_bitCount_0f7a4_9 : decode cJ6_bitCount_0f7a4 9 = .ok (.istore_n 0, 1) := by decide +kernel
theorem dJ6_bitCount_0f7a4_10 : decode cJ6_bitCount_0f7a4 10 = .ok (.iload_n 0, 1) := by decide +kernel
theorem dJ6_bitCount_0f7a4_11 : decode cJ6_bitCount_0f7a4 11 = .ok (.ldc_w 266, 3) := by decide +kernel
theorem dJ6_bitCount_0f7a4_14 : decode cJ6_bitCount_0f7a4 14 = .ok (.iand, 1) := by decide +kernel
theorem dJ6_bitCount_0f7a4_15 : decode cJ6_bitCount_0f7a4 15 = .ok (.iload_n 0, 1) := by decide +kernel
theorem dJ6_bitCount_0f7a4_16 : decode cJ6_bitCount_0f7a4 16 = .ok (.iconst 2, 1) := by decide +kernel
theorem dJ6_bitCount_0f7a4_17 : decode cJ6_bitCount_0f7a4 17 = .ok (.iushr, 1) := by decide +kernel
theorem dJ6_bitCount_0f7a4_18 : decode cJ6_bitCount_0f7a4 18 = .ok (.ldc_w 266, 3) := by decide +kernel
theorem dJ6_bitCount_0f7a4_21 : decode cJ6_bitCount_0f7a4 21 = .ok (.iand, 1) := by decide +kernel
theorem dJ6_bitCount_0f7a4_22 : decode cJ6_bitCount_0f7a4 22 = .ok (.iadd, 1) := by decide +kernel
theorem dJ6_bitCount_0f7a4_23 : decode cJ6_bitCount_0f7a4 23 = .ok (.istore_n 0, 1) := by decide +kernel
theorem dJ6_bitCount_0f7a4_24 : decode cJ6_bitCount_0f7a4 24 = .ok (.iload_n 0, 1) := by decide +kernel
theorem dJ6_bitCount_0f7a4_25 : decode cJ6_bitCount_0f7a4 25 = .ok (.iload_n 0, 1) := by decide +kernel
theorem dJ6_bitCount_0f7a4_26 : decode cJ6_bitCount_0f7a4 26 = .ok (.iconst 4, 1) := by decide +kernel
theorem dJ6_bitCount_0f7a4_27 : decode cJ6_bitCount_0f7a4 27 = .ok (.iushr, 1) := by decide +kernel
theorem dJ6_bitCount_0f7a4_28 : decode cJ6_bitCount_0f7a4 28 = .ok (.iadd, 1) := by decide +kernel
theorem dJ6_bitCount_0f7a4_29 : decode cJ6_bitCount_0f7a4 29 = .ok (.ldc_w 267, 3) := by decide +kernel
theorem dJ6_bitCount_0f7a4_32 : decode cJ6_bitCount_0f7a4 32 = .ok (.iand, 1) := by decide +kernel
theorem dJ6_bitCount_0f7a4_33 : decode cJ6_bitCount_0f7a4 33 = .ok (.istore_n 0, 1) := by decide +kernel
theorem dJ6_bitCount_0f7a4_34 : decode cJ6_bitCount_0f7a4 34 = .ok (.iload_n 0, 1) := by decide +kernel
theorem dJ6_bitCount_0f7a4_35 : decode cJ6_bitCount_0f7a4 35 = .ok (.iload_n 0, 1) := by decide +kernel
theorem dJ6_bitCount_0f7a4_36 : decode cJ6_bitCount_0f7a4 36 = .ok (.bipush 8, 2) := by decide +kernel
theorem dJ6_bitCount_0f7a4_38 : decode cJ6_bitCount_0f7a4 38 = .ok (.iushr, 1) := by decide +kernel
theorem dJ6_bitCount_0f7a4_39 : decode cJ6_bitCount_0f7a4 39 = .ok (.iadd, 1) := by decide +kernel
theorem dJ6_bitCount_0f7a4_40 : decode cJ6_bitCount_0f7a4 40 = .ok (.istore_n 0, 1) := by decide +kernel
theorem dJ6_bitCount_0f7a4_41 : decode cJ6_bitCount_0f7a4 41 = .ok (.iload_n 0, 1) := by decide +kernel
theorem dJ6_bitCount_0f7a4_42 : decode cJ6_bitCount_0f7a4 42 = .ok (.iload_n 0, 1) := by decide +kernel
theorem dJ6_bitCount_0f7a4_43 : decode cJ6_bitCount_0f7a4 43 = .ok (.bipush 16, 2) := by decide +kernel
theorem dJ6_bitCount_0f7a4_45 : decode cJ6_bitCount_0f7a4 45 = .ok (.iushr, 1) := by decide +kernel
theorem dJ6_bitCount_0f7a4_46 : decode cJ6_bitCount_0f7a4 46 = .ok (.iadd, 1) := by decide +kernel
theorem dJ6_bitCount_0f7a4_47 : decode cJ6_bitCount_0f7a4 47 = .ok (.istore_n 0, 1) := by decide +kernel
theorem dJ6_bitCount_0f7a4_48 : decode cJ6_bitCount_0f7a4 48 = .ok (.iload_n 0, 1) := by decide +kernel
theorem dJ6_bitCount_0f7a4_49 : decode cJ6_bitCount_0f7a4 49 = .ok (.bipush 63, 2) := by decide +kernel
theorem dJ6_bitCount_0f7a4_51 : decode cJ6_bitCount_0f7a4 51 = .ok (.iand, 1) := by decide +kernel
theorem dJ6_bitCount_0f7a4_52 : decode cJ6_bitCount_0f7a4 52 = .ok (.ireturn, 1) := by decide +kernel
theorem dJ9_abs_0f7a4_0 : decode cJ9_abs_0f7a4 0 = .ok (.iload_n 0, 1) := by decide +kernel
theorem dJ9_abs_0f7a4_1 : decode cJ9_abs_0f7a4 1 = .ok (.ifCond .ge 8, 3) := by decide +kernel
theorem dJ9_abs_0f7a4_4 : decode cJ9_abs_0f7a4 4 = .ok (.iload_n 0, 1) := by decide +kernel
theorem dJ9_abs_0f7a4_5 : decode cJ9_abs_0f7a4 5 = .ok (.ineg, 1) := by decide +kernel
theorem dJ9_abs_0f7a4_6 : decode cJ9_abs_0f7a4 6 = .ok (.goto 4, 3) := by decide +kernel
theorem dJ9_abs_0f7a4_9 : decode cJ9_abs_0f7a4 9 = .ok (.iload_n 0, 1) := by decide +kernel
theorem dJ9_abs_0f7a4_10 : decode cJ9_abs_0f7a4 10 = .ok (.ireturn, 1) := by decide +kernel
theorem dJ9_max_7cf53_0 : decode cJ9_max_7cf53 0 = .ok (.iload_n 0, 1) := by decide +kernel
theorem dJ9_max_7cf53_1 : decode cJ9_max_7cf53 1 = .ok (.iload_n 1, 1) := by decide +kernel
theorem dJ9_max_7cf53_2 : decode cJ9_max_7cf53 2 = .ok (.if_icmp .lt 7, 3) := by decide +kernel
theorem dJ9_max_7cf53_5 : decode cJ9_max_7cf53 5 = .ok (.iload_n 0, 1) := by decide +kernel
theorem dJ9_max_7cf53_6 : decode cJ9_max_7cf53 6 = .ok (.goto 4, 3) := by decide +kernel
theorem dJ9_max_7cf53_9 : decode cJ9_max_7cf53 9 = .ok (.iload_n 1, 1) := by decide +kernel
theorem dJ9_max_7cf53_10 : decode cJ9_max_7cf53 10 = .ok (.ireturn, 1) := by decide +kernel
theorem dJ9_min_7cf53_0 : decode cJ9_min_7cf53 0 = .ok (.iload_n 0, 1) := by decide +kernel
theorem dJ9_min_7cf53_1 : decode cJ9_min_7cf53 1 = .ok (.iload_n 1, 1) := by decide +kernel
theorem dJ9_min_7cf53_2 : decode cJ9_min_7cf53 2 = .ok (.if_icmp .gt 7, 3) := by decide +kernel
theorem dJ9_min_7cf53_5 : decode cJ9_min_7cf53 5 = .ok (.iload_n 0, 1) := by decide +kernel
theorem dJ9_min_7cf53_6 : decode cJ9_min_7cf53 6 = .ok (.goto 4, 3) := by decide +kernel
theorem dJ9_min_7cf53_9 : decode cJ9_min_7cf53 9 = .ok (.iload_n 1, 1) := by decide +kernel
theorem dJ9_min_7cf53_10 : decode cJ9_min_7cf53 10 = .ok (.ireturn, 1) := by decide +kernel
theorem dJ9_min_f86c9_0 : decode cJ9_min_f86c9 0 = .ok (.lload_n 0, 1) := by decide +kernel
theorem dJ9_min_f86c9_1 : decode cJ9_min_f86c9 1 = .ok (.lload_n 2, 1) := by decide +kernel
theorem dJ9_min_f86c9_2 : decode cJ9_min_f86c9 2 = .ok (.lcmp, 1) := by decide +kernel
theorem dJ9_min_f86c9_3 : decode cJ9_min_f86c9 3 = .ok (.ifCond .gt 7, 3) := by decide +kernel
theorem dJ9_min_f86c9_6 : decode cJ9_min_f86c9 6 = .ok (.lload_n 0, 1) := by decide +kernel
theorem dJ9_min_f86c9_7 : decode cJ9_min_f86c9 7 = .ok (.goto 4, 3) := by decide +kernel
theorem dJ9_min_f86c9_10 : decode cJ9_min_f86c9 10 = .ok (.lload_n 2, 1) := by decide +kernel
theorem dJ9_min_f86c9_11 : decode cJ9_min_f86c9 11 = .ok (.lreturn, 1) := by decide +kernel
theorem dJ0_length_8abf5_0 : decode cJ0_length_8abf5 0 = .ok (.aload_n 0, 1) := by decide +kernel
theorem dJ0_length_8abf5_1 : decode cJ0_length_8abf5 1 = .ok (.getfield 9, 3) := by decide +kernel
theorem dJ0_length_8abf5_4 : decode cJ0_length_8abf5 4 = .ok (.arraylength, 1) := by decide +kernel
theorem dJ0_length_8abf5_5 : decode cJ0_length_8abf5 5 = .ok (.aload_n 0, 1) := by decide +kernel
theorem dJ0_length_8abf5_6 : decode cJ0_length_8abf5 6 = .ok (.invokevirtual 335, 3) := by decide +kernel
theorem dJ0_length_8abf5_9 : decode cJ0_length_8abf5 9 = .ok (.ishr, 1) := by decide +kernel
theorem dJ0_length_8abf5_10 : decode cJ0_length_8abf5 10 = .ok (.ireturn, 1) := by decide +kernel
theorem dJ0_charAt_5068e_0 : decode cJ0_charAt_5068e 0 = .ok (.aload_n 0, 1) := by decide +kernel
theorem dJ0_charAt_5068e_1 : decode cJ0_charAt_5068e 1 = .ok (.invokevirtual 492, 3) := by decide +kernel
theorem dJ0_charAt_5068e_4 : decode cJ0_charAt_5068e 4 = .ok (.ifCond .eq 12, 3) := by decide +kernel
theorem dJ0_charAt_5068e_7 : decode cJ0_charAt_5068e 7 = .ok (.aload_n 0, 1) := by decide +kernel
theorem dJ0_charAt_5068e_8 : decode cJ0_charAt_5068e 8 = .ok (.getfield 9, 3) := by decide +kernel
theorem dJ0_charAt_5068e_11 : decode cJ0_charAt_5068e 11 = .ok (.iload_n 1, 1) := by decide +kernel
theorem dJ0_charAt_5068e_12 : decode cJ0_charAt_5068e 12 = .ok (.invokestatic 495, 3) := by decide +kernel
theorem dJ0_charAt_5068e_15 : decode cJ0_charAt_5068e 15 = .ok (.ireturn, 1) := by decide +kernel
theorem dJ0_charAt_5068e_16 : decode cJ0_charAt_5068e 16 = .ok (.aload_n 0, 1) := by decide +kernel
theorem dJ0_charAt_5068e_17 : decode cJ0_charAt_5068e 17 = .ok (.getfield 9, 3) := by decide +kernel
theorem dJ0_charAt_5068e_20 : decode cJ0_charAt_5068e 20 = .ok (.iload_n 1, 1) := by decide +kernel
theorem dJ0_charAt_5068e_21 : decode cJ0_charAt_5068e 21 = .ok (.invokestatic 498, 3) := by decide +kernel
theorem dJ0_charAt_5068e_24 : decode cJ0_charAt_5068e 24 = .ok (.ireturn, 1) := by decide +kernel
theorem dJ0_coder_7d493_0 : decode cJ0_coder_7d493 0 = .ok (.getstatic 38, 3) := by decide +kernel
theorem dJ0_coder_7d493_3 : decode cJ0_coder_7d493 3 = .ok (.ifCond .eq 10, 3) := by decide +kernel
theorem dJ0_coder_7d493_6 : decode cJ0_coder_7d493 6 = .ok (.aload_n 0, 1) := by decide +kernel
theorem dJ0_coder_7d493_7 : decode cJ0_coder_7d493 7 = .ok (.getfield 15, 3) := by decide +kernel
theorem dJ0_coder_7d493_10 : decode cJ0_coder_7d493 10 = .ok (.goto 4, 3) := by decide +kernel
theorem dJ0_coder_7d493_13 : decode cJ0_coder_7d493 13 = .ok (.iconst 1, 1) := by decide +kernel
theorem dJ0_coder_7d493_14 : decode cJ0_coder_7d493 14 = .ok (.ireturn, 1) := by decide +kernel
theorem dJ0_isLatin1_aae02_0 : decode cJ0_isLatin1_aae02 0 = .ok (.getstatic 38, 3) := by decide +kernel
theorem dJ0_isLatin1_aae02_3 : decode cJ0_isLatin1_aae02 3 = .ok (.ifCond .eq 14, 3) := by decide +kernel
theorem dJ0_isLatin1_aae02_6 : decode cJ0_isLatin1_aae02 6 = .ok (.aload_n 0, 1) := by decide +kernel
theorem dJ0_isLatin1_aae02_7 : decode cJ0_isLatin1_aae02 7 = .ok (.getfield 15, 3) := by decide +kernel
theorem dJ0_isLatin1_aae02_10 : decode cJ0_isLatin1_aae02 10 = .ok (.ifCond .ne 7, 3) := by decide +kernel
theorem dJ0_isLatin1_aae02_13 : decode cJ0_isLatin1_aae02 13 = .ok (.iconst 1, 1) := by decide +kernel
theorem dJ0_isLatin1_aae02_14 : decode cJ0_isLatin1_aae02 14 = .ok (.goto 4, 3) := by decide +kernel
theorem dJ0_isLatin1_aae02_17 : decode cJ0_isLatin1_aae02 17 = .ok (.iconst 0, 1) := by decide +kernel
theorem dJ0_isLatin1_aae02_18 : decode cJ0_isLatin1_aae02 18 = .ok (.ireturn, 1) := by decide +kernel
theorem dJ0_checkIndex_df160_0 : decode cJ0_checkIndex_df160 0 = .ok (.iload_n 0, 1) := by decide +kernel
theorem dJ0_checkIndex_df160_1 : decode cJ0_checkIndex_df160 1 = .ok (.iload_n 1, 1) := by decide +kernel
theorem dJ0_checkIndex_df160_2 : decode cJ0_checkIndex_df160 2 = .ok (.getstatic 1053, 3) := by decide +kernel
theorem dJ0_checkIndex_df160_5 : decode cJ0_checkIndex_df160 5 = .ok (.invokestatic 1059, 3) := by decide +kernel
theorem dJ0_checkIndex_df160_8 : decode cJ0_checkIndex_df160 8 = .ok (.pop, 1) := by decide +kernel
theorem dJ0_checkIndex_df160_9 : decode cJ0_checkIndex_df160 9 = .ok (.return_, 1) := by decide +kernel
theorem dJ1_charAt_3b067_0 : decode cJ1_charAt_3b067 0 = .ok (.iload_n 1, 1) := by decide +kernel
theorem dJ1_charAt_3b067_1 : decode cJ1_charAt_3b067 1 = .ok (.aload_n 0, 1) := by decide +kernel
theorem dJ1_charAt_3b067_2 : decode cJ1_charAt_3b067 2 = .ok (.arraylength, 1) := by decide +kernel
theorem dJ1_charAt_3b067_3 : decode cJ1_charAt_3b067 3 = .ok (.invokestatic 9, 3) := by decide +kernel
theorem dJ1_charAt_3b067_6 : decode cJ1_charAt_3b067 6 = .ok (.aload_n 0, 1) := by decide +kernel
theorem dJ1_charAt_3b067_7 : decode cJ1_charAt_3b067 7 = .ok (.iload_n 1, 1) := by decide +kernel
theorem dJ1_charAt_3b067_8 : decode cJ1_charAt_3b067 8 = .ok (.baload, 1) := by decide +kernel
theorem dJ1_charAt_3b067_9 : decode cJ1_charAt_3b067 9 = .ok (.sipush 255, 3) := by decide +kernel
theorem dJ1_charAt_3b067_12 : decode cJ1_charAt_3b067 12 = .ok (.iand, 1) := by decide +kernel
theorem dJ1_charAt_3b067_13 : decode cJ1_charAt_3b067 13 = .ok (.i2c, 1) := by decide +kernel
theorem dJ1_charAt_3b067_14 : decode cJ1_charAt_3b067 14 = .ok (.ireturn, 1) := by decide +kernel
theorem dJ2_getChar_3b067_0 : decode cJ2_getChar_3b067 0 = .ok (.getstatic 44, 3) := by decide +kernel
theorem dJ2_getChar_3b067_3 : decode cJ2_getChar_3b067 3 = .ok (.ifCond .ne 25, 3) := by decide +kernel
theorem dJ2_getChar_3b067_6 : decode cJ2_getChar_3b067 6 = .ok (.iload_n 1, 1) := by decide +kernel
theorem dJ2_getChar_3b067_7 : decode cJ2_getChar_3b067 7 = .ok (.ifCond .lt 11, 3) := by decide +kernel
theorem dJ2_getChar_3b067_10 : decode cJ2_getChar_3b067 10 = .ok (.iload_n 1, 1) := by decide +kernel
theorem dJ2_getChar_3b067_11 : decode cJ2_getChar_3b067 11 = .ok (.aload_n 0, 1) := by decide +kernel
theorem dJ2_getChar_3b067_12 : decode cJ2_getChar_3b067 12 = .ok (.invokestatic 48, 3) := by decide +kernel
theorem dJ2_getChar_3b067_15 : decode cJ2_getChar_3b067 15 = .ok (.if_icmp .lt 13, 3) := by decide +kernel
theorem dJ2_getChar_3b067_18 : decode cJ2_getChar_3b067 18 = .ok (.new 52, 3) := by decide +kernel
theorem dJ2_getChar_3b067_21 : decode cJ2_getChar_3b067 21 = .ok (.dup, 1) := by decide +kernel
theorem dJ2_getChar_3b067_22 : decode cJ2_getChar_3b067 22 = .ok (.ldc 54, 2) := by decide +kernel
theorem dJ2_getChar_3b067_24 : decode cJ2_getChar_3b067 24 = .ok (.invokespecial 56, 3) := by decide +kernel
theorem dJ2_getChar_3b067_27 : decode cJ2_getChar_3b067 27 = .ok (.athrow, 1) := by decide +kernel
theorem dJ2_getChar_3b067_28 : decode cJ2_getChar_3b067 28 = .ok (.iload_n 1, 1) := by decide +kernel
theorem dJ2_getChar_3b067_29 : decode cJ2_getChar_3b067 29 = .ok (.iconst 1, 1) := by decide +kernel
theorem dJ2_getChar_3b067_30 : decode cJ2_getChar_3b067 30 = .ok (.ishl, 1) := by decide +kernel
theorem dJ2_getChar_3b067_31 : decode cJ2_getChar_3b067 31 = .ok (.istore_n 1, 1) := by decide +kernel
theorem dJ2_getChar_3b067_32 : decode cJ2_getChar_3b067 32 = .ok (.aload_n 0, 1) := by decide +kernel
theorem dJ2_getChar_3b067_33 : decode cJ2_getChar_3b067 33 = .ok (.iload_n 1, 1) := by decide +kernel
theorem dJ2_getChar_3b067_34 : decode cJ2_getChar_3b067 34 = .ok (.iinc 1 1, 3) := by decide +kernel
theorem dJ2_getChar_3b067_37 : decode cJ2_getChar_3b067 37 = .ok (.baload, 1) := by decide +kernel
theorem dJ2_getChar_3b067_38 : decode cJ2_getChar_3b067 38 = .ok (.sipush 255, 3) := by decide +kernel
theorem dJ2_getChar_3b067_41 : decode cJ2_getChar_3b067 41 = .ok (.iand, 1) := by decide +kernel
theorem dJ2_getChar_3b067_42 : decode cJ2_getChar_3b067 42 = .ok (.getstatic 59, 3) := by decide +kernel
theorem dJ2_getChar_3b067_45 : decode cJ2_getChar_3b067 45 = .ok (.ishl, 1) := by decide +kernel
theorem dJ2_getChar_3b067_46 : decode cJ2_getChar_3b067 46 = .ok (.aload_n 0, 1) := by decide +kernel
theorem dJ2_getChar_3b067_47 : decode cJ2_getChar_3b067 47 = .ok (.iload_n 1, 1) := by decide +kernel
theorem dJ2_getChar_3b067_48 : decode cJ2_getChar_3b067 48 = .ok (.baload, 1) := by decide +kernel
theorem dJ2_getChar_3b067_49 : decode cJ2_getChar_3b067 49 = .ok (.sipush 255, 3) := by decide +kernel
theorem dJ2_getChar_3b067_52 : decode cJ2_getChar_3b067 52 = .ok (.iand, 1) := by decide +kernel
theorem dJ2_getChar_3b067_53 : decode cJ2_getChar_3b067 53 = .ok (.getstatic 63, 3) := by decide +kernel
theorem dJ2_getChar_3b067_56 : decode cJ2_getChar_3b067 56 = .ok (.ishl, 1) := by decide +kernel
theorem dJ2_getChar_3b067_57 : decode cJ2_getChar_3b067 57 = .ok (.ior, 1) := by decide +kernel
theorem dJ2_getChar_3b067_58 : decode cJ2_getChar_3b067 58 = .ok (.i2c, 1) := by decide +kernel
theorem dJ2_getChar_3b067_59 : decode cJ2_getChar_3b067 59 = .ok (.ireturn, 1) := by decide +kernel
theorem dJ2_length_9d52b_0 : decode cJ2_length_9d52b 0 = .ok (.aload_n 0, 1) := by decide +kernel
theorem dJ2_length_9d52b_1 : decode cJ2_length_9d52b 1 = .ok (.arraylength, 1) := by decide +kernel
theorem dJ2_length_9d52b_2 : decode cJ2_length_9d52b 2 = .ok (.iconst 1, 1) := by decide +kernel
theorem dJ2_length_9d52b_3 : decode cJ2_length_9d52b 3 = .ok (.ishr, 1) := by decide +kernel
theorem dJ2_length_9d52b_4 : decode cJ2_length_9d52b 4 = .ok (.ireturn, 1) := by decide +kernel
theorem dJ2_charAt_3b067_0 : decode cJ2_charAt_3b067 0 = .ok (.iload_n 1, 1) := by decide +kernel
theorem dJ2_charAt_3b067_1 : decode cJ2_charAt_3b067 1 = .ok (.aload_n 0, 1) := by decide +kernel
theorem dJ2_charAt_3b067_2 : decode cJ2_charAt_3b067 2 = .ok (.invokestatic 67, 3) := by decide +kernel
theorem dJ2_charAt_3b067_5 : decode cJ2_charAt_3b067 5 = .ok (.aload_n 0, 1) := by decide +kernel
theorem dJ2_charAt_3b067_6 : decode cJ2_charAt_3b067 6 = .ok (.iload_n 1, 1) := by decide +kernel
theorem dJ2_charAt_3b067_7 : decode cJ2_charAt_3b067 7 = .ok (.invokestatic 71, 3) := by decide +kernel
theorem dJ2_charAt_3b067_10 : decode cJ2_charAt_3b067 10 = .ok (.ireturn, 1) := by decide +kernel
theorem dJ2_checkIndex_2214a_0 : decode cJ2_checkIndex_2214a 0 = .ok (.iload_n 0, 1) := by decide +kernel
theorem dJ2_checkIndex_2214a_1 : decode cJ2_checkIndex_2214a 1 = .ok (.aload_n 1, 1) := by decide +kernel
theorem dJ2_checkIndex_2214a_2 : decode cJ2_checkIndex_2214a 2 = .ok (.invokestatic 48, 3) := by decide +kernel
theorem dJ2_checkIndex_2214a_5 : decode cJ2_checkIndex_2214a 5 = .ok (.invokestatic 414, 3) := by decide +kernel
theorem dJ2_checkIndex_2214a_8 : decode cJ2_checkIndex_2214a 8 = .ok (.return_, 1) := by decide +kernel
theorem dJ3_checkIndex_8e157_0 : decode cJ3_checkIndex_8e157 0 = .ok (.iload_n 0, 1) := by decide +kernel
theorem dJ3_checkIndex_8e157_1 : decode cJ3_checkIndex_8e157 1 = .ok (.ifCond .lt 8, 3) := by decide +kernel
theorem dJ3_checkIndex_8e157_4 : decode cJ3_checkIndex_8e157 4 = .ok (.iload_n 0, 1) := by decide +kernel
theorem dJ3_checkIndex_8e157_5 : decode cJ3_checkIndex_8e157 5 = .ok (.iload_n 1, 1) := by decide +kernel
theorem dJ3_checkIndex_8e157_6 : decode cJ3_checkIndex_8e157 6 = .ok (.if_icmp .lt 10, 3) := by decide +kernel
theorem dJ3_checkIndex_8e157_9 : decode cJ3_checkIndex_8e157 9 = .ok (.aload_n 2, 1) := by decide +kernel
theorem dJ3_checkIndex_8e157_10 : decode cJ3_checkIndex_8e157 10 = .ok (.iload_n 0, 1) := by decide +kernel
theorem dJ3_checkIndex_8e157_11 : decode cJ3_checkIndex_8e157 11 = .ok (.iload_n 1, 1) := by decide +kernel
theorem dJ3_checkIndex_8e157_12 : decode cJ3_checkIndex_8e157 12 = .ok (.invokestatic 95, 3) := by decide +kernel
theorem dJ3_checkIndex_8e157_15 : decode cJ3_checkIndex_8e157 15 = .ok (.athrow, 1) := by decide +kernel
theorem dJ3_checkIndex_8e157_16 : decode cJ3_checkIndex_8e157 16 = .ok (.iload_n 0, 1) := by decide +kernel
theorem dJ3_checkIndex_8e157_17 : decode cJ3_checkIndex_8e157 17 = .ok (.ireturn, 1) := by decide +kernel
theorem dL_law_0 : decode cL_law 0 = .ok (.new 7, 3) := by decide +kernel
theorem dL_law_3 : decode cL_law 3 = .ok (.dup, 1) := by decide +kernel
theorem dL_law_4 : decode cL_law 4 = .ok (.invokespecial 9, 3) := by decide +kernel
theorem dL_law_7 : decode cL_law 7 = .ok (.astore_n 1, 1) := by decide +kernel
theorem dL_law_8 : decode cL_law 8 = .ok (.new 10, 3) := by decide +kernel
theorem dL_law_11 : decode cL_law 11 = .ok (.dup, 1) := by decide +kernel
theorem dL_law_12 : decode cL_law 12 = .ok (.invokespecial 12, 3) := by decide +kernel
theorem dL_law_15 : decode cL_law 15 = .ok (.astore_n 2, 1) := by decide +kernel
theorem dL_law_16 : decode cL_law 16 = .ok (.iconst 0, 1) := by decide +kernel
theorem dL_law_17 : decode cL_law 17 = .ok (.istore_n 3, 1) := by decide +kernel
theorem dL_law_18 : decode cL_law 18 = .ok (.iload_n 3, 1) := by decide +kernel
theorem dL_law_19 : decode cL_law 19 = .ok (.aload_n 0, 1) := by decide +kernel
theorem dL_law_20 : decode cL_law 20 = .ok (.arraylength, 1) := by decide +kernel
theorem dL_law_21 : decode cL_law 21 = .ok (.bipush 6, 2) := by decide +kernel
theorem dL_law_23 : decode cL_law 23 = .ok (.isub, 1) := by decide +kernel
theorem dL_law_24 : decode cL_law 24 = .ok (.if_icmp .gt 1705, 3) := by decide +kernel
theorem dL_law_27 : decode cL_law 27 = .ok (.aload_n 0, 1) := by decide +kernel
theorem dL_law_28 : decode cL_law 28 = .ok (.iload_n 3, 1) := by decide +kernel
theorem dL_law_29 : decode cL_law 29 = .ok (.iaload, 1) := by decide +kernel
theorem dL_law_30 : decode cL_law 30 = .ok (.bipush 63, 2) := by decide +kernel
theorem dL_law_32 : decode cL_law 32 = .ok (.iand, 1) := by decide +kernel
theorem dL_law_33 : decode cL_law 33 = .ok (.tableswitch 1690 0 46 #[203, 246, 295, 338, 361, 394, 427, 470, 533, 566, 589, 612, 645, 668, 701, 744, 777, 800, 823, 886, 909, 922, 935, 958, 991, 1024, 1047, 1080, 1093, 1126, 1159, 1182, 1205, 1238, 1271, 1284, 1307, 1350, 1393, 1436, 1469, 1502, 1525, 1568, 1601, 1634, 1667], 203) := by decide +kernel
theorem dL_law_236 : decode cL_law 236 = .ok (.aload_n 1, 1) := by decide +kernel
theorem dL_law_237 : decode cL_law 237 = .ok (.aload_n 0, 1) := by decide +kernel
theorem dL_law_238 : decode cL_law 238 = .ok (.iload_n 3, 1) := by decide +kernel
theorem dL_law_239 : decode cL_law 239 = .ok (.iconst 1, 1) := by decide +kernel
theorem dL_law_240 : decode cL_law 240 = .ok (.iadd, 1) := by decide +kernel
theorem dL_law_241 : decode cL_law 241 = .ok (.iaload, 1) := by decide +kernel
theorem dL_law_242 : decode cL_law 242 = .ok (.aload_n 0, 1) := by decide +kernel
theorem dL_law_243 : decode cL_law 243 = .ok (.iload_n 3, 1) := by decide +kernel
theorem dL_law_244 : decode cL_law 244 = .ok (.iconst 2, 1) := by decide +kernel
theorem dL_law_245 : decode cL_law 245 = .ok (.iadd, 1) := by decide +kernel
theorem dL_law_246 : decode cL_law 246 = .ok (.iaload, 1) := by decide +kernel
theorem dL_law_247 : decode cL_law 247 = .ok (.aload_n 0, 1) := by decide +kernel
theorem dL_law_248 : decode cL_law 248 = .ok (.iload_n 3, 1) := by decide +kernel
theorem dL_law_249 : decode cL_law 249 = .ok (.iconst 3, 1) := by decide +kernel
theorem dL_law_250 : decode cL_law 250 = .ok (.iadd, 1) := by decide +kernel
theorem dL_law_251 : decode cL_law 251 = .ok (.iaload, 1) := by decide +kernel
theorem dL_law_252 : decode cL_law 252 = .ok (.invokevirtual 13, 3) := by decide +kernel
theorem dL_law_255 : decode cL_law 255 = .ok (.aload_n 2, 1) := by decide +kernel
theorem dL_law_256 : decode cL_law 256 = .ok (.aload_n 0, 1) := by decide +kernel
theorem dL_law_257 : decode cL_law 257 = .ok (.iload_n 3, 1) := by decide +kernel
theorem dL_law_258 : decode cL_law 258 = .ok (.iconst 1, 1) := by decide +kernel
theorem dL_law_259 : decode cL_law 259 = .ok (.iadd, 1) := by decide +kernel
theorem dL_law_260 : decode cL_law 260 = .ok (.iaload, 1) := by decide +kernel
theorem dL_law_261 : decode cL_law 261 = .ok (.aload_n 0, 1) := by decide +kernel
theorem dL_law_262 : decode cL_law 262 = .ok (.iload_n 3, 1) := by decide +kernel
theorem dL_law_263 : decode cL_law 263 = .ok (.iconst 2, 1) := by decide +kernel
theorem dL_law_264 : decode cL_law 264 = .ok (.iadd, 1) := by decide +kernel
theorem dL_law_265 : decode cL_law 265 = .ok (.iaload, 1) := by decide +kernel
theorem dL_law_266 : decode cL_law 266 = .ok (.aload_n 0, 1) := by decide +kernel
theorem dL_law_267 : decode cL_law 267 = .ok (.iload_n 3, 1) := by decide +kernel
theorem dL_law_268 : decode cL_law 268 = .ok (.iconst 3, 1) := by decide +kernel
theorem dL_law_269 : decode cL_law 269 = .ok (.iadd, 1) := by decide +kernel
theorem dL_law_270 : decode cL_law 270 = .ok (.iaload, 1) := by decide +kernel
theorem dL_law_271 : decode cL_law 271 = .ok (.invokevirtual 17, 3) := by decide +kernel
theorem dL_law_274 : decode cL_law 274 = .ok (.if_icmp .eq 1449, 3) := by decide +kernel
theorem dL_law_277 : decode cL_law 277 = .ok (.iconst 0, 1) := by decide +kernel
theorem dL_law_278 : decode cL_law 278 = .ok (.ireturn, 1) := by decide +kernel
theorem dL_law_279 : decode cL_law 279 = .ok (.aload_n 1, 1) := by decide +kernel
theorem dL_law_280 : decode cL_law 280 = .ok (.aload_n 0, 1) := by decide +kernel
theorem dL_law_281 : decode cL_law 281 = .ok (.iload_n 3, 1) := by decide +kernel
theorem dL_law_282 : decode cL_law 282 = .ok (.iconst 1, 1) := by decide +kernel
theorem dL_law_283 : decode cL_law 283 = .ok (.iadd, 1) := by decide +kernel
theorem dL_law_284 : decode cL_law 284 = .ok (.iaload, 1) := by decide +kernel
theorem dL_law_285 : decode cL_law 285 = .ok (.aload_n 0, 1) := by decide +kernel
theorem dL_law_286 : decode cL_law 286 = .ok (.iload_n 3, 1) := by decide +kernel
theorem dL_law_287 : decode cL_law 287 = .ok (.iconst 2, 1) := by decide +kernel
theorem dL_law_288 : decode cL_law 288 = .ok (.iadd, 1) := by decide +kernel
theorem dL_law_289 : decode cL_law 289 = .ok (.iaload, 1) := by decide +kernel
theorem dL_law_290 : decode cL_law 290 = .ok (.ifCond .eq 7, 3) := by decide +kernel
theorem dL_law_293 : decode cL_law 293 = .ok (.iconst 1, 1) := by decide +kernel
theorem dL_law_294 : decode cL_law 294 = .ok (.goto 4, 3) := by decide +kernel
theorem dL_law_297 : decode cL_law 297 = .ok (.iconst 0, 1) := by decide +kernel
theorem dL_law_298 : decode cL_law 298 = .ok (.invokevirtual 18, 3) := by decide +kernel
theorem dL_law_301 : decode cL_law 301 = .ok (.aload_n 2, 1) := by decide +kernel
theorem dL_law_302 : decode cL_law 302 = .ok (.aload_n 0, 1) := by decide +kernel
theorem dL_law_303 : decode cL_law 303 = .ok (.iload_n 3, 1) := by decide +kernel
theorem dL_law_304 : decode cL_law 304 = .ok (.iconst 1, 1) := by decide +kernel
theorem dL_law_305 : decode cL_law 305 = .ok (.iadd, 1) := by decide +kernel
theorem dL_law_306 : decode cL_law 306 = .ok (.iaload, 1) := by decide +kernel
theorem dL_law_307 : decode cL_law 307 = .ok (.aload_n 0, 1) := by decide +kernel
theorem dL_law_308 : decode cL_law 308 = .ok (.iload_n 3, 1) := by decide +kernel
theorem dL_law_309 : decode cL_law 309 = .ok (.iconst 2, 1) := by decide +kernel
theorem dL_law_310 : decode cL_law 310 = .ok (.iadd, 1) := by decide +kernel
theorem dL_law_311 : decode cL_law 311 = .ok (.iaload, 1) := by decide +kernel
theorem dL_law_312 : decode cL_law 312 = .ok (.ifCond .eq 7, 3) := by decide +kernel
theorem dL_law_315 : decode cL_law 315 = .ok (.iconst 1, 1) := by decide +kernel
theorem dL_law_316 : decode cL_law 316 = .ok (.goto 4, 3) := by decide +kernel
theorem dL_law_319 : decode cL_law 319 = .ok (.iconst 0, 1) := by decide +kernel
theorem dL_law_320 : decode cL_law 320 = .ok (.invokevirtual 22, 3) := by decide +kernel
theorem dL_law_323 : decode cL_law 323 = .ok (.if_icmp .eq 1400, 3) := by decide +kernel
theorem dL_law_326 : decode cL_law 326 = .ok (.iconst 0, 1) := by decide +kernel
theorem dL_law_327 : decode cL_law 327 = .ok (.ireturn, 1) := by decide +kernel
theorem dL_law_328 : decode cL_law 328 = .ok (.aload_n 1, 1) := by decide +kernel
theorem dL_law_329 : decode cL_law 329 = .ok (.aload_n 0, 1) := by decide +kernel
theorem dL_law_330 : decode cL_law 330 = .ok (.iload_n 3, 1) := by decide +kernel
theorem dL_law_331 : decode cL_law 331 = .ok (.iconst 1, 1) := by decide +kernel
theorem dL_law_332 : decode cL_law 332 = .ok (.iadd, 1) := by decide +kernel
theorem dL_law_333 : decode cL_law 333 = .ok (.iaload, 1) := by decide +kernel
theorem dL_law_334 : decode cL_law 334 = .ok (.aload_n 0, 1) := by decide +kernel
theorem dL_law_335 : decode cL_law 335 = .ok (.iload_n 3, 1) := by decide +kernel
theorem dL_law_336 : decode cL_law 336 = .ok (.iconst 2, 1) := by decide +kernel
theorem dL_law_337 : decode cL_law 337 = .ok (.iadd, 1) := by decide +kernel
theorem dL_law_338 : decode cL_law 338 = .ok (.iaload, 1) := by decide +kernel
theorem dL_law_339 : decode cL_law 339 = .ok (.aload_n 0, 1) := by decide +kernel
theorem dL_law_340 : decode cL_law 340 = .ok (.iload_n 3, 1) := by decide +kernel
theorem dL_law_341 : decode cL_law 341 = .ok (.iconst 3, 1) := by decide +kernel
theorem dL_law_342 : decode cL_law 342 = .ok (.iadd, 1) := by decide +kernel
theorem dL_law_343 : decode cL_law 343 = .ok (.iaload, 1) := by decide +kernel
theorem dL_law_344 : decode cL_law 344 = .ok (.invokevirtual 23, 3) := by decide +kernel
theorem dL_law_347 : decode cL_law 347 = .ok (.aload_n 2, 1) := by decide +kernel
theorem dL_law_348 : decode cL_law 348 = .ok (.aload_n 0, 1) := by decide +kernel
theorem dL_law_349 : decode cL_law 349 = .ok (.iload_n 3, 1) := by decide +kernel
theorem dL_law_350 : decode cL_law 350 = .ok (.iconst 1, 1) := by decide +kernel
theorem dL_law_351 : decode cL_law 351 = .ok (.iadd, 1) := by decide +kernel
theorem dL_law_352 : decode cL_law 352 = .ok (.iaload, 1) := by decide +kernel
theorem dL_law_353 : decode cL_law 353 = .ok (.aload_n 0, 1) := by decide +kernel
theorem dL_law_354 : decode cL_law 354 = .ok (.iload_n 3, 1) := by decide +kernel
theorem dL_law_355 : decode cL_law 355 = .ok (.iconst 2, 1) := by decide +kernel
theorem dL_law_356 : decode cL_law 356 = .ok (.iadd, 1) := by decide +kernel
theorem dL_law_357 : decode cL_law 357 = .ok (.iaload, 1) := by decide +kernel
theorem dL_law_358 : decode cL_law 358 = .ok (.aload_n 0, 1) := by decide +kernel
theorem dL_law_359 : decode cL_law 359 = .ok (.iload_n 3, 1) := by decide +kernel
theorem dL_law_360 : decode cL_law 360 = .ok (.iconst 3, 1) := by decide +kernel
theorem dL_law_361 : decode cL_law 361 = .ok (.iadd, 1) := by decide +kernel
theorem dL_law_362 : decode cL_law 362 = .ok (.iaload, 1) := by decide +kernel
theorem dL_law_363 : decode cL_law 363 = .ok (.invokevirtual 26, 3) := by decide +kernel
theorem dL_law_366 : decode cL_law 366 = .ok (.if_icmp .eq 1357, 3) := by decide +kernel
theorem dL_law_369 : decode cL_law 369 = .ok (.iconst 0, 1) := by decide +kernel
theorem dL_law_370 : decode cL_law 370 = .ok (.ireturn, 1) := by decide +kernel
theorem dL_law_371 : decode cL_law 371 = .ok (.aload_n 1, 1) := by decide +kernel
theorem dL_law_372 : decode cL_law 372 = .ok (.aload_n 0, 1) := by decide +kernel
theorem dL_law_373 : decode cL_law 373 = .ok (.iload_n 3, 1) := by decide +kernel
theorem dL_law_374 : decode cL_law 374 = .ok (.iconst 1, 1) := by decide +kernel
theorem dL_law_375 : decode cL_law 375 = .ok (.iadd, 1) := by decide +kernel
theorem dL_law_376 : decode cL_law 376 = .ok (.iaload, 1) := by decide +kernel
theorem dL_law_377 : decode cL_law 377 = .ok (.invokevirtual 27, 3) := by decide +kernel
theorem dL_law_380 : decode cL_law 380 = .ok (.aload_n 2, 1) := by decide +kernel
theorem dL_law_381 : decode cL_law 381 = .ok (.aload_n 0, 1) := by decide +kernel
theorem dL_law_382 : decode cL_law 382 = .ok (.iload_n 3, 1) := by decide +kernel
theorem dL_law_383 : decode cL_law 383 = .ok (.iconst 1, 1) := by decide +kernel
theorem dL_law_384 : decode cL_law 384 = .ok (.iadd, 1) := by decide +kernel
theorem dL_law_385 : decode cL_law 385 = .ok (.iaload, 1) := by decide +kernel
theorem dL_law_386 : decode cL_law 386 = .ok (.invokevirtual 31, 3) := by decide +kernel
theorem dL_law_389 : decode cL_law 389 = .ok (.if_icmp .eq 1334, 3) := by decide +kernel
theorem dL_law_392 : decode cL_law 392 = .ok (.iconst 0, 1) := by decide +kernel
theorem dL_law_393 : decode cL_law 393 = .ok (.ireturn, 1) := by decide +kernel
theorem dL_law_394 : decode cL_law 394 = .ok (.aload_n 1, 1) := by decide +kernel
theorem dL_law_395 : decode cL_law 395 = .ok (.aload_n 0, 1) := by decide +kernel
theorem dL_law_396 : decode cL_law 396 = .ok (.iload_n 3, 1) := by decide +kernel
theorem dL_law_397 : decode cL_law 397 = .ok (.iconst 1, 1) := by decide +kernel
theorem dL_law_398 : decode cL_law 398 = .ok (.iadd, 1) := by decide +kernel
theorem dL_law_399 : decode cL_law 399 = .ok (.iaload, 1) := by decide +kernel
theorem dL_law_400 : decode cL_law 400 = .ok (.aload_n 0, 1) := by decide +kernel
theorem dL_law_401 : decode cL_law 401 = .ok (.iload_n 3, 1) := by decide +kernel
theorem dL_law_402 : decode cL_law 402 = .ok (.iconst 2, 1) := by decide +kernel
theorem dL_law_403 : decode cL_law 403 = .ok (.iadd, 1) := by decide +kernel
theorem dL_law_404 : decode cL_law 404 = .ok (.iaload, 1) := by decide +kernel
theorem dL_law_405 : decode cL_law 405 = .ok (.invokevirtual 32, 3) := by decide +kernel
theorem dL_law_408 : decode cL_law 408 = .ok (.aload_n 2, 1) := by decide +kernel
theorem dL_law_409 : decode cL_law 409 = .ok (.aload_n 0, 1) := by decide +kernel
theorem dL_law_410 : decode cL_law 410 = .ok (.iload_n 3, 1) := by decide +kernel
theorem dL_law_411 : decode cL_law 411 = .ok (.iconst 1, 1) := by decide +kernel
theorem dL_law_412 : decode cL_law 412 = .ok (.iadd, 1) := by decide +kernel
theorem dL_law_413 : decode cL_law 413 = .ok (.iaload, 1) := by decide +kernel
theorem dL_law_414 : decode cL_law 414 = .ok (.aload_n 0, 1) := by decide +kernel
theorem dL_law_415 : decode cL_law 415 = .ok (.iload_n 3, 1) := by decide +kernel
theorem dL_law_416 : decode cL_law 416 = .ok (.iconst 2, 1) := by decide +kernel
theorem dL_law_417 : decode cL_law 417 = .ok (.iadd, 1) := by decide +kernel
theorem dL_law_418 : decode cL_law 418 = .ok (.iaload, 1) := by decide +kernel
theorem dL_law_419 : decode cL_law 419 = .ok (.invokevirtual 36, 3) := by decide +kernel
theorem dL_law_422 : decode cL_law 422 = .ok (.if_icmp .eq 1301, 3) := by decide +kernel
theorem dL_law_425 : decode cL_law 425 = .ok (.iconst 0, 1) := by decide +kernel
theorem dL_law_426 : decode cL_law 426 = .ok (.ireturn, 1) := by decide +kernel
theorem dL_law_427 : decode cL_law 427 = .ok (.aload_n 1, 1) := by decide +kernel
theorem dL_law_428 : decode cL_law 428 = .ok (.aload_n 0, 1) := by decide +kernel
theorem dL_law_429 : decode cL_law 429 = .ok (.iload_n 3, 1) := by decide +kernel
theorem dL_law_430 : decode cL_law 430 = .ok (.iconst 1, 1) := by decide +kernel
theorem dL_law_431 : decode cL_law 431 = .ok (.iadd, 1) := by decide +kernel
theorem dL_law_432 : decode cL_law 432 = .ok (.iaload, 1) := by decide +kernel
theorem dL_law_433 : decode cL_law 433 = .ok (.aload_n 0, 1) := by decide +kernel
theorem dL_law_434 : decode cL_law 434 = .ok (.iload_n 3, 1) := by decide +kernel
theorem dL_law_435 : decode cL_law 435 = .ok (.iconst 2, 1) := by decide +kernel
theorem dL_law_436 : decode cL_law 436 = .ok (.iadd, 1) := by decide +kernel
theorem dL_law_437 : decode cL_law 437 = .ok (.iaload, 1) := by decide +kernel
theorem dL_law_438 : decode cL_law 438 = .ok (.invokevirtual 37, 3) := by decide +kernel
theorem dL_law_441 : decode cL_law 441 = .ok (.aload_n 2, 1) := by decide +kernel
theorem dL_law_442 : decode cL_law 442 = .ok (.aload_n 0, 1) := by decide +kernel
theorem dL_law_443 : decode cL_law 443 = .ok (.iload_n 3, 1) := by decide +kernel
theorem dL_law_444 : decode cL_law 444 = .ok (.iconst 1, 1) := by decide +kernel
theorem dL_law_445 : decode cL_law 445 = .ok (.iadd, 1) := by decide +kernel
theorem dL_law_446 : decode cL_law 446 = .ok (.iaload, 1) := by decide +kernel
theorem dL_law_447 : decode cL_law 447 = .ok (.aload_n 0, 1) := by decide +kernel
theorem dL_law_448 : decode cL_law 448 = .ok (.iload_n 3, 1) := by decide +kernel
theorem dL_law_449 : decode cL_law 449 = .ok (.iconst 2, 1) := by decide +kernel
theorem dL_law_450 : decode cL_law 450 = .ok (.iadd, 1) := by decide +kernel
theorem dL_law_451 : decode cL_law 451 = .ok (.iaload, 1) := by decide +kernel
theorem dL_law_452 : decode cL_law 452 = .ok (.invokevirtual 41, 3) := by decide +kernel
theorem dL_law_455 : decode cL_law 455 = .ok (.if_icmp .eq 1268, 3) := by decide +kernel
theorem dL_law_458 : decode cL_law 458 = .ok (.iconst 0, 1) := by decide +kernel
theorem dL_law_459 : decode cL_law 459 = .ok (.ireturn, 1) := by decide +kernel
theorem dL_law_460 : decode cL_law 460 = .ok (.aload_n 1, 1) := by decide +kernel
theorem dL_law_461 : decode cL_law 461 = .ok (.aload_n 0, 1) := by decide +kernel
theorem dL_law_462 : decode cL_law 462 = .ok (.iload_n 3, 1) := by decide +kernel
theorem dL_law_463 : decode cL_law 463 = .ok (.iconst 1, 1) := by decide +kernel
theorem dL_law_464 : decode cL_law 464 = .ok (.iadd, 1) := by decide +kernel
theorem dL_law_465 : decode cL_law 465 = .ok (.iaload, 1) := by decide +kernel
theorem dL_law_466 : decode cL_law 466 = .ok (.aload_n 0, 1) := by decide +kernel
theorem dL_law_467 : decode cL_law 467 = .ok (.iload_n 3, 1) := by decide +kernel
theorem dL_law_468 : decode cL_law 468 = .ok (.iconst 2, 1) := by decide +kernel
theorem dL_law_469 : decode cL_law 469 = .ok (.iadd, 1) := by decide +kernel
theorem dL_law_470 : decode cL_law 470 = .ok (.iaload, 1) := by decide +kernel
theorem dL_law_471 : decode cL_law 471 = .ok (.aload_n 0, 1) := by decide +kernel
theorem dL_law_472 : decode cL_law 472 = .ok (.iload_n 3, 1) := by decide +kernel
theorem dL_law_473 : decode cL_law 473 = .ok (.iconst 3, 1) := by decide +kernel
theorem dL_law_474 : decode cL_law 474 = .ok (.iadd, 1) := by decide +kernel
theorem dL_law_475 : decode cL_law 475 = .ok (.iaload, 1) := by decide +kernel
theorem dL_law_476 : decode cL_law 476 = .ok (.invokevirtual 42, 3) := by decide +kernel
theorem dL_law_479 : decode cL_law 479 = .ok (.aload_n 2, 1) := by decide +kernel
theorem dL_law_480 : decode cL_law 480 = .ok (.aload_n 0, 1) := by decide +kernel
theorem dL_law_481 : decode cL_law 481 = .ok (.iload_n 3, 1) := by decide +kernel
theorem dL_law_482 : decode cL_law 482 = .ok (.iconst 1, 1) := by decide +kernel
theorem dL_law_483 : decode cL_law 483 = .ok (.iadd, 1) := by decide +kernel
theorem dL_law_484 : decode cL_law 484 = .ok (.iaload, 1) := by decide +kernel
theorem dL_law_485 : decode cL_law 485 = .ok (.aload_n 0, 1) := by decide +kernel
theorem dL_law_486 : decode cL_law 486 = .ok (.iload_n 3, 1) := by decide +kernel
theorem dL_law_487 : decode cL_law 487 = .ok (.iconst 2, 1) := by decide +kernel
theorem dL_law_488 : decode cL_law 488 = .ok (.iadd, 1) := by decide +kernel
theorem dL_law_489 : decode cL_law 489 = .ok (.iaload, 1) := by decide +kernel
theorem dL_law_490 : decode cL_law 490 = .ok (.aload_n 0, 1) := by decide +kernel
theorem dL_law_491 : decode cL_law 491 = .ok (.iload_n 3, 1) := by decide +kernel
theorem dL_law_492 : decode cL_law 492 = .ok (.iconst 3, 1) := by decide +kernel
theorem dL_law_493 : decode cL_law 493 = .ok (.iadd, 1) := by decide +kernel
theorem dL_law_494 : decode cL_law 494 = .ok (.iaload, 1) := by decide +kernel
theorem dL_law_495 : decode cL_law 495 = .ok (.invokevirtual 46, 3) := by decide +kernel
theorem dL_law_498 : decode cL_law 498 = .ok (.if_icmp .eq 1225, 3) := by decide +kernel
theorem dL_law_501 : decode cL_law 501 = .ok (.iconst 0, 1) := by decide +kernel
theorem dL_law_502 : decode cL_law 502 = .ok (.ireturn, 1) := by decide +kernel
theorem dL_law_503 : decode cL_law 503 = .ok (.aload_n 1, 1) := by decide +kernel
theorem dL_law_504 : decode cL_law 504 = .ok (.aload_n 0, 1) := by decide +kernel
theorem dL_law_505 : decode cL_law 505 = .ok (.iload_n 3, 1) := by decide +kernel
theorem dL_law_506 : decode cL_law 506 = .ok (.iconst 1, 1) := by decide +kernel
theorem dL_law_507 : decode cL_law 507 = .ok (.iadd, 1) := by decide +kernel
theorem dL_law_508 : decode cL_law 508 = .ok (.iaload, 1) := by decide +kernel
theorem dL_law_509 : decode cL_law 509 = .ok (.aload_n 0, 1) := by decide +kernel
theorem dL_law_510 : decode cL_law 510 = .ok (.iload_n 3, 1) := by decide +kernel
theorem dL_law_511 : decode cL_law 511 = .ok (.iconst 2, 1) := by decide +kernel
theorem dL_law_512 : decode cL_law 512 = .ok (.iadd, 1) := by decide +kernel
theorem dL_law_513 : decode cL_law 513 = .ok (.iaload, 1) := by decide +kernel
theorem dL_law_514 : decode cL_law 514 = .ok (.aload_n 0, 1) := by decide +kernel
theorem dL_law_515 : decode cL_law 515 = .ok (.iload_n 3, 1) := by decide +kernel
theorem dL_law_516 : decode cL_law 516 = .ok (.iconst 3, 1) := by decide +kernel
theorem dL_law_517 : decode cL_law 517 = .ok (.iadd, 1) := by decide +kernel
theorem dL_law_518 : decode cL_law 518 = .ok (.iaload, 1) := by decide +kernel
theorem dL_law_519 : decode cL_law 519 = .ok (.aload_n 0, 1) := by decide +kernel
theorem dL_law_520 : decode cL_law 520 = .ok (.iload_n 3, 1) := by decide +kernel
theorem dL_law_521 : decode cL_law 521 = .ok (.iconst 4, 1) := by decide +kernel
theorem dL_law_522 : decode cL_law 522 = .ok (.iadd, 1) := by decide +kernel
theorem dL_law_523 : decode cL_law 523 = .ok (.iaload, 1) := by decide +kernel
theorem dL_law_524 : decode cL_law 524 = .ok (.aload_n 0, 1) := by decide +kernel
theorem dL_law_525 : decode cL_law 525 = .ok (.iload_n 3, 1) := by decide +kernel
theorem dL_law_526 : decode cL_law 526 = .ok (.iconst 5, 1) := by decide +kernel
theorem dL_law_527 : decode cL_law 527 = .ok (.iadd, 1) := by decide +kernel
theorem dL_law_528 : decode cL_law 528 = .ok (.iaload, 1) := by decide +kernel
theorem dL_law_529 : decode cL_law 529 = .ok (.invokevirtual 47, 3) := by decide +kernel
theorem dL_law_532 : decode cL_law 532 = .ok (.aload_n 2, 1) := by decide +kernel
theorem dL_law_533 : decode cL_law 533 = .ok (.aload_n 0, 1) := by decide +kernel
theorem dL_law_534 : decode cL_law 534 = .ok (.iload_n 3, 1) := by decide +kernel
theorem dL_law_535 : decode cL_law 535 = .ok (.iconst 1, 1) := by decide +kernel
theorem dL_law_536 : decode cL_law 536 = .ok (.iadd, 1) := by decide +kernel
theorem dL_law_537 : decode cL_law 537 = .ok (.iaload, 1) := by decide +kernel
theorem dL_law_538 : decode cL_law 538 = .ok (.aload_n 0, 1) := by decide +kernel
theorem dL_law_539 : decode cL_law 539 = .ok (.iload_n 3, 1) := by decide +kernel
theorem dL_law_540 : decode cL_law 540 = .ok (.iconst 2, 1) := by decide +kernel
theorem dL_law_541 : decode cL_law 541 = .ok (.iadd, 1) := by decide +kernel
theorem dL_law_542 : decode cL_law 542 = .ok (.iaload, 1) := by decide +kernel
theorem dL_law_543 : decode cL_law 543 = .ok (.aload_n 0, 1) := by decide +kernel
theorem dL_law_544 : decode cL_law 544 = .ok (.iload_n 3, 1) := by decide +kernel
theorem dL_law_545 : decode cL_law 545 = .ok (.iconst 3, 1) := by decide +kernel
theorem dL_law_546 : decode cL_law 546 = .ok (.iadd, 1) := by decide +kernel
theorem dL_law_547 : decode cL_law 547 = .ok (.iaload, 1) := by decide +kernel
theorem dL_law_548 : decode cL_law 548 = .ok (.aload_n 0, 1) := by decide +kernel
theorem dL_law_549 : decode cL_law 549 = .ok (.iload_n 3, 1) := by decide +kernel
theorem dL_law_550 : decode cL_law 550 = .ok (.iconst 4, 1) := by decide +kernel
theorem dL_law_551 : decode cL_law 551 = .ok (.iadd, 1) := by decide +kernel
theorem dL_law_552 : decode cL_law 552 = .ok (.iaload, 1) := by decide +kernel
theorem dL_law_553 : decode cL_law 553 = .ok (.aload_n 0, 1) := by decide +kernel
theorem dL_law_554 : decode cL_law 554 = .ok (.iload_n 3, 1) := by decide +kernel
theorem dL_law_555 : decode cL_law 555 = .ok (.iconst 5, 1) := by decide +kernel
theorem dL_law_556 : decode cL_law 556 = .ok (.iadd, 1) := by decide +kernel
theorem dL_law_557 : decode cL_law 557 = .ok (.iaload, 1) := by decide +kernel
theorem dL_law_558 : decode cL_law 558 = .ok (.invokevirtual 51, 3) := by decide +kernel
theorem dL_law_561 : decode cL_law 561 = .ok (.if_icmp .eq 1162, 3) := by decide +kernel
theorem dL_law_564 : decode cL_law 564 = .ok (.iconst 0, 1) := by decide +kernel
theorem dL_law_565 : decode cL_law 565 = .ok (.ireturn, 1) := by decide +kernel
theorem dL_law_566 : decode cL_law 566 = .ok (.aload_n 1, 1) := by decide +kernel
theorem dL_law_567 : decode cL_law 567 = .ok (.aload_n 0, 1) := by decide +kernel
theorem dL_law_568 : decode cL_law 568 = .ok (.iload_n 3, 1) := by decide +kernel
theorem dL_law_569 : decode cL_law 569 = .ok (.iconst 1, 1) := by decide +kernel
theorem dL_law_570 : decode cL_law 570 = .ok (.iadd, 1) := by decide +kernel
theorem dL_law_571 : decode cL_law 571 = .ok (.iaload, 1) := by decide +kernel
theorem dL_law_572 : decode cL_law 572 = .ok (.aload_n 0, 1) := by decide +kernel
theorem dL_law_573 : decode cL_law 573 = .ok (.iload_n 3, 1) := by decide +kernel
theorem dL_law_574 : decode cL_law 574 = .ok (.iconst 2, 1) := by decide +kernel
theorem dL_law_575 : decode cL_law 575 = .ok (.iadd, 1) := by decide +kernel
theorem dL_law_576 : decode cL_law 576 = .ok (.iaload, 1) := by decide +kernel
theorem dL_law_577 : decode cL_law 577 = .ok (.invokevirtual 52, 3) := by decide +kernel
theorem dL_law_580 : decode cL_law 580 = .ok (.aload_n 2, 1) := by decide +kernel
theorem dL_law_581 : decode cL_law 581 = .ok (.aload_n 0, 1) := by decide +kernel
theorem dL_law_582 : decode cL_law 582 = .ok (.iload_n 3, 1) := by decide +kernel
theorem dL_law_583 : decode cL_law 583 = .ok (.iconst 1, 1) := by decide +kernel
theorem dL_law_584 : decode cL_law 584 = .ok (.iadd, 1) := by decide +kernel
theorem dL_law_585 : decode cL_law 585 = .ok (.iaload, 1) := by decide +kernel
theorem dL_law_586 : decode cL_law 586 = .ok (.aload_n 0, 1) := by decide +kernel
theorem dL_law_587 : decode cL_law 587 = .ok (.iload_n 3, 1) := by decide +kernel
theorem dL_law_588 : decode cL_law 588 = .ok (.iconst 2, 1) := by decide +kernel
theorem dL_law_589 : decode cL_law 589 = .ok (.iadd, 1) := by decide +kernel
theorem dL_law_590 : decode cL_law 590 = .ok (.iaload, 1) := by decide +kernel
theorem dL_law_591 : decode cL_law 591 = .ok (.invokevirtual 55, 3) := by decide +kernel
theorem dL_law_594 : decode cL_law 594 = .ok (.if_icmp .eq 1129, 3) := by decide +kernel
theorem dL_law_597 : decode cL_law 597 = .ok (.iconst 0, 1) := by decide +kernel
theorem dL_law_598 : decode cL_law 598 = .ok (.ireturn, 1) := by decide +kernel
theorem dL_law_599 : decode cL_law 599 = .ok (.aload_n 1, 1) := by decide +kernel
theorem dL_law_600 : decode cL_law 600 = .ok (.aload_n 0, 1) := by decide +kernel
theorem dL_law_601 : decode cL_law 601 = .ok (.iload_n 3, 1) := by decide +kernel
theorem dL_law_602 : decode cL_law 602 = .ok (.iconst 1, 1) := by decide +kernel
theorem dL_law_603 : decode cL_law 603 = .ok (.iadd, 1) := by decide +kernel
theorem dL_law_604 : decode cL_law 604 = .ok (.iaload, 1) := by decide +kernel
theorem dL_law_605 : decode cL_law 605 = .ok (.invokevirtual 56, 3) := by decide +kernel
theorem dL_law_608 : decode cL_law 608 = .ok (.aload_n 2, 1) := by decide +kernel
theorem dL_law_609 : decode cL_law 609 = .ok (.aload_n 0, 1) := by decide +kernel
theorem dL_law_610 : decode cL_law 610 = .ok (.iload_n 3, 1) := by decide +kernel
theorem dL_law_611 : decode cL_law 611 = .ok (.iconst 1, 1) := by decide +kernel
theorem dL_law_612 : decode cL_law 612 = .ok (.iadd, 1) := by decide +kernel
theorem dL_law_613 : decode cL_law 613 = .ok (.iaload, 1) := by decide +kernel
theorem dL_law_614 : decode cL_law 614 = .ok (.invokevirtual 60, 3) := by decide +kernel
theorem dL_law_617 : decode cL_law 617 = .ok (.if_icmp .eq 1106, 3) := by decide +kernel
theorem dL_law_620 : decode cL_law 620 = .ok (.iconst 0, 1) := by decide +kernel
theorem dL_law_621 : decode cL_law 621 = .ok (.ireturn, 1) := by decide +kernel
theorem dL_law_622 : decode cL_law 622 = .ok (.aload_n 1, 1) := by decide +kernel
theorem dL_law_623 : decode cL_law 623 = .ok (.aload_n 0, 1) := by decide +kernel
theorem dL_law_624 : decode cL_law 624 = .ok (.iload_n 3, 1) := by decide +kernel
theorem dL_law_625 : decode cL_law 625 = .ok (.iconst 1, 1) := by decide +kernel
theorem dL_law_626 : decode cL_law 626 = .ok (.iadd, 1) := by decide +kernel
theorem dL_law_627 : decode cL_law 627 = .ok (.iaload, 1) := by decide +kernel
theorem dL_law_628 : decode cL_law 628 = .ok (.invokevirtual 61, 3) := by decide +kernel
theorem dL_law_631 : decode cL_law 631 = .ok (.aload_n 2, 1) := by decide +kernel
theorem dL_law_632 : decode cL_law 632 = .ok (.aload_n 0, 1) := by decide +kernel
theorem dL_law_633 : decode cL_law 633 = .ok (.iload_n 3, 1) := by decide +kernel
theorem dL_law_634 : decode cL_law 634 = .ok (.iconst 1, 1) := by decide +kernel
theorem dL_law_635 : decode cL_law 635 = .ok (.iadd, 1) := by decide +kernel
theorem dL_law_636 : decode cL_law 636 = .ok (.iaload, 1) := by decide +kernel
theorem dL_law_637 : decode cL_law 637 = .ok (.invokevirtual 64, 3) := by decide +kernel
theorem dL_law_640 : decode cL_law 640 = .ok (.if_icmp .eq 1083, 3) := by decide +kernel
theorem dL_law_643 : decode cL_law 643 = .ok (.iconst 0, 1) := by decide +kernel
theorem dL_law_644 : decode cL_law 644 = .ok (.ireturn, 1) := by decide +kernel
theorem dL_law_645 : decode cL_law 645 = .ok (.aload_n 1, 1) := by decide +kernel
theorem dL_law_646 : decode cL_law 646 = .ok (.aload_n 0, 1) := by decide +kernel
theorem dL_law_647 : decode cL_law 647 = .ok (.iload_n 3, 1) := by decide +kernel
theorem dL_law_648 : decode cL_law 648 = .ok (.iconst 1, 1) := by decide +kernel
theorem dL_law_649 : decode cL_law 649 = .ok (.iadd, 1) := by decide +kernel
theorem dL_law_650 : decode cL_law 650 = .ok (.iaload, 1) := by decide +kernel
theorem dL_law_651 : decode cL_law 651 = .ok (.aload_n 0, 1) := by decide +kernel
theorem dL_law_652 : decode cL_law 652 = .ok (.iload_n 3, 1) := by decide +kernel
theorem dL_law_653 : decode cL_law 653 = .ok (.iconst 2, 1) := by decide +kernel
theorem dL_law_654 : decode cL_law 654 = .ok (.iadd, 1) := by decide +kernel
theorem dL_law_655 : decode cL_law 655 = .ok (.iaload, 1) := by decide +kernel
theorem dL_law_656 : decode cL_law 656 = .ok (.invokevirtual 65, 3) := by decide +kernel
theorem dL_law_659 : decode cL_law 659 = .ok (.aload_n 2, 1) := by decide +kernel
theorem dL_law_660 : decode cL_law 660 = .ok (.aload_n 0, 1) := by decide +kernel
theorem dL_law_661 : decode cL_law 661 = .ok (.iload_n 3, 1) := by decide +kernel
theorem dL_law_662 : decode cL_law 662 = .ok (.iconst 1, 1) := by decide +kernel
theorem dL_law_663 : decode cL_law 663 = .ok (.iadd, 1) := by decide +kernel
theorem dL_law_664 : decode cL_law 664 = .ok (.iaload, 1) := by decide +kernel
theorem dL_law_665 : decode cL_law 665 = .ok (.aload_n 0, 1) := by decide +kernel
theorem dL_law_666 : decode cL_law 666 = .ok (.iload_n 3, 1) := by decide +kernel
theorem dL_law_667 : decode cL_law 667 = .ok (.iconst 2, 1) := by decide +kernel
theorem dL_law_668 : decode cL_law 668 = .ok (.iadd, 1) := by decide +kernel
theorem dL_law_669 : decode cL_law 669 = .ok (.iaload, 1) := by decide +kernel
theorem dL_law_670 : decode cL_law 670 = .ok (.invokevirtual 68, 3) := by decide +kernel
theorem dL_law_673 : decode cL_law 673 = .ok (.if_icmp .eq 1050, 3) := by decide +kernel
theorem dL_law_676 : decode cL_law 676 = .ok (.iconst 0, 1) := by decide +kernel
theorem dL_law_677 : decode cL_law 677 = .ok (.ireturn, 1) := by decide +kernel
theorem dL_law_678 : decode cL_law 678 = .ok (.aload_n 1, 1) := by decide +kernel
theorem dL_law_679 : decode cL_law 679 = .ok (.aload_n 0, 1) := by decide +kernel
theorem dL_law_680 : decode cL_law 680 = .ok (.iload_n 3, 1) := by decide +kernel
theorem dL_law_681 : decode cL_law 681 = .ok (.iconst 1, 1) := by decide +kernel
theorem dL_law_682 : decode cL_law 682 = .ok (.iadd, 1) := by decide +kernel
theorem dL_law_683 : decode cL_law 683 = .ok (.iaload, 1) := by decide +kernel
theorem dL_law_684 : decode cL_law 684 = .ok (.invokevirtual 69, 3) := by decide +kernel
theorem dL_law_687 : decode cL_law 687 = .ok (.aload_n 2, 1) := by decide +kernel
theorem dL_law_688 : decode cL_law 688 = .ok (.aload_n 0, 1) := by decide +kernel
theorem dL_law_689 : decode cL_law 689 = .ok (.iload_n 3, 1) := by decide +kernel
theorem dL_law_690 : decode cL_law 690 = .ok (.iconst 1, 1) := by decide +kernel
theorem dL_law_691 : decode cL_law 691 = .ok (.iadd, 1) := by decide +kernel
theorem dL_law_692 : decode cL_law 692 = .ok (.iaload, 1) := by decide +kernel
theorem dL_law_693 : decode cL_law 693 = .ok (.invokevirtual 72, 3) := by decide +kernel
theorem dL_law_696 : decode cL_law 696 = .ok (.if_icmp .eq 1027, 3) := by decide +kernel
theorem dL_law_699 : decode cL_law 699 = .ok (.iconst 0, 1) := by decide +kernel
theorem dL_law_700 : decode cL_law 700 = .ok (.ireturn, 1) := by decide +kernel
theorem dL_law_701 : decode cL_law 701 = .ok (.aload_n 1, 1) := by decide +kernel
theorem dL_law_702 : decode cL_law 702 = .ok (.aload_n 0, 1) := by decide +kernel
theorem dL_law_703 : decode cL_law 703 = .ok (.iload_n 3, 1) := by decide +kernel
theorem dL_law_704 : decode cL_law 704 = .ok (.iconst 1, 1) := by decide +kernel
theorem dL_law_705 : decode cL_law 705 = .ok (.iadd, 1) := by decide +kernel
theorem dL_law_706 : decode cL_law 706 = .ok (.iaload, 1) := by decide +kernel
theorem dL_law_707 : decode cL_law 707 = .ok (.aload_n 0, 1) := by decide +kernel
theorem dL_law_708 : decode cL_law 708 = .ok (.iload_n 3, 1) := by decide +kernel
theorem dL_law_709 : decode cL_law 709 = .ok (.iconst 2, 1) := by decide +kernel
theorem dL_law_710 : decode cL_law 710 = .ok (.iadd, 1) := by decide +kernel
theorem dL_law_711 : decode cL_law 711 = .ok (.iaload, 1) := by decide +kernel
theorem dL_law_712 : decode cL_law 712 = .ok (.invokevirtual 73, 3) := by decide +kernel
theorem dL_law_715 : decode cL_law 715 = .ok (.aload_n 2, 1) := by decide +kernel
theorem dL_law_716 : decode cL_law 716 = .ok (.aload_n 0, 1) := by decide +kernel
theorem dL_law_717 : decode cL_law 717 = .ok (.iload_n 3, 1) := by decide +kernel
theorem dL_law_718 : decode cL_law 718 = .ok (.iconst 1, 1) := by decide +kernel
theorem dL_law_719 : decode cL_law 719 = .ok (.iadd, 1) := by decide +kernel
theorem dL_law_720 : decode cL_law 720 = .ok (.iaload, 1) := by decide +kernel
theorem dL_law_721 : decode cL_law 721 = .ok (.aload_n 0, 1) := by decide +kernel
theorem dL_law_722 : decode cL_law 722 = .ok (.iload_n 3, 1) := by decide +kernel
theorem dL_law_723 : decode cL_law 723 = .ok (.iconst 2, 1) := by decide +kernel
theorem dL_law_724 : decode cL_law 724 = .ok (.iadd, 1) := by decide +kernel
theorem dL_law_725 : decode cL_law 725 = .ok (.iaload, 1) := by decide +kernel
theorem dL_law_726 : decode cL_law 726 = .ok (.invokevirtual 76, 3) := by decide +kernel
theorem dL_law_729 : decode cL_law 729 = .ok (.if_icmp .eq 994, 3) := by decide +kernel
theorem dL_law_732 : decode cL_law 732 = .ok (.iconst 0, 1) := by decide +kernel
theorem dL_law_733 : decode cL_law 733 = .ok (.ireturn, 1) := by decide +kernel
theorem dL_law_734 : decode cL_law 734 = .ok (.aload_n 1, 1) := by decide +kernel
theorem dL_law_735 : decode cL_law 735 = .ok (.aload_n 0, 1) := by decide +kernel
theorem dL_law_736 : decode cL_law 736 = .ok (.iload_n 3, 1) := by decide +kernel
theorem dL_law_737 : decode cL_law 737 = .ok (.iconst 1, 1) := by decide +kernel
theorem dL_law_738 : decode cL_law 738 = .ok (.iadd, 1) := by decide +kernel
theorem dL_law_739 : decode cL_law 739 = .ok (.iaload, 1) := by decide +kernel
theorem dL_law_740 : decode cL_law 740 = .ok (.aload_n 0, 1) := by decide +kernel
theorem dL_law_741 : decode cL_law 741 = .ok (.iload_n 3, 1) := by decide +kernel
theorem dL_law_742 : decode cL_law 742 = .ok (.iconst 2, 1) := by decide +kernel
theorem dL_law_743 : decode cL_law 743 = .ok (.iadd, 1) := by decide +kernel
theorem dL_law_744 : decode cL_law 744 = .ok (.iaload, 1) := by decide +kernel
theorem dL_law_745 : decode cL_law 745 = .ok (.aload_n 0, 1) := by decide +kernel
theorem dL_law_746 : decode cL_law 746 = .ok (.iload_n 3, 1) := by decide +kernel
theorem dL_law_747 : decode cL_law 747 = .ok (.iconst 3, 1) := by decide +kernel
theorem dL_law_748 : decode cL_law 748 = .ok (.iadd, 1) := by decide +kernel
theorem dL_law_749 : decode cL_law 749 = .ok (.iaload, 1) := by decide +kernel
theorem dL_law_750 : decode cL_law 750 = .ok (.invokevirtual 77, 3) := by decide +kernel
theorem dL_law_753 : decode cL_law 753 = .ok (.aload_n 2, 1) := by decide +kernel
theorem dL_law_754 : decode cL_law 754 = .ok (.aload_n 0, 1) := by decide +kernel
theorem dL_law_755 : decode cL_law 755 = .ok (.iload_n 3, 1) := by decide +kernel
theorem dL_law_756 : decode cL_law 756 = .ok (.iconst 1, 1) := by decide +kernel
theorem dL_law_757 : decode cL_law 757 = .ok (.iadd, 1) := by decide +kernel
theorem dL_law_758 : decode cL_law 758 = .ok (.iaload, 1) := by decide +kernel
theorem dL_law_759 : decode cL_law 759 = .ok (.aload_n 0, 1) := by decide +kernel
theorem dL_law_760 : decode cL_law 760 = .ok (.iload_n 3, 1) := by decide +kernel
theorem dL_law_761 : decode cL_law 761 = .ok (.iconst 2, 1) := by decide +kernel
theorem dL_law_762 : decode cL_law 762 = .ok (.iadd, 1) := by decide +kernel
theorem dL_law_763 : decode cL_law 763 = .ok (.iaload, 1) := by decide +kernel
theorem dL_law_764 : decode cL_law 764 = .ok (.aload_n 0, 1) := by decide +kernel
theorem dL_law_765 : decode cL_law 765 = .ok (.iload_n 3, 1) := by decide +kernel
theorem dL_law_766 : decode cL_law 766 = .ok (.iconst 3, 1) := by decide +kernel
theorem dL_law_767 : decode cL_law 767 = .ok (.iadd, 1) := by decide +kernel
theorem dL_law_768 : decode cL_law 768 = .ok (.iaload, 1) := by decide +kernel
theorem dL_law_769 : decode cL_law 769 = .ok (.invokevirtual 80, 3) := by decide +kernel
theorem dL_law_772 : decode cL_law 772 = .ok (.if_icmp .eq 951, 3) := by decide +kernel
theorem dL_law_775 : decode cL_law 775 = .ok (.iconst 0, 1) := by decide +kernel
theorem dL_law_776 : decode cL_law 776 = .ok (.ireturn, 1) := by decide +kernel
theorem dL_law_777 : decode cL_law 777 = .ok (.aload_n 1, 1) := by decide +kernel
theorem dL_law_778 : decode cL_law 778 = .ok (.aload_n 0, 1) := by decide +kernel
theorem dL_law_779 : decode cL_law 779 = .ok (.iload_n 3, 1) := by decide +kernel
theorem dL_law_780 : decode cL_law 780 = .ok (.iconst 1, 1) := by decide +kernel
theorem dL_law_781 : decode cL_law 781 = .ok (.iadd, 1) := by decide +kernel
theorem dL_law_782 : decode cL_law 782 = .ok (.iaload, 1) := by decide +kernel
theorem dL_law_783 : decode cL_law 783 = .ok (.aload_n 0, 1) := by decide +kernel
theorem dL_law_784 : decode cL_law 784 = .ok (.iload_n 3, 1) := by decide +kernel
theorem dL_law_785 : decode cL_law 785 = .ok (.iconst 2, 1) := by decide +kernel
theorem dL_law_786 : decode cL_law 786 = .ok (.iadd, 1) := by decide +kernel
theorem dL_law_787 : decode cL_law 787 = .ok (.iaload, 1) := by decide +kernel
theorem dL_law_788 : decode cL_law 788 = .ok (.invokevirtual 81, 3) := by decide +kernel
theorem dL_law_791 : decode cL_law 791 = .ok (.aload_n 2, 1) := by decide +kernel
theorem dL_law_792 : decode cL_law 792 = .ok (.aload_n 0, 1) := by decide +kernel
theorem dL_law_793 : decode cL_law 793 = .ok (.iload_n 3, 1) := by decide +kernel
theorem dL_law_794 : decode cL_law 794 = .ok (.iconst 1, 1) := by decide +kernel
theorem dL_law_795 : decode cL_law 795 = .ok (.iadd, 1) := by decide +kernel
theorem dL_law_796 : decode cL_law 796 = .ok (.iaload, 1) := by decide +kernel
theorem dL_law_797 : decode cL_law 797 = .ok (.aload_n 0, 1) := by decide +kernel
theorem dL_law_798 : decode cL_law 798 = .ok (.iload_n 3, 1) := by decide +kernel
theorem dL_law_799 : decode cL_law 799 = .ok (.iconst 2, 1) := by decide +kernel
theorem dL_law_800 : decode cL_law 800 = .ok (.iadd, 1) := by decide +kernel
theorem dL_law_801 : decode cL_law 801 = .ok (.iaload, 1) := by decide +kernel
theorem dL_law_802 : decode cL_law 802 = .ok (.invokevirtual 84, 3) := by decide +kernel
theorem dL_law_805 : decode cL_law 805 = .ok (.if_icmp .eq 918, 3) := by decide +kernel
theorem dL_law_808 : decode cL_law 808 = .ok (.iconst 0, 1) := by decide +kernel
theorem dL_law_809 : decode cL_law 809 = .ok (.ireturn, 1) := by decide +kernel
theorem dL_law_810 : decode cL_law 810 = .ok (.aload_n 1, 1) := by decide +kernel
theorem dL_law_811 : decode cL_law 811 = .ok (.aload_n 0, 1) := by decide +kernel
theorem dL_law_812 : decode cL_law 812 = .ok (.iload_n 3, 1) := by decide +kernel
theorem dL_law_813 : decode cL_law 813 = .ok (.iconst 1, 1) := by decide +kernel
theorem dL_law_814 : decode cL_law 814 = .ok (.iadd, 1) := by decide +kernel
theorem dL_law_815 : decode cL_law 815 = .ok (.iaload, 1) := by decide +kernel
theorem dL_law_816 : decode cL_law 816 = .ok (.invokevirtual 85, 3) := by decide +kernel
theorem dL_law_819 : decode cL_law 819 = .ok (.aload_n 2, 1) := by decide +kernel
theorem dL_law_820 : decode cL_law 820 = .ok (.aload_n 0, 1) := by decide +kernel
theorem dL_law_821 : decode cL_law 821 = .ok (.iload_n 3, 1) := by decide +kernel
theorem dL_law_822 : decode cL_law 822 = .ok (.iconst 1, 1) := by decide +kernel
theorem dL_law_823 : decode cL_law 823 = .ok (.iadd, 1) := by decide +kernel
theorem dL_law_824 : decode cL_law 824 = .ok (.iaload, 1) := by decide +kernel
theorem dL_law_825 : decode cL_law 825 = .ok (.invokevirtual 88, 3) := by decide +kernel
theorem dL_law_828 : decode cL_law 828 = .ok (.if_icmp .eq 895, 3) := by decide +kernel
theorem dL_law_831 : decode cL_law 831 = .ok (.iconst 0, 1) := by decide +kernel
theorem dL_law_832 : decode cL_law 832 = .ok (.ireturn, 1) := by decide +kernel
theorem dL_law_833 : decode cL_law 833 = .ok (.aload_n 1, 1) := by decide +kernel
theorem dL_law_834 : decode cL_law 834 = .ok (.aload_n 0, 1) := by decide +kernel
theorem dL_law_835 : decode cL_law 835 = .ok (.iload_n 3, 1) := by decide +kernel
theorem dL_law_836 : decode cL_law 836 = .ok (.iconst 1, 1) := by decide +kernel
theorem dL_law_837 : decode cL_law 837 = .ok (.iadd, 1) := by decide +kernel
theorem dL_law_838 : decode cL_law 838 = .ok (.iaload, 1) := by decide +kernel
theorem dL_law_839 : decode cL_law 839 = .ok (.invokevirtual 89, 3) := by decide +kernel
theorem dL_law_842 : decode cL_law 842 = .ok (.aload_n 2, 1) := by decide +kernel
theorem dL_law_843 : decode cL_law 843 = .ok (.aload_n 0, 1) := by decide +kernel
theorem dL_law_844 : decode cL_law 844 = .ok (.iload_n 3, 1) := by decide +kernel
theorem dL_law_845 : decode cL_law 845 = .ok (.iconst 1, 1) := by decide +kernel
theorem dL_law_846 : decode cL_law 846 = .ok (.iadd, 1) := by decide +kernel
theorem dL_law_847 : decode cL_law 847 = .ok (.iaload, 1) := by decide +kernel
theorem dL_law_848 : decode cL_law 848 = .ok (.invokevirtual 92, 3) := by decide +kernel
theorem dL_law_851 : decode cL_law 851 = .ok (.if_icmp .eq 872, 3) := by decide +kernel
theorem dL_law_854 : decode cL_law 854 = .ok (.iconst 0, 1) := by decide +kernel
theorem dL_law_855 : decode cL_law 855 = .ok (.ireturn, 1) := by decide +kernel
theorem dL_law_856 : decode cL_law 856 = .ok (.aload_n 1, 1) := by decide +kernel
theorem dL_law_857 : decode cL_law 857 = .ok (.aload_n 0, 1) := by decide +kernel
theorem dL_law_858 : decode cL_law 858 = .ok (.iload_n 3, 1) := by decide +kernel
theorem dL_law_859 : decode cL_law 859 = .ok (.iconst 1, 1) := by decide +kernel
theorem dL_law_860 : decode cL_law 860 = .ok (.iadd, 1) := by decide +kernel
theorem dL_law_861 : decode cL_law 861 = .ok (.iaload, 1) := by decide +kernel
theorem dL_law_862 : decode cL_law 862 = .ok (.aload_n 0, 1) := by decide +kernel
theorem dL_law_863 : decode cL_law 863 = .ok (.iload_n 3, 1) := by decide +kernel
theorem dL_law_864 : decode cL_law 864 = .ok (.iconst 2, 1) := by decide +kernel
theorem dL_law_865 : decode cL_law 865 = .ok (.iadd, 1) := by decide +kernel
theorem dL_law_866 : decode cL_law 866 = .ok (.iaload, 1) := by decide +kernel
theorem dL_law_867 : decode cL_law 867 = .ok (.aload_n 0, 1) := by decide +kernel
theorem dL_law_868 : decode cL_law 868 = .ok (.iload_n 3, 1) := by decide +kernel
theorem dL_law_869 : decode cL_law 869 = .ok (.iconst 3, 1) := by decide +kernel
theorem dL_law_870 : decode cL_law 870 = .ok (.iadd, 1) := by decide +kernel
theorem dL_law_871 : decode cL_law 871 = .ok (.iaload, 1) := by decide +kernel
theorem dL_law_872 : decode cL_law 872 = .ok (.aload_n 0, 1) := by decide +kernel
theorem dL_law_873 : decode cL_law 873 = .ok (.iload_n 3, 1) := by decide +kernel
theorem dL_law_874 : decode cL_law 874 = .ok (.iconst 4, 1) := by decide +kernel
theorem dL_law_875 : decode cL_law 875 = .ok (.iadd, 1) := by decide +kernel
theorem dL_law_876 : decode cL_law 876 = .ok (.iaload, 1) := by decide +kernel
theorem dL_law_877 : decode cL_law 877 = .ok (.aload_n 0, 1) := by decide +kernel
theorem dL_law_878 : decode cL_law 878 = .ok (.iload_n 3, 1) := by decide +kernel
theorem dL_law_879 : decode cL_law 879 = .ok (.iconst 5, 1) := by decide +kernel
theorem dL_law_880 : decode cL_law 880 = .ok (.iadd, 1) := by decide +kernel
theorem dL_law_881 : decode cL_law 881 = .ok (.iaload, 1) := by decide +kernel
theorem dL_law_882 : decode cL_law 882 = .ok (.invokevirtual 93, 3) := by decide +kernel
theorem dL_law_885 : decode cL_law 885 = .ok (.aload_n 2, 1) := by decide +kernel
theorem dL_law_886 : decode cL_law 886 = .ok (.aload_n 0, 1) := by decide +kernel
theorem dL_law_887 : decode cL_law 887 = .ok (.iload_n 3, 1) := by decide +kernel
theorem dL_law_888 : decode cL_law 888 = .ok (.iconst 1, 1) := by decide +kernel
theorem dL_law_889 : decode cL_law 889 = .ok (.iadd, 1) := by decide +kernel
theorem dL_law_890 : decode cL_law 890 = .ok (.iaload, 1) := by decide +kernel
theorem dL_law_891 : decode cL_law 891 = .ok (.aload_n 0, 1) := by decide +kernel
theorem dL_law_892 : decode cL_law 892 = .ok (.iload_n 3, 1) := by decide +kernel
theorem dL_law_893 : decode cL_law 893 = .ok (.iconst 2, 1) := by decide +kernel
theorem dL_law_894 : decode cL_law 894 = .ok (.iadd, 1) := by decide +kernel
theorem dL_law_895 : decode cL_law 895 = .ok (.iaload, 1) := by decide +kernel
theorem dL_law_896 : decode cL_law 896 = .ok (.aload_n 0, 1) := by decide +kernel
theorem dL_law_897 : decode cL_law 897 = .ok (.iload_n 3, 1) := by decide +kernel
theorem dL_law_898 : decode cL_law 898 = .ok (.iconst 3, 1) := by decide +kernel
theorem dL_law_899 : decode cL_law 899 = .ok (.iadd, 1) := by decide +kernel
theorem dL_law_900 : decode cL_law 900 = .ok (.iaload, 1) := by decide +kernel
theorem dL_law_901 : decode cL_law 901 = .ok (.aload_n 0, 1) := by decide +kernel
theorem dL_law_902 : decode cL_law 902 = .ok (.iload_n 3, 1) := by decide +kernel
theorem dL_law_903 : decode cL_law 903 = .ok (.iconst 4, 1) := by decide +kernel
theorem dL_law_904 : decode cL_law 904 = .ok (.iadd, 1) := by decide +kernel
theorem dL_law_905 : decode cL_law 905 = .ok (.iaload, 1) := by decide +kernel
theorem dL_law_906 : decode cL_law 906 = .ok (.aload_n 0, 1) := by decide +kernel
theorem dL_law_907 : decode cL_law 907 = .ok (.iload_n 3, 1) := by decide +kernel
theorem dL_law_908 : decode cL_law 908 = .ok (.iconst 5, 1) := by decide +kernel
theorem dL_law_909 : decode cL_law 909 = .ok (.iadd, 1) := by decide +kernel
theorem dL_law_910 : decode cL_law 910 = .ok (.iaload, 1) := by decide +kernel
theorem dL_law_911 : decode cL_law 911 = .ok (.invokevirtual 96, 3) := by decide +kernel
theorem dL_law_914 : decode cL_law 914 = .ok (.if_icmp .eq 809, 3) := by decide +kernel
theorem dL_law_917 : decode cL_law 917 = .ok (.iconst 0, 1) := by decide +kernel
theorem dL_law_918 : decode cL_law 918 = .ok (.ireturn, 1) := by decide +kernel
theorem dL_law_919 : decode cL_law 919 = .ok (.aload_n 1, 1) := by decide +kernel
theorem dL_law_920 : decode cL_law 920 = .ok (.aload_n 0, 1) := by decide +kernel
theorem dL_law_921 : decode cL_law 921 = .ok (.iload_n 3, 1) := by decide +kernel
theorem dL_law_922 : decode cL_law 922 = .ok (.iconst 1, 1) := by decide +kernel
theorem dL_law_923 : decode cL_law 923 = .ok (.iadd, 1) := by decide +kernel
theorem dL_law_924 : decode cL_law 924 = .ok (.iaload, 1) := by decide +kernel
theorem dL_law_925 : decode cL_law 925 = .ok (.invokevirtual 97, 3) := by decide +kernel
theorem dL_law_928 : decode cL_law 928 = .ok (.aload_n 2, 1) := by decide +kernel
theorem dL_law_929 : decode cL_law 929 = .ok (.aload_n 0, 1) := by decide +kernel
theorem dL_law_930 : decode cL_law 930 = .ok (.iload_n 3, 1) := by decide +kernel
theorem dL_law_931 : decode cL_law 931 = .ok (.iconst 1, 1) := by decide +kernel
theorem dL_law_932 : decode cL_law 932 = .ok (.iadd, 1) := by decide +kernel
theorem dL_law_933 : decode cL_law 933 = .ok (.iaload, 1) := by decide +kernel
theorem dL_law_934 : decode cL_law 934 = .ok (.invokevirtual 100, 3) := by decide +kernel
theorem dL_law_937 : decode cL_law 937 = .ok (.if_icmp .eq 786, 3) := by decide +kernel
theorem dL_law_940 : decode cL_law 940 = .ok (.iconst 0, 1) := by decide +kernel
theorem dL_law_941 : decode cL_law 941 = .ok (.ireturn, 1) := by decide +kernel
theorem dL_law_942 : decode cL_law 942 = .ok (.aload_n 1, 1) := by decide +kernel
theorem dL_law_943 : decode cL_law 943 = .ok (.invokevirtual 101, 3) := by decide +kernel
theorem dL_law_946 : decode cL_law 946 = .ok (.aload_n 2, 1) := by decide +kernel
theorem dL_law_947 : decode cL_law 947 = .ok (.invokevirtual 105, 3) := by decide +kernel
theorem dL_law_950 : decode cL_law 950 = .ok (.if_icmp .eq 773, 3) := by decide +kernel
theorem dL_law_953 : decode cL_law 953 = .ok (.iconst 0, 1) := by decide +kernel
theorem dL_law_954 : decode cL_law 954 = .ok (.ireturn, 1) := by decide +kernel
theorem dL_law_955 : decode cL_law 955 = .ok (.aload_n 1, 1) := by decide +kernel
theorem dL_law_956 : decode cL_law 956 = .ok (.invokevirtual 106, 3) := by decide +kernel
theorem dL_law_959 : decode cL_law 959 = .ok (.aload_n 2, 1) := by decide +kernel
theorem dL_law_960 : decode cL_law 960 = .ok (.invokevirtual 109, 3) := by decide +kernel
theorem dL_law_963 : decode cL_law 963 = .ok (.if_icmp .eq 760, 3) := by decide +kernel
theorem dL_law_966 : decode cL_law 966 = .ok (.iconst 0, 1) := by decide +kernel
theorem dL_law_967 : decode cL_law 967 = .ok (.ireturn, 1) := by decide +kernel
theorem dL_law_968 : decode cL_law 968 = .ok (.aload_n 1, 1) := by decide +kernel
theorem dL_law_969 : decode cL_law 969 = .ok (.aload_n 0, 1) := by decide +kernel
theorem dL_law_970 : decode cL_law 970 = .ok (.iload_n 3, 1) := by decide +kernel
theorem dL_law_971 : decode cL_law 971 = .ok (.iconst 1, 1) := by decide +kernel
theorem dL_law_972 : decode cL_law 972 = .ok (.iadd, 1) := by decide +kernel
theorem dL_law_973 : decode cL_law 973 = .ok (.iaload, 1) := by decide +kernel
theorem dL_law_974 : decode cL_law 974 = .ok (.invokevirtual 110, 3) := by decide +kernel
theorem dL_law_977 : decode cL_law 977 = .ok (.aload_n 2, 1) := by decide +kernel
theorem dL_law_978 : decode cL_law 978 = .ok (.aload_n 0, 1) := by decide +kernel
theorem dL_law_979 : decode cL_law 979 = .ok (.iload_n 3, 1) := by decide +kernel
theorem dL_law_980 : decode cL_law 980 = .ok (.iconst 1, 1) := by decide +kernel
theorem dL_law_981 : decode cL_law 981 = .ok (.iadd, 1) := by decide +kernel
theorem dL_law_982 : decode cL_law 982 = .ok (.iaload, 1) := by decide +kernel
theorem dL_law_983 : decode cL_law 983 = .ok (.invokevirtual 113, 3) := by decide +kernel
theorem dL_law_986 : decode cL_law 986 = .ok (.if_icmp .eq 737, 3) := by decide +kernel
theorem dL_law_989 : decode cL_law 989 = .ok (.iconst 0, 1) := by decide +kernel
theorem dL_law_990 : decode cL_law 990 = .ok (.ireturn, 1) := by decide +kernel
theorem dL_law_991 : decode cL_law 991 = .ok (.aload_n 1, 1) := by decide +kernel
theorem dL_law_992 : decode cL_law 992 = .ok (.aload_n 0, 1) := by decide +kernel
theorem dL_law_993 : decode cL_law 993 = .ok (.iload_n 3, 1) := by decide +kernel
theorem dL_law_994 : decode cL_law 994 = .ok (.iconst 1, 1) := by decide +kernel
theorem dL_law_995 : decode cL_law 995 = .ok (.iadd, 1) := by decide +kernel
theorem dL_law_996 : decode cL_law 996 = .ok (.iaload, 1) := by decide +kernel
theorem dL_law_997 : decode cL_law 997 = .ok (.aload_n 0, 1) := by decide +kernel
theorem dL_law_998 : decode cL_law 998 = .ok (.iload_n 3, 1) := by decide +kernel
theorem dL_law_999 : decode cL_law 999 = .ok (.iconst 2, 1) := by decide +kernel
theorem dL_law_1000 : decode cL_law 1000 = .ok (.iadd, 1) := by decide +kernel
theorem dL_law_1001 : decode cL_law 1001 = .ok (.iaload, 1) := by decide +kernel
theorem dL_law_1002 : decode cL_law 1002 = .ok (.invokevirtual 114, 3) := by decide +kernel
theorem dL_law_1005 : decode cL_law 1005 = .ok (.aload_n 2, 1) := by decide +kernel
theorem dL_law_1006 : decode cL_law 1006 = .ok (.aload_n 0, 1) := by decide +kernel
theorem dL_law_1007 : decode cL_law 1007 = .ok (.iload_n 3, 1) := by decide +kernel
theorem dL_law_1008 : decode cL_law 1008 = .ok (.iconst 1, 1) := by decide +kernel
theorem dL_law_1009 : decode cL_law 1009 = .ok (.iadd, 1) := by decide +kernel
theorem dL_law_1010 : decode cL_law 1010 = .ok (.iaload, 1) := by decide +kernel
theorem dL_law_1011 : decode cL_law 1011 = .ok (.aload_n 0, 1) := by decide +kernel
theorem dL_law_1012 : decode cL_law 1012 = .ok (.iload_n 3, 1) := by decide +kernel
theorem dL_law_1013 : decode cL_law 1013 = .ok (.iconst 2, 1) := by decide +kernel
theorem dL_law_1014 : decode cL_law 1014 = .ok (.iadd, 1) := by decide +kernel
theorem dL_law_1015 : decode cL_law 1015 = .ok (.iaload, 1) := by decide +kernel
theorem dL_law_1016 : decode cL_law 1016 = .ok (.invokevirtual 117, 3) := by decide +kernel
theorem dL_law_1019 : decode cL_law 1019 = .ok (.if_icmp .eq 704, 3) := by decide +kernel
theorem dL_law_1022 : decode cL_law 1022 = .ok (.iconst 0, 1) := by decide +kernel
theorem dL_law_1023 : decode cL_law 1023 = .ok (.ireturn, 1) := by decide +kernel
theorem dL_law_1024 : decode cL_law 1024 = .ok (.aload_n 1, 1) := by decide +kernel
theorem dL_law_1025 : decode cL_law 1025 = .ok (.aload_n 0, 1) := by decide +kernel
theorem dL_law_1026 : decode cL_law 1026 = .ok (.iload_n 3, 1) := by decide +kernel
theorem dL_law_1027 : decode cL_law 1027 = .ok (.iconst 1, 1) := by decide +kernel
theorem dL_law_1028 : decode cL_law 1028 = .ok (.iadd, 1) := by decide +kernel
theorem dL_law_1029 : decode cL_law 1029 = .ok (.iaload, 1) := by decide +kernel
theorem dL_law_1030 : decode cL_law 1030 = .ok (.aload_n 0, 1) := by decide +kernel
theorem dL_law_1031 : decode cL_law 1031 = .ok (.iload_n 3, 1) := by decide +kernel
theorem dL_law_1032 : decode cL_law 1032 = .ok (.iconst 2, 1) := by decide +kernel
theorem dL_law_1033 : decode cL_law 1033 = .ok (.iadd, 1) := by decide +kernel
theorem dL_law_1034 : decode cL_law 1034 = .ok (.iaload, 1) := by decide +kernel
theorem dL_law_1035 : decode cL_law 1035 = .ok (.invokevirtual 118, 3) := by decide +kernel
theorem dL_law_1038 : decode cL_law 1038 = .ok (.aload_n 2, 1) := by decide +kernel
theorem dL_law_1039 : decode cL_law 1039 = .ok (.aload_n 0, 1) := by decide +kernel
theorem dL_law_1040 : decode cL_law 1040 = .ok (.iload_n 3, 1) := by decide +kernel
theorem dL_law_1041 : decode cL_law 1041 = .ok (.iconst 1, 1) := by decide +kernel
theorem dL_law_1042 : decode cL_law 1042 = .ok (.iadd, 1) := by decide +kernel
theorem dL_law_1043 : decode cL_law 1043 = .ok (.iaload, 1) := by decide +kernel
theorem dL_law_1044 : decode cL_law 1044 = .ok (.aload_n 0, 1) := by decide +kernel
theorem dL_law_1045 : decode cL_law 1045 = .ok (.iload_n 3, 1) := by decide +kernel
theorem dL_law_1046 : decode cL_law 1046 = .ok (.iconst 2, 1) := by decide +kernel
theorem dL_law_1047 : decode cL_law 1047 = .ok (.iadd, 1) := by decide +kernel
theorem dL_law_1048 : decode cL_law 1048 = .ok (.iaload, 1) := by decide +kernel
theorem dL_law_1049 : decode cL_law 1049 = .ok (.invokevirtual 121, 3) := by decide +kernel
theorem dL_law_1052 : decode cL_law 1052 = .ok (.if_icmp .eq 671, 3) := by decide +kernel
theorem dL_law_1055 : decode cL_law 1055 = .ok (.iconst 0, 1) := by decide +kernel
theorem dL_law_1056 : decode cL_law 1056 = .ok (.ireturn, 1) := by decide +kernel
theorem dL_law_1057 : decode cL_law 1057 = .ok (.aload_n 1, 1) := by decide +kernel
theorem dL_law_1058 : decode cL_law 1058 = .ok (.aload_n 0, 1) := by decide +kernel
theorem dL_law_1059 : decode cL_law 1059 = .ok (.iload_n 3, 1) := by decide +kernel
theorem dL_law_1060 : decode cL_law 1060 = .ok (.iconst 1, 1) := by decide +kernel
theorem dL_law_1061 : decode cL_law 1061 = .ok (.iadd, 1) := by decide +kernel
theorem dL_law_1062 : decode cL_law 1062 = .ok (.iaload, 1) := by decide +kernel
theorem dL_law_1063 : decode cL_law 1063 = .ok (.invokevirtual 122, 3) := by decide +kernel
theorem dL_law_1066 : decode cL_law 1066 = .ok (.aload_n 2, 1) := by decide +kernel
theorem dL_law_1067 : decode cL_law 1067 = .ok (.aload_n 0, 1) := by decide +kernel
theorem dL_law_1068 : decode cL_law 1068 = .ok (.iload_n 3, 1) := by decide +kernel
theorem dL_law_1069 : decode cL_law 1069 = .ok (.iconst 1, 1) := by decide +kernel
theorem dL_law_1070 : decode cL_law 1070 = .ok (.iadd, 1) := by decide +kernel
theorem dL_law_1071 : decode cL_law 1071 = .ok (.iaload, 1) := by decide +kernel
theorem dL_law_1072 : decode cL_law 1072 = .ok (.invokevirtual 125, 3) := by decide +kernel
theorem dL_law_1075 : decode cL_law 1075 = .ok (.if_icmp .eq 648, 3) := by decide +kernel
theorem dL_law_1078 : decode cL_law 1078 = .ok (.iconst 0, 1) := by decide +kernel
theorem dL_law_1079 : decode cL_law 1079 = .ok (.ireturn, 1) := by decide +kernel
theorem dL_law_1080 : decode cL_law 1080 = .ok (.aload_n 1, 1) := by decide +kernel
theorem dL_law_1081 : decode cL_law 1081 = .ok (.aload_n 0, 1) := by decide +kernel
theorem dL_law_1082 : decode cL_law 1082 = .ok (.iload_n 3, 1) := by decide +kernel
theorem dL_law_1083 : decode cL_law 1083 = .ok (.iconst 1, 1) := by decide +kernel
theorem dL_law_1084 : decode cL_law 1084 = .ok (.iadd, 1) := by decide +kernel
theorem dL_law_1085 : decode cL_law 1085 = .ok (.iaload, 1) := by decide +kernel
theorem dL_law_1086 : decode cL_law 1086 = .ok (.aload_n 0, 1) := by decide +kernel
theorem dL_law_1087 : decode cL_law 1087 = .ok (.iload_n 3, 1) := by decide +kernel
theorem dL_law_1088 : decode cL_law 1088 = .ok (.iconst 2, 1) := by decide +kernel
theorem dL_law_1089 : decode cL_law 1089 = .ok (.iadd, 1) := by decide +kernel
theorem dL_law_1090 : decode cL_law 1090 = .ok (.iaload, 1) := by decide +kernel
theorem dL_law_1091 : decode cL_law 1091 = .ok (.invokevirtual 126, 3) := by decide +kernel
theorem dL_law_1094 : decode cL_law 1094 = .ok (.aload_n 2, 1) := by decide +kernel
theorem dL_law_1095 : decode cL_law 1095 = .ok (.aload_n 0, 1) := by decide +kernel
theorem dL_law_1096 : decode cL_law 1096 = .ok (.iload_n 3, 1) := by decide +kernel
theorem dL_law_1097 : decode cL_law 1097 = .ok (.iconst 1, 1) := by decide +kernel
theorem dL_law_1098 : decode cL_law 1098 = .ok (.iadd, 1) := by decide +kernel
theorem dL_law_1099 : decode cL_law 1099 = .ok (.iaload, 1) := by decide +kernel
theorem dL_law_1100 : decode cL_law 1100 = .ok (.aload_n 0, 1) := by decide +kernel
theorem dL_law_1101 : decode cL_law 1101 = .ok (.iload_n 3, 1) := by decide +kernel
theorem dL_law_1102 : decode cL_law 1102 = .ok (.iconst 2, 1) := by decide +kernel
theorem dL_law_1103 : decode cL_law 1103 = .ok (.iadd, 1) := by decide +kernel
theorem dL_law_1104 : decode cL_law 1104 = .ok (.iaload, 1) := by decide +kernel
theorem dL_law_1105 : decode cL_law 1105 = .ok (.invokevirtual 129, 3) := by decide +kernel
theorem dL_law_1108 : decode cL_law 1108 = .ok (.if_icmp .eq 615, 3) := by decide +kernel
theorem dL_law_1111 : decode cL_law 1111 = .ok (.iconst 0, 1) := by decide +kernel
theorem dL_law_1112 : decode cL_law 1112 = .ok (.ireturn, 1) := by decide +kernel
theorem dL_law_1113 : decode cL_law 1113 = .ok (.aload_n 1, 1) := by decide +kernel
theorem dL_law_1114 : decode cL_law 1114 = .ok (.invokevirtual 130, 3) := by decide +kernel
theorem dL_law_1117 : decode cL_law 1117 = .ok (.aload_n 2, 1) := by decide +kernel
theorem dL_law_1118 : decode cL_law 1118 = .ok (.invokevirtual 133, 3) := by decide +kernel
theorem dL_law_1121 : decode cL_law 1121 = .ok (.if_icmp .eq 602, 3) := by decide +kernel
theorem dL_law_1124 : decode cL_law 1124 = .ok (.iconst 0, 1) := by decide +kernel
theorem dL_law_1125 : decode cL_law 1125 = .ok (.ireturn, 1) := by decide +kernel
theorem dL_law_1126 : decode cL_law 1126 = .ok (.aload_n 1, 1) := by decide +kernel
theorem dL_law_1127 : decode cL_law 1127 = .ok (.aload_n 0, 1) := by decide +kernel
theorem dL_law_1128 : decode cL_law 1128 = .ok (.iload_n 3, 1) := by decide +kernel
theorem dL_law_1129 : decode cL_law 1129 = .ok (.iconst 1, 1) := by decide +kernel
theorem dL_law_1130 : decode cL_law 1130 = .ok (.iadd, 1) := by decide +kernel
theorem dL_law_1131 : decode cL_law 1131 = .ok (.iaload, 1) := by decide +kernel
theorem dL_law_1132 : decode cL_law 1132 = .ok (.aload_n 0, 1) := by decide +kernel
theorem dL_law_1133 : decode cL_law 1133 = .ok (.iload_n 3, 1) := by decide +kernel
theorem dL_law_1134 : decode cL_law 1134 = .ok (.iconst 2, 1) := by decide +kernel
theorem dL_law_1135 : decode cL_law 1135 = .ok (.iadd, 1) := by decide +kernel
theorem dL_law_1136 : decode cL_law 1136 = .ok (.iaload, 1) := by decide +kernel
theorem dL_law_1137 : decode cL_law 1137 = .ok (.invokevirtual 134, 3) := by decide +kernel
theorem dL_law_1140 : decode cL_law 1140 = .ok (.aload_n 2, 1) := by decide +kernel
theorem dL_law_1141 : decode cL_law 1141 = .ok (.aload_n 0, 1) := by decide +kernel
theorem dL_law_1142 : decode cL_law 1142 = .ok (.iload_n 3, 1) := by decide +kernel
theorem dL_law_1143 : decode cL_law 1143 = .ok (.iconst 1, 1) := by decide +kernel
theorem dL_law_1144 : decode cL_law 1144 = .ok (.iadd, 1) := by decide +kernel
theorem dL_law_1145 : decode cL_law 1145 = .ok (.iaload, 1) := by decide +kernel
theorem dL_law_1146 : decode cL_law 1146 = .ok (.aload_n 0, 1) := by decide +kernel
theorem dL_law_1147 : decode cL_law 1147 = .ok (.iload_n 3, 1) := by decide +kernel
theorem dL_law_1148 : decode cL_law 1148 = .ok (.iconst 2, 1) := by decide +kernel
theorem dL_law_1149 : decode cL_law 1149 = .ok (.iadd, 1) := by decide +kernel
theorem dL_law_1150 : decode cL_law 1150 = .ok (.iaload, 1) := by decide +kernel
theorem dL_law_1151 : decode cL_law 1151 = .ok (.invokevirtual 137, 3) := by decide +kernel
theorem dL_law_1154 : decode cL_law 1154 = .ok (.if_icmp .eq 569, 3) := by decide +kernel
theorem dL_law_1157 : decode cL_law 1157 = .ok (.iconst 0, 1) := by decide +kernel
theorem dL_law_1158 : decode cL_law 1158 = .ok (.ireturn, 1) := by decide +kernel
theorem dL_law_1159 : decode cL_law 1159 = .ok (.aload_n 1, 1) := by decide +kernel
theorem dL_law_1160 : decode cL_law 1160 = .ok (.aload_n 0, 1) := by decide +kernel
theorem dL_law_1161 : decode cL_law 1161 = .ok (.iload_n 3, 1) := by decide +kernel
theorem dL_law_1162 : decode cL_law 1162 = .ok (.iconst 1, 1) := by decide +kernel
theorem dL_law_1163 : decode cL_law 1163 = .ok (.iadd, 1) := by decide +kernel
theorem dL_law_1164 : decode cL_law 1164 = .ok (.iaload, 1) := by decide +kernel
theorem dL_law_1165 : decode cL_law 1165 = .ok (.aload_n 0, 1) := by decide +kernel
theorem dL_law_1166 : decode cL_law 1166 = .ok (.iload_n 3, 1) := by decide +kernel
theorem dL_law_1167 : decode cL_law 1167 = .ok (.iconst 2, 1) := by decide +kernel
theorem dL_law_1168 : decode cL_law 1168 = .ok (.iadd, 1) := by decide +kernel
theorem dL_law_1169 : decode cL_law 1169 = .ok (.iaload, 1) := by decide +kernel
theorem dL_law_1170 : decode cL_law 1170 = .ok (.invokevirtual 138, 3) := by decide +kernel
theorem dL_law_1173 : decode cL_law 1173 = .ok (.aload_n 2, 1) := by decide +kernel
theorem dL_law_1174 : decode cL_law 1174 = .ok (.aload_n 0, 1) := by decide +kernel
theorem dL_law_1175 : decode cL_law 1175 = .ok (.iload_n 3, 1) := by decide +kernel
theorem dL_law_1176 : decode cL_law 1176 = .ok (.iconst 1, 1) := by decide +kernel
theorem dL_law_1177 : decode cL_law 1177 = .ok (.iadd, 1) := by decide +kernel
theorem dL_law_1178 : decode cL_law 1178 = .ok (.iaload, 1) := by decide +kernel
theorem dL_law_1179 : decode cL_law 1179 = .ok (.aload_n 0, 1) := by decide +kernel
theorem dL_law_1180 : decode cL_law 1180 = .ok (.iload_n 3, 1) := by decide +kernel
theorem dL_law_1181 : decode cL_law 1181 = .ok (.iconst 2, 1) := by decide +kernel
theorem dL_law_1182 : decode cL_law 1182 = .ok (.iadd, 1) := by decide +kernel
theorem dL_law_1183 : decode cL_law 1183 = .ok (.iaload, 1) := by decide +kernel
theorem dL_law_1184 : decode cL_law 1184 = .ok (.invokevirtual 141, 3) := by decide +kernel
theorem dL_law_1187 : decode cL_law 1187 = .ok (.if_icmp .eq 536, 3) := by decide +kernel
theorem dL_law_1190 : decode cL_law 1190 = .ok (.iconst 0, 1) := by decide +kernel
theorem dL_law_1191 : decode cL_law 1191 = .ok (.ireturn, 1) := by decide +kernel
theorem dL_law_1192 : decode cL_law 1192 = .ok (.aload_n 1, 1) := by decide +kernel
theorem dL_law_1193 : decode cL_law 1193 = .ok (.aload_n 0, 1) := by decide +kernel
theorem dL_law_1194 : decode cL_law 1194 = .ok (.iload_n 3, 1) := by decide +kernel
theorem dL_law_1195 : decode cL_law 1195 = .ok (.iconst 1, 1) := by decide +kernel
theorem dL_law_1196 : decode cL_law 1196 = .ok (.iadd, 1) := by decide +kernel
theorem dL_law_1197 : decode cL_law 1197 = .ok (.iaload, 1) := by decide +kernel
theorem dL_law_1198 : decode cL_law 1198 = .ok (.invokevirtual 142, 3) := by decide +kernel
theorem dL_law_1201 : decode cL_law 1201 = .ok (.aload_n 2, 1) := by decide +kernel
theorem dL_law_1202 : decode cL_law 1202 = .ok (.aload_n 0, 1) := by decide +kernel
theorem dL_law_1203 : decode cL_law 1203 = .ok (.iload_n 3, 1) := by decide +kernel
theorem dL_law_1204 : decode cL_law 1204 = .ok (.iconst 1, 1) := by decide +kernel
theorem dL_law_1205 : decode cL_law 1205 = .ok (.iadd, 1) := by decide +kernel
theorem dL_law_1206 : decode cL_law 1206 = .ok (.iaload, 1) := by decide +kernel
theorem dL_law_1207 : decode cL_law 1207 = .ok (.invokevirtual 145, 3) := by decide +kernel
theorem dL_law_1210 : decode cL_law 1210 = .ok (.if_icmp .eq 513, 3) := by decide +kernel
theorem dL_law_1213 : decode cL_law 1213 = .ok (.iconst 0, 1) := by decide +kernel
theorem dL_law_1214 : decode cL_law 1214 = .ok (.ireturn, 1) := by decide +kernel
theorem dL_law_1215 : decode cL_law 1215 = .ok (.aload_n 1, 1) := by decide +kernel
theorem dL_law_1216 : decode cL_law 1216 = .ok (.aload_n 0, 1) := by decide +kernel
theorem dL_law_1217 : decode cL_law 1217 = .ok (.iload_n 3, 1) := by decide +kernel
theorem dL_law_1218 : decode cL_law 1218 = .ok (.iconst 1, 1) := by decide +kernel
theorem dL_law_1219 : decode cL_law 1219 = .ok (.iadd, 1) := by decide +kernel
theorem dL_law_1220 : decode cL_law 1220 = .ok (.iaload, 1) := by decide +kernel
theorem dL_law_1221 : decode cL_law 1221 = .ok (.invokevirtual 146, 3) := by decide +kernel
theorem dL_law_1224 : decode cL_law 1224 = .ok (.aload_n 2, 1) := by decide +kernel
theorem dL_law_1225 : decode cL_law 1225 = .ok (.aload_n 0, 1) := by decide +kernel
theorem dL_law_1226 : decode cL_law 1226 = .ok (.iload_n 3, 1) := by decide +kernel
theorem dL_law_1227 : decode cL_law 1227 = .ok (.iconst 1, 1) := by decide +kernel
theorem dL_law_1228 : decode cL_law 1228 = .ok (.iadd, 1) := by decide +kernel
theorem dL_law_1229 : decode cL_law 1229 = .ok (.iaload, 1) := by decide +kernel
theorem dL_law_1230 : decode cL_law 1230 = .ok (.invokevirtual 149, 3) := by decide +kernel
theorem dL_law_1233 : decode cL_law 1233 = .ok (.if_icmp .eq 490, 3) := by decide +kernel
theorem dL_law_1236 : decode cL_law 1236 = .ok (.iconst 0, 1) := by decide +kernel
theorem dL_law_1237 : decode cL_law 1237 = .ok (.ireturn, 1) := by decide +kernel
theorem dL_law_1238 : decode cL_law 1238 = .ok (.aload_n 1, 1) := by decide +kernel
theorem dL_law_1239 : decode cL_law 1239 = .ok (.aload_n 0, 1) := by decide +kernel
theorem dL_law_1240 : decode cL_law 1240 = .ok (.iload_n 3, 1) := by decide +kernel
theorem dL_law_1241 : decode cL_law 1241 = .ok (.iconst 1, 1) := by decide +kernel
theorem dL_law_1242 : decode cL_law 1242 = .ok (.iadd, 1) := by decide +kernel
theorem dL_law_1243 : decode cL_law 1243 = .ok (.iaload, 1) := by decide +kernel
theorem dL_law_1244 : decode cL_law 1244 = .ok (.aload_n 0, 1) := by decide +kernel
theorem dL_law_1245 : decode cL_law 1245 = .ok (.iload_n 3, 1) := by decide +kernel
theorem dL_law_1246 : decode cL_law 1246 = .ok (.iconst 2, 1) := by decide +kernel
theorem dL_law_1247 : decode cL_law 1247 = .ok (.iadd, 1) := by decide +kernel
theorem dL_law_1248 : decode cL_law 1248 = .ok (.iaload, 1) := by decide +kernel
theorem dL_law_1249 : decode cL_law 1249 = .ok (.invokevirtual 150, 3) := by decide +kernel
theorem dL_law_1252 : decode cL_law 1252 = .ok (.aload_n 2, 1) := by decide +kernel
theorem dL_law_1253 : decode cL_law 1253 = .ok (.aload_n 0, 1) := by decide +kernel
theorem dL_law_1254 : decode cL_law 1254 = .ok (.iload_n 3, 1) := by decide +kernel
theorem dL_law_1255 : decode cL_law 1255 = .ok (.iconst 1, 1) := by decide +kernel
theorem dL_law_1256 : decode cL_law 1256 = .ok (.iadd, 1) := by decide +kernel
theorem dL_law_1257 : decode cL_law 1257 = .ok (.iaload, 1) := by decide +kernel
theorem dL_law_1258 : decode cL_law 1258 = .ok (.aload_n 0, 1) := by decide +kernel
theorem dL_law_1259 : decode cL_law 1259 = .ok (.iload_n 3, 1) := by decide +kernel
theorem dL_law_1260 : decode cL_law 1260 = .ok (.iconst 2, 1) := by decide +kernel
theorem dL_law_1261 : decode cL_law 1261 = .ok (.iadd, 1) := by decide +kernel
theorem dL_law_1262 : decode cL_law 1262 = .ok (.iaload, 1) := by decide +kernel
theorem dL_law_1263 : decode cL_law 1263 = .ok (.invokevirtual 153, 3) := by decide +kernel
theorem dL_law_1266 : decode cL_law 1266 = .ok (.if_icmp .eq 457, 3) := by decide +kernel
theorem dL_law_1269 : decode cL_law 1269 = .ok (.iconst 0, 1) := by decide +kernel
theorem dL_law_1270 : decode cL_law 1270 = .ok (.ireturn, 1) := by decide +kernel
theorem dL_law_1271 : decode cL_law 1271 = .ok (.aload_n 1, 1) := by decide +kernel
theorem dL_law_1272 : decode cL_law 1272 = .ok (.aload_n 0, 1) := by decide +kernel
theorem dL_law_1273 : decode cL_law 1273 = .ok (.iload_n 3, 1) := by decide +kernel
theorem dL_law_1274 : decode cL_law 1274 = .ok (.iconst 1, 1) := by decide +kernel
theorem dL_law_1275 : decode cL_law 1275 = .ok (.iadd, 1) := by decide +kernel
theorem dL_law_1276 : decode cL_law 1276 = .ok (.iaload, 1) := by decide +kernel
theorem dL_law_1277 : decode cL_law 1277 = .ok (.aload_n 0, 1) := by decide +kernel
theorem dL_law_1278 : decode cL_law 1278 = .ok (.iload_n 3, 1) := by decide +kernel
theorem dL_law_1279 : decode cL_law 1279 = .ok (.iconst 2, 1) := by decide +kernel
theorem dL_law_1280 : decode cL_law 1280 = .ok (.iadd, 1) := by decide +kernel
theorem dL_law_1281 : decode cL_law 1281 = .ok (.iaload, 1) := by decide +kernel
theorem dL_law_1282 : decode cL_law 1282 = .ok (.invokevirtual 154, 3) := by decide +kernel
theorem dL_law_1285 : decode cL_law 1285 = .ok (.aload_n 2, 1) := by decide +kernel
theorem dL_law_1286 : decode cL_law 1286 = .ok (.aload_n 0, 1) := by decide +kernel
theorem dL_law_1287 : decode cL_law 1287 = .ok (.iload_n 3, 1) := by decide +kernel
theorem dL_law_1288 : decode cL_law 1288 = .ok (.iconst 1, 1) := by decide +kernel
theorem dL_law_1289 : decode cL_law 1289 = .ok (.iadd, 1) := by decide +kernel
theorem dL_law_1290 : decode cL_law 1290 = .ok (.iaload, 1) := by decide +kernel
theorem dL_law_1291 : decode cL_law 1291 = .ok (.aload_n 0, 1) := by decide +kernel
theorem dL_law_1292 : decode cL_law 1292 = .ok (.iload_n 3, 1) := by decide +kernel
theorem dL_law_1293 : decode cL_law 1293 = .ok (.iconst 2, 1) := by decide +kernel
theorem dL_law_1294 : decode cL_law 1294 = .ok (.iadd, 1) := by decide +kernel
theorem dL_law_1295 : decode cL_law 1295 = .ok (.iaload, 1) := by decide +kernel
theorem dL_law_1296 : decode cL_law 1296 = .ok (.invokevirtual 157, 3) := by decide +kernel
theorem dL_law_1299 : decode cL_law 1299 = .ok (.if_icmp .eq 424, 3) := by decide +kernel
theorem dL_law_1302 : decode cL_law 1302 = .ok (.iconst 0, 1) := by decide +kernel
theorem dL_law_1303 : decode cL_law 1303 = .ok (.ireturn, 1) := by decide +kernel
theorem dL_law_1304 : decode cL_law 1304 = .ok (.aload_n 1, 1) := by decide +kernel
theorem dL_law_1305 : decode cL_law 1305 = .ok (.invokevirtual 158, 3) := by decide +kernel
theorem dL_law_1308 : decode cL_law 1308 = .ok (.aload_n 2, 1) := by decide +kernel
theorem dL_law_1309 : decode cL_law 1309 = .ok (.invokevirtual 161, 3) := by decide +kernel
theorem dL_law_1312 : decode cL_law 1312 = .ok (.if_icmp .eq 411, 3) := by decide +kernel
theorem dL_law_1315 : decode cL_law 1315 = .ok (.iconst 0, 1) := by decide +kernel
theorem dL_law_1316 : decode cL_law 1316 = .ok (.ireturn, 1) := by decide +kernel
theorem dL_law_1317 : decode cL_law 1317 = .ok (.aload_n 1, 1) := by decide +kernel
theorem dL_law_1318 : decode cL_law 1318 = .ok (.aload_n 0, 1) := by decide +kernel
theorem dL_law_1319 : decode cL_law 1319 = .ok (.iload_n 3, 1) := by decide +kernel
theorem dL_law_1320 : decode cL_law 1320 = .ok (.iconst 1, 1) := by decide +kernel
theorem dL_law_1321 : decode cL_law 1321 = .ok (.iadd, 1) := by decide +kernel
theorem dL_law_1322 : decode cL_law 1322 = .ok (.iaload, 1) := by decide +kernel
theorem dL_law_1323 : decode cL_law 1323 = .ok (.invokevirtual 162, 3) := by decide +kernel
theorem dL_law_1326 : decode cL_law 1326 = .ok (.aload_n 2, 1) := by decide +kernel
theorem dL_law_1327 : decode cL_law 1327 = .ok (.aload_n 0, 1) := by decide +kernel
theorem dL_law_1328 : decode cL_law 1328 = .ok (.iload_n 3, 1) := by decide +kernel
theorem dL_law_1329 : decode cL_law 1329 = .ok (.iconst 1, 1) := by decide +kernel
theorem dL_law_1330 : decode cL_law 1330 = .ok (.iadd, 1) := by decide +kernel
theorem dL_law_1331 : decode cL_law 1331 = .ok (.iaload, 1) := by decide +kernel
theorem dL_law_1332 : decode cL_law 1332 = .ok (.invokevirtual 165, 3) := by decide +kernel
theorem dL_law_1335 : decode cL_law 1335 = .ok (.if_icmp .eq 388, 3) := by decide +kernel
theorem dL_law_1338 : decode cL_law 1338 = .ok (.iconst 0, 1) := by decide +kernel
theorem dL_law_1339 : decode cL_law 1339 = .ok (.ireturn, 1) := by decide +kernel
theorem dL_law_1340 : decode cL_law 1340 = .ok (.aload_n 1, 1) := by decide +kernel
theorem dL_law_1341 : decode cL_law 1341 = .ok (.aload_n 0, 1) := by decide +kernel
theorem dL_law_1342 : decode cL_law 1342 = .ok (.iload_n 3, 1) := by decide +kernel
theorem dL_law_1343 : decode cL_law 1343 = .ok (.iconst 1, 1) := by decide +kernel
theorem dL_law_1344 : decode cL_law 1344 = .ok (.iadd, 1) := by decide +kernel
theorem dL_law_1345 : decode cL_law 1345 = .ok (.iaload, 1) := by decide +kernel
theorem dL_law_1346 : decode cL_law 1346 = .ok (.aload_n 0, 1) := by decide +kernel
theorem dL_law_1347 : decode cL_law 1347 = .ok (.iload_n 3, 1) := by decide +kernel
theorem dL_law_1348 : decode cL_law 1348 = .ok (.iconst 2, 1) := by decide +kernel
theorem dL_law_1349 : decode cL_law 1349 = .ok (.iadd, 1) := by decide +kernel
theorem dL_law_1350 : decode cL_law 1350 = .ok (.iaload, 1) := by decide +kernel
theorem dL_law_1351 : decode cL_law 1351 = .ok (.aload_n 0, 1) := by decide +kernel
theorem dL_law_1352 : decode cL_law 1352 = .ok (.iload_n 3, 1) := by decide +kernel
theorem dL_law_1353 : decode cL_law 1353 = .ok (.iconst 3, 1) := by decide +kernel
theorem dL_law_1354 : decode cL_law 1354 = .ok (.iadd, 1) := by decide +kernel
theorem dL_law_1355 : decode cL_law 1355 = .ok (.iaload, 1) := by decide +kernel
theorem dL_law_1356 : decode cL_law 1356 = .ok (.invokevirtual 166, 3) := by decide +kernel
theorem dL_law_1359 : decode cL_law 1359 = .ok (.aload_n 2, 1) := by decide +kernel
theorem dL_law_1360 : decode cL_law 1360 = .ok (.aload_n 0, 1) := by decide +kernel
theorem dL_law_1361 : decode cL_law 1361 = .ok (.iload_n 3, 1) := by decide +kernel
theorem dL_law_1362 : decode cL_law 1362 = .ok (.iconst 1, 1) := by decide +kernel
theorem dL_law_1363 : decode cL_law 1363 = .ok (.iadd, 1) := by decide +kernel
theorem dL_law_1364 : decode cL_law 1364 = .ok (.iaload, 1) := by decide +kernel
theorem dL_law_1365 : decode cL_law 1365 = .ok (.aload_n 0, 1) := by decide +kernel
theorem dL_law_1366 : decode cL_law 1366 = .ok (.iload_n 3, 1) := by decide +kernel
theorem dL_law_1367 : decode cL_law 1367 = .ok (.iconst 2, 1) := by decide +kernel
theorem dL_law_1368 : decode cL_law 1368 = .ok (.iadd, 1) := by decide +kernel
theorem dL_law_1369 : decode cL_law 1369 = .ok (.iaload, 1) := by decide +kernel
theorem dL_law_1370 : decode cL_law 1370 = .ok (.aload_n 0, 1) := by decide +kernel
theorem dL_law_1371 : decode cL_law 1371 = .ok (.iload_n 3, 1) := by decide +kernel
theorem dL_law_1372 : decode cL_law 1372 = .ok (.iconst 3, 1) := by decide +kernel
theorem dL_law_1373 : decode cL_law 1373 = .ok (.iadd, 1) := by decide +kernel
theorem dL_law_1374 : decode cL_law 1374 = .ok (.iaload, 1) := by decide +kernel
theorem dL_law_1375 : decode cL_law 1375 = .ok (.invokevirtual 169, 3) := by decide +kernel
theorem dL_law_1378 : decode cL_law 1378 = .ok (.if_icmp .eq 345, 3) := by decide +kernel
theorem dL_law_1381 : decode cL_law 1381 = .ok (.iconst 0, 1) := by decide +kernel
theorem dL_law_1382 : decode cL_law 1382 = .ok (.ireturn, 1) := by decide +kernel
theorem dL_law_1383 : decode cL_law 1383 = .ok (.aload_n 1, 1) := by decide +kernel
theorem dL_law_1384 : decode cL_law 1384 = .ok (.aload_n 0, 1) := by decide +kernel
theorem dL_law_1385 : decode cL_law 1385 = .ok (.iload_n 3, 1) := by decide +kernel
theorem dL_law_1386 : decode cL_law 1386 = .ok (.iconst 1, 1) := by decide +kernel
theorem dL_law_1387 : decode cL_law 1387 = .ok (.iadd, 1) := by decide +kernel
theorem dL_law_1388 : decode cL_law 1388 = .ok (.iaload, 1) := by decide +kernel
theorem dL_law_1389 : decode cL_law 1389 = .ok (.aload_n 0, 1) := by decide +kernel
theorem dL_law_1390 : decode cL_law 1390 = .ok (.iload_n 3, 1) := by decide +kernel
theorem dL_law_1391 : decode cL_law 1391 = .ok (.iconst 2, 1) := by decide +kernel
theorem dL_law_1392 : decode cL_law 1392 = .ok (.iadd, 1) := by decide +kernel
theorem dL_law_1393 : decode cL_law 1393 = .ok (.iaload, 1) := by decide +kernel
theorem dL_law_1394 : decode cL_law 1394 = .ok (.aload_n 0, 1) := by decide +kernel
theorem dL_law_1395 : decode cL_law 1395 = .ok (.iload_n 3, 1) := by decide +kernel
theorem dL_law_1396 : decode cL_law 1396 = .ok (.iconst 3, 1) := by decide +kernel
theorem dL_law_1397 : decode cL_law 1397 = .ok (.iadd, 1) := by decide +kernel
theorem dL_law_1398 : decode cL_law 1398 = .ok (.iaload, 1) := by decide +kernel
theorem dL_law_1399 : decode cL_law 1399 = .ok (.invokevirtual 170, 3) := by decide +kernel
theorem dL_law_1402 : decode cL_law 1402 = .ok (.aload_n 2, 1) := by decide +kernel
theorem dL_law_1403 : decode cL_law 1403 = .ok (.aload_n 0, 1) := by decide +kernel
theorem dL_law_1404 : decode cL_law 1404 = .ok (.iload_n 3, 1) := by decide +kernel
theorem dL_law_1405 : decode cL_law 1405 = .ok (.iconst 1, 1) := by decide +kernel
theorem dL_law_1406 : decode cL_law 1406 = .ok (.iadd, 1) := by decide +kernel
theorem dL_law_1407 : decode cL_law 1407 = .ok (.iaload, 1) := by decide +kernel
theorem dL_law_1408 : decode cL_law 1408 = .ok (.aload_n 0, 1) := by decide +kernel
theorem dL_law_1409 : decode cL_law 1409 = .ok (.iload_n 3, 1) := by decide +kernel
theorem dL_law_1410 : decode cL_law 1410 = .ok (.iconst 2, 1) := by decide +kernel
theorem dL_law_1411 : decode cL_law 1411 = .ok (.iadd, 1) := by decide +kernel
theorem dL_law_1412 : decode cL_law 1412 = .ok (.iaload, 1) := by decide +kernel
theorem dL_law_1413 : decode cL_law 1413 = .ok (.aload_n 0, 1) := by decide +kernel
theorem dL_law_1414 : decode cL_law 1414 = .ok (.iload_n 3, 1) := by decide +kernel
theorem dL_law_1415 : decode cL_law 1415 = .ok (.iconst 3, 1) := by decide +kernel
theorem dL_law_1416 : decode cL_law 1416 = .ok (.iadd, 1) := by decide +kernel
theorem dL_law_1417 : decode cL_law 1417 = .ok (.iaload, 1) := by decide +kernel
theorem dL_law_1418 : decode cL_law 1418 = .ok (.invokevirtual 173, 3) := by decide +kernel
theorem dL_law_1421 : decode cL_law 1421 = .ok (.if_icmp .eq 302, 3) := by decide +kernel
theorem dL_law_1424 : decode cL_law 1424 = .ok (.iconst 0, 1) := by decide +kernel
theorem dL_law_1425 : decode cL_law 1425 = .ok (.ireturn, 1) := by decide +kernel
theorem dL_law_1426 : decode cL_law 1426 = .ok (.aload_n 1, 1) := by decide +kernel
theorem dL_law_1427 : decode cL_law 1427 = .ok (.aload_n 0, 1) := by decide +kernel
theorem dL_law_1428 : decode cL_law 1428 = .ok (.iload_n 3, 1) := by decide +kernel
theorem dL_law_1429 : decode cL_law 1429 = .ok (.iconst 1, 1) := by decide +kernel
theorem dL_law_1430 : decode cL_law 1430 = .ok (.iadd, 1) := by decide +kernel
theorem dL_law_1431 : decode cL_law 1431 = .ok (.iaload, 1) := by decide +kernel
theorem dL_law_1432 : decode cL_law 1432 = .ok (.aload_n 0, 1) := by decide +kernel
theorem dL_law_1433 : decode cL_law 1433 = .ok (.iload_n 3, 1) := by decide +kernel
theorem dL_law_1434 : decode cL_law 1434 = .ok (.iconst 2, 1) := by decide +kernel
theorem dL_law_1435 : decode cL_law 1435 = .ok (.iadd, 1) := by decide +kernel
theorem dL_law_1436 : decode cL_law 1436 = .ok (.iaload, 1) := by decide +kernel
theorem dL_law_1437 : decode cL_law 1437 = .ok (.aload_n 0, 1) := by decide +kernel
theorem dL_law_1438 : decode cL_law 1438 = .ok (.iload_n 3, 1) := by decide +kernel
theorem dL_law_1439 : decode cL_law 1439 = .ok (.iconst 3, 1) := by decide +kernel
theorem dL_law_1440 : decode cL_law 1440 = .ok (.iadd, 1) := by decide +kernel
theorem dL_law_1441 : decode cL_law 1441 = .ok (.iaload, 1) := by decide +kernel
theorem dL_law_1442 : decode cL_law 1442 = .ok (.invokevirtual 174, 3) := by decide +kernel
theorem dL_law_1445 : decode cL_law 1445 = .ok (.aload_n 2, 1) := by decide +kernel
theorem dL_law_1446 : decode cL_law 1446 = .ok (.aload_n 0, 1) := by decide +kernel
theorem dL_law_1447 : decode cL_law 1447 = .ok (.iload_n 3, 1) := by decide +kernel
theorem dL_law_1448 : decode cL_law 1448 = .ok (.iconst 1, 1) := by decide +kernel
theorem dL_law_1449 : decode cL_law 1449 = .ok (.iadd, 1) := by decide +kernel
theorem dL_law_1450 : decode cL_law 1450 = .ok (.iaload, 1) := by decide +kernel
theorem dL_law_1451 : decode cL_law 1451 = .ok (.aload_n 0, 1) := by decide +kernel
theorem dL_law_1452 : decode cL_law 1452 = .ok (.iload_n 3, 1) := by decide +kernel
theorem dL_law_1453 : decode cL_law 1453 = .ok (.iconst 2, 1) := by decide +kernel
theorem dL_law_1454 : decode cL_law 1454 = .ok (.iadd, 1) := by decide +kernel
theorem dL_law_1455 : decode cL_law 1455 = .ok (.iaload, 1) := by decide +kernel
theorem dL_law_1456 : decode cL_law 1456 = .ok (.aload_n 0, 1) := by decide +kernel
theorem dL_law_1457 : decode cL_law 1457 = .ok (.iload_n 3, 1) := by decide +kernel
theorem dL_law_1458 : decode cL_law 1458 = .ok (.iconst 3, 1) := by decide +kernel
theorem dL_law_1459 : decode cL_law 1459 = .ok (.iadd, 1) := by decide +kernel
theorem dL_law_1460 : decode cL_law 1460 = .ok (.iaload, 1) := by decide +kernel
theorem dL_law_1461 : decode cL_law 1461 = .ok (.invokevirtual 177, 3) := by decide +kernel
theorem dL_law_1464 : decode cL_law 1464 = .ok (.if_icmp .eq 259, 3) := by decide +kernel
theorem dL_law_1467 : decode cL_law 1467 = .ok (.iconst 0, 1) := by decide +kernel
theorem dL_law_1468 : decode cL_law 1468 = .ok (.ireturn, 1) := by decide +kernel
theorem dL_law_1469 : decode cL_law 1469 = .ok (.aload_n 1, 1) := by decide +kernel
theorem dL_law_1470 : decode cL_law 1470 = .ok (.aload_n 0, 1) := by decide +kernel
theorem dL_law_1471 : decode cL_law 1471 = .ok (.iload_n 3, 1) := by decide +kernel
theorem dL_law_1472 : decode cL_law 1472 = .ok (.iconst 1, 1) := by decide +kernel
theorem dL_law_1473 : decode cL_law 1473 = .ok (.iadd, 1) := by decide +kernel
theorem dL_law_1474 : decode cL_law 1474 = .ok (.iaload, 1) := by decide +kernel
theorem dL_law_1475 : decode cL_law 1475 = .ok (.aload_n 0, 1) := by decide +kernel
theorem dL_law_1476 : decode cL_law 1476 = .ok (.iload_n 3, 1) := by decide +kernel
theorem dL_law_1477 : decode cL_law 1477 = .ok (.iconst 2, 1) := by decide +kernel
theorem dL_law_1478 : decode cL_law 1478 = .ok (.iadd, 1) := by decide +kernel
theorem dL_law_1479 : decode cL_law 1479 = .ok (.iaload, 1) := by decide +kernel
theorem dL_law_1480 : decode cL_law 1480 = .ok (.invokevirtual 178, 3) := by decide +kernel
theorem dL_law_1483 : decode cL_law 1483 = .ok (.aload_n 2, 1) := by decide +kernel
theorem dL_law_1484 : decode cL_law 1484 = .ok (.aload_n 0, 1) := by decide +kernel
theorem dL_law_1485 : decode cL_law 1485 = .ok (.iload_n 3, 1) := by decide +kernel
theorem dL_law_1486 : decode cL_law 1486 = .ok (.iconst 1, 1) := by decide +kernel
theorem dL_law_1487 : decode cL_law 1487 = .ok (.iadd, 1) := by decide +kernel
theorem dL_law_1488 : decode cL_law 1488 = .ok (.iaload, 1) := by decide +kernel
theorem dL_law_1489 : decode cL_law 1489 = .ok (.aload_n 0, 1) := by decide +kernel
theorem dL_law_1490 : decode cL_law 1490 = .ok (.iload_n 3, 1) := by decide +kernel
theorem dL_law_1491 : decode cL_law 1491 = .ok (.iconst 2, 1) := by decide +kernel
theorem dL_law_1492 : decode cL_law 1492 = .ok (.iadd, 1) := by decide +kernel
theorem dL_law_1493 : decode cL_law 1493 = .ok (.iaload, 1) := by decide +kernel
theorem dL_law_1494 : decode cL_law 1494 = .ok (.invokevirtual 181, 3) := by decide +kernel
theorem dL_law_1497 : decode cL_law 1497 = .ok (.if_icmp .eq 226, 3) := by decide +kernel
theorem dL_law_1500 : decode cL_law 1500 = .ok (.iconst 0, 1) := by decide +kernel
theorem dL_law_1501 : decode cL_law 1501 = .ok (.ireturn, 1) := by decide +kernel
theorem dL_law_1502 : decode cL_law 1502 = .ok (.aload_n 1, 1) := by decide +kernel
theorem dL_law_1503 : decode cL_law 1503 = .ok (.aload_n 0, 1) := by decide +kernel
theorem dL_law_1504 : decode cL_law 1504 = .ok (.iload_n 3, 1) := by decide +kernel
theorem dL_law_1505 : decode cL_law 1505 = .ok (.iconst 1, 1) := by decide +kernel
theorem dL_law_1506 : decode cL_law 1506 = .ok (.iadd, 1) := by decide +kernel
theorem dL_law_1507 : decode cL_law 1507 = .ok (.iaload, 1) := by decide +kernel
theorem dL_law_1508 : decode cL_law 1508 = .ok (.aload_n 0, 1) := by decide +kernel
theorem dL_law_1509 : decode cL_law 1509 = .ok (.iload_n 3, 1) := by decide +kernel
theorem dL_law_1510 : decode cL_law 1510 = .ok (.iconst 2, 1) := by decide +kernel
theorem dL_law_1511 : decode cL_law 1511 = .ok (.iadd, 1) := by decide +kernel
theorem dL_law_1512 : decode cL_law 1512 = .ok (.iaload, 1) := by decide +kernel
theorem dL_law_1513 : decode cL_law 1513 = .ok (.invokevirtual 182, 3) := by decide +kernel
theorem dL_law_1516 : decode cL_law 1516 = .ok (.aload_n 2, 1) := by decide +kernel
theorem dL_law_1517 : decode cL_law 1517 = .ok (.aload_n 0, 1) := by decide +kernel
theorem dL_law_1518 : decode cL_law 1518 = .ok (.iload_n 3, 1) := by decide +kernel
theorem dL_law_1519 : decode cL_law 1519 = .ok (.iconst 1, 1) := by decide +kernel
theorem dL_law_1520 : decode cL_law 1520 = .ok (.iadd, 1) := by decide +kernel
theorem dL_law_1521 : decode cL_law 1521 = .ok (.iaload, 1) := by decide +kernel
theorem dL_law_1522 : decode cL_law 1522 = .ok (.aload_n 0, 1) := by decide +kernel
theorem dL_law_1523 : decode cL_law 1523 = .ok (.iload_n 3, 1) := by decide +kernel
theorem dL_law_1524 : decode cL_law 1524 = .ok (.iconst 2, 1) := by decide +kernel
theorem dL_law_1525 : decode cL_law 1525 = .ok (.iadd, 1) := by decide +kernel
theorem dL_law_1526 : decode cL_law 1526 = .ok (.iaload, 1) := by decide +kernel
theorem dL_law_1527 : decode cL_law 1527 = .ok (.invokevirtual 185, 3) := by decide +kernel
theorem dL_law_1530 : decode cL_law 1530 = .ok (.if_icmp .eq 193, 3) := by decide +kernel
theorem dL_law_1533 : decode cL_law 1533 = .ok (.iconst 0, 1) := by decide +kernel
theorem dL_law_1534 : decode cL_law 1534 = .ok (.ireturn, 1) := by decide +kernel
theorem dL_law_1535 : decode cL_law 1535 = .ok (.aload_n 1, 1) := by decide +kernel
theorem dL_law_1536 : decode cL_law 1536 = .ok (.aload_n 0, 1) := by decide +kernel
theorem dL_law_1537 : decode cL_law 1537 = .ok (.iload_n 3, 1) := by decide +kernel
theorem dL_law_1538 : decode cL_law 1538 = .ok (.iconst 1, 1) := by decide +kernel
theorem dL_law_1539 : decode cL_law 1539 = .ok (.iadd, 1) := by decide +kernel
theorem dL_law_1540 : decode cL_law 1540 = .ok (.iaload, 1) := by decide +kernel
theorem dL_law_1541 : decode cL_law 1541 = .ok (.invokevirtual 186, 3) := by decide +kernel
theorem dL_law_1544 : decode cL_law 1544 = .ok (.aload_n 2, 1) := by decide +kernel
theorem dL_law_1545 : decode cL_law 1545 = .ok (.aload_n 0, 1) := by decide +kernel
theorem dL_law_1546 : decode cL_law 1546 = .ok (.iload_n 3, 1) := by decide +kernel
theorem dL_law_1547 : decode cL_law 1547 = .ok (.iconst 1, 1) := by decide +kernel
theorem dL_law_1548 : decode cL_law 1548 = .ok (.iadd, 1) := by decide +kernel
theorem dL_law_1549 : decode cL_law 1549 = .ok (.iaload, 1) := by decide +kernel
theorem dL_law_1550 : decode cL_law 1550 = .ok (.invokevirtual 189, 3) := by decide +kernel
theorem dL_law_1553 : decode cL_law 1553 = .ok (.if_icmp .eq 170, 3) := by decide +kernel
theorem dL_law_1556 : decode cL_law 1556 = .ok (.iconst 0, 1) := by decide +kernel
theorem dL_law_1557 : decode cL_law 1557 = .ok (.ireturn, 1) := by decide +kernel
theorem dL_law_1558 : decode cL_law 1558 = .ok (.aload_n 1, 1) := by decide +kernel
theorem dL_law_1559 : decode cL_law 1559 = .ok (.aload_n 0, 1) := by decide +kernel
theorem dL_law_1560 : decode cL_law 1560 = .ok (.iload_n 3, 1) := by decide +kernel
theorem dL_law_1561 : decode cL_law 1561 = .ok (.iconst 1, 1) := by decide +kernel
theorem dL_law_1562 : decode cL_law 1562 = .ok (.iadd, 1) := by decide +kernel
theorem dL_law_1563 : decode cL_law 1563 = .ok (.iaload, 1) := by decide +kernel
theorem dL_law_1564 : decode cL_law 1564 = .ok (.aload_n 0, 1) := by decide +kernel
theorem dL_law_1565 : decode cL_law 1565 = .ok (.iload_n 3, 1) := by decide +kernel
theorem dL_law_1566 : decode cL_law 1566 = .ok (.iconst 2, 1) := by decide +kernel
theorem dL_law_1567 : decode cL_law 1567 = .ok (.iadd, 1) := by decide +kernel
theorem dL_law_1568 : decode cL_law 1568 = .ok (.iaload, 1) := by decide +kernel
theorem dL_law_1569 : decode cL_law 1569 = .ok (.aload_n 0, 1) := by decide +kernel
theorem dL_law_1570 : decode cL_law 1570 = .ok (.iload_n 3, 1) := by decide +kernel
theorem dL_law_1571 : decode cL_law 1571 = .ok (.iconst 3, 1) := by decide +kernel
theorem dL_law_1572 : decode cL_law 1572 = .ok (.iadd, 1) := by decide +kernel
theorem dL_law_1573 : decode cL_law 1573 = .ok (.iaload, 1) := by decide +kernel
theorem dL_law_1574 : decode cL_law 1574 = .ok (.invokevirtual 190, 3) := by decide +kernel
theorem dL_law_1577 : decode cL_law 1577 = .ok (.aload_n 2, 1) := by decide +kernel
theorem dL_law_1578 : decode cL_law 1578 = .ok (.aload_n 0, 1) := by decide +kernel
theorem dL_law_1579 : decode cL_law 1579 = .ok (.iload_n 3, 1) := by decide +kernel
theorem dL_law_1580 : decode cL_law 1580 = .ok (.iconst 1, 1) := by decide +kernel
theorem dL_law_1581 : decode cL_law 1581 = .ok (.iadd, 1) := by decide +kernel
theorem dL_law_1582 : decode cL_law 1582 = .ok (.iaload, 1) := by decide +kernel
theorem dL_law_1583 : decode cL_law 1583 = .ok (.aload_n 0, 1) := by decide +kernel
theorem dL_law_1584 : decode cL_law 1584 = .ok (.iload_n 3, 1) := by decide +kernel
theorem dL_law_1585 : decode cL_law 1585 = .ok (.iconst 2, 1) := by decide +kernel
theorem dL_law_1586 : decode cL_law 1586 = .ok (.iadd, 1) := by decide +kernel
theorem dL_law_1587 : decode cL_law 1587 = .ok (.iaload, 1) := by decide +kernel
theorem dL_law_1588 : decode cL_law 1588 = .ok (.aload_n 0, 1) := by decide +kernel
theorem dL_law_1589 : decode cL_law 1589 = .ok (.iload_n 3, 1) := by decide +kernel
theorem dL_law_1590 : decode cL_law 1590 = .ok (.iconst 3, 1) := by decide +kernel
theorem dL_law_1591 : decode cL_law 1591 = .ok (.iadd, 1) := by decide +kernel
theorem dL_law_1592 : decode cL_law 1592 = .ok (.iaload, 1) := by decide +kernel
theorem dL_law_1593 : decode cL_law 1593 = .ok (.invokevirtual 193, 3) := by decide +kernel
theorem dL_law_1596 : decode cL_law 1596 = .ok (.if_icmp .eq 127, 3) := by decide +kernel
theorem dL_law_1599 : decode cL_law 1599 = .ok (.iconst 0, 1) := by decide +kernel
theorem dL_law_1600 : decode cL_law 1600 = .ok (.ireturn, 1) := by decide +kernel
theorem dL_law_1601 : decode cL_law 1601 = .ok (.aload_n 1, 1) := by decide +kernel
theorem dL_law_1602 : decode cL_law 1602 = .ok (.aload_n 0, 1) := by decide +kernel
theorem dL_law_1603 : decode cL_law 1603 = .ok (.iload_n 3, 1) := by decide +kernel
theorem dL_law_1604 : decode cL_law 1604 = .ok (.iconst 1, 1) := by decide +kernel
theorem dL_law_1605 : decode cL_law 1605 = .ok (.iadd, 1) := by decide +kernel
theorem dL_law_1606 : decode cL_law 1606 = .ok (.iaload, 1) := by decide +kernel
theorem dL_law_1607 : decode cL_law 1607 = .ok (.aload_n 0, 1) := by decide +kernel
theorem dL_law_1608 : decode cL_law 1608 = .ok (.iload_n 3, 1) := by decide +kernel
theorem dL_law_1609 : decode cL_law 1609 = .ok (.iconst 2, 1) := by decide +kernel
theorem dL_law_1610 : decode cL_law 1610 = .ok (.iadd, 1) := by decide +kernel
theorem dL_law_1611 : decode cL_law 1611 = .ok (.iaload, 1) := by decide +kernel
theorem dL_law_1612 : decode cL_law 1612 = .ok (.invokevirtual 194, 3) := by decide +kernel
theorem dL_law_1615 : decode cL_law 1615 = .ok (.aload_n 2, 1) := by decide +kernel
theorem dL_law_1616 : decode cL_law 1616 = .ok (.aload_n 0, 1) := by decide +kernel
theorem dL_law_1617 : decode cL_law 1617 = .ok (.iload_n 3, 1) := by decide +kernel
theorem dL_law_1618 : decode cL_law 1618 = .ok (.iconst 1, 1) := by decide +kernel
theorem dL_law_1619 : decode cL_law 1619 = .ok (.iadd, 1) := by decide +kernel
theorem dL_law_1620 : decode cL_law 1620 = .ok (.iaload, 1) := by decide +kernel
theorem dL_law_1621 : decode cL_law 1621 = .ok (.aload_n 0, 1) := by decide +kernel
theorem dL_law_1622 : decode cL_law 1622 = .ok (.iload_n 3, 1) := by decide +kernel
theorem dL_law_1623 : decode cL_law 1623 = .ok (.iconst 2, 1) := by decide +kernel
theorem dL_law_1624 : decode cL_law 1624 = .ok (.iadd, 1) := by decide +kernel
theorem dL_law_1625 : decode cL_law 1625 = .ok (.iaload, 1) := by decide +kernel
theorem dL_law_1626 : decode cL_law 1626 = .ok (.invokevirtual 197, 3) := by decide +kernel
theorem dL_law_1629 : decode cL_law 1629 = .ok (.if_icmp .eq 94, 3) := by decide +kernel
theorem dL_law_1632 : decode cL_law 1632 = .ok (.iconst 0, 1) := by decide +kernel
theorem dL_law_1633 : decode cL_law 1633 = .ok (.ireturn, 1) := by decide +kernel
theorem dL_law_1634 : decode cL_law 1634 = .ok (.aload_n 1, 1) := by decide +kernel
theorem dL_law_1635 : decode cL_law 1635 = .ok (.aload_n 0, 1) := by decide +kernel
theorem dL_law_1636 : decode cL_law 1636 = .ok (.iload_n 3, 1) := by decide +kernel
theorem dL_law_1637 : decode cL_law 1637 = .ok (.iconst 1, 1) := by decide +kernel
theorem dL_law_1638 : decode cL_law 1638 = .ok (.iadd, 1) := by decide +kernel
theorem dL_law_1639 : decode cL_law 1639 = .ok (.iaload, 1) := by decide +kernel
theorem dL_law_1640 : decode cL_law 1640 = .ok (.aload_n 0, 1) := by decide +kernel
theorem dL_law_1641 : decode cL_law 1641 = .ok (.iload_n 3, 1) := by decide +kernel
theorem dL_law_1642 : decode cL_law 1642 = .ok (.iconst 2, 1) := by decide +kernel
theorem dL_law_1643 : decode cL_law 1643 = .ok (.iadd, 1) := by decide +kernel
theorem dL_law_1644 : decode cL_law 1644 = .ok (.iaload, 1) := by decide +kernel
theorem dL_law_1645 : decode cL_law 1645 = .ok (.invokevirtual 198, 3) := by decide +kernel
theorem dL_law_1648 : decode cL_law 1648 = .ok (.aload_n 2, 1) := by decide +kernel
theorem dL_law_1649 : decode cL_law 1649 = .ok (.aload_n 0, 1) := by decide +kernel
theorem dL_law_1650 : decode cL_law 1650 = .ok (.iload_n 3, 1) := by decide +kernel
theorem dL_law_1651 : decode cL_law 1651 = .ok (.iconst 1, 1) := by decide +kernel
theorem dL_law_1652 : decode cL_law 1652 = .ok (.iadd, 1) := by decide +kernel
theorem dL_law_1653 : decode cL_law 1653 = .ok (.iaload, 1) := by decide +kernel
theorem dL_law_1654 : decode cL_law 1654 = .ok (.aload_n 0, 1) := by decide +kernel
theorem dL_law_1655 : decode cL_law 1655 = .ok (.iload_n 3, 1) := by decide +kernel
theorem dL_law_1656 : decode cL_law 1656 = .ok (.iconst 2, 1) := by decide +kernel
theorem dL_law_1657 : decode cL_law 1657 = .ok (.iadd, 1) := by decide +kernel
theorem dL_law_1658 : decode cL_law 1658 = .ok (.iaload, 1) := by decide +kernel
theorem dL_law_1659 : decode cL_law 1659 = .ok (.invokevirtual 201, 3) := by decide +kernel
theorem dL_law_1662 : decode cL_law 1662 = .ok (.if_icmp .eq 61, 3) := by decide +kernel
theorem dL_law_1665 : decode cL_law 1665 = .ok (.iconst 0, 1) := by decide +kernel
theorem dL_law_1666 : decode cL_law 1666 = .ok (.ireturn, 1) := by decide +kernel
theorem dL_law_1667 : decode cL_law 1667 = .ok (.aload_n 1, 1) := by decide +kernel
theorem dL_law_1668 : decode cL_law 1668 = .ok (.aload_n 0, 1) := by decide +kernel
theorem dL_law_1669 : decode cL_law 1669 = .ok (.iload_n 3, 1) := by decide +kernel
theorem dL_law_1670 : decode cL_law 1670 = .ok (.iconst 1, 1) := by decide +kernel
theorem dL_law_1671 : decode cL_law 1671 = .ok (.iadd, 1) := by decide +kernel
theorem dL_law_1672 : decode cL_law 1672 = .ok (.iaload, 1) := by decide +kernel
theorem dL_law_1673 : decode cL_law 1673 = .ok (.aload_n 0, 1) := by decide +kernel
theorem dL_law_1674 : decode cL_law 1674 = .ok (.iload_n 3, 1) := by decide +kernel
theorem dL_law_1675 : decode cL_law 1675 = .ok (.iconst 2, 1) := by decide +kernel
theorem dL_law_1676 : decode cL_law 1676 = .ok (.iadd, 1) := by decide +kernel
theorem dL_law_1677 : decode cL_law 1677 = .ok (.iaload, 1) := by decide +kernel
theorem dL_law_1678 : decode cL_law 1678 = .ok (.invokevirtual 202, 3) := by decide +kernel
theorem dL_law_1681 : decode cL_law 1681 = .ok (.aload_n 2, 1) := by decide +kernel
theorem dL_law_1682 : decode cL_law 1682 = .ok (.aload_n 0, 1) := by decide +kernel
theorem dL_law_1683 : decode cL_law 1683 = .ok (.iload_n 3, 1) := by decide +kernel
theorem dL_law_1684 : decode cL_law 1684 = .ok (.iconst 1, 1) := by decide +kernel
theorem dL_law_1685 : decode cL_law 1685 = .ok (.iadd, 1) := by decide +kernel
theorem dL_law_1686 : decode cL_law 1686 = .ok (.iaload, 1) := by decide +kernel
theorem dL_law_1687 : decode cL_law 1687 = .ok (.aload_n 0, 1) := by decide +kernel
theorem dL_law_1688 : decode cL_law 1688 = .ok (.iload_n 3, 1) := by decide +kernel
theorem dL_law_1689 : decode cL_law 1689 = .ok (.iconst 2, 1) := by decide +kernel
theorem dL_law_1690 : decode cL_law 1690 = .ok (.iadd, 1) := by decide +kernel
theorem dL_law_1691 : decode cL_law 1691 = .ok (.iaload, 1) := by decide +kernel
theorem dL_law_1692 : decode cL_law 1692 = .ok (.invokevirtual 205, 3) := by decide +kernel
theorem dL_law_1695 : decode cL_law 1695 = .ok (.if_icmp .eq 28, 3) := by decide +kernel
theorem dL_law_1698 : decode cL_law 1698 = .ok (.iconst 0, 1) := by decide +kernel
theorem dL_law_1699 : decode cL_law 1699 = .ok (.ireturn, 1) := by decide +kernel
theorem dL_law_1700 : decode cL_law 1700 = .ok (.aload_n 1, 1) := by decide +kernel
theorem dL_law_1701 : decode cL_law 1701 = .ok (.aload_n 0, 1) := by decide +kernel
theorem dL_law_1702 : decode cL_law 1702 = .ok (.iload_n 3, 1) := by decide +kernel
theorem dL_law_1703 : decode cL_law 1703 = .ok (.iconst 1, 1) := by decide +kernel
theorem dL_law_1704 : decode cL_law 1704 = .ok (.iadd, 1) := by decide +kernel
theorem dL_law_1705 : decode cL_law 1705 = .ok (.iaload, 1) := by decide +kernel
theorem dL_law_1706 : decode cL_law 1706 = .ok (.invokevirtual 206, 3) := by decide +kernel
theorem dL_law_1709 : decode cL_law 1709 = .ok (.aload_n 2, 1) := by decide +kernel
theorem dL_law_1710 : decode cL_law 1710 = .ok (.aload_n 0, 1) := by decide +kernel
theorem dL_law_1711 : decode cL_law 1711 = .ok (.iload_n 3, 1) := by decide +kernel
theorem dL_law_1712 : decode cL_law 1712 = .ok (.iconst 1, 1) := by decide +kernel
theorem dL_law_1713 : decode cL_law 1713 = .ok (.iadd, 1) := by decide +kernel
theorem dL_law_1714 : decode cL_law 1714 = .ok (.iaload, 1) := by decide +kernel
theorem dL_law_1715 : decode cL_law 1715 = .ok (.invokevirtual 209, 3) := by decide +kernel
theorem dL_law_1718 : decode cL_law 1718 = .ok (.if_icmp .eq 5, 3) := by decide +kernel
theorem dL_law_1721 : decode cL_law 1721 = .ok (.iconst 0, 1) := by decide +kernel
theorem dL_law_1722 : decode cL_law 1722 = .ok (.ireturn, 1) := by decide +kernel
theorem dL_law_1723 : decode cL_law 1723 = .ok (.iinc 3 6, 3) := by decide +kernel
theorem dL_law_1726 : decode cL_law 1726 = .ok (.goto (-1708), 3) := by decide +kernel
theorem dL_law_1729 : decode cL_law 1729 = .ok (.iconst 1, 1) := by decide +kernel
theorem dL_law_1730 : decode cL_law 1730 = .ok (.ireturn, 1) := by decide +kernel
