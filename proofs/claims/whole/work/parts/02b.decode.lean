/-! decode rows, 2 of 4 (printed) -/
theorem dX8_barOf_231 : decode cX8_barOf 231 = .ok (.bipush 8, 2) := by decide +kernel
theorem dX8_barOf_233 : decode cX8_barOf 233 = .ok (.ireturn, 1) := by decide +kernel
theorem dX8_barOf_234 : decode cX8_barOf 234 = .ok (.aload_n 0, 1) := by decide +kernel
theorem dX8_barOf_235 : decode cX8_barOf 235 = .ok (.iconst 4, 1) := by decide +kernel
theorem dX8_barOf_236 : decode cX8_barOf 236 = .ok (.iload_n 1, 1) := by decide +kernel
theorem dX8_barOf_237 : decode cX8_barOf 237 = .ok (.iload_n 2, 1) := by decide +kernel
theorem dX8_barOf_238 : decode cX8_barOf 238 = .ok (.iconst (-1), 1) := by decide +kernel
theorem dX8_barOf_239 : decode cX8_barOf 239 = .ok (.iconst 0, 1) := by decide +kernel
theorem dX8_barOf_240 : decode cX8_barOf 240 = .ok (.invokevirtual 144, 3) := by decide +kernel
theorem dX8_barOf_243 : decode cX8_barOf 243 = .ok (.iconst 1, 1) := by decide +kernel
theorem dX8_barOf_244 : decode cX8_barOf 244 = .ok (.if_icmp .ne 7, 3) := by decide +kernel
theorem dX8_barOf_247 : decode cX8_barOf 247 = .ok (.iconst 0, 1) := by decide +kernel
theorem dX8_barOf_248 : decode cX8_barOf 248 = .ok (.goto 5, 3) := by decide +kernel
theorem dX8_barOf_251 : decode cX8_barOf 251 = .ok (.bipush 9, 2) := by decide +kernel
theorem dX8_barOf_253 : decode cX8_barOf 253 = .ok (.ireturn, 1) := by decide +kernel
theorem dX8_hasSchoolFor_0 : decode cX8_hasSchoolFor 0 = .ok (.aload_n 0, 1) := by decide +kernel
theorem dX8_hasSchoolFor_1 : decode cX8_hasSchoolFor 1 = .ok (.getfield 12, 3) := by decide +kernel
theorem dX8_hasSchoolFor_4 : decode cX8_hasSchoolFor 4 = .ok (.iload_n 2, 1) := by decide +kernel
theorem dX8_hasSchoolFor_5 : decode cX8_hasSchoolFor 5 = .ok (.aload_n 0, 1) := by decide +kernel
theorem dX8_hasSchoolFor_6 : decode cX8_hasSchoolFor 6 = .ok (.getfield 28, 3) := by decide +kernel
theorem dX8_hasSchoolFor_9 : decode cX8_hasSchoolFor 9 = .ok (.getfield 134, 3) := by decide +kernel
theorem dX8_hasSchoolFor_12 : decode cX8_hasSchoolFor 12 = .ok (.iload_n 1, 1) := by decide +kernel
theorem dX8_hasSchoolFor_13 : decode cX8_hasSchoolFor 13 = .ok (.iaload, 1) := by decide +kernel
theorem dX8_hasSchoolFor_14 : decode cX8_hasSchoolFor 14 = .ok (.invokevirtual 148, 3) := by decide +kernel
theorem dX8_hasSchoolFor_17 : decode cX8_hasSchoolFor 17 = .ok (.ifCond .eq 25, 3) := by decide +kernel
theorem dX8_hasSchoolFor_20 : decode cX8_hasSchoolFor 20 = .ok (.aload_n 0, 1) := by decide +kernel
theorem dX8_hasSchoolFor_21 : decode cX8_hasSchoolFor 21 = .ok (.iload_n 1, 1) := by decide +kernel
theorem dX8_hasSchoolFor_22 : decode cX8_hasSchoolFor 22 = .ok (.iload_n 2, 1) := by decide +kernel
theorem dX8_hasSchoolFor_23 : decode cX8_hasSchoolFor 23 = .ok (.invokevirtual 151, 3) := by decide +kernel
theorem dX8_hasSchoolFor_26 : decode cX8_hasSchoolFor 26 = .ok (.aload_n 0, 1) := by decide +kernel
theorem dX8_hasSchoolFor_27 : decode cX8_hasSchoolFor 27 = .ok (.getfield 28, 3) := by decide +kernel
theorem dX8_hasSchoolFor_30 : decode cX8_hasSchoolFor 30 = .ok (.getfield 83, 3) := by decide +kernel
theorem dX8_hasSchoolFor_33 : decode cX8_hasSchoolFor 33 = .ok (.iload_n 1, 1) := by decide +kernel
theorem dX8_hasSchoolFor_34 : decode cX8_hasSchoolFor 34 = .ok (.iaload, 1) := by decide +kernel
theorem dX8_hasSchoolFor_35 : decode cX8_hasSchoolFor 35 = .ok (.if_icmp .lt 7, 3) := by decide +kernel
theorem dX8_hasSchoolFor_38 : decode cX8_hasSchoolFor 38 = .ok (.iconst 1, 1) := by decide +kernel
theorem dX8_hasSchoolFor_39 : decode cX8_hasSchoolFor 39 = .ok (.goto 4, 3) := by decide +kernel
theorem dX8_hasSchoolFor_42 : decode cX8_hasSchoolFor 42 = .ok (.iconst 0, 1) := by decide +kernel
theorem dX8_hasSchoolFor_43 : decode cX8_hasSchoolFor 43 = .ok (.ireturn, 1) := by decide +kernel
theorem dX8_isTooNear_0 : decode cX8_isTooNear 0 = .ok (.iconst 0, 1) := by decide +kernel
theorem dX8_isTooNear_1 : decode cX8_isTooNear 1 = .ok (.istore_n 3, 1) := by decide +kernel
theorem dX8_isTooNear_2 : decode cX8_isTooNear 2 = .ok (.iload_n 3, 1) := by decide +kernel
theorem dX8_isTooNear_3 : decode cX8_isTooNear 3 = .ok (.aload_n 0, 1) := by decide +kernel
theorem dX8_isTooNear_4 : decode cX8_isTooNear 4 = .ok (.getfield 28, 3) := by decide +kernel
theorem dX8_isTooNear_7 : decode cX8_isTooNear 7 = .ok (.getfield 57, 3) := by decide +kernel
theorem dX8_isTooNear_10 : decode cX8_isTooNear 10 = .ok (.if_icmp .ge 50, 3) := by decide +kernel
theorem dX8_isTooNear_13 : decode cX8_isTooNear 13 = .ok (.aload_n 0, 1) := by decide +kernel
theorem dX8_isTooNear_14 : decode cX8_isTooNear 14 = .ok (.getfield 28, 3) := by decide +kernel
theorem dX8_isTooNear_17 : decode cX8_isTooNear 17 = .ok (.getfield 75, 3) := by decide +kernel
theorem dX8_isTooNear_20 : decode cX8_isTooNear 20 = .ok (.iload_n 3, 1) := by decide +kernel
theorem dX8_isTooNear_21 : decode cX8_isTooNear 21 = .ok (.iaload, 1) := by decide +kernel
theorem dX8_isTooNear_22 : decode cX8_isTooNear 22 = .ok (.istore 4, 2) := by decide +kernel
theorem dX8_isTooNear_24 : decode cX8_isTooNear 24 = .ok (.iload 4, 2) := by decide +kernel
theorem dX8_isTooNear_26 : decode cX8_isTooNear 26 = .ok (.iconst (-1), 1) := by decide +kernel
theorem dX8_isTooNear_27 : decode cX8_isTooNear 27 = .ok (.if_icmp .eq 27, 3) := by decide +kernel
theorem dX8_isTooNear_30 : decode cX8_isTooNear 30 = .ok (.aload_n 0, 1) := by decide +kernel
theorem dX8_isTooNear_31 : decode cX8_isTooNear 31 = .ok (.getfield 12, 3) := by decide +kernel
theorem dX8_isTooNear_34 : decode cX8_isTooNear 34 = .ok (.iload_n 2, 1) := by decide +kernel
theorem dX8_isTooNear_35 : decode cX8_isTooNear 35 = .ok (.iload 4, 2) := by decide +kernel
theorem dX8_isTooNear_37 : decode cX8_isTooNear 37 = .ok (.invokevirtual 155, 3) := by decide +kernel
theorem dX8_isTooNear_40 : decode cX8_isTooNear 40 = .ok (.aload_n 0, 1) := by decide +kernel
theorem dX8_isTooNear_41 : decode cX8_isTooNear 41 = .ok (.getfield 28, 3) := by decide +kernel
theorem dX8_isTooNear_44 : decode cX8_isTooNear 44 = .ok (.iload_n 1, 1) := by decide +kernel
theorem dX8_isTooNear_45 : decode cX8_isTooNear 45 = .ok (.iload_n 3, 1) := by decide +kernel
theorem dX8_isTooNear_46 : decode cX8_isTooNear 46 = .ok (.invokevirtual 158, 3) := by decide +kernel
theorem dX8_isTooNear_49 : decode cX8_isTooNear 49 = .ok (.if_icmp .ge 5, 3) := by decide +kernel
theorem dX8_isTooNear_52 : decode cX8_isTooNear 52 = .ok (.iconst 1, 1) := by decide +kernel
theorem dX8_isTooNear_53 : decode cX8_isTooNear 53 = .ok (.ireturn, 1) := by decide +kernel
theorem dX8_isTooNear_54 : decode cX8_isTooNear 54 = .ok (.iinc 3 1, 3) := by decide +kernel
theorem dX8_isTooNear_57 : decode cX8_isTooNear 57 = .ok (.goto (-55), 3) := by decide +kernel
theorem dX8_isTooNear_60 : decode cX8_isTooNear 60 = .ok (.iconst 0, 1) := by decide +kernel
theorem dX8_isTooNear_61 : decode cX8_isTooNear 61 = .ok (.ireturn, 1) := by decide +kernel
theorem dX8_brokenBy_0 : decode cX8_brokenBy 0 = .ok (.aload_n 0, 1) := by decide +kernel
theorem dX8_brokenBy_1 : decode cX8_brokenBy 1 = .ok (.getfield 28, 3) := by decide +kernel
theorem dX8_brokenBy_4 : decode cX8_brokenBy 4 = .ok (.getfield 75, 3) := by decide +kernel
theorem dX8_brokenBy_7 : decode cX8_brokenBy 7 = .ok (.iload_n 1, 1) := by decide +kernel
theorem dX8_brokenBy_8 : decode cX8_brokenBy 8 = .ok (.iaload, 1) := by decide +kernel
theorem dX8_brokenBy_9 : decode cX8_brokenBy 9 = .ok (.istore_n 3, 1) := by decide +kernel
theorem dX8_brokenBy_10 : decode cX8_brokenBy 10 = .ok (.iconst 0, 1) := by decide +kernel
theorem dX8_brokenBy_11 : decode cX8_brokenBy 11 = .ok (.istore 4, 2) := by decide +kernel
theorem dX8_brokenBy_13 : decode cX8_brokenBy 13 = .ok (.aload_n 0, 1) := by decide +kernel
theorem dX8_brokenBy_14 : decode cX8_brokenBy 14 = .ok (.getfield 28, 3) := by decide +kernel
theorem dX8_brokenBy_17 : decode cX8_brokenBy 17 = .ok (.getfield 83, 3) := by decide +kernel
theorem dX8_brokenBy_20 : decode cX8_brokenBy 20 = .ok (.iload_n 1, 1) := by decide +kernel
theorem dX8_brokenBy_21 : decode cX8_brokenBy 21 = .ok (.iaload, 1) := by decide +kernel
theorem dX8_brokenBy_22 : decode cX8_brokenBy 22 = .ok (.ifCond .le 14, 3) := by decide +kernel
theorem dX8_brokenBy_25 : decode cX8_brokenBy 25 = .ok (.iload_n 2, 1) := by decide +kernel
theorem dX8_brokenBy_26 : decode cX8_brokenBy 26 = .ok (.iload_n 3, 1) := by decide +kernel
theorem dX8_brokenBy_27 : decode cX8_brokenBy 27 = .ok (.if_icmp .eq 9, 3) := by decide +kernel
theorem dX8_brokenBy_30 : decode cX8_brokenBy 30 = .ok (.iload 4, 2) := by decide +kernel
theorem dX8_brokenBy_32 : decode cX8_brokenBy 32 = .ok (.iconst 1, 1) := by decide +kernel
theorem dX8_brokenBy_33 : decode cX8_brokenBy 33 = .ok (.ior, 1) := by decide +kernel
theorem dX8_brokenBy_34 : decode cX8_brokenBy 34 = .ok (.istore 4, 2) := by decide +kernel
theorem dX8_brokenBy_36 : decode cX8_brokenBy 36 = .ok (.aload_n 0, 1) := by decide +kernel
theorem dX8_brokenBy_37 : decode cX8_brokenBy 37 = .ok (.getfield 12, 3) := by decide +kernel
theorem dX8_brokenBy_40 : decode cX8_brokenBy 40 = .ok (.iload_n 3, 1) := by decide +kernel
theorem dX8_brokenBy_41 : decode cX8_brokenBy 41 = .ok (.aload_n 0, 1) := by decide +kernel
theorem dX8_brokenBy_42 : decode cX8_brokenBy 42 = .ok (.getfield 28, 3) := by decide +kernel
theorem dX8_brokenBy_45 : decode cX8_brokenBy 45 = .ok (.getfield 161, 3) := by decide +kernel
theorem dX8_brokenBy_48 : decode cX8_brokenBy 48 = .ok (.iload_n 1, 1) := by decide +kernel
theorem dX8_brokenBy_49 : decode cX8_brokenBy 49 = .ok (.iaload, 1) := by decide +kernel
theorem dX8_brokenBy_50 : decode cX8_brokenBy 50 = .ok (.invokevirtual 164, 3) := by decide +kernel
theorem dX8_brokenBy_53 : decode cX8_brokenBy 53 = .ok (.ifCond .eq 29, 3) := by decide +kernel
theorem dX8_brokenBy_56 : decode cX8_brokenBy 56 = .ok (.aload_n 0, 1) := by decide +kernel
theorem dX8_brokenBy_57 : decode cX8_brokenBy 57 = .ok (.getfield 12, 3) := by decide +kernel
theorem dX8_brokenBy_60 : decode cX8_brokenBy 60 = .ok (.iload_n 2, 1) := by decide +kernel
theorem dX8_brokenBy_61 : decode cX8_brokenBy 61 = .ok (.aload_n 0, 1) := by decide +kernel
theorem dX8_brokenBy_62 : decode cX8_brokenBy 62 = .ok (.getfield 28, 3) := by decide +kernel
theorem dX8_brokenBy_65 : decode cX8_brokenBy 65 = .ok (.getfield 161, 3) := by decide +kernel
theorem dX8_brokenBy_68 : decode cX8_brokenBy 68 = .ok (.iload_n 1, 1) := by decide +kernel
theorem dX8_brokenBy_69 : decode cX8_brokenBy 69 = .ok (.iaload, 1) := by decide +kernel
theorem dX8_brokenBy_70 : decode cX8_brokenBy 70 = .ok (.invokevirtual 164, 3) := by decide +kernel
theorem dX8_brokenBy_73 : decode cX8_brokenBy 73 = .ok (.ifCond .ne 9, 3) := by decide +kernel
theorem dX8_brokenBy_76 : decode cX8_brokenBy 76 = .ok (.iload 4, 2) := by decide +kernel
theorem dX8_brokenBy_78 : decode cX8_brokenBy 78 = .ok (.iconst 2, 1) := by decide +kernel
theorem dX8_brokenBy_79 : decode cX8_brokenBy 79 = .ok (.ior, 1) := by decide +kernel
theorem dX8_brokenBy_80 : decode cX8_brokenBy 80 = .ok (.istore 4, 2) := by decide +kernel
theorem dX8_brokenBy_82 : decode cX8_brokenBy 82 = .ok (.iload 4, 2) := by decide +kernel
theorem dX8_brokenBy_84 : decode cX8_brokenBy 84 = .ok (.ireturn, 1) := by decide +kernel
theorem dX8_aheadOf_0 : decode cX8_aheadOf 0 = .ok (.aload_n 0, 1) := by decide +kernel
theorem dX8_aheadOf_1 : decode cX8_aheadOf 1 = .ok (.iconst 0, 1) := by decide +kernel
theorem dX8_aheadOf_2 : decode cX8_aheadOf 2 = .ok (.iload_n 1, 1) := by decide +kernel
theorem dX8_aheadOf_3 : decode cX8_aheadOf 3 = .ok (.iconst (-1), 1) := by decide +kernel
theorem dX8_aheadOf_4 : decode cX8_aheadOf 4 = .ok (.iconst (-1), 1) := by decide +kernel
theorem dX8_aheadOf_5 : decode cX8_aheadOf 5 = .ok (.iconst 0, 1) := by decide +kernel
theorem dX8_aheadOf_6 : decode cX8_aheadOf 6 = .ok (.invokevirtual 144, 3) := by decide +kernel
theorem dX8_aheadOf_9 : decode cX8_aheadOf 9 = .ok (.ireturn, 1) := by decide +kernel
theorem dX8_limitOf_0 : decode cX8_limitOf 0 = .ok (.aload_n 0, 1) := by decide +kernel
theorem dX8_limitOf_1 : decode cX8_limitOf 1 = .ok (.iconst 2, 1) := by decide +kernel
theorem dX8_limitOf_2 : decode cX8_limitOf 2 = .ok (.iload_n 1, 1) := by decide +kernel
theorem dX8_limitOf_3 : decode cX8_limitOf 3 = .ok (.iconst (-1), 1) := by decide +kernel
theorem dX8_limitOf_4 : decode cX8_limitOf 4 = .ok (.iconst (-1), 1) := by decide +kernel
theorem dX8_limitOf_5 : decode cX8_limitOf 5 = .ok (.iconst 0, 1) := by decide +kernel
theorem dX8_limitOf_6 : decode cX8_limitOf 6 = .ok (.invokevirtual 144, 3) := by decide +kernel
theorem dX8_limitOf_9 : decode cX8_limitOf 9 = .ok (.ireturn, 1) := by decide +kernel
theorem dX8_lackOf_0 : decode cX8_lackOf 0 = .ok (.aload_n 0, 1) := by decide +kernel
theorem dX8_lackOf_1 : decode cX8_lackOf 1 = .ok (.iconst 1, 1) := by decide +kernel
theorem dX8_lackOf_2 : decode cX8_lackOf 2 = .ok (.iconst (-1), 1) := by decide +kernel
theorem dX8_lackOf_3 : decode cX8_lackOf 3 = .ok (.iconst (-1), 1) := by decide +kernel
theorem dX8_lackOf_4 : decode cX8_lackOf 4 = .ok (.iload_n 1, 1) := by decide +kernel
theorem dX8_lackOf_5 : decode cX8_lackOf 5 = .ok (.iconst 0, 1) := by decide +kernel
theorem dX8_lackOf_6 : decode cX8_lackOf 6 = .ok (.invokevirtual 144, 3) := by decide +kernel
theorem dX8_lackOf_9 : decode cX8_lackOf 9 = .ok (.aload_n 0, 1) := by decide +kernel
theorem dX8_lackOf_10 : decode cX8_lackOf 10 = .ok (.getfield 12, 3) := by decide +kernel
theorem dX8_lackOf_13 : decode cX8_lackOf 13 = .ok (.getfield 79, 3) := by decide +kernel
theorem dX8_lackOf_16 : decode cX8_lackOf 16 = .ok (.iload_n 1, 1) := by decide +kernel
theorem dX8_lackOf_17 : decode cX8_lackOf 17 = .ok (.iaload, 1) := by decide +kernel
theorem dX8_lackOf_18 : decode cX8_lackOf 18 = .ok (.isub, 1) := by decide +kernel
theorem dX8_lackOf_19 : decode cX8_lackOf 19 = .ok (.ireturn, 1) := by decide +kernel
theorem dX8_sumOf_0 : decode cX8_sumOf 0 = .ok (.iconst 0, 1) := by decide +kernel
theorem dX8_sumOf_1 : decode cX8_sumOf 1 = .ok (.istore_n 2, 1) := by decide +kernel
theorem dX8_sumOf_2 : decode cX8_sumOf 2 = .ok (.iconst 0, 1) := by decide +kernel
theorem dX8_sumOf_3 : decode cX8_sumOf 3 = .ok (.istore_n 3, 1) := by decide +kernel
theorem dX8_sumOf_4 : decode cX8_sumOf 4 = .ok (.iload_n 3, 1) := by decide +kernel
theorem dX8_sumOf_5 : decode cX8_sumOf 5 = .ok (.aload_n 0, 1) := by decide +kernel
theorem dX8_sumOf_6 : decode cX8_sumOf 6 = .ok (.getfield 28, 3) := by decide +kernel
theorem dX8_sumOf_9 : decode cX8_sumOf 9 = .ok (.getfield 57, 3) := by decide +kernel
theorem dX8_sumOf_12 : decode cX8_sumOf 12 = .ok (.if_icmp .ge 55, 3) := by decide +kernel
theorem dX8_sumOf_15 : decode cX8_sumOf 15 = .ok (.aload_n 0, 1) := by decide +kernel
theorem dX8_sumOf_16 : decode cX8_sumOf 16 = .ok (.getfield 28, 3) := by decide +kernel
theorem dX8_sumOf_19 : decode cX8_sumOf 19 = .ok (.getfield 75, 3) := by decide +kernel
theorem dX8_sumOf_22 : decode cX8_sumOf 22 = .ok (.iload_n 3, 1) := by decide +kernel
theorem dX8_sumOf_23 : decode cX8_sumOf 23 = .ok (.iaload, 1) := by decide +kernel
theorem dX8_sumOf_24 : decode cX8_sumOf 24 = .ok (.iload_n 1, 1) := by decide +kernel
theorem dX8_sumOf_25 : decode cX8_sumOf 25 = .ok (.if_icmp .ne 36, 3) := by decide +kernel
theorem dX8_sumOf_28 : decode cX8_sumOf 28 = .ok (.aload_n 0, 1) := by decide +kernel
theorem dX8_sumOf_29 : decode cX8_sumOf 29 = .ok (.iconst 3, 1) := by decide +kernel
theorem dX8_sumOf_30 : decode cX8_sumOf 30 = .ok (.iload_n 3, 1) := by decide +kernel
theorem dX8_sumOf_31 : decode cX8_sumOf 31 = .ok (.aload_n 0, 1) := by decide +kernel
theorem dX8_sumOf_32 : decode cX8_sumOf 32 = .ok (.getfield 28, 3) := by decide +kernel
theorem dX8_sumOf_35 : decode cX8_sumOf 35 = .ok (.getfield 72, 3) := by decide +kernel
theorem dX8_sumOf_38 : decode cX8_sumOf 38 = .ok (.iload_n 3, 1) := by decide +kernel
theorem dX8_sumOf_39 : decode cX8_sumOf 39 = .ok (.iaload, 1) := by decide +kernel
theorem dX8_sumOf_40 : decode cX8_sumOf 40 = .ok (.iconst (-1), 1) := by decide +kernel
theorem dX8_sumOf_41 : decode cX8_sumOf 41 = .ok (.iconst 0, 1) := by decide +kernel
theorem dX8_sumOf_42 : decode cX8_sumOf 42 = .ok (.invokevirtual 144, 3) := by decide +kernel
theorem dX8_sumOf_45 : decode cX8_sumOf 45 = .ok (.istore 4, 2) := by decide +kernel
theorem dX8_sumOf_47 : decode cX8_sumOf 47 = .ok (.iload_n 2, 1) := by decide +kernel
theorem dX8_sumOf_48 : decode cX8_sumOf 48 = .ok (.iconst 0, 1) := by decide +kernel
theorem dX8_sumOf_49 : decode cX8_sumOf 49 = .ok (.ldc 167, 2) := by decide +kernel
theorem dX8_sumOf_51 : decode cX8_sumOf 51 = .ok (.iload 4, 2) := by decide +kernel
theorem dX8_sumOf_53 : decode cX8_sumOf 53 = .ok (.invokestatic 168, 3) := by decide +kernel
theorem dX8_sumOf_56 : decode cX8_sumOf 56 = .ok (.invokestatic 173, 3) := by decide +kernel
theorem dX8_sumOf_59 : decode cX8_sumOf 59 = .ok (.iadd, 1) := by decide +kernel
theorem dX8_sumOf_60 : decode cX8_sumOf 60 = .ok (.istore_n 2, 1) := by decide +kernel
theorem dX8_sumOf_61 : decode cX8_sumOf 61 = .ok (.iinc 3 1, 3) := by decide +kernel
theorem dX8_sumOf_64 : decode cX8_sumOf 64 = .ok (.goto (-60), 3) := by decide +kernel
theorem dX8_sumOf_67 : decode cX8_sumOf 67 = .ok (.iload_n 2, 1) := by decide +kernel
theorem dX8_sumOf_68 : decode cX8_sumOf 68 = .ok (.ireturn, 1) := by decide +kernel
theorem dX8_canAsk_0 : decode cX8_canAsk 0 = .ok (.aload_n 0, 1) := by decide +kernel
theorem dX8_canAsk_1 : decode cX8_canAsk 1 = .ok (.getfield 28, 3) := by decide +kernel
theorem dX8_canAsk_4 : decode cX8_canAsk 4 = .ok (.iload_n 1, 1) := by decide +kernel
theorem dX8_canAsk_5 : decode cX8_canAsk 5 = .ok (.invokevirtual 50, 3) := by decide +kernel
theorem dX8_canAsk_8 : decode cX8_canAsk 8 = .ok (.ifCond .ne 23, 3) := by decide +kernel
theorem dX8_canAsk_11 : decode cX8_canAsk 11 = .ok (.iload_n 1, 1) := by decide +kernel
theorem dX8_canAsk_12 : decode cX8_canAsk 12 = .ok (.bipush 100, 2) := by decide +kernel
theorem dX8_canAsk_14 : decode cX8_canAsk 14 = .ok (.if_icmp .lt 21, 3) := by decide +kernel
theorem dX8_canAsk_17 : decode cX8_canAsk 17 = .ok (.aload_n 0, 1) := by decide +kernel
theorem dX8_canAsk_18 : decode cX8_canAsk 18 = .ok (.getfield 12, 3) := by decide +kernel
theorem dX8_canAsk_21 : decode cX8_canAsk 21 = .ok (.iload_n 1, 1) := by decide +kernel
theorem dX8_canAsk_22 : decode cX8_canAsk 22 = .ok (.bipush 100, 2) := by decide +kernel
theorem dX8_canAsk_24 : decode cX8_canAsk 24 = .ok (.isub, 1) := by decide +kernel
theorem dX8_canAsk_25 : decode cX8_canAsk 25 = .ok (.invokevirtual 176, 3) := by decide +kernel
theorem dX8_canAsk_28 : decode cX8_canAsk 28 = .ok (.ifCond .eq 7, 3) := by decide +kernel
theorem dX8_canAsk_31 : decode cX8_canAsk 31 = .ok (.iconst 1, 1) := by decide +kernel
theorem dX8_canAsk_32 : decode cX8_canAsk 32 = .ok (.goto 4, 3) := by decide +kernel
theorem dX8_canAsk_35 : decode cX8_canAsk 35 = .ok (.iconst 0, 1) := by decide +kernel
theorem dX8_canAsk_36 : decode cX8_canAsk 36 = .ok (.ireturn, 1) := by decide +kernel
theorem dX8_isShown_0 : decode cX8_isShown 0 = .ok (.iload_n 1, 1) := by decide +kernel
theorem dX8_isShown_1 : decode cX8_isShown 1 = .ok (.bipush 100, 2) := by decide +kernel
theorem dX8_isShown_3 : decode cX8_isShown 3 = .ok (.if_icmp .lt 23, 3) := by decide +kernel
theorem dX8_isShown_6 : decode cX8_isShown 6 = .ok (.aload_n 0, 1) := by decide +kernel
theorem dX8_isShown_7 : decode cX8_isShown 7 = .ok (.getfield 28, 3) := by decide +kernel
theorem dX8_isShown_10 : decode cX8_isShown 10 = .ok (.getfield 75, 3) := by decide +kernel
theorem dX8_isShown_13 : decode cX8_isShown 13 = .ok (.iload_n 2, 1) := by decide +kernel
theorem dX8_isShown_14 : decode cX8_isShown 14 = .ok (.iaload, 1) := by decide +kernel
theorem dX8_isShown_15 : decode cX8_isShown 15 = .ok (.iload_n 1, 1) := by decide +kernel
theorem dX8_isShown_16 : decode cX8_isShown 16 = .ok (.bipush 100, 2) := by decide +kernel
theorem dX8_isShown_18 : decode cX8_isShown 18 = .ok (.isub, 1) := by decide +kernel
theorem dX8_isShown_19 : decode cX8_isShown 19 = .ok (.if_icmp .ne 7, 3) := by decide +kernel
theorem dX8_isShown_22 : decode cX8_isShown 22 = .ok (.iconst 1, 1) := by decide +kernel
theorem dX8_isShown_23 : decode cX8_isShown 23 = .ok (.goto 4, 3) := by decide +kernel
theorem dX8_isShown_26 : decode cX8_isShown 26 = .ok (.iconst 0, 1) := by decide +kernel
theorem dX8_isShown_27 : decode cX8_isShown 27 = .ok (.istore_n 3, 1) := by decide +kernel
theorem dX8_isShown_28 : decode cX8_isShown 28 = .ok (.iload_n 3, 1) := by decide +kernel
theorem dX8_isShown_29 : decode cX8_isShown 29 = .ok (.ifCond .ne 25, 3) := by decide +kernel
theorem dX8_isShown_32 : decode cX8_isShown 32 = .ok (.aload_n 0, 1) := by decide +kernel
theorem dX8_isShown_33 : decode cX8_isShown 33 = .ok (.iconst 5, 1) := by decide +kernel
theorem dX8_isShown_34 : decode cX8_isShown 34 = .ok (.iload_n 2, 1) := by decide +kernel
theorem dX8_isShown_35 : decode cX8_isShown 35 = .ok (.iconst (-1), 1) := by decide +kernel
theorem dX8_isShown_36 : decode cX8_isShown 36 = .ok (.iconst (-1), 1) := by decide +kernel
theorem dX8_isShown_37 : decode cX8_isShown 37 = .ok (.iload_n 1, 1) := by decide +kernel
theorem dX8_isShown_38 : decode cX8_isShown 38 = .ok (.iload_n 2, 1) := by decide +kernel
theorem dX8_isShown_39 : decode cX8_isShown 39 = .ok (.if_icmp .ne 7, 3) := by decide +kernel
theorem dX8_isShown_42 : decode cX8_isShown 42 = .ok (.iconst 1, 1) := by decide +kernel
theorem dX8_isShown_43 : decode cX8_isShown 43 = .ok (.goto 4, 3) := by decide +kernel
theorem dX8_isShown_46 : decode cX8_isShown 46 = .ok (.iconst 0, 1) := by decide +kernel
theorem dX8_isShown_47 : decode cX8_isShown 47 = .ok (.invokevirtual 144, 3) := by decide +kernel
theorem dX8_isShown_50 : decode cX8_isShown 50 = .ok (.iconst 1, 1) := by decide +kernel
theorem dX8_isShown_51 : decode cX8_isShown 51 = .ok (.if_icmp .ne 7, 3) := by decide +kernel
theorem dX8_isShown_54 : decode cX8_isShown 54 = .ok (.iconst 1, 1) := by decide +kernel
theorem dX8_isShown_55 : decode cX8_isShown 55 = .ok (.goto 4, 3) := by decide +kernel
theorem dX8_isShown_58 : decode cX8_isShown 58 = .ok (.iconst 0, 1) := by decide +kernel
theorem dX8_isShown_59 : decode cX8_isShown 59 = .ok (.ireturn, 1) := by decide +kernel
theorem dX8_tells_0 : decode cX8_tells 0 = .ok (.aload_n 0, 1) := by decide +kernel
theorem dX8_tells_1 : decode cX8_tells 1 = .ok (.getfield 42, 3) := by decide +kernel
theorem dX8_tells_4 : decode cX8_tells 4 = .ok (.iload_n 1, 1) := by decide +kernel
theorem dX8_tells_5 : decode cX8_tells 5 = .ok (.aload_n 0, 1) := by decide +kernel
theorem dX8_tells_6 : decode cX8_tells 6 = .ok (.getfield 91, 3) := by decide +kernel
theorem dX8_tells_9 : decode cX8_tells 9 = .ok (.invokevirtual 177, 3) := by decide +kernel
theorem dX8_tells_12 : decode cX8_tells 12 = .ok (.istore 6, 2) := by decide +kernel
theorem dX8_tells_14 : decode cX8_tells 14 = .ok (.iload 6, 2) := by decide +kernel
theorem dX8_tells_16 : decode cX8_tells 16 = .ok (.iconst (-1), 1) := by decide +kernel
theorem dX8_tells_17 : decode cX8_tells 17 = .ok (.if_icmp .ne 8, 3) := by decide +kernel
theorem dX8_tells_20 : decode cX8_tells 20 = .ok (.iload_n 1, 1) := by decide +kernel
theorem dX8_tells_21 : decode cX8_tells 21 = .ok (.invokestatic 180, 3) := by decide +kernel
theorem dX8_tells_24 : decode cX8_tells 24 = .ok (.ireturn, 1) := by decide +kernel
theorem dX8_tells_25 : decode cX8_tells 25 = .ok (.iconst 0, 1) := by decide +kernel
theorem dX8_tells_26 : decode cX8_tells 26 = .ok (.istore 7, 2) := by decide +kernel
theorem dX8_tells_28 : decode cX8_tells 28 = .ok (.iload 7, 2) := by decide +kernel
theorem dX8_tells_30 : decode cX8_tells 30 = .ok (.bipush 18, 2) := by decide +kernel
theorem dX8_tells_32 : decode cX8_tells 32 = .ok (.if_icmp .ge 17, 3) := by decide +kernel
theorem dX8_tells_35 : decode cX8_tells 35 = .ok (.aload_n 0, 1) := by decide +kernel
theorem dX8_tells_36 : decode cX8_tells 36 = .ok (.getfield 46, 3) := by decide +kernel
theorem dX8_tells_39 : decode cX8_tells 39 = .ok (.iload 7, 2) := by decide +kernel
theorem dX8_tells_41 : decode cX8_tells 41 = .ok (.iconst 0, 1) := by decide +kernel
theorem dX8_tells_42 : decode cX8_tells 42 = .ok (.iastore, 1) := by decide +kernel
theorem dX8_tells_43 : decode cX8_tells 43 = .ok (.iinc 7 1, 3) := by decide +kernel
theorem dX8_tells_46 : decode cX8_tells 46 = .ok (.goto (-18), 3) := by decide +kernel
theorem dX8_tells_49 : decode cX8_tells 49 = .ok (.aload_n 0, 1) := by decide +kernel
theorem dX8_tells_50 : decode cX8_tells 50 = .ok (.getfield 46, 3) := by decide +kernel
theorem dX8_tells_53 : decode cX8_tells 53 = .ok (.bipush 14, 2) := by decide +kernel
theorem dX8_tells_55 : decode cX8_tells 55 = .ok (.aload_n 0, 1) := by decide +kernel
theorem dX8_tells_56 : decode cX8_tells 56 = .ok (.getfield 183, 3) := by decide +kernel
theorem dX8_tells_59 : decode cX8_tells 59 = .ok (.iastore, 1) := by decide +kernel
theorem dX8_tells_60 : decode cX8_tells 60 = .ok (.aload_n 0, 1) := by decide +kernel
theorem dX8_tells_61 : decode cX8_tells 61 = .ok (.getfield 46, 3) := by decide +kernel
theorem dX8_tells_64 : decode cX8_tells 64 = .ok (.bipush 16, 2) := by decide +kernel
theorem dX8_tells_66 : decode cX8_tells 66 = .ok (.aload_n 0, 1) := by decide +kernel
theorem dX8_tells_67 : decode cX8_tells 67 = .ok (.getfield 91, 3) := by decide +kernel
theorem dX8_tells_70 : decode cX8_tells 70 = .ok (.iastore, 1) := by decide +kernel
theorem dX8_tells_71 : decode cX8_tells 71 = .ok (.aload_n 0, 1) := by decide +kernel
theorem dX8_tells_72 : decode cX8_tells 72 = .ok (.getfield 46, 3) := by decide +kernel
theorem dX8_tells_75 : decode cX8_tells 75 = .ok (.bipush 17, 2) := by decide +kernel
theorem dX8_tells_77 : decode cX8_tells 77 = .ok (.iload 5, 2) := by decide +kernel
theorem dX8_tells_79 : decode cX8_tells 79 = .ok (.iastore, 1) := by decide +kernel
theorem dX8_tells_80 : decode cX8_tells 80 = .ok (.aload_n 0, 1) := by decide +kernel
theorem dX8_tells_81 : decode cX8_tells 81 = .ok (.getfield 28, 3) := by decide +kernel
theorem dX8_tells_84 : decode cX8_tells 84 = .ok (.iload_n 2, 1) := by decide +kernel
theorem dX8_tells_85 : decode cX8_tells 85 = .ok (.invokevirtual 50, 3) := by decide +kernel
theorem dX8_tells_88 : decode cX8_tells 88 = .ok (.ifCond .eq 28, 3) := by decide +kernel
theorem dX8_tells_91 : decode cX8_tells 91 = .ok (.aload_n 0, 1) := by decide +kernel
theorem dX8_tells_92 : decode cX8_tells 92 = .ok (.iload_n 2, 1) := by decide +kernel
theorem dX8_tells_93 : decode cX8_tells 93 = .ok (.invokevirtual 186, 3) := by decide +kernel
theorem dX8_tells_96 : decode cX8_tells 96 = .ok (.aload_n 0, 1) := by decide +kernel
theorem dX8_tells_97 : decode cX8_tells 97 = .ok (.getfield 21, 3) := by decide +kernel
theorem dX8_tells_100 : decode cX8_tells 100 = .ok (.iload_n 3, 1) := by decide +kernel
theorem dX8_tells_101 : decode cX8_tells 101 = .ok (.invokevirtual 68, 3) := by decide +kernel
theorem dX8_tells_104 : decode cX8_tells 104 = .ok (.ifCond .eq 69, 3) := by decide +kernel
theorem dX8_tells_107 : decode cX8_tells 107 = .ok (.aload_n 0, 1) := by decide +kernel
theorem dX8_tells_108 : decode cX8_tells 108 = .ok (.iload_n 2, 1) := by decide +kernel
theorem dX8_tells_109 : decode cX8_tells 109 = .ok (.iload_n 3, 1) := by decide +kernel
theorem dX8_tells_110 : decode cX8_tells 110 = .ok (.invokevirtual 189, 3) := by decide +kernel
theorem dX8_tells_113 : decode cX8_tells 113 = .ok (.goto 60, 3) := by decide +kernel
theorem dX8_tells_116 : decode cX8_tells 116 = .ok (.aload_n 0, 1) := by decide +kernel
theorem dX8_tells_117 : decode cX8_tells 117 = .ok (.getfield 12, 3) := by decide +kernel
theorem dX8_tells_120 : decode cX8_tells 120 = .ok (.iload 4, 2) := by decide +kernel
theorem dX8_tells_122 : decode cX8_tells 122 = .ok (.invokevirtual 176, 3) := by decide +kernel
theorem dX8_tells_125 : decode cX8_tells 125 = .ok (.ifCond .eq 48, 3) := by decide +kernel
theorem dX8_tells_128 : decode cX8_tells 128 = .ok (.aload_n 0, 1) := by decide +kernel
theorem dX8_tells_129 : decode cX8_tells 129 = .ok (.getfield 46, 3) := by decide +kernel
theorem dX8_tells_132 : decode cX8_tells 132 = .ok (.bipush 12, 2) := by decide +kernel
theorem dX8_tells_134 : decode cX8_tells 134 = .ok (.aload_n 0, 1) := by decide +kernel
theorem dX8_tells_135 : decode cX8_tells 135 = .ok (.getfield 12, 3) := by decide +kernel
theorem dX8_tells_138 : decode cX8_tells 138 = .ok (.getfield 113, 3) := by decide +kernel
theorem dX8_tells_141 : decode cX8_tells 141 = .ok (.iload 4, 2) := by decide +kernel
theorem dX8_tells_143 : decode cX8_tells 143 = .ok (.iaload, 1) := by decide +kernel
theorem dX8_tells_144 : decode cX8_tells 144 = .ok (.aload_n 0, 1) := by decide +kernel
theorem dX8_tells_145 : decode cX8_tells 145 = .ok (.getfield 12, 3) := by decide +kernel
theorem dX8_tells_148 : decode cX8_tells 148 = .ok (.getfield 80, 3) := by decide +kernel
theorem dX8_tells_151 : decode cX8_tells 151 = .ok (.iload 4, 2) := by decide +kernel
theorem dX8_tells_153 : decode cX8_tells 153 = .ok (.iaload, 1) := by decide +kernel
theorem dX8_tells_154 : decode cX8_tells 154 = .ok (.isub, 1) := by decide +kernel
theorem dX8_tells_155 : decode cX8_tells 155 = .ok (.iastore, 1) := by decide +kernel
theorem dX8_tells_156 : decode cX8_tells 156 = .ok (.aload_n 0, 1) := by decide +kernel
theorem dX8_tells_157 : decode cX8_tells 157 = .ok (.getfield 46, 3) := by decide +kernel
theorem dX8_tells_160 : decode cX8_tells 160 = .ok (.bipush 15, 2) := by decide +kernel
theorem dX8_tells_162 : decode cX8_tells 162 = .ok (.aload_n 0, 1) := by decide +kernel
theorem dX8_tells_163 : decode cX8_tells 163 = .ok (.getfield 12, 3) := by decide +kernel
theorem dX8_tells_166 : decode cX8_tells 166 = .ok (.getfield 193, 3) := by decide +kernel
theorem dX8_tells_169 : decode cX8_tells 169 = .ok (.iload 4, 2) := by decide +kernel
theorem dX8_tells_171 : decode cX8_tells 171 = .ok (.iaload, 1) := by decide +kernel
theorem dX8_tells_172 : decode cX8_tells 172 = .ok (.iastore, 1) := by decide +kernel
theorem dX8_tells_173 : decode cX8_tells 173 = .ok (.aload_n 0, 1) := by decide +kernel
theorem dX8_tells_174 : decode cX8_tells 174 = .ok (.getfield 42, 3) := by decide +kernel
theorem dX8_tells_177 : decode cX8_tells 177 = .ok (.iload 6, 2) := by decide +kernel
theorem dX8_tells_179 : decode cX8_tells 179 = .ok (.iload_n 1, 1) := by decide +kernel
theorem dX8_tells_180 : decode cX8_tells 180 = .ok (.aload_n 0, 1) := by decide +kernel
theorem dX8_tells_181 : decode cX8_tells 181 = .ok (.getfield 46, 3) := by decide +kernel
theorem dX8_tells_184 : decode cX8_tells 184 = .ok (.invokevirtual 194, 3) := by decide +kernel
theorem dX8_tells_187 : decode cX8_tells 187 = .ok (.ireturn, 1) := by decide +kernel
theorem dX8_nameFamily_0 : decode cX8_nameFamily 0 = .ok (.aload_n 0, 1) := by decide +kernel
theorem dX8_nameFamily_1 : decode cX8_nameFamily 1 = .ok (.getfield 46, 3) := by decide +kernel
theorem dX8_nameFamily_4 : decode cX8_nameFamily 4 = .ok (.iconst 0, 1) := by decide +kernel
theorem dX8_nameFamily_5 : decode cX8_nameFamily 5 = .ok (.aload_n 0, 1) := by decide +kernel
theorem dX8_nameFamily_6 : decode cX8_nameFamily 6 = .ok (.getfield 28, 3) := by decide +kernel
theorem dX8_nameFamily_9 : decode cX8_nameFamily 9 = .ok (.getfield 61, 3) := by decide +kernel
theorem dX8_nameFamily_12 : decode cX8_nameFamily 12 = .ok (.iload_n 1, 1) := by decide +kernel
theorem dX8_nameFamily_13 : decode cX8_nameFamily 13 = .ok (.iaload, 1) := by decide +kernel
theorem dX8_nameFamily_14 : decode cX8_nameFamily 14 = .ok (.iastore, 1) := by decide +kernel
theorem dX8_nameFamily_15 : decode cX8_nameFamily 15 = .ok (.aload_n 0, 1) := by decide +kernel
theorem dX8_nameFamily_16 : decode cX8_nameFamily 16 = .ok (.getfield 46, 3) := by decide +kernel
theorem dX8_nameFamily_19 : decode cX8_nameFamily 19 = .ok (.iconst 1, 1) := by decide +kernel
theorem dX8_nameFamily_20 : decode cX8_nameFamily 20 = .ok (.aload_n 0, 1) := by decide +kernel
theorem dX8_nameFamily_21 : decode cX8_nameFamily 21 = .ok (.getfield 28, 3) := by decide +kernel
theorem dX8_nameFamily_24 : decode cX8_nameFamily 24 = .ok (.getfield 83, 3) := by decide +kernel
theorem dX8_nameFamily_27 : decode cX8_nameFamily 27 = .ok (.iload_n 1, 1) := by decide +kernel
theorem dX8_nameFamily_28 : decode cX8_nameFamily 28 = .ok (.iaload, 1) := by decide +kernel
theorem dX8_nameFamily_29 : decode cX8_nameFamily 29 = .ok (.iastore, 1) := by decide +kernel
theorem dX8_nameFamily_30 : decode cX8_nameFamily 30 = .ok (.aload_n 0, 1) := by decide +kernel
theorem dX8_nameFamily_31 : decode cX8_nameFamily 31 = .ok (.getfield 46, 3) := by decide +kernel
theorem dX8_nameFamily_34 : decode cX8_nameFamily 34 = .ok (.iconst 2, 1) := by decide +kernel
theorem dX8_nameFamily_35 : decode cX8_nameFamily 35 = .ok (.aload_n 0, 1) := by decide +kernel
theorem dX8_nameFamily_36 : decode cX8_nameFamily 36 = .ok (.getfield 28, 3) := by decide +kernel
theorem dX8_nameFamily_39 : decode cX8_nameFamily 39 = .ok (.getfield 125, 3) := by decide +kernel
theorem dX8_nameFamily_42 : decode cX8_nameFamily 42 = .ok (.iload_n 1, 1) := by decide +kernel
theorem dX8_nameFamily_43 : decode cX8_nameFamily 43 = .ok (.iaload, 1) := by decide +kernel
theorem dX8_nameFamily_44 : decode cX8_nameFamily 44 = .ok (.iastore, 1) := by decide +kernel
theorem dX8_nameFamily_45 : decode cX8_nameFamily 45 = .ok (.aload_n 0, 1) := by decide +kernel
theorem dX8_nameFamily_46 : decode cX8_nameFamily 46 = .ok (.getfield 46, 3) := by decide +kernel
theorem dX8_nameFamily_49 : decode cX8_nameFamily 49 = .ok (.iconst 3, 1) := by decide +kernel
theorem dX8_nameFamily_50 : decode cX8_nameFamily 50 = .ok (.aload_n 0, 1) := by decide +kernel
theorem dX8_nameFamily_51 : decode cX8_nameFamily 51 = .ok (.getfield 28, 3) := by decide +kernel
theorem dX8_nameFamily_54 : decode cX8_nameFamily 54 = .ok (.getfield 134, 3) := by decide +kernel
theorem dX8_nameFamily_57 : decode cX8_nameFamily 57 = .ok (.iload_n 1, 1) := by decide +kernel
theorem dX8_nameFamily_58 : decode cX8_nameFamily 58 = .ok (.iaload, 1) := by decide +kernel
theorem dX8_nameFamily_59 : decode cX8_nameFamily 59 = .ok (.iastore, 1) := by decide +kernel
theorem dX8_nameFamily_60 : decode cX8_nameFamily 60 = .ok (.aload_n 0, 1) := by decide +kernel
theorem dX8_nameFamily_61 : decode cX8_nameFamily 61 = .ok (.getfield 46, 3) := by decide +kernel
theorem dX8_nameFamily_64 : decode cX8_nameFamily 64 = .ok (.iconst 4, 1) := by decide +kernel
theorem dX8_nameFamily_65 : decode cX8_nameFamily 65 = .ok (.aload_n 0, 1) := by decide +kernel
theorem dX8_nameFamily_66 : decode cX8_nameFamily 66 = .ok (.getfield 28, 3) := by decide +kernel
theorem dX8_nameFamily_69 : decode cX8_nameFamily 69 = .ok (.getfield 161, 3) := by decide +kernel
theorem dX8_nameFamily_72 : decode cX8_nameFamily 72 = .ok (.iload_n 1, 1) := by decide +kernel
theorem dX8_nameFamily_73 : decode cX8_nameFamily 73 = .ok (.iaload, 1) := by decide +kernel
theorem dX8_nameFamily_74 : decode cX8_nameFamily 74 = .ok (.iastore, 1) := by decide +kernel
theorem dX8_nameFamily_75 : decode cX8_nameFamily 75 = .ok (.aload_n 0, 1) := by decide +kernel
theorem dX8_nameFamily_76 : decode cX8_nameFamily 76 = .ok (.getfield 46, 3) := by decide +kernel
theorem dX8_nameFamily_79 : decode cX8_nameFamily 79 = .ok (.iconst 5, 1) := by decide +kernel
theorem dX8_nameFamily_80 : decode cX8_nameFamily 80 = .ok (.aload_n 0, 1) := by decide +kernel
theorem dX8_nameFamily_81 : decode cX8_nameFamily 81 = .ok (.getfield 28, 3) := by decide +kernel
theorem dX8_nameFamily_84 : decode cX8_nameFamily 84 = .ok (.getfield 198, 3) := by decide +kernel
theorem dX8_nameFamily_87 : decode cX8_nameFamily 87 = .ok (.iload_n 1, 1) := by decide +kernel
theorem dX8_nameFamily_88 : decode cX8_nameFamily 88 = .ok (.iaload, 1) := by decide +kernel
theorem dX8_nameFamily_89 : decode cX8_nameFamily 89 = .ok (.iastore, 1) := by decide +kernel
theorem dX8_nameFamily_90 : decode cX8_nameFamily 90 = .ok (.aload_n 0, 1) := by decide +kernel
theorem dX8_nameFamily_91 : decode cX8_nameFamily 91 = .ok (.getfield 46, 3) := by decide +kernel
theorem dX8_nameFamily_94 : decode cX8_nameFamily 94 = .ok (.bipush 6, 2) := by decide +kernel
theorem dX8_nameFamily_96 : decode cX8_nameFamily 96 = .ok (.aload_n 0, 1) := by decide +kernel
theorem dX8_nameFamily_97 : decode cX8_nameFamily 97 = .ok (.getfield 28, 3) := by decide +kernel
theorem dX8_nameFamily_100 : decode cX8_nameFamily 100 = .ok (.getfield 98, 3) := by decide +kernel
theorem dX8_nameFamily_103 : decode cX8_nameFamily 103 = .ok (.iload_n 1, 1) := by decide +kernel
theorem dX8_nameFamily_104 : decode cX8_nameFamily 104 = .ok (.iaload, 1) := by decide +kernel
theorem dX8_nameFamily_105 : decode cX8_nameFamily 105 = .ok (.iastore, 1) := by decide +kernel
theorem dX8_nameFamily_106 : decode cX8_nameFamily 106 = .ok (.return_, 1) := by decide +kernel
theorem dX8_nameHome_0 : decode cX8_nameHome 0 = .ok (.aload_n 0, 1) := by decide +kernel
theorem dX8_nameHome_1 : decode cX8_nameHome 1 = .ok (.getfield 21, 3) := by decide +kernel
theorem dX8_nameHome_4 : decode cX8_nameHome 4 = .ok (.getfield 69, 3) := by decide +kernel
theorem dX8_nameHome_7 : decode cX8_nameHome 7 = .ok (.iload_n 2, 1) := by decide +kernel
theorem dX8_nameHome_8 : decode cX8_nameHome 8 = .ok (.iaload, 1) := by decide +kernel
theorem dX8_nameHome_9 : decode cX8_nameHome 9 = .ok (.istore_n 3, 1) := by decide +kernel
theorem dX8_nameHome_10 : decode cX8_nameHome 10 = .ok (.aload_n 0, 1) := by decide +kernel
theorem dX8_nameHome_11 : decode cX8_nameHome 11 = .ok (.getfield 46, 3) := by decide +kernel
theorem dX8_nameHome_14 : decode cX8_nameHome 14 = .ok (.bipush 7, 2) := by decide +kernel
theorem dX8_nameHome_16 : decode cX8_nameHome 16 = .ok (.aload_n 0, 1) := by decide +kernel
theorem dX8_nameHome_17 : decode cX8_nameHome 17 = .ok (.iload_n 1, 1) := by decide +kernel
theorem dX8_nameHome_18 : decode cX8_nameHome 18 = .ok (.iload_n 3, 1) := by decide +kernel
theorem dX8_nameHome_19 : decode cX8_nameHome 19 = .ok (.invokevirtual 201, 3) := by decide +kernel
theorem dX8_nameHome_22 : decode cX8_nameHome 22 = .ok (.iastore, 1) := by decide +kernel
theorem dX8_nameHome_23 : decode cX8_nameHome 23 = .ok (.aload_n 0, 1) := by decide +kernel
theorem dX8_nameHome_24 : decode cX8_nameHome 24 = .ok (.getfield 46, 3) := by decide +kernel
theorem dX8_nameHome_27 : decode cX8_nameHome 27 = .ok (.bipush 8, 2) := by decide +kernel
theorem dX8_nameHome_29 : decode cX8_nameHome 29 = .ok (.aload_n 0, 1) := by decide +kernel
theorem dX8_nameHome_30 : decode cX8_nameHome 30 = .ok (.iload_n 1, 1) := by decide +kernel
theorem dX8_nameHome_31 : decode cX8_nameHome 31 = .ok (.iload_n 3, 1) := by decide +kernel
theorem dX8_nameHome_32 : decode cX8_nameHome 32 = .ok (.invokevirtual 204, 3) := by decide +kernel
theorem dX8_nameHome_35 : decode cX8_nameHome 35 = .ok (.iastore, 1) := by decide +kernel
theorem dX8_nameHome_36 : decode cX8_nameHome 36 = .ok (.aload_n 0, 1) := by decide +kernel
theorem dX8_nameHome_37 : decode cX8_nameHome 37 = .ok (.getfield 46, 3) := by decide +kernel
theorem dX8_nameHome_40 : decode cX8_nameHome 40 = .ok (.bipush 9, 2) := by decide +kernel
theorem dX8_nameHome_42 : decode cX8_nameHome 42 = .ok (.aload_n 0, 1) := by decide +kernel
theorem dX8_nameHome_43 : decode cX8_nameHome 43 = .ok (.getfield 21, 3) := by decide +kernel
theorem dX8_nameHome_46 : decode cX8_nameHome 46 = .ok (.getfield 119, 3) := by decide +kernel
theorem dX8_nameHome_49 : decode cX8_nameHome 49 = .ok (.iload_n 2, 1) := by decide +kernel
theorem dX8_nameHome_50 : decode cX8_nameHome 50 = .ok (.iaload, 1) := by decide +kernel
theorem dX8_nameHome_51 : decode cX8_nameHome 51 = .ok (.iastore, 1) := by decide +kernel
theorem dX8_nameHome_52 : decode cX8_nameHome 52 = .ok (.aload_n 0, 1) := by decide +kernel
theorem dX8_nameHome_53 : decode cX8_nameHome 53 = .ok (.getfield 46, 3) := by decide +kernel
theorem dX8_nameHome_56 : decode cX8_nameHome 56 = .ok (.bipush 10, 2) := by decide +kernel
theorem dX8_nameHome_58 : decode cX8_nameHome 58 = .ok (.aload_n 0, 1) := by decide +kernel
theorem dX8_nameHome_59 : decode cX8_nameHome 59 = .ok (.getfield 21, 3) := by decide +kernel
theorem dX8_nameHome_62 : decode cX8_nameHome 62 = .ok (.getfield 122, 3) := by decide +kernel
theorem dX8_nameHome_65 : decode cX8_nameHome 65 = .ok (.iload_n 2, 1) := by decide +kernel
theorem dX8_nameHome_66 : decode cX8_nameHome 66 = .ok (.iaload, 1) := by decide +kernel
theorem dX8_nameHome_67 : decode cX8_nameHome 67 = .ok (.iastore, 1) := by decide +kernel
theorem dX8_nameHome_68 : decode cX8_nameHome 68 = .ok (.aload_n 0, 1) := by decide +kernel
theorem dX8_nameHome_69 : decode cX8_nameHome 69 = .ok (.getfield 46, 3) := by decide +kernel
theorem dX8_nameHome_72 : decode cX8_nameHome 72 = .ok (.bipush 11, 2) := by decide +kernel
theorem dX8_nameHome_74 : decode cX8_nameHome 74 = .ok (.aload_n 0, 1) := by decide +kernel
theorem dX8_nameHome_75 : decode cX8_nameHome 75 = .ok (.getfield 12, 3) := by decide +kernel
theorem dX8_nameHome_78 : decode cX8_nameHome 78 = .ok (.iload_n 3, 1) := by decide +kernel
theorem dX8_nameHome_79 : decode cX8_nameHome 79 = .ok (.aload_n 0, 1) := by decide +kernel
theorem dX8_nameHome_80 : decode cX8_nameHome 80 = .ok (.getfield 28, 3) := by decide +kernel
theorem dX8_nameHome_83 : decode cX8_nameHome 83 = .ok (.getfield 110, 3) := by decide +kernel
theorem dX8_nameHome_86 : decode cX8_nameHome 86 = .ok (.iload_n 1, 1) := by decide +kernel
theorem dX8_nameHome_87 : decode cX8_nameHome 87 = .ok (.iaload, 1) := by decide +kernel
theorem dX8_nameHome_88 : decode cX8_nameHome 88 = .ok (.invokevirtual 155, 3) := by decide +kernel
theorem dX8_nameHome_91 : decode cX8_nameHome 91 = .ok (.iastore, 1) := by decide +kernel
theorem dX8_nameHome_92 : decode cX8_nameHome 92 = .ok (.aload_n 0, 1) := by decide +kernel
theorem dX8_nameHome_93 : decode cX8_nameHome 93 = .ok (.getfield 46, 3) := by decide +kernel
theorem dX8_nameHome_96 : decode cX8_nameHome 96 = .ok (.bipush 12, 2) := by decide +kernel
theorem dX8_nameHome_98 : decode cX8_nameHome 98 = .ok (.aload_n 0, 1) := by decide +kernel
theorem dX8_nameHome_99 : decode cX8_nameHome 99 = .ok (.iload_n 1, 1) := by decide +kernel
theorem dX8_nameHome_100 : decode cX8_nameHome 100 = .ok (.iload_n 3, 1) := by decide +kernel
theorem dX8_nameHome_101 : decode cX8_nameHome 101 = .ok (.invokevirtual 151, 3) := by decide +kernel
theorem dX8_nameHome_104 : decode cX8_nameHome 104 = .ok (.iastore, 1) := by decide +kernel
theorem dX8_nameHome_105 : decode cX8_nameHome 105 = .ok (.aload_n 0, 1) := by decide +kernel
theorem dX8_nameHome_106 : decode cX8_nameHome 106 = .ok (.getfield 46, 3) := by decide +kernel
theorem dX8_nameHome_109 : decode cX8_nameHome 109 = .ok (.bipush 13, 2) := by decide +kernel
theorem dX8_nameHome_111 : decode cX8_nameHome 111 = .ok (.aload_n 0, 1) := by decide +kernel
theorem dX8_nameHome_112 : decode cX8_nameHome 112 = .ok (.getfield 12, 3) := by decide +kernel
theorem dX8_nameHome_115 : decode cX8_nameHome 115 = .ok (.iload_n 3, 1) := by decide +kernel
theorem dX8_nameHome_116 : decode cX8_nameHome 116 = .ok (.aload_n 0, 1) := by decide +kernel
theorem dX8_nameHome_117 : decode cX8_nameHome 117 = .ok (.getfield 28, 3) := by decide +kernel
theorem dX8_nameHome_120 : decode cX8_nameHome 120 = .ok (.getfield 161, 3) := by decide +kernel
theorem dX8_nameHome_123 : decode cX8_nameHome 123 = .ok (.iload_n 1, 1) := by decide +kernel
theorem dX8_nameHome_124 : decode cX8_nameHome 124 = .ok (.iaload, 1) := by decide +kernel
theorem dX8_nameHome_125 : decode cX8_nameHome 125 = .ok (.invokevirtual 164, 3) := by decide +kernel
theorem dX8_nameHome_128 : decode cX8_nameHome 128 = .ok (.ifCond .eq 7, 3) := by decide +kernel
theorem dX8_nameHome_131 : decode cX8_nameHome 131 = .ok (.iconst 1, 1) := by decide +kernel
theorem dX8_nameHome_132 : decode cX8_nameHome 132 = .ok (.goto 4, 3) := by decide +kernel
theorem dX8_nameHome_135 : decode cX8_nameHome 135 = .ok (.iconst 0, 1) := by decide +kernel
theorem dX8_nameHome_136 : decode cX8_nameHome 136 = .ok (.iastore, 1) := by decide +kernel
theorem dX8_nameHome_137 : decode cX8_nameHome 137 = .ok (.aload_n 0, 1) := by decide +kernel
theorem dX8_nameHome_138 : decode cX8_nameHome 138 = .ok (.getfield 46, 3) := by decide +kernel
theorem dX8_nameHome_141 : decode cX8_nameHome 141 = .ok (.bipush 15, 2) := by decide +kernel
theorem dX8_nameHome_143 : decode cX8_nameHome 143 = .ok (.aload_n 0, 1) := by decide +kernel
theorem dX8_nameHome_144 : decode cX8_nameHome 144 = .ok (.getfield 12, 3) := by decide +kernel
theorem dX8_nameHome_147 : decode cX8_nameHome 147 = .ok (.getfield 193, 3) := by decide +kernel
theorem dX8_nameHome_150 : decode cX8_nameHome 150 = .ok (.iload_n 3, 1) := by decide +kernel
theorem dX8_nameHome_151 : decode cX8_nameHome 151 = .ok (.iaload, 1) := by decide +kernel
theorem dX8_nameHome_152 : decode cX8_nameHome 152 = .ok (.iastore, 1) := by decide +kernel
theorem dX8_nameHome_153 : decode cX8_nameHome 153 = .ok (.return_, 1) := by decide +kernel
theorem dX9_init_0 : decode cX9_init 0 = .ok (.aload_n 0, 1) := by decide +kernel
theorem dX9_init_1 : decode cX9_init 1 = .ok (.invokespecial 3, 3) := by decide +kernel
theorem dX9_init_4 : decode cX9_init 4 = .ok (.aload_n 0, 1) := by decide +kernel
theorem dX9_init_5 : decode cX9_init 5 = .ok (.sipush 500, 3) := by decide +kernel
theorem dX9_init_8 : decode cX9_init 8 = .ok (.newarray .int, 2) := by decide +kernel
theorem dX9_init_10 : decode cX9_init 10 = .ok (.putfield 9, 3) := by decide +kernel
theorem dX9_init_13 : decode cX9_init 13 = .ok (.aload_n 0, 1) := by decide +kernel
theorem dX9_init_14 : decode cX9_init 14 = .ok (.bipush 6, 2) := by decide +kernel
theorem dX9_init_16 : decode cX9_init 16 = .ok (.newarray .int, 2) := by decide +kernel
theorem dX9_init_18 : decode cX9_init 18 = .ok (.putfield 15, 3) := by decide +kernel
theorem dX9_init_21 : decode cX9_init 21 = .ok (.aload_n 0, 1) := by decide +kernel
theorem dX9_init_22 : decode cX9_init 22 = .ok (.bipush 6, 2) := by decide +kernel
theorem dX9_init_24 : decode cX9_init 24 = .ok (.newarray .int, 2) := by decide +kernel
theorem dX9_init_26 : decode cX9_init 26 = .ok (.putfield 18, 3) := by decide +kernel
theorem dX9_init_29 : decode cX9_init 29 = .ok (.aload_n 0, 1) := by decide +kernel
theorem dX9_init_30 : decode cX9_init 30 = .ok (.sipush 500, 3) := by decide +kernel
theorem dX9_init_33 : decode cX9_init 33 = .ok (.newarray .int, 2) := by decide +kernel
theorem dX9_init_35 : decode cX9_init 35 = .ok (.putfield 21, 3) := by decide +kernel
theorem dX9_init_38 : decode cX9_init 38 = .ok (.aload_n 0, 1) := by decide +kernel
theorem dX9_init_39 : decode cX9_init 39 = .ok (.sipush 501, 3) := by decide +kernel
theorem dX9_init_42 : decode cX9_init 42 = .ok (.newarray .int, 2) := by decide +kernel
theorem dX9_init_44 : decode cX9_init 44 = .ok (.putfield 24, 3) := by decide +kernel
theorem dX9_init_47 : decode cX9_init 47 = .ok (.aload_n 0, 1) := by decide +kernel
theorem dX9_init_48 : decode cX9_init 48 = .ok (.sipush 501, 3) := by decide +kernel
theorem dX9_init_51 : decode cX9_init 51 = .ok (.newarray .int, 2) := by decide +kernel
theorem dX9_init_53 : decode cX9_init 53 = .ok (.putfield 27, 3) := by decide +kernel
theorem dX9_init_56 : decode cX9_init 56 = .ok (.aload_n 0, 1) := by decide +kernel
theorem dX9_init_57 : decode cX9_init 57 = .ok (.sipush 501, 3) := by decide +kernel
theorem dX9_init_60 : decode cX9_init 60 = .ok (.newarray .int, 2) := by decide +kernel
theorem dX9_init_62 : decode cX9_init 62 = .ok (.putfield 30, 3) := by decide +kernel
theorem dX9_init_65 : decode cX9_init 65 = .ok (.return_, 1) := by decide +kernel
theorem dX9_hasRoomFor_0 : decode cX9_hasRoomFor 0 = .ok (.aload_n 0, 1) := by decide +kernel
theorem dX9_hasRoomFor_1 : decode cX9_hasRoomFor 1 = .ok (.getfield 33, 3) := by decide +kernel
theorem dX9_hasRoomFor_4 : decode cX9_hasRoomFor 4 = .ok (.iload_n 1, 1) := by decide +kernel
theorem dX9_hasRoomFor_5 : decode cX9_hasRoomFor 5 = .ok (.iadd, 1) := by decide +kernel
theorem dX9_hasRoomFor_6 : decode cX9_hasRoomFor 6 = .ok (.sipush 500, 3) := by decide +kernel
theorem dX9_hasRoomFor_9 : decode cX9_hasRoomFor 9 = .ok (.if_icmp .gt 7, 3) := by decide +kernel
theorem dX9_hasRoomFor_12 : decode cX9_hasRoomFor 12 = .ok (.iconst 1, 1) := by decide +kernel
theorem dX9_hasRoomFor_13 : decode cX9_hasRoomFor 13 = .ok (.goto 4, 3) := by decide +kernel
theorem dX9_hasRoomFor_16 : decode cX9_hasRoomFor 16 = .ok (.iconst 0, 1) := by decide +kernel
theorem dX9_hasRoomFor_17 : decode cX9_hasRoomFor 17 = .ok (.ireturn, 1) := by decide +kernel
theorem dX9_addNumber_0 : decode cX9_addNumber 0 = .ok (.bipush 24, 2) := by decide +kernel
theorem dX9_addNumber_2 : decode cX9_addNumber 2 = .ok (.istore_n 2, 1) := by decide +kernel
theorem dX9_addNumber_3 : decode cX9_addNumber 3 = .ok (.iload_n 2, 1) := by decide +kernel
theorem dX9_addNumber_4 : decode cX9_addNumber 4 = .ok (.ifCond .lt 45, 3) := by decide +kernel
theorem dX9_addNumber_7 : decode cX9_addNumber 7 = .ok (.aload_n 0, 1) := by decide +kernel
theorem dX9_addNumber_8 : decode cX9_addNumber 8 = .ok (.getfield 33, 3) := by decide +kernel
theorem dX9_addNumber_11 : decode cX9_addNumber 11 = .ok (.sipush 500, 3) := by decide +kernel
theorem dX9_addNumber_14 : decode cX9_addNumber 14 = .ok (.if_icmp .ge 35, 3) := by decide +kernel
theorem dX9_addNumber_17 : decode cX9_addNumber 17 = .ok (.aload_n 0, 1) := by decide +kernel
theorem dX9_addNumber_18 : decode cX9_addNumber 18 = .ok (.getfield 21, 3) := by decide +kernel
theorem dX9_addNumber_21 : decode cX9_addNumber 21 = .ok (.aload_n 0, 1) := by decide +kernel
theorem dX9_addNumber_22 : decode cX9_addNumber 22 = .ok (.getfield 33, 3) := by decide +kernel
theorem dX9_addNumber_25 : decode cX9_addNumber 25 = .ok (.iload_n 1, 1) := by decide +kernel
theorem dX9_addNumber_26 : decode cX9_addNumber 26 = .ok (.iload_n 2, 1) := by decide +kernel
theorem dX9_addNumber_27 : decode cX9_addNumber 27 = .ok (.iushr, 1) := by decide +kernel
theorem dX9_addNumber_28 : decode cX9_addNumber 28 = .ok (.sipush 255, 3) := by decide +kernel
theorem dX9_addNumber_31 : decode cX9_addNumber 31 = .ok (.iand, 1) := by decide +kernel
theorem dX9_addNumber_32 : decode cX9_addNumber 32 = .ok (.iastore, 1) := by decide +kernel
theorem dX9_addNumber_33 : decode cX9_addNumber 33 = .ok (.aload_n 0, 1) := by decide +kernel
theorem dX9_addNumber_34 : decode cX9_addNumber 34 = .ok (.dup, 1) := by decide +kernel
theorem dX9_addNumber_35 : decode cX9_addNumber 35 = .ok (.getfield 33, 3) := by decide +kernel
theorem dX9_addNumber_38 : decode cX9_addNumber 38 = .ok (.iconst 1, 1) := by decide +kernel
theorem dX9_addNumber_39 : decode cX9_addNumber 39 = .ok (.iadd, 1) := by decide +kernel
theorem dX9_addNumber_40 : decode cX9_addNumber 40 = .ok (.putfield 33, 3) := by decide +kernel
theorem dX9_addNumber_43 : decode cX9_addNumber 43 = .ok (.iinc 2 (-8), 3) := by decide +kernel
theorem dX9_addNumber_46 : decode cX9_addNumber 46 = .ok (.goto (-43), 3) := by decide +kernel
theorem dX9_addNumber_49 : decode cX9_addNumber 49 = .ok (.return_, 1) := by decide +kernel
theorem dX9_parse_0 : decode cX9_parse 0 = .ok (.aload_n 0, 1) := by decide +kernel
theorem dX9_parse_1 : decode cX9_parse 1 = .ok (.invokevirtual 37, 3) := by decide +kernel
theorem dX9_parse_4 : decode cX9_parse 4 = .ok (.aload_n 0, 1) := by decide +kernel
theorem dX9_parse_5 : decode cX9_parse 5 = .ok (.iconst (-1), 1) := by decide +kernel
theorem dX9_parse_6 : decode cX9_parse 6 = .ok (.putfield 40, 3) := by decide +kernel
theorem dX9_parse_9 : decode cX9_parse 9 = .ok (.aload_n 0, 1) := by decide +kernel
theorem dX9_parse_10 : decode cX9_parse 10 = .ok (.iconst 0, 1) := by decide +kernel
theorem dX9_parse_11 : decode cX9_parse 11 = .ok (.putfield 43, 3) := by decide +kernel
theorem dX9_parse_14 : decode cX9_parse 14 = .ok (.aload_n 0, 1) := by decide +kernel
theorem dX9_parse_15 : decode cX9_parse 15 = .ok (.iconst 0, 1) := by decide +kernel
theorem dX9_parse_16 : decode cX9_parse 16 = .ok (.putfield 46, 3) := by decide +kernel
theorem dX9_parse_19 : decode cX9_parse 19 = .ok (.iconst 0, 1) := by decide +kernel
theorem dX9_parse_20 : decode cX9_parse 20 = .ok (.istore_n 1, 1) := by decide +kernel
theorem dX9_parse_21 : decode cX9_parse 21 = .ok (.iload_n 1, 1) := by decide +kernel
theorem dX9_parse_22 : decode cX9_parse 22 = .ok (.bipush 6, 2) := by decide +kernel
theorem dX9_parse_24 : decode cX9_parse 24 = .ok (.if_icmp .ge 23, 3) := by decide +kernel
theorem dX9_parse_27 : decode cX9_parse 27 = .ok (.aload_n 0, 1) := by decide +kernel
theorem dX9_parse_28 : decode cX9_parse 28 = .ok (.getfield 15, 3) := by decide +kernel
theorem dX9_parse_31 : decode cX9_parse 31 = .ok (.iload_n 1, 1) := by decide +kernel
theorem dX9_parse_32 : decode cX9_parse 32 = .ok (.iconst (-1), 1) := by decide +kernel
theorem dX9_parse_33 : decode cX9_parse 33 = .ok (.iastore, 1) := by decide +kernel
theorem dX9_parse_34 : decode cX9_parse 34 = .ok (.aload_n 0, 1) := by decide +kernel
theorem dX9_parse_35 : decode cX9_parse 35 = .ok (.getfield 18, 3) := by decide +kernel
theorem dX9_parse_38 : decode cX9_parse 38 = .ok (.iload_n 1, 1) := by decide +kernel
theorem dX9_parse_39 : decode cX9_parse 39 = .ok (.iconst (-1), 1) := by decide +kernel
theorem dX9_parse_40 : decode cX9_parse 40 = .ok (.iastore, 1) := by decide +kernel
theorem dX9_parse_41 : decode cX9_parse 41 = .ok (.iinc 1 1, 3) := by decide +kernel
theorem dX9_parse_44 : decode cX9_parse 44 = .ok (.goto (-23), 3) := by decide +kernel
theorem dX9_parse_47 : decode cX9_parse 47 = .ok (.iconst 0, 1) := by decide +kernel
theorem dX9_parse_48 : decode cX9_parse 48 = .ok (.istore_n 1, 1) := by decide +kernel
theorem dX9_parse_49 : decode cX9_parse 49 = .ok (.iload_n 1, 1) := by decide +kernel
theorem dX9_parse_50 : decode cX9_parse 50 = .ok (.bipush 6, 2) := by decide +kernel
theorem dX9_parse_52 : decode cX9_parse 52 = .ok (.if_icmp .gt 33, 3) := by decide +kernel
theorem dX9_parse_55 : decode cX9_parse 55 = .ok (.aload_n 0, 1) := by decide +kernel
theorem dX9_parse_56 : decode cX9_parse 56 = .ok (.getfield 40, 3) := by decide +kernel
theorem dX9_parse_59 : decode cX9_parse 59 = .ok (.iconst (-1), 1) := by decide +kernel
theorem dX9_parse_60 : decode cX9_parse 60 = .ok (.if_icmp .ne 25, 3) := by decide +kernel
theorem dX9_parse_63 : decode cX9_parse 63 = .ok (.aload_n 0, 1) := by decide +kernel
theorem dX9_parse_64 : decode cX9_parse 64 = .ok (.getfield 24, 3) := by decide +kernel
theorem dX9_parse_67 : decode cX9_parse 67 = .ok (.aload_n 0, 1) := by decide +kernel
theorem dX9_parse_68 : decode cX9_parse 68 = .ok (.getfield 46, 3) := by decide +kernel
theorem dX9_parse_71 : decode cX9_parse 71 = .ok (.iaload, 1) := by decide +kernel
theorem dX9_parse_72 : decode cX9_parse 72 = .ok (.ifCond .eq 13, 3) := by decide +kernel
theorem dX9_parse_75 : decode cX9_parse 75 = .ok (.aload_n 0, 1) := by decide +kernel
theorem dX9_parse_76 : decode cX9_parse 76 = .ok (.invokevirtual 49, 3) := by decide +kernel
theorem dX9_parse_79 : decode cX9_parse 79 = .ok (.iinc 1 1, 3) := by decide +kernel
theorem dX9_parse_82 : decode cX9_parse 82 = .ok (.goto (-33), 3) := by decide +kernel
theorem dX9_parse_85 : decode cX9_parse 85 = .ok (.return_, 1) := by decide +kernel
theorem dX9_splitTokens_0 : decode cX9_splitTokens 0 = .ok (.aload_n 0, 1) := by decide +kernel
theorem dX9_splitTokens_1 : decode cX9_splitTokens 1 = .ok (.iconst 0, 1) := by decide +kernel
theorem dX9_splitTokens_2 : decode cX9_splitTokens 2 = .ok (.putfield 52, 3) := by decide +kernel
theorem dX9_splitTokens_5 : decode cX9_splitTokens 5 = .ok (.iconst 0, 1) := by decide +kernel
theorem dX9_splitTokens_6 : decode cX9_splitTokens 6 = .ok (.istore_n 1, 1) := by decide +kernel
theorem dX9_splitTokens_7 : decode cX9_splitTokens 7 = .ok (.iconst 0, 1) := by decide +kernel
theorem dX9_splitTokens_8 : decode cX9_splitTokens 8 = .ok (.istore_n 2, 1) := by decide +kernel
theorem dX9_splitTokens_9 : decode cX9_splitTokens 9 = .ok (.iload_n 2, 1) := by decide +kernel
theorem dX9_splitTokens_10 : decode cX9_splitTokens 10 = .ok (.aload_n 0, 1) := by decide +kernel
theorem dX9_splitTokens_11 : decode cX9_splitTokens 11 = .ok (.getfield 33, 3) := by decide +kernel
theorem dX9_splitTokens_14 : decode cX9_splitTokens 14 = .ok (.if_icmp .ge 87, 3) := by decide +kernel
theorem dX9_splitTokens_17 : decode cX9_splitTokens 17 = .ok (.aload_n 0, 1) := by decide +kernel
theorem dX9_splitTokens_18 : decode cX9_splitTokens 18 = .ok (.getfield 21, 3) := by decide +kernel
theorem dX9_splitTokens_21 : decode cX9_splitTokens 21 = .ok (.iload_n 2, 1) := by decide +kernel
theorem dX9_splitTokens_22 : decode cX9_splitTokens 22 = .ok (.iaload, 1) := by decide +kernel
theorem dX9_splitTokens_23 : decode cX9_splitTokens 23 = .ok (.istore_n 3, 1) := by decide +kernel
theorem dX9_splitTokens_24 : decode cX9_splitTokens 24 = .ok (.iload_n 2, 1) := by decide +kernel
theorem dX9_splitTokens_25 : decode cX9_splitTokens 25 = .ok (.iload_n 1, 1) := by decide +kernel
theorem dX9_splitTokens_26 : decode cX9_splitTokens 26 = .ok (.if_icmp .lt 69, 3) := by decide +kernel
theorem dX9_splitTokens_29 : decode cX9_splitTokens 29 = .ok (.iload_n 3, 1) := by decide +kernel
theorem dX9_splitTokens_30 : decode cX9_splitTokens 30 = .ok (.bipush 32, 2) := by decide +kernel
theorem dX9_splitTokens_32 : decode cX9_splitTokens 32 = .ok (.if_icmp .eq 63, 3) := by decide +kernel
theorem dX9_splitTokens_35 : decode cX9_splitTokens 35 = .ok (.iload_n 3, 1) := by decide +kernel
theorem dX9_splitTokens_36 : decode cX9_splitTokens 36 = .ok (.bipush 10, 2) := by decide +kernel
theorem dX9_splitTokens_38 : decode cX9_splitTokens 38 = .ok (.if_icmp .ne 6, 3) := by decide +kernel
theorem dX9_splitTokens_41 : decode cX9_splitTokens 41 = .ok (.goto 54, 3) := by decide +kernel
theorem dX9_splitTokens_44 : decode cX9_splitTokens 44 = .ok (.iload_n 3, 1) := by decide +kernel
theorem dX9_splitTokens_45 : decode cX9_splitTokens 45 = .ok (.invokestatic 55, 3) := by decide +kernel
theorem dX9_splitTokens_48 : decode cX9_splitTokens 48 = .ok (.ifCond .eq 12, 3) := by decide +kernel
theorem dX9_splitTokens_51 : decode cX9_splitTokens 51 = .ok (.aload_n 0, 1) := by decide +kernel
theorem dX9_splitTokens_52 : decode cX9_splitTokens 52 = .ok (.iload_n 2, 1) := by decide +kernel
theorem dX9_splitTokens_53 : decode cX9_splitTokens 53 = .ok (.invokevirtual 59, 3) := by decide +kernel
theorem dX9_splitTokens_56 : decode cX9_splitTokens 56 = .ok (.istore_n 1, 1) := by decide +kernel
theorem dX9_splitTokens_57 : decode cX9_splitTokens 57 = .ok (.goto 38, 3) := by decide +kernel
theorem dX9_splitTokens_60 : decode cX9_splitTokens 60 = .ok (.iload_n 3, 1) := by decide +kernel
theorem dX9_splitTokens_61 : decode cX9_splitTokens 61 = .ok (.invokestatic 63, 3) := by decide +kernel
theorem dX9_splitTokens_64 : decode cX9_splitTokens 64 = .ok (.ifCond .eq 12, 3) := by decide +kernel
theorem dX9_splitTokens_67 : decode cX9_splitTokens 67 = .ok (.aload_n 0, 1) := by decide +kernel
theorem dX9_splitTokens_68 : decode cX9_splitTokens 68 = .ok (.iload_n 2, 1) := by decide +kernel
theorem dX9_splitTokens_69 : decode cX9_splitTokens 69 = .ok (.invokevirtual 66, 3) := by decide +kernel
theorem dX9_splitTokens_72 : decode cX9_splitTokens 72 = .ok (.istore_n 1, 1) := by decide +kernel
theorem dX9_splitTokens_73 : decode cX9_splitTokens 73 = .ok (.goto 22, 3) := by decide +kernel
theorem dX9_splitTokens_76 : decode cX9_splitTokens 76 = .ok (.aload_n 0, 1) := by decide +kernel
theorem dX9_splitTokens_77 : decode cX9_splitTokens 77 = .ok (.iload_n 3, 1) := by decide +kernel
theorem dX9_splitTokens_78 : decode cX9_splitTokens 78 = .ok (.invokestatic 69, 3) := by decide +kernel
theorem dX9_splitTokens_81 : decode cX9_splitTokens 81 = .ok (.ifCond .eq 7, 3) := by decide +kernel
theorem dX9_splitTokens_84 : decode cX9_splitTokens 84 = .ok (.iload_n 3, 1) := by decide +kernel
theorem dX9_splitTokens_85 : decode cX9_splitTokens 85 = .ok (.goto 5, 3) := by decide +kernel
theorem dX9_splitTokens_88 : decode cX9_splitTokens 88 = .ok (.bipush 7, 2) := by decide +kernel
theorem dX9_splitTokens_90 : decode cX9_splitTokens 90 = .ok (.iload_n 2, 1) := by decide +kernel
theorem dX9_splitTokens_91 : decode cX9_splitTokens 91 = .ok (.iconst 0, 1) := by decide +kernel
theorem dX9_splitTokens_92 : decode cX9_splitTokens 92 = .ok (.invokevirtual 72, 3) := by decide +kernel
theorem dX9_splitTokens_95 : decode cX9_splitTokens 95 = .ok (.iinc 2 1, 3) := by decide +kernel
theorem dX9_splitTokens_98 : decode cX9_splitTokens 98 = .ok (.goto (-89), 3) := by decide +kernel
theorem dX9_splitTokens_101 : decode cX9_splitTokens 101 = .ok (.aload_n 0, 1) := by decide +kernel
theorem dX9_splitTokens_102 : decode cX9_splitTokens 102 = .ok (.iconst 0, 1) := by decide +kernel
theorem dX9_splitTokens_103 : decode cX9_splitTokens 103 = .ok (.aload_n 0, 1) := by decide +kernel
theorem dX9_splitTokens_104 : decode cX9_splitTokens 104 = .ok (.getfield 33, 3) := by decide +kernel
theorem dX9_splitTokens_107 : decode cX9_splitTokens 107 = .ok (.iconst 0, 1) := by decide +kernel
theorem dX9_splitTokens_108 : decode cX9_splitTokens 108 = .ok (.invokevirtual 72, 3) := by decide +kernel
theorem dX9_splitTokens_111 : decode cX9_splitTokens 111 = .ok (.return_, 1) := by decide +kernel
theorem dX9_splitWord_0 : decode cX9_splitWord 0 = .ok (.iload_n 1, 1) := by decide +kernel
theorem dX9_splitWord_1 : decode cX9_splitWord 1 = .ok (.istore_n 2, 1) := by decide +kernel
theorem dX9_splitWord_2 : decode cX9_splitWord 2 = .ok (.iload_n 2, 1) := by decide +kernel
theorem dX9_splitWord_3 : decode cX9_splitWord 3 = .ok (.aload_n 0, 1) := by decide +kernel
theorem dX9_splitWord_4 : decode cX9_splitWord 4 = .ok (.getfield 33, 3) := by decide +kernel
theorem dX9_splitWord_7 : decode cX9_splitWord 7 = .ok (.if_icmp .ge 21, 3) := by decide +kernel
theorem dX9_splitWord_10 : decode cX9_splitWord 10 = .ok (.aload_n 0, 1) := by decide +kernel
theorem dX9_splitWord_11 : decode cX9_splitWord 11 = .ok (.getfield 21, 3) := by decide +kernel
theorem dX9_splitWord_14 : decode cX9_splitWord 14 = .ok (.iload_n 2, 1) := by decide +kernel
theorem dX9_splitWord_15 : decode cX9_splitWord 15 = .ok (.iaload, 1) := by decide +kernel
theorem dX9_splitWord_16 : decode cX9_splitWord 16 = .ok (.invokestatic 55, 3) := by decide +kernel
theorem dX9_splitWord_19 : decode cX9_splitWord 19 = .ok (.ifCond .eq 9, 3) := by decide +kernel
theorem dX9_splitWord_22 : decode cX9_splitWord 22 = .ok (.iinc 2 1, 3) := by decide +kernel
theorem dX9_splitWord_25 : decode cX9_splitWord 25 = .ok (.goto (-23), 3) := by decide +kernel
theorem dX9_splitWord_28 : decode cX9_splitWord 28 = .ok (.aload_n 0, 1) := by decide +kernel
theorem dX9_splitWord_29 : decode cX9_splitWord 29 = .ok (.iload_n 1, 1) := by decide +kernel
theorem dX9_splitWord_30 : decode cX9_splitWord 30 = .ok (.iload_n 2, 1) := by decide +kernel
theorem dX9_splitWord_31 : decode cX9_splitWord 31 = .ok (.invokevirtual 76, 3) := by decide +kernel
theorem dX9_splitWord_34 : decode cX9_splitWord 34 = .ok (.istore_n 3, 1) := by decide +kernel
theorem dX9_splitWord_35 : decode cX9_splitWord 35 = .ok (.iload_n 3, 1) := by decide +kernel
theorem dX9_splitWord_36 : decode cX9_splitWord 36 = .ok (.bipush 9, 2) := by decide +kernel
theorem dX9_splitWord_38 : decode cX9_splitWord 38 = .ok (.if_icmp .lt 16, 3) := by decide +kernel
theorem dX9_splitWord_41 : decode cX9_splitWord 41 = .ok (.aload_n 0, 1) := by decide +kernel
theorem dX9_splitWord_42 : decode cX9_splitWord 42 = .ok (.iconst 2, 1) := by decide +kernel
theorem dX9_splitWord_43 : decode cX9_splitWord 43 = .ok (.iload_n 1, 1) := by decide +kernel
theorem dX9_splitWord_44 : decode cX9_splitWord 44 = .ok (.iload_n 3, 1) := by decide +kernel
theorem dX9_splitWord_45 : decode cX9_splitWord 45 = .ok (.bipush 9, 2) := by decide +kernel
theorem dX9_splitWord_47 : decode cX9_splitWord 47 = .ok (.isub, 1) := by decide +kernel
theorem dX9_splitWord_48 : decode cX9_splitWord 48 = .ok (.invokevirtual 72, 3) := by decide +kernel
theorem dX9_splitWord_51 : decode cX9_splitWord 51 = .ok (.goto 62, 3) := by decide +kernel
theorem dX9_splitWord_54 : decode cX9_splitWord 54 = .ok (.iload_n 3, 1) := by decide +kernel
theorem dX9_splitWord_55 : decode cX9_splitWord 55 = .ok (.ifCond .lt 19, 3) := by decide +kernel
theorem dX9_splitWord_58 : decode cX9_splitWord 58 = .ok (.iload_n 3, 1) := by decide +kernel
theorem dX9_splitWord_59 : decode cX9_splitWord 59 = .ok (.bipush 6, 2) := by decide +kernel
theorem dX9_splitWord_61 : decode cX9_splitWord 61 = .ok (.if_icmp .ge 13, 3) := by decide +kernel
theorem dX9_splitWord_64 : decode cX9_splitWord 64 = .ok (.aload_n 0, 1) := by decide +kernel
theorem dX9_splitWord_65 : decode cX9_splitWord 65 = .ok (.iconst 3, 1) := by decide +kernel
theorem dX9_splitWord_66 : decode cX9_splitWord 66 = .ok (.iload_n 1, 1) := by decide +kernel
theorem dX9_splitWord_67 : decode cX9_splitWord 67 = .ok (.iload_n 3, 1) := by decide +kernel
theorem dX9_splitWord_68 : decode cX9_splitWord 68 = .ok (.invokevirtual 72, 3) := by decide +kernel
theorem dX9_splitWord_71 : decode cX9_splitWord 71 = .ok (.goto 42, 3) := by decide +kernel
theorem dX9_splitWord_74 : decode cX9_splitWord 74 = .ok (.aload_n 0, 1) := by decide +kernel
theorem dX9_splitWord_75 : decode cX9_splitWord 75 = .ok (.iload_n 3, 1) := by decide +kernel
theorem dX9_splitWord_76 : decode cX9_splitWord 76 = .ok (.bipush 6, 2) := by decide +kernel
theorem dX9_splitWord_78 : decode cX9_splitWord 78 = .ok (.if_icmp .ne 7, 3) := by decide +kernel
theorem dX9_splitWord_81 : decode cX9_splitWord 81 = .ok (.iconst 4, 1) := by decide +kernel
theorem dX9_splitWord_82 : decode cX9_splitWord 82 = .ok (.goto 26, 3) := by decide +kernel
theorem dX9_splitWord_85 : decode cX9_splitWord 85 = .ok (.iload_n 3, 1) := by decide +kernel
theorem dX9_splitWord_86 : decode cX9_splitWord 86 = .ok (.bipush 7, 2) := by decide +kernel
theorem dX9_splitWord_88 : decode cX9_splitWord 88 = .ok (.if_icmp .ne 7, 3) := by decide +kernel
theorem dX9_splitWord_91 : decode cX9_splitWord 91 = .ok (.iconst 5, 1) := by decide +kernel
theorem dX9_splitWord_92 : decode cX9_splitWord 92 = .ok (.goto 16, 3) := by decide +kernel
theorem dX9_splitWord_95 : decode cX9_splitWord 95 = .ok (.iload_n 3, 1) := by decide +kernel
theorem dX9_splitWord_96 : decode cX9_splitWord 96 = .ok (.bipush 8, 2) := by decide +kernel
theorem dX9_splitWord_98 : decode cX9_splitWord 98 = .ok (.if_icmp .ne 8, 3) := by decide +kernel
theorem dX9_splitWord_101 : decode cX9_splitWord 101 = .ok (.bipush 6, 2) := by decide +kernel
theorem dX9_splitWord_103 : decode cX9_splitWord 103 = .ok (.goto 5, 3) := by decide +kernel
theorem dX9_splitWord_106 : decode cX9_splitWord 106 = .ok (.bipush 7, 2) := by decide +kernel
theorem dX9_splitWord_108 : decode cX9_splitWord 108 = .ok (.iload_n 1, 1) := by decide +kernel
theorem dX9_splitWord_109 : decode cX9_splitWord 109 = .ok (.iconst 0, 1) := by decide +kernel
theorem dX9_splitWord_110 : decode cX9_splitWord 110 = .ok (.invokevirtual 72, 3) := by decide +kernel
theorem dX9_splitWord_113 : decode cX9_splitWord 113 = .ok (.iload_n 2, 1) := by decide +kernel
theorem dX9_splitWord_114 : decode cX9_splitWord 114 = .ok (.ireturn, 1) := by decide +kernel
theorem dX9_splitNumber_0 : decode cX9_splitNumber 0 = .ok (.iload_n 1, 1) := by decide +kernel
theorem dX9_splitNumber_1 : decode cX9_splitNumber 1 = .ok (.istore_n 2, 1) := by decide +kernel
theorem dX9_splitNumber_2 : decode cX9_splitNumber 2 = .ok (.iconst 0, 1) := by decide +kernel
theorem dX9_splitNumber_3 : decode cX9_splitNumber 3 = .ok (.istore_n 3, 1) := by decide +kernel
theorem dX9_splitNumber_4 : decode cX9_splitNumber 4 = .ok (.iload_n 2, 1) := by decide +kernel
theorem dX9_splitNumber_5 : decode cX9_splitNumber 5 = .ok (.aload_n 0, 1) := by decide +kernel
theorem dX9_splitNumber_6 : decode cX9_splitNumber 6 = .ok (.getfield 33, 3) := by decide +kernel
theorem dX9_splitNumber_9 : decode cX9_splitNumber 9 = .ok (.if_icmp .ge 42, 3) := by decide +kernel
theorem dX9_splitNumber_12 : decode cX9_splitNumber 12 = .ok (.aload_n 0, 1) := by decide +kernel
theorem dX9_splitNumber_13 : decode cX9_splitNumber 13 = .ok (.getfield 21, 3) := by decide +kernel
theorem dX9_splitNumber_16 : decode cX9_splitNumber 16 = .ok (.iload_n 2, 1) := by decide +kernel
theorem dX9_splitNumber_17 : decode cX9_splitNumber 17 = .ok (.iaload, 1) := by decide +kernel
theorem dX9_splitNumber_18 : decode cX9_splitNumber 18 = .ok (.invokestatic 63, 3) := by decide +kernel
theorem dX9_splitNumber_21 : decode cX9_splitNumber 21 = .ok (.ifCond .eq 30, 3) := by decide +kernel
theorem dX9_splitNumber_24 : decode cX9_splitNumber 24 = .ok (.iload_n 3, 1) := by decide +kernel
theorem dX9_splitNumber_25 : decode cX9_splitNumber 25 = .ok (.ldc 80, 2) := by decide +kernel
theorem dX9_splitNumber_27 : decode cX9_splitNumber 27 = .ok (.if_icmp .gt 18, 3) := by decide +kernel
theorem dX9_splitNumber_30 : decode cX9_splitNumber 30 = .ok (.iload_n 3, 1) := by decide +kernel
theorem dX9_splitNumber_31 : decode cX9_splitNumber 31 = .ok (.bipush 10, 2) := by decide +kernel
theorem dX9_splitNumber_33 : decode cX9_splitNumber 33 = .ok (.imul, 1) := by decide +kernel
theorem dX9_splitNumber_34 : decode cX9_splitNumber 34 = .ok (.aload_n 0, 1) := by decide +kernel
theorem dX9_splitNumber_35 : decode cX9_splitNumber 35 = .ok (.getfield 21, 3) := by decide +kernel
theorem dX9_splitNumber_38 : decode cX9_splitNumber 38 = .ok (.iload_n 2, 1) := by decide +kernel
theorem dX9_splitNumber_39 : decode cX9_splitNumber 39 = .ok (.iaload, 1) := by decide +kernel
theorem dX9_splitNumber_40 : decode cX9_splitNumber 40 = .ok (.iadd, 1) := by decide +kernel
theorem dX9_splitNumber_41 : decode cX9_splitNumber 41 = .ok (.bipush 48, 2) := by decide +kernel
theorem dX9_splitNumber_43 : decode cX9_splitNumber 43 = .ok (.isub, 1) := by decide +kernel
theorem dX9_splitNumber_44 : decode cX9_splitNumber 44 = .ok (.istore_n 3, 1) := by decide +kernel
theorem dX9_splitNumber_45 : decode cX9_splitNumber 45 = .ok (.iinc 2 1, 3) := by decide +kernel
theorem dX9_splitNumber_48 : decode cX9_splitNumber 48 = .ok (.goto (-44), 3) := by decide +kernel
theorem dX9_splitNumber_51 : decode cX9_splitNumber 51 = .ok (.aload_n 0, 1) := by decide +kernel
theorem dX9_splitNumber_52 : decode cX9_splitNumber 52 = .ok (.iload_n 3, 1) := by decide +kernel
theorem dX9_splitNumber_53 : decode cX9_splitNumber 53 = .ok (.ldc 80, 2) := by decide +kernel
theorem dX9_splitNumber_55 : decode cX9_splitNumber 55 = .ok (.if_icmp .gt 7, 3) := by decide +kernel
theorem dX9_splitNumber_58 : decode cX9_splitNumber 58 = .ok (.iconst 1, 1) := by decide +kernel
theorem dX9_splitNumber_59 : decode cX9_splitNumber 59 = .ok (.goto 5, 3) := by decide +kernel
theorem dX9_splitNumber_62 : decode cX9_splitNumber 62 = .ok (.bipush 7, 2) := by decide +kernel
theorem dX9_splitNumber_64 : decode cX9_splitNumber 64 = .ok (.iload_n 1, 1) := by decide +kernel
theorem dX9_splitNumber_65 : decode cX9_splitNumber 65 = .ok (.iload_n 3, 1) := by decide +kernel
theorem dX9_splitNumber_66 : decode cX9_splitNumber 66 = .ok (.invokevirtual 72, 3) := by decide +kernel
theorem dX9_splitNumber_69 : decode cX9_splitNumber 69 = .ok (.iload_n 2, 1) := by decide +kernel
theorem dX9_splitNumber_70 : decode cX9_splitNumber 70 = .ok (.ireturn, 1) := by decide +kernel
theorem dX9_addToken_0 : decode cX9_addToken 0 = .ok (.aload_n 0, 1) := by decide +kernel
theorem dX9_addToken_1 : decode cX9_addToken 1 = .ok (.getfield 52, 3) := by decide +kernel
theorem dX9_addToken_4 : decode cX9_addToken 4 = .ok (.sipush 500, 3) := by decide +kernel
theorem dX9_addToken_7 : decode cX9_addToken 7 = .ok (.if_icmp .gt 43, 3) := by decide +kernel
theorem dX9_addToken_10 : decode cX9_addToken 10 = .ok (.aload_n 0, 1) := by decide +kernel
theorem dX9_addToken_11 : decode cX9_addToken 11 = .ok (.getfield 24, 3) := by decide +kernel
theorem dX9_addToken_14 : decode cX9_addToken 14 = .ok (.aload_n 0, 1) := by decide +kernel
theorem dX9_addToken_15 : decode cX9_addToken 15 = .ok (.getfield 52, 3) := by decide +kernel
theorem dX9_addToken_18 : decode cX9_addToken 18 = .ok (.iload_n 1, 1) := by decide +kernel
theorem dX9_addToken_19 : decode cX9_addToken 19 = .ok (.iastore, 1) := by decide +kernel
theorem dX9_addToken_20 : decode cX9_addToken 20 = .ok (.aload_n 0, 1) := by decide +kernel
theorem dX9_addToken_21 : decode cX9_addToken 21 = .ok (.getfield 30, 3) := by decide +kernel
theorem dX9_addToken_24 : decode cX9_addToken 24 = .ok (.aload_n 0, 1) := by decide +kernel
theorem dX9_addToken_25 : decode cX9_addToken 25 = .ok (.getfield 52, 3) := by decide +kernel
theorem dX9_addToken_28 : decode cX9_addToken 28 = .ok (.iload_n 2, 1) := by decide +kernel
theorem dX9_addToken_29 : decode cX9_addToken 29 = .ok (.iastore, 1) := by decide +kernel
theorem dX9_addToken_30 : decode cX9_addToken 30 = .ok (.aload_n 0, 1) := by decide +kernel
theorem dX9_addToken_31 : decode cX9_addToken 31 = .ok (.getfield 27, 3) := by decide +kernel
theorem dX9_addToken_34 : decode cX9_addToken 34 = .ok (.aload_n 0, 1) := by decide +kernel
theorem dX9_addToken_35 : decode cX9_addToken 35 = .ok (.getfield 52, 3) := by decide +kernel
theorem dX9_addToken_38 : decode cX9_addToken 38 = .ok (.iload_n 3, 1) := by decide +kernel
theorem dX9_addToken_39 : decode cX9_addToken 39 = .ok (.iastore, 1) := by decide +kernel
theorem dX9_addToken_40 : decode cX9_addToken 40 = .ok (.aload_n 0, 1) := by decide +kernel
theorem dX9_addToken_41 : decode cX9_addToken 41 = .ok (.dup, 1) := by decide +kernel
theorem dX9_addToken_42 : decode cX9_addToken 42 = .ok (.getfield 52, 3) := by decide +kernel
theorem dX9_addToken_45 : decode cX9_addToken 45 = .ok (.iconst 1, 1) := by decide +kernel
theorem dX9_addToken_46 : decode cX9_addToken 46 = .ok (.iadd, 1) := by decide +kernel
theorem dX9_addToken_47 : decode cX9_addToken 47 = .ok (.putfield 52, 3) := by decide +kernel
theorem dX9_addToken_50 : decode cX9_addToken 50 = .ok (.return_, 1) := by decide +kernel
theorem dX9_readClause_0 : decode cX9_readClause 0 = .ok (.aload_n 0, 1) := by decide +kernel
theorem dX9_readClause_1 : decode cX9_readClause 1 = .ok (.getfield 27, 3) := by decide +kernel
theorem dX9_readClause_4 : decode cX9_readClause 4 = .ok (.aload_n 0, 1) := by decide +kernel
theorem dX9_readClause_5 : decode cX9_readClause 5 = .ok (.getfield 46, 3) := by decide +kernel
theorem dX9_readClause_8 : decode cX9_readClause 8 = .ok (.iaload, 1) := by decide +kernel
theorem dX9_readClause_9 : decode cX9_readClause 9 = .ok (.istore_n 1, 1) := by decide +kernel
theorem dX9_readClause_10 : decode cX9_readClause 10 = .ok (.aload_n 0, 1) := by decide +kernel
theorem dX9_readClause_11 : decode cX9_readClause 11 = .ok (.getfield 24, 3) := by decide +kernel
theorem dX9_readClause_14 : decode cX9_readClause 14 = .ok (.aload_n 0, 1) := by decide +kernel
theorem dX9_readClause_15 : decode cX9_readClause 15 = .ok (.getfield 46, 3) := by decide +kernel
theorem dX9_readClause_18 : decode cX9_readClause 18 = .ok (.iaload, 1) := by decide +kernel
theorem dX9_readClause_19 : decode cX9_readClause 19 = .ok (.iconst 3, 1) := by decide +kernel
theorem dX9_readClause_20 : decode cX9_readClause 20 = .ok (.if_icmp .ne 23, 3) := by decide +kernel
theorem dX9_readClause_23 : decode cX9_readClause 23 = .ok (.iload_n 1, 1) := by decide +kernel
theorem dX9_readClause_24 : decode cX9_readClause 24 = .ok (.ifCond .lt 19, 3) := by decide +kernel
theorem dX9_readClause_27 : decode cX9_readClause 27 = .ok (.iload_n 1, 1) := by decide +kernel
theorem dX9_readClause_28 : decode cX9_readClause 28 = .ok (.bipush 6, 2) := by decide +kernel
theorem dX9_readClause_30 : decode cX9_readClause 30 = .ok (.if_icmp .ge 13, 3) := by decide +kernel
theorem dX9_readClause_33 : decode cX9_readClause 33 = .ok (.aload_n 0, 1) := by decide +kernel
theorem dX9_readClause_34 : decode cX9_readClause 34 = .ok (.getfield 15, 3) := by decide +kernel
theorem dX9_readClause_37 : decode cX9_readClause 37 = .ok (.iload_n 1, 1) := by decide +kernel
theorem dX9_readClause_38 : decode cX9_readClause 38 = .ok (.iaload, 1) := by decide +kernel
theorem dX9_readClause_39 : decode cX9_readClause 39 = .ok (.iconst (-1), 1) := by decide +kernel
theorem dX9_readClause_40 : decode cX9_readClause 40 = .ok (.if_icmp .eq 17, 3) := by decide +kernel
theorem dX9_readClause_43 : decode cX9_readClause 43 = .ok (.aload_n 0, 1) := by decide +kernel
theorem dX9_readClause_44 : decode cX9_readClause 44 = .ok (.aload_n 0, 1) := by decide +kernel
theorem dX9_readClause_45 : decode cX9_readClause 45 = .ok (.getfield 30, 3) := by decide +kernel
theorem dX9_readClause_48 : decode cX9_readClause 48 = .ok (.aload_n 0, 1) := by decide +kernel
theorem dX9_readClause_49 : decode cX9_readClause 49 = .ok (.getfield 46, 3) := by decide +kernel
theorem dX9_readClause_52 : decode cX9_readClause 52 = .ok (.iaload, 1) := by decide +kernel
theorem dX9_readClause_53 : decode cX9_readClause 53 = .ok (.putfield 40, 3) := by decide +kernel
theorem dX9_readClause_56 : decode cX9_readClause 56 = .ok (.return_, 1) := by decide +kernel
theorem dX9_readClause_57 : decode cX9_readClause 57 = .ok (.aload_n 0, 1) := by decide +kernel
theorem dX9_readClause_58 : decode cX9_readClause 58 = .ok (.getfield 15, 3) := by decide +kernel
theorem dX9_readClause_61 : decode cX9_readClause 61 = .ok (.iload_n 1, 1) := by decide +kernel
theorem dX9_readClause_62 : decode cX9_readClause 62 = .ok (.aload_n 0, 1) := by decide +kernel
theorem dX9_readClause_63 : decode cX9_readClause 63 = .ok (.getfield 43, 3) := by decide +kernel
theorem dX9_readClause_66 : decode cX9_readClause 66 = .ok (.iastore, 1) := by decide +kernel
theorem dX9_readClause_67 : decode cX9_readClause 67 = .ok (.aload_n 0, 1) := by decide +kernel
theorem dX9_readClause_68 : decode cX9_readClause 68 = .ok (.dup, 1) := by decide +kernel
theorem dX9_readClause_69 : decode cX9_readClause 69 = .ok (.getfield 46, 3) := by decide +kernel
theorem dX9_readClause_72 : decode cX9_readClause 72 = .ok (.iconst 1, 1) := by decide +kernel
theorem dX9_readClause_73 : decode cX9_readClause 73 = .ok (.iadd, 1) := by decide +kernel
theorem dX9_readClause_74 : decode cX9_readClause 74 = .ok (.putfield 46, 3) := by decide +kernel
theorem dX9_readClause_77 : decode cX9_readClause 77 = .ok (.iload_n 1, 1) := by decide +kernel
theorem dX9_readClause_78 : decode cX9_readClause 78 = .ok (.iconst 4, 1) := by decide +kernel
theorem dX9_readClause_79 : decode cX9_readClause 79 = .ok (.if_icmp .eq 8, 3) := by decide +kernel
theorem dX9_readClause_82 : decode cX9_readClause 82 = .ok (.iload_n 1, 1) := by decide +kernel
theorem dX9_readClause_83 : decode cX9_readClause 83 = .ok (.iconst 5, 1) := by decide +kernel
theorem dX9_readClause_84 : decode cX9_readClause 84 = .ok (.if_icmp .ne 11, 3) := by decide +kernel
theorem dX9_readClause_87 : decode cX9_readClause 87 = .ok (.aload_n 0, 1) := by decide +kernel
theorem dX9_readClause_88 : decode cX9_readClause 88 = .ok (.iconst 0, 1) := by decide +kernel
theorem dX9_readClause_89 : decode cX9_readClause 89 = .ok (.invokevirtual 81, 3) := by decide +kernel
theorem dX9_readClause_92 : decode cX9_readClause 92 = .ok (.goto 8, 3) := by decide +kernel
theorem dX9_readClause_95 : decode cX9_readClause 95 = .ok (.aload_n 0, 1) := by decide +kernel
theorem dX9_readClause_96 : decode cX9_readClause 96 = .ok (.iconst 0, 1) := by decide +kernel
theorem dX9_readClause_97 : decode cX9_readClause 97 = .ok (.invokevirtual 85, 3) := by decide +kernel
theorem dX9_readClause_100 : decode cX9_readClause 100 = .ok (.aload_n 0, 1) := by decide +kernel
theorem dX9_readClause_101 : decode cX9_readClause 101 = .ok (.getfield 18, 3) := by decide +kernel
theorem dX9_readClause_104 : decode cX9_readClause 104 = .ok (.iload_n 1, 1) := by decide +kernel
theorem dX9_readClause_105 : decode cX9_readClause 105 = .ok (.aload_n 0, 1) := by decide +kernel
theorem dX9_readClause_106 : decode cX9_readClause 106 = .ok (.getfield 43, 3) := by decide +kernel
theorem dX9_readClause_109 : decode cX9_readClause 109 = .ok (.iastore, 1) := by decide +kernel
theorem dX9_readClause_110 : decode cX9_readClause 110 = .ok (.aload_n 0, 1) := by decide +kernel
theorem dX9_readClause_111 : decode cX9_readClause 111 = .ok (.bipush 59, 2) := by decide +kernel
theorem dX9_readClause_113 : decode cX9_readClause 113 = .ok (.invokevirtual 88, 3) := by decide +kernel
theorem dX9_readClause_116 : decode cX9_readClause 116 = .ok (.return_, 1) := by decide +kernel
theorem dX9_readAny_0 : decode cX9_readAny 0 = .ok (.aload_n 0, 1) := by decide +kernel
theorem dX9_readAny_1 : decode cX9_readAny 1 = .ok (.iload_n 1, 1) := by decide +kernel
theorem dX9_readAny_2 : decode cX9_readAny 2 = .ok (.invokevirtual 91, 3) := by decide +kernel
theorem dX9_readAny_5 : decode cX9_readAny 5 = .ok (.iconst 0, 1) := by decide +kernel
theorem dX9_readAny_6 : decode cX9_readAny 6 = .ok (.istore_n 2, 1) := by decide +kernel
theorem dX9_readAny_7 : decode cX9_readAny 7 = .ok (.iload_n 2, 1) := by decide +kernel
theorem dX9_readAny_8 : decode cX9_readAny 8 = .ok (.sipush 500, 3) := by decide +kernel
theorem dX9_readAny_11 : decode cX9_readAny 11 = .ok (.if_icmp .ge 38, 3) := by decide +kernel
theorem dX9_readAny_14 : decode cX9_readAny 14 = .ok (.aload_n 0, 1) := by decide +kernel
theorem dX9_readAny_15 : decode cX9_readAny 15 = .ok (.iconst 5, 1) := by decide +kernel
theorem dX9_readAny_16 : decode cX9_readAny 16 = .ok (.invokevirtual 94, 3) := by decide +kernel
theorem dX9_readAny_19 : decode cX9_readAny 19 = .ok (.ifCond .eq 30, 3) := by decide +kernel
theorem dX9_readAny_22 : decode cX9_readAny 22 = .ok (.aload_n 0, 1) := by decide +kernel
theorem dX9_readAny_23 : decode cX9_readAny 23 = .ok (.dup, 1) := by decide +kernel
theorem dX9_readAny_24 : decode cX9_readAny 24 = .ok (.getfield 46, 3) := by decide +kernel
theorem dX9_readAny_27 : decode cX9_readAny 27 = .ok (.iconst 1, 1) := by decide +kernel
theorem dX9_readAny_28 : decode cX9_readAny 28 = .ok (.iadd, 1) := by decide +kernel
theorem dX9_readAny_29 : decode cX9_readAny 29 = .ok (.putfield 46, 3) := by decide +kernel
theorem dX9_readAny_32 : decode cX9_readAny 32 = .ok (.aload_n 0, 1) := by decide +kernel
theorem dX9_readAny_33 : decode cX9_readAny 33 = .ok (.iload_n 1, 1) := by decide +kernel
theorem dX9_readAny_34 : decode cX9_readAny 34 = .ok (.invokevirtual 91, 3) := by decide +kernel
theorem dX9_readAny_37 : decode cX9_readAny 37 = .ok (.aload_n 0, 1) := by decide +kernel
theorem dX9_readAny_38 : decode cX9_readAny 38 = .ok (.bipush 21, 2) := by decide +kernel
theorem dX9_readAny_40 : decode cX9_readAny 40 = .ok (.invokevirtual 97, 3) := by decide +kernel
theorem dX9_readAny_43 : decode cX9_readAny 43 = .ok (.iinc 2 1, 3) := by decide +kernel
theorem dX9_readAny_46 : decode cX9_readAny 46 = .ok (.goto (-39), 3) := by decide +kernel
theorem dX9_readAny_49 : decode cX9_readAny 49 = .ok (.return_, 1) := by decide +kernel
theorem dX9_readEach_0 : decode cX9_readEach 0 = .ok (.aload_n 0, 1) := by decide +kernel
theorem dX9_readEach_1 : decode cX9_readEach 1 = .ok (.iload_n 1, 1) := by decide +kernel
theorem dX9_readEach_2 : decode cX9_readEach 2 = .ok (.invokevirtual 100, 3) := by decide +kernel
theorem dX9_readEach_5 : decode cX9_readEach 5 = .ok (.iconst 0, 1) := by decide +kernel
theorem dX9_readEach_6 : decode cX9_readEach 6 = .ok (.istore_n 2, 1) := by decide +kernel
theorem dX9_readEach_7 : decode cX9_readEach 7 = .ok (.iload_n 2, 1) := by decide +kernel
theorem dX9_readEach_8 : decode cX9_readEach 8 = .ok (.sipush 500, 3) := by decide +kernel
theorem dX9_readEach_11 : decode cX9_readEach 11 = .ok (.if_icmp .ge 38, 3) := by decide +kernel
theorem dX9_readEach_14 : decode cX9_readEach 14 = .ok (.aload_n 0, 1) := by decide +kernel
theorem dX9_readEach_15 : decode cX9_readEach 15 = .ok (.iconst 4, 1) := by decide +kernel
theorem dX9_readEach_16 : decode cX9_readEach 16 = .ok (.invokevirtual 94, 3) := by decide +kernel
theorem dX9_readEach_19 : decode cX9_readEach 19 = .ok (.ifCond .eq 30, 3) := by decide +kernel
theorem dX9_readEach_22 : decode cX9_readEach 22 = .ok (.aload_n 0, 1) := by decide +kernel
theorem dX9_readEach_23 : decode cX9_readEach 23 = .ok (.dup, 1) := by decide +kernel
theorem dX9_readEach_24 : decode cX9_readEach 24 = .ok (.getfield 46, 3) := by decide +kernel
theorem dX9_readEach_27 : decode cX9_readEach 27 = .ok (.iconst 1, 1) := by decide +kernel
theorem dX9_readEach_28 : decode cX9_readEach 28 = .ok (.iadd, 1) := by decide +kernel
theorem dX9_readEach_29 : decode cX9_readEach 29 = .ok (.putfield 46, 3) := by decide +kernel
theorem dX9_readEach_32 : decode cX9_readEach 32 = .ok (.aload_n 0, 1) := by decide +kernel
theorem dX9_readEach_33 : decode cX9_readEach 33 = .ok (.iload_n 1, 1) := by decide +kernel
theorem dX9_readEach_34 : decode cX9_readEach 34 = .ok (.invokevirtual 100, 3) := by decide +kernel
theorem dX9_readEach_37 : decode cX9_readEach 37 = .ok (.aload_n 0, 1) := by decide +kernel
theorem dX9_readEach_38 : decode cX9_readEach 38 = .ok (.bipush 20, 2) := by decide +kernel
theorem dX9_readEach_40 : decode cX9_readEach 40 = .ok (.invokevirtual 97, 3) := by decide +kernel
theorem dX9_readEach_43 : decode cX9_readEach 43 = .ok (.iinc 2 1, 3) := by decide +kernel
theorem dX9_readEach_46 : decode cX9_readEach 46 = .ok (.goto (-39), 3) := by decide +kernel
theorem dX9_readEach_49 : decode cX9_readEach 49 = .ok (.return_, 1) := by decide +kernel
theorem dX9_readHolds_0 : decode cX9_readHolds 0 = .ok (.aload_n 0, 1) := by decide +kernel
theorem dX9_readHolds_1 : decode cX9_readHolds 1 = .ok (.bipush 6, 2) := by decide +kernel
theorem dX9_readHolds_3 : decode cX9_readHolds 3 = .ok (.invokevirtual 94, 3) := by decide +kernel
theorem dX9_readHolds_6 : decode cX9_readHolds 6 = .ok (.ifCond .ne 12, 3) := by decide +kernel
theorem dX9_readHolds_9 : decode cX9_readHolds 9 = .ok (.aload_n 0, 1) := by decide +kernel
theorem dX9_readHolds_10 : decode cX9_readHolds 10 = .ok (.bipush 91, 2) := by decide +kernel
theorem dX9_readHolds_12 : decode cX9_readHolds 12 = .ok (.invokevirtual 94, 3) := by decide +kernel
theorem dX9_readHolds_15 : decode cX9_readHolds 15 = .ok (.ifCond .eq 7, 3) := by decide +kernel
theorem dX9_readHolds_18 : decode cX9_readHolds 18 = .ok (.iconst 1, 1) := by decide +kernel
theorem dX9_readHolds_19 : decode cX9_readHolds 19 = .ok (.goto 4, 3) := by decide +kernel
theorem dX9_readHolds_22 : decode cX9_readHolds 22 = .ok (.iconst 0, 1) := by decide +kernel
theorem dX9_readHolds_23 : decode cX9_readHolds 23 = .ok (.istore_n 2, 1) := by decide +kernel
theorem dX9_readHolds_24 : decode cX9_readHolds 24 = .ok (.iload_n 2, 1) := by decide +kernel
theorem dX9_readHolds_25 : decode cX9_readHolds 25 = .ok (.ifCond .eq 16, 3) := by decide +kernel
theorem dX9_readHolds_28 : decode cX9_readHolds 28 = .ok (.iload_n 1, 1) := by decide +kernel
theorem dX9_readHolds_29 : decode cX9_readHolds 29 = .ok (.bipush 8, 2) := by decide +kernel
theorem dX9_readHolds_31 : decode cX9_readHolds 31 = .ok (.if_icmp .lt 10, 3) := by decide +kernel
theorem dX9_readHolds_34 : decode cX9_readHolds 34 = .ok (.aload_n 0, 1) := by decide +kernel
theorem dX9_readHolds_35 : decode cX9_readHolds 35 = .ok (.invokevirtual 103, 3) := by decide +kernel
theorem dX9_readHolds_38 : decode cX9_readHolds 38 = .ok (.goto 124, 3) := by decide +kernel
theorem dX9_readHolds_41 : decode cX9_readHolds 41 = .ok (.aload_n 0, 1) := by decide +kernel
theorem dX9_readHolds_42 : decode cX9_readHolds 42 = .ok (.bipush 6, 2) := by decide +kernel
theorem dX9_readHolds_44 : decode cX9_readHolds 44 = .ok (.invokevirtual 94, 3) := by decide +kernel
theorem dX9_readHolds_47 : decode cX9_readHolds 47 = .ok (.ifCond .eq 29, 3) := by decide +kernel
theorem dX9_readHolds_50 : decode cX9_readHolds 50 = .ok (.aload_n 0, 1) := by decide +kernel
theorem dX9_readHolds_51 : decode cX9_readHolds 51 = .ok (.dup, 1) := by decide +kernel
theorem dX9_readHolds_52 : decode cX9_readHolds 52 = .ok (.getfield 46, 3) := by decide +kernel
theorem dX9_readHolds_55 : decode cX9_readHolds 55 = .ok (.iconst 1, 1) := by decide +kernel
theorem dX9_readHolds_56 : decode cX9_readHolds 56 = .ok (.iadd, 1) := by decide +kernel
theorem dX9_readHolds_57 : decode cX9_readHolds 57 = .ok (.putfield 46, 3) := by decide +kernel
theorem dX9_readHolds_60 : decode cX9_readHolds 60 = .ok (.aload_n 0, 1) := by decide +kernel
theorem dX9_readHolds_61 : decode cX9_readHolds 61 = .ok (.iload_n 1, 1) := by decide +kernel
theorem dX9_readHolds_62 : decode cX9_readHolds 62 = .ok (.iconst 1, 1) := by decide +kernel
theorem dX9_readHolds_63 : decode cX9_readHolds 63 = .ok (.iadd, 1) := by decide +kernel
theorem dX9_readHolds_64 : decode cX9_readHolds 64 = .ok (.invokevirtual 100, 3) := by decide +kernel
theorem dX9_readHolds_67 : decode cX9_readHolds 67 = .ok (.aload_n 0, 1) := by decide +kernel
theorem dX9_readHolds_68 : decode cX9_readHolds 68 = .ok (.bipush 22, 2) := by decide +kernel
theorem dX9_readHolds_70 : decode cX9_readHolds 70 = .ok (.invokevirtual 97, 3) := by decide +kernel
theorem dX9_readHolds_73 : decode cX9_readHolds 73 = .ok (.goto 89, 3) := by decide +kernel
theorem dX9_readHolds_76 : decode cX9_readHolds 76 = .ok (.aload_n 0, 1) := by decide +kernel
theorem dX9_readHolds_77 : decode cX9_readHolds 77 = .ok (.bipush 91, 2) := by decide +kernel
theorem dX9_readHolds_79 : decode cX9_readHolds 79 = .ok (.invokevirtual 94, 3) := by decide +kernel
theorem dX9_readHolds_82 : decode cX9_readHolds 82 = .ok (.ifCond .eq 29, 3) := by decide +kernel
theorem dX9_readHolds_85 : decode cX9_readHolds 85 = .ok (.aload_n 0, 1) := by decide +kernel
theorem dX9_readHolds_86 : decode cX9_readHolds 86 = .ok (.dup, 1) := by decide +kernel
theorem dX9_readHolds_87 : decode cX9_readHolds 87 = .ok (.getfield 46, 3) := by decide +kernel
theorem dX9_readHolds_90 : decode cX9_readHolds 90 = .ok (.iconst 1, 1) := by decide +kernel
theorem dX9_readHolds_91 : decode cX9_readHolds 91 = .ok (.iadd, 1) := by decide +kernel
theorem dX9_readHolds_92 : decode cX9_readHolds 92 = .ok (.putfield 46, 3) := by decide +kernel
theorem dX9_readHolds_95 : decode cX9_readHolds 95 = .ok (.aload_n 0, 1) := by decide +kernel
theorem dX9_readHolds_96 : decode cX9_readHolds 96 = .ok (.iload_n 1, 1) := by decide +kernel
theorem dX9_readHolds_97 : decode cX9_readHolds 97 = .ok (.iconst 1, 1) := by decide +kernel
theorem dX9_readHolds_98 : decode cX9_readHolds 98 = .ok (.iadd, 1) := by decide +kernel
theorem dX9_readHolds_99 : decode cX9_readHolds 99 = .ok (.invokevirtual 81, 3) := by decide +kernel
theorem dX9_readHolds_102 : decode cX9_readHolds 102 = .ok (.aload_n 0, 1) := by decide +kernel
theorem dX9_readHolds_103 : decode cX9_readHolds 103 = .ok (.bipush 93, 2) := by decide +kernel
theorem dX9_readHolds_105 : decode cX9_readHolds 105 = .ok (.invokevirtual 88, 3) := by decide +kernel
theorem dX9_readHolds_108 : decode cX9_readHolds 108 = .ok (.goto 54, 3) := by decide +kernel
theorem dX9_readHolds_111 : decode cX9_readHolds 111 = .ok (.aload_n 0, 1) := by decide +kernel
theorem dX9_readHolds_112 : decode cX9_readHolds 112 = .ok (.iload_n 1, 1) := by decide +kernel
theorem dX9_readHolds_113 : decode cX9_readHolds 113 = .ok (.invokevirtual 85, 3) := by decide +kernel
theorem dX9_readHolds_116 : decode cX9_readHolds 116 = .ok (.aload_n 0, 1) := by decide +kernel
theorem dX9_readHolds_117 : decode cX9_readHolds 117 = .ok (.bipush 60, 2) := by decide +kernel
theorem dX9_readHolds_119 : decode cX9_readHolds 119 = .ok (.invokevirtual 94, 3) := by decide +kernel
theorem dX9_readHolds_122 : decode cX9_readHolds 122 = .ok (.ifCond .eq 8, 3) := by decide +kernel
theorem dX9_readHolds_125 : decode cX9_readHolds 125 = .ok (.bipush 60, 2) := by decide +kernel
theorem dX9_readHolds_127 : decode cX9_readHolds 127 = .ok (.goto 19, 3) := by decide +kernel
theorem dX9_readHolds_130 : decode cX9_readHolds 130 = .ok (.aload_n 0, 1) := by decide +kernel
theorem dX9_readHolds_131 : decode cX9_readHolds 131 = .ok (.bipush 62, 2) := by decide +kernel
theorem dX9_readHolds_133 : decode cX9_readHolds 133 = .ok (.invokevirtual 94, 3) := by decide +kernel
theorem dX9_readHolds_136 : decode cX9_readHolds 136 = .ok (.ifCond .eq 8, 3) := by decide +kernel
theorem dX9_readHolds_139 : decode cX9_readHolds 139 = .ok (.bipush 62, 2) := by decide +kernel
theorem dX9_readHolds_141 : decode cX9_readHolds 141 = .ok (.goto 5, 3) := by decide +kernel
theorem dX9_readHolds_144 : decode cX9_readHolds 144 = .ok (.bipush 61, 2) := by decide +kernel
theorem dX9_readHolds_146 : decode cX9_readHolds 146 = .ok (.istore_n 3, 1) := by decide +kernel
theorem dX9_readHolds_147 : decode cX9_readHolds 147 = .ok (.aload_n 0, 1) := by decide +kernel
theorem dX9_readHolds_148 : decode cX9_readHolds 148 = .ok (.iload_n 3, 1) := by decide +kernel
theorem dX9_readHolds_149 : decode cX9_readHolds 149 = .ok (.invokevirtual 88, 3) := by decide +kernel
theorem dX9_readHolds_152 : decode cX9_readHolds 152 = .ok (.aload_n 0, 1) := by decide +kernel
theorem dX9_readHolds_153 : decode cX9_readHolds 153 = .ok (.iload_n 1, 1) := by decide +kernel
theorem dX9_readHolds_154 : decode cX9_readHolds 154 = .ok (.invokevirtual 85, 3) := by decide +kernel
theorem dX9_readHolds_157 : decode cX9_readHolds 157 = .ok (.aload_n 0, 1) := by decide +kernel
theorem dX9_readHolds_158 : decode cX9_readHolds 158 = .ok (.iload_n 3, 1) := by decide +kernel
theorem dX9_readHolds_159 : decode cX9_readHolds 159 = .ok (.invokevirtual 97, 3) := by decide +kernel
theorem dX9_readHolds_162 : decode cX9_readHolds 162 = .ok (.return_, 1) := by decide +kernel
theorem dX9_readSum_0 : decode cX9_readSum 0 = .ok (.aload_n 0, 1) := by decide +kernel
theorem dX9_readSum_1 : decode cX9_readSum 1 = .ok (.iload_n 1, 1) := by decide +kernel
theorem dX9_readSum_2 : decode cX9_readSum 2 = .ok (.invokevirtual 106, 3) := by decide +kernel
theorem dX9_readSum_5 : decode cX9_readSum 5 = .ok (.iconst 0, 1) := by decide +kernel
theorem dX9_readSum_6 : decode cX9_readSum 6 = .ok (.istore_n 2, 1) := by decide +kernel
theorem dX9_readSum_7 : decode cX9_readSum 7 = .ok (.iload_n 2, 1) := by decide +kernel
theorem dX9_readSum_8 : decode cX9_readSum 8 = .ok (.sipush 500, 3) := by decide +kernel
theorem dX9_readSum_11 : decode cX9_readSum 11 = .ok (.if_icmp .ge 57, 3) := by decide +kernel
theorem dX9_readSum_14 : decode cX9_readSum 14 = .ok (.aload_n 0, 1) := by decide +kernel
theorem dX9_readSum_15 : decode cX9_readSum 15 = .ok (.bipush 43, 2) := by decide +kernel
theorem dX9_readSum_17 : decode cX9_readSum 17 = .ok (.invokevirtual 94, 3) := by decide +kernel
theorem dX9_readSum_20 : decode cX9_readSum 20 = .ok (.ifCond .ne 12, 3) := by decide +kernel
theorem dX9_readSum_23 : decode cX9_readSum 23 = .ok (.aload_n 0, 1) := by decide +kernel
theorem dX9_readSum_24 : decode cX9_readSum 24 = .ok (.bipush 45, 2) := by decide +kernel
theorem dX9_readSum_26 : decode cX9_readSum 26 = .ok (.invokevirtual 94, 3) := by decide +kernel
theorem dX9_readSum_29 : decode cX9_readSum 29 = .ok (.ifCond .eq 39, 3) := by decide +kernel
theorem dX9_readSum_32 : decode cX9_readSum 32 = .ok (.aload_n 0, 1) := by decide +kernel
theorem dX9_readSum_33 : decode cX9_readSum 33 = .ok (.getfield 24, 3) := by decide +kernel
theorem dX9_readSum_36 : decode cX9_readSum 36 = .ok (.aload_n 0, 1) := by decide +kernel
theorem dX9_readSum_37 : decode cX9_readSum 37 = .ok (.getfield 46, 3) := by decide +kernel
theorem dX9_readSum_40 : decode cX9_readSum 40 = .ok (.iaload, 1) := by decide +kernel
theorem dX9_readSum_41 : decode cX9_readSum 41 = .ok (.istore_n 3, 1) := by decide +kernel
theorem dX9_readSum_42 : decode cX9_readSum 42 = .ok (.aload_n 0, 1) := by decide +kernel
theorem dX9_readSum_43 : decode cX9_readSum 43 = .ok (.dup, 1) := by decide +kernel
theorem dX9_readSum_44 : decode cX9_readSum 44 = .ok (.getfield 46, 3) := by decide +kernel
theorem dX9_readSum_47 : decode cX9_readSum 47 = .ok (.iconst 1, 1) := by decide +kernel
theorem dX9_readSum_48 : decode cX9_readSum 48 = .ok (.iadd, 1) := by decide +kernel
theorem dX9_readSum_49 : decode cX9_readSum 49 = .ok (.putfield 46, 3) := by decide +kernel
theorem dX9_readSum_52 : decode cX9_readSum 52 = .ok (.aload_n 0, 1) := by decide +kernel
theorem dX9_readSum_53 : decode cX9_readSum 53 = .ok (.iload_n 1, 1) := by decide +kernel
theorem dX9_readSum_54 : decode cX9_readSum 54 = .ok (.invokevirtual 106, 3) := by decide +kernel
theorem dX9_readSum_57 : decode cX9_readSum 57 = .ok (.aload_n 0, 1) := by decide +kernel
theorem dX9_readSum_58 : decode cX9_readSum 58 = .ok (.iload_n 3, 1) := by decide +kernel
theorem dX9_readSum_59 : decode cX9_readSum 59 = .ok (.invokevirtual 97, 3) := by decide +kernel
theorem dX9_readSum_62 : decode cX9_readSum 62 = .ok (.iinc 2 1, 3) := by decide +kernel
theorem dX9_readSum_65 : decode cX9_readSum 65 = .ok (.goto (-58), 3) := by decide +kernel
theorem dX9_readSum_68 : decode cX9_readSum 68 = .ok (.return_, 1) := by decide +kernel
theorem dX9_readProduct_0 : decode cX9_readProduct 0 = .ok (.aload_n 0, 1) := by decide +kernel
theorem dX9_readProduct_1 : decode cX9_readProduct 1 = .ok (.iload_n 1, 1) := by decide +kernel
theorem dX9_readProduct_2 : decode cX9_readProduct 2 = .ok (.invokevirtual 109, 3) := by decide +kernel
theorem dX9_readProduct_5 : decode cX9_readProduct 5 = .ok (.iconst 0, 1) := by decide +kernel
theorem dX9_readProduct_6 : decode cX9_readProduct 6 = .ok (.istore_n 2, 1) := by decide +kernel
theorem dX9_readProduct_7 : decode cX9_readProduct 7 = .ok (.iload_n 2, 1) := by decide +kernel
theorem dX9_readProduct_8 : decode cX9_readProduct 8 = .ok (.sipush 500, 3) := by decide +kernel
theorem dX9_readProduct_11 : decode cX9_readProduct 11 = .ok (.if_icmp .ge 57, 3) := by decide +kernel
theorem dX9_readProduct_14 : decode cX9_readProduct 14 = .ok (.aload_n 0, 1) := by decide +kernel
theorem dX9_readProduct_15 : decode cX9_readProduct 15 = .ok (.bipush 42, 2) := by decide +kernel
theorem dX9_readProduct_17 : decode cX9_readProduct 17 = .ok (.invokevirtual 94, 3) := by decide +kernel
theorem dX9_readProduct_20 : decode cX9_readProduct 20 = .ok (.ifCond .ne 12, 3) := by decide +kernel
theorem dX9_readProduct_23 : decode cX9_readProduct 23 = .ok (.aload_n 0, 1) := by decide +kernel
theorem dX9_readProduct_24 : decode cX9_readProduct 24 = .ok (.bipush 47, 2) := by decide +kernel
theorem dX9_readProduct_26 : decode cX9_readProduct 26 = .ok (.invokevirtual 94, 3) := by decide +kernel
theorem dX9_readProduct_29 : decode cX9_readProduct 29 = .ok (.ifCond .eq 39, 3) := by decide +kernel
theorem dX9_readProduct_32 : decode cX9_readProduct 32 = .ok (.aload_n 0, 1) := by decide +kernel
theorem dX9_readProduct_33 : decode cX9_readProduct 33 = .ok (.getfield 24, 3) := by decide +kernel
theorem dX9_readProduct_36 : decode cX9_readProduct 36 = .ok (.aload_n 0, 1) := by decide +kernel
theorem dX9_readProduct_37 : decode cX9_readProduct 37 = .ok (.getfield 46, 3) := by decide +kernel
theorem dX9_readProduct_40 : decode cX9_readProduct 40 = .ok (.iaload, 1) := by decide +kernel
theorem dX9_readProduct_41 : decode cX9_readProduct 41 = .ok (.istore_n 3, 1) := by decide +kernel
theorem dX9_readProduct_42 : decode cX9_readProduct 42 = .ok (.aload_n 0, 1) := by decide +kernel
theorem dX9_readProduct_43 : decode cX9_readProduct 43 = .ok (.dup, 1) := by decide +kernel
theorem dX9_readProduct_44 : decode cX9_readProduct 44 = .ok (.getfield 46, 3) := by decide +kernel
theorem dX9_readProduct_47 : decode cX9_readProduct 47 = .ok (.iconst 1, 1) := by decide +kernel
theorem dX9_readProduct_48 : decode cX9_readProduct 48 = .ok (.iadd, 1) := by decide +kernel
theorem dX9_readProduct_49 : decode cX9_readProduct 49 = .ok (.putfield 46, 3) := by decide +kernel
theorem dX9_readProduct_52 : decode cX9_readProduct 52 = .ok (.aload_n 0, 1) := by decide +kernel
theorem dX9_readProduct_53 : decode cX9_readProduct 53 = .ok (.iload_n 1, 1) := by decide +kernel
theorem dX9_readProduct_54 : decode cX9_readProduct 54 = .ok (.invokevirtual 109, 3) := by decide +kernel
theorem dX9_readProduct_57 : decode cX9_readProduct 57 = .ok (.aload_n 0, 1) := by decide +kernel
theorem dX9_readProduct_58 : decode cX9_readProduct 58 = .ok (.iload_n 3, 1) := by decide +kernel
theorem dX9_readProduct_59 : decode cX9_readProduct 59 = .ok (.invokevirtual 97, 3) := by decide +kernel
theorem dX9_readProduct_62 : decode cX9_readProduct 62 = .ok (.iinc 2 1, 3) := by decide +kernel
theorem dX9_readProduct_65 : decode cX9_readProduct 65 = .ok (.goto (-58), 3) := by decide +kernel
theorem dX9_readProduct_68 : decode cX9_readProduct 68 = .ok (.return_, 1) := by decide +kernel
theorem dX9_readFactor_0 : decode cX9_readFactor 0 = .ok (.aload_n 0, 1) := by decide +kernel
theorem dX9_readFactor_1 : decode cX9_readFactor 1 = .ok (.iconst 1, 1) := by decide +kernel
theorem dX9_readFactor_2 : decode cX9_readFactor 2 = .ok (.invokevirtual 94, 3) := by decide +kernel
theorem dX9_readFactor_5 : decode cX9_readFactor 5 = .ok (.ifCond .eq 33, 3) := by decide +kernel
theorem dX9_readFactor_8 : decode cX9_readFactor 8 = .ok (.aload_n 0, 1) := by decide +kernel
theorem dX9_readFactor_9 : decode cX9_readFactor 9 = .ok (.sipush 1000, 3) := by decide +kernel
theorem dX9_readFactor_12 : decode cX9_readFactor 12 = .ok (.aload_n 0, 1) := by decide +kernel
theorem dX9_readFactor_13 : decode cX9_readFactor 13 = .ok (.getfield 27, 3) := by decide +kernel
theorem dX9_readFactor_16 : decode cX9_readFactor 16 = .ok (.aload_n 0, 1) := by decide +kernel
theorem dX9_readFactor_17 : decode cX9_readFactor 17 = .ok (.getfield 46, 3) := by decide +kernel
theorem dX9_readFactor_20 : decode cX9_readFactor 20 = .ok (.iaload, 1) := by decide +kernel
theorem dX9_readFactor_21 : decode cX9_readFactor 21 = .ok (.iadd, 1) := by decide +kernel
theorem dX9_readFactor_22 : decode cX9_readFactor 22 = .ok (.invokevirtual 97, 3) := by decide +kernel
theorem dX9_readFactor_25 : decode cX9_readFactor 25 = .ok (.aload_n 0, 1) := by decide +kernel
theorem dX9_readFactor_26 : decode cX9_readFactor 26 = .ok (.dup, 1) := by decide +kernel
theorem dX9_readFactor_27 : decode cX9_readFactor 27 = .ok (.getfield 46, 3) := by decide +kernel
theorem dX9_readFactor_30 : decode cX9_readFactor 30 = .ok (.iconst 1, 1) := by decide +kernel
theorem dX9_readFactor_31 : decode cX9_readFactor 31 = .ok (.iadd, 1) := by decide +kernel
theorem dX9_readFactor_32 : decode cX9_readFactor 32 = .ok (.putfield 46, 3) := by decide +kernel
theorem dX9_readFactor_35 : decode cX9_readFactor 35 = .ok (.goto 82, 3) := by decide +kernel
theorem dX9_readFactor_38 : decode cX9_readFactor 38 = .ok (.aload_n 0, 1) := by decide +kernel
theorem dX9_readFactor_39 : decode cX9_readFactor 39 = .ok (.iconst 2, 1) := by decide +kernel
theorem dX9_readFactor_40 : decode cX9_readFactor 40 = .ok (.invokevirtual 94, 3) := by decide +kernel
theorem dX9_readFactor_43 : decode cX9_readFactor 43 = .ok (.ifCond .eq 29, 3) := by decide +kernel
theorem dX9_readFactor_46 : decode cX9_readFactor 46 = .ok (.aload_n 0, 1) := by decide +kernel
theorem dX9_readFactor_47 : decode cX9_readFactor 47 = .ok (.aload_n 0, 1) := by decide +kernel
theorem dX9_readFactor_48 : decode cX9_readFactor 48 = .ok (.getfield 27, 3) := by decide +kernel
theorem dX9_readFactor_51 : decode cX9_readFactor 51 = .ok (.aload_n 0, 1) := by decide +kernel
theorem dX9_readFactor_52 : decode cX9_readFactor 52 = .ok (.getfield 46, 3) := by decide +kernel
theorem dX9_readFactor_55 : decode cX9_readFactor 55 = .ok (.iaload, 1) := by decide +kernel
theorem dX9_readFactor_56 : decode cX9_readFactor 56 = .ok (.invokevirtual 97, 3) := by decide +kernel
theorem dX9_readFactor_59 : decode cX9_readFactor 59 = .ok (.aload_n 0, 1) := by decide +kernel
theorem dX9_readFactor_60 : decode cX9_readFactor 60 = .ok (.dup, 1) := by decide +kernel
theorem dX9_readFactor_61 : decode cX9_readFactor 61 = .ok (.getfield 46, 3) := by decide +kernel
theorem dX9_readFactor_64 : decode cX9_readFactor 64 = .ok (.iconst 1, 1) := by decide +kernel
theorem dX9_readFactor_65 : decode cX9_readFactor 65 = .ok (.iadd, 1) := by decide +kernel
theorem dX9_readFactor_66 : decode cX9_readFactor 66 = .ok (.putfield 46, 3) := by decide +kernel
theorem dX9_readFactor_69 : decode cX9_readFactor 69 = .ok (.goto 48, 3) := by decide +kernel
theorem dX9_readFactor_72 : decode cX9_readFactor 72 = .ok (.aload_n 0, 1) := by decide +kernel
theorem dX9_readFactor_73 : decode cX9_readFactor 73 = .ok (.bipush 40, 2) := by decide +kernel
theorem dX9_readFactor_75 : decode cX9_readFactor 75 = .ok (.invokevirtual 94, 3) := by decide +kernel
theorem dX9_readFactor_78 : decode cX9_readFactor 78 = .ok (.ifCond .eq 35, 3) := by decide +kernel
theorem dX9_readFactor_81 : decode cX9_readFactor 81 = .ok (.iload_n 1, 1) := by decide +kernel
theorem dX9_readFactor_82 : decode cX9_readFactor 82 = .ok (.bipush 8, 2) := by decide +kernel
theorem dX9_readFactor_84 : decode cX9_readFactor 84 = .ok (.if_icmp .ge 29, 3) := by decide +kernel
theorem dX9_readFactor_87 : decode cX9_readFactor 87 = .ok (.aload_n 0, 1) := by decide +kernel
theorem dX9_readFactor_88 : decode cX9_readFactor 88 = .ok (.dup, 1) := by decide +kernel
theorem dX9_readFactor_89 : decode cX9_readFactor 89 = .ok (.getfield 46, 3) := by decide +kernel
theorem dX9_readFactor_92 : decode cX9_readFactor 92 = .ok (.iconst 1, 1) := by decide +kernel
theorem dX9_readFactor_93 : decode cX9_readFactor 93 = .ok (.iadd, 1) := by decide +kernel
theorem dX9_readFactor_94 : decode cX9_readFactor 94 = .ok (.putfield 46, 3) := by decide +kernel
theorem dX9_readFactor_97 : decode cX9_readFactor 97 = .ok (.aload_n 0, 1) := by decide +kernel
theorem dX9_readFactor_98 : decode cX9_readFactor 98 = .ok (.iload_n 1, 1) := by decide +kernel
theorem dX9_readFactor_99 : decode cX9_readFactor 99 = .ok (.iconst 1, 1) := by decide +kernel
theorem dX9_readFactor_100 : decode cX9_readFactor 100 = .ok (.iadd, 1) := by decide +kernel
theorem dX9_readFactor_101 : decode cX9_readFactor 101 = .ok (.invokevirtual 85, 3) := by decide +kernel
theorem dX9_readFactor_104 : decode cX9_readFactor 104 = .ok (.aload_n 0, 1) := by decide +kernel
theorem dX9_readFactor_105 : decode cX9_readFactor 105 = .ok (.bipush 41, 2) := by decide +kernel
theorem dX9_readFactor_107 : decode cX9_readFactor 107 = .ok (.invokevirtual 88, 3) := by decide +kernel
theorem dX9_readFactor_110 : decode cX9_readFactor 110 = .ok (.goto 7, 3) := by decide +kernel
theorem dX9_readFactor_113 : decode cX9_readFactor 113 = .ok (.aload_n 0, 1) := by decide +kernel
theorem dX9_readFactor_114 : decode cX9_readFactor 114 = .ok (.invokevirtual 103, 3) := by decide +kernel
theorem dX9_readFactor_117 : decode cX9_readFactor 117 = .ok (.return_, 1) := by decide +kernel
theorem dX9_isNext_0 : decode cX9_isNext 0 = .ok (.aload_n 0, 1) := by decide +kernel
theorem dX9_isNext_1 : decode cX9_isNext 1 = .ok (.getfield 40, 3) := by decide +kernel
theorem dX9_isNext_4 : decode cX9_isNext 4 = .ok (.iconst (-1), 1) := by decide +kernel
theorem dX9_isNext_5 : decode cX9_isNext 5 = .ok (.if_icmp .ne 31, 3) := by decide +kernel
theorem dX9_isNext_8 : decode cX9_isNext 8 = .ok (.aload_n 0, 1) := by decide +kernel
theorem dX9_isNext_9 : decode cX9_isNext 9 = .ok (.getfield 46, 3) := by decide +kernel
theorem dX9_isNext_12 : decode cX9_isNext 12 = .ok (.aload_n 0, 1) := by decide +kernel
theorem dX9_isNext_13 : decode cX9_isNext 13 = .ok (.getfield 52, 3) := by decide +kernel
theorem dX9_isNext_16 : decode cX9_isNext 16 = .ok (.if_icmp .ge 20, 3) := by decide +kernel
theorem dX9_isNext_19 : decode cX9_isNext 19 = .ok (.aload_n 0, 1) := by decide +kernel
theorem dX9_isNext_20 : decode cX9_isNext 20 = .ok (.getfield 24, 3) := by decide +kernel
theorem dX9_isNext_23 : decode cX9_isNext 23 = .ok (.aload_n 0, 1) := by decide +kernel
theorem dX9_isNext_24 : decode cX9_isNext 24 = .ok (.getfield 46, 3) := by decide +kernel
theorem dX9_isNext_27 : decode cX9_isNext 27 = .ok (.iaload, 1) := by decide +kernel
theorem dX9_isNext_28 : decode cX9_isNext 28 = .ok (.iload_n 1, 1) := by decide +kernel
theorem dX9_isNext_29 : decode cX9_isNext 29 = .ok (.if_icmp .ne 7, 3) := by decide +kernel
theorem dX9_isNext_32 : decode cX9_isNext 32 = .ok (.iconst 1, 1) := by decide +kernel
theorem dX9_isNext_33 : decode cX9_isNext 33 = .ok (.goto 4, 3) := by decide +kernel
theorem dX9_isNext_36 : decode cX9_isNext 36 = .ok (.iconst 0, 1) := by decide +kernel
theorem dX9_isNext_37 : decode cX9_isNext 37 = .ok (.ireturn, 1) := by decide +kernel
theorem dX9_pass_0 : decode cX9_pass 0 = .ok (.aload_n 0, 1) := by decide +kernel
theorem dX9_pass_1 : decode cX9_pass 1 = .ok (.iload_n 1, 1) := by decide +kernel
theorem dX9_pass_2 : decode cX9_pass 2 = .ok (.invokevirtual 94, 3) := by decide +kernel
theorem dX9_pass_5 : decode cX9_pass 5 = .ok (.ifCond .eq 16, 3) := by decide +kernel
theorem dX9_pass_8 : decode cX9_pass 8 = .ok (.aload_n 0, 1) := by decide +kernel
theorem dX9_pass_9 : decode cX9_pass 9 = .ok (.dup, 1) := by decide +kernel
theorem dX9_pass_10 : decode cX9_pass 10 = .ok (.getfield 46, 3) := by decide +kernel
theorem dX9_pass_13 : decode cX9_pass 13 = .ok (.iconst 1, 1) := by decide +kernel
theorem dX9_pass_14 : decode cX9_pass 14 = .ok (.iadd, 1) := by decide +kernel
theorem dX9_pass_15 : decode cX9_pass 15 = .ok (.putfield 46, 3) := by decide +kernel
theorem dX9_pass_18 : decode cX9_pass 18 = .ok (.goto 7, 3) := by decide +kernel
theorem dX9_pass_21 : decode cX9_pass 21 = .ok (.aload_n 0, 1) := by decide +kernel
theorem dX9_pass_22 : decode cX9_pass 22 = .ok (.invokevirtual 103, 3) := by decide +kernel
theorem dX9_pass_25 : decode cX9_pass 25 = .ok (.return_, 1) := by decide +kernel
theorem dX9_fail_0 : decode cX9_fail 0 = .ok (.aload_n 0, 1) := by decide +kernel
theorem dX9_fail_1 : decode cX9_fail 1 = .ok (.getfield 40, 3) := by decide +kernel
theorem dX9_fail_4 : decode cX9_fail 4 = .ok (.iconst (-1), 1) := by decide +kernel
theorem dX9_fail_5 : decode cX9_fail 5 = .ok (.if_icmp .ne 27, 3) := by decide +kernel
theorem dX9_fail_8 : decode cX9_fail 8 = .ok (.aload_n 0, 1) := by decide +kernel
theorem dX9_fail_9 : decode cX9_fail 9 = .ok (.getfield 46, 3) := by decide +kernel
theorem dX9_fail_12 : decode cX9_fail 12 = .ok (.aload_n 0, 1) := by decide +kernel
theorem dX9_fail_13 : decode cX9_fail 13 = .ok (.getfield 52, 3) := by decide +kernel
theorem dX9_fail_16 : decode cX9_fail 16 = .ok (.if_icmp .ge 16, 3) := by decide +kernel
theorem dX9_fail_19 : decode cX9_fail 19 = .ok (.aload_n 0, 1) := by decide +kernel
theorem dX9_fail_20 : decode cX9_fail 20 = .ok (.aload_n 0, 1) := by decide +kernel
theorem dX9_fail_21 : decode cX9_fail 21 = .ok (.getfield 30, 3) := by decide +kernel
theorem dX9_fail_24 : decode cX9_fail 24 = .ok (.aload_n 0, 1) := by decide +kernel
theorem dX9_fail_25 : decode cX9_fail 25 = .ok (.getfield 46, 3) := by decide +kernel
theorem dX9_fail_28 : decode cX9_fail 28 = .ok (.iaload, 1) := by decide +kernel
theorem dX9_fail_29 : decode cX9_fail 29 = .ok (.putfield 40, 3) := by decide +kernel
theorem dX9_fail_32 : decode cX9_fail 32 = .ok (.return_, 1) := by decide +kernel
theorem dX9_put_0 : decode cX9_put 0 = .ok (.aload_n 0, 1) := by decide +kernel
theorem dX9_put_1 : decode cX9_put 1 = .ok (.getfield 43, 3) := by decide +kernel
theorem dX9_put_4 : decode cX9_put 4 = .ok (.sipush 500, 3) := by decide +kernel
theorem dX9_put_7 : decode cX9_put 7 = .ok (.if_icmp .ge 23, 3) := by decide +kernel
theorem dX9_put_10 : decode cX9_put 10 = .ok (.aload_n 0, 1) := by decide +kernel
theorem dX9_put_11 : decode cX9_put 11 = .ok (.getfield 9, 3) := by decide +kernel
theorem dX9_put_14 : decode cX9_put 14 = .ok (.aload_n 0, 1) := by decide +kernel
theorem dX9_put_15 : decode cX9_put 15 = .ok (.getfield 43, 3) := by decide +kernel
theorem dX9_put_18 : decode cX9_put 18 = .ok (.iload_n 1, 1) := by decide +kernel
theorem dX9_put_19 : decode cX9_put 19 = .ok (.iastore, 1) := by decide +kernel
theorem dX9_put_20 : decode cX9_put 20 = .ok (.aload_n 0, 1) := by decide +kernel
theorem dX9_put_21 : decode cX9_put 21 = .ok (.dup, 1) := by decide +kernel
theorem dX9_put_22 : decode cX9_put 22 = .ok (.getfield 43, 3) := by decide +kernel
theorem dX9_put_25 : decode cX9_put 25 = .ok (.iconst 1, 1) := by decide +kernel
theorem dX9_put_26 : decode cX9_put 26 = .ok (.iadd, 1) := by decide +kernel
theorem dX9_put_27 : decode cX9_put 27 = .ok (.putfield 43, 3) := by decide +kernel
theorem dX9_put_30 : decode cX9_put 30 = .ok (.return_, 1) := by decide +kernel
theorem dX9_wordOf_0 : decode cX9_wordOf 0 = .ok (.iconst 0, 1) := by decide +kernel
theorem dX9_wordOf_1 : decode cX9_wordOf 1 = .ok (.istore_n 3, 1) := by decide +kernel
theorem dX9_wordOf_2 : decode cX9_wordOf 2 = .ok (.iconst 0, 1) := by decide +kernel
theorem dX9_wordOf_3 : decode cX9_wordOf 3 = .ok (.istore 4, 2) := by decide +kernel
theorem dX9_wordOf_5 : decode cX9_wordOf 5 = .ok (.iconst 0, 1) := by decide +kernel
theorem dX9_wordOf_6 : decode cX9_wordOf 6 = .ok (.istore 5, 2) := by decide +kernel
theorem dX9_wordOf_8 : decode cX9_wordOf 8 = .ok (.iload 5, 2) := by decide +kernel
theorem dX9_wordOf_10 : decode cX9_wordOf 10 = .ok (.ldc 112, 2) := by decide +kernel
theorem dX9_wordOf_12 : decode cX9_wordOf 12 = .ok (.invokevirtual 114, 3) := by decide +kernel
theorem dX9_wordOf_15 : decode cX9_wordOf 15 = .ok (.if_icmp .ge 54, 3) := by decide +kernel
theorem dX9_wordOf_18 : decode cX9_wordOf 18 = .ok (.ldc 112, 2) := by decide +kernel
theorem dX9_wordOf_20 : decode cX9_wordOf 20 = .ok (.iload 5, 2) := by decide +kernel
theorem dX9_wordOf_22 : decode cX9_wordOf 22 = .ok (.invokevirtual 119, 3) := by decide +kernel
theorem dX9_wordOf_25 : decode cX9_wordOf 25 = .ok (.bipush 32, 2) := by decide +kernel
theorem dX9_wordOf_27 : decode cX9_wordOf 27 = .ok (.if_icmp .ne 36, 3) := by decide +kernel
theorem dX9_wordOf_30 : decode cX9_wordOf 30 = .ok (.iload 5, 2) := by decide +kernel
theorem dX9_wordOf_32 : decode cX9_wordOf 32 = .ok (.iload 4, 2) := by decide +kernel
theorem dX9_wordOf_34 : decode cX9_wordOf 34 = .ok (.isub, 1) := by decide +kernel
theorem dX9_wordOf_35 : decode cX9_wordOf 35 = .ok (.iload_n 2, 1) := by decide +kernel
theorem dX9_wordOf_36 : decode cX9_wordOf 36 = .ok (.iload_n 1, 1) := by decide +kernel
theorem dX9_wordOf_37 : decode cX9_wordOf 37 = .ok (.isub, 1) := by decide +kernel
theorem dX9_wordOf_38 : decode cX9_wordOf 38 = .ok (.if_icmp .ne 16, 3) := by decide +kernel
theorem dX9_wordOf_41 : decode cX9_wordOf 41 = .ok (.aload_n 0, 1) := by decide +kernel
theorem dX9_wordOf_42 : decode cX9_wordOf 42 = .ok (.iload 4, 2) := by decide +kernel
theorem dX9_wordOf_44 : decode cX9_wordOf 44 = .ok (.iload_n 1, 1) := by decide +kernel
theorem dX9_wordOf_45 : decode cX9_wordOf 45 = .ok (.iload_n 2, 1) := by decide +kernel
theorem dX9_wordOf_46 : decode cX9_wordOf 46 = .ok (.invokevirtual 123, 3) := by decide +kernel
theorem dX9_wordOf_49 : decode cX9_wordOf 49 = .ok (.ifCond .eq 5, 3) := by decide +kernel
theorem dX9_wordOf_52 : decode cX9_wordOf 52 = .ok (.iload_n 3, 1) := by decide +kernel
theorem dX9_wordOf_53 : decode cX9_wordOf 53 = .ok (.ireturn, 1) := by decide +kernel
theorem dX9_wordOf_54 : decode cX9_wordOf 54 = .ok (.iinc 3 1, 3) := by decide +kernel
theorem dX9_wordOf_57 : decode cX9_wordOf 57 = .ok (.iload 5, 2) := by decide +kernel
theorem dX9_wordOf_59 : decode cX9_wordOf 59 = .ok (.iconst 1, 1) := by decide +kernel
theorem dX9_wordOf_60 : decode cX9_wordOf 60 = .ok (.iadd, 1) := by decide +kernel
theorem dX9_wordOf_61 : decode cX9_wordOf 61 = .ok (.istore 4, 2) := by decide +kernel
theorem dX9_wordOf_63 : decode cX9_wordOf 63 = .ok (.iinc 5 1, 3) := by decide +kernel
theorem dX9_wordOf_66 : decode cX9_wordOf 66 = .ok (.goto (-58), 3) := by decide +kernel
theorem dX9_wordOf_69 : decode cX9_wordOf 69 = .ok (.iconst (-1), 1) := by decide +kernel
theorem dX9_wordOf_70 : decode cX9_wordOf 70 = .ok (.ireturn, 1) := by decide +kernel
theorem dX9_isWordAt_0 : decode cX9_isWordAt 0 = .ok (.iconst 0, 1) := by decide +kernel
theorem dX9_isWordAt_1 : decode cX9_isWordAt 1 = .ok (.istore 4, 2) := by decide +kernel
theorem dX9_isWordAt_3 : decode cX9_isWordAt 3 = .ok (.iload 4, 2) := by decide +kernel
theorem dX9_isWordAt_5 : decode cX9_isWordAt 5 = .ok (.iload_n 3, 1) := by decide +kernel
theorem dX9_isWordAt_6 : decode cX9_isWordAt 6 = .ok (.iload_n 2, 1) := by decide +kernel
theorem dX9_isWordAt_7 : decode cX9_isWordAt 7 = .ok (.isub, 1) := by decide +kernel
theorem dX9_isWordAt_8 : decode cX9_isWordAt 8 = .ok (.if_icmp .ge 32, 3) := by decide +kernel
theorem dX9_isWordAt_11 : decode cX9_isWordAt 11 = .ok (.ldc 112, 2) := by decide +kernel
theorem dX9_isWordAt_13 : decode cX9_isWordAt 13 = .ok (.iload_n 1, 1) := by decide +kernel
theorem dX9_isWordAt_14 : decode cX9_isWordAt 14 = .ok (.iload 4, 2) := by decide +kernel
theorem dX9_isWordAt_16 : decode cX9_isWordAt 16 = .ok (.iadd, 1) := by decide +kernel
theorem dX9_isWordAt_17 : decode cX9_isWordAt 17 = .ok (.invokevirtual 119, 3) := by decide +kernel
theorem dX9_isWordAt_20 : decode cX9_isWordAt 20 = .ok (.aload_n 0, 1) := by decide +kernel
theorem dX9_isWordAt_21 : decode cX9_isWordAt 21 = .ok (.getfield 21, 3) := by decide +kernel
theorem dX9_isWordAt_24 : decode cX9_isWordAt 24 = .ok (.iload_n 2, 1) := by decide +kernel
theorem dX9_isWordAt_25 : decode cX9_isWordAt 25 = .ok (.iload 4, 2) := by decide +kernel
theorem dX9_isWordAt_27 : decode cX9_isWordAt 27 = .ok (.iadd, 1) := by decide +kernel
theorem dX9_isWordAt_28 : decode cX9_isWordAt 28 = .ok (.iaload, 1) := by decide +kernel
theorem dX9_isWordAt_29 : decode cX9_isWordAt 29 = .ok (.if_icmp .eq 5, 3) := by decide +kernel
theorem dX9_isWordAt_32 : decode cX9_isWordAt 32 = .ok (.iconst 0, 1) := by decide +kernel
theorem dX9_isWordAt_33 : decode cX9_isWordAt 33 = .ok (.ireturn, 1) := by decide +kernel
theorem dX9_isWordAt_34 : decode cX9_isWordAt 34 = .ok (.iinc 4 1, 3) := by decide +kernel
theorem dX9_isWordAt_37 : decode cX9_isWordAt 37 = .ok (.goto (-34), 3) := by decide +kernel
theorem dX9_isWordAt_40 : decode cX9_isWordAt 40 = .ok (.iconst 1, 1) := by decide +kernel
theorem dX9_isWordAt_41 : decode cX9_isWordAt 41 = .ok (.ireturn, 1) := by decide +kernel
theorem dX9_isLetter_0 : decode cX9_isLetter 0 = .ok (.iload_n 0, 1) := by decide +kernel
theorem dX9_isLetter_1 : decode cX9_isLetter 1 = .ok (.bipush 97, 2) := by decide +kernel
theorem dX9_isLetter_3 : decode cX9_isLetter 3 = .ok (.if_icmp .lt 13, 3) := by decide +kernel
theorem dX9_isLetter_6 : decode cX9_isLetter 6 = .ok (.iload_n 0, 1) := by decide +kernel
theorem dX9_isLetter_7 : decode cX9_isLetter 7 = .ok (.bipush 122, 2) := by decide +kernel
theorem dX9_isLetter_9 : decode cX9_isLetter 9 = .ok (.if_icmp .gt 7, 3) := by decide +kernel
theorem dX9_isLetter_12 : decode cX9_isLetter 12 = .ok (.iconst 1, 1) := by decide +kernel
theorem dX9_isLetter_13 : decode cX9_isLetter 13 = .ok (.goto 4, 3) := by decide +kernel
theorem dX9_isLetter_16 : decode cX9_isLetter 16 = .ok (.iconst 0, 1) := by decide +kernel
theorem dX9_isLetter_17 : decode cX9_isLetter 17 = .ok (.ireturn, 1) := by decide +kernel
theorem dX9_isDigit_0 : decode cX9_isDigit 0 = .ok (.iload_n 0, 1) := by decide +kernel
theorem dX9_isDigit_1 : decode cX9_isDigit 1 = .ok (.bipush 48, 2) := by decide +kernel
theorem dX9_isDigit_3 : decode cX9_isDigit 3 = .ok (.if_icmp .lt 13, 3) := by decide +kernel
theorem dX9_isDigit_6 : decode cX9_isDigit 6 = .ok (.iload_n 0, 1) := by decide +kernel
theorem dX9_isDigit_7 : decode cX9_isDigit 7 = .ok (.bipush 57, 2) := by decide +kernel
theorem dX9_isDigit_9 : decode cX9_isDigit 9 = .ok (.if_icmp .gt 7, 3) := by decide +kernel
theorem dX9_isDigit_12 : decode cX9_isDigit 12 = .ok (.iconst 1, 1) := by decide +kernel
theorem dX9_isDigit_13 : decode cX9_isDigit 13 = .ok (.goto 4, 3) := by decide +kernel
theorem dX9_isDigit_16 : decode cX9_isDigit 16 = .ok (.iconst 0, 1) := by decide +kernel
theorem dX9_isDigit_17 : decode cX9_isDigit 17 = .ok (.ireturn, 1) := by decide +kernel
theorem dX9_isSign_0 : decode cX9_isSign 0 = .ok (.iload_n 0, 1) := by decide +kernel
theorem dX9_isSign_1 : decode cX9_isSign 1 = .ok (.lookupswitch 109 #[(40, 107), (41, 107), (42, 107), (43, 107), (45, 107), (47, 107), (59, 107), (60, 107), (61, 107), (62, 107), (91, 107), (93, 107)], 107) := by decide +kernel
theorem dX9_isSign_108 : decode cX9_isSign 108 = .ok (.iconst 1, 1) := by decide +kernel
theorem dX9_isSign_109 : decode cX9_isSign 109 = .ok (.ireturn, 1) := by decide +kernel
theorem dX9_isSign_110 : decode cX9_isSign 110 = .ok (.iconst 0, 1) := by decide +kernel
theorem dX9_isSign_111 : decode cX9_isSign 111 = .ok (.ireturn, 1) := by decide +kernel
theorem dX10_init_0 : decode cX10_init 0 = .ok (.aload_n 0, 1) := by decide +kernel
theorem dX10_init_1 : decode cX10_init 1 = .ok (.invokespecial 3, 3) := by decide +kernel
theorem dX10_init_4 : decode cX10_init 4 = .ok (.aload_n 0, 1) := by decide +kernel
theorem dX10_init_5 : decode cX10_init 5 = .ok (.bipush 8, 2) := by decide +kernel
theorem dX10_init_7 : decode cX10_init 7 = .ok (.newarray .int, 2) := by decide +kernel
theorem dX10_init_9 : decode cX10_init 9 = .ok (.putfield 9, 3) := by decide +kernel
theorem dX10_init_12 : decode cX10_init 12 = .ok (.aload_n 0, 1) := by decide +kernel
theorem dX10_init_13 : decode cX10_init 13 = .ok (.bipush 8, 2) := by decide +kernel
theorem dX10_init_15 : decode cX10_init 15 = .ok (.newarray .int, 2) := by decide +kernel
theorem dX10_init_17 : decode cX10_init 17 = .ok (.putfield 15, 3) := by decide +kernel
theorem dX10_init_20 : decode cX10_init 20 = .ok (.aload_n 0, 1) := by decide +kernel
theorem dX10_init_21 : decode cX10_init 21 = .ok (.bipush 8, 2) := by decide +kernel
theorem dX10_init_23 : decode cX10_init 23 = .ok (.newarray .int, 2) := by decide +kernel
theorem dX10_init_25 : decode cX10_init 25 = .ok (.putfield 18, 3) := by decide +kernel
theorem dX10_init_28 : decode cX10_init 28 = .ok (.aload_n 0, 1) := by decide +kernel
theorem dX10_init_29 : decode cX10_init 29 = .ok (.bipush 8, 2) := by decide +kernel
theorem dX10_init_31 : decode cX10_init 31 = .ok (.newarray .int, 2) := by decide +kernel
theorem dX10_init_33 : decode cX10_init 33 = .ok (.putfield 21, 3) := by decide +kernel
theorem dX10_init_36 : decode cX10_init 36 = .ok (.aload_n 0, 1) := by decide +kernel
theorem dX10_init_37 : decode cX10_init 37 = .ok (.bipush 8, 2) := by decide +kernel
theorem dX10_init_39 : decode cX10_init 39 = .ok (.newarray .boolean, 2) := by decide +kernel
theorem dX10_init_41 : decode cX10_init 41 = .ok (.putfield 24, 3) := by decide +kernel
theorem dX10_init_44 : decode cX10_init 44 = .ok (.aload_n 0, 1) := by decide +kernel
theorem dX10_init_45 : decode cX10_init 45 = .ok (.bipush 8, 2) := by decide +kernel
theorem dX10_init_47 : decode cX10_init 47 = .ok (.newarray .int, 2) := by decide +kernel
theorem dX10_init_49 : decode cX10_init 49 = .ok (.putfield 28, 3) := by decide +kernel
theorem dX10_init_52 : decode cX10_init 52 = .ok (.aload_n 0, 1) := by decide +kernel
theorem dX10_init_53 : decode cX10_init 53 = .ok (.bipush 8, 2) := by decide +kernel
theorem dX10_init_55 : decode cX10_init 55 = .ok (.newarray .int, 2) := by decide +kernel
theorem dX10_init_57 : decode cX10_init 57 = .ok (.putfield 31, 3) := by decide +kernel
theorem dX10_init_60 : decode cX10_init 60 = .ok (.aload_n 0, 1) := by decide +kernel
theorem dX10_init_61 : decode cX10_init 61 = .ok (.bipush 8, 2) := by decide +kernel
theorem dX10_init_63 : decode cX10_init 63 = .ok (.newarray .int, 2) := by decide +kernel
theorem dX10_init_65 : decode cX10_init 65 = .ok (.putfield 34, 3) := by decide +kernel
theorem dX10_init_68 : decode cX10_init 68 = .ok (.aload_n 0, 1) := by decide +kernel
theorem dX10_init_69 : decode cX10_init 69 = .ok (.bipush 8, 2) := by decide +kernel
theorem dX10_init_71 : decode cX10_init 71 = .ok (.newarray .int, 2) := by decide +kernel
theorem dX10_init_73 : decode cX10_init 73 = .ok (.putfield 37, 3) := by decide +kernel
theorem dX10_init_76 : decode cX10_init 76 = .ok (.aload_n 0, 1) := by decide +kernel
theorem dX10_init_77 : decode cX10_init 77 = .ok (.bipush 8, 2) := by decide +kernel
theorem dX10_init_79 : decode cX10_init 79 = .ok (.newarray .long, 2) := by decide +kernel
theorem dX10_init_81 : decode cX10_init 81 = .ok (.putfield 40, 3) := by decide +kernel
theorem dX10_init_84 : decode cX10_init 84 = .ok (.return_, 1) := by decide +kernel
theorem dX10_has_0 : decode cX10_has 0 = .ok (.iload_n 1, 1) := by decide +kernel
theorem dX10_has_1 : decode cX10_has 1 = .ok (.ifCond .lt 21, 3) := by decide +kernel
theorem dX10_has_4 : decode cX10_has 4 = .ok (.iload_n 1, 1) := by decide +kernel
theorem dX10_has_5 : decode cX10_has 5 = .ok (.aload_n 0, 1) := by decide +kernel
theorem dX10_has_6 : decode cX10_has 6 = .ok (.getfield 44, 3) := by decide +kernel
theorem dX10_has_9 : decode cX10_has 9 = .ok (.if_icmp .ge 13, 3) := by decide +kernel
theorem dX10_has_12 : decode cX10_has 12 = .ok (.iload_n 1, 1) := by decide +kernel
theorem dX10_has_13 : decode cX10_has 13 = .ok (.bipush 8, 2) := by decide +kernel
theorem dX10_has_15 : decode cX10_has 15 = .ok (.if_icmp .ge 7, 3) := by decide +kernel
theorem dX10_has_18 : decode cX10_has 18 = .ok (.iconst 1, 1) := by decide +kernel
theorem dX10_has_19 : decode cX10_has 19 = .ok (.goto 4, 3) := by decide +kernel
theorem dX10_has_22 : decode cX10_has 22 = .ok (.iconst 0, 1) := by decide +kernel
theorem dX10_has_23 : decode cX10_has 23 = .ok (.ireturn, 1) := by decide +kernel
theorem dX10_add_0 : decode cX10_add 0 = .ok (.aload_n 0, 1) := by decide +kernel
theorem dX10_add_1 : decode cX10_add 1 = .ok (.getfield 44, 3) := by decide +kernel
theorem dX10_add_4 : decode cX10_add 4 = .ok (.bipush 8, 2) := by decide +kernel
theorem dX10_add_6 : decode cX10_add 6 = .ok (.if_icmp .lt 5, 3) := by decide +kernel
theorem dX10_add_9 : decode cX10_add 9 = .ok (.iconst (-1), 1) := by decide +kernel
theorem dX10_add_10 : decode cX10_add 10 = .ok (.ireturn, 1) := by decide +kernel
theorem dX10_add_11 : decode cX10_add 11 = .ok (.aload_n 0, 1) := by decide +kernel
theorem dX10_add_12 : decode cX10_add 12 = .ok (.getfield 9, 3) := by decide +kernel
theorem dX10_add_15 : decode cX10_add 15 = .ok (.aload_n 0, 1) := by decide +kernel
theorem dX10_add_16 : decode cX10_add 16 = .ok (.getfield 44, 3) := by decide +kernel
theorem dX10_add_19 : decode cX10_add 19 = .ok (.iload_n 1, 1) := by decide +kernel
theorem dX10_add_20 : decode cX10_add 20 = .ok (.iastore, 1) := by decide +kernel
theorem dX10_add_21 : decode cX10_add 21 = .ok (.aload_n 0, 1) := by decide +kernel
theorem dX10_add_22 : decode cX10_add 22 = .ok (.getfield 15, 3) := by decide +kernel
theorem dX10_add_25 : decode cX10_add 25 = .ok (.aload_n 0, 1) := by decide +kernel
theorem dX10_add_26 : decode cX10_add 26 = .ok (.getfield 44, 3) := by decide +kernel
theorem dX10_add_29 : decode cX10_add 29 = .ok (.iload_n 2, 1) := by decide +kernel
theorem dX10_add_30 : decode cX10_add 30 = .ok (.iastore, 1) := by decide +kernel
theorem dX10_add_31 : decode cX10_add 31 = .ok (.aload_n 0, 1) := by decide +kernel
theorem dX10_add_32 : decode cX10_add 32 = .ok (.getfield 18, 3) := by decide +kernel
theorem dX10_add_35 : decode cX10_add 35 = .ok (.aload_n 0, 1) := by decide +kernel
theorem dX10_add_36 : decode cX10_add 36 = .ok (.getfield 44, 3) := by decide +kernel
theorem dX10_add_39 : decode cX10_add 39 = .ok (.iload_n 3, 1) := by decide +kernel
theorem dX10_add_40 : decode cX10_add 40 = .ok (.iastore, 1) := by decide +kernel
theorem dX10_add_41 : decode cX10_add 41 = .ok (.aload_n 0, 1) := by decide +kernel
theorem dX10_add_42 : decode cX10_add 42 = .ok (.getfield 21, 3) := by decide +kernel
theorem dX10_add_45 : decode cX10_add 45 = .ok (.aload_n 0, 1) := by decide +kernel
theorem dX10_add_46 : decode cX10_add 46 = .ok (.getfield 44, 3) := by decide +kernel
theorem dX10_add_49 : decode cX10_add 49 = .ok (.iload 4, 2) := by decide +kernel
theorem dX10_add_51 : decode cX10_add 51 = .ok (.iastore, 1) := by decide +kernel
theorem dX10_add_52 : decode cX10_add 52 = .ok (.aload_n 0, 1) := by decide +kernel
theorem dX10_add_53 : decode cX10_add 53 = .ok (.dup, 1) := by decide +kernel
theorem dX10_add_54 : decode cX10_add 54 = .ok (.getfield 44, 3) := by decide +kernel
theorem dX10_add_57 : decode cX10_add 57 = .ok (.iconst 1, 1) := by decide +kernel
theorem dX10_add_58 : decode cX10_add 58 = .ok (.iadd, 1) := by decide +kernel
theorem dX10_add_59 : decode cX10_add 59 = .ok (.putfield 44, 3) := by decide +kernel
theorem dX10_add_62 : decode cX10_add 62 = .ok (.aload_n 0, 1) := by decide +kernel
theorem dX10_add_63 : decode cX10_add 63 = .ok (.getfield 44, 3) := by decide +kernel
theorem dX10_add_66 : decode cX10_add 66 = .ok (.iconst 1, 1) := by decide +kernel
theorem dX10_add_67 : decode cX10_add 67 = .ok (.isub, 1) := by decide +kernel
theorem dX10_add_68 : decode cX10_add 68 = .ok (.ireturn, 1) := by decide +kernel
theorem dX10_wants_0 : decode cX10_wants 0 = .ok (.iload_n 1, 1) := by decide +kernel
theorem dX10_wants_1 : decode cX10_wants 1 = .ok (.ifCond .lt 29, 3) := by decide +kernel
theorem dX10_wants_4 : decode cX10_wants 4 = .ok (.iload_n 1, 1) := by decide +kernel
theorem dX10_wants_5 : decode cX10_wants 5 = .ok (.aload_n 0, 1) := by decide +kernel
theorem dX10_wants_6 : decode cX10_wants 6 = .ok (.getfield 44, 3) := by decide +kernel
theorem dX10_wants_9 : decode cX10_wants 9 = .ok (.if_icmp .ge 21, 3) := by decide +kernel
theorem dX10_wants_12 : decode cX10_wants 12 = .ok (.aload_n 0, 1) := by decide +kernel
theorem dX10_wants_13 : decode cX10_wants 13 = .ok (.getfield 21, 3) := by decide +kernel
theorem dX10_wants_16 : decode cX10_wants 16 = .ok (.iload_n 1, 1) := by decide +kernel
theorem dX10_wants_17 : decode cX10_wants 17 = .ok (.iaload, 1) := by decide +kernel
theorem dX10_wants_18 : decode cX10_wants 18 = .ok (.iload_n 2, 1) := by decide +kernel
theorem dX10_wants_19 : decode cX10_wants 19 = .ok (.ishr, 1) := by decide +kernel
theorem dX10_wants_20 : decode cX10_wants 20 = .ok (.iconst 1, 1) := by decide +kernel
theorem dX10_wants_21 : decode cX10_wants 21 = .ok (.iand, 1) := by decide +kernel
theorem dX10_wants_22 : decode cX10_wants 22 = .ok (.iconst 1, 1) := by decide +kernel
theorem dX10_wants_23 : decode cX10_wants 23 = .ok (.if_icmp .ne 7, 3) := by decide +kernel
theorem dX10_wants_26 : decode cX10_wants 26 = .ok (.iconst 1, 1) := by decide +kernel
theorem dX10_wants_27 : decode cX10_wants 27 = .ok (.goto 4, 3) := by decide +kernel
theorem dX10_wants_30 : decode cX10_wants 30 = .ok (.iconst 0, 1) := by decide +kernel
theorem dX10_wants_31 : decode cX10_wants 31 = .ok (.ireturn, 1) := by decide +kernel
theorem dX10_teaches_0 : decode cX10_teaches 0 = .ok (.iload_n 1, 1) := by decide +kernel
theorem dX10_teaches_1 : decode cX10_teaches 1 = .ok (.ifCond .lt 29, 3) := by decide +kernel
theorem dX10_teaches_4 : decode cX10_teaches 4 = .ok (.iload_n 1, 1) := by decide +kernel
theorem dX10_teaches_5 : decode cX10_teaches 5 = .ok (.aload_n 0, 1) := by decide +kernel
theorem dX10_teaches_6 : decode cX10_teaches 6 = .ok (.getfield 44, 3) := by decide +kernel
theorem dX10_teaches_9 : decode cX10_teaches 9 = .ok (.if_icmp .ge 21, 3) := by decide +kernel
theorem dX10_teaches_12 : decode cX10_teaches 12 = .ok (.aload_n 0, 1) := by decide +kernel
theorem dX10_teaches_13 : decode cX10_teaches 13 = .ok (.getfield 15, 3) := by decide +kernel
theorem dX10_teaches_16 : decode cX10_teaches 16 = .ok (.iload_n 1, 1) := by decide +kernel
theorem dX10_teaches_17 : decode cX10_teaches 17 = .ok (.iaload, 1) := by decide +kernel
theorem dX10_teaches_18 : decode cX10_teaches 18 = .ok (.iload_n 2, 1) := by decide +kernel
theorem dX10_teaches_19 : decode cX10_teaches 19 = .ok (.ishr, 1) := by decide +kernel
theorem dX10_teaches_20 : decode cX10_teaches 20 = .ok (.iconst 1, 1) := by decide +kernel
theorem dX10_teaches_21 : decode cX10_teaches 21 = .ok (.iand, 1) := by decide +kernel
theorem dX10_teaches_22 : decode cX10_teaches 22 = .ok (.iconst 1, 1) := by decide +kernel
theorem dX10_teaches_23 : decode cX10_teaches 23 = .ok (.if_icmp .ne 7, 3) := by decide +kernel
theorem dX10_teaches_26 : decode cX10_teaches 26 = .ok (.iconst 1, 1) := by decide +kernel
theorem dX10_teaches_27 : decode cX10_teaches 27 = .ok (.goto 4, 3) := by decide +kernel
theorem dX10_teaches_30 : decode cX10_teaches 30 = .ok (.iconst 0, 1) := by decide +kernel
theorem dX10_teaches_31 : decode cX10_teaches 31 = .ok (.ireturn, 1) := by decide +kernel
theorem dX10_milesBetween_0 : decode cX10_milesBetween 0 = .ok (.aload_n 0, 1) := by decide +kernel
theorem dX10_milesBetween_1 : decode cX10_milesBetween 1 = .ok (.iload_n 1, 1) := by decide +kernel
theorem dX10_milesBetween_2 : decode cX10_milesBetween 2 = .ok (.invokevirtual 48, 3) := by decide +kernel
theorem dX10_milesBetween_5 : decode cX10_milesBetween 5 = .ok (.ifCond .eq 30, 3) := by decide +kernel
theorem dX10_milesBetween_8 : decode cX10_milesBetween 8 = .ok (.aload_n 0, 1) := by decide +kernel
theorem dX10_milesBetween_9 : decode cX10_milesBetween 9 = .ok (.iload_n 2, 1) := by decide +kernel
theorem dX10_milesBetween_10 : decode cX10_milesBetween 10 = .ok (.invokevirtual 48, 3) := by decide +kernel
theorem dX10_milesBetween_13 : decode cX10_milesBetween 13 = .ok (.ifCond .eq 22, 3) := by decide +kernel
theorem dX10_milesBetween_16 : decode cX10_milesBetween 16 = .ok (.aload_n 0, 1) := by decide +kernel
theorem dX10_milesBetween_17 : decode cX10_milesBetween 17 = .ok (.getfield 9, 3) := by decide +kernel
theorem dX10_milesBetween_20 : decode cX10_milesBetween 20 = .ok (.iload_n 1, 1) := by decide +kernel
theorem dX10_milesBetween_21 : decode cX10_milesBetween 21 = .ok (.iaload, 1) := by decide +kernel
theorem dX10_milesBetween_22 : decode cX10_milesBetween 22 = .ok (.aload_n 0, 1) := by decide +kernel
theorem dX10_milesBetween_23 : decode cX10_milesBetween 23 = .ok (.getfield 9, 3) := by decide +kernel
theorem dX10_milesBetween_26 : decode cX10_milesBetween 26 = .ok (.iload_n 2, 1) := by decide +kernel
theorem dX10_milesBetween_27 : decode cX10_milesBetween 27 = .ok (.iaload, 1) := by decide +kernel
theorem dX10_milesBetween_28 : decode cX10_milesBetween 28 = .ok (.isub, 1) := by decide +kernel
theorem dX10_milesBetween_29 : decode cX10_milesBetween 29 = .ok (.invokestatic 52, 3) := by decide +kernel
theorem dX10_milesBetween_32 : decode cX10_milesBetween 32 = .ok (.goto 4, 3) := by decide +kernel
theorem dX10_milesBetween_35 : decode cX10_milesBetween 35 = .ok (.iconst 0, 1) := by decide +kernel
theorem dX10_milesBetween_36 : decode cX10_milesBetween 36 = .ok (.ireturn, 1) := by decide +kernel
theorem dX11_init_0 : decode cX11_init 0 = .ok (.aload_n 0, 1) := by decide +kernel
theorem dX11_init_1 : decode cX11_init 1 = .ok (.invokespecial 1, 3) := by decide +kernel
theorem dX11_init_4 : decode cX11_init 4 = .ok (.aload_n 0, 1) := by decide +kernel
theorem dX11_init_5 : decode cX11_init 5 = .ok (.new 7, 3) := by decide +kernel
theorem dX11_init_8 : decode cX11_init 8 = .ok (.dup, 1) := by decide +kernel
theorem dX11_init_9 : decode cX11_init 9 = .ok (.invokespecial 9, 3) := by decide +kernel
theorem dX11_init_12 : decode cX11_init 12 = .ok (.putfield 10, 3) := by decide +kernel
theorem dX11_init_15 : decode cX11_init 15 = .ok (.aload_n 0, 1) := by decide +kernel
theorem dX11_init_16 : decode cX11_init 16 = .ok (.new 16, 3) := by decide +kernel
theorem dX11_init_19 : decode cX11_init 19 = .ok (.dup, 1) := by decide +kernel
theorem dX11_init_20 : decode cX11_init 20 = .ok (.invokespecial 18, 3) := by decide +kernel
theorem dX11_init_23 : decode cX11_init 23 = .ok (.putfield 19, 3) := by decide +kernel
theorem dX11_init_26 : decode cX11_init 26 = .ok (.aload_n 0, 1) := by decide +kernel
theorem dX11_init_27 : decode cX11_init 27 = .ok (.new 23, 3) := by decide +kernel
theorem dX11_init_30 : decode cX11_init 30 = .ok (.dup, 1) := by decide +kernel
theorem dX11_init_31 : decode cX11_init 31 = .ok (.aload_n 0, 1) := by decide +kernel
theorem dX11_init_32 : decode cX11_init 32 = .ok (.getfield 10, 3) := by decide +kernel
theorem dX11_init_35 : decode cX11_init 35 = .ok (.invokespecial 25, 3) := by decide +kernel
theorem dX11_init_38 : decode cX11_init 38 = .ok (.putfield 28, 3) := by decide +kernel
theorem dX11_init_41 : decode cX11_init 41 = .ok (.aload_n 0, 1) := by decide +kernel
theorem dX11_init_42 : decode cX11_init 42 = .ok (.new 32, 3) := by decide +kernel
theorem dX11_init_45 : decode cX11_init 45 = .ok (.dup, 1) := by decide +kernel
theorem dX11_init_46 : decode cX11_init 46 = .ok (.aload_n 0, 1) := by decide +kernel
theorem dX11_init_47 : decode cX11_init 47 = .ok (.getfield 10, 3) := by decide +kernel
theorem dX11_init_50 : decode cX11_init 50 = .ok (.invokespecial 34, 3) := by decide +kernel
theorem dX11_init_53 : decode cX11_init 53 = .ok (.putfield 35, 3) := by decide +kernel
theorem dX11_init_56 : decode cX11_init 56 = .ok (.aload_n 0, 1) := by decide +kernel
theorem dX11_init_57 : decode cX11_init 57 = .ok (.new 39, 3) := by decide +kernel
theorem dX11_init_60 : decode cX11_init 60 = .ok (.dup, 1) := by decide +kernel
theorem dX11_init_61 : decode cX11_init 61 = .ok (.invokespecial 41, 3) := by decide +kernel
theorem dX11_init_64 : decode cX11_init 64 = .ok (.putfield 42, 3) := by decide +kernel
theorem dX11_init_67 : decode cX11_init 67 = .ok (.aload_n 0, 1) := by decide +kernel
theorem dX11_init_68 : decode cX11_init 68 = .ok (.new 46, 3) := by decide +kernel
theorem dX11_init_71 : decode cX11_init 71 = .ok (.dup, 1) := by decide +kernel
theorem dX11_init_72 : decode cX11_init 72 = .ok (.invokespecial 48, 3) := by decide +kernel
theorem dX11_init_75 : decode cX11_init 75 = .ok (.putfield 49, 3) := by decide +kernel
theorem dX11_init_78 : decode cX11_init 78 = .ok (.return_, 1) := by decide +kernel
theorem dX11_town_0 : decode cX11_town 0 = .ok (.iload_n 1, 1) := by decide +kernel
theorem dX11_town_1 : decode cX11_town 1 = .ok (.ifCond .lt 20, 3) := by decide +kernel
theorem dX11_town_4 : decode cX11_town 4 = .ok (.iload_n 1, 1) := by decide +kernel
theorem dX11_town_5 : decode cX11_town 5 = .ok (.sipush 999, 3) := by decide +kernel
theorem dX11_town_8 : decode cX11_town 8 = .ok (.if_icmp .gt 13, 3) := by decide +kernel
theorem dX11_town_11 : decode cX11_town 11 = .ok (.iload_n 3, 1) := by decide +kernel
theorem dX11_town_12 : decode cX11_town 12 = .ok (.ifCond .lt 9, 3) := by decide +kernel
theorem dX11_town_15 : decode cX11_town 15 = .ok (.iload_n 3, 1) := by decide +kernel
theorem dX11_town_16 : decode cX11_town 16 = .ok (.bipush 63, 2) := by decide +kernel
theorem dX11_town_18 : decode cX11_town 18 = .ok (.if_icmp .le 5, 3) := by decide +kernel
theorem dX11_town_21 : decode cX11_town 21 = .ok (.iconst (-1), 1) := by decide +kernel
theorem dX11_town_22 : decode cX11_town 22 = .ok (.ireturn, 1) := by decide +kernel
theorem dX11_town_23 : decode cX11_town 23 = .ok (.iload_n 2, 1) := by decide +kernel
theorem dX11_town_24 : decode cX11_town 24 = .ok (.ifCond .lt 21, 3) := by decide +kernel
theorem dX11_town_27 : decode cX11_town 27 = .ok (.iload_n 2, 1) := by decide +kernel
theorem dX11_town_28 : decode cX11_town 28 = .ok (.bipush 100, 2) := by decide +kernel
theorem dX11_town_30 : decode cX11_town 30 = .ok (.idiv, 1) := by decide +kernel
theorem dX11_town_31 : decode cX11_town 31 = .ok (.bipush 15, 2) := by decide +kernel
theorem dX11_town_33 : decode cX11_town 33 = .ok (.if_icmp .gt 12, 3) := by decide +kernel
theorem dX11_town_36 : decode cX11_town 36 = .ok (.iload_n 2, 1) := by decide +kernel
theorem dX11_town_37 : decode cX11_town 37 = .ok (.bipush 100, 2) := by decide +kernel
theorem dX11_town_39 : decode cX11_town 39 = .ok (.irem, 1) := by decide +kernel
theorem dX11_town_40 : decode cX11_town 40 = .ok (.bipush 40, 2) := by decide +kernel
theorem dX11_town_42 : decode cX11_town 42 = .ok (.if_icmp .le 5, 3) := by decide +kernel
theorem dX11_town_45 : decode cX11_town 45 = .ok (.iconst (-1), 1) := by decide +kernel
theorem dX11_town_46 : decode cX11_town 46 = .ok (.ireturn, 1) := by decide +kernel
theorem dX11_town_47 : decode cX11_town 47 = .ok (.aload_n 0, 1) := by decide +kernel
theorem dX11_town_48 : decode cX11_town 48 = .ok (.getfield 10, 3) := by decide +kernel
theorem dX11_town_51 : decode cX11_town 51 = .ok (.getfield 53, 3) := by decide +kernel
theorem dX11_town_54 : decode cX11_town 54 = .ok (.iload_n 1, 1) := by decide +kernel
theorem dX11_town_55 : decode cX11_town 55 = .ok (.iload_n 2, 1) := by decide +kernel
theorem dX11_town_56 : decode cX11_town 56 = .ok (.bipush 100, 2) := by decide +kernel
theorem dX11_town_58 : decode cX11_town 58 = .ok (.idiv, 1) := by decide +kernel
theorem dX11_town_59 : decode cX11_town 59 = .ok (.iload_n 2, 1) := by decide +kernel
theorem dX11_town_60 : decode cX11_town 60 = .ok (.bipush 100, 2) := by decide +kernel
theorem dX11_town_62 : decode cX11_town 62 = .ok (.irem, 1) := by decide +kernel
theorem dX11_town_63 : decode cX11_town 63 = .ok (.iload_n 3, 1) := by decide +kernel
theorem dX11_town_64 : decode cX11_town 64 = .ok (.invokevirtual 57, 3) := by decide +kernel
theorem dX11_town_67 : decode cX11_town 67 = .ok (.ireturn, 1) := by decide +kernel
theorem dX11_full_0 : decode cX11_full 0 = .ok (.aload_n 0, 1) := by decide +kernel
theorem dX11_full_1 : decode cX11_full 1 = .ok (.getfield 10, 3) := by decide +kernel
theorem dX11_full_4 : decode cX11_full 4 = .ok (.getfield 53, 3) := by decide +kernel
theorem dX11_full_7 : decode cX11_full 7 = .ok (.iload_n 1, 1) := by decide +kernel
theorem dX11_full_8 : decode cX11_full 8 = .ok (.invokevirtual 63, 3) := by decide +kernel
theorem dX11_full_11 : decode cX11_full 11 = .ok (.ifCond .eq 19, 3) := by decide +kernel
theorem dX11_full_14 : decode cX11_full 14 = .ok (.aload_n 0, 1) := by decide +kernel
theorem dX11_full_15 : decode cX11_full 15 = .ok (.getfield 10, 3) := by decide +kernel
theorem dX11_full_18 : decode cX11_full 18 = .ok (.getfield 53, 3) := by decide +kernel
theorem dX11_full_21 : decode cX11_full 21 = .ok (.getfield 67, 3) := by decide +kernel
theorem dX11_full_24 : decode cX11_full 24 = .ok (.iload_n 1, 1) := by decide +kernel
theorem dX11_full_25 : decode cX11_full 25 = .ok (.baload, 1) := by decide +kernel
theorem dX11_full_26 : decode cX11_full 26 = .ok (.iload_n 2, 1) := by decide +kernel
theorem dX11_full_27 : decode cX11_full 27 = .ok (.if_icmp .ne 5, 3) := by decide +kernel
theorem dX11_full_30 : decode cX11_full 30 = .ok (.iconst 0, 1) := by decide +kernel
theorem dX11_full_31 : decode cX11_full 31 = .ok (.ireturn, 1) := by decide +kernel
theorem dX11_full_32 : decode cX11_full 32 = .ok (.aload_n 0, 1) := by decide +kernel
theorem dX11_full_33 : decode cX11_full 33 = .ok (.getfield 10, 3) := by decide +kernel
theorem dX11_full_36 : decode cX11_full 36 = .ok (.getfield 53, 3) := by decide +kernel
theorem dX11_full_39 : decode cX11_full 39 = .ok (.getfield 67, 3) := by decide +kernel
theorem dX11_full_42 : decode cX11_full 42 = .ok (.iload_n 1, 1) := by decide +kernel
theorem dX11_full_43 : decode cX11_full 43 = .ok (.iload_n 2, 1) := by decide +kernel
theorem dX11_full_44 : decode cX11_full 44 = .ok (.bastore, 1) := by decide +kernel
theorem dX11_full_45 : decode cX11_full 45 = .ok (.iconst 1, 1) := by decide +kernel
theorem dX11_full_46 : decode cX11_full 46 = .ok (.ireturn, 1) := by decide +kernel
theorem dX11_home_0 : decode cX11_home 0 = .ok (.aload_n 0, 1) := by decide +kernel
theorem dX11_home_1 : decode cX11_home 1 = .ok (.getfield 10, 3) := by decide +kernel
theorem dX11_home_4 : decode cX11_home 4 = .ok (.getfield 53, 3) := by decide +kernel
theorem dX11_home_7 : decode cX11_home 7 = .ok (.iload_n 1, 1) := by decide +kernel
theorem dX11_home_8 : decode cX11_home 8 = .ok (.invokevirtual 63, 3) := by decide +kernel
theorem dX11_home_11 : decode cX11_home 11 = .ok (.ifCond .eq 17, 3) := by decide +kernel
theorem dX11_home_14 : decode cX11_home 14 = .ok (.iload_n 2, 1) := by decide +kernel
theorem dX11_home_15 : decode cX11_home 15 = .ok (.invokestatic 71, 3) := by decide +kernel
theorem dX11_home_18 : decode cX11_home 18 = .ok (.ifCond .eq 10, 3) := by decide +kernel
theorem dX11_home_21 : decode cX11_home 21 = .ok (.iload_n 3, 1) := by decide +kernel
theorem dX11_home_22 : decode cX11_home 22 = .ok (.invokestatic 74, 3) := by decide +kernel
theorem dX11_home_25 : decode cX11_home 25 = .ok (.ifCond .ne 5, 3) := by decide +kernel
theorem dX11_home_28 : decode cX11_home 28 = .ok (.iconst (-1), 1) := by decide +kernel
theorem dX11_home_29 : decode cX11_home 29 = .ok (.ireturn, 1) := by decide +kernel
theorem dX11_home_30 : decode cX11_home 30 = .ok (.aload_n 0, 1) := by decide +kernel
theorem dX11_home_31 : decode cX11_home 31 = .ok (.getfield 10, 3) := by decide +kernel
theorem dX11_home_34 : decode cX11_home 34 = .ok (.getfield 77, 3) := by decide +kernel
theorem dX11_home_37 : decode cX11_home 37 = .ok (.iload_n 1, 1) := by decide +kernel
theorem dX11_home_38 : decode cX11_home 38 = .ok (.iload_n 2, 1) := by decide +kernel
theorem dX11_home_39 : decode cX11_home 39 = .ok (.iload_n 3, 1) := by decide +kernel
theorem dX11_home_40 : decode cX11_home 40 = .ok (.invokevirtual 81, 3) := by decide +kernel
theorem dX11_home_43 : decode cX11_home 43 = .ok (.istore 4, 2) := by decide +kernel
theorem dX11_home_45 : decode cX11_home 45 = .ok (.iload 4, 2) := by decide +kernel
theorem dX11_home_47 : decode cX11_home 47 = .ok (.iconst (-1), 1) := by decide +kernel
theorem dX11_home_48 : decode cX11_home 48 = .ok (.if_icmp .eq 22, 3) := by decide +kernel
theorem dX11_home_51 : decode cX11_home 51 = .ok (.aload_n 0, 1) := by decide +kernel
theorem dX11_home_52 : decode cX11_home 52 = .ok (.getfield 10, 3) := by decide +kernel
theorem dX11_home_55 : decode cX11_home 55 = .ok (.getfield 53, 3) := by decide +kernel
theorem dX11_home_58 : decode cX11_home 58 = .ok (.getfield 86, 3) := by decide +kernel
theorem dX11_home_61 : decode cX11_home 61 = .ok (.iload_n 1, 1) := by decide +kernel
theorem dX11_home_62 : decode cX11_home 62 = .ok (.dup2, 1) := by decide +kernel
theorem dX11_home_63 : decode cX11_home 63 = .ok (.iaload, 1) := by decide +kernel
theorem dX11_home_64 : decode cX11_home 64 = .ok (.iload_n 2, 1) := by decide +kernel
theorem dX11_home_65 : decode cX11_home 65 = .ok (.bipush 100, 2) := by decide +kernel
theorem dX11_home_67 : decode cX11_home 67 = .ok (.idiv, 1) := by decide +kernel
theorem dX11_home_68 : decode cX11_home 68 = .ok (.iadd, 1) := by decide +kernel
theorem dX11_home_69 : decode cX11_home 69 = .ok (.iastore, 1) := by decide +kernel
theorem dX11_home_70 : decode cX11_home 70 = .ok (.iload 4, 2) := by decide +kernel
theorem dX11_home_72 : decode cX11_home 72 = .ok (.ireturn, 1) := by decide +kernel
theorem dX11_beds_0 : decode cX11_beds 0 = .ok (.iload_n 1, 1) := by decide +kernel
theorem dX11_beds_1 : decode cX11_beds 1 = .ok (.ifCond .lt 10, 3) := by decide +kernel
theorem dX11_beds_4 : decode cX11_beds 4 = .ok (.iload_n 1, 1) := by decide +kernel
theorem dX11_beds_5 : decode cX11_beds 5 = .ok (.sipush 200, 3) := by decide +kernel
theorem dX11_beds_8 : decode cX11_beds 8 = .ok (.if_icmp .le 5, 3) := by decide +kernel
theorem dX11_beds_11 : decode cX11_beds 11 = .ok (.iconst 0, 1) := by decide +kernel
theorem dX11_beds_12 : decode cX11_beds 12 = .ok (.ireturn, 1) := by decide +kernel
theorem dX11_beds_13 : decode cX11_beds 13 = .ok (.aload_n 0, 1) := by decide +kernel
theorem dX11_beds_14 : decode cX11_beds 14 = .ok (.getfield 10, 3) := by decide +kernel
theorem dX11_beds_17 : decode cX11_beds 17 = .ok (.iload_n 1, 1) := by decide +kernel
theorem dX11_beds_18 : decode cX11_beds 18 = .ok (.putfield 90, 3) := by decide +kernel
theorem dX11_beds_21 : decode cX11_beds 21 = .ok (.iconst 1, 1) := by decide +kernel
theorem dX11_beds_22 : decode cX11_beds 22 = .ok (.ireturn, 1) := by decide +kernel
theorem dX11_family_0 : decode cX11_family 0 = .ok (.iload_n 1, 1) := by decide +kernel
theorem dX11_family_1 : decode cX11_family 1 = .ok (.invokestatic 94, 3) := by decide +kernel
theorem dX11_family_4 : decode cX11_family 4 = .ok (.ifCond .eq 10, 3) := by decide +kernel
theorem dX11_family_7 : decode cX11_family 7 = .ok (.iload_n 2, 1) := by decide +kernel
theorem dX11_family_8 : decode cX11_family 8 = .ok (.invokestatic 97, 3) := by decide +kernel
theorem dX11_family_11 : decode cX11_family 11 = .ok (.ifCond .ne 5, 3) := by decide +kernel
theorem dX11_family_14 : decode cX11_family 14 = .ok (.iconst (-1), 1) := by decide +kernel
theorem dX11_family_15 : decode cX11_family 15 = .ok (.ireturn, 1) := by decide +kernel
theorem dX11_family_16 : decode cX11_family 16 = .ok (.aload_n 0, 1) := by decide +kernel
theorem dX11_family_17 : decode cX11_family 17 = .ok (.getfield 10, 3) := by decide +kernel
theorem dX11_family_20 : decode cX11_family 20 = .ok (.getfield 100, 3) := by decide +kernel
theorem dX11_family_23 : decode cX11_family 23 = .ok (.iload_n 1, 1) := by decide +kernel
theorem dX11_family_24 : decode cX11_family 24 = .ok (.iload_n 2, 1) := by decide +kernel
theorem dX11_family_25 : decode cX11_family 25 = .ok (.aload_n 0, 1) := by decide +kernel
theorem dX11_family_26 : decode cX11_family 26 = .ok (.getfield 10, 3) := by decide +kernel
theorem dX11_family_29 : decode cX11_family 29 = .ok (.getfield 104, 3) := by decide +kernel
theorem dX11_family_32 : decode cX11_family 32 = .ok (.invokevirtual 107, 3) := by decide +kernel
theorem dX11_family_35 : decode cX11_family 35 = .ok (.istore_n 3, 1) := by decide +kernel
theorem dX11_family_36 : decode cX11_family 36 = .ok (.iload_n 3, 1) := by decide +kernel
theorem dX11_family_37 : decode cX11_family 37 = .ok (.iconst (-1), 1) := by decide +kernel
theorem dX11_family_38 : decode cX11_family 38 = .ok (.if_icmp .eq 19, 3) := by decide +kernel
theorem dX11_family_41 : decode cX11_family 41 = .ok (.aload_n 0, 1) := by decide +kernel
theorem dX11_family_42 : decode cX11_family 42 = .ok (.getfield 10, 3) := by decide +kernel
theorem dX11_family_45 : decode cX11_family 45 = .ok (.dup, 1) := by decide +kernel
theorem dX11_family_46 : decode cX11_family 46 = .ok (.getfield 110, 3) := by decide +kernel
theorem dX11_family_49 : decode cX11_family 49 = .ok (.iload_n 1, 1) := by decide +kernel
theorem dX11_family_50 : decode cX11_family 50 = .ok (.bipush 100, 2) := by decide +kernel
theorem dX11_family_52 : decode cX11_family 52 = .ok (.idiv, 1) := by decide +kernel
theorem dX11_family_53 : decode cX11_family 53 = .ok (.iadd, 1) := by decide +kernel
theorem dX11_family_54 : decode cX11_family 54 = .ok (.putfield 110, 3) := by decide +kernel
theorem dX11_family_57 : decode cX11_family 57 = .ok (.iload_n 3, 1) := by decide +kernel
theorem dX11_family_58 : decode cX11_family 58 = .ok (.ireturn, 1) := by decide +kernel
theorem dX11_wish_0 : decode cX11_wish 0 = .ok (.aload_n 0, 1) := by decide +kernel
theorem dX11_wish_1 : decode cX11_wish 1 = .ok (.getfield 10, 3) := by decide +kernel
theorem dX11_wish_4 : decode cX11_wish 4 = .ok (.iload_n 1, 1) := by decide +kernel
theorem dX11_wish_5 : decode cX11_wish 5 = .ok (.invokevirtual 113, 3) := by decide +kernel
theorem dX11_wish_8 : decode cX11_wish 8 = .ok (.ifCond .eq 22, 3) := by decide +kernel
theorem dX11_wish_11 : decode cX11_wish 11 = .ok (.iload_n 2, 1) := by decide +kernel
theorem dX11_wish_12 : decode cX11_wish 12 = .ok (.iconst (-1), 1) := by decide +kernel
theorem dX11_wish_13 : decode cX11_wish 13 = .ok (.if_icmp .eq 19, 3) := by decide +kernel
theorem dX11_wish_16 : decode cX11_wish 16 = .ok (.aload_n 0, 1) := by decide +kernel
theorem dX11_wish_17 : decode cX11_wish 17 = .ok (.getfield 10, 3) := by decide +kernel
theorem dX11_wish_20 : decode cX11_wish 20 = .ok (.getfield 53, 3) := by decide +kernel
theorem dX11_wish_23 : decode cX11_wish 23 = .ok (.iload_n 2, 1) := by decide +kernel
theorem dX11_wish_24 : decode cX11_wish 24 = .ok (.invokevirtual 63, 3) := by decide +kernel
theorem dX11_wish_27 : decode cX11_wish 27 = .ok (.ifCond .ne 5, 3) := by decide +kernel
theorem dX11_wish_30 : decode cX11_wish 30 = .ok (.iconst 0, 1) := by decide +kernel
theorem dX11_wish_31 : decode cX11_wish 31 = .ok (.ireturn, 1) := by decide +kernel
theorem dX11_wish_32 : decode cX11_wish 32 = .ok (.aload_n 0, 1) := by decide +kernel
theorem dX11_wish_33 : decode cX11_wish 33 = .ok (.getfield 10, 3) := by decide +kernel
theorem dX11_wish_36 : decode cX11_wish 36 = .ok (.getfield 100, 3) := by decide +kernel
theorem dX11_wish_39 : decode cX11_wish 39 = .ok (.getfield 116, 3) := by decide +kernel
theorem dX11_wish_42 : decode cX11_wish 42 = .ok (.iload_n 1, 1) := by decide +kernel
theorem dX11_wish_43 : decode cX11_wish 43 = .ok (.iload_n 2, 1) := by decide +kernel
theorem dX11_wish_44 : decode cX11_wish 44 = .ok (.iastore, 1) := by decide +kernel
theorem dX11_wish_45 : decode cX11_wish 45 = .ok (.iconst 1, 1) := by decide +kernel
theorem dX11_wish_46 : decode cX11_wish 46 = .ok (.ireturn, 1) := by decide +kernel
theorem dX11_apart_0 : decode cX11_apart 0 = .ok (.iload_n 1, 1) := by decide +kernel
theorem dX11_apart_1 : decode cX11_apart 1 = .ok (.ifCond .lt 24, 3) := by decide +kernel
theorem dX11_apart_4 : decode cX11_apart 4 = .ok (.iload_n 1, 1) := by decide +kernel
theorem dX11_apart_5 : decode cX11_apart 5 = .ok (.bipush 6, 2) := by decide +kernel
theorem dX11_apart_7 : decode cX11_apart 7 = .ok (.if_icmp .ge 18, 3) := by decide +kernel
theorem dX11_apart_10 : decode cX11_apart 10 = .ok (.iload_n 2, 1) := by decide +kernel
theorem dX11_apart_11 : decode cX11_apart 11 = .ok (.ifCond .lt 14, 3) := by decide +kernel
theorem dX11_apart_14 : decode cX11_apart 14 = .ok (.iload_n 2, 1) := by decide +kernel
theorem dX11_apart_15 : decode cX11_apart 15 = .ok (.bipush 6, 2) := by decide +kernel
theorem dX11_apart_17 : decode cX11_apart 17 = .ok (.if_icmp .ge 8, 3) := by decide +kernel
theorem dX11_apart_20 : decode cX11_apart 20 = .ok (.iload_n 1, 1) := by decide +kernel
theorem dX11_apart_21 : decode cX11_apart 21 = .ok (.iload_n 2, 1) := by decide +kernel
theorem dX11_apart_22 : decode cX11_apart 22 = .ok (.if_icmp .ne 5, 3) := by decide +kernel
theorem dX11_apart_25 : decode cX11_apart 25 = .ok (.iconst 0, 1) := by decide +kernel
theorem dX11_apart_26 : decode cX11_apart 26 = .ok (.ireturn, 1) := by decide +kernel
theorem dX11_apart_27 : decode cX11_apart 27 = .ok (.iload_n 3, 1) := by decide +kernel
theorem dX11_apart_28 : decode cX11_apart 28 = .ok (.ifCond .lt 10, 3) := by decide +kernel
theorem dX11_apart_31 : decode cX11_apart 31 = .ok (.iload_n 3, 1) := by decide +kernel
theorem dX11_apart_32 : decode cX11_apart 32 = .ok (.sipush 200, 3) := by decide +kernel
theorem dX11_apart_35 : decode cX11_apart 35 = .ok (.if_icmp .le 5, 3) := by decide +kernel
theorem dX11_apart_38 : decode cX11_apart 38 = .ok (.iconst 0, 1) := by decide +kernel
theorem dX11_apart_39 : decode cX11_apart 39 = .ok (.ireturn, 1) := by decide +kernel
theorem dX11_apart_40 : decode cX11_apart 40 = .ok (.aload_n 0, 1) := by decide +kernel
theorem dX11_apart_41 : decode cX11_apart 41 = .ok (.getfield 10, 3) := by decide +kernel
theorem dX11_apart_44 : decode cX11_apart 44 = .ok (.getfield 100, 3) := by decide +kernel
theorem dX11_apart_47 : decode cX11_apart 47 = .ok (.getfield 119, 3) := by decide +kernel
theorem dX11_apart_50 : decode cX11_apart 50 = .ok (.iload_n 1, 1) := by decide +kernel
theorem dX11_apart_51 : decode cX11_apart 51 = .ok (.aaload, 1) := by decide +kernel
theorem dX11_apart_52 : decode cX11_apart 52 = .ok (.iload_n 2, 1) := by decide +kernel
theorem dX11_apart_53 : decode cX11_apart 53 = .ok (.iload_n 3, 1) := by decide +kernel
theorem dX11_apart_54 : decode cX11_apart 54 = .ok (.iastore, 1) := by decide +kernel
theorem dX11_apart_55 : decode cX11_apart 55 = .ok (.aload_n 0, 1) := by decide +kernel
theorem dX11_apart_56 : decode cX11_apart 56 = .ok (.getfield 10, 3) := by decide +kernel
theorem dX11_apart_59 : decode cX11_apart 59 = .ok (.getfield 100, 3) := by decide +kernel
theorem dX11_apart_62 : decode cX11_apart 62 = .ok (.getfield 119, 3) := by decide +kernel
theorem dX11_apart_65 : decode cX11_apart 65 = .ok (.iload_n 2, 1) := by decide +kernel
theorem dX11_apart_66 : decode cX11_apart 66 = .ok (.aaload, 1) := by decide +kernel
theorem dX11_apart_67 : decode cX11_apart 67 = .ok (.iload_n 1, 1) := by decide +kernel
theorem dX11_apart_68 : decode cX11_apart 68 = .ok (.iload_n 3, 1) := by decide +kernel
theorem dX11_apart_69 : decode cX11_apart 69 = .ok (.iastore, 1) := by decide +kernel
theorem dX11_apart_70 : decode cX11_apart 70 = .ok (.iconst 1, 1) := by decide +kernel
theorem dX11_apart_71 : decode cX11_apart 71 = .ok (.ireturn, 1) := by decide +kernel
theorem dX11_record_0 : decode cX11_record 0 = .ok (.iload_n 1, 1) := by decide +kernel
theorem dX11_record_1 : decode cX11_record 1 = .ok (.ifCond .lt 24, 3) := by decide +kernel
theorem dX11_record_4 : decode cX11_record 4 = .ok (.iload_n 1, 1) := by decide +kernel
theorem dX11_record_5 : decode cX11_record 5 = .ok (.iconst 2, 1) := by decide +kernel
theorem dX11_record_6 : decode cX11_record 6 = .ok (.if_icmp .gt 19, 3) := by decide +kernel
theorem dX11_record_9 : decode cX11_record 9 = .ok (.iload_n 2, 1) := by decide +kernel
theorem dX11_record_10 : decode cX11_record 10 = .ok (.iload_n 3, 1) := by decide +kernel
theorem dX11_record_11 : decode cX11_record 11 = .ok (.invokestatic 123, 3) := by decide +kernel
theorem dX11_record_14 : decode cX11_record 14 = .ok (.ifCond .eq 11, 3) := by decide +kernel
theorem dX11_record_17 : decode cX11_record 17 = .ok (.iload 4, 2) := by decide +kernel
theorem dX11_record_19 : decode cX11_record 19 = .ok (.invokestatic 74, 3) := by decide +kernel
theorem dX11_record_22 : decode cX11_record 22 = .ok (.ifCond .ne 5, 3) := by decide +kernel
theorem dX11_record_25 : decode cX11_record 25 = .ok (.iconst (-1), 1) := by decide +kernel
theorem dX11_record_26 : decode cX11_record 26 = .ok (.ireturn, 1) := by decide +kernel
theorem dX11_record_27 : decode cX11_record 27 = .ok (.iload 5, 2) := by decide +kernel
theorem dX11_record_29 : decode cX11_record 29 = .ok (.iconst (-1), 1) := by decide +kernel
theorem dX11_record_30 : decode cX11_record 30 = .ok (.if_icmp .eq 20, 3) := by decide +kernel
theorem dX11_record_33 : decode cX11_record 33 = .ok (.aload_n 0, 1) := by decide +kernel
theorem dX11_record_34 : decode cX11_record 34 = .ok (.getfield 10, 3) := by decide +kernel
theorem dX11_record_37 : decode cX11_record 37 = .ok (.getfield 100, 3) := by decide +kernel
theorem dX11_record_40 : decode cX11_record 40 = .ok (.iload 5, 2) := by decide +kernel
theorem dX11_record_42 : decode cX11_record 42 = .ok (.invokevirtual 127, 3) := by decide +kernel
theorem dX11_record_45 : decode cX11_record 45 = .ok (.ifCond .ne 5, 3) := by decide +kernel
theorem dX11_record_48 : decode cX11_record 48 = .ok (.iconst (-1), 1) := by decide +kernel
theorem dX11_record_49 : decode cX11_record 49 = .ok (.ireturn, 1) := by decide +kernel
theorem dX11_record_50 : decode cX11_record 50 = .ok (.aload_n 0, 1) := by decide +kernel
theorem dX11_record_51 : decode cX11_record 51 = .ok (.getfield 10, 3) := by decide +kernel
theorem dX11_record_54 : decode cX11_record 54 = .ok (.getfield 128, 3) := by decide +kernel
theorem dX11_record_57 : decode cX11_record 57 = .ok (.iload_n 1, 1) := by decide +kernel
theorem dX11_record_58 : decode cX11_record 58 = .ok (.iload_n 2, 1) := by decide +kernel
theorem dX11_record_59 : decode cX11_record 59 = .ok (.iload_n 3, 1) := by decide +kernel
theorem dX11_record_60 : decode cX11_record 60 = .ok (.iload 4, 2) := by decide +kernel
theorem dX11_record_62 : decode cX11_record 62 = .ok (.iload 5, 2) := by decide +kernel
theorem dX11_record_64 : decode cX11_record 64 = .ok (.invokevirtual 132, 3) := by decide +kernel
theorem dX11_record_67 : decode cX11_record 67 = .ok (.ireturn, 1) := by decide +kernel
theorem dX11_alike_0 : decode cX11_alike 0 = .ok (.aload_n 0, 1) := by decide +kernel
theorem dX11_alike_1 : decode cX11_alike 1 = .ok (.getfield 10, 3) := by decide +kernel
theorem dX11_alike_4 : decode cX11_alike 4 = .ok (.getfield 128, 3) := by decide +kernel
theorem dX11_alike_7 : decode cX11_alike 7 = .ok (.iload_n 1, 1) := by decide +kernel
theorem dX11_alike_8 : decode cX11_alike 8 = .ok (.iload_n 2, 1) := by decide +kernel
theorem dX11_alike_9 : decode cX11_alike 9 = .ok (.invokevirtual 137, 3) := by decide +kernel
theorem dX11_alike_12 : decode cX11_alike 12 = .ok (.ifCond .ne 6, 3) := by decide +kernel
theorem dX11_alike_15 : decode cX11_alike 15 = .ok (.ldc 140, 2) := by decide +kernel
theorem dX11_alike_17 : decode cX11_alike 17 = .ok (.ireturn, 1) := by decide +kernel
theorem dX11_alike_18 : decode cX11_alike 18 = .ok (.aload_n 0, 1) := by decide +kernel
theorem dX11_alike_19 : decode cX11_alike 19 = .ok (.getfield 10, 3) := by decide +kernel
theorem dX11_alike_22 : decode cX11_alike 22 = .ok (.getfield 128, 3) := by decide +kernel
theorem dX11_alike_25 : decode cX11_alike 25 = .ok (.iload_n 1, 1) := by decide +kernel
theorem dX11_alike_26 : decode cX11_alike 26 = .ok (.aload_n 0, 1) := by decide +kernel
theorem dX11_alike_27 : decode cX11_alike 27 = .ok (.getfield 10, 3) := by decide +kernel
theorem dX11_alike_30 : decode cX11_alike 30 = .ok (.getfield 128, 3) := by decide +kernel
theorem dX11_alike_33 : decode cX11_alike 33 = .ok (.getfield 141, 3) := by decide +kernel
theorem dX11_alike_36 : decode cX11_alike 36 = .ok (.iload_n 2, 1) := by decide +kernel
theorem dX11_alike_37 : decode cX11_alike 37 = .ok (.iaload, 1) := by decide +kernel
theorem dX11_alike_38 : decode cX11_alike 38 = .ok (.aload_n 0, 1) := by decide +kernel
theorem dX11_alike_39 : decode cX11_alike 39 = .ok (.getfield 10, 3) := by decide +kernel
theorem dX11_alike_42 : decode cX11_alike 42 = .ok (.getfield 128, 3) := by decide +kernel
theorem dX11_alike_45 : decode cX11_alike 45 = .ok (.getfield 144, 3) := by decide +kernel
theorem dX11_alike_48 : decode cX11_alike 48 = .ok (.iload_n 2, 1) := by decide +kernel
theorem dX11_alike_49 : decode cX11_alike 49 = .ok (.iaload, 1) := by decide +kernel
theorem dX11_alike_50 : decode cX11_alike 50 = .ok (.invokevirtual 147, 3) := by decide +kernel
theorem dX11_alike_53 : decode cX11_alike 53 = .ok (.ireturn, 1) := by decide +kernel
theorem dX11_match_0 : decode cX11_match 0 = .ok (.aload_n 0, 1) := by decide +kernel
theorem dX11_match_1 : decode cX11_match 1 = .ok (.getfield 10, 3) := by decide +kernel
theorem dX11_match_4 : decode cX11_match 4 = .ok (.getfield 128, 3) := by decide +kernel
theorem dX11_match_7 : decode cX11_match 7 = .ok (.iload_n 1, 1) := by decide +kernel
theorem dX11_match_8 : decode cX11_match 8 = .ok (.invokevirtual 150, 3) := by decide +kernel
theorem dX11_match_11 : decode cX11_match 11 = .ok (.ireturn, 1) := by decide +kernel
theorem dX11_rivals_0 : decode cX11_rivals 0 = .ok (.aload_n 0, 1) := by decide +kernel
theorem dX11_rivals_1 : decode cX11_rivals 1 = .ok (.getfield 10, 3) := by decide +kernel
theorem dX11_rivals_4 : decode cX11_rivals 4 = .ok (.getfield 128, 3) := by decide +kernel
theorem dX11_rivals_7 : decode cX11_rivals 7 = .ok (.iload_n 1, 1) := by decide +kernel
theorem dX11_rivals_8 : decode cX11_rivals 8 = .ok (.invokevirtual 150, 3) := by decide +kernel
theorem dX11_rivals_11 : decode cX11_rivals 11 = .ok (.istore_n 2, 1) := by decide +kernel
theorem dX11_rivals_12 : decode cX11_rivals 12 = .ok (.iload_n 2, 1) := by decide +kernel
theorem dX11_rivals_13 : decode cX11_rivals 13 = .ok (.iconst (-1), 1) := by decide +kernel
theorem dX11_rivals_14 : decode cX11_rivals 14 = .ok (.if_icmp .ne 7, 3) := by decide +kernel
theorem dX11_rivals_17 : decode cX11_rivals 17 = .ok (.iconst (-1), 1) := by decide +kernel
theorem dX11_rivals_18 : decode cX11_rivals 18 = .ok (.goto 15, 3) := by decide +kernel
theorem dX11_rivals_21 : decode cX11_rivals 21 = .ok (.aload_n 0, 1) := by decide +kernel
theorem dX11_rivals_22 : decode cX11_rivals 22 = .ok (.getfield 10, 3) := by decide +kernel
theorem dX11_rivals_25 : decode cX11_rivals 25 = .ok (.getfield 128, 3) := by decide +kernel
theorem dX11_rivals_28 : decode cX11_rivals 28 = .ok (.iload_n 1, 1) := by decide +kernel
theorem dX11_rivals_29 : decode cX11_rivals 29 = .ok (.iload_n 2, 1) := by decide +kernel
theorem dX11_rivals_30 : decode cX11_rivals 30 = .ok (.invokevirtual 154, 3) := by decide +kernel
theorem dX11_rivals_33 : decode cX11_rivals 33 = .ok (.ireturn, 1) := by decide +kernel
theorem dX11_join_0 : decode cX11_join 0 = .ok (.aload_n 0, 1) := by decide +kernel
theorem dX11_join_1 : decode cX11_join 1 = .ok (.getfield 10, 3) := by decide +kernel
theorem dX11_join_4 : decode cX11_join 4 = .ok (.getfield 128, 3) := by decide +kernel
theorem dX11_join_7 : decode cX11_join 7 = .ok (.iload_n 1, 1) := by decide +kernel
theorem dX11_join_8 : decode cX11_join 8 = .ok (.iload_n 2, 1) := by decide +kernel
theorem dX11_join_9 : decode cX11_join 9 = .ok (.invokevirtual 158, 3) := by decide +kernel
theorem dX11_join_12 : decode cX11_join 12 = .ok (.ireturn, 1) := by decide +kernel
theorem dX11_part_0 : decode cX11_part 0 = .ok (.aload_n 0, 1) := by decide +kernel
theorem dX11_part_1 : decode cX11_part 1 = .ok (.getfield 10, 3) := by decide +kernel
theorem dX11_part_4 : decode cX11_part 4 = .ok (.getfield 128, 3) := by decide +kernel
theorem dX11_part_7 : decode cX11_part 7 = .ok (.iload_n 1, 1) := by decide +kernel
theorem dX11_part_8 : decode cX11_part 8 = .ok (.invokevirtual 161, 3) := by decide +kernel
theorem dX11_part_11 : decode cX11_part 11 = .ok (.ireturn, 1) := by decide +kernel
theorem dX11_same_0 : decode cX11_same 0 = .ok (.aload_n 0, 1) := by decide +kernel
theorem dX11_same_1 : decode cX11_same 1 = .ok (.getfield 10, 3) := by decide +kernel
theorem dX11_same_4 : decode cX11_same 4 = .ok (.getfield 128, 3) := by decide +kernel
theorem dX11_same_7 : decode cX11_same 7 = .ok (.astore_n 3, 1) := by decide +kernel
theorem dX11_same_8 : decode cX11_same 8 = .ok (.aload_n 3, 1) := by decide +kernel
theorem dX11_same_9 : decode cX11_same 9 = .ok (.iload_n 1, 1) := by decide +kernel
theorem dX11_same_10 : decode cX11_same 10 = .ok (.invokevirtual 164, 3) := by decide +kernel
theorem dX11_same_13 : decode cX11_same 13 = .ok (.ifCond .eq 30, 3) := by decide +kernel
theorem dX11_same_16 : decode cX11_same 16 = .ok (.aload_n 3, 1) := by decide +kernel
theorem dX11_same_17 : decode cX11_same 17 = .ok (.iload_n 2, 1) := by decide +kernel
theorem dX11_same_18 : decode cX11_same 18 = .ok (.invokevirtual 164, 3) := by decide +kernel
theorem dX11_same_21 : decode cX11_same 21 = .ok (.ifCond .eq 22, 3) := by decide +kernel
theorem dX11_same_24 : decode cX11_same 24 = .ok (.aload_n 3, 1) := by decide +kernel
theorem dX11_same_25 : decode cX11_same 25 = .ok (.getfield 165, 3) := by decide +kernel
theorem dX11_same_28 : decode cX11_same 28 = .ok (.iload_n 1, 1) := by decide +kernel
theorem dX11_same_29 : decode cX11_same 29 = .ok (.iaload, 1) := by decide +kernel
theorem dX11_same_30 : decode cX11_same 30 = .ok (.aload_n 3, 1) := by decide +kernel
theorem dX11_same_31 : decode cX11_same 31 = .ok (.getfield 165, 3) := by decide +kernel
theorem dX11_same_34 : decode cX11_same 34 = .ok (.iload_n 2, 1) := by decide +kernel
theorem dX11_same_35 : decode cX11_same 35 = .ok (.iaload, 1) := by decide +kernel
theorem dX11_same_36 : decode cX11_same 36 = .ok (.if_icmp .ne 7, 3) := by decide +kernel
theorem dX11_same_39 : decode cX11_same 39 = .ok (.iconst 1, 1) := by decide +kernel
theorem dX11_same_40 : decode cX11_same 40 = .ok (.goto 4, 3) := by decide +kernel
theorem dX11_same_43 : decode cX11_same 43 = .ok (.iconst 0, 1) := by decide +kernel
theorem dX11_same_44 : decode cX11_same 44 = .ok (.ireturn, 1) := by decide +kernel
theorem dX11_seek_0 : decode cX11_seek 0 = .ok (.aload_n 0, 1) := by decide +kernel
theorem dX11_seek_1 : decode cX11_seek 1 = .ok (.getfield 10, 3) := by decide +kernel
theorem dX11_seek_4 : decode cX11_seek 4 = .ok (.getfield 100, 3) := by decide +kernel
theorem dX11_seek_7 : decode cX11_seek 7 = .ok (.iload_n 1, 1) := by decide +kernel
theorem dX11_seek_8 : decode cX11_seek 8 = .ok (.invokevirtual 127, 3) := by decide +kernel
theorem dX11_seek_11 : decode cX11_seek 11 = .ok (.ifCond .eq 11, 3) := by decide +kernel
theorem dX11_seek_14 : decode cX11_seek 14 = .ok (.iload_n 2, 1) := by decide +kernel
theorem dX11_seek_15 : decode cX11_seek 15 = .ok (.iload_n 3, 1) := by decide +kernel
theorem dX11_seek_16 : decode cX11_seek 16 = .ok (.invokestatic 123, 3) := by decide +kernel
theorem dX11_seek_19 : decode cX11_seek 19 = .ok (.ifCond .ne 5, 3) := by decide +kernel
theorem dX11_seek_22 : decode cX11_seek 22 = .ok (.iconst 0, 1) := by decide +kernel
theorem dX11_seek_23 : decode cX11_seek 23 = .ok (.ireturn, 1) := by decide +kernel
theorem dX11_seek_24 : decode cX11_seek 24 = .ok (.aload_n 0, 1) := by decide +kernel
theorem dX11_seek_25 : decode cX11_seek 25 = .ok (.getfield 10, 3) := by decide +kernel
theorem dX11_seek_28 : decode cX11_seek 28 = .ok (.getfield 128, 3) := by decide +kernel
theorem dX11_seek_31 : decode cX11_seek 31 = .ok (.iload_n 1, 1) := by decide +kernel
theorem dX11_seek_32 : decode cX11_seek 32 = .ok (.iload_n 2, 1) := by decide +kernel
theorem dX11_seek_33 : decode cX11_seek 33 = .ok (.iload_n 3, 1) := by decide +kernel
theorem dX11_seek_34 : decode cX11_seek 34 = .ok (.invokevirtual 168, 3) := by decide +kernel
theorem dX11_seek_37 : decode cX11_seek 37 = .ok (.ireturn, 1) := by decide +kernel
theorem dX11_finds_0 : decode cX11_finds 0 = .ok (.aload_n 0, 1) := by decide +kernel
theorem dX11_finds_1 : decode cX11_finds 1 = .ok (.getfield 10, 3) := by decide +kernel
theorem dX11_finds_4 : decode cX11_finds 4 = .ok (.getfield 100, 3) := by decide +kernel
theorem dX11_finds_7 : decode cX11_finds 7 = .ok (.iload_n 1, 1) := by decide +kernel
theorem dX11_finds_8 : decode cX11_finds 8 = .ok (.invokevirtual 127, 3) := by decide +kernel
theorem dX11_finds_11 : decode cX11_finds 11 = .ok (.ifCond .eq 22, 3) := by decide +kernel
theorem dX11_finds_14 : decode cX11_finds 14 = .ok (.aload_n 0, 1) := by decide +kernel
theorem dX11_finds_15 : decode cX11_finds 15 = .ok (.getfield 10, 3) := by decide +kernel
theorem dX11_finds_18 : decode cX11_finds 18 = .ok (.getfield 100, 3) := by decide +kernel
theorem dX11_finds_21 : decode cX11_finds 21 = .ok (.iload_n 2, 1) := by decide +kernel
theorem dX11_finds_22 : decode cX11_finds 22 = .ok (.invokevirtual 127, 3) := by decide +kernel
theorem dX11_finds_25 : decode cX11_finds 25 = .ok (.ifCond .eq 8, 3) := by decide +kernel
theorem dX11_finds_28 : decode cX11_finds 28 = .ok (.iload_n 1, 1) := by decide +kernel
theorem dX11_finds_29 : decode cX11_finds 29 = .ok (.iload_n 2, 1) := by decide +kernel
theorem dX11_finds_30 : decode cX11_finds 30 = .ok (.if_icmp .ne 5, 3) := by decide +kernel
theorem dX11_finds_33 : decode cX11_finds 33 = .ok (.iconst (-1), 1) := by decide +kernel
theorem dX11_finds_34 : decode cX11_finds 34 = .ok (.ireturn, 1) := by decide +kernel
theorem dX11_finds_35 : decode cX11_finds 35 = .ok (.aload_n 0, 1) := by decide +kernel
theorem dX11_finds_36 : decode cX11_finds 36 = .ok (.getfield 10, 3) := by decide +kernel
theorem dX11_finds_39 : decode cX11_finds 39 = .ok (.getfield 128, 3) := by decide +kernel
theorem dX11_finds_42 : decode cX11_finds 42 = .ok (.iload_n 1, 1) := by decide +kernel
theorem dX11_finds_43 : decode cX11_finds 43 = .ok (.iload_n 2, 1) := by decide +kernel
theorem dX11_finds_44 : decode cX11_finds 44 = .ok (.invokevirtual 172, 3) := by decide +kernel
theorem dX11_finds_47 : decode cX11_finds 47 = .ok (.ireturn, 1) := by decide +kernel
theorem dX11_kin_0 : decode cX11_kin 0 = .ok (.aload_n 0, 1) := by decide +kernel
theorem dX11_kin_1 : decode cX11_kin 1 = .ok (.getfield 10, 3) := by decide +kernel
theorem dX11_kin_4 : decode cX11_kin 4 = .ok (.getfield 100, 3) := by decide +kernel
theorem dX11_kin_7 : decode cX11_kin 7 = .ok (.iload_n 1, 1) := by decide +kernel
theorem dX11_kin_8 : decode cX11_kin 8 = .ok (.invokevirtual 127, 3) := by decide +kernel
theorem dX11_kin_11 : decode cX11_kin 11 = .ok (.ifCond .eq 18, 3) := by decide +kernel
theorem dX11_kin_14 : decode cX11_kin 14 = .ok (.aload_n 0, 1) := by decide +kernel
theorem dX11_kin_15 : decode cX11_kin 15 = .ok (.getfield 10, 3) := by decide +kernel
theorem dX11_kin_18 : decode cX11_kin 18 = .ok (.getfield 128, 3) := by decide +kernel
theorem dX11_kin_21 : decode cX11_kin 21 = .ok (.getfield 175, 3) := by decide +kernel
theorem dX11_kin_24 : decode cX11_kin 24 = .ok (.iload_n 1, 1) := by decide +kernel
theorem dX11_kin_25 : decode cX11_kin 25 = .ok (.iaload, 1) := by decide +kernel
theorem dX11_kin_26 : decode cX11_kin 26 = .ok (.goto 4, 3) := by decide +kernel
theorem dX11_kin_29 : decode cX11_kin 29 = .ok (.iconst (-1), 1) := by decide +kernel
theorem dX11_kin_30 : decode cX11_kin 30 = .ok (.ireturn, 1) := by decide +kernel
theorem dX11_mutual_0 : decode cX11_mutual 0 = .ok (.aload_n 0, 1) := by decide +kernel
theorem dX11_mutual_1 : decode cX11_mutual 1 = .ok (.getfield 10, 3) := by decide +kernel
theorem dX11_mutual_4 : decode cX11_mutual 4 = .ok (.getfield 100, 3) := by decide +kernel
theorem dX11_mutual_7 : decode cX11_mutual 7 = .ok (.iload_n 1, 1) := by decide +kernel
theorem dX11_mutual_8 : decode cX11_mutual 8 = .ok (.invokevirtual 127, 3) := by decide +kernel
theorem dX11_mutual_11 : decode cX11_mutual 11 = .ok (.ifCond .eq 17, 3) := by decide +kernel
theorem dX11_mutual_14 : decode cX11_mutual 14 = .ok (.aload_n 0, 1) := by decide +kernel
theorem dX11_mutual_15 : decode cX11_mutual 15 = .ok (.getfield 10, 3) := by decide +kernel
theorem dX11_mutual_18 : decode cX11_mutual 18 = .ok (.getfield 128, 3) := by decide +kernel
theorem dX11_mutual_21 : decode cX11_mutual 21 = .ok (.iload_n 1, 1) := by decide +kernel
theorem dX11_mutual_22 : decode cX11_mutual 22 = .ok (.invokevirtual 178, 3) := by decide +kernel
theorem dX11_mutual_25 : decode cX11_mutual 25 = .ok (.goto 4, 3) := by decide +kernel
theorem dX11_mutual_28 : decode cX11_mutual 28 = .ok (.iconst (-1), 1) := by decide +kernel
theorem dX11_mutual_29 : decode cX11_mutual 29 = .ok (.ireturn, 1) := by decide +kernel
theorem dX11_feed_0 : decode cX11_feed 0 = .ok (.aload_n 0, 1) := by decide +kernel
theorem dX11_feed_1 : decode cX11_feed 1 = .ok (.getfield 19, 3) := by decide +kernel
theorem dX11_feed_4 : decode cX11_feed 4 = .ok (.bipush 20, 2) := by decide +kernel
theorem dX11_feed_6 : decode cX11_feed 6 = .ok (.invokevirtual 181, 3) := by decide +kernel
theorem dX11_feed_9 : decode cX11_feed 9 = .ok (.ifCond .ne 5, 3) := by decide +kernel
theorem dX11_feed_12 : decode cX11_feed 12 = .ok (.iconst (-1), 1) := by decide +kernel
theorem dX11_feed_13 : decode cX11_feed 13 = .ok (.ireturn, 1) := by decide +kernel
theorem dX11_feed_14 : decode cX11_feed 14 = .ok (.aload_n 0, 1) := by decide +kernel
theorem dX11_feed_15 : decode cX11_feed 15 = .ok (.getfield 19, 3) := by decide +kernel
theorem dX11_feed_18 : decode cX11_feed 18 = .ok (.iload_n 1, 1) := by decide +kernel
theorem dX11_feed_19 : decode cX11_feed 19 = .ok (.invokevirtual 184, 3) := by decide +kernel
theorem dX11_feed_22 : decode cX11_feed 22 = .ok (.aload_n 0, 1) := by decide +kernel
theorem dX11_feed_23 : decode cX11_feed 23 = .ok (.getfield 19, 3) := by decide +kernel
theorem dX11_feed_26 : decode cX11_feed 26 = .ok (.iload_n 2, 1) := by decide +kernel
theorem dX11_feed_27 : decode cX11_feed 27 = .ok (.invokevirtual 184, 3) := by decide +kernel
theorem dX11_feed_30 : decode cX11_feed 30 = .ok (.aload_n 0, 1) := by decide +kernel
theorem dX11_feed_31 : decode cX11_feed 31 = .ok (.getfield 19, 3) := by decide +kernel
theorem dX11_feed_34 : decode cX11_feed 34 = .ok (.iload_n 3, 1) := by decide +kernel
theorem dX11_feed_35 : decode cX11_feed 35 = .ok (.invokevirtual 184, 3) := by decide +kernel
theorem dX11_feed_38 : decode cX11_feed 38 = .ok (.aload_n 0, 1) := by decide +kernel
theorem dX11_feed_39 : decode cX11_feed 39 = .ok (.getfield 19, 3) := by decide +kernel
theorem dX11_feed_42 : decode cX11_feed 42 = .ok (.iload 4, 2) := by decide +kernel
theorem dX11_feed_44 : decode cX11_feed 44 = .ok (.invokevirtual 184, 3) := by decide +kernel
theorem dX11_feed_47 : decode cX11_feed 47 = .ok (.aload_n 0, 1) := by decide +kernel
theorem dX11_feed_48 : decode cX11_feed 48 = .ok (.getfield 19, 3) := by decide +kernel
theorem dX11_feed_51 : decode cX11_feed 51 = .ok (.iload 5, 2) := by decide +kernel
theorem dX11_feed_53 : decode cX11_feed 53 = .ok (.invokevirtual 184, 3) := by decide +kernel
theorem dX11_feed_56 : decode cX11_feed 56 = .ok (.aload_n 0, 1) := by decide +kernel
theorem dX11_feed_57 : decode cX11_feed 57 = .ok (.getfield 19, 3) := by decide +kernel
theorem dX11_feed_60 : decode cX11_feed 60 = .ok (.getfield 188, 3) := by decide +kernel
theorem dX11_feed_63 : decode cX11_feed 63 = .ok (.ireturn, 1) := by decide +kernel
theorem dX11_end_0 : decode cX11_end 0 = .ok (.iload_n 1, 1) := by decide +kernel
theorem dX11_end_1 : decode cX11_end 1 = .ok (.ifCond .lt 14, 3) := by decide +kernel
theorem dX11_end_4 : decode cX11_end 4 = .ok (.iload_n 1, 1) := by decide +kernel
theorem dX11_end_5 : decode cX11_end 5 = .ok (.aload_n 0, 1) := by decide +kernel
theorem dX11_end_6 : decode cX11_end 6 = .ok (.getfield 19, 3) := by decide +kernel
theorem dX11_end_9 : decode cX11_end 9 = .ok (.getfield 188, 3) := by decide +kernel
theorem dX11_end_12 : decode cX11_end 12 = .ok (.if_icmp .le 5, 3) := by decide +kernel
theorem dX11_end_15 : decode cX11_end 15 = .ok (.iconst 0, 1) := by decide +kernel
theorem dX11_end_16 : decode cX11_end 16 = .ok (.ireturn, 1) := by decide +kernel
theorem dX11_end_17 : decode cX11_end 17 = .ok (.aload_n 0, 1) := by decide +kernel
theorem dX11_end_18 : decode cX11_end 18 = .ok (.getfield 19, 3) := by decide +kernel
theorem dX11_end_21 : decode cX11_end 21 = .ok (.iload_n 1, 1) := by decide +kernel
theorem dX11_end_22 : decode cX11_end 22 = .ok (.putfield 188, 3) := by decide +kernel
theorem dX11_end_25 : decode cX11_end 25 = .ok (.iconst 1, 1) := by decide +kernel
theorem dX11_end_26 : decode cX11_end 26 = .ok (.ireturn, 1) := by decide +kernel
theorem dX11_fault_0 : decode cX11_fault 0 = .ok (.aload_n 0, 1) := by decide +kernel
theorem dX11_fault_1 : decode cX11_fault 1 = .ok (.getfield 19, 3) := by decide +kernel
theorem dX11_fault_4 : decode cX11_fault 4 = .ok (.invokevirtual 191, 3) := by decide +kernel
theorem dX11_fault_7 : decode cX11_fault 7 = .ok (.aload_n 0, 1) := by decide +kernel
theorem dX11_fault_8 : decode cX11_fault 8 = .ok (.getfield 19, 3) := by decide +kernel
theorem dX11_fault_11 : decode cX11_fault 11 = .ok (.getfield 194, 3) := by decide +kernel
theorem dX11_fault_14 : decode cX11_fault 14 = .ok (.ireturn, 1) := by decide +kernel
theorem dX11_sheet_0 : decode cX11_sheet 0 = .ok (.aload_n 0, 1) := by decide +kernel
theorem dX11_sheet_1 : decode cX11_sheet 1 = .ok (.getfield 19, 3) := by decide +kernel
theorem dX11_sheet_4 : decode cX11_sheet 4 = .ok (.invokevirtual 191, 3) := by decide +kernel
theorem dX11_sheet_7 : decode cX11_sheet 7 = .ok (.aload_n 0, 1) := by decide +kernel
theorem dX11_sheet_8 : decode cX11_sheet 8 = .ok (.getfield 19, 3) := by decide +kernel
theorem dX11_sheet_11 : decode cX11_sheet 11 = .ok (.getfield 194, 3) := by decide +kernel
theorem dX11_sheet_14 : decode cX11_sheet 14 = .ok (.iconst (-1), 1) := by decide +kernel
theorem dX11_sheet_15 : decode cX11_sheet 15 = .ok (.if_icmp .eq 5, 3) := by decide +kernel
theorem dX11_sheet_18 : decode cX11_sheet 18 = .ok (.iconst (-1), 1) := by decide +kernel
theorem dX11_sheet_19 : decode cX11_sheet 19 = .ok (.ireturn, 1) := by decide +kernel
theorem dX11_sheet_20 : decode cX11_sheet 20 = .ok (.aload_n 0, 1) := by decide +kernel
theorem dX11_sheet_21 : decode cX11_sheet 21 = .ok (.getfield 10, 3) := by decide +kernel
theorem dX11_sheet_24 : decode cX11_sheet 24 = .ok (.getfield 197, 3) := by decide +kernel
theorem dX11_sheet_27 : decode cX11_sheet 27 = .ok (.aload_n 0, 1) := by decide +kernel
theorem dX11_sheet_28 : decode cX11_sheet 28 = .ok (.getfield 19, 3) := by decide +kernel
theorem dX11_sheet_31 : decode cX11_sheet 31 = .ok (.aload_n 0, 1) := by decide +kernel
theorem dX11_sheet_32 : decode cX11_sheet 32 = .ok (.getfield 10, 3) := by decide +kernel
theorem dX11_sheet_35 : decode cX11_sheet 35 = .ok (.getfield 104, 3) := by decide +kernel
theorem dX11_sheet_38 : decode cX11_sheet 38 = .ok (.invokevirtual 201, 3) := by decide +kernel
theorem dX11_sheet_41 : decode cX11_sheet 41 = .ok (.istore_n 1, 1) := by decide +kernel
theorem dX11_sheet_42 : decode cX11_sheet 42 = .ok (.iload_n 1, 1) := by decide +kernel
theorem dX11_sheet_43 : decode cX11_sheet 43 = .ok (.iconst (-1), 1) := by decide +kernel
theorem dX11_sheet_44 : decode cX11_sheet 44 = .ok (.if_icmp .eq 11, 3) := by decide +kernel
theorem dX11_sheet_47 : decode cX11_sheet 47 = .ok (.aload_n 0, 1) := by decide +kernel
theorem dX11_sheet_48 : decode cX11_sheet 48 = .ok (.getfield 19, 3) := by decide +kernel
theorem dX11_sheet_51 : decode cX11_sheet 51 = .ok (.iconst 0, 1) := by decide +kernel
theorem dX11_sheet_52 : decode cX11_sheet 52 = .ok (.putfield 188, 3) := by decide +kernel
theorem dX11_sheet_55 : decode cX11_sheet 55 = .ok (.iload_n 1, 1) := by decide +kernel
theorem dX11_sheet_56 : decode cX11_sheet 56 = .ok (.ireturn, 1) := by decide +kernel
theorem dX11_strike_0 : decode cX11_strike 0 = .ok (.aload_n 0, 1) := by decide +kernel
theorem dX11_strike_1 : decode cX11_strike 1 = .ok (.getfield 10, 3) := by decide +kernel
theorem dX11_strike_4 : decode cX11_strike 4 = .ok (.getfield 197, 3) := by decide +kernel
theorem dX11_strike_7 : decode cX11_strike 7 = .ok (.iload_n 1, 1) := by decide +kernel
theorem dX11_strike_8 : decode cX11_strike 8 = .ok (.invokevirtual 207, 3) := by decide +kernel
theorem dX11_strike_11 : decode cX11_strike 11 = .ok (.ifCond .eq 19, 3) := by decide +kernel
theorem dX11_strike_14 : decode cX11_strike 14 = .ok (.aload_n 0, 1) := by decide +kernel
theorem dX11_strike_15 : decode cX11_strike 15 = .ok (.getfield 10, 3) := by decide +kernel
theorem dX11_strike_18 : decode cX11_strike 18 = .ok (.getfield 197, 3) := by decide +kernel
theorem dX11_strike_21 : decode cX11_strike 21 = .ok (.getfield 208, 3) := by decide +kernel
theorem dX11_strike_24 : decode cX11_strike 24 = .ok (.iload_n 1, 1) := by decide +kernel
theorem dX11_strike_25 : decode cX11_strike 25 = .ok (.iaload, 1) := by decide +kernel
theorem dX11_strike_26 : decode cX11_strike 26 = .ok (.iconst (-1), 1) := by decide +kernel
theorem dX11_strike_27 : decode cX11_strike 27 = .ok (.if_icmp .eq 5, 3) := by decide +kernel
theorem dX11_strike_30 : decode cX11_strike 30 = .ok (.iconst 0, 1) := by decide +kernel
theorem dX11_strike_31 : decode cX11_strike 31 = .ok (.ireturn, 1) := by decide +kernel
theorem dX11_strike_32 : decode cX11_strike 32 = .ok (.aload_n 0, 1) := by decide +kernel
theorem dX11_strike_33 : decode cX11_strike 33 = .ok (.getfield 10, 3) := by decide +kernel
theorem dX11_strike_36 : decode cX11_strike 36 = .ok (.getfield 197, 3) := by decide +kernel
theorem dX11_strike_39 : decode cX11_strike 39 = .ok (.getfield 208, 3) := by decide +kernel
theorem dX11_strike_42 : decode cX11_strike 42 = .ok (.iload_n 1, 1) := by decide +kernel
theorem dX11_strike_43 : decode cX11_strike 43 = .ok (.aload_n 0, 1) := by decide +kernel
theorem dX11_strike_44 : decode cX11_strike 44 = .ok (.getfield 10, 3) := by decide +kernel
theorem dX11_strike_47 : decode cX11_strike 47 = .ok (.getfield 104, 3) := by decide +kernel
theorem dX11_strike_50 : decode cX11_strike 50 = .ok (.iastore, 1) := by decide +kernel
theorem dX11_strike_51 : decode cX11_strike 51 = .ok (.iconst 1, 1) := by decide +kernel
theorem dX11_strike_52 : decode cX11_strike 52 = .ok (.ireturn, 1) := by decide +kernel
theorem dX11_why_0 : decode cX11_why 0 = .ok (.iload_n 1, 1) := by decide +kernel
theorem dX11_why_1 : decode cX11_why 1 = .ok (.ifCond .lt 24, 3) := by decide +kernel
theorem dX11_why_4 : decode cX11_why 4 = .ok (.iload_n 1, 1) := by decide +kernel
theorem dX11_why_5 : decode cX11_why 5 = .ok (.bipush 6, 2) := by decide +kernel
theorem dX11_why_7 : decode cX11_why 7 = .ok (.if_icmp .ge 18, 3) := by decide +kernel
theorem dX11_why_10 : decode cX11_why 10 = .ok (.iload_n 2, 1) := by decide +kernel
theorem dX11_why_11 : decode cX11_why 11 = .ok (.ifCond .lt 14, 3) := by decide +kernel
theorem dX11_why_14 : decode cX11_why 14 = .ok (.iload_n 2, 1) := by decide +kernel
theorem dX11_why_15 : decode cX11_why 15 = .ok (.aload_n 0, 1) := by decide +kernel
theorem dX11_why_16 : decode cX11_why 16 = .ok (.getfield 10, 3) := by decide +kernel
theorem dX11_why_19 : decode cX11_why 19 = .ok (.getfield 104, 3) := by decide +kernel
theorem dX11_why_22 : decode cX11_why 22 = .ok (.if_icmp .le 5, 3) := by decide +kernel
theorem dX11_why_25 : decode cX11_why 25 = .ok (.iconst (-1), 1) := by decide +kernel
theorem dX11_why_26 : decode cX11_why 26 = .ok (.ireturn, 1) := by decide +kernel
theorem dX11_why_27 : decode cX11_why 27 = .ok (.aload_n 0, 1) := by decide +kernel
theorem dX11_why_28 : decode cX11_why 28 = .ok (.getfield 10, 3) := by decide +kernel
theorem dX11_why_31 : decode cX11_why 31 = .ok (.getfield 197, 3) := by decide +kernel
theorem dX11_why_34 : decode cX11_why 34 = .ok (.iload_n 1, 1) := by decide +kernel
theorem dX11_why_35 : decode cX11_why 35 = .ok (.iload_n 2, 1) := by decide +kernel
theorem dX11_why_36 : decode cX11_why 36 = .ok (.invokevirtual 211, 3) := by decide +kernel
theorem dX11_why_39 : decode cX11_why 39 = .ok (.ireturn, 1) := by decide +kernel
theorem dX11_rank_0 : decode cX11_rank 0 = .ok (.aload_n 0, 1) := by decide +kernel
theorem dX11_rank_1 : decode cX11_rank 1 = .ok (.getfield 10, 3) := by decide +kernel
theorem dX11_rank_4 : decode cX11_rank 4 = .ok (.getfield 100, 3) := by decide +kernel
theorem dX11_rank_7 : decode cX11_rank 7 = .ok (.iload_n 1, 1) := by decide +kernel
theorem dX11_rank_8 : decode cX11_rank 8 = .ok (.invokevirtual 127, 3) := by decide +kernel
theorem dX11_rank_11 : decode cX11_rank 11 = .ok (.ifCond .ne 6, 3) := by decide +kernel
theorem dX11_rank_14 : decode cX11_rank 14 = .ok (.ldc 140, 2) := by decide +kernel
theorem dX11_rank_16 : decode cX11_rank 16 = .ok (.ireturn, 1) := by decide +kernel
theorem dX11_rank_17 : decode cX11_rank 17 = .ok (.iload_n 2, 1) := by decide +kernel
theorem dX11_rank_18 : decode cX11_rank 18 = .ok (.lookupswitch 44 #[(0, 26), (1, 35)], 26) := by decide +kernel
theorem dX11_rank_44 : decode cX11_rank 44 = .ok (.aload_n 0, 1) := by decide +kernel
theorem dX11_rank_45 : decode cX11_rank 45 = .ok (.getfield 10, 3) := by decide +kernel
theorem dX11_rank_48 : decode cX11_rank 48 = .ok (.iload_n 1, 1) := by decide +kernel
theorem dX11_rank_49 : decode cX11_rank 49 = .ok (.invokevirtual 214, 3) := by decide +kernel
theorem dX11_rank_52 : decode cX11_rank 52 = .ok (.ireturn, 1) := by decide +kernel
theorem dX11_rank_53 : decode cX11_rank 53 = .ok (.aload_n 0, 1) := by decide +kernel
theorem dX11_rank_54 : decode cX11_rank 54 = .ok (.getfield 10, 3) := by decide +kernel
theorem dX11_rank_57 : decode cX11_rank 57 = .ok (.iload_n 1, 1) := by decide +kernel
theorem dX11_rank_58 : decode cX11_rank 58 = .ok (.invokevirtual 217, 3) := by decide +kernel
theorem dX11_rank_61 : decode cX11_rank 61 = .ok (.ireturn, 1) := by decide +kernel
theorem dX11_rank_62 : decode cX11_rank 62 = .ok (.ldc 140, 2) := by decide +kernel
theorem dX11_rank_64 : decode cX11_rank 64 = .ok (.ireturn, 1) := by decide +kernel
theorem dX11_lack_0 : decode cX11_lack 0 = .ok (.aload_n 0, 1) := by decide +kernel
theorem dX11_lack_1 : decode cX11_lack 1 = .ok (.getfield 10, 3) := by decide +kernel
theorem dX11_lack_4 : decode cX11_lack 4 = .ok (.getfield 53, 3) := by decide +kernel
theorem dX11_lack_7 : decode cX11_lack 7 = .ok (.iload_n 1, 1) := by decide +kernel
theorem dX11_lack_8 : decode cX11_lack 8 = .ok (.invokevirtual 63, 3) := by decide +kernel
theorem dX11_lack_11 : decode cX11_lack 11 = .ok (.ifCond .eq 14, 3) := by decide +kernel
theorem dX11_lack_14 : decode cX11_lack 14 = .ok (.aload_n 0, 1) := by decide +kernel
theorem dX11_lack_15 : decode cX11_lack 15 = .ok (.getfield 10, 3) := by decide +kernel
theorem dX11_lack_18 : decode cX11_lack 18 = .ok (.iload_n 1, 1) := by decide +kernel
theorem dX11_lack_19 : decode cX11_lack 19 = .ok (.invokevirtual 220, 3) := by decide +kernel
theorem dX11_lack_22 : decode cX11_lack 22 = .ok (.goto 5, 3) := by decide +kernel
theorem dX11_lack_25 : decode cX11_lack 25 = .ok (.ldc 140, 2) := by decide +kernel
theorem dX11_lack_27 : decode cX11_lack 27 = .ok (.ireturn, 1) := by decide +kernel
theorem dX11_bar_0 : decode cX11_bar 0 = .ok (.aload_n 0, 1) := by decide +kernel
theorem dX11_bar_1 : decode cX11_bar 1 = .ok (.getfield 10, 3) := by decide +kernel
theorem dX11_bar_4 : decode cX11_bar 4 = .ok (.iload_n 1, 1) := by decide +kernel
theorem dX11_bar_5 : decode cX11_bar 5 = .ok (.invokevirtual 113, 3) := by decide +kernel
theorem dX11_bar_8 : decode cX11_bar 8 = .ok (.ifCond .eq 17, 3) := by decide +kernel
theorem dX11_bar_11 : decode cX11_bar 11 = .ok (.aload_n 0, 1) := by decide +kernel
theorem dX11_bar_12 : decode cX11_bar 12 = .ok (.getfield 10, 3) := by decide +kernel
theorem dX11_bar_15 : decode cX11_bar 15 = .ok (.getfield 77, 3) := by decide +kernel
theorem dX11_bar_18 : decode cX11_bar 18 = .ok (.iload_n 2, 1) := by decide +kernel
theorem dX11_bar_19 : decode cX11_bar 19 = .ok (.invokevirtual 223, 3) := by decide +kernel
theorem dX11_bar_22 : decode cX11_bar 22 = .ok (.ifCond .ne 5, 3) := by decide +kernel
theorem dX11_bar_25 : decode cX11_bar 25 = .ok (.iconst (-1), 1) := by decide +kernel
theorem dX11_bar_26 : decode cX11_bar 26 = .ok (.ireturn, 1) := by decide +kernel
theorem dX11_bar_27 : decode cX11_bar 27 = .ok (.aload_n 0, 1) := by decide +kernel
theorem dX11_bar_28 : decode cX11_bar 28 = .ok (.getfield 10, 3) := by decide +kernel
theorem dX11_bar_31 : decode cX11_bar 31 = .ok (.iload_n 1, 1) := by decide +kernel
theorem dX11_bar_32 : decode cX11_bar 32 = .ok (.iload_n 2, 1) := by decide +kernel
theorem dX11_bar_33 : decode cX11_bar 33 = .ok (.invokevirtual 224, 3) := by decide +kernel
theorem dX11_bar_36 : decode cX11_bar 36 = .ok (.ireturn, 1) := by decide +kernel
theorem dX11_place_0 : decode cX11_place 0 = .ok (.aload_n 0, 1) := by decide +kernel
theorem dX11_place_1 : decode cX11_place 1 = .ok (.getfield 28, 3) := by decide +kernel
theorem dX11_place_4 : decode cX11_place 4 = .ok (.invokevirtual 227, 3) := by decide +kernel
theorem dX11_place_7 : decode cX11_place 7 = .ok (.aload_n 0, 1) := by decide +kernel
theorem dX11_place_8 : decode cX11_place 8 = .ok (.getfield 28, 3) := by decide +kernel
theorem dX11_place_11 : decode cX11_place 11 = .ok (.invokevirtual 230, 3) := by decide +kernel
theorem dX11_place_14 : decode cX11_place 14 = .ok (.aload_n 0, 1) := by decide +kernel
theorem dX11_place_15 : decode cX11_place 15 = .ok (.getfield 28, 3) := by decide +kernel
theorem dX11_place_18 : decode cX11_place 18 = .ok (.iconst 1, 1) := by decide +kernel
theorem dX11_place_19 : decode cX11_place 19 = .ok (.invokevirtual 233, 3) := by decide +kernel
theorem dX11_place_22 : decode cX11_place 22 = .ok (.ireturn, 1) := by decide +kernel
theorem dX11_passed_0 : decode cX11_passed 0 = .ok (.aload_n 0, 1) := by decide +kernel
theorem dX11_passed_1 : decode cX11_passed 1 = .ok (.getfield 28, 3) := by decide +kernel
theorem dX11_passed_4 : decode cX11_passed 4 = .ok (.iload_n 1, 1) := by decide +kernel
theorem dX11_passed_5 : decode cX11_passed 5 = .ok (.iload_n 2, 1) := by decide +kernel
theorem dX11_passed_6 : decode cX11_passed 6 = .ok (.invokevirtual 237, 3) := by decide +kernel
theorem dX11_passed_9 : decode cX11_passed 9 = .ok (.ireturn, 1) := by decide +kernel
theorem dX11_move_0 : decode cX11_move 0 = .ok (.aload_n 0, 1) := by decide +kernel
theorem dX11_move_1 : decode cX11_move 1 = .ok (.getfield 10, 3) := by decide +kernel
theorem dX11_move_4 : decode cX11_move 4 = .ok (.iload_n 1, 1) := by decide +kernel
theorem dX11_move_5 : decode cX11_move 5 = .ok (.iconst 1, 1) := by decide +kernel
theorem dX11_move_6 : decode cX11_move 6 = .ok (.invokevirtual 240, 3) := by decide +kernel
theorem dX11_move_9 : decode cX11_move 9 = .ok (.ifCond .ne 5, 3) := by decide +kernel
theorem dX11_move_12 : decode cX11_move 12 = .ok (.iconst (-1), 1) := by decide +kernel
theorem dX11_move_13 : decode cX11_move 13 = .ok (.ireturn, 1) := by decide +kernel
theorem dX11_move_14 : decode cX11_move 14 = .ok (.iload_n 2, 1) := by decide +kernel
theorem dX11_move_15 : decode cX11_move 15 = .ok (.iconst (-1), 1) := by decide +kernel
theorem dX11_move_16 : decode cX11_move 16 = .ok (.if_icmp .ne 23, 3) := by decide +kernel
theorem dX11_move_19 : decode cX11_move 19 = .ok (.aload_n 0, 1) := by decide +kernel
theorem dX11_move_20 : decode cX11_move 20 = .ok (.getfield 10, 3) := by decide +kernel
theorem dX11_move_23 : decode cX11_move 23 = .ok (.iload_n 1, 1) := by decide +kernel
theorem dX11_move_24 : decode cX11_move 24 = .ok (.iconst (-1), 1) := by decide +kernel
theorem dX11_move_25 : decode cX11_move 25 = .ok (.invokevirtual 243, 3) := by decide +kernel
theorem dX11_move_28 : decode cX11_move 28 = .ok (.istore_n 3, 1) := by decide +kernel
theorem dX11_move_29 : decode cX11_move 29 = .ok (.aload_n 0, 1) := by decide +kernel
theorem dX11_move_30 : decode cX11_move 30 = .ok (.getfield 10, 3) := by decide +kernel
theorem dX11_move_33 : decode cX11_move 33 = .ok (.iload_n 1, 1) := by decide +kernel
theorem dX11_move_34 : decode cX11_move 34 = .ok (.invokevirtual 246, 3) := by decide +kernel
theorem dX11_move_37 : decode cX11_move 37 = .ok (.iload_n 3, 1) := by decide +kernel
theorem dX11_move_38 : decode cX11_move 38 = .ok (.ireturn, 1) := by decide +kernel
theorem dX11_move_39 : decode cX11_move 39 = .ok (.aload_n 0, 1) := by decide +kernel
theorem dX11_move_40 : decode cX11_move 40 = .ok (.getfield 10, 3) := by decide +kernel
theorem dX11_move_43 : decode cX11_move 43 = .ok (.getfield 77, 3) := by decide +kernel
theorem dX11_move_46 : decode cX11_move 46 = .ok (.iload_n 2, 1) := by decide +kernel
theorem dX11_move_47 : decode cX11_move 47 = .ok (.invokevirtual 223, 3) := by decide +kernel
theorem dX11_move_50 : decode cX11_move 50 = .ok (.ifCond .eq 31, 3) := by decide +kernel
theorem dX11_move_53 : decode cX11_move 53 = .ok (.aload_n 0, 1) := by decide +kernel
theorem dX11_move_54 : decode cX11_move 54 = .ok (.getfield 10, 3) := by decide +kernel
theorem dX11_move_57 : decode cX11_move 57 = .ok (.getfield 100, 3) := by decide +kernel
theorem dX11_move_60 : decode cX11_move 60 = .ok (.getfield 249, 3) := by decide +kernel
theorem dX11_move_63 : decode cX11_move 63 = .ok (.iload_n 1, 1) := by decide +kernel
theorem dX11_move_64 : decode cX11_move 64 = .ok (.iaload, 1) := by decide +kernel
theorem dX11_move_65 : decode cX11_move 65 = .ok (.iload_n 2, 1) := by decide +kernel
theorem dX11_move_66 : decode cX11_move 66 = .ok (.if_icmp .eq 15, 3) := by decide +kernel
theorem dX11_move_69 : decode cX11_move 69 = .ok (.aload_n 0, 1) := by decide +kernel
theorem dX11_move_70 : decode cX11_move 70 = .ok (.getfield 10, 3) := by decide +kernel
theorem dX11_move_73 : decode cX11_move 73 = .ok (.iload_n 1, 1) := by decide +kernel
theorem dX11_move_74 : decode cX11_move 74 = .ok (.iload_n 2, 1) := by decide +kernel
theorem dX11_move_75 : decode cX11_move 75 = .ok (.invokevirtual 224, 3) := by decide +kernel
theorem dX11_move_78 : decode cX11_move 78 = .ok (.ifCond .eq 5, 3) := by decide +kernel
theorem dX11_move_81 : decode cX11_move 81 = .ok (.iconst (-1), 1) := by decide +kernel
theorem dX11_move_82 : decode cX11_move 82 = .ok (.ireturn, 1) := by decide +kernel
theorem dX11_move_83 : decode cX11_move 83 = .ok (.aload_n 0, 1) := by decide +kernel
theorem dX11_move_84 : decode cX11_move 84 = .ok (.getfield 10, 3) := by decide +kernel
theorem dX11_move_87 : decode cX11_move 87 = .ok (.iload_n 1, 1) := by decide +kernel
theorem dX11_move_88 : decode cX11_move 88 = .ok (.aload_n 0, 1) := by decide +kernel
theorem dX11_move_89 : decode cX11_move 89 = .ok (.getfield 10, 3) := by decide +kernel
theorem dX11_move_92 : decode cX11_move 92 = .ok (.getfield 77, 3) := by decide +kernel
theorem dX11_move_95 : decode cX11_move 95 = .ok (.getfield 252, 3) := by decide +kernel
theorem dX11_move_98 : decode cX11_move 98 = .ok (.iload_n 2, 1) := by decide +kernel
theorem dX11_move_99 : decode cX11_move 99 = .ok (.iaload, 1) := by decide +kernel
theorem dX11_move_100 : decode cX11_move 100 = .ok (.invokevirtual 243, 3) := by decide +kernel
theorem dX11_move_103 : decode cX11_move 103 = .ok (.istore_n 3, 1) := by decide +kernel
theorem dX11_move_104 : decode cX11_move 104 = .ok (.aload_n 0, 1) := by decide +kernel
theorem dX11_move_105 : decode cX11_move 105 = .ok (.getfield 10, 3) := by decide +kernel
theorem dX11_move_108 : decode cX11_move 108 = .ok (.iload_n 1, 1) := by decide +kernel
theorem dX11_move_109 : decode cX11_move 109 = .ok (.invokevirtual 246, 3) := by decide +kernel
theorem dX11_move_112 : decode cX11_move 112 = .ok (.aload_n 0, 1) := by decide +kernel
theorem dX11_move_113 : decode cX11_move 113 = .ok (.getfield 10, 3) := by decide +kernel
theorem dX11_move_116 : decode cX11_move 116 = .ok (.iload_n 1, 1) := by decide +kernel
theorem dX11_move_117 : decode cX11_move 117 = .ok (.iload_n 2, 1) := by decide +kernel
theorem dX11_move_118 : decode cX11_move 118 = .ok (.invokevirtual 255, 3) := by decide +kernel
theorem dX11_move_121 : decode cX11_move 121 = .ok (.iload_n 3, 1) := by decide +kernel
theorem dX11_move_122 : decode cX11_move 122 = .ok (.ireturn, 1) := by decide +kernel
theorem dX11_leave_0 : decode cX11_leave 0 = .ok (.aload_n 0, 1) := by decide +kernel
theorem dX11_leave_1 : decode cX11_leave 1 = .ok (.getfield 10, 3) := by decide +kernel
theorem dX11_leave_4 : decode cX11_leave 4 = .ok (.iload_n 1, 1) := by decide +kernel
theorem dX11_leave_5 : decode cX11_leave 5 = .ok (.invokevirtual 113, 3) := by decide +kernel
theorem dX11_leave_8 : decode cX11_leave 8 = .ok (.ifCond .ne 5, 3) := by decide +kernel
theorem dX11_leave_11 : decode cX11_leave 11 = .ok (.iconst 0, 1) := by decide +kernel
theorem dX11_leave_12 : decode cX11_leave 12 = .ok (.ireturn, 1) := by decide +kernel
theorem dX11_leave_13 : decode cX11_leave 13 = .ok (.aload_n 0, 1) := by decide +kernel
theorem dX11_leave_14 : decode cX11_leave 14 = .ok (.getfield 10, 3) := by decide +kernel
theorem dX11_leave_17 : decode cX11_leave 17 = .ok (.iload_n 1, 1) := by decide +kernel
theorem dX11_leave_18 : decode cX11_leave 18 = .ok (.invokevirtual 246, 3) := by decide +kernel
theorem dX11_leave_21 : decode cX11_leave 21 = .ok (.aload_n 0, 1) := by decide +kernel
theorem dX11_leave_22 : decode cX11_leave 22 = .ok (.getfield 10, 3) := by decide +kernel
theorem dX11_leave_25 : decode cX11_leave 25 = .ok (.getfield 100, 3) := by decide +kernel
theorem dX11_leave_28 : decode cX11_leave 28 = .ok (.getfield 259, 3) := by decide +kernel
theorem dX11_leave_31 : decode cX11_leave 31 = .ok (.iload_n 1, 1) := by decide +kernel
theorem dX11_leave_32 : decode cX11_leave 32 = .ok (.iconst 2, 1) := by decide +kernel
theorem dX11_leave_33 : decode cX11_leave 33 = .ok (.iastore, 1) := by decide +kernel
theorem dX11_leave_34 : decode cX11_leave 34 = .ok (.aload_n 0, 1) := by decide +kernel
theorem dX11_leave_35 : decode cX11_leave 35 = .ok (.getfield 10, 3) := by decide +kernel
theorem dX11_leave_38 : decode cX11_leave 38 = .ok (.dup, 1) := by decide +kernel
theorem dX11_leave_39 : decode cX11_leave 39 = .ok (.getfield 110, 3) := by decide +kernel
theorem dX11_leave_42 : decode cX11_leave 42 = .ok (.aload_n 0, 1) := by decide +kernel
theorem dX11_leave_43 : decode cX11_leave 43 = .ok (.getfield 10, 3) := by decide +kernel
theorem dX11_leave_46 : decode cX11_leave 46 = .ok (.getfield 100, 3) := by decide +kernel
theorem dX11_leave_49 : decode cX11_leave 49 = .ok (.getfield 262, 3) := by decide +kernel
theorem dX11_leave_52 : decode cX11_leave 52 = .ok (.iload_n 1, 1) := by decide +kernel
theorem dX11_leave_53 : decode cX11_leave 53 = .ok (.iaload, 1) := by decide +kernel
theorem dX11_leave_54 : decode cX11_leave 54 = .ok (.isub, 1) := by decide +kernel
theorem dX11_leave_55 : decode cX11_leave 55 = .ok (.putfield 110, 3) := by decide +kernel
theorem dX11_leave_58 : decode cX11_leave 58 = .ok (.iconst 1, 1) := by decide +kernel
theorem dX11_leave_59 : decode cX11_leave 59 = .ok (.ireturn, 1) := by decide +kernel
theorem dX11_go_0 : decode cX11_go 0 = .ok (.iload_n 1, 1) := by decide +kernel
theorem dX11_go_1 : decode cX11_go 1 = .ok (.ifCond .lt 9, 3) := by decide +kernel
theorem dX11_go_4 : decode cX11_go 4 = .ok (.iload_n 1, 1) := by decide +kernel
theorem dX11_go_5 : decode cX11_go 5 = .ok (.bipush 40, 2) := by decide +kernel
theorem dX11_go_7 : decode cX11_go 7 = .ok (.if_icmp .le 5, 3) := by decide +kernel
theorem dX11_go_10 : decode cX11_go 10 = .ok (.iconst (-1), 1) := by decide +kernel
theorem dX11_go_11 : decode cX11_go 11 = .ok (.ireturn, 1) := by decide +kernel
theorem dX11_go_12 : decode cX11_go 12 = .ok (.iconst 0, 1) := by decide +kernel
theorem dX11_go_13 : decode cX11_go 13 = .ok (.istore_n 2, 1) := by decide +kernel
theorem dX11_go_14 : decode cX11_go 14 = .ok (.iload_n 2, 1) := by decide +kernel
theorem dX11_go_15 : decode cX11_go 15 = .ok (.iload_n 1, 1) := by decide +kernel
theorem dX11_go_16 : decode cX11_go 16 = .ok (.if_icmp .ge 26, 3) := by decide +kernel
theorem dX11_go_19 : decode cX11_go 19 = .ok (.aload_n 0, 1) := by decide +kernel
theorem dX11_go_20 : decode cX11_go 20 = .ok (.getfield 10, 3) := by decide +kernel
theorem dX11_go_23 : decode cX11_go 23 = .ok (.getfield 104, 3) := by decide +kernel
theorem dX11_go_26 : decode cX11_go 26 = .ok (.sipush 200, 3) := by decide +kernel
theorem dX11_go_29 : decode cX11_go 29 = .ok (.if_icmp .ge 13, 3) := by decide +kernel
theorem dX11_go_32 : decode cX11_go 32 = .ok (.aload_n 0, 1) := by decide +kernel
theorem dX11_go_33 : decode cX11_go 33 = .ok (.invokevirtual 265, 3) := by decide +kernel
theorem dX11_go_36 : decode cX11_go 36 = .ok (.iinc 2 1, 3) := by decide +kernel
theorem dX11_go_39 : decode cX11_go 39 = .ok (.goto (-25), 3) := by decide +kernel
theorem dX11_go_42 : decode cX11_go 42 = .ok (.aload_n 0, 1) := by decide +kernel
theorem dX11_go_43 : decode cX11_go 43 = .ok (.getfield 10, 3) := by decide +kernel
theorem dX11_go_46 : decode cX11_go 46 = .ok (.getfield 104, 3) := by decide +kernel
theorem dX11_go_49 : decode cX11_go 49 = .ok (.ireturn, 1) := by decide +kernel
theorem dX11_night_0 : decode cX11_night 0 = .ok (.aload_n 0, 1) := by decide +kernel
theorem dX11_night_1 : decode cX11_night 1 = .ok (.getfield 10, 3) := by decide +kernel
theorem dX11_night_4 : decode cX11_night 4 = .ok (.getfield 100, 3) := by decide +kernel
theorem dX11_night_7 : decode cX11_night 7 = .ok (.iload_n 1, 1) := by decide +kernel
theorem dX11_night_8 : decode cX11_night 8 = .ok (.invokevirtual 127, 3) := by decide +kernel
theorem dX11_night_11 : decode cX11_night 11 = .ok (.ifCond .eq 27, 3) := by decide +kernel
theorem dX11_night_14 : decode cX11_night 14 = .ok (.iload_n 2, 1) := by decide +kernel
theorem dX11_night_15 : decode cX11_night 15 = .ok (.aload_n 0, 1) := by decide +kernel
theorem dX11_night_16 : decode cX11_night 16 = .ok (.getfield 10, 3) := by decide +kernel
theorem dX11_night_19 : decode cX11_night 19 = .ok (.getfield 100, 3) := by decide +kernel
theorem dX11_night_22 : decode cX11_night 22 = .ok (.getfield 268, 3) := by decide +kernel
theorem dX11_night_25 : decode cX11_night 25 = .ok (.iload_n 1, 1) := by decide +kernel
theorem dX11_night_26 : decode cX11_night 26 = .ok (.iaload, 1) := by decide +kernel
theorem dX11_night_27 : decode cX11_night 27 = .ok (.if_icmp .lt 11, 3) := by decide +kernel
theorem dX11_night_30 : decode cX11_night 30 = .ok (.aload_n 0, 1) := by decide +kernel
theorem dX11_night_31 : decode cX11_night 31 = .ok (.iload_n 2, 1) := by decide +kernel
theorem dX11_night_32 : decode cX11_night 32 = .ok (.invokevirtual 271, 3) := by decide +kernel
theorem dX11_night_35 : decode cX11_night 35 = .ok (.ifCond .ne 5, 3) := by decide +kernel
theorem dX11_night_38 : decode cX11_night 38 = .ok (.iconst (-1), 1) := by decide +kernel
theorem dX11_night_39 : decode cX11_night 39 = .ok (.ireturn, 1) := by decide +kernel
theorem dX11_night_40 : decode cX11_night 40 = .ok (.aload_n 0, 1) := by decide +kernel
theorem dX11_night_41 : decode cX11_night 41 = .ok (.getfield 42, 3) := by decide +kernel
theorem dX11_night_44 : decode cX11_night 44 = .ok (.getfield 274, 3) := by decide +kernel
theorem dX11_night_47 : decode cX11_night 47 = .ok (.iload_n 1, 1) := by decide +kernel
theorem dX11_night_48 : decode cX11_night 48 = .ok (.aaload, 1) := by decide +kernel
theorem dX11_night_49 : decode cX11_night 49 = .ok (.iload_n 2, 1) := by decide +kernel
theorem dX11_night_50 : decode cX11_night 50 = .ok (.iaload, 1) := by decide +kernel
theorem dX11_night_51 : decode cX11_night 51 = .ok (.ireturn, 1) := by decide +kernel
theorem dX11_lead_0 : decode cX11_lead 0 = .ok (.aload_n 0, 1) := by decide +kernel
theorem dX11_lead_1 : decode cX11_lead 1 = .ok (.getfield 10, 3) := by decide +kernel
theorem dX11_lead_4 : decode cX11_lead 4 = .ok (.getfield 77, 3) := by decide +kernel
theorem dX11_lead_7 : decode cX11_lead 7 = .ok (.iload_n 1, 1) := by decide +kernel
theorem dX11_lead_8 : decode cX11_lead 8 = .ok (.invokevirtual 223, 3) := by decide +kernel
theorem dX11_lead_11 : decode cX11_lead 11 = .ok (.ifCond .eq 11, 3) := by decide +kernel
theorem dX11_lead_14 : decode cX11_lead 14 = .ok (.aload_n 0, 1) := by decide +kernel
theorem dX11_lead_15 : decode cX11_lead 15 = .ok (.iload_n 2, 1) := by decide +kernel
theorem dX11_lead_16 : decode cX11_lead 16 = .ok (.invokevirtual 271, 3) := by decide +kernel
theorem dX11_lead_19 : decode cX11_lead 19 = .ok (.ifCond .ne 5, 3) := by decide +kernel
theorem dX11_lead_22 : decode cX11_lead 22 = .ok (.iconst (-1), 1) := by decide +kernel
theorem dX11_lead_23 : decode cX11_lead 23 = .ok (.ireturn, 1) := by decide +kernel
theorem dX11_lead_24 : decode cX11_lead 24 = .ok (.aload_n 0, 1) := by decide +kernel
theorem dX11_lead_25 : decode cX11_lead 25 = .ok (.getfield 42, 3) := by decide +kernel
theorem dX11_lead_28 : decode cX11_lead 28 = .ok (.iload_n 1, 1) := by decide +kernel
theorem dX11_lead_29 : decode cX11_lead 29 = .ok (.iload_n 2, 1) := by decide +kernel
theorem dX11_lead_30 : decode cX11_lead 30 = .ok (.aload_n 0, 1) := by decide +kernel
theorem dX11_lead_31 : decode cX11_lead 31 = .ok (.getfield 10, 3) := by decide +kernel
theorem dX11_lead_34 : decode cX11_lead 34 = .ok (.getfield 100, 3) := by decide +kernel
theorem dX11_lead_37 : decode cX11_lead 37 = .ok (.invokevirtual 277, 3) := by decide +kernel
theorem dX11_lead_40 : decode cX11_lead 40 = .ok (.ireturn, 1) := by decide +kernel
theorem dX11_beyond_0 : decode cX11_beyond 0 = .ok (.iconst 0, 1) := by decide +kernel
theorem dX11_beyond_1 : decode cX11_beyond 1 = .ok (.istore_n 1, 1) := by decide +kernel
theorem dX11_beyond_2 : decode cX11_beyond 2 = .ok (.iconst 0, 1) := by decide +kernel
theorem dX11_beyond_3 : decode cX11_beyond 3 = .ok (.istore_n 2, 1) := by decide +kernel
theorem dX11_beyond_4 : decode cX11_beyond 4 = .ok (.iload_n 2, 1) := by decide +kernel
theorem dX11_beyond_5 : decode cX11_beyond 5 = .ok (.aload_n 0, 1) := by decide +kernel
theorem dX11_beyond_6 : decode cX11_beyond 6 = .ok (.getfield 10, 3) := by decide +kernel
theorem dX11_beyond_9 : decode cX11_beyond 9 = .ok (.getfield 100, 3) := by decide +kernel
theorem dX11_beyond_12 : decode cX11_beyond 12 = .ok (.getfield 281, 3) := by decide +kernel
theorem dX11_beyond_15 : decode cX11_beyond 15 = .ok (.if_icmp .ge 50, 3) := by decide +kernel
theorem dX11_beyond_18 : decode cX11_beyond 18 = .ok (.aload_n 0, 1) := by decide +kernel
theorem dX11_beyond_19 : decode cX11_beyond 19 = .ok (.getfield 10, 3) := by decide +kernel
theorem dX11_beyond_22 : decode cX11_beyond 22 = .ok (.getfield 100, 3) := by decide +kernel
theorem dX11_beyond_25 : decode cX11_beyond 25 = .ok (.getfield 259, 3) := by decide +kernel
theorem dX11_beyond_28 : decode cX11_beyond 28 = .ok (.iload_n 2, 1) := by decide +kernel
theorem dX11_beyond_29 : decode cX11_beyond 29 = .ok (.iaload, 1) := by decide +kernel
theorem dX11_beyond_30 : decode cX11_beyond 30 = .ok (.ifCond .ne 29, 3) := by decide +kernel
theorem dX11_beyond_33 : decode cX11_beyond 33 = .ok (.aload_n 0, 1) := by decide +kernel
theorem dX11_beyond_34 : decode cX11_beyond 34 = .ok (.getfield 10, 3) := by decide +kernel
theorem dX11_beyond_37 : decode cX11_beyond 37 = .ok (.getfield 100, 3) := by decide +kernel
theorem dX11_beyond_40 : decode cX11_beyond 40 = .ok (.getfield 284, 3) := by decide +kernel
theorem dX11_beyond_43 : decode cX11_beyond 43 = .ok (.iload_n 2, 1) := by decide +kernel
theorem dX11_beyond_44 : decode cX11_beyond 44 = .ok (.iaload, 1) := by decide +kernel
theorem dX11_beyond_45 : decode cX11_beyond 45 = .ok (.aload_n 0, 1) := by decide +kernel
theorem dX11_beyond_46 : decode cX11_beyond 46 = .ok (.getfield 10, 3) := by decide +kernel
theorem dX11_beyond_49 : decode cX11_beyond 49 = .ok (.iload_n 2, 1) := by decide +kernel
theorem dX11_beyond_50 : decode cX11_beyond 50 = .ok (.invokevirtual 217, 3) := by decide +kernel
theorem dX11_beyond_53 : decode cX11_beyond 53 = .ok (.if_icmp .le 6, 3) := by decide +kernel
theorem dX11_beyond_56 : decode cX11_beyond 56 = .ok (.iinc 1 1, 3) := by decide +kernel
theorem dX11_beyond_59 : decode cX11_beyond 59 = .ok (.iinc 2 1, 3) := by decide +kernel
theorem dX11_beyond_62 : decode cX11_beyond 62 = .ok (.goto (-58), 3) := by decide +kernel
theorem dX11_beyond_65 : decode cX11_beyond 65 = .ok (.iload_n 1, 1) := by decide +kernel
theorem dX11_beyond_66 : decode cX11_beyond 66 = .ok (.ireturn, 1) := by decide +kernel
theorem dX11_ends_0 : decode cX11_ends 0 = .ok (.aload_n 0, 1) := by decide +kernel
theorem dX11_ends_1 : decode cX11_ends 1 = .ok (.getfield 10, 3) := by decide +kernel
theorem dX11_ends_4 : decode cX11_ends 4 = .ok (.iload_n 1, 1) := by decide +kernel
theorem dX11_ends_5 : decode cX11_ends 5 = .ok (.iconst 0, 1) := by decide +kernel
theorem dX11_ends_6 : decode cX11_ends 6 = .ok (.invokevirtual 240, 3) := by decide +kernel
theorem dX11_ends_9 : decode cX11_ends 9 = .ok (.ifCond .ne 5, 3) := by decide +kernel
theorem dX11_ends_12 : decode cX11_ends 12 = .ok (.iconst (-1), 1) := by decide +kernel
theorem dX11_ends_13 : decode cX11_ends 13 = .ok (.ireturn, 1) := by decide +kernel
theorem dX11_ends_14 : decode cX11_ends 14 = .ok (.iconst (-1), 1) := by decide +kernel
theorem dX11_ends_15 : decode cX11_ends 15 = .ok (.istore_n 2, 1) := by decide +kernel
theorem dX11_ends_16 : decode cX11_ends 16 = .ok (.iconst 0, 1) := by decide +kernel
theorem dX11_ends_17 : decode cX11_ends 17 = .ok (.istore_n 3, 1) := by decide +kernel
theorem dX11_ends_18 : decode cX11_ends 18 = .ok (.iconst 0, 1) := by decide +kernel
theorem dX11_ends_19 : decode cX11_ends 19 = .ok (.istore 4, 2) := by decide +kernel
theorem dX11_ends_21 : decode cX11_ends 21 = .ok (.iload 4, 2) := by decide +kernel
theorem dX11_ends_23 : decode cX11_ends 23 = .ok (.aload_n 0, 1) := by decide +kernel
theorem dX11_ends_24 : decode cX11_ends 24 = .ok (.getfield 10, 3) := by decide +kernel
theorem dX11_ends_27 : decode cX11_ends 27 = .ok (.getfield 77, 3) := by decide +kernel
theorem dX11_ends_30 : decode cX11_ends 30 = .ok (.getfield 287, 3) := by decide +kernel
theorem dX11_ends_33 : decode cX11_ends 33 = .ok (.if_icmp .ge 38, 3) := by decide +kernel
theorem dX11_ends_36 : decode cX11_ends 36 = .ok (.aload_n 0, 1) := by decide +kernel
theorem dX11_ends_37 : decode cX11_ends 37 = .ok (.getfield 10, 3) := by decide +kernel
theorem dX11_ends_40 : decode cX11_ends 40 = .ok (.iload_n 1, 1) := by decide +kernel
theorem dX11_ends_41 : decode cX11_ends 41 = .ok (.iload 4, 2) := by decide +kernel
theorem dX11_ends_43 : decode cX11_ends 43 = .ok (.invokevirtual 224, 3) := by decide +kernel
theorem dX11_ends_46 : decode cX11_ends 46 = .ok (.istore 5, 2) := by decide +kernel
theorem dX11_ends_48 : decode cX11_ends 48 = .ok (.iload_n 2, 1) := by decide +kernel
theorem dX11_ends_49 : decode cX11_ends 49 = .ok (.iconst (-1), 1) := by decide +kernel
theorem dX11_ends_50 : decode cX11_ends 50 = .ok (.if_icmp .eq 9, 3) := by decide +kernel
theorem dX11_ends_53 : decode cX11_ends 53 = .ok (.iload 5, 2) := by decide +kernel
theorem dX11_ends_55 : decode cX11_ends 55 = .ok (.iload_n 3, 1) := by decide +kernel
theorem dX11_ends_56 : decode cX11_ends 56 = .ok (.if_icmp .ge 9, 3) := by decide +kernel
theorem dX11_ends_59 : decode cX11_ends 59 = .ok (.iload 4, 2) := by decide +kernel
theorem dX11_ends_61 : decode cX11_ends 61 = .ok (.istore_n 2, 1) := by decide +kernel
theorem dX11_ends_62 : decode cX11_ends 62 = .ok (.iload 5, 2) := by decide +kernel
theorem dX11_ends_64 : decode cX11_ends 64 = .ok (.istore_n 3, 1) := by decide +kernel
theorem dX11_ends_65 : decode cX11_ends 65 = .ok (.iinc 4 1, 3) := by decide +kernel
theorem dX11_ends_68 : decode cX11_ends 68 = .ok (.goto (-47), 3) := by decide +kernel
theorem dX11_ends_71 : decode cX11_ends 71 = .ok (.iload_n 2, 1) := by decide +kernel
theorem dX11_ends_72 : decode cX11_ends 72 = .ok (.ireturn, 1) := by decide +kernel
theorem dX11_show_0 : decode cX11_show 0 = .ok (.aload_n 0, 1) := by decide +kernel
theorem dX11_show_1 : decode cX11_show 1 = .ok (.getfield 10, 3) := by decide +kernel
theorem dX11_show_4 : decode cX11_show 4 = .ok (.getfield 100, 3) := by decide +kernel
theorem dX11_show_7 : decode cX11_show 7 = .ok (.iload_n 2, 1) := by decide +kernel
theorem dX11_show_8 : decode cX11_show 8 = .ok (.invokevirtual 127, 3) := by decide +kernel
theorem dX11_show_11 : decode cX11_show 11 = .ok (.ifCond .eq 26, 3) := by decide +kernel
theorem dX11_show_14 : decode cX11_show 14 = .ok (.aload_n 0, 1) := by decide +kernel
theorem dX11_show_15 : decode cX11_show 15 = .ok (.getfield 10, 3) := by decide +kernel
theorem dX11_show_18 : decode cX11_show 18 = .ok (.iload_n 1, 1) := by decide +kernel
theorem dX11_show_19 : decode cX11_show 19 = .ok (.invokevirtual 288, 3) := by decide +kernel
theorem dX11_show_22 : decode cX11_show 22 = .ok (.ifCond .eq 15, 3) := by decide +kernel
theorem dX11_show_25 : decode cX11_show 25 = .ok (.aload_n 0, 1) := by decide +kernel
theorem dX11_show_26 : decode cX11_show 26 = .ok (.getfield 10, 3) := by decide +kernel
theorem dX11_show_29 : decode cX11_show 29 = .ok (.iload_n 1, 1) := by decide +kernel
theorem dX11_show_30 : decode cX11_show 30 = .ok (.iload_n 2, 1) := by decide +kernel
theorem dX11_show_31 : decode cX11_show 31 = .ok (.invokevirtual 291, 3) := by decide +kernel
theorem dX11_show_34 : decode cX11_show 34 = .ok (.ifCond .ne 5, 3) := by decide +kernel
theorem dX11_show_37 : decode cX11_show 37 = .ok (.iconst (-1), 1) := by decide +kernel
theorem dX11_show_38 : decode cX11_show 38 = .ok (.ireturn, 1) := by decide +kernel
theorem dX11_show_39 : decode cX11_show 39 = .ok (.iload_n 3, 1) := by decide +kernel
theorem dX11_show_40 : decode cX11_show 40 = .ok (.tableswitch 84 0 3 #[32, 45, 58, 71], 32) := by decide +kernel
theorem dX11_show_72 : decode cX11_show 72 = .ok (.aload_n 0, 1) := by decide +kernel
theorem dX11_show_73 : decode cX11_show 73 = .ok (.getfield 10, 3) := by decide +kernel
theorem dX11_show_76 : decode cX11_show 76 = .ok (.getfield 100, 3) := by decide +kernel
theorem dX11_show_79 : decode cX11_show 79 = .ok (.getfield 259, 3) := by decide +kernel
theorem dX11_show_82 : decode cX11_show 82 = .ok (.iload_n 2, 1) := by decide +kernel
theorem dX11_show_83 : decode cX11_show 83 = .ok (.iaload, 1) := by decide +kernel
theorem dX11_show_84 : decode cX11_show 84 = .ok (.ireturn, 1) := by decide +kernel
theorem dX11_show_85 : decode cX11_show 85 = .ok (.aload_n 0, 1) := by decide +kernel
theorem dX11_show_86 : decode cX11_show 86 = .ok (.getfield 10, 3) := by decide +kernel
theorem dX11_show_89 : decode cX11_show 89 = .ok (.getfield 100, 3) := by decide +kernel
theorem dX11_show_92 : decode cX11_show 92 = .ok (.getfield 294, 3) := by decide +kernel
theorem dX11_show_95 : decode cX11_show 95 = .ok (.iload_n 2, 1) := by decide +kernel
theorem dX11_show_96 : decode cX11_show 96 = .ok (.iaload, 1) := by decide +kernel
theorem dX11_show_97 : decode cX11_show 97 = .ok (.ireturn, 1) := by decide +kernel
theorem dX11_show_98 : decode cX11_show 98 = .ok (.aload_n 0, 1) := by decide +kernel
theorem dX11_show_99 : decode cX11_show 99 = .ok (.getfield 10, 3) := by decide +kernel
theorem dX11_show_102 : decode cX11_show 102 = .ok (.getfield 100, 3) := by decide +kernel
theorem dX11_show_105 : decode cX11_show 105 = .ok (.getfield 262, 3) := by decide +kernel
theorem dX11_show_108 : decode cX11_show 108 = .ok (.iload_n 2, 1) := by decide +kernel
theorem dX11_show_109 : decode cX11_show 109 = .ok (.iaload, 1) := by decide +kernel
theorem dX11_show_110 : decode cX11_show 110 = .ok (.ireturn, 1) := by decide +kernel
theorem dX11_show_111 : decode cX11_show 111 = .ok (.aload_n 0, 1) := by decide +kernel
theorem dX11_show_112 : decode cX11_show 112 = .ok (.getfield 10, 3) := by decide +kernel
theorem dX11_show_115 : decode cX11_show 115 = .ok (.getfield 100, 3) := by decide +kernel
theorem dX11_show_118 : decode cX11_show 118 = .ok (.getfield 284, 3) := by decide +kernel
theorem dX11_show_121 : decode cX11_show 121 = .ok (.iload_n 2, 1) := by decide +kernel
theorem dX11_show_122 : decode cX11_show 122 = .ok (.iaload, 1) := by decide +kernel
theorem dX11_show_123 : decode cX11_show 123 = .ok (.ireturn, 1) := by decide +kernel
theorem dX11_show_124 : decode cX11_show 124 = .ok (.iconst (-1), 1) := by decide +kernel
theorem dX11_show_125 : decode cX11_show 125 = .ok (.ireturn, 1) := by decide +kernel
theorem dX11_best_0 : decode cX11_best 0 = .ok (.aload_n 0, 1) := by decide +kernel
theorem dX11_best_1 : decode cX11_best 1 = .ok (.getfield 35, 3) := by decide +kernel
theorem dX11_best_4 : decode cX11_best 4 = .ok (.iload_n 1, 1) := by decide +kernel
theorem dX11_best_5 : decode cX11_best 5 = .ok (.iload_n 2, 1) := by decide +kernel
theorem dX11_best_6 : decode cX11_best 6 = .ok (.invokevirtual 295, 3) := by decide +kernel
theorem dX11_best_9 : decode cX11_best 9 = .ok (.ifCond .eq 19, 3) := by decide +kernel
theorem dX11_best_12 : decode cX11_best 12 = .ok (.iload_n 3, 1) := by decide +kernel
theorem dX11_best_13 : decode cX11_best 13 = .ok (.iconst (-1), 1) := by decide +kernel
theorem dX11_best_14 : decode cX11_best 14 = .ok (.if_icmp .lt 14, 3) := by decide +kernel
theorem dX11_best_17 : decode cX11_best 17 = .ok (.iload_n 3, 1) := by decide +kernel
theorem dX11_best_18 : decode cX11_best 18 = .ok (.aload_n 0, 1) := by decide +kernel
theorem dX11_best_19 : decode cX11_best 19 = .ok (.getfield 35, 3) := by decide +kernel
theorem dX11_best_22 : decode cX11_best 22 = .ok (.getfield 298, 3) := by decide +kernel
theorem dX11_best_25 : decode cX11_best 25 = .ok (.if_icmp .lt 5, 3) := by decide +kernel
theorem dX11_best_28 : decode cX11_best 28 = .ok (.iconst (-1), 1) := by decide +kernel
theorem dX11_best_29 : decode cX11_best 29 = .ok (.ireturn, 1) := by decide +kernel
theorem dX11_best_30 : decode cX11_best 30 = .ok (.aload_n 0, 1) := by decide +kernel
theorem dX11_best_31 : decode cX11_best 31 = .ok (.getfield 35, 3) := by decide +kernel
theorem dX11_best_34 : decode cX11_best 34 = .ok (.invokevirtual 300, 3) := by decide +kernel
theorem dX11_best_37 : decode cX11_best 37 = .ok (.iload_n 3, 1) := by decide +kernel
theorem dX11_best_38 : decode cX11_best 38 = .ok (.iconst (-1), 1) := by decide +kernel
theorem dX11_best_39 : decode cX11_best 39 = .ok (.if_icmp .ne 13, 3) := by decide +kernel
theorem dX11_best_42 : decode cX11_best 42 = .ok (.aload_n 0, 1) := by decide +kernel
theorem dX11_best_43 : decode cX11_best 43 = .ok (.getfield 35, 3) := by decide +kernel
theorem dX11_best_46 : decode cX11_best 46 = .ok (.getfield 303, 3) := by decide +kernel
theorem dX11_best_49 : decode cX11_best 49 = .ok (.goto 12, 3) := by decide +kernel
theorem dX11_best_52 : decode cX11_best 52 = .ok (.aload_n 0, 1) := by decide +kernel
theorem dX11_best_53 : decode cX11_best 53 = .ok (.getfield 35, 3) := by decide +kernel
theorem dX11_best_56 : decode cX11_best 56 = .ok (.getfield 306, 3) := by decide +kernel
theorem dX11_best_59 : decode cX11_best 59 = .ok (.iload_n 3, 1) := by decide +kernel
theorem dX11_best_60 : decode cX11_best 60 = .ok (.iaload, 1) := by decide +kernel
theorem dX11_best_61 : decode cX11_best 61 = .ok (.ireturn, 1) := by decide +kernel
theorem dX11_boat_0 : decode cX11_boat 0 = .ok (.aload_n 0, 1) := by decide +kernel
theorem dX11_boat_1 : decode cX11_boat 1 = .ok (.iload_n 1, 1) := by decide +kernel
theorem dX11_boat_2 : decode cX11_boat 2 = .ok (.invokevirtual 309, 3) := by decide +kernel
theorem dX11_boat_5 : decode cX11_boat 5 = .ok (.ifCond .eq 19, 3) := by decide +kernel
theorem dX11_boat_8 : decode cX11_boat 8 = .ok (.iload_n 2, 1) := by decide +kernel
theorem dX11_boat_9 : decode cX11_boat 9 = .ok (.ifCond .lt 15, 3) := by decide +kernel
theorem dX11_boat_12 : decode cX11_boat 12 = .ok (.iload_n 2, 1) := by decide +kernel
theorem dX11_boat_13 : decode cX11_boat 13 = .ok (.iload_n 3, 1) := by decide +kernel
theorem dX11_boat_14 : decode cX11_boat 14 = .ok (.if_icmp .gt 10, 3) := by decide +kernel
theorem dX11_boat_17 : decode cX11_boat 17 = .ok (.iload_n 3, 1) := by decide +kernel
theorem dX11_boat_18 : decode cX11_boat 18 = .ok (.sipush 200, 3) := by decide +kernel
theorem dX11_boat_21 : decode cX11_boat 21 = .ok (.if_icmp .le 5, 3) := by decide +kernel
theorem dX11_boat_24 : decode cX11_boat 24 = .ok (.iconst (-1), 1) := by decide +kernel
theorem dX11_boat_25 : decode cX11_boat 25 = .ok (.ireturn, 1) := by decide +kernel
theorem dX11_boat_26 : decode cX11_boat 26 = .ok (.aload_n 0, 1) := by decide +kernel
theorem dX11_boat_27 : decode cX11_boat 27 = .ok (.getfield 49, 3) := by decide +kernel
theorem dX11_boat_30 : decode cX11_boat 30 = .ok (.iload_n 1, 1) := by decide +kernel
theorem dX11_boat_31 : decode cX11_boat 31 = .ok (.iload_n 2, 1) := by decide +kernel
theorem dX11_boat_32 : decode cX11_boat 32 = .ok (.iload_n 3, 1) := by decide +kernel
theorem dX11_boat_33 : decode cX11_boat 33 = .ok (.invokevirtual 312, 3) := by decide +kernel
theorem dX11_boat_36 : decode cX11_boat 36 = .ok (.ireturn, 1) := by decide +kernel
theorem dX11_foretell_0 : decode cX11_foretell 0 = .ok (.aload_n 0, 1) := by decide +kernel
theorem dX11_foretell_1 : decode cX11_foretell 1 = .ok (.iload_n 1, 1) := by decide +kernel
theorem dX11_foretell_2 : decode cX11_foretell 2 = .ok (.invokevirtual 309, 3) := by decide +kernel
theorem dX11_foretell_5 : decode cX11_foretell 5 = .ok (.ifCond .eq 15, 3) := by decide +kernel
theorem dX11_foretell_8 : decode cX11_foretell 8 = .ok (.iload_n 2, 1) := by decide +kernel
theorem dX11_foretell_9 : decode cX11_foretell 9 = .ok (.bipush (-100), 2) := by decide +kernel
theorem dX11_foretell_11 : decode cX11_foretell 11 = .ok (.if_icmp .lt 9, 3) := by decide +kernel
theorem dX11_foretell_14 : decode cX11_foretell 14 = .ok (.iload_n 2, 1) := by decide +kernel
theorem dX11_foretell_15 : decode cX11_foretell 15 = .ok (.bipush 100, 2) := by decide +kernel
theorem dX11_foretell_17 : decode cX11_foretell 17 = .ok (.if_icmp .le 5, 3) := by decide +kernel
theorem dX11_foretell_20 : decode cX11_foretell 20 = .ok (.iconst (-1), 1) := by decide +kernel
theorem dX11_foretell_21 : decode cX11_foretell 21 = .ok (.ireturn, 1) := by decide +kernel
theorem dX11_foretell_22 : decode cX11_foretell 22 = .ok (.aload_n 0, 1) := by decide +kernel
theorem dX11_foretell_23 : decode cX11_foretell 23 = .ok (.getfield 49, 3) := by decide +kernel
theorem dX11_foretell_26 : decode cX11_foretell 26 = .ok (.iload_n 1, 1) := by decide +kernel
theorem dX11_foretell_27 : decode cX11_foretell 27 = .ok (.iload_n 2, 1) := by decide +kernel
theorem dX11_foretell_28 : decode cX11_foretell 28 = .ok (.invokevirtual 315, 3) := by decide +kernel
theorem dX11_foretell_31 : decode cX11_foretell 31 = .ok (.ireturn, 1) := by decide +kernel
theorem dX11_worst_0 : decode cX11_worst 0 = .ok (.aload_n 0, 1) := by decide +kernel
theorem dX11_worst_1 : decode cX11_worst 1 = .ok (.iload_n 1, 1) := by decide +kernel
theorem dX11_worst_2 : decode cX11_worst 2 = .ok (.invokevirtual 309, 3) := by decide +kernel
theorem dX11_worst_5 : decode cX11_worst 5 = .ok (.ifCond .ne 5, 3) := by decide +kernel
theorem dX11_worst_8 : decode cX11_worst 8 = .ok (.iconst (-1), 1) := by decide +kernel
theorem dX11_worst_9 : decode cX11_worst 9 = .ok (.ireturn, 1) := by decide +kernel
theorem dX11_worst_10 : decode cX11_worst 10 = .ok (.aload_n 0, 1) := by decide +kernel
theorem dX11_worst_11 : decode cX11_worst 11 = .ok (.getfield 10, 3) := by decide +kernel
theorem dX11_worst_14 : decode cX11_worst 14 = .ok (.iconst 0, 1) := by decide +kernel
theorem dX11_worst_15 : decode cX11_worst 15 = .ok (.invokevirtual 318, 3) := by decide +kernel
theorem dX11_worst_18 : decode cX11_worst 18 = .ok (.istore_n 3, 1) := by decide +kernel
theorem dX11_worst_19 : decode cX11_worst 19 = .ok (.iload_n 2, 1) := by decide +kernel
theorem dX11_worst_20 : decode cX11_worst 20 = .ok (.tableswitch 114 0 2 #[28, 59, 83], 28) := by decide +kernel
theorem dX11_worst_48 : decode cX11_worst 48 = .ok (.aload_n 0, 1) := by decide +kernel
theorem dX11_worst_49 : decode cX11_worst 49 = .ok (.getfield 49, 3) := by decide +kernel
theorem dX11_worst_52 : decode cX11_worst 52 = .ok (.aload_n 0, 1) := by decide +kernel
theorem dX11_worst_53 : decode cX11_worst 53 = .ok (.getfield 49, 3) := by decide +kernel
theorem dX11_worst_56 : decode cX11_worst 56 = .ok (.getfield 321, 3) := by decide +kernel
theorem dX11_worst_59 : decode cX11_worst 59 = .ok (.iload_n 3, 1) := by decide +kernel
theorem dX11_worst_60 : decode cX11_worst 60 = .ok (.aload_n 0, 1) := by decide +kernel
theorem dX11_worst_61 : decode cX11_worst 61 = .ok (.getfield 10, 3) := by decide +kernel
theorem dX11_worst_64 : decode cX11_worst 64 = .ok (.getfield 90, 3) := by decide +kernel
theorem dX11_worst_67 : decode cX11_worst 67 = .ok (.aload_n 0, 1) := by decide +kernel
theorem dX11_worst_68 : decode cX11_worst 68 = .ok (.getfield 10, 3) := by decide +kernel
theorem dX11_worst_71 : decode cX11_worst 71 = .ok (.getfield 104, 3) := by decide +kernel
theorem dX11_worst_74 : decode cX11_worst 74 = .ok (.iload_n 1, 1) := by decide +kernel
theorem dX11_worst_75 : decode cX11_worst 75 = .ok (.invokevirtual 324, 3) := by decide +kernel
theorem dX11_worst_78 : decode cX11_worst 78 = .ok (.ireturn, 1) := by decide +kernel
theorem dX11_worst_79 : decode cX11_worst 79 = .ok (.aload_n 0, 1) := by decide +kernel
theorem dX11_worst_80 : decode cX11_worst 80 = .ok (.getfield 49, 3) := by decide +kernel
theorem dX11_worst_83 : decode cX11_worst 83 = .ok (.iload_n 3, 1) := by decide +kernel
theorem dX11_worst_84 : decode cX11_worst 84 = .ok (.aload_n 0, 1) := by decide +kernel
theorem dX11_worst_85 : decode cX11_worst 85 = .ok (.getfield 10, 3) := by decide +kernel
theorem dX11_worst_88 : decode cX11_worst 88 = .ok (.getfield 90, 3) := by decide +kernel
theorem dX11_worst_91 : decode cX11_worst 91 = .ok (.aload_n 0, 1) := by decide +kernel
theorem dX11_worst_92 : decode cX11_worst 92 = .ok (.getfield 10, 3) := by decide +kernel
theorem dX11_worst_95 : decode cX11_worst 95 = .ok (.getfield 104, 3) := by decide +kernel
theorem dX11_worst_98 : decode cX11_worst 98 = .ok (.iload_n 1, 1) := by decide +kernel
theorem dX11_worst_99 : decode cX11_worst 99 = .ok (.invokevirtual 328, 3) := by decide +kernel
theorem dX11_worst_102 : decode cX11_worst 102 = .ok (.ireturn, 1) := by decide +kernel
theorem dX11_worst_103 : decode cX11_worst 103 = .ok (.aload_n 0, 1) := by decide +kernel
theorem dX11_worst_104 : decode cX11_worst 104 = .ok (.getfield 49, 3) := by decide +kernel
theorem dX11_worst_107 : decode cX11_worst 107 = .ok (.aload_n 0, 1) := by decide +kernel
theorem dX11_worst_108 : decode cX11_worst 108 = .ok (.getfield 49, 3) := by decide +kernel
theorem dX11_worst_111 : decode cX11_worst 111 = .ok (.getfield 331, 3) := by decide +kernel
theorem dX11_worst_114 : decode cX11_worst 114 = .ok (.iload_n 3, 1) := by decide +kernel
theorem dX11_worst_115 : decode cX11_worst 115 = .ok (.aload_n 0, 1) := by decide +kernel
theorem dX11_worst_116 : decode cX11_worst 116 = .ok (.getfield 10, 3) := by decide +kernel
theorem dX11_worst_119 : decode cX11_worst 119 = .ok (.getfield 90, 3) := by decide +kernel
theorem dX11_worst_122 : decode cX11_worst 122 = .ok (.aload_n 0, 1) := by decide +kernel
theorem dX11_worst_123 : decode cX11_worst 123 = .ok (.getfield 10, 3) := by decide +kernel
theorem dX11_worst_126 : decode cX11_worst 126 = .ok (.getfield 104, 3) := by decide +kernel
theorem dX11_worst_129 : decode cX11_worst 129 = .ok (.iload_n 1, 1) := by decide +kernel
theorem dX11_worst_130 : decode cX11_worst 130 = .ok (.invokevirtual 324, 3) := by decide +kernel
theorem dX11_worst_133 : decode cX11_worst 133 = .ok (.ireturn, 1) := by decide +kernel
theorem dX11_worst_134 : decode cX11_worst 134 = .ok (.iconst (-1), 1) := by decide +kernel
theorem dX11_worst_135 : decode cX11_worst 135 = .ok (.ireturn, 1) := by decide +kernel
theorem dX11_beside_0 : decode cX11_beside 0 = .ok (.aload_n 0, 1) := by decide +kernel
theorem dX11_beside_1 : decode cX11_beside 1 = .ok (.getfield 10, 3) := by decide +kernel
theorem dX11_beside_4 : decode cX11_beside 4 = .ok (.getfield 197, 3) := by decide +kernel
theorem dX11_beside_7 : decode cX11_beside 7 = .ok (.iload_n 1, 1) := by decide +kernel
theorem dX11_beside_8 : decode cX11_beside 8 = .ok (.invokevirtual 207, 3) := by decide +kernel
theorem dX11_beside_11 : decode cX11_beside 11 = .ok (.ifCond .ne 5, 3) := by decide +kernel
theorem dX11_beside_14 : decode cX11_beside 14 = .ok (.iconst (-1), 1) := by decide +kernel
theorem dX11_beside_15 : decode cX11_beside 15 = .ok (.ireturn, 1) := by decide +kernel
theorem dX11_beside_16 : decode cX11_beside 16 = .ok (.aload_n 0, 1) := by decide +kernel
theorem dX11_beside_17 : decode cX11_beside 17 = .ok (.getfield 10, 3) := by decide +kernel
theorem dX11_beside_20 : decode cX11_beside 20 = .ok (.getfield 197, 3) := by decide +kernel
theorem dX11_beside_23 : decode cX11_beside 23 = .ok (.iload_n 1, 1) := by decide +kernel
theorem dX11_beside_24 : decode cX11_beside 24 = .ok (.putfield 334, 3) := by decide +kernel
theorem dX11_beside_27 : decode cX11_beside 27 = .ok (.aload_n 0, 1) := by decide +kernel
theorem dX11_beside_28 : decode cX11_beside 28 = .ok (.getfield 28, 3) := by decide +kernel
theorem dX11_beside_31 : decode cX11_beside 31 = .ok (.invokevirtual 230, 3) := by decide +kernel
theorem dX11_beside_34 : decode cX11_beside 34 = .ok (.aload_n 0, 1) := by decide +kernel
theorem dX11_beside_35 : decode cX11_beside 35 = .ok (.getfield 28, 3) := by decide +kernel
theorem dX11_beside_38 : decode cX11_beside 38 = .ok (.iconst 0, 1) := by decide +kernel
theorem dX11_beside_39 : decode cX11_beside 39 = .ok (.invokevirtual 233, 3) := by decide +kernel
theorem dX11_beside_42 : decode cX11_beside 42 = .ok (.pop, 1) := by decide +kernel
theorem dX11_beside_43 : decode cX11_beside 43 = .ok (.aload_n 0, 1) := by decide +kernel
theorem dX11_beside_44 : decode cX11_beside 44 = .ok (.getfield 28, 3) := by decide +kernel
theorem dX11_beside_47 : decode cX11_beside 47 = .ok (.invokevirtual 337, 3) := by decide +kernel
theorem dX11_beside_50 : decode cX11_beside 50 = .ok (.istore_n 2, 1) := by decide +kernel
theorem dX11_beside_51 : decode cX11_beside 51 = .ok (.aload_n 0, 1) := by decide +kernel
theorem dX11_beside_52 : decode cX11_beside 52 = .ok (.getfield 10, 3) := by decide +kernel
theorem dX11_beside_55 : decode cX11_beside 55 = .ok (.getfield 197, 3) := by decide +kernel
theorem dX11_beside_58 : decode cX11_beside 58 = .ok (.iconst (-1), 1) := by decide +kernel
theorem dX11_beside_59 : decode cX11_beside 59 = .ok (.putfield 334, 3) := by decide +kernel
theorem dX11_beside_62 : decode cX11_beside 62 = .ok (.iload_n 2, 1) := by decide +kernel
theorem dX11_beside_63 : decode cX11_beside 63 = .ok (.ireturn, 1) := by decide +kernel
theorem dX11_check_0 : decode cX11_check 0 = .ok (.aload_n 0, 1) := by decide +kernel
theorem dX11_check_1 : decode cX11_check 1 = .ok (.iload_n 1, 1) := by decide +kernel
theorem dX11_check_2 : decode cX11_check 2 = .ok (.invokevirtual 271, 3) := by decide +kernel
theorem dX11_check_5 : decode cX11_check 5 = .ok (.ifCond .eq 12, 3) := by decide +kernel
theorem dX11_check_8 : decode cX11_check 8 = .ok (.iload_n 2, 1) := by decide +kernel
theorem dX11_check_9 : decode cX11_check 9 = .ok (.ifCond .lt 8, 3) := by decide +kernel
theorem dX11_check_12 : decode cX11_check 12 = .ok (.iload_n 2, 1) := by decide +kernel
theorem dX11_check_13 : decode cX11_check 13 = .ok (.iconst 4, 1) := by decide +kernel
theorem dX11_check_14 : decode cX11_check 14 = .ok (.if_icmp .le 5, 3) := by decide +kernel
theorem dX11_check_17 : decode cX11_check 17 = .ok (.iconst (-1), 1) := by decide +kernel
theorem dX11_check_18 : decode cX11_check 18 = .ok (.ireturn, 1) := by decide +kernel
theorem dX11_check_19 : decode cX11_check 19 = .ok (.aload_n 0, 1) := by decide +kernel
theorem dX11_check_20 : decode cX11_check 20 = .ok (.getfield 42, 3) := by decide +kernel
theorem dX11_check_23 : decode cX11_check 23 = .ok (.iload_n 1, 1) := by decide +kernel
theorem dX11_check_24 : decode cX11_check 24 = .ok (.iload_n 2, 1) := by decide +kernel
theorem dX11_check_25 : decode cX11_check 25 = .ok (.iload_n 3, 1) := by decide +kernel
theorem dX11_check_26 : decode cX11_check 26 = .ok (.aload_n 0, 1) := by decide +kernel
theorem dX11_check_27 : decode cX11_check 27 = .ok (.getfield 10, 3) := by decide +kernel
theorem dX11_check_30 : decode cX11_check 30 = .ok (.getfield 100, 3) := by decide +kernel
theorem dX11_check_33 : decode cX11_check 33 = .ok (.invokevirtual 341, 3) := by decide +kernel
theorem dX11_check_36 : decode cX11_check 36 = .ok (.ireturn, 1) := by decide +kernel
theorem dX11_ended_0 : decode cX11_ended 0 = .ok (.aload_n 0, 1) := by decide +kernel
theorem dX11_ended_1 : decode cX11_ended 1 = .ok (.iload_n 1, 1) := by decide +kernel
theorem dX11_ended_2 : decode cX11_ended 2 = .ok (.invokevirtual 271, 3) := by decide +kernel
theorem dX11_ended_5 : decode cX11_ended 5 = .ok (.ifCond .eq 12, 3) := by decide +kernel
theorem dX11_ended_8 : decode cX11_ended 8 = .ok (.iload_n 2, 1) := by decide +kernel
theorem dX11_ended_9 : decode cX11_ended 9 = .ok (.ifCond .lt 8, 3) := by decide +kernel
theorem dX11_ended_12 : decode cX11_ended 12 = .ok (.iload_n 2, 1) := by decide +kernel
theorem dX11_ended_13 : decode cX11_ended 13 = .ok (.iconst 4, 1) := by decide +kernel
theorem dX11_ended_14 : decode cX11_ended 14 = .ok (.if_icmp .le 5, 3) := by decide +kernel
theorem dX11_ended_17 : decode cX11_ended 17 = .ok (.iconst (-1), 1) := by decide +kernel
theorem dX11_ended_18 : decode cX11_ended 18 = .ok (.ireturn, 1) := by decide +kernel
theorem dX11_ended_19 : decode cX11_ended 19 = .ok (.aload_n 0, 1) := by decide +kernel
theorem dX11_ended_20 : decode cX11_ended 20 = .ok (.getfield 42, 3) := by decide +kernel
theorem dX11_ended_23 : decode cX11_ended 23 = .ok (.iload_n 1, 1) := by decide +kernel
theorem dX11_ended_24 : decode cX11_ended 24 = .ok (.iload_n 2, 1) := by decide +kernel
theorem dX11_ended_25 : decode cX11_ended 25 = .ok (.aload_n 0, 1) := by decide +kernel
theorem dX11_ended_26 : decode cX11_ended 26 = .ok (.getfield 10, 3) := by decide +kernel
theorem dX11_ended_29 : decode cX11_ended 29 = .ok (.getfield 100, 3) := by decide +kernel
theorem dX11_ended_32 : decode cX11_ended 32 = .ok (.invokevirtual 345, 3) := by decide +kernel
theorem dX11_ended_35 : decode cX11_ended 35 = .ok (.ireturn, 1) := by decide +kernel
theorem dX11_told_0 : decode cX11_told 0 = .ok (.aload_n 0, 1) := by decide +kernel
theorem dX11_told_1 : decode cX11_told 1 = .ok (.getfield 10, 3) := by decide +kernel
theorem dX11_told_4 : decode cX11_told 4 = .ok (.getfield 100, 3) := by decide +kernel
theorem dX11_told_7 : decode cX11_told 7 = .ok (.astore_n 3, 1) := by decide +kernel
theorem dX11_told_8 : decode cX11_told 8 = .ok (.aload_n 3, 1) := by decide +kernel
theorem dX11_told_9 : decode cX11_told 9 = .ok (.iload_n 1, 1) := by decide +kernel
theorem dX11_told_10 : decode cX11_told 10 = .ok (.invokevirtual 127, 3) := by decide +kernel
theorem dX11_told_13 : decode cX11_told 13 = .ok (.ifCond .ne 5, 3) := by decide +kernel
theorem dX11_told_16 : decode cX11_told 16 = .ok (.iconst (-1), 1) := by decide +kernel
theorem dX11_told_17 : decode cX11_told 17 = .ok (.ireturn, 1) := by decide +kernel
theorem dX11_told_18 : decode cX11_told 18 = .ok (.iload_n 2, 1) := by decide +kernel
theorem dX11_told_19 : decode cX11_told 19 = .ok (.tableswitch 79 0 5 #[37, 44, 51, 58, 65, 72], 37) := by decide +kernel
theorem dX11_told_56 : decode cX11_told 56 = .ok (.aload_n 3, 1) := by decide +kernel
theorem dX11_told_57 : decode cX11_told 57 = .ok (.getfield 259, 3) := by decide +kernel
theorem dX11_told_60 : decode cX11_told 60 = .ok (.iload_n 1, 1) := by decide +kernel
theorem dX11_told_61 : decode cX11_told 61 = .ok (.iaload, 1) := by decide +kernel
theorem dX11_told_62 : decode cX11_told 62 = .ok (.ireturn, 1) := by decide +kernel
theorem dX11_told_63 : decode cX11_told 63 = .ok (.aload_n 3, 1) := by decide +kernel
theorem dX11_told_64 : decode cX11_told 64 = .ok (.getfield 249, 3) := by decide +kernel
theorem dX11_told_67 : decode cX11_told 67 = .ok (.iload_n 1, 1) := by decide +kernel
theorem dX11_told_68 : decode cX11_told 68 = .ok (.iaload, 1) := by decide +kernel
theorem dX11_told_69 : decode cX11_told 69 = .ok (.ireturn, 1) := by decide +kernel
theorem dX11_told_70 : decode cX11_told 70 = .ok (.aload_n 3, 1) := by decide +kernel
theorem dX11_told_71 : decode cX11_told 71 = .ok (.getfield 284, 3) := by decide +kernel
theorem dX11_told_74 : decode cX11_told 74 = .ok (.iload_n 1, 1) := by decide +kernel
theorem dX11_told_75 : decode cX11_told 75 = .ok (.iaload, 1) := by decide +kernel
theorem dX11_told_76 : decode cX11_told 76 = .ok (.ireturn, 1) := by decide +kernel
theorem dX11_told_77 : decode cX11_told 77 = .ok (.aload_n 3, 1) := by decide +kernel
theorem dX11_told_78 : decode cX11_told 78 = .ok (.getfield 262, 3) := by decide +kernel
theorem dX11_told_81 : decode cX11_told 81 = .ok (.iload_n 1, 1) := by decide +kernel
theorem dX11_told_82 : decode cX11_told 82 = .ok (.iaload, 1) := by decide +kernel
theorem dX11_told_83 : decode cX11_told 83 = .ok (.ireturn, 1) := by decide +kernel
theorem dX11_told_84 : decode cX11_told 84 = .ok (.aload_n 3, 1) := by decide +kernel
theorem dX11_told_85 : decode cX11_told 85 = .ok (.getfield 268, 3) := by decide +kernel
theorem dX11_told_88 : decode cX11_told 88 = .ok (.iload_n 1, 1) := by decide +kernel
theorem dX11_told_89 : decode cX11_told 89 = .ok (.iaload, 1) := by decide +kernel
theorem dX11_told_90 : decode cX11_told 90 = .ok (.ireturn, 1) := by decide +kernel
theorem dX11_told_91 : decode cX11_told 91 = .ok (.aload_n 3, 1) := by decide +kernel
theorem dX11_told_92 : decode cX11_told 92 = .ok (.getfield 116, 3) := by decide +kernel
theorem dX11_told_95 : decode cX11_told 95 = .ok (.iload_n 1, 1) := by decide +kernel
theorem dX11_told_96 : decode cX11_told 96 = .ok (.iaload, 1) := by decide +kernel
theorem dX11_told_97 : decode cX11_told 97 = .ok (.ireturn, 1) := by decide +kernel
theorem dX11_told_98 : decode cX11_told 98 = .ok (.iconst (-1), 1) := by decide +kernel
theorem dX11_told_99 : decode cX11_told 99 = .ok (.ireturn, 1) := by decide +kernel
theorem dX11_is_0 : decode cX11_is 0 = .ok (.aload_n 0, 1) := by decide +kernel
theorem dX11_is_1 : decode cX11_is 1 = .ok (.getfield 10, 3) := by decide +kernel
theorem dX11_is_4 : decode cX11_is 4 = .ok (.getfield 53, 3) := by decide +kernel
theorem dX11_is_7 : decode cX11_is 7 = .ok (.astore_n 3, 1) := by decide +kernel
theorem dX11_is_8 : decode cX11_is 8 = .ok (.aload_n 3, 1) := by decide +kernel
theorem dX11_is_9 : decode cX11_is 9 = .ok (.iload_n 1, 1) := by decide +kernel
theorem dX11_is_10 : decode cX11_is 10 = .ok (.invokevirtual 63, 3) := by decide +kernel
theorem dX11_is_13 : decode cX11_is 13 = .ok (.ifCond .ne 5, 3) := by decide +kernel
theorem dX11_is_16 : decode cX11_is 16 = .ok (.iconst (-1), 1) := by decide +kernel
theorem dX11_is_17 : decode cX11_is 17 = .ok (.ireturn, 1) := by decide +kernel
theorem dX11_is_18 : decode cX11_is 18 = .ok (.iload_n 2, 1) := by decide +kernel
theorem dX11_is_19 : decode cX11_is 19 = .ok (.tableswitch 107 0 5 #[37, 44, 51, 65, 79, 94], 37) := by decide +kernel
theorem dX11_is_56 : decode cX11_is 56 = .ok (.aload_n 3, 1) := by decide +kernel
theorem dX11_is_57 : decode cX11_is 57 = .ok (.getfield 348, 3) := by decide +kernel
theorem dX11_is_60 : decode cX11_is 60 = .ok (.iload_n 1, 1) := by decide +kernel
theorem dX11_is_61 : decode cX11_is 61 = .ok (.iaload, 1) := by decide +kernel
theorem dX11_is_62 : decode cX11_is 62 = .ok (.ireturn, 1) := by decide +kernel
theorem dX11_is_63 : decode cX11_is 63 = .ok (.aload_n 3, 1) := by decide +kernel
theorem dX11_is_64 : decode cX11_is 64 = .ok (.getfield 351, 3) := by decide +kernel
theorem dX11_is_67 : decode cX11_is 67 = .ok (.iload_n 1, 1) := by decide +kernel
theorem dX11_is_68 : decode cX11_is 68 = .ok (.iaload, 1) := by decide +kernel
theorem dX11_is_69 : decode cX11_is 69 = .ok (.ireturn, 1) := by decide +kernel
theorem dX11_is_70 : decode cX11_is 70 = .ok (.aload_n 3, 1) := by decide +kernel
theorem dX11_is_71 : decode cX11_is 71 = .ok (.getfield 352, 3) := by decide +kernel
theorem dX11_is_74 : decode cX11_is 74 = .ok (.iload_n 1, 1) := by decide +kernel
theorem dX11_is_75 : decode cX11_is 75 = .ok (.iaload, 1) := by decide +kernel
theorem dX11_is_76 : decode cX11_is 76 = .ok (.aload_n 3, 1) := by decide +kernel
theorem dX11_is_77 : decode cX11_is 77 = .ok (.getfield 355, 3) := by decide +kernel
theorem dX11_is_80 : decode cX11_is 80 = .ok (.iload_n 1, 1) := by decide +kernel
theorem dX11_is_81 : decode cX11_is 81 = .ok (.iaload, 1) := by decide +kernel
theorem dX11_is_82 : decode cX11_is 82 = .ok (.isub, 1) := by decide +kernel
theorem dX11_is_83 : decode cX11_is 83 = .ok (.ireturn, 1) := by decide +kernel
theorem dX11_is_84 : decode cX11_is 84 = .ok (.ldc2_w 358, 3) := by decide +kernel
theorem dX11_is_87 : decode cX11_is 87 = .ok (.aload_n 3, 1) := by decide +kernel
theorem dX11_is_88 : decode cX11_is 88 = .ok (.getfield 360, 3) := by decide +kernel
theorem dX11_is_91 : decode cX11_is 91 = .ok (.iload_n 1, 1) := by decide +kernel
theorem dX11_is_92 : decode cX11_is 92 = .ok (.laload, 1) := by decide +kernel
theorem dX11_is_93 : decode cX11_is 93 = .ok (.invokestatic 364, 3) := by decide +kernel
theorem dX11_is_96 : decode cX11_is 96 = .ok (.l2i, 1) := by decide +kernel
theorem dX11_is_97 : decode cX11_is 97 = .ok (.ireturn, 1) := by decide +kernel
theorem dX11_is_98 : decode cX11_is 98 = .ok (.aload_n 3, 1) := by decide +kernel
theorem dX11_is_99 : decode cX11_is 99 = .ok (.getfield 67, 3) := by decide +kernel
theorem dX11_is_102 : decode cX11_is 102 = .ok (.iload_n 1, 1) := by decide +kernel
theorem dX11_is_103 : decode cX11_is 103 = .ok (.baload, 1) := by decide +kernel
theorem dX11_is_104 : decode cX11_is 104 = .ok (.ifCond .eq 7, 3) := by decide +kernel
theorem dX11_is_107 : decode cX11_is 107 = .ok (.iconst 1, 1) := by decide +kernel
theorem dX11_is_108 : decode cX11_is 108 = .ok (.goto 4, 3) := by decide +kernel
theorem dX11_is_111 : decode cX11_is 111 = .ok (.iconst 0, 1) := by decide +kernel
theorem dX11_is_112 : decode cX11_is 112 = .ok (.ireturn, 1) := by decide +kernel
theorem dX11_is_113 : decode cX11_is 113 = .ok (.iconst 0, 1) := by decide +kernel
theorem dX11_is_114 : decode cX11_is 114 = .ok (.aload_n 0, 1) := by decide +kernel
theorem dX11_is_115 : decode cX11_is 115 = .ok (.getfield 10, 3) := by decide +kernel
theorem dX11_is_118 : decode cX11_is 118 = .ok (.iload_n 1, 1) := by decide +kernel
theorem dX11_is_119 : decode cX11_is 119 = .ok (.invokevirtual 220, 3) := by decide +kernel
theorem dX11_is_122 : decode cX11_is 122 = .ok (.invokestatic 370, 3) := by decide +kernel
theorem dX11_is_125 : decode cX11_is 125 = .ok (.ireturn, 1) := by decide +kernel
theorem dX11_is_126 : decode cX11_is 126 = .ok (.iconst (-1), 1) := by decide +kernel
theorem dX11_is_127 : decode cX11_is 127 = .ok (.ireturn, 1) := by decide +kernel
theorem dX11_count_0 : decode cX11_count 0 = .ok (.iload_n 1, 1) := by decide +kernel
theorem dX11_count_1 : decode cX11_count 1 = .ok (.tableswitch 203 0 12 #[67, 75, 86, 97, 108, 119, 130, 138, 147, 155, 176, 184, 192], 67) := by decide +kernel
theorem dX11_count_68 : decode cX11_count 68 = .ok (.aload_n 0, 1) := by decide +kernel
theorem dX11_count_69 : decode cX11_count 69 = .ok (.getfield 10, 3) := by decide +kernel
theorem dX11_count_72 : decode cX11_count 72 = .ok (.getfield 104, 3) := by decide +kernel
theorem dX11_count_75 : decode cX11_count 75 = .ok (.ireturn, 1) := by decide +kernel
theorem dX11_count_76 : decode cX11_count 76 = .ok (.aload_n 0, 1) := by decide +kernel
theorem dX11_count_77 : decode cX11_count 77 = .ok (.getfield 10, 3) := by decide +kernel
theorem dX11_count_80 : decode cX11_count 80 = .ok (.getfield 53, 3) := by decide +kernel
theorem dX11_count_83 : decode cX11_count 83 = .ok (.getfield 373, 3) := by decide +kernel
theorem dX11_count_86 : decode cX11_count 86 = .ok (.ireturn, 1) := by decide +kernel
theorem dX11_count_87 : decode cX11_count 87 = .ok (.aload_n 0, 1) := by decide +kernel
theorem dX11_count_88 : decode cX11_count 88 = .ok (.getfield 10, 3) := by decide +kernel
theorem dX11_count_91 : decode cX11_count 91 = .ok (.getfield 77, 3) := by decide +kernel
theorem dX11_count_94 : decode cX11_count 94 = .ok (.getfield 287, 3) := by decide +kernel
theorem dX11_count_97 : decode cX11_count 97 = .ok (.ireturn, 1) := by decide +kernel
theorem dX11_count_98 : decode cX11_count 98 = .ok (.aload_n 0, 1) := by decide +kernel
theorem dX11_count_99 : decode cX11_count 99 = .ok (.getfield 10, 3) := by decide +kernel
theorem dX11_count_102 : decode cX11_count 102 = .ok (.getfield 100, 3) := by decide +kernel
theorem dX11_count_105 : decode cX11_count 105 = .ok (.getfield 281, 3) := by decide +kernel
theorem dX11_count_108 : decode cX11_count 108 = .ok (.ireturn, 1) := by decide +kernel
theorem dX11_count_109 : decode cX11_count 109 = .ok (.aload_n 0, 1) := by decide +kernel
theorem dX11_count_110 : decode cX11_count 110 = .ok (.getfield 10, 3) := by decide +kernel
theorem dX11_count_113 : decode cX11_count 113 = .ok (.getfield 128, 3) := by decide +kernel
theorem dX11_count_116 : decode cX11_count 116 = .ok (.getfield 374, 3) := by decide +kernel
theorem dX11_count_119 : decode cX11_count 119 = .ok (.ireturn, 1) := by decide +kernel
theorem dX11_count_120 : decode cX11_count 120 = .ok (.aload_n 0, 1) := by decide +kernel
theorem dX11_count_121 : decode cX11_count 121 = .ok (.getfield 10, 3) := by decide +kernel
theorem dX11_count_124 : decode cX11_count 124 = .ok (.getfield 197, 3) := by decide +kernel
theorem dX11_count_127 : decode cX11_count 127 = .ok (.getfield 375, 3) := by decide +kernel
theorem dX11_count_130 : decode cX11_count 130 = .ok (.ireturn, 1) := by decide +kernel
theorem dX11_count_131 : decode cX11_count 131 = .ok (.aload_n 0, 1) := by decide +kernel
theorem dX11_count_132 : decode cX11_count 132 = .ok (.getfield 19, 3) := by decide +kernel
theorem dX11_count_135 : decode cX11_count 135 = .ok (.getfield 188, 3) := by decide +kernel
theorem dX11_count_138 : decode cX11_count 138 = .ok (.ireturn, 1) := by decide +kernel
theorem dX11_count_139 : decode cX11_count 139 = .ok (.aload_n 0, 1) := by decide +kernel
theorem dX11_count_140 : decode cX11_count 140 = .ok (.getfield 10, 3) := by decide +kernel
theorem dX11_count_143 : decode cX11_count 143 = .ok (.iconst 0, 1) := by decide +kernel
theorem dX11_count_144 : decode cX11_count 144 = .ok (.invokevirtual 318, 3) := by decide +kernel
theorem dX11_count_147 : decode cX11_count 147 = .ok (.ireturn, 1) := by decide +kernel
theorem dX11_count_148 : decode cX11_count 148 = .ok (.aload_n 0, 1) := by decide +kernel
theorem dX11_count_149 : decode cX11_count 149 = .ok (.getfield 10, 3) := by decide +kernel
theorem dX11_count_152 : decode cX11_count 152 = .ok (.getfield 90, 3) := by decide +kernel
theorem dX11_count_155 : decode cX11_count 155 = .ok (.ireturn, 1) := by decide +kernel
theorem dX11_count_156 : decode cX11_count 156 = .ok (.iconst 0, 1) := by decide +kernel
theorem dX11_count_157 : decode cX11_count 157 = .ok (.aload_n 0, 1) := by decide +kernel
theorem dX11_count_158 : decode cX11_count 158 = .ok (.getfield 10, 3) := by decide +kernel
theorem dX11_count_161 : decode cX11_count 161 = .ok (.iconst 0, 1) := by decide +kernel
theorem dX11_count_162 : decode cX11_count 162 = .ok (.invokevirtual 318, 3) := by decide +kernel
theorem dX11_count_165 : decode cX11_count 165 = .ok (.aload_n 0, 1) := by decide +kernel
theorem dX11_count_166 : decode cX11_count 166 = .ok (.getfield 10, 3) := by decide +kernel
theorem dX11_count_169 : decode cX11_count 169 = .ok (.getfield 90, 3) := by decide +kernel
theorem dX11_count_172 : decode cX11_count 172 = .ok (.isub, 1) := by decide +kernel
theorem dX11_count_173 : decode cX11_count 173 = .ok (.invokestatic 370, 3) := by decide +kernel
theorem dX11_count_176 : decode cX11_count 176 = .ok (.ireturn, 1) := by decide +kernel
theorem dX11_count_177 : decode cX11_count 177 = .ok (.aload_n 0, 1) := by decide +kernel
theorem dX11_count_178 : decode cX11_count 178 = .ok (.getfield 49, 3) := by decide +kernel
theorem dX11_count_181 : decode cX11_count 181 = .ok (.getfield 376, 3) := by decide +kernel
theorem dX11_count_184 : decode cX11_count 184 = .ok (.ireturn, 1) := by decide +kernel
theorem dX11_count_185 : decode cX11_count 185 = .ok (.aload_n 0, 1) := by decide +kernel
theorem dX11_count_186 : decode cX11_count 186 = .ok (.getfield 49, 3) := by decide +kernel
theorem dX11_count_189 : decode cX11_count 189 = .ok (.getfield 379, 3) := by decide +kernel
theorem dX11_count_192 : decode cX11_count 192 = .ok (.ireturn, 1) := by decide +kernel
theorem dX11_count_193 : decode cX11_count 193 = .ok (.aload_n 0, 1) := by decide +kernel
theorem dX11_count_194 : decode cX11_count 194 = .ok (.getfield 10, 3) := by decide +kernel
theorem dX11_count_197 : decode cX11_count 197 = .ok (.getfield 128, 3) := by decide +kernel
theorem dX11_count_200 : decode cX11_count 200 = .ok (.getfield 382, 3) := by decide +kernel
theorem dX11_count_203 : decode cX11_count 203 = .ok (.ireturn, 1) := by decide +kernel
theorem dX11_count_204 : decode cX11_count 204 = .ok (.iconst (-1), 1) := by decide +kernel
theorem dX11_count_205 : decode cX11_count 205 = .ok (.ireturn, 1) := by decide +kernel
theorem dX11_closeDay_0 : decode cX11_closeDay 0 = .ok (.aload_n 0, 1) := by decide +kernel
theorem dX11_closeDay_1 : decode cX11_closeDay 1 = .ok (.getfield 10, 3) := by decide +kernel
theorem dX11_closeDay_4 : decode cX11_closeDay 4 = .ok (.invokevirtual 385, 3) := by decide +kernel
theorem dX11_closeDay_7 : decode cX11_closeDay 7 = .ok (.aload_n 0, 1) := by decide +kernel
theorem dX11_closeDay_8 : decode cX11_closeDay 8 = .ok (.getfield 10, 3) := by decide +kernel
theorem dX11_closeDay_11 : decode cX11_closeDay 11 = .ok (.invokevirtual 388, 3) := by decide +kernel
theorem dX11_closeDay_14 : decode cX11_closeDay 14 = .ok (.aload_n 0, 1) := by decide +kernel
theorem dX11_closeDay_15 : decode cX11_closeDay 15 = .ok (.getfield 42, 3) := by decide +kernel
theorem dX11_closeDay_18 : decode cX11_closeDay 18 = .ok (.aload_n 0, 1) := by decide +kernel
theorem dX11_closeDay_19 : decode cX11_closeDay 19 = .ok (.getfield 10, 3) := by decide +kernel
theorem dX11_closeDay_22 : decode cX11_closeDay 22 = .ok (.invokevirtual 391, 3) := by decide +kernel
theorem dX11_closeDay_25 : decode cX11_closeDay 25 = .ok (.aload_n 0, 1) := by decide +kernel
theorem dX11_closeDay_26 : decode cX11_closeDay 26 = .ok (.getfield 42, 3) := by decide +kernel
theorem dX11_closeDay_29 : decode cX11_closeDay 29 = .ok (.aload_n 0, 1) := by decide +kernel
theorem dX11_closeDay_30 : decode cX11_closeDay 30 = .ok (.getfield 10, 3) := by decide +kernel
theorem dX11_closeDay_33 : decode cX11_closeDay 33 = .ok (.invokevirtual 394, 3) := by decide +kernel
theorem dX11_closeDay_36 : decode cX11_closeDay 36 = .ok (.aload_n 0, 1) := by decide +kernel
theorem dX11_closeDay_37 : decode cX11_closeDay 37 = .ok (.getfield 10, 3) := by decide +kernel
theorem dX11_closeDay_40 : decode cX11_closeDay 40 = .ok (.dup, 1) := by decide +kernel
theorem dX11_closeDay_41 : decode cX11_closeDay 41 = .ok (.getfield 104, 3) := by decide +kernel
theorem dX11_closeDay_44 : decode cX11_closeDay 44 = .ok (.iconst 1, 1) := by decide +kernel
theorem dX11_closeDay_45 : decode cX11_closeDay 45 = .ok (.iadd, 1) := by decide +kernel
theorem dX11_closeDay_46 : decode cX11_closeDay 46 = .ok (.putfield 104, 3) := by decide +kernel
theorem dX11_closeDay_49 : decode cX11_closeDay 49 = .ok (.return_, 1) := by decide +kernel
theorem dX11_hasEnded_0 : decode cX11_hasEnded 0 = .ok (.iload_n 1, 1) := by decide +kernel
theorem dX11_hasEnded_1 : decode cX11_hasEnded 1 = .ok (.ifCond .lt 18, 3) := by decide +kernel
theorem dX11_hasEnded_4 : decode cX11_hasEnded 4 = .ok (.iload_n 1, 1) := by decide +kernel
theorem dX11_hasEnded_5 : decode cX11_hasEnded 5 = .ok (.aload_n 0, 1) := by decide +kernel
theorem dX11_hasEnded_6 : decode cX11_hasEnded 6 = .ok (.getfield 10, 3) := by decide +kernel
theorem dX11_hasEnded_9 : decode cX11_hasEnded 9 = .ok (.getfield 104, 3) := by decide +kernel
theorem dX11_hasEnded_12 : decode cX11_hasEnded 12 = .ok (.if_icmp .ge 7, 3) := by decide +kernel
theorem dX11_hasEnded_15 : decode cX11_hasEnded 15 = .ok (.iconst 1, 1) := by decide +kernel
theorem dX11_hasEnded_16 : decode cX11_hasEnded 16 = .ok (.goto 4, 3) := by decide +kernel
theorem dX11_hasEnded_19 : decode cX11_hasEnded 19 = .ok (.iconst 0, 1) := by decide +kernel
theorem dX11_hasEnded_20 : decode cX11_hasEnded 20 = .ok (.ireturn, 1) := by decide +kernel
theorem dX11_isAhead_0 : decode cX11_isAhead 0 = .ok (.iload_n 1, 1) := by decide +kernel
theorem dX11_isAhead_1 : decode cX11_isAhead 1 = .ok (.aload_n 0, 1) := by decide +kernel
theorem dX11_isAhead_2 : decode cX11_isAhead 2 = .ok (.getfield 10, 3) := by decide +kernel
theorem dX11_isAhead_5 : decode cX11_isAhead 5 = .ok (.getfield 104, 3) := by decide +kernel
theorem dX11_isAhead_8 : decode cX11_isAhead 8 = .ok (.if_icmp .lt 14, 3) := by decide +kernel
theorem dX11_isAhead_11 : decode cX11_isAhead 11 = .ok (.iload_n 1, 1) := by decide +kernel
theorem dX11_isAhead_12 : decode cX11_isAhead 12 = .ok (.sipush 200, 3) := by decide +kernel
theorem dX11_isAhead_15 : decode cX11_isAhead 15 = .ok (.if_icmp .gt 7, 3) := by decide +kernel
theorem dX11_isAhead_18 : decode cX11_isAhead 18 = .ok (.iconst 1, 1) := by decide +kernel
theorem dX11_isAhead_19 : decode cX11_isAhead 19 = .ok (.goto 4, 3) := by decide +kernel
theorem dX11_isAhead_22 : decode cX11_isAhead 22 = .ok (.iconst 0, 1) := by decide +kernel
theorem dX11_isAhead_23 : decode cX11_isAhead 23 = .ok (.ireturn, 1) := by decide +kernel
theorem dX11_canBeDays_0 : decode cX11_canBeDays 0 = .ok (.iload_n 0, 1) := by decide +kernel
theorem dX11_canBeDays_1 : decode cX11_canBeDays 1 = .ok (.ifCond .lt 31, 3) := by decide +kernel
theorem dX11_canBeDays_4 : decode cX11_canBeDays 4 = .ok (.iload_n 0, 1) := by decide +kernel
theorem dX11_canBeDays_5 : decode cX11_canBeDays 5 = .ok (.sipush 1000, 3) := by decide +kernel
theorem dX11_canBeDays_8 : decode cX11_canBeDays 8 = .ok (.irem, 1) := by decide +kernel
theorem dX11_canBeDays_9 : decode cX11_canBeDays 9 = .ok (.sipush 200, 3) := by decide +kernel
theorem dX11_canBeDays_12 : decode cX11_canBeDays 12 = .ok (.if_icmp .gt 20, 3) := by decide +kernel
theorem dX11_canBeDays_15 : decode cX11_canBeDays 15 = .ok (.iload_n 0, 1) := by decide +kernel
theorem dX11_canBeDays_16 : decode cX11_canBeDays 16 = .ok (.sipush 1000, 3) := by decide +kernel
theorem dX11_canBeDays_19 : decode cX11_canBeDays 19 = .ok (.idiv, 1) := by decide +kernel
theorem dX11_canBeDays_20 : decode cX11_canBeDays 20 = .ok (.iload_n 0, 1) := by decide +kernel
theorem dX11_canBeDays_21 : decode cX11_canBeDays 21 = .ok (.sipush 1000, 3) := by decide +kernel
theorem dX11_canBeDays_24 : decode cX11_canBeDays 24 = .ok (.irem, 1) := by decide +kernel
theorem dX11_canBeDays_25 : decode cX11_canBeDays 25 = .ok (.if_icmp .gt 7, 3) := by decide +kernel
theorem dX11_canBeDays_28 : decode cX11_canBeDays 28 = .ok (.iconst 1, 1) := by decide +kernel
theorem dX11_canBeDays_29 : decode cX11_canBeDays 29 = .ok (.goto 4, 3) := by decide +kernel
theorem dX11_canBeDays_32 : decode cX11_canBeDays 32 = .ok (.iconst 0, 1) := by decide +kernel
theorem dX11_canBeDays_33 : decode cX11_canBeDays 33 = .ok (.ireturn, 1) := by decide +kernel
theorem dX11_canBeHome_0 : decode cX11_canBeHome 0 = .ok (.iload_n 0, 1) := by decide +kernel
theorem dX11_canBeHome_1 : decode cX11_canBeHome 1 = .ok (.bipush 100, 2) := by decide +kernel
theorem dX11_canBeHome_3 : decode cX11_canBeHome 3 = .ok (.if_icmp .lt 33, 3) := by decide +kernel
theorem dX11_canBeHome_6 : decode cX11_canBeHome 6 = .ok (.iload_n 0, 1) := by decide +kernel
theorem dX11_canBeHome_7 : decode cX11_canBeHome 7 = .ok (.sipush 999, 3) := by decide +kernel
theorem dX11_canBeHome_10 : decode cX11_canBeHome 10 = .ok (.if_icmp .gt 26, 3) := by decide +kernel
theorem dX11_canBeHome_13 : decode cX11_canBeHome 13 = .ok (.iload_n 0, 1) := by decide +kernel
theorem dX11_canBeHome_14 : decode cX11_canBeHome 14 = .ok (.bipush 10, 2) := by decide +kernel
theorem dX11_canBeHome_16 : decode cX11_canBeHome 16 = .ok (.idiv, 1) := by decide +kernel
theorem dX11_canBeHome_17 : decode cX11_canBeHome 17 = .ok (.bipush 10, 2) := by decide +kernel
theorem dX11_canBeHome_19 : decode cX11_canBeHome 19 = .ok (.irem, 1) := by decide +kernel
theorem dX11_canBeHome_20 : decode cX11_canBeHome 20 = .ok (.iconst 1, 1) := by decide +kernel
theorem dX11_canBeHome_21 : decode cX11_canBeHome 21 = .ok (.if_icmp .gt 15, 3) := by decide +kernel
theorem dX11_canBeHome_24 : decode cX11_canBeHome 24 = .ok (.iload_n 0, 1) := by decide +kernel
theorem dX11_canBeHome_25 : decode cX11_canBeHome 25 = .ok (.bipush 10, 2) := by decide +kernel
theorem dX11_canBeHome_27 : decode cX11_canBeHome 27 = .ok (.irem, 1) := by decide +kernel
theorem dX11_canBeHome_28 : decode cX11_canBeHome 28 = .ok (.iconst 4, 1) := by decide +kernel
theorem dX11_canBeHome_29 : decode cX11_canBeHome 29 = .ok (.if_icmp .gt 7, 3) := by decide +kernel
theorem dX11_canBeHome_32 : decode cX11_canBeHome 32 = .ok (.iconst 1, 1) := by decide +kernel
theorem dX11_canBeHome_33 : decode cX11_canBeHome 33 = .ok (.goto 4, 3) := by decide +kernel
theorem dX11_canBeHome_36 : decode cX11_canBeHome 36 = .ok (.iconst 0, 1) := by decide +kernel
theorem dX11_canBeHome_37 : decode cX11_canBeHome 37 = .ok (.ireturn, 1) := by decide +kernel
theorem dX11_canBeHeads_0 : decode cX11_canBeHeads 0 = .ok (.iload_n 0, 1) := by decide +kernel
theorem dX11_canBeHeads_1 : decode cX11_canBeHeads 1 = .ok (.bipush 100, 2) := by decide +kernel
theorem dX11_canBeHeads_3 : decode cX11_canBeHeads 3 = .ok (.if_icmp .lt 36, 3) := by decide +kernel
theorem dX11_canBeHeads_6 : decode cX11_canBeHeads 6 = .ok (.iload_n 0, 1) := by decide +kernel
theorem dX11_canBeHeads_7 : decode cX11_canBeHeads 7 = .ok (.sipush 999, 3) := by decide +kernel
theorem dX11_canBeHeads_10 : decode cX11_canBeHeads 10 = .ok (.if_icmp .gt 29, 3) := by decide +kernel
theorem dX11_canBeHeads_13 : decode cX11_canBeHeads 13 = .ok (.iload_n 0, 1) := by decide +kernel
theorem dX11_canBeHeads_14 : decode cX11_canBeHeads 14 = .ok (.bipush 10, 2) := by decide +kernel
theorem dX11_canBeHeads_16 : decode cX11_canBeHeads 16 = .ok (.idiv, 1) := by decide +kernel
theorem dX11_canBeHeads_17 : decode cX11_canBeHeads 17 = .ok (.bipush 10, 2) := by decide +kernel
theorem dX11_canBeHeads_19 : decode cX11_canBeHeads 19 = .ok (.irem, 1) := by decide +kernel
theorem dX11_canBeHeads_20 : decode cX11_canBeHeads 20 = .ok (.iload_n 0, 1) := by decide +kernel
theorem dX11_canBeHeads_21 : decode cX11_canBeHeads 21 = .ok (.bipush 100, 2) := by decide +kernel
theorem dX11_canBeHeads_23 : decode cX11_canBeHeads 23 = .ok (.idiv, 1) := by decide +kernel
theorem dX11_canBeHeads_24 : decode cX11_canBeHeads 24 = .ok (.if_icmp .gt 15, 3) := by decide +kernel
theorem dX11_canBeHeads_27 : decode cX11_canBeHeads 27 = .ok (.iload_n 0, 1) := by decide +kernel
theorem dX11_canBeHeads_28 : decode cX11_canBeHeads 28 = .ok (.bipush 10, 2) := by decide +kernel
theorem dX11_canBeHeads_30 : decode cX11_canBeHeads 30 = .ok (.irem, 1) := by decide +kernel
theorem dX11_canBeHeads_31 : decode cX11_canBeHeads 31 = .ok (.iconst 1, 1) := by decide +kernel
theorem dX11_canBeHeads_32 : decode cX11_canBeHeads 32 = .ok (.if_icmp .gt 7, 3) := by decide +kernel
theorem dX11_canBeHeads_35 : decode cX11_canBeHeads 35 = .ok (.iconst 1, 1) := by decide +kernel
theorem dX11_canBeHeads_36 : decode cX11_canBeHeads 36 = .ok (.goto 4, 3) := by decide +kernel
theorem dX11_canBeHeads_39 : decode cX11_canBeHeads 39 = .ok (.iconst 0, 1) := by decide +kernel
theorem dX11_canBeHeads_40 : decode cX11_canBeHeads 40 = .ok (.ireturn, 1) := by decide +kernel
theorem dX11_canBeKind_0 : decode cX11_canBeKind 0 = .ok (.iload_n 0, 1) := by decide +kernel
theorem dX11_canBeKind_1 : decode cX11_canBeKind 1 = .ok (.ifCond .lt 35, 3) := by decide +kernel
theorem dX11_canBeKind_4 : decode cX11_canBeKind 4 = .ok (.iload_n 0, 1) := by decide +kernel
theorem dX11_canBeKind_5 : decode cX11_canBeKind 5 = .ok (.bipush 100, 2) := by decide +kernel
theorem dX11_canBeKind_7 : decode cX11_canBeKind 7 = .ok (.idiv, 1) := by decide +kernel
theorem dX11_canBeKind_8 : decode cX11_canBeKind 8 = .ok (.iconst 3, 1) := by decide +kernel
theorem dX11_canBeKind_9 : decode cX11_canBeKind 9 = .ok (.if_icmp .gt 27, 3) := by decide +kernel
theorem dX11_canBeKind_12 : decode cX11_canBeKind 12 = .ok (.iload_n 0, 1) := by decide +kernel
theorem dX11_canBeKind_13 : decode cX11_canBeKind 13 = .ok (.bipush 10, 2) := by decide +kernel
theorem dX11_canBeKind_15 : decode cX11_canBeKind 15 = .ok (.idiv, 1) := by decide +kernel
theorem dX11_canBeKind_16 : decode cX11_canBeKind 16 = .ok (.bipush 10, 2) := by decide +kernel
theorem dX11_canBeKind_18 : decode cX11_canBeKind 18 = .ok (.irem, 1) := by decide +kernel
theorem dX11_canBeKind_19 : decode cX11_canBeKind 19 = .ok (.iconst 5, 1) := by decide +kernel
theorem dX11_canBeKind_20 : decode cX11_canBeKind 20 = .ok (.if_icmp .gt 16, 3) := by decide +kernel
theorem dX11_canBeKind_23 : decode cX11_canBeKind 23 = .ok (.iload_n 0, 1) := by decide +kernel
theorem dX11_canBeKind_24 : decode cX11_canBeKind 24 = .ok (.bipush 10, 2) := by decide +kernel
theorem dX11_canBeKind_26 : decode cX11_canBeKind 26 = .ok (.irem, 1) := by decide +kernel
theorem dX11_canBeKind_27 : decode cX11_canBeKind 27 = .ok (.bipush 6, 2) := by decide +kernel
theorem dX11_canBeKind_29 : decode cX11_canBeKind 29 = .ok (.if_icmp .ge 7, 3) := by decide +kernel
theorem dX11_canBeKind_32 : decode cX11_canBeKind 32 = .ok (.iconst 1, 1) := by decide +kernel
theorem dX11_canBeKind_33 : decode cX11_canBeKind 33 = .ok (.goto 4, 3) := by decide +kernel
theorem dX11_canBeKind_36 : decode cX11_canBeKind 36 = .ok (.iconst 0, 1) := by decide +kernel
theorem dX11_canBeKind_37 : decode cX11_canBeKind 37 = .ok (.ireturn, 1) := by decide +kernel
theorem dX11_canBeSought_0 : decode cX11_canBeSought 0 = .ok (.iload_n 0, 1) := by decide +kernel
theorem dX11_canBeSought_1 : decode cX11_canBeSought 1 = .ok (.ifCond .lt 24, 3) := by decide +kernel
theorem dX11_canBeSought_4 : decode cX11_canBeSought 4 = .ok (.iload_n 0, 1) := by decide +kernel
theorem dX11_canBeSought_5 : decode cX11_canBeSought 5 = .ok (.ldc_w 397, 3) := by decide +kernel
theorem dX11_canBeSought_8 : decode cX11_canBeSought 8 = .ok (.if_icmp .gt 17, 3) := by decide +kernel
theorem dX11_canBeSought_11 : decode cX11_canBeSought 11 = .ok (.iload_n 1, 1) := by decide +kernel
theorem dX11_canBeSought_12 : decode cX11_canBeSought 12 = .ok (.ifCond .lt 13, 3) := by decide +kernel
theorem dX11_canBeSought_15 : decode cX11_canBeSought 15 = .ok (.iload_n 1, 1) := by decide +kernel
theorem dX11_canBeSought_16 : decode cX11_canBeSought 16 = .ok (.bipush 120, 2) := by decide +kernel
theorem dX11_canBeSought_18 : decode cX11_canBeSought 18 = .ok (.if_icmp .gt 7, 3) := by decide +kernel
theorem dX11_canBeSought_21 : decode cX11_canBeSought 21 = .ok (.iconst 1, 1) := by decide +kernel
theorem dX11_canBeSought_22 : decode cX11_canBeSought 22 = .ok (.goto 4, 3) := by decide +kernel
theorem dX11_canBeSought_25 : decode cX11_canBeSought 25 = .ok (.iconst 0, 1) := by decide +kernel
theorem dX11_canBeSought_26 : decode cX11_canBeSought 26 = .ok (.ireturn, 1) := by decide +kernel
theorem dX12_init_0 : decode cX12_init 0 = .ok (.aload_n 0, 1) := by decide +kernel
theorem dX12_init_1 : decode cX12_init 1 = .ok (.invokespecial 1, 3) := by decide +kernel
theorem dX12_init_4 : decode cX12_init 4 = .ok (.aload_n 0, 1) := by decide +kernel
theorem dX12_init_5 : decode cX12_init 5 = .ok (.bipush 8, 2) := by decide +kernel
theorem dX12_init_7 : decode cX12_init 7 = .ok (.newarray .int, 2) := by decide +kernel
theorem dX12_init_9 : decode cX12_init 9 = .ok (.putfield 9, 3) := by decide +kernel
theorem dX12_init_12 : decode cX12_init 12 = .ok (.aload_n 0, 1) := by decide +kernel
theorem dX12_init_13 : decode cX12_init 13 = .ok (.bipush 8, 2) := by decide +kernel
theorem dX12_init_15 : decode cX12_init 15 = .ok (.newarray .int, 2) := by decide +kernel
theorem dX12_init_17 : decode cX12_init 17 = .ok (.putfield 13, 3) := by decide +kernel
theorem dX12_init_20 : decode cX12_init 20 = .ok (.aload_n 0, 1) := by decide +kernel
theorem dX12_init_21 : decode cX12_init 21 = .ok (.bipush 8, 2) := by decide +kernel
theorem dX12_init_23 : decode cX12_init 23 = .ok (.newarray .int, 2) := by decide +kernel
theorem dX12_init_25 : decode cX12_init 25 = .ok (.putfield 16, 3) := by decide +kernel
theorem dX12_init_28 : decode cX12_init 28 = .ok (.aload_n 0, 1) := by decide +kernel
theorem dX12_init_29 : decode cX12_init 29 = .ok (.bipush 8, 2) := by decide +kernel
theorem dX12_init_31 : decode cX12_init 31 = .ok (.newarray .int, 2) := by decide +kernel
theorem dX12_init_33 : decode cX12_init 33 = .ok (.putfield 19, 3) := by decide +kernel
theorem dX12_init_36 : decode cX12_init 36 = .ok (.aload_n 0, 1) := by decide +kernel
theorem dX12_init_37 : decode cX12_init 37 = .ok (.bipush 8, 2) := by decide +kernel
theorem dX12_init_39 : decode cX12_init 39 = .ok (.newarray .long, 2) := by decide +kernel
theorem dX12_init_41 : decode cX12_init 41 = .ok (.putfield 22, 3) := by decide +kernel
theorem dX12_init_44 : decode cX12_init 44 = .ok (.aload_n 0, 1) := by decide +kernel
theorem dX12_init_45 : decode cX12_init 45 = .ok (.bipush 8, 2) := by decide +kernel
theorem dX12_init_47 : decode cX12_init 47 = .ok (.newarray .boolean, 2) := by decide +kernel
theorem dX12_init_49 : decode cX12_init 49 = .ok (.putfield 26, 3) := by decide +kernel
theorem dX12_init_52 : decode cX12_init 52 = .ok (.aload_n 0, 1) := by decide +kernel
theorem dX12_init_53 : decode cX12_init 53 = .ok (.bipush 24, 2) := by decide +kernel
theorem dX12_init_55 : decode cX12_init 55 = .ok (.newarray .int, 2) := by decide +kernel
theorem dX12_init_57 : decode cX12_init 57 = .ok (.putfield 30, 3) := by decide +kernel
theorem dX12_init_60 : decode cX12_init 60 = .ok (.aload_n 0, 1) := by decide +kernel
theorem dX12_init_61 : decode cX12_init 61 = .ok (.bipush 24, 2) := by decide +kernel
theorem dX12_init_63 : decode cX12_init 63 = .ok (.newarray .int, 2) := by decide +kernel
theorem dX12_init_65 : decode cX12_init 65 = .ok (.putfield 33, 3) := by decide +kernel
theorem dX12_init_68 : decode cX12_init 68 = .ok (.aload_n 0, 1) := by decide +kernel
theorem dX12_init_69 : decode cX12_init 69 = .ok (.bipush 24, 2) := by decide +kernel
theorem dX12_init_71 : decode cX12_init 71 = .ok (.newarray .int, 2) := by decide +kernel
theorem dX12_init_73 : decode cX12_init 73 = .ok (.putfield 36, 3) := by decide +kernel
theorem dX12_init_76 : decode cX12_init 76 = .ok (.aload_n 0, 1) := by decide +kernel
theorem dX12_init_77 : decode cX12_init 77 = .ok (.bipush 24, 2) := by decide +kernel
theorem dX12_init_79 : decode cX12_init 79 = .ok (.newarray .int, 2) := by decide +kernel
theorem dX12_init_81 : decode cX12_init 81 = .ok (.putfield 39, 3) := by decide +kernel
theorem dX12_init_84 : decode cX12_init 84 = .ok (.aload_n 0, 1) := by decide +kernel
theorem dX12_init_85 : decode cX12_init 85 = .ok (.bipush 24, 2) := by decide +kernel
theorem dX12_init_87 : decode cX12_init 87 = .ok (.newarray .int, 2) := by decide +kernel
theorem dX12_init_89 : decode cX12_init 89 = .ok (.putfield 42, 3) := by decide +kernel
theorem dX12_init_92 : decode cX12_init 92 = .ok (.aload_n 0, 1) := by decide +kernel
theorem dX12_init_93 : decode cX12_init 93 = .ok (.bipush 24, 2) := by decide +kernel
theorem dX12_init_95 : decode cX12_init 95 = .ok (.newarray .int, 2) := by decide +kernel
theorem dX12_init_97 : decode cX12_init 97 = .ok (.putfield 45, 3) := by decide +kernel
theorem dX12_init_100 : decode cX12_init 100 = .ok (.aload_n 0, 1) := by decide +kernel
theorem dX12_init_101 : decode cX12_init 101 = .ok (.bipush 24, 2) := by decide +kernel
theorem dX12_init_103 : decode cX12_init 103 = .ok (.newarray .int, 2) := by decide +kernel
theorem dX12_init_105 : decode cX12_init 105 = .ok (.putfield 48, 3) := by decide +kernel
theorem dX12_init_108 : decode cX12_init 108 = .ok (.aload_n 0, 1) := by decide +kernel
theorem dX12_init_109 : decode cX12_init 109 = .ok (.bipush 24, 2) := by decide +kernel
theorem dX12_init_111 : decode cX12_init 111 = .ok (.newarray .int, 2) := by decide +kernel
theorem dX12_init_113 : decode cX12_init 113 = .ok (.putfield 51, 3) := by decide +kernel
theorem dX12_init_116 : decode cX12_init 116 = .ok (.aload_n 0, 1) := by decide +kernel
theorem dX12_init_117 : decode cX12_init 117 = .ok (.bipush 24, 2) := by decide +kernel
theorem dX12_init_119 : decode cX12_init 119 = .ok (.newarray .int, 2) := by decide +kernel
theorem dX12_init_121 : decode cX12_init 121 = .ok (.putfield 54, 3) := by decide +kernel
theorem dX12_init_124 : decode cX12_init 124 = .ok (.aload_n 0, 1) := by decide +kernel
theorem dX12_init_125 : decode cX12_init 125 = .ok (.bipush 24, 2) := by decide +kernel
theorem dX12_init_127 : decode cX12_init 127 = .ok (.newarray .int, 2) := by decide +kernel
theorem dX12_init_129 : decode cX12_init 129 = .ok (.putfield 57, 3) := by decide +kernel
theorem dX12_init_132 : decode cX12_init 132 = .ok (.aload_n 0, 1) := by decide +kernel
theorem dX12_init_133 : decode cX12_init 133 = .ok (.bipush 24, 2) := by decide +kernel
theorem dX12_init_135 : decode cX12_init 135 = .ok (.newarray .int, 2) := by decide +kernel
theorem dX12_init_137 : decode cX12_init 137 = .ok (.putfield 60, 3) := by decide +kernel
theorem dX12_init_140 : decode cX12_init 140 = .ok (.aload_n 0, 1) := by decide +kernel
theorem dX12_init_141 : decode cX12_init 141 = .ok (.bipush 24, 2) := by decide +kernel
theorem dX12_init_143 : decode cX12_init 143 = .ok (.newarray .int, 2) := by decide +kernel
theorem dX12_init_145 : decode cX12_init 145 = .ok (.putfield 63, 3) := by decide +kernel
theorem dX12_init_148 : decode cX12_init 148 = .ok (.aload_n 0, 1) := by decide +kernel
theorem dX12_init_149 : decode cX12_init 149 = .ok (.bipush 24, 2) := by decide +kernel
theorem dX12_init_151 : decode cX12_init 151 = .ok (.newarray .int, 2) := by decide +kernel
theorem dX12_init_153 : decode cX12_init 153 = .ok (.putfield 66, 3) := by decide +kernel
theorem dX12_init_156 : decode cX12_init 156 = .ok (.aload_n 0, 1) := by decide +kernel
theorem dX12_init_157 : decode cX12_init 157 = .ok (.bipush 24, 2) := by decide +kernel
theorem dX12_init_159 : decode cX12_init 159 = .ok (.newarray .int, 2) := by decide +kernel
theorem dX12_init_161 : decode cX12_init 161 = .ok (.putfield 69, 3) := by decide +kernel
theorem dX12_init_164 : decode cX12_init 164 = .ok (.aload_n 0, 1) := by decide +kernel
theorem dX12_init_165 : decode cX12_init 165 = .ok (.bipush 24, 2) := by decide +kernel
theorem dX12_init_167 : decode cX12_init 167 = .ok (.newarray .int, 2) := by decide +kernel
theorem dX12_init_169 : decode cX12_init 169 = .ok (.putfield 72, 3) := by decide +kernel
theorem dX12_init_172 : decode cX12_init 172 = .ok (.aload_n 0, 1) := by decide +kernel
theorem dX12_init_173 : decode cX12_init 173 = .ok (.bipush 24, 2) := by decide +kernel
theorem dX12_init_175 : decode cX12_init 175 = .ok (.newarray .int, 2) := by decide +kernel
theorem dX12_init_177 : decode cX12_init 177 = .ok (.putfield 75, 3) := by decide +kernel
theorem dX12_init_180 : decode cX12_init 180 = .ok (.aload_n 0, 1) := by decide +kernel
theorem dX12_init_181 : decode cX12_init 181 = .ok (.bipush 24, 2) := by decide +kernel
theorem dX12_init_183 : decode cX12_init 183 = .ok (.newarray .int, 2) := by decide +kernel
theorem dX12_init_185 : decode cX12_init 185 = .ok (.putfield 78, 3) := by decide +kernel
theorem dX12_init_188 : decode cX12_init 188 = .ok (.aload_n 0, 1) := by decide +kernel
theorem dX12_init_189 : decode cX12_init 189 = .ok (.bipush 6, 2) := by decide +kernel
theorem dX12_init_191 : decode cX12_init 191 = .ok (.bipush 6, 2) := by decide +kernel
theorem dX12_init_193 : decode cX12_init 193 = .ok (.multianewarray 81 2, 4) := by decide +kernel
theorem dX12_init_197 : decode cX12_init 197 = .ok (.putfield 83, 3) := by decide +kernel
theorem dX12_init_200 : decode cX12_init 200 = .ok (.aload_n 0, 1) := by decide +kernel
theorem dX12_init_201 : decode cX12_init 201 = .ok (.bipush 60, 2) := by decide +kernel
theorem dX12_init_203 : decode cX12_init 203 = .ok (.newarray .int, 2) := by decide +kernel
theorem dX12_init_205 : decode cX12_init 205 = .ok (.putfield 86, 3) := by decide +kernel
theorem dX12_init_208 : decode cX12_init 208 = .ok (.aload_n 0, 1) := by decide +kernel
theorem dX12_init_209 : decode cX12_init 209 = .ok (.bipush 60, 2) := by decide +kernel
theorem dX12_init_211 : decode cX12_init 211 = .ok (.newarray .int, 2) := by decide +kernel
theorem dX12_init_213 : decode cX12_init 213 = .ok (.putfield 89, 3) := by decide +kernel
theorem dX12_init_216 : decode cX12_init 216 = .ok (.aload_n 0, 1) := by decide +kernel
theorem dX12_init_217 : decode cX12_init 217 = .ok (.bipush 60, 2) := by decide +kernel
theorem dX12_init_219 : decode cX12_init 219 = .ok (.newarray .int, 2) := by decide +kernel
theorem dX12_init_221 : decode cX12_init 221 = .ok (.putfield 92, 3) := by decide +kernel
theorem dX12_init_224 : decode cX12_init 224 = .ok (.aload_n 0, 1) := by decide +kernel
theorem dX12_init_225 : decode cX12_init 225 = .ok (.bipush 60, 2) := by decide +kernel
theorem dX12_init_227 : decode cX12_init 227 = .ok (.newarray .int, 2) := by decide +kernel
theorem dX12_init_229 : decode cX12_init 229 = .ok (.putfield 95, 3) := by decide +kernel
theorem dX12_init_232 : decode cX12_init 232 = .ok (.aload_n 0, 1) := by decide +kernel
theorem dX12_init_233 : decode cX12_init 233 = .ok (.bipush 60, 2) := by decide +kernel
theorem dX12_init_235 : decode cX12_init 235 = .ok (.newarray .int, 2) := by decide +kernel
theorem dX12_init_237 : decode cX12_init 237 = .ok (.putfield 98, 3) := by decide +kernel
theorem dX12_init_240 : decode cX12_init 240 = .ok (.aload_n 0, 1) := by decide +kernel
theorem dX12_init_241 : decode cX12_init 241 = .ok (.bipush 60, 2) := by decide +kernel
theorem dX12_init_243 : decode cX12_init 243 = .ok (.newarray .int, 2) := by decide +kernel
theorem dX12_init_245 : decode cX12_init 245 = .ok (.putfield 101, 3) := by decide +kernel
theorem dX12_init_248 : decode cX12_init 248 = .ok (.aload_n 0, 1) := by decide +kernel
theorem dX12_init_249 : decode cX12_init 249 = .ok (.bipush 60, 2) := by decide +kernel
theorem dX12_init_251 : decode cX12_init 251 = .ok (.newarray .int, 2) := by decide +kernel
theorem dX12_init_253 : decode cX12_init 253 = .ok (.putfield 104, 3) := by decide +kernel
theorem dX12_init_256 : decode cX12_init 256 = .ok (.aload_n 0, 1) := by decide +kernel
theorem dX12_init_257 : decode cX12_init 257 = .ok (.bipush 40, 2) := by decide +kernel
theorem dX12_init_259 : decode cX12_init 259 = .ok (.newarray .int, 2) := by decide +kernel
theorem dX12_init_261 : decode cX12_init 261 = .ok (.putfield 107, 3) := by decide +kernel
theorem dX12_init_264 : decode cX12_init 264 = .ok (.aload_n 0, 1) := by decide +kernel
theorem dX12_init_265 : decode cX12_init 265 = .ok (.bipush 40, 2) := by decide +kernel
theorem dX12_init_267 : decode cX12_init 267 = .ok (.newarray .int, 2) := by decide +kernel
theorem dX12_init_269 : decode cX12_init 269 = .ok (.putfield 110, 3) := by decide +kernel
theorem dX12_init_272 : decode cX12_init 272 = .ok (.aload_n 0, 1) := by decide +kernel
theorem dX12_init_273 : decode cX12_init 273 = .ok (.bipush 40, 2) := by decide +kernel
theorem dX12_init_275 : decode cX12_init 275 = .ok (.newarray .int, 2) := by decide +kernel
theorem dX12_init_277 : decode cX12_init 277 = .ok (.putfield 113, 3) := by decide +kernel
theorem dX12_init_280 : decode cX12_init 280 = .ok (.aload_n 0, 1) := by decide +kernel
theorem dX12_init_281 : decode cX12_init 281 = .ok (.bipush 24, 2) := by decide +kernel
theorem dX12_init_283 : decode cX12_init 283 = .ok (.bipush 24, 2) := by decide +kernel
theorem dX12_init_285 : decode cX12_init 285 = .ok (.multianewarray 81 2, 4) := by decide +kernel
theorem dX12_init_289 : decode cX12_init 289 = .ok (.putfield 116, 3) := by decide +kernel
theorem dX12_init_292 : decode cX12_init 292 = .ok (.aload_n 0, 1) := by decide +kernel
theorem dX12_init_293 : decode cX12_init 293 = .ok (.sipush 500, 3) := by decide +kernel
theorem dX12_init_296 : decode cX12_init 296 = .ok (.newarray .byte, 2) := by decide +kernel
theorem dX12_init_298 : decode cX12_init 298 = .ok (.putfield 119, 3) := by decide +kernel
theorem dX12_init_301 : decode cX12_init 301 = .ok (.aload_n 0, 1) := by decide +kernel
theorem dX12_init_302 : decode cX12_init 302 = .ok (.bipush 11, 2) := by decide +kernel
theorem dX12_init_304 : decode cX12_init 304 = .ok (.bipush 6, 2) := by decide +kernel
theorem dX12_init_306 : decode cX12_init 306 = .ok (.sipush 1040, 3) := by decide +kernel
theorem dX12_init_309 : decode cX12_init 309 = .ok (.multianewarray 123 3, 4) := by decide +kernel
theorem dX12_init_313 : decode cX12_init 313 = .ok (.putfield 125, 3) := by decide +kernel
theorem dX12_init_316 : decode cX12_init 316 = .ok (.aload_n 0, 1) := by decide +kernel
theorem dX12_init_317 : decode cX12_init 317 = .ok (.bipush 11, 2) := by decide +kernel
theorem dX12_init_319 : decode cX12_init 319 = .ok (.bipush 6, 2) := by decide +kernel
theorem dX12_init_321 : decode cX12_init 321 = .ok (.multianewarray 81 2, 4) := by decide +kernel
theorem dX12_init_325 : decode cX12_init 325 = .ok (.putfield 128, 3) := by decide +kernel
theorem dX12_init_328 : decode cX12_init 328 = .ok (.aload_n 0, 1) := by decide +kernel
theorem dX12_init_329 : decode cX12_init 329 = .ok (.bipush 10, 2) := by decide +kernel
theorem dX12_init_331 : decode cX12_init 331 = .ok (.newarray .int, 2) := by decide +kernel
theorem dX12_init_333 : decode cX12_init 333 = .ok (.putfield 131, 3) := by decide +kernel
theorem dX12_init_336 : decode cX12_init 336 = .ok (.aload_n 0, 1) := by decide +kernel
theorem dX12_init_337 : decode cX12_init 337 = .ok (.bipush 10, 2) := by decide +kernel
theorem dX12_init_339 : decode cX12_init 339 = .ok (.newarray .int, 2) := by decide +kernel
theorem dX12_init_341 : decode cX12_init 341 = .ok (.putfield 134, 3) := by decide +kernel
theorem dX12_init_344 : decode cX12_init 344 = .ok (.aload_n 0, 1) := by decide +kernel
theorem dX12_init_345 : decode cX12_init 345 = .ok (.bipush 6, 2) := by decide +kernel
theorem dX12_init_347 : decode cX12_init 347 = .ok (.anewarray 137, 3) := by decide +kernel
theorem dX12_init_350 : decode cX12_init 350 = .ok (.dup, 1) := by decide +kernel
theorem dX12_init_351 : decode cX12_init 351 = .ok (.iconst 0, 1) := by decide +kernel
theorem dX12_init_352 : decode cX12_init 352 = .ok (.ldc 139, 2) := by decide +kernel
theorem dX12_init_354 : decode cX12_init 354 = .ok (.aastore, 1) := by decide +kernel
theorem dX12_init_355 : decode cX12_init 355 = .ok (.dup, 1) := by decide +kernel
theorem dX12_init_356 : decode cX12_init 356 = .ok (.iconst 1, 1) := by decide +kernel
theorem dX12_init_357 : decode cX12_init 357 = .ok (.ldc 141, 2) := by decide +kernel
theorem dX12_init_359 : decode cX12_init 359 = .ok (.aastore, 1) := by decide +kernel
theorem dX12_init_360 : decode cX12_init 360 = .ok (.dup, 1) := by decide +kernel
theorem dX12_init_361 : decode cX12_init 361 = .ok (.iconst 2, 1) := by decide +kernel
theorem dX12_init_362 : decode cX12_init 362 = .ok (.ldc 143, 2) := by decide +kernel
theorem dX12_init_364 : decode cX12_init 364 = .ok (.aastore, 1) := by decide +kernel
theorem dX12_init_365 : decode cX12_init 365 = .ok (.dup, 1) := by decide +kernel
theorem dX12_init_366 : decode cX12_init 366 = .ok (.iconst 3, 1) := by decide +kernel
theorem dX12_init_367 : decode cX12_init 367 = .ok (.ldc 145, 2) := by decide +kernel
theorem dX12_init_369 : decode cX12_init 369 = .ok (.aastore, 1) := by decide +kernel
theorem dX12_init_370 : decode cX12_init 370 = .ok (.dup, 1) := by decide +kernel
theorem dX12_init_371 : decode cX12_init 371 = .ok (.iconst 4, 1) := by decide +kernel
theorem dX12_init_372 : decode cX12_init 372 = .ok (.ldc 147, 2) := by decide +kernel
theorem dX12_init_374 : decode cX12_init 374 = .ok (.aastore, 1) := by decide +kernel
theorem dX12_init_375 : decode cX12_init 375 = .ok (.dup, 1) := by decide +kernel
theorem dX12_init_376 : decode cX12_init 376 = .ok (.iconst 5, 1) := by decide +kernel
theorem dX12_init_377 : decode cX12_init 377 = .ok (.ldc 149, 2) := by decide +kernel
theorem dX12_init_379 : decode cX12_init 379 = .ok (.aastore, 1) := by decide +kernel
theorem dX12_init_380 : decode cX12_init 380 = .ok (.putfield 151, 3) := by decide +kernel
theorem dX12_init_383 : decode cX12_init 383 = .ok (.aload_n 0, 1) := by decide +kernel
theorem dX12_init_384 : decode cX12_init 384 = .ok (.bipush 18, 2) := by decide +kernel
theorem dX12_init_386 : decode cX12_init 386 = .ok (.anewarray 137, 3) := by decide +kernel
theorem dX12_init_389 : decode cX12_init 389 = .ok (.dup, 1) := by decide +kernel
theorem dX12_init_390 : decode cX12_init 390 = .ok (.iconst 0, 1) := by decide +kernel
theorem dX12_init_391 : decode cX12_init 391 = .ok (.ldc 155, 2) := by decide +kernel
theorem dX12_init_393 : decode cX12_init 393 = .ok (.aastore, 1) := by decide +kernel
theorem dX12_init_394 : decode cX12_init 394 = .ok (.dup, 1) := by decide +kernel
theorem dX12_init_395 : decode cX12_init 395 = .ok (.iconst 1, 1) := by decide +kernel
theorem dX12_init_396 : decode cX12_init 396 = .ok (.ldc 156, 2) := by decide +kernel
theorem dX12_init_398 : decode cX12_init 398 = .ok (.aastore, 1) := by decide +kernel
theorem dX12_init_399 : decode cX12_init 399 = .ok (.dup, 1) := by decide +kernel
theorem dX12_init_400 : decode cX12_init 400 = .ok (.iconst 2, 1) := by decide +kernel
theorem dX12_init_401 : decode cX12_init 401 = .ok (.ldc 157, 2) := by decide +kernel
theorem dX12_init_403 : decode cX12_init 403 = .ok (.aastore, 1) := by decide +kernel
theorem dX12_init_404 : decode cX12_init 404 = .ok (.dup, 1) := by decide +kernel
theorem dX12_init_405 : decode cX12_init 405 = .ok (.iconst 3, 1) := by decide +kernel
theorem dX12_init_406 : decode cX12_init 406 = .ok (.ldc 158, 2) := by decide +kernel
theorem dX12_init_408 : decode cX12_init 408 = .ok (.aastore, 1) := by decide +kernel
theorem dX12_init_409 : decode cX12_init 409 = .ok (.dup, 1) := by decide +kernel
theorem dX12_init_410 : decode cX12_init 410 = .ok (.iconst 4, 1) := by decide +kernel
theorem dX12_init_411 : decode cX12_init 411 = .ok (.ldc 159, 2) := by decide +kernel
theorem dX12_init_413 : decode cX12_init 413 = .ok (.aastore, 1) := by decide +kernel
theorem dX12_init_414 : decode cX12_init 414 = .ok (.dup, 1) := by decide +kernel
theorem dX12_init_415 : decode cX12_init 415 = .ok (.iconst 5, 1) := by decide +kernel
theorem dX12_init_416 : decode cX12_init 416 = .ok (.ldc 160, 2) := by decide +kernel
theorem dX12_init_418 : decode cX12_init 418 = .ok (.aastore, 1) := by decide +kernel
theorem dX12_init_419 : decode cX12_init 419 = .ok (.dup, 1) := by decide +kernel
theorem dX12_init_420 : decode cX12_init 420 = .ok (.bipush 6, 2) := by decide +kernel
theorem dX12_init_422 : decode cX12_init 422 = .ok (.ldc 161, 2) := by decide +kernel
theorem dX12_init_424 : decode cX12_init 424 = .ok (.aastore, 1) := by decide +kernel
theorem dX12_init_425 : decode cX12_init 425 = .ok (.dup, 1) := by decide +kernel
theorem dX12_init_426 : decode cX12_init 426 = .ok (.bipush 7, 2) := by decide +kernel
theorem dX12_init_428 : decode cX12_init 428 = .ok (.ldc 162, 2) := by decide +kernel
theorem dX12_init_430 : decode cX12_init 430 = .ok (.aastore, 1) := by decide +kernel
theorem dX12_init_431 : decode cX12_init 431 = .ok (.dup, 1) := by decide +kernel
theorem dX12_init_432 : decode cX12_init 432 = .ok (.bipush 8, 2) := by decide +kernel
theorem dX12_init_434 : decode cX12_init 434 = .ok (.ldc 164, 2) := by decide +kernel
theorem dX12_init_436 : decode cX12_init 436 = .ok (.aastore, 1) := by decide +kernel
theorem dX12_init_437 : decode cX12_init 437 = .ok (.dup, 1) := by decide +kernel
theorem dX12_init_438 : decode cX12_init 438 = .ok (.bipush 9, 2) := by decide +kernel
theorem dX12_init_440 : decode cX12_init 440 = .ok (.ldc 166, 2) := by decide +kernel
theorem dX12_init_442 : decode cX12_init 442 = .ok (.aastore, 1) := by decide +kernel
theorem dX12_init_443 : decode cX12_init 443 = .ok (.dup, 1) := by decide +kernel
theorem dX12_init_444 : decode cX12_init 444 = .ok (.bipush 10, 2) := by decide +kernel
theorem dX12_init_446 : decode cX12_init 446 = .ok (.ldc 167, 2) := by decide +kernel
theorem dX12_init_448 : decode cX12_init 448 = .ok (.aastore, 1) := by decide +kernel
theorem dX12_init_449 : decode cX12_init 449 = .ok (.dup, 1) := by decide +kernel
theorem dX12_init_450 : decode cX12_init 450 = .ok (.bipush 11, 2) := by decide +kernel
theorem dX12_init_452 : decode cX12_init 452 = .ok (.ldc 168, 2) := by decide +kernel
theorem dX12_init_454 : decode cX12_init 454 = .ok (.aastore, 1) := by decide +kernel
theorem dX12_init_455 : decode cX12_init 455 = .ok (.dup, 1) := by decide +kernel
theorem dX12_init_456 : decode cX12_init 456 = .ok (.bipush 12, 2) := by decide +kernel
theorem dX12_init_458 : decode cX12_init 458 = .ok (.ldc 170, 2) := by decide +kernel
theorem dX12_init_460 : decode cX12_init 460 = .ok (.aastore, 1) := by decide +kernel
theorem dX12_init_461 : decode cX12_init 461 = .ok (.dup, 1) := by decide +kernel
theorem dX12_init_462 : decode cX12_init 462 = .ok (.bipush 13, 2) := by decide +kernel
theorem dX12_init_464 : decode cX12_init 464 = .ok (.ldc 171, 2) := by decide +kernel
theorem dX12_init_466 : decode cX12_init 466 = .ok (.aastore, 1) := by decide +kernel
theorem dX12_init_467 : decode cX12_init 467 = .ok (.dup, 1) := by decide +kernel
