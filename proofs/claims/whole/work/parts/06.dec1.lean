theorem d_Ps_has_0 : decode b_Ps_has 0 = .ok (.iload_n 0, 1) := by decide +kernel
theorem d_Ps_has_1 : decode b_Ps_has 1 = .ok (.iload_n 1, 1) := by decide +kernel
theorem d_Ps_has_2 : decode b_Ps_has 2 = .ok (.iushr, 1) := by decide +kernel
theorem d_Ps_has_3 : decode b_Ps_has 3 = .ok (.iconst 1, 1) := by decide +kernel
theorem d_Ps_has_4 : decode b_Ps_has 4 = .ok (.iand, 1) := by decide +kernel
theorem d_Ps_has_5 : decode b_Ps_has 5 = .ok (.ifCond .eq 7, 3) := by decide +kernel
theorem d_Ps_has_8 : decode b_Ps_has 8 = .ok (.iconst 1, 1) := by decide +kernel
theorem d_Ps_has_9 : decode b_Ps_has 9 = .ok (.goto 4, 3) := by decide +kernel
theorem d_Ps_has_12 : decode b_Ps_has 12 = .ok (.iconst 0, 1) := by decide +kernel
theorem d_Ps_has_13 : decode b_Ps_has 13 = .ok (.ireturn, 1) := by decide +kernel
theorem d_Jint_bitCount_0 : decode b_Jint_bitCount 0 = .ok (.iload_n 0, 1) := by decide +kernel
theorem d_Jint_bitCount_1 : decode b_Jint_bitCount 1 = .ok (.iload_n 0, 1) := by decide +kernel
theorem d_Jint_bitCount_2 : decode b_Jint_bitCount 2 = .ok (.iconst 1, 1) := by decide +kernel
theorem d_Jint_bitCount_3 : decode b_Jint_bitCount 3 = .ok (.iushr, 1) := by decide +kernel
theorem d_Jint_bitCount_4 : decode b_Jint_bitCount 4 = .ok (.ldc_w 265, 3) := by decide +kernel
theorem d_Jint_bitCount_7 : decode b_Jint_bitCount 7 = .ok (.iand, 1) := by decide +kernel
theorem d_Jint_bitCount_8 : decode b_Jint_bitCount 8 = .ok (.isub, 1) := by decide +kernel
theorem d_Jint_bitCount_9 : decode b_Jint_bitCount 9 = .ok (.istore_n 0, 1) := by decide +kernel
theorem d_Jint_bitCount_10 : decode b_Jint_bitCount 10 = .ok (.iload_n 0, 1) := by decide +kernel
theorem d_Jint_bitCount_11 : decode b_Jint_bitCount 11 = .ok (.ldc_w 266, 3) := by decide +kernel
theorem d_Jint_bitCount_14 : decode b_Jint_bitCount 14 = .ok (.iand, 1) := by decide +kernel
theorem d_Jint_bitCount_15 : decode b_Jint_bitCount 15 = .ok (.iload_n 0, 1) := by decide +kernel
theorem d_Jint_bitCount_16 : decode b_Jint_bitCount 16 = .ok (.iconst 2, 1) := by decide +kernel
theorem d_Jint_bitCount_17 : decode b_Jint_bitCount 17 = .ok (.iushr, 1) := by decide +kernel
theorem d_Jint_bitCount_18 : decode b_Jint_bitCount 18 = .ok (.ldc_w 266, 3) := by decide +kernel
theorem d_Jint_bitCount_21 : decode b_Jint_bitCount 21 = .ok (.iand, 1) := by decide +kernel
theorem d_Jint_bitCount_22 : decode b_Jint_bitCount 22 = .ok (.iadd, 1) := by decide +kernel
theorem d_Jint_bitCount_23 : decode b_Jint_bitCount 23 = .ok (.istore_n 0, 1) := by decide +kernel
theorem d_Jint_bitCount_24 : decode b_Jint_bitCount 24 = .ok (.iload_n 0, 1) := by decide +kernel
theorem d_Jint_bitCount_25 : decode b_Jint_bitCount 25 = .ok (.iload_n 0, 1) := by decide +kernel
theorem d_Jint_bitCount_26 : decode b_Jint_bitCount 26 = .ok (.iconst 4, 1) := by decide +kernel
theorem d_Jint_bitCount_27 : decode b_Jint_bitCount 27 = .ok (.iushr, 1) := by decide +kernel
theorem d_Jint_bitCount_28 : decode b_Jint_bitCount 28 = .ok (.iadd, 1) := by decide +kernel
theorem d_Jint_bitCount_29 : decode b_Jint_bitCount 29 = .ok (.ldc_w 267, 3) := by decide +kernel
theorem d_Jint_bitCount_32 : decode b_Jint_bitCount 32 = .ok (.iand, 1) := by decide +kernel
theorem d_Jint_bitCount_33 : decode b_Jint_bitCount 33 = .ok (.istore_n 0, 1) := by decide +kernel
theorem d_Jint_bitCount_34 : decode b_Jint_bitCount 34 = .ok (.iload_n 0, 1) := by decide +kernel
theorem d_Jint_bitCount_35 : decode b_Jint_bitCount 35 = .ok (.iload_n 0, 1) := by decide +kernel
theorem d_Jint_bitCount_36 : decode b_Jint_bitCount 36 = .ok (.bipush 8, 2) := by decide +kernel
theorem d_Jint_bitCount_38 : decode b_Jint_bitCount 38 = .ok (.iushr, 1) := by decide +kernel
theorem d_Jint_bitCount_39 : decode b_Jint_bitCount 39 = .ok (.iadd, 1) := by decide +kernel
theorem d_Jint_bitCount_40 : decode b_Jint_bitCount 40 = .ok (.istore_n 0, 1) := by decide +kernel
theorem d_Jint_bitCount_41 : decode b_Jint_bitCount 41 = .ok (.iload_n 0, 1) := by decide +kernel
theorem d_Jint_bitCount_42 : decode b_Jint_bitCount 42 = .ok (.iload_n 0, 1) := by decide +kernel
theorem d_Jint_bitCount_43 : decode b_Jint_bitCount 43 = .ok (.bipush 16, 2) := by decide +kernel
theorem d_Jint_bitCount_45 : decode b_Jint_bitCount 45 = .ok (.iushr, 1) := by decide +kernel
theorem d_Jint_bitCount_46 : decode b_Jint_bitCount 46 = .ok (.iadd, 1) := by decide +kernel
theorem d_Jint_bitCount_47 : decode b_Jint_bitCount 47 = .ok (.istore_n 0, 1) := by decide +kernel
theorem d_Jint_bitCount_48 : decode b_Jint_bitCount 48 = .ok (.iload_n 0, 1) := by decide +kernel
theorem d_Jint_bitCount_49 : decode b_Jint_bitCount 49 = .ok (.bipush 63, 2) := by decide +kernel
theorem d_Jint_bitCount_51 : decode b_Jint_bitCount 51 = .ok (.iand, 1) := by decide +kernel
theorem d_Jint_bitCount_52 : decode b_Jint_bitCount 52 = .ok (.ireturn, 1) := by decide +kernel
theorem d_Jmath_max_0 : decode b_Jmath_max 0 = .ok (.iload_n 0, 1) := by decide +kernel
theorem d_Jmath_max_1 : decode b_Jmath_max 1 = .ok (.iload_n 1, 1) := by decide +kernel
theorem d_Jmath_max_2 : decode b_Jmath_max 2 = .ok (.if_icmp .lt 7, 3) := by decide +kernel
theorem d_Jmath_max_5 : decode b_Jmath_max 5 = .ok (.iload_n 0, 1) := by decide +kernel
theorem d_Jmath_max_6 : decode b_Jmath_max 6 = .ok (.goto 4, 3) := by decide +kernel
theorem d_Jmath_max_9 : decode b_Jmath_max 9 = .ok (.iload_n 1, 1) := by decide +kernel
theorem d_Jmath_max_10 : decode b_Jmath_max 10 = .ok (.ireturn, 1) := by decide +kernel
theorem d_Jarr_fill_0 : decode b_Jarr_fill 0 = .ok (.iconst 0, 1) := by decide +kernel
theorem d_Jarr_fill_1 : decode b_Jarr_fill 1 = .ok (.istore_n 2, 1) := by decide +kernel
theorem d_Jarr_fill_2 : decode b_Jarr_fill 2 = .ok (.aload_n 0, 1) := by decide +kernel
theorem d_Jarr_fill_3 : decode b_Jarr_fill 3 = .ok (.arraylength, 1) := by decide +kernel
theorem d_Jarr_fill_4 : decode b_Jarr_fill 4 = .ok (.istore_n 3, 1) := by decide +kernel
theorem d_Jarr_fill_5 : decode b_Jarr_fill 5 = .ok (.iload_n 2, 1) := by decide +kernel
theorem d_Jarr_fill_6 : decode b_Jarr_fill 6 = .ok (.iload_n 3, 1) := by decide +kernel
theorem d_Jarr_fill_7 : decode b_Jarr_fill 7 = .ok (.if_icmp .ge 13, 3) := by decide +kernel
theorem d_Jarr_fill_10 : decode b_Jarr_fill 10 = .ok (.aload_n 0, 1) := by decide +kernel
theorem d_Jarr_fill_11 : decode b_Jarr_fill 11 = .ok (.iload_n 2, 1) := by decide +kernel
theorem d_Jarr_fill_12 : decode b_Jarr_fill 12 = .ok (.iload_n 1, 1) := by decide +kernel
theorem d_Jarr_fill_13 : decode b_Jarr_fill 13 = .ok (.iastore, 1) := by decide +kernel
theorem d_Jarr_fill_14 : decode b_Jarr_fill 14 = .ok (.iinc 2 1, 3) := by decide +kernel
theorem d_Jarr_fill_17 : decode b_Jarr_fill 17 = .ok (.goto (-12), 3) := by decide +kernel
theorem d_Jarr_fill_20 : decode b_Jarr_fill 20 = .ok (.return_, 1) := by decide +kernel
theorem d_Po_init_0 : decode b_Po_init 0 = .ok (.aload_n 0, 1) := by decide +kernel
theorem d_Po_init_1 : decode b_Po_init 1 = .ok (.invokespecial 5, 3) := by decide +kernel
theorem d_Po_init_4 : decode b_Po_init 4 = .ok (.aload_n 0, 1) := by decide +kernel
theorem d_Po_init_5 : decode b_Po_init 5 = .ok (.sipush 2325, 3) := by decide +kernel
theorem d_Po_init_8 : decode b_Po_init 8 = .ok (.newarray .int, 2) := by decide +kernel
theorem d_Po_init_10 : decode b_Po_init 10 = .ok (.putfield 11, 3) := by decide +kernel
theorem d_Po_init_13 : decode b_Po_init 13 = .ok (.return_, 1) := by decide +kernel
theorem d_Po_clear_0 : decode b_Po_clear 0 = .ok (.aload_n 0, 1) := by decide +kernel
theorem d_Po_clear_1 : decode b_Po_clear 1 = .ok (.getfield 11, 3) := by decide +kernel
theorem d_Po_clear_4 : decode b_Po_clear 4 = .ok (.iconst 0, 1) := by decide +kernel
theorem d_Po_clear_5 : decode b_Po_clear 5 = .ok (.invokestatic 15, 3) := by decide +kernel
theorem d_Po_clear_8 : decode b_Po_clear 8 = .ok (.aload_n 0, 1) := by decide +kernel
theorem d_Po_clear_9 : decode b_Po_clear 9 = .ok (.iconst 0, 1) := by decide +kernel
theorem d_Po_clear_10 : decode b_Po_clear 10 = .ok (.putfield 21, 3) := by decide +kernel
theorem d_Po_clear_13 : decode b_Po_clear 13 = .ok (.return_, 1) := by decide +kernel
theorem d_Po_numberOf_0 : decode b_Po_numberOf 0 = .ok (.iload_n 1, 1) := by decide +kernel
theorem d_Po_numberOf_1 : decode b_Po_numberOf 1 = .ok (.invokestatic 25, 3) := by decide +kernel
theorem d_Po_numberOf_4 : decode b_Po_numberOf 4 = .ok (.istore_n 2, 1) := by decide +kernel
theorem d_Po_numberOf_5 : decode b_Po_numberOf 5 = .ok (.iload_n 2, 1) := by decide +kernel
theorem d_Po_numberOf_6 : decode b_Po_numberOf 6 = .ok (.ifCond .lt 19, 3) := by decide +kernel
theorem d_Po_numberOf_9 : decode b_Po_numberOf 9 = .ok (.iload_n 2, 1) := by decide +kernel
theorem d_Po_numberOf_10 : decode b_Po_numberOf 10 = .ok (.sipush 2325, 3) := by decide +kernel
theorem d_Po_numberOf_13 : decode b_Po_numberOf 13 = .ok (.if_icmp .ge 12, 3) := by decide +kernel
theorem d_Po_numberOf_16 : decode b_Po_numberOf 16 = .ok (.aload_n 0, 1) := by decide +kernel
theorem d_Po_numberOf_17 : decode b_Po_numberOf 17 = .ok (.getfield 11, 3) := by decide +kernel
theorem d_Po_numberOf_20 : decode b_Po_numberOf 20 = .ok (.iload_n 2, 1) := by decide +kernel
theorem d_Po_numberOf_21 : decode b_Po_numberOf 21 = .ok (.iaload, 1) := by decide +kernel
theorem d_Po_numberOf_22 : decode b_Po_numberOf 22 = .ok (.goto 4, 3) := by decide +kernel
theorem d_Po_numberOf_25 : decode b_Po_numberOf 25 = .ok (.iconst 0, 1) := by decide +kernel
theorem d_Po_numberOf_26 : decode b_Po_numberOf 26 = .ok (.ireturn, 1) := by decide +kernel
theorem d_Po_add_0 : decode b_Po_add 0 = .ok (.iload_n 1, 1) := by decide +kernel
theorem d_Po_add_1 : decode b_Po_add 1 = .ok (.invokestatic 25, 3) := by decide +kernel
theorem d_Po_add_4 : decode b_Po_add 4 = .ok (.istore_n 3, 1) := by decide +kernel
theorem d_Po_add_5 : decode b_Po_add 5 = .ok (.iload_n 3, 1) := by decide +kernel
theorem d_Po_add_6 : decode b_Po_add 6 = .ok (.ifCond .lt 10, 3) := by decide +kernel
theorem d_Po_add_9 : decode b_Po_add 9 = .ok (.iload_n 3, 1) := by decide +kernel
theorem d_Po_add_10 : decode b_Po_add 10 = .ok (.sipush 2325, 3) := by decide +kernel
theorem d_Po_add_13 : decode b_Po_add 13 = .ok (.if_icmp .lt 4, 3) := by decide +kernel
theorem d_Po_add_16 : decode b_Po_add 16 = .ok (.return_, 1) := by decide +kernel
theorem d_Po_add_17 : decode b_Po_add 17 = .ok (.aload_n 0, 1) := by decide +kernel
theorem d_Po_add_18 : decode b_Po_add 18 = .ok (.getfield 11, 3) := by decide +kernel
theorem d_Po_add_21 : decode b_Po_add 21 = .ok (.iload_n 3, 1) := by decide +kernel
theorem d_Po_add_22 : decode b_Po_add 22 = .ok (.iaload, 1) := by decide +kernel
theorem d_Po_add_23 : decode b_Po_add 23 = .ok (.istore 4, 2) := by decide +kernel
theorem d_Po_add_25 : decode b_Po_add 25 = .ok (.iload 4, 2) := by decide +kernel
theorem d_Po_add_27 : decode b_Po_add 27 = .ok (.iload_n 2, 1) := by decide +kernel
theorem d_Po_add_28 : decode b_Po_add 28 = .ok (.iadd, 1) := by decide +kernel
theorem d_Po_add_29 : decode b_Po_add 29 = .ok (.bipush 7, 2) := by decide +kernel
theorem d_Po_add_31 : decode b_Po_add 31 = .ok (.iand, 1) := by decide +kernel
theorem d_Po_add_32 : decode b_Po_add 32 = .ok (.istore 5, 2) := by decide +kernel
theorem d_Po_add_34 : decode b_Po_add 34 = .ok (.aload_n 0, 1) := by decide +kernel
theorem d_Po_add_35 : decode b_Po_add 35 = .ok (.getfield 11, 3) := by decide +kernel
theorem d_Po_add_38 : decode b_Po_add 38 = .ok (.iload_n 3, 1) := by decide +kernel
theorem d_Po_add_39 : decode b_Po_add 39 = .ok (.iload 5, 2) := by decide +kernel
theorem d_Po_add_41 : decode b_Po_add 41 = .ok (.iastore, 1) := by decide +kernel
theorem d_Po_add_42 : decode b_Po_add 42 = .ok (.aload_n 0, 1) := by decide +kernel
theorem d_Po_add_43 : decode b_Po_add 43 = .ok (.dup, 1) := by decide +kernel
theorem d_Po_add_44 : decode b_Po_add 44 = .ok (.getfield 21, 3) := by decide +kernel
theorem d_Po_add_47 : decode b_Po_add 47 = .ok (.iload 5, 2) := by decide +kernel
theorem d_Po_add_49 : decode b_Po_add 49 = .ok (.ifCond .ne 7, 3) := by decide +kernel
theorem d_Po_add_52 : decode b_Po_add 52 = .ok (.iconst 0, 1) := by decide +kernel
theorem d_Po_add_53 : decode b_Po_add 53 = .ok (.goto 4, 3) := by decide +kernel
theorem d_Po_add_56 : decode b_Po_add 56 = .ok (.iconst 1, 1) := by decide +kernel
theorem d_Po_add_57 : decode b_Po_add 57 = .ok (.iload 4, 2) := by decide +kernel
theorem d_Po_add_59 : decode b_Po_add 59 = .ok (.ifCond .ne 7, 3) := by decide +kernel
theorem d_Po_add_62 : decode b_Po_add 62 = .ok (.iconst 0, 1) := by decide +kernel
theorem d_Po_add_63 : decode b_Po_add 63 = .ok (.goto 4, 3) := by decide +kernel
theorem d_Po_add_66 : decode b_Po_add 66 = .ok (.iconst 1, 1) := by decide +kernel
theorem d_Po_add_67 : decode b_Po_add 67 = .ok (.isub, 1) := by decide +kernel
theorem d_Po_add_68 : decode b_Po_add 68 = .ok (.iadd, 1) := by decide +kernel
theorem d_Po_add_69 : decode b_Po_add 69 = .ok (.putfield 21, 3) := by decide +kernel
theorem d_Po_add_72 : decode b_Po_add 72 = .ok (.return_, 1) := by decide +kernel
theorem d_Po_addXor_0 : decode b_Po_addXor 0 = .ok (.iload_n 1, 1) := by decide +kernel
theorem d_Po_addXor_1 : decode b_Po_addXor 1 = .ok (.istore 4, 2) := by decide +kernel
theorem d_Po_addXor_3 : decode b_Po_addXor 3 = .ok (.iload_n 2, 1) := by decide +kernel
theorem d_Po_addXor_4 : decode b_Po_addXor 4 = .ok (.bipush 24, 2) := by decide +kernel
theorem d_Po_addXor_6 : decode b_Po_addXor 6 = .ok (.invokestatic 29, 3) := by decide +kernel
theorem d_Po_addXor_9 : decode b_Po_addXor 9 = .ok (.ifCond .eq 13, 3) := by decide +kernel
theorem d_Po_addXor_12 : decode b_Po_addXor 12 = .ok (.aload_n 0, 1) := by decide +kernel
theorem d_Po_addXor_13 : decode b_Po_addXor 13 = .ok (.iload_n 3, 1) := by decide +kernel
theorem d_Po_addXor_14 : decode b_Po_addXor 14 = .ok (.iload_n 1, 1) := by decide +kernel
theorem d_Po_addXor_15 : decode b_Po_addXor 15 = .ok (.invokevirtual 33, 3) := by decide +kernel
theorem d_Po_addXor_18 : decode b_Po_addXor 18 = .ok (.iload_n 1, 1) := by decide +kernel
theorem d_Po_addXor_19 : decode b_Po_addXor 19 = .ok (.ineg, 1) := by decide +kernel
theorem d_Po_addXor_20 : decode b_Po_addXor 20 = .ok (.istore 4, 2) := by decide +kernel
theorem d_Po_addXor_22 : decode b_Po_addXor 22 = .ok (.iconst 0, 1) := by decide +kernel
theorem d_Po_addXor_23 : decode b_Po_addXor 23 = .ok (.istore 5, 2) := by decide +kernel
theorem d_Po_addXor_25 : decode b_Po_addXor 25 = .ok (.iload 5, 2) := by decide +kernel
theorem d_Po_addXor_27 : decode b_Po_addXor 27 = .ok (.bipush 24, 2) := by decide +kernel
theorem d_Po_addXor_29 : decode b_Po_addXor 29 = .ok (.if_icmp .ge 52, 3) := by decide +kernel
theorem d_Po_addXor_32 : decode b_Po_addXor 32 = .ok (.iload_n 2, 1) := by decide +kernel
theorem d_Po_addXor_33 : decode b_Po_addXor 33 = .ok (.iload 5, 2) := by decide +kernel
theorem d_Po_addXor_35 : decode b_Po_addXor 35 = .ok (.invokestatic 29, 3) := by decide +kernel
theorem d_Po_addXor_38 : decode b_Po_addXor 38 = .ok (.ifCond .eq 37, 3) := by decide +kernel
theorem d_Po_addXor_41 : decode b_Po_addXor 41 = .ok (.aload_n 0, 1) := by decide +kernel
theorem d_Po_addXor_42 : decode b_Po_addXor 42 = .ok (.iload_n 3, 1) := by decide +kernel
theorem d_Po_addXor_43 : decode b_Po_addXor 43 = .ok (.iconst 1, 1) := by decide +kernel
theorem d_Po_addXor_44 : decode b_Po_addXor 44 = .ok (.iload 5, 2) := by decide +kernel
theorem d_Po_addXor_46 : decode b_Po_addXor 46 = .ok (.ishl, 1) := by decide +kernel
theorem d_Po_addXor_47 : decode b_Po_addXor 47 = .ok (.ior, 1) := by decide +kernel
theorem d_Po_addXor_48 : decode b_Po_addXor 48 = .ok (.iload 4, 2) := by decide +kernel
theorem d_Po_addXor_50 : decode b_Po_addXor 50 = .ok (.invokevirtual 33, 3) := by decide +kernel
theorem d_Po_addXor_53 : decode b_Po_addXor 53 = .ok (.iload 4, 2) := by decide +kernel
theorem d_Po_addXor_55 : decode b_Po_addXor 55 = .ok (.iconst 3, 1) := by decide +kernel
theorem d_Po_addXor_56 : decode b_Po_addXor 56 = .ok (.iand, 1) := by decide +kernel
theorem d_Po_addXor_57 : decode b_Po_addXor 57 = .ok (.ifCond .eq 18, 3) := by decide +kernel
theorem d_Po_addXor_60 : decode b_Po_addXor 60 = .ok (.aload_n 0, 1) := by decide +kernel
theorem d_Po_addXor_61 : decode b_Po_addXor 61 = .ok (.iload 5, 2) := by decide +kernel
theorem d_Po_addXor_63 : decode b_Po_addXor 63 = .ok (.iload 4, 2) := by decide +kernel
theorem d_Po_addXor_65 : decode b_Po_addXor 65 = .ok (.iload_n 2, 1) := by decide +kernel
theorem d_Po_addXor_66 : decode b_Po_addXor 66 = .ok (.iload_n 3, 1) := by decide +kernel
theorem d_Po_addXor_67 : decode b_Po_addXor 67 = .ok (.iconst 1, 1) := by decide +kernel
theorem d_Po_addXor_68 : decode b_Po_addXor 68 = .ok (.iload 5, 2) := by decide +kernel
theorem d_Po_addXor_70 : decode b_Po_addXor 70 = .ok (.ishl, 1) := by decide +kernel
theorem d_Po_addXor_71 : decode b_Po_addXor 71 = .ok (.ior, 1) := by decide +kernel
theorem d_Po_addXor_72 : decode b_Po_addXor 72 = .ok (.invokevirtual 37, 3) := by decide +kernel
theorem d_Po_addXor_75 : decode b_Po_addXor 75 = .ok (.iinc 5 1, 3) := by decide +kernel
theorem d_Po_addXor_78 : decode b_Po_addXor 78 = .ok (.goto (-53), 3) := by decide +kernel
theorem d_Po_addXor_81 : decode b_Po_addXor 81 = .ok (.return_, 1) := by decide +kernel
theorem d_Po_addPairsBelow_0 : decode b_Po_addPairsBelow 0 = .ok (.iconst 0, 1) := by decide +kernel
theorem d_Po_addPairsBelow_1 : decode b_Po_addPairsBelow 1 = .ok (.istore 5, 2) := by decide +kernel
theorem d_Po_addPairsBelow_3 : decode b_Po_addPairsBelow 3 = .ok (.iload 5, 2) := by decide +kernel
theorem d_Po_addPairsBelow_5 : decode b_Po_addPairsBelow 5 = .ok (.iload_n 1, 1) := by decide +kernel
theorem d_Po_addPairsBelow_6 : decode b_Po_addPairsBelow 6 = .ok (.if_icmp .ge 55, 3) := by decide +kernel
theorem d_Po_addPairsBelow_9 : decode b_Po_addPairsBelow 9 = .ok (.iload_n 3, 1) := by decide +kernel
theorem d_Po_addPairsBelow_10 : decode b_Po_addPairsBelow 10 = .ok (.iload 5, 2) := by decide +kernel
theorem d_Po_addPairsBelow_12 : decode b_Po_addPairsBelow 12 = .ok (.invokestatic 29, 3) := by decide +kernel
theorem d_Po_addPairsBelow_15 : decode b_Po_addPairsBelow 15 = .ok (.ifCond .eq 40, 3) := by decide +kernel
theorem d_Po_addPairsBelow_18 : decode b_Po_addPairsBelow 18 = .ok (.aload_n 0, 1) := by decide +kernel
theorem d_Po_addPairsBelow_19 : decode b_Po_addPairsBelow 19 = .ok (.iload 4, 2) := by decide +kernel
theorem d_Po_addPairsBelow_21 : decode b_Po_addPairsBelow 21 = .ok (.iconst 1, 1) := by decide +kernel
theorem d_Po_addPairsBelow_22 : decode b_Po_addPairsBelow 22 = .ok (.iload 5, 2) := by decide +kernel
theorem d_Po_addPairsBelow_24 : decode b_Po_addPairsBelow 24 = .ok (.ishl, 1) := by decide +kernel
theorem d_Po_addPairsBelow_25 : decode b_Po_addPairsBelow 25 = .ok (.ior, 1) := by decide +kernel
theorem d_Po_addPairsBelow_26 : decode b_Po_addPairsBelow 26 = .ok (.bipush (-2), 2) := by decide +kernel
theorem d_Po_addPairsBelow_28 : decode b_Po_addPairsBelow 28 = .ok (.iload_n 2, 1) := by decide +kernel
theorem d_Po_addPairsBelow_29 : decode b_Po_addPairsBelow 29 = .ok (.imul, 1) := by decide +kernel
theorem d_Po_addPairsBelow_30 : decode b_Po_addPairsBelow 30 = .ok (.invokevirtual 33, 3) := by decide +kernel
theorem d_Po_addPairsBelow_33 : decode b_Po_addPairsBelow 33 = .ok (.iload_n 2, 1) := by decide +kernel
theorem d_Po_addPairsBelow_34 : decode b_Po_addPairsBelow 34 = .ok (.iconst 0, 1) := by decide +kernel
theorem d_Po_addPairsBelow_35 : decode b_Po_addPairsBelow 35 = .ok (.invokestatic 29, 3) := by decide +kernel
theorem d_Po_addPairsBelow_38 : decode b_Po_addPairsBelow 38 = .ok (.ifCond .eq 17, 3) := by decide +kernel
theorem d_Po_addPairsBelow_41 : decode b_Po_addPairsBelow 41 = .ok (.aload_n 0, 1) := by decide +kernel
theorem d_Po_addPairsBelow_42 : decode b_Po_addPairsBelow 42 = .ok (.iload 5, 2) := by decide +kernel
theorem d_Po_addPairsBelow_44 : decode b_Po_addPairsBelow 44 = .ok (.iload_n 3, 1) := by decide +kernel
theorem d_Po_addPairsBelow_45 : decode b_Po_addPairsBelow 45 = .ok (.iload 4, 2) := by decide +kernel
theorem d_Po_addPairsBelow_47 : decode b_Po_addPairsBelow 47 = .ok (.iconst 1, 1) := by decide +kernel
theorem d_Po_addPairsBelow_48 : decode b_Po_addPairsBelow 48 = .ok (.iload 5, 2) := by decide +kernel
theorem d_Po_addPairsBelow_50 : decode b_Po_addPairsBelow 50 = .ok (.ishl, 1) := by decide +kernel
theorem d_Po_addPairsBelow_51 : decode b_Po_addPairsBelow 51 = .ok (.ior, 1) := by decide +kernel
theorem d_Po_addPairsBelow_52 : decode b_Po_addPairsBelow 52 = .ok (.invokevirtual 41, 3) := by decide +kernel
theorem d_Po_addPairsBelow_55 : decode b_Po_addPairsBelow 55 = .ok (.iinc 5 1, 3) := by decide +kernel
theorem d_Po_addPairsBelow_58 : decode b_Po_addPairsBelow 58 = .ok (.goto (-55), 3) := by decide +kernel
theorem d_Po_addPairsBelow_61 : decode b_Po_addPairsBelow 61 = .ok (.return_, 1) := by decide +kernel
theorem d_Po_addTriplesBelow_0 : decode b_Po_addTriplesBelow 0 = .ok (.iconst 0, 1) := by decide +kernel
theorem d_Po_addTriplesBelow_1 : decode b_Po_addTriplesBelow 1 = .ok (.istore 4, 2) := by decide +kernel
theorem d_Po_addTriplesBelow_3 : decode b_Po_addTriplesBelow 3 = .ok (.iload 4, 2) := by decide +kernel
theorem d_Po_addTriplesBelow_5 : decode b_Po_addTriplesBelow 5 = .ok (.iload_n 1, 1) := by decide +kernel
theorem d_Po_addTriplesBelow_6 : decode b_Po_addTriplesBelow 6 = .ok (.if_icmp .ge 29, 3) := by decide +kernel
theorem d_Po_addTriplesBelow_9 : decode b_Po_addTriplesBelow 9 = .ok (.iload_n 2, 1) := by decide +kernel
theorem d_Po_addTriplesBelow_10 : decode b_Po_addTriplesBelow 10 = .ok (.iload 4, 2) := by decide +kernel
theorem d_Po_addTriplesBelow_12 : decode b_Po_addTriplesBelow 12 = .ok (.invokestatic 29, 3) := by decide +kernel
theorem d_Po_addTriplesBelow_15 : decode b_Po_addTriplesBelow 15 = .ok (.ifCond .eq 14, 3) := by decide +kernel
theorem d_Po_addTriplesBelow_18 : decode b_Po_addTriplesBelow 18 = .ok (.aload_n 0, 1) := by decide +kernel
theorem d_Po_addTriplesBelow_19 : decode b_Po_addTriplesBelow 19 = .ok (.iload_n 3, 1) := by decide +kernel
theorem d_Po_addTriplesBelow_20 : decode b_Po_addTriplesBelow 20 = .ok (.iconst 1, 1) := by decide +kernel
theorem d_Po_addTriplesBelow_21 : decode b_Po_addTriplesBelow 21 = .ok (.iload 4, 2) := by decide +kernel
theorem d_Po_addTriplesBelow_23 : decode b_Po_addTriplesBelow 23 = .ok (.ishl, 1) := by decide +kernel
theorem d_Po_addTriplesBelow_24 : decode b_Po_addTriplesBelow 24 = .ok (.ior, 1) := by decide +kernel
theorem d_Po_addTriplesBelow_25 : decode b_Po_addTriplesBelow 25 = .ok (.iconst 4, 1) := by decide +kernel
theorem d_Po_addTriplesBelow_26 : decode b_Po_addTriplesBelow 26 = .ok (.invokevirtual 33, 3) := by decide +kernel
theorem d_Po_addTriplesBelow_29 : decode b_Po_addTriplesBelow 29 = .ok (.iinc 4 1, 3) := by decide +kernel
theorem d_Po_addTriplesBelow_32 : decode b_Po_addTriplesBelow 32 = .ok (.goto (-29), 3) := by decide +kernel
theorem d_Po_addTriplesBelow_35 : decode b_Po_addTriplesBelow 35 = .ok (.return_, 1) := by decide +kernel
theorem d_Po_addFourTimes_0 : decode b_Po_addFourTimes 0 = .ok (.iconst 0, 1) := by decide +kernel
theorem d_Po_addFourTimes_1 : decode b_Po_addFourTimes 1 = .ok (.istore 4, 2) := by decide +kernel
theorem d_Po_addFourTimes_3 : decode b_Po_addFourTimes 3 = .ok (.iload 4, 2) := by decide +kernel
theorem d_Po_addFourTimes_5 : decode b_Po_addFourTimes 5 = .ok (.bipush 24, 2) := by decide +kernel
theorem d_Po_addFourTimes_7 : decode b_Po_addFourTimes 7 = .ok (.if_icmp .gt 96, 3) := by decide +kernel
theorem d_Po_addFourTimes_10 : decode b_Po_addFourTimes 10 = .ok (.iload_n 1, 1) := by decide +kernel
theorem d_Po_addFourTimes_11 : decode b_Po_addFourTimes 11 = .ok (.iload 4, 2) := by decide +kernel
theorem d_Po_addFourTimes_13 : decode b_Po_addFourTimes 13 = .ok (.invokestatic 29, 3) := by decide +kernel
theorem d_Po_addFourTimes_16 : decode b_Po_addFourTimes 16 = .ok (.ifCond .ne 6, 3) := by decide +kernel
theorem d_Po_addFourTimes_19 : decode b_Po_addFourTimes 19 = .ok (.goto 78, 3) := by decide +kernel
theorem d_Po_addFourTimes_22 : decode b_Po_addFourTimes 22 = .ok (.iconst 0, 1) := by decide +kernel
theorem d_Po_addFourTimes_23 : decode b_Po_addFourTimes 23 = .ok (.istore 5, 2) := by decide +kernel
theorem d_Po_addFourTimes_25 : decode b_Po_addFourTimes 25 = .ok (.iload 5, 2) := by decide +kernel
theorem d_Po_addFourTimes_27 : decode b_Po_addFourTimes 27 = .ok (.bipush 24, 2) := by decide +kernel
theorem d_Po_addFourTimes_29 : decode b_Po_addFourTimes 29 = .ok (.if_icmp .gt 68, 3) := by decide +kernel
theorem d_Po_addFourTimes_32 : decode b_Po_addFourTimes 32 = .ok (.iload_n 2, 1) := by decide +kernel
theorem d_Po_addFourTimes_33 : decode b_Po_addFourTimes 33 = .ok (.iload 5, 2) := by decide +kernel
theorem d_Po_addFourTimes_35 : decode b_Po_addFourTimes 35 = .ok (.invokestatic 29, 3) := by decide +kernel
theorem d_Po_addFourTimes_38 : decode b_Po_addFourTimes 38 = .ok (.ifCond .ne 6, 3) := by decide +kernel
theorem d_Po_addFourTimes_41 : decode b_Po_addFourTimes 41 = .ok (.goto 50, 3) := by decide +kernel
theorem d_Po_addFourTimes_44 : decode b_Po_addFourTimes 44 = .ok (.iconst 0, 1) := by decide +kernel
theorem d_Po_addFourTimes_45 : decode b_Po_addFourTimes 45 = .ok (.istore 6, 2) := by decide +kernel
theorem d_Po_addFourTimes_47 : decode b_Po_addFourTimes 47 = .ok (.iload 6, 2) := by decide +kernel
theorem d_Po_addFourTimes_49 : decode b_Po_addFourTimes 49 = .ok (.bipush 24, 2) := by decide +kernel
theorem d_Po_addFourTimes_51 : decode b_Po_addFourTimes 51 = .ok (.if_icmp .gt 40, 3) := by decide +kernel
theorem d_Po_addFourTimes_54 : decode b_Po_addFourTimes 54 = .ok (.iload_n 3, 1) := by decide +kernel
theorem d_Po_addFourTimes_55 : decode b_Po_addFourTimes 55 = .ok (.iload 6, 2) := by decide +kernel
theorem d_Po_addFourTimes_57 : decode b_Po_addFourTimes 57 = .ok (.invokestatic 29, 3) := by decide +kernel
theorem d_Po_addFourTimes_60 : decode b_Po_addFourTimes 60 = .ok (.ifCond .eq 25, 3) := by decide +kernel
theorem d_Po_addFourTimes_63 : decode b_Po_addFourTimes 63 = .ok (.aload_n 0, 1) := by decide +kernel
theorem d_Po_addFourTimes_64 : decode b_Po_addFourTimes 64 = .ok (.iconst 1, 1) := by decide +kernel
theorem d_Po_addFourTimes_65 : decode b_Po_addFourTimes 65 = .ok (.iload 4, 2) := by decide +kernel
theorem d_Po_addFourTimes_67 : decode b_Po_addFourTimes 67 = .ok (.ishl, 1) := by decide +kernel
theorem d_Po_addFourTimes_68 : decode b_Po_addFourTimes 68 = .ok (.iconst 1, 1) := by decide +kernel
theorem d_Po_addFourTimes_69 : decode b_Po_addFourTimes 69 = .ok (.iload 5, 2) := by decide +kernel
theorem d_Po_addFourTimes_71 : decode b_Po_addFourTimes 71 = .ok (.ishl, 1) := by decide +kernel
theorem d_Po_addFourTimes_72 : decode b_Po_addFourTimes 72 = .ok (.ior, 1) := by decide +kernel
theorem d_Po_addFourTimes_73 : decode b_Po_addFourTimes 73 = .ok (.iconst 1, 1) := by decide +kernel
theorem d_Po_addFourTimes_74 : decode b_Po_addFourTimes 74 = .ok (.iload 6, 2) := by decide +kernel
theorem d_Po_addFourTimes_76 : decode b_Po_addFourTimes 76 = .ok (.ishl, 1) := by decide +kernel
theorem d_Po_addFourTimes_77 : decode b_Po_addFourTimes 77 = .ok (.ior, 1) := by decide +kernel
theorem d_Po_addFourTimes_78 : decode b_Po_addFourTimes 78 = .ok (.ldc 45, 2) := by decide +kernel
theorem d_Po_addFourTimes_80 : decode b_Po_addFourTimes 80 = .ok (.iand, 1) := by decide +kernel
theorem d_Po_addFourTimes_81 : decode b_Po_addFourTimes 81 = .ok (.iconst 4, 1) := by decide +kernel
theorem d_Po_addFourTimes_82 : decode b_Po_addFourTimes 82 = .ok (.invokevirtual 33, 3) := by decide +kernel
theorem d_Po_addFourTimes_85 : decode b_Po_addFourTimes 85 = .ok (.iinc 6 1, 3) := by decide +kernel
theorem d_Po_addFourTimes_88 : decode b_Po_addFourTimes 88 = .ok (.goto (-41), 3) := by decide +kernel
theorem d_Po_addFourTimes_91 : decode b_Po_addFourTimes 91 = .ok (.iinc 5 1, 3) := by decide +kernel
theorem d_Po_addFourTimes_94 : decode b_Po_addFourTimes 94 = .ok (.goto (-69), 3) := by decide +kernel
theorem d_Po_addFourTimes_97 : decode b_Po_addFourTimes 97 = .ok (.iinc 4 1, 3) := by decide +kernel
theorem d_Po_addFourTimes_100 : decode b_Po_addFourTimes 100 = .ok (.goto (-97), 3) := by decide +kernel
theorem d_Po_addFourTimes_103 : decode b_Po_addFourTimes 103 = .ok (.return_, 1) := by decide +kernel
theorem d_Po_replaceBit_0 : decode b_Po_replaceBit 0 = .ok (.iconst 0, 1) := by decide +kernel
theorem d_Po_replaceBit_1 : decode b_Po_replaceBit 1 = .ok (.istore_n 3, 1) := by decide +kernel
theorem d_Po_replaceBit_2 : decode b_Po_replaceBit 2 = .ok (.iload_n 3, 1) := by decide +kernel
theorem d_Po_replaceBit_3 : decode b_Po_replaceBit 3 = .ok (.bipush 24, 2) := by decide +kernel
theorem d_Po_replaceBit_5 : decode b_Po_replaceBit 5 = .ok (.if_icmp .ge 75, 3) := by decide +kernel
theorem d_Po_replaceBit_8 : decode b_Po_replaceBit 8 = .ok (.iconst 0, 1) := by decide +kernel
theorem d_Po_replaceBit_9 : decode b_Po_replaceBit 9 = .ok (.istore 4, 2) := by decide +kernel
theorem d_Po_replaceBit_11 : decode b_Po_replaceBit 11 = .ok (.iload 4, 2) := by decide +kernel
theorem d_Po_replaceBit_13 : decode b_Po_replaceBit 13 = .ok (.iload_n 3, 1) := by decide +kernel
theorem d_Po_replaceBit_14 : decode b_Po_replaceBit 14 = .ok (.if_icmp .gt 60, 3) := by decide +kernel
theorem d_Po_replaceBit_17 : decode b_Po_replaceBit 17 = .ok (.iconst 1, 1) := by decide +kernel
theorem d_Po_replaceBit_18 : decode b_Po_replaceBit 18 = .ok (.iload_n 1, 1) := by decide +kernel
theorem d_Po_replaceBit_19 : decode b_Po_replaceBit 19 = .ok (.ishl, 1) := by decide +kernel
theorem d_Po_replaceBit_20 : decode b_Po_replaceBit 20 = .ok (.iconst 1, 1) := by decide +kernel
theorem d_Po_replaceBit_21 : decode b_Po_replaceBit 21 = .ok (.iload_n 3, 1) := by decide +kernel
theorem d_Po_replaceBit_22 : decode b_Po_replaceBit 22 = .ok (.ishl, 1) := by decide +kernel
theorem d_Po_replaceBit_23 : decode b_Po_replaceBit 23 = .ok (.ior, 1) := by decide +kernel
theorem d_Po_replaceBit_24 : decode b_Po_replaceBit 24 = .ok (.iconst 1, 1) := by decide +kernel
theorem d_Po_replaceBit_25 : decode b_Po_replaceBit 25 = .ok (.iload 4, 2) := by decide +kernel
theorem d_Po_replaceBit_27 : decode b_Po_replaceBit 27 = .ok (.ishl, 1) := by decide +kernel
theorem d_Po_replaceBit_28 : decode b_Po_replaceBit 28 = .ok (.ior, 1) := by decide +kernel
theorem d_Po_replaceBit_29 : decode b_Po_replaceBit 29 = .ok (.istore 5, 2) := by decide +kernel
theorem d_Po_replaceBit_31 : decode b_Po_replaceBit 31 = .ok (.aload_n 0, 1) := by decide +kernel
theorem d_Po_replaceBit_32 : decode b_Po_replaceBit 32 = .ok (.iload 5, 2) := by decide +kernel
theorem d_Po_replaceBit_34 : decode b_Po_replaceBit 34 = .ok (.invokevirtual 46, 3) := by decide +kernel
theorem d_Po_replaceBit_37 : decode b_Po_replaceBit 37 = .ok (.istore 6, 2) := by decide +kernel
theorem d_Po_replaceBit_39 : decode b_Po_replaceBit 39 = .ok (.iload 6, 2) := by decide +kernel
theorem d_Po_replaceBit_41 : decode b_Po_replaceBit 41 = .ok (.ifCond .eq 27, 3) := by decide +kernel
theorem d_Po_replaceBit_44 : decode b_Po_replaceBit 44 = .ok (.aload_n 0, 1) := by decide +kernel
theorem d_Po_replaceBit_45 : decode b_Po_replaceBit 45 = .ok (.iload 5, 2) := by decide +kernel
theorem d_Po_replaceBit_47 : decode b_Po_replaceBit 47 = .ok (.iload 6, 2) := by decide +kernel
theorem d_Po_replaceBit_49 : decode b_Po_replaceBit 49 = .ok (.ineg, 1) := by decide +kernel
theorem d_Po_replaceBit_50 : decode b_Po_replaceBit 50 = .ok (.invokevirtual 33, 3) := by decide +kernel
theorem d_Po_replaceBit_53 : decode b_Po_replaceBit 53 = .ok (.aload_n 0, 1) := by decide +kernel
theorem d_Po_replaceBit_54 : decode b_Po_replaceBit 54 = .ok (.iload 6, 2) := by decide +kernel
theorem d_Po_replaceBit_56 : decode b_Po_replaceBit 56 = .ok (.iload_n 2, 1) := by decide +kernel
theorem d_Po_replaceBit_57 : decode b_Po_replaceBit 57 = .ok (.iload 5, 2) := by decide +kernel
theorem d_Po_replaceBit_59 : decode b_Po_replaceBit 59 = .ok (.iconst 1, 1) := by decide +kernel
theorem d_Po_replaceBit_60 : decode b_Po_replaceBit 60 = .ok (.iload_n 1, 1) := by decide +kernel
theorem d_Po_replaceBit_61 : decode b_Po_replaceBit 61 = .ok (.ishl, 1) := by decide +kernel
theorem d_Po_replaceBit_62 : decode b_Po_replaceBit 62 = .ok (.iconst (-1), 1) := by decide +kernel
theorem d_Po_replaceBit_63 : decode b_Po_replaceBit 63 = .ok (.ixor, 1) := by decide +kernel
theorem d_Po_replaceBit_64 : decode b_Po_replaceBit 64 = .ok (.iand, 1) := by decide +kernel
theorem d_Po_replaceBit_65 : decode b_Po_replaceBit 65 = .ok (.invokevirtual 49, 3) := by decide +kernel
theorem d_Po_replaceBit_68 : decode b_Po_replaceBit 68 = .ok (.iinc 4 1, 3) := by decide +kernel
theorem d_Po_replaceBit_71 : decode b_Po_replaceBit 71 = .ok (.goto (-60), 3) := by decide +kernel
theorem d_Po_replaceBit_74 : decode b_Po_replaceBit 74 = .ok (.iinc 3 1, 3) := by decide +kernel
theorem d_Po_replaceBit_77 : decode b_Po_replaceBit 77 = .ok (.goto (-75), 3) := by decide +kernel
theorem d_Po_replaceBit_80 : decode b_Po_replaceBit 80 = .ok (.return_, 1) := by decide +kernel
theorem d_Po_partnersOf_0 : decode b_Po_partnersOf 0 = .ok (.iconst 0, 1) := by decide +kernel
theorem d_Po_partnersOf_1 : decode b_Po_partnersOf 1 = .ok (.istore_n 2, 1) := by decide +kernel
theorem d_Po_partnersOf_2 : decode b_Po_partnersOf 2 = .ok (.iconst 0, 1) := by decide +kernel
theorem d_Po_partnersOf_3 : decode b_Po_partnersOf 3 = .ok (.istore_n 3, 1) := by decide +kernel
theorem d_Po_partnersOf_4 : decode b_Po_partnersOf 4 = .ok (.iload_n 3, 1) := by decide +kernel
theorem d_Po_partnersOf_5 : decode b_Po_partnersOf 5 = .ok (.bipush 24, 2) := by decide +kernel
theorem d_Po_partnersOf_7 : decode b_Po_partnersOf 7 = .ok (.if_icmp .ge 100, 3) := by decide +kernel
theorem d_Po_partnersOf_10 : decode b_Po_partnersOf 10 = .ok (.iconst 0, 1) := by decide +kernel
theorem d_Po_partnersOf_11 : decode b_Po_partnersOf 11 = .ok (.istore 4, 2) := by decide +kernel
theorem d_Po_partnersOf_13 : decode b_Po_partnersOf 13 = .ok (.iload 4, 2) := by decide +kernel
theorem d_Po_partnersOf_15 : decode b_Po_partnersOf 15 = .ok (.iload_n 3, 1) := by decide +kernel
theorem d_Po_partnersOf_16 : decode b_Po_partnersOf 16 = .ok (.if_icmp .gt 85, 3) := by decide +kernel
theorem d_Po_partnersOf_19 : decode b_Po_partnersOf 19 = .ok (.iconst 1, 1) := by decide +kernel
theorem d_Po_partnersOf_20 : decode b_Po_partnersOf 20 = .ok (.iload_n 1, 1) := by decide +kernel
theorem d_Po_partnersOf_21 : decode b_Po_partnersOf 21 = .ok (.ishl, 1) := by decide +kernel
theorem d_Po_partnersOf_22 : decode b_Po_partnersOf 22 = .ok (.iconst 1, 1) := by decide +kernel
theorem d_Po_partnersOf_23 : decode b_Po_partnersOf 23 = .ok (.iload_n 3, 1) := by decide +kernel
theorem d_Po_partnersOf_24 : decode b_Po_partnersOf 24 = .ok (.ishl, 1) := by decide +kernel
theorem d_Po_partnersOf_25 : decode b_Po_partnersOf 25 = .ok (.ior, 1) := by decide +kernel
theorem d_Po_partnersOf_26 : decode b_Po_partnersOf 26 = .ok (.iconst 1, 1) := by decide +kernel
theorem d_Po_partnersOf_27 : decode b_Po_partnersOf 27 = .ok (.iload 4, 2) := by decide +kernel
theorem d_Po_partnersOf_29 : decode b_Po_partnersOf 29 = .ok (.ishl, 1) := by decide +kernel
theorem d_Po_partnersOf_30 : decode b_Po_partnersOf 30 = .ok (.ior, 1) := by decide +kernel
theorem d_Po_partnersOf_31 : decode b_Po_partnersOf 31 = .ok (.istore 5, 2) := by decide +kernel
theorem d_Po_partnersOf_33 : decode b_Po_partnersOf 33 = .ok (.iload 5, 2) := by decide +kernel
theorem d_Po_partnersOf_35 : decode b_Po_partnersOf 35 = .ok (.iconst 1, 1) := by decide +kernel
theorem d_Po_partnersOf_36 : decode b_Po_partnersOf 36 = .ok (.iload_n 1, 1) := by decide +kernel
theorem d_Po_partnersOf_37 : decode b_Po_partnersOf 37 = .ok (.ishl, 1) := by decide +kernel
theorem d_Po_partnersOf_38 : decode b_Po_partnersOf 38 = .ok (.if_icmp .ne 7, 3) := by decide +kernel
theorem d_Po_partnersOf_41 : decode b_Po_partnersOf 41 = .ok (.iconst 0, 1) := by decide +kernel
theorem d_Po_partnersOf_42 : decode b_Po_partnersOf 42 = .ok (.goto 9, 3) := by decide +kernel
theorem d_Po_partnersOf_45 : decode b_Po_partnersOf 45 = .ok (.aload_n 0, 1) := by decide +kernel
theorem d_Po_partnersOf_46 : decode b_Po_partnersOf 46 = .ok (.iload 5, 2) := by decide +kernel
theorem d_Po_partnersOf_48 : decode b_Po_partnersOf 48 = .ok (.invokevirtual 46, 3) := by decide +kernel
theorem d_Po_partnersOf_51 : decode b_Po_partnersOf 51 = .ok (.istore 6, 2) := by decide +kernel
theorem d_Po_partnersOf_53 : decode b_Po_partnersOf 53 = .ok (.iload 6, 2) := by decide +kernel
theorem d_Po_partnersOf_55 : decode b_Po_partnersOf 55 = .ok (.ifCond .eq 20, 3) := by decide +kernel
theorem d_Po_partnersOf_58 : decode b_Po_partnersOf 58 = .ok (.iload 6, 2) := by decide +kernel
theorem d_Po_partnersOf_60 : decode b_Po_partnersOf 60 = .ok (.iconst 4, 1) := by decide +kernel
theorem d_Po_partnersOf_61 : decode b_Po_partnersOf 61 = .ok (.if_icmp .ne 12, 3) := by decide +kernel
theorem d_Po_partnersOf_64 : decode b_Po_partnersOf 64 = .ok (.iload 5, 2) := by decide +kernel
theorem d_Po_partnersOf_66 : decode b_Po_partnersOf 66 = .ok (.invokestatic 52, 3) := by decide +kernel
theorem d_Po_partnersOf_69 : decode b_Po_partnersOf 69 = .ok (.iconst 2, 1) := by decide +kernel
theorem d_Po_partnersOf_70 : decode b_Po_partnersOf 70 = .ok (.if_icmp .le 5, 3) := by decide +kernel
theorem d_Po_partnersOf_73 : decode b_Po_partnersOf 73 = .ok (.iconst (-1), 1) := by decide +kernel
theorem d_Po_partnersOf_74 : decode b_Po_partnersOf 74 = .ok (.ireturn, 1) := by decide +kernel
theorem d_Po_partnersOf_75 : decode b_Po_partnersOf 75 = .ok (.iload_n 2, 1) := by decide +kernel
theorem d_Po_partnersOf_76 : decode b_Po_partnersOf 76 = .ok (.iload 6, 2) := by decide +kernel
theorem d_Po_partnersOf_78 : decode b_Po_partnersOf 78 = .ok (.ifCond .ne 7, 3) := by decide +kernel
theorem d_Po_partnersOf_81 : decode b_Po_partnersOf 81 = .ok (.iconst 0, 1) := by decide +kernel
theorem d_Po_partnersOf_82 : decode b_Po_partnersOf 82 = .ok (.goto 11, 3) := by decide +kernel
theorem d_Po_partnersOf_85 : decode b_Po_partnersOf 85 = .ok (.iload 5, 2) := by decide +kernel
theorem d_Po_partnersOf_87 : decode b_Po_partnersOf 87 = .ok (.iconst 1, 1) := by decide +kernel
theorem d_Po_partnersOf_88 : decode b_Po_partnersOf 88 = .ok (.iload_n 1, 1) := by decide +kernel
theorem d_Po_partnersOf_89 : decode b_Po_partnersOf 89 = .ok (.ishl, 1) := by decide +kernel
theorem d_Po_partnersOf_90 : decode b_Po_partnersOf 90 = .ok (.iconst (-1), 1) := by decide +kernel
theorem d_Po_partnersOf_91 : decode b_Po_partnersOf 91 = .ok (.ixor, 1) := by decide +kernel
theorem d_Po_partnersOf_92 : decode b_Po_partnersOf 92 = .ok (.iand, 1) := by decide +kernel
theorem d_Po_partnersOf_93 : decode b_Po_partnersOf 93 = .ok (.ior, 1) := by decide +kernel
theorem d_Po_partnersOf_94 : decode b_Po_partnersOf 94 = .ok (.istore_n 2, 1) := by decide +kernel
theorem d_Po_partnersOf_95 : decode b_Po_partnersOf 95 = .ok (.iinc 4 1, 3) := by decide +kernel
theorem d_Po_partnersOf_98 : decode b_Po_partnersOf 98 = .ok (.goto (-85), 3) := by decide +kernel
theorem d_Po_partnersOf_101 : decode b_Po_partnersOf 101 = .ok (.iinc 3 1, 3) := by decide +kernel
theorem d_Po_partnersOf_104 : decode b_Po_partnersOf 104 = .ok (.goto (-100), 3) := by decide +kernel
theorem d_Po_partnersOf_107 : decode b_Po_partnersOf 107 = .ok (.iload_n 2, 1) := by decide +kernel
theorem d_Po_partnersOf_108 : decode b_Po_partnersOf 108 = .ok (.ireturn, 1) := by decide +kernel
theorem d_Po_placeOf_0 : decode b_Po_placeOf 0 = .ok (.iload_n 0, 1) := by decide +kernel
theorem d_Po_placeOf_1 : decode b_Po_placeOf 1 = .ok (.iload_n 0, 1) := by decide +kernel
theorem d_Po_placeOf_2 : decode b_Po_placeOf 2 = .ok (.ineg, 1) := by decide +kernel
theorem d_Po_placeOf_3 : decode b_Po_placeOf 3 = .ok (.iand, 1) := by decide +kernel
theorem d_Po_placeOf_4 : decode b_Po_placeOf 4 = .ok (.istore_n 1, 1) := by decide +kernel
theorem d_Po_placeOf_5 : decode b_Po_placeOf 5 = .ok (.iload_n 0, 1) := by decide +kernel
theorem d_Po_placeOf_6 : decode b_Po_placeOf 6 = .ok (.iload_n 1, 1) := by decide +kernel
theorem d_Po_placeOf_7 : decode b_Po_placeOf 7 = .ok (.iconst (-1), 1) := by decide +kernel
theorem d_Po_placeOf_8 : decode b_Po_placeOf 8 = .ok (.ixor, 1) := by decide +kernel
theorem d_Po_placeOf_9 : decode b_Po_placeOf 9 = .ok (.iand, 1) := by decide +kernel
theorem d_Po_placeOf_10 : decode b_Po_placeOf 10 = .ok (.iload_n 0, 1) := by decide +kernel
theorem d_Po_placeOf_11 : decode b_Po_placeOf 11 = .ok (.iload_n 1, 1) := by decide +kernel
theorem d_Po_placeOf_12 : decode b_Po_placeOf 12 = .ok (.iconst (-1), 1) := by decide +kernel
theorem d_Po_placeOf_13 : decode b_Po_placeOf 13 = .ok (.ixor, 1) := by decide +kernel
theorem d_Po_placeOf_14 : decode b_Po_placeOf 14 = .ok (.iand, 1) := by decide +kernel
theorem d_Po_placeOf_15 : decode b_Po_placeOf 15 = .ok (.ineg, 1) := by decide +kernel
theorem d_Po_placeOf_16 : decode b_Po_placeOf 16 = .ok (.iand, 1) := by decide +kernel
theorem d_Po_placeOf_17 : decode b_Po_placeOf 17 = .ok (.istore_n 2, 1) := by decide +kernel
theorem d_Po_placeOf_18 : decode b_Po_placeOf 18 = .ok (.iload_n 0, 1) := by decide +kernel
theorem d_Po_placeOf_19 : decode b_Po_placeOf 19 = .ok (.iload_n 1, 1) := by decide +kernel
theorem d_Po_placeOf_20 : decode b_Po_placeOf 20 = .ok (.iconst (-1), 1) := by decide +kernel
theorem d_Po_placeOf_21 : decode b_Po_placeOf 21 = .ok (.ixor, 1) := by decide +kernel
theorem d_Po_placeOf_22 : decode b_Po_placeOf 22 = .ok (.iand, 1) := by decide +kernel
theorem d_Po_placeOf_23 : decode b_Po_placeOf 23 = .ok (.iload_n 2, 1) := by decide +kernel
theorem d_Po_placeOf_24 : decode b_Po_placeOf 24 = .ok (.iconst (-1), 1) := by decide +kernel
theorem d_Po_placeOf_25 : decode b_Po_placeOf 25 = .ok (.ixor, 1) := by decide +kernel
theorem d_Po_placeOf_26 : decode b_Po_placeOf 26 = .ok (.iand, 1) := by decide +kernel
theorem d_Po_placeOf_27 : decode b_Po_placeOf 27 = .ok (.istore_n 3, 1) := by decide +kernel
theorem d_Po_placeOf_28 : decode b_Po_placeOf 28 = .ok (.iload_n 0, 1) := by decide +kernel
theorem d_Po_placeOf_29 : decode b_Po_placeOf 29 = .ok (.ifCond .lt 17, 3) := by decide +kernel
theorem d_Po_placeOf_32 : decode b_Po_placeOf 32 = .ok (.iload_n 0, 1) := by decide +kernel
theorem d_Po_placeOf_33 : decode b_Po_placeOf 33 = .ok (.ldc 45, 2) := by decide +kernel
theorem d_Po_placeOf_35 : decode b_Po_placeOf 35 = .ok (.if_icmp .gt 11, 3) := by decide +kernel
theorem d_Po_placeOf_38 : decode b_Po_placeOf 38 = .ok (.iload_n 3, 1) := by decide +kernel
theorem d_Po_placeOf_39 : decode b_Po_placeOf 39 = .ok (.iload_n 3, 1) := by decide +kernel
theorem d_Po_placeOf_40 : decode b_Po_placeOf 40 = .ok (.iconst 1, 1) := by decide +kernel
theorem d_Po_placeOf_41 : decode b_Po_placeOf 41 = .ok (.isub, 1) := by decide +kernel
theorem d_Po_placeOf_42 : decode b_Po_placeOf 42 = .ok (.iand, 1) := by decide +kernel
theorem d_Po_placeOf_43 : decode b_Po_placeOf 43 = .ok (.ifCond .eq 5, 3) := by decide +kernel
theorem d_Po_placeOf_46 : decode b_Po_placeOf 46 = .ok (.iconst (-1), 1) := by decide +kernel
theorem d_Po_placeOf_47 : decode b_Po_placeOf 47 = .ok (.ireturn, 1) := by decide +kernel
theorem d_Po_placeOf_48 : decode b_Po_placeOf 48 = .ok (.iload_n 0, 1) := by decide +kernel
theorem d_Po_placeOf_49 : decode b_Po_placeOf 49 = .ok (.ifCond .ne 5, 3) := by decide +kernel
theorem d_Po_placeOf_52 : decode b_Po_placeOf 52 = .ok (.iconst 0, 1) := by decide +kernel
theorem d_Po_placeOf_53 : decode b_Po_placeOf 53 = .ok (.ireturn, 1) := by decide +kernel
theorem d_Po_placeOf_54 : decode b_Po_placeOf 54 = .ok (.iload_n 1, 1) := by decide +kernel
theorem d_Po_placeOf_55 : decode b_Po_placeOf 55 = .ok (.iconst 1, 1) := by decide +kernel
theorem d_Po_placeOf_56 : decode b_Po_placeOf 56 = .ok (.isub, 1) := by decide +kernel
theorem d_Po_placeOf_57 : decode b_Po_placeOf 57 = .ok (.invokestatic 52, 3) := by decide +kernel
theorem d_Po_placeOf_60 : decode b_Po_placeOf 60 = .ok (.istore 4, 2) := by decide +kernel
theorem d_Po_placeOf_62 : decode b_Po_placeOf 62 = .ok (.iload_n 2, 1) := by decide +kernel
theorem d_Po_placeOf_63 : decode b_Po_placeOf 63 = .ok (.ifCond .ne 8, 3) := by decide +kernel
theorem d_Po_placeOf_66 : decode b_Po_placeOf 66 = .ok (.iconst 1, 1) := by decide +kernel
theorem d_Po_placeOf_67 : decode b_Po_placeOf 67 = .ok (.iload 4, 2) := by decide +kernel
theorem d_Po_placeOf_69 : decode b_Po_placeOf 69 = .ok (.iadd, 1) := by decide +kernel
theorem d_Po_placeOf_70 : decode b_Po_placeOf 70 = .ok (.ireturn, 1) := by decide +kernel
theorem d_Po_placeOf_71 : decode b_Po_placeOf 71 = .ok (.iload_n 2, 1) := by decide +kernel
theorem d_Po_placeOf_72 : decode b_Po_placeOf 72 = .ok (.iconst 1, 1) := by decide +kernel
theorem d_Po_placeOf_73 : decode b_Po_placeOf 73 = .ok (.isub, 1) := by decide +kernel
theorem d_Po_placeOf_74 : decode b_Po_placeOf 74 = .ok (.invokestatic 52, 3) := by decide +kernel
theorem d_Po_placeOf_77 : decode b_Po_placeOf 77 = .ok (.istore 5, 2) := by decide +kernel
theorem d_Po_placeOf_79 : decode b_Po_placeOf 79 = .ok (.iload 5, 2) := by decide +kernel
theorem d_Po_placeOf_81 : decode b_Po_placeOf 81 = .ok (.iload 5, 2) := by decide +kernel
theorem d_Po_placeOf_83 : decode b_Po_placeOf 83 = .ok (.iconst 1, 1) := by decide +kernel
theorem d_Po_placeOf_84 : decode b_Po_placeOf 84 = .ok (.isub, 1) := by decide +kernel
theorem d_Po_placeOf_85 : decode b_Po_placeOf 85 = .ok (.imul, 1) := by decide +kernel
theorem d_Po_placeOf_86 : decode b_Po_placeOf 86 = .ok (.iconst 2, 1) := by decide +kernel
theorem d_Po_placeOf_87 : decode b_Po_placeOf 87 = .ok (.idiv, 1) := by decide +kernel
theorem d_Po_placeOf_88 : decode b_Po_placeOf 88 = .ok (.iload 4, 2) := by decide +kernel
theorem d_Po_placeOf_90 : decode b_Po_placeOf 90 = .ok (.iadd, 1) := by decide +kernel
theorem d_Po_placeOf_91 : decode b_Po_placeOf 91 = .ok (.istore 6, 2) := by decide +kernel
theorem d_Po_placeOf_93 : decode b_Po_placeOf 93 = .ok (.iload_n 3, 1) := by decide +kernel
theorem d_Po_placeOf_94 : decode b_Po_placeOf 94 = .ok (.ifCond .ne 9, 3) := by decide +kernel
theorem d_Po_placeOf_97 : decode b_Po_placeOf 97 = .ok (.bipush 25, 2) := by decide +kernel
theorem d_Po_placeOf_99 : decode b_Po_placeOf 99 = .ok (.iload 6, 2) := by decide +kernel
theorem d_Po_placeOf_101 : decode b_Po_placeOf 101 = .ok (.iadd, 1) := by decide +kernel
theorem d_Po_placeOf_102 : decode b_Po_placeOf 102 = .ok (.ireturn, 1) := by decide +kernel
theorem d_Po_placeOf_103 : decode b_Po_placeOf 103 = .ok (.iload_n 3, 1) := by decide +kernel
theorem d_Po_placeOf_104 : decode b_Po_placeOf 104 = .ok (.iconst 1, 1) := by decide +kernel
theorem d_Po_placeOf_105 : decode b_Po_placeOf 105 = .ok (.isub, 1) := by decide +kernel
theorem d_Po_placeOf_106 : decode b_Po_placeOf 106 = .ok (.invokestatic 52, 3) := by decide +kernel
theorem d_Po_placeOf_109 : decode b_Po_placeOf 109 = .ok (.istore 7, 2) := by decide +kernel
theorem d_Po_placeOf_111 : decode b_Po_placeOf 111 = .ok (.sipush 301, 3) := by decide +kernel
theorem d_Po_placeOf_114 : decode b_Po_placeOf 114 = .ok (.iload 7, 2) := by decide +kernel
theorem d_Po_placeOf_116 : decode b_Po_placeOf 116 = .ok (.iload 7, 2) := by decide +kernel
theorem d_Po_placeOf_118 : decode b_Po_placeOf 118 = .ok (.iconst 1, 1) := by decide +kernel
theorem d_Po_placeOf_119 : decode b_Po_placeOf 119 = .ok (.isub, 1) := by decide +kernel
theorem d_Po_placeOf_120 : decode b_Po_placeOf 120 = .ok (.imul, 1) := by decide +kernel
theorem d_Po_placeOf_121 : decode b_Po_placeOf 121 = .ok (.iload 7, 2) := by decide +kernel
theorem d_Po_placeOf_123 : decode b_Po_placeOf 123 = .ok (.iconst 2, 1) := by decide +kernel
theorem d_Po_placeOf_124 : decode b_Po_placeOf 124 = .ok (.isub, 1) := by decide +kernel
theorem d_Po_placeOf_125 : decode b_Po_placeOf 125 = .ok (.imul, 1) := by decide +kernel
theorem d_Po_placeOf_126 : decode b_Po_placeOf 126 = .ok (.bipush 6, 2) := by decide +kernel
theorem d_Po_placeOf_128 : decode b_Po_placeOf 128 = .ok (.idiv, 1) := by decide +kernel
theorem d_Po_placeOf_129 : decode b_Po_placeOf 129 = .ok (.iadd, 1) := by decide +kernel
theorem d_Po_placeOf_130 : decode b_Po_placeOf 130 = .ok (.iload 6, 2) := by decide +kernel
theorem d_Po_placeOf_132 : decode b_Po_placeOf 132 = .ok (.iadd, 1) := by decide +kernel
theorem d_Po_placeOf_133 : decode b_Po_placeOf 133 = .ok (.ireturn, 1) := by decide +kernel
theorem d_Dr_init_0 : decode b_Dr_init 0 = .ok (.aload_n 0, 1) := by decide +kernel
theorem d_Dr_init_1 : decode b_Dr_init 1 = .ok (.invokespecial 3, 3) := by decide +kernel
theorem d_Dr_init_4 : decode b_Dr_init 4 = .ok (.aload_n 0, 1) := by decide +kernel
theorem d_Dr_init_5 : decode b_Dr_init 5 = .ok (.bipush 24, 2) := by decide +kernel
theorem d_Dr_init_7 : decode b_Dr_init 7 = .ok (.newarray .int, 2) := by decide +kernel
theorem d_Dr_init_9 : decode b_Dr_init 9 = .ok (.putfield 9, 3) := by decide +kernel
theorem d_Dr_init_12 : decode b_Dr_init 12 = .ok (.aload_n 0, 1) := by decide +kernel
theorem d_Dr_init_13 : decode b_Dr_init 13 = .ok (.bipush 24, 2) := by decide +kernel
theorem d_Dr_init_15 : decode b_Dr_init 15 = .ok (.newarray .int, 2) := by decide +kernel
theorem d_Dr_init_17 : decode b_Dr_init 17 = .ok (.putfield 15, 3) := by decide +kernel
theorem d_Dr_init_20 : decode b_Dr_init 20 = .ok (.aload_n 0, 1) := by decide +kernel
theorem d_Dr_init_21 : decode b_Dr_init 21 = .ok (.bipush 24, 2) := by decide +kernel
theorem d_Dr_init_23 : decode b_Dr_init 23 = .ok (.newarray .int, 2) := by decide +kernel
theorem d_Dr_init_25 : decode b_Dr_init 25 = .ok (.putfield 18, 3) := by decide +kernel
theorem d_Dr_init_28 : decode b_Dr_init 28 = .ok (.return_, 1) := by decide +kernel
theorem d_Dr_keep_0 : decode b_Dr_keep 0 = .ok (.aload_n 0, 1) := by decide +kernel
theorem d_Dr_keep_1 : decode b_Dr_keep 1 = .ok (.getfield 21, 3) := by decide +kernel
theorem d_Dr_keep_4 : decode b_Dr_keep 4 = .ok (.ifCond .lt 12, 3) := by decide +kernel
theorem d_Dr_keep_7 : decode b_Dr_keep 7 = .ok (.aload_n 0, 1) := by decide +kernel
theorem d_Dr_keep_8 : decode b_Dr_keep 8 = .ok (.getfield 21, 3) := by decide +kernel
theorem d_Dr_keep_11 : decode b_Dr_keep 11 = .ok (.bipush 24, 2) := by decide +kernel
theorem d_Dr_keep_13 : decode b_Dr_keep 13 = .ok (.if_icmp .lt 4, 3) := by decide +kernel
theorem d_Dr_keep_16 : decode b_Dr_keep 16 = .ok (.return_, 1) := by decide +kernel
theorem d_Dr_keep_17 : decode b_Dr_keep 17 = .ok (.aload_n 0, 1) := by decide +kernel
theorem d_Dr_keep_18 : decode b_Dr_keep 18 = .ok (.getfield 9, 3) := by decide +kernel
theorem d_Dr_keep_21 : decode b_Dr_keep 21 = .ok (.aload_n 0, 1) := by decide +kernel
theorem d_Dr_keep_22 : decode b_Dr_keep 22 = .ok (.getfield 21, 3) := by decide +kernel
theorem d_Dr_keep_25 : decode b_Dr_keep 25 = .ok (.iload_n 1, 1) := by decide +kernel
theorem d_Dr_keep_26 : decode b_Dr_keep 26 = .ok (.iastore, 1) := by decide +kernel
theorem d_Dr_keep_27 : decode b_Dr_keep 27 = .ok (.aload_n 0, 1) := by decide +kernel
theorem d_Dr_keep_28 : decode b_Dr_keep 28 = .ok (.getfield 15, 3) := by decide +kernel
theorem d_Dr_keep_31 : decode b_Dr_keep 31 = .ok (.aload_n 0, 1) := by decide +kernel
theorem d_Dr_keep_32 : decode b_Dr_keep 32 = .ok (.getfield 21, 3) := by decide +kernel
theorem d_Dr_keep_35 : decode b_Dr_keep 35 = .ok (.iload_n 2, 1) := by decide +kernel
theorem d_Dr_keep_36 : decode b_Dr_keep 36 = .ok (.iastore, 1) := by decide +kernel
theorem d_Dr_keep_37 : decode b_Dr_keep 37 = .ok (.aload_n 0, 1) := by decide +kernel
theorem d_Dr_keep_38 : decode b_Dr_keep 38 = .ok (.getfield 18, 3) := by decide +kernel
theorem d_Dr_keep_41 : decode b_Dr_keep 41 = .ok (.aload_n 0, 1) := by decide +kernel
theorem d_Dr_keep_42 : decode b_Dr_keep 42 = .ok (.getfield 21, 3) := by decide +kernel
theorem d_Dr_keep_45 : decode b_Dr_keep 45 = .ok (.iload_n 3, 1) := by decide +kernel
theorem d_Dr_keep_46 : decode b_Dr_keep 46 = .ok (.iastore, 1) := by decide +kernel
theorem d_Dr_keep_47 : decode b_Dr_keep 47 = .ok (.aload_n 0, 1) := by decide +kernel
theorem d_Dr_keep_48 : decode b_Dr_keep 48 = .ok (.dup, 1) := by decide +kernel
theorem d_Dr_keep_49 : decode b_Dr_keep 49 = .ok (.getfield 21, 3) := by decide +kernel
theorem d_Dr_keep_52 : decode b_Dr_keep 52 = .ok (.iconst 1, 1) := by decide +kernel
theorem d_Dr_keep_53 : decode b_Dr_keep 53 = .ok (.iadd, 1) := by decide +kernel
theorem d_Dr_keep_54 : decode b_Dr_keep 54 = .ok (.putfield 21, 3) := by decide +kernel
theorem d_Dr_keep_57 : decode b_Dr_keep 57 = .ok (.return_, 1) := by decide +kernel
theorem d_Dr_look_0 : decode b_Dr_look 0 = .ok (.iload_n 1, 1) := by decide +kernel
theorem d_Dr_look_1 : decode b_Dr_look 1 = .ok (.ifCond .lt 17, 3) := by decide +kernel
theorem d_Dr_look_4 : decode b_Dr_look 4 = .ok (.iload_n 1, 1) := by decide +kernel
theorem d_Dr_look_5 : decode b_Dr_look 5 = .ok (.aload_n 0, 1) := by decide +kernel
theorem d_Dr_look_6 : decode b_Dr_look 6 = .ok (.getfield 21, 3) := by decide +kernel
theorem d_Dr_look_9 : decode b_Dr_look 9 = .ok (.if_icmp .ge 9, 3) := by decide +kernel
theorem d_Dr_look_12 : decode b_Dr_look 12 = .ok (.iload_n 1, 1) := by decide +kernel
theorem d_Dr_look_13 : decode b_Dr_look 13 = .ok (.bipush 24, 2) := by decide +kernel
theorem d_Dr_look_15 : decode b_Dr_look 15 = .ok (.if_icmp .lt 5, 3) := by decide +kernel
theorem d_Dr_look_18 : decode b_Dr_look 18 = .ok (.iconst (-1), 1) := by decide +kernel
theorem d_Dr_look_19 : decode b_Dr_look 19 = .ok (.ireturn, 1) := by decide +kernel
theorem d_Dr_look_20 : decode b_Dr_look 20 = .ok (.iload_n 2, 1) := by decide +kernel
theorem d_Dr_look_21 : decode b_Dr_look 21 = .ok (.tableswitch 48 0 2 #[27, 34, 41], 27) := by decide +kernel
theorem d_Dr_look_48 : decode b_Dr_look 48 = .ok (.aload_n 0, 1) := by decide +kernel
theorem d_Dr_look_49 : decode b_Dr_look 49 = .ok (.getfield 9, 3) := by decide +kernel
theorem d_Dr_look_52 : decode b_Dr_look 52 = .ok (.iload_n 1, 1) := by decide +kernel
theorem d_Dr_look_53 : decode b_Dr_look 53 = .ok (.iaload, 1) := by decide +kernel
theorem d_Dr_look_54 : decode b_Dr_look 54 = .ok (.ireturn, 1) := by decide +kernel
theorem d_Dr_look_55 : decode b_Dr_look 55 = .ok (.aload_n 0, 1) := by decide +kernel
theorem d_Dr_look_56 : decode b_Dr_look 56 = .ok (.getfield 15, 3) := by decide +kernel
theorem d_Dr_look_59 : decode b_Dr_look 59 = .ok (.iload_n 1, 1) := by decide +kernel
theorem d_Dr_look_60 : decode b_Dr_look 60 = .ok (.iaload, 1) := by decide +kernel
theorem d_Dr_look_61 : decode b_Dr_look 61 = .ok (.ireturn, 1) := by decide +kernel
theorem d_Dr_look_62 : decode b_Dr_look 62 = .ok (.aload_n 0, 1) := by decide +kernel
theorem d_Dr_look_63 : decode b_Dr_look 63 = .ok (.getfield 18, 3) := by decide +kernel
theorem d_Dr_look_66 : decode b_Dr_look 66 = .ok (.iload_n 1, 1) := by decide +kernel
theorem d_Dr_look_67 : decode b_Dr_look 67 = .ok (.iaload, 1) := by decide +kernel
theorem d_Dr_look_68 : decode b_Dr_look 68 = .ok (.ireturn, 1) := by decide +kernel
theorem d_Dr_look_69 : decode b_Dr_look 69 = .ok (.iconst (-1), 1) := by decide +kernel
theorem d_Dr_look_70 : decode b_Dr_look 70 = .ok (.ireturn, 1) := by decide +kernel
theorem d_Wa_init_0 : decode b_Wa_init 0 = .ok (.aload_n 0, 1) := by decide +kernel
theorem d_Wa_init_1 : decode b_Wa_init 1 = .ok (.invokespecial 3, 3) := by decide +kernel
theorem d_Wa_init_4 : decode b_Wa_init 4 = .ok (.aload_n 0, 1) := by decide +kernel
theorem d_Wa_init_5 : decode b_Wa_init 5 = .ok (.sipush 4096, 3) := by decide +kernel
theorem d_Wa_init_8 : decode b_Wa_init 8 = .ok (.newarray .int, 2) := by decide +kernel
theorem d_Wa_init_10 : decode b_Wa_init 10 = .ok (.putfield 11, 3) := by decide +kernel
theorem d_Wa_init_13 : decode b_Wa_init 13 = .ok (.aload_n 0, 1) := by decide +kernel
theorem d_Wa_init_14 : decode b_Wa_init 14 = .ok (.bipush 24, 2) := by decide +kernel
theorem d_Wa_init_16 : decode b_Wa_init 16 = .ok (.newarray .int, 2) := by decide +kernel
theorem d_Wa_init_18 : decode b_Wa_init 18 = .ok (.putfield 15, 3) := by decide +kernel
theorem d_Wa_init_21 : decode b_Wa_init 21 = .ok (.aload_n 0, 1) := by decide +kernel
theorem d_Wa_init_22 : decode b_Wa_init 22 = .ok (.bipush 12, 2) := by decide +kernel
theorem d_Wa_init_24 : decode b_Wa_init 24 = .ok (.newarray .int, 2) := by decide +kernel
theorem d_Wa_init_26 : decode b_Wa_init 26 = .ok (.putfield 18, 3) := by decide +kernel
theorem d_Wa_init_29 : decode b_Wa_init 29 = .ok (.aload_n 0, 1) := by decide +kernel
theorem d_Wa_init_30 : decode b_Wa_init 30 = .ok (.bipush 8, 2) := by decide +kernel
theorem d_Wa_init_32 : decode b_Wa_init 32 = .ok (.newarray .int, 2) := by decide +kernel
theorem d_Wa_init_34 : decode b_Wa_init 34 = .ok (.putfield 21, 3) := by decide +kernel
theorem d_Wa_init_37 : decode b_Wa_init 37 = .ok (.return_, 1) := by decide +kernel
theorem d_Wa_choose_0 : decode b_Wa_choose 0 = .ok (.aload_n 0, 1) := by decide +kernel
theorem d_Wa_choose_1 : decode b_Wa_choose 1 = .ok (.iconst 0, 1) := by decide +kernel
theorem d_Wa_choose_2 : decode b_Wa_choose 2 = .ok (.putfield 24, 3) := by decide +kernel
theorem d_Wa_choose_5 : decode b_Wa_choose 5 = .ok (.iconst 0, 1) := by decide +kernel
theorem d_Wa_choose_6 : decode b_Wa_choose 6 = .ok (.istore_n 3, 1) := by decide +kernel
theorem d_Wa_choose_7 : decode b_Wa_choose 7 = .ok (.iload_n 3, 1) := by decide +kernel
theorem d_Wa_choose_8 : decode b_Wa_choose 8 = .ok (.bipush 24, 2) := by decide +kernel
theorem d_Wa_choose_10 : decode b_Wa_choose 10 = .ok (.if_icmp .ge 69, 3) := by decide +kernel
theorem d_Wa_choose_13 : decode b_Wa_choose 13 = .ok (.aload_n 0, 1) := by decide +kernel
theorem d_Wa_choose_14 : decode b_Wa_choose 14 = .ok (.getfield 15, 3) := by decide +kernel
theorem d_Wa_choose_17 : decode b_Wa_choose 17 = .ok (.iload_n 3, 1) := by decide +kernel
theorem d_Wa_choose_18 : decode b_Wa_choose 18 = .ok (.iconst 0, 1) := by decide +kernel
theorem d_Wa_choose_19 : decode b_Wa_choose 19 = .ok (.iastore, 1) := by decide +kernel
theorem d_Wa_choose_20 : decode b_Wa_choose 20 = .ok (.iload_n 1, 1) := by decide +kernel
theorem d_Wa_choose_21 : decode b_Wa_choose 21 = .ok (.iload_n 3, 1) := by decide +kernel
theorem d_Wa_choose_22 : decode b_Wa_choose 22 = .ok (.invokestatic 28, 3) := by decide +kernel
theorem d_Wa_choose_25 : decode b_Wa_choose 25 = .ok (.ifCond .eq 48, 3) := by decide +kernel
theorem d_Wa_choose_28 : decode b_Wa_choose 28 = .ok (.aload_n 0, 1) := by decide +kernel
theorem d_Wa_choose_29 : decode b_Wa_choose 29 = .ok (.getfield 24, 3) := by decide +kernel
theorem d_Wa_choose_32 : decode b_Wa_choose 32 = .ok (.bipush 12, 2) := by decide +kernel
theorem d_Wa_choose_34 : decode b_Wa_choose 34 = .ok (.if_icmp .ge 39, 3) := by decide +kernel
theorem d_Wa_choose_37 : decode b_Wa_choose 37 = .ok (.aload_n 0, 1) := by decide +kernel
theorem d_Wa_choose_38 : decode b_Wa_choose 38 = .ok (.getfield 15, 3) := by decide +kernel
theorem d_Wa_choose_41 : decode b_Wa_choose 41 = .ok (.iload_n 3, 1) := by decide +kernel
theorem d_Wa_choose_42 : decode b_Wa_choose 42 = .ok (.iconst 1, 1) := by decide +kernel
theorem d_Wa_choose_43 : decode b_Wa_choose 43 = .ok (.aload_n 0, 1) := by decide +kernel
theorem d_Wa_choose_44 : decode b_Wa_choose 44 = .ok (.getfield 24, 3) := by decide +kernel
theorem d_Wa_choose_47 : decode b_Wa_choose 47 = .ok (.ishl, 1) := by decide +kernel
theorem d_Wa_choose_48 : decode b_Wa_choose 48 = .ok (.iastore, 1) := by decide +kernel
theorem d_Wa_choose_49 : decode b_Wa_choose 49 = .ok (.aload_n 0, 1) := by decide +kernel
theorem d_Wa_choose_50 : decode b_Wa_choose 50 = .ok (.getfield 18, 3) := by decide +kernel
theorem d_Wa_choose_53 : decode b_Wa_choose 53 = .ok (.aload_n 0, 1) := by decide +kernel
theorem d_Wa_choose_54 : decode b_Wa_choose 54 = .ok (.getfield 24, 3) := by decide +kernel
theorem d_Wa_choose_57 : decode b_Wa_choose 57 = .ok (.iload_n 3, 1) := by decide +kernel
theorem d_Wa_choose_58 : decode b_Wa_choose 58 = .ok (.aload_n 2, 1) := by decide +kernel
theorem d_Wa_choose_59 : decode b_Wa_choose 59 = .ok (.invokestatic 32, 3) := by decide +kernel
theorem d_Wa_choose_62 : decode b_Wa_choose 62 = .ok (.iastore, 1) := by decide +kernel
theorem d_Wa_choose_63 : decode b_Wa_choose 63 = .ok (.aload_n 0, 1) := by decide +kernel
theorem d_Wa_choose_64 : decode b_Wa_choose 64 = .ok (.dup, 1) := by decide +kernel
theorem d_Wa_choose_65 : decode b_Wa_choose 65 = .ok (.getfield 24, 3) := by decide +kernel
theorem d_Wa_choose_68 : decode b_Wa_choose 68 = .ok (.iconst 1, 1) := by decide +kernel
theorem d_Wa_choose_69 : decode b_Wa_choose 69 = .ok (.iadd, 1) := by decide +kernel
theorem d_Wa_choose_70 : decode b_Wa_choose 70 = .ok (.putfield 24, 3) := by decide +kernel
theorem d_Wa_choose_73 : decode b_Wa_choose 73 = .ok (.iinc 3 1, 3) := by decide +kernel
theorem d_Wa_choose_76 : decode b_Wa_choose 76 = .ok (.goto (-69), 3) := by decide +kernel
theorem d_Wa_choose_79 : decode b_Wa_choose 79 = .ok (.return_, 1) := by decide +kernel
theorem d_Wa_wiresWith_0 : decode b_Wa_wiresWith 0 = .ok (.iconst 0, 1) := by decide +kernel
theorem d_Wa_wiresWith_1 : decode b_Wa_wiresWith 1 = .ok (.istore_n 2, 1) := by decide +kernel
theorem d_Wa_wiresWith_2 : decode b_Wa_wiresWith 2 = .ok (.iconst 0, 1) := by decide +kernel
theorem d_Wa_wiresWith_3 : decode b_Wa_wiresWith 3 = .ok (.istore_n 3, 1) := by decide +kernel
theorem d_Wa_wiresWith_4 : decode b_Wa_wiresWith 4 = .ok (.iload_n 3, 1) := by decide +kernel
theorem d_Wa_wiresWith_5 : decode b_Wa_wiresWith 5 = .ok (.aload_n 1, 1) := by decide +kernel
theorem d_Wa_wiresWith_6 : decode b_Wa_wiresWith 6 = .ok (.arraylength, 1) := by decide +kernel
theorem d_Wa_wiresWith_7 : decode b_Wa_wiresWith 7 = .ok (.if_icmp .ge 27, 3) := by decide +kernel
theorem d_Wa_wiresWith_10 : decode b_Wa_wiresWith 10 = .ok (.iload_n 3, 1) := by decide +kernel
theorem d_Wa_wiresWith_11 : decode b_Wa_wiresWith 11 = .ok (.bipush 6, 2) := by decide +kernel
theorem d_Wa_wiresWith_13 : decode b_Wa_wiresWith 13 = .ok (.if_icmp .ge 21, 3) := by decide +kernel
theorem d_Wa_wiresWith_16 : decode b_Wa_wiresWith 16 = .ok (.iload_n 2, 1) := by decide +kernel
theorem d_Wa_wiresWith_17 : decode b_Wa_wiresWith 17 = .ok (.aload_n 1, 1) := by decide +kernel
theorem d_Wa_wiresWith_18 : decode b_Wa_wiresWith 18 = .ok (.iload_n 3, 1) := by decide +kernel
theorem d_Wa_wiresWith_19 : decode b_Wa_wiresWith 19 = .ok (.iaload, 1) := by decide +kernel
theorem d_Wa_wiresWith_20 : decode b_Wa_wiresWith 20 = .ok (.iload_n 0, 1) := by decide +kernel
theorem d_Wa_wiresWith_21 : decode b_Wa_wiresWith 21 = .ok (.iushr, 1) := by decide +kernel
theorem d_Wa_wiresWith_22 : decode b_Wa_wiresWith 22 = .ok (.iconst 1, 1) := by decide +kernel
theorem d_Wa_wiresWith_23 : decode b_Wa_wiresWith 23 = .ok (.iand, 1) := by decide +kernel
theorem d_Wa_wiresWith_24 : decode b_Wa_wiresWith 24 = .ok (.iload_n 3, 1) := by decide +kernel
theorem d_Wa_wiresWith_25 : decode b_Wa_wiresWith 25 = .ok (.ishl, 1) := by decide +kernel
theorem d_Wa_wiresWith_26 : decode b_Wa_wiresWith 26 = .ok (.ior, 1) := by decide +kernel
theorem d_Wa_wiresWith_27 : decode b_Wa_wiresWith 27 = .ok (.istore_n 2, 1) := by decide +kernel
theorem d_Wa_wiresWith_28 : decode b_Wa_wiresWith 28 = .ok (.iinc 3 1, 3) := by decide +kernel
theorem d_Wa_wiresWith_31 : decode b_Wa_wiresWith 31 = .ok (.goto (-27), 3) := by decide +kernel
theorem d_Wa_wiresWith_34 : decode b_Wa_wiresWith 34 = .ok (.iload_n 2, 1) := by decide +kernel
theorem d_Wa_wiresWith_35 : decode b_Wa_wiresWith 35 = .ok (.ireturn, 1) := by decide +kernel
theorem d_Wa_findPhases_0 : decode b_Wa_findPhases 0 = .ok (.aload_n 0, 1) := by decide +kernel
theorem d_Wa_findPhases_1 : decode b_Wa_findPhases 1 = .ok (.getfield 11, 3) := by decide +kernel
theorem d_Wa_findPhases_4 : decode b_Wa_findPhases 4 = .ok (.iconst 0, 1) := by decide +kernel
theorem d_Wa_findPhases_5 : decode b_Wa_findPhases 5 = .ok (.invokestatic 36, 3) := by decide +kernel
theorem d_Wa_findPhases_8 : decode b_Wa_findPhases 8 = .ok (.aload_n 0, 1) := by decide +kernel
theorem d_Wa_findPhases_9 : decode b_Wa_findPhases 9 = .ok (.getfield 11, 3) := by decide +kernel
theorem d_Wa_findPhases_12 : decode b_Wa_findPhases 12 = .ok (.iconst 0, 1) := by decide +kernel
theorem d_Wa_findPhases_13 : decode b_Wa_findPhases 13 = .ok (.aload_n 1, 1) := by decide +kernel
theorem d_Wa_findPhases_14 : decode b_Wa_findPhases 14 = .ok (.iconst 0, 1) := by decide +kernel
theorem d_Wa_findPhases_15 : decode b_Wa_findPhases 15 = .ok (.invokevirtual 42, 3) := by decide +kernel
theorem d_Wa_findPhases_18 : decode b_Wa_findPhases 18 = .ok (.iastore, 1) := by decide +kernel
theorem d_Wa_findPhases_19 : decode b_Wa_findPhases 19 = .ok (.iconst 0, 1) := by decide +kernel
theorem d_Wa_findPhases_20 : decode b_Wa_findPhases 20 = .ok (.istore_n 3, 1) := by decide +kernel
theorem d_Wa_findPhases_21 : decode b_Wa_findPhases 21 = .ok (.iload_n 3, 1) := by decide +kernel
theorem d_Wa_findPhases_22 : decode b_Wa_findPhases 22 = .ok (.bipush 24, 2) := by decide +kernel
theorem d_Wa_findPhases_24 : decode b_Wa_findPhases 24 = .ok (.if_icmp .ge 41, 3) := by decide +kernel
theorem d_Wa_findPhases_27 : decode b_Wa_findPhases 27 = .ok (.iload_n 2, 1) := by decide +kernel
theorem d_Wa_findPhases_28 : decode b_Wa_findPhases 28 = .ok (.iload_n 3, 1) := by decide +kernel
theorem d_Wa_findPhases_29 : decode b_Wa_findPhases 29 = .ok (.invokestatic 28, 3) := by decide +kernel
theorem d_Wa_findPhases_32 : decode b_Wa_findPhases 32 = .ok (.ifCond .eq 27, 3) := by decide +kernel
theorem d_Wa_findPhases_35 : decode b_Wa_findPhases 35 = .ok (.aload_n 0, 1) := by decide +kernel
theorem d_Wa_findPhases_36 : decode b_Wa_findPhases 36 = .ok (.aload_n 0, 1) := by decide +kernel
theorem d_Wa_findPhases_37 : decode b_Wa_findPhases 37 = .ok (.getfield 15, 3) := by decide +kernel
theorem d_Wa_findPhases_40 : decode b_Wa_findPhases 40 = .ok (.iload_n 3, 1) := by decide +kernel
theorem d_Wa_findPhases_41 : decode b_Wa_findPhases 41 = .ok (.iaload, 1) := by decide +kernel
theorem d_Wa_findPhases_42 : decode b_Wa_findPhases 42 = .ok (.aload_n 1, 1) := by decide +kernel
theorem d_Wa_findPhases_43 : decode b_Wa_findPhases 43 = .ok (.iconst 1, 1) := by decide +kernel
theorem d_Wa_findPhases_44 : decode b_Wa_findPhases 44 = .ok (.iload_n 3, 1) := by decide +kernel
theorem d_Wa_findPhases_45 : decode b_Wa_findPhases 45 = .ok (.ishl, 1) := by decide +kernel
theorem d_Wa_findPhases_46 : decode b_Wa_findPhases 46 = .ok (.invokevirtual 42, 3) := by decide +kernel
theorem d_Wa_findPhases_49 : decode b_Wa_findPhases 49 = .ok (.invokevirtual 48, 3) := by decide +kernel
theorem d_Wa_findPhases_52 : decode b_Wa_findPhases 52 = .ok (.aload_n 0, 1) := by decide +kernel
theorem d_Wa_findPhases_53 : decode b_Wa_findPhases 53 = .ok (.iload_n 3, 1) := by decide +kernel
theorem d_Wa_findPhases_54 : decode b_Wa_findPhases 54 = .ok (.aload_n 1, 1) := by decide +kernel
theorem d_Wa_findPhases_55 : decode b_Wa_findPhases 55 = .ok (.iload_n 2, 1) := by decide +kernel
theorem d_Wa_findPhases_56 : decode b_Wa_findPhases 56 = .ok (.invokevirtual 52, 3) := by decide +kernel
theorem d_Wa_findPhases_59 : decode b_Wa_findPhases 59 = .ok (.iinc 3 1, 3) := by decide +kernel
theorem d_Wa_findPhases_62 : decode b_Wa_findPhases 62 = .ok (.goto (-41), 3) := by decide +kernel
theorem d_Wa_findPhases_65 : decode b_Wa_findPhases 65 = .ok (.aload_n 0, 1) := by decide +kernel
theorem d_Wa_findPhases_66 : decode b_Wa_findPhases 66 = .ok (.invokevirtual 56, 3) := by decide +kernel
theorem d_Wa_findPhases_69 : decode b_Wa_findPhases 69 = .ok (.return_, 1) := by decide +kernel
theorem d_Wa_layProductsBelow_0 : decode b_Wa_layProductsBelow 0 = .ok (.iconst 0, 1) := by decide +kernel
theorem d_Wa_layProductsBelow_1 : decode b_Wa_layProductsBelow 1 = .ok (.istore 4, 2) := by decide +kernel
theorem d_Wa_layProductsBelow_3 : decode b_Wa_layProductsBelow 3 = .ok (.iload 4, 2) := by decide +kernel
theorem d_Wa_layProductsBelow_5 : decode b_Wa_layProductsBelow 5 = .ok (.iload_n 1, 1) := by decide +kernel
theorem d_Wa_layProductsBelow_6 : decode b_Wa_layProductsBelow 6 = .ok (.if_icmp .ge 106, 3) := by decide +kernel
theorem d_Wa_layProductsBelow_9 : decode b_Wa_layProductsBelow 9 = .ok (.iload_n 3, 1) := by decide +kernel
theorem d_Wa_layProductsBelow_10 : decode b_Wa_layProductsBelow 10 = .ok (.iload 4, 2) := by decide +kernel
theorem d_Wa_layProductsBelow_12 : decode b_Wa_layProductsBelow 12 = .ok (.invokestatic 28, 3) := by decide +kernel
theorem d_Wa_layProductsBelow_15 : decode b_Wa_layProductsBelow 15 = .ok (.ifCond .eq 91, 3) := by decide +kernel
theorem d_Wa_layProductsBelow_18 : decode b_Wa_layProductsBelow 18 = .ok (.iconst 1, 1) := by decide +kernel
theorem d_Wa_layProductsBelow_19 : decode b_Wa_layProductsBelow 19 = .ok (.iload_n 1, 1) := by decide +kernel
theorem d_Wa_layProductsBelow_20 : decode b_Wa_layProductsBelow 20 = .ok (.ishl, 1) := by decide +kernel
theorem d_Wa_layProductsBelow_21 : decode b_Wa_layProductsBelow 21 = .ok (.iconst 1, 1) := by decide +kernel
theorem d_Wa_layProductsBelow_22 : decode b_Wa_layProductsBelow 22 = .ok (.iload 4, 2) := by decide +kernel
theorem d_Wa_layProductsBelow_24 : decode b_Wa_layProductsBelow 24 = .ok (.ishl, 1) := by decide +kernel
theorem d_Wa_layProductsBelow_25 : decode b_Wa_layProductsBelow 25 = .ok (.ior, 1) := by decide +kernel
theorem d_Wa_layProductsBelow_26 : decode b_Wa_layProductsBelow 26 = .ok (.istore 5, 2) := by decide +kernel
theorem d_Wa_layProductsBelow_28 : decode b_Wa_layProductsBelow 28 = .ok (.aload_n 0, 1) := by decide +kernel
theorem d_Wa_layProductsBelow_29 : decode b_Wa_layProductsBelow 29 = .ok (.getfield 15, 3) := by decide +kernel
theorem d_Wa_layProductsBelow_32 : decode b_Wa_layProductsBelow 32 = .ok (.iload_n 1, 1) := by decide +kernel
theorem d_Wa_layProductsBelow_33 : decode b_Wa_layProductsBelow 33 = .ok (.iaload, 1) := by decide +kernel
theorem d_Wa_layProductsBelow_34 : decode b_Wa_layProductsBelow 34 = .ok (.aload_n 0, 1) := by decide +kernel
theorem d_Wa_layProductsBelow_35 : decode b_Wa_layProductsBelow 35 = .ok (.getfield 15, 3) := by decide +kernel
theorem d_Wa_layProductsBelow_38 : decode b_Wa_layProductsBelow 38 = .ok (.iload 4, 2) := by decide +kernel
theorem d_Wa_layProductsBelow_40 : decode b_Wa_layProductsBelow 40 = .ok (.iaload, 1) := by decide +kernel
theorem d_Wa_layProductsBelow_41 : decode b_Wa_layProductsBelow 41 = .ok (.ior, 1) := by decide +kernel
theorem d_Wa_layProductsBelow_42 : decode b_Wa_layProductsBelow 42 = .ok (.istore 6, 2) := by decide +kernel
theorem d_Wa_layProductsBelow_44 : decode b_Wa_layProductsBelow 44 = .ok (.aload_n 0, 1) := by decide +kernel
theorem d_Wa_layProductsBelow_45 : decode b_Wa_layProductsBelow 45 = .ok (.iload 6, 2) := by decide +kernel
theorem d_Wa_layProductsBelow_47 : decode b_Wa_layProductsBelow 47 = .ok (.aload_n 2, 1) := by decide +kernel
theorem d_Wa_layProductsBelow_48 : decode b_Wa_layProductsBelow 48 = .ok (.iload 5, 2) := by decide +kernel
theorem d_Wa_layProductsBelow_50 : decode b_Wa_layProductsBelow 50 = .ok (.invokevirtual 42, 3) := by decide +kernel
theorem d_Wa_layProductsBelow_53 : decode b_Wa_layProductsBelow 53 = .ok (.invokevirtual 48, 3) := by decide +kernel
theorem d_Wa_layProductsBelow_56 : decode b_Wa_layProductsBelow 56 = .ok (.iconst 0, 1) := by decide +kernel
theorem d_Wa_layProductsBelow_57 : decode b_Wa_layProductsBelow 57 = .ok (.istore 7, 2) := by decide +kernel
theorem d_Wa_layProductsBelow_59 : decode b_Wa_layProductsBelow 59 = .ok (.iload 7, 2) := by decide +kernel
theorem d_Wa_layProductsBelow_61 : decode b_Wa_layProductsBelow 61 = .ok (.iload 4, 2) := by decide +kernel
theorem d_Wa_layProductsBelow_63 : decode b_Wa_layProductsBelow 63 = .ok (.if_icmp .ge 43, 3) := by decide +kernel
theorem d_Wa_layProductsBelow_66 : decode b_Wa_layProductsBelow 66 = .ok (.iload_n 3, 1) := by decide +kernel
theorem d_Wa_layProductsBelow_67 : decode b_Wa_layProductsBelow 67 = .ok (.iload 7, 2) := by decide +kernel
theorem d_Wa_layProductsBelow_69 : decode b_Wa_layProductsBelow 69 = .ok (.invokestatic 28, 3) := by decide +kernel
theorem d_Wa_layProductsBelow_72 : decode b_Wa_layProductsBelow 72 = .ok (.ifCond .eq 28, 3) := by decide +kernel
theorem d_Wa_layProductsBelow_75 : decode b_Wa_layProductsBelow 75 = .ok (.aload_n 0, 1) := by decide +kernel
theorem d_Wa_layProductsBelow_76 : decode b_Wa_layProductsBelow 76 = .ok (.iload 6, 2) := by decide +kernel
theorem d_Wa_layProductsBelow_78 : decode b_Wa_layProductsBelow 78 = .ok (.aload_n 0, 1) := by decide +kernel
theorem d_Wa_layProductsBelow_79 : decode b_Wa_layProductsBelow 79 = .ok (.getfield 15, 3) := by decide +kernel
theorem d_Wa_layProductsBelow_82 : decode b_Wa_layProductsBelow 82 = .ok (.iload 7, 2) := by decide +kernel
theorem d_Wa_layProductsBelow_84 : decode b_Wa_layProductsBelow 84 = .ok (.iaload, 1) := by decide +kernel
theorem d_Wa_layProductsBelow_85 : decode b_Wa_layProductsBelow 85 = .ok (.ior, 1) := by decide +kernel
theorem d_Wa_layProductsBelow_86 : decode b_Wa_layProductsBelow 86 = .ok (.aload_n 2, 1) := by decide +kernel
theorem d_Wa_layProductsBelow_87 : decode b_Wa_layProductsBelow 87 = .ok (.iload 5, 2) := by decide +kernel
theorem d_Wa_layProductsBelow_89 : decode b_Wa_layProductsBelow 89 = .ok (.iconst 1, 1) := by decide +kernel
theorem d_Wa_layProductsBelow_90 : decode b_Wa_layProductsBelow 90 = .ok (.iload 7, 2) := by decide +kernel
theorem d_Wa_layProductsBelow_92 : decode b_Wa_layProductsBelow 92 = .ok (.ishl, 1) := by decide +kernel
theorem d_Wa_layProductsBelow_93 : decode b_Wa_layProductsBelow 93 = .ok (.ior, 1) := by decide +kernel
theorem d_Wa_layProductsBelow_94 : decode b_Wa_layProductsBelow 94 = .ok (.invokevirtual 42, 3) := by decide +kernel
theorem d_Wa_layProductsBelow_97 : decode b_Wa_layProductsBelow 97 = .ok (.invokevirtual 48, 3) := by decide +kernel
theorem d_Wa_layProductsBelow_100 : decode b_Wa_layProductsBelow 100 = .ok (.iinc 7 1, 3) := by decide +kernel
theorem d_Wa_layProductsBelow_103 : decode b_Wa_layProductsBelow 103 = .ok (.goto (-44), 3) := by decide +kernel
theorem d_Wa_layProductsBelow_106 : decode b_Wa_layProductsBelow 106 = .ok (.iinc 4 1, 3) := by decide +kernel
theorem d_Wa_layProductsBelow_109 : decode b_Wa_layProductsBelow 109 = .ok (.goto (-106), 3) := by decide +kernel
theorem d_Wa_layProductsBelow_112 : decode b_Wa_layProductsBelow 112 = .ok (.return_, 1) := by decide +kernel
theorem d_Wa_addNumber_0 : decode b_Wa_addNumber 0 = .ok (.iload_n 1, 1) := by decide +kernel
theorem d_Wa_addNumber_1 : decode b_Wa_addNumber 1 = .ok (.ifCond .lt 20, 3) := by decide +kernel
theorem d_Wa_addNumber_4 : decode b_Wa_addNumber 4 = .ok (.iload_n 1, 1) := by decide +kernel
theorem d_Wa_addNumber_5 : decode b_Wa_addNumber 5 = .ok (.sipush 4096, 3) := by decide +kernel
theorem d_Wa_addNumber_8 : decode b_Wa_addNumber 8 = .ok (.if_icmp .ge 13, 3) := by decide +kernel
theorem d_Wa_addNumber_11 : decode b_Wa_addNumber 11 = .ok (.aload_n 0, 1) := by decide +kernel
theorem d_Wa_addNumber_12 : decode b_Wa_addNumber 12 = .ok (.getfield 11, 3) := by decide +kernel
theorem d_Wa_addNumber_15 : decode b_Wa_addNumber 15 = .ok (.iload_n 1, 1) := by decide +kernel
theorem d_Wa_addNumber_16 : decode b_Wa_addNumber 16 = .ok (.dup2, 1) := by decide +kernel
theorem d_Wa_addNumber_17 : decode b_Wa_addNumber 17 = .ok (.iaload, 1) := by decide +kernel
theorem d_Wa_addNumber_18 : decode b_Wa_addNumber 18 = .ok (.iload_n 2, 1) := by decide +kernel
theorem d_Wa_addNumber_19 : decode b_Wa_addNumber 19 = .ok (.iadd, 1) := by decide +kernel
theorem d_Wa_addNumber_20 : decode b_Wa_addNumber 20 = .ok (.iastore, 1) := by decide +kernel
theorem d_Wa_addNumber_21 : decode b_Wa_addNumber 21 = .ok (.return_, 1) := by decide +kernel
theorem d_Wa_sumOverParts_0 : decode b_Wa_sumOverParts 0 = .ok (.iconst 0, 1) := by decide +kernel
theorem d_Wa_sumOverParts_1 : decode b_Wa_sumOverParts 1 = .ok (.istore_n 1, 1) := by decide +kernel
theorem d_Wa_sumOverParts_2 : decode b_Wa_sumOverParts 2 = .ok (.iload_n 1, 1) := by decide +kernel
theorem d_Wa_sumOverParts_3 : decode b_Wa_sumOverParts 3 = .ok (.aload_n 0, 1) := by decide +kernel
theorem d_Wa_sumOverParts_4 : decode b_Wa_sumOverParts 4 = .ok (.getfield 24, 3) := by decide +kernel
theorem d_Wa_sumOverParts_7 : decode b_Wa_sumOverParts 7 = .ok (.if_icmp .ge 61, 3) := by decide +kernel
theorem d_Wa_sumOverParts_10 : decode b_Wa_sumOverParts 10 = .ok (.iconst 1, 1) := by decide +kernel
theorem d_Wa_sumOverParts_11 : decode b_Wa_sumOverParts 11 = .ok (.iload_n 1, 1) := by decide +kernel
theorem d_Wa_sumOverParts_12 : decode b_Wa_sumOverParts 12 = .ok (.ishl, 1) := by decide +kernel
theorem d_Wa_sumOverParts_13 : decode b_Wa_sumOverParts 13 = .ok (.istore_n 2, 1) := by decide +kernel
theorem d_Wa_sumOverParts_14 : decode b_Wa_sumOverParts 14 = .ok (.iconst 0, 1) := by decide +kernel
theorem d_Wa_sumOverParts_15 : decode b_Wa_sumOverParts 15 = .ok (.istore_n 3, 1) := by decide +kernel
theorem d_Wa_sumOverParts_16 : decode b_Wa_sumOverParts 16 = .ok (.iload_n 3, 1) := by decide +kernel
theorem d_Wa_sumOverParts_17 : decode b_Wa_sumOverParts 17 = .ok (.iconst 1, 1) := by decide +kernel
theorem d_Wa_sumOverParts_18 : decode b_Wa_sumOverParts 18 = .ok (.aload_n 0, 1) := by decide +kernel
theorem d_Wa_sumOverParts_19 : decode b_Wa_sumOverParts 19 = .ok (.getfield 24, 3) := by decide +kernel
theorem d_Wa_sumOverParts_22 : decode b_Wa_sumOverParts 22 = .ok (.ishl, 1) := by decide +kernel
theorem d_Wa_sumOverParts_23 : decode b_Wa_sumOverParts 23 = .ok (.if_icmp .ge 39, 3) := by decide +kernel
theorem d_Wa_sumOverParts_26 : decode b_Wa_sumOverParts 26 = .ok (.iload_n 3, 1) := by decide +kernel
theorem d_Wa_sumOverParts_27 : decode b_Wa_sumOverParts 27 = .ok (.sipush 4096, 3) := by decide +kernel
theorem d_Wa_sumOverParts_30 : decode b_Wa_sumOverParts 30 = .ok (.if_icmp .ge 32, 3) := by decide +kernel
theorem d_Wa_sumOverParts_33 : decode b_Wa_sumOverParts 33 = .ok (.iload_n 3, 1) := by decide +kernel
theorem d_Wa_sumOverParts_34 : decode b_Wa_sumOverParts 34 = .ok (.iload_n 2, 1) := by decide +kernel
theorem d_Wa_sumOverParts_35 : decode b_Wa_sumOverParts 35 = .ok (.iand, 1) := by decide +kernel
theorem d_Wa_sumOverParts_36 : decode b_Wa_sumOverParts 36 = .ok (.ifCond .eq 20, 3) := by decide +kernel
theorem d_Wa_sumOverParts_39 : decode b_Wa_sumOverParts 39 = .ok (.aload_n 0, 1) := by decide +kernel
theorem d_Wa_sumOverParts_40 : decode b_Wa_sumOverParts 40 = .ok (.getfield 11, 3) := by decide +kernel
theorem d_Wa_sumOverParts_43 : decode b_Wa_sumOverParts 43 = .ok (.iload_n 3, 1) := by decide +kernel
theorem d_Wa_sumOverParts_44 : decode b_Wa_sumOverParts 44 = .ok (.dup2, 1) := by decide +kernel
theorem d_Wa_sumOverParts_45 : decode b_Wa_sumOverParts 45 = .ok (.iaload, 1) := by decide +kernel
theorem d_Wa_sumOverParts_46 : decode b_Wa_sumOverParts 46 = .ok (.aload_n 0, 1) := by decide +kernel
theorem d_Wa_sumOverParts_47 : decode b_Wa_sumOverParts 47 = .ok (.getfield 11, 3) := by decide +kernel
theorem d_Wa_sumOverParts_50 : decode b_Wa_sumOverParts 50 = .ok (.iload_n 3, 1) := by decide +kernel
theorem d_Wa_sumOverParts_51 : decode b_Wa_sumOverParts 51 = .ok (.iload_n 2, 1) := by decide +kernel
theorem d_Wa_sumOverParts_52 : decode b_Wa_sumOverParts 52 = .ok (.ixor, 1) := by decide +kernel
theorem d_Wa_sumOverParts_53 : decode b_Wa_sumOverParts 53 = .ok (.iaload, 1) := by decide +kernel
theorem d_Wa_sumOverParts_54 : decode b_Wa_sumOverParts 54 = .ok (.iadd, 1) := by decide +kernel
theorem d_Wa_sumOverParts_55 : decode b_Wa_sumOverParts 55 = .ok (.iastore, 1) := by decide +kernel
theorem d_Wa_sumOverParts_56 : decode b_Wa_sumOverParts 56 = .ok (.iinc 3 1, 3) := by decide +kernel
theorem d_Wa_sumOverParts_59 : decode b_Wa_sumOverParts 59 = .ok (.goto (-43), 3) := by decide +kernel
theorem d_Wa_sumOverParts_62 : decode b_Wa_sumOverParts 62 = .ok (.iinc 1 1, 3) := by decide +kernel
theorem d_Wa_sumOverParts_65 : decode b_Wa_sumOverParts 65 = .ok (.goto (-63), 3) := by decide +kernel
theorem d_Wa_sumOverParts_68 : decode b_Wa_sumOverParts 68 = .ok (.return_, 1) := by decide +kernel
theorem d_Wa_tally_0 : decode b_Wa_tally 0 = .ok (.aload_n 0, 1) := by decide +kernel
theorem d_Wa_tally_1 : decode b_Wa_tally 1 = .ok (.getfield 21, 3) := by decide +kernel
theorem d_Wa_tally_4 : decode b_Wa_tally 4 = .ok (.iconst 0, 1) := by decide +kernel
theorem d_Wa_tally_5 : decode b_Wa_tally 5 = .ok (.invokestatic 36, 3) := by decide +kernel
theorem d_Wa_tally_8 : decode b_Wa_tally 8 = .ok (.iconst 0, 1) := by decide +kernel
theorem d_Wa_tally_9 : decode b_Wa_tally 9 = .ok (.istore_n 3, 1) := by decide +kernel
theorem d_Wa_tally_10 : decode b_Wa_tally 10 = .ok (.iload_n 1, 1) := by decide +kernel
theorem d_Wa_tally_11 : decode b_Wa_tally 11 = .ok (.istore 4, 2) := by decide +kernel
theorem d_Wa_tally_13 : decode b_Wa_tally 13 = .ok (.iconst 1, 1) := by decide +kernel
theorem d_Wa_tally_14 : decode b_Wa_tally 14 = .ok (.istore 5, 2) := by decide +kernel
theorem d_Wa_tally_16 : decode b_Wa_tally 16 = .ok (.iload 5, 2) := by decide +kernel
theorem d_Wa_tally_18 : decode b_Wa_tally 18 = .ok (.iconst 1, 1) := by decide +kernel
theorem d_Wa_tally_19 : decode b_Wa_tally 19 = .ok (.aload_n 0, 1) := by decide +kernel
theorem d_Wa_tally_20 : decode b_Wa_tally 20 = .ok (.getfield 24, 3) := by decide +kernel
theorem d_Wa_tally_23 : decode b_Wa_tally 23 = .ok (.ishl, 1) := by decide +kernel
theorem d_Wa_tally_24 : decode b_Wa_tally 24 = .ok (.if_icmp .gt 92, 3) := by decide +kernel
theorem d_Wa_tally_27 : decode b_Wa_tally 27 = .ok (.iload 4, 2) := by decide +kernel
theorem d_Wa_tally_29 : decode b_Wa_tally 29 = .ok (.iload_n 2, 1) := by decide +kernel
theorem d_Wa_tally_30 : decode b_Wa_tally 30 = .ok (.if_icmp .ne 32, 3) := by decide +kernel
theorem d_Wa_tally_33 : decode b_Wa_tally 33 = .ok (.iload_n 3, 1) := by decide +kernel
theorem d_Wa_tally_34 : decode b_Wa_tally 34 = .ok (.ifCond .lt 28, 3) := by decide +kernel
theorem d_Wa_tally_37 : decode b_Wa_tally 37 = .ok (.iload_n 3, 1) := by decide +kernel
theorem d_Wa_tally_38 : decode b_Wa_tally 38 = .ok (.sipush 4096, 3) := by decide +kernel
theorem d_Wa_tally_41 : decode b_Wa_tally 41 = .ok (.if_icmp .ge 21, 3) := by decide +kernel
theorem d_Wa_tally_44 : decode b_Wa_tally 44 = .ok (.aload_n 0, 1) := by decide +kernel
theorem d_Wa_tally_45 : decode b_Wa_tally 45 = .ok (.getfield 21, 3) := by decide +kernel
theorem d_Wa_tally_48 : decode b_Wa_tally 48 = .ok (.aload_n 0, 1) := by decide +kernel
theorem d_Wa_tally_49 : decode b_Wa_tally 49 = .ok (.getfield 11, 3) := by decide +kernel
theorem d_Wa_tally_52 : decode b_Wa_tally 52 = .ok (.iload_n 3, 1) := by decide +kernel
theorem d_Wa_tally_53 : decode b_Wa_tally 53 = .ok (.iaload, 1) := by decide +kernel
theorem d_Wa_tally_54 : decode b_Wa_tally 54 = .ok (.bipush 7, 2) := by decide +kernel
theorem d_Wa_tally_56 : decode b_Wa_tally 56 = .ok (.iand, 1) := by decide +kernel
theorem d_Wa_tally_57 : decode b_Wa_tally 57 = .ok (.dup2, 1) := by decide +kernel
theorem d_Wa_tally_58 : decode b_Wa_tally 58 = .ok (.iaload, 1) := by decide +kernel
theorem d_Wa_tally_59 : decode b_Wa_tally 59 = .ok (.iconst 1, 1) := by decide +kernel
theorem d_Wa_tally_60 : decode b_Wa_tally 60 = .ok (.iadd, 1) := by decide +kernel
theorem d_Wa_tally_61 : decode b_Wa_tally 61 = .ok (.iastore, 1) := by decide +kernel
theorem d_Wa_tally_62 : decode b_Wa_tally 62 = .ok (.iload 5, 2) := by decide +kernel
theorem d_Wa_tally_64 : decode b_Wa_tally 64 = .ok (.iload 5, 2) := by decide +kernel
theorem d_Wa_tally_66 : decode b_Wa_tally 66 = .ok (.ineg, 1) := by decide +kernel
theorem d_Wa_tally_67 : decode b_Wa_tally 67 = .ok (.iand, 1) := by decide +kernel
theorem d_Wa_tally_68 : decode b_Wa_tally 68 = .ok (.iconst 1, 1) := by decide +kernel
theorem d_Wa_tally_69 : decode b_Wa_tally 69 = .ok (.isub, 1) := by decide +kernel
theorem d_Wa_tally_70 : decode b_Wa_tally 70 = .ok (.invokestatic 59, 3) := by decide +kernel
theorem d_Wa_tally_73 : decode b_Wa_tally 73 = .ok (.istore 6, 2) := by decide +kernel
theorem d_Wa_tally_75 : decode b_Wa_tally 75 = .ok (.iload 6, 2) := by decide +kernel
theorem d_Wa_tally_77 : decode b_Wa_tally 77 = .ok (.aload_n 0, 1) := by decide +kernel
theorem d_Wa_tally_78 : decode b_Wa_tally 78 = .ok (.getfield 24, 3) := by decide +kernel
theorem d_Wa_tally_81 : decode b_Wa_tally 81 = .ok (.if_icmp .ge 29, 3) := by decide +kernel
theorem d_Wa_tally_84 : decode b_Wa_tally 84 = .ok (.iload 6, 2) := by decide +kernel
theorem d_Wa_tally_86 : decode b_Wa_tally 86 = .ok (.bipush 12, 2) := by decide +kernel
theorem d_Wa_tally_88 : decode b_Wa_tally 88 = .ok (.if_icmp .ge 22, 3) := by decide +kernel
theorem d_Wa_tally_91 : decode b_Wa_tally 91 = .ok (.iload_n 3, 1) := by decide +kernel
theorem d_Wa_tally_92 : decode b_Wa_tally 92 = .ok (.iconst 1, 1) := by decide +kernel
theorem d_Wa_tally_93 : decode b_Wa_tally 93 = .ok (.iload 6, 2) := by decide +kernel
theorem d_Wa_tally_95 : decode b_Wa_tally 95 = .ok (.ishl, 1) := by decide +kernel
theorem d_Wa_tally_96 : decode b_Wa_tally 96 = .ok (.ixor, 1) := by decide +kernel
theorem d_Wa_tally_97 : decode b_Wa_tally 97 = .ok (.istore_n 3, 1) := by decide +kernel
theorem d_Wa_tally_98 : decode b_Wa_tally 98 = .ok (.iload 4, 2) := by decide +kernel
theorem d_Wa_tally_100 : decode b_Wa_tally 100 = .ok (.aload_n 0, 1) := by decide +kernel
theorem d_Wa_tally_101 : decode b_Wa_tally 101 = .ok (.getfield 18, 3) := by decide +kernel
theorem d_Wa_tally_104 : decode b_Wa_tally 104 = .ok (.iload 6, 2) := by decide +kernel
theorem d_Wa_tally_106 : decode b_Wa_tally 106 = .ok (.iaload, 1) := by decide +kernel
theorem d_Wa_tally_107 : decode b_Wa_tally 107 = .ok (.ixor, 1) := by decide +kernel
theorem d_Wa_tally_108 : decode b_Wa_tally 108 = .ok (.istore 4, 2) := by decide +kernel
theorem d_Wa_tally_110 : decode b_Wa_tally 110 = .ok (.iinc 5 1, 3) := by decide +kernel
theorem d_Wa_tally_113 : decode b_Wa_tally 113 = .ok (.goto (-97), 3) := by decide +kernel
theorem d_Wa_tally_116 : decode b_Wa_tally 116 = .ok (.return_, 1) := by decide +kernel
theorem d_Ro_init_0 : decode b_Ro_init 0 = .ok (.aload_n 0, 1) := by decide +kernel
theorem d_Ro_init_1 : decode b_Ro_init 1 = .ok (.invokespecial 1, 3) := by decide +kernel
theorem d_Ro_init_4 : decode b_Ro_init 4 = .ok (.return_, 1) := by decide +kernel
theorem d_Ro_take_0 : decode b_Ro_take 0 = .ok (.aload_n 1, 1) := by decide +kernel
theorem d_Ro_take_1 : decode b_Ro_take 1 = .ok (.arraylength, 1) := by decide +kernel
theorem d_Ro_take_2 : decode b_Ro_take 2 = .ok (.bipush 8, 2) := by decide +kernel
theorem d_Ro_take_4 : decode b_Ro_take 4 = .ok (.if_icmp .ge 4, 3) := by decide +kernel
theorem d_Ro_take_7 : decode b_Ro_take 7 = .ok (.return_, 1) := by decide +kernel
theorem d_Ro_take_8 : decode b_Ro_take 8 = .ok (.aload_n 0, 1) := by decide +kernel
theorem d_Ro_take_9 : decode b_Ro_take 9 = .ok (.aload_n 1, 1) := by decide +kernel
theorem d_Ro_take_10 : decode b_Ro_take 10 = .ok (.iconst 0, 1) := by decide +kernel
theorem d_Ro_take_11 : decode b_Ro_take 11 = .ok (.iaload, 1) := by decide +kernel
theorem d_Ro_take_12 : decode b_Ro_take 12 = .ok (.aload_n 1, 1) := by decide +kernel
theorem d_Ro_take_13 : decode b_Ro_take 13 = .ok (.iconst 4, 1) := by decide +kernel
theorem d_Ro_take_14 : decode b_Ro_take 14 = .ok (.iaload, 1) := by decide +kernel
theorem d_Ro_take_15 : decode b_Ro_take 15 = .ok (.isub, 1) := by decide +kernel
theorem d_Ro_take_16 : decode b_Ro_take 16 = .ok (.i2l, 1) := by decide +kernel
theorem d_Ro_take_17 : decode b_Ro_take 17 = .ok (.putfield 7, 3) := by decide +kernel
theorem d_Ro_take_20 : decode b_Ro_take 20 = .ok (.aload_n 0, 1) := by decide +kernel
theorem d_Ro_take_21 : decode b_Ro_take 21 = .ok (.aload_n 1, 1) := by decide +kernel
theorem d_Ro_take_22 : decode b_Ro_take 22 = .ok (.iconst 1, 1) := by decide +kernel
theorem d_Ro_take_23 : decode b_Ro_take 23 = .ok (.iaload, 1) := by decide +kernel
theorem d_Ro_take_24 : decode b_Ro_take 24 = .ok (.aload_n 1, 1) := by decide +kernel
theorem d_Ro_take_25 : decode b_Ro_take 25 = .ok (.iconst 5, 1) := by decide +kernel
theorem d_Ro_take_26 : decode b_Ro_take 26 = .ok (.iaload, 1) := by decide +kernel
theorem d_Ro_take_27 : decode b_Ro_take 27 = .ok (.isub, 1) := by decide +kernel
theorem d_Ro_take_28 : decode b_Ro_take 28 = .ok (.i2l, 1) := by decide +kernel
theorem d_Ro_take_29 : decode b_Ro_take 29 = .ok (.putfield 13, 3) := by decide +kernel
theorem d_Ro_take_32 : decode b_Ro_take 32 = .ok (.aload_n 0, 1) := by decide +kernel
theorem d_Ro_take_33 : decode b_Ro_take 33 = .ok (.aload_n 1, 1) := by decide +kernel
theorem d_Ro_take_34 : decode b_Ro_take 34 = .ok (.iconst 2, 1) := by decide +kernel
theorem d_Ro_take_35 : decode b_Ro_take 35 = .ok (.iaload, 1) := by decide +kernel
theorem d_Ro_take_36 : decode b_Ro_take 36 = .ok (.aload_n 1, 1) := by decide +kernel
theorem d_Ro_take_37 : decode b_Ro_take 37 = .ok (.bipush 6, 2) := by decide +kernel
theorem d_Ro_take_39 : decode b_Ro_take 39 = .ok (.iaload, 1) := by decide +kernel
theorem d_Ro_take_40 : decode b_Ro_take 40 = .ok (.isub, 1) := by decide +kernel
theorem d_Ro_take_41 : decode b_Ro_take 41 = .ok (.i2l, 1) := by decide +kernel
theorem d_Ro_take_42 : decode b_Ro_take 42 = .ok (.putfield 16, 3) := by decide +kernel
theorem d_Ro_take_45 : decode b_Ro_take 45 = .ok (.aload_n 0, 1) := by decide +kernel
theorem d_Ro_take_46 : decode b_Ro_take 46 = .ok (.aload_n 1, 1) := by decide +kernel
theorem d_Ro_take_47 : decode b_Ro_take 47 = .ok (.iconst 3, 1) := by decide +kernel
theorem d_Ro_take_48 : decode b_Ro_take 48 = .ok (.iaload, 1) := by decide +kernel
theorem d_Ro_take_49 : decode b_Ro_take 49 = .ok (.aload_n 1, 1) := by decide +kernel
theorem d_Ro_take_50 : decode b_Ro_take 50 = .ok (.bipush 7, 2) := by decide +kernel
theorem d_Ro_take_52 : decode b_Ro_take 52 = .ok (.iaload, 1) := by decide +kernel
theorem d_Ro_take_53 : decode b_Ro_take 53 = .ok (.isub, 1) := by decide +kernel
theorem d_Ro_take_54 : decode b_Ro_take 54 = .ok (.i2l, 1) := by decide +kernel
theorem d_Ro_take_55 : decode b_Ro_take 55 = .ok (.putfield 19, 3) := by decide +kernel
theorem d_Ro_take_58 : decode b_Ro_take 58 = .ok (.iload_n 2, 1) := by decide +kernel
theorem d_Ro_take_59 : decode b_Ro_take 59 = .ok (.istore_n 3, 1) := by decide +kernel
theorem d_Ro_take_60 : decode b_Ro_take 60 = .ok (.iload_n 3, 1) := by decide +kernel
theorem d_Ro_take_61 : decode b_Ro_take 61 = .ok (.ifCond .ge 13, 3) := by decide +kernel
theorem d_Ro_take_64 : decode b_Ro_take 64 = .ok (.aload_n 0, 1) := by decide +kernel
theorem d_Ro_take_65 : decode b_Ro_take 65 = .ok (.invokevirtual 22, 3) := by decide +kernel
theorem d_Ro_take_68 : decode b_Ro_take 68 = .ok (.iinc 3 1, 3) := by decide +kernel
theorem d_Ro_take_71 : decode b_Ro_take 71 = .ok (.goto (-11), 3) := by decide +kernel
theorem d_Ro_take_74 : decode b_Ro_take 74 = .ok (.aload_n 0, 1) := by decide +kernel
theorem d_Ro_take_75 : decode b_Ro_take 75 = .ok (.iload_n 2, 1) := by decide +kernel
theorem d_Ro_take_76 : decode b_Ro_take 76 = .ok (.iconst 0, 1) := by decide +kernel
theorem d_Ro_take_77 : decode b_Ro_take 77 = .ok (.invokestatic 25, 3) := by decide +kernel
theorem d_Ro_take_80 : decode b_Ro_take 80 = .ok (.putfield 31, 3) := by decide +kernel
theorem d_Ro_take_83 : decode b_Ro_take 83 = .ok (.aload_n 0, 1) := by decide +kernel
theorem d_Ro_take_84 : decode b_Ro_take 84 = .ok (.getfield 31, 3) := by decide +kernel
theorem d_Ro_take_87 : decode b_Ro_take 87 = .ok (.ifCond .le 31, 3) := by decide +kernel
theorem d_Ro_take_90 : decode b_Ro_take 90 = .ok (.aload_n 0, 1) := by decide +kernel
theorem d_Ro_take_91 : decode b_Ro_take 91 = .ok (.invokevirtual 35, 3) := by decide +kernel
theorem d_Ro_take_94 : decode b_Ro_take 94 = .ok (.ifCond .eq 24, 3) := by decide +kernel
theorem d_Ro_take_97 : decode b_Ro_take 97 = .ok (.aload_n 0, 1) := by decide +kernel
theorem d_Ro_take_98 : decode b_Ro_take 98 = .ok (.invokevirtual 22, 3) := by decide +kernel
theorem d_Ro_take_101 : decode b_Ro_take 101 = .ok (.aload_n 0, 1) := by decide +kernel
theorem d_Ro_take_102 : decode b_Ro_take 102 = .ok (.invokevirtual 39, 3) := by decide +kernel
theorem d_Ro_take_105 : decode b_Ro_take 105 = .ok (.aload_n 0, 1) := by decide +kernel
theorem d_Ro_take_106 : decode b_Ro_take 106 = .ok (.dup, 1) := by decide +kernel
theorem d_Ro_take_107 : decode b_Ro_take 107 = .ok (.getfield 31, 3) := by decide +kernel
theorem d_Ro_take_110 : decode b_Ro_take 110 = .ok (.iconst 1, 1) := by decide +kernel
theorem d_Ro_take_111 : decode b_Ro_take 111 = .ok (.isub, 1) := by decide +kernel
theorem d_Ro_take_112 : decode b_Ro_take 112 = .ok (.putfield 31, 3) := by decide +kernel
theorem d_Ro_take_115 : decode b_Ro_take 115 = .ok (.goto (-32), 3) := by decide +kernel
theorem d_Ro_take_118 : decode b_Ro_take 118 = .ok (.return_, 1) := by decide +kernel
theorem d_Ro_multiplyByR_0 : decode b_Ro_multiplyByR 0 = .ok (.aload_n 0, 1) := by decide +kernel
theorem d_Ro_multiplyByR_1 : decode b_Ro_multiplyByR 1 = .ok (.getfield 13, 3) := by decide +kernel
theorem d_Ro_multiplyByR_4 : decode b_Ro_multiplyByR 4 = .ok (.aload_n 0, 1) := by decide +kernel
theorem d_Ro_multiplyByR_5 : decode b_Ro_multiplyByR 5 = .ok (.getfield 19, 3) := by decide +kernel
theorem d_Ro_multiplyByR_8 : decode b_Ro_multiplyByR 8 = .ok (.lsub, 1) := by decide +kernel
theorem d_Ro_multiplyByR_9 : decode b_Ro_multiplyByR 9 = .ok (.lstore_n 1, 1) := by decide +kernel
theorem d_Ro_multiplyByR_10 : decode b_Ro_multiplyByR 10 = .ok (.aload_n 0, 1) := by decide +kernel
theorem d_Ro_multiplyByR_11 : decode b_Ro_multiplyByR 11 = .ok (.getfield 7, 3) := by decide +kernel
theorem d_Ro_multiplyByR_14 : decode b_Ro_multiplyByR 14 = .ok (.aload_n 0, 1) := by decide +kernel
theorem d_Ro_multiplyByR_15 : decode b_Ro_multiplyByR 15 = .ok (.getfield 16, 3) := by decide +kernel
theorem d_Ro_multiplyByR_18 : decode b_Ro_multiplyByR 18 = .ok (.ladd, 1) := by decide +kernel
theorem d_Ro_multiplyByR_19 : decode b_Ro_multiplyByR 19 = .ok (.lstore_n 3, 1) := by decide +kernel
theorem d_Ro_multiplyByR_20 : decode b_Ro_multiplyByR 20 = .ok (.aload_n 0, 1) := by decide +kernel
theorem d_Ro_multiplyByR_21 : decode b_Ro_multiplyByR 21 = .ok (.getfield 13, 3) := by decide +kernel
theorem d_Ro_multiplyByR_24 : decode b_Ro_multiplyByR 24 = .ok (.aload_n 0, 1) := by decide +kernel
theorem d_Ro_multiplyByR_25 : decode b_Ro_multiplyByR 25 = .ok (.getfield 19, 3) := by decide +kernel
theorem d_Ro_multiplyByR_28 : decode b_Ro_multiplyByR 28 = .ok (.ladd, 1) := by decide +kernel
theorem d_Ro_multiplyByR_29 : decode b_Ro_multiplyByR 29 = .ok (.lstore 5, 2) := by decide +kernel
theorem d_Ro_multiplyByR_31 : decode b_Ro_multiplyByR 31 = .ok (.aload_n 0, 1) := by decide +kernel
theorem d_Ro_multiplyByR_32 : decode b_Ro_multiplyByR 32 = .ok (.getfield 16, 3) := by decide +kernel
theorem d_Ro_multiplyByR_35 : decode b_Ro_multiplyByR 35 = .ok (.aload_n 0, 1) := by decide +kernel
theorem d_Ro_multiplyByR_36 : decode b_Ro_multiplyByR 36 = .ok (.getfield 7, 3) := by decide +kernel
theorem d_Ro_multiplyByR_39 : decode b_Ro_multiplyByR 39 = .ok (.lsub, 1) := by decide +kernel
theorem d_Ro_multiplyByR_40 : decode b_Ro_multiplyByR 40 = .ok (.lstore 7, 2) := by decide +kernel
theorem d_Ro_multiplyByR_42 : decode b_Ro_multiplyByR 42 = .ok (.aload_n 0, 1) := by decide +kernel
theorem d_Ro_multiplyByR_43 : decode b_Ro_multiplyByR 43 = .ok (.lload_n 1, 1) := by decide +kernel
theorem d_Ro_multiplyByR_44 : decode b_Ro_multiplyByR 44 = .ok (.putfield 7, 3) := by decide +kernel
theorem d_Ro_multiplyByR_47 : decode b_Ro_multiplyByR 47 = .ok (.aload_n 0, 1) := by decide +kernel
theorem d_Ro_multiplyByR_48 : decode b_Ro_multiplyByR 48 = .ok (.lload_n 3, 1) := by decide +kernel
theorem d_Ro_multiplyByR_49 : decode b_Ro_multiplyByR 49 = .ok (.putfield 13, 3) := by decide +kernel
theorem d_Ro_multiplyByR_52 : decode b_Ro_multiplyByR 52 = .ok (.aload_n 0, 1) := by decide +kernel
theorem d_Ro_multiplyByR_53 : decode b_Ro_multiplyByR 53 = .ok (.lload 5, 2) := by decide +kernel
theorem d_Ro_multiplyByR_55 : decode b_Ro_multiplyByR 55 = .ok (.putfield 16, 3) := by decide +kernel
theorem d_Ro_multiplyByR_58 : decode b_Ro_multiplyByR 58 = .ok (.aload_n 0, 1) := by decide +kernel
theorem d_Ro_multiplyByR_59 : decode b_Ro_multiplyByR 59 = .ok (.lload 7, 2) := by decide +kernel
theorem d_Ro_multiplyByR_61 : decode b_Ro_multiplyByR 61 = .ok (.putfield 19, 3) := by decide +kernel
theorem d_Ro_multiplyByR_64 : decode b_Ro_multiplyByR 64 = .ok (.return_, 1) := by decide +kernel
theorem d_Ro_isMultipleOfR_0 : decode b_Ro_isMultipleOfR 0 = .ok (.aload_n 0, 1) := by decide +kernel
theorem d_Ro_isMultipleOfR_1 : decode b_Ro_isMultipleOfR 1 = .ok (.getfield 7, 3) := by decide +kernel
theorem d_Ro_isMultipleOfR_4 : decode b_Ro_isMultipleOfR 4 = .ok (.aload_n 0, 1) := by decide +kernel
theorem d_Ro_isMultipleOfR_5 : decode b_Ro_isMultipleOfR 5 = .ok (.getfield 16, 3) := by decide +kernel
theorem d_Ro_isMultipleOfR_8 : decode b_Ro_isMultipleOfR 8 = .ok (.lsub, 1) := by decide +kernel
theorem d_Ro_isMultipleOfR_9 : decode b_Ro_isMultipleOfR 9 = .ok (.ldc2_w 42, 3) := by decide +kernel
theorem d_Ro_isMultipleOfR_12 : decode b_Ro_isMultipleOfR 12 = .ok (.lrem, 1) := by decide +kernel
theorem d_Ro_isMultipleOfR_13 : decode b_Ro_isMultipleOfR 13 = .ok (.lconst 0, 1) := by decide +kernel
theorem d_Ro_isMultipleOfR_14 : decode b_Ro_isMultipleOfR 14 = .ok (.lcmp, 1) := by decide +kernel
theorem d_Ro_isMultipleOfR_15 : decode b_Ro_isMultipleOfR 15 = .ok (.ifCond .ne 25, 3) := by decide +kernel
theorem d_Ro_isMultipleOfR_18 : decode b_Ro_isMultipleOfR 18 = .ok (.aload_n 0, 1) := by decide +kernel
theorem d_Ro_isMultipleOfR_19 : decode b_Ro_isMultipleOfR 19 = .ok (.getfield 13, 3) := by decide +kernel
theorem d_Ro_isMultipleOfR_22 : decode b_Ro_isMultipleOfR 22 = .ok (.aload_n 0, 1) := by decide +kernel
theorem d_Ro_isMultipleOfR_23 : decode b_Ro_isMultipleOfR 23 = .ok (.getfield 19, 3) := by decide +kernel
theorem d_Ro_isMultipleOfR_26 : decode b_Ro_isMultipleOfR 26 = .ok (.lsub, 1) := by decide +kernel
theorem d_Ro_isMultipleOfR_27 : decode b_Ro_isMultipleOfR 27 = .ok (.ldc2_w 42, 3) := by decide +kernel
theorem d_Ro_isMultipleOfR_30 : decode b_Ro_isMultipleOfR 30 = .ok (.lrem, 1) := by decide +kernel
theorem d_Ro_isMultipleOfR_31 : decode b_Ro_isMultipleOfR 31 = .ok (.lconst 0, 1) := by decide +kernel
theorem d_Ro_isMultipleOfR_32 : decode b_Ro_isMultipleOfR 32 = .ok (.lcmp, 1) := by decide +kernel
theorem d_Ro_isMultipleOfR_33 : decode b_Ro_isMultipleOfR 33 = .ok (.ifCond .ne 7, 3) := by decide +kernel
theorem d_Ro_isMultipleOfR_36 : decode b_Ro_isMultipleOfR 36 = .ok (.iconst 1, 1) := by decide +kernel
theorem d_Ro_isMultipleOfR_37 : decode b_Ro_isMultipleOfR 37 = .ok (.goto 4, 3) := by decide +kernel
theorem d_Ro_isMultipleOfR_40 : decode b_Ro_isMultipleOfR 40 = .ok (.iconst 0, 1) := by decide +kernel
theorem d_Ro_isMultipleOfR_41 : decode b_Ro_isMultipleOfR 41 = .ok (.ireturn, 1) := by decide +kernel
theorem d_Ro_halve_0 : decode b_Ro_halve 0 = .ok (.aload_n 0, 1) := by decide +kernel
theorem d_Ro_halve_1 : decode b_Ro_halve 1 = .ok (.dup, 1) := by decide +kernel
theorem d_Ro_halve_2 : decode b_Ro_halve 2 = .ok (.getfield 7, 3) := by decide +kernel
theorem d_Ro_halve_5 : decode b_Ro_halve 5 = .ok (.ldc2_w 42, 3) := by decide +kernel
theorem d_Ro_halve_8 : decode b_Ro_halve 8 = .ok (.ldiv, 1) := by decide +kernel
theorem d_Ro_halve_9 : decode b_Ro_halve 9 = .ok (.putfield 7, 3) := by decide +kernel
theorem d_Ro_halve_12 : decode b_Ro_halve 12 = .ok (.aload_n 0, 1) := by decide +kernel
theorem d_Ro_halve_13 : decode b_Ro_halve 13 = .ok (.dup, 1) := by decide +kernel
theorem d_Ro_halve_14 : decode b_Ro_halve 14 = .ok (.getfield 13, 3) := by decide +kernel
theorem d_Ro_halve_17 : decode b_Ro_halve 17 = .ok (.ldc2_w 42, 3) := by decide +kernel
theorem d_Ro_halve_20 : decode b_Ro_halve 20 = .ok (.ldiv, 1) := by decide +kernel
theorem d_Ro_halve_21 : decode b_Ro_halve 21 = .ok (.putfield 13, 3) := by decide +kernel
theorem d_Ro_halve_24 : decode b_Ro_halve 24 = .ok (.aload_n 0, 1) := by decide +kernel
theorem d_Ro_halve_25 : decode b_Ro_halve 25 = .ok (.dup, 1) := by decide +kernel
theorem d_Ro_halve_26 : decode b_Ro_halve 26 = .ok (.getfield 16, 3) := by decide +kernel
theorem d_Ro_halve_29 : decode b_Ro_halve 29 = .ok (.ldc2_w 42, 3) := by decide +kernel
theorem d_Ro_halve_32 : decode b_Ro_halve 32 = .ok (.ldiv, 1) := by decide +kernel
theorem d_Ro_halve_33 : decode b_Ro_halve 33 = .ok (.putfield 16, 3) := by decide +kernel
theorem d_Ro_halve_36 : decode b_Ro_halve 36 = .ok (.aload_n 0, 1) := by decide +kernel
theorem d_Ro_halve_37 : decode b_Ro_halve 37 = .ok (.dup, 1) := by decide +kernel
theorem d_Ro_halve_38 : decode b_Ro_halve 38 = .ok (.getfield 19, 3) := by decide +kernel
theorem d_Ro_halve_41 : decode b_Ro_halve 41 = .ok (.ldc2_w 42, 3) := by decide +kernel
theorem d_Ro_halve_44 : decode b_Ro_halve 44 = .ok (.ldiv, 1) := by decide +kernel
theorem d_Ro_halve_45 : decode b_Ro_halve 45 = .ok (.putfield 19, 3) := by decide +kernel
theorem d_Ro_halve_48 : decode b_Ro_halve 48 = .ok (.return_, 1) := by decide +kernel
theorem d_Ro_look_0 : decode b_Ro_look 0 = .ok (.iload_n 1, 1) := by decide +kernel
theorem d_Ro_look_1 : decode b_Ro_look 1 = .ok (.tableswitch 51 0 3 #[31, 36, 41, 46], 31) := by decide +kernel
theorem d_Ro_look_32 : decode b_Ro_look 32 = .ok (.aload_n 0, 1) := by decide +kernel
theorem d_Ro_look_33 : decode b_Ro_look 33 = .ok (.getfield 7, 3) := by decide +kernel
theorem d_Ro_look_36 : decode b_Ro_look 36 = .ok (.lreturn, 1) := by decide +kernel
theorem d_Ro_look_37 : decode b_Ro_look 37 = .ok (.aload_n 0, 1) := by decide +kernel
theorem d_Ro_look_38 : decode b_Ro_look 38 = .ok (.getfield 13, 3) := by decide +kernel
theorem d_Ro_look_41 : decode b_Ro_look 41 = .ok (.lreturn, 1) := by decide +kernel
theorem d_Ro_look_42 : decode b_Ro_look 42 = .ok (.aload_n 0, 1) := by decide +kernel
theorem d_Ro_look_43 : decode b_Ro_look 43 = .ok (.getfield 16, 3) := by decide +kernel
theorem d_Ro_look_46 : decode b_Ro_look 46 = .ok (.lreturn, 1) := by decide +kernel
theorem d_Ro_look_47 : decode b_Ro_look 47 = .ok (.aload_n 0, 1) := by decide +kernel
theorem d_Ro_look_48 : decode b_Ro_look 48 = .ok (.getfield 19, 3) := by decide +kernel
theorem d_Ro_look_51 : decode b_Ro_look 51 = .ok (.lreturn, 1) := by decide +kernel
theorem d_Ro_look_52 : decode b_Ro_look 52 = .ok (.aload_n 0, 1) := by decide +kernel
theorem d_Ro_look_53 : decode b_Ro_look 53 = .ok (.getfield 31, 3) := by decide +kernel
theorem d_Ro_look_56 : decode b_Ro_look 56 = .ok (.i2l, 1) := by decide +kernel
theorem d_Ro_look_57 : decode b_Ro_look 57 = .ok (.lreturn, 1) := by decide +kernel
