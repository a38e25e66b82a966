theorem d_Md_init_0 : decode b_Md_init 0 = .ok (.aload_n 0, 1) := by decide +kernel
theorem d_Md_init_1 : decode b_Md_init 1 = .ok (.invokespecial 1, 3) := by decide +kernel
theorem d_Md_init_4 : decode b_Md_init 4 = .ok (.aload_n 0, 1) := by decide +kernel
theorem d_Md_init_5 : decode b_Md_init 5 = .ok (.sipush 15625, 3) := by decide +kernel
theorem d_Md_init_8 : decode b_Md_init 8 = .ok (.newarray .int, 2) := by decide +kernel
theorem d_Md_init_10 : decode b_Md_init 10 = .ok (.putfield 7, 3) := by decide +kernel
theorem d_Md_init_13 : decode b_Md_init 13 = .ok (.aload_n 0, 1) := by decide +kernel
theorem d_Md_init_14 : decode b_Md_init 14 = .ok (.bipush 6, 2) := by decide +kernel
theorem d_Md_init_16 : decode b_Md_init 16 = .ok (.newarray .int, 2) := by decide +kernel
theorem d_Md_init_18 : decode b_Md_init 18 = .ok (.putfield 13, 3) := by decide +kernel
theorem d_Md_init_21 : decode b_Md_init 21 = .ok (.aload_n 0, 1) := by decide +kernel
theorem d_Md_init_22 : decode b_Md_init 22 = .ok (.bipush 6, 2) := by decide +kernel
theorem d_Md_init_24 : decode b_Md_init 24 = .ok (.newarray .int, 2) := by decide +kernel
theorem d_Md_init_26 : decode b_Md_init 26 = .ok (.putfield 16, 3) := by decide +kernel
theorem d_Md_init_29 : decode b_Md_init 29 = .ok (.aload_n 0, 1) := by decide +kernel
theorem d_Md_init_30 : decode b_Md_init 30 = .ok (.bipush 24, 2) := by decide +kernel
theorem d_Md_init_32 : decode b_Md_init 32 = .ok (.newarray .int, 2) := by decide +kernel
theorem d_Md_init_34 : decode b_Md_init 34 = .ok (.putfield 19, 3) := by decide +kernel
theorem d_Md_init_37 : decode b_Md_init 37 = .ok (.aload_n 0, 1) := by decide +kernel
theorem d_Md_init_38 : decode b_Md_init 38 = .ok (.bipush 24, 2) := by decide +kernel
theorem d_Md_init_40 : decode b_Md_init 40 = .ok (.newarray .int, 2) := by decide +kernel
theorem d_Md_init_42 : decode b_Md_init 42 = .ok (.putfield 22, 3) := by decide +kernel
theorem d_Md_init_45 : decode b_Md_init 45 = .ok (.aload_n 0, 1) := by decide +kernel
theorem d_Md_init_46 : decode b_Md_init 46 = .ok (.bipush 24, 2) := by decide +kernel
theorem d_Md_init_48 : decode b_Md_init 48 = .ok (.newarray .int, 2) := by decide +kernel
theorem d_Md_init_50 : decode b_Md_init 50 = .ok (.putfield 25, 3) := by decide +kernel
theorem d_Md_init_53 : decode b_Md_init 53 = .ok (.aload_n 0, 1) := by decide +kernel
theorem d_Md_init_54 : decode b_Md_init 54 = .ok (.sipush 300, 3) := by decide +kernel
theorem d_Md_init_57 : decode b_Md_init 57 = .ok (.newarray .int, 2) := by decide +kernel
theorem d_Md_init_59 : decode b_Md_init 59 = .ok (.putfield 28, 3) := by decide +kernel
theorem d_Md_init_62 : decode b_Md_init 62 = .ok (.aload_n 0, 1) := by decide +kernel
theorem d_Md_init_63 : decode b_Md_init 63 = .ok (.sipush 300, 3) := by decide +kernel
theorem d_Md_init_66 : decode b_Md_init 66 = .ok (.newarray .int, 2) := by decide +kernel
theorem d_Md_init_68 : decode b_Md_init 68 = .ok (.putfield 31, 3) := by decide +kernel
theorem d_Md_init_71 : decode b_Md_init 71 = .ok (.aload_n 0, 1) := by decide +kernel
theorem d_Md_init_72 : decode b_Md_init 72 = .ok (.sipush 2325, 3) := by decide +kernel
theorem d_Md_init_75 : decode b_Md_init 75 = .ok (.newarray .int, 2) := by decide +kernel
theorem d_Md_init_77 : decode b_Md_init 77 = .ok (.putfield 34, 3) := by decide +kernel
theorem d_Md_init_80 : decode b_Md_init 80 = .ok (.aload_n 0, 1) := by decide +kernel
theorem d_Md_init_81 : decode b_Md_init 81 = .ok (.sipush 2325, 3) := by decide +kernel
theorem d_Md_init_84 : decode b_Md_init 84 = .ok (.newarray .int, 2) := by decide +kernel
theorem d_Md_init_86 : decode b_Md_init 86 = .ok (.putfield 37, 3) := by decide +kernel
theorem d_Md_init_89 : decode b_Md_init 89 = .ok (.aload_n 0, 1) := by decide +kernel
theorem d_Md_init_90 : decode b_Md_init 90 = .ok (.iconst 5, 1) := by decide +kernel
theorem d_Md_init_91 : decode b_Md_init 91 = .ok (.newarray .long, 2) := by decide +kernel
theorem d_Md_init_93 : decode b_Md_init 93 = .ok (.putfield 40, 3) := by decide +kernel
theorem d_Md_init_96 : decode b_Md_init 96 = .ok (.aload_n 0, 1) := by decide +kernel
theorem d_Md_init_97 : decode b_Md_init 97 = .ok (.iconst 1, 1) := by decide +kernel
theorem d_Md_init_98 : decode b_Md_init 98 = .ok (.invokevirtual 44, 3) := by decide +kernel
theorem d_Md_init_101 : decode b_Md_init 101 = .ok (.return_, 1) := by decide +kernel
theorem d_Md_thrown_0 : decode b_Md_thrown 0 = .ok (.aload_n 0, 1) := by decide +kernel
theorem d_Md_thrown_1 : decode b_Md_thrown 1 = .ok (.getfield 48, 3) := by decide +kernel
theorem d_Md_thrown_4 : decode b_Md_thrown 4 = .ok (.ireturn, 1) := by decide +kernel
theorem d_Md_count_0 : decode b_Md_count 0 = .ok (.iconst 0, 1) := by decide +kernel
theorem d_Md_count_1 : decode b_Md_count 1 = .ok (.istore_n 1, 1) := by decide +kernel
theorem d_Md_count_2 : decode b_Md_count 2 = .ok (.iconst 0, 1) := by decide +kernel
theorem d_Md_count_3 : decode b_Md_count 3 = .ok (.istore_n 2, 1) := by decide +kernel
theorem d_Md_count_4 : decode b_Md_count 4 = .ok (.iload_n 2, 1) := by decide +kernel
theorem d_Md_count_5 : decode b_Md_count 5 = .ok (.bipush 24, 2) := by decide +kernel
theorem d_Md_count_7 : decode b_Md_count 7 = .ok (.if_icmp .ge 17, 3) := by decide +kernel
theorem d_Md_count_10 : decode b_Md_count 10 = .ok (.iload_n 1, 1) := by decide +kernel
theorem d_Md_count_11 : decode b_Md_count 11 = .ok (.iload_n 0, 1) := by decide +kernel
theorem d_Md_count_12 : decode b_Md_count 12 = .ok (.iload_n 2, 1) := by decide +kernel
theorem d_Md_count_13 : decode b_Md_count 13 = .ok (.ishr, 1) := by decide +kernel
theorem d_Md_count_14 : decode b_Md_count 14 = .ok (.iconst 1, 1) := by decide +kernel
theorem d_Md_count_15 : decode b_Md_count 15 = .ok (.iand, 1) := by decide +kernel
theorem d_Md_count_16 : decode b_Md_count 16 = .ok (.iadd, 1) := by decide +kernel
theorem d_Md_count_17 : decode b_Md_count 17 = .ok (.istore_n 1, 1) := by decide +kernel
theorem d_Md_count_18 : decode b_Md_count 18 = .ok (.iinc 2 1, 3) := by decide +kernel
theorem d_Md_count_21 : decode b_Md_count 21 = .ok (.goto (-17), 3) := by decide +kernel
theorem d_Md_count_24 : decode b_Md_count 24 = .ok (.iload_n 1, 1) := by decide +kernel
theorem d_Md_count_25 : decode b_Md_count 25 = .ok (.ireturn, 1) := by decide +kernel
theorem d_Md_placeOf_0 : decode b_Md_placeOf 0 = .ok (.iconst 0, 1) := by decide +kernel
theorem d_Md_placeOf_1 : decode b_Md_placeOf 1 = .ok (.istore_n 1, 1) := by decide +kernel
theorem d_Md_placeOf_2 : decode b_Md_placeOf 2 = .ok (.iconst 0, 1) := by decide +kernel
theorem d_Md_placeOf_3 : decode b_Md_placeOf 3 = .ok (.istore_n 2, 1) := by decide +kernel
theorem d_Md_placeOf_4 : decode b_Md_placeOf 4 = .ok (.iconst 0, 1) := by decide +kernel
theorem d_Md_placeOf_5 : decode b_Md_placeOf 5 = .ok (.istore_n 3, 1) := by decide +kernel
theorem d_Md_placeOf_6 : decode b_Md_placeOf 6 = .ok (.iload_n 3, 1) := by decide +kernel
theorem d_Md_placeOf_7 : decode b_Md_placeOf 7 = .ok (.bipush 24, 2) := by decide +kernel
theorem d_Md_placeOf_9 : decode b_Md_placeOf 9 = .ok (.if_icmp .ge 30, 3) := by decide +kernel
theorem d_Md_placeOf_12 : decode b_Md_placeOf 12 = .ok (.iload_n 0, 1) := by decide +kernel
theorem d_Md_placeOf_13 : decode b_Md_placeOf 13 = .ok (.iload_n 3, 1) := by decide +kernel
theorem d_Md_placeOf_14 : decode b_Md_placeOf 14 = .ok (.ishr, 1) := by decide +kernel
theorem d_Md_placeOf_15 : decode b_Md_placeOf 15 = .ok (.iconst 1, 1) := by decide +kernel
theorem d_Md_placeOf_16 : decode b_Md_placeOf 16 = .ok (.iand, 1) := by decide +kernel
theorem d_Md_placeOf_17 : decode b_Md_placeOf 17 = .ok (.ifCond .ne 6, 3) := by decide +kernel
theorem d_Md_placeOf_20 : decode b_Md_placeOf 20 = .ok (.goto 13, 3) := by decide +kernel
theorem d_Md_placeOf_23 : decode b_Md_placeOf 23 = .ok (.bipush 25, 2) := by decide +kernel
theorem d_Md_placeOf_25 : decode b_Md_placeOf 25 = .ok (.iload_n 1, 1) := by decide +kernel
theorem d_Md_placeOf_26 : decode b_Md_placeOf 26 = .ok (.imul, 1) := by decide +kernel
theorem d_Md_placeOf_27 : decode b_Md_placeOf 27 = .ok (.iload_n 3, 1) := by decide +kernel
theorem d_Md_placeOf_28 : decode b_Md_placeOf 28 = .ok (.iadd, 1) := by decide +kernel
theorem d_Md_placeOf_29 : decode b_Md_placeOf 29 = .ok (.istore_n 1, 1) := by decide +kernel
theorem d_Md_placeOf_30 : decode b_Md_placeOf 30 = .ok (.iinc 2 1, 3) := by decide +kernel
theorem d_Md_placeOf_33 : decode b_Md_placeOf 33 = .ok (.iinc 3 1, 3) := by decide +kernel
theorem d_Md_placeOf_36 : decode b_Md_placeOf 36 = .ok (.goto (-30), 3) := by decide +kernel
theorem d_Md_placeOf_39 : decode b_Md_placeOf 39 = .ok (.iload_n 2, 1) := by decide +kernel
theorem d_Md_placeOf_40 : decode b_Md_placeOf 40 = .ok (.istore_n 3, 1) := by decide +kernel
theorem d_Md_placeOf_41 : decode b_Md_placeOf 41 = .ok (.iload_n 3, 1) := by decide +kernel
theorem d_Md_placeOf_42 : decode b_Md_placeOf 42 = .ok (.iconst 3, 1) := by decide +kernel
theorem d_Md_placeOf_43 : decode b_Md_placeOf 43 = .ok (.if_icmp .ge 17, 3) := by decide +kernel
theorem d_Md_placeOf_46 : decode b_Md_placeOf 46 = .ok (.bipush 25, 2) := by decide +kernel
theorem d_Md_placeOf_48 : decode b_Md_placeOf 48 = .ok (.iload_n 1, 1) := by decide +kernel
theorem d_Md_placeOf_49 : decode b_Md_placeOf 49 = .ok (.imul, 1) := by decide +kernel
theorem d_Md_placeOf_50 : decode b_Md_placeOf 50 = .ok (.bipush 24, 2) := by decide +kernel
theorem d_Md_placeOf_52 : decode b_Md_placeOf 52 = .ok (.iadd, 1) := by decide +kernel
theorem d_Md_placeOf_53 : decode b_Md_placeOf 53 = .ok (.istore_n 1, 1) := by decide +kernel
theorem d_Md_placeOf_54 : decode b_Md_placeOf 54 = .ok (.iinc 3 1, 3) := by decide +kernel
theorem d_Md_placeOf_57 : decode b_Md_placeOf 57 = .ok (.goto (-16), 3) := by decide +kernel
theorem d_Md_placeOf_60 : decode b_Md_placeOf 60 = .ok (.iload_n 1, 1) := by decide +kernel
theorem d_Md_placeOf_61 : decode b_Md_placeOf 61 = .ok (.ireturn, 1) := by decide +kernel
theorem d_Md_numberOf_0 : decode b_Md_numberOf 0 = .ok (.aload_n 0, 1) := by decide +kernel
theorem d_Md_numberOf_1 : decode b_Md_numberOf 1 = .ok (.getfield 7, 3) := by decide +kernel
theorem d_Md_numberOf_4 : decode b_Md_numberOf 4 = .ok (.iload_n 1, 1) := by decide +kernel
theorem d_Md_numberOf_5 : decode b_Md_numberOf 5 = .ok (.invokestatic 52, 3) := by decide +kernel
theorem d_Md_numberOf_8 : decode b_Md_numberOf 8 = .ok (.iaload, 1) := by decide +kernel
theorem d_Md_numberOf_9 : decode b_Md_numberOf 9 = .ok (.ireturn, 1) := by decide +kernel
theorem d_Md_add_0 : decode b_Md_add 0 = .ok (.iload_n 1, 1) := by decide +kernel
theorem d_Md_add_1 : decode b_Md_add 1 = .ok (.invokestatic 56, 3) := by decide +kernel
theorem d_Md_add_4 : decode b_Md_add 4 = .ok (.iconst 3, 1) := by decide +kernel
theorem d_Md_add_5 : decode b_Md_add 5 = .ok (.if_icmp .le 4, 3) := by decide +kernel
theorem d_Md_add_8 : decode b_Md_add 8 = .ok (.return_, 1) := by decide +kernel
theorem d_Md_add_9 : decode b_Md_add 9 = .ok (.iload_n 1, 1) := by decide +kernel
theorem d_Md_add_10 : decode b_Md_add 10 = .ok (.invokestatic 52, 3) := by decide +kernel
theorem d_Md_add_13 : decode b_Md_add 13 = .ok (.istore_n 3, 1) := by decide +kernel
theorem d_Md_add_14 : decode b_Md_add 14 = .ok (.aload_n 0, 1) := by decide +kernel
theorem d_Md_add_15 : decode b_Md_add 15 = .ok (.getfield 7, 3) := by decide +kernel
theorem d_Md_add_18 : decode b_Md_add 18 = .ok (.iload_n 3, 1) := by decide +kernel
theorem d_Md_add_19 : decode b_Md_add 19 = .ok (.aload_n 0, 1) := by decide +kernel
theorem d_Md_add_20 : decode b_Md_add 20 = .ok (.getfield 7, 3) := by decide +kernel
theorem d_Md_add_23 : decode b_Md_add 23 = .ok (.iload_n 3, 1) := by decide +kernel
theorem d_Md_add_24 : decode b_Md_add 24 = .ok (.iaload, 1) := by decide +kernel
theorem d_Md_add_25 : decode b_Md_add 25 = .ok (.iload_n 2, 1) := by decide +kernel
theorem d_Md_add_26 : decode b_Md_add 26 = .ok (.iadd, 1) := by decide +kernel
theorem d_Md_add_27 : decode b_Md_add 27 = .ok (.bipush 7, 2) := by decide +kernel
theorem d_Md_add_29 : decode b_Md_add 29 = .ok (.iand, 1) := by decide +kernel
theorem d_Md_add_30 : decode b_Md_add 30 = .ok (.iastore, 1) := by decide +kernel
theorem d_Md_add_31 : decode b_Md_add 31 = .ok (.return_, 1) := by decide +kernel
theorem d_Md_addOr_0 : decode b_Md_addOr 0 = .ok (.iload_n 2, 1) := by decide +kernel
theorem d_Md_addOr_1 : decode b_Md_addOr 1 = .ok (.iconst 1, 1) := by decide +kernel
theorem d_Md_addOr_2 : decode b_Md_addOr 2 = .ok (.if_icmp .ne 8, 3) := by decide +kernel
theorem d_Md_addOr_5 : decode b_Md_addOr 5 = .ok (.iload_n 3, 1) := by decide +kernel
theorem d_Md_addOr_6 : decode b_Md_addOr 6 = .ok (.ineg, 1) := by decide +kernel
theorem d_Md_addOr_7 : decode b_Md_addOr 7 = .ok (.goto 4, 3) := by decide +kernel
theorem d_Md_addOr_10 : decode b_Md_addOr 10 = .ok (.iload_n 3, 1) := by decide +kernel
theorem d_Md_addOr_11 : decode b_Md_addOr 11 = .ok (.istore 5, 2) := by decide +kernel
theorem d_Md_addOr_13 : decode b_Md_addOr 13 = .ok (.iload_n 2, 1) := by decide +kernel
theorem d_Md_addOr_14 : decode b_Md_addOr 14 = .ok (.iconst 1, 1) := by decide +kernel
theorem d_Md_addOr_15 : decode b_Md_addOr 15 = .ok (.if_icmp .ne 10, 3) := by decide +kernel
theorem d_Md_addOr_18 : decode b_Md_addOr 18 = .ok (.aload_n 0, 1) := by decide +kernel
theorem d_Md_addOr_19 : decode b_Md_addOr 19 = .ok (.iload 4, 2) := by decide +kernel
theorem d_Md_addOr_21 : decode b_Md_addOr 21 = .ok (.iload_n 3, 1) := by decide +kernel
theorem d_Md_addOr_22 : decode b_Md_addOr 22 = .ok (.invokevirtual 59, 3) := by decide +kernel
theorem d_Md_addOr_25 : decode b_Md_addOr 25 = .ok (.iconst 0, 1) := by decide +kernel
theorem d_Md_addOr_26 : decode b_Md_addOr 26 = .ok (.istore 6, 2) := by decide +kernel
theorem d_Md_addOr_28 : decode b_Md_addOr 28 = .ok (.iload 6, 2) := by decide +kernel
theorem d_Md_addOr_30 : decode b_Md_addOr 30 = .ok (.bipush 24, 2) := by decide +kernel
theorem d_Md_addOr_32 : decode b_Md_addOr 32 = .ok (.if_icmp .ge 134, 3) := by decide +kernel
theorem d_Md_addOr_35 : decode b_Md_addOr 35 = .ok (.iload_n 1, 1) := by decide +kernel
theorem d_Md_addOr_36 : decode b_Md_addOr 36 = .ok (.iload 6, 2) := by decide +kernel
theorem d_Md_addOr_38 : decode b_Md_addOr 38 = .ok (.ishr, 1) := by decide +kernel
theorem d_Md_addOr_39 : decode b_Md_addOr 39 = .ok (.iconst 1, 1) := by decide +kernel
theorem d_Md_addOr_40 : decode b_Md_addOr 40 = .ok (.iand, 1) := by decide +kernel
theorem d_Md_addOr_41 : decode b_Md_addOr 41 = .ok (.ifCond .ne 6, 3) := by decide +kernel
theorem d_Md_addOr_44 : decode b_Md_addOr 44 = .ok (.goto 116, 3) := by decide +kernel
theorem d_Md_addOr_47 : decode b_Md_addOr 47 = .ok (.aload_n 0, 1) := by decide +kernel
theorem d_Md_addOr_48 : decode b_Md_addOr 48 = .ok (.iload 4, 2) := by decide +kernel
theorem d_Md_addOr_50 : decode b_Md_addOr 50 = .ok (.iconst 1, 1) := by decide +kernel
theorem d_Md_addOr_51 : decode b_Md_addOr 51 = .ok (.iload 6, 2) := by decide +kernel
theorem d_Md_addOr_53 : decode b_Md_addOr 53 = .ok (.ishl, 1) := by decide +kernel
theorem d_Md_addOr_54 : decode b_Md_addOr 54 = .ok (.ior, 1) := by decide +kernel
theorem d_Md_addOr_55 : decode b_Md_addOr 55 = .ok (.iload 5, 2) := by decide +kernel
theorem d_Md_addOr_57 : decode b_Md_addOr 57 = .ok (.invokevirtual 59, 3) := by decide +kernel
theorem d_Md_addOr_60 : decode b_Md_addOr 60 = .ok (.iconst 0, 1) := by decide +kernel
theorem d_Md_addOr_61 : decode b_Md_addOr 61 = .ok (.istore 7, 2) := by decide +kernel
theorem d_Md_addOr_63 : decode b_Md_addOr 63 = .ok (.iload 7, 2) := by decide +kernel
theorem d_Md_addOr_65 : decode b_Md_addOr 65 = .ok (.iload 6, 2) := by decide +kernel
theorem d_Md_addOr_67 : decode b_Md_addOr 67 = .ok (.if_icmp .ge 93, 3) := by decide +kernel
theorem d_Md_addOr_70 : decode b_Md_addOr 70 = .ok (.iload_n 1, 1) := by decide +kernel
theorem d_Md_addOr_71 : decode b_Md_addOr 71 = .ok (.iload 7, 2) := by decide +kernel
theorem d_Md_addOr_73 : decode b_Md_addOr 73 = .ok (.ishr, 1) := by decide +kernel
theorem d_Md_addOr_74 : decode b_Md_addOr 74 = .ok (.iconst 1, 1) := by decide +kernel
theorem d_Md_addOr_75 : decode b_Md_addOr 75 = .ok (.iand, 1) := by decide +kernel
theorem d_Md_addOr_76 : decode b_Md_addOr 76 = .ok (.ifCond .ne 6, 3) := by decide +kernel
theorem d_Md_addOr_79 : decode b_Md_addOr 79 = .ok (.goto 75, 3) := by decide +kernel
theorem d_Md_addOr_82 : decode b_Md_addOr 82 = .ok (.aload_n 0, 1) := by decide +kernel
theorem d_Md_addOr_83 : decode b_Md_addOr 83 = .ok (.iload 4, 2) := by decide +kernel
theorem d_Md_addOr_85 : decode b_Md_addOr 85 = .ok (.iconst 1, 1) := by decide +kernel
theorem d_Md_addOr_86 : decode b_Md_addOr 86 = .ok (.iload 6, 2) := by decide +kernel
theorem d_Md_addOr_88 : decode b_Md_addOr 88 = .ok (.ishl, 1) := by decide +kernel
theorem d_Md_addOr_89 : decode b_Md_addOr 89 = .ok (.ior, 1) := by decide +kernel
theorem d_Md_addOr_90 : decode b_Md_addOr 90 = .ok (.iconst 1, 1) := by decide +kernel
theorem d_Md_addOr_91 : decode b_Md_addOr 91 = .ok (.iload 7, 2) := by decide +kernel
theorem d_Md_addOr_93 : decode b_Md_addOr 93 = .ok (.ishl, 1) := by decide +kernel
theorem d_Md_addOr_94 : decode b_Md_addOr 94 = .ok (.ior, 1) := by decide +kernel
theorem d_Md_addOr_95 : decode b_Md_addOr 95 = .ok (.bipush (-2), 2) := by decide +kernel
theorem d_Md_addOr_97 : decode b_Md_addOr 97 = .ok (.iload 5, 2) := by decide +kernel
theorem d_Md_addOr_99 : decode b_Md_addOr 99 = .ok (.imul, 1) := by decide +kernel
theorem d_Md_addOr_100 : decode b_Md_addOr 100 = .ok (.invokevirtual 59, 3) := by decide +kernel
theorem d_Md_addOr_103 : decode b_Md_addOr 103 = .ok (.iconst 0, 1) := by decide +kernel
theorem d_Md_addOr_104 : decode b_Md_addOr 104 = .ok (.istore 8, 2) := by decide +kernel
theorem d_Md_addOr_106 : decode b_Md_addOr 106 = .ok (.iload 8, 2) := by decide +kernel
theorem d_Md_addOr_108 : decode b_Md_addOr 108 = .ok (.iload 7, 2) := by decide +kernel
theorem d_Md_addOr_110 : decode b_Md_addOr 110 = .ok (.if_icmp .ge 44, 3) := by decide +kernel
theorem d_Md_addOr_113 : decode b_Md_addOr 113 = .ok (.iload_n 1, 1) := by decide +kernel
theorem d_Md_addOr_114 : decode b_Md_addOr 114 = .ok (.iload 8, 2) := by decide +kernel
theorem d_Md_addOr_116 : decode b_Md_addOr 116 = .ok (.ishr, 1) := by decide +kernel
theorem d_Md_addOr_117 : decode b_Md_addOr 117 = .ok (.iconst 1, 1) := by decide +kernel
theorem d_Md_addOr_118 : decode b_Md_addOr 118 = .ok (.iand, 1) := by decide +kernel
theorem d_Md_addOr_119 : decode b_Md_addOr 119 = .ok (.iconst 1, 1) := by decide +kernel
theorem d_Md_addOr_120 : decode b_Md_addOr 120 = .ok (.if_icmp .ne 28, 3) := by decide +kernel
theorem d_Md_addOr_123 : decode b_Md_addOr 123 = .ok (.aload_n 0, 1) := by decide +kernel
theorem d_Md_addOr_124 : decode b_Md_addOr 124 = .ok (.iload 4, 2) := by decide +kernel
theorem d_Md_addOr_126 : decode b_Md_addOr 126 = .ok (.iconst 1, 1) := by decide +kernel
theorem d_Md_addOr_127 : decode b_Md_addOr 127 = .ok (.iload 6, 2) := by decide +kernel
theorem d_Md_addOr_129 : decode b_Md_addOr 129 = .ok (.ishl, 1) := by decide +kernel
theorem d_Md_addOr_130 : decode b_Md_addOr 130 = .ok (.ior, 1) := by decide +kernel
theorem d_Md_addOr_131 : decode b_Md_addOr 131 = .ok (.iconst 1, 1) := by decide +kernel
theorem d_Md_addOr_132 : decode b_Md_addOr 132 = .ok (.iload 7, 2) := by decide +kernel
theorem d_Md_addOr_134 : decode b_Md_addOr 134 = .ok (.ishl, 1) := by decide +kernel
theorem d_Md_addOr_135 : decode b_Md_addOr 135 = .ok (.ior, 1) := by decide +kernel
theorem d_Md_addOr_136 : decode b_Md_addOr 136 = .ok (.iconst 1, 1) := by decide +kernel
theorem d_Md_addOr_137 : decode b_Md_addOr 137 = .ok (.iload 8, 2) := by decide +kernel
theorem d_Md_addOr_139 : decode b_Md_addOr 139 = .ok (.ishl, 1) := by decide +kernel
theorem d_Md_addOr_140 : decode b_Md_addOr 140 = .ok (.ior, 1) := by decide +kernel
theorem d_Md_addOr_141 : decode b_Md_addOr 141 = .ok (.iconst 4, 1) := by decide +kernel
theorem d_Md_addOr_142 : decode b_Md_addOr 142 = .ok (.iload 5, 2) := by decide +kernel
theorem d_Md_addOr_144 : decode b_Md_addOr 144 = .ok (.imul, 1) := by decide +kernel
theorem d_Md_addOr_145 : decode b_Md_addOr 145 = .ok (.invokevirtual 59, 3) := by decide +kernel
theorem d_Md_addOr_148 : decode b_Md_addOr 148 = .ok (.iinc 8 1, 3) := by decide +kernel
theorem d_Md_addOr_151 : decode b_Md_addOr 151 = .ok (.goto (-45), 3) := by decide +kernel
theorem d_Md_addOr_154 : decode b_Md_addOr 154 = .ok (.iinc 7 1, 3) := by decide +kernel
theorem d_Md_addOr_157 : decode b_Md_addOr 157 = .ok (.goto (-94), 3) := by decide +kernel
theorem d_Md_addOr_160 : decode b_Md_addOr 160 = .ok (.iinc 6 1, 3) := by decide +kernel
theorem d_Md_addOr_163 : decode b_Md_addOr 163 = .ok (.goto (-135), 3) := by decide +kernel
theorem d_Md_addOr_166 : decode b_Md_addOr 166 = .ok (.return_, 1) := by decide +kernel
theorem d_Md_addHalf_0 : decode b_Md_addHalf 0 = .ok (.aload_n 0, 1) := by decide +kernel
theorem d_Md_addHalf_1 : decode b_Md_addHalf 1 = .ok (.getfield 16, 3) := by decide +kernel
theorem d_Md_addHalf_4 : decode b_Md_addHalf 4 = .ok (.iload_n 1, 1) := by decide +kernel
theorem d_Md_addHalf_5 : decode b_Md_addHalf 5 = .ok (.iaload, 1) := by decide +kernel
theorem d_Md_addHalf_6 : decode b_Md_addHalf 6 = .ok (.iconst 1, 1) := by decide +kernel
theorem d_Md_addHalf_7 : decode b_Md_addHalf 7 = .ok (.if_icmp .ne 9, 3) := by decide +kernel
theorem d_Md_addHalf_10 : decode b_Md_addHalf 10 = .ok (.aload_n 0, 1) := by decide +kernel
theorem d_Md_addHalf_11 : decode b_Md_addHalf 11 = .ok (.iload_n 2, 1) := by decide +kernel
theorem d_Md_addHalf_12 : decode b_Md_addHalf 12 = .ok (.iconst 4, 1) := by decide +kernel
theorem d_Md_addHalf_13 : decode b_Md_addHalf 13 = .ok (.invokevirtual 59, 3) := by decide +kernel
theorem d_Md_addHalf_16 : decode b_Md_addHalf 16 = .ok (.iconst 0, 1) := by decide +kernel
theorem d_Md_addHalf_17 : decode b_Md_addHalf 17 = .ok (.istore_n 3, 1) := by decide +kernel
theorem d_Md_addHalf_18 : decode b_Md_addHalf 18 = .ok (.iload_n 3, 1) := by decide +kernel
theorem d_Md_addHalf_19 : decode b_Md_addHalf 19 = .ok (.bipush 24, 2) := by decide +kernel
theorem d_Md_addHalf_21 : decode b_Md_addHalf 21 = .ok (.if_icmp .ge 33, 3) := by decide +kernel
theorem d_Md_addHalf_24 : decode b_Md_addHalf 24 = .ok (.aload_n 0, 1) := by decide +kernel
theorem d_Md_addHalf_25 : decode b_Md_addHalf 25 = .ok (.getfield 13, 3) := by decide +kernel
theorem d_Md_addHalf_28 : decode b_Md_addHalf 28 = .ok (.iload_n 1, 1) := by decide +kernel
theorem d_Md_addHalf_29 : decode b_Md_addHalf 29 = .ok (.iaload, 1) := by decide +kernel
theorem d_Md_addHalf_30 : decode b_Md_addHalf 30 = .ok (.iload_n 3, 1) := by decide +kernel
theorem d_Md_addHalf_31 : decode b_Md_addHalf 31 = .ok (.ishr, 1) := by decide +kernel
theorem d_Md_addHalf_32 : decode b_Md_addHalf 32 = .ok (.iconst 1, 1) := by decide +kernel
theorem d_Md_addHalf_33 : decode b_Md_addHalf 33 = .ok (.iand, 1) := by decide +kernel
theorem d_Md_addHalf_34 : decode b_Md_addHalf 34 = .ok (.iconst 1, 1) := by decide +kernel
theorem d_Md_addHalf_35 : decode b_Md_addHalf 35 = .ok (.if_icmp .ne 13, 3) := by decide +kernel
theorem d_Md_addHalf_38 : decode b_Md_addHalf 38 = .ok (.aload_n 0, 1) := by decide +kernel
theorem d_Md_addHalf_39 : decode b_Md_addHalf 39 = .ok (.iload_n 2, 1) := by decide +kernel
theorem d_Md_addHalf_40 : decode b_Md_addHalf 40 = .ok (.iconst 1, 1) := by decide +kernel
theorem d_Md_addHalf_41 : decode b_Md_addHalf 41 = .ok (.iload_n 3, 1) := by decide +kernel
theorem d_Md_addHalf_42 : decode b_Md_addHalf 42 = .ok (.ishl, 1) := by decide +kernel
theorem d_Md_addHalf_43 : decode b_Md_addHalf 43 = .ok (.ior, 1) := by decide +kernel
theorem d_Md_addHalf_44 : decode b_Md_addHalf 44 = .ok (.iconst 4, 1) := by decide +kernel
theorem d_Md_addHalf_45 : decode b_Md_addHalf 45 = .ok (.invokevirtual 59, 3) := by decide +kernel
theorem d_Md_addHalf_48 : decode b_Md_addHalf 48 = .ok (.iinc 3 1, 3) := by decide +kernel
theorem d_Md_addHalf_51 : decode b_Md_addHalf 51 = .ok (.goto (-33), 3) := by decide +kernel
theorem d_Md_addHalf_54 : decode b_Md_addHalf 54 = .ok (.return_, 1) := by decide +kernel
theorem d_Md_addTwo_0 : decode b_Md_addTwo 0 = .ok (.aload_n 0, 1) := by decide +kernel
theorem d_Md_addTwo_1 : decode b_Md_addTwo 1 = .ok (.getfield 16, 3) := by decide +kernel
theorem d_Md_addTwo_4 : decode b_Md_addTwo 4 = .ok (.iload_n 1, 1) := by decide +kernel
theorem d_Md_addTwo_5 : decode b_Md_addTwo 5 = .ok (.iaload, 1) := by decide +kernel
theorem d_Md_addTwo_6 : decode b_Md_addTwo 6 = .ok (.iconst 1, 1) := by decide +kernel
theorem d_Md_addTwo_7 : decode b_Md_addTwo 7 = .ok (.if_icmp .ne 9, 3) := by decide +kernel
theorem d_Md_addTwo_10 : decode b_Md_addTwo 10 = .ok (.aload_n 0, 1) := by decide +kernel
theorem d_Md_addTwo_11 : decode b_Md_addTwo 11 = .ok (.iload_n 2, 1) := by decide +kernel
theorem d_Md_addTwo_12 : decode b_Md_addTwo 12 = .ok (.iload_n 3, 1) := by decide +kernel
theorem d_Md_addTwo_13 : decode b_Md_addTwo 13 = .ok (.invokevirtual 63, 3) := by decide +kernel
theorem d_Md_addTwo_16 : decode b_Md_addTwo 16 = .ok (.iconst 0, 1) := by decide +kernel
theorem d_Md_addTwo_17 : decode b_Md_addTwo 17 = .ok (.istore 4, 2) := by decide +kernel
theorem d_Md_addTwo_19 : decode b_Md_addTwo 19 = .ok (.iload 4, 2) := by decide +kernel
theorem d_Md_addTwo_21 : decode b_Md_addTwo 21 = .ok (.bipush 24, 2) := by decide +kernel
theorem d_Md_addTwo_23 : decode b_Md_addTwo 23 = .ok (.if_icmp .ge 35, 3) := by decide +kernel
theorem d_Md_addTwo_26 : decode b_Md_addTwo 26 = .ok (.aload_n 0, 1) := by decide +kernel
theorem d_Md_addTwo_27 : decode b_Md_addTwo 27 = .ok (.getfield 13, 3) := by decide +kernel
theorem d_Md_addTwo_30 : decode b_Md_addTwo 30 = .ok (.iload_n 1, 1) := by decide +kernel
theorem d_Md_addTwo_31 : decode b_Md_addTwo 31 = .ok (.iaload, 1) := by decide +kernel
theorem d_Md_addTwo_32 : decode b_Md_addTwo 32 = .ok (.iload 4, 2) := by decide +kernel
theorem d_Md_addTwo_34 : decode b_Md_addTwo 34 = .ok (.ishr, 1) := by decide +kernel
theorem d_Md_addTwo_35 : decode b_Md_addTwo 35 = .ok (.iconst 1, 1) := by decide +kernel
theorem d_Md_addTwo_36 : decode b_Md_addTwo 36 = .ok (.iand, 1) := by decide +kernel
theorem d_Md_addTwo_37 : decode b_Md_addTwo 37 = .ok (.iconst 1, 1) := by decide +kernel
theorem d_Md_addTwo_38 : decode b_Md_addTwo 38 = .ok (.if_icmp .ne 14, 3) := by decide +kernel
theorem d_Md_addTwo_41 : decode b_Md_addTwo 41 = .ok (.aload_n 0, 1) := by decide +kernel
theorem d_Md_addTwo_42 : decode b_Md_addTwo 42 = .ok (.iload_n 2, 1) := by decide +kernel
theorem d_Md_addTwo_43 : decode b_Md_addTwo 43 = .ok (.iload_n 3, 1) := by decide +kernel
theorem d_Md_addTwo_44 : decode b_Md_addTwo 44 = .ok (.iconst 1, 1) := by decide +kernel
theorem d_Md_addTwo_45 : decode b_Md_addTwo 45 = .ok (.iload 4, 2) := by decide +kernel
theorem d_Md_addTwo_47 : decode b_Md_addTwo 47 = .ok (.ishl, 1) := by decide +kernel
theorem d_Md_addTwo_48 : decode b_Md_addTwo 48 = .ok (.ior, 1) := by decide +kernel
theorem d_Md_addTwo_49 : decode b_Md_addTwo 49 = .ok (.invokevirtual 63, 3) := by decide +kernel
theorem d_Md_addTwo_52 : decode b_Md_addTwo 52 = .ok (.iinc 4 1, 3) := by decide +kernel
theorem d_Md_addTwo_55 : decode b_Md_addTwo 55 = .ok (.goto (-36), 3) := by decide +kernel
theorem d_Md_addTwo_58 : decode b_Md_addTwo 58 = .ok (.return_, 1) := by decide +kernel
theorem d_Md_addThree_0 : decode b_Md_addThree 0 = .ok (.aload_n 0, 1) := by decide +kernel
theorem d_Md_addThree_1 : decode b_Md_addThree 1 = .ok (.getfield 16, 3) := by decide +kernel
theorem d_Md_addThree_4 : decode b_Md_addThree 4 = .ok (.iload_n 1, 1) := by decide +kernel
theorem d_Md_addThree_5 : decode b_Md_addThree 5 = .ok (.iaload, 1) := by decide +kernel
theorem d_Md_addThree_6 : decode b_Md_addThree 6 = .ok (.iconst 1, 1) := by decide +kernel
theorem d_Md_addThree_7 : decode b_Md_addThree 7 = .ok (.if_icmp .ne 10, 3) := by decide +kernel
theorem d_Md_addThree_10 : decode b_Md_addThree 10 = .ok (.aload_n 0, 1) := by decide +kernel
theorem d_Md_addThree_11 : decode b_Md_addThree 11 = .ok (.iload_n 2, 1) := by decide +kernel
theorem d_Md_addThree_12 : decode b_Md_addThree 12 = .ok (.iload_n 3, 1) := by decide +kernel
theorem d_Md_addThree_13 : decode b_Md_addThree 13 = .ok (.iconst 0, 1) := by decide +kernel
theorem d_Md_addThree_14 : decode b_Md_addThree 14 = .ok (.invokevirtual 66, 3) := by decide +kernel
theorem d_Md_addThree_17 : decode b_Md_addThree 17 = .ok (.iconst 0, 1) := by decide +kernel
theorem d_Md_addThree_18 : decode b_Md_addThree 18 = .ok (.istore 4, 2) := by decide +kernel
theorem d_Md_addThree_20 : decode b_Md_addThree 20 = .ok (.iload 4, 2) := by decide +kernel
theorem d_Md_addThree_22 : decode b_Md_addThree 22 = .ok (.bipush 24, 2) := by decide +kernel
theorem d_Md_addThree_24 : decode b_Md_addThree 24 = .ok (.if_icmp .ge 34, 3) := by decide +kernel
theorem d_Md_addThree_27 : decode b_Md_addThree 27 = .ok (.aload_n 0, 1) := by decide +kernel
theorem d_Md_addThree_28 : decode b_Md_addThree 28 = .ok (.getfield 13, 3) := by decide +kernel
theorem d_Md_addThree_31 : decode b_Md_addThree 31 = .ok (.iload_n 1, 1) := by decide +kernel
theorem d_Md_addThree_32 : decode b_Md_addThree 32 = .ok (.iaload, 1) := by decide +kernel
theorem d_Md_addThree_33 : decode b_Md_addThree 33 = .ok (.iload 4, 2) := by decide +kernel
theorem d_Md_addThree_35 : decode b_Md_addThree 35 = .ok (.ishr, 1) := by decide +kernel
theorem d_Md_addThree_36 : decode b_Md_addThree 36 = .ok (.iconst 1, 1) := by decide +kernel
theorem d_Md_addThree_37 : decode b_Md_addThree 37 = .ok (.iand, 1) := by decide +kernel
theorem d_Md_addThree_38 : decode b_Md_addThree 38 = .ok (.iconst 1, 1) := by decide +kernel
theorem d_Md_addThree_39 : decode b_Md_addThree 39 = .ok (.if_icmp .ne 13, 3) := by decide +kernel
theorem d_Md_addThree_42 : decode b_Md_addThree 42 = .ok (.aload_n 0, 1) := by decide +kernel
theorem d_Md_addThree_43 : decode b_Md_addThree 43 = .ok (.iload_n 2, 1) := by decide +kernel
theorem d_Md_addThree_44 : decode b_Md_addThree 44 = .ok (.iload_n 3, 1) := by decide +kernel
theorem d_Md_addThree_45 : decode b_Md_addThree 45 = .ok (.iconst 1, 1) := by decide +kernel
theorem d_Md_addThree_46 : decode b_Md_addThree 46 = .ok (.iload 4, 2) := by decide +kernel
theorem d_Md_addThree_48 : decode b_Md_addThree 48 = .ok (.ishl, 1) := by decide +kernel
theorem d_Md_addThree_49 : decode b_Md_addThree 49 = .ok (.invokevirtual 66, 3) := by decide +kernel
theorem d_Md_addThree_52 : decode b_Md_addThree 52 = .ok (.iinc 4 1, 3) := by decide +kernel
theorem d_Md_addThree_55 : decode b_Md_addThree 55 = .ok (.goto (-35), 3) := by decide +kernel
theorem d_Md_addThree_58 : decode b_Md_addThree 58 = .ok (.return_, 1) := by decide +kernel
theorem d_Md_start_0 : decode b_Md_start 0 = .ok (.aload_n 0, 1) := by decide +kernel
theorem d_Md_start_1 : decode b_Md_start 1 = .ok (.iload_n 1, 1) := by decide +kernel
theorem d_Md_start_2 : decode b_Md_start 2 = .ok (.putfield 70, 3) := by decide +kernel
theorem d_Md_start_5 : decode b_Md_start 5 = .ok (.aload_n 0, 1) := by decide +kernel
theorem d_Md_start_6 : decode b_Md_start 6 = .ok (.iconst 0, 1) := by decide +kernel
theorem d_Md_start_7 : decode b_Md_start 7 = .ok (.putfield 73, 3) := by decide +kernel
theorem d_Md_start_10 : decode b_Md_start 10 = .ok (.aload_n 0, 1) := by decide +kernel
theorem d_Md_start_11 : decode b_Md_start 11 = .ok (.iconst 0, 1) := by decide +kernel
theorem d_Md_start_12 : decode b_Md_start 12 = .ok (.putfield 77, 3) := by decide +kernel
theorem d_Md_start_15 : decode b_Md_start 15 = .ok (.aload_n 0, 1) := by decide +kernel
theorem d_Md_start_16 : decode b_Md_start 16 = .ok (.iconst 0, 1) := by decide +kernel
theorem d_Md_start_17 : decode b_Md_start 17 = .ok (.putfield 80, 3) := by decide +kernel
theorem d_Md_start_20 : decode b_Md_start 20 = .ok (.aload_n 0, 1) := by decide +kernel
theorem d_Md_start_21 : decode b_Md_start 21 = .ok (.iconst 0, 1) := by decide +kernel
theorem d_Md_start_22 : decode b_Md_start 22 = .ok (.putfield 83, 3) := by decide +kernel
theorem d_Md_start_25 : decode b_Md_start 25 = .ok (.aload_n 0, 1) := by decide +kernel
theorem d_Md_start_26 : decode b_Md_start 26 = .ok (.iconst 0, 1) := by decide +kernel
theorem d_Md_start_27 : decode b_Md_start 27 = .ok (.putfield 86, 3) := by decide +kernel
theorem d_Md_start_30 : decode b_Md_start 30 = .ok (.aload_n 0, 1) := by decide +kernel
theorem d_Md_start_31 : decode b_Md_start 31 = .ok (.iconst 0, 1) := by decide +kernel
theorem d_Md_start_32 : decode b_Md_start 32 = .ok (.putfield 89, 3) := by decide +kernel
theorem d_Md_start_35 : decode b_Md_start 35 = .ok (.iconst 0, 1) := by decide +kernel
theorem d_Md_start_36 : decode b_Md_start 36 = .ok (.istore_n 2, 1) := by decide +kernel
theorem d_Md_start_37 : decode b_Md_start 37 = .ok (.iload_n 2, 1) := by decide +kernel
theorem d_Md_start_38 : decode b_Md_start 38 = .ok (.sipush 15625, 3) := by decide +kernel
theorem d_Md_start_41 : decode b_Md_start 41 = .ok (.if_icmp .ge 16, 3) := by decide +kernel
theorem d_Md_start_44 : decode b_Md_start 44 = .ok (.aload_n 0, 1) := by decide +kernel
theorem d_Md_start_45 : decode b_Md_start 45 = .ok (.getfield 7, 3) := by decide +kernel
theorem d_Md_start_48 : decode b_Md_start 48 = .ok (.iload_n 2, 1) := by decide +kernel
theorem d_Md_start_49 : decode b_Md_start 49 = .ok (.iconst 0, 1) := by decide +kernel
theorem d_Md_start_50 : decode b_Md_start 50 = .ok (.iastore, 1) := by decide +kernel
theorem d_Md_start_51 : decode b_Md_start 51 = .ok (.iinc 2 1, 3) := by decide +kernel
theorem d_Md_start_54 : decode b_Md_start 54 = .ok (.goto (-17), 3) := by decide +kernel
theorem d_Md_start_57 : decode b_Md_start 57 = .ok (.iconst 0, 1) := by decide +kernel
theorem d_Md_start_58 : decode b_Md_start 58 = .ok (.istore_n 2, 1) := by decide +kernel
theorem d_Md_start_59 : decode b_Md_start 59 = .ok (.iload_n 2, 1) := by decide +kernel
theorem d_Md_start_60 : decode b_Md_start 60 = .ok (.bipush 6, 2) := by decide +kernel
theorem d_Md_start_62 : decode b_Md_start 62 = .ok (.if_icmp .ge 23, 3) := by decide +kernel
theorem d_Md_start_65 : decode b_Md_start 65 = .ok (.aload_n 0, 1) := by decide +kernel
theorem d_Md_start_66 : decode b_Md_start 66 = .ok (.getfield 13, 3) := by decide +kernel
theorem d_Md_start_69 : decode b_Md_start 69 = .ok (.iload_n 2, 1) := by decide +kernel
theorem d_Md_start_70 : decode b_Md_start 70 = .ok (.iconst 0, 1) := by decide +kernel
theorem d_Md_start_71 : decode b_Md_start 71 = .ok (.iastore, 1) := by decide +kernel
theorem d_Md_start_72 : decode b_Md_start 72 = .ok (.aload_n 0, 1) := by decide +kernel
theorem d_Md_start_73 : decode b_Md_start 73 = .ok (.getfield 16, 3) := by decide +kernel
theorem d_Md_start_76 : decode b_Md_start 76 = .ok (.iload_n 2, 1) := by decide +kernel
theorem d_Md_start_77 : decode b_Md_start 77 = .ok (.iconst 0, 1) := by decide +kernel
theorem d_Md_start_78 : decode b_Md_start 78 = .ok (.iastore, 1) := by decide +kernel
theorem d_Md_start_79 : decode b_Md_start 79 = .ok (.iinc 2 1, 3) := by decide +kernel
theorem d_Md_start_82 : decode b_Md_start 82 = .ok (.goto (-23), 3) := by decide +kernel
theorem d_Md_start_85 : decode b_Md_start 85 = .ok (.return_, 1) := by decide +kernel
theorem d_Md_begin_0 : decode b_Md_begin 0 = .ok (.aload_n 0, 1) := by decide +kernel
theorem d_Md_begin_1 : decode b_Md_begin 1 = .ok (.iconst 0, 1) := by decide +kernel
theorem d_Md_begin_2 : decode b_Md_begin 2 = .ok (.putfield 48, 3) := by decide +kernel
theorem d_Md_begin_5 : decode b_Md_begin 5 = .ok (.iload_n 1, 1) := by decide +kernel
theorem d_Md_begin_6 : decode b_Md_begin 6 = .ok (.iconst 1, 1) := by decide +kernel
theorem d_Md_begin_7 : decode b_Md_begin 7 = .ok (.if_icmp .lt 20, 3) := by decide +kernel
theorem d_Md_begin_10 : decode b_Md_begin 10 = .ok (.iload_n 1, 1) := by decide +kernel
theorem d_Md_begin_11 : decode b_Md_begin 11 = .ok (.bipush 6, 2) := by decide +kernel
theorem d_Md_begin_13 : decode b_Md_begin 13 = .ok (.if_icmp .gt 14, 3) := by decide +kernel
theorem d_Md_begin_16 : decode b_Md_begin 16 = .ok (.iload_n 2, 1) := by decide +kernel
theorem d_Md_begin_17 : decode b_Md_begin 17 = .ok (.ifCond .lt 10, 3) := by decide +kernel
theorem d_Md_begin_20 : decode b_Md_begin 20 = .ok (.iload_n 2, 1) := by decide +kernel
theorem d_Md_begin_21 : decode b_Md_begin 21 = .ok (.iconst 1, 1) := by decide +kernel
theorem d_Md_begin_22 : decode b_Md_begin 22 = .ok (.iload_n 1, 1) := by decide +kernel
theorem d_Md_begin_23 : decode b_Md_begin 23 = .ok (.ishl, 1) := by decide +kernel
theorem d_Md_begin_24 : decode b_Md_begin 24 = .ok (.if_icmp .lt 5, 3) := by decide +kernel
theorem d_Md_begin_27 : decode b_Md_begin 27 = .ok (.iconst 0, 1) := by decide +kernel
theorem d_Md_begin_28 : decode b_Md_begin 28 = .ok (.ireturn, 1) := by decide +kernel
theorem d_Md_begin_29 : decode b_Md_begin 29 = .ok (.aload_n 0, 1) := by decide +kernel
theorem d_Md_begin_30 : decode b_Md_begin 30 = .ok (.iload_n 1, 1) := by decide +kernel
theorem d_Md_begin_31 : decode b_Md_begin 31 = .ok (.invokevirtual 44, 3) := by decide +kernel
theorem d_Md_begin_34 : decode b_Md_begin 34 = .ok (.iconst 0, 1) := by decide +kernel
theorem d_Md_begin_35 : decode b_Md_begin 35 = .ok (.istore_n 3, 1) := by decide +kernel
theorem d_Md_begin_36 : decode b_Md_begin 36 = .ok (.iload_n 3, 1) := by decide +kernel
theorem d_Md_begin_37 : decode b_Md_begin 37 = .ok (.iload_n 1, 1) := by decide +kernel
theorem d_Md_begin_38 : decode b_Md_begin 38 = .ok (.if_icmp .ge 20, 3) := by decide +kernel
theorem d_Md_begin_41 : decode b_Md_begin 41 = .ok (.aload_n 0, 1) := by decide +kernel
theorem d_Md_begin_42 : decode b_Md_begin 42 = .ok (.getfield 16, 3) := by decide +kernel
theorem d_Md_begin_45 : decode b_Md_begin 45 = .ok (.iload_n 3, 1) := by decide +kernel
theorem d_Md_begin_46 : decode b_Md_begin 46 = .ok (.iload_n 2, 1) := by decide +kernel
theorem d_Md_begin_47 : decode b_Md_begin 47 = .ok (.iload_n 3, 1) := by decide +kernel
theorem d_Md_begin_48 : decode b_Md_begin 48 = .ok (.ishr, 1) := by decide +kernel
theorem d_Md_begin_49 : decode b_Md_begin 49 = .ok (.iconst 1, 1) := by decide +kernel
theorem d_Md_begin_50 : decode b_Md_begin 50 = .ok (.iand, 1) := by decide +kernel
theorem d_Md_begin_51 : decode b_Md_begin 51 = .ok (.iastore, 1) := by decide +kernel
theorem d_Md_begin_52 : decode b_Md_begin 52 = .ok (.iinc 3 1, 3) := by decide +kernel
theorem d_Md_begin_55 : decode b_Md_begin 55 = .ok (.goto (-19), 3) := by decide +kernel
theorem d_Md_begin_58 : decode b_Md_begin 58 = .ok (.iconst 1, 1) := by decide +kernel
theorem d_Md_begin_59 : decode b_Md_begin 59 = .ok (.ireturn, 1) := by decide +kernel
theorem d_Md_open_0 : decode b_Md_open 0 = .ok (.aload_n 0, 1) := by decide +kernel
theorem d_Md_open_1 : decode b_Md_open 1 = .ok (.iconst 0, 1) := by decide +kernel
theorem d_Md_open_2 : decode b_Md_open 2 = .ok (.putfield 48, 3) := by decide +kernel
theorem d_Md_open_5 : decode b_Md_open 5 = .ok (.iload_n 1, 1) := by decide +kernel
theorem d_Md_open_6 : decode b_Md_open 6 = .ok (.iconst 1, 1) := by decide +kernel
theorem d_Md_open_7 : decode b_Md_open 7 = .ok (.if_icmp .lt 9, 3) := by decide +kernel
theorem d_Md_open_10 : decode b_Md_open 10 = .ok (.iload_n 1, 1) := by decide +kernel
theorem d_Md_open_11 : decode b_Md_open 11 = .ok (.bipush 6, 2) := by decide +kernel
theorem d_Md_open_13 : decode b_Md_open 13 = .ok (.if_icmp .le 5, 3) := by decide +kernel
theorem d_Md_open_16 : decode b_Md_open 16 = .ok (.iconst 0, 1) := by decide +kernel
theorem d_Md_open_17 : decode b_Md_open 17 = .ok (.ireturn, 1) := by decide +kernel
theorem d_Md_open_18 : decode b_Md_open 18 = .ok (.aload_n 0, 1) := by decide +kernel
theorem d_Md_open_19 : decode b_Md_open 19 = .ok (.iload_n 1, 1) := by decide +kernel
theorem d_Md_open_20 : decode b_Md_open 20 = .ok (.invokevirtual 44, 3) := by decide +kernel
theorem d_Md_open_23 : decode b_Md_open 23 = .ok (.aload_n 0, 1) := by decide +kernel
theorem d_Md_open_24 : decode b_Md_open 24 = .ok (.iconst 1, 1) := by decide +kernel
theorem d_Md_open_25 : decode b_Md_open 25 = .ok (.putfield 73, 3) := by decide +kernel
theorem d_Md_open_28 : decode b_Md_open 28 = .ok (.aload_n 0, 1) := by decide +kernel
theorem d_Md_open_29 : decode b_Md_open 29 = .ok (.iload_n 1, 1) := by decide +kernel
theorem d_Md_open_30 : decode b_Md_open 30 = .ok (.putfield 80, 3) := by decide +kernel
theorem d_Md_open_33 : decode b_Md_open 33 = .ok (.aload_n 0, 1) := by decide +kernel
theorem d_Md_open_34 : decode b_Md_open 34 = .ok (.iconst 1, 1) := by decide +kernel
theorem d_Md_open_35 : decode b_Md_open 35 = .ok (.iload_n 1, 1) := by decide +kernel
theorem d_Md_open_36 : decode b_Md_open 36 = .ok (.ishl, 1) := by decide +kernel
theorem d_Md_open_37 : decode b_Md_open 37 = .ok (.iconst 1, 1) := by decide +kernel
theorem d_Md_open_38 : decode b_Md_open 38 = .ok (.isub, 1) := by decide +kernel
theorem d_Md_open_39 : decode b_Md_open 39 = .ok (.putfield 83, 3) := by decide +kernel
theorem d_Md_open_42 : decode b_Md_open 42 = .ok (.iconst 0, 1) := by decide +kernel
theorem d_Md_open_43 : decode b_Md_open 43 = .ok (.istore_n 2, 1) := by decide +kernel
theorem d_Md_open_44 : decode b_Md_open 44 = .ok (.iload_n 2, 1) := by decide +kernel
theorem d_Md_open_45 : decode b_Md_open 45 = .ok (.iload_n 1, 1) := by decide +kernel
theorem d_Md_open_46 : decode b_Md_open 46 = .ok (.if_icmp .ge 18, 3) := by decide +kernel
theorem d_Md_open_49 : decode b_Md_open 49 = .ok (.aload_n 0, 1) := by decide +kernel
theorem d_Md_open_50 : decode b_Md_open 50 = .ok (.getfield 13, 3) := by decide +kernel
theorem d_Md_open_53 : decode b_Md_open 53 = .ok (.iload_n 2, 1) := by decide +kernel
theorem d_Md_open_54 : decode b_Md_open 54 = .ok (.iconst 1, 1) := by decide +kernel
theorem d_Md_open_55 : decode b_Md_open 55 = .ok (.iload_n 2, 1) := by decide +kernel
theorem d_Md_open_56 : decode b_Md_open 56 = .ok (.ishl, 1) := by decide +kernel
theorem d_Md_open_57 : decode b_Md_open 57 = .ok (.iastore, 1) := by decide +kernel
theorem d_Md_open_58 : decode b_Md_open 58 = .ok (.iinc 2 1, 3) := by decide +kernel
theorem d_Md_open_61 : decode b_Md_open 61 = .ok (.goto (-17), 3) := by decide +kernel
theorem d_Md_open_64 : decode b_Md_open 64 = .ok (.iconst 1, 1) := by decide +kernel
theorem d_Md_open_65 : decode b_Md_open 65 = .ok (.ireturn, 1) := by decide +kernel
theorem d_Md_isWire_0 : decode b_Md_isWire 0 = .ok (.iload_n 1, 1) := by decide +kernel
theorem d_Md_isWire_1 : decode b_Md_isWire 1 = .ok (.ifCond .lt 15, 3) := by decide +kernel
theorem d_Md_isWire_4 : decode b_Md_isWire 4 = .ok (.iload_n 1, 1) := by decide +kernel
theorem d_Md_isWire_5 : decode b_Md_isWire 5 = .ok (.aload_n 0, 1) := by decide +kernel
theorem d_Md_isWire_6 : decode b_Md_isWire 6 = .ok (.getfield 70, 3) := by decide +kernel
theorem d_Md_isWire_9 : decode b_Md_isWire 9 = .ok (.if_icmp .ge 7, 3) := by decide +kernel
theorem d_Md_isWire_12 : decode b_Md_isWire 12 = .ok (.iconst 1, 1) := by decide +kernel
theorem d_Md_isWire_13 : decode b_Md_isWire 13 = .ok (.goto 4, 3) := by decide +kernel
theorem d_Md_isWire_16 : decode b_Md_isWire 16 = .ok (.iconst 0, 1) := by decide +kernel
theorem d_Md_isWire_17 : decode b_Md_isWire 17 = .ok (.ireturn, 1) := by decide +kernel
theorem d_Md_wiresOf_0 : decode b_Md_wiresOf 0 = .ok (.iload_n 0, 1) := by decide +kernel
theorem d_Md_wiresOf_1 : decode b_Md_wiresOf 1 = .ok (.bipush 9, 2) := by decide +kernel
theorem d_Md_wiresOf_3 : decode b_Md_wiresOf 3 = .ok (.if_icmp .ne 7, 3) := by decide +kernel
theorem d_Md_wiresOf_6 : decode b_Md_wiresOf 6 = .ok (.iconst 3, 1) := by decide +kernel
theorem d_Md_wiresOf_7 : decode b_Md_wiresOf 7 = .ok (.goto 24, 3) := by decide +kernel
theorem d_Md_wiresOf_10 : decode b_Md_wiresOf 10 = .ok (.iload_n 0, 1) := by decide +kernel
theorem d_Md_wiresOf_11 : decode b_Md_wiresOf 11 = .ok (.iconst 1, 1) := by decide +kernel
theorem d_Md_wiresOf_12 : decode b_Md_wiresOf 12 = .ok (.if_icmp .eq 14, 3) := by decide +kernel
theorem d_Md_wiresOf_15 : decode b_Md_wiresOf 15 = .ok (.iload_n 0, 1) := by decide +kernel
theorem d_Md_wiresOf_16 : decode b_Md_wiresOf 16 = .ok (.iconst 2, 1) := by decide +kernel
theorem d_Md_wiresOf_17 : decode b_Md_wiresOf 17 = .ok (.if_icmp .eq 9, 3) := by decide +kernel
theorem d_Md_wiresOf_20 : decode b_Md_wiresOf 20 = .ok (.iload_n 0, 1) := by decide +kernel
theorem d_Md_wiresOf_21 : decode b_Md_wiresOf 21 = .ok (.bipush 8, 2) := by decide +kernel
theorem d_Md_wiresOf_23 : decode b_Md_wiresOf 23 = .ok (.if_icmp .ne 7, 3) := by decide +kernel
theorem d_Md_wiresOf_26 : decode b_Md_wiresOf 26 = .ok (.iconst 2, 1) := by decide +kernel
theorem d_Md_wiresOf_27 : decode b_Md_wiresOf 27 = .ok (.goto 4, 3) := by decide +kernel
theorem d_Md_wiresOf_30 : decode b_Md_wiresOf 30 = .ok (.iconst 1, 1) := by decide +kernel
theorem d_Md_wiresOf_31 : decode b_Md_wiresOf 31 = .ok (.ireturn, 1) := by decide +kernel
theorem d_Md_eighthsOf_0 : decode b_Md_eighthsOf 0 = .ok (.iload_n 0, 1) := by decide +kernel
theorem d_Md_eighthsOf_1 : decode b_Md_eighthsOf 1 = .ok (.iconst 3, 1) := by decide +kernel
theorem d_Md_eighthsOf_2 : decode b_Md_eighthsOf 2 = .ok (.if_icmp .ne 7, 3) := by decide +kernel
theorem d_Md_eighthsOf_5 : decode b_Md_eighthsOf 5 = .ok (.iconst 4, 1) := by decide +kernel
theorem d_Md_eighthsOf_6 : decode b_Md_eighthsOf 6 = .ok (.goto 34, 3) := by decide +kernel
theorem d_Md_eighthsOf_9 : decode b_Md_eighthsOf 9 = .ok (.iload_n 0, 1) := by decide +kernel
theorem d_Md_eighthsOf_10 : decode b_Md_eighthsOf 10 = .ok (.iconst 4, 1) := by decide +kernel
theorem d_Md_eighthsOf_11 : decode b_Md_eighthsOf 11 = .ok (.if_icmp .ne 7, 3) := by decide +kernel
theorem d_Md_eighthsOf_14 : decode b_Md_eighthsOf 14 = .ok (.iconst 2, 1) := by decide +kernel
theorem d_Md_eighthsOf_15 : decode b_Md_eighthsOf 15 = .ok (.goto 25, 3) := by decide +kernel
theorem d_Md_eighthsOf_18 : decode b_Md_eighthsOf 18 = .ok (.iload_n 0, 1) := by decide +kernel
theorem d_Md_eighthsOf_19 : decode b_Md_eighthsOf 19 = .ok (.iconst 5, 1) := by decide +kernel
theorem d_Md_eighthsOf_20 : decode b_Md_eighthsOf 20 = .ok (.if_icmp .ne 7, 3) := by decide +kernel
theorem d_Md_eighthsOf_23 : decode b_Md_eighthsOf 23 = .ok (.iconst 1, 1) := by decide +kernel
theorem d_Md_eighthsOf_24 : decode b_Md_eighthsOf 24 = .ok (.goto 16, 3) := by decide +kernel
theorem d_Md_eighthsOf_27 : decode b_Md_eighthsOf 27 = .ok (.iload_n 0, 1) := by decide +kernel
theorem d_Md_eighthsOf_28 : decode b_Md_eighthsOf 28 = .ok (.bipush 6, 2) := by decide +kernel
theorem d_Md_eighthsOf_30 : decode b_Md_eighthsOf 30 = .ok (.if_icmp .ne 8, 3) := by decide +kernel
theorem d_Md_eighthsOf_33 : decode b_Md_eighthsOf 33 = .ok (.bipush 6, 2) := by decide +kernel
theorem d_Md_eighthsOf_35 : decode b_Md_eighthsOf 35 = .ok (.goto 5, 3) := by decide +kernel
theorem d_Md_eighthsOf_38 : decode b_Md_eighthsOf 38 = .ok (.bipush 7, 2) := by decide +kernel
theorem d_Md_eighthsOf_40 : decode b_Md_eighthsOf 40 = .ok (.ireturn, 1) := by decide +kernel
theorem d_Md_exchange_0 : decode b_Md_exchange 0 = .ok (.aload_n 0, 1) := by decide +kernel
theorem d_Md_exchange_1 : decode b_Md_exchange 1 = .ok (.getfield 13, 3) := by decide +kernel
theorem d_Md_exchange_4 : decode b_Md_exchange 4 = .ok (.iload_n 1, 1) := by decide +kernel
theorem d_Md_exchange_5 : decode b_Md_exchange 5 = .ok (.iaload, 1) := by decide +kernel
theorem d_Md_exchange_6 : decode b_Md_exchange 6 = .ok (.istore_n 3, 1) := by decide +kernel
theorem d_Md_exchange_7 : decode b_Md_exchange 7 = .ok (.aload_n 0, 1) := by decide +kernel
theorem d_Md_exchange_8 : decode b_Md_exchange 8 = .ok (.getfield 13, 3) := by decide +kernel
theorem d_Md_exchange_11 : decode b_Md_exchange 11 = .ok (.iload_n 1, 1) := by decide +kernel
theorem d_Md_exchange_12 : decode b_Md_exchange 12 = .ok (.aload_n 0, 1) := by decide +kernel
theorem d_Md_exchange_13 : decode b_Md_exchange 13 = .ok (.getfield 13, 3) := by decide +kernel
theorem d_Md_exchange_16 : decode b_Md_exchange 16 = .ok (.iload_n 2, 1) := by decide +kernel
theorem d_Md_exchange_17 : decode b_Md_exchange 17 = .ok (.iaload, 1) := by decide +kernel
theorem d_Md_exchange_18 : decode b_Md_exchange 18 = .ok (.iastore, 1) := by decide +kernel
theorem d_Md_exchange_19 : decode b_Md_exchange 19 = .ok (.aload_n 0, 1) := by decide +kernel
theorem d_Md_exchange_20 : decode b_Md_exchange 20 = .ok (.getfield 13, 3) := by decide +kernel
theorem d_Md_exchange_23 : decode b_Md_exchange 23 = .ok (.iload_n 2, 1) := by decide +kernel
theorem d_Md_exchange_24 : decode b_Md_exchange 24 = .ok (.iload_n 3, 1) := by decide +kernel
theorem d_Md_exchange_25 : decode b_Md_exchange 25 = .ok (.iastore, 1) := by decide +kernel
theorem d_Md_exchange_26 : decode b_Md_exchange 26 = .ok (.aload_n 0, 1) := by decide +kernel
theorem d_Md_exchange_27 : decode b_Md_exchange 27 = .ok (.getfield 16, 3) := by decide +kernel
theorem d_Md_exchange_30 : decode b_Md_exchange 30 = .ok (.iload_n 1, 1) := by decide +kernel
theorem d_Md_exchange_31 : decode b_Md_exchange 31 = .ok (.iaload, 1) := by decide +kernel
theorem d_Md_exchange_32 : decode b_Md_exchange 32 = .ok (.istore 4, 2) := by decide +kernel
theorem d_Md_exchange_34 : decode b_Md_exchange 34 = .ok (.aload_n 0, 1) := by decide +kernel
theorem d_Md_exchange_35 : decode b_Md_exchange 35 = .ok (.getfield 16, 3) := by decide +kernel
theorem d_Md_exchange_38 : decode b_Md_exchange 38 = .ok (.iload_n 1, 1) := by decide +kernel
theorem d_Md_exchange_39 : decode b_Md_exchange 39 = .ok (.aload_n 0, 1) := by decide +kernel
theorem d_Md_exchange_40 : decode b_Md_exchange 40 = .ok (.getfield 16, 3) := by decide +kernel
theorem d_Md_exchange_43 : decode b_Md_exchange 43 = .ok (.iload_n 2, 1) := by decide +kernel
theorem d_Md_exchange_44 : decode b_Md_exchange 44 = .ok (.iaload, 1) := by decide +kernel
theorem d_Md_exchange_45 : decode b_Md_exchange 45 = .ok (.iastore, 1) := by decide +kernel
theorem d_Md_exchange_46 : decode b_Md_exchange 46 = .ok (.aload_n 0, 1) := by decide +kernel
theorem d_Md_exchange_47 : decode b_Md_exchange 47 = .ok (.getfield 16, 3) := by decide +kernel
theorem d_Md_exchange_50 : decode b_Md_exchange 50 = .ok (.iload_n 2, 1) := by decide +kernel
theorem d_Md_exchange_51 : decode b_Md_exchange 51 = .ok (.iload 4, 2) := by decide +kernel
theorem d_Md_exchange_53 : decode b_Md_exchange 53 = .ok (.iastore, 1) := by decide +kernel
theorem d_Md_exchange_54 : decode b_Md_exchange 54 = .ok (.return_, 1) := by decide +kernel
theorem d_Md_gate_0 : decode b_Md_gate 0 = .ok (.aload_n 0, 1) := by decide +kernel
theorem d_Md_gate_1 : decode b_Md_gate 1 = .ok (.iconst 0, 1) := by decide +kernel
theorem d_Md_gate_2 : decode b_Md_gate 2 = .ok (.putfield 48, 3) := by decide +kernel
theorem d_Md_gate_5 : decode b_Md_gate 5 = .ok (.iload_n 1, 1) := by decide +kernel
theorem d_Md_gate_6 : decode b_Md_gate 6 = .ok (.ifCond .lt 31, 3) := by decide +kernel
theorem d_Md_gate_9 : decode b_Md_gate 9 = .ok (.iload_n 1, 1) := by decide +kernel
theorem d_Md_gate_10 : decode b_Md_gate 10 = .ok (.bipush 12, 2) := by decide +kernel
theorem d_Md_gate_12 : decode b_Md_gate 12 = .ok (.if_icmp .gt 25, 3) := by decide +kernel
theorem d_Md_gate_15 : decode b_Md_gate 15 = .ok (.aload_n 0, 1) := by decide +kernel
theorem d_Md_gate_16 : decode b_Md_gate 16 = .ok (.getfield 77, 3) := by decide +kernel
theorem d_Md_gate_19 : decode b_Md_gate 19 = .ok (.ifCond .ne 18, 3) := by decide +kernel
theorem d_Md_gate_22 : decode b_Md_gate 22 = .ok (.iload_n 1, 1) := by decide +kernel
theorem d_Md_gate_23 : decode b_Md_gate 23 = .ok (.bipush 9, 2) := by decide +kernel
theorem d_Md_gate_25 : decode b_Md_gate 25 = .ok (.if_icmp .le 14, 3) := by decide +kernel
theorem d_Md_gate_28 : decode b_Md_gate 28 = .ok (.aload_n 0, 1) := by decide +kernel
theorem d_Md_gate_29 : decode b_Md_gate 29 = .ok (.getfield 80, 3) := by decide +kernel
theorem d_Md_gate_32 : decode b_Md_gate 32 = .ok (.bipush 24, 2) := by decide +kernel
theorem d_Md_gate_34 : decode b_Md_gate 34 = .ok (.if_icmp .ne 5, 3) := by decide +kernel
theorem d_Md_gate_37 : decode b_Md_gate 37 = .ok (.iconst 0, 1) := by decide +kernel
theorem d_Md_gate_38 : decode b_Md_gate 38 = .ok (.ireturn, 1) := by decide +kernel
theorem d_Md_gate_39 : decode b_Md_gate 39 = .ok (.iload_n 1, 1) := by decide +kernel
theorem d_Md_gate_40 : decode b_Md_gate 40 = .ok (.invokestatic 92, 3) := by decide +kernel
theorem d_Md_gate_43 : decode b_Md_gate 43 = .ok (.istore 5, 2) := by decide +kernel
theorem d_Md_gate_45 : decode b_Md_gate 45 = .ok (.aload_n 0, 1) := by decide +kernel
theorem d_Md_gate_46 : decode b_Md_gate 46 = .ok (.iload_n 2, 1) := by decide +kernel
theorem d_Md_gate_47 : decode b_Md_gate 47 = .ok (.invokevirtual 95, 3) := by decide +kernel
theorem d_Md_gate_50 : decode b_Md_gate 50 = .ok (.ifCond .eq 49, 3) := by decide +kernel
theorem d_Md_gate_53 : decode b_Md_gate 53 = .ok (.iload 5, 2) := by decide +kernel
theorem d_Md_gate_55 : decode b_Md_gate 55 = .ok (.iconst 1, 1) := by decide +kernel
theorem d_Md_gate_56 : decode b_Md_gate 56 = .ok (.if_icmp .le 16, 3) := by decide +kernel
theorem d_Md_gate_59 : decode b_Md_gate 59 = .ok (.aload_n 0, 1) := by decide +kernel
theorem d_Md_gate_60 : decode b_Md_gate 60 = .ok (.iload_n 3, 1) := by decide +kernel
theorem d_Md_gate_61 : decode b_Md_gate 61 = .ok (.invokevirtual 95, 3) := by decide +kernel
theorem d_Md_gate_64 : decode b_Md_gate 64 = .ok (.ifCond .eq 35, 3) := by decide +kernel
theorem d_Md_gate_67 : decode b_Md_gate 67 = .ok (.iload_n 2, 1) := by decide +kernel
theorem d_Md_gate_68 : decode b_Md_gate 68 = .ok (.iload_n 3, 1) := by decide +kernel
theorem d_Md_gate_69 : decode b_Md_gate 69 = .ok (.if_icmp .eq 30, 3) := by decide +kernel
theorem d_Md_gate_72 : decode b_Md_gate 72 = .ok (.iload 5, 2) := by decide +kernel
theorem d_Md_gate_74 : decode b_Md_gate 74 = .ok (.iconst 2, 1) := by decide +kernel
theorem d_Md_gate_75 : decode b_Md_gate 75 = .ok (.if_icmp .le 26, 3) := by decide +kernel
theorem d_Md_gate_78 : decode b_Md_gate 78 = .ok (.aload_n 0, 1) := by decide +kernel
theorem d_Md_gate_79 : decode b_Md_gate 79 = .ok (.iload 4, 2) := by decide +kernel
theorem d_Md_gate_81 : decode b_Md_gate 81 = .ok (.invokevirtual 95, 3) := by decide +kernel
theorem d_Md_gate_84 : decode b_Md_gate 84 = .ok (.ifCond .eq 15, 3) := by decide +kernel
theorem d_Md_gate_87 : decode b_Md_gate 87 = .ok (.iload 4, 2) := by decide +kernel
theorem d_Md_gate_89 : decode b_Md_gate 89 = .ok (.iload_n 2, 1) := by decide +kernel
theorem d_Md_gate_90 : decode b_Md_gate 90 = .ok (.if_icmp .eq 9, 3) := by decide +kernel
theorem d_Md_gate_93 : decode b_Md_gate 93 = .ok (.iload 4, 2) := by decide +kernel
theorem d_Md_gate_95 : decode b_Md_gate 95 = .ok (.iload_n 3, 1) := by decide +kernel
theorem d_Md_gate_96 : decode b_Md_gate 96 = .ok (.if_icmp .ne 5, 3) := by decide +kernel
theorem d_Md_gate_99 : decode b_Md_gate 99 = .ok (.iconst 0, 1) := by decide +kernel
theorem d_Md_gate_100 : decode b_Md_gate 100 = .ok (.ireturn, 1) := by decide +kernel
theorem d_Md_gate_101 : decode b_Md_gate 101 = .ok (.iload_n 1, 1) := by decide +kernel
theorem d_Md_gate_102 : decode b_Md_gate 102 = .ok (.tableswitch 203 0 12 #[66, 79, 112, 203, 203, 203, 203, 203, 121, 131, 142, 172, 181], 66) := by decide +kernel
theorem d_Md_gate_168 : decode b_Md_gate 168 = .ok (.aload_n 0, 1) := by decide +kernel
theorem d_Md_gate_169 : decode b_Md_gate 169 = .ok (.getfield 16, 3) := by decide +kernel
theorem d_Md_gate_172 : decode b_Md_gate 172 = .ok (.iload_n 2, 1) := by decide +kernel
theorem d_Md_gate_173 : decode b_Md_gate 173 = .ok (.dup2, 1) := by decide +kernel
theorem d_Md_gate_174 : decode b_Md_gate 174 = .ok (.iaload, 1) := by decide +kernel
theorem d_Md_gate_175 : decode b_Md_gate 175 = .ok (.iconst 1, 1) := by decide +kernel
theorem d_Md_gate_176 : decode b_Md_gate 176 = .ok (.ixor, 1) := by decide +kernel
theorem d_Md_gate_177 : decode b_Md_gate 177 = .ok (.iastore, 1) := by decide +kernel
theorem d_Md_gate_178 : decode b_Md_gate 178 = .ok (.goto 148, 3) := by decide +kernel
theorem d_Md_gate_181 : decode b_Md_gate 181 = .ok (.aload_n 0, 1) := by decide +kernel
theorem d_Md_gate_182 : decode b_Md_gate 182 = .ok (.getfield 13, 3) := by decide +kernel
theorem d_Md_gate_185 : decode b_Md_gate 185 = .ok (.iload_n 2, 1) := by decide +kernel
theorem d_Md_gate_186 : decode b_Md_gate 186 = .ok (.dup2, 1) := by decide +kernel
theorem d_Md_gate_187 : decode b_Md_gate 187 = .ok (.iaload, 1) := by decide +kernel
theorem d_Md_gate_188 : decode b_Md_gate 188 = .ok (.aload_n 0, 1) := by decide +kernel
theorem d_Md_gate_189 : decode b_Md_gate 189 = .ok (.getfield 13, 3) := by decide +kernel
theorem d_Md_gate_192 : decode b_Md_gate 192 = .ok (.iload_n 3, 1) := by decide +kernel
theorem d_Md_gate_193 : decode b_Md_gate 193 = .ok (.iaload, 1) := by decide +kernel
theorem d_Md_gate_194 : decode b_Md_gate 194 = .ok (.ixor, 1) := by decide +kernel
