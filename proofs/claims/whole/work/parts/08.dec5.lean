theorem d_Md_reduce_0 : decode b_Md_reduce 0 = .ok (.aload_n 0, 1) := by decide +kernel
theorem d_Md_reduce_1 : decode b_Md_reduce 1 = .ok (.iconst 0, 1) := by decide +kernel
theorem d_Md_reduce_2 : decode b_Md_reduce 2 = .ok (.putfield 48, 3) := by decide +kernel
theorem d_Md_reduce_5 : decode b_Md_reduce 5 = .ok (.aload_n 0, 1) := by decide +kernel
theorem d_Md_reduce_6 : decode b_Md_reduce 6 = .ok (.getfield 89, 3) := by decide +kernel
theorem d_Md_reduce_9 : decode b_Md_reduce 9 = .ok (.istore_n 1, 1) := by decide +kernel
theorem d_Md_reduce_10 : decode b_Md_reduce 10 = .ok (.iconst 0, 1) := by decide +kernel
theorem d_Md_reduce_11 : decode b_Md_reduce 11 = .ok (.istore_n 2, 1) := by decide +kernel
theorem d_Md_reduce_12 : decode b_Md_reduce 12 = .ok (.iload_n 2, 1) := by decide +kernel
theorem d_Md_reduce_13 : decode b_Md_reduce 13 = .ok (.bipush 24, 2) := by decide +kernel
theorem d_Md_reduce_15 : decode b_Md_reduce 15 = .ok (.if_icmp .ge 34, 3) := by decide +kernel
theorem d_Md_reduce_18 : decode b_Md_reduce 18 = .ok (.aload_n 0, 1) := by decide +kernel
theorem d_Md_reduce_19 : decode b_Md_reduce 19 = .ok (.iload_n 2, 1) := by decide +kernel
theorem d_Md_reduce_20 : decode b_Md_reduce 20 = .ok (.invokevirtual 146, 3) := by decide +kernel
theorem d_Md_reduce_23 : decode b_Md_reduce 23 = .ok (.istore_n 3, 1) := by decide +kernel
theorem d_Md_reduce_24 : decode b_Md_reduce 24 = .ok (.iload_n 3, 1) := by decide +kernel
theorem d_Md_reduce_25 : decode b_Md_reduce 25 = .ok (.ifCond .le 9, 3) := by decide +kernel
theorem d_Md_reduce_28 : decode b_Md_reduce 28 = .ok (.aload_n 0, 1) := by decide +kernel
theorem d_Md_reduce_29 : decode b_Md_reduce 29 = .ok (.iload_n 3, 1) := by decide +kernel
theorem d_Md_reduce_30 : decode b_Md_reduce 30 = .ok (.iload_n 2, 1) := by decide +kernel
theorem d_Md_reduce_31 : decode b_Md_reduce 31 = .ok (.invokevirtual 149, 3) := by decide +kernel
theorem d_Md_reduce_34 : decode b_Md_reduce 34 = .ok (.iload_n 3, 1) := by decide +kernel
theorem d_Md_reduce_35 : decode b_Md_reduce 35 = .ok (.ifCond .le 7, 3) := by decide +kernel
theorem d_Md_reduce_38 : decode b_Md_reduce 38 = .ok (.iconst 0, 1) := by decide +kernel
theorem d_Md_reduce_39 : decode b_Md_reduce 39 = .ok (.goto 6, 3) := by decide +kernel
theorem d_Md_reduce_42 : decode b_Md_reduce 42 = .ok (.iload_n 2, 1) := by decide +kernel
theorem d_Md_reduce_43 : decode b_Md_reduce 43 = .ok (.iconst 1, 1) := by decide +kernel
theorem d_Md_reduce_44 : decode b_Md_reduce 44 = .ok (.iadd, 1) := by decide +kernel
theorem d_Md_reduce_45 : decode b_Md_reduce 45 = .ok (.istore_n 2, 1) := by decide +kernel
theorem d_Md_reduce_46 : decode b_Md_reduce 46 = .ok (.goto (-34), 3) := by decide +kernel
theorem d_Md_reduce_49 : decode b_Md_reduce 49 = .ok (.aload_n 0, 1) := by decide +kernel
theorem d_Md_reduce_50 : decode b_Md_reduce 50 = .ok (.getfield 89, 3) := by decide +kernel
theorem d_Md_reduce_53 : decode b_Md_reduce 53 = .ok (.iload_n 1, 1) := by decide +kernel
theorem d_Md_reduce_54 : decode b_Md_reduce 54 = .ok (.isub, 1) := by decide +kernel
theorem d_Md_reduce_55 : decode b_Md_reduce 55 = .ok (.ireturn, 1) := by decide +kernel
theorem d_Md_rule_0 : decode b_Md_rule 0 = .ok (.aload_n 0, 1) := by decide +kernel
theorem d_Md_rule_1 : decode b_Md_rule 1 = .ok (.iconst 0, 1) := by decide +kernel
theorem d_Md_rule_2 : decode b_Md_rule 2 = .ok (.putfield 48, 3) := by decide +kernel
theorem d_Md_rule_5 : decode b_Md_rule 5 = .ok (.iload_n 1, 1) := by decide +kernel
theorem d_Md_rule_6 : decode b_Md_rule 6 = .ok (.ifCond .lt 11, 3) := by decide +kernel
theorem d_Md_rule_9 : decode b_Md_rule 9 = .ok (.iload_n 1, 1) := by decide +kernel
theorem d_Md_rule_10 : decode b_Md_rule 10 = .ok (.aload_n 0, 1) := by decide +kernel
theorem d_Md_rule_11 : decode b_Md_rule 11 = .ok (.getfield 89, 3) := by decide +kernel
theorem d_Md_rule_14 : decode b_Md_rule 14 = .ok (.if_icmp .lt 5, 3) := by decide +kernel
theorem d_Md_rule_17 : decode b_Md_rule 17 = .ok (.iconst (-1), 1) := by decide +kernel
theorem d_Md_rule_18 : decode b_Md_rule 18 = .ok (.ireturn, 1) := by decide +kernel
theorem d_Md_rule_19 : decode b_Md_rule 19 = .ok (.iload_n 2, 1) := by decide +kernel
theorem d_Md_rule_20 : decode b_Md_rule 20 = .ok (.ifCond .ne 12, 3) := by decide +kernel
theorem d_Md_rule_23 : decode b_Md_rule 23 = .ok (.aload_n 0, 1) := by decide +kernel
theorem d_Md_rule_24 : decode b_Md_rule 24 = .ok (.getfield 19, 3) := by decide +kernel
theorem d_Md_rule_27 : decode b_Md_rule 27 = .ok (.iload_n 1, 1) := by decide +kernel
theorem d_Md_rule_28 : decode b_Md_rule 28 = .ok (.iaload, 1) := by decide +kernel
theorem d_Md_rule_29 : decode b_Md_rule 29 = .ok (.goto 32, 3) := by decide +kernel
theorem d_Md_rule_32 : decode b_Md_rule 32 = .ok (.iload_n 2, 1) := by decide +kernel
theorem d_Md_rule_33 : decode b_Md_rule 33 = .ok (.iconst 1, 1) := by decide +kernel
theorem d_Md_rule_34 : decode b_Md_rule 34 = .ok (.if_icmp .ne 12, 3) := by decide +kernel
theorem d_Md_rule_37 : decode b_Md_rule 37 = .ok (.aload_n 0, 1) := by decide +kernel
theorem d_Md_rule_38 : decode b_Md_rule 38 = .ok (.getfield 22, 3) := by decide +kernel
theorem d_Md_rule_41 : decode b_Md_rule 41 = .ok (.iload_n 1, 1) := by decide +kernel
theorem d_Md_rule_42 : decode b_Md_rule 42 = .ok (.iaload, 1) := by decide +kernel
theorem d_Md_rule_43 : decode b_Md_rule 43 = .ok (.goto 18, 3) := by decide +kernel
theorem d_Md_rule_46 : decode b_Md_rule 46 = .ok (.iload_n 2, 1) := by decide +kernel
theorem d_Md_rule_47 : decode b_Md_rule 47 = .ok (.iconst 2, 1) := by decide +kernel
theorem d_Md_rule_48 : decode b_Md_rule 48 = .ok (.if_icmp .ne 12, 3) := by decide +kernel
theorem d_Md_rule_51 : decode b_Md_rule 51 = .ok (.aload_n 0, 1) := by decide +kernel
theorem d_Md_rule_52 : decode b_Md_rule 52 = .ok (.getfield 25, 3) := by decide +kernel
theorem d_Md_rule_55 : decode b_Md_rule 55 = .ok (.iload_n 1, 1) := by decide +kernel
theorem d_Md_rule_56 : decode b_Md_rule 56 = .ok (.iaload, 1) := by decide +kernel
theorem d_Md_rule_57 : decode b_Md_rule 57 = .ok (.goto 4, 3) := by decide +kernel
theorem d_Md_rule_60 : decode b_Md_rule 60 = .ok (.iconst (-1), 1) := by decide +kernel
theorem d_Md_rule_61 : decode b_Md_rule 61 = .ok (.ireturn, 1) := by decide +kernel
theorem d_Md_term_0 : decode b_Md_term 0 = .ok (.aload_n 0, 1) := by decide +kernel
theorem d_Md_term_1 : decode b_Md_term 1 = .ok (.iconst 0, 1) := by decide +kernel
theorem d_Md_term_2 : decode b_Md_term 2 = .ok (.putfield 48, 3) := by decide +kernel
theorem d_Md_term_5 : decode b_Md_term 5 = .ok (.iload_n 1, 1) := by decide +kernel
theorem d_Md_term_6 : decode b_Md_term 6 = .ok (.ifCond .lt 20, 3) := by decide +kernel
theorem d_Md_term_9 : decode b_Md_term 9 = .ok (.iload_n 1, 1) := by decide +kernel
theorem d_Md_term_10 : decode b_Md_term 10 = .ok (.aload_n 0, 1) := by decide +kernel
theorem d_Md_term_11 : decode b_Md_term 11 = .ok (.getfield 80, 3) := by decide +kernel
theorem d_Md_term_14 : decode b_Md_term 14 = .ok (.iushr, 1) := by decide +kernel
theorem d_Md_term_15 : decode b_Md_term 15 = .ok (.ifCond .ne 11, 3) := by decide +kernel
theorem d_Md_term_18 : decode b_Md_term 18 = .ok (.iload_n 1, 1) := by decide +kernel
theorem d_Md_term_19 : decode b_Md_term 19 = .ok (.invokestatic 56, 3) := by decide +kernel
theorem d_Md_term_22 : decode b_Md_term 22 = .ok (.iconst 3, 1) := by decide +kernel
theorem d_Md_term_23 : decode b_Md_term 23 = .ok (.if_icmp .le 5, 3) := by decide +kernel
theorem d_Md_term_26 : decode b_Md_term 26 = .ok (.iconst (-1), 1) := by decide +kernel
theorem d_Md_term_27 : decode b_Md_term 27 = .ok (.ireturn, 1) := by decide +kernel
theorem d_Md_term_28 : decode b_Md_term 28 = .ok (.aload_n 0, 1) := by decide +kernel
theorem d_Md_term_29 : decode b_Md_term 29 = .ok (.iload_n 1, 1) := by decide +kernel
theorem d_Md_term_30 : decode b_Md_term 30 = .ok (.invokevirtual 119, 3) := by decide +kernel
theorem d_Md_term_33 : decode b_Md_term 33 = .ok (.ireturn, 1) := by decide +kernel
theorem d_Md_wire_0 : decode b_Md_wire 0 = .ok (.aload_n 0, 1) := by decide +kernel
theorem d_Md_wire_1 : decode b_Md_wire 1 = .ok (.iconst 0, 1) := by decide +kernel
theorem d_Md_wire_2 : decode b_Md_wire 2 = .ok (.putfield 48, 3) := by decide +kernel
theorem d_Md_wire_5 : decode b_Md_wire 5 = .ok (.aload_n 0, 1) := by decide +kernel
theorem d_Md_wire_6 : decode b_Md_wire 6 = .ok (.iload_n 1, 1) := by decide +kernel
theorem d_Md_wire_7 : decode b_Md_wire 7 = .ok (.invokevirtual 95, 3) := by decide +kernel
theorem d_Md_wire_10 : decode b_Md_wire 10 = .ok (.ifCond .ne 5, 3) := by decide +kernel
theorem d_Md_wire_13 : decode b_Md_wire 13 = .ok (.iconst (-1), 1) := by decide +kernel
theorem d_Md_wire_14 : decode b_Md_wire 14 = .ok (.ireturn, 1) := by decide +kernel
theorem d_Md_wire_15 : decode b_Md_wire 15 = .ok (.iload_n 2, 1) := by decide +kernel
theorem d_Md_wire_16 : decode b_Md_wire 16 = .ok (.ifCond .ne 12, 3) := by decide +kernel
theorem d_Md_wire_19 : decode b_Md_wire 19 = .ok (.aload_n 0, 1) := by decide +kernel
theorem d_Md_wire_20 : decode b_Md_wire 20 = .ok (.getfield 13, 3) := by decide +kernel
theorem d_Md_wire_23 : decode b_Md_wire 23 = .ok (.iload_n 1, 1) := by decide +kernel
theorem d_Md_wire_24 : decode b_Md_wire 24 = .ok (.iaload, 1) := by decide +kernel
theorem d_Md_wire_25 : decode b_Md_wire 25 = .ok (.goto 18, 3) := by decide +kernel
theorem d_Md_wire_28 : decode b_Md_wire 28 = .ok (.iload_n 2, 1) := by decide +kernel
theorem d_Md_wire_29 : decode b_Md_wire 29 = .ok (.iconst 1, 1) := by decide +kernel
theorem d_Md_wire_30 : decode b_Md_wire 30 = .ok (.if_icmp .ne 12, 3) := by decide +kernel
theorem d_Md_wire_33 : decode b_Md_wire 33 = .ok (.aload_n 0, 1) := by decide +kernel
theorem d_Md_wire_34 : decode b_Md_wire 34 = .ok (.getfield 16, 3) := by decide +kernel
theorem d_Md_wire_37 : decode b_Md_wire 37 = .ok (.iload_n 1, 1) := by decide +kernel
theorem d_Md_wire_38 : decode b_Md_wire 38 = .ok (.iaload, 1) := by decide +kernel
theorem d_Md_wire_39 : decode b_Md_wire 39 = .ok (.goto 4, 3) := by decide +kernel
theorem d_Md_wire_42 : decode b_Md_wire 42 = .ok (.iconst (-1), 1) := by decide +kernel
theorem d_Md_wire_43 : decode b_Md_wire 43 = .ok (.ireturn, 1) := by decide +kernel
theorem d_Md_listAll_0 : decode b_Md_listAll 0 = .ok (.aload_n 0, 1) := by decide +kernel
theorem d_Md_listAll_1 : decode b_Md_listAll 1 = .ok (.iconst 0, 1) := by decide +kernel
theorem d_Md_listAll_2 : decode b_Md_listAll 2 = .ok (.putfield 152, 3) := by decide +kernel
theorem d_Md_listAll_5 : decode b_Md_listAll 5 = .ok (.iconst 0, 1) := by decide +kernel
theorem d_Md_listAll_6 : decode b_Md_listAll 6 = .ok (.istore_n 1, 1) := by decide +kernel
theorem d_Md_listAll_7 : decode b_Md_listAll 7 = .ok (.iload_n 1, 1) := by decide +kernel
theorem d_Md_listAll_8 : decode b_Md_listAll 8 = .ok (.sipush 15625, 3) := by decide +kernel
theorem d_Md_listAll_11 : decode b_Md_listAll 11 = .ok (.if_icmp .ge 98, 3) := by decide +kernel
theorem d_Md_listAll_14 : decode b_Md_listAll 14 = .ok (.aload_n 0, 1) := by decide +kernel
theorem d_Md_listAll_15 : decode b_Md_listAll 15 = .ok (.getfield 7, 3) := by decide +kernel
theorem d_Md_listAll_18 : decode b_Md_listAll 18 = .ok (.iload_n 1, 1) := by decide +kernel
theorem d_Md_listAll_19 : decode b_Md_listAll 19 = .ok (.iaload, 1) := by decide +kernel
theorem d_Md_listAll_20 : decode b_Md_listAll 20 = .ok (.ifCond .ne 6, 3) := by decide +kernel
theorem d_Md_listAll_23 : decode b_Md_listAll 23 = .ok (.goto 80, 3) := by decide +kernel
theorem d_Md_listAll_26 : decode b_Md_listAll 26 = .ok (.iconst 0, 1) := by decide +kernel
theorem d_Md_listAll_27 : decode b_Md_listAll 27 = .ok (.istore_n 2, 1) := by decide +kernel
theorem d_Md_listAll_28 : decode b_Md_listAll 28 = .ok (.iload_n 1, 1) := by decide +kernel
theorem d_Md_listAll_29 : decode b_Md_listAll 29 = .ok (.istore_n 3, 1) := by decide +kernel
theorem d_Md_listAll_30 : decode b_Md_listAll 30 = .ok (.iconst 0, 1) := by decide +kernel
theorem d_Md_listAll_31 : decode b_Md_listAll 31 = .ok (.istore 4, 2) := by decide +kernel
theorem d_Md_listAll_33 : decode b_Md_listAll 33 = .ok (.iload 4, 2) := by decide +kernel
theorem d_Md_listAll_35 : decode b_Md_listAll 35 = .ok (.iconst 3, 1) := by decide +kernel
theorem d_Md_listAll_36 : decode b_Md_listAll 36 = .ok (.if_icmp .ge 32, 3) := by decide +kernel
theorem d_Md_listAll_39 : decode b_Md_listAll 39 = .ok (.iload_n 3, 1) := by decide +kernel
theorem d_Md_listAll_40 : decode b_Md_listAll 40 = .ok (.bipush 25, 2) := by decide +kernel
theorem d_Md_listAll_42 : decode b_Md_listAll 42 = .ok (.irem, 1) := by decide +kernel
theorem d_Md_listAll_43 : decode b_Md_listAll 43 = .ok (.bipush 24, 2) := by decide +kernel
theorem d_Md_listAll_45 : decode b_Md_listAll 45 = .ok (.if_icmp .ge 12, 3) := by decide +kernel
theorem d_Md_listAll_48 : decode b_Md_listAll 48 = .ok (.iload_n 2, 1) := by decide +kernel
theorem d_Md_listAll_49 : decode b_Md_listAll 49 = .ok (.iconst 1, 1) := by decide +kernel
theorem d_Md_listAll_50 : decode b_Md_listAll 50 = .ok (.iload_n 3, 1) := by decide +kernel
theorem d_Md_listAll_51 : decode b_Md_listAll 51 = .ok (.bipush 25, 2) := by decide +kernel
theorem d_Md_listAll_53 : decode b_Md_listAll 53 = .ok (.irem, 1) := by decide +kernel
theorem d_Md_listAll_54 : decode b_Md_listAll 54 = .ok (.ishl, 1) := by decide +kernel
theorem d_Md_listAll_55 : decode b_Md_listAll 55 = .ok (.ior, 1) := by decide +kernel
theorem d_Md_listAll_56 : decode b_Md_listAll 56 = .ok (.istore_n 2, 1) := by decide +kernel
theorem d_Md_listAll_57 : decode b_Md_listAll 57 = .ok (.iload_n 3, 1) := by decide +kernel
theorem d_Md_listAll_58 : decode b_Md_listAll 58 = .ok (.bipush 25, 2) := by decide +kernel
theorem d_Md_listAll_60 : decode b_Md_listAll 60 = .ok (.idiv, 1) := by decide +kernel
theorem d_Md_listAll_61 : decode b_Md_listAll 61 = .ok (.istore_n 3, 1) := by decide +kernel
theorem d_Md_listAll_62 : decode b_Md_listAll 62 = .ok (.iinc 4 1, 3) := by decide +kernel
theorem d_Md_listAll_65 : decode b_Md_listAll 65 = .ok (.goto (-32), 3) := by decide +kernel
theorem d_Md_listAll_68 : decode b_Md_listAll 68 = .ok (.aload_n 0, 1) := by decide +kernel
theorem d_Md_listAll_69 : decode b_Md_listAll 69 = .ok (.getfield 34, 3) := by decide +kernel
theorem d_Md_listAll_72 : decode b_Md_listAll 72 = .ok (.aload_n 0, 1) := by decide +kernel
theorem d_Md_listAll_73 : decode b_Md_listAll 73 = .ok (.getfield 152, 3) := by decide +kernel
theorem d_Md_listAll_76 : decode b_Md_listAll 76 = .ok (.iload_n 2, 1) := by decide +kernel
theorem d_Md_listAll_77 : decode b_Md_listAll 77 = .ok (.iastore, 1) := by decide +kernel
theorem d_Md_listAll_78 : decode b_Md_listAll 78 = .ok (.aload_n 0, 1) := by decide +kernel
theorem d_Md_listAll_79 : decode b_Md_listAll 79 = .ok (.getfield 37, 3) := by decide +kernel
theorem d_Md_listAll_82 : decode b_Md_listAll 82 = .ok (.aload_n 0, 1) := by decide +kernel
theorem d_Md_listAll_83 : decode b_Md_listAll 83 = .ok (.getfield 152, 3) := by decide +kernel
theorem d_Md_listAll_86 : decode b_Md_listAll 86 = .ok (.aload_n 0, 1) := by decide +kernel
theorem d_Md_listAll_87 : decode b_Md_listAll 87 = .ok (.getfield 7, 3) := by decide +kernel
theorem d_Md_listAll_90 : decode b_Md_listAll 90 = .ok (.iload_n 1, 1) := by decide +kernel
theorem d_Md_listAll_91 : decode b_Md_listAll 91 = .ok (.iaload, 1) := by decide +kernel
theorem d_Md_listAll_92 : decode b_Md_listAll 92 = .ok (.iastore, 1) := by decide +kernel
theorem d_Md_listAll_93 : decode b_Md_listAll 93 = .ok (.aload_n 0, 1) := by decide +kernel
theorem d_Md_listAll_94 : decode b_Md_listAll 94 = .ok (.dup, 1) := by decide +kernel
theorem d_Md_listAll_95 : decode b_Md_listAll 95 = .ok (.getfield 152, 3) := by decide +kernel
theorem d_Md_listAll_98 : decode b_Md_listAll 98 = .ok (.iconst 1, 1) := by decide +kernel
theorem d_Md_listAll_99 : decode b_Md_listAll 99 = .ok (.iadd, 1) := by decide +kernel
theorem d_Md_listAll_100 : decode b_Md_listAll 100 = .ok (.putfield 152, 3) := by decide +kernel
theorem d_Md_listAll_103 : decode b_Md_listAll 103 = .ok (.iinc 1 1, 3) := by decide +kernel
theorem d_Md_listAll_106 : decode b_Md_listAll 106 = .ok (.goto (-99), 3) := by decide +kernel
theorem d_Md_listAll_109 : decode b_Md_listAll 109 = .ok (.return_, 1) := by decide +kernel
theorem d_Md_parity_0 : decode b_Md_parity 0 = .ok (.iload_n 0, 1) := by decide +kernel
theorem d_Md_parity_1 : decode b_Md_parity 1 = .ok (.invokestatic 56, 3) := by decide +kernel
theorem d_Md_parity_4 : decode b_Md_parity 4 = .ok (.iconst 1, 1) := by decide +kernel
theorem d_Md_parity_5 : decode b_Md_parity 5 = .ok (.iand, 1) := by decide +kernel
theorem d_Md_parity_6 : decode b_Md_parity 6 = .ok (.ireturn, 1) := by decide +kernel
theorem d_Md_isOutput_0 : decode b_Md_isOutput 0 = .ok (.iconst 0, 1) := by decide +kernel
theorem d_Md_isOutput_1 : decode b_Md_isOutput 1 = .ok (.istore_n 3, 1) := by decide +kernel
theorem d_Md_isOutput_2 : decode b_Md_isOutput 2 = .ok (.iload_n 3, 1) := by decide +kernel
theorem d_Md_isOutput_3 : decode b_Md_isOutput 3 = .ok (.aload_n 0, 1) := by decide +kernel
theorem d_Md_isOutput_4 : decode b_Md_isOutput 4 = .ok (.getfield 70, 3) := by decide +kernel
theorem d_Md_isOutput_7 : decode b_Md_isOutput 7 = .ok (.if_icmp .ge 37, 3) := by decide +kernel
theorem d_Md_isOutput_10 : decode b_Md_isOutput 10 = .ok (.iload_n 1, 1) := by decide +kernel
theorem d_Md_isOutput_11 : decode b_Md_isOutput 11 = .ok (.aload_n 0, 1) := by decide +kernel
theorem d_Md_isOutput_12 : decode b_Md_isOutput 12 = .ok (.getfield 13, 3) := by decide +kernel
theorem d_Md_isOutput_15 : decode b_Md_isOutput 15 = .ok (.iload_n 3, 1) := by decide +kernel
theorem d_Md_isOutput_16 : decode b_Md_isOutput 16 = .ok (.iaload, 1) := by decide +kernel
theorem d_Md_isOutput_17 : decode b_Md_isOutput 17 = .ok (.iand, 1) := by decide +kernel
theorem d_Md_isOutput_18 : decode b_Md_isOutput 18 = .ok (.invokestatic 155, 3) := by decide +kernel
theorem d_Md_isOutput_21 : decode b_Md_isOutput 21 = .ok (.aload_n 0, 1) := by decide +kernel
theorem d_Md_isOutput_22 : decode b_Md_isOutput 22 = .ok (.getfield 16, 3) := by decide +kernel
theorem d_Md_isOutput_25 : decode b_Md_isOutput 25 = .ok (.iload_n 3, 1) := by decide +kernel
theorem d_Md_isOutput_26 : decode b_Md_isOutput 26 = .ok (.iaload, 1) := by decide +kernel
theorem d_Md_isOutput_27 : decode b_Md_isOutput 27 = .ok (.ixor, 1) := by decide +kernel
theorem d_Md_isOutput_28 : decode b_Md_isOutput 28 = .ok (.iload_n 2, 1) := by decide +kernel
theorem d_Md_isOutput_29 : decode b_Md_isOutput 29 = .ok (.iload_n 3, 1) := by decide +kernel
theorem d_Md_isOutput_30 : decode b_Md_isOutput 30 = .ok (.ishr, 1) := by decide +kernel
theorem d_Md_isOutput_31 : decode b_Md_isOutput 31 = .ok (.iconst 1, 1) := by decide +kernel
theorem d_Md_isOutput_32 : decode b_Md_isOutput 32 = .ok (.iand, 1) := by decide +kernel
theorem d_Md_isOutput_33 : decode b_Md_isOutput 33 = .ok (.if_icmp .eq 5, 3) := by decide +kernel
theorem d_Md_isOutput_36 : decode b_Md_isOutput 36 = .ok (.iconst 0, 1) := by decide +kernel
theorem d_Md_isOutput_37 : decode b_Md_isOutput 37 = .ok (.ireturn, 1) := by decide +kernel
theorem d_Md_isOutput_38 : decode b_Md_isOutput 38 = .ok (.iinc 3 1, 3) := by decide +kernel
theorem d_Md_isOutput_41 : decode b_Md_isOutput 41 = .ok (.goto (-39), 3) := by decide +kernel
theorem d_Md_isOutput_44 : decode b_Md_isOutput 44 = .ok (.iconst 1, 1) := by decide +kernel
theorem d_Md_isOutput_45 : decode b_Md_isOutput 45 = .ok (.ireturn, 1) := by decide +kernel
theorem d_Md_phaseOf_0 : decode b_Md_phaseOf 0 = .ok (.iconst 0, 1) := by decide +kernel
theorem d_Md_phaseOf_1 : decode b_Md_phaseOf 1 = .ok (.istore_n 2, 1) := by decide +kernel
theorem d_Md_phaseOf_2 : decode b_Md_phaseOf 2 = .ok (.iconst 0, 1) := by decide +kernel
theorem d_Md_phaseOf_3 : decode b_Md_phaseOf 3 = .ok (.istore_n 3, 1) := by decide +kernel
theorem d_Md_phaseOf_4 : decode b_Md_phaseOf 4 = .ok (.iload_n 3, 1) := by decide +kernel
theorem d_Md_phaseOf_5 : decode b_Md_phaseOf 5 = .ok (.aload_n 0, 1) := by decide +kernel
theorem d_Md_phaseOf_6 : decode b_Md_phaseOf 6 = .ok (.getfield 152, 3) := by decide +kernel
theorem d_Md_phaseOf_9 : decode b_Md_phaseOf 9 = .ok (.if_icmp .ge 39, 3) := by decide +kernel
theorem d_Md_phaseOf_12 : decode b_Md_phaseOf 12 = .ok (.iload_n 2, 1) := by decide +kernel
theorem d_Md_phaseOf_13 : decode b_Md_phaseOf 13 = .ok (.aload_n 0, 1) := by decide +kernel
theorem d_Md_phaseOf_14 : decode b_Md_phaseOf 14 = .ok (.getfield 34, 3) := by decide +kernel
theorem d_Md_phaseOf_17 : decode b_Md_phaseOf 17 = .ok (.iload_n 3, 1) := by decide +kernel
theorem d_Md_phaseOf_18 : decode b_Md_phaseOf 18 = .ok (.iaload, 1) := by decide +kernel
theorem d_Md_phaseOf_19 : decode b_Md_phaseOf 19 = .ok (.iload_n 1, 1) := by decide +kernel
theorem d_Md_phaseOf_20 : decode b_Md_phaseOf 20 = .ok (.iand, 1) := by decide +kernel
theorem d_Md_phaseOf_21 : decode b_Md_phaseOf 21 = .ok (.aload_n 0, 1) := by decide +kernel
theorem d_Md_phaseOf_22 : decode b_Md_phaseOf 22 = .ok (.getfield 34, 3) := by decide +kernel
theorem d_Md_phaseOf_25 : decode b_Md_phaseOf 25 = .ok (.iload_n 3, 1) := by decide +kernel
theorem d_Md_phaseOf_26 : decode b_Md_phaseOf 26 = .ok (.iaload, 1) := by decide +kernel
theorem d_Md_phaseOf_27 : decode b_Md_phaseOf 27 = .ok (.if_icmp .ne 12, 3) := by decide +kernel
theorem d_Md_phaseOf_30 : decode b_Md_phaseOf 30 = .ok (.aload_n 0, 1) := by decide +kernel
theorem d_Md_phaseOf_31 : decode b_Md_phaseOf 31 = .ok (.getfield 37, 3) := by decide +kernel
theorem d_Md_phaseOf_34 : decode b_Md_phaseOf 34 = .ok (.iload_n 3, 1) := by decide +kernel
theorem d_Md_phaseOf_35 : decode b_Md_phaseOf 35 = .ok (.iaload, 1) := by decide +kernel
theorem d_Md_phaseOf_36 : decode b_Md_phaseOf 36 = .ok (.goto 4, 3) := by decide +kernel
theorem d_Md_phaseOf_39 : decode b_Md_phaseOf 39 = .ok (.iconst 0, 1) := by decide +kernel
theorem d_Md_phaseOf_40 : decode b_Md_phaseOf 40 = .ok (.iadd, 1) := by decide +kernel
theorem d_Md_phaseOf_41 : decode b_Md_phaseOf 41 = .ok (.istore_n 2, 1) := by decide +kernel
theorem d_Md_phaseOf_42 : decode b_Md_phaseOf 42 = .ok (.iinc 3 1, 3) := by decide +kernel
theorem d_Md_phaseOf_45 : decode b_Md_phaseOf 45 = .ok (.goto (-41), 3) := by decide +kernel
theorem d_Md_phaseOf_48 : decode b_Md_phaseOf 48 = .ok (.iload_n 2, 1) := by decide +kernel
theorem d_Md_phaseOf_49 : decode b_Md_phaseOf 49 = .ok (.bipush 7, 2) := by decide +kernel
theorem d_Md_phaseOf_51 : decode b_Md_phaseOf 51 = .ok (.iand, 1) := by decide +kernel
theorem d_Md_phaseOf_52 : decode b_Md_phaseOf 52 = .ok (.ireturn, 1) := by decide +kernel
theorem d_Md_spread_0 : decode b_Md_spread 0 = .ok (.iconst 0, 1) := by decide +kernel
theorem d_Md_spread_1 : decode b_Md_spread 1 = .ok (.istore_n 2, 1) := by decide +kernel
theorem d_Md_spread_2 : decode b_Md_spread 2 = .ok (.iload_n 0, 1) := by decide +kernel
theorem d_Md_spread_3 : decode b_Md_spread 3 = .ok (.istore_n 3, 1) := by decide +kernel
theorem d_Md_spread_4 : decode b_Md_spread 4 = .ok (.iconst 0, 1) := by decide +kernel
theorem d_Md_spread_5 : decode b_Md_spread 5 = .ok (.istore 4, 2) := by decide +kernel
theorem d_Md_spread_7 : decode b_Md_spread 7 = .ok (.iload 4, 2) := by decide +kernel
theorem d_Md_spread_9 : decode b_Md_spread 9 = .ok (.bipush 24, 2) := by decide +kernel
theorem d_Md_spread_11 : decode b_Md_spread 11 = .ok (.if_icmp .ge 34, 3) := by decide +kernel
theorem d_Md_spread_14 : decode b_Md_spread 14 = .ok (.iload_n 1, 1) := by decide +kernel
theorem d_Md_spread_15 : decode b_Md_spread 15 = .ok (.iload 4, 2) := by decide +kernel
theorem d_Md_spread_17 : decode b_Md_spread 17 = .ok (.ishr, 1) := by decide +kernel
theorem d_Md_spread_18 : decode b_Md_spread 18 = .ok (.iconst 1, 1) := by decide +kernel
theorem d_Md_spread_19 : decode b_Md_spread 19 = .ok (.iand, 1) := by decide +kernel
theorem d_Md_spread_20 : decode b_Md_spread 20 = .ok (.ifCond .ne 6, 3) := by decide +kernel
theorem d_Md_spread_23 : decode b_Md_spread 23 = .ok (.goto 16, 3) := by decide +kernel
theorem d_Md_spread_26 : decode b_Md_spread 26 = .ok (.iload_n 2, 1) := by decide +kernel
theorem d_Md_spread_27 : decode b_Md_spread 27 = .ok (.iload_n 3, 1) := by decide +kernel
theorem d_Md_spread_28 : decode b_Md_spread 28 = .ok (.iconst 1, 1) := by decide +kernel
theorem d_Md_spread_29 : decode b_Md_spread 29 = .ok (.iand, 1) := by decide +kernel
theorem d_Md_spread_30 : decode b_Md_spread 30 = .ok (.iload 4, 2) := by decide +kernel
theorem d_Md_spread_32 : decode b_Md_spread 32 = .ok (.ishl, 1) := by decide +kernel
theorem d_Md_spread_33 : decode b_Md_spread 33 = .ok (.ior, 1) := by decide +kernel
theorem d_Md_spread_34 : decode b_Md_spread 34 = .ok (.istore_n 2, 1) := by decide +kernel
theorem d_Md_spread_35 : decode b_Md_spread 35 = .ok (.iload_n 3, 1) := by decide +kernel
theorem d_Md_spread_36 : decode b_Md_spread 36 = .ok (.iconst 1, 1) := by decide +kernel
theorem d_Md_spread_37 : decode b_Md_spread 37 = .ok (.ishr, 1) := by decide +kernel
theorem d_Md_spread_38 : decode b_Md_spread 38 = .ok (.istore_n 3, 1) := by decide +kernel
theorem d_Md_spread_39 : decode b_Md_spread 39 = .ok (.iinc 4 1, 3) := by decide +kernel
theorem d_Md_spread_42 : decode b_Md_spread 42 = .ok (.goto (-35), 3) := by decide +kernel
theorem d_Md_spread_45 : decode b_Md_spread 45 = .ok (.iload_n 2, 1) := by decide +kernel
theorem d_Md_spread_46 : decode b_Md_spread 46 = .ok (.ireturn, 1) := by decide +kernel
theorem d_Md_timesRoot_0 : decode b_Md_timesRoot 0 = .ok (.aload_n 0, 1) := by decide +kernel
theorem d_Md_timesRoot_1 : decode b_Md_timesRoot 1 = .ok (.getfield 40, 3) := by decide +kernel
theorem d_Md_timesRoot_4 : decode b_Md_timesRoot 4 = .ok (.iconst 0, 1) := by decide +kernel
theorem d_Md_timesRoot_5 : decode b_Md_timesRoot 5 = .ok (.laload, 1) := by decide +kernel
theorem d_Md_timesRoot_6 : decode b_Md_timesRoot 6 = .ok (.lstore_n 1, 1) := by decide +kernel
theorem d_Md_timesRoot_7 : decode b_Md_timesRoot 7 = .ok (.aload_n 0, 1) := by decide +kernel
theorem d_Md_timesRoot_8 : decode b_Md_timesRoot 8 = .ok (.getfield 40, 3) := by decide +kernel
theorem d_Md_timesRoot_11 : decode b_Md_timesRoot 11 = .ok (.iconst 1, 1) := by decide +kernel
theorem d_Md_timesRoot_12 : decode b_Md_timesRoot 12 = .ok (.laload, 1) := by decide +kernel
theorem d_Md_timesRoot_13 : decode b_Md_timesRoot 13 = .ok (.lstore_n 3, 1) := by decide +kernel
theorem d_Md_timesRoot_14 : decode b_Md_timesRoot 14 = .ok (.aload_n 0, 1) := by decide +kernel
theorem d_Md_timesRoot_15 : decode b_Md_timesRoot 15 = .ok (.getfield 40, 3) := by decide +kernel
theorem d_Md_timesRoot_18 : decode b_Md_timesRoot 18 = .ok (.iconst 2, 1) := by decide +kernel
theorem d_Md_timesRoot_19 : decode b_Md_timesRoot 19 = .ok (.laload, 1) := by decide +kernel
theorem d_Md_timesRoot_20 : decode b_Md_timesRoot 20 = .ok (.lstore 5, 2) := by decide +kernel
theorem d_Md_timesRoot_22 : decode b_Md_timesRoot 22 = .ok (.aload_n 0, 1) := by decide +kernel
theorem d_Md_timesRoot_23 : decode b_Md_timesRoot 23 = .ok (.getfield 40, 3) := by decide +kernel
theorem d_Md_timesRoot_26 : decode b_Md_timesRoot 26 = .ok (.iconst 3, 1) := by decide +kernel
theorem d_Md_timesRoot_27 : decode b_Md_timesRoot 27 = .ok (.laload, 1) := by decide +kernel
theorem d_Md_timesRoot_28 : decode b_Md_timesRoot 28 = .ok (.lstore 7, 2) := by decide +kernel
theorem d_Md_timesRoot_30 : decode b_Md_timesRoot 30 = .ok (.aload_n 0, 1) := by decide +kernel
theorem d_Md_timesRoot_31 : decode b_Md_timesRoot 31 = .ok (.getfield 40, 3) := by decide +kernel
theorem d_Md_timesRoot_34 : decode b_Md_timesRoot 34 = .ok (.iconst 0, 1) := by decide +kernel
theorem d_Md_timesRoot_35 : decode b_Md_timesRoot 35 = .ok (.lload_n 3, 1) := by decide +kernel
theorem d_Md_timesRoot_36 : decode b_Md_timesRoot 36 = .ok (.lload 7, 2) := by decide +kernel
theorem d_Md_timesRoot_38 : decode b_Md_timesRoot 38 = .ok (.lsub, 1) := by decide +kernel
theorem d_Md_timesRoot_39 : decode b_Md_timesRoot 39 = .ok (.lastore, 1) := by decide +kernel
theorem d_Md_timesRoot_40 : decode b_Md_timesRoot 40 = .ok (.aload_n 0, 1) := by decide +kernel
theorem d_Md_timesRoot_41 : decode b_Md_timesRoot 41 = .ok (.getfield 40, 3) := by decide +kernel
theorem d_Md_timesRoot_44 : decode b_Md_timesRoot 44 = .ok (.iconst 1, 1) := by decide +kernel
theorem d_Md_timesRoot_45 : decode b_Md_timesRoot 45 = .ok (.lload_n 1, 1) := by decide +kernel
theorem d_Md_timesRoot_46 : decode b_Md_timesRoot 46 = .ok (.lload 5, 2) := by decide +kernel
theorem d_Md_timesRoot_48 : decode b_Md_timesRoot 48 = .ok (.ladd, 1) := by decide +kernel
theorem d_Md_timesRoot_49 : decode b_Md_timesRoot 49 = .ok (.lastore, 1) := by decide +kernel
theorem d_Md_timesRoot_50 : decode b_Md_timesRoot 50 = .ok (.aload_n 0, 1) := by decide +kernel
theorem d_Md_timesRoot_51 : decode b_Md_timesRoot 51 = .ok (.getfield 40, 3) := by decide +kernel
theorem d_Md_timesRoot_54 : decode b_Md_timesRoot 54 = .ok (.iconst 2, 1) := by decide +kernel
theorem d_Md_timesRoot_55 : decode b_Md_timesRoot 55 = .ok (.lload_n 3, 1) := by decide +kernel
theorem d_Md_timesRoot_56 : decode b_Md_timesRoot 56 = .ok (.lload 7, 2) := by decide +kernel
theorem d_Md_timesRoot_58 : decode b_Md_timesRoot 58 = .ok (.ladd, 1) := by decide +kernel
theorem d_Md_timesRoot_59 : decode b_Md_timesRoot 59 = .ok (.lastore, 1) := by decide +kernel
theorem d_Md_timesRoot_60 : decode b_Md_timesRoot 60 = .ok (.aload_n 0, 1) := by decide +kernel
theorem d_Md_timesRoot_61 : decode b_Md_timesRoot 61 = .ok (.getfield 40, 3) := by decide +kernel
theorem d_Md_timesRoot_64 : decode b_Md_timesRoot 64 = .ok (.iconst 3, 1) := by decide +kernel
theorem d_Md_timesRoot_65 : decode b_Md_timesRoot 65 = .ok (.lload 5, 2) := by decide +kernel
theorem d_Md_timesRoot_67 : decode b_Md_timesRoot 67 = .ok (.lload_n 1, 1) := by decide +kernel
theorem d_Md_timesRoot_68 : decode b_Md_timesRoot 68 = .ok (.lsub, 1) := by decide +kernel
theorem d_Md_timesRoot_69 : decode b_Md_timesRoot 69 = .ok (.lastore, 1) := by decide +kernel
theorem d_Md_timesRoot_70 : decode b_Md_timesRoot 70 = .ok (.return_, 1) := by decide +kernel
theorem d_Md_byRoot_0 : decode b_Md_byRoot 0 = .ok (.aload_n 0, 1) := by decide +kernel
theorem d_Md_byRoot_1 : decode b_Md_byRoot 1 = .ok (.getfield 40, 3) := by decide +kernel
theorem d_Md_byRoot_4 : decode b_Md_byRoot 4 = .ok (.iconst 0, 1) := by decide +kernel
theorem d_Md_byRoot_5 : decode b_Md_byRoot 5 = .ok (.laload, 1) := by decide +kernel
theorem d_Md_byRoot_6 : decode b_Md_byRoot 6 = .ok (.aload_n 0, 1) := by decide +kernel
theorem d_Md_byRoot_7 : decode b_Md_byRoot 7 = .ok (.getfield 40, 3) := by decide +kernel
theorem d_Md_byRoot_10 : decode b_Md_byRoot 10 = .ok (.iconst 2, 1) := by decide +kernel
theorem d_Md_byRoot_11 : decode b_Md_byRoot 11 = .ok (.laload, 1) := by decide +kernel
theorem d_Md_byRoot_12 : decode b_Md_byRoot 12 = .ok (.ladd, 1) := by decide +kernel
theorem d_Md_byRoot_13 : decode b_Md_byRoot 13 = .ok (.ldc2_w 158, 3) := by decide +kernel
theorem d_Md_byRoot_16 : decode b_Md_byRoot 16 = .ok (.lrem, 1) := by decide +kernel
theorem d_Md_byRoot_17 : decode b_Md_byRoot 17 = .ok (.lconst 0, 1) := by decide +kernel
theorem d_Md_byRoot_18 : decode b_Md_byRoot 18 = .ok (.lcmp, 1) := by decide +kernel
theorem d_Md_byRoot_19 : decode b_Md_byRoot 19 = .ok (.ifCond .ne 25, 3) := by decide +kernel
theorem d_Md_byRoot_22 : decode b_Md_byRoot 22 = .ok (.aload_n 0, 1) := by decide +kernel
theorem d_Md_byRoot_23 : decode b_Md_byRoot 23 = .ok (.getfield 40, 3) := by decide +kernel
theorem d_Md_byRoot_26 : decode b_Md_byRoot 26 = .ok (.iconst 1, 1) := by decide +kernel
theorem d_Md_byRoot_27 : decode b_Md_byRoot 27 = .ok (.laload, 1) := by decide +kernel
theorem d_Md_byRoot_28 : decode b_Md_byRoot 28 = .ok (.aload_n 0, 1) := by decide +kernel
theorem d_Md_byRoot_29 : decode b_Md_byRoot 29 = .ok (.getfield 40, 3) := by decide +kernel
theorem d_Md_byRoot_32 : decode b_Md_byRoot 32 = .ok (.iconst 3, 1) := by decide +kernel
theorem d_Md_byRoot_33 : decode b_Md_byRoot 33 = .ok (.laload, 1) := by decide +kernel
theorem d_Md_byRoot_34 : decode b_Md_byRoot 34 = .ok (.ladd, 1) := by decide +kernel
theorem d_Md_byRoot_35 : decode b_Md_byRoot 35 = .ok (.ldc2_w 158, 3) := by decide +kernel
theorem d_Md_byRoot_38 : decode b_Md_byRoot 38 = .ok (.lrem, 1) := by decide +kernel
theorem d_Md_byRoot_39 : decode b_Md_byRoot 39 = .ok (.lconst 0, 1) := by decide +kernel
theorem d_Md_byRoot_40 : decode b_Md_byRoot 40 = .ok (.lcmp, 1) := by decide +kernel
theorem d_Md_byRoot_41 : decode b_Md_byRoot 41 = .ok (.ifCond .eq 5, 3) := by decide +kernel
theorem d_Md_byRoot_44 : decode b_Md_byRoot 44 = .ok (.iconst 0, 1) := by decide +kernel
theorem d_Md_byRoot_45 : decode b_Md_byRoot 45 = .ok (.ireturn, 1) := by decide +kernel
theorem d_Md_byRoot_46 : decode b_Md_byRoot 46 = .ok (.aload_n 0, 1) := by decide +kernel
theorem d_Md_byRoot_47 : decode b_Md_byRoot 47 = .ok (.invokevirtual 160, 3) := by decide +kernel
theorem d_Md_byRoot_50 : decode b_Md_byRoot 50 = .ok (.iconst 0, 1) := by decide +kernel
theorem d_Md_byRoot_51 : decode b_Md_byRoot 51 = .ok (.istore_n 1, 1) := by decide +kernel
theorem d_Md_byRoot_52 : decode b_Md_byRoot 52 = .ok (.iload_n 1, 1) := by decide +kernel
theorem d_Md_byRoot_53 : decode b_Md_byRoot 53 = .ok (.iconst 4, 1) := by decide +kernel
theorem d_Md_byRoot_54 : decode b_Md_byRoot 54 = .ok (.if_icmp .ge 25, 3) := by decide +kernel
theorem d_Md_byRoot_57 : decode b_Md_byRoot 57 = .ok (.aload_n 0, 1) := by decide +kernel
theorem d_Md_byRoot_58 : decode b_Md_byRoot 58 = .ok (.getfield 40, 3) := by decide +kernel
theorem d_Md_byRoot_61 : decode b_Md_byRoot 61 = .ok (.iload_n 1, 1) := by decide +kernel
theorem d_Md_byRoot_62 : decode b_Md_byRoot 62 = .ok (.aload_n 0, 1) := by decide +kernel
theorem d_Md_byRoot_63 : decode b_Md_byRoot 63 = .ok (.getfield 40, 3) := by decide +kernel
theorem d_Md_byRoot_66 : decode b_Md_byRoot 66 = .ok (.iload_n 1, 1) := by decide +kernel
theorem d_Md_byRoot_67 : decode b_Md_byRoot 67 = .ok (.laload, 1) := by decide +kernel
theorem d_Md_byRoot_68 : decode b_Md_byRoot 68 = .ok (.ldc2_w 158, 3) := by decide +kernel
theorem d_Md_byRoot_71 : decode b_Md_byRoot 71 = .ok (.ldiv, 1) := by decide +kernel
theorem d_Md_byRoot_72 : decode b_Md_byRoot 72 = .ok (.lastore, 1) := by decide +kernel
theorem d_Md_byRoot_73 : decode b_Md_byRoot 73 = .ok (.iinc 1 1, 3) := by decide +kernel
theorem d_Md_byRoot_76 : decode b_Md_byRoot 76 = .ok (.goto (-24), 3) := by decide +kernel
theorem d_Md_byRoot_79 : decode b_Md_byRoot 79 = .ok (.iconst 1, 1) := by decide +kernel
theorem d_Md_byRoot_80 : decode b_Md_byRoot 80 = .ok (.ireturn, 1) := by decide +kernel
theorem d_Md_settle_0 : decode b_Md_settle 0 = .ok (.aload_n 0, 1) := by decide +kernel
theorem d_Md_settle_1 : decode b_Md_settle 1 = .ok (.getfield 40, 3) := by decide +kernel
theorem d_Md_settle_4 : decode b_Md_settle 4 = .ok (.iconst 4, 1) := by decide +kernel
theorem d_Md_settle_5 : decode b_Md_settle 5 = .ok (.aload_n 0, 1) := by decide +kernel
theorem d_Md_settle_6 : decode b_Md_settle 6 = .ok (.getfield 86, 3) := by decide +kernel
theorem d_Md_settle_9 : decode b_Md_settle 9 = .ok (.i2l, 1) := by decide +kernel
theorem d_Md_settle_10 : decode b_Md_settle 10 = .ok (.lastore, 1) := by decide +kernel
theorem d_Md_settle_11 : decode b_Md_settle 11 = .ok (.aload_n 0, 1) := by decide +kernel
theorem d_Md_settle_12 : decode b_Md_settle 12 = .ok (.getfield 40, 3) := by decide +kernel
theorem d_Md_settle_15 : decode b_Md_settle 15 = .ok (.iconst 4, 1) := by decide +kernel
theorem d_Md_settle_16 : decode b_Md_settle 16 = .ok (.laload, 1) := by decide +kernel
theorem d_Md_settle_17 : decode b_Md_settle 17 = .ok (.lconst 0, 1) := by decide +kernel
theorem d_Md_settle_18 : decode b_Md_settle 18 = .ok (.lcmp, 1) := by decide +kernel
theorem d_Md_settle_19 : decode b_Md_settle 19 = .ok (.ifCond .ge 20, 3) := by decide +kernel
theorem d_Md_settle_22 : decode b_Md_settle 22 = .ok (.aload_n 0, 1) := by decide +kernel
theorem d_Md_settle_23 : decode b_Md_settle 23 = .ok (.invokevirtual 160, 3) := by decide +kernel
theorem d_Md_settle_26 : decode b_Md_settle 26 = .ok (.aload_n 0, 1) := by decide +kernel
theorem d_Md_settle_27 : decode b_Md_settle 27 = .ok (.getfield 40, 3) := by decide +kernel
theorem d_Md_settle_30 : decode b_Md_settle 30 = .ok (.iconst 4, 1) := by decide +kernel
theorem d_Md_settle_31 : decode b_Md_settle 31 = .ok (.dup2, 1) := by decide +kernel
theorem d_Md_settle_32 : decode b_Md_settle 32 = .ok (.laload, 1) := by decide +kernel
theorem d_Md_settle_33 : decode b_Md_settle 33 = .ok (.lconst 1, 1) := by decide +kernel
theorem d_Md_settle_34 : decode b_Md_settle 34 = .ok (.ladd, 1) := by decide +kernel
theorem d_Md_settle_35 : decode b_Md_settle 35 = .ok (.lastore, 1) := by decide +kernel
theorem d_Md_settle_36 : decode b_Md_settle 36 = .ok (.goto (-25), 3) := by decide +kernel
theorem d_Md_settle_39 : decode b_Md_settle 39 = .ok (.aload_n 0, 1) := by decide +kernel
theorem d_Md_settle_40 : decode b_Md_settle 40 = .ok (.getfield 40, 3) := by decide +kernel
theorem d_Md_settle_43 : decode b_Md_settle 43 = .ok (.iconst 0, 1) := by decide +kernel
theorem d_Md_settle_44 : decode b_Md_settle 44 = .ok (.laload, 1) := by decide +kernel
theorem d_Md_settle_45 : decode b_Md_settle 45 = .ok (.lconst 0, 1) := by decide +kernel
theorem d_Md_settle_46 : decode b_Md_settle 46 = .ok (.lcmp, 1) := by decide +kernel
theorem d_Md_settle_47 : decode b_Md_settle 47 = .ok (.ifCond .ne 40, 3) := by decide +kernel
theorem d_Md_settle_50 : decode b_Md_settle 50 = .ok (.aload_n 0, 1) := by decide +kernel
theorem d_Md_settle_51 : decode b_Md_settle 51 = .ok (.getfield 40, 3) := by decide +kernel
theorem d_Md_settle_54 : decode b_Md_settle 54 = .ok (.iconst 1, 1) := by decide +kernel
theorem d_Md_settle_55 : decode b_Md_settle 55 = .ok (.laload, 1) := by decide +kernel
theorem d_Md_settle_56 : decode b_Md_settle 56 = .ok (.lconst 0, 1) := by decide +kernel
theorem d_Md_settle_57 : decode b_Md_settle 57 = .ok (.lcmp, 1) := by decide +kernel
theorem d_Md_settle_58 : decode b_Md_settle 58 = .ok (.ifCond .ne 29, 3) := by decide +kernel
theorem d_Md_settle_61 : decode b_Md_settle 61 = .ok (.aload_n 0, 1) := by decide +kernel
theorem d_Md_settle_62 : decode b_Md_settle 62 = .ok (.getfield 40, 3) := by decide +kernel
theorem d_Md_settle_65 : decode b_Md_settle 65 = .ok (.iconst 2, 1) := by decide +kernel
theorem d_Md_settle_66 : decode b_Md_settle 66 = .ok (.laload, 1) := by decide +kernel
theorem d_Md_settle_67 : decode b_Md_settle 67 = .ok (.lconst 0, 1) := by decide +kernel
theorem d_Md_settle_68 : decode b_Md_settle 68 = .ok (.lcmp, 1) := by decide +kernel
theorem d_Md_settle_69 : decode b_Md_settle 69 = .ok (.ifCond .ne 18, 3) := by decide +kernel
theorem d_Md_settle_72 : decode b_Md_settle 72 = .ok (.aload_n 0, 1) := by decide +kernel
theorem d_Md_settle_73 : decode b_Md_settle 73 = .ok (.getfield 40, 3) := by decide +kernel
theorem d_Md_settle_76 : decode b_Md_settle 76 = .ok (.iconst 3, 1) := by decide +kernel
theorem d_Md_settle_77 : decode b_Md_settle 77 = .ok (.laload, 1) := by decide +kernel
theorem d_Md_settle_78 : decode b_Md_settle 78 = .ok (.lconst 0, 1) := by decide +kernel
theorem d_Md_settle_79 : decode b_Md_settle 79 = .ok (.lcmp, 1) := by decide +kernel
theorem d_Md_settle_80 : decode b_Md_settle 80 = .ok (.ifCond .ne 7, 3) := by decide +kernel
theorem d_Md_settle_83 : decode b_Md_settle 83 = .ok (.iconst 1, 1) := by decide +kernel
theorem d_Md_settle_84 : decode b_Md_settle 84 = .ok (.goto 4, 3) := by decide +kernel
theorem d_Md_settle_87 : decode b_Md_settle 87 = .ok (.iconst 0, 1) := by decide +kernel
theorem d_Md_settle_88 : decode b_Md_settle 88 = .ok (.istore_n 1, 1) := by decide +kernel
theorem d_Md_settle_89 : decode b_Md_settle 89 = .ok (.iload_n 1, 1) := by decide +kernel
theorem d_Md_settle_90 : decode b_Md_settle 90 = .ok (.ifCond .eq 10, 3) := by decide +kernel
theorem d_Md_settle_93 : decode b_Md_settle 93 = .ok (.aload_n 0, 1) := by decide +kernel
theorem d_Md_settle_94 : decode b_Md_settle 94 = .ok (.getfield 40, 3) := by decide +kernel
theorem d_Md_settle_97 : decode b_Md_settle 97 = .ok (.iconst 4, 1) := by decide +kernel
theorem d_Md_settle_98 : decode b_Md_settle 98 = .ok (.lconst 0, 1) := by decide +kernel
theorem d_Md_settle_99 : decode b_Md_settle 99 = .ok (.lastore, 1) := by decide +kernel
theorem d_Md_settle_100 : decode b_Md_settle 100 = .ok (.aload_n 0, 1) := by decide +kernel
theorem d_Md_settle_101 : decode b_Md_settle 101 = .ok (.getfield 40, 3) := by decide +kernel
theorem d_Md_settle_104 : decode b_Md_settle 104 = .ok (.iconst 4, 1) := by decide +kernel
theorem d_Md_settle_105 : decode b_Md_settle 105 = .ok (.laload, 1) := by decide +kernel
theorem d_Md_settle_106 : decode b_Md_settle 106 = .ok (.lconst 0, 1) := by decide +kernel
theorem d_Md_settle_107 : decode b_Md_settle 107 = .ok (.lcmp, 1) := by decide +kernel
theorem d_Md_settle_108 : decode b_Md_settle 108 = .ok (.ifCond .le 23, 3) := by decide +kernel
theorem d_Md_settle_111 : decode b_Md_settle 111 = .ok (.aload_n 0, 1) := by decide +kernel
theorem d_Md_settle_112 : decode b_Md_settle 112 = .ok (.invokevirtual 163, 3) := by decide +kernel
theorem d_Md_settle_115 : decode b_Md_settle 115 = .ok (.ifCond .eq 16, 3) := by decide +kernel
theorem d_Md_settle_118 : decode b_Md_settle 118 = .ok (.aload_n 0, 1) := by decide +kernel
theorem d_Md_settle_119 : decode b_Md_settle 119 = .ok (.getfield 40, 3) := by decide +kernel
theorem d_Md_settle_122 : decode b_Md_settle 122 = .ok (.iconst 4, 1) := by decide +kernel
theorem d_Md_settle_123 : decode b_Md_settle 123 = .ok (.dup2, 1) := by decide +kernel
theorem d_Md_settle_124 : decode b_Md_settle 124 = .ok (.laload, 1) := by decide +kernel
theorem d_Md_settle_125 : decode b_Md_settle 125 = .ok (.lconst 1, 1) := by decide +kernel
theorem d_Md_settle_126 : decode b_Md_settle 126 = .ok (.lsub, 1) := by decide +kernel
theorem d_Md_settle_127 : decode b_Md_settle 127 = .ok (.lastore, 1) := by decide +kernel
theorem d_Md_settle_128 : decode b_Md_settle 128 = .ok (.goto (-28), 3) := by decide +kernel
theorem d_Md_settle_131 : decode b_Md_settle 131 = .ok (.return_, 1) := by decide +kernel
theorem d_Md_raise_0 : decode b_Md_raise 0 = .ok (.aload_n 0, 1) := by decide +kernel
theorem d_Md_raise_1 : decode b_Md_raise 1 = .ok (.iload_n 1, 1) := by decide +kernel
theorem d_Md_raise_2 : decode b_Md_raise 2 = .ok (.putfield 48, 3) := by decide +kernel
theorem d_Md_raise_5 : decode b_Md_raise 5 = .ok (.lconst 0, 1) := by decide +kernel
theorem d_Md_raise_6 : decode b_Md_raise 6 = .ok (.lreturn, 1) := by decide +kernel
theorem d_Md_value_0 : decode b_Md_value 0 = .ok (.iload_n 2, 1) := by decide +kernel
theorem d_Md_value_1 : decode b_Md_value 1 = .ok (.ifCond .lt 47, 3) := by decide +kernel
theorem d_Md_value_4 : decode b_Md_value 4 = .ok (.iload_n 2, 1) := by decide +kernel
theorem d_Md_value_5 : decode b_Md_value 5 = .ok (.iconst 1, 1) := by decide +kernel
theorem d_Md_value_6 : decode b_Md_value 6 = .ok (.aload_n 0, 1) := by decide +kernel
theorem d_Md_value_7 : decode b_Md_value 7 = .ok (.getfield 70, 3) := by decide +kernel
theorem d_Md_value_10 : decode b_Md_value 10 = .ok (.ishl, 1) := by decide +kernel
theorem d_Md_value_11 : decode b_Md_value 11 = .ok (.if_icmp .ge 37, 3) := by decide +kernel
theorem d_Md_value_14 : decode b_Md_value 14 = .ok (.iload_n 3, 1) := by decide +kernel
theorem d_Md_value_15 : decode b_Md_value 15 = .ok (.ifCond .lt 33, 3) := by decide +kernel
theorem d_Md_value_18 : decode b_Md_value 18 = .ok (.iload_n 3, 1) := by decide +kernel
theorem d_Md_value_19 : decode b_Md_value 19 = .ok (.iconst 4, 1) := by decide +kernel
theorem d_Md_value_20 : decode b_Md_value 20 = .ok (.if_icmp .gt 28, 3) := by decide +kernel
theorem d_Md_value_23 : decode b_Md_value 23 = .ok (.aload_n 0, 1) := by decide +kernel
theorem d_Md_value_24 : decode b_Md_value 24 = .ok (.getfield 73, 3) := by decide +kernel
theorem d_Md_value_27 : decode b_Md_value 27 = .ok (.ifCond .eq 17, 3) := by decide +kernel
theorem d_Md_value_30 : decode b_Md_value 30 = .ok (.iload_n 1, 1) := by decide +kernel
theorem d_Md_value_31 : decode b_Md_value 31 = .ok (.ifCond .lt 17, 3) := by decide +kernel
theorem d_Md_value_34 : decode b_Md_value 34 = .ok (.iload_n 1, 1) := by decide +kernel
theorem d_Md_value_35 : decode b_Md_value 35 = .ok (.iconst 1, 1) := by decide +kernel
theorem d_Md_value_36 : decode b_Md_value 36 = .ok (.aload_n 0, 1) := by decide +kernel
theorem d_Md_value_37 : decode b_Md_value 37 = .ok (.getfield 70, 3) := by decide +kernel
theorem d_Md_value_40 : decode b_Md_value 40 = .ok (.ishl, 1) := by decide +kernel
theorem d_Md_value_41 : decode b_Md_value 41 = .ok (.if_icmp .ge 7, 3) := by decide +kernel
theorem d_Md_value_44 : decode b_Md_value 44 = .ok (.iconst 1, 1) := by decide +kernel
theorem d_Md_value_45 : decode b_Md_value 45 = .ok (.goto 4, 3) := by decide +kernel
theorem d_Md_value_48 : decode b_Md_value 48 = .ok (.iconst 0, 1) := by decide +kernel
theorem d_Md_value_49 : decode b_Md_value 49 = .ok (.istore 4, 2) := by decide +kernel
theorem d_Md_value_51 : decode b_Md_value 51 = .ok (.iload 4, 2) := by decide +kernel
theorem d_Md_value_53 : decode b_Md_value 53 = .ok (.ifCond .ne 9, 3) := by decide +kernel
theorem d_Md_value_56 : decode b_Md_value 56 = .ok (.aload_n 0, 1) := by decide +kernel
theorem d_Md_value_57 : decode b_Md_value 57 = .ok (.iconst 1, 1) := by decide +kernel
theorem d_Md_value_58 : decode b_Md_value 58 = .ok (.invokevirtual 167, 3) := by decide +kernel
theorem d_Md_value_61 : decode b_Md_value 61 = .ok (.lreturn, 1) := by decide +kernel
theorem d_Md_value_62 : decode b_Md_value 62 = .ok (.aload_n 0, 1) := by decide +kernel
theorem d_Md_value_63 : decode b_Md_value 63 = .ok (.getfield 83, 3) := by decide +kernel
theorem d_Md_value_66 : decode b_Md_value 66 = .ok (.aload_n 0, 1) := by decide +kernel
theorem d_Md_value_67 : decode b_Md_value 67 = .ok (.invokevirtual 115, 3) := by decide +kernel
theorem d_Md_value_70 : decode b_Md_value 70 = .ok (.iconst (-1), 1) := by decide +kernel
theorem d_Md_value_71 : decode b_Md_value 71 = .ok (.ixor, 1) := by decide +kernel
theorem d_Md_value_72 : decode b_Md_value 72 = .ok (.iand, 1) := by decide +kernel
theorem d_Md_value_73 : decode b_Md_value 73 = .ok (.istore 5, 2) := by decide +kernel
theorem d_Md_value_75 : decode b_Md_value 75 = .ok (.iload 5, 2) := by decide +kernel
theorem d_Md_value_77 : decode b_Md_value 77 = .ok (.invokestatic 56, 3) := by decide +kernel
theorem d_Md_value_80 : decode b_Md_value 80 = .ok (.bipush 12, 2) := by decide +kernel
theorem d_Md_value_82 : decode b_Md_value 82 = .ok (.if_icmp .le 9, 3) := by decide +kernel
theorem d_Md_value_85 : decode b_Md_value 85 = .ok (.aload_n 0, 1) := by decide +kernel
theorem d_Md_value_86 : decode b_Md_value 86 = .ok (.iconst 2, 1) := by decide +kernel
theorem d_Md_value_87 : decode b_Md_value 87 = .ok (.invokevirtual 167, 3) := by decide +kernel
theorem d_Md_value_90 : decode b_Md_value 90 = .ok (.lreturn, 1) := by decide +kernel
theorem d_Md_value_91 : decode b_Md_value 91 = .ok (.aload_n 0, 1) := by decide +kernel
theorem d_Md_value_92 : decode b_Md_value 92 = .ok (.iconst 0, 1) := by decide +kernel
theorem d_Md_value_93 : decode b_Md_value 93 = .ok (.putfield 48, 3) := by decide +kernel
theorem d_Md_value_96 : decode b_Md_value 96 = .ok (.iconst 0, 1) := by decide +kernel
theorem d_Md_value_97 : decode b_Md_value 97 = .ok (.istore 6, 2) := by decide +kernel
theorem d_Md_value_99 : decode b_Md_value 99 = .ok (.iload 6, 2) := by decide +kernel
theorem d_Md_value_101 : decode b_Md_value 101 = .ok (.iconst 5, 1) := by decide +kernel
theorem d_Md_value_102 : decode b_Md_value 102 = .ok (.if_icmp .ge 17, 3) := by decide +kernel
theorem d_Md_value_105 : decode b_Md_value 105 = .ok (.aload_n 0, 1) := by decide +kernel
theorem d_Md_value_106 : decode b_Md_value 106 = .ok (.getfield 40, 3) := by decide +kernel
theorem d_Md_value_109 : decode b_Md_value 109 = .ok (.iload 6, 2) := by decide +kernel
theorem d_Md_value_111 : decode b_Md_value 111 = .ok (.lconst 0, 1) := by decide +kernel
theorem d_Md_value_112 : decode b_Md_value 112 = .ok (.lastore, 1) := by decide +kernel
theorem d_Md_value_113 : decode b_Md_value 113 = .ok (.iinc 6 1, 3) := by decide +kernel
theorem d_Md_value_116 : decode b_Md_value 116 = .ok (.goto (-17), 3) := by decide +kernel
theorem d_Md_value_119 : decode b_Md_value 119 = .ok (.aload_n 0, 1) := by decide +kernel
theorem d_Md_value_120 : decode b_Md_value 120 = .ok (.invokevirtual 171, 3) := by decide +kernel
theorem d_Md_value_123 : decode b_Md_value 123 = .ok (.iconst 0, 1) := by decide +kernel
theorem d_Md_value_124 : decode b_Md_value 124 = .ok (.istore 6, 2) := by decide +kernel
theorem d_Md_value_126 : decode b_Md_value 126 = .ok (.iload 6, 2) := by decide +kernel
theorem d_Md_value_128 : decode b_Md_value 128 = .ok (.iconst 1, 1) := by decide +kernel
theorem d_Md_value_129 : decode b_Md_value 129 = .ok (.iload 5, 2) := by decide +kernel
theorem d_Md_value_131 : decode b_Md_value 131 = .ok (.invokestatic 56, 3) := by decide +kernel
theorem d_Md_value_134 : decode b_Md_value 134 = .ok (.ishl, 1) := by decide +kernel
theorem d_Md_value_135 : decode b_Md_value 135 = .ok (.if_icmp .ge 84, 3) := by decide +kernel
theorem d_Md_value_138 : decode b_Md_value 138 = .ok (.aload_n 0, 1) := by decide +kernel
theorem d_Md_value_139 : decode b_Md_value 139 = .ok (.getfield 77, 3) := by decide +kernel
theorem d_Md_value_142 : decode b_Md_value 142 = .ok (.ifCond .ne 77, 3) := by decide +kernel
theorem d_Md_value_145 : decode b_Md_value 145 = .ok (.iload 6, 2) := by decide +kernel
theorem d_Md_value_147 : decode b_Md_value 147 = .ok (.iload 5, 2) := by decide +kernel
theorem d_Md_value_149 : decode b_Md_value 149 = .ok (.invokestatic 174, 3) := by decide +kernel
theorem d_Md_value_152 : decode b_Md_value 152 = .ok (.aload_n 0, 1) := by decide +kernel
theorem d_Md_value_153 : decode b_Md_value 153 = .ok (.getfield 73, 3) := by decide +kernel
theorem d_Md_value_156 : decode b_Md_value 156 = .ok (.ifCond .eq 7, 3) := by decide +kernel
theorem d_Md_value_159 : decode b_Md_value 159 = .ok (.iload_n 1, 1) := by decide +kernel
theorem d_Md_value_160 : decode b_Md_value 160 = .ok (.goto 4, 3) := by decide +kernel
theorem d_Md_value_163 : decode b_Md_value 163 = .ok (.iconst 0, 1) := by decide +kernel
theorem d_Md_value_164 : decode b_Md_value 164 = .ok (.ior, 1) := by decide +kernel
theorem d_Md_value_165 : decode b_Md_value 165 = .ok (.istore 7, 2) := by decide +kernel
theorem d_Md_value_167 : decode b_Md_value 167 = .ok (.aload_n 0, 1) := by decide +kernel
theorem d_Md_value_168 : decode b_Md_value 168 = .ok (.iload 7, 2) := by decide +kernel
theorem d_Md_value_170 : decode b_Md_value 170 = .ok (.iload_n 2, 1) := by decide +kernel
theorem d_Md_value_171 : decode b_Md_value 171 = .ok (.invokevirtual 178, 3) := by decide +kernel
theorem d_Md_value_174 : decode b_Md_value 174 = .ok (.ifCond .ne 6, 3) := by decide +kernel
theorem d_Md_value_177 : decode b_Md_value 177 = .ok (.goto 36, 3) := by decide +kernel
theorem d_Md_value_180 : decode b_Md_value 180 = .ok (.aload_n 0, 1) := by decide +kernel
theorem d_Md_value_181 : decode b_Md_value 181 = .ok (.iload 7, 2) := by decide +kernel
theorem d_Md_value_183 : decode b_Md_value 183 = .ok (.invokevirtual 182, 3) := by decide +kernel
theorem d_Md_value_186 : decode b_Md_value 186 = .ok (.istore 8, 2) := by decide +kernel
theorem d_Md_value_188 : decode b_Md_value 188 = .ok (.aload_n 0, 1) := by decide +kernel
theorem d_Md_value_189 : decode b_Md_value 189 = .ok (.getfield 40, 3) := by decide +kernel
theorem d_Md_value_192 : decode b_Md_value 192 = .ok (.iload 8, 2) := by decide +kernel
theorem d_Md_value_194 : decode b_Md_value 194 = .ok (.iconst 3, 1) := by decide +kernel
theorem d_Md_value_195 : decode b_Md_value 195 = .ok (.iand, 1) := by decide +kernel
theorem d_Md_value_196 : decode b_Md_value 196 = .ok (.dup2, 1) := by decide +kernel
theorem d_Md_value_197 : decode b_Md_value 197 = .ok (.laload, 1) := by decide +kernel
theorem d_Md_value_198 : decode b_Md_value 198 = .ok (.iload 8, 2) := by decide +kernel
theorem d_Md_value_200 : decode b_Md_value 200 = .ok (.iconst 4, 1) := by decide +kernel
theorem d_Md_value_201 : decode b_Md_value 201 = .ok (.if_icmp .ge 7, 3) := by decide +kernel
theorem d_Md_value_204 : decode b_Md_value 204 = .ok (.lconst 1, 1) := by decide +kernel
theorem d_Md_value_205 : decode b_Md_value 205 = .ok (.goto 6, 3) := by decide +kernel
theorem d_Md_value_208 : decode b_Md_value 208 = .ok (.ldc2_w 185, 3) := by decide +kernel
theorem d_Md_value_211 : decode b_Md_value 211 = .ok (.ladd, 1) := by decide +kernel
theorem d_Md_value_212 : decode b_Md_value 212 = .ok (.lastore, 1) := by decide +kernel
theorem d_Md_value_213 : decode b_Md_value 213 = .ok (.iinc 6 1, 3) := by decide +kernel
theorem d_Md_value_216 : decode b_Md_value 216 = .ok (.goto (-90), 3) := by decide +kernel
theorem d_Md_value_219 : decode b_Md_value 219 = .ok (.aload_n 0, 1) := by decide +kernel
theorem d_Md_value_220 : decode b_Md_value 220 = .ok (.invokevirtual 187, 3) := by decide +kernel
theorem d_Md_value_223 : decode b_Md_value 223 = .ok (.aload_n 0, 1) := by decide +kernel
theorem d_Md_value_224 : decode b_Md_value 224 = .ok (.getfield 40, 3) := by decide +kernel
theorem d_Md_value_227 : decode b_Md_value 227 = .ok (.iload_n 3, 1) := by decide +kernel
theorem d_Md_value_228 : decode b_Md_value 228 = .ok (.laload, 1) := by decide +kernel
theorem d_Md_value_229 : decode b_Md_value 229 = .ok (.lreturn, 1) := by decide +kernel
theorem d_Md_total_0 : decode b_Md_total 0 = .ok (.aload_n 0, 1) := by decide +kernel
theorem d_Md_total_1 : decode b_Md_total 1 = .ok (.iconst 0, 1) := by decide +kernel
theorem d_Md_total_2 : decode b_Md_total 2 = .ok (.putfield 48, 3) := by decide +kernel
theorem d_Md_total_5 : decode b_Md_total 5 = .ok (.iload_n 1, 1) := by decide +kernel
theorem d_Md_total_6 : decode b_Md_total 6 = .ok (.tableswitch 97 0 6 #[42, 47, 52, 57, 66, 71, 84], 42) := by decide +kernel
theorem d_Md_total_48 : decode b_Md_total 48 = .ok (.aload_n 0, 1) := by decide +kernel
theorem d_Md_total_49 : decode b_Md_total 49 = .ok (.getfield 70, 3) := by decide +kernel
theorem d_Md_total_52 : decode b_Md_total 52 = .ok (.ireturn, 1) := by decide +kernel
theorem d_Md_total_53 : decode b_Md_total 53 = .ok (.aload_n 0, 1) := by decide +kernel
theorem d_Md_total_54 : decode b_Md_total 54 = .ok (.getfield 83, 3) := by decide +kernel
theorem d_Md_total_57 : decode b_Md_total 57 = .ok (.ireturn, 1) := by decide +kernel
theorem d_Md_total_58 : decode b_Md_total 58 = .ok (.aload_n 0, 1) := by decide +kernel
theorem d_Md_total_59 : decode b_Md_total 59 = .ok (.getfield 80, 3) := by decide +kernel
theorem d_Md_total_62 : decode b_Md_total 62 = .ok (.ireturn, 1) := by decide +kernel
theorem d_Md_total_63 : decode b_Md_total 63 = .ok (.aload_n 0, 1) := by decide +kernel
theorem d_Md_total_64 : decode b_Md_total 64 = .ok (.invokevirtual 171, 3) := by decide +kernel
theorem d_Md_total_67 : decode b_Md_total 67 = .ok (.aload_n 0, 1) := by decide +kernel
theorem d_Md_total_68 : decode b_Md_total 68 = .ok (.getfield 152, 3) := by decide +kernel
theorem d_Md_total_71 : decode b_Md_total 71 = .ok (.ireturn, 1) := by decide +kernel
theorem d_Md_total_72 : decode b_Md_total 72 = .ok (.aload_n 0, 1) := by decide +kernel
theorem d_Md_total_73 : decode b_Md_total 73 = .ok (.getfield 89, 3) := by decide +kernel
theorem d_Md_total_76 : decode b_Md_total 76 = .ok (.ireturn, 1) := by decide +kernel
theorem d_Md_total_77 : decode b_Md_total 77 = .ok (.aload_n 0, 1) := by decide +kernel
theorem d_Md_total_78 : decode b_Md_total 78 = .ok (.getfield 77, 3) := by decide +kernel
theorem d_Md_total_81 : decode b_Md_total 81 = .ok (.ifCond .eq 7, 3) := by decide +kernel
theorem d_Md_total_84 : decode b_Md_total 84 = .ok (.iconst 1, 1) := by decide +kernel
theorem d_Md_total_85 : decode b_Md_total 85 = .ok (.goto 4, 3) := by decide +kernel
theorem d_Md_total_88 : decode b_Md_total 88 = .ok (.iconst 0, 1) := by decide +kernel
theorem d_Md_total_89 : decode b_Md_total 89 = .ok (.ireturn, 1) := by decide +kernel
theorem d_Md_total_90 : decode b_Md_total 90 = .ok (.aload_n 0, 1) := by decide +kernel
theorem d_Md_total_91 : decode b_Md_total 91 = .ok (.getfield 73, 3) := by decide +kernel
theorem d_Md_total_94 : decode b_Md_total 94 = .ok (.ifCond .eq 7, 3) := by decide +kernel
theorem d_Md_total_97 : decode b_Md_total 97 = .ok (.iconst 1, 1) := by decide +kernel
theorem d_Md_total_98 : decode b_Md_total 98 = .ok (.goto 4, 3) := by decide +kernel
theorem d_Md_total_101 : decode b_Md_total 101 = .ok (.iconst 0, 1) := by decide +kernel
theorem d_Md_total_102 : decode b_Md_total 102 = .ok (.ireturn, 1) := by decide +kernel
theorem d_Md_total_103 : decode b_Md_total 103 = .ok (.iconst (-1), 1) := by decide +kernel
theorem d_Md_total_104 : decode b_Md_total 104 = .ok (.ireturn, 1) := by decide +kernel
theorem d_Md_halves_0 : decode b_Md_halves 0 = .ok (.aload_n 0, 1) := by decide +kernel
theorem d_Md_halves_1 : decode b_Md_halves 1 = .ok (.iconst 0, 1) := by decide +kernel
theorem d_Md_halves_2 : decode b_Md_halves 2 = .ok (.putfield 48, 3) := by decide +kernel
theorem d_Md_halves_5 : decode b_Md_halves 5 = .ok (.aload_n 0, 1) := by decide +kernel
theorem d_Md_halves_6 : decode b_Md_halves 6 = .ok (.getfield 86, 3) := by decide +kernel
theorem d_Md_halves_9 : decode b_Md_halves 9 = .ok (.ireturn, 1) := by decide +kernel
